/-! PURE PART: page, next, told, tree -/
section Q2
variable {hd : HDp} {N nf nb ev tm dc rr : Nat} {LA LI LS : List (Nat × Nat)} {c m : St}
theorem shOf (R : Rel hd nf nb LA LI LS ev tm dc rr c m) {p : Nat} (hp : p < 3072) : (m.2.1 8 p = 0 ∧ pf_X4_of N nf nb (nI p) c = some (-1)) ∨ ∃ v, 0 < v ∧ v < 2 ^ 31 ∧ m.2.1 8 p = nI v ∧ pf_X4_of N nf nb (nI p) c = some (nI v) := by
  obtain ⟨a1, a2, a3, a4, a5, a6, a7, a8, a9⟩ := R.S
  have hev := R.1.2.2.2.2.1
  unfold pf_X4_of
  rw [if_neg (nI_pos (by omega)), show (3072 : Int32) = nI 3072 from rfl, il_n (by omega) (by omega), if_pos hp, bI_n hp (by decide), cl_n (by omega)]
  by_cases hm : p ∈ LS.map Prod.fst
  · obtain ⟨⟨q, v⟩, h1, e⟩ := List.mem_map.mp hm
    have e : q = p := e
    subst e
    obtain ⟨x1, x2, x3, x4, x5, x6⟩ := a8 q v h1
    exact Or.inr ⟨v, x2, by omega, x5, by rw [x4]⟩
  · obtain ⟨y1, y2⟩ := a9 p hp hm
    exact Or.inl ⟨y2, by rw [y1]⟩
theorem isOut (R : Rel hd nf nb LA LI LS ev tm dc rr c m) {p : Nat} (hp : p < 3072) (h : m.2.1 5 p = -1) : m.2.1 7 p = -1 ∧ m.2.1 9 p = 0 ∧ m.2.1 10 p = 0 ∧ m.2.1 11 p = 0 := by
  have hnf := R.1.2.1
  rcases R.F.1 p hp with ⟨a1, a2⟩ | ⟨f, hf, a1, -⟩
  · exact a2
  · exact absurd (a1.symm.trans h) (m1_ne (by omega))
theorem q_page (R : Rel hd nf nb LA LI LS ev tm dc rr c m) (hN : 5000 ≤ N) (x1 x2 x3 : Int32) : ∃ r, pf_X6_page N nf nb x1 x2 x3 c = some r ∧ pf_X7_page N x1 x2 x3 m = some r := by
  have hnf := R.1.2.1
  have hL := R.L
  have hF := R.F
  have hlen := hL.len
  unfold pf_X6_page pf_X7_page
  rcases fileC (N := N) x1 with ⟨h1, h2⟩ | ⟨i, hi, e1, h1, h2⟩
  · rw [h1, h2, Option.bind_some, Option.bind_some, if_pos rfl, if_pos rfl]; exact ⟨_, rfl, rfl⟩
  rw [h1, h2, Option.bind_some, Option.bind_some, if_neg z1_ne, if_neg z1_ne]
  rcases pageC (N := N) x2 with ⟨h3, h4⟩ | ⟨k, hk, e2, h3, h4⟩
  · rw [h3, h4, Option.bind_some, Option.bind_some, if_pos rfl, if_pos rfl]; exact ⟨_, rfl, rfl⟩
  rw [h3, h4, Option.bind_some, Option.bind_some, if_neg z1_ne, if_neg z1_ne, e1, e2, spot_n, spot_m, Option.bind_some]
  have hp : 256 * i + k < 3072 := by omega
  generalize hpe : 256 * i + k = p at hp
  rw [frameOf_n hp, Option.bind_some, R.fo]
  simp only [lt_, bI_n hp (show 3072 < 2 ^ 31 by decide), cl_n (show p < 2 ^ 31 by omega)]
  by_cases hz : x3 < 0
  · rw [if_pos hz, if_neg (fun q => by rw [q] at hz; exact absurd hz (by decide)), if_neg (fun q => by rw [q] at hz; exact absurd hz (by decide)), if_neg (fun q => by rw [q] at hz; exact absurd hz (by decide)), if_neg (fun q => by rw [q] at hz; exact absurd hz (by decide)), if_neg (fun q => by rw [q] at hz; exact absurd hz (by decide)), if_neg (fun q => by rw [q] at hz; exact absurd hz (by decide)), if_neg (fun q => by rw [q] at hz; exact absurd hz (by decide)), if_neg (fun q => by rw [q] at hz; exact absurd hz (by decide))]
    exact ⟨_, rfl, rfl⟩
  rw [if_neg hz]
  by_cases h7 : x3 ≤ 7
  · rw [if_pos h7]
    by_cases c0 : x3 = 0
    · rw [if_pos c0, if_pos c0]; exact ⟨_, rfl, rfl⟩
    rw [if_neg c0, if_neg c0]
    by_cases c1 : x3 = 1
    · rw [if_pos c1, if_pos c1, R.2.2.2.2.2.2.2.2.1]; exact ⟨_, rfl, rfl⟩
    rw [if_neg c1, if_neg c1]
    by_cases c2 : x3 = 2
    · rw [if_pos c2, if_pos c2]
      rcases R.io hp with h | ⟨f, hf, g1, g2⟩
      · rw [h, if_pos rfl, (isOut R hp h).1]; exact ⟨_, rfl, rfl⟩
      · rw [g1, if_neg (m1_ne (by omega)), bI_n hf (by omega), cl_n (by omega), (R.mof hf hp g2).2.2.1]; exact ⟨_, rfl, rfl⟩
    rw [if_neg c2, if_neg c2]
    by_cases c3 : x3 = 3
    · rw [if_pos c3, if_pos c3]
      rcases shOf (N := N) R hp with ⟨g1, g2⟩ | ⟨v, hv, hv2, g1, g2⟩
      · rw [g1, g2, Option.bind_some, if_pos (by decide)]; exact ⟨_, rfl, rfl⟩
      · rw [g1, g2, Option.bind_some, if_neg (nI_nle hv hv2)]; exact ⟨_, rfl, rfl⟩
    rw [if_neg c3, if_neg c3]
    by_cases c4 : x3 = 4
    · rw [if_pos c4, if_pos c4]
      rcases R.io hp with h | ⟨f, hf, g1, g2⟩
      · rw [isIn_n hp (Or.inl h), h, Option.bind_some, if_pos rfl, if_pos rfl]
        unfold pf_X2_placeOf
        rw [if_pos (by decide)]
        exact ⟨_, rfl, rfl⟩
      · rw [isIn_n hp (Or.inr ⟨f, by omega, g1⟩), g1, Option.bind_some, if_neg (m1_ne (by omega)), if_neg z1_ne]
        unfold pf_X2_placeOf
        rw [if_neg (nI_pos (by omega)), R.2.1.1, il_n (by omega) (by omega), if_pos hf, bI_n hf (by omega), cl_n (by omega)]
        have hmf := R.mof hf hp g2
        rcases R.at hf hp g2 with ⟨ha, P, S, hl⟩ | ⟨ha, P, S, hl⟩
        · subst hl
          rw [ha, if_neg z1_ne, o_place (τ := (c.2.1 24, c.1 6)) (P := P.map Prod.fst) (S := S.map Prod.fst) (x := f) (by rw [← mp_f]; exact hL.1) (by simp at hlen ⊢; omega) (by omega) (by rw [← mp_f]; exact bd_f hL.2.2.2.2.2.2.1 hnf) (nd_f hL.2.2.2.2.1) (by omega), m_placeA (by rw [hmf.2.2.2.2.2, ha]) (by rw [← mp_s]; exact hL.2.2.1) (by simp at hlen ⊢; omega) (by rw [← mp_s]; exact bd_s hL.2.2.2.2.2.2.1) (nd_s hF hnf hL.2.2.2.2.2.2.1 hL.2.2.2.2.1) (by omega)]
          simp only [Option.bind_some, List.length_map]
          exact ⟨_, rfl, rfl⟩
        · subst hl
          rw [ha, if_pos rfl, o_place (τ := (c.2.1 26, c.1 7)) (P := P.map Prod.fst) (S := S.map Prod.fst) (x := f) (by rw [← mp_f]; exact hL.2.1) (by simp at hlen ⊢; omega) (by omega) (by rw [← mp_f]; exact bd_f hL.2.2.2.2.2.2.2 hnf) (nd_f hL.2.2.2.2.2.1) (by omega), m_placeI (by rw [hmf.2.2.2.2.2, ha]) (by rw [← mp_s]; exact hL.2.2.2.1) (by simp at hlen ⊢; omega) (by rw [← mp_s]; exact bd_s hL.2.2.2.2.2.2.2) (nd_s hF hnf hL.2.2.2.2.2.2.2 hL.2.2.2.2.2.1) (by omega)]
          simp only [Option.bind_some, List.length_map]
          exact ⟨_, rfl, rfl⟩
    rw [if_neg c4, if_neg c4]
    by_cases c5 : x3 = 5
    · rw [if_pos c5, if_pos c5]
      rcases R.io hp with h | ⟨f, hf, g1, g2⟩
      · rw [h, if_pos rfl, (isOut R hp h).2.1, if_pos rfl]; exact ⟨_, rfl, rfl⟩
      · rw [g1, if_neg (m1_ne (by omega)), bI_n hf (by omega), cl_n (by omega), (R.mof hf hp g2).2.2.2.1]
        rcases (hF.2.2 f hf).1 with h0 | h0 <;> rw [h0] <;> exact ⟨_, rfl, rfl⟩
    rw [if_neg c5, if_neg c5]
    by_cases c6 : x3 = 6
    · rw [if_pos c6, if_pos c6]
      rcases R.io hp with h | ⟨f, hf, g1, g2⟩
      · rw [h, if_pos rfl, (isOut R hp h).2.2.1, if_pos rfl]; exact ⟨_, rfl, rfl⟩
      · rw [g1, if_neg (m1_ne (by omega)), bI_n hf (by omega), cl_n (by omega), (R.mof hf hp g2).2.2.2.2.1]
        rcases (hF.2.2 f hf).2.1 with h0 | h0 <;> rw [h0] <;> exact ⟨_, rfl, rfl⟩
    have c7 : x3 = 7 := by
      obtain ⟨j, hj, e⟩ := nI_of hz
      have h8 : j ≤ 7 := (nI_leI hj (by decide)).mp (by rw [← e]; exact h7)
      rw [e] at c0 c1 c2 c3 c4 c5 c6 ⊢
      rcases (show j = 0 ∨ j = 1 ∨ j = 2 ∨ j = 3 ∨ j = 4 ∨ j = 5 ∨ j = 6 ∨ j = 7 by omega) with q | q | q | q | q | q | q | q
      · exact absurd (by rw [q]; rfl) c0
      · exact absurd (by rw [q]; rfl) c1
      · exact absurd (by rw [q]; rfl) c2
      · exact absurd (by rw [q]; rfl) c3
      · exact absurd (by rw [q]; rfl) c4
      · exact absurd (by rw [q]; rfl) c5
      · exact absurd (by rw [q]; rfl) c6
      · rw [q]; rfl
    rw [if_neg c6, if_neg c6, if_pos c7]
    rcases R.io hp with h | ⟨f, hf, g1, g2⟩
    · rw [isIn_n hp (Or.inl h), h, Option.bind_some, if_pos rfl, if_pos rfl, if_pos rfl]; exact ⟨_, rfl, rfl⟩
    · rw [isIn_n hp (Or.inr ⟨f, by omega, g1⟩), g1, Option.bind_some, if_neg (m1_ne (by omega)), if_neg (m1_ne (by omega)), if_neg z1_ne, bI_n hf (by omega), cl_n (by omega), (R.mof hf hp g2).2.2.2.2.2]
      rcases (hF.2.2 f hf).2.2 with h0 | h0 <;> rw [h0] <;> exact ⟨_, rfl, rfl⟩
  · rw [if_neg h7, if_neg (fun q => h7 (by rw [q]; decide)), if_neg (fun q => h7 (by rw [q]; decide)), if_neg (fun q => h7 (by rw [q]; decide)), if_neg (fun q => h7 (by rw [q]; decide)), if_neg (fun q => h7 (by rw [q]; decide)), if_neg (fun q => h7 (by rw [q]; decide)), if_neg (fun q => h7 (by rw [q]; decide)), if_neg (fun q => h7 (by rw [q]; decide))]
    exact ⟨_, rfl, rfl⟩
theorem markE (R : Rel hd nf nb LA LI LS ev tm dc rr c m) {p : Nat} (hp : p < 3072) (x : Int32) : ∃ b, Bo b ∧ pf_X6_isMarked N nf nb (nI p) x c = some b ∧ pf_X7_hasMark N (nI p) x m = some b := by
  have hnf := R.1.2.1
  have hF := R.F
  unfold pf_X6_isMarked pf_X7_hasMark
  rw [frameOf_n hp, Option.bind_some, R.fo]
  simp only [bI_n hp (show 3072 < 2 ^ 31 by decide), cl_n (show p < 2 ^ 31 by omega)]
  have bo0 : Bo 0 := Or.inl rfl
  have bo1 : Bo 1 := Or.inr rfl
  by_cases c0 : x = 0
  · rw [if_pos c0, if_pos c0]
    rcases R.io hp with h | ⟨f, hf, g1, g2⟩
    · rw [isIn_n hp (Or.inl h), h, if_pos rfl, if_pos rfl, Option.bind_some, bZ_b bo0]; exact ⟨0, bo0, rfl, rfl⟩
    · rw [isIn_n hp (Or.inr ⟨f, by omega, g1⟩), g1, if_neg (m1_ne (by omega)), if_neg (m1_ne (by omega)), Option.bind_some, bZ_b bo1]; exact ⟨1, bo1, rfl, rfl⟩
  rw [if_neg c0, if_neg c0]
  by_cases c1 : x = 1
  · rw [if_pos c1, if_pos c1]
    rcases R.io hp with h | ⟨f, hf, g1, g2⟩
    · rw [h]
      unfold pf_X2_isDirty pf_X7_isDirty
      rw [if_pos (by decide), bI_n hp (by decide), cl_n (by omega), (isOut R hp h).1, if_pos (by decide), Option.bind_some, bZ_b bo0]; exact ⟨0, bo0, rfl, rfl⟩
    · rw [g1]
      rcases dirtyC (N := N) R hf hp g2 with ⟨-, d1, d2⟩ | ⟨-, d1, d2⟩
      · rw [d1, d2, Option.bind_some, bZ_b bo0]; exact ⟨0, bo0, rfl, rfl⟩
      · rw [d1, d2, Option.bind_some, bZ_b bo1]; exact ⟨1, bo1, rfl, rfl⟩
  rw [if_neg c1, if_neg c1]
  by_cases c2 : x = 2
  · rw [if_pos c2, if_pos c2]
    rcases R.io hp with h | ⟨f, hf, g1, g2⟩
    · rw [h, if_pos rfl, (isOut R hp h).2.1, bZ_b bo0]; exact ⟨0, bo0, rfl, rfl⟩
    · rw [g1, if_neg (m1_ne (by omega)), bI_n hf (by omega), cl_n (by omega), (R.mof hf hp g2).2.2.2.1]
      rcases (hF.2.2 f hf).1 with h0 | h0
      · rw [h0, if_pos rfl, bZ_b bo0]; exact ⟨0, bo0, rfl, rfl⟩
      · rw [h0, if_neg z1_ne, bZ_b bo1]; exact ⟨1, bo1, rfl, rfl⟩
  rw [if_neg c2, if_neg c2]
  by_cases c3 : x = 3
  · rw [if_pos c3, if_pos c3]
    rcases R.io hp with h | ⟨f, hf, g1, g2⟩
    · rw [h, if_pos rfl, (isOut R hp h).2.2.1, bZ_b bo0]; exact ⟨0, bo0, rfl, rfl⟩
    · rw [g1, if_neg (m1_ne (by omega)), bI_n hf (by omega), cl_n (by omega), (R.mof hf hp g2).2.2.2.2.1]
      rcases (hF.2.2 f hf).2.1 with h0 | h0
      · rw [h0, if_pos rfl, bZ_b bo0]; exact ⟨0, bo0, rfl, rfl⟩
      · rw [h0, if_neg z1_ne, bZ_b bo1]; exact ⟨1, bo1, rfl, rfl⟩
  rw [if_neg c3, if_neg c3]
  rcases shOf (N := N) R hp with ⟨g1, g2⟩ | ⟨v, hv, hv2, g1, g2⟩
  · rw [g1, g2, Option.bind_some, if_pos rfl, if_pos (by decide)]; exact ⟨0, bo0, rfl, rfl⟩
  · rw [g1, g2, Option.bind_some, if_neg (m1_ne hv2), if_neg (nI_nle hv hv2)]; exact ⟨1, bo1, rfl, rfl⟩
theorem next_L (R : Rel hd nf nb LA LI LS ev tm dc rr c m) {i : Nat} (hi : i < 12) (x : Int32) : ∀ (d k n n' : Nat), k + d = 256 → d < n → d < n' → ∃ r, pf_X6_next_L29 N nf nb c n (nI i) x (nI k) = some r ∧ pf_X7_next_L29 N m n' (nI i) x (nI k) = some r := by
  intro d
  induction d with
  | zero =>
    intro k n n' hk hn hn'
    obtain ⟨n, rfl⟩ : ∃ j, n = j + 1 := ⟨n - 1, by omega⟩
    obtain ⟨n', rfl⟩ : ∃ j, n' = j + 1 := ⟨n' - 1, by omega⟩
    rw [pf_X6_next_L29, pf_X7_next_L29, show (256 : Int32) = nI 256 from rfl, if_n (by omega) (by omega), if_pos (by omega), if_n (by omega) (by omega), if_pos (by omega)]
    unfold pf_X7_next_b59
    rw [show (256 : Int32) = nI 256 from rfl, if_n (by omega) (by omega), if_pos (by omega)]
    exact ⟨_, rfl, rfl⟩
  | succ d ih =>
    intro k n n' hk hn hn'
    obtain ⟨n, rfl⟩ : ∃ j, n = j + 1 := ⟨n - 1, by omega⟩
    obtain ⟨n', rfl⟩ : ∃ j, n' = j + 1 := ⟨n' - 1, by omega⟩
    rw [pf_X6_next_L29, pf_X7_next_L29, spot_n, spot_m, show (256 : Int32) = nI 256 from rfl, if_n (by omega) (by omega), if_neg (by omega), if_n (by omega) (by omega), if_neg (by omega), Option.bind_some]
    obtain ⟨b, hb, e1, e2⟩ := markE (N := N) R (show 256 * i + k < 3072 by omega) x
    rw [e1, e2, Option.bind_some, Option.bind_some]
    rcases hb with h | h
    · rw [h, if_pos rfl, if_pos rfl, nI_1]
      exact ih (k + 1) n n' (by omega) (by omega) (by omega)
    · rw [h, if_neg z1_ne, if_neg z1_ne]
      unfold pf_X7_next_b59
      rw [show (256 : Int32) = nI 256 from rfl, if_n (by omega) (by omega), if_neg (by omega)]
      exact ⟨_, rfl, rfl⟩
theorem q_next (R : Rel hd nf nb LA LI LS ev tm dc rr c m) (hN : 5000 ≤ N) (x1 x2 x3 : Int32) : ∃ r, pf_X6_next N nf nb x1 x2 x3 c = some r ∧ pf_X7_next N x1 x2 x3 m = some r := by
  unfold pf_X6_next pf_X7_next
  rcases fileC (N := N) x1 with ⟨h1, h2⟩ | ⟨i, hi, e1, h1, h2⟩
  · rw [h1, h2, Option.bind_some, Option.bind_some, if_pos rfl, if_pos rfl]; exact ⟨_, rfl, rfl⟩
  rw [h1, h2, Option.bind_some, Option.bind_some, if_neg z1_ne, if_neg z1_ne]
  rcases pageC (N := N) x2 with ⟨h3, h4⟩ | ⟨k, hk, e2, h3, h4⟩
  · rw [h3, h4, Option.bind_some, Option.bind_some, if_pos rfl, if_pos rfl]; exact ⟨_, rfl, rfl⟩
  rw [h3, h4, Option.bind_some, Option.bind_some, if_neg z1_ne, if_neg z1_ne]
  by_cases hz : x3 < 0
  · rw [if_pos hz, if_pos hz]; exact ⟨_, rfl, rfl⟩
  rw [if_neg hz, if_neg hz]
  by_cases h5 : x3 ≤ 4
  · rw [if_pos h5, if_pos h5, e1, e2]
    exact next_L R hi x3 (256 - k) k N N (by omega) (by omega) (by omega)
  · rw [if_neg h5, if_neg h5]; exact ⟨_, rfl, rfl⟩
end Q2
