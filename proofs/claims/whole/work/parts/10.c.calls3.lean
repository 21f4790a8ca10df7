/-! PURE PART: the calls: truncate -/
section K3
variable {hd : HDp} {N nf nb ev tm dc rr : Nat} {LA LI LS : List (Nat × Nat)} {c m : St}
theorem m_cut_L {f p : Nat} {σ : St} {x : Int32} (hp : p < 3072) (hf : f < 64) (hfo : σ.2.1 5 p = nI f) : ∀ (d i n : Nat) (g : Nat → Int32), i + d = 64 → d < n → ∃ n', pf_X7_truncate_L145 N n x (nI p) (nI i) (sA σ 15 g) = pf_X7_truncate_L145 N (n' + 1) x (nI p) (nI 64) (sA σ 15 (fun j => if 64 * f + i ≤ j ∧ j < 64 * f + 64 then 0 else g j)) := by
  intro d
  induction d with
  | zero =>
    intro i n g hi hn
    obtain ⟨n, rfl⟩ : ∃ j, n = j + 1 := ⟨n - 1, by omega⟩
    obtain rfl : i = 64 := by omega
    refine ⟨n, ?_⟩
    congr 1
    congr 1
    funext j
    rw [if_neg (by omega)]
  | succ d ih =>
    intro i n g hi hn
    obtain ⟨n, rfl⟩ : ∃ j, n = j + 1 := ⟨n - 1, by omega⟩
    have e5 : ∀ g, (sA σ 15 g).2.1 5 p = nI f := fun g => hfo
    rw [pf_X7_truncate_L145, show (64 : Int32) = nI 64 from rfl, if_n (by omega) (by omega), if_neg (by omega), bI_n hp (by decide), cl_n (by omega), e5, pk_mul, nI_add, bI_n (show 64 * f + i < 4096 by omega) (by decide), cl_n (by omega)]
    simp only [lt_]
    rw [sA_sA, nI_1]
    obtain ⟨n', h⟩ := ih (i + 1) n (upd ((sA σ 15 g).2.1 15) (64 * f + i) (vp_nar .byte 0)) (by omega) (by omega)
    refine ⟨n', h.trans ?_⟩
    congr 1
    congr 1
    funext j
    by_cases h1 : j = 64 * f + i
    · subst h1
      rw [if_neg (by omega), if_pos (by omega), us_]; rfl
    · rw [un h1]
      by_cases h2 : 64 * f + (i + 1) ≤ j ∧ j < 64 * f + 64
      · rw [if_pos h2, if_pos (by omega)]
      · rw [if_neg h2, if_neg (by omega)]; rfl
theorem op_cut (R : Rel hd nf nb LA LI LS ev tm dc rr c m) (hN : 5000 ≤ N) (hev : ev + 1 < 2 ^ 30) (hph : rr + dc ≤ 255) {i s : Nat} (hi : i < 12) (hs : s < 16384) (x : Int32) : ∃ r c' m' LA' LI' LS' ev' dc' rr', (pf_X6_cutLastPage N nf nb (nI i) (nI s) c).bind (fun z18 => if z18.1 = 0 then some ((-3 : Int32), z18.2) else some (x, z18.2)) = some (r, c') ∧ pf_X7_truncate_L58 N 1 (nI i) (nI s) x (nI 256) m = some (r, m') ∧ Rel hd nf nb LA' LI' LS' ev' tm dc' rr' c' m' ∧ ev' ≤ ev + 1 := by
  have hnf := R.1.2.1
  have hq : s / 64 < 256 := by omega
  have hp : 256 * i + s / 64 < 3072 := by omega
  have hb1 := R.2.2.2.2.2.2.2.2.1
  rw [pf_X7_truncate_L58]
  unfold pf_X6_cutLastPage
  rw [show (64 : Int32) = nI 64 from rfl, pk_rem (by omega) (by decide) (by decide), pk_div (by omega) (by decide) (by decide), show (256 : Int32) = nI 256 from rfl, if_n (by omega) (by omega), if_pos (by omega), show nI 256 * nI i + nI (s / 64) = nI (256 * i + s / 64) from spot_m]
  simp only [lt_, spot_n, Option.bind_some]
  generalize hP : 256 * i + s / 64 = p at hp ⊢
  by_cases h0 : s % 64 = 0
  · rw [h0, if_pos nI_0, if_pos nI_0, Option.bind_some, if_neg z1_ne]
    exact ⟨_, _, _, _, _, _, _, _, _, rfl, rfl, R, by omega⟩
  · rw [if_neg (nI_ne0 (by omega) (by omega)), if_neg (nI_ne0 (by omega) (by omega)), frameOf_n hp, Option.bind_some, R.fo, bI_n hp (by decide), cl_n (by omega), bI_n hp (by decide), hb1]
    have go : ∃ r c' m' LA' LI' LS' ev' dc' rr', (pf_X6_cutLastPage_b45 N nf nb (nI (s % 64)) (nI p) c).bind (fun z18 => if z18.1 = 0 then some ((-3 : Int32), z18.2) else some (x, z18.2)) = some (r, c') ∧ pf_X7_truncate_b127 N (nI s) x (nI p) m = some (r, m') ∧ Rel hd nf nb LA' LI' LS' ev' tm dc' rr' c' m' ∧ ev' ≤ ev + 1 := by
      unfold pf_X6_cutLastPage_b45 pf_X7_truncate_b127
      rw [show (64 : Int32) = nI 64 from rfl, pk_rem (by omega) (by decide) (by decide)]
      rcases op_touch R hN hev hph hp with ⟨f, c2, m2, LA2, LI2, LS2, ev2, dc2, rr2, z1, z2, R2, z3, z4, hf, hsp, -⟩ | ⟨c2, m2, LA2, LI2, dc2, rr2, z1, z2, R2, z3, z4, -, z5⟩
      · rw [z1, z2, Option.bind_some, Option.bind_some, if_neg z1_ne, if_neg (m1_ne (by omega))]
        simp only [lt_]
        rw [nI_1, pk_mul, pk_mul, nI_add]
        obtain ⟨g, w1, w2⟩ := w_clear (N := N) (n0 := nf * 8) (a := f * 64 + s % 64) (b := (f + 1) * 64) (f := c2.2.2 16) (by omega) (by omega) (by omega) (by omega)
        rw [w1, Option.bind_some]
        have hfo := (R2.mof hf hp hsp).1
        obtain ⟨n', w3⟩ := m_cut_L (N := N) (x := x) (σ := m2) hp (show f < 64 by omega) hfo (64 - s % 64) (s % 64) N (m2.2.1 15) (by omega) (by omega)
        rw [sA_self] at w3
        rw [w3]
        have R2' : Rel hd nf nb LA2 LI2 LS2 ev2 tm dc2 rr2 (sL c2 16 g) (sA m2 15 (fun j => if 64 * f + s % 64 ≤ j ∧ j < 64 * f + 64 then 0 else m2.2.1 15 j)) := by
          obtain ⟨hK, hk1, s1, hZ, w1, n1, e1, f1, b1, b2, b3, hBk, hRc, h1, t1, hF, hT, hL, hI, hD, hPn, hS, B1, B2, B3⟩ := R2
          refine ⟨hK, hk1, s1, hZ, w1, n1, e1, f1, b1, b2, b3, hBk, hRc, h1, t1, hF, hT, hL, hI, hD, hPn, hS, ?_, B2, B3⟩
          intro j hj
          show (if 64 * f + s % 64 ≤ j ∧ j < 64 * f + 64 then 0 else m2.2.1 15 j) &&& 255 = nI (wbN g j)
          rw [w2]
          by_cases h : 64 * f + s % 64 ≤ j ∧ j < 64 * f + 64
          · rw [if_pos h, if_pos (by omega)]; decide
          · rw [if_neg h, if_neg (by omega)]; exact B1 j hj
        generalize hM : sA m2 15 (fun j => if 64 * f + s % 64 ≤ j ∧ j < 64 * f + 64 then 0 else m2.2.1 15 j) = m3 at R2' ⊢
        obtain ⟨c4, dc4, b, hb, v1, v2, R4, -⟩ := op_soil (N := N) R2' hf hp hsp
        rw [v1, Option.bind_some, Option.bind_some, if_neg z1_ne, pf_X7_truncate_L145, show (64 : Int32) = nI 64 from rfl, if_pos (Int32.le_refl _), v2, Option.bind_some]
        unfold pf_X7_truncate_b206
        simp only [lt_, bI_n hp (show 3072 < 2 ^ 31 by decide), cl_n (show p < 2 ^ 31 by omega)]
        rcases hb with h | h
        · subst h
          rw [if_pos rfl]; rw [if_pos rfl] at R4
          exact ⟨_, _, _, _, _, _, _, _, _, rfl, rfl, R4, z3⟩
        · subst h
          rw [if_neg z1_ne]; rw [if_neg z1_ne] at R4
          exact ⟨_, _, _, _, _, _, _, _, _, rfl, rfl, R4, z3⟩
      · rw [z1, z2, Option.bind_some, Option.bind_some, if_pos rfl, if_pos rfl, Option.bind_some, if_pos rfl]
        exact ⟨_, _, _, _, _, _, _, _, _, rfl, rfl, R2, by omega⟩
    rcases R.io hp with h | ⟨f, hf, g1, g2⟩
    · rw [isIn_n hp (Or.inl h), h, if_pos rfl, if_pos rfl, Option.bind_some, if_pos rfl]
      by_cases h6 : m.2.1 6 p = -1
      · rw [if_pos h6, if_pos h6, Option.bind_some, if_neg z1_ne]
        exact ⟨_, _, _, _, _, _, _, _, _, rfl, rfl, R, by omega⟩
      · rw [if_neg h6, if_neg h6]; exact go
    · rw [isIn_n hp (Or.inr ⟨f, by omega, g1⟩), g1, if_neg (m1_ne (by omega)), if_neg (m1_ne (by omega)), Option.bind_some, if_neg z1_ne]
      exact go
theorem trunc_L {i s : Nat} (hi : i < 12) (hs : s < 16384) (hN : 5000 ≤ N) (hev : ev + 1 < 2 ^ 30) {x : Int32} : ∀ (d k n n' dc : Nat) (LA LI LS : List (Nat × Nat)) (c m : St), Rel hd nf nb LA LI LS ev tm dc rr c m → rr + dc ≤ 255 → k + d = 256 → d < n → d < n' → ∃ r c' m' LA' LI' LS' ev' dc' rr', pf_X6_truncate_L61 N nf nb n (nI i) (nI s) x (nI k) c = some (r, c') ∧ pf_X7_truncate_L58 N n' (nI i) (nI s) x (nI k) m = some (r, m') ∧ Rel hd nf nb LA' LI' LS' ev' tm dc' rr' c' m' ∧ ev' ≤ ev + 1 := by
  intro d
  induction d with
  | zero =>
    intro k n n' dc LA LI LS c m R hph hk hn hn'
    obtain ⟨n, rfl⟩ : ∃ j, n = j + 1 := ⟨n - 1, by omega⟩
    obtain ⟨n', rfl⟩ : ∃ j, n' = j + 1 := ⟨n' - 1, by omega⟩
    obtain rfl : k = 256 := by omega
    obtain ⟨r, c', m', LA', LI', LS', ev', dc', rr', x1, x2, R', x3⟩ := op_cut R hN hev hph hi hs x
    rw [pf_X6_truncate_L61, show (256 : Int32) = nI 256 from rfl, if_pos (Int32.le_refl _)]
    rw [pf_X7_truncate_L58, show (256 : Int32) = nI 256 from rfl, if_pos (Int32.le_refl _)] at x2 ⊢
    exact ⟨r, c', m', LA', LI', LS', ev', dc', rr', x1, x2, R', x3⟩
  | succ d ih =>
    intro k n n' dc LA LI LS c m R hph hk hn hn'
    obtain ⟨n, rfl⟩ : ∃ j, n = j + 1 := ⟨n - 1, by omega⟩
    obtain ⟨n', rfl⟩ : ∃ j, n' = j + 1 := ⟨n' - 1, by omega⟩
    rw [pf_X6_truncate_L61, pf_X7_truncate_L58, spot_n, spot_m, show (256 : Int32) = nI 256 from rfl, if_n (by omega) (by omega), if_neg (by omega), if_n (by omega) (by omega), if_neg (by omega), Option.bind_some]
    obtain ⟨r, c1, m1, LA1, LI1, LS1, dc1, hr, x1, x2, R1, x3⟩ := op_hole R hN (show 256 * i + k < 3072 by omega)
    rw [x1, x2, Option.bind_some, Option.bind_some, nI_1]
    exact ih (k + 1) n n' dc1 LA1 LI1 LS1 c1 m1 R1 (by omega) (by omega) (by omega) (by omega)
theorem q_truncate {k : Nat} (R : R3 nf nb k c m) (hk : k < 64) (hN : 5000 ≤ N) (x1 x2 : Int32) : ∃ r c' m', pf_X6_truncate N nf nb x1 x2 c = some (r, c') ∧ pf_X7_truncate N x1 x2 m = some (r, m') ∧ R3 nf nb (k + 1) c' m' := by
  have R0 := R
  obtain ⟨LA, LI, LS, ev, tm, dc, rr, R, hev, htm⟩ := R
  have hnf := R.1.2.1
  unfold pf_X6_truncate pf_X7_truncate
  rcases fileC (N := N) x1 with ⟨h1, h2⟩ | ⟨i, hi, e, h1, h2⟩
  · rw [h1, h2, Option.bind_some, Option.bind_some, if_pos rfl, if_pos rfl]; exact ⟨_, _, _, rfl, rfl, R0.up⟩
  rw [h1, h2, Option.bind_some, Option.bind_some, if_neg z1_ne, if_neg z1_ne]
  by_cases h3 : x2 < 0
  · rw [if_pos h3, if_pos h3]; exact ⟨_, _, _, rfl, rfl, R0.up⟩
  rw [if_neg h3, if_neg h3]
  by_cases h4 : x2 ≤ 16384
  · rw [if_pos h4, if_pos h4]
    obtain ⟨s, hs, e2⟩ := nI_of2 (n := 16384) (by decide) h3 h4
    obtain ⟨y1, R1⟩ := op_begin (N := N) R
    have hd := dc_le R.D
    rw [y1, Option.bind_some, e, e2]
    simp only [lt_, bI_n hi (show 12 < 2 ^ 31 by decide), cl_n (show i < 2 ^ 31 by omega)]
    obtain ⟨hK, hk1, s1, hZ, w1, n1, e1, f1, b1, b2, b3, hBk, hRc, hh1, t1, hF, hT, hL, hI, hD, hPn, hS, B1, B2, B3⟩ := R1
    obtain ⟨s0, hs0, hsz⟩ := hZ.1 i hi
    have R2 : Rel HD2 nf nb LA LI LS ev tm dc 0 (sA (sG c 4 1) 10 (upd ((sG c 4 1).2.1 10) i (nI s))) (sA (sG m 11 0) 1 (upd ((sG m 11 0).2.1 1) i (nI s))) := by
      refine ⟨hK, hk1, ?_, ⟨fun j hj => ?_, hZ.2⟩, w1, n1, e1, f1, b1, b2, b3, hBk, hRc, hh1, t1, hF, hT, hL, hI, hD, hPn, hS, B1, B2, B3⟩
      · show upd _ i _ = upd _ i _
        rw [s1]
      · show ∃ s', s' ≤ 16384 ∧ upd _ i (nI s) j = nI s'
        by_cases ej : j = i
        · subst ej; exact ⟨s, hs, us_⟩
        · rw [un ej]; exact hZ.1 j hj
    rw [s1] at R2 ⊢
    rw [hsz]
    rw [il_n (by omega) (by omega), il_n (by omega) (by omega), pgs_n hs, Option.bind_some]
    by_cases h5 : s < s0
    · rw [if_pos h5, if_pos h5, show (64 : Int32) = nI 64 from rfl, nI_add, show s + 64 = (s + 63) + 1 from rfl, nI_pred, pk_div (by omega) (by decide) (by decide)]
      obtain ⟨r, c', m', LA', LI', LS', ev', dc', rr', x1, x2, R', x3⟩ := trunc_L hi (show s < 16384 by omega) hN (by omega) (256 - (s + 63) / 64) ((s + 63) / 64) N N dc LA LI LS _ _ R2 (by omega) (by omega) (by omega) (by omega)
      exact ⟨r, c', m', x1, x2, R3.of R' (by omega) (by omega)⟩
    · rw [if_neg h5, if_neg h5]
      exact ⟨_, _, _, rfl, rfl, R3.of R2 (by omega) (by omega)⟩
  · rw [if_neg h4, if_neg h4]; exact ⟨_, _, _, rfl, rfl, R0.up⟩
end K3
