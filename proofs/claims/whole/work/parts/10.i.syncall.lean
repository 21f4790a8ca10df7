/-! PURE PART: the call syncAll -/
section K9
variable {hd : HDp} {N nf nb ev tm dc rr : Nat} {LA LI LS : List (Nat × Nat)} {c m : St}
def Bq (nf nb a : Nat) (c m : St) (f p b : Nat) : Prop := f < nf ∧ p < 3072 ∧ c.2.1 17 f = nI p ∧ c.2.1 18 f ≠ -1 ∧ m.2.1 6 p = nI b ∧ b < nb ∧ a ≤ b
def AC (x : Int32) (a : Nat) : Prop := (x = -1 ∧ a = 0) ∨ ∃ k, x = nI k ∧ a = k + 1 ∧ k < 512
theorem dbi (R : Rel hd nf nb LA LI LS ev tm dc rr c m) {f : Nat} (hf : f < nf) : (∃ p b, Bq nf nb 0 c m f p b ∧ pf_X6_dirtyBlockIn N nf nb (nI f) c = some (nI b)) ∨ ((∀ a p b, ¬ Bq nf nb a c m f p b) ∧ pf_X6_dirtyBlockIn N nf nb (nI f) c = some (-1)) := by
  have hnf := R.1.2.1
  have hnb := R.1.2.2.2.1
  have hb1 : c.2.1 30 = m.2.1 6 := R.2.2.2.2.2.2.2.2.1
  unfold pf_X6_dirtyBlockIn pf_X2_isDirty pf_X2_spotIn
  rw [if_neg (nI_pos (by omega)), R.2.1.1, if_n (by omega) (by omega), if_neg (by omega), bI_n hf (by omega), cl_n (by omega), if_neg (nI_pos (by omega)), il_n (by omega) (by omega), if_pos hf, bI_n hf (by omega)]
  unfold pf_X6_dirtyBlockIn_b23
  rcases R.dF hf with h | ⟨p, t, hp, e1, e2, ht⟩
  · refine Or.inr ⟨fun a p b hq => hq.2.2.2.1 h, ?_⟩
    rw [h, if_pos rfl, Option.bind_some, if_pos rfl, if_pos rfl]
  · have hne : c.2.1 18 f ≠ -1 := by rw [e2]; exact m1_ne (by have := R.1.2.2.2.2.2; omega)
    rw [if_neg hne, Option.bind_some, if_neg z1_ne, e1, Option.bind_some, if_neg (m1_ne (by omega)), bI_n hp (by decide), cl_n (by omega), hb1]
    rcases R.Bk.1 p hp with h | ⟨b, hb, hbe, -⟩
    · refine Or.inr ⟨fun a p' b hq => ?_, by rw [h]⟩
      have := nI_inj (hq.2.2.1.symm.trans e1) (by have := hq.2.1; omega) (by omega)
      subst this
      exact absurd (hq.2.2.2.2.1.symm.trans h) (m1_ne (by have := hq.2.2.2.2.2.1; omega))
    · exact Or.inl ⟨p, b, ⟨hf, hp, e1, hne, hbe, hb, Nat.zero_le _⟩, by rw [hbe]⟩
theorem Bq.uq (R : Rel hd nf nb LA LI LS ev tm dc rr c m) {a a' f p b f' p' b' : Nat} (h : Bq nf nb a c m f p b) (h' : Bq nf nb a' c m f' p' b') : (f = f' → p = p' ∧ b = b') ∧ (b = b' → f = f' ∧ p = p') := by
  have hnf := R.1.2.1
  have hnb := R.1.2.2.2.1
  obtain ⟨h1, h2, h3, h4, h5, h6, h7⟩ := h
  obtain ⟨g1, g2, g3, g4, g5, g6, g7⟩ := h'
  refine ⟨fun e => ?_, fun e => ?_⟩
  · subst e
    have := nI_inj (h3.symm.trans g3) (by omega) (by omega)
    subst this
    exact ⟨rfl, nI_inj (h5.symm.trans g5) (by omega) (by omega)⟩
  · subst e
    have hpp := R.Bk.2.1 p p' h2 g2 (by rw [h5]; exact m1_ne (by omega)) (h5.trans g5.symm)
    subst hpp
    have e1 := (R.mof h1 h2 h3).1
    have e2 := (R.mof g1 g2 g3).1
    exact ⟨nI_inj (e1.symm.trans e2) (by omega) (by omega), rfl⟩
theorem ldb_L (R : Rel hd nf nb LA LI LS ev tm dc rr c m) {x : Int32} {a : Nat} (hx : AC x a) : ∀ (d k n : Nat) (x2 : Int32), k + d = nf → d < n → ((x2 = -1 ∧ ∀ f p b, f < k → ¬ Bq nf nb a c m f p b) ∨ (∃ f p b, f < k ∧ Bq nf nb a c m f p b ∧ x2 = nI b ∧ ∀ f' p' b', f' < k → Bq nf nb a c m f' p' b' → b ≤ b')) →
    ∃ r, pf_X6_leastDirtyBlock_L4 N nf nb c n x x2 (nI k) = some r ∧ ((r = -1 ∧ ∀ f p b, ¬ Bq nf nb a c m f p b) ∨ (∃ f p b, Bq nf nb a c m f p b ∧ r = nI b ∧ ∀ f' p' b', Bq nf nb a c m f' p' b' → b ≤ b')) := by
  have hnf := R.1.2.1
  have hnb := R.1.2.2.2.1
  intro d
  induction d with
  | zero =>
    intro k n x2 hk hn hI
    obtain ⟨n, rfl⟩ : ∃ j, n = j + 1 := ⟨n - 1, by omega⟩
    rw [pf_X6_leastDirtyBlock_L4, R.2.1.1, if_n (by omega) (by omega), if_pos (by omega)]
    refine ⟨x2, rfl, ?_⟩
    rcases hI with ⟨h1, h2⟩ | ⟨f, p, b, h1, h2, h3, h5⟩
    · exact Or.inl ⟨h1, fun f p b hc => h2 f p b (by have := hc.1; omega) hc⟩
    · exact Or.inr ⟨f, p, b, h2, h3, fun f' p' b' hc => h5 f' p' b' (by have := hc.1; omega) hc⟩
  | succ d ih =>
    intro k n x2 hk hn hI
    obtain ⟨n, rfl⟩ : ∃ j, n = j + 1 := ⟨n - 1, by omega⟩
    have hf : k < nf := by omega
    rw [pf_X6_leastDirtyBlock_L4, R.2.1.1, if_n (by omega) (by omega), if_neg (by omega)]
    unfold pf_X6_leastDirtyBlock_b39 pf_X6_leastDirtyBlock_b42
    simp only [nI_1]
    have skip : (∀ p b, ¬ Bq nf nb a c m k p b) → ∃ r, pf_X6_leastDirtyBlock_L4 N nf nb c n x x2 (nI (k + 1)) = some r ∧ ((r = -1 ∧ ∀ f p b, ¬ Bq nf nb a c m f p b) ∨ (∃ f p b, Bq nf nb a c m f p b ∧ r = nI b ∧ ∀ f' p' b', Bq nf nb a c m f' p' b' → b ≤ b')) := by
      intro hno
      refine ih (k + 1) n x2 (by omega) (by omega) ?_
      rcases hI with ⟨h1, h2⟩ | ⟨f, p, b, h1, h2, h3, h5⟩
      · refine Or.inl ⟨h1, fun f p b hfk hc => ?_⟩
        by_cases e : f = k
        · subst e; exact hno p b hc
        · exact h2 f p b (by omega) hc
      · refine Or.inr ⟨f, p, b, by omega, h2, h3, fun f' p' b' hfk hc => ?_⟩
        by_cases e : f' = k
        · subst e; exact absurd hc (hno p' b')
        · exact h5 f' p' b' (by omega) hc
    rcases dbi (N := N) R hf with ⟨p, b, hq, hdb⟩ | ⟨hno, hdb⟩
    · rw [hdb, Option.bind_some]
      have hb := hq.2.2.2.2.2.1
      have hle : nI b ≤ x ↔ b < a := by
        rcases hx with ⟨e, e0⟩ | ⟨k', e, e0, hk'⟩
        · rw [e, e0]
          refine ⟨fun h => ?_, fun h => absurd h (by omega)⟩
          have := Int32.le_iff_toInt_le.mp h
          rw [nI_toInt (by omega)] at this
          have h2 : ((b : Nat) : Int) ≤ -1 := this
          omega
        · rw [e, e0, nI_leI (by omega) (by omega)]; omega
      by_cases hlt : b < a
      · rw [if_pos (hle.mpr hlt)]
        refine skip (fun p' b' hc => ?_)
        have := ((hq.uq R hc).1 rfl).2
        have := hc.2.2.2.2.2.2
        omega
      · rw [if_neg (fun q => hlt (hle.mp q))]
        have hqa : Bq nf nb a c m k p b := ⟨hq.1, hq.2.1, hq.2.2.1, hq.2.2.2.1, hq.2.2.2.2.1, hb, by omega⟩
        rcases hI with ⟨h1, h2⟩ | ⟨f, p0, b0, h1, h2, h3, h5⟩
        · rw [if_pos h1]
          refine ih (k + 1) n _ (by omega) (by omega) (Or.inr ⟨k, p, b, by omega, hqa, rfl, fun f' p' b' hfk hc => ?_⟩)
          by_cases e : f' = k
          · subst e
            have := ((hq.uq R hc).1 rfl).2
            omega
          · exact absurd hc (h2 f' p' b' (by omega))
        · have hb0 := h2.2.2.2.2.2.1
          rw [if_neg (by rw [h3]; exact m1_ne (by omega)), h3, if_n (by omega) (by omega)]
          by_cases hl2 : b0 ≤ b
          · rw [if_pos hl2]
            refine ih (k + 1) n _ (by omega) (by omega) (Or.inr ⟨f, p0, b0, by omega, h2, rfl, fun f' p' b' hfk hc => ?_⟩)
            by_cases e : f' = k
            · subst e
              have := ((hq.uq R hc).1 rfl).2
              omega
            · exact h5 f' p' b' (by omega) hc
          · rw [if_neg hl2]
            refine ih (k + 1) n _ (by omega) (by omega) (Or.inr ⟨k, p, b, by omega, hqa, rfl, fun f' p' b' hfk hc => ?_⟩)
            by_cases e : f' = k
            · subst e
              have := ((hq.uq R hc).1 rfl).2
              omega
            · have := h5 f' p' b' (by omega) hc
              omega
    · have hle : (-1 : Int32) ≤ x := by
        rcases hx with ⟨e, e0⟩ | ⟨k', e, e0, hk'⟩
        · rw [e]; exact Int32.le_refl _
        · rw [e, Int32.le_iff_toInt_le, nI_toInt (by omega)]
          show (-1 : Int) ≤ _
          omega
      rw [hdb, Option.bind_some, if_pos hle]
      exact skip (hno a)
theorem ldb (R : Rel hd nf nb LA LI LS ev tm dc rr c m) (hN : 5000 ≤ N) {x : Int32} {a : Nat} (hx : AC x a) : ∃ r, pf_X6_leastDirtyBlock N nf nb x c = some r ∧ ((r = -1 ∧ ∀ f p b, ¬ Bq nf nb a c m f p b) ∨ (∃ f p b, Bq nf nb a c m f p b ∧ r = nI b ∧ ∀ f' p' b', Bq nf nb a c m f' p' b' → b ≤ b')) :=
  ldb_L R hx nf 0 N _ (by omega) (by have := R.1.2.1; omega) (Or.inl ⟨rfl, fun f p b h => absurd h (by omega)⟩)
theorem dfa_L (R : Rel hd nf nb LA LI LS ev tm dc rr c m) {f p b a : Nat} (hq : Bq nf nb a c m f p b) : ∀ (d k n : Nat), k + d = f → d < n → pf_X6_dirtyFrameAt_L2 N nf nb c n (nI b) (nI k) = some (nI f) := by
  have hnf := R.1.2.1
  have hnb := R.1.2.2.2.1
  have hfn := hq.1
  have hbn := hq.2.2.2.2.2.1
  intro d
  induction d with
  | zero =>
    intro k n hk hn
    obtain ⟨n, rfl⟩ : ∃ j, n = j + 1 := ⟨n - 1, by omega⟩
    obtain rfl : k = f := by omega
    rw [pf_X6_dirtyFrameAt_L2, R.2.1.1, if_n (by omega) (by omega), if_neg (by omega)]
    rcases dbi (N := N) R hfn with ⟨p', b', hq', hdb⟩ | ⟨hno, -⟩
    · rw [hdb, Option.bind_some, if_pos (by rw [((hq'.uq R hq).1 rfl).2])]
    · exact absurd hq (hno a p b)
  | succ d ih =>
    intro k n hk hn
    obtain ⟨n, rfl⟩ : ∃ j, n = j + 1 := ⟨n - 1, by omega⟩
    rw [pf_X6_dirtyFrameAt_L2, R.2.1.1, if_n (by omega) (by omega), if_neg (by omega)]
    rcases dbi (N := N) R (show k < nf by omega) with ⟨p', b', hq', hdb⟩ | ⟨hno, hdb⟩
    · have hne : b' ≠ b := fun e => by
        have := ((hq'.uq R hq).2 e).1
        omega
      have hb' := hq'.2.2.2.2.2.1
      rw [hdb, Option.bind_some, ie_n (by omega) (by omega), if_neg hne, nI_1]
      exact ih (k + 1) n (by omega) (by omega)
    · rw [hdb, Option.bind_some, if_neg (fun q => m1_ne (by omega) q.symm), nI_1]
      exact ih (k + 1) n (by omega) (by omega)
-- the reference's pass over the pages for one block
theorem in_none {J : Int32 → Int32 → St → Option (Int32 × St)} {x1 : Int32} {b : Nat} (R : Rel hd nf nb LA LI LS ev tm dc rr c m) : ∀ (d k n : Nat), k + d = 3072 → d < n → (∀ q, k ≤ q → q < 3072 → m.2.1 6 q = nI b → m.2.1 7 q = -1) → pf_X7_syncAll_L56 N J n x1 (nI b) (nI k) m = J x1 (nI (b + 1)) m := by
  intro d
  induction d with
  | zero =>
    intro k n hk hn hA
    obtain ⟨n, rfl⟩ : ∃ j, n = j + 1 := ⟨n - 1, by omega⟩
    rw [pf_X7_syncAll_L56, show (3072 : Int32) = nI 3072 from rfl, if_n (by omega) (by omega), if_pos (by omega), nI_1]
  | succ d ih =>
    intro k n hk hn hA
    obtain ⟨n, rfl⟩ : ∃ j, n = j + 1 := ⟨n - 1, by omega⟩
    have hp : k < 3072 := by omega
    rw [pf_X7_syncAll_L56, show (3072 : Int32) = nI 3072 from rfl, if_n (by omega) (by omega), if_neg (by omega), bI_n hp (by decide), cl_n (by omega)]
    unfold pf_X7_syncAll_b97
    by_cases h : m.2.1 6 k = nI b
    · rw [if_pos h, isDirty_m R hp, hA k (Nat.le_refl _) hp h, if_pos rfl, Option.bind_some, if_pos rfl, nI_1]
      exact ih (k + 1) n (by omega) (by omega) (fun q h1 h2 h3 => hA q (by omega) h2 h3)
    · rw [if_neg h, nI_1]
      exact ih (k + 1) n (by omega) (by omega) (fun q h1 h2 h3 => hA q (by omega) h2 h3)
theorem in_hit {J : Int32 → Int32 → St → Option (Int32 × St)} {x1 r : Int32} {b p dc' rr' : Nat} {c' m' : St} (R : Rel hd nf nb LA LI LS ev tm dc rr c m) (R' : Rel hd nf nb LA LI LS ev tm dc' rr' c' m') (hr : Bo r) (hp : p < 3072) (hb : m.2.1 6 p = nI b) (hdi : m.2.1 7 p ≠ -1) (ho : ∀ q, q < 3072 → q ≠ p → m.2.1 6 q ≠ nI b) (hw : pf_X7_written N (nI p) m = some (r, m')) (hk6 : ∀ q, q ≠ p → m'.2.1 6 q = m.2.1 6 q) : ∀ (d k n : Nat), k + d = 3072 → d < n → k ≤ p → pf_X7_syncAll_L56 N J n x1 (nI b) (nI k) m = J (x1 + r) (nI (b + 1)) m' := by
  intro d
  induction d with
  | zero => intro k n hk hn hkp; omega
  | succ d ih =>
    intro k n hk hn hkp
    obtain ⟨n, rfl⟩ : ∃ j, n = j + 1 := ⟨n - 1, by omega⟩
    have hk3 : k < 3072 := by omega
    rw [pf_X7_syncAll_L56, show (3072 : Int32) = nI 3072 from rfl, if_n (by omega) (by omega), if_neg (by omega), bI_n hk3 (by decide), cl_n (by omega)]
    by_cases e : k = p
    · subst e
      have hnone := in_none (N := N) (J := J) (x1 := x1 + r) (b := b) R' d (k + 1) n (by omega) (by omega) (fun q h1 h2 h3 => absurd (by rw [← hk6 q (by omega)]; exact h3) (ho q h2 (by omega)))
      rw [if_pos hb, isDirty_m R hp, if_neg hdi, Option.bind_some, if_neg z1_ne, hw, Option.bind_some]
      unfold pf_X7_syncAll_b95 pf_X7_syncAll_b97
      rw [nI_1]
      rcases hr with h | h
      · subst h; rw [if_pos rfl]; exact hnone
      · subst h; rw [if_neg z1_ne]; exact hnone
    · rw [if_neg (ho k hk3 e)]
      unfold pf_X7_syncAll_b97
      rw [nI_1]
      exact ih (k + 1) n (by omega) (by omega) (by omega)
noncomputable def bb (nf nb a : Nat) (c m : St) (f : Nat) : Bool := @decide (∃ p b, Bq nf nb a c m f p b) (Classical.propDecidable _)
theorem bb_iff {a f : Nat} : bb nf nb a c m f = true ↔ ∃ p b, Bq nf nb a c m f p b := by
  unfold bb
  exact @decide_eq_true_iff _ (Classical.propDecidable _)
theorem sa_L (hN : 5000 ≤ N) : ∀ (d b0 i n n' dc rr : Nat) (x acc : Int32) (c m : St), Rel hd nf nb LA LI LS ev tm dc rr c m → rr + dc ≤ 255 → b0 + d = nb → i + cnt (bb nf nb b0 c m) nf ≤ nf → d < n → d < n' → ((x = -1 ∧ ∀ f p b, ¬ Bq nf nb b0 c m f p b) ∨ (∃ f p b, Bq nf nb b0 c m f p b ∧ x = nI b ∧ ∀ f' p' b', Bq nf nb b0 c m f' p' b' → b ≤ b')) → ∃ r c' m' dc' rr', pf_X6_syncAll_L56 N nf nb n acc x (nI i) c = some (r, c') ∧ pf_X7_syncAll_L46 N n' acc (nI b0) m = some (r, m') ∧ Rel hd nf nb LA LI LS ev tm dc' rr' c' m' := by
  intro d
  induction d with
  | zero =>
    intro b0 i n n' dc rr x acc c m R hph hb hcnt hn hn' hcase
    obtain ⟨n, rfl⟩ : ∃ j, n = j + 1 := ⟨n - 1, by omega⟩
    obtain ⟨n', rfl⟩ : ∃ j, n' = j + 1 := ⟨n' - 1, by omega⟩
    have hnf := R.1.2.1
    have hnb := R.1.2.2.2.1
    rcases hcase with ⟨h1, -⟩ | ⟨f, p, b, hq, -⟩
    · rw [pf_X6_syncAll_L56, pf_X7_syncAll_L46, R.2.1.1, R.2.1.2.2, if_n (by omega) (by omega), if_n (by omega) (by omega), if_pos (show nb ≤ b0 by omega)]
      refine ⟨acc, c, m, dc, rr, ?_, rfl, R⟩
      by_cases h : nf ≤ i
      · rw [if_pos h]
      · rw [if_neg h, if_pos h1]
    · have := hq.2.2.2.2.2
      omega
  | succ d ih =>
    intro b0 i n n' dc rr x acc c m R hph hb hcnt hn hn' hcase
    obtain ⟨n', rfl⟩ : ∃ j, n' = j + 1 := ⟨n' - 1, by omega⟩
    have hnf := R.1.2.1
    have hnb := R.1.2.2.2.1
    rw [pf_X7_syncAll_L46, R.2.1.2.2, if_n (by omega) (by omega), if_neg (by omega)]
    -- no page has this block
    have none' : (∀ f p, ¬ Bq nf nb b0 c m f p b0) → ((x = -1 ∧ ∀ f p b, ¬ Bq nf nb (b0 + 1) c m f p b) ∨ (∃ f p b, Bq nf nb (b0 + 1) c m f p b ∧ x = nI b ∧ ∀ f' p' b', Bq nf nb (b0 + 1) c m f' p' b' → b ≤ b')) → ∃ r c' m' dc' rr', pf_X6_syncAll_L56 N nf nb n acc x (nI i) c = some (r, c') ∧ pf_X7_syncAll_L56 N (pf_X7_syncAll_L46 N n') N acc (nI b0) 0 m = some (r, m') ∧ Rel hd nf nb LA LI LS ev tm dc' rr' c' m' := by
      intro hno hc'
      have hin := in_none (N := N) (J := pf_X7_syncAll_L46 N n') (x1 := acc) (b := b0) R 3072 0 N (by omega) (by omega) (fun q _ hq h6 => by
        rcases R.F.1 q hq with ⟨-, h, -⟩ | ⟨f, hf, e1, e2, e3, -⟩
        · exact h
        · rw [e3]
          exact Classical.byContradiction (fun hne => hno f q ⟨hf, hq, e2, hne, h6, by omega, Nat.le_refl _⟩))
      have hin' : pf_X7_syncAll_L56 N (pf_X7_syncAll_L46 N n') N acc (nI b0) 0 m = _ := hin
      rw [hin']
      refine ih (b0 + 1) i n n' dc rr x acc c m R hph (by omega) ?_ (by omega) (by omega) hc'
      have := cnt_sub (P := bb nf nb b0 c m) (P' := bb nf nb (b0 + 1) c m) (n := nf) (fun j hj h => by
        obtain ⟨p, b, hq⟩ := bb_iff.mp h
        obtain ⟨h1, h2, h3, h4, h5, h6, h7⟩ := hq
        exact bb_iff.mpr ⟨p, b, h1, h2, h3, h4, h5, h6, by omega⟩)
      omega
    rcases hcase with ⟨h1, h2⟩ | ⟨f, p, b, hq, h1, h2⟩
    · exact none' (fun f p h => h2 f p b0 h) (Or.inl ⟨h1, fun f p b hq => h2 f p b (by obtain ⟨h1, h2, h3, h4, h5, h6, h7⟩ := hq; exact ⟨h1, h2, h3, h4, h5, h6, by omega⟩)⟩)
    · by_cases e : b = b0
      · subst e
        obtain ⟨n, rfl⟩ : ∃ j, n = j + 1 := ⟨n - 1, by omega⟩
        have hpos := cnt_pos (P := bb nf nb b c m) hq.1 (bb_iff.mpr ⟨p, b, hq⟩)
        have hq0 := hq
        obtain ⟨hf, hp, e1, e2, e3, e4, -⟩ := hq0
        obtain ⟨r, c', m', rr', dc', z1, z2, R', z3, z4⟩ := op_flush R hN hf hp e1 (by omega)
        have hr : Bo r := by
          rcases z3 with ⟨h, -⟩ | ⟨h, -⟩
          · exact Or.inr h
          · exact Or.inl h
        have hph' : rr' + dc' ≤ 255 := by
          rcases z3 with ⟨-, -, g1, g2, -⟩ | ⟨-, g1, g2, -⟩
          · rw [if_neg e2] at g1; omega
          · omega
        have hm7 : m.2.1 7 p ≠ -1 := by rw [(R.mof hf hp e1).2.2.1]; exact e2
        have hhit := in_hit (N := N) (J := pf_X7_syncAll_L46 N n') (x1 := acc) R R' hr hp e3 hm7 (fun q hq hne h6 => hne (R.Bk.2.1 q p hq hp (by rw [h6]; exact m1_ne (by omega)) (h6.trans e3.symm))) z2 z4.2.2.2.2.2.2.2.1 3072 0 N (by omega) (by omega) (Nat.zero_le _)
        have hhit' : pf_X7_syncAll_L56 N (pf_X7_syncAll_L46 N n') N acc (nI b) 0 m = _ := hhit
        have hdf : pf_X6_dirtyFrameAt N nf nb (nI b) c = some (nI f) := dfa_L R hq f 0 N (by omega) (by omega)
        rw [hhit', pf_X6_syncAll_L56, R.2.1.1, if_n (by omega) (by omega), if_neg (by omega), h1, if_neg (m1_ne (by omega)), hdf, Option.bind_some, z1, Option.bind_some]
        unfold pf_X6_syncAll_b87
        obtain ⟨x', v1, v2⟩ := ldb (N := N) R' hN (x := nI b) (a := b + 1) (Or.inr ⟨b, rfl, rfl, by omega⟩)
        simp only []
        rw [v1, Option.bind_some, nI_1]
        have back : ∀ f' p' b', Bq nf nb (b + 1) c' m' f' p' b' → f' ≠ f ∧ Bq nf nb b c m f' p' b' := fun f' p' b' hq' => by
          obtain ⟨g1, g2, g3, g4, g5, g6, g7⟩ := hq'
          rw [z4.1] at g3
          have hne : f' ≠ f := fun e => by
            subst e
            have := nI_inj (g3.symm.trans e1) (by omega) (by omega)
            subst this
            rw [z4.2.2.2.2.2.2.2.2.1 (by rw [e3]; exact m1_ne (by omega)), e3] at g5
            have := nI_inj g5 (by omega) (by omega)
            omega
          rw [z4.2.2.2.2.1 f' hne] at g4
          have hpp : p' ≠ p := fun e => by
            subst e
            have q1 := (R.mof g1 g2 g3).1
            have q2 := (R.mof hf g2 e1).1
            exact hne (nI_inj (q1.symm.trans q2) (by omega) (by omega))
          rw [z4.2.2.2.2.2.2.2.1 p' hpp] at g5
          exact ⟨hne, g1, g2, g3, g4, g5, g6, by omega⟩
        have hcnt' : cnt (bb nf nb (b + 1) c' m') nf + 1 ≤ cnt (bb nf nb b c m) nf := by
          refine cnt_sub1 (i := f) hf (bb_iff.mpr ⟨p, b, hq⟩) ?_ (fun j hj h => ?_)
          · cases e : bb nf nb (b + 1) c' m' f
            · rfl
            · obtain ⟨p', b', h⟩ := bb_iff.mp e
              exact absurd rfl (back f p' b' h).1
          · obtain ⟨p', b', h'⟩ := bb_iff.mp h
            exact bb_iff.mpr ⟨p', b', (back j p' b' h').2⟩
        rcases hr with h | h
        · subst h
          rw [if_pos rfl, x_add0]
          exact ih (b + 1) (i + 1) n n' dc' rr' x' acc c' m' R' hph' (by omega) (by omega) (by omega) (by omega) v2
        · subst h
          rw [if_neg z1_ne]
          exact ih (b + 1) (i + 1) n n' dc' rr' x' (acc + 1) c' m' R' hph' (by omega) (by omega) (by omega) (by omega) v2
      · have hb0 := hq.2.2.2.2.2.2
        refine none' (fun f' p' h => ?_) (Or.inr ⟨f, p, b, ?_, h1, fun f' p' b' hq' => ?_⟩)
        · have := h2 f' p' b0 h
          omega
        · obtain ⟨g1, g2, g3, g4, g5, g6, g7⟩ := hq
          exact ⟨g1, g2, g3, g4, g5, g6, by omega⟩
        · obtain ⟨g1, g2, g3, g4, g5, g6, g7⟩ := hq'
          exact h2 f' p' b' ⟨g1, g2, g3, g4, g5, g6, by omega⟩
theorem sa1_L (hN : 5000 ≤ N) : ∀ (d k n n' : Nat) (c m : St), Rel hd nf nb LA LI LS ev tm dc rr c m → rr + dc ≤ 255 → k + d = 3072 → d < n → d < n' → ∃ r c' m' dc' rr', pf_X6_syncAll_L9 N nf nb n (nI k) c = some (r, c') ∧ pf_X7_syncAll_L7 N n' (nI k) m = some (r, m') ∧ Rel hd nf nb LA LI LS ev tm dc' rr' c' m' := by
  intro d
  induction d with
  | zero =>
    intro k n n' c m R hph hk hn hn'
    obtain ⟨n, rfl⟩ : ∃ j, n = j + 1 := ⟨n - 1, by omega⟩
    obtain ⟨n', rfl⟩ : ∃ j, n' = j + 1 := ⟨n' - 1, by omega⟩
    have hnb := R.1.2.2.2.1
    rw [pf_X6_syncAll_L9, pf_X7_syncAll_L7, show (3072 : Int32) = nI 3072 from rfl, if_n (by omega) (by omega), if_pos (by omega), if_n (by omega) (by omega), if_pos (by omega)]
    obtain ⟨x', v1, v2⟩ := ldb (N := N) R hN (x := -1) (a := 0) (Or.inl ⟨rfl, rfl⟩)
    rw [v1, Option.bind_some]
    exact sa_L hN nb 0 0 N N dc rr x' 0 c m R hph (by omega) (by rw [Nat.zero_add]; exact cnt_le _ _) (by omega) (by omega) v2
  | succ d ih =>
    intro k n n' c m R hph hk hn hn'
    obtain ⟨n, rfl⟩ : ∃ j, n = j + 1 := ⟨n - 1, by omega⟩
    obtain ⟨n', rfl⟩ : ∃ j, n' = j + 1 := ⟨n' - 1, by omega⟩
    have hp : k < 3072 := by omega
    rw [pf_X6_syncAll_L9, pf_X7_syncAll_L7, show (3072 : Int32) = nI 3072 from rfl, if_n (by omega) (by omega), if_neg (by omega), if_n (by omega) (by omega), if_neg (by omega), frameOf_n hp, Option.bind_some, R.fo]
    unfold pf_X6_syncAll_b40 pf_X7_syncAll_b34 pf_X7_syncAll_b35
    simp only [nI_1]
    have give : ∃ r c' m' dc' rr', (pf_X6_giveBlock N nf nb (nI k) c).bind (fun z20 => pf_X6_syncAll_L9 N nf nb n (nI (k + 1)) z20.2) = some (r, c') ∧ (pf_X7_hasBlock N (nI k) m).bind (fun z17 => if z17.1 = 0 then pf_X7_syncAll_L7 N n' (nI (k + 1)) z17.2 else pf_X7_syncAll_L7 N n' (nI (k + 1)) z17.2) = some (r, m') ∧ Rel hd nf nb LA LI LS ev tm dc' rr' c' m' := by
      obtain ⟨r, c1, m1, y1, y2, R1, -⟩ := op_give R hN hp
      rw [y1, y2, Option.bind_some, Option.bind_some, ite_self]
      exact ih (k + 1) n n' c1 m1 R1 hph (by omega) (by omega) (by omega)
    rcases isDirty_c (N := N) R hp with ⟨h, d1, d2⟩ | ⟨f, hf, g1, g2, ⟨-, d1, d2⟩ | ⟨hd, d1, d2⟩⟩
    · rw [d1, d2, Option.bind_some, Option.bind_some, if_pos rfl, if_pos rfl]
      exact ih (k + 1) n n' c m R hph (by omega) (by omega) (by omega)
    · rw [g1, d1, d2, Option.bind_some, Option.bind_some, if_pos rfl, if_pos rfl]
      exact ih (k + 1) n n' c m R hph (by omega) (by omega) (by omega)
    · rw [g1, d1, d2, Option.bind_some, Option.bind_some, if_neg z1_ne, if_neg z1_ne]
      exact give
theorem q_syncAll {k : Nat} (R : R3 nf nb k c m) (hN : 5000 ≤ N) : ∃ r c' m', pf_X6_syncAll N nf nb c = some (r, c') ∧ pf_X7_syncAll N m = some (r, m') ∧ R3 nf nb (k + 1) c' m' := by
  obtain ⟨LA, LI, LS, ev, tm, dc, rr, R, hev, htm⟩ := R
  have hnf := R.1.2.1
  unfold pf_X6_syncAll pf_X7_syncAll
  obtain ⟨y1, R1⟩ := op_begin (N := N) R
  have hd := dc_le R.D
  rw [y1, Option.bind_some]
  simp only [lt_]
  obtain ⟨r, c', m', dc', rr', v1, v2, R'⟩ := sa1_L hN 3072 0 N N _ _ R1 (by omega) (by omega) (by omega) (by omega)
  exact ⟨r, c', m', v1, v2, R3.of R' (by omega) (by omega)⟩
end K9
