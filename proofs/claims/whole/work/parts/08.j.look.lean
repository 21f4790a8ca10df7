/-! PURE PART: frames taken back -/
theorem Rel.L {hd : HDp} {nf nb ev tm dc rr : Nat} {LA LI LS : List (Nat × Nat)} {c m : St} (R : Rel hd nf nb LA LI LS ev tm dc rr c m) : RLs nf (c.2.1 17) (c.2.1 21) (c.2.1 24) (c.2.1 26) (m.2.1 12) (m.2.1 13) (c.1 6) (c.1 7) (m.1 2) (m.1 3) LA LI := R.2.2.2.2.2.2.2.2.2.2.2.2.2.2.2.2.2.1
theorem Rel.F {hd : HDp} {nf nb ev tm dc rr : Nat} {LA LI LS : List (Nat × Nat)} {c m : St} (R : Rel hd nf nb LA LI LS ev tm dc rr c m) : RF nf (c.2.1 17) (c.2.1 18) (c.2.1 19) (c.2.1 20) (c.2.1 21) (m.2.1 5) (m.2.1 7) (m.2.1 9) (m.2.1 10) (m.2.1 11) (m.2.1 14) := R.2.2.2.2.2.2.2.2.2.2.2.2.2.2.2.1
theorem Rel.T {hd : HDp} {nf nb ev tm dc rr : Nat} {LA LI LS : List (Nat × Nat)} {c m : St} (R : Rel hd nf nb LA LI LS ev tm dc rr c m) : RT nf tm (c.2.1 18) := R.2.2.2.2.2.2.2.2.2.2.2.2.2.2.2.2.1
/-- since when: the class's test and the reference's -/
theorem dirtyC {hd : HDp} {N nf nb ev tm dc rr f p : Nat} {LA LI LS : List (Nat × Nat)} {c m : St} (R : Rel hd nf nb LA LI LS ev tm dc rr c m) (hf : f < nf) (hp : p < 3072) (hsp : c.2.1 17 f = nI p) : (c.2.1 18 f = -1 ∧ pf_X2_isDirty N nf nb (nI f) c = some 0 ∧ pf_X7_isDirty N (nI p) m = some 0) ∨ (c.2.1 18 f ≠ -1 ∧ pf_X2_isDirty N nf nb (nI f) c = some 1 ∧ pf_X7_isDirty N (nI p) m = some 1) := by
  have hmf := R.mof hf hp hsp
  have hk1 := R.2.1
  have hnf := R.1.2.1
  have hT := R.T f hf
  unfold pf_X2_isDirty pf_X7_isDirty
  rw [if_neg (nI_pos (by omega)), hk1.1, if_n (by omega) (by omega), if_neg (by omega), bI_n hf (by omega), bI_n hp (by decide), cl_n (by omega), cl_n (by omega), hmf.2.2.1]
  rcases hT with h | ⟨t, ht, h⟩
  · rw [h, if_pos rfl, if_pos (by decide)]
    exact Or.inl ⟨rfl, rfl, rfl⟩
  · have hb : tm < 2 ^ 30 := R.1.2.2.2.2.2
    rw [h, if_neg (m1_ne (by omega)), if_neg (nI_pos (by omega))]
    exact Or.inr ⟨m1_ne (by omega), rfl, rfl⟩
theorem op_lookI {hd : HDp} {N nf nb ev tm : Nat} {LS : List (Nat × Nat)} (hN : 5000 ≤ N) : ∀ (k : Nat) (LA LI : List (Nat × Nat)) (dc rr : Nat) (c m : St) (i n n' : Nat), Rel hd nf nb LA LI LS ev tm dc rr c m → i + k = 2 * nf → k < n → k < n' → rr + dc ≤ 255 → ∃ c' m' LA' LI' dc' rr', Rel hd nf nb LA' LI' LS ev tm dc' rr' c' m' ∧ rr' + dc' ≤ rr + dc ∧ c'.2.1 17 = c.2.1 17 ∧ m'.2.1 5 = m.2.1 5 ∧ c'.2.2 34 = c.2.2 34 ∧
    ((∃ f p, f < nf ∧ p < 3072 ∧ c'.2.1 17 f = nI p ∧ c'.2.1 18 f = -1 ∧ pf_X6_lookAtInactive_L2 N nf nb n (nI i) c = some (nI f, c') ∧ pf_X7_frame_L75 N n' (nI i) m = pf_X7_frame_b172 N (nI p) m') ∨ (pf_X6_lookAtInactive_L2 N nf nb n (nI i) c = some (-1, c') ∧ pf_X7_frame_L75 N n' (nI i) m = pf_X7_frame_b192 N m')) := by
  intro k
  induction k with
  | zero =>
    intro LA LI dc rr c m i n n' R hi hn hn' hphi
    obtain ⟨n, rfl⟩ : ∃ j, n = j + 1 := ⟨n - 1, by omega⟩
    obtain ⟨n', rfl⟩ : ∃ j, n' = j + 1 := ⟨n' - 1, by omega⟩
    have hk1 := R.2.1
    have hnf := R.1.2.1
    refine ⟨c, m, LA, LI, dc, rr, R, Nat.le_refl _, rfl, rfl, rfl, Or.inr ⟨?_, ?_⟩⟩
    · rw [pf_X6_lookAtInactive_L2, hk1.1, show (2 : Int32) = nI 2 from rfl, pk_mul, if_n (by omega) (by omega), if_pos (by omega)]
    · rw [pf_X7_frame_L75, hk1.2.1, show (2 : Int32) = nI 2 from rfl, pk_mul, if_n (by omega) (by omega), if_pos (by omega)]
  | succ k ih =>
    intro LA LI dc rr c m i n n' R hi hn hn' hphi
    obtain ⟨n, rfl⟩ : ∃ j, n = j + 1 := ⟨n - 1, by omega⟩
    obtain ⟨n', rfl⟩ : ∃ j, n' = j + 1 := ⟨n' - 1, by omega⟩
    have hL := R.L
    have hF := R.F
    have hk1 := R.2.1
    have hlen := hL.len
    have hnf := R.1.2.1
    rw [pf_X6_lookAtInactive_L2, pf_X7_frame_L75, hk1.1, hk1.2.1, show (2 : Int32) = nI 2 from rfl, pk_mul, if_n (by omega) (by omega), if_neg (by omega), if_n (by omega) (by omega), if_neg (by omega), hL.2.1.1, hL.2.2.2.1.1, List.length_map, List.length_map]
    rcases Nat.eq_zero_or_pos LI.length with hz | hz
    · -- none is inactive
      have hnil : LI = [] := List.eq_nil_of_length_eq_zero hz
      subst hnil
      have hlast : pf_X3_last N nf (c.2.1 26, nI ([] : List (Nat × Nat)).length) = some (-1) := by
        have := o_last0 (N := N) (n0 := nf) (τ := (c.2.1 26, c.1 7)) hL.2.1
        rw [hL.2.1.1] at this
        exact this
      rw [hlast, Option.bind_some, if_pos rfl, if_pos (by decide)]
      exact ⟨c, m, LA, [], dc, rr, R, Nat.le_refl _, rfl, rfl, rfl, Or.inr ⟨rfl, rfl⟩⟩
    · obtain ⟨P, ⟨f, p⟩, hLI⟩ := last_ex LI hz
      subst hLI
      have hfp := (hL.2.2.2.2.2.2.2 f p).mp (by simp)
      obtain ⟨hf, hp, hsp, hac⟩ := hfp
      have hmf := R.mof hf hp hsp
      have hv := hF.2.2 f hf
      have hlast : pf_X3_last N nf (c.2.1 26, nI (P ++ [(f, p)]).length) = some (nI f) := by
        have := o_last (N := N) (n0 := nf) (τ := (c.2.1 26, c.1 7)) (L := P.map Prod.fst) (x := f) (by have := hL.2.1; rw [List.map_append] at this; exact this) (by simp at hlen ⊢; omega) (by omega)
        rw [hL.2.1.1, List.length_map] at this
        exact this
      have hidx : nI (P ++ [(f, p)]).length - (1 : Int32) = nI P.length := by
        rw [show (1 : Int32) = nI 1 from rfl, pk_sub (by simp)]; congr 1; simp
      have hPl : P.length < 65 := by simp at hlen; omega
      have hml : m.2.1 13 P.length = nI p := hL.2.2.2.1.2 P.length p (by rw [List.map_append]; simp)
      rw [hlast, if_neg (nI_nle hz (by simp at hlen ⊢; omega))]
      simp only [Option.bind_some, lt_, bI_n hf (show nf < 2 ^ 31 by omega), cl_n (show f < 2 ^ 31 by omega), hidx, bI_n hPl (show 65 < 2 ^ 31 by decide), cl_n (show P.length < 2 ^ 31 by omega), hml, bI_n hp (show 3072 < 2 ^ 31 by decide), cl_n (show p < 2 ^ 31 by omega), hmf.2.2.2.1, hmf.2.2.2.2.1, nar0]
      rw [if_neg (m1_ne (by omega))]
      unfold pf_X6_lookAtInactive_b124 pf_X7_frame_b186
      simp only [nI_1]
      rcases hv.2.1 with hpi | hpi
      · rw [hpi, if_pos rfl, if_pos rfl]
        rcases hv.1 with hre | hre
        · rw [hre, if_pos rfl, if_pos rfl]
          rcases dirtyC (N := N) R hf hp hsp with ⟨hd, d1, d2⟩ | ⟨hd, d1, d2⟩
          · rw [d1, d2]
            simp only [Option.bind_some]
            rw [if_pos trivial, if_pos trivial]
            exact ⟨c, m, LA, P ++ [(f, p)], dc, rr, R, Nat.le_refl _, rfl, rfl, rfl, Or.inl ⟨f, p, hf, hp, hsp, hd, rfl, rfl⟩⟩
          · rw [d1, d2]
            simp only [Option.bind_some]
            rw [if_neg z1_ne, if_neg z1_ne]
            obtain ⟨r, c1, m1, rr1, dc1, x1, x2, R1, x3, x4⟩ := op_flush R hN hf hp hsp (by omega)
            rw [x1, x2]
            simp only [Option.bind_some]
            have hsp1 : c1.2.1 17 f = nI p := by rw [x4.1]; exact hsp
            rcases x3 with ⟨hr, h18, hdc, hrr, -⟩ | ⟨hr, hdc, hrr, h18⟩
            · subst hr
              rw [if_neg z1_ne, if_neg z1_ne]
              rw [if_neg hd] at hdc
              exact ⟨c1, m1, LA, P ++ [(f, p)], dc1, rr1, R1, by omega, x4.1, x4.2.2.2.2.2.1, x4.2.2.2.2.2.2.2.2.2.2.1, Or.inl ⟨f, p, hf, hp, hsp1, h18, rfl, rfl⟩⟩
            · subst hr
              rw [if_pos rfl, if_pos rfl]
              obtain ⟨c2, m2, y1, y2, R2, y3⟩ := op_II (N := N) (P := P) (S := []) R1 hN
              rw [y1, y2]
              simp only [Option.bind_some]
              obtain ⟨c3, m3, LA3, LI3, dc3, rr3, R3, q1, q2, q3, q5, q4⟩ := ih _ _ _ _ _ _ (i + 1) n n' R2 (by omega) (by omega) (by omega) (by omega)
              exact ⟨c3, m3, LA3, LI3, dc3, rr3, R3, by omega, q2.trans (y3.1.trans x4.1), q3.trans (y3.2.2.2.2.1.trans x4.2.2.2.2.2.1), q5.trans ((congrFun y3.2.2.2.2.2.2 34).trans x4.2.2.2.2.2.2.2.2.2.2.1), q4⟩
        · rw [hre, if_neg z1_ne, if_neg z1_ne]
          obtain ⟨c2, m2, y1, y2, R2, y3⟩ := op_IA (N := N) (P := P) (S := []) (R.setRe hf hp hsp (b := 0) (Or.inl rfl)) hN
          rw [y1, y2]
          simp only [Option.bind_some]
          obtain ⟨c3, m3, LA3, LI3, dc3, rr3, R3, q1, q2, q3, q5, q4⟩ := ih _ _ _ _ _ _ (i + 1) n n' R2 (by omega) (by omega) (by omega) (by omega)
          exact ⟨c3, m3, LA3, LI3, dc3, rr3, R3, by omega, q2.trans y3.1, q3.trans y3.2.2.2.2.1, q5.trans (congrFun y3.2.2.2.2.2.2 34), q4⟩
      · rw [hpi, if_neg z1_ne, if_neg z1_ne]
        obtain ⟨c2, m2, y1, y2, R2, y3⟩ := op_II (N := N) (P := P) (S := []) R hN
        rw [y1, y2]
        simp only [Option.bind_some]
        obtain ⟨c3, m3, LA3, LI3, dc3, rr3, R3, q1, q2, q3, q5, q4⟩ := ih _ _ _ _ _ _ (i + 1) n n' R2 (by omega) (by omega) (by omega) (by omega)
        exact ⟨c3, m3, LA3, LI3, dc3, rr3, R3, by omega, q2.trans y3.1, q3.trans y3.2.2.2.2.1, q5.trans (congrFun y3.2.2.2.2.2.2 34), q4⟩
theorem op_lookA {hd : HDp} {N nf nb ev tm : Nat} {LA LI LS : List (Nat × Nat)} (hN : 5000 ≤ N) : ∀ (k : Nat) (dc rr : Nat) (c m : St) (n n' : Nat), Rel hd nf nb LA LI LS ev tm dc rr c m → k ≤ LA.length → k < n → k < n' → rr + dc ≤ 255 → ∃ c' m' dc' rr', Rel hd nf nb LA LI LS ev tm dc' rr' c' m' ∧ rr' + dc' ≤ rr + dc ∧ c'.2.1 17 = c.2.1 17 ∧ m'.2.1 5 = m.2.1 5 ∧ c'.2.2 34 = c.2.2 34 ∧
    ((∃ f p, f < nf ∧ p < 3072 ∧ c'.2.1 17 f = nI p ∧ c'.2.1 18 f = -1 ∧ pf_X6_lookAtActive_L13 N nf nb n (nI k - 1) c = some (nI f, c') ∧ pf_X7_frame_L199 N n' (nI k - 1) m = pf_X7_frame_b235 N (nI p) m') ∨ (pf_X6_lookAtActive_L13 N nf nb n (nI k - 1) c = some (-1, c') ∧ pf_X7_frame_L199 N n' (nI k - 1) m = some (-1, m'))) := by
  intro k
  induction k with
  | zero =>
    intro dc rr c m n n' R hk hn hn' hphi
    obtain ⟨n, rfl⟩ : ∃ j, n = j + 1 := ⟨n - 1, by omega⟩
    obtain ⟨n', rfl⟩ : ∃ j, n' = j + 1 := ⟨n' - 1, by omega⟩
    refine ⟨c, m, dc, rr, R, Nat.le_refl _, rfl, rfl, rfl, Or.inr ⟨?_, ?_⟩⟩
    · rw [pf_X6_lookAtActive_L13, if_pos (by decide)]
    · rw [pf_X7_frame_L199, if_pos (by decide)]
  | succ k ih =>
    intro dc rr c m n n' R hk hn hn' hphi
    obtain ⟨n, rfl⟩ : ∃ j, n = j + 1 := ⟨n - 1, by omega⟩
    obtain ⟨n', rfl⟩ : ∃ j, n' = j + 1 := ⟨n' - 1, by omega⟩
    have hL := R.L
    have hF := R.F
    have hlen := hL.len
    have hnf := R.1.2.1
    obtain ⟨⟨f, p⟩, hx⟩ : ∃ x, LA[k]? = some x := ⟨LA[k]'(by omega), by rw [List.getElem?_eq_getElem (by omega)]⟩
    have hfp := (hL.2.2.2.2.2.2.1 f p).mp (List.mem_of_getElem? hx)
    obtain ⟨hf, hp, hsp, hac⟩ := hfp
    have hmf := R.mof hf hp hsp
    have hv := hF.2.2 f hf
    have hat : pf_X3_at N nf (nI k) (c.2.1 24, c.1 6) = some (nI f) := o_at (τ := (c.2.1 24, c.1 6)) hL.1 (by rw [List.getElem?_map, hx]; rfl) (by simp; omega) (by omega)
    have hml : m.2.1 12 k = nI p := hL.2.2.1.2 k p (by rw [List.getElem?_map, hx]; rfl)
    rw [pf_X6_lookAtActive_L13, pf_X7_frame_L199, nI_pred, if_neg (nI_pos (by omega)), if_neg (nI_pos (by omega)), hat]
    unfold pf_X6_lookAtActive_b67 pf_X7_frame_b249
    simp only [Option.bind_some, lt_, bI_n hf (show nf < 2 ^ 31 by omega), cl_n (show f < 2 ^ 31 by omega), bI_n (show k < 65 by omega) (show 65 < 2 ^ 31 by decide), cl_n (show k < 2 ^ 31 by omega), hml, bI_n hp (show 3072 < 2 ^ 31 by decide), cl_n (show p < 2 ^ 31 by omega), hmf.2.2.2.2.1]
    rw [if_neg (m1_ne (by omega))]
    have hm1 : nI k + (-1 : Int32) = nI k - 1 := by
      apply Int32.toBitVec_inj.mp
      rw [Int32.toBitVec_add, Int32.toBitVec_sub]
      show _ + (-1#32) = _ - 1#32
      rw [BitVec.sub_eq_add_neg]
    simp only [hm1]
    rcases hv.2.1 with hpi | hpi
    · rw [hpi, if_pos rfl, if_pos rfl]
      rcases dirtyC (N := N) R hf hp hsp with ⟨hd, d1, d2⟩ | ⟨hd, d1, d2⟩
      · rw [d1, d2]
        simp only [Option.bind_some]
        rw [if_pos trivial, if_pos trivial]
        exact ⟨c, m, dc, rr, R, Nat.le_refl _, rfl, rfl, rfl, Or.inl ⟨f, p, hf, hp, hsp, hd, rfl, rfl⟩⟩
      · rw [d1, d2]
        simp only [Option.bind_some]
        rw [if_neg z1_ne, if_neg z1_ne]
        obtain ⟨r, c1, m1, rr1, dc1, x1, x2, R1, x3, x4⟩ := op_flush R hN hf hp hsp (by omega)
        rw [x1, x2]
        simp only [Option.bind_some]
        have hsp1 : c1.2.1 17 f = nI p := by rw [x4.1]; exact hsp
        rcases x3 with ⟨hr, h18, hdc, hrr, -⟩ | ⟨hr, hdc, hrr, h18⟩
        · subst hr
          rw [if_neg z1_ne, if_neg z1_ne]
          rw [if_neg hd] at hdc
          exact ⟨c1, m1, dc1, rr1, R1, by omega, x4.1, x4.2.2.2.2.2.1, x4.2.2.2.2.2.2.2.2.2.2.1, Or.inl ⟨f, p, hf, hp, hsp1, h18, rfl, rfl⟩⟩
        · subst hr
          rw [if_pos rfl, if_pos rfl]
          obtain ⟨c3, m3, dc3, rr3, R3, q1, q2, q3, q5, q4⟩ := ih _ _ _ _ n n' R1 (by omega) (by omega) (by omega) (by omega)
          exact ⟨c3, m3, dc3, rr3, R3, by omega, q2.trans x4.1, q3.trans x4.2.2.2.2.2.1, q5.trans x4.2.2.2.2.2.2.2.2.2.2.1, q4⟩
    · rw [hpi, if_neg z1_ne, if_neg z1_ne]
      exact ih _ _ _ _ n n' R (by omega) (by omega) (by omega) hphi
