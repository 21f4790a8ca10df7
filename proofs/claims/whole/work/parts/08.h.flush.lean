/-! PURE PART: flush and written -/
theorem x_add0 (x : Int32) : x + 0 = x := by
  apply Int32.toBitVec_inj.mp
  rw [Int32.toBitVec_add]
  show _ + 0#32 = _
  simp
def KpF (c c' m m' : St) (f p : Nat) : Prop := c'.2.1 17 = c.2.1 17 ∧ c'.2.1 19 = c.2.1 19 ∧ c'.2.1 20 = c.2.1 20 ∧ c'.2.1 21 = c.2.1 21 ∧ (∀ g, g ≠ f → c'.2.1 18 g = c.2.1 18 g) ∧ m'.2.1 5 = m.2.1 5 ∧ m'.2.1 23 = m.2.1 23 ∧ (∀ q, q ≠ p → m'.2.1 6 q = m.2.1 6 q) ∧ (m.2.1 6 p ≠ -1 → m'.2.1 6 p = m.2.1 6 p) ∧ c'.2.2 16 = c.2.2 16 ∧ c'.2.2 34 = c.2.2 34 ∧ c'.2.2 32 = c.2.2 32 ∧ m'.2.1 1 = m.2.1 1
theorem op_flush {hd : HDp} {N nf nb ev tm dc rr f p : Nat} {LA LI LS : List (Nat × Nat)} {c m : St} (R : Rel hd nf nb LA LI LS ev tm dc rr c m) (hN : 5000 ≤ N) (hf : f < nf) (hp : p < 3072) (hsp : c.2.1 17 f = nI p) (hrr : rr < 256) : ∃ r c' m' rr' dc', pf_X6_flush N nf nb (nI f) c = some (r, c') ∧ pf_X7_written N (nI p) m = some (r, m') ∧ Rel hd nf nb LA LI LS ev tm dc' rr' c' m' ∧ ((r = 1 ∧ c'.2.1 18 f = -1 ∧ dc' + (if c.2.1 18 f = -1 then 0 else 1) = dc ∧ rr' ≤ rr + 1 ∧ m'.2.1 6 p ≠ -1) ∨ (r = 0 ∧ dc' = dc ∧ rr' = rr ∧ c'.2.1 18 = c.2.1 18)) ∧ KpF c c' m m' f p := by
  have hmf := R.mof hf hp hsp
  have hk0 := R.2.1
  have hnf := R.1.2.1
  obtain ⟨r1, c1, m1, y1, y2, R1, y3, y4, y5, y6, y7, -⟩ := op_give R hN hp
  have e17 : c1.2.1 17 = c.2.1 17 := y4.2.1 17 (by decide) (by decide) (by decide)
  have e18 : c1.2.1 18 = c.2.1 18 := y4.2.1 18 (by decide) (by decide) (by decide)
  have e19 : c1.2.1 19 = c.2.1 19 := y4.2.1 19 (by decide) (by decide) (by decide)
  have e20 : c1.2.1 20 = c.2.1 20 := y4.2.1 20 (by decide) (by decide) (by decide)
  have e21 : c1.2.1 21 = c.2.1 21 := y4.2.1 21 (by decide) (by decide) (by decide)
  have g5 : m1.2.1 5 = m.2.1 5 := y5 5 (by decide) (by decide) (by decide)
  have g1 : m1.2.1 1 = m.2.1 1 := y5 1 (by decide) (by decide) (by decide)
  have g23 : m1.2.1 23 = m.2.1 23 := y5 23 (by decide) (by decide) (by decide)
  have cm6 : m.2.1 6 p ≠ -1 → m1.2.1 6 p = m.2.1 6 p := fun hne => by
    obtain ⟨r, c2, m2, w1, w2, -, -, -, -, -, -, w3⟩ := op_give R hN hp
    rw [w2] at y2
    have := (w3 hne).1
    injection y2 with y2
    injection y2 with ya yb
    rw [← yb, this]
  have hsp1 : c1.2.1 17 f = nI p := by rw [e17]; exact hsp
  have hR1 := R1
  obtain ⟨hK, hk1, s1, hZ, w1, n1, e1, f1, b1, b2, b3, hBk, hRc, h1, t1, hF, hT, hL, hI, hD, hPn, hS, B1, B2, B3⟩ := R1
  have hK' := hK
  obtain ⟨ka, kb, kc, kd, ke, kf⟩ := hK'
  obtain ⟨s, hs, hsz⟩ := hZ.1 (p / 256) (by omega)
  have hmf1 := hR1.mof hf hp hsp1
  have z0 : pf_X6_flush N nf nb (nI f) c = (if r1 = 0 then some ((0 : Int32), c1) else ((pf_X0_save N nf nb (c1.2.1 30 p) (nI f) (nI s - nI (p % 256 * 64)) c1).bind (fun z13 => if z13.1 = 0 then (pf_X1_setError N nf nb (nI (p / 256)) (-5 : Int32) z13.2).bind (fun z18 => some ((0 : Int32), z18)) else (pf_X2_clean N nf nb (nI f) z13.2).bind (fun z16 => some ((1 : Int32), z16))))) := by
    unfold pf_X6_flush pf_X2_spotIn
    rw [if_neg (nI_pos (by omega)), hk0.1, il_n (by omega) (by omega), if_pos hf]
    simp only [bI_n hf (show nf < 2 ^ 31 by omega), cl_n (show f < 2 ^ 31 by omega), hsp, Option.bind]
    rw [if_neg (m1_ne (by omega)), y1]
    simp only [lt_, p_div hp, bI_n (show p / 256 < 12 by omega) (show 12 < 2 ^ 31 by decide), cl_n (show p / 256 < 2 ^ 31 by omega), s1, hsz]
    have e3 : nI p - nI (p / 256) * (256 : Int32) = nI (p % 256) := by rw [← p_div hp]; exact p_rem hp
    rw [e3, show (64 : Int32) = nI 64 from rfl, pk_mul, bI_n hp (by decide), cl_n (by omega)]
  have z1 : pf_X7_written N (nI p) m = (if r1 = 0 then some ((0 : Int32), m1) else bI (m1.2.1 6 p) 512 (if m1.2.1 18 (Int32.toNatClampNeg (m1.2.1 6 p)) = 0 then (pf_X7_record N (1 : Int32) (m1.2.1 6 p) m1).bind (fun z9 => bI (nI (p / 256)) 12 (pf_X7_written_L64 N N (nI p) (m1.2.1 6 p) (z9.2.1 1 (p / 256) - nI (p % 256 * 64)) 0 z9)) else (pf_X7_wrong N (nI p) (-5 : Int32) m1).bind (fun z24 => some ((0 : Int32), z24)))) := by
    unfold pf_X7_written
    rw [y2]
    simp only [Option.bind, lt_, bI_n hp (show 3072 < 2 ^ 31 by decide), cl_n (show p < 2 ^ 31 by omega), p_rem hp, p_div hp, cl_n (show p / 256 < 2 ^ 31 by omega)]
    have e3 : nI p - nI (p / 256) * (256 : Int32) = nI (p % 256) := by rw [← p_div hp]; exact p_rem hp
    rw [show (64 : Int32) = nI 64 from rfl]
    simp only [e3, pk_mul, Nat.mul_comm 64 (p % 256)]
  rcases y3 with ⟨hr, b, hb, hbl⟩ | ⟨hr, hbl⟩
  · subst hr
    rw [z0, z1, if_neg z1_ne, if_neg z1_ne, b1, hbl, bI_n (by omega) (by decide), cl_n (by omega)]
    unfold pf_X0_save pf_X0_has
    rw [if_neg (nI_pos (by omega)), if_n (by omega) (by omega), if_neg (by omega)]
    simp only [Option.bind]
    rw [if_neg z1_ne, bI_n hb (by omega), cl_n (by omega), b3]
    rcases (hBk.2.2.1 b hb).2 with hfl | hfl
    · -- it is written
      rw [hfl, if_pos rfl, if_pos rfl]
      obtain ⟨ga, qa1, qa2⟩ := w_copy (N := N) (n0 := nb * 8) (n1 := nf * 8) (a := b) (c := f) (g1 := c1.2.2 16) (f := c1.2.2 3) (by omega) (by omega) (by omega) (by omega) (by omega)
      rw [qa1]
      simp only [lt_]
      rw [df_max (by omega) (by omega), show (64 : Int32) = nI 64 from rfl, show (1 : Int32) = nI 1 from rfl, pk_mul, nI_add, nI_add, pk_mul]
      obtain ⟨gb, qb1, qb2⟩ := w_clear2 (N := N) (n0 := nb * 8) (a := b * 64 + (s - p % 256 * 64)) (b := (b + 1) * 64) (f := ga) (by omega) (by omega) (by omega) (by omega) (by omega)
      have qb1' : pf_X5_clear N (nb * 8) (nI (b * 64 + (s - p % 256 * 64))) (nI ((b + 1) * 64)) ((sL c1 3 ga).2.2 3) = some gb := qb1
      rw [qb1']
      simp only []
      obtain ⟨r, k6, k7, k8, n1', n2', n3'⟩ := op_note (N := N) (nf := nf) (nb := nb) (b := b) (rr := rr) (c := sG (sL (sL c1 3 ga) 3 gb) 2 ((sL (sL c1 3 ga) 3 gb).1 2 + nI 1)) (m := m1) (kind := nI 1) (Or.inr rfl) hRc.nt hrr
      rw [n1', n2']
      simp only []
      rw [if_neg (show ¬ nI 1 = (0 : Int32) by decide), bI_n (by omega) (by decide)]
      -- the class cleans
      obtain ⟨dc', v1, v2, v3⟩ := cs_clean (N := N) (nb := nb) (f := f) (p := p) (dc := dc) (c := sA (sA (sA (sG (sG (sG (sL (sL c1 3 ga) 3 gb) 2 ((sL (sL c1 3 ga) 3 gb).1 2 + nI 1)) 3 (nI r)) 4 0) 6 k6) 7 k7) 8 k8) (ms := m1.2.1 7) hk1.1 kb hD hf hp hmf1.2.2.1
      rw [v1]
      -- the reference copies
      generalize hw : sA (sA (sA (sG (sG (sG (sG m1 11 1) 8 (m1.1 8 + (if nI 1 = 0 then 1 else 0))) 9 (m1.1 9 + nI 1)) 10 (nI r)) 20 k6) 21 k7) 22 k8 = w
      have hw1 : w.2.1 1 (p / 256) = nI s := by rw [← hw]; exact hsz
      have hw5 : w.2.1 5 p = nI f := by rw [← hw]; exact hmf1.1
      rw [hw1]
      obtain ⟨gd, d1, d2⟩ := m_disk_L (N := N) (f := f) (p := p) (b := b) (s := s) (t := p % 256 * 64) (σ := w) (by omega) (by omega) hp (by omega) (by omega) hw5 64 0 N (w.2.1 16) (by omega) (by omega)
      rw [sA_self] at d1
      rw [show (0 : Int32) = nI 0 from rfl, d1]
      refine ⟨1, _, _, r, dc', rfl, rfl, ?_, Or.inl ⟨rfl, us_, by rw [← e18]; exact v3, n3', ?_⟩, ?_⟩
      · subst hw
        refine ⟨hK, hk1, s1, hZ, w1, n1, e1, f1, b1, b2, b3, hBk, RRec_note hRc ?_ ?_ (by omega), h1, t1, hF.si kb hf hp hsp1, RT_upd hT (Or.inl rfl), hL, hI, v2, hPn, hS, B1, ?_, B3⟩
        · show c1.1 1 = m1.1 8 + (if nI 1 = 0 then 1 else 0)
          rw [if_neg (by decide), x_add0]; exact hRc.1
        · show c1.1 2 + nI 1 = m1.1 9 + nI 1
          rw [hRc.2.1]
        · intro k hk
          show gd k &&& 255 = nI (wbN gb k)
          rw [d2 k, qb2 k, qa2 k]
          by_cases hA : 64 * b + 0 ≤ k ∧ k < 64 * b + 64
          · rw [if_pos hA]
            by_cases hB : s - p % 256 * 64 ≤ k - 64 * b
            · rw [if_pos hB, if_pos (show b * 64 + (s - p % 256 * 64) ≤ k ∧ k < (b + 1) * 64 by omega)]; rfl
            · rw [if_neg hB, if_neg (show ¬ (b * 64 + (s - p % 256 * 64) ≤ k ∧ k < (b + 1) * 64) by omega), if_pos (show 64 * b ≤ k ∧ k < 64 * b + 64 by omega)]
              exact B1 (64 * f + (k - 64 * b)) (by omega)
          · rw [if_neg hA, if_neg (show ¬ (b * 64 + (s - p % 256 * 64) ≤ k ∧ k < (b + 1) * 64) by omega), if_neg (show ¬ (64 * b ≤ k ∧ k < 64 * b + 64) by omega)]
            exact B2 k hk
      · subst hw
        show m1.2.1 6 p ≠ -1
        rw [hbl]; exact m1_ne (by omega)
      · subst hw
        exact ⟨e17, e19, e20, e21, fun g hg => by show upd (c1.2.1 18) f (-1) g = _; rw [un hg, e18], g5, g23, y7, cm6, congrFun y4.2.2 16, congrFun y4.2.2 34, congrFun y4.2.2 32, g1⟩
    · -- the block fails
      rw [hfl, if_neg z1_ne, if_neg z1_ne]
      simp only []
      obtain ⟨g, x1, x2⟩ := op_err (N := N) (nf := nf) (nb := nb) (c := c1) (m := m1) (e := -5) e1 hp
      rw [if_pos trivial, x1, x2]
      refine ⟨0, _, _, rr, dc, rfl, rfl, ⟨hK, hk1, s1, hZ, w1, n1, rfl, f1, b1, b2, b3, hBk, hRc, h1, t1, hF, hT, hL, hI, hD, hPn, hS, B1, B2, B3⟩, Or.inr ⟨rfl, rfl, rfl, e18⟩, e17, e19, e20, e21, fun g hg => congrFun e18 g, g5, g23, y7, cm6, congrFun y4.2.2 16, congrFun y4.2.2 34, congrFun y4.2.2 32, g1⟩
  · subst hr
    rw [z0, z1, if_pos rfl, if_pos rfl]
    exact ⟨0, c1, m1, rr, dc, rfl, rfl, hR1, Or.inr ⟨rfl, rfl, rfl, e18⟩, e17, e19, e20, e21, fun g hg => congrFun e18 g, g5, g23, y7, cm6, congrFun y4.2.2 16, congrFun y4.2.2 34, congrFun y4.2.2 32, g1⟩
