/-! PURE PART: bringIn, touch -/
theorem op_bringIn {hd : HDp} {N nf nb ev tm dc rr p : Nat} {LA LI LS : List (Nat × Nat)} {c m : St} (R : Rel hd nf nb LA LI LS ev tm dc rr c m) (hN : 5000 ≤ N) (hev : ev + 1 < 2 ^ 30) (hphi : rr + dc ≤ 255) (hp : p < 3072) (hfo : m.2.1 5 p = -1) :
    (∃ f c' m' LA' LI' LS' ev' dc' rr', pf_X6_bringIn N nf nb (nI p) c = some (nI f, c') ∧ pf_X7_bringIn N (nI p) m = some (1, m') ∧ Rel hd nf nb LA' LI' LS' ev' tm dc' rr' c' m' ∧ ev' ≤ ev + 1 ∧ rr' + dc' ≤ rr + dc + 1 ∧ f < nf ∧ c'.2.1 17 f = nI p ∧ c'.2.2 34 = c.2.2 34) ∨
    (∃ c' m' LA' LI' dc' rr', pf_X6_bringIn N nf nb (nI p) c = some (-1, c') ∧ pf_X7_bringIn N (nI p) m = some (0, m') ∧ Rel hd nf nb LA' LI' LS ev tm dc' rr' c' m' ∧ rr' + dc' ≤ rr + dc ∧ m'.2.1 5 = m.2.1 5 ∧ c'.2.2 34 = c.2.2 34) := by
  have hnf := R.1.2.1
  rcases op_frame R hN hev hphi (nI p) with ⟨f, c1, m1, LA1, LI1, LS1, ev1, dc1, rr1, hf, hsp, R1, he, hph, x1, x2, x3, x4⟩ | ⟨c1, m1, LA1, LI1, dc1, rr1, R1, hph, x1, x2, x3, x4⟩
  · refine Or.inl ?_
    have hfo1 : m1.2.1 5 p = -1 := x3 p hfo
    rw [x1]
    unfold pf_X7_bringIn
    rw [x2, Option.bind_some]
    simp only []
    rw [if_neg (m1_ne (by omega))]
    have hR1 := R1
    obtain ⟨hK, hk1, s1, hZ, w1, n1, e1, f1, b1, b2, b3, hBk, hRc, h1, t1, hF, hT, hL, hI, hD, hPn, hS, B1, B2, B3⟩ := R1
    have hK' := hK
    obtain ⟨ka, kb, kc, kd, ke, kf⟩ := hK'
    have hbl : m1.2.1 6 p = -1 ∨ ∃ b, b < 512 ∧ m1.2.1 6 p = nI b := by
      rcases hBk.1 p hp with h | ⟨b, hb, h, -⟩
      · exact Or.inl h
      · exact Or.inr ⟨b, by omega, h⟩
    obtain ⟨g', y1, y2⟩ := m_brg_L (N := N) (f := f) (p := p) (σ := m1) (bl := m1.2.1 6 p) hp (by omega) rfl hbl 64 0 N (m1.2.1 15) (by omega) (by omega)
    rw [sA_self] at y1
    have y1 : pf_X7_bringIn_L14 N N (nI p) (nI f) 0 m1 = _ := y1
    rw [y1]
    unfold pf_X6_bringIn_b51
    rw [bI_n hp (by decide), bI_n hp (by decide), cl_n (by omega), b1]
    rcases hBk.1 p hp with hb | ⟨b, hb, hbe, -⟩
    · rw [hb, if_pos rfl, if_pos rfl, show (64 : Int32) = nI 64 from rfl, show (1 : Int32) = nI 1 from rfl, pk_mul, nI_add, pk_mul]
      obtain ⟨g, q1, q2⟩ := w_clear2 (N := N) (n0 := nf * 8) (a := f * 64) (b := (f + 1) * 64) (f := c1.2.2 16) (by omega) (by omega) (by omega) (by omega) (by omega)
      rw [q1, Option.bind_some]
      simp only [lt_]
      have R2 : Rel hd nf nb LA1 LI1 LS1 ev1 tm dc1 rr1 (sL c1 16 g) (sA m1 15 g') := ⟨hK, hk1, s1, hZ, w1, n1, e1, f1, b1, b2, b3, hBk, hRc, h1, t1, hF, hT, hL, hI, hD, hPn, hS, fun k hk => by
        show g' k &&& 255 = nI (wbN g k)
        rw [y2 k, q2 k, hb, if_pos rfl]
        by_cases hA : 64 * f + 0 ≤ k ∧ k < 64 * f + 64
        · rw [if_pos hA, if_pos (show f * 64 ≤ k ∧ k < (f + 1) * 64 by omega)]; rfl
        · rw [if_neg hA, if_neg (show ¬ (f * 64 ≤ k ∧ k < (f + 1) * 64) by omega)]; exact B1 k hk, B2, B3⟩
      obtain ⟨c', m', LA', LI', LS', z1, z2, R', z3, z4, z5⟩ := op_enter R2 hN hf hp hsp hfo1
      exact ⟨f, c', m', LA', LI', LS', ev1, dc1, rr1, z1, z2, R', he, by omega, hf, z3, (congrFun z5 34).trans x4⟩
    · rw [hbe, if_neg (m1_ne (by omega)), if_neg (m1_ne (by omega))]
      unfold pf_X0_load pf_X0_has
      rw [if_neg (nI_pos (by omega)), if_n (by omega) (by omega), if_neg (by omega), Option.bind_some, if_neg z1_ne]
      obtain ⟨g, q1, q2⟩ := w_copy (N := N) (n0 := nf * 8) (n1 := nb * 8) (a := f) (c := b) (g1 := c1.2.2 3) (f := c1.2.2 16) (by omega) (by omega) (by omega) (by omega) (by omega)
      rw [q1, Option.bind_some]
      simp only [lt_]
      obtain ⟨r, k6, k7, k8, n1', n2', n3'⟩ := op_note (N := N) (nf := nf) (nb := nb) (b := b) (rr := rr1) (c := sG (sL c1 16 g) 1 ((sL c1 16 g).1 1 + 1)) (m := sA m1 15 g') (kind := 0) (Or.inl rfl) hRc.nt (by omega)
      rw [n1', n2', Option.bind_some, Option.bind_some]
      have R2 : Rel hd nf nb LA1 LI1 LS1 ev1 tm dc1 r (sA (sA (sA (sG (sG (sG (sL c1 16 g) 1 ((sL c1 16 g).1 1 + 1)) 3 (nI r)) 4 0) 6 k6) 7 k7) 8 k8) (sA (sA (sA (sG (sG (sG (sG (sA m1 15 g') 11 1) 8 ((sA m1 15 g').1 8 + (if (0 : Int32) = 0 then 1 else 0))) 9 ((sA m1 15 g').1 9 + 0)) 10 (nI r)) 20 k6) 21 k7) 22 k8) := ⟨hK, hk1, s1, hZ, w1, n1, e1, f1, b1, b2, b3, hBk, RRec_note hRc (by
          show c1.1 1 + 1 = m1.1 8 + (if (0 : Int32) = 0 then 1 else 0)
          rw [if_pos rfl, hRc.1]) (by
          show c1.1 2 = m1.1 9 + 0
          rw [x_add0]; exact hRc.2.1) (by omega), h1, t1, hF, hT, hL, hI, hD, hPn, hS, fun k hk => by
        show g' k &&& 255 = nI (wbN g k)
        rw [y2 k, q2 k, hbe, if_neg (show ¬ nI b = -1 from m1_ne (by omega)), cl_n (by omega)]
        by_cases hA : 64 * f + 0 ≤ k ∧ k < 64 * f + 64
        · rw [if_pos hA, if_pos (show 64 * f ≤ k ∧ k < 64 * f + 64 by omega)]; exact B2 (64 * b + (k - 64 * f)) (by omega)
        · rw [if_neg hA, if_neg (show ¬ (64 * f ≤ k ∧ k < 64 * f + 64) by omega)]; exact B1 k hk, B2, B3⟩
      obtain ⟨c', m', LA', LI', LS', z1, z2, R', z3, z4, z5⟩ := op_enter R2 hN hf hp hsp hfo1
      exact ⟨f, c', m', LA', LI', LS', ev1, dc1, r, z1, z2, R', he, by omega, hf, z3, (congrFun z5 34).trans x4⟩
  · refine Or.inr ⟨c1, m1, LA1, LI1, dc1, rr1, x1, ?_, R1, hph, x3, x4⟩
    unfold pf_X7_bringIn
    rw [x2, Option.bind_some]
    simp only []
    rw [if_pos trivial]
theorem frameOf_n {N nf nb p : Nat} {c : St} (hp : p < 3072) : pf_X2_frameOf N nf nb (nI p) c = some (c.2.1 22 p) := by
  unfold pf_X2_frameOf
  rw [if_neg (nI_pos (by omega)), show (3072 : Int32) = nI 3072 from rfl, il_n (by omega) (by omega), if_pos hp, bI_n hp (by decide), cl_n (by omega)]
theorem isIn_n {N p : Nat} {m : St} (hp : p < 3072) (h : m.2.1 5 p = -1 ∨ ∃ f, f < 2 ^ 31 ∧ m.2.1 5 p = nI f) : pf_X7_isIn N (nI p) m = some (if m.2.1 5 p = -1 then 0 else 1) := by
  unfold pf_X7_isIn
  rw [bI_n hp (by decide), cl_n (by omega)]
  rcases h with h | ⟨f, hf, h⟩
  · rw [h, if_pos (by decide), if_pos rfl]
  · rw [h, if_neg (nI_pos hf), if_neg (m1_ne hf)]
theorem Rel.io {hd : HDp} {nf nb ev tm dc rr p : Nat} {LA LI LS : List (Nat × Nat)} {c m : St} (R : Rel hd nf nb LA LI LS ev tm dc rr c m) (hp : p < 3072) : m.2.1 5 p = -1 ∨ ∃ f, f < nf ∧ m.2.1 5 p = nI f ∧ c.2.1 17 f = nI p := by
  rcases R.F.1 p hp with ⟨h, -⟩ | ⟨f, hf, h1, h2, -⟩
  · exact Or.inl h
  · exact Or.inr ⟨f, hf, h1, h2⟩
theorem Rel.fo {hd : HDp} {nf nb ev tm dc rr : Nat} {LA LI LS : List (Nat × Nat)} {c m : St} (R : Rel hd nf nb LA LI LS ev tm dc rr c m) : c.2.1 22 = m.2.1 5 := R.2.2.2.2.2.2.2.1
theorem op_touch {hd : HDp} {N nf nb ev tm dc rr p : Nat} {LA LI LS : List (Nat × Nat)} {c m : St} (R : Rel hd nf nb LA LI LS ev tm dc rr c m) (hN : 5000 ≤ N) (hev : ev + 1 < 2 ^ 30) (hphi : rr + dc ≤ 255) (hp : p < 3072) :
    (∃ f c' m' LA' LI' LS' ev' dc' rr', pf_X6_touch N nf nb (nI p) c = some (nI f, c') ∧ pf_X7_touch N (nI p) m = some (1, m') ∧ Rel hd nf nb LA' LI' LS' ev' tm dc' rr' c' m' ∧ ev' ≤ ev + 1 ∧ rr' + dc' ≤ rr + dc + 1 ∧ f < nf ∧ c'.2.1 17 f = nI p ∧ c'.2.2 34 = c.2.2 34) ∨
    (∃ c' m' LA' LI' dc' rr', pf_X6_touch N nf nb (nI p) c = some (-1, c') ∧ pf_X7_touch N (nI p) m = some (0, m') ∧ Rel hd nf nb LA' LI' LS ev tm dc' rr' c' m' ∧ rr' + dc' ≤ rr + dc ∧ m'.2.1 5 = m.2.1 5 ∧ c'.2.2 34 = c.2.2 34 ∧ m.2.1 5 p = -1) := by
  have hnf := R.1.2.1
  unfold pf_X6_touch pf_X7_touch
  rw [frameOf_n hp, R.fo, Option.bind_some]
  rcases R.io hp with h | ⟨f, hf, h1, h2⟩
  · rw [isIn_n hp (Or.inl h), h, Option.bind_some, if_pos rfl, if_pos rfl, if_pos rfl]
    rcases op_bringIn R hN hev hphi hp h with ⟨f, c', m', LA', LI', LS', ev', dc', rr', x1, x2, x3, x4, x5, x6, x7, x8⟩ | ⟨c', m', LA', LI', dc', rr', x1, x2, x3, x4, x5, x6⟩
    · rw [x1, x2, Option.bind_some, Option.bind_some, bZ_b (Or.inr rfl)]
      exact Or.inl ⟨f, c', m', LA', LI', LS', ev', dc', rr', rfl, rfl, x3, x4, x5, x6, x7, x8⟩
    · rw [x1, x2, Option.bind_some, Option.bind_some, bZ_b (Or.inl rfl)]
      exact Or.inr ⟨c', m', LA', LI', dc', rr', rfl, rfl, x3, x4, x5, x6, rfl⟩
  · rw [isIn_n hp (Or.inr ⟨f, by omega, h1⟩), h1, Option.bind_some, if_neg (m1_ne (by omega)), if_neg (m1_ne (by omega)), if_neg z1_ne]
    obtain ⟨c', m', LA', LI', x1, x2, R', x3, x4, x5⟩ := op_see R hN hf hp h2
    rw [x1, x2, Option.bind_some, Option.bind_some]
    exact Or.inl ⟨f, c', m', LA', LI', LS, ev, dc, rr, rfl, rfl, R', by omega, by omega, hf, by rw [x3]; exact h2, congrFun x5 34⟩
