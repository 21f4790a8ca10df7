/-! PURE PART: the calls: punch, pin, truncate -/
section K2
variable {hd : HDp} {N nf nb ev tm dc rr : Nat} {LA LI LS : List (Nat × Nat)} {c m : St}
theorem punch_L {i a b e : Nat} (hi : i < 12) (hN : 5000 ≤ N) (hab : a + b < 1000) (he1 : e ≤ 256) (he2 : e ≤ a + b) (he3 : e = 256 ∨ e = a + b) : ∀ (d k n n' dc : Nat) (x : Int32) (LA LI LS : List (Nat × Nat)) (c m : St), Rel hd nf nb LA LI LS ev tm dc rr c m → k + d = e → d < n → d < n' → ∃ r c' m' LA' LI' LS' dc', pf_X6_punch_L46 N nf nb n (nI i) (nI e) x (nI k) c = some (r, c') ∧ pf_X7_punch_L35 N n' (nI i) (nI a) (nI b) x (nI k) m = some (r, m') ∧ Rel hd nf nb LA' LI' LS' ev tm dc' rr c' m' := by
  intro d
  induction d with
  | zero =>
    intro k n n' dc x LA LI LS c m R hk hn hn'
    obtain ⟨n, rfl⟩ : ∃ j, n = j + 1 := ⟨n - 1, by omega⟩
    obtain ⟨n', rfl⟩ : ∃ j, n' = j + 1 := ⟨n' - 1, by omega⟩
    rw [pf_X6_punch_L46, pf_X7_punch_L35, nI_add, show (256 : Int32) = nI 256 from rfl, if_n (by omega) (by omega), if_pos (by omega), if_n (by omega) (by omega), if_n (by omega) (by omega)]
    refine ⟨x, c, m, LA, LI, LS, dc, rfl, ?_, R⟩
    by_cases h : a + b ≤ k
    · rw [if_pos h]
    · rw [if_neg h, if_pos (by omega)]
  | succ d ih =>
    intro k n n' dc x LA LI LS c m R hk hn hn'
    obtain ⟨n, rfl⟩ : ∃ j, n = j + 1 := ⟨n - 1, by omega⟩
    obtain ⟨n', rfl⟩ : ∃ j, n' = j + 1 := ⟨n' - 1, by omega⟩
    rw [pf_X6_punch_L46, pf_X7_punch_L35, nI_add, spot_n, spot_m, show (256 : Int32) = nI 256 from rfl, if_n (by omega) (by omega), if_neg (by omega), if_n (by omega) (by omega), if_n (by omega) (by omega), if_neg (by omega), if_neg (by omega), Option.bind_some]
    obtain ⟨r, c1, m1, LA1, LI1, LS1, dc1, hr, x1, x2, R1, x3⟩ := op_hole R hN (show 256 * i + k < 3072 by omega)
    rw [x1, x2, Option.bind_some, Option.bind_some]
    unfold pf_X6_punch_b69 pf_X7_punch_b73
    rcases hr with h | h
    · subst h
      rw [if_pos rfl, if_pos rfl, nI_1, x_add0]
      exact ih (k + 1) n n' dc1 x LA1 LI1 LS1 c1 m1 R1 (by omega) (by omega) (by omega)
    · subst h
      rw [if_neg z1_ne, if_neg z1_ne, nI_1]
      exact ih (k + 1) n n' dc1 (x + 1) LA1 LI1 LS1 c1 m1 R1 (by omega) (by omega) (by omega)
theorem q_punch {k : Nat} (R : R3 nf nb k c m) (hN : 5000 ≤ N) (x1 x2 x3 : Int32) : ∃ r c' m', pf_X6_punch N nf nb x1 x2 x3 c = some (r, c') ∧ pf_X7_punch N x1 x2 x3 m = some (r, m') ∧ R3 nf nb (k + 1) c' m' := by
  have R0 := R
  obtain ⟨LA, LI, LS, ev, tm, dc, rr, R, hev, htm⟩ := R
  unfold pf_X6_punch pf_X7_punch
  rcases fileC (N := N) x1 with ⟨h1, h2⟩ | ⟨i, hi, e, h1, h2⟩
  · rw [h1, h2, Option.bind_some, Option.bind_some, if_pos rfl, if_pos rfl]; exact ⟨_, _, _, rfl, rfl, R0.up⟩
  rw [h1, h2, Option.bind_some, Option.bind_some, if_neg z1_ne, if_neg z1_ne]
  rcases pageC (N := N) x2 with ⟨h3, h4⟩ | ⟨a, ha, e2, h3, h4⟩
  · rw [h3, h4, Option.bind_some, Option.bind_some, if_pos rfl, if_pos rfl]; exact ⟨_, _, _, rfl, rfl, R0.up⟩
  rw [h3, h4, Option.bind_some, Option.bind_some, if_neg z1_ne, if_neg z1_ne]
  by_cases h5 : x3 < 1
  · rw [if_pos h5, if_pos h5]; exact ⟨_, _, _, rfl, rfl, R0.up⟩
  rw [if_neg h5, if_neg h5]
  by_cases h6 : x3 ≤ 256
  · rw [if_pos h6, if_pos h6]
    have h7 : ¬ x3 < 0 := fun h => h5 (Int32.lt_trans h (by decide))
    obtain ⟨b, hb, e3⟩ := nI_of2 (n := 256) (by decide) h7 h6
    rw [e, e2, e3]
    simp only [lt_]
    rw [nI_add, show (256 : Int32) = nI 256 from rfl, il_n (by omega) (by omega)]
    by_cases h8 : a + b < 256
    · rw [if_pos h8]
      obtain ⟨r, c', m', LA', LI', LS', dc', y1, y2, R'⟩ := punch_L (a := a) (b := b) (e := a + b) hi hN (by omega) (by omega) (Nat.le_refl (a + b)) (Or.inr rfl) b a N N dc 0 LA LI LS c m R (by omega) (by omega) (by omega)
      exact ⟨r, c', m', y1, y2, R3.of R' (by omega) (by omega)⟩
    · rw [if_neg h8]
      obtain ⟨r, c', m', LA', LI', LS', dc', y1, y2, R'⟩ := punch_L (a := a) (b := b) (e := 256) hi hN (by omega) (Nat.le_refl 256) (by omega) (Or.inl rfl) (256 - a) a N N dc 0 LA LI LS c m R (by omega) (by omega) (by omega)
      exact ⟨r, c', m', y1, y2, R3.of R' (by omega) (by omega)⟩
  · rw [if_neg h6, if_neg h6]; exact ⟨_, _, _, rfl, rfl, R0.up⟩
-- a page is dirty from now on
theorem op_soil {f p : Nat} (R : Rel hd nf nb LA LI LS ev tm dc rr c m) (hf : f < nf) (hp : p < 3072) (hsp : c.2.1 17 f = nI p) : ∃ c' dc' b, Bo b ∧ pf_X2_soil N nf nb (nI f) (c.1 13) c = some c' ∧ pf_X7_isDirty N (nI p) m = some b ∧ Rel hd nf nb LA LI LS ev tm dc' rr c' (sA m 7 (upd (m.2.1 7) p (if b = 0 then m.1 5 else m.2.1 7 p))) ∧ dc' ≤ dc + 1 ∧ c'.2.2 = c.2.2 ∧ c'.2.1 17 = c.2.1 17 ∧ c'.2.1 10 = c.2.1 10 := by
  have hnf := R.1.2.1
  have hmf := R.mof hf hp hsp
  rcases dirtyC (N := N) R hf hp hsp with ⟨hd, -, d2⟩ | ⟨hd, -, d2⟩
  · obtain ⟨hK, hk1, s1, hZ, w1, n1, e1, f1, b1, b2, b3, hBk, hRc, h1, t1, hF, hT, hL, hI, hD, hPn, hS, B1, B2, B3⟩ := R
    obtain ⟨dc', g1, g2⟩ := RD_upd (y := nI tm) hD hf hp hmf.2.2.1
    rw [hd, if_pos rfl, if_neg (m1_ne (by have := hK.2.2.2.2.2; omega))] at g2
    refine ⟨sG (sA c 18 (upd (c.2.1 18) f (nI tm))) 8 (nI dc'), dc', 0, Or.inl rfl, ?_, d2, ?_, by omega, rfl, rfl, rfl⟩
    · unfold pf_X2_soil
      rw [if_neg (nI_pos (by omega)), hk1.1, if_n (by omega) (by omega), if_neg (by omega), bI_n hf (by omega), cl_n (by omega), if_pos hd, bI_n hf (by omega)]
      simp only [lt_]
      rw [t1.1, sA_1, hD.1, nI_1, show dc' = dc + 1 by omega]
    · rw [if_pos rfl, t1.2]
      exact ⟨hK, hk1, s1, hZ, w1, n1, e1, f1, b1, b2, b3, hBk, hRc, h1, t1, hF.si hnf hf hp hsp, RT_upd hT (Or.inr ⟨tm, Nat.le_refl _, rfl⟩), hL, hI, g1, hPn, hS, B1, B2, B3⟩
  · refine ⟨c, dc, 1, Or.inr rfl, ?_, d2, ?_, by omega, rfl, rfl, rfl⟩
    · unfold pf_X2_soil
      rw [if_neg (nI_pos (by omega)), R.2.1.1, if_n (by omega) (by omega), if_neg (by omega), bI_n hf (by omega), cl_n (by omega), if_neg hd]
    · rw [if_neg z1_ne, upd_self _ _ rfl, sA_self]; exact R
-- a pin is set
theorem op_setPin {f p : Nat} (R : Rel hd nf nb LA LI LS ev tm dc rr c m) (hf : f < nf) (hp : p < 3072) (hsp : c.2.1 17 f = nI p) : ∃ c', pf_X2_setPinned N nf nb (nI f) 1 c = some c' ∧ Rel hd nf nb LA LI LS ev tm dc rr c' (sA m 10 (upd (m.2.1 10) p 1)) := by
  have hnf := R.1.2.1
  have hmf := R.mof hf hp hsp
  obtain ⟨hK, hk1, s1, hZ, w1, n1, e1, f1, b1, b2, b3, hBk, hRc, h1, t1, hF, hT, hL, hI, hD, hPn, hS, B1, B2, B3⟩ := R
  obtain ⟨k, k', h0, y1, h2, h3, h4⟩ := RP_upd (y := 1) hPn hf hp hmf.2.2.2.2.1
  refine ⟨sG (sA c 20 (upd (c.2.1 20) f 1)) 9 (nI k'), ?_, ⟨hK, hk1, s1, hZ, w1, n1, e1, f1, b1, b2, b3, hBk, hRc, h1, t1, hF.pi hnf hf hp hsp (Or.inr rfl), hT, hL, hI, hD, h2, hS, B1, B2, B3⟩⟩
  unfold pf_X2_setPinned
  rw [if_neg (nI_pos (by omega)), hk1.1, if_n (by omega) (by omega), if_neg (by omega)]
  simp only [bI_n hf (show nf < 2 ^ 31 by omega), cl_n (show f < 2 ^ 31 by omega), lt_]
  rcases (hF.2.2 f hf).2.1 with e | e
  · rw [if_neg (by rw [e]; decide), if_neg z1_ne, nar1]
    rw [if_pos e, if_neg z1_ne] at y1
    unfold pf_X2_setPinned_b43
    simp only [lt_]
    rw [sA_1, h0, nI_1, show k' = k + 1 by omega]
  · rw [if_pos e]
    rw [if_neg (by rw [e]; exact z1_ne), if_neg z1_ne] at y1
    have : k' = k := by omega
    subst this
    rw [upd_self _ _ e, sA_self, sG_self _ _ h0]
theorem pgs_n {s : Nat} (hs : s ≤ 16384) : pf_X6_pagesIn N (nI s) = some (nI ((s + 63) / 64)) := by
  unfold pf_X6_pagesIn
  rw [show (64 : Int32) = nI 64 from rfl, nI_add, show s + 64 = (s + 63) + 1 from rfl, nI_pred, pk_div (by omega) (by decide) (by decide)]
theorem q_pin {k : Nat} (R : R3 nf nb k c m) (hk : k < 64) (hN : 5000 ≤ N) (x1 x2 x3 : Int32) : ∃ r c' m', pf_X6_pin N nf nb x1 x2 x3 c = some (r, c') ∧ pf_X7_pin N x1 x2 x3 m = some (r, m') ∧ R3 nf nb (k + 1) c' m' := by
  have R0 := R
  obtain ⟨LA, LI, LS, ev, tm, dc, rr, R, hev, htm⟩ := R
  have hnf := R.1.2.1
  unfold pf_X6_pin pf_X7_pin
  rcases fileC (N := N) x1 with ⟨h1, h2⟩ | ⟨i, hi, e, h1, h2⟩
  · rw [h1, h2, Option.bind_some, Option.bind_some, if_pos rfl, if_pos rfl]; exact ⟨_, _, _, rfl, rfl, R0.up⟩
  rw [h1, h2, Option.bind_some, Option.bind_some, if_neg z1_ne, if_neg z1_ne]
  rcases pageC (N := N) x2 with ⟨h3, h4⟩ | ⟨a, ha, e2, h3, h4⟩
  · rw [h3, h4, Option.bind_some, Option.bind_some, if_pos rfl, if_pos rfl]; exact ⟨_, _, _, rfl, rfl, R0.up⟩
  rw [h3, h4, Option.bind_some, Option.bind_some, if_neg z1_ne, if_neg z1_ne, e, e2]
  have hp : 256 * i + a < 3072 := by omega
  simp only [spot_n, spot_m, Option.bind_some, lt_, bI_n hp (show 3072 < 2 ^ 31 by decide), cl_n (show 256 * i + a < 2 ^ 31 by omega), frameOf_n hp, bI_n hi (show 12 < 2 ^ 31 by decide), cl_n (show i < 2 ^ 31 by omega), nar0, nar1]
  rw [R.fo]
  generalize 256 * i + a = p at hp ⊢
  obtain ⟨s, hs, hsz⟩ := R.2.2.2.1.1 i hi
  have hs1 := R.2.2.1
  -- the pin's road when it is not on yet, or is
  have go : ∀ b : Int32, Bo b → m.2.1 10 p = b → ∃ r c' m', (if b = 0 then if (c.1 9) < ((c.1 5) / (2 : Int32)) then pf_X6_pin_b105 N nf nb (nI i) (nI a) (nI p) b c else pf_X6_pin_b106 N nf nb (nI i) (nI a) (nI p) b (1 : Int32) c else pf_X6_pin_b105 N nf nb (nI i) (nI a) (nI p) b c) = some (r, c') ∧ (if m.2.1 1 i ≤ (64 : Int32) * nI a then some ((0 : Int32), m) else if b = 0 then (pf_X7_pins N m).bind (fun z25 => if z25 < ((m.1 0) / (2 : Int32)) then pf_X7_pin_b82 N (nI p) b m else some ((0 : Int32), m)) else pf_X7_pin_b82 N (nI p) b m) = some (r, m') ∧ R3 nf nb (k + 1) c' m' := by
    intro b hb hmb
    rw [m_pins R hN, Option.bind_some, R.2.1.1, R.2.1.2.1]
    have hgo : ∃ r c' m', pf_X6_pin_b105 N nf nb (nI i) (nI a) (nI p) b c = some (r, c') ∧ (if m.2.1 1 i ≤ (64 : Int32) * nI a then some ((0 : Int32), m) else pf_X7_pin_b82 N (nI p) b m) = some (r, m') ∧ R3 nf nb (k + 1) c' m' := by
      unfold pf_X6_pin_b105 pf_X6_pin_b106 pf_X7_pin_b82
      simp only [lt_, bI_n hi (show 12 < 2 ^ 31 by decide), cl_n (show i < 2 ^ 31 by omega), bI_n hp (show 3072 < 2 ^ 31 by decide), cl_n (show p < 2 ^ 31 by omega), if_true, nar1]
      rw [hs1, hsz, pgs_n hs, Option.bind_some, il_n (by omega) (by omega), show (64 : Int32) = nI 64 from rfl, pk_mul, if_n (by omega) (by omega)]
      by_cases h : s ≤ 64 * a
      · rw [if_pos h, if_neg (by omega)]; exact ⟨_, _, _, rfl, rfl, R0.up⟩
      · rw [if_neg h, if_pos (by omega)]
        obtain ⟨y1, R1⟩ := op_begin (N := N) R
        have hd := dc_le R.D
        rw [y1, Option.bind_some]
        rcases op_touch R1 hN (by omega) (by omega) hp with ⟨f, c2, m2, LA2, LI2, LS2, ev2, dc2, rr2, z1, z2, R2, z3, z4, hf, hsp, -⟩ | ⟨c2, m2, LA2, LI2, dc2, rr2, z1, z2, R2, z3, z4, -, z5⟩
        · rw [z1, z2, Option.bind_some, Option.bind_some, if_neg z1_ne]
          obtain ⟨c3, w1, R3'⟩ := op_setPin (N := N) R2 hf hp hsp
          simp only []
          rw [w1, Option.bind_some, bZ_b hb, bZ_b hb]
          exact ⟨_, _, _, rfl, rfl, R3.of R3' (by omega) (by omega)⟩
        · rw [z1, z2, Option.bind_some, Option.bind_some, if_pos rfl]
          have hpm : pf_X2_setPinned N nf nb (-1) 1 c2 = some c2 := by
            unfold pf_X2_setPinned
            rw [if_pos (by decide)]
          simp only []
          rw [hpm, Option.bind_some, bZ_b hb]
          have hb0 : b = 0 := by rw [← hmb]; exact (isOut R hp z5).2.2.1
          rw [hb0]
          exact ⟨_, _, _, rfl, rfl, R3.of R2 (by omega) (by omega)⟩
    obtain ⟨r, c', m', g1, g2, g3⟩ := hgo
    rcases hb with h | h
    · rw [if_pos h, if_pos h]
      by_cases h9 : c.1 9 < nI nf / 2
      · rw [if_pos h9, if_pos h9]; exact ⟨r, c', m', g1, g2, g3⟩
      · rw [if_neg h9, if_neg h9]
        unfold pf_X6_pin_b106
        rw [if_neg z1_ne]
        refine ⟨0, c, m, rfl, ?_, R0.up⟩
        by_cases h10 : m.2.1 1 i ≤ (64 : Int32) * nI a
        · rw [if_pos h10]
        · rw [if_neg h10]
    · have hb1 : ¬ b = 0 := by rw [h]; exact z1_ne
      rw [if_neg hb1, if_neg hb1]
      exact ⟨r, c', m', g1, g2, g3⟩
  unfold pf_X6_pin_b57 pf_X6_pin_b58
  rcases R.io hp with h | ⟨f, hf, g1, g2⟩
  · have h0 := (isOut R hp h).2.2.1
    rw [h, if_pos rfl, h0]
    by_cases hx : x3 = 0
    · have hpm : pf_X2_setPinned N nf nb (-1) 0 c = some c := by
        unfold pf_X2_setPinned
        rw [if_pos (by decide)]
      rw [if_pos hx, if_pos hx, hpm, Option.bind_some, bZ_b (Or.inl rfl), bZ_b (Or.inl rfl), upd_self _ _ h0, sA_self]
      exact ⟨_, _, _, rfl, rfl, R0.up⟩
    · rw [if_neg hx, if_neg hx]
      exact go 0 (Or.inl rfl) h0
  · have hmf := R.mof hf hp g2
    rw [g1, if_neg (m1_ne (by omega)), bI_n hf (by omega), cl_n (by omega), hmf.2.2.2.2.1]
    have key : ∀ b : Int32, Bo b → c.2.1 20 f = b → ∃ r c' m', (if x3 = 0 then (pf_X2_setPinned N nf nb (nI f) (0 : Int32) c).bind (fun z27 => bZ b (some (b, z27))) else if b = 0 then if (c.1 9) < ((c.1 5) / (2 : Int32)) then pf_X6_pin_b105 N nf nb (nI i) (nI a) (nI p) b c else pf_X6_pin_b106 N nf nb (nI i) (nI a) (nI p) b (1 : Int32) c else pf_X6_pin_b105 N nf nb (nI i) (nI a) (nI p) b c) = some (r, c') ∧ (if x3 = 0 then bZ b (some (b, sA m 10 (upd (m.2.1 10) p 0))) else (if m.2.1 1 i ≤ (64 : Int32) * nI a then some ((0 : Int32), m) else if b = 0 then (pf_X7_pins N m).bind (fun z25 => if z25 < ((m.1 0) / (2 : Int32)) then pf_X7_pin_b82 N (nI p) b m else some ((0 : Int32), m)) else pf_X7_pin_b82 N (nI p) b m)) = some (r, m') ∧ R3 nf nb (k + 1) c' m' := by
      intro b hb hcb
      by_cases hx : x3 = 0
      · rw [if_pos hx, if_pos hx, bZ_b hb]
        obtain ⟨hK, hk1, s1, hZ, w1, n1, e1, f1, b1, b2, b3, hBk, hRc, h1, t1, hF, hT, hL, hI, hD, hPn, hS, B1, B2, B3⟩ := R
        obtain ⟨k', y1, y2⟩ := cs_unpin (N := N) (nb := nb) hk1.1 hnf hPn (hF.2.2 f hf).2.1 hf hp hmf.2.2.2.2.1
        rw [y1, Option.bind_some, bZ_b hb]
        refine ⟨_, _, _, rfl, rfl, R3.up ⟨LA, LI, LS, ev, tm, dc, rr, ⟨hK, hk1, s1, hZ, w1, n1, e1, f1, b1, b2, b3, hBk, hRc, h1, t1, hF.pi hnf hf hp g2 (Or.inl rfl), hT, hL, hI, hD, y2, hS, B1, B2, B3⟩, hev, htm⟩⟩
      · rw [if_neg hx, if_neg hx]
        exact go b hb (by rw [hmf.2.2.2.2.1]; exact hcb)
    rcases (R.F.2.2 f hf).2.1 with h | h
    · rw [h, if_pos rfl]; exact key 0 (Or.inl rfl) h
    · rw [h, if_neg z1_ne]; exact key 1 (Or.inr rfl) h
end K2
