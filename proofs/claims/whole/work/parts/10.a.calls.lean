/-! PURE PART: the calls: sync, drop, punch -/
section K1
variable {hd : HDp} {N nf nb ev tm dc rr : Nat} {LA LI LS : List (Nat × Nat)} {c m : St}
theorem op_begin (R : Rel hd nf nb LA LI LS ev tm dc rr c m) : pf_X0_begin N nf nb c = some (sG c 4 1) ∧ Rel hd nf nb LA LI LS ev tm dc 0 (sG c 4 1) (sG m 11 0) := by
  refine ⟨rfl, ?_⟩
  obtain ⟨hK, hk1, s1, hZ, w1, n1, e1, f1, b1, b2, b3, hBk, hRc, h1, t1, hF, hT, hL, hI, hD, hPn, hS, B1, B2, B3⟩ := R
  obtain ⟨a1, a2, a3, a4, a5, a6, a7, a8, a9⟩ := hRc
  exact ⟨hK, hk1, s1, hZ, w1, n1, e1, f1, b1, b2, b3, hBk, ⟨a1, a2, a3, a4, a5, a6, Or.inl ⟨rfl, rfl, rfl⟩, a8, by omega⟩, h1, t1, hF, hT, hL, hI, hD, hPn, hS, B1, B2, B3⟩
theorem isDirty_c (R : Rel hd nf nb LA LI LS ev tm dc rr c m) {p : Nat} (hp : p < 3072) : (m.2.1 5 p = -1 ∧ pf_X2_isDirty N nf nb (m.2.1 5 p) c = some 0 ∧ pf_X7_isDirty N (nI p) m = some 0) ∨ ∃ f, f < nf ∧ m.2.1 5 p = nI f ∧ c.2.1 17 f = nI p ∧ ((c.2.1 18 f = -1 ∧ pf_X2_isDirty N nf nb (nI f) c = some 0 ∧ pf_X7_isDirty N (nI p) m = some 0) ∨ (c.2.1 18 f ≠ -1 ∧ pf_X2_isDirty N nf nb (nI f) c = some 1 ∧ pf_X7_isDirty N (nI p) m = some 1)) := by
  rcases R.io hp with h | ⟨f, hf, g1, g2⟩
  · refine Or.inl ⟨h, ?_, ?_⟩
    · rw [h]; unfold pf_X2_isDirty; rw [if_pos (by decide)]
    · rw [isDirty_m R hp, (isOut R hp h).1, if_pos rfl]
  · exact Or.inr ⟨f, hf, g1, g2, dirtyC R hf hp g2⟩
theorem sync_L {i : Nat} (hi : i < 12) (hN : 5000 ≤ N) : ∀ (d k n n' dc rr : Nat) (a : Int32) (c m : St), Rel hd nf nb LA LI LS ev tm dc rr c m → rr + dc ≤ 255 → k + d = 256 → d < n → d < n' → ∃ r c' m' dc' rr', pf_X6_sync_L21 N nf nb n (nI i) a (nI k) c = some (r, c') ∧ pf_X7_sync_L23 N n' (nI i) a (nI (256 * i + k)) m = some (r, m') ∧ Rel hd nf nb LA LI LS ev tm dc' rr' c' m' := by
  intro d
  induction d with
  | zero =>
    intro k n n' dc rr a c m R hph hk hn hn'
    obtain ⟨n, rfl⟩ : ∃ j, n = j + 1 := ⟨n - 1, by omega⟩
    obtain ⟨n', rfl⟩ : ∃ j, n' = j + 1 := ⟨n' - 1, by omega⟩
    rw [pf_X6_sync_L21, pf_X7_sync_L23, show (256 : Int32) = nI 256 from rfl, pk_mul, nI_add, if_n (by omega) (by omega), if_pos (by omega), if_n (by omega) (by omega), if_pos (by omega)]
    simp only [lt_, bI_n hi (show 12 < 2 ^ 31 by decide), cl_n (show i < 2 ^ 31 by omega)]
    obtain ⟨hK, hk1, s1, hZ, w1, n1, e1, f1, b1, b2, b3, hBk, hRc, h1, t1, hF, hT, hL, hI, hD, hPn, hS, B1, B2, B3⟩ := R
    rw [e1]
    have R' : Rel hd nf nb LA LI LS ev tm dc rr (sA c 13 (upd (m.2.1 4) i 0)) (sA m 4 (upd (m.2.1 4) i 0)) := ⟨hK, hk1, s1, hZ, w1, n1, rfl, f1, b1, b2, b3, hBk, hRc, h1, t1, hF, hT, hL, hI, hD, hPn, hS, B1, B2, B3⟩
    by_cases h0 : m.2.1 4 i = 0
    · rw [if_pos h0, if_pos h0]; exact ⟨_, _, _, _, _, rfl, rfl, R'⟩
    · rw [if_neg h0, if_neg h0]; exact ⟨_, _, _, _, _, rfl, rfl, R'⟩
  | succ d ih =>
    intro k n n' dc rr a c m R hph hk hn hn'
    obtain ⟨n, rfl⟩ : ∃ j, n = j + 1 := ⟨n - 1, by omega⟩
    obtain ⟨n', rfl⟩ : ∃ j, n' = j + 1 := ⟨n' - 1, by omega⟩
    have hp : 256 * i + k < 3072 := by omega
    rw [pf_X6_sync_L21, pf_X7_sync_L23, spot_n, show (256 : Int32) = nI 256 from rfl, pk_mul, nI_add, if_n (by omega) (by omega), if_neg (by omega), if_n (by omega) (by omega), if_neg (by omega), Option.bind_some, frameOf_n hp, Option.bind_some, R.fo]
    unfold pf_X6_sync_b66 pf_X7_sync_b57 pf_X7_sync_b58
    simp only [nI_1, x_add0]
    rcases isDirty_c (N := N) R hp with ⟨h, d1, d2⟩ | ⟨f, hf, g1, g2, ⟨-, d1, d2⟩ | ⟨hd, d1, d2⟩⟩
    · rw [d1, d2, Option.bind_some, Option.bind_some, if_pos rfl, if_pos rfl]
      exact ih (k + 1) n n' dc rr a c m R hph (by omega) (by omega) (by omega)
    · rw [g1, d1, d2, Option.bind_some, Option.bind_some, if_pos rfl, if_pos rfl]
      exact ih (k + 1) n n' dc rr a c m R hph (by omega) (by omega) (by omega)
    · rw [g1, d1, d2, Option.bind_some, Option.bind_some, if_neg z1_ne, if_neg z1_ne]
      obtain ⟨r, c1, m1, rr1, dc1, x1, x2, R1, x3, x4⟩ := op_flush R hN hf hp g2 (by omega)
      rw [x1, x2, Option.bind_some, Option.bind_some]
      rcases x3 with ⟨hr, h18, hdc, hrr, -⟩ | ⟨hr, hdc, hrr, h18⟩
      · subst hr
        rw [if_neg hd] at hdc
        simp only []
        rw [if_neg z1_ne, if_neg z1_ne]
        exact ih (k + 1) n n' dc1 rr1 (a + 1) c1 m1 R1 (by omega) (by omega) (by omega) (by omega)
      · subst hr
        simp only []
        rw [if_pos trivial, if_pos trivial]
        exact ih (k + 1) n n' dc1 rr1 a c1 m1 R1 (by omega) (by omega) (by omega) (by omega)
/-- the relation at a call: how many calls there were -/
def R3 (nf nb k : Nat) (c m : St) : Prop := ∃ LA LI LS ev tm dc rr, Rel HD2 nf nb LA LI LS ev tm dc rr c m ∧ ev ≤ 4000 * k ∧ tm ≤ 1000 * k
theorem R3.of {nf nb k : Nat} {LA LI LS : List (Nat × Nat)} {ev tm dc rr : Nat} {c m : St} (R : Rel HD2 nf nb LA LI LS ev tm dc rr c m) (h1 : ev ≤ 4000 * k) (h2 : tm ≤ 1000 * k) : R3 nf nb k c m := ⟨LA, LI, LS, ev, tm, dc, rr, R, h1, h2⟩
theorem R3.up {nf nb k : Nat} {c m : St} (R : R3 nf nb k c m) : R3 nf nb (k + 1) c m := by
  obtain ⟨LA, LI, LS, ev, tm, dc, rr, R, h1, h2⟩ := R
  exact R3.of R (by omega) (by omega)
theorem q_sync {k : Nat} (R : R3 nf nb k c m) (hN : 5000 ≤ N) (x : Int32) : ∃ r c' m', pf_X6_sync N nf nb x c = some (r, c') ∧ pf_X7_sync N x m = some (r, m') ∧ R3 nf nb (k + 1) c' m' := by
  obtain ⟨LA, LI, LS, ev, tm, dc, rr, R, hev, htm⟩ := R
  unfold pf_X6_sync pf_X7_sync
  rcases fileC (N := N) x with ⟨h1, h2⟩ | ⟨i, hi, e, h1, h2⟩
  · rw [h1, h2, Option.bind_some, Option.bind_some, if_pos rfl, if_pos rfl]; exact ⟨_, _, _, rfl, rfl, (R3.of R hev htm).up⟩
  · rw [h1, h2, Option.bind_some, Option.bind_some, if_neg z1_ne, if_neg z1_ne]
    obtain ⟨y1, y2⟩ := op_begin (N := N) R
    have hd := dc_le R.D
    have hnf := R.1.2.1
    rw [y1, Option.bind_some, e]
    simp only [lt_]
    rw [show (256 : Int32) * nI i = nI (256 * i + 0) from pk_mul 256 i]
    obtain ⟨r, c', m', dc', rr', x1, x2, R'⟩ := sync_L hi hN 256 0 N N dc 0 0 _ _ y2 (by omega) (by omega) (by omega) (by omega)
    exact ⟨r, c', m', x1, x2, R3.of R' (by omega) (by omega)⟩
theorem drop_L (hN : 5000 ≤ N) : ∀ (d k n n' ev dc : Nat) (a : Int32) (LA LI LS : List (Nat × Nat)) (c m : St), Rel hd nf nb LA LI LS ev tm dc rr c m → ev + d < 2 ^ 30 → k + d = 3072 → d < n → d < n' → ∃ r c' m' LA' LI' LS' ev' dc', pf_X6_drop_L4 N nf nb n a (nI k) c = some (r, c') ∧ pf_X7_drop_L4 N n' a (nI k) m = some (r, m') ∧ Rel hd nf nb LA' LI' LS' ev' tm dc' rr c' m' ∧ ev' ≤ ev + d := by
  intro d
  induction d with
  | zero =>
    intro k n n' ev dc a LA LI LS c m R hev hk hn hn'
    obtain ⟨n, rfl⟩ : ∃ j, n = j + 1 := ⟨n - 1, by omega⟩
    obtain ⟨n', rfl⟩ : ∃ j, n' = j + 1 := ⟨n' - 1, by omega⟩
    rw [pf_X6_drop_L4, pf_X7_drop_L4, show (3072 : Int32) = nI 3072 from rfl, if_n (by omega) (by omega), if_pos (by omega), if_n (by omega) (by omega), if_pos (by omega)]
    exact ⟨_, _, _, _, _, _, _, _, rfl, rfl, R, by omega⟩
  | succ d ih =>
    intro k n n' ev dc a LA LI LS c m R hev hk hn hn'
    obtain ⟨n, rfl⟩ : ∃ j, n = j + 1 := ⟨n - 1, by omega⟩
    obtain ⟨n', rfl⟩ : ∃ j, n' = j + 1 := ⟨n' - 1, by omega⟩
    have hp : k < 3072 := by omega
    have hnf := R.1.2.1
    rw [pf_X6_drop_L4, pf_X7_drop_L4, show (3072 : Int32) = nI 3072 from rfl, if_n (by omega) (by omega), if_neg (by omega), if_n (by omega) (by omega), if_neg (by omega), frameOf_n hp, Option.bind_some, R.fo]
    unfold pf_X6_drop_b56 pf_X7_drop_b44
    simp only [nI_1, bI_n hp (show 3072 < 2 ^ 31 by decide), cl_n (show k < 2 ^ 31 by omega)]
    rcases isDirty_c (N := N) R hp with ⟨h, d1, d2⟩ | ⟨f, hf, g1, g2, hdd⟩
    · rw [isIn_n hp (Or.inl h), h, if_pos rfl, if_pos rfl, Option.bind_some, if_pos rfl]
      obtain ⟨r, c', m', LA', LI', LS', ev', dc', x1, x2, R', x3⟩ := ih (k + 1) n n' ev dc a LA LI LS c m R (by omega) (by omega) (by omega) (by omega)
      exact ⟨r, c', m', LA', LI', LS', ev', dc', x1, x2, R', by omega⟩
    · rw [isIn_n hp (Or.inr ⟨f, by omega, g1⟩), g1, if_neg (m1_ne (by omega)), if_neg (m1_ne (by omega)), Option.bind_some, if_neg z1_ne]
      rcases hdd with ⟨hd, d1, d2⟩ | ⟨hd, d1, d2⟩
      · rw [d1, d2, Option.bind_some, Option.bind_some, if_pos rfl, if_pos rfl, bI_n hf (by omega), cl_n (by omega), (R.mof hf hp g2).2.2.2.2.1]
        rcases (R.F.2.2 f hf).2.1 with h0 | h0
        · rw [h0, if_pos rfl, if_pos rfl]
          obtain ⟨c1, m1, LA1, LI1, LS1, dc1, y1, y2, R1, y3, -⟩ := op_evict R hN (by omega) hf hp g2
          rw [y1, y2, Option.bind_some, Option.bind_some]
          obtain ⟨r, c', m', LA', LI', LS', ev', dc', x1, x2, R', x3⟩ := ih (k + 1) n n' (ev + 1) dc1 (a + 1) LA1 LI1 LS1 c1 m1 R1 (by omega) (by omega) (by omega) (by omega)
          exact ⟨r, c', m', LA', LI', LS', ev', dc', x1, x2, R', by omega⟩
        · rw [h0, if_neg z1_ne, if_neg z1_ne]
          obtain ⟨r, c', m', LA', LI', LS', ev', dc', x1, x2, R', x3⟩ := ih (k + 1) n n' ev dc a LA LI LS c m R (by omega) (by omega) (by omega) (by omega)
          exact ⟨r, c', m', LA', LI', LS', ev', dc', x1, x2, R', by omega⟩
      · rw [d1, d2, Option.bind_some, Option.bind_some, if_neg z1_ne, if_neg z1_ne]
        obtain ⟨r, c', m', LA', LI', LS', ev', dc', x1, x2, R', x3⟩ := ih (k + 1) n n' ev dc a LA LI LS c m R (by omega) (by omega) (by omega) (by omega)
        exact ⟨r, c', m', LA', LI', LS', ev', dc', x1, x2, R', by omega⟩
theorem q_drop {k : Nat} (R : R3 nf nb k c m) (hk : k < 64) (hN : 5000 ≤ N) : ∃ r c' m', pf_X6_drop N nf nb c = some (r, c') ∧ pf_X7_drop N m = some (r, m') ∧ R3 nf nb (k + 1) c' m' := by
  obtain ⟨LA, LI, LS, ev, tm, dc, rr, R, hev, htm⟩ := R
  obtain ⟨r, c', m', LA', LI', LS', ev', dc', x1, x2, R', x3⟩ := drop_L hN 3072 0 N N ev dc 0 LA LI LS c m R (by omega) (by omega) (by omega) (by omega)
  exact ⟨r, c', m', x1, x2, R3.of R' (by omega) (by omega)⟩
-- holes
theorem RK_free {b p : Nat} {bl tk fl : Nat → Int32} {fr : Int32} (h : RK nb bl tk fl fr) (hnb : nb ≤ 512) (hb : b < nb) (hp : p < 3072) (hbl : bl p = nI b) : tk b = 1 ∧ RK nb (upd bl p (-1)) (upd tk b 0) fl (fr + 1) := by
  obtain ⟨a1, a2, a3, a4⟩ := h
  have htk : tk b = 1 := by
    rcases a1 p hp with h | ⟨b', h2, h3, h4⟩
    · exact absurd (hbl.symm.trans h) (m1_ne (by omega))
    · have := nI_inj (hbl.symm.trans h3) (by omega) (by omega)
      subst this; exact h4
  have h1 := cnt_upd (P := fun j => tk j == 0) (P' := fun j => upd tk b 0 j == 0) hb (fun j _ hj => by rw [un hj])
  simp only [us_, htk] at h1
  have e1 : (if ((1 : Int32) == 0) = true then 1 else 0) = 0 := by decide
  have e2 : (if ((0 : Int32) == 0) = true then 1 else 0) = 1 := by decide
  rw [e1, e2] at h1
  refine ⟨htk, fun q hq => ?_, fun q q' hq hq' hne he => ?_, fun j hj => ?_, ?_⟩
  · by_cases e : q = p
    · subst e; exact Or.inl us_
    · rw [un e]
      rcases a1 q hq with h | ⟨b', h2, h3, h4⟩
      · exact Or.inl h
      · refine Or.inr ⟨b', h2, h3, ?_⟩
        by_cases e2 : b' = b
        · subst e2
          exact absurd (a2 q p hq hp (by rw [h3]; exact m1_ne (by omega)) (h3.trans hbl.symm)) e
        · rw [un e2, h4]
  · by_cases e : q = p
    · subst e; exact absurd us_ hne
    · by_cases e2 : q' = p
      · subst e2
        rw [un e] at hne
        rw [un e, us_] at he
        exact absurd he hne
      · rw [un e] at hne
        rw [un e, un e2] at he
        exact a2 q q' hq hq' hne he
  · by_cases e : j = b
    · subst e; rw [us_]; exact ⟨Or.inl rfl, (a3 j hj).2⟩
    · rw [un e]; exact a3 j hj
  · rw [a4, nI_1]; congr 1 <;> omega
theorem op_hole (R : Rel hd nf nb LA LI LS ev tm dc rr c m) (hN : 5000 ≤ N) {p : Nat} (hp : p < 3072) : ∃ r c' m' LA' LI' LS' dc', Bo r ∧ pf_X6_makeHole N nf nb (nI p) c = some (r, c') ∧ pf_X7_isHoled N (nI p) m = some (r, m') ∧ Rel hd nf nb LA' LI' LS' ev tm dc' rr c' m' ∧ dc' ≤ dc := by
  have hnf := R.1.2.1
  have hnb := R.1.2.2.2.1
  -- behind going out
  have tail : ∀ (LA LI : List (Nat × Nat)) (dc : Nat) (c m : St) (y : Int32), Bo y → Rel hd nf nb LA LI LS ev tm dc rr c m → ∃ c' m' LS', ((pf_X4_forget N nf nb (nI p) c).bind (fun z8 => (pf_X0_giveBack N nf nb (m.2.1 6 p) z8).bind (fun z10 => bI (nI p) 3072 (lt_ (sA z10 30 (upd (z10.2.1 30) (Int32.toNatClampNeg (nI p)) (-1 : Int32))) (fun σ13 => some σ13))))) = some c' ∧ pf_X7_isHoled_b37 N (nI p) y m = some (y, m') ∧ Rel hd nf nb LA LI LS' ev tm dc rr c' m' := by
    intro LA LI dc c m y hy R
    obtain ⟨hK, hk1, s1, hZ, w1, n1, e1, f1, b1, b2, b3, hBk, hRc, h1, t1, hF, hT, hL, hI, hD, hPn, hS, B1, B2, B3⟩ := R
    obtain ⟨g, n, LS', z1, z2, z3, z4, z5, z6⟩ := op_forget (N := N) (nb := nb) (c := c) (m := m) (fo := m.2.1 5) hN hK.2.1 hK.2.2.2.2.1 hS hp
    unfold pf_X7_isHoled_b37 pf_X0_giveBack pf_X0_has
    rw [z1, z2, Option.bind_some, Option.bind_some]
    simp only [lt_, bI_n hp (show 3072 < 2 ^ 31 by decide), cl_n (show p < 2 ^ 31 by omega)]
    have e6 : (sA (sG m 7 n) 8 (upd (m.2.1 8) p 0)).2.1 6 p = m.2.1 6 p := rfl
    rw [e6]
    rcases hBk.1 p hp with hb | ⟨b, hb, hbe, htk⟩
    · rw [hb, if_pos rfl, if_pos (by decide), Option.bind_some, if_pos rfl, Option.bind_some, bZ_b hy]
      refine ⟨_, _, LS', rfl, rfl, ⟨hK, hk1, s1, hZ, w1, n1, e1, f1, ?_, b2, b3, hBk, hRc, h1, t1, hF, hT, hL, hI, hD, hPn, z3, B1, B2, B3⟩⟩
      show upd (c.2.1 30) p (-1) = m.2.1 6
      rw [b1]; exact upd_self _ _ hb
    · obtain ⟨-, hBk2⟩ := RK_free hBk hnb hb hp hbe
      rw [hbe, if_neg (m1_ne (by omega)), if_neg (nI_pos (by omega)), if_n (by omega) (by omega), if_neg (by omega), Option.bind_some, if_neg z1_ne, bI_n hb (by omega), bI_n hb (by omega), bI_n (show b < 512 by omega) (by decide), cl_n (by omega), bZ_b hy]
      have e5 : (sG (sA (sA c 28 (upd (c.2.1 28) p (-1))) 29 g) 10 n).2.1 5 b = 1 := by show c.2.1 5 b = 1; rw [b2]; exact htk
      rw [e5, if_neg z1_ne, Option.bind_some]
      simp only [nar0]
      refine ⟨_, _, LS', rfl, rfl, ⟨hK, hk1, s1, hZ, w1, n1, e1, f1, ?_, ?_, b3, hBk2, hRc, h1, t1, hF, hT, hL, hI, hD, hPn, z3, B1, B2, B3⟩⟩
      · show upd (c.2.1 30) p (-1) = upd (m.2.1 6) p (-1)
        rw [b1]
      · show upd (c.2.1 5) b 0 = upd (m.2.1 17) b 0
        rw [b2]
  have hb1 := R.2.2.2.2.2.2.2.2.1
  unfold pf_X6_makeHole pf_X7_isHoled pf_X7_isHoled_b18 pf_X7_isHoled_b23
  rw [frameOf_n hp, Option.bind_some, R.fo, bI_n hp (by decide), cl_n (by omega), hb1]
  rcases R.io hp with h | ⟨f, hf, g1, g2⟩
  · rw [isIn_n hp (Or.inl h), h, if_pos rfl, Option.bind_some, if_pos rfl]
    simp only [lt_, bI_n hp (show 3072 < 2 ^ 31 by decide)]
    have hlv : pf_X2_leave N nf nb (-1) c = some c := by
      unfold pf_X2_leave pf_X2_spotIn
      rw [if_pos (by decide), Option.bind_some, if_pos rfl]
    rw [hlv, Option.bind_some]
    have fin : ∀ y : Int32, Bo y → (m.2.1 6 p = -1 ∧ y = 0 ∨ m.2.1 6 p ≠ -1 ∧ y = 1) → ∃ r c' m' LA' LI' LS' dc', Bo r ∧ ((pf_X4_forget N nf nb (nI p) c).bind (fun z8 => (pf_X0_giveBack N nf nb (m.2.1 6 p) z8).bind (fun z10 => if m.2.1 6 p = -1 then some ((0 : Int32), sA z10 30 (upd (z10.2.1 30) p (-1))) else some (1, sA z10 30 (upd (z10.2.1 30) p (-1)))))) = some (r, c') ∧ pf_X7_isHoled_b37 N (nI p) y m = some (r, m') ∧ Rel hd nf nb LA' LI' LS' ev tm dc' rr c' m' ∧ dc' ≤ dc := by
      intro y hy hyy
      obtain ⟨c', m', LS', q1, q2, q3⟩ := tail LA LI dc c m y hy R
      obtain ⟨z8, r1, q1⟩ := bn_some q1
      obtain ⟨z10, r2, q1⟩ := bn_some q1
      rw [bI_n hp (by decide)] at q1
      rw [cl_n (by omega)] at q1
      have q1 : sA z10 30 (upd (z10.2.1 30) p (-1)) = c' := Option.some.inj q1
      rw [r1, Option.bind_some, r2, Option.bind_some, q1]
      rcases hyy with ⟨h1, h2⟩ | ⟨h1, h2⟩
      · rw [if_pos h1]; subst h2; exact ⟨0, c', m', LA, LI, LS', dc, hy, rfl, q2, q3, Nat.le_refl _⟩
      · rw [if_neg h1]; subst h2; exact ⟨1, c', m', LA, LI, LS', dc, hy, rfl, q2, q3, Nat.le_refl _⟩
    simp only [Option.bind_some, if_true]
    by_cases h6 : m.2.1 6 p = -1
    · rw [if_pos h6]; exact fin 0 (Or.inl rfl) (Or.inl ⟨h6, rfl⟩)
    · rw [if_neg h6]; exact fin 1 (Or.inr rfl) (Or.inr ⟨h6, rfl⟩)
  · rw [isIn_n hp (Or.inr ⟨f, by omega, g1⟩), g1, if_neg (m1_ne (by omega)), Option.bind_some, if_neg z1_ne, Option.bind_some, if_neg z1_ne]
    obtain ⟨c1, m1, LA1, LI1, dc1, x1, x2, R1, x3, x4, x5, x6, x7, x8, x9⟩ := op_leave R hN hf hp g2
    have hm6 : m1.2.1 6 = m.2.1 6 := x9.2.2.2.1 6 (by decide) (by decide) (by decide) (by decide) (by decide) (by decide) (by decide) (by decide)
    rw [x1, x2, Option.bind_some]
    simp only [lt_, Option.bind_some, bI_n hp (show 3072 < 2 ^ 31 by decide)]
    obtain ⟨c', m', LS', q1, q2, q3⟩ := tail LA1 LI1 dc1 c1 m1 1 (Or.inr rfl) R1
    rw [hm6] at q1
    obtain ⟨z8, r1, q1⟩ := bn_some q1
    obtain ⟨z10, r2, q1⟩ := bn_some q1
    rw [bI_n hp (by decide)] at q1
    rw [cl_n (by omega)] at q1
    have q1 : sA z10 30 (upd (z10.2.1 30) p (-1)) = c' := Option.some.inj q1
    rw [r1, Option.bind_some, r2, Option.bind_some, q1, if_neg (m1_ne (by omega))]
    exact ⟨1, c', m', LA1, LI1, LS', dc1, Or.inr rfl, rfl, q2, q3, by omega⟩
end K1
