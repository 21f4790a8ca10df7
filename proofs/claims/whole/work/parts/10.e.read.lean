/-! PURE PART: the calls: read -/
section K5
variable {hd : HDp} {N nf nb ev tm dc rr : Nat} {LA LI LS : List (Nat × Nat)} {c m : St}
theorem Rel.setH {hd' : HDp} (R : Rel hd nf nb LA LI LS ev tm dc rr c m) (h1 : hd'.1 (c.1 12) (m.1 4)) (h2 : hd'.2 (c.2.1 12) (m.2.1 3) (m.2.1 1) (m.2.1 2)) : Rel hd' nf nb LA LI LS ev tm dc rr c m := by
  obtain ⟨hK, hk1, s1, hZ, w1, n1, e1, f1, b1, b2, b3, hBk, hRc, -, t1, hF, hT, hL, hI, hD, hPn, hS, B1, B2, B3⟩ := R
  exact ⟨hK, hk1, s1, hZ, w1, h2, e1, f1, b1, b2, b3, hBk, hRc, h1, t1, hF, hT, hL, hI, hD, hPn, hS, B1, B2, B3⟩
theorem Rel.nx (R : Rel hd nf nb LA LI LS ev tm dc rr c m) : hd.2 (c.2.1 12) (m.2.1 3) (m.2.1 1) (m.2.1 2) := R.2.2.2.2.2.1
theorem upd_upd (g : Nat → Int32) (i : Nat) (x y : Int32) : upd (upd g i x) i y = upd g i y := by
  funext j
  by_cases e : j = i
  · subst e; rw [us_, us_]
  · rw [un e, un e, un e]
def HA (hd : HDp) (i : Nat) (u sz wn : Nat → Int32) (k : Nat) : HDp := (hd.1, fun a b s w => a = u ∧ b = upd u i (nI k) ∧ s = sz ∧ w = wn)
theorem ahead_L {i pg s w e : Nat} {u sz wn : Nat → Int32} (hi : i < 12) (hN : 5000 ≤ N) (hpg : pg < 256) (hs : s ≤ 16384) (hw : w ≤ 8) (hsz : sz i = nI s) (hwn : wn i = nI w) (he : e = if (s + 63) / 64 < pg + w then (s + 63) / 64 else pg + w) : ∀ (d k n n' ev dc rr : Nat) (LA LI LS : List (Nat × Nat)) (c m : St), Rel (HA hd i u sz wn k) nf nb LA LI LS ev tm dc rr c m → rr + dc + d ≤ 255 → ev + d < 2 ^ 30 → k < 270 → pg + w ≤ k + d → d < n → d < n' → ∃ c' m' LA' LI' LS' ev' dc' rr', pf_X6_bringAhead_L87 N nf nb n (nI i) (nI e) (nI k) (nI k) c = some c' ∧ pf_X7_ahead_L56 N n' (nI i) (nI pg) (nI k) m = some m' ∧ Rel (hd.1, fun a b _ _ => a = b) nf nb LA' LI' LS' ev' tm dc' rr' c' m' ∧ ev' ≤ ev + d ∧ rr' + dc' ≤ rr + dc + d := by
  have he2 : e ≤ 256 := by subst he; split <;> omega
  -- the end
  have fin : ∀ (k ev dc rr : Nat) (LA LI LS : List (Nat × Nat)) (c m : St), Rel (HA hd i u sz wn k) nf nb LA LI LS ev tm dc rr c m → ∃ c', pf_X6_bringAhead_b140 N nf nb (nI i) (nI k) c = some c' ∧ Rel (hd.1, fun a b _ _ => a = b) nf nb LA LI LS ev tm dc rr c' m := by
    intro k ev dc rr LA LI LS c m R
    unfold pf_X6_bringAhead_b140
    rw [bI_n hi (by decide), cl_n (by omega)]
    simp only [lt_]
    obtain ⟨hK, hk1, s1, hZ, w1, n1, e1, f1, b1, b2, b3, hBk, hRc, h1, t1, hF, hT, hL, hI, hD, hPn, hS, B1, B2, B3⟩ := R
    obtain ⟨q1, q2, -⟩ := n1
    refine ⟨_, rfl, ⟨hK, hk1, s1, hZ, w1, ?_, e1, f1, b1, b2, b3, hBk, hRc, h1, t1, hF, hT, hL, hI, hD, hPn, hS, B1, B2, B3⟩⟩
    show upd (c.2.1 12) i (nI k) = m.2.1 3
    rw [q1, q2]
  intro d
  induction d with
  | zero =>
    intro k n n' ev dc rr LA LI LS c m R hph hev hk hd hn hn'
    obtain ⟨n, rfl⟩ : ∃ j, n = j + 1 := ⟨n - 1, by omega⟩
    obtain ⟨n', rfl⟩ : ∃ j, n' = j + 1 := ⟨n' - 1, by omega⟩
    obtain ⟨-, -, q3, q4⟩ := R.nx
    rw [pf_X6_bringAhead_L87, pf_X7_ahead_L56, bI_n hi (by decide), cl_n (by omega), q4, hwn, nI_add, if_n (by omega) (by omega), if_pos (by subst he; split <;> omega), if_n (by omega) (by omega), if_pos (by omega)]
    obtain ⟨c', y1, y2⟩ := fin k ev dc rr LA LI LS c m R
    exact ⟨c', m, LA, LI, LS, ev, dc, rr, y1, rfl, y2, by omega, by omega⟩
  | succ d ih =>
    intro k n n' ev dc rr LA LI LS c m R hph hev hk hdd hn hn'
    obtain ⟨n, rfl⟩ : ∃ j, n = j + 1 := ⟨n - 1, by omega⟩
    obtain ⟨n', rfl⟩ : ∃ j, n' = j + 1 := ⟨n' - 1, by omega⟩
    obtain ⟨-, -, q3, q4⟩ := R.nx
    have hnf := R.1.2.1
    rw [pf_X6_bringAhead_L87, pf_X7_ahead_L56, bI_n hi (by decide), cl_n (by omega), q4, hwn, nI_add, if_n (by omega) (by omega), if_n (by omega) (by omega), bI_n hi (by decide), q3, hsz, show (64 : Int32) = nI 64 from rfl, pk_mul, if_n (by omega) (by omega)]
    by_cases hee : e ≤ k
    · obtain ⟨c', y1, y2⟩ := fin k ev dc rr LA LI LS c m R
      refine ⟨c', m, LA, LI, LS, ev, dc, rr, ?_, ?_, y2, by omega, by omega⟩
      · rw [if_pos hee]; exact y1
      · by_cases h : pg + w ≤ k
        · rw [if_pos h]
        · rw [if_neg h, if_pos (by subst he; revert hee; split <;> intro hee <;> omega)]
    · have h1 : ¬ pg + w ≤ k := by subst he; revert hee; split <;> intro hee <;> omega
      have h2 : ¬ s ≤ 64 * k := by subst he; revert hee; split <;> intro hee <;> omega
      rw [if_neg hee, if_neg h1, if_neg h2, spot_n, Option.bind_some, spot_m]
      have hp : 256 * i + k < 3072 := by omega
      rw [frameOf_n hp, Option.bind_some, R.fo]
      simp only [lt_]
      have step : ∀ (ev1 dc1 rr1 : Nat) (LA LI LS : List (Nat × Nat)) (c m : St), Rel (HA hd i u sz wn k) nf nb LA LI LS ev1 tm dc1 rr1 c m → ev1 ≤ ev + 1 → rr1 + dc1 ≤ rr + dc + 1 → ∃ c' m' LA' LI' LS' ev' dc' rr', pf_X6_bringAhead_b128 N nf nb (pf_X6_bringAhead_L87 N nf nb n) (nI i) (nI e) (nI k) c = some c' ∧ pf_X7_ahead_b109 N (pf_X7_ahead_L56 N n') (nI i) (nI pg) (nI k) m = some m' ∧ Rel (hd.1, fun a b _ _ => a = b) nf nb LA' LI' LS' ev' tm dc' rr' c' m' ∧ ev' ≤ ev + (d + 1) ∧ rr' + dc' ≤ rr + dc + (d + 1) := by
        intro ev1 dc1 rr1 LA LI LS c m R g1 g2
        unfold pf_X6_bringAhead_b128 pf_X7_ahead_b109
        rw [bI_n hi (by decide), cl_n (by omega), nI_1]
        simp only [lt_]
        have R' : Rel (HA hd i u sz wn (k + 1)) nf nb LA LI LS ev1 tm dc1 rr1 c (sA m 3 (upd (m.2.1 3) i (nI (k + 1)))) := by
          obtain ⟨hK, hk1, s1, hZ, w1, n1, e1, f1, b1, b2, b3, hBk, hRc, h1, t1, hF, hT, hL, hI, hD, hPn, hS, B1, B2, B3⟩ := R
          obtain ⟨q1, q2, q3, q4⟩ := n1
          refine ⟨hK, hk1, s1, hZ, w1, ⟨q1, ?_, q3, q4⟩, e1, f1, b1, b2, b3, hBk, hRc, h1, t1, hF, hT, hL, hI, hD, hPn, hS, B1, B2, B3⟩
          show upd (m.2.1 3) i (nI (k + 1)) = _
          rw [q2, upd_upd]
        obtain ⟨c', m', LA', LI', LS', ev', dc', rr', z1, z2, z3, z4, z5⟩ := ih (k + 1) n n' ev1 dc1 rr1 LA LI LS c _ R' (by omega) (by omega) (by omega) (by omega) (by omega) (by omega)
        exact ⟨c', m', LA', LI', LS', ev', dc', rr', z1, z2, z3, by omega, by omega⟩
      rcases R.io hp with h | ⟨f, hf, g1, g2⟩
      · rw [isIn_n hp (Or.inl h), h, if_pos rfl, if_pos rfl, Option.bind_some, if_pos rfl]
        rcases op_bringIn R hN (by omega) (by omega) hp h with ⟨f, c2, m2, LA2, LI2, LS2, ev2, dc2, rr2, z1, z2, R2, z3, z4, hf, hsp, -⟩ | ⟨c2, m2, LA2, LI2, dc2, rr2, z1, z2, R2, z3, z4, -⟩
        · rw [z1, z2, Option.bind_some, Option.bind_some, if_neg z1_ne, if_neg (m1_ne (by omega))]
          exact step ev2 dc2 rr2 LA2 LI2 LS2 c2 m2 R2 z3 z4
        · rw [z1, z2, Option.bind_some, Option.bind_some, if_pos rfl, if_pos rfl]
          obtain ⟨c', y1, y2⟩ := fin k ev dc2 rr2 LA2 LI2 LS c2 m2 R2
          exact ⟨c', m2, LA2, LI2, LS, ev, dc2, rr2, y1, rfl, y2, by omega, by omega⟩
      · rw [isIn_n hp (Or.inr ⟨f, by omega, g1⟩), g1, if_neg (m1_ne (by omega)), if_neg (m1_ne (by omega)), Option.bind_some, if_neg z1_ne]
        exact step ev dc rr LA LI LS c m R (by omega) (by omega)
theorem op_ahead {i pg : Nat} (R : Rel (hd.1, fun a b _ _ => a = b) nf nb LA LI LS ev tm dc rr c m) (hN : 5000 ≤ N) (hi : i < 12) (hpg : pg < 256) (hph : rr + dc + 7 ≤ 255) (hev : ev + 7 < 2 ^ 30) : ∃ c' m' LA' LI' LS' ev' dc' rr', pf_X6_bringAhead N nf nb (nI i) (nI pg) c = some c' ∧ pf_X7_ahead N (nI i) (nI pg) m = some m' ∧ Rel (hd.1, fun a b _ _ => a = b) nf nb LA' LI' LS' ev' tm dc' rr' c' m' ∧ ev' ≤ ev + 7 ∧ rr' + dc' ≤ rr + dc + 7 := by
  have hn1 : c.2.1 12 = m.2.1 3 := R.nx
  obtain ⟨s, hs, hsz⟩ := R.2.2.2.1.1 i hi
  obtain ⟨w, hw1, hw8, hwn⟩ := R.2.2.2.1.2 i hi
  have hw2 := R.2.2.2.2.1
  -- with the window's new width
  have go : ∀ w : Nat, 1 ≤ w → w ≤ 8 → ∃ c' m' LA' LI' LS' ev' dc' rr', pf_X6_bringAhead_b43 N nf nb (nI i) (nI pg) (nI w) c = some c' ∧ pf_X7_ahead_b42 N (nI i) (nI pg) (nI w) (nI i) m = some m' ∧ Rel (hd.1, fun a b _ _ => a = b) nf nb LA' LI' LS' ev' tm dc' rr' c' m' ∧ ev' ≤ ev + 7 ∧ rr' + dc' ≤ rr + dc + 7 := by
    intro w hw1 hw8
    unfold pf_X6_bringAhead_b43 pf_X7_ahead_b42
    simp only [lt_, bI_n hi (show 12 < 2 ^ 31 by decide), cl_n (show i < 2 ^ 31 by omega), nI_1, nI_add]
    have e10 : (sA c 11 (upd (c.2.1 11) i (nI w))).2.1 10 i = nI s := by show c.2.1 10 i = _; rw [R.2.2.1]; exact hsz
    rw [e10, pgs_n hs, Option.bind_some, il_n (by omega) (by omega), ← apply_ite nI]
    have R' : Rel (HA hd i (m.2.1 3) (m.2.1 1) (upd (m.2.1 2) i (nI w)) (pg + 1)) nf nb LA LI LS ev tm dc rr (sA c 11 (upd (c.2.1 11) i (nI w))) (sA (sA m 2 (upd (m.2.1 2) i (nI w))) 3 (upd ((sA m 2 (upd (m.2.1 2) i (nI w))).2.1 3) i (nI (pg + 1)))) := by
      obtain ⟨hK, hk1, s1, hZ, w1, n1, e1, f1, b1, b2, b3, hBk, hRc, h1, t1, hF, hT, hL, hI, hD, hPn, hS, B1, B2, B3⟩ := R
      refine ⟨hK, hk1, s1, ⟨hZ.1, fun j hj => ?_⟩, ?_, ⟨hn1, rfl, rfl, rfl⟩, e1, f1, b1, b2, b3, hBk, hRc, h1, t1, hF, hT, hL, hI, hD, hPn, hS, B1, B2, B3⟩
      · show ∃ w', 1 ≤ w' ∧ w' ≤ 8 ∧ upd (m.2.1 2) i (nI w) j = nI w'
        by_cases ej : j = i
        · subst ej; exact ⟨w, hw1, hw8, us_⟩
        · rw [un ej]; exact hZ.2 j hj
      · show upd (c.2.1 11) i (nI w) = upd (m.2.1 2) i (nI w)
        rw [w1]
    obtain ⟨c', m', LA', LI', LS', ev', dc', rr', z1, z2, z3, z4, z5⟩ := ahead_L (s := s) (w := w) hi hN hpg hs hw8 hsz us_ rfl 7 (pg + 1) N N ev dc rr LA LI LS _ _ R' (by omega) (by omega) (by omega) (by omega) (by omega) (by omega)
    exact ⟨c', m', LA', LI', LS', ev', dc', rr', z1, z2, z3, z4, z5⟩
  unfold pf_X6_bringAhead pf_X7_ahead pf_X6_bringAhead_b18
  simp only [lt_, bI_n hi (show 12 < 2 ^ 31 by decide), cl_n (show i < 2 ^ 31 by omega)]
  rw [hn1, hw2, hwn]
  by_cases h : m.2.1 3 i = nI pg
  · rw [if_pos h, if_pos h.symm, if_neg z1_ne, show (4 : Int32) = nI 4 from rfl, show (8 : Int32) = nI 8 from rfl, show (2 : Int32) = nI 2 from rfl, pk_mul, if_n (by omega) (by omega), il_n (by omega) (by omega)]
    by_cases h4 : 4 ≤ w
    · rw [if_pos h4, if_neg (by omega)]; exact go 8 (by omega) (by omega)
    · rw [if_neg h4, if_pos (by omega)]; exact go (2 * w) (by omega) (by omega)
  · rw [if_neg h, if_pos trivial, if_neg (show ¬ nI pg = m.2.1 3 i from fun q => h q.symm)]
    exact go 1 (by omega) (by omega)
theorem lowb_n {w : Nat} (h : w < 256) : lowb (nI w) = w := by
  unfold lowb
  rw [pk_tn (by omega)]; omega
-- the bytes of a page come to hand
theorem hand_L {i pg at_ e st f p : Nat} {y0 z16 : Int32} {J : Int32 → Int32 → Int32 → Int32 → St → Option (Int32 × St)} (hi : i < 12) (hpg : pg < 256) (hN : 5000 ≤ N) (hf : f < nf) (hpp : p = 256 * i + pg) (hst : st = if 64 * pg + 64 < e then 64 * pg + 64 else e) (he1 : e ≤ 16384) (he2 : e ≤ at_ + 1024) : ∀ (d k n n' : Nat) (c m : St), Rel hd nf nb LA LI LS ev tm dc rr c m → m.2.1 5 p = nI f → k + d = st → 64 * pg ≤ k → at_ ≤ k → d < n → d < n' → ∃ c' m', pf_X6_readPage_L69 N nf nb n (nI i) (nI pg) (nI at_) y0 (nI f) (nI (64 * pg)) (nI st) (nI k) c = (if y0 = 0 then some (nI st, c') else (pf_X6_bringAhead N nf nb (nI i) (nI pg) c').bind (fun z => some (nI st, z))) ∧ pf_X7_read_L129 N J n' (nI i) (nI e) (nI (k - at_)) (nI k) (nI p) z16 (nI (64 * (pg + 1))) m = pf_X7_read_b180 N J (nI i) (nI e) (nI (st - at_)) (nI st) (nI p) z16 m' ∧ Rel hd nf nb LA LI LS ev tm dc rr c' m' := by
  have hst1 : st ≤ 64 * pg + 64 := by subst hst; split <;> omega
  have hst2 : st ≤ e := by subst hst; split <;> omega
  have hst3 : st = 64 * pg + 64 ∨ st = e := by subst hst; split <;> omega
  intro d
  induction d with
  | zero =>
    intro k n n' c m R hfo hk h64 hat hn hn'
    obtain ⟨n, rfl⟩ : ∃ j, n = j + 1 := ⟨n - 1, by omega⟩
    obtain ⟨n', rfl⟩ : ∃ j, n' = j + 1 := ⟨n' - 1, by omega⟩
    obtain rfl : k = st := by omega
    rw [pf_X6_readPage_L69, if_pos (Int32.le_refl _), pf_X7_read_L129, if_n (by omega) (by omega), if_n (by omega) (by omega)]
    refine ⟨c, m, rfl, ?_, R⟩
    by_cases h : e ≤ k
    · rw [if_pos h]
    · rw [if_neg h, if_pos (by omega)]
  | succ d ih =>
    intro k n n' c m R hfo hk h64 hat hn hn'
    obtain ⟨n, rfl⟩ : ∃ j, n = j + 1 := ⟨n - 1, by omega⟩
    obtain ⟨n', rfl⟩ : ∃ j, n' = j + 1 := ⟨n' - 1, by omega⟩
    have hnf := R.1.2.1
    have hp : p < 3072 := by omega
    rw [pf_X6_readPage_L69, if_n (by omega) (by omega), if_neg (by omega), pf_X7_read_L129, if_n (by omega) (by omega), if_neg (by omega), if_n (by omega) (by omega), if_neg (by omega), bI_n hp (by decide), cl_n (by omega), hfo, show (64 : Int32) = nI 64 from rfl, pk_rem (by omega) (by decide) (by decide), pk_mul, pk_mul, nI_add, nI_add, pk_sub (by omega), pk_sub (by omega), bI_n (show 64 * f + k % 64 < 4096 by omega) (by decide), bI_n (show k - at_ < 1024 by omega) (by decide), cl_n (by omega), cl_n (by omega)]
    simp only [lt_]
    have ek : f * 64 + k - 64 * pg = 64 * f + k % 64 := by omega
    rw [ek, w_byteAt (by omega) (by omega), Option.bind_some]
    obtain ⟨g, x1, x2⟩ := w_put (N := N) (n0 := 128) (k := k - at_) (x := nI (wbN (c.2.2 16) (64 * f + k % 64))) (f := c.2.2 32) (by omega) (by omega)
    rw [x1, Option.bind_some, nI_1, nI_1, show k - at_ + 1 = k + 1 - at_ by omega]
    refine ih (k + 1) n n' _ _ ?_ hfo (by omega) (by omega) (by omega) (by omega) (by omega)
    obtain ⟨hK, hk1, s1, hZ, w1, n1, e1, f1, b1, b2, b3, hBk, hRc, h1, t1, hF, hT, hL, hI, hD, hPn, hS, B1, B2, B3⟩ := R
    refine ⟨hK, hk1, s1, hZ, w1, n1, e1, f1, b1, b2, b3, hBk, hRc, h1, t1, hF, hT, hL, hI, hD, hPn, hS, B1, B2, ?_⟩
    intro j hj
    show upd (m.2.1 19) (k - at_) (vp_nar .byte (m.2.1 15 (64 * f + k % 64))) j &&& 255 = nI (wbN g j)
    rw [x2]
    by_cases ej : j = k - at_
    · subst ej
      rw [us_, if_pos rfl, nar_b, lowb_n (wbN_lt _ _)]
      exact B1 _ (by omega)
    · rw [un ej, if_neg ej]; exact B3 j hj
def HR (a b : Nat) : HDp := (fun x y => x = nI a ∧ y = nI b, fun u v _ _ => u = v)
theorem read_L {i at_ e h0 : Nat} (hi : i < 12) (hN : 5000 ≤ N) (he1 : e ≤ 16384) (he2 : e ≤ at_ + 1024) (hh0 : h0 ≤ 1024) : ∀ (d pg now n n' hc ev dc rr : Nat) (LA LI LS : List (Nat × Nat)) (c m : St), Rel (HR hc h0) nf nb LA LI LS ev tm dc rr c m → rr + dc + 8 * d ≤ 255 → ev + 8 * d < 2 ^ 30 → e ≤ 64 * (pg + d) → at_ ≤ now → ((now < e ∧ 64 * pg ≤ now ∧ now < 64 * pg + 64 ∧ (now = at_ ∨ now = 64 * pg)) ∨ (now = e ∧ e ≤ 64 * pg ∧ at_ < now)) → (now = at_ ∧ hc = h0 ∨ at_ < now ∧ hc = now - at_) → pg ≤ 256 + 20 → d < n → d < n' → ∃ r c' m' LA' LI' LS' ev' dc' rr', pf_X6_read_L76 N nf nb n (nI i) (nI at_) (nI e) (nI (now - at_)) (nI pg) c = some (r, c') ∧ pf_X7_read_L63 N n' (nI i) (nI e) (nI (now - at_)) (nI now) m = some (r, m') ∧ Rel HD2 nf nb LA' LI' LS' ev' tm dc' rr' c' m' ∧ ev' ≤ ev + 8 * d := by
  -- done
  have fin : ∀ (pg now n n' hc ev dc rr : Nat) (LA LI LS : List (Nat × Nat)) (c m : St), Rel (HR hc h0) nf nb LA LI LS ev tm dc rr c m → now = e → e ≤ 64 * pg → at_ < now → (now = at_ ∧ hc = h0 ∨ at_ < now ∧ hc = now - at_) → pg ≤ 256 + 20 → ∃ r c' m', pf_X6_read_L76 N nf nb (n + 1) (nI i) (nI at_) (nI e) (nI (now - at_)) (nI pg) c = some (r, c') ∧ pf_X7_read_L63 N (n' + 1) (nI i) (nI e) (nI (now - at_)) (nI now) m = some (r, m') ∧ Rel HD2 nf nb LA LI LS ev tm dc rr c' m' := by
    intro pg now n n' hc ev dc rr LA LI LS c m R h1 h2 h3 h4 h5
    rw [pf_X6_read_L76, pf_X7_read_L63, show (64 : Int32) = nI 64 from rfl, pk_mul, if_n (by omega) (by omega), if_pos (by omega), if_n (by omega) (by omega), if_pos (by omega)]
    simp only [lt_]
    refine ⟨_, _, _, rfl, rfl, ?_⟩
    have hx := R.h1
    have hy := R.nx
    obtain ⟨hK, hk1, s1, hZ, w1, n1, e1, f1, b1, b2, b3, hBk, hRc, h1, t1, hF, hT, hL, hI, hD, hPn, hS, B1, B2, B3⟩ := R
    refine ⟨hK, hk1, s1, hZ, w1, hy, e1, f1, b1, b2, b3, hBk, hRc, ⟨?_, now - at_, by omega, rfl⟩, t1, hF, hT, hL, hI, hD, hPn, hS, B1, B2, B3⟩
    show c.1 12 = nI (now - at_)
    rw [hx.1]; congr 1; omega
  intro d
  induction d with
  | zero =>
    intro pg now n n' hc ev dc rr LA LI LS c m R hph hev hde hat hcase hhc hpg hn hn'
    obtain ⟨n, rfl⟩ : ∃ j, n = j + 1 := ⟨n - 1, by omega⟩
    obtain ⟨n', rfl⟩ : ∃ j, n' = j + 1 := ⟨n' - 1, by omega⟩
    obtain ⟨r, c', m', x1, x2, R'⟩ := fin pg now n n' hc ev dc rr LA LI LS c m R (by omega) (by omega) (by omega) hhc hpg
    exact ⟨r, c', m', LA, LI, LS, ev, dc, rr, x1, x2, R', by omega⟩
  | succ d ih =>
    intro pg now n n' hc ev dc rr LA LI LS c m R hph hev hde hat hcase hhc hpg hn hn'
    obtain ⟨n, rfl⟩ : ∃ j, n = j + 1 := ⟨n - 1, by omega⟩
    obtain ⟨n', rfl⟩ : ∃ j, n' = j + 1 := ⟨n' - 1, by omega⟩
    rcases hcase with ⟨hlt, hlo, hup, hor⟩ | ⟨q1, q2, q3⟩
    · have hpg2 : pg < 256 := by omega
      have hnf := R.1.2.1
      have hp : 256 * i + pg < 3072 := by omega
      rw [pf_X6_read_L76, pf_X7_read_L63]
      unfold pf_X6_readPage pf_X6_readPage_b25
      rw [show (64 : Int32) = nI 64 from rfl, pk_mul, if_n (by omega) (by omega), if_neg (by omega), if_n (by omega) (by omega), if_neg (by omega), spot_n, Option.bind_some, frameOf_n hp, Option.bind_some, R.fo, pk_div (by omega) (by decide) (by decide), show now / 64 = pg by omega, spot_m, nI_1, pk_mul]
      simp only [lt_]
      -- whether it was out
      have key : ∀ (y0 z16 : Int32), (y0 = 0 ∧ z16 = 1 ∨ y0 = 1 ∧ z16 = 0) → ∃ r c' m' LA' LI' LS' ev' dc' rr', (((pf_X6_touch N nf nb (nI (256 * i + pg)) c).bind (fun z6 => if z6.1 = (-1 : Int32) then some ((-1 : Int32), z6.2) else pf_X6_readPage_L69 N nf nb N (nI i) (nI pg) (nI at_) y0 z6.1 (nI (pg * 64)) (if nI (pg * 64) + nI 64 < nI e then nI (pg * 64) + nI 64 else nI e) (if nI at_ < nI (pg * 64) then nI (pg * 64) else nI at_) z6.2)).bind (fun z18 => if z18.1 = (-1 : Int32) then if nI (now - at_) = 0 then some ((-3 : Int32), z18.2) else some (nI (now - at_), z18.2) else pf_X6_read_L76 N nf nb n (nI i) (nI at_) (nI e) (z18.1 - nI at_) (nI (pg + 1)) (sG z18.2 12 (z18.1 - nI at_)))) = some (r, c') ∧ ((pf_X7_touch N (nI (256 * i + pg)) m).bind (fun z18 => if z18.1 = 0 then if nI (now - at_) = 0 then some ((-3 : Int32), z18.2) else some (nI (now - at_), sG z18.2 4 (nI (now - at_))) else pf_X7_read_L129 N (pf_X7_read_L63 N n') N (nI i) (nI e) (nI (now - at_)) (nI now) (nI (256 * i + pg)) z16 (nI (64 * (pg + 1))) z18.2)) = some (r, m') ∧ Rel HD2 nf nb LA' LI' LS' ev' tm dc' rr' c' m' ∧ ev' ≤ ev + 8 * (d + 1) := by
        intro y0 z16 hyz
        rcases op_touch R hN (by omega) (by omega) hp with ⟨f, c2, m2, LA2, LI2, LS2, ev2, dc2, rr2, z1, z2, R2, z3, z4, hf, hsp, -⟩ | ⟨c2, m2, LA2, LI2, dc2, rr2, z1, z2, R2, z3, z4, -, z5⟩
        · rw [z1, z2, Option.bind_some, Option.bind_some, if_neg (m1_ne (by omega)), if_neg z1_ne, nI_add, il_n (by omega) (by omega), il_n (by omega) (by omega), ← apply_ite nI, ← apply_ite nI]
          have e1 : (if at_ < pg * 64 then pg * 64 else at_) = now := by
            split <;> omega
          rw [e1, Nat.mul_comm pg 64]
          obtain ⟨c3, m3, v1, v2, R3'⟩ := hand_L (J := pf_X7_read_L63 N n') (y0 := y0) (z16 := z16) hi hpg2 hN hf rfl rfl he1 he2 ((if 64 * pg + 64 < e then 64 * pg + 64 else e) - now) now N N c2 m2 R2 (R2.mof hf hp hsp).1 (by split <;> omega) hlo hat (by split <;> omega) (by split <;> omega)
          rw [v1, v2]
          generalize hst : (if 64 * pg + 64 < e then 64 * pg + 64 else e) = st
          have hst1 : st ≤ e ∧ now < st ∧ st ≤ 64 * pg + 64 ∧ (st = e ∨ st = 64 * pg + 64) := by subst hst; split <;> omega
          -- what comes behind
          have next : ∀ (ev3 dc3 rr3 : Nat) (LA LI LS : List (Nat × Nat)) (c m : St), Rel (HR hc h0) nf nb LA LI LS ev3 tm dc3 rr3 c m → ev3 ≤ ev + 8 → rr3 + dc3 ≤ rr + dc + 8 → ∃ r c' m' LA' LI' LS' ev' dc' rr', pf_X6_read_L76 N nf nb n (nI i) (nI at_) (nI e) (nI st - nI at_) (nI (pg + 1)) (sG c 12 (nI st - nI at_)) = some (r, c') ∧ pf_X7_read_L63 N n' (nI i) (nI e) (nI (st - at_)) (nI st) m = some (r, m') ∧ Rel HD2 nf nb LA' LI' LS' ev' tm dc' rr' c' m' ∧ ev' ≤ ev + 8 * (d + 1) := by
            intro ev3 dc3 rr3 LA LI LS c m R g1 g2
            rw [pk_sub (by omega)]
            have R' : Rel (HR (st - at_) h0) nf nb LA LI LS ev3 tm dc3 rr3 (sG c 12 (nI (st - at_))) m := by
              obtain ⟨hK, hk1, s1, hZ, w1, n1, e1, f1, b1, b2, b3, hBk, hRc, h1, t1, hF, hT, hL, hI, hD, hPn, hS, B1, B2, B3⟩ := R
              exact ⟨hK, hk1, s1, hZ, w1, n1, e1, f1, b1, b2, b3, hBk, hRc, ⟨rfl, h1.2⟩, t1, hF, hT, hL, hI, hD, hPn, hS, B1, B2, B3⟩
            obtain ⟨r, c', m', LA', LI', LS', ev', dc', rr', x1, x2, R'', x3⟩ := ih (pg + 1) st n n' (st - at_) ev3 dc3 rr3 LA LI LS _ m R' (by omega) (by omega) (by omega) (by omega) (by omega) (Or.inr ⟨by omega, rfl⟩) (by omega) (by omega) (by omega)
            exact ⟨r, c', m', LA', LI', LS', ev', dc', rr', x1, x2, R'', by omega⟩
          unfold pf_X7_read_b180 pf_X7_read_b196
          rcases hyz with ⟨hy, hz⟩ | ⟨hy, hz⟩
          · subst hy; subst hz
            rw [if_pos rfl, if_neg z1_ne, Option.bind_some, if_neg (m1_ne (by omega))]
            exact next ev2 dc2 rr2 LA2 LI2 LS2 c3 m3 R3' (by omega) (by omega)
          · subst hy; subst hz
            rw [if_neg z1_ne, if_pos rfl, show (256 : Int32) = nI 256 from rfl, pk_rem (by omega) (by decide) (by decide), show (256 * i + pg) % 256 = pg by omega]
            obtain ⟨c4, m4, LA4, LI4, LS4, ev4, dc4, rr4, u1, u2, R4, u3, u4⟩ := op_ahead (hd := HR hc h0) R3' hN hi hpg2 (by omega) (by omega)
            rw [u1, u2, Option.bind_some, Option.bind_some, Option.bind_some, if_neg (m1_ne (by omega))]
            exact next ev4 dc4 rr4 LA4 LI4 LS4 c4 m4 R4 (by omega) (by omega)
        · rw [z1, z2, Option.bind_some, Option.bind_some, if_pos rfl, if_pos rfl, Option.bind_some, if_pos rfl]
          have hx := R2.h1
          by_cases h0' : now - at_ = 0
          · rw [h0', if_pos nI_0, if_pos nI_0]
            refine ⟨_, _, _, LA2, LI2, LS, ev, dc2, rr2, rfl, rfl, R2.setH ⟨?_, h0, hh0, hx.2⟩ R2.nx, by omega⟩
            rw [hx.1, hx.2]; congr 1; omega
          · rw [if_neg (nI_ne0 (by omega) (by omega)), if_neg (nI_ne0 (by omega) (by omega))]
            refine ⟨_, _, _, LA2, LI2, LS, ev, dc2, rr2, rfl, rfl, ?_, by omega⟩
            have hy := R2.nx
            obtain ⟨hK, hk1, s1, hZ, w1, n1, e1, f1, b1, b2, b3, hBk, hRc, h1, t1, hF, hT, hL, hI, hD, hPn, hS, B1, B2, B3⟩ := R2
            refine ⟨hK, hk1, s1, hZ, w1, hy, e1, f1, b1, b2, b3, hBk, hRc, ⟨?_, now - at_, by omega, rfl⟩, t1, hF, hT, hL, hI, hD, hPn, hS, B1, B2, B3⟩
            show c2.1 12 = nI (now - at_)
            rw [hx.1]; congr 1; omega
      rcases R.io hp with h | ⟨f, hf, g1, g2⟩
      · rw [isIn_n hp (Or.inl h), h, if_pos rfl, if_pos rfl, Option.bind_some]
        exact key 1 0 (Or.inr ⟨rfl, rfl⟩)
      · rw [isIn_n hp (Or.inr ⟨f, by omega, g1⟩), g1, if_neg (m1_ne (by omega)), if_neg (m1_ne (by omega)), Option.bind_some]
        exact key 0 1 (Or.inl ⟨rfl, rfl⟩)
    · obtain ⟨r, c', m', x1, x2, R'⟩ := fin pg now n n' hc ev dc rr LA LI LS c m R q1 q2 q3 hhc hpg
      exact ⟨r, c', m', LA, LI, LS, ev, dc, rr, x1, x2, R', by omega⟩
theorem q_read {k : Nat} (R : R3 nf nb k c m) (hk : k < 64) (hN : 5000 ≤ N) (x1 x2 x3 : Int32) : ∃ r c' m', pf_X6_read N nf nb x1 x2 x3 c = some (r, c') ∧ pf_X7_read N x1 x2 x3 m = some (r, m') ∧ R3 nf nb (k + 1) c' m' := by
  have R0 := R
  obtain ⟨LA, LI, LS, ev, tm, dc, rr, R, hev, htm⟩ := R
  have hnf := R.1.2.1
  unfold pf_X6_read pf_X7_read pf_X7_read_b55
  rcases fileC (N := N) x1 with ⟨h1, h2⟩ | ⟨i, hi, e, h1, h2⟩
  · rw [h1, h2, Option.bind_some, Option.bind_some, if_pos rfl, if_pos rfl]; exact ⟨_, _, _, rfl, rfl, R0.up⟩
  rw [h1, h2, Option.bind_some, Option.bind_some, if_neg z1_ne, if_neg z1_ne]
  by_cases h3 : x2 < 0
  · rw [if_pos h3, if_pos h3]; exact ⟨_, _, _, rfl, rfl, R0.up⟩
  rw [if_neg h3, if_neg h3]
  by_cases h5 : x3 < 1
  · rw [if_pos h5, if_pos h5]; exact ⟨_, _, _, rfl, rfl, R0.up⟩
  rw [if_neg h5, if_neg h5]
  by_cases h6 : x3 ≤ 1024
  · rw [if_pos h6, if_pos h6]
    have h7 : ¬ x3 < 0 := fun h => h5 (Int32.lt_trans h (by decide))
    obtain ⟨n, hn, e3⟩ := nI_of2 (n := 1024) (by decide) h7 h6
    have hn1 : 1 ≤ n := by
      rcases Nat.eq_zero_or_pos n with h | h
      · subst h; exact absurd (show x3 < 1 by rw [e3]; decide) h5
      · exact h
    obtain ⟨a, ha, e2⟩ := nI_of h3
    obtain ⟨y1, R1⟩ := op_begin (N := N) R
    have hd := dc_le R.D
    rw [y1, Option.bind_some, e, e2, e3]
    simp only [lt_, bI_n hi (show 12 < 2 ^ 31 by decide), cl_n (show i < 2 ^ 31 by omega)]
    obtain ⟨s, hs, hsz⟩ := R1.2.2.2.1.1 i hi
    rw [R1.2.2.1, hsz, il_n ha (by omega)]
    obtain ⟨hh, h0, hh0, hm0⟩ := R1.h1
    by_cases h8 : a < s
    · rw [if_pos h8, nI_add, il_n (by omega) (by omega), pk_sub (by omega), if_n (by omega) (by omega), show (64 : Int32) = nI 64 from rfl, pk_div (by omega) (by decide) (by decide)]
      have R2 : Rel (HR h0 h0) nf nb LA LI LS ev tm dc 0 (sG c 4 1) (sG m 11 0) := R1.setH ⟨hh.trans hm0, hm0⟩ R1.nx
      have key : ∀ en, en ≤ s → en ≤ a + n → a < en → ∃ r c' m', pf_X6_read_L76 N nf nb N (nI i) (nI a) (nI en) 0 (nI (a / 64)) (sG c 4 1) = some (r, c') ∧ pf_X7_read_L63 N N (nI i) (nI en) 0 (nI a) (sG m 11 0) = some (r, m') ∧ R3 nf nb (k + 1) c' m' := by
        intro en g1 g2 g3
        obtain ⟨r, c', m', LA', LI', LS', ev', dc', rr', v1, v2, R', v3⟩ := read_L (at_ := a) (e := en) hi hN (by omega) (by omega) hh0 17 (a / 64) a N N h0 ev dc 0 LA LI LS _ _ R2 (by omega) (by omega) (by omega) (by omega) (Or.inl (by omega)) (Or.inl ⟨rfl, rfl⟩) (by omega) (by omega) (by omega)
        rw [Nat.sub_self] at v1 v2
        exact ⟨r, c', m', v1, v2, R3.of R' (by omega) (by omega)⟩
      by_cases h9 : s < a + n
      · rw [if_pos h9, if_neg (by omega)]; exact key s (by omega) (by omega) (by omega)
      · rw [if_neg h9, if_pos (by omega)]; exact key (a + n) (by omega) (by omega) (by omega)
    · have hle : ¬ nI n ≤ nI s - nI a := by
        intro q
        have q1 := Int32.le_iff_toInt_le.mp q
        rw [nI_toInt (by omega), Int32.toInt_sub, nI_toInt (by omega), nI_toInt ha] at q1
        rw [Int.bmod_eq_of_le (by omega) (by omega)] at q1
        omega
      obtain ⟨N', rfl⟩ : ∃ j, N = j + 1 := ⟨N - 1, by omega⟩
      rw [if_neg h8, if_neg hle, pf_X7_read_L63, if_n (by omega) ha, if_pos (by omega)]
      simp only [lt_]
      refine ⟨_, _, _, rfl, rfl, R3.of (LA := LA) (LI := LI) (LS := LS) (ev := ev) (tm := tm) (dc := dc) (rr := 0) ?_ (by omega) (by omega)⟩
      obtain ⟨hK, hk1, s1, hZ, w1, n1, e1, f1, b1, b2, b3, hBk, hRc, h1, t1, hF, hT, hL, hI, hD, hPn, hS, B1, B2, B3⟩ := R1
      exact ⟨hK, hk1, s1, hZ, w1, n1, e1, f1, b1, b2, b3, hBk, hRc, ⟨rfl, 0, by omega, rfl⟩, t1, hF, hT, hL, hI, hD, hPn, hS, B1, B2, B3⟩
  · rw [if_neg h6, if_neg h6]; exact ⟨_, _, _, rfl, rfl, R0.up⟩
end K5
