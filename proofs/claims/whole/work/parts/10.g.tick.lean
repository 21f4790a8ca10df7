/-! PURE PART: what is dirty goes: too much of it; its age; the call tick -/
section K7
variable {hd : HDp} {N nf nb ev tm dc rr : Nat} {LA LI LS : List (Nat × Nat)} {c m : St}
theorem cnt_sub {P P' : Nat → Bool} : ∀ {n : Nat}, (∀ j, j < n → P' j = true → P j = true) → cnt P' n ≤ cnt P n
  | 0, _ => Nat.le_refl _
  | n + 1, h => by
    have h1 := cnt_sub (P := P) (P' := P') (n := n) (fun j hj => h j (by omega))
    have h2 := h n (by omega)
    unfold cnt
    cases e : P' n
    · simp only [Bool.false_eq_true, if_false]; omega
    · rw [h2 e]; omega
theorem cnt_sub1 {P P' : Nat → Bool} {i : Nat} : ∀ {n : Nat}, i < n → P i = true → P' i = false → (∀ j, j < n → P' j = true → P j = true) → cnt P' n + 1 ≤ cnt P n
  | 0, h, _, _, _ => absurd h (by omega)
  | n + 1, h, h1, h2, h3 => by
    unfold cnt
    by_cases e : i = n
    · subst e
      have := cnt_sub (P := P) (P' := P') (n := i) (fun j hj => h3 j (by omega))
      rw [h1, h2]; simp only [Bool.false_eq_true, if_false, if_true]; omega
    · have h4 := cnt_sub1 (P := P) (P' := P') (n := n) (by omega) h1 h2 (fun j hj => h3 j (by omega))
      have h5 := h3 n (by omega)
      cases e : P' n
      · simp only [Bool.false_eq_true, if_false]; omega
      · rw [h5 e]; omega
noncomputable def cb (nf tm a : Nat) (c : St) (f : Nat) : Bool := @decide (∃ p t, Cd nf tm a c f p t) (Classical.propDecidable _)
theorem cb_iff {a : Nat} {f : Nat} : cb nf tm a c f = true ↔ ∃ p t, Cd nf tm a c f p t := by
  unfold cb
  exact @decide_eq_true_iff _ (Classical.propDecidable _)
theorem AB_k {k : Nat} (h : k < 2 ^ 62) : AB (lN k) (k + 1) := Or.inr ⟨k, rfl, rfl, h⟩
theorem old_sur (R : Rel hd nf nb LA LI LS ev tm dc rr c m) (hN : 5000 ≤ N) {x : Int64} {a : Nat} (hx : AB x a) (hT : TR tm a m) : (pf_X2_oldestDirty N nf nb x c = some (-1) ∧ pf_X7_oldest N (m.1 5) m = some (-1) ∧ ∀ f p t, ¬ Cd nf tm a c f p t) ∨ (∃ f p t, Cd nf tm a c f p t ∧ (∀ f' p' t', Cd nf tm a c f' p' t' → t * 3072 + p ≤ t' * 3072 + p') ∧ pf_X2_oldestDirty N nf nb x c = some (nI f) ∧ pf_X7_oldest N (m.1 5) m = some (nI p)) := by
  have htm := R.1.2.2.2.2.2
  have ht1 : m.1 5 = nI tm := R.2.2.2.2.2.2.2.2.2.2.2.2.2.2.1.2
  rw [ht1]
  rcases op_old R hN hx hT (lat := nI tm) (ok := fun t => t ≤ tm) (fun t ht => by rw [nI_ltI (by omega) (by omega)]; omega) (fun t t' h h' => Nat.le_trans h h') with h | ⟨f, p, t, h1, h2, h3, ⟨-, h4⟩ | ⟨h4, -⟩⟩
  · exact Or.inl h
  · exact Or.inr ⟨f, p, t, h1, h2, h3, h4⟩
  · exact absurd h1.2.2.2.2.1 h4
theorem R23 {g : Nat → Int32} (R : Rel hd nf nb LA LI LS ev tm dc rr c m) : Rel hd nf nb LA LI LS ev tm dc rr c (sA m 23 g) := by
  obtain ⟨hK, hk1, s1, hZ, w1, n1, e1, f1, b1, b2, b3, hBk, hRc, h1, t1, hF, hT, hL, hI, hD, hPn, hS, B1, B2, B3⟩ := R
  exact ⟨hK, hk1, s1, hZ, w1, n1, e1, f1, b1, b2, b3, hBk, hRc, h1, t1, hF, hT, hL, hI, hD, hPn, hS, B1, B2, B3⟩
/-- the oldest page is tried on both sides -/
theorem op_try (R : Rel hd nf nb LA LI LS ev tm dc rr c m) (hN : 5000 ≤ N) (hph : rr + dc ≤ 255) {a f p t : Nat} (hT : TR tm a m) (hc : Cd nf tm a c f p t) (mn : ∀ f' p' t', Cd nf tm a c f' p' t' → t * 3072 + p ≤ t' * 3072 + p') : ∃ r c' m' dc' rr', Bo r ∧ pf_X2_ageKey N nf nb (nI f) c = some (lN (t * 3072 + p)) ∧ pf_X6_flush N nf nb (nI f) c = some (r, c') ∧ pf_X7_written N (nI p) m = some (r, m') ∧ Rel hd nf nb LA LI LS ev tm dc' rr' c' (sA m' 23 (upd (m'.2.1 23) p 1)) ∧ rr' + dc' ≤ rr + dc ∧ TR tm (t * 3072 + p + 1) (sA m' 23 (upd (m'.2.1 23) p 1)) ∧ AB (lN (t * 3072 + p)) (t * 3072 + p + 1) ∧ (∀ f' p' t', Cd nf tm (t * 3072 + p + 1) c' f' p' t' → f' ≠ f ∧ Cd nf tm a c f' p' t') := by
  have htm := R.1.2.2.2.2.2
  have hnf := R.1.2.1
  obtain ⟨hf, hp, e1, e2, ht, ha⟩ := hc
  have hkey : pf_X2_ageKey N nf nb (nI f) c = some (lN (t * 3072 + p)) := by
    rcases key_n (N := N) R hf with ⟨h, -⟩ | ⟨p', t', hp', g1, g2, ht', g3⟩
    · exact absurd (e2.symm.trans h) (m1_ne (by omega))
    · have q1 := nI_inj (e1.symm.trans g1) (by omega) (by omega)
      have q2 := nI_inj (e2.symm.trans g2) (by omega) (by omega)
      subst q1 q2; exact g3
  obtain ⟨r, c', m', rr', dc', x1, x2, R', x3, x4⟩ := op_flush R hN hf hp e1 (by omega)
  have hs : c'.2.1 18 f = -1 ∨ c'.2.1 18 = c.2.1 18 := by
    rcases x3 with ⟨-, h, -⟩ | ⟨-, -, -, h⟩
    · exact Or.inl h
    · exact Or.inr h
  obtain ⟨y1, y2⟩ := tr_step R R' hT ⟨hf, hp, e1, e2, ht, ha⟩ mn hs x4.1 x4.2.2.2.2.1 x4.2.2.2.2.2.2.1
  refine ⟨r, c', m', dc', rr', ?_, hkey, x1, x2, R23 R', ?_, y1, AB_k ?_, y2⟩
  · rcases x3 with ⟨h, -⟩ | ⟨h, -⟩
    · exact Or.inr h
    · exact Or.inl h
  · rcases x3 with ⟨-, -, h1, h2, -⟩ | ⟨-, h1, h2, -⟩
    · rw [e2, if_neg (m1_ne (by omega))] at h1; omega
    · omega
  · have : t * 3072 ≤ 2 ^ 30 * 3072 := Nat.mul_le_mul_right 3072 (by omega)
    exact Nat.lt_of_le_of_lt (Nat.add_le_add this (Nat.le_of_lt hp)) (by decide)
theorem sur_L (hN : 5000 ≤ N) : ∀ (d i n n' a dc rr : Nat) (x y : Int32) (c m : St), Rel hd nf nb LA LI LS ev tm dc rr c m → rr + dc ≤ 255 → TR tm a m → cnt (cb nf tm a c) nf ≤ d → i + d ≤ nf → d < n → d < n' → ((x = -1 ∧ y = -1 ∧ ∀ f p t, ¬ Cd nf tm a c f p t) ∨ (∃ f p t, Cd nf tm a c f p t ∧ (∀ f' p' t', Cd nf tm a c f' p' t' → t * 3072 + p ≤ t' * 3072 + p') ∧ x = nI f ∧ y = nI p)) → ∃ c' m' dc' rr', pf_X6_writeSurplus_L33 N nf nb n x (nI i) c = some c' ∧ pf_X7_lessDirty_L27 N n' y m = some m' ∧ Rel hd nf nb LA LI LS ev tm dc' rr' c' m' := by
  intro d
  induction d with
  | zero =>
    intro i n n' a dc rr x y c m R hph hT hcnt hi hn hn' hcase
    obtain ⟨n, rfl⟩ : ∃ j, n = j + 1 := ⟨n - 1, by omega⟩
    obtain ⟨n', rfl⟩ : ∃ j, n' = j + 1 := ⟨n' - 1, by omega⟩
    have hnf := R.1.2.1
    rcases hcase with ⟨h1, h2, -⟩ | ⟨f, p, t, hc, -⟩
    · rw [pf_X6_writeSurplus_L33, pf_X7_lessDirty_L27, if_pos h2, R.2.1.1, if_n (by omega) (by omega)]
      refine ⟨c, m, dc, rr, ?_, rfl, R⟩
      by_cases h : nf ≤ i
      · rw [if_pos h]
      · rw [if_neg h, if_pos h1]
    · exact absurd (cnt_pos (P := cb nf tm a c) hc.1 (cb_iff.mpr ⟨p, t, hc⟩)) (by omega)
  | succ d ih =>
    intro i n n' a dc rr x y c m R hph hT hcnt hi hn hn' hcase
    obtain ⟨n, rfl⟩ : ∃ j, n = j + 1 := ⟨n - 1, by omega⟩
    obtain ⟨n', rfl⟩ : ∃ j, n' = j + 1 := ⟨n' - 1, by omega⟩
    have hnf := R.1.2.1
    rw [pf_X6_writeSurplus_L33, pf_X7_lessDirty_L27, R.2.1.1, if_n (by omega) (by omega)]
    rcases hcase with ⟨h1, h2, -⟩ | ⟨f, p, t, hc, mn, h1, h2⟩
    · rw [if_pos h2]
      refine ⟨c, m, dc, rr, ?_, rfl, R⟩
      by_cases h : nf ≤ i
      · rw [if_pos h]
      · rw [if_neg h, if_pos h1]
    · have hf := hc.1
      have hp := hc.2.1
      subst h1 h2
      rw [if_neg (by omega), if_neg (m1_ne (by omega)), if_neg (m1_ne (by omega)), m_dirties R hN, Option.bind_some, R.2.1.2.1, R.D.1]
      by_cases h4 : nI dc ≤ nI nf / 4
      · rw [if_pos h4, if_pos h4]; exact ⟨_, _, _, _, rfl, rfl, R⟩
      · rw [if_neg h4, if_neg h4]
        obtain ⟨r, c', m', dc', rr', -, z0, z1, z2, R', z3, z4, z5, z6⟩ := op_try R hN hph hT hc mn
        rw [z0, Option.bind_some, z1, Option.bind_some, z2, Option.bind_some]
        simp only [lt_, bI_n hp (show 3072 < 2 ^ 31 by decide), cl_n (show p < 2 ^ 31 by omega), nar1]
        have hcnt' : cnt (cb nf tm (t * 3072 + p + 1) c') nf + 1 ≤ cnt (cb nf tm a c) nf := by
          refine cnt_sub1 (i := f) hf (cb_iff.mpr ⟨p, t, hc⟩) ?_ (fun j hj h => ?_)
          · cases e : cb nf tm (t * 3072 + p + 1) c' f
            · rfl
            · obtain ⟨p', t', h⟩ := cb_iff.mp e
              exact absurd rfl (z6 f p' t' h).1
          · obtain ⟨p', t', h'⟩ := cb_iff.mp h
            exact cb_iff.mpr ⟨p', t', (z6 j p' t' h').2⟩
        rw [nI_1]
        rcases old_sur R' hN z5 z4 with ⟨v1, v2, v3⟩ | ⟨f2, p2, t2, v0, v1, v2, v3⟩
        · rw [v1, v2, Option.bind_some, Option.bind_some]
          exact ih (i + 1) n n' _ dc' rr' _ _ c' _ R' (by omega) z4 (by omega) (by omega) (by omega) (by omega) (Or.inl ⟨rfl, rfl, v3⟩)
        · rw [v2, v3, Option.bind_some, Option.bind_some]
          exact ih (i + 1) n n' _ dc' rr' _ _ c' _ R' (by omega) z4 (by omega) (by omega) (by omega) (by omega) (Or.inr ⟨f2, p2, t2, v0, v1, rfl, rfl⟩)
theorem op_surplus (R : Rel hd nf nb LA LI LS ev tm dc rr c m) (hN : 5000 ≤ N) (hph : rr + dc ≤ 255) : ∃ c' m' dc' rr', pf_X6_writeSurplus N nf nb c = some c' ∧ pf_X7_lessDirty N m = some m' ∧ Rel hd nf nb LA LI LS ev tm dc' rr' c' m' := by
  have hnf := R.1.2.1
  unfold pf_X6_writeSurplus pf_X7_lessDirty
  rw [m_dirties R hN, Option.bind_some, R.2.1.1, R.2.1.2.1, R.D.1]
  by_cases h : nI nf / 2 < nI dc
  · rw [if_pos h, if_pos h]
    obtain ⟨m1, y1, R1, y2, y3⟩ := op_none R hN
    rw [y1, Option.bind_some]
    rcases old_sur R1 hN (Or.inl ⟨rfl, rfl⟩ : AB (-1) 0) y2 with ⟨v1, v2, v3⟩ | ⟨f2, p2, t2, v0, v1, v2, v3⟩
    · rw [v1, v2, Option.bind_some, Option.bind_some]
      exact sur_L hN nf 0 N N 0 dc rr _ _ c m1 R1 hph y2 (cnt_le _ _) (by omega) (by omega) (by omega) (Or.inl ⟨rfl, rfl, v3⟩)
    · rw [v2, v3, Option.bind_some, Option.bind_some]
      exact sur_L hN nf 0 N N 0 dc rr _ _ c m1 R1 hph y2 (cnt_le _ _) (by omega) (by omega) (by omega) (Or.inr ⟨f2, p2, t2, v0, v1, rfl, rfl⟩)
  · rw [if_neg h, if_neg h]; exact ⟨_, _, _, _, rfl, rfl, R⟩
-- age
theorem old_age (R : Rel hd nf nb LA LI LS ev tm dc rr c m) (hN : 5000 ≤ N) {x : Int64} {a : Nat} (hx : AB x a) (hT : TR tm a m) : (pf_X2_oldestDirty N nf nb x c = some (-1) ∧ pf_X7_oldest N (m.1 5 - 5) m = some (-1)) ∨ (∃ f p t, Cd nf tm a c f p t ∧ (∀ f' p' t', Cd nf tm a c f' p' t' → t * 3072 + p ≤ t' * 3072 + p') ∧ pf_X2_oldestDirty N nf nb x c = some (nI f) ∧ ((t + 5 ≤ tm ∧ pf_X7_oldest N (m.1 5 - 5) m = some (nI p)) ∨ (¬ t + 5 ≤ tm ∧ pf_X7_oldest N (m.1 5 - 5) m = some (-1)))) := by
  have htm := R.1.2.2.2.2.2
  have ht1 : m.1 5 = nI tm := R.2.2.2.2.2.2.2.2.2.2.2.2.2.2.1.2
  rw [ht1]
  rcases op_old R hN hx hT (lat := nI tm - 5) (ok := fun t => t + 5 ≤ tm) (fun t ht => by
    rw [Int32.lt_iff_toInt_lt, show (5 : Int32) = nI 5 from rfl, pk_sub_toInt htm (by decide), nI_toInt (by omega)]; omega) (fun t t' h h' => by have h' : t' + 5 ≤ tm := h'; show t + 5 ≤ tm; omega) with h | h
  · exact Or.inl ⟨h.1, h.2.1⟩
  · exact Or.inr h
theorem m_stuck {J : Int32 → Int32 → Int32 → St → Option (Int32 × St)} {x1 x2 x3 : Int32} (h : pf_X7_oldest N (m.1 5 - 5) m = some (-1)) : ∀ (d j n : Nat), j + d = 4 → d < n → pf_X7_tick_L45 N J n x1 x2 x3 (nI j) m = J x1 x2 (x3 + 1) m := by
  intro d
  induction d with
  | zero =>
    intro j n hj hn
    obtain ⟨n, rfl⟩ : ∃ j, n = j + 1 := ⟨n - 1, by omega⟩
    rw [pf_X7_tick_L45, show (4 : Int32) = nI 4 from rfl, if_n (by omega) (by omega), if_pos (by omega)]
  | succ d ih =>
    intro j n hj hn
    obtain ⟨n, rfl⟩ : ∃ j, n = j + 1 := ⟨n - 1, by omega⟩
    rw [pf_X7_tick_L45, show (4 : Int32) = nI 4 from rfl, if_n (by omega) (by omega), if_neg (by omega), h, Option.bind_some, if_pos rfl]
    unfold pf_X7_tick_b94
    rw [nI_1]
    exact ih (j + 1) n (by omega) (by omega)
theorem age_L {J : Int32 → Int32 → Int32 → St → Option (Int32 × St)} {x1 x3 b : Int32} (hN : 5000 ≤ N) : ∀ (d j n n' a dc rr : Nat) (w x : Int32) (c m : St), Rel hd nf nb LA LI LS ev tm dc rr c m → rr + dc ≤ 255 → TR tm a m → j + d = 4 → d < n → d < n' → ((x = -1 ∧ pf_X7_oldest N (m.1 5 - 5) m = some (-1)) ∨ (∃ f p t, Cd nf tm a c f p t ∧ (∀ f' p' t', Cd nf tm a c f' p' t' → t * 3072 + p ≤ t' * 3072 + p') ∧ x = nI f ∧ ((t + 5 ≤ tm ∧ pf_X7_oldest N (m.1 5 - 5) m = some (nI p)) ∨ (¬ t + 5 ≤ tm ∧ pf_X7_oldest N (m.1 5 - 5) m = some (-1))))) → ∃ w' c' m' dc' rr', pf_X6_writeAged_L15 N nf nb n w x (nI j) c = some (w', c') ∧ pf_X7_tick_L45 N J n' x1 (b + w) x3 (nI j) m = J x1 (b + w') (x3 + 1) m' ∧ Rel hd nf nb LA LI LS ev tm dc' rr' c' m' ∧ rr' + dc' ≤ rr + dc := by
  intro d
  induction d with
  | zero =>
    intro j n n' a dc rr w x c m R hph hT hj hn hn' hcase
    obtain ⟨n, rfl⟩ : ∃ j, n = j + 1 := ⟨n - 1, by omega⟩
    obtain ⟨n', rfl⟩ : ∃ j, n' = j + 1 := ⟨n' - 1, by omega⟩
    rw [pf_X6_writeAged_L15, pf_X7_tick_L45, show (4 : Int32) = nI 4 from rfl, if_n (by omega) (by omega), if_pos (by omega), if_n (by omega) (by omega), if_pos (by omega)]
    exact ⟨_, _, _, _, _, rfl, rfl, R, Nat.le_refl _⟩
  | succ d ih =>
    intro j n n' a dc rr w x c m R hph hT hj hn hn' hcase
    obtain ⟨n, rfl⟩ : ∃ j, n = j + 1 := ⟨n - 1, by omega⟩
    have hnf := R.1.2.1
    have htm := R.1.2.2.2.2.2
    have ht1 : c.1 13 = nI tm := R.2.2.2.2.2.2.2.2.2.2.2.2.2.2.1.1
    rw [pf_X6_writeAged_L15, show (4 : Int32) = nI 4 from rfl, if_n (by omega) (by omega), if_neg (by omega)]
    rcases hcase with ⟨h1, h2⟩ | ⟨f, p, t, hc, mn, h1, h2⟩
    · rw [if_pos h1, m_stuck h2 (d + 1) j n' (by omega) (by omega)]
      exact ⟨_, _, _, _, _, rfl, rfl, R, Nat.le_refl _⟩
    · have hf := hc.1
      have hp := hc.2.1
      have ht := hc.2.2.2.2.1
      subst h1
      rw [if_neg (m1_ne (by omega)), bI_n hf (by omega), cl_n (by omega), hc.2.2.2.1, ht1, pk_sub ht, show (5 : Int32) = nI 5 from rfl, il_n (by omega) (by omega)]
      rcases h2 with ⟨h2, h3⟩ | ⟨h2, h3⟩
      · obtain ⟨n', rfl⟩ : ∃ j, n' = j + 1 := ⟨n' - 1, by omega⟩
        rw [if_neg (by omega), pf_X7_tick_L45, show (4 : Int32) = nI 4 from rfl, if_n (by omega) (by omega), if_neg (by omega), h3, Option.bind_some, if_neg (m1_ne (by omega))]
        obtain ⟨r, c', m', dc', rr', hr, z0, z1, z2, R', z3, z4, z5, z6⟩ := op_try R hN hph hT hc mn
        rw [z0, Option.bind_some, z1, Option.bind_some, z2, Option.bind_some]
        unfold pf_X6_writeAged_b64 pf_X7_tick_b84 pf_X7_tick_b94
        simp only [lt_, bI_n hp (show 3072 < 2 ^ 31 by decide), cl_n (show p < 2 ^ 31 by omega), nar1, nI_1]
        have hnx : ∃ x', pf_X2_oldestDirty N nf nb (lN (t * 3072 + p)) c' = some x' ∧ ((x' = -1 ∧ pf_X7_oldest N ((sA m' 23 (upd (m'.2.1 23) p 1)).1 5 - 5) (sA m' 23 (upd (m'.2.1 23) p 1)) = some (-1)) ∨ (∃ f2 p2 t2, Cd nf tm (t * 3072 + p + 1) c' f2 p2 t2 ∧ (∀ f' p' t', Cd nf tm (t * 3072 + p + 1) c' f' p' t' → t2 * 3072 + p2 ≤ t' * 3072 + p') ∧ x' = nI f2 ∧ ((t2 + 5 ≤ tm ∧ pf_X7_oldest N ((sA m' 23 (upd (m'.2.1 23) p 1)).1 5 - 5) (sA m' 23 (upd (m'.2.1 23) p 1)) = some (nI p2)) ∨ (¬ t2 + 5 ≤ tm ∧ pf_X7_oldest N ((sA m' 23 (upd (m'.2.1 23) p 1)).1 5 - 5) (sA m' 23 (upd (m'.2.1 23) p 1)) = some (-1))))) := by
          rcases old_age R' hN z5 z4 with ⟨v1, v2⟩ | ⟨f2, p2, t2, v0, v1, v2, v3⟩
          · exact ⟨_, v1, Or.inl ⟨rfl, v2⟩⟩
          · exact ⟨_, v2, Or.inr ⟨f2, p2, t2, v0, v1, rfl, v3⟩⟩
        obtain ⟨x', v1, v2⟩ := hnx
        rcases hr with h | h
        · subst h
          rw [if_pos rfl, if_pos rfl, v1, Option.bind_some, x_add0]
          obtain ⟨w', c2, m2, dc2, rr2, u1, u2, R2, u3⟩ := ih (j + 1) n n' _ dc' rr' w x' c' _ R' (by omega) z4 (by omega) (by omega) (by omega) v2
          exact ⟨w', c2, m2, dc2, rr2, u1, u2, R2, by omega⟩
        · subst h
          rw [if_neg z1_ne, if_neg z1_ne, v1, Option.bind_some, Int32.add_assoc]
          obtain ⟨w', c2, m2, dc2, rr2, u1, u2, R2, u3⟩ := ih (j + 1) n n' _ dc' rr' (w + 1) x' c' _ R' (by omega) z4 (by omega) (by omega) (by omega) v2
          exact ⟨w', c2, m2, dc2, rr2, u1, u2, R2, by omega⟩
      · rw [if_pos (by omega), m_stuck h3 (d + 1) j n' (by omega) (by omega)]
        exact ⟨_, _, _, _, _, rfl, rfl, R, Nat.le_refl _⟩
theorem tick_L {s : Nat} (hN : 5000 ≤ N) (hs : s ≤ 1000) : ∀ (d i n n' tm dc rr : Nat) (b : Int32) (c m : St), Rel hd nf nb LA LI LS ev tm dc rr c m → rr + dc ≤ 255 → tm + d < 2 ^ 30 → i + d = s → d < n → d < n' → ∃ r c' m' dc' rr', pf_X6_tick_L25 N nf nb n (nI s) b (nI i) c = some (r, c') ∧ pf_X7_tick_L23 N n' (nI s) b (nI i) m = some (r, m') ∧ Rel hd nf nb LA LI LS ev (tm + d) dc' rr' c' m' := by
  intro d
  induction d with
  | zero =>
    intro i n n' tm dc rr b c m R hph htm hi hn hn'
    obtain ⟨n, rfl⟩ : ∃ j, n = j + 1 := ⟨n - 1, by omega⟩
    obtain ⟨n', rfl⟩ : ∃ j, n' = j + 1 := ⟨n' - 1, by omega⟩
    rw [pf_X6_tick_L25, pf_X7_tick_L23, if_n (by omega) (by omega), if_pos (by omega), if_n (by omega) (by omega), if_pos (by omega)]
    exact ⟨_, _, _, _, _, rfl, rfl, R⟩
  | succ d ih =>
    intro i n n' tm dc rr b c m R hph htm hi hn hn'
    obtain ⟨n, rfl⟩ : ∃ j, n = j + 1 := ⟨n - 1, by omega⟩
    obtain ⟨n', rfl⟩ : ∃ j, n' = j + 1 := ⟨n' - 1, by omega⟩
    rw [pf_X6_tick_L25, pf_X7_tick_L23, if_n (by omega) (by omega), if_neg (by omega), if_n (by omega) (by omega), if_neg (by omega)]
    simp only [lt_]
    have R1 : Rel hd nf nb LA LI LS ev (tm + 1) dc rr (sG c 13 (c.1 13 + 1)) (sG m 5 (m.1 5 + 1)) := by
      obtain ⟨hK, hk1, s1, hZ, w1, n1, e1, f1, b1, b2, b3, hBk, hRc, h1, t1, hF, hT, hL, hI, hD, hPn, hS, B1, B2, B3⟩ := R
      obtain ⟨ka, kb, kc, kd, ke, kf⟩ := hK
      refine ⟨⟨ka, kb, kc, kd, ke, by omega⟩, hk1, s1, hZ, w1, n1, e1, f1, b1, b2, b3, hBk, hRc, h1, ⟨?_, ?_⟩, hF, ?_, hL, hI, hD, hPn, hS, B1, B2, B3⟩
      · show c.1 13 + 1 = _
        rw [t1.1, nI_1]
      · show m.1 5 + 1 = _
        rw [t1.2, nI_1]
      · intro f hf
        rcases hT f hf with h | ⟨t, ht, e⟩
        · exact Or.inl h
        · exact Or.inr ⟨t, by omega, e⟩
    obtain ⟨m2, y1, R2, y2, y3⟩ := op_none R1 hN
    rw [y1, Option.bind_some]
    unfold pf_X6_writeAged
    have hnx : ∃ x', pf_X2_oldestDirty N nf nb (-1) (sG c 13 (c.1 13 + 1)) = some x' ∧ ((x' = -1 ∧ pf_X7_oldest N (m2.1 5 - 5) m2 = some (-1)) ∨ (∃ f2 p2 t2, Cd nf (tm + 1) 0 (sG c 13 (c.1 13 + 1)) f2 p2 t2 ∧ (∀ f' p' t', Cd nf (tm + 1) 0 (sG c 13 (c.1 13 + 1)) f' p' t' → t2 * 3072 + p2 ≤ t' * 3072 + p') ∧ x' = nI f2 ∧ ((t2 + 5 ≤ tm + 1 ∧ pf_X7_oldest N (m2.1 5 - 5) m2 = some (nI p2)) ∨ (¬ t2 + 5 ≤ tm + 1 ∧ pf_X7_oldest N (m2.1 5 - 5) m2 = some (-1))))) := by
      rcases old_age R2 hN (Or.inl ⟨rfl, rfl⟩ : AB (-1) 0) y2 with ⟨v1, v2⟩ | ⟨f2, p2, t2, v0, v1, v2, v3⟩
      · exact ⟨_, v1, Or.inl ⟨rfl, v2⟩⟩
      · exact ⟨_, v2, Or.inr ⟨f2, p2, t2, v0, v1, rfl, v3⟩⟩
    obtain ⟨x', v1, v2⟩ := hnx
    rw [v1, Option.bind_some]
    obtain ⟨w', c3, m3, dc3, rr3, u1, u2, R3', u3⟩ := age_L (J := pf_X7_tick_L23 N n') (x1 := nI s) (x3 := nI i) (b := b) hN 4 0 N N 0 dc rr 0 x' _ m2 R2 hph y2 (by omega) (by omega) (by omega) v2
    rw [x_add0] at u2
    rw [show (0 : Int32) = nI 0 from rfl] at u1 ⊢
    rw [u1, u2, Option.bind_some, nI_1]
    obtain ⟨r, c', m', dc', rr', z1, z2, R'⟩ := ih (i + 1) n n' (tm + 1) dc3 rr3 (b + w') c3 m3 R3' (by omega) (by omega) (by omega) (by omega) (by omega)
    refine ⟨r, c', m', dc', rr', z1, z2, ?_⟩
    rw [show tm + (d + 1) = tm + 1 + d by omega]; exact R'
theorem q_tick {k : Nat} (R : R3 nf nb k c m) (hk : k < 64) (hN : 5000 ≤ N) (x1 : Int32) : ∃ r c' m', pf_X6_tick N nf nb x1 c = some (r, c') ∧ pf_X7_tick N x1 m = some (r, m') ∧ R3 nf nb (k + 1) c' m' := by
  have R0 := R
  obtain ⟨LA, LI, LS, ev, tm, dc, rr, R, hev, htm⟩ := R
  have hnf := R.1.2.1
  unfold pf_X6_tick pf_X7_tick
  by_cases h3 : x1 < 0
  · rw [if_pos h3, if_pos h3]; exact ⟨_, _, _, rfl, rfl, R0.up⟩
  rw [if_neg h3, if_neg h3]
  by_cases h4 : x1 ≤ 1000
  · rw [if_pos h4, if_pos h4]
    obtain ⟨s, hs, e2⟩ := nI_of2 (n := 1000) (by decide) h3 h4
    obtain ⟨y1, R1⟩ := op_begin (N := N) R
    have hd := dc_le R.D
    rw [y1, Option.bind_some, e2]
    simp only [lt_]
    obtain ⟨r, c', m', dc', rr', z1, z2, R'⟩ := tick_L hN hs s 0 N N tm dc 0 0 _ _ R1 (by omega) (by omega) (by omega) (by omega) (by omega)
    exact ⟨r, c', m', z1, z2, R3.of R' (by omega) (by omega)⟩
  · rw [if_neg h4, if_neg h4]; exact ⟨_, _, _, rfl, rfl, R0.up⟩
end K7
