/-! PURE PART: errors, blocks, the record -/
theorem st_ext {a b : St} (h1 : ∀ j, a.1 j = b.1 j) (h2 : ∀ j, a.2.1 j = b.2.1 j) (h3 : a.2.2 = b.2.2) : a = b := by
  obtain ⟨a1, a2, a3⟩ := a
  obtain ⟨b1, b2, b3⟩ := b
  have e1 : a1 = b1 := funext h1
  have e2 : a2 = b2 := funext h2
  have e3 : a3 = b3 := h3
  rw [e1, e2, e3]
theorem p_div {p : Nat} (hp : p < 3072) : nI p / (256 : Int32) = nI (p / 256) := pk_div (by omega) (by decide) (by decide)
theorem p_rem {p : Nat} (hp : p < 3072) : nI p - nI p / (256 : Int32) * (256 : Int32) = nI (p % 256) := pk_rem (by omega) (by decide) (by decide)
theorem op_err {N nf nb p : Nat} {c m : St} {e : Int32} (h : c.2.1 13 = m.2.1 4) (hp : p < 3072) : ∃ g, pf_X1_setError N nf nb (nI (p / 256)) e c = some (sA c 13 g) ∧ pf_X7_wrong N (nI p) e m = some (sA m 4 g) := by
  have hq : p / 256 < 12 := by omega
  unfold pf_X1_setError pf_X7_wrong pf_X7_wrong_b30
  rw [p_div hp, if_neg (nI_pos (by omega)), show (12 : Int32) = nI 12 from rfl, if_n (by omega) (by omega), if_neg (by omega)]
  simp only [lt_, bI_n hq (show 12 < 2 ^ 31 by decide), cl_n (show p / 256 < 2 ^ 31 by omega)]
  rw [h]
  by_cases hz : m.2.1 4 (p / 256) = 0
  · rw [if_pos hz, if_pos hz]
    exact ⟨_, rfl, rfl⟩
  · rw [if_neg hz, if_neg hz]
    refine ⟨m.2.1 4, ?_, ?_⟩
    · rw [sA_same _ _ h]
    · rw [upd_self _ _ rfl]
theorem x_least_L {N nf nb b : Nat} {σ : St} (hnb : nb ≤ 512) (hb : b < nb) (h0 : σ.2.1 5 b = 0) (hl : ∀ j, j < b → ¬ σ.2.1 5 j = 0) {fr : Nat} (hfr : σ.1 0 = nI fr) (hfp : 0 < fr) (hf2 : fr ≤ 512) : ∀ (d k n : Nat), k + d = b → d < n → pf_X0_leastFree_L2 N nf nb n (nI k) σ = some (nI b, sG (sA σ 5 (upd (σ.2.1 5) b 1)) 0 (nI (fr - 1))) := by
  intro d
  induction d with
  | zero =>
    intro k n hk hd
    obtain ⟨n, rfl⟩ : ∃ m, n = m + 1 := ⟨n - 1, by omega⟩
    have : k = b := by omega
    subst this
    rw [pf_X0_leastFree_L2, if_n (by omega) (by omega), if_neg (by omega), hfr, if_neg (nI_nle hfp (by omega)), bI_n hb (by omega), bI_n hb (by omega), cl_n (by omega), h0, if_pos rfl]
    simp only [lt_, nar1]
    rw [sA_1, hfr, show (1 : Int32) = nI 1 from rfl, pk_sub (by omega)]
  | succ d ih =>
    intro k n hk hd
    obtain ⟨n, rfl⟩ : ∃ m, n = m + 1 := ⟨n - 1, by omega⟩
    rw [pf_X0_leastFree_L2, if_n (by omega) (by omega), if_neg (by omega), hfr, if_neg (nI_nle hfp (by omega)), bI_n (by omega) (by omega), cl_n (by omega), if_neg (hl k (by omega)), nI_1]
    exact ih (k + 1) n (by omega) (by omega)
theorem m_least_L {N nb b p : Nat} {σ : St} (hnb : nb ≤ 512) (h1 : σ.1 1 = nI nb) (hp : p < 3072) (hbl : σ.2.1 6 p = -1) (hb : b < nb) (h0 : σ.2.1 17 b = 0) (hl : ∀ j, j < b → ¬ σ.2.1 17 j = 0) : ∀ (d k n : Nat), k + d = b → d + 1 < n → pf_X7_hasBlock_L2 N n (nI p) (nI k) σ = some (1, sA (sA σ 17 (upd (σ.2.1 17) b 1)) 6 (upd (σ.2.1 6) p (nI b))) := by
  intro d
  induction d with
  | zero =>
    intro k n hk hd
    obtain ⟨n, rfl⟩ : ∃ m, n = m + 2 := ⟨n - 2, by omega⟩
    have : k = b := by omega
    subst this
    rw [pf_X7_hasBlock_L2, h1, if_n (by omega) (by omega), if_neg (by omega), bI_n hp (by decide), cl_n (show p < 2 ^ 31 by omega), hbl, if_pos rfl]
    simp only [bI_n (show k < 512 by omega) (show 512 < 2 ^ 31 by decide), cl_n (show k < 2 ^ 31 by omega), h0, lt_, nar1, bI_n hp (show 3072 < 2 ^ 31 by decide)]
    rw [if_pos trivial]
    unfold pf_X7_hasBlock_b43
    rw [nI_1]
    have e6 : (sA (sA σ 17 (upd (σ.2.1 17) k 1)) 6 (upd ((sA σ 17 (upd (σ.2.1 17) k 1)).2.1 6) p (nI k))).2.1 6 p = nI k := us_
    have key : pf_X7_hasBlock_b49 N (nI p) (sA (sA σ 17 (upd (σ.2.1 17) k 1)) 6 (upd ((sA σ 17 (upd (σ.2.1 17) k 1)).2.1 6) p (nI k))) = some (1, sA (sA σ 17 (upd (σ.2.1 17) k 1)) 6 (upd (σ.2.1 6) p (nI k))) := by
      unfold pf_X7_hasBlock_b49 pf_X7_hasBlock_b66
      simp only [bI_n hp (show 3072 < 2 ^ 31 by decide), cl_n (show p < 2 ^ 31 by omega)]
      rw [e6, if_neg (m1_ne (by omega)), if_neg (m1_ne (by omega))]
      rfl
    rw [pf_X7_hasBlock_L2]
    split
    · exact key
    · rw [bI_n hp (by decide), cl_n (by omega), e6, if_neg (m1_ne (by omega))]
      exact key
  | succ d ih =>
    intro k n hk hd
    obtain ⟨n, rfl⟩ : ∃ m, n = m + 1 := ⟨n - 1, by omega⟩
    rw [pf_X7_hasBlock_L2, h1, if_n (by omega) (by omega), if_neg (by omega), bI_n hp (by decide), cl_n (show p < 2 ^ 31 by omega), hbl, if_pos rfl, bI_n (by omega) (by decide), cl_n (by omega), if_neg (hl k (by omega))]
    unfold pf_X7_hasBlock_b43
    rw [nI_1]
    exact ih (k + 1) n (by omega) (by omega)
theorem m_none_L {N nb p : Nat} {σ : St} (hnb : nb ≤ 512) (h1 : σ.1 1 = nI nb) (hp : p < 3072) (hbl : σ.2.1 6 p = -1) (hl : ∀ j, j < nb → ¬ σ.2.1 17 j = 0) : ∀ (d k n : Nat), k + d = nb → d < n → pf_X7_hasBlock_L2 N n (nI p) (nI k) σ = pf_X7_hasBlock_b49 N (nI p) σ := by
  intro d
  induction d with
  | zero =>
    intro k n hk hd
    obtain ⟨n, rfl⟩ : ∃ m, n = m + 1 := ⟨n - 1, by omega⟩
    rw [pf_X7_hasBlock_L2, h1, if_n (by omega) (by omega), if_pos (by omega)]
  | succ d ih =>
    intro k n hk hd
    obtain ⟨n, rfl⟩ : ∃ m, n = m + 1 := ⟨n - 1, by omega⟩
    rw [pf_X7_hasBlock_L2, h1, if_n (by omega) (by omega), if_neg (by omega), bI_n hp (by decide), cl_n (show p < 2 ^ 31 by omega), hbl, if_pos rfl, bI_n (by omega) (by decide), cl_n (by omega), if_neg (hl k (by omega))]
    unfold pf_X7_hasBlock_b43
    rw [nI_1]
    exact ih (k + 1) n (by omega) (by omega)
theorem least_ex {P : Nat → Prop} : ∀ n : Nat, (∃ b, b < n ∧ P b ∧ ∀ j, j < b → ¬ P j) ∨ ∀ j, j < n → ¬ P j
  | 0 => Or.inr (fun j h => absurd h (by omega))
  | n + 1 => by
    rcases least_ex (P := P) n with ⟨b, h1, h2, h3⟩ | h
    · exact Or.inl ⟨b, by omega, h2, h3⟩
    · by_cases hp : P n
      · exact Or.inl ⟨n, by omega, hp, h⟩
      · refine Or.inr (fun j hj => ?_)
        by_cases e : j = n
        · subst e; exact hp
        · exact h j (by omega)
theorem RK_take {nb b p : Nat} {bl tk fl : Nat → Int32} {fr : Nat} (h : RK nb bl tk fl (nI fr)) (hf : fr ≤ 512) (hnb : nb ≤ 512) (hb : b < nb) (h0 : tk b = 0) (hp : p < 3072) (hbl : bl p = -1) : 0 < fr ∧ RK nb (upd bl p (nI b)) (upd tk b 1) fl (nI (fr - 1)) := by
  obtain ⟨a1, a2, a3, a4⟩ := h
  have h1 := cnt_upd (P := fun j => tk j == 0) (P' := fun j => upd tk b 1 j == 0) hb (fun j _ hj => by rw [un hj])
  simp only [us_, h0] at h1
  have e1 : (if ((1 : Int32) == 0) = true then 1 else 0) = 0 := by decide
  have e2 : (if ((0 : Int32) == 0) = true then 1 else 0) = 1 := by decide
  rw [e1, e2] at h1
  have hle : cnt (fun j => tk j == 0) nb ≤ nb := cnt_le _ _
  have hfr : fr = cnt (fun j => tk j == 0) nb := nI_inj a4 (by omega) (by omega)
  refine ⟨by omega, fun q hq => ?_, fun q q' hq hq' hne he => ?_, fun j hj => ?_, by congr 1; omega⟩
  · by_cases e : q = p
    · subst e; rw [us_]; exact Or.inr ⟨b, hb, rfl, us_⟩
    · rw [un e]
      rcases a1 q hq with h | ⟨b', h2, h3, h4⟩
      · exact Or.inl h
      · refine Or.inr ⟨b', h2, h3, ?_⟩
        by_cases e2 : b' = b
        · subst e2; exact us_
        · rw [un e2, h4]
  · by_cases e : q = p
    · subst e
      by_cases e2 : q' = q
      · exact e2.symm
      · rw [us_, un e2] at he
        rcases a1 q' hq' with h | ⟨b', h2, h3, h4⟩
        · exact absurd (he.trans h) (m1_ne (by omega))
        · have := nI_inj (he.trans h3) (by omega) (by omega)
          subst this
          exact absurd (h0.symm.trans h4) (by decide)
    · by_cases e2 : q' = p
      · subst e2
        rw [un e, us_] at he
        rw [un e] at hne
        rcases a1 q hq with h | ⟨b', h2, h3, h4⟩
        · exact absurd h hne
        · have := nI_inj (h3.symm.trans he) (by omega) (by omega)
          subst this
          exact absurd (h0.symm.trans h4) (by decide)
      · rw [un e, un e2] at he
        rw [un e] at hne
        exact a2 q q' hq hq' hne he
  · by_cases e : j = b
    · subst e; rw [us_]; exact ⟨Or.inr rfl, (a3 j hj).2⟩
    · rw [un e]; exact a3 j hj
/-- what giving a block (and an error) keeps -/
def KpB (c c' : St) : Prop := (∀ j, j ≠ 0 → c'.1 j = c.1 j) ∧ (∀ j, j ≠ 5 → j ≠ 13 → j ≠ 30 → c'.2.1 j = c.2.1 j) ∧ c'.2.2 = c.2.2
theorem op_give {hd : HDp} {N nf nb ev tm dc rr p : Nat} {LA LI LS : List (Nat × Nat)} {c m : St} (R : Rel hd nf nb LA LI LS ev tm dc rr c m) (hN : 5000 ≤ N) (hp : p < 3072) : ∃ r c' m', pf_X6_giveBlock N nf nb (nI p) c = some (r, c') ∧ pf_X7_hasBlock N (nI p) m = some (r, m') ∧ Rel hd nf nb LA LI LS ev tm dc rr c' m' ∧ ((r = 1 ∧ ∃ b, b < nb ∧ m'.2.1 6 p = nI b) ∨ (r = 0 ∧ m'.2.1 6 p = -1)) ∧ KpB c c' ∧ (∀ j, j ≠ 4 → j ≠ 6 → j ≠ 17 → m'.2.1 j = m.2.1 j) ∧ m'.1 = m.1 ∧ (∀ j, j ≠ p → m'.2.1 6 j = m.2.1 6 j) ∧ (m.2.1 6 p ≠ -1 → m' = m ∧ c' = c ∧ r = 1) := by
  obtain ⟨hK, hk1, s1, hZ, w1, n1, e1, f1, b1, b2, b3, hBk, hRc, h1, t1, hF, hT, hL, hI, hD, hPn, hS, B1, B2, B3⟩ := R
  have hK' := hK
  obtain ⟨ka, kb, kc, kd, ke, kf⟩ := hK'
  unfold pf_X6_giveBlock pf_X7_hasBlock
  rw [bI_n hp (by decide), cl_n (by omega), b1]
  rcases hBk.1 p hp with hbl | ⟨b, hb, hbl, htk⟩
  · rw [hbl, if_pos rfl]
    have hfr : ∃ fr, c.1 0 = nI fr ∧ fr ≤ 512 := ⟨_, hBk.2.2.2, Nat.le_trans (cnt_le _ _) kd⟩
    obtain ⟨fr, hfr, hf5⟩ := hfr
    rcases least_ex (P := fun j => m.2.1 17 j = 0) nb with ⟨b, hb, hb0, hbl2⟩ | hnone
    · have hBk2 := hBk
      rw [hfr] at hBk2
      obtain ⟨hpos, hBk3⟩ := RK_take hBk2 hf5 kd hb hb0 hp hbl
      refine ⟨1, sA (sG (sA c 5 (upd (c.2.1 5) b 1)) 0 (nI (fr - 1))) 30 (upd (c.2.1 30) p (nI b)), sA (sA m 17 (upd (m.2.1 17) b 1)) 6 (upd (m.2.1 6) p (nI b)), ?_, ?_, ?_, Or.inl ⟨rfl, b, hb, us_⟩, ⟨fun j hj => by show (if j = 0 then _ else c.1 j) = _; rw [if_neg hj], fun j h5 h13 h30 => by show (if j = 30 then _ else (if j = 5 then _ else c.2.1 j)) = _; rw [if_neg h30, if_neg h5], rfl⟩, fun j h4 h6 h17 => by show (if j = 6 then _ else (if j = 17 then _ else m.2.1 j)) = _; rw [if_neg h6, if_neg h17], rfl, fun j hj => un hj, fun hne => absurd rfl hne⟩
      · unfold pf_X0_leastFree
        rw [show (0 : Int32) = nI 0 from rfl, x_least_L (N := N) (nf := nf) (nb := nb) (b := b) (σ := c) kd hb (by rw [b2]; exact hb0) (fun j hj => by rw [b2]; exact hbl2 j hj) hfr hpos hf5 b 0 N (by omega) (by omega)]
        simp only [Option.bind, lt_, bI_n hp (show 3072 < 2 ^ 31 by decide), cl_n (show p < 2 ^ 31 by omega)]
        unfold pf_X6_giveBlock_b23
        rw [bI_n hp (by decide), cl_n (by omega)]
        have e30 : (sA (sG (sA c 5 (upd (c.2.1 5) b 1)) 0 (nI (fr - 1))) 30 (upd ((sG (sA c 5 (upd (c.2.1 5) b 1)) 0 (nI (fr - 1))).2.1 30) p (nI b))).2.1 30 p = nI b := us_
        rw [e30, if_neg (m1_ne (by omega))]
        rfl
      · rw [show (0 : Int32) = nI 0 from rfl]
        exact m_least_L kd hk1.2.2 hp hbl hb hb0 hbl2 b 0 N (by omega) (by omega)
      · exact ⟨hK, hk1, s1, hZ, w1, n1, e1, f1, by show upd (c.2.1 30) p (nI b) = upd (m.2.1 6) p (nI b); rw [b1], by show upd (c.2.1 5) b 1 = upd (m.2.1 17) b 1; rw [b2], b3, hBk3, hRc, h1, t1, hF, hT, hL, hI, hD, hPn, hS, B1, B2, B3⟩
    · have hz : fr = 0 := by
        have h2 : cnt (fun j => m.2.1 17 j == 0) nb = 0 := by
          rcases Nat.eq_zero_or_pos (cnt (fun j => m.2.1 17 j == 0) nb) with h | h
          · exact h
          · exfalso
            have : ∀ k, k ≤ nb → cnt (fun j => m.2.1 17 j == 0) k = 0 := by
              intro k
              induction k with
              | zero => intro _; rfl
              | succ k ih =>
                intro hk
                show cnt (fun j => m.2.1 17 j == 0) k + (if (m.2.1 17 k == 0) = true then 1 else 0) = 0
                rw [ih (by omega), if_neg (by simpa using hnone k (by omega))]
            have := this nb (Nat.le_refl _)
            omega
        have := hBk.2.2.2
        rw [h2, hfr] at this
        exact nI_inj this (by omega) (by omega)
      obtain ⟨g, z1, z2⟩ := op_err (N := N) (nf := nf) (nb := nb) (c := sA c 30 (upd (c.2.1 30) p (-1))) (m := m) (e := -4) e1 hp
      have hself : upd (c.2.1 30) p (-1) = c.2.1 30 := upd_self _ _ (by rw [b1, hbl])
      rw [hself, sA_self] at z1
      refine ⟨0, sA c 13 g, sA m 4 g, ?_, ?_, ⟨hK, hk1, s1, hZ, w1, n1, rfl, f1, b1, b2, b3, hBk, hRc, h1, t1, hF, hT, hL, hI, hD, hPn, hS, B1, B2, B3⟩, Or.inr ⟨rfl, hbl⟩, ⟨fun j hj => rfl, fun j h5 h13 h30 => by show (if j = 13 then _ else c.2.1 j) = _; rw [if_neg h13], rfl⟩, fun j h4 h6 h17 => by show (if j = 4 then _ else m.2.1 j) = _; rw [if_neg h4], rfl, fun j hj => rfl, fun hne => absurd rfl hne⟩
      · unfold pf_X0_leastFree
        obtain ⟨N', rfl⟩ : ∃ k, N = k + 1 := ⟨N - 1, by omega⟩
        rw [pf_X0_leastFree_L2, show (0 : Int32) = nI 0 from rfl, if_n (by omega) (by omega), if_neg (by omega), hfr, hz, if_pos (by decide)]
        simp only [Option.bind, lt_, bI_n hp (show 3072 < 2 ^ 31 by decide), cl_n (show p < 2 ^ 31 by omega)]
        rw [hself, sA_self]
        unfold pf_X6_giveBlock_b23
        rw [bI_n hp (by decide), cl_n (by omega), b1, hbl, if_pos rfl, p_div hp, z1]
        rfl
      · rw [show (0 : Int32) = nI 0 from rfl, m_none_L kd hk1.2.2 hp hbl hnone nb 0 N (by omega) (by omega)]
        unfold pf_X7_hasBlock_b49 pf_X7_hasBlock_b66
        simp only [bI_n hp (show 3072 < 2 ^ 31 by decide), cl_n (show p < 2 ^ 31 by omega)]
        rw [hbl, if_pos rfl, z2]
        simp only [Option.bind]
        have e6 : (sA m 4 g).2.1 6 p = -1 := hbl
        rw [e6, if_pos rfl]
        rfl
  · rw [hbl, if_neg (m1_ne (by omega))]
    refine ⟨1, c, m, ?_, ?_, ⟨hK, hk1, s1, hZ, w1, n1, e1, f1, b1, b2, b3, hBk, hRc, h1, t1, hF, hT, hL, hI, hD, hPn, hS, B1, B2, B3⟩, Or.inl ⟨rfl, b, hb, hbl⟩, ⟨fun _ _ => rfl, fun _ _ _ _ => rfl, rfl⟩, fun _ _ _ _ => rfl, rfl, fun _ _ => rfl, fun _ => ⟨rfl, rfl, rfl⟩⟩
    · unfold pf_X6_giveBlock_b23
      rw [bI_n hp (by decide), cl_n (by omega), b1, hbl, if_neg (m1_ne (by omega))]
    · obtain ⟨N', rfl⟩ : ∃ k, N = k + 1 := ⟨N - 1, by omega⟩
      rw [pf_X7_hasBlock_L2, hk1.2.2, show (0 : Int32) = nI 0 from rfl, if_n (by omega) (by omega), if_neg (by omega), bI_n hp (by decide), cl_n (by omega), hbl, if_neg (m1_ne (by omega))]
      unfold pf_X7_hasBlock_b49 pf_X7_hasBlock_b66
      simp only [bI_n hp (show 3072 < 2 ^ 31 by decide), cl_n (show p < 2 ^ 31 by omega)]
      rw [hbl, if_neg (m1_ne (by omega)), if_neg (m1_ne (by omega))]
