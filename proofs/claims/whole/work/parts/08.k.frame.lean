/-! PURE PART: a frame for a page -/
theorem x_lf_L {N nf nb f : Nat} {σ : St} (hk : σ.1 5 = nI nf) (hnf : nf ≤ 64) (hf : f < nf) (h0 : σ.2.1 17 f = -1) (hl : ∀ j, j < f → ¬ σ.2.1 17 j = -1) : ∀ (d k n : Nat), k + d = f → d < n → pf_X2_leastFree_L2 N nf nb σ n (nI k) = some (nI f) := by
  intro d
  induction d with
  | zero =>
    intro k n hkk hd
    obtain ⟨n, rfl⟩ : ∃ m, n = m + 1 := ⟨n - 1, by omega⟩
    have : k = f := by omega
    subst this
    rw [pf_X2_leastFree_L2, hk, if_n (by omega) (by omega), if_neg (by omega), bI_n hf (by omega), cl_n (by omega), if_pos h0]
  | succ d ih =>
    intro k n hkk hd
    obtain ⟨n, rfl⟩ : ∃ m, n = m + 1 := ⟨n - 1, by omega⟩
    rw [pf_X2_leastFree_L2, hk, if_n (by omega) (by omega), if_neg (by omega), bI_n (by omega) (by omega), cl_n (by omega), if_neg (hl k (by omega)), nI_1]
    exact ih (k + 1) n (by omega) (by omega)
theorem x_lfn_L {N nf nb : Nat} {σ : St} (hk : σ.1 5 = nI nf) (hnf : nf ≤ 64) (hl : ∀ j, j < nf → ¬ σ.2.1 17 j = -1) : ∀ (d k n : Nat), k + d = nf → d < n → pf_X2_leastFree_L2 N nf nb σ n (nI k) = some (-1) := by
  intro d
  induction d with
  | zero =>
    intro k n hkk hd
    obtain ⟨n, rfl⟩ : ∃ m, n = m + 1 := ⟨n - 1, by omega⟩
    rw [pf_X2_leastFree_L2, hk, if_n (by omega) (by omega), if_pos (by omega)]
  | succ d ih =>
    intro k n hkk hd
    obtain ⟨n, rfl⟩ : ∃ m, n = m + 1 := ⟨n - 1, by omega⟩
    rw [pf_X2_leastFree_L2, hk, if_n (by omega) (by omega), if_neg (by omega), bI_n (by omega) (by omega), cl_n (by omega), if_neg (hl k (by omega)), nI_1]
    exact ih (k + 1) n (by omega) (by omega)
theorem m_fr_L {N nf f : Nat} {σ : St} (hk : σ.1 0 = nI nf) (hnf : nf ≤ 64) (hf : f < nf) (h0 : σ.2.1 14 f = 0) (hl : ∀ j, j < f → ¬ σ.2.1 14 j = 0) : ∀ (d k n : Nat), k + d = f → d < n → pf_X7_frame_L2 N n (nI k) σ = some (nI f, σ) := by
  intro d
  induction d with
  | zero =>
    intro k n hkk hd
    obtain ⟨n, rfl⟩ : ∃ m, n = m + 1 := ⟨n - 1, by omega⟩
    have : k = f := by omega
    subst this
    rw [pf_X7_frame_L2, hk, if_n (by omega) (by omega), if_neg (by omega), bI_n (by omega) (by decide), cl_n (by omega), if_pos h0]
  | succ d ih =>
    intro k n hkk hd
    obtain ⟨n, rfl⟩ : ∃ m, n = m + 1 := ⟨n - 1, by omega⟩
    rw [pf_X7_frame_L2, hk, if_n (by omega) (by omega), if_neg (by omega), bI_n (by omega) (by decide), cl_n (by omega), if_neg (hl k (by omega)), nI_1]
    exact ih (k + 1) n (by omega) (by omega)
theorem m_frn_L {N nf : Nat} {σ : St} (hk : σ.1 0 = nI nf) (hnf : nf ≤ 64) (hl : ∀ j, j < nf → ¬ σ.2.1 14 j = 0) : ∀ (d k n : Nat), k + d = nf → d < n → pf_X7_frame_L2 N n (nI k) σ = pf_X7_frame_L27 N N σ := by
  intro d
  induction d with
  | zero =>
    intro k n hkk hd
    obtain ⟨n, rfl⟩ : ∃ m, n = m + 1 := ⟨n - 1, by omega⟩
    rw [pf_X7_frame_L2, hk, if_n (by omega) (by omega), if_pos (by omega)]
  | succ d ih =>
    intro k n hkk hd
    obtain ⟨n, rfl⟩ : ∃ m, n = m + 1 := ⟨n - 1, by omega⟩
    rw [pf_X7_frame_L2, hk, if_n (by omega) (by omega), if_neg (by omega), bI_n (by omega) (by decide), cl_n (by omega), if_neg (hl k (by omega)), nI_1]
    exact ih (k + 1) n (by omega) (by omega)
theorem RF.used {nf : Nat} {sp si re pi ac fo ms mr mp ma us : Nat → Int32} (h : RF nf sp si re pi ac fo ms mr mp ma us) {f : Nat} (hf : f < nf) : us f = 0 ↔ sp f = -1 := by
  rcases h.2.1 f hf with ⟨a, -, -, -, -, b⟩ | ⟨p, hp, a, -, b⟩
  · exact ⟨fun _ => a, fun _ => b⟩
  · rw [a, b]
    exact ⟨fun q => absurd q z1_ne, fun q => absurd q (m1_ne (by omega))⟩
theorem op_frame {hd : HDp} {N nf nb ev tm dc rr : Nat} {LA LI LS : List (Nat × Nat)} {c m : St} (R : Rel hd nf nb LA LI LS ev tm dc rr c m) (hN : 5000 ≤ N) (hev : ev + 1 < 2 ^ 30) (hphi : rr + dc ≤ 255) (x : Int32) :
    (∃ f c' m' LA' LI' LS' ev' dc' rr', f < nf ∧ c'.2.1 17 f = -1 ∧ Rel hd nf nb LA' LI' LS' ev' tm dc' rr' c' m' ∧ ev' ≤ ev + 1 ∧ rr' + dc' ≤ rr + dc ∧ pf_X6_bringIn N nf nb x c = pf_X6_bringIn_b51 N nf nb x (nI f) c' ∧ pf_X7_frame N m = some (nI f, m') ∧ (∀ q, m.2.1 5 q = -1 → m'.2.1 5 q = -1) ∧ c'.2.2 34 = c.2.2 34) ∨
    (∃ c' m' LA' LI' dc' rr', Rel hd nf nb LA' LI' LS ev tm dc' rr' c' m' ∧ rr' + dc' ≤ rr + dc ∧ pf_X6_bringIn N nf nb x c = some (-1, c') ∧ pf_X7_frame N m = some (-1, m') ∧ m'.2.1 5 = m.2.1 5 ∧ c'.2.2 34 = c.2.2 34) := by
  have hk1 := R.2.1
  have hnf := R.1.2.1
  have hF := R.F
  have hL := R.L
  have hlen := hL.len
  unfold pf_X6_bringIn pf_X2_leastFree pf_X7_frame
  rw [show (0 : Int32) = nI 0 from rfl]
  rcases least_ex (P := fun f => c.2.1 17 f = -1) nf with ⟨f, hf, h0, hl⟩ | hnone
  · refine Or.inl ⟨f, c, m, LA, LI, LS, ev, dc, rr, hf, h0, R, by omega, Nat.le_refl _, ?_, ?_, fun q h => h, rfl⟩
    · rw [x_lf_L hk1.1 hnf hf h0 hl f 0 N (by omega) (by omega), Option.bind_some, if_neg (m1_ne (by omega))]
    · exact m_fr_L hk1.2.1 hnf hf ((hF.used hf).mpr h0) (fun j hj q => hl j hj ((hF.used (by omega)).mp q)) f 0 N (by omega) (by omega)
  · rw [x_lfn_L hk1.1 hnf hnone nf 0 N (by omega) (by omega), Option.bind_some, if_pos rfl, m_frn_L hk1.2.1 hnf (fun j hj q => hnone j hj ((hF.used hj).mp q)) nf 0 N (by omega) (by omega)]
    have hr := rcn_le (c.2.1 19) LA
    obtain ⟨c1, m1, LA1, LI1, x1, x2, R1, x3, x4, x5⟩ := op_balance hN (2 * nf) LA LI c m 0 N N R (by omega) (by omega) (by omega) (by omega)
    unfold pf_X2_balance pf_X6_lookAtInactive
    rw [show (0 : Int32) = nI 0 from rfl, x1, x2, Option.bind_some]
    obtain ⟨c2, m2, LA2, LI2, dc2, rr2, R2, y1, y2, y3, y7, y4⟩ := op_lookI hN (2 * nf) LA1 LI1 dc rr c1 m1 0 N N R1 (by omega) (by omega) (by omega) hphi
    have ev_fin : ∀ (LA3 LI3 : List (Nat × Nat)) (dc3 rr3 : Nat) (c3 m3 : St) (f p : Nat), Rel hd nf nb LA3 LI3 LS ev tm dc3 rr3 c3 m3 → rr3 + dc3 ≤ rr + dc → m3.2.1 5 = m.2.1 5 → c3.2.2 34 = c.2.2 34 → f < nf → p < 3072 → c3.2.1 17 f = nI p → c3.2.1 18 f = -1 →
        ∃ c' m' LA' LI' LS' dc', c'.2.1 17 f = -1 ∧ Rel hd nf nb LA' LI' LS' (ev + 1) tm dc' rr3 c' m' ∧ rr3 + dc' ≤ rr + dc ∧ pf_X6_bringIn_b38 N nf nb x (nI f) c3 = pf_X6_bringIn_b51 N nf nb x (nI f) c' ∧ pf_X7_frame_b172 N (nI p) m3 = some (nI f, m') ∧ pf_X7_frame_b235 N (nI p) m3 = some (nI f, m') ∧ (∀ q, m.2.1 5 q = -1 → m'.2.1 5 q = -1) ∧ c'.2.2 34 = c.2.2 34 := by
      intro LA3 LI3 dc3 rr3 c3 m3 f p R3 hp3 h53 h34 hf hp hsp h18
      have hmf := R3.mof hf hp hsp
      obtain ⟨c', m', LA', LI', LS', dc', z1, z2, R', z3, z4, z5, z6, z7, z8⟩ := op_evict R3 hN hev hf hp hsp
      rw [if_pos h18] at z3
      refine ⟨c', m', LA', LI', LS', dc', by rw [z4, us_], R', by omega, ?_, ?_, ?_, ?_, (congrFun z8 34).trans h34⟩
      · unfold pf_X6_bringIn_b38
        rw [if_neg (m1_ne (by omega)), z1, Option.bind_some]
      · unfold pf_X7_frame_b172
        simp only [lt_]
        rw [bI_n hp (by decide), cl_n (by omega), hmf.1, z2, Option.bind_some]
      · unfold pf_X7_frame_b235
        simp only [lt_]
        rw [bI_n hp (by decide), cl_n (by omega), hmf.1, z2, Option.bind_some]
      · intro q hq
        rw [z5]
        by_cases e : q = p
        · subst e; rw [us_]
        · rw [un e, h53]; exact hq
    rcases y4 with ⟨f, p, hf, hp, hsp, h18, y5, y6⟩ | ⟨y5, y6⟩
    · obtain ⟨c', m', LA', LI', LS', dc', w1, R', w2, w3, w4, w5, w6, w7⟩ := ev_fin LA2 LI2 dc2 rr2 c2 m2 f p R2 y1 (y3.trans x4) (y7.trans (congrFun x5 34)) hf hp hsp h18
      have y6 : pf_X7_frame_L75 N N 0 m1 = _ := y6
      rw [y5, y6, Option.bind_some]
      simp only []
      rw [if_neg (m1_ne (by omega)), w3, w4]
      exact Or.inl ⟨f, c', m', LA', LI', LS', ev + 1, dc', rr2, hf, w1, R', Nat.le_refl _, w2, rfl, rfl, w6, w7⟩
    · have y6 : pf_X7_frame_L75 N N 0 m1 = _ := y6
      rw [y5, y6, Option.bind_some]
      simp only []
      rw [if_pos trivial]
      unfold pf_X6_lookAtActive pf_X7_frame_b192
      simp only [lt_]
      have hL2 := R2.L
      have hlen2 := hL2.len
      rw [hL2.1.1, hL2.2.2.1.1, List.length_map, List.length_map]
      obtain ⟨c3, m3, dc3, rr3, R3, v1, v2, v3, v7, v4⟩ := op_lookA hN LA2.length dc2 rr2 c2 m2 N N R2 (Nat.le_refl _) (by omega) (by omega) (by omega)
      rcases v4 with ⟨f, p, hf, hp, hsp, h18, v5, v6⟩ | ⟨v5, v6⟩
      · obtain ⟨c', m', LA', LI', LS', dc', w1, R', w2, w3, w4, w5, w6, w7⟩ := ev_fin LA2 LI2 dc3 rr3 c3 m3 f p R3 (by omega) (v3.trans (y3.trans x4)) (v7.trans (y7.trans (congrFun x5 34))) hf hp hsp h18
        rw [v5, v6, Option.bind_some]
        simp only []
        rw [w3, w5]
        exact Or.inl ⟨f, c', m', LA', LI', LS', ev + 1, dc', rr3, hf, w1, R', Nat.le_refl _, w2, rfl, rfl, w6, w7⟩
      · rw [v5, v6, Option.bind_some]
        simp only []
        refine Or.inr ⟨c3, m3, LA2, LI2, dc3, rr3, R3, by omega, ?_, rfl, v3.trans (y3.trans x4), v7.trans (y7.trans (congrFun x5 34))⟩
        unfold pf_X6_bringIn_b38
        rw [if_pos rfl]
