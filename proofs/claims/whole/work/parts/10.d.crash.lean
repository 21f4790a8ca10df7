/-! PURE PART: the calls: crash -/
section K4
variable {hd : HDp} {N nf nb ev tm dc rr : Nat} {LA LI LS : List (Nat × Nat)} {c m : St}
theorem cnt_none {P : Nat → Bool} : ∀ {n : Nat}, (∀ j, j < n → P j = false) → cnt P n = 0
  | 0, _ => rfl
  | n + 1, h => by
    have h1 := cnt_none (P := P) (n := n) (fun j hj => h j (by omega))
    unfold cnt
    rw [h1, h n (by omega)]; rfl
theorem no_mem {L : List (Nat × Nat)} (h : ∀ f p, (f, p) ∉ L) : L = [] := by
  cases L with
  | nil => rfl
  | cons a l => exact absurd List.mem_cons_self (h a.1 a.2)
theorem leave_m1 {f : Nat} (hk : c.1 5 = nI nf) (hnf : nf ≤ 64) (hf : f < nf) (hsp : c.2.1 17 f = -1) : pf_X2_leave N nf nb (nI f) c = some c := by
  unfold pf_X2_leave pf_X2_spotIn
  rw [if_neg (nI_pos (by omega)), hk, il_n (by omega) (by omega), if_pos hf, bI_n hf (by omega), cl_n (by omega), Option.bind_some, hsp, if_pos rfl]
/-- what the class's side keeps while all frames are left -/
def KcC (c c' : St) : Prop := (∀ j, j ≠ 6 → j ≠ 7 → j ≠ 8 → j ≠ 9 → c'.1 j = c.1 j) ∧ (∀ j, j ≠ 17 → j ≠ 18 → j ≠ 19 → j ≠ 20 → j ≠ 21 → j ≠ 22 → j ≠ 24 → j ≠ 26 → c'.2.1 j = c.2.1 j) ∧ c'.2.2 = c.2.2
theorem crashC_L {x : Int32} (hN : 5000 ≤ N) : ∀ (d k n dc : Nat) (LA LI : List (Nat × Nat)) (c m : St), Rel hd nf nb LA LI LS ev tm dc rr c m → k + d = nf → d < n → (∀ j, j < k → c.2.1 17 j = -1) → ∃ n' c' m' LA' LI' dc', pf_X6_crash_L10 N nf nb n x (nI k) c = pf_X6_crash_L10 N nf nb (n' + 1) x (nI nf) c' ∧ Rel hd nf nb LA' LI' LS ev tm dc' rr c' m' ∧ (∀ j, j < nf → c'.2.1 17 j = -1) ∧ KcC c c' ∧ (∀ j, 3072 ≤ j → c'.2.1 22 j = c.2.1 22 j) := by
  intro d
  induction d with
  | zero =>
    intro k n dc LA LI c m R hk hn hA
    obtain ⟨n, rfl⟩ : ∃ j, n = j + 1 := ⟨n - 1, by omega⟩
    obtain rfl : k = nf := by omega
    exact ⟨n, c, m, LA, LI, dc, rfl, R, hA, ⟨fun _ _ _ _ _ => rfl, fun _ _ _ _ _ _ _ _ _ => rfl, rfl⟩, fun _ _ => rfl⟩
  | succ d ih =>
    intro k n dc LA LI c m R hk hn hA
    obtain ⟨n, rfl⟩ : ∃ j, n = j + 1 := ⟨n - 1, by omega⟩
    have hnf := R.1.2.1
    have hk1 := R.2.1.1
    have hf : k < nf := by omega
    rw [pf_X6_crash_L10, hk1, if_n (by omega) (by omega), if_neg (by omega), nI_1]
    rcases R.F.2.1 k hf with ⟨h, -⟩ | ⟨p, hp, g1, -⟩
    · rw [leave_m1 hk1 hnf hf h, Option.bind_some]
      exact ih (k + 1) n dc LA LI c m R (by omega) (by omega) (fun j hj => by
        by_cases e : j = k
        · subst e; exact h
        · exact hA j (by omega))
    · obtain ⟨c1, m1, LA1, LI1, dc1, x1, x2, R1, x3, x4, x5, x6, x7, x8, x9⟩ := op_leave R hN hf hp g1
      rw [x1, Option.bind_some]
      obtain ⟨n', c', m', LA', LI', dc', y1, y2, y3, y4, y5⟩ := ih (k + 1) n dc1 LA1 LI1 c1 m1 R1 (by omega) (by omega) (fun j hj => by
        rw [x4]
        by_cases e : j = k
        · subst e; exact us_
        · rw [un e]; exact hA j (by omega))
      refine ⟨n', c', m', LA', LI', dc', y1, y2, y3, ⟨fun j a1 a2 a3 a4 => (y4.1 j a1 a2 a3 a4).trans (x9.1 j a1 a2 a3 a4), fun j a1 a2 a3 a4 a5 a6 a7 a8 => (y4.2.1 j a1 a2 a3 a4 a5 a6 a7 a8).trans (x9.2.1 j a1 a2 a3 a4 a5 a6 a7 a8), y4.2.2.trans x8⟩, fun j hj => ?_⟩
      rw [y5 j hj, R1.fo, R.fo, x5, un (by omega)]
def KcM (m m' : St) : Prop := (∀ j, j ≠ 2 → j ≠ 3 → j ≠ 7 → m'.1 j = m.1 j) ∧ (∀ j, j ≠ 5 → j ≠ 7 → j ≠ 8 → j ≠ 9 → j ≠ 10 → j ≠ 11 → j ≠ 12 → j ≠ 13 → j ≠ 14 → m'.2.1 j = m.2.1 j) ∧ m'.2.2 = m.2.2
theorem crashM_L {x : Int32} (hN : 5000 ≤ N) : ∀ (d k n dc : Nat) (LA LI LS : List (Nat × Nat)) (c m : St), Rel hd nf nb LA LI LS ev tm dc rr c m → k + d = 3072 → d < n → (∀ j, j < k → m.2.1 5 j = -1 ∧ m.2.1 8 j = 0) → ∃ n' c' m' LA' LI' LS' dc', pf_X7_crash_L7 N n x (nI k) m = pf_X7_crash_L7 N (n' + 1) x (nI 3072) m' ∧ Rel hd nf nb LA' LI' LS' ev tm dc' rr c' m' ∧ (∀ j, j < 3072 → m'.2.1 5 j = -1 ∧ m'.2.1 8 j = 0) ∧ KcM m m' ∧ (∀ j, 3072 ≤ j → m'.2.1 5 j = m.2.1 5 j) := by
  intro d
  induction d with
  | zero =>
    intro k n dc LA LI LS c m R hk hn hA
    obtain ⟨n, rfl⟩ : ∃ j, n = j + 1 := ⟨n - 1, by omega⟩
    obtain rfl : k = 3072 := by omega
    exact ⟨n, c, m, LA, LI, LS, dc, rfl, R, hA, ⟨fun _ _ _ _ => rfl, fun _ _ _ _ _ _ _ _ _ _ => rfl, rfl⟩, fun _ _ => rfl⟩
  | succ d ih =>
    intro k n dc LA LI LS c m R hk hn hA
    obtain ⟨n, rfl⟩ : ∃ j, n = j + 1 := ⟨n - 1, by omega⟩
    have hp : k < 3072 := by omega
    have hnf := R.1.2.1
    -- behind going out
    have tail : ∀ (LA LI : List (Nat × Nat)) (dc : Nat) (c m0 : St), Rel hd nf nb LA LI LS ev tm dc rr c m0 → m0.2.1 5 k = -1 → (∀ j, j ≠ k → m0.2.1 5 j = m.2.1 5 j) → m0.2.1 8 = m.2.1 8 → KcM m m0 → ∃ n' c' m' LA' LI' LS' dc', pf_X7_crash_b27 N (pf_X7_crash_L7 N n) x (nI k) m0 = pf_X7_crash_L7 N (n' + 1) x (nI 3072) m' ∧ Rel hd nf nb LA' LI' LS' ev tm dc' rr c' m' ∧ (∀ j, j < 3072 → m'.2.1 5 j = -1 ∧ m'.2.1 8 j = 0) ∧ KcM m m' ∧ (∀ j, 3072 ≤ j → m'.2.1 5 j = m.2.1 5 j) := by
      intro LA LI dc c m0 R hfo hfo2 h8 hKM
      obtain ⟨hK, hk1, s1, hZ, w1, n1, e1, f1, b1, b2, b3, hBk, hRc, h1, t1, hF, hT, hL, hI, hD, hPn, hS, B1, B2, B3⟩ := R
      obtain ⟨g, nn, LS', z1, z2, z3, z4, z5, z6⟩ := op_forget (N := N) (nb := nb) (c := c) (m := m0) (fo := m0.2.1 5) hN hK.2.1 hK.2.2.2.2.1 hS hp
      unfold pf_X7_crash_b27
      rw [z2, Option.bind_some, nI_1]
      obtain ⟨n', c', m', LA', LI', LS'', dc', y1, y2, y3, y4, y5⟩ := ih (k + 1) n dc LA LI LS' (sG (sA (sA c 28 (upd (c.2.1 28) k (-1))) 29 g) 10 nn) (sA (sG m0 7 nn) 8 (upd (m0.2.1 8) k 0)) ⟨hK, hk1, s1, hZ, w1, n1, e1, f1, b1, b2, b3, hBk, hRc, h1, t1, hF, hT, hL, hI, hD, hPn, z3, B1, B2, B3⟩ (by omega) (by omega) (fun j hj => by
        show m0.2.1 5 j = -1 ∧ upd (m0.2.1 8) k 0 j = 0
        by_cases e : j = k
        · subst e; exact ⟨hfo, us_⟩
        · rw [un e, hfo2 j e, h8]; exact hA j (by omega))
      refine ⟨n', c', m', LA', LI', LS'', dc', y1, y2, y3, ⟨fun j a1 a2 a3 => ?_, fun j a1 a2 a3 a4 a5 a6 a7 a8 a9 => ?_, y4.2.2.trans hKM.2.2⟩, fun j hj => ?_⟩
      · rw [y4.1 j a1 a2 a3]
        show (if j = 7 then _ else m0.1 j) = _
        rw [if_neg a3, hKM.1 j a1 a2 a3]
      · rw [y4.2.1 j a1 a2 a3 a4 a5 a6 a7 a8 a9]
        show (if j = 8 then _ else m0.2.1 j) = _
        rw [if_neg a3, hKM.2.1 j a1 a2 a3 a4 a5 a6 a7 a8 a9]
      · rw [y5 j hj]; exact hfo2 j (by omega)
    rw [pf_X7_crash_L7, show (3072 : Int32) = nI 3072 from rfl, if_n (by omega) (by omega), if_neg (by omega)]
    rcases R.io hp with h | ⟨f, hf, g1, g2⟩
    · rw [isIn_n hp (Or.inl h), h, if_pos rfl, Option.bind_some, if_pos rfl]
      exact tail LA LI dc c m R h (fun _ _ => rfl) rfl ⟨fun _ _ _ _ => rfl, fun _ _ _ _ _ _ _ _ _ _ => rfl, rfl⟩
    · rw [isIn_n hp (Or.inr ⟨f, by omega, g1⟩), g1, if_neg (m1_ne (by omega)), Option.bind_some, if_neg z1_ne]
      obtain ⟨c1, m1, LA1, LI1, dc1, x1, x2, R1, x3, x4, x5, x6, x7, x8, x9⟩ := op_leave R hN hf hp g2
      rw [x2, Option.bind_some]
      exact tail LA1 LI1 dc1 c1 m1 R1 (by rw [x5, us_]) (fun j hj => by rw [x5, un hj]) (x9.2.2.2.1 8 (by decide) (by decide) (by decide) (by decide) (by decide) (by decide) (by decide) (by decide)) ⟨fun j a1 a2 _ => x9.2.2.1 j a1 a2, fun j a1 a2 a3 a4 a5 a6 a7 a8 a9 => x9.2.2.2.1 j a1 a2 a4 a5 a6 a7 a8 a9, x9.2.2.2.2⟩
theorem crashM_E {x : Int32} : ∀ (d k n : Nat) (w v e : Nat → Int32) (m : St), k + d = 12 → d < n → pf_X7_crash_L40 N n x (nI k) (sA (sA (sA m 2 w) 3 v) 4 e) = some (x, sG (sA (sA (sA m 2 (fun j => if k ≤ j ∧ j < 12 then 1 else w j)) 3 (fun j => if k ≤ j ∧ j < 12 then 0 else v j)) 4 (fun j => if k ≤ j ∧ j < 12 then 0 else e j)) 4 0) := by
  intro d
  induction d with
  | zero =>
    intro k n w v e m hk hn
    obtain ⟨n, rfl⟩ : ∃ j, n = j + 1 := ⟨n - 1, by omega⟩
    obtain rfl : k = 12 := by omega
    have hz : ∀ (y : Int32) (w : Nat → Int32), (fun j => if 12 ≤ j ∧ j < 12 then y else w j) = w := fun y w => by funext j; rw [if_neg (by omega)]
    rw [pf_X7_crash_L40, show (12 : Int32) = nI 12 from rfl, if_pos (Int32.le_refl _), hz, hz, hz]
    rfl
  | succ d ih =>
    intro k n w v e m hk hn
    obtain ⟨n, rfl⟩ : ∃ j, n = j + 1 := ⟨n - 1, by omega⟩
    rw [pf_X7_crash_L40, show (12 : Int32) = nI 12 from rfl, if_n (by omega) (by omega), if_neg (by omega)]
    simp only [lt_, bI_n (show k < 12 by omega) (show 12 < 2 ^ 31 by decide), cl_n (show k < 2 ^ 31 by omega), nI_1]
    have h1 := ih (k + 1) n (upd w k 1) (upd v k 0) (upd e k 0) m (by omega) (by omega)
    have hz : ∀ (y : Int32) (w : Nat → Int32), (fun j => if k + 1 ≤ j ∧ j < 12 then y else upd w k y j) = (fun j => if k ≤ j ∧ j < 12 then y else w j) := fun y w => by
      funext j
      by_cases e : j = k
      · subst e; rw [if_neg (by omega), if_pos (by omega), us_]
      · rw [un e]
        by_cases e2 : k + 1 ≤ j ∧ j < 12
        · rw [if_pos e2, if_pos (by omega)]
        · rw [if_neg e2, if_neg (by omega)]
    rw [hz, hz, hz] at h1
    rw [← h1]
    congr 1
    have hs : ∀ (a b : St), a.1 = b.1 → a.2.1 = b.2.1 → a.2.2 = b.2.2 → a = b := fun a b h1 h2 h3 => by
      rcases a with ⟨a1, a2, a3⟩; rcases b with ⟨b1, b2, b3⟩; simp only at h1 h2 h3; subst h1 h2 h3; rfl
    refine hs _ _ rfl ?_ rfl
    funext j
    show (if j = 4 then _ else if j = 3 then _ else if j = 2 then _ else if j = 4 then _ else if j = 3 then _ else if j = 2 then _ else m.2.1 j) = (if j = 4 then _ else if j = 3 then _ else if j = 2 then _ else m.2.1 j)
    by_cases h4 : j = 4
    · subst h4; rfl
    by_cases h3 : j = 3
    · subst h3; rfl
    by_cases h2 : j = 2
    · subst h2; rfl
    simp only [if_neg h4, if_neg h3, if_neg h2]
theorem sA3_self (m : St) : sA (sA (sA m 2 (m.2.1 2)) 3 (m.2.1 3)) 4 (m.2.1 4) = m := by
  rw [sA_self, sA_self, sA_self]
theorem q_crash {k : Nat} (R : R3 nf nb k c m) (hN : 5000 ≤ N) : ∃ r c' m', pf_X6_crash N nf nb c = some (r, c') ∧ pf_X7_crash N m = some (r, m') ∧ R3 nf nb (k + 1) c' m' := by
  obtain ⟨LA, LI, LS, ev, tm, dc, rr, R, hev, htm⟩ := R
  have hnf := R.1.2.1
  unfold pf_X6_crash pf_X7_crash
  rw [m_dirties R hN, Option.bind_some, R.D.1]
  obtain ⟨n1, c1, g1, A1, I1, d1, x1, RC, x3, x4, x5⟩ := crashC_L (x := nI dc) hN nf 0 N dc LA LI c m R (by omega) (by omega) (fun j hj => by omega)
  obtain ⟨n2, g2, m1, A2, I2, S2, d2, y1, RM, y3, y4, y5⟩ := crashM_L (x := nI dc) hN 3072 0 N dc LA LI LS c m R (by omega) (by omega) (fun j hj => by omega)
  rw [show (0 : Int32) = nI 0 from rfl, x1, y1, pf_X6_crash_L10, pf_X7_crash_L7, show (3072 : Int32) = nI 3072 from rfl, if_pos (Int32.le_refl _), RC.2.1.1, if_pos (Int32.le_refl _)]
  unfold pf_X4_forgetAll pf_X1_reset
  have hE := crashM_E (N := N) (x := nI dc) 12 0 N (m1.2.1 2) (m1.2.1 3) (m1.2.1 4) m1 (by omega) (by omega)
  rw [sA3_self] at hE
  rw [show (0 : Int32) = nI 0 from rfl, hE, j_fill (by decide) (by omega)]
  simp only [lt_, Option.bind_some]
  rw [j_fill (by decide) (by omega), Option.bind_some, j_fill (by decide) (by omega), Option.bind_some, j_fill (by decide) (by omega), Option.bind_some]
  simp only [Option.bind_some]
  refine ⟨_, _, _, rfl, rfl, R3.of (LA := []) (LI := []) (LS := []) (ev := ev) (tm := tm) (dc := 0) (rr := rr) ?_ (by omega) (by omega)⟩
  -- what each side's end is
  have fC : ∀ f, f < nf → c1.2.1 17 f = -1 ∧ c1.2.1 18 f = -1 ∧ c1.2.1 19 f = 0 ∧ c1.2.1 20 f = 0 ∧ c1.2.1 21 f = 0 := fun f hf => by
    rcases RC.F.2.1 f hf with ⟨a1, a2, a3, a4, a5, -⟩ | ⟨p, hp, e, -⟩
    · exact ⟨a1, a2, a3, a4, a5⟩
    · exact absurd ((x3 f hf).symm.trans e).symm (m1_ne (by omega))
  have fM : ∀ p, p < 3072 → m1.2.1 5 p = -1 ∧ m1.2.1 7 p = -1 ∧ m1.2.1 9 p = 0 ∧ m1.2.1 10 p = 0 ∧ m1.2.1 11 p = 0 := fun p hp => by
    rcases RM.F.1 p hp with ⟨a1, a2, a3, a4, a5⟩ | ⟨f, hf, e, -⟩
    · exact ⟨a1, a2, a3, a4, a5⟩
    · exact absurd ((y3 p hp).1.symm.trans e).symm (m1_ne (by omega))
  have uM : ∀ f, f < nf → g2.2.1 17 f = -1 ∧ m1.2.1 14 f = 0 := fun f hf => by
    rcases RM.F.2.1 f hf with ⟨a1, a2, a3, a4, a5, a6⟩ | ⟨p, hp, -, e, -⟩
    · exact ⟨a1, a6⟩
    · exact absurd ((y3 p hp).1.symm.trans e).symm (m1_ne (by omega))
  have eA1 : A1 = [] := no_mem (fun f p h => by
    have := (RC.L.2.2.2.2.2.2.1 f p).mp h
    exact absurd ((x3 f this.1).symm.trans this.2.2.1).symm (m1_ne (by omega)))
  have eI1 : I1 = [] := no_mem (fun f p h => by
    have := (RC.L.2.2.2.2.2.2.2 f p).mp h
    exact absurd ((x3 f this.1).symm.trans this.2.2.1).symm (m1_ne (by omega)))
  have eA2 : A2 = [] := no_mem (fun f p h => by
    have := (RM.L.2.2.2.2.2.2.1 f p).mp h
    exact absurd ((uM f this.1).1.symm.trans this.2.2.1).symm (m1_ne (by omega)))
  have eI2 : I2 = [] := no_mem (fun f p h => by
    have := (RM.L.2.2.2.2.2.2.2 f p).mp h
    exact absurd ((uM f this.1).1.symm.trans this.2.2.1).symm (m1_ne (by omega)))
  have eS2 : S2 = [] := no_mem (fun p v h => by
    have := RM.S.2.2.2.2.2.2.2.1 p v h
    have hev2 := RM.1.2.2.2.2.1
    exact absurd (this.2.2.2.2.1.symm.trans (y3 p this.1).2) (nI_ne0 this.2.1 (by omega)))
  subst eA1 eI1 eA2 eI2 eS2
  have LC := RC.L
  have LM := RM.L
  have SM := RM.S
  have DC := RC.D
  have PC := RC.P
  have hB : c1.2.2 = c.2.2 := x4.2.2
  obtain ⟨hK, hk1, s1, hZ, w1, n1', e1, f1, b1, b2, b3, hBk, hRc, h1, t1, hF, hT, hL, hI, hD, hPn, hS, B1, B2, B3⟩ := R
  have cg : ∀ j, j ≠ 6 → j ≠ 7 → j ≠ 8 → j ≠ 9 → c1.1 j = c.1 j := x4.1
  have ca : ∀ j, j ≠ 17 → j ≠ 18 → j ≠ 19 → j ≠ 20 → j ≠ 21 → j ≠ 22 → j ≠ 24 → j ≠ 26 → c1.2.1 j = c.2.1 j := x4.2.1
  have mg : ∀ j, j ≠ 2 → j ≠ 3 → j ≠ 7 → m1.1 j = m.1 j := y4.1
  have ma : ∀ j, j ≠ 5 → j ≠ 7 → j ≠ 8 → j ≠ 9 → j ≠ 10 → j ≠ 11 → j ≠ 12 → j ≠ 13 → j ≠ 14 → m1.2.1 j = m.2.1 j := y4.2.1
  have c_10 : c1.2.1 10 = c.2.1 10 := ca 10 (by decide) (by decide) (by decide) (by decide) (by decide) (by decide) (by decide) (by decide)
  have c_11 : c1.2.1 11 = c.2.1 11 := ca 11 (by decide) (by decide) (by decide) (by decide) (by decide) (by decide) (by decide) (by decide)
  have c_12 : c1.2.1 12 = c.2.1 12 := ca 12 (by decide) (by decide) (by decide) (by decide) (by decide) (by decide) (by decide) (by decide)
  have c_13 : c1.2.1 13 = c.2.1 13 := ca 13 (by decide) (by decide) (by decide) (by decide) (by decide) (by decide) (by decide) (by decide)
  have c_30 : c1.2.1 30 = c.2.1 30 := ca 30 (by decide) (by decide) (by decide) (by decide) (by decide) (by decide) (by decide) (by decide)
  have c_5 : c1.2.1 5 = c.2.1 5 := ca 5 (by decide) (by decide) (by decide) (by decide) (by decide) (by decide) (by decide) (by decide)
  have c_4 : c1.2.1 4 = c.2.1 4 := ca 4 (by decide) (by decide) (by decide) (by decide) (by decide) (by decide) (by decide) (by decide)
  have c_6 : c1.2.1 6 = c.2.1 6 := ca 6 (by decide) (by decide) (by decide) (by decide) (by decide) (by decide) (by decide) (by decide)
  have c_7 : c1.2.1 7 = c.2.1 7 := ca 7 (by decide) (by decide) (by decide) (by decide) (by decide) (by decide) (by decide) (by decide)
  have c_8 : c1.2.1 8 = c.2.1 8 := ca 8 (by decide) (by decide) (by decide) (by decide) (by decide) (by decide) (by decide) (by decide)
  have mm : ∀ j, j ∈ [1, 2, 3, 4, 6, 15, 16, 17, 18, 19, 20, 21, 22] → m1.2.1 j = m.2.1 j := fun j hj => by
    refine ma j ?_ ?_ ?_ ?_ ?_ ?_ ?_ ?_ ?_ <;> rintro rfl <;> revert hj <;> decide
  have m_1 := mm 1 (by decide)
  have m_2 := mm 2 (by decide)
  have m_3 := mm 3 (by decide)
  have m_4 := mm 4 (by decide)
  have m_6 := mm 6 (by decide)
  have m_15 := mm 15 (by decide)
  have m_16 := mm 16 (by decide)
  have m_17 := mm 17 (by decide)
  have m_18 := mm 18 (by decide)
  have m_19 := mm 19 (by decide)
  have m_20 := mm 20 (by decide)
  have m_21 := mm 21 (by decide)
  have m_22 := mm 22 (by decide)
  have gm : ∀ j, j ∈ [0, 1, 5, 6, 8, 9, 10, 11] → m1.1 j = m.1 j := fun j hj => by
    refine mg j ?_ ?_ ?_ <;> rintro rfl <;> revert hj <;> decide
  have gc : ∀ j, j ∈ [0, 1, 2, 3, 4, 5, 11, 13] → c1.1 j = c.1 j := fun j hj => by
    refine cg j ?_ ?_ ?_ ?_ <;> rintro rfl <;> revert hj <;> decide
  have hz : ∀ (y : Int32) (w : Nat → Int32), (fun j => if 0 ≤ j ∧ j < 12 then y else w j) = (fun j => if j < 12 then y else w j) := fun y w => by
    funext j
    by_cases e : j < 12
    · rw [if_pos e, if_pos (by omega)]
    · rw [if_neg e, if_neg (by omega)]
  rw [hz, hz, hz]
  refine ⟨hK, ⟨?_, ?_, ?_⟩, ?_, ⟨?_, ?_⟩, ?_, ?_, ?_, ?_, ?_, ?_, ?_, ?_, ?_, ?_, ⟨?_, ?_⟩, ⟨?_, ?_, ?_⟩, ?_, ⟨LC.1, LC.2.1, LM.2.2.1, LM.2.2.2.1, LC.2.2.2.2.1, LC.2.2.2.2.2.1, ?_, ?_⟩, ?_, ⟨?_, ?_, ?_⟩, ⟨0, ?_, ?_, ?_⟩, ⟨?_, ?_, ?_, ?_, ?_, List.Pairwise.nil, List.Pairwise.nil, fun p v h => absurd h (by simp), fun p hp _ => ?_⟩, ?_, ?_, ?_⟩
  · exact (gc 5 (by decide)).trans hk1.1
  · exact (gm 0 (by decide)).trans hk1.2.1
  · exact (gm 1 (by decide)).trans hk1.2.2
  · show c1.2.1 10 = m1.2.1 1
    rw [c_10, m_1, s1]
  · show ∀ i, i < 12 → ∃ s, s ≤ 16384 ∧ m1.2.1 1 i = nI s
    rw [m_1]; exact hZ.1
  · intro i hi
    refine ⟨1, by decide, by decide, ?_⟩
    show (if i < 12 then (1 : Int32) else _) = nI 1
    rw [if_pos hi]; rfl
  · show (fun j => if j < 12 then (1 : Int32) else c1.2.1 11 j) = (fun j => if j < 12 then (1 : Int32) else m1.2.1 2 j)
    rw [c_11, m_2, w1]
  · show (fun j => if j < 12 then (0 : Int32) else c1.2.1 12 j) = (fun j => if j < 12 then (0 : Int32) else m1.2.1 3 j)
    have n2 : c.2.1 12 = m.2.1 3 := n1'
    rw [c_12, m_3, n2]
  · show (fun j => if j < 12 then (0 : Int32) else c1.2.1 13 j) = (fun j => if j < 12 then (0 : Int32) else m1.2.1 4 j)
    rw [c_13, m_4, e1]
  · show c1.2.1 22 = m1.2.1 5
    funext j
    by_cases hj : j < 3072
    · rw [(fM j hj).1]
      rcases RC.io hj with h | ⟨f, hf, -, e⟩
      · rw [RC.fo, h]
      · exact absurd ((x3 f hf).symm.trans e).symm (m1_ne (by omega))
    · rw [x5 j (by omega), y5 j (by omega), f1]
  · show c1.2.1 30 = m1.2.1 6
    rw [c_30, m_6, b1]
  · show c1.2.1 5 = m1.2.1 17
    rw [c_5, m_17, b2]
  · show c1.2.1 4 = m1.2.1 18
    rw [c_4, m_18, b3]
  · show RK nb (m1.2.1 6) (m1.2.1 17) (m1.2.1 18) (c1.1 0)
    rw [m_6, m_17, m_18, gc 0 (by decide)]; exact hBk
  · show RRec (c1.1 1) (c1.1 2) (c1.1 3) (c1.1 4) (m1.1 8) (m1.1 9) (m1.1 10) (m1.1 11) (c1.2.1 6) (c1.2.1 7) (c1.2.1 8) (m1.2.1 20) (m1.2.1 21) (m1.2.1 22) rr
    rw [gc 1 (by decide), gc 2 (by decide), gc 3 (by decide), gc 4 (by decide), gm 8 (by decide), gm 9 (by decide), gm 10 (by decide), gm 11 (by decide), c_6, c_7, c_8, m_20, m_21, m_22]; exact hRc
  · exact ⟨rfl, 0, by decide, rfl⟩
  · exact (gc 13 (by decide)).trans t1.1
  · exact (gm 5 (by decide)).trans t1.2
  · intro p hp
    exact Or.inl (fM p hp)
  · intro f hf
    obtain ⟨a1, a2, a3, a4, a5⟩ := fC f hf
    exact Or.inl ⟨a1, a2, a3, a4, a5, (uM f hf).2⟩
  · intro f hf
    obtain ⟨a1, a2, a3, a4, a5⟩ := fC f hf
    exact ⟨Or.inl a3, Or.inl a4, Or.inl a5⟩
  · intro f hf
    exact Or.inl (fC f hf).2.1
  · intro f p
    refine ⟨fun h => absurd h (by simp), fun h => absurd ((x3 f h.1).symm.trans h.2.2.1).symm (m1_ne (by omega))⟩
  · intro f p
    refine ⟨fun h => absurd h (by simp), fun h => absurd ((x3 f h.1).symm.trans h.2.2.1).symm (m1_ne (by omega))⟩
  · exact cnt_none (fun p hp => by
      show (!(m1.2.1 5 p == -1)) = false
      rw [(fM p hp).1]; rfl)
  · show c1.1 8 = nI 0
    rw [DC.1, DC.2.1, cnt_none (fun f hf => by rw [(fC f hf).2.1]; rfl)]
  · exact (cnt_none (fun f hf => by
      show (!(c1.2.1 18 f == -1)) = false
      rw [(fC f hf).2.1]; rfl)).symm
  · exact (cnt_none (fun p hp => by
      show (!(m1.2.1 7 p == -1)) = false
      rw [(fM p hp).2.1]; rfl)).symm
  · obtain ⟨q, q1, q2, q3⟩ := PC
    show c1.1 9 = nI 0
    rw [q1, q2, cnt_none (fun f hf => by rw [(fC f hf).2.2.2.1]; rfl)]
  · exact (cnt_none (fun f hf => by
      show (!(c1.2.1 20 f == 0)) = false
      rw [(fC f hf).2.2.2.1]; rfl)).symm
  · exact (cnt_none (fun p hp => by
      show (!(m1.2.1 10 p == 0)) = false
      rw [(fM p hp).2.2.2.1]; rfl)).symm
  · exact ri_nil
  · show m1.1 7 = nI 0
    rw [SM.2.1]; exact SM.1.1
  · exact (gc 11 (by decide)).trans hS.2.2.1
  · exact (gm 6 (by decide)).trans hS.2.2.2.1
  · exact Nat.zero_le _
  · refine ⟨?_, (y3 p hp).2⟩
    show (if p < 3072 then (-1 : Int32) else _) = -1
    rw [if_pos hp]
  · show RBy (64 * nf) (m1.2.1 15) (c1.2.2 16)
    rw [m_15, hB]; exact B1
  · show RBy (64 * nb) (m1.2.1 16) (c1.2.2 3)
    rw [m_16, hB]; exact B2
  · show RBy 1024 (m1.2.1 19) (c1.2.2 32)
    rw [m_19, hB]; exact B3
end K4
