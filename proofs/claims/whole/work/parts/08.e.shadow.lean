/-! PURE PART: shadows; a page is evicted -/
theorem x_forget_L {N nf nb : Nat} {σ : St} {P S : List Nat} {x : Nat} (hR : RowIs (σ.2.1 29) (σ.1 10) (P ++ x :: S)) (hc : (P ++ x :: S).length ≤ nf) (hn : nf ≤ 64) (hb : ∀ y ∈ P ++ x :: S, y < 3072) (hP : x ∉ P) : ∃ g, RowIs g (nI (P ++ S).length) (P ++ S) ∧ ∀ (T Q : List Nat) (n : Nat), P = Q ++ T → T.length < n → pf_X4_forget_L19 N nf nb n (nI x) (nI Q.length) σ = some (sG (sA σ 29 g) 10 (nI (P ++ S).length)) := by
  have hl : (P ++ x :: S).length = P.length + S.length + 1 := by simp; omega
  have hl2 : (P ++ S).length = P.length + S.length := by simp
  have hx : x < 3072 := hb x (by simp)
  refine ⟨va_cpy (σ.2.1 29) (σ.2.1 29) (P.length + 1) P.length S.length, ⟨rfl, ?_⟩, ?_⟩
  · intro k y hk
    by_cases h1 : k < P.length
    · rw [pk_cpy_out (Or.inl h1)]
      rw [List.getElem?_append_left h1] at hk
      exact hR.2 k y (by rw [List.getElem?_append_left h1]; exact hk)
    · rw [List.getElem?_append_right (by omega)] at hk
      have hk2 : k - P.length < S.length := (List.getElem?_eq_some_iff.mp hk).1
      rw [pk_cpy_in (by omega) (by omega)]
      refine hR.2 _ y ?_
      rw [List.getElem?_append_right (by omega), show P.length + 1 + (k - P.length) - P.length = (k - P.length) + 1 by omega, List.getElem?_cons_succ]
      exact hk
  intro T
  induction T with
  | nil =>
    intro Q n hQ hn1
    obtain ⟨n, rfl⟩ : ∃ m, n = m + 1 := ⟨n - 1, by simp at hn1; omega⟩
    have hQ : P = Q := by simpa using hQ
    subst hQ
    rw [pf_X4_forget_L19, hR.1, if_n (by omega) (by omega), if_neg (by omega), bI_n (by omega) (by omega), cl_n (by omega), ri_at hR, if_pos rfl, show (1 : Int32) = nI 1 from rfl, nI_add, pk_sub (by omega), pk_sub (by omega), bC_n (by omega) (by omega) (by omega) (by omega), cl_n (by omega), cl_n (by omega)]
    simp only [lt_]
    rw [sA_1, hR.1, pk_sub (by omega), show (P ++ x :: S).length - P.length - 1 = S.length by omega, show (P ++ x :: S).length - 1 = (P ++ S).length by omega]
  | cons y T ih =>
    intro Q n hQ hn1
    obtain ⟨n, rfl⟩ : ∃ m, n = m + 1 := ⟨n - 1, by simp at hn1; omega⟩
    have hyx : ¬ y = x := fun q => hP (by rw [hQ, q]; simp)
    have hpl : P.length = Q.length + T.length + 1 := by rw [hQ]; simp; omega
    have hy : y < 3072 := hb y (by rw [hQ]; simp)
    have hat : σ.2.1 29 Q.length = nI y := hR.2 Q.length y (by rw [hQ]; simp)
    rw [pf_X4_forget_L19, hR.1, if_n (by omega) (by omega), if_neg (by omega), bI_n (by omega) (by omega), cl_n (by omega), hat, ie_n (by omega) (by omega), if_neg hyx, nI_1]
    have := ih (Q ++ [y]) n (by rw [hQ]; simp) (by simp at hn1; omega)
    rw [List.length_append] at this
    exact this
theorem x_sub0 (x : Int32) : x - 0 = x := by
  apply Int32.toBitVec_inj.mp
  rw [Int32.toBitVec_sub]
  show _ - 0#32 = _
  simp
theorem op_forget {N nf nb ev p : Nat} {fo : Nat → Int32} {LS : List (Nat × Nat)} {c m : St} (hN : 5000 ≤ N) (hnf : nf ≤ 64) (hev : ev < 2 ^ 30) (hS : RS nf ev (c.2.1 28) (c.2.1 29) (m.2.1 8) fo (c.1 10) (m.1 7) (c.1 11) (m.1 6) LS) (hp : p < 3072) :
    ∃ g n LS', pf_X4_forget N nf nb (nI p) c = some (sG (sA (sA c 28 (upd (c.2.1 28) p (-1))) 29 g) 10 n) ∧ pf_X7_noShadow N (nI p) m = some (sA (sG m 7 n) 8 (upd (m.2.1 8) p 0)) ∧ RS nf ev (upd (c.2.1 28) p (-1)) g (upd (m.2.1 8) p 0) fo n n (c.1 11) (m.1 6) LS' ∧ p ∉ LS'.map Prod.fst ∧ (∀ a v L, LS = (a, v) :: L → p = a → LS' = L) ∧ LS'.length ≤ LS.length := by
  obtain ⟨a1, a2, a3, a4, a5, a6, a7, a8, a9⟩ := hS
  unfold pf_X4_forget pf_X4_of pf_X7_noShadow pf_X7_noShadow_b19
  simp only [lt_, bI_n hp (show 3072 < 2 ^ 31 by decide), cl_n (show p < 2 ^ 31 by omega)]
  rw [if_neg (nI_pos (by omega)), show (3072 : Int32) = nI 3072 from rfl, il_n (by omega) (by omega), if_pos hp]
  by_cases hm : p ∈ LS.map Prod.fst
  · obtain ⟨⟨p', v⟩, hpv, e⟩ := List.mem_map.mp hm
    have e : p' = p := e
    subst e
    obtain ⟨P, S, hl⟩ := List.append_of_mem hpv
    subst hl
    obtain ⟨x1, x2, x3, x4, x5, x6⟩ := a8 p' v hpv
    obtain ⟨nd1, nd2⟩ := nd_split a6
    have hb : ∀ y ∈ (P ++ (p', v) :: S).map Prod.fst, y < 3072 := fun y hy => by
      obtain ⟨⟨q, w⟩, hq, e⟩ := List.mem_map.mp hy
      have e : q = y := e
      subst e
      exact (a8 q w hq).1
    obtain ⟨g, r1, r2⟩ := x_forget_L (N := N) (nf := nf) (nb := nb) (σ := sA c 28 (upd (c.2.1 28) p' (-1))) (P := P.map Prod.fst) (S := S.map Prod.fst) (x := p') (by rw [← mp_f]; exact a1) (by simp at a5 ⊢; omega) hnf (by rw [← mp_f]; exact hb) (nd_f a6)
    have r3 := r2 (P.map Prod.fst) [] N rfl (by simp at a5 ⊢; omega)
    have hlen : (P ++ (p', v) :: S).length = P.length + S.length + 1 := by simp; omega
    rw [← List.map_append] at r1 r3
    refine ⟨g, nI ((P ++ S).map Prod.fst).length, P ++ S, ?_, ?_, ⟨r1, rfl, a3, a4, ?_, nd1, ?_, ?_, ?_⟩, ?_, ?_, ?_⟩
    · rw [x4]
      simp only [Option.bind]
      rw [if_neg (m1_ne (by omega))]
      exact r3
    · rw [x5, if_neg (nI_nle x2 (by omega)), a2, a1.1, show (1 : Int32) = nI 1 from rfl, pk_sub (by simp; omega)]
      congr 3
      simp
    · simp at a5 ⊢; omega
    · have := List.pairwise_append.mp a7
      obtain ⟨p1, p2, p3⟩ := this
      obtain ⟨p4, p5⟩ := List.pairwise_cons.mp p2
      exact List.pairwise_append.mpr ⟨p1, p5, fun x hx y hy => p3 x hx y (List.mem_cons_of_mem _ hy)⟩
    · intro q w hq
      have hne : q ≠ p' := nd2 q w hq
      rw [un hne, un hne]
      exact a8 q w (mem_split.mpr (Or.inr hq))
    · intro q hq hqn
      by_cases e : q = p'
      · subst e; rw [us_, us_]; exact ⟨rfl, rfl⟩
      · rw [un e, un e]
        refine a9 q hq (fun hmem => hqn ?_)
        obtain ⟨⟨q2, w⟩, h2, e2⟩ := List.mem_map.mp hmem
        have e2 : q2 = q := e2
        subst e2
        rcases mem_split.mp h2 with h3 | h3
        · exact absurd h3.1 e
        · exact List.mem_map.mpr ⟨_, h3, rfl⟩
    · intro hmem
      obtain ⟨⟨q2, w⟩, h2, e2⟩ := List.mem_map.mp hmem
      exact nd2 q2 w h2 e2
    · intro a w L hL ha
      subst ha
      cases P with
      | nil => cases hL; rfl
      | cons z P =>
        cases hL
        exact absurd rfl (nd2 p' w (by simp))
    · simp
  · obtain ⟨y1, y2⟩ := a9 p hp hm
    refine ⟨c.2.1 29, c.1 10, LS, ?_, ?_, ⟨a1, rfl, a3, a4, a5, a6, a7, ?_, ?_⟩, hm, ?_, Nat.le_refl _⟩
    · rw [y1]
      simp only [Option.bind]
      rw [if_pos trivial, upd_self _ _ y1, sA_self, sA_self, sG_self _ _ rfl]
    · rw [y2, if_pos (by decide), x_sub0, ← a2]; rfl
    · rw [upd_self _ _ y1, upd_self _ _ y2]; exact a8
    · rw [upd_self _ _ y1, upd_self _ _ y2]; exact a9
    · intro a w L hL ha
      subst ha
      exact absurd (by rw [hL]; simp) hm
theorem m_least {N q0 : Nat} {σ : St} {sh : Nat → Nat} (hq : q0 < 3072) (hs : ∀ j, j < 3072 → σ.2.1 8 j = nI (sh j) ∧ sh j < 2 ^ 31) (h0 : 0 < sh q0) (hm : ∀ j, j < 3072 → j ≠ q0 → 0 < sh j → sh q0 < sh j) : ∀ (d k n : Nat) (lst : Int32), k + d = 3072 → d < n → ((k ≤ q0 ∧ (lst = -1 ∨ ∃ j, j < 3072 ∧ j ≠ q0 ∧ lst = nI j ∧ 0 < sh j)) ∨ (q0 < k ∧ lst = nI q0)) → pf_X7_evict_L51 N n lst (nI k) σ = (pf_X7_noShadow N (nI q0) σ).bind (fun z => some z) := by
  intro d
  induction d with
  | zero =>
    intro k n lst hk hd hi
    obtain ⟨n, rfl⟩ : ∃ m, n = m + 1 := ⟨n - 1, by omega⟩
    rw [pf_X7_evict_L51, show (3072 : Int32) = nI 3072 from rfl, if_n (by omega) (by omega), if_pos (by omega)]
    rcases hi with h | h
    · omega
    · rw [h.2]
  | succ d ih =>
    intro k n lst hk hd hi
    obtain ⟨n, rfl⟩ : ∃ m, n = m + 1 := ⟨n - 1, by omega⟩
    have hk2 : k < 3072 := by omega
    obtain ⟨e1, e2⟩ := hs k hk2
    rw [pf_X7_evict_L51, show (3072 : Int32) = nI 3072 from rfl, if_n (by omega) (by omega), if_neg (by omega), bI_n hk2 (by decide), cl_n (by omega), e1]
    unfold pf_X7_evict_b91 pf_X7_evict_b87 pf_X7_evict_b92
    rw [nI_1]
    by_cases hz : sh k = 0
    · rw [hz, if_pos (by decide)]
      refine ih (k + 1) n lst (by omega) (by omega) ?_
      rcases hi with ⟨h1, h2⟩ | ⟨h1, h2⟩
      · by_cases e : k = q0
        · subst e; omega
        · exact Or.inl ⟨by omega, h2⟩
      · exact Or.inr ⟨by omega, h2⟩
    · rw [if_neg (nI_nle (by omega) e2), bI_n hk2 (by decide)]
      rcases hi with ⟨h1, h2 | ⟨j, j1, j2, j3, j4⟩⟩ | ⟨h1, h2⟩
      · rw [h2, if_pos rfl]
        refine ih (k + 1) n (nI k) (by omega) (by omega) ?_
        by_cases e : k = q0
        · subst e; exact Or.inr ⟨by omega, rfl⟩
        · exact Or.inl ⟨by omega, Or.inr ⟨k, hk2, e, rfl, by omega⟩⟩
      · obtain ⟨e3, e4⟩ := hs j j1
        rw [j3, if_neg (m1_ne (by omega)), bI_n j1 (by decide), cl_n (by omega), e3, if_n e4 e2]
        by_cases e : k = q0
        · subst e
          have := hm j j1 j2 j4
          rw [if_neg (by omega)]
          exact ih (k + 1) n (nI k) (by omega) (by omega) (Or.inr ⟨by omega, rfl⟩)
        · by_cases h5 : sh j ≤ sh k
          · rw [if_pos h5]
            exact ih (k + 1) n (nI j) (by omega) (by omega) (Or.inl ⟨by omega, Or.inr ⟨j, j1, j2, rfl, j4⟩⟩)
          · rw [if_neg h5]
            exact ih (k + 1) n (nI k) (by omega) (by omega) (Or.inl ⟨by omega, Or.inr ⟨k, hk2, e, rfl, by omega⟩⟩)
      · obtain ⟨e3, e4⟩ := hs q0 hq
        rw [h2, if_neg (m1_ne (by omega)), bI_n hq (by decide), cl_n (by omega), e3, if_n e4 e2]
        have := hm k hk2 (by omega) (by omega)
        rw [if_pos (by omega)]
        exact ih (k + 1) n (nI q0) (by omega) (by omega) (Or.inr ⟨by omega, rfl⟩)
theorem RS_add {nf ev p : Nat} {num row msh fo : Nat → Int32} {cn mcn ce me : Int32} {LS : List (Nat × Nat)} (h : RS nf ev num row msh fo cn mcn ce me LS) (hl : LS.length < nf) (hp : p < 3072) (hfo : fo p = -1) (hn : p ∉ LS.map Prod.fst) : RS nf (ev + 1) (upd num p (nI (ev + 1))) (upd row LS.length (nI p)) (upd msh p (nI (ev + 1))) fo (nI (LS.length + 1)) (nI (LS.length + 1)) (nI (ev + 1)) (nI (ev + 1)) (LS ++ [(p, ev + 1)]) := by
  obtain ⟨a1, a2, a3, a4, a5, a6, a7, a8, a9⟩ := h
  refine ⟨⟨by simp, ?_⟩, rfl, rfl, rfl, by simp; omega, ?_, ?_, ?_, ?_⟩
  · intro k x hk
    rw [List.map_append] at hk
    by_cases e : k < LS.length
    · rw [un (by omega)]
      rw [List.getElem?_append_left (by simpa using e)] at hk
      exact a1.2 k x hk
    · rw [List.getElem?_append_right (by simp; omega)] at hk
      have h2 : k - (LS.map Prod.fst).length < 1 := (List.getElem?_eq_some_iff.mp hk).1
      simp at h2
      have : k = LS.length := by omega
      subst this
      rw [us_]
      simp at hk
      rw [hk]
  · rw [List.map_append]
    refine List.nodup_append.mpr ⟨a6, by simp, fun a ha b hb e => ?_⟩
    simp at hb
    subst e
    exact hn (hb ▸ ha)
  · refine List.pairwise_append.mpr ⟨a7, by simp, fun x hx y hy => ?_⟩
    simp at hy
    subst hy
    have := (a8 x.1 x.2 hx).2.2.1
    show x.2 < ev + 1
    omega
  · intro q v hq
    rcases List.mem_append.mp hq with h | h
    · have hne : q ≠ p := fun e => hn (List.mem_map.mpr ⟨_, h, e⟩)
      obtain ⟨x1, x2, x3, x4, x5, x6⟩ := a8 q v h
      rw [un hne, un hne]
      exact ⟨x1, x2, by omega, x4, x5, x6⟩
    · simp at h
      obtain ⟨rfl, rfl⟩ := h
      rw [us_, us_]
      exact ⟨hp, by omega, by omega, rfl, rfl, hfo⟩
  · intro q hq hqn
    rw [List.map_append] at hqn
    have h1 : q ∉ LS.map Prod.fst := fun h => hqn (List.mem_append_left _ h)
    have h2 : q ≠ p := fun e => hqn (List.mem_append_right _ (by simp [e]))
    rw [un h2, un h2]
    exact a9 q hq h1
/-- the class's evict and the reference's -/
theorem op_evict {hd : HDp} {N nf nb ev tm dc rr f p : Nat} {LA LI LS : List (Nat × Nat)} {c m : St} (R : Rel hd nf nb LA LI LS ev tm dc rr c m) (hN : 5000 ≤ N) (hev : ev + 1 < 2 ^ 30) (hf : f < nf) (hp : p < 3072) (hsp : c.2.1 17 f = nI p) : ∃ c' m' LA' LI' LS' dc', pf_X6_evict N nf nb (nI f) c = some c' ∧ pf_X7_evict N (nI p) m = some m' ∧ Rel hd nf nb LA' LI' LS' (ev + 1) tm dc' rr c' m' ∧ dc' + (if c.2.1 18 f = -1 then 0 else 1) = dc ∧ c'.2.1 17 = upd (c.2.1 17) f (-1) ∧ m'.2.1 5 = upd (m.2.1 5) p (-1) ∧ (∀ g, g ≠ f → c'.2.1 18 g = c.2.1 18 g ∧ c'.2.1 20 g = c.2.1 20 g) ∧ c'.2.1 30 = c.2.1 30 ∧ c'.2.2 = c.2.2 := by
  have hmf := R.mof hf hp hsp
  have hk1 := R.2.1
  have hnf := R.1.2.1
  obtain ⟨c1, m1, LA', LI', dc', x1, x2, R1, x3, x4, x5, x6, x7, x8, -⟩ := op_leave R hN hf hp hsp
  have hpn : p ∉ LS.map Prod.fst := by
    have hS := R.2.2.2.2.2.2.2.2.2.2.2.2.2.2.2.2.2.2.2.2.2.1
    intro hmem
    obtain ⟨⟨q, v⟩, h2, e2⟩ := List.mem_map.mp hmem
    have e2 : q = p := e2
    subst e2
    exact absurd (hmf.1.symm.trans (hS.2.2.2.2.2.2.2.1 q v h2).2.2.2.2.2) (m1_ne (by omega))
  obtain ⟨hK, kk, s1, hZ, w1, n1, e1, f1, b1, b2, b3, hBk, hRc, h1, t1, hF, hT, hL, hI, hD, hPn, hS, B1, B2, B3⟩ := R1
  have hK' := hK
  obtain ⟨ka, kb, kc, kd, ke, kf⟩ := hK'
  have hKn : Kc nf nb (ev + 1) tm := ⟨ka, kb, kc, kd, hev, kf⟩
  have hfo : m1.2.1 5 p = -1 := by rw [x5, us_]
  have hS' := hS
  obtain ⟨a1, a2, a3, a4, a5, a6, a7, a8, a9⟩ := hS'
  have y1 : pf_X6_evict N nf nb (nI f) c = (pf_X4_add N nf nb (nI p) c1).bind (fun z => some z) := by
    unfold pf_X6_evict pf_X2_spotIn
    rw [if_neg (nI_pos (by omega)), hk1.1, il_n (by omega) (by omega), if_pos hf]
    simp only [bI_n hf (show nf < 2 ^ 31 by omega), cl_n (show f < 2 ^ 31 by omega), hsp, Option.bind]
    rw [x1]
  have y2 : pf_X7_evict N (nI p) m = (if nI nf < nI (LS.length + 1) then pf_X7_evict_L51 N N (-1) 0 (sG (sA (sG m1 6 (nI (ev + 1))) 8 (upd (m1.2.1 8) p (nI (ev + 1)))) 7 (nI (LS.length + 1))) else some (sG (sA (sG m1 6 (nI (ev + 1))) 8 (upd (m1.2.1 8) p (nI (ev + 1)))) 7 (nI (LS.length + 1)))) := by
    unfold pf_X7_evict
    rw [x2]
    simp only [Option.bind, lt_, bI_n hp (show 3072 < 2 ^ 31 by decide), cl_n (show p < 2 ^ 31 by omega)]
    have e6 : m1.1 6 + 1 = nI (ev + 1) := by rw [a4]; exact nI_1 ev
    have e7 : m1.1 7 + 1 = nI (LS.length + 1) := by rw [a2, a1.1, List.length_map]; exact nI_1 _
    have e0 : m1.1 0 = nI nf := kk.2.1
    rw [e6]
    show (if m1.1 0 < m1.1 7 + 1 then pf_X7_evict_L51 N N (-1) 0 (sG (sA (sG m1 6 (nI (ev + 1))) 8 (upd (m1.2.1 8) p (nI (ev + 1)))) 7 (m1.1 7 + 1)) else some (sG (sA (sG m1 6 (nI (ev + 1))) 8 (upd (m1.2.1 8) p (nI (ev + 1)))) 7 (m1.1 7 + 1))) = _
    rw [e7, e0]
  have e11 : c1.1 11 + 1 = nI (ev + 1) := by rw [a3]; exact nI_1 ev
  rw [il_n (by omega) (by omega)] at y2
  by_cases hfull : LS.length = nf
  · -- the least goes
    rw [if_pos (by omega)] at y2
    obtain ⟨⟨q0, v0⟩, L, hLS⟩ : ∃ a L, LS = a :: L := by
      cases LS with
      | nil => simp at hfull; omega
      | cons a L => exact ⟨a, L, rfl⟩
    subst hLS
    have hq0 := a8 q0 v0 List.mem_cons_self
    -- the class
    obtain ⟨g, n, LS2, z1, z2, z3, z4, z5, z6⟩ := op_forget (N := N) (nb := nb) (c := sG c1 11 (nI (ev + 1))) (m := sG m1 6 (nI (ev + 1))) (fo := m1.2.1 5) (LS := (q0, v0) :: L) (ev := ev + 1) hN kb hev ⟨a1, a2, rfl, rfl, a5, a6, a7, fun q v hq => by obtain ⟨r1, r2, r3, r4⟩ := a8 q v hq; exact ⟨r1, r2, by omega, r4⟩, a9⟩ hq0.1
    have hL2 : LS2 = L := z5 q0 v0 L rfl rfl
    subst hL2
    have hrow0 : c1.2.1 29 0 = nI q0 := a1.2 0 q0 rfl
    have hqp : q0 ≠ p := fun e => hpn (by rw [← e]; simp)
    have hLl : LS2.length + 1 = nf := by simpa using hfull
    have hpn2 : p ∉ LS2.map Prod.fst := fun h => hpn (by simp; exact Or.inr (by simpa using h))
    -- RS behind both
    have hA := RS_add (p := p) (h := (⟨z3.1, rfl, a3, a4, by omega, z3.2.2.2.2.2.1, z3.2.2.2.2.2.2.1, fun q v hq => by
      have hq2 := a8 q v (List.mem_cons_of_mem _ hq)
      have hqq : q ≠ q0 := fun e => z4 (by rw [← e]; exact List.mem_map.mpr ⟨_, hq, rfl⟩)
      exact ⟨hq2.1, hq2.2.1, hq2.2.2.1, by rw [un hqq]; exact hq2.2.2.2.1, by rw [un hqq]; exact hq2.2.2.2.2.1, hq2.2.2.2.2.2⟩, z3.2.2.2.2.2.2.2.2⟩ : RS nf ev (upd (c1.2.1 28) q0 (-1)) g (upd (m1.2.1 8) q0 0) (m1.2.1 5) n n (c1.1 11) (m1.1 6) LS2)) (by omega) hp hfo hpn2
    have hn : n = nI LS2.length := by have := z3.1.1; rw [List.length_map] at this; exact this
    refine ⟨sG (sA (sA (sG (sA (sA (sG c1 11 (nI (ev + 1))) 28 (upd (c1.2.1 28) q0 (-1))) 29 g) 10 n) 28 (upd (upd (c1.2.1 28) q0 (-1)) p (nI (ev + 1)))) 29 (upd g LS2.length (nI p))) 10 (nI (LS2.length + 1)),
      sA (sG (sG (sA (sG m1 6 (nI (ev + 1))) 8 (upd (m1.2.1 8) p (nI (ev + 1)))) 7 (nI (LS2.length + 1 + 1))) 7 (nI (LS2.length + 1))) 8 (upd (upd (m1.2.1 8) p (nI (ev + 1))) q0 0), LA', LI', LS2 ++ [(p, ev + 1)], dc', ?_, ?_, ?_, x3, x4, x5, x6, x7, x8⟩
    · rw [y1]
      unfold pf_X4_add
      simp only [lt_]
      rw [e11, if_neg (nI_pos (by omega)), show (3072 : Int32) = nI 3072 from rfl, il_n (by omega) (by omega), if_pos hp]
      have e10 : (sG c1 11 (nI (ev + 1))).1 10 = nI nf := by show c1.1 10 = _; rw [a1.1, List.length_map, hfull]
      rw [e10, if_pos rfl, show (0 : Int32) = nI 0 from rfl, bI_n (by omega) (by omega), cl_n (by decide)]
      have e29 : (sG c1 11 (nI (ev + 1))).2.1 29 0 = nI q0 := hrow0
      rw [e29, z1]
      unfold pf_X4_add_b44
      simp only [Option.bind, lt_, bI_n hp (show 3072 < 2 ^ 31 by decide), cl_n (show p < 2 ^ 31 by omega)]
      have en : (sA (sG (sA (sA (sG c1 11 (nI (ev + 1))) 28 (upd ((sG c1 11 (nI (ev + 1))).2.1 28) q0 (-1))) 29 g) 10 n) 28 (upd ((sG (sA (sA (sG c1 11 (nI (ev + 1))) 28 (upd ((sG c1 11 (nI (ev + 1))).2.1 28) q0 (-1))) 29 g) 10 n).2.1 28) p ((sG (sA (sA (sG c1 11 (nI (ev + 1))) 28 (upd ((sG c1 11 (nI (ev + 1))).2.1 28) q0 (-1))) 29 g) 10 n).1 11))).1 10 = nI LS2.length := hn
      rw [en, bI_n (by omega) (by omega), cl_n (by omega)]
      have en2 : ∀ X : Nat → Int32, (sA (sA (sG (sA (sA (sG c1 11 (nI (ev + 1))) 28 (upd ((sG c1 11 (nI (ev + 1))).2.1 28) q0 (-1))) 29 g) 10 n) 28 X) 29 (upd g LS2.length (nI p))).1 10 + 1 = nI (LS2.length + 1) := fun X => by show n + 1 = _; rw [hn]; exact nI_1 _
      exact congrArg some (by
        show sG (sA (sA (sG (sA (sA (sG c1 11 (nI (ev + 1))) 28 (upd (c1.2.1 28) q0 (-1))) 29 g) 10 n) 28 (upd (upd (c1.2.1 28) q0 (-1)) p (nI (ev + 1)))) 29 (upd g LS2.length (nI p))) 10 (n + 1) = _
        rw [show n + 1 = nI (LS2.length + 1) by rw [hn]; exact nI_1 _])
    · rw [y2]
      have hsh : ∀ j, j < 3072 → ∃ v, v < 2 ^ 31 ∧ upd (m1.2.1 8) p (nI (ev + 1)) j = nI v ∧ ((0 < v ↔ (j = p ∨ j ∈ ((q0, v0) :: LS2).map Prod.fst)) ∧ (j = q0 → v = v0) ∧ (j ≠ q0 → 0 < v → v0 < v)) := by
        intro j hj
        by_cases e : j = p
        · subst e
          rw [us_]
          exact ⟨ev + 1, by omega, rfl, ⟨fun _ => Or.inl rfl, fun _ => by omega⟩, fun e2 => absurd e2.symm hqp, fun _ _ => by have := hq0.2.2.1; omega⟩
        · rw [un e]
          by_cases hj2 : j ∈ ((q0, v0) :: LS2).map Prod.fst
          · obtain ⟨⟨j', v⟩, h2, e2⟩ := List.mem_map.mp hj2
            have e2 : j' = j := e2
            subst e2
            have hj3 := a8 j' v h2
            refine ⟨v, by have := hj3.2.2.1; omega, hj3.2.2.2.2.1, ⟨fun _ => Or.inr hj2, fun _ => hj3.2.1⟩, fun e3 => ?_, fun e3 _ => ?_⟩
            · subst e3
              exact nI_inj (hj3.2.2.2.1.symm.trans hq0.2.2.2.1) (by have := hj3.2.2.1; omega) (by have := hq0.2.2.1; omega)
            · rcases List.mem_cons.mp h2 with h4 | h4
              · cases h4; exact absurd rfl e3
              · exact (List.pairwise_cons.mp a7).1 (j', v) h4
          · have := (a9 j hj hj2).2
            exact ⟨0, by omega, this, ⟨fun h => absurd h (by omega), fun h => absurd h (by simp [e]; simpa using hj2)⟩, fun e3 => absurd (by rw [e3]; simp) hj2, fun _ h => absurd h (by omega)⟩
      have hv : ∃ sh : Nat → Nat, ∀ j, j < 3072 → sh j < 2 ^ 31 ∧ upd (m1.2.1 8) p (nI (ev + 1)) j = nI (sh j) ∧ ((0 < sh j ↔ (j = p ∨ j ∈ ((q0, v0) :: LS2).map Prod.fst)) ∧ (j = q0 → sh j = v0) ∧ (j ≠ q0 → 0 < sh j → v0 < sh j)) :=
        ⟨fun j => if hj : j < 3072 then (hsh j hj).choose else 0, fun j hj => by simp only [hj, dif_pos]; exact (hsh j hj).choose_spec⟩
      obtain ⟨sh, hsh2⟩ := hv
      have hq0s := hsh2 q0 hq0.1
      have hvq : sh q0 = v0 := hq0s.2.2.2.1 rfl
      have hl := m_least (N := N) (q0 := q0) (σ := sG (sA (sG m1 6 (nI (ev + 1))) 8 (upd (m1.2.1 8) p (nI (ev + 1)))) 7 (nI (LS2.length + 1 + 1))) (sh := sh) hq0.1 (fun j hj => ⟨(hsh2 j hj).2.1, (hsh2 j hj).1⟩) (by rw [hvq]; exact hq0.2.1) (fun j hj hne h0 => by rw [hvq]; exact (hsh2 j hj).2.2.2.2 hne h0) 3072 0 N (-1) (by omega) (by omega) (Or.inl ⟨by omega, Or.inl rfl⟩)
      have hl2 : ((q0, v0) :: LS2).length + 1 = LS2.length + 1 + 1 := by simp
      rw [hl2]
      rw [show (0 : Int32) = nI 0 from rfl, hl]
      unfold pf_X7_noShadow pf_X7_noShadow_b19
      simp only [lt_, bI_n hq0.1 (show 3072 < 2 ^ 31 by decide), cl_n (show q0 < 2 ^ 31 by have := hq0.1; omega)]
      have e8 : (sG (sA (sG m1 6 (nI (ev + 1))) 8 (upd (m1.2.1 8) p (nI (ev + 1)))) 7 (nI (LS2.length + 1 + 1))).2.1 8 q0 = nI v0 := by show upd (m1.2.1 8) p (nI (ev + 1)) q0 = _; rw [un hqp]; exact hq0.2.2.2.2.1
      rw [e8, if_neg (nI_nle hq0.2.1 (by have := hq0.2.2.1; omega))]
      have e9 : (sG (sA (sG m1 6 (nI (ev + 1))) 8 (upd (m1.2.1 8) p (nI (ev + 1)))) 7 (nI (LS2.length + 1 + 1))).1 7 - 1 = nI (LS2.length + 1) := by show nI (LS2.length + 1 + 1) - 1 = _; exact nI_pred _
      rw [e9]
      rfl
    · refine ⟨hKn, kk, s1, hZ, w1, n1, e1, f1, b1, b2, b3, hBk, hRc, h1, t1, hF, hT, hL, hI, hD, hPn, ?_, B1, B2, B3⟩
      have hcomm : upd (upd (m1.2.1 8) p (nI (ev + 1))) q0 0 = upd (upd (m1.2.1 8) q0 0) p (nI (ev + 1)) := by
        funext j
        by_cases e : j = p
        · subst e; rw [us_, un (Ne.symm hqp), us_]
        · by_cases e2 : j = q0
          · subst e2; rw [us_, un e, us_]
          · rw [un e2, un e, un e, un e2]
      show RS nf (ev + 1) (upd (upd (c1.2.1 28) q0 (-1)) p (nI (ev + 1))) (upd g LS2.length (nI p)) (upd (upd (m1.2.1 8) p (nI (ev + 1))) q0 0) (m1.2.1 5) (nI (LS2.length + 1)) (nI (LS2.length + 1)) (nI (ev + 1)) (nI (ev + 1)) (LS2 ++ [(p, ev + 1)])
      rw [hcomm]
      exact hA
  · -- there is a place
    rw [if_neg (by omega)] at y2
    refine ⟨sG (sA (sA (sG c1 11 (nI (ev + 1))) 28 (upd (c1.2.1 28) p (nI (ev + 1)))) 29 (upd (c1.2.1 29) LS.length (nI p))) 10 (nI (LS.length + 1)), _, LA', LI', LS ++ [(p, ev + 1)], dc', ?_, y2, ?_, x3, x4, x5, x6, x7, x8⟩
    · rw [y1]
      unfold pf_X4_add
      simp only [lt_]
      rw [e11, if_neg (nI_pos (by omega)), show (3072 : Int32) = nI 3072 from rfl, il_n (by omega) (by omega), if_pos hp]
      have e10 : (sG c1 11 (nI (ev + 1))).1 10 = nI LS.length := by show c1.1 10 = _; rw [a1.1, List.length_map]
      rw [e10, if_neg (fun q => hfull (nI_inj q (by omega) (by omega)))]
      unfold pf_X4_add_b44
      simp only [Option.bind, lt_, bI_n hp (show 3072 < 2 ^ 31 by decide), cl_n (show p < 2 ^ 31 by omega)]
      have en : (sA (sG c1 11 (nI (ev + 1))) 28 (upd ((sG c1 11 (nI (ev + 1))).2.1 28) p ((sG c1 11 (nI (ev + 1))).1 11))).1 10 = nI LS.length := e10
      rw [en, bI_n (by omega) (by omega), cl_n (by omega)]
      exact congrArg some (by
        show sG (sA (sA (sG c1 11 (nI (ev + 1))) 28 (upd (c1.2.1 28) p (nI (ev + 1)))) 29 (upd (c1.2.1 29) LS.length (nI p))) 10 (c1.1 10 + 1) = _
        rw [show c1.1 10 + 1 = nI (LS.length + 1) by rw [a1.1, List.length_map]; exact nI_1 _])
    · exact ⟨hKn, kk, s1, hZ, w1, n1, e1, f1, b1, b2, b3, hBk, hRc, h1, t1, hF, hT, hL, hI, hD, hPn, RS_add hS (by omega) hp hfo hpn, B1, B2, B3⟩
