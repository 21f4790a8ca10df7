/-! PURE PART: seen again; a page goes out -/
theorem upd_self (g : Nat → Int32) (k : Nat) {x : Int32} (h : g k = x) : upd g k x = g := by
  funext j
  by_cases e : j = k
  · subst e; rw [us_, h]
  · rw [un e]
theorem sG_self (σ : St) (k : Nat) {x : Int32} (h : σ.1 k = x) : sG σ k x = σ := by
  unfold sG
  have : (fun j => if j = k then x else σ.1 j) = σ.1 := by
    funext j
    by_cases e : j = k
    · rw [if_pos e, e, h]
    · rw [if_neg e]
  rw [this]
theorem sA_same (σ : St) (k : Nat) {f : Nat → Int32} (h : σ.2.1 k = f) : sA σ k f = σ := by rw [← h]; exact sA_self σ k
theorem Rel.setRe {hd : HDp} {nf nb ev tm dc rr f p : Nat} {LA LI LS : List (Nat × Nat)} {c m : St} (R : Rel hd nf nb LA LI LS ev tm dc rr c m) (hf : f < nf) (hp : p < 3072) (hsp : c.2.1 17 f = nI p) {b : Int32} (hb : Bo b) : Rel hd nf nb LA LI LS ev tm dc rr (sA c 19 (upd (c.2.1 19) f b)) (sA m 9 (upd (m.2.1 9) p b)) := by
  obtain ⟨hK, hk1, s1, hZ, w1, n1, e1, f1, b1, b2, b3, hBk, hRc, h1, t1, hF, hT, hL, hI, hD, hPn, hS, B1, B2, B3⟩ := R
  exact ⟨hK, hk1, s1, hZ, w1, n1, e1, f1, b1, b2, b3, hBk, hRc, h1, t1, hF.re hK.2.1 hf hp hsp hb, hT, hL, hI, hD, hPn, hS, B1, B2, B3⟩
theorem Rel.at {hd : HDp} {nf nb ev tm dc rr f p : Nat} {LA LI LS : List (Nat × Nat)} {c m : St} (R : Rel hd nf nb LA LI LS ev tm dc rr c m) (hf : f < nf) (hp : p < 3072) (hsp : c.2.1 17 f = nI p) : (c.2.1 21 f = 1 ∧ ∃ P S, LA = P ++ (f, p) :: S) ∨ (c.2.1 21 f = 0 ∧ ∃ P S, LI = P ++ (f, p) :: S) := by
  obtain ⟨hK, hk1, s1, hZ, w1, n1, e1, f1, b1, b2, b3, hBk, hRc, h1, t1, hF, hT, hL, hI, hD, hPn, hS, B1, B2, B3⟩ := R
  rcases (hF.2.2 f hf).2.2 with h | h
  · exact Or.inr ⟨h, List.append_of_mem ((hL.2.2.2.2.2.2.2 f p).mpr ⟨hf, hp, hsp, h⟩)⟩
  · exact Or.inl ⟨h, List.append_of_mem ((hL.2.2.2.2.2.2.1 f p).mpr ⟨hf, hp, hsp, h⟩)⟩
theorem Rel.mof {hd : HDp} {nf nb ev tm dc rr f p : Nat} {LA LI LS : List (Nat × Nat)} {c m : St} (R : Rel hd nf nb LA LI LS ev tm dc rr c m) (hf : f < nf) (hp : p < 3072) (hsp : c.2.1 17 f = nI p) : m.2.1 5 p = nI f ∧ m.2.1 14 f = 1 ∧ m.2.1 7 p = c.2.1 18 f ∧ m.2.1 9 p = c.2.1 19 f ∧ m.2.1 10 p = c.2.1 20 f ∧ m.2.1 11 p = c.2.1 21 f := by
  obtain ⟨hK, hk1, s1, hZ, w1, n1, e1, f1, b1, b2, b3, hBk, hRc, h1, t1, hF, hT, hL, hI, hD, hPn, hS, B1, B2, B3⟩ := R
  exact hF.uniq hK.2.1 hf hp hsp
theorem op_see {hd : HDp} {N nf nb ev tm dc rr f p : Nat} {LA LI LS : List (Nat × Nat)} {c m : St} (R : Rel hd nf nb LA LI LS ev tm dc rr c m) (hN : 5000 ≤ N) (hf : f < nf) (hp : p < 3072) (hsp : c.2.1 17 f = nI p) : ∃ c' m' LA' LI', pf_X2_seeAgain N nf nb (nI f) c = some c' ∧ pf_X7_seenAgain N (nI p) m = some m' ∧ Rel hd nf nb LA' LI' LS ev tm dc rr c' m' ∧ c'.2.1 17 = c.2.1 17 ∧ m'.2.1 5 = m.2.1 5 ∧ c'.2.2 = c.2.2 := by
  have hmf := R.mof hf hp hsp
  have hR := R
  obtain ⟨hK, hk1, s1, hZ, w1, n1, e1, f1, b1, b2, b3, hBk, hRc, h1, t1, hF, hT, hL, hI, hD, hPn, hS, B1, B2, B3⟩ := hR
  obtain ⟨ka, kb, kc, kd, ke, kf⟩ := hK
  have hv := hF.2.2 f hf
  unfold pf_X2_seeAgain pf_X7_seenAgain
  rw [if_neg (nI_pos (by omega)), hk1.1, il_n (by omega) (by omega), if_pos hf]
  simp only [lt_, bI_n hf (show nf < 2 ^ 31 by omega), bI_n hp (show 3072 < 2 ^ 31 by decide), cl_n (show f < 2 ^ 31 by omega), cl_n (show p < 2 ^ 31 by omega), nar0, nar1, hmf.2.2.2.1, hmf.2.2.2.2.2]
  rcases hv.1 with h0 | h0
  · rw [h0, if_pos rfl, if_pos rfl]
    exact ⟨_, _, LA, LI, rfl, rfl, R.setRe hf hp hsp (Or.inr rfl), rfl, rfl, rfl⟩
  · rw [h0, if_neg z1_ne, if_neg z1_ne]
    rcases R.at hf hp hsp with ⟨ha, P, S, hl⟩ | ⟨ha, P, S, hl⟩
    · rw [ha, if_neg z1_ne, if_neg z1_ne]
      exact ⟨_, _, LA, LI, rfl, rfl, R, rfl, rfl, rfl⟩
    · rw [ha, if_pos rfl, if_pos rfl]
      subst hl
      obtain ⟨c', m', x1, x2, R', k⟩ := op_IA (N := N) (R.setRe hf hp hsp (b := 0) (Or.inl rfl)) hN
      rw [x1, x2]
      exact ⟨c', m', _, _, rfl, rfl, R', k.1, k.2.2.2.2.1, k.2.2.2.2.2.2⟩
-- a page goes out: the parts
theorem RF.out {nf : Nat} {sp si re pi ac fo ms mr mp ma us sp' si' re' pi' ac' fo' ms' mr' mp' ma' us' : Nat → Int32} (h : RF nf sp si re pi ac fo ms mr mp ma us) {f p : Nat} (hnf : nf ≤ 64) (hf : f < nf) (hp : p < 3072) (hsp : sp f = nI p)
    (hC : ∀ j, j ≠ f → sp' j = sp j ∧ si' j = si j ∧ re' j = re j ∧ pi' j = pi j ∧ ac' j = ac j ∧ us' j = us j) (hM : ∀ j, j ≠ p → fo' j = fo j ∧ ms' j = ms j ∧ mr' j = mr j ∧ mp' j = mp j ∧ ma' j = ma j)
    (hE : sp' f = -1 ∧ si' f = -1 ∧ re' f = 0 ∧ pi' f = 0 ∧ ac' f = 0 ∧ us' f = 0) (hG : fo' p = -1 ∧ ms' p = -1 ∧ mr' p = 0 ∧ mp' p = 0 ∧ ma' p = 0) : RF nf sp' si' re' pi' ac' fo' ms' mr' mp' ma' us' := by
  have hu := h.uniq hnf hf hp hsp
  refine ⟨fun q hq => ?_, fun g hg => ?_, fun g hg => ?_⟩
  · by_cases e : q = p
    · subst e; exact Or.inl hG
    · obtain ⟨e0, e1, e2, e3, e4⟩ := hM q e
      rcases h.1 q hq with ⟨a1, a2, a3, a4, a5⟩ | ⟨g, hg, a1, a2, a3, a4, a5, a6⟩
      · exact Or.inl ⟨by rw [e0, a1], by rw [e1, a2], by rw [e2, a3], by rw [e3, a4], by rw [e4, a5]⟩
      · have hgf : g ≠ f := fun q2 => e (by subst q2; exact nI_inj (a2.symm.trans hsp) (by omega) (by omega))
        obtain ⟨b0, b1, b2, b3, b4, b5⟩ := hC g hgf
        exact Or.inr ⟨g, hg, by rw [e0, a1], by rw [b0, a2], by rw [e1, a3, b1], by rw [e2, a4, b2], by rw [e3, a5, b3], by rw [e4, a6, b4]⟩
  · by_cases e : g = f
    · subst e; exact Or.inl hE
    · obtain ⟨b0, b1, b2, b3, b4, b5⟩ := hC g e
      rcases h.2.1 g hg with ⟨a1, a2, a3, a4, a5, a6⟩ | ⟨q, hq, a1, a2, a3⟩
      · exact Or.inl ⟨by rw [b0, a1], by rw [b1, a2], by rw [b2, a3], by rw [b3, a4], by rw [b4, a5], by rw [b5, a6]⟩
      · have hqp : q ≠ p := fun q2 => e (by subst q2; exact nI_inj (a2.symm.trans hu.1) (by omega) (by omega))
        exact Or.inr ⟨q, hq, by rw [b0, a1], by rw [(hM q hqp).1, a2], by rw [b5, a3]⟩
  · by_cases e : g = f
    · subst e; rw [hE.2.2.1, hE.2.2.2.1, hE.2.2.2.2.1]; exact ⟨Or.inl rfl, Or.inl rfl, Or.inl rfl⟩
    · obtain ⟨b0, b1, b2, b3, b4, b5⟩ := hC g e
      rw [b2, b3, b4]; exact h.2.2 g hg
theorem RLs.outA {nf : Nat} {sp ac ra ri ma mi ra' ma' : Nat → Int32} {ca ci mca mci ca' mca' : Int32} {P S LI : List (Nat × Nat)} {f p : Nat} (h : RLs nf sp ac ra ri ma mi ca ci mca mci (P ++ (f, p) :: S) LI) (h1 : RowIs ra' ca' ((P ++ S).map Prod.fst)) (h2 : RowIs ma' mca' ((P ++ S).map Prod.snd)) : RLs nf (upd sp f (-1)) (upd ac f 0) ra' ri ma' mi ca' ci mca' mci (P ++ S) LI := by
  obtain ⟨-, b2, -, b4, hA, hI, mA, mI⟩ := h
  obtain ⟨n1, n2⟩ := nd_split hA
  have hfp := (mA f p).mp (mem_split.mpr (Or.inl ⟨rfl, rfl⟩))
  have hnI : ∀ q, (f, q) ∉ LI := fun q hq => z1_ne (by rw [← hfp.2.2.2, ((mI f q).mp hq).2.2.2])
  refine ⟨h1, b2, h2, b4, n1, hI, fun g q => ?_, fun g q => ?_⟩
  · by_cases e : g = f
    · subst e
      rw [us_, us_]
      exact ⟨fun hg => absurd rfl (n2 g q hg), fun hg => absurd hg.2.2.2 (by decide)⟩
    · rw [un e, un e, ← mA, mem_split]
      exact ⟨fun hg => Or.inr hg, fun hg => hg.resolve_left (fun w => e w.1)⟩
  · by_cases e : g = f
    · subst e
      rw [us_, us_]
      exact ⟨fun hg => absurd hg (hnI q), fun hg => absurd hg.2.2.1.symm (m1_ne (by have := hg.2.1; omega))⟩
    · rw [un e, un e]; exact mI g q
theorem RLs.outI {nf : Nat} {sp ac ra ri ma mi ri' mi' : Nat → Int32} {ca ci mca mci ci' mci' : Int32} {P S LA : List (Nat × Nat)} {f p : Nat} (h : RLs nf sp ac ra ri ma mi ca ci mca mci LA (P ++ (f, p) :: S)) (h1 : RowIs ri' ci' ((P ++ S).map Prod.fst)) (h2 : RowIs mi' mci' ((P ++ S).map Prod.snd)) : RLs nf (upd sp f (-1)) (upd ac f 0) ra ri' ma mi' ca ci' mca mci' LA (P ++ S) := by
  obtain ⟨b1, -, b3, -, hA, hI, mA, mI⟩ := h
  obtain ⟨n1, n2⟩ := nd_split hI
  have hfp := (mI f p).mp (mem_split.mpr (Or.inl ⟨rfl, rfl⟩))
  have hnA : ∀ q, (f, q) ∉ LA := fun q hq => z1_ne (by rw [← hfp.2.2.2, ((mA f q).mp hq).2.2.2])
  refine ⟨b1, h1, b3, h2, hA, n1, fun g q => ?_, fun g q => ?_⟩
  · by_cases e : g = f
    · subst e
      rw [us_, us_]
      exact ⟨fun hg => absurd hg (hnA q), fun hg => absurd hg.2.2.1.symm (m1_ne (by have := hg.2.1; omega))⟩
    · rw [un e, un e]; exact mA g q
  · by_cases e : g = f
    · subst e
      rw [us_, us_]
      exact ⟨fun hg => absurd rfl (n2 g q hg), fun hg => absurd hg.2.2.1.symm (m1_ne (by have := hg.2.1; omega))⟩
    · rw [un e, un e, ← mI, mem_split]
      exact ⟨fun hg => Or.inr hg, fun hg => hg.resolve_left (fun w => e w.1)⟩
theorem cntu {g : Nat → Int32} {n i : Nat} {y z : Int32} (hi : i < n) : cnt (fun j => !(upd g i y j == z)) n + (if g i = z then 0 else 1) = cnt (fun j => !(g j == z)) n + (if y = z then 0 else 1) := by
  have h := cnt_upd (P := fun j => !(g j == z)) (P' := fun j => !(upd g i y j == z)) hi (fun j _ hj => by rw [un hj])
  simp only [us_] at h
  have e1 : (if (!(g i == z)) = true then 1 else 0) = if g i = z then 0 else 1 := by by_cases e : g i = z <;> simp [e]
  have e2 : (if (!(y == z)) = true then 1 else 0) = if y = z then 0 else 1 := by by_cases e : y = z <;> simp [e]
  rw [e1, e2] at h
  omega
theorem RD_upd {nf : Nat} {si ms : Nat → Int32} {d : Int32} {dc f p : Nat} {y : Int32} (h : RD nf si ms d dc) (hf : f < nf) (hp : p < 3072) (he : ms p = si f) : ∃ dc', RD nf (upd si f y) (upd ms p y) (nI dc') dc' ∧ dc' + (if si f = -1 then 0 else 1) = dc + (if y = -1 then 0 else 1) := by
  obtain ⟨e0, e1, e2⟩ := h
  have h1 := cntu (g := si) (y := y) (z := -1) hf
  have h2 := cntu (g := ms) (y := y) (z := -1) hp
  rw [← e1] at h1
  rw [← e2, he] at h2
  exact ⟨_, ⟨rfl, rfl, by omega⟩, h1⟩
theorem RP_upd {nf : Nat} {pi mp : Nat → Int32} {d : Int32} {f p : Nat} {y : Int32} (h : RPn nf pi mp d) (hf : f < nf) (hp : p < 3072) (he : mp p = pi f) : ∃ k k', d = nI k ∧ k' + (if pi f = 0 then 0 else 1) = k + (if y = 0 then 0 else 1) ∧ RPn nf (upd pi f y) (upd mp p y) (nI k') ∧ k ≤ nf ∧ k' ≤ nf := by
  obtain ⟨k, e0, e1, e2⟩ := h
  have h1 := cntu (g := pi) (y := y) (z := 0) hf
  have h2 := cntu (g := mp) (y := y) (z := 0) hp
  rw [← e1] at h1
  rw [← e2, he] at h2
  exact ⟨k, _, e0, h1, ⟨_, rfl, rfl, by omega⟩, by rw [e1]; exact cnt_le _ _, cnt_le _ _⟩
theorem dc_le {nf : Nat} {si ms : Nat → Int32} {d : Int32} {dc : Nat} (h : RD nf si ms d dc) : dc ≤ nf := by rw [h.2.1]; exact cnt_le _ _
theorem cs_clean {N nf nb f p dc : Nat} {c : St} {ms : Nat → Int32} (hk : c.1 5 = nI nf) (hnf : nf ≤ 64) (hD : RD nf (c.2.1 18) ms (c.1 8) dc) (hf : f < nf) (hp : p < 3072) (he : ms p = c.2.1 18 f) : ∃ dc', pf_X2_clean N nf nb (nI f) c = some (sG (sA c 18 (upd (c.2.1 18) f (-1))) 8 (nI dc')) ∧ RD nf (upd (c.2.1 18) f (-1)) (upd ms p (-1)) (nI dc') dc' ∧ dc' + (if c.2.1 18 f = -1 then 0 else 1) = dc := by
  obtain ⟨dc', h1, h2⟩ := RD_upd (y := -1) hD hf hp he
  have hd := dc_le hD
  refine ⟨dc', ?_, h1, by simpa using h2⟩
  unfold pf_X2_clean pf_X2_isDirty
  rw [if_neg (nI_pos (by omega)), hk, if_n (by omega) (by omega), if_neg (by omega)]
  simp only [bI_n hf (show nf < 2 ^ 31 by omega), cl_n (show f < 2 ^ 31 by omega)]
  by_cases e : c.2.1 18 f = -1
  · rw [if_pos e]
    rw [if_pos e, if_pos rfl] at h2
    have : dc' = dc := by omega
    subst this
    simp only [Option.bind, lt_]
    rw [if_pos trivial, upd_self _ _ e, sA_self, sG_self _ _ hD.1]
  · rw [if_neg e]
    rw [if_neg e, if_pos rfl] at h2
    simp only [Option.bind, lt_]
    rw [if_neg z1_ne, sA_1, hD.1, show (1 : Int32) = nI 1 from rfl, pk_sub (by omega), show dc - 1 = dc' by omega]
theorem cs_unpin {N nf nb f p : Nat} {c : St} {mp : Nat → Int32} (hk : c.1 5 = nI nf) (hnf : nf ≤ 64) (hP : RPn nf (c.2.1 20) mp (c.1 9)) (hB : Bo (c.2.1 20 f)) (hf : f < nf) (hp : p < 3072) (he : mp p = c.2.1 20 f) : ∃ k', pf_X2_setPinned N nf nb (nI f) 0 c = some (sG (sA c 20 (upd (c.2.1 20) f 0)) 9 k') ∧ RPn nf (upd (c.2.1 20) f 0) (upd mp p 0) k' := by
  obtain ⟨k, k', h0, h1, h2, h3, h4⟩ := RP_upd (y := 0) hP hf hp he
  refine ⟨nI k', ?_, h2⟩
  unfold pf_X2_setPinned
  rw [if_neg (nI_pos (by omega)), hk, if_n (by omega) (by omega), if_neg (by omega)]
  simp only [bI_n hf (show nf < 2 ^ 31 by omega), cl_n (show f < 2 ^ 31 by omega), lt_]
  rcases hB with e | e
  · rw [if_pos e]
    rw [if_pos e, if_pos rfl] at h1
    have : k' = k := by omega
    subst this
    rw [upd_self _ _ e, sA_self, sG_self _ _ h0]
  · rw [if_neg (by rw [e]; exact z1_ne), if_pos trivial, nar0]
    rw [if_neg (by rw [e]; exact z1_ne), if_pos rfl] at h1
    unfold pf_X2_setPinned_b43
    simp only [lt_]
    rw [sA_1, h0, show k = k' + 1 by omega, pk_m1]
theorem RI_out {fo : Nat → Int32} {LA LI LA' LI' : List (Nat × Nat)} {p f : Nat} (h : RI fo LA LI) (hp : p < 3072) (hf : fo p = nI f) (hf2 : f < 2 ^ 31) (hl : LA'.length + LI'.length + 1 = LA.length + LI.length) : RI (upd fo p (-1)) LA' LI' := by
  unfold RI at h ⊢
  have h1 := cntu (g := fo) (y := -1) (z := -1) hp
  rw [if_pos rfl, hf, if_neg (m1_ne hf2)] at h1
  omega
theorem RS_out {nf ev : Nat} {num row msh fo : Nat → Int32} {cn mcn ce me : Int32} {LS : List (Nat × Nat)} {p : Nat} (h : RS nf ev num row msh fo cn mcn ce me LS) : RS nf ev num row msh (upd fo p (-1)) cn mcn ce me LS := by
  obtain ⟨a1, a2, a3, a4, a5, a6, a7, a8, a9⟩ := h
  refine ⟨a1, a2, a3, a4, a5, a6, a7, fun q v hq => ?_, a9⟩
  obtain ⟨x1, x2, x3, x4, x5, x6⟩ := a8 q v hq
  refine ⟨x1, x2, x3, x4, x5, ?_⟩
  by_cases e : q = p
  · subst e; rw [us_]
  · rw [un e, x6]
theorem RT_upd {nf tm : Nat} {si : Nat → Int32} {f : Nat} {y : Int32} (h : RT nf tm si) (hy : y = -1 ∨ ∃ t, t ≤ tm ∧ y = nI t) : RT nf tm (upd si f y) := by
  intro g hg
  by_cases e : g = f
  · subst e; rw [us_]; exact hy
  · rw [un e]; exact h g hg
/-- what going out keeps -/
def KpL (c c' m m' : St) : Prop := (∀ j, j ≠ 6 → j ≠ 7 → j ≠ 8 → j ≠ 9 → c'.1 j = c.1 j) ∧ (∀ j, j ≠ 17 → j ≠ 18 → j ≠ 19 → j ≠ 20 → j ≠ 21 → j ≠ 22 → j ≠ 24 → j ≠ 26 → c'.2.1 j = c.2.1 j) ∧ (∀ j, j ≠ 2 → j ≠ 3 → m'.1 j = m.1 j) ∧ (∀ j, j ≠ 5 → j ≠ 7 → j ≠ 9 → j ≠ 10 → j ≠ 11 → j ≠ 12 → j ≠ 13 → j ≠ 14 → m'.2.1 j = m.2.1 j) ∧ m'.2.2 = m.2.2
/-- a page that is in goes out -/
theorem op_leave {hd : HDp} {N nf nb ev tm dc rr f p : Nat} {LA LI LS : List (Nat × Nat)} {c m : St} (R : Rel hd nf nb LA LI LS ev tm dc rr c m) (hN : 5000 ≤ N) (hf : f < nf) (hp : p < 3072) (hsp : c.2.1 17 f = nI p) : ∃ c' m' LA' LI' dc', pf_X2_leave N nf nb (nI f) c = some c' ∧ pf_X7_goOut N (nI p) m = some m' ∧ Rel hd nf nb LA' LI' LS ev tm dc' rr c' m' ∧ dc' + (if c.2.1 18 f = -1 then 0 else 1) = dc ∧ c'.2.1 17 = upd (c.2.1 17) f (-1) ∧ m'.2.1 5 = upd (m.2.1 5) p (-1) ∧ (∀ g, g ≠ f → c'.2.1 18 g = c.2.1 18 g ∧ c'.2.1 20 g = c.2.1 20 g) ∧ c'.2.1 30 = c.2.1 30 ∧ c'.2.2 = c.2.2 ∧ KpL c c' m m' := by
  have hmf := R.mof hf hp hsp
  have hat := R.at hf hp hsp
  obtain ⟨hK, hk1, s1, hZ, w1, n1, e1, f1, b1, b2, b3, hBk, hRc, h1, t1, hF, hT, hL, hI, hD, hPn, hS, B1, B2, B3⟩ := R
  have hK' := hK
  obtain ⟨ka, kb, kc, kd, ke, kf⟩ := hK'
  have hlen := hL.len
  have hv := hF.2.2 f hf
  obtain ⟨dc', x1, x2, x3⟩ := cs_clean (N := N) (nb := nb) hk1.1 kb hD hf hp hmf.2.2.1
  obtain ⟨k', x4, x5⟩ := cs_unpin (N := N) (nb := nb) (c := sG (sA c 18 (upd (c.2.1 18) f (-1))) 8 (nI dc')) (mp := m.2.1 10) hk1.1 kb hPn hv.2.1 hf hp hmf.2.2.2.2.1
  have y1 : pf_X2_leave N nf nb (nI f) c = (if c.2.1 21 f = 0 then pf_X2_leave_b43 N nf nb (nI f) (nI p) (sG (sA (sG (sA c 18 (upd (c.2.1 18) f (-1))) 8 (nI dc')) 20 (upd (c.2.1 20) f 0)) 9 k') else pf_X2_leave_b43_1 N nf nb (nI f) (nI p) (sG (sA (sG (sA c 18 (upd (c.2.1 18) f (-1))) 8 (nI dc')) 20 (upd (c.2.1 20) f 0)) 9 k')) := by
    unfold pf_X2_leave pf_X2_spotIn
    rw [if_neg (nI_pos (by omega)), hk1.1, il_n (by omega) (by omega), if_pos hf]
    simp only [bI_n hf (show nf < 2 ^ 31 by omega), cl_n (show f < 2 ^ 31 by omega), hsp, Option.bind]
    rw [if_neg (m1_ne (by omega)), x1]
    simp only []
    rw [x4]
    rfl
  have hRF : RF nf (upd (c.2.1 17) f (-1)) (upd (c.2.1 18) f (-1)) (upd (c.2.1 19) f 0) (upd (c.2.1 20) f 0) (upd (c.2.1 21) f 0) (upd (m.2.1 5) p (-1)) (upd (m.2.1 7) p (-1)) (upd (m.2.1 9) p 0) (upd (m.2.1 10) p 0) (upd (m.2.1 11) p 0) (upd (m.2.1 14) f 0) :=
    hF.out kb hf hp hsp (fun j e => ⟨un e, un e, un e, un e, un e, un e⟩) (fun j e => ⟨un e, un e, un e, un e, un e⟩) ⟨us_, us_, us_, us_, us_, us_⟩ ⟨us_, us_, us_, us_, us_⟩
  have hf1 : upd (c.2.1 22) p (-1) = upd (m.2.1 5) p (-1) := by rw [f1]
  rcases hat with ⟨ha, P, S, hl⟩ | ⟨ha, P, S, hl⟩
  · subst hl
    obtain ⟨g1, z1, r1⟩ := o_take (N := N) (n0 := nf) (τ := (c.2.1 24, c.1 6)) (P := P.map Prod.fst) (S := S.map Prod.fst) (x := f) (by rw [← mp_f]; exact hL.1) (by simp at hlen ⊢; omega) (by omega) (by rw [← mp_f]; exact bd_f hL.2.2.2.2.2.2.1 kb) (nd_f hL.2.2.2.2.1) (by omega)
    rw [← List.map_append] at z1 r1
    obtain ⟨g2, z2, r2⟩ := m_fromA (N := N) (σ := m) (P := P.map Prod.snd) (S := S.map Prod.snd) (x := p) (by rw [hmf.2.2.2.2.2, ha]) (by rw [← mp_s]; exact hL.2.2.1) (by simp at hlen ⊢; omega) (by rw [← mp_s]; exact bd_s hL.2.2.2.2.2.2.1) (nd_s hF kb hL.2.2.2.2.2.2.1 hL.2.2.2.2.1) (by omega)
    rw [← List.map_append] at z2 r2
    have hRL := hL.outA r1 r2
    have hRI : RI (upd (m.2.1 5) p (-1)) (P ++ S) LI := RI_out hI hp hmf.1 (by omega) (by simp; omega)
    refine ⟨sA (sA (sA (sA (sG (sA (sG (sA (sG (sA c 18 (upd (c.2.1 18) f (-1))) 8 (nI dc')) 20 (upd (c.2.1 20) f 0)) 9 k') 24 g1) 6 (nI ((P ++ S).map Prod.fst).length)) 19 (upd (c.2.1 19) f 0)) 21 (upd (c.2.1 21) f 0)) 22 (upd (c.2.1 22) p (-1))) 17 (upd (c.2.1 17) f (-1)),
      sA (sA (sA (sA (sA (sA (sA (sG m 2 (nI ((P ++ S).map Prod.snd).length)) 12 g2) 14 (upd (m.2.1 14) f 0)) 5 (upd (m.2.1 5) p (-1))) 7 (upd (m.2.1 7) p (-1))) 9 (upd (m.2.1 9) p 0)) 10 (upd (m.2.1 10) p 0)) 11 (upd (m.2.1 11) p 0), (P ++ S), LI, dc', ?_, ?_, ?_, x3, rfl, rfl, fun g hg => ⟨un hg, un hg⟩, rfl, rfl, fun j h1 h2 h3 h4 => by simp only [sA_1, sG_1, h1, h2, h3, h4, if_false], fun j h1 h2 h3 h4 h5 h6 h7 h8 => by simp only [sA_21, sG_2, h1, h2, h3, h4, h5, h6, h7, h8, if_false], fun j h1 h2 => by simp only [sA_1, sG_1, h1, h2, if_false], fun j h1 h2 h3 h4 h5 h6 h7 h8 => by simp only [sA_21, sG_2, h1, h2, h3, h4, h5, h6, h7, h8, if_false], rfl⟩
    · rw [y1, ha, if_neg z1_ne]
      unfold pf_X2_leave_b43_1
      have z1' : pf_X3_take N nf (nI f) ((sG (sA (sG (sA c 18 (upd (c.2.1 18) f (-1))) 8 (nI dc')) 20 (upd (c.2.1 20) f 0)) 9 k').2.1 24, (sG (sA (sG (sA c 18 (upd (c.2.1 18) f (-1))) 8 (nI dc')) 20 (upd (c.2.1 20) f 0)) 9 k').1 6) = some (g1, nI ((P ++ S).map Prod.fst).length) := z1
      rw [z1']
      simp only [Option.bind, lt_, bI_n hf (show nf < 2 ^ 31 by omega), bI_n hp (show 3072 < 2 ^ 31 by decide), cl_n (show f < 2 ^ 31 by omega), cl_n (show p < 2 ^ 31 by omega), nar0]
      rfl
    · unfold pf_X7_goOut
      rw [z2]
      have hfo : (sA (sG m 2 (nI ((P ++ S).map Prod.snd).length)) 12 g2).2.1 5 p = nI f := hmf.1
      simp only [Option.bind, lt_, bI_n hp (show 3072 < 2 ^ 31 by decide), cl_n (show p < 2 ^ 31 by omega), nar0]
      rw [hfo, bI_n (show f < 64 by omega) (by decide), cl_n (by omega)]
      rfl
    · exact ⟨hK, hk1, s1, hZ, w1, n1, e1, hf1, b1, b2, b3, hBk, hRc, h1, t1, hRF, RT_upd hT (Or.inl rfl), hRL, hRI, x2, x5, RS_out hS, B1, B2, B3⟩
  · subst hl
    obtain ⟨g1, z1, r1⟩ := o_take (N := N) (n0 := nf) (τ := (c.2.1 26, c.1 7)) (P := P.map Prod.fst) (S := S.map Prod.fst) (x := f) (by rw [← mp_f]; exact hL.2.1) (by simp at hlen ⊢; omega) (by omega) (by rw [← mp_f]; exact bd_f hL.2.2.2.2.2.2.2 kb) (nd_f hL.2.2.2.2.2.1) (by omega)
    rw [← List.map_append] at z1 r1
    obtain ⟨g2, z2, r2⟩ := m_fromI (N := N) (σ := m) (P := P.map Prod.snd) (S := S.map Prod.snd) (x := p) (by rw [hmf.2.2.2.2.2, ha]) (by rw [← mp_s]; exact hL.2.2.2.1) (by simp at hlen ⊢; omega) (by rw [← mp_s]; exact bd_s hL.2.2.2.2.2.2.2) (nd_s hF kb hL.2.2.2.2.2.2.2 hL.2.2.2.2.2.1) (by omega)
    rw [← List.map_append] at z2 r2
    have hRL := hL.outI r1 r2
    have hRI : RI (upd (m.2.1 5) p (-1)) LA (P ++ S) := RI_out hI hp hmf.1 (by omega) (by simp; omega)
    refine ⟨sA (sA (sA (sA (sG (sA (sG (sA (sG (sA c 18 (upd (c.2.1 18) f (-1))) 8 (nI dc')) 20 (upd (c.2.1 20) f 0)) 9 k') 26 g1) 7 (nI ((P ++ S).map Prod.fst).length)) 19 (upd (c.2.1 19) f 0)) 21 (upd (c.2.1 21) f 0)) 22 (upd (c.2.1 22) p (-1))) 17 (upd (c.2.1 17) f (-1)),
      sA (sA (sA (sA (sA (sA (sA (sG m 3 (nI ((P ++ S).map Prod.snd).length)) 13 g2) 14 (upd (m.2.1 14) f 0)) 5 (upd (m.2.1 5) p (-1))) 7 (upd (m.2.1 7) p (-1))) 9 (upd (m.2.1 9) p 0)) 10 (upd (m.2.1 10) p 0)) 11 (upd (m.2.1 11) p 0), LA, (P ++ S), dc', ?_, ?_, ?_, x3, rfl, rfl, fun g hg => ⟨un hg, un hg⟩, rfl, rfl, fun j h1 h2 h3 h4 => by simp only [sA_1, sG_1, h1, h2, h3, h4, if_false], fun j h1 h2 h3 h4 h5 h6 h7 h8 => by simp only [sA_21, sG_2, h1, h2, h3, h4, h5, h6, h7, h8, if_false], fun j h1 h2 => by simp only [sA_1, sG_1, h1, h2, if_false], fun j h1 h2 h3 h4 h5 h6 h7 h8 => by simp only [sA_21, sG_2, h1, h2, h3, h4, h5, h6, h7, h8, if_false], rfl⟩
    · rw [y1, ha, if_pos rfl]
      unfold pf_X2_leave_b43
      have z1' : pf_X3_take N nf (nI f) ((sG (sA (sG (sA c 18 (upd (c.2.1 18) f (-1))) 8 (nI dc')) 20 (upd (c.2.1 20) f 0)) 9 k').2.1 26, (sG (sA (sG (sA c 18 (upd (c.2.1 18) f (-1))) 8 (nI dc')) 20 (upd (c.2.1 20) f 0)) 9 k').1 7) = some (g1, nI ((P ++ S).map Prod.fst).length) := z1
      rw [z1']
      simp only [Option.bind, lt_, bI_n hf (show nf < 2 ^ 31 by omega), bI_n hp (show 3072 < 2 ^ 31 by decide), cl_n (show f < 2 ^ 31 by omega), cl_n (show p < 2 ^ 31 by omega), nar0]
      rfl
    · unfold pf_X7_goOut
      rw [z2]
      have hfo : (sA (sG m 3 (nI ((P ++ S).map Prod.snd).length)) 13 g2).2.1 5 p = nI f := hmf.1
      simp only [Option.bind, lt_, bI_n hp (show 3072 < 2 ^ 31 by decide), cl_n (show p < 2 ^ 31 by omega), nar0]
      rw [hfo, bI_n (show f < 64 by omega) (by decide), cl_n (by omega)]
      rfl
    · exact ⟨hK, hk1, s1, hZ, w1, n1, e1, hf1, b1, b2, b3, hBk, hRc, h1, t1, hRF, RT_upd hT (Or.inl rfl), hRL, hRI, x2, x5, RS_out hS, B1, B2, B3⟩
