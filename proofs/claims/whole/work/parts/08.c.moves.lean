/-! PURE PART: toFront and move, the four cases -/
theorem mp_f {P S : List (Nat × Nat)} {f p : Nat} : (P ++ (f, p) :: S).map Prod.fst = P.map Prod.fst ++ f :: S.map Prod.fst := by rw [List.map_append]; rfl
theorem mp_s {P S : List (Nat × Nat)} {f p : Nat} : (P ++ (f, p) :: S).map Prod.snd = P.map Prod.snd ++ p :: S.map Prod.snd := by rw [List.map_append]; rfl
theorem bd_f {nf : Nat} {sp ac : Nat → Int32} {b : Int32} {L : List (Nat × Nat)} (h : ∀ f p, (f, p) ∈ L ↔ f < nf ∧ p < 3072 ∧ sp f = nI p ∧ ac f = b) (hnf : nf ≤ 64) : ∀ y ∈ L.map Prod.fst, y < 2 ^ 31 := by
  intro y hy
  obtain ⟨⟨g, q⟩, hg, e⟩ := List.mem_map.mp hy
  have e : g = y := e
  have := ((h g q).mp hg).1
  omega
theorem bd_s {nf : Nat} {sp ac : Nat → Int32} {b : Int32} {L : List (Nat × Nat)} (h : ∀ f p, (f, p) ∈ L ↔ f < nf ∧ p < 3072 ∧ sp f = nI p ∧ ac f = b) : ∀ y ∈ L.map Prod.snd, y < 3072 := by
  intro y hy
  obtain ⟨⟨g, q⟩, hg, e⟩ := List.mem_map.mp hy
  have e : q = y := e
  have := ((h g q).mp hg).2.1
  omega
theorem nd_f {P S : List (Nat × Nat)} {f p : Nat} (h : ((P ++ (f, p) :: S).map Prod.fst).Nodup) : f ∉ P.map Prod.fst := fun hm => by
  obtain ⟨⟨g, q⟩, hg, e⟩ := List.mem_map.mp hm
  exact (nd_split h).2 g q (List.mem_append_left _ hg) e
theorem nd_s {nf : Nat} {sp ac si re pi fo ms mr mp ma us : Nat → Int32} {b : Int32} {P S : List (Nat × Nat)} {f p : Nat} (hF : RF nf sp si re pi ac fo ms mr mp ma us) (hnf : nf ≤ 64) (h : ∀ g q, (g, q) ∈ P ++ (f, p) :: S ↔ g < nf ∧ q < 3072 ∧ sp g = nI q ∧ ac g = b) (hn : ((P ++ (f, p) :: S).map Prod.fst).Nodup) : p ∉ P.map Prod.snd := fun hm => by
  obtain ⟨⟨g, q⟩, hg, e⟩ := List.mem_map.mp hm
  have e : q = p := e
  subst e
  have h1 := (h f q).mp (mem_split.mpr (Or.inl ⟨rfl, rfl⟩))
  have h2 := (h g q).mp (mem_split.mpr (Or.inr (List.mem_append_left _ hg)))
  have e1 := (hF.uniq hnf h1.1 h1.2.1 h1.2.2.1).1
  have e2 := (hF.uniq hnf h2.1 h2.2.1 h2.2.2.1).1
  have h3 := h1.1
  have h4 := h2.1
  exact (nd_split hn).2 g q (List.mem_append_left _ hg) (nI_inj (e2.symm.trans e1) (by omega) (by omega))
/-- what a move keeps -/
def KpM (c c' m m' : St) : Prop := c'.2.1 17 = c.2.1 17 ∧ c'.2.1 18 = c.2.1 18 ∧ c'.2.1 19 = c.2.1 19 ∧ c'.2.1 20 = c.2.1 20 ∧ m'.2.1 5 = m.2.1 5 ∧ m'.2.1 9 = m.2.1 9 ∧ c'.2.2 = c.2.2
theorem op_AA {hd : HDp} {N nf nb ev tm dc rr f p : Nat} {P S LI LS : List (Nat × Nat)} {c m : St} (R : Rel hd nf nb (P ++ (f, p) :: S) LI LS ev tm dc rr c m) (hN : 5000 ≤ N) : ∃ c' m', pf_X2_toFront N nf nb (nI f) 1 c = some c' ∧ pf_X7_move N (nI p) 1 m = some m' ∧ Rel hd nf nb ((f, p) :: (P ++ S)) LI LS ev tm dc rr c' m' ∧ KpM c c' m m' := by
  obtain ⟨hK, hk1, s1, hZ, w1, n1, e1, f1, b1, b2, b3, hBk, hRc, h1, t1, hF, hT, hL, hI, hD, hPn, hS, B1, B2, B3⟩ := R
  have hK' := hK
  obtain ⟨ka, kb, kc, kd, ke, kf⟩ := hK'
  have hlen := hL.len
  have hfp := (hL.2.2.2.2.2.2.1 f p).mp (mem_split.mpr (Or.inl ⟨rfl, rfl⟩))
  obtain ⟨hf, hp, hsp, hac⟩ := hfp
  have hu := hF.uniq kb hf hp hsp
  obtain ⟨g1, x1, r1⟩ := o_take (N := N) (n0 := nf) (τ := (c.2.1 24, c.1 6)) (P := P.map Prod.fst) (S := S.map Prod.fst) (x := f) (by rw [← mp_f]; exact hL.1) (by simp at hlen ⊢; omega) (by omega) (by rw [← mp_f]; exact bd_f hL.2.2.2.2.2.2.1 kb) (nd_f hL.2.2.2.2.1) (by omega)
  rw [← List.map_append] at x1 r1
  obtain ⟨g2, x2, r2⟩ := o_add (N := N) (n0 := nf) (τ := (g1, nI ((P ++ S).map Prod.fst).length)) (L := ((P ++ S).map Prod.fst)) (x := f) r1 (by simp at hlen ⊢; omega) (by omega)
  obtain ⟨y1, z1, q1⟩ := m_fromA (N := N) (σ := m) (P := P.map Prod.snd) (S := S.map Prod.snd) (x := p) (by rw [hu.2.2.2.2.2, hac]) (by rw [← mp_s]; exact hL.2.2.1) (by simp at hlen ⊢; omega) (by rw [← mp_s]; exact bd_s hL.2.2.2.2.2.2.1) (nd_s hF kb hL.2.2.2.2.2.2.1 hL.2.2.2.2.1) (by omega)
  rw [← List.map_append] at z1 q1
  obtain ⟨y2, z2, q2⟩ := m_toA (N := N) (σ := sA (sG m 2 (nI ((P ++ S).map Prod.snd).length)) 12 y1) (L := ((P ++ S).map Prod.snd)) (x := p) hp q1 (by simp at hlen ⊢; omega) (by omega)
  refine ⟨sA (sG (sA (sG (sA c 24 g1) 6 (nI ((P ++ S).map Prod.fst).length)) 24 g2) 6 (nI (((P ++ S).map Prod.fst).length + 1))) 21 (upd (c.2.1 21) f 1), sG (sA (sA (sA (sG m 2 (nI ((P ++ S).map Prod.snd).length)) 12 y1) 11 (upd (m.2.1 11) p 1)) 12 y2) 2 (nI (((P ++ S).map Prod.snd).length + 1)), ?_, ?_, ?_, ⟨rfl, rfl, rfl, rfl, rfl, rfl, rfl⟩⟩
  · unfold pf_X2_toFront
    rw [if_neg (nI_pos (by omega)), hk1.1, il_n (by omega) (by omega), if_pos hf, bI_n hf (by omega), cl_n (by omega), hac, if_neg z1_ne]
    unfold pf_X2_toFront_b33_1
    rw [if_neg z1_ne]
    unfold pf_X2_toFront_b49_3
    rw [x1]
    simp only [Option.bind, lt_]
    have x2' : pf_X3_addFront N nf (nI f) ((sG (sA c 24 g1) 6 (nI ((P ++ S).map Prod.fst).length)).2.1 24, (sG (sA c 24 g1) 6 (nI ((P ++ S).map Prod.fst).length)).1 6) = some (g2, nI (((P ++ S).map Prod.fst).length + 1)) := x2
    rw [x2']
    simp only []
    rw [bI_n hf (by omega), cl_n (by omega), nar1]
    rfl
  · unfold pf_X7_move
    rw [z1]
    simp only [Option.bind]
    rw [z2]
    rfl
  · exact ⟨hK, hk1, s1, hZ, w1, n1, e1, f1, b1, b2, b3, hBk, hRc, h1, t1, hF.ac kb hf hp hsp (by exact Or.inr rfl), hT, hL.AA r2 q2, by unfold RI at hI ⊢; simp at hI ⊢; exact hI.trans (by omega), hD, hPn, hS, B1, B2, B3⟩
theorem op_AI {hd : HDp} {N nf nb ev tm dc rr f p : Nat} {P S LI LS : List (Nat × Nat)} {c m : St} (R : Rel hd nf nb (P ++ (f, p) :: S) LI LS ev tm dc rr c m) (hN : 5000 ≤ N) : ∃ c' m', pf_X2_toFront N nf nb (nI f) 0 c = some c' ∧ pf_X7_move N (nI p) 0 m = some m' ∧ Rel hd nf nb (P ++ S) ((f, p) :: LI) LS ev tm dc rr c' m' ∧ KpM c c' m m' := by
  obtain ⟨hK, hk1, s1, hZ, w1, n1, e1, f1, b1, b2, b3, hBk, hRc, h1, t1, hF, hT, hL, hI, hD, hPn, hS, B1, B2, B3⟩ := R
  have hK' := hK
  obtain ⟨ka, kb, kc, kd, ke, kf⟩ := hK'
  have hlen := hL.len
  have hfp := (hL.2.2.2.2.2.2.1 f p).mp (mem_split.mpr (Or.inl ⟨rfl, rfl⟩))
  obtain ⟨hf, hp, hsp, hac⟩ := hfp
  have hu := hF.uniq kb hf hp hsp
  obtain ⟨g1, x1, r1⟩ := o_take (N := N) (n0 := nf) (τ := (c.2.1 24, c.1 6)) (P := P.map Prod.fst) (S := S.map Prod.fst) (x := f) (by rw [← mp_f]; exact hL.1) (by simp at hlen ⊢; omega) (by omega) (by rw [← mp_f]; exact bd_f hL.2.2.2.2.2.2.1 kb) (nd_f hL.2.2.2.2.1) (by omega)
  rw [← List.map_append] at x1 r1
  obtain ⟨g2, x2, r2⟩ := o_add (N := N) (n0 := nf) (τ := (c.2.1 26, c.1 7)) (L := (LI.map Prod.fst)) (x := f) (hL.2.1) (by simp at hlen ⊢; omega) (by omega)
  obtain ⟨y1, z1, q1⟩ := m_fromA (N := N) (σ := m) (P := P.map Prod.snd) (S := S.map Prod.snd) (x := p) (by rw [hu.2.2.2.2.2, hac]) (by rw [← mp_s]; exact hL.2.2.1) (by simp at hlen ⊢; omega) (by rw [← mp_s]; exact bd_s hL.2.2.2.2.2.2.1) (nd_s hF kb hL.2.2.2.2.2.2.1 hL.2.2.2.2.1) (by omega)
  rw [← List.map_append] at z1 q1
  obtain ⟨y2, z2, q2⟩ := m_toI (N := N) (σ := sA (sG m 2 (nI ((P ++ S).map Prod.snd).length)) 12 y1) (L := (LI.map Prod.snd)) (x := p) hp (hL.2.2.2.1) (by simp at hlen ⊢; omega) (by omega)
  refine ⟨sA (sG (sA (sG (sA c 24 g1) 6 (nI ((P ++ S).map Prod.fst).length)) 26 g2) 7 (nI ((LI.map Prod.fst).length + 1))) 21 (upd (c.2.1 21) f 0), sG (sA (sA (sA (sG m 2 (nI ((P ++ S).map Prod.snd).length)) 12 y1) 11 (upd (m.2.1 11) p 0)) 13 y2) 3 (nI ((LI.map Prod.snd).length + 1)), ?_, ?_, ?_, ⟨rfl, rfl, rfl, rfl, rfl, rfl, rfl⟩⟩
  · unfold pf_X2_toFront
    rw [if_neg (nI_pos (by omega)), hk1.1, il_n (by omega) (by omega), if_pos hf, bI_n hf (by omega), cl_n (by omega), hac, if_neg z1_ne]
    unfold pf_X2_toFront_b33_1
    rw [if_pos rfl]
    unfold pf_X2_toFront_b49_2
    rw [x1]
    simp only [Option.bind, lt_]
    have x2' : pf_X3_addFront N nf (nI f) ((sG (sA c 24 g1) 6 (nI ((P ++ S).map Prod.fst).length)).2.1 26, (sG (sA c 24 g1) 6 (nI ((P ++ S).map Prod.fst).length)).1 7) = some (g2, nI ((LI.map Prod.fst).length + 1)) := x2
    rw [x2']
    simp only []
    rw [bI_n hf (by omega), cl_n (by omega), nar0]
    rfl
  · unfold pf_X7_move
    rw [z1]
    simp only [Option.bind]
    rw [z2]
    rfl
  · exact ⟨hK, hk1, s1, hZ, w1, n1, e1, f1, b1, b2, b3, hBk, hRc, h1, t1, hF.ac kb hf hp hsp (by exact Or.inl rfl), hT, hL.AI r1 q1 r2 q2, by unfold RI at hI ⊢; simp at hI ⊢; exact hI.trans (by omega), hD, hPn, hS, B1, B2, B3⟩
theorem op_IA {hd : HDp} {N nf nb ev tm dc rr f p : Nat} {P S LA LS : List (Nat × Nat)} {c m : St} (R : Rel hd nf nb LA (P ++ (f, p) :: S) LS ev tm dc rr c m) (hN : 5000 ≤ N) : ∃ c' m', pf_X2_toFront N nf nb (nI f) 1 c = some c' ∧ pf_X7_move N (nI p) 1 m = some m' ∧ Rel hd nf nb ((f, p) :: LA) (P ++ S) LS ev tm dc rr c' m' ∧ KpM c c' m m' := by
  obtain ⟨hK, hk1, s1, hZ, w1, n1, e1, f1, b1, b2, b3, hBk, hRc, h1, t1, hF, hT, hL, hI, hD, hPn, hS, B1, B2, B3⟩ := R
  have hK' := hK
  obtain ⟨ka, kb, kc, kd, ke, kf⟩ := hK'
  have hlen := hL.len
  have hfp := (hL.2.2.2.2.2.2.2 f p).mp (mem_split.mpr (Or.inl ⟨rfl, rfl⟩))
  obtain ⟨hf, hp, hsp, hac⟩ := hfp
  have hu := hF.uniq kb hf hp hsp
  obtain ⟨g1, x1, r1⟩ := o_take (N := N) (n0 := nf) (τ := (c.2.1 26, c.1 7)) (P := P.map Prod.fst) (S := S.map Prod.fst) (x := f) (by rw [← mp_f]; exact hL.2.1) (by simp at hlen ⊢; omega) (by omega) (by rw [← mp_f]; exact bd_f hL.2.2.2.2.2.2.2 kb) (nd_f hL.2.2.2.2.2.1) (by omega)
  rw [← List.map_append] at x1 r1
  obtain ⟨g2, x2, r2⟩ := o_add (N := N) (n0 := nf) (τ := (c.2.1 24, c.1 6)) (L := (LA.map Prod.fst)) (x := f) (hL.1) (by simp at hlen ⊢; omega) (by omega)
  obtain ⟨y1, z1, q1⟩ := m_fromI (N := N) (σ := m) (P := P.map Prod.snd) (S := S.map Prod.snd) (x := p) (by rw [hu.2.2.2.2.2, hac]) (by rw [← mp_s]; exact hL.2.2.2.1) (by simp at hlen ⊢; omega) (by rw [← mp_s]; exact bd_s hL.2.2.2.2.2.2.2) (nd_s hF kb hL.2.2.2.2.2.2.2 hL.2.2.2.2.2.1) (by omega)
  rw [← List.map_append] at z1 q1
  obtain ⟨y2, z2, q2⟩ := m_toA (N := N) (σ := sA (sG m 3 (nI ((P ++ S).map Prod.snd).length)) 13 y1) (L := (LA.map Prod.snd)) (x := p) hp (hL.2.2.1) (by simp at hlen ⊢; omega) (by omega)
  refine ⟨sA (sG (sA (sG (sA c 26 g1) 7 (nI ((P ++ S).map Prod.fst).length)) 24 g2) 6 (nI ((LA.map Prod.fst).length + 1))) 21 (upd (c.2.1 21) f 1), sG (sA (sA (sA (sG m 3 (nI ((P ++ S).map Prod.snd).length)) 13 y1) 11 (upd (m.2.1 11) p 1)) 12 y2) 2 (nI ((LA.map Prod.snd).length + 1)), ?_, ?_, ?_, ⟨rfl, rfl, rfl, rfl, rfl, rfl, rfl⟩⟩
  · unfold pf_X2_toFront
    rw [if_neg (nI_pos (by omega)), hk1.1, il_n (by omega) (by omega), if_pos hf, bI_n hf (by omega), cl_n (by omega), hac, if_pos rfl]
    unfold pf_X2_toFront_b33
    rw [if_neg z1_ne]
    unfold pf_X2_toFront_b49_1
    rw [x1]
    simp only [Option.bind, lt_]
    have x2' : pf_X3_addFront N nf (nI f) ((sG (sA c 26 g1) 7 (nI ((P ++ S).map Prod.fst).length)).2.1 24, (sG (sA c 26 g1) 7 (nI ((P ++ S).map Prod.fst).length)).1 6) = some (g2, nI ((LA.map Prod.fst).length + 1)) := x2
    rw [x2']
    simp only []
    rw [bI_n hf (by omega), cl_n (by omega), nar1]
    rfl
  · unfold pf_X7_move
    rw [z1]
    simp only [Option.bind]
    rw [z2]
    rfl
  · exact ⟨hK, hk1, s1, hZ, w1, n1, e1, f1, b1, b2, b3, hBk, hRc, h1, t1, hF.ac kb hf hp hsp (by exact Or.inr rfl), hT, hL.IA r1 q1 r2 q2, by unfold RI at hI ⊢; simp at hI ⊢; exact hI.trans (by omega), hD, hPn, hS, B1, B2, B3⟩
theorem op_II {hd : HDp} {N nf nb ev tm dc rr f p : Nat} {P S LA LS : List (Nat × Nat)} {c m : St} (R : Rel hd nf nb LA (P ++ (f, p) :: S) LS ev tm dc rr c m) (hN : 5000 ≤ N) : ∃ c' m', pf_X2_toFront N nf nb (nI f) 0 c = some c' ∧ pf_X7_move N (nI p) 0 m = some m' ∧ Rel hd nf nb LA ((f, p) :: (P ++ S)) LS ev tm dc rr c' m' ∧ KpM c c' m m' := by
  obtain ⟨hK, hk1, s1, hZ, w1, n1, e1, f1, b1, b2, b3, hBk, hRc, h1, t1, hF, hT, hL, hI, hD, hPn, hS, B1, B2, B3⟩ := R
  have hK' := hK
  obtain ⟨ka, kb, kc, kd, ke, kf⟩ := hK'
  have hlen := hL.len
  have hfp := (hL.2.2.2.2.2.2.2 f p).mp (mem_split.mpr (Or.inl ⟨rfl, rfl⟩))
  obtain ⟨hf, hp, hsp, hac⟩ := hfp
  have hu := hF.uniq kb hf hp hsp
  obtain ⟨g1, x1, r1⟩ := o_take (N := N) (n0 := nf) (τ := (c.2.1 26, c.1 7)) (P := P.map Prod.fst) (S := S.map Prod.fst) (x := f) (by rw [← mp_f]; exact hL.2.1) (by simp at hlen ⊢; omega) (by omega) (by rw [← mp_f]; exact bd_f hL.2.2.2.2.2.2.2 kb) (nd_f hL.2.2.2.2.2.1) (by omega)
  rw [← List.map_append] at x1 r1
  obtain ⟨g2, x2, r2⟩ := o_add (N := N) (n0 := nf) (τ := (g1, nI ((P ++ S).map Prod.fst).length)) (L := ((P ++ S).map Prod.fst)) (x := f) r1 (by simp at hlen ⊢; omega) (by omega)
  obtain ⟨y1, z1, q1⟩ := m_fromI (N := N) (σ := m) (P := P.map Prod.snd) (S := S.map Prod.snd) (x := p) (by rw [hu.2.2.2.2.2, hac]) (by rw [← mp_s]; exact hL.2.2.2.1) (by simp at hlen ⊢; omega) (by rw [← mp_s]; exact bd_s hL.2.2.2.2.2.2.2) (nd_s hF kb hL.2.2.2.2.2.2.2 hL.2.2.2.2.2.1) (by omega)
  rw [← List.map_append] at z1 q1
  obtain ⟨y2, z2, q2⟩ := m_toI (N := N) (σ := sA (sG m 3 (nI ((P ++ S).map Prod.snd).length)) 13 y1) (L := ((P ++ S).map Prod.snd)) (x := p) hp q1 (by simp at hlen ⊢; omega) (by omega)
  refine ⟨sA (sG (sA (sG (sA c 26 g1) 7 (nI ((P ++ S).map Prod.fst).length)) 26 g2) 7 (nI (((P ++ S).map Prod.fst).length + 1))) 21 (upd (c.2.1 21) f 0), sG (sA (sA (sA (sG m 3 (nI ((P ++ S).map Prod.snd).length)) 13 y1) 11 (upd (m.2.1 11) p 0)) 13 y2) 3 (nI (((P ++ S).map Prod.snd).length + 1)), ?_, ?_, ?_, ⟨rfl, rfl, rfl, rfl, rfl, rfl, rfl⟩⟩
  · unfold pf_X2_toFront
    rw [if_neg (nI_pos (by omega)), hk1.1, il_n (by omega) (by omega), if_pos hf, bI_n hf (by omega), cl_n (by omega), hac, if_pos rfl]
    unfold pf_X2_toFront_b33
    rw [if_pos rfl]
    unfold pf_X2_toFront_b49
    rw [x1]
    simp only [Option.bind, lt_]
    have x2' : pf_X3_addFront N nf (nI f) ((sG (sA c 26 g1) 7 (nI ((P ++ S).map Prod.fst).length)).2.1 26, (sG (sA c 26 g1) 7 (nI ((P ++ S).map Prod.fst).length)).1 7) = some (g2, nI (((P ++ S).map Prod.fst).length + 1)) := x2
    rw [x2']
    simp only []
    rw [bI_n hf (by omega), cl_n (by omega), nar0]
    rfl
  · unfold pf_X7_move
    rw [z1]
    simp only [Option.bind]
    rw [z2]
    rfl
  · exact ⟨hK, hk1, s1, hZ, w1, n1, e1, f1, b1, b2, b3, hBk, hRc, h1, t1, hF.ac kb hf hp hsp (by exact Or.inl rfl), hT, hL.II r2 q2, by unfold RI at hI ⊢; simp at hI ⊢; exact hI.trans (by omega), hD, hPn, hS, B1, B2, B3⟩
