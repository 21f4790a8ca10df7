/-! PURE PART: a move whose REFERENCED is taken away: the class behind it, the reference ahead of it -/
theorem op_AAr {hd : HDp} {N nf nb ev tm dc rr f p : Nat} {P S LI LS : List (Nat × Nat)} {c m : St} (R : Rel hd nf nb (P ++ (f, p) :: S) LI LS ev tm dc rr c m) (hN : 5000 ≤ N) : ∃ c' m', pf_X2_toFront N nf nb (nI f) 1 c = some c' ∧ pf_X7_move N (nI p) 1 (sA m 9 (upd (m.2.1 9) p 0)) = some m' ∧ Rel hd nf nb ((f, p) :: (P ++ S)) LI LS ev tm dc rr (sA c' 19 (upd (c'.2.1 19) f 0)) m' ∧ c'.2.1 17 = c.2.1 17 ∧ c'.2.1 18 = c.2.1 18 ∧ c'.2.1 19 = c.2.1 19 ∧ c'.2.1 20 = c.2.1 20 ∧ m'.2.1 5 = m.2.1 5 ∧ c'.2.2 = c.2.2 := by
  obtain ⟨hK, hk1, s1, hZ, w1, n1, e1, f1, b1, b2, b3, hBk, hRc, h1, t1, hF, hT, hL, hI, hD, hPn, hS, B1, B2, B3⟩ := R
  have hK' := hK
  obtain ⟨ka, kb, kc, kd, ke, kf⟩ := hK'
  have hlen := hL.len
  have hfp := (hL.2.2.2.2.2.2.1 f p).mp (mem_split.mpr (Or.inl ⟨rfl, rfl⟩))
  obtain ⟨hf, hp, hsp, hac⟩ := hfp
  have hu := hF.uniq kb hf hp hsp
  obtain ⟨g1, x1, r1⟩ := o_take (N := N) (n0 := nf) (τ := (c.2.1 24, c.1 6)) (P := P.map Prod.fst) (S := S.map Prod.fst) (x := f) (by rw [← mp_f]; exact hL.1) (by simp at hlen ⊢; omega) (by omega) (by rw [← mp_f]; exact bd_f hL.2.2.2.2.2.2.1 kb) (nd_f hL.2.2.2.2.1) (by omega)
  rw [← List.map_append] at x1 r1
  obtain ⟨g2, x2, r2⟩ := o_add (N := N) (n0 := nf) (τ := (g1, nI ((P ++ S).map Prod.fst).length)) (L := ((P ++ S).map Prod.fst)) (x := f) r1 (by simp at hlen ⊢; omega) (by omega)
  obtain ⟨y1, z1, q1⟩ := m_fromA (N := N) (σ := sA m 9 (upd (m.2.1 9) p 0)) (P := P.map Prod.snd) (S := S.map Prod.snd) (x := p) (hu.2.2.2.2.2.trans hac) (by rw [← mp_s]; exact hL.2.2.1) (by simp at hlen ⊢; omega) (by rw [← mp_s]; exact bd_s hL.2.2.2.2.2.2.1) (nd_s hF kb hL.2.2.2.2.2.2.1 hL.2.2.2.2.1) (by omega)
  rw [← List.map_append] at z1 q1
  obtain ⟨y2, z2, q2⟩ := m_toA (N := N) (σ := sA (sG (sA m 9 (upd (m.2.1 9) p 0)) 2 (nI ((P ++ S).map Prod.snd).length)) 12 y1) (L := ((P ++ S).map Prod.snd)) (x := p) hp q1 (by simp at hlen ⊢; omega) (by omega)
  refine ⟨sA (sG (sA (sG (sA c 24 g1) 6 (nI ((P ++ S).map Prod.fst).length)) 24 g2) 6 (nI (((P ++ S).map Prod.fst).length + 1))) 21 (upd (c.2.1 21) f 1), sG (sA (sA (sA (sG (sA m 9 (upd (m.2.1 9) p 0)) 2 (nI ((P ++ S).map Prod.snd).length)) 12 y1) 11 (upd (m.2.1 11) p 1)) 12 y2) 2 (nI (((P ++ S).map Prod.snd).length + 1)), ?_, ?_, ?_, rfl, rfl, rfl, rfl, rfl, rfl⟩
  · unfold pf_X2_toFront
    rw [if_neg (nI_pos (by omega)), hk1.1, il_n (by omega) (by omega), if_pos hf, bI_n hf (by omega), cl_n (by omega), hac, if_neg z1_ne]
    unfold pf_X2_toFront_b33_1
    rw [if_neg z1_ne]
    unfold pf_X2_toFront_b49_3
    rw [x1]
    simp only [Option.bind, lt_]
    have x2' : pf_X3_addFront N nf (nI f) ((sG (sA c 24 g1) 6 (nI ((P ++ S).map Prod.fst).length)).2.1 24, (sG (sA c 24 g1) 6 (nI ((P ++ S).map Prod.fst).length)).1 6) = some (g2, nI (((P ++ S).map Prod.fst).length + 1)) := x2
    rw [x2']
    simp only []
    rw [bI_n hf (by omega), cl_n (by omega), nar1]
    rfl
  · unfold pf_X7_move
    rw [z1]
    simp only [Option.bind]
    rw [z2]
    rfl
  · exact ⟨hK, hk1, s1, hZ, w1, n1, e1, f1, b1, b2, b3, hBk, hRc, h1, t1, (hF.re kb hf hp hsp (b := 0) (Or.inl rfl)).ac kb hf hp hsp (by exact Or.inr rfl), hT, hL.AA r2 q2, by unfold RI at hI ⊢; simp at hI ⊢; exact hI.trans (by omega), hD, hPn, hS, B1, B2, B3⟩
theorem op_AIr {hd : HDp} {N nf nb ev tm dc rr f p : Nat} {P S LI LS : List (Nat × Nat)} {c m : St} (R : Rel hd nf nb (P ++ (f, p) :: S) LI LS ev tm dc rr c m) (hN : 5000 ≤ N) : ∃ c' m', pf_X2_toFront N nf nb (nI f) 0 c = some c' ∧ pf_X7_move N (nI p) 0 (sA m 9 (upd (m.2.1 9) p 0)) = some m' ∧ Rel hd nf nb (P ++ S) ((f, p) :: LI) LS ev tm dc rr (sA c' 19 (upd (c'.2.1 19) f 0)) m' ∧ c'.2.1 17 = c.2.1 17 ∧ c'.2.1 18 = c.2.1 18 ∧ c'.2.1 19 = c.2.1 19 ∧ c'.2.1 20 = c.2.1 20 ∧ m'.2.1 5 = m.2.1 5 ∧ c'.2.2 = c.2.2 := by
  obtain ⟨hK, hk1, s1, hZ, w1, n1, e1, f1, b1, b2, b3, hBk, hRc, h1, t1, hF, hT, hL, hI, hD, hPn, hS, B1, B2, B3⟩ := R
  have hK' := hK
  obtain ⟨ka, kb, kc, kd, ke, kf⟩ := hK'
  have hlen := hL.len
  have hfp := (hL.2.2.2.2.2.2.1 f p).mp (mem_split.mpr (Or.inl ⟨rfl, rfl⟩))
  obtain ⟨hf, hp, hsp, hac⟩ := hfp
  have hu := hF.uniq kb hf hp hsp
  obtain ⟨g1, x1, r1⟩ := o_take (N := N) (n0 := nf) (τ := (c.2.1 24, c.1 6)) (P := P.map Prod.fst) (S := S.map Prod.fst) (x := f) (by rw [← mp_f]; exact hL.1) (by simp at hlen ⊢; omega) (by omega) (by rw [← mp_f]; exact bd_f hL.2.2.2.2.2.2.1 kb) (nd_f hL.2.2.2.2.1) (by omega)
  rw [← List.map_append] at x1 r1
  obtain ⟨g2, x2, r2⟩ := o_add (N := N) (n0 := nf) (τ := (c.2.1 26, c.1 7)) (L := (LI.map Prod.fst)) (x := f) (hL.2.1) (by simp at hlen ⊢; omega) (by omega)
  obtain ⟨y1, z1, q1⟩ := m_fromA (N := N) (σ := sA m 9 (upd (m.2.1 9) p 0)) (P := P.map Prod.snd) (S := S.map Prod.snd) (x := p) (hu.2.2.2.2.2.trans hac) (by rw [← mp_s]; exact hL.2.2.1) (by simp at hlen ⊢; omega) (by rw [← mp_s]; exact bd_s hL.2.2.2.2.2.2.1) (nd_s hF kb hL.2.2.2.2.2.2.1 hL.2.2.2.2.1) (by omega)
  rw [← List.map_append] at z1 q1
  obtain ⟨y2, z2, q2⟩ := m_toI (N := N) (σ := sA (sG (sA m 9 (upd (m.2.1 9) p 0)) 2 (nI ((P ++ S).map Prod.snd).length)) 12 y1) (L := (LI.map Prod.snd)) (x := p) hp (hL.2.2.2.1) (by simp at hlen ⊢; omega) (by omega)
  refine ⟨sA (sG (sA (sG (sA c 24 g1) 6 (nI ((P ++ S).map Prod.fst).length)) 26 g2) 7 (nI ((LI.map Prod.fst).length + 1))) 21 (upd (c.2.1 21) f 0), sG (sA (sA (sA (sG (sA m 9 (upd (m.2.1 9) p 0)) 2 (nI ((P ++ S).map Prod.snd).length)) 12 y1) 11 (upd (m.2.1 11) p 0)) 13 y2) 3 (nI ((LI.map Prod.snd).length + 1)), ?_, ?_, ?_, rfl, rfl, rfl, rfl, rfl, rfl⟩
  · unfold pf_X2_toFront
    rw [if_neg (nI_pos (by omega)), hk1.1, il_n (by omega) (by omega), if_pos hf, bI_n hf (by omega), cl_n (by omega), hac, if_neg z1_ne]
    unfold pf_X2_toFront_b33_1
    rw [if_pos rfl]
    unfold pf_X2_toFront_b49_2
    rw [x1]
    simp only [Option.bind, lt_]
    have x2' : pf_X3_addFront N nf (nI f) ((sG (sA c 24 g1) 6 (nI ((P ++ S).map Prod.fst).length)).2.1 26, (sG (sA c 24 g1) 6 (nI ((P ++ S).map Prod.fst).length)).1 7) = some (g2, nI ((LI.map Prod.fst).length + 1)) := x2
    rw [x2']
    simp only []
    rw [bI_n hf (by omega), cl_n (by omega), nar0]
    rfl
  · unfold pf_X7_move
    rw [z1]
    simp only [Option.bind]
    rw [z2]
    rfl
  · exact ⟨hK, hk1, s1, hZ, w1, n1, e1, f1, b1, b2, b3, hBk, hRc, h1, t1, (hF.re kb hf hp hsp (b := 0) (Or.inl rfl)).ac kb hf hp hsp (by exact Or.inl rfl), hT, hL.AI r1 q1 r2 q2, by unfold RI at hI ⊢; simp at hI ⊢; exact hI.trans (by omega), hD, hPn, hS, B1, B2, B3⟩
/-- how many of a list are referenced -/
def rcn (re : Nat → Int32) : List (Nat × Nat) → Nat
  | [] => 0
  | a :: L => rcn re L + if re a.1 = 1 then 1 else 0
theorem rcn_app (re : Nat → Int32) : ∀ (P S : List (Nat × Nat)), rcn re (P ++ S) = rcn re P + rcn re S
  | [], S => by simp [rcn]
  | a :: P, S => by
    show rcn re (P ++ S) + _ = rcn re P + _ + rcn re S
    rw [rcn_app re P S]; omega
theorem rcn_le (re : Nat → Int32) : ∀ (P : List (Nat × Nat)), rcn re P ≤ P.length
  | [] => Nat.le_refl 0
  | a :: P => by
    have := rcn_le re P
    show rcn re P + (if re a.1 = 1 then 1 else 0) ≤ P.length + 1
    split <;> omega
theorem rcn_congr {re re' : Nat → Int32} : ∀ {P : List (Nat × Nat)}, (∀ f p, (f, p) ∈ P → re' f = re f) → rcn re' P = rcn re P
  | [], _ => rfl
  | (f, p) :: P, h => by
    show rcn re' P + (if re' f = 1 then 1 else 0) = rcn re P + (if re f = 1 then 1 else 0)
    rw [rcn_congr (fun g q hg => h g q (List.mem_cons_of_mem _ hg)), h f p List.mem_cons_self]
theorem last_ex {α : Type} : ∀ (L : List α), 0 < L.length → ∃ P x, L = P ++ [x]
  | [], h => absurd h (by simp)
  | [a], _ => ⟨[], a, rfl⟩
  | a :: b :: L, _ => by
    obtain ⟨P, x, h⟩ := last_ex (b :: L) (by simp)
    exact ⟨a :: P, x, by rw [h]; rfl⟩
theorem op_balance {hd : HDp} {N nf nb ev tm dc rr : Nat} {LS : List (Nat × Nat)} (hN : 5000 ≤ N) : ∀ (k : Nat) (LA LI : List (Nat × Nat)) (c m : St) (i n n' : Nat), Rel hd nf nb LA LI LS ev tm dc rr c m → LA.length + rcn (c.2.1 19) LA ≤ k → i + k ≤ 2 * nf → k < n → k < n' → ∃ c' m' LA' LI', pf_X2_balance_L2 N nf nb n (nI i) c = some c' ∧ pf_X7_frame_L27 N n' m = pf_X7_frame_L75 N N 0 m' ∧ Rel hd nf nb LA' LI' LS ev tm dc rr c' m' ∧ c'.2.1 17 = c.2.1 17 ∧ m'.2.1 5 = m.2.1 5 ∧ c'.2.2 = c.2.2 := by
  intro k
  induction k with
  | zero =>
    intro LA LI c m i n n' R hk hi hn hn'
    obtain ⟨n, rfl⟩ : ∃ j, n = j + 1 := ⟨n - 1, by omega⟩
    obtain ⟨n', rfl⟩ : ∃ j, n' = j + 1 := ⟨n' - 1, by omega⟩
    have hL := R.2.2.2.2.2.2.2.2.2.2.2.2.2.2.2.2.2.1
    have hk1 := R.2.1
    have hlen := hL.len
    have hnf := R.1.2.1
    have hz : LA.length = 0 := by omega
    refine ⟨c, m, LA, LI, ?_, ?_, R, rfl, rfl, rfl⟩
    · rw [pf_X2_balance_L2]
      split
      · rfl
      · rw [hL.1.1, hL.2.1.1, List.length_map, List.length_map, if_n (by omega) (by omega), if_pos (by omega)]
    · rw [pf_X7_frame_L27, hL.2.2.1.1, hL.2.2.2.1.1, List.length_map, List.length_map, if_n (by omega) (by omega), if_pos (by omega)]
  | succ k ih =>
    intro LA LI c m i n n' R hk hi hn hn'
    obtain ⟨n, rfl⟩ : ∃ j, n = j + 1 := ⟨n - 1, by omega⟩
    obtain ⟨n', rfl⟩ : ∃ j, n' = j + 1 := ⟨n' - 1, by omega⟩
    have hL := R.2.2.2.2.2.2.2.2.2.2.2.2.2.2.2.2.2.1
    have hF := R.2.2.2.2.2.2.2.2.2.2.2.2.2.2.2.1
    have hk1 := R.2.1
    have hlen := hL.len
    have hnf := R.1.2.1
    rw [pf_X2_balance_L2, pf_X7_frame_L27, hk1.1, show (2 : Int32) = nI 2 from rfl, pk_mul, if_n (by omega) (by omega), if_neg (by omega), hL.1.1, hL.2.1.1, hL.2.2.1.1, hL.2.2.2.1.1, List.length_map, List.length_map, List.length_map, List.length_map, if_n (by omega) (by omega), if_n (by omega) (by omega)]
    by_cases hc : LA.length ≤ LI.length
    · rw [if_pos hc, if_pos hc]
      exact ⟨c, m, LA, LI, rfl, rfl, R, rfl, rfl, rfl⟩
    · rw [if_neg hc, if_neg hc]
      obtain ⟨P, ⟨f, p⟩, hLA⟩ := last_ex LA (by omega)
      subst hLA
      have hfp := (hL.2.2.2.2.2.2.1 f p).mp (by simp)
      obtain ⟨hf, hp, hsp, hac⟩ := hfp
      have hmf := R.mof hf hp hsp
      have hv := hF.2.2 f hf
      have hlast : pf_X3_last N nf (c.2.1 24, nI (P ++ [(f, p)]).length) = some (nI f) := by
        have := o_last (N := N) (n0 := nf) (τ := (c.2.1 24, c.1 6)) (L := P.map Prod.fst) (x := f) (by have := hL.1; rw [List.map_append] at this; exact this) (by simp at hlen ⊢; omega) (by omega)
        rw [hL.1.1, List.length_map] at this
        exact this
      have hidx : nI (P ++ [(f, p)]).length - (1 : Int32) = nI P.length := by
        rw [show (1 : Int32) = nI 1 from rfl, pk_sub (by simp)]; congr 1; simp
      have hPl : P.length < 65 := by simp at hlen; omega
      have hml : m.2.1 12 P.length = nI p := hL.2.2.1.2 P.length p (by rw [List.map_append]; simp)
      rw [hlast]
      simp only [Option.bind_some, lt_, bI_n hf (show nf < 2 ^ 31 by omega), cl_n (show f < 2 ^ 31 by omega), hidx, bI_n hPl (show 65 < 2 ^ 31 by decide), cl_n (show P.length < 2 ^ 31 by omega), hml, bI_n hp (show 3072 < 2 ^ 31 by decide), cl_n (show p < 2 ^ 31 by omega), hmf.2.2.2.1, nar0, nI_1]
      rw [if_neg (m1_ne (by omega))]
      have hnd := nd_split (P := P) (S := []) (f := f) (p := p) hL.2.2.2.2.1
      have happ : ∀ P' : List (Nat × Nat), P ++ [] = P' → P' = P := fun P' h => by simpa using h.symm
      rcases hv.1 with h0 | h0
      · rw [h0]
        obtain ⟨c1, m1, x1, x2, R1, x3, x4, x5, x6, x7, x8⟩ := op_AIr (N := N) (P := P) (S := []) R hN
        have x1' : pf_X2_toFront N nf nb (nI f) 0 c = some c1 := x1
        rw [x1', x2]
        simp only [Option.bind_some]
        rw [List.append_nil] at R1
        obtain ⟨c2, m2, LA2, LI2, y1, y2, R2, y3, y4, y5⟩ := ih P _ _ _ (i + 1) n n' R1 (by
          have e : rcn ((sA c1 19 (upd (c1.2.1 19) f 0)).2.1 19) P = rcn (c.2.1 19) P := rcn_congr (fun g q hg => by
            show upd (c1.2.1 19) f 0 g = _
            rw [un (hnd.2 g q (by simpa using hg)), x5])
          rw [e]
          rw [rcn_app] at hk
          simp at hk
          omega) (by omega) (by omega) (by omega)
        exact ⟨c2, m2, LA2, LI2, y1, y2, R2, y3.trans x3, y4.trans x7, y5.trans x8⟩
      · rw [h0]
        obtain ⟨c1, m1, x1, x2, R1, x3, x4, x5, x6, x7, x8⟩ := op_AAr (N := N) (P := P) (S := []) R hN
        have x1' : pf_X2_toFront N nf nb (nI f) 1 c = some c1 := x1
        rw [x1', x2]
        simp only [Option.bind_some]
        rw [List.append_nil] at R1
        obtain ⟨c2, m2, LA2, LI2, y1, y2, R2, y3, y4, y5⟩ := ih ((f, p) :: P) _ _ _ (i + 1) n n' R1 (by
          have e : rcn ((sA c1 19 (upd (c1.2.1 19) f 0)).2.1 19) ((f, p) :: P) = rcn (c.2.1 19) P := by
            show rcn (upd (c1.2.1 19) f 0) P + (if upd (c1.2.1 19) f 0 f = 1 then 1 else 0) = _
            rw [us_, if_neg (by decide), rcn_congr (re := c.2.1 19) (fun g q hg => by rw [un (hnd.2 g q (by simpa using hg)), x5])]
            omega
          rw [e]
          rw [rcn_app] at hk
          simp [rcn, h0] at hk ⊢
          omega) (by omega) (by omega) (by omega)
        exact ⟨c2, m2, LA2, LI2, y1, y2, R2, y3.trans x3, y4.trans x7, y5.trans x8⟩
