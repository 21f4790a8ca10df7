/-! THE LAW: the relation at the start; the calls; the script's rows; the two worlds side by side -/
theorem R3_0 {nf nb : Nat} (h4 : 4 ≤ nf) (h64 : nf ≤ 64) (h8 : 8 ≤ nb) (h512 : nb ≤ 512) : R3 nf nb 0 (iC nf nb) (iM nf nb 3072 12) := by
  refine R3.of (LA := []) (LI := []) (LS := []) (ev := 0) (tm := 0) (dc := 0) (rr := 0) ?_ (Nat.le_refl _) (Nat.le_refl _)
  have c17 : ∀ f, f < nf → (iC nf nb).2.1 17 f = -1 := fun f hf => if_pos hf
  have c18 : ∀ f, f < nf → (iC nf nb).2.1 18 f = -1 := fun f hf => if_pos hf
  have m5 : ∀ p, p < 3072 → (iM nf nb 3072 12).2.1 5 p = -1 := fun p hp => if_pos hp
  have m7 : ∀ p, p < 3072 → (iM nf nb 3072 12).2.1 7 p = -1 := fun p hp => if_pos hp
  have m6 : ∀ p, p < 3072 → (iM nf nb 3072 12).2.1 6 p = -1 := fun p hp => if_pos hp
  have hB : ∀ n, RBy n (fun _ => 0) (fun _ => 0) := fun n k hk => by
    show (0 : Int32) &&& 255 = nI (wbN (fun _ => 0) k)
    have : wbN (fun _ => (0 : Int64)) k = 0 := by
      unfold wbN
      show (0 : Nat) / _ % 256 = 0
      rw [Nat.zero_div]
    rw [this]; decide
  refine ⟨⟨h4, h64, h8, h512, by decide, by decide⟩, ⟨rfl, rfl, rfl⟩, rfl, ⟨fun i hi => ⟨0, by decide, rfl⟩, fun i hi => ⟨1, by decide, by decide, if_pos hi⟩⟩, rfl, rfl, rfl, rfl, rfl, rfl, rfl, ?_, ?_, ⟨rfl, 0, by decide, rfl⟩, ⟨rfl, rfl⟩, ?_, ?_, ?_, ?_, ?_, ?_, ?_, hB _, hB _, hB _⟩
  · refine ⟨fun p hp => Or.inl (m6 p hp), fun p p' hp hp' hne _ => absurd (m6 p hp) hne, fun b hb => ⟨Or.inl rfl, Or.inl rfl⟩, ?_⟩
    show nI nb = nI (cnt (fun _ => (0 : Int32) == 0) nb)
    congr 1
    have : ∀ n, cnt (fun _ => (0 : Int32) == 0) n = n := fun n => by
      induction n with
      | zero => rfl
      | succ n ih =>
        unfold cnt
        rw [ih]; rfl
    rw [this]
  · exact ⟨rfl, rfl, rfl, rfl, rfl, rfl, Or.inl ⟨rfl, rfl, rfl⟩, ⟨0, by decide, rfl⟩, by decide⟩
  · exact ⟨fun p hp => Or.inl ⟨m5 p hp, m7 p hp, rfl, rfl, rfl⟩, fun f hf => Or.inl ⟨c17 f hf, c18 f hf, rfl, rfl, rfl, rfl⟩, fun f hf => ⟨Or.inl rfl, Or.inl rfl, Or.inl rfl⟩⟩
  · exact fun f hf => Or.inl (c18 f hf)
  · refine ⟨ri_nil, ri_nil, ri_nil, ri_nil, List.Pairwise.nil, List.Pairwise.nil, fun f p => ⟨fun h => absurd h (by simp), fun h => absurd ((c17 f h.1).symm.trans h.2.2.1).symm (m1_ne (by omega))⟩, fun f p => ⟨fun h => absurd h (by simp), fun h => absurd ((c17 f h.1).symm.trans h.2.2.1).symm (m1_ne (by omega))⟩⟩
  · exact cnt_none (fun p hp => by
      show (!((iM nf nb 3072 12).2.1 5 p == -1)) = false
      rw [m5 p hp]; rfl)
  · exact ⟨rfl, (cnt_none (fun f hf => by
      show (!((iC nf nb).2.1 18 f == -1)) = false
      rw [c18 f hf]; rfl)).symm, (cnt_none (fun p hp => by
      show (!((iM nf nb 3072 12).2.1 7 p == -1)) = false
      rw [m7 p hp]; rfl)).symm⟩
  · exact ⟨0, rfl, (cnt_none (fun f hf => rfl)).symm, (cnt_none (fun p hp => rfl)).symm⟩
  · exact ⟨ri_nil, rfl, rfl, rfl, Nat.zero_le _, List.Pairwise.nil, List.Pairwise.nil, fun p v h => absurd h (by simp), fun p hp _ => ⟨if_pos hp, rfl⟩⟩
section QL
variable {nf nb k : Nat} {c m : St}
theorem l_size (R : R3 nf nb k c m) (x1 : Int32) : ∃ r, pf_X6_size 5000 nf nb x1 c = some r ∧ pf_X7_size 5000 x1 m = some r := by
  obtain ⟨_, _, _, _, _, _, _, R, -, -⟩ := R; exact q_size R x1
theorem l_hand (R : R3 nf nb k c m) (x1 : Int32) : ∃ r, pf_X6_hand 5000 nf nb x1 c = some r ∧ pf_X7_hand 5000 x1 m = some r := by
  obtain ⟨_, _, _, _, _, _, _, R, -, -⟩ := R; exact q_hand R x1
theorem l_disk (R : R3 nf nb k c m) (x1 x2 : Int32) : ∃ r, pf_X6_disk 5000 nf nb x1 x2 c = some r ∧ pf_X7_disk 5000 x1 x2 m = some r := by
  obtain ⟨_, _, _, _, _, _, _, R, -, -⟩ := R; exact q_disk R x1 x2
theorem l_run (R : R3 nf nb k c m) (x1 x2 : Int32) : ∃ r, pf_X6_run 5000 nf nb x1 x2 c = some r ∧ pf_X7_run 5000 x1 x2 m = some r := by
  obtain ⟨_, _, _, _, _, _, _, R, -, -⟩ := R; exact q_run R x1 x2
theorem l_listed (R : R3 nf nb k c m) (x1 x2 : Int32) : ∃ r, pf_X6_listed 5000 nf nb x1 x2 c = some r ∧ pf_X7_listed 5000 x1 x2 m = some r := by
  obtain ⟨_, _, _, _, _, _, _, R, -, -⟩ := R; exact q_listed R x1 x2
theorem l_page (R : R3 nf nb k c m) (x1 x2 x3 : Int32) : ∃ r, pf_X6_page 5000 nf nb x1 x2 x3 c = some r ∧ pf_X7_page 5000 x1 x2 x3 m = some r := by
  obtain ⟨_, _, _, _, _, _, _, R, -, -⟩ := R; exact q_page R (by decide) x1 x2 x3
theorem l_next (R : R3 nf nb k c m) (x1 x2 x3 : Int32) : ∃ r, pf_X6_next 5000 nf nb x1 x2 x3 c = some r ∧ pf_X7_next 5000 x1 x2 x3 m = some r := by
  obtain ⟨_, _, _, _, _, _, _, R, -, -⟩ := R; exact q_next R (by decide) x1 x2 x3
theorem l_told (R : R3 nf nb k c m) (x1 : Int32) : ∃ r, pf_X6_told 5000 nf nb x1 c = some r ∧ pf_X7_told 5000 x1 m = some r := by
  obtain ⟨_, _, _, _, _, _, _, R, -, -⟩ := R; exact q_told R (by decide) x1
theorem l_tree (R : R3 nf nb k c m) (x1 x2 : Int32) : ∃ r, pf_X6_tree 5000 nf nb x1 x2 c = some r ∧ pf_X7_tree 5000 x1 x2 m = some r := by
  obtain ⟨_, _, _, _, _, _, _, R, -, -⟩ := R; exact q_tree R (by decide) x1 x2
theorem l_fail (R : R3 nf nb k c m) (x1 : Int32) {x2 : Int32} (hx : Bo x2) : ∃ r c' m', pf_X6_fail 5000 nf nb x1 x2 c = some (r, c') ∧ pf_X7_fail 5000 x1 x2 m = some (r, m') ∧ R3 nf nb (k + 1) c' m' := by
  obtain ⟨LA, LI, LS, ev, tm, dc, rr, R, h1, h2⟩ := R
  obtain ⟨r, c', m', y1, y2, y3, -⟩ := q_fail (N := 5000) R x1 hx
  exact ⟨r, c', m', y1, y2, R3.of y3 (by omega) (by omega)⟩
end QL
def zb (x : Int32) : Int32 := if x = 0 then 0 else 1
theorem zb_b (x : Int32) : Bo (zb x) := by
  unfold zb
  by_cases h : x = 0
  · rw [if_pos h]; exact Or.inl rfl
  · rw [if_neg h]; exact Or.inr rfl
def wL (hc hm : Nat → Nat) (q : Nat → ClassId) (nf nb : Nat) (σ τ : St) : va_W := wC hc q nf nb σ ++ wM hm q τ
set_option maxRecDepth 20000 in
theorem sbC (hc hm : Nat → Nat) (q : Nat → ClassId) (nf nb : Nat) (σ σ' τ : St) : SubW (wL hc hm q nf nb σ τ) (wC hc q nf nb σ) (wC hc q nf nb σ') (wL hc hm q nf nb σ' τ) := SubW.of (wr := wM hm q τ) [0, 1, 2, 3, 4, 5, 6, 7, 8, 9, 10, 11, 12, 13, 14, 15, 16, 17, 18, 19, 20, 21, 22, 23, 24, 25, 26, 27, 28, 29, 30, 31, 32, 33, 34] [35, 36, 37, 38, 39, 40, 41, 42, 43, 44, 45, 46, 47, 48, 49, 50, 51, 52, 53, 54, 55, 56, 57, 58] [24, 25, 26, 27, 28, 29, 30, 31, 32, 33, 34, 35, 36, 37, 38, 39, 40, 41, 42, 43, 44, 45, 46, 47, 48, 49, 50, 51, 52, 53, 54, 55, 56, 57, 58, 0, 1, 2, 3, 4, 5, 6, 7, 8, 9, 10, 11, 12, 13, 14, 15, 16, 17, 18, 19, 20, 21, 22, 23] rfl rfl (by decide) (by decide) (by decide) rfl (by decide)
set_option maxRecDepth 20000 in
theorem sbM (hc hm : Nat → Nat) (q : Nat → ClassId) (nf nb : Nat) (σ τ τ' : St) : SubW (wL hc hm q nf nb σ τ) (wM hm q τ) (wM hm q τ') (wL hc hm q nf nb σ τ') := SubW.of (wr := wC hc q nf nb σ) [35, 36, 37, 38, 39, 40, 41, 42, 43, 44, 45, 46, 47, 48, 49, 50, 51, 52, 53, 54, 55, 56, 57, 58] [0, 1, 2, 3, 4, 5, 6, 7, 8, 9, 10, 11, 12, 13, 14, 15, 16, 17, 18, 19, 20, 21, 22, 23, 24, 25, 26, 27, 28, 29, 30, 31, 32, 33, 34] [0, 1, 2, 3, 4, 5, 6, 7, 8, 9, 10, 11, 12, 13, 14, 15, 16, 17, 18, 19, 20, 21, 22, 23, 24, 25, 26, 27, 28, 29, 30, 31, 32, 33, 34, 35, 36, 37, 38, 39, 40, 41, 42, 43, 44, 45, 46, 47, 48, 49, 50, 51, 52, 53, 54, 55, 56, 57, 58] rfl rfl (by decide) (by decide) (by decide) rfl (by decide)
/-- the script, where the law can see it -/
def SC (b L : Nat) (xs : Nat → Int32) (s : State) (A : Nat → Prop) : Prop := va_X b L xs s s.heap ∧ b < s.heap.size ∧ ¬ A b ∧ L ≤ 386
section SS
variable {p : Program} {l : Launch} {e : Env} {R : Room} {s : State} {m : MethodId} {args : Array Value} {below : List Frame} {meth : Method} {c : Code} {D : va_G} {A : Nat → Prop} {kc ks : Nat} {Q : State → Prop} {ws : va_W} {cc : ByteArray} {nL : Nat} {own : String} {tys : List (ClassId × FieldType)} {pc : Nat} {ls : Array Slot} {rest : List Value} {b L : Nat} {xs : Nat → Int32} {q0 : Nat → ClassId}
theorem s_slen (C : CX p s m args c cc nL own D tys A) (X : SC b L xs s A) (hd : decode cc pc = .ok (.arraylength, 1)) (k : WG p l e R s m args below meth c D A kc ks Q ws (F0 m (pc + 1) ls (.int (nI L) :: rest))) : WG p l e R s m args below meth c D A kc ks Q ws (F0 m pc ls (.ref b :: rest)) := fun H locs hP hD hS => va_slen C.1 C.2.1 X.1 X.2.1 X.2.2.1 hS hd (k H locs hP hD hS)
theorem s_sld (C : CX p s m args c cc nL own D tys A) (X : SC b L xs s A) {x : Int32} (j : Nat) (hx : x = nI j) (hj : j < L) (hd : decode cc pc = .ok (.iaload, 1)) (k : WG p l e R s m args below meth c D A kc ks Q ws (F0 m (pc + 1) ls (.int (xs j) :: rest))) : WG p l e R s m args below meth c D A kc ks Q ws (F0 m pc ls (.int x :: .ref b :: rest)) := fun H locs hP hD hS => by
  subst hx
  have hL := X.2.2.2
  refine va_sld C.1 C.2.1 X.1 X.2.1 X.2.2.1 hS (vp_in_nI hj (by omega)) hd ?_
  rw [nI_clamp (by omega)]
  exact k H locs hP hD hS
def cellV (L : Nat) (xs : Nat → Int32) (j : Nat) : Int32 := if j < L then xs j else 0
def PreX (D : va_G) (tys : List (ClassId × FieldType)) (b L : Nat) (xs : Nat → Int32) (sz : Nat) (U : State) : Prop := Pre D tys [] sz U ∧ va_X b L xs U U.heap ∧ b < sz ∧ L ≤ 386
theorem c_cell (l : Launch) (D : va_G) (q : Nat → ClassId) (b L : Nat) (xs : Nat → Int32) (j sz : Nat) (hj : j < 1000) : Met l yL_cell (Cond.code yL_cell cL_cell 2 (some .int) :: BIG) (rmO 0 0) (va_Pc [.ref b, .int (nI j)] (PreX D (tyQ q) b L xs sz)) (va_Qi (fun (r2 : Int32) (_ : Unit) => r2 = cellV L xs j) (Pst D (tyQ q) [] [] sz) (va_A [] sz)) 0 0 (va_A [] sz) := by
  refine Met.ofW (cc := cL_cell) (maxL := 2) (ret := some .int) rfl rfl ?_
  intro p e s m args below meth c s₁ B hml hv
  obtain ⟨rfl, ⟨hsz, hP, hK, hN, hD0⟩, hX, hbs, hL⟩ := hv
  have hts := atoms_spec (ws := Cond.code yL_cell cL_cell 2 (some .int) :: BIG) B.pre
  have hown : s.vm.findClass yL_cell.cls = some m.cls := findClass_of_methodNamed B.named
  have hlocks := B.notSynchronized
  subst hsz
  have hD := hD0.self (sz := s.heap.size)
  have hl := lv_entry [.ref b, .int (nI j)] (n := 2) (Nat.le_of_ble_eq_true rfl)
  rw [lg_entry_eq]
  generalize (lg_sl [.ref b, .int (nI j)] ++ List.replicate (2 - (lg_sl [.ref b, .int (nI j)]).length) Slot.unset).toArray = ls at hl ⊢
  have C : CX p s m [.ref b, .int (nI j)].toArray c cL_cell 2 yL_cell.cls D (tyQ q) (va_A [] s.heap.size) := ⟨B.exec, B.bytes, hml, hown, fun w h => hts w (List.mem_cons_of_mem _ h), hK, hN, fun q h => Or.inr h⟩
  have X : SC b L xs s (va_A [] s.heap.size) := ⟨hX, hbs, fun h => by
    rcases h with ⟨k, e, h⟩ | h
    · simp at h
    · omega, hL⟩
  have hl : lv_has ls 2 [(0, .ref b), (1, .int (nI j))] := hl
  have ret : ∀ (ls : Array Slot) (v : Int32), v = cellV L xs j → WG p l e (rmO 0 0) s m [.ref b, .int (nI j)].toArray below meth c D (va_A [] s.heap.size) 0 0 (MQ below (va_Qi (fun (r2 : Int32) (_ : Unit) => r2 = cellV L xs j) (Pst D (tyQ q) [] [] s.heap.size) (va_A [] s.heap.size)) [.ref b, .int (nI j)].toArray s 0 0 (va_A [] s.heap.size)) [] (F0 m 13 ls [.int v]) := by
    intro ls v er H locs hP hD hS
    subst er
    exact W.zret (v := cellV L xs j) C.1 C.2.1 B.returns rfl (fun t ht hW => ⟨⟨_, (), rfl, rfl, by rw [ht]; exact hP, va_K.moved hW.alike hK, hD⟩, hS.F ht⟩) hS.2.2 dL_cell_13
  have go : WG p l e (rmO 0 0) s m [.ref b, .int (nI j)].toArray below meth c D (va_A [] s.heap.size) 0 0 (MQ below (va_Qi (fun (r2 : Int32) (_ : Unit) => r2 = cellV L xs j) (Pst D (tyQ q) [] [] s.heap.size) (va_A [] s.heap.size)) [.ref b, .int (nI j)].toArray s 0 0 (va_A [] s.heap.size)) [] (F0 m 0 ls []) := by
    refine s_iload_n C dL_cell_0 rfl (lv_at hl 1 rfl) ?_
    refine s_aload_n C dL_cell_1 rfl (lv_at hl 0 rfl) ?_
    refine s_slen C X dL_cell_2 ?_
    refine s_icmp_ge (tgt := 12) C dL_cell_3 (by decide) (fun c1 => ?_) (fun c1 => ?_)
    · refine s_iconst (v := (0 : Int32)) C dL_cell_12 (by decide) ?_
      have := (nI_leI (by omega) (by omega)).mp c1
      exact ret ls 0 (by unfold cellV; rw [if_neg (by omega)])
    · refine s_aload_n C dL_cell_6 rfl (lv_at hl 0 rfl) ?_
      refine s_iload_n C dL_cell_7 rfl (lv_at hl 1 rfl) ?_
      have hjl : j < L := by
        rcases Nat.lt_or_ge j L with h | h
        · exact h
        · exact absurd ((nI_leI (by omega) (by omega)).mpr h) c1
      refine s_sld C X j rfl hjl dL_cell_8 ?_
      refine s_goto (tgt := 13) C dL_cell_9 (by decide) ?_
      exact ret ls _ (by unfold cellV; rw [if_pos hjl])
  exact go s.heap [] hP hD va_S.rf
theorem cx_cell : (yL_cell.cls ≠ "java/lang/invoke/MethodHandle" ∧ yL_cell.cls ≠ "java/lang/invoke/VarHandle" ∧ (parseMethodDescriptor yL_cell.desc).map (fun d => d.parameters.length) = some 2) := by decide +kernel
theorem prex_blind {av : List Value} {D : va_G} {tys : List (ClassId × FieldType)} {b L : Nat} {xs : Nat → Int32} {sz : Nat} : FrameBlind (va_Pc av (PreX D tys b L xs sz)) := fun a U g mk q => by
  obtain ⟨q0, ⟨q1, qP, qK, qN, qD⟩, qX, qb, qL⟩ := q
  exact ⟨q0, ⟨q1, qP, va_K.moved (u := U) (U := U.calling g mk a) (Vm.Alike.refl U.vm) qK, nst.same (s := U) (U := U.calling g mk a) rfl qN, qD⟩, va_X.moved (u := U) (U := U.calling g mk a) (Vm.Alike.refl U.vm) qX, qb, qL⟩
theorem s_cell (C : CX p s m args c cc nL own D (tyQ q0) A) (X : SC b L xs s A) {index : Nat} (j : Nat) (hj : j < 1000) (hcw : CS R own index yL_cell cL_cell 2 (some .int) 0 0 2) (hsz : ls.size = nL) {x : Int32} (hx : x = nI j) (hcat : (rest.map fun v => v.category).sum ≤ 8) (hd : decode cc pc = .ok (.invokestatic index, 3)) (h1 : kc ≤ R.cells) (h2 : ks ≤ R.slots) (k : WG p l e R s m args below meth c D A kc ks Q ws (F0 m (pc + 3) ls (.int (cellV L xs j) :: rest))) : WG p l e R s m args below meth c D A kc ks Q ws (F0 m pc ls (.int x :: .ref b :: rest)) := by
  subst hx
  intro H locs hP hD hS
  have hFc : ∀ q, va_A [] H.size q → A q := fun q h => by
    rcases h with ⟨k, e, h⟩ | h
    · simp at h
    · exact C.2.2.2.2.2.2.2 q (Nat.le_trans hS.1 h)
  have hP0 : va_P D vwCl [] H := fun k q h => by simp at h
  have hD0 : va_D A [] := ⟨fun i j p q h => by simp at h, fun k q h => by simp at h⟩
  have hXH : va_X b L xs s H := X.1.kept (hS.2.1 b X.2.1 X.2.2.1)
  refine va_calli (va_runS (As := [.ref b, .int (nI j)]) (rest := rest) ⟨C.1, C.2.1, C.2.2.1, C.2.2.2.1, C.2.2.2.2.1⟩ (c_cell l D q0 b L xs j H.size hj) (cs_b C.2.2.2.2.1 hcw) ⟨prex_blind, fun U hU hW => ⟨rfl, pre_at hU hW hP0 C.2.2.2.2.2.1 C.2.2.2.2.2.2.1 hD0, by rw [hU]; exact va_X.moved hW.alike hXH, Nat.lt_of_lt_of_le X.2.1 hS.1, X.2.2.2⟩⟩ rfl rfl hsz rfl (lv_room hcat) hd ⟨h1, h2⟩) hS (fun q _ h => hFc q h) hFc (fun r2 u t H1 locs1 ht hvm hw hB hz1 hk1 hS1 => ?_)
  subst hw
  have hlt : ∀ (k : Nat) (x : Nat × va_E), ws[k]? = some x → H1[x.1]? = H[x.1]? := fun k x hx => hk1 x.1 ((hP k x hx).lt) (fun h => by
    rcases h with ⟨k2, e2, h⟩ | h
    · simp at h
    · exact absurd ((hP k x hx).lt) (by omega))
  exact k H1 locs1 (hP.kept hlt) hD hS1
end SS
