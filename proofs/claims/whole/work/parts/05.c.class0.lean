def pf_X0_begin (N : Nat) (nf : Nat) (nb : Nat) (σ : St) : Option St := lt_ (sG σ 4 (1 : Int32)) (fun σ1 => some σ1)
theorem cx_X0_begin : (yX0_begin.cls ≠ "java/lang/invoke/MethodHandle" ∧ yX0_begin.cls ≠ "java/lang/invoke/VarHandle" ∧ (parseMethodDescriptor yX0_begin.desc).map (fun d => d.parameters.length) = some 0) := by decide +kernel
set_option maxHeartbeats 4000000 in
set_option maxRecDepth 100000 in
theorem c_X0_begin (l : Launch) (D : va_G) (q : Nat → ClassId) (h : Nat → Nat) (N : Nat) (nf : Nat) (nb : Nat) (σ : St) (z : St) (hf : pf_X0_begin N nf nb σ = some z) : MV l yX0_begin cX0_begin 1 (none) 0 0 D (tyQ q) [.ref (h 1)] (wC h q nf nb σ) (wC h q nf nb z) := by
  refine MV.of (by decide) (Nat.le_of_ble_eq_true rfl) ?_
  intro p e s m args below meth c Q A C ret ls hl
  have hl : lv_has ls 1 [(0, .ref (h 1))] := hl
  unfold pf_X0_begin at hf
  refine s_aload_n C dX0_begin_0 rfl (lv_at hl 0 rfl) ?_
  refine s_iconst (v := (1 : Int32)) C dX0_begin_1 (by decide) ?_
  refine uC_1_10 C wd_1_63 rfl dX0_begin_2 ?_
  obtain ⟨σ1, e2, hf⟩ := lt_some hf
  refine s_w (ws2 := (wC h q nf nb σ1)) (by rw [e2]) ?_
  clear e2
  exact ret _ _ _ dX0_begin_5 (congrArg (fun σ => (wC h q nf nb σ)) (rt_1 hf))
def pf_X0_has (N : Nat) (nf : Nat) (nb : Nat) (x1 : Int32) (σ : St) : Option Int32 := if x1 < 0 then some (0 : Int32) else if (nI (nb)) ≤ x1 then some (0 : Int32) else some (1 : Int32)
theorem cx_X0_has : (yX0_has.cls ≠ "java/lang/invoke/MethodHandle" ∧ yX0_has.cls ≠ "java/lang/invoke/VarHandle" ∧ (parseMethodDescriptor yX0_has.desc).map (fun d => d.parameters.length) = some 1) := by decide +kernel
set_option maxHeartbeats 4000000 in
set_option maxRecDepth 100000 in
theorem c_X0_has (l : Launch) (D : va_G) (q : Nat → ClassId) (h : Nat → Nat) (N : Nat) (nf : Nat) (nb : Nat) (x1 : Int32) (σ : St) (z : Int32) (hf : pf_X0_has N nf nb x1 σ = some z) : MI l yX0_has cX0_has 2 (some .boolean) 0 0 D (tyQ q) [.ref (h 1), .int x1] (wC h q nf nb σ) (wC h q nf nb σ) z := by
  refine MI.of (by decide) (Nat.le_of_ble_eq_true rfl) ?_
  intro p e s m args below meth c Q A C ret ls hl
  have hl : lv_has ls 2 [(0, .ref (h 1)), (1, .int x1)] := hl
  unfold pf_X0_has at hf
  refine s_iload_n C dX0_has_0 rfl (lv_at hl 1 rfl) ?_
  refine s_if_lt (tgt := 17) C dX0_has_1 (by decide) (fun c1 => ?_) (fun c1 => ?_)
  · replace hf := it_t c1 hf
    refine s_iconst (v := (0 : Int32)) C dX0_has_17 (by decide) ?_
    exact ret _ _ _ _ dX0_has_18 rfl (rt_1 hf) rfl
  · replace hf := it_f c1 hf
    refine s_iload_n C dX0_has_4 rfl (lv_at hl 1 rfl) ?_
    refine s_aload_n C dX0_has_5 rfl (lv_at hl 0 rfl) ?_
    refine gC_1_2 C wd_1_48 dX0_has_6 ?_
    refine alC_5 C dX0_has_9 ?_
    refine s_icmp_ge (tgt := 17) C dX0_has_10 (by decide) (fun c2 => ?_) (fun c2 => ?_)
    · replace hf := it_t c2 hf
      refine s_iconst (v := (0 : Int32)) C dX0_has_17 (by decide) ?_
      exact ret _ _ _ _ dX0_has_18 rfl (rt_1 hf) rfl
    · replace hf := it_f c2 hf
      refine s_iconst (v := (1 : Int32)) C dX0_has_13 (by decide) ?_
      refine s_goto (tgt := 18) C dX0_has_14 (by decide) ?_
      exact ret _ _ _ _ dX0_has_18 rfl (rt_1 hf) rfl
def pf_X0_giveBack (N : Nat) (nf : Nat) (nb : Nat) (x1 : Int32) (σ : St) : Option St := (pf_X0_has N nf nb x1 σ).bind (fun z1 => if z1 = 0 then some σ else bI x1 (nb) (if ((σ.2.1 5) (Int32.toNatClampNeg x1)) = 0 then some σ else bI x1 (nb) (lt_ (sA σ 5 (upd (σ.2.1 5) (Int32.toNatClampNeg x1) (vp_nar .boolean (0 : Int32)))) (fun σ7 => lt_ (sG σ7 0 ((σ7.1 0) + (1 : Int32))) (fun σ9 => some σ9)))))
theorem cx_X0_giveBack : (yX0_giveBack.cls ≠ "java/lang/invoke/MethodHandle" ∧ yX0_giveBack.cls ≠ "java/lang/invoke/VarHandle" ∧ (parseMethodDescriptor yX0_giveBack.desc).map (fun d => d.parameters.length) = some 1) := by decide +kernel
set_option maxHeartbeats 4000000 in
set_option maxRecDepth 100000 in
theorem c_X0_giveBack (l : Launch) (D : va_G) (q : Nat → ClassId) (h : Nat → Nat) (N : Nat) (nf : Nat) (nb : Nat) (x1 : Int32) (σ : St) (z : St) (hf : pf_X0_giveBack N nf nb x1 σ = some z) : MV l yX0_giveBack cX0_giveBack 2 (none) 1 21 D (tyQ q) [.ref (h 1), .int x1] (wC h q nf nb σ) (wC h q nf nb z) := by
  refine MV.of (by decide) (Nat.le_of_ble_eq_true rfl) ?_
  intro p e s m args below meth c Q A C ret ls hl
  have hl : lv_has ls 2 [(0, .ref (h 1)), (1, .int x1)] := hl
  unfold pf_X0_giveBack at hf
  refine s_aload_n C dX0_giveBack_0 rfl (lv_at hl 0 rfl) ?_
  refine s_iload_n C dX0_giveBack_1 rfl (lv_at hl 1 rfl) ?_
  obtain ⟨z1, h2, hf⟩ := bn_some hf
  refine s_callIV (As := [.int x1]) (rest := []) C (c_X0_has l D q h N nf nb x1 σ z1 h2) ⟨wd_2_102, wd_2_103, wd_2_104, wd_1_4, wd_2_105, cx_X0_has, Nat.le_of_ble_eq_true rfl, Nat.le_of_ble_eq_true rfl⟩ 1 (ci := 0) rfl rfl rfl (SubW.full _ _) rfl hl.1 rfl (Nat.le_of_ble_eq_true rfl) dX0_giveBack_2 (Nat.zero_le _) (Nat.zero_le _) ?_
  refine s_if_eq (tgt := 34) C dX0_giveBack_5 (by decide) (fun c3 => ?_) (fun c3 => ?_)
  · replace hf := it_t c3 hf
    exact ret _ _ _ dX0_giveBack_34 (congrArg (fun σ => (wC h q nf nb σ)) (rt_1 hf))
  · replace hf := it_f c3 hf
    refine s_aload_n C dX0_giveBack_8 rfl (lv_at hl 0 rfl) ?_
    refine gC_1_2 C wd_1_48 dX0_giveBack_9 ?_
    refine s_iload_n C dX0_giveBack_12 rfl (lv_at hl 1 rfl) ?_
    obtain ⟨hi4, hf⟩ := bI_some hf
    refine ldC_5 C hi4 dX0_giveBack_13 ?_
    refine s_if_eq (tgt := 34) C dX0_giveBack_14 (by decide) (fun c5 => ?_) (fun c5 => ?_)
    · replace hf := it_t c5 hf
      exact ret _ _ _ dX0_giveBack_34 (congrArg (fun σ => (wC h q nf nb σ)) (rt_1 hf))
    · replace hf := it_f c5 hf
      refine s_aload_n C dX0_giveBack_17 rfl (lv_at hl 0 rfl) ?_
      refine gC_1_2 C wd_1_48 dX0_giveBack_18 ?_
      refine s_iload_n C dX0_giveBack_21 rfl (lv_at hl 1 rfl) ?_
      refine s_iconst (v := (0 : Int32)) C dX0_giveBack_22 (by decide) ?_
      obtain ⟨hi6, hf⟩ := bI_some hf
      refine stC_5 C hi6 dX0_giveBack_23 ?_
      obtain ⟨σ7, e8, hf⟩ := lt_some hf
      refine s_w (ws2 := (wC h q nf nb σ7)) (by rw [e8]) ?_
      clear e8
      refine s_aload_n C dX0_giveBack_24 rfl (lv_at hl 0 rfl) ?_
      refine s_dup C dX0_giveBack_25 rfl ?_
      refine gC_1_3 C wd_1_49 dX0_giveBack_26 ?_
      refine s_iconst (v := (1 : Int32)) C dX0_giveBack_29 (by decide) ?_
      refine s_iadd C dX0_giveBack_30 ?_
      refine uC_1_3 C wd_1_49 dX0_giveBack_31 ?_
      obtain ⟨σ9, e10, hf⟩ := lt_some hf
      refine s_w (ws2 := (wC h q nf nb σ9)) (by rw [e10]) ?_
      clear e10
      exact ret _ _ _ dX0_giveBack_34 (congrArg (fun σ => (wC h q nf nb σ)) (rt_1 hf))
def pf_X0_leastFree_L2 (N : Nat) (nf : Nat) (nb : Nat) : Nat → Int32 → St → Option (Int32 × St)
  | 0, _, _ => none
  | n + 1, x1, σ => if (nI (nb)) ≤ x1 then some ((-1 : Int32), σ) else if (σ.1 0) ≤ 0 then some ((-1 : Int32), σ) else bI x1 (nb) (if ((σ.2.1 5) (Int32.toNatClampNeg x1)) = 0 then bI x1 (nb) (lt_ (sA σ 5 (upd (σ.2.1 5) (Int32.toNatClampNeg x1) (vp_nar .boolean (1 : Int32)))) (fun σ6 => lt_ (sG σ6 0 ((σ6.1 0) - (1 : Int32))) (fun σ8 => some (x1, σ8)))) else (pf_X0_leastFree_L2 N nf nb n) (x1 + 1) σ)
def pf_X0_leastFree (N : Nat) (nf : Nat) (nb : Nat) (σ : St) : Option (Int32 × St) := pf_X0_leastFree_L2 N nf nb N (0 : Int32) σ
theorem cx_X0_leastFree : (yX0_leastFree.cls ≠ "java/lang/invoke/MethodHandle" ∧ yX0_leastFree.cls ≠ "java/lang/invoke/VarHandle" ∧ (parseMethodDescriptor yX0_leastFree.desc).map (fun d => d.parameters.length) = some 0) := by decide +kernel
set_option maxHeartbeats 4000000 in
set_option maxRecDepth 100000 in
theorem c_X0_leastFree (l : Launch) (D : va_G) (q : Nat → ClassId) (h : Nat → Nat) (N : Nat) (nf : Nat) (nb : Nat) (σ : St) (z : (Int32 × St)) (hf : pf_X0_leastFree N nf nb σ = some z) : MI l yX0_leastFree cX0_leastFree 2 (some .int) 0 0 D (tyQ q) [.ref (h 1)] (wC h q nf nb σ) (wC h q nf nb z.2) z.1 := by
  refine MI.of (by decide) (Nat.le_of_ble_eq_true rfl) ?_
  intro p e s m args below meth c Q A C ret ls hl
  have hl : lv_has ls 2 [(0, .ref (h 1))] := hl
  unfold pf_X0_leastFree at hf
  have L2 : ∀ (n : Nat) (x1 : Int32) (σ : St), pf_X0_leastFree_L2 N nf nb n x1 σ = some z → ∀ ls : Array Slot, lv_has ls 2 [(0, .ref (h 1)), (1, .int x1)] → WG p l e (rmO 0 0) s m args below meth c D A 0 0 Q (wC h q nf nb σ) (F0 m 2 ls []) := by
    intro n
    induction n with
    | zero => intro x1 σ hf; unfold pf_X0_leastFree_L2 at hf; cases hf
    | succ n ih =>
      intro x1 σ hf ls hl
      unfold pf_X0_leastFree_L2 at hf
      refine s_iload_n C dX0_leastFree_2 rfl (lv_at hl 1 rfl) ?_
      refine s_aload_n C dX0_leastFree_3 rfl (lv_at hl 0 rfl) ?_
      refine gC_1_2 C wd_1_48 dX0_leastFree_4 ?_
      refine alC_5 C dX0_leastFree_7 ?_
      refine s_icmp_ge (tgt := 52) C dX0_leastFree_8 (by decide) (fun c1 => ?_) (fun c1 => ?_)
      · replace hf := it_t c1 hf
        refine s_iconst (v := (-1 : Int32)) C dX0_leastFree_52 (by decide) ?_
        exact ret _ _ _ _ dX0_leastFree_53 rfl (rt_2 hf).1 (congrArg (fun σ => (wC h q nf nb σ)) (rt_2 hf).2)
      · replace hf := it_f c1 hf
        refine s_aload_n C dX0_leastFree_11 rfl (lv_at hl 0 rfl) ?_
        refine gC_1_3 C wd_1_49 dX0_leastFree_12 ?_
        refine s_if_le (tgt := 52) C dX0_leastFree_15 (by decide) (fun c2 => ?_) (fun c2 => ?_)
        · replace hf := it_t c2 hf
          refine s_iconst (v := (-1 : Int32)) C dX0_leastFree_52 (by decide) ?_
          exact ret _ _ _ _ dX0_leastFree_53 rfl (rt_2 hf).1 (congrArg (fun σ => (wC h q nf nb σ)) (rt_2 hf).2)
        · replace hf := it_f c2 hf
          refine s_aload_n C dX0_leastFree_18 rfl (lv_at hl 0 rfl) ?_
          refine gC_1_2 C wd_1_48 dX0_leastFree_19 ?_
          refine s_iload_n C dX0_leastFree_22 rfl (lv_at hl 1 rfl) ?_
          obtain ⟨hi3, hf⟩ := bI_some hf
          refine ldC_5 C hi3 dX0_leastFree_23 ?_
          refine s_if_ne (tgt := 46) C dX0_leastFree_24 (by decide) (fun c4 => ?_) (fun c4 => ?_)
          · replace hf := it_f c4 hf
            refine s_iinc (v := (x1 + 1)) (lv2 := [(1, .int (x1 + 1)), (0, .ref (h 1))]) C 1 dX0_leastFree_46 hl rfl rfl (by decide) rfl ?_
            intro ls hl
            refine s_goto (tgt := 2) C dX0_leastFree_49 (by decide) ?_
            exact ih _ _ hf _ (lv_sub hl [1, 0] rfl)
          · replace hf := it_t c4 hf
            refine s_aload_n C dX0_leastFree_27 rfl (lv_at hl 0 rfl) ?_
            refine gC_1_2 C wd_1_48 dX0_leastFree_28 ?_
            refine s_iload_n C dX0_leastFree_31 rfl (lv_at hl 1 rfl) ?_
            refine s_iconst (v := (1 : Int32)) C dX0_leastFree_32 (by decide) ?_
            obtain ⟨hi5, hf⟩ := bI_some hf
            refine stC_5 C hi5 dX0_leastFree_33 ?_
            obtain ⟨σ6, e7, hf⟩ := lt_some hf
            refine s_w (ws2 := (wC h q nf nb σ6)) (by rw [e7]) ?_
            clear e7
            refine s_aload_n C dX0_leastFree_34 rfl (lv_at hl 0 rfl) ?_
            refine s_dup C dX0_leastFree_35 rfl ?_
            refine gC_1_3 C wd_1_49 dX0_leastFree_36 ?_
            refine s_iconst (v := (1 : Int32)) C dX0_leastFree_39 (by decide) ?_
            refine s_isub C dX0_leastFree_40 ?_
            refine uC_1_3 C wd_1_49 dX0_leastFree_41 ?_
            obtain ⟨σ8, e9, hf⟩ := lt_some hf
            refine s_w (ws2 := (wC h q nf nb σ8)) (by rw [e9]) ?_
            clear e9
            refine s_iload_n C dX0_leastFree_44 rfl (lv_at hl 1 rfl) ?_
            exact ret _ _ _ _ dX0_leastFree_45 rfl (rt_2 hf).1 (congrArg (fun σ => (wC h q nf nb σ)) (rt_2 hf).2)
  refine s_iconst (v := (0 : Int32)) C dX0_leastFree_0 (by decide) ?_
  refine s_istore_n (lv2 := [(1, .int (0 : Int32)), (0, .ref (h 1))]) C dX0_leastFree_1 rfl hl (by decide) rfl ?_
  intro ls hl
  exact L2 N _ _ hf _ (lv_sub hl [1, 0] rfl)
def pf_X0_note_b68 (N : Nat) (nf : Nat) (nb : Nat) (x1 : Int32) (x2 : Int32) (σ : St) : Option St := if (256 : Int32) ≤ (σ.1 3) then some σ else bI (σ.1 3) (256) (lt_ (sA σ 6 (upd (σ.2.1 6) (Int32.toNatClampNeg (σ.1 3)) x1)) (fun σ7 => bI (σ7.1 3) (256) (lt_ (sA σ7 7 (upd (σ7.2.1 7) (Int32.toNatClampNeg (σ7.1 3)) x2)) (fun σ10 => bI (σ10.1 3) (256) (lt_ (sA σ10 8 (upd (σ10.2.1 8) (Int32.toNatClampNeg (σ10.1 3)) (1 : Int32))) (fun σ13 => lt_ (sG σ13 3 ((σ13.1 3) + (1 : Int32))) (fun σ15 => some σ15)))))))
def pf_X0_note_b17 (N : Nat) (nf : Nat) (nb : Nat) (x1 : Int32) (x2 : Int32) (σ : St) : Option St := lt_ ((σ.1 3) - (1 : Int32)) (fun v2 => if v2 < 0 then pf_X0_note_b68 N nf nb x1 x2 σ else bI v2 (256) (if ((σ.2.1 6) (Int32.toNatClampNeg v2)) = x1 then bI v2 (256) (bI v2 (256) (if (((σ.2.1 7) (Int32.toNatClampNeg v2)) + ((σ.2.1 8) (Int32.toNatClampNeg v2))) = x2 then bI v2 (256) (bI v2 (256) (lt_ (sA σ 8 (upd (σ.2.1 8) (Int32.toNatClampNeg v2) (((σ.2.1 8) (Int32.toNatClampNeg v2)) + (1 : Int32)))) (fun σ24 => some σ24))) else pf_X0_note_b68 N nf nb x1 x2 σ)) else pf_X0_note_b68 N nf nb x1 x2 σ))
def pf_X0_note (N : Nat) (nf : Nat) (nb : Nat) (x1 : Int32) (x2 : Int32) (σ : St) : Option St := if (σ.1 4) = 0 then pf_X0_note_b17 N nf nb x1 x2 σ else lt_ (sG σ 3 (0 : Int32)) (fun σ26 => lt_ (sG σ26 4 (0 : Int32)) (fun σ28 => pf_X0_note_b17 N nf nb x1 x2 σ28))
theorem cx_X0_note : (yX0_note.cls ≠ "java/lang/invoke/MethodHandle" ∧ yX0_note.cls ≠ "java/lang/invoke/VarHandle" ∧ (parseMethodDescriptor yX0_note.desc).map (fun d => d.parameters.length) = some 2) := by decide +kernel
set_option maxHeartbeats 4000000 in
set_option maxRecDepth 100000 in
theorem c_X0_note (l : Launch) (D : va_G) (q : Nat → ClassId) (h : Nat → Nat) (N : Nat) (nf : Nat) (nb : Nat) (x1 : Int32) (x2 : Int32) (σ : St) (z : St) (hf : pf_X0_note N nf nb x1 x2 σ = some z) : MV l yX0_note cX0_note 4 (none) 0 0 D (tyQ q) [.ref (h 1), .int x1, .int x2] (wC h q nf nb σ) (wC h q nf nb z) := by
  refine MV.of (by decide) (Nat.le_of_ble_eq_true rfl) ?_
  intro p e s m args below meth c Q A C ret ls hl
  have hl : lv_has ls 4 [(0, .ref (h 1)), (1, .int x1), (2, .int x2)] := hl
  unfold pf_X0_note at hf
  have b68 : ∀ (x1 : Int32) (x2 : Int32) (σ : St), pf_X0_note_b68 N nf nb x1 x2 σ = some z → ∀ ls : Array Slot, lv_has ls 4 [(0, .ref (h 1)), (1, .int x1), (2, .int x2)] → WG p l e (rmO 0 0) s m args below meth c D A 0 0 Q (wC h q nf nb σ) (F0 m 68 ls []) := by
    intro x1 x2 σ hf ls hl
    unfold pf_X0_note_b68 at hf
    refine s_aload_n C dX0_note_68 rfl (lv_at hl 0 rfl) ?_
    refine gC_1_9 C wd_1_61 dX0_note_69 ?_
    refine s_sipush (v := (256 : Int32)) C dX0_note_72 (by decide) ?_
    refine s_icmp_ge (tgt := 118) C dX0_note_75 (by decide) (fun c5 => ?_) (fun c5 => ?_)
    · replace hf := it_t c5 hf
      exact ret _ _ _ dX0_note_118 (congrArg (fun σ => (wC h q nf nb σ)) (rt_1 hf))
    · replace hf := it_f c5 hf
      refine s_aload_n C dX0_note_78 rfl (lv_at hl 0 rfl) ?_
      refine gC_1_6 C wd_1_55 dX0_note_79 ?_
      refine s_aload_n C dX0_note_82 rfl (lv_at hl 0 rfl) ?_
      refine gC_1_9 C wd_1_61 dX0_note_83 ?_
      refine s_iload_n C dX0_note_86 rfl (lv_at hl 1 rfl) ?_
      obtain ⟨hi6, hf⟩ := bI_some hf
      refine stC_6 C hi6 dX0_note_87 ?_
      obtain ⟨σ7, e8, hf⟩ := lt_some hf
      refine s_w (ws2 := (wC h q nf nb σ7)) (by rw [e8]) ?_
      clear e8
      refine s_aload_n C dX0_note_88 rfl (lv_at hl 0 rfl) ?_
      refine gC_1_7 C wd_1_57 dX0_note_89 ?_
      refine s_aload_n C dX0_note_92 rfl (lv_at hl 0 rfl) ?_
      refine gC_1_9 C wd_1_61 dX0_note_93 ?_
      refine s_iload_n C dX0_note_96 rfl (lv_at hl 2 rfl) ?_
      obtain ⟨hi9, hf⟩ := bI_some hf
      refine stC_7 C hi9 dX0_note_97 ?_
      obtain ⟨σ10, e11, hf⟩ := lt_some hf
      refine s_w (ws2 := (wC h q nf nb σ10)) (by rw [e11]) ?_
      clear e11
      refine s_aload_n C dX0_note_98 rfl (lv_at hl 0 rfl) ?_
      refine gC_1_8 C wd_1_59 dX0_note_99 ?_
      refine s_aload_n C dX0_note_102 rfl (lv_at hl 0 rfl) ?_
      refine gC_1_9 C wd_1_61 dX0_note_103 ?_
      refine s_iconst (v := (1 : Int32)) C dX0_note_106 (by decide) ?_
      obtain ⟨hi12, hf⟩ := bI_some hf
      refine stC_8 C hi12 dX0_note_107 ?_
      obtain ⟨σ13, e14, hf⟩ := lt_some hf
      refine s_w (ws2 := (wC h q nf nb σ13)) (by rw [e14]) ?_
      clear e14
      refine s_aload_n C dX0_note_108 rfl (lv_at hl 0 rfl) ?_
      refine s_dup C dX0_note_109 rfl ?_
      refine gC_1_9 C wd_1_61 dX0_note_110 ?_
      refine s_iconst (v := (1 : Int32)) C dX0_note_113 (by decide) ?_
      refine s_iadd C dX0_note_114 ?_
      refine uC_1_9 C wd_1_61 dX0_note_115 ?_
      obtain ⟨σ15, e16, hf⟩ := lt_some hf
      refine s_w (ws2 := (wC h q nf nb σ15)) (by rw [e16]) ?_
      clear e16
      exact ret _ _ _ dX0_note_118 (congrArg (fun σ => (wC h q nf nb σ)) (rt_1 hf))
  have b17 : ∀ (x1 : Int32) (x2 : Int32) (σ : St), pf_X0_note_b17 N nf nb x1 x2 σ = some z → ∀ ls : Array Slot, lv_has ls 4 [(0, .ref (h 1)), (1, .int x1), (2, .int x2)] → WG p l e (rmO 0 0) s m args below meth c D A 0 0 Q (wC h q nf nb σ) (F0 m 17 ls []) := by
    intro x1 x2 σ hf ls hl
    unfold pf_X0_note_b17 at hf
    refine s_aload_n C dX0_note_17 rfl (lv_at hl 0 rfl) ?_
    refine gC_1_9 C wd_1_61 dX0_note_18 ?_
    refine s_iconst (v := (1 : Int32)) C dX0_note_21 (by decide) ?_
    refine s_isub C dX0_note_22 ?_
    obtain ⟨v2, e3, hf⟩ := lt_some hf
    refine s_eq (g2 := F0 m 23 ls [.int v2]) (by rw [e3]) ?_
    clear e3
    refine s_istore_n (lv2 := [(3, .int v2), (0, .ref (h 1)), (1, .int x1), (2, .int x2)]) C dX0_note_23 rfl hl (by decide) rfl ?_
    intro ls hl
    refine s_iload_n C dX0_note_24 rfl (lv_at hl 0 rfl) ?_
    refine s_if_lt (tgt := 68) C dX0_note_25 (by decide) (fun c4 => ?_) (fun c4 => ?_)
    · replace hf := it_t c4 hf
      exact b68 _ _ _ hf _ (lv_sub hl [1, 2, 3] rfl)
    · replace hf := it_f c4 hf
      refine s_aload_n C dX0_note_28 rfl (lv_at hl 1 rfl) ?_
      refine gC_1_6 C wd_1_55 dX0_note_29 ?_
      refine s_iload_n C dX0_note_32 rfl (lv_at hl 0 rfl) ?_
      obtain ⟨hi17, hf⟩ := bI_some hf
      refine ldC_6 C hi17 dX0_note_33 ?_
      refine s_iload_n C dX0_note_34 rfl (lv_at hl 2 rfl) ?_
      refine s_icmp_ne (tgt := 68) C dX0_note_35 (by decide) (fun c18 => ?_) (fun c18 => ?_)
      · replace hf := it_f c18 hf
        exact b68 _ _ _ hf _ (lv_sub hl [1, 2, 3] rfl)
      · replace hf := it_t c18 hf
        refine s_aload_n C dX0_note_38 rfl (lv_at hl 1 rfl) ?_
        refine gC_1_7 C wd_1_57 dX0_note_39 ?_
        refine s_iload_n C dX0_note_42 rfl (lv_at hl 0 rfl) ?_
        obtain ⟨hi19, hf⟩ := bI_some hf
        refine ldC_7 C hi19 dX0_note_43 ?_
        refine s_aload_n C dX0_note_44 rfl (lv_at hl 1 rfl) ?_
        refine gC_1_8 C wd_1_59 dX0_note_45 ?_
        refine s_iload_n C dX0_note_48 rfl (lv_at hl 0 rfl) ?_
        obtain ⟨hi20, hf⟩ := bI_some hf
        refine ldC_8 C hi20 dX0_note_49 ?_
        refine s_iadd C dX0_note_50 ?_
        refine s_iload_n C dX0_note_51 rfl (lv_at hl 3 rfl) ?_
        refine s_icmp_ne (tgt := 68) C dX0_note_52 (by decide) (fun c21 => ?_) (fun c21 => ?_)
        · replace hf := it_f c21 hf
          exact b68 _ _ _ hf _ (lv_sub hl [1, 2, 3] rfl)
        · replace hf := it_t c21 hf
          refine s_aload_n C dX0_note_55 rfl (lv_at hl 1 rfl) ?_
          refine gC_1_8 C wd_1_59 dX0_note_56 ?_
          refine s_iload_n C dX0_note_59 rfl (lv_at hl 0 rfl) ?_
          refine s_dup2_11 C dX0_note_60 rfl rfl ?_
          obtain ⟨hi22, hf⟩ := bI_some hf
          refine ldC_8 C hi22 dX0_note_61 ?_
          refine s_iconst (v := (1 : Int32)) C dX0_note_62 (by decide) ?_
          refine s_iadd C dX0_note_63 ?_
          obtain ⟨hi23, hf⟩ := bI_some hf
          refine stC_8 C hi23 dX0_note_64 ?_
          obtain ⟨σ24, e25, hf⟩ := lt_some hf
          refine s_w (ws2 := (wC h q nf nb σ24)) (by rw [e25]) ?_
          clear e25
          refine s_goto (tgt := 118) C dX0_note_65 (by decide) ?_
          exact ret _ _ _ dX0_note_118 (congrArg (fun σ => (wC h q nf nb σ)) (rt_1 hf))
  refine s_aload_n C dX0_note_0 rfl (lv_at hl 0 rfl) ?_
  refine gC_1_10 C wd_1_63 dX0_note_1 ?_
  refine s_if_eq (tgt := 17) C dX0_note_4 (by decide) (fun c1 => ?_) (fun c1 => ?_)
  · replace hf := it_t c1 hf
    exact b17 _ _ _ hf _ (lv_sub hl [0, 1, 2] rfl)
  · replace hf := it_f c1 hf
    refine s_aload_n C dX0_note_7 rfl (lv_at hl 0 rfl) ?_
    refine s_iconst (v := (0 : Int32)) C dX0_note_8 (by decide) ?_
    refine uC_1_9 C wd_1_61 dX0_note_9 ?_
    obtain ⟨σ26, e27, hf⟩ := lt_some hf
    refine s_w (ws2 := (wC h q nf nb σ26)) (by rw [e27]) ?_
    clear e27
    refine s_aload_n C dX0_note_12 rfl (lv_at hl 0 rfl) ?_
    refine s_iconst (v := (0 : Int32)) C dX0_note_13 (by decide) ?_
    refine uC_1_10 C wd_1_63 rfl dX0_note_14 ?_
    obtain ⟨σ28, e29, hf⟩ := lt_some hf
    refine s_w (ws2 := (wC h q nf nb σ28)) (by rw [e29]) ?_
    clear e29
    exact b17 _ _ _ hf _ (lv_sub hl [0, 1, 2] rfl)
def pf_X0_load (N : Nat) (nf : Nat) (nb : Nat) (x1 : Int32) (x3 : Int32) (σ : St) : Option St := (pf_X0_has N nf nb x1 σ).bind (fun z1 => if z1 = 0 then some σ else (pf_X5_copyPage N (nf * 8) (nb * 8) (σ.2.2 3) x3 x1 (σ.2.2 16)).bind (fun z4 => lt_ (sL σ 16 z4) (fun σ6 => lt_ (sG σ6 1 ((σ6.1 1) + (1 : Int32))) (fun σ8 => (pf_X0_note N nf nb (0 : Int32) x1 σ8).bind (fun z10 => some z10)))))
theorem cx_X0_load : (yX0_load.cls ≠ "java/lang/invoke/MethodHandle" ∧ yX0_load.cls ≠ "java/lang/invoke/VarHandle" ∧ (parseMethodDescriptor yX0_load.desc).map (fun d => d.parameters.length) = some 3) := by decide +kernel
set_option maxHeartbeats 4000000 in
set_option maxRecDepth 100000 in
theorem c_X0_load (l : Launch) (D : va_G) (q : Nat → ClassId) (h : Nat → Nat) (N : Nat) (nf : Nat) (nb : Nat) (x1 : Int32) (x3 : Int32) (σ : St) (z : St) (hf : pf_X0_load N nf nb x1 x3 σ = some z) : MV l yX0_load cX0_load 4 (none) 1 27 D (tyQ q) [.ref (h 1), .int x1, .ref (h 15), .int x3] (wC h q nf nb σ) (wC h q nf nb z) := by
  refine MV.of (by decide) (Nat.le_of_ble_eq_true rfl) ?_
  intro p e s m args below meth c Q A C ret ls hl
  have hl : lv_has ls 4 [(0, .ref (h 1)), (1, .int x1), (2, .ref (h 15)), (3, .int x3)] := hl
  unfold pf_X0_load at hf
  refine s_aload_n C dX0_load_0 rfl (lv_at hl 0 rfl) ?_
  refine s_iload_n C dX0_load_1 rfl (lv_at hl 1 rfl) ?_
  obtain ⟨z1, h2, hf⟩ := bn_some hf
  refine s_callIV (As := [.int x1]) (rest := []) C (c_X0_has l D q h N nf nb x1 σ z1 h2) ⟨wd_2_102, wd_2_103, wd_2_104, wd_1_4, wd_2_105, cx_X0_has, Nat.le_of_ble_eq_true rfl, Nat.le_of_ble_eq_true rfl⟩ 1 (ci := 0) rfl rfl rfl (SubW.full _ _) rfl hl.1 rfl (Nat.le_of_ble_eq_true rfl) dX0_load_2 (Nat.zero_le _) (Nat.zero_le _) ?_
  refine s_if_eq (tgt := 34) C dX0_load_5 (by decide) (fun c3 => ?_) (fun c3 => ?_)
  · replace hf := it_t c3 hf
    exact ret _ _ _ dX0_load_34 (congrArg (fun σ => (wC h q nf nb σ)) (rt_1 hf))
  · replace hf := it_f c3 hf
    refine s_aload_n C dX0_load_8 rfl (lv_at hl 2 rfl) ?_
    refine s_iload_n C dX0_load_9 rfl (lv_at hl 3 rfl) ?_
    refine s_aload_n C dX0_load_10 rfl (lv_at hl 0 rfl) ?_
    refine gC_1_0 C wd_1_44 dX0_load_11 ?_
    refine s_iload_n C dX0_load_14 rfl (lv_at hl 1 rfl) ?_
    obtain ⟨z4, h5, hf⟩ := bn_some hf
    refine s_callVV (As := [.int x3, .ref (h 2), .int x1]) (rest := []) C (c_X5_copyPage l D q (h 15) (h 16) (h 2) (h 3) N (nf * 8) (nb * 8) (σ.2.2 3) x3 x1 (σ.2.2 16) z4 h5) ⟨wd_2_106, wd_2_107, wd_2_108, wd_1_2, wd_2_109, cx_X5_copyPage, Nat.le_of_ble_eq_true rfl, Nat.le_of_ble_eq_true rfl⟩ 15 (ci := 5) rfl rfl rfl (jnC_15_16_2_3 nf nb h  q σ z4) rfl hl.1 rfl (Nat.le_of_ble_eq_true rfl) dX0_load_15 (Nat.zero_le _) (Nat.zero_le _) ?_
    obtain ⟨σ6, e7, hf⟩ := lt_some hf
    refine s_w (ws2 := (wC h q nf nb σ6)) (by rw [e7]) ?_
    clear e7
    refine s_aload_n C dX0_load_18 rfl (lv_at hl 0 rfl) ?_
    refine s_dup C dX0_load_19 rfl ?_
    refine gC_1_4 C wd_1_51 dX0_load_20 ?_
    refine s_iconst (v := (1 : Int32)) C dX0_load_23 (by decide) ?_
    refine s_iadd C dX0_load_24 ?_
    refine uC_1_4 C wd_1_51 dX0_load_25 ?_
    obtain ⟨σ8, e9, hf⟩ := lt_some hf
    refine s_w (ws2 := (wC h q nf nb σ8)) (by rw [e9]) ?_
    clear e9
    refine s_aload_n C dX0_load_28 rfl (lv_at hl 0 rfl) ?_
    refine s_iconst (v := (0 : Int32)) C dX0_load_29 (by decide) ?_
    refine s_iload_n C dX0_load_30 rfl (lv_at hl 1 rfl) ?_
    obtain ⟨z10, h11, hf⟩ := bn_some hf
    refine s_callVV (As := [.int (0 : Int32), .int x1]) (rest := []) C (c_X0_note l D q h N nf nb (0 : Int32) x1 σ8 z10 h11) ⟨wd_2_116, wd_2_118, wd_s_6, wd_1_4, wd_2_119, cx_X0_note, Nat.le_of_ble_eq_true rfl, Nat.le_of_ble_eq_true rfl⟩ 1 (ci := 0) rfl rfl rfl (SubW.full _ _) rfl hl.1 rfl (Nat.le_of_ble_eq_true rfl) dX0_load_31 (Nat.zero_le _) (Nat.zero_le _) ?_
    exact ret _ _ _ dX0_load_34 (congrArg (fun σ => (wC h q nf nb σ)) (rt_1 hf))
def pf_X0_save (N : Nat) (nf : Nat) (nb : Nat) (x1 : Int32) (x3 : Int32) (x4 : Int32) (σ : St) : Option (Int32 × St) := (pf_X0_has N nf nb x1 σ).bind (fun z1 => if z1 = 0 then some ((0 : Int32), σ) else bI x1 (nb) (if ((σ.2.1 4) (Int32.toNatClampNeg x1)) = 0 then (pf_X5_copyPage N (nb * 8) (nf * 8) (σ.2.2 16) x1 x3 (σ.2.2 3)).bind (fun z6 => lt_ (sL σ 3 z6) (fun σ8 => lt_ (if (0 : Int32) < x4 then x4 else (0 : Int32)) (fun v10 => (pf_X5_clear N (nb * 8) ((x1 * (64 : Int32)) + v10) ((x1 + (1 : Int32)) * (64 : Int32)) (σ8.2.2 3)).bind (fun z12 => lt_ (sL σ8 3 z12) (fun σ14 => lt_ (sG σ14 2 ((σ14.1 2) + (1 : Int32))) (fun σ16 => (pf_X0_note N nf nb (1 : Int32) x1 σ16).bind (fun z18 => some ((1 : Int32), z18)))))))) else some ((0 : Int32), σ)))
theorem cx_X0_save : (yX0_save.cls ≠ "java/lang/invoke/MethodHandle" ∧ yX0_save.cls ≠ "java/lang/invoke/VarHandle" ∧ (parseMethodDescriptor yX0_save.desc).map (fun d => d.parameters.length) = some 4) := by decide +kernel
set_option maxHeartbeats 4000000 in
set_option maxRecDepth 100000 in
theorem c_X0_save (l : Launch) (D : va_G) (q : Nat → ClassId) (h : Nat → Nat) (N : Nat) (nf : Nat) (nb : Nat) (x1 : Int32) (x3 : Int32) (x4 : Int32) (σ : St) (z : (Int32 × St)) (hf : pf_X0_save N nf nb x1 x3 x4 σ = some z) : MI l yX0_save cX0_save 5 (some .boolean) 1 27 D (tyQ q) [.ref (h 1), .int x1, .ref (h 15), .int x3, .int x4] (wC h q nf nb σ) (wC h q nf nb z.2) z.1 := by
  refine MI.of (by decide) (Nat.le_of_ble_eq_true rfl) ?_
  intro p e s m args below meth c Q A C ret ls hl
  have hl : lv_has ls 5 [(0, .ref (h 1)), (1, .int x1), (2, .ref (h 15)), (3, .int x3), (4, .int x4)] := hl
  unfold pf_X0_save at hf
  refine s_aload_n C dX0_save_0 rfl (lv_at hl 0 rfl) ?_
  refine s_iload_n C dX0_save_1 rfl (lv_at hl 1 rfl) ?_
  obtain ⟨z1, h2, hf⟩ := bn_some hf
  refine s_callIV (As := [.int x1]) (rest := []) C (c_X0_has l D q h N nf nb x1 σ z1 h2) ⟨wd_2_102, wd_2_103, wd_2_104, wd_1_4, wd_2_105, cx_X0_has, Nat.le_of_ble_eq_true rfl, Nat.le_of_ble_eq_true rfl⟩ 1 (ci := 0) rfl rfl rfl (SubW.full _ _) rfl hl.1 rfl (Nat.le_of_ble_eq_true rfl) dX0_save_2 (Nat.zero_le _) (Nat.zero_le _) ?_
  refine s_if_eq (tgt := 17) C dX0_save_5 (by decide) (fun c3 => ?_) (fun c3 => ?_)
  · replace hf := it_t c3 hf
    refine s_iconst (v := (0 : Int32)) C dX0_save_17 (by decide) ?_
    exact ret _ _ _ _ dX0_save_18 rfl (rt_2 hf).1 (congrArg (fun σ => (wC h q nf nb σ)) (rt_2 hf).2)
  · replace hf := it_f c3 hf
    refine s_aload_n C dX0_save_8 rfl (lv_at hl 0 rfl) ?_
    refine gC_1_1 C wd_1_46 dX0_save_9 ?_
    refine s_iload_n C dX0_save_12 rfl (lv_at hl 1 rfl) ?_
    obtain ⟨hi4, hf⟩ := bI_some hf
    refine ldC_4 C hi4 dX0_save_13 ?_
    refine s_if_eq (tgt := 19) C dX0_save_14 (by decide) (fun c5 => ?_) (fun c5 => ?_)
    · replace hf := it_t c5 hf
      refine s_aload_n C dX0_save_19 rfl (lv_at hl 0 rfl) ?_
      refine gC_1_0 C wd_1_44 dX0_save_20 ?_
      refine s_iload_n C dX0_save_23 rfl (lv_at hl 1 rfl) ?_
      refine s_aload_n C dX0_save_24 rfl (lv_at hl 2 rfl) ?_
      refine s_iload_n C dX0_save_25 rfl (lv_at hl 3 rfl) ?_
      obtain ⟨z6, h7, hf⟩ := bn_some hf
      refine s_callVV (As := [.int x1, .ref (h 15), .int x3]) (rest := []) C (c_X5_copyPage l D q (h 2) (h 3) (h 15) (h 16) N (nb * 8) (nf * 8) (σ.2.2 16) x1 x3 (σ.2.2 3) z6 h7) ⟨wd_2_106, wd_2_107, wd_2_108, wd_1_2, wd_2_109, cx_X5_copyPage, Nat.le_of_ble_eq_true rfl, Nat.le_of_ble_eq_true rfl⟩ 2 (ci := 5) rfl rfl rfl (jnC_2_3_15_16 nf nb h  q σ z6) rfl hl.1 rfl (Nat.le_of_ble_eq_true rfl) dX0_save_26 (Nat.zero_le _) (Nat.zero_le _) ?_
      obtain ⟨σ8, e9, hf⟩ := lt_some hf
      refine s_w (ws2 := (wC h q nf nb σ8)) (by rw [e9]) ?_
      clear e9
      refine s_aload_n C dX0_save_29 rfl (lv_at hl 0 rfl) ?_
      refine gC_1_0 C wd_1_44 dX0_save_30 ?_
      refine s_iload_n C dX0_save_33 rfl (lv_at hl 1 rfl) ?_
      refine s_bipush (v := (64 : Int32)) C dX0_save_34 (by decide) ?_
      refine s_imul C dX0_save_36 ?_
      refine s_iconst (v := (0 : Int32)) C dX0_save_37 (by decide) ?_
      refine s_iload C dX0_save_38 (lv_at hl 4 rfl) ?_
      refine s_mmax C hl.1 dX0_save_40 wd_1_43 mm_max_s mm_in mm_max_c (Nat.le_of_ble_eq_true rfl) (Nat.le_of_ble_eq_true rfl) (Nat.zero_le _) (Nat.zero_le _) ?_
      obtain ⟨v10, e11, hf⟩ := lt_some hf
      refine s_eq (g2 := F0 m 43 ls [.int v10, .int (x1 * (64 : Int32)), .ref (h 2)]) (by rw [e11]) ?_
      clear e11
      refine s_iadd C dX0_save_43 ?_
      refine s_iload_n C dX0_save_44 rfl (lv_at hl 1 rfl) ?_
      refine s_iconst (v := (1 : Int32)) C dX0_save_45 (by decide) ?_
      refine s_iadd C dX0_save_46 ?_
      refine s_bipush (v := (64 : Int32)) C dX0_save_47 (by decide) ?_
      refine s_imul C dX0_save_49 ?_
      obtain ⟨z12, h13, hf⟩ := bn_some hf
      refine s_callVV (As := [.int ((x1 * (64 : Int32)) + v10), .int ((x1 + (1 : Int32)) * (64 : Int32))]) (rest := []) C (c_X5_clear l D q (h 2) (h 3) N (nb * 8) ((x1 * (64 : Int32)) + v10) ((x1 + (1 : Int32)) * (64 : Int32)) (σ8.2.2 3) z12 h13) ⟨wd_2_110, wd_2_111, wd_2_112, wd_1_2, wd_2_113, cx_X5_clear, Nat.le_of_ble_eq_true rfl, Nat.le_of_ble_eq_true rfl⟩ 2 (ci := 5) rfl rfl rfl (jnC_2_3 nf nb h  q σ8 z12) rfl hl.1 rfl (Nat.le_of_ble_eq_true rfl) dX0_save_50 (Nat.zero_le _) (Nat.zero_le _) ?_
      obtain ⟨σ14, e15, hf⟩ := lt_some hf
      refine s_w (ws2 := (wC h q nf nb σ14)) (by rw [e15]) ?_
      clear e15
      refine s_aload_n C dX0_save_53 rfl (lv_at hl 0 rfl) ?_
      refine s_dup C dX0_save_54 rfl ?_
      refine gC_1_5 C wd_1_53 dX0_save_55 ?_
      refine s_iconst (v := (1 : Int32)) C dX0_save_58 (by decide) ?_
      refine s_iadd C dX0_save_59 ?_
      refine uC_1_5 C wd_1_53 dX0_save_60 ?_
      obtain ⟨σ16, e17, hf⟩ := lt_some hf
      refine s_w (ws2 := (wC h q nf nb σ16)) (by rw [e17]) ?_
      clear e17
      refine s_aload_n C dX0_save_63 rfl (lv_at hl 0 rfl) ?_
      refine s_iconst (v := (1 : Int32)) C dX0_save_64 (by decide) ?_
      refine s_iload_n C dX0_save_65 rfl (lv_at hl 1 rfl) ?_
      obtain ⟨z18, h19, hf⟩ := bn_some hf
      refine s_callVV (As := [.int (1 : Int32), .int x1]) (rest := []) C (c_X0_note l D q h N nf nb (1 : Int32) x1 σ16 z18 h19) ⟨wd_2_116, wd_2_118, wd_s_6, wd_1_4, wd_2_119, cx_X0_note, Nat.le_of_ble_eq_true rfl, Nat.le_of_ble_eq_true rfl⟩ 1 (ci := 0) rfl rfl rfl (SubW.full _ _) rfl hl.1 rfl (Nat.le_of_ble_eq_true rfl) dX0_save_66 (Nat.zero_le _) (Nat.zero_le _) ?_
      refine s_iconst (v := (1 : Int32)) C dX0_save_69 (by decide) ?_
      exact ret _ _ _ _ dX0_save_70 rfl (rt_2 hf).1 (congrArg (fun σ => (wC h q nf nb σ)) (rt_2 hf).2)
    · replace hf := it_f c5 hf
      refine s_iconst (v := (0 : Int32)) C dX0_save_17 (by decide) ?_
      exact ret _ _ _ _ dX0_save_18 rfl (rt_2 hf).1 (congrArg (fun σ => (wC h q nf nb σ)) (rt_2 hf).2)
def pf_X1_reset (N : Nat) (nf : Nat) (nb : Nat) (σ : St) : Option St := (pf_J7_fill_53178 N (12) (1 : Int32) (σ.2.1 11)).bind (fun z1 => lt_ (sA σ 11 z1) (fun σ3 => (pf_J7_fill_53178 N (12) (0 : Int32) (σ3.2.1 12)).bind (fun z5 => lt_ (sA σ3 12 z5) (fun σ7 => (pf_J7_fill_53178 N (12) (0 : Int32) (σ7.2.1 13)).bind (fun z9 => lt_ (sA σ7 13 z9) (fun σ11 => some σ11))))))
theorem cx_X1_reset : (yX1_reset.cls ≠ "java/lang/invoke/MethodHandle" ∧ yX1_reset.cls ≠ "java/lang/invoke/VarHandle" ∧ (parseMethodDescriptor yX1_reset.desc).map (fun d => d.parameters.length) = some 0) := by decide +kernel
set_option maxHeartbeats 4000000 in
set_option maxRecDepth 100000 in
theorem c_X1_reset (l : Launch) (D : va_G) (q : Nat → ClassId) (h : Nat → Nat) (N : Nat) (nf : Nat) (nb : Nat) (σ : St) (z : St) (hf : pf_X1_reset N nf nb σ = some z) : MV l yX1_reset cX1_reset 1 (none) 1 23 D (tyQ q) [.ref (h 9)] (wC h q nf nb σ) (wC h q nf nb z) := by
  refine MV.of (by decide) (Nat.le_of_ble_eq_true rfl) ?_
  intro p e s m args below meth c Q A C ret ls hl
  have hl : lv_has ls 1 [(0, .ref (h 9))] := hl
  unfold pf_X1_reset at hf
  refine s_aload_n C dX1_reset_0 rfl (lv_at hl 0 rfl) ?_
  refine gC_9_1 C wd_1_99 dX1_reset_1 ?_
  refine s_iconst (v := (1 : Int32)) C dX1_reset_4 (by decide) ?_
  obtain ⟨z1, h2, hf⟩ := bn_some hf
  refine s_callVS (As := [.ref (h 11), .int (1 : Int32)]) (rest := []) C (c_J7_fill_53178 l D q (h 11) N (12) (1 : Int32) (σ.2.1 11) z1 h2) ⟨wd_1_94, wd_1_95, wd_1_6, wd_1_96, cx_J7_fill_53178, Nat.le_of_ble_eq_true rfl, Nat.le_of_ble_eq_true rfl⟩ (jnC_11 nf nb h  q σ z1) rfl hl.1 rfl (Nat.le_of_ble_eq_true rfl) dX1_reset_5 (Nat.zero_le _) (Nat.zero_le _) ?_
  obtain ⟨σ3, e4, hf⟩ := lt_some hf
  refine s_w (ws2 := (wC h q nf nb σ3)) (by rw [e4]) ?_
  clear e4
  refine s_aload_n C dX1_reset_8 rfl (lv_at hl 0 rfl) ?_
  refine gC_9_2 C wd_1_101 dX1_reset_9 ?_
  refine s_iconst (v := (0 : Int32)) C dX1_reset_12 (by decide) ?_
  obtain ⟨z5, h6, hf⟩ := bn_some hf
  refine s_callVS (As := [.ref (h 12), .int (0 : Int32)]) (rest := []) C (c_J7_fill_53178 l D q (h 12) N (12) (0 : Int32) (σ3.2.1 12) z5 h6) ⟨wd_1_94, wd_1_95, wd_1_6, wd_1_96, cx_J7_fill_53178, Nat.le_of_ble_eq_true rfl, Nat.le_of_ble_eq_true rfl⟩ (jnC_12 nf nb h  q σ3 z5) rfl hl.1 rfl (Nat.le_of_ble_eq_true rfl) dX1_reset_13 (Nat.zero_le _) (Nat.zero_le _) ?_
  obtain ⟨σ7, e8, hf⟩ := lt_some hf
  refine s_w (ws2 := (wC h q nf nb σ7)) (by rw [e8]) ?_
  clear e8
  refine s_aload_n C dX1_reset_16 rfl (lv_at hl 0 rfl) ?_
  refine gC_9_3 C wd_1_103 dX1_reset_17 ?_
  refine s_iconst (v := (0 : Int32)) C dX1_reset_20 (by decide) ?_
  obtain ⟨z9, h10, hf⟩ := bn_some hf
  refine s_callVS (As := [.ref (h 13), .int (0 : Int32)]) (rest := []) C (c_J7_fill_53178 l D q (h 13) N (12) (0 : Int32) (σ7.2.1 13) z9 h10) ⟨wd_1_94, wd_1_95, wd_1_6, wd_1_96, cx_J7_fill_53178, Nat.le_of_ble_eq_true rfl, Nat.le_of_ble_eq_true rfl⟩ (jnC_13 nf nb h  q σ7 z9) rfl hl.1 rfl (Nat.le_of_ble_eq_true rfl) dX1_reset_21 (Nat.zero_le _) (Nat.zero_le _) ?_
  obtain ⟨σ11, e12, hf⟩ := lt_some hf
  refine s_w (ws2 := (wC h q nf nb σ11)) (by rw [e12]) ?_
  clear e12
  exact ret _ _ _ dX1_reset_24 (congrArg (fun σ => (wC h q nf nb σ)) (rt_1 hf))
def pf_X1_setError (N : Nat) (nf : Nat) (nb : Nat) (x1 : Int32) (x2 : Int32) (σ : St) : Option St := if x1 < 0 then some σ else if (12 : Int32) ≤ x1 then some σ else bI x1 (12) (if ((σ.2.1 13) (Int32.toNatClampNeg x1)) = 0 then bI x1 (12) (lt_ (sA σ 13 (upd (σ.2.1 13) (Int32.toNatClampNeg x1) x2)) (fun σ6 => some σ6)) else some σ)
theorem cx_X1_setError : (yX1_setError.cls ≠ "java/lang/invoke/MethodHandle" ∧ yX1_setError.cls ≠ "java/lang/invoke/VarHandle" ∧ (parseMethodDescriptor yX1_setError.desc).map (fun d => d.parameters.length) = some 2) := by decide +kernel
set_option maxHeartbeats 4000000 in
set_option maxRecDepth 100000 in
theorem c_X1_setError (l : Launch) (D : va_G) (q : Nat → ClassId) (h : Nat → Nat) (N : Nat) (nf : Nat) (nb : Nat) (x1 : Int32) (x2 : Int32) (σ : St) (z : St) (hf : pf_X1_setError N nf nb x1 x2 σ = some z) : MV l yX1_setError cX1_setError 3 (none) 0 0 D (tyQ q) [.ref (h 9), .int x1, .int x2] (wC h q nf nb σ) (wC h q nf nb z) := by
  refine MV.of (by decide) (Nat.le_of_ble_eq_true rfl) ?_
  intro p e s m args below meth c Q A C ret ls hl
  have hl : lv_has ls 3 [(0, .ref (h 9)), (1, .int x1), (2, .int x2)] := hl
  unfold pf_X1_setError at hf
  refine s_iload_n C dX1_setError_0 rfl (lv_at hl 1 rfl) ?_
  refine s_if_lt (tgt := 26) C dX1_setError_1 (by decide) (fun c1 => ?_) (fun c1 => ?_)
  · replace hf := it_t c1 hf
    exact ret _ _ _ dX1_setError_26 (congrArg (fun σ => (wC h q nf nb σ)) (rt_1 hf))
  · replace hf := it_f c1 hf
    refine s_iload_n C dX1_setError_4 rfl (lv_at hl 1 rfl) ?_
    refine s_bipush (v := (12 : Int32)) C dX1_setError_5 (by decide) ?_
    refine s_icmp_ge (tgt := 26) C dX1_setError_7 (by decide) (fun c2 => ?_) (fun c2 => ?_)
    · replace hf := it_t c2 hf
      exact ret _ _ _ dX1_setError_26 (congrArg (fun σ => (wC h q nf nb σ)) (rt_1 hf))
    · replace hf := it_f c2 hf
      refine s_aload_n C dX1_setError_10 rfl (lv_at hl 0 rfl) ?_
      refine gC_9_3 C wd_1_103 dX1_setError_11 ?_
      refine s_iload_n C dX1_setError_14 rfl (lv_at hl 1 rfl) ?_
      obtain ⟨hi3, hf⟩ := bI_some hf
      refine ldC_13 C hi3 dX1_setError_15 ?_
      refine s_if_ne (tgt := 26) C dX1_setError_16 (by decide) (fun c4 => ?_) (fun c4 => ?_)
      · replace hf := it_f c4 hf
        exact ret _ _ _ dX1_setError_26 (congrArg (fun σ => (wC h q nf nb σ)) (rt_1 hf))
      · replace hf := it_t c4 hf
        refine s_aload_n C dX1_setError_19 rfl (lv_at hl 0 rfl) ?_
        refine gC_9_3 C wd_1_103 dX1_setError_20 ?_
        refine s_iload_n C dX1_setError_23 rfl (lv_at hl 1 rfl) ?_
        refine s_iload_n C dX1_setError_24 rfl (lv_at hl 2 rfl) ?_
        obtain ⟨hi5, hf⟩ := bI_some hf
        refine stC_13 C hi5 dX1_setError_25 ?_
        obtain ⟨σ6, e7, hf⟩ := lt_some hf
        refine s_w (ws2 := (wC h q nf nb σ6)) (by rw [e7]) ?_
        clear e7
        exact ret _ _ _ dX1_setError_26 (congrArg (fun σ => (wC h q nf nb σ)) (rt_1 hf))
def pf_X1_withError_b33 (N : Nat) (nf : Nat) (nb : Nat) (σ : St) (J13 : Int32 → Int32 → Int32 → Option Int32) (x1 : Int32) (x3 : Int32) (x4 : Int32) : Option Int32 := J13 x1 x3 (x4 + 1) 
def pf_X1_withError_L13 (N : Nat) (nf : Nat) (nb : Nat) (σ : St) : Nat → Int32 → Int32 → Int32 → Option Int32
  | 0, _, _, _ => none
  | n + 1, x1, x3, x4 => if x3 ≤ x4 then some x1 else bI x4 (12) (lt_ ((σ.2.1 13) (Int32.toNatClampNeg x4)) (fun v3 => if v3 = 0 then pf_X1_withError_b33 N nf nb σ (pf_X1_withError_L13 N nf nb σ n) x1 x3 x4  else pf_X1_withError_b33 N nf nb σ (pf_X1_withError_L13 N nf nb σ n) (x1 + 1) x3 x4 ))
def pf_X1_withError (N : Nat) (nf : Nat) (nb : Nat) (σ : St) : Option Int32 := pf_X1_withError_L13 N nf nb σ N (0 : Int32) (nI (12)) (0 : Int32) 
theorem cx_X1_withError : (yX1_withError.cls ≠ "java/lang/invoke/MethodHandle" ∧ yX1_withError.cls ≠ "java/lang/invoke/VarHandle" ∧ (parseMethodDescriptor yX1_withError.desc).map (fun d => d.parameters.length) = some 0) := by decide +kernel
set_option maxHeartbeats 4000000 in
set_option maxRecDepth 100000 in
theorem c_X1_withError (l : Launch) (D : va_G) (q : Nat → ClassId) (h : Nat → Nat) (N : Nat) (nf : Nat) (nb : Nat) (σ : St) (z : Int32) (hf : pf_X1_withError N nf nb σ = some z) : MI l yX1_withError cX1_withError 6 (some .int) 0 0 D (tyQ q) [.ref (h 9)] (wC h q nf nb σ) (wC h q nf nb σ) z := by
  refine MI.of (by decide) (Nat.le_of_ble_eq_true rfl) ?_
  intro p e s m args below meth c Q A C ret ls hl
  have hl : lv_has ls 6 [(0, .ref (h 9))] := hl
  unfold pf_X1_withError at hf
  have b33 : ∀ (J13 : Int32 → Int32 → Int32 → Option Int32) (hJ13 : ∀ (x1 : Int32) (x3 : Int32) (x4 : Int32), J13 x1 x3 x4 = some z → ∀ ls : Array Slot, lv_has ls 6 [(1, .int x1), (2, .ref (h 13)), (3, .int x3), (4, .int x4)] → WG p l e (rmO 0 0) s m args below meth c D A 0 0 Q (wC h q nf nb σ) (F0 m 13 ls [])) (x1 : Int32) (x3 : Int32) (x4 : Int32), pf_X1_withError_b33 N nf nb σ J13 x1 x3 x4 = some z → ∀ ls : Array Slot, lv_has ls 6 [(1, .int x1), (2, .ref (h 13)), (3, .int x3), (4, .int x4)] → WG p l e (rmO 0 0) s m args below meth c D A 0 0 Q (wC h q nf nb σ) (F0 m 33 ls []) := by
    intro J13 hJ13 x1 x3 x4 hf ls hl
    unfold pf_X1_withError_b33 at hf
    refine s_iinc (v := (x4 + 1)) (lv2 := [(4, .int (x4 + 1)), (1, .int x1), (2, .ref (h 13)), (3, .int x3)]) C 3 dX1_withError_33 hl rfl rfl (by decide) rfl ?_
    intro ls hl
    refine s_goto (tgt := 13) C dX1_withError_36 (by decide) ?_
    exact hJ13 _ _ _ hf _ (lv_sub hl [1, 2, 3, 0] rfl)
  have L13 : ∀ (n : Nat) (x1 : Int32) (x3 : Int32) (x4 : Int32), pf_X1_withError_L13 N nf nb σ n x1 x3 x4 = some z → ∀ ls : Array Slot, lv_has ls 6 [(1, .int x1), (2, .ref (h 13)), (3, .int x3), (4, .int x4)] → WG p l e (rmO 0 0) s m args below meth c D A 0 0 Q (wC h q nf nb σ) (F0 m 13 ls []) := by
    intro n
    induction n with
    | zero => intro x1 x3 x4 hf; unfold pf_X1_withError_L13 at hf; cases hf
    | succ n ih =>
      intro x1 x3 x4 hf ls hl
      unfold pf_X1_withError_L13 at hf
      refine s_iload C dX1_withError_13 (lv_at hl 3 rfl) ?_
      refine s_iload_n C dX1_withError_15 rfl (lv_at hl 2 rfl) ?_
      refine s_icmp_ge (tgt := 39) C dX1_withError_16 (by decide) (fun c1 => ?_) (fun c1 => ?_)
      · replace hf := it_t c1 hf
        refine s_iload_n C dX1_withError_39 rfl (lv_at hl 0 rfl) ?_
        exact ret _ _ _ _ dX1_withError_40 rfl (rt_1 hf) rfl
      · replace hf := it_f c1 hf
        refine s_aload_n C dX1_withError_19 rfl (lv_at hl 1 rfl) ?_
        refine s_iload C dX1_withError_20 (lv_at hl 3 rfl) ?_
        obtain ⟨hi2, hf⟩ := bI_some hf
        refine ldC_13 C hi2 dX1_withError_22 ?_
        obtain ⟨v3, e4, hf⟩ := lt_some hf
        refine s_eq (g2 := F0 m 23 ls [.int v3]) (by rw [e4]) ?_
        clear e4
        refine s_istore (lv2 := [(5, .int v3), (1, .int x1), (2, .ref (h 13)), (3, .int x3), (4, .int x4)]) C dX1_withError_23 hl (by decide) rfl ?_
        intro ls hl
        refine s_iload C dX1_withError_25 (lv_at hl 0 rfl) ?_
        refine s_if_eq (tgt := 33) C dX1_withError_27 (by decide) (fun c5 => ?_) (fun c5 => ?_)
        · replace hf := it_t c5 hf
          exact b33 _ ih _ _ _ hf _ (lv_sub hl [1, 2, 3, 4] rfl)
        · replace hf := it_f c5 hf
          refine s_iinc (v := (x1 + 1)) (lv2 := [(1, .int (x1 + 1)), (5, .int v3), (2, .ref (h 13)), (3, .int x3), (4, .int x4)]) C 1 dX1_withError_30 hl rfl rfl (by decide) rfl ?_
          intro ls hl
          exact b33 _ ih _ _ _ hf _ (lv_sub hl [0, 2, 3, 4] rfl)
  refine s_iconst (v := (0 : Int32)) C dX1_withError_0 (by decide) ?_
  refine s_istore_n (lv2 := [(1, .int (0 : Int32)), (0, .ref (h 9))]) C dX1_withError_1 rfl hl (by decide) rfl ?_
  intro ls hl
  refine s_aload_n C dX1_withError_2 rfl (lv_at hl 1 rfl) ?_
  refine gC_9_3 C wd_1_103 dX1_withError_3 ?_
  refine s_astore_n (lv2 := [(2, .ref (h 13)), (1, .int (0 : Int32)), (0, .ref (h 9))]) C dX1_withError_6 rfl hl (by decide) rfl ?_
  intro ls hl
  refine s_aload_n C dX1_withError_7 rfl (lv_at hl 0 rfl) ?_
  refine alC_13 C dX1_withError_8 ?_
  refine s_istore_n (lv2 := [(3, .int (nI (12))), (2, .ref (h 13)), (1, .int (0 : Int32)), (0, .ref (h 9))]) C dX1_withError_9 rfl hl (by decide) rfl ?_
  intro ls hl
  refine s_iconst (v := (0 : Int32)) C dX1_withError_10 (by decide) ?_
  refine s_istore (lv2 := [(4, .int (0 : Int32)), (3, .int (nI (12))), (2, .ref (h 13)), (1, .int (0 : Int32)), (0, .ref (h 9))]) C dX1_withError_11 hl (by decide) rfl ?_
  intro ls hl
  exact L13 N _ _ _ hf _ (lv_sub hl [3, 2, 1, 0] rfl)
def pf_X2_isDirty (N : Nat) (nf : Nat) (nb : Nat) (x1 : Int32) (σ : St) : Option Int32 := if x1 < 0 then some (0 : Int32) else if (σ.1 5) ≤ x1 then some (0 : Int32) else bI x1 (nf) (if ((σ.2.1 18) (Int32.toNatClampNeg x1)) = (-1 : Int32) then some (0 : Int32) else some (1 : Int32))
theorem cx_X2_isDirty : (yX2_isDirty.cls ≠ "java/lang/invoke/MethodHandle" ∧ yX2_isDirty.cls ≠ "java/lang/invoke/VarHandle" ∧ (parseMethodDescriptor yX2_isDirty.desc).map (fun d => d.parameters.length) = some 1) := by decide +kernel
set_option maxHeartbeats 4000000 in
set_option maxRecDepth 100000 in
theorem c_X2_isDirty (l : Launch) (D : va_G) (q : Nat → ClassId) (h : Nat → Nat) (N : Nat) (nf : Nat) (nb : Nat) (x1 : Int32) (σ : St) (z : Int32) (hf : pf_X2_isDirty N nf nb x1 σ = some z) : MI l yX2_isDirty cX2_isDirty 2 (some .boolean) 0 0 D (tyQ q) [.ref (h 14), .int x1] (wC h q nf nb σ) (wC h q nf nb σ) z := by
  refine MI.of (by decide) (Nat.le_of_ble_eq_true rfl) ?_
  intro p e s m args below meth c Q A C ret ls hl
  have hl : lv_has ls 2 [(0, .ref (h 14)), (1, .int x1)] := hl
  unfold pf_X2_isDirty at hf
  refine s_iload_n C dX2_isDirty_0 rfl (lv_at hl 1 rfl) ?_
  refine s_if_lt (tgt := 26) C dX2_isDirty_1 (by decide) (fun c1 => ?_) (fun c1 => ?_)
  · replace hf := it_t c1 hf
    refine s_iconst (v := (0 : Int32)) C dX2_isDirty_26 (by decide) ?_
    exact ret _ _ _ _ dX2_isDirty_27 rfl (rt_1 hf) rfl
  · replace hf := it_f c1 hf
    refine s_iload_n C dX2_isDirty_4 rfl (lv_at hl 1 rfl) ?_
    refine s_aload_n C dX2_isDirty_5 rfl (lv_at hl 0 rfl) ?_
    refine gC_14_0 C wd_1_140 dX2_isDirty_6 ?_
    refine s_icmp_ge (tgt := 26) C dX2_isDirty_9 (by decide) (fun c2 => ?_) (fun c2 => ?_)
    · replace hf := it_t c2 hf
      refine s_iconst (v := (0 : Int32)) C dX2_isDirty_26 (by decide) ?_
      exact ret _ _ _ _ dX2_isDirty_27 rfl (rt_1 hf) rfl
    · replace hf := it_f c2 hf
      refine s_aload_n C dX2_isDirty_12 rfl (lv_at hl 0 rfl) ?_
      refine gC_14_3 C wd_1_146 dX2_isDirty_13 ?_
      refine s_iload_n C dX2_isDirty_16 rfl (lv_at hl 1 rfl) ?_
      obtain ⟨hi3, hf⟩ := bI_some hf
      refine ldC_18 C hi3 dX2_isDirty_17 ?_
      refine s_iconst (v := (-1 : Int32)) C dX2_isDirty_18 (by decide) ?_
      refine s_icmp_eq (tgt := 26) C dX2_isDirty_19 (by decide) (fun c4 => ?_) (fun c4 => ?_)
      · replace hf := it_t c4 hf
        refine s_iconst (v := (0 : Int32)) C dX2_isDirty_26 (by decide) ?_
        exact ret _ _ _ _ dX2_isDirty_27 rfl (rt_1 hf) rfl
      · replace hf := it_f c4 hf
        refine s_iconst (v := (1 : Int32)) C dX2_isDirty_22 (by decide) ?_
        refine s_goto (tgt := 27) C dX2_isDirty_23 (by decide) ?_
        exact ret _ _ _ _ dX2_isDirty_27 rfl (rt_1 hf) rfl
def pf_X2_ageKey (N : Nat) (nf : Nat) (nb : Nat) (x1 : Int32) (σ : St) : Option Int64 := (pf_X2_isDirty N nf nb x1 σ).bind (fun z1 => if z1 = 0 then some (-1 : Int64) else bI x1 (nf) (bI x1 (nf) (some (((Int32.toInt64 ((σ.2.1 18) (Int32.toNatClampNeg x1))) * (3072 : Int64)) + (Int32.toInt64 ((σ.2.1 17) (Int32.toNatClampNeg x1)))))))
theorem cx_X2_ageKey : (yX2_ageKey.cls ≠ "java/lang/invoke/MethodHandle" ∧ yX2_ageKey.cls ≠ "java/lang/invoke/VarHandle" ∧ (parseMethodDescriptor yX2_ageKey.desc).map (fun d => d.parameters.length) = some 1) := by decide +kernel
set_option maxHeartbeats 4000000 in
set_option maxRecDepth 100000 in
theorem c_X2_ageKey (l : Launch) (D : va_G) (q : Nat → ClassId) (h : Nat → Nat) (N : Nat) (nf : Nat) (nb : Nat) (x1 : Int32) (σ : St) (z : Int64) (hf : pf_X2_ageKey N nf nb x1 σ = some z) : ML l yX2_ageKey cX2_ageKey 2 (some .long) 1 21 D (tyQ q) [.ref (h 14), .int x1] (wC h q nf nb σ) (wC h q nf nb σ) z := by
  refine ML.of (by decide) (Nat.le_of_ble_eq_true rfl) ?_
  intro p e s m args below meth c Q A C ret ls hl
  have hl : lv_has ls 2 [(0, .ref (h 14)), (1, .int x1)] := hl
  unfold pf_X2_ageKey at hf
  refine s_aload_n C dX2_ageKey_0 rfl (lv_at hl 0 rfl) ?_
  refine s_iload_n C dX2_ageKey_1 rfl (lv_at hl 1 rfl) ?_
  obtain ⟨z1, h2, hf⟩ := bn_some hf
  refine s_callIV (As := [.int x1]) (rest := []) C (c_X2_isDirty l D q h N nf nb x1 σ z1 h2) ⟨wd_2_124, wd_2_75, wd_2_76, wd_1_7, wd_2_77, cx_X2_isDirty, Nat.le_of_ble_eq_true rfl, Nat.le_of_ble_eq_true rfl⟩ 14 (ci := 2) rfl rfl rfl (SubW.full _ _) rfl hl.1 rfl (Nat.le_of_ble_eq_true rfl) dX2_ageKey_2 (Nat.zero_le _) (Nat.zero_le _) ?_
  refine s_if_eq (tgt := 30) C dX2_ageKey_5 (by decide) (fun c3 => ?_) (fun c3 => ?_)
  · replace hf := it_t c3 hf
    refine s_ldc2 C dX2_ageKey_30 wd_2_224 ?_
    exact ret _ _ _ _ dX2_ageKey_33 (rt_1 hf) rfl
  · replace hf := it_f c3 hf
    refine s_aload_n C dX2_ageKey_8 rfl (lv_at hl 0 rfl) ?_
    refine gC_14_3 C wd_1_146 dX2_ageKey_9 ?_
    refine s_iload_n C dX2_ageKey_12 rfl (lv_at hl 1 rfl) ?_
    obtain ⟨hi4, hf⟩ := bI_some hf
    refine ldC_18 C hi4 dX2_ageKey_13 ?_
    refine s_i2l C dX2_ageKey_14 ?_
    refine s_ldc2 C dX2_ageKey_15 wd_2_223 ?_
    refine s_lmul C dX2_ageKey_18 ?_
    refine s_aload_n C dX2_ageKey_19 rfl (lv_at hl 0 rfl) ?_
    refine gC_14_2 C wd_1_144 dX2_ageKey_20 ?_
    refine s_iload_n C dX2_ageKey_23 rfl (lv_at hl 1 rfl) ?_
    obtain ⟨hi5, hf⟩ := bI_some hf
    refine ldC_17 C hi5 dX2_ageKey_24 ?_
    refine s_i2l C dX2_ageKey_25 ?_
    refine s_ladd C dX2_ageKey_26 ?_
    refine s_goto (tgt := 33) C dX2_ageKey_27 (by decide) ?_
    exact ret _ _ _ _ dX2_ageKey_33 (rt_1 hf) rfl
def pf_X2_toFront_b49 (N : Nat) (nf : Nat) (nb : Nat) (x1 : Int32) (x2 : Int32) (σ : St) : Option St := (pf_X3_take N (nf) x1 ((σ.2.1 26), (σ.1 7))).bind (fun z6 => lt_ (sG (sA σ 26 z6.1) 7 z6.2) (fun σ8 => (pf_X3_addFront N (nf) x1 ((σ8.2.1 26), (σ8.1 7))).bind (fun z10 => lt_ (sG (sA σ8 26 z10.1) 7 z10.2) (fun σ12 => bI x1 (nf) (lt_ (sA σ12 21 (upd (σ12.2.1 21) (Int32.toNatClampNeg x1) (vp_nar .boolean x2))) (fun σ15 => some σ15))))))
def pf_X2_toFront_b49_1 (N : Nat) (nf : Nat) (nb : Nat) (x1 : Int32) (x2 : Int32) (σ : St) : Option St := (pf_X3_take N (nf) x1 ((σ.2.1 26), (σ.1 7))).bind (fun z17 => lt_ (sG (sA σ 26 z17.1) 7 z17.2) (fun σ19 => (pf_X3_addFront N (nf) x1 ((σ19.2.1 24), (σ19.1 6))).bind (fun z21 => lt_ (sG (sA σ19 24 z21.1) 6 z21.2) (fun σ23 => bI x1 (nf) (lt_ (sA σ23 21 (upd (σ23.2.1 21) (Int32.toNatClampNeg x1) (vp_nar .boolean x2))) (fun σ26 => some σ26))))))
def pf_X2_toFront_b33 (N : Nat) (nf : Nat) (nb : Nat) (x1 : Int32) (x2 : Int32) (σ : St) : Option St := if x2 = 0 then pf_X2_toFront_b49 N nf nb x1 x2 σ else pf_X2_toFront_b49_1 N nf nb x1 x2 σ
def pf_X2_toFront_b49_2 (N : Nat) (nf : Nat) (nb : Nat) (x1 : Int32) (x2 : Int32) (σ : St) : Option St := (pf_X3_take N (nf) x1 ((σ.2.1 24), (σ.1 6))).bind (fun z29 => lt_ (sG (sA σ 24 z29.1) 6 z29.2) (fun σ31 => (pf_X3_addFront N (nf) x1 ((σ31.2.1 26), (σ31.1 7))).bind (fun z33 => lt_ (sG (sA σ31 26 z33.1) 7 z33.2) (fun σ35 => bI x1 (nf) (lt_ (sA σ35 21 (upd (σ35.2.1 21) (Int32.toNatClampNeg x1) (vp_nar .boolean x2))) (fun σ38 => some σ38))))))
def pf_X2_toFront_b49_3 (N : Nat) (nf : Nat) (nb : Nat) (x1 : Int32) (x2 : Int32) (σ : St) : Option St := (pf_X3_take N (nf) x1 ((σ.2.1 24), (σ.1 6))).bind (fun z40 => lt_ (sG (sA σ 24 z40.1) 6 z40.2) (fun σ42 => (pf_X3_addFront N (nf) x1 ((σ42.2.1 24), (σ42.1 6))).bind (fun z44 => lt_ (sG (sA σ42 24 z44.1) 6 z44.2) (fun σ46 => bI x1 (nf) (lt_ (sA σ46 21 (upd (σ46.2.1 21) (Int32.toNatClampNeg x1) (vp_nar .boolean x2))) (fun σ49 => some σ49))))))
def pf_X2_toFront_b33_1 (N : Nat) (nf : Nat) (nb : Nat) (x1 : Int32) (x2 : Int32) (σ : St) : Option St := if x2 = 0 then pf_X2_toFront_b49_2 N nf nb x1 x2 σ else pf_X2_toFront_b49_3 N nf nb x1 x2 σ
def pf_X2_toFront (N : Nat) (nf : Nat) (nb : Nat) (x1 : Int32) (x2 : Int32) (σ : St) : Option St := if x1 < 0 then some σ else if x1 < (σ.1 5) then bI x1 (nf) (if ((σ.2.1 21) (Int32.toNatClampNeg x1)) = 0 then pf_X2_toFront_b33 N nf nb x1 x2 σ else pf_X2_toFront_b33_1 N nf nb x1 x2 σ) else some σ
theorem cx_X2_toFront : (yX2_toFront.cls ≠ "java/lang/invoke/MethodHandle" ∧ yX2_toFront.cls ≠ "java/lang/invoke/VarHandle" ∧ (parseMethodDescriptor yX2_toFront.desc).map (fun d => d.parameters.length) = some 2) := by decide +kernel
set_option maxHeartbeats 4000000 in
set_option maxRecDepth 100000 in
theorem c_X2_toFront (l : Launch) (D : va_G) (q : Nat → ClassId) (h : Nat → Nat) (N : Nat) (nf : Nat) (nb : Nat) (x1 : Int32) (x2 : Int32) (σ : St) (z : St) (hf : pf_X2_toFront N nf nb x1 x2 σ = some z) : MV l yX2_toFront cX2_toFront 5 (none) 2 44 D (tyQ q) [.ref (h 14), .int x1, .int x2] (wC h q nf nb σ) (wC h q nf nb z) := by
  refine MV.of (by decide) (Nat.le_of_ble_eq_true rfl) ?_
  intro p e s m args below meth c Q A C ret ls hl
  have hl : lv_has ls 5 [(0, .ref (h 14)), (1, .int x1), (2, .int x2)] := hl
  unfold pf_X2_toFront at hf
  have b49 : ∀ (x1 : Int32) (x2 : Int32) (σ : St), pf_X2_toFront_b49 N nf nb x1 x2 σ = some z → ∀ ls : Array Slot, lv_has ls 5 [(0, .ref (h 14)), (1, .int x1), (2, .int x2), (3, .ref (h 25))] → WG p l e (rmO 2 44) s m args below meth c D A 0 0 Q (wC h q nf nb σ) (F0 m 49 ls [.ref (h 25)]) := by
    intro x1 x2 σ hf ls hl
    unfold pf_X2_toFront_b49 at hf
    refine s_astore (lv2 := [(4, .ref (h 25)), (0, .ref (h 14)), (1, .int x1), (2, .int x2), (3, .ref (h 25))]) C dX2_toFront_49 hl (by decide) rfl ?_
    intro ls hl
    refine s_aload_n C dX2_toFront_51 rfl (lv_at hl 4 rfl) ?_
    refine s_iload_n C dX2_toFront_52 rfl (lv_at hl 2 rfl) ?_
    obtain ⟨z6, h7, hf⟩ := bn_some hf
    refine s_callVV (As := [.int x1]) (rest := []) C (c_X3_take l D q (h 25) (h 26) N (nf) x1 ((σ.2.1 26), (σ.1 7)) z6 h7) ⟨wd_2_53, wd_2_54, wd_2_55, wd_1_8, wd_2_56, cx_X3_take, Nat.le_of_ble_eq_true rfl, Nat.le_of_ble_eq_true rfl⟩ 25 (ci := 3) rfl rfl rfl (jnC_25_26 nf nb h  q σ z6) rfl hl.1 rfl (Nat.le_of_ble_eq_true rfl) dX2_toFront_53 (Nat.zero_le _) (Nat.zero_le _) ?_
    obtain ⟨σ8, e9, hf⟩ := lt_some hf
    refine s_w (ws2 := (wC h q nf nb σ8)) (by rw [e9]) ?_
    clear e9
    refine s_aload C dX2_toFront_56 (lv_at hl 0 rfl) ?_
    refine s_iload_n C dX2_toFront_58 rfl (lv_at hl 2 rfl) ?_
    obtain ⟨z10, h11, hf⟩ := bn_some hf
    refine s_callVV (As := [.int x1]) (rest := []) C (c_X3_addFront l D q (h 25) (h 26) N (nf) x1 ((σ8.2.1 26), (σ8.1 7)) z10 h11) ⟨wd_2_64, wd_2_65, wd_2_66, wd_1_8, wd_2_67, cx_X3_addFront, Nat.le_of_ble_eq_true rfl, Nat.le_of_ble_eq_true rfl⟩ 25 (ci := 3) rfl rfl rfl (jnC_25_26 nf nb h  q σ8 z10) rfl hl.1 rfl (Nat.le_of_ble_eq_true rfl) dX2_toFront_59 (Nat.zero_le _) (Nat.zero_le _) ?_
    obtain ⟨σ12, e13, hf⟩ := lt_some hf
    refine s_w (ws2 := (wC h q nf nb σ12)) (by rw [e13]) ?_
    clear e13
    refine s_aload_n C dX2_toFront_62 rfl (lv_at hl 1 rfl) ?_
    refine gC_14_6 C wd_1_152 dX2_toFront_63 ?_
    refine s_iload_n C dX2_toFront_66 rfl (lv_at hl 2 rfl) ?_
    refine s_iload_n C dX2_toFront_67 rfl (lv_at hl 3 rfl) ?_
    obtain ⟨hi14, hf⟩ := bI_some hf
    refine stC_21 C hi14 dX2_toFront_68 ?_
    obtain ⟨σ15, e16, hf⟩ := lt_some hf
    refine s_w (ws2 := (wC h q nf nb σ15)) (by rw [e16]) ?_
    clear e16
    exact ret _ _ _ dX2_toFront_69 (congrArg (fun σ => (wC h q nf nb σ)) (rt_1 hf))
  have b49_1 : ∀ (x1 : Int32) (x2 : Int32) (σ : St), pf_X2_toFront_b49_1 N nf nb x1 x2 σ = some z → ∀ ls : Array Slot, lv_has ls 5 [(0, .ref (h 14)), (1, .int x1), (2, .int x2), (3, .ref (h 25))] → WG p l e (rmO 2 44) s m args below meth c D A 0 0 Q (wC h q nf nb σ) (F0 m 49 ls [.ref (h 23)]) := by
    intro x1 x2 σ hf ls hl
    unfold pf_X2_toFront_b49_1 at hf
    refine s_astore (lv2 := [(4, .ref (h 23)), (0, .ref (h 14)), (1, .int x1), (2, .int x2), (3, .ref (h 25))]) C dX2_toFront_49 hl (by decide) rfl ?_
    intro ls hl
    refine s_aload_n C dX2_toFront_51 rfl (lv_at hl 4 rfl) ?_
    refine s_iload_n C dX2_toFront_52 rfl (lv_at hl 2 rfl) ?_
    obtain ⟨z17, h18, hf⟩ := bn_some hf
    refine s_callVV (As := [.int x1]) (rest := []) C (c_X3_take l D q (h 25) (h 26) N (nf) x1 ((σ.2.1 26), (σ.1 7)) z17 h18) ⟨wd_2_53, wd_2_54, wd_2_55, wd_1_8, wd_2_56, cx_X3_take, Nat.le_of_ble_eq_true rfl, Nat.le_of_ble_eq_true rfl⟩ 25 (ci := 3) rfl rfl rfl (jnC_25_26 nf nb h  q σ z17) rfl hl.1 rfl (Nat.le_of_ble_eq_true rfl) dX2_toFront_53 (Nat.zero_le _) (Nat.zero_le _) ?_
    obtain ⟨σ19, e20, hf⟩ := lt_some hf
    refine s_w (ws2 := (wC h q nf nb σ19)) (by rw [e20]) ?_
    clear e20
    refine s_aload C dX2_toFront_56 (lv_at hl 0 rfl) ?_
    refine s_iload_n C dX2_toFront_58 rfl (lv_at hl 2 rfl) ?_
    obtain ⟨z21, h22, hf⟩ := bn_some hf
    refine s_callVV (As := [.int x1]) (rest := []) C (c_X3_addFront l D q (h 23) (h 24) N (nf) x1 ((σ19.2.1 24), (σ19.1 6)) z21 h22) ⟨wd_2_64, wd_2_65, wd_2_66, wd_1_8, wd_2_67, cx_X3_addFront, Nat.le_of_ble_eq_true rfl, Nat.le_of_ble_eq_true rfl⟩ 23 (ci := 3) rfl rfl rfl (jnC_23_24 nf nb h  q σ19 z21) rfl hl.1 rfl (Nat.le_of_ble_eq_true rfl) dX2_toFront_59 (Nat.zero_le _) (Nat.zero_le _) ?_
    obtain ⟨σ23, e24, hf⟩ := lt_some hf
    refine s_w (ws2 := (wC h q nf nb σ23)) (by rw [e24]) ?_
    clear e24
    refine s_aload_n C dX2_toFront_62 rfl (lv_at hl 1 rfl) ?_
    refine gC_14_6 C wd_1_152 dX2_toFront_63 ?_
    refine s_iload_n C dX2_toFront_66 rfl (lv_at hl 2 rfl) ?_
    refine s_iload_n C dX2_toFront_67 rfl (lv_at hl 3 rfl) ?_
    obtain ⟨hi25, hf⟩ := bI_some hf
    refine stC_21 C hi25 dX2_toFront_68 ?_
    obtain ⟨σ26, e27, hf⟩ := lt_some hf
    refine s_w (ws2 := (wC h q nf nb σ26)) (by rw [e27]) ?_
    clear e27
    exact ret _ _ _ dX2_toFront_69 (congrArg (fun σ => (wC h q nf nb σ)) (rt_1 hf))
  have b33 : ∀ (x1 : Int32) (x2 : Int32) (σ : St), pf_X2_toFront_b33 N nf nb x1 x2 σ = some z → ∀ ls : Array Slot, lv_has ls 5 [(0, .ref (h 14)), (1, .int x1), (2, .int x2)] → WG p l e (rmO 2 44) s m args below meth c D A 0 0 Q (wC h q nf nb σ) (F0 m 33 ls [.ref (h 25)]) := by
    intro x1 x2 σ hf ls hl
    unfold pf_X2_toFront_b33 at hf
    refine s_astore_n (lv2 := [(3, .ref (h 25)), (0, .ref (h 14)), (1, .int x1), (2, .int x2)]) C dX2_toFront_33 rfl hl (by decide) rfl ?_
    intro ls hl
    refine s_iload_n C dX2_toFront_34 rfl (lv_at hl 3 rfl) ?_
    refine s_if_eq (tgt := 45) C dX2_toFront_35 (by decide) (fun c5 => ?_) (fun c5 => ?_)
    · replace hf := it_t c5 hf
      refine s_aload_n C dX2_toFront_45 rfl (lv_at hl 1 rfl) ?_
      refine gC_14_9 C wd_1_157 dX2_toFront_46 ?_
      exact b49 _ _ _ hf _ (lv_sub hl [1, 2, 3, 0] rfl)
    · replace hf := it_f c5 hf
      refine s_aload_n C dX2_toFront_38 rfl (lv_at hl 1 rfl) ?_
      refine gC_14_8 C wd_1_155 dX2_toFront_39 ?_
      refine s_goto (tgt := 49) C dX2_toFront_42 (by decide) ?_
      exact b49_1 _ _ _ hf _ (lv_sub hl [1, 2, 3, 0] rfl)
  have b49_2 : ∀ (x1 : Int32) (x2 : Int32) (σ : St), pf_X2_toFront_b49_2 N nf nb x1 x2 σ = some z → ∀ ls : Array Slot, lv_has ls 5 [(0, .ref (h 14)), (1, .int x1), (2, .int x2), (3, .ref (h 23))] → WG p l e (rmO 2 44) s m args below meth c D A 0 0 Q (wC h q nf nb σ) (F0 m 49 ls [.ref (h 25)]) := by
    intro x1 x2 σ hf ls hl
    unfold pf_X2_toFront_b49_2 at hf
    refine s_astore (lv2 := [(4, .ref (h 25)), (0, .ref (h 14)), (1, .int x1), (2, .int x2), (3, .ref (h 23))]) C dX2_toFront_49 hl (by decide) rfl ?_
    intro ls hl
    refine s_aload_n C dX2_toFront_51 rfl (lv_at hl 4 rfl) ?_
    refine s_iload_n C dX2_toFront_52 rfl (lv_at hl 2 rfl) ?_
    obtain ⟨z29, h30, hf⟩ := bn_some hf
    refine s_callVV (As := [.int x1]) (rest := []) C (c_X3_take l D q (h 23) (h 24) N (nf) x1 ((σ.2.1 24), (σ.1 6)) z29 h30) ⟨wd_2_53, wd_2_54, wd_2_55, wd_1_8, wd_2_56, cx_X3_take, Nat.le_of_ble_eq_true rfl, Nat.le_of_ble_eq_true rfl⟩ 23 (ci := 3) rfl rfl rfl (jnC_23_24 nf nb h  q σ z29) rfl hl.1 rfl (Nat.le_of_ble_eq_true rfl) dX2_toFront_53 (Nat.zero_le _) (Nat.zero_le _) ?_
    obtain ⟨σ31, e32, hf⟩ := lt_some hf
    refine s_w (ws2 := (wC h q nf nb σ31)) (by rw [e32]) ?_
    clear e32
    refine s_aload C dX2_toFront_56 (lv_at hl 0 rfl) ?_
    refine s_iload_n C dX2_toFront_58 rfl (lv_at hl 2 rfl) ?_
    obtain ⟨z33, h34, hf⟩ := bn_some hf
    refine s_callVV (As := [.int x1]) (rest := []) C (c_X3_addFront l D q (h 25) (h 26) N (nf) x1 ((σ31.2.1 26), (σ31.1 7)) z33 h34) ⟨wd_2_64, wd_2_65, wd_2_66, wd_1_8, wd_2_67, cx_X3_addFront, Nat.le_of_ble_eq_true rfl, Nat.le_of_ble_eq_true rfl⟩ 25 (ci := 3) rfl rfl rfl (jnC_25_26 nf nb h  q σ31 z33) rfl hl.1 rfl (Nat.le_of_ble_eq_true rfl) dX2_toFront_59 (Nat.zero_le _) (Nat.zero_le _) ?_
    obtain ⟨σ35, e36, hf⟩ := lt_some hf
    refine s_w (ws2 := (wC h q nf nb σ35)) (by rw [e36]) ?_
    clear e36
    refine s_aload_n C dX2_toFront_62 rfl (lv_at hl 1 rfl) ?_
    refine gC_14_6 C wd_1_152 dX2_toFront_63 ?_
    refine s_iload_n C dX2_toFront_66 rfl (lv_at hl 2 rfl) ?_
    refine s_iload_n C dX2_toFront_67 rfl (lv_at hl 3 rfl) ?_
    obtain ⟨hi37, hf⟩ := bI_some hf
    refine stC_21 C hi37 dX2_toFront_68 ?_
    obtain ⟨σ38, e39, hf⟩ := lt_some hf
    refine s_w (ws2 := (wC h q nf nb σ38)) (by rw [e39]) ?_
    clear e39
    exact ret _ _ _ dX2_toFront_69 (congrArg (fun σ => (wC h q nf nb σ)) (rt_1 hf))
  have b49_3 : ∀ (x1 : Int32) (x2 : Int32) (σ : St), pf_X2_toFront_b49_3 N nf nb x1 x2 σ = some z → ∀ ls : Array Slot, lv_has ls 5 [(0, .ref (h 14)), (1, .int x1), (2, .int x2), (3, .ref (h 23))] → WG p l e (rmO 2 44) s m args below meth c D A 0 0 Q (wC h q nf nb σ) (F0 m 49 ls [.ref (h 23)]) := by
    intro x1 x2 σ hf ls hl
    unfold pf_X2_toFront_b49_3 at hf
    refine s_astore (lv2 := [(4, .ref (h 23)), (0, .ref (h 14)), (1, .int x1), (2, .int x2), (3, .ref (h 23))]) C dX2_toFront_49 hl (by decide) rfl ?_
    intro ls hl
    refine s_aload_n C dX2_toFront_51 rfl (lv_at hl 4 rfl) ?_
    refine s_iload_n C dX2_toFront_52 rfl (lv_at hl 2 rfl) ?_
    obtain ⟨z40, h41, hf⟩ := bn_some hf
    refine s_callVV (As := [.int x1]) (rest := []) C (c_X3_take l D q (h 23) (h 24) N (nf) x1 ((σ.2.1 24), (σ.1 6)) z40 h41) ⟨wd_2_53, wd_2_54, wd_2_55, wd_1_8, wd_2_56, cx_X3_take, Nat.le_of_ble_eq_true rfl, Nat.le_of_ble_eq_true rfl⟩ 23 (ci := 3) rfl rfl rfl (jnC_23_24 nf nb h  q σ z40) rfl hl.1 rfl (Nat.le_of_ble_eq_true rfl) dX2_toFront_53 (Nat.zero_le _) (Nat.zero_le _) ?_
    obtain ⟨σ42, e43, hf⟩ := lt_some hf
    refine s_w (ws2 := (wC h q nf nb σ42)) (by rw [e43]) ?_
    clear e43
    refine s_aload C dX2_toFront_56 (lv_at hl 0 rfl) ?_
    refine s_iload_n C dX2_toFront_58 rfl (lv_at hl 2 rfl) ?_
    obtain ⟨z44, h45, hf⟩ := bn_some hf
    refine s_callVV (As := [.int x1]) (rest := []) C (c_X3_addFront l D q (h 23) (h 24) N (nf) x1 ((σ42.2.1 24), (σ42.1 6)) z44 h45) ⟨wd_2_64, wd_2_65, wd_2_66, wd_1_8, wd_2_67, cx_X3_addFront, Nat.le_of_ble_eq_true rfl, Nat.le_of_ble_eq_true rfl⟩ 23 (ci := 3) rfl rfl rfl (jnC_23_24 nf nb h  q σ42 z44) rfl hl.1 rfl (Nat.le_of_ble_eq_true rfl) dX2_toFront_59 (Nat.zero_le _) (Nat.zero_le _) ?_
    obtain ⟨σ46, e47, hf⟩ := lt_some hf
    refine s_w (ws2 := (wC h q nf nb σ46)) (by rw [e47]) ?_
    clear e47
    refine s_aload_n C dX2_toFront_62 rfl (lv_at hl 1 rfl) ?_
    refine gC_14_6 C wd_1_152 dX2_toFront_63 ?_
    refine s_iload_n C dX2_toFront_66 rfl (lv_at hl 2 rfl) ?_
    refine s_iload_n C dX2_toFront_67 rfl (lv_at hl 3 rfl) ?_
    obtain ⟨hi48, hf⟩ := bI_some hf
    refine stC_21 C hi48 dX2_toFront_68 ?_
    obtain ⟨σ49, e50, hf⟩ := lt_some hf
    refine s_w (ws2 := (wC h q nf nb σ49)) (by rw [e50]) ?_
    clear e50
    exact ret _ _ _ dX2_toFront_69 (congrArg (fun σ => (wC h q nf nb σ)) (rt_1 hf))
  have b33_1 : ∀ (x1 : Int32) (x2 : Int32) (σ : St), pf_X2_toFront_b33_1 N nf nb x1 x2 σ = some z → ∀ ls : Array Slot, lv_has ls 5 [(0, .ref (h 14)), (1, .int x1), (2, .int x2)] → WG p l e (rmO 2 44) s m args below meth c D A 0 0 Q (wC h q nf nb σ) (F0 m 33 ls [.ref (h 23)]) := by
    intro x1 x2 σ hf ls hl
    unfold pf_X2_toFront_b33_1 at hf
    refine s_astore_n (lv2 := [(3, .ref (h 23)), (0, .ref (h 14)), (1, .int x1), (2, .int x2)]) C dX2_toFront_33 rfl hl (by decide) rfl ?_
    intro ls hl
    refine s_iload_n C dX2_toFront_34 rfl (lv_at hl 3 rfl) ?_
    refine s_if_eq (tgt := 45) C dX2_toFront_35 (by decide) (fun c28 => ?_) (fun c28 => ?_)
    · replace hf := it_t c28 hf
      refine s_aload_n C dX2_toFront_45 rfl (lv_at hl 1 rfl) ?_
      refine gC_14_9 C wd_1_157 dX2_toFront_46 ?_
      exact b49_2 _ _ _ hf _ (lv_sub hl [1, 2, 3, 0] rfl)
    · replace hf := it_f c28 hf
      refine s_aload_n C dX2_toFront_38 rfl (lv_at hl 1 rfl) ?_
      refine gC_14_8 C wd_1_155 dX2_toFront_39 ?_
      refine s_goto (tgt := 49) C dX2_toFront_42 (by decide) ?_
      exact b49_3 _ _ _ hf _ (lv_sub hl [1, 2, 3, 0] rfl)
  refine s_iload_n C dX2_toFront_0 rfl (lv_at hl 1 rfl) ?_
  refine s_if_lt (tgt := 12) C dX2_toFront_1 (by decide) (fun c1 => ?_) (fun c1 => ?_)
  · replace hf := it_t c1 hf
    exact ret _ _ _ dX2_toFront_12 (congrArg (fun σ => (wC h q nf nb σ)) (rt_1 hf))
  · replace hf := it_f c1 hf
    refine s_iload_n C dX2_toFront_4 rfl (lv_at hl 1 rfl) ?_
    refine s_aload_n C dX2_toFront_5 rfl (lv_at hl 0 rfl) ?_
    refine gC_14_0 C wd_1_140 dX2_toFront_6 ?_
    refine s_icmp_lt (tgt := 13) C dX2_toFront_9 (by decide) (fun c2 => ?_) (fun c2 => ?_)
    · replace hf := it_t c2 hf
      refine s_aload_n C dX2_toFront_13 rfl (lv_at hl 0 rfl) ?_
      refine gC_14_6 C wd_1_152 dX2_toFront_14 ?_
      refine s_iload_n C dX2_toFront_17 rfl (lv_at hl 1 rfl) ?_
      obtain ⟨hi3, hf⟩ := bI_some hf
      refine ldC_21 C hi3 dX2_toFront_18 ?_
      refine s_if_eq (tgt := 29) C dX2_toFront_19 (by decide) (fun c4 => ?_) (fun c4 => ?_)
      · replace hf := it_t c4 hf
        refine s_aload_n C dX2_toFront_29 rfl (lv_at hl 0 rfl) ?_
        refine gC_14_9 C wd_1_157 dX2_toFront_30 ?_
        exact b33 _ _ _ hf _ (lv_sub hl [0, 1, 2] rfl)
      · replace hf := it_f c4 hf
        refine s_aload_n C dX2_toFront_22 rfl (lv_at hl 0 rfl) ?_
        refine gC_14_8 C wd_1_155 dX2_toFront_23 ?_
        refine s_goto (tgt := 33) C dX2_toFront_26 (by decide) ?_
        exact b33_1 _ _ _ hf _ (lv_sub hl [0, 1, 2] rfl)
    · replace hf := it_f c2 hf
      exact ret _ _ _ dX2_toFront_12 (congrArg (fun σ => (wC h q nf nb σ)) (rt_1 hf))
def pf_X2_balance_L2 (N : Nat) (nf : Nat) (nb : Nat) : Nat → Int32 → St → Option St
  | 0, _, _ => none
  | n + 1, x1, σ => if ((2 : Int32) * (σ.1 5)) ≤ x1 then some σ else if (σ.1 6) ≤ (σ.1 7) then some σ else (pf_X3_last N (nf) ((σ.2.1 24), (σ.1 6))).bind (fun z3 => if z3 = (-1 : Int32) then some σ else bI z3 (nf) ((pf_X2_toFront N nf nb z3 ((σ.2.1 19) (Int32.toNatClampNeg z3)) σ).bind (fun z7 => bI z3 (nf) (lt_ (sA z7 19 (upd (z7.2.1 19) (Int32.toNatClampNeg z3) (vp_nar .boolean (0 : Int32)))) (fun σ10 => (pf_X2_balance_L2 N nf nb n) (x1 + 1) σ10)))))
def pf_X2_balance (N : Nat) (nf : Nat) (nb : Nat) (σ : St) : Option St := pf_X2_balance_L2 N nf nb N (0 : Int32) σ
theorem cx_X2_balance : (yX2_balance.cls ≠ "java/lang/invoke/MethodHandle" ∧ yX2_balance.cls ≠ "java/lang/invoke/VarHandle" ∧ (parseMethodDescriptor yX2_balance.desc).map (fun d => d.parameters.length) = some 0) := by decide +kernel
set_option maxHeartbeats 4000000 in
set_option maxRecDepth 100000 in
theorem c_X2_balance (l : Launch) (D : va_G) (q : Nat → ClassId) (h : Nat → Nat) (N : Nat) (nf : Nat) (nb : Nat) (σ : St) (z : St) (hf : pf_X2_balance N nf nb σ = some z) : MV l yX2_balance cX2_balance 3 (none) 3 68 D (tyQ q) [.ref (h 14)] (wC h q nf nb σ) (wC h q nf nb z) := by
  refine MV.of (by decide) (Nat.le_of_ble_eq_true rfl) ?_
  intro p e s m args below meth c Q A C ret ls hl
  have hl : lv_has ls 3 [(0, .ref (h 14))] := hl
  unfold pf_X2_balance at hf
  have L2 : ∀ (n : Nat) (x1 : Int32) (σ : St), pf_X2_balance_L2 N nf nb n x1 σ = some z → ∀ ls : Array Slot, lv_has ls 3 [(0, .ref (h 14)), (1, .int x1)] → WG p l e (rmO 3 68) s m args below meth c D A 0 0 Q (wC h q nf nb σ) (F0 m 2 ls []) := by
    intro n
    induction n with
    | zero => intro x1 σ hf; unfold pf_X2_balance_L2 at hf; cases hf
    | succ n ih =>
      intro x1 σ hf ls hl
      unfold pf_X2_balance_L2 at hf
      refine s_iload_n C dX2_balance_2 rfl (lv_at hl 1 rfl) ?_
      refine s_iconst (v := (2 : Int32)) C dX2_balance_3 (by decide) ?_
      refine s_aload_n C dX2_balance_4 rfl (lv_at hl 0 rfl) ?_
      refine gC_14_0 C wd_1_140 dX2_balance_5 ?_
      refine s_imul C dX2_balance_8 ?_
      refine s_icmp_ge (tgt := 67) C dX2_balance_9 (by decide) (fun c1 => ?_) (fun c1 => ?_)
      · replace hf := it_t c1 hf
        exact ret _ _ _ dX2_balance_67 (congrArg (fun σ => (wC h q nf nb σ)) (rt_1 hf))
      · replace hf := it_f c1 hf
        refine s_aload_n C dX2_balance_12 rfl (lv_at hl 0 rfl) ?_
        refine gC_14_8 C wd_1_155 dX2_balance_13 ?_
        refine gnC_23_1 C nl_13 dX2_balance_16 ?_
        refine s_aload_n C dX2_balance_19 rfl (lv_at hl 0 rfl) ?_
        refine gC_14_9 C wd_1_157 dX2_balance_20 ?_
        refine gnC_25_1 C nl_13 dX2_balance_23 ?_
        refine s_icmp_le (tgt := 67) C dX2_balance_26 (by decide) (fun c2 => ?_) (fun c2 => ?_)
        · replace hf := it_t c2 hf
          exact ret _ _ _ dX2_balance_67 (congrArg (fun σ => (wC h q nf nb σ)) (rt_1 hf))
        · replace hf := it_f c2 hf
          refine s_aload_n C dX2_balance_29 rfl (lv_at hl 0 rfl) ?_
          refine gC_14_8 C wd_1_155 dX2_balance_30 ?_
          obtain ⟨z3, h4, hf⟩ := bn_some hf
          refine s_callIV (As := []) (rest := []) C (c_X3_last l D q (h 23) (h 24) N (nf) ((σ.2.1 24), (σ.1 6)) z3 h4) ⟨wd_2_41, wd_2_42, wd_2_43, wd_1_8, wd_2_44, cx_X3_last, Nat.le_of_ble_eq_true rfl, Nat.le_of_ble_eq_true rfl⟩ 23 (ci := 3) rfl rfl rfl (jnrC_23_24 nf nb h  q σ) rfl hl.1 rfl (Nat.le_of_ble_eq_true rfl) dX2_balance_33 (Nat.zero_le _) (Nat.zero_le _) ?_
          refine s_istore_n (lv2 := [(2, .int z3), (0, .ref (h 14)), (1, .int x1)]) C dX2_balance_36 rfl hl (by decide) rfl ?_
          intro ls hl
          refine s_iload_n C dX2_balance_37 rfl (lv_at hl 0 rfl) ?_
          refine s_iconst (v := (-1 : Int32)) C dX2_balance_38 (by decide) ?_
          refine s_icmp_ne (tgt := 43) C dX2_balance_39 (by decide) (fun c5 => ?_) (fun c5 => ?_)
          · replace hf := it_f c5 hf
            refine s_aload_n C dX2_balance_43 rfl (lv_at hl 1 rfl) ?_
            refine s_iload_n C dX2_balance_44 rfl (lv_at hl 0 rfl) ?_
            refine s_aload_n C dX2_balance_45 rfl (lv_at hl 1 rfl) ?_
            refine gC_14_4 C wd_1_148 dX2_balance_46 ?_
            refine s_iload_n C dX2_balance_49 rfl (lv_at hl 0 rfl) ?_
            obtain ⟨hi6, hf⟩ := bI_some hf
            refine ldC_19 C hi6 dX2_balance_50 ?_
            obtain ⟨z7, h8, hf⟩ := bn_some hf
            refine s_callVV (As := [.int z3, .int ((σ.2.1 19) (Int32.toNatClampNeg z3))]) (rest := []) C (c_X2_toFront l D q h N nf nb z3 ((σ.2.1 19) (Int32.toNatClampNeg z3)) σ z7 h8) ⟨wd_2_49, wd_2_50, wd_2_51, wd_1_7, wd_2_52, cx_X2_toFront, Nat.le_of_ble_eq_true rfl, Nat.le_of_ble_eq_true rfl⟩ 14 (ci := 2) rfl rfl rfl (SubW.full _ _) rfl hl.1 rfl (Nat.le_of_ble_eq_true rfl) dX2_balance_51 (Nat.zero_le _) (Nat.zero_le _) ?_
            refine s_aload_n C dX2_balance_54 rfl (lv_at hl 1 rfl) ?_
            refine gC_14_4 C wd_1_148 dX2_balance_55 ?_
            refine s_iload_n C dX2_balance_58 rfl (lv_at hl 0 rfl) ?_
            refine s_iconst (v := (0 : Int32)) C dX2_balance_59 (by decide) ?_
            obtain ⟨hi9, hf⟩ := bI_some hf
            refine stC_19 C hi9 dX2_balance_60 ?_
            obtain ⟨σ10, e11, hf⟩ := lt_some hf
            refine s_w (ws2 := (wC h q nf nb σ10)) (by rw [e11]) ?_
            clear e11
            refine s_iinc (v := (x1 + 1)) (lv2 := [(1, .int (x1 + 1)), (2, .int z3), (0, .ref (h 14))]) C 2 dX2_balance_61 hl rfl rfl (by decide) rfl ?_
            intro ls hl
            refine s_goto (tgt := 2) C dX2_balance_64 (by decide) ?_
            exact ih _ _ hf _ (lv_sub hl [2, 0] rfl)
          · replace hf := it_t c5 hf
            exact ret _ _ _ dX2_balance_42 (congrArg (fun σ => (wC h q nf nb σ)) (rt_1 hf))
  refine s_iconst (v := (0 : Int32)) C dX2_balance_0 (by decide) ?_
  refine s_istore_n (lv2 := [(1, .int (0 : Int32)), (0, .ref (h 14))]) C dX2_balance_1 rfl hl (by decide) rfl ?_
  intro ls hl
  exact L2 N _ _ hf _ (lv_sub hl [1, 0] rfl)
def pf_X2_clean (N : Nat) (nf : Nat) (nb : Nat) (x1 : Int32) (σ : St) : Option St := (pf_X2_isDirty N nf nb x1 σ).bind (fun z1 => if z1 = 0 then some σ else bI x1 (nf) (lt_ (sA σ 18 (upd (σ.2.1 18) (Int32.toNatClampNeg x1) (-1 : Int32))) (fun σ5 => lt_ (sG σ5 8 ((σ5.1 8) - (1 : Int32))) (fun σ7 => some σ7))))
theorem cx_X2_clean : (yX2_clean.cls ≠ "java/lang/invoke/MethodHandle" ∧ yX2_clean.cls ≠ "java/lang/invoke/VarHandle" ∧ (parseMethodDescriptor yX2_clean.desc).map (fun d => d.parameters.length) = some 1) := by decide +kernel
set_option maxHeartbeats 4000000 in
set_option maxRecDepth 100000 in
theorem c_X2_clean (l : Launch) (D : va_G) (q : Nat → ClassId) (h : Nat → Nat) (N : Nat) (nf : Nat) (nb : Nat) (x1 : Int32) (σ : St) (z : St) (hf : pf_X2_clean N nf nb x1 σ = some z) : MV l yX2_clean cX2_clean 2 (none) 1 21 D (tyQ q) [.ref (h 14), .int x1] (wC h q nf nb σ) (wC h q nf nb z) := by
  refine MV.of (by decide) (Nat.le_of_ble_eq_true rfl) ?_
  intro p e s m args below meth c Q A C ret ls hl
  have hl : lv_has ls 2 [(0, .ref (h 14)), (1, .int x1)] := hl
  unfold pf_X2_clean at hf
  refine s_aload_n C dX2_clean_0 rfl (lv_at hl 0 rfl) ?_
  refine s_iload_n C dX2_clean_1 rfl (lv_at hl 1 rfl) ?_
  obtain ⟨z1, h2, hf⟩ := bn_some hf
  refine s_callIV (As := [.int x1]) (rest := []) C (c_X2_isDirty l D q h N nf nb x1 σ z1 h2) ⟨wd_2_124, wd_2_75, wd_2_76, wd_1_7, wd_2_77, cx_X2_isDirty, Nat.le_of_ble_eq_true rfl, Nat.le_of_ble_eq_true rfl⟩ 14 (ci := 2) rfl rfl rfl (SubW.full _ _) rfl hl.1 rfl (Nat.le_of_ble_eq_true rfl) dX2_clean_2 (Nat.zero_le _) (Nat.zero_le _) ?_
  refine s_if_eq (tgt := 25) C dX2_clean_5 (by decide) (fun c3 => ?_) (fun c3 => ?_)
  · replace hf := it_t c3 hf
    exact ret _ _ _ dX2_clean_25 (congrArg (fun σ => (wC h q nf nb σ)) (rt_1 hf))
  · replace hf := it_f c3 hf
    refine s_aload_n C dX2_clean_8 rfl (lv_at hl 0 rfl) ?_
    refine gC_14_3 C wd_1_146 dX2_clean_9 ?_
    refine s_iload_n C dX2_clean_12 rfl (lv_at hl 1 rfl) ?_
    refine s_iconst (v := (-1 : Int32)) C dX2_clean_13 (by decide) ?_
    obtain ⟨hi4, hf⟩ := bI_some hf
    refine stC_18 C hi4 dX2_clean_14 ?_
    obtain ⟨σ5, e6, hf⟩ := lt_some hf
    refine s_w (ws2 := (wC h q nf nb σ5)) (by rw [e6]) ?_
    clear e6
    refine s_aload_n C dX2_clean_15 rfl (lv_at hl 0 rfl) ?_
    refine s_dup C dX2_clean_16 rfl ?_
    refine gC_14_10 C wd_1_159 dX2_clean_17 ?_
    refine s_iconst (v := (1 : Int32)) C dX2_clean_20 (by decide) ?_
    refine s_isub C dX2_clean_21 ?_
    refine uC_14_10 C wd_1_159 dX2_clean_22 ?_
    obtain ⟨σ7, e8, hf⟩ := lt_some hf
    refine s_w (ws2 := (wC h q nf nb σ7)) (by rw [e8]) ?_
    clear e8
    exact ret _ _ _ dX2_clean_25 (congrArg (fun σ => (wC h q nf nb σ)) (rt_1 hf))
def pf_X2_enter_b60 (N : Nat) (nf : Nat) (nb : Nat) (x1 : Int32) (σ : St) : Option St := (pf_X3_addFront N (nf) x1 ((σ.2.1 26), (σ.1 7))).bind (fun z15 => lt_ (sG (sA σ 26 z15.1) 7 z15.2) (fun σ17 => some σ17))
def pf_X2_enter_b60_1 (N : Nat) (nf : Nat) (nb : Nat) (x1 : Int32) (σ : St) : Option St := (pf_X3_addFront N (nf) x1 ((σ.2.1 24), (σ.1 6))).bind (fun z19 => lt_ (sG (sA σ 24 z19.1) 6 z19.2) (fun σ21 => some σ21))
def pf_X2_enter (N : Nat) (nf : Nat) (nb : Nat) (x1 : Int32) (x2 : Int32) (x3 : Int32) (σ : St) : Option St := if x1 < 0 then some σ else if (σ.1 5) ≤ x1 then some σ else if x2 < 0 then some σ else if x2 < (3072 : Int32) then bI x1 (nf) (lt_ (sA σ 17 (upd (σ.2.1 17) (Int32.toNatClampNeg x1) x2)) (fun σ6 => bI x2 (3072) (lt_ (sA σ6 22 (upd (σ6.2.1 22) (Int32.toNatClampNeg x2) x1)) (fun σ9 => bI x1 (nf) (lt_ (sA σ9 21 (upd (σ9.2.1 21) (Int32.toNatClampNeg x1) (vp_nar .boolean x3))) (fun σ12 => if x3 = 0 then pf_X2_enter_b60 N nf nb x1 σ12 else pf_X2_enter_b60_1 N nf nb x1 σ12)))))) else some σ
theorem cx_X2_enter : (yX2_enter.cls ≠ "java/lang/invoke/MethodHandle" ∧ yX2_enter.cls ≠ "java/lang/invoke/VarHandle" ∧ (parseMethodDescriptor yX2_enter.desc).map (fun d => d.parameters.length) = some 3) := by decide +kernel
set_option maxHeartbeats 4000000 in
set_option maxRecDepth 100000 in
theorem c_X2_enter (l : Launch) (D : va_G) (q : Nat → ClassId) (h : Nat → Nat) (N : Nat) (nf : Nat) (nb : Nat) (x1 : Int32) (x2 : Int32) (x3 : Int32) (σ : St) (z : St) (hf : pf_X2_enter N nf nb x1 x2 x3 σ = some z) : MV l yX2_enter cX2_enter 5 (none) 2 39 D (tyQ q) [.ref (h 14), .int x1, .int x2, .int x3] (wC h q nf nb σ) (wC h q nf nb z) := by
  refine MV.of (by decide) (Nat.le_of_ble_eq_true rfl) ?_
  intro p e s m args below meth c Q A C ret ls hl
  have hl : lv_has ls 5 [(0, .ref (h 14)), (1, .int x1), (2, .int x2), (3, .int x3)] := hl
  unfold pf_X2_enter at hf
  have b60 : ∀ (x1 : Int32) (σ : St), pf_X2_enter_b60 N nf nb x1 σ = some z → ∀ ls : Array Slot, lv_has ls 5 [(1, .int x1)] → WG p l e (rmO 2 39) s m args below meth c D A 0 0 Q (wC h q nf nb σ) (F0 m 60 ls [.ref (h 25)]) := by
    intro x1 σ hf ls hl
    unfold pf_X2_enter_b60 at hf
    refine s_astore (lv2 := [(4, .ref (h 25)), (1, .int x1)]) C dX2_enter_60 hl (by decide) rfl ?_
    intro ls hl
    refine s_aload C dX2_enter_62 (lv_at hl 0 rfl) ?_
    refine s_iload_n C dX2_enter_64 rfl (lv_at hl 1 rfl) ?_
    obtain ⟨z15, h16, hf⟩ := bn_some hf
    refine s_callVV (As := [.int x1]) (rest := []) C (c_X3_addFront l D q (h 25) (h 26) N (nf) x1 ((σ.2.1 26), (σ.1 7)) z15 h16) ⟨wd_2_64, wd_2_65, wd_2_66, wd_1_8, wd_2_67, cx_X3_addFront, Nat.le_of_ble_eq_true rfl, Nat.le_of_ble_eq_true rfl⟩ 25 (ci := 3) rfl rfl rfl (jnC_25_26 nf nb h  q σ z15) rfl hl.1 rfl (Nat.le_of_ble_eq_true rfl) dX2_enter_65 (Nat.zero_le _) (Nat.zero_le _) ?_
    obtain ⟨σ17, e18, hf⟩ := lt_some hf
    refine s_w (ws2 := (wC h q nf nb σ17)) (by rw [e18]) ?_
    clear e18
    exact ret _ _ _ dX2_enter_68 (congrArg (fun σ => (wC h q nf nb σ)) (rt_1 hf))
  have b60_1 : ∀ (x1 : Int32) (σ : St), pf_X2_enter_b60_1 N nf nb x1 σ = some z → ∀ ls : Array Slot, lv_has ls 5 [(1, .int x1)] → WG p l e (rmO 2 39) s m args below meth c D A 0 0 Q (wC h q nf nb σ) (F0 m 60 ls [.ref (h 23)]) := by
    intro x1 σ hf ls hl
    unfold pf_X2_enter_b60_1 at hf
    refine s_astore (lv2 := [(4, .ref (h 23)), (1, .int x1)]) C dX2_enter_60 hl (by decide) rfl ?_
    intro ls hl
    refine s_aload C dX2_enter_62 (lv_at hl 0 rfl) ?_
    refine s_iload_n C dX2_enter_64 rfl (lv_at hl 1 rfl) ?_
    obtain ⟨z19, h20, hf⟩ := bn_some hf
    refine s_callVV (As := [.int x1]) (rest := []) C (c_X3_addFront l D q (h 23) (h 24) N (nf) x1 ((σ.2.1 24), (σ.1 6)) z19 h20) ⟨wd_2_64, wd_2_65, wd_2_66, wd_1_8, wd_2_67, cx_X3_addFront, Nat.le_of_ble_eq_true rfl, Nat.le_of_ble_eq_true rfl⟩ 23 (ci := 3) rfl rfl rfl (jnC_23_24 nf nb h  q σ z19) rfl hl.1 rfl (Nat.le_of_ble_eq_true rfl) dX2_enter_65 (Nat.zero_le _) (Nat.zero_le _) ?_
    obtain ⟨σ21, e22, hf⟩ := lt_some hf
    refine s_w (ws2 := (wC h q nf nb σ21)) (by rw [e22]) ?_
    clear e22
    exact ret _ _ _ dX2_enter_68 (congrArg (fun σ => (wC h q nf nb σ)) (rt_1 hf))
  refine s_iload_n C dX2_enter_0 rfl (lv_at hl 1 rfl) ?_
  refine s_if_lt (tgt := 23) C dX2_enter_1 (by decide) (fun c1 => ?_) (fun c1 => ?_)
  · replace hf := it_t c1 hf
    exact ret _ _ _ dX2_enter_23 (congrArg (fun σ => (wC h q nf nb σ)) (rt_1 hf))
  · replace hf := it_f c1 hf
    refine s_iload_n C dX2_enter_4 rfl (lv_at hl 1 rfl) ?_
    refine s_aload_n C dX2_enter_5 rfl (lv_at hl 0 rfl) ?_
    refine gC_14_0 C wd_1_140 dX2_enter_6 ?_
    refine s_icmp_ge (tgt := 23) C dX2_enter_9 (by decide) (fun c2 => ?_) (fun c2 => ?_)
    · replace hf := it_t c2 hf
      exact ret _ _ _ dX2_enter_23 (congrArg (fun σ => (wC h q nf nb σ)) (rt_1 hf))
    · replace hf := it_f c2 hf
      refine s_iload_n C dX2_enter_12 rfl (lv_at hl 2 rfl) ?_
      refine s_if_lt (tgt := 23) C dX2_enter_13 (by decide) (fun c3 => ?_) (fun c3 => ?_)
      · replace hf := it_t c3 hf
        exact ret _ _ _ dX2_enter_23 (congrArg (fun σ => (wC h q nf nb σ)) (rt_1 hf))
      · replace hf := it_f c3 hf
        refine s_iload_n C dX2_enter_16 rfl (lv_at hl 2 rfl) ?_
        refine s_sipush (v := (3072 : Int32)) C dX2_enter_17 (by decide) ?_
        refine s_icmp_lt (tgt := 24) C dX2_enter_20 (by decide) (fun c4 => ?_) (fun c4 => ?_)
        · replace hf := it_t c4 hf
          refine s_aload_n C dX2_enter_24 rfl (lv_at hl 0 rfl) ?_
          refine gC_14_2 C wd_1_144 dX2_enter_25 ?_
          refine s_iload_n C dX2_enter_28 rfl (lv_at hl 1 rfl) ?_
          refine s_iload_n C dX2_enter_29 rfl (lv_at hl 2 rfl) ?_
          obtain ⟨hi5, hf⟩ := bI_some hf
          refine stC_17 C hi5 dX2_enter_30 ?_
          obtain ⟨σ6, e7, hf⟩ := lt_some hf
          refine s_w (ws2 := (wC h q nf nb σ6)) (by rw [e7]) ?_
          clear e7
          refine s_aload_n C dX2_enter_31 rfl (lv_at hl 0 rfl) ?_
          refine gC_14_7 C wd_1_154 dX2_enter_32 ?_
          refine s_iload_n C dX2_enter_35 rfl (lv_at hl 2 rfl) ?_
          refine s_iload_n C dX2_enter_36 rfl (lv_at hl 1 rfl) ?_
          obtain ⟨hi8, hf⟩ := bI_some hf
          refine stC_22 C hi8 dX2_enter_37 ?_
          obtain ⟨σ9, e10, hf⟩ := lt_some hf
          refine s_w (ws2 := (wC h q nf nb σ9)) (by rw [e10]) ?_
          clear e10
          refine s_aload_n C dX2_enter_38 rfl (lv_at hl 0 rfl) ?_
          refine gC_14_6 C wd_1_152 dX2_enter_39 ?_
          refine s_iload_n C dX2_enter_42 rfl (lv_at hl 1 rfl) ?_
          refine s_iload_n C dX2_enter_43 rfl (lv_at hl 3 rfl) ?_
          obtain ⟨hi11, hf⟩ := bI_some hf
          refine stC_21 C hi11 dX2_enter_44 ?_
          obtain ⟨σ12, e13, hf⟩ := lt_some hf
          refine s_w (ws2 := (wC h q nf nb σ12)) (by rw [e13]) ?_
          clear e13
          refine s_iload_n C dX2_enter_45 rfl (lv_at hl 3 rfl) ?_
          refine s_if_eq (tgt := 56) C dX2_enter_46 (by decide) (fun c14 => ?_) (fun c14 => ?_)
          · replace hf := it_t c14 hf
            refine s_aload_n C dX2_enter_56 rfl (lv_at hl 0 rfl) ?_
            refine gC_14_9 C wd_1_157 dX2_enter_57 ?_
            exact b60 _ _ hf _ (lv_sub hl [1] rfl)
          · replace hf := it_f c14 hf
            refine s_aload_n C dX2_enter_49 rfl (lv_at hl 0 rfl) ?_
            refine gC_14_8 C wd_1_155 dX2_enter_50 ?_
            refine s_goto (tgt := 60) C dX2_enter_53 (by decide) ?_
            exact b60_1 _ _ hf _ (lv_sub hl [1] rfl)
        · replace hf := it_f c4 hf
          exact ret _ _ _ dX2_enter_23 (congrArg (fun σ => (wC h q nf nb σ)) (rt_1 hf))
def pf_X2_frameOf (N : Nat) (nf : Nat) (nb : Nat) (x1 : Int32) (σ : St) : Option Int32 := if x1 < 0 then some (-1 : Int32) else if x1 < (3072 : Int32) then bI x1 (3072) (some ((σ.2.1 22) (Int32.toNatClampNeg x1))) else some (-1 : Int32)
theorem cx_X2_frameOf : (yX2_frameOf.cls ≠ "java/lang/invoke/MethodHandle" ∧ yX2_frameOf.cls ≠ "java/lang/invoke/VarHandle" ∧ (parseMethodDescriptor yX2_frameOf.desc).map (fun d => d.parameters.length) = some 1) := by decide +kernel
set_option maxHeartbeats 4000000 in
set_option maxRecDepth 100000 in
theorem c_X2_frameOf (l : Launch) (D : va_G) (q : Nat → ClassId) (h : Nat → Nat) (N : Nat) (nf : Nat) (nb : Nat) (x1 : Int32) (σ : St) (z : Int32) (hf : pf_X2_frameOf N nf nb x1 σ = some z) : MI l yX2_frameOf cX2_frameOf 2 (some .int) 0 0 D (tyQ q) [.ref (h 14), .int x1] (wC h q nf nb σ) (wC h q nf nb σ) z := by
  refine MI.of (by decide) (Nat.le_of_ble_eq_true rfl) ?_
  intro p e s m args below meth c Q A C ret ls hl
  have hl : lv_has ls 2 [(0, .ref (h 14)), (1, .int x1)] := hl
  unfold pf_X2_frameOf at hf
  refine s_iload_n C dX2_frameOf_0 rfl (lv_at hl 1 rfl) ?_
  refine s_if_lt (tgt := 11) C dX2_frameOf_1 (by decide) (fun c1 => ?_) (fun c1 => ?_)
  · replace hf := it_t c1 hf
    refine s_iconst (v := (-1 : Int32)) C dX2_frameOf_11 (by decide) ?_
    refine s_goto (tgt := 21) C dX2_frameOf_12 (by decide) ?_
    exact ret _ _ _ _ dX2_frameOf_21 rfl (rt_1 hf) rfl
  · replace hf := it_f c1 hf
    refine s_iload_n C dX2_frameOf_4 rfl (lv_at hl 1 rfl) ?_
    refine s_sipush (v := (3072 : Int32)) C dX2_frameOf_5 (by decide) ?_
    refine s_icmp_lt (tgt := 15) C dX2_frameOf_8 (by decide) (fun c2 => ?_) (fun c2 => ?_)
    · replace hf := it_t c2 hf
      refine s_aload_n C dX2_frameOf_15 rfl (lv_at hl 0 rfl) ?_
      refine gC_14_7 C wd_1_154 dX2_frameOf_16 ?_
      refine s_iload_n C dX2_frameOf_19 rfl (lv_at hl 1 rfl) ?_
      obtain ⟨hi3, hf⟩ := bI_some hf
      refine ldC_22 C hi3 dX2_frameOf_20 ?_
      exact ret _ _ _ _ dX2_frameOf_21 rfl (rt_1 hf) rfl
    · replace hf := it_f c2 hf
      refine s_iconst (v := (-1 : Int32)) C dX2_frameOf_11 (by decide) ?_
      refine s_goto (tgt := 21) C dX2_frameOf_12 (by decide) ?_
      exact ret _ _ _ _ dX2_frameOf_21 rfl (rt_1 hf) rfl
def pf_X2_leastFree_L2 (N : Nat) (nf : Nat) (nb : Nat) (σ : St) : Nat → Int32 → Option Int32
  | 0, _ => none
  | n + 1, x1 => if (σ.1 5) ≤ x1 then some (-1 : Int32) else bI x1 (nf) (if ((σ.2.1 17) (Int32.toNatClampNeg x1)) = (-1 : Int32) then some x1 else (pf_X2_leastFree_L2 N nf nb σ n) (x1 + 1) )
def pf_X2_leastFree (N : Nat) (nf : Nat) (nb : Nat) (σ : St) : Option Int32 := pf_X2_leastFree_L2 N nf nb σ N (0 : Int32) 
theorem cx_X2_leastFree : (yX2_leastFree.cls ≠ "java/lang/invoke/MethodHandle" ∧ yX2_leastFree.cls ≠ "java/lang/invoke/VarHandle" ∧ (parseMethodDescriptor yX2_leastFree.desc).map (fun d => d.parameters.length) = some 0) := by decide +kernel
set_option maxHeartbeats 4000000 in
set_option maxRecDepth 100000 in
theorem c_X2_leastFree (l : Launch) (D : va_G) (q : Nat → ClassId) (h : Nat → Nat) (N : Nat) (nf : Nat) (nb : Nat) (σ : St) (z : Int32) (hf : pf_X2_leastFree N nf nb σ = some z) : MI l yX2_leastFree cX2_leastFree 2 (some .int) 0 0 D (tyQ q) [.ref (h 14)] (wC h q nf nb σ) (wC h q nf nb σ) z := by
  refine MI.of (by decide) (Nat.le_of_ble_eq_true rfl) ?_
  intro p e s m args below meth c Q A C ret ls hl
  have hl : lv_has ls 2 [(0, .ref (h 14))] := hl
  unfold pf_X2_leastFree at hf
  have L2 : ∀ (n : Nat) (x1 : Int32), pf_X2_leastFree_L2 N nf nb σ n x1 = some z → ∀ ls : Array Slot, lv_has ls 2 [(0, .ref (h 14)), (1, .int x1)] → WG p l e (rmO 0 0) s m args below meth c D A 0 0 Q (wC h q nf nb σ) (F0 m 2 ls []) := by
    intro n
    induction n with
    | zero => intro x1 hf; unfold pf_X2_leastFree_L2 at hf; cases hf
    | succ n ih =>
      intro x1 hf ls hl
      unfold pf_X2_leastFree_L2 at hf
      refine s_iload_n C dX2_leastFree_2 rfl (lv_at hl 1 rfl) ?_
      refine s_aload_n C dX2_leastFree_3 rfl (lv_at hl 0 rfl) ?_
      refine gC_14_0 C wd_1_140 dX2_leastFree_4 ?_
      refine s_icmp_ge (tgt := 28) C dX2_leastFree_7 (by decide) (fun c1 => ?_) (fun c1 => ?_)
      · replace hf := it_t c1 hf
        refine s_iconst (v := (-1 : Int32)) C dX2_leastFree_28 (by decide) ?_
        exact ret _ _ _ _ dX2_leastFree_29 rfl (rt_1 hf) rfl
      · replace hf := it_f c1 hf
        refine s_aload_n C dX2_leastFree_10 rfl (lv_at hl 0 rfl) ?_
        refine gC_14_2 C wd_1_144 dX2_leastFree_11 ?_
        refine s_iload_n C dX2_leastFree_14 rfl (lv_at hl 1 rfl) ?_
        obtain ⟨hi2, hf⟩ := bI_some hf
        refine ldC_17 C hi2 dX2_leastFree_15 ?_
        refine s_iconst (v := (-1 : Int32)) C dX2_leastFree_16 (by decide) ?_
        refine s_icmp_ne (tgt := 22) C dX2_leastFree_17 (by decide) (fun c3 => ?_) (fun c3 => ?_)
        · replace hf := it_f c3 hf
          refine s_iinc (v := (x1 + 1)) (lv2 := [(1, .int (x1 + 1)), (0, .ref (h 14))]) C 1 dX2_leastFree_22 hl rfl rfl (by decide) rfl ?_
          intro ls hl
          refine s_goto (tgt := 2) C dX2_leastFree_25 (by decide) ?_
          exact ih _ hf _ (lv_sub hl [1, 0] rfl)
        · replace hf := it_t c3 hf
          refine s_iload_n C dX2_leastFree_20 rfl (lv_at hl 1 rfl) ?_
          exact ret _ _ _ _ dX2_leastFree_21 rfl (rt_1 hf) rfl
  refine s_iconst (v := (0 : Int32)) C dX2_leastFree_0 (by decide) ?_
  refine s_istore_n (lv2 := [(1, .int (0 : Int32)), (0, .ref (h 14))]) C dX2_leastFree_1 rfl hl (by decide) rfl ?_
  intro ls hl
  exact L2 N _ hf _ (lv_sub hl [1, 0] rfl)
def pf_X2_spotIn (N : Nat) (nf : Nat) (nb : Nat) (x1 : Int32) (σ : St) : Option Int32 := if x1 < 0 then some (-1 : Int32) else if x1 < (σ.1 5) then bI x1 (nf) (some ((σ.2.1 17) (Int32.toNatClampNeg x1))) else some (-1 : Int32)
theorem cx_X2_spotIn : (yX2_spotIn.cls ≠ "java/lang/invoke/MethodHandle" ∧ yX2_spotIn.cls ≠ "java/lang/invoke/VarHandle" ∧ (parseMethodDescriptor yX2_spotIn.desc).map (fun d => d.parameters.length) = some 1) := by decide +kernel
set_option maxHeartbeats 4000000 in
set_option maxRecDepth 100000 in
theorem c_X2_spotIn (l : Launch) (D : va_G) (q : Nat → ClassId) (h : Nat → Nat) (N : Nat) (nf : Nat) (nb : Nat) (x1 : Int32) (σ : St) (z : Int32) (hf : pf_X2_spotIn N nf nb x1 σ = some z) : MI l yX2_spotIn cX2_spotIn 2 (some .int) 0 0 D (tyQ q) [.ref (h 14), .int x1] (wC h q nf nb σ) (wC h q nf nb σ) z := by
  refine MI.of (by decide) (Nat.le_of_ble_eq_true rfl) ?_
  intro p e s m args below meth c Q A C ret ls hl
  have hl : lv_has ls 2 [(0, .ref (h 14)), (1, .int x1)] := hl
  unfold pf_X2_spotIn at hf
  refine s_iload_n C dX2_spotIn_0 rfl (lv_at hl 1 rfl) ?_
  refine s_if_lt (tgt := 12) C dX2_spotIn_1 (by decide) (fun c1 => ?_) (fun c1 => ?_)
  · replace hf := it_t c1 hf
    refine s_iconst (v := (-1 : Int32)) C dX2_spotIn_12 (by decide) ?_
    refine s_goto (tgt := 22) C dX2_spotIn_13 (by decide) ?_
    exact ret _ _ _ _ dX2_spotIn_22 rfl (rt_1 hf) rfl
  · replace hf := it_f c1 hf
    refine s_iload_n C dX2_spotIn_4 rfl (lv_at hl 1 rfl) ?_
    refine s_aload_n C dX2_spotIn_5 rfl (lv_at hl 0 rfl) ?_
    refine gC_14_0 C wd_1_140 dX2_spotIn_6 ?_
    refine s_icmp_lt (tgt := 16) C dX2_spotIn_9 (by decide) (fun c2 => ?_) (fun c2 => ?_)
    · replace hf := it_t c2 hf
      refine s_aload_n C dX2_spotIn_16 rfl (lv_at hl 0 rfl) ?_
      refine gC_14_2 C wd_1_144 dX2_spotIn_17 ?_
      refine s_iload_n C dX2_spotIn_20 rfl (lv_at hl 1 rfl) ?_
      obtain ⟨hi3, hf⟩ := bI_some hf
      refine ldC_17 C hi3 dX2_spotIn_21 ?_
      exact ret _ _ _ _ dX2_spotIn_22 rfl (rt_1 hf) rfl
    · replace hf := it_f c2 hf
      refine s_iconst (v := (-1 : Int32)) C dX2_spotIn_12 (by decide) ?_
      refine s_goto (tgt := 22) C dX2_spotIn_13 (by decide) ?_
      exact ret _ _ _ _ dX2_spotIn_22 rfl (rt_1 hf) rfl
def pf_X2_setPinned_b43 (N : Nat) (nf : Nat) (nb : Nat) (y2 : Int32) (y1 : Int32) (σ : St) : Option St := lt_ (sG σ 9 (y1 + y2)) (fun σ9 => some σ9)
def pf_X2_setPinned (N : Nat) (nf : Nat) (nb : Nat) (x1 : Int32) (x2 : Int32) (σ : St) : Option St := if x1 < 0 then some σ else if (σ.1 5) ≤ x1 then some σ else bI x1 (nf) (if ((σ.2.1 20) (Int32.toNatClampNeg x1)) = x2 then some σ else bI x1 (nf) (lt_ (sA σ 20 (upd (σ.2.1 20) (Int32.toNatClampNeg x1) (vp_nar .boolean x2))) (fun σ6 => if x2 = 0 then pf_X2_setPinned_b43 N nf nb (-1 : Int32) (σ6.1 9) σ6 else pf_X2_setPinned_b43 N nf nb (1 : Int32) (σ6.1 9) σ6)))
theorem cx_X2_setPinned : (yX2_setPinned.cls ≠ "java/lang/invoke/MethodHandle" ∧ yX2_setPinned.cls ≠ "java/lang/invoke/VarHandle" ∧ (parseMethodDescriptor yX2_setPinned.desc).map (fun d => d.parameters.length) = some 2) := by decide +kernel
set_option maxHeartbeats 4000000 in
set_option maxRecDepth 100000 in
theorem c_X2_setPinned (l : Launch) (D : va_G) (q : Nat → ClassId) (h : Nat → Nat) (N : Nat) (nf : Nat) (nb : Nat) (x1 : Int32) (x2 : Int32) (σ : St) (z : St) (hf : pf_X2_setPinned N nf nb x1 x2 σ = some z) : MV l yX2_setPinned cX2_setPinned 3 (none) 0 0 D (tyQ q) [.ref (h 14), .int x1, .int x2] (wC h q nf nb σ) (wC h q nf nb z) := by
  refine MV.of (by decide) (Nat.le_of_ble_eq_true rfl) ?_
  intro p e s m args below meth c Q A C ret ls hl
  have hl : lv_has ls 3 [(0, .ref (h 14)), (1, .int x1), (2, .int x2)] := hl
  unfold pf_X2_setPinned at hf
  have b43 : ∀ (y2 : Int32) (y1 : Int32) (σ : St), pf_X2_setPinned_b43 N nf nb y2 y1 σ = some z → ∀ ls : Array Slot, lv_has ls 3 [] → WG p l e (rmO 0 0) s m args below meth c D A 0 0 Q (wC h q nf nb σ) (F0 m 43 ls [.int y2, .int y1, .ref (h 14)]) := by
    intro y2 y1 σ hf ls hl
    unfold pf_X2_setPinned_b43 at hf
    refine s_iadd C dX2_setPinned_43 ?_
    refine uC_14_11 C wd_1_161 dX2_setPinned_44 ?_
    obtain ⟨σ9, e10, hf⟩ := lt_some hf
    refine s_w (ws2 := (wC h q nf nb σ9)) (by rw [e10]) ?_
    clear e10
    exact ret _ _ _ dX2_setPinned_47 (congrArg (fun σ => (wC h q nf nb σ)) (rt_1 hf))
  refine s_iload_n C dX2_setPinned_0 rfl (lv_at hl 1 rfl) ?_
  refine s_if_lt (tgt := 47) C dX2_setPinned_1 (by decide) (fun c1 => ?_) (fun c1 => ?_)
  · replace hf := it_t c1 hf
    exact ret _ _ _ dX2_setPinned_47 (congrArg (fun σ => (wC h q nf nb σ)) (rt_1 hf))
  · replace hf := it_f c1 hf
    refine s_iload_n C dX2_setPinned_4 rfl (lv_at hl 1 rfl) ?_
    refine s_aload_n C dX2_setPinned_5 rfl (lv_at hl 0 rfl) ?_
    refine gC_14_0 C wd_1_140 dX2_setPinned_6 ?_
    refine s_icmp_ge (tgt := 47) C dX2_setPinned_9 (by decide) (fun c2 => ?_) (fun c2 => ?_)
    · replace hf := it_t c2 hf
      exact ret _ _ _ dX2_setPinned_47 (congrArg (fun σ => (wC h q nf nb σ)) (rt_1 hf))
    · replace hf := it_f c2 hf
      refine s_aload_n C dX2_setPinned_12 rfl (lv_at hl 0 rfl) ?_
      refine gC_14_5 C wd_1_150 dX2_setPinned_13 ?_
      refine s_iload_n C dX2_setPinned_16 rfl (lv_at hl 1 rfl) ?_
      obtain ⟨hi3, hf⟩ := bI_some hf
      refine ldC_20 C hi3 dX2_setPinned_17 ?_
      refine s_iload_n C dX2_setPinned_18 rfl (lv_at hl 2 rfl) ?_
      refine s_icmp_eq (tgt := 47) C dX2_setPinned_19 (by decide) (fun c4 => ?_) (fun c4 => ?_)
      · replace hf := it_t c4 hf
        exact ret _ _ _ dX2_setPinned_47 (congrArg (fun σ => (wC h q nf nb σ)) (rt_1 hf))
      · replace hf := it_f c4 hf
        refine s_aload_n C dX2_setPinned_22 rfl (lv_at hl 0 rfl) ?_
        refine gC_14_5 C wd_1_150 dX2_setPinned_23 ?_
        refine s_iload_n C dX2_setPinned_26 rfl (lv_at hl 1 rfl) ?_
        refine s_iload_n C dX2_setPinned_27 rfl (lv_at hl 2 rfl) ?_
        obtain ⟨hi5, hf⟩ := bI_some hf
        refine stC_20 C hi5 dX2_setPinned_28 ?_
        obtain ⟨σ6, e7, hf⟩ := lt_some hf
        refine s_w (ws2 := (wC h q nf nb σ6)) (by rw [e7]) ?_
        clear e7
        refine s_aload_n C dX2_setPinned_29 rfl (lv_at hl 0 rfl) ?_
        refine s_dup C dX2_setPinned_30 rfl ?_
        refine gC_14_11 C wd_1_161 dX2_setPinned_31 ?_
        refine s_iload_n C dX2_setPinned_34 rfl (lv_at hl 2 rfl) ?_
        refine s_if_eq (tgt := 42) C dX2_setPinned_35 (by decide) (fun c8 => ?_) (fun c8 => ?_)
        · replace hf := it_t c8 hf
          refine s_iconst (v := (-1 : Int32)) C dX2_setPinned_42 (by decide) ?_
          exact b43 _ _ _ hf _ (lv_sub hl [] rfl)
        · replace hf := it_f c8 hf
          refine s_iconst (v := (1 : Int32)) C dX2_setPinned_38 (by decide) ?_
          refine s_goto (tgt := 43) C dX2_setPinned_39 (by decide) ?_
          exact b43 _ _ _ hf _ (lv_sub hl [] rfl)
def pf_X2_leave_b43 (N : Nat) (nf : Nat) (nb : Nat) (x1 : Int32) (x2 : Int32) (σ : St) : Option St := (pf_X3_take N (nf) x1 ((σ.2.1 26), (σ.1 7))).bind (fun z10 => lt_ (sG (sA σ 26 z10.1) 7 z10.2) (fun σ12 => bI x1 (nf) (lt_ (sA σ12 19 (upd (σ12.2.1 19) (Int32.toNatClampNeg x1) (vp_nar .boolean (0 : Int32)))) (fun σ15 => bI x1 (nf) (lt_ (sA σ15 21 (upd (σ15.2.1 21) (Int32.toNatClampNeg x1) (vp_nar .boolean (0 : Int32)))) (fun σ18 => bI x2 (3072) (lt_ (sA σ18 22 (upd (σ18.2.1 22) (Int32.toNatClampNeg x2) (-1 : Int32))) (fun σ21 => bI x1 (nf) (lt_ (sA σ21 17 (upd (σ21.2.1 17) (Int32.toNatClampNeg x1) (-1 : Int32))) (fun σ24 => some σ24))))))))))
def pf_X2_leave_b43_1 (N : Nat) (nf : Nat) (nb : Nat) (x1 : Int32) (x2 : Int32) (σ : St) : Option St := (pf_X3_take N (nf) x1 ((σ.2.1 24), (σ.1 6))).bind (fun z26 => lt_ (sG (sA σ 24 z26.1) 6 z26.2) (fun σ28 => bI x1 (nf) (lt_ (sA σ28 19 (upd (σ28.2.1 19) (Int32.toNatClampNeg x1) (vp_nar .boolean (0 : Int32)))) (fun σ31 => bI x1 (nf) (lt_ (sA σ31 21 (upd (σ31.2.1 21) (Int32.toNatClampNeg x1) (vp_nar .boolean (0 : Int32)))) (fun σ34 => bI x2 (3072) (lt_ (sA σ34 22 (upd (σ34.2.1 22) (Int32.toNatClampNeg x2) (-1 : Int32))) (fun σ37 => bI x1 (nf) (lt_ (sA σ37 17 (upd (σ37.2.1 17) (Int32.toNatClampNeg x1) (-1 : Int32))) (fun σ40 => some σ40))))))))))
def pf_X2_leave (N : Nat) (nf : Nat) (nb : Nat) (x1 : Int32) (σ : St) : Option St := (pf_X2_spotIn N nf nb x1 σ).bind (fun z1 => if z1 = (-1 : Int32) then some σ else (pf_X2_clean N nf nb x1 σ).bind (fun z4 => (pf_X2_setPinned N nf nb x1 (0 : Int32) z4).bind (fun z6 => bI x1 (nf) (if ((z6.2.1 21) (Int32.toNatClampNeg x1)) = 0 then pf_X2_leave_b43 N nf nb x1 z1 z6 else pf_X2_leave_b43_1 N nf nb x1 z1 z6))))
theorem cx_X2_leave : (yX2_leave.cls ≠ "java/lang/invoke/MethodHandle" ∧ yX2_leave.cls ≠ "java/lang/invoke/VarHandle" ∧ (parseMethodDescriptor yX2_leave.desc).map (fun d => d.parameters.length) = some 1) := by decide +kernel
set_option maxHeartbeats 4000000 in
set_option maxRecDepth 100000 in
theorem c_X2_leave (l : Launch) (D : va_G) (q : Nat → ClassId) (h : Nat → Nat) (N : Nat) (nf : Nat) (nb : Nat) (x1 : Int32) (σ : St) (z : St) (hf : pf_X2_leave N nf nb x1 σ = some z) : MV l yX2_leave cX2_leave 4 (none) 2 44 D (tyQ q) [.ref (h 14), .int x1] (wC h q nf nb σ) (wC h q nf nb z) := by
  refine MV.of (by decide) (Nat.le_of_ble_eq_true rfl) ?_
  intro p e s m args below meth c Q A C ret ls hl
  have hl : lv_has ls 4 [(0, .ref (h 14)), (1, .int x1)] := hl
  unfold pf_X2_leave at hf
  have b43 : ∀ (x1 : Int32) (x2 : Int32) (σ : St), pf_X2_leave_b43 N nf nb x1 x2 σ = some z → ∀ ls : Array Slot, lv_has ls 4 [(0, .ref (h 14)), (1, .int x1), (2, .int x2)] → WG p l e (rmO 2 44) s m args below meth c D A 0 0 Q (wC h q nf nb σ) (F0 m 43 ls [.ref (h 25)]) := by
    intro x1 x2 σ hf ls hl
    unfold pf_X2_leave_b43 at hf
    refine s_astore_n (lv2 := [(3, .ref (h 25)), (0, .ref (h 14)), (1, .int x1), (2, .int x2)]) C dX2_leave_43 rfl hl (by decide) rfl ?_
    intro ls hl
    refine s_aload_n C dX2_leave_44 rfl (lv_at hl 0 rfl) ?_
    refine s_iload_n C dX2_leave_45 rfl (lv_at hl 2 rfl) ?_
    obtain ⟨z10, h11, hf⟩ := bn_some hf
    refine s_callVV (As := [.int x1]) (rest := []) C (c_X3_take l D q (h 25) (h 26) N (nf) x1 ((σ.2.1 26), (σ.1 7)) z10 h11) ⟨wd_2_53, wd_2_54, wd_2_55, wd_1_8, wd_2_56, cx_X3_take, Nat.le_of_ble_eq_true rfl, Nat.le_of_ble_eq_true rfl⟩ 25 (ci := 3) rfl rfl rfl (jnC_25_26 nf nb h  q σ z10) rfl hl.1 rfl (Nat.le_of_ble_eq_true rfl) dX2_leave_46 (Nat.zero_le _) (Nat.zero_le _) ?_
    obtain ⟨σ12, e13, hf⟩ := lt_some hf
    refine s_w (ws2 := (wC h q nf nb σ12)) (by rw [e13]) ?_
    clear e13
    refine s_aload_n C dX2_leave_49 rfl (lv_at hl 1 rfl) ?_
    refine gC_14_4 C wd_1_148 dX2_leave_50 ?_
    refine s_iload_n C dX2_leave_53 rfl (lv_at hl 2 rfl) ?_
    refine s_iconst (v := (0 : Int32)) C dX2_leave_54 (by decide) ?_
    obtain ⟨hi14, hf⟩ := bI_some hf
    refine stC_19 C hi14 dX2_leave_55 ?_
    obtain ⟨σ15, e16, hf⟩ := lt_some hf
    refine s_w (ws2 := (wC h q nf nb σ15)) (by rw [e16]) ?_
    clear e16
    refine s_aload_n C dX2_leave_56 rfl (lv_at hl 1 rfl) ?_
    refine gC_14_6 C wd_1_152 dX2_leave_57 ?_
    refine s_iload_n C dX2_leave_60 rfl (lv_at hl 2 rfl) ?_
    refine s_iconst (v := (0 : Int32)) C dX2_leave_61 (by decide) ?_
    obtain ⟨hi17, hf⟩ := bI_some hf
    refine stC_21 C hi17 dX2_leave_62 ?_
    obtain ⟨σ18, e19, hf⟩ := lt_some hf
    refine s_w (ws2 := (wC h q nf nb σ18)) (by rw [e19]) ?_
    clear e19
    refine s_aload_n C dX2_leave_63 rfl (lv_at hl 1 rfl) ?_
    refine gC_14_7 C wd_1_154 dX2_leave_64 ?_
    refine s_iload_n C dX2_leave_67 rfl (lv_at hl 3 rfl) ?_
    refine s_iconst (v := (-1 : Int32)) C dX2_leave_68 (by decide) ?_
    obtain ⟨hi20, hf⟩ := bI_some hf
    refine stC_22 C hi20 dX2_leave_69 ?_
    obtain ⟨σ21, e22, hf⟩ := lt_some hf
    refine s_w (ws2 := (wC h q nf nb σ21)) (by rw [e22]) ?_
    clear e22
    refine s_aload_n C dX2_leave_70 rfl (lv_at hl 1 rfl) ?_
    refine gC_14_2 C wd_1_144 dX2_leave_71 ?_
    refine s_iload_n C dX2_leave_74 rfl (lv_at hl 2 rfl) ?_
    refine s_iconst (v := (-1 : Int32)) C dX2_leave_75 (by decide) ?_
    obtain ⟨hi23, hf⟩ := bI_some hf
    refine stC_17 C hi23 dX2_leave_76 ?_
    obtain ⟨σ24, e25, hf⟩ := lt_some hf
    refine s_w (ws2 := (wC h q nf nb σ24)) (by rw [e25]) ?_
    clear e25
    exact ret _ _ _ dX2_leave_77 (congrArg (fun σ => (wC h q nf nb σ)) (rt_1 hf))
  have b43_1 : ∀ (x1 : Int32) (x2 : Int32) (σ : St), pf_X2_leave_b43_1 N nf nb x1 x2 σ = some z → ∀ ls : Array Slot, lv_has ls 4 [(0, .ref (h 14)), (1, .int x1), (2, .int x2)] → WG p l e (rmO 2 44) s m args below meth c D A 0 0 Q (wC h q nf nb σ) (F0 m 43 ls [.ref (h 23)]) := by
    intro x1 x2 σ hf ls hl
    unfold pf_X2_leave_b43_1 at hf
    refine s_astore_n (lv2 := [(3, .ref (h 23)), (0, .ref (h 14)), (1, .int x1), (2, .int x2)]) C dX2_leave_43 rfl hl (by decide) rfl ?_
    intro ls hl
    refine s_aload_n C dX2_leave_44 rfl (lv_at hl 0 rfl) ?_
    refine s_iload_n C dX2_leave_45 rfl (lv_at hl 2 rfl) ?_
    obtain ⟨z26, h27, hf⟩ := bn_some hf
    refine s_callVV (As := [.int x1]) (rest := []) C (c_X3_take l D q (h 23) (h 24) N (nf) x1 ((σ.2.1 24), (σ.1 6)) z26 h27) ⟨wd_2_53, wd_2_54, wd_2_55, wd_1_8, wd_2_56, cx_X3_take, Nat.le_of_ble_eq_true rfl, Nat.le_of_ble_eq_true rfl⟩ 23 (ci := 3) rfl rfl rfl (jnC_23_24 nf nb h  q σ z26) rfl hl.1 rfl (Nat.le_of_ble_eq_true rfl) dX2_leave_46 (Nat.zero_le _) (Nat.zero_le _) ?_
    obtain ⟨σ28, e29, hf⟩ := lt_some hf
    refine s_w (ws2 := (wC h q nf nb σ28)) (by rw [e29]) ?_
    clear e29
    refine s_aload_n C dX2_leave_49 rfl (lv_at hl 1 rfl) ?_
    refine gC_14_4 C wd_1_148 dX2_leave_50 ?_
    refine s_iload_n C dX2_leave_53 rfl (lv_at hl 2 rfl) ?_
    refine s_iconst (v := (0 : Int32)) C dX2_leave_54 (by decide) ?_
    obtain ⟨hi30, hf⟩ := bI_some hf
    refine stC_19 C hi30 dX2_leave_55 ?_
    obtain ⟨σ31, e32, hf⟩ := lt_some hf
    refine s_w (ws2 := (wC h q nf nb σ31)) (by rw [e32]) ?_
    clear e32
    refine s_aload_n C dX2_leave_56 rfl (lv_at hl 1 rfl) ?_
    refine gC_14_6 C wd_1_152 dX2_leave_57 ?_
    refine s_iload_n C dX2_leave_60 rfl (lv_at hl 2 rfl) ?_
    refine s_iconst (v := (0 : Int32)) C dX2_leave_61 (by decide) ?_
    obtain ⟨hi33, hf⟩ := bI_some hf
    refine stC_21 C hi33 dX2_leave_62 ?_
    obtain ⟨σ34, e35, hf⟩ := lt_some hf
    refine s_w (ws2 := (wC h q nf nb σ34)) (by rw [e35]) ?_
    clear e35
    refine s_aload_n C dX2_leave_63 rfl (lv_at hl 1 rfl) ?_
    refine gC_14_7 C wd_1_154 dX2_leave_64 ?_
    refine s_iload_n C dX2_leave_67 rfl (lv_at hl 3 rfl) ?_
    refine s_iconst (v := (-1 : Int32)) C dX2_leave_68 (by decide) ?_
    obtain ⟨hi36, hf⟩ := bI_some hf
    refine stC_22 C hi36 dX2_leave_69 ?_
    obtain ⟨σ37, e38, hf⟩ := lt_some hf
    refine s_w (ws2 := (wC h q nf nb σ37)) (by rw [e38]) ?_
    clear e38
    refine s_aload_n C dX2_leave_70 rfl (lv_at hl 1 rfl) ?_
    refine gC_14_2 C wd_1_144 dX2_leave_71 ?_
    refine s_iload_n C dX2_leave_74 rfl (lv_at hl 2 rfl) ?_
    refine s_iconst (v := (-1 : Int32)) C dX2_leave_75 (by decide) ?_
    obtain ⟨hi39, hf⟩ := bI_some hf
    refine stC_17 C hi39 dX2_leave_76 ?_
    obtain ⟨σ40, e41, hf⟩ := lt_some hf
    refine s_w (ws2 := (wC h q nf nb σ40)) (by rw [e41]) ?_
    clear e41
    exact ret _ _ _ dX2_leave_77 (congrArg (fun σ => (wC h q nf nb σ)) (rt_1 hf))
  refine s_aload_n C dX2_leave_0 rfl (lv_at hl 0 rfl) ?_
  refine s_iload_n C dX2_leave_1 rfl (lv_at hl 1 rfl) ?_
  obtain ⟨z1, h2, hf⟩ := bn_some hf
  refine s_callIV (As := [.int x1]) (rest := []) C (c_X2_spotIn l D q h N nf nb x1 σ z1 h2) ⟨wd_2_138, wd_2_83, wd_2_84, wd_1_7, wd_2_85, cx_X2_spotIn, Nat.le_of_ble_eq_true rfl, Nat.le_of_ble_eq_true rfl⟩ 14 (ci := 2) rfl rfl rfl (SubW.full _ _) rfl hl.1 rfl (Nat.le_of_ble_eq_true rfl) dX2_leave_2 (Nat.zero_le _) (Nat.zero_le _) ?_
  refine s_istore_n (lv2 := [(2, .int z1), (0, .ref (h 14)), (1, .int x1)]) C dX2_leave_5 rfl hl (by decide) rfl ?_
  intro ls hl
  refine s_iload_n C dX2_leave_6 rfl (lv_at hl 0 rfl) ?_
  refine s_iconst (v := (-1 : Int32)) C dX2_leave_7 (by decide) ?_
  refine s_icmp_ne (tgt := 12) C dX2_leave_8 (by decide) (fun c3 => ?_) (fun c3 => ?_)
  · replace hf := it_f c3 hf
    refine s_aload_n C dX2_leave_12 rfl (lv_at hl 1 rfl) ?_
    refine s_iload_n C dX2_leave_13 rfl (lv_at hl 2 rfl) ?_
    obtain ⟨z4, h5, hf⟩ := bn_some hf
    refine s_callVV (As := [.int x1]) (rest := []) C (c_X2_clean l D q h N nf nb x1 σ z4 h5) ⟨wd_2_139, wd_2_121, wd_2_122, wd_1_7, wd_2_123, cx_X2_clean, Nat.le_of_ble_eq_true rfl, Nat.le_of_ble_eq_true rfl⟩ 14 (ci := 2) rfl rfl rfl (SubW.full _ _) rfl hl.1 rfl (Nat.le_of_ble_eq_true rfl) dX2_leave_14 (Nat.zero_le _) (Nat.zero_le _) ?_
    refine s_aload_n C dX2_leave_17 rfl (lv_at hl 1 rfl) ?_
    refine s_iload_n C dX2_leave_18 rfl (lv_at hl 2 rfl) ?_
    refine s_iconst (v := (0 : Int32)) C dX2_leave_19 (by decide) ?_
    obtain ⟨z6, h7, hf⟩ := bn_some hf
    refine s_callVV (As := [.int x1, .int (0 : Int32)]) (rest := []) C (c_X2_setPinned l D q h N nf nb x1 (0 : Int32) z4 z6 h7) ⟨wd_2_140, wd_2_141, wd_2_142, wd_1_7, wd_2_143, cx_X2_setPinned, Nat.le_of_ble_eq_true rfl, Nat.le_of_ble_eq_true rfl⟩ 14 (ci := 2) rfl rfl rfl (SubW.full _ _) rfl hl.1 rfl (Nat.le_of_ble_eq_true rfl) dX2_leave_20 (Nat.zero_le _) (Nat.zero_le _) ?_
    refine s_aload_n C dX2_leave_23 rfl (lv_at hl 1 rfl) ?_
    refine gC_14_6 C wd_1_152 dX2_leave_24 ?_
    refine s_iload_n C dX2_leave_27 rfl (lv_at hl 2 rfl) ?_
    obtain ⟨hi8, hf⟩ := bI_some hf
    refine ldC_21 C hi8 dX2_leave_28 ?_
    refine s_if_eq (tgt := 39) C dX2_leave_29 (by decide) (fun c9 => ?_) (fun c9 => ?_)
    · replace hf := it_t c9 hf
      refine s_aload_n C dX2_leave_39 rfl (lv_at hl 1 rfl) ?_
      refine gC_14_9 C wd_1_157 dX2_leave_40 ?_
      exact b43 _ _ _ hf _ (lv_sub hl [1, 2, 0] rfl)
    · replace hf := it_f c9 hf
      refine s_aload_n C dX2_leave_32 rfl (lv_at hl 1 rfl) ?_
      refine gC_14_8 C wd_1_155 dX2_leave_33 ?_
      refine s_goto (tgt := 43) C dX2_leave_36 (by decide) ?_
      exact b43_1 _ _ _ hf _ (lv_sub hl [1, 2, 0] rfl)
  · replace hf := it_t c3 hf
    exact ret _ _ _ dX2_leave_11 (congrArg (fun σ => (wC h q nf nb σ)) (rt_1 hf))
def pf_X2_oldestDirty_b59 (N : Nat) (nf : Nat) (nb : Nat) (σ : St) (J8 : Int64 → Int32 → Int64 → Int32 → Option Int32) (x1 : Int64) (x3 : Int32) (x4 : Int64) (x6 : Int32) : Option Int32 := J8 x1 x3 x4 (x6 + 1) 
def pf_X2_oldestDirty_b52 (N : Nat) (nf : Nat) (nb : Nat) (σ : St) (J8 : Int64 → Int32 → Int64 → Int32 → Option Int32) (x1 : Int64) (x6 : Int32) (x7 : Int64) : Option Int32 := pf_X2_oldestDirty_b59 N nf nb σ J8 x1 x6 x7 x6 
def pf_X2_oldestDirty_L8 (N : Nat) (nf : Nat) (nb : Nat) (σ : St) : Nat → Int64 → Int32 → Int64 → Int32 → Option Int32
  | 0, _, _, _, _ => none
  | n + 1, x1, x3, x4, x6 => if (σ.1 5) ≤ x6 then some x3 else if (σ.1 8) ≤ 0 then some x3 else (pf_X2_ageKey N nf nb x6 σ).bind (fun z3 => if (lg_cmp z3 x1) ≤ 0 then pf_X2_oldestDirty_b59 N nf nb σ (pf_X2_oldestDirty_L8 N nf nb σ n) x1 x3 x4 x6  else if x3 = (-1 : Int32) then pf_X2_oldestDirty_b52 N nf nb σ (pf_X2_oldestDirty_L8 N nf nb σ n) x1 x6 z3  else if 0 ≤ (lg_cmp z3 x4) then pf_X2_oldestDirty_b59 N nf nb σ (pf_X2_oldestDirty_L8 N nf nb σ n) x1 x3 x4 x6  else pf_X2_oldestDirty_b52 N nf nb σ (pf_X2_oldestDirty_L8 N nf nb σ n) x1 x6 z3 )
def pf_X2_oldestDirty (N : Nat) (nf : Nat) (nb : Nat) (x1 : Int64) (σ : St) : Option Int32 := pf_X2_oldestDirty_L8 N nf nb σ N x1 (-1 : Int32) (0 : Int64) (0 : Int32) 
theorem cx_X2_oldestDirty : (yX2_oldestDirty.cls ≠ "java/lang/invoke/MethodHandle" ∧ yX2_oldestDirty.cls ≠ "java/lang/invoke/VarHandle" ∧ (parseMethodDescriptor yX2_oldestDirty.desc).map (fun d => d.parameters.length) = some 1) := by decide +kernel
set_option maxHeartbeats 4000000 in
set_option maxRecDepth 100000 in
theorem c_X2_oldestDirty (l : Launch) (D : va_G) (q : Nat → ClassId) (h : Nat → Nat) (N : Nat) (nf : Nat) (nb : Nat) (x1 : Int64) (σ : St) (z : Int32) (hf : pf_X2_oldestDirty N nf nb x1 σ = some z) : MI l yX2_oldestDirty cX2_oldestDirty 9 (some .int) 2 42 D (tyQ q) [.ref (h 14), .long x1] (wC h q nf nb σ) (wC h q nf nb σ) z := by
  refine MI.of (by decide) (Nat.le_of_ble_eq_true rfl) ?_
  intro p e s m args below meth c Q A C ret ls hl
  have hl : lv_has ls 9 [(0, .ref (h 14)), (1, .long x1)] := hl
  unfold pf_X2_oldestDirty at hf
  have b59 : ∀ (J8 : Int64 → Int32 → Int64 → Int32 → Option Int32) (hJ8 : ∀ (x1 : Int64) (x3 : Int32) (x4 : Int64) (x6 : Int32), J8 x1 x3 x4 x6 = some z → ∀ ls : Array Slot, lv_has ls 9 [(0, .ref (h 14)), (1, .long x1), (3, .int x3), (4, .long x4), (6, .int x6)] → WG p l e (rmO 2 42) s m args below meth c D A 0 0 Q (wC h q nf nb σ) (F0 m 8 ls [])) (x1 : Int64) (x3 : Int32) (x4 : Int64) (x6 : Int32), pf_X2_oldestDirty_b59 N nf nb σ J8 x1 x3 x4 x6 = some z → ∀ ls : Array Slot, lv_has ls 9 [(0, .ref (h 14)), (1, .long x1), (3, .int x3), (4, .long x4), (6, .int x6)] → WG p l e (rmO 2 42) s m args below meth c D A 0 0 Q (wC h q nf nb σ) (F0 m 59 ls []) := by
    intro J8 hJ8 x1 x3 x4 x6 hf ls hl
    unfold pf_X2_oldestDirty_b59 at hf
    refine s_iinc (v := (x6 + 1)) (lv2 := [(6, .int (x6 + 1)), (0, .ref (h 14)), (1, .long x1), (3, .int x3), (4, .long x4)]) C 4 dX2_oldestDirty_59 hl rfl rfl (by decide) rfl ?_
    intro ls hl
    refine s_goto (tgt := 8) C dX2_oldestDirty_62 (by decide) ?_
    exact hJ8 _ _ _ _ hf _ (lv_sub hl [1, 2, 3, 4, 0] rfl)
  have b52 : ∀ (J8 : Int64 → Int32 → Int64 → Int32 → Option Int32) (hJ8 : ∀ (x1 : Int64) (x3 : Int32) (x4 : Int64) (x6 : Int32), J8 x1 x3 x4 x6 = some z → ∀ ls : Array Slot, lv_has ls 9 [(0, .ref (h 14)), (1, .long x1), (3, .int x3), (4, .long x4), (6, .int x6)] → WG p l e (rmO 2 42) s m args below meth c D A 0 0 Q (wC h q nf nb σ) (F0 m 8 ls [])) (x1 : Int64) (x6 : Int32) (x7 : Int64), pf_X2_oldestDirty_b52 N nf nb σ J8 x1 x6 x7 = some z → ∀ ls : Array Slot, lv_has ls 9 [(0, .ref (h 14)), (1, .long x1), (6, .int x6), (7, .long x7)] → WG p l e (rmO 2 42) s m args below meth c D A 0 0 Q (wC h q nf nb σ) (F0 m 52 ls []) := by
    intro J8 hJ8 x1 x6 x7 hf ls hl
    unfold pf_X2_oldestDirty_b52 at hf
    refine s_iload C dX2_oldestDirty_52 (lv_at hl 2 rfl) ?_
    refine s_istore_n (lv2 := [(3, .int x6), (0, .ref (h 14)), (1, .long x1), (6, .int x6), (7, .long x7)]) C dX2_oldestDirty_54 rfl hl (by decide) rfl ?_
    intro ls hl
    refine s_lload C dX2_oldestDirty_55 (lv_at hl 4 rfl) ?_
    refine s_lstore (lv2 := [(4, .long x7), (3, .int x6), (0, .ref (h 14)), (1, .long x1), (6, .int x6), (7, .long x7)]) C dX2_oldestDirty_57 hl (by decide) rfl ?_
    intro ls hl
    exact b59 _ hJ8 _ _ _ _ hf _ (lv_sub hl [2, 3, 1, 0, 4] rfl)
  have L8 : ∀ (n : Nat) (x1 : Int64) (x3 : Int32) (x4 : Int64) (x6 : Int32), pf_X2_oldestDirty_L8 N nf nb σ n x1 x3 x4 x6 = some z → ∀ ls : Array Slot, lv_has ls 9 [(0, .ref (h 14)), (1, .long x1), (3, .int x3), (4, .long x4), (6, .int x6)] → WG p l e (rmO 2 42) s m args below meth c D A 0 0 Q (wC h q nf nb σ) (F0 m 8 ls []) := by
    intro n
    induction n with
    | zero => intro x1 x3 x4 x6 hf; unfold pf_X2_oldestDirty_L8 at hf; cases hf
    | succ n ih =>
      intro x1 x3 x4 x6 hf ls hl
      unfold pf_X2_oldestDirty_L8 at hf
      refine s_iload C dX2_oldestDirty_8 (lv_at hl 4 rfl) ?_
      refine s_aload_n C dX2_oldestDirty_10 rfl (lv_at hl 0 rfl) ?_
      refine gC_14_0 C wd_1_140 dX2_oldestDirty_11 ?_
      refine s_icmp_ge (tgt := 65) C dX2_oldestDirty_14 (by decide) (fun c1 => ?_) (fun c1 => ?_)
      · replace hf := it_t c1 hf
        refine s_iload_n C dX2_oldestDirty_65 rfl (lv_at hl 2 rfl) ?_
        exact ret _ _ _ _ dX2_oldestDirty_66 rfl (rt_1 hf) rfl
      · replace hf := it_f c1 hf
        refine s_aload_n C dX2_oldestDirty_17 rfl (lv_at hl 0 rfl) ?_
        refine gC_14_10 C wd_1_159 dX2_oldestDirty_18 ?_
        refine s_if_le (tgt := 65) C dX2_oldestDirty_21 (by decide) (fun c2 => ?_) (fun c2 => ?_)
        · replace hf := it_t c2 hf
          refine s_iload_n C dX2_oldestDirty_65 rfl (lv_at hl 2 rfl) ?_
          exact ret _ _ _ _ dX2_oldestDirty_66 rfl (rt_1 hf) rfl
        · replace hf := it_f c2 hf
          refine s_aload_n C dX2_oldestDirty_24 rfl (lv_at hl 0 rfl) ?_
          refine s_iload C dX2_oldestDirty_25 (lv_at hl 4 rfl) ?_
          obtain ⟨z3, h4, hf⟩ := bn_some hf
          refine s_callLV (As := [.int x6]) (rest := []) C (c_X2_ageKey l D q h N nf nb x6 σ z3 h4) ⟨wd_2_219, wd_2_220, wd_2_221, wd_1_7, wd_2_222, cx_X2_ageKey, Nat.le_of_ble_eq_true rfl, Nat.le_of_ble_eq_true rfl⟩ 14 (ci := 2) rfl rfl rfl (SubW.full _ _) rfl hl.1 rfl (Nat.le_of_ble_eq_true rfl) dX2_oldestDirty_27 (Nat.zero_le _) (Nat.zero_le _) ?_
          refine s_lstore (lv2 := [(7, .long z3), (0, .ref (h 14)), (1, .long x1), (3, .int x3), (4, .long x4), (6, .int x6)]) C dX2_oldestDirty_30 hl (by decide) rfl ?_
          intro ls hl
          refine s_lload C dX2_oldestDirty_32 (lv_at hl 0 rfl) ?_
          refine s_lload_n C dX2_oldestDirty_34 rfl (lv_at hl 2 rfl) ?_
          refine s_lcmp C dX2_oldestDirty_35 ?_
          refine s_if_le (tgt := 59) C dX2_oldestDirty_36 (by decide) (fun c5 => ?_) (fun c5 => ?_)
          · replace hf := it_t c5 hf
            exact b59 _ ih _ _ _ _ hf _ (lv_sub hl [1, 2, 3, 4, 5] rfl)
          · replace hf := it_f c5 hf
            refine s_iload_n C dX2_oldestDirty_39 rfl (lv_at hl 3 rfl) ?_
            refine s_iconst (v := (-1 : Int32)) C dX2_oldestDirty_40 (by decide) ?_
            refine s_icmp_eq (tgt := 52) C dX2_oldestDirty_41 (by decide) (fun c6 => ?_) (fun c6 => ?_)
            · replace hf := it_t c6 hf
              exact b52 _ ih _ _ _ hf _ (lv_sub hl [1, 2, 5, 0] rfl)
            · replace hf := it_f c6 hf
              refine s_lload C dX2_oldestDirty_44 (lv_at hl 0 rfl) ?_
              refine s_lload C dX2_oldestDirty_46 (lv_at hl 4 rfl) ?_
              refine s_lcmp C dX2_oldestDirty_48 ?_
              refine s_if_ge (tgt := 59) C dX2_oldestDirty_49 (by decide) (fun c7 => ?_) (fun c7 => ?_)
              · replace hf := it_t c7 hf
                exact b59 _ ih _ _ _ _ hf _ (lv_sub hl [1, 2, 3, 4, 5] rfl)
              · replace hf := it_f c7 hf
                exact b52 _ ih _ _ _ hf _ (lv_sub hl [1, 2, 5, 0] rfl)
  refine s_iconst (v := (-1 : Int32)) C dX2_oldestDirty_0 (by decide) ?_
  refine s_istore_n (lv2 := [(3, .int (-1 : Int32)), (0, .ref (h 14)), (1, .long x1)]) C dX2_oldestDirty_1 rfl hl (by decide) rfl ?_
  intro ls hl
  refine s_lconst (v := (0 : Int64)) C dX2_oldestDirty_2 (by decide) ?_
  refine s_lstore (lv2 := [(4, .long (0 : Int64)), (3, .int (-1 : Int32)), (0, .ref (h 14)), (1, .long x1)]) C dX2_oldestDirty_3 hl (by decide) rfl ?_
  intro ls hl
  refine s_iconst (v := (0 : Int32)) C dX2_oldestDirty_5 (by decide) ?_
  refine s_istore (lv2 := [(6, .int (0 : Int32)), (4, .long (0 : Int64)), (3, .int (-1 : Int32)), (0, .ref (h 14)), (1, .long x1)]) C dX2_oldestDirty_6 hl (by decide) rfl ?_
  intro ls hl
  exact L8 N _ _ _ _ hf _ (lv_sub hl [3, 4, 2, 1, 0] rfl)
def pf_X2_placeOf (N : Nat) (nf : Nat) (nb : Nat) (x1 : Int32) (σ : St) : Option Int32 := if x1 < 0 then some (-1 : Int32) else if x1 < (σ.1 5) then bI x1 (nf) (if ((σ.2.1 21) (Int32.toNatClampNeg x1)) = 0 then (pf_X3_placeOf N (nf) x1 ((σ.2.1 26), (σ.1 7))).bind (fun z5 => some z5) else (pf_X3_placeOf N (nf) x1 ((σ.2.1 24), (σ.1 6))).bind (fun z7 => some z7)) else some (-1 : Int32)
theorem cx_X2_placeOf : (yX2_placeOf.cls ≠ "java/lang/invoke/MethodHandle" ∧ yX2_placeOf.cls ≠ "java/lang/invoke/VarHandle" ∧ (parseMethodDescriptor yX2_placeOf.desc).map (fun d => d.parameters.length) = some 1) := by decide +kernel
set_option maxHeartbeats 4000000 in
set_option maxRecDepth 100000 in
theorem c_X2_placeOf (l : Launch) (D : va_G) (q : Nat → ClassId) (h : Nat → Nat) (N : Nat) (nf : Nat) (nb : Nat) (x1 : Int32) (σ : St) (z : Int32) (hf : pf_X2_placeOf N nf nb x1 σ = some z) : MI l yX2_placeOf cX2_placeOf 2 (some .int) 1 22 D (tyQ q) [.ref (h 14), .int x1] (wC h q nf nb σ) (wC h q nf nb σ) z := by
  refine MI.of (by decide) (Nat.le_of_ble_eq_true rfl) ?_
  intro p e s m args below meth c Q A C ret ls hl
  have hl : lv_has ls 2 [(0, .ref (h 14)), (1, .int x1)] := hl
  unfold pf_X2_placeOf at hf
  refine s_iload_n C dX2_placeOf_0 rfl (lv_at hl 1 rfl) ?_
  refine s_if_lt (tgt := 12) C dX2_placeOf_1 (by decide) (fun c1 => ?_) (fun c1 => ?_)
  · replace hf := it_t c1 hf
    refine s_iconst (v := (-1 : Int32)) C dX2_placeOf_12 (by decide) ?_
    exact ret _ _ _ _ dX2_placeOf_13 rfl (rt_1 hf) rfl
  · replace hf := it_f c1 hf
    refine s_iload_n C dX2_placeOf_4 rfl (lv_at hl 1 rfl) ?_
    refine s_aload_n C dX2_placeOf_5 rfl (lv_at hl 0 rfl) ?_
    refine gC_14_0 C wd_1_140 dX2_placeOf_6 ?_
    refine s_icmp_lt (tgt := 14) C dX2_placeOf_9 (by decide) (fun c2 => ?_) (fun c2 => ?_)
    · replace hf := it_t c2 hf
      refine s_aload_n C dX2_placeOf_14 rfl (lv_at hl 0 rfl) ?_
      refine gC_14_6 C wd_1_152 dX2_placeOf_15 ?_
      refine s_iload_n C dX2_placeOf_18 rfl (lv_at hl 1 rfl) ?_
      obtain ⟨hi3, hf⟩ := bI_some hf
      refine ldC_21 C hi3 dX2_placeOf_19 ?_
      refine s_if_eq (tgt := 34) C dX2_placeOf_20 (by decide) (fun c4 => ?_) (fun c4 => ?_)
      · replace hf := it_t c4 hf
        refine s_aload_n C dX2_placeOf_34 rfl (lv_at hl 0 rfl) ?_
        refine gC_14_9 C wd_1_157 dX2_placeOf_35 ?_
        refine s_iload_n C dX2_placeOf_38 rfl (lv_at hl 1 rfl) ?_
        obtain ⟨z5, h6, hf⟩ := bn_some hf
        refine s_callIV (As := [.int x1]) (rest := []) C (c_X3_placeOf l D q (h 25) (h 26) N (nf) x1 ((σ.2.1 26), (σ.1 7)) z5 h6) ⟨wd_3_80, wd_2_58, wd_2_59, wd_1_8, wd_2_60, cx_X3_placeOf, Nat.le_of_ble_eq_true rfl, Nat.le_of_ble_eq_true rfl⟩ 25 (ci := 3) rfl rfl rfl (jnrC_25_26 nf nb h  q σ) rfl hl.1 rfl (Nat.le_of_ble_eq_true rfl) dX2_placeOf_39 (Nat.zero_le _) (Nat.zero_le _) ?_
        exact ret _ _ _ _ dX2_placeOf_42 rfl (rt_1 hf) rfl
      · replace hf := it_f c4 hf
        refine s_aload_n C dX2_placeOf_23 rfl (lv_at hl 0 rfl) ?_
        refine gC_14_8 C wd_1_155 dX2_placeOf_24 ?_
        refine s_iload_n C dX2_placeOf_27 rfl (lv_at hl 1 rfl) ?_
        obtain ⟨z7, h8, hf⟩ := bn_some hf
        refine s_callIV (As := [.int x1]) (rest := []) C (c_X3_placeOf l D q (h 23) (h 24) N (nf) x1 ((σ.2.1 24), (σ.1 6)) z7 h8) ⟨wd_3_80, wd_2_58, wd_2_59, wd_1_8, wd_2_60, cx_X3_placeOf, Nat.le_of_ble_eq_true rfl, Nat.le_of_ble_eq_true rfl⟩ 23 (ci := 3) rfl rfl rfl (jnrC_23_24 nf nb h  q σ) rfl hl.1 rfl (Nat.le_of_ble_eq_true rfl) dX2_placeOf_28 (Nat.zero_le _) (Nat.zero_le _) ?_
        refine s_goto (tgt := 42) C dX2_placeOf_31 (by decide) ?_
        exact ret _ _ _ _ dX2_placeOf_42 rfl (rt_1 hf) rfl
    · replace hf := it_f c2 hf
      refine s_iconst (v := (-1 : Int32)) C dX2_placeOf_12 (by decide) ?_
      exact ret _ _ _ _ dX2_placeOf_13 rfl (rt_1 hf) rfl
def pf_X2_seeAgain (N : Nat) (nf : Nat) (nb : Nat) (x1 : Int32) (σ : St) : Option St := if x1 < 0 then some σ else if x1 < (σ.1 5) then bI x1 (nf) (if ((σ.2.1 19) (Int32.toNatClampNeg x1)) = 0 then bI x1 (nf) (lt_ (sA σ 19 (upd (σ.2.1 19) (Int32.toNatClampNeg x1) (vp_nar .boolean (1 : Int32)))) (fun σ13 => some σ13)) else bI x1 (nf) (if ((σ.2.1 21) (Int32.toNatClampNeg x1)) = 0 then bI x1 (nf) (lt_ (sA σ 19 (upd (σ.2.1 19) (Int32.toNatClampNeg x1) (vp_nar .boolean (0 : Int32)))) (fun σ8 => (pf_X2_toFront N nf nb x1 (1 : Int32) σ8).bind (fun z10 => some z10))) else some σ)) else some σ
theorem cx_X2_seeAgain : (yX2_seeAgain.cls ≠ "java/lang/invoke/MethodHandle" ∧ yX2_seeAgain.cls ≠ "java/lang/invoke/VarHandle" ∧ (parseMethodDescriptor yX2_seeAgain.desc).map (fun d => d.parameters.length) = some 1) := by decide +kernel
set_option maxHeartbeats 4000000 in
set_option maxRecDepth 100000 in
theorem c_X2_seeAgain (l : Launch) (D : va_G) (q : Nat → ClassId) (h : Nat → Nat) (N : Nat) (nf : Nat) (nb : Nat) (x1 : Int32) (σ : St) (z : St) (hf : pf_X2_seeAgain N nf nb x1 σ = some z) : MV l yX2_seeAgain cX2_seeAgain 2 (none) 3 68 D (tyQ q) [.ref (h 14), .int x1] (wC h q nf nb σ) (wC h q nf nb z) := by
  refine MV.of (by decide) (Nat.le_of_ble_eq_true rfl) ?_
  intro p e s m args below meth c Q A C ret ls hl
  have hl : lv_has ls 2 [(0, .ref (h 14)), (1, .int x1)] := hl
  unfold pf_X2_seeAgain at hf
  refine s_iload_n C dX2_seeAgain_0 rfl (lv_at hl 1 rfl) ?_
  refine s_if_lt (tgt := 12) C dX2_seeAgain_1 (by decide) (fun c1 => ?_) (fun c1 => ?_)
  · replace hf := it_t c1 hf
    exact ret _ _ _ dX2_seeAgain_12 (congrArg (fun σ => (wC h q nf nb σ)) (rt_1 hf))
  · replace hf := it_f c1 hf
    refine s_iload_n C dX2_seeAgain_4 rfl (lv_at hl 1 rfl) ?_
    refine s_aload_n C dX2_seeAgain_5 rfl (lv_at hl 0 rfl) ?_
    refine gC_14_0 C wd_1_140 dX2_seeAgain_6 ?_
    refine s_icmp_lt (tgt := 13) C dX2_seeAgain_9 (by decide) (fun c2 => ?_) (fun c2 => ?_)
    · replace hf := it_t c2 hf
      refine s_aload_n C dX2_seeAgain_13 rfl (lv_at hl 0 rfl) ?_
      refine gC_14_4 C wd_1_148 dX2_seeAgain_14 ?_
      refine s_iload_n C dX2_seeAgain_17 rfl (lv_at hl 1 rfl) ?_
      obtain ⟨hi3, hf⟩ := bI_some hf
      refine ldC_19 C hi3 dX2_seeAgain_18 ?_
      refine s_if_ne (tgt := 32) C dX2_seeAgain_19 (by decide) (fun c4 => ?_) (fun c4 => ?_)
      · replace hf := it_f c4 hf
        refine s_aload_n C dX2_seeAgain_32 rfl (lv_at hl 0 rfl) ?_
        refine gC_14_6 C wd_1_152 dX2_seeAgain_33 ?_
        refine s_iload_n C dX2_seeAgain_36 rfl (lv_at hl 1 rfl) ?_
        obtain ⟨hi5, hf⟩ := bI_some hf
        refine ldC_21 C hi5 dX2_seeAgain_37 ?_
        refine s_if_ne (tgt := 54) C dX2_seeAgain_38 (by decide) (fun c6 => ?_) (fun c6 => ?_)
        · replace hf := it_f c6 hf
          exact ret _ _ _ dX2_seeAgain_54 (congrArg (fun σ => (wC h q nf nb σ)) (rt_1 hf))
        · replace hf := it_t c6 hf
          refine s_aload_n C dX2_seeAgain_41 rfl (lv_at hl 0 rfl) ?_
          refine gC_14_4 C wd_1_148 dX2_seeAgain_42 ?_
          refine s_iload_n C dX2_seeAgain_45 rfl (lv_at hl 1 rfl) ?_
          refine s_iconst (v := (0 : Int32)) C dX2_seeAgain_46 (by decide) ?_
          obtain ⟨hi7, hf⟩ := bI_some hf
          refine stC_19 C hi7 dX2_seeAgain_47 ?_
          obtain ⟨σ8, e9, hf⟩ := lt_some hf
          refine s_w (ws2 := (wC h q nf nb σ8)) (by rw [e9]) ?_
          clear e9
          refine s_aload_n C dX2_seeAgain_48 rfl (lv_at hl 0 rfl) ?_
          refine s_iload_n C dX2_seeAgain_49 rfl (lv_at hl 1 rfl) ?_
          refine s_iconst (v := (1 : Int32)) C dX2_seeAgain_50 (by decide) ?_
          obtain ⟨z10, h11, hf⟩ := bn_some hf
          refine s_callVV (As := [.int x1, .int (1 : Int32)]) (rest := []) C (c_X2_toFront l D q h N nf nb x1 (1 : Int32) σ8 z10 h11) ⟨wd_2_49, wd_2_50, wd_2_51, wd_1_7, wd_2_52, cx_X2_toFront, Nat.le_of_ble_eq_true rfl, Nat.le_of_ble_eq_true rfl⟩ 14 (ci := 2) rfl rfl rfl (SubW.full _ _) rfl hl.1 rfl (Nat.le_of_ble_eq_true rfl) dX2_seeAgain_51 (Nat.zero_le _) (Nat.zero_le _) ?_
          exact ret _ _ _ dX2_seeAgain_54 (congrArg (fun σ => (wC h q nf nb σ)) (rt_1 hf))
      · replace hf := it_t c4 hf
        refine s_aload_n C dX2_seeAgain_22 rfl (lv_at hl 0 rfl) ?_
        refine gC_14_4 C wd_1_148 dX2_seeAgain_23 ?_
        refine s_iload_n C dX2_seeAgain_26 rfl (lv_at hl 1 rfl) ?_
        refine s_iconst (v := (1 : Int32)) C dX2_seeAgain_27 (by decide) ?_
        obtain ⟨hi12, hf⟩ := bI_some hf
        refine stC_19 C hi12 dX2_seeAgain_28 ?_
        obtain ⟨σ13, e14, hf⟩ := lt_some hf
        refine s_w (ws2 := (wC h q nf nb σ13)) (by rw [e14]) ?_
        clear e14
        refine s_goto (tgt := 54) C dX2_seeAgain_29 (by decide) ?_
        exact ret _ _ _ dX2_seeAgain_54 (congrArg (fun σ => (wC h q nf nb σ)) (rt_1 hf))
    · replace hf := it_f c2 hf
      exact ret _ _ _ dX2_seeAgain_12 (congrArg (fun σ => (wC h q nf nb σ)) (rt_1 hf))
def pf_X2_soil (N : Nat) (nf : Nat) (nb : Nat) (x1 : Int32) (x2 : Int32) (σ : St) : Option St := if x1 < 0 then some σ else if (σ.1 5) ≤ x1 then some σ else bI x1 (nf) (if ((σ.2.1 18) (Int32.toNatClampNeg x1)) = (-1 : Int32) then bI x1 (nf) (lt_ (sA σ 18 (upd (σ.2.1 18) (Int32.toNatClampNeg x1) x2)) (fun σ6 => lt_ (sG σ6 8 ((σ6.1 8) + (1 : Int32))) (fun σ8 => some σ8))) else some σ)
theorem cx_X2_soil : (yX2_soil.cls ≠ "java/lang/invoke/MethodHandle" ∧ yX2_soil.cls ≠ "java/lang/invoke/VarHandle" ∧ (parseMethodDescriptor yX2_soil.desc).map (fun d => d.parameters.length) = some 2) := by decide +kernel
set_option maxHeartbeats 4000000 in
set_option maxRecDepth 100000 in
theorem c_X2_soil (l : Launch) (D : va_G) (q : Nat → ClassId) (h : Nat → Nat) (N : Nat) (nf : Nat) (nb : Nat) (x1 : Int32) (x2 : Int32) (σ : St) (z : St) (hf : pf_X2_soil N nf nb x1 x2 σ = some z) : MV l yX2_soil cX2_soil 3 (none) 0 0 D (tyQ q) [.ref (h 14), .int x1, .int x2] (wC h q nf nb σ) (wC h q nf nb z) := by
  refine MV.of (by decide) (Nat.le_of_ble_eq_true rfl) ?_
  intro p e s m args below meth c Q A C ret ls hl
  have hl : lv_has ls 3 [(0, .ref (h 14)), (1, .int x1), (2, .int x2)] := hl
  unfold pf_X2_soil at hf
  refine s_iload_n C dX2_soil_0 rfl (lv_at hl 1 rfl) ?_
  refine s_if_lt (tgt := 39) C dX2_soil_1 (by decide) (fun c1 => ?_) (fun c1 => ?_)
  · replace hf := it_t c1 hf
    exact ret _ _ _ dX2_soil_39 (congrArg (fun σ => (wC h q nf nb σ)) (rt_1 hf))
  · replace hf := it_f c1 hf
    refine s_iload_n C dX2_soil_4 rfl (lv_at hl 1 rfl) ?_
    refine s_aload_n C dX2_soil_5 rfl (lv_at hl 0 rfl) ?_
    refine gC_14_0 C wd_1_140 dX2_soil_6 ?_
    refine s_icmp_ge (tgt := 39) C dX2_soil_9 (by decide) (fun c2 => ?_) (fun c2 => ?_)
    · replace hf := it_t c2 hf
      exact ret _ _ _ dX2_soil_39 (congrArg (fun σ => (wC h q nf nb σ)) (rt_1 hf))
    · replace hf := it_f c2 hf
      refine s_aload_n C dX2_soil_12 rfl (lv_at hl 0 rfl) ?_
      refine gC_14_3 C wd_1_146 dX2_soil_13 ?_
      refine s_iload_n C dX2_soil_16 rfl (lv_at hl 1 rfl) ?_
      obtain ⟨hi3, hf⟩ := bI_some hf
      refine ldC_18 C hi3 dX2_soil_17 ?_
      refine s_iconst (v := (-1 : Int32)) C dX2_soil_18 (by decide) ?_
      refine s_icmp_ne (tgt := 39) C dX2_soil_19 (by decide) (fun c4 => ?_) (fun c4 => ?_)
      · replace hf := it_f c4 hf
        exact ret _ _ _ dX2_soil_39 (congrArg (fun σ => (wC h q nf nb σ)) (rt_1 hf))
      · replace hf := it_t c4 hf
        refine s_aload_n C dX2_soil_22 rfl (lv_at hl 0 rfl) ?_
        refine gC_14_3 C wd_1_146 dX2_soil_23 ?_
        refine s_iload_n C dX2_soil_26 rfl (lv_at hl 1 rfl) ?_
        refine s_iload_n C dX2_soil_27 rfl (lv_at hl 2 rfl) ?_
        obtain ⟨hi5, hf⟩ := bI_some hf
        refine stC_18 C hi5 dX2_soil_28 ?_
        obtain ⟨σ6, e7, hf⟩ := lt_some hf
        refine s_w (ws2 := (wC h q nf nb σ6)) (by rw [e7]) ?_
        clear e7
        refine s_aload_n C dX2_soil_29 rfl (lv_at hl 0 rfl) ?_
        refine s_dup C dX2_soil_30 rfl ?_
        refine gC_14_10 C wd_1_159 dX2_soil_31 ?_
        refine s_iconst (v := (1 : Int32)) C dX2_soil_34 (by decide) ?_
        refine s_iadd C dX2_soil_35 ?_
        refine uC_14_10 C wd_1_159 dX2_soil_36 ?_
        obtain ⟨σ8, e9, hf⟩ := lt_some hf
        refine s_w (ws2 := (wC h q nf nb σ8)) (by rw [e9]) ?_
        clear e9
        exact ret _ _ _ dX2_soil_39 (congrArg (fun σ => (wC h q nf nb σ)) (rt_1 hf))
def pf_X4_of (N : Nat) (nf : Nat) (nb : Nat) (x1 : Int32) (σ : St) : Option Int32 := if x1 < 0 then some (-1 : Int32) else if x1 < (3072 : Int32) then bI x1 (3072) (some ((σ.2.1 28) (Int32.toNatClampNeg x1))) else some (-1 : Int32)
theorem cx_X4_of : (yX4_of.cls ≠ "java/lang/invoke/MethodHandle" ∧ yX4_of.cls ≠ "java/lang/invoke/VarHandle" ∧ (parseMethodDescriptor yX4_of.desc).map (fun d => d.parameters.length) = some 1) := by decide +kernel
set_option maxHeartbeats 4000000 in
set_option maxRecDepth 100000 in
theorem c_X4_of (l : Launch) (D : va_G) (q : Nat → ClassId) (h : Nat → Nat) (N : Nat) (nf : Nat) (nb : Nat) (x1 : Int32) (σ : St) (z : Int32) (hf : pf_X4_of N nf nb x1 σ = some z) : MI l yX4_of cX4_of 2 (some .int) 0 0 D (tyQ q) [.ref (h 27), .int x1] (wC h q nf nb σ) (wC h q nf nb σ) z := by
  refine MI.of (by decide) (Nat.le_of_ble_eq_true rfl) ?_
  intro p e s m args below meth c Q A C ret ls hl
  have hl : lv_has ls 2 [(0, .ref (h 27)), (1, .int x1)] := hl
  unfold pf_X4_of at hf
  refine s_iload_n C dX4_of_0 rfl (lv_at hl 1 rfl) ?_
  refine s_if_lt (tgt := 11) C dX4_of_1 (by decide) (fun c1 => ?_) (fun c1 => ?_)
  · replace hf := it_t c1 hf
    refine s_iconst (v := (-1 : Int32)) C dX4_of_11 (by decide) ?_
    refine s_goto (tgt := 21) C dX4_of_12 (by decide) ?_
    exact ret _ _ _ _ dX4_of_21 rfl (rt_1 hf) rfl
  · replace hf := it_f c1 hf
    refine s_iload_n C dX4_of_4 rfl (lv_at hl 1 rfl) ?_
    refine s_sipush (v := (3072 : Int32)) C dX4_of_5 (by decide) ?_
    refine s_icmp_lt (tgt := 15) C dX4_of_8 (by decide) (fun c2 => ?_) (fun c2 => ?_)
    · replace hf := it_t c2 hf
      refine s_aload_n C dX4_of_15 rfl (lv_at hl 0 rfl) ?_
      refine gC_27_0 C wd_1_196 dX4_of_16 ?_
      refine s_iload_n C dX4_of_19 rfl (lv_at hl 1 rfl) ?_
      obtain ⟨hi3, hf⟩ := bI_some hf
      refine ldC_28 C hi3 dX4_of_20 ?_
      exact ret _ _ _ _ dX4_of_21 rfl (rt_1 hf) rfl
    · replace hf := it_f c2 hf
      refine s_iconst (v := (-1 : Int32)) C dX4_of_11 (by decide) ?_
      refine s_goto (tgt := 21) C dX4_of_12 (by decide) ?_
      exact ret _ _ _ _ dX4_of_21 rfl (rt_1 hf) rfl
def pf_X4_forget_L19 (N : Nat) (nf : Nat) (nb : Nat) : Nat → Int32 → Int32 → St → Option St
  | 0, _, _, _ => none
  | n + 1, x1, x2, σ => if (σ.1 10) ≤ x2 then some σ else bI x2 (nf) (if ((σ.2.1 29) (Int32.toNatClampNeg x2)) = x1 then bC (nf) (nf) (x2 + (1 : Int32)) x2 (((σ.1 10) - x2) - (1 : Int32)) (lt_ (sA σ 29 (va_cpy (σ.2.1 29) (σ.2.1 29) (Int32.toNatClampNeg (x2 + (1 : Int32))) (Int32.toNatClampNeg x2) (Int32.toNatClampNeg (((σ.1 10) - x2) - (1 : Int32))))) (fun σ11 => lt_ (sG σ11 10 ((σ11.1 10) - (1 : Int32))) (fun σ13 => some σ13))) else (pf_X4_forget_L19 N nf nb n) x1 (x2 + 1) σ)
def pf_X4_forget (N : Nat) (nf : Nat) (nb : Nat) (x1 : Int32) (σ : St) : Option St := (pf_X4_of N nf nb x1 σ).bind (fun z1 => if z1 = (-1 : Int32) then some σ else bI x1 (3072) (lt_ (sA σ 28 (upd (σ.2.1 28) (Int32.toNatClampNeg x1) (-1 : Int32))) (fun σ5 => pf_X4_forget_L19 N nf nb N x1 (0 : Int32) σ5)))
theorem cx_X4_forget : (yX4_forget.cls ≠ "java/lang/invoke/MethodHandle" ∧ yX4_forget.cls ≠ "java/lang/invoke/VarHandle" ∧ (parseMethodDescriptor yX4_forget.desc).map (fun d => d.parameters.length) = some 1) := by decide +kernel
set_option maxHeartbeats 4000000 in
set_option maxRecDepth 100000 in
theorem c_X4_forget (l : Launch) (D : va_G) (q : Nat → ClassId) (h : Nat → Nat) (N : Nat) (nf : Nat) (nb : Nat) (x1 : Int32) (σ : St) (z : St) (hf : pf_X4_forget N nf nb x1 σ = some z) : MV l yX4_forget cX4_forget 3 (none) 1 21 D (tyQ q) [.ref (h 27), .int x1] (wC h q nf nb σ) (wC h q nf nb z) := by
  refine MV.of (by decide) (Nat.le_of_ble_eq_true rfl) ?_
  intro p e s m args below meth c Q A C ret ls hl
  have hl : lv_has ls 3 [(0, .ref (h 27)), (1, .int x1)] := hl
  unfold pf_X4_forget at hf
  have L19 : ∀ (n : Nat) (x1 : Int32) (x2 : Int32) (σ : St), pf_X4_forget_L19 N nf nb n x1 x2 σ = some z → ∀ ls : Array Slot, lv_has ls 3 [(0, .ref (h 27)), (1, .int x1), (2, .int x2)] → WG p l e (rmO 1 21) s m args below meth c D A 0 0 Q (wC h q nf nb σ) (F0 m 19 ls []) := by
    intro n
    induction n with
    | zero => intro x1 x2 σ hf; unfold pf_X4_forget_L19 at hf; cases hf
    | succ n ih =>
      intro x1 x2 σ hf ls hl
      unfold pf_X4_forget_L19 at hf
      refine s_iload_n C dX4_forget_19 rfl (lv_at hl 2 rfl) ?_
      refine s_aload_n C dX4_forget_20 rfl (lv_at hl 0 rfl) ?_
      refine gC_27_2 C wd_1_198 dX4_forget_21 ?_
      refine s_icmp_ge (tgt := 77) C dX4_forget_24 (by decide) (fun c7 => ?_) (fun c7 => ?_)
      · replace hf := it_t c7 hf
        exact ret _ _ _ dX4_forget_77 (congrArg (fun σ => (wC h q nf nb σ)) (rt_1 hf))
      · replace hf := it_f c7 hf
        refine s_aload_n C dX4_forget_27 rfl (lv_at hl 0 rfl) ?_
        refine gC_27_1 C wd_1_197 dX4_forget_28 ?_
        refine s_iload_n C dX4_forget_31 rfl (lv_at hl 2 rfl) ?_
        obtain ⟨hi8, hf⟩ := bI_some hf
        refine ldC_29 C hi8 dX4_forget_32 ?_
        refine s_iload_n C dX4_forget_33 rfl (lv_at hl 1 rfl) ?_
        refine s_icmp_ne (tgt := 71) C dX4_forget_34 (by decide) (fun c9 => ?_) (fun c9 => ?_)
        · replace hf := it_f c9 hf
          refine s_iinc (v := (x2 + 1)) (lv2 := [(2, .int (x2 + 1)), (0, .ref (h 27)), (1, .int x1)]) C 2 dX4_forget_71 hl rfl rfl (by decide) rfl ?_
          intro ls hl
          refine s_goto (tgt := 19) C dX4_forget_74 (by decide) ?_
          exact ih _ _ _ hf _ (lv_sub hl [1, 2, 0] rfl)
        · replace hf := it_t c9 hf
          refine s_aload_n C dX4_forget_37 rfl (lv_at hl 0 rfl) ?_
          refine gC_27_1 C wd_1_197 dX4_forget_38 ?_
          refine s_iload_n C dX4_forget_41 rfl (lv_at hl 2 rfl) ?_
          refine s_iconst (v := (1 : Int32)) C dX4_forget_42 (by decide) ?_
          refine s_iadd C dX4_forget_43 ?_
          refine s_aload_n C dX4_forget_44 rfl (lv_at hl 0 rfl) ?_
          refine gC_27_1 C wd_1_197 dX4_forget_45 ?_
          refine s_iload_n C dX4_forget_48 rfl (lv_at hl 2 rfl) ?_
          refine s_aload_n C dX4_forget_49 rfl (lv_at hl 0 rfl) ?_
          refine gC_27_2 C wd_1_198 dX4_forget_50 ?_
          refine s_iload_n C dX4_forget_53 rfl (lv_at hl 2 rfl) ?_
          refine s_isub C dX4_forget_54 ?_
          refine s_iconst (v := (1 : Int32)) C dX4_forget_55 (by decide) ?_
          refine s_isub C dX4_forget_56 ?_
          obtain ⟨hb10, hf⟩ := bC_some hf
          refine cpC_29 C hl.1 wd_2_156 hb10 (Nat.le_of_ble_eq_true rfl) (Nat.le_of_ble_eq_true rfl) dX4_forget_57 ?_
          obtain ⟨σ11, e12, hf⟩ := lt_some hf
          refine s_w (ws2 := (wC h q nf nb σ11)) (by rw [e12]) ?_
          clear e12
          refine s_aload_n C dX4_forget_60 rfl (lv_at hl 0 rfl) ?_
          refine s_dup C dX4_forget_61 rfl ?_
          refine gC_27_2 C wd_1_198 dX4_forget_62 ?_
          refine s_iconst (v := (1 : Int32)) C dX4_forget_65 (by decide) ?_
          refine s_isub C dX4_forget_66 ?_
          refine uC_27_2 C wd_1_198 dX4_forget_67 ?_
          obtain ⟨σ13, e14, hf⟩ := lt_some hf
          refine s_w (ws2 := (wC h q nf nb σ13)) (by rw [e14]) ?_
          clear e14
          exact ret _ _ _ dX4_forget_70 (congrArg (fun σ => (wC h q nf nb σ)) (rt_1 hf))
  refine s_aload_n C dX4_forget_0 rfl (lv_at hl 0 rfl) ?_
  refine s_iload_n C dX4_forget_1 rfl (lv_at hl 1 rfl) ?_
  obtain ⟨z1, h2, hf⟩ := bn_some hf
  refine s_callIV (As := [.int x1]) (rest := []) C (c_X4_of l D q h N nf nb x1 σ z1 h2) ⟨wd_2_152, wd_2_153, wd_2_154, wd_1_9, wd_2_155, cx_X4_of, Nat.le_of_ble_eq_true rfl, Nat.le_of_ble_eq_true rfl⟩ 27 (ci := 4) rfl rfl rfl (SubW.full _ _) rfl hl.1 rfl (Nat.le_of_ble_eq_true rfl) dX4_forget_2 (Nat.zero_le _) (Nat.zero_le _) ?_
  refine s_iconst (v := (-1 : Int32)) C dX4_forget_5 (by decide) ?_
  refine s_icmp_ne (tgt := 10) C dX4_forget_6 (by decide) (fun c3 => ?_) (fun c3 => ?_)
  · replace hf := it_f c3 hf
    refine s_aload_n C dX4_forget_10 rfl (lv_at hl 0 rfl) ?_
    refine gC_27_0 C wd_1_196 dX4_forget_11 ?_
    refine s_iload_n C dX4_forget_14 rfl (lv_at hl 1 rfl) ?_
    refine s_iconst (v := (-1 : Int32)) C dX4_forget_15 (by decide) ?_
    obtain ⟨hi4, hf⟩ := bI_some hf
    refine stC_28 C hi4 dX4_forget_16 ?_
    obtain ⟨σ5, e6, hf⟩ := lt_some hf
    refine s_w (ws2 := (wC h q nf nb σ5)) (by rw [e6]) ?_
    clear e6
    refine s_iconst (v := (0 : Int32)) C dX4_forget_17 (by decide) ?_
    refine s_istore_n (lv2 := [(2, .int (0 : Int32)), (0, .ref (h 27)), (1, .int x1)]) C dX4_forget_18 rfl hl (by decide) rfl ?_
    intro ls hl
    exact L19 N _ _ _ hf _ (lv_sub hl [1, 2, 0] rfl)
  · replace hf := it_t c3 hf
    exact ret _ _ _ dX4_forget_9 (congrArg (fun σ => (wC h q nf nb σ)) (rt_1 hf))
def pf_X4_add_b44 (N : Nat) (nf : Nat) (nb : Nat) (x1 : Int32) (σ : St) : Option St := bI x1 (3072) (lt_ (sA σ 28 (upd (σ.2.1 28) (Int32.toNatClampNeg x1) (σ.1 11))) (fun σ7 => bI (σ7.1 10) (nf) (lt_ (sA σ7 29 (upd (σ7.2.1 29) (Int32.toNatClampNeg (σ7.1 10)) x1)) (fun σ10 => lt_ (sG σ10 10 ((σ10.1 10) + (1 : Int32))) (fun σ12 => some σ12)))))
def pf_X4_add (N : Nat) (nf : Nat) (nb : Nat) (x1 : Int32) (σ : St) : Option St := lt_ (sG σ 11 ((σ.1 11) + (1 : Int32))) (fun σ1 => if x1 < 0 then some σ1 else if x1 < (3072 : Int32) then if (σ1.1 10) = (nI (nf)) then bI (0 : Int32) (nf) ((pf_X4_forget N nf nb ((σ1.2.1 29) (Int32.toNatClampNeg (0 : Int32))) σ1).bind (fun z15 => pf_X4_add_b44 N nf nb x1 z15)) else pf_X4_add_b44 N nf nb x1 σ1 else some σ1)
theorem cx_X4_add : (yX4_add.cls ≠ "java/lang/invoke/MethodHandle" ∧ yX4_add.cls ≠ "java/lang/invoke/VarHandle" ∧ (parseMethodDescriptor yX4_add.desc).map (fun d => d.parameters.length) = some 1) := by decide +kernel
set_option maxHeartbeats 4000000 in
set_option maxRecDepth 100000 in
theorem c_X4_add (l : Launch) (D : va_G) (q : Nat → ClassId) (h : Nat → Nat) (N : Nat) (nf : Nat) (nb : Nat) (x1 : Int32) (σ : St) (z : St) (hf : pf_X4_add N nf nb x1 σ = some z) : MV l yX4_add cX4_add 2 (none) 2 43 D (tyQ q) [.ref (h 27), .int x1] (wC h q nf nb σ) (wC h q nf nb z) := by
  refine MV.of (by decide) (Nat.le_of_ble_eq_true rfl) ?_
  intro p e s m args below meth c Q A C ret ls hl
  have hl : lv_has ls 2 [(0, .ref (h 27)), (1, .int x1)] := hl
  unfold pf_X4_add at hf
  have b44 : ∀ (x1 : Int32) (σ : St), pf_X4_add_b44 N nf nb x1 σ = some z → ∀ ls : Array Slot, lv_has ls 2 [(0, .ref (h 27)), (1, .int x1)] → WG p l e (rmO 2 43) s m args below meth c D A 0 0 Q (wC h q nf nb σ) (F0 m 44 ls []) := by
    intro x1 σ hf ls hl
    unfold pf_X4_add_b44 at hf
    refine s_aload_n C dX4_add_44 rfl (lv_at hl 0 rfl) ?_
    refine gC_27_0 C wd_1_196 dX4_add_45 ?_
    refine s_iload_n C dX4_add_48 rfl (lv_at hl 1 rfl) ?_
    refine s_aload_n C dX4_add_49 rfl (lv_at hl 0 rfl) ?_
    refine gC_27_3 C wd_1_200 dX4_add_50 ?_
    obtain ⟨hi6, hf⟩ := bI_some hf
    refine stC_28 C hi6 dX4_add_53 ?_
    obtain ⟨σ7, e8, hf⟩ := lt_some hf
    refine s_w (ws2 := (wC h q nf nb σ7)) (by rw [e8]) ?_
    clear e8
    refine s_aload_n C dX4_add_54 rfl (lv_at hl 0 rfl) ?_
    refine gC_27_1 C wd_1_197 dX4_add_55 ?_
    refine s_aload_n C dX4_add_58 rfl (lv_at hl 0 rfl) ?_
    refine gC_27_2 C wd_1_198 dX4_add_59 ?_
    refine s_iload_n C dX4_add_62 rfl (lv_at hl 1 rfl) ?_
    obtain ⟨hi9, hf⟩ := bI_some hf
    refine stC_29 C hi9 dX4_add_63 ?_
    obtain ⟨σ10, e11, hf⟩ := lt_some hf
    refine s_w (ws2 := (wC h q nf nb σ10)) (by rw [e11]) ?_
    clear e11
    refine s_aload_n C dX4_add_64 rfl (lv_at hl 0 rfl) ?_
    refine s_dup C dX4_add_65 rfl ?_
    refine gC_27_2 C wd_1_198 dX4_add_66 ?_
    refine s_iconst (v := (1 : Int32)) C dX4_add_69 (by decide) ?_
    refine s_iadd C dX4_add_70 ?_
    refine uC_27_2 C wd_1_198 dX4_add_71 ?_
    obtain ⟨σ12, e13, hf⟩ := lt_some hf
    refine s_w (ws2 := (wC h q nf nb σ12)) (by rw [e13]) ?_
    clear e13
    exact ret _ _ _ dX4_add_74 (congrArg (fun σ => (wC h q nf nb σ)) (rt_1 hf))
  refine s_aload_n C dX4_add_0 rfl (lv_at hl 0 rfl) ?_
  refine s_dup C dX4_add_1 rfl ?_
  refine gC_27_3 C wd_1_200 dX4_add_2 ?_
  refine s_iconst (v := (1 : Int32)) C dX4_add_5 (by decide) ?_
  refine s_iadd C dX4_add_6 ?_
  refine uC_27_3 C wd_1_200 dX4_add_7 ?_
  obtain ⟨σ1, e2, hf⟩ := lt_some hf
  refine s_w (ws2 := (wC h q nf nb σ1)) (by rw [e2]) ?_
  clear e2
  refine s_iload_n C dX4_add_10 rfl (lv_at hl 1 rfl) ?_
  refine s_if_lt (tgt := 21) C dX4_add_11 (by decide) (fun c3 => ?_) (fun c3 => ?_)
  · replace hf := it_t c3 hf
    exact ret _ _ _ dX4_add_21 (congrArg (fun σ => (wC h q nf nb σ)) (rt_1 hf))
  · replace hf := it_f c3 hf
    refine s_iload_n C dX4_add_14 rfl (lv_at hl 1 rfl) ?_
    refine s_sipush (v := (3072 : Int32)) C dX4_add_15 (by decide) ?_
    refine s_icmp_lt (tgt := 22) C dX4_add_18 (by decide) (fun c4 => ?_) (fun c4 => ?_)
    · replace hf := it_t c4 hf
      refine s_aload_n C dX4_add_22 rfl (lv_at hl 0 rfl) ?_
      refine gC_27_2 C wd_1_198 dX4_add_23 ?_
      refine s_aload_n C dX4_add_26 rfl (lv_at hl 0 rfl) ?_
      refine gC_27_1 C wd_1_197 dX4_add_27 ?_
      refine alC_29 C dX4_add_30 ?_
      refine s_icmp_ne (tgt := 44) C dX4_add_31 (by decide) (fun c5 => ?_) (fun c5 => ?_)
      · replace hf := it_f c5 hf
        exact b44 _ _ hf _ (lv_sub hl [0, 1] rfl)
      · replace hf := it_t c5 hf
        refine s_aload_n C dX4_add_34 rfl (lv_at hl 0 rfl) ?_
        refine s_aload_n C dX4_add_35 rfl (lv_at hl 0 rfl) ?_
        refine gC_27_1 C wd_1_197 dX4_add_36 ?_
        refine s_iconst (v := (0 : Int32)) C dX4_add_39 (by decide) ?_
        obtain ⟨hi14, hf⟩ := bI_some hf
        refine ldC_29 C hi14 dX4_add_40 ?_
        obtain ⟨z15, h16, hf⟩ := bn_some hf
        refine s_callVV (As := [.int ((σ1.2.1 29) (Int32.toNatClampNeg (0 : Int32)))]) (rest := []) C (c_X4_forget l D q h N nf nb ((σ1.2.1 29) (Int32.toNatClampNeg (0 : Int32))) σ1 z15 h16) ⟨wd_2_148, wd_2_149, wd_2_150, wd_1_9, wd_2_151, cx_X4_forget, Nat.le_of_ble_eq_true rfl, Nat.le_of_ble_eq_true rfl⟩ 27 (ci := 4) rfl rfl rfl (SubW.full _ _) rfl hl.1 rfl (Nat.le_of_ble_eq_true rfl) dX4_add_41 (Nat.zero_le _) (Nat.zero_le _) ?_
        exact b44 _ _ hf _ (lv_sub hl [0, 1] rfl)
    · replace hf := it_f c4 hf
      exact ret _ _ _ dX4_add_21 (congrArg (fun σ => (wC h q nf nb σ)) (rt_1 hf))
def pf_X4_forgetAll (N : Nat) (nf : Nat) (nb : Nat) (σ : St) : Option St := (pf_J7_fill_53178 N (3072) (-1 : Int32) (σ.2.1 28)).bind (fun z1 => lt_ (sA σ 28 z1) (fun σ3 => lt_ (sG σ3 10 (0 : Int32)) (fun σ5 => some σ5)))
theorem cx_X4_forgetAll : (yX4_forgetAll.cls ≠ "java/lang/invoke/MethodHandle" ∧ yX4_forgetAll.cls ≠ "java/lang/invoke/VarHandle" ∧ (parseMethodDescriptor yX4_forgetAll.desc).map (fun d => d.parameters.length) = some 0) := by decide +kernel
set_option maxHeartbeats 4000000 in
set_option maxRecDepth 100000 in
theorem c_X4_forgetAll (l : Launch) (D : va_G) (q : Nat → ClassId) (h : Nat → Nat) (N : Nat) (nf : Nat) (nb : Nat) (σ : St) (z : St) (hf : pf_X4_forgetAll N nf nb σ = some z) : MV l yX4_forgetAll cX4_forgetAll 1 (none) 1 23 D (tyQ q) [.ref (h 27)] (wC h q nf nb σ) (wC h q nf nb z) := by
  refine MV.of (by decide) (Nat.le_of_ble_eq_true rfl) ?_
  intro p e s m args below meth c Q A C ret ls hl
  have hl : lv_has ls 1 [(0, .ref (h 27))] := hl
  unfold pf_X4_forgetAll at hf
  refine s_aload_n C dX4_forgetAll_0 rfl (lv_at hl 0 rfl) ?_
  refine gC_27_0 C wd_1_196 dX4_forgetAll_1 ?_
  refine s_iconst (v := (-1 : Int32)) C dX4_forgetAll_4 (by decide) ?_
  obtain ⟨z1, h2, hf⟩ := bn_some hf
  refine s_callVS (As := [.ref (h 28), .int (-1 : Int32)]) (rest := []) C (c_J7_fill_53178 l D q (h 28) N (3072) (-1 : Int32) (σ.2.1 28) z1 h2) ⟨wd_1_195, wd_1_95, wd_1_6, wd_1_96, cx_J7_fill_53178, Nat.le_of_ble_eq_true rfl, Nat.le_of_ble_eq_true rfl⟩ (jnC_28 nf nb h  q σ z1) rfl hl.1 rfl (Nat.le_of_ble_eq_true rfl) dX4_forgetAll_5 (Nat.zero_le _) (Nat.zero_le _) ?_
  obtain ⟨σ3, e4, hf⟩ := lt_some hf
  refine s_w (ws2 := (wC h q nf nb σ3)) (by rw [e4]) ?_
  clear e4
  refine s_aload_n C dX4_forgetAll_8 rfl (lv_at hl 0 rfl) ?_
  refine s_iconst (v := (0 : Int32)) C dX4_forgetAll_9 (by decide) ?_
  refine uC_27_2 C wd_1_198 dX4_forgetAll_10 ?_
  obtain ⟨σ5, e6, hf⟩ := lt_some hf
  refine s_w (ws2 := (wC h q nf nb σ5)) (by rw [e6]) ?_
  clear e6
  exact ret _ _ _ dX4_forgetAll_13 (congrArg (fun σ => (wC h q nf nb σ)) (rt_1 hf))
def pf_X4_isRecent (N : Nat) (nf : Nat) (nb : Nat) (x1 : Int32) (x2 : Int32) (σ : St) : Option Int32 := (pf_X4_of N nf nb x1 σ).bind (fun z1 => if z1 = (-1 : Int32) then some (0 : Int32) else if x2 < ((σ.1 11) - z1) then some (0 : Int32) else some (1 : Int32))
theorem cx_X4_isRecent : (yX4_isRecent.cls ≠ "java/lang/invoke/MethodHandle" ∧ yX4_isRecent.cls ≠ "java/lang/invoke/VarHandle" ∧ (parseMethodDescriptor yX4_isRecent.desc).map (fun d => d.parameters.length) = some 2) := by decide +kernel
set_option maxHeartbeats 4000000 in
set_option maxRecDepth 100000 in
theorem c_X4_isRecent (l : Launch) (D : va_G) (q : Nat → ClassId) (h : Nat → Nat) (N : Nat) (nf : Nat) (nb : Nat) (x1 : Int32) (x2 : Int32) (σ : St) (z : Int32) (hf : pf_X4_isRecent N nf nb x1 x2 σ = some z) : MI l yX4_isRecent cX4_isRecent 4 (some .boolean) 1 21 D (tyQ q) [.ref (h 27), .int x1, .int x2] (wC h q nf nb σ) (wC h q nf nb σ) z := by
  refine MI.of (by decide) (Nat.le_of_ble_eq_true rfl) ?_
  intro p e s m args below meth c Q A C ret ls hl
  have hl : lv_has ls 4 [(0, .ref (h 27)), (1, .int x1), (2, .int x2)] := hl
  unfold pf_X4_isRecent at hf
  refine s_aload_n C dX4_isRecent_0 rfl (lv_at hl 0 rfl) ?_
  refine s_iload_n C dX4_isRecent_1 rfl (lv_at hl 1 rfl) ?_
  obtain ⟨z1, h2, hf⟩ := bn_some hf
  refine s_callIV (As := [.int x1]) (rest := []) C (c_X4_of l D q h N nf nb x1 σ z1 h2) ⟨wd_2_152, wd_2_153, wd_2_154, wd_1_9, wd_2_155, cx_X4_of, Nat.le_of_ble_eq_true rfl, Nat.le_of_ble_eq_true rfl⟩ 27 (ci := 4) rfl rfl rfl (SubW.full _ _) rfl hl.1 rfl (Nat.le_of_ble_eq_true rfl) dX4_isRecent_2 (Nat.zero_le _) (Nat.zero_le _) ?_
  refine s_istore_n (lv2 := [(3, .int z1), (0, .ref (h 27)), (1, .int x1), (2, .int x2)]) C dX4_isRecent_5 rfl hl (by decide) rfl ?_
  intro ls hl
  refine s_iload_n C dX4_isRecent_6 rfl (lv_at hl 0 rfl) ?_
  refine s_iconst (v := (-1 : Int32)) C dX4_isRecent_7 (by decide) ?_
  refine s_icmp_eq (tgt := 25) C dX4_isRecent_8 (by decide) (fun c3 => ?_) (fun c3 => ?_)
  · replace hf := it_t c3 hf
    refine s_iconst (v := (0 : Int32)) C dX4_isRecent_25 (by decide) ?_
    exact ret _ _ _ _ dX4_isRecent_26 rfl (rt_1 hf) rfl
  · replace hf := it_f c3 hf
    refine s_aload_n C dX4_isRecent_11 rfl (lv_at hl 1 rfl) ?_
    refine gC_27_3 C wd_1_200 dX4_isRecent_12 ?_
    refine s_iload_n C dX4_isRecent_15 rfl (lv_at hl 0 rfl) ?_
    refine s_isub C dX4_isRecent_16 ?_
    refine s_iload_n C dX4_isRecent_17 rfl (lv_at hl 3 rfl) ?_
    refine s_icmp_gt (tgt := 25) C dX4_isRecent_18 (by decide) (fun c4 => ?_) (fun c4 => ?_)
    · replace hf := it_t c4 hf
      refine s_iconst (v := (0 : Int32)) C dX4_isRecent_25 (by decide) ?_
      exact ret _ _ _ _ dX4_isRecent_26 rfl (rt_1 hf) rfl
    · replace hf := it_f c4 hf
      refine s_iconst (v := (1 : Int32)) C dX4_isRecent_21 (by decide) ?_
      refine s_goto (tgt := 26) C dX4_isRecent_22 (by decide) ?_
      exact ret _ _ _ _ dX4_isRecent_26 rfl (rt_1 hf) rfl
def pf_X6_giveBlock_b23 (N : Nat) (nf : Nat) (nb : Nat) (x1 : Int32) (σ : St) : Option (Int32 × St) := bI x1 (3072) (if ((σ.2.1 30) (Int32.toNatClampNeg x1)) = (-1 : Int32) then (pf_X1_setError N nf nb (x1 / (256 : Int32)) (-4 : Int32) σ).bind (fun z5 => some ((0 : Int32), z5)) else some ((1 : Int32), σ))
def pf_X6_giveBlock (N : Nat) (nf : Nat) (nb : Nat) (x1 : Int32) (σ : St) : Option (Int32 × St) := bI x1 (3072) (if ((σ.2.1 30) (Int32.toNatClampNeg x1)) = (-1 : Int32) then (pf_X0_leastFree N nf nb σ).bind (fun z7 => bI x1 (3072) (lt_ (sA z7.2 30 (upd (z7.2.2.1 30) (Int32.toNatClampNeg x1) z7.1)) (fun σ10 => pf_X6_giveBlock_b23 N nf nb x1 σ10))) else pf_X6_giveBlock_b23 N nf nb x1 σ)
theorem cx_X6_giveBlock : (yX6_giveBlock.cls ≠ "java/lang/invoke/MethodHandle" ∧ yX6_giveBlock.cls ≠ "java/lang/invoke/VarHandle" ∧ (parseMethodDescriptor yX6_giveBlock.desc).map (fun d => d.parameters.length) = some 1) := by decide +kernel
set_option maxHeartbeats 4000000 in
set_option maxRecDepth 100000 in
theorem c_X6_giveBlock (l : Launch) (D : va_G) (q : Nat → ClassId) (h : Nat → Nat) (N : Nat) (nf : Nat) (nb : Nat) (x1 : Int32) (σ : St) (z : (Int32 × St)) (hf : pf_X6_giveBlock N nf nb x1 σ = some z) : MI l yX6_giveBlock cX6_giveBlock 2 (some .boolean) 1 22 D (tyQ q) [.ref (h 0), .int x1] (wC h q nf nb σ) (wC h q nf nb z.2) z.1 := by
  refine MI.of (by decide) (Nat.le_of_ble_eq_true rfl) ?_
  intro p e s m args below meth c Q A C ret ls hl
  have hl : lv_has ls 2 [(0, .ref (h 0)), (1, .int x1)] := hl
  unfold pf_X6_giveBlock at hf
  have b23 : ∀ (x1 : Int32) (σ : St), pf_X6_giveBlock_b23 N nf nb x1 σ = some z → ∀ ls : Array Slot, lv_has ls 2 [(0, .ref (h 0)), (1, .int x1)] → WG p l e (rmO 1 22) s m args below meth c D A 0 0 Q (wC h q nf nb σ) (F0 m 23 ls []) := by
    intro x1 σ hf ls hl
    unfold pf_X6_giveBlock_b23 at hf
    refine s_aload_n C dX6_giveBlock_23 rfl (lv_at hl 0 rfl) ?_
    refine gC_0_4 C wd_1_216 dX6_giveBlock_24 ?_
    refine s_iload_n C dX6_giveBlock_27 rfl (lv_at hl 1 rfl) ?_
    obtain ⟨hi3, hf⟩ := bI_some hf
    refine ldC_30 C hi3 dX6_giveBlock_28 ?_
    refine s_iconst (v := (-1 : Int32)) C dX6_giveBlock_29 (by decide) ?_
    refine s_icmp_ne (tgt := 49) C dX6_giveBlock_30 (by decide) (fun c4 => ?_) (fun c4 => ?_)
    · replace hf := it_f c4 hf
      refine s_iconst (v := (1 : Int32)) C dX6_giveBlock_49 (by decide) ?_
      exact ret _ _ _ _ dX6_giveBlock_50 rfl (rt_2 hf).1 (congrArg (fun σ => (wC h q nf nb σ)) (rt_2 hf).2)
    · replace hf := it_t c4 hf
      refine s_aload_n C dX6_giveBlock_33 rfl (lv_at hl 0 rfl) ?_
      refine gC_0_1 C wd_1_213 dX6_giveBlock_34 ?_
      refine s_iload_n C dX6_giveBlock_37 rfl (lv_at hl 1 rfl) ?_
      refine s_sipush (v := (256 : Int32)) C dX6_giveBlock_38 (by decide) ?_
      refine s_idiv C dX6_giveBlock_41 (by decide) ?_
      refine s_bipush (v := (-4 : Int32)) C dX6_giveBlock_42 (by decide) ?_
      obtain ⟨z5, h6, hf⟩ := bn_some hf
      refine s_callVV (As := [.int (x1 / (256 : Int32)), .int (-4 : Int32)]) (rest := []) C (c_X1_setError l D q h N nf nb (x1 / (256 : Int32)) (-4 : Int32) σ z5 h6) ⟨wd_2_94, wd_2_95, wd_2_96, wd_1_5, wd_2_97, cx_X1_setError, Nat.le_of_ble_eq_true rfl, Nat.le_of_ble_eq_true rfl⟩ 9 (ci := 1) rfl rfl rfl (SubW.full _ _) rfl hl.1 rfl (Nat.le_of_ble_eq_true rfl) dX6_giveBlock_44 (Nat.zero_le _) (Nat.zero_le _) ?_
      refine s_iconst (v := (0 : Int32)) C dX6_giveBlock_47 (by decide) ?_
      exact ret _ _ _ _ dX6_giveBlock_48 rfl (rt_2 hf).1 (congrArg (fun σ => (wC h q nf nb σ)) (rt_2 hf).2)
  refine s_aload_n C dX6_giveBlock_0 rfl (lv_at hl 0 rfl) ?_
  refine gC_0_4 C wd_1_216 dX6_giveBlock_1 ?_
  refine s_iload_n C dX6_giveBlock_4 rfl (lv_at hl 1 rfl) ?_
  obtain ⟨hi1, hf⟩ := bI_some hf
  refine ldC_30 C hi1 dX6_giveBlock_5 ?_
  refine s_iconst (v := (-1 : Int32)) C dX6_giveBlock_6 (by decide) ?_
  refine s_icmp_ne (tgt := 23) C dX6_giveBlock_7 (by decide) (fun c2 => ?_) (fun c2 => ?_)
  · replace hf := it_f c2 hf
    exact b23 _ _ hf _ (lv_sub hl [0, 1] rfl)
  · replace hf := it_t c2 hf
    refine s_aload_n C dX6_giveBlock_10 rfl (lv_at hl 0 rfl) ?_
    refine gC_0_4 C wd_1_216 dX6_giveBlock_11 ?_
    refine s_iload_n C dX6_giveBlock_14 rfl (lv_at hl 1 rfl) ?_
    refine s_aload_n C dX6_giveBlock_15 rfl (lv_at hl 0 rfl) ?_
    refine gC_0_0 C wd_1_212 dX6_giveBlock_16 ?_
    obtain ⟨z7, h8, hf⟩ := bn_some hf
    refine s_callIV (As := []) (rest := [.int x1, .ref (h 30)]) C (c_X0_leastFree l D q h N nf nb σ z7 h8) ⟨wd_2_90, wd_2_91, wd_2_92, wd_1_4, wd_2_93, cx_X0_leastFree, Nat.le_of_ble_eq_true rfl, Nat.le_of_ble_eq_true rfl⟩ 1 (ci := 0) rfl rfl rfl (SubW.full _ _) rfl hl.1 rfl (Nat.le_of_ble_eq_true rfl) dX6_giveBlock_19 (Nat.zero_le _) (Nat.zero_le _) ?_
    obtain ⟨hi9, hf⟩ := bI_some hf
    refine stC_30 C hi9 dX6_giveBlock_22 ?_
    obtain ⟨σ10, e11, hf⟩ := lt_some hf
    refine s_w (ws2 := (wC h q nf nb σ10)) (by rw [e11]) ?_
    clear e11
    exact b23 _ _ hf _ (lv_sub hl [0, 1] rfl)
def pf_X6_flush (N : Nat) (nf : Nat) (nb : Nat) (x1 : Int32) (σ : St) : Option (Int32 × St) := (pf_X2_spotIn N nf nb x1 σ).bind (fun z1 => if z1 = (-1 : Int32) then some ((0 : Int32), σ) else (pf_X6_giveBlock N nf nb z1 σ).bind (fun z4 => if z4.1 = 0 then some ((0 : Int32), z4.2) else lt_ (z1 / (256 : Int32)) (fun v7 => bI v7 (12) (lt_ (((z4.2.2.1 10) (Int32.toNatClampNeg v7)) - ((z1 - z1 / (256 : Int32) * (256 : Int32)) * (64 : Int32))) (fun v10 => bI z1 (3072) ((pf_X0_save N nf nb ((z4.2.2.1 30) (Int32.toNatClampNeg z1)) x1 v10 z4.2).bind (fun z13 => if z13.1 = 0 then (pf_X1_setError N nf nb v7 (-5 : Int32) z13.2).bind (fun z18 => some ((0 : Int32), z18)) else (pf_X2_clean N nf nb x1 z13.2).bind (fun z16 => some ((1 : Int32), z16)))))))))
theorem cx_X6_flush : (yX6_flush.cls ≠ "java/lang/invoke/MethodHandle" ∧ yX6_flush.cls ≠ "java/lang/invoke/VarHandle" ∧ (parseMethodDescriptor yX6_flush.desc).map (fun d => d.parameters.length) = some 1) := by decide +kernel
set_option maxHeartbeats 4000000 in
set_option maxRecDepth 100000 in
theorem c_X6_flush (l : Launch) (D : va_G) (q : Nat → ClassId) (h : Nat → Nat) (N : Nat) (nf : Nat) (nb : Nat) (x1 : Int32) (σ : St) (z : (Int32 × St)) (hf : pf_X6_flush N nf nb x1 σ = some z) : MI l yX6_flush cX6_flush 5 (some .boolean) 2 51 D (tyQ q) [.ref (h 0), .int x1] (wC h q nf nb σ) (wC h q nf nb z.2) z.1 := by
  refine MI.of (by decide) (Nat.le_of_ble_eq_true rfl) ?_
  intro p e s m args below meth c Q A C ret ls hl
  have hl : lv_has ls 5 [(0, .ref (h 0)), (1, .int x1)] := hl
  unfold pf_X6_flush at hf
  refine s_aload_n C dX6_flush_0 rfl (lv_at hl 0 rfl) ?_
  refine gC_0_2 C wd_1_214 dX6_flush_1 ?_
  refine s_iload_n C dX6_flush_4 rfl (lv_at hl 1 rfl) ?_
  obtain ⟨z1, h2, hf⟩ := bn_some hf
  refine s_callIV (As := [.int x1]) (rest := []) C (c_X2_spotIn l D q h N nf nb x1 σ z1 h2) ⟨wd_2_82, wd_2_83, wd_2_84, wd_1_7, wd_2_85, cx_X2_spotIn, Nat.le_of_ble_eq_true rfl, Nat.le_of_ble_eq_true rfl⟩ 14 (ci := 2) rfl rfl rfl (SubW.full _ _) rfl hl.1 rfl (Nat.le_of_ble_eq_true rfl) dX6_flush_5 (Nat.zero_le _) (Nat.zero_le _) ?_
  refine s_istore_n (lv2 := [(2, .int z1), (0, .ref (h 0)), (1, .int x1)]) C dX6_flush_8 rfl hl (by decide) rfl ?_
  intro ls hl
  refine s_iload_n C dX6_flush_9 rfl (lv_at hl 0 rfl) ?_
  refine s_iconst (v := (-1 : Int32)) C dX6_flush_10 (by decide) ?_
  refine s_icmp_eq (tgt := 22) C dX6_flush_11 (by decide) (fun c3 => ?_) (fun c3 => ?_)
  · replace hf := it_t c3 hf
    refine s_iconst (v := (0 : Int32)) C dX6_flush_22 (by decide) ?_
    exact ret _ _ _ _ dX6_flush_23 rfl (rt_2 hf).1 (congrArg (fun σ => (wC h q nf nb σ)) (rt_2 hf).2)
  · replace hf := it_f c3 hf
    refine s_aload_n C dX6_flush_14 rfl (lv_at hl 1 rfl) ?_
    refine s_iload_n C dX6_flush_15 rfl (lv_at hl 0 rfl) ?_
    obtain ⟨z4, h5, hf⟩ := bn_some hf
    refine s_callIV (As := [.int z1]) (rest := []) C (c_X6_giveBlock l D q h N nf nb z1 σ z4 h5) ⟨wd_2_86, wd_2_88, wd_s_5, wd_1_1, wd_2_89, cx_X6_giveBlock, Nat.le_of_ble_eq_true rfl, Nat.le_of_ble_eq_true rfl⟩ 0 (ci := 6) rfl rfl rfl (SubW.full _ _) rfl hl.1 rfl (Nat.le_of_ble_eq_true rfl) dX6_flush_16 (Nat.zero_le _) (Nat.zero_le _) ?_
    refine s_if_ne (tgt := 24) C dX6_flush_19 (by decide) (fun c6 => ?_) (fun c6 => ?_)
    · replace hf := it_f c6 hf
      refine s_iload_n C dX6_flush_24 rfl (lv_at hl 0 rfl) ?_
      refine s_sipush (v := (256 : Int32)) C dX6_flush_25 (by decide) ?_
      refine s_idiv C dX6_flush_28 (by decide) ?_
      obtain ⟨v7, e8, hf⟩ := lt_some hf
      refine s_eq (g2 := F0 m 29 ls [.int v7]) (by rw [e8]) ?_
      clear e8
      refine s_istore_n (lv2 := [(3, .int v7), (2, .int z1), (0, .ref (h 0)), (1, .int x1)]) C dX6_flush_29 rfl hl (by decide) rfl ?_
      intro ls hl
      refine s_aload_n C dX6_flush_30 rfl (lv_at hl 2 rfl) ?_
      refine gC_0_1 C wd_1_213 dX6_flush_31 ?_
      refine gnC_9_0 C nl_9 dX6_flush_34 ?_
      refine s_iload_n C dX6_flush_37 rfl (lv_at hl 0 rfl) ?_
      obtain ⟨hi9, hf⟩ := bI_some hf
      refine ldC_10 C hi9 dX6_flush_38 ?_
      refine s_iload_n C dX6_flush_39 rfl (lv_at hl 1 rfl) ?_
      refine s_sipush (v := (256 : Int32)) C dX6_flush_40 (by decide) ?_
      refine s_irem C dX6_flush_43 (by decide) ?_
      refine s_bipush (v := (64 : Int32)) C dX6_flush_44 (by decide) ?_
      refine s_imul C dX6_flush_46 ?_
      refine s_isub C dX6_flush_47 ?_
      obtain ⟨v10, e11, hf⟩ := lt_some hf
      refine s_eq (g2 := F0 m 48 ls [.int v10]) (by rw [e11]) ?_
      clear e11
      refine s_istore (lv2 := [(4, .int v10), (3, .int v7), (2, .int z1), (0, .ref (h 0)), (1, .int x1)]) C dX6_flush_48 hl (by decide) rfl ?_
      intro ls hl
      refine s_aload_n C dX6_flush_50 rfl (lv_at hl 3 rfl) ?_
      refine gC_0_0 C wd_1_212 dX6_flush_51 ?_
      refine s_aload_n C dX6_flush_54 rfl (lv_at hl 3 rfl) ?_
      refine gC_0_4 C wd_1_216 dX6_flush_55 ?_
      refine s_iload_n C dX6_flush_58 rfl (lv_at hl 2 rfl) ?_
      obtain ⟨hi12, hf⟩ := bI_some hf
      refine ldC_30 C hi12 dX6_flush_59 ?_
      refine s_aload_n C dX6_flush_60 rfl (lv_at hl 3 rfl) ?_
      refine gC_0_2 C wd_1_214 dX6_flush_61 ?_
      refine gnC_14_1 C nl_16 dX6_flush_64 ?_
      refine s_iload_n C dX6_flush_67 rfl (lv_at hl 4 rfl) ?_
      refine s_iload C dX6_flush_68 (lv_at hl 0 rfl) ?_
      obtain ⟨z13, h14, hf⟩ := bn_some hf
      refine s_callIV (As := [.int ((z4.2.2.1 30) (Int32.toNatClampNeg z1)), .ref (h 15), .int x1, .int v10]) (rest := []) C (c_X0_save l D q h N nf nb ((z4.2.2.1 30) (Int32.toNatClampNeg z1)) x1 v10 z4.2 z13 h14) ⟨wd_2_98, wd_2_99, wd_2_100, wd_1_4, wd_2_101, cx_X0_save, Nat.le_of_ble_eq_true rfl, Nat.le_of_ble_eq_true rfl⟩ 1 (ci := 0) rfl rfl rfl (SubW.full _ _) rfl hl.1 rfl (Nat.le_of_ble_eq_true rfl) dX6_flush_70 (Nat.zero_le _) (Nat.zero_le _) ?_
      refine s_if_ne (tgt := 88) C dX6_flush_73 (by decide) (fun c15 => ?_) (fun c15 => ?_)
      · replace hf := it_f c15 hf
        refine s_aload_n C dX6_flush_88 rfl (lv_at hl 3 rfl) ?_
        refine gC_0_2 C wd_1_214 dX6_flush_89 ?_
        refine s_iload_n C dX6_flush_92 rfl (lv_at hl 4 rfl) ?_
        obtain ⟨z16, h17, hf⟩ := bn_some hf
        refine s_callVV (As := [.int x1]) (rest := []) C (c_X2_clean l D q h N nf nb x1 z13.2 z16 h17) ⟨wd_2_120, wd_2_121, wd_2_122, wd_1_7, wd_2_123, cx_X2_clean, Nat.le_of_ble_eq_true rfl, Nat.le_of_ble_eq_true rfl⟩ 14 (ci := 2) rfl rfl rfl (SubW.full _ _) rfl hl.1 rfl (Nat.le_of_ble_eq_true rfl) dX6_flush_93 (Nat.zero_le _) (Nat.zero_le _) ?_
        refine s_iconst (v := (1 : Int32)) C dX6_flush_96 (by decide) ?_
        exact ret _ _ _ _ dX6_flush_97 rfl (rt_2 hf).1 (congrArg (fun σ => (wC h q nf nb σ)) (rt_2 hf).2)
      · replace hf := it_t c15 hf
        refine s_aload_n C dX6_flush_76 rfl (lv_at hl 3 rfl) ?_
        refine gC_0_1 C wd_1_213 dX6_flush_77 ?_
        refine s_iload_n C dX6_flush_80 rfl (lv_at hl 1 rfl) ?_
        refine s_bipush (v := (-5 : Int32)) C dX6_flush_81 (by decide) ?_
        obtain ⟨z18, h19, hf⟩ := bn_some hf
        refine s_callVV (As := [.int v7, .int (-5 : Int32)]) (rest := []) C (c_X1_setError l D q h N nf nb v7 (-5 : Int32) z13.2 z18 h19) ⟨wd_2_94, wd_2_95, wd_2_96, wd_1_5, wd_2_97, cx_X1_setError, Nat.le_of_ble_eq_true rfl, Nat.le_of_ble_eq_true rfl⟩ 9 (ci := 1) rfl rfl rfl (SubW.full _ _) rfl hl.1 rfl (Nat.le_of_ble_eq_true rfl) dX6_flush_83 (Nat.zero_le _) (Nat.zero_le _) ?_
        refine s_iconst (v := (0 : Int32)) C dX6_flush_86 (by decide) ?_
        exact ret _ _ _ _ dX6_flush_87 rfl (rt_2 hf).1 (congrArg (fun σ => (wC h q nf nb σ)) (rt_2 hf).2)
    · replace hf := it_t c6 hf
      refine s_iconst (v := (0 : Int32)) C dX6_flush_22 (by decide) ?_
      exact ret _ _ _ _ dX6_flush_23 rfl (rt_2 hf).1 (congrArg (fun σ => (wC h q nf nb σ)) (rt_2 hf).2)
def pf_X6_lookAtInactive_b124 (N : Nat) (nf : Nat) (nb : Nat) (J2 : Int32 → St → Option (Int32 × St)) (x1 : Int32) (σ : St) : Option (Int32 × St) := J2 (x1 + 1) σ
def pf_X6_lookAtInactive_L2 (N : Nat) (nf : Nat) (nb : Nat) : Nat → Int32 → St → Option (Int32 × St)
  | 0, _, _ => none
  | n + 1, x1, σ => if ((2 : Int32) * (σ.1 5)) ≤ x1 then some ((-1 : Int32), σ) else (pf_X3_last N (nf) ((σ.2.1 26), (σ.1 7))).bind (fun z2 => if z2 = (-1 : Int32) then some ((-1 : Int32), σ) else bI z2 (nf) (if ((σ.2.1 20) (Int32.toNatClampNeg z2)) = 0 then bI z2 (nf) (if ((σ.2.1 19) (Int32.toNatClampNeg z2)) = 0 then (pf_X2_isDirty N nf nb z2 σ).bind (fun z9 => if z9 = 0 then some (z2, σ) else (pf_X6_flush N nf nb z2 σ).bind (fun z12 => if z12.1 = 0 then (pf_X2_toFront N nf nb z2 (0 : Int32) z12.2).bind (fun z15 => pf_X6_lookAtInactive_b124 N nf nb (pf_X6_lookAtInactive_L2 N nf nb n) x1 z15) else some (z2, z12.2))) else bI z2 (nf) (lt_ (sA σ 19 (upd (σ.2.1 19) (Int32.toNatClampNeg z2) (vp_nar .boolean (0 : Int32)))) (fun σ18 => (pf_X2_toFront N nf nb z2 (1 : Int32) σ18).bind (fun z20 => pf_X6_lookAtInactive_b124 N nf nb (pf_X6_lookAtInactive_L2 N nf nb n) x1 z20)))) else (pf_X2_toFront N nf nb z2 (0 : Int32) σ).bind (fun z22 => pf_X6_lookAtInactive_b124 N nf nb (pf_X6_lookAtInactive_L2 N nf nb n) x1 z22)))
def pf_X6_lookAtInactive (N : Nat) (nf : Nat) (nb : Nat) (σ : St) : Option (Int32 × St) := pf_X6_lookAtInactive_L2 N nf nb N (0 : Int32) σ
theorem cx_X6_lookAtInactive : (yX6_lookAtInactive.cls ≠ "java/lang/invoke/MethodHandle" ∧ yX6_lookAtInactive.cls ≠ "java/lang/invoke/VarHandle" ∧ (parseMethodDescriptor yX6_lookAtInactive.desc).map (fun d => d.parameters.length) = some 0) := by decide +kernel
set_option maxHeartbeats 4000000 in
set_option maxRecDepth 100000 in
theorem c_X6_lookAtInactive (l : Launch) (D : va_G) (q : Nat → ClassId) (h : Nat → Nat) (N : Nat) (nf : Nat) (nb : Nat) (σ : St) (z : (Int32 × St)) (hf : pf_X6_lookAtInactive N nf nb σ = some z) : MI l yX6_lookAtInactive cX6_lookAtInactive 3 (some .int) 3 75 D (tyQ q) [.ref (h 0)] (wC h q nf nb σ) (wC h q nf nb z.2) z.1 := by
  refine MI.of (by decide) (Nat.le_of_ble_eq_true rfl) ?_
  intro p e s m args below meth c Q A C ret ls hl
  have hl : lv_has ls 3 [(0, .ref (h 0))] := hl
  unfold pf_X6_lookAtInactive at hf
  have b124 : ∀ (J2 : Int32 → St → Option (Int32 × St)) (hJ2 : ∀ (x1 : Int32) (σ : St), J2 x1 σ = some z → ∀ ls : Array Slot, lv_has ls 3 [(0, .ref (h 0)), (1, .int x1)] → WG p l e (rmO 3 75) s m args below meth c D A 0 0 Q (wC h q nf nb σ) (F0 m 2 ls [])) (x1 : Int32) (σ : St), pf_X6_lookAtInactive_b124 N nf nb J2 x1 σ = some z → ∀ ls : Array Slot, lv_has ls 3 [(0, .ref (h 0)), (1, .int x1)] → WG p l e (rmO 3 75) s m args below meth c D A 0 0 Q (wC h q nf nb σ) (F0 m 124 ls []) := by
    intro J2 hJ2 x1 σ hf ls hl
    unfold pf_X6_lookAtInactive_b124 at hf
    refine s_iinc (v := (x1 + 1)) (lv2 := [(1, .int (x1 + 1)), (0, .ref (h 0))]) C 1 dX6_lookAtInactive_124 hl rfl rfl (by decide) rfl ?_
    intro ls hl
    refine s_goto (tgt := 2) C dX6_lookAtInactive_127 (by decide) ?_
    exact hJ2 _ _ hf _ (lv_sub hl [1, 0] rfl)
  have L2 : ∀ (n : Nat) (x1 : Int32) (σ : St), pf_X6_lookAtInactive_L2 N nf nb n x1 σ = some z → ∀ ls : Array Slot, lv_has ls 3 [(0, .ref (h 0)), (1, .int x1)] → WG p l e (rmO 3 75) s m args below meth c D A 0 0 Q (wC h q nf nb σ) (F0 m 2 ls []) := by
    intro n
    induction n with
    | zero => intro x1 σ hf; unfold pf_X6_lookAtInactive_L2 at hf; cases hf
    | succ n ih =>
      intro x1 σ hf ls hl
      unfold pf_X6_lookAtInactive_L2 at hf
      refine s_iload_n C dX6_lookAtInactive_2 rfl (lv_at hl 1 rfl) ?_
      refine s_iconst (v := (2 : Int32)) C dX6_lookAtInactive_3 (by decide) ?_
      refine s_aload_n C dX6_lookAtInactive_4 rfl (lv_at hl 0 rfl) ?_
      refine gC_0_2 C wd_1_214 dX6_lookAtInactive_5 ?_
      refine gnC_14_0 C nl_15 dX6_lookAtInactive_8 ?_
      refine s_imul C dX6_lookAtInactive_11 ?_
      refine s_icmp_ge (tgt := 130) C dX6_lookAtInactive_12 (by decide) (fun c1 => ?_) (fun c1 => ?_)
      · replace hf := it_t c1 hf
        refine s_iconst (v := (-1 : Int32)) C dX6_lookAtInactive_130 (by decide) ?_
        exact ret _ _ _ _ dX6_lookAtInactive_131 rfl (rt_2 hf).1 (congrArg (fun σ => (wC h q nf nb σ)) (rt_2 hf).2)
      · replace hf := it_f c1 hf
        refine s_aload_n C dX6_lookAtInactive_15 rfl (lv_at hl 0 rfl) ?_
        refine gC_0_2 C wd_1_214 dX6_lookAtInactive_16 ?_
        refine gnC_14_9 C nl_23 dX6_lookAtInactive_19 ?_
        obtain ⟨z2, h3, hf⟩ := bn_some hf
        refine s_callIV (As := []) (rest := []) C (c_X3_last l D q (h 25) (h 26) N (nf) ((σ.2.1 26), (σ.1 7)) z2 h3) ⟨wd_2_72, wd_2_42, wd_2_43, wd_1_8, wd_2_44, cx_X3_last, Nat.le_of_ble_eq_true rfl, Nat.le_of_ble_eq_true rfl⟩ 25 (ci := 3) rfl rfl rfl (jnrC_25_26 nf nb h  q σ) rfl hl.1 rfl (Nat.le_of_ble_eq_true rfl) dX6_lookAtInactive_22 (Nat.zero_le _) (Nat.zero_le _) ?_
        refine s_istore_n (lv2 := [(2, .int z2), (0, .ref (h 0)), (1, .int x1)]) C dX6_lookAtInactive_25 rfl hl (by decide) rfl ?_
        intro ls hl
        refine s_iload_n C dX6_lookAtInactive_26 rfl (lv_at hl 0 rfl) ?_
        refine s_iconst (v := (-1 : Int32)) C dX6_lookAtInactive_27 (by decide) ?_
        refine s_icmp_ne (tgt := 33) C dX6_lookAtInactive_28 (by decide) (fun c4 => ?_) (fun c4 => ?_)
        · replace hf := it_f c4 hf
          refine s_aload_n C dX6_lookAtInactive_33 rfl (lv_at hl 1 rfl) ?_
          refine gC_0_2 C wd_1_214 dX6_lookAtInactive_34 ?_
          refine gnC_14_5 C nl_20 dX6_lookAtInactive_37 ?_
          refine s_iload_n C dX6_lookAtInactive_40 rfl (lv_at hl 0 rfl) ?_
          obtain ⟨hi5, hf⟩ := bI_some hf
          refine ldC_20 C hi5 dX6_lookAtInactive_41 ?_
          refine s_if_eq (tgt := 57) C dX6_lookAtInactive_42 (by decide) (fun c6 => ?_) (fun c6 => ?_)
          · replace hf := it_t c6 hf
            refine s_aload_n C dX6_lookAtInactive_57 rfl (lv_at hl 1 rfl) ?_
            refine gC_0_2 C wd_1_214 dX6_lookAtInactive_58 ?_
            refine gnC_14_4 C nl_19 dX6_lookAtInactive_61 ?_
            refine s_iload_n C dX6_lookAtInactive_64 rfl (lv_at hl 0 rfl) ?_
            obtain ⟨hi7, hf⟩ := bI_some hf
            refine ldC_19 C hi7 dX6_lookAtInactive_65 ?_
            refine s_if_eq (tgt := 91) C dX6_lookAtInactive_66 (by decide) (fun c8 => ?_) (fun c8 => ?_)
            · replace hf := it_t c8 hf
              refine s_aload_n C dX6_lookAtInactive_91 rfl (lv_at hl 1 rfl) ?_
              refine gC_0_2 C wd_1_214 dX6_lookAtInactive_92 ?_
              refine s_iload_n C dX6_lookAtInactive_95 rfl (lv_at hl 0 rfl) ?_
              obtain ⟨z9, h10, hf⟩ := bn_some hf
              refine s_callIV (As := [.int z2]) (rest := []) C (c_X2_isDirty l D q h N nf nb z2 σ z9 h10) ⟨wd_2_74, wd_2_75, wd_2_76, wd_1_7, wd_2_77, cx_X2_isDirty, Nat.le_of_ble_eq_true rfl, Nat.le_of_ble_eq_true rfl⟩ 14 (ci := 2) rfl rfl rfl (SubW.full _ _) rfl hl.1 rfl (Nat.le_of_ble_eq_true rfl) dX6_lookAtInactive_96 (Nat.zero_le _) (Nat.zero_le _) ?_
              refine s_if_eq (tgt := 122) C dX6_lookAtInactive_99 (by decide) (fun c11 => ?_) (fun c11 => ?_)
              · replace hf := it_t c11 hf
                refine s_iload_n C dX6_lookAtInactive_122 rfl (lv_at hl 0 rfl) ?_
                exact ret _ _ _ _ dX6_lookAtInactive_123 rfl (rt_2 hf).1 (congrArg (fun σ => (wC h q nf nb σ)) (rt_2 hf).2)
              · replace hf := it_f c11 hf
                refine s_aload_n C dX6_lookAtInactive_102 rfl (lv_at hl 1 rfl) ?_
                refine s_iload_n C dX6_lookAtInactive_103 rfl (lv_at hl 0 rfl) ?_
                obtain ⟨z12, h13, hf⟩ := bn_some hf
                refine s_callIV (As := [.int z2]) (rest := []) C (c_X6_flush l D q h N nf nb z2 σ z12 h13) ⟨wd_2_78, wd_2_80, wd_s_4, wd_1_1, wd_2_81, cx_X6_flush, Nat.le_of_ble_eq_true rfl, Nat.le_of_ble_eq_true rfl⟩ 0 (ci := 6) rfl rfl rfl (SubW.full _ _) rfl hl.1 rfl (Nat.le_of_ble_eq_true rfl) dX6_lookAtInactive_104 (Nat.zero_le _) (Nat.zero_le _) ?_
                refine s_if_ne (tgt := 122) C dX6_lookAtInactive_107 (by decide) (fun c14 => ?_) (fun c14 => ?_)
                · replace hf := it_f c14 hf
                  refine s_iload_n C dX6_lookAtInactive_122 rfl (lv_at hl 0 rfl) ?_
                  exact ret _ _ _ _ dX6_lookAtInactive_123 rfl (rt_2 hf).1 (congrArg (fun σ => (wC h q nf nb σ)) (rt_2 hf).2)
                · replace hf := it_t c14 hf
                  refine s_aload_n C dX6_lookAtInactive_110 rfl (lv_at hl 1 rfl) ?_
                  refine gC_0_2 C wd_1_214 dX6_lookAtInactive_111 ?_
                  refine s_iload_n C dX6_lookAtInactive_114 rfl (lv_at hl 0 rfl) ?_
                  refine s_iconst (v := (0 : Int32)) C dX6_lookAtInactive_115 (by decide) ?_
                  obtain ⟨z15, h16, hf⟩ := bn_some hf
                  refine s_callVV (As := [.int z2, .int (0 : Int32)]) (rest := []) C (c_X2_toFront l D q h N nf nb z2 (0 : Int32) z12.2 z15 h16) ⟨wd_2_73, wd_2_50, wd_2_51, wd_1_7, wd_2_52, cx_X2_toFront, Nat.le_of_ble_eq_true rfl, Nat.le_of_ble_eq_true rfl⟩ 14 (ci := 2) rfl rfl rfl (SubW.full _ _) rfl hl.1 rfl (Nat.le_of_ble_eq_true rfl) dX6_lookAtInactive_116 (Nat.zero_le _) (Nat.zero_le _) ?_
                  refine s_goto (tgt := 124) C dX6_lookAtInactive_119 (by decide) ?_
                  exact b124 _ ih _ _ hf _ (lv_sub hl [1, 2] rfl)
            · replace hf := it_f c8 hf
              refine s_aload_n C dX6_lookAtInactive_69 rfl (lv_at hl 1 rfl) ?_
              refine gC_0_2 C wd_1_214 dX6_lookAtInactive_70 ?_
              refine gnC_14_4 C nl_19 dX6_lookAtInactive_73 ?_
              refine s_iload_n C dX6_lookAtInactive_76 rfl (lv_at hl 0 rfl) ?_
              refine s_iconst (v := (0 : Int32)) C dX6_lookAtInactive_77 (by decide) ?_
              obtain ⟨hi17, hf⟩ := bI_some hf
              refine stC_19 C hi17 dX6_lookAtInactive_78 ?_
              obtain ⟨σ18, e19, hf⟩ := lt_some hf
              refine s_w (ws2 := (wC h q nf nb σ18)) (by rw [e19]) ?_
              clear e19
              refine s_aload_n C dX6_lookAtInactive_79 rfl (lv_at hl 1 rfl) ?_
              refine gC_0_2 C wd_1_214 dX6_lookAtInactive_80 ?_
              refine s_iload_n C dX6_lookAtInactive_83 rfl (lv_at hl 0 rfl) ?_
              refine s_iconst (v := (1 : Int32)) C dX6_lookAtInactive_84 (by decide) ?_
              obtain ⟨z20, h21, hf⟩ := bn_some hf
              refine s_callVV (As := [.int z2, .int (1 : Int32)]) (rest := []) C (c_X2_toFront l D q h N nf nb z2 (1 : Int32) σ18 z20 h21) ⟨wd_2_73, wd_2_50, wd_2_51, wd_1_7, wd_2_52, cx_X2_toFront, Nat.le_of_ble_eq_true rfl, Nat.le_of_ble_eq_true rfl⟩ 14 (ci := 2) rfl rfl rfl (SubW.full _ _) rfl hl.1 rfl (Nat.le_of_ble_eq_true rfl) dX6_lookAtInactive_85 (Nat.zero_le _) (Nat.zero_le _) ?_
              refine s_goto (tgt := 124) C dX6_lookAtInactive_88 (by decide) ?_
              exact b124 _ ih _ _ hf _ (lv_sub hl [1, 2] rfl)
          · replace hf := it_f c6 hf
            refine s_aload_n C dX6_lookAtInactive_45 rfl (lv_at hl 1 rfl) ?_
            refine gC_0_2 C wd_1_214 dX6_lookAtInactive_46 ?_
            refine s_iload_n C dX6_lookAtInactive_49 rfl (lv_at hl 0 rfl) ?_
            refine s_iconst (v := (0 : Int32)) C dX6_lookAtInactive_50 (by decide) ?_
            obtain ⟨z22, h23, hf⟩ := bn_some hf
            refine s_callVV (As := [.int z2, .int (0 : Int32)]) (rest := []) C (c_X2_toFront l D q h N nf nb z2 (0 : Int32) σ z22 h23) ⟨wd_2_73, wd_2_50, wd_2_51, wd_1_7, wd_2_52, cx_X2_toFront, Nat.le_of_ble_eq_true rfl, Nat.le_of_ble_eq_true rfl⟩ 14 (ci := 2) rfl rfl rfl (SubW.full _ _) rfl hl.1 rfl (Nat.le_of_ble_eq_true rfl) dX6_lookAtInactive_51 (Nat.zero_le _) (Nat.zero_le _) ?_
            refine s_goto (tgt := 124) C dX6_lookAtInactive_54 (by decide) ?_
            exact b124 _ ih _ _ hf _ (lv_sub hl [1, 2] rfl)
        · replace hf := it_t c4 hf
          refine s_iconst (v := (-1 : Int32)) C dX6_lookAtInactive_31 (by decide) ?_
          exact ret _ _ _ _ dX6_lookAtInactive_32 rfl (rt_2 hf).1 (congrArg (fun σ => (wC h q nf nb σ)) (rt_2 hf).2)
  refine s_iconst (v := (0 : Int32)) C dX6_lookAtInactive_0 (by decide) ?_
  refine s_istore_n (lv2 := [(1, .int (0 : Int32)), (0, .ref (h 0))]) C dX6_lookAtInactive_1 rfl hl (by decide) rfl ?_
  intro ls hl
  exact L2 N _ _ hf _ (lv_sub hl [1, 0] rfl)
def pf_X6_lookAtActive_b67 (N : Nat) (nf : Nat) (nb : Nat) (J13 : Int32 → St → Option (Int32 × St)) (x1 : Int32) (σ : St) : Option (Int32 × St) := J13 (x1 + (-1)) σ
def pf_X6_lookAtActive_L13 (N : Nat) (nf : Nat) (nb : Nat) : Nat → Int32 → St → Option (Int32 × St)
  | 0, _, _ => none
  | n + 1, x1, σ => if x1 < 0 then some ((-1 : Int32), σ) else (pf_X3_at N (nf) x1 ((σ.2.1 24), (σ.1 6))).bind (fun z4 => if z4 = (-1 : Int32) then pf_X6_lookAtActive_b67 N nf nb (pf_X6_lookAtActive_L13 N nf nb n) x1 σ else bI z4 (nf) (if ((σ.2.1 20) (Int32.toNatClampNeg z4)) = 0 then (pf_X2_isDirty N nf nb z4 σ).bind (fun z9 => if z9 = 0 then some (z4, σ) else (pf_X6_flush N nf nb z4 σ).bind (fun z12 => if z12.1 = 0 then pf_X6_lookAtActive_b67 N nf nb (pf_X6_lookAtActive_L13 N nf nb n) x1 z12.2 else some (z4, z12.2))) else pf_X6_lookAtActive_b67 N nf nb (pf_X6_lookAtActive_L13 N nf nb n) x1 σ))
def pf_X6_lookAtActive (N : Nat) (nf : Nat) (nb : Nat) (σ : St) : Option (Int32 × St) := lt_ ((σ.1 6) - (1 : Int32)) (fun v1 => pf_X6_lookAtActive_L13 N nf nb N v1 σ)
theorem cx_X6_lookAtActive : (yX6_lookAtActive.cls ≠ "java/lang/invoke/MethodHandle" ∧ yX6_lookAtActive.cls ≠ "java/lang/invoke/VarHandle" ∧ (parseMethodDescriptor yX6_lookAtActive.desc).map (fun d => d.parameters.length) = some 0) := by decide +kernel
set_option maxHeartbeats 4000000 in
set_option maxRecDepth 100000 in
theorem c_X6_lookAtActive (l : Launch) (D : va_G) (q : Nat → ClassId) (h : Nat → Nat) (N : Nat) (nf : Nat) (nb : Nat) (σ : St) (z : (Int32 × St)) (hf : pf_X6_lookAtActive N nf nb σ = some z) : MI l yX6_lookAtActive cX6_lookAtActive 3 (some .int) 3 75 D (tyQ q) [.ref (h 0)] (wC h q nf nb σ) (wC h q nf nb z.2) z.1 := by
  refine MI.of (by decide) (Nat.le_of_ble_eq_true rfl) ?_
  intro p e s m args below meth c Q A C ret ls hl
  have hl : lv_has ls 3 [(0, .ref (h 0))] := hl
  unfold pf_X6_lookAtActive at hf
  have b67 : ∀ (J13 : Int32 → St → Option (Int32 × St)) (hJ13 : ∀ (x1 : Int32) (σ : St), J13 x1 σ = some z → ∀ ls : Array Slot, lv_has ls 3 [(0, .ref (h 0)), (1, .int x1)] → WG p l e (rmO 3 75) s m args below meth c D A 0 0 Q (wC h q nf nb σ) (F0 m 13 ls [])) (x1 : Int32) (σ : St), pf_X6_lookAtActive_b67 N nf nb J13 x1 σ = some z → ∀ ls : Array Slot, lv_has ls 3 [(0, .ref (h 0)), (1, .int x1)] → WG p l e (rmO 3 75) s m args below meth c D A 0 0 Q (wC h q nf nb σ) (F0 m 67 ls []) := by
    intro J13 hJ13 x1 σ hf ls hl
    unfold pf_X6_lookAtActive_b67 at hf
    refine s_iinc (v := (x1 + (-1))) (lv2 := [(1, .int (x1 + (-1))), (0, .ref (h 0))]) C 1 dX6_lookAtActive_67 hl rfl rfl (by decide) rfl ?_
    intro ls hl
    refine s_goto (tgt := 13) C dX6_lookAtActive_70 (by decide) ?_
    exact hJ13 _ _ hf _ (lv_sub hl [1, 0] rfl)
  have L13 : ∀ (n : Nat) (x1 : Int32) (σ : St), pf_X6_lookAtActive_L13 N nf nb n x1 σ = some z → ∀ ls : Array Slot, lv_has ls 3 [(0, .ref (h 0)), (1, .int x1)] → WG p l e (rmO 3 75) s m args below meth c D A 0 0 Q (wC h q nf nb σ) (F0 m 13 ls []) := by
    intro n
    induction n with
    | zero => intro x1 σ hf; unfold pf_X6_lookAtActive_L13 at hf; cases hf
    | succ n ih =>
      intro x1 σ hf ls hl
      unfold pf_X6_lookAtActive_L13 at hf
      refine s_iload_n C dX6_lookAtActive_13 rfl (lv_at hl 1 rfl) ?_
      refine s_if_lt (tgt := 73) C dX6_lookAtActive_14 (by decide) (fun c3 => ?_) (fun c3 => ?_)
      · replace hf := it_t c3 hf
        refine s_iconst (v := (-1 : Int32)) C dX6_lookAtActive_73 (by decide) ?_
        exact ret _ _ _ _ dX6_lookAtActive_74 rfl (rt_2 hf).1 (congrArg (fun σ => (wC h q nf nb σ)) (rt_2 hf).2)
      · replace hf := it_f c3 hf
        refine s_aload_n C dX6_lookAtActive_17 rfl (lv_at hl 0 rfl) ?_
        refine gC_0_2 C wd_1_214 dX6_lookAtActive_18 ?_
        refine gnC_14_8 C nl_22 dX6_lookAtActive_21 ?_
        refine s_iload_n C dX6_lookAtActive_24 rfl (lv_at hl 1 rfl) ?_
        obtain ⟨z4, h5, hf⟩ := bn_some hf
        refine s_callIV (As := [.int x1]) (rest := []) C (c_X3_at l D q (h 23) (h 24) N (nf) x1 ((σ.2.1 24), (σ.1 6)) z4 h5) ⟨wd_2_129, wd_2_46, wd_2_47, wd_1_8, wd_2_48, cx_X3_at, Nat.le_of_ble_eq_true rfl, Nat.le_of_ble_eq_true rfl⟩ 23 (ci := 3) rfl rfl rfl (jnrC_23_24 nf nb h  q σ) rfl hl.1 rfl (Nat.le_of_ble_eq_true rfl) dX6_lookAtActive_25 (Nat.zero_le _) (Nat.zero_le _) ?_
        refine s_istore_n (lv2 := [(2, .int z4), (0, .ref (h 0)), (1, .int x1)]) C dX6_lookAtActive_28 rfl hl (by decide) rfl ?_
        intro ls hl
        refine s_iload_n C dX6_lookAtActive_29 rfl (lv_at hl 0 rfl) ?_
        refine s_iconst (v := (-1 : Int32)) C dX6_lookAtActive_30 (by decide) ?_
        refine s_icmp_eq (tgt := 67) C dX6_lookAtActive_31 (by decide) (fun c6 => ?_) (fun c6 => ?_)
        · replace hf := it_t c6 hf
          exact b67 _ ih _ _ hf _ (lv_sub hl [1, 2] rfl)
        · replace hf := it_f c6 hf
          refine s_aload_n C dX6_lookAtActive_34 rfl (lv_at hl 1 rfl) ?_
          refine gC_0_2 C wd_1_214 dX6_lookAtActive_35 ?_
          refine gnC_14_5 C nl_20 dX6_lookAtActive_38 ?_
          refine s_iload_n C dX6_lookAtActive_41 rfl (lv_at hl 0 rfl) ?_
          obtain ⟨hi7, hf⟩ := bI_some hf
          refine ldC_20 C hi7 dX6_lookAtActive_42 ?_
          refine s_if_ne (tgt := 67) C dX6_lookAtActive_43 (by decide) (fun c8 => ?_) (fun c8 => ?_)
          · replace hf := it_f c8 hf
            exact b67 _ ih _ _ hf _ (lv_sub hl [1, 2] rfl)
          · replace hf := it_t c8 hf
            refine s_aload_n C dX6_lookAtActive_46 rfl (lv_at hl 1 rfl) ?_
            refine gC_0_2 C wd_1_214 dX6_lookAtActive_47 ?_
            refine s_iload_n C dX6_lookAtActive_50 rfl (lv_at hl 0 rfl) ?_
            obtain ⟨z9, h10, hf⟩ := bn_some hf
            refine s_callIV (As := [.int z4]) (rest := []) C (c_X2_isDirty l D q h N nf nb z4 σ z9 h10) ⟨wd_2_74, wd_2_75, wd_2_76, wd_1_7, wd_2_77, cx_X2_isDirty, Nat.le_of_ble_eq_true rfl, Nat.le_of_ble_eq_true rfl⟩ 14 (ci := 2) rfl rfl rfl (SubW.full _ _) rfl hl.1 rfl (Nat.le_of_ble_eq_true rfl) dX6_lookAtActive_51 (Nat.zero_le _) (Nat.zero_le _) ?_
            refine s_if_eq (tgt := 65) C dX6_lookAtActive_54 (by decide) (fun c11 => ?_) (fun c11 => ?_)
            · replace hf := it_t c11 hf
              refine s_iload_n C dX6_lookAtActive_65 rfl (lv_at hl 0 rfl) ?_
              exact ret _ _ _ _ dX6_lookAtActive_66 rfl (rt_2 hf).1 (congrArg (fun σ => (wC h q nf nb σ)) (rt_2 hf).2)
            · replace hf := it_f c11 hf
              refine s_aload_n C dX6_lookAtActive_57 rfl (lv_at hl 1 rfl) ?_
              refine s_iload_n C dX6_lookAtActive_58 rfl (lv_at hl 0 rfl) ?_
              obtain ⟨z12, h13, hf⟩ := bn_some hf
              refine s_callIV (As := [.int z4]) (rest := []) C (c_X6_flush l D q h N nf nb z4 σ z12 h13) ⟨wd_2_78, wd_2_80, wd_s_4, wd_1_1, wd_2_81, cx_X6_flush, Nat.le_of_ble_eq_true rfl, Nat.le_of_ble_eq_true rfl⟩ 0 (ci := 6) rfl rfl rfl (SubW.full _ _) rfl hl.1 rfl (Nat.le_of_ble_eq_true rfl) dX6_lookAtActive_59 (Nat.zero_le _) (Nat.zero_le _) ?_
              refine s_if_eq (tgt := 67) C dX6_lookAtActive_62 (by decide) (fun c14 => ?_) (fun c14 => ?_)
              · replace hf := it_t c14 hf
                exact b67 _ ih _ _ hf _ (lv_sub hl [1, 2] rfl)
              · replace hf := it_f c14 hf
                refine s_iload_n C dX6_lookAtActive_65 rfl (lv_at hl 0 rfl) ?_
                exact ret _ _ _ _ dX6_lookAtActive_66 rfl (rt_2 hf).1 (congrArg (fun σ => (wC h q nf nb σ)) (rt_2 hf).2)
  refine s_aload_n C dX6_lookAtActive_0 rfl (lv_at hl 0 rfl) ?_
  refine gC_0_2 C wd_1_214 dX6_lookAtActive_1 ?_
  refine gnC_14_8 C nl_22 dX6_lookAtActive_4 ?_
  refine gnC_23_1 C nl_14 dX6_lookAtActive_7 ?_
  refine s_iconst (v := (1 : Int32)) C dX6_lookAtActive_10 (by decide) ?_
  refine s_isub C dX6_lookAtActive_11 ?_
  obtain ⟨v1, e2, hf⟩ := lt_some hf
  refine s_eq (g2 := F0 m 12 ls [.int v1]) (by rw [e2]) ?_
  clear e2
  refine s_istore_n (lv2 := [(1, .int v1), (0, .ref (h 0))]) C dX6_lookAtActive_12 rfl hl (by decide) rfl ?_
  intro ls hl
  exact L13 N _ _ hf _ (lv_sub hl [1, 0] rfl)
def pf_X6_evict (N : Nat) (nf : Nat) (nb : Nat) (x1 : Int32) (σ : St) : Option St := (pf_X2_spotIn N nf nb x1 σ).bind (fun z1 => (pf_X2_leave N nf nb x1 σ).bind (fun z3 => (pf_X4_add N nf nb z1 z3).bind (fun z5 => some z5)))
theorem cx_X6_evict : (yX6_evict.cls ≠ "java/lang/invoke/MethodHandle" ∧ yX6_evict.cls ≠ "java/lang/invoke/VarHandle" ∧ (parseMethodDescriptor yX6_evict.desc).map (fun d => d.parameters.length) = some 1) := by decide +kernel
set_option maxHeartbeats 4000000 in
set_option maxRecDepth 100000 in
theorem c_X6_evict (l : Launch) (D : va_G) (q : Nat → ClassId) (h : Nat → Nat) (N : Nat) (nf : Nat) (nb : Nat) (x1 : Int32) (σ : St) (z : St) (hf : pf_X6_evict N nf nb x1 σ = some z) : MV l yX6_evict cX6_evict 3 (none) 3 67 D (tyQ q) [.ref (h 0), .int x1] (wC h q nf nb σ) (wC h q nf nb z) := by
  refine MV.of (by decide) (Nat.le_of_ble_eq_true rfl) ?_
  intro p e s m args below meth c Q A C ret ls hl
  have hl : lv_has ls 3 [(0, .ref (h 0)), (1, .int x1)] := hl
  unfold pf_X6_evict at hf
  refine s_aload_n C dX6_evict_0 rfl (lv_at hl 0 rfl) ?_
  refine gC_0_2 C wd_1_214 dX6_evict_1 ?_
  refine s_iload_n C dX6_evict_4 rfl (lv_at hl 1 rfl) ?_
  obtain ⟨z1, h2, hf⟩ := bn_some hf
  refine s_callIV (As := [.int x1]) (rest := []) C (c_X2_spotIn l D q h N nf nb x1 σ z1 h2) ⟨wd_2_82, wd_2_83, wd_2_84, wd_1_7, wd_2_85, cx_X2_spotIn, Nat.le_of_ble_eq_true rfl, Nat.le_of_ble_eq_true rfl⟩ 14 (ci := 2) rfl rfl rfl (SubW.full _ _) rfl hl.1 rfl (Nat.le_of_ble_eq_true rfl) dX6_evict_5 (Nat.zero_le _) (Nat.zero_le _) ?_
  refine s_istore_n (lv2 := [(2, .int z1), (0, .ref (h 0)), (1, .int x1)]) C dX6_evict_8 rfl hl (by decide) rfl ?_
  intro ls hl
  refine s_aload_n C dX6_evict_9 rfl (lv_at hl 1 rfl) ?_
  refine gC_0_2 C wd_1_214 dX6_evict_10 ?_
  refine s_iload_n C dX6_evict_13 rfl (lv_at hl 2 rfl) ?_
  obtain ⟨z3, h4, hf⟩ := bn_some hf
  refine s_callVV (As := [.int x1]) (rest := []) C (c_X2_leave l D q h N nf nb x1 σ z3 h4) ⟨wd_2_134, wd_2_135, wd_2_136, wd_1_7, wd_2_137, cx_X2_leave, Nat.le_of_ble_eq_true rfl, Nat.le_of_ble_eq_true rfl⟩ 14 (ci := 2) rfl rfl rfl (SubW.full _ _) rfl hl.1 rfl (Nat.le_of_ble_eq_true rfl) dX6_evict_14 (Nat.zero_le _) (Nat.zero_le _) ?_
  refine s_aload_n C dX6_evict_17 rfl (lv_at hl 1 rfl) ?_
  refine gC_0_3 C wd_1_215 dX6_evict_18 ?_
  refine s_iload_n C dX6_evict_21 rfl (lv_at hl 0 rfl) ?_
  obtain ⟨z5, h6, hf⟩ := bn_some hf
  refine s_callVV (As := [.int z1]) (rest := []) C (c_X4_add l D q h N nf nb z1 z3 z5 h6) ⟨wd_2_144, wd_2_145, wd_2_146, wd_1_9, wd_2_147, cx_X4_add, Nat.le_of_ble_eq_true rfl, Nat.le_of_ble_eq_true rfl⟩ 27 (ci := 4) rfl rfl rfl (SubW.full _ _) rfl hl.1 rfl (Nat.le_of_ble_eq_true rfl) dX6_evict_22 (Nat.zero_le _) (Nat.zero_le _) ?_
  exact ret _ _ _ dX6_evict_25 (congrArg (fun σ => (wC h q nf nb σ)) (rt_1 hf))
def pf_X6_bringIn_b105 (N : Nat) (nf : Nat) (nb : Nat) (x1 : Int32) (x2 : Int32) (σ : St) : Option (Int32 × St) := (pf_X4_isRecent N nf nb x1 (σ.1 6) σ).bind (fun z9 => (pf_X4_forget N nf nb x1 σ).bind (fun z11 => (pf_X2_enter N nf nb x2 x1 z9 z11).bind (fun z13 => some (x2, z13))))
def pf_X6_bringIn_b51 (N : Nat) (nf : Nat) (nb : Nat) (x1 : Int32) (x2 : Int32) (σ : St) : Option (Int32 × St) := bI x1 (3072) (if ((σ.2.1 30) (Int32.toNatClampNeg x1)) = (-1 : Int32) then (pf_X5_clear N (nf * 8) (x2 * (64 : Int32)) ((x2 + (1 : Int32)) * (64 : Int32)) (σ.2.2 16)).bind (fun z15 => lt_ (sL σ 16 z15) (fun σ17 => pf_X6_bringIn_b105 N nf nb x1 x2 σ17)) else bI x1 (3072) ((pf_X0_load N nf nb ((σ.2.1 30) (Int32.toNatClampNeg x1)) x2 σ).bind (fun z7 => pf_X6_bringIn_b105 N nf nb x1 x2 z7)))
def pf_X6_bringIn_b38 (N : Nat) (nf : Nat) (nb : Nat) (x1 : Int32) (y0 : Int32) (σ : St) : Option (Int32 × St) := if y0 = (-1 : Int32) then some ((-1 : Int32), σ) else (pf_X6_evict N nf nb y0 σ).bind (fun z25 => pf_X6_bringIn_b51 N nf nb x1 y0 z25)
def pf_X6_bringIn (N : Nat) (nf : Nat) (nb : Nat) (x1 : Int32) (σ : St) : Option (Int32 × St) := (pf_X2_leastFree N nf nb σ).bind (fun z1 => if z1 = (-1 : Int32) then (pf_X2_balance N nf nb σ).bind (fun z19 => (pf_X6_lookAtInactive N nf nb z19).bind (fun z21 => if z21.1 = (-1 : Int32) then (pf_X6_lookAtActive N nf nb z21.2).bind (fun z27 => pf_X6_bringIn_b38 N nf nb x1 z27.1 z27.2) else pf_X6_bringIn_b38 N nf nb x1 z21.1 z21.2)) else pf_X6_bringIn_b51 N nf nb x1 z1 σ)
theorem cx_X6_bringIn : (yX6_bringIn.cls ≠ "java/lang/invoke/MethodHandle" ∧ yX6_bringIn.cls ≠ "java/lang/invoke/VarHandle" ∧ (parseMethodDescriptor yX6_bringIn.desc).map (fun d => d.parameters.length) = some 1) := by decide +kernel
set_option maxHeartbeats 4000000 in
set_option maxRecDepth 100000 in
theorem c_X6_bringIn (l : Launch) (D : va_G) (q : Nat → ClassId) (h : Nat → Nat) (N : Nat) (nf : Nat) (nb : Nat) (x1 : Int32) (σ : St) (z : (Int32 × St)) (hf : pf_X6_bringIn N nf nb x1 σ = some z) : MI l yX6_bringIn cX6_bringIn 4 (some .int) 4 97 D (tyQ q) [.ref (h 0), .int x1] (wC h q nf nb σ) (wC h q nf nb z.2) z.1 := by
  refine MI.of (by decide) (Nat.le_of_ble_eq_true rfl) ?_
  intro p e s m args below meth c Q A C ret ls hl
  have hl : lv_has ls 4 [(0, .ref (h 0)), (1, .int x1)] := hl
  unfold pf_X6_bringIn at hf
  have b105 : ∀ (x1 : Int32) (x2 : Int32) (σ : St), pf_X6_bringIn_b105 N nf nb x1 x2 σ = some z → ∀ ls : Array Slot, lv_has ls 4 [(0, .ref (h 0)), (1, .int x1), (2, .int x2)] → WG p l e (rmO 4 97) s m args below meth c D A 0 0 Q (wC h q nf nb σ) (F0 m 105 ls []) := by
    intro x1 x2 σ hf ls hl
    unfold pf_X6_bringIn_b105 at hf
    refine s_aload_n C dX6_bringIn_105 rfl (lv_at hl 0 rfl) ?_
    refine gC_0_3 C wd_1_215 dX6_bringIn_106 ?_
    refine s_iload_n C dX6_bringIn_109 rfl (lv_at hl 1 rfl) ?_
    refine s_aload_n C dX6_bringIn_110 rfl (lv_at hl 0 rfl) ?_
    refine gC_0_2 C wd_1_214 dX6_bringIn_111 ?_
    refine gnC_14_8 C nl_22 dX6_bringIn_114 ?_
    refine gnC_23_1 C nl_14 dX6_bringIn_117 ?_
    obtain ⟨z9, h10, hf⟩ := bn_some hf
    refine s_callIV (As := [.int x1, .int (σ.1 6)]) (rest := []) C (c_X4_isRecent l D q h N nf nb x1 (σ.1 6) σ z9 h10) ⟨wd_2_162, wd_2_163, wd_2_164, wd_1_9, wd_2_165, cx_X4_isRecent, Nat.le_of_ble_eq_true rfl, Nat.le_of_ble_eq_true rfl⟩ 27 (ci := 4) rfl rfl rfl (SubW.full _ _) rfl hl.1 rfl (Nat.le_of_ble_eq_true rfl) dX6_bringIn_120 (Nat.zero_le _) (Nat.zero_le _) ?_
    refine s_istore_n (lv2 := [(3, .int z9), (0, .ref (h 0)), (1, .int x1), (2, .int x2)]) C dX6_bringIn_123 rfl hl (by decide) rfl ?_
    intro ls hl
    refine s_aload_n C dX6_bringIn_124 rfl (lv_at hl 1 rfl) ?_
    refine gC_0_3 C wd_1_215 dX6_bringIn_125 ?_
    refine s_iload_n C dX6_bringIn_128 rfl (lv_at hl 2 rfl) ?_
    obtain ⟨z11, h12, hf⟩ := bn_some hf
    refine s_callVV (As := [.int x1]) (rest := []) C (c_X4_forget l D q h N nf nb x1 σ z11 h12) ⟨wd_2_166, wd_2_149, wd_2_150, wd_1_9, wd_2_151, cx_X4_forget, Nat.le_of_ble_eq_true rfl, Nat.le_of_ble_eq_true rfl⟩ 27 (ci := 4) rfl rfl rfl (SubW.full _ _) rfl hl.1 rfl (Nat.le_of_ble_eq_true rfl) dX6_bringIn_129 (Nat.zero_le _) (Nat.zero_le _) ?_
    refine s_aload_n C dX6_bringIn_132 rfl (lv_at hl 1 rfl) ?_
    refine gC_0_2 C wd_1_214 dX6_bringIn_133 ?_
    refine s_iload_n C dX6_bringIn_136 rfl (lv_at hl 3 rfl) ?_
    refine s_iload_n C dX6_bringIn_137 rfl (lv_at hl 2 rfl) ?_
    refine s_iload_n C dX6_bringIn_138 rfl (lv_at hl 0 rfl) ?_
    obtain ⟨z13, h14, hf⟩ := bn_some hf
    refine s_callVV (As := [.int x2, .int x1, .int z9]) (rest := []) C (c_X2_enter l D q h N nf nb x2 x1 z9 z11 z13 h14) ⟨wd_2_167, wd_2_168, wd_2_169, wd_1_7, wd_2_170, cx_X2_enter, Nat.le_of_ble_eq_true rfl, Nat.le_of_ble_eq_true rfl⟩ 14 (ci := 2) rfl rfl rfl (SubW.full _ _) rfl hl.1 rfl (Nat.le_of_ble_eq_true rfl) dX6_bringIn_139 (Nat.zero_le _) (Nat.zero_le _) ?_
    refine s_iload_n C dX6_bringIn_142 rfl (lv_at hl 3 rfl) ?_
    exact ret _ _ _ _ dX6_bringIn_143 rfl (rt_2 hf).1 (congrArg (fun σ => (wC h q nf nb σ)) (rt_2 hf).2)
  have b51 : ∀ (x1 : Int32) (x2 : Int32) (σ : St), pf_X6_bringIn_b51 N nf nb x1 x2 σ = some z → ∀ ls : Array Slot, lv_has ls 4 [(0, .ref (h 0)), (1, .int x1), (2, .int x2)] → WG p l e (rmO 4 97) s m args below meth c D A 0 0 Q (wC h q nf nb σ) (F0 m 51 ls []) := by
    intro x1 x2 σ hf ls hl
    unfold pf_X6_bringIn_b51 at hf
    refine s_aload_n C dX6_bringIn_51 rfl (lv_at hl 0 rfl) ?_
    refine gC_0_4 C wd_1_216 dX6_bringIn_52 ?_
    refine s_iload_n C dX6_bringIn_55 rfl (lv_at hl 1 rfl) ?_
    obtain ⟨hi4, hf⟩ := bI_some hf
    refine ldC_30 C hi4 dX6_bringIn_56 ?_
    refine s_iconst (v := (-1 : Int32)) C dX6_bringIn_57 (by decide) ?_
    refine s_icmp_ne (tgt := 84) C dX6_bringIn_58 (by decide) (fun c5 => ?_) (fun c5 => ?_)
    · replace hf := it_f c5 hf
      refine s_aload_n C dX6_bringIn_84 rfl (lv_at hl 0 rfl) ?_
      refine gC_0_0 C wd_1_212 dX6_bringIn_85 ?_
      refine s_aload_n C dX6_bringIn_88 rfl (lv_at hl 0 rfl) ?_
      refine gC_0_4 C wd_1_216 dX6_bringIn_89 ?_
      refine s_iload_n C dX6_bringIn_92 rfl (lv_at hl 1 rfl) ?_
      obtain ⟨hi6, hf⟩ := bI_some hf
      refine ldC_30 C hi6 dX6_bringIn_93 ?_
      refine s_aload_n C dX6_bringIn_94 rfl (lv_at hl 0 rfl) ?_
      refine gC_0_2 C wd_1_214 dX6_bringIn_95 ?_
      refine gnC_14_1 C nl_16 dX6_bringIn_98 ?_
      refine s_iload_n C dX6_bringIn_101 rfl (lv_at hl 2 rfl) ?_
      obtain ⟨z7, h8, hf⟩ := bn_some hf
      refine s_callVV (As := [.int ((σ.2.1 30) (Int32.toNatClampNeg x1)), .ref (h 15), .int x2]) (rest := []) C (c_X0_load l D q h N nf nb ((σ.2.1 30) (Int32.toNatClampNeg x1)) x2 σ z7 h8) ⟨wd_2_158, wd_2_159, wd_2_160, wd_1_4, wd_2_161, cx_X0_load, Nat.le_of_ble_eq_true rfl, Nat.le_of_ble_eq_true rfl⟩ 1 (ci := 0) rfl rfl rfl (SubW.full _ _) rfl hl.1 rfl (Nat.le_of_ble_eq_true rfl) dX6_bringIn_102 (Nat.zero_le _) (Nat.zero_le _) ?_
      exact b105 _ _ _ hf _ (lv_sub hl [0, 1, 2] rfl)
    · replace hf := it_t c5 hf
      refine s_aload_n C dX6_bringIn_61 rfl (lv_at hl 0 rfl) ?_
      refine gC_0_2 C wd_1_214 dX6_bringIn_62 ?_
      refine gnC_14_1 C nl_16 dX6_bringIn_65 ?_
      refine s_iload_n C dX6_bringIn_68 rfl (lv_at hl 2 rfl) ?_
      refine s_bipush (v := (64 : Int32)) C dX6_bringIn_69 (by decide) ?_
      refine s_imul C dX6_bringIn_71 ?_
      refine s_iload_n C dX6_bringIn_72 rfl (lv_at hl 2 rfl) ?_
      refine s_iconst (v := (1 : Int32)) C dX6_bringIn_73 (by decide) ?_
      refine s_iadd C dX6_bringIn_74 ?_
      refine s_bipush (v := (64 : Int32)) C dX6_bringIn_75 (by decide) ?_
      refine s_imul C dX6_bringIn_77 ?_
      obtain ⟨z15, h16, hf⟩ := bn_some hf
      refine s_callVV (As := [.int (x2 * (64 : Int32)), .int ((x2 + (1 : Int32)) * (64 : Int32))]) (rest := []) C (c_X5_clear l D q (h 15) (h 16) N (nf * 8) (x2 * (64 : Int32)) ((x2 + (1 : Int32)) * (64 : Int32)) (σ.2.2 16) z15 h16) ⟨wd_2_157, wd_2_111, wd_2_112, wd_1_2, wd_2_113, cx_X5_clear, Nat.le_of_ble_eq_true rfl, Nat.le_of_ble_eq_true rfl⟩ 15 (ci := 5) rfl rfl rfl (jnC_15_16 nf nb h  q σ z15) rfl hl.1 rfl (Nat.le_of_ble_eq_true rfl) dX6_bringIn_78 (Nat.zero_le _) (Nat.zero_le _) ?_
      obtain ⟨σ17, e18, hf⟩ := lt_some hf
      refine s_w (ws2 := (wC h q nf nb σ17)) (by rw [e18]) ?_
      clear e18
      refine s_goto (tgt := 105) C dX6_bringIn_81 (by decide) ?_
      exact b105 _ _ _ hf _ (lv_sub hl [0, 1, 2] rfl)
  have b38 : ∀ (x1 : Int32) (y0 : Int32) (σ : St), pf_X6_bringIn_b38 N nf nb x1 y0 σ = some z → ∀ ls : Array Slot, lv_has ls 4 [(0, .ref (h 0)), (1, .int x1)] → WG p l e (rmO 4 97) s m args below meth c D A 0 0 Q (wC h q nf nb σ) (F0 m 38 ls [.int y0]) := by
    intro x1 y0 σ hf ls hl
    unfold pf_X6_bringIn_b38 at hf
    refine s_istore_n (lv2 := [(2, .int y0), (0, .ref (h 0)), (1, .int x1)]) C dX6_bringIn_38 rfl hl (by decide) rfl ?_
    intro ls hl
    refine s_iload_n C dX6_bringIn_39 rfl (lv_at hl 0 rfl) ?_
    refine s_iconst (v := (-1 : Int32)) C dX6_bringIn_40 (by decide) ?_
    refine s_icmp_ne (tgt := 46) C dX6_bringIn_41 (by decide) (fun c24 => ?_) (fun c24 => ?_)
    · replace hf := it_f c24 hf
      refine s_aload_n C dX6_bringIn_46 rfl (lv_at hl 1 rfl) ?_
      refine s_iload_n C dX6_bringIn_47 rfl (lv_at hl 0 rfl) ?_
      obtain ⟨z25, h26, hf⟩ := bn_some hf
      refine s_callVV (As := [.int y0]) (rest := []) C (c_X6_evict l D q h N nf nb y0 σ z25 h26) ⟨wd_2_130, wd_2_132, wd_s_8, wd_1_1, wd_2_133, cx_X6_evict, Nat.le_of_ble_eq_true rfl, Nat.le_of_ble_eq_true rfl⟩ 0 (ci := 6) rfl rfl rfl (SubW.full _ _) rfl hl.1 rfl (Nat.le_of_ble_eq_true rfl) dX6_bringIn_48 (Nat.zero_le _) (Nat.zero_le _) ?_
      exact b51 _ _ _ hf _ (lv_sub hl [1, 2, 0] rfl)
    · replace hf := it_t c24 hf
      refine s_iconst (v := (-1 : Int32)) C dX6_bringIn_44 (by decide) ?_
      exact ret _ _ _ _ dX6_bringIn_45 rfl (rt_2 hf).1 (congrArg (fun σ => (wC h q nf nb σ)) (rt_2 hf).2)
  refine s_aload_n C dX6_bringIn_0 rfl (lv_at hl 0 rfl) ?_
  refine gC_0_2 C wd_1_214 dX6_bringIn_1 ?_
  obtain ⟨z1, h2, hf⟩ := bn_some hf
  refine s_callIV (As := []) (rest := []) C (c_X2_leastFree l D q h N nf nb σ z1 h2) ⟨wd_2_33, wd_2_34, wd_2_35, wd_1_7, wd_2_36, cx_X2_leastFree, Nat.le_of_ble_eq_true rfl, Nat.le_of_ble_eq_true rfl⟩ 14 (ci := 2) rfl rfl rfl (SubW.full _ _) rfl hl.1 rfl (Nat.le_of_ble_eq_true rfl) dX6_bringIn_4 (Nat.zero_le _) (Nat.zero_le _) ?_
  refine s_istore_n (lv2 := [(2, .int z1), (0, .ref (h 0)), (1, .int x1)]) C dX6_bringIn_7 rfl hl (by decide) rfl ?_
  intro ls hl
  refine s_iload_n C dX6_bringIn_8 rfl (lv_at hl 0 rfl) ?_
  refine s_iconst (v := (-1 : Int32)) C dX6_bringIn_9 (by decide) ?_
  refine s_icmp_ne (tgt := 51) C dX6_bringIn_10 (by decide) (fun c3 => ?_) (fun c3 => ?_)
  · replace hf := it_f c3 hf
    exact b51 _ _ _ hf _ (lv_sub hl [1, 2, 0] rfl)
  · replace hf := it_t c3 hf
    refine s_aload_n C dX6_bringIn_13 rfl (lv_at hl 1 rfl) ?_
    refine gC_0_2 C wd_1_214 dX6_bringIn_14 ?_
    obtain ⟨z19, h20, hf⟩ := bn_some hf
    refine s_callVV (As := []) (rest := []) C (c_X2_balance l D q h N nf nb σ z19 h20) ⟨wd_2_37, wd_2_38, wd_2_39, wd_1_7, wd_2_40, cx_X2_balance, Nat.le_of_ble_eq_true rfl, Nat.le_of_ble_eq_true rfl⟩ 14 (ci := 2) rfl rfl rfl (SubW.full _ _) rfl hl.1 rfl (Nat.le_of_ble_eq_true rfl) dX6_bringIn_17 (Nat.zero_le _) (Nat.zero_le _) ?_
    refine s_aload_n C dX6_bringIn_20 rfl (lv_at hl 1 rfl) ?_
    obtain ⟨z21, h22, hf⟩ := bn_some hf
    refine s_callIV (As := []) (rest := []) C (c_X6_lookAtInactive l D q h N nf nb z19 z21 h22) ⟨wd_2_68, wd_2_70, wd_s_3, wd_1_1, wd_2_71, cx_X6_lookAtInactive, Nat.le_of_ble_eq_true rfl, Nat.le_of_ble_eq_true rfl⟩ 0 (ci := 6) rfl rfl rfl (SubW.full _ _) rfl hl.1 rfl (Nat.le_of_ble_eq_true rfl) dX6_bringIn_21 (Nat.zero_le _) (Nat.zero_le _) ?_
    refine s_istore_n (lv2 := [(2, .int z21.1), (0, .ref (h 0)), (1, .int x1)]) C dX6_bringIn_24 rfl hl (by decide) rfl ?_
    intro ls hl
    refine s_iload_n C dX6_bringIn_25 rfl (lv_at hl 0 rfl) ?_
    refine s_iconst (v := (-1 : Int32)) C dX6_bringIn_26 (by decide) ?_
    refine s_icmp_ne (tgt := 37) C dX6_bringIn_27 (by decide) (fun c23 => ?_) (fun c23 => ?_)
    · replace hf := it_f c23 hf
      refine s_iload_n C dX6_bringIn_37 rfl (lv_at hl 0 rfl) ?_
      exact b38 _ _ _ hf _ (lv_sub hl [1, 2] rfl)
    · replace hf := it_t c23 hf
      refine s_aload_n C dX6_bringIn_30 rfl (lv_at hl 1 rfl) ?_
      obtain ⟨z27, h28, hf⟩ := bn_some hf
      refine s_callIV (As := []) (rest := []) C (c_X6_lookAtActive l D q h N nf nb z21.2 z27 h28) ⟨wd_2_125, wd_2_127, wd_s_7, wd_1_1, wd_2_128, cx_X6_lookAtActive, Nat.le_of_ble_eq_true rfl, Nat.le_of_ble_eq_true rfl⟩ 0 (ci := 6) rfl rfl rfl (SubW.full _ _) rfl hl.1 rfl (Nat.le_of_ble_eq_true rfl) dX6_bringIn_31 (Nat.zero_le _) (Nat.zero_le _) ?_
      refine s_goto (tgt := 38) C dX6_bringIn_34 (by decide) ?_
      exact b38 _ _ _ hf _ (lv_sub hl [1, 2] rfl)
def pf_X6_bringAhead_b140 (N : Nat) (nf : Nat) (nb : Nat) (x1 : Int32) (x6 : Int32) (σ : St) : Option St := bI x1 (12) (lt_ (sA σ 12 (upd (σ.2.1 12) (Int32.toNatClampNeg x1) x6)) (fun σ18 => some σ18))
def pf_X6_bringAhead_b128 (N : Nat) (nf : Nat) (nb : Nat) (J87 : Int32 → Int32 → Int32 → Int32 → St → Option St) (x1 : Int32) (x5 : Int32) (x7 : Int32) (σ : St) : Option St := lt_ (x7 + (1 : Int32)) (fun v25 => J87 x1 x5 v25 (x7 + 1) σ)
def pf_X6_bringAhead_L87 (N : Nat) (nf : Nat) (nb : Nat) : Nat → Int32 → Int32 → Int32 → Int32 → St → Option St
  | 0, _, _, _, _, _ => none
  | n + 1, x1, x5, x6, x7, σ => if x5 ≤ x7 then pf_X6_bringAhead_b140 N nf nb x1 x6 σ else (pf_X6_spotOf N x1 x7).bind (fun z20 => (pf_X2_frameOf N nf nb z20 σ).bind (fun z22 => if z22 = (-1 : Int32) then (pf_X6_bringIn N nf nb z20 σ).bind (fun z27 => if z27.1 = (-1 : Int32) then pf_X6_bringAhead_b140 N nf nb x1 x6 z27.2 else pf_X6_bringAhead_b128 N nf nb (pf_X6_bringAhead_L87 N nf nb n) x1 x5 x7 z27.2) else pf_X6_bringAhead_b128 N nf nb (pf_X6_bringAhead_L87 N nf nb n) x1 x5 x7 σ))
def pf_X6_bringAhead_b43 (N : Nat) (nf : Nat) (nb : Nat) (x1 : Int32) (x2 : Int32) (y0 : Int32) (σ : St) : Option St := bI x1 (12) (lt_ (sA σ 11 (upd (σ.2.1 11) (Int32.toNatClampNeg x1) y0)) (fun σ5 => bI x1 (12) ((pf_X6_pagesIn N ((σ5.2.1 10) (Int32.toNatClampNeg x1))).bind (fun z8 => lt_ (if z8 < (x2 + y0) then z8 else (x2 + y0)) (fun v10 => lt_ (x2 + (1 : Int32)) (fun v12 => lt_ (x2 + (1 : Int32)) (fun v14 => pf_X6_bringAhead_L87 N nf nb N x1 v10 v12 v14 σ5)))))))
def pf_X6_bringAhead_b18 (N : Nat) (nf : Nat) (nb : Nat) (x1 : Int32) (x2 : Int32) (y0 : Int32) (σ : St) : Option St := if y0 = 0 then pf_X6_bringAhead_b43 N nf nb x1 x2 (1 : Int32) σ else bI x1 (12) (lt_ (if ((2 : Int32) * ((σ.2.1 11) (Int32.toNatClampNeg x1))) < (8 : Int32) then ((2 : Int32) * ((σ.2.1 11) (Int32.toNatClampNeg x1))) else (8 : Int32)) (fun v31 => pf_X6_bringAhead_b43 N nf nb x1 x2 v31 σ))
def pf_X6_bringAhead (N : Nat) (nf : Nat) (nb : Nat) (x1 : Int32) (x2 : Int32) (σ : St) : Option St := bI x1 (12) (if ((σ.2.1 12) (Int32.toNatClampNeg x1)) = x2 then pf_X6_bringAhead_b18 N nf nb x1 x2 (1 : Int32) σ else pf_X6_bringAhead_b18 N nf nb x1 x2 (0 : Int32) σ)
theorem cx_X6_bringAhead : (yX6_bringAhead.cls ≠ "java/lang/invoke/MethodHandle" ∧ yX6_bringAhead.cls ≠ "java/lang/invoke/VarHandle" ∧ (parseMethodDescriptor yX6_bringAhead.desc).map (fun d => d.parameters.length) = some 2) := by decide +kernel
set_option maxHeartbeats 4000000 in
set_option maxRecDepth 100000 in
theorem c_X6_bringAhead (l : Launch) (D : va_G) (q : Nat → ClassId) (h : Nat → Nat) (N : Nat) (nf : Nat) (nb : Nat) (x1 : Int32) (x2 : Int32) (σ : St) (z : St) (hf : pf_X6_bringAhead N nf nb x1 x2 σ = some z) : MV l yX6_bringAhead cX6_bringAhead 9 (none) 5 120 D (tyQ q) [.ref (h 0), .int x1, .int x2] (wC h q nf nb σ) (wC h q nf nb z) := by
  refine MV.of (by decide) (Nat.le_of_ble_eq_true rfl) ?_
  intro p e s m args below meth c Q A C ret ls hl
  have hl : lv_has ls 9 [(0, .ref (h 0)), (1, .int x1), (2, .int x2)] := hl
  unfold pf_X6_bringAhead at hf
  have b140 : ∀ (x1 : Int32) (x6 : Int32) (σ : St), pf_X6_bringAhead_b140 N nf nb x1 x6 σ = some z → ∀ ls : Array Slot, lv_has ls 9 [(0, .ref (h 0)), (1, .int x1), (6, .int x6)] → WG p l e (rmO 5 120) s m args below meth c D A 0 0 Q (wC h q nf nb σ) (F0 m 140 ls []) := by
    intro x1 x6 σ hf ls hl
    unfold pf_X6_bringAhead_b140 at hf
    refine s_aload_n C dX6_bringAhead_140 rfl (lv_at hl 0 rfl) ?_
    refine gC_0_1 C wd_1_213 dX6_bringAhead_141 ?_
    refine gnC_9_2 C nl_11 dX6_bringAhead_144 ?_
    refine s_iload_n C dX6_bringAhead_147 rfl (lv_at hl 1 rfl) ?_
    refine s_iload C dX6_bringAhead_148 (lv_at hl 2 rfl) ?_
    obtain ⟨hi17, hf⟩ := bI_some hf
    refine stC_12 C hi17 dX6_bringAhead_150 ?_
    obtain ⟨σ18, e19, hf⟩ := lt_some hf
    refine s_w (ws2 := (wC h q nf nb σ18)) (by rw [e19]) ?_
    clear e19
    exact ret _ _ _ dX6_bringAhead_151 (congrArg (fun σ => (wC h q nf nb σ)) (rt_1 hf))
  have b128 : ∀ (J87 : Int32 → Int32 → Int32 → Int32 → St → Option St) (hJ87 : ∀ (x1 : Int32) (x5 : Int32) (x6 : Int32) (x7 : Int32) (σ : St), J87 x1 x5 x6 x7 σ = some z → ∀ ls : Array Slot, lv_has ls 9 [(0, .ref (h 0)), (1, .int x1), (5, .int x5), (6, .int x6), (7, .int x7)] → WG p l e (rmO 5 120) s m args below meth c D A 0 0 Q (wC h q nf nb σ) (F0 m 87 ls [])) (x1 : Int32) (x5 : Int32) (x7 : Int32) (σ : St), pf_X6_bringAhead_b128 N nf nb J87 x1 x5 x7 σ = some z → ∀ ls : Array Slot, lv_has ls 9 [(0, .ref (h 0)), (1, .int x1), (5, .int x5), (7, .int x7)] → WG p l e (rmO 5 120) s m args below meth c D A 0 0 Q (wC h q nf nb σ) (F0 m 128 ls []) := by
    intro J87 hJ87 x1 x5 x7 σ hf ls hl
    unfold pf_X6_bringAhead_b128 at hf
    refine s_iload C dX6_bringAhead_128 (lv_at hl 3 rfl) ?_
    refine s_iconst (v := (1 : Int32)) C dX6_bringAhead_130 (by decide) ?_
    refine s_iadd C dX6_bringAhead_131 ?_
    obtain ⟨v25, e26, hf⟩ := lt_some hf
    refine s_eq (g2 := F0 m 132 ls [.int v25]) (by rw [e26]) ?_
    clear e26
    refine s_istore (lv2 := [(6, .int v25), (0, .ref (h 0)), (1, .int x1), (5, .int x5), (7, .int x7)]) C dX6_bringAhead_132 hl (by decide) rfl ?_
    intro ls hl
    refine s_iinc (v := (x7 + 1)) (lv2 := [(7, .int (x7 + 1)), (6, .int v25), (0, .ref (h 0)), (1, .int x1), (5, .int x5)]) C 4 dX6_bringAhead_134 hl rfl rfl (by decide) rfl ?_
    intro ls hl
    refine s_goto (tgt := 87) C dX6_bringAhead_137 (by decide) ?_
    exact hJ87 _ _ _ _ _ hf _ (lv_sub hl [2, 3, 4, 1, 0] rfl)
  have L87 : ∀ (n : Nat) (x1 : Int32) (x5 : Int32) (x6 : Int32) (x7 : Int32) (σ : St), pf_X6_bringAhead_L87 N nf nb n x1 x5 x6 x7 σ = some z → ∀ ls : Array Slot, lv_has ls 9 [(0, .ref (h 0)), (1, .int x1), (5, .int x5), (6, .int x6), (7, .int x7)] → WG p l e (rmO 5 120) s m args below meth c D A 0 0 Q (wC h q nf nb σ) (F0 m 87 ls []) := by
    intro n
    induction n with
    | zero => intro x1 x5 x6 x7 σ hf; unfold pf_X6_bringAhead_L87 at hf; cases hf
    | succ n ih =>
      intro x1 x5 x6 x7 σ hf ls hl
      unfold pf_X6_bringAhead_L87 at hf
      refine s_iload C dX6_bringAhead_87 (lv_at hl 4 rfl) ?_
      refine s_iload C dX6_bringAhead_89 (lv_at hl 2 rfl) ?_
      refine s_icmp_ge (tgt := 140) C dX6_bringAhead_91 (by decide) (fun c16 => ?_) (fun c16 => ?_)
      · replace hf := it_t c16 hf
        exact b140 _ _ _ hf _ (lv_sub hl [0, 1, 3] rfl)
      · replace hf := it_f c16 hf
        refine s_iload_n C dX6_bringAhead_94 rfl (lv_at hl 1 rfl) ?_
        refine s_iload C dX6_bringAhead_95 (lv_at hl 4 rfl) ?_
        obtain ⟨z20, h21, hf⟩ := bn_some hf
        refine s_callIS (As := [.int x1, .int x7]) (rest := []) C (c_X6_spotOf l D q (wC h q nf nb σ) N x1 x7  z20 h21) ⟨wd_2_18, wd_2_19, wd_1_1, wd_2_20, cx_X6_spotOf, Nat.le_of_ble_eq_true rfl, Nat.le_of_ble_eq_true rfl⟩ (SubW.full _ _) rfl hl.1 rfl (Nat.le_of_ble_eq_true rfl) dX6_bringAhead_97 (Nat.zero_le _) (Nat.zero_le _) ?_
        refine s_istore (lv2 := [(8, .int z20), (0, .ref (h 0)), (1, .int x1), (5, .int x5), (6, .int x6), (7, .int x7)]) C dX6_bringAhead_100 hl (by decide) rfl ?_
        intro ls hl
        refine s_aload_n C dX6_bringAhead_102 rfl (lv_at hl 1 rfl) ?_
        refine gC_0_2 C wd_1_214 dX6_bringAhead_103 ?_
        refine s_iload C dX6_bringAhead_106 (lv_at hl 0 rfl) ?_
        obtain ⟨z22, h23, hf⟩ := bn_some hf
        refine s_callIV (As := [.int z20]) (rest := []) C (c_X2_frameOf l D q h N nf nb z20 σ z22 h23) ⟨wd_2_21, wd_2_22, wd_2_23, wd_1_7, wd_2_24, cx_X2_frameOf, Nat.le_of_ble_eq_true rfl, Nat.le_of_ble_eq_true rfl⟩ 14 (ci := 2) rfl rfl rfl (SubW.full _ _) rfl hl.1 rfl (Nat.le_of_ble_eq_true rfl) dX6_bringAhead_108 (Nat.zero_le _) (Nat.zero_le _) ?_
        refine s_iconst (v := (-1 : Int32)) C dX6_bringAhead_111 (by decide) ?_
        refine s_icmp_ne (tgt := 128) C dX6_bringAhead_112 (by decide) (fun c24 => ?_) (fun c24 => ?_)
        · replace hf := it_f c24 hf
          exact b128 _ ih _ _ _ _ hf _ (lv_sub hl [1, 2, 3, 5] rfl)
        · replace hf := it_t c24 hf
          refine s_aload_n C dX6_bringAhead_115 rfl (lv_at hl 1 rfl) ?_
          refine s_iload C dX6_bringAhead_116 (lv_at hl 0 rfl) ?_
          obtain ⟨z27, h28, hf⟩ := bn_some hf
          refine s_callIV (As := [.int z20]) (rest := []) C (c_X6_bringIn l D q h N nf nb z20 σ z27 h28) ⟨wd_2_29, wd_2_31, wd_s_2, wd_1_1, wd_2_32, cx_X6_bringIn, Nat.le_of_ble_eq_true rfl, Nat.le_of_ble_eq_true rfl⟩ 0 (ci := 6) rfl rfl rfl (SubW.full _ _) rfl hl.1 rfl (Nat.le_of_ble_eq_true rfl) dX6_bringAhead_118 (Nat.zero_le _) (Nat.zero_le _) ?_
          refine s_iconst (v := (-1 : Int32)) C dX6_bringAhead_121 (by decide) ?_
          refine s_icmp_ne (tgt := 128) C dX6_bringAhead_122 (by decide) (fun c29 => ?_) (fun c29 => ?_)
          · replace hf := it_f c29 hf
            exact b128 _ ih _ _ _ _ hf _ (lv_sub hl [1, 2, 3, 5] rfl)
          · replace hf := it_t c29 hf
            refine s_goto (tgt := 140) C dX6_bringAhead_125 (by decide) ?_
            exact b140 _ _ _ hf _ (lv_sub hl [1, 2, 4] rfl)
  have b43 : ∀ (x1 : Int32) (x2 : Int32) (y0 : Int32) (σ : St), pf_X6_bringAhead_b43 N nf nb x1 x2 y0 σ = some z → ∀ ls : Array Slot, lv_has ls 9 [(0, .ref (h 0)), (1, .int x1), (2, .int x2)] → WG p l e (rmO 5 120) s m args below meth c D A 0 0 Q (wC h q nf nb σ) (F0 m 43 ls [.int y0]) := by
    intro x1 x2 y0 σ hf ls hl
    unfold pf_X6_bringAhead_b43 at hf
    refine s_istore (lv2 := [(4, .int y0), (0, .ref (h 0)), (1, .int x1), (2, .int x2)]) C dX6_bringAhead_43 hl (by decide) rfl ?_
    intro ls hl
    refine s_aload_n C dX6_bringAhead_45 rfl (lv_at hl 1 rfl) ?_
    refine gC_0_1 C wd_1_213 dX6_bringAhead_46 ?_
    refine gnC_9_1 C nl_10 dX6_bringAhead_49 ?_
    refine s_iload_n C dX6_bringAhead_52 rfl (lv_at hl 2 rfl) ?_
    refine s_iload C dX6_bringAhead_53 (lv_at hl 0 rfl) ?_
    obtain ⟨hi4, hf⟩ := bI_some hf
    refine stC_11 C hi4 dX6_bringAhead_55 ?_
    obtain ⟨σ5, e6, hf⟩ := lt_some hf
    refine s_w (ws2 := (wC h q nf nb σ5)) (by rw [e6]) ?_
    clear e6
    refine s_iload_n C dX6_bringAhead_56 rfl (lv_at hl 3 rfl) ?_
    refine s_iload C dX6_bringAhead_57 (lv_at hl 0 rfl) ?_
    refine s_iadd C dX6_bringAhead_59 ?_
    refine s_aload_n C dX6_bringAhead_60 rfl (lv_at hl 1 rfl) ?_
    refine gC_0_1 C wd_1_213 dX6_bringAhead_61 ?_
    refine gnC_9_0 C nl_9 dX6_bringAhead_64 ?_
    refine s_iload_n C dX6_bringAhead_67 rfl (lv_at hl 2 rfl) ?_
    obtain ⟨hi7, hf⟩ := bI_some hf
    refine ldC_10 C hi7 dX6_bringAhead_68 ?_
    obtain ⟨z8, h9, hf⟩ := bn_some hf
    refine s_callIS (As := [.int ((σ5.2.1 10) (Int32.toNatClampNeg x1))]) (rest := [.int (x2 + y0)]) C (c_X6_pagesIn l D q (wC h q nf nb σ5) N ((σ5.2.1 10) (Int32.toNatClampNeg x1))  z8 h9) ⟨wd_2_188, wd_2_189, wd_1_1, wd_2_190, cx_X6_pagesIn, Nat.le_of_ble_eq_true rfl, Nat.le_of_ble_eq_true rfl⟩ (SubW.full _ _) rfl hl.1 rfl (Nat.le_of_ble_eq_true rfl) dX6_bringAhead_69 (Nat.zero_le _) (Nat.zero_le _) ?_
    refine s_mmin C hl.1 dX6_bringAhead_72 wd_2_11 mm_min_s mm_in mm_min_c (Nat.le_of_ble_eq_true rfl) (Nat.le_of_ble_eq_true rfl) (Nat.zero_le _) (Nat.zero_le _) ?_
    obtain ⟨v10, e11, hf⟩ := lt_some hf
    refine s_eq (g2 := F0 m 75 ls [.int v10]) (by rw [e11]) ?_
    clear e11
    refine s_istore (lv2 := [(5, .int v10), (4, .int y0), (0, .ref (h 0)), (1, .int x1), (2, .int x2)]) C dX6_bringAhead_75 hl (by decide) rfl ?_
    intro ls hl
    refine s_iload_n C dX6_bringAhead_77 rfl (lv_at hl 4 rfl) ?_
    refine s_iconst (v := (1 : Int32)) C dX6_bringAhead_78 (by decide) ?_
    refine s_iadd C dX6_bringAhead_79 ?_
    obtain ⟨v12, e13, hf⟩ := lt_some hf
    refine s_eq (g2 := F0 m 80 ls [.int v12]) (by rw [e13]) ?_
    clear e13
    refine s_istore (lv2 := [(6, .int v12), (5, .int v10), (4, .int y0), (0, .ref (h 0)), (1, .int x1), (2, .int x2)]) C dX6_bringAhead_80 hl (by decide) rfl ?_
    intro ls hl
    refine s_iload_n C dX6_bringAhead_82 rfl (lv_at hl 5 rfl) ?_
    refine s_iconst (v := (1 : Int32)) C dX6_bringAhead_83 (by decide) ?_
    refine s_iadd C dX6_bringAhead_84 ?_
    obtain ⟨v14, e15, hf⟩ := lt_some hf
    refine s_eq (g2 := F0 m 85 ls [.int v14]) (by rw [e15]) ?_
    clear e15
    refine s_istore (lv2 := [(7, .int v14), (6, .int v12), (5, .int v10), (4, .int y0), (0, .ref (h 0)), (1, .int x1), (2, .int x2)]) C dX6_bringAhead_85 hl (by decide) rfl ?_
    intro ls hl
    exact L87 N _ _ _ _ _ hf _ (lv_sub hl [4, 5, 2, 1, 0] rfl)
  have b18 : ∀ (x1 : Int32) (x2 : Int32) (y0 : Int32) (σ : St), pf_X6_bringAhead_b18 N nf nb x1 x2 y0 σ = some z → ∀ ls : Array Slot, lv_has ls 9 [(0, .ref (h 0)), (1, .int x1), (2, .int x2)] → WG p l e (rmO 5 120) s m args below meth c D A 0 0 Q (wC h q nf nb σ) (F0 m 18 ls [.int y0]) := by
    intro x1 x2 y0 σ hf ls hl
    unfold pf_X6_bringAhead_b18 at hf
    refine s_istore_n (lv2 := [(3, .int y0), (0, .ref (h 0)), (1, .int x1), (2, .int x2)]) C dX6_bringAhead_18 rfl hl (by decide) rfl ?_
    intro ls hl
    refine s_iload_n C dX6_bringAhead_19 rfl (lv_at hl 0 rfl) ?_
    refine s_if_eq (tgt := 42) C dX6_bringAhead_20 (by decide) (fun c3 => ?_) (fun c3 => ?_)
    · replace hf := it_t c3 hf
      refine s_iconst (v := (1 : Int32)) C dX6_bringAhead_42 (by decide) ?_
      exact b43 _ _ _ _ hf _ (lv_sub hl [1, 2, 3] rfl)
    · replace hf := it_f c3 hf
      refine s_bipush (v := (8 : Int32)) C dX6_bringAhead_23 (by decide) ?_
      refine s_iconst (v := (2 : Int32)) C dX6_bringAhead_25 (by decide) ?_
      refine s_aload_n C dX6_bringAhead_26 rfl (lv_at hl 1 rfl) ?_
      refine gC_0_1 C wd_1_213 dX6_bringAhead_27 ?_
      refine gnC_9_1 C nl_10 dX6_bringAhead_30 ?_
      refine s_iload_n C dX6_bringAhead_33 rfl (lv_at hl 2 rfl) ?_
      obtain ⟨hi30, hf⟩ := bI_some hf
      refine ldC_11 C hi30 dX6_bringAhead_34 ?_
      refine s_imul C dX6_bringAhead_35 ?_
      refine s_mmin C hl.1 dX6_bringAhead_36 wd_2_11 mm_min_s mm_in mm_min_c (Nat.le_of_ble_eq_true rfl) (Nat.le_of_ble_eq_true rfl) (Nat.zero_le _) (Nat.zero_le _) ?_
      obtain ⟨v31, e32, hf⟩ := lt_some hf
      refine s_eq (g2 := F0 m 39 ls [.int v31]) (by rw [e32]) ?_
      clear e32
      refine s_goto (tgt := 43) C dX6_bringAhead_39 (by decide) ?_
      exact b43 _ _ _ _ hf _ (lv_sub hl [1, 2, 3] rfl)
  refine s_aload_n C dX6_bringAhead_0 rfl (lv_at hl 0 rfl) ?_
  refine gC_0_1 C wd_1_213 dX6_bringAhead_1 ?_
  refine gnC_9_2 C nl_11 dX6_bringAhead_4 ?_
  refine s_iload_n C dX6_bringAhead_7 rfl (lv_at hl 1 rfl) ?_
  obtain ⟨hi1, hf⟩ := bI_some hf
  refine ldC_12 C hi1 dX6_bringAhead_8 ?_
  refine s_iload_n C dX6_bringAhead_9 rfl (lv_at hl 2 rfl) ?_
  refine s_icmp_ne (tgt := 17) C dX6_bringAhead_10 (by decide) (fun c2 => ?_) (fun c2 => ?_)
  · replace hf := it_f c2 hf
    refine s_iconst (v := (0 : Int32)) C dX6_bringAhead_17 (by decide) ?_
    exact b18 _ _ _ _ hf _ (lv_sub hl [0, 1, 2] rfl)
  · replace hf := it_t c2 hf
    refine s_iconst (v := (1 : Int32)) C dX6_bringAhead_13 (by decide) ?_
    refine s_goto (tgt := 18) C dX6_bringAhead_14 (by decide) ?_
    exact b18 _ _ _ _ hf _ (lv_sub hl [0, 1, 2] rfl)
