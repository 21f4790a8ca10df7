def pf_X7_isIn (N : Nat) (x1 : Int32) (σ : St) : Option Int32 := bI x1 (3072) (if ((σ.2.1 5) (Int32.toNatClampNeg x1)) < 0 then some (0 : Int32) else some (1 : Int32))
theorem cx_X7_isIn : (yX7_isIn.cls ≠ "java/lang/invoke/MethodHandle" ∧ yX7_isIn.cls ≠ "java/lang/invoke/VarHandle" ∧ (parseMethodDescriptor yX7_isIn.desc).map (fun d => d.parameters.length) = some 1) := by decide +kernel
set_option maxHeartbeats 4000000 in
set_option maxRecDepth 100000 in
theorem c_X7_isIn (l : Launch) (D : va_G) (q : Nat → ClassId) (h : Nat → Nat) (N : Nat) (x1 : Int32) (σ : St) (z : Int32) (hf : pf_X7_isIn N x1 σ = some z) : MI l yX7_isIn cX7_isIn 2 (some .boolean) 0 0 D (tyQ q) [.ref (h 0), .int x1] (wM h q σ) (wM h q σ) z := by
  refine MI.of (by decide) (Nat.le_of_ble_eq_true rfl) ?_
  intro p e s m args below meth c Q A C ret ls hl
  have hl : lv_has ls 2 [(0, .ref (h 0)), (1, .int x1)] := hl
  unfold pf_X7_isIn at hf
  refine s_aload_n C dX7_isIn_0 rfl (lv_at hl 0 rfl) ?_
  refine gM_0_6 C wd_3_145 dX7_isIn_1 ?_
  refine s_iload_n C dX7_isIn_4 rfl (lv_at hl 1 rfl) ?_
  obtain ⟨hi1, hf⟩ := bI_some hf
  refine ldM_5 C hi1 dX7_isIn_5 ?_
  refine s_if_lt (tgt := 13) C dX7_isIn_6 (by decide) (fun c2 => ?_) (fun c2 => ?_)
  · replace hf := it_t c2 hf
    refine s_iconst (v := (0 : Int32)) C dX7_isIn_13 (by decide) ?_
    exact ret _ _ _ _ dX7_isIn_14 rfl (rt_1 hf) rfl
  · replace hf := it_f c2 hf
    refine s_iconst (v := (1 : Int32)) C dX7_isIn_9 (by decide) ?_
    refine s_goto (tgt := 14) C dX7_isIn_10 (by decide) ?_
    exact ret _ _ _ _ dX7_isIn_14 rfl (rt_1 hf) rfl
def pf_X7_placeOf_b26 (N : Nat) (σ : St) (J2 : Int32 → Int32 → Option Int32) (x1 : Int32) (x2 : Int32) (y0 : Int32) : Option Int32 := if y0 = x1 then some x2 else J2 x1 (x2 + 1) 
def pf_X7_placeOf_L2 (N : Nat) (σ : St) : Nat → Int32 → Int32 → Option Int32
  | 0, _, _ => none
  | n + 1, x1, x2 => bI x1 (3072) (if ((σ.2.1 11) (Int32.toNatClampNeg x1)) = 0 then bI x2 (65) (pf_X7_placeOf_b26 N σ (pf_X7_placeOf_L2 N σ n) x1 x2 ((σ.2.1 13) (Int32.toNatClampNeg x2)) ) else bI x2 (65) (pf_X7_placeOf_b26 N σ (pf_X7_placeOf_L2 N σ n) x1 x2 ((σ.2.1 12) (Int32.toNatClampNeg x2)) ))
def pf_X7_placeOf (N : Nat) (x1 : Int32) (σ : St) : Option Int32 := pf_X7_placeOf_L2 N σ N x1 (0 : Int32) 
theorem cx_X7_placeOf : (yX7_placeOf.cls ≠ "java/lang/invoke/MethodHandle" ∧ yX7_placeOf.cls ≠ "java/lang/invoke/VarHandle" ∧ (parseMethodDescriptor yX7_placeOf.desc).map (fun d => d.parameters.length) = some 1) := by decide +kernel
set_option maxHeartbeats 4000000 in
set_option maxRecDepth 100000 in
theorem c_X7_placeOf (l : Launch) (D : va_G) (q : Nat → ClassId) (h : Nat → Nat) (N : Nat) (x1 : Int32) (σ : St) (z : Int32) (hf : pf_X7_placeOf N x1 σ = some z) : MI l yX7_placeOf cX7_placeOf 3 (some .int) 0 0 D (tyQ q) [.ref (h 0), .int x1] (wM h q σ) (wM h q σ) z := by
  refine MI.of (by decide) (Nat.le_of_ble_eq_true rfl) ?_
  intro p e s m args below meth c Q A C ret ls hl
  have hl : lv_has ls 3 [(0, .ref (h 0)), (1, .int x1)] := hl
  unfold pf_X7_placeOf at hf
  have b26 : ∀ (J2 : Int32 → Int32 → Option Int32) (hJ2 : ∀ (x1 : Int32) (x2 : Int32), J2 x1 x2 = some z → ∀ ls : Array Slot, lv_has ls 3 [(0, .ref (h 0)), (1, .int x1), (2, .int x2)] → WG p l e (rmO 0 0) s m args below meth c D A 0 0 Q (wM h q σ) (F0 m 2 ls [])) (x1 : Int32) (x2 : Int32) (y0 : Int32), pf_X7_placeOf_b26 N σ J2 x1 x2 y0 = some z → ∀ ls : Array Slot, lv_has ls 3 [(0, .ref (h 0)), (1, .int x1), (2, .int x2)] → WG p l e (rmO 0 0) s m args below meth c D A 0 0 Q (wM h q σ) (F0 m 26 ls [.int y0]) := by
    intro J2 hJ2 x1 x2 y0 hf ls hl
    unfold pf_X7_placeOf_b26 at hf
    refine s_iload_n C dX7_placeOf_26 rfl (lv_at hl 1 rfl) ?_
    refine s_icmp_eq (tgt := 36) C dX7_placeOf_27 (by decide) (fun c4 => ?_) (fun c4 => ?_)
    · replace hf := it_t c4 hf
      refine s_iload_n C dX7_placeOf_36 rfl (lv_at hl 2 rfl) ?_
      exact ret _ _ _ _ dX7_placeOf_37 rfl (rt_1 hf) rfl
    · replace hf := it_f c4 hf
      refine s_iinc (v := (x2 + 1)) (lv2 := [(2, .int (x2 + 1)), (0, .ref (h 0)), (1, .int x1)]) C 2 dX7_placeOf_30 hl rfl rfl (by decide) rfl ?_
      intro ls hl
      refine s_goto (tgt := 2) C dX7_placeOf_33 (by decide) ?_
      exact hJ2 _ _ hf _ (lv_sub hl [1, 2, 0] rfl)
  have L2 : ∀ (n : Nat) (x1 : Int32) (x2 : Int32), pf_X7_placeOf_L2 N σ n x1 x2 = some z → ∀ ls : Array Slot, lv_has ls 3 [(0, .ref (h 0)), (1, .int x1), (2, .int x2)] → WG p l e (rmO 0 0) s m args below meth c D A 0 0 Q (wM h q σ) (F0 m 2 ls []) := by
    intro n
    induction n with
    | zero => intro x1 x2 hf; unfold pf_X7_placeOf_L2 at hf; cases hf
    | succ n ih =>
      intro x1 x2 hf ls hl
      unfold pf_X7_placeOf_L2 at hf
      refine s_aload_n C dX7_placeOf_2 rfl (lv_at hl 0 rfl) ?_
      refine gM_0_12 C wd_3_151 dX7_placeOf_3 ?_
      refine s_iload_n C dX7_placeOf_6 rfl (lv_at hl 1 rfl) ?_
      obtain ⟨hi1, hf⟩ := bI_some hf
      refine ldM_11 C hi1 dX7_placeOf_7 ?_
      refine s_if_eq (tgt := 20) C dX7_placeOf_8 (by decide) (fun c2 => ?_) (fun c2 => ?_)
      · replace hf := it_t c2 hf
        refine s_aload_n C dX7_placeOf_20 rfl (lv_at hl 0 rfl) ?_
        refine gM_0_14 C wd_3_153 dX7_placeOf_21 ?_
        refine s_iload_n C dX7_placeOf_24 rfl (lv_at hl 2 rfl) ?_
        obtain ⟨hi3, hf⟩ := bI_some hf
        refine ldM_13 C hi3 dX7_placeOf_25 ?_
        exact b26 _ ih _ _ _ hf _ (lv_sub hl [0, 1, 2] rfl)
      · replace hf := it_f c2 hf
        refine s_aload_n C dX7_placeOf_11 rfl (lv_at hl 0 rfl) ?_
        refine gM_0_13 C wd_3_152 dX7_placeOf_12 ?_
        refine s_iload_n C dX7_placeOf_15 rfl (lv_at hl 2 rfl) ?_
        obtain ⟨hi5, hf⟩ := bI_some hf
        refine ldM_12 C hi5 dX7_placeOf_16 ?_
        refine s_goto (tgt := 26) C dX7_placeOf_17 (by decide) ?_
        exact b26 _ ih _ _ _ hf _ (lv_sub hl [0, 1, 2] rfl)
  refine s_iconst (v := (0 : Int32)) C dX7_placeOf_0 (by decide) ?_
  refine s_istore_n (lv2 := [(2, .int (0 : Int32)), (0, .ref (h 0)), (1, .int x1)]) C dX7_placeOf_1 rfl hl (by decide) rfl ?_
  intro ls hl
  exact L2 N _ _ hf _ (lv_sub hl [1, 2, 0] rfl)
def pf_X7_fromList_L70 (N : Nat) : Nat → Int32 → St → Option St
  | 0, _, _ => none
  | n + 1, x3, σ => if (σ.1 3) ≤ x3 then some σ else bI (x3 + (1 : Int32)) (65) (bI x3 (65) (lt_ (sA σ 13 (upd (σ.2.1 13) (Int32.toNatClampNeg x3) ((σ.2.1 13) (Int32.toNatClampNeg (x3 + (1 : Int32)))))) (fun σ10 => (pf_X7_fromList_L70 N n) (x3 + 1) σ10)))
def pf_X7_fromList_L27 (N : Nat) : Nat → Int32 → St → Option St
  | 0, _, _ => none
  | n + 1, x3, σ => if (σ.1 2) ≤ x3 then some σ else bI (x3 + (1 : Int32)) (65) (bI x3 (65) (lt_ (sA σ 12 (upd (σ.2.1 12) (Int32.toNatClampNeg x3) ((σ.2.1 12) (Int32.toNatClampNeg (x3 + (1 : Int32)))))) (fun σ17 => (pf_X7_fromList_L27 N n) (x3 + 1) σ17)))
def pf_X7_fromList (N : Nat) (x1 : Int32) (σ : St) : Option St := (pf_X7_placeOf N x1 σ).bind (fun z1 => bI x1 (3072) (if ((σ.2.1 11) (Int32.toNatClampNeg x1)) = 0 then lt_ (sG σ 3 ((σ.1 3) - (1 : Int32))) (fun σ5 => pf_X7_fromList_L70 N N z1 σ5) else lt_ (sG σ 2 ((σ.1 2) - (1 : Int32))) (fun σ12 => pf_X7_fromList_L27 N N z1 σ12)))
theorem cx_X7_fromList : (yX7_fromList.cls ≠ "java/lang/invoke/MethodHandle" ∧ yX7_fromList.cls ≠ "java/lang/invoke/VarHandle" ∧ (parseMethodDescriptor yX7_fromList.desc).map (fun d => d.parameters.length) = some 1) := by decide +kernel
set_option maxHeartbeats 4000000 in
set_option maxRecDepth 100000 in
theorem c_X7_fromList (l : Launch) (D : va_G) (q : Nat → ClassId) (h : Nat → Nat) (N : Nat) (x1 : Int32) (σ : St) (z : St) (hf : pf_X7_fromList N x1 σ = some z) : MV l yX7_fromList cX7_fromList 4 (none) 1 22 D (tyQ q) [.ref (h 0), .int x1] (wM h q σ) (wM h q z) := by
  refine MV.of (by decide) (Nat.le_of_ble_eq_true rfl) ?_
  intro p e s m args below meth c Q A C ret ls hl
  have hl : lv_has ls 4 [(0, .ref (h 0)), (1, .int x1)] := hl
  unfold pf_X7_fromList at hf
  have L70 : ∀ (n : Nat) (x3 : Int32) (σ : St), pf_X7_fromList_L70 N n x3 σ = some z → ∀ ls : Array Slot, lv_has ls 4 [(0, .ref (h 0)), (3, .int x3)] → WG p l e (rmO 1 22) s m args below meth c D A 0 0 Q (wM h q σ) (F0 m 70 ls []) := by
    intro n
    induction n with
    | zero => intro x3 σ hf; unfold pf_X7_fromList_L70 at hf; cases hf
    | succ n ih =>
      intro x3 σ hf ls hl
      unfold pf_X7_fromList_L70 at hf
      refine s_iload_n C dX7_fromList_70 rfl (lv_at hl 1 rfl) ?_
      refine s_aload_n C dX7_fromList_71 rfl (lv_at hl 0 rfl) ?_
      refine gM_0_16 C wd_3_155 dX7_fromList_72 ?_
      refine s_icmp_ge (tgt := 98) C dX7_fromList_75 (by decide) (fun c7 => ?_) (fun c7 => ?_)
      · replace hf := it_t c7 hf
        exact ret _ _ _ dX7_fromList_98 (congrArg (fun σ => (wM h q σ)) (rt_1 hf))
      · replace hf := it_f c7 hf
        refine s_aload_n C dX7_fromList_78 rfl (lv_at hl 0 rfl) ?_
        refine gM_0_14 C wd_3_153 dX7_fromList_79 ?_
        refine s_iload_n C dX7_fromList_82 rfl (lv_at hl 1 rfl) ?_
        refine s_aload_n C dX7_fromList_83 rfl (lv_at hl 0 rfl) ?_
        refine gM_0_14 C wd_3_153 dX7_fromList_84 ?_
        refine s_iload_n C dX7_fromList_87 rfl (lv_at hl 1 rfl) ?_
        refine s_iconst (v := (1 : Int32)) C dX7_fromList_88 (by decide) ?_
        refine s_iadd C dX7_fromList_89 ?_
        obtain ⟨hi8, hf⟩ := bI_some hf
        refine ldM_13 C hi8 dX7_fromList_90 ?_
        obtain ⟨hi9, hf⟩ := bI_some hf
        refine stM_13 C hi9 dX7_fromList_91 ?_
        obtain ⟨σ10, e11, hf⟩ := lt_some hf
        refine s_w (ws2 := (wM h q σ10)) (by rw [e11]) ?_
        clear e11
        refine s_iinc (v := (x3 + 1)) (lv2 := [(3, .int (x3 + 1)), (0, .ref (h 0))]) C 1 dX7_fromList_92 hl rfl rfl (by decide) rfl ?_
        intro ls hl
        refine s_goto (tgt := 70) C dX7_fromList_95 (by decide) ?_
        exact ih _ _ hf _ (lv_sub hl [1, 0] rfl)
  have L27 : ∀ (n : Nat) (x3 : Int32) (σ : St), pf_X7_fromList_L27 N n x3 σ = some z → ∀ ls : Array Slot, lv_has ls 4 [(0, .ref (h 0)), (3, .int x3)] → WG p l e (rmO 1 22) s m args below meth c D A 0 0 Q (wM h q σ) (F0 m 27 ls []) := by
    intro n
    induction n with
    | zero => intro x3 σ hf; unfold pf_X7_fromList_L27 at hf; cases hf
    | succ n ih =>
      intro x3 σ hf ls hl
      unfold pf_X7_fromList_L27 at hf
      refine s_iload_n C dX7_fromList_27 rfl (lv_at hl 1 rfl) ?_
      refine s_aload_n C dX7_fromList_28 rfl (lv_at hl 0 rfl) ?_
      refine gM_0_15 C wd_3_154 dX7_fromList_29 ?_
      refine s_icmp_ge (tgt := 55) C dX7_fromList_32 (by decide) (fun c14 => ?_) (fun c14 => ?_)
      · replace hf := it_t c14 hf
        refine s_goto (tgt := 98) C dX7_fromList_55 (by decide) ?_
        exact ret _ _ _ dX7_fromList_98 (congrArg (fun σ => (wM h q σ)) (rt_1 hf))
      · replace hf := it_f c14 hf
        refine s_aload_n C dX7_fromList_35 rfl (lv_at hl 0 rfl) ?_
        refine gM_0_13 C wd_3_152 dX7_fromList_36 ?_
        refine s_iload_n C dX7_fromList_39 rfl (lv_at hl 1 rfl) ?_
        refine s_aload_n C dX7_fromList_40 rfl (lv_at hl 0 rfl) ?_
        refine gM_0_13 C wd_3_152 dX7_fromList_41 ?_
        refine s_iload_n C dX7_fromList_44 rfl (lv_at hl 1 rfl) ?_
        refine s_iconst (v := (1 : Int32)) C dX7_fromList_45 (by decide) ?_
        refine s_iadd C dX7_fromList_46 ?_
        obtain ⟨hi15, hf⟩ := bI_some hf
        refine ldM_12 C hi15 dX7_fromList_47 ?_
        obtain ⟨hi16, hf⟩ := bI_some hf
        refine stM_12 C hi16 dX7_fromList_48 ?_
        obtain ⟨σ17, e18, hf⟩ := lt_some hf
        refine s_w (ws2 := (wM h q σ17)) (by rw [e18]) ?_
        clear e18
        refine s_iinc (v := (x3 + 1)) (lv2 := [(3, .int (x3 + 1)), (0, .ref (h 0))]) C 1 dX7_fromList_49 hl rfl rfl (by decide) rfl ?_
        intro ls hl
        refine s_goto (tgt := 27) C dX7_fromList_52 (by decide) ?_
        exact ih _ _ hf _ (lv_sub hl [1, 0] rfl)
  refine s_aload_n C dX7_fromList_0 rfl (lv_at hl 0 rfl) ?_
  refine s_iload_n C dX7_fromList_1 rfl (lv_at hl 1 rfl) ?_
  obtain ⟨z1, h2, hf⟩ := bn_some hf
  refine s_callIV (As := [.int x1]) (rest := []) C (c_X7_placeOf l D q h N x1 σ z1 h2) ⟨wd_4_33, wd_4_35, wd_s_28, wd_1_10, wd_4_36, cx_X7_placeOf, Nat.le_of_ble_eq_true rfl, Nat.le_of_ble_eq_true rfl⟩ 0 (ci := 7) rfl rfl rfl (SubW.full _ _) rfl hl.1 rfl (Nat.le_of_ble_eq_true rfl) dX7_fromList_2 (Nat.zero_le _) (Nat.zero_le _) ?_
  refine s_istore_n (lv2 := [(2, .int z1), (0, .ref (h 0)), (1, .int x1)]) C dX7_fromList_5 rfl hl (by decide) rfl ?_
  intro ls hl
  refine s_aload_n C dX7_fromList_6 rfl (lv_at hl 1 rfl) ?_
  refine gM_0_12 C wd_3_151 dX7_fromList_7 ?_
  refine s_iload_n C dX7_fromList_10 rfl (lv_at hl 2 rfl) ?_
  obtain ⟨hi3, hf⟩ := bI_some hf
  refine ldM_11 C hi3 dX7_fromList_11 ?_
  refine s_if_eq (tgt := 58) C dX7_fromList_12 (by decide) (fun c4 => ?_) (fun c4 => ?_)
  · replace hf := it_t c4 hf
    refine s_aload_n C dX7_fromList_58 rfl (lv_at hl 1 rfl) ?_
    refine s_dup C dX7_fromList_59 rfl ?_
    refine gM_0_16 C wd_3_155 dX7_fromList_60 ?_
    refine s_iconst (v := (1 : Int32)) C dX7_fromList_63 (by decide) ?_
    refine s_isub C dX7_fromList_64 ?_
    refine uM_0_16 C wd_3_155 dX7_fromList_65 ?_
    obtain ⟨σ5, e6, hf⟩ := lt_some hf
    refine s_w (ws2 := (wM h q σ5)) (by rw [e6]) ?_
    clear e6
    refine s_iload_n C dX7_fromList_68 rfl (lv_at hl 0 rfl) ?_
    refine s_istore_n (lv2 := [(3, .int z1), (2, .int z1), (0, .ref (h 0)), (1, .int x1)]) C dX7_fromList_69 rfl hl (by decide) rfl ?_
    intro ls hl
    exact L70 N _ _ hf _ (lv_sub hl [2, 0] rfl)
  · replace hf := it_f c4 hf
    refine s_aload_n C dX7_fromList_15 rfl (lv_at hl 1 rfl) ?_
    refine s_dup C dX7_fromList_16 rfl ?_
    refine gM_0_15 C wd_3_154 dX7_fromList_17 ?_
    refine s_iconst (v := (1 : Int32)) C dX7_fromList_20 (by decide) ?_
    refine s_isub C dX7_fromList_21 ?_
    refine uM_0_15 C wd_3_154 dX7_fromList_22 ?_
    obtain ⟨σ12, e13, hf⟩ := lt_some hf
    refine s_w (ws2 := (wM h q σ12)) (by rw [e13]) ?_
    clear e13
    refine s_iload_n C dX7_fromList_25 rfl (lv_at hl 0 rfl) ?_
    refine s_istore_n (lv2 := [(3, .int z1), (2, .int z1), (0, .ref (h 0)), (1, .int x1)]) C dX7_fromList_26 rfl hl (by decide) rfl ?_
    intro ls hl
    exact L27 N _ _ hf _ (lv_sub hl [2, 0] rfl)
def pf_X7_toFront_L65 (N : Nat) : Nat → Int32 → Int32 → St → Option St
  | 0, _, _, _ => none
  | n + 1, x1, x3, σ => if x3 ≤ 0 then bI (0 : Int32) (65) (lt_ (sA σ 13 (upd (σ.2.1 13) (Int32.toNatClampNeg (0 : Int32)) x1)) (fun σ7 => lt_ (sG σ7 3 ((σ7.1 3) + (1 : Int32))) (fun σ9 => some σ9))) else bI (x3 - (1 : Int32)) (65) (bI x3 (65) (lt_ (sA σ 13 (upd (σ.2.1 13) (Int32.toNatClampNeg x3) ((σ.2.1 13) (Int32.toNatClampNeg (x3 - (1 : Int32)))))) (fun σ13 => (pf_X7_toFront_L65 N n) x1 (x3 + (-1)) σ13)))
def pf_X7_toFront_L16 (N : Nat) : Nat → Int32 → Int32 → St → Option St
  | 0, _, _, _ => none
  | n + 1, x1, x3, σ => if x3 ≤ 0 then bI (0 : Int32) (65) (lt_ (sA σ 12 (upd (σ.2.1 12) (Int32.toNatClampNeg (0 : Int32)) x1)) (fun σ17 => lt_ (sG σ17 2 ((σ17.1 2) + (1 : Int32))) (fun σ19 => some σ19))) else bI (x3 - (1 : Int32)) (65) (bI x3 (65) (lt_ (sA σ 12 (upd (σ.2.1 12) (Int32.toNatClampNeg x3) ((σ.2.1 12) (Int32.toNatClampNeg (x3 - (1 : Int32)))))) (fun σ23 => (pf_X7_toFront_L16 N n) x1 (x3 + (-1)) σ23)))
def pf_X7_toFront (N : Nat) (x1 : Int32) (x2 : Int32) (σ : St) : Option St := bI x1 (3072) (lt_ (sA σ 11 (upd (σ.2.1 11) (Int32.toNatClampNeg x1) (vp_nar .boolean x2))) (fun σ2 => if x2 = 0 then pf_X7_toFront_L65 N N x1 (σ2.1 3) σ2 else pf_X7_toFront_L16 N N x1 (σ2.1 2) σ2))
theorem cx_X7_toFront : (yX7_toFront.cls ≠ "java/lang/invoke/MethodHandle" ∧ yX7_toFront.cls ≠ "java/lang/invoke/VarHandle" ∧ (parseMethodDescriptor yX7_toFront.desc).map (fun d => d.parameters.length) = some 2) := by decide +kernel
set_option maxHeartbeats 4000000 in
set_option maxRecDepth 100000 in
theorem c_X7_toFront (l : Launch) (D : va_G) (q : Nat → ClassId) (h : Nat → Nat) (N : Nat) (x1 : Int32) (x2 : Int32) (σ : St) (z : St) (hf : pf_X7_toFront N x1 x2 σ = some z) : MV l yX7_toFront cX7_toFront 4 (none) 0 0 D (tyQ q) [.ref (h 0), .int x1, .int x2] (wM h q σ) (wM h q z) := by
  refine MV.of (by decide) (Nat.le_of_ble_eq_true rfl) ?_
  intro p e s m args below meth c Q A C ret ls hl
  have hl : lv_has ls 4 [(0, .ref (h 0)), (1, .int x1), (2, .int x2)] := hl
  unfold pf_X7_toFront at hf
  have L65 : ∀ (n : Nat) (x1 : Int32) (x3 : Int32) (σ : St), pf_X7_toFront_L65 N n x1 x3 σ = some z → ∀ ls : Array Slot, lv_has ls 4 [(0, .ref (h 0)), (1, .int x1), (3, .int x3)] → WG p l e (rmO 0 0) s m args below meth c D A 0 0 Q (wM h q σ) (F0 m 65 ls []) := by
    intro n
    induction n with
    | zero => intro x1 x3 σ hf; unfold pf_X7_toFront_L65 at hf; cases hf
    | succ n ih =>
      intro x1 x3 σ hf ls hl
      unfold pf_X7_toFront_L65 at hf
      refine s_iload_n C dX7_toFront_65 rfl (lv_at hl 2 rfl) ?_
      refine s_if_le (tgt := 89) C dX7_toFront_66 (by decide) (fun c5 => ?_) (fun c5 => ?_)
      · replace hf := it_t c5 hf
        refine s_aload_n C dX7_toFront_89 rfl (lv_at hl 0 rfl) ?_
        refine gM_0_14 C wd_3_153 dX7_toFront_90 ?_
        refine s_iconst (v := (0 : Int32)) C dX7_toFront_93 (by decide) ?_
        refine s_iload_n C dX7_toFront_94 rfl (lv_at hl 1 rfl) ?_
        obtain ⟨hi6, hf⟩ := bI_some hf
        refine stM_13 C hi6 dX7_toFront_95 ?_
        obtain ⟨σ7, e8, hf⟩ := lt_some hf
        refine s_w (ws2 := (wM h q σ7)) (by rw [e8]) ?_
        clear e8
        refine s_aload_n C dX7_toFront_96 rfl (lv_at hl 0 rfl) ?_
        refine s_dup C dX7_toFront_97 rfl ?_
        refine gM_0_16 C wd_3_155 dX7_toFront_98 ?_
        refine s_iconst (v := (1 : Int32)) C dX7_toFront_101 (by decide) ?_
        refine s_iadd C dX7_toFront_102 ?_
        refine uM_0_16 C wd_3_155 dX7_toFront_103 ?_
        obtain ⟨σ9, e10, hf⟩ := lt_some hf
        refine s_w (ws2 := (wM h q σ9)) (by rw [e10]) ?_
        clear e10
        exact ret _ _ _ dX7_toFront_106 (congrArg (fun σ => (wM h q σ)) (rt_1 hf))
      · replace hf := it_f c5 hf
        refine s_aload_n C dX7_toFront_69 rfl (lv_at hl 0 rfl) ?_
        refine gM_0_14 C wd_3_153 dX7_toFront_70 ?_
        refine s_iload_n C dX7_toFront_73 rfl (lv_at hl 2 rfl) ?_
        refine s_aload_n C dX7_toFront_74 rfl (lv_at hl 0 rfl) ?_
        refine gM_0_14 C wd_3_153 dX7_toFront_75 ?_
        refine s_iload_n C dX7_toFront_78 rfl (lv_at hl 2 rfl) ?_
        refine s_iconst (v := (1 : Int32)) C dX7_toFront_79 (by decide) ?_
        refine s_isub C dX7_toFront_80 ?_
        obtain ⟨hi11, hf⟩ := bI_some hf
        refine ldM_13 C hi11 dX7_toFront_81 ?_
        obtain ⟨hi12, hf⟩ := bI_some hf
        refine stM_13 C hi12 dX7_toFront_82 ?_
        obtain ⟨σ13, e14, hf⟩ := lt_some hf
        refine s_w (ws2 := (wM h q σ13)) (by rw [e14]) ?_
        clear e14
        refine s_iinc (v := (x3 + (-1))) (lv2 := [(3, .int (x3 + (-1))), (0, .ref (h 0)), (1, .int x1)]) C 2 dX7_toFront_83 hl rfl rfl (by decide) rfl ?_
        intro ls hl
        refine s_goto (tgt := 65) C dX7_toFront_86 (by decide) ?_
        exact ih _ _ _ hf _ (lv_sub hl [1, 2, 0] rfl)
  have L16 : ∀ (n : Nat) (x1 : Int32) (x3 : Int32) (σ : St), pf_X7_toFront_L16 N n x1 x3 σ = some z → ∀ ls : Array Slot, lv_has ls 4 [(0, .ref (h 0)), (1, .int x1), (3, .int x3)] → WG p l e (rmO 0 0) s m args below meth c D A 0 0 Q (wM h q σ) (F0 m 16 ls []) := by
    intro n
    induction n with
    | zero => intro x1 x3 σ hf; unfold pf_X7_toFront_L16 at hf; cases hf
    | succ n ih =>
      intro x1 x3 σ hf ls hl
      unfold pf_X7_toFront_L16 at hf
      refine s_iload_n C dX7_toFront_16 rfl (lv_at hl 2 rfl) ?_
      refine s_if_le (tgt := 40) C dX7_toFront_17 (by decide) (fun c15 => ?_) (fun c15 => ?_)
      · replace hf := it_t c15 hf
        refine s_aload_n C dX7_toFront_40 rfl (lv_at hl 0 rfl) ?_
        refine gM_0_13 C wd_3_152 dX7_toFront_41 ?_
        refine s_iconst (v := (0 : Int32)) C dX7_toFront_44 (by decide) ?_
        refine s_iload_n C dX7_toFront_45 rfl (lv_at hl 1 rfl) ?_
        obtain ⟨hi16, hf⟩ := bI_some hf
        refine stM_12 C hi16 dX7_toFront_46 ?_
        obtain ⟨σ17, e18, hf⟩ := lt_some hf
        refine s_w (ws2 := (wM h q σ17)) (by rw [e18]) ?_
        clear e18
        refine s_aload_n C dX7_toFront_47 rfl (lv_at hl 0 rfl) ?_
        refine s_dup C dX7_toFront_48 rfl ?_
        refine gM_0_15 C wd_3_154 dX7_toFront_49 ?_
        refine s_iconst (v := (1 : Int32)) C dX7_toFront_52 (by decide) ?_
        refine s_iadd C dX7_toFront_53 ?_
        refine uM_0_15 C wd_3_154 dX7_toFront_54 ?_
        obtain ⟨σ19, e20, hf⟩ := lt_some hf
        refine s_w (ws2 := (wM h q σ19)) (by rw [e20]) ?_
        clear e20
        refine s_goto (tgt := 106) C dX7_toFront_57 (by decide) ?_
        exact ret _ _ _ dX7_toFront_106 (congrArg (fun σ => (wM h q σ)) (rt_1 hf))
      · replace hf := it_f c15 hf
        refine s_aload_n C dX7_toFront_20 rfl (lv_at hl 0 rfl) ?_
        refine gM_0_13 C wd_3_152 dX7_toFront_21 ?_
        refine s_iload_n C dX7_toFront_24 rfl (lv_at hl 2 rfl) ?_
        refine s_aload_n C dX7_toFront_25 rfl (lv_at hl 0 rfl) ?_
        refine gM_0_13 C wd_3_152 dX7_toFront_26 ?_
        refine s_iload_n C dX7_toFront_29 rfl (lv_at hl 2 rfl) ?_
        refine s_iconst (v := (1 : Int32)) C dX7_toFront_30 (by decide) ?_
        refine s_isub C dX7_toFront_31 ?_
        obtain ⟨hi21, hf⟩ := bI_some hf
        refine ldM_12 C hi21 dX7_toFront_32 ?_
        obtain ⟨hi22, hf⟩ := bI_some hf
        refine stM_12 C hi22 dX7_toFront_33 ?_
        obtain ⟨σ23, e24, hf⟩ := lt_some hf
        refine s_w (ws2 := (wM h q σ23)) (by rw [e24]) ?_
        clear e24
        refine s_iinc (v := (x3 + (-1))) (lv2 := [(3, .int (x3 + (-1))), (0, .ref (h 0)), (1, .int x1)]) C 2 dX7_toFront_34 hl rfl rfl (by decide) rfl ?_
        intro ls hl
        refine s_goto (tgt := 16) C dX7_toFront_37 (by decide) ?_
        exact ih _ _ _ hf _ (lv_sub hl [1, 2, 0] rfl)
  refine s_aload_n C dX7_toFront_0 rfl (lv_at hl 0 rfl) ?_
  refine gM_0_12 C wd_3_151 dX7_toFront_1 ?_
  refine s_iload_n C dX7_toFront_4 rfl (lv_at hl 1 rfl) ?_
  refine s_iload_n C dX7_toFront_5 rfl (lv_at hl 2 rfl) ?_
  obtain ⟨hi1, hf⟩ := bI_some hf
  refine stM_11 C hi1 dX7_toFront_6 ?_
  obtain ⟨σ2, e3, hf⟩ := lt_some hf
  refine s_w (ws2 := (wM h q σ2)) (by rw [e3]) ?_
  clear e3
  refine s_iload_n C dX7_toFront_7 rfl (lv_at hl 2 rfl) ?_
  refine s_if_eq (tgt := 60) C dX7_toFront_8 (by decide) (fun c4 => ?_) (fun c4 => ?_)
  · replace hf := it_t c4 hf
    refine s_aload_n C dX7_toFront_60 rfl (lv_at hl 0 rfl) ?_
    refine gM_0_16 C wd_3_155 dX7_toFront_61 ?_
    refine s_istore_n (lv2 := [(3, .int (σ2.1 3)), (0, .ref (h 0)), (1, .int x1), (2, .int x2)]) C dX7_toFront_64 rfl hl (by decide) rfl ?_
    intro ls hl
    exact L65 N _ _ _ hf _ (lv_sub hl [1, 2, 0] rfl)
  · replace hf := it_f c4 hf
    refine s_aload_n C dX7_toFront_11 rfl (lv_at hl 0 rfl) ?_
    refine gM_0_15 C wd_3_154 dX7_toFront_12 ?_
    refine s_istore_n (lv2 := [(3, .int (σ2.1 2)), (0, .ref (h 0)), (1, .int x1), (2, .int x2)]) C dX7_toFront_15 rfl hl (by decide) rfl ?_
    intro ls hl
    exact L16 N _ _ _ hf _ (lv_sub hl [1, 2, 0] rfl)
def pf_X7_move (N : Nat) (x1 : Int32) (x2 : Int32) (σ : St) : Option St := (pf_X7_fromList N x1 σ).bind (fun z1 => (pf_X7_toFront N x1 x2 z1).bind (fun z3 => some z3))
theorem cx_X7_move : (yX7_move.cls ≠ "java/lang/invoke/MethodHandle" ∧ yX7_move.cls ≠ "java/lang/invoke/VarHandle" ∧ (parseMethodDescriptor yX7_move.desc).map (fun d => d.parameters.length) = some 2) := by decide +kernel
set_option maxHeartbeats 4000000 in
set_option maxRecDepth 100000 in
theorem c_X7_move (l : Launch) (D : va_G) (q : Nat → ClassId) (h : Nat → Nat) (N : Nat) (x1 : Int32) (x2 : Int32) (σ : St) (z : St) (hf : pf_X7_move N x1 x2 σ = some z) : MV l yX7_move cX7_move 3 (none) 2 45 D (tyQ q) [.ref (h 0), .int x1, .int x2] (wM h q σ) (wM h q z) := by
  refine MV.of (by decide) (Nat.le_of_ble_eq_true rfl) ?_
  intro p e s m args below meth c Q A C ret ls hl
  have hl : lv_has ls 3 [(0, .ref (h 0)), (1, .int x1), (2, .int x2)] := hl
  unfold pf_X7_move at hf
  refine s_aload_n C dX7_move_0 rfl (lv_at hl 0 rfl) ?_
  refine s_iload_n C dX7_move_1 rfl (lv_at hl 1 rfl) ?_
  obtain ⟨z1, h2, hf⟩ := bn_some hf
  refine s_callVV (As := [.int x1]) (rest := []) C (c_X7_fromList l D q h N x1 σ z1 h2) ⟨wd_4_29, wd_4_31, wd_s_27, wd_1_10, wd_4_32, cx_X7_fromList, Nat.le_of_ble_eq_true rfl, Nat.le_of_ble_eq_true rfl⟩ 0 (ci := 7) rfl rfl rfl (SubW.full _ _) rfl hl.1 rfl (Nat.le_of_ble_eq_true rfl) dX7_move_2 (Nat.zero_le _) (Nat.zero_le _) ?_
  refine s_aload_n C dX7_move_5 rfl (lv_at hl 0 rfl) ?_
  refine s_iload_n C dX7_move_6 rfl (lv_at hl 1 rfl) ?_
  refine s_iload_n C dX7_move_7 rfl (lv_at hl 2 rfl) ?_
  obtain ⟨z3, h4, hf⟩ := bn_some hf
  refine s_callVV (As := [.int x1, .int x2]) (rest := []) C (c_X7_toFront l D q h N x1 x2 z1 z3 h4) ⟨wd_4_37, wd_4_39, wd_s_29, wd_1_10, wd_4_40, cx_X7_toFront, Nat.le_of_ble_eq_true rfl, Nat.le_of_ble_eq_true rfl⟩ 0 (ci := 7) rfl rfl rfl (SubW.full _ _) rfl hl.1 rfl (Nat.le_of_ble_eq_true rfl) dX7_move_8 (Nat.zero_le _) (Nat.zero_le _) ?_
  exact ret _ _ _ dX7_move_11 (congrArg (fun σ => (wM h q σ)) (rt_1 hf))
def pf_X7_isDirty (N : Nat) (x1 : Int32) (σ : St) : Option Int32 := bI x1 (3072) (if ((σ.2.1 7) (Int32.toNatClampNeg x1)) < 0 then some (0 : Int32) else some (1 : Int32))
theorem cx_X7_isDirty : (yX7_isDirty.cls ≠ "java/lang/invoke/MethodHandle" ∧ yX7_isDirty.cls ≠ "java/lang/invoke/VarHandle" ∧ (parseMethodDescriptor yX7_isDirty.desc).map (fun d => d.parameters.length) = some 1) := by decide +kernel
set_option maxHeartbeats 4000000 in
set_option maxRecDepth 100000 in
theorem c_X7_isDirty (l : Launch) (D : va_G) (q : Nat → ClassId) (h : Nat → Nat) (N : Nat) (x1 : Int32) (σ : St) (z : Int32) (hf : pf_X7_isDirty N x1 σ = some z) : MI l yX7_isDirty cX7_isDirty 2 (some .boolean) 0 0 D (tyQ q) [.ref (h 0), .int x1] (wM h q σ) (wM h q σ) z := by
  refine MI.of (by decide) (Nat.le_of_ble_eq_true rfl) ?_
  intro p e s m args below meth c Q A C ret ls hl
  have hl : lv_has ls 2 [(0, .ref (h 0)), (1, .int x1)] := hl
  unfold pf_X7_isDirty at hf
  refine s_aload_n C dX7_isDirty_0 rfl (lv_at hl 0 rfl) ?_
  refine gM_0_8 C wd_3_147 dX7_isDirty_1 ?_
  refine s_iload_n C dX7_isDirty_4 rfl (lv_at hl 1 rfl) ?_
  obtain ⟨hi1, hf⟩ := bI_some hf
  refine ldM_7 C hi1 dX7_isDirty_5 ?_
  refine s_if_lt (tgt := 13) C dX7_isDirty_6 (by decide) (fun c2 => ?_) (fun c2 => ?_)
  · replace hf := it_t c2 hf
    refine s_iconst (v := (0 : Int32)) C dX7_isDirty_13 (by decide) ?_
    exact ret _ _ _ _ dX7_isDirty_14 rfl (rt_1 hf) rfl
  · replace hf := it_f c2 hf
    refine s_iconst (v := (1 : Int32)) C dX7_isDirty_9 (by decide) ?_
    refine s_goto (tgt := 14) C dX7_isDirty_10 (by decide) ?_
    exact ret _ _ _ _ dX7_isDirty_14 rfl (rt_1 hf) rfl
def pf_X7_wrong_b30 (N : Nat) (y2 : Int32) (y1 : Int32) (σ : St) : Option St := bI y1 (12) (lt_ (sA σ 4 (upd (σ.2.1 4) (Int32.toNatClampNeg y1) y2)) (fun σ7 => some σ7))
def pf_X7_wrong (N : Nat) (x1 : Int32) (x2 : Int32) (σ : St) : Option St := lt_ (x1 / (256 : Int32)) (fun v1 => bI v1 (12) (if ((σ.2.1 4) (Int32.toNatClampNeg v1)) = 0 then pf_X7_wrong_b30 N x2 v1 σ else bI v1 (12) (pf_X7_wrong_b30 N ((σ.2.1 4) (Int32.toNatClampNeg v1)) v1 σ)))
theorem cx_X7_wrong : (yX7_wrong.cls ≠ "java/lang/invoke/MethodHandle" ∧ yX7_wrong.cls ≠ "java/lang/invoke/VarHandle" ∧ (parseMethodDescriptor yX7_wrong.desc).map (fun d => d.parameters.length) = some 2) := by decide +kernel
set_option maxHeartbeats 4000000 in
set_option maxRecDepth 100000 in
theorem c_X7_wrong (l : Launch) (D : va_G) (q : Nat → ClassId) (h : Nat → Nat) (N : Nat) (x1 : Int32) (x2 : Int32) (σ : St) (z : St) (hf : pf_X7_wrong N x1 x2 σ = some z) : MV l yX7_wrong cX7_wrong 4 (none) 0 0 D (tyQ q) [.ref (h 0), .int x1, .int x2] (wM h q σ) (wM h q z) := by
  refine MV.of (by decide) (Nat.le_of_ble_eq_true rfl) ?_
  intro p e s m args below meth c Q A C ret ls hl
  have hl : lv_has ls 4 [(0, .ref (h 0)), (1, .int x1), (2, .int x2)] := hl
  unfold pf_X7_wrong at hf
  have b30 : ∀ (y2 : Int32) (y1 : Int32) (σ : St), pf_X7_wrong_b30 N y2 y1 σ = some z → ∀ ls : Array Slot, lv_has ls 4 [] → WG p l e (rmO 0 0) s m args below meth c D A 0 0 Q (wM h q σ) (F0 m 30 ls [.int y2, .int y1, .ref (h 4)]) := by
    intro y2 y1 σ hf ls hl
    unfold pf_X7_wrong_b30 at hf
    obtain ⟨hi6, hf⟩ := bI_some hf
    refine stM_4 C hi6 dX7_wrong_30 ?_
    obtain ⟨σ7, e8, hf⟩ := lt_some hf
    refine s_w (ws2 := (wM h q σ7)) (by rw [e8]) ?_
    clear e8
    exact ret _ _ _ dX7_wrong_31 (congrArg (fun σ => (wM h q σ)) (rt_1 hf))
  refine s_iload_n C dX7_wrong_0 rfl (lv_at hl 1 rfl) ?_
  refine s_sipush (v := (256 : Int32)) C dX7_wrong_1 (by decide) ?_
  refine s_idiv C dX7_wrong_4 (by decide) ?_
  obtain ⟨v1, e2, hf⟩ := lt_some hf
  refine s_eq (g2 := F0 m 5 ls [.int v1]) (by rw [e2]) ?_
  clear e2
  refine s_istore_n (lv2 := [(3, .int v1), (0, .ref (h 0)), (1, .int x1), (2, .int x2)]) C dX7_wrong_5 rfl hl (by decide) rfl ?_
  intro ls hl
  refine s_aload_n C dX7_wrong_6 rfl (lv_at hl 1 rfl) ?_
  refine gM_0_5 C wd_3_144 dX7_wrong_7 ?_
  refine s_iload_n C dX7_wrong_10 rfl (lv_at hl 0 rfl) ?_
  refine s_aload_n C dX7_wrong_11 rfl (lv_at hl 1 rfl) ?_
  refine gM_0_5 C wd_3_144 dX7_wrong_12 ?_
  refine s_iload_n C dX7_wrong_15 rfl (lv_at hl 0 rfl) ?_
  obtain ⟨hi3, hf⟩ := bI_some hf
  refine ldM_4 C hi3 dX7_wrong_16 ?_
  refine s_if_ne (tgt := 24) C dX7_wrong_17 (by decide) (fun c4 => ?_) (fun c4 => ?_)
  · replace hf := it_f c4 hf
    refine s_aload_n C dX7_wrong_24 rfl (lv_at hl 1 rfl) ?_
    refine gM_0_5 C wd_3_144 dX7_wrong_25 ?_
    refine s_iload_n C dX7_wrong_28 rfl (lv_at hl 0 rfl) ?_
    obtain ⟨hi5, hf⟩ := bI_some hf
    refine ldM_4 C hi5 dX7_wrong_29 ?_
    exact b30 _ _ _ hf _ (lv_sub hl [] rfl)
  · replace hf := it_t c4 hf
    refine s_iload_n C dX7_wrong_20 rfl (lv_at hl 3 rfl) ?_
    refine s_goto (tgt := 30) C dX7_wrong_21 (by decide) ?_
    exact b30 _ _ _ hf _ (lv_sub hl [] rfl)
def pf_X7_hasBlock_b66 (N : Nat) (x1 : Int32) (σ : St) : Option (Int32 × St) := bI x1 (3072) (if ((σ.2.1 6) (Int32.toNatClampNeg x1)) = (-1 : Int32) then some ((0 : Int32), σ) else some ((1 : Int32), σ))
def pf_X7_hasBlock_b49 (N : Nat) (x1 : Int32) (σ : St) : Option (Int32 × St) := bI x1 (3072) (if ((σ.2.1 6) (Int32.toNatClampNeg x1)) = (-1 : Int32) then (pf_X7_wrong N x1 (-4 : Int32) σ).bind (fun z6 => pf_X7_hasBlock_b66 N x1 z6) else pf_X7_hasBlock_b66 N x1 σ)
def pf_X7_hasBlock_b43 (N : Nat) (J2 : Int32 → Int32 → St → Option (Int32 × St)) (x1 : Int32) (x2 : Int32) (σ : St) : Option (Int32 × St) := J2 x1 (x2 + 1) σ
def pf_X7_hasBlock_L2 (N : Nat) : Nat → Int32 → Int32 → St → Option (Int32 × St)
  | 0, _, _, _ => none
  | n + 1, x1, x2, σ => if (σ.1 1) ≤ x2 then pf_X7_hasBlock_b49 N x1 σ else bI x1 (3072) (if ((σ.2.1 6) (Int32.toNatClampNeg x1)) = (-1 : Int32) then bI x2 (512) (if ((σ.2.1 17) (Int32.toNatClampNeg x2)) = 0 then bI x2 (512) (lt_ (sA σ 17 (upd (σ.2.1 17) (Int32.toNatClampNeg x2) (vp_nar .boolean (1 : Int32)))) (fun σ13 => bI x1 (3072) (lt_ (sA σ13 6 (upd (σ13.2.1 6) (Int32.toNatClampNeg x1) x2)) (fun σ16 => pf_X7_hasBlock_b43 N (pf_X7_hasBlock_L2 N n) x1 x2 σ16)))) else pf_X7_hasBlock_b43 N (pf_X7_hasBlock_L2 N n) x1 x2 σ) else pf_X7_hasBlock_b49 N x1 σ)
def pf_X7_hasBlock (N : Nat) (x1 : Int32) (σ : St) : Option (Int32 × St) := pf_X7_hasBlock_L2 N N x1 (0 : Int32) σ
theorem cx_X7_hasBlock : (yX7_hasBlock.cls ≠ "java/lang/invoke/MethodHandle" ∧ yX7_hasBlock.cls ≠ "java/lang/invoke/VarHandle" ∧ (parseMethodDescriptor yX7_hasBlock.desc).map (fun d => d.parameters.length) = some 1) := by decide +kernel
set_option maxHeartbeats 4000000 in
set_option maxRecDepth 100000 in
theorem c_X7_hasBlock (l : Launch) (D : va_G) (q : Nat → ClassId) (h : Nat → Nat) (N : Nat) (x1 : Int32) (σ : St) (z : (Int32 × St)) (hf : pf_X7_hasBlock N x1 σ = some z) : MI l yX7_hasBlock cX7_hasBlock 3 (some .boolean) 1 23 D (tyQ q) [.ref (h 0), .int x1] (wM h q σ) (wM h q z.2) z.1 := by
  refine MI.of (by decide) (Nat.le_of_ble_eq_true rfl) ?_
  intro p e s m args below meth c Q A C ret ls hl
  have hl : lv_has ls 3 [(0, .ref (h 0)), (1, .int x1)] := hl
  unfold pf_X7_hasBlock at hf
  have b66 : ∀ (x1 : Int32) (σ : St), pf_X7_hasBlock_b66 N x1 σ = some z → ∀ ls : Array Slot, lv_has ls 3 [(0, .ref (h 0)), (1, .int x1)] → WG p l e (rmO 1 23) s m args below meth c D A 0 0 Q (wM h q σ) (F0 m 66 ls []) := by
    intro x1 σ hf ls hl
    unfold pf_X7_hasBlock_b66 at hf
    refine s_aload_n C dX7_hasBlock_66 rfl (lv_at hl 0 rfl) ?_
    refine gM_0_7 C wd_3_146 dX7_hasBlock_67 ?_
    refine s_iload_n C dX7_hasBlock_70 rfl (lv_at hl 1 rfl) ?_
    obtain ⟨hi4, hf⟩ := bI_some hf
    refine ldM_6 C hi4 dX7_hasBlock_71 ?_
    refine s_iconst (v := (-1 : Int32)) C dX7_hasBlock_72 (by decide) ?_
    refine s_icmp_eq (tgt := 80) C dX7_hasBlock_73 (by decide) (fun c5 => ?_) (fun c5 => ?_)
    · replace hf := it_t c5 hf
      refine s_iconst (v := (0 : Int32)) C dX7_hasBlock_80 (by decide) ?_
      exact ret _ _ _ _ dX7_hasBlock_81 rfl (rt_2 hf).1 (congrArg (fun σ => (wM h q σ)) (rt_2 hf).2)
    · replace hf := it_f c5 hf
      refine s_iconst (v := (1 : Int32)) C dX7_hasBlock_76 (by decide) ?_
      refine s_goto (tgt := 81) C dX7_hasBlock_77 (by decide) ?_
      exact ret _ _ _ _ dX7_hasBlock_81 rfl (rt_2 hf).1 (congrArg (fun σ => (wM h q σ)) (rt_2 hf).2)
  have b49 : ∀ (x1 : Int32) (σ : St), pf_X7_hasBlock_b49 N x1 σ = some z → ∀ ls : Array Slot, lv_has ls 3 [(0, .ref (h 0)), (1, .int x1)] → WG p l e (rmO 1 23) s m args below meth c D A 0 0 Q (wM h q σ) (F0 m 49 ls []) := by
    intro x1 σ hf ls hl
    unfold pf_X7_hasBlock_b49 at hf
    refine s_aload_n C dX7_hasBlock_49 rfl (lv_at hl 0 rfl) ?_
    refine gM_0_7 C wd_3_146 dX7_hasBlock_50 ?_
    refine s_iload_n C dX7_hasBlock_53 rfl (lv_at hl 1 rfl) ?_
    obtain ⟨hi2, hf⟩ := bI_some hf
    refine ldM_6 C hi2 dX7_hasBlock_54 ?_
    refine s_iconst (v := (-1 : Int32)) C dX7_hasBlock_55 (by decide) ?_
    refine s_icmp_ne (tgt := 66) C dX7_hasBlock_56 (by decide) (fun c3 => ?_) (fun c3 => ?_)
    · replace hf := it_f c3 hf
      exact b66 _ _ hf _ (lv_sub hl [0, 1] rfl)
    · replace hf := it_t c3 hf
      refine s_aload_n C dX7_hasBlock_59 rfl (lv_at hl 0 rfl) ?_
      refine s_iload_n C dX7_hasBlock_60 rfl (lv_at hl 1 rfl) ?_
      refine s_bipush (v := (-4 : Int32)) C dX7_hasBlock_61 (by decide) ?_
      obtain ⟨z6, h7, hf⟩ := bn_some hf
      refine s_callVV (As := [.int x1, .int (-4 : Int32)]) (rest := []) C (c_X7_wrong l D q h N x1 (-4 : Int32) σ z6 h7) ⟨wd_4_61, wd_4_63, wd_s_35, wd_1_10, wd_4_64, cx_X7_wrong, Nat.le_of_ble_eq_true rfl, Nat.le_of_ble_eq_true rfl⟩ 0 (ci := 7) rfl rfl rfl (SubW.full _ _) rfl hl.1 rfl (Nat.le_of_ble_eq_true rfl) dX7_hasBlock_63 (Nat.zero_le _) (Nat.zero_le _) ?_
      exact b66 _ _ hf _ (lv_sub hl [0, 1] rfl)
  have b43 : ∀ (J2 : Int32 → Int32 → St → Option (Int32 × St)) (hJ2 : ∀ (x1 : Int32) (x2 : Int32) (σ : St), J2 x1 x2 σ = some z → ∀ ls : Array Slot, lv_has ls 3 [(0, .ref (h 0)), (1, .int x1), (2, .int x2)] → WG p l e (rmO 1 23) s m args below meth c D A 0 0 Q (wM h q σ) (F0 m 2 ls [])) (x1 : Int32) (x2 : Int32) (σ : St), pf_X7_hasBlock_b43 N J2 x1 x2 σ = some z → ∀ ls : Array Slot, lv_has ls 3 [(0, .ref (h 0)), (1, .int x1), (2, .int x2)] → WG p l e (rmO 1 23) s m args below meth c D A 0 0 Q (wM h q σ) (F0 m 43 ls []) := by
    intro J2 hJ2 x1 x2 σ hf ls hl
    unfold pf_X7_hasBlock_b43 at hf
    refine s_iinc (v := (x2 + 1)) (lv2 := [(2, .int (x2 + 1)), (0, .ref (h 0)), (1, .int x1)]) C 2 dX7_hasBlock_43 hl rfl rfl (by decide) rfl ?_
    intro ls hl
    refine s_goto (tgt := 2) C dX7_hasBlock_46 (by decide) ?_
    exact hJ2 _ _ _ hf _ (lv_sub hl [1, 2, 0] rfl)
  have L2 : ∀ (n : Nat) (x1 : Int32) (x2 : Int32) (σ : St), pf_X7_hasBlock_L2 N n x1 x2 σ = some z → ∀ ls : Array Slot, lv_has ls 3 [(0, .ref (h 0)), (1, .int x1), (2, .int x2)] → WG p l e (rmO 1 23) s m args below meth c D A 0 0 Q (wM h q σ) (F0 m 2 ls []) := by
    intro n
    induction n with
    | zero => intro x1 x2 σ hf; unfold pf_X7_hasBlock_L2 at hf; cases hf
    | succ n ih =>
      intro x1 x2 σ hf ls hl
      unfold pf_X7_hasBlock_L2 at hf
      refine s_iload_n C dX7_hasBlock_2 rfl (lv_at hl 2 rfl) ?_
      refine s_aload_n C dX7_hasBlock_3 rfl (lv_at hl 0 rfl) ?_
      refine gM_0_1 C wd_3_140 dX7_hasBlock_4 ?_
      refine s_icmp_ge (tgt := 49) C dX7_hasBlock_7 (by decide) (fun c1 => ?_) (fun c1 => ?_)
      · replace hf := it_t c1 hf
        exact b49 _ _ hf _ (lv_sub hl [0, 1] rfl)
      · replace hf := it_f c1 hf
        refine s_aload_n C dX7_hasBlock_10 rfl (lv_at hl 0 rfl) ?_
        refine gM_0_7 C wd_3_146 dX7_hasBlock_11 ?_
        refine s_iload_n C dX7_hasBlock_14 rfl (lv_at hl 1 rfl) ?_
        obtain ⟨hi8, hf⟩ := bI_some hf
        refine ldM_6 C hi8 dX7_hasBlock_15 ?_
        refine s_iconst (v := (-1 : Int32)) C dX7_hasBlock_16 (by decide) ?_
        refine s_icmp_ne (tgt := 49) C dX7_hasBlock_17 (by decide) (fun c9 => ?_) (fun c9 => ?_)
        · replace hf := it_f c9 hf
          exact b49 _ _ hf _ (lv_sub hl [0, 1] rfl)
        · replace hf := it_t c9 hf
          refine s_aload_n C dX7_hasBlock_20 rfl (lv_at hl 0 rfl) ?_
          refine gM_0_20 C wd_3_159 dX7_hasBlock_21 ?_
          refine s_iload_n C dX7_hasBlock_24 rfl (lv_at hl 2 rfl) ?_
          obtain ⟨hi10, hf⟩ := bI_some hf
          refine ldM_17 C hi10 dX7_hasBlock_25 ?_
          refine s_if_ne (tgt := 43) C dX7_hasBlock_26 (by decide) (fun c11 => ?_) (fun c11 => ?_)
          · replace hf := it_f c11 hf
            exact b43 _ ih _ _ _ hf _ (lv_sub hl [0, 1, 2] rfl)
          · replace hf := it_t c11 hf
            refine s_aload_n C dX7_hasBlock_29 rfl (lv_at hl 0 rfl) ?_
            refine gM_0_20 C wd_3_159 dX7_hasBlock_30 ?_
            refine s_iload_n C dX7_hasBlock_33 rfl (lv_at hl 2 rfl) ?_
            refine s_iconst (v := (1 : Int32)) C dX7_hasBlock_34 (by decide) ?_
            obtain ⟨hi12, hf⟩ := bI_some hf
            refine stM_17 C hi12 dX7_hasBlock_35 ?_
            obtain ⟨σ13, e14, hf⟩ := lt_some hf
            refine s_w (ws2 := (wM h q σ13)) (by rw [e14]) ?_
            clear e14
            refine s_aload_n C dX7_hasBlock_36 rfl (lv_at hl 0 rfl) ?_
            refine gM_0_7 C wd_3_146 dX7_hasBlock_37 ?_
            refine s_iload_n C dX7_hasBlock_40 rfl (lv_at hl 1 rfl) ?_
            refine s_iload_n C dX7_hasBlock_41 rfl (lv_at hl 2 rfl) ?_
            obtain ⟨hi15, hf⟩ := bI_some hf
            refine stM_6 C hi15 dX7_hasBlock_42 ?_
            obtain ⟨σ16, e17, hf⟩ := lt_some hf
            refine s_w (ws2 := (wM h q σ16)) (by rw [e17]) ?_
            clear e17
            exact b43 _ ih _ _ _ hf _ (lv_sub hl [0, 1, 2] rfl)
  refine s_iconst (v := (0 : Int32)) C dX7_hasBlock_0 (by decide) ?_
  refine s_istore_n (lv2 := [(2, .int (0 : Int32)), (0, .ref (h 0)), (1, .int x1)]) C dX7_hasBlock_1 rfl hl (by decide) rfl ?_
  intro ls hl
  exact L2 N _ _ _ hf _ (lv_sub hl [1, 2, 0] rfl)
def pf_X7_record_b94 (N : Nat) (x1 : Int32) (x2 : Int32) (σ : St) : Option St := bI (σ.1 10) (4000) (lt_ (sA σ 20 (upd (σ.2.1 20) (Int32.toNatClampNeg (σ.1 10)) x1)) (fun σ11 => bI (σ11.1 10) (4000) (lt_ (sA σ11 21 (upd (σ11.2.1 21) (Int32.toNatClampNeg (σ11.1 10)) x2)) (fun σ14 => bI (σ14.1 10) (4000) (lt_ (sA σ14 22 (upd (σ14.2.1 22) (Int32.toNatClampNeg (σ14.1 10)) (1 : Int32))) (fun σ17 => lt_ (sG σ17 10 ((σ17.1 10) + (1 : Int32))) (fun σ19 => some σ19)))))))
def pf_X7_record_b31 (N : Nat) (x1 : Int32) (x2 : Int32) (y2 : Int32) (y1 : Int32) (σ : St) : Option St := lt_ (sG σ 8 (y1 + y2)) (fun σ3 => lt_ (sG σ3 9 ((σ3.1 9) + x1)) (fun σ5 => lt_ ((σ5.1 10) - (1 : Int32)) (fun v7 => if v7 < 0 then pf_X7_record_b94 N x1 x2 σ5 else bI v7 (4000) (if ((σ5.2.1 20) (Int32.toNatClampNeg v7)) = x1 then bI v7 (4000) (bI v7 (4000) (if (((σ5.2.1 21) (Int32.toNatClampNeg v7)) + ((σ5.2.1 22) (Int32.toNatClampNeg v7))) = x2 then bI v7 (4000) (bI v7 (4000) (lt_ (sA σ5 22 (upd (σ5.2.1 22) (Int32.toNatClampNeg v7) (((σ5.2.1 22) (Int32.toNatClampNeg v7)) + (1 : Int32)))) (fun σ28 => some σ28))) else pf_X7_record_b94 N x1 x2 σ5)) else pf_X7_record_b94 N x1 x2 σ5))))
def pf_X7_record_b17 (N : Nat) (x1 : Int32) (x2 : Int32) (σ : St) : Option St := if x1 = 0 then pf_X7_record_b31 N x1 x2 (1 : Int32) (σ.1 8) σ else pf_X7_record_b31 N x1 x2 (0 : Int32) (σ.1 8) σ
def pf_X7_record (N : Nat) (x1 : Int32) (x2 : Int32) (σ : St) : Option St := if (σ.1 11) = 0 then lt_ (sG σ 11 (1 : Int32)) (fun σ30 => lt_ (sG σ30 10 (0 : Int32)) (fun σ32 => pf_X7_record_b17 N x1 x2 σ32)) else pf_X7_record_b17 N x1 x2 σ
theorem cx_X7_record : (yX7_record.cls ≠ "java/lang/invoke/MethodHandle" ∧ yX7_record.cls ≠ "java/lang/invoke/VarHandle" ∧ (parseMethodDescriptor yX7_record.desc).map (fun d => d.parameters.length) = some 2) := by decide +kernel
set_option maxHeartbeats 4000000 in
set_option maxRecDepth 100000 in
theorem c_X7_record (l : Launch) (D : va_G) (q : Nat → ClassId) (h : Nat → Nat) (N : Nat) (x1 : Int32) (x2 : Int32) (σ : St) (z : St) (hf : pf_X7_record N x1 x2 σ = some z) : MV l yX7_record cX7_record 4 (none) 0 0 D (tyQ q) [.ref (h 0), .int x1, .int x2] (wM h q σ) (wM h q z) := by
  refine MV.of (by decide) (Nat.le_of_ble_eq_true rfl) ?_
  intro p e s m args below meth c Q A C ret ls hl
  have hl : lv_has ls 4 [(0, .ref (h 0)), (1, .int x1), (2, .int x2)] := hl
  unfold pf_X7_record at hf
  have b94 : ∀ (x1 : Int32) (x2 : Int32) (σ : St), pf_X7_record_b94 N x1 x2 σ = some z → ∀ ls : Array Slot, lv_has ls 4 [(0, .ref (h 0)), (1, .int x1), (2, .int x2)] → WG p l e (rmO 0 0) s m args below meth c D A 0 0 Q (wM h q σ) (F0 m 94 ls []) := by
    intro x1 x2 σ hf ls hl
    unfold pf_X7_record_b94 at hf
    refine s_aload_n C dX7_record_94 rfl (lv_at hl 0 rfl) ?_
    refine gM_0_29 C wd_3_168 dX7_record_95 ?_
    refine s_aload_n C dX7_record_98 rfl (lv_at hl 0 rfl) ?_
    refine gM_0_32 C wd_3_171 dX7_record_99 ?_
    refine s_iload_n C dX7_record_102 rfl (lv_at hl 1 rfl) ?_
    obtain ⟨hi10, hf⟩ := bI_some hf
    refine stM_20 C hi10 dX7_record_103 ?_
    obtain ⟨σ11, e12, hf⟩ := lt_some hf
    refine s_w (ws2 := (wM h q σ11)) (by rw [e12]) ?_
    clear e12
    refine s_aload_n C dX7_record_104 rfl (lv_at hl 0 rfl) ?_
    refine gM_0_30 C wd_3_169 dX7_record_105 ?_
    refine s_aload_n C dX7_record_108 rfl (lv_at hl 0 rfl) ?_
    refine gM_0_32 C wd_3_171 dX7_record_109 ?_
    refine s_iload_n C dX7_record_112 rfl (lv_at hl 2 rfl) ?_
    obtain ⟨hi13, hf⟩ := bI_some hf
    refine stM_21 C hi13 dX7_record_113 ?_
    obtain ⟨σ14, e15, hf⟩ := lt_some hf
    refine s_w (ws2 := (wM h q σ14)) (by rw [e15]) ?_
    clear e15
    refine s_aload_n C dX7_record_114 rfl (lv_at hl 0 rfl) ?_
    refine gM_0_31 C wd_3_170 dX7_record_115 ?_
    refine s_aload_n C dX7_record_118 rfl (lv_at hl 0 rfl) ?_
    refine gM_0_32 C wd_3_171 dX7_record_119 ?_
    refine s_iconst (v := (1 : Int32)) C dX7_record_122 (by decide) ?_
    obtain ⟨hi16, hf⟩ := bI_some hf
    refine stM_22 C hi16 dX7_record_123 ?_
    obtain ⟨σ17, e18, hf⟩ := lt_some hf
    refine s_w (ws2 := (wM h q σ17)) (by rw [e18]) ?_
    clear e18
    refine s_aload_n C dX7_record_124 rfl (lv_at hl 0 rfl) ?_
    refine s_dup C dX7_record_125 rfl ?_
    refine gM_0_32 C wd_3_171 dX7_record_126 ?_
    refine s_iconst (v := (1 : Int32)) C dX7_record_129 (by decide) ?_
    refine s_iadd C dX7_record_130 ?_
    refine uM_0_32 C wd_3_171 dX7_record_131 ?_
    obtain ⟨σ19, e20, hf⟩ := lt_some hf
    refine s_w (ws2 := (wM h q σ19)) (by rw [e20]) ?_
    clear e20
    exact ret _ _ _ dX7_record_134 (congrArg (fun σ => (wM h q σ)) (rt_1 hf))
  have b31 : ∀ (x1 : Int32) (x2 : Int32) (y2 : Int32) (y1 : Int32) (σ : St), pf_X7_record_b31 N x1 x2 y2 y1 σ = some z → ∀ ls : Array Slot, lv_has ls 4 [(0, .ref (h 0)), (1, .int x1), (2, .int x2)] → WG p l e (rmO 0 0) s m args below meth c D A 0 0 Q (wM h q σ) (F0 m 31 ls [.int y2, .int y1, .ref (h 0)]) := by
    intro x1 x2 y2 y1 σ hf ls hl
    unfold pf_X7_record_b31 at hf
    refine s_iadd C dX7_record_31 ?_
    refine uM_0_27 C wd_3_166 dX7_record_32 ?_
    obtain ⟨σ3, e4, hf⟩ := lt_some hf
    refine s_w (ws2 := (wM h q σ3)) (by rw [e4]) ?_
    clear e4
    refine s_aload_n C dX7_record_35 rfl (lv_at hl 0 rfl) ?_
    refine s_dup C dX7_record_36 rfl ?_
    refine gM_0_28 C wd_3_167 dX7_record_37 ?_
    refine s_iload_n C dX7_record_40 rfl (lv_at hl 1 rfl) ?_
    refine s_iadd C dX7_record_41 ?_
    refine uM_0_28 C wd_3_167 dX7_record_42 ?_
    obtain ⟨σ5, e6, hf⟩ := lt_some hf
    refine s_w (ws2 := (wM h q σ5)) (by rw [e6]) ?_
    clear e6
    refine s_aload_n C dX7_record_45 rfl (lv_at hl 0 rfl) ?_
    refine gM_0_32 C wd_3_171 dX7_record_46 ?_
    refine s_iconst (v := (1 : Int32)) C dX7_record_49 (by decide) ?_
    refine s_isub C dX7_record_50 ?_
    obtain ⟨v7, e8, hf⟩ := lt_some hf
    refine s_eq (g2 := F0 m 51 ls [.int v7]) (by rw [e8]) ?_
    clear e8
    refine s_istore_n (lv2 := [(3, .int v7), (0, .ref (h 0)), (1, .int x1), (2, .int x2)]) C dX7_record_51 rfl hl (by decide) rfl ?_
    intro ls hl
    refine s_iload_n C dX7_record_52 rfl (lv_at hl 0 rfl) ?_
    refine s_if_lt (tgt := 94) C dX7_record_53 (by decide) (fun c9 => ?_) (fun c9 => ?_)
    · replace hf := it_t c9 hf
      exact b94 _ _ _ hf _ (lv_sub hl [1, 2, 3] rfl)
    · replace hf := it_f c9 hf
      refine s_aload_n C dX7_record_56 rfl (lv_at hl 1 rfl) ?_
      refine gM_0_29 C wd_3_168 dX7_record_57 ?_
      refine s_iload_n C dX7_record_60 rfl (lv_at hl 0 rfl) ?_
      obtain ⟨hi21, hf⟩ := bI_some hf
      refine ldM_20 C hi21 dX7_record_61 ?_
      refine s_iload_n C dX7_record_62 rfl (lv_at hl 2 rfl) ?_
      refine s_icmp_ne (tgt := 94) C dX7_record_63 (by decide) (fun c22 => ?_) (fun c22 => ?_)
      · replace hf := it_f c22 hf
        exact b94 _ _ _ hf _ (lv_sub hl [1, 2, 3] rfl)
      · replace hf := it_t c22 hf
        refine s_aload_n C dX7_record_66 rfl (lv_at hl 1 rfl) ?_
        refine gM_0_30 C wd_3_169 dX7_record_67 ?_
        refine s_iload_n C dX7_record_70 rfl (lv_at hl 0 rfl) ?_
        obtain ⟨hi23, hf⟩ := bI_some hf
        refine ldM_21 C hi23 dX7_record_71 ?_
        refine s_aload_n C dX7_record_72 rfl (lv_at hl 1 rfl) ?_
        refine gM_0_31 C wd_3_170 dX7_record_73 ?_
        refine s_iload_n C dX7_record_76 rfl (lv_at hl 0 rfl) ?_
        obtain ⟨hi24, hf⟩ := bI_some hf
        refine ldM_22 C hi24 dX7_record_77 ?_
        refine s_iadd C dX7_record_78 ?_
        refine s_iload_n C dX7_record_79 rfl (lv_at hl 3 rfl) ?_
        refine s_icmp_ne (tgt := 94) C dX7_record_80 (by decide) (fun c25 => ?_) (fun c25 => ?_)
        · replace hf := it_f c25 hf
          exact b94 _ _ _ hf _ (lv_sub hl [1, 2, 3] rfl)
        · replace hf := it_t c25 hf
          refine s_aload_n C dX7_record_83 rfl (lv_at hl 1 rfl) ?_
          refine gM_0_31 C wd_3_170 dX7_record_84 ?_
          refine s_iload_n C dX7_record_87 rfl (lv_at hl 0 rfl) ?_
          refine s_dup2_11 C dX7_record_88 rfl rfl ?_
          obtain ⟨hi26, hf⟩ := bI_some hf
          refine ldM_22 C hi26 dX7_record_89 ?_
          refine s_iconst (v := (1 : Int32)) C dX7_record_90 (by decide) ?_
          refine s_iadd C dX7_record_91 ?_
          obtain ⟨hi27, hf⟩ := bI_some hf
          refine stM_22 C hi27 dX7_record_92 ?_
          obtain ⟨σ28, e29, hf⟩ := lt_some hf
          refine s_w (ws2 := (wM h q σ28)) (by rw [e29]) ?_
          clear e29
          exact ret _ _ _ dX7_record_93 (congrArg (fun σ => (wM h q σ)) (rt_1 hf))
  have b17 : ∀ (x1 : Int32) (x2 : Int32) (σ : St), pf_X7_record_b17 N x1 x2 σ = some z → ∀ ls : Array Slot, lv_has ls 4 [(0, .ref (h 0)), (1, .int x1), (2, .int x2)] → WG p l e (rmO 0 0) s m args below meth c D A 0 0 Q (wM h q σ) (F0 m 17 ls []) := by
    intro x1 x2 σ hf ls hl
    unfold pf_X7_record_b17 at hf
    refine s_aload_n C dX7_record_17 rfl (lv_at hl 0 rfl) ?_
    refine s_dup C dX7_record_18 rfl ?_
    refine gM_0_27 C wd_3_166 dX7_record_19 ?_
    refine s_iload_n C dX7_record_22 rfl (lv_at hl 1 rfl) ?_
    refine s_if_ne (tgt := 30) C dX7_record_23 (by decide) (fun c2 => ?_) (fun c2 => ?_)
    · replace hf := it_f c2 hf
      refine s_iconst (v := (0 : Int32)) C dX7_record_30 (by decide) ?_
      exact b31 _ _ _ _ _ hf _ (lv_sub hl [0, 1, 2] rfl)
    · replace hf := it_t c2 hf
      refine s_iconst (v := (1 : Int32)) C dX7_record_26 (by decide) ?_
      refine s_goto (tgt := 31) C dX7_record_27 (by decide) ?_
      exact b31 _ _ _ _ _ hf _ (lv_sub hl [0, 1, 2] rfl)
  refine s_aload_n C dX7_record_0 rfl (lv_at hl 0 rfl) ?_
  refine gM_0_33 C wd_3_172 dX7_record_1 ?_
  refine s_if_ne (tgt := 17) C dX7_record_4 (by decide) (fun c1 => ?_) (fun c1 => ?_)
  · replace hf := it_f c1 hf
    exact b17 _ _ _ hf _ (lv_sub hl [0, 1, 2] rfl)
  · replace hf := it_t c1 hf
    refine s_aload_n C dX7_record_7 rfl (lv_at hl 0 rfl) ?_
    refine s_iconst (v := (1 : Int32)) C dX7_record_8 (by decide) ?_
    refine uM_0_33 C wd_3_172 rfl dX7_record_9 ?_
    obtain ⟨σ30, e31, hf⟩ := lt_some hf
    refine s_w (ws2 := (wM h q σ30)) (by rw [e31]) ?_
    clear e31
    refine s_aload_n C dX7_record_12 rfl (lv_at hl 0 rfl) ?_
    refine s_iconst (v := (0 : Int32)) C dX7_record_13 (by decide) ?_
    refine uM_0_32 C wd_3_171 dX7_record_14 ?_
    obtain ⟨σ32, e33, hf⟩ := lt_some hf
    refine s_w (ws2 := (wM h q σ32)) (by rw [e33]) ?_
    clear e33
    exact b17 _ _ _ hf _ (lv_sub hl [0, 1, 2] rfl)
def pf_X7_written_b109 (N : Nat) (J64 : Int32 → Int32 → Int32 → Int32 → St → Option (Int32 × St)) (x1 : Int32) (x2 : Int32) (x3 : Int32) (x4 : Int32) (y2 : Int32) (y1 : Int32) (σ : St) : Option (Int32 × St) := bI y1 (32768) (lt_ (sA σ 16 (upd (σ.2.1 16) (Int32.toNatClampNeg y1) (vp_nar .byte y2))) (fun σ20 => J64 x1 x2 x3 (x4 + 1) σ20))
def pf_X7_written_L64 (N : Nat) : Nat → Int32 → Int32 → Int32 → Int32 → St → Option (Int32 × St)
  | 0, _, _, _, _, _ => none
  | n + 1, x1, x2, x3, x4, σ => if (64 : Int32) ≤ x4 then bI x1 (3072) (lt_ (sA σ 7 (upd (σ.2.1 7) (Int32.toNatClampNeg x1) (-1 : Int32))) (fun σ16 => some ((1 : Int32), σ16))) else if x3 ≤ x4 then pf_X7_written_b109 N (pf_X7_written_L64 N n) x1 x2 x3 x4 (0 : Int32) (((64 : Int32) * x2) + x4) σ else bI x1 (3072) (bI (((64 : Int32) * ((σ.2.1 5) (Int32.toNatClampNeg x1))) + x4) (4096) (pf_X7_written_b109 N (pf_X7_written_L64 N n) x1 x2 x3 x4 ((σ.2.1 15) (Int32.toNatClampNeg (((64 : Int32) * ((σ.2.1 5) (Int32.toNatClampNeg x1))) + x4))) (((64 : Int32) * x2) + x4) σ))
def pf_X7_written (N : Nat) (x1 : Int32) (σ : St) : Option (Int32 × St) := (pf_X7_hasBlock N x1 σ).bind (fun z1 => if z1.1 = 0 then some ((0 : Int32), z1.2) else bI x1 (3072) (lt_ ((z1.2.2.1 6) (Int32.toNatClampNeg x1)) (fun v5 => bI v5 (512) (if ((z1.2.2.1 18) (Int32.toNatClampNeg v5)) = 0 then (pf_X7_record N (1 : Int32) v5 z1.2).bind (fun z9 => bI (x1 / (256 : Int32)) (12) (lt_ (((z9.2.1 1) (Int32.toNatClampNeg (x1 / (256 : Int32)))) - ((64 : Int32) * (x1 - x1 / (256 : Int32) * (256 : Int32)))) (fun v12 => pf_X7_written_L64 N N x1 v5 v12 (0 : Int32) z9))) else (pf_X7_wrong N x1 (-5 : Int32) z1.2).bind (fun z24 => some ((0 : Int32), z24))))))
theorem cx_X7_written : (yX7_written.cls ≠ "java/lang/invoke/MethodHandle" ∧ yX7_written.cls ≠ "java/lang/invoke/VarHandle" ∧ (parseMethodDescriptor yX7_written.desc).map (fun d => d.parameters.length) = some 1) := by decide +kernel
set_option maxHeartbeats 4000000 in
set_option maxRecDepth 100000 in
theorem c_X7_written (l : Launch) (D : va_G) (q : Nat → ClassId) (h : Nat → Nat) (N : Nat) (x1 : Int32) (σ : St) (z : (Int32 × St)) (hf : pf_X7_written N x1 σ = some z) : MI l yX7_written cX7_written 5 (some .boolean) 2 45 D (tyQ q) [.ref (h 0), .int x1] (wM h q σ) (wM h q z.2) z.1 := by
  refine MI.of (by decide) (Nat.le_of_ble_eq_true rfl) ?_
  intro p e s m args below meth c Q A C ret ls hl
  have hl : lv_has ls 5 [(0, .ref (h 0)), (1, .int x1)] := hl
  unfold pf_X7_written at hf
  have b109 : ∀ (J64 : Int32 → Int32 → Int32 → Int32 → St → Option (Int32 × St)) (hJ64 : ∀ (x1 : Int32) (x2 : Int32) (x3 : Int32) (x4 : Int32) (σ : St), J64 x1 x2 x3 x4 σ = some z → ∀ ls : Array Slot, lv_has ls 5 [(0, .ref (h 0)), (1, .int x1), (2, .int x2), (3, .int x3), (4, .int x4)] → WG p l e (rmO 2 45) s m args below meth c D A 0 0 Q (wM h q σ) (F0 m 64 ls [])) (x1 : Int32) (x2 : Int32) (x3 : Int32) (x4 : Int32) (y2 : Int32) (y1 : Int32) (σ : St), pf_X7_written_b109 N J64 x1 x2 x3 x4 y2 y1 σ = some z → ∀ ls : Array Slot, lv_has ls 5 [(0, .ref (h 0)), (1, .int x1), (2, .int x2), (3, .int x3), (4, .int x4)] → WG p l e (rmO 2 45) s m args below meth c D A 0 0 Q (wM h q σ) (F0 m 109 ls [.int y2, .int y1, .ref (h 16)]) := by
    intro J64 hJ64 x1 x2 x3 x4 y2 y1 σ hf ls hl
    unfold pf_X7_written_b109 at hf
    obtain ⟨hi19, hf⟩ := bI_some hf
    refine stM_16 C hi19 dX7_written_109 ?_
    obtain ⟨σ20, e21, hf⟩ := lt_some hf
    refine s_w (ws2 := (wM h q σ20)) (by rw [e21]) ?_
    clear e21
    refine s_iinc (v := (x4 + 1)) (lv2 := [(4, .int (x4 + 1)), (0, .ref (h 0)), (1, .int x1), (2, .int x2), (3, .int x3)]) C 4 dX7_written_110 hl rfl rfl (by decide) rfl ?_
    intro ls hl
    refine s_goto (tgt := 64) C dX7_written_113 (by decide) ?_
    exact hJ64 _ _ _ _ _ hf _ (lv_sub hl [1, 2, 3, 4, 0] rfl)
  have L64 : ∀ (n : Nat) (x1 : Int32) (x2 : Int32) (x3 : Int32) (x4 : Int32) (σ : St), pf_X7_written_L64 N n x1 x2 x3 x4 σ = some z → ∀ ls : Array Slot, lv_has ls 5 [(0, .ref (h 0)), (1, .int x1), (2, .int x2), (3, .int x3), (4, .int x4)] → WG p l e (rmO 2 45) s m args below meth c D A 0 0 Q (wM h q σ) (F0 m 64 ls []) := by
    intro n
    induction n with
    | zero => intro x1 x2 x3 x4 σ hf; unfold pf_X7_written_L64 at hf; cases hf
    | succ n ih =>
      intro x1 x2 x3 x4 σ hf ls hl
      unfold pf_X7_written_L64 at hf
      refine s_iload C dX7_written_64 (lv_at hl 4 rfl) ?_
      refine s_bipush (v := (64 : Int32)) C dX7_written_66 (by decide) ?_
      refine s_icmp_ge (tgt := 116) C dX7_written_68 (by decide) (fun c14 => ?_) (fun c14 => ?_)
      · replace hf := it_t c14 hf
        refine s_aload_n C dX7_written_116 rfl (lv_at hl 0 rfl) ?_
        refine gM_0_8 C wd_3_147 dX7_written_117 ?_
        refine s_iload_n C dX7_written_120 rfl (lv_at hl 1 rfl) ?_
        refine s_iconst (v := (-1 : Int32)) C dX7_written_121 (by decide) ?_
        obtain ⟨hi15, hf⟩ := bI_some hf
        refine stM_7 C hi15 dX7_written_122 ?_
        obtain ⟨σ16, e17, hf⟩ := lt_some hf
        refine s_w (ws2 := (wM h q σ16)) (by rw [e17]) ?_
        clear e17
        refine s_iconst (v := (1 : Int32)) C dX7_written_123 (by decide) ?_
        exact ret _ _ _ _ dX7_written_124 rfl (rt_2 hf).1 (congrArg (fun σ => (wM h q σ)) (rt_2 hf).2)
      · replace hf := it_f c14 hf
        refine s_aload_n C dX7_written_71 rfl (lv_at hl 0 rfl) ?_
        refine gM_0_19 C wd_3_158 dX7_written_72 ?_
        refine s_bipush (v := (64 : Int32)) C dX7_written_75 (by decide) ?_
        refine s_iload_n C dX7_written_77 rfl (lv_at hl 2 rfl) ?_
        refine s_imul C dX7_written_78 ?_
        refine s_iload C dX7_written_79 (lv_at hl 4 rfl) ?_
        refine s_iadd C dX7_written_81 ?_
        refine s_iload C dX7_written_82 (lv_at hl 4 rfl) ?_
        refine s_iload_n C dX7_written_84 rfl (lv_at hl 3 rfl) ?_
        refine s_icmp_ge (tgt := 108) C dX7_written_85 (by decide) (fun c18 => ?_) (fun c18 => ?_)
        · replace hf := it_t c18 hf
          refine s_iconst (v := (0 : Int32)) C dX7_written_108 (by decide) ?_
          exact b109 _ ih _ _ _ _ _ _ _ hf _ (lv_sub hl [0, 1, 2, 3, 4] rfl)
        · replace hf := it_f c18 hf
          refine s_aload_n C dX7_written_88 rfl (lv_at hl 0 rfl) ?_
          refine gM_0_18 C wd_3_157 dX7_written_89 ?_
          refine s_bipush (v := (64 : Int32)) C dX7_written_92 (by decide) ?_
          refine s_aload_n C dX7_written_94 rfl (lv_at hl 0 rfl) ?_
          refine gM_0_6 C wd_3_145 dX7_written_95 ?_
          refine s_iload_n C dX7_written_98 rfl (lv_at hl 1 rfl) ?_
          obtain ⟨hi22, hf⟩ := bI_some hf
          refine ldM_5 C hi22 dX7_written_99 ?_
          refine s_imul C dX7_written_100 ?_
          refine s_iload C dX7_written_101 (lv_at hl 4 rfl) ?_
          refine s_iadd C dX7_written_103 ?_
          obtain ⟨hi23, hf⟩ := bI_some hf
          refine ldM_15 C hi23 dX7_written_104 ?_
          refine s_goto (tgt := 109) C dX7_written_105 (by decide) ?_
          exact b109 _ ih _ _ _ _ _ _ _ hf _ (lv_sub hl [0, 1, 2, 3, 4] rfl)
  refine s_aload_n C dX7_written_0 rfl (lv_at hl 0 rfl) ?_
  refine s_iload_n C dX7_written_1 rfl (lv_at hl 1 rfl) ?_
  obtain ⟨z1, h2, hf⟩ := bn_some hf
  refine s_callIV (As := [.int x1]) (rest := []) C (c_X7_hasBlock l D q h N x1 σ z1 h2) ⟨wd_4_57, wd_4_59, wd_s_34, wd_1_10, wd_4_60, cx_X7_hasBlock, Nat.le_of_ble_eq_true rfl, Nat.le_of_ble_eq_true rfl⟩ 0 (ci := 7) rfl rfl rfl (SubW.full _ _) rfl hl.1 rfl (Nat.le_of_ble_eq_true rfl) dX7_written_2 (Nat.zero_le _) (Nat.zero_le _) ?_
  refine s_if_ne (tgt := 10) C dX7_written_5 (by decide) (fun c3 => ?_) (fun c3 => ?_)
  · replace hf := it_f c3 hf
    refine s_aload_n C dX7_written_10 rfl (lv_at hl 0 rfl) ?_
    refine gM_0_7 C wd_3_146 dX7_written_11 ?_
    refine s_iload_n C dX7_written_14 rfl (lv_at hl 1 rfl) ?_
    obtain ⟨hi4, hf⟩ := bI_some hf
    refine ldM_6 C hi4 dX7_written_15 ?_
    obtain ⟨v5, e6, hf⟩ := lt_some hf
    refine s_eq (g2 := F0 m 16 ls [.int v5]) (by rw [e6]) ?_
    clear e6
    refine s_istore_n (lv2 := [(2, .int v5), (0, .ref (h 0)), (1, .int x1)]) C dX7_written_16 rfl hl (by decide) rfl ?_
    intro ls hl
    refine s_aload_n C dX7_written_17 rfl (lv_at hl 1 rfl) ?_
    refine gM_0_21 C wd_3_160 dX7_written_18 ?_
    refine s_iload_n C dX7_written_21 rfl (lv_at hl 0 rfl) ?_
    obtain ⟨hi7, hf⟩ := bI_some hf
    refine ldM_18 C hi7 dX7_written_22 ?_
    refine s_if_eq (tgt := 35) C dX7_written_23 (by decide) (fun c8 => ?_) (fun c8 => ?_)
    · replace hf := it_t c8 hf
      refine s_aload_n C dX7_written_35 rfl (lv_at hl 1 rfl) ?_
      refine s_iconst (v := (1 : Int32)) C dX7_written_36 (by decide) ?_
      refine s_iload_n C dX7_written_37 rfl (lv_at hl 0 rfl) ?_
      obtain ⟨z9, h10, hf⟩ := bn_some hf
      refine s_callVV (As := [.int (1 : Int32), .int v5]) (rest := []) C (c_X7_record l D q h N (1 : Int32) v5 z1.2 z9 h10) ⟨wd_4_65, wd_4_67, wd_s_36, wd_1_10, wd_4_68, cx_X7_record, Nat.le_of_ble_eq_true rfl, Nat.le_of_ble_eq_true rfl⟩ 0 (ci := 7) rfl rfl rfl (SubW.full _ _) rfl hl.1 rfl (Nat.le_of_ble_eq_true rfl) dX7_written_38 (Nat.zero_le _) (Nat.zero_le _) ?_
      refine s_aload_n C dX7_written_41 rfl (lv_at hl 1 rfl) ?_
      refine gM_0_2 C wd_3_141 dX7_written_42 ?_
      refine s_iload_n C dX7_written_45 rfl (lv_at hl 2 rfl) ?_
      refine s_sipush (v := (256 : Int32)) C dX7_written_46 (by decide) ?_
      refine s_idiv C dX7_written_49 (by decide) ?_
      obtain ⟨hi11, hf⟩ := bI_some hf
      refine ldM_1 C hi11 dX7_written_50 ?_
      refine s_bipush (v := (64 : Int32)) C dX7_written_51 (by decide) ?_
      refine s_iload_n C dX7_written_53 rfl (lv_at hl 2 rfl) ?_
      refine s_sipush (v := (256 : Int32)) C dX7_written_54 (by decide) ?_
      refine s_irem C dX7_written_57 (by decide) ?_
      refine s_imul C dX7_written_58 ?_
      refine s_isub C dX7_written_59 ?_
      obtain ⟨v12, e13, hf⟩ := lt_some hf
      refine s_eq (g2 := F0 m 60 ls [.int v12]) (by rw [e13]) ?_
      clear e13
      refine s_istore_n (lv2 := [(3, .int v12), (2, .int v5), (0, .ref (h 0)), (1, .int x1)]) C dX7_written_60 rfl hl (by decide) rfl ?_
      intro ls hl
      refine s_iconst (v := (0 : Int32)) C dX7_written_61 (by decide) ?_
      refine s_istore (lv2 := [(4, .int (0 : Int32)), (3, .int v12), (2, .int v5), (0, .ref (h 0)), (1, .int x1)]) C dX7_written_62 hl (by decide) rfl ?_
      intro ls hl
      exact L64 N _ _ _ _ _ hf _ (lv_sub hl [3, 4, 2, 1, 0] rfl)
    · replace hf := it_f c8 hf
      refine s_aload_n C dX7_written_26 rfl (lv_at hl 1 rfl) ?_
      refine s_iload_n C dX7_written_27 rfl (lv_at hl 2 rfl) ?_
      refine s_bipush (v := (-5 : Int32)) C dX7_written_28 (by decide) ?_
      obtain ⟨z24, h25, hf⟩ := bn_some hf
      refine s_callVV (As := [.int x1, .int (-5 : Int32)]) (rest := []) C (c_X7_wrong l D q h N x1 (-5 : Int32) z1.2 z24 h25) ⟨wd_4_61, wd_4_63, wd_s_35, wd_1_10, wd_4_64, cx_X7_wrong, Nat.le_of_ble_eq_true rfl, Nat.le_of_ble_eq_true rfl⟩ 0 (ci := 7) rfl rfl rfl (SubW.full _ _) rfl hl.1 rfl (Nat.le_of_ble_eq_true rfl) dX7_written_30 (Nat.zero_le _) (Nat.zero_le _) ?_
      refine s_iconst (v := (0 : Int32)) C dX7_written_33 (by decide) ?_
      exact ret _ _ _ _ dX7_written_34 rfl (rt_2 hf).1 (congrArg (fun σ => (wM h q σ)) (rt_2 hf).2)
  · replace hf := it_t c3 hf
    refine s_iconst (v := (0 : Int32)) C dX7_written_8 (by decide) ?_
    exact ret _ _ _ _ dX7_written_9 rfl (rt_2 hf).1 (congrArg (fun σ => (wM h q σ)) (rt_2 hf).2)
def pf_X7_goOut (N : Nat) (x1 : Int32) (σ : St) : Option St := (pf_X7_fromList N x1 σ).bind (fun z1 => bI x1 (3072) (bI ((z1.2.1 5) (Int32.toNatClampNeg x1)) (64) (lt_ (sA z1 14 (upd (z1.2.1 14) (Int32.toNatClampNeg ((z1.2.1 5) (Int32.toNatClampNeg x1))) (vp_nar .boolean (0 : Int32)))) (fun σ5 => bI x1 (3072) (lt_ (sA σ5 5 (upd (σ5.2.1 5) (Int32.toNatClampNeg x1) (-1 : Int32))) (fun σ8 => bI x1 (3072) (lt_ (sA σ8 7 (upd (σ8.2.1 7) (Int32.toNatClampNeg x1) (-1 : Int32))) (fun σ11 => bI x1 (3072) (lt_ (sA σ11 9 (upd (σ11.2.1 9) (Int32.toNatClampNeg x1) (vp_nar .boolean (0 : Int32)))) (fun σ14 => bI x1 (3072) (lt_ (sA σ14 10 (upd (σ14.2.1 10) (Int32.toNatClampNeg x1) (vp_nar .boolean (0 : Int32)))) (fun σ17 => bI x1 (3072) (lt_ (sA σ17 11 (upd (σ17.2.1 11) (Int32.toNatClampNeg x1) (vp_nar .boolean (0 : Int32)))) (fun σ20 => some σ20))))))))))))))
theorem cx_X7_goOut : (yX7_goOut.cls ≠ "java/lang/invoke/MethodHandle" ∧ yX7_goOut.cls ≠ "java/lang/invoke/VarHandle" ∧ (parseMethodDescriptor yX7_goOut.desc).map (fun d => d.parameters.length) = some 1) := by decide +kernel
set_option maxHeartbeats 4000000 in
set_option maxRecDepth 100000 in
theorem c_X7_goOut (l : Launch) (D : va_G) (q : Nat → ClassId) (h : Nat → Nat) (N : Nat) (x1 : Int32) (σ : St) (z : St) (hf : pf_X7_goOut N x1 σ = some z) : MV l yX7_goOut cX7_goOut 2 (none) 2 45 D (tyQ q) [.ref (h 0), .int x1] (wM h q σ) (wM h q z) := by
  refine MV.of (by decide) (Nat.le_of_ble_eq_true rfl) ?_
  intro p e s m args below meth c Q A C ret ls hl
  have hl : lv_has ls 2 [(0, .ref (h 0)), (1, .int x1)] := hl
  unfold pf_X7_goOut at hf
  refine s_aload_n C dX7_goOut_0 rfl (lv_at hl 0 rfl) ?_
  refine s_iload_n C dX7_goOut_1 rfl (lv_at hl 1 rfl) ?_
  obtain ⟨z1, h2, hf⟩ := bn_some hf
  refine s_callVV (As := [.int x1]) (rest := []) C (c_X7_fromList l D q h N x1 σ z1 h2) ⟨wd_4_29, wd_4_31, wd_s_27, wd_1_10, wd_4_32, cx_X7_fromList, Nat.le_of_ble_eq_true rfl, Nat.le_of_ble_eq_true rfl⟩ 0 (ci := 7) rfl rfl rfl (SubW.full _ _) rfl hl.1 rfl (Nat.le_of_ble_eq_true rfl) dX7_goOut_2 (Nat.zero_le _) (Nat.zero_le _) ?_
  refine s_aload_n C dX7_goOut_5 rfl (lv_at hl 0 rfl) ?_
  refine gM_0_17 C wd_3_156 dX7_goOut_6 ?_
  refine s_aload_n C dX7_goOut_9 rfl (lv_at hl 0 rfl) ?_
  refine gM_0_6 C wd_3_145 dX7_goOut_10 ?_
  refine s_iload_n C dX7_goOut_13 rfl (lv_at hl 1 rfl) ?_
  obtain ⟨hi3, hf⟩ := bI_some hf
  refine ldM_5 C hi3 dX7_goOut_14 ?_
  refine s_iconst (v := (0 : Int32)) C dX7_goOut_15 (by decide) ?_
  obtain ⟨hi4, hf⟩ := bI_some hf
  refine stM_14 C hi4 dX7_goOut_16 ?_
  obtain ⟨σ5, e6, hf⟩ := lt_some hf
  refine s_w (ws2 := (wM h q σ5)) (by rw [e6]) ?_
  clear e6
  refine s_aload_n C dX7_goOut_17 rfl (lv_at hl 0 rfl) ?_
  refine gM_0_6 C wd_3_145 dX7_goOut_18 ?_
  refine s_iload_n C dX7_goOut_21 rfl (lv_at hl 1 rfl) ?_
  refine s_iconst (v := (-1 : Int32)) C dX7_goOut_22 (by decide) ?_
  obtain ⟨hi7, hf⟩ := bI_some hf
  refine stM_5 C hi7 dX7_goOut_23 ?_
  obtain ⟨σ8, e9, hf⟩ := lt_some hf
  refine s_w (ws2 := (wM h q σ8)) (by rw [e9]) ?_
  clear e9
  refine s_aload_n C dX7_goOut_24 rfl (lv_at hl 0 rfl) ?_
  refine gM_0_8 C wd_3_147 dX7_goOut_25 ?_
  refine s_iload_n C dX7_goOut_28 rfl (lv_at hl 1 rfl) ?_
  refine s_iconst (v := (-1 : Int32)) C dX7_goOut_29 (by decide) ?_
  obtain ⟨hi10, hf⟩ := bI_some hf
  refine stM_7 C hi10 dX7_goOut_30 ?_
  obtain ⟨σ11, e12, hf⟩ := lt_some hf
  refine s_w (ws2 := (wM h q σ11)) (by rw [e12]) ?_
  clear e12
  refine s_aload_n C dX7_goOut_31 rfl (lv_at hl 0 rfl) ?_
  refine gM_0_10 C wd_3_149 dX7_goOut_32 ?_
  refine s_iload_n C dX7_goOut_35 rfl (lv_at hl 1 rfl) ?_
  refine s_iconst (v := (0 : Int32)) C dX7_goOut_36 (by decide) ?_
  obtain ⟨hi13, hf⟩ := bI_some hf
  refine stM_9 C hi13 dX7_goOut_37 ?_
  obtain ⟨σ14, e15, hf⟩ := lt_some hf
  refine s_w (ws2 := (wM h q σ14)) (by rw [e15]) ?_
  clear e15
  refine s_aload_n C dX7_goOut_38 rfl (lv_at hl 0 rfl) ?_
  refine gM_0_11 C wd_3_150 dX7_goOut_39 ?_
  refine s_iload_n C dX7_goOut_42 rfl (lv_at hl 1 rfl) ?_
  refine s_iconst (v := (0 : Int32)) C dX7_goOut_43 (by decide) ?_
  obtain ⟨hi16, hf⟩ := bI_some hf
  refine stM_10 C hi16 dX7_goOut_44 ?_
  obtain ⟨σ17, e18, hf⟩ := lt_some hf
  refine s_w (ws2 := (wM h q σ17)) (by rw [e18]) ?_
  clear e18
  refine s_aload_n C dX7_goOut_45 rfl (lv_at hl 0 rfl) ?_
  refine gM_0_12 C wd_3_151 dX7_goOut_46 ?_
  refine s_iload_n C dX7_goOut_49 rfl (lv_at hl 1 rfl) ?_
  refine s_iconst (v := (0 : Int32)) C dX7_goOut_50 (by decide) ?_
  obtain ⟨hi19, hf⟩ := bI_some hf
  refine stM_11 C hi19 dX7_goOut_51 ?_
  obtain ⟨σ20, e21, hf⟩ := lt_some hf
  refine s_w (ws2 := (wM h q σ20)) (by rw [e21]) ?_
  clear e21
  exact ret _ _ _ dX7_goOut_52 (congrArg (fun σ => (wM h q σ)) (rt_1 hf))
def pf_X7_noShadow_b19 (N : Nat) (x1 : Int32) (y2 : Int32) (y1 : Int32) (σ : St) : Option St := lt_ (sG σ 7 (y1 - y2)) (fun σ3 => bI x1 (3072) (lt_ (sA σ3 8 (upd (σ3.2.1 8) (Int32.toNatClampNeg x1) (0 : Int32))) (fun σ6 => some σ6)))
def pf_X7_noShadow (N : Nat) (x1 : Int32) (σ : St) : Option St := bI x1 (3072) (if ((σ.2.1 8) (Int32.toNatClampNeg x1)) ≤ 0 then pf_X7_noShadow_b19 N x1 (0 : Int32) (σ.1 7) σ else pf_X7_noShadow_b19 N x1 (1 : Int32) (σ.1 7) σ)
theorem cx_X7_noShadow : (yX7_noShadow.cls ≠ "java/lang/invoke/MethodHandle" ∧ yX7_noShadow.cls ≠ "java/lang/invoke/VarHandle" ∧ (parseMethodDescriptor yX7_noShadow.desc).map (fun d => d.parameters.length) = some 1) := by decide +kernel
set_option maxHeartbeats 4000000 in
set_option maxRecDepth 100000 in
theorem c_X7_noShadow (l : Launch) (D : va_G) (q : Nat → ClassId) (h : Nat → Nat) (N : Nat) (x1 : Int32) (σ : St) (z : St) (hf : pf_X7_noShadow N x1 σ = some z) : MV l yX7_noShadow cX7_noShadow 2 (none) 0 0 D (tyQ q) [.ref (h 0), .int x1] (wM h q σ) (wM h q z) := by
  refine MV.of (by decide) (Nat.le_of_ble_eq_true rfl) ?_
  intro p e s m args below meth c Q A C ret ls hl
  have hl : lv_has ls 2 [(0, .ref (h 0)), (1, .int x1)] := hl
  unfold pf_X7_noShadow at hf
  have b19 : ∀ (x1 : Int32) (y2 : Int32) (y1 : Int32) (σ : St), pf_X7_noShadow_b19 N x1 y2 y1 σ = some z → ∀ ls : Array Slot, lv_has ls 2 [(0, .ref (h 0)), (1, .int x1)] → WG p l e (rmO 0 0) s m args below meth c D A 0 0 Q (wM h q σ) (F0 m 19 ls [.int y2, .int y1, .ref (h 0)]) := by
    intro x1 y2 y1 σ hf ls hl
    unfold pf_X7_noShadow_b19 at hf
    refine s_isub C dX7_noShadow_19 ?_
    refine uM_0_26 C wd_3_165 dX7_noShadow_20 ?_
    obtain ⟨σ3, e4, hf⟩ := lt_some hf
    refine s_w (ws2 := (wM h q σ3)) (by rw [e4]) ?_
    clear e4
    refine s_aload_n C dX7_noShadow_23 rfl (lv_at hl 0 rfl) ?_
    refine gM_0_9 C wd_3_148 dX7_noShadow_24 ?_
    refine s_iload_n C dX7_noShadow_27 rfl (lv_at hl 1 rfl) ?_
    refine s_iconst (v := (0 : Int32)) C dX7_noShadow_28 (by decide) ?_
    obtain ⟨hi5, hf⟩ := bI_some hf
    refine stM_8 C hi5 dX7_noShadow_29 ?_
    obtain ⟨σ6, e7, hf⟩ := lt_some hf
    refine s_w (ws2 := (wM h q σ6)) (by rw [e7]) ?_
    clear e7
    exact ret _ _ _ dX7_noShadow_30 (congrArg (fun σ => (wM h q σ)) (rt_1 hf))
  refine s_aload_n C dX7_noShadow_0 rfl (lv_at hl 0 rfl) ?_
  refine s_dup C dX7_noShadow_1 rfl ?_
  refine gM_0_26 C wd_3_165 dX7_noShadow_2 ?_
  refine s_aload_n C dX7_noShadow_5 rfl (lv_at hl 0 rfl) ?_
  refine gM_0_9 C wd_3_148 dX7_noShadow_6 ?_
  refine s_iload_n C dX7_noShadow_9 rfl (lv_at hl 1 rfl) ?_
  obtain ⟨hi1, hf⟩ := bI_some hf
  refine ldM_8 C hi1 dX7_noShadow_10 ?_
  refine s_if_le (tgt := 18) C dX7_noShadow_11 (by decide) (fun c2 => ?_) (fun c2 => ?_)
  · replace hf := it_t c2 hf
    refine s_iconst (v := (0 : Int32)) C dX7_noShadow_18 (by decide) ?_
    exact b19 _ _ _ _ hf _ (lv_sub hl [0, 1] rfl)
  · replace hf := it_f c2 hf
    refine s_iconst (v := (1 : Int32)) C dX7_noShadow_14 (by decide) ?_
    refine s_goto (tgt := 19) C dX7_noShadow_15 (by decide) ?_
    exact b19 _ _ _ _ hf _ (lv_sub hl [0, 1] rfl)
def pf_X7_evict_b92 (N : Nat) (J51 : Int32 → Int32 → St → Option St) (x3 : Int32) (y0 : Int32) (σ : St) : Option St := J51 y0 (x3 + 1) σ
def pf_X7_evict_b91 (N : Nat) (J51 : Int32 → Int32 → St → Option St) (x2 : Int32) (x3 : Int32) (σ : St) : Option St := pf_X7_evict_b92 N J51 x3 x2 σ
def pf_X7_evict_b87 (N : Nat) (J51 : Int32 → Int32 → St → Option St) (x3 : Int32) (σ : St) : Option St := pf_X7_evict_b92 N J51 x3 x3 σ
def pf_X7_evict_L51 (N : Nat) : Nat → Int32 → Int32 → St → Option St
  | 0, _, _, _ => none
  | n + 1, x2, x3, σ => if (3072 : Int32) ≤ x3 then (pf_X7_noShadow N x2 σ).bind (fun z12 => some z12) else bI x3 (3072) (if ((σ.2.1 8) (Int32.toNatClampNeg x3)) ≤ 0 then pf_X7_evict_b91 N (pf_X7_evict_L51 N n) x2 x3 σ else if x2 = (-1 : Int32) then pf_X7_evict_b87 N (pf_X7_evict_L51 N n) x3 σ else bI x3 (3072) (bI x2 (3072) (if ((σ.2.1 8) (Int32.toNatClampNeg x2)) ≤ ((σ.2.1 8) (Int32.toNatClampNeg x3)) then pf_X7_evict_b91 N (pf_X7_evict_L51 N n) x2 x3 σ else pf_X7_evict_b87 N (pf_X7_evict_L51 N n) x3 σ)))
def pf_X7_evict (N : Nat) (x1 : Int32) (σ : St) : Option St := (pf_X7_goOut N x1 σ).bind (fun z1 => lt_ (sG z1 6 ((z1.1 6) + (1 : Int32))) (fun σ3 => bI x1 (3072) (lt_ (sA σ3 8 (upd (σ3.2.1 8) (Int32.toNatClampNeg x1) (σ3.1 6))) (fun σ6 => lt_ (sG σ6 7 ((σ6.1 7) + (1 : Int32))) (fun σ8 => if (σ8.1 0) < (σ8.1 7) then pf_X7_evict_L51 N N (-1 : Int32) (0 : Int32) σ8 else some σ8)))))
theorem cx_X7_evict : (yX7_evict.cls ≠ "java/lang/invoke/MethodHandle" ∧ yX7_evict.cls ≠ "java/lang/invoke/VarHandle" ∧ (parseMethodDescriptor yX7_evict.desc).map (fun d => d.parameters.length) = some 1) := by decide +kernel
set_option maxHeartbeats 4000000 in
set_option maxRecDepth 100000 in
theorem c_X7_evict (l : Launch) (D : va_G) (q : Nat → ClassId) (h : Nat → Nat) (N : Nat) (x1 : Int32) (σ : St) (z : St) (hf : pf_X7_evict N x1 σ = some z) : MV l yX7_evict cX7_evict 4 (none) 3 66 D (tyQ q) [.ref (h 0), .int x1] (wM h q σ) (wM h q z) := by
  refine MV.of (by decide) (Nat.le_of_ble_eq_true rfl) ?_
  intro p e s m args below meth c Q A C ret ls hl
  have hl : lv_has ls 4 [(0, .ref (h 0)), (1, .int x1)] := hl
  unfold pf_X7_evict at hf
  have b92 : ∀ (J51 : Int32 → Int32 → St → Option St) (hJ51 : ∀ (x2 : Int32) (x3 : Int32) (σ : St), J51 x2 x3 σ = some z → ∀ ls : Array Slot, lv_has ls 4 [(0, .ref (h 0)), (2, .int x2), (3, .int x3)] → WG p l e (rmO 3 66) s m args below meth c D A 0 0 Q (wM h q σ) (F0 m 51 ls [])) (x3 : Int32) (y0 : Int32) (σ : St), pf_X7_evict_b92 N J51 x3 y0 σ = some z → ∀ ls : Array Slot, lv_has ls 4 [(0, .ref (h 0)), (3, .int x3)] → WG p l e (rmO 3 66) s m args below meth c D A 0 0 Q (wM h q σ) (F0 m 92 ls [.int y0]) := by
    intro J51 hJ51 x3 y0 σ hf ls hl
    unfold pf_X7_evict_b92 at hf
    refine s_istore_n (lv2 := [(2, .int y0), (0, .ref (h 0)), (3, .int x3)]) C dX7_evict_92 rfl hl (by decide) rfl ?_
    intro ls hl
    refine s_iinc (v := (x3 + 1)) (lv2 := [(3, .int (x3 + 1)), (2, .int y0), (0, .ref (h 0))]) C 2 dX7_evict_93 hl rfl rfl (by decide) rfl ?_
    intro ls hl
    refine s_goto (tgt := 51) C dX7_evict_96 (by decide) ?_
    exact hJ51 _ _ _ hf _ (lv_sub hl [2, 1, 0] rfl)
  have b91 : ∀ (J51 : Int32 → Int32 → St → Option St) (hJ51 : ∀ (x2 : Int32) (x3 : Int32) (σ : St), J51 x2 x3 σ = some z → ∀ ls : Array Slot, lv_has ls 4 [(0, .ref (h 0)), (2, .int x2), (3, .int x3)] → WG p l e (rmO 3 66) s m args below meth c D A 0 0 Q (wM h q σ) (F0 m 51 ls [])) (x2 : Int32) (x3 : Int32) (σ : St), pf_X7_evict_b91 N J51 x2 x3 σ = some z → ∀ ls : Array Slot, lv_has ls 4 [(0, .ref (h 0)), (2, .int x2), (3, .int x3)] → WG p l e (rmO 3 66) s m args below meth c D A 0 0 Q (wM h q σ) (F0 m 91 ls []) := by
    intro J51 hJ51 x2 x3 σ hf ls hl
    unfold pf_X7_evict_b91 at hf
    refine s_iload_n C dX7_evict_91 rfl (lv_at hl 1 rfl) ?_
    exact b92 _ hJ51 _ _ _ hf _ (lv_sub hl [0, 2] rfl)
  have b87 : ∀ (J51 : Int32 → Int32 → St → Option St) (hJ51 : ∀ (x2 : Int32) (x3 : Int32) (σ : St), J51 x2 x3 σ = some z → ∀ ls : Array Slot, lv_has ls 4 [(0, .ref (h 0)), (2, .int x2), (3, .int x3)] → WG p l e (rmO 3 66) s m args below meth c D A 0 0 Q (wM h q σ) (F0 m 51 ls [])) (x3 : Int32) (σ : St), pf_X7_evict_b87 N J51 x3 σ = some z → ∀ ls : Array Slot, lv_has ls 4 [(0, .ref (h 0)), (3, .int x3)] → WG p l e (rmO 3 66) s m args below meth c D A 0 0 Q (wM h q σ) (F0 m 87 ls []) := by
    intro J51 hJ51 x3 σ hf ls hl
    unfold pf_X7_evict_b87 at hf
    refine s_iload_n C dX7_evict_87 rfl (lv_at hl 1 rfl) ?_
    refine s_goto (tgt := 92) C dX7_evict_88 (by decide) ?_
    exact b92 _ hJ51 _ _ _ hf _ (lv_sub hl [0, 1] rfl)
  have L51 : ∀ (n : Nat) (x2 : Int32) (x3 : Int32) (σ : St), pf_X7_evict_L51 N n x2 x3 σ = some z → ∀ ls : Array Slot, lv_has ls 4 [(0, .ref (h 0)), (2, .int x2), (3, .int x3)] → WG p l e (rmO 3 66) s m args below meth c D A 0 0 Q (wM h q σ) (F0 m 51 ls []) := by
    intro n
    induction n with
    | zero => intro x2 x3 σ hf; unfold pf_X7_evict_L51 at hf; cases hf
    | succ n ih =>
      intro x2 x3 σ hf ls hl
      unfold pf_X7_evict_L51 at hf
      refine s_iload_n C dX7_evict_51 rfl (lv_at hl 2 rfl) ?_
      refine s_sipush (v := (3072 : Int32)) C dX7_evict_52 (by decide) ?_
      refine s_icmp_ge (tgt := 99) C dX7_evict_55 (by decide) (fun c11 => ?_) (fun c11 => ?_)
      · replace hf := it_t c11 hf
        refine s_aload_n C dX7_evict_99 rfl (lv_at hl 0 rfl) ?_
        refine s_iload_n C dX7_evict_100 rfl (lv_at hl 1 rfl) ?_
        obtain ⟨z12, h13, hf⟩ := bn_some hf
        refine s_callVV (As := [.int x2]) (rest := []) C (c_X7_noShadow l D q h N x2 σ z12 h13) ⟨wd_4_77, wd_4_79, wd_s_39, wd_1_10, wd_4_80, cx_X7_noShadow, Nat.le_of_ble_eq_true rfl, Nat.le_of_ble_eq_true rfl⟩ 0 (ci := 7) rfl rfl rfl (SubW.full _ _) rfl hl.1 rfl (Nat.le_of_ble_eq_true rfl) dX7_evict_101 (Nat.zero_le _) (Nat.zero_le _) ?_
        exact ret _ _ _ dX7_evict_104 (congrArg (fun σ => (wM h q σ)) (rt_1 hf))
      · replace hf := it_f c11 hf
        refine s_aload_n C dX7_evict_58 rfl (lv_at hl 0 rfl) ?_
        refine gM_0_9 C wd_3_148 dX7_evict_59 ?_
        refine s_iload_n C dX7_evict_62 rfl (lv_at hl 2 rfl) ?_
        obtain ⟨hi14, hf⟩ := bI_some hf
        refine ldM_8 C hi14 dX7_evict_63 ?_
        refine s_if_le (tgt := 91) C dX7_evict_64 (by decide) (fun c15 => ?_) (fun c15 => ?_)
        · replace hf := it_t c15 hf
          exact b91 _ ih _ _ _ hf _ (lv_sub hl [0, 1, 2] rfl)
        · replace hf := it_f c15 hf
          refine s_iload_n C dX7_evict_67 rfl (lv_at hl 1 rfl) ?_
          refine s_iconst (v := (-1 : Int32)) C dX7_evict_68 (by decide) ?_
          refine s_icmp_eq (tgt := 87) C dX7_evict_69 (by decide) (fun c16 => ?_) (fun c16 => ?_)
          · replace hf := it_t c16 hf
            exact b87 _ ih _ _ hf _ (lv_sub hl [0, 2] rfl)
          · replace hf := it_f c16 hf
            refine s_aload_n C dX7_evict_72 rfl (lv_at hl 0 rfl) ?_
            refine gM_0_9 C wd_3_148 dX7_evict_73 ?_
            refine s_iload_n C dX7_evict_76 rfl (lv_at hl 2 rfl) ?_
            obtain ⟨hi17, hf⟩ := bI_some hf
            refine ldM_8 C hi17 dX7_evict_77 ?_
            refine s_aload_n C dX7_evict_78 rfl (lv_at hl 0 rfl) ?_
            refine gM_0_9 C wd_3_148 dX7_evict_79 ?_
            refine s_iload_n C dX7_evict_82 rfl (lv_at hl 1 rfl) ?_
            obtain ⟨hi18, hf⟩ := bI_some hf
            refine ldM_8 C hi18 dX7_evict_83 ?_
            refine s_icmp_ge (tgt := 91) C dX7_evict_84 (by decide) (fun c19 => ?_) (fun c19 => ?_)
            · replace hf := it_t c19 hf
              exact b91 _ ih _ _ _ hf _ (lv_sub hl [0, 1, 2] rfl)
            · replace hf := it_f c19 hf
              exact b87 _ ih _ _ hf _ (lv_sub hl [0, 2] rfl)
  refine s_aload_n C dX7_evict_0 rfl (lv_at hl 0 rfl) ?_
  refine s_iload_n C dX7_evict_1 rfl (lv_at hl 1 rfl) ?_
  obtain ⟨z1, h2, hf⟩ := bn_some hf
  refine s_callVV (As := [.int x1]) (rest := []) C (c_X7_goOut l D q h N x1 σ z1 h2) ⟨wd_4_73, wd_4_75, wd_s_38, wd_1_10, wd_4_76, cx_X7_goOut, Nat.le_of_ble_eq_true rfl, Nat.le_of_ble_eq_true rfl⟩ 0 (ci := 7) rfl rfl rfl (SubW.full _ _) rfl hl.1 rfl (Nat.le_of_ble_eq_true rfl) dX7_evict_2 (Nat.zero_le _) (Nat.zero_le _) ?_
  refine s_aload_n C dX7_evict_5 rfl (lv_at hl 0 rfl) ?_
  refine s_dup C dX7_evict_6 rfl ?_
  refine gM_0_25 C wd_3_164 dX7_evict_7 ?_
  refine s_iconst (v := (1 : Int32)) C dX7_evict_10 (by decide) ?_
  refine s_iadd C dX7_evict_11 ?_
  refine uM_0_25 C wd_3_164 dX7_evict_12 ?_
  obtain ⟨σ3, e4, hf⟩ := lt_some hf
  refine s_w (ws2 := (wM h q σ3)) (by rw [e4]) ?_
  clear e4
  refine s_aload_n C dX7_evict_15 rfl (lv_at hl 0 rfl) ?_
  refine gM_0_9 C wd_3_148 dX7_evict_16 ?_
  refine s_iload_n C dX7_evict_19 rfl (lv_at hl 1 rfl) ?_
  refine s_aload_n C dX7_evict_20 rfl (lv_at hl 0 rfl) ?_
  refine gM_0_25 C wd_3_164 dX7_evict_21 ?_
  obtain ⟨hi5, hf⟩ := bI_some hf
  refine stM_8 C hi5 dX7_evict_24 ?_
  obtain ⟨σ6, e7, hf⟩ := lt_some hf
  refine s_w (ws2 := (wM h q σ6)) (by rw [e7]) ?_
  clear e7
  refine s_aload_n C dX7_evict_25 rfl (lv_at hl 0 rfl) ?_
  refine s_dup C dX7_evict_26 rfl ?_
  refine gM_0_26 C wd_3_165 dX7_evict_27 ?_
  refine s_iconst (v := (1 : Int32)) C dX7_evict_30 (by decide) ?_
  refine s_iadd C dX7_evict_31 ?_
  refine uM_0_26 C wd_3_165 dX7_evict_32 ?_
  obtain ⟨σ8, e9, hf⟩ := lt_some hf
  refine s_w (ws2 := (wM h q σ8)) (by rw [e9]) ?_
  clear e9
  refine s_aload_n C dX7_evict_35 rfl (lv_at hl 0 rfl) ?_
  refine gM_0_26 C wd_3_165 dX7_evict_36 ?_
  refine s_aload_n C dX7_evict_39 rfl (lv_at hl 0 rfl) ?_
  refine gM_0_0 C wd_3_139 dX7_evict_40 ?_
  refine s_icmp_gt (tgt := 47) C dX7_evict_43 (by decide) (fun c10 => ?_) (fun c10 => ?_)
  · replace hf := it_t c10 hf
    refine s_iconst (v := (-1 : Int32)) C dX7_evict_47 (by decide) ?_
    refine s_istore_n (lv2 := [(2, .int (-1 : Int32)), (0, .ref (h 0)), (1, .int x1)]) C dX7_evict_48 rfl hl (by decide) rfl ?_
    intro ls hl
    refine s_iconst (v := (0 : Int32)) C dX7_evict_49 (by decide) ?_
    refine s_istore_n (lv2 := [(3, .int (0 : Int32)), (2, .int (-1 : Int32)), (0, .ref (h 0)), (1, .int x1)]) C dX7_evict_50 rfl hl (by decide) rfl ?_
    intro ls hl
    exact L51 N _ _ _ hf _ (lv_sub hl [2, 1, 0] rfl)
  · replace hf := it_f c10 hf
    exact ret _ _ _ dX7_evict_46 (congrArg (fun σ => (wM h q σ)) (rt_1 hf))
def pf_X7_frame_b249 (N : Nat) (J199 : Int32 → St → Option (Int32 × St)) (x1 : Int32) (σ : St) : Option (Int32 × St) := J199 (x1 + (-1)) σ
def pf_X7_frame_b235 (N : Nat) (x2 : Int32) (σ : St) : Option (Int32 × St) := bI x2 (3072) (lt_ ((σ.2.1 5) (Int32.toNatClampNeg x2)) (fun v16 => (pf_X7_evict N x2 σ).bind (fun z18 => some (v16, z18))))
def pf_X7_frame_L199 (N : Nat) : Nat → Int32 → St → Option (Int32 × St)
  | 0, _, _ => none
  | n + 1, x1, σ => if x1 < 0 then some ((-1 : Int32), σ) else bI x1 (65) (lt_ ((σ.2.1 12) (Int32.toNatClampNeg x1)) (fun v8 => bI v8 (3072) (if ((σ.2.1 10) (Int32.toNatClampNeg v8)) = 0 then (pf_X7_isDirty N v8 σ).bind (fun z12 => if z12 = 0 then pf_X7_frame_b235 N v8 σ else (pf_X7_written N v8 σ).bind (fun z20 => if z20.1 = 0 then pf_X7_frame_b249 N (pf_X7_frame_L199 N n) x1 z20.2 else pf_X7_frame_b235 N v8 z20.2)) else pf_X7_frame_b249 N (pf_X7_frame_L199 N n) x1 σ)))
def pf_X7_frame_b192 (N : Nat) (σ : St) : Option (Int32 × St) := lt_ ((σ.1 2) - (1 : Int32)) (fun v4 => pf_X7_frame_L199 N N v4 σ)
def pf_X7_frame_b172 (N : Nat) (x2 : Int32) (σ : St) : Option (Int32 × St) := bI x2 (3072) (lt_ ((σ.2.1 5) (Int32.toNatClampNeg x2)) (fun v35 => (pf_X7_evict N x2 σ).bind (fun z37 => some (v35, z37))))
def pf_X7_frame_b186 (N : Nat) (J75 : Int32 → St → Option (Int32 × St)) (x1 : Int32) (σ : St) : Option (Int32 × St) := J75 (x1 + 1) σ
def pf_X7_frame_L75 (N : Nat) : Nat → Int32 → St → Option (Int32 × St)
  | 0, _, _ => none
  | n + 1, x1, σ => if ((2 : Int32) * (σ.1 0)) ≤ x1 then pf_X7_frame_b192 N σ else if (σ.1 3) ≤ 0 then pf_X7_frame_b192 N σ else bI ((σ.1 3) - (1 : Int32)) (65) (lt_ ((σ.2.1 13) (Int32.toNatClampNeg ((σ.1 3) - (1 : Int32)))) (fun v25 => bI v25 (3072) (if ((σ.2.1 10) (Int32.toNatClampNeg v25)) = 0 then bI v25 (3072) (if ((σ.2.1 9) (Int32.toNatClampNeg v25)) = 0 then (pf_X7_isDirty N v25 σ).bind (fun z31 => if z31 = 0 then pf_X7_frame_b172 N v25 σ else (pf_X7_written N v25 σ).bind (fun z39 => if z39.1 = 0 then (pf_X7_move N v25 (0 : Int32) z39.2).bind (fun z42 => pf_X7_frame_b186 N (pf_X7_frame_L75 N n) x1 z42) else pf_X7_frame_b172 N v25 z39.2)) else bI v25 (3072) (lt_ (sA σ 9 (upd (σ.2.1 9) (Int32.toNatClampNeg v25) (vp_nar .boolean (0 : Int32)))) (fun σ45 => (pf_X7_move N v25 (1 : Int32) σ45).bind (fun z47 => pf_X7_frame_b186 N (pf_X7_frame_L75 N n) x1 z47)))) else (pf_X7_move N v25 (0 : Int32) σ).bind (fun z49 => pf_X7_frame_b186 N (pf_X7_frame_L75 N n) x1 z49))))
def pf_X7_frame_L27 (N : Nat) : Nat → St → Option (Int32 × St)
  | 0, _ => none
  | n + 1, σ => if (σ.1 2) ≤ (σ.1 3) then pf_X7_frame_L75 N N (0 : Int32) σ else bI ((σ.1 2) - (1 : Int32)) (65) (lt_ ((σ.2.1 12) (Int32.toNatClampNeg ((σ.1 2) - (1 : Int32)))) (fun v52 => bI v52 (3072) (lt_ ((σ.2.1 9) (Int32.toNatClampNeg v52)) (fun v55 => bI v52 (3072) (lt_ (sA σ 9 (upd (σ.2.1 9) (Int32.toNatClampNeg v52) (vp_nar .boolean (0 : Int32)))) (fun σ58 => (pf_X7_move N v52 v55 σ58).bind (fun z60 => (pf_X7_frame_L27 N n) z60)))))))
def pf_X7_frame_L2 (N : Nat) : Nat → Int32 → St → Option (Int32 × St)
  | 0, _, _ => none
  | n + 1, x1, σ => if (σ.1 0) ≤ x1 then pf_X7_frame_L27 N N σ else bI x1 (64) (if ((σ.2.1 14) (Int32.toNatClampNeg x1)) = 0 then some (x1, σ) else (pf_X7_frame_L2 N n) (x1 + 1) σ)
def pf_X7_frame (N : Nat) (σ : St) : Option (Int32 × St) := pf_X7_frame_L2 N N (0 : Int32) σ
theorem cx_X7_frame : (yX7_frame.cls ≠ "java/lang/invoke/MethodHandle" ∧ yX7_frame.cls ≠ "java/lang/invoke/VarHandle" ∧ (parseMethodDescriptor yX7_frame.desc).map (fun d => d.parameters.length) = some 0) := by decide +kernel
set_option maxHeartbeats 4000000 in
set_option maxRecDepth 100000 in
theorem c_X7_frame (l : Launch) (D : va_G) (q : Nat → ClassId) (h : Nat → Nat) (N : Nat) (σ : St) (z : (Int32 × St)) (hf : pf_X7_frame N σ = some z) : MI l yX7_frame cX7_frame 4 (some .int) 4 89 D (tyQ q) [.ref (h 0)] (wM h q σ) (wM h q z.2) z.1 := by
  refine MI.of (by decide) (Nat.le_of_ble_eq_true rfl) ?_
  intro p e s m args below meth c Q A C ret ls hl
  have hl : lv_has ls 4 [(0, .ref (h 0))] := hl
  unfold pf_X7_frame at hf
  have b249 : ∀ (J199 : Int32 → St → Option (Int32 × St)) (hJ199 : ∀ (x1 : Int32) (σ : St), J199 x1 σ = some z → ∀ ls : Array Slot, lv_has ls 4 [(0, .ref (h 0)), (1, .int x1)] → WG p l e (rmO 4 89) s m args below meth c D A 0 0 Q (wM h q σ) (F0 m 199 ls [])) (x1 : Int32) (σ : St), pf_X7_frame_b249 N J199 x1 σ = some z → ∀ ls : Array Slot, lv_has ls 4 [(0, .ref (h 0)), (1, .int x1)] → WG p l e (rmO 4 89) s m args below meth c D A 0 0 Q (wM h q σ) (F0 m 249 ls []) := by
    intro J199 hJ199 x1 σ hf ls hl
    unfold pf_X7_frame_b249 at hf
    refine s_iinc (v := (x1 + (-1))) (lv2 := [(1, .int (x1 + (-1))), (0, .ref (h 0))]) C 1 dX7_frame_249 hl rfl rfl (by decide) rfl ?_
    intro ls hl
    refine s_goto (tgt := 199) C dX7_frame_252 (by decide) ?_
    exact hJ199 _ _ hf _ (lv_sub hl [1, 0] rfl)
  have b235 : ∀ (x2 : Int32) (σ : St), pf_X7_frame_b235 N x2 σ = some z → ∀ ls : Array Slot, lv_has ls 4 [(0, .ref (h 0)), (2, .int x2)] → WG p l e (rmO 4 89) s m args below meth c D A 0 0 Q (wM h q σ) (F0 m 235 ls []) := by
    intro x2 σ hf ls hl
    unfold pf_X7_frame_b235 at hf
    refine s_aload_n C dX7_frame_235 rfl (lv_at hl 0 rfl) ?_
    refine gM_0_6 C wd_3_145 dX7_frame_236 ?_
    refine s_iload_n C dX7_frame_239 rfl (lv_at hl 1 rfl) ?_
    obtain ⟨hi15, hf⟩ := bI_some hf
    refine ldM_5 C hi15 dX7_frame_240 ?_
    obtain ⟨v16, e17, hf⟩ := lt_some hf
    refine s_eq (g2 := F0 m 241 ls [.int v16]) (by rw [e17]) ?_
    clear e17
    refine s_istore_n (lv2 := [(3, .int v16), (0, .ref (h 0)), (2, .int x2)]) C dX7_frame_241 rfl hl (by decide) rfl ?_
    intro ls hl
    refine s_aload_n C dX7_frame_242 rfl (lv_at hl 1 rfl) ?_
    refine s_iload_n C dX7_frame_243 rfl (lv_at hl 2 rfl) ?_
    obtain ⟨z18, h19, hf⟩ := bn_some hf
    refine s_callVV (As := [.int x2]) (rest := []) C (c_X7_evict l D q h N x2 σ z18 h19) ⟨wd_4_69, wd_4_71, wd_s_37, wd_1_10, wd_4_72, cx_X7_evict, Nat.le_of_ble_eq_true rfl, Nat.le_of_ble_eq_true rfl⟩ 0 (ci := 7) rfl rfl rfl (SubW.full _ _) rfl hl.1 rfl (Nat.le_of_ble_eq_true rfl) dX7_frame_244 (Nat.zero_le _) (Nat.zero_le _) ?_
    refine s_iload_n C dX7_frame_247 rfl (lv_at hl 0 rfl) ?_
    exact ret _ _ _ _ dX7_frame_248 rfl (rt_2 hf).1 (congrArg (fun σ => (wM h q σ)) (rt_2 hf).2)
  have L199 : ∀ (n : Nat) (x1 : Int32) (σ : St), pf_X7_frame_L199 N n x1 σ = some z → ∀ ls : Array Slot, lv_has ls 4 [(0, .ref (h 0)), (1, .int x1)] → WG p l e (rmO 4 89) s m args below meth c D A 0 0 Q (wM h q σ) (F0 m 199 ls []) := by
    intro n
    induction n with
    | zero => intro x1 σ hf; unfold pf_X7_frame_L199 at hf; cases hf
    | succ n ih =>
      intro x1 σ hf ls hl
      unfold pf_X7_frame_L199 at hf
      refine s_iload_n C dX7_frame_199 rfl (lv_at hl 1 rfl) ?_
      refine s_if_lt (tgt := 255) C dX7_frame_200 (by decide) (fun c6 => ?_) (fun c6 => ?_)
      · replace hf := it_t c6 hf
        refine s_iconst (v := (-1 : Int32)) C dX7_frame_255 (by decide) ?_
        exact ret _ _ _ _ dX7_frame_256 rfl (rt_2 hf).1 (congrArg (fun σ => (wM h q σ)) (rt_2 hf).2)
      · replace hf := it_f c6 hf
        refine s_aload_n C dX7_frame_203 rfl (lv_at hl 0 rfl) ?_
        refine gM_0_13 C wd_3_152 dX7_frame_204 ?_
        refine s_iload_n C dX7_frame_207 rfl (lv_at hl 1 rfl) ?_
        obtain ⟨hi7, hf⟩ := bI_some hf
        refine ldM_12 C hi7 dX7_frame_208 ?_
        obtain ⟨v8, e9, hf⟩ := lt_some hf
        refine s_eq (g2 := F0 m 209 ls [.int v8]) (by rw [e9]) ?_
        clear e9
        refine s_istore_n (lv2 := [(2, .int v8), (0, .ref (h 0)), (1, .int x1)]) C dX7_frame_209 rfl hl (by decide) rfl ?_
        intro ls hl
        refine s_aload_n C dX7_frame_210 rfl (lv_at hl 1 rfl) ?_
        refine gM_0_11 C wd_3_150 dX7_frame_211 ?_
        refine s_iload_n C dX7_frame_214 rfl (lv_at hl 0 rfl) ?_
        obtain ⟨hi10, hf⟩ := bI_some hf
        refine ldM_10 C hi10 dX7_frame_215 ?_
        refine s_if_ne (tgt := 249) C dX7_frame_216 (by decide) (fun c11 => ?_) (fun c11 => ?_)
        · replace hf := it_f c11 hf
          exact b249 _ ih _ _ hf _ (lv_sub hl [1, 2] rfl)
        · replace hf := it_t c11 hf
          refine s_aload_n C dX7_frame_219 rfl (lv_at hl 1 rfl) ?_
          refine s_iload_n C dX7_frame_220 rfl (lv_at hl 0 rfl) ?_
          obtain ⟨z12, h13, hf⟩ := bn_some hf
          refine s_callIV (As := [.int v8]) (rest := []) C (c_X7_isDirty l D q h N v8 σ z12 h13) ⟨wd_4_49, wd_4_51, wd_s_32, wd_1_10, wd_4_52, cx_X7_isDirty, Nat.le_of_ble_eq_true rfl, Nat.le_of_ble_eq_true rfl⟩ 0 (ci := 7) rfl rfl rfl (SubW.full _ _) rfl hl.1 rfl (Nat.le_of_ble_eq_true rfl) dX7_frame_221 (Nat.zero_le _) (Nat.zero_le _) ?_
          refine s_if_eq (tgt := 235) C dX7_frame_224 (by decide) (fun c14 => ?_) (fun c14 => ?_)
          · replace hf := it_t c14 hf
            exact b235 _ _ hf _ (lv_sub hl [1, 0] rfl)
          · replace hf := it_f c14 hf
            refine s_aload_n C dX7_frame_227 rfl (lv_at hl 1 rfl) ?_
            refine s_iload_n C dX7_frame_228 rfl (lv_at hl 0 rfl) ?_
            obtain ⟨z20, h21, hf⟩ := bn_some hf
            refine s_callIV (As := [.int v8]) (rest := []) C (c_X7_written l D q h N v8 σ z20 h21) ⟨wd_4_53, wd_4_55, wd_s_33, wd_1_10, wd_4_56, cx_X7_written, Nat.le_of_ble_eq_true rfl, Nat.le_of_ble_eq_true rfl⟩ 0 (ci := 7) rfl rfl rfl (SubW.full _ _) rfl hl.1 rfl (Nat.le_of_ble_eq_true rfl) dX7_frame_229 (Nat.zero_le _) (Nat.zero_le _) ?_
            refine s_if_eq (tgt := 249) C dX7_frame_232 (by decide) (fun c22 => ?_) (fun c22 => ?_)
            · replace hf := it_t c22 hf
              exact b249 _ ih _ _ hf _ (lv_sub hl [1, 2] rfl)
            · replace hf := it_f c22 hf
              exact b235 _ _ hf _ (lv_sub hl [1, 0] rfl)
  have b192 : ∀ (σ : St), pf_X7_frame_b192 N σ = some z → ∀ ls : Array Slot, lv_has ls 4 [(0, .ref (h 0))] → WG p l e (rmO 4 89) s m args below meth c D A 0 0 Q (wM h q σ) (F0 m 192 ls []) := by
    intro σ hf ls hl
    unfold pf_X7_frame_b192 at hf
    refine s_aload_n C dX7_frame_192 rfl (lv_at hl 0 rfl) ?_
    refine gM_0_15 C wd_3_154 dX7_frame_193 ?_
    refine s_iconst (v := (1 : Int32)) C dX7_frame_196 (by decide) ?_
    refine s_isub C dX7_frame_197 ?_
    obtain ⟨v4, e5, hf⟩ := lt_some hf
    refine s_eq (g2 := F0 m 198 ls [.int v4]) (by rw [e5]) ?_
    clear e5
    refine s_istore_n (lv2 := [(1, .int v4), (0, .ref (h 0))]) C dX7_frame_198 rfl hl (by decide) rfl ?_
    intro ls hl
    exact L199 N _ _ hf _ (lv_sub hl [1, 0] rfl)
  have b172 : ∀ (x2 : Int32) (σ : St), pf_X7_frame_b172 N x2 σ = some z → ∀ ls : Array Slot, lv_has ls 4 [(0, .ref (h 0)), (2, .int x2)] → WG p l e (rmO 4 89) s m args below meth c D A 0 0 Q (wM h q σ) (F0 m 172 ls []) := by
    intro x2 σ hf ls hl
    unfold pf_X7_frame_b172 at hf
    refine s_aload_n C dX7_frame_172 rfl (lv_at hl 0 rfl) ?_
    refine gM_0_6 C wd_3_145 dX7_frame_173 ?_
    refine s_iload_n C dX7_frame_176 rfl (lv_at hl 1 rfl) ?_
    obtain ⟨hi34, hf⟩ := bI_some hf
    refine ldM_5 C hi34 dX7_frame_177 ?_
    obtain ⟨v35, e36, hf⟩ := lt_some hf
    refine s_eq (g2 := F0 m 178 ls [.int v35]) (by rw [e36]) ?_
    clear e36
    refine s_istore_n (lv2 := [(3, .int v35), (0, .ref (h 0)), (2, .int x2)]) C dX7_frame_178 rfl hl (by decide) rfl ?_
    intro ls hl
    refine s_aload_n C dX7_frame_179 rfl (lv_at hl 1 rfl) ?_
    refine s_iload_n C dX7_frame_180 rfl (lv_at hl 2 rfl) ?_
    obtain ⟨z37, h38, hf⟩ := bn_some hf
    refine s_callVV (As := [.int x2]) (rest := []) C (c_X7_evict l D q h N x2 σ z37 h38) ⟨wd_4_69, wd_4_71, wd_s_37, wd_1_10, wd_4_72, cx_X7_evict, Nat.le_of_ble_eq_true rfl, Nat.le_of_ble_eq_true rfl⟩ 0 (ci := 7) rfl rfl rfl (SubW.full _ _) rfl hl.1 rfl (Nat.le_of_ble_eq_true rfl) dX7_frame_181 (Nat.zero_le _) (Nat.zero_le _) ?_
    refine s_iload_n C dX7_frame_184 rfl (lv_at hl 0 rfl) ?_
    exact ret _ _ _ _ dX7_frame_185 rfl (rt_2 hf).1 (congrArg (fun σ => (wM h q σ)) (rt_2 hf).2)
  have b186 : ∀ (J75 : Int32 → St → Option (Int32 × St)) (hJ75 : ∀ (x1 : Int32) (σ : St), J75 x1 σ = some z → ∀ ls : Array Slot, lv_has ls 4 [(0, .ref (h 0)), (1, .int x1)] → WG p l e (rmO 4 89) s m args below meth c D A 0 0 Q (wM h q σ) (F0 m 75 ls [])) (x1 : Int32) (σ : St), pf_X7_frame_b186 N J75 x1 σ = some z → ∀ ls : Array Slot, lv_has ls 4 [(0, .ref (h 0)), (1, .int x1)] → WG p l e (rmO 4 89) s m args below meth c D A 0 0 Q (wM h q σ) (F0 m 186 ls []) := by
    intro J75 hJ75 x1 σ hf ls hl
    unfold pf_X7_frame_b186 at hf
    refine s_iinc (v := (x1 + 1)) (lv2 := [(1, .int (x1 + 1)), (0, .ref (h 0))]) C 1 dX7_frame_186 hl rfl rfl (by decide) rfl ?_
    intro ls hl
    refine s_goto (tgt := 75) C dX7_frame_189 (by decide) ?_
    exact hJ75 _ _ hf _ (lv_sub hl [1, 0] rfl)
  have L75 : ∀ (n : Nat) (x1 : Int32) (σ : St), pf_X7_frame_L75 N n x1 σ = some z → ∀ ls : Array Slot, lv_has ls 4 [(0, .ref (h 0)), (1, .int x1)] → WG p l e (rmO 4 89) s m args below meth c D A 0 0 Q (wM h q σ) (F0 m 75 ls []) := by
    intro n
    induction n with
    | zero => intro x1 σ hf; unfold pf_X7_frame_L75 at hf; cases hf
    | succ n ih =>
      intro x1 σ hf ls hl
      unfold pf_X7_frame_L75 at hf
      refine s_iload_n C dX7_frame_75 rfl (lv_at hl 1 rfl) ?_
      refine s_iconst (v := (2 : Int32)) C dX7_frame_76 (by decide) ?_
      refine s_aload_n C dX7_frame_77 rfl (lv_at hl 0 rfl) ?_
      refine gM_0_0 C wd_3_139 dX7_frame_78 ?_
      refine s_imul C dX7_frame_81 ?_
      refine s_icmp_ge (tgt := 192) C dX7_frame_82 (by decide) (fun c3 => ?_) (fun c3 => ?_)
      · replace hf := it_t c3 hf
        exact b192 _ hf _ (lv_sub hl [0] rfl)
      · replace hf := it_f c3 hf
        refine s_aload_n C dX7_frame_85 rfl (lv_at hl 0 rfl) ?_
        refine gM_0_16 C wd_3_155 dX7_frame_86 ?_
        refine s_if_le (tgt := 192) C dX7_frame_89 (by decide) (fun c23 => ?_) (fun c23 => ?_)
        · replace hf := it_t c23 hf
          exact b192 _ hf _ (lv_sub hl [0] rfl)
        · replace hf := it_f c23 hf
          refine s_aload_n C dX7_frame_92 rfl (lv_at hl 0 rfl) ?_
          refine gM_0_14 C wd_3_153 dX7_frame_93 ?_
          refine s_aload_n C dX7_frame_96 rfl (lv_at hl 0 rfl) ?_
          refine gM_0_16 C wd_3_155 dX7_frame_97 ?_
          refine s_iconst (v := (1 : Int32)) C dX7_frame_100 (by decide) ?_
          refine s_isub C dX7_frame_101 ?_
          obtain ⟨hi24, hf⟩ := bI_some hf
          refine ldM_13 C hi24 dX7_frame_102 ?_
          obtain ⟨v25, e26, hf⟩ := lt_some hf
          refine s_eq (g2 := F0 m 103 ls [.int v25]) (by rw [e26]) ?_
          clear e26
          refine s_istore_n (lv2 := [(2, .int v25), (0, .ref (h 0)), (1, .int x1)]) C dX7_frame_103 rfl hl (by decide) rfl ?_
          intro ls hl
          refine s_aload_n C dX7_frame_104 rfl (lv_at hl 1 rfl) ?_
          refine gM_0_11 C wd_3_150 dX7_frame_105 ?_
          refine s_iload_n C dX7_frame_108 rfl (lv_at hl 0 rfl) ?_
          obtain ⟨hi27, hf⟩ := bI_some hf
          refine ldM_10 C hi27 dX7_frame_109 ?_
          refine s_if_eq (tgt := 122) C dX7_frame_110 (by decide) (fun c28 => ?_) (fun c28 => ?_)
          · replace hf := it_t c28 hf
            refine s_aload_n C dX7_frame_122 rfl (lv_at hl 1 rfl) ?_
            refine gM_0_10 C wd_3_149 dX7_frame_123 ?_
            refine s_iload_n C dX7_frame_126 rfl (lv_at hl 0 rfl) ?_
            obtain ⟨hi29, hf⟩ := bI_some hf
            refine ldM_9 C hi29 dX7_frame_127 ?_
            refine s_if_eq (tgt := 147) C dX7_frame_128 (by decide) (fun c30 => ?_) (fun c30 => ?_)
            · replace hf := it_t c30 hf
              refine s_aload_n C dX7_frame_147 rfl (lv_at hl 1 rfl) ?_
              refine s_iload_n C dX7_frame_148 rfl (lv_at hl 0 rfl) ?_
              obtain ⟨z31, h32, hf⟩ := bn_some hf
              refine s_callIV (As := [.int v25]) (rest := []) C (c_X7_isDirty l D q h N v25 σ z31 h32) ⟨wd_4_49, wd_4_51, wd_s_32, wd_1_10, wd_4_52, cx_X7_isDirty, Nat.le_of_ble_eq_true rfl, Nat.le_of_ble_eq_true rfl⟩ 0 (ci := 7) rfl rfl rfl (SubW.full _ _) rfl hl.1 rfl (Nat.le_of_ble_eq_true rfl) dX7_frame_149 (Nat.zero_le _) (Nat.zero_le _) ?_
              refine s_if_eq (tgt := 172) C dX7_frame_152 (by decide) (fun c33 => ?_) (fun c33 => ?_)
              · replace hf := it_t c33 hf
                exact b172 _ _ hf _ (lv_sub hl [1, 0] rfl)
              · replace hf := it_f c33 hf
                refine s_aload_n C dX7_frame_155 rfl (lv_at hl 1 rfl) ?_
                refine s_iload_n C dX7_frame_156 rfl (lv_at hl 0 rfl) ?_
                obtain ⟨z39, h40, hf⟩ := bn_some hf
                refine s_callIV (As := [.int v25]) (rest := []) C (c_X7_written l D q h N v25 σ z39 h40) ⟨wd_4_53, wd_4_55, wd_s_33, wd_1_10, wd_4_56, cx_X7_written, Nat.le_of_ble_eq_true rfl, Nat.le_of_ble_eq_true rfl⟩ 0 (ci := 7) rfl rfl rfl (SubW.full _ _) rfl hl.1 rfl (Nat.le_of_ble_eq_true rfl) dX7_frame_157 (Nat.zero_le _) (Nat.zero_le _) ?_
                refine s_if_ne (tgt := 172) C dX7_frame_160 (by decide) (fun c41 => ?_) (fun c41 => ?_)
                · replace hf := it_f c41 hf
                  exact b172 _ _ hf _ (lv_sub hl [1, 0] rfl)
                · replace hf := it_t c41 hf
                  refine s_aload_n C dX7_frame_163 rfl (lv_at hl 1 rfl) ?_
                  refine s_iload_n C dX7_frame_164 rfl (lv_at hl 0 rfl) ?_
                  refine s_iconst (v := (0 : Int32)) C dX7_frame_165 (by decide) ?_
                  obtain ⟨z42, h43, hf⟩ := bn_some hf
                  refine s_callVV (As := [.int v25, .int (0 : Int32)]) (rest := []) C (c_X7_move l D q h N v25 (0 : Int32) z39.2 z42 h43) ⟨wd_4_25, wd_4_27, wd_s_26, wd_1_10, wd_4_28, cx_X7_move, Nat.le_of_ble_eq_true rfl, Nat.le_of_ble_eq_true rfl⟩ 0 (ci := 7) rfl rfl rfl (SubW.full _ _) rfl hl.1 rfl (Nat.le_of_ble_eq_true rfl) dX7_frame_166 (Nat.zero_le _) (Nat.zero_le _) ?_
                  refine s_goto (tgt := 186) C dX7_frame_169 (by decide) ?_
                  exact b186 _ ih _ _ hf _ (lv_sub hl [1, 2] rfl)
            · replace hf := it_f c30 hf
              refine s_aload_n C dX7_frame_131 rfl (lv_at hl 1 rfl) ?_
              refine gM_0_10 C wd_3_149 dX7_frame_132 ?_
              refine s_iload_n C dX7_frame_135 rfl (lv_at hl 0 rfl) ?_
              refine s_iconst (v := (0 : Int32)) C dX7_frame_136 (by decide) ?_
              obtain ⟨hi44, hf⟩ := bI_some hf
              refine stM_9 C hi44 dX7_frame_137 ?_
              obtain ⟨σ45, e46, hf⟩ := lt_some hf
              refine s_w (ws2 := (wM h q σ45)) (by rw [e46]) ?_
              clear e46
              refine s_aload_n C dX7_frame_138 rfl (lv_at hl 1 rfl) ?_
              refine s_iload_n C dX7_frame_139 rfl (lv_at hl 0 rfl) ?_
              refine s_iconst (v := (1 : Int32)) C dX7_frame_140 (by decide) ?_
              obtain ⟨z47, h48, hf⟩ := bn_some hf
              refine s_callVV (As := [.int v25, .int (1 : Int32)]) (rest := []) C (c_X7_move l D q h N v25 (1 : Int32) σ45 z47 h48) ⟨wd_4_25, wd_4_27, wd_s_26, wd_1_10, wd_4_28, cx_X7_move, Nat.le_of_ble_eq_true rfl, Nat.le_of_ble_eq_true rfl⟩ 0 (ci := 7) rfl rfl rfl (SubW.full _ _) rfl hl.1 rfl (Nat.le_of_ble_eq_true rfl) dX7_frame_141 (Nat.zero_le _) (Nat.zero_le _) ?_
              refine s_goto (tgt := 186) C dX7_frame_144 (by decide) ?_
              exact b186 _ ih _ _ hf _ (lv_sub hl [1, 2] rfl)
          · replace hf := it_f c28 hf
            refine s_aload_n C dX7_frame_113 rfl (lv_at hl 1 rfl) ?_
            refine s_iload_n C dX7_frame_114 rfl (lv_at hl 0 rfl) ?_
            refine s_iconst (v := (0 : Int32)) C dX7_frame_115 (by decide) ?_
            obtain ⟨z49, h50, hf⟩ := bn_some hf
            refine s_callVV (As := [.int v25, .int (0 : Int32)]) (rest := []) C (c_X7_move l D q h N v25 (0 : Int32) σ z49 h50) ⟨wd_4_25, wd_4_27, wd_s_26, wd_1_10, wd_4_28, cx_X7_move, Nat.le_of_ble_eq_true rfl, Nat.le_of_ble_eq_true rfl⟩ 0 (ci := 7) rfl rfl rfl (SubW.full _ _) rfl hl.1 rfl (Nat.le_of_ble_eq_true rfl) dX7_frame_116 (Nat.zero_le _) (Nat.zero_le _) ?_
            refine s_goto (tgt := 186) C dX7_frame_119 (by decide) ?_
            exact b186 _ ih _ _ hf _ (lv_sub hl [1, 2] rfl)
  have L27 : ∀ (n : Nat) (σ : St), pf_X7_frame_L27 N n σ = some z → ∀ ls : Array Slot, lv_has ls 4 [(0, .ref (h 0))] → WG p l e (rmO 4 89) s m args below meth c D A 0 0 Q (wM h q σ) (F0 m 27 ls []) := by
    intro n
    induction n with
    | zero => intro σ hf; unfold pf_X7_frame_L27 at hf; cases hf
    | succ n ih =>
      intro σ hf ls hl
      unfold pf_X7_frame_L27 at hf
      refine s_aload_n C dX7_frame_27 rfl (lv_at hl 0 rfl) ?_
      refine gM_0_15 C wd_3_154 dX7_frame_28 ?_
      refine s_aload_n C dX7_frame_31 rfl (lv_at hl 0 rfl) ?_
      refine gM_0_16 C wd_3_155 dX7_frame_32 ?_
      refine s_icmp_le (tgt := 73) C dX7_frame_35 (by decide) (fun c2 => ?_) (fun c2 => ?_)
      · replace hf := it_t c2 hf
        refine s_iconst (v := (0 : Int32)) C dX7_frame_73 (by decide) ?_
        refine s_istore_n (lv2 := [(1, .int (0 : Int32)), (0, .ref (h 0))]) C dX7_frame_74 rfl hl (by decide) rfl ?_
        intro ls hl
        exact L75 N _ _ hf _ (lv_sub hl [1, 0] rfl)
      · replace hf := it_f c2 hf
        refine s_aload_n C dX7_frame_38 rfl (lv_at hl 0 rfl) ?_
        refine gM_0_13 C wd_3_152 dX7_frame_39 ?_
        refine s_aload_n C dX7_frame_42 rfl (lv_at hl 0 rfl) ?_
        refine gM_0_15 C wd_3_154 dX7_frame_43 ?_
        refine s_iconst (v := (1 : Int32)) C dX7_frame_46 (by decide) ?_
        refine s_isub C dX7_frame_47 ?_
        obtain ⟨hi51, hf⟩ := bI_some hf
        refine ldM_12 C hi51 dX7_frame_48 ?_
        obtain ⟨v52, e53, hf⟩ := lt_some hf
        refine s_eq (g2 := F0 m 49 ls [.int v52]) (by rw [e53]) ?_
        clear e53
        refine s_istore_n (lv2 := [(1, .int v52), (0, .ref (h 0))]) C dX7_frame_49 rfl hl (by decide) rfl ?_
        intro ls hl
        refine s_aload_n C dX7_frame_50 rfl (lv_at hl 1 rfl) ?_
        refine gM_0_10 C wd_3_149 dX7_frame_51 ?_
        refine s_iload_n C dX7_frame_54 rfl (lv_at hl 0 rfl) ?_
        obtain ⟨hi54, hf⟩ := bI_some hf
        refine ldM_9 C hi54 dX7_frame_55 ?_
        obtain ⟨v55, e56, hf⟩ := lt_some hf
        refine s_eq (g2 := F0 m 56 ls [.int v55]) (by rw [e56]) ?_
        clear e56
        refine s_istore_n (lv2 := [(2, .int v55), (1, .int v52), (0, .ref (h 0))]) C dX7_frame_56 rfl hl (by decide) rfl ?_
        intro ls hl
        refine s_aload_n C dX7_frame_57 rfl (lv_at hl 2 rfl) ?_
        refine gM_0_10 C wd_3_149 dX7_frame_58 ?_
        refine s_iload_n C dX7_frame_61 rfl (lv_at hl 1 rfl) ?_
        refine s_iconst (v := (0 : Int32)) C dX7_frame_62 (by decide) ?_
        obtain ⟨hi57, hf⟩ := bI_some hf
        refine stM_9 C hi57 dX7_frame_63 ?_
        obtain ⟨σ58, e59, hf⟩ := lt_some hf
        refine s_w (ws2 := (wM h q σ58)) (by rw [e59]) ?_
        clear e59
        refine s_aload_n C dX7_frame_64 rfl (lv_at hl 2 rfl) ?_
        refine s_iload_n C dX7_frame_65 rfl (lv_at hl 1 rfl) ?_
        refine s_iload_n C dX7_frame_66 rfl (lv_at hl 0 rfl) ?_
        obtain ⟨z60, h61, hf⟩ := bn_some hf
        refine s_callVV (As := [.int v52, .int v55]) (rest := []) C (c_X7_move l D q h N v52 v55 σ58 z60 h61) ⟨wd_4_25, wd_4_27, wd_s_26, wd_1_10, wd_4_28, cx_X7_move, Nat.le_of_ble_eq_true rfl, Nat.le_of_ble_eq_true rfl⟩ 0 (ci := 7) rfl rfl rfl (SubW.full _ _) rfl hl.1 rfl (Nat.le_of_ble_eq_true rfl) dX7_frame_67 (Nat.zero_le _) (Nat.zero_le _) ?_
        refine s_goto (tgt := 27) C dX7_frame_70 (by decide) ?_
        exact ih _ hf _ (lv_sub hl [2] rfl)
  have L2 : ∀ (n : Nat) (x1 : Int32) (σ : St), pf_X7_frame_L2 N n x1 σ = some z → ∀ ls : Array Slot, lv_has ls 4 [(0, .ref (h 0)), (1, .int x1)] → WG p l e (rmO 4 89) s m args below meth c D A 0 0 Q (wM h q σ) (F0 m 2 ls []) := by
    intro n
    induction n with
    | zero => intro x1 σ hf; unfold pf_X7_frame_L2 at hf; cases hf
    | succ n ih =>
      intro x1 σ hf ls hl
      unfold pf_X7_frame_L2 at hf
      refine s_iload_n C dX7_frame_2 rfl (lv_at hl 1 rfl) ?_
      refine s_aload_n C dX7_frame_3 rfl (lv_at hl 0 rfl) ?_
      refine gM_0_0 C wd_3_139 dX7_frame_4 ?_
      refine s_icmp_ge (tgt := 27) C dX7_frame_7 (by decide) (fun c1 => ?_) (fun c1 => ?_)
      · replace hf := it_t c1 hf
        exact L27 N _ hf _ (lv_sub hl [0] rfl)
      · replace hf := it_f c1 hf
        refine s_aload_n C dX7_frame_10 rfl (lv_at hl 0 rfl) ?_
        refine gM_0_17 C wd_3_156 dX7_frame_11 ?_
        refine s_iload_n C dX7_frame_14 rfl (lv_at hl 1 rfl) ?_
        obtain ⟨hi62, hf⟩ := bI_some hf
        refine ldM_14 C hi62 dX7_frame_15 ?_
        refine s_if_ne (tgt := 21) C dX7_frame_16 (by decide) (fun c63 => ?_) (fun c63 => ?_)
        · replace hf := it_f c63 hf
          refine s_iinc (v := (x1 + 1)) (lv2 := [(1, .int (x1 + 1)), (0, .ref (h 0))]) C 1 dX7_frame_21 hl rfl rfl (by decide) rfl ?_
          intro ls hl
          refine s_goto (tgt := 2) C dX7_frame_24 (by decide) ?_
          exact ih _ _ hf _ (lv_sub hl [1, 0] rfl)
        · replace hf := it_t c63 hf
          refine s_iload_n C dX7_frame_19 rfl (lv_at hl 1 rfl) ?_
          exact ret _ _ _ _ dX7_frame_20 rfl (rt_2 hf).1 (congrArg (fun σ => (wM h q σ)) (rt_2 hf).2)
  refine s_iconst (v := (0 : Int32)) C dX7_frame_0 (by decide) ?_
  refine s_istore_n (lv2 := [(1, .int (0 : Int32)), (0, .ref (h 0))]) C dX7_frame_1 rfl hl (by decide) rfl ?_
  intro ls hl
  exact L2 N _ _ hf _ (lv_sub hl [1, 0] rfl)
def pf_X7_bringIn_b134 (N : Nat) (x1 : Int32) (y0 : Int32) (σ : St) : Option (Int32 × St) := (pf_X7_noShadow N x1 σ).bind (fun z15 => (pf_X7_toFront N x1 y0 z15).bind (fun z17 => some ((1 : Int32), z17)))
def pf_X7_bringIn_b133 (N : Nat) (x1 : Int32) (σ : St) : Option (Int32 × St) := pf_X7_bringIn_b134 N x1 (0 : Int32) σ
def pf_X7_bringIn_b88 (N : Nat) (x1 : Int32) (x2 : Int32) (σ : St) : Option (Int32 × St) := bI x2 (64) (lt_ (sA σ 14 (upd (σ.2.1 14) (Int32.toNatClampNeg x2) (vp_nar .boolean (1 : Int32)))) (fun σ8 => bI x1 (3072) (lt_ (sA σ8 5 (upd (σ8.2.1 5) (Int32.toNatClampNeg x1) x2)) (fun σ11 => bI x1 (3072) (if ((σ11.2.1 8) (Int32.toNatClampNeg x1)) ≤ 0 then pf_X7_bringIn_b133 N x1 σ11 else bI x1 (3072) (if (σ11.1 2) < ((σ11.1 6) - ((σ11.2.1 8) (Int32.toNatClampNeg x1))) then pf_X7_bringIn_b133 N x1 σ11 else pf_X7_bringIn_b134 N x1 (1 : Int32) σ11))))))
def pf_X7_bringIn_b60 (N : Nat) (J14 : Int32 → Int32 → Int32 → St → Option (Int32 × St)) (x1 : Int32) (x2 : Int32) (x3 : Int32) (y2 : Int32) (y1 : Int32) (σ : St) : Option (Int32 × St) := bI y1 (4096) (lt_ (sA σ 15 (upd (σ.2.1 15) (Int32.toNatClampNeg y1) (vp_nar .byte y2))) (fun σ29 => J14 x1 x2 (x3 + 1) σ29))
def pf_X7_bringIn_L14 (N : Nat) : Nat → Int32 → Int32 → Int32 → St → Option (Int32 × St)
  | 0, _, _, _, _ => none
  | n + 1, x1, x2, x3, σ => if (64 : Int32) ≤ x3 then bI x1 (3072) (if ((σ.2.1 6) (Int32.toNatClampNeg x1)) = (-1 : Int32) then pf_X7_bringIn_b88 N x1 x2 σ else bI x1 (3072) ((pf_X7_record N (0 : Int32) ((σ.2.1 6) (Int32.toNatClampNeg x1)) σ).bind (fun z22 => pf_X7_bringIn_b88 N x1 x2 z22))) else bI x1 (3072) (if ((σ.2.1 6) (Int32.toNatClampNeg x1)) = (-1 : Int32) then pf_X7_bringIn_b60 N (pf_X7_bringIn_L14 N n) x1 x2 x3 (0 : Int32) (((64 : Int32) * x2) + x3) σ else bI x1 (3072) (bI (((64 : Int32) * ((σ.2.1 6) (Int32.toNatClampNeg x1))) + x3) (32768) (pf_X7_bringIn_b60 N (pf_X7_bringIn_L14 N n) x1 x2 x3 ((σ.2.1 16) (Int32.toNatClampNeg (((64 : Int32) * ((σ.2.1 6) (Int32.toNatClampNeg x1))) + x3))) (((64 : Int32) * x2) + x3) σ)))
def pf_X7_bringIn (N : Nat) (x1 : Int32) (σ : St) : Option (Int32 × St) := (pf_X7_frame N σ).bind (fun z1 => if z1.1 = (-1 : Int32) then some ((0 : Int32), z1.2) else pf_X7_bringIn_L14 N N x1 z1.1 (0 : Int32) z1.2)
theorem cx_X7_bringIn : (yX7_bringIn.cls ≠ "java/lang/invoke/MethodHandle" ∧ yX7_bringIn.cls ≠ "java/lang/invoke/VarHandle" ∧ (parseMethodDescriptor yX7_bringIn.desc).map (fun d => d.parameters.length) = some 1) := by decide +kernel
set_option maxHeartbeats 4000000 in
set_option maxRecDepth 100000 in
theorem c_X7_bringIn (l : Launch) (D : va_G) (q : Nat → ClassId) (h : Nat → Nat) (N : Nat) (x1 : Int32) (σ : St) (z : (Int32 × St)) (hf : pf_X7_bringIn N x1 σ = some z) : MI l yX7_bringIn cX7_bringIn 4 (some .boolean) 5 112 D (tyQ q) [.ref (h 0), .int x1] (wM h q σ) (wM h q z.2) z.1 := by
  refine MI.of (by decide) (Nat.le_of_ble_eq_true rfl) ?_
  intro p e s m args below meth c Q A C ret ls hl
  have hl : lv_has ls 4 [(0, .ref (h 0)), (1, .int x1)] := hl
  unfold pf_X7_bringIn at hf
  have b134 : ∀ (x1 : Int32) (y0 : Int32) (σ : St), pf_X7_bringIn_b134 N x1 y0 σ = some z → ∀ ls : Array Slot, lv_has ls 4 [(0, .ref (h 0)), (1, .int x1)] → WG p l e (rmO 5 112) s m args below meth c D A 0 0 Q (wM h q σ) (F0 m 134 ls [.int y0]) := by
    intro x1 y0 σ hf ls hl
    unfold pf_X7_bringIn_b134 at hf
    refine s_istore_n (lv2 := [(3, .int y0), (0, .ref (h 0)), (1, .int x1)]) C dX7_bringIn_134 rfl hl (by decide) rfl ?_
    intro ls hl
    refine s_aload_n C dX7_bringIn_135 rfl (lv_at hl 1 rfl) ?_
    refine s_iload_n C dX7_bringIn_136 rfl (lv_at hl 2 rfl) ?_
    obtain ⟨z15, h16, hf⟩ := bn_some hf
    refine s_callVV (As := [.int x1]) (rest := []) C (c_X7_noShadow l D q h N x1 σ z15 h16) ⟨wd_4_77, wd_4_79, wd_s_39, wd_1_10, wd_4_80, cx_X7_noShadow, Nat.le_of_ble_eq_true rfl, Nat.le_of_ble_eq_true rfl⟩ 0 (ci := 7) rfl rfl rfl (SubW.full _ _) rfl hl.1 rfl (Nat.le_of_ble_eq_true rfl) dX7_bringIn_137 (Nat.zero_le _) (Nat.zero_le _) ?_
    refine s_aload_n C dX7_bringIn_140 rfl (lv_at hl 1 rfl) ?_
    refine s_iload_n C dX7_bringIn_141 rfl (lv_at hl 2 rfl) ?_
    refine s_iload_n C dX7_bringIn_142 rfl (lv_at hl 0 rfl) ?_
    obtain ⟨z17, h18, hf⟩ := bn_some hf
    refine s_callVV (As := [.int x1, .int y0]) (rest := []) C (c_X7_toFront l D q h N x1 y0 z15 z17 h18) ⟨wd_4_37, wd_4_39, wd_s_29, wd_1_10, wd_4_40, cx_X7_toFront, Nat.le_of_ble_eq_true rfl, Nat.le_of_ble_eq_true rfl⟩ 0 (ci := 7) rfl rfl rfl (SubW.full _ _) rfl hl.1 rfl (Nat.le_of_ble_eq_true rfl) dX7_bringIn_143 (Nat.zero_le _) (Nat.zero_le _) ?_
    refine s_iconst (v := (1 : Int32)) C dX7_bringIn_146 (by decide) ?_
    exact ret _ _ _ _ dX7_bringIn_147 rfl (rt_2 hf).1 (congrArg (fun σ => (wM h q σ)) (rt_2 hf).2)
  have b133 : ∀ (x1 : Int32) (σ : St), pf_X7_bringIn_b133 N x1 σ = some z → ∀ ls : Array Slot, lv_has ls 4 [(0, .ref (h 0)), (1, .int x1)] → WG p l e (rmO 5 112) s m args below meth c D A 0 0 Q (wM h q σ) (F0 m 133 ls []) := by
    intro x1 σ hf ls hl
    unfold pf_X7_bringIn_b133 at hf
    refine s_iconst (v := (0 : Int32)) C dX7_bringIn_133 (by decide) ?_
    exact b134 _ _ _ hf _ (lv_sub hl [0, 1] rfl)
  have b88 : ∀ (x1 : Int32) (x2 : Int32) (σ : St), pf_X7_bringIn_b88 N x1 x2 σ = some z → ∀ ls : Array Slot, lv_has ls 4 [(0, .ref (h 0)), (1, .int x1), (2, .int x2)] → WG p l e (rmO 5 112) s m args below meth c D A 0 0 Q (wM h q σ) (F0 m 88 ls []) := by
    intro x1 x2 σ hf ls hl
    unfold pf_X7_bringIn_b88 at hf
    refine s_aload_n C dX7_bringIn_88 rfl (lv_at hl 0 rfl) ?_
    refine gM_0_17 C wd_3_156 dX7_bringIn_89 ?_
    refine s_iload_n C dX7_bringIn_92 rfl (lv_at hl 2 rfl) ?_
    refine s_iconst (v := (1 : Int32)) C dX7_bringIn_93 (by decide) ?_
    obtain ⟨hi7, hf⟩ := bI_some hf
    refine stM_14 C hi7 dX7_bringIn_94 ?_
    obtain ⟨σ8, e9, hf⟩ := lt_some hf
    refine s_w (ws2 := (wM h q σ8)) (by rw [e9]) ?_
    clear e9
    refine s_aload_n C dX7_bringIn_95 rfl (lv_at hl 0 rfl) ?_
    refine gM_0_6 C wd_3_145 dX7_bringIn_96 ?_
    refine s_iload_n C dX7_bringIn_99 rfl (lv_at hl 1 rfl) ?_
    refine s_iload_n C dX7_bringIn_100 rfl (lv_at hl 2 rfl) ?_
    obtain ⟨hi10, hf⟩ := bI_some hf
    refine stM_5 C hi10 dX7_bringIn_101 ?_
    obtain ⟨σ11, e12, hf⟩ := lt_some hf
    refine s_w (ws2 := (wM h q σ11)) (by rw [e12]) ?_
    clear e12
    refine s_aload_n C dX7_bringIn_102 rfl (lv_at hl 0 rfl) ?_
    refine gM_0_9 C wd_3_148 dX7_bringIn_103 ?_
    refine s_iload_n C dX7_bringIn_106 rfl (lv_at hl 1 rfl) ?_
    obtain ⟨hi13, hf⟩ := bI_some hf
    refine ldM_8 C hi13 dX7_bringIn_107 ?_
    refine s_if_le (tgt := 133) C dX7_bringIn_108 (by decide) (fun c14 => ?_) (fun c14 => ?_)
    · replace hf := it_t c14 hf
      exact b133 _ _ hf _ (lv_sub hl [0, 1] rfl)
    · replace hf := it_f c14 hf
      refine s_aload_n C dX7_bringIn_111 rfl (lv_at hl 0 rfl) ?_
      refine gM_0_25 C wd_3_164 dX7_bringIn_112 ?_
      refine s_aload_n C dX7_bringIn_115 rfl (lv_at hl 0 rfl) ?_
      refine gM_0_9 C wd_3_148 dX7_bringIn_116 ?_
      refine s_iload_n C dX7_bringIn_119 rfl (lv_at hl 1 rfl) ?_
      obtain ⟨hi19, hf⟩ := bI_some hf
      refine ldM_8 C hi19 dX7_bringIn_120 ?_
      refine s_isub C dX7_bringIn_121 ?_
      refine s_aload_n C dX7_bringIn_122 rfl (lv_at hl 0 rfl) ?_
      refine gM_0_15 C wd_3_154 dX7_bringIn_123 ?_
      refine s_icmp_gt (tgt := 133) C dX7_bringIn_126 (by decide) (fun c20 => ?_) (fun c20 => ?_)
      · replace hf := it_t c20 hf
        exact b133 _ _ hf _ (lv_sub hl [0, 1] rfl)
      · replace hf := it_f c20 hf
        refine s_iconst (v := (1 : Int32)) C dX7_bringIn_129 (by decide) ?_
        refine s_goto (tgt := 134) C dX7_bringIn_130 (by decide) ?_
        exact b134 _ _ _ hf _ (lv_sub hl [0, 1] rfl)
  have b60 : ∀ (J14 : Int32 → Int32 → Int32 → St → Option (Int32 × St)) (hJ14 : ∀ (x1 : Int32) (x2 : Int32) (x3 : Int32) (σ : St), J14 x1 x2 x3 σ = some z → ∀ ls : Array Slot, lv_has ls 4 [(0, .ref (h 0)), (1, .int x1), (2, .int x2), (3, .int x3)] → WG p l e (rmO 5 112) s m args below meth c D A 0 0 Q (wM h q σ) (F0 m 14 ls [])) (x1 : Int32) (x2 : Int32) (x3 : Int32) (y2 : Int32) (y1 : Int32) (σ : St), pf_X7_bringIn_b60 N J14 x1 x2 x3 y2 y1 σ = some z → ∀ ls : Array Slot, lv_has ls 4 [(0, .ref (h 0)), (1, .int x1), (2, .int x2), (3, .int x3)] → WG p l e (rmO 5 112) s m args below meth c D A 0 0 Q (wM h q σ) (F0 m 60 ls [.int y2, .int y1, .ref (h 15)]) := by
    intro J14 hJ14 x1 x2 x3 y2 y1 σ hf ls hl
    unfold pf_X7_bringIn_b60 at hf
    obtain ⟨hi28, hf⟩ := bI_some hf
    refine stM_15 C hi28 dX7_bringIn_60 ?_
    obtain ⟨σ29, e30, hf⟩ := lt_some hf
    refine s_w (ws2 := (wM h q σ29)) (by rw [e30]) ?_
    clear e30
    refine s_iinc (v := (x3 + 1)) (lv2 := [(3, .int (x3 + 1)), (0, .ref (h 0)), (1, .int x1), (2, .int x2)]) C 3 dX7_bringIn_61 hl rfl rfl (by decide) rfl ?_
    intro ls hl
    refine s_goto (tgt := 14) C dX7_bringIn_64 (by decide) ?_
    exact hJ14 _ _ _ _ hf _ (lv_sub hl [1, 2, 3, 0] rfl)
  have L14 : ∀ (n : Nat) (x1 : Int32) (x2 : Int32) (x3 : Int32) (σ : St), pf_X7_bringIn_L14 N n x1 x2 x3 σ = some z → ∀ ls : Array Slot, lv_has ls 4 [(0, .ref (h 0)), (1, .int x1), (2, .int x2), (3, .int x3)] → WG p l e (rmO 5 112) s m args below meth c D A 0 0 Q (wM h q σ) (F0 m 14 ls []) := by
    intro n
    induction n with
    | zero => intro x1 x2 x3 σ hf; unfold pf_X7_bringIn_L14 at hf; cases hf
    | succ n ih =>
      intro x1 x2 x3 σ hf ls hl
      unfold pf_X7_bringIn_L14 at hf
      refine s_iload_n C dX7_bringIn_14 rfl (lv_at hl 3 rfl) ?_
      refine s_bipush (v := (64 : Int32)) C dX7_bringIn_15 (by decide) ?_
      refine s_icmp_ge (tgt := 67) C dX7_bringIn_17 (by decide) (fun c4 => ?_) (fun c4 => ?_)
      · replace hf := it_t c4 hf
        refine s_aload_n C dX7_bringIn_67 rfl (lv_at hl 0 rfl) ?_
        refine gM_0_7 C wd_3_146 dX7_bringIn_68 ?_
        refine s_iload_n C dX7_bringIn_71 rfl (lv_at hl 1 rfl) ?_
        obtain ⟨hi5, hf⟩ := bI_some hf
        refine ldM_6 C hi5 dX7_bringIn_72 ?_
        refine s_iconst (v := (-1 : Int32)) C dX7_bringIn_73 (by decide) ?_
        refine s_icmp_eq (tgt := 88) C dX7_bringIn_74 (by decide) (fun c6 => ?_) (fun c6 => ?_)
        · replace hf := it_t c6 hf
          exact b88 _ _ _ hf _ (lv_sub hl [0, 1, 2] rfl)
        · replace hf := it_f c6 hf
          refine s_aload_n C dX7_bringIn_77 rfl (lv_at hl 0 rfl) ?_
          refine s_iconst (v := (0 : Int32)) C dX7_bringIn_78 (by decide) ?_
          refine s_aload_n C dX7_bringIn_79 rfl (lv_at hl 0 rfl) ?_
          refine gM_0_7 C wd_3_146 dX7_bringIn_80 ?_
          refine s_iload_n C dX7_bringIn_83 rfl (lv_at hl 1 rfl) ?_
          obtain ⟨hi21, hf⟩ := bI_some hf
          refine ldM_6 C hi21 dX7_bringIn_84 ?_
          obtain ⟨z22, h23, hf⟩ := bn_some hf
          refine s_callVV (As := [.int (0 : Int32), .int ((σ.2.1 6) (Int32.toNatClampNeg x1))]) (rest := []) C (c_X7_record l D q h N (0 : Int32) ((σ.2.1 6) (Int32.toNatClampNeg x1)) σ z22 h23) ⟨wd_4_65, wd_4_67, wd_s_36, wd_1_10, wd_4_68, cx_X7_record, Nat.le_of_ble_eq_true rfl, Nat.le_of_ble_eq_true rfl⟩ 0 (ci := 7) rfl rfl rfl (SubW.full _ _) rfl hl.1 rfl (Nat.le_of_ble_eq_true rfl) dX7_bringIn_85 (Nat.zero_le _) (Nat.zero_le _) ?_
          exact b88 _ _ _ hf _ (lv_sub hl [0, 1, 2] rfl)
      · replace hf := it_f c4 hf
        refine s_aload_n C dX7_bringIn_20 rfl (lv_at hl 0 rfl) ?_
        refine gM_0_18 C wd_3_157 dX7_bringIn_21 ?_
        refine s_bipush (v := (64 : Int32)) C dX7_bringIn_24 (by decide) ?_
        refine s_iload_n C dX7_bringIn_26 rfl (lv_at hl 2 rfl) ?_
        refine s_imul C dX7_bringIn_27 ?_
        refine s_iload_n C dX7_bringIn_28 rfl (lv_at hl 3 rfl) ?_
        refine s_iadd C dX7_bringIn_29 ?_
        refine s_aload_n C dX7_bringIn_30 rfl (lv_at hl 0 rfl) ?_
        refine gM_0_7 C wd_3_146 dX7_bringIn_31 ?_
        refine s_iload_n C dX7_bringIn_34 rfl (lv_at hl 1 rfl) ?_
        obtain ⟨hi24, hf⟩ := bI_some hf
        refine ldM_6 C hi24 dX7_bringIn_35 ?_
        refine s_iconst (v := (-1 : Int32)) C dX7_bringIn_36 (by decide) ?_
        refine s_icmp_ne (tgt := 44) C dX7_bringIn_37 (by decide) (fun c25 => ?_) (fun c25 => ?_)
        · replace hf := it_f c25 hf
          refine s_aload_n C dX7_bringIn_44 rfl (lv_at hl 0 rfl) ?_
          refine gM_0_19 C wd_3_158 dX7_bringIn_45 ?_
          refine s_bipush (v := (64 : Int32)) C dX7_bringIn_48 (by decide) ?_
          refine s_aload_n C dX7_bringIn_50 rfl (lv_at hl 0 rfl) ?_
          refine gM_0_7 C wd_3_146 dX7_bringIn_51 ?_
          refine s_iload_n C dX7_bringIn_54 rfl (lv_at hl 1 rfl) ?_
          obtain ⟨hi26, hf⟩ := bI_some hf
          refine ldM_6 C hi26 dX7_bringIn_55 ?_
          refine s_imul C dX7_bringIn_56 ?_
          refine s_iload_n C dX7_bringIn_57 rfl (lv_at hl 3 rfl) ?_
          refine s_iadd C dX7_bringIn_58 ?_
          obtain ⟨hi27, hf⟩ := bI_some hf
          refine ldM_16 C hi27 dX7_bringIn_59 ?_
          exact b60 _ ih _ _ _ _ _ _ hf _ (lv_sub hl [0, 1, 2, 3] rfl)
        · replace hf := it_t c25 hf
          refine s_iconst (v := (0 : Int32)) C dX7_bringIn_40 (by decide) ?_
          refine s_goto (tgt := 60) C dX7_bringIn_41 (by decide) ?_
          exact b60 _ ih _ _ _ _ _ _ hf _ (lv_sub hl [0, 1, 2, 3] rfl)
  refine s_aload_n C dX7_bringIn_0 rfl (lv_at hl 0 rfl) ?_
  obtain ⟨z1, h2, hf⟩ := bn_some hf
  refine s_callIV (As := []) (rest := []) C (c_X7_frame l D q h N σ z1 h2) ⟨wd_4_45, wd_4_47, wd_s_31, wd_1_10, wd_4_48, cx_X7_frame, Nat.le_of_ble_eq_true rfl, Nat.le_of_ble_eq_true rfl⟩ 0 (ci := 7) rfl rfl rfl (SubW.full _ _) rfl hl.1 rfl (Nat.le_of_ble_eq_true rfl) dX7_bringIn_1 (Nat.zero_le _) (Nat.zero_le _) ?_
  refine s_istore_n (lv2 := [(2, .int z1.1), (0, .ref (h 0)), (1, .int x1)]) C dX7_bringIn_4 rfl hl (by decide) rfl ?_
  intro ls hl
  refine s_iload_n C dX7_bringIn_5 rfl (lv_at hl 0 rfl) ?_
  refine s_iconst (v := (-1 : Int32)) C dX7_bringIn_6 (by decide) ?_
  refine s_icmp_ne (tgt := 12) C dX7_bringIn_7 (by decide) (fun c3 => ?_) (fun c3 => ?_)
  · replace hf := it_f c3 hf
    refine s_iconst (v := (0 : Int32)) C dX7_bringIn_12 (by decide) ?_
    refine s_istore_n (lv2 := [(3, .int (0 : Int32)), (2, .int z1.1), (0, .ref (h 0)), (1, .int x1)]) C dX7_bringIn_13 rfl hl (by decide) rfl ?_
    intro ls hl
    exact L14 N _ _ _ _ hf _ (lv_sub hl [2, 3, 1, 0] rfl)
  · replace hf := it_t c3 hf
    refine s_iconst (v := (0 : Int32)) C dX7_bringIn_10 (by decide) ?_
    exact ret _ _ _ _ dX7_bringIn_11 rfl (rt_2 hf).1 (congrArg (fun σ => (wM h q σ)) (rt_2 hf).2)
def pf_X7_ahead_b109 (N : Nat) (J56 : Int32 → Int32 → Int32 → St → Option St) (x1 : Int32) (x2 : Int32) (x3 : Int32) (σ : St) : Option St := bI x1 (12) (lt_ (sA σ 3 (upd (σ.2.1 3) (Int32.toNatClampNeg x1) (x3 + (1 : Int32)))) (fun σ23 => J56 x1 x2 (x3 + 1) σ23))
def pf_X7_ahead_L56 (N : Nat) : Nat → Int32 → Int32 → Int32 → St → Option St
  | 0, _, _, _, _ => none
  | n + 1, x1, x2, x3, σ => bI x1 (12) (if (x2 + ((σ.2.1 2) (Int32.toNatClampNeg x1))) ≤ x3 then some σ else bI x1 (12) (if ((σ.2.1 1) (Int32.toNatClampNeg x1)) ≤ ((64 : Int32) * x3) then some σ else lt_ (((256 : Int32) * x1) + x3) (fun v17 => (pf_X7_isIn N v17 σ).bind (fun z19 => if z19 = 0 then (pf_X7_bringIn N v17 σ).bind (fun z25 => if z25.1 = 0 then some z25.2 else pf_X7_ahead_b109 N (pf_X7_ahead_L56 N n) x1 x2 x3 z25.2) else pf_X7_ahead_b109 N (pf_X7_ahead_L56 N n) x1 x2 x3 σ))))
def pf_X7_ahead_b42 (N : Nat) (x1 : Int32) (x2 : Int32) (y2 : Int32) (y1 : Int32) (σ : St) : Option St := bI y1 (12) (lt_ (sA σ 2 (upd (σ.2.1 2) (Int32.toNatClampNeg y1) y2)) (fun σ6 => bI x1 (12) (lt_ (sA σ6 3 (upd (σ6.2.1 3) (Int32.toNatClampNeg x1) (x2 + (1 : Int32)))) (fun σ9 => lt_ (x2 + (1 : Int32)) (fun v11 => pf_X7_ahead_L56 N N x1 x2 v11 σ9)))))
def pf_X7_ahead (N : Nat) (x1 : Int32) (x2 : Int32) (σ : St) : Option St := bI x1 (12) (if x2 = ((σ.2.1 3) (Int32.toNatClampNeg x1)) then bI x1 (12) (if (4 : Int32) ≤ ((σ.2.1 2) (Int32.toNatClampNeg x1)) then pf_X7_ahead_b42 N x1 x2 (8 : Int32) x1 σ else bI x1 (12) (pf_X7_ahead_b42 N x1 x2 ((2 : Int32) * ((σ.2.1 2) (Int32.toNatClampNeg x1))) x1 σ)) else pf_X7_ahead_b42 N x1 x2 (1 : Int32) x1 σ)
theorem cx_X7_ahead : (yX7_ahead.cls ≠ "java/lang/invoke/MethodHandle" ∧ yX7_ahead.cls ≠ "java/lang/invoke/VarHandle" ∧ (parseMethodDescriptor yX7_ahead.desc).map (fun d => d.parameters.length) = some 2) := by decide +kernel
set_option maxHeartbeats 4000000 in
set_option maxRecDepth 100000 in
theorem c_X7_ahead (l : Launch) (D : va_G) (q : Nat → ClassId) (h : Nat → Nat) (N : Nat) (x1 : Int32) (x2 : Int32) (σ : St) (z : St) (hf : pf_X7_ahead N x1 x2 σ = some z) : MV l yX7_ahead cX7_ahead 5 (none) 6 135 D (tyQ q) [.ref (h 0), .int x1, .int x2] (wM h q σ) (wM h q z) := by
  refine MV.of (by decide) (Nat.le_of_ble_eq_true rfl) ?_
  intro p e s m args below meth c Q A C ret ls hl
  have hl : lv_has ls 5 [(0, .ref (h 0)), (1, .int x1), (2, .int x2)] := hl
  unfold pf_X7_ahead at hf
  have b109 : ∀ (J56 : Int32 → Int32 → Int32 → St → Option St) (hJ56 : ∀ (x1 : Int32) (x2 : Int32) (x3 : Int32) (σ : St), J56 x1 x2 x3 σ = some z → ∀ ls : Array Slot, lv_has ls 5 [(0, .ref (h 0)), (1, .int x1), (2, .int x2), (3, .int x3)] → WG p l e (rmO 6 135) s m args below meth c D A 0 0 Q (wM h q σ) (F0 m 56 ls [])) (x1 : Int32) (x2 : Int32) (x3 : Int32) (σ : St), pf_X7_ahead_b109 N J56 x1 x2 x3 σ = some z → ∀ ls : Array Slot, lv_has ls 5 [(0, .ref (h 0)), (1, .int x1), (2, .int x2), (3, .int x3)] → WG p l e (rmO 6 135) s m args below meth c D A 0 0 Q (wM h q σ) (F0 m 109 ls []) := by
    intro J56 hJ56 x1 x2 x3 σ hf ls hl
    unfold pf_X7_ahead_b109 at hf
    refine s_aload_n C dX7_ahead_109 rfl (lv_at hl 0 rfl) ?_
    refine gM_0_4 C wd_3_143 dX7_ahead_110 ?_
    refine s_iload_n C dX7_ahead_113 rfl (lv_at hl 1 rfl) ?_
    refine s_iload_n C dX7_ahead_114 rfl (lv_at hl 3 rfl) ?_
    refine s_iconst (v := (1 : Int32)) C dX7_ahead_115 (by decide) ?_
    refine s_iadd C dX7_ahead_116 ?_
    obtain ⟨hi22, hf⟩ := bI_some hf
    refine stM_3 C hi22 dX7_ahead_117 ?_
    obtain ⟨σ23, e24, hf⟩ := lt_some hf
    refine s_w (ws2 := (wM h q σ23)) (by rw [e24]) ?_
    clear e24
    refine s_iinc (v := (x3 + 1)) (lv2 := [(3, .int (x3 + 1)), (0, .ref (h 0)), (1, .int x1), (2, .int x2)]) C 3 dX7_ahead_118 hl rfl rfl (by decide) rfl ?_
    intro ls hl
    refine s_goto (tgt := 56) C dX7_ahead_121 (by decide) ?_
    exact hJ56 _ _ _ _ hf _ (lv_sub hl [1, 2, 3, 0] rfl)
  have L56 : ∀ (n : Nat) (x1 : Int32) (x2 : Int32) (x3 : Int32) (σ : St), pf_X7_ahead_L56 N n x1 x2 x3 σ = some z → ∀ ls : Array Slot, lv_has ls 5 [(0, .ref (h 0)), (1, .int x1), (2, .int x2), (3, .int x3)] → WG p l e (rmO 6 135) s m args below meth c D A 0 0 Q (wM h q σ) (F0 m 56 ls []) := by
    intro n
    induction n with
    | zero => intro x1 x2 x3 σ hf; unfold pf_X7_ahead_L56 at hf; cases hf
    | succ n ih =>
      intro x1 x2 x3 σ hf ls hl
      unfold pf_X7_ahead_L56 at hf
      refine s_iload_n C dX7_ahead_56 rfl (lv_at hl 3 rfl) ?_
      refine s_iload_n C dX7_ahead_57 rfl (lv_at hl 2 rfl) ?_
      refine s_aload_n C dX7_ahead_58 rfl (lv_at hl 0 rfl) ?_
      refine gM_0_3 C wd_3_142 dX7_ahead_59 ?_
      refine s_iload_n C dX7_ahead_62 rfl (lv_at hl 1 rfl) ?_
      obtain ⟨hi13, hf⟩ := bI_some hf
      refine ldM_2 C hi13 dX7_ahead_63 ?_
      refine s_iadd C dX7_ahead_64 ?_
      refine s_icmp_ge (tgt := 124) C dX7_ahead_65 (by decide) (fun c14 => ?_) (fun c14 => ?_)
      · replace hf := it_t c14 hf
        exact ret _ _ _ dX7_ahead_124 (congrArg (fun σ => (wM h q σ)) (rt_1 hf))
      · replace hf := it_f c14 hf
        refine s_bipush (v := (64 : Int32)) C dX7_ahead_68 (by decide) ?_
        refine s_iload_n C dX7_ahead_70 rfl (lv_at hl 3 rfl) ?_
        refine s_imul C dX7_ahead_71 ?_
        refine s_aload_n C dX7_ahead_72 rfl (lv_at hl 0 rfl) ?_
        refine gM_0_2 C wd_3_141 dX7_ahead_73 ?_
        refine s_iload_n C dX7_ahead_76 rfl (lv_at hl 1 rfl) ?_
        obtain ⟨hi15, hf⟩ := bI_some hf
        refine ldM_1 C hi15 dX7_ahead_77 ?_
        refine s_icmp_ge (tgt := 124) C dX7_ahead_78 (by decide) (fun c16 => ?_) (fun c16 => ?_)
        · replace hf := it_t c16 hf
          exact ret _ _ _ dX7_ahead_124 (congrArg (fun σ => (wM h q σ)) (rt_1 hf))
        · replace hf := it_f c16 hf
          refine s_sipush (v := (256 : Int32)) C dX7_ahead_81 (by decide) ?_
          refine s_iload_n C dX7_ahead_84 rfl (lv_at hl 1 rfl) ?_
          refine s_imul C dX7_ahead_85 ?_
          refine s_iload_n C dX7_ahead_86 rfl (lv_at hl 3 rfl) ?_
          refine s_iadd C dX7_ahead_87 ?_
          obtain ⟨v17, e18, hf⟩ := lt_some hf
          refine s_eq (g2 := F0 m 88 ls [.int v17]) (by rw [e18]) ?_
          clear e18
          refine s_istore (lv2 := [(4, .int v17), (0, .ref (h 0)), (1, .int x1), (2, .int x2), (3, .int x3)]) C dX7_ahead_88 hl (by decide) rfl ?_
          intro ls hl
          refine s_aload_n C dX7_ahead_90 rfl (lv_at hl 1 rfl) ?_
          refine s_iload C dX7_ahead_91 (lv_at hl 0 rfl) ?_
          obtain ⟨z19, h20, hf⟩ := bn_some hf
          refine s_callIV (As := [.int v17]) (rest := []) C (c_X7_isIn l D q h N v17 σ z19 h20) ⟨wd_4_13, wd_4_15, wd_s_23, wd_1_10, wd_4_16, cx_X7_isIn, Nat.le_of_ble_eq_true rfl, Nat.le_of_ble_eq_true rfl⟩ 0 (ci := 7) rfl rfl rfl (SubW.full _ _) rfl hl.1 rfl (Nat.le_of_ble_eq_true rfl) dX7_ahead_93 (Nat.zero_le _) (Nat.zero_le _) ?_
          refine s_if_ne (tgt := 109) C dX7_ahead_96 (by decide) (fun c21 => ?_) (fun c21 => ?_)
          · replace hf := it_f c21 hf
            exact b109 _ ih _ _ _ _ hf _ (lv_sub hl [1, 2, 3, 4] rfl)
          · replace hf := it_t c21 hf
            refine s_aload_n C dX7_ahead_99 rfl (lv_at hl 1 rfl) ?_
            refine s_iload C dX7_ahead_100 (lv_at hl 0 rfl) ?_
            obtain ⟨z25, h26, hf⟩ := bn_some hf
            refine s_callIV (As := [.int v17]) (rest := []) C (c_X7_bringIn l D q h N v17 σ z25 h26) ⟨wd_4_41, wd_4_43, wd_s_30, wd_1_10, wd_4_44, cx_X7_bringIn, Nat.le_of_ble_eq_true rfl, Nat.le_of_ble_eq_true rfl⟩ 0 (ci := 7) rfl rfl rfl (SubW.full _ _) rfl hl.1 rfl (Nat.le_of_ble_eq_true rfl) dX7_ahead_102 (Nat.zero_le _) (Nat.zero_le _) ?_
            refine s_if_ne (tgt := 109) C dX7_ahead_105 (by decide) (fun c27 => ?_) (fun c27 => ?_)
            · replace hf := it_f c27 hf
              exact b109 _ ih _ _ _ _ hf _ (lv_sub hl [1, 2, 3, 4] rfl)
            · replace hf := it_t c27 hf
              exact ret _ _ _ dX7_ahead_108 (congrArg (fun σ => (wM h q σ)) (rt_1 hf))
  have b42 : ∀ (x1 : Int32) (x2 : Int32) (y2 : Int32) (y1 : Int32) (σ : St), pf_X7_ahead_b42 N x1 x2 y2 y1 σ = some z → ∀ ls : Array Slot, lv_has ls 5 [(0, .ref (h 0)), (1, .int x1), (2, .int x2)] → WG p l e (rmO 6 135) s m args below meth c D A 0 0 Q (wM h q σ) (F0 m 42 ls [.int y2, .int y1, .ref (h 2)]) := by
    intro x1 x2 y2 y1 σ hf ls hl
    unfold pf_X7_ahead_b42 at hf
    obtain ⟨hi5, hf⟩ := bI_some hf
    refine stM_2 C hi5 dX7_ahead_42 ?_
    obtain ⟨σ6, e7, hf⟩ := lt_some hf
    refine s_w (ws2 := (wM h q σ6)) (by rw [e7]) ?_
    clear e7
    refine s_aload_n C dX7_ahead_43 rfl (lv_at hl 0 rfl) ?_
    refine gM_0_4 C wd_3_143 dX7_ahead_44 ?_
    refine s_iload_n C dX7_ahead_47 rfl (lv_at hl 1 rfl) ?_
    refine s_iload_n C dX7_ahead_48 rfl (lv_at hl 2 rfl) ?_
    refine s_iconst (v := (1 : Int32)) C dX7_ahead_49 (by decide) ?_
    refine s_iadd C dX7_ahead_50 ?_
    obtain ⟨hi8, hf⟩ := bI_some hf
    refine stM_3 C hi8 dX7_ahead_51 ?_
    obtain ⟨σ9, e10, hf⟩ := lt_some hf
    refine s_w (ws2 := (wM h q σ9)) (by rw [e10]) ?_
    clear e10
    refine s_iload_n C dX7_ahead_52 rfl (lv_at hl 2 rfl) ?_
    refine s_iconst (v := (1 : Int32)) C dX7_ahead_53 (by decide) ?_
    refine s_iadd C dX7_ahead_54 ?_
    obtain ⟨v11, e12, hf⟩ := lt_some hf
    refine s_eq (g2 := F0 m 55 ls [.int v11]) (by rw [e12]) ?_
    clear e12
    refine s_istore_n (lv2 := [(3, .int v11), (0, .ref (h 0)), (1, .int x1), (2, .int x2)]) C dX7_ahead_55 rfl hl (by decide) rfl ?_
    intro ls hl
    exact L56 N _ _ _ _ hf _ (lv_sub hl [1, 2, 3, 0] rfl)
  refine s_aload_n C dX7_ahead_0 rfl (lv_at hl 0 rfl) ?_
  refine gM_0_3 C wd_3_142 dX7_ahead_1 ?_
  refine s_iload_n C dX7_ahead_4 rfl (lv_at hl 1 rfl) ?_
  refine s_iload_n C dX7_ahead_5 rfl (lv_at hl 2 rfl) ?_
  refine s_aload_n C dX7_ahead_6 rfl (lv_at hl 0 rfl) ?_
  refine gM_0_4 C wd_3_143 dX7_ahead_7 ?_
  refine s_iload_n C dX7_ahead_10 rfl (lv_at hl 1 rfl) ?_
  obtain ⟨hi1, hf⟩ := bI_some hf
  refine ldM_3 C hi1 dX7_ahead_11 ?_
  refine s_icmp_eq (tgt := 19) C dX7_ahead_12 (by decide) (fun c2 => ?_) (fun c2 => ?_)
  · replace hf := it_t c2 hf
    refine s_aload_n C dX7_ahead_19 rfl (lv_at hl 0 rfl) ?_
    refine gM_0_3 C wd_3_142 dX7_ahead_20 ?_
    refine s_iload_n C dX7_ahead_23 rfl (lv_at hl 1 rfl) ?_
    obtain ⟨hi3, hf⟩ := bI_some hf
    refine ldM_2 C hi3 dX7_ahead_24 ?_
    refine s_iconst (v := (4 : Int32)) C dX7_ahead_25 (by decide) ?_
    refine s_icmp_ge (tgt := 40) C dX7_ahead_26 (by decide) (fun c4 => ?_) (fun c4 => ?_)
    · replace hf := it_t c4 hf
      refine s_bipush (v := (8 : Int32)) C dX7_ahead_40 (by decide) ?_
      exact b42 _ _ _ _ _ hf _ (lv_sub hl [0, 1, 2] rfl)
    · replace hf := it_f c4 hf
      refine s_iconst (v := (2 : Int32)) C dX7_ahead_29 (by decide) ?_
      refine s_aload_n C dX7_ahead_30 rfl (lv_at hl 0 rfl) ?_
      refine gM_0_3 C wd_3_142 dX7_ahead_31 ?_
      refine s_iload_n C dX7_ahead_34 rfl (lv_at hl 1 rfl) ?_
      obtain ⟨hi28, hf⟩ := bI_some hf
      refine ldM_2 C hi28 dX7_ahead_35 ?_
      refine s_imul C dX7_ahead_36 ?_
      refine s_goto (tgt := 42) C dX7_ahead_37 (by decide) ?_
      exact b42 _ _ _ _ _ hf _ (lv_sub hl [0, 1, 2] rfl)
  · replace hf := it_f c2 hf
    refine s_iconst (v := (1 : Int32)) C dX7_ahead_15 (by decide) ?_
    refine s_goto (tgt := 42) C dX7_ahead_16 (by decide) ?_
    exact b42 _ _ _ _ _ hf _ (lv_sub hl [0, 1, 2] rfl)
def pf_X7_dirties_b25 (N : Nat) (σ : St) (J4 : Int32 → Int32 → Option Int32) (x2 : Int32) (y1 : Int32) (y0 : Int32) : Option Int32 := J4 (y0 + y1) (x2 + 1) 
def pf_X7_dirties_L4 (N : Nat) (σ : St) : Nat → Int32 → Int32 → Option Int32
  | 0, _, _ => none
  | n + 1, x1, x2 => if (3072 : Int32) ≤ x2 then some x1 else (pf_X7_isDirty N x2 σ).bind (fun z2 => if z2 = 0 then pf_X7_dirties_b25 N σ (pf_X7_dirties_L4 N σ n) x2 (0 : Int32) x1  else pf_X7_dirties_b25 N σ (pf_X7_dirties_L4 N σ n) x2 (1 : Int32) x1 )
def pf_X7_dirties (N : Nat) (σ : St) : Option Int32 := pf_X7_dirties_L4 N σ N (0 : Int32) (0 : Int32) 
theorem cx_X7_dirties : (yX7_dirties.cls ≠ "java/lang/invoke/MethodHandle" ∧ yX7_dirties.cls ≠ "java/lang/invoke/VarHandle" ∧ (parseMethodDescriptor yX7_dirties.desc).map (fun d => d.parameters.length) = some 0) := by decide +kernel
set_option maxHeartbeats 4000000 in
set_option maxRecDepth 100000 in
theorem c_X7_dirties (l : Launch) (D : va_G) (q : Nat → ClassId) (h : Nat → Nat) (N : Nat) (σ : St) (z : Int32) (hf : pf_X7_dirties N σ = some z) : MI l yX7_dirties cX7_dirties 3 (some .int) 1 21 D (tyQ q) [.ref (h 0)] (wM h q σ) (wM h q σ) z := by
  refine MI.of (by decide) (Nat.le_of_ble_eq_true rfl) ?_
  intro p e s m args below meth c Q A C ret ls hl
  have hl : lv_has ls 3 [(0, .ref (h 0))] := hl
  unfold pf_X7_dirties at hf
  have b25 : ∀ (J4 : Int32 → Int32 → Option Int32) (hJ4 : ∀ (x1 : Int32) (x2 : Int32), J4 x1 x2 = some z → ∀ ls : Array Slot, lv_has ls 3 [(0, .ref (h 0)), (1, .int x1), (2, .int x2)] → WG p l e (rmO 1 21) s m args below meth c D A 0 0 Q (wM h q σ) (F0 m 4 ls [])) (x2 : Int32) (y1 : Int32) (y0 : Int32), pf_X7_dirties_b25 N σ J4 x2 y1 y0 = some z → ∀ ls : Array Slot, lv_has ls 3 [(0, .ref (h 0)), (2, .int x2)] → WG p l e (rmO 1 21) s m args below meth c D A 0 0 Q (wM h q σ) (F0 m 25 ls [.int y1, .int y0]) := by
    intro J4 hJ4 x2 y1 y0 hf ls hl
    unfold pf_X7_dirties_b25 at hf
    refine s_iadd C dX7_dirties_25 ?_
    refine s_istore_n (lv2 := [(1, .int (y0 + y1)), (0, .ref (h 0)), (2, .int x2)]) C dX7_dirties_26 rfl hl (by decide) rfl ?_
    intro ls hl
    refine s_iinc (v := (x2 + 1)) (lv2 := [(2, .int (x2 + 1)), (1, .int (y0 + y1)), (0, .ref (h 0))]) C 2 dX7_dirties_27 hl rfl rfl (by decide) rfl ?_
    intro ls hl
    refine s_goto (tgt := 4) C dX7_dirties_30 (by decide) ?_
    exact hJ4 _ _ hf _ (lv_sub hl [2, 1, 0] rfl)
  have L4 : ∀ (n : Nat) (x1 : Int32) (x2 : Int32), pf_X7_dirties_L4 N σ n x1 x2 = some z → ∀ ls : Array Slot, lv_has ls 3 [(0, .ref (h 0)), (1, .int x1), (2, .int x2)] → WG p l e (rmO 1 21) s m args below meth c D A 0 0 Q (wM h q σ) (F0 m 4 ls []) := by
    intro n
    induction n with
    | zero => intro x1 x2 hf; unfold pf_X7_dirties_L4 at hf; cases hf
    | succ n ih =>
      intro x1 x2 hf ls hl
      unfold pf_X7_dirties_L4 at hf
      refine s_iload_n C dX7_dirties_4 rfl (lv_at hl 2 rfl) ?_
      refine s_sipush (v := (3072 : Int32)) C dX7_dirties_5 (by decide) ?_
      refine s_icmp_ge (tgt := 33) C dX7_dirties_8 (by decide) (fun c1 => ?_) (fun c1 => ?_)
      · replace hf := it_t c1 hf
        refine s_iload_n C dX7_dirties_33 rfl (lv_at hl 1 rfl) ?_
        exact ret _ _ _ _ dX7_dirties_34 rfl (rt_1 hf) rfl
      · replace hf := it_f c1 hf
        refine s_iload_n C dX7_dirties_11 rfl (lv_at hl 1 rfl) ?_
        refine s_aload_n C dX7_dirties_12 rfl (lv_at hl 0 rfl) ?_
        refine s_iload_n C dX7_dirties_13 rfl (lv_at hl 2 rfl) ?_
        obtain ⟨z2, h3, hf⟩ := bn_some hf
        refine s_callIV (As := [.int x2]) (rest := [.int x1]) C (c_X7_isDirty l D q h N x2 σ z2 h3) ⟨wd_4_49, wd_4_51, wd_s_32, wd_1_10, wd_4_52, cx_X7_isDirty, Nat.le_of_ble_eq_true rfl, Nat.le_of_ble_eq_true rfl⟩ 0 (ci := 7) rfl rfl rfl (SubW.full _ _) rfl hl.1 rfl (Nat.le_of_ble_eq_true rfl) dX7_dirties_14 (Nat.zero_le _) (Nat.zero_le _) ?_
        refine s_if_eq (tgt := 24) C dX7_dirties_17 (by decide) (fun c4 => ?_) (fun c4 => ?_)
        · replace hf := it_t c4 hf
          refine s_iconst (v := (0 : Int32)) C dX7_dirties_24 (by decide) ?_
          exact b25 _ ih _ _ _ hf _ (lv_sub hl [0, 2] rfl)
        · replace hf := it_f c4 hf
          refine s_iconst (v := (1 : Int32)) C dX7_dirties_20 (by decide) ?_
          refine s_goto (tgt := 25) C dX7_dirties_21 (by decide) ?_
          exact b25 _ ih _ _ _ hf _ (lv_sub hl [0, 2] rfl)
  refine s_iconst (v := (0 : Int32)) C dX7_dirties_0 (by decide) ?_
  refine s_istore_n (lv2 := [(1, .int (0 : Int32)), (0, .ref (h 0))]) C dX7_dirties_1 rfl hl (by decide) rfl ?_
  intro ls hl
  refine s_iconst (v := (0 : Int32)) C dX7_dirties_2 (by decide) ?_
  refine s_istore_n (lv2 := [(2, .int (0 : Int32)), (1, .int (0 : Int32)), (0, .ref (h 0))]) C dX7_dirties_3 rfl hl (by decide) rfl ?_
  intro ls hl
  exact L4 N _ _ hf _ (lv_sub hl [2, 1, 0] rfl)
def pf_X7_crash_L40 (N : Nat) : Nat → Int32 → Int32 → St → Option (Int32 × St)
  | 0, _, _, _ => none
  | n + 1, x1, x2, σ => if (12 : Int32) ≤ x2 then lt_ (sG σ 4 (0 : Int32)) (fun σ5 => some (x1, σ5)) else bI x2 (12) (lt_ (sA σ 2 (upd (σ.2.1 2) (Int32.toNatClampNeg x2) (1 : Int32))) (fun σ8 => bI x2 (12) (lt_ (sA σ8 3 (upd (σ8.2.1 3) (Int32.toNatClampNeg x2) (0 : Int32))) (fun σ11 => bI x2 (12) (lt_ (sA σ11 4 (upd (σ11.2.1 4) (Int32.toNatClampNeg x2) (0 : Int32))) (fun σ14 => (pf_X7_crash_L40 N n) x1 (x2 + 1) σ14))))))
def pf_X7_crash_b27 (N : Nat) (J7 : Int32 → Int32 → St → Option (Int32 × St)) (x1 : Int32) (x2 : Int32) (σ : St) : Option (Int32 × St) := (pf_X7_noShadow N x2 σ).bind (fun z19 => J7 x1 (x2 + 1) z19)
def pf_X7_crash_L7 (N : Nat) : Nat → Int32 → Int32 → St → Option (Int32 × St)
  | 0, _, _, _ => none
  | n + 1, x1, x2, σ => if (3072 : Int32) ≤ x2 then pf_X7_crash_L40 N N x1 (0 : Int32) σ else (pf_X7_isIn N x2 σ).bind (fun z16 => if z16 = 0 then pf_X7_crash_b27 N (pf_X7_crash_L7 N n) x1 x2 σ else (pf_X7_goOut N x2 σ).bind (fun z21 => pf_X7_crash_b27 N (pf_X7_crash_L7 N n) x1 x2 z21))
def pf_X7_crash (N : Nat) (σ : St) : Option (Int32 × St) := (pf_X7_dirties N σ).bind (fun z1 => pf_X7_crash_L7 N N z1 (0 : Int32) σ)
theorem cx_X7_crash : (yX7_crash.cls ≠ "java/lang/invoke/MethodHandle" ∧ yX7_crash.cls ≠ "java/lang/invoke/VarHandle" ∧ (parseMethodDescriptor yX7_crash.desc).map (fun d => d.parameters.length) = some 0) := by decide +kernel
set_option maxHeartbeats 4000000 in
set_option maxRecDepth 100000 in
theorem c_X7_crash (l : Launch) (D : va_G) (q : Nat → ClassId) (h : Nat → Nat) (N : Nat) (σ : St) (z : (Int32 × St)) (hf : pf_X7_crash N σ = some z) : MI l yX7_crash cX7_crash 3 (some .int) 3 66 D (tyQ q) [.ref (h 0)] (wM h q σ) (wM h q z.2) z.1 := by
  refine MI.of (by decide) (Nat.le_of_ble_eq_true rfl) ?_
  intro p e s m args below meth c Q A C ret ls hl
  have hl : lv_has ls 3 [(0, .ref (h 0))] := hl
  unfold pf_X7_crash at hf
  have L40 : ∀ (n : Nat) (x1 : Int32) (x2 : Int32) (σ : St), pf_X7_crash_L40 N n x1 x2 σ = some z → ∀ ls : Array Slot, lv_has ls 3 [(0, .ref (h 0)), (1, .int x1), (2, .int x2)] → WG p l e (rmO 3 66) s m args below meth c D A 0 0 Q (wM h q σ) (F0 m 40 ls []) := by
    intro n
    induction n with
    | zero => intro x1 x2 σ hf; unfold pf_X7_crash_L40 at hf; cases hf
    | succ n ih =>
      intro x1 x2 σ hf ls hl
      unfold pf_X7_crash_L40 at hf
      refine s_iload_n C dX7_crash_40 rfl (lv_at hl 2 rfl) ?_
      refine s_bipush (v := (12 : Int32)) C dX7_crash_41 (by decide) ?_
      refine s_icmp_ge (tgt := 73) C dX7_crash_43 (by decide) (fun c4 => ?_) (fun c4 => ?_)
      · replace hf := it_t c4 hf
        refine s_aload_n C dX7_crash_73 rfl (lv_at hl 0 rfl) ?_
        refine s_iconst (v := (0 : Int32)) C dX7_crash_74 (by decide) ?_
        refine uM_0_23 C wd_3_162 dX7_crash_75 ?_
        obtain ⟨σ5, e6, hf⟩ := lt_some hf
        refine s_w (ws2 := (wM h q σ5)) (by rw [e6]) ?_
        clear e6
        refine s_iload_n C dX7_crash_78 rfl (lv_at hl 1 rfl) ?_
        exact ret _ _ _ _ dX7_crash_79 rfl (rt_2 hf).1 (congrArg (fun σ => (wM h q σ)) (rt_2 hf).2)
      · replace hf := it_f c4 hf
        refine s_aload_n C dX7_crash_46 rfl (lv_at hl 0 rfl) ?_
        refine gM_0_3 C wd_3_142 dX7_crash_47 ?_
        refine s_iload_n C dX7_crash_50 rfl (lv_at hl 2 rfl) ?_
        refine s_iconst (v := (1 : Int32)) C dX7_crash_51 (by decide) ?_
        obtain ⟨hi7, hf⟩ := bI_some hf
        refine stM_2 C hi7 dX7_crash_52 ?_
        obtain ⟨σ8, e9, hf⟩ := lt_some hf
        refine s_w (ws2 := (wM h q σ8)) (by rw [e9]) ?_
        clear e9
        refine s_aload_n C dX7_crash_53 rfl (lv_at hl 0 rfl) ?_
        refine gM_0_4 C wd_3_143 dX7_crash_54 ?_
        refine s_iload_n C dX7_crash_57 rfl (lv_at hl 2 rfl) ?_
        refine s_iconst (v := (0 : Int32)) C dX7_crash_58 (by decide) ?_
        obtain ⟨hi10, hf⟩ := bI_some hf
        refine stM_3 C hi10 dX7_crash_59 ?_
        obtain ⟨σ11, e12, hf⟩ := lt_some hf
        refine s_w (ws2 := (wM h q σ11)) (by rw [e12]) ?_
        clear e12
        refine s_aload_n C dX7_crash_60 rfl (lv_at hl 0 rfl) ?_
        refine gM_0_5 C wd_3_144 dX7_crash_61 ?_
        refine s_iload_n C dX7_crash_64 rfl (lv_at hl 2 rfl) ?_
        refine s_iconst (v := (0 : Int32)) C dX7_crash_65 (by decide) ?_
        obtain ⟨hi13, hf⟩ := bI_some hf
        refine stM_4 C hi13 dX7_crash_66 ?_
        obtain ⟨σ14, e15, hf⟩ := lt_some hf
        refine s_w (ws2 := (wM h q σ14)) (by rw [e15]) ?_
        clear e15
        refine s_iinc (v := (x2 + 1)) (lv2 := [(2, .int (x2 + 1)), (0, .ref (h 0)), (1, .int x1)]) C 2 dX7_crash_67 hl rfl rfl (by decide) rfl ?_
        intro ls hl
        refine s_goto (tgt := 40) C dX7_crash_70 (by decide) ?_
        exact ih _ _ _ hf _ (lv_sub hl [1, 2, 0] rfl)
  have b27 : ∀ (J7 : Int32 → Int32 → St → Option (Int32 × St)) (hJ7 : ∀ (x1 : Int32) (x2 : Int32) (σ : St), J7 x1 x2 σ = some z → ∀ ls : Array Slot, lv_has ls 3 [(0, .ref (h 0)), (1, .int x1), (2, .int x2)] → WG p l e (rmO 3 66) s m args below meth c D A 0 0 Q (wM h q σ) (F0 m 7 ls [])) (x1 : Int32) (x2 : Int32) (σ : St), pf_X7_crash_b27 N J7 x1 x2 σ = some z → ∀ ls : Array Slot, lv_has ls 3 [(0, .ref (h 0)), (1, .int x1), (2, .int x2)] → WG p l e (rmO 3 66) s m args below meth c D A 0 0 Q (wM h q σ) (F0 m 27 ls []) := by
    intro J7 hJ7 x1 x2 σ hf ls hl
    unfold pf_X7_crash_b27 at hf
    refine s_aload_n C dX7_crash_27 rfl (lv_at hl 0 rfl) ?_
    refine s_iload_n C dX7_crash_28 rfl (lv_at hl 2 rfl) ?_
    obtain ⟨z19, h20, hf⟩ := bn_some hf
    refine s_callVV (As := [.int x2]) (rest := []) C (c_X7_noShadow l D q h N x2 σ z19 h20) ⟨wd_4_77, wd_4_79, wd_s_39, wd_1_10, wd_4_80, cx_X7_noShadow, Nat.le_of_ble_eq_true rfl, Nat.le_of_ble_eq_true rfl⟩ 0 (ci := 7) rfl rfl rfl (SubW.full _ _) rfl hl.1 rfl (Nat.le_of_ble_eq_true rfl) dX7_crash_29 (Nat.zero_le _) (Nat.zero_le _) ?_
    refine s_iinc (v := (x2 + 1)) (lv2 := [(2, .int (x2 + 1)), (0, .ref (h 0)), (1, .int x1)]) C 2 dX7_crash_32 hl rfl rfl (by decide) rfl ?_
    intro ls hl
    refine s_goto (tgt := 7) C dX7_crash_35 (by decide) ?_
    exact hJ7 _ _ _ hf _ (lv_sub hl [1, 2, 0] rfl)
  have L7 : ∀ (n : Nat) (x1 : Int32) (x2 : Int32) (σ : St), pf_X7_crash_L7 N n x1 x2 σ = some z → ∀ ls : Array Slot, lv_has ls 3 [(0, .ref (h 0)), (1, .int x1), (2, .int x2)] → WG p l e (rmO 3 66) s m args below meth c D A 0 0 Q (wM h q σ) (F0 m 7 ls []) := by
    intro n
    induction n with
    | zero => intro x1 x2 σ hf; unfold pf_X7_crash_L7 at hf; cases hf
    | succ n ih =>
      intro x1 x2 σ hf ls hl
      unfold pf_X7_crash_L7 at hf
      refine s_iload_n C dX7_crash_7 rfl (lv_at hl 2 rfl) ?_
      refine s_sipush (v := (3072 : Int32)) C dX7_crash_8 (by decide) ?_
      refine s_icmp_ge (tgt := 38) C dX7_crash_11 (by decide) (fun c3 => ?_) (fun c3 => ?_)
      · replace hf := it_t c3 hf
        refine s_iconst (v := (0 : Int32)) C dX7_crash_38 (by decide) ?_
        refine s_istore_n (lv2 := [(2, .int (0 : Int32)), (0, .ref (h 0)), (1, .int x1)]) C dX7_crash_39 rfl hl (by decide) rfl ?_
        intro ls hl
        exact L40 N _ _ _ hf _ (lv_sub hl [1, 2, 0] rfl)
      · replace hf := it_f c3 hf
        refine s_aload_n C dX7_crash_14 rfl (lv_at hl 0 rfl) ?_
        refine s_iload_n C dX7_crash_15 rfl (lv_at hl 2 rfl) ?_
        obtain ⟨z16, h17, hf⟩ := bn_some hf
        refine s_callIV (As := [.int x2]) (rest := []) C (c_X7_isIn l D q h N x2 σ z16 h17) ⟨wd_4_13, wd_4_15, wd_s_23, wd_1_10, wd_4_16, cx_X7_isIn, Nat.le_of_ble_eq_true rfl, Nat.le_of_ble_eq_true rfl⟩ 0 (ci := 7) rfl rfl rfl (SubW.full _ _) rfl hl.1 rfl (Nat.le_of_ble_eq_true rfl) dX7_crash_16 (Nat.zero_le _) (Nat.zero_le _) ?_
        refine s_if_eq (tgt := 27) C dX7_crash_19 (by decide) (fun c18 => ?_) (fun c18 => ?_)
        · replace hf := it_t c18 hf
          exact b27 _ ih _ _ _ hf _ (lv_sub hl [0, 1, 2] rfl)
        · replace hf := it_f c18 hf
          refine s_aload_n C dX7_crash_22 rfl (lv_at hl 0 rfl) ?_
          refine s_iload_n C dX7_crash_23 rfl (lv_at hl 2 rfl) ?_
          obtain ⟨z21, h22, hf⟩ := bn_some hf
          refine s_callVV (As := [.int x2]) (rest := []) C (c_X7_goOut l D q h N x2 σ z21 h22) ⟨wd_4_73, wd_4_75, wd_s_38, wd_1_10, wd_4_76, cx_X7_goOut, Nat.le_of_ble_eq_true rfl, Nat.le_of_ble_eq_true rfl⟩ 0 (ci := 7) rfl rfl rfl (SubW.full _ _) rfl hl.1 rfl (Nat.le_of_ble_eq_true rfl) dX7_crash_24 (Nat.zero_le _) (Nat.zero_le _) ?_
          exact b27 _ ih _ _ _ hf _ (lv_sub hl [0, 1, 2] rfl)
  refine s_aload_n C dX7_crash_0 rfl (lv_at hl 0 rfl) ?_
  obtain ⟨z1, h2, hf⟩ := bn_some hf
  refine s_callIV (As := []) (rest := []) C (c_X7_dirties l D q h N σ z1 h2) ⟨wd_4_101, wd_4_103, wd_s_43, wd_1_10, wd_4_104, cx_X7_dirties, Nat.le_of_ble_eq_true rfl, Nat.le_of_ble_eq_true rfl⟩ 0 (ci := 7) rfl rfl rfl (SubW.full _ _) rfl hl.1 rfl (Nat.le_of_ble_eq_true rfl) dX7_crash_1 (Nat.zero_le _) (Nat.zero_le _) ?_
  refine s_istore_n (lv2 := [(1, .int z1), (0, .ref (h 0))]) C dX7_crash_4 rfl hl (by decide) rfl ?_
  intro ls hl
  refine s_iconst (v := (0 : Int32)) C dX7_crash_5 (by decide) ?_
  refine s_istore_n (lv2 := [(2, .int (0 : Int32)), (1, .int z1), (0, .ref (h 0))]) C dX7_crash_6 rfl hl (by decide) rfl ?_
  intro ls hl
  exact L7 N _ _ _ hf _ (lv_sub hl [2, 1, 0] rfl)
def pf_X7_disk (N : Nat) (x1 : Int32) (x2 : Int32) (σ : St) : Option Int32 := if x1 < 0 then some (-2 : Int32) else if (σ.1 1) ≤ x1 then some (-2 : Int32) else if x2 < 0 then some (-2 : Int32) else if x2 < (64 : Int32) then bI (((64 : Int32) * x1) + x2) (32768) (some (((σ.2.1 16) (Int32.toNatClampNeg (((64 : Int32) * x1) + x2))) &&& (255 : Int32))) else some (-2 : Int32)
theorem cx_X7_disk : (yX7_disk.cls ≠ "java/lang/invoke/MethodHandle" ∧ yX7_disk.cls ≠ "java/lang/invoke/VarHandle" ∧ (parseMethodDescriptor yX7_disk.desc).map (fun d => d.parameters.length) = some 2) := by decide +kernel
set_option maxHeartbeats 4000000 in
set_option maxRecDepth 100000 in
theorem c_X7_disk (l : Launch) (D : va_G) (q : Nat → ClassId) (h : Nat → Nat) (N : Nat) (x1 : Int32) (x2 : Int32) (σ : St) (z : Int32) (hf : pf_X7_disk N x1 x2 σ = some z) : MI l yX7_disk cX7_disk 3 (some .int) 0 0 D (tyQ q) [.ref (h 0), .int x1, .int x2] (wM h q σ) (wM h q σ) z := by
  refine MI.of (by decide) (Nat.le_of_ble_eq_true rfl) ?_
  intro p e s m args below meth c Q A C ret ls hl
  have hl : lv_has ls 3 [(0, .ref (h 0)), (1, .int x1), (2, .int x2)] := hl
  unfold pf_X7_disk at hf
  refine s_iload_n C dX7_disk_0 rfl (lv_at hl 1 rfl) ?_
  refine s_if_lt (tgt := 22) C dX7_disk_1 (by decide) (fun c1 => ?_) (fun c1 => ?_)
  · replace hf := it_t c1 hf
    refine s_bipush (v := (-2 : Int32)) C dX7_disk_22 (by decide) ?_
    refine s_goto (tgt := 42) C dX7_disk_24 (by decide) ?_
    exact ret _ _ _ _ dX7_disk_42 rfl (rt_1 hf) rfl
  · replace hf := it_f c1 hf
    refine s_iload_n C dX7_disk_4 rfl (lv_at hl 1 rfl) ?_
    refine s_aload_n C dX7_disk_5 rfl (lv_at hl 0 rfl) ?_
    refine gM_0_1 C wd_3_140 dX7_disk_6 ?_
    refine s_icmp_ge (tgt := 22) C dX7_disk_9 (by decide) (fun c2 => ?_) (fun c2 => ?_)
    · replace hf := it_t c2 hf
      refine s_bipush (v := (-2 : Int32)) C dX7_disk_22 (by decide) ?_
      refine s_goto (tgt := 42) C dX7_disk_24 (by decide) ?_
      exact ret _ _ _ _ dX7_disk_42 rfl (rt_1 hf) rfl
    · replace hf := it_f c2 hf
      refine s_iload_n C dX7_disk_12 rfl (lv_at hl 2 rfl) ?_
      refine s_if_lt (tgt := 22) C dX7_disk_13 (by decide) (fun c3 => ?_) (fun c3 => ?_)
      · replace hf := it_t c3 hf
        refine s_bipush (v := (-2 : Int32)) C dX7_disk_22 (by decide) ?_
        refine s_goto (tgt := 42) C dX7_disk_24 (by decide) ?_
        exact ret _ _ _ _ dX7_disk_42 rfl (rt_1 hf) rfl
      · replace hf := it_f c3 hf
        refine s_iload_n C dX7_disk_16 rfl (lv_at hl 2 rfl) ?_
        refine s_bipush (v := (64 : Int32)) C dX7_disk_17 (by decide) ?_
        refine s_icmp_lt (tgt := 27) C dX7_disk_19 (by decide) (fun c4 => ?_) (fun c4 => ?_)
        · replace hf := it_t c4 hf
          refine s_aload_n C dX7_disk_27 rfl (lv_at hl 0 rfl) ?_
          refine gM_0_19 C wd_3_158 dX7_disk_28 ?_
          refine s_bipush (v := (64 : Int32)) C dX7_disk_31 (by decide) ?_
          refine s_iload_n C dX7_disk_33 rfl (lv_at hl 1 rfl) ?_
          refine s_imul C dX7_disk_34 ?_
          refine s_iload_n C dX7_disk_35 rfl (lv_at hl 2 rfl) ?_
          refine s_iadd C dX7_disk_36 ?_
          obtain ⟨hi5, hf⟩ := bI_some hf
          refine ldM_16 C hi5 dX7_disk_37 ?_
          refine s_sipush (v := (255 : Int32)) C dX7_disk_38 (by decide) ?_
          refine s_iand C dX7_disk_41 ?_
          exact ret _ _ _ _ dX7_disk_42 rfl (rt_1 hf) rfl
        · replace hf := it_f c4 hf
          refine s_bipush (v := (-2 : Int32)) C dX7_disk_22 (by decide) ?_
          refine s_goto (tgt := 42) C dX7_disk_24 (by decide) ?_
          exact ret _ _ _ _ dX7_disk_42 rfl (rt_1 hf) rfl
def pf_X7_drop_b44 (N : Nat) (J4 : Int32 → Int32 → St → Option (Int32 × St)) (x1 : Int32) (x2 : Int32) (σ : St) : Option (Int32 × St) := J4 x1 (x2 + 1) σ
def pf_X7_drop_L4 (N : Nat) : Nat → Int32 → Int32 → St → Option (Int32 × St)
  | 0, _, _, _ => none
  | n + 1, x1, x2, σ => if (3072 : Int32) ≤ x2 then some (x1, σ) else (pf_X7_isIn N x2 σ).bind (fun z2 => if z2 = 0 then pf_X7_drop_b44 N (pf_X7_drop_L4 N n) x1 x2 σ else (pf_X7_isDirty N x2 σ).bind (fun z5 => if z5 = 0 then bI x2 (3072) (if ((σ.2.1 10) (Int32.toNatClampNeg x2)) = 0 then (pf_X7_evict N x2 σ).bind (fun z10 => pf_X7_drop_b44 N (pf_X7_drop_L4 N n) (x1 + 1) x2 z10) else pf_X7_drop_b44 N (pf_X7_drop_L4 N n) x1 x2 σ) else pf_X7_drop_b44 N (pf_X7_drop_L4 N n) x1 x2 σ))
def pf_X7_drop (N : Nat) (σ : St) : Option (Int32 × St) := pf_X7_drop_L4 N N (0 : Int32) (0 : Int32) σ
theorem cx_X7_drop : (yX7_drop.cls ≠ "java/lang/invoke/MethodHandle" ∧ yX7_drop.cls ≠ "java/lang/invoke/VarHandle" ∧ (parseMethodDescriptor yX7_drop.desc).map (fun d => d.parameters.length) = some 0) := by decide +kernel
set_option maxHeartbeats 4000000 in
set_option maxRecDepth 100000 in
theorem c_X7_drop (l : Launch) (D : va_G) (q : Nat → ClassId) (h : Nat → Nat) (N : Nat) (σ : St) (z : (Int32 × St)) (hf : pf_X7_drop N σ = some z) : MI l yX7_drop cX7_drop 3 (some .int) 4 89 D (tyQ q) [.ref (h 0)] (wM h q σ) (wM h q z.2) z.1 := by
  refine MI.of (by decide) (Nat.le_of_ble_eq_true rfl) ?_
  intro p e s m args below meth c Q A C ret ls hl
  have hl : lv_has ls 3 [(0, .ref (h 0))] := hl
  unfold pf_X7_drop at hf
  have b44 : ∀ (J4 : Int32 → Int32 → St → Option (Int32 × St)) (hJ4 : ∀ (x1 : Int32) (x2 : Int32) (σ : St), J4 x1 x2 σ = some z → ∀ ls : Array Slot, lv_has ls 3 [(0, .ref (h 0)), (1, .int x1), (2, .int x2)] → WG p l e (rmO 4 89) s m args below meth c D A 0 0 Q (wM h q σ) (F0 m 4 ls [])) (x1 : Int32) (x2 : Int32) (σ : St), pf_X7_drop_b44 N J4 x1 x2 σ = some z → ∀ ls : Array Slot, lv_has ls 3 [(0, .ref (h 0)), (1, .int x1), (2, .int x2)] → WG p l e (rmO 4 89) s m args below meth c D A 0 0 Q (wM h q σ) (F0 m 44 ls []) := by
    intro J4 hJ4 x1 x2 σ hf ls hl
    unfold pf_X7_drop_b44 at hf
    refine s_iinc (v := (x2 + 1)) (lv2 := [(2, .int (x2 + 1)), (0, .ref (h 0)), (1, .int x1)]) C 2 dX7_drop_44 hl rfl rfl (by decide) rfl ?_
    intro ls hl
    refine s_goto (tgt := 4) C dX7_drop_47 (by decide) ?_
    exact hJ4 _ _ _ hf _ (lv_sub hl [1, 2, 0] rfl)
  have L4 : ∀ (n : Nat) (x1 : Int32) (x2 : Int32) (σ : St), pf_X7_drop_L4 N n x1 x2 σ = some z → ∀ ls : Array Slot, lv_has ls 3 [(0, .ref (h 0)), (1, .int x1), (2, .int x2)] → WG p l e (rmO 4 89) s m args below meth c D A 0 0 Q (wM h q σ) (F0 m 4 ls []) := by
    intro n
    induction n with
    | zero => intro x1 x2 σ hf; unfold pf_X7_drop_L4 at hf; cases hf
    | succ n ih =>
      intro x1 x2 σ hf ls hl
      unfold pf_X7_drop_L4 at hf
      refine s_iload_n C dX7_drop_4 rfl (lv_at hl 2 rfl) ?_
      refine s_sipush (v := (3072 : Int32)) C dX7_drop_5 (by decide) ?_
      refine s_icmp_ge (tgt := 50) C dX7_drop_8 (by decide) (fun c1 => ?_) (fun c1 => ?_)
      · replace hf := it_t c1 hf
        refine s_iload_n C dX7_drop_50 rfl (lv_at hl 1 rfl) ?_
        exact ret _ _ _ _ dX7_drop_51 rfl (rt_2 hf).1 (congrArg (fun σ => (wM h q σ)) (rt_2 hf).2)
      · replace hf := it_f c1 hf
        refine s_aload_n C dX7_drop_11 rfl (lv_at hl 0 rfl) ?_
        refine s_iload_n C dX7_drop_12 rfl (lv_at hl 2 rfl) ?_
        obtain ⟨z2, h3, hf⟩ := bn_some hf
        refine s_callIV (As := [.int x2]) (rest := []) C (c_X7_isIn l D q h N x2 σ z2 h3) ⟨wd_4_13, wd_4_15, wd_s_23, wd_1_10, wd_4_16, cx_X7_isIn, Nat.le_of_ble_eq_true rfl, Nat.le_of_ble_eq_true rfl⟩ 0 (ci := 7) rfl rfl rfl (SubW.full _ _) rfl hl.1 rfl (Nat.le_of_ble_eq_true rfl) dX7_drop_13 (Nat.zero_le _) (Nat.zero_le _) ?_
        refine s_if_eq (tgt := 44) C dX7_drop_16 (by decide) (fun c4 => ?_) (fun c4 => ?_)
        · replace hf := it_t c4 hf
          exact b44 _ ih _ _ _ hf _ (lv_sub hl [0, 1, 2] rfl)
        · replace hf := it_f c4 hf
          refine s_aload_n C dX7_drop_19 rfl (lv_at hl 0 rfl) ?_
          refine s_iload_n C dX7_drop_20 rfl (lv_at hl 2 rfl) ?_
          obtain ⟨z5, h6, hf⟩ := bn_some hf
          refine s_callIV (As := [.int x2]) (rest := []) C (c_X7_isDirty l D q h N x2 σ z5 h6) ⟨wd_4_49, wd_4_51, wd_s_32, wd_1_10, wd_4_52, cx_X7_isDirty, Nat.le_of_ble_eq_true rfl, Nat.le_of_ble_eq_true rfl⟩ 0 (ci := 7) rfl rfl rfl (SubW.full _ _) rfl hl.1 rfl (Nat.le_of_ble_eq_true rfl) dX7_drop_21 (Nat.zero_le _) (Nat.zero_le _) ?_
          refine s_if_ne (tgt := 44) C dX7_drop_24 (by decide) (fun c7 => ?_) (fun c7 => ?_)
          · replace hf := it_f c7 hf
            exact b44 _ ih _ _ _ hf _ (lv_sub hl [0, 1, 2] rfl)
          · replace hf := it_t c7 hf
            refine s_aload_n C dX7_drop_27 rfl (lv_at hl 0 rfl) ?_
            refine gM_0_11 C wd_3_150 dX7_drop_28 ?_
            refine s_iload_n C dX7_drop_31 rfl (lv_at hl 2 rfl) ?_
            obtain ⟨hi8, hf⟩ := bI_some hf
            refine ldM_10 C hi8 dX7_drop_32 ?_
            refine s_if_ne (tgt := 44) C dX7_drop_33 (by decide) (fun c9 => ?_) (fun c9 => ?_)
            · replace hf := it_f c9 hf
              exact b44 _ ih _ _ _ hf _ (lv_sub hl [0, 1, 2] rfl)
            · replace hf := it_t c9 hf
              refine s_aload_n C dX7_drop_36 rfl (lv_at hl 0 rfl) ?_
              refine s_iload_n C dX7_drop_37 rfl (lv_at hl 2 rfl) ?_
              obtain ⟨z10, h11, hf⟩ := bn_some hf
              refine s_callVV (As := [.int x2]) (rest := []) C (c_X7_evict l D q h N x2 σ z10 h11) ⟨wd_4_69, wd_4_71, wd_s_37, wd_1_10, wd_4_72, cx_X7_evict, Nat.le_of_ble_eq_true rfl, Nat.le_of_ble_eq_true rfl⟩ 0 (ci := 7) rfl rfl rfl (SubW.full _ _) rfl hl.1 rfl (Nat.le_of_ble_eq_true rfl) dX7_drop_38 (Nat.zero_le _) (Nat.zero_le _) ?_
              refine s_iinc (v := (x1 + 1)) (lv2 := [(1, .int (x1 + 1)), (0, .ref (h 0)), (2, .int x2)]) C 1 dX7_drop_41 hl rfl rfl (by decide) rfl ?_
              intro ls hl
              exact b44 _ ih _ _ _ hf _ (lv_sub hl [1, 0, 2] rfl)
  refine s_iconst (v := (0 : Int32)) C dX7_drop_0 (by decide) ?_
  refine s_istore_n (lv2 := [(1, .int (0 : Int32)), (0, .ref (h 0))]) C dX7_drop_1 rfl hl (by decide) rfl ?_
  intro ls hl
  refine s_iconst (v := (0 : Int32)) C dX7_drop_2 (by decide) ?_
  refine s_istore_n (lv2 := [(2, .int (0 : Int32)), (1, .int (0 : Int32)), (0, .ref (h 0))]) C dX7_drop_3 rfl hl (by decide) rfl ?_
  intro ls hl
  exact L4 N _ _ _ hf _ (lv_sub hl [2, 1, 0] rfl)
def pf_X7_fail_b29 (N : Nat) (x1 : Int32) (x2 : Int32) (y0 : Int32) (σ : St) : Option (Int32 × St) := bI x1 (512) (lt_ (sA σ 18 (upd (σ.2.1 18) (Int32.toNatClampNeg x1) (vp_nar .boolean x2))) (fun σ6 => bZ y0 (some (y0, σ6))))
def pf_X7_fail (N : Nat) (x1 : Int32) (x2 : Int32) (σ : St) : Option (Int32 × St) := if x1 < 0 then some ((0 : Int32), σ) else if x1 < (σ.1 1) then bI x1 (512) (if ((σ.2.1 18) (Int32.toNatClampNeg x1)) = x2 then pf_X7_fail_b29 N x1 x2 (0 : Int32) σ else pf_X7_fail_b29 N x1 x2 (1 : Int32) σ) else some ((0 : Int32), σ)
theorem cx_X7_fail : (yX7_fail.cls ≠ "java/lang/invoke/MethodHandle" ∧ yX7_fail.cls ≠ "java/lang/invoke/VarHandle" ∧ (parseMethodDescriptor yX7_fail.desc).map (fun d => d.parameters.length) = some 2) := by decide +kernel
set_option maxHeartbeats 4000000 in
set_option maxRecDepth 100000 in
theorem c_X7_fail (l : Launch) (D : va_G) (q : Nat → ClassId) (h : Nat → Nat) (N : Nat) (x1 : Int32) (x2 : Int32) (σ : St) (z : (Int32 × St)) (hf : pf_X7_fail N x1 x2 σ = some z) : MI l yX7_fail cX7_fail 4 (some .boolean) 0 0 D (tyQ q) [.ref (h 0), .int x1, .int x2] (wM h q σ) (wM h q z.2) z.1 := by
  refine MI.of (by decide) (Nat.le_of_ble_eq_true rfl) ?_
  intro p e s m args below meth c Q A C ret ls hl
  have hl : lv_has ls 4 [(0, .ref (h 0)), (1, .int x1), (2, .int x2)] := hl
  unfold pf_X7_fail at hf
  have b29 : ∀ (x1 : Int32) (x2 : Int32) (y0 : Int32) (σ : St), pf_X7_fail_b29 N x1 x2 y0 σ = some z → ∀ ls : Array Slot, lv_has ls 4 [(0, .ref (h 0)), (1, .int x1), (2, .int x2)] → WG p l e (rmO 0 0) s m args below meth c D A 0 0 Q (wM h q σ) (F0 m 29 ls [.int y0]) := by
    intro x1 x2 y0 σ hf ls hl
    unfold pf_X7_fail_b29 at hf
    refine s_istore_n (lv2 := [(3, .int y0), (0, .ref (h 0)), (1, .int x1), (2, .int x2)]) C dX7_fail_29 rfl hl (by decide) rfl ?_
    intro ls hl
    refine s_aload_n C dX7_fail_30 rfl (lv_at hl 1 rfl) ?_
    refine gM_0_21 C wd_3_160 dX7_fail_31 ?_
    refine s_iload_n C dX7_fail_34 rfl (lv_at hl 2 rfl) ?_
    refine s_iload_n C dX7_fail_35 rfl (lv_at hl 3 rfl) ?_
    obtain ⟨hi5, hf⟩ := bI_some hf
    refine stM_18 C hi5 dX7_fail_36 ?_
    obtain ⟨σ6, e7, hf⟩ := lt_some hf
    refine s_w (ws2 := (wM h q σ6)) (by rw [e7]) ?_
    clear e7
    refine s_iload_n C dX7_fail_37 rfl (lv_at hl 0 rfl) ?_
    obtain ⟨hz8, hf⟩ := bZ_some hf
    exact ret _ _ _ _ dX7_fail_38 hz8 (rt_2 hf).1 (congrArg (fun σ => (wM h q σ)) (rt_2 hf).2)
  refine s_iload_n C dX7_fail_0 rfl (lv_at hl 1 rfl) ?_
  refine s_if_lt (tgt := 12) C dX7_fail_1 (by decide) (fun c1 => ?_) (fun c1 => ?_)
  · replace hf := it_t c1 hf
    refine s_iconst (v := (0 : Int32)) C dX7_fail_12 (by decide) ?_
    exact ret _ _ _ _ dX7_fail_13 rfl (rt_2 hf).1 (congrArg (fun σ => (wM h q σ)) (rt_2 hf).2)
  · replace hf := it_f c1 hf
    refine s_iload_n C dX7_fail_4 rfl (lv_at hl 1 rfl) ?_
    refine s_aload_n C dX7_fail_5 rfl (lv_at hl 0 rfl) ?_
    refine gM_0_1 C wd_3_140 dX7_fail_6 ?_
    refine s_icmp_lt (tgt := 14) C dX7_fail_9 (by decide) (fun c2 => ?_) (fun c2 => ?_)
    · replace hf := it_t c2 hf
      refine s_aload_n C dX7_fail_14 rfl (lv_at hl 0 rfl) ?_
      refine gM_0_21 C wd_3_160 dX7_fail_15 ?_
      refine s_iload_n C dX7_fail_18 rfl (lv_at hl 1 rfl) ?_
      obtain ⟨hi3, hf⟩ := bI_some hf
      refine ldM_18 C hi3 dX7_fail_19 ?_
      refine s_iload_n C dX7_fail_20 rfl (lv_at hl 2 rfl) ?_
      refine s_icmp_eq (tgt := 28) C dX7_fail_21 (by decide) (fun c4 => ?_) (fun c4 => ?_)
      · replace hf := it_t c4 hf
        refine s_iconst (v := (0 : Int32)) C dX7_fail_28 (by decide) ?_
        exact b29 _ _ _ _ hf _ (lv_sub hl [0, 1, 2] rfl)
      · replace hf := it_f c4 hf
        refine s_iconst (v := (1 : Int32)) C dX7_fail_24 (by decide) ?_
        refine s_goto (tgt := 29) C dX7_fail_25 (by decide) ?_
        exact b29 _ _ _ _ hf _ (lv_sub hl [0, 1, 2] rfl)
    · replace hf := it_f c2 hf
      refine s_iconst (v := (0 : Int32)) C dX7_fail_12 (by decide) ?_
      exact ret _ _ _ _ dX7_fail_13 rfl (rt_2 hf).1 (congrArg (fun σ => (wM h q σ)) (rt_2 hf).2)
def pf_X7_seenAgain (N : Nat) (x1 : Int32) (σ : St) : Option St := bI x1 (3072) (if ((σ.2.1 9) (Int32.toNatClampNeg x1)) = 0 then bI x1 (3072) (lt_ (sA σ 9 (upd (σ.2.1 9) (Int32.toNatClampNeg x1) (vp_nar .boolean (1 : Int32)))) (fun σ11 => some σ11)) else bI x1 (3072) (if ((σ.2.1 11) (Int32.toNatClampNeg x1)) = 0 then bI x1 (3072) (lt_ (sA σ 9 (upd (σ.2.1 9) (Int32.toNatClampNeg x1) (vp_nar .boolean (0 : Int32)))) (fun σ6 => (pf_X7_move N x1 (1 : Int32) σ6).bind (fun z8 => some z8))) else some σ))
theorem cx_X7_seenAgain : (yX7_seenAgain.cls ≠ "java/lang/invoke/MethodHandle" ∧ yX7_seenAgain.cls ≠ "java/lang/invoke/VarHandle" ∧ (parseMethodDescriptor yX7_seenAgain.desc).map (fun d => d.parameters.length) = some 1) := by decide +kernel
set_option maxHeartbeats 4000000 in
set_option maxRecDepth 100000 in
theorem c_X7_seenAgain (l : Launch) (D : va_G) (q : Nat → ClassId) (h : Nat → Nat) (N : Nat) (x1 : Int32) (σ : St) (z : St) (hf : pf_X7_seenAgain N x1 σ = some z) : MV l yX7_seenAgain cX7_seenAgain 2 (none) 3 67 D (tyQ q) [.ref (h 0), .int x1] (wM h q σ) (wM h q z) := by
  refine MV.of (by decide) (Nat.le_of_ble_eq_true rfl) ?_
  intro p e s m args below meth c Q A C ret ls hl
  have hl : lv_has ls 2 [(0, .ref (h 0)), (1, .int x1)] := hl
  unfold pf_X7_seenAgain at hf
  refine s_aload_n C dX7_seenAgain_0 rfl (lv_at hl 0 rfl) ?_
  refine gM_0_10 C wd_3_149 dX7_seenAgain_1 ?_
  refine s_iload_n C dX7_seenAgain_4 rfl (lv_at hl 1 rfl) ?_
  obtain ⟨hi1, hf⟩ := bI_some hf
  refine ldM_9 C hi1 dX7_seenAgain_5 ?_
  refine s_if_ne (tgt := 19) C dX7_seenAgain_6 (by decide) (fun c2 => ?_) (fun c2 => ?_)
  · replace hf := it_f c2 hf
    refine s_aload_n C dX7_seenAgain_19 rfl (lv_at hl 0 rfl) ?_
    refine gM_0_12 C wd_3_151 dX7_seenAgain_20 ?_
    refine s_iload_n C dX7_seenAgain_23 rfl (lv_at hl 1 rfl) ?_
    obtain ⟨hi3, hf⟩ := bI_some hf
    refine ldM_11 C hi3 dX7_seenAgain_24 ?_
    refine s_if_ne (tgt := 41) C dX7_seenAgain_25 (by decide) (fun c4 => ?_) (fun c4 => ?_)
    · replace hf := it_f c4 hf
      exact ret _ _ _ dX7_seenAgain_41 (congrArg (fun σ => (wM h q σ)) (rt_1 hf))
    · replace hf := it_t c4 hf
      refine s_aload_n C dX7_seenAgain_28 rfl (lv_at hl 0 rfl) ?_
      refine gM_0_10 C wd_3_149 dX7_seenAgain_29 ?_
      refine s_iload_n C dX7_seenAgain_32 rfl (lv_at hl 1 rfl) ?_
      refine s_iconst (v := (0 : Int32)) C dX7_seenAgain_33 (by decide) ?_
      obtain ⟨hi5, hf⟩ := bI_some hf
      refine stM_9 C hi5 dX7_seenAgain_34 ?_
      obtain ⟨σ6, e7, hf⟩ := lt_some hf
      refine s_w (ws2 := (wM h q σ6)) (by rw [e7]) ?_
      clear e7
      refine s_aload_n C dX7_seenAgain_35 rfl (lv_at hl 0 rfl) ?_
      refine s_iload_n C dX7_seenAgain_36 rfl (lv_at hl 1 rfl) ?_
      refine s_iconst (v := (1 : Int32)) C dX7_seenAgain_37 (by decide) ?_
      obtain ⟨z8, h9, hf⟩ := bn_some hf
      refine s_callVV (As := [.int x1, .int (1 : Int32)]) (rest := []) C (c_X7_move l D q h N x1 (1 : Int32) σ6 z8 h9) ⟨wd_4_25, wd_4_27, wd_s_26, wd_1_10, wd_4_28, cx_X7_move, Nat.le_of_ble_eq_true rfl, Nat.le_of_ble_eq_true rfl⟩ 0 (ci := 7) rfl rfl rfl (SubW.full _ _) rfl hl.1 rfl (Nat.le_of_ble_eq_true rfl) dX7_seenAgain_38 (Nat.zero_le _) (Nat.zero_le _) ?_
      exact ret _ _ _ dX7_seenAgain_41 (congrArg (fun σ => (wM h q σ)) (rt_1 hf))
  · replace hf := it_t c2 hf
    refine s_aload_n C dX7_seenAgain_9 rfl (lv_at hl 0 rfl) ?_
    refine gM_0_10 C wd_3_149 dX7_seenAgain_10 ?_
    refine s_iload_n C dX7_seenAgain_13 rfl (lv_at hl 1 rfl) ?_
    refine s_iconst (v := (1 : Int32)) C dX7_seenAgain_14 (by decide) ?_
    obtain ⟨hi10, hf⟩ := bI_some hf
    refine stM_9 C hi10 dX7_seenAgain_15 ?_
    obtain ⟨σ11, e12, hf⟩ := lt_some hf
    refine s_w (ws2 := (wM h q σ11)) (by rw [e12]) ?_
    clear e12
    refine s_goto (tgt := 41) C dX7_seenAgain_16 (by decide) ?_
    exact ret _ _ _ dX7_seenAgain_41 (congrArg (fun σ => (wM h q σ)) (rt_1 hf))
def pf_X7_touch (N : Nat) (x1 : Int32) (σ : St) : Option (Int32 × St) := (pf_X7_isIn N x1 σ).bind (fun z1 => if z1 = 0 then (pf_X7_bringIn N x1 σ).bind (fun z4 => bZ z4.1 (some (z4.1, z4.2))) else (pf_X7_seenAgain N x1 σ).bind (fun z7 => some ((1 : Int32), z7)))
theorem cx_X7_touch : (yX7_touch.cls ≠ "java/lang/invoke/MethodHandle" ∧ yX7_touch.cls ≠ "java/lang/invoke/VarHandle" ∧ (parseMethodDescriptor yX7_touch.desc).map (fun d => d.parameters.length) = some 1) := by decide +kernel
set_option maxHeartbeats 4000000 in
set_option maxRecDepth 100000 in
theorem c_X7_touch (l : Launch) (D : va_G) (q : Nat → ClassId) (h : Nat → Nat) (N : Nat) (x1 : Int32) (σ : St) (z : (Int32 × St)) (hf : pf_X7_touch N x1 σ = some z) : MI l yX7_touch cX7_touch 2 (some .boolean) 6 135 D (tyQ q) [.ref (h 0), .int x1] (wM h q σ) (wM h q z.2) z.1 := by
  refine MI.of (by decide) (Nat.le_of_ble_eq_true rfl) ?_
  intro p e s m args below meth c Q A C ret ls hl
  have hl : lv_has ls 2 [(0, .ref (h 0)), (1, .int x1)] := hl
  unfold pf_X7_touch at hf
  refine s_aload_n C dX7_touch_0 rfl (lv_at hl 0 rfl) ?_
  refine s_iload_n C dX7_touch_1 rfl (lv_at hl 1 rfl) ?_
  obtain ⟨z1, h2, hf⟩ := bn_some hf
  refine s_callIV (As := [.int x1]) (rest := []) C (c_X7_isIn l D q h N x1 σ z1 h2) ⟨wd_4_13, wd_4_15, wd_s_23, wd_1_10, wd_4_16, cx_X7_isIn, Nat.le_of_ble_eq_true rfl, Nat.le_of_ble_eq_true rfl⟩ 0 (ci := 7) rfl rfl rfl (SubW.full _ _) rfl hl.1 rfl (Nat.le_of_ble_eq_true rfl) dX7_touch_2 (Nat.zero_le _) (Nat.zero_le _) ?_
  refine s_if_eq (tgt := 15) C dX7_touch_5 (by decide) (fun c3 => ?_) (fun c3 => ?_)
  · replace hf := it_t c3 hf
    refine s_aload_n C dX7_touch_15 rfl (lv_at hl 0 rfl) ?_
    refine s_iload_n C dX7_touch_16 rfl (lv_at hl 1 rfl) ?_
    obtain ⟨z4, h5, hf⟩ := bn_some hf
    refine s_callIV (As := [.int x1]) (rest := []) C (c_X7_bringIn l D q h N x1 σ z4 h5) ⟨wd_4_41, wd_4_43, wd_s_30, wd_1_10, wd_4_44, cx_X7_bringIn, Nat.le_of_ble_eq_true rfl, Nat.le_of_ble_eq_true rfl⟩ 0 (ci := 7) rfl rfl rfl (SubW.full _ _) rfl hl.1 rfl (Nat.le_of_ble_eq_true rfl) dX7_touch_17 (Nat.zero_le _) (Nat.zero_le _) ?_
    obtain ⟨hz6, hf⟩ := bZ_some hf
    exact ret _ _ _ _ dX7_touch_20 hz6 (rt_2 hf).1 (congrArg (fun σ => (wM h q σ)) (rt_2 hf).2)
  · replace hf := it_f c3 hf
    refine s_aload_n C dX7_touch_8 rfl (lv_at hl 0 rfl) ?_
    refine s_iload_n C dX7_touch_9 rfl (lv_at hl 1 rfl) ?_
    obtain ⟨z7, h8, hf⟩ := bn_some hf
    refine s_callVV (As := [.int x1]) (rest := []) C (c_X7_seenAgain l D q h N x1 σ z7 h8) ⟨wd_4_21, wd_4_23, wd_s_25, wd_1_10, wd_4_24, cx_X7_seenAgain, Nat.le_of_ble_eq_true rfl, Nat.le_of_ble_eq_true rfl⟩ 0 (ci := 7) rfl rfl rfl (SubW.full _ _) rfl hl.1 rfl (Nat.le_of_ble_eq_true rfl) dX7_touch_10 (Nat.zero_le _) (Nat.zero_le _) ?_
    refine s_iconst (v := (1 : Int32)) C dX7_touch_13 (by decide) ?_
    exact ret _ _ _ _ dX7_touch_14 rfl (rt_2 hf).1 (congrArg (fun σ => (wM h q σ)) (rt_2 hf).2)
def pf_X7_noneTried_L2 (N : Nat) : Nat → Int32 → St → Option St
  | 0, _, _ => none
  | n + 1, x1, σ => if (3072 : Int32) ≤ x1 then some σ else bI x1 (3072) (lt_ (sA σ 23 (upd (σ.2.1 23) (Int32.toNatClampNeg x1) (vp_nar .boolean (0 : Int32)))) (fun σ3 => (pf_X7_noneTried_L2 N n) (x1 + 1) σ3))
def pf_X7_noneTried (N : Nat) (σ : St) : Option St := pf_X7_noneTried_L2 N N (0 : Int32) σ
theorem cx_X7_noneTried : (yX7_noneTried.cls ≠ "java/lang/invoke/MethodHandle" ∧ yX7_noneTried.cls ≠ "java/lang/invoke/VarHandle" ∧ (parseMethodDescriptor yX7_noneTried.desc).map (fun d => d.parameters.length) = some 0) := by decide +kernel
set_option maxHeartbeats 4000000 in
set_option maxRecDepth 100000 in
theorem c_X7_noneTried (l : Launch) (D : va_G) (q : Nat → ClassId) (h : Nat → Nat) (N : Nat) (σ : St) (z : St) (hf : pf_X7_noneTried N σ = some z) : MV l yX7_noneTried cX7_noneTried 2 (none) 0 0 D (tyQ q) [.ref (h 0)] (wM h q σ) (wM h q z) := by
  refine MV.of (by decide) (Nat.le_of_ble_eq_true rfl) ?_
  intro p e s m args below meth c Q A C ret ls hl
  have hl : lv_has ls 2 [(0, .ref (h 0))] := hl
  unfold pf_X7_noneTried at hf
  have L2 : ∀ (n : Nat) (x1 : Int32) (σ : St), pf_X7_noneTried_L2 N n x1 σ = some z → ∀ ls : Array Slot, lv_has ls 2 [(0, .ref (h 0)), (1, .int x1)] → WG p l e (rmO 0 0) s m args below meth c D A 0 0 Q (wM h q σ) (F0 m 2 ls []) := by
    intro n
    induction n with
    | zero => intro x1 σ hf; unfold pf_X7_noneTried_L2 at hf; cases hf
    | succ n ih =>
      intro x1 σ hf ls hl
      unfold pf_X7_noneTried_L2 at hf
      refine s_iload_n C dX7_noneTried_2 rfl (lv_at hl 1 rfl) ?_
      refine s_sipush (v := (3072 : Int32)) C dX7_noneTried_3 (by decide) ?_
      refine s_icmp_ge (tgt := 22) C dX7_noneTried_6 (by decide) (fun c1 => ?_) (fun c1 => ?_)
      · replace hf := it_t c1 hf
        exact ret _ _ _ dX7_noneTried_22 (congrArg (fun σ => (wM h q σ)) (rt_1 hf))
      · replace hf := it_f c1 hf
        refine s_aload_n C dX7_noneTried_9 rfl (lv_at hl 0 rfl) ?_
        refine gM_0_34 C wd_3_173 dX7_noneTried_10 ?_
        refine s_iload_n C dX7_noneTried_13 rfl (lv_at hl 1 rfl) ?_
        refine s_iconst (v := (0 : Int32)) C dX7_noneTried_14 (by decide) ?_
        obtain ⟨hi2, hf⟩ := bI_some hf
        refine stM_23 C hi2 dX7_noneTried_15 ?_
        obtain ⟨σ3, e4, hf⟩ := lt_some hf
        refine s_w (ws2 := (wM h q σ3)) (by rw [e4]) ?_
        clear e4
        refine s_iinc (v := (x1 + 1)) (lv2 := [(1, .int (x1 + 1)), (0, .ref (h 0))]) C 1 dX7_noneTried_16 hl rfl rfl (by decide) rfl ?_
        intro ls hl
        refine s_goto (tgt := 2) C dX7_noneTried_19 (by decide) ?_
        exact ih _ _ hf _ (lv_sub hl [1, 0] rfl)
  refine s_iconst (v := (0 : Int32)) C dX7_noneTried_0 (by decide) ?_
  refine s_istore_n (lv2 := [(1, .int (0 : Int32)), (0, .ref (h 0))]) C dX7_noneTried_1 rfl hl (by decide) rfl ?_
  intro ls hl
  exact L2 N _ _ hf _ (lv_sub hl [1, 0] rfl)
def pf_X7_oldest_b60 (N : Nat) (σ : St) (J4 : Int32 → Int32 → Int32 → Option Int32) (x1 : Int32) (x2 : Int32) (x3 : Int32) : Option Int32 := J4 x1 x2 (x3 + 1) 
def pf_X7_oldest_b58 (N : Nat) (σ : St) (J4 : Int32 → Int32 → Int32 → Option Int32) (x1 : Int32) (x3 : Int32) : Option Int32 := pf_X7_oldest_b60 N σ J4 x1 x3 x3 
def pf_X7_oldest_L4 (N : Nat) (σ : St) : Nat → Int32 → Int32 → Int32 → Option Int32
  | 0, _, _, _ => none
  | n + 1, x1, x2, x3 => if (3072 : Int32) ≤ x3 then some x2 else (pf_X7_isDirty N x3 σ).bind (fun z2 => if z2 = 0 then pf_X7_oldest_b60 N σ (pf_X7_oldest_L4 N σ n) x1 x2 x3  else bI x3 (3072) (if ((σ.2.1 23) (Int32.toNatClampNeg x3)) = 0 then bI x3 (3072) (if x1 < ((σ.2.1 7) (Int32.toNatClampNeg x3)) then pf_X7_oldest_b60 N σ (pf_X7_oldest_L4 N σ n) x1 x2 x3  else if x2 = (-1 : Int32) then pf_X7_oldest_b58 N σ (pf_X7_oldest_L4 N σ n) x1 x3  else bI x3 (3072) (bI x2 (3072) (if ((σ.2.1 7) (Int32.toNatClampNeg x2)) ≤ ((σ.2.1 7) (Int32.toNatClampNeg x3)) then pf_X7_oldest_b60 N σ (pf_X7_oldest_L4 N σ n) x1 x2 x3  else pf_X7_oldest_b58 N σ (pf_X7_oldest_L4 N σ n) x1 x3 ))) else pf_X7_oldest_b60 N σ (pf_X7_oldest_L4 N σ n) x1 x2 x3 ))
def pf_X7_oldest (N : Nat) (x1 : Int32) (σ : St) : Option Int32 := pf_X7_oldest_L4 N σ N x1 (-1 : Int32) (0 : Int32) 
theorem cx_X7_oldest : (yX7_oldest.cls ≠ "java/lang/invoke/MethodHandle" ∧ yX7_oldest.cls ≠ "java/lang/invoke/VarHandle" ∧ (parseMethodDescriptor yX7_oldest.desc).map (fun d => d.parameters.length) = some 1) := by decide +kernel
set_option maxHeartbeats 4000000 in
set_option maxRecDepth 100000 in
theorem c_X7_oldest (l : Launch) (D : va_G) (q : Nat → ClassId) (h : Nat → Nat) (N : Nat) (x1 : Int32) (σ : St) (z : Int32) (hf : pf_X7_oldest N x1 σ = some z) : MI l yX7_oldest cX7_oldest 4 (some .int) 1 21 D (tyQ q) [.ref (h 0), .int x1] (wM h q σ) (wM h q σ) z := by
  refine MI.of (by decide) (Nat.le_of_ble_eq_true rfl) ?_
  intro p e s m args below meth c Q A C ret ls hl
  have hl : lv_has ls 4 [(0, .ref (h 0)), (1, .int x1)] := hl
  unfold pf_X7_oldest at hf
  have b60 : ∀ (J4 : Int32 → Int32 → Int32 → Option Int32) (hJ4 : ∀ (x1 : Int32) (x2 : Int32) (x3 : Int32), J4 x1 x2 x3 = some z → ∀ ls : Array Slot, lv_has ls 4 [(0, .ref (h 0)), (1, .int x1), (2, .int x2), (3, .int x3)] → WG p l e (rmO 1 21) s m args below meth c D A 0 0 Q (wM h q σ) (F0 m 4 ls [])) (x1 : Int32) (x2 : Int32) (x3 : Int32), pf_X7_oldest_b60 N σ J4 x1 x2 x3 = some z → ∀ ls : Array Slot, lv_has ls 4 [(0, .ref (h 0)), (1, .int x1), (2, .int x2), (3, .int x3)] → WG p l e (rmO 1 21) s m args below meth c D A 0 0 Q (wM h q σ) (F0 m 60 ls []) := by
    intro J4 hJ4 x1 x2 x3 hf ls hl
    unfold pf_X7_oldest_b60 at hf
    refine s_iinc (v := (x3 + 1)) (lv2 := [(3, .int (x3 + 1)), (0, .ref (h 0)), (1, .int x1), (2, .int x2)]) C 3 dX7_oldest_60 hl rfl rfl (by decide) rfl ?_
    intro ls hl
    refine s_goto (tgt := 4) C dX7_oldest_63 (by decide) ?_
    exact hJ4 _ _ _ hf _ (lv_sub hl [1, 2, 3, 0] rfl)
  have b58 : ∀ (J4 : Int32 → Int32 → Int32 → Option Int32) (hJ4 : ∀ (x1 : Int32) (x2 : Int32) (x3 : Int32), J4 x1 x2 x3 = some z → ∀ ls : Array Slot, lv_has ls 4 [(0, .ref (h 0)), (1, .int x1), (2, .int x2), (3, .int x3)] → WG p l e (rmO 1 21) s m args below meth c D A 0 0 Q (wM h q σ) (F0 m 4 ls [])) (x1 : Int32) (x3 : Int32), pf_X7_oldest_b58 N σ J4 x1 x3 = some z → ∀ ls : Array Slot, lv_has ls 4 [(0, .ref (h 0)), (1, .int x1), (3, .int x3)] → WG p l e (rmO 1 21) s m args below meth c D A 0 0 Q (wM h q σ) (F0 m 58 ls []) := by
    intro J4 hJ4 x1 x3 hf ls hl
    unfold pf_X7_oldest_b58 at hf
    refine s_iload_n C dX7_oldest_58 rfl (lv_at hl 2 rfl) ?_
    refine s_istore_n (lv2 := [(2, .int x3), (0, .ref (h 0)), (1, .int x1), (3, .int x3)]) C dX7_oldest_59 rfl hl (by decide) rfl ?_
    intro ls hl
    exact b60 _ hJ4 _ _ _ hf _ (lv_sub hl [1, 2, 0, 3] rfl)
  have L4 : ∀ (n : Nat) (x1 : Int32) (x2 : Int32) (x3 : Int32), pf_X7_oldest_L4 N σ n x1 x2 x3 = some z → ∀ ls : Array Slot, lv_has ls 4 [(0, .ref (h 0)), (1, .int x1), (2, .int x2), (3, .int x3)] → WG p l e (rmO 1 21) s m args below meth c D A 0 0 Q (wM h q σ) (F0 m 4 ls []) := by
    intro n
    induction n with
    | zero => intro x1 x2 x3 hf; unfold pf_X7_oldest_L4 at hf; cases hf
    | succ n ih =>
      intro x1 x2 x3 hf ls hl
      unfold pf_X7_oldest_L4 at hf
      refine s_iload_n C dX7_oldest_4 rfl (lv_at hl 3 rfl) ?_
      refine s_sipush (v := (3072 : Int32)) C dX7_oldest_5 (by decide) ?_
      refine s_icmp_ge (tgt := 66) C dX7_oldest_8 (by decide) (fun c1 => ?_) (fun c1 => ?_)
      · replace hf := it_t c1 hf
        refine s_iload_n C dX7_oldest_66 rfl (lv_at hl 2 rfl) ?_
        exact ret _ _ _ _ dX7_oldest_67 rfl (rt_1 hf) rfl
      · replace hf := it_f c1 hf
        refine s_aload_n C dX7_oldest_11 rfl (lv_at hl 0 rfl) ?_
        refine s_iload_n C dX7_oldest_12 rfl (lv_at hl 3 rfl) ?_
        obtain ⟨z2, h3, hf⟩ := bn_some hf
        refine s_callIV (As := [.int x3]) (rest := []) C (c_X7_isDirty l D q h N x3 σ z2 h3) ⟨wd_4_49, wd_4_51, wd_s_32, wd_1_10, wd_4_52, cx_X7_isDirty, Nat.le_of_ble_eq_true rfl, Nat.le_of_ble_eq_true rfl⟩ 0 (ci := 7) rfl rfl rfl (SubW.full _ _) rfl hl.1 rfl (Nat.le_of_ble_eq_true rfl) dX7_oldest_13 (Nat.zero_le _) (Nat.zero_le _) ?_
        refine s_if_eq (tgt := 60) C dX7_oldest_16 (by decide) (fun c4 => ?_) (fun c4 => ?_)
        · replace hf := it_t c4 hf
          exact b60 _ ih _ _ _ hf _ (lv_sub hl [0, 1, 2, 3] rfl)
        · replace hf := it_f c4 hf
          refine s_aload_n C dX7_oldest_19 rfl (lv_at hl 0 rfl) ?_
          refine gM_0_34 C wd_3_173 dX7_oldest_20 ?_
          refine s_iload_n C dX7_oldest_23 rfl (lv_at hl 3 rfl) ?_
          obtain ⟨hi5, hf⟩ := bI_some hf
          refine ldM_23 C hi5 dX7_oldest_24 ?_
          refine s_if_ne (tgt := 60) C dX7_oldest_25 (by decide) (fun c6 => ?_) (fun c6 => ?_)
          · replace hf := it_f c6 hf
            exact b60 _ ih _ _ _ hf _ (lv_sub hl [0, 1, 2, 3] rfl)
          · replace hf := it_t c6 hf
            refine s_aload_n C dX7_oldest_28 rfl (lv_at hl 0 rfl) ?_
            refine gM_0_8 C wd_3_147 dX7_oldest_29 ?_
            refine s_iload_n C dX7_oldest_32 rfl (lv_at hl 3 rfl) ?_
            obtain ⟨hi7, hf⟩ := bI_some hf
            refine ldM_7 C hi7 dX7_oldest_33 ?_
            refine s_iload_n C dX7_oldest_34 rfl (lv_at hl 1 rfl) ?_
            refine s_icmp_gt (tgt := 60) C dX7_oldest_35 (by decide) (fun c8 => ?_) (fun c8 => ?_)
            · replace hf := it_t c8 hf
              exact b60 _ ih _ _ _ hf _ (lv_sub hl [0, 1, 2, 3] rfl)
            · replace hf := it_f c8 hf
              refine s_iload_n C dX7_oldest_38 rfl (lv_at hl 2 rfl) ?_
              refine s_iconst (v := (-1 : Int32)) C dX7_oldest_39 (by decide) ?_
              refine s_icmp_eq (tgt := 58) C dX7_oldest_40 (by decide) (fun c9 => ?_) (fun c9 => ?_)
              · replace hf := it_t c9 hf
                exact b58 _ ih _ _ hf _ (lv_sub hl [0, 1, 3] rfl)
              · replace hf := it_f c9 hf
                refine s_aload_n C dX7_oldest_43 rfl (lv_at hl 0 rfl) ?_
                refine gM_0_8 C wd_3_147 dX7_oldest_44 ?_
                refine s_iload_n C dX7_oldest_47 rfl (lv_at hl 3 rfl) ?_
                obtain ⟨hi10, hf⟩ := bI_some hf
                refine ldM_7 C hi10 dX7_oldest_48 ?_
                refine s_aload_n C dX7_oldest_49 rfl (lv_at hl 0 rfl) ?_
                refine gM_0_8 C wd_3_147 dX7_oldest_50 ?_
                refine s_iload_n C dX7_oldest_53 rfl (lv_at hl 2 rfl) ?_
                obtain ⟨hi11, hf⟩ := bI_some hf
                refine ldM_7 C hi11 dX7_oldest_54 ?_
                refine s_icmp_ge (tgt := 60) C dX7_oldest_55 (by decide) (fun c12 => ?_) (fun c12 => ?_)
                · replace hf := it_t c12 hf
                  exact b60 _ ih _ _ _ hf _ (lv_sub hl [0, 1, 2, 3] rfl)
                · replace hf := it_f c12 hf
                  exact b58 _ ih _ _ hf _ (lv_sub hl [0, 1, 3] rfl)
  refine s_iconst (v := (-1 : Int32)) C dX7_oldest_0 (by decide) ?_
  refine s_istore_n (lv2 := [(2, .int (-1 : Int32)), (0, .ref (h 0)), (1, .int x1)]) C dX7_oldest_1 rfl hl (by decide) rfl ?_
  intro ls hl
  refine s_iconst (v := (0 : Int32)) C dX7_oldest_2 (by decide) ?_
  refine s_istore_n (lv2 := [(3, .int (0 : Int32)), (2, .int (-1 : Int32)), (0, .ref (h 0)), (1, .int x1)]) C dX7_oldest_3 rfl hl (by decide) rfl ?_
  intro ls hl
  exact L4 N _ _ _ hf _ (lv_sub hl [2, 3, 1, 0] rfl)
def pf_X7_lessDirty_L27 (N : Nat) : Nat → Int32 → St → Option St
  | 0, _, _ => none
  | n + 1, x1, σ => if x1 = (-1 : Int32) then some σ else (pf_X7_dirties N σ).bind (fun z9 => if z9 ≤ ((σ.1 0) / (4 : Int32)) then some σ else (pf_X7_written N x1 σ).bind (fun z12 => bI x1 (3072) (lt_ (sA z12.2 23 (upd (z12.2.2.1 23) (Int32.toNatClampNeg x1) (vp_nar .boolean (1 : Int32)))) (fun σ15 => (pf_X7_oldest N (σ15.1 5) σ15).bind (fun z17 => (pf_X7_lessDirty_L27 N n) z17 σ15)))))
def pf_X7_lessDirty (N : Nat) (σ : St) : Option St := (pf_X7_dirties N σ).bind (fun z1 => if ((σ.1 0) / (2 : Int32)) < z1 then (pf_X7_noneTried N σ).bind (fun z4 => (pf_X7_oldest N (z4.1 5) z4).bind (fun z6 => pf_X7_lessDirty_L27 N N z6 z4)) else some σ)
theorem cx_X7_lessDirty : (yX7_lessDirty.cls ≠ "java/lang/invoke/MethodHandle" ∧ yX7_lessDirty.cls ≠ "java/lang/invoke/VarHandle" ∧ (parseMethodDescriptor yX7_lessDirty.desc).map (fun d => d.parameters.length) = some 0) := by decide +kernel
set_option maxHeartbeats 4000000 in
set_option maxRecDepth 100000 in
theorem c_X7_lessDirty (l : Launch) (D : va_G) (q : Nat → ClassId) (h : Nat → Nat) (N : Nat) (σ : St) (z : St) (hf : pf_X7_lessDirty N σ = some z) : MV l yX7_lessDirty cX7_lessDirty 3 (none) 3 69 D (tyQ q) [.ref (h 0)] (wM h q σ) (wM h q z) := by
  refine MV.of (by decide) (Nat.le_of_ble_eq_true rfl) ?_
  intro p e s m args below meth c Q A C ret ls hl
  have hl : lv_has ls 3 [(0, .ref (h 0))] := hl
  unfold pf_X7_lessDirty at hf
  have L27 : ∀ (n : Nat) (x1 : Int32) (σ : St), pf_X7_lessDirty_L27 N n x1 σ = some z → ∀ ls : Array Slot, lv_has ls 3 [(0, .ref (h 0)), (1, .int x1)] → WG p l e (rmO 3 69) s m args below meth c D A 0 0 Q (wM h q σ) (F0 m 27 ls []) := by
    intro n
    induction n with
    | zero => intro x1 σ hf; unfold pf_X7_lessDirty_L27 at hf; cases hf
    | succ n ih =>
      intro x1 σ hf ls hl
      unfold pf_X7_lessDirty_L27 at hf
      refine s_iload_n C dX7_lessDirty_27 rfl (lv_at hl 1 rfl) ?_
      refine s_iconst (v := (-1 : Int32)) C dX7_lessDirty_28 (by decide) ?_
      refine s_icmp_eq (tgt := 70) C dX7_lessDirty_29 (by decide) (fun c8 => ?_) (fun c8 => ?_)
      · replace hf := it_t c8 hf
        exact ret _ _ _ dX7_lessDirty_70 (congrArg (fun σ => (wM h q σ)) (rt_1 hf))
      · replace hf := it_f c8 hf
        refine s_aload_n C dX7_lessDirty_32 rfl (lv_at hl 0 rfl) ?_
        obtain ⟨z9, h10, hf⟩ := bn_some hf
        refine s_callIV (As := []) (rest := []) C (c_X7_dirties l D q h N σ z9 h10) ⟨wd_4_101, wd_4_103, wd_s_43, wd_1_10, wd_4_104, cx_X7_dirties, Nat.le_of_ble_eq_true rfl, Nat.le_of_ble_eq_true rfl⟩ 0 (ci := 7) rfl rfl rfl (SubW.full _ _) rfl hl.1 rfl (Nat.le_of_ble_eq_true rfl) dX7_lessDirty_33 (Nat.zero_le _) (Nat.zero_le _) ?_
        refine s_aload_n C dX7_lessDirty_36 rfl (lv_at hl 0 rfl) ?_
        refine gM_0_0 C wd_3_139 dX7_lessDirty_37 ?_
        refine s_iconst (v := (4 : Int32)) C dX7_lessDirty_40 (by decide) ?_
        refine s_idiv C dX7_lessDirty_41 (by decide) ?_
        refine s_icmp_le (tgt := 70) C dX7_lessDirty_42 (by decide) (fun c11 => ?_) (fun c11 => ?_)
        · replace hf := it_t c11 hf
          exact ret _ _ _ dX7_lessDirty_70 (congrArg (fun σ => (wM h q σ)) (rt_1 hf))
        · replace hf := it_f c11 hf
          refine s_aload_n C dX7_lessDirty_45 rfl (lv_at hl 0 rfl) ?_
          refine s_iload_n C dX7_lessDirty_46 rfl (lv_at hl 1 rfl) ?_
          obtain ⟨z12, h13, hf⟩ := bn_some hf
          refine s_callIV (As := [.int x1]) (rest := []) C (c_X7_written l D q h N x1 σ z12 h13) ⟨wd_4_53, wd_4_55, wd_s_33, wd_1_10, wd_4_56, cx_X7_written, Nat.le_of_ble_eq_true rfl, Nat.le_of_ble_eq_true rfl⟩ 0 (ci := 7) rfl rfl rfl (SubW.full _ _) rfl hl.1 rfl (Nat.le_of_ble_eq_true rfl) dX7_lessDirty_47 (Nat.zero_le _) (Nat.zero_le _) ?_
          refine s_istore_n (lv2 := [(2, .int z12.1), (0, .ref (h 0)), (1, .int x1)]) C dX7_lessDirty_50 rfl hl (by decide) rfl ?_
          intro ls hl
          refine s_aload_n C dX7_lessDirty_51 rfl (lv_at hl 1 rfl) ?_
          refine gM_0_34 C wd_3_173 dX7_lessDirty_52 ?_
          refine s_iload_n C dX7_lessDirty_55 rfl (lv_at hl 2 rfl) ?_
          refine s_iconst (v := (1 : Int32)) C dX7_lessDirty_56 (by decide) ?_
          obtain ⟨hi14, hf⟩ := bI_some hf
          refine stM_23 C hi14 dX7_lessDirty_57 ?_
          obtain ⟨σ15, e16, hf⟩ := lt_some hf
          refine s_w (ws2 := (wM h q σ15)) (by rw [e16]) ?_
          clear e16
          refine s_aload_n C dX7_lessDirty_58 rfl (lv_at hl 1 rfl) ?_
          refine s_aload_n C dX7_lessDirty_59 rfl (lv_at hl 1 rfl) ?_
          refine gM_0_24 C wd_3_163 dX7_lessDirty_60 ?_
          obtain ⟨z17, h18, hf⟩ := bn_some hf
          refine s_callIV (As := [.int (σ15.1 5)]) (rest := []) C (c_X7_oldest l D q h N (σ15.1 5) σ15 z17 h18) ⟨wd_4_109, wd_4_111, wd_s_45, wd_1_10, wd_4_112, cx_X7_oldest, Nat.le_of_ble_eq_true rfl, Nat.le_of_ble_eq_true rfl⟩ 0 (ci := 7) rfl rfl rfl (SubW.full _ _) rfl hl.1 rfl (Nat.le_of_ble_eq_true rfl) dX7_lessDirty_63 (Nat.zero_le _) (Nat.zero_le _) ?_
          refine s_istore_n (lv2 := [(1, .int z17), (2, .int z12.1), (0, .ref (h 0))]) C dX7_lessDirty_66 rfl hl (by decide) rfl ?_
          intro ls hl
          refine s_goto (tgt := 27) C dX7_lessDirty_67 (by decide) ?_
          exact ih _ _ hf _ (lv_sub hl [2, 0] rfl)
  refine s_aload_n C dX7_lessDirty_0 rfl (lv_at hl 0 rfl) ?_
  obtain ⟨z1, h2, hf⟩ := bn_some hf
  refine s_callIV (As := []) (rest := []) C (c_X7_dirties l D q h N σ z1 h2) ⟨wd_4_101, wd_4_103, wd_s_43, wd_1_10, wd_4_104, cx_X7_dirties, Nat.le_of_ble_eq_true rfl, Nat.le_of_ble_eq_true rfl⟩ 0 (ci := 7) rfl rfl rfl (SubW.full _ _) rfl hl.1 rfl (Nat.le_of_ble_eq_true rfl) dX7_lessDirty_1 (Nat.zero_le _) (Nat.zero_le _) ?_
  refine s_aload_n C dX7_lessDirty_4 rfl (lv_at hl 0 rfl) ?_
  refine gM_0_0 C wd_3_139 dX7_lessDirty_5 ?_
  refine s_iconst (v := (2 : Int32)) C dX7_lessDirty_8 (by decide) ?_
  refine s_idiv C dX7_lessDirty_9 (by decide) ?_
  refine s_icmp_gt (tgt := 14) C dX7_lessDirty_10 (by decide) (fun c3 => ?_) (fun c3 => ?_)
  · replace hf := it_t c3 hf
    refine s_aload_n C dX7_lessDirty_14 rfl (lv_at hl 0 rfl) ?_
    obtain ⟨z4, h5, hf⟩ := bn_some hf
    refine s_callVV (As := []) (rest := []) C (c_X7_noneTried l D q h N σ z4 h5) ⟨wd_4_105, wd_4_107, wd_s_44, wd_1_10, wd_4_108, cx_X7_noneTried, Nat.le_of_ble_eq_true rfl, Nat.le_of_ble_eq_true rfl⟩ 0 (ci := 7) rfl rfl rfl (SubW.full _ _) rfl hl.1 rfl (Nat.le_of_ble_eq_true rfl) dX7_lessDirty_15 (Nat.zero_le _) (Nat.zero_le _) ?_
    refine s_aload_n C dX7_lessDirty_18 rfl (lv_at hl 0 rfl) ?_
    refine s_aload_n C dX7_lessDirty_19 rfl (lv_at hl 0 rfl) ?_
    refine gM_0_24 C wd_3_163 dX7_lessDirty_20 ?_
    obtain ⟨z6, h7, hf⟩ := bn_some hf
    refine s_callIV (As := [.int (z4.1 5)]) (rest := []) C (c_X7_oldest l D q h N (z4.1 5) z4 z6 h7) ⟨wd_4_109, wd_4_111, wd_s_45, wd_1_10, wd_4_112, cx_X7_oldest, Nat.le_of_ble_eq_true rfl, Nat.le_of_ble_eq_true rfl⟩ 0 (ci := 7) rfl rfl rfl (SubW.full _ _) rfl hl.1 rfl (Nat.le_of_ble_eq_true rfl) dX7_lessDirty_23 (Nat.zero_le _) (Nat.zero_le _) ?_
    refine s_istore_n (lv2 := [(1, .int z6), (0, .ref (h 0))]) C dX7_lessDirty_26 rfl hl (by decide) rfl ?_
    intro ls hl
    exact L27 N _ _ hf _ (lv_sub hl [1, 0] rfl)
  · replace hf := it_f c3 hf
    exact ret _ _ _ dX7_lessDirty_13 (congrArg (fun σ => (wM h q σ)) (rt_1 hf))
def pf_X7_put_b201 (N : Nat) (x8 : Int32) (σ : St) : Option (Int32 × St) := if x8 = 0 then some ((-3 : Int32), σ) else (pf_X7_lessDirty N σ).bind (fun z5 => some (x8, z5))
def pf_X7_put_b197 (N : Nat) (J11 : Int32 → Int32 → Int32 → Int32 → Int64 → Int32 → Int32 → Int32 → St → Option (Int32 × St)) (x1 : Int32) (x2 : Int32) (x3 : Int32) (x4 : Int32) (x5 : Int64) (x7 : Int32) (x8 : Int32) (x9 : Int32) (y2 : Int32) (y1 : Int32) (σ : St) : Option (Int32 × St) := bI y1 (12) (lt_ (sA σ 1 (upd (σ.2.1 1) (Int32.toNatClampNeg y1) y2)) (fun σ26 => J11 x1 x2 x3 x4 x5 x7 x8 x9 σ26))
def pf_X7_put_b166 (N : Nat) (J11 : Int32 → Int32 → Int32 → Int32 → Int64 → Int32 → Int32 → Int32 → St → Option (Int32 × St)) (x1 : Int32) (x2 : Int32) (x3 : Int32) (x4 : Int32) (x5 : Int64) (x7 : Int32) (x8 : Int32) (x9 : Int32) (σ : St) : Option (Int32 × St) := bI x1 (12) (if (x2 + x8) ≤ ((σ.2.1 1) (Int32.toNatClampNeg x1)) then bI x1 (12) (pf_X7_put_b197 N J11 x1 x2 x3 x4 x5 x7 x8 x9 ((σ.2.1 1) (Int32.toNatClampNeg x1)) x1 σ) else pf_X7_put_b197 N J11 x1 x2 x3 x4 x5 x7 x8 x9 (x2 + x8) x1 σ)
def pf_X7_put_b158 (N : Nat) (J11 : Int32 → Int32 → Int32 → Int32 → Int64 → Int32 → Int32 → Int32 → St → Option (Int32 × St)) (J97 : Int32 → Int32 → Int32 → Int32 → Int64 → Int32 → Int32 → Int32 → Int32 → Int32 → St → Option (Int32 × St)) (x1 : Int32) (x2 : Int32) (x3 : Int32) (x4 : Int32) (x5 : Int64) (x7 : Int32) (x8 : Int32) (x9 : Int32) (x10 : Int32) (x11 : Int32) (y2 : Int32) (y1 : Int32) (σ : St) : Option (Int32 × St) := bI y1 (4096) (lt_ (sA σ 15 (upd (σ.2.1 15) (Int32.toNatClampNeg y1) (vp_nar .byte (Int8.toInt32 (Int32.toInt8 y2))))) (fun σ32 => J97 x1 x2 x3 x4 x5 x7 (x8 + 1) x9 x10 x11 σ32))
def pf_X7_put_L97 (N : Nat) (J11 : Int32 → Int32 → Int32 → Int32 → Int64 → Int32 → Int32 → Int32 → St → Option (Int32 × St)) : Nat → Int32 → Int32 → Int32 → Int32 → Int64 → Int32 → Int32 → Int32 → Int32 → Int32 → St → Option (Int32 × St)
  | 0, _, _, _, _, _, _, _, _, _, _, _ => none
  | n + 1, x1, x2, x3, x4, x5, x7, x8, x9, x10, x11, σ => if x3 ≤ x8 then pf_X7_put_b166 N J11 x1 x2 x3 x4 x5 x7 x8 x9 σ else if x11 ≤ (x2 + x8) then pf_X7_put_b166 N J11 x1 x2 x3 x4 x5 x7 x8 x9 σ else bI x10 (3072) (if x4 = 0 then pf_X7_put_b158 N J11 (pf_X7_put_L97 N J11 n) x1 x2 x3 x4 x5 x7 x8 x9 x10 x11 (Int64.toInt32 (x5 >>> (Int32.toInt64 ((8 : Int32) * x8) &&& 63))) (((64 : Int32) * ((σ.2.1 5) (Int32.toNatClampNeg x10))) + ((x2 + x8) - (x2 + x8) / (64 : Int32) * (64 : Int32))) σ else pf_X7_put_b158 N J11 (pf_X7_put_L97 N J11 n) x1 x2 x3 x4 x5 x7 x8 x9 x10 x11 (x7 + ((3 : Int32) * x8)) (((64 : Int32) * ((σ.2.1 5) (Int32.toNatClampNeg x10))) + ((x2 + x8) - (x2 + x8) / (64 : Int32) * (64 : Int32))) σ)
def pf_X7_put_b82 (N : Nat) (J11 : Int32 → Int32 → Int32 → Int32 → Int64 → Int32 → Int32 → Int32 → St → Option (Int32 × St)) (x1 : Int32) (x2 : Int32) (x3 : Int32) (x4 : Int32) (x5 : Int64) (x7 : Int32) (x8 : Int32) (x9 : Int32) (x10 : Int32) (y2 : Int32) (y1 : Int32) (σ : St) : Option (Int32 × St) := bI y1 (3072) (lt_ (sA σ 7 (upd (σ.2.1 7) (Int32.toNatClampNeg y1) y2)) (fun σ17 => lt_ ((64 : Int32) * (((x2 + x8) / (64 : Int32)) + (1 : Int32))) (fun v19 => pf_X7_put_L97 N J11 N x1 x2 x3 x4 x5 x7 x8 x9 x10 v19 σ17)))
def pf_X7_put_L11 (N : Nat) : Nat → Int32 → Int32 → Int32 → Int32 → Int64 → Int32 → Int32 → Int32 → St → Option (Int32 × St)
  | 0, _, _, _, _, _, _, _, _, _ => none
  | n + 1, x1, x2, x3, x4, x5, x7, x8, x9, σ => if x3 ≤ x8 then pf_X7_put_b201 N x8 σ else if x9 = 0 then pf_X7_put_b201 N x8 σ else lt_ (((256 : Int32) * x1) + ((x2 + x8) / (64 : Int32))) (fun v8 => (pf_X7_touch N v8 σ).bind (fun z10 => if z10.1 = 0 then (pf_X7_put_L11 N n) x1 x2 x3 x4 x5 x7 x8 z10.1 z10.2 else (pf_X7_isDirty N v8 z10.2).bind (fun z13 => if z13 = 0 then pf_X7_put_b82 N (pf_X7_put_L11 N n) x1 x2 x3 x4 x5 x7 x8 z10.1 v8 (z10.2.1 5) v8 z10.2 else bI v8 (3072) (pf_X7_put_b82 N (pf_X7_put_L11 N n) x1 x2 x3 x4 x5 x7 x8 z10.1 v8 ((z10.2.2.1 7) (Int32.toNatClampNeg v8)) v8 z10.2))))
def pf_X7_put (N : Nat) (x1 : Int32) (x2 : Int32) (x3 : Int32) (x4 : Int32) (x5 : Int64) (x7 : Int32) (σ : St) : Option (Int32 × St) := lt_ (sG σ 11 (0 : Int32)) (fun σ1 => pf_X7_put_L11 N N x1 x2 x3 x4 x5 x7 (0 : Int32) (1 : Int32) σ1)
theorem cx_X7_put : (yX7_put.cls ≠ "java/lang/invoke/MethodHandle" ∧ yX7_put.cls ≠ "java/lang/invoke/VarHandle" ∧ (parseMethodDescriptor yX7_put.desc).map (fun d => d.parameters.length) = some 6) := by decide +kernel
set_option maxHeartbeats 4000000 in
set_option maxRecDepth 100000 in
theorem c_X7_put (l : Launch) (D : va_G) (q : Nat → ClassId) (h : Nat → Nat) (N : Nat) (x1 : Int32) (x2 : Int32) (x3 : Int32) (x4 : Int32) (x5 : Int64) (x7 : Int32) (σ : St) (z : (Int32 × St)) (hf : pf_X7_put N x1 x2 x3 x4 x5 x7 σ = some z) : MI l yX7_put cX7_put 12 (some .int) 7 156 D (tyQ q) [.ref (h 0), .int x1, .int x2, .int x3, .int x4, .long x5, .int x7] (wM h q σ) (wM h q z.2) z.1 := by
  refine MI.of (by decide) (Nat.le_of_ble_eq_true rfl) ?_
  intro p e s m args below meth c Q A C ret ls hl
  have hl : lv_has ls 12 [(0, .ref (h 0)), (1, .int x1), (2, .int x2), (3, .int x3), (4, .int x4), (5, .long x5), (7, .int x7)] := hl
  unfold pf_X7_put at hf
  have b201 : ∀ (x8 : Int32) (σ : St), pf_X7_put_b201 N x8 σ = some z → ∀ ls : Array Slot, lv_has ls 12 [(0, .ref (h 0)), (8, .int x8)] → WG p l e (rmO 7 156) s m args below meth c D A 0 0 Q (wM h q σ) (F0 m 201 ls []) := by
    intro x8 σ hf ls hl
    unfold pf_X7_put_b201 at hf
    refine s_iload C dX7_put_201 (lv_at hl 1 rfl) ?_
    refine s_if_ne (tgt := 209) C dX7_put_203 (by decide) (fun c4 => ?_) (fun c4 => ?_)
    · replace hf := it_f c4 hf
      refine s_aload_n C dX7_put_209 rfl (lv_at hl 0 rfl) ?_
      obtain ⟨z5, h6, hf⟩ := bn_some hf
      refine s_callVV (As := []) (rest := []) C (c_X7_lessDirty l D q h N σ z5 h6) ⟨wd_4_97, wd_4_99, wd_s_42, wd_1_10, wd_4_100, cx_X7_lessDirty, Nat.le_of_ble_eq_true rfl, Nat.le_of_ble_eq_true rfl⟩ 0 (ci := 7) rfl rfl rfl (SubW.full _ _) rfl hl.1 rfl (Nat.le_of_ble_eq_true rfl) dX7_put_210 (Nat.zero_le _) (Nat.zero_le _) ?_
      refine s_iload C dX7_put_213 (lv_at hl 1 rfl) ?_
      exact ret _ _ _ _ dX7_put_215 rfl (rt_2 hf).1 (congrArg (fun σ => (wM h q σ)) (rt_2 hf).2)
    · replace hf := it_t c4 hf
      refine s_bipush (v := (-3 : Int32)) C dX7_put_206 (by decide) ?_
      exact ret _ _ _ _ dX7_put_208 rfl (rt_2 hf).1 (congrArg (fun σ => (wM h q σ)) (rt_2 hf).2)
  have b197 : ∀ (J11 : Int32 → Int32 → Int32 → Int32 → Int64 → Int32 → Int32 → Int32 → St → Option (Int32 × St)) (hJ11 : ∀ (x1 : Int32) (x2 : Int32) (x3 : Int32) (x4 : Int32) (x5 : Int64) (x7 : Int32) (x8 : Int32) (x9 : Int32) (σ : St), J11 x1 x2 x3 x4 x5 x7 x8 x9 σ = some z → ∀ ls : Array Slot, lv_has ls 12 [(0, .ref (h 0)), (1, .int x1), (2, .int x2), (3, .int x3), (4, .int x4), (5, .long x5), (7, .int x7), (8, .int x8), (9, .int x9)] → WG p l e (rmO 7 156) s m args below meth c D A 0 0 Q (wM h q σ) (F0 m 11 ls [])) (x1 : Int32) (x2 : Int32) (x3 : Int32) (x4 : Int32) (x5 : Int64) (x7 : Int32) (x8 : Int32) (x9 : Int32) (y2 : Int32) (y1 : Int32) (σ : St), pf_X7_put_b197 N J11 x1 x2 x3 x4 x5 x7 x8 x9 y2 y1 σ = some z → ∀ ls : Array Slot, lv_has ls 12 [(0, .ref (h 0)), (1, .int x1), (2, .int x2), (3, .int x3), (4, .int x4), (5, .long x5), (7, .int x7), (8, .int x8), (9, .int x9)] → WG p l e (rmO 7 156) s m args below meth c D A 0 0 Q (wM h q σ) (F0 m 197 ls [.int y2, .int y1, .ref (h 1)]) := by
    intro J11 hJ11 x1 x2 x3 x4 x5 x7 x8 x9 y2 y1 σ hf ls hl
    unfold pf_X7_put_b197 at hf
    obtain ⟨hi25, hf⟩ := bI_some hf
    refine stM_1 C hi25 dX7_put_197 ?_
    obtain ⟨σ26, e27, hf⟩ := lt_some hf
    refine s_w (ws2 := (wM h q σ26)) (by rw [e27]) ?_
    clear e27
    refine s_goto (tgt := 11) C dX7_put_198 (by decide) ?_
    exact hJ11 _ _ _ _ _ _ _ _ _ hf _ (lv_sub hl [0, 1, 2, 3, 4, 5, 6, 7, 8] rfl)
  have b166 : ∀ (J11 : Int32 → Int32 → Int32 → Int32 → Int64 → Int32 → Int32 → Int32 → St → Option (Int32 × St)) (hJ11 : ∀ (x1 : Int32) (x2 : Int32) (x3 : Int32) (x4 : Int32) (x5 : Int64) (x7 : Int32) (x8 : Int32) (x9 : Int32) (σ : St), J11 x1 x2 x3 x4 x5 x7 x8 x9 σ = some z → ∀ ls : Array Slot, lv_has ls 12 [(0, .ref (h 0)), (1, .int x1), (2, .int x2), (3, .int x3), (4, .int x4), (5, .long x5), (7, .int x7), (8, .int x8), (9, .int x9)] → WG p l e (rmO 7 156) s m args below meth c D A 0 0 Q (wM h q σ) (F0 m 11 ls [])) (x1 : Int32) (x2 : Int32) (x3 : Int32) (x4 : Int32) (x5 : Int64) (x7 : Int32) (x8 : Int32) (x9 : Int32) (σ : St), pf_X7_put_b166 N J11 x1 x2 x3 x4 x5 x7 x8 x9 σ = some z → ∀ ls : Array Slot, lv_has ls 12 [(0, .ref (h 0)), (1, .int x1), (2, .int x2), (3, .int x3), (4, .int x4), (5, .long x5), (7, .int x7), (8, .int x8), (9, .int x9)] → WG p l e (rmO 7 156) s m args below meth c D A 0 0 Q (wM h q σ) (F0 m 166 ls []) := by
    intro J11 hJ11 x1 x2 x3 x4 x5 x7 x8 x9 σ hf ls hl
    unfold pf_X7_put_b166 at hf
    refine s_aload_n C dX7_put_166 rfl (lv_at hl 0 rfl) ?_
    refine gM_0_2 C wd_3_141 dX7_put_167 ?_
    refine s_iload_n C dX7_put_170 rfl (lv_at hl 1 rfl) ?_
    refine s_iload_n C dX7_put_171 rfl (lv_at hl 2 rfl) ?_
    refine s_iload C dX7_put_172 (lv_at hl 7 rfl) ?_
    refine s_iadd C dX7_put_174 ?_
    refine s_aload_n C dX7_put_175 rfl (lv_at hl 0 rfl) ?_
    refine gM_0_2 C wd_3_141 dX7_put_176 ?_
    refine s_iload_n C dX7_put_179 rfl (lv_at hl 1 rfl) ?_
    obtain ⟨hi22, hf⟩ := bI_some hf
    refine ldM_1 C hi22 dX7_put_180 ?_
    refine s_icmp_le (tgt := 191) C dX7_put_181 (by decide) (fun c23 => ?_) (fun c23 => ?_)
    · replace hf := it_t c23 hf
      refine s_aload_n C dX7_put_191 rfl (lv_at hl 0 rfl) ?_
      refine gM_0_2 C wd_3_141 dX7_put_192 ?_
      refine s_iload_n C dX7_put_195 rfl (lv_at hl 1 rfl) ?_
      obtain ⟨hi24, hf⟩ := bI_some hf
      refine ldM_1 C hi24 dX7_put_196 ?_
      exact b197 _ hJ11 _ _ _ _ _ _ _ _ _ _ _ hf _ (lv_sub hl [0, 1, 2, 3, 4, 5, 6, 7, 8] rfl)
    · replace hf := it_f c23 hf
      refine s_iload_n C dX7_put_184 rfl (lv_at hl 2 rfl) ?_
      refine s_iload C dX7_put_185 (lv_at hl 7 rfl) ?_
      refine s_iadd C dX7_put_187 ?_
      refine s_goto (tgt := 197) C dX7_put_188 (by decide) ?_
      exact b197 _ hJ11 _ _ _ _ _ _ _ _ _ _ _ hf _ (lv_sub hl [0, 1, 2, 3, 4, 5, 6, 7, 8] rfl)
  have b158 : ∀ (J11 : Int32 → Int32 → Int32 → Int32 → Int64 → Int32 → Int32 → Int32 → St → Option (Int32 × St)) (J97 : Int32 → Int32 → Int32 → Int32 → Int64 → Int32 → Int32 → Int32 → Int32 → Int32 → St → Option (Int32 × St)) (hJ11 : ∀ (x1 : Int32) (x2 : Int32) (x3 : Int32) (x4 : Int32) (x5 : Int64) (x7 : Int32) (x8 : Int32) (x9 : Int32) (σ : St), J11 x1 x2 x3 x4 x5 x7 x8 x9 σ = some z → ∀ ls : Array Slot, lv_has ls 12 [(0, .ref (h 0)), (1, .int x1), (2, .int x2), (3, .int x3), (4, .int x4), (5, .long x5), (7, .int x7), (8, .int x8), (9, .int x9)] → WG p l e (rmO 7 156) s m args below meth c D A 0 0 Q (wM h q σ) (F0 m 11 ls [])) (hJ97 : ∀ (x1 : Int32) (x2 : Int32) (x3 : Int32) (x4 : Int32) (x5 : Int64) (x7 : Int32) (x8 : Int32) (x9 : Int32) (x10 : Int32) (x11 : Int32) (σ : St), J97 x1 x2 x3 x4 x5 x7 x8 x9 x10 x11 σ = some z → ∀ ls : Array Slot, lv_has ls 12 [(0, .ref (h 0)), (1, .int x1), (2, .int x2), (3, .int x3), (4, .int x4), (5, .long x5), (7, .int x7), (8, .int x8), (9, .int x9), (10, .int x10), (11, .int x11)] → WG p l e (rmO 7 156) s m args below meth c D A 0 0 Q (wM h q σ) (F0 m 97 ls [])) (x1 : Int32) (x2 : Int32) (x3 : Int32) (x4 : Int32) (x5 : Int64) (x7 : Int32) (x8 : Int32) (x9 : Int32) (x10 : Int32) (x11 : Int32) (y2 : Int32) (y1 : Int32) (σ : St), pf_X7_put_b158 N J11 J97 x1 x2 x3 x4 x5 x7 x8 x9 x10 x11 y2 y1 σ = some z → ∀ ls : Array Slot, lv_has ls 12 [(0, .ref (h 0)), (1, .int x1), (2, .int x2), (3, .int x3), (4, .int x4), (5, .long x5), (7, .int x7), (8, .int x8), (9, .int x9), (10, .int x10), (11, .int x11)] → WG p l e (rmO 7 156) s m args below meth c D A 0 0 Q (wM h q σ) (F0 m 158 ls [.int y2, .int y1, .ref (h 15)]) := by
    intro J11 J97 hJ11 hJ97 x1 x2 x3 x4 x5 x7 x8 x9 x10 x11 y2 y1 σ hf ls hl
    unfold pf_X7_put_b158 at hf
    refine s_i2b C dX7_put_158 ?_
    obtain ⟨hi31, hf⟩ := bI_some hf
    refine stM_15 C hi31 dX7_put_159 ?_
    obtain ⟨σ32, e33, hf⟩ := lt_some hf
    refine s_w (ws2 := (wM h q σ32)) (by rw [e33]) ?_
    clear e33
    refine s_iinc (v := (x8 + 1)) (lv2 := [(8, .int (x8 + 1)), (0, .ref (h 0)), (1, .int x1), (2, .int x2), (3, .int x3), (4, .int x4), (5, .long x5), (7, .int x7), (9, .int x9), (10, .int x10), (11, .int x11)]) C 7 dX7_put_160 hl rfl rfl (by decide) rfl ?_
    intro ls hl
    refine s_goto (tgt := 97) C dX7_put_163 (by decide) ?_
    exact hJ97 _ _ _ _ _ _ _ _ _ _ _ hf _ (lv_sub hl [1, 2, 3, 4, 5, 6, 7, 0, 8, 9, 10] rfl)
  have L97 : ∀ (J11 : Int32 → Int32 → Int32 → Int32 → Int64 → Int32 → Int32 → Int32 → St → Option (Int32 × St)) (hJ11 : ∀ (x1 : Int32) (x2 : Int32) (x3 : Int32) (x4 : Int32) (x5 : Int64) (x7 : Int32) (x8 : Int32) (x9 : Int32) (σ : St), J11 x1 x2 x3 x4 x5 x7 x8 x9 σ = some z → ∀ ls : Array Slot, lv_has ls 12 [(0, .ref (h 0)), (1, .int x1), (2, .int x2), (3, .int x3), (4, .int x4), (5, .long x5), (7, .int x7), (8, .int x8), (9, .int x9)] → WG p l e (rmO 7 156) s m args below meth c D A 0 0 Q (wM h q σ) (F0 m 11 ls [])) (n : Nat) (x1 : Int32) (x2 : Int32) (x3 : Int32) (x4 : Int32) (x5 : Int64) (x7 : Int32) (x8 : Int32) (x9 : Int32) (x10 : Int32) (x11 : Int32) (σ : St), pf_X7_put_L97 N J11 n x1 x2 x3 x4 x5 x7 x8 x9 x10 x11 σ = some z → ∀ ls : Array Slot, lv_has ls 12 [(0, .ref (h 0)), (1, .int x1), (2, .int x2), (3, .int x3), (4, .int x4), (5, .long x5), (7, .int x7), (8, .int x8), (9, .int x9), (10, .int x10), (11, .int x11)] → WG p l e (rmO 7 156) s m args below meth c D A 0 0 Q (wM h q σ) (F0 m 97 ls []) := by
    intro J11 hJ11 n
    induction n with
    | zero => intro x1 x2 x3 x4 x5 x7 x8 x9 x10 x11 σ hf; unfold pf_X7_put_L97 at hf; cases hf
    | succ n ih =>
      intro x1 x2 x3 x4 x5 x7 x8 x9 x10 x11 σ hf ls hl
      unfold pf_X7_put_L97 at hf
      refine s_iload C dX7_put_97 (lv_at hl 7 rfl) ?_
      refine s_iload_n C dX7_put_99 rfl (lv_at hl 3 rfl) ?_
      refine s_icmp_ge (tgt := 166) C dX7_put_100 (by decide) (fun c21 => ?_) (fun c21 => ?_)
      · replace hf := it_t c21 hf
        exact b166 _ hJ11 _ _ _ _ _ _ _ _ _ hf _ (lv_sub hl [0, 1, 2, 3, 4, 5, 6, 7, 8] rfl)
      · replace hf := it_f c21 hf
        refine s_iload_n C dX7_put_103 rfl (lv_at hl 2 rfl) ?_
        refine s_iload C dX7_put_104 (lv_at hl 7 rfl) ?_
        refine s_iadd C dX7_put_106 ?_
        refine s_iload C dX7_put_107 (lv_at hl 10 rfl) ?_
        refine s_icmp_ge (tgt := 166) C dX7_put_109 (by decide) (fun c28 => ?_) (fun c28 => ?_)
        · replace hf := it_t c28 hf
          exact b166 _ hJ11 _ _ _ _ _ _ _ _ _ hf _ (lv_sub hl [0, 1, 2, 3, 4, 5, 6, 7, 8] rfl)
        · replace hf := it_f c28 hf
          refine s_aload_n C dX7_put_112 rfl (lv_at hl 0 rfl) ?_
          refine gM_0_18 C wd_3_157 dX7_put_113 ?_
          refine s_bipush (v := (64 : Int32)) C dX7_put_116 (by decide) ?_
          refine s_aload_n C dX7_put_118 rfl (lv_at hl 0 rfl) ?_
          refine gM_0_6 C wd_3_145 dX7_put_119 ?_
          refine s_iload C dX7_put_122 (lv_at hl 9 rfl) ?_
          obtain ⟨hi29, hf⟩ := bI_some hf
          refine ldM_5 C hi29 dX7_put_124 ?_
          refine s_imul C dX7_put_125 ?_
          refine s_iload_n C dX7_put_126 rfl (lv_at hl 2 rfl) ?_
          refine s_iload C dX7_put_127 (lv_at hl 7 rfl) ?_
          refine s_iadd C dX7_put_129 ?_
          refine s_bipush (v := (64 : Int32)) C dX7_put_130 (by decide) ?_
          refine s_irem C dX7_put_132 (by decide) ?_
          refine s_iadd C dX7_put_133 ?_
          refine s_iload C dX7_put_134 (lv_at hl 4 rfl) ?_
          refine s_if_eq (tgt := 149) C dX7_put_136 (by decide) (fun c30 => ?_) (fun c30 => ?_)
          · replace hf := it_t c30 hf
            refine s_lload C dX7_put_149 (lv_at hl 5 rfl) ?_
            refine s_bipush (v := (8 : Int32)) C dX7_put_151 (by decide) ?_
            refine s_iload C dX7_put_153 (lv_at hl 7 rfl) ?_
            refine s_imul C dX7_put_155 ?_
            refine s_lshr C dX7_put_156 ?_
            refine s_l2i C dX7_put_157 ?_
            exact b158 _ _ hJ11 ih _ _ _ _ _ _ _ _ _ _ _ _ _ hf _ (lv_sub hl [0, 1, 2, 3, 4, 5, 6, 7, 8, 9, 10] rfl)
          · replace hf := it_f c30 hf
            refine s_iload C dX7_put_139 (lv_at hl 6 rfl) ?_
            refine s_iconst (v := (3 : Int32)) C dX7_put_141 (by decide) ?_
            refine s_iload C dX7_put_142 (lv_at hl 7 rfl) ?_
            refine s_imul C dX7_put_144 ?_
            refine s_iadd C dX7_put_145 ?_
            refine s_goto (tgt := 158) C dX7_put_146 (by decide) ?_
            exact b158 _ _ hJ11 ih _ _ _ _ _ _ _ _ _ _ _ _ _ hf _ (lv_sub hl [0, 1, 2, 3, 4, 5, 6, 7, 8, 9, 10] rfl)
  have b82 : ∀ (J11 : Int32 → Int32 → Int32 → Int32 → Int64 → Int32 → Int32 → Int32 → St → Option (Int32 × St)) (hJ11 : ∀ (x1 : Int32) (x2 : Int32) (x3 : Int32) (x4 : Int32) (x5 : Int64) (x7 : Int32) (x8 : Int32) (x9 : Int32) (σ : St), J11 x1 x2 x3 x4 x5 x7 x8 x9 σ = some z → ∀ ls : Array Slot, lv_has ls 12 [(0, .ref (h 0)), (1, .int x1), (2, .int x2), (3, .int x3), (4, .int x4), (5, .long x5), (7, .int x7), (8, .int x8), (9, .int x9)] → WG p l e (rmO 7 156) s m args below meth c D A 0 0 Q (wM h q σ) (F0 m 11 ls [])) (x1 : Int32) (x2 : Int32) (x3 : Int32) (x4 : Int32) (x5 : Int64) (x7 : Int32) (x8 : Int32) (x9 : Int32) (x10 : Int32) (y2 : Int32) (y1 : Int32) (σ : St), pf_X7_put_b82 N J11 x1 x2 x3 x4 x5 x7 x8 x9 x10 y2 y1 σ = some z → ∀ ls : Array Slot, lv_has ls 12 [(0, .ref (h 0)), (1, .int x1), (2, .int x2), (3, .int x3), (4, .int x4), (5, .long x5), (7, .int x7), (8, .int x8), (9, .int x9), (10, .int x10)] → WG p l e (rmO 7 156) s m args below meth c D A 0 0 Q (wM h q σ) (F0 m 82 ls [.int y2, .int y1, .ref (h 7)]) := by
    intro J11 hJ11 x1 x2 x3 x4 x5 x7 x8 x9 x10 y2 y1 σ hf ls hl
    unfold pf_X7_put_b82 at hf
    obtain ⟨hi16, hf⟩ := bI_some hf
    refine stM_7 C hi16 dX7_put_82 ?_
    obtain ⟨σ17, e18, hf⟩ := lt_some hf
    refine s_w (ws2 := (wM h q σ17)) (by rw [e18]) ?_
    clear e18
    refine s_bipush (v := (64 : Int32)) C dX7_put_83 (by decide) ?_
    refine s_iload_n C dX7_put_85 rfl (lv_at hl 2 rfl) ?_
    refine s_iload C dX7_put_86 (lv_at hl 7 rfl) ?_
    refine s_iadd C dX7_put_88 ?_
    refine s_bipush (v := (64 : Int32)) C dX7_put_89 (by decide) ?_
    refine s_idiv C dX7_put_91 (by decide) ?_
    refine s_iconst (v := (1 : Int32)) C dX7_put_92 (by decide) ?_
    refine s_iadd C dX7_put_93 ?_
    refine s_imul C dX7_put_94 ?_
    obtain ⟨v19, e20, hf⟩ := lt_some hf
    refine s_eq (g2 := F0 m 95 ls [.int v19]) (by rw [e20]) ?_
    clear e20
    refine s_istore (lv2 := [(11, .int v19), (0, .ref (h 0)), (1, .int x1), (2, .int x2), (3, .int x3), (4, .int x4), (5, .long x5), (7, .int x7), (8, .int x8), (9, .int x9), (10, .int x10)]) C dX7_put_95 hl (by decide) rfl ?_
    intro ls hl
    exact L97 _ hJ11 N _ _ _ _ _ _ _ _ _ _ _ hf _ (lv_sub hl [1, 2, 3, 4, 5, 6, 7, 8, 9, 10, 0] rfl)
  have L11 : ∀ (n : Nat) (x1 : Int32) (x2 : Int32) (x3 : Int32) (x4 : Int32) (x5 : Int64) (x7 : Int32) (x8 : Int32) (x9 : Int32) (σ : St), pf_X7_put_L11 N n x1 x2 x3 x4 x5 x7 x8 x9 σ = some z → ∀ ls : Array Slot, lv_has ls 12 [(0, .ref (h 0)), (1, .int x1), (2, .int x2), (3, .int x3), (4, .int x4), (5, .long x5), (7, .int x7), (8, .int x8), (9, .int x9)] → WG p l e (rmO 7 156) s m args below meth c D A 0 0 Q (wM h q σ) (F0 m 11 ls []) := by
    intro n
    induction n with
    | zero => intro x1 x2 x3 x4 x5 x7 x8 x9 σ hf; unfold pf_X7_put_L11 at hf; cases hf
    | succ n ih =>
      intro x1 x2 x3 x4 x5 x7 x8 x9 σ hf ls hl
      unfold pf_X7_put_L11 at hf
      refine s_iload C dX7_put_11 (lv_at hl 7 rfl) ?_
      refine s_iload_n C dX7_put_13 rfl (lv_at hl 3 rfl) ?_
      refine s_icmp_ge (tgt := 201) C dX7_put_14 (by decide) (fun c3 => ?_) (fun c3 => ?_)
      · replace hf := it_t c3 hf
        exact b201 _ _ hf _ (lv_sub hl [0, 7] rfl)
      · replace hf := it_f c3 hf
        refine s_iload C dX7_put_17 (lv_at hl 8 rfl) ?_
        refine s_if_eq (tgt := 201) C dX7_put_19 (by decide) (fun c7 => ?_) (fun c7 => ?_)
        · replace hf := it_t c7 hf
          exact b201 _ _ hf _ (lv_sub hl [0, 7] rfl)
        · replace hf := it_f c7 hf
          refine s_sipush (v := (256 : Int32)) C dX7_put_22 (by decide) ?_
          refine s_iload_n C dX7_put_25 rfl (lv_at hl 1 rfl) ?_
          refine s_imul C dX7_put_26 ?_
          refine s_iload_n C dX7_put_27 rfl (lv_at hl 2 rfl) ?_
          refine s_iload C dX7_put_28 (lv_at hl 7 rfl) ?_
          refine s_iadd C dX7_put_30 ?_
          refine s_bipush (v := (64 : Int32)) C dX7_put_31 (by decide) ?_
          refine s_idiv C dX7_put_33 (by decide) ?_
          refine s_iadd C dX7_put_34 ?_
          obtain ⟨v8, e9, hf⟩ := lt_some hf
          refine s_eq (g2 := F0 m 35 ls [.int v8]) (by rw [e9]) ?_
          clear e9
          refine s_istore (lv2 := [(10, .int v8), (0, .ref (h 0)), (1, .int x1), (2, .int x2), (3, .int x3), (4, .int x4), (5, .long x5), (7, .int x7), (8, .int x8), (9, .int x9)]) C dX7_put_35 hl (by decide) rfl ?_
          intro ls hl
          refine s_aload_n C dX7_put_37 rfl (lv_at hl 1 rfl) ?_
          refine s_iload C dX7_put_38 (lv_at hl 0 rfl) ?_
          obtain ⟨z10, h11, hf⟩ := bn_some hf
          refine s_callIV (As := [.int v8]) (rest := []) C (c_X7_touch l D q h N v8 σ z10 h11) ⟨wd_4_17, wd_4_19, wd_s_24, wd_1_10, wd_4_20, cx_X7_touch, Nat.le_of_ble_eq_true rfl, Nat.le_of_ble_eq_true rfl⟩ 0 (ci := 7) rfl rfl rfl (SubW.full _ _) rfl hl.1 rfl (Nat.le_of_ble_eq_true rfl) dX7_put_40 (Nat.zero_le _) (Nat.zero_le _) ?_
          refine s_istore (lv2 := [(9, .int z10.1), (10, .int v8), (0, .ref (h 0)), (1, .int x1), (2, .int x2), (3, .int x3), (4, .int x4), (5, .long x5), (7, .int x7), (8, .int x8)]) C dX7_put_43 hl (by decide) rfl ?_
          intro ls hl
          refine s_iload C dX7_put_45 (lv_at hl 0 rfl) ?_
          refine s_if_ne (tgt := 53) C dX7_put_47 (by decide) (fun c12 => ?_) (fun c12 => ?_)
          · replace hf := it_f c12 hf
            refine s_aload_n C dX7_put_53 rfl (lv_at hl 2 rfl) ?_
            refine gM_0_8 C wd_3_147 dX7_put_54 ?_
            refine s_iload C dX7_put_57 (lv_at hl 1 rfl) ?_
            refine s_aload_n C dX7_put_59 rfl (lv_at hl 2 rfl) ?_
            refine s_iload C dX7_put_60 (lv_at hl 1 rfl) ?_
            obtain ⟨z13, h14, hf⟩ := bn_some hf
            refine s_callIV (As := [.int v8]) (rest := [.int v8, .ref (h 7)]) C (c_X7_isDirty l D q h N v8 z10.2 z13 h14) ⟨wd_4_49, wd_4_51, wd_s_32, wd_1_10, wd_4_52, cx_X7_isDirty, Nat.le_of_ble_eq_true rfl, Nat.le_of_ble_eq_true rfl⟩ 0 (ci := 7) rfl rfl rfl (SubW.full _ _) rfl hl.1 rfl (Nat.le_of_ble_eq_true rfl) dX7_put_62 (Nat.zero_le _) (Nat.zero_le _) ?_
            refine s_if_eq (tgt := 78) C dX7_put_65 (by decide) (fun c15 => ?_) (fun c15 => ?_)
            · replace hf := it_t c15 hf
              refine s_aload_n C dX7_put_78 rfl (lv_at hl 2 rfl) ?_
              refine gM_0_24 C wd_3_163 dX7_put_79 ?_
              exact b82 _ ih _ _ _ _ _ _ _ _ _ _ _ _ hf _ (lv_sub hl [2, 3, 4, 5, 6, 7, 8, 9, 0, 1] rfl)
            · replace hf := it_f c15 hf
              refine s_aload_n C dX7_put_68 rfl (lv_at hl 2 rfl) ?_
              refine gM_0_8 C wd_3_147 dX7_put_69 ?_
              refine s_iload C dX7_put_72 (lv_at hl 1 rfl) ?_
              obtain ⟨hi34, hf⟩ := bI_some hf
              refine ldM_7 C hi34 dX7_put_74 ?_
              refine s_goto (tgt := 82) C dX7_put_75 (by decide) ?_
              exact b82 _ ih _ _ _ _ _ _ _ _ _ _ _ _ hf _ (lv_sub hl [2, 3, 4, 5, 6, 7, 8, 9, 0, 1] rfl)
          · replace hf := it_t c12 hf
            refine s_goto (tgt := 11) C dX7_put_50 (by decide) ?_
            exact ih _ _ _ _ _ _ _ _ _ hf _ (lv_sub hl [2, 3, 4, 5, 6, 7, 8, 9, 0] rfl)
  refine s_aload_n C dX7_put_0 rfl (lv_at hl 0 rfl) ?_
  refine s_iconst (v := (0 : Int32)) C dX7_put_1 (by decide) ?_
  refine uM_0_33 C wd_3_172 rfl dX7_put_2 ?_
  obtain ⟨σ1, e2, hf⟩ := lt_some hf
  refine s_w (ws2 := (wM h q σ1)) (by rw [e2]) ?_
  clear e2
  refine s_iconst (v := (0 : Int32)) C dX7_put_5 (by decide) ?_
  refine s_istore (lv2 := [(8, .int (0 : Int32)), (0, .ref (h 0)), (1, .int x1), (2, .int x2), (3, .int x3), (4, .int x4), (5, .long x5), (7, .int x7)]) C dX7_put_6 hl (by decide) rfl ?_
  intro ls hl
  refine s_iconst (v := (1 : Int32)) C dX7_put_8 (by decide) ?_
  refine s_istore (lv2 := [(9, .int (1 : Int32)), (8, .int (0 : Int32)), (0, .ref (h 0)), (1, .int x1), (2, .int x2), (3, .int x3), (4, .int x4), (5, .long x5), (7, .int x7)]) C dX7_put_9 hl (by decide) rfl ?_
  intro ls hl
  exact L11 N _ _ _ _ _ _ _ _ _ hf _ (lv_sub hl [2, 3, 4, 5, 6, 7, 8, 1, 0] rfl)
