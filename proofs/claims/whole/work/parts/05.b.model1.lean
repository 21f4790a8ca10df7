def pf_X7_fill (N : Nat) (x1 : Int32) (x2 : Int32) (x3 : Int32) (x4 : Int32) (σ : St) : Option (Int32 × St) := (pf_X7_isFile N x1).bind (fun z1 => if z1 = 0 then some ((-2 : Int32), σ) else if x3 < (1 : Int32) then some ((-2 : Int32), σ) else if (1024 : Int32) < x3 then some ((-2 : Int32), σ) else if x2 < 0 then some ((-2 : Int32), σ) else if x2 ≤ ((16384 : Int32) - x3) then (pf_X7_put N x1 x2 x3 (1 : Int32) (0 : Int64) x4 σ).bind (fun z8 => some (z8.1, z8.2)) else some ((-2 : Int32), σ))
theorem cx_X7_fill : (yX7_fill.cls ≠ "java/lang/invoke/MethodHandle" ∧ yX7_fill.cls ≠ "java/lang/invoke/VarHandle" ∧ (parseMethodDescriptor yX7_fill.desc).map (fun d => d.parameters.length) = some 4) := by decide +kernel
set_option maxHeartbeats 4000000 in
set_option maxRecDepth 100000 in
theorem c_X7_fill (l : Launch) (D : va_G) (q : Nat → ClassId) (h : Nat → Nat) (N : Nat) (x1 : Int32) (x2 : Int32) (x3 : Int32) (x4 : Int32) (σ : St) (z : (Int32 × St)) (hf : pf_X7_fill N x1 x2 x3 x4 σ = some z) : MI l yX7_fill cX7_fill 5 (some .int) 8 187 D (tyQ q) [.ref (h 0), .int x1, .int x2, .int x3, .int x4] (wM h q σ) (wM h q z.2) z.1 := by
  refine MI.of (by decide) (Nat.le_of_ble_eq_true rfl) ?_
  intro p e s m args below meth c Q A C ret ls hl
  have hl : lv_has ls 5 [(0, .ref (h 0)), (1, .int x1), (2, .int x2), (3, .int x3), (4, .int x4)] := hl
  unfold pf_X7_fill at hf
  refine s_iload_n C dX7_fill_0 rfl (lv_at hl 1 rfl) ?_
  obtain ⟨z1, h2, hf⟩ := bn_some hf
  refine s_callIS (As := [.int x1]) (rest := []) C (c_X7_isFile l D q (wM h q σ) N x1  z1 h2) ⟨wd_4_10, wd_4_11, wd_1_10, wd_4_12, cx_X7_isFile, Nat.le_of_ble_eq_true rfl, Nat.le_of_ble_eq_true rfl⟩ (SubW.full _ _) rfl hl.1 rfl (Nat.le_of_ble_eq_true rfl) dX7_fill_1 (Nat.zero_le _) (Nat.zero_le _) ?_
  refine s_if_eq (tgt := 32) C dX7_fill_4 (by decide) (fun c3 => ?_) (fun c3 => ?_)
  · replace hf := it_t c3 hf
    refine s_bipush (v := (-2 : Int32)) C dX7_fill_32 (by decide) ?_
    exact ret _ _ _ _ dX7_fill_34 rfl (rt_2 hf).1 (congrArg (fun σ => (wM h q σ)) (rt_2 hf).2)
  · replace hf := it_f c3 hf
    refine s_iload_n C dX7_fill_7 rfl (lv_at hl 3 rfl) ?_
    refine s_iconst (v := (1 : Int32)) C dX7_fill_8 (by decide) ?_
    refine s_icmp_lt (tgt := 32) C dX7_fill_9 (by decide) (fun c4 => ?_) (fun c4 => ?_)
    · replace hf := it_t c4 hf
      refine s_bipush (v := (-2 : Int32)) C dX7_fill_32 (by decide) ?_
      exact ret _ _ _ _ dX7_fill_34 rfl (rt_2 hf).1 (congrArg (fun σ => (wM h q σ)) (rt_2 hf).2)
    · replace hf := it_f c4 hf
      refine s_iload_n C dX7_fill_12 rfl (lv_at hl 3 rfl) ?_
      refine s_sipush (v := (1024 : Int32)) C dX7_fill_13 (by decide) ?_
      refine s_icmp_gt (tgt := 32) C dX7_fill_16 (by decide) (fun c5 => ?_) (fun c5 => ?_)
      · replace hf := it_t c5 hf
        refine s_bipush (v := (-2 : Int32)) C dX7_fill_32 (by decide) ?_
        exact ret _ _ _ _ dX7_fill_34 rfl (rt_2 hf).1 (congrArg (fun σ => (wM h q σ)) (rt_2 hf).2)
      · replace hf := it_f c5 hf
        refine s_iload_n C dX7_fill_19 rfl (lv_at hl 2 rfl) ?_
        refine s_if_lt (tgt := 32) C dX7_fill_20 (by decide) (fun c6 => ?_) (fun c6 => ?_)
        · replace hf := it_t c6 hf
          refine s_bipush (v := (-2 : Int32)) C dX7_fill_32 (by decide) ?_
          exact ret _ _ _ _ dX7_fill_34 rfl (rt_2 hf).1 (congrArg (fun σ => (wM h q σ)) (rt_2 hf).2)
        · replace hf := it_f c6 hf
          refine s_iload_n C dX7_fill_23 rfl (lv_at hl 2 rfl) ?_
          refine s_sipush (v := (16384 : Int32)) C dX7_fill_24 (by decide) ?_
          refine s_iload_n C dX7_fill_27 rfl (lv_at hl 3 rfl) ?_
          refine s_isub C dX7_fill_28 ?_
          refine s_icmp_le (tgt := 35) C dX7_fill_29 (by decide) (fun c7 => ?_) (fun c7 => ?_)
          · replace hf := it_t c7 hf
            refine s_aload_n C dX7_fill_35 rfl (lv_at hl 0 rfl) ?_
            refine s_iload_n C dX7_fill_36 rfl (lv_at hl 1 rfl) ?_
            refine s_iload_n C dX7_fill_37 rfl (lv_at hl 2 rfl) ?_
            refine s_iload_n C dX7_fill_38 rfl (lv_at hl 3 rfl) ?_
            refine s_iconst (v := (1 : Int32)) C dX7_fill_39 (by decide) ?_
            refine s_lconst (v := (0 : Int64)) C dX7_fill_40 (by decide) ?_
            refine s_iload C dX7_fill_41 (lv_at hl 4 rfl) ?_
            obtain ⟨z8, h9, hf⟩ := bn_some hf
            refine s_callIV (As := [.int x1, .int x2, .int x3, .int (1 : Int32), .long (0 : Int64), .int x4]) (rest := []) C (c_X7_put l D q h N x1 x2 x3 (1 : Int32) (0 : Int64) x4 σ z8 h9) ⟨wd_4_93, wd_4_95, wd_s_41, wd_1_10, wd_4_96, cx_X7_put, Nat.le_of_ble_eq_true rfl, Nat.le_of_ble_eq_true rfl⟩ 0 (ci := 7) rfl rfl rfl (SubW.full _ _) rfl hl.1 rfl (Nat.le_of_ble_eq_true rfl) dX7_fill_43 (Nat.zero_le _) (Nat.zero_le _) ?_
            exact ret _ _ _ _ dX7_fill_46 rfl (rt_2 hf).1 (congrArg (fun σ => (wM h q σ)) (rt_2 hf).2)
          · replace hf := it_f c7 hf
            refine s_bipush (v := (-2 : Int32)) C dX7_fill_32 (by decide) ?_
            exact ret _ _ _ _ dX7_fill_34 rfl (rt_2 hf).1 (congrArg (fun σ => (wM h q σ)) (rt_2 hf).2)
def pf_X7_freeBlocks_b27 (N : Nat) (σ : St) (J4 : Int32 → Int32 → Option Int32) (x2 : Int32) (y1 : Int32) (y0 : Int32) : Option Int32 := J4 (y0 + y1) (x2 + 1) 
def pf_X7_freeBlocks_L4 (N : Nat) (σ : St) : Nat → Int32 → Int32 → Option Int32
  | 0, _, _ => none
  | n + 1, x1, x2 => if (σ.1 1) ≤ x2 then some x1 else bI x2 (512) (if ((σ.2.1 17) (Int32.toNatClampNeg x2)) = 0 then pf_X7_freeBlocks_b27 N σ (pf_X7_freeBlocks_L4 N σ n) x2 (1 : Int32) x1  else pf_X7_freeBlocks_b27 N σ (pf_X7_freeBlocks_L4 N σ n) x2 (0 : Int32) x1 )
def pf_X7_freeBlocks (N : Nat) (σ : St) : Option Int32 := pf_X7_freeBlocks_L4 N σ N (0 : Int32) (0 : Int32) 
theorem cx_X7_freeBlocks : (yX7_freeBlocks.cls ≠ "java/lang/invoke/MethodHandle" ∧ yX7_freeBlocks.cls ≠ "java/lang/invoke/VarHandle" ∧ (parseMethodDescriptor yX7_freeBlocks.desc).map (fun d => d.parameters.length) = some 0) := by decide +kernel
set_option maxHeartbeats 4000000 in
set_option maxRecDepth 100000 in
theorem c_X7_freeBlocks (l : Launch) (D : va_G) (q : Nat → ClassId) (h : Nat → Nat) (N : Nat) (σ : St) (z : Int32) (hf : pf_X7_freeBlocks N σ = some z) : MI l yX7_freeBlocks cX7_freeBlocks 3 (some .int) 0 0 D (tyQ q) [.ref (h 0)] (wM h q σ) (wM h q σ) z := by
  refine MI.of (by decide) (Nat.le_of_ble_eq_true rfl) ?_
  intro p e s m args below meth c Q A C ret ls hl
  have hl : lv_has ls 3 [(0, .ref (h 0))] := hl
  unfold pf_X7_freeBlocks at hf
  have b27 : ∀ (J4 : Int32 → Int32 → Option Int32) (hJ4 : ∀ (x1 : Int32) (x2 : Int32), J4 x1 x2 = some z → ∀ ls : Array Slot, lv_has ls 3 [(0, .ref (h 0)), (1, .int x1), (2, .int x2)] → WG p l e (rmO 0 0) s m args below meth c D A 0 0 Q (wM h q σ) (F0 m 4 ls [])) (x2 : Int32) (y1 : Int32) (y0 : Int32), pf_X7_freeBlocks_b27 N σ J4 x2 y1 y0 = some z → ∀ ls : Array Slot, lv_has ls 3 [(0, .ref (h 0)), (2, .int x2)] → WG p l e (rmO 0 0) s m args below meth c D A 0 0 Q (wM h q σ) (F0 m 27 ls [.int y1, .int y0]) := by
    intro J4 hJ4 x2 y1 y0 hf ls hl
    unfold pf_X7_freeBlocks_b27 at hf
    refine s_iadd C dX7_freeBlocks_27 ?_
    refine s_istore_n (lv2 := [(1, .int (y0 + y1)), (0, .ref (h 0)), (2, .int x2)]) C dX7_freeBlocks_28 rfl hl (by decide) rfl ?_
    intro ls hl
    refine s_iinc (v := (x2 + 1)) (lv2 := [(2, .int (x2 + 1)), (1, .int (y0 + y1)), (0, .ref (h 0))]) C 2 dX7_freeBlocks_29 hl rfl rfl (by decide) rfl ?_
    intro ls hl
    refine s_goto (tgt := 4) C dX7_freeBlocks_32 (by decide) ?_
    exact hJ4 _ _ hf _ (lv_sub hl [2, 1, 0] rfl)
  have L4 : ∀ (n : Nat) (x1 : Int32) (x2 : Int32), pf_X7_freeBlocks_L4 N σ n x1 x2 = some z → ∀ ls : Array Slot, lv_has ls 3 [(0, .ref (h 0)), (1, .int x1), (2, .int x2)] → WG p l e (rmO 0 0) s m args below meth c D A 0 0 Q (wM h q σ) (F0 m 4 ls []) := by
    intro n
    induction n with
    | zero => intro x1 x2 hf; unfold pf_X7_freeBlocks_L4 at hf; cases hf
    | succ n ih =>
      intro x1 x2 hf ls hl
      unfold pf_X7_freeBlocks_L4 at hf
      refine s_iload_n C dX7_freeBlocks_4 rfl (lv_at hl 2 rfl) ?_
      refine s_aload_n C dX7_freeBlocks_5 rfl (lv_at hl 0 rfl) ?_
      refine gM_0_1 C wd_3_140 dX7_freeBlocks_6 ?_
      refine s_icmp_ge (tgt := 35) C dX7_freeBlocks_9 (by decide) (fun c1 => ?_) (fun c1 => ?_)
      · replace hf := it_t c1 hf
        refine s_iload_n C dX7_freeBlocks_35 rfl (lv_at hl 1 rfl) ?_
        exact ret _ _ _ _ dX7_freeBlocks_36 rfl (rt_1 hf) rfl
      · replace hf := it_f c1 hf
        refine s_iload_n C dX7_freeBlocks_12 rfl (lv_at hl 1 rfl) ?_
        refine s_aload_n C dX7_freeBlocks_13 rfl (lv_at hl 0 rfl) ?_
        refine gM_0_20 C wd_3_159 dX7_freeBlocks_14 ?_
        refine s_iload_n C dX7_freeBlocks_17 rfl (lv_at hl 2 rfl) ?_
        obtain ⟨hi2, hf⟩ := bI_some hf
        refine ldM_17 C hi2 dX7_freeBlocks_18 ?_
        refine s_if_eq (tgt := 26) C dX7_freeBlocks_19 (by decide) (fun c3 => ?_) (fun c3 => ?_)
        · replace hf := it_t c3 hf
          refine s_iconst (v := (1 : Int32)) C dX7_freeBlocks_26 (by decide) ?_
          exact b27 _ ih _ _ _ hf _ (lv_sub hl [0, 2] rfl)
        · replace hf := it_f c3 hf
          refine s_iconst (v := (0 : Int32)) C dX7_freeBlocks_22 (by decide) ?_
          refine s_goto (tgt := 27) C dX7_freeBlocks_23 (by decide) ?_
          exact b27 _ ih _ _ _ hf _ (lv_sub hl [0, 2] rfl)
  refine s_iconst (v := (0 : Int32)) C dX7_freeBlocks_0 (by decide) ?_
  refine s_istore_n (lv2 := [(1, .int (0 : Int32)), (0, .ref (h 0))]) C dX7_freeBlocks_1 rfl hl (by decide) rfl ?_
  intro ls hl
  refine s_iconst (v := (0 : Int32)) C dX7_freeBlocks_2 (by decide) ?_
  refine s_istore_n (lv2 := [(2, .int (0 : Int32)), (1, .int (0 : Int32)), (0, .ref (h 0))]) C dX7_freeBlocks_3 rfl hl (by decide) rfl ?_
  intro ls hl
  exact L4 N _ _ hf _ (lv_sub hl [2, 1, 0] rfl)
def pf_X7_hand (N : Nat) (x1 : Int32) (σ : St) : Option Int32 := if x1 < 0 then some (-1 : Int32) else if (σ.1 4) ≤ x1 then some (-1 : Int32) else bI x1 (1024) (some (((σ.2.1 19) (Int32.toNatClampNeg x1)) &&& (255 : Int32)))
theorem cx_X7_hand : (yX7_hand.cls ≠ "java/lang/invoke/MethodHandle" ∧ yX7_hand.cls ≠ "java/lang/invoke/VarHandle" ∧ (parseMethodDescriptor yX7_hand.desc).map (fun d => d.parameters.length) = some 1) := by decide +kernel
set_option maxHeartbeats 4000000 in
set_option maxRecDepth 100000 in
theorem c_X7_hand (l : Launch) (D : va_G) (q : Nat → ClassId) (h : Nat → Nat) (N : Nat) (x1 : Int32) (σ : St) (z : Int32) (hf : pf_X7_hand N x1 σ = some z) : MI l yX7_hand cX7_hand 2 (some .int) 0 0 D (tyQ q) [.ref (h 0), .int x1] (wM h q σ) (wM h q σ) z := by
  refine MI.of (by decide) (Nat.le_of_ble_eq_true rfl) ?_
  intro p e s m args below meth c Q A C ret ls hl
  have hl : lv_has ls 2 [(0, .ref (h 0)), (1, .int x1)] := hl
  unfold pf_X7_hand at hf
  refine s_iload_n C dX7_hand_0 rfl (lv_at hl 1 rfl) ?_
  refine s_if_lt (tgt := 25) C dX7_hand_1 (by decide) (fun c1 => ?_) (fun c1 => ?_)
  · replace hf := it_t c1 hf
    refine s_iconst (v := (-1 : Int32)) C dX7_hand_25 (by decide) ?_
    exact ret _ _ _ _ dX7_hand_26 rfl (rt_1 hf) rfl
  · replace hf := it_f c1 hf
    refine s_iload_n C dX7_hand_4 rfl (lv_at hl 1 rfl) ?_
    refine s_aload_n C dX7_hand_5 rfl (lv_at hl 0 rfl) ?_
    refine gM_0_23 C wd_3_162 dX7_hand_6 ?_
    refine s_icmp_ge (tgt := 25) C dX7_hand_9 (by decide) (fun c2 => ?_) (fun c2 => ?_)
    · replace hf := it_t c2 hf
      refine s_iconst (v := (-1 : Int32)) C dX7_hand_25 (by decide) ?_
      exact ret _ _ _ _ dX7_hand_26 rfl (rt_1 hf) rfl
    · replace hf := it_f c2 hf
      refine s_aload_n C dX7_hand_12 rfl (lv_at hl 0 rfl) ?_
      refine gM_0_22 C wd_3_161 dX7_hand_13 ?_
      refine s_iload_n C dX7_hand_16 rfl (lv_at hl 1 rfl) ?_
      obtain ⟨hi3, hf⟩ := bI_some hf
      refine ldM_19 C hi3 dX7_hand_17 ?_
      refine s_sipush (v := (255 : Int32)) C dX7_hand_18 (by decide) ?_
      refine s_iand C dX7_hand_21 ?_
      refine s_goto (tgt := 26) C dX7_hand_22 (by decide) ?_
      exact ret _ _ _ _ dX7_hand_26 rfl (rt_1 hf) rfl
def pf_X7_hasMark (N : Nat) (x1 : Int32) (x2 : Int32) (σ : St) : Option Int32 := if x2 = (0 : Int32) then (pf_X7_isIn N x1 σ).bind (fun z2 => bZ z2 (some z2)) else if x2 = (1 : Int32) then (pf_X7_isDirty N x1 σ).bind (fun z6 => bZ z6 (some z6)) else if x2 = (2 : Int32) then bI x1 (3072) (bZ ((σ.2.1 9) (Int32.toNatClampNeg x1)) (some ((σ.2.1 9) (Int32.toNatClampNeg x1)))) else if x2 = (3 : Int32) then bI x1 (3072) (bZ ((σ.2.1 10) (Int32.toNatClampNeg x1)) (some ((σ.2.1 10) (Int32.toNatClampNeg x1)))) else bI x1 (3072) (if ((σ.2.1 8) (Int32.toNatClampNeg x1)) ≤ 0 then some (0 : Int32) else some (1 : Int32))
theorem cx_X7_hasMark : (yX7_hasMark.cls ≠ "java/lang/invoke/MethodHandle" ∧ yX7_hasMark.cls ≠ "java/lang/invoke/VarHandle" ∧ (parseMethodDescriptor yX7_hasMark.desc).map (fun d => d.parameters.length) = some 2) := by decide +kernel
set_option maxHeartbeats 4000000 in
set_option maxRecDepth 100000 in
theorem c_X7_hasMark (l : Launch) (D : va_G) (q : Nat → ClassId) (h : Nat → Nat) (N : Nat) (x1 : Int32) (x2 : Int32) (σ : St) (z : Int32) (hf : pf_X7_hasMark N x1 x2 σ = some z) : MI l yX7_hasMark cX7_hasMark 3 (some .boolean) 1 21 D (tyQ q) [.ref (h 0), .int x1, .int x2] (wM h q σ) (wM h q σ) z := by
  refine MI.of (by decide) (Nat.le_of_ble_eq_true rfl) ?_
  intro p e s m args below meth c Q A C ret ls hl
  have hl : lv_has ls 3 [(0, .ref (h 0)), (1, .int x1), (2, .int x2)] := hl
  unfold pf_X7_hasMark at hf
  refine s_iload_n C dX7_hasMark_0 rfl (lv_at hl 2 rfl) ?_
  by_cases c1 : x2 = (0 : Int32)
  · replace hf := it_t c1 hf
    refine s_tblI (tgt := 32) C dX7_hasMark_1 c1 (by decide) (by decide) rfl (by decide) ?_
    refine s_aload_n C dX7_hasMark_32 rfl (lv_at hl 0 rfl) ?_
    refine s_iload_n C dX7_hasMark_33 rfl (lv_at hl 1 rfl) ?_
    obtain ⟨z2, h3, hf⟩ := bn_some hf
    refine s_callIV (As := [.int x1]) (rest := []) C (c_X7_isIn l D q h N x1 σ z2 h3) ⟨wd_4_13, wd_4_15, wd_s_23, wd_1_10, wd_4_16, cx_X7_isIn, Nat.le_of_ble_eq_true rfl, Nat.le_of_ble_eq_true rfl⟩ 0 (ci := 7) rfl rfl rfl (SubW.full _ _) rfl hl.1 rfl (Nat.le_of_ble_eq_true rfl) dX7_hasMark_34 (Nat.zero_le _) (Nat.zero_le _) ?_
    obtain ⟨hz4, hf⟩ := bZ_some hf
    exact ret _ _ _ _ dX7_hasMark_37 hz4 (rt_1 hf) rfl
  · replace hf := it_f c1 hf
    by_cases c5 : x2 = (1 : Int32)
    · replace hf := it_t c5 hf
      refine s_tblI (tgt := 38) C dX7_hasMark_1 c5 (by decide) (by decide) rfl (by decide) ?_
      refine s_aload_n C dX7_hasMark_38 rfl (lv_at hl 0 rfl) ?_
      refine s_iload_n C dX7_hasMark_39 rfl (lv_at hl 1 rfl) ?_
      obtain ⟨z6, h7, hf⟩ := bn_some hf
      refine s_callIV (As := [.int x1]) (rest := []) C (c_X7_isDirty l D q h N x1 σ z6 h7) ⟨wd_4_49, wd_4_51, wd_s_32, wd_1_10, wd_4_52, cx_X7_isDirty, Nat.le_of_ble_eq_true rfl, Nat.le_of_ble_eq_true rfl⟩ 0 (ci := 7) rfl rfl rfl (SubW.full _ _) rfl hl.1 rfl (Nat.le_of_ble_eq_true rfl) dX7_hasMark_40 (Nat.zero_le _) (Nat.zero_le _) ?_
      obtain ⟨hz8, hf⟩ := bZ_some hf
      exact ret _ _ _ _ dX7_hasMark_43 hz8 (rt_1 hf) rfl
    · replace hf := it_f c5 hf
      by_cases c9 : x2 = (2 : Int32)
      · replace hf := it_t c9 hf
        refine s_tblI (tgt := 44) C dX7_hasMark_1 c9 (by decide) (by decide) rfl (by decide) ?_
        refine s_aload_n C dX7_hasMark_44 rfl (lv_at hl 0 rfl) ?_
        refine gM_0_10 C wd_3_149 dX7_hasMark_45 ?_
        refine s_iload_n C dX7_hasMark_48 rfl (lv_at hl 1 rfl) ?_
        obtain ⟨hi10, hf⟩ := bI_some hf
        refine ldM_9 C hi10 dX7_hasMark_49 ?_
        obtain ⟨hz11, hf⟩ := bZ_some hf
        exact ret _ _ _ _ dX7_hasMark_50 hz11 (rt_1 hf) rfl
      · replace hf := it_f c9 hf
        by_cases c12 : x2 = (3 : Int32)
        · replace hf := it_t c12 hf
          refine s_tblI (tgt := 51) C dX7_hasMark_1 c12 (by decide) (by decide) rfl (by decide) ?_
          refine s_aload_n C dX7_hasMark_51 rfl (lv_at hl 0 rfl) ?_
          refine gM_0_11 C wd_3_150 dX7_hasMark_52 ?_
          refine s_iload_n C dX7_hasMark_55 rfl (lv_at hl 1 rfl) ?_
          obtain ⟨hi13, hf⟩ := bI_some hf
          refine ldM_10 C hi13 dX7_hasMark_56 ?_
          obtain ⟨hz14, hf⟩ := bZ_some hf
          exact ret _ _ _ _ dX7_hasMark_57 hz14 (rt_1 hf) rfl
        · replace hf := it_f c12 hf
          refine s_tblO (tgt := 58) C dX7_hasMark_1 (tb_out (n := 3) (by decide) (fun k hk => ?_)) (by decide) ?_
          · rcases (show k = 0 ∨ k = 1 ∨ k = 2 ∨ k = 3 by omega) with rfl | rfl | rfl | rfl
            · exact c1
            · exact c5
            · exact c9
            · exact c12
          refine s_aload_n C dX7_hasMark_58 rfl (lv_at hl 0 rfl) ?_
          refine gM_0_9 C wd_3_148 dX7_hasMark_59 ?_
          refine s_iload_n C dX7_hasMark_62 rfl (lv_at hl 1 rfl) ?_
          obtain ⟨hi15, hf⟩ := bI_some hf
          refine ldM_8 C hi15 dX7_hasMark_63 ?_
          refine s_if_le (tgt := 71) C dX7_hasMark_64 (by decide) (fun c16 => ?_) (fun c16 => ?_)
          · replace hf := it_t c16 hf
            refine s_iconst (v := (0 : Int32)) C dX7_hasMark_71 (by decide) ?_
            exact ret _ _ _ _ dX7_hasMark_72 rfl (rt_1 hf) rfl
          · replace hf := it_f c16 hf
            refine s_iconst (v := (1 : Int32)) C dX7_hasMark_67 (by decide) ?_
            refine s_goto (tgt := 72) C dX7_hasMark_68 (by decide) ?_
            exact ret _ _ _ _ dX7_hasMark_72 rfl (rt_1 hf) rfl
def pf_X7_isEntry (N : Nat) (x1 : Int32) (σ : St) : Option Int32 := (pf_X7_isIn N x1 σ).bind (fun z1 => if z1 = 0 then bI x1 (3072) (if ((σ.2.1 8) (Int32.toNatClampNeg x1)) ≤ 0 then some (0 : Int32) else some (1 : Int32)) else some (1 : Int32))
theorem cx_X7_isEntry : (yX7_isEntry.cls ≠ "java/lang/invoke/MethodHandle" ∧ yX7_isEntry.cls ≠ "java/lang/invoke/VarHandle" ∧ (parseMethodDescriptor yX7_isEntry.desc).map (fun d => d.parameters.length) = some 1) := by decide +kernel
set_option maxHeartbeats 4000000 in
set_option maxRecDepth 100000 in
theorem c_X7_isEntry (l : Launch) (D : va_G) (q : Nat → ClassId) (h : Nat → Nat) (N : Nat) (x1 : Int32) (σ : St) (z : Int32) (hf : pf_X7_isEntry N x1 σ = some z) : MI l yX7_isEntry cX7_isEntry 2 (some .boolean) 1 21 D (tyQ q) [.ref (h 0), .int x1] (wM h q σ) (wM h q σ) z := by
  refine MI.of (by decide) (Nat.le_of_ble_eq_true rfl) ?_
  intro p e s m args below meth c Q A C ret ls hl
  have hl : lv_has ls 2 [(0, .ref (h 0)), (1, .int x1)] := hl
  unfold pf_X7_isEntry at hf
  refine s_aload_n C dX7_isEntry_0 rfl (lv_at hl 0 rfl) ?_
  refine s_iload_n C dX7_isEntry_1 rfl (lv_at hl 1 rfl) ?_
  obtain ⟨z1, h2, hf⟩ := bn_some hf
  refine s_callIV (As := [.int x1]) (rest := []) C (c_X7_isIn l D q h N x1 σ z1 h2) ⟨wd_4_13, wd_4_15, wd_s_23, wd_1_10, wd_4_16, cx_X7_isIn, Nat.le_of_ble_eq_true rfl, Nat.le_of_ble_eq_true rfl⟩ 0 (ci := 7) rfl rfl rfl (SubW.full _ _) rfl hl.1 rfl (Nat.le_of_ble_eq_true rfl) dX7_isEntry_2 (Nat.zero_le _) (Nat.zero_le _) ?_
  refine s_if_ne (tgt := 17) C dX7_isEntry_5 (by decide) (fun c3 => ?_) (fun c3 => ?_)
  · replace hf := it_f c3 hf
    refine s_iconst (v := (1 : Int32)) C dX7_isEntry_17 (by decide) ?_
    refine s_goto (tgt := 22) C dX7_isEntry_18 (by decide) ?_
    exact ret _ _ _ _ dX7_isEntry_22 rfl (rt_1 hf) rfl
  · replace hf := it_t c3 hf
    refine s_aload_n C dX7_isEntry_8 rfl (lv_at hl 0 rfl) ?_
    refine gM_0_9 C wd_3_148 dX7_isEntry_9 ?_
    refine s_iload_n C dX7_isEntry_12 rfl (lv_at hl 1 rfl) ?_
    obtain ⟨hi4, hf⟩ := bI_some hf
    refine ldM_8 C hi4 dX7_isEntry_13 ?_
    refine s_if_le (tgt := 21) C dX7_isEntry_14 (by decide) (fun c5 => ?_) (fun c5 => ?_)
    · replace hf := it_t c5 hf
      refine s_iconst (v := (0 : Int32)) C dX7_isEntry_21 (by decide) ?_
      exact ret _ _ _ _ dX7_isEntry_22 rfl (rt_1 hf) rfl
    · replace hf := it_f c5 hf
      refine s_iconst (v := (1 : Int32)) C dX7_isEntry_17 (by decide) ?_
      refine s_goto (tgt := 22) C dX7_isEntry_18 (by decide) ?_
      exact ret _ _ _ _ dX7_isEntry_22 rfl (rt_1 hf) rfl
def pf_X7_height_L46 (N : Nat) (σ : St) : Nat → Int32 → Int32 → Option Int32
  | 0, _, _ => none
  | n + 1, x2, x3 => if x2 < ((1 : Int32) <<< (((2 : Int32) * x3) &&& 31)) then some x3 else (pf_X7_height_L46 N σ n) x2 (x3 + 1) 
def pf_X7_height_b30 (N : Nat) (σ : St) (J4 : Int32 → Int32 → Int32 → Option Int32) (x1 : Int32) (x3 : Int32) (y0 : Int32) : Option Int32 := J4 x1 y0 (x3 + 1) 
def pf_X7_height_L4 (N : Nat) (σ : St) : Nat → Int32 → Int32 → Int32 → Option Int32
  | 0, _, _, _ => none
  | n + 1, x1, x2, x3 => if (256 : Int32) ≤ x3 then if x2 = (-1 : Int32) then some (0 : Int32) else pf_X7_height_L46 N σ N x2 (1 : Int32)  else (pf_X7_isEntry N (((256 : Int32) * x1) + x3) σ).bind (fun z4 => if z4 = 0 then pf_X7_height_b30 N σ (pf_X7_height_L4 N σ n) x1 x3 x2  else pf_X7_height_b30 N σ (pf_X7_height_L4 N σ n) x1 x3 x3 )
def pf_X7_height (N : Nat) (x1 : Int32) (σ : St) : Option Int32 := pf_X7_height_L4 N σ N x1 (-1 : Int32) (0 : Int32) 
theorem cx_X7_height : (yX7_height.cls ≠ "java/lang/invoke/MethodHandle" ∧ yX7_height.cls ≠ "java/lang/invoke/VarHandle" ∧ (parseMethodDescriptor yX7_height.desc).map (fun d => d.parameters.length) = some 1) := by decide +kernel
set_option maxHeartbeats 4000000 in
set_option maxRecDepth 100000 in
theorem c_X7_height (l : Launch) (D : va_G) (q : Nat → ClassId) (h : Nat → Nat) (N : Nat) (x1 : Int32) (σ : St) (z : Int32) (hf : pf_X7_height N x1 σ = some z) : MI l yX7_height cX7_height 4 (some .int) 2 42 D (tyQ q) [.ref (h 0), .int x1] (wM h q σ) (wM h q σ) z := by
  refine MI.of (by decide) (Nat.le_of_ble_eq_true rfl) ?_
  intro p e s m args below meth c Q A C ret ls hl
  have hl : lv_has ls 4 [(0, .ref (h 0)), (1, .int x1)] := hl
  unfold pf_X7_height at hf
  have L46 : ∀ (n : Nat) (x2 : Int32) (x3 : Int32), pf_X7_height_L46 N σ n x2 x3 = some z → ∀ ls : Array Slot, lv_has ls 4 [(2, .int x2), (3, .int x3)] → WG p l e (rmO 2 42) s m args below meth c D A 0 0 Q (wM h q σ) (F0 m 46 ls []) := by
    intro n
    induction n with
    | zero => intro x2 x3 hf; unfold pf_X7_height_L46 at hf; cases hf
    | succ n ih =>
      intro x2 x3 hf ls hl
      unfold pf_X7_height_L46 at hf
      refine s_iconst (v := (1 : Int32)) C dX7_height_46 (by decide) ?_
      refine s_iconst (v := (2 : Int32)) C dX7_height_47 (by decide) ?_
      refine s_iload_n C dX7_height_48 rfl (lv_at hl 1 rfl) ?_
      refine s_imul C dX7_height_49 ?_
      refine s_ishl C dX7_height_50 ?_
      refine s_iload_n C dX7_height_51 rfl (lv_at hl 0 rfl) ?_
      refine s_icmp_gt (tgt := 61) C dX7_height_52 (by decide) (fun c3 => ?_) (fun c3 => ?_)
      · replace hf := it_t c3 hf
        refine s_iload_n C dX7_height_61 rfl (lv_at hl 1 rfl) ?_
        exact ret _ _ _ _ dX7_height_62 rfl (rt_1 hf) rfl
      · replace hf := it_f c3 hf
        refine s_iinc (v := (x3 + 1)) (lv2 := [(3, .int (x3 + 1)), (2, .int x2)]) C 1 dX7_height_55 hl rfl rfl (by decide) rfl ?_
        intro ls hl
        refine s_goto (tgt := 46) C dX7_height_58 (by decide) ?_
        exact ih _ _ hf _ (lv_sub hl [1, 0] rfl)
  have b30 : ∀ (J4 : Int32 → Int32 → Int32 → Option Int32) (hJ4 : ∀ (x1 : Int32) (x2 : Int32) (x3 : Int32), J4 x1 x2 x3 = some z → ∀ ls : Array Slot, lv_has ls 4 [(0, .ref (h 0)), (1, .int x1), (2, .int x2), (3, .int x3)] → WG p l e (rmO 2 42) s m args below meth c D A 0 0 Q (wM h q σ) (F0 m 4 ls [])) (x1 : Int32) (x3 : Int32) (y0 : Int32), pf_X7_height_b30 N σ J4 x1 x3 y0 = some z → ∀ ls : Array Slot, lv_has ls 4 [(0, .ref (h 0)), (1, .int x1), (3, .int x3)] → WG p l e (rmO 2 42) s m args below meth c D A 0 0 Q (wM h q σ) (F0 m 30 ls [.int y0]) := by
    intro J4 hJ4 x1 x3 y0 hf ls hl
    unfold pf_X7_height_b30 at hf
    refine s_istore_n (lv2 := [(2, .int y0), (0, .ref (h 0)), (1, .int x1), (3, .int x3)]) C dX7_height_30 rfl hl (by decide) rfl ?_
    intro ls hl
    refine s_iinc (v := (x3 + 1)) (lv2 := [(3, .int (x3 + 1)), (2, .int y0), (0, .ref (h 0)), (1, .int x1)]) C 3 dX7_height_31 hl rfl rfl (by decide) rfl ?_
    intro ls hl
    refine s_goto (tgt := 4) C dX7_height_34 (by decide) ?_
    exact hJ4 _ _ _ hf _ (lv_sub hl [2, 3, 1, 0] rfl)
  have L4 : ∀ (n : Nat) (x1 : Int32) (x2 : Int32) (x3 : Int32), pf_X7_height_L4 N σ n x1 x2 x3 = some z → ∀ ls : Array Slot, lv_has ls 4 [(0, .ref (h 0)), (1, .int x1), (2, .int x2), (3, .int x3)] → WG p l e (rmO 2 42) s m args below meth c D A 0 0 Q (wM h q σ) (F0 m 4 ls []) := by
    intro n
    induction n with
    | zero => intro x1 x2 x3 hf; unfold pf_X7_height_L4 at hf; cases hf
    | succ n ih =>
      intro x1 x2 x3 hf ls hl
      unfold pf_X7_height_L4 at hf
      refine s_iload_n C dX7_height_4 rfl (lv_at hl 3 rfl) ?_
      refine s_sipush (v := (256 : Int32)) C dX7_height_5 (by decide) ?_
      refine s_icmp_ge (tgt := 37) C dX7_height_8 (by decide) (fun c1 => ?_) (fun c1 => ?_)
      · replace hf := it_t c1 hf
        refine s_iload_n C dX7_height_37 rfl (lv_at hl 2 rfl) ?_
        refine s_iconst (v := (-1 : Int32)) C dX7_height_38 (by decide) ?_
        refine s_icmp_ne (tgt := 44) C dX7_height_39 (by decide) (fun c2 => ?_) (fun c2 => ?_)
        · replace hf := it_f c2 hf
          refine s_iconst (v := (1 : Int32)) C dX7_height_44 (by decide) ?_
          refine s_istore_n (lv2 := [(3, .int (1 : Int32)), (0, .ref (h 0)), (1, .int x1), (2, .int x2)]) C dX7_height_45 rfl hl (by decide) rfl ?_
          intro ls hl
          exact L46 N _ _ hf _ (lv_sub hl [3, 0] rfl)
        · replace hf := it_t c2 hf
          refine s_iconst (v := (0 : Int32)) C dX7_height_42 (by decide) ?_
          exact ret _ _ _ _ dX7_height_43 rfl (rt_1 hf) rfl
      · replace hf := it_f c1 hf
        refine s_aload_n C dX7_height_11 rfl (lv_at hl 0 rfl) ?_
        refine s_sipush (v := (256 : Int32)) C dX7_height_12 (by decide) ?_
        refine s_iload_n C dX7_height_15 rfl (lv_at hl 1 rfl) ?_
        refine s_imul C dX7_height_16 ?_
        refine s_iload_n C dX7_height_17 rfl (lv_at hl 3 rfl) ?_
        refine s_iadd C dX7_height_18 ?_
        obtain ⟨z4, h5, hf⟩ := bn_some hf
        refine s_callIV (As := [.int (((256 : Int32) * x1) + x3)]) (rest := []) C (c_X7_isEntry l D q h N (((256 : Int32) * x1) + x3) σ z4 h5) ⟨wd_4_188, wd_4_190, wd_s_50, wd_1_10, wd_4_191, cx_X7_isEntry, Nat.le_of_ble_eq_true rfl, Nat.le_of_ble_eq_true rfl⟩ 0 (ci := 7) rfl rfl rfl (SubW.full _ _) rfl hl.1 rfl (Nat.le_of_ble_eq_true rfl) dX7_height_19 (Nat.zero_le _) (Nat.zero_le _) ?_
        refine s_if_eq (tgt := 29) C dX7_height_22 (by decide) (fun c6 => ?_) (fun c6 => ?_)
        · replace hf := it_t c6 hf
          refine s_iload_n C dX7_height_29 rfl (lv_at hl 2 rfl) ?_
          exact b30 _ ih _ _ _ hf _ (lv_sub hl [0, 1, 3] rfl)
        · replace hf := it_f c6 hf
          refine s_iload_n C dX7_height_25 rfl (lv_at hl 3 rfl) ?_
          refine s_goto (tgt := 30) C dX7_height_26 (by decide) ?_
          exact b30 _ ih _ _ _ hf _ (lv_sub hl [0, 1, 3] rfl)
  refine s_iconst (v := (-1 : Int32)) C dX7_height_0 (by decide) ?_
  refine s_istore_n (lv2 := [(2, .int (-1 : Int32)), (0, .ref (h 0)), (1, .int x1)]) C dX7_height_1 rfl hl (by decide) rfl ?_
  intro ls hl
  refine s_iconst (v := (0 : Int32)) C dX7_height_2 (by decide) ?_
  refine s_istore_n (lv2 := [(3, .int (0 : Int32)), (2, .int (-1 : Int32)), (0, .ref (h 0)), (1, .int x1)]) C dX7_height_3 rfl hl (by decide) rfl ?_
  intro ls hl
  exact L4 N _ _ _ hf _ (lv_sub hl [2, 3, 1, 0] rfl)
def pf_X7_isHoled_b37 (N : Nat) (x1 : Int32) (x2 : Int32) (σ : St) : Option (Int32 × St) := (pf_X7_noShadow N x1 σ).bind (fun z7 => bI x1 (3072) (if ((z7.2.1 6) (Int32.toNatClampNeg x1)) = (-1 : Int32) then bZ x2 (some (x2, z7)) else bI x1 (3072) (bI ((z7.2.1 6) (Int32.toNatClampNeg x1)) (512) (lt_ (sA z7 17 (upd (z7.2.1 17) (Int32.toNatClampNeg ((z7.2.1 6) (Int32.toNatClampNeg x1))) (vp_nar .boolean (0 : Int32)))) (fun σ14 => bI x1 (3072) (lt_ (sA σ14 6 (upd (σ14.2.1 6) (Int32.toNatClampNeg x1) (-1 : Int32))) (fun σ17 => bZ x2 (some (x2, σ17)))))))))
def pf_X7_isHoled_b23 (N : Nat) (x1 : Int32) (y0 : Int32) (σ : St) : Option (Int32 × St) := (pf_X7_isIn N x1 σ).bind (fun z4 => if z4 = 0 then pf_X7_isHoled_b37 N x1 y0 σ else (pf_X7_goOut N x1 σ).bind (fun z20 => pf_X7_isHoled_b37 N x1 y0 z20))
def pf_X7_isHoled_b18 (N : Nat) (x1 : Int32) (σ : St) : Option (Int32 × St) := pf_X7_isHoled_b23 N x1 (1 : Int32) σ
def pf_X7_isHoled (N : Nat) (x1 : Int32) (σ : St) : Option (Int32 × St) := (pf_X7_isIn N x1 σ).bind (fun z1 => if z1 = 0 then bI x1 (3072) (if ((σ.2.1 6) (Int32.toNatClampNeg x1)) = (-1 : Int32) then pf_X7_isHoled_b23 N x1 (0 : Int32) σ else pf_X7_isHoled_b18 N x1 σ) else pf_X7_isHoled_b18 N x1 σ)
theorem cx_X7_isHoled : (yX7_isHoled.cls ≠ "java/lang/invoke/MethodHandle" ∧ yX7_isHoled.cls ≠ "java/lang/invoke/VarHandle" ∧ (parseMethodDescriptor yX7_isHoled.desc).map (fun d => d.parameters.length) = some 1) := by decide +kernel
set_option maxHeartbeats 4000000 in
set_option maxRecDepth 100000 in
theorem c_X7_isHoled (l : Launch) (D : va_G) (q : Nat → ClassId) (h : Nat → Nat) (N : Nat) (x1 : Int32) (σ : St) (z : (Int32 × St)) (hf : pf_X7_isHoled N x1 σ = some z) : MI l yX7_isHoled cX7_isHoled 3 (some .boolean) 3 66 D (tyQ q) [.ref (h 0), .int x1] (wM h q σ) (wM h q z.2) z.1 := by
  refine MI.of (by decide) (Nat.le_of_ble_eq_true rfl) ?_
  intro p e s m args below meth c Q A C ret ls hl
  have hl : lv_has ls 3 [(0, .ref (h 0)), (1, .int x1)] := hl
  unfold pf_X7_isHoled at hf
  have b37 : ∀ (x1 : Int32) (x2 : Int32) (σ : St), pf_X7_isHoled_b37 N x1 x2 σ = some z → ∀ ls : Array Slot, lv_has ls 3 [(0, .ref (h 0)), (1, .int x1), (2, .int x2)] → WG p l e (rmO 3 66) s m args below meth c D A 0 0 Q (wM h q σ) (F0 m 37 ls []) := by
    intro x1 x2 σ hf ls hl
    unfold pf_X7_isHoled_b37 at hf
    refine s_aload_n C dX7_isHoled_37 rfl (lv_at hl 0 rfl) ?_
    refine s_iload_n C dX7_isHoled_38 rfl (lv_at hl 1 rfl) ?_
    obtain ⟨z7, h8, hf⟩ := bn_some hf
    refine s_callVV (As := [.int x1]) (rest := []) C (c_X7_noShadow l D q h N x1 σ z7 h8) ⟨wd_4_77, wd_4_79, wd_s_39, wd_1_10, wd_4_80, cx_X7_noShadow, Nat.le_of_ble_eq_true rfl, Nat.le_of_ble_eq_true rfl⟩ 0 (ci := 7) rfl rfl rfl (SubW.full _ _) rfl hl.1 rfl (Nat.le_of_ble_eq_true rfl) dX7_isHoled_39 (Nat.zero_le _) (Nat.zero_le _) ?_
    refine s_aload_n C dX7_isHoled_42 rfl (lv_at hl 0 rfl) ?_
    refine gM_0_7 C wd_3_146 dX7_isHoled_43 ?_
    refine s_iload_n C dX7_isHoled_46 rfl (lv_at hl 1 rfl) ?_
    obtain ⟨hi9, hf⟩ := bI_some hf
    refine ldM_6 C hi9 dX7_isHoled_47 ?_
    refine s_iconst (v := (-1 : Int32)) C dX7_isHoled_48 (by decide) ?_
    refine s_icmp_eq (tgt := 71) C dX7_isHoled_49 (by decide) (fun c10 => ?_) (fun c10 => ?_)
    · replace hf := it_t c10 hf
      refine s_iload_n C dX7_isHoled_71 rfl (lv_at hl 2 rfl) ?_
      obtain ⟨hz11, hf⟩ := bZ_some hf
      exact ret _ _ _ _ dX7_isHoled_72 hz11 (rt_2 hf).1 (congrArg (fun σ => (wM h q σ)) (rt_2 hf).2)
    · replace hf := it_f c10 hf
      refine s_aload_n C dX7_isHoled_52 rfl (lv_at hl 0 rfl) ?_
      refine gM_0_20 C wd_3_159 dX7_isHoled_53 ?_
      refine s_aload_n C dX7_isHoled_56 rfl (lv_at hl 0 rfl) ?_
      refine gM_0_7 C wd_3_146 dX7_isHoled_57 ?_
      refine s_iload_n C dX7_isHoled_60 rfl (lv_at hl 1 rfl) ?_
      obtain ⟨hi12, hf⟩ := bI_some hf
      refine ldM_6 C hi12 dX7_isHoled_61 ?_
      refine s_iconst (v := (0 : Int32)) C dX7_isHoled_62 (by decide) ?_
      obtain ⟨hi13, hf⟩ := bI_some hf
      refine stM_17 C hi13 dX7_isHoled_63 ?_
      obtain ⟨σ14, e15, hf⟩ := lt_some hf
      refine s_w (ws2 := (wM h q σ14)) (by rw [e15]) ?_
      clear e15
      refine s_aload_n C dX7_isHoled_64 rfl (lv_at hl 0 rfl) ?_
      refine gM_0_7 C wd_3_146 dX7_isHoled_65 ?_
      refine s_iload_n C dX7_isHoled_68 rfl (lv_at hl 1 rfl) ?_
      refine s_iconst (v := (-1 : Int32)) C dX7_isHoled_69 (by decide) ?_
      obtain ⟨hi16, hf⟩ := bI_some hf
      refine stM_6 C hi16 dX7_isHoled_70 ?_
      obtain ⟨σ17, e18, hf⟩ := lt_some hf
      refine s_w (ws2 := (wM h q σ17)) (by rw [e18]) ?_
      clear e18
      refine s_iload_n C dX7_isHoled_71 rfl (lv_at hl 2 rfl) ?_
      obtain ⟨hz19, hf⟩ := bZ_some hf
      exact ret _ _ _ _ dX7_isHoled_72 hz19 (rt_2 hf).1 (congrArg (fun σ => (wM h q σ)) (rt_2 hf).2)
  have b23 : ∀ (x1 : Int32) (y0 : Int32) (σ : St), pf_X7_isHoled_b23 N x1 y0 σ = some z → ∀ ls : Array Slot, lv_has ls 3 [(0, .ref (h 0)), (1, .int x1)] → WG p l e (rmO 3 66) s m args below meth c D A 0 0 Q (wM h q σ) (F0 m 23 ls [.int y0]) := by
    intro x1 y0 σ hf ls hl
    unfold pf_X7_isHoled_b23 at hf
    refine s_istore_n (lv2 := [(2, .int y0), (0, .ref (h 0)), (1, .int x1)]) C dX7_isHoled_23 rfl hl (by decide) rfl ?_
    intro ls hl
    refine s_aload_n C dX7_isHoled_24 rfl (lv_at hl 1 rfl) ?_
    refine s_iload_n C dX7_isHoled_25 rfl (lv_at hl 2 rfl) ?_
    obtain ⟨z4, h5, hf⟩ := bn_some hf
    refine s_callIV (As := [.int x1]) (rest := []) C (c_X7_isIn l D q h N x1 σ z4 h5) ⟨wd_4_13, wd_4_15, wd_s_23, wd_1_10, wd_4_16, cx_X7_isIn, Nat.le_of_ble_eq_true rfl, Nat.le_of_ble_eq_true rfl⟩ 0 (ci := 7) rfl rfl rfl (SubW.full _ _) rfl hl.1 rfl (Nat.le_of_ble_eq_true rfl) dX7_isHoled_26 (Nat.zero_le _) (Nat.zero_le _) ?_
    refine s_if_eq (tgt := 37) C dX7_isHoled_29 (by decide) (fun c6 => ?_) (fun c6 => ?_)
    · replace hf := it_t c6 hf
      exact b37 _ _ _ hf _ (lv_sub hl [1, 2, 0] rfl)
    · replace hf := it_f c6 hf
      refine s_aload_n C dX7_isHoled_32 rfl (lv_at hl 1 rfl) ?_
      refine s_iload_n C dX7_isHoled_33 rfl (lv_at hl 2 rfl) ?_
      obtain ⟨z20, h21, hf⟩ := bn_some hf
      refine s_callVV (As := [.int x1]) (rest := []) C (c_X7_goOut l D q h N x1 σ z20 h21) ⟨wd_4_73, wd_4_75, wd_s_38, wd_1_10, wd_4_76, cx_X7_goOut, Nat.le_of_ble_eq_true rfl, Nat.le_of_ble_eq_true rfl⟩ 0 (ci := 7) rfl rfl rfl (SubW.full _ _) rfl hl.1 rfl (Nat.le_of_ble_eq_true rfl) dX7_isHoled_34 (Nat.zero_le _) (Nat.zero_le _) ?_
      exact b37 _ _ _ hf _ (lv_sub hl [1, 2, 0] rfl)
  have b18 : ∀ (x1 : Int32) (σ : St), pf_X7_isHoled_b18 N x1 σ = some z → ∀ ls : Array Slot, lv_has ls 3 [(0, .ref (h 0)), (1, .int x1)] → WG p l e (rmO 3 66) s m args below meth c D A 0 0 Q (wM h q σ) (F0 m 18 ls []) := by
    intro x1 σ hf ls hl
    unfold pf_X7_isHoled_b18 at hf
    refine s_iconst (v := (1 : Int32)) C dX7_isHoled_18 (by decide) ?_
    refine s_goto (tgt := 23) C dX7_isHoled_19 (by decide) ?_
    exact b23 _ _ _ hf _ (lv_sub hl [0, 1] rfl)
  refine s_aload_n C dX7_isHoled_0 rfl (lv_at hl 0 rfl) ?_
  refine s_iload_n C dX7_isHoled_1 rfl (lv_at hl 1 rfl) ?_
  obtain ⟨z1, h2, hf⟩ := bn_some hf
  refine s_callIV (As := [.int x1]) (rest := []) C (c_X7_isIn l D q h N x1 σ z1 h2) ⟨wd_4_13, wd_4_15, wd_s_23, wd_1_10, wd_4_16, cx_X7_isIn, Nat.le_of_ble_eq_true rfl, Nat.le_of_ble_eq_true rfl⟩ 0 (ci := 7) rfl rfl rfl (SubW.full _ _) rfl hl.1 rfl (Nat.le_of_ble_eq_true rfl) dX7_isHoled_2 (Nat.zero_le _) (Nat.zero_le _) ?_
  refine s_if_ne (tgt := 18) C dX7_isHoled_5 (by decide) (fun c3 => ?_) (fun c3 => ?_)
  · replace hf := it_f c3 hf
    exact b18 _ _ hf _ (lv_sub hl [0, 1] rfl)
  · replace hf := it_t c3 hf
    refine s_aload_n C dX7_isHoled_8 rfl (lv_at hl 0 rfl) ?_
    refine gM_0_7 C wd_3_146 dX7_isHoled_9 ?_
    refine s_iload_n C dX7_isHoled_12 rfl (lv_at hl 1 rfl) ?_
    obtain ⟨hi22, hf⟩ := bI_some hf
    refine ldM_6 C hi22 dX7_isHoled_13 ?_
    refine s_iconst (v := (-1 : Int32)) C dX7_isHoled_14 (by decide) ?_
    refine s_icmp_eq (tgt := 22) C dX7_isHoled_15 (by decide) (fun c23 => ?_) (fun c23 => ?_)
    · replace hf := it_t c23 hf
      refine s_iconst (v := (0 : Int32)) C dX7_isHoled_22 (by decide) ?_
      exact b23 _ _ _ hf _ (lv_sub hl [0, 1] rfl)
    · replace hf := it_f c23 hf
      exact b18 _ _ hf _ (lv_sub hl [0, 1] rfl)
def pf_X7_listed_b20 (N : Nat) (σ : St) (x1 : Int32) (x2 : Int32) (y1 : Int32) (y0 : Int32) : Option Int32 := if y0 < y1 then if x1 = 0 then bI x2 (65) (some ((σ.2.1 13) (Int32.toNatClampNeg x2))) else bI x2 (65) (some ((σ.2.1 12) (Int32.toNatClampNeg x2))) else some (-1 : Int32)
def pf_X7_listed (N : Nat) (x1 : Int32) (x2 : Int32) (σ : St) : Option Int32 := if x2 < 0 then some (-1 : Int32) else if x1 = 0 then pf_X7_listed_b20 N σ x1 x2 (σ.1 3) x2  else pf_X7_listed_b20 N σ x1 x2 (σ.1 2) x2 
theorem cx_X7_listed : (yX7_listed.cls ≠ "java/lang/invoke/MethodHandle" ∧ yX7_listed.cls ≠ "java/lang/invoke/VarHandle" ∧ (parseMethodDescriptor yX7_listed.desc).map (fun d => d.parameters.length) = some 2) := by decide +kernel
set_option maxHeartbeats 4000000 in
set_option maxRecDepth 100000 in
theorem c_X7_listed (l : Launch) (D : va_G) (q : Nat → ClassId) (h : Nat → Nat) (N : Nat) (x1 : Int32) (x2 : Int32) (σ : St) (z : Int32) (hf : pf_X7_listed N x1 x2 σ = some z) : MI l yX7_listed cX7_listed 3 (some .int) 0 0 D (tyQ q) [.ref (h 0), .int x1, .int x2] (wM h q σ) (wM h q σ) z := by
  refine MI.of (by decide) (Nat.le_of_ble_eq_true rfl) ?_
  intro p e s m args below meth c Q A C ret ls hl
  have hl : lv_has ls 3 [(0, .ref (h 0)), (1, .int x1), (2, .int x2)] := hl
  unfold pf_X7_listed at hf
  have b20 : ∀ (x1 : Int32) (x2 : Int32) (y1 : Int32) (y0 : Int32), pf_X7_listed_b20 N σ x1 x2 y1 y0 = some z → ∀ ls : Array Slot, lv_has ls 3 [(0, .ref (h 0)), (1, .int x1), (2, .int x2)] → WG p l e (rmO 0 0) s m args below meth c D A 0 0 Q (wM h q σ) (F0 m 20 ls [.int y1, .int y0]) := by
    intro x1 x2 y1 y0 hf ls hl
    unfold pf_X7_listed_b20 at hf
    refine s_icmp_lt (tgt := 25) C dX7_listed_20 (by decide) (fun c3 => ?_) (fun c3 => ?_)
    · replace hf := it_t c3 hf
      refine s_iload_n C dX7_listed_25 rfl (lv_at hl 1 rfl) ?_
      refine s_if_eq (tgt := 38) C dX7_listed_26 (by decide) (fun c4 => ?_) (fun c4 => ?_)
      · replace hf := it_t c4 hf
        refine s_aload_n C dX7_listed_38 rfl (lv_at hl 0 rfl) ?_
        refine gM_0_14 C wd_3_153 dX7_listed_39 ?_
        refine s_iload_n C dX7_listed_42 rfl (lv_at hl 2 rfl) ?_
        obtain ⟨hi5, hf⟩ := bI_some hf
        refine ldM_13 C hi5 dX7_listed_43 ?_
        exact ret _ _ _ _ dX7_listed_44 rfl (rt_1 hf) rfl
      · replace hf := it_f c4 hf
        refine s_aload_n C dX7_listed_29 rfl (lv_at hl 0 rfl) ?_
        refine gM_0_13 C wd_3_152 dX7_listed_30 ?_
        refine s_iload_n C dX7_listed_33 rfl (lv_at hl 2 rfl) ?_
        obtain ⟨hi6, hf⟩ := bI_some hf
        refine ldM_12 C hi6 dX7_listed_34 ?_
        refine s_goto (tgt := 44) C dX7_listed_35 (by decide) ?_
        exact ret _ _ _ _ dX7_listed_44 rfl (rt_1 hf) rfl
    · replace hf := it_f c3 hf
      refine s_iconst (v := (-1 : Int32)) C dX7_listed_23 (by decide) ?_
      exact ret _ _ _ _ dX7_listed_24 rfl (rt_1 hf) rfl
  refine s_iload_n C dX7_listed_0 rfl (lv_at hl 2 rfl) ?_
  refine s_if_lt (tgt := 23) C dX7_listed_1 (by decide) (fun c1 => ?_) (fun c1 => ?_)
  · replace hf := it_t c1 hf
    refine s_iconst (v := (-1 : Int32)) C dX7_listed_23 (by decide) ?_
    exact ret _ _ _ _ dX7_listed_24 rfl (rt_1 hf) rfl
  · replace hf := it_f c1 hf
    refine s_iload_n C dX7_listed_4 rfl (lv_at hl 2 rfl) ?_
    refine s_iload_n C dX7_listed_5 rfl (lv_at hl 1 rfl) ?_
    refine s_if_eq (tgt := 16) C dX7_listed_6 (by decide) (fun c2 => ?_) (fun c2 => ?_)
    · replace hf := it_t c2 hf
      refine s_aload_n C dX7_listed_16 rfl (lv_at hl 0 rfl) ?_
      refine gM_0_16 C wd_3_155 dX7_listed_17 ?_
      exact b20 _ _ _ _ hf _ (lv_sub hl [0, 1, 2] rfl)
    · replace hf := it_f c2 hf
      refine s_aload_n C dX7_listed_9 rfl (lv_at hl 0 rfl) ?_
      refine gM_0_15 C wd_3_154 dX7_listed_10 ?_
      refine s_goto (tgt := 20) C dX7_listed_13 (by decide) ?_
      exact b20 _ _ _ _ hf _ (lv_sub hl [0, 1, 2] rfl)
def pf_X7_next_b59 (N : Nat) (σ : St) (x4 : Int32) : Option Int32 := if (256 : Int32) ≤ x4 then some (-1 : Int32) else some x4
def pf_X7_next_L29 (N : Nat) (σ : St) : Nat → Int32 → Int32 → Int32 → Option Int32
  | 0, _, _, _ => none
  | n + 1, x1, x3, x4 => if (256 : Int32) ≤ x4 then pf_X7_next_b59 N σ x4  else (pf_X7_hasMark N (((256 : Int32) * x1) + x4) x3 σ).bind (fun z11 => if z11 = 0 then (pf_X7_next_L29 N σ n) x1 x3 (x4 + 1)  else pf_X7_next_b59 N σ x4 )
def pf_X7_next (N : Nat) (x1 : Int32) (x2 : Int32) (x3 : Int32) (σ : St) : Option Int32 := (pf_X7_isFile N x1).bind (fun z1 => if z1 = 0 then some (-2 : Int32) else (pf_X7_isPage N x2).bind (fun z4 => if z4 = 0 then some (-2 : Int32) else if x3 < 0 then some (-2 : Int32) else if x3 ≤ (4 : Int32) then pf_X7_next_L29 N σ N x1 x3 x2  else some (-2 : Int32)))
theorem cx_X7_next : (yX7_next.cls ≠ "java/lang/invoke/MethodHandle" ∧ yX7_next.cls ≠ "java/lang/invoke/VarHandle" ∧ (parseMethodDescriptor yX7_next.desc).map (fun d => d.parameters.length) = some 3) := by decide +kernel
set_option maxHeartbeats 4000000 in
set_option maxRecDepth 100000 in
theorem c_X7_next (l : Launch) (D : va_G) (q : Nat → ClassId) (h : Nat → Nat) (N : Nat) (x1 : Int32) (x2 : Int32) (x3 : Int32) (σ : St) (z : Int32) (hf : pf_X7_next N x1 x2 x3 σ = some z) : MI l yX7_next cX7_next 5 (some .int) 2 43 D (tyQ q) [.ref (h 0), .int x1, .int x2, .int x3] (wM h q σ) (wM h q σ) z := by
  refine MI.of (by decide) (Nat.le_of_ble_eq_true rfl) ?_
  intro p e s m args below meth c Q A C ret ls hl
  have hl : lv_has ls 5 [(0, .ref (h 0)), (1, .int x1), (2, .int x2), (3, .int x3)] := hl
  unfold pf_X7_next at hf
  have b59 : ∀ (x4 : Int32), pf_X7_next_b59 N σ x4 = some z → ∀ ls : Array Slot, lv_has ls 5 [(4, .int x4)] → WG p l e (rmO 2 43) s m args below meth c D A 0 0 Q (wM h q σ) (F0 m 59 ls []) := by
    intro x4 hf ls hl
    unfold pf_X7_next_b59 at hf
    refine s_iload C dX7_next_59 (lv_at hl 0 rfl) ?_
    refine s_sipush (v := (256 : Int32)) C dX7_next_61 (by decide) ?_
    refine s_icmp_ge (tgt := 72) C dX7_next_64 (by decide) (fun c10 => ?_) (fun c10 => ?_)
    · replace hf := it_t c10 hf
      refine s_iconst (v := (-1 : Int32)) C dX7_next_72 (by decide) ?_
      exact ret _ _ _ _ dX7_next_73 rfl (rt_1 hf) rfl
    · replace hf := it_f c10 hf
      refine s_iload C dX7_next_67 (lv_at hl 0 rfl) ?_
      refine s_goto (tgt := 73) C dX7_next_69 (by decide) ?_
      exact ret _ _ _ _ dX7_next_73 rfl (rt_1 hf) rfl
  have L29 : ∀ (n : Nat) (x1 : Int32) (x3 : Int32) (x4 : Int32), pf_X7_next_L29 N σ n x1 x3 x4 = some z → ∀ ls : Array Slot, lv_has ls 5 [(0, .ref (h 0)), (1, .int x1), (3, .int x3), (4, .int x4)] → WG p l e (rmO 2 43) s m args below meth c D A 0 0 Q (wM h q σ) (F0 m 29 ls []) := by
    intro n
    induction n with
    | zero => intro x1 x3 x4 hf; unfold pf_X7_next_L29 at hf; cases hf
    | succ n ih =>
      intro x1 x3 x4 hf ls hl
      unfold pf_X7_next_L29 at hf
      refine s_iload C dX7_next_29 (lv_at hl 3 rfl) ?_
      refine s_sipush (v := (256 : Int32)) C dX7_next_31 (by decide) ?_
      refine s_icmp_ge (tgt := 59) C dX7_next_34 (by decide) (fun c9 => ?_) (fun c9 => ?_)
      · replace hf := it_t c9 hf
        exact b59 _ hf _ (lv_sub hl [3] rfl)
      · replace hf := it_f c9 hf
        refine s_aload_n C dX7_next_37 rfl (lv_at hl 0 rfl) ?_
        refine s_sipush (v := (256 : Int32)) C dX7_next_38 (by decide) ?_
        refine s_iload_n C dX7_next_41 rfl (lv_at hl 1 rfl) ?_
        refine s_imul C dX7_next_42 ?_
        refine s_iload C dX7_next_43 (lv_at hl 3 rfl) ?_
        refine s_iadd C dX7_next_45 ?_
        refine s_iload_n C dX7_next_46 rfl (lv_at hl 2 rfl) ?_
        obtain ⟨z11, h12, hf⟩ := bn_some hf
        refine s_callIV (As := [.int (((256 : Int32) * x1) + x4), .int x3]) (rest := []) C (c_X7_hasMark l D q h N (((256 : Int32) * x1) + x4) x3 σ z11 h12) ⟨wd_4_176, wd_4_178, wd_s_48, wd_1_10, wd_4_179, cx_X7_hasMark, Nat.le_of_ble_eq_true rfl, Nat.le_of_ble_eq_true rfl⟩ 0 (ci := 7) rfl rfl rfl (SubW.full _ _) rfl hl.1 rfl (Nat.le_of_ble_eq_true rfl) dX7_next_47 (Nat.zero_le _) (Nat.zero_le _) ?_
        refine s_if_ne (tgt := 59) C dX7_next_50 (by decide) (fun c13 => ?_) (fun c13 => ?_)
        · replace hf := it_f c13 hf
          exact b59 _ hf _ (lv_sub hl [3] rfl)
        · replace hf := it_t c13 hf
          refine s_iinc (v := (x4 + 1)) (lv2 := [(4, .int (x4 + 1)), (0, .ref (h 0)), (1, .int x1), (3, .int x3)]) C 3 dX7_next_53 hl rfl rfl (by decide) rfl ?_
          intro ls hl
          refine s_goto (tgt := 29) C dX7_next_56 (by decide) ?_
          exact ih _ _ _ hf _ (lv_sub hl [1, 2, 3, 0] rfl)
  refine s_iload_n C dX7_next_0 rfl (lv_at hl 1 rfl) ?_
  obtain ⟨z1, h2, hf⟩ := bn_some hf
  refine s_callIS (As := [.int x1]) (rest := []) C (c_X7_isFile l D q (wM h q σ) N x1  z1 h2) ⟨wd_4_10, wd_4_11, wd_1_10, wd_4_12, cx_X7_isFile, Nat.le_of_ble_eq_true rfl, Nat.le_of_ble_eq_true rfl⟩ (SubW.full _ _) rfl hl.1 rfl (Nat.le_of_ble_eq_true rfl) dX7_next_1 (Nat.zero_le _) (Nat.zero_le _) ?_
  refine s_if_eq (tgt := 23) C dX7_next_4 (by decide) (fun c3 => ?_) (fun c3 => ?_)
  · replace hf := it_t c3 hf
    refine s_bipush (v := (-2 : Int32)) C dX7_next_23 (by decide) ?_
    exact ret _ _ _ _ dX7_next_25 rfl (rt_1 hf) rfl
  · replace hf := it_f c3 hf
    refine s_iload_n C dX7_next_7 rfl (lv_at hl 2 rfl) ?_
    obtain ⟨z4, h5, hf⟩ := bn_some hf
    refine s_callIS (As := [.int x2]) (rest := []) C (c_X7_isPage l D q (wM h q σ) N x2  z4 h5) ⟨wd_4_129, wd_4_130, wd_1_10, wd_4_131, cx_X7_isPage, Nat.le_of_ble_eq_true rfl, Nat.le_of_ble_eq_true rfl⟩ (SubW.full _ _) rfl hl.1 rfl (Nat.le_of_ble_eq_true rfl) dX7_next_8 (Nat.zero_le _) (Nat.zero_le _) ?_
    refine s_if_eq (tgt := 23) C dX7_next_11 (by decide) (fun c6 => ?_) (fun c6 => ?_)
    · replace hf := it_t c6 hf
      refine s_bipush (v := (-2 : Int32)) C dX7_next_23 (by decide) ?_
      exact ret _ _ _ _ dX7_next_25 rfl (rt_1 hf) rfl
    · replace hf := it_f c6 hf
      refine s_iload_n C dX7_next_14 rfl (lv_at hl 3 rfl) ?_
      refine s_if_lt (tgt := 23) C dX7_next_15 (by decide) (fun c7 => ?_) (fun c7 => ?_)
      · replace hf := it_t c7 hf
        refine s_bipush (v := (-2 : Int32)) C dX7_next_23 (by decide) ?_
        exact ret _ _ _ _ dX7_next_25 rfl (rt_1 hf) rfl
      · replace hf := it_f c7 hf
        refine s_iload_n C dX7_next_18 rfl (lv_at hl 3 rfl) ?_
        refine s_iconst (v := (4 : Int32)) C dX7_next_19 (by decide) ?_
        refine s_icmp_le (tgt := 26) C dX7_next_20 (by decide) (fun c8 => ?_) (fun c8 => ?_)
        · replace hf := it_t c8 hf
          refine s_iload_n C dX7_next_26 rfl (lv_at hl 2 rfl) ?_
          refine s_istore (lv2 := [(4, .int x2), (0, .ref (h 0)), (1, .int x1), (2, .int x2), (3, .int x3)]) C dX7_next_27 hl (by decide) rfl ?_
          intro ls hl
          exact L29 N _ _ _ hf _ (lv_sub hl [1, 2, 4, 0] rfl)
        · replace hf := it_f c8 hf
          refine s_bipush (v := (-2 : Int32)) C dX7_next_23 (by decide) ?_
          exact ret _ _ _ _ dX7_next_25 rfl (rt_1 hf) rfl
def pf_X7_nodes_b69 (N : Nat) (σ : St) (J11 : Int32 → Int32 → Int32 → Int32 → Option Int32) (J23 : Int32 → Int32 → Int32 → Int32 → Int32 → Int32 → Option Int32) (x1 : Int32) (x2 : Int32) (x3 : Int32) (x4 : Int32) (x5 : Int32) (x6 : Int32) : Option Int32 := J23 x1 x2 x3 x4 x5 (x6 + 1) 
def pf_X7_nodes_L23 (N : Nat) (σ : St) (J11 : Int32 → Int32 → Int32 → Int32 → Option Int32) : Nat → Int32 → Int32 → Int32 → Int32 → Int32 → Int32 → Option Int32
  | 0, _, _, _, _, _, _ => none
  | n + 1, x1, x2, x3, x4, x5, x6 => if (256 : Int32) ≤ x6 then J11 x1 x2 x3 (x4 + 1)  else lt_ (x6 >>> (((2 : Int32) * x4) &&& 31)) (fun v5 => (pf_X7_isEntry N (((256 : Int32) * x1) + x6) σ).bind (fun z7 => if z7 = 0 then pf_X7_nodes_b69 N σ J11 (pf_X7_nodes_L23 N σ J11 n) x1 x2 x3 x4 x5 x6  else if v5 = x5 then pf_X7_nodes_b69 N σ J11 (pf_X7_nodes_L23 N σ J11 n) x1 x2 x3 x4 x5 x6  else pf_X7_nodes_b69 N σ J11 (pf_X7_nodes_L23 N σ J11 n) x1 (x2 + 1) x3 x4 v5 x6 ))
def pf_X7_nodes_L11 (N : Nat) (σ : St) : Nat → Int32 → Int32 → Int32 → Int32 → Option Int32
  | 0, _, _, _, _ => none
  | n + 1, x1, x2, x3, x4 => if x3 < x4 then some x2 else pf_X7_nodes_L23 N σ (pf_X7_nodes_L11 N σ n) N x1 x2 x3 x4 (-1 : Int32) (0 : Int32) 
def pf_X7_nodes (N : Nat) (x1 : Int32) (σ : St) : Option Int32 := (pf_X7_height N x1 σ).bind (fun z1 => pf_X7_nodes_L11 N σ N x1 (0 : Int32) z1 (1 : Int32) )
theorem cx_X7_nodes : (yX7_nodes.cls ≠ "java/lang/invoke/MethodHandle" ∧ yX7_nodes.cls ≠ "java/lang/invoke/VarHandle" ∧ (parseMethodDescriptor yX7_nodes.desc).map (fun d => d.parameters.length) = some 1) := by decide +kernel
set_option maxHeartbeats 4000000 in
set_option maxRecDepth 100000 in
theorem c_X7_nodes (l : Launch) (D : va_G) (q : Nat → ClassId) (h : Nat → Nat) (N : Nat) (x1 : Int32) (σ : St) (z : Int32) (hf : pf_X7_nodes N x1 σ = some z) : MI l yX7_nodes cX7_nodes 8 (some .int) 3 65 D (tyQ q) [.ref (h 0), .int x1] (wM h q σ) (wM h q σ) z := by
  refine MI.of (by decide) (Nat.le_of_ble_eq_true rfl) ?_
  intro p e s m args below meth c Q A C ret ls hl
  have hl : lv_has ls 8 [(0, .ref (h 0)), (1, .int x1)] := hl
  unfold pf_X7_nodes at hf
  have b69 : ∀ (J11 : Int32 → Int32 → Int32 → Int32 → Option Int32) (J23 : Int32 → Int32 → Int32 → Int32 → Int32 → Int32 → Option Int32) (hJ11 : ∀ (x1 : Int32) (x2 : Int32) (x3 : Int32) (x4 : Int32), J11 x1 x2 x3 x4 = some z → ∀ ls : Array Slot, lv_has ls 8 [(0, .ref (h 0)), (1, .int x1), (2, .int x2), (3, .int x3), (4, .int x4)] → WG p l e (rmO 3 65) s m args below meth c D A 0 0 Q (wM h q σ) (F0 m 11 ls [])) (hJ23 : ∀ (x1 : Int32) (x2 : Int32) (x3 : Int32) (x4 : Int32) (x5 : Int32) (x6 : Int32), J23 x1 x2 x3 x4 x5 x6 = some z → ∀ ls : Array Slot, lv_has ls 8 [(0, .ref (h 0)), (1, .int x1), (2, .int x2), (3, .int x3), (4, .int x4), (5, .int x5), (6, .int x6)] → WG p l e (rmO 3 65) s m args below meth c D A 0 0 Q (wM h q σ) (F0 m 23 ls [])) (x1 : Int32) (x2 : Int32) (x3 : Int32) (x4 : Int32) (x5 : Int32) (x6 : Int32), pf_X7_nodes_b69 N σ J11 J23 x1 x2 x3 x4 x5 x6 = some z → ∀ ls : Array Slot, lv_has ls 8 [(0, .ref (h 0)), (1, .int x1), (2, .int x2), (3, .int x3), (4, .int x4), (5, .int x5), (6, .int x6)] → WG p l e (rmO 3 65) s m args below meth c D A 0 0 Q (wM h q σ) (F0 m 69 ls []) := by
    intro J11 J23 hJ11 hJ23 x1 x2 x3 x4 x5 x6 hf ls hl
    unfold pf_X7_nodes_b69 at hf
    refine s_iinc (v := (x6 + 1)) (lv2 := [(6, .int (x6 + 1)), (0, .ref (h 0)), (1, .int x1), (2, .int x2), (3, .int x3), (4, .int x4), (5, .int x5)]) C 6 dX7_nodes_69 hl rfl rfl (by decide) rfl ?_
    intro ls hl
    refine s_goto (tgt := 23) C dX7_nodes_72 (by decide) ?_
    exact hJ23 _ _ _ _ _ _ hf _ (lv_sub hl [1, 2, 3, 4, 5, 6, 0] rfl)
  have L23 : ∀ (J11 : Int32 → Int32 → Int32 → Int32 → Option Int32) (hJ11 : ∀ (x1 : Int32) (x2 : Int32) (x3 : Int32) (x4 : Int32), J11 x1 x2 x3 x4 = some z → ∀ ls : Array Slot, lv_has ls 8 [(0, .ref (h 0)), (1, .int x1), (2, .int x2), (3, .int x3), (4, .int x4)] → WG p l e (rmO 3 65) s m args below meth c D A 0 0 Q (wM h q σ) (F0 m 11 ls [])) (n : Nat) (x1 : Int32) (x2 : Int32) (x3 : Int32) (x4 : Int32) (x5 : Int32) (x6 : Int32), pf_X7_nodes_L23 N σ J11 n x1 x2 x3 x4 x5 x6 = some z → ∀ ls : Array Slot, lv_has ls 8 [(0, .ref (h 0)), (1, .int x1), (2, .int x2), (3, .int x3), (4, .int x4), (5, .int x5), (6, .int x6)] → WG p l e (rmO 3 65) s m args below meth c D A 0 0 Q (wM h q σ) (F0 m 23 ls []) := by
    intro J11 hJ11 n
    induction n with
    | zero => intro x1 x2 x3 x4 x5 x6 hf; unfold pf_X7_nodes_L23 at hf; cases hf
    | succ n ih =>
      intro x1 x2 x3 x4 x5 x6 hf ls hl
      unfold pf_X7_nodes_L23 at hf
      refine s_iload C dX7_nodes_23 (lv_at hl 6 rfl) ?_
      refine s_sipush (v := (256 : Int32)) C dX7_nodes_25 (by decide) ?_
      refine s_icmp_ge (tgt := 75) C dX7_nodes_28 (by decide) (fun c4 => ?_) (fun c4 => ?_)
      · replace hf := it_t c4 hf
        refine s_iinc (v := (x4 + 1)) (lv2 := [(4, .int (x4 + 1)), (0, .ref (h 0)), (1, .int x1), (2, .int x2), (3, .int x3), (5, .int x5), (6, .int x6)]) C 4 dX7_nodes_75 hl rfl rfl (by decide) rfl ?_
        intro ls hl
        refine s_goto (tgt := 11) C dX7_nodes_78 (by decide) ?_
        exact hJ11 _ _ _ _ hf _ (lv_sub hl [1, 2, 3, 4, 0] rfl)
      · replace hf := it_f c4 hf
        refine s_iload C dX7_nodes_31 (lv_at hl 6 rfl) ?_
        refine s_iconst (v := (2 : Int32)) C dX7_nodes_33 (by decide) ?_
        refine s_iload C dX7_nodes_34 (lv_at hl 4 rfl) ?_
        refine s_imul C dX7_nodes_36 ?_
        refine s_ishr C dX7_nodes_37 ?_
        obtain ⟨v5, e6, hf⟩ := lt_some hf
        refine s_eq (g2 := F0 m 38 ls [.int v5]) (by rw [e6]) ?_
        clear e6
        refine s_istore (lv2 := [(7, .int v5), (0, .ref (h 0)), (1, .int x1), (2, .int x2), (3, .int x3), (4, .int x4), (5, .int x5), (6, .int x6)]) C dX7_nodes_38 hl (by decide) rfl ?_
        intro ls hl
        refine s_aload_n C dX7_nodes_40 rfl (lv_at hl 1 rfl) ?_
        refine s_sipush (v := (256 : Int32)) C dX7_nodes_41 (by decide) ?_
        refine s_iload_n C dX7_nodes_44 rfl (lv_at hl 2 rfl) ?_
        refine s_imul C dX7_nodes_45 ?_
        refine s_iload C dX7_nodes_46 (lv_at hl 7 rfl) ?_
        refine s_iadd C dX7_nodes_48 ?_
        obtain ⟨z7, h8, hf⟩ := bn_some hf
        refine s_callIV (As := [.int (((256 : Int32) * x1) + x6)]) (rest := []) C (c_X7_isEntry l D q h N (((256 : Int32) * x1) + x6) σ z7 h8) ⟨wd_4_188, wd_4_190, wd_s_50, wd_1_10, wd_4_191, cx_X7_isEntry, Nat.le_of_ble_eq_true rfl, Nat.le_of_ble_eq_true rfl⟩ 0 (ci := 7) rfl rfl rfl (SubW.full _ _) rfl hl.1 rfl (Nat.le_of_ble_eq_true rfl) dX7_nodes_49 (Nat.zero_le _) (Nat.zero_le _) ?_
        refine s_if_eq (tgt := 69) C dX7_nodes_52 (by decide) (fun c9 => ?_) (fun c9 => ?_)
        · replace hf := it_t c9 hf
          exact b69 _ _ hJ11 ih _ _ _ _ _ _ hf _ (lv_sub hl [1, 2, 3, 4, 5, 6, 7] rfl)
        · replace hf := it_f c9 hf
          refine s_iload C dX7_nodes_55 (lv_at hl 0 rfl) ?_
          refine s_iload C dX7_nodes_57 (lv_at hl 6 rfl) ?_
          refine s_icmp_eq (tgt := 69) C dX7_nodes_59 (by decide) (fun c10 => ?_) (fun c10 => ?_)
          · replace hf := it_t c10 hf
            exact b69 _ _ hJ11 ih _ _ _ _ _ _ hf _ (lv_sub hl [1, 2, 3, 4, 5, 6, 7] rfl)
          · replace hf := it_f c10 hf
            refine s_iinc (v := (x2 + 1)) (lv2 := [(2, .int (x2 + 1)), (7, .int v5), (0, .ref (h 0)), (1, .int x1), (3, .int x3), (4, .int x4), (5, .int x5), (6, .int x6)]) C 3 dX7_nodes_62 hl rfl rfl (by decide) rfl ?_
            intro ls hl
            refine s_iload C dX7_nodes_65 (lv_at hl 1 rfl) ?_
            refine s_istore (lv2 := [(5, .int v5), (2, .int (x2 + 1)), (7, .int v5), (0, .ref (h 0)), (1, .int x1), (3, .int x3), (4, .int x4), (6, .int x6)]) C dX7_nodes_67 hl (by decide) rfl ?_
            intro ls hl
            exact b69 _ _ hJ11 ih _ _ _ _ _ _ hf _ (lv_sub hl [3, 4, 1, 5, 6, 0, 7] rfl)
  have L11 : ∀ (n : Nat) (x1 : Int32) (x2 : Int32) (x3 : Int32) (x4 : Int32), pf_X7_nodes_L11 N σ n x1 x2 x3 x4 = some z → ∀ ls : Array Slot, lv_has ls 8 [(0, .ref (h 0)), (1, .int x1), (2, .int x2), (3, .int x3), (4, .int x4)] → WG p l e (rmO 3 65) s m args below meth c D A 0 0 Q (wM h q σ) (F0 m 11 ls []) := by
    intro n
    induction n with
    | zero => intro x1 x2 x3 x4 hf; unfold pf_X7_nodes_L11 at hf; cases hf
    | succ n ih =>
      intro x1 x2 x3 x4 hf ls hl
      unfold pf_X7_nodes_L11 at hf
      refine s_iload C dX7_nodes_11 (lv_at hl 4 rfl) ?_
      refine s_iload_n C dX7_nodes_13 rfl (lv_at hl 3 rfl) ?_
      refine s_icmp_gt (tgt := 81) C dX7_nodes_14 (by decide) (fun c3 => ?_) (fun c3 => ?_)
      · replace hf := it_t c3 hf
        refine s_iload_n C dX7_nodes_81 rfl (lv_at hl 2 rfl) ?_
        exact ret _ _ _ _ dX7_nodes_82 rfl (rt_1 hf) rfl
      · replace hf := it_f c3 hf
        refine s_iconst (v := (-1 : Int32)) C dX7_nodes_17 (by decide) ?_
        refine s_istore (lv2 := [(5, .int (-1 : Int32)), (0, .ref (h 0)), (1, .int x1), (2, .int x2), (3, .int x3), (4, .int x4)]) C dX7_nodes_18 hl (by decide) rfl ?_
        intro ls hl
        refine s_iconst (v := (0 : Int32)) C dX7_nodes_20 (by decide) ?_
        refine s_istore (lv2 := [(6, .int (0 : Int32)), (5, .int (-1 : Int32)), (0, .ref (h 0)), (1, .int x1), (2, .int x2), (3, .int x3), (4, .int x4)]) C dX7_nodes_21 hl (by decide) rfl ?_
        intro ls hl
        exact L23 _ ih N _ _ _ _ _ _ hf _ (lv_sub hl [2, 3, 4, 5, 6, 1, 0] rfl)
  refine s_iconst (v := (0 : Int32)) C dX7_nodes_0 (by decide) ?_
  refine s_istore_n (lv2 := [(2, .int (0 : Int32)), (0, .ref (h 0)), (1, .int x1)]) C dX7_nodes_1 rfl hl (by decide) rfl ?_
  intro ls hl
  refine s_aload_n C dX7_nodes_2 rfl (lv_at hl 1 rfl) ?_
  refine s_iload_n C dX7_nodes_3 rfl (lv_at hl 2 rfl) ?_
  obtain ⟨z1, h2, hf⟩ := bn_some hf
  refine s_callIV (As := [.int x1]) (rest := []) C (c_X7_height l D q h N x1 σ z1 h2) ⟨wd_4_184, wd_4_186, wd_s_49, wd_1_10, wd_4_187, cx_X7_height, Nat.le_of_ble_eq_true rfl, Nat.le_of_ble_eq_true rfl⟩ 0 (ci := 7) rfl rfl rfl (SubW.full _ _) rfl hl.1 rfl (Nat.le_of_ble_eq_true rfl) dX7_nodes_4 (Nat.zero_le _) (Nat.zero_le _) ?_
  refine s_istore_n (lv2 := [(3, .int z1), (2, .int (0 : Int32)), (0, .ref (h 0)), (1, .int x1)]) C dX7_nodes_7 rfl hl (by decide) rfl ?_
  intro ls hl
  refine s_iconst (v := (1 : Int32)) C dX7_nodes_8 (by decide) ?_
  refine s_istore (lv2 := [(4, .int (1 : Int32)), (3, .int z1), (2, .int (0 : Int32)), (0, .ref (h 0)), (1, .int x1)]) C dX7_nodes_9 hl (by decide) rfl ?_
  intro ls hl
  exact L11 N _ _ _ _ hf _ (lv_sub hl [3, 4, 2, 1, 0] rfl)
def pf_X7_page (N : Nat) (x1 : Int32) (x2 : Int32) (x3 : Int32) (σ : St) : Option Int32 := (pf_X7_isFile N x1).bind (fun z1 => if z1 = 0 then some (-2 : Int32) else (pf_X7_isPage N x2).bind (fun z4 => if z4 = 0 then some (-2 : Int32) else if x3 < 0 then some (-2 : Int32) else if x3 ≤ (7 : Int32) then lt_ (((256 : Int32) * x1) + x2) (fun v9 => if x3 = (0 : Int32) then bI v9 (3072) (some ((σ.2.1 5) (Int32.toNatClampNeg v9))) else if x3 = (1 : Int32) then bI v9 (3072) (some ((σ.2.1 6) (Int32.toNatClampNeg v9))) else if x3 = (2 : Int32) then bI v9 (3072) (some ((σ.2.1 7) (Int32.toNatClampNeg v9))) else if x3 = (3 : Int32) then bI v9 (3072) (if ((σ.2.1 8) (Int32.toNatClampNeg v9)) ≤ 0 then some (-1 : Int32) else bI v9 (3072) (some ((σ.2.1 8) (Int32.toNatClampNeg v9)))) else if x3 = (4 : Int32) then (pf_X7_isIn N v9 σ).bind (fun z22 => if z22 = 0 then some (-1 : Int32) else (pf_X7_placeOf N v9 σ).bind (fun z25 => some z25)) else if x3 = (5 : Int32) then bI v9 (3072) (if ((σ.2.1 9) (Int32.toNatClampNeg v9)) = 0 then some (0 : Int32) else some (1 : Int32)) else if x3 = (6 : Int32) then bI v9 (3072) (if ((σ.2.1 10) (Int32.toNatClampNeg v9)) = 0 then some (0 : Int32) else some (1 : Int32)) else (pf_X7_isIn N v9 σ).bind (fun z33 => if z33 = 0 then some (0 : Int32) else bI v9 (3072) (if ((σ.2.1 11) (Int32.toNatClampNeg v9)) = 0 then some (0 : Int32) else some (1 : Int32)))) else some (-2 : Int32)))
theorem cx_X7_page : (yX7_page.cls ≠ "java/lang/invoke/MethodHandle" ∧ yX7_page.cls ≠ "java/lang/invoke/VarHandle" ∧ (parseMethodDescriptor yX7_page.desc).map (fun d => d.parameters.length) = some 3) := by decide +kernel
set_option maxHeartbeats 4000000 in
set_option maxRecDepth 100000 in
theorem c_X7_page (l : Launch) (D : va_G) (q : Nat → ClassId) (h : Nat → Nat) (N : Nat) (x1 : Int32) (x2 : Int32) (x3 : Int32) (σ : St) (z : Int32) (hf : pf_X7_page N x1 x2 x3 σ = some z) : MI l yX7_page cX7_page 5 (some .int) 1 22 D (tyQ q) [.ref (h 0), .int x1, .int x2, .int x3] (wM h q σ) (wM h q σ) z := by
  refine MI.of (by decide) (Nat.le_of_ble_eq_true rfl) ?_
  intro p e s m args below meth c Q A C ret ls hl
  have hl : lv_has ls 5 [(0, .ref (h 0)), (1, .int x1), (2, .int x2), (3, .int x3)] := hl
  unfold pf_X7_page at hf
  refine s_iload_n C dX7_page_0 rfl (lv_at hl 1 rfl) ?_
  obtain ⟨z1, h2, hf⟩ := bn_some hf
  refine s_callIS (As := [.int x1]) (rest := []) C (c_X7_isFile l D q (wM h q σ) N x1  z1 h2) ⟨wd_4_10, wd_4_11, wd_1_10, wd_4_12, cx_X7_isFile, Nat.le_of_ble_eq_true rfl, Nat.le_of_ble_eq_true rfl⟩ (SubW.full _ _) rfl hl.1 rfl (Nat.le_of_ble_eq_true rfl) dX7_page_1 (Nat.zero_le _) (Nat.zero_le _) ?_
  refine s_if_eq (tgt := 24) C dX7_page_4 (by decide) (fun c3 => ?_) (fun c3 => ?_)
  · replace hf := it_t c3 hf
    refine s_bipush (v := (-2 : Int32)) C dX7_page_24 (by decide) ?_
    exact ret _ _ _ _ dX7_page_26 rfl (rt_1 hf) rfl
  · replace hf := it_f c3 hf
    refine s_iload_n C dX7_page_7 rfl (lv_at hl 2 rfl) ?_
    obtain ⟨z4, h5, hf⟩ := bn_some hf
    refine s_callIS (As := [.int x2]) (rest := []) C (c_X7_isPage l D q (wM h q σ) N x2  z4 h5) ⟨wd_4_129, wd_4_130, wd_1_10, wd_4_131, cx_X7_isPage, Nat.le_of_ble_eq_true rfl, Nat.le_of_ble_eq_true rfl⟩ (SubW.full _ _) rfl hl.1 rfl (Nat.le_of_ble_eq_true rfl) dX7_page_8 (Nat.zero_le _) (Nat.zero_le _) ?_
    refine s_if_eq (tgt := 24) C dX7_page_11 (by decide) (fun c6 => ?_) (fun c6 => ?_)
    · replace hf := it_t c6 hf
      refine s_bipush (v := (-2 : Int32)) C dX7_page_24 (by decide) ?_
      exact ret _ _ _ _ dX7_page_26 rfl (rt_1 hf) rfl
    · replace hf := it_f c6 hf
      refine s_iload_n C dX7_page_14 rfl (lv_at hl 3 rfl) ?_
      refine s_if_lt (tgt := 24) C dX7_page_15 (by decide) (fun c7 => ?_) (fun c7 => ?_)
      · replace hf := it_t c7 hf
        refine s_bipush (v := (-2 : Int32)) C dX7_page_24 (by decide) ?_
        exact ret _ _ _ _ dX7_page_26 rfl (rt_1 hf) rfl
      · replace hf := it_f c7 hf
        refine s_iload_n C dX7_page_18 rfl (lv_at hl 3 rfl) ?_
        refine s_bipush (v := (7 : Int32)) C dX7_page_19 (by decide) ?_
        refine s_icmp_le (tgt := 27) C dX7_page_21 (by decide) (fun c8 => ?_) (fun c8 => ?_)
        · replace hf := it_t c8 hf
          refine s_sipush (v := (256 : Int32)) C dX7_page_27 (by decide) ?_
          refine s_iload_n C dX7_page_30 rfl (lv_at hl 1 rfl) ?_
          refine s_imul C dX7_page_31 ?_
          refine s_iload_n C dX7_page_32 rfl (lv_at hl 2 rfl) ?_
          refine s_iadd C dX7_page_33 ?_
          obtain ⟨v9, e10, hf⟩ := lt_some hf
          refine s_eq (g2 := F0 m 34 ls [.int v9]) (by rw [e10]) ?_
          clear e10
          refine s_istore (lv2 := [(4, .int v9), (0, .ref (h 0)), (1, .int x1), (2, .int x2), (3, .int x3)]) C dX7_page_34 hl (by decide) rfl ?_
          intro ls hl
          refine s_iload_n C dX7_page_36 rfl (lv_at hl 4 rfl) ?_
          by_cases c11 : x3 = (0 : Int32)
          · replace hf := it_t c11 hf
            refine s_tblI (tgt := 80) C dX7_page_37 c11 (by decide) (by decide) rfl (by decide) ?_
            refine s_aload_n C dX7_page_80 rfl (lv_at hl 1 rfl) ?_
            refine gM_0_6 C wd_3_145 dX7_page_81 ?_
            refine s_iload C dX7_page_84 (lv_at hl 0 rfl) ?_
            obtain ⟨hi12, hf⟩ := bI_some hf
            refine ldM_5 C hi12 dX7_page_86 ?_
            exact ret _ _ _ _ dX7_page_87 rfl (rt_1 hf) rfl
          · replace hf := it_f c11 hf
            by_cases c13 : x3 = (1 : Int32)
            · replace hf := it_t c13 hf
              refine s_tblI (tgt := 88) C dX7_page_37 c13 (by decide) (by decide) rfl (by decide) ?_
              refine s_aload_n C dX7_page_88 rfl (lv_at hl 1 rfl) ?_
              refine gM_0_7 C wd_3_146 dX7_page_89 ?_
              refine s_iload C dX7_page_92 (lv_at hl 0 rfl) ?_
              obtain ⟨hi14, hf⟩ := bI_some hf
              refine ldM_6 C hi14 dX7_page_94 ?_
              exact ret _ _ _ _ dX7_page_95 rfl (rt_1 hf) rfl
            · replace hf := it_f c13 hf
              by_cases c15 : x3 = (2 : Int32)
              · replace hf := it_t c15 hf
                refine s_tblI (tgt := 96) C dX7_page_37 c15 (by decide) (by decide) rfl (by decide) ?_
                refine s_aload_n C dX7_page_96 rfl (lv_at hl 1 rfl) ?_
                refine gM_0_8 C wd_3_147 dX7_page_97 ?_
                refine s_iload C dX7_page_100 (lv_at hl 0 rfl) ?_
                obtain ⟨hi16, hf⟩ := bI_some hf
                refine ldM_7 C hi16 dX7_page_102 ?_
                exact ret _ _ _ _ dX7_page_103 rfl (rt_1 hf) rfl
              · replace hf := it_f c15 hf
                by_cases c17 : x3 = (3 : Int32)
                · replace hf := it_t c17 hf
                  refine s_tblI (tgt := 104) C dX7_page_37 c17 (by decide) (by decide) rfl (by decide) ?_
                  refine s_aload_n C dX7_page_104 rfl (lv_at hl 1 rfl) ?_
                  refine gM_0_9 C wd_3_148 dX7_page_105 ?_
                  refine s_iload C dX7_page_108 (lv_at hl 0 rfl) ?_
                  obtain ⟨hi18, hf⟩ := bI_some hf
                  refine ldM_8 C hi18 dX7_page_110 ?_
                  refine s_if_le (tgt := 124) C dX7_page_111 (by decide) (fun c19 => ?_) (fun c19 => ?_)
                  · replace hf := it_t c19 hf
                    refine s_iconst (v := (-1 : Int32)) C dX7_page_124 (by decide) ?_
                    exact ret _ _ _ _ dX7_page_125 rfl (rt_1 hf) rfl
                  · replace hf := it_f c19 hf
                    refine s_aload_n C dX7_page_114 rfl (lv_at hl 1 rfl) ?_
                    refine gM_0_9 C wd_3_148 dX7_page_115 ?_
                    refine s_iload C dX7_page_118 (lv_at hl 0 rfl) ?_
                    obtain ⟨hi20, hf⟩ := bI_some hf
                    refine ldM_8 C hi20 dX7_page_120 ?_
                    refine s_goto (tgt := 125) C dX7_page_121 (by decide) ?_
                    exact ret _ _ _ _ dX7_page_125 rfl (rt_1 hf) rfl
                · replace hf := it_f c17 hf
                  by_cases c21 : x3 = (4 : Int32)
                  · replace hf := it_t c21 hf
                    refine s_tblI (tgt := 126) C dX7_page_37 c21 (by decide) (by decide) rfl (by decide) ?_
                    refine s_aload_n C dX7_page_126 rfl (lv_at hl 1 rfl) ?_
                    refine s_iload C dX7_page_127 (lv_at hl 0 rfl) ?_
                    obtain ⟨z22, h23, hf⟩ := bn_some hf
                    refine s_callIV (As := [.int v9]) (rest := []) C (c_X7_isIn l D q h N v9 σ z22 h23) ⟨wd_4_13, wd_4_15, wd_s_23, wd_1_10, wd_4_16, cx_X7_isIn, Nat.le_of_ble_eq_true rfl, Nat.le_of_ble_eq_true rfl⟩ 0 (ci := 7) rfl rfl rfl (SubW.full _ _) rfl hl.1 rfl (Nat.le_of_ble_eq_true rfl) dX7_page_129 (Nat.zero_le _) (Nat.zero_le _) ?_
                    refine s_if_eq (tgt := 144) C dX7_page_132 (by decide) (fun c24 => ?_) (fun c24 => ?_)
                    · replace hf := it_t c24 hf
                      refine s_iconst (v := (-1 : Int32)) C dX7_page_144 (by decide) ?_
                      exact ret _ _ _ _ dX7_page_145 rfl (rt_1 hf) rfl
                    · replace hf := it_f c24 hf
                      refine s_aload_n C dX7_page_135 rfl (lv_at hl 1 rfl) ?_
                      refine s_iload C dX7_page_136 (lv_at hl 0 rfl) ?_
                      obtain ⟨z25, h26, hf⟩ := bn_some hf
                      refine s_callIV (As := [.int v9]) (rest := []) C (c_X7_placeOf l D q h N v9 σ z25 h26) ⟨wd_4_33, wd_4_35, wd_s_28, wd_1_10, wd_4_36, cx_X7_placeOf, Nat.le_of_ble_eq_true rfl, Nat.le_of_ble_eq_true rfl⟩ 0 (ci := 7) rfl rfl rfl (SubW.full _ _) rfl hl.1 rfl (Nat.le_of_ble_eq_true rfl) dX7_page_138 (Nat.zero_le _) (Nat.zero_le _) ?_
                      refine s_goto (tgt := 145) C dX7_page_141 (by decide) ?_
                      exact ret _ _ _ _ dX7_page_145 rfl (rt_1 hf) rfl
                  · replace hf := it_f c21 hf
                    by_cases c27 : x3 = (5 : Int32)
                    · replace hf := it_t c27 hf
                      refine s_tblI (tgt := 146) C dX7_page_37 c27 (by decide) (by decide) rfl (by decide) ?_
                      refine s_aload_n C dX7_page_146 rfl (lv_at hl 1 rfl) ?_
                      refine gM_0_10 C wd_3_149 dX7_page_147 ?_
                      refine s_iload C dX7_page_150 (lv_at hl 0 rfl) ?_
                      obtain ⟨hi28, hf⟩ := bI_some hf
                      refine ldM_9 C hi28 dX7_page_152 ?_
                      refine s_if_eq (tgt := 160) C dX7_page_153 (by decide) (fun c29 => ?_) (fun c29 => ?_)
                      · replace hf := it_t c29 hf
                        refine s_iconst (v := (0 : Int32)) C dX7_page_160 (by decide) ?_
                        exact ret _ _ _ _ dX7_page_161 rfl (rt_1 hf) rfl
                      · replace hf := it_f c29 hf
                        refine s_iconst (v := (1 : Int32)) C dX7_page_156 (by decide) ?_
                        refine s_goto (tgt := 161) C dX7_page_157 (by decide) ?_
                        exact ret _ _ _ _ dX7_page_161 rfl (rt_1 hf) rfl
                    · replace hf := it_f c27 hf
                      by_cases c30 : x3 = (6 : Int32)
                      · replace hf := it_t c30 hf
                        refine s_tblI (tgt := 162) C dX7_page_37 c30 (by decide) (by decide) rfl (by decide) ?_
                        refine s_aload_n C dX7_page_162 rfl (lv_at hl 1 rfl) ?_
                        refine gM_0_11 C wd_3_150 dX7_page_163 ?_
                        refine s_iload C dX7_page_166 (lv_at hl 0 rfl) ?_
                        obtain ⟨hi31, hf⟩ := bI_some hf
                        refine ldM_10 C hi31 dX7_page_168 ?_
                        refine s_if_eq (tgt := 176) C dX7_page_169 (by decide) (fun c32 => ?_) (fun c32 => ?_)
                        · replace hf := it_t c32 hf
                          refine s_iconst (v := (0 : Int32)) C dX7_page_176 (by decide) ?_
                          exact ret _ _ _ _ dX7_page_177 rfl (rt_1 hf) rfl
                        · replace hf := it_f c32 hf
                          refine s_iconst (v := (1 : Int32)) C dX7_page_172 (by decide) ?_
                          refine s_goto (tgt := 177) C dX7_page_173 (by decide) ?_
                          exact ret _ _ _ _ dX7_page_177 rfl (rt_1 hf) rfl
                      · replace hf := it_f c30 hf
                        refine s_tblO (tgt := 178) C dX7_page_37 (tb_out (n := 6) (by decide) (fun k hk => ?_)) (by decide) ?_
                        · rcases (show k = 0 ∨ k = 1 ∨ k = 2 ∨ k = 3 ∨ k = 4 ∨ k = 5 ∨ k = 6 by omega) with rfl | rfl | rfl | rfl | rfl | rfl | rfl
                          · exact c11
                          · exact c13
                          · exact c15
                          · exact c17
                          · exact c21
                          · exact c27
                          · exact c30
                        refine s_aload_n C dX7_page_178 rfl (lv_at hl 1 rfl) ?_
                        refine s_iload C dX7_page_179 (lv_at hl 0 rfl) ?_
                        obtain ⟨z33, h34, hf⟩ := bn_some hf
                        refine s_callIV (As := [.int v9]) (rest := []) C (c_X7_isIn l D q h N v9 σ z33 h34) ⟨wd_4_13, wd_4_15, wd_s_23, wd_1_10, wd_4_16, cx_X7_isIn, Nat.le_of_ble_eq_true rfl, Nat.le_of_ble_eq_true rfl⟩ 0 (ci := 7) rfl rfl rfl (SubW.full _ _) rfl hl.1 rfl (Nat.le_of_ble_eq_true rfl) dX7_page_181 (Nat.zero_le _) (Nat.zero_le _) ?_
                        refine s_if_eq (tgt := 201) C dX7_page_184 (by decide) (fun c35 => ?_) (fun c35 => ?_)
                        · replace hf := it_t c35 hf
                          refine s_iconst (v := (0 : Int32)) C dX7_page_201 (by decide) ?_
                          exact ret _ _ _ _ dX7_page_202 rfl (rt_1 hf) rfl
                        · replace hf := it_f c35 hf
                          refine s_aload_n C dX7_page_187 rfl (lv_at hl 1 rfl) ?_
                          refine gM_0_12 C wd_3_151 dX7_page_188 ?_
                          refine s_iload C dX7_page_191 (lv_at hl 0 rfl) ?_
                          obtain ⟨hi36, hf⟩ := bI_some hf
                          refine ldM_11 C hi36 dX7_page_193 ?_
                          refine s_if_eq (tgt := 201) C dX7_page_194 (by decide) (fun c37 => ?_) (fun c37 => ?_)
                          · replace hf := it_t c37 hf
                            refine s_iconst (v := (0 : Int32)) C dX7_page_201 (by decide) ?_
                            exact ret _ _ _ _ dX7_page_202 rfl (rt_1 hf) rfl
                          · replace hf := it_f c37 hf
                            refine s_iconst (v := (1 : Int32)) C dX7_page_197 (by decide) ?_
                            refine s_goto (tgt := 202) C dX7_page_198 (by decide) ?_
                            exact ret _ _ _ _ dX7_page_202 rfl (rt_1 hf) rfl
        · replace hf := it_f c8 hf
          refine s_bipush (v := (-2 : Int32)) C dX7_page_24 (by decide) ?_
          exact ret _ _ _ _ dX7_page_26 rfl (rt_1 hf) rfl
def pf_X7_pagesIn_b25 (N : Nat) (σ : St) (J4 : Int32 → Int32 → Option Int32) (x2 : Int32) (y1 : Int32) (y0 : Int32) : Option Int32 := J4 (y0 + y1) (x2 + 1) 
def pf_X7_pagesIn_L4 (N : Nat) (σ : St) : Nat → Int32 → Int32 → Option Int32
  | 0, _, _ => none
  | n + 1, x1, x2 => if (3072 : Int32) ≤ x2 then some x1 else (pf_X7_isIn N x2 σ).bind (fun z2 => if z2 = 0 then pf_X7_pagesIn_b25 N σ (pf_X7_pagesIn_L4 N σ n) x2 (0 : Int32) x1  else pf_X7_pagesIn_b25 N σ (pf_X7_pagesIn_L4 N σ n) x2 (1 : Int32) x1 )
def pf_X7_pagesIn (N : Nat) (σ : St) : Option Int32 := pf_X7_pagesIn_L4 N σ N (0 : Int32) (0 : Int32) 
theorem cx_X7_pagesIn : (yX7_pagesIn.cls ≠ "java/lang/invoke/MethodHandle" ∧ yX7_pagesIn.cls ≠ "java/lang/invoke/VarHandle" ∧ (parseMethodDescriptor yX7_pagesIn.desc).map (fun d => d.parameters.length) = some 0) := by decide +kernel
set_option maxHeartbeats 4000000 in
set_option maxRecDepth 100000 in
theorem c_X7_pagesIn (l : Launch) (D : va_G) (q : Nat → ClassId) (h : Nat → Nat) (N : Nat) (σ : St) (z : Int32) (hf : pf_X7_pagesIn N σ = some z) : MI l yX7_pagesIn cX7_pagesIn 3 (some .int) 1 21 D (tyQ q) [.ref (h 0)] (wM h q σ) (wM h q σ) z := by
  refine MI.of (by decide) (Nat.le_of_ble_eq_true rfl) ?_
  intro p e s m args below meth c Q A C ret ls hl
  have hl : lv_has ls 3 [(0, .ref (h 0))] := hl
  unfold pf_X7_pagesIn at hf
  have b25 : ∀ (J4 : Int32 → Int32 → Option Int32) (hJ4 : ∀ (x1 : Int32) (x2 : Int32), J4 x1 x2 = some z → ∀ ls : Array Slot, lv_has ls 3 [(0, .ref (h 0)), (1, .int x1), (2, .int x2)] → WG p l e (rmO 1 21) s m args below meth c D A 0 0 Q (wM h q σ) (F0 m 4 ls [])) (x2 : Int32) (y1 : Int32) (y0 : Int32), pf_X7_pagesIn_b25 N σ J4 x2 y1 y0 = some z → ∀ ls : Array Slot, lv_has ls 3 [(0, .ref (h 0)), (2, .int x2)] → WG p l e (rmO 1 21) s m args below meth c D A 0 0 Q (wM h q σ) (F0 m 25 ls [.int y1, .int y0]) := by
    intro J4 hJ4 x2 y1 y0 hf ls hl
    unfold pf_X7_pagesIn_b25 at hf
    refine s_iadd C dX7_pagesIn_25 ?_
    refine s_istore_n (lv2 := [(1, .int (y0 + y1)), (0, .ref (h 0)), (2, .int x2)]) C dX7_pagesIn_26 rfl hl (by decide) rfl ?_
    intro ls hl
    refine s_iinc (v := (x2 + 1)) (lv2 := [(2, .int (x2 + 1)), (1, .int (y0 + y1)), (0, .ref (h 0))]) C 2 dX7_pagesIn_27 hl rfl rfl (by decide) rfl ?_
    intro ls hl
    refine s_goto (tgt := 4) C dX7_pagesIn_30 (by decide) ?_
    exact hJ4 _ _ hf _ (lv_sub hl [2, 1, 0] rfl)
  have L4 : ∀ (n : Nat) (x1 : Int32) (x2 : Int32), pf_X7_pagesIn_L4 N σ n x1 x2 = some z → ∀ ls : Array Slot, lv_has ls 3 [(0, .ref (h 0)), (1, .int x1), (2, .int x2)] → WG p l e (rmO 1 21) s m args below meth c D A 0 0 Q (wM h q σ) (F0 m 4 ls []) := by
    intro n
    induction n with
    | zero => intro x1 x2 hf; unfold pf_X7_pagesIn_L4 at hf; cases hf
    | succ n ih =>
      intro x1 x2 hf ls hl
      unfold pf_X7_pagesIn_L4 at hf
      refine s_iload_n C dX7_pagesIn_4 rfl (lv_at hl 2 rfl) ?_
      refine s_sipush (v := (3072 : Int32)) C dX7_pagesIn_5 (by decide) ?_
      refine s_icmp_ge (tgt := 33) C dX7_pagesIn_8 (by decide) (fun c1 => ?_) (fun c1 => ?_)
      · replace hf := it_t c1 hf
        refine s_iload_n C dX7_pagesIn_33 rfl (lv_at hl 1 rfl) ?_
        exact ret _ _ _ _ dX7_pagesIn_34 rfl (rt_1 hf) rfl
      · replace hf := it_f c1 hf
        refine s_iload_n C dX7_pagesIn_11 rfl (lv_at hl 1 rfl) ?_
        refine s_aload_n C dX7_pagesIn_12 rfl (lv_at hl 0 rfl) ?_
        refine s_iload_n C dX7_pagesIn_13 rfl (lv_at hl 2 rfl) ?_
        obtain ⟨z2, h3, hf⟩ := bn_some hf
        refine s_callIV (As := [.int x2]) (rest := [.int x1]) C (c_X7_isIn l D q h N x2 σ z2 h3) ⟨wd_4_13, wd_4_15, wd_s_23, wd_1_10, wd_4_16, cx_X7_isIn, Nat.le_of_ble_eq_true rfl, Nat.le_of_ble_eq_true rfl⟩ 0 (ci := 7) rfl rfl rfl (SubW.full _ _) rfl hl.1 rfl (Nat.le_of_ble_eq_true rfl) dX7_pagesIn_14 (Nat.zero_le _) (Nat.zero_le _) ?_
        refine s_if_eq (tgt := 24) C dX7_pagesIn_17 (by decide) (fun c4 => ?_) (fun c4 => ?_)
        · replace hf := it_t c4 hf
          refine s_iconst (v := (0 : Int32)) C dX7_pagesIn_24 (by decide) ?_
          exact b25 _ ih _ _ _ hf _ (lv_sub hl [0, 2] rfl)
        · replace hf := it_f c4 hf
          refine s_iconst (v := (1 : Int32)) C dX7_pagesIn_20 (by decide) ?_
          refine s_goto (tgt := 25) C dX7_pagesIn_21 (by decide) ?_
          exact b25 _ ih _ _ _ hf _ (lv_sub hl [0, 2] rfl)
  refine s_iconst (v := (0 : Int32)) C dX7_pagesIn_0 (by decide) ?_
  refine s_istore_n (lv2 := [(1, .int (0 : Int32)), (0, .ref (h 0))]) C dX7_pagesIn_1 rfl hl (by decide) rfl ?_
  intro ls hl
  refine s_iconst (v := (0 : Int32)) C dX7_pagesIn_2 (by decide) ?_
  refine s_istore_n (lv2 := [(2, .int (0 : Int32)), (1, .int (0 : Int32)), (0, .ref (h 0))]) C dX7_pagesIn_3 rfl hl (by decide) rfl ?_
  intro ls hl
  exact L4 N _ _ hf _ (lv_sub hl [2, 1, 0] rfl)
def pf_X7_pins_b26 (N : Nat) (σ : St) (J4 : Int32 → Int32 → Option Int32) (x2 : Int32) (y1 : Int32) (y0 : Int32) : Option Int32 := J4 (y0 + y1) (x2 + 1) 
def pf_X7_pins_L4 (N : Nat) (σ : St) : Nat → Int32 → Int32 → Option Int32
  | 0, _, _ => none
  | n + 1, x1, x2 => if (3072 : Int32) ≤ x2 then some x1 else bI x2 (3072) (if ((σ.2.1 10) (Int32.toNatClampNeg x2)) = 0 then pf_X7_pins_b26 N σ (pf_X7_pins_L4 N σ n) x2 (0 : Int32) x1  else pf_X7_pins_b26 N σ (pf_X7_pins_L4 N σ n) x2 (1 : Int32) x1 )
def pf_X7_pins (N : Nat) (σ : St) : Option Int32 := pf_X7_pins_L4 N σ N (0 : Int32) (0 : Int32) 
theorem cx_X7_pins : (yX7_pins.cls ≠ "java/lang/invoke/MethodHandle" ∧ yX7_pins.cls ≠ "java/lang/invoke/VarHandle" ∧ (parseMethodDescriptor yX7_pins.desc).map (fun d => d.parameters.length) = some 0) := by decide +kernel
set_option maxHeartbeats 4000000 in
set_option maxRecDepth 100000 in
theorem c_X7_pins (l : Launch) (D : va_G) (q : Nat → ClassId) (h : Nat → Nat) (N : Nat) (σ : St) (z : Int32) (hf : pf_X7_pins N σ = some z) : MI l yX7_pins cX7_pins 3 (some .int) 0 0 D (tyQ q) [.ref (h 0)] (wM h q σ) (wM h q σ) z := by
  refine MI.of (by decide) (Nat.le_of_ble_eq_true rfl) ?_
  intro p e s m args below meth c Q A C ret ls hl
  have hl : lv_has ls 3 [(0, .ref (h 0))] := hl
  unfold pf_X7_pins at hf
  have b26 : ∀ (J4 : Int32 → Int32 → Option Int32) (hJ4 : ∀ (x1 : Int32) (x2 : Int32), J4 x1 x2 = some z → ∀ ls : Array Slot, lv_has ls 3 [(0, .ref (h 0)), (1, .int x1), (2, .int x2)] → WG p l e (rmO 0 0) s m args below meth c D A 0 0 Q (wM h q σ) (F0 m 4 ls [])) (x2 : Int32) (y1 : Int32) (y0 : Int32), pf_X7_pins_b26 N σ J4 x2 y1 y0 = some z → ∀ ls : Array Slot, lv_has ls 3 [(0, .ref (h 0)), (2, .int x2)] → WG p l e (rmO 0 0) s m args below meth c D A 0 0 Q (wM h q σ) (F0 m 26 ls [.int y1, .int y0]) := by
    intro J4 hJ4 x2 y1 y0 hf ls hl
    unfold pf_X7_pins_b26 at hf
    refine s_iadd C dX7_pins_26 ?_
    refine s_istore_n (lv2 := [(1, .int (y0 + y1)), (0, .ref (h 0)), (2, .int x2)]) C dX7_pins_27 rfl hl (by decide) rfl ?_
    intro ls hl
    refine s_iinc (v := (x2 + 1)) (lv2 := [(2, .int (x2 + 1)), (1, .int (y0 + y1)), (0, .ref (h 0))]) C 2 dX7_pins_28 hl rfl rfl (by decide) rfl ?_
    intro ls hl
    refine s_goto (tgt := 4) C dX7_pins_31 (by decide) ?_
    exact hJ4 _ _ hf _ (lv_sub hl [2, 1, 0] rfl)
  have L4 : ∀ (n : Nat) (x1 : Int32) (x2 : Int32), pf_X7_pins_L4 N σ n x1 x2 = some z → ∀ ls : Array Slot, lv_has ls 3 [(0, .ref (h 0)), (1, .int x1), (2, .int x2)] → WG p l e (rmO 0 0) s m args below meth c D A 0 0 Q (wM h q σ) (F0 m 4 ls []) := by
    intro n
    induction n with
    | zero => intro x1 x2 hf; unfold pf_X7_pins_L4 at hf; cases hf
    | succ n ih =>
      intro x1 x2 hf ls hl
      unfold pf_X7_pins_L4 at hf
      refine s_iload_n C dX7_pins_4 rfl (lv_at hl 2 rfl) ?_
      refine s_sipush (v := (3072 : Int32)) C dX7_pins_5 (by decide) ?_
      refine s_icmp_ge (tgt := 34) C dX7_pins_8 (by decide) (fun c1 => ?_) (fun c1 => ?_)
      · replace hf := it_t c1 hf
        refine s_iload_n C dX7_pins_34 rfl (lv_at hl 1 rfl) ?_
        exact ret _ _ _ _ dX7_pins_35 rfl (rt_1 hf) rfl
      · replace hf := it_f c1 hf
        refine s_iload_n C dX7_pins_11 rfl (lv_at hl 1 rfl) ?_
        refine s_aload_n C dX7_pins_12 rfl (lv_at hl 0 rfl) ?_
        refine gM_0_11 C wd_3_150 dX7_pins_13 ?_
        refine s_iload_n C dX7_pins_16 rfl (lv_at hl 2 rfl) ?_
        obtain ⟨hi2, hf⟩ := bI_some hf
        refine ldM_10 C hi2 dX7_pins_17 ?_
        refine s_if_eq (tgt := 25) C dX7_pins_18 (by decide) (fun c3 => ?_) (fun c3 => ?_)
        · replace hf := it_t c3 hf
          refine s_iconst (v := (0 : Int32)) C dX7_pins_25 (by decide) ?_
          exact b26 _ ih _ _ _ hf _ (lv_sub hl [0, 2] rfl)
        · replace hf := it_f c3 hf
          refine s_iconst (v := (1 : Int32)) C dX7_pins_21 (by decide) ?_
          refine s_goto (tgt := 26) C dX7_pins_22 (by decide) ?_
          exact b26 _ ih _ _ _ hf _ (lv_sub hl [0, 2] rfl)
  refine s_iconst (v := (0 : Int32)) C dX7_pins_0 (by decide) ?_
  refine s_istore_n (lv2 := [(1, .int (0 : Int32)), (0, .ref (h 0))]) C dX7_pins_1 rfl hl (by decide) rfl ?_
  intro ls hl
  refine s_iconst (v := (0 : Int32)) C dX7_pins_2 (by decide) ?_
  refine s_istore_n (lv2 := [(2, .int (0 : Int32)), (1, .int (0 : Int32)), (0, .ref (h 0))]) C dX7_pins_3 rfl hl (by decide) rfl ?_
  intro ls hl
  exact L4 N _ _ hf _ (lv_sub hl [2, 1, 0] rfl)
def pf_X7_pin_b82 (N : Nat) (x4 : Int32) (x5 : Int32) (σ : St) : Option (Int32 × St) := lt_ (sG σ 11 (0 : Int32)) (fun σ16 => (pf_X7_touch N x4 σ16).bind (fun z18 => if z18.1 = 0 then some ((0 : Int32), z18.2) else bI x4 (3072) (lt_ (sA z18.2 10 (upd (z18.2.2.1 10) (Int32.toNatClampNeg x4) (vp_nar .boolean (1 : Int32)))) (fun σ22 => bZ x5 (some (x5, σ22))))))
def pf_X7_pin (N : Nat) (x1 : Int32) (x2 : Int32) (x3 : Int32) (σ : St) : Option (Int32 × St) := (pf_X7_isFile N x1).bind (fun z1 => if z1 = 0 then some ((0 : Int32), σ) else (pf_X7_isPage N x2).bind (fun z4 => if z4 = 0 then some ((0 : Int32), σ) else lt_ (((256 : Int32) * x1) + x2) (fun v7 => bI v7 (3072) (lt_ ((σ.2.1 10) (Int32.toNatClampNeg v7)) (fun v10 => if x3 = 0 then bI v7 (3072) (lt_ (sA σ 10 (upd (σ.2.1 10) (Int32.toNatClampNeg v7) (vp_nar .boolean (0 : Int32)))) (fun σ29 => bZ v10 (some (v10, σ29)))) else bI x1 (12) (if ((σ.2.1 1) (Int32.toNatClampNeg x1)) ≤ ((64 : Int32) * x2) then some ((0 : Int32), σ) else if v10 = 0 then (pf_X7_pins N σ).bind (fun z25 => if z25 < ((σ.1 0) / (2 : Int32)) then pf_X7_pin_b82 N v7 v10 σ else some ((0 : Int32), σ)) else pf_X7_pin_b82 N v7 v10 σ))))))
theorem cx_X7_pin : (yX7_pin.cls ≠ "java/lang/invoke/MethodHandle" ∧ yX7_pin.cls ≠ "java/lang/invoke/VarHandle" ∧ (parseMethodDescriptor yX7_pin.desc).map (fun d => d.parameters.length) = some 3) := by decide +kernel
set_option maxHeartbeats 4000000 in
set_option maxRecDepth 100000 in
theorem c_X7_pin (l : Launch) (D : va_G) (q : Nat → ClassId) (h : Nat → Nat) (N : Nat) (x1 : Int32) (x2 : Int32) (x3 : Int32) (σ : St) (z : (Int32 × St)) (hf : pf_X7_pin N x1 x2 x3 σ = some z) : MI l yX7_pin cX7_pin 6 (some .boolean) 7 156 D (tyQ q) [.ref (h 0), .int x1, .int x2, .int x3] (wM h q σ) (wM h q z.2) z.1 := by
  refine MI.of (by decide) (Nat.le_of_ble_eq_true rfl) ?_
  intro p e s m args below meth c Q A C ret ls hl
  have hl : lv_has ls 6 [(0, .ref (h 0)), (1, .int x1), (2, .int x2), (3, .int x3)] := hl
  unfold pf_X7_pin at hf
  have b82 : ∀ (x4 : Int32) (x5 : Int32) (σ : St), pf_X7_pin_b82 N x4 x5 σ = some z → ∀ ls : Array Slot, lv_has ls 6 [(0, .ref (h 0)), (4, .int x4), (5, .int x5)] → WG p l e (rmO 7 156) s m args below meth c D A 0 0 Q (wM h q σ) (F0 m 82 ls []) := by
    intro x4 x5 σ hf ls hl
    unfold pf_X7_pin_b82 at hf
    refine s_aload_n C dX7_pin_82 rfl (lv_at hl 0 rfl) ?_
    refine s_iconst (v := (0 : Int32)) C dX7_pin_83 (by decide) ?_
    refine uM_0_33 C wd_3_172 rfl dX7_pin_84 ?_
    obtain ⟨σ16, e17, hf⟩ := lt_some hf
    refine s_w (ws2 := (wM h q σ16)) (by rw [e17]) ?_
    clear e17
    refine s_aload_n C dX7_pin_87 rfl (lv_at hl 0 rfl) ?_
    refine s_iload C dX7_pin_88 (lv_at hl 1 rfl) ?_
    obtain ⟨z18, h19, hf⟩ := bn_some hf
    refine s_callIV (As := [.int x4]) (rest := []) C (c_X7_touch l D q h N x4 σ16 z18 h19) ⟨wd_4_17, wd_4_19, wd_s_24, wd_1_10, wd_4_20, cx_X7_touch, Nat.le_of_ble_eq_true rfl, Nat.le_of_ble_eq_true rfl⟩ 0 (ci := 7) rfl rfl rfl (SubW.full _ _) rfl hl.1 rfl (Nat.le_of_ble_eq_true rfl) dX7_pin_90 (Nat.zero_le _) (Nat.zero_le _) ?_
    refine s_if_ne (tgt := 98) C dX7_pin_93 (by decide) (fun c20 => ?_) (fun c20 => ?_)
    · replace hf := it_f c20 hf
      refine s_aload_n C dX7_pin_98 rfl (lv_at hl 0 rfl) ?_
      refine gM_0_11 C wd_3_150 dX7_pin_99 ?_
      refine s_iload C dX7_pin_102 (lv_at hl 1 rfl) ?_
      refine s_iconst (v := (1 : Int32)) C dX7_pin_104 (by decide) ?_
      obtain ⟨hi21, hf⟩ := bI_some hf
      refine stM_10 C hi21 dX7_pin_105 ?_
      obtain ⟨σ22, e23, hf⟩ := lt_some hf
      refine s_w (ws2 := (wM h q σ22)) (by rw [e23]) ?_
      clear e23
      refine s_iload C dX7_pin_106 (lv_at hl 2 rfl) ?_
      obtain ⟨hz24, hf⟩ := bZ_some hf
      exact ret _ _ _ _ dX7_pin_108 hz24 (rt_2 hf).1 (congrArg (fun σ => (wM h q σ)) (rt_2 hf).2)
    · replace hf := it_t c20 hf
      refine s_iconst (v := (0 : Int32)) C dX7_pin_96 (by decide) ?_
      exact ret _ _ _ _ dX7_pin_97 rfl (rt_2 hf).1 (congrArg (fun σ => (wM h q σ)) (rt_2 hf).2)
  refine s_iload_n C dX7_pin_0 rfl (lv_at hl 1 rfl) ?_
  obtain ⟨z1, h2, hf⟩ := bn_some hf
  refine s_callIS (As := [.int x1]) (rest := []) C (c_X7_isFile l D q (wM h q σ) N x1  z1 h2) ⟨wd_4_10, wd_4_11, wd_1_10, wd_4_12, cx_X7_isFile, Nat.le_of_ble_eq_true rfl, Nat.le_of_ble_eq_true rfl⟩ (SubW.full _ _) rfl hl.1 rfl (Nat.le_of_ble_eq_true rfl) dX7_pin_1 (Nat.zero_le _) (Nat.zero_le _) ?_
  refine s_if_eq (tgt := 14) C dX7_pin_4 (by decide) (fun c3 => ?_) (fun c3 => ?_)
  · replace hf := it_t c3 hf
    refine s_iconst (v := (0 : Int32)) C dX7_pin_14 (by decide) ?_
    exact ret _ _ _ _ dX7_pin_15 rfl (rt_2 hf).1 (congrArg (fun σ => (wM h q σ)) (rt_2 hf).2)
  · replace hf := it_f c3 hf
    refine s_iload_n C dX7_pin_7 rfl (lv_at hl 2 rfl) ?_
    obtain ⟨z4, h5, hf⟩ := bn_some hf
    refine s_callIS (As := [.int x2]) (rest := []) C (c_X7_isPage l D q (wM h q σ) N x2  z4 h5) ⟨wd_4_129, wd_4_130, wd_1_10, wd_4_131, cx_X7_isPage, Nat.le_of_ble_eq_true rfl, Nat.le_of_ble_eq_true rfl⟩ (SubW.full _ _) rfl hl.1 rfl (Nat.le_of_ble_eq_true rfl) dX7_pin_8 (Nat.zero_le _) (Nat.zero_le _) ?_
    refine s_if_ne (tgt := 16) C dX7_pin_11 (by decide) (fun c6 => ?_) (fun c6 => ?_)
    · replace hf := it_f c6 hf
      refine s_sipush (v := (256 : Int32)) C dX7_pin_16 (by decide) ?_
      refine s_iload_n C dX7_pin_19 rfl (lv_at hl 1 rfl) ?_
      refine s_imul C dX7_pin_20 ?_
      refine s_iload_n C dX7_pin_21 rfl (lv_at hl 2 rfl) ?_
      refine s_iadd C dX7_pin_22 ?_
      obtain ⟨v7, e8, hf⟩ := lt_some hf
      refine s_eq (g2 := F0 m 23 ls [.int v7]) (by rw [e8]) ?_
      clear e8
      refine s_istore (lv2 := [(4, .int v7), (0, .ref (h 0)), (1, .int x1), (2, .int x2), (3, .int x3)]) C dX7_pin_23 hl (by decide) rfl ?_
      intro ls hl
      refine s_aload_n C dX7_pin_25 rfl (lv_at hl 1 rfl) ?_
      refine gM_0_11 C wd_3_150 dX7_pin_26 ?_
      refine s_iload C dX7_pin_29 (lv_at hl 0 rfl) ?_
      obtain ⟨hi9, hf⟩ := bI_some hf
      refine ldM_10 C hi9 dX7_pin_31 ?_
      obtain ⟨v10, e11, hf⟩ := lt_some hf
      refine s_eq (g2 := F0 m 32 ls [.int v10]) (by rw [e11]) ?_
      clear e11
      refine s_istore (lv2 := [(5, .int v10), (4, .int v7), (0, .ref (h 0)), (1, .int x1), (2, .int x2), (3, .int x3)]) C dX7_pin_32 hl (by decide) rfl ?_
      intro ls hl
      refine s_iload_n C dX7_pin_34 rfl (lv_at hl 5 rfl) ?_
      refine s_if_ne (tgt := 49) C dX7_pin_35 (by decide) (fun c12 => ?_) (fun c12 => ?_)
      · replace hf := it_f c12 hf
        refine s_bipush (v := (64 : Int32)) C dX7_pin_49 (by decide) ?_
        refine s_iload_n C dX7_pin_51 rfl (lv_at hl 4 rfl) ?_
        refine s_imul C dX7_pin_52 ?_
        refine s_aload_n C dX7_pin_53 rfl (lv_at hl 2 rfl) ?_
        refine gM_0_2 C wd_3_141 dX7_pin_54 ?_
        refine s_iload_n C dX7_pin_57 rfl (lv_at hl 3 rfl) ?_
        obtain ⟨hi13, hf⟩ := bI_some hf
        refine ldM_1 C hi13 dX7_pin_58 ?_
        refine s_icmp_ge (tgt := 80) C dX7_pin_59 (by decide) (fun c14 => ?_) (fun c14 => ?_)
        · replace hf := it_t c14 hf
          refine s_iconst (v := (0 : Int32)) C dX7_pin_80 (by decide) ?_
          exact ret _ _ _ _ dX7_pin_81 rfl (rt_2 hf).1 (congrArg (fun σ => (wM h q σ)) (rt_2 hf).2)
        · replace hf := it_f c14 hf
          refine s_iload C dX7_pin_62 (lv_at hl 0 rfl) ?_
          refine s_if_ne (tgt := 82) C dX7_pin_64 (by decide) (fun c15 => ?_) (fun c15 => ?_)
          · replace hf := it_f c15 hf
            exact b82 _ _ _ hf _ (lv_sub hl [2, 1, 0] rfl)
          · replace hf := it_t c15 hf
            refine s_aload_n C dX7_pin_67 rfl (lv_at hl 2 rfl) ?_
            obtain ⟨z25, h26, hf⟩ := bn_some hf
            refine s_callIV (As := []) (rest := []) C (c_X7_pins l D q h N σ z25 h26) ⟨wd_4_160, wd_4_162, wd_s_47, wd_1_10, wd_4_163, cx_X7_pins, Nat.le_of_ble_eq_true rfl, Nat.le_of_ble_eq_true rfl⟩ 0 (ci := 7) rfl rfl rfl (SubW.full _ _) rfl hl.1 rfl (Nat.le_of_ble_eq_true rfl) dX7_pin_68 (Nat.zero_le _) (Nat.zero_le _) ?_
            refine s_aload_n C dX7_pin_71 rfl (lv_at hl 2 rfl) ?_
            refine gM_0_0 C wd_3_139 dX7_pin_72 ?_
            refine s_iconst (v := (2 : Int32)) C dX7_pin_75 (by decide) ?_
            refine s_idiv C dX7_pin_76 (by decide) ?_
            refine s_icmp_lt (tgt := 82) C dX7_pin_77 (by decide) (fun c27 => ?_) (fun c27 => ?_)
            · replace hf := it_t c27 hf
              exact b82 _ _ _ hf _ (lv_sub hl [2, 1, 0] rfl)
            · replace hf := it_f c27 hf
              refine s_iconst (v := (0 : Int32)) C dX7_pin_80 (by decide) ?_
              exact ret _ _ _ _ dX7_pin_81 rfl (rt_2 hf).1 (congrArg (fun σ => (wM h q σ)) (rt_2 hf).2)
      · replace hf := it_t c12 hf
        refine s_aload_n C dX7_pin_38 rfl (lv_at hl 2 rfl) ?_
        refine gM_0_11 C wd_3_150 dX7_pin_39 ?_
        refine s_iload C dX7_pin_42 (lv_at hl 1 rfl) ?_
        refine s_iconst (v := (0 : Int32)) C dX7_pin_44 (by decide) ?_
        obtain ⟨hi28, hf⟩ := bI_some hf
        refine stM_10 C hi28 dX7_pin_45 ?_
        obtain ⟨σ29, e30, hf⟩ := lt_some hf
        refine s_w (ws2 := (wM h q σ29)) (by rw [e30]) ?_
        clear e30
        refine s_iload C dX7_pin_46 (lv_at hl 0 rfl) ?_
        obtain ⟨hz31, hf⟩ := bZ_some hf
        exact ret _ _ _ _ dX7_pin_48 hz31 (rt_2 hf).1 (congrArg (fun σ => (wM h q σ)) (rt_2 hf).2)
    · replace hf := it_t c6 hf
      refine s_iconst (v := (0 : Int32)) C dX7_pin_14 (by decide) ?_
      exact ret _ _ _ _ dX7_pin_15 rfl (rt_2 hf).1 (congrArg (fun σ => (wM h q σ)) (rt_2 hf).2)
def pf_X7_punch_b73 (N : Nat) (J35 : Int32 → Int32 → Int32 → Int32 → Int32 → St → Option (Int32 × St)) (x1 : Int32) (x2 : Int32) (x3 : Int32) (x5 : Int32) (y1 : Int32) (y0 : Int32) (σ : St) : Option (Int32 × St) := J35 x1 x2 x3 (y0 + y1) (x5 + 1) σ
def pf_X7_punch_L35 (N : Nat) : Nat → Int32 → Int32 → Int32 → Int32 → Int32 → St → Option (Int32 × St)
  | 0, _, _, _, _, _, _ => none
  | n + 1, x1, x2, x3, x4, x5, σ => if (x2 + x3) ≤ x5 then some (x4, σ) else if (256 : Int32) ≤ x5 then some (x4, σ) else (pf_X7_isHoled N (((256 : Int32) * x1) + x5) σ).bind (fun z11 => if z11.1 = 0 then pf_X7_punch_b73 N (pf_X7_punch_L35 N n) x1 x2 x3 x5 (0 : Int32) x4 z11.2 else pf_X7_punch_b73 N (pf_X7_punch_L35 N n) x1 x2 x3 x5 (1 : Int32) x4 z11.2)
def pf_X7_punch (N : Nat) (x1 : Int32) (x2 : Int32) (x3 : Int32) (σ : St) : Option (Int32 × St) := (pf_X7_isFile N x1).bind (fun z1 => if z1 = 0 then some ((-2 : Int32), σ) else (pf_X7_isPage N x2).bind (fun z4 => if z4 = 0 then some ((-2 : Int32), σ) else if x3 < (1 : Int32) then some ((-2 : Int32), σ) else if x3 ≤ (256 : Int32) then pf_X7_punch_L35 N N x1 x2 x3 (0 : Int32) x2 σ else some ((-2 : Int32), σ)))
theorem cx_X7_punch : (yX7_punch.cls ≠ "java/lang/invoke/MethodHandle" ∧ yX7_punch.cls ≠ "java/lang/invoke/VarHandle" ∧ (parseMethodDescriptor yX7_punch.desc).map (fun d => d.parameters.length) = some 3) := by decide +kernel
set_option maxHeartbeats 4000000 in
set_option maxRecDepth 100000 in
theorem c_X7_punch (l : Launch) (D : va_G) (q : Nat → ClassId) (h : Nat → Nat) (N : Nat) (x1 : Int32) (x2 : Int32) (x3 : Int32) (σ : St) (z : (Int32 × St)) (hf : pf_X7_punch N x1 x2 x3 σ = some z) : MI l yX7_punch cX7_punch 6 (some .int) 4 88 D (tyQ q) [.ref (h 0), .int x1, .int x2, .int x3] (wM h q σ) (wM h q z.2) z.1 := by
  refine MI.of (by decide) (Nat.le_of_ble_eq_true rfl) ?_
  intro p e s m args below meth c Q A C ret ls hl
  have hl : lv_has ls 6 [(0, .ref (h 0)), (1, .int x1), (2, .int x2), (3, .int x3)] := hl
  unfold pf_X7_punch at hf
  have b73 : ∀ (J35 : Int32 → Int32 → Int32 → Int32 → Int32 → St → Option (Int32 × St)) (hJ35 : ∀ (x1 : Int32) (x2 : Int32) (x3 : Int32) (x4 : Int32) (x5 : Int32) (σ : St), J35 x1 x2 x3 x4 x5 σ = some z → ∀ ls : Array Slot, lv_has ls 6 [(0, .ref (h 0)), (1, .int x1), (2, .int x2), (3, .int x3), (4, .int x4), (5, .int x5)] → WG p l e (rmO 4 88) s m args below meth c D A 0 0 Q (wM h q σ) (F0 m 35 ls [])) (x1 : Int32) (x2 : Int32) (x3 : Int32) (x5 : Int32) (y1 : Int32) (y0 : Int32) (σ : St), pf_X7_punch_b73 N J35 x1 x2 x3 x5 y1 y0 σ = some z → ∀ ls : Array Slot, lv_has ls 6 [(0, .ref (h 0)), (1, .int x1), (2, .int x2), (3, .int x3), (5, .int x5)] → WG p l e (rmO 4 88) s m args below meth c D A 0 0 Q (wM h q σ) (F0 m 73 ls [.int y1, .int y0]) := by
    intro J35 hJ35 x1 x2 x3 x5 y1 y0 σ hf ls hl
    unfold pf_X7_punch_b73 at hf
    refine s_iadd C dX7_punch_73 ?_
    refine s_istore (lv2 := [(4, .int (y0 + y1)), (0, .ref (h 0)), (1, .int x1), (2, .int x2), (3, .int x3), (5, .int x5)]) C dX7_punch_74 hl (by decide) rfl ?_
    intro ls hl
    refine s_iinc (v := (x5 + 1)) (lv2 := [(5, .int (x5 + 1)), (4, .int (y0 + y1)), (0, .ref (h 0)), (1, .int x1), (2, .int x2), (3, .int x3)]) C 5 dX7_punch_76 hl rfl rfl (by decide) rfl ?_
    intro ls hl
    refine s_goto (tgt := 35) C dX7_punch_79 (by decide) ?_
    exact hJ35 _ _ _ _ _ _ hf _ (lv_sub hl [2, 3, 4, 5, 1, 0] rfl)
  have L35 : ∀ (n : Nat) (x1 : Int32) (x2 : Int32) (x3 : Int32) (x4 : Int32) (x5 : Int32) (σ : St), pf_X7_punch_L35 N n x1 x2 x3 x4 x5 σ = some z → ∀ ls : Array Slot, lv_has ls 6 [(0, .ref (h 0)), (1, .int x1), (2, .int x2), (3, .int x3), (4, .int x4), (5, .int x5)] → WG p l e (rmO 4 88) s m args below meth c D A 0 0 Q (wM h q σ) (F0 m 35 ls []) := by
    intro n
    induction n with
    | zero => intro x1 x2 x3 x4 x5 σ hf; unfold pf_X7_punch_L35 at hf; cases hf
    | succ n ih =>
      intro x1 x2 x3 x4 x5 σ hf ls hl
      unfold pf_X7_punch_L35 at hf
      refine s_iload C dX7_punch_35 (lv_at hl 5 rfl) ?_
      refine s_iload_n C dX7_punch_37 rfl (lv_at hl 2 rfl) ?_
      refine s_iload_n C dX7_punch_38 rfl (lv_at hl 3 rfl) ?_
      refine s_iadd C dX7_punch_39 ?_
      refine s_icmp_ge (tgt := 82) C dX7_punch_40 (by decide) (fun c9 => ?_) (fun c9 => ?_)
      · replace hf := it_t c9 hf
        refine s_iload C dX7_punch_82 (lv_at hl 4 rfl) ?_
        exact ret _ _ _ _ dX7_punch_84 rfl (rt_2 hf).1 (congrArg (fun σ => (wM h q σ)) (rt_2 hf).2)
      · replace hf := it_f c9 hf
        refine s_iload C dX7_punch_43 (lv_at hl 5 rfl) ?_
        refine s_sipush (v := (256 : Int32)) C dX7_punch_45 (by decide) ?_
        refine s_icmp_ge (tgt := 82) C dX7_punch_48 (by decide) (fun c10 => ?_) (fun c10 => ?_)
        · replace hf := it_t c10 hf
          refine s_iload C dX7_punch_82 (lv_at hl 4 rfl) ?_
          exact ret _ _ _ _ dX7_punch_84 rfl (rt_2 hf).1 (congrArg (fun σ => (wM h q σ)) (rt_2 hf).2)
        · replace hf := it_f c10 hf
          refine s_iload C dX7_punch_51 (lv_at hl 4 rfl) ?_
          refine s_aload_n C dX7_punch_53 rfl (lv_at hl 0 rfl) ?_
          refine s_sipush (v := (256 : Int32)) C dX7_punch_54 (by decide) ?_
          refine s_iload_n C dX7_punch_57 rfl (lv_at hl 1 rfl) ?_
          refine s_imul C dX7_punch_58 ?_
          refine s_iload C dX7_punch_59 (lv_at hl 5 rfl) ?_
          refine s_iadd C dX7_punch_61 ?_
          obtain ⟨z11, h12, hf⟩ := bn_some hf
          refine s_callIV (As := [.int (((256 : Int32) * x1) + x5)]) (rest := [.int x4]) C (c_X7_isHoled l D q h N (((256 : Int32) * x1) + x5) σ z11 h12) ⟨wd_4_121, wd_4_123, wd_s_46, wd_1_10, wd_4_124, cx_X7_isHoled, Nat.le_of_ble_eq_true rfl, Nat.le_of_ble_eq_true rfl⟩ 0 (ci := 7) rfl rfl rfl (SubW.full _ _) rfl hl.1 rfl (Nat.le_of_ble_eq_true rfl) dX7_punch_62 (Nat.zero_le _) (Nat.zero_le _) ?_
          refine s_if_eq (tgt := 72) C dX7_punch_65 (by decide) (fun c13 => ?_) (fun c13 => ?_)
          · replace hf := it_t c13 hf
            refine s_iconst (v := (0 : Int32)) C dX7_punch_72 (by decide) ?_
            exact b73 _ ih _ _ _ _ _ _ _ hf _ (lv_sub hl [0, 1, 2, 3, 5] rfl)
          · replace hf := it_f c13 hf
            refine s_iconst (v := (1 : Int32)) C dX7_punch_68 (by decide) ?_
            refine s_goto (tgt := 73) C dX7_punch_69 (by decide) ?_
            exact b73 _ ih _ _ _ _ _ _ _ hf _ (lv_sub hl [0, 1, 2, 3, 5] rfl)
  refine s_iload_n C dX7_punch_0 rfl (lv_at hl 1 rfl) ?_
  obtain ⟨z1, h2, hf⟩ := bn_some hf
  refine s_callIS (As := [.int x1]) (rest := []) C (c_X7_isFile l D q (wM h q σ) N x1  z1 h2) ⟨wd_4_10, wd_4_11, wd_1_10, wd_4_12, cx_X7_isFile, Nat.le_of_ble_eq_true rfl, Nat.le_of_ble_eq_true rfl⟩ (SubW.full _ _) rfl hl.1 rfl (Nat.le_of_ble_eq_true rfl) dX7_punch_1 (Nat.zero_le _) (Nat.zero_le _) ?_
  refine s_if_eq (tgt := 26) C dX7_punch_4 (by decide) (fun c3 => ?_) (fun c3 => ?_)
  · replace hf := it_t c3 hf
    refine s_bipush (v := (-2 : Int32)) C dX7_punch_26 (by decide) ?_
    exact ret _ _ _ _ dX7_punch_28 rfl (rt_2 hf).1 (congrArg (fun σ => (wM h q σ)) (rt_2 hf).2)
  · replace hf := it_f c3 hf
    refine s_iload_n C dX7_punch_7 rfl (lv_at hl 2 rfl) ?_
    obtain ⟨z4, h5, hf⟩ := bn_some hf
    refine s_callIS (As := [.int x2]) (rest := []) C (c_X7_isPage l D q (wM h q σ) N x2  z4 h5) ⟨wd_4_129, wd_4_130, wd_1_10, wd_4_131, cx_X7_isPage, Nat.le_of_ble_eq_true rfl, Nat.le_of_ble_eq_true rfl⟩ (SubW.full _ _) rfl hl.1 rfl (Nat.le_of_ble_eq_true rfl) dX7_punch_8 (Nat.zero_le _) (Nat.zero_le _) ?_
    refine s_if_eq (tgt := 26) C dX7_punch_11 (by decide) (fun c6 => ?_) (fun c6 => ?_)
    · replace hf := it_t c6 hf
      refine s_bipush (v := (-2 : Int32)) C dX7_punch_26 (by decide) ?_
      exact ret _ _ _ _ dX7_punch_28 rfl (rt_2 hf).1 (congrArg (fun σ => (wM h q σ)) (rt_2 hf).2)
    · replace hf := it_f c6 hf
      refine s_iload_n C dX7_punch_14 rfl (lv_at hl 3 rfl) ?_
      refine s_iconst (v := (1 : Int32)) C dX7_punch_15 (by decide) ?_
      refine s_icmp_lt (tgt := 26) C dX7_punch_16 (by decide) (fun c7 => ?_) (fun c7 => ?_)
      · replace hf := it_t c7 hf
        refine s_bipush (v := (-2 : Int32)) C dX7_punch_26 (by decide) ?_
        exact ret _ _ _ _ dX7_punch_28 rfl (rt_2 hf).1 (congrArg (fun σ => (wM h q σ)) (rt_2 hf).2)
      · replace hf := it_f c7 hf
        refine s_iload_n C dX7_punch_19 rfl (lv_at hl 3 rfl) ?_
        refine s_sipush (v := (256 : Int32)) C dX7_punch_20 (by decide) ?_
        refine s_icmp_le (tgt := 29) C dX7_punch_23 (by decide) (fun c8 => ?_) (fun c8 => ?_)
        · replace hf := it_t c8 hf
          refine s_iconst (v := (0 : Int32)) C dX7_punch_29 (by decide) ?_
          refine s_istore (lv2 := [(4, .int (0 : Int32)), (0, .ref (h 0)), (1, .int x1), (2, .int x2), (3, .int x3)]) C dX7_punch_30 hl (by decide) rfl ?_
          intro ls hl
          refine s_iload_n C dX7_punch_32 rfl (lv_at hl 3 rfl) ?_
          refine s_istore (lv2 := [(5, .int x2), (4, .int (0 : Int32)), (0, .ref (h 0)), (1, .int x1), (2, .int x2), (3, .int x3)]) C dX7_punch_33 hl (by decide) rfl ?_
          intro ls hl
          exact L35 N _ _ _ _ _ _ hf _ (lv_sub hl [2, 3, 4, 5, 1, 0] rfl)
        · replace hf := it_f c8 hf
          refine s_bipush (v := (-2 : Int32)) C dX7_punch_26 (by decide) ?_
          exact ret _ _ _ _ dX7_punch_28 rfl (rt_2 hf).1 (congrArg (fun σ => (wM h q σ)) (rt_2 hf).2)
def pf_X7_read_b196 (N : Nat) (J63 : Int32 → Int32 → Int32 → Int32 → St → Option (Int32 × St)) (x1 : Int32) (x4 : Int32) (x5 : Int32) (x6 : Int32) (σ : St) : Option (Int32 × St) := J63 x1 x4 x5 x6 σ
def pf_X7_read_b180 (N : Nat) (J63 : Int32 → Int32 → Int32 → Int32 → St → Option (Int32 × St)) (x1 : Int32) (x4 : Int32) (x5 : Int32) (x6 : Int32) (x7 : Int32) (x8 : Int32) (σ : St) : Option (Int32 × St) := if x8 = 0 then (pf_X7_ahead N x1 (x7 - x7 / (256 : Int32) * (256 : Int32)) σ).bind (fun z25 => pf_X7_read_b196 N J63 x1 x4 x5 x6 z25) else pf_X7_read_b196 N J63 x1 x4 x5 x6 σ
def pf_X7_read_L129 (N : Nat) (J63 : Int32 → Int32 → Int32 → Int32 → St → Option (Int32 × St)) : Nat → Int32 → Int32 → Int32 → Int32 → Int32 → Int32 → Int32 → St → Option (Int32 × St)
  | 0, _, _, _, _, _, _, _, _ => none
  | n + 1, x1, x4, x5, x6, x7, x8, x9, σ => if x4 ≤ x6 then pf_X7_read_b180 N J63 x1 x4 x5 x6 x7 x8 σ else if x9 ≤ x6 then pf_X7_read_b180 N J63 x1 x4 x5 x6 x7 x8 σ else bI x7 (3072) (bI (((64 : Int32) * ((σ.2.1 5) (Int32.toNatClampNeg x7))) + (x6 - x6 / (64 : Int32) * (64 : Int32))) (4096) (bI x5 (1024) (lt_ (sA σ 19 (upd (σ.2.1 19) (Int32.toNatClampNeg x5) (vp_nar .byte ((σ.2.1 15) (Int32.toNatClampNeg (((64 : Int32) * ((σ.2.1 5) (Int32.toNatClampNeg x7))) + (x6 - x6 / (64 : Int32) * (64 : Int32)))))))) (fun σ31 => (pf_X7_read_L129 N J63 n) x1 x4 (x5 + 1) (x6 + 1) x7 x8 x9 σ31))))
def pf_X7_read_L63 (N : Nat) : Nat → Int32 → Int32 → Int32 → Int32 → St → Option (Int32 × St)
  | 0, _, _, _, _, _ => none
  | n + 1, x1, x4, x5, x6, σ => if x4 ≤ x6 then lt_ (sG σ 4 x5) (fun σ12 => some (x5, σ12)) else lt_ (((256 : Int32) * x1) + (x6 / (64 : Int32))) (fun v14 => (pf_X7_isIn N v14 σ).bind (fun z16 => (pf_X7_touch N v14 σ).bind (fun z18 => if z18.1 = 0 then if x5 = 0 then some ((-3 : Int32), z18.2) else lt_ (sG z18.2 4 x5) (fun σ34 => some (x5, σ34)) else lt_ ((64 : Int32) * ((x6 / (64 : Int32)) + (1 : Int32))) (fun v21 => pf_X7_read_L129 N (pf_X7_read_L63 N n) N x1 x4 x5 x6 v14 z16 v21 z18.2))))
def pf_X7_read_b55 (N : Nat) (x1 : Int32) (x2 : Int32) (y0 : Int32) (σ : St) : Option (Int32 × St) := pf_X7_read_L63 N N x1 y0 (0 : Int32) x2 σ
def pf_X7_read (N : Nat) (x1 : Int32) (x2 : Int32) (x3 : Int32) (σ : St) : Option (Int32 × St) := (pf_X7_isFile N x1).bind (fun z1 => if z1 = 0 then some ((-2 : Int32), σ) else if x2 < 0 then some ((-2 : Int32), σ) else if x3 < (1 : Int32) then some ((-2 : Int32), σ) else if x3 ≤ (1024 : Int32) then lt_ (sG σ 11 (0 : Int32)) (fun σ7 => bI x1 (12) (if x3 ≤ (((σ7.2.1 1) (Int32.toNatClampNeg x1)) - x2) then pf_X7_read_b55 N x1 x2 (x2 + x3) σ7 else bI x1 (12) (pf_X7_read_b55 N x1 x2 ((σ7.2.1 1) (Int32.toNatClampNeg x1)) σ7))) else some ((-2 : Int32), σ))
theorem cx_X7_read : (yX7_read.cls ≠ "java/lang/invoke/MethodHandle" ∧ yX7_read.cls ≠ "java/lang/invoke/VarHandle" ∧ (parseMethodDescriptor yX7_read.desc).map (fun d => d.parameters.length) = some 3) := by decide +kernel
set_option maxHeartbeats 4000000 in
set_option maxRecDepth 100000 in
theorem c_X7_read (l : Launch) (D : va_G) (q : Nat → ClassId) (h : Nat → Nat) (N : Nat) (x1 : Int32) (x2 : Int32) (x3 : Int32) (σ : St) (z : (Int32 × St)) (hf : pf_X7_read N x1 x2 x3 σ = some z) : MI l yX7_read cX7_read 10 (some .int) 7 159 D (tyQ q) [.ref (h 0), .int x1, .int x2, .int x3] (wM h q σ) (wM h q z.2) z.1 := by
  refine MI.of (by decide) (Nat.le_of_ble_eq_true rfl) ?_
  intro p e s m args below meth c Q A C ret ls hl
  have hl : lv_has ls 10 [(0, .ref (h 0)), (1, .int x1), (2, .int x2), (3, .int x3)] := hl
  unfold pf_X7_read at hf
  have b196 : ∀ (J63 : Int32 → Int32 → Int32 → Int32 → St → Option (Int32 × St)) (hJ63 : ∀ (x1 : Int32) (x4 : Int32) (x5 : Int32) (x6 : Int32) (σ : St), J63 x1 x4 x5 x6 σ = some z → ∀ ls : Array Slot, lv_has ls 10 [(0, .ref (h 0)), (1, .int x1), (4, .int x4), (5, .int x5), (6, .int x6)] → WG p l e (rmO 7 159) s m args below meth c D A 0 0 Q (wM h q σ) (F0 m 63 ls [])) (x1 : Int32) (x4 : Int32) (x5 : Int32) (x6 : Int32) (σ : St), pf_X7_read_b196 N J63 x1 x4 x5 x6 σ = some z → ∀ ls : Array Slot, lv_has ls 10 [(0, .ref (h 0)), (1, .int x1), (4, .int x4), (5, .int x5), (6, .int x6)] → WG p l e (rmO 7 159) s m args below meth c D A 0 0 Q (wM h q σ) (F0 m 196 ls []) := by
    intro J63 hJ63 x1 x4 x5 x6 σ hf ls hl
    unfold pf_X7_read_b196 at hf
    refine s_goto (tgt := 63) C dX7_read_196 (by decide) ?_
    exact hJ63 _ _ _ _ _ hf _ (lv_sub hl [0, 1, 2, 3, 4] rfl)
  have b180 : ∀ (J63 : Int32 → Int32 → Int32 → Int32 → St → Option (Int32 × St)) (hJ63 : ∀ (x1 : Int32) (x4 : Int32) (x5 : Int32) (x6 : Int32) (σ : St), J63 x1 x4 x5 x6 σ = some z → ∀ ls : Array Slot, lv_has ls 10 [(0, .ref (h 0)), (1, .int x1), (4, .int x4), (5, .int x5), (6, .int x6)] → WG p l e (rmO 7 159) s m args below meth c D A 0 0 Q (wM h q σ) (F0 m 63 ls [])) (x1 : Int32) (x4 : Int32) (x5 : Int32) (x6 : Int32) (x7 : Int32) (x8 : Int32) (σ : St), pf_X7_read_b180 N J63 x1 x4 x5 x6 x7 x8 σ = some z → ∀ ls : Array Slot, lv_has ls 10 [(0, .ref (h 0)), (1, .int x1), (4, .int x4), (5, .int x5), (6, .int x6), (7, .int x7), (8, .int x8)] → WG p l e (rmO 7 159) s m args below meth c D A 0 0 Q (wM h q σ) (F0 m 180 ls []) := by
    intro J63 hJ63 x1 x4 x5 x6 x7 x8 σ hf ls hl
    unfold pf_X7_read_b180 at hf
    refine s_iload C dX7_read_180 (lv_at hl 6 rfl) ?_
    refine s_if_ne (tgt := 196) C dX7_read_182 (by decide) (fun c24 => ?_) (fun c24 => ?_)
    · replace hf := it_f c24 hf
      exact b196 _ hJ63 _ _ _ _ _ hf _ (lv_sub hl [0, 1, 2, 3, 4] rfl)
    · replace hf := it_t c24 hf
      refine s_aload_n C dX7_read_185 rfl (lv_at hl 0 rfl) ?_
      refine s_iload_n C dX7_read_186 rfl (lv_at hl 1 rfl) ?_
      refine s_iload C dX7_read_187 (lv_at hl 5 rfl) ?_
      refine s_sipush (v := (256 : Int32)) C dX7_read_189 (by decide) ?_
      refine s_irem C dX7_read_192 (by decide) ?_
      obtain ⟨z25, h26, hf⟩ := bn_some hf
      refine s_callVV (As := [.int x1, .int (x7 - x7 / (256 : Int32) * (256 : Int32))]) (rest := []) C (c_X7_ahead l D q h N x1 (x7 - x7 / (256 : Int32) * (256 : Int32)) σ z25 h26) ⟨wd_4_81, wd_4_83, wd_s_40, wd_1_10, wd_4_84, cx_X7_ahead, Nat.le_of_ble_eq_true rfl, Nat.le_of_ble_eq_true rfl⟩ 0 (ci := 7) rfl rfl rfl (SubW.full _ _) rfl hl.1 rfl (Nat.le_of_ble_eq_true rfl) dX7_read_193 (Nat.zero_le _) (Nat.zero_le _) ?_
      exact b196 _ hJ63 _ _ _ _ _ hf _ (lv_sub hl [0, 1, 2, 3, 4] rfl)
  have L129 : ∀ (J63 : Int32 → Int32 → Int32 → Int32 → St → Option (Int32 × St)) (hJ63 : ∀ (x1 : Int32) (x4 : Int32) (x5 : Int32) (x6 : Int32) (σ : St), J63 x1 x4 x5 x6 σ = some z → ∀ ls : Array Slot, lv_has ls 10 [(0, .ref (h 0)), (1, .int x1), (4, .int x4), (5, .int x5), (6, .int x6)] → WG p l e (rmO 7 159) s m args below meth c D A 0 0 Q (wM h q σ) (F0 m 63 ls [])) (n : Nat) (x1 : Int32) (x4 : Int32) (x5 : Int32) (x6 : Int32) (x7 : Int32) (x8 : Int32) (x9 : Int32) (σ : St), pf_X7_read_L129 N J63 n x1 x4 x5 x6 x7 x8 x9 σ = some z → ∀ ls : Array Slot, lv_has ls 10 [(0, .ref (h 0)), (1, .int x1), (4, .int x4), (5, .int x5), (6, .int x6), (7, .int x7), (8, .int x8), (9, .int x9)] → WG p l e (rmO 7 159) s m args below meth c D A 0 0 Q (wM h q σ) (F0 m 129 ls []) := by
    intro J63 hJ63 n
    induction n with
    | zero => intro x1 x4 x5 x6 x7 x8 x9 σ hf; unfold pf_X7_read_L129 at hf; cases hf
    | succ n ih =>
      intro x1 x4 x5 x6 x7 x8 x9 σ hf ls hl
      unfold pf_X7_read_L129 at hf
      refine s_iload C dX7_read_129 (lv_at hl 4 rfl) ?_
      refine s_iload C dX7_read_131 (lv_at hl 2 rfl) ?_
      refine s_icmp_ge (tgt := 180) C dX7_read_133 (by decide) (fun c23 => ?_) (fun c23 => ?_)
      · replace hf := it_t c23 hf
        exact b180 _ hJ63 _ _ _ _ _ _ _ hf _ (lv_sub hl [0, 1, 2, 3, 4, 5, 6] rfl)
      · replace hf := it_f c23 hf
        refine s_iload C dX7_read_136 (lv_at hl 4 rfl) ?_
        refine s_iload C dX7_read_138 (lv_at hl 7 rfl) ?_
        refine s_icmp_ge (tgt := 180) C dX7_read_140 (by decide) (fun c27 => ?_) (fun c27 => ?_)
        · replace hf := it_t c27 hf
          exact b180 _ hJ63 _ _ _ _ _ _ _ hf _ (lv_sub hl [0, 1, 2, 3, 4, 5, 6] rfl)
        · replace hf := it_f c27 hf
          refine s_aload_n C dX7_read_143 rfl (lv_at hl 0 rfl) ?_
          refine gM_0_22 C wd_3_161 dX7_read_144 ?_
          refine s_iload C dX7_read_147 (lv_at hl 3 rfl) ?_
          refine s_aload_n C dX7_read_149 rfl (lv_at hl 0 rfl) ?_
          refine gM_0_18 C wd_3_157 dX7_read_150 ?_
          refine s_bipush (v := (64 : Int32)) C dX7_read_153 (by decide) ?_
          refine s_aload_n C dX7_read_155 rfl (lv_at hl 0 rfl) ?_
          refine gM_0_6 C wd_3_145 dX7_read_156 ?_
          refine s_iload C dX7_read_159 (lv_at hl 5 rfl) ?_
          obtain ⟨hi28, hf⟩ := bI_some hf
          refine ldM_5 C hi28 dX7_read_161 ?_
          refine s_imul C dX7_read_162 ?_
          refine s_iload C dX7_read_163 (lv_at hl 4 rfl) ?_
          refine s_bipush (v := (64 : Int32)) C dX7_read_165 (by decide) ?_
          refine s_irem C dX7_read_167 (by decide) ?_
          refine s_iadd C dX7_read_168 ?_
          obtain ⟨hi29, hf⟩ := bI_some hf
          refine ldM_15 C hi29 dX7_read_169 ?_
          obtain ⟨hi30, hf⟩ := bI_some hf
          refine stM_19 C hi30 dX7_read_170 ?_
          obtain ⟨σ31, e32, hf⟩ := lt_some hf
          refine s_w (ws2 := (wM h q σ31)) (by rw [e32]) ?_
          clear e32
          refine s_iinc (v := (x5 + 1)) (lv2 := [(5, .int (x5 + 1)), (0, .ref (h 0)), (1, .int x1), (4, .int x4), (6, .int x6), (7, .int x7), (8, .int x8), (9, .int x9)]) C 3 dX7_read_171 hl rfl rfl (by decide) rfl ?_
          intro ls hl
          refine s_iinc (v := (x6 + 1)) (lv2 := [(6, .int (x6 + 1)), (5, .int (x5 + 1)), (0, .ref (h 0)), (1, .int x1), (4, .int x4), (7, .int x7), (8, .int x8), (9, .int x9)]) C 4 dX7_read_174 hl rfl rfl (by decide) rfl ?_
          intro ls hl
          refine s_goto (tgt := 129) C dX7_read_177 (by decide) ?_
          exact ih _ _ _ _ _ _ _ _ hf _ (lv_sub hl [2, 3, 4, 1, 0, 5, 6, 7] rfl)
  have L63 : ∀ (n : Nat) (x1 : Int32) (x4 : Int32) (x5 : Int32) (x6 : Int32) (σ : St), pf_X7_read_L63 N n x1 x4 x5 x6 σ = some z → ∀ ls : Array Slot, lv_has ls 10 [(0, .ref (h 0)), (1, .int x1), (4, .int x4), (5, .int x5), (6, .int x6)] → WG p l e (rmO 7 159) s m args below meth c D A 0 0 Q (wM h q σ) (F0 m 63 ls []) := by
    intro n
    induction n with
    | zero => intro x1 x4 x5 x6 σ hf; unfold pf_X7_read_L63 at hf; cases hf
    | succ n ih =>
      intro x1 x4 x5 x6 σ hf ls hl
      unfold pf_X7_read_L63 at hf
      refine s_iload C dX7_read_63 (lv_at hl 4 rfl) ?_
      refine s_iload C dX7_read_65 (lv_at hl 2 rfl) ?_
      refine s_icmp_ge (tgt := 199) C dX7_read_67 (by decide) (fun c11 => ?_) (fun c11 => ?_)
      · replace hf := it_t c11 hf
        refine s_aload_n C dX7_read_199 rfl (lv_at hl 0 rfl) ?_
        refine s_iload C dX7_read_200 (lv_at hl 3 rfl) ?_
        refine uM_0_23 C wd_3_162 dX7_read_202 ?_
        obtain ⟨σ12, e13, hf⟩ := lt_some hf
        refine s_w (ws2 := (wM h q σ12)) (by rw [e13]) ?_
        clear e13
        refine s_iload C dX7_read_205 (lv_at hl 3 rfl) ?_
        exact ret _ _ _ _ dX7_read_207 rfl (rt_2 hf).1 (congrArg (fun σ => (wM h q σ)) (rt_2 hf).2)
      · replace hf := it_f c11 hf
        refine s_sipush (v := (256 : Int32)) C dX7_read_70 (by decide) ?_
        refine s_iload_n C dX7_read_73 rfl (lv_at hl 1 rfl) ?_
        refine s_imul C dX7_read_74 ?_
        refine s_iload C dX7_read_75 (lv_at hl 4 rfl) ?_
        refine s_bipush (v := (64 : Int32)) C dX7_read_77 (by decide) ?_
        refine s_idiv C dX7_read_79 (by decide) ?_
        refine s_iadd C dX7_read_80 ?_
        obtain ⟨v14, e15, hf⟩ := lt_some hf
        refine s_eq (g2 := F0 m 81 ls [.int v14]) (by rw [e15]) ?_
        clear e15
        refine s_istore (lv2 := [(7, .int v14), (0, .ref (h 0)), (1, .int x1), (4, .int x4), (5, .int x5), (6, .int x6)]) C dX7_read_81 hl (by decide) rfl ?_
        intro ls hl
        refine s_aload_n C dX7_read_83 rfl (lv_at hl 1 rfl) ?_
        refine s_iload C dX7_read_84 (lv_at hl 0 rfl) ?_
        obtain ⟨z16, h17, hf⟩ := bn_some hf
        refine s_callIV (As := [.int v14]) (rest := []) C (c_X7_isIn l D q h N v14 σ z16 h17) ⟨wd_4_13, wd_4_15, wd_s_23, wd_1_10, wd_4_16, cx_X7_isIn, Nat.le_of_ble_eq_true rfl, Nat.le_of_ble_eq_true rfl⟩ 0 (ci := 7) rfl rfl rfl (SubW.full _ _) rfl hl.1 rfl (Nat.le_of_ble_eq_true rfl) dX7_read_86 (Nat.zero_le _) (Nat.zero_le _) ?_
        refine s_istore (lv2 := [(8, .int z16), (7, .int v14), (0, .ref (h 0)), (1, .int x1), (4, .int x4), (5, .int x5), (6, .int x6)]) C dX7_read_89 hl (by decide) rfl ?_
        intro ls hl
        refine s_aload_n C dX7_read_91 rfl (lv_at hl 2 rfl) ?_
        refine s_iload C dX7_read_92 (lv_at hl 1 rfl) ?_
        obtain ⟨z18, h19, hf⟩ := bn_some hf
        refine s_callIV (As := [.int v14]) (rest := []) C (c_X7_touch l D q h N v14 σ z18 h19) ⟨wd_4_17, wd_4_19, wd_s_24, wd_1_10, wd_4_20, cx_X7_touch, Nat.le_of_ble_eq_true rfl, Nat.le_of_ble_eq_true rfl⟩ 0 (ci := 7) rfl rfl rfl (SubW.full _ _) rfl hl.1 rfl (Nat.le_of_ble_eq_true rfl) dX7_read_94 (Nat.zero_le _) (Nat.zero_le _) ?_
        refine s_if_ne (tgt := 117) C dX7_read_97 (by decide) (fun c20 => ?_) (fun c20 => ?_)
        · replace hf := it_f c20 hf
          refine s_bipush (v := (64 : Int32)) C dX7_read_117 (by decide) ?_
          refine s_iload C dX7_read_119 (lv_at hl 6 rfl) ?_
          refine s_bipush (v := (64 : Int32)) C dX7_read_121 (by decide) ?_
          refine s_idiv C dX7_read_123 (by decide) ?_
          refine s_iconst (v := (1 : Int32)) C dX7_read_124 (by decide) ?_
          refine s_iadd C dX7_read_125 ?_
          refine s_imul C dX7_read_126 ?_
          obtain ⟨v21, e22, hf⟩ := lt_some hf
          refine s_eq (g2 := F0 m 127 ls [.int v21]) (by rw [e22]) ?_
          clear e22
          refine s_istore (lv2 := [(9, .int v21), (8, .int z16), (7, .int v14), (0, .ref (h 0)), (1, .int x1), (4, .int x4), (5, .int x5), (6, .int x6)]) C dX7_read_127 hl (by decide) rfl ?_
          intro ls hl
          exact L129 _ ih N _ _ _ _ _ _ _ _ hf _ (lv_sub hl [3, 4, 5, 6, 7, 2, 1, 0] rfl)
        · replace hf := it_t c20 hf
          refine s_iload C dX7_read_100 (lv_at hl 5 rfl) ?_
          refine s_if_ne (tgt := 108) C dX7_read_102 (by decide) (fun c33 => ?_) (fun c33 => ?_)
          · replace hf := it_f c33 hf
            refine s_aload_n C dX7_read_108 rfl (lv_at hl 2 rfl) ?_
            refine s_iload C dX7_read_109 (lv_at hl 5 rfl) ?_
            refine uM_0_23 C wd_3_162 dX7_read_111 ?_
            obtain ⟨σ34, e35, hf⟩ := lt_some hf
            refine s_w (ws2 := (wM h q σ34)) (by rw [e35]) ?_
            clear e35
            refine s_iload C dX7_read_114 (lv_at hl 5 rfl) ?_
            exact ret _ _ _ _ dX7_read_116 rfl (rt_2 hf).1 (congrArg (fun σ => (wM h q σ)) (rt_2 hf).2)
          · replace hf := it_t c33 hf
            refine s_bipush (v := (-3 : Int32)) C dX7_read_105 (by decide) ?_
            exact ret _ _ _ _ dX7_read_107 rfl (rt_2 hf).1 (congrArg (fun σ => (wM h q σ)) (rt_2 hf).2)
  have b55 : ∀ (x1 : Int32) (x2 : Int32) (y0 : Int32) (σ : St), pf_X7_read_b55 N x1 x2 y0 σ = some z → ∀ ls : Array Slot, lv_has ls 10 [(0, .ref (h 0)), (1, .int x1), (2, .int x2)] → WG p l e (rmO 7 159) s m args below meth c D A 0 0 Q (wM h q σ) (F0 m 55 ls [.int y0]) := by
    intro x1 x2 y0 σ hf ls hl
    unfold pf_X7_read_b55 at hf
    refine s_istore (lv2 := [(4, .int y0), (0, .ref (h 0)), (1, .int x1), (2, .int x2)]) C dX7_read_55 hl (by decide) rfl ?_
    intro ls hl
    refine s_iconst (v := (0 : Int32)) C dX7_read_57 (by decide) ?_
    refine s_istore (lv2 := [(5, .int (0 : Int32)), (4, .int y0), (0, .ref (h 0)), (1, .int x1), (2, .int x2)]) C dX7_read_58 hl (by decide) rfl ?_
    intro ls hl
    refine s_iload_n C dX7_read_60 rfl (lv_at hl 4 rfl) ?_
    refine s_istore (lv2 := [(6, .int x2), (5, .int (0 : Int32)), (4, .int y0), (0, .ref (h 0)), (1, .int x1), (2, .int x2)]) C dX7_read_61 hl (by decide) rfl ?_
    intro ls hl
    exact L63 N _ _ _ _ _ hf _ (lv_sub hl [3, 4, 2, 1, 0] rfl)
  refine s_iload_n C dX7_read_0 rfl (lv_at hl 1 rfl) ?_
  obtain ⟨z1, h2, hf⟩ := bn_some hf
  refine s_callIS (As := [.int x1]) (rest := []) C (c_X7_isFile l D q (wM h q σ) N x1  z1 h2) ⟨wd_4_10, wd_4_11, wd_1_10, wd_4_12, cx_X7_isFile, Nat.le_of_ble_eq_true rfl, Nat.le_of_ble_eq_true rfl⟩ (SubW.full _ _) rfl hl.1 rfl (Nat.le_of_ble_eq_true rfl) dX7_read_1 (Nat.zero_le _) (Nat.zero_le _) ?_
  refine s_if_eq (tgt := 23) C dX7_read_4 (by decide) (fun c3 => ?_) (fun c3 => ?_)
  · replace hf := it_t c3 hf
    refine s_bipush (v := (-2 : Int32)) C dX7_read_23 (by decide) ?_
    exact ret _ _ _ _ dX7_read_25 rfl (rt_2 hf).1 (congrArg (fun σ => (wM h q σ)) (rt_2 hf).2)
  · replace hf := it_f c3 hf
    refine s_iload_n C dX7_read_7 rfl (lv_at hl 2 rfl) ?_
    refine s_if_lt (tgt := 23) C dX7_read_8 (by decide) (fun c4 => ?_) (fun c4 => ?_)
    · replace hf := it_t c4 hf
      refine s_bipush (v := (-2 : Int32)) C dX7_read_23 (by decide) ?_
      exact ret _ _ _ _ dX7_read_25 rfl (rt_2 hf).1 (congrArg (fun σ => (wM h q σ)) (rt_2 hf).2)
    · replace hf := it_f c4 hf
      refine s_iload_n C dX7_read_11 rfl (lv_at hl 3 rfl) ?_
      refine s_iconst (v := (1 : Int32)) C dX7_read_12 (by decide) ?_
      refine s_icmp_lt (tgt := 23) C dX7_read_13 (by decide) (fun c5 => ?_) (fun c5 => ?_)
      · replace hf := it_t c5 hf
        refine s_bipush (v := (-2 : Int32)) C dX7_read_23 (by decide) ?_
        exact ret _ _ _ _ dX7_read_25 rfl (rt_2 hf).1 (congrArg (fun σ => (wM h q σ)) (rt_2 hf).2)
      · replace hf := it_f c5 hf
        refine s_iload_n C dX7_read_16 rfl (lv_at hl 3 rfl) ?_
        refine s_sipush (v := (1024 : Int32)) C dX7_read_17 (by decide) ?_
        refine s_icmp_le (tgt := 26) C dX7_read_20 (by decide) (fun c6 => ?_) (fun c6 => ?_)
        · replace hf := it_t c6 hf
          refine s_aload_n C dX7_read_26 rfl (lv_at hl 0 rfl) ?_
          refine s_iconst (v := (0 : Int32)) C dX7_read_27 (by decide) ?_
          refine uM_0_33 C wd_3_172 rfl dX7_read_28 ?_
          obtain ⟨σ7, e8, hf⟩ := lt_some hf
          refine s_w (ws2 := (wM h q σ7)) (by rw [e8]) ?_
          clear e8
          refine s_aload_n C dX7_read_31 rfl (lv_at hl 0 rfl) ?_
          refine gM_0_2 C wd_3_141 dX7_read_32 ?_
          refine s_iload_n C dX7_read_35 rfl (lv_at hl 1 rfl) ?_
          obtain ⟨hi9, hf⟩ := bI_some hf
          refine ldM_1 C hi9 dX7_read_36 ?_
          refine s_iload_n C dX7_read_37 rfl (lv_at hl 2 rfl) ?_
          refine s_isub C dX7_read_38 ?_
          refine s_iload_n C dX7_read_39 rfl (lv_at hl 3 rfl) ?_
          refine s_icmp_ge (tgt := 52) C dX7_read_40 (by decide) (fun c10 => ?_) (fun c10 => ?_)
          · replace hf := it_t c10 hf
            refine s_iload_n C dX7_read_52 rfl (lv_at hl 2 rfl) ?_
            refine s_iload_n C dX7_read_53 rfl (lv_at hl 3 rfl) ?_
            refine s_iadd C dX7_read_54 ?_
            exact b55 _ _ _ _ hf _ (lv_sub hl [0, 1, 2] rfl)
          · replace hf := it_f c10 hf
            refine s_aload_n C dX7_read_43 rfl (lv_at hl 0 rfl) ?_
            refine gM_0_2 C wd_3_141 dX7_read_44 ?_
            refine s_iload_n C dX7_read_47 rfl (lv_at hl 1 rfl) ?_
            obtain ⟨hi36, hf⟩ := bI_some hf
            refine ldM_1 C hi36 dX7_read_48 ?_
            refine s_goto (tgt := 55) C dX7_read_49 (by decide) ?_
            exact b55 _ _ _ _ hf _ (lv_sub hl [0, 1, 2] rfl)
        · replace hf := it_f c6 hf
          refine s_bipush (v := (-2 : Int32)) C dX7_read_23 (by decide) ?_
          exact ret _ _ _ _ dX7_read_25 rfl (rt_2 hf).1 (congrArg (fun σ => (wM h q σ)) (rt_2 hf).2)
def pf_X7_run (N : Nat) (x1 : Int32) (x2 : Int32) (σ : St) : Option Int32 := if x2 < 0 then some (-2 : Int32) else if x2 ≤ (2 : Int32) then if x1 < 0 then some (-1 : Int32) else if x1 < (σ.1 10) then if x2 = 0 then bI x1 (4000) (some ((σ.2.1 20) (Int32.toNatClampNeg x1))) else if x2 = (1 : Int32) then bI x1 (4000) (some ((σ.2.1 21) (Int32.toNatClampNeg x1))) else bI x1 (4000) (some ((σ.2.1 22) (Int32.toNatClampNeg x1))) else some (-1 : Int32) else some (-2 : Int32)
theorem cx_X7_run : (yX7_run.cls ≠ "java/lang/invoke/MethodHandle" ∧ yX7_run.cls ≠ "java/lang/invoke/VarHandle" ∧ (parseMethodDescriptor yX7_run.desc).map (fun d => d.parameters.length) = some 2) := by decide +kernel
set_option maxHeartbeats 4000000 in
set_option maxRecDepth 100000 in
theorem c_X7_run (l : Launch) (D : va_G) (q : Nat → ClassId) (h : Nat → Nat) (N : Nat) (x1 : Int32) (x2 : Int32) (σ : St) (z : Int32) (hf : pf_X7_run N x1 x2 σ = some z) : MI l yX7_run cX7_run 3 (some .int) 0 0 D (tyQ q) [.ref (h 0), .int x1, .int x2] (wM h q σ) (wM h q σ) z := by
  refine MI.of (by decide) (Nat.le_of_ble_eq_true rfl) ?_
  intro p e s m args below meth c Q A C ret ls hl
  have hl : lv_has ls 3 [(0, .ref (h 0)), (1, .int x1), (2, .int x2)] := hl
  unfold pf_X7_run at hf
  refine s_iload_n C dX7_run_0 rfl (lv_at hl 2 rfl) ?_
  refine s_if_lt (tgt := 9) C dX7_run_1 (by decide) (fun c1 => ?_) (fun c1 => ?_)
  · replace hf := it_t c1 hf
    refine s_bipush (v := (-2 : Int32)) C dX7_run_9 (by decide) ?_
    exact ret _ _ _ _ dX7_run_11 rfl (rt_1 hf) rfl
  · replace hf := it_f c1 hf
    refine s_iload_n C dX7_run_4 rfl (lv_at hl 2 rfl) ?_
    refine s_iconst (v := (2 : Int32)) C dX7_run_5 (by decide) ?_
    refine s_icmp_le (tgt := 12) C dX7_run_6 (by decide) (fun c2 => ?_) (fun c2 => ?_)
    · replace hf := it_t c2 hf
      refine s_iload_n C dX7_run_12 rfl (lv_at hl 1 rfl) ?_
      refine s_if_lt (tgt := 24) C dX7_run_13 (by decide) (fun c3 => ?_) (fun c3 => ?_)
      · replace hf := it_t c3 hf
        refine s_iconst (v := (-1 : Int32)) C dX7_run_24 (by decide) ?_
        exact ret _ _ _ _ dX7_run_25 rfl (rt_1 hf) rfl
      · replace hf := it_f c3 hf
        refine s_iload_n C dX7_run_16 rfl (lv_at hl 1 rfl) ?_
        refine s_aload_n C dX7_run_17 rfl (lv_at hl 0 rfl) ?_
        refine gM_0_32 C wd_3_171 dX7_run_18 ?_
        refine s_icmp_lt (tgt := 26) C dX7_run_21 (by decide) (fun c4 => ?_) (fun c4 => ?_)
        · replace hf := it_t c4 hf
          refine s_iload_n C dX7_run_26 rfl (lv_at hl 2 rfl) ?_
          refine s_if_ne (tgt := 39) C dX7_run_27 (by decide) (fun c5 => ?_) (fun c5 => ?_)
          · replace hf := it_f c5 hf
            refine s_iload_n C dX7_run_39 rfl (lv_at hl 2 rfl) ?_
            refine s_iconst (v := (1 : Int32)) C dX7_run_40 (by decide) ?_
            refine s_icmp_ne (tgt := 53) C dX7_run_41 (by decide) (fun c6 => ?_) (fun c6 => ?_)
            · replace hf := it_f c6 hf
              refine s_aload_n C dX7_run_53 rfl (lv_at hl 0 rfl) ?_
              refine gM_0_31 C wd_3_170 dX7_run_54 ?_
              refine s_iload_n C dX7_run_57 rfl (lv_at hl 1 rfl) ?_
              obtain ⟨hi7, hf⟩ := bI_some hf
              refine ldM_22 C hi7 dX7_run_58 ?_
              exact ret _ _ _ _ dX7_run_59 rfl (rt_1 hf) rfl
            · replace hf := it_t c6 hf
              refine s_aload_n C dX7_run_44 rfl (lv_at hl 0 rfl) ?_
              refine gM_0_30 C wd_3_169 dX7_run_45 ?_
              refine s_iload_n C dX7_run_48 rfl (lv_at hl 1 rfl) ?_
              obtain ⟨hi8, hf⟩ := bI_some hf
              refine ldM_21 C hi8 dX7_run_49 ?_
              refine s_goto (tgt := 59) C dX7_run_50 (by decide) ?_
              exact ret _ _ _ _ dX7_run_59 rfl (rt_1 hf) rfl
          · replace hf := it_t c5 hf
            refine s_aload_n C dX7_run_30 rfl (lv_at hl 0 rfl) ?_
            refine gM_0_29 C wd_3_168 dX7_run_31 ?_
            refine s_iload_n C dX7_run_34 rfl (lv_at hl 1 rfl) ?_
            obtain ⟨hi9, hf⟩ := bI_some hf
            refine ldM_20 C hi9 dX7_run_35 ?_
            refine s_goto (tgt := 59) C dX7_run_36 (by decide) ?_
            exact ret _ _ _ _ dX7_run_59 rfl (rt_1 hf) rfl
        · replace hf := it_f c4 hf
          refine s_iconst (v := (-1 : Int32)) C dX7_run_24 (by decide) ?_
          exact ret _ _ _ _ dX7_run_25 rfl (rt_1 hf) rfl
    · replace hf := it_f c2 hf
      refine s_bipush (v := (-2 : Int32)) C dX7_run_9 (by decide) ?_
      exact ret _ _ _ _ dX7_run_11 rfl (rt_1 hf) rfl
def pf_X7_size (N : Nat) (x1 : Int32) (σ : St) : Option Int32 := (pf_X7_isFile N x1).bind (fun z1 => if z1 = 0 then some (-2 : Int32) else bI x1 (12) (some ((σ.2.1 1) (Int32.toNatClampNeg x1))))
theorem cx_X7_size : (yX7_size.cls ≠ "java/lang/invoke/MethodHandle" ∧ yX7_size.cls ≠ "java/lang/invoke/VarHandle" ∧ (parseMethodDescriptor yX7_size.desc).map (fun d => d.parameters.length) = some 1) := by decide +kernel
set_option maxHeartbeats 4000000 in
set_option maxRecDepth 100000 in
theorem c_X7_size (l : Launch) (D : va_G) (q : Nat → ClassId) (h : Nat → Nat) (N : Nat) (x1 : Int32) (σ : St) (z : Int32) (hf : pf_X7_size N x1 σ = some z) : MI l yX7_size cX7_size 2 (some .int) 1 20 D (tyQ q) [.ref (h 0), .int x1] (wM h q σ) (wM h q σ) z := by
  refine MI.of (by decide) (Nat.le_of_ble_eq_true rfl) ?_
  intro p e s m args below meth c Q A C ret ls hl
  have hl : lv_has ls 2 [(0, .ref (h 0)), (1, .int x1)] := hl
  unfold pf_X7_size at hf
  refine s_iload_n C dX7_size_0 rfl (lv_at hl 1 rfl) ?_
  obtain ⟨z1, h2, hf⟩ := bn_some hf
  refine s_callIS (As := [.int x1]) (rest := []) C (c_X7_isFile l D q (wM h q σ) N x1  z1 h2) ⟨wd_4_10, wd_4_11, wd_1_10, wd_4_12, cx_X7_isFile, Nat.le_of_ble_eq_true rfl, Nat.le_of_ble_eq_true rfl⟩ (SubW.full _ _) rfl hl.1 rfl (Nat.le_of_ble_eq_true rfl) dX7_size_1 (Nat.zero_le _) (Nat.zero_le _) ?_
  refine s_if_eq (tgt := 16) C dX7_size_4 (by decide) (fun c3 => ?_) (fun c3 => ?_)
  · replace hf := it_t c3 hf
    refine s_bipush (v := (-2 : Int32)) C dX7_size_16 (by decide) ?_
    exact ret _ _ _ _ dX7_size_18 rfl (rt_1 hf) rfl
  · replace hf := it_f c3 hf
    refine s_aload_n C dX7_size_7 rfl (lv_at hl 0 rfl) ?_
    refine gM_0_2 C wd_3_141 dX7_size_8 ?_
    refine s_iload_n C dX7_size_11 rfl (lv_at hl 1 rfl) ?_
    obtain ⟨hi4, hf⟩ := bI_some hf
    refine ldM_1 C hi4 dX7_size_12 ?_
    refine s_goto (tgt := 18) C dX7_size_13 (by decide) ?_
    exact ret _ _ _ _ dX7_size_18 rfl (rt_1 hf) rfl
def pf_X7_sync_b58 (N : Nat) (J23 : Int32 → Int32 → Int32 → St → Option (Int32 × St)) (x1 : Int32) (x3 : Int32) (y1 : Int32) (y0 : Int32) (σ : St) : Option (Int32 × St) := J23 x1 (y0 + y1) (x3 + 1) σ
def pf_X7_sync_b57 (N : Nat) (J23 : Int32 → Int32 → Int32 → St → Option (Int32 × St)) (x1 : Int32) (x3 : Int32) (y0 : Int32) (σ : St) : Option (Int32 × St) := pf_X7_sync_b58 N J23 x1 x3 (0 : Int32) y0 σ
def pf_X7_sync_L23 (N : Nat) : Nat → Int32 → Int32 → Int32 → St → Option (Int32 × St)
  | 0, _, _, _, _ => none
  | n + 1, x1, x2, x3, σ => if (((256 : Int32) * x1) + (256 : Int32)) ≤ x3 then bI x1 (12) (lt_ ((σ.2.1 4) (Int32.toNatClampNeg x1)) (fun v10 => bI x1 (12) (lt_ (sA σ 4 (upd (σ.2.1 4) (Int32.toNatClampNeg x1) (0 : Int32))) (fun σ13 => if v10 = 0 then some (x2, σ13) else some (v10, σ13))))) else (pf_X7_isDirty N x3 σ).bind (fun z16 => if z16 = 0 then pf_X7_sync_b57 N (pf_X7_sync_L23 N n) x1 x3 x2 σ else (pf_X7_written N x3 σ).bind (fun z19 => if z19.1 = 0 then pf_X7_sync_b57 N (pf_X7_sync_L23 N n) x1 x3 x2 z19.2 else pf_X7_sync_b58 N (pf_X7_sync_L23 N n) x1 x3 (1 : Int32) x2 z19.2))
def pf_X7_sync (N : Nat) (x1 : Int32) (σ : St) : Option (Int32 × St) := (pf_X7_isFile N x1).bind (fun z1 => if z1 = 0 then some ((-2 : Int32), σ) else lt_ (sG σ 11 (0 : Int32)) (fun σ4 => lt_ ((256 : Int32) * x1) (fun v6 => pf_X7_sync_L23 N N x1 (0 : Int32) v6 σ4)))
theorem cx_X7_sync : (yX7_sync.cls ≠ "java/lang/invoke/MethodHandle" ∧ yX7_sync.cls ≠ "java/lang/invoke/VarHandle" ∧ (parseMethodDescriptor yX7_sync.desc).map (fun d => d.parameters.length) = some 1) := by decide +kernel
set_option maxHeartbeats 4000000 in
set_option maxRecDepth 100000 in
theorem c_X7_sync (l : Launch) (D : va_G) (q : Nat → ClassId) (h : Nat → Nat) (N : Nat) (x1 : Int32) (σ : St) (z : (Int32 × St)) (hf : pf_X7_sync N x1 σ = some z) : MI l yX7_sync cX7_sync 4 (some .int) 3 69 D (tyQ q) [.ref (h 0), .int x1] (wM h q σ) (wM h q z.2) z.1 := by
  refine MI.of (by decide) (Nat.le_of_ble_eq_true rfl) ?_
  intro p e s m args below meth c Q A C ret ls hl
  have hl : lv_has ls 4 [(0, .ref (h 0)), (1, .int x1)] := hl
  unfold pf_X7_sync at hf
  have b58 : ∀ (J23 : Int32 → Int32 → Int32 → St → Option (Int32 × St)) (hJ23 : ∀ (x1 : Int32) (x2 : Int32) (x3 : Int32) (σ : St), J23 x1 x2 x3 σ = some z → ∀ ls : Array Slot, lv_has ls 4 [(0, .ref (h 0)), (1, .int x1), (2, .int x2), (3, .int x3)] → WG p l e (rmO 3 69) s m args below meth c D A 0 0 Q (wM h q σ) (F0 m 23 ls [])) (x1 : Int32) (x3 : Int32) (y1 : Int32) (y0 : Int32) (σ : St), pf_X7_sync_b58 N J23 x1 x3 y1 y0 σ = some z → ∀ ls : Array Slot, lv_has ls 4 [(0, .ref (h 0)), (1, .int x1), (3, .int x3)] → WG p l e (rmO 3 69) s m args below meth c D A 0 0 Q (wM h q σ) (F0 m 58 ls [.int y1, .int y0]) := by
    intro J23 hJ23 x1 x3 y1 y0 σ hf ls hl
    unfold pf_X7_sync_b58 at hf
    refine s_iadd C dX7_sync_58 ?_
    refine s_istore_n (lv2 := [(2, .int (y0 + y1)), (0, .ref (h 0)), (1, .int x1), (3, .int x3)]) C dX7_sync_59 rfl hl (by decide) rfl ?_
    intro ls hl
    refine s_iinc (v := (x3 + 1)) (lv2 := [(3, .int (x3 + 1)), (2, .int (y0 + y1)), (0, .ref (h 0)), (1, .int x1)]) C 3 dX7_sync_60 hl rfl rfl (by decide) rfl ?_
    intro ls hl
    refine s_goto (tgt := 23) C dX7_sync_63 (by decide) ?_
    exact hJ23 _ _ _ _ hf _ (lv_sub hl [2, 3, 1, 0] rfl)
  have b57 : ∀ (J23 : Int32 → Int32 → Int32 → St → Option (Int32 × St)) (hJ23 : ∀ (x1 : Int32) (x2 : Int32) (x3 : Int32) (σ : St), J23 x1 x2 x3 σ = some z → ∀ ls : Array Slot, lv_has ls 4 [(0, .ref (h 0)), (1, .int x1), (2, .int x2), (3, .int x3)] → WG p l e (rmO 3 69) s m args below meth c D A 0 0 Q (wM h q σ) (F0 m 23 ls [])) (x1 : Int32) (x3 : Int32) (y0 : Int32) (σ : St), pf_X7_sync_b57 N J23 x1 x3 y0 σ = some z → ∀ ls : Array Slot, lv_has ls 4 [(0, .ref (h 0)), (1, .int x1), (3, .int x3)] → WG p l e (rmO 3 69) s m args below meth c D A 0 0 Q (wM h q σ) (F0 m 57 ls [.int y0]) := by
    intro J23 hJ23 x1 x3 y0 σ hf ls hl
    unfold pf_X7_sync_b57 at hf
    refine s_iconst (v := (0 : Int32)) C dX7_sync_57 (by decide) ?_
    exact b58 _ hJ23 _ _ _ _ _ hf _ (lv_sub hl [0, 1, 2] rfl)
  have L23 : ∀ (n : Nat) (x1 : Int32) (x2 : Int32) (x3 : Int32) (σ : St), pf_X7_sync_L23 N n x1 x2 x3 σ = some z → ∀ ls : Array Slot, lv_has ls 4 [(0, .ref (h 0)), (1, .int x1), (2, .int x2), (3, .int x3)] → WG p l e (rmO 3 69) s m args below meth c D A 0 0 Q (wM h q σ) (F0 m 23 ls []) := by
    intro n
    induction n with
    | zero => intro x1 x2 x3 σ hf; unfold pf_X7_sync_L23 at hf; cases hf
    | succ n ih =>
      intro x1 x2 x3 σ hf ls hl
      unfold pf_X7_sync_L23 at hf
      refine s_iload_n C dX7_sync_23 rfl (lv_at hl 3 rfl) ?_
      refine s_sipush (v := (256 : Int32)) C dX7_sync_24 (by decide) ?_
      refine s_iload_n C dX7_sync_27 rfl (lv_at hl 1 rfl) ?_
      refine s_imul C dX7_sync_28 ?_
      refine s_sipush (v := (256 : Int32)) C dX7_sync_29 (by decide) ?_
      refine s_iadd C dX7_sync_32 ?_
      refine s_icmp_ge (tgt := 66) C dX7_sync_33 (by decide) (fun c8 => ?_) (fun c8 => ?_)
      · replace hf := it_t c8 hf
        refine s_aload_n C dX7_sync_66 rfl (lv_at hl 0 rfl) ?_
        refine gM_0_5 C wd_3_144 dX7_sync_67 ?_
        refine s_iload_n C dX7_sync_70 rfl (lv_at hl 1 rfl) ?_
        obtain ⟨hi9, hf⟩ := bI_some hf
        refine ldM_4 C hi9 dX7_sync_71 ?_
        obtain ⟨v10, e11, hf⟩ := lt_some hf
        refine s_eq (g2 := F0 m 72 ls [.int v10]) (by rw [e11]) ?_
        clear e11
        refine s_istore_n (lv2 := [(3, .int v10), (0, .ref (h 0)), (1, .int x1), (2, .int x2)]) C dX7_sync_72 rfl hl (by decide) rfl ?_
        intro ls hl
        refine s_aload_n C dX7_sync_73 rfl (lv_at hl 1 rfl) ?_
        refine gM_0_5 C wd_3_144 dX7_sync_74 ?_
        refine s_iload_n C dX7_sync_77 rfl (lv_at hl 2 rfl) ?_
        refine s_iconst (v := (0 : Int32)) C dX7_sync_78 (by decide) ?_
        obtain ⟨hi12, hf⟩ := bI_some hf
        refine stM_4 C hi12 dX7_sync_79 ?_
        obtain ⟨σ13, e14, hf⟩ := lt_some hf
        refine s_w (ws2 := (wM h q σ13)) (by rw [e14]) ?_
        clear e14
        refine s_iload_n C dX7_sync_80 rfl (lv_at hl 0 rfl) ?_
        refine s_if_ne (tgt := 88) C dX7_sync_81 (by decide) (fun c15 => ?_) (fun c15 => ?_)
        · replace hf := it_f c15 hf
          refine s_iload_n C dX7_sync_88 rfl (lv_at hl 0 rfl) ?_
          exact ret _ _ _ _ dX7_sync_89 rfl (rt_2 hf).1 (congrArg (fun σ => (wM h q σ)) (rt_2 hf).2)
        · replace hf := it_t c15 hf
          refine s_iload_n C dX7_sync_84 rfl (lv_at hl 3 rfl) ?_
          refine s_goto (tgt := 89) C dX7_sync_85 (by decide) ?_
          exact ret _ _ _ _ dX7_sync_89 rfl (rt_2 hf).1 (congrArg (fun σ => (wM h q σ)) (rt_2 hf).2)
      · replace hf := it_f c8 hf
        refine s_iload_n C dX7_sync_36 rfl (lv_at hl 2 rfl) ?_
        refine s_aload_n C dX7_sync_37 rfl (lv_at hl 0 rfl) ?_
        refine s_iload_n C dX7_sync_38 rfl (lv_at hl 3 rfl) ?_
        obtain ⟨z16, h17, hf⟩ := bn_some hf
        refine s_callIV (As := [.int x3]) (rest := [.int x2]) C (c_X7_isDirty l D q h N x3 σ z16 h17) ⟨wd_4_49, wd_4_51, wd_s_32, wd_1_10, wd_4_52, cx_X7_isDirty, Nat.le_of_ble_eq_true rfl, Nat.le_of_ble_eq_true rfl⟩ 0 (ci := 7) rfl rfl rfl (SubW.full _ _) rfl hl.1 rfl (Nat.le_of_ble_eq_true rfl) dX7_sync_39 (Nat.zero_le _) (Nat.zero_le _) ?_
        refine s_if_eq (tgt := 57) C dX7_sync_42 (by decide) (fun c18 => ?_) (fun c18 => ?_)
        · replace hf := it_t c18 hf
          exact b57 _ ih _ _ _ _ hf _ (lv_sub hl [0, 1, 3] rfl)
        · replace hf := it_f c18 hf
          refine s_aload_n C dX7_sync_45 rfl (lv_at hl 0 rfl) ?_
          refine s_iload_n C dX7_sync_46 rfl (lv_at hl 3 rfl) ?_
          obtain ⟨z19, h20, hf⟩ := bn_some hf
          refine s_callIV (As := [.int x3]) (rest := [.int x2]) C (c_X7_written l D q h N x3 σ z19 h20) ⟨wd_4_53, wd_4_55, wd_s_33, wd_1_10, wd_4_56, cx_X7_written, Nat.le_of_ble_eq_true rfl, Nat.le_of_ble_eq_true rfl⟩ 0 (ci := 7) rfl rfl rfl (SubW.full _ _) rfl hl.1 rfl (Nat.le_of_ble_eq_true rfl) dX7_sync_47 (Nat.zero_le _) (Nat.zero_le _) ?_
          refine s_if_eq (tgt := 57) C dX7_sync_50 (by decide) (fun c21 => ?_) (fun c21 => ?_)
          · replace hf := it_t c21 hf
            exact b57 _ ih _ _ _ _ hf _ (lv_sub hl [0, 1, 3] rfl)
          · replace hf := it_f c21 hf
            refine s_iconst (v := (1 : Int32)) C dX7_sync_53 (by decide) ?_
            refine s_goto (tgt := 58) C dX7_sync_54 (by decide) ?_
            exact b58 _ ih _ _ _ _ _ hf _ (lv_sub hl [0, 1, 3] rfl)
  refine s_iload_n C dX7_sync_0 rfl (lv_at hl 1 rfl) ?_
  obtain ⟨z1, h2, hf⟩ := bn_some hf
  refine s_callIS (As := [.int x1]) (rest := []) C (c_X7_isFile l D q (wM h q σ) N x1  z1 h2) ⟨wd_4_10, wd_4_11, wd_1_10, wd_4_12, cx_X7_isFile, Nat.le_of_ble_eq_true rfl, Nat.le_of_ble_eq_true rfl⟩ (SubW.full _ _) rfl hl.1 rfl (Nat.le_of_ble_eq_true rfl) dX7_sync_1 (Nat.zero_le _) (Nat.zero_le _) ?_
  refine s_if_ne (tgt := 10) C dX7_sync_4 (by decide) (fun c3 => ?_) (fun c3 => ?_)
  · replace hf := it_f c3 hf
    refine s_aload_n C dX7_sync_10 rfl (lv_at hl 0 rfl) ?_
    refine s_iconst (v := (0 : Int32)) C dX7_sync_11 (by decide) ?_
    refine uM_0_33 C wd_3_172 rfl dX7_sync_12 ?_
    obtain ⟨σ4, e5, hf⟩ := lt_some hf
    refine s_w (ws2 := (wM h q σ4)) (by rw [e5]) ?_
    clear e5
    refine s_iconst (v := (0 : Int32)) C dX7_sync_15 (by decide) ?_
    refine s_istore_n (lv2 := [(2, .int (0 : Int32)), (0, .ref (h 0)), (1, .int x1)]) C dX7_sync_16 rfl hl (by decide) rfl ?_
    intro ls hl
    refine s_sipush (v := (256 : Int32)) C dX7_sync_17 (by decide) ?_
    refine s_iload_n C dX7_sync_20 rfl (lv_at hl 2 rfl) ?_
    refine s_imul C dX7_sync_21 ?_
    obtain ⟨v6, e7, hf⟩ := lt_some hf
    refine s_eq (g2 := F0 m 22 ls [.int v6]) (by rw [e7]) ?_
    clear e7
    refine s_istore_n (lv2 := [(3, .int v6), (2, .int (0 : Int32)), (0, .ref (h 0)), (1, .int x1)]) C dX7_sync_22 rfl hl (by decide) rfl ?_
    intro ls hl
    exact L23 N _ _ _ _ hf _ (lv_sub hl [2, 3, 1, 0] rfl)
  · replace hf := it_t c3 hf
    refine s_bipush (v := (-2 : Int32)) C dX7_sync_7 (by decide) ?_
    exact ret _ _ _ _ dX7_sync_9 rfl (rt_2 hf).1 (congrArg (fun σ => (wM h q σ)) (rt_2 hf).2)
def pf_X7_syncAll_b97 (N : Nat) (J46 : Int32 → Int32 → St → Option (Int32 × St)) (J56 : Int32 → Int32 → Int32 → St → Option (Int32 × St)) (x1 : Int32) (x2 : Int32) (x3 : Int32) (σ : St) : Option (Int32 × St) := J56 x1 x2 (x3 + 1) σ
def pf_X7_syncAll_b95 (N : Nat) (J46 : Int32 → Int32 → St → Option (Int32 × St)) (J56 : Int32 → Int32 → Int32 → St → Option (Int32 × St)) (x2 : Int32) (x3 : Int32) (y1 : Int32) (y0 : Int32) (σ : St) : Option (Int32 × St) := pf_X7_syncAll_b97 N J46 J56 (y0 + y1) x2 x3 σ
def pf_X7_syncAll_L56 (N : Nat) (J46 : Int32 → Int32 → St → Option (Int32 × St)) : Nat → Int32 → Int32 → Int32 → St → Option (Int32 × St)
  | 0, _, _, _, _ => none
  | n + 1, x1, x2, x3, σ => if (3072 : Int32) ≤ x3 then J46 x1 (x2 + 1) σ else bI x3 (3072) (if ((σ.2.1 6) (Int32.toNatClampNeg x3)) = x2 then (pf_X7_isDirty N x3 σ).bind (fun z8 => if z8 = 0 then pf_X7_syncAll_b97 N J46 (pf_X7_syncAll_L56 N J46 n) x1 x2 x3 σ else (pf_X7_written N x3 σ).bind (fun z11 => if z11.1 = 0 then pf_X7_syncAll_b95 N J46 (pf_X7_syncAll_L56 N J46 n) x2 x3 (0 : Int32) x1 z11.2 else pf_X7_syncAll_b95 N J46 (pf_X7_syncAll_L56 N J46 n) x2 x3 (1 : Int32) x1 z11.2)) else pf_X7_syncAll_b97 N J46 (pf_X7_syncAll_L56 N J46 n) x1 x2 x3 σ)
def pf_X7_syncAll_L46 (N : Nat) : Nat → Int32 → Int32 → St → Option (Int32 × St)
  | 0, _, _, _ => none
  | n + 1, x1, x2, σ => if (σ.1 1) ≤ x2 then some (x1, σ) else pf_X7_syncAll_L56 N (pf_X7_syncAll_L46 N n) N x1 x2 (0 : Int32) σ
def pf_X7_syncAll_b35 (N : Nat) (J7 : Int32 → St → Option (Int32 × St)) (x1 : Int32) (y0 : Int32) (σ : St) : Option (Int32 × St) := J7 (x1 + 1) σ
def pf_X7_syncAll_b34 (N : Nat) (J7 : Int32 → St → Option (Int32 × St)) (x1 : Int32) (σ : St) : Option (Int32 × St) := pf_X7_syncAll_b35 N J7 x1 (0 : Int32) σ
def pf_X7_syncAll_L7 (N : Nat) : Nat → Int32 → St → Option (Int32 × St)
  | 0, _, _ => none
  | n + 1, x1, σ => if (3072 : Int32) ≤ x1 then pf_X7_syncAll_L46 N N (0 : Int32) (0 : Int32) σ else (pf_X7_isDirty N x1 σ).bind (fun z14 => if z14 = 0 then pf_X7_syncAll_b34 N (pf_X7_syncAll_L7 N n) x1 σ else (pf_X7_hasBlock N x1 σ).bind (fun z17 => if z17.1 = 0 then pf_X7_syncAll_b34 N (pf_X7_syncAll_L7 N n) x1 z17.2 else pf_X7_syncAll_b35 N (pf_X7_syncAll_L7 N n) x1 (1 : Int32) z17.2))
def pf_X7_syncAll (N : Nat) (σ : St) : Option (Int32 × St) := lt_ (sG σ 11 (0 : Int32)) (fun σ1 => pf_X7_syncAll_L7 N N (0 : Int32) σ1)
theorem cx_X7_syncAll : (yX7_syncAll.cls ≠ "java/lang/invoke/MethodHandle" ∧ yX7_syncAll.cls ≠ "java/lang/invoke/VarHandle" ∧ (parseMethodDescriptor yX7_syncAll.desc).map (fun d => d.parameters.length) = some 0) := by decide +kernel
set_option maxHeartbeats 4000000 in
set_option maxRecDepth 100000 in
theorem c_X7_syncAll (l : Launch) (D : va_G) (q : Nat → ClassId) (h : Nat → Nat) (N : Nat) (σ : St) (z : (Int32 × St)) (hf : pf_X7_syncAll N σ = some z) : MI l yX7_syncAll cX7_syncAll 4 (some .int) 3 69 D (tyQ q) [.ref (h 0)] (wM h q σ) (wM h q z.2) z.1 := by
  refine MI.of (by decide) (Nat.le_of_ble_eq_true rfl) ?_
  intro p e s m args below meth c Q A C ret ls hl
  have hl : lv_has ls 4 [(0, .ref (h 0))] := hl
  unfold pf_X7_syncAll at hf
  have b97 : ∀ (J46 : Int32 → Int32 → St → Option (Int32 × St)) (J56 : Int32 → Int32 → Int32 → St → Option (Int32 × St)) (hJ46 : ∀ (x1 : Int32) (x2 : Int32) (σ : St), J46 x1 x2 σ = some z → ∀ ls : Array Slot, lv_has ls 4 [(0, .ref (h 0)), (1, .int x1), (2, .int x2)] → WG p l e (rmO 3 69) s m args below meth c D A 0 0 Q (wM h q σ) (F0 m 46 ls [])) (hJ56 : ∀ (x1 : Int32) (x2 : Int32) (x3 : Int32) (σ : St), J56 x1 x2 x3 σ = some z → ∀ ls : Array Slot, lv_has ls 4 [(0, .ref (h 0)), (1, .int x1), (2, .int x2), (3, .int x3)] → WG p l e (rmO 3 69) s m args below meth c D A 0 0 Q (wM h q σ) (F0 m 56 ls [])) (x1 : Int32) (x2 : Int32) (x3 : Int32) (σ : St), pf_X7_syncAll_b97 N J46 J56 x1 x2 x3 σ = some z → ∀ ls : Array Slot, lv_has ls 4 [(0, .ref (h 0)), (1, .int x1), (2, .int x2), (3, .int x3)] → WG p l e (rmO 3 69) s m args below meth c D A 0 0 Q (wM h q σ) (F0 m 97 ls []) := by
    intro J46 J56 hJ46 hJ56 x1 x2 x3 σ hf ls hl
    unfold pf_X7_syncAll_b97 at hf
    refine s_iinc (v := (x3 + 1)) (lv2 := [(3, .int (x3 + 1)), (0, .ref (h 0)), (1, .int x1), (2, .int x2)]) C 3 dX7_syncAll_97 hl rfl rfl (by decide) rfl ?_
    intro ls hl
    refine s_goto (tgt := 56) C dX7_syncAll_100 (by decide) ?_
    exact hJ56 _ _ _ _ hf _ (lv_sub hl [1, 2, 3, 0] rfl)
  have b95 : ∀ (J46 : Int32 → Int32 → St → Option (Int32 × St)) (J56 : Int32 → Int32 → Int32 → St → Option (Int32 × St)) (hJ46 : ∀ (x1 : Int32) (x2 : Int32) (σ : St), J46 x1 x2 σ = some z → ∀ ls : Array Slot, lv_has ls 4 [(0, .ref (h 0)), (1, .int x1), (2, .int x2)] → WG p l e (rmO 3 69) s m args below meth c D A 0 0 Q (wM h q σ) (F0 m 46 ls [])) (hJ56 : ∀ (x1 : Int32) (x2 : Int32) (x3 : Int32) (σ : St), J56 x1 x2 x3 σ = some z → ∀ ls : Array Slot, lv_has ls 4 [(0, .ref (h 0)), (1, .int x1), (2, .int x2), (3, .int x3)] → WG p l e (rmO 3 69) s m args below meth c D A 0 0 Q (wM h q σ) (F0 m 56 ls [])) (x2 : Int32) (x3 : Int32) (y1 : Int32) (y0 : Int32) (σ : St), pf_X7_syncAll_b95 N J46 J56 x2 x3 y1 y0 σ = some z → ∀ ls : Array Slot, lv_has ls 4 [(0, .ref (h 0)), (2, .int x2), (3, .int x3)] → WG p l e (rmO 3 69) s m args below meth c D A 0 0 Q (wM h q σ) (F0 m 95 ls [.int y1, .int y0]) := by
    intro J46 J56 hJ46 hJ56 x2 x3 y1 y0 σ hf ls hl
    unfold pf_X7_syncAll_b95 at hf
    refine s_iadd C dX7_syncAll_95 ?_
    refine s_istore_n (lv2 := [(1, .int (y0 + y1)), (0, .ref (h 0)), (2, .int x2), (3, .int x3)]) C dX7_syncAll_96 rfl hl (by decide) rfl ?_
    intro ls hl
    exact b97 _ _ hJ46 hJ56 _ _ _ _ hf _ (lv_sub hl [1, 0, 2, 3] rfl)
  have L56 : ∀ (J46 : Int32 → Int32 → St → Option (Int32 × St)) (hJ46 : ∀ (x1 : Int32) (x2 : Int32) (σ : St), J46 x1 x2 σ = some z → ∀ ls : Array Slot, lv_has ls 4 [(0, .ref (h 0)), (1, .int x1), (2, .int x2)] → WG p l e (rmO 3 69) s m args below meth c D A 0 0 Q (wM h q σ) (F0 m 46 ls [])) (n : Nat) (x1 : Int32) (x2 : Int32) (x3 : Int32) (σ : St), pf_X7_syncAll_L56 N J46 n x1 x2 x3 σ = some z → ∀ ls : Array Slot, lv_has ls 4 [(0, .ref (h 0)), (1, .int x1), (2, .int x2), (3, .int x3)] → WG p l e (rmO 3 69) s m args below meth c D A 0 0 Q (wM h q σ) (F0 m 56 ls []) := by
    intro J46 hJ46 n
    induction n with
    | zero => intro x1 x2 x3 σ hf; unfold pf_X7_syncAll_L56 at hf; cases hf
    | succ n ih =>
      intro x1 x2 x3 σ hf ls hl
      unfold pf_X7_syncAll_L56 at hf
      refine s_iload_n C dX7_syncAll_56 rfl (lv_at hl 3 rfl) ?_
      refine s_sipush (v := (3072 : Int32)) C dX7_syncAll_57 (by decide) ?_
      refine s_icmp_ge (tgt := 103) C dX7_syncAll_60 (by decide) (fun c5 => ?_) (fun c5 => ?_)
      · replace hf := it_t c5 hf
        refine s_iinc (v := (x2 + 1)) (lv2 := [(2, .int (x2 + 1)), (0, .ref (h 0)), (1, .int x1), (3, .int x3)]) C 2 dX7_syncAll_103 hl rfl rfl (by decide) rfl ?_
        intro ls hl
        refine s_goto (tgt := 46) C dX7_syncAll_106 (by decide) ?_
        exact hJ46 _ _ _ hf _ (lv_sub hl [1, 2, 0] rfl)
      · replace hf := it_f c5 hf
        refine s_aload_n C dX7_syncAll_63 rfl (lv_at hl 0 rfl) ?_
        refine gM_0_7 C wd_3_146 dX7_syncAll_64 ?_
        refine s_iload_n C dX7_syncAll_67 rfl (lv_at hl 3 rfl) ?_
        obtain ⟨hi6, hf⟩ := bI_some hf
        refine ldM_6 C hi6 dX7_syncAll_68 ?_
        refine s_iload_n C dX7_syncAll_69 rfl (lv_at hl 2 rfl) ?_
        refine s_icmp_ne (tgt := 97) C dX7_syncAll_70 (by decide) (fun c7 => ?_) (fun c7 => ?_)
        · replace hf := it_f c7 hf
          exact b97 _ _ hJ46 ih _ _ _ _ hf _ (lv_sub hl [0, 1, 2, 3] rfl)
        · replace hf := it_t c7 hf
          refine s_aload_n C dX7_syncAll_73 rfl (lv_at hl 0 rfl) ?_
          refine s_iload_n C dX7_syncAll_74 rfl (lv_at hl 3 rfl) ?_
          obtain ⟨z8, h9, hf⟩ := bn_some hf
          refine s_callIV (As := [.int x3]) (rest := []) C (c_X7_isDirty l D q h N x3 σ z8 h9) ⟨wd_4_49, wd_4_51, wd_s_32, wd_1_10, wd_4_52, cx_X7_isDirty, Nat.le_of_ble_eq_true rfl, Nat.le_of_ble_eq_true rfl⟩ 0 (ci := 7) rfl rfl rfl (SubW.full _ _) rfl hl.1 rfl (Nat.le_of_ble_eq_true rfl) dX7_syncAll_75 (Nat.zero_le _) (Nat.zero_le _) ?_
          refine s_if_eq (tgt := 97) C dX7_syncAll_78 (by decide) (fun c10 => ?_) (fun c10 => ?_)
          · replace hf := it_t c10 hf
            exact b97 _ _ hJ46 ih _ _ _ _ hf _ (lv_sub hl [0, 1, 2, 3] rfl)
          · replace hf := it_f c10 hf
            refine s_iload_n C dX7_syncAll_81 rfl (lv_at hl 1 rfl) ?_
            refine s_aload_n C dX7_syncAll_82 rfl (lv_at hl 0 rfl) ?_
            refine s_iload_n C dX7_syncAll_83 rfl (lv_at hl 3 rfl) ?_
            obtain ⟨z11, h12, hf⟩ := bn_some hf
            refine s_callIV (As := [.int x3]) (rest := [.int x1]) C (c_X7_written l D q h N x3 σ z11 h12) ⟨wd_4_53, wd_4_55, wd_s_33, wd_1_10, wd_4_56, cx_X7_written, Nat.le_of_ble_eq_true rfl, Nat.le_of_ble_eq_true rfl⟩ 0 (ci := 7) rfl rfl rfl (SubW.full _ _) rfl hl.1 rfl (Nat.le_of_ble_eq_true rfl) dX7_syncAll_84 (Nat.zero_le _) (Nat.zero_le _) ?_
            refine s_if_eq (tgt := 94) C dX7_syncAll_87 (by decide) (fun c13 => ?_) (fun c13 => ?_)
            · replace hf := it_t c13 hf
              refine s_iconst (v := (0 : Int32)) C dX7_syncAll_94 (by decide) ?_
              exact b95 _ _ hJ46 ih _ _ _ _ _ hf _ (lv_sub hl [0, 2, 3] rfl)
            · replace hf := it_f c13 hf
              refine s_iconst (v := (1 : Int32)) C dX7_syncAll_90 (by decide) ?_
              refine s_goto (tgt := 95) C dX7_syncAll_91 (by decide) ?_
              exact b95 _ _ hJ46 ih _ _ _ _ _ hf _ (lv_sub hl [0, 2, 3] rfl)
  have L46 : ∀ (n : Nat) (x1 : Int32) (x2 : Int32) (σ : St), pf_X7_syncAll_L46 N n x1 x2 σ = some z → ∀ ls : Array Slot, lv_has ls 4 [(0, .ref (h 0)), (1, .int x1), (2, .int x2)] → WG p l e (rmO 3 69) s m args below meth c D A 0 0 Q (wM h q σ) (F0 m 46 ls []) := by
    intro n
    induction n with
    | zero => intro x1 x2 σ hf; unfold pf_X7_syncAll_L46 at hf; cases hf
    | succ n ih =>
      intro x1 x2 σ hf ls hl
      unfold pf_X7_syncAll_L46 at hf
      refine s_iload_n C dX7_syncAll_46 rfl (lv_at hl 2 rfl) ?_
      refine s_aload_n C dX7_syncAll_47 rfl (lv_at hl 0 rfl) ?_
      refine gM_0_1 C wd_3_140 dX7_syncAll_48 ?_
      refine s_icmp_ge (tgt := 109) C dX7_syncAll_51 (by decide) (fun c4 => ?_) (fun c4 => ?_)
      · replace hf := it_t c4 hf
        refine s_iload_n C dX7_syncAll_109 rfl (lv_at hl 1 rfl) ?_
        exact ret _ _ _ _ dX7_syncAll_110 rfl (rt_2 hf).1 (congrArg (fun σ => (wM h q σ)) (rt_2 hf).2)
      · replace hf := it_f c4 hf
        refine s_iconst (v := (0 : Int32)) C dX7_syncAll_54 (by decide) ?_
        refine s_istore_n (lv2 := [(3, .int (0 : Int32)), (0, .ref (h 0)), (1, .int x1), (2, .int x2)]) C dX7_syncAll_55 rfl hl (by decide) rfl ?_
        intro ls hl
        exact L56 _ ih N _ _ _ _ hf _ (lv_sub hl [1, 2, 3, 0] rfl)
  have b35 : ∀ (J7 : Int32 → St → Option (Int32 × St)) (hJ7 : ∀ (x1 : Int32) (σ : St), J7 x1 σ = some z → ∀ ls : Array Slot, lv_has ls 4 [(0, .ref (h 0)), (1, .int x1)] → WG p l e (rmO 3 69) s m args below meth c D A 0 0 Q (wM h q σ) (F0 m 7 ls [])) (x1 : Int32) (y0 : Int32) (σ : St), pf_X7_syncAll_b35 N J7 x1 y0 σ = some z → ∀ ls : Array Slot, lv_has ls 4 [(0, .ref (h 0)), (1, .int x1)] → WG p l e (rmO 3 69) s m args below meth c D A 0 0 Q (wM h q σ) (F0 m 35 ls [.int y0]) := by
    intro J7 hJ7 x1 y0 σ hf ls hl
    unfold pf_X7_syncAll_b35 at hf
    refine s_istore_n (lv2 := [(2, .int y0), (0, .ref (h 0)), (1, .int x1)]) C dX7_syncAll_35 rfl hl (by decide) rfl ?_
    intro ls hl
    refine s_iinc (v := (x1 + 1)) (lv2 := [(1, .int (x1 + 1)), (2, .int y0), (0, .ref (h 0))]) C 2 dX7_syncAll_36 hl rfl rfl (by decide) rfl ?_
    intro ls hl
    refine s_goto (tgt := 7) C dX7_syncAll_39 (by decide) ?_
    exact hJ7 _ _ hf _ (lv_sub hl [2, 0] rfl)
  have b34 : ∀ (J7 : Int32 → St → Option (Int32 × St)) (hJ7 : ∀ (x1 : Int32) (σ : St), J7 x1 σ = some z → ∀ ls : Array Slot, lv_has ls 4 [(0, .ref (h 0)), (1, .int x1)] → WG p l e (rmO 3 69) s m args below meth c D A 0 0 Q (wM h q σ) (F0 m 7 ls [])) (x1 : Int32) (σ : St), pf_X7_syncAll_b34 N J7 x1 σ = some z → ∀ ls : Array Slot, lv_has ls 4 [(0, .ref (h 0)), (1, .int x1)] → WG p l e (rmO 3 69) s m args below meth c D A 0 0 Q (wM h q σ) (F0 m 34 ls []) := by
    intro J7 hJ7 x1 σ hf ls hl
    unfold pf_X7_syncAll_b34 at hf
    refine s_iconst (v := (0 : Int32)) C dX7_syncAll_34 (by decide) ?_
    exact b35 _ hJ7 _ _ _ hf _ (lv_sub hl [0, 1] rfl)
  have L7 : ∀ (n : Nat) (x1 : Int32) (σ : St), pf_X7_syncAll_L7 N n x1 σ = some z → ∀ ls : Array Slot, lv_has ls 4 [(0, .ref (h 0)), (1, .int x1)] → WG p l e (rmO 3 69) s m args below meth c D A 0 0 Q (wM h q σ) (F0 m 7 ls []) := by
    intro n
    induction n with
    | zero => intro x1 σ hf; unfold pf_X7_syncAll_L7 at hf; cases hf
    | succ n ih =>
      intro x1 σ hf ls hl
      unfold pf_X7_syncAll_L7 at hf
      refine s_iload_n C dX7_syncAll_7 rfl (lv_at hl 1 rfl) ?_
      refine s_sipush (v := (3072 : Int32)) C dX7_syncAll_8 (by decide) ?_
      refine s_icmp_ge (tgt := 42) C dX7_syncAll_11 (by decide) (fun c3 => ?_) (fun c3 => ?_)
      · replace hf := it_t c3 hf
        refine s_iconst (v := (0 : Int32)) C dX7_syncAll_42 (by decide) ?_
        refine s_istore_n (lv2 := [(1, .int (0 : Int32)), (0, .ref (h 0))]) C dX7_syncAll_43 rfl hl (by decide) rfl ?_
        intro ls hl
        refine s_iconst (v := (0 : Int32)) C dX7_syncAll_44 (by decide) ?_
        refine s_istore_n (lv2 := [(2, .int (0 : Int32)), (1, .int (0 : Int32)), (0, .ref (h 0))]) C dX7_syncAll_45 rfl hl (by decide) rfl ?_
        intro ls hl
        exact L46 N _ _ _ hf _ (lv_sub hl [2, 1, 0] rfl)
      · replace hf := it_f c3 hf
        refine s_aload_n C dX7_syncAll_14 rfl (lv_at hl 0 rfl) ?_
        refine s_iload_n C dX7_syncAll_15 rfl (lv_at hl 1 rfl) ?_
        obtain ⟨z14, h15, hf⟩ := bn_some hf
        refine s_callIV (As := [.int x1]) (rest := []) C (c_X7_isDirty l D q h N x1 σ z14 h15) ⟨wd_4_49, wd_4_51, wd_s_32, wd_1_10, wd_4_52, cx_X7_isDirty, Nat.le_of_ble_eq_true rfl, Nat.le_of_ble_eq_true rfl⟩ 0 (ci := 7) rfl rfl rfl (SubW.full _ _) rfl hl.1 rfl (Nat.le_of_ble_eq_true rfl) dX7_syncAll_16 (Nat.zero_le _) (Nat.zero_le _) ?_
        refine s_if_eq (tgt := 34) C dX7_syncAll_19 (by decide) (fun c16 => ?_) (fun c16 => ?_)
        · replace hf := it_t c16 hf
          exact b34 _ ih _ _ hf _ (lv_sub hl [0, 1] rfl)
        · replace hf := it_f c16 hf
          refine s_aload_n C dX7_syncAll_22 rfl (lv_at hl 0 rfl) ?_
          refine s_iload_n C dX7_syncAll_23 rfl (lv_at hl 1 rfl) ?_
          obtain ⟨z17, h18, hf⟩ := bn_some hf
          refine s_callIV (As := [.int x1]) (rest := []) C (c_X7_hasBlock l D q h N x1 σ z17 h18) ⟨wd_4_57, wd_4_59, wd_s_34, wd_1_10, wd_4_60, cx_X7_hasBlock, Nat.le_of_ble_eq_true rfl, Nat.le_of_ble_eq_true rfl⟩ 0 (ci := 7) rfl rfl rfl (SubW.full _ _) rfl hl.1 rfl (Nat.le_of_ble_eq_true rfl) dX7_syncAll_24 (Nat.zero_le _) (Nat.zero_le _) ?_
          refine s_if_eq (tgt := 34) C dX7_syncAll_27 (by decide) (fun c19 => ?_) (fun c19 => ?_)
          · replace hf := it_t c19 hf
            exact b34 _ ih _ _ hf _ (lv_sub hl [0, 1] rfl)
          · replace hf := it_f c19 hf
            refine s_iconst (v := (1 : Int32)) C dX7_syncAll_30 (by decide) ?_
            refine s_goto (tgt := 35) C dX7_syncAll_31 (by decide) ?_
            exact b35 _ ih _ _ _ hf _ (lv_sub hl [0, 1] rfl)
  refine s_aload_n C dX7_syncAll_0 rfl (lv_at hl 0 rfl) ?_
  refine s_iconst (v := (0 : Int32)) C dX7_syncAll_1 (by decide) ?_
  refine uM_0_33 C wd_3_172 rfl dX7_syncAll_2 ?_
  obtain ⟨σ1, e2, hf⟩ := lt_some hf
  refine s_w (ws2 := (wM h q σ1)) (by rw [e2]) ?_
  clear e2
  refine s_iconst (v := (0 : Int32)) C dX7_syncAll_5 (by decide) ?_
  refine s_istore_n (lv2 := [(1, .int (0 : Int32)), (0, .ref (h 0))]) C dX7_syncAll_6 rfl hl (by decide) rfl ?_
  intro ls hl
  exact L7 N _ _ hf _ (lv_sub hl [1, 0] rfl)
def pf_X7_tick_b94 (N : Nat) (J23 : Int32 → Int32 → Int32 → St → Option (Int32 × St)) (J45 : Int32 → Int32 → Int32 → Int32 → St → Option (Int32 × St)) (x1 : Int32) (x2 : Int32) (x3 : Int32) (x4 : Int32) (σ : St) : Option (Int32 × St) := J45 x1 x2 x3 (x4 + 1) σ
def pf_X7_tick_b84 (N : Nat) (J23 : Int32 → Int32 → Int32 → St → Option (Int32 × St)) (J45 : Int32 → Int32 → Int32 → Int32 → St → Option (Int32 × St)) (x1 : Int32) (x3 : Int32) (x4 : Int32) (x5 : Int32) (y1 : Int32) (y0 : Int32) (σ : St) : Option (Int32 × St) := bI x5 (3072) (lt_ (sA σ 23 (upd (σ.2.1 23) (Int32.toNatClampNeg x5) (vp_nar .boolean (1 : Int32)))) (fun σ18 => pf_X7_tick_b94 N J23 J45 x1 (y0 + y1) x3 x4 σ18))
def pf_X7_tick_L45 (N : Nat) (J23 : Int32 → Int32 → Int32 → St → Option (Int32 × St)) : Nat → Int32 → Int32 → Int32 → Int32 → St → Option (Int32 × St)
  | 0, _, _, _, _, _ => none
  | n + 1, x1, x2, x3, x4, σ => if (4 : Int32) ≤ x4 then J23 x1 x2 (x3 + 1) σ else (pf_X7_oldest N ((σ.1 5) - (5 : Int32)) σ).bind (fun z11 => if z11 = (-1 : Int32) then pf_X7_tick_b94 N J23 (pf_X7_tick_L45 N J23 n) x1 x2 x3 x4 σ else (pf_X7_written N z11 σ).bind (fun z14 => if z14.1 = 0 then pf_X7_tick_b84 N J23 (pf_X7_tick_L45 N J23 n) x1 x3 x4 z11 (0 : Int32) x2 z14.2 else pf_X7_tick_b84 N J23 (pf_X7_tick_L45 N J23 n) x1 x3 x4 z11 (1 : Int32) x2 z14.2))
def pf_X7_tick_L23 (N : Nat) : Nat → Int32 → Int32 → Int32 → St → Option (Int32 × St)
  | 0, _, _, _, _ => none
  | n + 1, x1, x2, x3, σ => if x1 ≤ x3 then some (x2, σ) else lt_ (sG σ 5 ((σ.1 5) + (1 : Int32))) (fun σ6 => (pf_X7_noneTried N σ6).bind (fun z8 => pf_X7_tick_L45 N (pf_X7_tick_L23 N n) N x1 x2 x3 (0 : Int32) z8))
def pf_X7_tick (N : Nat) (x1 : Int32) (σ : St) : Option (Int32 × St) := if x1 < 0 then some ((-2 : Int32), σ) else if x1 ≤ (1000 : Int32) then lt_ (sG σ 11 (0 : Int32)) (fun σ3 => pf_X7_tick_L23 N N x1 (0 : Int32) (0 : Int32) σ3) else some ((-2 : Int32), σ)
theorem cx_X7_tick : (yX7_tick.cls ≠ "java/lang/invoke/MethodHandle" ∧ yX7_tick.cls ≠ "java/lang/invoke/VarHandle" ∧ (parseMethodDescriptor yX7_tick.desc).map (fun d => d.parameters.length) = some 1) := by decide +kernel
set_option maxHeartbeats 4000000 in
set_option maxRecDepth 100000 in
theorem c_X7_tick (l : Launch) (D : va_G) (q : Nat → ClassId) (h : Nat → Nat) (N : Nat) (x1 : Int32) (σ : St) (z : (Int32 × St)) (hf : pf_X7_tick N x1 σ = some z) : MI l yX7_tick cX7_tick 6 (some .int) 3 69 D (tyQ q) [.ref (h 0), .int x1] (wM h q σ) (wM h q z.2) z.1 := by
  refine MI.of (by decide) (Nat.le_of_ble_eq_true rfl) ?_
  intro p e s m args below meth c Q A C ret ls hl
  have hl : lv_has ls 6 [(0, .ref (h 0)), (1, .int x1)] := hl
  unfold pf_X7_tick at hf
  have b94 : ∀ (J23 : Int32 → Int32 → Int32 → St → Option (Int32 × St)) (J45 : Int32 → Int32 → Int32 → Int32 → St → Option (Int32 × St)) (hJ23 : ∀ (x1 : Int32) (x2 : Int32) (x3 : Int32) (σ : St), J23 x1 x2 x3 σ = some z → ∀ ls : Array Slot, lv_has ls 6 [(0, .ref (h 0)), (1, .int x1), (2, .int x2), (3, .int x3)] → WG p l e (rmO 3 69) s m args below meth c D A 0 0 Q (wM h q σ) (F0 m 23 ls [])) (hJ45 : ∀ (x1 : Int32) (x2 : Int32) (x3 : Int32) (x4 : Int32) (σ : St), J45 x1 x2 x3 x4 σ = some z → ∀ ls : Array Slot, lv_has ls 6 [(0, .ref (h 0)), (1, .int x1), (2, .int x2), (3, .int x3), (4, .int x4)] → WG p l e (rmO 3 69) s m args below meth c D A 0 0 Q (wM h q σ) (F0 m 45 ls [])) (x1 : Int32) (x2 : Int32) (x3 : Int32) (x4 : Int32) (σ : St), pf_X7_tick_b94 N J23 J45 x1 x2 x3 x4 σ = some z → ∀ ls : Array Slot, lv_has ls 6 [(0, .ref (h 0)), (1, .int x1), (2, .int x2), (3, .int x3), (4, .int x4)] → WG p l e (rmO 3 69) s m args below meth c D A 0 0 Q (wM h q σ) (F0 m 94 ls []) := by
    intro J23 J45 hJ23 hJ45 x1 x2 x3 x4 σ hf ls hl
    unfold pf_X7_tick_b94 at hf
    refine s_iinc (v := (x4 + 1)) (lv2 := [(4, .int (x4 + 1)), (0, .ref (h 0)), (1, .int x1), (2, .int x2), (3, .int x3)]) C 4 dX7_tick_94 hl rfl rfl (by decide) rfl ?_
    intro ls hl
    refine s_goto (tgt := 45) C dX7_tick_97 (by decide) ?_
    exact hJ45 _ _ _ _ _ hf _ (lv_sub hl [1, 2, 3, 4, 0] rfl)
  have b84 : ∀ (J23 : Int32 → Int32 → Int32 → St → Option (Int32 × St)) (J45 : Int32 → Int32 → Int32 → Int32 → St → Option (Int32 × St)) (hJ23 : ∀ (x1 : Int32) (x2 : Int32) (x3 : Int32) (σ : St), J23 x1 x2 x3 σ = some z → ∀ ls : Array Slot, lv_has ls 6 [(0, .ref (h 0)), (1, .int x1), (2, .int x2), (3, .int x3)] → WG p l e (rmO 3 69) s m args below meth c D A 0 0 Q (wM h q σ) (F0 m 23 ls [])) (hJ45 : ∀ (x1 : Int32) (x2 : Int32) (x3 : Int32) (x4 : Int32) (σ : St), J45 x1 x2 x3 x4 σ = some z → ∀ ls : Array Slot, lv_has ls 6 [(0, .ref (h 0)), (1, .int x1), (2, .int x2), (3, .int x3), (4, .int x4)] → WG p l e (rmO 3 69) s m args below meth c D A 0 0 Q (wM h q σ) (F0 m 45 ls [])) (x1 : Int32) (x3 : Int32) (x4 : Int32) (x5 : Int32) (y1 : Int32) (y0 : Int32) (σ : St), pf_X7_tick_b84 N J23 J45 x1 x3 x4 x5 y1 y0 σ = some z → ∀ ls : Array Slot, lv_has ls 6 [(0, .ref (h 0)), (1, .int x1), (3, .int x3), (4, .int x4), (5, .int x5)] → WG p l e (rmO 3 69) s m args below meth c D A 0 0 Q (wM h q σ) (F0 m 84 ls [.int y1, .int y0]) := by
    intro J23 J45 hJ23 hJ45 x1 x3 x4 x5 y1 y0 σ hf ls hl
    unfold pf_X7_tick_b84 at hf
    refine s_iadd C dX7_tick_84 ?_
    refine s_istore_n (lv2 := [(2, .int (y0 + y1)), (0, .ref (h 0)), (1, .int x1), (3, .int x3), (4, .int x4), (5, .int x5)]) C dX7_tick_85 rfl hl (by decide) rfl ?_
    intro ls hl
    refine s_aload_n C dX7_tick_86 rfl (lv_at hl 1 rfl) ?_
    refine gM_0_34 C wd_3_173 dX7_tick_87 ?_
    refine s_iload C dX7_tick_90 (lv_at hl 5 rfl) ?_
    refine s_iconst (v := (1 : Int32)) C dX7_tick_92 (by decide) ?_
    obtain ⟨hi17, hf⟩ := bI_some hf
    refine stM_23 C hi17 dX7_tick_93 ?_
    obtain ⟨σ18, e19, hf⟩ := lt_some hf
    refine s_w (ws2 := (wM h q σ18)) (by rw [e19]) ?_
    clear e19
    exact b94 _ _ hJ23 hJ45 _ _ _ _ _ hf _ (lv_sub hl [1, 2, 0, 3, 4] rfl)
  have L45 : ∀ (J23 : Int32 → Int32 → Int32 → St → Option (Int32 × St)) (hJ23 : ∀ (x1 : Int32) (x2 : Int32) (x3 : Int32) (σ : St), J23 x1 x2 x3 σ = some z → ∀ ls : Array Slot, lv_has ls 6 [(0, .ref (h 0)), (1, .int x1), (2, .int x2), (3, .int x3)] → WG p l e (rmO 3 69) s m args below meth c D A 0 0 Q (wM h q σ) (F0 m 23 ls [])) (n : Nat) (x1 : Int32) (x2 : Int32) (x3 : Int32) (x4 : Int32) (σ : St), pf_X7_tick_L45 N J23 n x1 x2 x3 x4 σ = some z → ∀ ls : Array Slot, lv_has ls 6 [(0, .ref (h 0)), (1, .int x1), (2, .int x2), (3, .int x3), (4, .int x4)] → WG p l e (rmO 3 69) s m args below meth c D A 0 0 Q (wM h q σ) (F0 m 45 ls []) := by
    intro J23 hJ23 n
    induction n with
    | zero => intro x1 x2 x3 x4 σ hf; unfold pf_X7_tick_L45 at hf; cases hf
    | succ n ih =>
      intro x1 x2 x3 x4 σ hf ls hl
      unfold pf_X7_tick_L45 at hf
      refine s_iload C dX7_tick_45 (lv_at hl 4 rfl) ?_
      refine s_iconst (v := (4 : Int32)) C dX7_tick_47 (by decide) ?_
      refine s_icmp_ge (tgt := 100) C dX7_tick_48 (by decide) (fun c10 => ?_) (fun c10 => ?_)
      · replace hf := it_t c10 hf
        refine s_iinc (v := (x3 + 1)) (lv2 := [(3, .int (x3 + 1)), (0, .ref (h 0)), (1, .int x1), (2, .int x2), (4, .int x4)]) C 3 dX7_tick_100 hl rfl rfl (by decide) rfl ?_
        intro ls hl
        refine s_goto (tgt := 23) C dX7_tick_103 (by decide) ?_
        exact hJ23 _ _ _ _ hf _ (lv_sub hl [1, 2, 3, 0] rfl)
      · replace hf := it_f c10 hf
        refine s_aload_n C dX7_tick_51 rfl (lv_at hl 0 rfl) ?_
        refine s_aload_n C dX7_tick_52 rfl (lv_at hl 0 rfl) ?_
        refine gM_0_24 C wd_3_163 dX7_tick_53 ?_
        refine s_iconst (v := (5 : Int32)) C dX7_tick_56 (by decide) ?_
        refine s_isub C dX7_tick_57 ?_
        obtain ⟨z11, h12, hf⟩ := bn_some hf
        refine s_callIV (As := [.int ((σ.1 5) - (5 : Int32))]) (rest := []) C (c_X7_oldest l D q h N ((σ.1 5) - (5 : Int32)) σ z11 h12) ⟨wd_4_109, wd_4_111, wd_s_45, wd_1_10, wd_4_112, cx_X7_oldest, Nat.le_of_ble_eq_true rfl, Nat.le_of_ble_eq_true rfl⟩ 0 (ci := 7) rfl rfl rfl (SubW.full _ _) rfl hl.1 rfl (Nat.le_of_ble_eq_true rfl) dX7_tick_58 (Nat.zero_le _) (Nat.zero_le _) ?_
        refine s_istore (lv2 := [(5, .int z11), (0, .ref (h 0)), (1, .int x1), (2, .int x2), (3, .int x3), (4, .int x4)]) C dX7_tick_61 hl (by decide) rfl ?_
        intro ls hl
        refine s_iload C dX7_tick_63 (lv_at hl 0 rfl) ?_
        refine s_iconst (v := (-1 : Int32)) C dX7_tick_65 (by decide) ?_
        refine s_icmp_eq (tgt := 94) C dX7_tick_66 (by decide) (fun c13 => ?_) (fun c13 => ?_)
        · replace hf := it_t c13 hf
          exact b94 _ _ hJ23 ih _ _ _ _ _ hf _ (lv_sub hl [1, 2, 3, 4, 5] rfl)
        · replace hf := it_f c13 hf
          refine s_iload_n C dX7_tick_69 rfl (lv_at hl 3 rfl) ?_
          refine s_aload_n C dX7_tick_70 rfl (lv_at hl 1 rfl) ?_
          refine s_iload C dX7_tick_71 (lv_at hl 0 rfl) ?_
          obtain ⟨z14, h15, hf⟩ := bn_some hf
          refine s_callIV (As := [.int z11]) (rest := [.int x2]) C (c_X7_written l D q h N z11 σ z14 h15) ⟨wd_4_53, wd_4_55, wd_s_33, wd_1_10, wd_4_56, cx_X7_written, Nat.le_of_ble_eq_true rfl, Nat.le_of_ble_eq_true rfl⟩ 0 (ci := 7) rfl rfl rfl (SubW.full _ _) rfl hl.1 rfl (Nat.le_of_ble_eq_true rfl) dX7_tick_73 (Nat.zero_le _) (Nat.zero_le _) ?_
          refine s_if_eq (tgt := 83) C dX7_tick_76 (by decide) (fun c16 => ?_) (fun c16 => ?_)
          · replace hf := it_t c16 hf
            refine s_iconst (v := (0 : Int32)) C dX7_tick_83 (by decide) ?_
            exact b84 _ _ hJ23 ih _ _ _ _ _ _ _ hf _ (lv_sub hl [1, 2, 4, 5, 0] rfl)
          · replace hf := it_f c16 hf
            refine s_iconst (v := (1 : Int32)) C dX7_tick_79 (by decide) ?_
            refine s_goto (tgt := 84) C dX7_tick_80 (by decide) ?_
            exact b84 _ _ hJ23 ih _ _ _ _ _ _ _ hf _ (lv_sub hl [1, 2, 4, 5, 0] rfl)
  have L23 : ∀ (n : Nat) (x1 : Int32) (x2 : Int32) (x3 : Int32) (σ : St), pf_X7_tick_L23 N n x1 x2 x3 σ = some z → ∀ ls : Array Slot, lv_has ls 6 [(0, .ref (h 0)), (1, .int x1), (2, .int x2), (3, .int x3)] → WG p l e (rmO 3 69) s m args below meth c D A 0 0 Q (wM h q σ) (F0 m 23 ls []) := by
    intro n
    induction n with
    | zero => intro x1 x2 x3 σ hf; unfold pf_X7_tick_L23 at hf; cases hf
    | succ n ih =>
      intro x1 x2 x3 σ hf ls hl
      unfold pf_X7_tick_L23 at hf
      refine s_iload_n C dX7_tick_23 rfl (lv_at hl 3 rfl) ?_
      refine s_iload_n C dX7_tick_24 rfl (lv_at hl 1 rfl) ?_
      refine s_icmp_ge (tgt := 106) C dX7_tick_25 (by decide) (fun c5 => ?_) (fun c5 => ?_)
      · replace hf := it_t c5 hf
        refine s_iload_n C dX7_tick_106 rfl (lv_at hl 2 rfl) ?_
        exact ret _ _ _ _ dX7_tick_107 rfl (rt_2 hf).1 (congrArg (fun σ => (wM h q σ)) (rt_2 hf).2)
      · replace hf := it_f c5 hf
        refine s_aload_n C dX7_tick_28 rfl (lv_at hl 0 rfl) ?_
        refine s_dup C dX7_tick_29 rfl ?_
        refine gM_0_24 C wd_3_163 dX7_tick_30 ?_
        refine s_iconst (v := (1 : Int32)) C dX7_tick_33 (by decide) ?_
        refine s_iadd C dX7_tick_34 ?_
        refine uM_0_24 C wd_3_163 dX7_tick_35 ?_
        obtain ⟨σ6, e7, hf⟩ := lt_some hf
        refine s_w (ws2 := (wM h q σ6)) (by rw [e7]) ?_
        clear e7
        refine s_aload_n C dX7_tick_38 rfl (lv_at hl 0 rfl) ?_
        obtain ⟨z8, h9, hf⟩ := bn_some hf
        refine s_callVV (As := []) (rest := []) C (c_X7_noneTried l D q h N σ6 z8 h9) ⟨wd_4_105, wd_4_107, wd_s_44, wd_1_10, wd_4_108, cx_X7_noneTried, Nat.le_of_ble_eq_true rfl, Nat.le_of_ble_eq_true rfl⟩ 0 (ci := 7) rfl rfl rfl (SubW.full _ _) rfl hl.1 rfl (Nat.le_of_ble_eq_true rfl) dX7_tick_39 (Nat.zero_le _) (Nat.zero_le _) ?_
        refine s_iconst (v := (0 : Int32)) C dX7_tick_42 (by decide) ?_
        refine s_istore (lv2 := [(4, .int (0 : Int32)), (0, .ref (h 0)), (1, .int x1), (2, .int x2), (3, .int x3)]) C dX7_tick_43 hl (by decide) rfl ?_
        intro ls hl
        exact L45 _ ih N _ _ _ _ _ hf _ (lv_sub hl [1, 2, 3, 4, 0] rfl)
  refine s_iload_n C dX7_tick_0 rfl (lv_at hl 1 rfl) ?_
  refine s_if_lt (tgt := 11) C dX7_tick_1 (by decide) (fun c1 => ?_) (fun c1 => ?_)
  · replace hf := it_t c1 hf
    refine s_bipush (v := (-2 : Int32)) C dX7_tick_11 (by decide) ?_
    exact ret _ _ _ _ dX7_tick_13 rfl (rt_2 hf).1 (congrArg (fun σ => (wM h q σ)) (rt_2 hf).2)
  · replace hf := it_f c1 hf
    refine s_iload_n C dX7_tick_4 rfl (lv_at hl 1 rfl) ?_
    refine s_sipush (v := (1000 : Int32)) C dX7_tick_5 (by decide) ?_
    refine s_icmp_le (tgt := 14) C dX7_tick_8 (by decide) (fun c2 => ?_) (fun c2 => ?_)
    · replace hf := it_t c2 hf
      refine s_aload_n C dX7_tick_14 rfl (lv_at hl 0 rfl) ?_
      refine s_iconst (v := (0 : Int32)) C dX7_tick_15 (by decide) ?_
      refine uM_0_33 C wd_3_172 rfl dX7_tick_16 ?_
      obtain ⟨σ3, e4, hf⟩ := lt_some hf
      refine s_w (ws2 := (wM h q σ3)) (by rw [e4]) ?_
      clear e4
      refine s_iconst (v := (0 : Int32)) C dX7_tick_19 (by decide) ?_
      refine s_istore_n (lv2 := [(2, .int (0 : Int32)), (0, .ref (h 0)), (1, .int x1)]) C dX7_tick_20 rfl hl (by decide) rfl ?_
      intro ls hl
      refine s_iconst (v := (0 : Int32)) C dX7_tick_21 (by decide) ?_
      refine s_istore_n (lv2 := [(3, .int (0 : Int32)), (2, .int (0 : Int32)), (0, .ref (h 0)), (1, .int x1)]) C dX7_tick_22 rfl hl (by decide) rfl ?_
      intro ls hl
      exact L23 N _ _ _ _ hf _ (lv_sub hl [2, 3, 1, 0] rfl)
    · replace hf := it_f c2 hf
      refine s_bipush (v := (-2 : Int32)) C dX7_tick_11 (by decide) ?_
      exact ret _ _ _ _ dX7_tick_13 rfl (rt_2 hf).1 (congrArg (fun σ => (wM h q σ)) (rt_2 hf).2)
def pf_X7_wrongFiles_b25 (N : Nat) (σ : St) (J4 : Int32 → Int32 → Option Int32) (x2 : Int32) (y1 : Int32) (y0 : Int32) : Option Int32 := J4 (y0 + y1) (x2 + 1) 
def pf_X7_wrongFiles_L4 (N : Nat) (σ : St) : Nat → Int32 → Int32 → Option Int32
  | 0, _, _ => none
  | n + 1, x1, x2 => if (12 : Int32) ≤ x2 then some x1 else bI x2 (12) (if ((σ.2.1 4) (Int32.toNatClampNeg x2)) = 0 then pf_X7_wrongFiles_b25 N σ (pf_X7_wrongFiles_L4 N σ n) x2 (0 : Int32) x1  else pf_X7_wrongFiles_b25 N σ (pf_X7_wrongFiles_L4 N σ n) x2 (1 : Int32) x1 )
def pf_X7_wrongFiles (N : Nat) (σ : St) : Option Int32 := pf_X7_wrongFiles_L4 N σ N (0 : Int32) (0 : Int32) 
theorem cx_X7_wrongFiles : (yX7_wrongFiles.cls ≠ "java/lang/invoke/MethodHandle" ∧ yX7_wrongFiles.cls ≠ "java/lang/invoke/VarHandle" ∧ (parseMethodDescriptor yX7_wrongFiles.desc).map (fun d => d.parameters.length) = some 0) := by decide +kernel
set_option maxHeartbeats 4000000 in
set_option maxRecDepth 100000 in
theorem c_X7_wrongFiles (l : Launch) (D : va_G) (q : Nat → ClassId) (h : Nat → Nat) (N : Nat) (σ : St) (z : Int32) (hf : pf_X7_wrongFiles N σ = some z) : MI l yX7_wrongFiles cX7_wrongFiles 3 (some .int) 0 0 D (tyQ q) [.ref (h 0)] (wM h q σ) (wM h q σ) z := by
  refine MI.of (by decide) (Nat.le_of_ble_eq_true rfl) ?_
  intro p e s m args below meth c Q A C ret ls hl
  have hl : lv_has ls 3 [(0, .ref (h 0))] := hl
  unfold pf_X7_wrongFiles at hf
  have b25 : ∀ (J4 : Int32 → Int32 → Option Int32) (hJ4 : ∀ (x1 : Int32) (x2 : Int32), J4 x1 x2 = some z → ∀ ls : Array Slot, lv_has ls 3 [(0, .ref (h 0)), (1, .int x1), (2, .int x2)] → WG p l e (rmO 0 0) s m args below meth c D A 0 0 Q (wM h q σ) (F0 m 4 ls [])) (x2 : Int32) (y1 : Int32) (y0 : Int32), pf_X7_wrongFiles_b25 N σ J4 x2 y1 y0 = some z → ∀ ls : Array Slot, lv_has ls 3 [(0, .ref (h 0)), (2, .int x2)] → WG p l e (rmO 0 0) s m args below meth c D A 0 0 Q (wM h q σ) (F0 m 25 ls [.int y1, .int y0]) := by
    intro J4 hJ4 x2 y1 y0 hf ls hl
    unfold pf_X7_wrongFiles_b25 at hf
    refine s_iadd C dX7_wrongFiles_25 ?_
    refine s_istore_n (lv2 := [(1, .int (y0 + y1)), (0, .ref (h 0)), (2, .int x2)]) C dX7_wrongFiles_26 rfl hl (by decide) rfl ?_
    intro ls hl
    refine s_iinc (v := (x2 + 1)) (lv2 := [(2, .int (x2 + 1)), (1, .int (y0 + y1)), (0, .ref (h 0))]) C 2 dX7_wrongFiles_27 hl rfl rfl (by decide) rfl ?_
    intro ls hl
    refine s_goto (tgt := 4) C dX7_wrongFiles_30 (by decide) ?_
    exact hJ4 _ _ hf _ (lv_sub hl [2, 1, 0] rfl)
  have L4 : ∀ (n : Nat) (x1 : Int32) (x2 : Int32), pf_X7_wrongFiles_L4 N σ n x1 x2 = some z → ∀ ls : Array Slot, lv_has ls 3 [(0, .ref (h 0)), (1, .int x1), (2, .int x2)] → WG p l e (rmO 0 0) s m args below meth c D A 0 0 Q (wM h q σ) (F0 m 4 ls []) := by
    intro n
    induction n with
    | zero => intro x1 x2 hf; unfold pf_X7_wrongFiles_L4 at hf; cases hf
    | succ n ih =>
      intro x1 x2 hf ls hl
      unfold pf_X7_wrongFiles_L4 at hf
      refine s_iload_n C dX7_wrongFiles_4 rfl (lv_at hl 2 rfl) ?_
      refine s_bipush (v := (12 : Int32)) C dX7_wrongFiles_5 (by decide) ?_
      refine s_icmp_ge (tgt := 33) C dX7_wrongFiles_7 (by decide) (fun c1 => ?_) (fun c1 => ?_)
      · replace hf := it_t c1 hf
        refine s_iload_n C dX7_wrongFiles_33 rfl (lv_at hl 1 rfl) ?_
        exact ret _ _ _ _ dX7_wrongFiles_34 rfl (rt_1 hf) rfl
      · replace hf := it_f c1 hf
        refine s_iload_n C dX7_wrongFiles_10 rfl (lv_at hl 1 rfl) ?_
        refine s_aload_n C dX7_wrongFiles_11 rfl (lv_at hl 0 rfl) ?_
        refine gM_0_5 C wd_3_144 dX7_wrongFiles_12 ?_
        refine s_iload_n C dX7_wrongFiles_15 rfl (lv_at hl 2 rfl) ?_
        obtain ⟨hi2, hf⟩ := bI_some hf
        refine ldM_4 C hi2 dX7_wrongFiles_16 ?_
        refine s_if_eq (tgt := 24) C dX7_wrongFiles_17 (by decide) (fun c3 => ?_) (fun c3 => ?_)
        · replace hf := it_t c3 hf
          refine s_iconst (v := (0 : Int32)) C dX7_wrongFiles_24 (by decide) ?_
          exact b25 _ ih _ _ _ hf _ (lv_sub hl [0, 2] rfl)
        · replace hf := it_f c3 hf
          refine s_iconst (v := (1 : Int32)) C dX7_wrongFiles_20 (by decide) ?_
          refine s_goto (tgt := 25) C dX7_wrongFiles_21 (by decide) ?_
          exact b25 _ ih _ _ _ hf _ (lv_sub hl [0, 2] rfl)
  refine s_iconst (v := (0 : Int32)) C dX7_wrongFiles_0 (by decide) ?_
  refine s_istore_n (lv2 := [(1, .int (0 : Int32)), (0, .ref (h 0))]) C dX7_wrongFiles_1 rfl hl (by decide) rfl ?_
  intro ls hl
  refine s_iconst (v := (0 : Int32)) C dX7_wrongFiles_2 (by decide) ?_
  refine s_istore_n (lv2 := [(2, .int (0 : Int32)), (1, .int (0 : Int32)), (0, .ref (h 0))]) C dX7_wrongFiles_3 rfl hl (by decide) rfl ?_
  intro ls hl
  exact L4 N _ _ hf _ (lv_sub hl [2, 1, 0] rfl)
def pf_X7_told (N : Nat) (x1 : Int32) (σ : St) : Option Int32 := if x1 = (0 : Int32) then (pf_X7_pagesIn N σ).bind (fun z2 => some z2) else if x1 = (1 : Int32) then some (σ.1 2) else if x1 = (2 : Int32) then (pf_X7_dirties N σ).bind (fun z6 => some z6) else if x1 = (3 : Int32) then (pf_X7_pins N σ).bind (fun z9 => some z9) else if x1 = (4 : Int32) then some (σ.1 7) else if x1 = (5 : Int32) then some (σ.1 6) else if x1 = (6 : Int32) then some (σ.1 8) else if x1 = (7 : Int32) then some (σ.1 9) else if x1 = (8 : Int32) then (pf_X7_freeBlocks N σ).bind (fun z16 => some z16) else if x1 = (9 : Int32) then some (σ.1 5) else if x1 = (10 : Int32) then some (σ.1 10) else if x1 = (11 : Int32) then (pf_X7_wrongFiles N σ).bind (fun z21 => some z21) else some (-2 : Int32)
theorem cx_X7_told : (yX7_told.cls ≠ "java/lang/invoke/MethodHandle" ∧ yX7_told.cls ≠ "java/lang/invoke/VarHandle" ∧ (parseMethodDescriptor yX7_told.desc).map (fun d => d.parameters.length) = some 1) := by decide +kernel
set_option maxHeartbeats 4000000 in
set_option maxRecDepth 100000 in
theorem c_X7_told (l : Launch) (D : va_G) (q : Nat → ClassId) (h : Nat → Nat) (N : Nat) (x1 : Int32) (σ : St) (z : Int32) (hf : pf_X7_told N x1 σ = some z) : MI l yX7_told cX7_told 2 (some .int) 2 43 D (tyQ q) [.ref (h 0), .int x1] (wM h q σ) (wM h q σ) z := by
  refine MI.of (by decide) (Nat.le_of_ble_eq_true rfl) ?_
  intro p e s m args below meth c Q A C ret ls hl
  have hl : lv_has ls 2 [(0, .ref (h 0)), (1, .int x1)] := hl
  unfold pf_X7_told at hf
  refine s_iload_n C dX7_told_0 rfl (lv_at hl 1 rfl) ?_
  by_cases c1 : x1 = (0 : Int32)
  · replace hf := it_t c1 hf
    refine s_tblI (tgt := 64) C dX7_told_1 c1 (by decide) (by decide) rfl (by decide) ?_
    refine s_aload_n C dX7_told_64 rfl (lv_at hl 0 rfl) ?_
    obtain ⟨z2, h3, hf⟩ := bn_some hf
    refine s_callIV (As := []) (rest := []) C (c_X7_pagesIn l D q h N σ z2 h3) ⟨wd_4_212, wd_4_214, wd_s_52, wd_1_10, wd_4_215, cx_X7_pagesIn, Nat.le_of_ble_eq_true rfl, Nat.le_of_ble_eq_true rfl⟩ 0 (ci := 7) rfl rfl rfl (SubW.full _ _) rfl hl.1 rfl (Nat.le_of_ble_eq_true rfl) dX7_told_65 (Nat.zero_le _) (Nat.zero_le _) ?_
    exact ret _ _ _ _ dX7_told_68 rfl (rt_1 hf) rfl
  · replace hf := it_f c1 hf
    by_cases c4 : x1 = (1 : Int32)
    · replace hf := it_t c4 hf
      refine s_tblI (tgt := 69) C dX7_told_1 c4 (by decide) (by decide) rfl (by decide) ?_
      refine s_aload_n C dX7_told_69 rfl (lv_at hl 0 rfl) ?_
      refine gM_0_15 C wd_3_154 dX7_told_70 ?_
      exact ret _ _ _ _ dX7_told_73 rfl (rt_1 hf) rfl
    · replace hf := it_f c4 hf
      by_cases c5 : x1 = (2 : Int32)
      · replace hf := it_t c5 hf
        refine s_tblI (tgt := 74) C dX7_told_1 c5 (by decide) (by decide) rfl (by decide) ?_
        refine s_aload_n C dX7_told_74 rfl (lv_at hl 0 rfl) ?_
        obtain ⟨z6, h7, hf⟩ := bn_some hf
        refine s_callIV (As := []) (rest := []) C (c_X7_dirties l D q h N σ z6 h7) ⟨wd_4_101, wd_4_103, wd_s_43, wd_1_10, wd_4_104, cx_X7_dirties, Nat.le_of_ble_eq_true rfl, Nat.le_of_ble_eq_true rfl⟩ 0 (ci := 7) rfl rfl rfl (SubW.full _ _) rfl hl.1 rfl (Nat.le_of_ble_eq_true rfl) dX7_told_75 (Nat.zero_le _) (Nat.zero_le _) ?_
        exact ret _ _ _ _ dX7_told_78 rfl (rt_1 hf) rfl
      · replace hf := it_f c5 hf
        by_cases c8 : x1 = (3 : Int32)
        · replace hf := it_t c8 hf
          refine s_tblI (tgt := 79) C dX7_told_1 c8 (by decide) (by decide) rfl (by decide) ?_
          refine s_aload_n C dX7_told_79 rfl (lv_at hl 0 rfl) ?_
          obtain ⟨z9, h10, hf⟩ := bn_some hf
          refine s_callIV (As := []) (rest := []) C (c_X7_pins l D q h N σ z9 h10) ⟨wd_4_160, wd_4_162, wd_s_47, wd_1_10, wd_4_163, cx_X7_pins, Nat.le_of_ble_eq_true rfl, Nat.le_of_ble_eq_true rfl⟩ 0 (ci := 7) rfl rfl rfl (SubW.full _ _) rfl hl.1 rfl (Nat.le_of_ble_eq_true rfl) dX7_told_80 (Nat.zero_le _) (Nat.zero_le _) ?_
          exact ret _ _ _ _ dX7_told_83 rfl (rt_1 hf) rfl
        · replace hf := it_f c8 hf
          by_cases c11 : x1 = (4 : Int32)
          · replace hf := it_t c11 hf
            refine s_tblI (tgt := 84) C dX7_told_1 c11 (by decide) (by decide) rfl (by decide) ?_
            refine s_aload_n C dX7_told_84 rfl (lv_at hl 0 rfl) ?_
            refine gM_0_26 C wd_3_165 dX7_told_85 ?_
            exact ret _ _ _ _ dX7_told_88 rfl (rt_1 hf) rfl
          · replace hf := it_f c11 hf
            by_cases c12 : x1 = (5 : Int32)
            · replace hf := it_t c12 hf
              refine s_tblI (tgt := 89) C dX7_told_1 c12 (by decide) (by decide) rfl (by decide) ?_
              refine s_aload_n C dX7_told_89 rfl (lv_at hl 0 rfl) ?_
              refine gM_0_25 C wd_3_164 dX7_told_90 ?_
              exact ret _ _ _ _ dX7_told_93 rfl (rt_1 hf) rfl
            · replace hf := it_f c12 hf
              by_cases c13 : x1 = (6 : Int32)
              · replace hf := it_t c13 hf
                refine s_tblI (tgt := 94) C dX7_told_1 c13 (by decide) (by decide) rfl (by decide) ?_
                refine s_aload_n C dX7_told_94 rfl (lv_at hl 0 rfl) ?_
                refine gM_0_27 C wd_3_166 dX7_told_95 ?_
                exact ret _ _ _ _ dX7_told_98 rfl (rt_1 hf) rfl
              · replace hf := it_f c13 hf
                by_cases c14 : x1 = (7 : Int32)
                · replace hf := it_t c14 hf
                  refine s_tblI (tgt := 99) C dX7_told_1 c14 (by decide) (by decide) rfl (by decide) ?_
                  refine s_aload_n C dX7_told_99 rfl (lv_at hl 0 rfl) ?_
                  refine gM_0_28 C wd_3_167 dX7_told_100 ?_
                  exact ret _ _ _ _ dX7_told_103 rfl (rt_1 hf) rfl
                · replace hf := it_f c14 hf
                  by_cases c15 : x1 = (8 : Int32)
                  · replace hf := it_t c15 hf
                    refine s_tblI (tgt := 104) C dX7_told_1 c15 (by decide) (by decide) rfl (by decide) ?_
                    refine s_aload_n C dX7_told_104 rfl (lv_at hl 0 rfl) ?_
                    obtain ⟨z16, h17, hf⟩ := bn_some hf
                    refine s_callIV (As := []) (rest := []) C (c_X7_freeBlocks l D q h N σ z16 h17) ⟨wd_4_216, wd_4_218, wd_s_53, wd_1_10, wd_4_219, cx_X7_freeBlocks, Nat.le_of_ble_eq_true rfl, Nat.le_of_ble_eq_true rfl⟩ 0 (ci := 7) rfl rfl rfl (SubW.full _ _) rfl hl.1 rfl (Nat.le_of_ble_eq_true rfl) dX7_told_105 (Nat.zero_le _) (Nat.zero_le _) ?_
                    exact ret _ _ _ _ dX7_told_108 rfl (rt_1 hf) rfl
                  · replace hf := it_f c15 hf
                    by_cases c18 : x1 = (9 : Int32)
                    · replace hf := it_t c18 hf
                      refine s_tblI (tgt := 109) C dX7_told_1 c18 (by decide) (by decide) rfl (by decide) ?_
                      refine s_aload_n C dX7_told_109 rfl (lv_at hl 0 rfl) ?_
                      refine gM_0_24 C wd_3_163 dX7_told_110 ?_
                      exact ret _ _ _ _ dX7_told_113 rfl (rt_1 hf) rfl
                    · replace hf := it_f c18 hf
                      by_cases c19 : x1 = (10 : Int32)
                      · replace hf := it_t c19 hf
                        refine s_tblI (tgt := 114) C dX7_told_1 c19 (by decide) (by decide) rfl (by decide) ?_
                        refine s_aload_n C dX7_told_114 rfl (lv_at hl 0 rfl) ?_
                        refine gM_0_32 C wd_3_171 dX7_told_115 ?_
                        exact ret _ _ _ _ dX7_told_118 rfl (rt_1 hf) rfl
                      · replace hf := it_f c19 hf
                        by_cases c20 : x1 = (11 : Int32)
                        · replace hf := it_t c20 hf
                          refine s_tblI (tgt := 119) C dX7_told_1 c20 (by decide) (by decide) rfl (by decide) ?_
                          refine s_aload_n C dX7_told_119 rfl (lv_at hl 0 rfl) ?_
                          obtain ⟨z21, h22, hf⟩ := bn_some hf
                          refine s_callIV (As := []) (rest := []) C (c_X7_wrongFiles l D q h N σ z21 h22) ⟨wd_4_220, wd_4_222, wd_s_54, wd_1_10, wd_4_223, cx_X7_wrongFiles, Nat.le_of_ble_eq_true rfl, Nat.le_of_ble_eq_true rfl⟩ 0 (ci := 7) rfl rfl rfl (SubW.full _ _) rfl hl.1 rfl (Nat.le_of_ble_eq_true rfl) dX7_told_120 (Nat.zero_le _) (Nat.zero_le _) ?_
                          exact ret _ _ _ _ dX7_told_123 rfl (rt_1 hf) rfl
                        · replace hf := it_f c20 hf
                          refine s_tblO (tgt := 124) C dX7_told_1 (tb_out (n := 11) (by decide) (fun k hk => ?_)) (by decide) ?_
                          · rcases (show k = 0 ∨ k = 1 ∨ k = 2 ∨ k = 3 ∨ k = 4 ∨ k = 5 ∨ k = 6 ∨ k = 7 ∨ k = 8 ∨ k = 9 ∨ k = 10 ∨ k = 11 by omega) with rfl | rfl | rfl | rfl | rfl | rfl | rfl | rfl | rfl | rfl | rfl | rfl
                            · exact c1
                            · exact c4
                            · exact c5
                            · exact c8
                            · exact c11
                            · exact c12
                            · exact c13
                            · exact c14
                            · exact c15
                            · exact c18
                            · exact c19
                            · exact c20
                          refine s_bipush (v := (-2 : Int32)) C dX7_told_124 (by decide) ?_
                          exact ret _ _ _ _ dX7_told_126 rfl (rt_1 hf) rfl
def pf_X7_tree_b102 (N : Nat) (σ : St) (J73 : Int32 → Int32 → Int32 → Option Int32) (x1 : Int32) (x4 : Int32) (y1 : Int32) (y0 : Int32) : Option Int32 := J73 x1 (y0 + y1) (x4 + 1) 
def pf_X7_tree_L73 (N : Nat) (σ : St) : Nat → Int32 → Int32 → Int32 → Option Int32
  | 0, _, _, _ => none
  | n + 1, x1, x3, x4 => if (256 : Int32) ≤ x4 then some x3 else (pf_X7_isEntry N (((256 : Int32) * x1) + x4) σ).bind (fun z14 => if z14 = 0 then pf_X7_tree_b102 N σ (pf_X7_tree_L73 N σ n) x1 x4 (0 : Int32) x3  else pf_X7_tree_b102 N σ (pf_X7_tree_L73 N σ n) x1 x4 (1 : Int32) x3 )
def pf_X7_tree (N : Nat) (x1 : Int32) (x2 : Int32) (σ : St) : Option Int32 := (pf_X7_isFile N x1).bind (fun z1 => if z1 = 0 then some (-2 : Int32) else if x2 < 0 then some (-2 : Int32) else if x2 ≤ (5 : Int32) then if x2 = (0 : Int32) then (pf_X7_height N x1 σ).bind (fun z7 => some z7) else if x2 = (1 : Int32) then (pf_X7_nodes N x1 σ).bind (fun z10 => some z10) else if x2 = (2 : Int32) then pf_X7_tree_L73 N σ N x1 (0 : Int32) (0 : Int32)  else if x2 = (3 : Int32) then bI x1 (12) (some ((σ.2.1 2) (Int32.toNatClampNeg x1))) else if x2 = (4 : Int32) then bI x1 (12) (some ((σ.2.1 3) (Int32.toNatClampNeg x1))) else bI x1 (12) (some ((σ.2.1 4) (Int32.toNatClampNeg x1))) else some (-2 : Int32))
theorem cx_X7_tree : (yX7_tree.cls ≠ "java/lang/invoke/MethodHandle" ∧ yX7_tree.cls ≠ "java/lang/invoke/VarHandle" ∧ (parseMethodDescriptor yX7_tree.desc).map (fun d => d.parameters.length) = some 2) := by decide +kernel
set_option maxHeartbeats 4000000 in
set_option maxRecDepth 100000 in
theorem c_X7_tree (l : Launch) (D : va_G) (q : Nat → ClassId) (h : Nat → Nat) (N : Nat) (x1 : Int32) (x2 : Int32) (σ : St) (z : Int32) (hf : pf_X7_tree N x1 x2 σ = some z) : MI l yX7_tree cX7_tree 5 (some .int) 4 92 D (tyQ q) [.ref (h 0), .int x1, .int x2] (wM h q σ) (wM h q σ) z := by
  refine MI.of (by decide) (Nat.le_of_ble_eq_true rfl) ?_
  intro p e s m args below meth c Q A C ret ls hl
  have hl : lv_has ls 5 [(0, .ref (h 0)), (1, .int x1), (2, .int x2)] := hl
  unfold pf_X7_tree at hf
  have b102 : ∀ (J73 : Int32 → Int32 → Int32 → Option Int32) (hJ73 : ∀ (x1 : Int32) (x3 : Int32) (x4 : Int32), J73 x1 x3 x4 = some z → ∀ ls : Array Slot, lv_has ls 5 [(0, .ref (h 0)), (1, .int x1), (3, .int x3), (4, .int x4)] → WG p l e (rmO 4 92) s m args below meth c D A 0 0 Q (wM h q σ) (F0 m 73 ls [])) (x1 : Int32) (x4 : Int32) (y1 : Int32) (y0 : Int32), pf_X7_tree_b102 N σ J73 x1 x4 y1 y0 = some z → ∀ ls : Array Slot, lv_has ls 5 [(0, .ref (h 0)), (1, .int x1), (4, .int x4)] → WG p l e (rmO 4 92) s m args below meth c D A 0 0 Q (wM h q σ) (F0 m 102 ls [.int y1, .int y0]) := by
    intro J73 hJ73 x1 x4 y1 y0 hf ls hl
    unfold pf_X7_tree_b102 at hf
    refine s_iadd C dX7_tree_102 ?_
    refine s_istore_n (lv2 := [(3, .int (y0 + y1)), (0, .ref (h 0)), (1, .int x1), (4, .int x4)]) C dX7_tree_103 rfl hl (by decide) rfl ?_
    intro ls hl
    refine s_iinc (v := (x4 + 1)) (lv2 := [(4, .int (x4 + 1)), (3, .int (y0 + y1)), (0, .ref (h 0)), (1, .int x1)]) C 3 dX7_tree_104 hl rfl rfl (by decide) rfl ?_
    intro ls hl
    refine s_goto (tgt := 73) C dX7_tree_107 (by decide) ?_
    exact hJ73 _ _ _ hf _ (lv_sub hl [2, 3, 1, 0] rfl)
  have L73 : ∀ (n : Nat) (x1 : Int32) (x3 : Int32) (x4 : Int32), pf_X7_tree_L73 N σ n x1 x3 x4 = some z → ∀ ls : Array Slot, lv_has ls 5 [(0, .ref (h 0)), (1, .int x1), (3, .int x3), (4, .int x4)] → WG p l e (rmO 4 92) s m args below meth c D A 0 0 Q (wM h q σ) (F0 m 73 ls []) := by
    intro n
    induction n with
    | zero => intro x1 x3 x4 hf; unfold pf_X7_tree_L73 at hf; cases hf
    | succ n ih =>
      intro x1 x3 x4 hf ls hl
      unfold pf_X7_tree_L73 at hf
      refine s_iload C dX7_tree_73 (lv_at hl 3 rfl) ?_
      refine s_sipush (v := (256 : Int32)) C dX7_tree_75 (by decide) ?_
      refine s_icmp_ge (tgt := 110) C dX7_tree_78 (by decide) (fun c13 => ?_) (fun c13 => ?_)
      · replace hf := it_t c13 hf
        refine s_iload_n C dX7_tree_110 rfl (lv_at hl 2 rfl) ?_
        exact ret _ _ _ _ dX7_tree_111 rfl (rt_1 hf) rfl
      · replace hf := it_f c13 hf
        refine s_iload_n C dX7_tree_81 rfl (lv_at hl 2 rfl) ?_
        refine s_aload_n C dX7_tree_82 rfl (lv_at hl 0 rfl) ?_
        refine s_sipush (v := (256 : Int32)) C dX7_tree_83 (by decide) ?_
        refine s_iload_n C dX7_tree_86 rfl (lv_at hl 1 rfl) ?_
        refine s_imul C dX7_tree_87 ?_
        refine s_iload C dX7_tree_88 (lv_at hl 3 rfl) ?_
        refine s_iadd C dX7_tree_90 ?_
        obtain ⟨z14, h15, hf⟩ := bn_some hf
        refine s_callIV (As := [.int (((256 : Int32) * x1) + x4)]) (rest := [.int x3]) C (c_X7_isEntry l D q h N (((256 : Int32) * x1) + x4) σ z14 h15) ⟨wd_4_188, wd_4_190, wd_s_50, wd_1_10, wd_4_191, cx_X7_isEntry, Nat.le_of_ble_eq_true rfl, Nat.le_of_ble_eq_true rfl⟩ 0 (ci := 7) rfl rfl rfl (SubW.full _ _) rfl hl.1 rfl (Nat.le_of_ble_eq_true rfl) dX7_tree_91 (Nat.zero_le _) (Nat.zero_le _) ?_
        refine s_if_eq (tgt := 101) C dX7_tree_94 (by decide) (fun c16 => ?_) (fun c16 => ?_)
        · replace hf := it_t c16 hf
          refine s_iconst (v := (0 : Int32)) C dX7_tree_101 (by decide) ?_
          exact b102 _ ih _ _ _ _ hf _ (lv_sub hl [0, 1, 3] rfl)
        · replace hf := it_f c16 hf
          refine s_iconst (v := (1 : Int32)) C dX7_tree_97 (by decide) ?_
          refine s_goto (tgt := 102) C dX7_tree_98 (by decide) ?_
          exact b102 _ ih _ _ _ _ hf _ (lv_sub hl [0, 1, 3] rfl)
  refine s_iload_n C dX7_tree_0 rfl (lv_at hl 1 rfl) ?_
  obtain ⟨z1, h2, hf⟩ := bn_some hf
  refine s_callIS (As := [.int x1]) (rest := []) C (c_X7_isFile l D q (wM h q σ) N x1  z1 h2) ⟨wd_4_10, wd_4_11, wd_1_10, wd_4_12, cx_X7_isFile, Nat.le_of_ble_eq_true rfl, Nat.le_of_ble_eq_true rfl⟩ (SubW.full _ _) rfl hl.1 rfl (Nat.le_of_ble_eq_true rfl) dX7_tree_1 (Nat.zero_le _) (Nat.zero_le _) ?_
  refine s_if_eq (tgt := 16) C dX7_tree_4 (by decide) (fun c3 => ?_) (fun c3 => ?_)
  · replace hf := it_t c3 hf
    refine s_bipush (v := (-2 : Int32)) C dX7_tree_16 (by decide) ?_
    exact ret _ _ _ _ dX7_tree_18 rfl (rt_1 hf) rfl
  · replace hf := it_f c3 hf
    refine s_iload_n C dX7_tree_7 rfl (lv_at hl 2 rfl) ?_
    refine s_if_lt (tgt := 16) C dX7_tree_8 (by decide) (fun c4 => ?_) (fun c4 => ?_)
    · replace hf := it_t c4 hf
      refine s_bipush (v := (-2 : Int32)) C dX7_tree_16 (by decide) ?_
      exact ret _ _ _ _ dX7_tree_18 rfl (rt_1 hf) rfl
    · replace hf := it_f c4 hf
      refine s_iload_n C dX7_tree_11 rfl (lv_at hl 2 rfl) ?_
      refine s_iconst (v := (5 : Int32)) C dX7_tree_12 (by decide) ?_
      refine s_icmp_le (tgt := 19) C dX7_tree_13 (by decide) (fun c5 => ?_) (fun c5 => ?_)
      · replace hf := it_t c5 hf
        refine s_iload_n C dX7_tree_19 rfl (lv_at hl 2 rfl) ?_
        by_cases c6 : x2 = (0 : Int32)
        · replace hf := it_t c6 hf
          refine s_tblI (tgt := 56) C dX7_tree_20 c6 (by decide) (by decide) rfl (by decide) ?_
          refine s_aload_n C dX7_tree_56 rfl (lv_at hl 0 rfl) ?_
          refine s_iload_n C dX7_tree_57 rfl (lv_at hl 1 rfl) ?_
          obtain ⟨z7, h8, hf⟩ := bn_some hf
          refine s_callIV (As := [.int x1]) (rest := []) C (c_X7_height l D q h N x1 σ z7 h8) ⟨wd_4_184, wd_4_186, wd_s_49, wd_1_10, wd_4_187, cx_X7_height, Nat.le_of_ble_eq_true rfl, Nat.le_of_ble_eq_true rfl⟩ 0 (ci := 7) rfl rfl rfl (SubW.full _ _) rfl hl.1 rfl (Nat.le_of_ble_eq_true rfl) dX7_tree_58 (Nat.zero_le _) (Nat.zero_le _) ?_
          exact ret _ _ _ _ dX7_tree_61 rfl (rt_1 hf) rfl
        · replace hf := it_f c6 hf
          by_cases c9 : x2 = (1 : Int32)
          · replace hf := it_t c9 hf
            refine s_tblI (tgt := 62) C dX7_tree_20 c9 (by decide) (by decide) rfl (by decide) ?_
            refine s_aload_n C dX7_tree_62 rfl (lv_at hl 0 rfl) ?_
            refine s_iload_n C dX7_tree_63 rfl (lv_at hl 1 rfl) ?_
            obtain ⟨z10, h11, hf⟩ := bn_some hf
            refine s_callIV (As := [.int x1]) (rest := []) C (c_X7_nodes l D q h N x1 σ z10 h11) ⟨wd_4_192, wd_4_194, wd_s_51, wd_1_10, wd_4_195, cx_X7_nodes, Nat.le_of_ble_eq_true rfl, Nat.le_of_ble_eq_true rfl⟩ 0 (ci := 7) rfl rfl rfl (SubW.full _ _) rfl hl.1 rfl (Nat.le_of_ble_eq_true rfl) dX7_tree_64 (Nat.zero_le _) (Nat.zero_le _) ?_
            exact ret _ _ _ _ dX7_tree_67 rfl (rt_1 hf) rfl
          · replace hf := it_f c9 hf
            by_cases c12 : x2 = (2 : Int32)
            · replace hf := it_t c12 hf
              refine s_tblI (tgt := 68) C dX7_tree_20 c12 (by decide) (by decide) rfl (by decide) ?_
              refine s_iconst (v := (0 : Int32)) C dX7_tree_68 (by decide) ?_
              refine s_istore_n (lv2 := [(3, .int (0 : Int32)), (0, .ref (h 0)), (1, .int x1), (2, .int x2)]) C dX7_tree_69 rfl hl (by decide) rfl ?_
              intro ls hl
              refine s_iconst (v := (0 : Int32)) C dX7_tree_70 (by decide) ?_
              refine s_istore (lv2 := [(4, .int (0 : Int32)), (3, .int (0 : Int32)), (0, .ref (h 0)), (1, .int x1), (2, .int x2)]) C dX7_tree_71 hl (by decide) rfl ?_
              intro ls hl
              exact L73 N _ _ _ hf _ (lv_sub hl [2, 3, 1, 0] rfl)
            · replace hf := it_f c12 hf
              by_cases c17 : x2 = (3 : Int32)
              · replace hf := it_t c17 hf
                refine s_tblI (tgt := 112) C dX7_tree_20 c17 (by decide) (by decide) rfl (by decide) ?_
                refine s_aload_n C dX7_tree_112 rfl (lv_at hl 0 rfl) ?_
                refine gM_0_3 C wd_3_142 dX7_tree_113 ?_
                refine s_iload_n C dX7_tree_116 rfl (lv_at hl 1 rfl) ?_
                obtain ⟨hi18, hf⟩ := bI_some hf
                refine ldM_2 C hi18 dX7_tree_117 ?_
                exact ret _ _ _ _ dX7_tree_118 rfl (rt_1 hf) rfl
              · replace hf := it_f c17 hf
                by_cases c19 : x2 = (4 : Int32)
                · replace hf := it_t c19 hf
                  refine s_tblI (tgt := 119) C dX7_tree_20 c19 (by decide) (by decide) rfl (by decide) ?_
                  refine s_aload_n C dX7_tree_119 rfl (lv_at hl 0 rfl) ?_
                  refine gM_0_4 C wd_3_143 dX7_tree_120 ?_
                  refine s_iload_n C dX7_tree_123 rfl (lv_at hl 1 rfl) ?_
                  obtain ⟨hi20, hf⟩ := bI_some hf
                  refine ldM_3 C hi20 dX7_tree_124 ?_
                  exact ret _ _ _ _ dX7_tree_125 rfl (rt_1 hf) rfl
                · replace hf := it_f c19 hf
                  refine s_tblO (tgt := 126) C dX7_tree_20 (tb_out (n := 4) (by decide) (fun k hk => ?_)) (by decide) ?_
                  · rcases (show k = 0 ∨ k = 1 ∨ k = 2 ∨ k = 3 ∨ k = 4 by omega) with rfl | rfl | rfl | rfl | rfl
                    · exact c6
                    · exact c9
                    · exact c12
                    · exact c17
                    · exact c19
                  refine s_aload_n C dX7_tree_126 rfl (lv_at hl 0 rfl) ?_
                  refine gM_0_5 C wd_3_144 dX7_tree_127 ?_
                  refine s_iload_n C dX7_tree_130 rfl (lv_at hl 1 rfl) ?_
                  obtain ⟨hi21, hf⟩ := bI_some hf
                  refine ldM_4 C hi21 dX7_tree_131 ?_
                  exact ret _ _ _ _ dX7_tree_132 rfl (rt_1 hf) rfl
      · replace hf := it_f c5 hf
        refine s_bipush (v := (-2 : Int32)) C dX7_tree_16 (by decide) ?_
        exact ret _ _ _ _ dX7_tree_18 rfl (rt_1 hf) rfl
def pf_X7_truncate_b206 (N : Nat) (x3 : Int32) (y2 : Int32) (y1 : Int32) (σ : St) : Option (Int32 × St) := bI y1 (3072) (lt_ (sA σ 7 (upd (σ.2.1 7) (Int32.toNatClampNeg y1) y2)) (fun σ34 => some (x3, σ34)))
def pf_X7_truncate_L145 (N : Nat) : Nat → Int32 → Int32 → Int32 → St → Option (Int32 × St)
  | 0, _, _, _, _ => none
  | n + 1, x3, x4, x5, σ => if (64 : Int32) ≤ x5 then (pf_X7_isDirty N x4 σ).bind (fun z30 => if z30 = 0 then pf_X7_truncate_b206 N x3 (σ.1 5) x4 σ else bI x4 (3072) (pf_X7_truncate_b206 N x3 ((σ.2.1 7) (Int32.toNatClampNeg x4)) x4 σ)) else bI x4 (3072) (bI (((64 : Int32) * ((σ.2.1 5) (Int32.toNatClampNeg x4))) + x5) (4096) (lt_ (sA σ 15 (upd (σ.2.1 15) (Int32.toNatClampNeg (((64 : Int32) * ((σ.2.1 5) (Int32.toNatClampNeg x4))) + x5)) (vp_nar .byte (0 : Int32)))) (fun σ39 => (pf_X7_truncate_L145 N n) x3 x4 (x5 + 1) σ39)))
def pf_X7_truncate_b127 (N : Nat) (x2 : Int32) (x3 : Int32) (x4 : Int32) (σ : St) : Option (Int32 × St) := (pf_X7_touch N x4 σ).bind (fun z24 => if z24.1 = 0 then some ((-3 : Int32), z24.2) else lt_ (x2 - x2 / (64 : Int32) * (64 : Int32)) (fun v27 => pf_X7_truncate_L145 N N x3 x4 v27 z24.2))
def pf_X7_truncate_L58 (N : Nat) : Nat → Int32 → Int32 → Int32 → Int32 → St → Option (Int32 × St)
  | 0, _, _, _, _, _ => none
  | n + 1, x1, x2, x3, x4, σ => if (256 : Int32) ≤ x4 then lt_ (((256 : Int32) * x1) + (x2 / (64 : Int32))) (fun v18 => if (x2 - x2 / (64 : Int32) * (64 : Int32)) = 0 then some (x3, σ) else (pf_X7_isIn N v18 σ).bind (fun z21 => if z21 = 0 then bI v18 (3072) (if ((σ.2.1 6) (Int32.toNatClampNeg v18)) = (-1 : Int32) then some (x3, σ) else pf_X7_truncate_b127 N x2 x3 v18 σ) else pf_X7_truncate_b127 N x2 x3 v18 σ)) else (pf_X7_isHoled N (((256 : Int32) * x1) + x4) σ).bind (fun z43 => (pf_X7_truncate_L58 N n) x1 x2 x3 (x4 + 1) z43.2)
def pf_X7_truncate (N : Nat) (x1 : Int32) (x2 : Int32) (σ : St) : Option (Int32 × St) := (pf_X7_isFile N x1).bind (fun z1 => if z1 = 0 then some ((-2 : Int32), σ) else if x2 < 0 then some ((-2 : Int32), σ) else if x2 ≤ (16384 : Int32) then lt_ (sG σ 11 (0 : Int32)) (fun σ6 => bI x1 (12) (lt_ ((σ6.2.1 1) (Int32.toNatClampNeg x1)) (fun v9 => bI x1 (12) (lt_ (sA σ6 1 (upd (σ6.2.1 1) (Int32.toNatClampNeg x1) x2)) (fun σ12 => if x2 < v9 then lt_ (((x2 + (64 : Int32)) - (1 : Int32)) / (64 : Int32)) (fun v15 => pf_X7_truncate_L58 N N x1 x2 v9 v15 σ12) else some (v9, σ12)))))) else some ((-2 : Int32), σ))
theorem cx_X7_truncate : (yX7_truncate.cls ≠ "java/lang/invoke/MethodHandle" ∧ yX7_truncate.cls ≠ "java/lang/invoke/VarHandle" ∧ (parseMethodDescriptor yX7_truncate.desc).map (fun d => d.parameters.length) = some 2) := by decide +kernel
set_option maxHeartbeats 4000000 in
set_option maxRecDepth 100000 in
theorem c_X7_truncate (l : Launch) (D : va_G) (q : Nat → ClassId) (h : Nat → Nat) (N : Nat) (x1 : Int32) (x2 : Int32) (σ : St) (z : (Int32 × St)) (hf : pf_X7_truncate N x1 x2 σ = some z) : MI l yX7_truncate cX7_truncate 6 (some .int) 7 156 D (tyQ q) [.ref (h 0), .int x1, .int x2] (wM h q σ) (wM h q z.2) z.1 := by
  refine MI.of (by decide) (Nat.le_of_ble_eq_true rfl) ?_
  intro p e s m args below meth c Q A C ret ls hl
  have hl : lv_has ls 6 [(0, .ref (h 0)), (1, .int x1), (2, .int x2)] := hl
  unfold pf_X7_truncate at hf
  have b206 : ∀ (x3 : Int32) (y2 : Int32) (y1 : Int32) (σ : St), pf_X7_truncate_b206 N x3 y2 y1 σ = some z → ∀ ls : Array Slot, lv_has ls 6 [(3, .int x3)] → WG p l e (rmO 7 156) s m args below meth c D A 0 0 Q (wM h q σ) (F0 m 206 ls [.int y2, .int y1, .ref (h 7)]) := by
    intro x3 y2 y1 σ hf ls hl
    unfold pf_X7_truncate_b206 at hf
    obtain ⟨hi33, hf⟩ := bI_some hf
    refine stM_7 C hi33 dX7_truncate_206 ?_
    obtain ⟨σ34, e35, hf⟩ := lt_some hf
    refine s_w (ws2 := (wM h q σ34)) (by rw [e35]) ?_
    clear e35
    refine s_iload_n C dX7_truncate_207 rfl (lv_at hl 0 rfl) ?_
    exact ret _ _ _ _ dX7_truncate_208 rfl (rt_2 hf).1 (congrArg (fun σ => (wM h q σ)) (rt_2 hf).2)
  have L145 : ∀ (n : Nat) (x3 : Int32) (x4 : Int32) (x5 : Int32) (σ : St), pf_X7_truncate_L145 N n x3 x4 x5 σ = some z → ∀ ls : Array Slot, lv_has ls 6 [(0, .ref (h 0)), (3, .int x3), (4, .int x4), (5, .int x5)] → WG p l e (rmO 7 156) s m args below meth c D A 0 0 Q (wM h q σ) (F0 m 145 ls []) := by
    intro n
    induction n with
    | zero => intro x3 x4 x5 σ hf; unfold pf_X7_truncate_L145 at hf; cases hf
    | succ n ih =>
      intro x3 x4 x5 σ hf ls hl
      unfold pf_X7_truncate_L145 at hf
      refine s_iload C dX7_truncate_145 (lv_at hl 3 rfl) ?_
      refine s_bipush (v := (64 : Int32)) C dX7_truncate_147 (by decide) ?_
      refine s_icmp_ge (tgt := 177) C dX7_truncate_149 (by decide) (fun c29 => ?_) (fun c29 => ?_)
      · replace hf := it_t c29 hf
        refine s_aload_n C dX7_truncate_177 rfl (lv_at hl 0 rfl) ?_
        refine gM_0_8 C wd_3_147 dX7_truncate_178 ?_
        refine s_iload C dX7_truncate_181 (lv_at hl 2 rfl) ?_
        refine s_aload_n C dX7_truncate_183 rfl (lv_at hl 0 rfl) ?_
        refine s_iload C dX7_truncate_184 (lv_at hl 2 rfl) ?_
        obtain ⟨z30, h31, hf⟩ := bn_some hf
        refine s_callIV (As := [.int x4]) (rest := [.int x4, .ref (h 7)]) C (c_X7_isDirty l D q h N x4 σ z30 h31) ⟨wd_4_49, wd_4_51, wd_s_32, wd_1_10, wd_4_52, cx_X7_isDirty, Nat.le_of_ble_eq_true rfl, Nat.le_of_ble_eq_true rfl⟩ 0 (ci := 7) rfl rfl rfl (SubW.full _ _) rfl hl.1 rfl (Nat.le_of_ble_eq_true rfl) dX7_truncate_186 (Nat.zero_le _) (Nat.zero_le _) ?_
        refine s_if_eq (tgt := 202) C dX7_truncate_189 (by decide) (fun c32 => ?_) (fun c32 => ?_)
        · replace hf := it_t c32 hf
          refine s_aload_n C dX7_truncate_202 rfl (lv_at hl 0 rfl) ?_
          refine gM_0_24 C wd_3_163 dX7_truncate_203 ?_
          exact b206 _ _ _ _ hf _ (lv_sub hl [1] rfl)
        · replace hf := it_f c32 hf
          refine s_aload_n C dX7_truncate_192 rfl (lv_at hl 0 rfl) ?_
          refine gM_0_8 C wd_3_147 dX7_truncate_193 ?_
          refine s_iload C dX7_truncate_196 (lv_at hl 2 rfl) ?_
          obtain ⟨hi36, hf⟩ := bI_some hf
          refine ldM_7 C hi36 dX7_truncate_198 ?_
          refine s_goto (tgt := 206) C dX7_truncate_199 (by decide) ?_
          exact b206 _ _ _ _ hf _ (lv_sub hl [1] rfl)
      · replace hf := it_f c29 hf
        refine s_aload_n C dX7_truncate_152 rfl (lv_at hl 0 rfl) ?_
        refine gM_0_18 C wd_3_157 dX7_truncate_153 ?_
        refine s_bipush (v := (64 : Int32)) C dX7_truncate_156 (by decide) ?_
        refine s_aload_n C dX7_truncate_158 rfl (lv_at hl 0 rfl) ?_
        refine gM_0_6 C wd_3_145 dX7_truncate_159 ?_
        refine s_iload C dX7_truncate_162 (lv_at hl 2 rfl) ?_
        obtain ⟨hi37, hf⟩ := bI_some hf
        refine ldM_5 C hi37 dX7_truncate_164 ?_
        refine s_imul C dX7_truncate_165 ?_
        refine s_iload C dX7_truncate_166 (lv_at hl 3 rfl) ?_
        refine s_iadd C dX7_truncate_168 ?_
        refine s_iconst (v := (0 : Int32)) C dX7_truncate_169 (by decide) ?_
        obtain ⟨hi38, hf⟩ := bI_some hf
        refine stM_15 C hi38 dX7_truncate_170 ?_
        obtain ⟨σ39, e40, hf⟩ := lt_some hf
        refine s_w (ws2 := (wM h q σ39)) (by rw [e40]) ?_
        clear e40
        refine s_iinc (v := (x5 + 1)) (lv2 := [(5, .int (x5 + 1)), (0, .ref (h 0)), (3, .int x3), (4, .int x4)]) C 3 dX7_truncate_171 hl rfl rfl (by decide) rfl ?_
        intro ls hl
        refine s_goto (tgt := 145) C dX7_truncate_174 (by decide) ?_
        exact ih _ _ _ _ hf _ (lv_sub hl [1, 2, 3, 0] rfl)
  have b127 : ∀ (x2 : Int32) (x3 : Int32) (x4 : Int32) (σ : St), pf_X7_truncate_b127 N x2 x3 x4 σ = some z → ∀ ls : Array Slot, lv_has ls 6 [(0, .ref (h 0)), (2, .int x2), (3, .int x3), (4, .int x4)] → WG p l e (rmO 7 156) s m args below meth c D A 0 0 Q (wM h q σ) (F0 m 127 ls []) := by
    intro x2 x3 x4 σ hf ls hl
    unfold pf_X7_truncate_b127 at hf
    refine s_aload_n C dX7_truncate_127 rfl (lv_at hl 0 rfl) ?_
    refine s_iload C dX7_truncate_128 (lv_at hl 3 rfl) ?_
    obtain ⟨z24, h25, hf⟩ := bn_some hf
    refine s_callIV (As := [.int x4]) (rest := []) C (c_X7_touch l D q h N x4 σ z24 h25) ⟨wd_4_17, wd_4_19, wd_s_24, wd_1_10, wd_4_20, cx_X7_touch, Nat.le_of_ble_eq_true rfl, Nat.le_of_ble_eq_true rfl⟩ 0 (ci := 7) rfl rfl rfl (SubW.full _ _) rfl hl.1 rfl (Nat.le_of_ble_eq_true rfl) dX7_truncate_130 (Nat.zero_le _) (Nat.zero_le _) ?_
    refine s_if_ne (tgt := 139) C dX7_truncate_133 (by decide) (fun c26 => ?_) (fun c26 => ?_)
    · replace hf := it_f c26 hf
      refine s_iload_n C dX7_truncate_139 rfl (lv_at hl 1 rfl) ?_
      refine s_bipush (v := (64 : Int32)) C dX7_truncate_140 (by decide) ?_
      refine s_irem C dX7_truncate_142 (by decide) ?_
      obtain ⟨v27, e28, hf⟩ := lt_some hf
      refine s_eq (g2 := F0 m 143 ls [.int v27]) (by rw [e28]) ?_
      clear e28
      refine s_istore (lv2 := [(5, .int v27), (0, .ref (h 0)), (2, .int x2), (3, .int x3), (4, .int x4)]) C dX7_truncate_143 hl (by decide) rfl ?_
      intro ls hl
      exact L145 N _ _ _ _ hf _ (lv_sub hl [1, 3, 4, 0] rfl)
    · replace hf := it_t c26 hf
      refine s_bipush (v := (-3 : Int32)) C dX7_truncate_136 (by decide) ?_
      exact ret _ _ _ _ dX7_truncate_138 rfl (rt_2 hf).1 (congrArg (fun σ => (wM h q σ)) (rt_2 hf).2)
  have L58 : ∀ (n : Nat) (x1 : Int32) (x2 : Int32) (x3 : Int32) (x4 : Int32) (σ : St), pf_X7_truncate_L58 N n x1 x2 x3 x4 σ = some z → ∀ ls : Array Slot, lv_has ls 6 [(0, .ref (h 0)), (1, .int x1), (2, .int x2), (3, .int x3), (4, .int x4)] → WG p l e (rmO 7 156) s m args below meth c D A 0 0 Q (wM h q σ) (F0 m 58 ls []) := by
    intro n
    induction n with
    | zero => intro x1 x2 x3 x4 σ hf; unfold pf_X7_truncate_L58 at hf; cases hf
    | succ n ih =>
      intro x1 x2 x3 x4 σ hf ls hl
      unfold pf_X7_truncate_L58 at hf
      refine s_iload C dX7_truncate_58 (lv_at hl 4 rfl) ?_
      refine s_sipush (v := (256 : Int32)) C dX7_truncate_60 (by decide) ?_
      refine s_icmp_ge (tgt := 86) C dX7_truncate_63 (by decide) (fun c17 => ?_) (fun c17 => ?_)
      · replace hf := it_t c17 hf
        refine s_sipush (v := (256 : Int32)) C dX7_truncate_86 (by decide) ?_
        refine s_iload_n C dX7_truncate_89 rfl (lv_at hl 1 rfl) ?_
        refine s_imul C dX7_truncate_90 ?_
        refine s_iload_n C dX7_truncate_91 rfl (lv_at hl 2 rfl) ?_
        refine s_bipush (v := (64 : Int32)) C dX7_truncate_92 (by decide) ?_
        refine s_idiv C dX7_truncate_94 (by decide) ?_
        refine s_iadd C dX7_truncate_95 ?_
        obtain ⟨v18, e19, hf⟩ := lt_some hf
        refine s_eq (g2 := F0 m 96 ls [.int v18]) (by rw [e19]) ?_
        clear e19
        refine s_istore (lv2 := [(4, .int v18), (0, .ref (h 0)), (1, .int x1), (2, .int x2), (3, .int x3)]) C dX7_truncate_96 hl (by decide) rfl ?_
        intro ls hl
        refine s_iload_n C dX7_truncate_98 rfl (lv_at hl 3 rfl) ?_
        refine s_bipush (v := (64 : Int32)) C dX7_truncate_99 (by decide) ?_
        refine s_irem C dX7_truncate_101 (by decide) ?_
        refine s_if_eq (tgt := 125) C dX7_truncate_102 (by decide) (fun c20 => ?_) (fun c20 => ?_)
        · replace hf := it_t c20 hf
          refine s_iload_n C dX7_truncate_125 rfl (lv_at hl 4 rfl) ?_
          exact ret _ _ _ _ dX7_truncate_126 rfl (rt_2 hf).1 (congrArg (fun σ => (wM h q σ)) (rt_2 hf).2)
        · replace hf := it_f c20 hf
          refine s_aload_n C dX7_truncate_105 rfl (lv_at hl 1 rfl) ?_
          refine s_iload C dX7_truncate_106 (lv_at hl 0 rfl) ?_
          obtain ⟨z21, h22, hf⟩ := bn_some hf
          refine s_callIV (As := [.int v18]) (rest := []) C (c_X7_isIn l D q h N v18 σ z21 h22) ⟨wd_4_13, wd_4_15, wd_s_23, wd_1_10, wd_4_16, cx_X7_isIn, Nat.le_of_ble_eq_true rfl, Nat.le_of_ble_eq_true rfl⟩ 0 (ci := 7) rfl rfl rfl (SubW.full _ _) rfl hl.1 rfl (Nat.le_of_ble_eq_true rfl) dX7_truncate_108 (Nat.zero_le _) (Nat.zero_le _) ?_
          refine s_if_ne (tgt := 127) C dX7_truncate_111 (by decide) (fun c23 => ?_) (fun c23 => ?_)
          · replace hf := it_f c23 hf
            exact b127 _ _ _ _ hf _ (lv_sub hl [1, 3, 4, 0] rfl)
          · replace hf := it_t c23 hf
            refine s_aload_n C dX7_truncate_114 rfl (lv_at hl 1 rfl) ?_
            refine gM_0_7 C wd_3_146 dX7_truncate_115 ?_
            refine s_iload C dX7_truncate_118 (lv_at hl 0 rfl) ?_
            obtain ⟨hi41, hf⟩ := bI_some hf
            refine ldM_6 C hi41 dX7_truncate_120 ?_
            refine s_iconst (v := (-1 : Int32)) C dX7_truncate_121 (by decide) ?_
            refine s_icmp_ne (tgt := 127) C dX7_truncate_122 (by decide) (fun c42 => ?_) (fun c42 => ?_)
            · replace hf := it_f c42 hf
              exact b127 _ _ _ _ hf _ (lv_sub hl [1, 3, 4, 0] rfl)
            · replace hf := it_t c42 hf
              refine s_iload_n C dX7_truncate_125 rfl (lv_at hl 4 rfl) ?_
              exact ret _ _ _ _ dX7_truncate_126 rfl (rt_2 hf).1 (congrArg (fun σ => (wM h q σ)) (rt_2 hf).2)
      · replace hf := it_f c17 hf
        refine s_aload_n C dX7_truncate_66 rfl (lv_at hl 0 rfl) ?_
        refine s_sipush (v := (256 : Int32)) C dX7_truncate_67 (by decide) ?_
        refine s_iload_n C dX7_truncate_70 rfl (lv_at hl 1 rfl) ?_
        refine s_imul C dX7_truncate_71 ?_
        refine s_iload C dX7_truncate_72 (lv_at hl 4 rfl) ?_
        refine s_iadd C dX7_truncate_74 ?_
        obtain ⟨z43, h44, hf⟩ := bn_some hf
        refine s_callIV (As := [.int (((256 : Int32) * x1) + x4)]) (rest := []) C (c_X7_isHoled l D q h N (((256 : Int32) * x1) + x4) σ z43 h44) ⟨wd_4_121, wd_4_123, wd_s_46, wd_1_10, wd_4_124, cx_X7_isHoled, Nat.le_of_ble_eq_true rfl, Nat.le_of_ble_eq_true rfl⟩ 0 (ci := 7) rfl rfl rfl (SubW.full _ _) rfl hl.1 rfl (Nat.le_of_ble_eq_true rfl) dX7_truncate_75 (Nat.zero_le _) (Nat.zero_le _) ?_
        refine s_istore (lv2 := [(5, .int z43.1), (0, .ref (h 0)), (1, .int x1), (2, .int x2), (3, .int x3), (4, .int x4)]) C dX7_truncate_78 hl (by decide) rfl ?_
        intro ls hl
        refine s_iinc (v := (x4 + 1)) (lv2 := [(4, .int (x4 + 1)), (5, .int z43.1), (0, .ref (h 0)), (1, .int x1), (2, .int x2), (3, .int x3)]) C 5 dX7_truncate_80 hl rfl rfl (by decide) rfl ?_
        intro ls hl
        refine s_goto (tgt := 58) C dX7_truncate_83 (by decide) ?_
        exact ih _ _ _ _ _ hf _ (lv_sub hl [2, 3, 4, 5, 0] rfl)
  refine s_iload_n C dX7_truncate_0 rfl (lv_at hl 1 rfl) ?_
  obtain ⟨z1, h2, hf⟩ := bn_some hf
  refine s_callIS (As := [.int x1]) (rest := []) C (c_X7_isFile l D q (wM h q σ) N x1  z1 h2) ⟨wd_4_10, wd_4_11, wd_1_10, wd_4_12, cx_X7_isFile, Nat.le_of_ble_eq_true rfl, Nat.le_of_ble_eq_true rfl⟩ (SubW.full _ _) rfl hl.1 rfl (Nat.le_of_ble_eq_true rfl) dX7_truncate_1 (Nat.zero_le _) (Nat.zero_le _) ?_
  refine s_if_eq (tgt := 18) C dX7_truncate_4 (by decide) (fun c3 => ?_) (fun c3 => ?_)
  · replace hf := it_t c3 hf
    refine s_bipush (v := (-2 : Int32)) C dX7_truncate_18 (by decide) ?_
    exact ret _ _ _ _ dX7_truncate_20 rfl (rt_2 hf).1 (congrArg (fun σ => (wM h q σ)) (rt_2 hf).2)
  · replace hf := it_f c3 hf
    refine s_iload_n C dX7_truncate_7 rfl (lv_at hl 2 rfl) ?_
    refine s_if_lt (tgt := 18) C dX7_truncate_8 (by decide) (fun c4 => ?_) (fun c4 => ?_)
    · replace hf := it_t c4 hf
      refine s_bipush (v := (-2 : Int32)) C dX7_truncate_18 (by decide) ?_
      exact ret _ _ _ _ dX7_truncate_20 rfl (rt_2 hf).1 (congrArg (fun σ => (wM h q σ)) (rt_2 hf).2)
    · replace hf := it_f c4 hf
      refine s_iload_n C dX7_truncate_11 rfl (lv_at hl 2 rfl) ?_
      refine s_sipush (v := (16384 : Int32)) C dX7_truncate_12 (by decide) ?_
      refine s_icmp_le (tgt := 21) C dX7_truncate_15 (by decide) (fun c5 => ?_) (fun c5 => ?_)
      · replace hf := it_t c5 hf
        refine s_aload_n C dX7_truncate_21 rfl (lv_at hl 0 rfl) ?_
        refine s_iconst (v := (0 : Int32)) C dX7_truncate_22 (by decide) ?_
        refine uM_0_33 C wd_3_172 rfl dX7_truncate_23 ?_
        obtain ⟨σ6, e7, hf⟩ := lt_some hf
        refine s_w (ws2 := (wM h q σ6)) (by rw [e7]) ?_
        clear e7
        refine s_aload_n C dX7_truncate_26 rfl (lv_at hl 0 rfl) ?_
        refine gM_0_2 C wd_3_141 dX7_truncate_27 ?_
        refine s_iload_n C dX7_truncate_30 rfl (lv_at hl 1 rfl) ?_
        obtain ⟨hi8, hf⟩ := bI_some hf
        refine ldM_1 C hi8 dX7_truncate_31 ?_
        obtain ⟨v9, e10, hf⟩ := lt_some hf
        refine s_eq (g2 := F0 m 32 ls [.int v9]) (by rw [e10]) ?_
        clear e10
        refine s_istore_n (lv2 := [(3, .int v9), (0, .ref (h 0)), (1, .int x1), (2, .int x2)]) C dX7_truncate_32 rfl hl (by decide) rfl ?_
        intro ls hl
        refine s_aload_n C dX7_truncate_33 rfl (lv_at hl 1 rfl) ?_
        refine gM_0_2 C wd_3_141 dX7_truncate_34 ?_
        refine s_iload_n C dX7_truncate_37 rfl (lv_at hl 2 rfl) ?_
        refine s_iload_n C dX7_truncate_38 rfl (lv_at hl 3 rfl) ?_
        obtain ⟨hi11, hf⟩ := bI_some hf
        refine stM_1 C hi11 dX7_truncate_39 ?_
        obtain ⟨σ12, e13, hf⟩ := lt_some hf
        refine s_w (ws2 := (wM h q σ12)) (by rw [e13]) ?_
        clear e13
        refine s_iload_n C dX7_truncate_40 rfl (lv_at hl 3 rfl) ?_
        refine s_iload_n C dX7_truncate_41 rfl (lv_at hl 0 rfl) ?_
        refine s_icmp_lt (tgt := 47) C dX7_truncate_42 (by decide) (fun c14 => ?_) (fun c14 => ?_)
        · replace hf := it_t c14 hf
          refine s_iload_n C dX7_truncate_47 rfl (lv_at hl 3 rfl) ?_
          refine s_bipush (v := (64 : Int32)) C dX7_truncate_48 (by decide) ?_
          refine s_iadd C dX7_truncate_50 ?_
          refine s_iconst (v := (1 : Int32)) C dX7_truncate_51 (by decide) ?_
          refine s_isub C dX7_truncate_52 ?_
          refine s_bipush (v := (64 : Int32)) C dX7_truncate_53 (by decide) ?_
          refine s_idiv C dX7_truncate_55 (by decide) ?_
          obtain ⟨v15, e16, hf⟩ := lt_some hf
          refine s_eq (g2 := F0 m 56 ls [.int v15]) (by rw [e16]) ?_
          clear e16
          refine s_istore (lv2 := [(4, .int v15), (3, .int v9), (0, .ref (h 0)), (1, .int x1), (2, .int x2)]) C dX7_truncate_56 hl (by decide) rfl ?_
          intro ls hl
          exact L58 N _ _ _ _ _ hf _ (lv_sub hl [2, 3, 4, 1, 0] rfl)
        · replace hf := it_f c14 hf
          refine s_iload_n C dX7_truncate_45 rfl (lv_at hl 0 rfl) ?_
          exact ret _ _ _ _ dX7_truncate_46 rfl (rt_2 hf).1 (congrArg (fun σ => (wM h q σ)) (rt_2 hf).2)
      · replace hf := it_f c5 hf
        refine s_bipush (v := (-2 : Int32)) C dX7_truncate_18 (by decide) ?_
        exact ret _ _ _ _ dX7_truncate_20 rfl (rt_2 hf).1 (congrArg (fun σ => (wM h q σ)) (rt_2 hf).2)
