def pf_X6_crash_L10 (N : Nat) (nf : Nat) (nb : Nat) : Nat → Int32 → Int32 → St → Option (Int32 × St)
  | 0, _, _, _ => none
  | n + 1, x1, x2, σ => if (σ.1 5) ≤ x2 then (pf_X4_forgetAll N nf nb σ).bind (fun z2 => (pf_X1_reset N nf nb z2).bind (fun z4 => lt_ (sG z4 12 (0 : Int32)) (fun σ6 => some (x1, σ6)))) else (pf_X2_leave N nf nb x2 σ).bind (fun z8 => (pf_X6_crash_L10 N nf nb n) x1 (x2 + 1) z8)
def pf_X6_crash (N : Nat) (nf : Nat) (nb : Nat) (σ : St) : Option (Int32 × St) := pf_X6_crash_L10 N nf nb N (σ.1 8) (0 : Int32) σ
theorem cx_X6_crash : (yX6_crash.cls ≠ "java/lang/invoke/MethodHandle" ∧ yX6_crash.cls ≠ "java/lang/invoke/VarHandle" ∧ (parseMethodDescriptor yX6_crash.desc).map (fun d => d.parameters.length) = some 0) := by decide +kernel
set_option maxHeartbeats 4000000 in
set_option maxRecDepth 100000 in
theorem c_X6_crash (l : Launch) (D : va_G) (q : Nat → ClassId) (h : Nat → Nat) (N : Nat) (nf : Nat) (nb : Nat) (σ : St) (z : (Int32 × St)) (hf : pf_X6_crash N nf nb σ = some z) : MI l yX6_crash cX6_crash 3 (some .int) 3 67 D (tyQ q) [.ref (h 0)] (wC h q nf nb σ) (wC h q nf nb z.2) z.1 := by
  refine MI.of (by decide) (Nat.le_of_ble_eq_true rfl) ?_
  intro p e s m args below meth c Q A C ret ls hl
  have hl : lv_has ls 3 [(0, .ref (h 0))] := hl
  unfold pf_X6_crash at hf
  have L10 : ∀ (n : Nat) (x1 : Int32) (x2 : Int32) (σ : St), pf_X6_crash_L10 N nf nb n x1 x2 σ = some z → ∀ ls : Array Slot, lv_has ls 3 [(0, .ref (h 0)), (1, .int x1), (2, .int x2)] → WG p l e (rmO 3 67) s m args below meth c D A 0 0 Q (wC h q nf nb σ) (F0 m 10 ls []) := by
    intro n
    induction n with
    | zero => intro x1 x2 σ hf; unfold pf_X6_crash_L10 at hf; cases hf
    | succ n ih =>
      intro x1 x2 σ hf ls hl
      unfold pf_X6_crash_L10 at hf
      refine s_iload_n C dX6_crash_10 rfl (lv_at hl 2 rfl) ?_
      refine s_aload_n C dX6_crash_11 rfl (lv_at hl 0 rfl) ?_
      refine gC_0_2 C wd_1_214 dX6_crash_12 ?_
      refine gnC_14_0 C nl_15 dX6_crash_15 ?_
      refine s_icmp_ge (tgt := 35) C dX6_crash_18 (by decide) (fun c1 => ?_) (fun c1 => ?_)
      · replace hf := it_t c1 hf
        refine s_aload_n C dX6_crash_35 rfl (lv_at hl 0 rfl) ?_
        refine gC_0_3 C wd_1_215 dX6_crash_36 ?_
        obtain ⟨z2, h3, hf⟩ := bn_some hf
        refine s_callVV (As := []) (rest := []) C (c_X4_forgetAll l D q h N nf nb σ z2 h3) ⟨wd_3_49, wd_3_50, wd_3_51, wd_1_9, wd_3_52, cx_X4_forgetAll, Nat.le_of_ble_eq_true rfl, Nat.le_of_ble_eq_true rfl⟩ 27 (ci := 4) rfl rfl rfl (SubW.full _ _) rfl hl.1 rfl (Nat.le_of_ble_eq_true rfl) dX6_crash_39 (Nat.zero_le _) (Nat.zero_le _) ?_
        refine s_aload_n C dX6_crash_42 rfl (lv_at hl 0 rfl) ?_
        refine gC_0_1 C wd_1_213 dX6_crash_43 ?_
        obtain ⟨z4, h5, hf⟩ := bn_some hf
        refine s_callVV (As := []) (rest := []) C (c_X1_reset l D q h N nf nb z2 z4 h5) ⟨wd_3_53, wd_3_54, wd_3_55, wd_1_5, wd_3_56, cx_X1_reset, Nat.le_of_ble_eq_true rfl, Nat.le_of_ble_eq_true rfl⟩ 9 (ci := 1) rfl rfl rfl (SubW.full _ _) rfl hl.1 rfl (Nat.le_of_ble_eq_true rfl) dX6_crash_46 (Nat.zero_le _) (Nat.zero_le _) ?_
        refine s_aload_n C dX6_crash_49 rfl (lv_at hl 0 rfl) ?_
        refine s_iconst (v := (0 : Int32)) C dX6_crash_50 (by decide) ?_
        refine uC_0_7 C wd_1_219 dX6_crash_51 ?_
        obtain ⟨σ6, e7, hf⟩ := lt_some hf
        refine s_w (ws2 := (wC h q nf nb σ6)) (by rw [e7]) ?_
        clear e7
        refine s_iload_n C dX6_crash_54 rfl (lv_at hl 1 rfl) ?_
        exact ret _ _ _ _ dX6_crash_55 rfl (rt_2 hf).1 (congrArg (fun σ => (wC h q nf nb σ)) (rt_2 hf).2)
      · replace hf := it_f c1 hf
        refine s_aload_n C dX6_crash_21 rfl (lv_at hl 0 rfl) ?_
        refine gC_0_2 C wd_1_214 dX6_crash_22 ?_
        refine s_iload_n C dX6_crash_25 rfl (lv_at hl 2 rfl) ?_
        obtain ⟨z8, h9, hf⟩ := bn_some hf
        refine s_callVV (As := [.int x2]) (rest := []) C (c_X2_leave l D q h N nf nb x2 σ z8 h9) ⟨wd_2_134, wd_2_135, wd_2_136, wd_1_7, wd_2_137, cx_X2_leave, Nat.le_of_ble_eq_true rfl, Nat.le_of_ble_eq_true rfl⟩ 14 (ci := 2) rfl rfl rfl (SubW.full _ _) rfl hl.1 rfl (Nat.le_of_ble_eq_true rfl) dX6_crash_26 (Nat.zero_le _) (Nat.zero_le _) ?_
        refine s_iinc (v := (x2 + 1)) (lv2 := [(2, .int (x2 + 1)), (0, .ref (h 0)), (1, .int x1)]) C 2 dX6_crash_29 hl rfl rfl (by decide) rfl ?_
        intro ls hl
        refine s_goto (tgt := 10) C dX6_crash_32 (by decide) ?_
        exact ih _ _ _ hf _ (lv_sub hl [1, 2, 0] rfl)
  refine s_aload_n C dX6_crash_0 rfl (lv_at hl 0 rfl) ?_
  refine gC_0_2 C wd_1_214 dX6_crash_1 ?_
  refine gnC_14_10 C nl_24 dX6_crash_4 ?_
  refine s_istore_n (lv2 := [(1, .int (σ.1 8)), (0, .ref (h 0))]) C dX6_crash_7 rfl hl (by decide) rfl ?_
  intro ls hl
  refine s_iconst (v := (0 : Int32)) C dX6_crash_8 (by decide) ?_
  refine s_istore_n (lv2 := [(2, .int (0 : Int32)), (1, .int (σ.1 8)), (0, .ref (h 0))]) C dX6_crash_9 rfl hl (by decide) rfl ?_
  intro ls hl
  exact L10 N _ _ _ hf _ (lv_sub hl [2, 1, 0] rfl)
def pf_X6_touch (N : Nat) (nf : Nat) (nb : Nat) (x1 : Int32) (σ : St) : Option (Int32 × St) := (pf_X2_frameOf N nf nb x1 σ).bind (fun z1 => if z1 = (-1 : Int32) then (pf_X6_bringIn N nf nb x1 σ).bind (fun z6 => some (z6.1, z6.2)) else (pf_X2_seeAgain N nf nb z1 σ).bind (fun z4 => some (z1, z4)))
theorem cx_X6_touch : (yX6_touch.cls ≠ "java/lang/invoke/MethodHandle" ∧ yX6_touch.cls ≠ "java/lang/invoke/VarHandle" ∧ (parseMethodDescriptor yX6_touch.desc).map (fun d => d.parameters.length) = some 1) := by decide +kernel
set_option maxHeartbeats 4000000 in
set_option maxRecDepth 100000 in
theorem c_X6_touch (l : Launch) (D : va_G) (q : Nat → ClassId) (h : Nat → Nat) (N : Nat) (nf : Nat) (nb : Nat) (x1 : Int32) (σ : St) (z : (Int32 × St)) (hf : pf_X6_touch N nf nb x1 σ = some z) : MI l yX6_touch cX6_touch 3 (some .int) 5 120 D (tyQ q) [.ref (h 0), .int x1] (wC h q nf nb σ) (wC h q nf nb z.2) z.1 := by
  refine MI.of (by decide) (Nat.le_of_ble_eq_true rfl) ?_
  intro p e s m args below meth c Q A C ret ls hl
  have hl : lv_has ls 3 [(0, .ref (h 0)), (1, .int x1)] := hl
  unfold pf_X6_touch at hf
  refine s_aload_n C dX6_touch_0 rfl (lv_at hl 0 rfl) ?_
  refine gC_0_2 C wd_1_214 dX6_touch_1 ?_
  refine s_iload_n C dX6_touch_4 rfl (lv_at hl 1 rfl) ?_
  obtain ⟨z1, h2, hf⟩ := bn_some hf
  refine s_callIV (As := [.int x1]) (rest := []) C (c_X2_frameOf l D q h N nf nb x1 σ z1 h2) ⟨wd_2_21, wd_2_22, wd_2_23, wd_1_7, wd_2_24, cx_X2_frameOf, Nat.le_of_ble_eq_true rfl, Nat.le_of_ble_eq_true rfl⟩ 14 (ci := 2) rfl rfl rfl (SubW.full _ _) rfl hl.1 rfl (Nat.le_of_ble_eq_true rfl) dX6_touch_5 (Nat.zero_le _) (Nat.zero_le _) ?_
  refine s_istore_n (lv2 := [(2, .int z1), (0, .ref (h 0)), (1, .int x1)]) C dX6_touch_8 rfl hl (by decide) rfl ?_
  intro ls hl
  refine s_iload_n C dX6_touch_9 rfl (lv_at hl 0 rfl) ?_
  refine s_iconst (v := (-1 : Int32)) C dX6_touch_10 (by decide) ?_
  refine s_icmp_ne (tgt := 20) C dX6_touch_11 (by decide) (fun c3 => ?_) (fun c3 => ?_)
  · replace hf := it_f c3 hf
    refine s_aload_n C dX6_touch_20 rfl (lv_at hl 1 rfl) ?_
    refine gC_0_2 C wd_1_214 dX6_touch_21 ?_
    refine s_iload_n C dX6_touch_24 rfl (lv_at hl 0 rfl) ?_
    obtain ⟨z4, h5, hf⟩ := bn_some hf
    refine s_callVV (As := [.int z1]) (rest := []) C (c_X2_seeAgain l D q h N nf nb z1 σ z4 h5) ⟨wd_2_171, wd_2_172, wd_2_173, wd_1_7, wd_2_174, cx_X2_seeAgain, Nat.le_of_ble_eq_true rfl, Nat.le_of_ble_eq_true rfl⟩ 14 (ci := 2) rfl rfl rfl (SubW.full _ _) rfl hl.1 rfl (Nat.le_of_ble_eq_true rfl) dX6_touch_25 (Nat.zero_le _) (Nat.zero_le _) ?_
    refine s_iload_n C dX6_touch_28 rfl (lv_at hl 0 rfl) ?_
    exact ret _ _ _ _ dX6_touch_29 rfl (rt_2 hf).1 (congrArg (fun σ => (wC h q nf nb σ)) (rt_2 hf).2)
  · replace hf := it_t c3 hf
    refine s_aload_n C dX6_touch_14 rfl (lv_at hl 1 rfl) ?_
    refine s_iload_n C dX6_touch_15 rfl (lv_at hl 2 rfl) ?_
    obtain ⟨z6, h7, hf⟩ := bn_some hf
    refine s_callIV (As := [.int x1]) (rest := []) C (c_X6_bringIn l D q h N nf nb x1 σ z6 h7) ⟨wd_2_29, wd_2_31, wd_s_2, wd_1_1, wd_2_32, cx_X6_bringIn, Nat.le_of_ble_eq_true rfl, Nat.le_of_ble_eq_true rfl⟩ 0 (ci := 6) rfl rfl rfl (SubW.full _ _) rfl hl.1 rfl (Nat.le_of_ble_eq_true rfl) dX6_touch_16 (Nat.zero_le _) (Nat.zero_le _) ?_
    exact ret _ _ _ _ dX6_touch_19 rfl (rt_2 hf).1 (congrArg (fun σ => (wC h q nf nb σ)) (rt_2 hf).2)
def pf_X6_cutLastPage_b45 (N : Nat) (nf : Nat) (nb : Nat) (x3 : Int32) (x4 : Int32) (σ : St) : Option (Int32 × St) := (pf_X6_touch N nf nb x4 σ).bind (fun z9 => if z9.1 = (-1 : Int32) then some ((0 : Int32), z9.2) else (pf_X5_clear N (nf * 8) ((z9.1 * (64 : Int32)) + x3) ((z9.1 + (1 : Int32)) * (64 : Int32)) (z9.2.2.2 16)).bind (fun z12 => lt_ (sL z9.2 16 z12) (fun σ14 => (pf_X2_soil N nf nb z9.1 (σ14.1 13) σ14).bind (fun z16 => some ((1 : Int32), z16)))))
def pf_X6_cutLastPage (N : Nat) (nf : Nat) (nb : Nat) (x1 : Int32) (x2 : Int32) (σ : St) : Option (Int32 × St) := lt_ (x2 - x2 / (64 : Int32) * (64 : Int32)) (fun v1 => (pf_X6_spotOf N x1 (x2 / (64 : Int32))).bind (fun z3 => if v1 = 0 then some ((1 : Int32), σ) else (pf_X2_frameOf N nf nb z3 σ).bind (fun z6 => if z6 = (-1 : Int32) then bI z3 (3072) (if ((σ.2.1 30) (Int32.toNatClampNeg z3)) = (-1 : Int32) then some ((1 : Int32), σ) else pf_X6_cutLastPage_b45 N nf nb v1 z3 σ) else pf_X6_cutLastPage_b45 N nf nb v1 z3 σ)))
theorem cx_X6_cutLastPage : (yX6_cutLastPage.cls ≠ "java/lang/invoke/MethodHandle" ∧ yX6_cutLastPage.cls ≠ "java/lang/invoke/VarHandle" ∧ (parseMethodDescriptor yX6_cutLastPage.desc).map (fun d => d.parameters.length) = some 2) := by decide +kernel
set_option maxHeartbeats 4000000 in
set_option maxRecDepth 100000 in
theorem c_X6_cutLastPage (l : Launch) (D : va_G) (q : Nat → ClassId) (h : Nat → Nat) (N : Nat) (nf : Nat) (nb : Nat) (x1 : Int32) (x2 : Int32) (σ : St) (z : (Int32 × St)) (hf : pf_X6_cutLastPage N nf nb x1 x2 σ = some z) : MI l yX6_cutLastPage cX6_cutLastPage 6 (some .boolean) 6 142 D (tyQ q) [.ref (h 0), .int x1, .int x2] (wC h q nf nb σ) (wC h q nf nb z.2) z.1 := by
  refine MI.of (by decide) (Nat.le_of_ble_eq_true rfl) ?_
  intro p e s m args below meth c Q A C ret ls hl
  have hl : lv_has ls 6 [(0, .ref (h 0)), (1, .int x1), (2, .int x2)] := hl
  unfold pf_X6_cutLastPage at hf
  have b45 : ∀ (x3 : Int32) (x4 : Int32) (σ : St), pf_X6_cutLastPage_b45 N nf nb x3 x4 σ = some z → ∀ ls : Array Slot, lv_has ls 6 [(0, .ref (h 0)), (3, .int x3), (4, .int x4)] → WG p l e (rmO 6 142) s m args below meth c D A 0 0 Q (wC h q nf nb σ) (F0 m 45 ls []) := by
    intro x3 x4 σ hf ls hl
    unfold pf_X6_cutLastPage_b45 at hf
    refine s_aload_n C dX6_cutLastPage_45 rfl (lv_at hl 0 rfl) ?_
    refine s_iload C dX6_cutLastPage_46 (lv_at hl 2 rfl) ?_
    obtain ⟨z9, h10, hf⟩ := bn_some hf
    refine s_callIV (As := [.int x4]) (rest := []) C (c_X6_touch l D q h N nf nb x4 σ z9 h10) ⟨wd_2_25, wd_2_27, wd_s_1, wd_1_1, wd_2_28, cx_X6_touch, Nat.le_of_ble_eq_true rfl, Nat.le_of_ble_eq_true rfl⟩ 0 (ci := 6) rfl rfl rfl (SubW.full _ _) rfl hl.1 rfl (Nat.le_of_ble_eq_true rfl) dX6_cutLastPage_48 (Nat.zero_le _) (Nat.zero_le _) ?_
    refine s_istore (lv2 := [(5, .int z9.1), (0, .ref (h 0)), (3, .int x3), (4, .int x4)]) C dX6_cutLastPage_51 hl (by decide) rfl ?_
    intro ls hl
    refine s_iload C dX6_cutLastPage_53 (lv_at hl 0 rfl) ?_
    refine s_iconst (v := (-1 : Int32)) C dX6_cutLastPage_55 (by decide) ?_
    refine s_icmp_ne (tgt := 61) C dX6_cutLastPage_56 (by decide) (fun c11 => ?_) (fun c11 => ?_)
    · replace hf := it_f c11 hf
      refine s_aload_n C dX6_cutLastPage_61 rfl (lv_at hl 1 rfl) ?_
      refine gC_0_2 C wd_1_214 dX6_cutLastPage_62 ?_
      refine gnC_14_1 C nl_16 dX6_cutLastPage_65 ?_
      refine s_iload C dX6_cutLastPage_68 (lv_at hl 0 rfl) ?_
      refine s_bipush (v := (64 : Int32)) C dX6_cutLastPage_70 (by decide) ?_
      refine s_imul C dX6_cutLastPage_72 ?_
      refine s_iload_n C dX6_cutLastPage_73 rfl (lv_at hl 2 rfl) ?_
      refine s_iadd C dX6_cutLastPage_74 ?_
      refine s_iload C dX6_cutLastPage_75 (lv_at hl 0 rfl) ?_
      refine s_iconst (v := (1 : Int32)) C dX6_cutLastPage_77 (by decide) ?_
      refine s_iadd C dX6_cutLastPage_78 ?_
      refine s_bipush (v := (64 : Int32)) C dX6_cutLastPage_79 (by decide) ?_
      refine s_imul C dX6_cutLastPage_81 ?_
      obtain ⟨z12, h13, hf⟩ := bn_some hf
      refine s_callVV (As := [.int ((z9.1 * (64 : Int32)) + x3), .int ((z9.1 + (1 : Int32)) * (64 : Int32))]) (rest := []) C (c_X5_clear l D q (h 15) (h 16) N (nf * 8) ((z9.1 * (64 : Int32)) + x3) ((z9.1 + (1 : Int32)) * (64 : Int32)) (z9.2.2.2 16) z12 h13) ⟨wd_2_157, wd_2_111, wd_2_112, wd_1_2, wd_2_113, cx_X5_clear, Nat.le_of_ble_eq_true rfl, Nat.le_of_ble_eq_true rfl⟩ 15 (ci := 5) rfl rfl rfl (jnC_15_16 nf nb h  q z9.2 z12) rfl hl.1 rfl (Nat.le_of_ble_eq_true rfl) dX6_cutLastPage_82 (Nat.zero_le _) (Nat.zero_le _) ?_
      obtain ⟨σ14, e15, hf⟩ := lt_some hf
      refine s_w (ws2 := (wC h q nf nb σ14)) (by rw [e15]) ?_
      clear e15
      refine s_aload_n C dX6_cutLastPage_85 rfl (lv_at hl 1 rfl) ?_
      refine gC_0_2 C wd_1_214 dX6_cutLastPage_86 ?_
      refine s_iload C dX6_cutLastPage_89 (lv_at hl 0 rfl) ?_
      refine s_aload_n C dX6_cutLastPage_91 rfl (lv_at hl 1 rfl) ?_
      refine gC_0_8 C wd_1_220 dX6_cutLastPage_92 ?_
      obtain ⟨z16, h17, hf⟩ := bn_some hf
      refine s_callVV (As := [.int z9.1, .int (σ14.1 13)]) (rest := []) C (c_X2_soil l D q h N nf nb z9.1 (σ14.1 13) σ14 z16 h17) ⟨wd_2_206, wd_2_207, wd_2_208, wd_1_7, wd_2_209, cx_X2_soil, Nat.le_of_ble_eq_true rfl, Nat.le_of_ble_eq_true rfl⟩ 14 (ci := 2) rfl rfl rfl (SubW.full _ _) rfl hl.1 rfl (Nat.le_of_ble_eq_true rfl) dX6_cutLastPage_95 (Nat.zero_le _) (Nat.zero_le _) ?_
      refine s_iconst (v := (1 : Int32)) C dX6_cutLastPage_98 (by decide) ?_
      exact ret _ _ _ _ dX6_cutLastPage_99 rfl (rt_2 hf).1 (congrArg (fun σ => (wC h q nf nb σ)) (rt_2 hf).2)
    · replace hf := it_t c11 hf
      refine s_iconst (v := (0 : Int32)) C dX6_cutLastPage_59 (by decide) ?_
      exact ret _ _ _ _ dX6_cutLastPage_60 rfl (rt_2 hf).1 (congrArg (fun σ => (wC h q nf nb σ)) (rt_2 hf).2)
  refine s_iload_n C dX6_cutLastPage_0 rfl (lv_at hl 2 rfl) ?_
  refine s_bipush (v := (64 : Int32)) C dX6_cutLastPage_1 (by decide) ?_
  refine s_irem C dX6_cutLastPage_3 (by decide) ?_
  obtain ⟨v1, e2, hf⟩ := lt_some hf
  refine s_eq (g2 := F0 m 4 ls [.int v1]) (by rw [e2]) ?_
  clear e2
  refine s_istore_n (lv2 := [(3, .int v1), (0, .ref (h 0)), (1, .int x1), (2, .int x2)]) C dX6_cutLastPage_4 rfl hl (by decide) rfl ?_
  intro ls hl
  refine s_iload_n C dX6_cutLastPage_5 rfl (lv_at hl 2 rfl) ?_
  refine s_iload_n C dX6_cutLastPage_6 rfl (lv_at hl 3 rfl) ?_
  refine s_bipush (v := (64 : Int32)) C dX6_cutLastPage_7 (by decide) ?_
  refine s_idiv C dX6_cutLastPage_9 (by decide) ?_
  obtain ⟨z3, h4, hf⟩ := bn_some hf
  refine s_callIS (As := [.int x1, .int (x2 / (64 : Int32))]) (rest := []) C (c_X6_spotOf l D q (wC h q nf nb σ) N x1 (x2 / (64 : Int32))  z3 h4) ⟨wd_2_18, wd_2_19, wd_1_1, wd_2_20, cx_X6_spotOf, Nat.le_of_ble_eq_true rfl, Nat.le_of_ble_eq_true rfl⟩ (SubW.full _ _) rfl hl.1 rfl (Nat.le_of_ble_eq_true rfl) dX6_cutLastPage_10 (Nat.zero_le _) (Nat.zero_le _) ?_
  refine s_istore (lv2 := [(4, .int z3), (3, .int v1), (0, .ref (h 0)), (1, .int x1), (2, .int x2)]) C dX6_cutLastPage_13 hl (by decide) rfl ?_
  intro ls hl
  refine s_iload_n C dX6_cutLastPage_15 rfl (lv_at hl 1 rfl) ?_
  refine s_if_eq (tgt := 43) C dX6_cutLastPage_16 (by decide) (fun c5 => ?_) (fun c5 => ?_)
  · replace hf := it_t c5 hf
    refine s_iconst (v := (1 : Int32)) C dX6_cutLastPage_43 (by decide) ?_
    exact ret _ _ _ _ dX6_cutLastPage_44 rfl (rt_2 hf).1 (congrArg (fun σ => (wC h q nf nb σ)) (rt_2 hf).2)
  · replace hf := it_f c5 hf
    refine s_aload_n C dX6_cutLastPage_19 rfl (lv_at hl 2 rfl) ?_
    refine gC_0_2 C wd_1_214 dX6_cutLastPage_20 ?_
    refine s_iload C dX6_cutLastPage_23 (lv_at hl 0 rfl) ?_
    obtain ⟨z6, h7, hf⟩ := bn_some hf
    refine s_callIV (As := [.int z3]) (rest := []) C (c_X2_frameOf l D q h N nf nb z3 σ z6 h7) ⟨wd_2_21, wd_2_22, wd_2_23, wd_1_7, wd_2_24, cx_X2_frameOf, Nat.le_of_ble_eq_true rfl, Nat.le_of_ble_eq_true rfl⟩ 14 (ci := 2) rfl rfl rfl (SubW.full _ _) rfl hl.1 rfl (Nat.le_of_ble_eq_true rfl) dX6_cutLastPage_25 (Nat.zero_le _) (Nat.zero_le _) ?_
    refine s_iconst (v := (-1 : Int32)) C dX6_cutLastPage_28 (by decide) ?_
    refine s_icmp_ne (tgt := 45) C dX6_cutLastPage_29 (by decide) (fun c8 => ?_) (fun c8 => ?_)
    · replace hf := it_f c8 hf
      exact b45 _ _ _ hf _ (lv_sub hl [2, 1, 0] rfl)
    · replace hf := it_t c8 hf
      refine s_aload_n C dX6_cutLastPage_32 rfl (lv_at hl 2 rfl) ?_
      refine gC_0_4 C wd_1_216 dX6_cutLastPage_33 ?_
      refine s_iload C dX6_cutLastPage_36 (lv_at hl 0 rfl) ?_
      obtain ⟨hi18, hf⟩ := bI_some hf
      refine ldC_30 C hi18 dX6_cutLastPage_38 ?_
      refine s_iconst (v := (-1 : Int32)) C dX6_cutLastPage_39 (by decide) ?_
      refine s_icmp_ne (tgt := 45) C dX6_cutLastPage_40 (by decide) (fun c19 => ?_) (fun c19 => ?_)
      · replace hf := it_f c19 hf
        exact b45 _ _ _ hf _ (lv_sub hl [2, 1, 0] rfl)
      · replace hf := it_t c19 hf
        refine s_iconst (v := (1 : Int32)) C dX6_cutLastPage_43 (by decide) ?_
        exact ret _ _ _ _ dX6_cutLastPage_44 rfl (rt_2 hf).1 (congrArg (fun σ => (wC h q nf nb σ)) (rt_2 hf).2)
def pf_X6_dirtyBlockIn_b23 (N : Nat) (nf : Nat) (nb : Nat) (σ : St) (y0 : Int32) : Option Int32 := if y0 = (-1 : Int32) then some (-1 : Int32) else bI y0 (3072) (some ((σ.2.1 30) (Int32.toNatClampNeg y0)))
def pf_X6_dirtyBlockIn (N : Nat) (nf : Nat) (nb : Nat) (x1 : Int32) (σ : St) : Option Int32 := (pf_X2_isDirty N nf nb x1 σ).bind (fun z1 => if z1 = 0 then pf_X6_dirtyBlockIn_b23 N nf nb σ (-1 : Int32)  else (pf_X2_spotIn N nf nb x1 σ).bind (fun z6 => pf_X6_dirtyBlockIn_b23 N nf nb σ z6 ))
theorem cx_X6_dirtyBlockIn : (yX6_dirtyBlockIn.cls ≠ "java/lang/invoke/MethodHandle" ∧ yX6_dirtyBlockIn.cls ≠ "java/lang/invoke/VarHandle" ∧ (parseMethodDescriptor yX6_dirtyBlockIn.desc).map (fun d => d.parameters.length) = some 1) := by decide +kernel
set_option maxHeartbeats 4000000 in
set_option maxRecDepth 100000 in
theorem c_X6_dirtyBlockIn (l : Launch) (D : va_G) (q : Nat → ClassId) (h : Nat → Nat) (N : Nat) (nf : Nat) (nb : Nat) (x1 : Int32) (σ : St) (z : Int32) (hf : pf_X6_dirtyBlockIn N nf nb x1 σ = some z) : MI l yX6_dirtyBlockIn cX6_dirtyBlockIn 3 (some .int) 1 21 D (tyQ q) [.ref (h 0), .int x1] (wC h q nf nb σ) (wC h q nf nb σ) z := by
  refine MI.of (by decide) (Nat.le_of_ble_eq_true rfl) ?_
  intro p e s m args below meth c Q A C ret ls hl
  have hl : lv_has ls 3 [(0, .ref (h 0)), (1, .int x1)] := hl
  unfold pf_X6_dirtyBlockIn at hf
  have b23 : ∀ (y0 : Int32), pf_X6_dirtyBlockIn_b23 N nf nb σ y0 = some z → ∀ ls : Array Slot, lv_has ls 3 [(0, .ref (h 0))] → WG p l e (rmO 1 21) s m args below meth c D A 0 0 Q (wC h q nf nb σ) (F0 m 23 ls [.int y0]) := by
    intro y0 hf ls hl
    unfold pf_X6_dirtyBlockIn_b23 at hf
    refine s_istore_n (lv2 := [(2, .int y0), (0, .ref (h 0))]) C dX6_dirtyBlockIn_23 rfl hl (by decide) rfl ?_
    intro ls hl
    refine s_iload_n C dX6_dirtyBlockIn_24 rfl (lv_at hl 0 rfl) ?_
    refine s_iconst (v := (-1 : Int32)) C dX6_dirtyBlockIn_25 (by decide) ?_
    refine s_icmp_ne (tgt := 33) C dX6_dirtyBlockIn_26 (by decide) (fun c4 => ?_) (fun c4 => ?_)
    · replace hf := it_f c4 hf
      refine s_aload_n C dX6_dirtyBlockIn_33 rfl (lv_at hl 1 rfl) ?_
      refine gC_0_4 C wd_1_216 dX6_dirtyBlockIn_34 ?_
      refine s_iload_n C dX6_dirtyBlockIn_37 rfl (lv_at hl 0 rfl) ?_
      obtain ⟨hi5, hf⟩ := bI_some hf
      refine ldC_30 C hi5 dX6_dirtyBlockIn_38 ?_
      exact ret _ _ _ _ dX6_dirtyBlockIn_39 rfl (rt_1 hf) rfl
    · replace hf := it_t c4 hf
      refine s_iconst (v := (-1 : Int32)) C dX6_dirtyBlockIn_29 (by decide) ?_
      refine s_goto (tgt := 39) C dX6_dirtyBlockIn_30 (by decide) ?_
      exact ret _ _ _ _ dX6_dirtyBlockIn_39 rfl (rt_1 hf) rfl
  refine s_aload_n C dX6_dirtyBlockIn_0 rfl (lv_at hl 0 rfl) ?_
  refine gC_0_2 C wd_1_214 dX6_dirtyBlockIn_1 ?_
  refine s_iload_n C dX6_dirtyBlockIn_4 rfl (lv_at hl 1 rfl) ?_
  obtain ⟨z1, h2, hf⟩ := bn_some hf
  refine s_callIV (As := [.int x1]) (rest := []) C (c_X2_isDirty l D q h N nf nb x1 σ z1 h2) ⟨wd_2_74, wd_2_75, wd_2_76, wd_1_7, wd_2_77, cx_X2_isDirty, Nat.le_of_ble_eq_true rfl, Nat.le_of_ble_eq_true rfl⟩ 14 (ci := 2) rfl rfl rfl (SubW.full _ _) rfl hl.1 rfl (Nat.le_of_ble_eq_true rfl) dX6_dirtyBlockIn_5 (Nat.zero_le _) (Nat.zero_le _) ?_
  refine s_if_eq (tgt := 22) C dX6_dirtyBlockIn_8 (by decide) (fun c3 => ?_) (fun c3 => ?_)
  · replace hf := it_t c3 hf
    refine s_iconst (v := (-1 : Int32)) C dX6_dirtyBlockIn_22 (by decide) ?_
    exact b23 _ hf _ (lv_sub hl [0] rfl)
  · replace hf := it_f c3 hf
    refine s_aload_n C dX6_dirtyBlockIn_11 rfl (lv_at hl 0 rfl) ?_
    refine gC_0_2 C wd_1_214 dX6_dirtyBlockIn_12 ?_
    refine s_iload_n C dX6_dirtyBlockIn_15 rfl (lv_at hl 1 rfl) ?_
    obtain ⟨z6, h7, hf⟩ := bn_some hf
    refine s_callIV (As := [.int x1]) (rest := []) C (c_X2_spotIn l D q h N nf nb x1 σ z6 h7) ⟨wd_2_82, wd_2_83, wd_2_84, wd_1_7, wd_2_85, cx_X2_spotIn, Nat.le_of_ble_eq_true rfl, Nat.le_of_ble_eq_true rfl⟩ 14 (ci := 2) rfl rfl rfl (SubW.full _ _) rfl hl.1 rfl (Nat.le_of_ble_eq_true rfl) dX6_dirtyBlockIn_16 (Nat.zero_le _) (Nat.zero_le _) ?_
    refine s_goto (tgt := 23) C dX6_dirtyBlockIn_19 (by decide) ?_
    exact b23 _ hf _ (lv_sub hl [0] rfl)
def pf_X6_dirtyFrameAt_L2 (N : Nat) (nf : Nat) (nb : Nat) (σ : St) : Nat → Int32 → Int32 → Option Int32
  | 0, _, _ => none
  | n + 1, x1, x2 => if (σ.1 5) ≤ x2 then some (-1 : Int32) else (pf_X6_dirtyBlockIn N nf nb x2 σ).bind (fun z2 => if z2 = x1 then some x2 else (pf_X6_dirtyFrameAt_L2 N nf nb σ n) x1 (x2 + 1) )
def pf_X6_dirtyFrameAt (N : Nat) (nf : Nat) (nb : Nat) (x1 : Int32) (σ : St) : Option Int32 := pf_X6_dirtyFrameAt_L2 N nf nb σ N x1 (0 : Int32) 
theorem cx_X6_dirtyFrameAt : (yX6_dirtyFrameAt.cls ≠ "java/lang/invoke/MethodHandle" ∧ yX6_dirtyFrameAt.cls ≠ "java/lang/invoke/VarHandle" ∧ (parseMethodDescriptor yX6_dirtyFrameAt.desc).map (fun d => d.parameters.length) = some 1) := by decide +kernel
set_option maxHeartbeats 4000000 in
set_option maxRecDepth 100000 in
theorem c_X6_dirtyFrameAt (l : Launch) (D : va_G) (q : Nat → ClassId) (h : Nat → Nat) (N : Nat) (nf : Nat) (nb : Nat) (x1 : Int32) (σ : St) (z : Int32) (hf : pf_X6_dirtyFrameAt N nf nb x1 σ = some z) : MI l yX6_dirtyFrameAt cX6_dirtyFrameAt 3 (some .int) 2 43 D (tyQ q) [.ref (h 0), .int x1] (wC h q nf nb σ) (wC h q nf nb σ) z := by
  refine MI.of (by decide) (Nat.le_of_ble_eq_true rfl) ?_
  intro p e s m args below meth c Q A C ret ls hl
  have hl : lv_has ls 3 [(0, .ref (h 0)), (1, .int x1)] := hl
  unfold pf_X6_dirtyFrameAt at hf
  have L2 : ∀ (n : Nat) (x1 : Int32) (x2 : Int32), pf_X6_dirtyFrameAt_L2 N nf nb σ n x1 x2 = some z → ∀ ls : Array Slot, lv_has ls 3 [(0, .ref (h 0)), (1, .int x1), (2, .int x2)] → WG p l e (rmO 2 43) s m args below meth c D A 0 0 Q (wC h q nf nb σ) (F0 m 2 ls []) := by
    intro n
    induction n with
    | zero => intro x1 x2 hf; unfold pf_X6_dirtyFrameAt_L2 at hf; cases hf
    | succ n ih =>
      intro x1 x2 hf ls hl
      unfold pf_X6_dirtyFrameAt_L2 at hf
      refine s_iload_n C dX6_dirtyFrameAt_2 rfl (lv_at hl 2 rfl) ?_
      refine s_aload_n C dX6_dirtyFrameAt_3 rfl (lv_at hl 0 rfl) ?_
      refine gC_0_2 C wd_1_214 dX6_dirtyFrameAt_4 ?_
      refine gnC_14_0 C nl_15 dX6_dirtyFrameAt_7 ?_
      refine s_icmp_ge (tgt := 30) C dX6_dirtyFrameAt_10 (by decide) (fun c1 => ?_) (fun c1 => ?_)
      · replace hf := it_t c1 hf
        refine s_iconst (v := (-1 : Int32)) C dX6_dirtyFrameAt_30 (by decide) ?_
        exact ret _ _ _ _ dX6_dirtyFrameAt_31 rfl (rt_1 hf) rfl
      · replace hf := it_f c1 hf
        refine s_aload_n C dX6_dirtyFrameAt_13 rfl (lv_at hl 0 rfl) ?_
        refine s_iload_n C dX6_dirtyFrameAt_14 rfl (lv_at hl 2 rfl) ?_
        obtain ⟨z2, h3, hf⟩ := bn_some hf
        refine s_callIV (As := [.int x2]) (rest := []) C (c_X6_dirtyBlockIn l D q h N nf nb x2 σ z2 h3) ⟨wd_3_25, wd_3_27, wd_s_15, wd_1_1, wd_3_28, cx_X6_dirtyBlockIn, Nat.le_of_ble_eq_true rfl, Nat.le_of_ble_eq_true rfl⟩ 0 (ci := 6) rfl rfl rfl (SubW.full _ _) rfl hl.1 rfl (Nat.le_of_ble_eq_true rfl) dX6_dirtyFrameAt_15 (Nat.zero_le _) (Nat.zero_le _) ?_
        refine s_iload_n C dX6_dirtyFrameAt_18 rfl (lv_at hl 1 rfl) ?_
        refine s_icmp_ne (tgt := 24) C dX6_dirtyFrameAt_19 (by decide) (fun c4 => ?_) (fun c4 => ?_)
        · replace hf := it_f c4 hf
          refine s_iinc (v := (x2 + 1)) (lv2 := [(2, .int (x2 + 1)), (0, .ref (h 0)), (1, .int x1)]) C 2 dX6_dirtyFrameAt_24 hl rfl rfl (by decide) rfl ?_
          intro ls hl
          refine s_goto (tgt := 2) C dX6_dirtyFrameAt_27 (by decide) ?_
          exact ih _ _ hf _ (lv_sub hl [1, 2, 0] rfl)
        · replace hf := it_t c4 hf
          refine s_iload_n C dX6_dirtyFrameAt_22 rfl (lv_at hl 2 rfl) ?_
          exact ret _ _ _ _ dX6_dirtyFrameAt_23 rfl (rt_1 hf) rfl
  refine s_iconst (v := (0 : Int32)) C dX6_dirtyFrameAt_0 (by decide) ?_
  refine s_istore_n (lv2 := [(2, .int (0 : Int32)), (0, .ref (h 0)), (1, .int x1)]) C dX6_dirtyFrameAt_1 rfl hl (by decide) rfl ?_
  intro ls hl
  exact L2 N _ _ hf _ (lv_sub hl [1, 2, 0] rfl)
def pf_X6_disk (N : Nat) (nf : Nat) (nb : Nat) (x1 : Int32) (x2 : Int32) (σ : St) : Option Int32 := (pf_X0_has N nf nb x1 σ).bind (fun z1 => if z1 = 0 then some (-2 : Int32) else if x2 < 0 then some (-2 : Int32) else if x2 < (64 : Int32) then (pf_X5_byteAt N (nb * 8) ((x1 * (64 : Int32)) + x2) (σ.2.2 3)).bind (fun z6 => some z6) else some (-2 : Int32))
theorem cx_X6_disk : (yX6_disk.cls ≠ "java/lang/invoke/MethodHandle" ∧ yX6_disk.cls ≠ "java/lang/invoke/VarHandle" ∧ (parseMethodDescriptor yX6_disk.desc).map (fun d => d.parameters.length) = some 2) := by decide +kernel
set_option maxHeartbeats 4000000 in
set_option maxRecDepth 100000 in
theorem c_X6_disk (l : Launch) (D : va_G) (q : Nat → ClassId) (h : Nat → Nat) (N : Nat) (nf : Nat) (nb : Nat) (x1 : Int32) (x2 : Int32) (σ : St) (z : Int32) (hf : pf_X6_disk N nf nb x1 x2 σ = some z) : MI l yX6_disk cX6_disk 3 (some .int) 1 21 D (tyQ q) [.ref (h 0), .int x1, .int x2] (wC h q nf nb σ) (wC h q nf nb σ) z := by
  refine MI.of (by decide) (Nat.le_of_ble_eq_true rfl) ?_
  intro p e s m args below meth c Q A C ret ls hl
  have hl : lv_has ls 3 [(0, .ref (h 0)), (1, .int x1), (2, .int x2)] := hl
  unfold pf_X6_disk at hf
  refine s_aload_n C dX6_disk_0 rfl (lv_at hl 0 rfl) ?_
  refine gC_0_0 C wd_1_212 dX6_disk_1 ?_
  refine s_iload_n C dX6_disk_4 rfl (lv_at hl 1 rfl) ?_
  obtain ⟨z1, h2, hf⟩ := bn_some hf
  refine s_callIV (As := [.int x1]) (rest := []) C (c_X0_has l D q h N nf nb x1 σ z1 h2) ⟨wd_3_61, wd_2_103, wd_2_104, wd_1_4, wd_2_105, cx_X0_has, Nat.le_of_ble_eq_true rfl, Nat.le_of_ble_eq_true rfl⟩ 1 (ci := 0) rfl rfl rfl (SubW.full _ _) rfl hl.1 rfl (Nat.le_of_ble_eq_true rfl) dX6_disk_5 (Nat.zero_le _) (Nat.zero_le _) ?_
  refine s_if_eq (tgt := 21) C dX6_disk_8 (by decide) (fun c3 => ?_) (fun c3 => ?_)
  · replace hf := it_t c3 hf
    refine s_bipush (v := (-2 : Int32)) C dX6_disk_21 (by decide) ?_
    exact ret _ _ _ _ dX6_disk_23 rfl (rt_1 hf) rfl
  · replace hf := it_f c3 hf
    refine s_iload_n C dX6_disk_11 rfl (lv_at hl 2 rfl) ?_
    refine s_if_lt (tgt := 21) C dX6_disk_12 (by decide) (fun c4 => ?_) (fun c4 => ?_)
    · replace hf := it_t c4 hf
      refine s_bipush (v := (-2 : Int32)) C dX6_disk_21 (by decide) ?_
      exact ret _ _ _ _ dX6_disk_23 rfl (rt_1 hf) rfl
    · replace hf := it_f c4 hf
      refine s_iload_n C dX6_disk_15 rfl (lv_at hl 2 rfl) ?_
      refine s_bipush (v := (64 : Int32)) C dX6_disk_16 (by decide) ?_
      refine s_icmp_lt (tgt := 24) C dX6_disk_18 (by decide) (fun c5 => ?_) (fun c5 => ?_)
      · replace hf := it_t c5 hf
        refine s_aload_n C dX6_disk_24 rfl (lv_at hl 0 rfl) ?_
        refine gC_0_0 C wd_1_212 dX6_disk_25 ?_
        refine gnC_1_0 C nl_0 dX6_disk_28 ?_
        refine s_iload_n C dX6_disk_31 rfl (lv_at hl 1 rfl) ?_
        refine s_bipush (v := (64 : Int32)) C dX6_disk_32 (by decide) ?_
        refine s_imul C dX6_disk_34 ?_
        refine s_iload_n C dX6_disk_35 rfl (lv_at hl 2 rfl) ?_
        refine s_iadd C dX6_disk_36 ?_
        obtain ⟨z6, h7, hf⟩ := bn_some hf
        refine s_callIV (As := [.int ((x1 * (64 : Int32)) + x2)]) (rest := []) C (c_X5_byteAt l D q (h 2) (h 3) N (nb * 8) ((x1 * (64 : Int32)) + x2) (σ.2.2 3) z6 h7) ⟨wd_2_176, wd_2_177, wd_2_178, wd_1_2, wd_2_179, cx_X5_byteAt, Nat.le_of_ble_eq_true rfl, Nat.le_of_ble_eq_true rfl⟩ 2 (ci := 5) rfl rfl rfl (jnrC_2_3 nf nb h  q σ) rfl hl.1 rfl (Nat.le_of_ble_eq_true rfl) dX6_disk_37 (Nat.zero_le _) (Nat.zero_le _) ?_
        exact ret _ _ _ _ dX6_disk_40 rfl (rt_1 hf) rfl
      · replace hf := it_f c5 hf
        refine s_bipush (v := (-2 : Int32)) C dX6_disk_21 (by decide) ?_
        exact ret _ _ _ _ dX6_disk_23 rfl (rt_1 hf) rfl
def pf_X6_drop_b56 (N : Nat) (nf : Nat) (nb : Nat) (J4 : Int32 → Int32 → St → Option (Int32 × St)) (x1 : Int32) (x2 : Int32) (σ : St) : Option (Int32 × St) := J4 x1 (x2 + 1) σ
def pf_X6_drop_L4 (N : Nat) (nf : Nat) (nb : Nat) : Nat → Int32 → Int32 → St → Option (Int32 × St)
  | 0, _, _, _ => none
  | n + 1, x1, x2, σ => if (3072 : Int32) ≤ x2 then some (x1, σ) else (pf_X2_frameOf N nf nb x2 σ).bind (fun z2 => if z2 = (-1 : Int32) then pf_X6_drop_b56 N nf nb (pf_X6_drop_L4 N nf nb n) x1 x2 σ else (pf_X2_isDirty N nf nb z2 σ).bind (fun z5 => if z5 = 0 then bI z2 (nf) (if ((σ.2.1 20) (Int32.toNatClampNeg z2)) = 0 then (pf_X6_evict N nf nb z2 σ).bind (fun z10 => pf_X6_drop_b56 N nf nb (pf_X6_drop_L4 N nf nb n) (x1 + 1) x2 z10) else pf_X6_drop_b56 N nf nb (pf_X6_drop_L4 N nf nb n) x1 x2 σ) else pf_X6_drop_b56 N nf nb (pf_X6_drop_L4 N nf nb n) x1 x2 σ))
def pf_X6_drop (N : Nat) (nf : Nat) (nb : Nat) (σ : St) : Option (Int32 × St) := pf_X6_drop_L4 N nf nb N (0 : Int32) (0 : Int32) σ
theorem cx_X6_drop : (yX6_drop.cls ≠ "java/lang/invoke/MethodHandle" ∧ yX6_drop.cls ≠ "java/lang/invoke/VarHandle" ∧ (parseMethodDescriptor yX6_drop.desc).map (fun d => d.parameters.length) = some 0) := by decide +kernel
set_option maxHeartbeats 4000000 in
set_option maxRecDepth 100000 in
theorem c_X6_drop (l : Launch) (D : va_G) (q : Nat → ClassId) (h : Nat → Nat) (N : Nat) (nf : Nat) (nb : Nat) (σ : St) (z : (Int32 × St)) (hf : pf_X6_drop N nf nb σ = some z) : MI l yX6_drop cX6_drop 4 (some .int) 4 89 D (tyQ q) [.ref (h 0)] (wC h q nf nb σ) (wC h q nf nb z.2) z.1 := by
  refine MI.of (by decide) (Nat.le_of_ble_eq_true rfl) ?_
  intro p e s m args below meth c Q A C ret ls hl
  have hl : lv_has ls 4 [(0, .ref (h 0))] := hl
  unfold pf_X6_drop at hf
  have b56 : ∀ (J4 : Int32 → Int32 → St → Option (Int32 × St)) (hJ4 : ∀ (x1 : Int32) (x2 : Int32) (σ : St), J4 x1 x2 σ = some z → ∀ ls : Array Slot, lv_has ls 4 [(0, .ref (h 0)), (1, .int x1), (2, .int x2)] → WG p l e (rmO 4 89) s m args below meth c D A 0 0 Q (wC h q nf nb σ) (F0 m 4 ls [])) (x1 : Int32) (x2 : Int32) (σ : St), pf_X6_drop_b56 N nf nb J4 x1 x2 σ = some z → ∀ ls : Array Slot, lv_has ls 4 [(0, .ref (h 0)), (1, .int x1), (2, .int x2)] → WG p l e (rmO 4 89) s m args below meth c D A 0 0 Q (wC h q nf nb σ) (F0 m 56 ls []) := by
    intro J4 hJ4 x1 x2 σ hf ls hl
    unfold pf_X6_drop_b56 at hf
    refine s_iinc (v := (x2 + 1)) (lv2 := [(2, .int (x2 + 1)), (0, .ref (h 0)), (1, .int x1)]) C 2 dX6_drop_56 hl rfl rfl (by decide) rfl ?_
    intro ls hl
    refine s_goto (tgt := 4) C dX6_drop_59 (by decide) ?_
    exact hJ4 _ _ _ hf _ (lv_sub hl [1, 2, 0] rfl)
  have L4 : ∀ (n : Nat) (x1 : Int32) (x2 : Int32) (σ : St), pf_X6_drop_L4 N nf nb n x1 x2 σ = some z → ∀ ls : Array Slot, lv_has ls 4 [(0, .ref (h 0)), (1, .int x1), (2, .int x2)] → WG p l e (rmO 4 89) s m args below meth c D A 0 0 Q (wC h q nf nb σ) (F0 m 4 ls []) := by
    intro n
    induction n with
    | zero => intro x1 x2 σ hf; unfold pf_X6_drop_L4 at hf; cases hf
    | succ n ih =>
      intro x1 x2 σ hf ls hl
      unfold pf_X6_drop_L4 at hf
      refine s_iload_n C dX6_drop_4 rfl (lv_at hl 2 rfl) ?_
      refine s_sipush (v := (3072 : Int32)) C dX6_drop_5 (by decide) ?_
      refine s_icmp_ge (tgt := 62) C dX6_drop_8 (by decide) (fun c1 => ?_) (fun c1 => ?_)
      · replace hf := it_t c1 hf
        refine s_iload_n C dX6_drop_62 rfl (lv_at hl 1 rfl) ?_
        exact ret _ _ _ _ dX6_drop_63 rfl (rt_2 hf).1 (congrArg (fun σ => (wC h q nf nb σ)) (rt_2 hf).2)
      · replace hf := it_f c1 hf
        refine s_aload_n C dX6_drop_11 rfl (lv_at hl 0 rfl) ?_
        refine gC_0_2 C wd_1_214 dX6_drop_12 ?_
        refine s_iload_n C dX6_drop_15 rfl (lv_at hl 2 rfl) ?_
        obtain ⟨z2, h3, hf⟩ := bn_some hf
        refine s_callIV (As := [.int x2]) (rest := []) C (c_X2_frameOf l D q h N nf nb x2 σ z2 h3) ⟨wd_2_21, wd_2_22, wd_2_23, wd_1_7, wd_2_24, cx_X2_frameOf, Nat.le_of_ble_eq_true rfl, Nat.le_of_ble_eq_true rfl⟩ 14 (ci := 2) rfl rfl rfl (SubW.full _ _) rfl hl.1 rfl (Nat.le_of_ble_eq_true rfl) dX6_drop_16 (Nat.zero_le _) (Nat.zero_le _) ?_
        refine s_istore_n (lv2 := [(3, .int z2), (0, .ref (h 0)), (1, .int x1), (2, .int x2)]) C dX6_drop_19 rfl hl (by decide) rfl ?_
        intro ls hl
        refine s_iload_n C dX6_drop_20 rfl (lv_at hl 0 rfl) ?_
        refine s_iconst (v := (-1 : Int32)) C dX6_drop_21 (by decide) ?_
        refine s_icmp_eq (tgt := 56) C dX6_drop_22 (by decide) (fun c4 => ?_) (fun c4 => ?_)
        · replace hf := it_t c4 hf
          exact b56 _ ih _ _ _ hf _ (lv_sub hl [1, 2, 3] rfl)
        · replace hf := it_f c4 hf
          refine s_aload_n C dX6_drop_25 rfl (lv_at hl 1 rfl) ?_
          refine gC_0_2 C wd_1_214 dX6_drop_26 ?_
          refine s_iload_n C dX6_drop_29 rfl (lv_at hl 0 rfl) ?_
          obtain ⟨z5, h6, hf⟩ := bn_some hf
          refine s_callIV (As := [.int z2]) (rest := []) C (c_X2_isDirty l D q h N nf nb z2 σ z5 h6) ⟨wd_2_74, wd_2_75, wd_2_76, wd_1_7, wd_2_77, cx_X2_isDirty, Nat.le_of_ble_eq_true rfl, Nat.le_of_ble_eq_true rfl⟩ 14 (ci := 2) rfl rfl rfl (SubW.full _ _) rfl hl.1 rfl (Nat.le_of_ble_eq_true rfl) dX6_drop_30 (Nat.zero_le _) (Nat.zero_le _) ?_
          refine s_if_ne (tgt := 56) C dX6_drop_33 (by decide) (fun c7 => ?_) (fun c7 => ?_)
          · replace hf := it_f c7 hf
            exact b56 _ ih _ _ _ hf _ (lv_sub hl [1, 2, 3] rfl)
          · replace hf := it_t c7 hf
            refine s_aload_n C dX6_drop_36 rfl (lv_at hl 1 rfl) ?_
            refine gC_0_2 C wd_1_214 dX6_drop_37 ?_
            refine gnC_14_5 C nl_20 dX6_drop_40 ?_
            refine s_iload_n C dX6_drop_43 rfl (lv_at hl 0 rfl) ?_
            obtain ⟨hi8, hf⟩ := bI_some hf
            refine ldC_20 C hi8 dX6_drop_44 ?_
            refine s_if_ne (tgt := 56) C dX6_drop_45 (by decide) (fun c9 => ?_) (fun c9 => ?_)
            · replace hf := it_f c9 hf
              exact b56 _ ih _ _ _ hf _ (lv_sub hl [1, 2, 3] rfl)
            · replace hf := it_t c9 hf
              refine s_aload_n C dX6_drop_48 rfl (lv_at hl 1 rfl) ?_
              refine s_iload_n C dX6_drop_49 rfl (lv_at hl 0 rfl) ?_
              obtain ⟨z10, h11, hf⟩ := bn_some hf
              refine s_callVV (As := [.int z2]) (rest := []) C (c_X6_evict l D q h N nf nb z2 σ z10 h11) ⟨wd_2_130, wd_2_132, wd_s_8, wd_1_1, wd_2_133, cx_X6_evict, Nat.le_of_ble_eq_true rfl, Nat.le_of_ble_eq_true rfl⟩ 0 (ci := 6) rfl rfl rfl (SubW.full _ _) rfl hl.1 rfl (Nat.le_of_ble_eq_true rfl) dX6_drop_50 (Nat.zero_le _) (Nat.zero_le _) ?_
              refine s_iinc (v := (x1 + 1)) (lv2 := [(1, .int (x1 + 1)), (3, .int z2), (0, .ref (h 0)), (2, .int x2)]) C 2 dX6_drop_53 hl rfl rfl (by decide) rfl ?_
              intro ls hl
              exact b56 _ ih _ _ _ hf _ (lv_sub hl [2, 0, 3] rfl)
  refine s_iconst (v := (0 : Int32)) C dX6_drop_0 (by decide) ?_
  refine s_istore_n (lv2 := [(1, .int (0 : Int32)), (0, .ref (h 0))]) C dX6_drop_1 rfl hl (by decide) rfl ?_
  intro ls hl
  refine s_iconst (v := (0 : Int32)) C dX6_drop_2 (by decide) ?_
  refine s_istore_n (lv2 := [(2, .int (0 : Int32)), (1, .int (0 : Int32)), (0, .ref (h 0))]) C dX6_drop_3 rfl hl (by decide) rfl ?_
  intro ls hl
  exact L4 N _ _ _ hf _ (lv_sub hl [2, 1, 0] rfl)
def pf_X6_fail (N : Nat) (nf : Nat) (nb : Nat) (x1 : Int32) (x2 : Int32) (σ : St) : Option (Int32 × St) := (pf_X0_has N nf nb x1 σ).bind (fun z1 => if z1 = 0 then some ((0 : Int32), σ) else bI x1 (nb) (if ((σ.2.1 4) (Int32.toNatClampNeg x1)) = x2 then some ((0 : Int32), σ) else bI x1 (nb) (lt_ (sA σ 4 (upd (σ.2.1 4) (Int32.toNatClampNeg x1) (vp_nar .boolean x2))) (fun σ7 => some ((1 : Int32), σ7)))))
theorem cx_X6_fail : (yX6_fail.cls ≠ "java/lang/invoke/MethodHandle" ∧ yX6_fail.cls ≠ "java/lang/invoke/VarHandle" ∧ (parseMethodDescriptor yX6_fail.desc).map (fun d => d.parameters.length) = some 2) := by decide +kernel
set_option maxHeartbeats 4000000 in
set_option maxRecDepth 100000 in
theorem c_X6_fail (l : Launch) (D : va_G) (q : Nat → ClassId) (h : Nat → Nat) (N : Nat) (nf : Nat) (nb : Nat) (x1 : Int32) (x2 : Int32) (σ : St) (z : (Int32 × St)) (hf : pf_X6_fail N nf nb x1 x2 σ = some z) : MI l yX6_fail cX6_fail 3 (some .boolean) 1 21 D (tyQ q) [.ref (h 0), .int x1, .int x2] (wC h q nf nb σ) (wC h q nf nb z.2) z.1 := by
  refine MI.of (by decide) (Nat.le_of_ble_eq_true rfl) ?_
  intro p e s m args below meth c Q A C ret ls hl
  have hl : lv_has ls 3 [(0, .ref (h 0)), (1, .int x1), (2, .int x2)] := hl
  unfold pf_X6_fail at hf
  refine s_aload_n C dX6_fail_0 rfl (lv_at hl 0 rfl) ?_
  refine gC_0_0 C wd_1_212 dX6_fail_1 ?_
  refine s_iload_n C dX6_fail_4 rfl (lv_at hl 1 rfl) ?_
  obtain ⟨z1, h2, hf⟩ := bn_some hf
  refine s_callIV (As := [.int x1]) (rest := []) C (c_X0_has l D q h N nf nb x1 σ z1 h2) ⟨wd_3_61, wd_2_103, wd_2_104, wd_1_4, wd_2_105, cx_X0_has, Nat.le_of_ble_eq_true rfl, Nat.le_of_ble_eq_true rfl⟩ 1 (ci := 0) rfl rfl rfl (SubW.full _ _) rfl hl.1 rfl (Nat.le_of_ble_eq_true rfl) dX6_fail_5 (Nat.zero_le _) (Nat.zero_le _) ?_
  refine s_if_eq (tgt := 24) C dX6_fail_8 (by decide) (fun c3 => ?_) (fun c3 => ?_)
  · replace hf := it_t c3 hf
    refine s_iconst (v := (0 : Int32)) C dX6_fail_24 (by decide) ?_
    exact ret _ _ _ _ dX6_fail_25 rfl (rt_2 hf).1 (congrArg (fun σ => (wC h q nf nb σ)) (rt_2 hf).2)
  · replace hf := it_f c3 hf
    refine s_aload_n C dX6_fail_11 rfl (lv_at hl 0 rfl) ?_
    refine gC_0_0 C wd_1_212 dX6_fail_12 ?_
    refine gnC_1_1 C nl_1 dX6_fail_15 ?_
    refine s_iload_n C dX6_fail_18 rfl (lv_at hl 1 rfl) ?_
    obtain ⟨hi4, hf⟩ := bI_some hf
    refine ldC_4 C hi4 dX6_fail_19 ?_
    refine s_iload_n C dX6_fail_20 rfl (lv_at hl 2 rfl) ?_
    refine s_icmp_ne (tgt := 26) C dX6_fail_21 (by decide) (fun c5 => ?_) (fun c5 => ?_)
    · replace hf := it_f c5 hf
      refine s_aload_n C dX6_fail_26 rfl (lv_at hl 0 rfl) ?_
      refine gC_0_0 C wd_1_212 dX6_fail_27 ?_
      refine gnC_1_1 C nl_1 dX6_fail_30 ?_
      refine s_iload_n C dX6_fail_33 rfl (lv_at hl 1 rfl) ?_
      refine s_iload_n C dX6_fail_34 rfl (lv_at hl 2 rfl) ?_
      obtain ⟨hi6, hf⟩ := bI_some hf
      refine stC_4 C hi6 dX6_fail_35 ?_
      obtain ⟨σ7, e8, hf⟩ := lt_some hf
      refine s_w (ws2 := (wC h q nf nb σ7)) (by rw [e8]) ?_
      clear e8
      refine s_iconst (v := (1 : Int32)) C dX6_fail_36 (by decide) ?_
      exact ret _ _ _ _ dX6_fail_37 rfl (rt_2 hf).1 (congrArg (fun σ => (wC h q nf nb σ)) (rt_2 hf).2)
    · replace hf := it_t c5 hf
      refine s_iconst (v := (0 : Int32)) C dX6_fail_24 (by decide) ?_
      exact ret _ _ _ _ dX6_fail_25 rfl (rt_2 hf).1 (congrArg (fun σ => (wC h q nf nb σ)) (rt_2 hf).2)
def pf_X6_writeSurplus_L33 (N : Nat) (nf : Nat) (nb : Nat) : Nat → Int32 → Int32 → St → Option St
  | 0, _, _, _ => none
  | n + 1, x1, x2, σ => if (σ.1 5) ≤ x2 then some σ else if x1 = (-1 : Int32) then some σ else if (σ.1 8) ≤ ((σ.1 5) / (4 : Int32)) then some σ else (pf_X2_ageKey N nf nb x1 σ).bind (fun z7 => (pf_X6_flush N nf nb x1 σ).bind (fun z9 => (pf_X2_oldestDirty N nf nb z7 z9.2).bind (fun z11 => (pf_X6_writeSurplus_L33 N nf nb n) z11 (x2 + 1) z9.2)))
def pf_X6_writeSurplus (N : Nat) (nf : Nat) (nb : Nat) (σ : St) : Option St := if ((σ.1 5) / (2 : Int32)) < (σ.1 8) then (pf_X2_oldestDirty N nf nb (-1 : Int64) σ).bind (fun z2 => pf_X6_writeSurplus_L33 N nf nb N z2 (0 : Int32) σ) else some σ
theorem cx_X6_writeSurplus : (yX6_writeSurplus.cls ≠ "java/lang/invoke/MethodHandle" ∧ yX6_writeSurplus.cls ≠ "java/lang/invoke/VarHandle" ∧ (parseMethodDescriptor yX6_writeSurplus.desc).map (fun d => d.parameters.length) = some 0) := by decide +kernel
set_option maxHeartbeats 4000000 in
set_option maxRecDepth 100000 in
theorem c_X6_writeSurplus (l : Launch) (D : va_G) (q : Nat → ClassId) (h : Nat → Nat) (N : Nat) (nf : Nat) (nb : Nat) (σ : St) (z : St) (hf : pf_X6_writeSurplus N nf nb σ = some z) : MV l yX6_writeSurplus cX6_writeSurplus 5 (none) 3 75 D (tyQ q) [.ref (h 0)] (wC h q nf nb σ) (wC h q nf nb z) := by
  refine MV.of (by decide) (Nat.le_of_ble_eq_true rfl) ?_
  intro p e s m args below meth c Q A C ret ls hl
  have hl : lv_has ls 5 [(0, .ref (h 0))] := hl
  unfold pf_X6_writeSurplus at hf
  have L33 : ∀ (n : Nat) (x1 : Int32) (x2 : Int32) (σ : St), pf_X6_writeSurplus_L33 N nf nb n x1 x2 σ = some z → ∀ ls : Array Slot, lv_has ls 5 [(0, .ref (h 0)), (1, .int x1), (2, .int x2)] → WG p l e (rmO 3 75) s m args below meth c D A 0 0 Q (wC h q nf nb σ) (F0 m 33 ls []) := by
    intro n
    induction n with
    | zero => intro x1 x2 σ hf; unfold pf_X6_writeSurplus_L33 at hf; cases hf
    | succ n ih =>
      intro x1 x2 σ hf ls hl
      unfold pf_X6_writeSurplus_L33 at hf
      refine s_iload_n C dX6_writeSurplus_33 rfl (lv_at hl 2 rfl) ?_
      refine s_aload_n C dX6_writeSurplus_34 rfl (lv_at hl 0 rfl) ?_
      refine gC_0_2 C wd_1_214 dX6_writeSurplus_35 ?_
      refine gnC_14_0 C nl_15 dX6_writeSurplus_38 ?_
      refine s_icmp_ge (tgt := 98) C dX6_writeSurplus_41 (by decide) (fun c4 => ?_) (fun c4 => ?_)
      · replace hf := it_t c4 hf
        exact ret _ _ _ dX6_writeSurplus_98 (congrArg (fun σ => (wC h q nf nb σ)) (rt_1 hf))
      · replace hf := it_f c4 hf
        refine s_iload_n C dX6_writeSurplus_44 rfl (lv_at hl 1 rfl) ?_
        refine s_iconst (v := (-1 : Int32)) C dX6_writeSurplus_45 (by decide) ?_
        refine s_icmp_eq (tgt := 98) C dX6_writeSurplus_46 (by decide) (fun c5 => ?_) (fun c5 => ?_)
        · replace hf := it_t c5 hf
          exact ret _ _ _ dX6_writeSurplus_98 (congrArg (fun σ => (wC h q nf nb σ)) (rt_1 hf))
        · replace hf := it_f c5 hf
          refine s_aload_n C dX6_writeSurplus_49 rfl (lv_at hl 0 rfl) ?_
          refine gC_0_2 C wd_1_214 dX6_writeSurplus_50 ?_
          refine gnC_14_10 C nl_24 dX6_writeSurplus_53 ?_
          refine s_aload_n C dX6_writeSurplus_56 rfl (lv_at hl 0 rfl) ?_
          refine gC_0_2 C wd_1_214 dX6_writeSurplus_57 ?_
          refine gnC_14_0 C nl_15 dX6_writeSurplus_60 ?_
          refine s_iconst (v := (4 : Int32)) C dX6_writeSurplus_63 (by decide) ?_
          refine s_idiv C dX6_writeSurplus_64 (by decide) ?_
          refine s_icmp_le (tgt := 98) C dX6_writeSurplus_65 (by decide) (fun c6 => ?_) (fun c6 => ?_)
          · replace hf := it_t c6 hf
            exact ret _ _ _ dX6_writeSurplus_98 (congrArg (fun σ => (wC h q nf nb σ)) (rt_1 hf))
          · replace hf := it_f c6 hf
            refine s_aload_n C dX6_writeSurplus_68 rfl (lv_at hl 0 rfl) ?_
            refine gC_0_2 C wd_1_214 dX6_writeSurplus_69 ?_
            refine s_iload_n C dX6_writeSurplus_72 rfl (lv_at hl 1 rfl) ?_
            obtain ⟨z7, h8, hf⟩ := bn_some hf
            refine s_callLV (As := [.int x1]) (rest := []) C (c_X2_ageKey l D q h N nf nb x1 σ z7 h8) ⟨wd_2_225, wd_2_220, wd_2_221, wd_1_7, wd_2_222, cx_X2_ageKey, Nat.le_of_ble_eq_true rfl, Nat.le_of_ble_eq_true rfl⟩ 14 (ci := 2) rfl rfl rfl (SubW.full _ _) rfl hl.1 rfl (Nat.le_of_ble_eq_true rfl) dX6_writeSurplus_73 (Nat.zero_le _) (Nat.zero_le _) ?_
            refine s_lstore_n (lv2 := [(3, .long z7), (0, .ref (h 0)), (1, .int x1), (2, .int x2)]) C dX6_writeSurplus_76 rfl hl (by decide) rfl ?_
            intro ls hl
            refine s_aload_n C dX6_writeSurplus_77 rfl (lv_at hl 1 rfl) ?_
            refine s_iload_n C dX6_writeSurplus_78 rfl (lv_at hl 2 rfl) ?_
            obtain ⟨z9, h10, hf⟩ := bn_some hf
            refine s_callIV (As := [.int x1]) (rest := []) C (c_X6_flush l D q h N nf nb x1 σ z9 h10) ⟨wd_2_78, wd_2_80, wd_s_4, wd_1_1, wd_2_81, cx_X6_flush, Nat.le_of_ble_eq_true rfl, Nat.le_of_ble_eq_true rfl⟩ 0 (ci := 6) rfl rfl rfl (SubW.full _ _) rfl hl.1 rfl (Nat.le_of_ble_eq_true rfl) dX6_writeSurplus_79 (Nat.zero_le _) (Nat.zero_le _) ?_
            refine s_pop C dX6_writeSurplus_82 rfl ?_
            refine s_aload_n C dX6_writeSurplus_83 rfl (lv_at hl 1 rfl) ?_
            refine gC_0_2 C wd_1_214 dX6_writeSurplus_84 ?_
            refine s_lload_n C dX6_writeSurplus_87 rfl (lv_at hl 0 rfl) ?_
            obtain ⟨z11, h12, hf⟩ := bn_some hf
            refine s_callIV (As := [.long z7]) (rest := []) C (c_X2_oldestDirty l D q h N nf nb z7 z9.2 z11 h12) ⟨wd_2_215, wd_2_216, wd_2_217, wd_1_7, wd_2_218, cx_X2_oldestDirty, Nat.le_of_ble_eq_true rfl, Nat.le_of_ble_eq_true rfl⟩ 14 (ci := 2) rfl rfl rfl (SubW.full _ _) rfl hl.1 rfl (Nat.le_of_ble_eq_true rfl) dX6_writeSurplus_88 (Nat.zero_le _) (Nat.zero_le _) ?_
            refine s_istore_n (lv2 := [(1, .int z11), (3, .long z7), (0, .ref (h 0)), (2, .int x2)]) C dX6_writeSurplus_91 rfl hl (by decide) rfl ?_
            intro ls hl
            refine s_iinc (v := (x2 + 1)) (lv2 := [(2, .int (x2 + 1)), (1, .int z11), (3, .long z7), (0, .ref (h 0))]) C 3 dX6_writeSurplus_92 hl rfl rfl (by decide) rfl ?_
            intro ls hl
            refine s_goto (tgt := 33) C dX6_writeSurplus_95 (by decide) ?_
            exact ih _ _ _ hf _ (lv_sub hl [3, 1, 0] rfl)
  refine s_aload_n C dX6_writeSurplus_0 rfl (lv_at hl 0 rfl) ?_
  refine gC_0_2 C wd_1_214 dX6_writeSurplus_1 ?_
  refine gnC_14_10 C nl_24 dX6_writeSurplus_4 ?_
  refine s_aload_n C dX6_writeSurplus_7 rfl (lv_at hl 0 rfl) ?_
  refine gC_0_2 C wd_1_214 dX6_writeSurplus_8 ?_
  refine gnC_14_0 C nl_15 dX6_writeSurplus_11 ?_
  refine s_iconst (v := (2 : Int32)) C dX6_writeSurplus_14 (by decide) ?_
  refine s_idiv C dX6_writeSurplus_15 (by decide) ?_
  refine s_icmp_gt (tgt := 20) C dX6_writeSurplus_16 (by decide) (fun c1 => ?_) (fun c1 => ?_)
  · replace hf := it_t c1 hf
    refine s_aload_n C dX6_writeSurplus_20 rfl (lv_at hl 0 rfl) ?_
    refine gC_0_2 C wd_1_214 dX6_writeSurplus_21 ?_
    refine s_ldc2 C dX6_writeSurplus_24 wd_2_214 ?_
    obtain ⟨z2, h3, hf⟩ := bn_some hf
    refine s_callIV (As := [.long (-1 : Int64)]) (rest := []) C (c_X2_oldestDirty l D q h N nf nb (-1 : Int64) σ z2 h3) ⟨wd_2_215, wd_2_216, wd_2_217, wd_1_7, wd_2_218, cx_X2_oldestDirty, Nat.le_of_ble_eq_true rfl, Nat.le_of_ble_eq_true rfl⟩ 14 (ci := 2) rfl rfl rfl (SubW.full _ _) rfl hl.1 rfl (Nat.le_of_ble_eq_true rfl) dX6_writeSurplus_27 (Nat.zero_le _) (Nat.zero_le _) ?_
    refine s_istore_n (lv2 := [(1, .int z2), (0, .ref (h 0))]) C dX6_writeSurplus_30 rfl hl (by decide) rfl ?_
    intro ls hl
    refine s_iconst (v := (0 : Int32)) C dX6_writeSurplus_31 (by decide) ?_
    refine s_istore_n (lv2 := [(2, .int (0 : Int32)), (1, .int z2), (0, .ref (h 0))]) C dX6_writeSurplus_32 rfl hl (by decide) rfl ?_
    intro ls hl
    exact L33 N _ _ _ hf _ (lv_sub hl [2, 1, 0] rfl)
  · replace hf := it_f c1 hf
    exact ret _ _ _ dX6_writeSurplus_19 (congrArg (fun σ => (wC h q nf nb σ)) (rt_1 hf))
def pf_X6_putRow_b172 (N : Nat) (nf : Nat) (nb : Nat) (x5 : Int32) (σ : St) : Option (Int32 × St) := if x5 = 0 then some ((-3 : Int32), σ) else (pf_X6_writeSurplus N nf nb σ).bind (fun z7 => some (x5, z7))
def pf_X6_putRow_L79 (N : Nat) (nf : Nat) (nb : Nat) (J21 : Int32 → Int32 → Int32 → Int32 → Int32 → St → Option (Int32 × St)) : Nat → Int32 → Int32 → Int32 → Int32 → Int32 → Int32 → Int32 → Int32 → St → Option (Int32 × St)
  | 0, _, _, _, _, _, _, _, _, _ => none
  | n + 1, x1, x2, x4, x6, x7, x8, x9, x10, σ => if x9 ≤ x10 then (pf_X2_soil N nf nb x7 (σ.1 13) σ).bind (fun z21 => bI x1 (12) (lt_ (if ((z21.2.1 10) (Int32.toNatClampNeg x1)) < x9 then x9 else ((z21.2.1 10) (Int32.toNatClampNeg x1))) (fun v24 => bI x1 (12) (lt_ (sA z21 10 (upd (z21.2.1 10) (Int32.toNatClampNeg x1) v24)) (fun σ27 => J21 x1 x2 x4 (x9 - x2) (x6 + 1) σ27))))) else (pf_X5_byteAt N (128) (x10 - x2) (σ.2.2 34)).bind (fun z29 => (pf_X5_put N (nf * 8) (((x7 * (64 : Int32)) + x10) - x8) z29 (σ.2.2 16)).bind (fun z31 => lt_ (sL σ 16 z31) (fun σ33 => (pf_X6_putRow_L79 N nf nb J21 n) x1 x2 x4 x6 x7 x8 x9 (x10 + 1) σ33)))
def pf_X6_putRow_L21 (N : Nat) (nf : Nat) (nb : Nat) : Nat → Int32 → Int32 → Int32 → Int32 → Int32 → St → Option (Int32 × St)
  | 0, _, _, _, _, _, _ => none
  | n + 1, x1, x2, x4, x5, x6, σ => if x4 ≤ (x6 * (64 : Int32)) then pf_X6_putRow_b172 N nf nb x5 σ else (pf_X6_spotOf N x1 x6).bind (fun z9 => (pf_X6_touch N nf nb z9 σ).bind (fun z11 => if z11.1 = (-1 : Int32) then pf_X6_putRow_b172 N nf nb x5 z11.2 else lt_ (x6 * (64 : Int32)) (fun v14 => lt_ (if (v14 + (64 : Int32)) < x4 then (v14 + (64 : Int32)) else x4) (fun v16 => lt_ (if x2 < v14 then v14 else x2) (fun v18 => pf_X6_putRow_L79 N nf nb (pf_X6_putRow_L21 N nf nb n) N x1 x2 x4 x6 z11.1 v14 v16 v18 z11.2)))))
def pf_X6_putRow (N : Nat) (nf : Nat) (nb : Nat) (x1 : Int32) (x2 : Int32) (x3 : Int32) (σ : St) : Option (Int32 × St) := (pf_X0_begin N nf nb σ).bind (fun z1 => lt_ (x2 / (64 : Int32)) (fun v3 => pf_X6_putRow_L21 N nf nb N x1 x2 (x2 + x3) (0 : Int32) v3 z1))
theorem cx_X6_putRow : (yX6_putRow.cls ≠ "java/lang/invoke/MethodHandle" ∧ yX6_putRow.cls ≠ "java/lang/invoke/VarHandle" ∧ (parseMethodDescriptor yX6_putRow.desc).map (fun d => d.parameters.length) = some 3) := by decide +kernel
set_option maxHeartbeats 4000000 in
set_option maxRecDepth 100000 in
theorem c_X6_putRow (l : Launch) (D : va_G) (q : Nat → ClassId) (h : Nat → Nat) (N : Nat) (nf : Nat) (nb : Nat) (x1 : Int32) (x2 : Int32) (x3 : Int32) (σ : St) (z : (Int32 × St)) (hf : pf_X6_putRow N nf nb x1 x2 x3 σ = some z) : MI l yX6_putRow cX6_putRow 11 (some .int) 6 142 D (tyQ q) [.ref (h 0), .int x1, .int x2, .int x3] (wC h q nf nb σ) (wC h q nf nb z.2) z.1 := by
  refine MI.of (by decide) (Nat.le_of_ble_eq_true rfl) ?_
  intro p e s m args below meth c Q A C ret ls hl
  have hl : lv_has ls 11 [(0, .ref (h 0)), (1, .int x1), (2, .int x2), (3, .int x3)] := hl
  unfold pf_X6_putRow at hf
  have b172 : ∀ (x5 : Int32) (σ : St), pf_X6_putRow_b172 N nf nb x5 σ = some z → ∀ ls : Array Slot, lv_has ls 11 [(0, .ref (h 0)), (5, .int x5)] → WG p l e (rmO 6 142) s m args below meth c D A 0 0 Q (wC h q nf nb σ) (F0 m 172 ls []) := by
    intro x5 σ hf ls hl
    unfold pf_X6_putRow_b172 at hf
    refine s_iload C dX6_putRow_172 (lv_at hl 1 rfl) ?_
    refine s_if_ne (tgt := 180) C dX6_putRow_174 (by decide) (fun c6 => ?_) (fun c6 => ?_)
    · replace hf := it_f c6 hf
      refine s_aload_n C dX6_putRow_180 rfl (lv_at hl 0 rfl) ?_
      obtain ⟨z7, h8, hf⟩ := bn_some hf
      refine s_callVV (As := []) (rest := []) C (c_X6_writeSurplus l D q h N nf nb σ z7 h8) ⟨wd_2_210, wd_2_212, wd_s_11, wd_1_1, wd_2_213, cx_X6_writeSurplus, Nat.le_of_ble_eq_true rfl, Nat.le_of_ble_eq_true rfl⟩ 0 (ci := 6) rfl rfl rfl (SubW.full _ _) rfl hl.1 rfl (Nat.le_of_ble_eq_true rfl) dX6_putRow_181 (Nat.zero_le _) (Nat.zero_le _) ?_
      refine s_iload C dX6_putRow_184 (lv_at hl 1 rfl) ?_
      exact ret _ _ _ _ dX6_putRow_186 rfl (rt_2 hf).1 (congrArg (fun σ => (wC h q nf nb σ)) (rt_2 hf).2)
    · replace hf := it_t c6 hf
      refine s_bipush (v := (-3 : Int32)) C dX6_putRow_177 (by decide) ?_
      exact ret _ _ _ _ dX6_putRow_179 rfl (rt_2 hf).1 (congrArg (fun σ => (wC h q nf nb σ)) (rt_2 hf).2)
  have L79 : ∀ (J21 : Int32 → Int32 → Int32 → Int32 → Int32 → St → Option (Int32 × St)) (hJ21 : ∀ (x1 : Int32) (x2 : Int32) (x4 : Int32) (x5 : Int32) (x6 : Int32) (σ : St), J21 x1 x2 x4 x5 x6 σ = some z → ∀ ls : Array Slot, lv_has ls 11 [(0, .ref (h 0)), (1, .int x1), (2, .int x2), (4, .int x4), (5, .int x5), (6, .int x6)] → WG p l e (rmO 6 142) s m args below meth c D A 0 0 Q (wC h q nf nb σ) (F0 m 21 ls [])) (n : Nat) (x1 : Int32) (x2 : Int32) (x4 : Int32) (x6 : Int32) (x7 : Int32) (x8 : Int32) (x9 : Int32) (x10 : Int32) (σ : St), pf_X6_putRow_L79 N nf nb J21 n x1 x2 x4 x6 x7 x8 x9 x10 σ = some z → ∀ ls : Array Slot, lv_has ls 11 [(0, .ref (h 0)), (1, .int x1), (2, .int x2), (4, .int x4), (6, .int x6), (7, .int x7), (8, .int x8), (9, .int x9), (10, .int x10)] → WG p l e (rmO 6 142) s m args below meth c D A 0 0 Q (wC h q nf nb σ) (F0 m 79 ls []) := by
    intro J21 hJ21 n
    induction n with
    | zero => intro x1 x2 x4 x6 x7 x8 x9 x10 σ hf; unfold pf_X6_putRow_L79 at hf; cases hf
    | succ n ih =>
      intro x1 x2 x4 x6 x7 x8 x9 x10 σ hf ls hl
      unfold pf_X6_putRow_L79 at hf
      refine s_iload C dX6_putRow_79 (lv_at hl 8 rfl) ?_
      refine s_iload C dX6_putRow_81 (lv_at hl 7 rfl) ?_
      refine s_icmp_ge (tgt := 124) C dX6_putRow_83 (by decide) (fun c20 => ?_) (fun c20 => ?_)
      · replace hf := it_t c20 hf
        refine s_aload_n C dX6_putRow_124 rfl (lv_at hl 0 rfl) ?_
        refine gC_0_2 C wd_1_214 dX6_putRow_125 ?_
        refine s_iload C dX6_putRow_128 (lv_at hl 5 rfl) ?_
        refine s_aload_n C dX6_putRow_130 rfl (lv_at hl 0 rfl) ?_
        refine gC_0_8 C wd_1_220 dX6_putRow_131 ?_
        obtain ⟨z21, h22, hf⟩ := bn_some hf
        refine s_callVV (As := [.int x7, .int (σ.1 13)]) (rest := []) C (c_X2_soil l D q h N nf nb x7 (σ.1 13) σ z21 h22) ⟨wd_2_206, wd_2_207, wd_2_208, wd_1_7, wd_2_209, cx_X2_soil, Nat.le_of_ble_eq_true rfl, Nat.le_of_ble_eq_true rfl⟩ 14 (ci := 2) rfl rfl rfl (SubW.full _ _) rfl hl.1 rfl (Nat.le_of_ble_eq_true rfl) dX6_putRow_134 (Nat.zero_le _) (Nat.zero_le _) ?_
        refine s_aload_n C dX6_putRow_137 rfl (lv_at hl 0 rfl) ?_
        refine gC_0_1 C wd_1_213 dX6_putRow_138 ?_
        refine gnC_9_0 C nl_9 dX6_putRow_141 ?_
        refine s_iload_n C dX6_putRow_144 rfl (lv_at hl 1 rfl) ?_
        refine s_aload_n C dX6_putRow_145 rfl (lv_at hl 0 rfl) ?_
        refine gC_0_1 C wd_1_213 dX6_putRow_146 ?_
        refine gnC_9_0 C nl_9 dX6_putRow_149 ?_
        refine s_iload_n C dX6_putRow_152 rfl (lv_at hl 1 rfl) ?_
        obtain ⟨hi23, hf⟩ := bI_some hf
        refine ldC_10 C hi23 dX6_putRow_153 ?_
        refine s_iload C dX6_putRow_154 (lv_at hl 7 rfl) ?_
        refine s_mmax C hl.1 dX6_putRow_156 wd_2_175 mm_max_s mm_in mm_max_c (Nat.le_of_ble_eq_true rfl) (Nat.le_of_ble_eq_true rfl) (Nat.zero_le _) (Nat.zero_le _) ?_
        obtain ⟨v24, e25, hf⟩ := lt_some hf
        refine s_eq (g2 := F0 m 159 ls [.int v24, .int x1, .ref (h 10)]) (by rw [e25]) ?_
        clear e25
        obtain ⟨hi26, hf⟩ := bI_some hf
        refine stC_10 C hi26 dX6_putRow_159 ?_
        obtain ⟨σ27, e28, hf⟩ := lt_some hf
        refine s_w (ws2 := (wC h q nf nb σ27)) (by rw [e28]) ?_
        clear e28
        refine s_iload C dX6_putRow_160 (lv_at hl 7 rfl) ?_
        refine s_iload_n C dX6_putRow_162 rfl (lv_at hl 2 rfl) ?_
        refine s_isub C dX6_putRow_163 ?_
        refine s_istore (lv2 := [(5, .int (x9 - x2)), (0, .ref (h 0)), (1, .int x1), (2, .int x2), (4, .int x4), (6, .int x6), (7, .int x7), (8, .int x8), (9, .int x9), (10, .int x10)]) C dX6_putRow_164 hl (by decide) rfl ?_
        intro ls hl
        refine s_iinc (v := (x6 + 1)) (lv2 := [(6, .int (x6 + 1)), (5, .int (x9 - x2)), (0, .ref (h 0)), (1, .int x1), (2, .int x2), (4, .int x4), (7, .int x7), (8, .int x8), (9, .int x9), (10, .int x10)]) C 5 dX6_putRow_166 hl rfl rfl (by decide) rfl ?_
        intro ls hl
        refine s_goto (tgt := 21) C dX6_putRow_169 (by decide) ?_
        exact hJ21 _ _ _ _ _ _ hf _ (lv_sub hl [2, 3, 4, 5, 1, 0] rfl)
      · replace hf := it_f c20 hf
        refine s_aload_n C dX6_putRow_86 rfl (lv_at hl 0 rfl) ?_
        refine gC_0_2 C wd_1_214 dX6_putRow_87 ?_
        refine gnC_14_1 C nl_16 dX6_putRow_90 ?_
        refine s_iload C dX6_putRow_93 (lv_at hl 5 rfl) ?_
        refine s_bipush (v := (64 : Int32)) C dX6_putRow_95 (by decide) ?_
        refine s_imul C dX6_putRow_97 ?_
        refine s_iload C dX6_putRow_98 (lv_at hl 8 rfl) ?_
        refine s_iadd C dX6_putRow_100 ?_
        refine s_iload C dX6_putRow_101 (lv_at hl 6 rfl) ?_
        refine s_isub C dX6_putRow_103 ?_
        refine s_aload_n C dX6_putRow_104 rfl (lv_at hl 0 rfl) ?_
        refine gC_0_6 C wd_1_218 dX6_putRow_105 ?_
        refine s_iload C dX6_putRow_108 (lv_at hl 8 rfl) ?_
        refine s_iload_n C dX6_putRow_110 rfl (lv_at hl 2 rfl) ?_
        refine s_isub C dX6_putRow_111 ?_
        obtain ⟨z29, h30, hf⟩ := bn_some hf
        refine s_callIV (As := [.int (x10 - x2)]) (rest := [.int (((x7 * (64 : Int32)) + x10) - x8), .ref (h 15)]) C (c_X5_byteAt l D q (h 33) (h 34) N (128) (x10 - x2) (σ.2.2 34) z29 h30) ⟨wd_2_176, wd_2_177, wd_2_178, wd_1_2, wd_2_179, cx_X5_byteAt, Nat.le_of_ble_eq_true rfl, Nat.le_of_ble_eq_true rfl⟩ 33 (ci := 5) rfl rfl rfl (jnrC_33_34 nf nb h  q σ) rfl hl.1 rfl (Nat.le_of_ble_eq_true rfl) dX6_putRow_112 (Nat.zero_le _) (Nat.zero_le _) ?_
        obtain ⟨z31, h32, hf⟩ := bn_some hf
        refine s_callVV (As := [.int (((x7 * (64 : Int32)) + x10) - x8), .int z29]) (rest := []) C (c_X5_put l D q (h 15) (h 16) N (nf * 8) (((x7 * (64 : Int32)) + x10) - x8) z29 (σ.2.2 16) z31 h32) ⟨wd_2_180, wd_2_181, wd_2_182, wd_1_2, wd_2_183, cx_X5_put, Nat.le_of_ble_eq_true rfl, Nat.le_of_ble_eq_true rfl⟩ 15 (ci := 5) rfl rfl rfl (jnC_15_16 nf nb h  q σ z31) rfl hl.1 rfl (Nat.le_of_ble_eq_true rfl) dX6_putRow_115 (Nat.zero_le _) (Nat.zero_le _) ?_
        obtain ⟨σ33, e34, hf⟩ := lt_some hf
        refine s_w (ws2 := (wC h q nf nb σ33)) (by rw [e34]) ?_
        clear e34
        refine s_iinc (v := (x10 + 1)) (lv2 := [(10, .int (x10 + 1)), (0, .ref (h 0)), (1, .int x1), (2, .int x2), (4, .int x4), (6, .int x6), (7, .int x7), (8, .int x8), (9, .int x9)]) C 8 dX6_putRow_118 hl rfl rfl (by decide) rfl ?_
        intro ls hl
        refine s_goto (tgt := 79) C dX6_putRow_121 (by decide) ?_
        exact ih _ _ _ _ _ _ _ _ _ hf _ (lv_sub hl [1, 2, 3, 4, 5, 6, 7, 8, 0] rfl)
  have L21 : ∀ (n : Nat) (x1 : Int32) (x2 : Int32) (x4 : Int32) (x5 : Int32) (x6 : Int32) (σ : St), pf_X6_putRow_L21 N nf nb n x1 x2 x4 x5 x6 σ = some z → ∀ ls : Array Slot, lv_has ls 11 [(0, .ref (h 0)), (1, .int x1), (2, .int x2), (4, .int x4), (5, .int x5), (6, .int x6)] → WG p l e (rmO 6 142) s m args below meth c D A 0 0 Q (wC h q nf nb σ) (F0 m 21 ls []) := by
    intro n
    induction n with
    | zero => intro x1 x2 x4 x5 x6 σ hf; unfold pf_X6_putRow_L21 at hf; cases hf
    | succ n ih =>
      intro x1 x2 x4 x5 x6 σ hf ls hl
      unfold pf_X6_putRow_L21 at hf
      refine s_iload C dX6_putRow_21 (lv_at hl 5 rfl) ?_
      refine s_bipush (v := (64 : Int32)) C dX6_putRow_23 (by decide) ?_
      refine s_imul C dX6_putRow_25 ?_
      refine s_iload C dX6_putRow_26 (lv_at hl 3 rfl) ?_
      refine s_icmp_ge (tgt := 172) C dX6_putRow_28 (by decide) (fun c5 => ?_) (fun c5 => ?_)
      · replace hf := it_t c5 hf
        exact b172 _ _ hf _ (lv_sub hl [0, 4] rfl)
      · replace hf := it_f c5 hf
        refine s_aload_n C dX6_putRow_31 rfl (lv_at hl 0 rfl) ?_
        refine s_iload_n C dX6_putRow_32 rfl (lv_at hl 1 rfl) ?_
        refine s_iload C dX6_putRow_33 (lv_at hl 5 rfl) ?_
        obtain ⟨z9, h10, hf⟩ := bn_some hf
        refine s_callIS (As := [.int x1, .int x6]) (rest := [.ref (h 0)]) C (c_X6_spotOf l D q (wC h q nf nb σ) N x1 x6  z9 h10) ⟨wd_2_18, wd_2_19, wd_1_1, wd_2_20, cx_X6_spotOf, Nat.le_of_ble_eq_true rfl, Nat.le_of_ble_eq_true rfl⟩ (SubW.full _ _) rfl hl.1 rfl (Nat.le_of_ble_eq_true rfl) dX6_putRow_35 (Nat.zero_le _) (Nat.zero_le _) ?_
        obtain ⟨z11, h12, hf⟩ := bn_some hf
        refine s_callIV (As := [.int z9]) (rest := []) C (c_X6_touch l D q h N nf nb z9 σ z11 h12) ⟨wd_2_25, wd_2_27, wd_s_1, wd_1_1, wd_2_28, cx_X6_touch, Nat.le_of_ble_eq_true rfl, Nat.le_of_ble_eq_true rfl⟩ 0 (ci := 6) rfl rfl rfl (SubW.full _ _) rfl hl.1 rfl (Nat.le_of_ble_eq_true rfl) dX6_putRow_38 (Nat.zero_le _) (Nat.zero_le _) ?_
        refine s_istore (lv2 := [(7, .int z11.1), (0, .ref (h 0)), (1, .int x1), (2, .int x2), (4, .int x4), (5, .int x5), (6, .int x6)]) C dX6_putRow_41 hl (by decide) rfl ?_
        intro ls hl
        refine s_iload C dX6_putRow_43 (lv_at hl 0 rfl) ?_
        refine s_iconst (v := (-1 : Int32)) C dX6_putRow_45 (by decide) ?_
        refine s_icmp_ne (tgt := 52) C dX6_putRow_46 (by decide) (fun c13 => ?_) (fun c13 => ?_)
        · replace hf := it_f c13 hf
          refine s_iload C dX6_putRow_52 (lv_at hl 6 rfl) ?_
          refine s_bipush (v := (64 : Int32)) C dX6_putRow_54 (by decide) ?_
          refine s_imul C dX6_putRow_56 ?_
          obtain ⟨v14, e15, hf⟩ := lt_some hf
          refine s_eq (g2 := F0 m 57 ls [.int v14]) (by rw [e15]) ?_
          clear e15
          refine s_istore (lv2 := [(8, .int v14), (7, .int z11.1), (0, .ref (h 0)), (1, .int x1), (2, .int x2), (4, .int x4), (5, .int x5), (6, .int x6)]) C dX6_putRow_57 hl (by decide) rfl ?_
          intro ls hl
          refine s_iload C dX6_putRow_59 (lv_at hl 5 rfl) ?_
          refine s_iload C dX6_putRow_61 (lv_at hl 0 rfl) ?_
          refine s_bipush (v := (64 : Int32)) C dX6_putRow_63 (by decide) ?_
          refine s_iadd C dX6_putRow_65 ?_
          refine s_mmin C hl.1 dX6_putRow_66 wd_2_11 mm_min_s mm_in mm_min_c (Nat.le_of_ble_eq_true rfl) (Nat.le_of_ble_eq_true rfl) (Nat.zero_le _) (Nat.zero_le _) ?_
          obtain ⟨v16, e17, hf⟩ := lt_some hf
          refine s_eq (g2 := F0 m 69 ls [.int v16]) (by rw [e17]) ?_
          clear e17
          refine s_istore (lv2 := [(9, .int v16), (8, .int v14), (7, .int z11.1), (0, .ref (h 0)), (1, .int x1), (2, .int x2), (4, .int x4), (5, .int x5), (6, .int x6)]) C dX6_putRow_69 hl (by decide) rfl ?_
          intro ls hl
          refine s_iload_n C dX6_putRow_71 rfl (lv_at hl 5 rfl) ?_
          refine s_iload C dX6_putRow_72 (lv_at hl 1 rfl) ?_
          refine s_mmax C hl.1 dX6_putRow_74 wd_2_175 mm_max_s mm_in mm_max_c (Nat.le_of_ble_eq_true rfl) (Nat.le_of_ble_eq_true rfl) (Nat.zero_le _) (Nat.zero_le _) ?_
          obtain ⟨v18, e19, hf⟩ := lt_some hf
          refine s_eq (g2 := F0 m 77 ls [.int v18]) (by rw [e19]) ?_
          clear e19
          refine s_istore (lv2 := [(10, .int v18), (9, .int v16), (8, .int v14), (7, .int z11.1), (0, .ref (h 0)), (1, .int x1), (2, .int x2), (4, .int x4), (5, .int x5), (6, .int x6)]) C dX6_putRow_77 hl (by decide) rfl ?_
          intro ls hl
          exact L79 _ ih N _ _ _ _ _ _ _ _ _ hf _ (lv_sub hl [4, 5, 6, 7, 9, 3, 2, 1, 0] rfl)
        · replace hf := it_t c13 hf
          refine s_goto (tgt := 172) C dX6_putRow_49 (by decide) ?_
          exact b172 _ _ hf _ (lv_sub hl [1, 5] rfl)
  refine s_aload_n C dX6_putRow_0 rfl (lv_at hl 0 rfl) ?_
  refine gC_0_0 C wd_1_212 dX6_putRow_1 ?_
  obtain ⟨z1, h2, hf⟩ := bn_some hf
  refine s_callVV (As := []) (rest := []) C (c_X0_begin l D q h N nf nb σ z1 h2) ⟨wd_2_7, wd_2_8, wd_2_9, wd_1_4, wd_2_10, cx_X0_begin, Nat.le_of_ble_eq_true rfl, Nat.le_of_ble_eq_true rfl⟩ 1 (ci := 0) rfl rfl rfl (SubW.full _ _) rfl hl.1 rfl (Nat.le_of_ble_eq_true rfl) dX6_putRow_4 (Nat.zero_le _) (Nat.zero_le _) ?_
  refine s_iload_n C dX6_putRow_7 rfl (lv_at hl 2 rfl) ?_
  refine s_iload_n C dX6_putRow_8 rfl (lv_at hl 3 rfl) ?_
  refine s_iadd C dX6_putRow_9 ?_
  refine s_istore (lv2 := [(4, .int (x2 + x3)), (0, .ref (h 0)), (1, .int x1), (2, .int x2), (3, .int x3)]) C dX6_putRow_10 hl (by decide) rfl ?_
  intro ls hl
  refine s_iconst (v := (0 : Int32)) C dX6_putRow_12 (by decide) ?_
  refine s_istore (lv2 := [(5, .int (0 : Int32)), (4, .int (x2 + x3)), (0, .ref (h 0)), (1, .int x1), (2, .int x2), (3, .int x3)]) C dX6_putRow_13 hl (by decide) rfl ?_
  intro ls hl
  refine s_iload_n C dX6_putRow_15 rfl (lv_at hl 4 rfl) ?_
  refine s_bipush (v := (64 : Int32)) C dX6_putRow_16 (by decide) ?_
  refine s_idiv C dX6_putRow_18 (by decide) ?_
  obtain ⟨v3, e4, hf⟩ := lt_some hf
  refine s_eq (g2 := F0 m 19 ls [.int v3]) (by rw [e4]) ?_
  clear e4
  refine s_istore (lv2 := [(6, .int v3), (5, .int (0 : Int32)), (4, .int (x2 + x3)), (0, .ref (h 0)), (1, .int x1), (2, .int x2), (3, .int x3)]) C dX6_putRow_19 hl (by decide) rfl ?_
  intro ls hl
  exact L21 N _ _ _ _ _ _ hf _ (lv_sub hl [3, 4, 5, 2, 1, 0] rfl)
def pf_X6_fill_L27 (N : Nat) (nf : Nat) (nb : Nat) : Nat → Int32 → Int32 → Int32 → Int32 → Int32 → St → Option (Int32 × St)
  | 0, _, _, _, _, _, _ => none
  | n + 1, x1, x2, x3, x4, x5, σ => if x3 ≤ x5 then (pf_X6_putRow N nf nb x1 x2 x3 σ).bind (fun z7 => some (z7.1, z7.2)) else (pf_X5_put N (128) x5 (x4 + ((3 : Int32) * x5)) (σ.2.2 34)).bind (fun z9 => lt_ (sL σ 34 z9) (fun σ11 => (pf_X6_fill_L27 N nf nb n) x1 x2 x3 x4 (x5 + 1) σ11))
def pf_X6_fill (N : Nat) (nf : Nat) (nb : Nat) (x1 : Int32) (x2 : Int32) (x3 : Int32) (x4 : Int32) (σ : St) : Option (Int32 × St) := if x3 < (1 : Int32) then some ((-2 : Int32), σ) else if (1024 : Int32) < x3 then some ((-2 : Int32), σ) else (pf_X6_isStretch N x1 x2 x3).bind (fun z3 => if z3 = 0 then some ((-2 : Int32), σ) else pf_X6_fill_L27 N nf nb N x1 x2 x3 x4 (0 : Int32) σ)
theorem cx_X6_fill : (yX6_fill.cls ≠ "java/lang/invoke/MethodHandle" ∧ yX6_fill.cls ≠ "java/lang/invoke/VarHandle" ∧ (parseMethodDescriptor yX6_fill.desc).map (fun d => d.parameters.length) = some 4) := by decide +kernel
set_option maxHeartbeats 4000000 in
set_option maxRecDepth 100000 in
theorem c_X6_fill (l : Launch) (D : va_G) (q : Nat → ClassId) (h : Nat → Nat) (N : Nat) (nf : Nat) (nb : Nat) (x1 : Int32) (x2 : Int32) (x3 : Int32) (x4 : Int32) (σ : St) (z : (Int32 × St)) (hf : pf_X6_fill N nf nb x1 x2 x3 x4 σ = some z) : MI l yX6_fill cX6_fill 6 (some .int) 7 172 D (tyQ q) [.ref (h 0), .int x1, .int x2, .int x3, .int x4] (wC h q nf nb σ) (wC h q nf nb z.2) z.1 := by
  refine MI.of (by decide) (Nat.le_of_ble_eq_true rfl) ?_
  intro p e s m args below meth c Q A C ret ls hl
  have hl : lv_has ls 6 [(0, .ref (h 0)), (1, .int x1), (2, .int x2), (3, .int x3), (4, .int x4)] := hl
  unfold pf_X6_fill at hf
  have L27 : ∀ (n : Nat) (x1 : Int32) (x2 : Int32) (x3 : Int32) (x4 : Int32) (x5 : Int32) (σ : St), pf_X6_fill_L27 N nf nb n x1 x2 x3 x4 x5 σ = some z → ∀ ls : Array Slot, lv_has ls 6 [(0, .ref (h 0)), (1, .int x1), (2, .int x2), (3, .int x3), (4, .int x4), (5, .int x5)] → WG p l e (rmO 7 172) s m args below meth c D A 0 0 Q (wC h q nf nb σ) (F0 m 27 ls []) := by
    intro n
    induction n with
    | zero => intro x1 x2 x3 x4 x5 σ hf; unfold pf_X6_fill_L27 at hf; cases hf
    | succ n ih =>
      intro x1 x2 x3 x4 x5 σ hf ls hl
      unfold pf_X6_fill_L27 at hf
      refine s_iload C dX6_fill_27 (lv_at hl 5 rfl) ?_
      refine s_iload_n C dX6_fill_29 rfl (lv_at hl 3 rfl) ?_
      refine s_icmp_ge (tgt := 55) C dX6_fill_30 (by decide) (fun c6 => ?_) (fun c6 => ?_)
      · replace hf := it_t c6 hf
        refine s_aload_n C dX6_fill_55 rfl (lv_at hl 0 rfl) ?_
        refine s_iload_n C dX6_fill_56 rfl (lv_at hl 1 rfl) ?_
        refine s_iload_n C dX6_fill_57 rfl (lv_at hl 2 rfl) ?_
        refine s_iload_n C dX6_fill_58 rfl (lv_at hl 3 rfl) ?_
        obtain ⟨z7, h8, hf⟩ := bn_some hf
        refine s_callIV (As := [.int x1, .int x2, .int x3]) (rest := []) C (c_X6_putRow l D q h N nf nb x1 x2 x3 σ z7 h8) ⟨wd_2_202, wd_2_204, wd_s_10, wd_1_1, wd_2_205, cx_X6_putRow, Nat.le_of_ble_eq_true rfl, Nat.le_of_ble_eq_true rfl⟩ 0 (ci := 6) rfl rfl rfl (SubW.full _ _) rfl hl.1 rfl (Nat.le_of_ble_eq_true rfl) dX6_fill_59 (Nat.zero_le _) (Nat.zero_le _) ?_
        exact ret _ _ _ _ dX6_fill_62 rfl (rt_2 hf).1 (congrArg (fun σ => (wC h q nf nb σ)) (rt_2 hf).2)
      · replace hf := it_f c6 hf
        refine s_aload_n C dX6_fill_33 rfl (lv_at hl 0 rfl) ?_
        refine gC_0_6 C wd_1_218 dX6_fill_34 ?_
        refine s_iload C dX6_fill_37 (lv_at hl 5 rfl) ?_
        refine s_iload C dX6_fill_39 (lv_at hl 4 rfl) ?_
        refine s_iconst (v := (3 : Int32)) C dX6_fill_41 (by decide) ?_
        refine s_iload C dX6_fill_42 (lv_at hl 5 rfl) ?_
        refine s_imul C dX6_fill_44 ?_
        refine s_iadd C dX6_fill_45 ?_
        obtain ⟨z9, h10, hf⟩ := bn_some hf
        refine s_callVV (As := [.int x5, .int (x4 + ((3 : Int32) * x5))]) (rest := []) C (c_X5_put l D q (h 33) (h 34) N (128) x5 (x4 + ((3 : Int32) * x5)) (σ.2.2 34) z9 h10) ⟨wd_2_180, wd_2_181, wd_2_182, wd_1_2, wd_2_183, cx_X5_put, Nat.le_of_ble_eq_true rfl, Nat.le_of_ble_eq_true rfl⟩ 33 (ci := 5) rfl rfl rfl (jnC_33_34 nf nb h  q σ z9) rfl hl.1 rfl (Nat.le_of_ble_eq_true rfl) dX6_fill_46 (Nat.zero_le _) (Nat.zero_le _) ?_
        obtain ⟨σ11, e12, hf⟩ := lt_some hf
        refine s_w (ws2 := (wC h q nf nb σ11)) (by rw [e12]) ?_
        clear e12
        refine s_iinc (v := (x5 + 1)) (lv2 := [(5, .int (x5 + 1)), (0, .ref (h 0)), (1, .int x1), (2, .int x2), (3, .int x3), (4, .int x4)]) C 5 dX6_fill_49 hl rfl rfl (by decide) rfl ?_
        intro ls hl
        refine s_goto (tgt := 27) C dX6_fill_52 (by decide) ?_
        exact ih _ _ _ _ _ _ hf _ (lv_sub hl [1, 2, 3, 4, 5, 0] rfl)
  refine s_iload_n C dX6_fill_0 rfl (lv_at hl 3 rfl) ?_
  refine s_iconst (v := (1 : Int32)) C dX6_fill_1 (by decide) ?_
  refine s_icmp_lt (tgt := 21) C dX6_fill_2 (by decide) (fun c1 => ?_) (fun c1 => ?_)
  · replace hf := it_t c1 hf
    refine s_bipush (v := (-2 : Int32)) C dX6_fill_21 (by decide) ?_
    exact ret _ _ _ _ dX6_fill_23 rfl (rt_2 hf).1 (congrArg (fun σ => (wC h q nf nb σ)) (rt_2 hf).2)
  · replace hf := it_f c1 hf
    refine s_iload_n C dX6_fill_5 rfl (lv_at hl 3 rfl) ?_
    refine s_sipush (v := (1024 : Int32)) C dX6_fill_6 (by decide) ?_
    refine s_icmp_gt (tgt := 21) C dX6_fill_9 (by decide) (fun c2 => ?_) (fun c2 => ?_)
    · replace hf := it_t c2 hf
      refine s_bipush (v := (-2 : Int32)) C dX6_fill_21 (by decide) ?_
      exact ret _ _ _ _ dX6_fill_23 rfl (rt_2 hf).1 (congrArg (fun σ => (wC h q nf nb σ)) (rt_2 hf).2)
    · replace hf := it_f c2 hf
      refine s_iload_n C dX6_fill_12 rfl (lv_at hl 1 rfl) ?_
      refine s_iload_n C dX6_fill_13 rfl (lv_at hl 2 rfl) ?_
      refine s_iload_n C dX6_fill_14 rfl (lv_at hl 3 rfl) ?_
      obtain ⟨z3, h4, hf⟩ := bn_some hf
      refine s_callIS (As := [.int x1, .int x2, .int x3]) (rest := []) C (c_X6_isStretch l D q (wC h q nf nb σ) N x1 x2 x3  z3 h4) ⟨wd_2_199, wd_2_200, wd_1_1, wd_2_201, cx_X6_isStretch, Nat.le_of_ble_eq_true rfl, Nat.le_of_ble_eq_true rfl⟩ (SubW.full _ _) rfl hl.1 rfl (Nat.le_of_ble_eq_true rfl) dX6_fill_15 (Nat.zero_le _) (Nat.zero_le _) ?_
      refine s_if_ne (tgt := 24) C dX6_fill_18 (by decide) (fun c5 => ?_) (fun c5 => ?_)
      · replace hf := it_f c5 hf
        refine s_iconst (v := (0 : Int32)) C dX6_fill_24 (by decide) ?_
        refine s_istore (lv2 := [(5, .int (0 : Int32)), (0, .ref (h 0)), (1, .int x1), (2, .int x2), (3, .int x3), (4, .int x4)]) C dX6_fill_25 hl (by decide) rfl ?_
        intro ls hl
        exact L27 N _ _ _ _ _ _ hf _ (lv_sub hl [1, 2, 3, 4, 5, 0] rfl)
      · replace hf := it_t c5 hf
        refine s_bipush (v := (-2 : Int32)) C dX6_fill_21 (by decide) ?_
        exact ret _ _ _ _ dX6_fill_23 rfl (rt_2 hf).1 (congrArg (fun σ => (wC h q nf nb σ)) (rt_2 hf).2)
def pf_X6_hand (N : Nat) (nf : Nat) (nb : Nat) (x1 : Int32) (σ : St) : Option Int32 := if x1 < 0 then some (-1 : Int32) else if x1 < (σ.1 12) then (pf_X5_byteAt N (128) x1 (σ.2.2 32)).bind (fun z3 => some z3) else some (-1 : Int32)
theorem cx_X6_hand : (yX6_hand.cls ≠ "java/lang/invoke/MethodHandle" ∧ yX6_hand.cls ≠ "java/lang/invoke/VarHandle" ∧ (parseMethodDescriptor yX6_hand.desc).map (fun d => d.parameters.length) = some 1) := by decide +kernel
set_option maxHeartbeats 4000000 in
set_option maxRecDepth 100000 in
theorem c_X6_hand (l : Launch) (D : va_G) (q : Nat → ClassId) (h : Nat → Nat) (N : Nat) (nf : Nat) (nb : Nat) (x1 : Int32) (σ : St) (z : Int32) (hf : pf_X6_hand N nf nb x1 σ = some z) : MI l yX6_hand cX6_hand 2 (some .int) 1 21 D (tyQ q) [.ref (h 0), .int x1] (wC h q nf nb σ) (wC h q nf nb σ) z := by
  refine MI.of (by decide) (Nat.le_of_ble_eq_true rfl) ?_
  intro p e s m args below meth c Q A C ret ls hl
  have hl : lv_has ls 2 [(0, .ref (h 0)), (1, .int x1)] := hl
  unfold pf_X6_hand at hf
  refine s_iload_n C dX6_hand_0 rfl (lv_at hl 1 rfl) ?_
  refine s_if_lt (tgt := 12) C dX6_hand_1 (by decide) (fun c1 => ?_) (fun c1 => ?_)
  · replace hf := it_t c1 hf
    refine s_iconst (v := (-1 : Int32)) C dX6_hand_12 (by decide) ?_
    refine s_goto (tgt := 24) C dX6_hand_13 (by decide) ?_
    exact ret _ _ _ _ dX6_hand_24 rfl (rt_1 hf) rfl
  · replace hf := it_f c1 hf
    refine s_iload_n C dX6_hand_4 rfl (lv_at hl 1 rfl) ?_
    refine s_aload_n C dX6_hand_5 rfl (lv_at hl 0 rfl) ?_
    refine gC_0_7 C wd_1_219 dX6_hand_6 ?_
    refine s_icmp_lt (tgt := 16) C dX6_hand_9 (by decide) (fun c2 => ?_) (fun c2 => ?_)
    · replace hf := it_t c2 hf
      refine s_aload_n C dX6_hand_16 rfl (lv_at hl 0 rfl) ?_
      refine gC_0_5 C wd_1_217 dX6_hand_17 ?_
      refine s_iload_n C dX6_hand_20 rfl (lv_at hl 1 rfl) ?_
      obtain ⟨z3, h4, hf⟩ := bn_some hf
      refine s_callIV (As := [.int x1]) (rest := []) C (c_X5_byteAt l D q (h 31) (h 32) N (128) x1 (σ.2.2 32) z3 h4) ⟨wd_2_176, wd_2_177, wd_2_178, wd_1_2, wd_2_179, cx_X5_byteAt, Nat.le_of_ble_eq_true rfl, Nat.le_of_ble_eq_true rfl⟩ 31 (ci := 5) rfl rfl rfl (jnrC_31_32 nf nb h  q σ) rfl hl.1 rfl (Nat.le_of_ble_eq_true rfl) dX6_hand_21 (Nat.zero_le _) (Nat.zero_le _) ?_
      exact ret _ _ _ _ dX6_hand_24 rfl (rt_1 hf) rfl
    · replace hf := it_f c2 hf
      refine s_iconst (v := (-1 : Int32)) C dX6_hand_12 (by decide) ?_
      refine s_goto (tgt := 24) C dX6_hand_13 (by decide) ?_
      exact ret _ _ _ _ dX6_hand_24 rfl (rt_1 hf) rfl
def pf_X6_isEntry (N : Nat) (nf : Nat) (nb : Nat) (x1 : Int32) (σ : St) : Option Int32 := (pf_X2_frameOf N nf nb x1 σ).bind (fun z1 => if z1 = (-1 : Int32) then (pf_X4_of N nf nb x1 σ).bind (fun z4 => if z4 = (-1 : Int32) then some (0 : Int32) else some (1 : Int32)) else some (1 : Int32))
theorem cx_X6_isEntry : (yX6_isEntry.cls ≠ "java/lang/invoke/MethodHandle" ∧ yX6_isEntry.cls ≠ "java/lang/invoke/VarHandle" ∧ (parseMethodDescriptor yX6_isEntry.desc).map (fun d => d.parameters.length) = some 1) := by decide +kernel
set_option maxHeartbeats 4000000 in
set_option maxRecDepth 100000 in
theorem c_X6_isEntry (l : Launch) (D : va_G) (q : Nat → ClassId) (h : Nat → Nat) (N : Nat) (nf : Nat) (nb : Nat) (x1 : Int32) (σ : St) (z : Int32) (hf : pf_X6_isEntry N nf nb x1 σ = some z) : MI l yX6_isEntry cX6_isEntry 2 (some .boolean) 1 21 D (tyQ q) [.ref (h 0), .int x1] (wC h q nf nb σ) (wC h q nf nb σ) z := by
  refine MI.of (by decide) (Nat.le_of_ble_eq_true rfl) ?_
  intro p e s m args below meth c Q A C ret ls hl
  have hl : lv_has ls 2 [(0, .ref (h 0)), (1, .int x1)] := hl
  unfold pf_X6_isEntry at hf
  refine s_aload_n C dX6_isEntry_0 rfl (lv_at hl 0 rfl) ?_
  refine gC_0_2 C wd_1_214 dX6_isEntry_1 ?_
  refine s_iload_n C dX6_isEntry_4 rfl (lv_at hl 1 rfl) ?_
  obtain ⟨z1, h2, hf⟩ := bn_some hf
  refine s_callIV (As := [.int x1]) (rest := []) C (c_X2_frameOf l D q h N nf nb x1 σ z1 h2) ⟨wd_2_21, wd_2_22, wd_2_23, wd_1_7, wd_2_24, cx_X2_frameOf, Nat.le_of_ble_eq_true rfl, Nat.le_of_ble_eq_true rfl⟩ 14 (ci := 2) rfl rfl rfl (SubW.full _ _) rfl hl.1 rfl (Nat.le_of_ble_eq_true rfl) dX6_isEntry_5 (Nat.zero_le _) (Nat.zero_le _) ?_
  refine s_iconst (v := (-1 : Int32)) C dX6_isEntry_8 (by decide) ?_
  refine s_icmp_ne (tgt := 24) C dX6_isEntry_9 (by decide) (fun c3 => ?_) (fun c3 => ?_)
  · replace hf := it_f c3 hf
    refine s_iconst (v := (1 : Int32)) C dX6_isEntry_24 (by decide) ?_
    refine s_goto (tgt := 29) C dX6_isEntry_25 (by decide) ?_
    exact ret _ _ _ _ dX6_isEntry_29 rfl (rt_1 hf) rfl
  · replace hf := it_t c3 hf
    refine s_aload_n C dX6_isEntry_12 rfl (lv_at hl 0 rfl) ?_
    refine gC_0_3 C wd_1_215 dX6_isEntry_13 ?_
    refine s_iload_n C dX6_isEntry_16 rfl (lv_at hl 1 rfl) ?_
    obtain ⟨z4, h5, hf⟩ := bn_some hf
    refine s_callIV (As := [.int x1]) (rest := []) C (c_X4_of l D q h N nf nb x1 σ z4 h5) ⟨wd_3_75, wd_2_153, wd_2_154, wd_1_9, wd_2_155, cx_X4_of, Nat.le_of_ble_eq_true rfl, Nat.le_of_ble_eq_true rfl⟩ 27 (ci := 4) rfl rfl rfl (SubW.full _ _) rfl hl.1 rfl (Nat.le_of_ble_eq_true rfl) dX6_isEntry_17 (Nat.zero_le _) (Nat.zero_le _) ?_
    refine s_iconst (v := (-1 : Int32)) C dX6_isEntry_20 (by decide) ?_
    refine s_icmp_eq (tgt := 28) C dX6_isEntry_21 (by decide) (fun c6 => ?_) (fun c6 => ?_)
    · replace hf := it_t c6 hf
      refine s_iconst (v := (0 : Int32)) C dX6_isEntry_28 (by decide) ?_
      exact ret _ _ _ _ dX6_isEntry_29 rfl (rt_1 hf) rfl
    · replace hf := it_f c6 hf
      refine s_iconst (v := (1 : Int32)) C dX6_isEntry_24 (by decide) ?_
      refine s_goto (tgt := 29) C dX6_isEntry_25 (by decide) ?_
      exact ret _ _ _ _ dX6_isEntry_29 rfl (rt_1 hf) rfl
def pf_X6_isMarked (N : Nat) (nf : Nat) (nb : Nat) (x1 : Int32) (x2 : Int32) (σ : St) : Option Int32 := (pf_X2_frameOf N nf nb x1 σ).bind (fun z1 => if x2 = (0 : Int32) then if z1 = (-1 : Int32) then some (0 : Int32) else some (1 : Int32) else if x2 = (1 : Int32) then (pf_X2_isDirty N nf nb z1 σ).bind (fun z6 => bZ z6 (some z6)) else if x2 = (2 : Int32) then if z1 = (-1 : Int32) then some (0 : Int32) else bI z1 (nf) (if ((σ.2.1 19) (Int32.toNatClampNeg z1)) = 0 then some (0 : Int32) else some (1 : Int32)) else if x2 = (3 : Int32) then if z1 = (-1 : Int32) then some (0 : Int32) else bI z1 (nf) (if ((σ.2.1 20) (Int32.toNatClampNeg z1)) = 0 then some (0 : Int32) else some (1 : Int32)) else (pf_X4_of N nf nb x1 σ).bind (fun z17 => if z17 = (-1 : Int32) then some (0 : Int32) else some (1 : Int32)))
theorem cx_X6_isMarked : (yX6_isMarked.cls ≠ "java/lang/invoke/MethodHandle" ∧ yX6_isMarked.cls ≠ "java/lang/invoke/VarHandle" ∧ (parseMethodDescriptor yX6_isMarked.desc).map (fun d => d.parameters.length) = some 2) := by decide +kernel
set_option maxHeartbeats 4000000 in
set_option maxRecDepth 100000 in
theorem c_X6_isMarked (l : Launch) (D : va_G) (q : Nat → ClassId) (h : Nat → Nat) (N : Nat) (nf : Nat) (nb : Nat) (x1 : Int32) (x2 : Int32) (σ : St) (z : Int32) (hf : pf_X6_isMarked N nf nb x1 x2 σ = some z) : MI l yX6_isMarked cX6_isMarked 4 (some .boolean) 1 21 D (tyQ q) [.ref (h 0), .int x1, .int x2] (wC h q nf nb σ) (wC h q nf nb σ) z := by
  refine MI.of (by decide) (Nat.le_of_ble_eq_true rfl) ?_
  intro p e s m args below meth c Q A C ret ls hl
  have hl : lv_has ls 4 [(0, .ref (h 0)), (1, .int x1), (2, .int x2)] := hl
  unfold pf_X6_isMarked at hf
  refine s_aload_n C dX6_isMarked_0 rfl (lv_at hl 0 rfl) ?_
  refine gC_0_2 C wd_1_214 dX6_isMarked_1 ?_
  refine s_iload_n C dX6_isMarked_4 rfl (lv_at hl 1 rfl) ?_
  obtain ⟨z1, h2, hf⟩ := bn_some hf
  refine s_callIV (As := [.int x1]) (rest := []) C (c_X2_frameOf l D q h N nf nb x1 σ z1 h2) ⟨wd_2_21, wd_2_22, wd_2_23, wd_1_7, wd_2_24, cx_X2_frameOf, Nat.le_of_ble_eq_true rfl, Nat.le_of_ble_eq_true rfl⟩ 14 (ci := 2) rfl rfl rfl (SubW.full _ _) rfl hl.1 rfl (Nat.le_of_ble_eq_true rfl) dX6_isMarked_5 (Nat.zero_le _) (Nat.zero_le _) ?_
  refine s_istore_n (lv2 := [(3, .int z1), (0, .ref (h 0)), (1, .int x1), (2, .int x2)]) C dX6_isMarked_8 rfl hl (by decide) rfl ?_
  intro ls hl
  refine s_iload_n C dX6_isMarked_9 rfl (lv_at hl 3 rfl) ?_
  by_cases c3 : x2 = (0 : Int32)
  · replace hf := it_t c3 hf
    refine s_tblI (tgt := 40) C dX6_isMarked_10 c3 (by decide) (by decide) rfl (by decide) ?_
    refine s_iload_n C dX6_isMarked_40 rfl (lv_at hl 0 rfl) ?_
    refine s_iconst (v := (-1 : Int32)) C dX6_isMarked_41 (by decide) ?_
    refine s_icmp_eq (tgt := 49) C dX6_isMarked_42 (by decide) (fun c4 => ?_) (fun c4 => ?_)
    · replace hf := it_t c4 hf
      refine s_iconst (v := (0 : Int32)) C dX6_isMarked_49 (by decide) ?_
      exact ret _ _ _ _ dX6_isMarked_50 rfl (rt_1 hf) rfl
    · replace hf := it_f c4 hf
      refine s_iconst (v := (1 : Int32)) C dX6_isMarked_45 (by decide) ?_
      refine s_goto (tgt := 50) C dX6_isMarked_46 (by decide) ?_
      exact ret _ _ _ _ dX6_isMarked_50 rfl (rt_1 hf) rfl
  · replace hf := it_f c3 hf
    by_cases c5 : x2 = (1 : Int32)
    · replace hf := it_t c5 hf
      refine s_tblI (tgt := 51) C dX6_isMarked_10 c5 (by decide) (by decide) rfl (by decide) ?_
      refine s_aload_n C dX6_isMarked_51 rfl (lv_at hl 1 rfl) ?_
      refine gC_0_2 C wd_1_214 dX6_isMarked_52 ?_
      refine s_iload_n C dX6_isMarked_55 rfl (lv_at hl 0 rfl) ?_
      obtain ⟨z6, h7, hf⟩ := bn_some hf
      refine s_callIV (As := [.int z1]) (rest := []) C (c_X2_isDirty l D q h N nf nb z1 σ z6 h7) ⟨wd_2_74, wd_2_75, wd_2_76, wd_1_7, wd_2_77, cx_X2_isDirty, Nat.le_of_ble_eq_true rfl, Nat.le_of_ble_eq_true rfl⟩ 14 (ci := 2) rfl rfl rfl (SubW.full _ _) rfl hl.1 rfl (Nat.le_of_ble_eq_true rfl) dX6_isMarked_56 (Nat.zero_le _) (Nat.zero_le _) ?_
      obtain ⟨hz8, hf⟩ := bZ_some hf
      exact ret _ _ _ _ dX6_isMarked_59 hz8 (rt_1 hf) rfl
    · replace hf := it_f c5 hf
      by_cases c9 : x2 = (2 : Int32)
      · replace hf := it_t c9 hf
        refine s_tblI (tgt := 60) C dX6_isMarked_10 c9 (by decide) (by decide) rfl (by decide) ?_
        refine s_iload_n C dX6_isMarked_60 rfl (lv_at hl 0 rfl) ?_
        refine s_iconst (v := (-1 : Int32)) C dX6_isMarked_61 (by decide) ?_
        refine s_icmp_eq (tgt := 81) C dX6_isMarked_62 (by decide) (fun c10 => ?_) (fun c10 => ?_)
        · replace hf := it_t c10 hf
          refine s_iconst (v := (0 : Int32)) C dX6_isMarked_81 (by decide) ?_
          exact ret _ _ _ _ dX6_isMarked_82 rfl (rt_1 hf) rfl
        · replace hf := it_f c10 hf
          refine s_aload_n C dX6_isMarked_65 rfl (lv_at hl 1 rfl) ?_
          refine gC_0_2 C wd_1_214 dX6_isMarked_66 ?_
          refine gnC_14_4 C nl_19 dX6_isMarked_69 ?_
          refine s_iload_n C dX6_isMarked_72 rfl (lv_at hl 0 rfl) ?_
          obtain ⟨hi11, hf⟩ := bI_some hf
          refine ldC_19 C hi11 dX6_isMarked_73 ?_
          refine s_if_eq (tgt := 81) C dX6_isMarked_74 (by decide) (fun c12 => ?_) (fun c12 => ?_)
          · replace hf := it_t c12 hf
            refine s_iconst (v := (0 : Int32)) C dX6_isMarked_81 (by decide) ?_
            exact ret _ _ _ _ dX6_isMarked_82 rfl (rt_1 hf) rfl
          · replace hf := it_f c12 hf
            refine s_iconst (v := (1 : Int32)) C dX6_isMarked_77 (by decide) ?_
            refine s_goto (tgt := 82) C dX6_isMarked_78 (by decide) ?_
            exact ret _ _ _ _ dX6_isMarked_82 rfl (rt_1 hf) rfl
      · replace hf := it_f c9 hf
        by_cases c13 : x2 = (3 : Int32)
        · replace hf := it_t c13 hf
          refine s_tblI (tgt := 83) C dX6_isMarked_10 c13 (by decide) (by decide) rfl (by decide) ?_
          refine s_iload_n C dX6_isMarked_83 rfl (lv_at hl 0 rfl) ?_
          refine s_iconst (v := (-1 : Int32)) C dX6_isMarked_84 (by decide) ?_
          refine s_icmp_eq (tgt := 104) C dX6_isMarked_85 (by decide) (fun c14 => ?_) (fun c14 => ?_)
          · replace hf := it_t c14 hf
            refine s_iconst (v := (0 : Int32)) C dX6_isMarked_104 (by decide) ?_
            exact ret _ _ _ _ dX6_isMarked_105 rfl (rt_1 hf) rfl
          · replace hf := it_f c14 hf
            refine s_aload_n C dX6_isMarked_88 rfl (lv_at hl 1 rfl) ?_
            refine gC_0_2 C wd_1_214 dX6_isMarked_89 ?_
            refine gnC_14_5 C nl_20 dX6_isMarked_92 ?_
            refine s_iload_n C dX6_isMarked_95 rfl (lv_at hl 0 rfl) ?_
            obtain ⟨hi15, hf⟩ := bI_some hf
            refine ldC_20 C hi15 dX6_isMarked_96 ?_
            refine s_if_eq (tgt := 104) C dX6_isMarked_97 (by decide) (fun c16 => ?_) (fun c16 => ?_)
            · replace hf := it_t c16 hf
              refine s_iconst (v := (0 : Int32)) C dX6_isMarked_104 (by decide) ?_
              exact ret _ _ _ _ dX6_isMarked_105 rfl (rt_1 hf) rfl
            · replace hf := it_f c16 hf
              refine s_iconst (v := (1 : Int32)) C dX6_isMarked_100 (by decide) ?_
              refine s_goto (tgt := 105) C dX6_isMarked_101 (by decide) ?_
              exact ret _ _ _ _ dX6_isMarked_105 rfl (rt_1 hf) rfl
        · replace hf := it_f c13 hf
          refine s_tblO (tgt := 106) C dX6_isMarked_10 (tb_out (n := 3) (by decide) (fun k hk => ?_)) (by decide) ?_
          · rcases (show k = 0 ∨ k = 1 ∨ k = 2 ∨ k = 3 by omega) with rfl | rfl | rfl | rfl
            · exact c3
            · exact c5
            · exact c9
            · exact c13
          refine s_aload_n C dX6_isMarked_106 rfl (lv_at hl 1 rfl) ?_
          refine gC_0_3 C wd_1_215 dX6_isMarked_107 ?_
          refine s_iload_n C dX6_isMarked_110 rfl (lv_at hl 2 rfl) ?_
          obtain ⟨z17, h18, hf⟩ := bn_some hf
          refine s_callIV (As := [.int x1]) (rest := []) C (c_X4_of l D q h N nf nb x1 σ z17 h18) ⟨wd_3_75, wd_2_153, wd_2_154, wd_1_9, wd_2_155, cx_X4_of, Nat.le_of_ble_eq_true rfl, Nat.le_of_ble_eq_true rfl⟩ 27 (ci := 4) rfl rfl rfl (SubW.full _ _) rfl hl.1 rfl (Nat.le_of_ble_eq_true rfl) dX6_isMarked_111 (Nat.zero_le _) (Nat.zero_le _) ?_
          refine s_iconst (v := (-1 : Int32)) C dX6_isMarked_114 (by decide) ?_
          refine s_icmp_eq (tgt := 122) C dX6_isMarked_115 (by decide) (fun c19 => ?_) (fun c19 => ?_)
          · replace hf := it_t c19 hf
            refine s_iconst (v := (0 : Int32)) C dX6_isMarked_122 (by decide) ?_
            exact ret _ _ _ _ dX6_isMarked_123 rfl (rt_1 hf) rfl
          · replace hf := it_f c19 hf
            refine s_iconst (v := (1 : Int32)) C dX6_isMarked_118 (by decide) ?_
            refine s_goto (tgt := 123) C dX6_isMarked_119 (by decide) ?_
            exact ret _ _ _ _ dX6_isMarked_123 rfl (rt_1 hf) rfl
def pf_X6_leastDirtyBlock_b42 (N : Nat) (nf : Nat) (nb : Nat) (σ : St) (J4 : Int32 → Int32 → Int32 → Option Int32) (x1 : Int32) (x2 : Int32) (x3 : Int32) : Option Int32 := J4 x1 x2 (x3 + 1) 
def pf_X6_leastDirtyBlock_b39 (N : Nat) (nf : Nat) (nb : Nat) (σ : St) (J4 : Int32 → Int32 → Int32 → Option Int32) (x1 : Int32) (x3 : Int32) (x4 : Int32) : Option Int32 := pf_X6_leastDirtyBlock_b42 N nf nb σ J4 x1 x4 x3 
def pf_X6_leastDirtyBlock_L4 (N : Nat) (nf : Nat) (nb : Nat) (σ : St) : Nat → Int32 → Int32 → Int32 → Option Int32
  | 0, _, _, _ => none
  | n + 1, x1, x2, x3 => if (σ.1 5) ≤ x3 then some x2 else (pf_X6_dirtyBlockIn N nf nb x3 σ).bind (fun z2 => if z2 ≤ x1 then pf_X6_leastDirtyBlock_b42 N nf nb σ (pf_X6_leastDirtyBlock_L4 N nf nb σ n) x1 x2 x3  else if x2 = (-1 : Int32) then pf_X6_leastDirtyBlock_b39 N nf nb σ (pf_X6_leastDirtyBlock_L4 N nf nb σ n) x1 x3 z2  else if x2 ≤ z2 then pf_X6_leastDirtyBlock_b42 N nf nb σ (pf_X6_leastDirtyBlock_L4 N nf nb σ n) x1 x2 x3  else pf_X6_leastDirtyBlock_b39 N nf nb σ (pf_X6_leastDirtyBlock_L4 N nf nb σ n) x1 x3 z2 )
def pf_X6_leastDirtyBlock (N : Nat) (nf : Nat) (nb : Nat) (x1 : Int32) (σ : St) : Option Int32 := pf_X6_leastDirtyBlock_L4 N nf nb σ N x1 (-1 : Int32) (0 : Int32) 
theorem cx_X6_leastDirtyBlock : (yX6_leastDirtyBlock.cls ≠ "java/lang/invoke/MethodHandle" ∧ yX6_leastDirtyBlock.cls ≠ "java/lang/invoke/VarHandle" ∧ (parseMethodDescriptor yX6_leastDirtyBlock.desc).map (fun d => d.parameters.length) = some 1) := by decide +kernel
set_option maxHeartbeats 4000000 in
set_option maxRecDepth 100000 in
theorem c_X6_leastDirtyBlock (l : Launch) (D : va_G) (q : Nat → ClassId) (h : Nat → Nat) (N : Nat) (nf : Nat) (nb : Nat) (x1 : Int32) (σ : St) (z : Int32) (hf : pf_X6_leastDirtyBlock N nf nb x1 σ = some z) : MI l yX6_leastDirtyBlock cX6_leastDirtyBlock 5 (some .int) 2 43 D (tyQ q) [.ref (h 0), .int x1] (wC h q nf nb σ) (wC h q nf nb σ) z := by
  refine MI.of (by decide) (Nat.le_of_ble_eq_true rfl) ?_
  intro p e s m args below meth c Q A C ret ls hl
  have hl : lv_has ls 5 [(0, .ref (h 0)), (1, .int x1)] := hl
  unfold pf_X6_leastDirtyBlock at hf
  have b42 : ∀ (J4 : Int32 → Int32 → Int32 → Option Int32) (hJ4 : ∀ (x1 : Int32) (x2 : Int32) (x3 : Int32), J4 x1 x2 x3 = some z → ∀ ls : Array Slot, lv_has ls 5 [(0, .ref (h 0)), (1, .int x1), (2, .int x2), (3, .int x3)] → WG p l e (rmO 2 43) s m args below meth c D A 0 0 Q (wC h q nf nb σ) (F0 m 4 ls [])) (x1 : Int32) (x2 : Int32) (x3 : Int32), pf_X6_leastDirtyBlock_b42 N nf nb σ J4 x1 x2 x3 = some z → ∀ ls : Array Slot, lv_has ls 5 [(0, .ref (h 0)), (1, .int x1), (2, .int x2), (3, .int x3)] → WG p l e (rmO 2 43) s m args below meth c D A 0 0 Q (wC h q nf nb σ) (F0 m 42 ls []) := by
    intro J4 hJ4 x1 x2 x3 hf ls hl
    unfold pf_X6_leastDirtyBlock_b42 at hf
    refine s_iinc (v := (x3 + 1)) (lv2 := [(3, .int (x3 + 1)), (0, .ref (h 0)), (1, .int x1), (2, .int x2)]) C 3 dX6_leastDirtyBlock_42 hl rfl rfl (by decide) rfl ?_
    intro ls hl
    refine s_goto (tgt := 4) C dX6_leastDirtyBlock_45 (by decide) ?_
    exact hJ4 _ _ _ hf _ (lv_sub hl [1, 2, 3, 0] rfl)
  have b39 : ∀ (J4 : Int32 → Int32 → Int32 → Option Int32) (hJ4 : ∀ (x1 : Int32) (x2 : Int32) (x3 : Int32), J4 x1 x2 x3 = some z → ∀ ls : Array Slot, lv_has ls 5 [(0, .ref (h 0)), (1, .int x1), (2, .int x2), (3, .int x3)] → WG p l e (rmO 2 43) s m args below meth c D A 0 0 Q (wC h q nf nb σ) (F0 m 4 ls [])) (x1 : Int32) (x3 : Int32) (x4 : Int32), pf_X6_leastDirtyBlock_b39 N nf nb σ J4 x1 x3 x4 = some z → ∀ ls : Array Slot, lv_has ls 5 [(0, .ref (h 0)), (1, .int x1), (3, .int x3), (4, .int x4)] → WG p l e (rmO 2 43) s m args below meth c D A 0 0 Q (wC h q nf nb σ) (F0 m 39 ls []) := by
    intro J4 hJ4 x1 x3 x4 hf ls hl
    unfold pf_X6_leastDirtyBlock_b39 at hf
    refine s_iload C dX6_leastDirtyBlock_39 (lv_at hl 3 rfl) ?_
    refine s_istore_n (lv2 := [(2, .int x4), (0, .ref (h 0)), (1, .int x1), (3, .int x3), (4, .int x4)]) C dX6_leastDirtyBlock_41 rfl hl (by decide) rfl ?_
    intro ls hl
    exact b42 _ hJ4 _ _ _ hf _ (lv_sub hl [1, 2, 0, 3] rfl)
  have L4 : ∀ (n : Nat) (x1 : Int32) (x2 : Int32) (x3 : Int32), pf_X6_leastDirtyBlock_L4 N nf nb σ n x1 x2 x3 = some z → ∀ ls : Array Slot, lv_has ls 5 [(0, .ref (h 0)), (1, .int x1), (2, .int x2), (3, .int x3)] → WG p l e (rmO 2 43) s m args below meth c D A 0 0 Q (wC h q nf nb σ) (F0 m 4 ls []) := by
    intro n
    induction n with
    | zero => intro x1 x2 x3 hf; unfold pf_X6_leastDirtyBlock_L4 at hf; cases hf
    | succ n ih =>
      intro x1 x2 x3 hf ls hl
      unfold pf_X6_leastDirtyBlock_L4 at hf
      refine s_iload_n C dX6_leastDirtyBlock_4 rfl (lv_at hl 3 rfl) ?_
      refine s_aload_n C dX6_leastDirtyBlock_5 rfl (lv_at hl 0 rfl) ?_
      refine gC_0_2 C wd_1_214 dX6_leastDirtyBlock_6 ?_
      refine gnC_14_0 C nl_15 dX6_leastDirtyBlock_9 ?_
      refine s_icmp_ge (tgt := 48) C dX6_leastDirtyBlock_12 (by decide) (fun c1 => ?_) (fun c1 => ?_)
      · replace hf := it_t c1 hf
        refine s_iload_n C dX6_leastDirtyBlock_48 rfl (lv_at hl 2 rfl) ?_
        exact ret _ _ _ _ dX6_leastDirtyBlock_49 rfl (rt_1 hf) rfl
      · replace hf := it_f c1 hf
        refine s_aload_n C dX6_leastDirtyBlock_15 rfl (lv_at hl 0 rfl) ?_
        refine s_iload_n C dX6_leastDirtyBlock_16 rfl (lv_at hl 3 rfl) ?_
        obtain ⟨z2, h3, hf⟩ := bn_some hf
        refine s_callIV (As := [.int x3]) (rest := []) C (c_X6_dirtyBlockIn l D q h N nf nb x3 σ z2 h3) ⟨wd_3_25, wd_3_27, wd_s_15, wd_1_1, wd_3_28, cx_X6_dirtyBlockIn, Nat.le_of_ble_eq_true rfl, Nat.le_of_ble_eq_true rfl⟩ 0 (ci := 6) rfl rfl rfl (SubW.full _ _) rfl hl.1 rfl (Nat.le_of_ble_eq_true rfl) dX6_leastDirtyBlock_17 (Nat.zero_le _) (Nat.zero_le _) ?_
        refine s_istore (lv2 := [(4, .int z2), (0, .ref (h 0)), (1, .int x1), (2, .int x2), (3, .int x3)]) C dX6_leastDirtyBlock_20 hl (by decide) rfl ?_
        intro ls hl
        refine s_iload C dX6_leastDirtyBlock_22 (lv_at hl 0 rfl) ?_
        refine s_iload_n C dX6_leastDirtyBlock_24 rfl (lv_at hl 2 rfl) ?_
        refine s_icmp_le (tgt := 42) C dX6_leastDirtyBlock_25 (by decide) (fun c4 => ?_) (fun c4 => ?_)
        · replace hf := it_t c4 hf
          exact b42 _ ih _ _ _ hf _ (lv_sub hl [1, 2, 3, 4] rfl)
        · replace hf := it_f c4 hf
          refine s_iload_n C dX6_leastDirtyBlock_28 rfl (lv_at hl 3 rfl) ?_
          refine s_iconst (v := (-1 : Int32)) C dX6_leastDirtyBlock_29 (by decide) ?_
          refine s_icmp_eq (tgt := 39) C dX6_leastDirtyBlock_30 (by decide) (fun c5 => ?_) (fun c5 => ?_)
          · replace hf := it_t c5 hf
            exact b39 _ ih _ _ _ hf _ (lv_sub hl [1, 2, 4, 0] rfl)
          · replace hf := it_f c5 hf
            refine s_iload C dX6_leastDirtyBlock_33 (lv_at hl 0 rfl) ?_
            refine s_iload_n C dX6_leastDirtyBlock_35 rfl (lv_at hl 3 rfl) ?_
            refine s_icmp_ge (tgt := 42) C dX6_leastDirtyBlock_36 (by decide) (fun c6 => ?_) (fun c6 => ?_)
            · replace hf := it_t c6 hf
              exact b42 _ ih _ _ _ hf _ (lv_sub hl [1, 2, 3, 4] rfl)
            · replace hf := it_f c6 hf
              exact b39 _ ih _ _ _ hf _ (lv_sub hl [1, 2, 4, 0] rfl)
  refine s_iconst (v := (-1 : Int32)) C dX6_leastDirtyBlock_0 (by decide) ?_
  refine s_istore_n (lv2 := [(2, .int (-1 : Int32)), (0, .ref (h 0)), (1, .int x1)]) C dX6_leastDirtyBlock_1 rfl hl (by decide) rfl ?_
  intro ls hl
  refine s_iconst (v := (0 : Int32)) C dX6_leastDirtyBlock_2 (by decide) ?_
  refine s_istore_n (lv2 := [(3, .int (0 : Int32)), (2, .int (-1 : Int32)), (0, .ref (h 0)), (1, .int x1)]) C dX6_leastDirtyBlock_3 rfl hl (by decide) rfl ?_
  intro ls hl
  exact L4 N _ _ _ hf _ (lv_sub hl [2, 3, 1, 0] rfl)
def pf_X6_listed_b29 (N : Nat) (nf : Nat) (nb : Nat) (σ : St) (y0 : Int32) : Option Int32 := if y0 = (-1 : Int32) then some (-1 : Int32) else bI y0 (nf) (some ((σ.2.1 17) (Int32.toNatClampNeg y0)))
def pf_X6_listed (N : Nat) (nf : Nat) (nb : Nat) (x1 : Int32) (x2 : Int32) (σ : St) : Option Int32 := if x1 = 0 then (pf_X3_at N (nf) x2 ((σ.2.1 26), (σ.1 7))).bind (fun z2 => pf_X6_listed_b29 N nf nb σ z2 ) else (pf_X3_at N (nf) x2 ((σ.2.1 24), (σ.1 6))).bind (fun z6 => pf_X6_listed_b29 N nf nb σ z6 )
theorem cx_X6_listed : (yX6_listed.cls ≠ "java/lang/invoke/MethodHandle" ∧ yX6_listed.cls ≠ "java/lang/invoke/VarHandle" ∧ (parseMethodDescriptor yX6_listed.desc).map (fun d => d.parameters.length) = some 2) := by decide +kernel
set_option maxHeartbeats 4000000 in
set_option maxRecDepth 100000 in
theorem c_X6_listed (l : Launch) (D : va_G) (q : Nat → ClassId) (h : Nat → Nat) (N : Nat) (nf : Nat) (nb : Nat) (x1 : Int32) (x2 : Int32) (σ : St) (z : Int32) (hf : pf_X6_listed N nf nb x1 x2 σ = some z) : MI l yX6_listed cX6_listed 4 (some .int) 1 21 D (tyQ q) [.ref (h 0), .int x1, .int x2] (wC h q nf nb σ) (wC h q nf nb σ) z := by
  refine MI.of (by decide) (Nat.le_of_ble_eq_true rfl) ?_
  intro p e s m args below meth c Q A C ret ls hl
  have hl : lv_has ls 4 [(0, .ref (h 0)), (1, .int x1), (2, .int x2)] := hl
  unfold pf_X6_listed at hf
  have b29 : ∀ (y0 : Int32), pf_X6_listed_b29 N nf nb σ y0 = some z → ∀ ls : Array Slot, lv_has ls 4 [(0, .ref (h 0))] → WG p l e (rmO 1 21) s m args below meth c D A 0 0 Q (wC h q nf nb σ) (F0 m 29 ls [.int y0]) := by
    intro y0 hf ls hl
    unfold pf_X6_listed_b29 at hf
    refine s_istore_n (lv2 := [(3, .int y0), (0, .ref (h 0))]) C dX6_listed_29 rfl hl (by decide) rfl ?_
    intro ls hl
    refine s_iload_n C dX6_listed_30 rfl (lv_at hl 0 rfl) ?_
    refine s_iconst (v := (-1 : Int32)) C dX6_listed_31 (by decide) ?_
    refine s_icmp_ne (tgt := 39) C dX6_listed_32 (by decide) (fun c4 => ?_) (fun c4 => ?_)
    · replace hf := it_f c4 hf
      refine s_aload_n C dX6_listed_39 rfl (lv_at hl 1 rfl) ?_
      refine gC_0_2 C wd_1_214 dX6_listed_40 ?_
      refine gnC_14_2 C nl_17 dX6_listed_43 ?_
      refine s_iload_n C dX6_listed_46 rfl (lv_at hl 0 rfl) ?_
      obtain ⟨hi5, hf⟩ := bI_some hf
      refine ldC_17 C hi5 dX6_listed_47 ?_
      exact ret _ _ _ _ dX6_listed_48 rfl (rt_1 hf) rfl
    · replace hf := it_t c4 hf
      refine s_iconst (v := (-1 : Int32)) C dX6_listed_35 (by decide) ?_
      refine s_goto (tgt := 48) C dX6_listed_36 (by decide) ?_
      exact ret _ _ _ _ dX6_listed_48 rfl (rt_1 hf) rfl
  refine s_iload_n C dX6_listed_0 rfl (lv_at hl 1 rfl) ?_
  refine s_if_eq (tgt := 18) C dX6_listed_1 (by decide) (fun c1 => ?_) (fun c1 => ?_)
  · replace hf := it_t c1 hf
    refine s_aload_n C dX6_listed_18 rfl (lv_at hl 0 rfl) ?_
    refine gC_0_2 C wd_1_214 dX6_listed_19 ?_
    refine gnC_14_9 C nl_23 dX6_listed_22 ?_
    refine s_iload_n C dX6_listed_25 rfl (lv_at hl 2 rfl) ?_
    obtain ⟨z2, h3, hf⟩ := bn_some hf
    refine s_callIV (As := [.int x2]) (rest := []) C (c_X3_at l D q (h 25) (h 26) N (nf) x2 ((σ.2.1 26), (σ.1 7)) z2 h3) ⟨wd_2_129, wd_2_46, wd_2_47, wd_1_8, wd_2_48, cx_X3_at, Nat.le_of_ble_eq_true rfl, Nat.le_of_ble_eq_true rfl⟩ 25 (ci := 3) rfl rfl rfl (jnrC_25_26 nf nb h  q σ) rfl hl.1 rfl (Nat.le_of_ble_eq_true rfl) dX6_listed_26 (Nat.zero_le _) (Nat.zero_le _) ?_
    exact b29 _ hf _ (lv_sub hl [0] rfl)
  · replace hf := it_f c1 hf
    refine s_aload_n C dX6_listed_4 rfl (lv_at hl 0 rfl) ?_
    refine gC_0_2 C wd_1_214 dX6_listed_5 ?_
    refine gnC_14_8 C nl_22 dX6_listed_8 ?_
    refine s_iload_n C dX6_listed_11 rfl (lv_at hl 2 rfl) ?_
    obtain ⟨z6, h7, hf⟩ := bn_some hf
    refine s_callIV (As := [.int x2]) (rest := []) C (c_X3_at l D q (h 23) (h 24) N (nf) x2 ((σ.2.1 24), (σ.1 6)) z6 h7) ⟨wd_2_129, wd_2_46, wd_2_47, wd_1_8, wd_2_48, cx_X3_at, Nat.le_of_ble_eq_true rfl, Nat.le_of_ble_eq_true rfl⟩ 23 (ci := 3) rfl rfl rfl (jnrC_23_24 nf nb h  q σ) rfl hl.1 rfl (Nat.le_of_ble_eq_true rfl) dX6_listed_12 (Nat.zero_le _) (Nat.zero_le _) ?_
    refine s_goto (tgt := 29) C dX6_listed_15 (by decide) ?_
    exact b29 _ hf _ (lv_sub hl [0] rfl)
def pf_X6_makeHole (N : Nat) (nf : Nat) (nb : Nat) (x1 : Int32) (σ : St) : Option (Int32 × St) := (pf_X2_frameOf N nf nb x1 σ).bind (fun z1 => bI x1 (3072) (lt_ ((σ.2.1 30) (Int32.toNatClampNeg x1)) (fun v4 => (pf_X2_leave N nf nb z1 σ).bind (fun z6 => (pf_X4_forget N nf nb x1 z6).bind (fun z8 => (pf_X0_giveBack N nf nb v4 z8).bind (fun z10 => bI x1 (3072) (lt_ (sA z10 30 (upd (z10.2.1 30) (Int32.toNatClampNeg x1) (-1 : Int32))) (fun σ13 => if z1 = (-1 : Int32) then if v4 = (-1 : Int32) then some ((0 : Int32), σ13) else some ((1 : Int32), σ13) else some ((1 : Int32), σ13)))))))))
theorem cx_X6_makeHole : (yX6_makeHole.cls ≠ "java/lang/invoke/MethodHandle" ∧ yX6_makeHole.cls ≠ "java/lang/invoke/VarHandle" ∧ (parseMethodDescriptor yX6_makeHole.desc).map (fun d => d.parameters.length) = some 1) := by decide +kernel
set_option maxHeartbeats 4000000 in
set_option maxRecDepth 100000 in
theorem c_X6_makeHole (l : Launch) (D : va_G) (q : Nat → ClassId) (h : Nat → Nat) (N : Nat) (nf : Nat) (nb : Nat) (x1 : Int32) (σ : St) (z : (Int32 × St)) (hf : pf_X6_makeHole N nf nb x1 σ = some z) : MI l yX6_makeHole cX6_makeHole 4 (some .boolean) 3 67 D (tyQ q) [.ref (h 0), .int x1] (wC h q nf nb σ) (wC h q nf nb z.2) z.1 := by
  refine MI.of (by decide) (Nat.le_of_ble_eq_true rfl) ?_
  intro p e s m args below meth c Q A C ret ls hl
  have hl : lv_has ls 4 [(0, .ref (h 0)), (1, .int x1)] := hl
  unfold pf_X6_makeHole at hf
  refine s_aload_n C dX6_makeHole_0 rfl (lv_at hl 0 rfl) ?_
  refine gC_0_2 C wd_1_214 dX6_makeHole_1 ?_
  refine s_iload_n C dX6_makeHole_4 rfl (lv_at hl 1 rfl) ?_
  obtain ⟨z1, h2, hf⟩ := bn_some hf
  refine s_callIV (As := [.int x1]) (rest := []) C (c_X2_frameOf l D q h N nf nb x1 σ z1 h2) ⟨wd_2_21, wd_2_22, wd_2_23, wd_1_7, wd_2_24, cx_X2_frameOf, Nat.le_of_ble_eq_true rfl, Nat.le_of_ble_eq_true rfl⟩ 14 (ci := 2) rfl rfl rfl (SubW.full _ _) rfl hl.1 rfl (Nat.le_of_ble_eq_true rfl) dX6_makeHole_5 (Nat.zero_le _) (Nat.zero_le _) ?_
  refine s_istore_n (lv2 := [(2, .int z1), (0, .ref (h 0)), (1, .int x1)]) C dX6_makeHole_8 rfl hl (by decide) rfl ?_
  intro ls hl
  refine s_aload_n C dX6_makeHole_9 rfl (lv_at hl 1 rfl) ?_
  refine gC_0_4 C wd_1_216 dX6_makeHole_10 ?_
  refine s_iload_n C dX6_makeHole_13 rfl (lv_at hl 2 rfl) ?_
  obtain ⟨hi3, hf⟩ := bI_some hf
  refine ldC_30 C hi3 dX6_makeHole_14 ?_
  obtain ⟨v4, e5, hf⟩ := lt_some hf
  refine s_eq (g2 := F0 m 15 ls [.int v4]) (by rw [e5]) ?_
  clear e5
  refine s_istore_n (lv2 := [(3, .int v4), (2, .int z1), (0, .ref (h 0)), (1, .int x1)]) C dX6_makeHole_15 rfl hl (by decide) rfl ?_
  intro ls hl
  refine s_aload_n C dX6_makeHole_16 rfl (lv_at hl 2 rfl) ?_
  refine gC_0_2 C wd_1_214 dX6_makeHole_17 ?_
  refine s_iload_n C dX6_makeHole_20 rfl (lv_at hl 1 rfl) ?_
  obtain ⟨z6, h7, hf⟩ := bn_some hf
  refine s_callVV (As := [.int z1]) (rest := []) C (c_X2_leave l D q h N nf nb z1 σ z6 h7) ⟨wd_2_134, wd_2_135, wd_2_136, wd_1_7, wd_2_137, cx_X2_leave, Nat.le_of_ble_eq_true rfl, Nat.le_of_ble_eq_true rfl⟩ 14 (ci := 2) rfl rfl rfl (SubW.full _ _) rfl hl.1 rfl (Nat.le_of_ble_eq_true rfl) dX6_makeHole_21 (Nat.zero_le _) (Nat.zero_le _) ?_
  refine s_aload_n C dX6_makeHole_24 rfl (lv_at hl 2 rfl) ?_
  refine gC_0_3 C wd_1_215 dX6_makeHole_25 ?_
  refine s_iload_n C dX6_makeHole_28 rfl (lv_at hl 3 rfl) ?_
  obtain ⟨z8, h9, hf⟩ := bn_some hf
  refine s_callVV (As := [.int x1]) (rest := []) C (c_X4_forget l D q h N nf nb x1 z6 z8 h9) ⟨wd_2_166, wd_2_149, wd_2_150, wd_1_9, wd_2_151, cx_X4_forget, Nat.le_of_ble_eq_true rfl, Nat.le_of_ble_eq_true rfl⟩ 27 (ci := 4) rfl rfl rfl (SubW.full _ _) rfl hl.1 rfl (Nat.le_of_ble_eq_true rfl) dX6_makeHole_29 (Nat.zero_le _) (Nat.zero_le _) ?_
  refine s_aload_n C dX6_makeHole_32 rfl (lv_at hl 2 rfl) ?_
  refine gC_0_0 C wd_1_212 dX6_makeHole_33 ?_
  refine s_iload_n C dX6_makeHole_36 rfl (lv_at hl 0 rfl) ?_
  obtain ⟨z10, h11, hf⟩ := bn_some hf
  refine s_callVV (As := [.int v4]) (rest := []) C (c_X0_giveBack l D q h N nf nb v4 z8 z10 h11) ⟨wd_2_238, wd_2_239, wd_3_0, wd_1_4, wd_3_1, cx_X0_giveBack, Nat.le_of_ble_eq_true rfl, Nat.le_of_ble_eq_true rfl⟩ 1 (ci := 0) rfl rfl rfl (SubW.full _ _) rfl hl.1 rfl (Nat.le_of_ble_eq_true rfl) dX6_makeHole_37 (Nat.zero_le _) (Nat.zero_le _) ?_
  refine s_aload_n C dX6_makeHole_40 rfl (lv_at hl 2 rfl) ?_
  refine gC_0_4 C wd_1_216 dX6_makeHole_41 ?_
  refine s_iload_n C dX6_makeHole_44 rfl (lv_at hl 3 rfl) ?_
  refine s_iconst (v := (-1 : Int32)) C dX6_makeHole_45 (by decide) ?_
  obtain ⟨hi12, hf⟩ := bI_some hf
  refine stC_30 C hi12 dX6_makeHole_46 ?_
  obtain ⟨σ13, e14, hf⟩ := lt_some hf
  refine s_w (ws2 := (wC h q nf nb σ13)) (by rw [e14]) ?_
  clear e14
  refine s_iload_n C dX6_makeHole_47 rfl (lv_at hl 1 rfl) ?_
  refine s_iconst (v := (-1 : Int32)) C dX6_makeHole_48 (by decide) ?_
  refine s_icmp_ne (tgt := 57) C dX6_makeHole_49 (by decide) (fun c15 => ?_) (fun c15 => ?_)
  · replace hf := it_f c15 hf
    refine s_iconst (v := (1 : Int32)) C dX6_makeHole_57 (by decide) ?_
    refine s_goto (tgt := 62) C dX6_makeHole_58 (by decide) ?_
    exact ret _ _ _ _ dX6_makeHole_62 rfl (rt_2 hf).1 (congrArg (fun σ => (wC h q nf nb σ)) (rt_2 hf).2)
  · replace hf := it_t c15 hf
    refine s_iload_n C dX6_makeHole_52 rfl (lv_at hl 0 rfl) ?_
    refine s_iconst (v := (-1 : Int32)) C dX6_makeHole_53 (by decide) ?_
    refine s_icmp_eq (tgt := 61) C dX6_makeHole_54 (by decide) (fun c16 => ?_) (fun c16 => ?_)
    · replace hf := it_t c16 hf
      refine s_iconst (v := (0 : Int32)) C dX6_makeHole_61 (by decide) ?_
      exact ret _ _ _ _ dX6_makeHole_62 rfl (rt_2 hf).1 (congrArg (fun σ => (wC h q nf nb σ)) (rt_2 hf).2)
    · replace hf := it_f c16 hf
      refine s_iconst (v := (1 : Int32)) C dX6_makeHole_57 (by decide) ?_
      refine s_goto (tgt := 62) C dX6_makeHole_58 (by decide) ?_
      exact ret _ _ _ _ dX6_makeHole_62 rfl (rt_2 hf).1 (congrArg (fun σ => (wC h q nf nb σ)) (rt_2 hf).2)
def pf_X6_next_L29 (N : Nat) (nf : Nat) (nb : Nat) (σ : St) : Nat → Int32 → Int32 → Int32 → Option Int32
  | 0, _, _, _ => none
  | n + 1, x1, x3, x4 => if (256 : Int32) ≤ x4 then some (-1 : Int32) else (pf_X6_spotOf N x1 x4).bind (fun z10 => (pf_X6_isMarked N nf nb z10 x3 σ).bind (fun z12 => if z12 = 0 then (pf_X6_next_L29 N nf nb σ n) x1 x3 (x4 + 1)  else some x4))
def pf_X6_next (N : Nat) (nf : Nat) (nb : Nat) (x1 : Int32) (x2 : Int32) (x3 : Int32) (σ : St) : Option Int32 := (pf_X6_isFile N x1).bind (fun z1 => if z1 = 0 then some (-2 : Int32) else (pf_X6_isPage N x2).bind (fun z4 => if z4 = 0 then some (-2 : Int32) else if x3 < 0 then some (-2 : Int32) else if x3 ≤ (4 : Int32) then pf_X6_next_L29 N nf nb σ N x1 x3 x2  else some (-2 : Int32)))
theorem cx_X6_next : (yX6_next.cls ≠ "java/lang/invoke/MethodHandle" ∧ yX6_next.cls ≠ "java/lang/invoke/VarHandle" ∧ (parseMethodDescriptor yX6_next.desc).map (fun d => d.parameters.length) = some 3) := by decide +kernel
set_option maxHeartbeats 4000000 in
set_option maxRecDepth 100000 in
theorem c_X6_next (l : Launch) (D : va_G) (q : Nat → ClassId) (h : Nat → Nat) (N : Nat) (nf : Nat) (nb : Nat) (x1 : Int32) (x2 : Int32) (x3 : Int32) (σ : St) (z : Int32) (hf : pf_X6_next N nf nb x1 x2 x3 σ = some z) : MI l yX6_next cX6_next 5 (some .int) 2 44 D (tyQ q) [.ref (h 0), .int x1, .int x2, .int x3] (wC h q nf nb σ) (wC h q nf nb σ) z := by
  refine MI.of (by decide) (Nat.le_of_ble_eq_true rfl) ?_
  intro p e s m args below meth c Q A C ret ls hl
  have hl : lv_has ls 5 [(0, .ref (h 0)), (1, .int x1), (2, .int x2), (3, .int x3)] := hl
  unfold pf_X6_next at hf
  have L29 : ∀ (n : Nat) (x1 : Int32) (x3 : Int32) (x4 : Int32), pf_X6_next_L29 N nf nb σ n x1 x3 x4 = some z → ∀ ls : Array Slot, lv_has ls 5 [(0, .ref (h 0)), (1, .int x1), (3, .int x3), (4, .int x4)] → WG p l e (rmO 2 44) s m args below meth c D A 0 0 Q (wC h q nf nb σ) (F0 m 29 ls []) := by
    intro n
    induction n with
    | zero => intro x1 x3 x4 hf; unfold pf_X6_next_L29 at hf; cases hf
    | succ n ih =>
      intro x1 x3 x4 hf ls hl
      unfold pf_X6_next_L29 at hf
      refine s_iload C dX6_next_29 (lv_at hl 3 rfl) ?_
      refine s_sipush (v := (256 : Int32)) C dX6_next_31 (by decide) ?_
      refine s_icmp_ge (tgt := 60) C dX6_next_34 (by decide) (fun c9 => ?_) (fun c9 => ?_)
      · replace hf := it_t c9 hf
        refine s_iconst (v := (-1 : Int32)) C dX6_next_60 (by decide) ?_
        exact ret _ _ _ _ dX6_next_61 rfl (rt_1 hf) rfl
      · replace hf := it_f c9 hf
        refine s_aload_n C dX6_next_37 rfl (lv_at hl 0 rfl) ?_
        refine s_iload_n C dX6_next_38 rfl (lv_at hl 1 rfl) ?_
        refine s_iload C dX6_next_39 (lv_at hl 3 rfl) ?_
        obtain ⟨z10, h11, hf⟩ := bn_some hf
        refine s_callIS (As := [.int x1, .int x4]) (rest := [.ref (h 0)]) C (c_X6_spotOf l D q (wC h q nf nb σ) N x1 x4  z10 h11) ⟨wd_2_18, wd_2_19, wd_1_1, wd_2_20, cx_X6_spotOf, Nat.le_of_ble_eq_true rfl, Nat.le_of_ble_eq_true rfl⟩ (SubW.full _ _) rfl hl.1 rfl (Nat.le_of_ble_eq_true rfl) dX6_next_41 (Nat.zero_le _) (Nat.zero_le _) ?_
        refine s_iload_n C dX6_next_44 rfl (lv_at hl 2 rfl) ?_
        obtain ⟨z12, h13, hf⟩ := bn_some hf
        refine s_callIV (As := [.int z10, .int x3]) (rest := []) C (c_X6_isMarked l D q h N nf nb z10 x3 σ z12 h13) ⟨wd_3_85, wd_3_87, wd_s_18, wd_1_1, wd_3_88, cx_X6_isMarked, Nat.le_of_ble_eq_true rfl, Nat.le_of_ble_eq_true rfl⟩ 0 (ci := 6) rfl rfl rfl (SubW.full _ _) rfl hl.1 rfl (Nat.le_of_ble_eq_true rfl) dX6_next_45 (Nat.zero_le _) (Nat.zero_le _) ?_
        refine s_if_eq (tgt := 54) C dX6_next_48 (by decide) (fun c14 => ?_) (fun c14 => ?_)
        · replace hf := it_t c14 hf
          refine s_iinc (v := (x4 + 1)) (lv2 := [(4, .int (x4 + 1)), (0, .ref (h 0)), (1, .int x1), (3, .int x3)]) C 3 dX6_next_54 hl rfl rfl (by decide) rfl ?_
          intro ls hl
          refine s_goto (tgt := 29) C dX6_next_57 (by decide) ?_
          exact ih _ _ _ hf _ (lv_sub hl [1, 2, 3, 0] rfl)
        · replace hf := it_f c14 hf
          refine s_iload C dX6_next_51 (lv_at hl 3 rfl) ?_
          exact ret _ _ _ _ dX6_next_53 rfl (rt_1 hf) rfl
  refine s_iload_n C dX6_next_0 rfl (lv_at hl 1 rfl) ?_
  obtain ⟨z1, h2, hf⟩ := bn_some hf
  refine s_callIS (As := [.int x1]) (rest := []) C (c_X6_isFile l D q (wC h q nf nb σ) N x1  z1 h2) ⟨wd_2_4, wd_2_5, wd_1_1, wd_2_6, cx_X6_isFile, Nat.le_of_ble_eq_true rfl, Nat.le_of_ble_eq_true rfl⟩ (SubW.full _ _) rfl hl.1 rfl (Nat.le_of_ble_eq_true rfl) dX6_next_1 (Nat.zero_le _) (Nat.zero_le _) ?_
  refine s_if_eq (tgt := 23) C dX6_next_4 (by decide) (fun c3 => ?_) (fun c3 => ?_)
  · replace hf := it_t c3 hf
    refine s_bipush (v := (-2 : Int32)) C dX6_next_23 (by decide) ?_
    exact ret _ _ _ _ dX6_next_25 rfl (rt_1 hf) rfl
  · replace hf := it_f c3 hf
    refine s_iload_n C dX6_next_7 rfl (lv_at hl 2 rfl) ?_
    obtain ⟨z4, h5, hf⟩ := bn_some hf
    refine s_callIS (As := [.int x2]) (rest := []) C (c_X6_isPage l D q (wC h q nf nb σ) N x2  z4 h5) ⟨wd_3_10, wd_3_11, wd_1_1, wd_3_12, cx_X6_isPage, Nat.le_of_ble_eq_true rfl, Nat.le_of_ble_eq_true rfl⟩ (SubW.full _ _) rfl hl.1 rfl (Nat.le_of_ble_eq_true rfl) dX6_next_8 (Nat.zero_le _) (Nat.zero_le _) ?_
    refine s_if_eq (tgt := 23) C dX6_next_11 (by decide) (fun c6 => ?_) (fun c6 => ?_)
    · replace hf := it_t c6 hf
      refine s_bipush (v := (-2 : Int32)) C dX6_next_23 (by decide) ?_
      exact ret _ _ _ _ dX6_next_25 rfl (rt_1 hf) rfl
    · replace hf := it_f c6 hf
      refine s_iload_n C dX6_next_14 rfl (lv_at hl 3 rfl) ?_
      refine s_if_lt (tgt := 23) C dX6_next_15 (by decide) (fun c7 => ?_) (fun c7 => ?_)
      · replace hf := it_t c7 hf
        refine s_bipush (v := (-2 : Int32)) C dX6_next_23 (by decide) ?_
        exact ret _ _ _ _ dX6_next_25 rfl (rt_1 hf) rfl
      · replace hf := it_f c7 hf
        refine s_iload_n C dX6_next_18 rfl (lv_at hl 3 rfl) ?_
        refine s_iconst (v := (4 : Int32)) C dX6_next_19 (by decide) ?_
        refine s_icmp_le (tgt := 26) C dX6_next_20 (by decide) (fun c8 => ?_) (fun c8 => ?_)
        · replace hf := it_t c8 hf
          refine s_iload_n C dX6_next_26 rfl (lv_at hl 2 rfl) ?_
          refine s_istore (lv2 := [(4, .int x2), (0, .ref (h 0)), (1, .int x1), (2, .int x2), (3, .int x3)]) C dX6_next_27 hl (by decide) rfl ?_
          intro ls hl
          exact L29 N _ _ _ hf _ (lv_sub hl [1, 2, 4, 0] rfl)
        · replace hf := it_f c8 hf
          refine s_bipush (v := (-2 : Int32)) C dX6_next_23 (by decide) ?_
          exact ret _ _ _ _ dX6_next_25 rfl (rt_1 hf) rfl
def pf_X6_page (N : Nat) (nf : Nat) (nb : Nat) (x1 : Int32) (x2 : Int32) (x3 : Int32) (σ : St) : Option Int32 := (pf_X6_isFile N x1).bind (fun z1 => if z1 = 0 then some (-2 : Int32) else (pf_X6_isPage N x2).bind (fun z4 => if z4 = 0 then some (-2 : Int32) else (pf_X6_spotOf N x1 x2).bind (fun z7 => (pf_X2_frameOf N nf nb z7 σ).bind (fun z9 => if x3 = (0 : Int32) then some z9 else if x3 = (1 : Int32) then bI z7 (3072) (some ((σ.2.1 30) (Int32.toNatClampNeg z7))) else if x3 = (2 : Int32) then if z9 = (-1 : Int32) then some (-1 : Int32) else bI z9 (nf) (some ((σ.2.1 18) (Int32.toNatClampNeg z9))) else if x3 = (3 : Int32) then (pf_X4_of N nf nb z7 σ).bind (fun z18 => some z18) else if x3 = (4 : Int32) then (pf_X2_placeOf N nf nb z9 σ).bind (fun z21 => some z21) else if x3 = (5 : Int32) then if z9 = (-1 : Int32) then some (0 : Int32) else bI z9 (nf) (if ((σ.2.1 19) (Int32.toNatClampNeg z9)) = 0 then some (0 : Int32) else some (1 : Int32)) else if x3 = (6 : Int32) then if z9 = (-1 : Int32) then some (0 : Int32) else bI z9 (nf) (if ((σ.2.1 20) (Int32.toNatClampNeg z9)) = 0 then some (0 : Int32) else some (1 : Int32)) else if x3 = (7 : Int32) then if z9 = (-1 : Int32) then some (0 : Int32) else bI z9 (nf) (if ((σ.2.1 21) (Int32.toNatClampNeg z9)) = 0 then some (0 : Int32) else some (1 : Int32)) else some (-2 : Int32)))))
theorem cx_X6_page : (yX6_page.cls ≠ "java/lang/invoke/MethodHandle" ∧ yX6_page.cls ≠ "java/lang/invoke/VarHandle" ∧ (parseMethodDescriptor yX6_page.desc).map (fun d => d.parameters.length) = some 3) := by decide +kernel
set_option maxHeartbeats 4000000 in
set_option maxRecDepth 100000 in
theorem c_X6_page (l : Launch) (D : va_G) (q : Nat → ClassId) (h : Nat → Nat) (N : Nat) (nf : Nat) (nb : Nat) (x1 : Int32) (x2 : Int32) (x3 : Int32) (σ : St) (z : Int32) (hf : pf_X6_page N nf nb x1 x2 x3 σ = some z) : MI l yX6_page cX6_page 6 (some .int) 2 43 D (tyQ q) [.ref (h 0), .int x1, .int x2, .int x3] (wC h q nf nb σ) (wC h q nf nb σ) z := by
  refine MI.of (by decide) (Nat.le_of_ble_eq_true rfl) ?_
  intro p e s m args below meth c Q A C ret ls hl
  have hl : lv_has ls 6 [(0, .ref (h 0)), (1, .int x1), (2, .int x2), (3, .int x3)] := hl
  unfold pf_X6_page at hf
  refine s_iload_n C dX6_page_0 rfl (lv_at hl 1 rfl) ?_
  obtain ⟨z1, h2, hf⟩ := bn_some hf
  refine s_callIS (As := [.int x1]) (rest := []) C (c_X6_isFile l D q (wC h q nf nb σ) N x1  z1 h2) ⟨wd_2_4, wd_2_5, wd_1_1, wd_2_6, cx_X6_isFile, Nat.le_of_ble_eq_true rfl, Nat.le_of_ble_eq_true rfl⟩ (SubW.full _ _) rfl hl.1 rfl (Nat.le_of_ble_eq_true rfl) dX6_page_1 (Nat.zero_le _) (Nat.zero_le _) ?_
  refine s_if_eq (tgt := 14) C dX6_page_4 (by decide) (fun c3 => ?_) (fun c3 => ?_)
  · replace hf := it_t c3 hf
    refine s_bipush (v := (-2 : Int32)) C dX6_page_14 (by decide) ?_
    exact ret _ _ _ _ dX6_page_16 rfl (rt_1 hf) rfl
  · replace hf := it_f c3 hf
    refine s_iload_n C dX6_page_7 rfl (lv_at hl 2 rfl) ?_
    obtain ⟨z4, h5, hf⟩ := bn_some hf
    refine s_callIS (As := [.int x2]) (rest := []) C (c_X6_isPage l D q (wC h q nf nb σ) N x2  z4 h5) ⟨wd_3_10, wd_3_11, wd_1_1, wd_3_12, cx_X6_isPage, Nat.le_of_ble_eq_true rfl, Nat.le_of_ble_eq_true rfl⟩ (SubW.full _ _) rfl hl.1 rfl (Nat.le_of_ble_eq_true rfl) dX6_page_8 (Nat.zero_le _) (Nat.zero_le _) ?_
    refine s_if_ne (tgt := 17) C dX6_page_11 (by decide) (fun c6 => ?_) (fun c6 => ?_)
    · replace hf := it_f c6 hf
      refine s_iload_n C dX6_page_17 rfl (lv_at hl 1 rfl) ?_
      refine s_iload_n C dX6_page_18 rfl (lv_at hl 2 rfl) ?_
      obtain ⟨z7, h8, hf⟩ := bn_some hf
      refine s_callIS (As := [.int x1, .int x2]) (rest := []) C (c_X6_spotOf l D q (wC h q nf nb σ) N x1 x2  z7 h8) ⟨wd_2_18, wd_2_19, wd_1_1, wd_2_20, cx_X6_spotOf, Nat.le_of_ble_eq_true rfl, Nat.le_of_ble_eq_true rfl⟩ (SubW.full _ _) rfl hl.1 rfl (Nat.le_of_ble_eq_true rfl) dX6_page_19 (Nat.zero_le _) (Nat.zero_le _) ?_
      refine s_istore (lv2 := [(4, .int z7), (0, .ref (h 0)), (1, .int x1), (2, .int x2), (3, .int x3)]) C dX6_page_22 hl (by decide) rfl ?_
      intro ls hl
      refine s_aload_n C dX6_page_24 rfl (lv_at hl 1 rfl) ?_
      refine gC_0_2 C wd_1_214 dX6_page_25 ?_
      refine s_iload C dX6_page_28 (lv_at hl 0 rfl) ?_
      obtain ⟨z9, h10, hf⟩ := bn_some hf
      refine s_callIV (As := [.int z7]) (rest := []) C (c_X2_frameOf l D q h N nf nb z7 σ z9 h10) ⟨wd_2_21, wd_2_22, wd_2_23, wd_1_7, wd_2_24, cx_X2_frameOf, Nat.le_of_ble_eq_true rfl, Nat.le_of_ble_eq_true rfl⟩ 14 (ci := 2) rfl rfl rfl (SubW.full _ _) rfl hl.1 rfl (Nat.le_of_ble_eq_true rfl) dX6_page_30 (Nat.zero_le _) (Nat.zero_le _) ?_
      refine s_istore (lv2 := [(5, .int z9), (4, .int z7), (0, .ref (h 0)), (1, .int x1), (2, .int x2), (3, .int x3)]) C dX6_page_33 hl (by decide) rfl ?_
      intro ls hl
      refine s_iload_n C dX6_page_35 rfl (lv_at hl 5 rfl) ?_
      by_cases c11 : x3 = (0 : Int32)
      · replace hf := it_t c11 hf
        refine s_tblI (tgt := 84) C dX6_page_36 c11 (by decide) (by decide) rfl (by decide) ?_
        refine s_iload C dX6_page_84 (lv_at hl 0 rfl) ?_
        exact ret _ _ _ _ dX6_page_86 rfl (rt_1 hf) rfl
      · replace hf := it_f c11 hf
        by_cases c12 : x3 = (1 : Int32)
        · replace hf := it_t c12 hf
          refine s_tblI (tgt := 87) C dX6_page_36 c12 (by decide) (by decide) rfl (by decide) ?_
          refine s_aload_n C dX6_page_87 rfl (lv_at hl 2 rfl) ?_
          refine gC_0_4 C wd_1_216 dX6_page_88 ?_
          refine s_iload C dX6_page_91 (lv_at hl 1 rfl) ?_
          obtain ⟨hi13, hf⟩ := bI_some hf
          refine ldC_30 C hi13 dX6_page_93 ?_
          exact ret _ _ _ _ dX6_page_94 rfl (rt_1 hf) rfl
        · replace hf := it_f c12 hf
          by_cases c14 : x3 = (2 : Int32)
          · replace hf := it_t c14 hf
            refine s_tblI (tgt := 95) C dX6_page_36 c14 (by decide) (by decide) rfl (by decide) ?_
            refine s_iload C dX6_page_95 (lv_at hl 0 rfl) ?_
            refine s_iconst (v := (-1 : Int32)) C dX6_page_97 (by decide) ?_
            refine s_icmp_ne (tgt := 105) C dX6_page_98 (by decide) (fun c15 => ?_) (fun c15 => ?_)
            · replace hf := it_f c15 hf
              refine s_aload_n C dX6_page_105 rfl (lv_at hl 2 rfl) ?_
              refine gC_0_2 C wd_1_214 dX6_page_106 ?_
              refine gnC_14_3 C nl_18 dX6_page_109 ?_
              refine s_iload C dX6_page_112 (lv_at hl 0 rfl) ?_
              obtain ⟨hi16, hf⟩ := bI_some hf
              refine ldC_18 C hi16 dX6_page_114 ?_
              exact ret _ _ _ _ dX6_page_115 rfl (rt_1 hf) rfl
            · replace hf := it_t c15 hf
              refine s_iconst (v := (-1 : Int32)) C dX6_page_101 (by decide) ?_
              refine s_goto (tgt := 115) C dX6_page_102 (by decide) ?_
              exact ret _ _ _ _ dX6_page_115 rfl (rt_1 hf) rfl
          · replace hf := it_f c14 hf
            by_cases c17 : x3 = (3 : Int32)
            · replace hf := it_t c17 hf
              refine s_tblI (tgt := 116) C dX6_page_36 c17 (by decide) (by decide) rfl (by decide) ?_
              refine s_aload_n C dX6_page_116 rfl (lv_at hl 2 rfl) ?_
              refine gC_0_3 C wd_1_215 dX6_page_117 ?_
              refine s_iload C dX6_page_120 (lv_at hl 1 rfl) ?_
              obtain ⟨z18, h19, hf⟩ := bn_some hf
              refine s_callIV (As := [.int z7]) (rest := []) C (c_X4_of l D q h N nf nb z7 σ z18 h19) ⟨wd_3_75, wd_2_153, wd_2_154, wd_1_9, wd_2_155, cx_X4_of, Nat.le_of_ble_eq_true rfl, Nat.le_of_ble_eq_true rfl⟩ 27 (ci := 4) rfl rfl rfl (SubW.full _ _) rfl hl.1 rfl (Nat.le_of_ble_eq_true rfl) dX6_page_122 (Nat.zero_le _) (Nat.zero_le _) ?_
              exact ret _ _ _ _ dX6_page_125 rfl (rt_1 hf) rfl
            · replace hf := it_f c17 hf
              by_cases c20 : x3 = (4 : Int32)
              · replace hf := it_t c20 hf
                refine s_tblI (tgt := 126) C dX6_page_36 c20 (by decide) (by decide) rfl (by decide) ?_
                refine s_aload_n C dX6_page_126 rfl (lv_at hl 2 rfl) ?_
                refine gC_0_2 C wd_1_214 dX6_page_127 ?_
                refine s_iload C dX6_page_130 (lv_at hl 0 rfl) ?_
                obtain ⟨z21, h22, hf⟩ := bn_some hf
                refine s_callIV (As := [.int z9]) (rest := []) C (c_X2_placeOf l D q h N nf nb z9 σ z21 h22) ⟨wd_3_76, wd_3_77, wd_3_78, wd_1_7, wd_3_79, cx_X2_placeOf, Nat.le_of_ble_eq_true rfl, Nat.le_of_ble_eq_true rfl⟩ 14 (ci := 2) rfl rfl rfl (SubW.full _ _) rfl hl.1 rfl (Nat.le_of_ble_eq_true rfl) dX6_page_132 (Nat.zero_le _) (Nat.zero_le _) ?_
                exact ret _ _ _ _ dX6_page_135 rfl (rt_1 hf) rfl
              · replace hf := it_f c20 hf
                by_cases c23 : x3 = (5 : Int32)
                · replace hf := it_t c23 hf
                  refine s_tblI (tgt := 136) C dX6_page_36 c23 (by decide) (by decide) rfl (by decide) ?_
                  refine s_iload C dX6_page_136 (lv_at hl 0 rfl) ?_
                  refine s_iconst (v := (-1 : Int32)) C dX6_page_138 (by decide) ?_
                  refine s_icmp_eq (tgt := 159) C dX6_page_139 (by decide) (fun c24 => ?_) (fun c24 => ?_)
                  · replace hf := it_t c24 hf
                    refine s_iconst (v := (0 : Int32)) C dX6_page_159 (by decide) ?_
                    exact ret _ _ _ _ dX6_page_160 rfl (rt_1 hf) rfl
                  · replace hf := it_f c24 hf
                    refine s_aload_n C dX6_page_142 rfl (lv_at hl 2 rfl) ?_
                    refine gC_0_2 C wd_1_214 dX6_page_143 ?_
                    refine gnC_14_4 C nl_19 dX6_page_146 ?_
                    refine s_iload C dX6_page_149 (lv_at hl 0 rfl) ?_
                    obtain ⟨hi25, hf⟩ := bI_some hf
                    refine ldC_19 C hi25 dX6_page_151 ?_
                    refine s_if_eq (tgt := 159) C dX6_page_152 (by decide) (fun c26 => ?_) (fun c26 => ?_)
                    · replace hf := it_t c26 hf
                      refine s_iconst (v := (0 : Int32)) C dX6_page_159 (by decide) ?_
                      exact ret _ _ _ _ dX6_page_160 rfl (rt_1 hf) rfl
                    · replace hf := it_f c26 hf
                      refine s_iconst (v := (1 : Int32)) C dX6_page_155 (by decide) ?_
                      refine s_goto (tgt := 160) C dX6_page_156 (by decide) ?_
                      exact ret _ _ _ _ dX6_page_160 rfl (rt_1 hf) rfl
                · replace hf := it_f c23 hf
                  by_cases c27 : x3 = (6 : Int32)
                  · replace hf := it_t c27 hf
                    refine s_tblI (tgt := 161) C dX6_page_36 c27 (by decide) (by decide) rfl (by decide) ?_
                    refine s_iload C dX6_page_161 (lv_at hl 0 rfl) ?_
                    refine s_iconst (v := (-1 : Int32)) C dX6_page_163 (by decide) ?_
                    refine s_icmp_eq (tgt := 184) C dX6_page_164 (by decide) (fun c28 => ?_) (fun c28 => ?_)
                    · replace hf := it_t c28 hf
                      refine s_iconst (v := (0 : Int32)) C dX6_page_184 (by decide) ?_
                      exact ret _ _ _ _ dX6_page_185 rfl (rt_1 hf) rfl
                    · replace hf := it_f c28 hf
                      refine s_aload_n C dX6_page_167 rfl (lv_at hl 2 rfl) ?_
                      refine gC_0_2 C wd_1_214 dX6_page_168 ?_
                      refine gnC_14_5 C nl_20 dX6_page_171 ?_
                      refine s_iload C dX6_page_174 (lv_at hl 0 rfl) ?_
                      obtain ⟨hi29, hf⟩ := bI_some hf
                      refine ldC_20 C hi29 dX6_page_176 ?_
                      refine s_if_eq (tgt := 184) C dX6_page_177 (by decide) (fun c30 => ?_) (fun c30 => ?_)
                      · replace hf := it_t c30 hf
                        refine s_iconst (v := (0 : Int32)) C dX6_page_184 (by decide) ?_
                        exact ret _ _ _ _ dX6_page_185 rfl (rt_1 hf) rfl
                      · replace hf := it_f c30 hf
                        refine s_iconst (v := (1 : Int32)) C dX6_page_180 (by decide) ?_
                        refine s_goto (tgt := 185) C dX6_page_181 (by decide) ?_
                        exact ret _ _ _ _ dX6_page_185 rfl (rt_1 hf) rfl
                  · replace hf := it_f c27 hf
                    by_cases c31 : x3 = (7 : Int32)
                    · replace hf := it_t c31 hf
                      refine s_tblI (tgt := 186) C dX6_page_36 c31 (by decide) (by decide) rfl (by decide) ?_
                      refine s_iload C dX6_page_186 (lv_at hl 0 rfl) ?_
                      refine s_iconst (v := (-1 : Int32)) C dX6_page_188 (by decide) ?_
                      refine s_icmp_eq (tgt := 209) C dX6_page_189 (by decide) (fun c32 => ?_) (fun c32 => ?_)
                      · replace hf := it_t c32 hf
                        refine s_iconst (v := (0 : Int32)) C dX6_page_209 (by decide) ?_
                        exact ret _ _ _ _ dX6_page_210 rfl (rt_1 hf) rfl
                      · replace hf := it_f c32 hf
                        refine s_aload_n C dX6_page_192 rfl (lv_at hl 2 rfl) ?_
                        refine gC_0_2 C wd_1_214 dX6_page_193 ?_
                        refine gnC_14_6 C nl_21 dX6_page_196 ?_
                        refine s_iload C dX6_page_199 (lv_at hl 0 rfl) ?_
                        obtain ⟨hi33, hf⟩ := bI_some hf
                        refine ldC_21 C hi33 dX6_page_201 ?_
                        refine s_if_eq (tgt := 209) C dX6_page_202 (by decide) (fun c34 => ?_) (fun c34 => ?_)
                        · replace hf := it_t c34 hf
                          refine s_iconst (v := (0 : Int32)) C dX6_page_209 (by decide) ?_
                          exact ret _ _ _ _ dX6_page_210 rfl (rt_1 hf) rfl
                        · replace hf := it_f c34 hf
                          refine s_iconst (v := (1 : Int32)) C dX6_page_205 (by decide) ?_
                          refine s_goto (tgt := 210) C dX6_page_206 (by decide) ?_
                          exact ret _ _ _ _ dX6_page_210 rfl (rt_1 hf) rfl
                    · replace hf := it_f c31 hf
                      refine s_tblO (tgt := 211) C dX6_page_36 (tb_out (n := 7) (by decide) (fun k hk => ?_)) (by decide) ?_
                      · rcases (show k = 0 ∨ k = 1 ∨ k = 2 ∨ k = 3 ∨ k = 4 ∨ k = 5 ∨ k = 6 ∨ k = 7 by omega) with rfl | rfl | rfl | rfl | rfl | rfl | rfl | rfl
                        · exact c11
                        · exact c12
                        · exact c14
                        · exact c17
                        · exact c20
                        · exact c23
                        · exact c27
                        · exact c31
                      refine s_bipush (v := (-2 : Int32)) C dX6_page_211 (by decide) ?_
                      exact ret _ _ _ _ dX6_page_213 rfl (rt_1 hf) rfl
    · replace hf := it_t c6 hf
      refine s_bipush (v := (-2 : Int32)) C dX6_page_14 (by decide) ?_
      exact ret _ _ _ _ dX6_page_16 rfl (rt_1 hf) rfl
def pf_X6_pin_b106 (N : Nat) (nf : Nat) (nb : Nat) (x1 : Int32) (x2 : Int32) (x4 : Int32) (x6 : Int32) (y0 : Int32) (σ : St) : Option (Int32 × St) := if y0 = 0 then bI x1 (12) ((pf_X6_pagesIn N ((σ.2.1 10) (Int32.toNatClampNeg x1))).bind (fun z16 => if x2 < z16 then (pf_X0_begin N nf nb σ).bind (fun z19 => (pf_X6_touch N nf nb x4 z19).bind (fun z21 => (pf_X2_setPinned N nf nb z21.1 (1 : Int32) z21.2).bind (fun z23 => bZ x6 (some (x6, z23))))) else some ((0 : Int32), σ))) else some ((0 : Int32), σ)
def pf_X6_pin_b105 (N : Nat) (nf : Nat) (nb : Nat) (x1 : Int32) (x2 : Int32) (x4 : Int32) (x6 : Int32) (σ : St) : Option (Int32 × St) := pf_X6_pin_b106 N nf nb x1 x2 x4 x6 (0 : Int32) σ
def pf_X6_pin_b58 (N : Nat) (nf : Nat) (nb : Nat) (x1 : Int32) (x2 : Int32) (x3 : Int32) (x4 : Int32) (x5 : Int32) (y0 : Int32) (σ : St) : Option (Int32 × St) := if x3 = 0 then (pf_X2_setPinned N nf nb x5 (0 : Int32) σ).bind (fun z27 => bZ y0 (some (y0, z27))) else if y0 = 0 then if (σ.1 9) < ((σ.1 5) / (2 : Int32)) then pf_X6_pin_b105 N nf nb x1 x2 x4 y0 σ else pf_X6_pin_b106 N nf nb x1 x2 x4 y0 (1 : Int32) σ else pf_X6_pin_b105 N nf nb x1 x2 x4 y0 σ
def pf_X6_pin_b57 (N : Nat) (nf : Nat) (nb : Nat) (x1 : Int32) (x2 : Int32) (x3 : Int32) (x4 : Int32) (x5 : Int32) (σ : St) : Option (Int32 × St) := pf_X6_pin_b58 N nf nb x1 x2 x3 x4 x5 (0 : Int32) σ
def pf_X6_pin (N : Nat) (nf : Nat) (nb : Nat) (x1 : Int32) (x2 : Int32) (x3 : Int32) (σ : St) : Option (Int32 × St) := (pf_X6_isFile N x1).bind (fun z1 => if z1 = 0 then some ((0 : Int32), σ) else (pf_X6_isPage N x2).bind (fun z4 => if z4 = 0 then some ((0 : Int32), σ) else (pf_X6_spotOf N x1 x2).bind (fun z7 => (pf_X2_frameOf N nf nb z7 σ).bind (fun z9 => if z9 = (-1 : Int32) then pf_X6_pin_b57 N nf nb x1 x2 x3 z7 z9 σ else bI z9 (nf) (if ((σ.2.1 20) (Int32.toNatClampNeg z9)) = 0 then pf_X6_pin_b57 N nf nb x1 x2 x3 z7 z9 σ else pf_X6_pin_b58 N nf nb x1 x2 x3 z7 z9 (1 : Int32) σ)))))
theorem cx_X6_pin : (yX6_pin.cls ≠ "java/lang/invoke/MethodHandle" ∧ yX6_pin.cls ≠ "java/lang/invoke/VarHandle" ∧ (parseMethodDescriptor yX6_pin.desc).map (fun d => d.parameters.length) = some 3) := by decide +kernel
set_option maxHeartbeats 4000000 in
set_option maxRecDepth 100000 in
theorem c_X6_pin (l : Launch) (D : va_G) (q : Nat → ClassId) (h : Nat → Nat) (N : Nat) (nf : Nat) (nb : Nat) (x1 : Int32) (x2 : Int32) (x3 : Int32) (σ : St) (z : (Int32 × St)) (hf : pf_X6_pin N nf nb x1 x2 x3 σ = some z) : MI l yX6_pin cX6_pin 8 (some .boolean) 6 142 D (tyQ q) [.ref (h 0), .int x1, .int x2, .int x3] (wC h q nf nb σ) (wC h q nf nb z.2) z.1 := by
  refine MI.of (by decide) (Nat.le_of_ble_eq_true rfl) ?_
  intro p e s m args below meth c Q A C ret ls hl
  have hl : lv_has ls 8 [(0, .ref (h 0)), (1, .int x1), (2, .int x2), (3, .int x3)] := hl
  unfold pf_X6_pin at hf
  have b106 : ∀ (x1 : Int32) (x2 : Int32) (x4 : Int32) (x6 : Int32) (y0 : Int32) (σ : St), pf_X6_pin_b106 N nf nb x1 x2 x4 x6 y0 σ = some z → ∀ ls : Array Slot, lv_has ls 8 [(0, .ref (h 0)), (1, .int x1), (2, .int x2), (4, .int x4), (6, .int x6)] → WG p l e (rmO 6 142) s m args below meth c D A 0 0 Q (wC h q nf nb σ) (F0 m 106 ls [.int y0]) := by
    intro x1 x2 x4 x6 y0 σ hf ls hl
    unfold pf_X6_pin_b106 at hf
    refine s_istore (lv2 := [(7, .int y0), (0, .ref (h 0)), (1, .int x1), (2, .int x2), (4, .int x4), (6, .int x6)]) C dX6_pin_106 hl (by decide) rfl ?_
    intro ls hl
    refine s_iload C dX6_pin_108 (lv_at hl 0 rfl) ?_
    refine s_if_ne (tgt := 129) C dX6_pin_110 (by decide) (fun c14 => ?_) (fun c14 => ?_)
    · replace hf := it_f c14 hf
      refine s_iconst (v := (0 : Int32)) C dX6_pin_129 (by decide) ?_
      exact ret _ _ _ _ dX6_pin_130 rfl (rt_2 hf).1 (congrArg (fun σ => (wC h q nf nb σ)) (rt_2 hf).2)
    · replace hf := it_t c14 hf
      refine s_iload_n C dX6_pin_113 rfl (lv_at hl 3 rfl) ?_
      refine s_aload_n C dX6_pin_114 rfl (lv_at hl 1 rfl) ?_
      refine gC_0_1 C wd_1_213 dX6_pin_115 ?_
      refine gnC_9_0 C nl_9 dX6_pin_118 ?_
      refine s_iload_n C dX6_pin_121 rfl (lv_at hl 2 rfl) ?_
      obtain ⟨hi15, hf⟩ := bI_some hf
      refine ldC_10 C hi15 dX6_pin_122 ?_
      obtain ⟨z16, h17, hf⟩ := bn_some hf
      refine s_callIS (As := [.int ((σ.2.1 10) (Int32.toNatClampNeg x1))]) (rest := [.int x2]) C (c_X6_pagesIn l D q (wC h q nf nb σ) N ((σ.2.1 10) (Int32.toNatClampNeg x1))  z16 h17) ⟨wd_2_188, wd_2_189, wd_1_1, wd_2_190, cx_X6_pagesIn, Nat.le_of_ble_eq_true rfl, Nat.le_of_ble_eq_true rfl⟩ (SubW.full _ _) rfl hl.1 rfl (Nat.le_of_ble_eq_true rfl) dX6_pin_123 (Nat.zero_le _) (Nat.zero_le _) ?_
      refine s_icmp_lt (tgt := 131) C dX6_pin_126 (by decide) (fun c18 => ?_) (fun c18 => ?_)
      · replace hf := it_t c18 hf
        refine s_aload_n C dX6_pin_131 rfl (lv_at hl 1 rfl) ?_
        refine gC_0_0 C wd_1_212 dX6_pin_132 ?_
        obtain ⟨z19, h20, hf⟩ := bn_some hf
        refine s_callVV (As := []) (rest := []) C (c_X0_begin l D q h N nf nb σ z19 h20) ⟨wd_2_7, wd_2_8, wd_2_9, wd_1_4, wd_2_10, cx_X0_begin, Nat.le_of_ble_eq_true rfl, Nat.le_of_ble_eq_true rfl⟩ 1 (ci := 0) rfl rfl rfl (SubW.full _ _) rfl hl.1 rfl (Nat.le_of_ble_eq_true rfl) dX6_pin_135 (Nat.zero_le _) (Nat.zero_le _) ?_
        refine s_aload_n C dX6_pin_138 rfl (lv_at hl 1 rfl) ?_
        refine gC_0_2 C wd_1_214 dX6_pin_139 ?_
        refine s_aload_n C dX6_pin_142 rfl (lv_at hl 1 rfl) ?_
        refine s_iload C dX6_pin_143 (lv_at hl 4 rfl) ?_
        obtain ⟨z21, h22, hf⟩ := bn_some hf
        refine s_callIV (As := [.int x4]) (rest := [.ref (h 14)]) C (c_X6_touch l D q h N nf nb x4 z19 z21 h22) ⟨wd_2_25, wd_2_27, wd_s_1, wd_1_1, wd_2_28, cx_X6_touch, Nat.le_of_ble_eq_true rfl, Nat.le_of_ble_eq_true rfl⟩ 0 (ci := 6) rfl rfl rfl (SubW.full _ _) rfl hl.1 rfl (Nat.le_of_ble_eq_true rfl) dX6_pin_145 (Nat.zero_le _) (Nat.zero_le _) ?_
        refine s_iconst (v := (1 : Int32)) C dX6_pin_148 (by decide) ?_
        obtain ⟨z23, h24, hf⟩ := bn_some hf
        refine s_callVV (As := [.int z21.1, .int (1 : Int32)]) (rest := []) C (c_X2_setPinned l D q h N nf nb z21.1 (1 : Int32) z21.2 z23 h24) ⟨wd_3_66, wd_2_141, wd_2_142, wd_1_7, wd_2_143, cx_X2_setPinned, Nat.le_of_ble_eq_true rfl, Nat.le_of_ble_eq_true rfl⟩ 14 (ci := 2) rfl rfl rfl (SubW.full _ _) rfl hl.1 rfl (Nat.le_of_ble_eq_true rfl) dX6_pin_149 (Nat.zero_le _) (Nat.zero_le _) ?_
        refine s_iload C dX6_pin_152 (lv_at hl 5 rfl) ?_
        obtain ⟨hz25, hf⟩ := bZ_some hf
        exact ret _ _ _ _ dX6_pin_154 hz25 (rt_2 hf).1 (congrArg (fun σ => (wC h q nf nb σ)) (rt_2 hf).2)
      · replace hf := it_f c18 hf
        refine s_iconst (v := (0 : Int32)) C dX6_pin_129 (by decide) ?_
        exact ret _ _ _ _ dX6_pin_130 rfl (rt_2 hf).1 (congrArg (fun σ => (wC h q nf nb σ)) (rt_2 hf).2)
  have b105 : ∀ (x1 : Int32) (x2 : Int32) (x4 : Int32) (x6 : Int32) (σ : St), pf_X6_pin_b105 N nf nb x1 x2 x4 x6 σ = some z → ∀ ls : Array Slot, lv_has ls 8 [(0, .ref (h 0)), (1, .int x1), (2, .int x2), (4, .int x4), (6, .int x6)] → WG p l e (rmO 6 142) s m args below meth c D A 0 0 Q (wC h q nf nb σ) (F0 m 105 ls []) := by
    intro x1 x2 x4 x6 σ hf ls hl
    unfold pf_X6_pin_b105 at hf
    refine s_iconst (v := (0 : Int32)) C dX6_pin_105 (by decide) ?_
    exact b106 _ _ _ _ _ _ hf _ (lv_sub hl [0, 1, 2, 3, 4] rfl)
  have b58 : ∀ (x1 : Int32) (x2 : Int32) (x3 : Int32) (x4 : Int32) (x5 : Int32) (y0 : Int32) (σ : St), pf_X6_pin_b58 N nf nb x1 x2 x3 x4 x5 y0 σ = some z → ∀ ls : Array Slot, lv_has ls 8 [(0, .ref (h 0)), (1, .int x1), (2, .int x2), (3, .int x3), (4, .int x4), (5, .int x5)] → WG p l e (rmO 6 142) s m args below meth c D A 0 0 Q (wC h q nf nb σ) (F0 m 58 ls [.int y0]) := by
    intro x1 x2 x3 x4 x5 y0 σ hf ls hl
    unfold pf_X6_pin_b58 at hf
    refine s_istore (lv2 := [(6, .int y0), (0, .ref (h 0)), (1, .int x1), (2, .int x2), (3, .int x3), (4, .int x4), (5, .int x5)]) C dX6_pin_58 hl (by decide) rfl ?_
    intro ls hl
    refine s_iload_n C dX6_pin_60 rfl (lv_at hl 4 rfl) ?_
    refine s_if_ne (tgt := 77) C dX6_pin_61 (by decide) (fun c12 => ?_) (fun c12 => ?_)
    · replace hf := it_f c12 hf
      refine s_iload C dX6_pin_77 (lv_at hl 0 rfl) ?_
      refine s_if_ne (tgt := 105) C dX6_pin_79 (by decide) (fun c13 => ?_) (fun c13 => ?_)
      · replace hf := it_f c13 hf
        exact b105 _ _ _ _ _ hf _ (lv_sub hl [1, 2, 3, 5, 0] rfl)
      · replace hf := it_t c13 hf
        refine s_aload_n C dX6_pin_82 rfl (lv_at hl 1 rfl) ?_
        refine gC_0_2 C wd_1_214 dX6_pin_83 ?_
        refine gnC_14_11 C nl_25 dX6_pin_86 ?_
        refine s_aload_n C dX6_pin_89 rfl (lv_at hl 1 rfl) ?_
        refine gC_0_2 C wd_1_214 dX6_pin_90 ?_
        refine gnC_14_0 C nl_15 dX6_pin_93 ?_
        refine s_iconst (v := (2 : Int32)) C dX6_pin_96 (by decide) ?_
        refine s_idiv C dX6_pin_97 (by decide) ?_
        refine s_icmp_lt (tgt := 105) C dX6_pin_98 (by decide) (fun c26 => ?_) (fun c26 => ?_)
        · replace hf := it_t c26 hf
          exact b105 _ _ _ _ _ hf _ (lv_sub hl [1, 2, 3, 5, 0] rfl)
        · replace hf := it_f c26 hf
          refine s_iconst (v := (1 : Int32)) C dX6_pin_101 (by decide) ?_
          refine s_goto (tgt := 106) C dX6_pin_102 (by decide) ?_
          exact b106 _ _ _ _ _ _ hf _ (lv_sub hl [1, 2, 3, 5, 0] rfl)
    · replace hf := it_t c12 hf
      refine s_aload_n C dX6_pin_64 rfl (lv_at hl 1 rfl) ?_
      refine gC_0_2 C wd_1_214 dX6_pin_65 ?_
      refine s_iload C dX6_pin_68 (lv_at hl 6 rfl) ?_
      refine s_iconst (v := (0 : Int32)) C dX6_pin_70 (by decide) ?_
      obtain ⟨z27, h28, hf⟩ := bn_some hf
      refine s_callVV (As := [.int x5, .int (0 : Int32)]) (rest := []) C (c_X2_setPinned l D q h N nf nb x5 (0 : Int32) σ z27 h28) ⟨wd_3_66, wd_2_141, wd_2_142, wd_1_7, wd_2_143, cx_X2_setPinned, Nat.le_of_ble_eq_true rfl, Nat.le_of_ble_eq_true rfl⟩ 14 (ci := 2) rfl rfl rfl (SubW.full _ _) rfl hl.1 rfl (Nat.le_of_ble_eq_true rfl) dX6_pin_71 (Nat.zero_le _) (Nat.zero_le _) ?_
      refine s_iload C dX6_pin_74 (lv_at hl 0 rfl) ?_
      obtain ⟨hz29, hf⟩ := bZ_some hf
      exact ret _ _ _ _ dX6_pin_76 hz29 (rt_2 hf).1 (congrArg (fun σ => (wC h q nf nb σ)) (rt_2 hf).2)
  have b57 : ∀ (x1 : Int32) (x2 : Int32) (x3 : Int32) (x4 : Int32) (x5 : Int32) (σ : St), pf_X6_pin_b57 N nf nb x1 x2 x3 x4 x5 σ = some z → ∀ ls : Array Slot, lv_has ls 8 [(0, .ref (h 0)), (1, .int x1), (2, .int x2), (3, .int x3), (4, .int x4), (5, .int x5)] → WG p l e (rmO 6 142) s m args below meth c D A 0 0 Q (wC h q nf nb σ) (F0 m 57 ls []) := by
    intro x1 x2 x3 x4 x5 σ hf ls hl
    unfold pf_X6_pin_b57 at hf
    refine s_iconst (v := (0 : Int32)) C dX6_pin_57 (by decide) ?_
    exact b58 _ _ _ _ _ _ _ hf _ (lv_sub hl [0, 1, 2, 3, 4, 5] rfl)
  refine s_iload_n C dX6_pin_0 rfl (lv_at hl 1 rfl) ?_
  obtain ⟨z1, h2, hf⟩ := bn_some hf
  refine s_callIS (As := [.int x1]) (rest := []) C (c_X6_isFile l D q (wC h q nf nb σ) N x1  z1 h2) ⟨wd_2_4, wd_2_5, wd_1_1, wd_2_6, cx_X6_isFile, Nat.le_of_ble_eq_true rfl, Nat.le_of_ble_eq_true rfl⟩ (SubW.full _ _) rfl hl.1 rfl (Nat.le_of_ble_eq_true rfl) dX6_pin_1 (Nat.zero_le _) (Nat.zero_le _) ?_
  refine s_if_eq (tgt := 14) C dX6_pin_4 (by decide) (fun c3 => ?_) (fun c3 => ?_)
  · replace hf := it_t c3 hf
    refine s_iconst (v := (0 : Int32)) C dX6_pin_14 (by decide) ?_
    exact ret _ _ _ _ dX6_pin_15 rfl (rt_2 hf).1 (congrArg (fun σ => (wC h q nf nb σ)) (rt_2 hf).2)
  · replace hf := it_f c3 hf
    refine s_iload_n C dX6_pin_7 rfl (lv_at hl 2 rfl) ?_
    obtain ⟨z4, h5, hf⟩ := bn_some hf
    refine s_callIS (As := [.int x2]) (rest := []) C (c_X6_isPage l D q (wC h q nf nb σ) N x2  z4 h5) ⟨wd_3_10, wd_3_11, wd_1_1, wd_3_12, cx_X6_isPage, Nat.le_of_ble_eq_true rfl, Nat.le_of_ble_eq_true rfl⟩ (SubW.full _ _) rfl hl.1 rfl (Nat.le_of_ble_eq_true rfl) dX6_pin_8 (Nat.zero_le _) (Nat.zero_le _) ?_
    refine s_if_ne (tgt := 16) C dX6_pin_11 (by decide) (fun c6 => ?_) (fun c6 => ?_)
    · replace hf := it_f c6 hf
      refine s_iload_n C dX6_pin_16 rfl (lv_at hl 1 rfl) ?_
      refine s_iload_n C dX6_pin_17 rfl (lv_at hl 2 rfl) ?_
      obtain ⟨z7, h8, hf⟩ := bn_some hf
      refine s_callIS (As := [.int x1, .int x2]) (rest := []) C (c_X6_spotOf l D q (wC h q nf nb σ) N x1 x2  z7 h8) ⟨wd_2_18, wd_2_19, wd_1_1, wd_2_20, cx_X6_spotOf, Nat.le_of_ble_eq_true rfl, Nat.le_of_ble_eq_true rfl⟩ (SubW.full _ _) rfl hl.1 rfl (Nat.le_of_ble_eq_true rfl) dX6_pin_18 (Nat.zero_le _) (Nat.zero_le _) ?_
      refine s_istore (lv2 := [(4, .int z7), (0, .ref (h 0)), (1, .int x1), (2, .int x2), (3, .int x3)]) C dX6_pin_21 hl (by decide) rfl ?_
      intro ls hl
      refine s_aload_n C dX6_pin_23 rfl (lv_at hl 1 rfl) ?_
      refine gC_0_2 C wd_1_214 dX6_pin_24 ?_
      refine s_iload C dX6_pin_27 (lv_at hl 0 rfl) ?_
      obtain ⟨z9, h10, hf⟩ := bn_some hf
      refine s_callIV (As := [.int z7]) (rest := []) C (c_X2_frameOf l D q h N nf nb z7 σ z9 h10) ⟨wd_2_21, wd_2_22, wd_2_23, wd_1_7, wd_2_24, cx_X2_frameOf, Nat.le_of_ble_eq_true rfl, Nat.le_of_ble_eq_true rfl⟩ 14 (ci := 2) rfl rfl rfl (SubW.full _ _) rfl hl.1 rfl (Nat.le_of_ble_eq_true rfl) dX6_pin_29 (Nat.zero_le _) (Nat.zero_le _) ?_
      refine s_istore (lv2 := [(5, .int z9), (4, .int z7), (0, .ref (h 0)), (1, .int x1), (2, .int x2), (3, .int x3)]) C dX6_pin_32 hl (by decide) rfl ?_
      intro ls hl
      refine s_iload C dX6_pin_34 (lv_at hl 0 rfl) ?_
      refine s_iconst (v := (-1 : Int32)) C dX6_pin_36 (by decide) ?_
      refine s_icmp_eq (tgt := 57) C dX6_pin_37 (by decide) (fun c11 => ?_) (fun c11 => ?_)
      · replace hf := it_t c11 hf
        exact b57 _ _ _ _ _ _ hf _ (lv_sub hl [2, 3, 4, 5, 1, 0] rfl)
      · replace hf := it_f c11 hf
        refine s_aload_n C dX6_pin_40 rfl (lv_at hl 2 rfl) ?_
        refine gC_0_2 C wd_1_214 dX6_pin_41 ?_
        refine gnC_14_5 C nl_20 dX6_pin_44 ?_
        refine s_iload C dX6_pin_47 (lv_at hl 0 rfl) ?_
        obtain ⟨hi30, hf⟩ := bI_some hf
        refine ldC_20 C hi30 dX6_pin_49 ?_
        refine s_if_eq (tgt := 57) C dX6_pin_50 (by decide) (fun c31 => ?_) (fun c31 => ?_)
        · replace hf := it_t c31 hf
          exact b57 _ _ _ _ _ _ hf _ (lv_sub hl [2, 3, 4, 5, 1, 0] rfl)
        · replace hf := it_f c31 hf
          refine s_iconst (v := (1 : Int32)) C dX6_pin_53 (by decide) ?_
          refine s_goto (tgt := 58) C dX6_pin_54 (by decide) ?_
          exact b58 _ _ _ _ _ _ _ hf _ (lv_sub hl [2, 3, 4, 5, 1, 0] rfl)
    · replace hf := it_t c6 hf
      refine s_iconst (v := (0 : Int32)) C dX6_pin_14 (by decide) ?_
      exact ret _ _ _ _ dX6_pin_15 rfl (rt_2 hf).1 (congrArg (fun σ => (wC h q nf nb σ)) (rt_2 hf).2)
def pf_X6_punch_b69 (N : Nat) (nf : Nat) (nb : Nat) (J46 : Int32 → Int32 → Int32 → Int32 → St → Option (Int32 × St)) (x1 : Int32) (x4 : Int32) (x5 : Int32) (x6 : Int32) (σ : St) : Option (Int32 × St) := J46 x1 x4 x5 (x6 + 1) σ
def pf_X6_punch_L46 (N : Nat) (nf : Nat) (nb : Nat) : Nat → Int32 → Int32 → Int32 → Int32 → St → Option (Int32 × St)
  | 0, _, _, _, _, _ => none
  | n + 1, x1, x4, x5, x6, σ => if x4 ≤ x6 then some (x5, σ) else (pf_X6_spotOf N x1 x6).bind (fun z12 => (pf_X6_makeHole N nf nb z12 σ).bind (fun z14 => if z14.1 = 0 then pf_X6_punch_b69 N nf nb (pf_X6_punch_L46 N nf nb n) x1 x4 x5 x6 z14.2 else pf_X6_punch_b69 N nf nb (pf_X6_punch_L46 N nf nb n) x1 x4 (x5 + 1) x6 z14.2))
def pf_X6_punch (N : Nat) (nf : Nat) (nb : Nat) (x1 : Int32) (x2 : Int32) (x3 : Int32) (σ : St) : Option (Int32 × St) := (pf_X6_isFile N x1).bind (fun z1 => if z1 = 0 then some ((-2 : Int32), σ) else (pf_X6_isPage N x2).bind (fun z4 => if z4 = 0 then some ((-2 : Int32), σ) else if x3 < (1 : Int32) then some ((-2 : Int32), σ) else if x3 ≤ (256 : Int32) then lt_ (if (x2 + x3) < (256 : Int32) then (x2 + x3) else (256 : Int32)) (fun v9 => pf_X6_punch_L46 N nf nb N x1 v9 (0 : Int32) x2 σ) else some ((-2 : Int32), σ)))
theorem cx_X6_punch : (yX6_punch.cls ≠ "java/lang/invoke/MethodHandle" ∧ yX6_punch.cls ≠ "java/lang/invoke/VarHandle" ∧ (parseMethodDescriptor yX6_punch.desc).map (fun d => d.parameters.length) = some 3) := by decide +kernel
set_option maxHeartbeats 4000000 in
set_option maxRecDepth 100000 in
theorem c_X6_punch (l : Launch) (D : va_G) (q : Nat → ClassId) (h : Nat → Nat) (N : Nat) (nf : Nat) (nb : Nat) (x1 : Int32) (x2 : Int32) (x3 : Int32) (σ : St) (z : (Int32 × St)) (hf : pf_X6_punch N nf nb x1 x2 x3 σ = some z) : MI l yX6_punch cX6_punch 7 (some .int) 4 90 D (tyQ q) [.ref (h 0), .int x1, .int x2, .int x3] (wC h q nf nb σ) (wC h q nf nb z.2) z.1 := by
  refine MI.of (by decide) (Nat.le_of_ble_eq_true rfl) ?_
  intro p e s m args below meth c Q A C ret ls hl
  have hl : lv_has ls 7 [(0, .ref (h 0)), (1, .int x1), (2, .int x2), (3, .int x3)] := hl
  unfold pf_X6_punch at hf
  have b69 : ∀ (J46 : Int32 → Int32 → Int32 → Int32 → St → Option (Int32 × St)) (hJ46 : ∀ (x1 : Int32) (x4 : Int32) (x5 : Int32) (x6 : Int32) (σ : St), J46 x1 x4 x5 x6 σ = some z → ∀ ls : Array Slot, lv_has ls 7 [(0, .ref (h 0)), (1, .int x1), (4, .int x4), (5, .int x5), (6, .int x6)] → WG p l e (rmO 4 90) s m args below meth c D A 0 0 Q (wC h q nf nb σ) (F0 m 46 ls [])) (x1 : Int32) (x4 : Int32) (x5 : Int32) (x6 : Int32) (σ : St), pf_X6_punch_b69 N nf nb J46 x1 x4 x5 x6 σ = some z → ∀ ls : Array Slot, lv_has ls 7 [(0, .ref (h 0)), (1, .int x1), (4, .int x4), (5, .int x5), (6, .int x6)] → WG p l e (rmO 4 90) s m args below meth c D A 0 0 Q (wC h q nf nb σ) (F0 m 69 ls []) := by
    intro J46 hJ46 x1 x4 x5 x6 σ hf ls hl
    unfold pf_X6_punch_b69 at hf
    refine s_iinc (v := (x6 + 1)) (lv2 := [(6, .int (x6 + 1)), (0, .ref (h 0)), (1, .int x1), (4, .int x4), (5, .int x5)]) C 4 dX6_punch_69 hl rfl rfl (by decide) rfl ?_
    intro ls hl
    refine s_goto (tgt := 46) C dX6_punch_72 (by decide) ?_
    exact hJ46 _ _ _ _ _ hf _ (lv_sub hl [1, 2, 3, 4, 0] rfl)
  have L46 : ∀ (n : Nat) (x1 : Int32) (x4 : Int32) (x5 : Int32) (x6 : Int32) (σ : St), pf_X6_punch_L46 N nf nb n x1 x4 x5 x6 σ = some z → ∀ ls : Array Slot, lv_has ls 7 [(0, .ref (h 0)), (1, .int x1), (4, .int x4), (5, .int x5), (6, .int x6)] → WG p l e (rmO 4 90) s m args below meth c D A 0 0 Q (wC h q nf nb σ) (F0 m 46 ls []) := by
    intro n
    induction n with
    | zero => intro x1 x4 x5 x6 σ hf; unfold pf_X6_punch_L46 at hf; cases hf
    | succ n ih =>
      intro x1 x4 x5 x6 σ hf ls hl
      unfold pf_X6_punch_L46 at hf
      refine s_iload C dX6_punch_46 (lv_at hl 4 rfl) ?_
      refine s_iload C dX6_punch_48 (lv_at hl 2 rfl) ?_
      refine s_icmp_ge (tgt := 75) C dX6_punch_50 (by decide) (fun c11 => ?_) (fun c11 => ?_)
      · replace hf := it_t c11 hf
        refine s_iload C dX6_punch_75 (lv_at hl 3 rfl) ?_
        exact ret _ _ _ _ dX6_punch_77 rfl (rt_2 hf).1 (congrArg (fun σ => (wC h q nf nb σ)) (rt_2 hf).2)
      · replace hf := it_f c11 hf
        refine s_aload_n C dX6_punch_53 rfl (lv_at hl 0 rfl) ?_
        refine s_iload_n C dX6_punch_54 rfl (lv_at hl 1 rfl) ?_
        refine s_iload C dX6_punch_55 (lv_at hl 4 rfl) ?_
        obtain ⟨z12, h13, hf⟩ := bn_some hf
        refine s_callIS (As := [.int x1, .int x6]) (rest := [.ref (h 0)]) C (c_X6_spotOf l D q (wC h q nf nb σ) N x1 x6  z12 h13) ⟨wd_2_18, wd_2_19, wd_1_1, wd_2_20, cx_X6_spotOf, Nat.le_of_ble_eq_true rfl, Nat.le_of_ble_eq_true rfl⟩ (SubW.full _ _) rfl hl.1 rfl (Nat.le_of_ble_eq_true rfl) dX6_punch_57 (Nat.zero_le _) (Nat.zero_le _) ?_
        obtain ⟨z14, h15, hf⟩ := bn_some hf
        refine s_callIV (As := [.int z12]) (rest := []) C (c_X6_makeHole l D q h N nf nb z12 σ z14 h15) ⟨wd_2_234, wd_2_236, wd_s_12, wd_1_1, wd_2_237, cx_X6_makeHole, Nat.le_of_ble_eq_true rfl, Nat.le_of_ble_eq_true rfl⟩ 0 (ci := 6) rfl rfl rfl (SubW.full _ _) rfl hl.1 rfl (Nat.le_of_ble_eq_true rfl) dX6_punch_60 (Nat.zero_le _) (Nat.zero_le _) ?_
        refine s_if_eq (tgt := 69) C dX6_punch_63 (by decide) (fun c16 => ?_) (fun c16 => ?_)
        · replace hf := it_t c16 hf
          exact b69 _ ih _ _ _ _ _ hf _ (lv_sub hl [0, 1, 2, 3, 4] rfl)
        · replace hf := it_f c16 hf
          refine s_iinc (v := (x5 + 1)) (lv2 := [(5, .int (x5 + 1)), (0, .ref (h 0)), (1, .int x1), (4, .int x4), (6, .int x6)]) C 3 dX6_punch_66 hl rfl rfl (by decide) rfl ?_
          intro ls hl
          exact b69 _ ih _ _ _ _ _ hf _ (lv_sub hl [1, 2, 3, 0, 4] rfl)
  refine s_iload_n C dX6_punch_0 rfl (lv_at hl 1 rfl) ?_
  obtain ⟨z1, h2, hf⟩ := bn_some hf
  refine s_callIS (As := [.int x1]) (rest := []) C (c_X6_isFile l D q (wC h q nf nb σ) N x1  z1 h2) ⟨wd_2_4, wd_2_5, wd_1_1, wd_2_6, cx_X6_isFile, Nat.le_of_ble_eq_true rfl, Nat.le_of_ble_eq_true rfl⟩ (SubW.full _ _) rfl hl.1 rfl (Nat.le_of_ble_eq_true rfl) dX6_punch_1 (Nat.zero_le _) (Nat.zero_le _) ?_
  refine s_if_eq (tgt := 26) C dX6_punch_4 (by decide) (fun c3 => ?_) (fun c3 => ?_)
  · replace hf := it_t c3 hf
    refine s_bipush (v := (-2 : Int32)) C dX6_punch_26 (by decide) ?_
    exact ret _ _ _ _ dX6_punch_28 rfl (rt_2 hf).1 (congrArg (fun σ => (wC h q nf nb σ)) (rt_2 hf).2)
  · replace hf := it_f c3 hf
    refine s_iload_n C dX6_punch_7 rfl (lv_at hl 2 rfl) ?_
    obtain ⟨z4, h5, hf⟩ := bn_some hf
    refine s_callIS (As := [.int x2]) (rest := []) C (c_X6_isPage l D q (wC h q nf nb σ) N x2  z4 h5) ⟨wd_3_10, wd_3_11, wd_1_1, wd_3_12, cx_X6_isPage, Nat.le_of_ble_eq_true rfl, Nat.le_of_ble_eq_true rfl⟩ (SubW.full _ _) rfl hl.1 rfl (Nat.le_of_ble_eq_true rfl) dX6_punch_8 (Nat.zero_le _) (Nat.zero_le _) ?_
    refine s_if_eq (tgt := 26) C dX6_punch_11 (by decide) (fun c6 => ?_) (fun c6 => ?_)
    · replace hf := it_t c6 hf
      refine s_bipush (v := (-2 : Int32)) C dX6_punch_26 (by decide) ?_
      exact ret _ _ _ _ dX6_punch_28 rfl (rt_2 hf).1 (congrArg (fun σ => (wC h q nf nb σ)) (rt_2 hf).2)
    · replace hf := it_f c6 hf
      refine s_iload_n C dX6_punch_14 rfl (lv_at hl 3 rfl) ?_
      refine s_iconst (v := (1 : Int32)) C dX6_punch_15 (by decide) ?_
      refine s_icmp_lt (tgt := 26) C dX6_punch_16 (by decide) (fun c7 => ?_) (fun c7 => ?_)
      · replace hf := it_t c7 hf
        refine s_bipush (v := (-2 : Int32)) C dX6_punch_26 (by decide) ?_
        exact ret _ _ _ _ dX6_punch_28 rfl (rt_2 hf).1 (congrArg (fun σ => (wC h q nf nb σ)) (rt_2 hf).2)
      · replace hf := it_f c7 hf
        refine s_iload_n C dX6_punch_19 rfl (lv_at hl 3 rfl) ?_
        refine s_sipush (v := (256 : Int32)) C dX6_punch_20 (by decide) ?_
        refine s_icmp_le (tgt := 29) C dX6_punch_23 (by decide) (fun c8 => ?_) (fun c8 => ?_)
        · replace hf := it_t c8 hf
          refine s_sipush (v := (256 : Int32)) C dX6_punch_29 (by decide) ?_
          refine s_iload_n C dX6_punch_32 rfl (lv_at hl 2 rfl) ?_
          refine s_iload_n C dX6_punch_33 rfl (lv_at hl 3 rfl) ?_
          refine s_iadd C dX6_punch_34 ?_
          refine s_mmin C hl.1 dX6_punch_35 wd_2_11 mm_min_s mm_in mm_min_c (Nat.le_of_ble_eq_true rfl) (Nat.le_of_ble_eq_true rfl) (Nat.zero_le _) (Nat.zero_le _) ?_
          obtain ⟨v9, e10, hf⟩ := lt_some hf
          refine s_eq (g2 := F0 m 38 ls [.int v9]) (by rw [e10]) ?_
          clear e10
          refine s_istore (lv2 := [(4, .int v9), (0, .ref (h 0)), (1, .int x1), (2, .int x2), (3, .int x3)]) C dX6_punch_38 hl (by decide) rfl ?_
          intro ls hl
          refine s_iconst (v := (0 : Int32)) C dX6_punch_40 (by decide) ?_
          refine s_istore (lv2 := [(5, .int (0 : Int32)), (4, .int v9), (0, .ref (h 0)), (1, .int x1), (2, .int x2), (3, .int x3)]) C dX6_punch_41 hl (by decide) rfl ?_
          intro ls hl
          refine s_iload_n C dX6_punch_43 rfl (lv_at hl 4 rfl) ?_
          refine s_istore (lv2 := [(6, .int x2), (5, .int (0 : Int32)), (4, .int v9), (0, .ref (h 0)), (1, .int x1), (2, .int x2), (3, .int x3)]) C dX6_punch_44 hl (by decide) rfl ?_
          intro ls hl
          exact L46 N _ _ _ _ _ hf _ (lv_sub hl [3, 4, 2, 1, 0] rfl)
        · replace hf := it_f c8 hf
          refine s_bipush (v := (-2 : Int32)) C dX6_punch_26 (by decide) ?_
          exact ret _ _ _ _ dX6_punch_28 rfl (rt_2 hf).1 (congrArg (fun σ => (wC h q nf nb σ)) (rt_2 hf).2)
def pf_X6_readPage_L69 (N : Nat) (nf : Nat) (nb : Nat) : Nat → Int32 → Int32 → Int32 → Int32 → Int32 → Int32 → Int32 → Int32 → St → Option (Int32 × St)
  | 0, _, _, _, _, _, _, _, _, _ => none
  | n + 1, x1, x2, x3, x6, x7, x8, x9, x10, σ => if x9 ≤ x10 then if x6 = 0 then some (x9, σ) else (pf_X6_bringAhead N nf nb x1 x2 σ).bind (fun z17 => some (x9, z17)) else (pf_X5_byteAt N (nf * 8) (((x7 * (64 : Int32)) + x10) - x8) (σ.2.2 16)).bind (fun z19 => (pf_X5_put N (128) (x10 - x3) z19 (σ.2.2 32)).bind (fun z21 => lt_ (sL σ 32 z21) (fun σ23 => (pf_X6_readPage_L69 N nf nb n) x1 x2 x3 x6 x7 x8 x9 (x10 + 1) σ23)))
def pf_X6_readPage_b25 (N : Nat) (nf : Nat) (nb : Nat) (x1 : Int32) (x2 : Int32) (x3 : Int32) (x4 : Int32) (x5 : Int32) (y0 : Int32) (σ : St) : Option (Int32 × St) := (pf_X6_touch N nf nb x5 σ).bind (fun z6 => if z6.1 = (-1 : Int32) then some ((-1 : Int32), z6.2) else lt_ (x2 * (64 : Int32)) (fun v9 => lt_ (if (v9 + (64 : Int32)) < x4 then (v9 + (64 : Int32)) else x4) (fun v11 => lt_ (if x3 < v9 then v9 else x3) (fun v13 => pf_X6_readPage_L69 N nf nb N x1 x2 x3 y0 z6.1 v9 v11 v13 z6.2))))
def pf_X6_readPage (N : Nat) (nf : Nat) (nb : Nat) (x1 : Int32) (x2 : Int32) (x3 : Int32) (x4 : Int32) (σ : St) : Option (Int32 × St) := (pf_X6_spotOf N x1 x2).bind (fun z1 => (pf_X2_frameOf N nf nb z1 σ).bind (fun z3 => if z3 = (-1 : Int32) then pf_X6_readPage_b25 N nf nb x1 x2 x3 x4 z1 (1 : Int32) σ else pf_X6_readPage_b25 N nf nb x1 x2 x3 x4 z1 (0 : Int32) σ))
theorem cx_X6_readPage : (yX6_readPage.cls ≠ "java/lang/invoke/MethodHandle" ∧ yX6_readPage.cls ≠ "java/lang/invoke/VarHandle" ∧ (parseMethodDescriptor yX6_readPage.desc).map (fun d => d.parameters.length) = some 4) := by decide +kernel
set_option maxHeartbeats 4000000 in
set_option maxRecDepth 100000 in
theorem c_X6_readPage (l : Launch) (D : va_G) (q : Nat → ClassId) (h : Nat → Nat) (N : Nat) (nf : Nat) (nb : Nat) (x1 : Int32) (x2 : Int32) (x3 : Int32) (x4 : Int32) (σ : St) (z : (Int32 × St)) (hf : pf_X6_readPage N nf nb x1 x2 x3 x4 σ = some z) : MI l yX6_readPage cX6_readPage 11 (some .int) 6 148 D (tyQ q) [.ref (h 0), .int x1, .int x2, .int x3, .int x4] (wC h q nf nb σ) (wC h q nf nb z.2) z.1 := by
  refine MI.of (by decide) (Nat.le_of_ble_eq_true rfl) ?_
  intro p e s m args below meth c Q A C ret ls hl
  have hl : lv_has ls 11 [(0, .ref (h 0)), (1, .int x1), (2, .int x2), (3, .int x3), (4, .int x4)] := hl
  unfold pf_X6_readPage at hf
  have L69 : ∀ (n : Nat) (x1 : Int32) (x2 : Int32) (x3 : Int32) (x6 : Int32) (x7 : Int32) (x8 : Int32) (x9 : Int32) (x10 : Int32) (σ : St), pf_X6_readPage_L69 N nf nb n x1 x2 x3 x6 x7 x8 x9 x10 σ = some z → ∀ ls : Array Slot, lv_has ls 11 [(0, .ref (h 0)), (1, .int x1), (2, .int x2), (3, .int x3), (6, .int x6), (7, .int x7), (8, .int x8), (9, .int x9), (10, .int x10)] → WG p l e (rmO 6 148) s m args below meth c D A 0 0 Q (wC h q nf nb σ) (F0 m 69 ls []) := by
    intro n
    induction n with
    | zero => intro x1 x2 x3 x6 x7 x8 x9 x10 σ hf; unfold pf_X6_readPage_L69 at hf; cases hf
    | succ n ih =>
      intro x1 x2 x3 x6 x7 x8 x9 x10 σ hf ls hl
      unfold pf_X6_readPage_L69 at hf
      refine s_iload C dX6_readPage_69 (lv_at hl 8 rfl) ?_
      refine s_iload C dX6_readPage_71 (lv_at hl 7 rfl) ?_
      refine s_icmp_ge (tgt := 114) C dX6_readPage_73 (by decide) (fun c15 => ?_) (fun c15 => ?_)
      · replace hf := it_t c15 hf
        refine s_iload C dX6_readPage_114 (lv_at hl 4 rfl) ?_
        refine s_if_eq (tgt := 125) C dX6_readPage_116 (by decide) (fun c16 => ?_) (fun c16 => ?_)
        · replace hf := it_t c16 hf
          refine s_iload C dX6_readPage_125 (lv_at hl 7 rfl) ?_
          exact ret _ _ _ _ dX6_readPage_127 rfl (rt_2 hf).1 (congrArg (fun σ => (wC h q nf nb σ)) (rt_2 hf).2)
        · replace hf := it_f c16 hf
          refine s_aload_n C dX6_readPage_119 rfl (lv_at hl 0 rfl) ?_
          refine s_iload_n C dX6_readPage_120 rfl (lv_at hl 1 rfl) ?_
          refine s_iload_n C dX6_readPage_121 rfl (lv_at hl 2 rfl) ?_
          obtain ⟨z17, h18, hf⟩ := bn_some hf
          refine s_callVV (As := [.int x1, .int x2]) (rest := []) C (c_X6_bringAhead l D q h N nf nb x1 x2 σ z17 h18) ⟨wd_2_184, wd_2_186, wd_s_9, wd_1_1, wd_2_187, cx_X6_bringAhead, Nat.le_of_ble_eq_true rfl, Nat.le_of_ble_eq_true rfl⟩ 0 (ci := 6) rfl rfl rfl (SubW.full _ _) rfl hl.1 rfl (Nat.le_of_ble_eq_true rfl) dX6_readPage_122 (Nat.zero_le _) (Nat.zero_le _) ?_
          refine s_iload C dX6_readPage_125 (lv_at hl 7 rfl) ?_
          exact ret _ _ _ _ dX6_readPage_127 rfl (rt_2 hf).1 (congrArg (fun σ => (wC h q nf nb σ)) (rt_2 hf).2)
      · replace hf := it_f c15 hf
        refine s_aload_n C dX6_readPage_76 rfl (lv_at hl 0 rfl) ?_
        refine gC_0_5 C wd_1_217 dX6_readPage_77 ?_
        refine s_iload C dX6_readPage_80 (lv_at hl 8 rfl) ?_
        refine s_iload_n C dX6_readPage_82 rfl (lv_at hl 3 rfl) ?_
        refine s_isub C dX6_readPage_83 ?_
        refine s_aload_n C dX6_readPage_84 rfl (lv_at hl 0 rfl) ?_
        refine gC_0_2 C wd_1_214 dX6_readPage_85 ?_
        refine gnC_14_1 C nl_16 dX6_readPage_88 ?_
        refine s_iload C dX6_readPage_91 (lv_at hl 5 rfl) ?_
        refine s_bipush (v := (64 : Int32)) C dX6_readPage_93 (by decide) ?_
        refine s_imul C dX6_readPage_95 ?_
        refine s_iload C dX6_readPage_96 (lv_at hl 8 rfl) ?_
        refine s_iadd C dX6_readPage_98 ?_
        refine s_iload C dX6_readPage_99 (lv_at hl 6 rfl) ?_
        refine s_isub C dX6_readPage_101 ?_
        obtain ⟨z19, h20, hf⟩ := bn_some hf
        refine s_callIV (As := [.int (((x7 * (64 : Int32)) + x10) - x8)]) (rest := [.int (x10 - x3), .ref (h 31)]) C (c_X5_byteAt l D q (h 15) (h 16) N (nf * 8) (((x7 * (64 : Int32)) + x10) - x8) (σ.2.2 16) z19 h20) ⟨wd_2_176, wd_2_177, wd_2_178, wd_1_2, wd_2_179, cx_X5_byteAt, Nat.le_of_ble_eq_true rfl, Nat.le_of_ble_eq_true rfl⟩ 15 (ci := 5) rfl rfl rfl (jnrC_15_16 nf nb h  q σ) rfl hl.1 rfl (Nat.le_of_ble_eq_true rfl) dX6_readPage_102 (Nat.zero_le _) (Nat.zero_le _) ?_
        obtain ⟨z21, h22, hf⟩ := bn_some hf
        refine s_callVV (As := [.int (x10 - x3), .int z19]) (rest := []) C (c_X5_put l D q (h 31) (h 32) N (128) (x10 - x3) z19 (σ.2.2 32) z21 h22) ⟨wd_2_180, wd_2_181, wd_2_182, wd_1_2, wd_2_183, cx_X5_put, Nat.le_of_ble_eq_true rfl, Nat.le_of_ble_eq_true rfl⟩ 31 (ci := 5) rfl rfl rfl (jnC_31_32 nf nb h  q σ z21) rfl hl.1 rfl (Nat.le_of_ble_eq_true rfl) dX6_readPage_105 (Nat.zero_le _) (Nat.zero_le _) ?_
        obtain ⟨σ23, e24, hf⟩ := lt_some hf
        refine s_w (ws2 := (wC h q nf nb σ23)) (by rw [e24]) ?_
        clear e24
        refine s_iinc (v := (x10 + 1)) (lv2 := [(10, .int (x10 + 1)), (0, .ref (h 0)), (1, .int x1), (2, .int x2), (3, .int x3), (6, .int x6), (7, .int x7), (8, .int x8), (9, .int x9)]) C 8 dX6_readPage_108 hl rfl rfl (by decide) rfl ?_
        intro ls hl
        refine s_goto (tgt := 69) C dX6_readPage_111 (by decide) ?_
        exact ih _ _ _ _ _ _ _ _ _ hf _ (lv_sub hl [1, 2, 3, 4, 5, 6, 7, 8, 0] rfl)
  have b25 : ∀ (x1 : Int32) (x2 : Int32) (x3 : Int32) (x4 : Int32) (x5 : Int32) (y0 : Int32) (σ : St), pf_X6_readPage_b25 N nf nb x1 x2 x3 x4 x5 y0 σ = some z → ∀ ls : Array Slot, lv_has ls 11 [(0, .ref (h 0)), (1, .int x1), (2, .int x2), (3, .int x3), (4, .int x4), (5, .int x5)] → WG p l e (rmO 6 148) s m args below meth c D A 0 0 Q (wC h q nf nb σ) (F0 m 25 ls [.int y0]) := by
    intro x1 x2 x3 x4 x5 y0 σ hf ls hl
    unfold pf_X6_readPage_b25 at hf
    refine s_istore (lv2 := [(6, .int y0), (0, .ref (h 0)), (1, .int x1), (2, .int x2), (3, .int x3), (4, .int x4), (5, .int x5)]) C dX6_readPage_25 hl (by decide) rfl ?_
    intro ls hl
    refine s_aload_n C dX6_readPage_27 rfl (lv_at hl 1 rfl) ?_
    refine s_iload C dX6_readPage_28 (lv_at hl 6 rfl) ?_
    obtain ⟨z6, h7, hf⟩ := bn_some hf
    refine s_callIV (As := [.int x5]) (rest := []) C (c_X6_touch l D q h N nf nb x5 σ z6 h7) ⟨wd_2_25, wd_2_27, wd_s_1, wd_1_1, wd_2_28, cx_X6_touch, Nat.le_of_ble_eq_true rfl, Nat.le_of_ble_eq_true rfl⟩ 0 (ci := 6) rfl rfl rfl (SubW.full _ _) rfl hl.1 rfl (Nat.le_of_ble_eq_true rfl) dX6_readPage_30 (Nat.zero_le _) (Nat.zero_le _) ?_
    refine s_istore (lv2 := [(7, .int z6.1), (6, .int y0), (0, .ref (h 0)), (1, .int x1), (2, .int x2), (3, .int x3), (4, .int x4), (5, .int x5)]) C dX6_readPage_33 hl (by decide) rfl ?_
    intro ls hl
    refine s_iload C dX6_readPage_35 (lv_at hl 0 rfl) ?_
    refine s_iconst (v := (-1 : Int32)) C dX6_readPage_37 (by decide) ?_
    refine s_icmp_ne (tgt := 43) C dX6_readPage_38 (by decide) (fun c8 => ?_) (fun c8 => ?_)
    · replace hf := it_f c8 hf
      refine s_iload_n C dX6_readPage_43 rfl (lv_at hl 4 rfl) ?_
      refine s_bipush (v := (64 : Int32)) C dX6_readPage_44 (by decide) ?_
      refine s_imul C dX6_readPage_46 ?_
      obtain ⟨v9, e10, hf⟩ := lt_some hf
      refine s_eq (g2 := F0 m 47 ls [.int v9]) (by rw [e10]) ?_
      clear e10
      refine s_istore (lv2 := [(8, .int v9), (7, .int z6.1), (6, .int y0), (0, .ref (h 0)), (1, .int x1), (2, .int x2), (3, .int x3), (4, .int x4), (5, .int x5)]) C dX6_readPage_47 hl (by decide) rfl ?_
      intro ls hl
      refine s_iload C dX6_readPage_49 (lv_at hl 7 rfl) ?_
      refine s_iload C dX6_readPage_51 (lv_at hl 0 rfl) ?_
      refine s_bipush (v := (64 : Int32)) C dX6_readPage_53 (by decide) ?_
      refine s_iadd C dX6_readPage_55 ?_
      refine s_mmin C hl.1 dX6_readPage_56 wd_2_11 mm_min_s mm_in mm_min_c (Nat.le_of_ble_eq_true rfl) (Nat.le_of_ble_eq_true rfl) (Nat.zero_le _) (Nat.zero_le _) ?_
      obtain ⟨v11, e12, hf⟩ := lt_some hf
      refine s_eq (g2 := F0 m 59 ls [.int v11]) (by rw [e12]) ?_
      clear e12
      refine s_istore (lv2 := [(9, .int v11), (8, .int v9), (7, .int z6.1), (6, .int y0), (0, .ref (h 0)), (1, .int x1), (2, .int x2), (3, .int x3), (4, .int x4), (5, .int x5)]) C dX6_readPage_59 hl (by decide) rfl ?_
      intro ls hl
      refine s_iload_n C dX6_readPage_61 rfl (lv_at hl 7 rfl) ?_
      refine s_iload C dX6_readPage_62 (lv_at hl 1 rfl) ?_
      refine s_mmax C hl.1 dX6_readPage_64 wd_2_175 mm_max_s mm_in mm_max_c (Nat.le_of_ble_eq_true rfl) (Nat.le_of_ble_eq_true rfl) (Nat.zero_le _) (Nat.zero_le _) ?_
      obtain ⟨v13, e14, hf⟩ := lt_some hf
      refine s_eq (g2 := F0 m 67 ls [.int v13]) (by rw [e14]) ?_
      clear e14
      refine s_istore (lv2 := [(10, .int v13), (9, .int v11), (8, .int v9), (7, .int z6.1), (6, .int y0), (0, .ref (h 0)), (1, .int x1), (2, .int x2), (3, .int x3), (4, .int x4), (5, .int x5)]) C dX6_readPage_67 hl (by decide) rfl ?_
      intro ls hl
      exact L69 N _ _ _ _ _ _ _ _ _ hf _ (lv_sub hl [5, 6, 7, 8, 4, 3, 2, 1, 0] rfl)
    · replace hf := it_t c8 hf
      refine s_iconst (v := (-1 : Int32)) C dX6_readPage_41 (by decide) ?_
      exact ret _ _ _ _ dX6_readPage_42 rfl (rt_2 hf).1 (congrArg (fun σ => (wC h q nf nb σ)) (rt_2 hf).2)
  refine s_iload_n C dX6_readPage_0 rfl (lv_at hl 1 rfl) ?_
  refine s_iload_n C dX6_readPage_1 rfl (lv_at hl 2 rfl) ?_
  obtain ⟨z1, h2, hf⟩ := bn_some hf
  refine s_callIS (As := [.int x1, .int x2]) (rest := []) C (c_X6_spotOf l D q (wC h q nf nb σ) N x1 x2  z1 h2) ⟨wd_2_18, wd_2_19, wd_1_1, wd_2_20, cx_X6_spotOf, Nat.le_of_ble_eq_true rfl, Nat.le_of_ble_eq_true rfl⟩ (SubW.full _ _) rfl hl.1 rfl (Nat.le_of_ble_eq_true rfl) dX6_readPage_2 (Nat.zero_le _) (Nat.zero_le _) ?_
  refine s_istore (lv2 := [(5, .int z1), (0, .ref (h 0)), (1, .int x1), (2, .int x2), (3, .int x3), (4, .int x4)]) C dX6_readPage_5 hl (by decide) rfl ?_
  intro ls hl
  refine s_aload_n C dX6_readPage_7 rfl (lv_at hl 1 rfl) ?_
  refine gC_0_2 C wd_1_214 dX6_readPage_8 ?_
  refine s_iload C dX6_readPage_11 (lv_at hl 0 rfl) ?_
  obtain ⟨z3, h4, hf⟩ := bn_some hf
  refine s_callIV (As := [.int z1]) (rest := []) C (c_X2_frameOf l D q h N nf nb z1 σ z3 h4) ⟨wd_2_21, wd_2_22, wd_2_23, wd_1_7, wd_2_24, cx_X2_frameOf, Nat.le_of_ble_eq_true rfl, Nat.le_of_ble_eq_true rfl⟩ 14 (ci := 2) rfl rfl rfl (SubW.full _ _) rfl hl.1 rfl (Nat.le_of_ble_eq_true rfl) dX6_readPage_13 (Nat.zero_le _) (Nat.zero_le _) ?_
  refine s_iconst (v := (-1 : Int32)) C dX6_readPage_16 (by decide) ?_
  refine s_icmp_ne (tgt := 24) C dX6_readPage_17 (by decide) (fun c5 => ?_) (fun c5 => ?_)
  · replace hf := it_f c5 hf
    refine s_iconst (v := (0 : Int32)) C dX6_readPage_24 (by decide) ?_
    exact b25 _ _ _ _ _ _ _ hf _ (lv_sub hl [1, 2, 3, 4, 5, 0] rfl)
  · replace hf := it_t c5 hf
    refine s_iconst (v := (1 : Int32)) C dX6_readPage_20 (by decide) ?_
    refine s_goto (tgt := 25) C dX6_readPage_21 (by decide) ?_
    exact b25 _ _ _ _ _ _ _ hf _ (lv_sub hl [1, 2, 3, 4, 5, 0] rfl)
def pf_X6_read_L76 (N : Nat) (nf : Nat) (nb : Nat) : Nat → Int32 → Int32 → Int32 → Int32 → Int32 → St → Option (Int32 × St)
  | 0, _, _, _, _, _, _ => none
  | n + 1, x1, x2, x5, x6, x7, σ => if x5 ≤ (x7 * (64 : Int32)) then some (x6, σ) else (pf_X6_readPage N nf nb x1 x7 x2 x5 σ).bind (fun z18 => if z18.1 = (-1 : Int32) then if x6 = 0 then some ((-3 : Int32), z18.2) else some (x6, z18.2) else lt_ (sG z18.2 12 (z18.1 - x2)) (fun σ21 => (pf_X6_read_L76 N nf nb n) x1 x2 x5 (z18.1 - x2) (x7 + 1) σ21))
def pf_X6_read (N : Nat) (nf : Nat) (nb : Nat) (x1 : Int32) (x2 : Int32) (x3 : Int32) (σ : St) : Option (Int32 × St) := (pf_X6_isFile N x1).bind (fun z1 => if z1 = 0 then some ((-2 : Int32), σ) else if x2 < 0 then some ((-2 : Int32), σ) else if x3 < (1 : Int32) then some ((-2 : Int32), σ) else if x3 ≤ (1024 : Int32) then (pf_X0_begin N nf nb σ).bind (fun z7 => bI x1 (12) (lt_ ((z7.2.1 10) (Int32.toNatClampNeg x1)) (fun v10 => if x2 < v10 then lt_ (if v10 < (x2 + x3) then v10 else (x2 + x3)) (fun v13 => lt_ (x2 / (64 : Int32)) (fun v15 => pf_X6_read_L76 N nf nb N x1 x2 v13 (0 : Int32) v15 z7)) else lt_ (sG z7 12 (0 : Int32)) (fun σ24 => some ((0 : Int32), σ24))))) else some ((-2 : Int32), σ))
theorem cx_X6_read : (yX6_read.cls ≠ "java/lang/invoke/MethodHandle" ∧ yX6_read.cls ≠ "java/lang/invoke/VarHandle" ∧ (parseMethodDescriptor yX6_read.desc).map (fun d => d.parameters.length) = some 3) := by decide +kernel
set_option maxHeartbeats 4000000 in
set_option maxRecDepth 100000 in
theorem c_X6_read (l : Launch) (D : va_G) (q : Nat → ClassId) (h : Nat → Nat) (N : Nat) (nf : Nat) (nb : Nat) (x1 : Int32) (x2 : Int32) (x3 : Int32) (σ : St) (z : (Int32 × St)) (hf : pf_X6_read N nf nb x1 x2 x3 σ = some z) : MI l yX6_read cX6_read 9 (some .int) 7 178 D (tyQ q) [.ref (h 0), .int x1, .int x2, .int x3] (wC h q nf nb σ) (wC h q nf nb z.2) z.1 := by
  refine MI.of (by decide) (Nat.le_of_ble_eq_true rfl) ?_
  intro p e s m args below meth c Q A C ret ls hl
  have hl : lv_has ls 9 [(0, .ref (h 0)), (1, .int x1), (2, .int x2), (3, .int x3)] := hl
  unfold pf_X6_read at hf
  have L76 : ∀ (n : Nat) (x1 : Int32) (x2 : Int32) (x5 : Int32) (x6 : Int32) (x7 : Int32) (σ : St), pf_X6_read_L76 N nf nb n x1 x2 x5 x6 x7 σ = some z → ∀ ls : Array Slot, lv_has ls 9 [(0, .ref (h 0)), (1, .int x1), (2, .int x2), (5, .int x5), (6, .int x6), (7, .int x7)] → WG p l e (rmO 7 178) s m args below meth c D A 0 0 Q (wC h q nf nb σ) (F0 m 76 ls []) := by
    intro n
    induction n with
    | zero => intro x1 x2 x5 x6 x7 σ hf; unfold pf_X6_read_L76 at hf; cases hf
    | succ n ih =>
      intro x1 x2 x5 x6 x7 σ hf ls hl
      unfold pf_X6_read_L76 at hf
      refine s_iload C dX6_read_76 (lv_at hl 5 rfl) ?_
      refine s_bipush (v := (64 : Int32)) C dX6_read_78 (by decide) ?_
      refine s_imul C dX6_read_80 ?_
      refine s_iload C dX6_read_81 (lv_at hl 3 rfl) ?_
      refine s_icmp_ge (tgt := 135) C dX6_read_83 (by decide) (fun c17 => ?_) (fun c17 => ?_)
      · replace hf := it_t c17 hf
        refine s_iload C dX6_read_135 (lv_at hl 4 rfl) ?_
        exact ret _ _ _ _ dX6_read_137 rfl (rt_2 hf).1 (congrArg (fun σ => (wC h q nf nb σ)) (rt_2 hf).2)
      · replace hf := it_f c17 hf
        refine s_aload_n C dX6_read_86 rfl (lv_at hl 0 rfl) ?_
        refine s_iload_n C dX6_read_87 rfl (lv_at hl 1 rfl) ?_
        refine s_iload C dX6_read_88 (lv_at hl 5 rfl) ?_
        refine s_iload_n C dX6_read_90 rfl (lv_at hl 2 rfl) ?_
        refine s_iload C dX6_read_91 (lv_at hl 3 rfl) ?_
        obtain ⟨z18, h19, hf⟩ := bn_some hf
        refine s_callIV (As := [.int x1, .int x7, .int x2, .int x5]) (rest := []) C (c_X6_readPage l D q h N nf nb x1 x7 x2 x5 σ z18 h19) ⟨wd_2_14, wd_2_16, wd_s_0, wd_1_1, wd_2_17, cx_X6_readPage, Nat.le_of_ble_eq_true rfl, Nat.le_of_ble_eq_true rfl⟩ 0 (ci := 6) rfl rfl rfl (SubW.full _ _) rfl hl.1 rfl (Nat.le_of_ble_eq_true rfl) dX6_read_93 (Nat.zero_le _) (Nat.zero_le _) ?_
        refine s_istore (lv2 := [(8, .int z18.1), (0, .ref (h 0)), (1, .int x1), (2, .int x2), (5, .int x5), (6, .int x6), (7, .int x7)]) C dX6_read_96 hl (by decide) rfl ?_
        intro ls hl
        refine s_iload C dX6_read_98 (lv_at hl 0 rfl) ?_
        refine s_iconst (v := (-1 : Int32)) C dX6_read_100 (by decide) ?_
        refine s_icmp_ne (tgt := 117) C dX6_read_101 (by decide) (fun c20 => ?_) (fun c20 => ?_)
        · replace hf := it_f c20 hf
          refine s_iload C dX6_read_117 (lv_at hl 0 rfl) ?_
          refine s_iload_n C dX6_read_119 rfl (lv_at hl 3 rfl) ?_
          refine s_isub C dX6_read_120 ?_
          refine s_istore (lv2 := [(6, .int (z18.1 - x2)), (8, .int z18.1), (0, .ref (h 0)), (1, .int x1), (2, .int x2), (5, .int x5), (7, .int x7)]) C dX6_read_121 hl (by decide) rfl ?_
          intro ls hl
          refine s_aload_n C dX6_read_123 rfl (lv_at hl 2 rfl) ?_
          refine s_iload C dX6_read_124 (lv_at hl 0 rfl) ?_
          refine uC_0_7 C wd_1_219 dX6_read_126 ?_
          obtain ⟨σ21, e22, hf⟩ := lt_some hf
          refine s_w (ws2 := (wC h q nf nb σ21)) (by rw [e22]) ?_
          clear e22
          refine s_iinc (v := (x7 + 1)) (lv2 := [(7, .int (x7 + 1)), (6, .int (z18.1 - x2)), (8, .int z18.1), (0, .ref (h 0)), (1, .int x1), (2, .int x2), (5, .int x5)]) C 6 dX6_read_129 hl rfl rfl (by decide) rfl ?_
          intro ls hl
          refine s_goto (tgt := 76) C dX6_read_132 (by decide) ?_
          exact ih _ _ _ _ _ _ hf _ (lv_sub hl [3, 4, 5, 6, 1, 0] rfl)
        · replace hf := it_t c20 hf
          refine s_iload C dX6_read_104 (lv_at hl 5 rfl) ?_
          refine s_if_ne (tgt := 114) C dX6_read_106 (by decide) (fun c23 => ?_) (fun c23 => ?_)
          · replace hf := it_f c23 hf
            refine s_iload C dX6_read_114 (lv_at hl 5 rfl) ?_
            exact ret _ _ _ _ dX6_read_116 rfl (rt_2 hf).1 (congrArg (fun σ => (wC h q nf nb σ)) (rt_2 hf).2)
          · replace hf := it_t c23 hf
            refine s_bipush (v := (-3 : Int32)) C dX6_read_109 (by decide) ?_
            refine s_goto (tgt := 116) C dX6_read_111 (by decide) ?_
            exact ret _ _ _ _ dX6_read_116 rfl (rt_2 hf).1 (congrArg (fun σ => (wC h q nf nb σ)) (rt_2 hf).2)
  refine s_iload_n C dX6_read_0 rfl (lv_at hl 1 rfl) ?_
  obtain ⟨z1, h2, hf⟩ := bn_some hf
  refine s_callIS (As := [.int x1]) (rest := []) C (c_X6_isFile l D q (wC h q nf nb σ) N x1  z1 h2) ⟨wd_2_4, wd_2_5, wd_1_1, wd_2_6, cx_X6_isFile, Nat.le_of_ble_eq_true rfl, Nat.le_of_ble_eq_true rfl⟩ (SubW.full _ _) rfl hl.1 rfl (Nat.le_of_ble_eq_true rfl) dX6_read_1 (Nat.zero_le _) (Nat.zero_le _) ?_
  refine s_if_eq (tgt := 23) C dX6_read_4 (by decide) (fun c3 => ?_) (fun c3 => ?_)
  · replace hf := it_t c3 hf
    refine s_bipush (v := (-2 : Int32)) C dX6_read_23 (by decide) ?_
    exact ret _ _ _ _ dX6_read_25 rfl (rt_2 hf).1 (congrArg (fun σ => (wC h q nf nb σ)) (rt_2 hf).2)
  · replace hf := it_f c3 hf
    refine s_iload_n C dX6_read_7 rfl (lv_at hl 2 rfl) ?_
    refine s_if_lt (tgt := 23) C dX6_read_8 (by decide) (fun c4 => ?_) (fun c4 => ?_)
    · replace hf := it_t c4 hf
      refine s_bipush (v := (-2 : Int32)) C dX6_read_23 (by decide) ?_
      exact ret _ _ _ _ dX6_read_25 rfl (rt_2 hf).1 (congrArg (fun σ => (wC h q nf nb σ)) (rt_2 hf).2)
    · replace hf := it_f c4 hf
      refine s_iload_n C dX6_read_11 rfl (lv_at hl 3 rfl) ?_
      refine s_iconst (v := (1 : Int32)) C dX6_read_12 (by decide) ?_
      refine s_icmp_lt (tgt := 23) C dX6_read_13 (by decide) (fun c5 => ?_) (fun c5 => ?_)
      · replace hf := it_t c5 hf
        refine s_bipush (v := (-2 : Int32)) C dX6_read_23 (by decide) ?_
        exact ret _ _ _ _ dX6_read_25 rfl (rt_2 hf).1 (congrArg (fun σ => (wC h q nf nb σ)) (rt_2 hf).2)
      · replace hf := it_f c5 hf
        refine s_iload_n C dX6_read_16 rfl (lv_at hl 3 rfl) ?_
        refine s_sipush (v := (1024 : Int32)) C dX6_read_17 (by decide) ?_
        refine s_icmp_le (tgt := 26) C dX6_read_20 (by decide) (fun c6 => ?_) (fun c6 => ?_)
        · replace hf := it_t c6 hf
          refine s_aload_n C dX6_read_26 rfl (lv_at hl 0 rfl) ?_
          refine gC_0_0 C wd_1_212 dX6_read_27 ?_
          obtain ⟨z7, h8, hf⟩ := bn_some hf
          refine s_callVV (As := []) (rest := []) C (c_X0_begin l D q h N nf nb σ z7 h8) ⟨wd_2_7, wd_2_8, wd_2_9, wd_1_4, wd_2_10, cx_X0_begin, Nat.le_of_ble_eq_true rfl, Nat.le_of_ble_eq_true rfl⟩ 1 (ci := 0) rfl rfl rfl (SubW.full _ _) rfl hl.1 rfl (Nat.le_of_ble_eq_true rfl) dX6_read_30 (Nat.zero_le _) (Nat.zero_le _) ?_
          refine s_aload_n C dX6_read_33 rfl (lv_at hl 0 rfl) ?_
          refine gC_0_1 C wd_1_213 dX6_read_34 ?_
          refine gnC_9_0 C nl_9 dX6_read_37 ?_
          refine s_iload_n C dX6_read_40 rfl (lv_at hl 1 rfl) ?_
          obtain ⟨hi9, hf⟩ := bI_some hf
          refine ldC_10 C hi9 dX6_read_41 ?_
          obtain ⟨v10, e11, hf⟩ := lt_some hf
          refine s_eq (g2 := F0 m 42 ls [.int v10]) (by rw [e11]) ?_
          clear e11
          refine s_istore (lv2 := [(4, .int v10), (0, .ref (h 0)), (1, .int x1), (2, .int x2), (3, .int x3)]) C dX6_read_42 hl (by decide) rfl ?_
          intro ls hl
          refine s_iload_n C dX6_read_44 rfl (lv_at hl 3 rfl) ?_
          refine s_iload C dX6_read_45 (lv_at hl 0 rfl) ?_
          refine s_icmp_lt (tgt := 57) C dX6_read_47 (by decide) (fun c12 => ?_) (fun c12 => ?_)
          · replace hf := it_t c12 hf
            refine s_iload_n C dX6_read_57 rfl (lv_at hl 3 rfl) ?_
            refine s_iload_n C dX6_read_58 rfl (lv_at hl 4 rfl) ?_
            refine s_iadd C dX6_read_59 ?_
            refine s_iload C dX6_read_60 (lv_at hl 0 rfl) ?_
            refine s_mmin C hl.1 dX6_read_62 wd_2_11 mm_min_s mm_in mm_min_c (Nat.le_of_ble_eq_true rfl) (Nat.le_of_ble_eq_true rfl) (Nat.zero_le _) (Nat.zero_le _) ?_
            obtain ⟨v13, e14, hf⟩ := lt_some hf
            refine s_eq (g2 := F0 m 65 ls [.int v13]) (by rw [e14]) ?_
            clear e14
            refine s_istore (lv2 := [(5, .int v13), (4, .int v10), (0, .ref (h 0)), (1, .int x1), (2, .int x2), (3, .int x3)]) C dX6_read_65 hl (by decide) rfl ?_
            intro ls hl
            refine s_iconst (v := (0 : Int32)) C dX6_read_67 (by decide) ?_
            refine s_istore (lv2 := [(6, .int (0 : Int32)), (5, .int v13), (4, .int v10), (0, .ref (h 0)), (1, .int x1), (2, .int x2), (3, .int x3)]) C dX6_read_68 hl (by decide) rfl ?_
            intro ls hl
            refine s_iload_n C dX6_read_70 rfl (lv_at hl 5 rfl) ?_
            refine s_bipush (v := (64 : Int32)) C dX6_read_71 (by decide) ?_
            refine s_idiv C dX6_read_73 (by decide) ?_
            obtain ⟨v15, e16, hf⟩ := lt_some hf
            refine s_eq (g2 := F0 m 74 ls [.int v15]) (by rw [e16]) ?_
            clear e16
            refine s_istore (lv2 := [(7, .int v15), (6, .int (0 : Int32)), (5, .int v13), (4, .int v10), (0, .ref (h 0)), (1, .int x1), (2, .int x2), (3, .int x3)]) C dX6_read_74 hl (by decide) rfl ?_
            intro ls hl
            exact L76 N _ _ _ _ _ _ hf _ (lv_sub hl [4, 5, 6, 2, 1, 0] rfl)
          · replace hf := it_f c12 hf
            refine s_aload_n C dX6_read_50 rfl (lv_at hl 1 rfl) ?_
            refine s_iconst (v := (0 : Int32)) C dX6_read_51 (by decide) ?_
            refine uC_0_7 C wd_1_219 dX6_read_52 ?_
            obtain ⟨σ24, e25, hf⟩ := lt_some hf
            refine s_w (ws2 := (wC h q nf nb σ24)) (by rw [e25]) ?_
            clear e25
            refine s_iconst (v := (0 : Int32)) C dX6_read_55 (by decide) ?_
            exact ret _ _ _ _ dX6_read_56 rfl (rt_2 hf).1 (congrArg (fun σ => (wC h q nf nb σ)) (rt_2 hf).2)
        · replace hf := it_f c6 hf
          refine s_bipush (v := (-2 : Int32)) C dX6_read_23 (by decide) ?_
          exact ret _ _ _ _ dX6_read_25 rfl (rt_2 hf).1 (congrArg (fun σ => (wC h q nf nb σ)) (rt_2 hf).2)
def pf_X6_run (N : Nat) (nf : Nat) (nb : Nat) (x1 : Int32) (x2 : Int32) (σ : St) : Option Int32 := if x2 < 0 then some (-2 : Int32) else if x2 ≤ (2 : Int32) then if x1 < 0 then some (-1 : Int32) else if x1 < (σ.1 3) then if x2 = (0 : Int32) then bI x1 (256) (some ((σ.2.1 6) (Int32.toNatClampNeg x1))) else if x2 = (1 : Int32) then bI x1 (256) (some ((σ.2.1 7) (Int32.toNatClampNeg x1))) else bI x1 (256) (some ((σ.2.1 8) (Int32.toNatClampNeg x1))) else some (-1 : Int32) else some (-2 : Int32)
theorem cx_X6_run : (yX6_run.cls ≠ "java/lang/invoke/MethodHandle" ∧ yX6_run.cls ≠ "java/lang/invoke/VarHandle" ∧ (parseMethodDescriptor yX6_run.desc).map (fun d => d.parameters.length) = some 2) := by decide +kernel
set_option maxHeartbeats 4000000 in
set_option maxRecDepth 100000 in
theorem c_X6_run (l : Launch) (D : va_G) (q : Nat → ClassId) (h : Nat → Nat) (N : Nat) (nf : Nat) (nb : Nat) (x1 : Int32) (x2 : Int32) (σ : St) (z : Int32) (hf : pf_X6_run N nf nb x1 x2 σ = some z) : MI l yX6_run cX6_run 3 (some .int) 0 0 D (tyQ q) [.ref (h 0), .int x1, .int x2] (wC h q nf nb σ) (wC h q nf nb σ) z := by
  refine MI.of (by decide) (Nat.le_of_ble_eq_true rfl) ?_
  intro p e s m args below meth c Q A C ret ls hl
  have hl : lv_has ls 3 [(0, .ref (h 0)), (1, .int x1), (2, .int x2)] := hl
  unfold pf_X6_run at hf
  refine s_iload_n C dX6_run_0 rfl (lv_at hl 2 rfl) ?_
  refine s_if_lt (tgt := 9) C dX6_run_1 (by decide) (fun c1 => ?_) (fun c1 => ?_)
  · replace hf := it_t c1 hf
    refine s_bipush (v := (-2 : Int32)) C dX6_run_9 (by decide) ?_
    exact ret _ _ _ _ dX6_run_11 rfl (rt_1 hf) rfl
  · replace hf := it_f c1 hf
    refine s_iload_n C dX6_run_4 rfl (lv_at hl 2 rfl) ?_
    refine s_iconst (v := (2 : Int32)) C dX6_run_5 (by decide) ?_
    refine s_icmp_le (tgt := 12) C dX6_run_6 (by decide) (fun c2 => ?_) (fun c2 => ?_)
    · replace hf := it_t c2 hf
      refine s_iload_n C dX6_run_12 rfl (lv_at hl 1 rfl) ?_
      refine s_if_lt (tgt := 27) C dX6_run_13 (by decide) (fun c3 => ?_) (fun c3 => ?_)
      · replace hf := it_t c3 hf
        refine s_iconst (v := (-1 : Int32)) C dX6_run_27 (by decide) ?_
        exact ret _ _ _ _ dX6_run_28 rfl (rt_1 hf) rfl
      · replace hf := it_f c3 hf
        refine s_iload_n C dX6_run_16 rfl (lv_at hl 1 rfl) ?_
        refine s_aload_n C dX6_run_17 rfl (lv_at hl 0 rfl) ?_
        refine gC_0_0 C wd_1_212 dX6_run_18 ?_
        refine gnC_1_9 C nl_8 dX6_run_21 ?_
        refine s_icmp_lt (tgt := 29) C dX6_run_24 (by decide) (fun c4 => ?_) (fun c4 => ?_)
        · replace hf := it_t c4 hf
          refine s_iload_n C dX6_run_29 rfl (lv_at hl 2 rfl) ?_
          by_cases c5 : x2 = (0 : Int32)
          · replace hf := it_t c5 hf
            refine s_lkp (off := 26) (tgt := 56) C dX6_run_30 (by decide) (by rw [c5] <;> rfl) (by decide) ?_
            refine s_aload_n C dX6_run_56 rfl (lv_at hl 0 rfl) ?_
            refine gC_0_0 C wd_1_212 dX6_run_57 ?_
            refine gnC_1_6 C nl_5 dX6_run_60 ?_
            refine s_iload_n C dX6_run_63 rfl (lv_at hl 1 rfl) ?_
            obtain ⟨hi6, hf⟩ := bI_some hf
            refine ldC_6 C hi6 dX6_run_64 ?_
            exact ret _ _ _ _ dX6_run_65 rfl (rt_1 hf) rfl
          · replace hf := it_f c5 hf
            by_cases c7 : x2 = (1 : Int32)
            · replace hf := it_t c7 hf
              refine s_lkp (off := 36) (tgt := 66) C dX6_run_30 (by decide) (by rw [c7] <;> rfl) (by decide) ?_
              refine s_aload_n C dX6_run_66 rfl (lv_at hl 0 rfl) ?_
              refine gC_0_0 C wd_1_212 dX6_run_67 ?_
              refine gnC_1_7 C nl_6 dX6_run_70 ?_
              refine s_iload_n C dX6_run_73 rfl (lv_at hl 1 rfl) ?_
              obtain ⟨hi8, hf⟩ := bI_some hf
              refine ldC_7 C hi8 dX6_run_74 ?_
              exact ret _ _ _ _ dX6_run_75 rfl (rt_1 hf) rfl
            · replace hf := it_f c7 hf
              refine s_lkp (off := 46) (tgt := 76) C dX6_run_30 (by decide) (by show Op.lookupswitch.offset _ _ _ = _; rw [lv_osw c5 (by decide), lv_osw c7 (by decide)] <;> rfl) (by decide) ?_
              refine s_aload_n C dX6_run_76 rfl (lv_at hl 0 rfl) ?_
              refine gC_0_0 C wd_1_212 dX6_run_77 ?_
              refine gnC_1_8 C nl_7 dX6_run_80 ?_
              refine s_iload_n C dX6_run_83 rfl (lv_at hl 1 rfl) ?_
              obtain ⟨hi9, hf⟩ := bI_some hf
              refine ldC_8 C hi9 dX6_run_84 ?_
              exact ret _ _ _ _ dX6_run_85 rfl (rt_1 hf) rfl
        · replace hf := it_f c4 hf
          refine s_iconst (v := (-1 : Int32)) C dX6_run_27 (by decide) ?_
          exact ret _ _ _ _ dX6_run_28 rfl (rt_1 hf) rfl
    · replace hf := it_f c2 hf
      refine s_bipush (v := (-2 : Int32)) C dX6_run_9 (by decide) ?_
      exact ret _ _ _ _ dX6_run_11 rfl (rt_1 hf) rfl
def pf_X6_size (N : Nat) (nf : Nat) (nb : Nat) (x1 : Int32) (σ : St) : Option Int32 := (pf_X6_isFile N x1).bind (fun z1 => if z1 = 0 then some (-2 : Int32) else bI x1 (12) (some ((σ.2.1 10) (Int32.toNatClampNeg x1))))
theorem cx_X6_size : (yX6_size.cls ≠ "java/lang/invoke/MethodHandle" ∧ yX6_size.cls ≠ "java/lang/invoke/VarHandle" ∧ (parseMethodDescriptor yX6_size.desc).map (fun d => d.parameters.length) = some 1) := by decide +kernel
set_option maxHeartbeats 4000000 in
set_option maxRecDepth 100000 in
theorem c_X6_size (l : Launch) (D : va_G) (q : Nat → ClassId) (h : Nat → Nat) (N : Nat) (nf : Nat) (nb : Nat) (x1 : Int32) (σ : St) (z : Int32) (hf : pf_X6_size N nf nb x1 σ = some z) : MI l yX6_size cX6_size 2 (some .int) 1 20 D (tyQ q) [.ref (h 0), .int x1] (wC h q nf nb σ) (wC h q nf nb σ) z := by
  refine MI.of (by decide) (Nat.le_of_ble_eq_true rfl) ?_
  intro p e s m args below meth c Q A C ret ls hl
  have hl : lv_has ls 2 [(0, .ref (h 0)), (1, .int x1)] := hl
  unfold pf_X6_size at hf
  refine s_iload_n C dX6_size_0 rfl (lv_at hl 1 rfl) ?_
  obtain ⟨z1, h2, hf⟩ := bn_some hf
  refine s_callIS (As := [.int x1]) (rest := []) C (c_X6_isFile l D q (wC h q nf nb σ) N x1  z1 h2) ⟨wd_2_4, wd_2_5, wd_1_1, wd_2_6, cx_X6_isFile, Nat.le_of_ble_eq_true rfl, Nat.le_of_ble_eq_true rfl⟩ (SubW.full _ _) rfl hl.1 rfl (Nat.le_of_ble_eq_true rfl) dX6_size_1 (Nat.zero_le _) (Nat.zero_le _) ?_
  refine s_if_eq (tgt := 19) C dX6_size_4 (by decide) (fun c3 => ?_) (fun c3 => ?_)
  · replace hf := it_t c3 hf
    refine s_bipush (v := (-2 : Int32)) C dX6_size_19 (by decide) ?_
    exact ret _ _ _ _ dX6_size_21 rfl (rt_1 hf) rfl
  · replace hf := it_f c3 hf
    refine s_aload_n C dX6_size_7 rfl (lv_at hl 0 rfl) ?_
    refine gC_0_1 C wd_1_213 dX6_size_8 ?_
    refine gnC_9_0 C nl_9 dX6_size_11 ?_
    refine s_iload_n C dX6_size_14 rfl (lv_at hl 1 rfl) ?_
    obtain ⟨hi4, hf⟩ := bI_some hf
    refine ldC_10 C hi4 dX6_size_15 ?_
    refine s_goto (tgt := 21) C dX6_size_16 (by decide) ?_
    exact ret _ _ _ _ dX6_size_21 rfl (rt_1 hf) rfl
def pf_X6_sync_b66 (N : Nat) (nf : Nat) (nb : Nat) (J21 : Int32 → Int32 → Int32 → St → Option (Int32 × St)) (x1 : Int32) (x2 : Int32) (x3 : Int32) (σ : St) : Option (Int32 × St) := J21 x1 x2 (x3 + 1) σ
def pf_X6_sync_L21 (N : Nat) (nf : Nat) (nb : Nat) : Nat → Int32 → Int32 → Int32 → St → Option (Int32 × St)
  | 0, _, _, _, _ => none
  | n + 1, x1, x2, x3, σ => if (256 : Int32) ≤ x3 then bI x1 (12) (lt_ ((σ.2.1 13) (Int32.toNatClampNeg x1)) (fun v8 => bI x1 (12) (lt_ (sA σ 13 (upd (σ.2.1 13) (Int32.toNatClampNeg x1) (0 : Int32))) (fun σ11 => if v8 = 0 then some (x2, σ11) else some (v8, σ11))))) else (pf_X6_spotOf N x1 x3).bind (fun z14 => (pf_X2_frameOf N nf nb z14 σ).bind (fun z16 => (pf_X2_isDirty N nf nb z16 σ).bind (fun z18 => if z18 = 0 then pf_X6_sync_b66 N nf nb (pf_X6_sync_L21 N nf nb n) x1 x2 x3 σ else (pf_X6_flush N nf nb z16 σ).bind (fun z21 => if z21.1 = 0 then pf_X6_sync_b66 N nf nb (pf_X6_sync_L21 N nf nb n) x1 x2 x3 z21.2 else pf_X6_sync_b66 N nf nb (pf_X6_sync_L21 N nf nb n) x1 (x2 + 1) x3 z21.2))))
def pf_X6_sync (N : Nat) (nf : Nat) (nb : Nat) (x1 : Int32) (σ : St) : Option (Int32 × St) := (pf_X6_isFile N x1).bind (fun z1 => if z1 = 0 then some ((-2 : Int32), σ) else (pf_X0_begin N nf nb σ).bind (fun z4 => pf_X6_sync_L21 N nf nb N x1 (0 : Int32) (0 : Int32) z4))
theorem cx_X6_sync : (yX6_sync.cls ≠ "java/lang/invoke/MethodHandle" ∧ yX6_sync.cls ≠ "java/lang/invoke/VarHandle" ∧ (parseMethodDescriptor yX6_sync.desc).map (fun d => d.parameters.length) = some 1) := by decide +kernel
set_option maxHeartbeats 4000000 in
set_option maxRecDepth 100000 in
theorem c_X6_sync (l : Launch) (D : va_G) (q : Nat → ClassId) (h : Nat → Nat) (N : Nat) (nf : Nat) (nb : Nat) (x1 : Int32) (σ : St) (z : (Int32 × St)) (hf : pf_X6_sync N nf nb x1 σ = some z) : MI l yX6_sync cX6_sync 5 (some .int) 3 75 D (tyQ q) [.ref (h 0), .int x1] (wC h q nf nb σ) (wC h q nf nb z.2) z.1 := by
  refine MI.of (by decide) (Nat.le_of_ble_eq_true rfl) ?_
  intro p e s m args below meth c Q A C ret ls hl
  have hl : lv_has ls 5 [(0, .ref (h 0)), (1, .int x1)] := hl
  unfold pf_X6_sync at hf
  have b66 : ∀ (J21 : Int32 → Int32 → Int32 → St → Option (Int32 × St)) (hJ21 : ∀ (x1 : Int32) (x2 : Int32) (x3 : Int32) (σ : St), J21 x1 x2 x3 σ = some z → ∀ ls : Array Slot, lv_has ls 5 [(0, .ref (h 0)), (1, .int x1), (2, .int x2), (3, .int x3)] → WG p l e (rmO 3 75) s m args below meth c D A 0 0 Q (wC h q nf nb σ) (F0 m 21 ls [])) (x1 : Int32) (x2 : Int32) (x3 : Int32) (σ : St), pf_X6_sync_b66 N nf nb J21 x1 x2 x3 σ = some z → ∀ ls : Array Slot, lv_has ls 5 [(0, .ref (h 0)), (1, .int x1), (2, .int x2), (3, .int x3)] → WG p l e (rmO 3 75) s m args below meth c D A 0 0 Q (wC h q nf nb σ) (F0 m 66 ls []) := by
    intro J21 hJ21 x1 x2 x3 σ hf ls hl
    unfold pf_X6_sync_b66 at hf
    refine s_iinc (v := (x3 + 1)) (lv2 := [(3, .int (x3 + 1)), (0, .ref (h 0)), (1, .int x1), (2, .int x2)]) C 3 dX6_sync_66 hl rfl rfl (by decide) rfl ?_
    intro ls hl
    refine s_goto (tgt := 21) C dX6_sync_69 (by decide) ?_
    exact hJ21 _ _ _ _ hf _ (lv_sub hl [1, 2, 3, 0] rfl)
  have L21 : ∀ (n : Nat) (x1 : Int32) (x2 : Int32) (x3 : Int32) (σ : St), pf_X6_sync_L21 N nf nb n x1 x2 x3 σ = some z → ∀ ls : Array Slot, lv_has ls 5 [(0, .ref (h 0)), (1, .int x1), (2, .int x2), (3, .int x3)] → WG p l e (rmO 3 75) s m args below meth c D A 0 0 Q (wC h q nf nb σ) (F0 m 21 ls []) := by
    intro n
    induction n with
    | zero => intro x1 x2 x3 σ hf; unfold pf_X6_sync_L21 at hf; cases hf
    | succ n ih =>
      intro x1 x2 x3 σ hf ls hl
      unfold pf_X6_sync_L21 at hf
      refine s_iload_n C dX6_sync_21 rfl (lv_at hl 3 rfl) ?_
      refine s_sipush (v := (256 : Int32)) C dX6_sync_22 (by decide) ?_
      refine s_icmp_ge (tgt := 72) C dX6_sync_25 (by decide) (fun c6 => ?_) (fun c6 => ?_)
      · replace hf := it_t c6 hf
        refine s_aload_n C dX6_sync_72 rfl (lv_at hl 0 rfl) ?_
        refine gC_0_1 C wd_1_213 dX6_sync_73 ?_
        refine gnC_9_3 C nl_12 dX6_sync_76 ?_
        refine s_iload_n C dX6_sync_79 rfl (lv_at hl 1 rfl) ?_
        obtain ⟨hi7, hf⟩ := bI_some hf
        refine ldC_13 C hi7 dX6_sync_80 ?_
        obtain ⟨v8, e9, hf⟩ := lt_some hf
        refine s_eq (g2 := F0 m 81 ls [.int v8]) (by rw [e9]) ?_
        clear e9
        refine s_istore_n (lv2 := [(3, .int v8), (0, .ref (h 0)), (1, .int x1), (2, .int x2)]) C dX6_sync_81 rfl hl (by decide) rfl ?_
        intro ls hl
        refine s_aload_n C dX6_sync_82 rfl (lv_at hl 1 rfl) ?_
        refine gC_0_1 C wd_1_213 dX6_sync_83 ?_
        refine gnC_9_3 C nl_12 dX6_sync_86 ?_
        refine s_iload_n C dX6_sync_89 rfl (lv_at hl 2 rfl) ?_
        refine s_iconst (v := (0 : Int32)) C dX6_sync_90 (by decide) ?_
        obtain ⟨hi10, hf⟩ := bI_some hf
        refine stC_13 C hi10 dX6_sync_91 ?_
        obtain ⟨σ11, e12, hf⟩ := lt_some hf
        refine s_w (ws2 := (wC h q nf nb σ11)) (by rw [e12]) ?_
        clear e12
        refine s_iload_n C dX6_sync_92 rfl (lv_at hl 0 rfl) ?_
        refine s_if_eq (tgt := 100) C dX6_sync_93 (by decide) (fun c13 => ?_) (fun c13 => ?_)
        · replace hf := it_t c13 hf
          refine s_iload_n C dX6_sync_100 rfl (lv_at hl 3 rfl) ?_
          exact ret _ _ _ _ dX6_sync_101 rfl (rt_2 hf).1 (congrArg (fun σ => (wC h q nf nb σ)) (rt_2 hf).2)
        · replace hf := it_f c13 hf
          refine s_iload_n C dX6_sync_96 rfl (lv_at hl 0 rfl) ?_
          refine s_goto (tgt := 101) C dX6_sync_97 (by decide) ?_
          exact ret _ _ _ _ dX6_sync_101 rfl (rt_2 hf).1 (congrArg (fun σ => (wC h q nf nb σ)) (rt_2 hf).2)
      · replace hf := it_f c6 hf
        refine s_aload_n C dX6_sync_28 rfl (lv_at hl 0 rfl) ?_
        refine gC_0_2 C wd_1_214 dX6_sync_29 ?_
        refine s_iload_n C dX6_sync_32 rfl (lv_at hl 1 rfl) ?_
        refine s_iload_n C dX6_sync_33 rfl (lv_at hl 3 rfl) ?_
        obtain ⟨z14, h15, hf⟩ := bn_some hf
        refine s_callIS (As := [.int x1, .int x3]) (rest := [.ref (h 14)]) C (c_X6_spotOf l D q (wC h q nf nb σ) N x1 x3  z14 h15) ⟨wd_2_18, wd_2_19, wd_1_1, wd_2_20, cx_X6_spotOf, Nat.le_of_ble_eq_true rfl, Nat.le_of_ble_eq_true rfl⟩ (SubW.full _ _) rfl hl.1 rfl (Nat.le_of_ble_eq_true rfl) dX6_sync_34 (Nat.zero_le _) (Nat.zero_le _) ?_
        obtain ⟨z16, h17, hf⟩ := bn_some hf
        refine s_callIV (As := [.int z14]) (rest := []) C (c_X2_frameOf l D q h N nf nb z14 σ z16 h17) ⟨wd_2_21, wd_2_22, wd_2_23, wd_1_7, wd_2_24, cx_X2_frameOf, Nat.le_of_ble_eq_true rfl, Nat.le_of_ble_eq_true rfl⟩ 14 (ci := 2) rfl rfl rfl (SubW.full _ _) rfl hl.1 rfl (Nat.le_of_ble_eq_true rfl) dX6_sync_37 (Nat.zero_le _) (Nat.zero_le _) ?_
        refine s_istore (lv2 := [(4, .int z16), (0, .ref (h 0)), (1, .int x1), (2, .int x2), (3, .int x3)]) C dX6_sync_40 hl (by decide) rfl ?_
        intro ls hl
        refine s_aload_n C dX6_sync_42 rfl (lv_at hl 1 rfl) ?_
        refine gC_0_2 C wd_1_214 dX6_sync_43 ?_
        refine s_iload C dX6_sync_46 (lv_at hl 0 rfl) ?_
        obtain ⟨z18, h19, hf⟩ := bn_some hf
        refine s_callIV (As := [.int z16]) (rest := []) C (c_X2_isDirty l D q h N nf nb z16 σ z18 h19) ⟨wd_2_74, wd_2_75, wd_2_76, wd_1_7, wd_2_77, cx_X2_isDirty, Nat.le_of_ble_eq_true rfl, Nat.le_of_ble_eq_true rfl⟩ 14 (ci := 2) rfl rfl rfl (SubW.full _ _) rfl hl.1 rfl (Nat.le_of_ble_eq_true rfl) dX6_sync_48 (Nat.zero_le _) (Nat.zero_le _) ?_
        refine s_if_eq (tgt := 66) C dX6_sync_51 (by decide) (fun c20 => ?_) (fun c20 => ?_)
        · replace hf := it_t c20 hf
          exact b66 _ ih _ _ _ _ hf _ (lv_sub hl [1, 2, 3, 4] rfl)
        · replace hf := it_f c20 hf
          refine s_aload_n C dX6_sync_54 rfl (lv_at hl 1 rfl) ?_
          refine s_iload C dX6_sync_55 (lv_at hl 0 rfl) ?_
          obtain ⟨z21, h22, hf⟩ := bn_some hf
          refine s_callIV (As := [.int z16]) (rest := []) C (c_X6_flush l D q h N nf nb z16 σ z21 h22) ⟨wd_2_78, wd_2_80, wd_s_4, wd_1_1, wd_2_81, cx_X6_flush, Nat.le_of_ble_eq_true rfl, Nat.le_of_ble_eq_true rfl⟩ 0 (ci := 6) rfl rfl rfl (SubW.full _ _) rfl hl.1 rfl (Nat.le_of_ble_eq_true rfl) dX6_sync_57 (Nat.zero_le _) (Nat.zero_le _) ?_
          refine s_if_eq (tgt := 66) C dX6_sync_60 (by decide) (fun c23 => ?_) (fun c23 => ?_)
          · replace hf := it_t c23 hf
            exact b66 _ ih _ _ _ _ hf _ (lv_sub hl [1, 2, 3, 4] rfl)
          · replace hf := it_f c23 hf
            refine s_iinc (v := (x2 + 1)) (lv2 := [(2, .int (x2 + 1)), (4, .int z16), (0, .ref (h 0)), (1, .int x1), (3, .int x3)]) C 3 dX6_sync_63 hl rfl rfl (by decide) rfl ?_
            intro ls hl
            exact b66 _ ih _ _ _ _ hf _ (lv_sub hl [2, 3, 0, 4] rfl)
  refine s_iload_n C dX6_sync_0 rfl (lv_at hl 1 rfl) ?_
  obtain ⟨z1, h2, hf⟩ := bn_some hf
  refine s_callIS (As := [.int x1]) (rest := []) C (c_X6_isFile l D q (wC h q nf nb σ) N x1  z1 h2) ⟨wd_2_4, wd_2_5, wd_1_1, wd_2_6, cx_X6_isFile, Nat.le_of_ble_eq_true rfl, Nat.le_of_ble_eq_true rfl⟩ (SubW.full _ _) rfl hl.1 rfl (Nat.le_of_ble_eq_true rfl) dX6_sync_1 (Nat.zero_le _) (Nat.zero_le _) ?_
  refine s_if_ne (tgt := 10) C dX6_sync_4 (by decide) (fun c3 => ?_) (fun c3 => ?_)
  · replace hf := it_f c3 hf
    refine s_aload_n C dX6_sync_10 rfl (lv_at hl 0 rfl) ?_
    refine gC_0_0 C wd_1_212 dX6_sync_11 ?_
    obtain ⟨z4, h5, hf⟩ := bn_some hf
    refine s_callVV (As := []) (rest := []) C (c_X0_begin l D q h N nf nb σ z4 h5) ⟨wd_2_7, wd_2_8, wd_2_9, wd_1_4, wd_2_10, cx_X0_begin, Nat.le_of_ble_eq_true rfl, Nat.le_of_ble_eq_true rfl⟩ 1 (ci := 0) rfl rfl rfl (SubW.full _ _) rfl hl.1 rfl (Nat.le_of_ble_eq_true rfl) dX6_sync_14 (Nat.zero_le _) (Nat.zero_le _) ?_
    refine s_iconst (v := (0 : Int32)) C dX6_sync_17 (by decide) ?_
    refine s_istore_n (lv2 := [(2, .int (0 : Int32)), (0, .ref (h 0)), (1, .int x1)]) C dX6_sync_18 rfl hl (by decide) rfl ?_
    intro ls hl
    refine s_iconst (v := (0 : Int32)) C dX6_sync_19 (by decide) ?_
    refine s_istore_n (lv2 := [(3, .int (0 : Int32)), (2, .int (0 : Int32)), (0, .ref (h 0)), (1, .int x1)]) C dX6_sync_20 rfl hl (by decide) rfl ?_
    intro ls hl
    exact L21 N _ _ _ _ hf _ (lv_sub hl [2, 3, 1, 0] rfl)
  · replace hf := it_t c3 hf
    refine s_bipush (v := (-2 : Int32)) C dX6_sync_7 (by decide) ?_
    exact ret _ _ _ _ dX6_sync_9 rfl (rt_2 hf).1 (congrArg (fun σ => (wC h q nf nb σ)) (rt_2 hf).2)
def pf_X6_syncAll_b87 (N : Nat) (nf : Nat) (nb : Nat) (J56 : Int32 → Int32 → Int32 → St → Option (Int32 × St)) (x1 : Int32) (x2 : Int32) (x3 : Int32) (σ : St) : Option (Int32 × St) := (pf_X6_leastDirtyBlock N nf nb x2 σ).bind (fun z13 => J56 x1 z13 (x3 + 1) σ)
def pf_X6_syncAll_L56 (N : Nat) (nf : Nat) (nb : Nat) : Nat → Int32 → Int32 → Int32 → St → Option (Int32 × St)
  | 0, _, _, _, _ => none
  | n + 1, x1, x2, x3, σ => if (σ.1 5) ≤ x3 then some (x1, σ) else if x2 = (-1 : Int32) then some (x1, σ) else (pf_X6_dirtyFrameAt N nf nb x2 σ).bind (fun z8 => (pf_X6_flush N nf nb z8 σ).bind (fun z10 => if z10.1 = 0 then pf_X6_syncAll_b87 N nf nb (pf_X6_syncAll_L56 N nf nb n) x1 x2 x3 z10.2 else pf_X6_syncAll_b87 N nf nb (pf_X6_syncAll_L56 N nf nb n) (x1 + 1) x2 x3 z10.2))
def pf_X6_syncAll_b40 (N : Nat) (nf : Nat) (nb : Nat) (J9 : Int32 → St → Option (Int32 × St)) (x1 : Int32) (σ : St) : Option (Int32 × St) := J9 (x1 + 1) σ
def pf_X6_syncAll_L9 (N : Nat) (nf : Nat) (nb : Nat) : Nat → Int32 → St → Option (Int32 × St)
  | 0, _, _ => none
  | n + 1, x1, σ => if (3072 : Int32) ≤ x1 then (pf_X6_leastDirtyBlock N nf nb (-1 : Int32) σ).bind (fun z4 => pf_X6_syncAll_L56 N nf nb N (0 : Int32) z4 (0 : Int32) σ) else (pf_X2_frameOf N nf nb x1 σ).bind (fun z15 => (pf_X2_isDirty N nf nb z15 σ).bind (fun z17 => if z17 = 0 then pf_X6_syncAll_b40 N nf nb (pf_X6_syncAll_L9 N nf nb n) x1 σ else (pf_X6_giveBlock N nf nb x1 σ).bind (fun z20 => pf_X6_syncAll_b40 N nf nb (pf_X6_syncAll_L9 N nf nb n) x1 z20.2)))
def pf_X6_syncAll (N : Nat) (nf : Nat) (nb : Nat) (σ : St) : Option (Int32 × St) := (pf_X0_begin N nf nb σ).bind (fun z1 => pf_X6_syncAll_L9 N nf nb N (0 : Int32) z1)
theorem cx_X6_syncAll : (yX6_syncAll.cls ≠ "java/lang/invoke/MethodHandle" ∧ yX6_syncAll.cls ≠ "java/lang/invoke/VarHandle" ∧ (parseMethodDescriptor yX6_syncAll.desc).map (fun d => d.parameters.length) = some 0) := by decide +kernel
set_option maxHeartbeats 4000000 in
set_option maxRecDepth 100000 in
theorem c_X6_syncAll (l : Launch) (D : va_G) (q : Nat → ClassId) (h : Nat → Nat) (N : Nat) (nf : Nat) (nb : Nat) (σ : St) (z : (Int32 × St)) (hf : pf_X6_syncAll N nf nb σ = some z) : MI l yX6_syncAll cX6_syncAll 4 (some .int) 3 75 D (tyQ q) [.ref (h 0)] (wC h q nf nb σ) (wC h q nf nb z.2) z.1 := by
  refine MI.of (by decide) (Nat.le_of_ble_eq_true rfl) ?_
  intro p e s m args below meth c Q A C ret ls hl
  have hl : lv_has ls 4 [(0, .ref (h 0))] := hl
  unfold pf_X6_syncAll at hf
  have b87 : ∀ (J56 : Int32 → Int32 → Int32 → St → Option (Int32 × St)) (hJ56 : ∀ (x1 : Int32) (x2 : Int32) (x3 : Int32) (σ : St), J56 x1 x2 x3 σ = some z → ∀ ls : Array Slot, lv_has ls 4 [(0, .ref (h 0)), (1, .int x1), (2, .int x2), (3, .int x3)] → WG p l e (rmO 3 75) s m args below meth c D A 0 0 Q (wC h q nf nb σ) (F0 m 56 ls [])) (x1 : Int32) (x2 : Int32) (x3 : Int32) (σ : St), pf_X6_syncAll_b87 N nf nb J56 x1 x2 x3 σ = some z → ∀ ls : Array Slot, lv_has ls 4 [(0, .ref (h 0)), (1, .int x1), (2, .int x2), (3, .int x3)] → WG p l e (rmO 3 75) s m args below meth c D A 0 0 Q (wC h q nf nb σ) (F0 m 87 ls []) := by
    intro J56 hJ56 x1 x2 x3 σ hf ls hl
    unfold pf_X6_syncAll_b87 at hf
    refine s_aload_n C dX6_syncAll_87 rfl (lv_at hl 0 rfl) ?_
    refine s_iload_n C dX6_syncAll_88 rfl (lv_at hl 2 rfl) ?_
    obtain ⟨z13, h14, hf⟩ := bn_some hf
    refine s_callIV (As := [.int x2]) (rest := []) C (c_X6_leastDirtyBlock l D q h N nf nb x2 σ z13 h14) ⟨wd_3_21, wd_3_23, wd_s_14, wd_1_1, wd_3_24, cx_X6_leastDirtyBlock, Nat.le_of_ble_eq_true rfl, Nat.le_of_ble_eq_true rfl⟩ 0 (ci := 6) rfl rfl rfl (SubW.full _ _) rfl hl.1 rfl (Nat.le_of_ble_eq_true rfl) dX6_syncAll_89 (Nat.zero_le _) (Nat.zero_le _) ?_
    refine s_istore_n (lv2 := [(2, .int z13), (0, .ref (h 0)), (1, .int x1), (3, .int x3)]) C dX6_syncAll_92 rfl hl (by decide) rfl ?_
    intro ls hl
    refine s_iinc (v := (x3 + 1)) (lv2 := [(3, .int (x3 + 1)), (2, .int z13), (0, .ref (h 0)), (1, .int x1)]) C 3 dX6_syncAll_93 hl rfl rfl (by decide) rfl ?_
    intro ls hl
    refine s_goto (tgt := 56) C dX6_syncAll_96 (by decide) ?_
    exact hJ56 _ _ _ _ hf _ (lv_sub hl [2, 3, 1, 0] rfl)
  have L56 : ∀ (n : Nat) (x1 : Int32) (x2 : Int32) (x3 : Int32) (σ : St), pf_X6_syncAll_L56 N nf nb n x1 x2 x3 σ = some z → ∀ ls : Array Slot, lv_has ls 4 [(0, .ref (h 0)), (1, .int x1), (2, .int x2), (3, .int x3)] → WG p l e (rmO 3 75) s m args below meth c D A 0 0 Q (wC h q nf nb σ) (F0 m 56 ls []) := by
    intro n
    induction n with
    | zero => intro x1 x2 x3 σ hf; unfold pf_X6_syncAll_L56 at hf; cases hf
    | succ n ih =>
      intro x1 x2 x3 σ hf ls hl
      unfold pf_X6_syncAll_L56 at hf
      refine s_iload_n C dX6_syncAll_56 rfl (lv_at hl 3 rfl) ?_
      refine s_aload_n C dX6_syncAll_57 rfl (lv_at hl 0 rfl) ?_
      refine gC_0_2 C wd_1_214 dX6_syncAll_58 ?_
      refine gnC_14_0 C nl_15 dX6_syncAll_61 ?_
      refine s_icmp_ge (tgt := 99) C dX6_syncAll_64 (by decide) (fun c6 => ?_) (fun c6 => ?_)
      · replace hf := it_t c6 hf
        refine s_iload_n C dX6_syncAll_99 rfl (lv_at hl 1 rfl) ?_
        exact ret _ _ _ _ dX6_syncAll_100 rfl (rt_2 hf).1 (congrArg (fun σ => (wC h q nf nb σ)) (rt_2 hf).2)
      · replace hf := it_f c6 hf
        refine s_iload_n C dX6_syncAll_67 rfl (lv_at hl 2 rfl) ?_
        refine s_iconst (v := (-1 : Int32)) C dX6_syncAll_68 (by decide) ?_
        refine s_icmp_eq (tgt := 99) C dX6_syncAll_69 (by decide) (fun c7 => ?_) (fun c7 => ?_)
        · replace hf := it_t c7 hf
          refine s_iload_n C dX6_syncAll_99 rfl (lv_at hl 1 rfl) ?_
          exact ret _ _ _ _ dX6_syncAll_100 rfl (rt_2 hf).1 (congrArg (fun σ => (wC h q nf nb σ)) (rt_2 hf).2)
        · replace hf := it_f c7 hf
          refine s_aload_n C dX6_syncAll_72 rfl (lv_at hl 0 rfl) ?_
          refine s_aload_n C dX6_syncAll_73 rfl (lv_at hl 0 rfl) ?_
          refine s_iload_n C dX6_syncAll_74 rfl (lv_at hl 2 rfl) ?_
          obtain ⟨z8, h9, hf⟩ := bn_some hf
          refine s_callIV (As := [.int x2]) (rest := [.ref (h 0)]) C (c_X6_dirtyFrameAt l D q h N nf nb x2 σ z8 h9) ⟨wd_3_29, wd_3_31, wd_s_16, wd_1_1, wd_3_32, cx_X6_dirtyFrameAt, Nat.le_of_ble_eq_true rfl, Nat.le_of_ble_eq_true rfl⟩ 0 (ci := 6) rfl rfl rfl (SubW.full _ _) rfl hl.1 rfl (Nat.le_of_ble_eq_true rfl) dX6_syncAll_75 (Nat.zero_le _) (Nat.zero_le _) ?_
          obtain ⟨z10, h11, hf⟩ := bn_some hf
          refine s_callIV (As := [.int z8]) (rest := []) C (c_X6_flush l D q h N nf nb z8 σ z10 h11) ⟨wd_2_78, wd_2_80, wd_s_4, wd_1_1, wd_2_81, cx_X6_flush, Nat.le_of_ble_eq_true rfl, Nat.le_of_ble_eq_true rfl⟩ 0 (ci := 6) rfl rfl rfl (SubW.full _ _) rfl hl.1 rfl (Nat.le_of_ble_eq_true rfl) dX6_syncAll_78 (Nat.zero_le _) (Nat.zero_le _) ?_
          refine s_if_eq (tgt := 87) C dX6_syncAll_81 (by decide) (fun c12 => ?_) (fun c12 => ?_)
          · replace hf := it_t c12 hf
            exact b87 _ ih _ _ _ _ hf _ (lv_sub hl [0, 1, 2, 3] rfl)
          · replace hf := it_f c12 hf
            refine s_iinc (v := (x1 + 1)) (lv2 := [(1, .int (x1 + 1)), (0, .ref (h 0)), (2, .int x2), (3, .int x3)]) C 1 dX6_syncAll_84 hl rfl rfl (by decide) rfl ?_
            intro ls hl
            exact b87 _ ih _ _ _ _ hf _ (lv_sub hl [1, 0, 2, 3] rfl)
  have b40 : ∀ (J9 : Int32 → St → Option (Int32 × St)) (hJ9 : ∀ (x1 : Int32) (σ : St), J9 x1 σ = some z → ∀ ls : Array Slot, lv_has ls 4 [(0, .ref (h 0)), (1, .int x1)] → WG p l e (rmO 3 75) s m args below meth c D A 0 0 Q (wC h q nf nb σ) (F0 m 9 ls [])) (x1 : Int32) (σ : St), pf_X6_syncAll_b40 N nf nb J9 x1 σ = some z → ∀ ls : Array Slot, lv_has ls 4 [(0, .ref (h 0)), (1, .int x1)] → WG p l e (rmO 3 75) s m args below meth c D A 0 0 Q (wC h q nf nb σ) (F0 m 40 ls []) := by
    intro J9 hJ9 x1 σ hf ls hl
    unfold pf_X6_syncAll_b40 at hf
    refine s_iinc (v := (x1 + 1)) (lv2 := [(1, .int (x1 + 1)), (0, .ref (h 0))]) C 1 dX6_syncAll_40 hl rfl rfl (by decide) rfl ?_
    intro ls hl
    refine s_goto (tgt := 9) C dX6_syncAll_43 (by decide) ?_
    exact hJ9 _ _ hf _ (lv_sub hl [1, 0] rfl)
  have L9 : ∀ (n : Nat) (x1 : Int32) (σ : St), pf_X6_syncAll_L9 N nf nb n x1 σ = some z → ∀ ls : Array Slot, lv_has ls 4 [(0, .ref (h 0)), (1, .int x1)] → WG p l e (rmO 3 75) s m args below meth c D A 0 0 Q (wC h q nf nb σ) (F0 m 9 ls []) := by
    intro n
    induction n with
    | zero => intro x1 σ hf; unfold pf_X6_syncAll_L9 at hf; cases hf
    | succ n ih =>
      intro x1 σ hf ls hl
      unfold pf_X6_syncAll_L9 at hf
      refine s_iload_n C dX6_syncAll_9 rfl (lv_at hl 1 rfl) ?_
      refine s_sipush (v := (3072 : Int32)) C dX6_syncAll_10 (by decide) ?_
      refine s_icmp_ge (tgt := 46) C dX6_syncAll_13 (by decide) (fun c3 => ?_) (fun c3 => ?_)
      · replace hf := it_t c3 hf
        refine s_iconst (v := (0 : Int32)) C dX6_syncAll_46 (by decide) ?_
        refine s_istore_n (lv2 := [(1, .int (0 : Int32)), (0, .ref (h 0))]) C dX6_syncAll_47 rfl hl (by decide) rfl ?_
        intro ls hl
        refine s_aload_n C dX6_syncAll_48 rfl (lv_at hl 1 rfl) ?_
        refine s_iconst (v := (-1 : Int32)) C dX6_syncAll_49 (by decide) ?_
        obtain ⟨z4, h5, hf⟩ := bn_some hf
        refine s_callIV (As := [.int (-1 : Int32)]) (rest := []) C (c_X6_leastDirtyBlock l D q h N nf nb (-1 : Int32) σ z4 h5) ⟨wd_3_21, wd_3_23, wd_s_14, wd_1_1, wd_3_24, cx_X6_leastDirtyBlock, Nat.le_of_ble_eq_true rfl, Nat.le_of_ble_eq_true rfl⟩ 0 (ci := 6) rfl rfl rfl (SubW.full _ _) rfl hl.1 rfl (Nat.le_of_ble_eq_true rfl) dX6_syncAll_50 (Nat.zero_le _) (Nat.zero_le _) ?_
        refine s_istore_n (lv2 := [(2, .int z4), (1, .int (0 : Int32)), (0, .ref (h 0))]) C dX6_syncAll_53 rfl hl (by decide) rfl ?_
        intro ls hl
        refine s_iconst (v := (0 : Int32)) C dX6_syncAll_54 (by decide) ?_
        refine s_istore_n (lv2 := [(3, .int (0 : Int32)), (2, .int z4), (1, .int (0 : Int32)), (0, .ref (h 0))]) C dX6_syncAll_55 rfl hl (by decide) rfl ?_
        intro ls hl
        exact L56 N _ _ _ _ hf _ (lv_sub hl [3, 2, 1, 0] rfl)
      · replace hf := it_f c3 hf
        refine s_aload_n C dX6_syncAll_16 rfl (lv_at hl 0 rfl) ?_
        refine gC_0_2 C wd_1_214 dX6_syncAll_17 ?_
        refine s_aload_n C dX6_syncAll_20 rfl (lv_at hl 0 rfl) ?_
        refine gC_0_2 C wd_1_214 dX6_syncAll_21 ?_
        refine s_iload_n C dX6_syncAll_24 rfl (lv_at hl 1 rfl) ?_
        obtain ⟨z15, h16, hf⟩ := bn_some hf
        refine s_callIV (As := [.int x1]) (rest := [.ref (h 14)]) C (c_X2_frameOf l D q h N nf nb x1 σ z15 h16) ⟨wd_2_21, wd_2_22, wd_2_23, wd_1_7, wd_2_24, cx_X2_frameOf, Nat.le_of_ble_eq_true rfl, Nat.le_of_ble_eq_true rfl⟩ 14 (ci := 2) rfl rfl rfl (SubW.full _ _) rfl hl.1 rfl (Nat.le_of_ble_eq_true rfl) dX6_syncAll_25 (Nat.zero_le _) (Nat.zero_le _) ?_
        obtain ⟨z17, h18, hf⟩ := bn_some hf
        refine s_callIV (As := [.int z15]) (rest := []) C (c_X2_isDirty l D q h N nf nb z15 σ z17 h18) ⟨wd_2_74, wd_2_75, wd_2_76, wd_1_7, wd_2_77, cx_X2_isDirty, Nat.le_of_ble_eq_true rfl, Nat.le_of_ble_eq_true rfl⟩ 14 (ci := 2) rfl rfl rfl (SubW.full _ _) rfl hl.1 rfl (Nat.le_of_ble_eq_true rfl) dX6_syncAll_28 (Nat.zero_le _) (Nat.zero_le _) ?_
        refine s_if_eq (tgt := 40) C dX6_syncAll_31 (by decide) (fun c19 => ?_) (fun c19 => ?_)
        · replace hf := it_t c19 hf
          exact b40 _ ih _ _ hf _ (lv_sub hl [0, 1] rfl)
        · replace hf := it_f c19 hf
          refine s_aload_n C dX6_syncAll_34 rfl (lv_at hl 0 rfl) ?_
          refine s_iload_n C dX6_syncAll_35 rfl (lv_at hl 1 rfl) ?_
          obtain ⟨z20, h21, hf⟩ := bn_some hf
          refine s_callIV (As := [.int x1]) (rest := []) C (c_X6_giveBlock l D q h N nf nb x1 σ z20 h21) ⟨wd_2_86, wd_2_88, wd_s_5, wd_1_1, wd_2_89, cx_X6_giveBlock, Nat.le_of_ble_eq_true rfl, Nat.le_of_ble_eq_true rfl⟩ 0 (ci := 6) rfl rfl rfl (SubW.full _ _) rfl hl.1 rfl (Nat.le_of_ble_eq_true rfl) dX6_syncAll_36 (Nat.zero_le _) (Nat.zero_le _) ?_
          refine s_pop C dX6_syncAll_39 rfl ?_
          exact b40 _ ih _ _ hf _ (lv_sub hl [0, 1] rfl)
  refine s_aload_n C dX6_syncAll_0 rfl (lv_at hl 0 rfl) ?_
  refine gC_0_0 C wd_1_212 dX6_syncAll_1 ?_
  obtain ⟨z1, h2, hf⟩ := bn_some hf
  refine s_callVV (As := []) (rest := []) C (c_X0_begin l D q h N nf nb σ z1 h2) ⟨wd_2_7, wd_2_8, wd_2_9, wd_1_4, wd_2_10, cx_X0_begin, Nat.le_of_ble_eq_true rfl, Nat.le_of_ble_eq_true rfl⟩ 1 (ci := 0) rfl rfl rfl (SubW.full _ _) rfl hl.1 rfl (Nat.le_of_ble_eq_true rfl) dX6_syncAll_4 (Nat.zero_le _) (Nat.zero_le _) ?_
  refine s_iconst (v := (0 : Int32)) C dX6_syncAll_7 (by decide) ?_
  refine s_istore_n (lv2 := [(1, .int (0 : Int32)), (0, .ref (h 0))]) C dX6_syncAll_8 rfl hl (by decide) rfl ?_
  intro ls hl
  exact L9 N _ _ hf _ (lv_sub hl [1, 0] rfl)
