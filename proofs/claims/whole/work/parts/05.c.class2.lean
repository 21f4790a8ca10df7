def pf_X6_writeAged_b64 (N : Nat) (nf : Nat) (nb : Nat) (J15 : Int32 → Int32 → Int32 → St → Option (Int32 × St)) (x1 : Int32) (x3 : Int32) (x4 : Int64) (σ : St) : Option (Int32 × St) := (pf_X2_oldestDirty N nf nb x4 σ).bind (fun z12 => J15 x1 z12 (x3 + 1) σ)
def pf_X6_writeAged_L15 (N : Nat) (nf : Nat) (nb : Nat) : Nat → Int32 → Int32 → Int32 → St → Option (Int32 × St)
  | 0, _, _, _, _ => none
  | n + 1, x1, x2, x3, σ => if (4 : Int32) ≤ x3 then some (x1, σ) else if x2 = (-1 : Int32) then some (x1, σ) else bI x2 (nf) (if ((σ.1 13) - ((σ.2.1 18) (Int32.toNatClampNeg x2))) < (5 : Int32) then some (x1, σ) else (pf_X2_ageKey N nf nb x2 σ).bind (fun z7 => (pf_X6_flush N nf nb x2 σ).bind (fun z9 => if z9.1 = 0 then pf_X6_writeAged_b64 N nf nb (pf_X6_writeAged_L15 N nf nb n) x1 x3 z7 z9.2 else pf_X6_writeAged_b64 N nf nb (pf_X6_writeAged_L15 N nf nb n) (x1 + 1) x3 z7 z9.2)))
def pf_X6_writeAged (N : Nat) (nf : Nat) (nb : Nat) (σ : St) : Option (Int32 × St) := (pf_X2_oldestDirty N nf nb (-1 : Int64) σ).bind (fun z1 => pf_X6_writeAged_L15 N nf nb N (0 : Int32) z1 (0 : Int32) σ)
theorem cx_X6_writeAged : (yX6_writeAged.cls ≠ "java/lang/invoke/MethodHandle" ∧ yX6_writeAged.cls ≠ "java/lang/invoke/VarHandle" ∧ (parseMethodDescriptor yX6_writeAged.desc).map (fun d => d.parameters.length) = some 0) := by decide +kernel
set_option maxHeartbeats 4000000 in
set_option maxRecDepth 100000 in
theorem c_X6_writeAged (l : Launch) (D : va_G) (q : Nat → ClassId) (h : Nat → Nat) (N : Nat) (nf : Nat) (nb : Nat) (σ : St) (z : (Int32 × St)) (hf : pf_X6_writeAged N nf nb σ = some z) : MI l yX6_writeAged cX6_writeAged 6 (some .int) 3 75 D (tyQ q) [.ref (h 0)] (wC h q nf nb σ) (wC h q nf nb z.2) z.1 := by
  refine MI.of (by decide) (Nat.le_of_ble_eq_true rfl) ?_
  intro p e s m args below meth c Q A C ret ls hl
  have hl : lv_has ls 6 [(0, .ref (h 0))] := hl
  unfold pf_X6_writeAged at hf
  have b64 : ∀ (J15 : Int32 → Int32 → Int32 → St → Option (Int32 × St)) (hJ15 : ∀ (x1 : Int32) (x2 : Int32) (x3 : Int32) (σ : St), J15 x1 x2 x3 σ = some z → ∀ ls : Array Slot, lv_has ls 6 [(0, .ref (h 0)), (1, .int x1), (2, .int x2), (3, .int x3)] → WG p l e (rmO 3 75) s m args below meth c D A 0 0 Q (wC h q nf nb σ) (F0 m 15 ls [])) (x1 : Int32) (x3 : Int32) (x4 : Int64) (σ : St), pf_X6_writeAged_b64 N nf nb J15 x1 x3 x4 σ = some z → ∀ ls : Array Slot, lv_has ls 6 [(0, .ref (h 0)), (1, .int x1), (3, .int x3), (4, .long x4)] → WG p l e (rmO 3 75) s m args below meth c D A 0 0 Q (wC h q nf nb σ) (F0 m 64 ls []) := by
    intro J15 hJ15 x1 x3 x4 σ hf ls hl
    unfold pf_X6_writeAged_b64 at hf
    refine s_aload_n C dX6_writeAged_64 rfl (lv_at hl 0 rfl) ?_
    refine gC_0_2 C wd_1_214 dX6_writeAged_65 ?_
    refine s_lload C dX6_writeAged_68 (lv_at hl 3 rfl) ?_
    obtain ⟨z12, h13, hf⟩ := bn_some hf
    refine s_callIV (As := [.long x4]) (rest := []) C (c_X2_oldestDirty l D q h N nf nb x4 σ z12 h13) ⟨wd_2_215, wd_2_216, wd_2_217, wd_1_7, wd_2_218, cx_X2_oldestDirty, Nat.le_of_ble_eq_true rfl, Nat.le_of_ble_eq_true rfl⟩ 14 (ci := 2) rfl rfl rfl (SubW.full _ _) rfl hl.1 rfl (Nat.le_of_ble_eq_true rfl) dX6_writeAged_70 (Nat.zero_le _) (Nat.zero_le _) ?_
    refine s_istore_n (lv2 := [(2, .int z12), (0, .ref (h 0)), (1, .int x1), (3, .int x3), (4, .long x4)]) C dX6_writeAged_73 rfl hl (by decide) rfl ?_
    intro ls hl
    refine s_iinc (v := (x3 + 1)) (lv2 := [(3, .int (x3 + 1)), (2, .int z12), (0, .ref (h 0)), (1, .int x1), (4, .long x4)]) C 3 dX6_writeAged_74 hl rfl rfl (by decide) rfl ?_
    intro ls hl
    refine s_goto (tgt := 15) C dX6_writeAged_77 (by decide) ?_
    exact hJ15 _ _ _ _ hf _ (lv_sub hl [2, 3, 1, 0] rfl)
  have L15 : ∀ (n : Nat) (x1 : Int32) (x2 : Int32) (x3 : Int32) (σ : St), pf_X6_writeAged_L15 N nf nb n x1 x2 x3 σ = some z → ∀ ls : Array Slot, lv_has ls 6 [(0, .ref (h 0)), (1, .int x1), (2, .int x2), (3, .int x3)] → WG p l e (rmO 3 75) s m args below meth c D A 0 0 Q (wC h q nf nb σ) (F0 m 15 ls []) := by
    intro n
    induction n with
    | zero => intro x1 x2 x3 σ hf; unfold pf_X6_writeAged_L15 at hf; cases hf
    | succ n ih =>
      intro x1 x2 x3 σ hf ls hl
      unfold pf_X6_writeAged_L15 at hf
      refine s_iload_n C dX6_writeAged_15 rfl (lv_at hl 3 rfl) ?_
      refine s_iconst (v := (4 : Int32)) C dX6_writeAged_16 (by decide) ?_
      refine s_icmp_ge (tgt := 80) C dX6_writeAged_17 (by decide) (fun c3 => ?_) (fun c3 => ?_)
      · replace hf := it_t c3 hf
        refine s_iload_n C dX6_writeAged_80 rfl (lv_at hl 1 rfl) ?_
        exact ret _ _ _ _ dX6_writeAged_81 rfl (rt_2 hf).1 (congrArg (fun σ => (wC h q nf nb σ)) (rt_2 hf).2)
      · replace hf := it_f c3 hf
        refine s_iload_n C dX6_writeAged_20 rfl (lv_at hl 2 rfl) ?_
        refine s_iconst (v := (-1 : Int32)) C dX6_writeAged_21 (by decide) ?_
        refine s_icmp_eq (tgt := 80) C dX6_writeAged_22 (by decide) (fun c4 => ?_) (fun c4 => ?_)
        · replace hf := it_t c4 hf
          refine s_iload_n C dX6_writeAged_80 rfl (lv_at hl 1 rfl) ?_
          exact ret _ _ _ _ dX6_writeAged_81 rfl (rt_2 hf).1 (congrArg (fun σ => (wC h q nf nb σ)) (rt_2 hf).2)
        · replace hf := it_f c4 hf
          refine s_aload_n C dX6_writeAged_25 rfl (lv_at hl 0 rfl) ?_
          refine gC_0_8 C wd_1_220 dX6_writeAged_26 ?_
          refine s_aload_n C dX6_writeAged_29 rfl (lv_at hl 0 rfl) ?_
          refine gC_0_2 C wd_1_214 dX6_writeAged_30 ?_
          refine gnC_14_3 C nl_18 dX6_writeAged_33 ?_
          refine s_iload_n C dX6_writeAged_36 rfl (lv_at hl 2 rfl) ?_
          obtain ⟨hi5, hf⟩ := bI_some hf
          refine ldC_18 C hi5 dX6_writeAged_37 ?_
          refine s_isub C dX6_writeAged_38 ?_
          refine s_iconst (v := (5 : Int32)) C dX6_writeAged_39 (by decide) ?_
          refine s_icmp_lt (tgt := 80) C dX6_writeAged_40 (by decide) (fun c6 => ?_) (fun c6 => ?_)
          · replace hf := it_t c6 hf
            refine s_iload_n C dX6_writeAged_80 rfl (lv_at hl 1 rfl) ?_
            exact ret _ _ _ _ dX6_writeAged_81 rfl (rt_2 hf).1 (congrArg (fun σ => (wC h q nf nb σ)) (rt_2 hf).2)
          · replace hf := it_f c6 hf
            refine s_aload_n C dX6_writeAged_43 rfl (lv_at hl 0 rfl) ?_
            refine gC_0_2 C wd_1_214 dX6_writeAged_44 ?_
            refine s_iload_n C dX6_writeAged_47 rfl (lv_at hl 2 rfl) ?_
            obtain ⟨z7, h8, hf⟩ := bn_some hf
            refine s_callLV (As := [.int x2]) (rest := []) C (c_X2_ageKey l D q h N nf nb x2 σ z7 h8) ⟨wd_2_225, wd_2_220, wd_2_221, wd_1_7, wd_2_222, cx_X2_ageKey, Nat.le_of_ble_eq_true rfl, Nat.le_of_ble_eq_true rfl⟩ 14 (ci := 2) rfl rfl rfl (SubW.full _ _) rfl hl.1 rfl (Nat.le_of_ble_eq_true rfl) dX6_writeAged_48 (Nat.zero_le _) (Nat.zero_le _) ?_
            refine s_lstore (lv2 := [(4, .long z7), (0, .ref (h 0)), (1, .int x1), (2, .int x2), (3, .int x3)]) C dX6_writeAged_51 hl (by decide) rfl ?_
            intro ls hl
            refine s_aload_n C dX6_writeAged_53 rfl (lv_at hl 1 rfl) ?_
            refine s_iload_n C dX6_writeAged_54 rfl (lv_at hl 3 rfl) ?_
            obtain ⟨z9, h10, hf⟩ := bn_some hf
            refine s_callIV (As := [.int x2]) (rest := []) C (c_X6_flush l D q h N nf nb x2 σ z9 h10) ⟨wd_2_78, wd_2_80, wd_s_4, wd_1_1, wd_2_81, cx_X6_flush, Nat.le_of_ble_eq_true rfl, Nat.le_of_ble_eq_true rfl⟩ 0 (ci := 6) rfl rfl rfl (SubW.full _ _) rfl hl.1 rfl (Nat.le_of_ble_eq_true rfl) dX6_writeAged_55 (Nat.zero_le _) (Nat.zero_le _) ?_
            refine s_if_eq (tgt := 64) C dX6_writeAged_58 (by decide) (fun c11 => ?_) (fun c11 => ?_)
            · replace hf := it_t c11 hf
              exact b64 _ ih _ _ _ _ hf _ (lv_sub hl [1, 2, 4, 0] rfl)
            · replace hf := it_f c11 hf
              refine s_iinc (v := (x1 + 1)) (lv2 := [(1, .int (x1 + 1)), (4, .long z7), (0, .ref (h 0)), (2, .int x2), (3, .int x3)]) C 2 dX6_writeAged_61 hl rfl rfl (by decide) rfl ?_
              intro ls hl
              exact b64 _ ih _ _ _ _ hf _ (lv_sub hl [2, 0, 4, 1] rfl)
  refine s_iconst (v := (0 : Int32)) C dX6_writeAged_0 (by decide) ?_
  refine s_istore_n (lv2 := [(1, .int (0 : Int32)), (0, .ref (h 0))]) C dX6_writeAged_1 rfl hl (by decide) rfl ?_
  intro ls hl
  refine s_aload_n C dX6_writeAged_2 rfl (lv_at hl 1 rfl) ?_
  refine gC_0_2 C wd_1_214 dX6_writeAged_3 ?_
  refine s_ldc2 C dX6_writeAged_6 wd_2_214 ?_
  obtain ⟨z1, h2, hf⟩ := bn_some hf
  refine s_callIV (As := [.long (-1 : Int64)]) (rest := []) C (c_X2_oldestDirty l D q h N nf nb (-1 : Int64) σ z1 h2) ⟨wd_2_215, wd_2_216, wd_2_217, wd_1_7, wd_2_218, cx_X2_oldestDirty, Nat.le_of_ble_eq_true rfl, Nat.le_of_ble_eq_true rfl⟩ 14 (ci := 2) rfl rfl rfl (SubW.full _ _) rfl hl.1 rfl (Nat.le_of_ble_eq_true rfl) dX6_writeAged_9 (Nat.zero_le _) (Nat.zero_le _) ?_
  refine s_istore_n (lv2 := [(2, .int z1), (1, .int (0 : Int32)), (0, .ref (h 0))]) C dX6_writeAged_12 rfl hl (by decide) rfl ?_
  intro ls hl
  refine s_iconst (v := (0 : Int32)) C dX6_writeAged_13 (by decide) ?_
  refine s_istore_n (lv2 := [(3, .int (0 : Int32)), (2, .int z1), (1, .int (0 : Int32)), (0, .ref (h 0))]) C dX6_writeAged_14 rfl hl (by decide) rfl ?_
  intro ls hl
  exact L15 N _ _ _ _ hf _ (lv_sub hl [3, 2, 1, 0] rfl)
def pf_X6_tick_L25 (N : Nat) (nf : Nat) (nb : Nat) : Nat → Int32 → Int32 → Int32 → St → Option (Int32 × St)
  | 0, _, _, _, _ => none
  | n + 1, x1, x2, x3, σ => if x1 ≤ x3 then some (x2, σ) else lt_ (sG σ 13 ((σ.1 13) + (1 : Int32))) (fun σ6 => (pf_X6_writeAged N nf nb σ6).bind (fun z8 => (pf_X6_tick_L25 N nf nb n) x1 (x2 + z8.1) (x3 + 1) z8.2))
def pf_X6_tick (N : Nat) (nf : Nat) (nb : Nat) (x1 : Int32) (σ : St) : Option (Int32 × St) := if x1 < 0 then some ((-2 : Int32), σ) else if x1 ≤ (1000 : Int32) then (pf_X0_begin N nf nb σ).bind (fun z3 => pf_X6_tick_L25 N nf nb N x1 (0 : Int32) (0 : Int32) z3) else some ((-2 : Int32), σ)
theorem cx_X6_tick : (yX6_tick.cls ≠ "java/lang/invoke/MethodHandle" ∧ yX6_tick.cls ≠ "java/lang/invoke/VarHandle" ∧ (parseMethodDescriptor yX6_tick.desc).map (fun d => d.parameters.length) = some 1) := by decide +kernel
set_option maxHeartbeats 4000000 in
set_option maxRecDepth 100000 in
theorem c_X6_tick (l : Launch) (D : va_G) (q : Nat → ClassId) (h : Nat → Nat) (N : Nat) (nf : Nat) (nb : Nat) (x1 : Int32) (σ : St) (z : (Int32 × St)) (hf : pf_X6_tick N nf nb x1 σ = some z) : MI l yX6_tick cX6_tick 4 (some .int) 4 100 D (tyQ q) [.ref (h 0), .int x1] (wC h q nf nb σ) (wC h q nf nb z.2) z.1 := by
  refine MI.of (by decide) (Nat.le_of_ble_eq_true rfl) ?_
  intro p e s m args below meth c Q A C ret ls hl
  have hl : lv_has ls 4 [(0, .ref (h 0)), (1, .int x1)] := hl
  unfold pf_X6_tick at hf
  have L25 : ∀ (n : Nat) (x1 : Int32) (x2 : Int32) (x3 : Int32) (σ : St), pf_X6_tick_L25 N nf nb n x1 x2 x3 σ = some z → ∀ ls : Array Slot, lv_has ls 4 [(0, .ref (h 0)), (1, .int x1), (2, .int x2), (3, .int x3)] → WG p l e (rmO 4 100) s m args below meth c D A 0 0 Q (wC h q nf nb σ) (F0 m 25 ls []) := by
    intro n
    induction n with
    | zero => intro x1 x2 x3 σ hf; unfold pf_X6_tick_L25 at hf; cases hf
    | succ n ih =>
      intro x1 x2 x3 σ hf ls hl
      unfold pf_X6_tick_L25 at hf
      refine s_iload_n C dX6_tick_25 rfl (lv_at hl 3 rfl) ?_
      refine s_iload_n C dX6_tick_26 rfl (lv_at hl 1 rfl) ?_
      refine s_icmp_ge (tgt := 53) C dX6_tick_27 (by decide) (fun c5 => ?_) (fun c5 => ?_)
      · replace hf := it_t c5 hf
        refine s_iload_n C dX6_tick_53 rfl (lv_at hl 2 rfl) ?_
        exact ret _ _ _ _ dX6_tick_54 rfl (rt_2 hf).1 (congrArg (fun σ => (wC h q nf nb σ)) (rt_2 hf).2)
      · replace hf := it_f c5 hf
        refine s_aload_n C dX6_tick_30 rfl (lv_at hl 0 rfl) ?_
        refine s_dup C dX6_tick_31 rfl ?_
        refine gC_0_8 C wd_1_220 dX6_tick_32 ?_
        refine s_iconst (v := (1 : Int32)) C dX6_tick_35 (by decide) ?_
        refine s_iadd C dX6_tick_36 ?_
        refine uC_0_8 C wd_1_220 dX6_tick_37 ?_
        obtain ⟨σ6, e7, hf⟩ := lt_some hf
        refine s_w (ws2 := (wC h q nf nb σ6)) (by rw [e7]) ?_
        clear e7
        refine s_iload_n C dX6_tick_40 rfl (lv_at hl 2 rfl) ?_
        refine s_aload_n C dX6_tick_41 rfl (lv_at hl 0 rfl) ?_
        obtain ⟨z8, h9, hf⟩ := bn_some hf
        refine s_callIV (As := []) (rest := [.int x2]) C (c_X6_writeAged l D q h N nf nb σ6 z8 h9) ⟨wd_3_37, wd_3_39, wd_s_17, wd_1_1, wd_3_40, cx_X6_writeAged, Nat.le_of_ble_eq_true rfl, Nat.le_of_ble_eq_true rfl⟩ 0 (ci := 6) rfl rfl rfl (SubW.full _ _) rfl hl.1 rfl (Nat.le_of_ble_eq_true rfl) dX6_tick_42 (Nat.zero_le _) (Nat.zero_le _) ?_
        refine s_iadd C dX6_tick_45 ?_
        refine s_istore_n (lv2 := [(2, .int (x2 + z8.1)), (0, .ref (h 0)), (1, .int x1), (3, .int x3)]) C dX6_tick_46 rfl hl (by decide) rfl ?_
        intro ls hl
        refine s_iinc (v := (x3 + 1)) (lv2 := [(3, .int (x3 + 1)), (2, .int (x2 + z8.1)), (0, .ref (h 0)), (1, .int x1)]) C 3 dX6_tick_47 hl rfl rfl (by decide) rfl ?_
        intro ls hl
        refine s_goto (tgt := 25) C dX6_tick_50 (by decide) ?_
        exact ih _ _ _ _ hf _ (lv_sub hl [2, 3, 1, 0] rfl)
  refine s_iload_n C dX6_tick_0 rfl (lv_at hl 1 rfl) ?_
  refine s_if_lt (tgt := 11) C dX6_tick_1 (by decide) (fun c1 => ?_) (fun c1 => ?_)
  · replace hf := it_t c1 hf
    refine s_bipush (v := (-2 : Int32)) C dX6_tick_11 (by decide) ?_
    exact ret _ _ _ _ dX6_tick_13 rfl (rt_2 hf).1 (congrArg (fun σ => (wC h q nf nb σ)) (rt_2 hf).2)
  · replace hf := it_f c1 hf
    refine s_iload_n C dX6_tick_4 rfl (lv_at hl 1 rfl) ?_
    refine s_sipush (v := (1000 : Int32)) C dX6_tick_5 (by decide) ?_
    refine s_icmp_le (tgt := 14) C dX6_tick_8 (by decide) (fun c2 => ?_) (fun c2 => ?_)
    · replace hf := it_t c2 hf
      refine s_aload_n C dX6_tick_14 rfl (lv_at hl 0 rfl) ?_
      refine gC_0_0 C wd_1_212 dX6_tick_15 ?_
      obtain ⟨z3, h4, hf⟩ := bn_some hf
      refine s_callVV (As := []) (rest := []) C (c_X0_begin l D q h N nf nb σ z3 h4) ⟨wd_2_7, wd_2_8, wd_2_9, wd_1_4, wd_2_10, cx_X0_begin, Nat.le_of_ble_eq_true rfl, Nat.le_of_ble_eq_true rfl⟩ 1 (ci := 0) rfl rfl rfl (SubW.full _ _) rfl hl.1 rfl (Nat.le_of_ble_eq_true rfl) dX6_tick_18 (Nat.zero_le _) (Nat.zero_le _) ?_
      refine s_iconst (v := (0 : Int32)) C dX6_tick_21 (by decide) ?_
      refine s_istore_n (lv2 := [(2, .int (0 : Int32)), (0, .ref (h 0)), (1, .int x1)]) C dX6_tick_22 rfl hl (by decide) rfl ?_
      intro ls hl
      refine s_iconst (v := (0 : Int32)) C dX6_tick_23 (by decide) ?_
      refine s_istore_n (lv2 := [(3, .int (0 : Int32)), (2, .int (0 : Int32)), (0, .ref (h 0)), (1, .int x1)]) C dX6_tick_24 rfl hl (by decide) rfl ?_
      intro ls hl
      exact L25 N _ _ _ _ hf _ (lv_sub hl [2, 3, 1, 0] rfl)
    · replace hf := it_f c2 hf
      refine s_bipush (v := (-2 : Int32)) C dX6_tick_11 (by decide) ?_
      exact ret _ _ _ _ dX6_tick_13 rfl (rt_2 hf).1 (congrArg (fun σ => (wC h q nf nb σ)) (rt_2 hf).2)
def pf_X6_told (N : Nat) (nf : Nat) (nb : Nat) (x1 : Int32) (σ : St) : Option Int32 := if x1 = (0 : Int32) then some ((σ.1 6) + (σ.1 7)) else if x1 = (1 : Int32) then some (σ.1 6) else if x1 = (2 : Int32) then some (σ.1 8) else if x1 = (3 : Int32) then some (σ.1 9) else if x1 = (4 : Int32) then some (σ.1 10) else if x1 = (5 : Int32) then some (σ.1 11) else if x1 = (6 : Int32) then some (σ.1 1) else if x1 = (7 : Int32) then some (σ.1 2) else if x1 = (8 : Int32) then some (σ.1 0) else if x1 = (9 : Int32) then some (σ.1 13) else if x1 = (10 : Int32) then some (σ.1 3) else if x1 = (11 : Int32) then (pf_X1_withError N nf nb σ).bind (fun z13 => some z13) else some (-2 : Int32)
theorem cx_X6_told : (yX6_told.cls ≠ "java/lang/invoke/MethodHandle" ∧ yX6_told.cls ≠ "java/lang/invoke/VarHandle" ∧ (parseMethodDescriptor yX6_told.desc).map (fun d => d.parameters.length) = some 1) := by decide +kernel
set_option maxHeartbeats 4000000 in
set_option maxRecDepth 100000 in
theorem c_X6_told (l : Launch) (D : va_G) (q : Nat → ClassId) (h : Nat → Nat) (N : Nat) (nf : Nat) (nb : Nat) (x1 : Int32) (σ : St) (z : Int32) (hf : pf_X6_told N nf nb x1 σ = some z) : MI l yX6_told cX6_told 2 (some .int) 1 25 D (tyQ q) [.ref (h 0), .int x1] (wC h q nf nb σ) (wC h q nf nb σ) z := by
  refine MI.of (by decide) (Nat.le_of_ble_eq_true rfl) ?_
  intro p e s m args below meth c Q A C ret ls hl
  have hl : lv_has ls 2 [(0, .ref (h 0)), (1, .int x1)] := hl
  unfold pf_X6_told at hf
  refine s_iload_n C dX6_told_0 rfl (lv_at hl 1 rfl) ?_
  by_cases c1 : x1 = (0 : Int32)
  · replace hf := it_t c1 hf
    refine s_tblI (tgt := 64) C dX6_told_1 c1 (by decide) (by decide) rfl (by decide) ?_
    refine s_aload_n C dX6_told_64 rfl (lv_at hl 0 rfl) ?_
    refine gC_0_2 C wd_1_214 dX6_told_65 ?_
    refine gnC_14_8 C nl_22 dX6_told_68 ?_
    refine gnC_23_1 C nl_14 dX6_told_71 ?_
    refine s_aload_n C dX6_told_74 rfl (lv_at hl 0 rfl) ?_
    refine gC_0_2 C wd_1_214 dX6_told_75 ?_
    refine gnC_14_9 C nl_23 dX6_told_78 ?_
    refine gnC_25_1 C nl_14 dX6_told_81 ?_
    refine s_iadd C dX6_told_84 ?_
    exact ret _ _ _ _ dX6_told_85 rfl (rt_1 hf) rfl
  · replace hf := it_f c1 hf
    by_cases c2 : x1 = (1 : Int32)
    · replace hf := it_t c2 hf
      refine s_tblI (tgt := 86) C dX6_told_1 c2 (by decide) (by decide) rfl (by decide) ?_
      refine s_aload_n C dX6_told_86 rfl (lv_at hl 0 rfl) ?_
      refine gC_0_2 C wd_1_214 dX6_told_87 ?_
      refine gnC_14_8 C nl_22 dX6_told_90 ?_
      refine gnC_23_1 C nl_14 dX6_told_93 ?_
      exact ret _ _ _ _ dX6_told_96 rfl (rt_1 hf) rfl
    · replace hf := it_f c2 hf
      by_cases c3 : x1 = (2 : Int32)
      · replace hf := it_t c3 hf
        refine s_tblI (tgt := 97) C dX6_told_1 c3 (by decide) (by decide) rfl (by decide) ?_
        refine s_aload_n C dX6_told_97 rfl (lv_at hl 0 rfl) ?_
        refine gC_0_2 C wd_1_214 dX6_told_98 ?_
        refine gnC_14_10 C nl_24 dX6_told_101 ?_
        exact ret _ _ _ _ dX6_told_104 rfl (rt_1 hf) rfl
      · replace hf := it_f c3 hf
        by_cases c4 : x1 = (3 : Int32)
        · replace hf := it_t c4 hf
          refine s_tblI (tgt := 105) C dX6_told_1 c4 (by decide) (by decide) rfl (by decide) ?_
          refine s_aload_n C dX6_told_105 rfl (lv_at hl 0 rfl) ?_
          refine gC_0_2 C wd_1_214 dX6_told_106 ?_
          refine gnC_14_11 C nl_25 dX6_told_109 ?_
          exact ret _ _ _ _ dX6_told_112 rfl (rt_1 hf) rfl
        · replace hf := it_f c4 hf
          by_cases c5 : x1 = (4 : Int32)
          · replace hf := it_t c5 hf
            refine s_tblI (tgt := 113) C dX6_told_1 c5 (by decide) (by decide) rfl (by decide) ?_
            refine s_aload_n C dX6_told_113 rfl (lv_at hl 0 rfl) ?_
            refine gC_0_3 C wd_1_215 dX6_told_114 ?_
            refine gnC_27_2 C nl_26 dX6_told_117 ?_
            exact ret _ _ _ _ dX6_told_120 rfl (rt_1 hf) rfl
          · replace hf := it_f c5 hf
            by_cases c6 : x1 = (5 : Int32)
            · replace hf := it_t c6 hf
              refine s_tblI (tgt := 121) C dX6_told_1 c6 (by decide) (by decide) rfl (by decide) ?_
              refine s_aload_n C dX6_told_121 rfl (lv_at hl 0 rfl) ?_
              refine gC_0_3 C wd_1_215 dX6_told_122 ?_
              refine gnC_27_3 C nl_27 dX6_told_125 ?_
              exact ret _ _ _ _ dX6_told_128 rfl (rt_1 hf) rfl
            · replace hf := it_f c6 hf
              by_cases c7 : x1 = (6 : Int32)
              · replace hf := it_t c7 hf
                refine s_tblI (tgt := 129) C dX6_told_1 c7 (by decide) (by decide) rfl (by decide) ?_
                refine s_aload_n C dX6_told_129 rfl (lv_at hl 0 rfl) ?_
                refine gC_0_0 C wd_1_212 dX6_told_130 ?_
                refine gnC_1_4 C nl_3 dX6_told_133 ?_
                exact ret _ _ _ _ dX6_told_136 rfl (rt_1 hf) rfl
              · replace hf := it_f c7 hf
                by_cases c8 : x1 = (7 : Int32)
                · replace hf := it_t c8 hf
                  refine s_tblI (tgt := 137) C dX6_told_1 c8 (by decide) (by decide) rfl (by decide) ?_
                  refine s_aload_n C dX6_told_137 rfl (lv_at hl 0 rfl) ?_
                  refine gC_0_0 C wd_1_212 dX6_told_138 ?_
                  refine gnC_1_5 C nl_4 dX6_told_141 ?_
                  exact ret _ _ _ _ dX6_told_144 rfl (rt_1 hf) rfl
                · replace hf := it_f c8 hf
                  by_cases c9 : x1 = (8 : Int32)
                  · replace hf := it_t c9 hf
                    refine s_tblI (tgt := 145) C dX6_told_1 c9 (by decide) (by decide) rfl (by decide) ?_
                    refine s_aload_n C dX6_told_145 rfl (lv_at hl 0 rfl) ?_
                    refine gC_0_0 C wd_1_212 dX6_told_146 ?_
                    refine gnC_1_3 C nl_2 dX6_told_149 ?_
                    exact ret _ _ _ _ dX6_told_152 rfl (rt_1 hf) rfl
                  · replace hf := it_f c9 hf
                    by_cases c10 : x1 = (9 : Int32)
                    · replace hf := it_t c10 hf
                      refine s_tblI (tgt := 153) C dX6_told_1 c10 (by decide) (by decide) rfl (by decide) ?_
                      refine s_aload_n C dX6_told_153 rfl (lv_at hl 0 rfl) ?_
                      refine gC_0_8 C wd_1_220 dX6_told_154 ?_
                      exact ret _ _ _ _ dX6_told_157 rfl (rt_1 hf) rfl
                    · replace hf := it_f c10 hf
                      by_cases c11 : x1 = (10 : Int32)
                      · replace hf := it_t c11 hf
                        refine s_tblI (tgt := 158) C dX6_told_1 c11 (by decide) (by decide) rfl (by decide) ?_
                        refine s_aload_n C dX6_told_158 rfl (lv_at hl 0 rfl) ?_
                        refine gC_0_0 C wd_1_212 dX6_told_159 ?_
                        refine gnC_1_9 C nl_8 dX6_told_162 ?_
                        exact ret _ _ _ _ dX6_told_165 rfl (rt_1 hf) rfl
                      · replace hf := it_f c11 hf
                        by_cases c12 : x1 = (11 : Int32)
                        · replace hf := it_t c12 hf
                          refine s_tblI (tgt := 166) C dX6_told_1 c12 (by decide) (by decide) rfl (by decide) ?_
                          refine s_aload_n C dX6_told_166 rfl (lv_at hl 0 rfl) ?_
                          refine gC_0_1 C wd_1_213 dX6_told_167 ?_
                          obtain ⟨z13, h14, hf⟩ := bn_some hf
                          refine s_callIV (As := []) (rest := []) C (c_X1_withError l D q h N nf nb σ z13 h14) ⟨wd_3_125, wd_3_126, wd_3_127, wd_1_5, wd_3_128, cx_X1_withError, Nat.le_of_ble_eq_true rfl, Nat.le_of_ble_eq_true rfl⟩ 9 (ci := 1) rfl rfl rfl (SubW.full _ _) rfl hl.1 rfl (Nat.le_of_ble_eq_true rfl) dX6_told_170 (Nat.zero_le _) (Nat.zero_le _) ?_
                          exact ret _ _ _ _ dX6_told_173 rfl (rt_1 hf) rfl
                        · replace hf := it_f c12 hf
                          refine s_tblO (tgt := 174) C dX6_told_1 (tb_out (n := 11) (by decide) (fun k hk => ?_)) (by decide) ?_
                          · rcases (show k = 0 ∨ k = 1 ∨ k = 2 ∨ k = 3 ∨ k = 4 ∨ k = 5 ∨ k = 6 ∨ k = 7 ∨ k = 8 ∨ k = 9 ∨ k = 10 ∨ k = 11 by omega) with rfl | rfl | rfl | rfl | rfl | rfl | rfl | rfl | rfl | rfl | rfl | rfl
                            · exact c1
                            · exact c2
                            · exact c3
                            · exact c4
                            · exact c5
                            · exact c6
                            · exact c7
                            · exact c8
                            · exact c9
                            · exact c10
                            · exact c11
                            · exact c12
                          refine s_bipush (v := (-2 : Int32)) C dX6_told_174 (by decide) ?_
                          exact ret _ _ _ _ dX6_told_176 rfl (rt_1 hf) rfl
def pf_X6_treeHeight_L4 (N : Nat) (nf : Nat) (nb : Nat) (σ : St) : Nat → Int32 → Int32 → Option Int32
  | 0, _, _ => none
  | n + 1, x1, x2 => if x2 < 0 then some (0 : Int32) else (pf_X6_spotOf N x1 x2).bind (fun z2 => (pf_X6_isEntry N nf nb z2 σ).bind (fun z4 => if z4 = 0 then (pf_X6_treeHeight_L4 N nf nb σ n) x1 (x2 + (-1))  else if (4 : Int32) ≤ x2 then if (16 : Int32) ≤ x2 then if (64 : Int32) ≤ x2 then some (4 : Int32) else some (3 : Int32) else some (2 : Int32) else some (1 : Int32)))
def pf_X6_treeHeight (N : Nat) (nf : Nat) (nb : Nat) (x1 : Int32) (σ : St) : Option Int32 := pf_X6_treeHeight_L4 N nf nb σ N x1 (255 : Int32) 
theorem cx_X6_treeHeight : (yX6_treeHeight.cls ≠ "java/lang/invoke/MethodHandle" ∧ yX6_treeHeight.cls ≠ "java/lang/invoke/VarHandle" ∧ (parseMethodDescriptor yX6_treeHeight.desc).map (fun d => d.parameters.length) = some 1) := by decide +kernel
set_option maxHeartbeats 4000000 in
set_option maxRecDepth 100000 in
theorem c_X6_treeHeight (l : Launch) (D : va_G) (q : Nat → ClassId) (h : Nat → Nat) (N : Nat) (nf : Nat) (nb : Nat) (x1 : Int32) (σ : St) (z : Int32) (hf : pf_X6_treeHeight N nf nb x1 σ = some z) : MI l yX6_treeHeight cX6_treeHeight 3 (some .int) 2 42 D (tyQ q) [.ref (h 0), .int x1] (wC h q nf nb σ) (wC h q nf nb σ) z := by
  refine MI.of (by decide) (Nat.le_of_ble_eq_true rfl) ?_
  intro p e s m args below meth c Q A C ret ls hl
  have hl : lv_has ls 3 [(0, .ref (h 0)), (1, .int x1)] := hl
  unfold pf_X6_treeHeight at hf
  have L4 : ∀ (n : Nat) (x1 : Int32) (x2 : Int32), pf_X6_treeHeight_L4 N nf nb σ n x1 x2 = some z → ∀ ls : Array Slot, lv_has ls 3 [(0, .ref (h 0)), (1, .int x1), (2, .int x2)] → WG p l e (rmO 2 42) s m args below meth c D A 0 0 Q (wC h q nf nb σ) (F0 m 4 ls []) := by
    intro n
    induction n with
    | zero => intro x1 x2 hf; unfold pf_X6_treeHeight_L4 at hf; cases hf
    | succ n ih =>
      intro x1 x2 hf ls hl
      unfold pf_X6_treeHeight_L4 at hf
      refine s_iload_n C dX6_treeHeight_4 rfl (lv_at hl 2 rfl) ?_
      refine s_if_lt (tgt := 57) C dX6_treeHeight_5 (by decide) (fun c1 => ?_) (fun c1 => ?_)
      · replace hf := it_t c1 hf
        refine s_iconst (v := (0 : Int32)) C dX6_treeHeight_57 (by decide) ?_
        exact ret _ _ _ _ dX6_treeHeight_58 rfl (rt_1 hf) rfl
      · replace hf := it_f c1 hf
        refine s_aload_n C dX6_treeHeight_8 rfl (lv_at hl 0 rfl) ?_
        refine s_iload_n C dX6_treeHeight_9 rfl (lv_at hl 1 rfl) ?_
        refine s_iload_n C dX6_treeHeight_10 rfl (lv_at hl 2 rfl) ?_
        obtain ⟨z2, h3, hf⟩ := bn_some hf
        refine s_callIS (As := [.int x1, .int x2]) (rest := [.ref (h 0)]) C (c_X6_spotOf l D q (wC h q nf nb σ) N x1 x2  z2 h3) ⟨wd_2_18, wd_2_19, wd_1_1, wd_2_20, cx_X6_spotOf, Nat.le_of_ble_eq_true rfl, Nat.le_of_ble_eq_true rfl⟩ (SubW.full _ _) rfl hl.1 rfl (Nat.le_of_ble_eq_true rfl) dX6_treeHeight_11 (Nat.zero_le _) (Nat.zero_le _) ?_
        obtain ⟨z4, h5, hf⟩ := bn_some hf
        refine s_callIV (As := [.int z2]) (rest := []) C (c_X6_isEntry l D q h N nf nb z2 σ z4 h5) ⟨wd_3_97, wd_3_99, wd_s_20, wd_1_1, wd_3_100, cx_X6_isEntry, Nat.le_of_ble_eq_true rfl, Nat.le_of_ble_eq_true rfl⟩ 0 (ci := 6) rfl rfl rfl (SubW.full _ _) rfl hl.1 rfl (Nat.le_of_ble_eq_true rfl) dX6_treeHeight_14 (Nat.zero_le _) (Nat.zero_le _) ?_
        refine s_if_eq (tgt := 51) C dX6_treeHeight_17 (by decide) (fun c6 => ?_) (fun c6 => ?_)
        · replace hf := it_t c6 hf
          refine s_iinc (v := (x2 + (-1))) (lv2 := [(2, .int (x2 + (-1))), (0, .ref (h 0)), (1, .int x1)]) C 2 dX6_treeHeight_51 hl rfl rfl (by decide) rfl ?_
          intro ls hl
          refine s_goto (tgt := 4) C dX6_treeHeight_54 (by decide) ?_
          exact ih _ _ hf _ (lv_sub hl [1, 2, 0] rfl)
        · replace hf := it_f c6 hf
          refine s_iload_n C dX6_treeHeight_20 rfl (lv_at hl 2 rfl) ?_
          refine s_iconst (v := (4 : Int32)) C dX6_treeHeight_21 (by decide) ?_
          refine s_icmp_ge (tgt := 29) C dX6_treeHeight_22 (by decide) (fun c7 => ?_) (fun c7 => ?_)
          · replace hf := it_t c7 hf
            refine s_iload_n C dX6_treeHeight_29 rfl (lv_at hl 2 rfl) ?_
            refine s_bipush (v := (16 : Int32)) C dX6_treeHeight_30 (by decide) ?_
            refine s_icmp_ge (tgt := 39) C dX6_treeHeight_32 (by decide) (fun c8 => ?_) (fun c8 => ?_)
            · replace hf := it_t c8 hf
              refine s_iload_n C dX6_treeHeight_39 rfl (lv_at hl 2 rfl) ?_
              refine s_bipush (v := (64 : Int32)) C dX6_treeHeight_40 (by decide) ?_
              refine s_icmp_ge (tgt := 49) C dX6_treeHeight_42 (by decide) (fun c9 => ?_) (fun c9 => ?_)
              · replace hf := it_t c9 hf
                refine s_iconst (v := (4 : Int32)) C dX6_treeHeight_49 (by decide) ?_
                exact ret _ _ _ _ dX6_treeHeight_50 rfl (rt_1 hf) rfl
              · replace hf := it_f c9 hf
                refine s_iconst (v := (3 : Int32)) C dX6_treeHeight_45 (by decide) ?_
                refine s_goto (tgt := 50) C dX6_treeHeight_46 (by decide) ?_
                exact ret _ _ _ _ dX6_treeHeight_50 rfl (rt_1 hf) rfl
            · replace hf := it_f c8 hf
              refine s_iconst (v := (2 : Int32)) C dX6_treeHeight_35 (by decide) ?_
              refine s_goto (tgt := 50) C dX6_treeHeight_36 (by decide) ?_
              exact ret _ _ _ _ dX6_treeHeight_50 rfl (rt_1 hf) rfl
          · replace hf := it_f c7 hf
            refine s_iconst (v := (1 : Int32)) C dX6_treeHeight_25 (by decide) ?_
            refine s_goto (tgt := 50) C dX6_treeHeight_26 (by decide) ?_
            exact ret _ _ _ _ dX6_treeHeight_50 rfl (rt_1 hf) rfl
  refine s_sipush (v := (255 : Int32)) C dX6_treeHeight_0 (by decide) ?_
  refine s_istore_n (lv2 := [(2, .int (255 : Int32)), (0, .ref (h 0)), (1, .int x1)]) C dX6_treeHeight_3 rfl hl (by decide) rfl ?_
  intro ls hl
  exact L4 N _ _ hf _ (lv_sub hl [1, 2, 0] rfl)
def pf_X6_treeNodes_b67 (N : Nat) (nf : Nat) (nb : Nat) (σ : St) (J11 : Int32 → Int32 → Int32 → Int32 → Option Int32) (J23 : Int32 → Int32 → Int32 → Int32 → Int32 → Int32 → Option Int32) (x1 : Int32) (x2 : Int32) (x3 : Int32) (x4 : Int32) (x5 : Int32) (x6 : Int32) : Option Int32 := J23 x1 x2 x3 x4 x5 (x6 + 1) 
def pf_X6_treeNodes_L23 (N : Nat) (nf : Nat) (nb : Nat) (σ : St) (J11 : Int32 → Int32 → Int32 → Int32 → Option Int32) : Nat → Int32 → Int32 → Int32 → Int32 → Int32 → Int32 → Option Int32
  | 0, _, _, _, _, _, _ => none
  | n + 1, x1, x2, x3, x4, x5, x6 => if (256 : Int32) ≤ x6 then J11 x1 x2 x3 (x4 + 1)  else lt_ (x6 >>> (((2 : Int32) * x4) &&& 31)) (fun v5 => if v5 = x5 then pf_X6_treeNodes_b67 N nf nb σ J11 (pf_X6_treeNodes_L23 N nf nb σ J11 n) x1 x2 x3 x4 x5 x6  else (pf_X6_spotOf N x1 x6).bind (fun z8 => (pf_X6_isEntry N nf nb z8 σ).bind (fun z10 => if z10 = 0 then pf_X6_treeNodes_b67 N nf nb σ J11 (pf_X6_treeNodes_L23 N nf nb σ J11 n) x1 x2 x3 x4 x5 x6  else pf_X6_treeNodes_b67 N nf nb σ J11 (pf_X6_treeNodes_L23 N nf nb σ J11 n) x1 x2 (x3 + 1) x4 v5 x6 )))
def pf_X6_treeNodes_L11 (N : Nat) (nf : Nat) (nb : Nat) (σ : St) : Nat → Int32 → Int32 → Int32 → Int32 → Option Int32
  | 0, _, _, _, _ => none
  | n + 1, x1, x2, x3, x4 => if x2 < x4 then some x3 else pf_X6_treeNodes_L23 N nf nb σ (pf_X6_treeNodes_L11 N nf nb σ n) N x1 x2 x3 x4 (-1 : Int32) (0 : Int32) 
def pf_X6_treeNodes (N : Nat) (nf : Nat) (nb : Nat) (x1 : Int32) (σ : St) : Option Int32 := (pf_X6_treeHeight N nf nb x1 σ).bind (fun z1 => pf_X6_treeNodes_L11 N nf nb σ N x1 z1 (0 : Int32) (1 : Int32) )
theorem cx_X6_treeNodes : (yX6_treeNodes.cls ≠ "java/lang/invoke/MethodHandle" ∧ yX6_treeNodes.cls ≠ "java/lang/invoke/VarHandle" ∧ (parseMethodDescriptor yX6_treeNodes.desc).map (fun d => d.parameters.length) = some 1) := by decide +kernel
set_option maxHeartbeats 4000000 in
set_option maxRecDepth 100000 in
theorem c_X6_treeNodes (l : Launch) (D : va_G) (q : Nat → ClassId) (h : Nat → Nat) (N : Nat) (nf : Nat) (nb : Nat) (x1 : Int32) (σ : St) (z : Int32) (hf : pf_X6_treeNodes N nf nb x1 σ = some z) : MI l yX6_treeNodes cX6_treeNodes 8 (some .int) 3 64 D (tyQ q) [.ref (h 0), .int x1] (wC h q nf nb σ) (wC h q nf nb σ) z := by
  refine MI.of (by decide) (Nat.le_of_ble_eq_true rfl) ?_
  intro p e s m args below meth c Q A C ret ls hl
  have hl : lv_has ls 8 [(0, .ref (h 0)), (1, .int x1)] := hl
  unfold pf_X6_treeNodes at hf
  have b67 : ∀ (J11 : Int32 → Int32 → Int32 → Int32 → Option Int32) (J23 : Int32 → Int32 → Int32 → Int32 → Int32 → Int32 → Option Int32) (hJ11 : ∀ (x1 : Int32) (x2 : Int32) (x3 : Int32) (x4 : Int32), J11 x1 x2 x3 x4 = some z → ∀ ls : Array Slot, lv_has ls 8 [(0, .ref (h 0)), (1, .int x1), (2, .int x2), (3, .int x3), (4, .int x4)] → WG p l e (rmO 3 64) s m args below meth c D A 0 0 Q (wC h q nf nb σ) (F0 m 11 ls [])) (hJ23 : ∀ (x1 : Int32) (x2 : Int32) (x3 : Int32) (x4 : Int32) (x5 : Int32) (x6 : Int32), J23 x1 x2 x3 x4 x5 x6 = some z → ∀ ls : Array Slot, lv_has ls 8 [(0, .ref (h 0)), (1, .int x1), (2, .int x2), (3, .int x3), (4, .int x4), (5, .int x5), (6, .int x6)] → WG p l e (rmO 3 64) s m args below meth c D A 0 0 Q (wC h q nf nb σ) (F0 m 23 ls [])) (x1 : Int32) (x2 : Int32) (x3 : Int32) (x4 : Int32) (x5 : Int32) (x6 : Int32), pf_X6_treeNodes_b67 N nf nb σ J11 J23 x1 x2 x3 x4 x5 x6 = some z → ∀ ls : Array Slot, lv_has ls 8 [(0, .ref (h 0)), (1, .int x1), (2, .int x2), (3, .int x3), (4, .int x4), (5, .int x5), (6, .int x6)] → WG p l e (rmO 3 64) s m args below meth c D A 0 0 Q (wC h q nf nb σ) (F0 m 67 ls []) := by
    intro J11 J23 hJ11 hJ23 x1 x2 x3 x4 x5 x6 hf ls hl
    unfold pf_X6_treeNodes_b67 at hf
    refine s_iinc (v := (x6 + 1)) (lv2 := [(6, .int (x6 + 1)), (0, .ref (h 0)), (1, .int x1), (2, .int x2), (3, .int x3), (4, .int x4), (5, .int x5)]) C 6 dX6_treeNodes_67 hl rfl rfl (by decide) rfl ?_
    intro ls hl
    refine s_goto (tgt := 23) C dX6_treeNodes_70 (by decide) ?_
    exact hJ23 _ _ _ _ _ _ hf _ (lv_sub hl [1, 2, 3, 4, 5, 6, 0] rfl)
  have L23 : ∀ (J11 : Int32 → Int32 → Int32 → Int32 → Option Int32) (hJ11 : ∀ (x1 : Int32) (x2 : Int32) (x3 : Int32) (x4 : Int32), J11 x1 x2 x3 x4 = some z → ∀ ls : Array Slot, lv_has ls 8 [(0, .ref (h 0)), (1, .int x1), (2, .int x2), (3, .int x3), (4, .int x4)] → WG p l e (rmO 3 64) s m args below meth c D A 0 0 Q (wC h q nf nb σ) (F0 m 11 ls [])) (n : Nat) (x1 : Int32) (x2 : Int32) (x3 : Int32) (x4 : Int32) (x5 : Int32) (x6 : Int32), pf_X6_treeNodes_L23 N nf nb σ J11 n x1 x2 x3 x4 x5 x6 = some z → ∀ ls : Array Slot, lv_has ls 8 [(0, .ref (h 0)), (1, .int x1), (2, .int x2), (3, .int x3), (4, .int x4), (5, .int x5), (6, .int x6)] → WG p l e (rmO 3 64) s m args below meth c D A 0 0 Q (wC h q nf nb σ) (F0 m 23 ls []) := by
    intro J11 hJ11 n
    induction n with
    | zero => intro x1 x2 x3 x4 x5 x6 hf; unfold pf_X6_treeNodes_L23 at hf; cases hf
    | succ n ih =>
      intro x1 x2 x3 x4 x5 x6 hf ls hl
      unfold pf_X6_treeNodes_L23 at hf
      refine s_iload C dX6_treeNodes_23 (lv_at hl 6 rfl) ?_
      refine s_sipush (v := (256 : Int32)) C dX6_treeNodes_25 (by decide) ?_
      refine s_icmp_ge (tgt := 73) C dX6_treeNodes_28 (by decide) (fun c4 => ?_) (fun c4 => ?_)
      · replace hf := it_t c4 hf
        refine s_iinc (v := (x4 + 1)) (lv2 := [(4, .int (x4 + 1)), (0, .ref (h 0)), (1, .int x1), (2, .int x2), (3, .int x3), (5, .int x5), (6, .int x6)]) C 4 dX6_treeNodes_73 hl rfl rfl (by decide) rfl ?_
        intro ls hl
        refine s_goto (tgt := 11) C dX6_treeNodes_76 (by decide) ?_
        exact hJ11 _ _ _ _ hf _ (lv_sub hl [1, 2, 3, 4, 0] rfl)
      · replace hf := it_f c4 hf
        refine s_iload C dX6_treeNodes_31 (lv_at hl 6 rfl) ?_
        refine s_iconst (v := (2 : Int32)) C dX6_treeNodes_33 (by decide) ?_
        refine s_iload C dX6_treeNodes_34 (lv_at hl 4 rfl) ?_
        refine s_imul C dX6_treeNodes_36 ?_
        refine s_ishr C dX6_treeNodes_37 ?_
        obtain ⟨v5, e6, hf⟩ := lt_some hf
        refine s_eq (g2 := F0 m 38 ls [.int v5]) (by rw [e6]) ?_
        clear e6
        refine s_istore (lv2 := [(7, .int v5), (0, .ref (h 0)), (1, .int x1), (2, .int x2), (3, .int x3), (4, .int x4), (5, .int x5), (6, .int x6)]) C dX6_treeNodes_38 hl (by decide) rfl ?_
        intro ls hl
        refine s_iload C dX6_treeNodes_40 (lv_at hl 0 rfl) ?_
        refine s_iload C dX6_treeNodes_42 (lv_at hl 6 rfl) ?_
        refine s_icmp_eq (tgt := 67) C dX6_treeNodes_44 (by decide) (fun c7 => ?_) (fun c7 => ?_)
        · replace hf := it_t c7 hf
          exact b67 _ _ hJ11 ih _ _ _ _ _ _ hf _ (lv_sub hl [1, 2, 3, 4, 5, 6, 7] rfl)
        · replace hf := it_f c7 hf
          refine s_aload_n C dX6_treeNodes_47 rfl (lv_at hl 1 rfl) ?_
          refine s_iload_n C dX6_treeNodes_48 rfl (lv_at hl 2 rfl) ?_
          refine s_iload C dX6_treeNodes_49 (lv_at hl 7 rfl) ?_
          obtain ⟨z8, h9, hf⟩ := bn_some hf
          refine s_callIS (As := [.int x1, .int x6]) (rest := [.ref (h 0)]) C (c_X6_spotOf l D q (wC h q nf nb σ) N x1 x6  z8 h9) ⟨wd_2_18, wd_2_19, wd_1_1, wd_2_20, cx_X6_spotOf, Nat.le_of_ble_eq_true rfl, Nat.le_of_ble_eq_true rfl⟩ (SubW.full _ _) rfl hl.1 rfl (Nat.le_of_ble_eq_true rfl) dX6_treeNodes_51 (Nat.zero_le _) (Nat.zero_le _) ?_
          obtain ⟨z10, h11, hf⟩ := bn_some hf
          refine s_callIV (As := [.int z8]) (rest := []) C (c_X6_isEntry l D q h N nf nb z8 σ z10 h11) ⟨wd_3_97, wd_3_99, wd_s_20, wd_1_1, wd_3_100, cx_X6_isEntry, Nat.le_of_ble_eq_true rfl, Nat.le_of_ble_eq_true rfl⟩ 0 (ci := 6) rfl rfl rfl (SubW.full _ _) rfl hl.1 rfl (Nat.le_of_ble_eq_true rfl) dX6_treeNodes_54 (Nat.zero_le _) (Nat.zero_le _) ?_
          refine s_if_eq (tgt := 67) C dX6_treeNodes_57 (by decide) (fun c12 => ?_) (fun c12 => ?_)
          · replace hf := it_t c12 hf
            exact b67 _ _ hJ11 ih _ _ _ _ _ _ hf _ (lv_sub hl [1, 2, 3, 4, 5, 6, 7] rfl)
          · replace hf := it_f c12 hf
            refine s_iload C dX6_treeNodes_60 (lv_at hl 0 rfl) ?_
            refine s_istore (lv2 := [(5, .int v5), (7, .int v5), (0, .ref (h 0)), (1, .int x1), (2, .int x2), (3, .int x3), (4, .int x4), (6, .int x6)]) C dX6_treeNodes_62 hl (by decide) rfl ?_
            intro ls hl
            refine s_iinc (v := (x3 + 1)) (lv2 := [(3, .int (x3 + 1)), (5, .int v5), (7, .int v5), (0, .ref (h 0)), (1, .int x1), (2, .int x2), (4, .int x4), (6, .int x6)]) C 5 dX6_treeNodes_64 hl rfl rfl (by decide) rfl ?_
            intro ls hl
            exact b67 _ _ hJ11 ih _ _ _ _ _ _ hf _ (lv_sub hl [3, 4, 5, 0, 6, 1, 7] rfl)
  have L11 : ∀ (n : Nat) (x1 : Int32) (x2 : Int32) (x3 : Int32) (x4 : Int32), pf_X6_treeNodes_L11 N nf nb σ n x1 x2 x3 x4 = some z → ∀ ls : Array Slot, lv_has ls 8 [(0, .ref (h 0)), (1, .int x1), (2, .int x2), (3, .int x3), (4, .int x4)] → WG p l e (rmO 3 64) s m args below meth c D A 0 0 Q (wC h q nf nb σ) (F0 m 11 ls []) := by
    intro n
    induction n with
    | zero => intro x1 x2 x3 x4 hf; unfold pf_X6_treeNodes_L11 at hf; cases hf
    | succ n ih =>
      intro x1 x2 x3 x4 hf ls hl
      unfold pf_X6_treeNodes_L11 at hf
      refine s_iload C dX6_treeNodes_11 (lv_at hl 4 rfl) ?_
      refine s_iload_n C dX6_treeNodes_13 rfl (lv_at hl 2 rfl) ?_
      refine s_icmp_gt (tgt := 79) C dX6_treeNodes_14 (by decide) (fun c3 => ?_) (fun c3 => ?_)
      · replace hf := it_t c3 hf
        refine s_iload_n C dX6_treeNodes_79 rfl (lv_at hl 3 rfl) ?_
        exact ret _ _ _ _ dX6_treeNodes_80 rfl (rt_1 hf) rfl
      · replace hf := it_f c3 hf
        refine s_iconst (v := (-1 : Int32)) C dX6_treeNodes_17 (by decide) ?_
        refine s_istore (lv2 := [(5, .int (-1 : Int32)), (0, .ref (h 0)), (1, .int x1), (2, .int x2), (3, .int x3), (4, .int x4)]) C dX6_treeNodes_18 hl (by decide) rfl ?_
        intro ls hl
        refine s_iconst (v := (0 : Int32)) C dX6_treeNodes_20 (by decide) ?_
        refine s_istore (lv2 := [(6, .int (0 : Int32)), (5, .int (-1 : Int32)), (0, .ref (h 0)), (1, .int x1), (2, .int x2), (3, .int x3), (4, .int x4)]) C dX6_treeNodes_21 hl (by decide) rfl ?_
        intro ls hl
        exact L23 _ ih N _ _ _ _ _ _ hf _ (lv_sub hl [2, 3, 4, 5, 6, 1, 0] rfl)
  refine s_aload_n C dX6_treeNodes_0 rfl (lv_at hl 0 rfl) ?_
  refine s_iload_n C dX6_treeNodes_1 rfl (lv_at hl 1 rfl) ?_
  obtain ⟨z1, h2, hf⟩ := bn_some hf
  refine s_callIV (As := [.int x1]) (rest := []) C (c_X6_treeHeight l D q h N nf nb x1 σ z1 h2) ⟨wd_3_93, wd_3_95, wd_s_19, wd_1_1, wd_3_96, cx_X6_treeHeight, Nat.le_of_ble_eq_true rfl, Nat.le_of_ble_eq_true rfl⟩ 0 (ci := 6) rfl rfl rfl (SubW.full _ _) rfl hl.1 rfl (Nat.le_of_ble_eq_true rfl) dX6_treeNodes_2 (Nat.zero_le _) (Nat.zero_le _) ?_
  refine s_istore_n (lv2 := [(2, .int z1), (0, .ref (h 0)), (1, .int x1)]) C dX6_treeNodes_5 rfl hl (by decide) rfl ?_
  intro ls hl
  refine s_iconst (v := (0 : Int32)) C dX6_treeNodes_6 (by decide) ?_
  refine s_istore_n (lv2 := [(3, .int (0 : Int32)), (2, .int z1), (0, .ref (h 0)), (1, .int x1)]) C dX6_treeNodes_7 rfl hl (by decide) rfl ?_
  intro ls hl
  refine s_iconst (v := (1 : Int32)) C dX6_treeNodes_8 (by decide) ?_
  refine s_istore (lv2 := [(4, .int (1 : Int32)), (3, .int (0 : Int32)), (2, .int z1), (0, .ref (h 0)), (1, .int x1)]) C dX6_treeNodes_9 hl (by decide) rfl ?_
  intro ls hl
  exact L11 N _ _ _ _ hf _ (lv_sub hl [3, 4, 2, 1, 0] rfl)
def pf_X6_treeEntries_b26 (N : Nat) (nf : Nat) (nb : Nat) (σ : St) (J4 : Int32 → Int32 → Int32 → Option Int32) (x1 : Int32) (x2 : Int32) (x3 : Int32) : Option Int32 := J4 x1 x2 (x3 + 1) 
def pf_X6_treeEntries_L4 (N : Nat) (nf : Nat) (nb : Nat) (σ : St) : Nat → Int32 → Int32 → Int32 → Option Int32
  | 0, _, _, _ => none
  | n + 1, x1, x2, x3 => if (256 : Int32) ≤ x3 then some x2 else (pf_X6_spotOf N x1 x3).bind (fun z2 => (pf_X6_isEntry N nf nb z2 σ).bind (fun z4 => if z4 = 0 then pf_X6_treeEntries_b26 N nf nb σ (pf_X6_treeEntries_L4 N nf nb σ n) x1 x2 x3  else pf_X6_treeEntries_b26 N nf nb σ (pf_X6_treeEntries_L4 N nf nb σ n) x1 (x2 + 1) x3 ))
def pf_X6_treeEntries (N : Nat) (nf : Nat) (nb : Nat) (x1 : Int32) (σ : St) : Option Int32 := pf_X6_treeEntries_L4 N nf nb σ N x1 (0 : Int32) (0 : Int32) 
theorem cx_X6_treeEntries : (yX6_treeEntries.cls ≠ "java/lang/invoke/MethodHandle" ∧ yX6_treeEntries.cls ≠ "java/lang/invoke/VarHandle" ∧ (parseMethodDescriptor yX6_treeEntries.desc).map (fun d => d.parameters.length) = some 1) := by decide +kernel
set_option maxHeartbeats 4000000 in
set_option maxRecDepth 100000 in
theorem c_X6_treeEntries (l : Launch) (D : va_G) (q : Nat → ClassId) (h : Nat → Nat) (N : Nat) (nf : Nat) (nb : Nat) (x1 : Int32) (σ : St) (z : Int32) (hf : pf_X6_treeEntries N nf nb x1 σ = some z) : MI l yX6_treeEntries cX6_treeEntries 4 (some .int) 2 42 D (tyQ q) [.ref (h 0), .int x1] (wC h q nf nb σ) (wC h q nf nb σ) z := by
  refine MI.of (by decide) (Nat.le_of_ble_eq_true rfl) ?_
  intro p e s m args below meth c Q A C ret ls hl
  have hl : lv_has ls 4 [(0, .ref (h 0)), (1, .int x1)] := hl
  unfold pf_X6_treeEntries at hf
  have b26 : ∀ (J4 : Int32 → Int32 → Int32 → Option Int32) (hJ4 : ∀ (x1 : Int32) (x2 : Int32) (x3 : Int32), J4 x1 x2 x3 = some z → ∀ ls : Array Slot, lv_has ls 4 [(0, .ref (h 0)), (1, .int x1), (2, .int x2), (3, .int x3)] → WG p l e (rmO 2 42) s m args below meth c D A 0 0 Q (wC h q nf nb σ) (F0 m 4 ls [])) (x1 : Int32) (x2 : Int32) (x3 : Int32), pf_X6_treeEntries_b26 N nf nb σ J4 x1 x2 x3 = some z → ∀ ls : Array Slot, lv_has ls 4 [(0, .ref (h 0)), (1, .int x1), (2, .int x2), (3, .int x3)] → WG p l e (rmO 2 42) s m args below meth c D A 0 0 Q (wC h q nf nb σ) (F0 m 26 ls []) := by
    intro J4 hJ4 x1 x2 x3 hf ls hl
    unfold pf_X6_treeEntries_b26 at hf
    refine s_iinc (v := (x3 + 1)) (lv2 := [(3, .int (x3 + 1)), (0, .ref (h 0)), (1, .int x1), (2, .int x2)]) C 3 dX6_treeEntries_26 hl rfl rfl (by decide) rfl ?_
    intro ls hl
    refine s_goto (tgt := 4) C dX6_treeEntries_29 (by decide) ?_
    exact hJ4 _ _ _ hf _ (lv_sub hl [1, 2, 3, 0] rfl)
  have L4 : ∀ (n : Nat) (x1 : Int32) (x2 : Int32) (x3 : Int32), pf_X6_treeEntries_L4 N nf nb σ n x1 x2 x3 = some z → ∀ ls : Array Slot, lv_has ls 4 [(0, .ref (h 0)), (1, .int x1), (2, .int x2), (3, .int x3)] → WG p l e (rmO 2 42) s m args below meth c D A 0 0 Q (wC h q nf nb σ) (F0 m 4 ls []) := by
    intro n
    induction n with
    | zero => intro x1 x2 x3 hf; unfold pf_X6_treeEntries_L4 at hf; cases hf
    | succ n ih =>
      intro x1 x2 x3 hf ls hl
      unfold pf_X6_treeEntries_L4 at hf
      refine s_iload_n C dX6_treeEntries_4 rfl (lv_at hl 3 rfl) ?_
      refine s_sipush (v := (256 : Int32)) C dX6_treeEntries_5 (by decide) ?_
      refine s_icmp_ge (tgt := 32) C dX6_treeEntries_8 (by decide) (fun c1 => ?_) (fun c1 => ?_)
      · replace hf := it_t c1 hf
        refine s_iload_n C dX6_treeEntries_32 rfl (lv_at hl 2 rfl) ?_
        exact ret _ _ _ _ dX6_treeEntries_33 rfl (rt_1 hf) rfl
      · replace hf := it_f c1 hf
        refine s_aload_n C dX6_treeEntries_11 rfl (lv_at hl 0 rfl) ?_
        refine s_iload_n C dX6_treeEntries_12 rfl (lv_at hl 1 rfl) ?_
        refine s_iload_n C dX6_treeEntries_13 rfl (lv_at hl 3 rfl) ?_
        obtain ⟨z2, h3, hf⟩ := bn_some hf
        refine s_callIS (As := [.int x1, .int x3]) (rest := [.ref (h 0)]) C (c_X6_spotOf l D q (wC h q nf nb σ) N x1 x3  z2 h3) ⟨wd_2_18, wd_2_19, wd_1_1, wd_2_20, cx_X6_spotOf, Nat.le_of_ble_eq_true rfl, Nat.le_of_ble_eq_true rfl⟩ (SubW.full _ _) rfl hl.1 rfl (Nat.le_of_ble_eq_true rfl) dX6_treeEntries_14 (Nat.zero_le _) (Nat.zero_le _) ?_
        obtain ⟨z4, h5, hf⟩ := bn_some hf
        refine s_callIV (As := [.int z2]) (rest := []) C (c_X6_isEntry l D q h N nf nb z2 σ z4 h5) ⟨wd_3_97, wd_3_99, wd_s_20, wd_1_1, wd_3_100, cx_X6_isEntry, Nat.le_of_ble_eq_true rfl, Nat.le_of_ble_eq_true rfl⟩ 0 (ci := 6) rfl rfl rfl (SubW.full _ _) rfl hl.1 rfl (Nat.le_of_ble_eq_true rfl) dX6_treeEntries_17 (Nat.zero_le _) (Nat.zero_le _) ?_
        refine s_if_eq (tgt := 26) C dX6_treeEntries_20 (by decide) (fun c6 => ?_) (fun c6 => ?_)
        · replace hf := it_t c6 hf
          exact b26 _ ih _ _ _ hf _ (lv_sub hl [0, 1, 2, 3] rfl)
        · replace hf := it_f c6 hf
          refine s_iinc (v := (x2 + 1)) (lv2 := [(2, .int (x2 + 1)), (0, .ref (h 0)), (1, .int x1), (3, .int x3)]) C 2 dX6_treeEntries_23 hl rfl rfl (by decide) rfl ?_
          intro ls hl
          exact b26 _ ih _ _ _ hf _ (lv_sub hl [1, 2, 0, 3] rfl)
  refine s_iconst (v := (0 : Int32)) C dX6_treeEntries_0 (by decide) ?_
  refine s_istore_n (lv2 := [(2, .int (0 : Int32)), (0, .ref (h 0)), (1, .int x1)]) C dX6_treeEntries_1 rfl hl (by decide) rfl ?_
  intro ls hl
  refine s_iconst (v := (0 : Int32)) C dX6_treeEntries_2 (by decide) ?_
  refine s_istore_n (lv2 := [(3, .int (0 : Int32)), (2, .int (0 : Int32)), (0, .ref (h 0)), (1, .int x1)]) C dX6_treeEntries_3 rfl hl (by decide) rfl ?_
  intro ls hl
  exact L4 N _ _ _ hf _ (lv_sub hl [2, 3, 1, 0] rfl)
def pf_X6_tree (N : Nat) (nf : Nat) (nb : Nat) (x1 : Int32) (x2 : Int32) (σ : St) : Option Int32 := (pf_X6_isFile N x1).bind (fun z1 => if z1 = 0 then some (-2 : Int32) else if x2 = (0 : Int32) then (pf_X6_treeHeight N nf nb x1 σ).bind (fun z5 => some z5) else if x2 = (1 : Int32) then (pf_X6_treeNodes N nf nb x1 σ).bind (fun z8 => some z8) else if x2 = (2 : Int32) then (pf_X6_treeEntries N nf nb x1 σ).bind (fun z11 => some z11) else if x2 = (3 : Int32) then bI x1 (12) (some ((σ.2.1 11) (Int32.toNatClampNeg x1))) else if x2 = (4 : Int32) then bI x1 (12) (some ((σ.2.1 12) (Int32.toNatClampNeg x1))) else if x2 = (5 : Int32) then bI x1 (12) (some ((σ.2.1 13) (Int32.toNatClampNeg x1))) else some (-2 : Int32))
theorem cx_X6_tree : (yX6_tree.cls ≠ "java/lang/invoke/MethodHandle" ∧ yX6_tree.cls ≠ "java/lang/invoke/VarHandle" ∧ (parseMethodDescriptor yX6_tree.desc).map (fun d => d.parameters.length) = some 2) := by decide +kernel
set_option maxHeartbeats 4000000 in
set_option maxRecDepth 100000 in
theorem c_X6_tree (l : Launch) (D : va_G) (q : Nat → ClassId) (h : Nat → Nat) (N : Nat) (nf : Nat) (nb : Nat) (x1 : Int32) (x2 : Int32) (σ : St) (z : Int32) (hf : pf_X6_tree N nf nb x1 x2 σ = some z) : MI l yX6_tree cX6_tree 3 (some .int) 4 91 D (tyQ q) [.ref (h 0), .int x1, .int x2] (wC h q nf nb σ) (wC h q nf nb σ) z := by
  refine MI.of (by decide) (Nat.le_of_ble_eq_true rfl) ?_
  intro p e s m args below meth c Q A C ret ls hl
  have hl : lv_has ls 3 [(0, .ref (h 0)), (1, .int x1), (2, .int x2)] := hl
  unfold pf_X6_tree at hf
  refine s_iload_n C dX6_tree_0 rfl (lv_at hl 1 rfl) ?_
  obtain ⟨z1, h2, hf⟩ := bn_some hf
  refine s_callIS (As := [.int x1]) (rest := []) C (c_X6_isFile l D q (wC h q nf nb σ) N x1  z1 h2) ⟨wd_2_4, wd_2_5, wd_1_1, wd_2_6, cx_X6_isFile, Nat.le_of_ble_eq_true rfl, Nat.le_of_ble_eq_true rfl⟩ (SubW.full _ _) rfl hl.1 rfl (Nat.le_of_ble_eq_true rfl) dX6_tree_1 (Nat.zero_le _) (Nat.zero_le _) ?_
  refine s_if_ne (tgt := 10) C dX6_tree_4 (by decide) (fun c3 => ?_) (fun c3 => ?_)
  · replace hf := it_f c3 hf
    refine s_iload_n C dX6_tree_10 rfl (lv_at hl 2 rfl) ?_
    by_cases c4 : x2 = (0 : Int32)
    · replace hf := it_t c4 hf
      refine s_tblI (tgt := 48) C dX6_tree_11 c4 (by decide) (by decide) rfl (by decide) ?_
      refine s_aload_n C dX6_tree_48 rfl (lv_at hl 0 rfl) ?_
      refine s_iload_n C dX6_tree_49 rfl (lv_at hl 1 rfl) ?_
      obtain ⟨z5, h6, hf⟩ := bn_some hf
      refine s_callIV (As := [.int x1]) (rest := []) C (c_X6_treeHeight l D q h N nf nb x1 σ z5 h6) ⟨wd_3_93, wd_3_95, wd_s_19, wd_1_1, wd_3_96, cx_X6_treeHeight, Nat.le_of_ble_eq_true rfl, Nat.le_of_ble_eq_true rfl⟩ 0 (ci := 6) rfl rfl rfl (SubW.full _ _) rfl hl.1 rfl (Nat.le_of_ble_eq_true rfl) dX6_tree_50 (Nat.zero_le _) (Nat.zero_le _) ?_
      exact ret _ _ _ _ dX6_tree_53 rfl (rt_1 hf) rfl
    · replace hf := it_f c4 hf
      by_cases c7 : x2 = (1 : Int32)
      · replace hf := it_t c7 hf
        refine s_tblI (tgt := 54) C dX6_tree_11 c7 (by decide) (by decide) rfl (by decide) ?_
        refine s_aload_n C dX6_tree_54 rfl (lv_at hl 0 rfl) ?_
        refine s_iload_n C dX6_tree_55 rfl (lv_at hl 1 rfl) ?_
        obtain ⟨z8, h9, hf⟩ := bn_some hf
        refine s_callIV (As := [.int x1]) (rest := []) C (c_X6_treeNodes l D q h N nf nb x1 σ z8 h9) ⟨wd_3_101, wd_3_103, wd_s_21, wd_1_1, wd_3_104, cx_X6_treeNodes, Nat.le_of_ble_eq_true rfl, Nat.le_of_ble_eq_true rfl⟩ 0 (ci := 6) rfl rfl rfl (SubW.full _ _) rfl hl.1 rfl (Nat.le_of_ble_eq_true rfl) dX6_tree_56 (Nat.zero_le _) (Nat.zero_le _) ?_
        exact ret _ _ _ _ dX6_tree_59 rfl (rt_1 hf) rfl
      · replace hf := it_f c7 hf
        by_cases c10 : x2 = (2 : Int32)
        · replace hf := it_t c10 hf
          refine s_tblI (tgt := 60) C dX6_tree_11 c10 (by decide) (by decide) rfl (by decide) ?_
          refine s_aload_n C dX6_tree_60 rfl (lv_at hl 0 rfl) ?_
          refine s_iload_n C dX6_tree_61 rfl (lv_at hl 1 rfl) ?_
          obtain ⟨z11, h12, hf⟩ := bn_some hf
          refine s_callIV (As := [.int x1]) (rest := []) C (c_X6_treeEntries l D q h N nf nb x1 σ z11 h12) ⟨wd_3_105, wd_3_107, wd_s_22, wd_1_1, wd_3_108, cx_X6_treeEntries, Nat.le_of_ble_eq_true rfl, Nat.le_of_ble_eq_true rfl⟩ 0 (ci := 6) rfl rfl rfl (SubW.full _ _) rfl hl.1 rfl (Nat.le_of_ble_eq_true rfl) dX6_tree_62 (Nat.zero_le _) (Nat.zero_le _) ?_
          exact ret _ _ _ _ dX6_tree_65 rfl (rt_1 hf) rfl
        · replace hf := it_f c10 hf
          by_cases c13 : x2 = (3 : Int32)
          · replace hf := it_t c13 hf
            refine s_tblI (tgt := 66) C dX6_tree_11 c13 (by decide) (by decide) rfl (by decide) ?_
            refine s_aload_n C dX6_tree_66 rfl (lv_at hl 0 rfl) ?_
            refine gC_0_1 C wd_1_213 dX6_tree_67 ?_
            refine gnC_9_1 C nl_10 dX6_tree_70 ?_
            refine s_iload_n C dX6_tree_73 rfl (lv_at hl 1 rfl) ?_
            obtain ⟨hi14, hf⟩ := bI_some hf
            refine ldC_11 C hi14 dX6_tree_74 ?_
            exact ret _ _ _ _ dX6_tree_75 rfl (rt_1 hf) rfl
          · replace hf := it_f c13 hf
            by_cases c15 : x2 = (4 : Int32)
            · replace hf := it_t c15 hf
              refine s_tblI (tgt := 76) C dX6_tree_11 c15 (by decide) (by decide) rfl (by decide) ?_
              refine s_aload_n C dX6_tree_76 rfl (lv_at hl 0 rfl) ?_
              refine gC_0_1 C wd_1_213 dX6_tree_77 ?_
              refine gnC_9_2 C nl_11 dX6_tree_80 ?_
              refine s_iload_n C dX6_tree_83 rfl (lv_at hl 1 rfl) ?_
              obtain ⟨hi16, hf⟩ := bI_some hf
              refine ldC_12 C hi16 dX6_tree_84 ?_
              exact ret _ _ _ _ dX6_tree_85 rfl (rt_1 hf) rfl
            · replace hf := it_f c15 hf
              by_cases c17 : x2 = (5 : Int32)
              · replace hf := it_t c17 hf
                refine s_tblI (tgt := 86) C dX6_tree_11 c17 (by decide) (by decide) rfl (by decide) ?_
                refine s_aload_n C dX6_tree_86 rfl (lv_at hl 0 rfl) ?_
                refine gC_0_1 C wd_1_213 dX6_tree_87 ?_
                refine gnC_9_3 C nl_12 dX6_tree_90 ?_
                refine s_iload_n C dX6_tree_93 rfl (lv_at hl 1 rfl) ?_
                obtain ⟨hi18, hf⟩ := bI_some hf
                refine ldC_13 C hi18 dX6_tree_94 ?_
                exact ret _ _ _ _ dX6_tree_95 rfl (rt_1 hf) rfl
              · replace hf := it_f c17 hf
                refine s_tblO (tgt := 96) C dX6_tree_11 (tb_out (n := 5) (by decide) (fun k hk => ?_)) (by decide) ?_
                · rcases (show k = 0 ∨ k = 1 ∨ k = 2 ∨ k = 3 ∨ k = 4 ∨ k = 5 by omega) with rfl | rfl | rfl | rfl | rfl | rfl
                  · exact c4
                  · exact c7
                  · exact c10
                  · exact c13
                  · exact c15
                  · exact c17
                refine s_bipush (v := (-2 : Int32)) C dX6_tree_96 (by decide) ?_
                exact ret _ _ _ _ dX6_tree_98 rfl (rt_1 hf) rfl
  · replace hf := it_t c3 hf
    refine s_bipush (v := (-2 : Int32)) C dX6_tree_7 (by decide) ?_
    exact ret _ _ _ _ dX6_tree_9 rfl (rt_1 hf) rfl
def pf_X6_truncate_L61 (N : Nat) (nf : Nat) (nb : Nat) : Nat → Int32 → Int32 → Int32 → Int32 → St → Option (Int32 × St)
  | 0, _, _, _, _, _ => none
  | n + 1, x1, x2, x3, x4, σ => if (256 : Int32) ≤ x4 then (pf_X6_cutLastPage N nf nb x1 x2 σ).bind (fun z18 => if z18.1 = 0 then some ((-3 : Int32), z18.2) else some (x3, z18.2)) else (pf_X6_spotOf N x1 x4).bind (fun z21 => (pf_X6_makeHole N nf nb z21 σ).bind (fun z23 => (pf_X6_truncate_L61 N nf nb n) x1 x2 x3 (x4 + 1) z23.2))
def pf_X6_truncate (N : Nat) (nf : Nat) (nb : Nat) (x1 : Int32) (x2 : Int32) (σ : St) : Option (Int32 × St) := (pf_X6_isFile N x1).bind (fun z1 => if z1 = 0 then some ((-2 : Int32), σ) else if x2 < 0 then some ((-2 : Int32), σ) else if x2 ≤ (16384 : Int32) then (pf_X0_begin N nf nb σ).bind (fun z6 => bI x1 (12) (lt_ ((z6.2.1 10) (Int32.toNatClampNeg x1)) (fun v9 => bI x1 (12) (lt_ (sA z6 10 (upd (z6.2.1 10) (Int32.toNatClampNeg x1) x2)) (fun σ12 => if x2 < v9 then (pf_X6_pagesIn N x2).bind (fun z15 => pf_X6_truncate_L61 N nf nb N x1 x2 v9 z15 σ12) else some (v9, σ12)))))) else some ((-2 : Int32), σ))
theorem cx_X6_truncate : (yX6_truncate.cls ≠ "java/lang/invoke/MethodHandle" ∧ yX6_truncate.cls ≠ "java/lang/invoke/VarHandle" ∧ (parseMethodDescriptor yX6_truncate.desc).map (fun d => d.parameters.length) = some 2) := by decide +kernel
set_option maxHeartbeats 4000000 in
set_option maxRecDepth 100000 in
theorem c_X6_truncate (l : Launch) (D : va_G) (q : Nat → ClassId) (h : Nat → Nat) (N : Nat) (nf : Nat) (nb : Nat) (x1 : Int32) (x2 : Int32) (σ : St) (z : (Int32 × St)) (hf : pf_X6_truncate N nf nb x1 x2 σ = some z) : MI l yX6_truncate cX6_truncate 5 (some .int) 7 167 D (tyQ q) [.ref (h 0), .int x1, .int x2] (wC h q nf nb σ) (wC h q nf nb z.2) z.1 := by
  refine MI.of (by decide) (Nat.le_of_ble_eq_true rfl) ?_
  intro p e s m args below meth c Q A C ret ls hl
  have hl : lv_has ls 5 [(0, .ref (h 0)), (1, .int x1), (2, .int x2)] := hl
  unfold pf_X6_truncate at hf
  have L61 : ∀ (n : Nat) (x1 : Int32) (x2 : Int32) (x3 : Int32) (x4 : Int32) (σ : St), pf_X6_truncate_L61 N nf nb n x1 x2 x3 x4 σ = some z → ∀ ls : Array Slot, lv_has ls 5 [(0, .ref (h 0)), (1, .int x1), (2, .int x2), (3, .int x3), (4, .int x4)] → WG p l e (rmO 7 167) s m args below meth c D A 0 0 Q (wC h q nf nb σ) (F0 m 61 ls []) := by
    intro n
    induction n with
    | zero => intro x1 x2 x3 x4 σ hf; unfold pf_X6_truncate_L61 at hf; cases hf
    | succ n ih =>
      intro x1 x2 x3 x4 σ hf ls hl
      unfold pf_X6_truncate_L61 at hf
      refine s_iload C dX6_truncate_61 (lv_at hl 4 rfl) ?_
      refine s_sipush (v := (256 : Int32)) C dX6_truncate_63 (by decide) ?_
      refine s_icmp_ge (tgt := 86) C dX6_truncate_66 (by decide) (fun c17 => ?_) (fun c17 => ?_)
      · replace hf := it_t c17 hf
        refine s_aload_n C dX6_truncate_86 rfl (lv_at hl 0 rfl) ?_
        refine s_iload_n C dX6_truncate_87 rfl (lv_at hl 1 rfl) ?_
        refine s_iload_n C dX6_truncate_88 rfl (lv_at hl 2 rfl) ?_
        obtain ⟨z18, h19, hf⟩ := bn_some hf
        refine s_callIV (As := [.int x1, .int x2]) (rest := []) C (c_X6_cutLastPage l D q h N nf nb x1 x2 σ z18 h19) ⟨wd_3_2, wd_3_4, wd_s_13, wd_1_1, wd_3_5, cx_X6_cutLastPage, Nat.le_of_ble_eq_true rfl, Nat.le_of_ble_eq_true rfl⟩ 0 (ci := 6) rfl rfl rfl (SubW.full _ _) rfl hl.1 rfl (Nat.le_of_ble_eq_true rfl) dX6_truncate_89 (Nat.zero_le _) (Nat.zero_le _) ?_
        refine s_if_eq (tgt := 99) C dX6_truncate_92 (by decide) (fun c20 => ?_) (fun c20 => ?_)
        · replace hf := it_t c20 hf
          refine s_bipush (v := (-3 : Int32)) C dX6_truncate_99 (by decide) ?_
          exact ret _ _ _ _ dX6_truncate_101 rfl (rt_2 hf).1 (congrArg (fun σ => (wC h q nf nb σ)) (rt_2 hf).2)
        · replace hf := it_f c20 hf
          refine s_iload_n C dX6_truncate_95 rfl (lv_at hl 3 rfl) ?_
          refine s_goto (tgt := 101) C dX6_truncate_96 (by decide) ?_
          exact ret _ _ _ _ dX6_truncate_101 rfl (rt_2 hf).1 (congrArg (fun σ => (wC h q nf nb σ)) (rt_2 hf).2)
      · replace hf := it_f c17 hf
        refine s_aload_n C dX6_truncate_69 rfl (lv_at hl 0 rfl) ?_
        refine s_iload_n C dX6_truncate_70 rfl (lv_at hl 1 rfl) ?_
        refine s_iload C dX6_truncate_71 (lv_at hl 4 rfl) ?_
        obtain ⟨z21, h22, hf⟩ := bn_some hf
        refine s_callIS (As := [.int x1, .int x4]) (rest := [.ref (h 0)]) C (c_X6_spotOf l D q (wC h q nf nb σ) N x1 x4  z21 h22) ⟨wd_2_18, wd_2_19, wd_1_1, wd_2_20, cx_X6_spotOf, Nat.le_of_ble_eq_true rfl, Nat.le_of_ble_eq_true rfl⟩ (SubW.full _ _) rfl hl.1 rfl (Nat.le_of_ble_eq_true rfl) dX6_truncate_73 (Nat.zero_le _) (Nat.zero_le _) ?_
        obtain ⟨z23, h24, hf⟩ := bn_some hf
        refine s_callIV (As := [.int z21]) (rest := []) C (c_X6_makeHole l D q h N nf nb z21 σ z23 h24) ⟨wd_2_234, wd_2_236, wd_s_12, wd_1_1, wd_2_237, cx_X6_makeHole, Nat.le_of_ble_eq_true rfl, Nat.le_of_ble_eq_true rfl⟩ 0 (ci := 6) rfl rfl rfl (SubW.full _ _) rfl hl.1 rfl (Nat.le_of_ble_eq_true rfl) dX6_truncate_76 (Nat.zero_le _) (Nat.zero_le _) ?_
        refine s_pop C dX6_truncate_79 rfl ?_
        refine s_iinc (v := (x4 + 1)) (lv2 := [(4, .int (x4 + 1)), (0, .ref (h 0)), (1, .int x1), (2, .int x2), (3, .int x3)]) C 4 dX6_truncate_80 hl rfl rfl (by decide) rfl ?_
        intro ls hl
        refine s_goto (tgt := 61) C dX6_truncate_83 (by decide) ?_
        exact ih _ _ _ _ _ hf _ (lv_sub hl [1, 2, 3, 4, 0] rfl)
  refine s_iload_n C dX6_truncate_0 rfl (lv_at hl 1 rfl) ?_
  obtain ⟨z1, h2, hf⟩ := bn_some hf
  refine s_callIS (As := [.int x1]) (rest := []) C (c_X6_isFile l D q (wC h q nf nb σ) N x1  z1 h2) ⟨wd_2_4, wd_2_5, wd_1_1, wd_2_6, cx_X6_isFile, Nat.le_of_ble_eq_true rfl, Nat.le_of_ble_eq_true rfl⟩ (SubW.full _ _) rfl hl.1 rfl (Nat.le_of_ble_eq_true rfl) dX6_truncate_1 (Nat.zero_le _) (Nat.zero_le _) ?_
  refine s_if_eq (tgt := 18) C dX6_truncate_4 (by decide) (fun c3 => ?_) (fun c3 => ?_)
  · replace hf := it_t c3 hf
    refine s_bipush (v := (-2 : Int32)) C dX6_truncate_18 (by decide) ?_
    exact ret _ _ _ _ dX6_truncate_20 rfl (rt_2 hf).1 (congrArg (fun σ => (wC h q nf nb σ)) (rt_2 hf).2)
  · replace hf := it_f c3 hf
    refine s_iload_n C dX6_truncate_7 rfl (lv_at hl 2 rfl) ?_
    refine s_if_lt (tgt := 18) C dX6_truncate_8 (by decide) (fun c4 => ?_) (fun c4 => ?_)
    · replace hf := it_t c4 hf
      refine s_bipush (v := (-2 : Int32)) C dX6_truncate_18 (by decide) ?_
      exact ret _ _ _ _ dX6_truncate_20 rfl (rt_2 hf).1 (congrArg (fun σ => (wC h q nf nb σ)) (rt_2 hf).2)
    · replace hf := it_f c4 hf
      refine s_iload_n C dX6_truncate_11 rfl (lv_at hl 2 rfl) ?_
      refine s_sipush (v := (16384 : Int32)) C dX6_truncate_12 (by decide) ?_
      refine s_icmp_le (tgt := 21) C dX6_truncate_15 (by decide) (fun c5 => ?_) (fun c5 => ?_)
      · replace hf := it_t c5 hf
        refine s_aload_n C dX6_truncate_21 rfl (lv_at hl 0 rfl) ?_
        refine gC_0_0 C wd_1_212 dX6_truncate_22 ?_
        obtain ⟨z6, h7, hf⟩ := bn_some hf
        refine s_callVV (As := []) (rest := []) C (c_X0_begin l D q h N nf nb σ z6 h7) ⟨wd_2_7, wd_2_8, wd_2_9, wd_1_4, wd_2_10, cx_X0_begin, Nat.le_of_ble_eq_true rfl, Nat.le_of_ble_eq_true rfl⟩ 1 (ci := 0) rfl rfl rfl (SubW.full _ _) rfl hl.1 rfl (Nat.le_of_ble_eq_true rfl) dX6_truncate_25 (Nat.zero_le _) (Nat.zero_le _) ?_
        refine s_aload_n C dX6_truncate_28 rfl (lv_at hl 0 rfl) ?_
        refine gC_0_1 C wd_1_213 dX6_truncate_29 ?_
        refine gnC_9_0 C nl_9 dX6_truncate_32 ?_
        refine s_iload_n C dX6_truncate_35 rfl (lv_at hl 1 rfl) ?_
        obtain ⟨hi8, hf⟩ := bI_some hf
        refine ldC_10 C hi8 dX6_truncate_36 ?_
        obtain ⟨v9, e10, hf⟩ := lt_some hf
        refine s_eq (g2 := F0 m 37 ls [.int v9]) (by rw [e10]) ?_
        clear e10
        refine s_istore_n (lv2 := [(3, .int v9), (0, .ref (h 0)), (1, .int x1), (2, .int x2)]) C dX6_truncate_37 rfl hl (by decide) rfl ?_
        intro ls hl
        refine s_aload_n C dX6_truncate_38 rfl (lv_at hl 1 rfl) ?_
        refine gC_0_1 C wd_1_213 dX6_truncate_39 ?_
        refine gnC_9_0 C nl_9 dX6_truncate_42 ?_
        refine s_iload_n C dX6_truncate_45 rfl (lv_at hl 2 rfl) ?_
        refine s_iload_n C dX6_truncate_46 rfl (lv_at hl 3 rfl) ?_
        obtain ⟨hi11, hf⟩ := bI_some hf
        refine stC_10 C hi11 dX6_truncate_47 ?_
        obtain ⟨σ12, e13, hf⟩ := lt_some hf
        refine s_w (ws2 := (wC h q nf nb σ12)) (by rw [e13]) ?_
        clear e13
        refine s_iload_n C dX6_truncate_48 rfl (lv_at hl 3 rfl) ?_
        refine s_iload_n C dX6_truncate_49 rfl (lv_at hl 0 rfl) ?_
        refine s_icmp_lt (tgt := 55) C dX6_truncate_50 (by decide) (fun c14 => ?_) (fun c14 => ?_)
        · replace hf := it_t c14 hf
          refine s_iload_n C dX6_truncate_55 rfl (lv_at hl 3 rfl) ?_
          obtain ⟨z15, h16, hf⟩ := bn_some hf
          refine s_callIS (As := [.int x2]) (rest := []) C (c_X6_pagesIn l D q (wC h q nf nb σ12) N x2  z15 h16) ⟨wd_2_188, wd_2_189, wd_1_1, wd_2_190, cx_X6_pagesIn, Nat.le_of_ble_eq_true rfl, Nat.le_of_ble_eq_true rfl⟩ (SubW.full _ _) rfl hl.1 rfl (Nat.le_of_ble_eq_true rfl) dX6_truncate_56 (Nat.zero_le _) (Nat.zero_le _) ?_
          refine s_istore (lv2 := [(4, .int z15), (3, .int v9), (0, .ref (h 0)), (1, .int x1), (2, .int x2)]) C dX6_truncate_59 hl (by decide) rfl ?_
          intro ls hl
          exact L61 N _ _ _ _ _ hf _ (lv_sub hl [2, 3, 4, 1, 0] rfl)
        · replace hf := it_f c14 hf
          refine s_iload_n C dX6_truncate_53 rfl (lv_at hl 0 rfl) ?_
          exact ret _ _ _ _ dX6_truncate_54 rfl (rt_2 hf).1 (congrArg (fun σ => (wC h q nf nb σ)) (rt_2 hf).2)
      · replace hf := it_f c5 hf
        refine s_bipush (v := (-2 : Int32)) C dX6_truncate_18 (by decide) ?_
        exact ret _ _ _ _ dX6_truncate_20 rfl (rt_2 hf).1 (congrArg (fun σ => (wC h q nf nb σ)) (rt_2 hf).2)
def pf_X6_write_L29 (N : Nat) (nf : Nat) (nb : Nat) : Nat → Int32 → Int32 → Int64 → Int32 → Int32 → St → Option (Int32 × St)
  | 0, _, _, _, _, _, _ => none
  | n + 1, x1, x2, x3, x5, x6, σ => if x5 ≤ x6 then (pf_X6_putRow N nf nb x1 x2 x5 σ).bind (fun z7 => some (z7.1, z7.2)) else (pf_X5_put N (128) x6 (Int64.toInt32 ((Int64.toUInt64 x3 >>> (Int64.toUInt64 (Int32.toInt64 ((8 : Int32) * x6)) &&& Int64.toUInt64 63)).toInt64)) (σ.2.2 34)).bind (fun z9 => lt_ (sL σ 34 z9) (fun σ11 => (pf_X6_write_L29 N nf nb n) x1 x2 x3 x5 (x6 + 1) σ11))
def pf_X6_write (N : Nat) (nf : Nat) (nb : Nat) (x1 : Int32) (x2 : Int32) (x3 : Int64) (x5 : Int32) (σ : St) : Option (Int32 × St) := if x5 < (1 : Int32) then some ((-2 : Int32), σ) else if (8 : Int32) < x5 then some ((-2 : Int32), σ) else (pf_X6_isStretch N x1 x2 x5).bind (fun z3 => if z3 = 0 then some ((-2 : Int32), σ) else pf_X6_write_L29 N nf nb N x1 x2 x3 x5 (0 : Int32) σ)
theorem cx_X6_write : (yX6_write.cls ≠ "java/lang/invoke/MethodHandle" ∧ yX6_write.cls ≠ "java/lang/invoke/VarHandle" ∧ (parseMethodDescriptor yX6_write.desc).map (fun d => d.parameters.length) = some 4) := by decide +kernel
set_option maxHeartbeats 4000000 in
set_option maxRecDepth 100000 in
theorem c_X6_write (l : Launch) (D : va_G) (q : Nat → ClassId) (h : Nat → Nat) (N : Nat) (nf : Nat) (nb : Nat) (x1 : Int32) (x2 : Int32) (x3 : Int64) (x5 : Int32) (σ : St) (z : (Int32 × St)) (hf : pf_X6_write N nf nb x1 x2 x3 x5 σ = some z) : MI l yX6_write cX6_write 7 (some .int) 7 172 D (tyQ q) [.ref (h 0), .int x1, .int x2, .long x3, .int x5] (wC h q nf nb σ) (wC h q nf nb z.2) z.1 := by
  refine MI.of (by decide) (Nat.le_of_ble_eq_true rfl) ?_
  intro p e s m args below meth c Q A C ret ls hl
  have hl : lv_has ls 7 [(0, .ref (h 0)), (1, .int x1), (2, .int x2), (3, .long x3), (5, .int x5)] := hl
  unfold pf_X6_write at hf
  have L29 : ∀ (n : Nat) (x1 : Int32) (x2 : Int32) (x3 : Int64) (x5 : Int32) (x6 : Int32) (σ : St), pf_X6_write_L29 N nf nb n x1 x2 x3 x5 x6 σ = some z → ∀ ls : Array Slot, lv_has ls 7 [(0, .ref (h 0)), (1, .int x1), (2, .int x2), (3, .long x3), (5, .int x5), (6, .int x6)] → WG p l e (rmO 7 172) s m args below meth c D A 0 0 Q (wC h q nf nb σ) (F0 m 29 ls []) := by
    intro n
    induction n with
    | zero => intro x1 x2 x3 x5 x6 σ hf; unfold pf_X6_write_L29 at hf; cases hf
    | succ n ih =>
      intro x1 x2 x3 x5 x6 σ hf ls hl
      unfold pf_X6_write_L29 at hf
      refine s_iload C dX6_write_29 (lv_at hl 5 rfl) ?_
      refine s_iload C dX6_write_31 (lv_at hl 4 rfl) ?_
      refine s_icmp_ge (tgt := 59) C dX6_write_33 (by decide) (fun c6 => ?_) (fun c6 => ?_)
      · replace hf := it_t c6 hf
        refine s_aload_n C dX6_write_59 rfl (lv_at hl 0 rfl) ?_
        refine s_iload_n C dX6_write_60 rfl (lv_at hl 1 rfl) ?_
        refine s_iload_n C dX6_write_61 rfl (lv_at hl 2 rfl) ?_
        refine s_iload C dX6_write_62 (lv_at hl 4 rfl) ?_
        obtain ⟨z7, h8, hf⟩ := bn_some hf
        refine s_callIV (As := [.int x1, .int x2, .int x5]) (rest := []) C (c_X6_putRow l D q h N nf nb x1 x2 x5 σ z7 h8) ⟨wd_2_202, wd_2_204, wd_s_10, wd_1_1, wd_2_205, cx_X6_putRow, Nat.le_of_ble_eq_true rfl, Nat.le_of_ble_eq_true rfl⟩ 0 (ci := 6) rfl rfl rfl (SubW.full _ _) rfl hl.1 rfl (Nat.le_of_ble_eq_true rfl) dX6_write_64 (Nat.zero_le _) (Nat.zero_le _) ?_
        exact ret _ _ _ _ dX6_write_67 rfl (rt_2 hf).1 (congrArg (fun σ => (wC h q nf nb σ)) (rt_2 hf).2)
      · replace hf := it_f c6 hf
        refine s_aload_n C dX6_write_36 rfl (lv_at hl 0 rfl) ?_
        refine gC_0_6 C wd_1_218 dX6_write_37 ?_
        refine s_iload C dX6_write_40 (lv_at hl 5 rfl) ?_
        refine s_lload_n C dX6_write_42 rfl (lv_at hl 3 rfl) ?_
        refine s_bipush (v := (8 : Int32)) C dX6_write_43 (by decide) ?_
        refine s_iload C dX6_write_45 (lv_at hl 5 rfl) ?_
        refine s_imul C dX6_write_47 ?_
        refine s_lushr C dX6_write_48 ?_
        refine s_l2i C dX6_write_49 ?_
        obtain ⟨z9, h10, hf⟩ := bn_some hf
        refine s_callVV (As := [.int x6, .int (Int64.toInt32 ((Int64.toUInt64 x3 >>> (Int64.toUInt64 (Int32.toInt64 ((8 : Int32) * x6)) &&& Int64.toUInt64 63)).toInt64))]) (rest := []) C (c_X5_put l D q (h 33) (h 34) N (128) x6 (Int64.toInt32 ((Int64.toUInt64 x3 >>> (Int64.toUInt64 (Int32.toInt64 ((8 : Int32) * x6)) &&& Int64.toUInt64 63)).toInt64)) (σ.2.2 34) z9 h10) ⟨wd_2_180, wd_2_181, wd_2_182, wd_1_2, wd_2_183, cx_X5_put, Nat.le_of_ble_eq_true rfl, Nat.le_of_ble_eq_true rfl⟩ 33 (ci := 5) rfl rfl rfl (jnC_33_34 nf nb h  q σ z9) rfl hl.1 rfl (Nat.le_of_ble_eq_true rfl) dX6_write_50 (Nat.zero_le _) (Nat.zero_le _) ?_
        obtain ⟨σ11, e12, hf⟩ := lt_some hf
        refine s_w (ws2 := (wC h q nf nb σ11)) (by rw [e12]) ?_
        clear e12
        refine s_iinc (v := (x6 + 1)) (lv2 := [(6, .int (x6 + 1)), (0, .ref (h 0)), (1, .int x1), (2, .int x2), (3, .long x3), (5, .int x5)]) C 5 dX6_write_53 hl rfl rfl (by decide) rfl ?_
        intro ls hl
        refine s_goto (tgt := 29) C dX6_write_56 (by decide) ?_
        exact ih _ _ _ _ _ _ hf _ (lv_sub hl [1, 2, 3, 4, 5, 0] rfl)
  refine s_iload C dX6_write_0 (lv_at hl 4 rfl) ?_
  refine s_iconst (v := (1 : Int32)) C dX6_write_2 (by decide) ?_
  refine s_icmp_lt (tgt := 23) C dX6_write_3 (by decide) (fun c1 => ?_) (fun c1 => ?_)
  · replace hf := it_t c1 hf
    refine s_bipush (v := (-2 : Int32)) C dX6_write_23 (by decide) ?_
    exact ret _ _ _ _ dX6_write_25 rfl (rt_2 hf).1 (congrArg (fun σ => (wC h q nf nb σ)) (rt_2 hf).2)
  · replace hf := it_f c1 hf
    refine s_iload C dX6_write_6 (lv_at hl 4 rfl) ?_
    refine s_bipush (v := (8 : Int32)) C dX6_write_8 (by decide) ?_
    refine s_icmp_gt (tgt := 23) C dX6_write_10 (by decide) (fun c2 => ?_) (fun c2 => ?_)
    · replace hf := it_t c2 hf
      refine s_bipush (v := (-2 : Int32)) C dX6_write_23 (by decide) ?_
      exact ret _ _ _ _ dX6_write_25 rfl (rt_2 hf).1 (congrArg (fun σ => (wC h q nf nb σ)) (rt_2 hf).2)
    · replace hf := it_f c2 hf
      refine s_iload_n C dX6_write_13 rfl (lv_at hl 1 rfl) ?_
      refine s_iload_n C dX6_write_14 rfl (lv_at hl 2 rfl) ?_
      refine s_iload C dX6_write_15 (lv_at hl 4 rfl) ?_
      obtain ⟨z3, h4, hf⟩ := bn_some hf
      refine s_callIS (As := [.int x1, .int x2, .int x5]) (rest := []) C (c_X6_isStretch l D q (wC h q nf nb σ) N x1 x2 x5  z3 h4) ⟨wd_2_199, wd_2_200, wd_1_1, wd_2_201, cx_X6_isStretch, Nat.le_of_ble_eq_true rfl, Nat.le_of_ble_eq_true rfl⟩ (SubW.full _ _) rfl hl.1 rfl (Nat.le_of_ble_eq_true rfl) dX6_write_17 (Nat.zero_le _) (Nat.zero_le _) ?_
      refine s_if_ne (tgt := 26) C dX6_write_20 (by decide) (fun c5 => ?_) (fun c5 => ?_)
      · replace hf := it_f c5 hf
        refine s_iconst (v := (0 : Int32)) C dX6_write_26 (by decide) ?_
        refine s_istore (lv2 := [(6, .int (0 : Int32)), (0, .ref (h 0)), (1, .int x1), (2, .int x2), (3, .long x3), (5, .int x5)]) C dX6_write_27 hl (by decide) rfl ?_
        intro ls hl
        exact L29 N _ _ _ _ _ _ hf _ (lv_sub hl [1, 2, 3, 4, 5, 0] rfl)
      · replace hf := it_t c5 hf
        refine s_bipush (v := (-2 : Int32)) C dX6_write_23 (by decide) ?_
        exact ret _ _ _ _ dX6_write_25 rfl (rt_2 hf).1 (congrArg (fun σ => (wC h q nf nb σ)) (rt_2 hf).2)
