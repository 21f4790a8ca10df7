def pf_X7_write (N : Nat) (x1 : Int32) (x2 : Int32) (x3 : Int64) (x5 : Int32) (σ : St) : Option (Int32 × St) := (pf_X7_isFile N x1).bind (fun z1 => if z1 = 0 then some ((-2 : Int32), σ) else if x5 < (1 : Int32) then some ((-2 : Int32), σ) else if (8 : Int32) < x5 then some ((-2 : Int32), σ) else if x2 < 0 then some ((-2 : Int32), σ) else if x2 ≤ ((16384 : Int32) - x5) then (pf_X7_put N x1 x2 x5 (0 : Int32) x3 (0 : Int32) σ).bind (fun z8 => some (z8.1, z8.2)) else some ((-2 : Int32), σ))
theorem cx_X7_write : (yX7_write.cls ≠ "java/lang/invoke/MethodHandle" ∧ yX7_write.cls ≠ "java/lang/invoke/VarHandle" ∧ (parseMethodDescriptor yX7_write.desc).map (fun d => d.parameters.length) = some 4) := by decide +kernel
set_option maxHeartbeats 4000000 in
set_option maxRecDepth 100000 in
theorem c_X7_write (l : Launch) (D : va_G) (q : Nat → ClassId) (h : Nat → Nat) (N : Nat) (x1 : Int32) (x2 : Int32) (x3 : Int64) (x5 : Int32) (σ : St) (z : (Int32 × St)) (hf : pf_X7_write N x1 x2 x3 x5 σ = some z) : MI l yX7_write cX7_write 6 (some .int) 8 187 D (tyQ q) [.ref (h 0), .int x1, .int x2, .long x3, .int x5] (wM h q σ) (wM h q z.2) z.1 := by
  refine MI.of (by decide) (Nat.le_of_ble_eq_true rfl) ?_
  intro p e s m args below meth c Q A C ret ls hl
  have hl : lv_has ls 6 [(0, .ref (h 0)), (1, .int x1), (2, .int x2), (3, .long x3), (5, .int x5)] := hl
  unfold pf_X7_write at hf
  refine s_iload_n C dX7_write_0 rfl (lv_at hl 1 rfl) ?_
  obtain ⟨z1, h2, hf⟩ := bn_some hf
  refine s_callIS (As := [.int x1]) (rest := []) C (c_X7_isFile l D q (wM h q σ) N x1  z1 h2) ⟨wd_4_10, wd_4_11, wd_1_10, wd_4_12, cx_X7_isFile, Nat.le_of_ble_eq_true rfl, Nat.le_of_ble_eq_true rfl⟩ (SubW.full _ _) rfl hl.1 rfl (Nat.le_of_ble_eq_true rfl) dX7_write_1 (Nat.zero_le _) (Nat.zero_le _) ?_
  refine s_if_eq (tgt := 34) C dX7_write_4 (by decide) (fun c3 => ?_) (fun c3 => ?_)
  · replace hf := it_t c3 hf
    refine s_bipush (v := (-2 : Int32)) C dX7_write_34 (by decide) ?_
    exact ret _ _ _ _ dX7_write_36 rfl (rt_2 hf).1 (congrArg (fun σ => (wM h q σ)) (rt_2 hf).2)
  · replace hf := it_f c3 hf
    refine s_iload C dX7_write_7 (lv_at hl 4 rfl) ?_
    refine s_iconst (v := (1 : Int32)) C dX7_write_9 (by decide) ?_
    refine s_icmp_lt (tgt := 34) C dX7_write_10 (by decide) (fun c4 => ?_) (fun c4 => ?_)
    · replace hf := it_t c4 hf
      refine s_bipush (v := (-2 : Int32)) C dX7_write_34 (by decide) ?_
      exact ret _ _ _ _ dX7_write_36 rfl (rt_2 hf).1 (congrArg (fun σ => (wM h q σ)) (rt_2 hf).2)
    · replace hf := it_f c4 hf
      refine s_iload C dX7_write_13 (lv_at hl 4 rfl) ?_
      refine s_bipush (v := (8 : Int32)) C dX7_write_15 (by decide) ?_
      refine s_icmp_gt (tgt := 34) C dX7_write_17 (by decide) (fun c5 => ?_) (fun c5 => ?_)
      · replace hf := it_t c5 hf
        refine s_bipush (v := (-2 : Int32)) C dX7_write_34 (by decide) ?_
        exact ret _ _ _ _ dX7_write_36 rfl (rt_2 hf).1 (congrArg (fun σ => (wM h q σ)) (rt_2 hf).2)
      · replace hf := it_f c5 hf
        refine s_iload_n C dX7_write_20 rfl (lv_at hl 2 rfl) ?_
        refine s_if_lt (tgt := 34) C dX7_write_21 (by decide) (fun c6 => ?_) (fun c6 => ?_)
        · replace hf := it_t c6 hf
          refine s_bipush (v := (-2 : Int32)) C dX7_write_34 (by decide) ?_
          exact ret _ _ _ _ dX7_write_36 rfl (rt_2 hf).1 (congrArg (fun σ => (wM h q σ)) (rt_2 hf).2)
        · replace hf := it_f c6 hf
          refine s_iload_n C dX7_write_24 rfl (lv_at hl 2 rfl) ?_
          refine s_sipush (v := (16384 : Int32)) C dX7_write_25 (by decide) ?_
          refine s_iload C dX7_write_28 (lv_at hl 4 rfl) ?_
          refine s_isub C dX7_write_30 ?_
          refine s_icmp_le (tgt := 37) C dX7_write_31 (by decide) (fun c7 => ?_) (fun c7 => ?_)
          · replace hf := it_t c7 hf
            refine s_aload_n C dX7_write_37 rfl (lv_at hl 0 rfl) ?_
            refine s_iload_n C dX7_write_38 rfl (lv_at hl 1 rfl) ?_
            refine s_iload_n C dX7_write_39 rfl (lv_at hl 2 rfl) ?_
            refine s_iload C dX7_write_40 (lv_at hl 4 rfl) ?_
            refine s_iconst (v := (0 : Int32)) C dX7_write_42 (by decide) ?_
            refine s_lload_n C dX7_write_43 rfl (lv_at hl 3 rfl) ?_
            refine s_iconst (v := (0 : Int32)) C dX7_write_44 (by decide) ?_
            obtain ⟨z8, h9, hf⟩ := bn_some hf
            refine s_callIV (As := [.int x1, .int x2, .int x5, .int (0 : Int32), .long x3, .int (0 : Int32)]) (rest := []) C (c_X7_put l D q h N x1 x2 x5 (0 : Int32) x3 (0 : Int32) σ z8 h9) ⟨wd_4_93, wd_4_95, wd_s_41, wd_1_10, wd_4_96, cx_X7_put, Nat.le_of_ble_eq_true rfl, Nat.le_of_ble_eq_true rfl⟩ 0 (ci := 7) rfl rfl rfl (SubW.full _ _) rfl hl.1 rfl (Nat.le_of_ble_eq_true rfl) dX7_write_45 (Nat.zero_le _) (Nat.zero_le _) ?_
            exact ret _ _ _ _ dX7_write_48 rfl (rt_2 hf).1 (congrArg (fun σ => (wM h q σ)) (rt_2 hf).2)
          · replace hf := it_f c7 hf
            refine s_bipush (v := (-2 : Int32)) C dX7_write_34 (by decide) ?_
            exact ret _ _ _ _ dX7_write_36 rfl (rt_2 hf).1 (congrArg (fun σ => (wM h q σ)) (rt_2 hf).2)
