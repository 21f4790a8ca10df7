def pf_J7_fill_53178_L5 (N : Nat) (n0 : Nat) : Nat → Int32 → Int32 → Int32 → (Nat → Int32) → Option (Nat → Int32)
  | 0, _, _, _, _ => none
  | n + 1, x1, x2, x3, f => if x3 ≤ x2 then some f else bI x2 (n0) (lt_ (upd f (Int32.toNatClampNeg x2) x1) (fun f3 => (pf_J7_fill_53178_L5 N n0 n) x1 (x2 + 1) x3 f3))
def pf_J7_fill_53178 (N : Nat) (n0 : Nat) (x1 : Int32) (f : (Nat → Int32)) : Option (Nat → Int32) := pf_J7_fill_53178_L5 N n0 N x1 (0 : Int32) (nI (n0)) f
theorem cx_J7_fill_53178 : (yJ7_fill_53178.cls ≠ "java/lang/invoke/MethodHandle" ∧ yJ7_fill_53178.cls ≠ "java/lang/invoke/VarHandle" ∧ (parseMethodDescriptor yJ7_fill_53178.desc).map (fun d => d.parameters.length) = some 2) := by decide +kernel
set_option maxHeartbeats 4000000 in
set_option maxRecDepth 100000 in
theorem c_J7_fill_53178 (l : Launch) (D : va_G) (q : Nat → ClassId) (h0 : Nat) (N : Nat) (n0 : Nat) (x1 : Int32) (f : (Nat → Int32)) (z : (Nat → Int32)) (hf : pf_J7_fill_53178 N n0 x1 f = some z) : MV l yJ7_fill_53178 cJ7_fill_53178 4 (none) 0 0 D (tyQ q) [.ref h0, .int x1] (wJ h0 q n0 f) (wJ h0 q n0 z) := by
  refine MV.of (by decide) (Nat.le_of_ble_eq_true rfl) ?_
  intro p e s m args below meth c Q A C ret ls hl
  have hl : lv_has ls 4 [(0, .ref h0), (1, .int x1)] := hl
  unfold pf_J7_fill_53178 at hf
  have L5 : ∀ (n : Nat) (x1 : Int32) (x2 : Int32) (x3 : Int32) (f : (Nat → Int32)), pf_J7_fill_53178_L5 N n0 n x1 x2 x3 f = some z → ∀ ls : Array Slot, lv_has ls 4 [(0, .ref h0), (1, .int x1), (2, .int x2), (3, .int x3)] → WG p l e (rmO 0 0) s m args below meth c D A 0 0 Q (wJ h0 q n0 f) (F0 m 5 ls []) := by
    intro n
    induction n with
    | zero => intro x1 x2 x3 f hf; unfold pf_J7_fill_53178_L5 at hf; cases hf
    | succ n ih =>
      intro x1 x2 x3 f hf ls hl
      unfold pf_J7_fill_53178_L5 at hf
      refine s_iload_n C dJ7_fill_53178_5 rfl (lv_at hl 2 rfl) ?_
      refine s_iload_n C dJ7_fill_53178_6 rfl (lv_at hl 3 rfl) ?_
      refine s_icmp_ge (tgt := 20) C dJ7_fill_53178_7 (by decide) (fun c1 => ?_) (fun c1 => ?_)
      · replace hf := it_t c1 hf
        exact ret _ _ _ dJ7_fill_53178_20 (congrArg (fun f => (wJ h0 q n0 f)) (rt_1 hf))
      · replace hf := it_f c1 hf
        refine s_aload_n C dJ7_fill_53178_10 rfl (lv_at hl 0 rfl) ?_
        refine s_iload_n C dJ7_fill_53178_11 rfl (lv_at hl 2 rfl) ?_
        refine s_iload_n C dJ7_fill_53178_12 rfl (lv_at hl 1 rfl) ?_
        obtain ⟨hi2, hf⟩ := bI_some hf
        refine stJ_0 C hi2 dJ7_fill_53178_13 ?_
        obtain ⟨f3, e4, hf⟩ := lt_some hf
        refine s_w (ws2 := (wJ h0 q n0 f3)) (by rw [e4]) ?_
        clear e4
        refine s_iinc (v := (x2 + 1)) (lv2 := [(2, .int (x2 + 1)), (0, .ref h0), (1, .int x1), (3, .int x3)]) C 2 dJ7_fill_53178_14 hl rfl rfl (by decide) rfl ?_
        intro ls hl
        refine s_goto (tgt := 5) C dJ7_fill_53178_17 (by decide) ?_
        exact ih _ _ _ _ hf _ (lv_sub hl [1, 2, 0, 3] rfl)
  refine s_iconst (v := (0 : Int32)) C dJ7_fill_53178_0 (by decide) ?_
  refine s_istore_n (lv2 := [(2, .int (0 : Int32)), (0, .ref h0), (1, .int x1)]) C dJ7_fill_53178_1 rfl hl (by decide) rfl ?_
  intro ls hl
  refine s_aload_n C dJ7_fill_53178_2 rfl (lv_at hl 1 rfl) ?_
  refine alJ_0 C dJ7_fill_53178_3 ?_
  refine s_istore_n (lv2 := [(3, .int (nI (n0))), (2, .int (0 : Int32)), (0, .ref h0), (1, .int x1)]) C dJ7_fill_53178_4 rfl hl (by decide) rfl ?_
  intro ls hl
  exact L5 N _ _ _ _ hf _ (lv_sub hl [2, 3, 1, 0] rfl)
def pf_X5_copyPage_L56 (N : Nat) (n0 : Nat) (n1 : Nat) (g1 : (Nat → Int64)) : Nat → Int32 → Int32 → Int32 → Int32 → (Nat → Int64) → Option (Nat → Int64)
  | 0, _, _, _, _, _ => none
  | n + 1, x4, x5, x6, x7, f => if x4 ≤ x7 then some f else bI (x6 + x7) (n1) (bI (x5 + x7) (n0) (lt_ (vp_updL f (Int32.toNatClampNeg (x5 + x7)) (g1 (Int32.toNatClampNeg (x6 + x7)))) (fun f12 => (pf_X5_copyPage_L56 N n0 n1 g1 n) x4 x5 x6 (x7 + 1) f12)))
def pf_X5_copyPage (N : Nat) (n0 : Nat) (n1 : Nat) (g1 : (Nat → Int64)) (x1 : Int32) (x3 : Int32) (f : (Nat → Int64)) : Option (Nat → Int64) := lt_ (x1 * (8 : Int32)) (fun v1 => lt_ (x3 * (8 : Int32)) (fun v3 => if v1 < 0 then some f else if v3 < 0 then some f else if (nI (n0)) < (v1 + (8 : Int32)) then some f else if (v3 + (8 : Int32)) ≤ (nI (n1)) then pf_X5_copyPage_L56 N n0 n1 g1 N (8 : Int32) v1 v3 (0 : Int32) f else some f))
theorem cx_X5_copyPage : (yX5_copyPage.cls ≠ "java/lang/invoke/MethodHandle" ∧ yX5_copyPage.cls ≠ "java/lang/invoke/VarHandle" ∧ (parseMethodDescriptor yX5_copyPage.desc).map (fun d => d.parameters.length) = some 3) := by decide +kernel
set_option maxHeartbeats 4000000 in
set_option maxRecDepth 100000 in
theorem c_X5_copyPage (l : Launch) (D : va_G) (q : Nat → ClassId) (h0 h1 h2 h3 : Nat) (N : Nat) (n0 : Nat) (n1 : Nat) (g1 : (Nat → Int64)) (x1 : Int32) (x3 : Int32) (f : (Nat → Int64)) (z : (Nat → Int64)) (hf : pf_X5_copyPage N n0 n1 g1 x1 x3 f = some z) : MV l yX5_copyPage cX5_copyPage 8 (none) 0 0 D (tyQ q) [.ref h0, .int x1, .ref h2, .int x3] (wV h0 h1 h2 h3 q n0 n1 g1 f) (wV h0 h1 h2 h3 q n0 n1 g1 z) := by
  refine MV.of (by decide) (Nat.le_of_ble_eq_true rfl) ?_
  intro p e s m args below meth c Q A C ret ls hl
  have hl : lv_has ls 8 [(0, .ref h0), (1, .int x1), (2, .ref h2), (3, .int x3)] := hl
  unfold pf_X5_copyPage at hf
  have L56 : ∀ (n : Nat) (x4 : Int32) (x5 : Int32) (x6 : Int32) (x7 : Int32) (f : (Nat → Int64)), pf_X5_copyPage_L56 N n0 n1 g1 n x4 x5 x6 x7 f = some z → ∀ ls : Array Slot, lv_has ls 8 [(0, .ref h0), (2, .ref h2), (4, .int x4), (5, .int x5), (6, .int x6), (7, .int x7)] → WG p l e (rmO 0 0) s m args below meth c D A 0 0 Q (wV h0 h1 h2 h3 q n0 n1 g1 f) (F0 m 56 ls []) := by
    intro n
    induction n with
    | zero => intro x4 x5 x6 x7 f hf; unfold pf_X5_copyPage_L56 at hf; cases hf
    | succ n ih =>
      intro x4 x5 x6 x7 f hf ls hl
      unfold pf_X5_copyPage_L56 at hf
      refine s_iload C dX5_copyPage_56 (lv_at hl 5 rfl) ?_
      refine s_iload C dX5_copyPage_58 (lv_at hl 2 rfl) ?_
      refine s_icmp_ge (tgt := 89) C dX5_copyPage_60 (by decide) (fun c9 => ?_) (fun c9 => ?_)
      · replace hf := it_t c9 hf
        exact ret _ _ _ dX5_copyPage_89 (congrArg (fun f => (wV h0 h1 h2 h3 q n0 n1 g1 f)) (rt_1 hf))
      · replace hf := it_f c9 hf
        refine s_aload_n C dX5_copyPage_63 rfl (lv_at hl 0 rfl) ?_
        refine gV_0_0 C wd_1_29 dX5_copyPage_64 ?_
        refine s_iload C dX5_copyPage_67 (lv_at hl 3 rfl) ?_
        refine s_iload C dX5_copyPage_69 (lv_at hl 5 rfl) ?_
        refine s_iadd C dX5_copyPage_71 ?_
        refine s_aload_n C dX5_copyPage_72 rfl (lv_at hl 1 rfl) ?_
        refine gV_2_0 C wd_1_29 dX5_copyPage_73 ?_
        refine s_iload C dX5_copyPage_76 (lv_at hl 4 rfl) ?_
        refine s_iload C dX5_copyPage_78 (lv_at hl 5 rfl) ?_
        refine s_iadd C dX5_copyPage_80 ?_
        obtain ⟨hi10, hf⟩ := bI_some hf
        refine ldV_3 C hi10 dX5_copyPage_81 ?_
        obtain ⟨hi11, hf⟩ := bI_some hf
        refine stV_1 C hi11 dX5_copyPage_82 ?_
        obtain ⟨f12, e13, hf⟩ := lt_some hf
        refine s_w (ws2 := (wV h0 h1 h2 h3 q n0 n1 g1 f12)) (by rw [e13]) ?_
        clear e13
        refine s_iinc (v := (x7 + 1)) (lv2 := [(7, .int (x7 + 1)), (0, .ref h0), (2, .ref h2), (4, .int x4), (5, .int x5), (6, .int x6)]) C 5 dX5_copyPage_83 hl rfl rfl (by decide) rfl ?_
        intro ls hl
        refine s_goto (tgt := 56) C dX5_copyPage_86 (by decide) ?_
        exact ih _ _ _ _ _ hf _ (lv_sub hl [1, 2, 3, 4, 5, 0] rfl)
  refine s_bipush (v := (8 : Int32)) C dX5_copyPage_0 (by decide) ?_
  refine s_istore (lv2 := [(4, .int (8 : Int32)), (0, .ref h0), (1, .int x1), (2, .ref h2), (3, .int x3)]) C dX5_copyPage_2 hl (by decide) rfl ?_
  intro ls hl
  refine s_iload_n C dX5_copyPage_4 rfl (lv_at hl 2 rfl) ?_
  refine s_iload C dX5_copyPage_5 (lv_at hl 0 rfl) ?_
  refine s_imul C dX5_copyPage_7 ?_
  obtain ⟨v1, e2, hf⟩ := lt_some hf
  refine s_eq (g2 := F0 m 8 ls [.int v1]) (by rw [e2]) ?_
  clear e2
  refine s_istore (lv2 := [(5, .int v1), (4, .int (8 : Int32)), (0, .ref h0), (1, .int x1), (2, .ref h2), (3, .int x3)]) C dX5_copyPage_8 hl (by decide) rfl ?_
  intro ls hl
  refine s_iload_n C dX5_copyPage_10 rfl (lv_at hl 5 rfl) ?_
  refine s_iload C dX5_copyPage_11 (lv_at hl 1 rfl) ?_
  refine s_imul C dX5_copyPage_13 ?_
  obtain ⟨v3, e4, hf⟩ := lt_some hf
  refine s_eq (g2 := F0 m 14 ls [.int v3]) (by rw [e4]) ?_
  clear e4
  refine s_istore (lv2 := [(6, .int v3), (5, .int v1), (4, .int (8 : Int32)), (0, .ref h0), (1, .int x1), (2, .ref h2), (3, .int x3)]) C dX5_copyPage_14 hl (by decide) rfl ?_
  intro ls hl
  refine s_iload C dX5_copyPage_16 (lv_at hl 1 rfl) ?_
  refine s_if_lt (tgt := 52) C dX5_copyPage_18 (by decide) (fun c5 => ?_) (fun c5 => ?_)
  · replace hf := it_t c5 hf
    exact ret _ _ _ dX5_copyPage_52 (congrArg (fun f => (wV h0 h1 h2 h3 q n0 n1 g1 f)) (rt_1 hf))
  · replace hf := it_f c5 hf
    refine s_iload C dX5_copyPage_21 (lv_at hl 0 rfl) ?_
    refine s_if_lt (tgt := 52) C dX5_copyPage_23 (by decide) (fun c6 => ?_) (fun c6 => ?_)
    · replace hf := it_t c6 hf
      exact ret _ _ _ dX5_copyPage_52 (congrArg (fun f => (wV h0 h1 h2 h3 q n0 n1 g1 f)) (rt_1 hf))
    · replace hf := it_f c6 hf
      refine s_iload C dX5_copyPage_26 (lv_at hl 1 rfl) ?_
      refine s_iload C dX5_copyPage_28 (lv_at hl 2 rfl) ?_
      refine s_iadd C dX5_copyPage_30 ?_
      refine s_aload_n C dX5_copyPage_31 rfl (lv_at hl 3 rfl) ?_
      refine gV_0_0 C wd_1_29 dX5_copyPage_32 ?_
      refine alV_1 C dX5_copyPage_35 ?_
      refine s_icmp_gt (tgt := 52) C dX5_copyPage_36 (by decide) (fun c7 => ?_) (fun c7 => ?_)
      · replace hf := it_t c7 hf
        exact ret _ _ _ dX5_copyPage_52 (congrArg (fun f => (wV h0 h1 h2 h3 q n0 n1 g1 f)) (rt_1 hf))
      · replace hf := it_f c7 hf
        refine s_iload C dX5_copyPage_39 (lv_at hl 0 rfl) ?_
        refine s_iload C dX5_copyPage_41 (lv_at hl 2 rfl) ?_
        refine s_iadd C dX5_copyPage_43 ?_
        refine s_aload_n C dX5_copyPage_44 rfl (lv_at hl 5 rfl) ?_
        refine gV_2_0 C wd_1_29 dX5_copyPage_45 ?_
        refine alV_3 C dX5_copyPage_48 ?_
        refine s_icmp_le (tgt := 53) C dX5_copyPage_49 (by decide) (fun c8 => ?_) (fun c8 => ?_)
        · replace hf := it_t c8 hf
          refine s_iconst (v := (0 : Int32)) C dX5_copyPage_53 (by decide) ?_
          refine s_istore (lv2 := [(7, .int (0 : Int32)), (6, .int v3), (5, .int v1), (4, .int (8 : Int32)), (0, .ref h0), (1, .int x1), (2, .ref h2), (3, .int x3)]) C dX5_copyPage_54 hl (by decide) rfl ?_
          intro ls hl
          exact L56 N _ _ _ _ _ hf _ (lv_sub hl [4, 6, 3, 2, 1, 0] rfl)
        · replace hf := it_f c8 hf
          exact ret _ _ _ dX5_copyPage_52 (congrArg (fun f => (wV h0 h1 h2 h3 q n0 n1 g1 f)) (rt_1 hf))
def pf_X5_clear_L19 (N : Nat) (n0 : Nat) : Nat → Int32 → Int32 → (Nat → Int64) → Option (Nat → Int64)
  | 0, _, _, _ => none
  | n + 1, x2, x3, f => if x2 ≤ x3 then some f else bI (x3 / (8 : Int32)) (n0) (bI (x3 / (8 : Int32)) (n0) (lt_ (vp_updL f (Int32.toNatClampNeg (x3 / (8 : Int32))) ((f (Int32.toNatClampNeg (x3 / (8 : Int32)))) &&& (((255 : Int64) <<< (Int32.toInt64 ((8 : Int32) * (x3 - x3 / (8 : Int32) * (8 : Int32))) &&& 63)) ^^^ (-1 : Int64)))) (fun f6 => (pf_X5_clear_L19 N n0 n) x2 (x3 + 1) f6)))
def pf_X5_clear (N : Nat) (n0 : Nat) (x1 : Int32) (x2 : Int32) (f : (Nat → Int64)) : Option (Nat → Int64) := if x1 < 0 then some f else if x2 ≤ ((nI (n0)) * (8 : Int32)) then pf_X5_clear_L19 N n0 N x2 x1 f else some f
theorem cx_X5_clear : (yX5_clear.cls ≠ "java/lang/invoke/MethodHandle" ∧ yX5_clear.cls ≠ "java/lang/invoke/VarHandle" ∧ (parseMethodDescriptor yX5_clear.desc).map (fun d => d.parameters.length) = some 2) := by decide +kernel
set_option maxHeartbeats 4000000 in
set_option maxRecDepth 100000 in
theorem c_X5_clear (l : Launch) (D : va_G) (q : Nat → ClassId) (h0 h1 : Nat) (N : Nat) (n0 : Nat) (x1 : Int32) (x2 : Int32) (f : (Nat → Int64)) (z : (Nat → Int64)) (hf : pf_X5_clear N n0 x1 x2 f = some z) : MV l yX5_clear cX5_clear 4 (none) 0 0 D (tyQ q) [.ref h0, .int x1, .int x2] (wW h0 h1 q n0 f) (wW h0 h1 q n0 z) := by
  refine MV.of (by decide) (Nat.le_of_ble_eq_true rfl) ?_
  intro p e s m args below meth c Q A C ret ls hl
  have hl : lv_has ls 4 [(0, .ref h0), (1, .int x1), (2, .int x2)] := hl
  unfold pf_X5_clear at hf
  have L19 : ∀ (n : Nat) (x2 : Int32) (x3 : Int32) (f : (Nat → Int64)), pf_X5_clear_L19 N n0 n x2 x3 f = some z → ∀ ls : Array Slot, lv_has ls 4 [(0, .ref h0), (2, .int x2), (3, .int x3)] → WG p l e (rmO 0 0) s m args below meth c D A 0 0 Q (wW h0 h1 q n0 f) (F0 m 19 ls []) := by
    intro n
    induction n with
    | zero => intro x2 x3 f hf; unfold pf_X5_clear_L19 at hf; cases hf
    | succ n ih =>
      intro x2 x3 f hf ls hl
      unfold pf_X5_clear_L19 at hf
      refine s_iload_n C dX5_clear_19 rfl (lv_at hl 2 rfl) ?_
      refine s_iload_n C dX5_clear_20 rfl (lv_at hl 1 rfl) ?_
      refine s_icmp_ge (tgt := 57) C dX5_clear_21 (by decide) (fun c3 => ?_) (fun c3 => ?_)
      · replace hf := it_t c3 hf
        exact ret _ _ _ dX5_clear_57 (congrArg (fun f => (wW h0 h1 q n0 f)) (rt_1 hf))
      · replace hf := it_f c3 hf
        refine s_aload_n C dX5_clear_24 rfl (lv_at hl 0 rfl) ?_
        refine gW_0_0 C wd_1_29 dX5_clear_25 ?_
        refine s_iload_n C dX5_clear_28 rfl (lv_at hl 2 rfl) ?_
        refine s_bipush (v := (8 : Int32)) C dX5_clear_29 (by decide) ?_
        refine s_idiv C dX5_clear_31 (by decide) ?_
        refine s_dup2_11 C dX5_clear_32 rfl rfl ?_
        obtain ⟨hi4, hf⟩ := bI_some hf
        refine ldW_1 C hi4 dX5_clear_33 ?_
        refine s_ldc2 C dX5_clear_34 wd_2_114 ?_
        refine s_bipush (v := (8 : Int32)) C dX5_clear_37 (by decide) ?_
        refine s_iload_n C dX5_clear_39 rfl (lv_at hl 2 rfl) ?_
        refine s_bipush (v := (8 : Int32)) C dX5_clear_40 (by decide) ?_
        refine s_irem C dX5_clear_42 (by decide) ?_
        refine s_imul C dX5_clear_43 ?_
        refine s_lshl C dX5_clear_44 ?_
        refine s_ldc2 C dX5_clear_45 wd_2_115 ?_
        refine s_lxor C dX5_clear_48 ?_
        refine s_land C dX5_clear_49 ?_
        obtain ⟨hi5, hf⟩ := bI_some hf
        refine stW_1 C hi5 dX5_clear_50 ?_
        obtain ⟨f6, e7, hf⟩ := lt_some hf
        refine s_w (ws2 := (wW h0 h1 q n0 f6)) (by rw [e7]) ?_
        clear e7
        refine s_iinc (v := (x3 + 1)) (lv2 := [(3, .int (x3 + 1)), (0, .ref h0), (2, .int x2)]) C 2 dX5_clear_51 hl rfl rfl (by decide) rfl ?_
        intro ls hl
        refine s_goto (tgt := 19) C dX5_clear_54 (by decide) ?_
        exact ih _ _ _ hf _ (lv_sub hl [1, 2, 0] rfl)
  refine s_iload_n C dX5_clear_0 rfl (lv_at hl 1 rfl) ?_
  refine s_if_lt (tgt := 16) C dX5_clear_1 (by decide) (fun c1 => ?_) (fun c1 => ?_)
  · replace hf := it_t c1 hf
    exact ret _ _ _ dX5_clear_16 (congrArg (fun f => (wW h0 h1 q n0 f)) (rt_1 hf))
  · replace hf := it_f c1 hf
    refine s_iload_n C dX5_clear_4 rfl (lv_at hl 2 rfl) ?_
    refine s_aload_n C dX5_clear_5 rfl (lv_at hl 0 rfl) ?_
    refine gW_0_0 C wd_1_29 dX5_clear_6 ?_
    refine alW_1 C dX5_clear_9 ?_
    refine s_bipush (v := (8 : Int32)) C dX5_clear_10 (by decide) ?_
    refine s_imul C dX5_clear_12 ?_
    refine s_icmp_le (tgt := 17) C dX5_clear_13 (by decide) (fun c2 => ?_) (fun c2 => ?_)
    · replace hf := it_t c2 hf
      refine s_iload_n C dX5_clear_17 rfl (lv_at hl 1 rfl) ?_
      refine s_istore_n (lv2 := [(3, .int x1), (0, .ref h0), (1, .int x1), (2, .int x2)]) C dX5_clear_18 rfl hl (by decide) rfl ?_
      intro ls hl
      exact L19 N _ _ _ hf _ (lv_sub hl [1, 3, 0] rfl)
    · replace hf := it_f c2 hf
      exact ret _ _ _ dX5_clear_16 (congrArg (fun f => (wW h0 h1 q n0 f)) (rt_1 hf))
def pf_X3_at (N : Nat) (n0 : Nat) (x1 : Int32) (τ : ((Nat → Int32) × Int32)) : Option Int32 := if x1 < 0 then some (-1 : Int32) else if x1 < τ.2 then bI x1 (n0) (some (τ.1 (Int32.toNatClampNeg x1))) else some (-1 : Int32)
theorem cx_X3_at : (yX3_at.cls ≠ "java/lang/invoke/MethodHandle" ∧ yX3_at.cls ≠ "java/lang/invoke/VarHandle" ∧ (parseMethodDescriptor yX3_at.desc).map (fun d => d.parameters.length) = some 1) := by decide +kernel
set_option maxHeartbeats 4000000 in
set_option maxRecDepth 100000 in
theorem c_X3_at (l : Launch) (D : va_G) (q : Nat → ClassId) (h0 h1 : Nat) (N : Nat) (n0 : Nat) (x1 : Int32) (τ : ((Nat → Int32) × Int32)) (z : Int32) (hf : pf_X3_at N n0 x1 τ = some z) : MI l yX3_at cX3_at 2 (some .int) 0 0 D (tyQ q) [.ref h0, .int x1] (wO h0 h1 q n0 τ) (wO h0 h1 q n0 τ) z := by
  refine MI.of (by decide) (Nat.le_of_ble_eq_true rfl) ?_
  intro p e s m args below meth c Q A C ret ls hl
  have hl : lv_has ls 2 [(0, .ref h0), (1, .int x1)] := hl
  unfold pf_X3_at at hf
  refine s_iload_n C dX3_at_0 rfl (lv_at hl 1 rfl) ?_
  refine s_if_lt (tgt := 12) C dX3_at_1 (by decide) (fun c1 => ?_) (fun c1 => ?_)
  · replace hf := it_t c1 hf
    refine s_iconst (v := (-1 : Int32)) C dX3_at_12 (by decide) ?_
    refine s_goto (tgt := 22) C dX3_at_13 (by decide) ?_
    exact ret _ _ _ _ dX3_at_22 rfl (rt_1 hf) rfl
  · replace hf := it_f c1 hf
    refine s_iload_n C dX3_at_4 rfl (lv_at hl 1 rfl) ?_
    refine s_aload_n C dX3_at_5 rfl (lv_at hl 0 rfl) ?_
    refine gO_0_1 C wd_1_131 dX3_at_6 ?_
    refine s_icmp_lt (tgt := 16) C dX3_at_9 (by decide) (fun c2 => ?_) (fun c2 => ?_)
    · replace hf := it_t c2 hf
      refine s_aload_n C dX3_at_16 rfl (lv_at hl 0 rfl) ?_
      refine gO_0_0 C wd_1_130 dX3_at_17 ?_
      refine s_iload_n C dX3_at_20 rfl (lv_at hl 1 rfl) ?_
      obtain ⟨hi3, hf⟩ := bI_some hf
      refine ldO_1 C hi3 dX3_at_21 ?_
      exact ret _ _ _ _ dX3_at_22 rfl (rt_1 hf) rfl
    · replace hf := it_f c2 hf
      refine s_iconst (v := (-1 : Int32)) C dX3_at_12 (by decide) ?_
      refine s_goto (tgt := 22) C dX3_at_13 (by decide) ?_
      exact ret _ _ _ _ dX3_at_22 rfl (rt_1 hf) rfl
def pf_X3_last (N : Nat) (n0 : Nat) (τ : ((Nat → Int32) × Int32)) : Option Int32 := (pf_X3_at N n0 (τ.2 - (1 : Int32)) τ).bind (fun z1 => some z1)
theorem cx_X3_last : (yX3_last.cls ≠ "java/lang/invoke/MethodHandle" ∧ yX3_last.cls ≠ "java/lang/invoke/VarHandle" ∧ (parseMethodDescriptor yX3_last.desc).map (fun d => d.parameters.length) = some 0) := by decide +kernel
set_option maxHeartbeats 4000000 in
set_option maxRecDepth 100000 in
theorem c_X3_last (l : Launch) (D : va_G) (q : Nat → ClassId) (h0 h1 : Nat) (N : Nat) (n0 : Nat) (τ : ((Nat → Int32) × Int32)) (z : Int32) (hf : pf_X3_last N n0 τ = some z) : MI l yX3_last cX3_last 1 (some .int) 1 21 D (tyQ q) [.ref h0] (wO h0 h1 q n0 τ) (wO h0 h1 q n0 τ) z := by
  refine MI.of (by decide) (Nat.le_of_ble_eq_true rfl) ?_
  intro p e s m args below meth c Q A C ret ls hl
  have hl : lv_has ls 1 [(0, .ref h0)] := hl
  unfold pf_X3_last at hf
  refine s_aload_n C dX3_last_0 rfl (lv_at hl 0 rfl) ?_
  refine s_aload_n C dX3_last_1 rfl (lv_at hl 0 rfl) ?_
  refine gO_0_1 C wd_1_131 dX3_last_2 ?_
  refine s_iconst (v := (1 : Int32)) C dX3_last_5 (by decide) ?_
  refine s_isub C dX3_last_6 ?_
  obtain ⟨z1, h2, hf⟩ := bn_some hf
  refine s_callIV (As := [.int (τ.2 - (1 : Int32))]) (rest := []) C (c_X3_at l D q h0 h1 N n0 (τ.2 - (1 : Int32)) τ z1 h2) ⟨wd_2_45, wd_2_46, wd_2_47, wd_1_8, wd_2_48, cx_X3_at, Nat.le_of_ble_eq_true rfl, Nat.le_of_ble_eq_true rfl⟩ 0 (ci := 3) rfl rfl rfl (SubW.full _ _) rfl hl.1 rfl (Nat.le_of_ble_eq_true rfl) dX3_last_7 (Nat.zero_le _) (Nat.zero_le _) ?_
  exact ret _ _ _ _ dX3_last_10 rfl (rt_1 hf) rfl
def pf_X3_placeOf_L2 (N : Nat) (n0 : Nat) (τ : ((Nat → Int32) × Int32)) : Nat → Int32 → Int32 → Option Int32
  | 0, _, _ => none
  | n + 1, x1, x2 => if τ.2 ≤ x2 then some (-1 : Int32) else bI x2 (n0) (if (τ.1 (Int32.toNatClampNeg x2)) = x1 then some x2 else (pf_X3_placeOf_L2 N n0 τ n) x1 (x2 + 1) )
def pf_X3_placeOf (N : Nat) (n0 : Nat) (x1 : Int32) (τ : ((Nat → Int32) × Int32)) : Option Int32 := pf_X3_placeOf_L2 N n0 τ N x1 (0 : Int32) 
theorem cx_X3_placeOf : (yX3_placeOf.cls ≠ "java/lang/invoke/MethodHandle" ∧ yX3_placeOf.cls ≠ "java/lang/invoke/VarHandle" ∧ (parseMethodDescriptor yX3_placeOf.desc).map (fun d => d.parameters.length) = some 1) := by decide +kernel
set_option maxHeartbeats 4000000 in
set_option maxRecDepth 100000 in
theorem c_X3_placeOf (l : Launch) (D : va_G) (q : Nat → ClassId) (h0 h1 : Nat) (N : Nat) (n0 : Nat) (x1 : Int32) (τ : ((Nat → Int32) × Int32)) (z : Int32) (hf : pf_X3_placeOf N n0 x1 τ = some z) : MI l yX3_placeOf cX3_placeOf 3 (some .int) 0 0 D (tyQ q) [.ref h0, .int x1] (wO h0 h1 q n0 τ) (wO h0 h1 q n0 τ) z := by
  refine MI.of (by decide) (Nat.le_of_ble_eq_true rfl) ?_
  intro p e s m args below meth c Q A C ret ls hl
  have hl : lv_has ls 3 [(0, .ref h0), (1, .int x1)] := hl
  unfold pf_X3_placeOf at hf
  have L2 : ∀ (n : Nat) (x1 : Int32) (x2 : Int32), pf_X3_placeOf_L2 N n0 τ n x1 x2 = some z → ∀ ls : Array Slot, lv_has ls 3 [(0, .ref h0), (1, .int x1), (2, .int x2)] → WG p l e (rmO 0 0) s m args below meth c D A 0 0 Q (wO h0 h1 q n0 τ) (F0 m 2 ls []) := by
    intro n
    induction n with
    | zero => intro x1 x2 hf; unfold pf_X3_placeOf_L2 at hf; cases hf
    | succ n ih =>
      intro x1 x2 hf ls hl
      unfold pf_X3_placeOf_L2 at hf
      refine s_iload_n C dX3_placeOf_2 rfl (lv_at hl 2 rfl) ?_
      refine s_aload_n C dX3_placeOf_3 rfl (lv_at hl 0 rfl) ?_
      refine gO_0_1 C wd_1_131 dX3_placeOf_4 ?_
      refine s_icmp_ge (tgt := 28) C dX3_placeOf_7 (by decide) (fun c1 => ?_) (fun c1 => ?_)
      · replace hf := it_t c1 hf
        refine s_iconst (v := (-1 : Int32)) C dX3_placeOf_28 (by decide) ?_
        exact ret _ _ _ _ dX3_placeOf_29 rfl (rt_1 hf) rfl
      · replace hf := it_f c1 hf
        refine s_aload_n C dX3_placeOf_10 rfl (lv_at hl 0 rfl) ?_
        refine gO_0_0 C wd_1_130 dX3_placeOf_11 ?_
        refine s_iload_n C dX3_placeOf_14 rfl (lv_at hl 2 rfl) ?_
        obtain ⟨hi2, hf⟩ := bI_some hf
        refine ldO_1 C hi2 dX3_placeOf_15 ?_
        refine s_iload_n C dX3_placeOf_16 rfl (lv_at hl 1 rfl) ?_
        refine s_icmp_ne (tgt := 22) C dX3_placeOf_17 (by decide) (fun c3 => ?_) (fun c3 => ?_)
        · replace hf := it_f c3 hf
          refine s_iinc (v := (x2 + 1)) (lv2 := [(2, .int (x2 + 1)), (0, .ref h0), (1, .int x1)]) C 2 dX3_placeOf_22 hl rfl rfl (by decide) rfl ?_
          intro ls hl
          refine s_goto (tgt := 2) C dX3_placeOf_25 (by decide) ?_
          exact ih _ _ hf _ (lv_sub hl [1, 2, 0] rfl)
        · replace hf := it_t c3 hf
          refine s_iload_n C dX3_placeOf_20 rfl (lv_at hl 2 rfl) ?_
          exact ret _ _ _ _ dX3_placeOf_21 rfl (rt_1 hf) rfl
  refine s_iconst (v := (0 : Int32)) C dX3_placeOf_0 (by decide) ?_
  refine s_istore_n (lv2 := [(2, .int (0 : Int32)), (0, .ref h0), (1, .int x1)]) C dX3_placeOf_1 rfl hl (by decide) rfl ?_
  intro ls hl
  exact L2 N _ _ hf _ (lv_sub hl [1, 2, 0] rfl)
def pf_X3_take (N : Nat) (n0 : Nat) (x1 : Int32) (τ : ((Nat → Int32) × Int32)) : Option ((Nat → Int32) × Int32) := (pf_X3_placeOf N n0 x1 τ).bind (fun z1 => if z1 = (-1 : Int32) then some τ else bC (n0) (n0) (z1 + (1 : Int32)) z1 ((τ.2 - z1) - (1 : Int32)) (lt_ ((va_cpy τ.1 τ.1 (Int32.toNatClampNeg (z1 + (1 : Int32))) (Int32.toNatClampNeg z1) (Int32.toNatClampNeg ((τ.2 - z1) - (1 : Int32)))), τ.2) (fun τ5 => lt_ (τ5.1, (τ5.2 - (1 : Int32))) (fun τ7 => some τ7))))
theorem cx_X3_take : (yX3_take.cls ≠ "java/lang/invoke/MethodHandle" ∧ yX3_take.cls ≠ "java/lang/invoke/VarHandle" ∧ (parseMethodDescriptor yX3_take.desc).map (fun d => d.parameters.length) = some 1) := by decide +kernel
set_option maxHeartbeats 4000000 in
set_option maxRecDepth 100000 in
theorem c_X3_take (l : Launch) (D : va_G) (q : Nat → ClassId) (h0 h1 : Nat) (N : Nat) (n0 : Nat) (x1 : Int32) (τ : ((Nat → Int32) × Int32)) (z : ((Nat → Int32) × Int32)) (hf : pf_X3_take N n0 x1 τ = some z) : MV l yX3_take cX3_take 3 (none) 1 22 D (tyQ q) [.ref h0, .int x1] (wO h0 h1 q n0 τ) (wO h0 h1 q n0 z) := by
  refine MV.of (by decide) (Nat.le_of_ble_eq_true rfl) ?_
  intro p e s m args below meth c Q A C ret ls hl
  have hl : lv_has ls 3 [(0, .ref h0), (1, .int x1)] := hl
  unfold pf_X3_take at hf
  refine s_aload_n C dX3_take_0 rfl (lv_at hl 0 rfl) ?_
  refine s_iload_n C dX3_take_1 rfl (lv_at hl 1 rfl) ?_
  obtain ⟨z1, h2, hf⟩ := bn_some hf
  refine s_callIV (As := [.int x1]) (rest := []) C (c_X3_placeOf l D q h0 h1 N n0 x1 τ z1 h2) ⟨wd_2_57, wd_2_58, wd_2_59, wd_1_8, wd_2_60, cx_X3_placeOf, Nat.le_of_ble_eq_true rfl, Nat.le_of_ble_eq_true rfl⟩ 0 (ci := 3) rfl rfl rfl (SubW.full _ _) rfl hl.1 rfl (Nat.le_of_ble_eq_true rfl) dX3_take_2 (Nat.zero_le _) (Nat.zero_le _) ?_
  refine s_istore_n (lv2 := [(2, .int z1), (0, .ref h0), (1, .int x1)]) C dX3_take_5 rfl hl (by decide) rfl ?_
  intro ls hl
  refine s_iload_n C dX3_take_6 rfl (lv_at hl 0 rfl) ?_
  refine s_iconst (v := (-1 : Int32)) C dX3_take_7 (by decide) ?_
  refine s_icmp_eq (tgt := 44) C dX3_take_8 (by decide) (fun c3 => ?_) (fun c3 => ?_)
  · replace hf := it_t c3 hf
    exact ret _ _ _ dX3_take_44 (congrArg (fun τ => (wO h0 h1 q n0 τ)) (rt_1 hf))
  · replace hf := it_f c3 hf
    refine s_aload_n C dX3_take_11 rfl (lv_at hl 1 rfl) ?_
    refine gO_0_0 C wd_1_130 dX3_take_12 ?_
    refine s_iload_n C dX3_take_15 rfl (lv_at hl 0 rfl) ?_
    refine s_iconst (v := (1 : Int32)) C dX3_take_16 (by decide) ?_
    refine s_iadd C dX3_take_17 ?_
    refine s_aload_n C dX3_take_18 rfl (lv_at hl 1 rfl) ?_
    refine gO_0_0 C wd_1_130 dX3_take_19 ?_
    refine s_iload_n C dX3_take_22 rfl (lv_at hl 0 rfl) ?_
    refine s_aload_n C dX3_take_23 rfl (lv_at hl 1 rfl) ?_
    refine gO_0_1 C wd_1_131 dX3_take_24 ?_
    refine s_iload_n C dX3_take_27 rfl (lv_at hl 0 rfl) ?_
    refine s_isub C dX3_take_28 ?_
    refine s_iconst (v := (1 : Int32)) C dX3_take_29 (by decide) ?_
    refine s_isub C dX3_take_30 ?_
    obtain ⟨hb4, hf⟩ := bC_some hf
    refine cpO_1 C hl.1 wd_2_61 hb4 (Nat.le_of_ble_eq_true rfl) (Nat.le_of_ble_eq_true rfl) dX3_take_31 ?_
    obtain ⟨τ5, e6, hf⟩ := lt_some hf
    refine s_w (ws2 := (wO h0 h1 q n0 τ5)) (by rw [e6]) ?_
    clear e6
    refine s_aload_n C dX3_take_34 rfl (lv_at hl 1 rfl) ?_
    refine s_dup C dX3_take_35 rfl ?_
    refine gO_0_1 C wd_1_131 dX3_take_36 ?_
    refine s_iconst (v := (1 : Int32)) C dX3_take_39 (by decide) ?_
    refine s_isub C dX3_take_40 ?_
    refine uO_0_1 C wd_1_131 dX3_take_41 ?_
    obtain ⟨τ7, e8, hf⟩ := lt_some hf
    refine s_w (ws2 := (wO h0 h1 q n0 τ7)) (by rw [e8]) ?_
    clear e8
    exact ret _ _ _ dX3_take_44 (congrArg (fun τ => (wO h0 h1 q n0 τ)) (rt_1 hf))
def pf_X3_addFront (N : Nat) (n0 : Nat) (x1 : Int32) (τ : ((Nat → Int32) × Int32)) : Option ((Nat → Int32) × Int32) := if (nI (n0)) ≤ τ.2 then some τ else bC (n0) (n0) (0 : Int32) (1 : Int32) τ.2 (lt_ ((va_cpy τ.1 τ.1 (Int32.toNatClampNeg (0 : Int32)) (Int32.toNatClampNeg (1 : Int32)) (Int32.toNatClampNeg τ.2)), τ.2) (fun τ3 => bI (0 : Int32) (n0) (lt_ ((upd τ3.1 (Int32.toNatClampNeg (0 : Int32)) x1), τ3.2) (fun τ6 => lt_ (τ6.1, (τ6.2 + (1 : Int32))) (fun τ8 => some τ8)))))
theorem cx_X3_addFront : (yX3_addFront.cls ≠ "java/lang/invoke/MethodHandle" ∧ yX3_addFront.cls ≠ "java/lang/invoke/VarHandle" ∧ (parseMethodDescriptor yX3_addFront.desc).map (fun d => d.parameters.length) = some 1) := by decide +kernel
set_option maxHeartbeats 4000000 in
set_option maxRecDepth 100000 in
theorem c_X3_addFront (l : Launch) (D : va_G) (q : Nat → ClassId) (h0 h1 : Nat) (N : Nat) (n0 : Nat) (x1 : Int32) (τ : ((Nat → Int32) × Int32)) (z : ((Nat → Int32) × Int32)) (hf : pf_X3_addFront N n0 x1 τ = some z) : MV l yX3_addFront cX3_addFront 2 (none) 1 18 D (tyQ q) [.ref h0, .int x1] (wO h0 h1 q n0 τ) (wO h0 h1 q n0 z) := by
  refine MV.of (by decide) (Nat.le_of_ble_eq_true rfl) ?_
  intro p e s m args below meth c Q A C ret ls hl
  have hl : lv_has ls 2 [(0, .ref h0), (1, .int x1)] := hl
  unfold pf_X3_addFront at hf
  refine s_aload_n C dX3_addFront_0 rfl (lv_at hl 0 rfl) ?_
  refine gO_0_1 C wd_1_131 dX3_addFront_1 ?_
  refine s_aload_n C dX3_addFront_4 rfl (lv_at hl 0 rfl) ?_
  refine gO_0_0 C wd_1_130 dX3_addFront_5 ?_
  refine alO_1 C dX3_addFront_8 ?_
  refine s_icmp_ge (tgt := 46) C dX3_addFront_9 (by decide) (fun c1 => ?_) (fun c1 => ?_)
  · replace hf := it_t c1 hf
    exact ret _ _ _ dX3_addFront_46 (congrArg (fun τ => (wO h0 h1 q n0 τ)) (rt_1 hf))
  · replace hf := it_f c1 hf
    refine s_aload_n C dX3_addFront_12 rfl (lv_at hl 0 rfl) ?_
    refine gO_0_0 C wd_1_130 dX3_addFront_13 ?_
    refine s_iconst (v := (0 : Int32)) C dX3_addFront_16 (by decide) ?_
    refine s_aload_n C dX3_addFront_17 rfl (lv_at hl 0 rfl) ?_
    refine gO_0_0 C wd_1_130 dX3_addFront_18 ?_
    refine s_iconst (v := (1 : Int32)) C dX3_addFront_21 (by decide) ?_
    refine s_aload_n C dX3_addFront_22 rfl (lv_at hl 0 rfl) ?_
    refine gO_0_1 C wd_1_131 dX3_addFront_23 ?_
    obtain ⟨hb2, hf⟩ := bC_some hf
    refine cpO_1 C hl.1 wd_2_61 hb2 (Nat.le_of_ble_eq_true rfl) (Nat.le_of_ble_eq_true rfl) dX3_addFront_26 ?_
    obtain ⟨τ3, e4, hf⟩ := lt_some hf
    refine s_w (ws2 := (wO h0 h1 q n0 τ3)) (by rw [e4]) ?_
    clear e4
    refine s_aload_n C dX3_addFront_29 rfl (lv_at hl 0 rfl) ?_
    refine gO_0_0 C wd_1_130 dX3_addFront_30 ?_
    refine s_iconst (v := (0 : Int32)) C dX3_addFront_33 (by decide) ?_
    refine s_iload_n C dX3_addFront_34 rfl (lv_at hl 1 rfl) ?_
    obtain ⟨hi5, hf⟩ := bI_some hf
    refine stO_1 C hi5 dX3_addFront_35 ?_
    obtain ⟨τ6, e7, hf⟩ := lt_some hf
    refine s_w (ws2 := (wO h0 h1 q n0 τ6)) (by rw [e7]) ?_
    clear e7
    refine s_aload_n C dX3_addFront_36 rfl (lv_at hl 0 rfl) ?_
    refine s_dup C dX3_addFront_37 rfl ?_
    refine gO_0_1 C wd_1_131 dX3_addFront_38 ?_
    refine s_iconst (v := (1 : Int32)) C dX3_addFront_41 (by decide) ?_
    refine s_iadd C dX3_addFront_42 ?_
    refine uO_0_1 C wd_1_131 dX3_addFront_43 ?_
    obtain ⟨τ8, e9, hf⟩ := lt_some hf
    refine s_w (ws2 := (wO h0 h1 q n0 τ8)) (by rw [e9]) ?_
    clear e9
    exact ret _ _ _ dX3_addFront_46 (congrArg (fun τ => (wO h0 h1 q n0 τ)) (rt_1 hf))
def pf_X5_byteAt (N : Nat) (n0 : Nat) (x1 : Int32) (f : (Nat → Int64)) : Option Int32 := if x1 < 0 then some (0 : Int32) else if (x1 / (8 : Int32)) < (nI (n0)) then bI (x1 / (8 : Int32)) (n0) (some ((Int64.toInt32 ((Int64.toUInt64 (f (Int32.toNatClampNeg (x1 / (8 : Int32)))) >>> (Int64.toUInt64 (Int32.toInt64 ((8 : Int32) * (x1 - x1 / (8 : Int32) * (8 : Int32)))) &&& Int64.toUInt64 63)).toInt64)) &&& (255 : Int32))) else some (0 : Int32)
theorem cx_X5_byteAt : (yX5_byteAt.cls ≠ "java/lang/invoke/MethodHandle" ∧ yX5_byteAt.cls ≠ "java/lang/invoke/VarHandle" ∧ (parseMethodDescriptor yX5_byteAt.desc).map (fun d => d.parameters.length) = some 1) := by decide +kernel
set_option maxHeartbeats 4000000 in
set_option maxRecDepth 100000 in
theorem c_X5_byteAt (l : Launch) (D : va_G) (q : Nat → ClassId) (h0 h1 : Nat) (N : Nat) (n0 : Nat) (x1 : Int32) (f : (Nat → Int64)) (z : Int32) (hf : pf_X5_byteAt N n0 x1 f = some z) : MI l yX5_byteAt cX5_byteAt 2 (some .int) 0 0 D (tyQ q) [.ref h0, .int x1] (wW h0 h1 q n0 f) (wW h0 h1 q n0 f) z := by
  refine MI.of (by decide) (Nat.le_of_ble_eq_true rfl) ?_
  intro p e s m args below meth c Q A C ret ls hl
  have hl : lv_has ls 2 [(0, .ref h0), (1, .int x1)] := hl
  unfold pf_X5_byteAt at hf
  refine s_iload_n C dX5_byteAt_0 rfl (lv_at hl 1 rfl) ?_
  refine s_if_lt (tgt := 16) C dX5_byteAt_1 (by decide) (fun c1 => ?_) (fun c1 => ?_)
  · replace hf := it_t c1 hf
    refine s_iconst (v := (0 : Int32)) C dX5_byteAt_16 (by decide) ?_
    exact ret _ _ _ _ dX5_byteAt_17 rfl (rt_1 hf) rfl
  · replace hf := it_f c1 hf
    refine s_iload_n C dX5_byteAt_4 rfl (lv_at hl 1 rfl) ?_
    refine s_bipush (v := (8 : Int32)) C dX5_byteAt_5 (by decide) ?_
    refine s_idiv C dX5_byteAt_7 (by decide) ?_
    refine s_aload_n C dX5_byteAt_8 rfl (lv_at hl 0 rfl) ?_
    refine gW_0_0 C wd_1_29 dX5_byteAt_9 ?_
    refine alW_1 C dX5_byteAt_12 ?_
    refine s_icmp_lt (tgt := 18) C dX5_byteAt_13 (by decide) (fun c2 => ?_) (fun c2 => ?_)
    · replace hf := it_t c2 hf
      refine s_aload_n C dX5_byteAt_18 rfl (lv_at hl 0 rfl) ?_
      refine gW_0_0 C wd_1_29 dX5_byteAt_19 ?_
      refine s_iload_n C dX5_byteAt_22 rfl (lv_at hl 1 rfl) ?_
      refine s_bipush (v := (8 : Int32)) C dX5_byteAt_23 (by decide) ?_
      refine s_idiv C dX5_byteAt_25 (by decide) ?_
      obtain ⟨hi3, hf⟩ := bI_some hf
      refine ldW_1 C hi3 dX5_byteAt_26 ?_
      refine s_bipush (v := (8 : Int32)) C dX5_byteAt_27 (by decide) ?_
      refine s_iload_n C dX5_byteAt_29 rfl (lv_at hl 1 rfl) ?_
      refine s_bipush (v := (8 : Int32)) C dX5_byteAt_30 (by decide) ?_
      refine s_irem C dX5_byteAt_32 (by decide) ?_
      refine s_imul C dX5_byteAt_33 ?_
      refine s_lushr C dX5_byteAt_34 ?_
      refine s_l2i C dX5_byteAt_35 ?_
      refine s_sipush (v := (255 : Int32)) C dX5_byteAt_36 (by decide) ?_
      refine s_iand C dX5_byteAt_39 ?_
      exact ret _ _ _ _ dX5_byteAt_40 rfl (rt_1 hf) rfl
    · replace hf := it_f c2 hf
      refine s_iconst (v := (0 : Int32)) C dX5_byteAt_16 (by decide) ?_
      exact ret _ _ _ _ dX5_byteAt_17 rfl (rt_1 hf) rfl
def pf_X5_put (N : Nat) (n0 : Nat) (x1 : Int32) (x2 : Int32) (f : (Nat → Int64)) : Option (Nat → Int64) := if x1 < 0 then some f else if (x1 / (8 : Int32)) < (nI (n0)) then lt_ ((8 : Int32) * (x1 - x1 / (8 : Int32) * (8 : Int32))) (fun v3 => bI (x1 / (8 : Int32)) (n0) (lt_ ((f (Int32.toNatClampNeg (x1 / (8 : Int32)))) &&& (((255 : Int64) <<< (Int32.toInt64 v3 &&& 63)) ^^^ (-1 : Int64))) (fun v6 => bI (x1 / (8 : Int32)) (n0) (lt_ (vp_updL f (Int32.toNatClampNeg (x1 / (8 : Int32))) (v6 ||| (((Int32.toInt64 x2) &&& (255 : Int64)) <<< (Int32.toInt64 v3 &&& 63)))) (fun f9 => some f9))))) else some f
theorem cx_X5_put : (yX5_put.cls ≠ "java/lang/invoke/MethodHandle" ∧ yX5_put.cls ≠ "java/lang/invoke/VarHandle" ∧ (parseMethodDescriptor yX5_put.desc).map (fun d => d.parameters.length) = some 2) := by decide +kernel
set_option maxHeartbeats 4000000 in
set_option maxRecDepth 100000 in
theorem c_X5_put (l : Launch) (D : va_G) (q : Nat → ClassId) (h0 h1 : Nat) (N : Nat) (n0 : Nat) (x1 : Int32) (x2 : Int32) (f : (Nat → Int64)) (z : (Nat → Int64)) (hf : pf_X5_put N n0 x1 x2 f = some z) : MV l yX5_put cX5_put 6 (none) 0 0 D (tyQ q) [.ref h0, .int x1, .int x2] (wW h0 h1 q n0 f) (wW h0 h1 q n0 z) := by
  refine MV.of (by decide) (Nat.le_of_ble_eq_true rfl) ?_
  intro p e s m args below meth c Q A C ret ls hl
  have hl : lv_has ls 6 [(0, .ref h0), (1, .int x1), (2, .int x2)] := hl
  unfold pf_X5_put at hf
  refine s_iload_n C dX5_put_0 rfl (lv_at hl 1 rfl) ?_
  refine s_if_lt (tgt := 16) C dX5_put_1 (by decide) (fun c1 => ?_) (fun c1 => ?_)
  · replace hf := it_t c1 hf
    exact ret _ _ _ dX5_put_16 (congrArg (fun f => (wW h0 h1 q n0 f)) (rt_1 hf))
  · replace hf := it_f c1 hf
    refine s_iload_n C dX5_put_4 rfl (lv_at hl 1 rfl) ?_
    refine s_bipush (v := (8 : Int32)) C dX5_put_5 (by decide) ?_
    refine s_idiv C dX5_put_7 (by decide) ?_
    refine s_aload_n C dX5_put_8 rfl (lv_at hl 0 rfl) ?_
    refine gW_0_0 C wd_1_29 dX5_put_9 ?_
    refine alW_1 C dX5_put_12 ?_
    refine s_icmp_lt (tgt := 17) C dX5_put_13 (by decide) (fun c2 => ?_) (fun c2 => ?_)
    · replace hf := it_t c2 hf
      refine s_bipush (v := (8 : Int32)) C dX5_put_17 (by decide) ?_
      refine s_iload_n C dX5_put_19 rfl (lv_at hl 1 rfl) ?_
      refine s_bipush (v := (8 : Int32)) C dX5_put_20 (by decide) ?_
      refine s_irem C dX5_put_22 (by decide) ?_
      refine s_imul C dX5_put_23 ?_
      obtain ⟨v3, e4, hf⟩ := lt_some hf
      refine s_eq (g2 := F0 m 24 ls [.int v3]) (by rw [e4]) ?_
      clear e4
      refine s_istore_n (lv2 := [(3, .int v3), (0, .ref h0), (1, .int x1), (2, .int x2)]) C dX5_put_24 rfl hl (by decide) rfl ?_
      intro ls hl
      refine s_aload_n C dX5_put_25 rfl (lv_at hl 1 rfl) ?_
      refine gW_0_0 C wd_1_29 dX5_put_26 ?_
      refine s_iload_n C dX5_put_29 rfl (lv_at hl 2 rfl) ?_
      refine s_bipush (v := (8 : Int32)) C dX5_put_30 (by decide) ?_
      refine s_idiv C dX5_put_32 (by decide) ?_
      obtain ⟨hi5, hf⟩ := bI_some hf
      refine ldW_1 C hi5 dX5_put_33 ?_
      refine s_ldc2 C dX5_put_34 wd_2_114 ?_
      refine s_iload_n C dX5_put_37 rfl (lv_at hl 0 rfl) ?_
      refine s_lshl C dX5_put_38 ?_
      refine s_ldc2 C dX5_put_39 wd_2_115 ?_
      refine s_lxor C dX5_put_42 ?_
      refine s_land C dX5_put_43 ?_
      obtain ⟨v6, e7, hf⟩ := lt_some hf
      refine s_eq (g2 := F0 m 44 ls [.long v6]) (by rw [e7]) ?_
      clear e7
      refine s_lstore (lv2 := [(4, .long v6), (3, .int v3), (0, .ref h0), (1, .int x1), (2, .int x2)]) C dX5_put_44 hl (by decide) rfl ?_
      intro ls hl
      refine s_aload_n C dX5_put_46 rfl (lv_at hl 2 rfl) ?_
      refine gW_0_0 C wd_1_29 dX5_put_47 ?_
      refine s_iload_n C dX5_put_50 rfl (lv_at hl 3 rfl) ?_
      refine s_bipush (v := (8 : Int32)) C dX5_put_51 (by decide) ?_
      refine s_idiv C dX5_put_53 (by decide) ?_
      refine s_lload C dX5_put_54 (lv_at hl 0 rfl) ?_
      refine s_iload_n C dX5_put_56 rfl (lv_at hl 4 rfl) ?_
      refine s_i2l C dX5_put_57 ?_
      refine s_ldc2 C dX5_put_58 wd_2_114 ?_
      refine s_land C dX5_put_61 ?_
      refine s_iload_n C dX5_put_62 rfl (lv_at hl 1 rfl) ?_
      refine s_lshl C dX5_put_63 ?_
      refine s_lor C dX5_put_64 ?_
      obtain ⟨hi8, hf⟩ := bI_some hf
      refine stW_1 C hi8 dX5_put_65 ?_
      obtain ⟨f9, e10, hf⟩ := lt_some hf
      refine s_w (ws2 := (wW h0 h1 q n0 f9)) (by rw [e10]) ?_
      clear e10
      exact ret _ _ _ dX5_put_66 (congrArg (fun f => (wW h0 h1 q n0 f)) (rt_1 hf))
    · replace hf := it_f c2 hf
      exact ret _ _ _ dX5_put_16 (congrArg (fun f => (wW h0 h1 q n0 f)) (rt_1 hf))
def pf_X6_pagesIn (N : Nat) (x0 : Int32) : Option Int32 := some (((x0 + (64 : Int32)) - (1 : Int32)) / (64 : Int32))
theorem cx_X6_pagesIn : (yX6_pagesIn.cls ≠ "java/lang/invoke/MethodHandle" ∧ yX6_pagesIn.cls ≠ "java/lang/invoke/VarHandle" ∧ (parseMethodDescriptor yX6_pagesIn.desc).map (fun d => d.parameters.length) = some 1) := by decide +kernel
set_option maxHeartbeats 4000000 in
set_option maxRecDepth 100000 in
theorem c_X6_pagesIn (l : Launch) (D : va_G) (q : Nat → ClassId) (ws : va_W) (N : Nat) (x0 : Int32) (z : Int32) (hf : pf_X6_pagesIn N x0  = some z) : MI l yX6_pagesIn cX6_pagesIn 1 (some .int) 0 0 D (tyQ q) [.int x0] ws ws z := by
  refine MI.of (by decide) (Nat.le_of_ble_eq_true rfl) ?_
  intro p e s m args below meth c Q A C ret ls hl
  have hl : lv_has ls 1 [(0, .int x0)] := hl
  unfold pf_X6_pagesIn at hf
  refine s_iload_n C dX6_pagesIn_0 rfl (lv_at hl 0 rfl) ?_
  refine s_bipush (v := (64 : Int32)) C dX6_pagesIn_1 (by decide) ?_
  refine s_iadd C dX6_pagesIn_3 ?_
  refine s_iconst (v := (1 : Int32)) C dX6_pagesIn_4 (by decide) ?_
  refine s_isub C dX6_pagesIn_5 ?_
  refine s_bipush (v := (64 : Int32)) C dX6_pagesIn_6 (by decide) ?_
  refine s_idiv C dX6_pagesIn_8 (by decide) ?_
  exact ret _ _ _ _ dX6_pagesIn_9 rfl (rt_1 hf) rfl
def pf_X6_spotOf (N : Nat) (x0 : Int32) (x1 : Int32) : Option Int32 := some ((x0 * (256 : Int32)) + x1)
theorem cx_X6_spotOf : (yX6_spotOf.cls ≠ "java/lang/invoke/MethodHandle" ∧ yX6_spotOf.cls ≠ "java/lang/invoke/VarHandle" ∧ (parseMethodDescriptor yX6_spotOf.desc).map (fun d => d.parameters.length) = some 2) := by decide +kernel
set_option maxHeartbeats 4000000 in
set_option maxRecDepth 100000 in
theorem c_X6_spotOf (l : Launch) (D : va_G) (q : Nat → ClassId) (ws : va_W) (N : Nat) (x0 : Int32) (x1 : Int32) (z : Int32) (hf : pf_X6_spotOf N x0 x1  = some z) : MI l yX6_spotOf cX6_spotOf 2 (some .int) 0 0 D (tyQ q) [.int x0, .int x1] ws ws z := by
  refine MI.of (by decide) (Nat.le_of_ble_eq_true rfl) ?_
  intro p e s m args below meth c Q A C ret ls hl
  have hl : lv_has ls 2 [(0, .int x0), (1, .int x1)] := hl
  unfold pf_X6_spotOf at hf
  refine s_iload_n C dX6_spotOf_0 rfl (lv_at hl 0 rfl) ?_
  refine s_sipush (v := (256 : Int32)) C dX6_spotOf_1 (by decide) ?_
  refine s_imul C dX6_spotOf_4 ?_
  refine s_iload_n C dX6_spotOf_5 rfl (lv_at hl 1 rfl) ?_
  refine s_iadd C dX6_spotOf_6 ?_
  exact ret _ _ _ _ dX6_spotOf_7 rfl (rt_1 hf) rfl
def pf_X6_isFile (N : Nat) (x0 : Int32) : Option Int32 := if x0 < 0 then some (0 : Int32) else if (12 : Int32) ≤ x0 then some (0 : Int32) else some (1 : Int32)
theorem cx_X6_isFile : (yX6_isFile.cls ≠ "java/lang/invoke/MethodHandle" ∧ yX6_isFile.cls ≠ "java/lang/invoke/VarHandle" ∧ (parseMethodDescriptor yX6_isFile.desc).map (fun d => d.parameters.length) = some 1) := by decide +kernel
set_option maxHeartbeats 4000000 in
set_option maxRecDepth 100000 in
theorem c_X6_isFile (l : Launch) (D : va_G) (q : Nat → ClassId) (ws : va_W) (N : Nat) (x0 : Int32) (z : Int32) (hf : pf_X6_isFile N x0  = some z) : MI l yX6_isFile cX6_isFile 1 (some .boolean) 0 0 D (tyQ q) [.int x0] ws ws z := by
  refine MI.of (by decide) (Nat.le_of_ble_eq_true rfl) ?_
  intro p e s m args below meth c Q A C ret ls hl
  have hl : lv_has ls 1 [(0, .int x0)] := hl
  unfold pf_X6_isFile at hf
  refine s_iload_n C dX6_isFile_0 rfl (lv_at hl 0 rfl) ?_
  refine s_if_lt (tgt := 14) C dX6_isFile_1 (by decide) (fun c1 => ?_) (fun c1 => ?_)
  · replace hf := it_t c1 hf
    refine s_iconst (v := (0 : Int32)) C dX6_isFile_14 (by decide) ?_
    exact ret _ _ _ _ dX6_isFile_15 rfl (rt_1 hf) rfl
  · replace hf := it_f c1 hf
    refine s_iload_n C dX6_isFile_4 rfl (lv_at hl 0 rfl) ?_
    refine s_bipush (v := (12 : Int32)) C dX6_isFile_5 (by decide) ?_
    refine s_icmp_ge (tgt := 14) C dX6_isFile_7 (by decide) (fun c2 => ?_) (fun c2 => ?_)
    · replace hf := it_t c2 hf
      refine s_iconst (v := (0 : Int32)) C dX6_isFile_14 (by decide) ?_
      exact ret _ _ _ _ dX6_isFile_15 rfl (rt_1 hf) rfl
    · replace hf := it_f c2 hf
      refine s_iconst (v := (1 : Int32)) C dX6_isFile_10 (by decide) ?_
      refine s_goto (tgt := 15) C dX6_isFile_11 (by decide) ?_
      exact ret _ _ _ _ dX6_isFile_15 rfl (rt_1 hf) rfl
def pf_X6_isStretch (N : Nat) (x0 : Int32) (x1 : Int32) (x2 : Int32) : Option Int32 := (pf_X6_isFile N x0).bind (fun z1 => if z1 = 0 then some (0 : Int32) else if x1 < 0 then some (0 : Int32) else if ((16384 : Int32) - x2) < x1 then some (0 : Int32) else some (1 : Int32))
theorem cx_X6_isStretch : (yX6_isStretch.cls ≠ "java/lang/invoke/MethodHandle" ∧ yX6_isStretch.cls ≠ "java/lang/invoke/VarHandle" ∧ (parseMethodDescriptor yX6_isStretch.desc).map (fun d => d.parameters.length) = some 3) := by decide +kernel
set_option maxHeartbeats 4000000 in
set_option maxRecDepth 100000 in
theorem c_X6_isStretch (l : Launch) (D : va_G) (q : Nat → ClassId) (ws : va_W) (N : Nat) (x0 : Int32) (x1 : Int32) (x2 : Int32) (z : Int32) (hf : pf_X6_isStretch N x0 x1 x2  = some z) : MI l yX6_isStretch cX6_isStretch 3 (some .boolean) 1 20 D (tyQ q) [.int x0, .int x1, .int x2] ws ws z := by
  refine MI.of (by decide) (Nat.le_of_ble_eq_true rfl) ?_
  intro p e s m args below meth c Q A C ret ls hl
  have hl : lv_has ls 3 [(0, .int x0), (1, .int x1), (2, .int x2)] := hl
  unfold pf_X6_isStretch at hf
  refine s_iload_n C dX6_isStretch_0 rfl (lv_at hl 0 rfl) ?_
  obtain ⟨z1, h2, hf⟩ := bn_some hf
  refine s_callIS (As := [.int x0]) (rest := []) C (c_X6_isFile l D q ws N x0  z1 h2) ⟨wd_2_4, wd_2_5, wd_1_1, wd_2_6, cx_X6_isFile, Nat.le_of_ble_eq_true rfl, Nat.le_of_ble_eq_true rfl⟩ (SubW.full _ _) rfl hl.1 rfl (Nat.le_of_ble_eq_true rfl) dX6_isStretch_1 (Nat.zero_le _) (Nat.zero_le _) ?_
  refine s_if_eq (tgt := 24) C dX6_isStretch_4 (by decide) (fun c3 => ?_) (fun c3 => ?_)
  · replace hf := it_t c3 hf
    refine s_iconst (v := (0 : Int32)) C dX6_isStretch_24 (by decide) ?_
    exact ret _ _ _ _ dX6_isStretch_25 rfl (rt_1 hf) rfl
  · replace hf := it_f c3 hf
    refine s_iload_n C dX6_isStretch_7 rfl (lv_at hl 1 rfl) ?_
    refine s_if_lt (tgt := 24) C dX6_isStretch_8 (by decide) (fun c4 => ?_) (fun c4 => ?_)
    · replace hf := it_t c4 hf
      refine s_iconst (v := (0 : Int32)) C dX6_isStretch_24 (by decide) ?_
      exact ret _ _ _ _ dX6_isStretch_25 rfl (rt_1 hf) rfl
    · replace hf := it_f c4 hf
      refine s_iload_n C dX6_isStretch_11 rfl (lv_at hl 1 rfl) ?_
      refine s_sipush (v := (16384 : Int32)) C dX6_isStretch_12 (by decide) ?_
      refine s_iload_n C dX6_isStretch_15 rfl (lv_at hl 2 rfl) ?_
      refine s_isub C dX6_isStretch_16 ?_
      refine s_icmp_gt (tgt := 24) C dX6_isStretch_17 (by decide) (fun c5 => ?_) (fun c5 => ?_)
      · replace hf := it_t c5 hf
        refine s_iconst (v := (0 : Int32)) C dX6_isStretch_24 (by decide) ?_
        exact ret _ _ _ _ dX6_isStretch_25 rfl (rt_1 hf) rfl
      · replace hf := it_f c5 hf
        refine s_iconst (v := (1 : Int32)) C dX6_isStretch_20 (by decide) ?_
        refine s_goto (tgt := 25) C dX6_isStretch_21 (by decide) ?_
        exact ret _ _ _ _ dX6_isStretch_25 rfl (rt_1 hf) rfl
def pf_X6_isPage (N : Nat) (x0 : Int32) : Option Int32 := if x0 < 0 then some (0 : Int32) else if (256 : Int32) ≤ x0 then some (0 : Int32) else some (1 : Int32)
theorem cx_X6_isPage : (yX6_isPage.cls ≠ "java/lang/invoke/MethodHandle" ∧ yX6_isPage.cls ≠ "java/lang/invoke/VarHandle" ∧ (parseMethodDescriptor yX6_isPage.desc).map (fun d => d.parameters.length) = some 1) := by decide +kernel
set_option maxHeartbeats 4000000 in
set_option maxRecDepth 100000 in
theorem c_X6_isPage (l : Launch) (D : va_G) (q : Nat → ClassId) (ws : va_W) (N : Nat) (x0 : Int32) (z : Int32) (hf : pf_X6_isPage N x0  = some z) : MI l yX6_isPage cX6_isPage 1 (some .boolean) 0 0 D (tyQ q) [.int x0] ws ws z := by
  refine MI.of (by decide) (Nat.le_of_ble_eq_true rfl) ?_
  intro p e s m args below meth c Q A C ret ls hl
  have hl : lv_has ls 1 [(0, .int x0)] := hl
  unfold pf_X6_isPage at hf
  refine s_iload_n C dX6_isPage_0 rfl (lv_at hl 0 rfl) ?_
  refine s_if_lt (tgt := 15) C dX6_isPage_1 (by decide) (fun c1 => ?_) (fun c1 => ?_)
  · replace hf := it_t c1 hf
    refine s_iconst (v := (0 : Int32)) C dX6_isPage_15 (by decide) ?_
    exact ret _ _ _ _ dX6_isPage_16 rfl (rt_1 hf) rfl
  · replace hf := it_f c1 hf
    refine s_iload_n C dX6_isPage_4 rfl (lv_at hl 0 rfl) ?_
    refine s_sipush (v := (256 : Int32)) C dX6_isPage_5 (by decide) ?_
    refine s_icmp_ge (tgt := 15) C dX6_isPage_8 (by decide) (fun c2 => ?_) (fun c2 => ?_)
    · replace hf := it_t c2 hf
      refine s_iconst (v := (0 : Int32)) C dX6_isPage_15 (by decide) ?_
      exact ret _ _ _ _ dX6_isPage_16 rfl (rt_1 hf) rfl
    · replace hf := it_f c2 hf
      refine s_iconst (v := (1 : Int32)) C dX6_isPage_11 (by decide) ?_
      refine s_goto (tgt := 16) C dX6_isPage_12 (by decide) ?_
      exact ret _ _ _ _ dX6_isPage_16 rfl (rt_1 hf) rfl
def pf_X7_isFile (N : Nat) (x0 : Int32) : Option Int32 := if x0 < 0 then some (0 : Int32) else if (12 : Int32) ≤ x0 then some (0 : Int32) else some (1 : Int32)
theorem cx_X7_isFile : (yX7_isFile.cls ≠ "java/lang/invoke/MethodHandle" ∧ yX7_isFile.cls ≠ "java/lang/invoke/VarHandle" ∧ (parseMethodDescriptor yX7_isFile.desc).map (fun d => d.parameters.length) = some 1) := by decide +kernel
set_option maxHeartbeats 4000000 in
set_option maxRecDepth 100000 in
theorem c_X7_isFile (l : Launch) (D : va_G) (q : Nat → ClassId) (ws : va_W) (N : Nat) (x0 : Int32) (z : Int32) (hf : pf_X7_isFile N x0  = some z) : MI l yX7_isFile cX7_isFile 1 (some .boolean) 0 0 D (tyQ q) [.int x0] ws ws z := by
  refine MI.of (by decide) (Nat.le_of_ble_eq_true rfl) ?_
  intro p e s m args below meth c Q A C ret ls hl
  have hl : lv_has ls 1 [(0, .int x0)] := hl
  unfold pf_X7_isFile at hf
  refine s_iload_n C dX7_isFile_0 rfl (lv_at hl 0 rfl) ?_
  refine s_if_lt (tgt := 14) C dX7_isFile_1 (by decide) (fun c1 => ?_) (fun c1 => ?_)
  · replace hf := it_t c1 hf
    refine s_iconst (v := (0 : Int32)) C dX7_isFile_14 (by decide) ?_
    exact ret _ _ _ _ dX7_isFile_15 rfl (rt_1 hf) rfl
  · replace hf := it_f c1 hf
    refine s_iload_n C dX7_isFile_4 rfl (lv_at hl 0 rfl) ?_
    refine s_bipush (v := (12 : Int32)) C dX7_isFile_5 (by decide) ?_
    refine s_icmp_ge (tgt := 14) C dX7_isFile_7 (by decide) (fun c2 => ?_) (fun c2 => ?_)
    · replace hf := it_t c2 hf
      refine s_iconst (v := (0 : Int32)) C dX7_isFile_14 (by decide) ?_
      exact ret _ _ _ _ dX7_isFile_15 rfl (rt_1 hf) rfl
    · replace hf := it_f c2 hf
      refine s_iconst (v := (1 : Int32)) C dX7_isFile_10 (by decide) ?_
      refine s_goto (tgt := 15) C dX7_isFile_11 (by decide) ?_
      exact ret _ _ _ _ dX7_isFile_15 rfl (rt_1 hf) rfl
def pf_X7_isPage (N : Nat) (x0 : Int32) : Option Int32 := if x0 < 0 then some (0 : Int32) else if (256 : Int32) ≤ x0 then some (0 : Int32) else some (1 : Int32)
theorem cx_X7_isPage : (yX7_isPage.cls ≠ "java/lang/invoke/MethodHandle" ∧ yX7_isPage.cls ≠ "java/lang/invoke/VarHandle" ∧ (parseMethodDescriptor yX7_isPage.desc).map (fun d => d.parameters.length) = some 1) := by decide +kernel
set_option maxHeartbeats 4000000 in
set_option maxRecDepth 100000 in
theorem c_X7_isPage (l : Launch) (D : va_G) (q : Nat → ClassId) (ws : va_W) (N : Nat) (x0 : Int32) (z : Int32) (hf : pf_X7_isPage N x0  = some z) : MI l yX7_isPage cX7_isPage 1 (some .boolean) 0 0 D (tyQ q) [.int x0] ws ws z := by
  refine MI.of (by decide) (Nat.le_of_ble_eq_true rfl) ?_
  intro p e s m args below meth c Q A C ret ls hl
  have hl : lv_has ls 1 [(0, .int x0)] := hl
  unfold pf_X7_isPage at hf
  refine s_iload_n C dX7_isPage_0 rfl (lv_at hl 0 rfl) ?_
  refine s_if_lt (tgt := 15) C dX7_isPage_1 (by decide) (fun c1 => ?_) (fun c1 => ?_)
  · replace hf := it_t c1 hf
    refine s_iconst (v := (0 : Int32)) C dX7_isPage_15 (by decide) ?_
    exact ret _ _ _ _ dX7_isPage_16 rfl (rt_1 hf) rfl
  · replace hf := it_f c1 hf
    refine s_iload_n C dX7_isPage_4 rfl (lv_at hl 0 rfl) ?_
    refine s_sipush (v := (256 : Int32)) C dX7_isPage_5 (by decide) ?_
    refine s_icmp_ge (tgt := 15) C dX7_isPage_8 (by decide) (fun c2 => ?_) (fun c2 => ?_)
    · replace hf := it_t c2 hf
      refine s_iconst (v := (0 : Int32)) C dX7_isPage_15 (by decide) ?_
      exact ret _ _ _ _ dX7_isPage_16 rfl (rt_1 hf) rfl
    · replace hf := it_f c2 hf
      refine s_iconst (v := (1 : Int32)) C dX7_isPage_11 (by decide) ?_
      refine s_goto (tgt := 16) C dX7_isPage_12 (by decide) ?_
      exact ret _ _ _ _ dX7_isPage_16 rfl (rt_1 hf) rfl
