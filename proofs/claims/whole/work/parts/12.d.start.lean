/-! THE LAW: its start (wip/tools/start.py) -/
set_option maxHeartbeats 8000000 in
set_option maxRecDepth 20000 in
theorem law_start {p : Program} {l : Launch} {e : Env} {s : State} {m : MethodId} {args : Array Value} {below : List Frame} {meth : Method} {c : Code} {D : va_G} {A : Nat → Prop} {Q : State → Prop} {b L : Nat} {xs : Nat → Int32} {q : Nat → ClassId} {nf nb : Nat} (C : CX p s m args c cL_law 4 "PageHoldLaw" D (tyQ q) A) (X : SC b L xs s A) (hnf : fr0 (cellV L xs 0) = nI nf) (hf4 : 4 ≤ nf) (hf64 : nf ≤ 64) (hnb : bl0 (cellV L xs 1) = nI nb) (hb8 : 8 ≤ nb) (hb512 : nb ≤ 512) (fin : ∀ (σ τ : St) (hc hm : Nat → Nat) (ls : Array Slot), WG p l e room_1 s m args below meth c D A 100 200000 Q (wL hc hm q nf nb σ τ) (F0 m 909 ls [])) (ls : Array Slot) (hl : lv_has ls 4 [(0, .ref b)]) : WG p l e room_1 s m args below meth c D A 0 0 Q [] (F0 m 0 ls []) := by
  refine s_new (ci := 6) (fs := [.null, .null, .null, .null, .null, .null, .null, .int 0, .int 0]) (CC := RX6) (T := TX6) (N := 9) C uw_X6 tyX6_ok wd_1_12 wd_1_13 wd_1_1 rfl (fun j hj => by rcases (show j = 0 ∨ j = 1 ∨ j = 2 ∨ j = 3 ∨ j = 4 ∨ j = 5 ∨ j = 6 ∨ j = 7 ∨ j = 8 by omega) with rfl | rfl | rfl | rfl | rfl | rfl | rfl | rfl | rfl <;> rfl) (Nat.le_of_ble_eq_true rfl) (Nat.le_of_ble_eq_true rfl) dL_law_0 (fun a => ?_)
  refine s_w (ws2 := [(a, .inr (6, [.null, .null, .null, .null, .null, .null, .null, .int 0, .int 0]))]) rfl ?_
  refine s_dup C dL_law_3 rfl ?_
  refine s_aload_n C dL_law_4 rfl (lv_at hl 0 rfl) ?_
  refine s_iconst (v := (0 : Int32)) C dL_law_5 (by decide) ?_
  refine s_cell C X 0 (by decide) ⟨wd_3_129, wd_3_130, wd_1_0, wd_3_131, cx_cell, Nat.le_of_ble_eq_true rfl, Nat.le_of_ble_eq_true rfl⟩ hl.1 rfl (Nat.le_of_ble_eq_true rfl) dL_law_6 (Nat.le_of_ble_eq_true rfl) (Nat.le_of_ble_eq_true rfl) ?_
  refine s_aload_n C dL_law_9 rfl (lv_at hl 0 rfl) ?_
  refine s_iconst (v := (1 : Int32)) C dL_law_10 (by decide) ?_
  refine s_cell C X 1 (by decide) ⟨wd_3_129, wd_3_130, wd_1_0, wd_3_131, cx_cell, Nat.le_of_ble_eq_true rfl, Nat.le_of_ble_eq_true rfl⟩ hl.1 rfl (Nat.le_of_ble_eq_true rfl) dL_law_11 (Nat.le_of_ble_eq_true rfl) (Nat.le_of_ble_eq_true rfl) ?_
  refine s_callN (n := 2) (As := [.int (cellV L xs 0), .int (cellV L xs 1)]) (rest := [.ref a]) C (c_X6_init l D q a _ _ nf nb hnf hnb hf4 hf64 hb512) ⟨wd_1_14, wd_1_15, wd_1_1, wd_1_16, (by decide +kernel), rfl, Nat.le_of_ble_eq_true rfl, Nat.le_of_ble_eq_true rfl⟩ [0] rfl (by decide) rfl hl.1 rfl (Nat.le_of_ble_eq_true rfl) dL_law_14 (Nat.le_of_ble_eq_true rfl) (Nat.le_of_ble_eq_true rfl) (fun w1 hw1 => ?_)
  obtain ⟨hc, e0, rfl⟩ := hw1
  refine ⟨wC hc q nf nb (iC nf nb), SubW.of (wr := []) [0] [] [0, 1, 2, 3, 4, 5, 6, 7, 8, 9, 10, 11, 12, 13, 14, 15, 16, 17, 18, 19, 20, 21, 22, 23, 24, 25, 26, 27, 28, 29, 30, 31, 32, 33, 34] rfl rfl (by decide) (by decide) (by decide) rfl (by decide), ?_⟩
  subst e0
  refine s_astore_n (lv2 := [(1, .ref (hc 0)), (0, .ref b)]) C dL_law_17 rfl hl (by decide) rfl ?_
  intro ls hl
  refine s_widen 40 30000 (by decide) (by decide) ?_
  refine s_new (ci := 7) (fs := [.int 0, .int 0, .null, .null, .null, .null, .null, .null, .null, .null, .null, .null, .null, .null, .null, .int 0, .int 0, .null, .null, .null, .null, .null, .null, .int 0, .int 0, .int 0, .int 0, .int 0, .int 0, .null, .null, .null, .int 0, .int 0, .null]) (CC := RX7) (T := TX7) (N := 35) C uw_X7 tyX7_ok wd_3_132 wd_3_133 wd_1_10 rfl (fun j hj => by rcases (show j = 0 ∨ j = 1 ∨ j = 2 ∨ j = 3 ∨ j = 4 ∨ j = 5 ∨ j = 6 ∨ j = 7 ∨ j = 8 ∨ j = 9 ∨ j = 10 ∨ j = 11 ∨ j = 12 ∨ j = 13 ∨ j = 14 ∨ j = 15 ∨ j = 16 ∨ j = 17 ∨ j = 18 ∨ j = 19 ∨ j = 20 ∨ j = 21 ∨ j = 22 ∨ j = 23 ∨ j = 24 ∨ j = 25 ∨ j = 26 ∨ j = 27 ∨ j = 28 ∨ j = 29 ∨ j = 30 ∨ j = 31 ∨ j = 32 ∨ j = 33 ∨ j = 34 by omega) with rfl | rfl | rfl | rfl | rfl | rfl | rfl | rfl | rfl | rfl | rfl | rfl | rfl | rfl | rfl | rfl | rfl | rfl | rfl | rfl | rfl | rfl | rfl | rfl | rfl | rfl | rfl | rfl | rfl | rfl | rfl | rfl | rfl | rfl | rfl <;> rfl) (Nat.le_of_ble_eq_true rfl) (Nat.le_of_ble_eq_true rfl) dL_law_18 (fun a => ?_)
  refine s_dup C dL_law_21 rfl ?_
  refine s_aload_n C dL_law_22 rfl (lv_at hl 1 rfl) ?_
  refine s_iconst (v := (0 : Int32)) C dL_law_23 (by decide) ?_
  refine s_cell C X 0 (by decide) ⟨wd_3_129, wd_3_130, wd_1_0, wd_3_131, cx_cell, Nat.le_of_ble_eq_true rfl, Nat.le_of_ble_eq_true rfl⟩ hl.1 rfl (Nat.le_of_ble_eq_true rfl) dL_law_24 (Nat.le_of_ble_eq_true rfl) (Nat.le_of_ble_eq_true rfl) ?_
  refine s_aload_n C dL_law_27 rfl (lv_at hl 1 rfl) ?_
  refine s_iconst (v := (1 : Int32)) C dL_law_28 (by decide) ?_
  refine s_cell C X 1 (by decide) ⟨wd_3_129, wd_3_130, wd_1_0, wd_3_131, cx_cell, Nat.le_of_ble_eq_true rfl, Nat.le_of_ble_eq_true rfl⟩ hl.1 rfl (Nat.le_of_ble_eq_true rfl) dL_law_29 (Nat.le_of_ble_eq_true rfl) (Nat.le_of_ble_eq_true rfl) ?_
  refine s_callN (n := 2) (As := [.int (cellV L xs 0), .int (cellV L xs 1)]) (rest := [.ref a]) C (c_X7_init l D q a _ _ nf nb hnf hnb) ⟨wd_3_134, wd_3_135, wd_1_10, wd_3_136, (by decide +kernel), rfl, Nat.le_of_ble_eq_true rfl, Nat.le_of_ble_eq_true rfl⟩ [35] rfl (by decide) rfl hl.1 rfl (Nat.le_of_ble_eq_true rfl) dL_law_32 (Nat.le_of_ble_eq_true rfl) (Nat.le_of_ble_eq_true rfl) (fun w1 hw1 => ?_)
  obtain ⟨hm, e0, rfl⟩ := hw1
  refine ⟨wL hc hm q nf nb (iC nf nb) (iM nf nb 3072 12), SubW.of (wr := wC hc q nf nb (iC nf nb)) [35] [0, 1, 2, 3, 4, 5, 6, 7, 8, 9, 10, 11, 12, 13, 14, 15, 16, 17, 18, 19, 20, 21, 22, 23, 24, 25, 26, 27, 28, 29, 30, 31, 32, 33, 34] [0, 1, 2, 3, 4, 5, 6, 7, 8, 9, 10, 11, 12, 13, 14, 15, 16, 17, 18, 19, 20, 21, 22, 23, 24, 25, 26, 27, 28, 29, 30, 31, 32, 33, 34, 35, 36, 37, 38, 39, 40, 41, 42, 43, 44, 45, 46, 47, 48, 49, 50, 51, 52, 53, 54, 55, 56, 57, 58] rfl rfl (by decide) (by decide) (by decide) rfl (by decide), ?_⟩
  subst e0
  refine s_astore_n (lv2 := [(2, .ref (hm 0)), (1, .ref (hc 0)), (0, .ref b)]) C dL_law_35 rfl hl (by decide) rfl ?_
  intro ls hl
  refine s_iconst (v := nI 2) C dL_law_36 (by decide) ?_
  refine s_istore_n (lv2 := [(3, .int (nI 2)), (2, .ref (hm 0)), (1, .ref (hc 0)), (0, .ref b)]) C dL_law_37 rfl hl (by decide) rfl ?_
  intro ls hl
  refine s_widen 100 200000 (by decide) (by decide) ?_
  exact law_loop C X (fun σ τ ls => fin σ τ hc hm ls) 65 0 2 _ _ rfl (by omega) (R3_0 hf4 hf64 hb8 hb512) ls hl
