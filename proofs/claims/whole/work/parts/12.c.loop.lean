/-! THE LAW: its loop, its start (wip/tools/law.py) -/
theorem law_gt {i L : Nat} (hi : i < 2 ^ 20) (hL : L < 2 ^ 20) (h : L < i + 6) : nI L - (6 : Int32) < nI i := by
  rw [Int32.lt_iff_toInt_lt, show (6 : Int32) = nI 6 from rfl, pk_sub_toInt (by omega) (by decide), nI_toInt (by omega)]; omega
set_option maxHeartbeats 4000000 in
set_option maxRecDepth 20000 in
theorem law_loop {p : Program} {l : Launch} {e : Env} {s : State} {m : MethodId} {args : Array Value} {below : List Frame} {meth : Method} {c : Code} {D : va_G} {A : Nat → Prop} {Q : State → Prop} {b L : Nat} {xs : Nat → Int32} {q : Nat → ClassId} {hc hm : Nat → Nat} {nf nb : Nat} (C : CX p s m args c cL_law 4 "PageHoldLaw" D (tyQ q) A) (X : SC b L xs s A) (fin : ∀ (σ τ : St) (ls : Array Slot), WG p l e room_1 s m args below meth c D A 100 200000 Q (wL hc hm q nf nb σ τ) (F0 m 909 ls [])) :
    ∀ (d k i : Nat) (σ τ : St), i = 2 + 6 * k → k + d = 65 → R3 nf nb k σ τ → ∀ ls : Array Slot, lv_has ls 4 [(3, .int (nI i)), (2, .ref (hm 0)), (1, .ref (hc 0)), (0, .ref b)] → WG p l e room_1 s m args below meth c D A 100 200000 Q (wL hc hm q nf nb σ τ) (F0 m 38 ls []) := by
  have hL := X.2.2.2
  intro d
  induction d with
  | zero =>
    intro k i σ τ hi hd R ls hl
    refine s_iload_n C dL_law_38 rfl (lv_at hl 0 rfl) ?_
    refine s_aload_n C dL_law_39 rfl (lv_at hl 3 rfl) ?_
    refine s_slen C X dL_law_40 ?_
    refine s_bipush (v := (6 : Int32)) C dL_law_41 (by decide) ?_
    refine s_isub C dL_law_43 ?_
    refine s_icmp_gt (tgt := 909) C dL_law_44 (by decide) (fun c1 => fin σ τ ls) (fun c1 => absurd (law_gt (by omega) (by omega) (by omega)) c1)
  | succ d ih =>
    intro k i σ τ hi hd R ls hl
    refine s_iload_n C dL_law_38 rfl (lv_at hl 0 rfl) ?_
    refine s_aload_n C dL_law_39 rfl (lv_at hl 3 rfl) ?_
    refine s_slen C X dL_law_40 ?_
    refine s_bipush (v := (6 : Int32)) C dL_law_41 (by decide) ?_
    refine s_isub C dL_law_43 ?_
    refine s_icmp_gt (tgt := 909) C dL_law_44 (by decide) (fun c1 => fin σ τ ls) (fun c1 => ?_)
    have hin : i + 6 ≤ L := by
      rcases Nat.lt_or_ge L (i + 6) with h | h
      · exact absurd (law_gt (by omega) (by omega) h) c1
      · exact h
    have nx : ∀ σ' τ' : St, R3 nf nb (k + 1) σ' τ' → ∀ ls : Array Slot, lv_has ls 4 [(3, .int (nI i)), (2, .ref (hm 0)), (1, .ref (hc 0)), (0, .ref b)] → WG p l e room_1 s m args below meth c D A 100 200000 Q (wL hc hm q nf nb σ' τ') (F0 m 903 ls []) := by
      intro σ' τ' R' ls hl
      refine s_iinc (v := nI (i + 6)) (lv2 := [(3, .int (nI (i + 6))), (2, .ref (hm 0)), (1, .ref (hc 0)), (0, .ref b)]) C 0 dL_law_903 hl rfl (nI_add i 6) (by decide) rfl ?_
      intro ls hl
      refine s_goto (tgt := 38) C dL_law_906 (by decide) ?_
      exact ih (k + 1) (i + 6) σ' τ' (by omega) (by omega) R' ls hl
    refine s_aload_n C dL_law_47 rfl (lv_at hl 3 rfl) ?_
    refine s_iload_n C dL_law_48 rfl (lv_at hl 0 rfl) ?_
    refine s_sld C X i rfl (by omega) dL_law_49 ?_
    refine s_bipush (v := (31 : Int32)) C dL_law_50 (by decide) ?_
    refine s_iand C dL_law_52 ?_
    have sw : WG p l e room_1 s m args below meth c D A 100 200000 Q (wL hc hm q nf nb σ τ) (F0 m 53 ls [.int (xs i &&& 31)]) := by
      by_cases e0 : xs i &&& 31 = (0 : Int32)
      · refine s_tblI (tgt := 152) C dL_law_53 e0 (by decide) (by decide) rfl (by decide) ?_
        exact lc_0 C X (by omega) (by omega) R nx ls hl
      by_cases e1 : xs i &&& 31 = (1 : Int32)
      · refine s_tblI (tgt := 195) C dL_law_53 e1 (by decide) (by decide) rfl (by decide) ?_
        exact lc_1 C X (by omega) (by omega) R nx ls hl
      by_cases e2 : xs i &&& 31 = (2 : Int32)
      · refine s_tblI (tgt := 218) C dL_law_53 e2 (by decide) (by decide) rfl (by decide) ?_
        exact lc_2 C X (by omega) (by omega) R nx ls hl
      by_cases e3 : xs i &&& 31 = (3 : Int32)
      · refine s_tblI (tgt := 301) C dL_law_53 e3 (by decide) (by decide) rfl (by decide) ?_
        exact lc_3 C X (by omega) (by omega) R nx ls hl
      by_cases e4 : xs i &&& 31 = (4 : Int32)
      · refine s_tblI (tgt := 354) C dL_law_53 e4 (by decide) (by decide) rfl (by decide) ?_
        exact lc_4 C X (by omega) (by omega) R nx ls hl
      by_cases e5 : xs i &&& 31 = (5 : Int32)
      · refine s_tblI (tgt := 387) C dL_law_53 e5 (by decide) (by decide) rfl (by decide) ?_
        exact lc_5 C X (by omega) (by omega) R nx ls hl
      by_cases e6 : xs i &&& 31 = (6 : Int32)
      · refine s_tblI (tgt := 430) C dL_law_53 e6 (by decide) (by decide) rfl (by decide) ?_
        exact lc_6 C X (by omega) (by omega) R nx ls hl
      by_cases e7 : xs i &&& 31 = (7 : Int32)
      · refine s_tblI (tgt := 453) C dL_law_53 e7 (by decide) (by decide) rfl (by decide) ?_
        exact lc_7 C X (by omega) (by omega) R nx ls hl
      by_cases e8 : xs i &&& 31 = (8 : Int32)
      · refine s_tblI (tgt := 466) C dL_law_53 e8 (by decide) (by decide) rfl (by decide) ?_
        exact lc_8 C X (by omega) (by omega) R nx ls hl
      by_cases e9 : xs i &&& 31 = (9 : Int32)
      · refine s_tblI (tgt := 489) C dL_law_53 e9 (by decide) (by decide) rfl (by decide) ?_
        exact lc_9 C X (by omega) (by omega) R nx ls hl
      by_cases e10 : xs i &&& 31 = (10 : Int32)
      · refine s_tblI (tgt := 502) C dL_law_53 e10 (by decide) (by decide) rfl (by decide) ?_
        exact lc_10 C X (by omega) (by omega) R nx ls hl
      by_cases e11 : xs i &&& 31 = (11 : Int32)
      · refine s_tblI (tgt := 515) C dL_law_53 e11 (by decide) (by decide) rfl (by decide) ?_
        exact lc_11 C X (by omega) (by omega) R nx ls hl
      by_cases e12 : xs i &&& 31 = (12 : Int32)
      · refine s_tblI (tgt := 564) C dL_law_53 e12 (by decide) (by decide) rfl (by decide) ?_
        exact lc_12 C X (by omega) (by omega) R nx ls hl
      by_cases e13 : xs i &&& 31 = (13 : Int32)
      · refine s_tblI (tgt := 623) C dL_law_53 e13 (by decide) (by decide) rfl (by decide) ?_
        exact lc_13 C X (by omega) (by omega) R nx ls hl
      by_cases e14 : xs i &&& 31 = (14 : Int32)
      · refine s_tblI (tgt := 646) C dL_law_53 e14 (by decide) (by decide) rfl (by decide) ?_
        exact lc_14 C X (by omega) (by omega) R nx ls hl
      by_cases e15 : xs i &&& 31 = (15 : Int32)
      · refine s_tblI (tgt := 689) C dL_law_53 e15 (by decide) (by decide) rfl (by decide) ?_
        exact lc_15 C X (by omega) (by omega) R nx ls hl
      by_cases e16 : xs i &&& 31 = (16 : Int32)
      · refine s_tblI (tgt := 732) C dL_law_53 e16 (by decide) (by decide) rfl (by decide) ?_
        exact lc_16 C X (by omega) (by omega) R nx ls hl
      by_cases e17 : xs i &&& 31 = (17 : Int32)
      · refine s_tblI (tgt := 765) C dL_law_53 e17 (by decide) (by decide) rfl (by decide) ?_
        exact lc_17 C X (by omega) (by omega) R nx ls hl
      by_cases e18 : xs i &&& 31 = (18 : Int32)
      · refine s_tblI (tgt := 814) C dL_law_53 e18 (by decide) (by decide) rfl (by decide) ?_
        exact lc_18 C X (by omega) (by omega) R nx ls hl
      by_cases e19 : xs i &&& 31 = (19 : Int32)
      · refine s_tblI (tgt := 847) C dL_law_53 e19 (by decide) (by decide) rfl (by decide) ?_
        exact lc_19 C X (by omega) (by omega) R nx ls hl
      by_cases e20 : xs i &&& 31 = (20 : Int32)
      · refine s_tblI (tgt := 880) C dL_law_53 e20 (by decide) (by decide) rfl (by decide) ?_
        exact lc_20 C X (by omega) (by omega) R nx ls hl
      refine s_tblO (tgt := 903) C dL_law_53 (tb_out (n := 20) (by decide) (fun k hk => ?_)) (by decide) ?_
      · rcases (show k = 0 ∨ k = 1 ∨ k = 2 ∨ k = 3 ∨ k = 4 ∨ k = 5 ∨ k = 6 ∨ k = 7 ∨ k = 8 ∨ k = 9 ∨ k = 10 ∨ k = 11 ∨ k = 12 ∨ k = 13 ∨ k = 14 ∨ k = 15 ∨ k = 16 ∨ k = 17 ∨ k = 18 ∨ k = 19 ∨ k = 20 by omega) with rfl | rfl | rfl | rfl | rfl | rfl | rfl | rfl | rfl | rfl | rfl | rfl | rfl | rfl | rfl | rfl | rfl | rfl | rfl | rfl | rfl
        · exact e0
        · exact e1
        · exact e2
        · exact e3
        · exact e4
        · exact e5
        · exact e6
        · exact e7
        · exact e8
        · exact e9
        · exact e10
        · exact e11
        · exact e12
        · exact e13
        · exact e14
        · exact e15
        · exact e16
        · exact e17
        · exact e18
        · exact e19
        · exact e20
      · exact nx σ τ R.up ls hl
    exact sw
