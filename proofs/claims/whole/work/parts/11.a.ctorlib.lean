/-! CONSTRUCTORS: contracts that make cells, and the rows that make them -/
def rmN (fr lo kc ks : Nat) : Room := { frames := fr, cells := kc, slots := ks, locals := lo }
/-- a constructor's contract: what its world becomes, which cells it makes -/
def MN (l : Launch) (y : MethodName) (cc : ByteArray) (nL fr lo kc ks : Nat) (D : va_G) (tys : List (ClassId × FieldType)) (av : List Value) (ws : va_W) (Pw : va_W → Prop) : Prop := ∀ sz : Nat, Met l y (Cond.code y cc nL none :: BIG) (rmN fr lo kc ks) (va_Pc av (Pre D tys ws sz)) (va_Qv Pw (fun (ws2 : va_W) (t : State) => va_P D vwCl ws2 t.heap ∧ va_K D vwCl tys t ∧ va_D (va_A ws sz) ws2) (va_A ws sz)) kc ks (va_A ws sz)
theorem MN.of {l : Launch} {y : MethodName} {cc : ByteArray} {nL fr lo kc ks : Nat} {D : va_G} {tys : List (ClassId × FieldType)} {av : List Value} {ws : va_W} {Pw : va_W → Prop} (hy : plainName y.cls = true) (hyn : y.name = "<init>") (hav : (lg_sl av).length ≤ nL)
    (body : ∀ (p : Program) (e : Env) (s : State) (m : MethodId) (args : Array Value) (below : List Frame) (meth : Method) (c : Code) (Q : State → Prop) (A : Nat → Prop), CX p s m args c cc nL y.cls D tys A → meth.name = "<init>" → (∀ (pc : Nat) (ls : Array Slot) (w : va_W) (k n : Nat), decode cc pc = .ok (.return_, 1) → Pw w → k ≤ kc → n ≤ ks → WG p l e (rmN fr lo kc ks) s m args below meth c D A k n Q w (F0 m pc ls [])) → ∀ ls : Array Slot, lv_has ls nL (lv_args 0 av) → WG p l e (rmN fr lo kc ks) s m args below meth c D A 0 0 Q ws (F0 m 0 ls [])) : MN l y cc nL fr lo kc ks D tys av ws Pw := by
  intro sz
  refine Met.ofW (cc := cc) (maxL := nL) (ret := none) hy rfl ?_
  intro p e s m args below meth c s₁ B hml hv
  obtain ⟨rfl, hsz, hP, hK, hN, hD0⟩ := hv
  have hts := atoms_spec (ws := Cond.code y cc nL (none) :: BIG) B.pre
  have hown : s.vm.findClass y.cls = some m.cls := findClass_of_methodNamed B.named
  have hlocks := B.notSynchronized
  have hin : meth.name = "<init>" := by rw [← hyn]; exact (name_of_methodNamed B.named B.method).1
  subst hsz
  have hD := hD0.self (sz := s.heap.size)
  have hl := lv_entry av (n := nL) hav
  rw [lg_entry_eq]
  generalize (lg_sl av ++ List.replicate (nL - (lg_sl av).length) Slot.unset).toArray = ls at hl ⊢
  have C : CX p s m av.toArray c cc nL y.cls D tys (va_A ws s.heap.size) := ⟨B.exec, B.bytes, hml, hown, fun w h => hts w (List.mem_cons_of_mem _ h), hK, hN, fun q h => Or.inr h⟩
  refine body p e s m av.toArray below meth c _ _ C hin ?_ ls hl s.heap [] hP hD va_S.rf
  intro pc ls w k n hd hw hk hn H locs hP hD hS
  refine W.widen (k := kc) (n := ks) hk hn ?_
  exact W.vret C.1 C.2.1 B.returns (fun t ht hW => ⟨⟨w, rfl, hw, by rw [ht]; exact hP, va_K.moved hW.alike hK, hD⟩, hS.F ht⟩) hS.2.2 hd
def CN (R : Room) (own : String) (index : Nat) (y : MethodName) (cy : ByteArray) (nY : Nat) (fr lo n : Nat) : Prop := Cond.methodLink own index y ∈ BIG ∧ Cond.instanceMethod y ∈ BIG ∧ Cond.initialized y.cls ∈ BIG ∧ Cond.code y cy nY none ∈ BIG ∧ (y.cls ≠ "java/lang/invoke/MethodHandle" ∧ y.cls ≠ "java/lang/invoke/VarHandle" ∧ (parseMethodDescriptor y.desc).map (fun d => d.parameters.length) = some n) ∧ y.name = "<init>" ∧ fr + 1 ≤ R.frames ∧ 8 + (nY + 11) + lo ≤ R.locals
section SN
variable {p : Program} {l : Launch} {e : Env} {R : Room} {s : State} {m : MethodId} {args : Array Value} {below : List Frame} {meth : Method} {c : Code} {D : va_G} {A : Nat → Prop} {kc ks : Nat} {Q : State → Prop} {ws wc w1 ws2 : va_W} {cc : ByteArray} {nL : Nat} {own : String} {tys : List (ClassId × FieldType)} {pc : Nat} {ls : Array Slot} {rest : List Value} {q : Nat → ClassId}
theorem s_perm (pm : List Nat) (hp : pm.map (fun i => ws[i]?) = ws2.map some) (hn : va_nd pm = true) {g : JFrame} (k : WG p l e R s m args below meth c D A kc ks Q ws2 g) : WG p l e R s m args below meth c D A kc ks Q ws g := fun H locs hP hD hS => k H locs (hP.sub pm (by
    have h1 : (pm.map (fun i => ws[i]?)).filterMap id = pm.filterMap (fun i => ws[i]?) := by rw [List.filterMap_map]; rfl
    rw [← h1, hp, List.filterMap_map]
    show List.filterMap (fun x => some x) ws2 = ws2
    exact List.filterMap_some)) (hD.sub pm hn hp) hS
theorem s_objI (C : CX p s m args c cc nL own D tys A) {i h0 : Nat} (hsz : ls.size = nL) (hw : Cond.methodLink own i Lib.objectInit ∈ BIG) (hd : decode cc pc = .ok (.invokespecial i, 3)) (hf : 1 ≤ R.frames) (hlo : (rest.map fun v => v.category).sum + 12 ≤ R.locals) (k : WG p l e R s m args below meth c D A kc ks Q ws (F0 m (pc + 3) ls rest)) : WG p l e R s m args below meth c D A kc ks Q ws (F0 m pc ls (.ref h0 :: rest)) := fun H locs hP hD hS => by
  refine W.objInit C.1 C.2.1 C.2.2.2.1 (C.2.2.2.2.1 _ hw) (C.2.2.2.2.1 _ wd_1_18) (C.2.2.2.2.1 _ wd_1_19) rfl (by rw [C.2.2.1]; exact hsz) rfl hd hf (by show 2 * 0 + _ + 12 ≤ _; omega) ?_
  exact k H locs hP hD hS
theorem s_new (C : CX p s m args c cc nL own D tys A) {CC : String} {T : u_T} {N ci i : Nat} {ty : Nat → FieldType} {fs : List Value} (hin : ∀ w ∈ u_ws CC T N, w ∈ BIG) (hty : ∀ k, k < N → parseFieldDescriptor (T k).2.2.1 = some (ty k)) (hcl : Cond.classLink own i CC ∈ BIG) (hinst : Cond.instantiable CC N ∈ BIG) (hini : Cond.initialized CC ∈ BIG) (hc : vwCl[ci]? = some (CC, T, N)) (hfs : ∀ j, j < N → defaultValue (ty j) = vp_V fs j) (h1 : kc + 1 ≤ R.cells) (h2 : ks + N ≤ R.slots) (hd : decode cc pc = .ok (.new i, 3)) (k : ∀ a : Nat, WG p l e R s m args below meth c D A (kc + 1) (ks + N) Q (ws ++ [(a, .inr (ci, fs))]) (F0 m (pc + 3) ls (.ref a :: rest))) : WG p l e R s m args below meth c D A kc ks Q ws (F0 m pc ls rest) := fun H locs hP hD hS =>
  va_new (ci := ci) (fs := fs) (C := CC) (T := T) (N := N) C.1 C.2.1 C.2.2.2.2.1 hin ty hty C.2.2.2.1 (C.2.2.2.2.1 _ hcl) (C.2.2.2.2.1 _ hinst) (C.2.2.2.2.1 _ hini) C.2.2.2.2.2.1 hP hD hS C.2.2.2.2.2.2.2 hc hfs h1 h2 hd (fun a H hP hD hS => k a H locs hP hD hS)
theorem s_newaI (C : CX p s m args c cc nL own D (tyQ q) A) {n : Int32} (N : Nat) (hn : n = nI N) (hN : N < 100000) (h1 : kc + 1 ≤ R.cells) (h2 : ks + N ≤ R.slots) (hd : decode cc pc = .ok (.newarray .int, 2)) (k : ∀ a : Nat, WG p l e R s m args below meth c D A (kc + 1) (ks + N) Q (ws ++ [(a, .inl (q 0, N, .inl (fun _ => 0)))]) (F0 m (pc + 2) ls (.ref a :: rest))) : WG p l e R s m args below meth c D A kc ks Q ws (F0 m pc ls (.int n :: rest)) := fun H locs hP hD hS => by
  subst hn
  refine va_newa (atype := .int) (ty := .int) (a0 := (N, .inl (fun _ => 0))) C.1 C.2.1 (C.2.2.2.2.1 _ wd_1_33) rfl C.2.2.2.2.2.1 hP hD hS C.2.2.2.2.2.2.2 (fun _ => rfl) (nI_pos (by omega)) (nI_clamp (by omega)) (by show N * 4 ≤ _; omega) h1 h2 hd (fun a cA H1 hK hP hD hS => ?_)
  have e1 : s.vm.findClass _ = some cA := (hK.2 4 (cA, .int) rfl).2
  have e2 : s.vm.findClass _ = some (q 0) := (C.2.2.2.2.2.1.2 0 (q 0, .int) rfl).2
  have e3 : cA = q 0 := Option.some.inj (e1.symm.trans e2)
  subst e3
  exact k a H1 locs hP hD hS
theorem s_newaZ (C : CX p s m args c cc nL own D (tyQ q) A) {n : Int32} (N : Nat) (hn : n = nI N) (hN : N < 100000) (h1 : kc + 1 ≤ R.cells) (h2 : ks + N ≤ R.slots) (hd : decode cc pc = .ok (.newarray .boolean, 2)) (k : ∀ a : Nat, WG p l e R s m args below meth c D A (kc + 1) (ks + N) Q (ws ++ [(a, .inl (q 1, N, .inl (fun _ => 0)))]) (F0 m (pc + 2) ls (.ref a :: rest))) : WG p l e R s m args below meth c D A kc ks Q ws (F0 m pc ls (.int n :: rest)) := fun H locs hP hD hS => by
  subst hn
  refine va_newa (atype := .boolean) (ty := .boolean) (a0 := (N, .inl (fun _ => 0))) C.1 C.2.1 (C.2.2.2.2.1 _ wd_1_87) rfl C.2.2.2.2.2.1 hP hD hS C.2.2.2.2.2.2.2 (fun _ => rfl) (nI_pos (by omega)) (nI_clamp (by omega)) (by show N * 1 ≤ _; omega) h1 h2 hd (fun a cA H1 hK hP hD hS => ?_)
  have e1 : s.vm.findClass _ = some cA := (hK.2 4 (cA, .boolean) rfl).2
  have e2 : s.vm.findClass _ = some (q 1) := (C.2.2.2.2.2.1.2 1 (q 1, .boolean) rfl).2
  have e3 : cA = q 1 := Option.some.inj (e1.symm.trans e2)
  subst e3
  exact k a H1 locs hP hD hS
theorem s_newaB (C : CX p s m args c cc nL own D (tyQ q) A) {n : Int32} (N : Nat) (hn : n = nI N) (hN : N < 100000) (h1 : kc + 1 ≤ R.cells) (h2 : ks + N ≤ R.slots) (hd : decode cc pc = .ok (.newarray .byte, 2)) (k : ∀ a : Nat, WG p l e R s m args below meth c D A (kc + 1) (ks + N) Q (ws ++ [(a, .inl (q 2, N, .inl (fun _ => 0)))]) (F0 m (pc + 2) ls (.ref a :: rest))) : WG p l e R s m args below meth c D A kc ks Q ws (F0 m pc ls (.int n :: rest)) := fun H locs hP hD hS => by
  subst hn
  refine va_newa (atype := .byte) (ty := .byte) (a0 := (N, .inl (fun _ => 0))) C.1 C.2.1 (C.2.2.2.2.1 _ wd_4_5) rfl C.2.2.2.2.2.1 hP hD hS C.2.2.2.2.2.2.2 (fun _ => rfl) (nI_pos (by omega)) (nI_clamp (by omega)) (by show N * 1 ≤ _; omega) h1 h2 hd (fun a cA H1 hK hP hD hS => ?_)
  have e1 : s.vm.findClass _ = some cA := (hK.2 4 (cA, .byte) rfl).2
  have e2 : s.vm.findClass _ = some (q 2) := (C.2.2.2.2.2.1.2 2 (q 2, .byte) rfl).2
  have e3 : cA = q 2 := Option.some.inj (e1.symm.trans e2)
  subst e3
  exact k a H1 locs hP hD hS
theorem s_newaL (C : CX p s m args c cc nL own D (tyQ q) A) {n : Int32} (N : Nat) (hn : n = nI N) (hN : N < 100000) (h1 : kc + 1 ≤ R.cells) (h2 : ks + N ≤ R.slots) (hd : decode cc pc = .ok (.newarray .long, 2)) (k : ∀ a : Nat, WG p l e R s m args below meth c D A (kc + 1) (ks + N) Q (ws ++ [(a, .inl (q 3, N, .inr (.inl (fun _ => 0))))]) (F0 m (pc + 2) ls (.ref a :: rest))) : WG p l e R s m args below meth c D A kc ks Q ws (F0 m pc ls (.int n :: rest)) := fun H locs hP hD hS => by
  subst hn
  refine va_newa (atype := .long) (ty := .long) (a0 := (N, .inr (.inl (fun _ => 0)))) C.1 C.2.1 (C.2.2.2.2.1 _ wd_1_34) rfl C.2.2.2.2.2.1 hP hD hS C.2.2.2.2.2.2.2 (fun _ => rfl) (nI_pos (by omega)) (nI_clamp (by omega)) (by show N * 8 ≤ _; omega) h1 h2 hd (fun a cA H1 hK hP hD hS => ?_)
  have e1 : s.vm.findClass _ = some cA := (hK.2 4 (cA, .long) rfl).2
  have e2 : s.vm.findClass _ = some (q 3) := (C.2.2.2.2.2.1.2 3 (q 3, .long) rfl).2
  have e3 : cA = q 3 := Option.some.inj (e1.symm.trans e2)
  subst e3
  exact k a H1 locs hP hD hS
theorem s_callN (C : CX p s m args c cc nL own D tys A) {y : MethodName} {cy : ByteArray} {nY fr lo kc2 ks2 index n b : Nat} {As : List Value} {Pw : va_W → Prop} (hM : MN l y cy nY fr lo kc2 ks2 D tys (.ref b :: As) wc Pw) (hcw : CN R own index y cy nY fr lo n) (isC : List Nat) (hC : isC.map (fun i => ws[i]?) = wc.map some) (hc : va_nd isC = true) (hn : As.length = n) (hsz : ls.size = nL) {st : List Value} (hst : st = As.reverse ++ .ref b :: rest) (hcat : (rest.map fun v => v.category).sum ≤ 8) (hd : decode cc pc = .ok (.invokespecial index, 3)) (h1 : kc + kc2 ≤ R.cells) (h2 : ks + ks2 ≤ R.slots) (k : ∀ w1 : va_W, Pw w1 → ∃ ws2, SubW ws wc w1 ws2 ∧ WG p l e R s m args below meth c D A (kc + kc2) (ks + ks2) Q ws2 (F0 m (pc + 3) ls rest)) : WG p l e R s m args below meth c D A kc ks Q ws (F0 m pc ls st) := by
  intro H locs hP hD hS
  have hf : ∀ {is : List Nat} {a b : va_W}, is.map (fun i => a[i]?) = b.map some → is.filterMap (fun i => a[i]?) = b := by
    intro is a b h
    have h1 : (is.map (fun i => a[i]?)).filterMap id = is.filterMap (fun i => a[i]?) := by rw [List.filterMap_map]; rfl
    rw [← h1, h, List.filterMap_map]
    show List.filterMap (fun x => some x) b = b
    exact List.filterMap_some
  have hPc := hP.sub isC (hf hC)
  have hDc := hD.sub isC hc hC
  have hFc : ∀ q, va_A wc H.size q → A q := fun q h => by
    rcases h with ⟨k, e, h⟩ | h
    · exact hDc.2 k (q, e) h
    · exact C.2.2.2.2.2.2.2 q (Nat.le_trans hS.1 h)
  subst hst
  obtain ⟨g1, g2, g3, g4, ⟨g5, g6, g7⟩, g8, g9, g10⟩ := hcw
  have cw : CallB R s args own index y cy nY none (Cond.code y cy nY none :: BIG) (rmN fr lo kc2 ks2) kc2 ks2 n ∧ y.name = "<init>" ∧ (Cond.instanceMethod y).before args s = true := by
    refine ⟨⟨rfl, rfl, g9, g10, bg_pay C.2.2.2.2.1 g4, List.mem_cons_self, C.2.2.2.2.1 _ g4, C.2.2.2.2.1 _ g3, ⟨g5, g6⟩, fun sig q => ?_, C.2.2.2.2.1 _ g1⟩, g8, C.2.2.2.2.1 _ g2⟩
    rw [q] at g7
    exact (Option.some.inj g7).symm
  refine va_callv (va_runI (As := As) (rest := rest) ⟨C.1, C.2.1, C.2.2.1, C.2.2.2.1, C.2.2.2.2.1⟩ (hM H.size) cw ⟨pre_blind, fun U hU hW => ⟨rfl, pre_at hU hW hPc C.2.2.2.2.2.1 C.2.2.2.2.2.2.1 hDc⟩⟩ rfl hn hsz rfl (lv_room hcat) hd ⟨h1, h2⟩) hS (fun q _ h => hFc q h) hFc (fun u t H1 locs1 ht hvm hw hB hz1 hk1 hS1 => ?_)
  obtain ⟨hP1, hK1, hD1⟩ := hB
  rw [ht] at hP1
  obtain ⟨ws2, hs, k2⟩ := k u hw
  obtain ⟨-, -, -, hback⟩ := hs D A H hP hD
  obtain ⟨hP2, hD2⟩ := hback H1 hFc hP1 hD1 hk1
  exact k2 H1 locs1 hP2 hD2 hS1
end SN
