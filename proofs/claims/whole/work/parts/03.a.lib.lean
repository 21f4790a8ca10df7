
abbrev St : Type := (Nat → Int32) × (Nat → Nat → Int32) × (Nat → Nat → Int64)
def sG (σ : St) (k : Nat) (x : Int32) : St := (fun j => if j = k then x else σ.1 j, σ.2.1, σ.2.2)
def sA (σ : St) (k : Nat) (f : Nat → Int32) : St := (σ.1, fun j => if j = k then f else σ.2.1 j, σ.2.2)
def sL (σ : St) (k : Nat) (f : Nat → Int64) : St := (σ.1, σ.2.1, fun j => if j = k then f else σ.2.2 j)
def lt_ {α β : Type} (e : α) (k : α → Option β) : Option β := k e
def bI {β : Type} (i : Int32) (n : Nat) (k : Option β) : Option β := if i < 0 ∨ n ≤ i.toNatClampNeg then none else k
def bZ {β : Type} (x : Int32) (k : Option β) : Option β := if vp_nar .boolean x = x then k else none
def bC {β : Type} (n0 n1 : Nat) (sp dp n : Int32) (k : Option β) : Option β := if sp < 0 ∨ dp < 0 ∨ n < 0 ∨ n0 < sp.toNatClampNeg + n.toNatClampNeg ∨ n1 < dp.toNatClampNeg + n.toNatClampNeg then none else k
theorem lt_some {α β : Type} {e : α} {k : α → Option β} {r : β} (h : lt_ e k = some r) : ∃ z, z = e ∧ k z = some r := ⟨e, rfl, h⟩
theorem bI_some {β : Type} {i : Int32} {n : Nat} {k : Option β} {r : β} (h : bI i n k = some r) : vp_in i n ∧ k = some r := by
  unfold bI at h
  by_cases c : i < 0 ∨ n ≤ i.toNatClampNeg
  · rw [if_pos c] at h; cases h
  · rw [if_neg c] at h; exact ⟨c, h⟩
theorem nar_z (x : Int32) : narrow .boolean (.int x) = .int (vp_nar .boolean x) := rfl
theorem bZ_some {β : Type} {x : Int32} {k : Option β} {r : β} (h : bZ x k = some r) : narrow .boolean (.int x) = .int x ∧ k = some r := by
  unfold bZ at h
  by_cases c : vp_nar .boolean x = x
  · rw [if_pos c] at h; exact ⟨by rw [nar_z, c], h⟩
  · rw [if_neg c] at h; cases h
theorem bC_some {β : Type} {n0 n1 : Nat} {sp dp n : Int32} {k : Option β} {r : β} (h : bC n0 n1 sp dp n k = some r) : (¬ sp < 0 ∧ ¬ dp < 0 ∧ ¬ n < 0 ∧ sp.toNatClampNeg + n.toNatClampNeg ≤ n0 ∧ dp.toNatClampNeg + n.toNatClampNeg ≤ n1) ∧ k = some r := by
  unfold bC at h
  by_cases c : sp < 0 ∨ dp < 0 ∨ n < 0 ∨ n0 < sp.toNatClampNeg + n.toNatClampNeg ∨ n1 < dp.toNatClampNeg + n.toNatClampNeg
  · rw [if_pos c] at h; cases h
  · rw [if_neg c] at h
    simp only [not_or, Nat.not_lt] at c
    exact ⟨c, h⟩
theorem bn_some {α β : Type} {o : Option α} {k : α → Option β} {r : β} (h : o.bind k = some r) : ∃ x, o = some x ∧ k x = some r := by
  cases o with
  | none => cases h
  | some x => exact ⟨x, rfl, h⟩
theorem it_t {β : Type} {c : Prop} {d : Decidable c} {a b : Option β} {r : β} (hc : c) (h : @ite _ c d a b = some r) : a = some r := by rw [if_pos hc] at h; exact h
theorem it_f {β : Type} {c : Prop} {d : Decidable c} {a b : Option β} {r : β} (hc : ¬ c) (h : @ite _ c d a b = some r) : b = some r := by rw [if_neg hc] at h; exact h
theorem rt_1 {α : Type} {a z : α} (h : some a = some z) : a = z := Option.some.inj h
theorem rt_2 {α β : Type} {a : α} {b : β} {z : α × β} (h : some (a, b) = some z) : a = z.1 ∧ b = z.2 := by cases h; exact ⟨rfl, rfl⟩
theorem tb_out {x : Int32} {n : Nat} (hn : n < 1000) (h : ∀ k : Nat, k ≤ n → x ≠ nI k) : x.toInt < 0 ∨ (n : Int) < x.toInt := by
  by_cases c : x.toInt < 0
  · exact Or.inl c
  · refine Or.inr (Int.not_le.mp fun q => ?_)
    have hx : ¬ x < 0 := fun q => c (by have := Int32.lt_iff_toInt_lt.mp q; simpa using this)
    obtain ⟨j, hj, e⟩ := nI_of hx
    rw [e, nI_toInt hj] at q
    exact h j (by omega) e

def tyQ (q : Nat → ClassId) : List (ClassId × FieldType) := [(q 0, .int), (q 1, .boolean), (q 2, .byte), (q 3, .long)]
/-- what stays the same through a method: the machine, its code, the words, the classes, which cells may change -/
def CX (p : Program) (s : State) (m : MethodId) (args : Array Value) (c : Code) (cc : ByteArray) (nL : Nat) (own : String) (D : va_G) (tys : List (ClassId × FieldType)) (A : Nat → Prop) : Prop :=
  p.tables.exec = Jvm.exec ∧ c.code = cc ∧ c.maxLocals = nL ∧ s.vm.findClass own = some m.cls ∧ (∀ w ∈ BIG, w.before args s = true) ∧ va_K D vwCl tys s ∧ nst s ∧ (∀ q : Nat, s.heap.size ≤ q → A q)
/-- W over any heap that holds a world -/
def WG (p : Program) (l : Launch) (e : Env) (R : Room) (s : State) (m : MethodId) (args : Array Value) (below : List Frame) (meth : Method) (c : Code) (D : va_G) (A : Nat → Prop) (kc ks : Nat) (Q : State → Prop) (ws : va_W) (g : JFrame) : Prop :=
  ∀ (H : Heap) (locs : List Loc), va_P D vwCl ws H → va_D A ws → va_S A s.heap H locs → W p l e R s m args below meth c H locs kc ks Q g
section SL
variable {p : Program} {l : Launch} {e : Env} {R : Room} {s : State} {m : MethodId} {args : Array Value} {below : List Frame} {meth : Method} {c : Code} {D : va_G} {A : Nat → Prop} {kc ks : Nat} {Q : State → Prop} {ws : va_W} {cc : ByteArray} {nL : Nat} {own : String} {tys : List (ClassId × FieldType)} {pc : Nat} {ls : Array Slot} {rest : List Value}
theorem s_eq {g g2 : JFrame} (h : g = g2) (k : WG p l e R s m args below meth c D A kc ks Q ws g2) : WG p l e R s m args below meth c D A kc ks Q ws g := h ▸ k

theorem s_iconst (C : CX p s m args c cc nL own D tys A) {n : Int} {v : Int32} (hd : decode cc pc = .ok (.iconst n, 1)) (hv : Int32.ofInt n = v) (k : WG p l e R s m args below meth c D A kc ks Q ws (F0 m (pc + 1) ls (.int v :: rest))) : WG p l e R s m args below meth c D A kc ks Q ws (F0 m pc ls rest) := fun H locs hP hD hS => lv_iconst C.1 C.2.1 hd hv (k H locs hP hD hS)
theorem s_bipush (C : CX p s m args c cc nL own D tys A) {n : Int} {v : Int32} (hd : decode cc pc = .ok (.bipush n, 2)) (hv : (Int8.ofInt n).toInt32 = v) (k : WG p l e R s m args below meth c D A kc ks Q ws (F0 m (pc + 2) ls (.int v :: rest))) : WG p l e R s m args below meth c D A kc ks Q ws (F0 m pc ls rest) := fun H locs hP hD hS => lv_bipush C.1 C.2.1 hd hv (k H locs hP hD hS)
theorem s_sipush (C : CX p s m args c cc nL own D tys A) {n : Int} {v : Int32} (hd : decode cc pc = .ok (.sipush n, 3)) (hv : (Int16.ofInt n).toInt32 = v) (k : WG p l e R s m args below meth c D A kc ks Q ws (F0 m (pc + 3) ls (.int v :: rest))) : WG p l e R s m args below meth c D A kc ks Q ws (F0 m pc ls rest) := fun H locs hP hD hS => lv_sipush C.1 C.2.1 hd hv (k H locs hP hD hS)
theorem s_lconst (C : CX p s m args c cc nL own D tys A) {n : Fin 2} {v : Int64} (hd : decode cc pc = .ok (.lconst n, 1)) (hv : Int64.ofNat (n : Nat) = v) (k : WG p l e R s m args below meth c D A kc ks Q ws (F0 m (pc + 1) ls (.long v :: rest))) : WG p l e R s m args below meth c D A kc ks Q ws (F0 m pc ls rest) := fun H locs hP hD hS => lv_lconst C.1 C.2.1 hd hv (k H locs hP hD hS)
theorem s_iload_n (C : CX p s m args c cc nL own D tys A) {kk : Fin 4} {i : Nat} {x : Int32} (hd : decode cc pc = .ok (.iload_n kk, 1)) (hi : (kk : Nat) = i) (hl : ls[i]? = some (.val (.int x))) (k : WG p l e R s m args below meth c D A kc ks Q ws (F0 m (pc + 1) ls (.int x :: rest))) : WG p l e R s m args below meth c D A kc ks Q ws (F0 m pc ls rest) := fun H locs hP hD hS => lv_iload_n C.1 C.2.1 hd hi hl (k H locs hP hD hS)
theorem s_iload (C : CX p s m args c cc nL own D tys A) {i : Nat} {x : Int32} (hd : decode cc pc = .ok (.iload i, 2)) (hl : ls[i]? = some (.val (.int x))) (k : WG p l e R s m args below meth c D A kc ks Q ws (F0 m (pc + 2) ls (.int x :: rest))) : WG p l e R s m args below meth c D A kc ks Q ws (F0 m pc ls rest) := fun H locs hP hD hS => lv_iload C.1 C.2.1 hd hl (k H locs hP hD hS)
theorem s_istore_n (C : CX p s m args c cc nL own D tys A) {kk : Fin 4} {i : Nat} {x : Int32} {lv lv2 : List (Nat × Value)} (hd : decode cc pc = .ok (.istore_n kk, 1)) (hi : (kk : Nat) = i) (h : lv_has ls nL lv) (hn : i < nL) (hl : (i, Value.int x) :: lv.filter (fun q => !(q.1 == i) && !(q.1 + 1 == i && q.2.category == 2)) = lv2) (k : ∀ ls : Array Slot, lv_has ls nL lv2 → WG p l e R s m args below meth c D A kc ks Q ws (F0 m (pc + 1) ls rest)) : WG p l e R s m args below meth c D A kc ks Q ws (F0 m pc ls (.int x :: rest)) := fun H locs hP hD hS => lv_istore_n C.1 C.2.1 hd hi h hn hl (fun ls hl => k ls hl H locs hP hD hS)
theorem s_istore (C : CX p s m args c cc nL own D tys A) {i : Nat} {x : Int32} {lv lv2 : List (Nat × Value)} (hd : decode cc pc = .ok (.istore i, 2)) (h : lv_has ls nL lv) (hn : i < nL) (hl : (i, Value.int x) :: lv.filter (fun q => !(q.1 == i) && !(q.1 + 1 == i && q.2.category == 2)) = lv2) (k : ∀ ls : Array Slot, lv_has ls nL lv2 → WG p l e R s m args below meth c D A kc ks Q ws (F0 m (pc + 2) ls rest)) : WG p l e R s m args below meth c D A kc ks Q ws (F0 m pc ls (.int x :: rest)) := fun H locs hP hD hS => lv_istore C.1 C.2.1 hd h hn hl (fun ls hl => k ls hl H locs hP hD hS)
theorem s_lload_n (C : CX p s m args c cc nL own D tys A) {kk : Fin 4} {i : Nat} {x : Int64} (hd : decode cc pc = .ok (.lload_n kk, 1)) (hi : (kk : Nat) = i) (hl : ls[i]? = some (.val (.long x))) (k : WG p l e R s m args below meth c D A kc ks Q ws (F0 m (pc + 1) ls (.long x :: rest))) : WG p l e R s m args below meth c D A kc ks Q ws (F0 m pc ls rest) := fun H locs hP hD hS => lv_lload_n C.1 C.2.1 hd hi hl (k H locs hP hD hS)
theorem s_lload (C : CX p s m args c cc nL own D tys A) {i : Nat} {x : Int64} (hd : decode cc pc = .ok (.lload i, 2)) (hl : ls[i]? = some (.val (.long x))) (k : WG p l e R s m args below meth c D A kc ks Q ws (F0 m (pc + 2) ls (.long x :: rest))) : WG p l e R s m args below meth c D A kc ks Q ws (F0 m pc ls rest) := fun H locs hP hD hS => lv_lload C.1 C.2.1 hd hl (k H locs hP hD hS)
theorem s_lstore_n (C : CX p s m args c cc nL own D tys A) {kk : Fin 4} {i : Nat} {x : Int64} {lv lv2 : List (Nat × Value)} (hd : decode cc pc = .ok (.lstore_n kk, 1)) (hi : (kk : Nat) = i) (h : lv_has ls nL lv) (hn : i + 1 < nL) (hl : (i, Value.long x) :: lv.filter (fun q => !(q.1 == i) && (!(q.1 == i + 1) && !(q.1 + 1 == i && q.2.category == 2))) = lv2) (k : ∀ ls : Array Slot, lv_has ls nL lv2 → WG p l e R s m args below meth c D A kc ks Q ws (F0 m (pc + 1) ls rest)) : WG p l e R s m args below meth c D A kc ks Q ws (F0 m pc ls (.long x :: rest)) := fun H locs hP hD hS => lv_lstore_n C.1 C.2.1 hd hi h hn hl (fun ls hl => k ls hl H locs hP hD hS)
theorem s_lstore (C : CX p s m args c cc nL own D tys A) {i : Nat} {x : Int64} {lv lv2 : List (Nat × Value)} (hd : decode cc pc = .ok (.lstore i, 2)) (h : lv_has ls nL lv) (hn : i + 1 < nL) (hl : (i, Value.long x) :: lv.filter (fun q => !(q.1 == i) && (!(q.1 == i + 1) && !(q.1 + 1 == i && q.2.category == 2))) = lv2) (k : ∀ ls : Array Slot, lv_has ls nL lv2 → WG p l e R s m args below meth c D A kc ks Q ws (F0 m (pc + 2) ls rest)) : WG p l e R s m args below meth c D A kc ks Q ws (F0 m pc ls (.long x :: rest)) := fun H locs hP hD hS => lv_lstore C.1 C.2.1 hd h hn hl (fun ls hl => k ls hl H locs hP hD hS)
theorem s_aload_n (C : CX p s m args c cc nL own D tys A) {kk : Fin 4} {i : Nat} {x : Nat} (hd : decode cc pc = .ok (.aload_n kk, 1)) (hi : (kk : Nat) = i) (hl : ls[i]? = some (.val (.ref x))) (k : WG p l e R s m args below meth c D A kc ks Q ws (F0 m (pc + 1) ls (.ref x :: rest))) : WG p l e R s m args below meth c D A kc ks Q ws (F0 m pc ls rest) := fun H locs hP hD hS => lv_aload_n C.1 C.2.1 hd hi hl (k H locs hP hD hS)
theorem s_aload (C : CX p s m args c cc nL own D tys A) {i : Nat} {x : Nat} (hd : decode cc pc = .ok (.aload i, 2)) (hl : ls[i]? = some (.val (.ref x))) (k : WG p l e R s m args below meth c D A kc ks Q ws (F0 m (pc + 2) ls (.ref x :: rest))) : WG p l e R s m args below meth c D A kc ks Q ws (F0 m pc ls rest) := fun H locs hP hD hS => lv_aload C.1 C.2.1 hd hl (k H locs hP hD hS)
theorem s_astore_n (C : CX p s m args c cc nL own D tys A) {kk : Fin 4} {i : Nat} {x : Nat} {lv lv2 : List (Nat × Value)} (hd : decode cc pc = .ok (.astore_n kk, 1)) (hi : (kk : Nat) = i) (h : lv_has ls nL lv) (hn : i < nL) (hl : (i, Value.ref x) :: lv.filter (fun q => !(q.1 == i) && !(q.1 + 1 == i && q.2.category == 2)) = lv2) (k : ∀ ls : Array Slot, lv_has ls nL lv2 → WG p l e R s m args below meth c D A kc ks Q ws (F0 m (pc + 1) ls rest)) : WG p l e R s m args below meth c D A kc ks Q ws (F0 m pc ls (.ref x :: rest)) := fun H locs hP hD hS => lv_astore_n C.1 C.2.1 hd hi h hn hl (fun ls hl => k ls hl H locs hP hD hS)
theorem s_astore (C : CX p s m args c cc nL own D tys A) {i : Nat} {x : Nat} {lv lv2 : List (Nat × Value)} (hd : decode cc pc = .ok (.astore i, 2)) (h : lv_has ls nL lv) (hn : i < nL) (hl : (i, Value.ref x) :: lv.filter (fun q => !(q.1 == i) && !(q.1 + 1 == i && q.2.category == 2)) = lv2) (k : ∀ ls : Array Slot, lv_has ls nL lv2 → WG p l e R s m args below meth c D A kc ks Q ws (F0 m (pc + 2) ls rest)) : WG p l e R s m args below meth c D A kc ks Q ws (F0 m pc ls (.ref x :: rest)) := fun H locs hP hD hS => lv_astore C.1 C.2.1 hd h hn hl (fun ls hl => k ls hl H locs hP hD hS)
theorem s_iinc (C : CX p s m args c cc nL own D tys A) {i : Nat} (kx : Nat) {n : Int} {x v : Int32} {lv lv2 : List (Nat × Value)} (hd : decode cc pc = .ok (.iinc i n, 3)) (h : lv_has ls nL lv) (hk : lv[kx]? = some (i, .int x)) (hv : x + Int32.ofInt n = v) (hn : i < nL) (hl : (i, Value.int v) :: lv.filter (fun q => !(q.1 == i) && !(q.1 + 1 == i && q.2.category == 2)) = lv2) (k : ∀ ls : Array Slot, lv_has ls nL lv2 → WG p l e R s m args below meth c D A kc ks Q ws (F0 m (pc + 3) ls rest)) : WG p l e R s m args below meth c D A kc ks Q ws (F0 m pc ls rest) := fun H locs hP hD hS => lv_iinc C.1 C.2.1 hd h hk hv hn hl (fun ls hl => k ls hl H locs hP hD hS)
theorem s_iadd (C : CX p s m args c cc nL own D tys A) {x y : Int32} (hd : decode cc pc = .ok (.iadd, 1))  (k : WG p l e R s m args below meth c D A kc ks Q ws (F0 m (pc + 1) ls (.int (x + y) :: rest))) : WG p l e R s m args below meth c D A kc ks Q ws (F0 m pc ls (.int y :: .int x :: rest)) := fun H locs hP hD hS => lv_iadd C.1 C.2.1 hd (k H locs hP hD hS)
theorem s_isub (C : CX p s m args c cc nL own D tys A) {x y : Int32} (hd : decode cc pc = .ok (.isub, 1))  (k : WG p l e R s m args below meth c D A kc ks Q ws (F0 m (pc + 1) ls (.int (x - y) :: rest))) : WG p l e R s m args below meth c D A kc ks Q ws (F0 m pc ls (.int y :: .int x :: rest)) := fun H locs hP hD hS => lv_isub C.1 C.2.1 hd (k H locs hP hD hS)
theorem s_imul (C : CX p s m args c cc nL own D tys A) {x y : Int32} (hd : decode cc pc = .ok (.imul, 1))  (k : WG p l e R s m args below meth c D A kc ks Q ws (F0 m (pc + 1) ls (.int (x * y) :: rest))) : WG p l e R s m args below meth c D A kc ks Q ws (F0 m pc ls (.int y :: .int x :: rest)) := fun H locs hP hD hS => lv_imul C.1 C.2.1 hd (k H locs hP hD hS)
theorem s_iand (C : CX p s m args c cc nL own D tys A) {x y : Int32} (hd : decode cc pc = .ok (.iand, 1))  (k : WG p l e R s m args below meth c D A kc ks Q ws (F0 m (pc + 1) ls (.int (x &&& y) :: rest))) : WG p l e R s m args below meth c D A kc ks Q ws (F0 m pc ls (.int y :: .int x :: rest)) := fun H locs hP hD hS => lv_iand C.1 C.2.1 hd (k H locs hP hD hS)
theorem s_ishl (C : CX p s m args c cc nL own D tys A) {x y : Int32} (hd : decode cc pc = .ok (.ishl, 1))  (k : WG p l e R s m args below meth c D A kc ks Q ws (F0 m (pc + 1) ls (.int (x <<< (y &&& 31)) :: rest))) : WG p l e R s m args below meth c D A kc ks Q ws (F0 m pc ls (.int y :: .int x :: rest)) := fun H locs hP hD hS => lv_ishl C.1 C.2.1 hd (k H locs hP hD hS)
theorem s_ishr (C : CX p s m args c cc nL own D tys A) {x y : Int32} (hd : decode cc pc = .ok (.ishr, 1))  (k : WG p l e R s m args below meth c D A kc ks Q ws (F0 m (pc + 1) ls (.int (x >>> (y &&& 31)) :: rest))) : WG p l e R s m args below meth c D A kc ks Q ws (F0 m pc ls (.int y :: .int x :: rest)) := fun H locs hP hD hS => lv_ishr C.1 C.2.1 hd (k H locs hP hD hS)
theorem s_idiv (C : CX p s m args c cc nL own D tys A) {x y : Int32} (hd : decode cc pc = .ok (.idiv, 1)) (hne : ¬ y = 0) (k : WG p l e R s m args below meth c D A kc ks Q ws (F0 m (pc + 1) ls (.int (x / y) :: rest))) : WG p l e R s m args below meth c D A kc ks Q ws (F0 m pc ls (.int y :: .int x :: rest)) := fun H locs hP hD hS => lv_idiv C.1 C.2.1 hd hne (k H locs hP hD hS)
theorem s_irem (C : CX p s m args c cc nL own D tys A) {x y : Int32} (hd : decode cc pc = .ok (.irem, 1)) (hne : ¬ y = 0) (k : WG p l e R s m args below meth c D A kc ks Q ws (F0 m (pc + 1) ls (.int (x - x / y * y) :: rest))) : WG p l e R s m args below meth c D A kc ks Q ws (F0 m pc ls (.int y :: .int x :: rest)) := fun H locs hP hD hS => lv_irem C.1 C.2.1 hd hne (k H locs hP hD hS)
theorem s_ladd (C : CX p s m args c cc nL own D tys A) {x y : Int64} (hd : decode cc pc = .ok (.ladd, 1))  (k : WG p l e R s m args below meth c D A kc ks Q ws (F0 m (pc + 1) ls (.long (x + y) :: rest))) : WG p l e R s m args below meth c D A kc ks Q ws (F0 m pc ls (.long y :: .long x :: rest)) := fun H locs hP hD hS => lv_ladd C.1 C.2.1 hd (k H locs hP hD hS)
theorem s_lmul (C : CX p s m args c cc nL own D tys A) {x y : Int64} (hd : decode cc pc = .ok (.lmul, 1))  (k : WG p l e R s m args below meth c D A kc ks Q ws (F0 m (pc + 1) ls (.long (x * y) :: rest))) : WG p l e R s m args below meth c D A kc ks Q ws (F0 m pc ls (.long y :: .long x :: rest)) := fun H locs hP hD hS => lv_lmul C.1 C.2.1 hd (k H locs hP hD hS)
theorem s_land (C : CX p s m args c cc nL own D tys A) {x y : Int64} (hd : decode cc pc = .ok (.land, 1))  (k : WG p l e R s m args below meth c D A kc ks Q ws (F0 m (pc + 1) ls (.long (x &&& y) :: rest))) : WG p l e R s m args below meth c D A kc ks Q ws (F0 m pc ls (.long y :: .long x :: rest)) := fun H locs hP hD hS => lv_land C.1 C.2.1 hd (k H locs hP hD hS)
theorem s_lor (C : CX p s m args c cc nL own D tys A) {x y : Int64} (hd : decode cc pc = .ok (.lor, 1))  (k : WG p l e R s m args below meth c D A kc ks Q ws (F0 m (pc + 1) ls (.long (x ||| y) :: rest))) : WG p l e R s m args below meth c D A kc ks Q ws (F0 m pc ls (.long y :: .long x :: rest)) := fun H locs hP hD hS => lv_lor C.1 C.2.1 hd (k H locs hP hD hS)
theorem s_lxor (C : CX p s m args c cc nL own D tys A) {x y : Int64} (hd : decode cc pc = .ok (.lxor, 1))  (k : WG p l e R s m args below meth c D A kc ks Q ws (F0 m (pc + 1) ls (.long (x ^^^ y) :: rest))) : WG p l e R s m args below meth c D A kc ks Q ws (F0 m pc ls (.long y :: .long x :: rest)) := fun H locs hP hD hS => lv_lxor C.1 C.2.1 hd (k H locs hP hD hS)
theorem s_lshl (C : CX p s m args c cc nL own D tys A) {x : Int64} {y : Int32} (hd : decode cc pc = .ok (.lshl, 1))  (k : WG p l e R s m args below meth c D A kc ks Q ws (F0 m (pc + 1) ls (.long (x <<< (y.toInt64 &&& 63)) :: rest))) : WG p l e R s m args below meth c D A kc ks Q ws (F0 m pc ls (.int y :: .long x :: rest)) := fun H locs hP hD hS => lv_lshl C.1 C.2.1 hd rfl (k H locs hP hD hS)
theorem s_lshr (C : CX p s m args c cc nL own D tys A) {x : Int64} {y : Int32} (hd : decode cc pc = .ok (.lshr, 1))  (k : WG p l e R s m args below meth c D A kc ks Q ws (F0 m (pc + 1) ls (.long (x >>> (y.toInt64 &&& 63)) :: rest))) : WG p l e R s m args below meth c D A kc ks Q ws (F0 m pc ls (.int y :: .long x :: rest)) := fun H locs hP hD hS => lv_lshr C.1 C.2.1 hd rfl (k H locs hP hD hS)
theorem s_lushr (C : CX p s m args c cc nL own D tys A) {x : Int64} {y : Int32} (hd : decode cc pc = .ok (.lushr, 1))  (k : WG p l e R s m args below meth c D A kc ks Q ws (F0 m (pc + 1) ls (.long (x.toUInt64 >>> (y.toInt64.toUInt64 &&& Int64.toUInt64 63)).toInt64 :: rest))) : WG p l e R s m args below meth c D A kc ks Q ws (F0 m pc ls (.int y :: .long x :: rest)) := fun H locs hP hD hS => lv_lushr C.1 C.2.1 hd rfl (k H locs hP hD hS)
theorem s_lcmp (C : CX p s m args c cc nL own D tys A) {x y : Int64} (hd : decode cc pc = .ok (.lcmp, 1))  (k : WG p l e R s m args below meth c D A kc ks Q ws (F0 m (pc + 1) ls (.int (lg_cmp x y) :: rest))) : WG p l e R s m args below meth c D A kc ks Q ws (F0 m pc ls (.long y :: .long x :: rest)) := fun H locs hP hD hS => W.lcmp C.1 C.2.1 hd (k H locs hP hD hS)
theorem s_i2l (C : CX p s m args c cc nL own D tys A) {x : Int32} (hd : decode cc pc = .ok (.i2l, 1))  (k : WG p l e R s m args below meth c D A kc ks Q ws (F0 m (pc + 1) ls (.long x.toInt64 :: rest))) : WG p l e R s m args below meth c D A kc ks Q ws (F0 m pc ls (.int x :: rest)) := fun H locs hP hD hS => lv_i2l C.1 C.2.1 hd rfl (k H locs hP hD hS)
theorem s_l2i (C : CX p s m args c cc nL own D tys A) {x : Int64} (hd : decode cc pc = .ok (.l2i, 1))  (k : WG p l e R s m args below meth c D A kc ks Q ws (F0 m (pc + 1) ls (.int x.toInt32 :: rest))) : WG p l e R s m args below meth c D A kc ks Q ws (F0 m pc ls (.long x :: rest)) := fun H locs hP hD hS => lv_l2i C.1 C.2.1 hd rfl (k H locs hP hD hS)
theorem s_i2b (C : CX p s m args c cc nL own D tys A) {x : Int32} (hd : decode cc pc = .ok (.i2b, 1))  (k : WG p l e R s m args below meth c D A kc ks Q ws (F0 m (pc + 1) ls (.int x.toInt8.toInt32 :: rest))) : WG p l e R s m args below meth c D A kc ks Q ws (F0 m pc ls (.int x :: rest)) := fun H locs hP hD hS => lv_i2b C.1 C.2.1 hd rfl (k H locs hP hD hS)
theorem s_dup (C : CX p s m args c cc nL own D tys A) {va : Value} (hd : decode cc pc = .ok (.dup, 1)) (h1 : va.category = 1) (k : WG p l e R s m args below meth c D A kc ks Q ws (F0 m (pc + 1) ls (va :: va :: rest))) : WG p l e R s m args below meth c D A kc ks Q ws (F0 m pc ls (va :: rest)) := fun H locs hP hD hS => lv_dup C.1 C.2.1 hd h1 (k H locs hP hD hS)
theorem s_pop (C : CX p s m args c cc nL own D tys A) {va : Value} (hd : decode cc pc = .ok (.pop, 1)) (h1 : va.category = 1) (k : WG p l e R s m args below meth c D A kc ks Q ws (F0 m (pc + 1) ls rest)) : WG p l e R s m args below meth c D A kc ks Q ws (F0 m pc ls (va :: rest)) := fun H locs hP hD hS => lv_pop C.1 C.2.1 hd h1 (k H locs hP hD hS)
theorem s_dup2_11 (C : CX p s m args c cc nL own D tys A) {va vb : Value} (hd : decode cc pc = .ok (.dup2, 1)) (h1 : va.category = 1) (h2 : vb.category = 1) (k : WG p l e R s m args below meth c D A kc ks Q ws (F0 m (pc + 1) ls (va :: vb :: va :: vb :: rest))) : WG p l e R s m args below meth c D A kc ks Q ws (F0 m pc ls (va :: vb :: rest)) := fun H locs hP hD hS => lv_dup2_11 C.1 C.2.1 hd h1 h2 (k H locs hP hD hS)
theorem s_dup2_2 (C : CX p s m args c cc nL own D tys A) {va : Value} (hd : decode cc pc = .ok (.dup2, 1)) (h1 : va.category = 2) (k : WG p l e R s m args below meth c D A kc ks Q ws (F0 m (pc + 1) ls (va :: va :: rest))) : WG p l e R s m args below meth c D A kc ks Q ws (F0 m pc ls (va :: rest)) := fun H locs hP hD hS => lv_dup2_2 C.1 C.2.1 hd h1 (k H locs hP hD hS)
theorem s_ldc (C : CX p s m args c cc nL own D tys A) {i : Nat} {v : Int32} (hd : decode cc pc = .ok (.ldc i, 2)) (hw : Cond.constant own i v ∈ BIG) (k : WG p l e R s m args below meth c D A kc ks Q ws (F0 m (pc + 2) ls (.int v :: rest))) : WG p l e R s m args below meth c D A kc ks Q ws (F0 m pc ls rest) := fun H locs hP hD hS => lv_ldc C.1 C.2.1 C.2.2.2.1 (C.2.2.2.2.1 _ hw) hd (k H locs hP hD hS)
theorem s_ldc2 (C : CX p s m args c cc nL own D tys A) {i : Nat} {v : Int64} (hd : decode cc pc = .ok (.ldc2_w i, 3)) (hw : Cond.constantLong own i v ∈ BIG) (k : WG p l e R s m args below meth c D A kc ks Q ws (F0 m (pc + 3) ls (.long v :: rest))) : WG p l e R s m args below meth c D A kc ks Q ws (F0 m pc ls rest) := fun H locs hP hD hS => lv_ldc2 C.1 C.2.1 C.2.2.2.1 (C.2.2.2.2.1 _ hw) hd (k H locs hP hD hS)
theorem s_if_eq (C : CX p s m args c cc nL own D tys A) {x : Int32} {off : Int} {tgt : Nat} (hd : decode cc pc = .ok (.ifCond .eq off, 3)) (ht : (pc : Int) + off = (tgt : Int)) (kt : x = 0 → WG p l e R s m args below meth c D A kc ks Q ws (F0 m tgt ls rest)) (kf : ¬ x = 0 → WG p l e R s m args below meth c D A kc ks Q ws (F0 m (pc + 3) ls rest)) : WG p l e R s m args below meth c D A kc ks Q ws (F0 m pc ls (.int x :: rest)) := fun H locs hP hD hS => lv_if_eq C.1 C.2.1 hd ht (fun q => kt q H locs hP hD hS) (fun q => kf q H locs hP hD hS)
theorem s_icmp_eq (C : CX p s m args c cc nL own D tys A) {x y : Int32} {off : Int} {tgt : Nat} (hd : decode cc pc = .ok (.if_icmp .eq off, 3)) (ht : (pc : Int) + off = (tgt : Int)) (kt : x = y → WG p l e R s m args below meth c D A kc ks Q ws (F0 m tgt ls rest)) (kf : ¬ x = y → WG p l e R s m args below meth c D A kc ks Q ws (F0 m (pc + 3) ls rest)) : WG p l e R s m args below meth c D A kc ks Q ws (F0 m pc ls (.int y :: .int x :: rest)) := fun H locs hP hD hS => lv_icmp_eq C.1 C.2.1 hd ht (fun q => kt q H locs hP hD hS) (fun q => kf q H locs hP hD hS)
theorem s_if_ne (C : CX p s m args c cc nL own D tys A) {x : Int32} {off : Int} {tgt : Nat} (hd : decode cc pc = .ok (.ifCond .ne off, 3)) (ht : (pc : Int) + off = (tgt : Int)) (kt : ¬ x = 0 → WG p l e R s m args below meth c D A kc ks Q ws (F0 m tgt ls rest)) (kf : x = 0 → WG p l e R s m args below meth c D A kc ks Q ws (F0 m (pc + 3) ls rest)) : WG p l e R s m args below meth c D A kc ks Q ws (F0 m pc ls (.int x :: rest)) := fun H locs hP hD hS => lv_if_ne C.1 C.2.1 hd ht (fun q => kt q H locs hP hD hS) (fun q => kf q H locs hP hD hS)
theorem s_icmp_ne (C : CX p s m args c cc nL own D tys A) {x y : Int32} {off : Int} {tgt : Nat} (hd : decode cc pc = .ok (.if_icmp .ne off, 3)) (ht : (pc : Int) + off = (tgt : Int)) (kt : ¬ x = y → WG p l e R s m args below meth c D A kc ks Q ws (F0 m tgt ls rest)) (kf : x = y → WG p l e R s m args below meth c D A kc ks Q ws (F0 m (pc + 3) ls rest)) : WG p l e R s m args below meth c D A kc ks Q ws (F0 m pc ls (.int y :: .int x :: rest)) := fun H locs hP hD hS => lv_icmp_ne C.1 C.2.1 hd ht (fun q => kt q H locs hP hD hS) (fun q => kf q H locs hP hD hS)
theorem s_if_lt (C : CX p s m args c cc nL own D tys A) {x : Int32} {off : Int} {tgt : Nat} (hd : decode cc pc = .ok (.ifCond .lt off, 3)) (ht : (pc : Int) + off = (tgt : Int)) (kt : x < 0 → WG p l e R s m args below meth c D A kc ks Q ws (F0 m tgt ls rest)) (kf : ¬ x < 0 → WG p l e R s m args below meth c D A kc ks Q ws (F0 m (pc + 3) ls rest)) : WG p l e R s m args below meth c D A kc ks Q ws (F0 m pc ls (.int x :: rest)) := fun H locs hP hD hS => lv_if_lt C.1 C.2.1 hd ht (fun q => kt q H locs hP hD hS) (fun q => kf q H locs hP hD hS)
theorem s_icmp_lt (C : CX p s m args c cc nL own D tys A) {x y : Int32} {off : Int} {tgt : Nat} (hd : decode cc pc = .ok (.if_icmp .lt off, 3)) (ht : (pc : Int) + off = (tgt : Int)) (kt : x < y → WG p l e R s m args below meth c D A kc ks Q ws (F0 m tgt ls rest)) (kf : ¬ x < y → WG p l e R s m args below meth c D A kc ks Q ws (F0 m (pc + 3) ls rest)) : WG p l e R s m args below meth c D A kc ks Q ws (F0 m pc ls (.int y :: .int x :: rest)) := fun H locs hP hD hS => lv_icmp_lt C.1 C.2.1 hd ht (fun q => kt q H locs hP hD hS) (fun q => kf q H locs hP hD hS)
theorem s_if_ge (C : CX p s m args c cc nL own D tys A) {x : Int32} {off : Int} {tgt : Nat} (hd : decode cc pc = .ok (.ifCond .ge off, 3)) (ht : (pc : Int) + off = (tgt : Int)) (kt : 0 ≤ x → WG p l e R s m args below meth c D A kc ks Q ws (F0 m tgt ls rest)) (kf : ¬ 0 ≤ x → WG p l e R s m args below meth c D A kc ks Q ws (F0 m (pc + 3) ls rest)) : WG p l e R s m args below meth c D A kc ks Q ws (F0 m pc ls (.int x :: rest)) := fun H locs hP hD hS => lv_if_ge C.1 C.2.1 hd ht (fun q => kt q H locs hP hD hS) (fun q => kf q H locs hP hD hS)
theorem s_icmp_ge (C : CX p s m args c cc nL own D tys A) {x y : Int32} {off : Int} {tgt : Nat} (hd : decode cc pc = .ok (.if_icmp .ge off, 3)) (ht : (pc : Int) + off = (tgt : Int)) (kt : y ≤ x → WG p l e R s m args below meth c D A kc ks Q ws (F0 m tgt ls rest)) (kf : ¬ y ≤ x → WG p l e R s m args below meth c D A kc ks Q ws (F0 m (pc + 3) ls rest)) : WG p l e R s m args below meth c D A kc ks Q ws (F0 m pc ls (.int y :: .int x :: rest)) := fun H locs hP hD hS => lv_icmp_ge C.1 C.2.1 hd ht (fun q => kt q H locs hP hD hS) (fun q => kf q H locs hP hD hS)
theorem s_if_gt (C : CX p s m args c cc nL own D tys A) {x : Int32} {off : Int} {tgt : Nat} (hd : decode cc pc = .ok (.ifCond .gt off, 3)) (ht : (pc : Int) + off = (tgt : Int)) (kt : 0 < x → WG p l e R s m args below meth c D A kc ks Q ws (F0 m tgt ls rest)) (kf : ¬ 0 < x → WG p l e R s m args below meth c D A kc ks Q ws (F0 m (pc + 3) ls rest)) : WG p l e R s m args below meth c D A kc ks Q ws (F0 m pc ls (.int x :: rest)) := fun H locs hP hD hS => lv_if_gt C.1 C.2.1 hd ht (fun q => kt q H locs hP hD hS) (fun q => kf q H locs hP hD hS)
theorem s_icmp_gt (C : CX p s m args c cc nL own D tys A) {x y : Int32} {off : Int} {tgt : Nat} (hd : decode cc pc = .ok (.if_icmp .gt off, 3)) (ht : (pc : Int) + off = (tgt : Int)) (kt : y < x → WG p l e R s m args below meth c D A kc ks Q ws (F0 m tgt ls rest)) (kf : ¬ y < x → WG p l e R s m args below meth c D A kc ks Q ws (F0 m (pc + 3) ls rest)) : WG p l e R s m args below meth c D A kc ks Q ws (F0 m pc ls (.int y :: .int x :: rest)) := fun H locs hP hD hS => lv_icmp_gt C.1 C.2.1 hd ht (fun q => kt q H locs hP hD hS) (fun q => kf q H locs hP hD hS)
theorem s_if_le (C : CX p s m args c cc nL own D tys A) {x : Int32} {off : Int} {tgt : Nat} (hd : decode cc pc = .ok (.ifCond .le off, 3)) (ht : (pc : Int) + off = (tgt : Int)) (kt : x ≤ 0 → WG p l e R s m args below meth c D A kc ks Q ws (F0 m tgt ls rest)) (kf : ¬ x ≤ 0 → WG p l e R s m args below meth c D A kc ks Q ws (F0 m (pc + 3) ls rest)) : WG p l e R s m args below meth c D A kc ks Q ws (F0 m pc ls (.int x :: rest)) := fun H locs hP hD hS => lv_if_le C.1 C.2.1 hd ht (fun q => kt q H locs hP hD hS) (fun q => kf q H locs hP hD hS)
theorem s_icmp_le (C : CX p s m args c cc nL own D tys A) {x y : Int32} {off : Int} {tgt : Nat} (hd : decode cc pc = .ok (.if_icmp .le off, 3)) (ht : (pc : Int) + off = (tgt : Int)) (kt : x ≤ y → WG p l e R s m args below meth c D A kc ks Q ws (F0 m tgt ls rest)) (kf : ¬ x ≤ y → WG p l e R s m args below meth c D A kc ks Q ws (F0 m (pc + 3) ls rest)) : WG p l e R s m args below meth c D A kc ks Q ws (F0 m pc ls (.int y :: .int x :: rest)) := fun H locs hP hD hS => lv_icmp_le C.1 C.2.1 hd ht (fun q => kt q H locs hP hD hS) (fun q => kf q H locs hP hD hS)
theorem s_goto (C : CX p s m args c cc nL own D tys A) {off : Int} {tgt : Nat} (hd : decode cc pc = .ok (.goto off, 3)) (ht : (pc : Int) + off = (tgt : Int)) (k : WG p l e R s m args below meth c D A kc ks Q ws (F0 m tgt ls rest)) : WG p l e R s m args below meth c D A kc ks Q ws (F0 m pc ls rest) := fun H locs hP hD hS => lv_goto C.1 C.2.1 hd ht (k H locs hP hD hS)
theorem s_tblO (C : CX p s m args c cc nL own D tys A) {dflt lo hi : Int} {offs : Array Int} {len : Nat} {x : Int32} {tgt : Nat} (hd : decode cc pc = .ok (.tableswitch dflt lo hi offs, len)) (h : x.toInt < lo ∨ hi < x.toInt) (ht : (pc : Int) + dflt = (tgt : Int)) (k : WG p l e R s m args below meth c D A kc ks Q ws (F0 m tgt ls rest)) : WG p l e R s m args below meth c D A kc ks Q ws (F0 m pc ls (.int x :: rest)) := fun H locs hP hD hS => lv_tableOut C.1 C.2.1 hd h ht (k H locs hP hD hS)
theorem s_tblI (C : CX p s m args c cc nL own D tys A) {dflt lo hi : Int} {offs : Array Int} {len : Nat} {x v : Int32} {off : Int} {tgt : Nat} (hd : decode cc pc = .ok (.tableswitch dflt lo hi offs, len)) (ex : x = v) (h1 : ¬ v.toInt < lo) (h2 : ¬ hi < v.toInt) (ho : offs[(v.toInt - lo).toNat]? = some off) (ht : (pc : Int) + off = (tgt : Int)) (k : WG p l e R s m args below meth c D A kc ks Q ws (F0 m tgt ls rest)) : WG p l e R s m args below meth c D A kc ks Q ws (F0 m pc ls (.int x :: rest)) := fun H locs hP hD hS => lv_tableIn C.1 C.2.1 hd (by rw [ex]; exact h1) (by rw [ex]; exact h2) (by rw [ex]; exact ho) ht (k H locs hP hD hS)
theorem s_lkp (C : CX p s m args c cc nL own D tys A) {dflt : Int} {ps : Array (Int × Int)} {len : Nat} {x : Int32} {off : Int} {tgt : Nat} (hd : decode cc pc = .ok (.lookupswitch dflt ps, len)) (hp : (ps.toList.zip (ps.toList.drop 1)).all (fun (a, next) => a.1 < next.1) = true) (ho : Op.lookupswitch.offset ps.toList dflt x.toInt = off) (ht : (pc : Int) + off = (tgt : Int)) (k : WG p l e R s m args below meth c D A kc ks Q ws (F0 m tgt ls rest)) : WG p l e R s m args below meth c D A kc ks Q ws (F0 m pc ls (.int x :: rest)) := fun H locs hP hD hS => lv_lookup C.1 C.2.1 hd hp ho ht (k H locs hP hD hS)
theorem s_mmax (C : CX p s m args c cc nL own D tys A) {i : Nat} {x y : Int32} (hsz : ls.size = nL) (hd : decode cc pc = .ok (.invokestatic i, 3)) (hl : Cond.methodLink own i Lib.Math.max.name ∈ BIG) (hs : Cond.static Lib.Math.max.name ∈ BIG) (hi : Cond.initialized "java/lang/Math" ∈ BIG) (hc : Cond.code Lib.Math.max.name Lib.Math.max.code 2 (some .int) ∈ BIG) (hf : 1 ≤ R.frames) (hlo : (rest.map fun v => v.category).sum + 13 ≤ R.locals) (h1 : kc ≤ R.cells) (h2 : ks ≤ R.slots) (k : WG p l e R s m args below meth c D A kc ks Q ws (F0 m (pc + 3) ls (.int (if x < y then y else x) :: rest))) : WG p l e R s m args below meth c D A kc ks Q ws (F0 m pc ls (.int y :: .int x :: rest)) := fun H locs hP hD hS => va_mmax C.1 C.2.1 (C.2.2.1.trans hsz.symm) C.2.2.2.1 (C.2.2.2.2.1 _ hl) (C.2.2.2.2.1 _ hs) (C.2.2.2.2.1 _ hi) (C.2.2.2.2.1 _ hc) hf hlo h1 h2 hd (k H locs hP hD hS)
theorem s_mmin (C : CX p s m args c cc nL own D tys A) {i : Nat} {x y : Int32} (hsz : ls.size = nL) (hd : decode cc pc = .ok (.invokestatic i, 3)) (hl : Cond.methodLink own i Lib.Math.min.name ∈ BIG) (hs : Cond.static Lib.Math.min.name ∈ BIG) (hi : Cond.initialized "java/lang/Math" ∈ BIG) (hc : Cond.code Lib.Math.min.name Lib.Math.min.code 2 (some .int) ∈ BIG) (hf : 1 ≤ R.frames) (hlo : (rest.map fun v => v.category).sum + 13 ≤ R.locals) (h1 : kc ≤ R.cells) (h2 : ks ≤ R.slots) (k : WG p l e R s m args below meth c D A kc ks Q ws (F0 m (pc + 3) ls (.int (if y < x then y else x) :: rest))) : WG p l e R s m args below meth c D A kc ks Q ws (F0 m pc ls (.int y :: .int x :: rest)) := fun H locs hP hD hS => va_mmin C.1 C.2.1 (C.2.2.1.trans hsz.symm) C.2.2.2.1 (C.2.2.2.2.1 _ hl) (C.2.2.2.2.1 _ hs) (C.2.2.2.2.1 _ hi) (C.2.2.2.2.1 _ hc) hf hlo h1 h2 hd (k H locs hP hD hS)
end SL


def Pre (D : va_G) (tys : List (ClassId × FieldType)) (ws : va_W) (sz : Nat) (U : State) : Prop := U.heap.size = sz ∧ va_P D vwCl ws U.heap ∧ va_K D vwCl tys U ∧ nst U ∧ va_D (fun _ => True) ws
def Pst (D : va_G) (tys : List (ClassId × FieldType)) (ws ws' : va_W) (sz : Nat) (_ : Unit) (t : State) : Prop := va_P D vwCl ws' t.heap ∧ va_K D vwCl tys t ∧ va_D (va_A ws sz) ws'
def rmO (fr lo : Nat) : Room := { frames := fr, cells := 0, slots := 0, locals := lo }
theorem pre_blind {av : List Value} {D : va_G} {tys : List (ClassId × FieldType)} {ws : va_W} {sz : Nat} : FrameBlind (va_Pc av (Pre D tys ws sz)) := fun a U g mk q => by
  obtain ⟨q0, q1, qP, qK, qN, qD⟩ := q
  exact ⟨q0, q1, qP, va_K.moved (u := U) (U := U.calling g mk a) (Vm.Alike.refl U.vm) qK, nst.same (s := U) (U := U.calling g mk a) rfl qN, qD⟩
theorem pre_at {D : va_G} {tys : List (ClassId × FieldType)} {ws : va_W} {s U : State} {H : Heap} {A : Nat → Prop} (hU : U.heap = H) (hW : s.WarmedH U.vm) (hP : va_P D vwCl ws H) (hK : va_K D vwCl tys s) (hN : nst s) (hD : va_D A ws) : Pre D tys ws H.size U := ⟨by rw [hU], by rw [hU]; exact hP, va_K.moved hW.alike hK, hN.warm hW, hD.weaken (fun _ _ _ _ => trivial)⟩

def MI (l : Launch) (y : MethodName) (cc : ByteArray) (nL : Nat) (ret : Option FieldType) (fr lo : Nat) (D : va_G) (tys : List (ClassId × FieldType)) (av : List Value) (ws ws2 : va_W) (r : Int32) : Prop := ∀ sz : Nat, Met l y (Cond.code y cc nL ret :: BIG) (rmO fr lo) (va_Pc av (Pre D tys ws sz)) (va_Qi (fun (r2 : Int32) (_ : Unit) => r2 = r) (Pst D tys ws ws2 sz) (va_A ws sz)) 0 0 (va_A ws sz)
theorem MI.of {l : Launch} {y : MethodName} {cc : ByteArray} {nL : Nat} {ty : FieldType} {fr lo : Nat} {D : va_G} {tys : List (ClassId × FieldType)} {av : List Value} {ws ws2 : va_W} {r : Int32} (hy : plainName y.cls = true) (hav : (lg_sl av).length ≤ nL)
    (body : ∀ (p : Program) (e : Env) (s : State) (m : MethodId) (args : Array Value) (below : List Frame) (meth : Method) (c : Code) (Q : State → Prop) (A : Nat → Prop), CX p s m args c cc nL y.cls D tys A → (∀ (pc : Nat) (ls : Array Slot) (w : va_W) (v : Int32), decode cc pc = .ok (.ireturn, 1) → narrow ty (.int v) = .int v → v = r → w = ws2 → WG p l e (rmO fr lo) s m args below meth c D A 0 0 Q w (F0 m pc ls [.int v])) → ∀ ls : Array Slot, lv_has ls nL (lv_args 0 av) → WG p l e (rmO fr lo) s m args below meth c D A 0 0 Q ws (F0 m 0 ls [])) : MI l y cc nL (some ty) fr lo D tys av ws ws2 r := by
  intro sz
  refine Met.ofW (cc := cc) (maxL := nL) (ret := some ty) hy rfl ?_
  intro p e s m args below meth c s₁ B hml hv
  obtain ⟨rfl, hsz, hP, hK, hN, hD0⟩ := hv
  have hts := atoms_spec (ws := Cond.code y cc nL (some ty) :: BIG) B.pre
  have hown : s.vm.findClass y.cls = some m.cls := findClass_of_methodNamed B.named
  have hlocks := B.notSynchronized
  subst hsz
  have hD := hD0.self (sz := s.heap.size)
  have hl := lv_entry av (n := nL) hav
  rw [lg_entry_eq]
  generalize (lg_sl av ++ List.replicate (nL - (lg_sl av).length) Slot.unset).toArray = ls at hl ⊢
  have C : CX p s m av.toArray c cc nL y.cls D tys (va_A ws s.heap.size) := ⟨B.exec, B.bytes, hml, hown, fun w h => hts w (List.mem_cons_of_mem _ h), hK, hN, fun q h => Or.inr h⟩
  refine body p e s m av.toArray below meth c _ _ C ?_ ls hl s.heap [] hP hD va_S.rf
  intro pc ls w v hd hn er ew H locs hP hD hS
  subst er; subst ew
  exact W.zret (v := v) C.1 C.2.1 B.returns hn (fun t ht hW => ⟨⟨v, (), rfl, rfl, by rw [ht]; exact hP, va_K.moved hW.alike hK, hD⟩, hS.F ht⟩) hS.2.2 hd
def ML (l : Launch) (y : MethodName) (cc : ByteArray) (nL : Nat) (ret : Option FieldType) (fr lo : Nat) (D : va_G) (tys : List (ClassId × FieldType)) (av : List Value) (ws ws2 : va_W) (r : Int64) : Prop := ∀ sz : Nat, Met l y (Cond.code y cc nL ret :: BIG) (rmO fr lo) (va_Pc av (Pre D tys ws sz)) (va_Ql (fun (r2 : Int64) (_ : Unit) => r2 = r) (Pst D tys ws ws2 sz) (va_A ws sz)) 0 0 (va_A ws sz)
theorem ML.of {l : Launch} {y : MethodName} {cc : ByteArray} {nL : Nat} {fr lo : Nat} {D : va_G} {tys : List (ClassId × FieldType)} {av : List Value} {ws ws2 : va_W} {r : Int64} (hy : plainName y.cls = true) (hav : (lg_sl av).length ≤ nL)
    (body : ∀ (p : Program) (e : Env) (s : State) (m : MethodId) (args : Array Value) (below : List Frame) (meth : Method) (c : Code) (Q : State → Prop) (A : Nat → Prop), CX p s m args c cc nL y.cls D tys A → (∀ (pc : Nat) (ls : Array Slot) (w : va_W) (v : Int64), decode cc pc = .ok (.lreturn, 1) → v = r → w = ws2 → WG p l e (rmO fr lo) s m args below meth c D A 0 0 Q w (F0 m pc ls [.long v])) → ∀ ls : Array Slot, lv_has ls nL (lv_args 0 av) → WG p l e (rmO fr lo) s m args below meth c D A 0 0 Q ws (F0 m 0 ls [])) : ML l y cc nL (some .long) fr lo D tys av ws ws2 r := by
  intro sz
  refine Met.ofW (cc := cc) (maxL := nL) (ret := some .long) hy rfl ?_
  intro p e s m args below meth c s₁ B hml hv
  obtain ⟨rfl, hsz, hP, hK, hN, hD0⟩ := hv
  have hts := atoms_spec (ws := Cond.code y cc nL (some .long) :: BIG) B.pre
  have hown : s.vm.findClass y.cls = some m.cls := findClass_of_methodNamed B.named
  have hlocks := B.notSynchronized
  subst hsz
  have hD := hD0.self (sz := s.heap.size)
  have hl := lv_entry av (n := nL) hav
  rw [lg_entry_eq]
  generalize (lg_sl av ++ List.replicate (nL - (lg_sl av).length) Slot.unset).toArray = ls at hl ⊢
  have C : CX p s m av.toArray c cc nL y.cls D tys (va_A ws s.heap.size) := ⟨B.exec, B.bytes, hml, hown, fun w h => hts w (List.mem_cons_of_mem _ h), hK, hN, fun q h => Or.inr h⟩
  refine body p e s m av.toArray below meth c _ _ C ?_ ls hl s.heap [] hP hD va_S.rf
  intro pc ls w v hd er ew H locs hP hD hS
  subst er; subst ew
  exact W.lret (v := v) C.1 C.2.1 B.returns (fun t ht hW => ⟨⟨v, (), rfl, rfl, by rw [ht]; exact hP, va_K.moved hW.alike hK, hD⟩, hS.F ht⟩) hS.2.2 hd
def MV (l : Launch) (y : MethodName) (cc : ByteArray) (nL : Nat) (ret : Option FieldType) (fr lo : Nat) (D : va_G) (tys : List (ClassId × FieldType)) (av : List Value) (ws ws2 : va_W) : Prop := ∀ sz : Nat, Met l y (Cond.code y cc nL ret :: BIG) (rmO fr lo) (va_Pc av (Pre D tys ws sz)) (va_Qv (fun (_ : Unit) => True) (Pst D tys ws ws2 sz) (va_A ws sz)) 0 0 (va_A ws sz)
theorem MV.of {l : Launch} {y : MethodName} {cc : ByteArray} {nL : Nat} {fr lo : Nat} {D : va_G} {tys : List (ClassId × FieldType)} {av : List Value} {ws ws2 : va_W} (hy : plainName y.cls = true) (hav : (lg_sl av).length ≤ nL)
    (body : ∀ (p : Program) (e : Env) (s : State) (m : MethodId) (args : Array Value) (below : List Frame) (meth : Method) (c : Code) (Q : State → Prop) (A : Nat → Prop), CX p s m args c cc nL y.cls D tys A → (∀ (pc : Nat) (ls : Array Slot) (w : va_W), decode cc pc = .ok (.return_, 1) → w = ws2 → WG p l e (rmO fr lo) s m args below meth c D A 0 0 Q w (F0 m pc ls [])) → ∀ ls : Array Slot, lv_has ls nL (lv_args 0 av) → WG p l e (rmO fr lo) s m args below meth c D A 0 0 Q ws (F0 m 0 ls [])) : MV l y cc nL (none) fr lo D tys av ws ws2 := by
  intro sz
  refine Met.ofW (cc := cc) (maxL := nL) (ret := none) hy rfl ?_
  intro p e s m args below meth c s₁ B hml hv
  obtain ⟨rfl, hsz, hP, hK, hN, hD0⟩ := hv
  have hts := atoms_spec (ws := Cond.code y cc nL (none) :: BIG) B.pre
  have hown : s.vm.findClass y.cls = some m.cls := findClass_of_methodNamed B.named
  have hlocks := B.notSynchronized
  subst hsz
  have hD := hD0.self (sz := s.heap.size)
  have hl := lv_entry av (n := nL) hav
  rw [lg_entry_eq]
  generalize (lg_sl av ++ List.replicate (nL - (lg_sl av).length) Slot.unset).toArray = ls at hl ⊢
  have C : CX p s m av.toArray c cc nL y.cls D tys (va_A ws s.heap.size) := ⟨B.exec, B.bytes, hml, hown, fun w h => hts w (List.mem_cons_of_mem _ h), hK, hN, fun q h => Or.inr h⟩
  refine body p e s m av.toArray below meth c _ _ C ?_ ls hl s.heap [] hP hD va_S.rf
  intro pc ls w hd ew H locs hP hD hS
  subst ew
  exact W.vret C.1 C.2.1 B.returns (fun t ht hW => ⟨⟨(), rfl, trivial, by rw [ht]; exact hP, va_K.moved hW.alike hK, hD⟩, hS.F ht⟩) hS.2.2 hd

/-- a callee's world within the caller's: what is cut out, what comes back -/
def SubW (ws wc w1 ws2 : va_W) : Prop := ∀ (D : va_G) (A : Nat → Prop) (H : Heap), va_P D vwCl ws H → va_D A ws → va_P D vwCl wc H ∧ va_D A wc ∧ (∀ q, (∃ (k : Nat) (e : va_E), wc[k]? = some (q, e)) → A q) ∧
  ∀ (H1 : Heap), (∀ q, va_A wc H.size q → A q) → va_P D vwCl w1 H1 → va_D (va_A wc H.size) w1 → (∀ q : Nat, q < H.size → ¬ va_A wc H.size q → H1[q]? = H[q]?) → va_P D vwCl ws2 H1 ∧ va_D A ws2
theorem SubW.full (ws ws2 : va_W) : SubW ws ws ws2 ws2 := fun D A H hP hD => ⟨hP, hD, fun q ⟨k, e, h⟩ => hD.2 k (q, e) h, fun H1 hF hP1 hD1 _ => ⟨hP1, hD1.weaken (fun k q _ h => hF q.1 h)⟩⟩
theorem SubW.of {ws wc w1 ws2 wr : va_W} (isC isR pm : List Nat) (hC : isC.map (fun i => ws[i]?) = wc.map some) (hR : isR.map (fun i => ws[i]?) = wr.map some) (hc : va_nd isC = true) (hn : va_nd isR = true) (hdis : ∀ i ∈ isR, i ∉ isC) (hp : pm.map (fun i => (wr ++ w1)[i]?) = ws2.map some) (hpn : va_nd pm = true) : SubW ws wc w1 ws2 := by
  intro D A H hP hD
  have hf : ∀ {is : List Nat} {a b : va_W}, is.map (fun i => a[i]?) = b.map some → is.filterMap (fun i => a[i]?) = b := by
    intro is a b h
    have h1 : (is.map (fun i => a[i]?)).filterMap id = is.filterMap (fun i => a[i]?) := by rw [List.filterMap_map]; rfl
    rw [← h1, h, List.filterMap_map]
    show List.filterMap (fun x => some x) b = b
    exact List.filterMap_some
  refine ⟨hP.sub isC (hf hC), hD.sub isC hc hC, ?_, ?_⟩
  · rintro q ⟨k, e, h⟩
    exact (hD.sub isC hc hC).2 k (q, e) h
  · intro H1 hF hP1 hD1 hk
    obtain ⟨hP2, hD2⟩ := va_join hP hD isC isR hC hR hn hdis hk hF hP1 hD1
    exact ⟨hP2.sub pm (hf hp), hD2.sub pm hpn hp⟩
section SC
variable {p : Program} {l : Launch} {e : Env} {R : Room} {s : State} {m : MethodId} {args : Array Value} {below : List Frame} {meth : Method} {c : Code} {D : va_G} {A : Nat → Prop} {kc ks : Nat} {Q : State → Prop} {ws wc w1 ws2 : va_W} {cc : ByteArray} {nL : Nat} {own : String} {tys : List (ClassId × FieldType)} {pc : Nat} {ls : Array Slot} {rest : List Value}
variable {y : MethodName} {cy : ByteArray} {nY fr lo index n : Nat} {ret : Option FieldType} {CC : String} {b : Nat} {As : List Value}
/-- a call's words: link, instance method, selects, initialized, code; the callee's room within ours -/
def CV (R : Room) (own : String) (index : Nat) (y : MethodName) (cy : ByteArray) (nY : Nat) (ret : Option FieldType) (fr lo n : Nat) : Prop := Cond.methodLink own index y ∈ BIG ∧ Cond.instanceMethod y ∈ BIG ∧ Cond.selects y.cls y y ∈ BIG ∧ Cond.initialized y.cls ∈ BIG ∧ Cond.code y cy nY ret ∈ BIG ∧ (y.cls ≠ "java/lang/invoke/MethodHandle" ∧ y.cls ≠ "java/lang/invoke/VarHandle" ∧ (parseMethodDescriptor y.desc).map (fun d => d.parameters.length) = some n) ∧ fr + 1 ≤ R.frames ∧ 8 + (nY + 11) + lo ≤ R.locals
def CS (R : Room) (own : String) (index : Nat) (y : MethodName) (cy : ByteArray) (nY : Nat) (ret : Option FieldType) (fr lo n : Nat) : Prop := Cond.methodLink own index y ∈ BIG ∧ Cond.static y ∈ BIG ∧ Cond.initialized y.cls ∈ BIG ∧ Cond.code y cy nY ret ∈ BIG ∧ (y.cls ≠ "java/lang/invoke/MethodHandle" ∧ y.cls ≠ "java/lang/invoke/VarHandle" ∧ (parseMethodDescriptor y.desc).map (fun d => d.parameters.length) = some n) ∧ fr + 1 ≤ R.frames ∧ 8 + (nY + 11) + lo ≤ R.locals
theorem bg_pay {s : State} {args : Array Value} {w0 : Cond} (hts : ∀ w ∈ BIG, w.before args s = true) (h0 : w0 ∈ BIG) : ∀ w ∈ w0 :: BIG, ∀ (a' : Array Value) (U : State), s.WarmedH U.vm → w.before a' U = true := by
  have g : GoodIn BIG (w0 :: BIG) := by
    have g : ∀ w ∈ BIG, (w.onTables && w.keeps) = true ∨ ∃ ty, w = .arrayClass ty := fun w h => good_of_word (List.mem_filter.mp h).2
    intro w hw
    rcases List.mem_cons.mp hw with e | e
    · exact ⟨e ▸ h0, e ▸ g w0 h0⟩
    · exact ⟨e, g w e⟩
  exact pay_in hts g
theorem cv_b (hts : ∀ w ∈ BIG, w.before args s = true) (h : CV R own index y cy nY ret fr lo n) : CallW R s args own y.cls index y cy nY ret (Cond.code y cy nY ret :: BIG) (rmO fr lo) 0 0 n := by
  obtain ⟨h1, h2, h3, h4, h5, ⟨h6, h7, h8⟩, h9, h10⟩ := h
  refine ⟨⟨rfl, rfl, h9, h10, bg_pay hts h5, List.mem_cons_self, hts _ h5, hts _ h4, ⟨h6, h7⟩, fun sig q => ?_, hts _ h1⟩, hts _ h2, hts _ h3⟩
  rw [q] at h8
  exact (Option.some.inj h8).symm
theorem cs_b (hts : ∀ w ∈ BIG, w.before args s = true) (h : CS R own index y cy nY ret fr lo n) : CallB R s args own index y cy nY ret (Cond.code y cy nY ret :: BIG) (rmO fr lo) 0 0 n ∧ (Cond.static y).before args s = true := by
  obtain ⟨h1, h2, h4, h5, ⟨h6, h7, h8⟩, h9, h10⟩ := h
  refine ⟨⟨rfl, rfl, h9, h10, bg_pay hts h5, List.mem_cons_self, hts _ h5, hts _ h4, ⟨h6, h7⟩, fun sig q => ?_, hts _ h1⟩, hts _ h2⟩
  rw [q] at h8
  exact (Option.some.inj h8).symm

theorem s_callIV (C : CX p s m args c cc nL own D tys A) {r : Int32} (hM : MI l y cy nY ret fr lo D tys (.ref b :: As) wc w1 r) (hcw : CV R own index y cy nY ret fr lo n) (kr : Nat) {ci : Nat} {q : vw_C} {fs : List Value} (hcl : vwCl[ci]? = some q) (hq : q.1 = y.cls) (hrv : ws[kr]? = some (b, .inr (ci, fs))) (hs : SubW ws wc w1 ws2) (hn : As.length = n) (hsz : ls.size = nL) {st : List Value} (hst : st = As.reverse ++ .ref b :: rest) (hcat : (rest.map fun v => v.category).sum ≤ 8) (hd : decode cc pc = .ok (.invokevirtual index, 3)) (h1 : kc ≤ R.cells) (h2 : ks ≤ R.slots) (k : WG p l e R s m args below meth c D A kc ks Q ws2 (F0 m (pc + 3) ls (.int r :: rest))) : WG p l e R s m args below meth c D A kc ks Q ws (F0 m pc ls st) := by
  intro H locs hP hD hS
  obtain ⟨hPc, hDc, hin, hback⟩ := hs D A H hP hD
  have hFc : ∀ q, va_A wc H.size q → A q := fun q h => by
    rcases h with h | h
    · exact hin q h
    · exact C.2.2.2.2.2.2.2 q (Nat.le_trans hS.1 h)
  subst hst
  refine va_calli (va_runV (As := As) (rest := rest) ⟨C.1, C.2.1, C.2.2.1, C.2.2.2.1, C.2.2.2.2.1⟩ (hM H.size) (cv_b C.2.2.2.2.1 hcw) ⟨pre_blind, by have h9 := va_recv C.2.2.2.2.2.1 hP hcl hrv; rw [hq] at h9; exact h9, fun U hU hW => ⟨rfl, pre_at hU hW hPc C.2.2.2.2.2.1 C.2.2.2.2.2.2.1 hDc⟩⟩ rfl hn hsz rfl (lv_room hcat) hd ⟨h1, h2⟩) hS (fun q _ h => hFc q h) hFc (fun r2 u t H1 locs1 ht hvm hw hB hz1 hk1 hS1 => ?_)
  obtain ⟨hP1, hK1, hD1⟩ := hB
  rw [ht] at hP1
  obtain ⟨hP2, hD2⟩ := hback H1 hFc hP1 hD1 hk1
  subst hw
  exact k H1 locs1 hP2 hD2 hS1
theorem s_callIS (C : CX p s m args c cc nL own D tys A) {r : Int32} (hM : MI l y cy nY ret fr lo D tys As wc w1 r) (hcw : CS R own index y cy nY ret fr lo n) (hs : SubW ws wc w1 ws2) (hn : As.length = n) (hsz : ls.size = nL) {st : List Value} (hst : st = As.reverse ++ rest) (hcat : (rest.map fun v => v.category).sum ≤ 8) (hd : decode cc pc = .ok (.invokestatic index, 3)) (h1 : kc ≤ R.cells) (h2 : ks ≤ R.slots) (k : WG p l e R s m args below meth c D A kc ks Q ws2 (F0 m (pc + 3) ls (.int r :: rest))) : WG p l e R s m args below meth c D A kc ks Q ws (F0 m pc ls st) := by
  intro H locs hP hD hS
  obtain ⟨hPc, hDc, hin, hback⟩ := hs D A H hP hD
  have hFc : ∀ q, va_A wc H.size q → A q := fun q h => by
    rcases h with h | h
    · exact hin q h
    · exact C.2.2.2.2.2.2.2 q (Nat.le_trans hS.1 h)
  subst hst
  refine va_calli (va_runS (As := As) (rest := rest) ⟨C.1, C.2.1, C.2.2.1, C.2.2.2.1, C.2.2.2.2.1⟩ (hM H.size) (cs_b C.2.2.2.2.1 hcw) ⟨pre_blind, fun U hU hW => ⟨rfl, pre_at hU hW hPc C.2.2.2.2.2.1 C.2.2.2.2.2.2.1 hDc⟩⟩ rfl hn hsz rfl (lv_room hcat) hd ⟨h1, h2⟩) hS (fun q _ h => hFc q h) hFc (fun r2 u t H1 locs1 ht hvm hw hB hz1 hk1 hS1 => ?_)
  obtain ⟨hP1, hK1, hD1⟩ := hB
  rw [ht] at hP1
  obtain ⟨hP2, hD2⟩ := hback H1 hFc hP1 hD1 hk1
  subst hw
  exact k H1 locs1 hP2 hD2 hS1
theorem s_callLV (C : CX p s m args c cc nL own D tys A) {r : Int64} (hM : ML l y cy nY ret fr lo D tys (.ref b :: As) wc w1 r) (hcw : CV R own index y cy nY ret fr lo n) (kr : Nat) {ci : Nat} {q : vw_C} {fs : List Value} (hcl : vwCl[ci]? = some q) (hq : q.1 = y.cls) (hrv : ws[kr]? = some (b, .inr (ci, fs))) (hs : SubW ws wc w1 ws2) (hn : As.length = n) (hsz : ls.size = nL) {st : List Value} (hst : st = As.reverse ++ .ref b :: rest) (hcat : (rest.map fun v => v.category).sum ≤ 8) (hd : decode cc pc = .ok (.invokevirtual index, 3)) (h1 : kc ≤ R.cells) (h2 : ks ≤ R.slots) (k : WG p l e R s m args below meth c D A kc ks Q ws2 (F0 m (pc + 3) ls (.long r :: rest))) : WG p l e R s m args below meth c D A kc ks Q ws (F0 m pc ls st) := by
  intro H locs hP hD hS
  obtain ⟨hPc, hDc, hin, hback⟩ := hs D A H hP hD
  have hFc : ∀ q, va_A wc H.size q → A q := fun q h => by
    rcases h with h | h
    · exact hin q h
    · exact C.2.2.2.2.2.2.2 q (Nat.le_trans hS.1 h)
  subst hst
  refine va_calll (va_runV (As := As) (rest := rest) ⟨C.1, C.2.1, C.2.2.1, C.2.2.2.1, C.2.2.2.2.1⟩ (hM H.size) (cv_b C.2.2.2.2.1 hcw) ⟨pre_blind, by have h9 := va_recv C.2.2.2.2.2.1 hP hcl hrv; rw [hq] at h9; exact h9, fun U hU hW => ⟨rfl, pre_at hU hW hPc C.2.2.2.2.2.1 C.2.2.2.2.2.2.1 hDc⟩⟩ rfl hn hsz rfl (lv_room hcat) hd ⟨h1, h2⟩) hS (fun q _ h => hFc q h) hFc (fun r2 u t H1 locs1 ht hvm hw hB hz1 hk1 hS1 => ?_)
  obtain ⟨hP1, hK1, hD1⟩ := hB
  rw [ht] at hP1
  obtain ⟨hP2, hD2⟩ := hback H1 hFc hP1 hD1 hk1
  subst hw
  exact k H1 locs1 hP2 hD2 hS1
theorem s_callLS (C : CX p s m args c cc nL own D tys A) {r : Int64} (hM : ML l y cy nY ret fr lo D tys As wc w1 r) (hcw : CS R own index y cy nY ret fr lo n) (hs : SubW ws wc w1 ws2) (hn : As.length = n) (hsz : ls.size = nL) {st : List Value} (hst : st = As.reverse ++ rest) (hcat : (rest.map fun v => v.category).sum ≤ 8) (hd : decode cc pc = .ok (.invokestatic index, 3)) (h1 : kc ≤ R.cells) (h2 : ks ≤ R.slots) (k : WG p l e R s m args below meth c D A kc ks Q ws2 (F0 m (pc + 3) ls (.long r :: rest))) : WG p l e R s m args below meth c D A kc ks Q ws (F0 m pc ls st) := by
  intro H locs hP hD hS
  obtain ⟨hPc, hDc, hin, hback⟩ := hs D A H hP hD
  have hFc : ∀ q, va_A wc H.size q → A q := fun q h => by
    rcases h with h | h
    · exact hin q h
    · exact C.2.2.2.2.2.2.2 q (Nat.le_trans hS.1 h)
  subst hst
  refine va_calll (va_runS (As := As) (rest := rest) ⟨C.1, C.2.1, C.2.2.1, C.2.2.2.1, C.2.2.2.2.1⟩ (hM H.size) (cs_b C.2.2.2.2.1 hcw) ⟨pre_blind, fun U hU hW => ⟨rfl, pre_at hU hW hPc C.2.2.2.2.2.1 C.2.2.2.2.2.2.1 hDc⟩⟩ rfl hn hsz rfl (lv_room hcat) hd ⟨h1, h2⟩) hS (fun q _ h => hFc q h) hFc (fun r2 u t H1 locs1 ht hvm hw hB hz1 hk1 hS1 => ?_)
  obtain ⟨hP1, hK1, hD1⟩ := hB
  rw [ht] at hP1
  obtain ⟨hP2, hD2⟩ := hback H1 hFc hP1 hD1 hk1
  subst hw
  exact k H1 locs1 hP2 hD2 hS1
theorem s_callVV (C : CX p s m args c cc nL own D tys A) (hM : MV l y cy nY ret fr lo D tys (.ref b :: As) wc w1) (hcw : CV R own index y cy nY ret fr lo n) (kr : Nat) {ci : Nat} {q : vw_C} {fs : List Value} (hcl : vwCl[ci]? = some q) (hq : q.1 = y.cls) (hrv : ws[kr]? = some (b, .inr (ci, fs))) (hs : SubW ws wc w1 ws2) (hn : As.length = n) (hsz : ls.size = nL) {st : List Value} (hst : st = As.reverse ++ .ref b :: rest) (hcat : (rest.map fun v => v.category).sum ≤ 8) (hd : decode cc pc = .ok (.invokevirtual index, 3)) (h1 : kc ≤ R.cells) (h2 : ks ≤ R.slots) (k : WG p l e R s m args below meth c D A kc ks Q ws2 (F0 m (pc + 3) ls rest)) : WG p l e R s m args below meth c D A kc ks Q ws (F0 m pc ls st) := by
  intro H locs hP hD hS
  obtain ⟨hPc, hDc, hin, hback⟩ := hs D A H hP hD
  have hFc : ∀ q, va_A wc H.size q → A q := fun q h => by
    rcases h with h | h
    · exact hin q h
    · exact C.2.2.2.2.2.2.2 q (Nat.le_trans hS.1 h)
  subst hst
  refine va_callv (va_runV (As := As) (rest := rest) ⟨C.1, C.2.1, C.2.2.1, C.2.2.2.1, C.2.2.2.2.1⟩ (hM H.size) (cv_b C.2.2.2.2.1 hcw) ⟨pre_blind, by have h9 := va_recv C.2.2.2.2.2.1 hP hcl hrv; rw [hq] at h9; exact h9, fun U hU hW => ⟨rfl, pre_at hU hW hPc C.2.2.2.2.2.1 C.2.2.2.2.2.2.1 hDc⟩⟩ rfl hn hsz rfl (lv_room hcat) hd ⟨h1, h2⟩) hS (fun q _ h => hFc q h) hFc (fun u t H1 locs1 ht hvm hw hB hz1 hk1 hS1 => ?_)
  obtain ⟨hP1, hK1, hD1⟩ := hB
  rw [ht] at hP1
  obtain ⟨hP2, hD2⟩ := hback H1 hFc hP1 hD1 hk1
  skip
  exact k H1 locs1 hP2 hD2 hS1
theorem s_callVS (C : CX p s m args c cc nL own D tys A) (hM : MV l y cy nY ret fr lo D tys As wc w1) (hcw : CS R own index y cy nY ret fr lo n) (hs : SubW ws wc w1 ws2) (hn : As.length = n) (hsz : ls.size = nL) {st : List Value} (hst : st = As.reverse ++ rest) (hcat : (rest.map fun v => v.category).sum ≤ 8) (hd : decode cc pc = .ok (.invokestatic index, 3)) (h1 : kc ≤ R.cells) (h2 : ks ≤ R.slots) (k : WG p l e R s m args below meth c D A kc ks Q ws2 (F0 m (pc + 3) ls rest)) : WG p l e R s m args below meth c D A kc ks Q ws (F0 m pc ls st) := by
  intro H locs hP hD hS
  obtain ⟨hPc, hDc, hin, hback⟩ := hs D A H hP hD
  have hFc : ∀ q, va_A wc H.size q → A q := fun q h => by
    rcases h with h | h
    · exact hin q h
    · exact C.2.2.2.2.2.2.2 q (Nat.le_trans hS.1 h)
  subst hst
  refine va_callv (va_runS (As := As) (rest := rest) ⟨C.1, C.2.1, C.2.2.1, C.2.2.2.1, C.2.2.2.2.1⟩ (hM H.size) (cs_b C.2.2.2.2.1 hcw) ⟨pre_blind, fun U hU hW => ⟨rfl, pre_at hU hW hPc C.2.2.2.2.2.1 C.2.2.2.2.2.2.1 hDc⟩⟩ rfl hn hsz rfl (lv_room hcat) hd ⟨h1, h2⟩) hS (fun q _ h => hFc q h) hFc (fun u t H1 locs1 ht hvm hw hB hz1 hk1 hS1 => ?_)
  obtain ⟨hP1, hK1, hD1⟩ := hB
  rw [ht] at hP1
  obtain ⟨hP2, hD2⟩ := hback H1 hFc hP1 hD1 hk1
  skip
  exact k H1 locs1 hP2 hD2 hS1
end SC
