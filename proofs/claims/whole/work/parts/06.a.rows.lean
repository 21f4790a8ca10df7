/-! PURE PART: lists in rows (Order, fill) -/
def RowIs (f : Nat → Int32) (c : Int32) (L : List Nat) : Prop := c = nI L.length ∧ ∀ (k x : Nat), L[k]? = some x → f k = nI x
theorem bI_n {β : Type} {i n : Nat} {k : Option β} (h : i < n) (hn : n < 2 ^ 31) : bI (nI i) n k = k := by
  unfold bI; rw [if_neg (nI_in h hn)]
theorem cl_n {n : Nat} (h : n < 2 ^ 31) : Int32.toNatClampNeg (nI n) = n := nI_clamp h
theorem if_n {α : Sort _} {a b : Nat} {x y : α} (ha : a < 2 ^ 31) (hb : b < 2 ^ 31) : (if nI a ≤ nI b then x else y) = if a ≤ b then x else y := by
  by_cases h : a ≤ b
  · rw [if_pos h, if_pos ((nI_leI ha hb).mpr h)]
  · rw [if_neg h, if_neg (fun q => h ((nI_leI ha hb).mp q))]
theorem il_n {α : Sort _} {a b : Nat} {x y : α} (ha : a < 2 ^ 31) (hb : b < 2 ^ 31) : (if nI a < nI b then x else y) = if a < b then x else y := by
  by_cases h : a < b
  · rw [if_pos h, if_pos ((nI_ltI ha hb).mpr h)]
  · rw [if_neg h, if_neg (fun q => h ((nI_ltI ha hb).mp q))]
theorem ie_n {α : Sort _} {a b : Nat} {x y : α} (ha : a < 2 ^ 31) (hb : b < 2 ^ 31) : (if nI a = nI b then x else y) = if a = b then x else y := by
  by_cases h : a = b
  · rw [if_pos h, if_pos (by rw [h])]
  · rw [if_neg h, if_neg (fun q => h ((nI_eq ha hb).mp q))]
theorem m1_ne {n : Nat} (h : n < 2 ^ 31) : ¬ nI n = (-1 : Int32) := fun q => by
  have h1 := congrArg Int32.toInt q
  rw [nI_toInt h] at h1
  have h2 : (-1 : Int32).toInt = -1 := by decide
  omega
theorem z1_ne : ¬ (1 : Int32) = 0 := by decide
theorem ri_nil {f : Nat → Int32} : RowIs f (nI 0) [] := ⟨rfl, fun k x h => by simp at h⟩
theorem ri_at {f : Nat → Int32} {c : Int32} {P S : List Nat} {x : Nat} (h : RowIs f c (P ++ x :: S)) : f P.length = nI x := h.2 P.length x (by simp)
theorem o_place_L {N n0 : Nat} {τ : (Nat → Int32) × Int32} {P S : List Nat} {x : Nat} (hR : RowIs τ.1 τ.2 (P ++ x :: S)) (hc : (P ++ x :: S).length ≤ n0) (hn : n0 < 2 ^ 31) (hb : ∀ y ∈ P ++ x :: S, y < 2 ^ 31) (hP : x ∉ P) : ∀ (T Q : List Nat) (n : Nat), P = Q ++ T → T.length < n → pf_X3_placeOf_L2 N n0 τ n (nI x) (nI Q.length) = some (nI P.length) := by
  have hl : (P ++ x :: S).length = P.length + S.length + 1 := by simp; omega
  intro T
  induction T with
  | nil =>
    intro Q n hQ hn1
    obtain ⟨n, rfl⟩ : ∃ m, n = m + 1 := ⟨n - 1, by simp at hn1; omega⟩
    have hQ : P = Q := by simpa using hQ
    subst hQ
    rw [pf_X3_placeOf_L2, hR.1, if_n (by omega) (by omega), if_neg (by omega), bI_n (by omega) hn, cl_n (by omega), ri_at hR, if_pos rfl]
  | cons y T ih =>
    intro Q n hQ hn1
    obtain ⟨n, rfl⟩ : ∃ m, n = m + 1 := ⟨n - 1, by simp at hn1; omega⟩
    have hyx : ¬ y = x := fun q => hP (by rw [hQ, q]; simp)
    have hpl : P.length = Q.length + T.length + 1 := by rw [hQ]; simp; omega
    have hy : y < 2 ^ 31 := hb y (by rw [hQ]; simp)
    have hx : x < 2 ^ 31 := hb x (by simp)
    have hat : τ.1 Q.length = nI y := hR.2 Q.length y (by rw [hQ]; simp)
    rw [pf_X3_placeOf_L2, hR.1, if_n (by omega) (by omega), if_neg (by omega), bI_n (by omega) hn, cl_n (by omega), hat, ie_n hy hx, if_neg hyx, nI_1]
    have := ih (Q ++ [y]) n (by rw [hQ]; simp) (by simp at hn1; omega)
    rw [List.length_append] at this
    exact this
theorem o_place {N n0 : Nat} {τ : (Nat → Int32) × Int32} {P S : List Nat} {x : Nat} (hR : RowIs τ.1 τ.2 (P ++ x :: S)) (hc : (P ++ x :: S).length ≤ n0) (hn : n0 < 2 ^ 31) (hb : ∀ y ∈ P ++ x :: S, y < 2 ^ 31) (hP : x ∉ P) (hN : n0 < N) : pf_X3_placeOf N n0 (nI x) τ = some (nI P.length) := by
  have hl : (P ++ x :: S).length = P.length + S.length + 1 := by simp; omega
  exact o_place_L hR hc hn hb hP P [] N rfl (by omega)
theorem bC_n {β : Type} {n0 n1 sp dp n : Nat} {k : Option β} (h0 : sp + n ≤ n0) (h1 : dp + n ≤ n1) (b0 : n0 < 2 ^ 31) (b1 : n1 < 2 ^ 31) : bC n0 n1 (nI sp) (nI dp) (nI n) k = k := by
  unfold bC
  rw [if_neg]
  rw [cl_n (by omega), cl_n (by omega), cl_n (by omega)]
  simp only [not_or]
  exact ⟨nI_pos (by omega), nI_pos (by omega), nI_pos (by omega), by omega, by omega⟩
theorem o_take {N n0 : Nat} {τ : (Nat → Int32) × Int32} {P S : List Nat} {x : Nat} (hR : RowIs τ.1 τ.2 (P ++ x :: S)) (hc : (P ++ x :: S).length ≤ n0) (hn : n0 < 2 ^ 31) (hb : ∀ y ∈ P ++ x :: S, y < 2 ^ 31) (hP : x ∉ P) (hN : n0 < N) : ∃ g : Nat → Int32, pf_X3_take N n0 (nI x) τ = some (g, nI (P ++ S).length) ∧ RowIs g (nI (P ++ S).length) (P ++ S) := by
  have hl : (P ++ x :: S).length = P.length + S.length + 1 := by simp; omega
  have hl2 : (P ++ S).length = P.length + S.length := by simp
  refine ⟨va_cpy τ.1 τ.1 (P.length + 1) P.length S.length, ?_, rfl, ?_⟩
  · unfold pf_X3_take
    rw [o_place hR hc hn hb hP hN]
    simp only [Option.bind, lt_]
    rw [if_neg (m1_ne (by omega)), hR.1, show (1 : Int32) = nI 1 from rfl, nI_add, pk_sub (by omega), pk_sub (by omega), bC_n (by omega) (by omega) hn hn, cl_n (by omega), cl_n (by omega), cl_n (by omega), pk_sub (by omega)]
    congr 3
    all_goals (try congr 1)
    all_goals omega
  · intro k y hk
    by_cases h1 : k < P.length
    · rw [pk_cpy_out (Or.inl h1)]
      rw [List.getElem?_append_left h1] at hk
      exact hR.2 k y (by rw [List.getElem?_append_left h1]; exact hk)
    · rw [List.getElem?_append_right (by omega)] at hk
      have hk2 : k - P.length < S.length := (List.getElem?_eq_some_iff.mp hk).1
      rw [pk_cpy_in (by omega) (by omega)]
      refine hR.2 _ y ?_
      rw [List.getElem?_append_right (by omega), show P.length + 1 + (k - P.length) - P.length = (k - P.length) + 1 by omega, List.getElem?_cons_succ]
      exact hk
theorem o_add {N n0 : Nat} {τ : (Nat → Int32) × Int32} {L : List Nat} {x : Nat} (hR : RowIs τ.1 τ.2 L) (hc : L.length < n0) (hn : n0 < 2 ^ 31) : ∃ g : Nat → Int32, pf_X3_addFront N n0 (nI x) τ = some (g, nI (L.length + 1)) ∧ RowIs g (nI (L.length + 1)) (x :: L) := by
  refine ⟨upd (va_cpy τ.1 τ.1 0 1 L.length) 0 (nI x), ?_, rfl, ?_⟩
  · unfold pf_X3_addFront
    rw [hR.1, if_n (by omega) (by omega), if_neg (by omega), show (0 : Int32) = nI 0 from rfl, show (1 : Int32) = nI 1 from rfl, bC_n (by omega) (by omega) hn hn]
    simp only [lt_]
    rw [bI_n (by omega) hn, cl_n (by omega), cl_n (by omega), cl_n (by omega), nI_add]
  · intro k y hk
    cases k with
    | zero => rw [pk_us]; simp at hk; rw [hk]
    | succ k =>
      rw [pk_un (by omega)]
      rw [List.getElem?_cons_succ] at hk
      have hk2 : k < L.length := (List.getElem?_eq_some_iff.mp hk).1
      rw [pk_cpy_in (by omega) (by omega)]
      exact hR.2 _ y (by rw [show 0 + (k + 1 - 1) = k by omega]; exact hk)
theorem o_last {N n0 : Nat} {τ : (Nat → Int32) × Int32} {L : List Nat} {x : Nat} (hR : RowIs τ.1 τ.2 (L ++ [x])) (hc : (L ++ [x]).length ≤ n0) (hn : n0 < 2 ^ 31) : pf_X3_last N n0 τ = some (nI x) := by
  have hl : (L ++ [x]).length = L.length + 1 := by simp
  unfold pf_X3_last pf_X3_at
  rw [hR.1, show (1 : Int32) = nI 1 from rfl, pk_sub (by omega), if_neg (nI_pos (by omega)), il_n (by omega) (by omega), if_pos (by omega), bI_n (by omega) hn, cl_n (by omega)]
  rw [show (L ++ [x]).length - 1 = L.length by omega, ri_at hR]
  rfl
theorem o_last0 {N n0 : Nat} {τ : (Nat → Int32) × Int32} (hR : RowIs τ.1 τ.2 []) : pf_X3_last N n0 τ = some (-1 : Int32) := by
  unfold pf_X3_last pf_X3_at
  rw [hR.1, if_pos (by decide)]
  rfl
theorem o_at {N n0 : Nat} {τ : (Nat → Int32) × Int32} {L : List Nat} {k x : Nat} (hR : RowIs τ.1 τ.2 L) (hk : L[k]? = some x) (hc : L.length ≤ n0) (hn : n0 < 2 ^ 31) : pf_X3_at N n0 (nI k) τ = some (nI x) := by
  have hk2 : k < L.length := (List.getElem?_eq_some_iff.mp hk).1
  unfold pf_X3_at
  rw [hR.1, if_neg (nI_pos (by omega)), il_n (by omega) (by omega), if_pos hk2, bI_n (by omega) hn, cl_n (by omega), hR.2 k x hk]
theorem o_atN {N n0 : Nat} {τ : (Nat → Int32) × Int32} {L : List Nat} {x : Int32} (hR : RowIs τ.1 τ.2 L) (hk : ¬ (0 ≤ x ∧ x < nI L.length)) : pf_X3_at N n0 x τ = some (-1 : Int32) := by
  unfold pf_X3_at
  by_cases h : x < 0
  · rw [if_pos h]
  · rw [if_neg h, if_neg (fun q => hk ⟨Int32.not_lt.mp h, by rw [← hR.1]; exact q⟩)]
theorem j_fill_L {N n0 : Nat} {v : Int32} (hn : n0 < 2 ^ 31) : ∀ (d k n : Nat) (f : Nat → Int32), k + d = n0 → d < n → pf_J7_fill_53178_L5 N n0 n v (nI k) (nI n0) f = some (fun j => if k ≤ j ∧ j < n0 then v else f j) := by
  intro d
  induction d with
  | zero =>
    intro k n f hk hd
    obtain ⟨n, rfl⟩ : ∃ m, n = m + 1 := ⟨n - 1, by omega⟩
    rw [pf_J7_fill_53178_L5, if_n (by omega) (by omega), if_pos (by omega)]
    congr 1; funext j; rw [if_neg (by omega)]
  | succ d ih =>
    intro k n f hk hd
    obtain ⟨n, rfl⟩ : ∃ m, n = m + 1 := ⟨n - 1, by omega⟩
    rw [pf_J7_fill_53178_L5, if_n (by omega) (by omega), if_neg (by omega), bI_n (by omega) hn, cl_n (by omega), nI_1]
    simp only [lt_]
    rw [ih (k + 1) n _ (by omega) (by omega)]
    congr 1; funext j
    by_cases h : j = k
    · subst h; rw [if_neg (by omega), pk_us, if_pos (by omega)]
    · rw [pk_un h]
      by_cases h2 : k ≤ j ∧ j < n0
      · rw [if_pos h2, if_pos (by omega)]
      · rw [if_neg h2, if_neg (by omega)]
theorem j_fill {N n0 : Nat} {v : Int32} {f : Nat → Int32} (hn : n0 < 2 ^ 31) (hN : n0 < N) : pf_J7_fill_53178 N n0 v f = some (fun j => if j < n0 then v else f j) := by
  unfold pf_J7_fill_53178
  rw [show (0 : Int32) = nI 0 from rfl, j_fill_L hn n0 0 N f (by omega) hN]
  congr 1; funext j
  simp
