/-! PURE PART: the record; a page is written to its block -/
def RNote (c3 c4 m10 m11 : Int32) (k6 k7 k8 m20 m21 m22 : Nat → Int32) (rr : Nat) : Prop :=
  c3 = m10 ∧ k6 = m20 ∧ k7 = m21 ∧ k8 = m22 ∧ ((c4 = 1 ∧ m11 = 0 ∧ rr = 0) ∨ (c4 = 0 ∧ m11 = 1 ∧ c3 = nI rr)) ∧ (∃ r, r ≤ 256 ∧ c3 = nI r) ∧ rr ≤ 256
theorem op_note0 {N nf nb b rr : Nat} {c m : St} {kind : Int32} (hk : kind = 0 ∨ kind = 1) (h1 : c.1 3 = nI rr) (h2 : m.1 10 = nI rr) (h6 : c.2.1 6 = m.2.1 20) (h7 : c.2.1 7 = m.2.1 21) (h8 : c.2.1 8 = m.2.1 22) (hrr : rr < 256) : ∃ r k6 k7 k8, pf_X0_note_b17 N nf nb kind (nI b) c = some (sG (sA (sA (sA c 6 k6) 7 k7) 8 k8) 3 (nI r)) ∧ pf_X7_record_b17 N kind (nI b) m = some (sG (sA (sA (sA (sG (sG m 8 (m.1 8 + (if kind = 0 then 1 else 0))) 9 (m.1 9 + kind)) 20 k6) 21 k7) 22 k8) 10 (nI r)) ∧ r ≤ rr + 1 := by
  have e31 : pf_X7_record_b17 N kind (nI b) m = pf_X7_record_b31 N kind (nI b) (if kind = 0 then 1 else 0) (m.1 8) m := by
    unfold pf_X7_record_b17
    rcases hk with e | e
    · rw [e, if_pos rfl, if_pos rfl]
    · rw [e, if_neg z1_ne, if_neg z1_ne]
  rw [e31]
  unfold pf_X0_note_b17 pf_X7_record_b31
  simp only [lt_]
  generalize hw : sG (sG m 8 (m.1 8 + (if kind = 0 then 1 else 0))) 9 ((sG m 8 (m.1 8 + (if kind = 0 then 1 else 0))).1 9 + kind) = w
  have hw10 : w.1 10 = nI rr := by rw [← hw]; exact h2
  have hw20 : w.2.1 20 = c.2.1 6 := by rw [← hw]; exact h6.symm
  have hw21 : w.2.1 21 = c.2.1 7 := by rw [← hw]; exact h7.symm
  have hw22 : w.2.1 22 = c.2.1 8 := by rw [← hw]; exact h8.symm
  have hw' : sG (sG m 8 (m.1 8 + (if kind = 0 then 1 else 0))) 9 (m.1 9 + kind) = w := hw
  have app : pf_X0_note_b68 N nf nb kind (nI b) c = some (sG (sA (sA (sA c 6 (upd (c.2.1 6) rr kind)) 7 (upd (c.2.1 7) rr (nI b))) 8 (upd (c.2.1 8) rr 1)) 3 (nI (rr + 1))) ∧ pf_X7_record_b94 N kind (nI b) w = some (sG (sA (sA (sA w 20 (upd (c.2.1 6) rr kind)) 21 (upd (c.2.1 7) rr (nI b))) 22 (upd (c.2.1 8) rr 1)) 10 (nI (rr + 1))) := by
    constructor
    · unfold pf_X0_note_b68
      simp only [lt_, sA_1, h1]
      rw [show (256 : Int32) = nI 256 from rfl, if_n (by omega) (by omega), if_neg (by omega), bI_n (by omega) (by decide), bI_n (by omega) (by decide), bI_n (by omega) (by decide), cl_n (by omega), show (1 : Int32) = nI 1 from rfl, nI_add]
      rfl
    · unfold pf_X7_record_b94
      simp only [lt_, sA_1, hw10]
      rw [bI_n (by omega) (by decide), bI_n (by omega) (by decide), bI_n (by omega) (by decide), cl_n (by omega), show (1 : Int32) = nI 1 from rfl, nI_add, hw20]
      show some (sG (sA (sA (sA w 20 (upd (c.2.1 6) rr kind)) 21 (upd (w.2.1 21) rr (nI b))) 22 (upd (w.2.1 22) rr (nI 1))) 10 (nI (rr + 1))) = _
      rw [hw21, hw22]
  rw [h1, hw10, hw']
  by_cases hz : rr = 0
  · subst hz
    rw [if_pos (show nI 0 - (1 : Int32) < 0 by decide), if_pos (show nI 0 - (1 : Int32) < 0 by decide)]
    exact ⟨1, _, _, _, app.1, app.2, by omega⟩
  · rw [show (1 : Int32) = nI 1 from rfl, pk_sub (by omega), if_neg (nI_pos (by omega)), if_neg (nI_pos (by omega))]
    simp only [bI_n (show rr - 1 < 256 by omega) (show 256 < 2 ^ 31 by decide), bI_n (show rr - 1 < 4000 by omega) (show 4000 < 2 ^ 31 by decide), cl_n (show rr - 1 < 2 ^ 31 by omega), hw20, hw21, hw22]
    by_cases hA : c.2.1 6 (rr - 1) = kind
    · rw [if_pos hA, if_pos hA]
      by_cases hB : c.2.1 7 (rr - 1) + c.2.1 8 (rr - 1) = nI b
      · rw [if_pos hB, if_pos hB]
        refine ⟨rr, c.2.1 6, c.2.1 7, upd (c.2.1 8) (rr - 1) (c.2.1 8 (rr - 1) + nI 1), ?_, ?_, by omega⟩
        · rw [sA_self, sA_self, sG_self _ _ (show (sA c 8 _).1 3 = nI rr from h1)]
        · rw [sA_same w 20 hw20, sA_same w 21 hw21, sG_self _ _ (show (sA w 22 _).1 10 = nI rr from hw10)]
      · rw [if_neg hB, if_neg hB]
        exact ⟨rr + 1, _, _, _, app.1, app.2, by omega⟩
    · rw [if_neg hA, if_neg hA]
      exact ⟨rr + 1, _, _, _, app.1, app.2, by omega⟩
theorem op_note {N nf nb b rr : Nat} {c m : St} {kind : Int32} (hk : kind = 0 ∨ kind = 1) (h : RNote (c.1 3) (c.1 4) (m.1 10) (m.1 11) (c.2.1 6) (c.2.1 7) (c.2.1 8) (m.2.1 20) (m.2.1 21) (m.2.1 22) rr) (hrr : rr < 256) : ∃ r k6 k7 k8, pf_X0_note N nf nb kind (nI b) c = some (sA (sA (sA (sG (sG c 3 (nI r)) 4 0) 6 k6) 7 k7) 8 k8) ∧ pf_X7_record N kind (nI b) m = some (sA (sA (sA (sG (sG (sG (sG m 11 1) 8 (m.1 8 + (if kind = 0 then 1 else 0))) 9 (m.1 9 + kind)) 10 (nI r)) 20 k6) 21 k7) 22 k8) ∧ r ≤ rr + 1 := by
  obtain ⟨h1, h6, h7, h8, hf, ⟨r0, hr0, hr1⟩, -⟩ := h
  have exC : ∀ (r : Nat) (k6 k7 k8 : Nat → Int32) (x : Int32), sG (sA (sA (sA (sG (sG c 3 x) 4 0) 6 k6) 7 k7) 8 k8) 3 (nI r) = sA (sA (sA (sG (sG c 3 (nI r)) 4 0) 6 k6) 7 k7) 8 k8 := by
    intro r k6 k7 k8 x
    refine st_ext (fun j => ?_) (fun j => rfl) rfl
    show (if j = 3 then nI r else if j = 4 then 0 else if j = 3 then x else c.1 j) = (if j = 4 then 0 else if j = 3 then nI r else c.1 j)
    by_cases a : j = 3
    · subst a; simp
    · simp [a]
  have exM : ∀ (r : Nat) (k6 k7 k8 : Nat → Int32) (x y z : Int32), sG (sA (sA (sA (sG (sG (sG (sG m 11 1) 10 x) 8 y) 9 z) 20 k6) 21 k7) 22 k8) 10 (nI r) = sA (sA (sA (sG (sG (sG (sG m 11 1) 8 y) 9 z) 10 (nI r)) 20 k6) 21 k7) 22 k8 := by
    intro r k6 k7 k8 x y z
    refine st_ext (fun j => ?_) (fun j => rfl) rfl
    show (if j = 10 then nI r else if j = 9 then z else if j = 8 then y else if j = 10 then x else if j = 11 then 1 else m.1 j) = (if j = 10 then nI r else if j = 9 then z else if j = 8 then y else if j = 11 then 1 else m.1 j)
    by_cases a : j = 10
    · subst a; simp
    · simp [a]
  unfold pf_X0_note pf_X7_record
  simp only [lt_]
  rcases hf with ⟨a1, a2, a3⟩ | ⟨a1, a2, a3⟩
  · subst a3
    rw [a1, a2, if_neg z1_ne, if_pos rfl]
    obtain ⟨r, k6, k7, k8, x1, x2, x3⟩ := op_note0 (N := N) (nf := nf) (nb := nb) (b := b) (rr := 0) (c := sG (sG c 3 0) 4 0) (m := sG (sG m 11 1) 10 0) hk rfl rfl h6 h7 h8 (by omega)
    exact ⟨r, k6, k7, k8, by rw [x1, exC], by rw [x2]; exact congrArg some (exM r k6 k7 k8 0 _ _), x3⟩
  · rw [a1, a2, if_pos rfl, if_neg z1_ne]
    obtain ⟨r, k6, k7, k8, x1, x2, x3⟩ := op_note0 (N := N) (nf := nf) (nb := nb) (b := b) (rr := rr) (c := c) (m := m) hk a3 (h1 ▸ a3) h6 h7 h8 hrr
    refine ⟨r, k6, k7, k8, ?_, ?_, x3⟩
    · rw [x1]
      have e0 : c = sG (sG c 3 (c.1 3)) 4 0 := by rw [sG_self c 3 rfl, sG_self c 4 a1]
      exact congrArg some (by
        have := exC r k6 k7 k8 (c.1 3)
        rw [← e0] at this
        exact this)
    · rw [x2]
      have e0 : m = sG (sG m 11 1) 10 (m.1 10) := by rw [sG_self m 11 a2, sG_self m 10 rfl]
      exact congrArg some (by
        have := exM r k6 k7 k8 (m.1 10) (m.1 8 + (if kind = 0 then 1 else 0)) (m.1 9 + kind)
        rw [← e0] at this
        exact this)
theorem RRec_note {c1 c2 c3 c4 m8 m9 m10 m11 d1 d2 n8 n9 : Int32} {k6 k7 k8 m20 m21 m22 j6 j7 j8 : Nat → Int32} {rr r : Nat} (h : RRec c1 c2 c3 c4 m8 m9 m10 m11 k6 k7 k8 m20 m21 m22 rr) (e1 : d1 = n8) (e2 : d2 = n9) (hr : r ≤ 256) : RRec d1 d2 (nI r) 0 n8 n9 (nI r) 1 j6 j7 j8 j6 j7 j8 r := ⟨e1, e2, rfl, rfl, rfl, rfl, Or.inr ⟨rfl, rfl, rfl⟩, ⟨r, hr, rfl⟩, hr⟩
theorem RRec.nt {c1 c2 c3 c4 m8 m9 m10 m11 : Int32} {k6 k7 k8 m20 m21 m22 : Nat → Int32} {rr : Nat} (h : RRec c1 c2 c3 c4 m8 m9 m10 m11 k6 k7 k8 m20 m21 m22 rr) : RNote c3 c4 m10 m11 k6 k7 k8 m20 m21 m22 rr := ⟨h.2.2.1, h.2.2.2.1, h.2.2.2.2.1, h.2.2.2.2.2.1, h.2.2.2.2.2.2.1, h.2.2.2.2.2.2.2.1, h.2.2.2.2.2.2.2.2⟩
-- a difference of sizes
theorem df_le {s t i : Nat} (hs : s < 2 ^ 30) (ht : t < 2 ^ 30) (hi : i < 2 ^ 30) : (nI s - nI t ≤ nI i) ↔ s - t ≤ i := by
  rw [Int32.le_iff_toInt_le, pk_sub_toInt hs ht, nI_toInt (by omega)]
  omega
theorem df_max {s t : Nat} (hs : s < 2 ^ 30) (ht : t < 2 ^ 30) : (if (0 : Int32) < nI s - nI t then nI s - nI t else 0) = nI (s - t) := by
  by_cases h : t < s
  · rw [if_pos (by rw [Int32.lt_iff_toInt_lt, pk_sub_toInt hs ht]; show (0 : Int) < _; omega), pk_sub (by omega)]
  · rw [if_neg (by rw [Int32.lt_iff_toInt_lt, pk_sub_toInt hs ht]; show ¬ (0 : Int) < _; omega), show s - t = 0 by omega]; rfl
theorem w_clear2 {N n0 a b : Nat} {f : Nat → Int64} (hn : 8 * n0 < 2 ^ 31) (hb : b ≤ 8 * n0) (ha : a < 2 ^ 31) (hN : b < a + N) (hN0 : 0 < N) : ∃ g, pf_X5_clear N n0 (nI a) (nI b) f = some g ∧ ∀ j, wbN g j = if a ≤ j ∧ j < b then 0 else wbN f j := by
  by_cases hab : a ≤ b
  · exact w_clear hn hb hab (by omega)
  · refine ⟨f, ?_, fun j => by rw [if_neg (by omega)]⟩
    unfold pf_X5_clear
    rw [if_neg (nI_pos ha), show nI n0 * (8 : Int32) = nI (n0 * 8) from pk_mul n0 8, if_n (by omega) (by omega), if_pos (by omega)]
    obtain ⟨k, rfl⟩ : ∃ k, N = k + 1 := ⟨N - 1, by omega⟩
    rw [pf_X5_clear_L19, if_n (by omega) (by omega), if_pos (by omega)]
theorem nar_b (x : Int32) : vp_nar .byte x &&& 255 = x &&& 255 := by rw [vp_nar_byte]; exact bp_b x
theorem m_disk_L {N f p b s t : Nat} {σ : St} (hs : s < 2 ^ 30) (ht : t < 2 ^ 30) (hp : p < 3072) (hf : f < 64) (hb : b < 512) (hfo : σ.2.1 5 p = nI f) : ∀ (d i n : Nat) (g : Nat → Int32), i + d = 64 → d < n → ∃ g', pf_X7_written_L64 N n (nI p) (nI b) (nI s - nI t) (nI i) (sA σ 16 g) = some (1, sA (sA σ 16 g') 7 (upd (σ.2.1 7) p (-1))) ∧ ∀ j, g' j &&& 255 = if 64 * b + i ≤ j ∧ j < 64 * b + 64 then (if s - t ≤ j - 64 * b then 0 else σ.2.1 15 (64 * f + (j - 64 * b)) &&& 255) else g j &&& 255 := by
  intro d
  induction d with
  | zero =>
    intro i n g hi hd
    obtain ⟨n, rfl⟩ : ∃ m, n = m + 1 := ⟨n - 1, by omega⟩
    rw [pf_X7_written_L64, show (64 : Int32) = nI 64 from rfl, if_n (by omega) (by omega), if_pos (by omega), bI_n hp (by decide), cl_n (by omega)]
    exact ⟨g, rfl, fun j => by rw [if_neg (by omega)]⟩
  | succ d ih =>
    intro i n g hi hd
    obtain ⟨n, rfl⟩ : ∃ m, n = m + 1 := ⟨n - 1, by omega⟩
    have hfo' : (sA σ 16 g).2.1 5 p = nI f := hfo
    rw [pf_X7_written_L64, show (64 : Int32) = nI 64 from rfl, if_n (by omega) (by omega), if_neg (by omega)]
    simp only [bI_n hp (show 3072 < 2 ^ 31 by decide), cl_n (show p < 2 ^ 31 by omega), hfo', pk_mul, nI_add]
    simp only [bI_n (show 64 * f + i < 4096 by omega) (show 4096 < 2 ^ 31 by decide), cl_n (show 64 * f + i < 2 ^ 31 by omega)]
    unfold pf_X7_written_b109
    simp only [lt_, bI_n (show 64 * b + i < 32768 by omega) (show 32768 < 2 ^ 31 by decide), cl_n (show 64 * b + i < 2 ^ 31 by omega), nI_1]
    have fin : ∀ x : Int32, x &&& 255 = (if s - t ≤ i then 0 else σ.2.1 15 (64 * f + i) &&& 255) → ∃ g', pf_X7_written_L64 N n (nI p) (nI b) (nI s - nI t) (nI (i + 1)) (sA (sA σ 16 g) 16 (upd ((sA σ 16 g).2.1 16) (64 * b + i) (vp_nar .byte x))) = some (1, sA (sA σ 16 g') 7 (upd (σ.2.1 7) p (-1))) ∧ ∀ j, g' j &&& 255 = if 64 * b + i ≤ j ∧ j < 64 * b + 64 then (if s - t ≤ j - 64 * b then 0 else σ.2.1 15 (64 * f + (j - 64 * b)) &&& 255) else g j &&& 255 := by
      intro x hx
      rw [sA_sA]
      obtain ⟨g', y1, y2⟩ := ih (i + 1) n (upd ((sA σ 16 g).2.1 16) (64 * b + i) (vp_nar .byte x)) (by omega) (by omega)
      refine ⟨g', y1, fun j => ?_⟩
      rw [y2 j]
      by_cases e : j = 64 * b + i
      · subst e
        rw [if_neg (show ¬ (64 * b + (i + 1) ≤ 64 * b + i ∧ 64 * b + i < 64 * b + 64) by omega), us_, nar_b, hx, if_pos (show 64 * b + i ≤ 64 * b + i ∧ 64 * b + i < 64 * b + 64 by omega), show 64 * b + i - 64 * b = i by omega]
      · by_cases h : 64 * b + (i + 1) ≤ j ∧ j < 64 * b + 64
        · rw [if_pos h, if_pos (show 64 * b + i ≤ j ∧ j < 64 * b + 64 by omega)]
        · rw [if_neg h, un e, if_neg (show ¬ (64 * b + i ≤ j ∧ j < 64 * b + 64) by omega)]
          rfl
    by_cases hc : s - t ≤ i
    · rw [if_pos ((df_le hs ht (by omega)).mpr hc)]
      exact fin 0 (by rw [if_pos hc]; rfl)
    · rw [if_neg (fun q => hc ((df_le hs ht (by omega)).mp q))]
      exact fin _ (by rw [if_neg hc]; rfl)
