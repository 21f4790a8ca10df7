/-! PURE PART: bytes in long rows (Words) -/
def wbN (f : Nat → Int64) (k : Nat) : Nat := (f (k / 8)).toBitVec.toNat / 2 ^ (8 * (k % 8)) % 256
def lowb (x : Int32) : Nat := x.toBitVec.toNat % 256
theorem lowb_lt (x : Int32) : lowb x < 256 := Nat.mod_lt _ (by decide)
theorem wbN_lt (f : Nat → Int64) (k : Nat) : wbN f k < 256 := Nat.mod_lt _ (by decide)
theorem nb_bit (w : BitVec 64) (t j : Nat) : (w.toNat / 2 ^ t % 256).testBit j = (decide (j < 8) && w.getLsbD (t + j)) := by
  rw [show (256 : Nat) = 2 ^ 8 from rfl, Nat.testBit_mod_two_pow, Nat.testBit_div_two_pow, BitVec.testBit_toNat, Nat.add_comm j t]
theorem nb_255 (s i : Nat) : (255 * 2 ^ s).testBit i = (decide (s ≤ i) && decide (i < s + 8)) := by
  rw [Nat.testBit_mul_two_pow, show (255 : Nat) = 2 ^ 8 - 1 from rfl, Nat.testBit_two_pow_sub_one]
  by_cases h : s ≤ i
  · simp only [h, decide_true, Bool.true_and]
    congr 1
    exact propext ⟨fun q => by omega, fun q => by omega⟩
  · simp [h]
theorem wd_clr (w : BitVec 64) (s i : Nat) (hi : i < 64) : (w &&& ~~~(BitVec.ofNat 64 (255 * 2 ^ s))).getLsbD i = if s ≤ i ∧ i < s + 8 then false else w.getLsbD i := by
  rw [BitVec.getLsbD_and, BitVec.getLsbD_not, BitVec.getLsbD_ofNat, nb_255]
  by_cases h : s ≤ i ∧ i < s + 8
  · rw [if_pos h]; simp [hi, h.1, h.2]
  · rw [if_neg h]
    by_cases h1 : s ≤ i
    · have h2 : ¬ i < s + 8 := fun q => h ⟨h1, q⟩
      simp [hi, h2]
    · simp [hi, h1]
theorem wd_put (w : BitVec 64) (v s i : Nat) (hv : v < 256) (hi : i < 64) : ((w &&& ~~~(BitVec.ofNat 64 (255 * 2 ^ s))) ||| BitVec.ofNat 64 (v * 2 ^ s)).getLsbD i = if s ≤ i ∧ i < s + 8 then v.testBit (i - s) else w.getLsbD i := by
  rw [BitVec.getLsbD_or, wd_clr w s i hi, BitVec.getLsbD_ofNat, Nat.testBit_mul_two_pow]
  by_cases h : s ≤ i ∧ i < s + 8
  · rw [if_pos h, if_pos h]; simp [hi, h.1]
  · rw [if_neg h, if_neg h]
    by_cases h1 : s ≤ i
    · have h2 : 8 ≤ i - s := by omega
      have h3 : v.testBit (i - s) = false := Nat.testBit_lt_two_pow (Nat.lt_of_lt_of_le hv (Nat.pow_le_pow_right (by decide) h2 : 2 ^ 8 ≤ 2 ^ (i - s)))
      simp [h3]
    · simp [h1]
theorem nb_put (w : BitVec 64) (v a b : Nat) (hv : v < 256) (ha : a < 8) (hb : b < 8) : ((w &&& ~~~(BitVec.ofNat 64 (255 * 2 ^ (8 * a)))) ||| BitVec.ofNat 64 (v * 2 ^ (8 * a))).toNat / 2 ^ (8 * b) % 256 = if b = a then v else w.toNat / 2 ^ (8 * b) % 256 := by
  apply Nat.eq_of_testBit_eq
  intro j
  rw [nb_bit]
  by_cases hj : j < 8
  · rw [wd_put w v _ _ hv (by omega)]
    by_cases h : b = a
    · subst h
      rw [if_pos (by omega), if_pos rfl, show 8 * b + j - 8 * b = j by omega]; simp [hj]
    · rw [if_neg (by omega), if_neg h, nb_bit]
  · by_cases h : b = a
    · rw [if_pos h]
      have h3 : v.testBit j = false := Nat.testBit_lt_two_pow (Nat.lt_of_lt_of_le hv (Nat.pow_le_pow_right (by decide) (show 8 ≤ j by omega) : 2 ^ 8 ≤ 2 ^ j))
      simp [hj, h3]
    · rw [if_neg h, nb_bit]; simp [hj]
theorem nb_clr (w : BitVec 64) (a b : Nat) (ha : a < 8) (hb : b < 8) : (w &&& ~~~(BitVec.ofNat 64 (255 * 2 ^ (8 * a)))).toNat / 2 ^ (8 * b) % 256 = if b = a then 0 else w.toNat / 2 ^ (8 * b) % 256 := by
  have h := nb_put w 0 a b (by decide) ha hb
  rw [Nat.zero_mul] at h
  rw [← h]
  congr 3
  simp
theorem wbN_upd (f : Nat → Int64) (k j : Nat) (x : Int64) : wbN (vp_updL f (k / 8) x) j = if j / 8 = k / 8 then x.toBitVec.toNat / 2 ^ (8 * (j % 8)) % 256 else wbN f j := by
  unfold wbN
  by_cases h : j / 8 = k / 8
  · rw [if_pos h, h, pk_uLs]
  · rw [if_neg h, pk_uLn h]
theorem im_n {k : Nat} (hk : k < 2 ^ 31) : nI k / (8 : Int32) = nI (k / 8) ∧ (8 : Int32) * (nI k - nI k / (8 : Int32) * (8 : Int32)) = nI (8 * (k % 8)) := by
  have h : nI k / (8 : Int32) = nI (k / 8) := pk_div hk (by decide) (by decide)
  have h2 : nI k - nI k / (8 : Int32) * (8 : Int32) = nI (k % 8) := pk_rem hk (by decide) (by decide)
  exact ⟨h, by rw [h2]; exact pk_mul 8 (k % 8)⟩
theorem i_tb (n : Nat) : (nI n).toBitVec = BitVec.ofNat 32 n := rfl
theorem w_byteAt {N n0 k : Nat} {f : Nat → Int64} (hk : k < 8 * n0) (hn : 8 * n0 < 2 ^ 31) : pf_X5_byteAt N n0 (nI k) f = some (nI (wbN f k)) := by
  obtain ⟨h1, h2⟩ := im_n (k := k) (by omega)
  unfold pf_X5_byteAt
  rw [h2, h1, if_neg (nI_pos (by omega)), il_n (by omega) (by omega), if_pos (by omega), bI_n (by omega) (by omega), cl_n (by omega)]
  obtain ⟨m, hm, e⟩ := wb_of (f (k / 8))
  unfold wbN
  rw [e, wb_shr hm (by omega), lN_i, pk_and _ (m := 255) 8 (by decide), wb_tn hm, i_tb, BitVec.toNat_ofNat]
  congr 2
  show _ % 256 = _
  omega
theorem w_mask {a : Nat} (ha : a < 8) : (((255 : Int64) <<< (Int32.toInt64 (nI (8 * a)) &&& 63)) ^^^ (-1 : Int64)).toBitVec = ~~~(BitVec.ofNat 64 (255 * 2 ^ (8 * a))) := by
  have h : (255 : Int64) <<< (Int32.toInt64 (nI (8 * a)) &&& 63) = lN (255 * 2 ^ (8 * a)) := wb_shl 255 (by omega)
  rw [h, Int64.toBitVec_xor, wb_tb]
  show _ ^^^ BitVec.allOnes 64 = _
  rw [BitVec.xor_allOnes]
theorem w_low (x : Int32) : (Int32.toInt64 x) &&& (255 : Int64) = lN (lowb x) := by
  apply wb_inj
  apply BitVec.eq_of_toNat_eq
  unfold lowb
  rw [Int64.toBitVec_and, wb_tb, BitVec.toNat_and, BitVec.toNat_ofNat]
  show (x.toInt64.toBitVec.toNat &&& (2 ^ 8 - 1)) = _
  rw [Nat.and_two_pow_sub_one_eq_mod, Int32.toBitVec_toInt64, BitVec.toNat_signExtend]
  have hx := x.toBitVec.isLt
  split <;> simp [BitVec.toNat_setWidth] <;> omega
theorem w_put {N n0 k : Nat} {x : Int32} {f : Nat → Int64} (hk : k < 8 * n0) (hn : 8 * n0 < 2 ^ 31) : ∃ g, pf_X5_put N n0 (nI k) x f = some g ∧ ∀ j, wbN g j = if j = k then lowb x else wbN f j := by
  obtain ⟨h1, h2⟩ := im_n (k := k) (by omega)
  unfold pf_X5_put
  rw [h2, h1, if_neg (nI_pos (by omega)), il_n (by omega) (by omega), if_pos (by omega)]
  simp only [lt_]
  rw [bI_n (by omega) (by omega), bI_n (by omega) (by omega), cl_n (by omega), w_low, wb_shl _ (by omega)]
  refine ⟨_, rfl, fun j => ?_⟩
  rw [wbN_upd, Int64.toBitVec_or, Int64.toBitVec_and, w_mask (by omega), wb_tb, nb_put _ _ _ _ (lowb_lt x) (by omega) (by omega)]
  unfold wbN
  by_cases h : j = k
  · subst h; simp
  · rw [if_neg h]
    by_cases h3 : j / 8 = k / 8
    · rw [if_pos h3, if_neg (by omega), h3]
    · rw [if_neg h3]
theorem w_clear_L {N n0 b : Nat} (hn : 8 * n0 < 2 ^ 31) (hb : b ≤ 8 * n0) : ∀ (d a n : Nat) (f : Nat → Int64), a + d = b → d < n → ∃ g, pf_X5_clear_L19 N n0 n (nI b) (nI a) f = some g ∧ ∀ j, wbN g j = if a ≤ j ∧ j < b then 0 else wbN f j := by
  intro d
  induction d with
  | zero =>
    intro a n f ha hd
    obtain ⟨n, rfl⟩ : ∃ m, n = m + 1 := ⟨n - 1, by omega⟩
    rw [pf_X5_clear_L19, if_n (by omega) (by omega), if_pos (by omega)]
    exact ⟨f, rfl, fun j => by rw [if_neg (by omega)]⟩
  | succ d ih =>
    intro a n f ha hd
    obtain ⟨n, rfl⟩ : ∃ m, n = m + 1 := ⟨n - 1, by omega⟩
    obtain ⟨h1, h2⟩ := im_n (k := a) (by omega)
    rw [pf_X5_clear_L19, if_n (by omega) (by omega), if_neg (by omega), h2, h1, bI_n (by omega) (by omega), bI_n (by omega) (by omega), cl_n (by omega), nI_1]
    simp only [lt_]
    obtain ⟨g, hg, hj⟩ := ih (a + 1) n _ (by omega) (by omega)
    refine ⟨g, hg, fun j => ?_⟩
    rw [hj, wbN_upd, Int64.toBitVec_and, w_mask (by omega), nb_clr _ _ _ (by omega) (by omega)]
    unfold wbN
    by_cases h : a + 1 ≤ j ∧ j < b
    · rw [if_pos h, if_pos (by omega)]
    · rw [if_neg h]
      by_cases h3 : j / 8 = a / 8
      · rw [if_pos h3]
        by_cases h4 : j = a
        · subst h4; rw [if_pos rfl, if_pos (by omega)]
        · rw [if_neg (by omega), if_neg (by omega), h3]
      · rw [if_neg h3, if_neg (by omega)]
theorem w_clear {N n0 a b : Nat} {f : Nat → Int64} (hn : 8 * n0 < 2 ^ 31) (hb : b ≤ 8 * n0) (hab : a ≤ b) (hN : b - a < N) : ∃ g, pf_X5_clear N n0 (nI a) (nI b) f = some g ∧ ∀ j, wbN g j = if a ≤ j ∧ j < b then 0 else wbN f j := by
  unfold pf_X5_clear
  rw [if_neg (nI_pos (by omega)), show nI n0 * (8 : Int32) = nI (n0 * 8) from pk_mul n0 8, if_n (by omega) (by omega), if_pos (by omega)]
  exact w_clear_L hn hb (b - a) a N f (by omega) hN
theorem w_copy_L {N n0 n1 a c : Nat} {g1 : Nat → Int64} (h0 : 8 * (a + 1) ≤ n0) (h1 : 8 * (c + 1) ≤ n1) (hn0 : n0 < 2 ^ 31) (hn1 : n1 < 2 ^ 31) : ∀ (d i n : Nat) (f : Nat → Int64), i + d = 8 → d < n → pf_X5_copyPage_L56 N n0 n1 g1 n (nI 8) (nI (8 * a)) (nI (8 * c)) (nI i) f = some (fun j => if 8 * a + i ≤ j ∧ j < 8 * a + 8 then g1 (8 * c + (j - 8 * a)) else f j) := by
  intro d
  induction d with
  | zero =>
    intro i n f hi hd
    obtain ⟨n, rfl⟩ : ∃ m, n = m + 1 := ⟨n - 1, by omega⟩
    rw [pf_X5_copyPage_L56, if_n (by omega) (by omega), if_pos (by omega)]
    congr 1; funext j; rw [if_neg (by omega)]
  | succ d ih =>
    intro i n f hi hd
    obtain ⟨n, rfl⟩ : ∃ m, n = m + 1 := ⟨n - 1, by omega⟩
    rw [pf_X5_copyPage_L56, if_n (by omega) (by omega), if_neg (by omega), nI_add, nI_add, bI_n (by omega) hn1, bI_n (by omega) hn0, cl_n (by omega), cl_n (by omega), nI_1]
    simp only [lt_]
    rw [ih (i + 1) n _ (by omega) (by omega)]
    congr 1; funext j
    by_cases h : j = 8 * a + i
    · subst h; rw [if_neg (by omega), pk_uLs, if_pos (by omega)]; congr 1; omega
    · rw [pk_uLn h]
      by_cases h2 : 8 * a + i ≤ j ∧ j < 8 * a + 8
      · rw [if_pos h2, if_pos (by omega)]
      · rw [if_neg h2, if_neg (by omega)]
theorem w_copy {N n0 n1 a c : Nat} {g1 f : Nat → Int64} (h0 : 8 * (a + 1) ≤ n0) (h1 : 8 * (c + 1) ≤ n1) (hn0 : n0 < 2 ^ 31) (hn1 : n1 < 2 ^ 31) (hN : 8 < N) : ∃ g, pf_X5_copyPage N n0 n1 g1 (nI a) (nI c) f = some g ∧ ∀ j, wbN g j = if 64 * a ≤ j ∧ j < 64 * a + 64 then wbN g1 (64 * c + (j - 64 * a)) else wbN f j := by
  unfold pf_X5_copyPage
  simp only [lt_]
  rw [show nI a * (8 : Int32) = nI (a * 8) from pk_mul a 8, show nI c * (8 : Int32) = nI (c * 8) from pk_mul c 8, if_neg (nI_pos (by omega)), if_neg (nI_pos (by omega)), show (8 : Int32) = nI 8 from rfl, show (0 : Int32) = nI 0 from rfl, nI_add, nI_add, il_n (by omega) (by omega), if_neg (by omega), if_n (by omega) (by omega), if_pos (by omega), Nat.mul_comm a 8, Nat.mul_comm c 8, w_copy_L h0 h1 hn0 hn1 8 0 N f (by omega) (by omega)]
  refine ⟨_, rfl, fun j => ?_⟩
  unfold wbN
  dsimp only
  by_cases h : 64 * a ≤ j ∧ j < 64 * a + 64
  · rw [if_pos h, if_pos (by omega), show (64 * c + (j - 64 * a)) / 8 = 8 * c + (j / 8 - 8 * a) by omega, show (64 * c + (j - 64 * a)) % 8 = j % 8 by omega]
  · rw [if_neg h, if_neg (by omega)]
