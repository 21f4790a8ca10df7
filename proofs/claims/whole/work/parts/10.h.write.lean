/-! PURE PART: the calls: write, fill -/
section K8
variable {hd : HDp} {N nf nb ev tm dc rr : Nat} {LA LI LS : List (Nat × Nat)} {c m : St}
theorem lowb_64 (a : Int64) : lowb a.toInt32 = a.toBitVec.toNat % 256 := by
  obtain ⟨n, hn, e⟩ := wb_of a
  rw [e, lN_i, wb_tn hn]
  unfold lowb
  rw [i_tb, BitVec.toNat_ofNat]
  omega
theorem lowb_row (x : Int64) {j : Nat} (hj : j < 8) : lowb (Int64.toInt32 ((Int64.toUInt64 x >>> (Int64.toUInt64 (Int32.toInt64 (nI (8 * j))) &&& Int64.toUInt64 63)).toInt64)) = lowb (Int64.toInt32 (x >>> (Int32.toInt64 (nI (8 * j)) &&& 63))) := by
  rw [lowb_64, lowb_64]
  obtain ⟨n, hn, e⟩ := wb_of x
  rw [e, wb_shr hn (by omega), wb_c (8 * j) (by omega), wb_tn (Nat.lt_of_le_of_lt (Nat.div_le_self _ _) hn), Int64.toBitVec_shiftRight, wb_tb, wb_tb, wb_sm (8 * j) (by omega)]
  apply Nat.eq_of_testBit_eq
  intro i
  rw [show (256 : Nat) = 2 ^ 8 from rfl, Nat.testBit_mod_two_pow, Nat.testBit_mod_two_pow]
  by_cases hi : i < 8
  · rw [← BitVec.getLsbD, BitVec.sshiftRight_eq', BitVec.getLsbD_sshiftRight, BitVec.toNat_ofNat, Nat.mod_eq_of_lt (show 8 * j < 2 ^ 64 by omega), if_pos (by omega), BitVec.getLsbD, BitVec.toNat_ofNat, Nat.mod_eq_of_lt hn, Nat.testBit_div_two_pow, Nat.add_comm i]
    rw [decide_eq_false (show ¬ 64 ≤ i by omega)]; rfl
  · simp [hi]
theorem sL_sL (σ : St) (k : Nat) (f g : Nat → Int64) : sL (sL σ k f) k g = sL σ k g := by
  have hs : ∀ (a b : St), a.1 = b.1 → a.2.1 = b.2.1 → a.2.2 = b.2.2 → a = b := fun a b h1 h2 h3 => by
    rcases a with ⟨a1, a2, a3⟩; rcases b with ⟨b1, b2, b3⟩; simp only at h1 h2 h3; subst h1 h2 h3; rfl
  refine hs _ _ rfl rfl ?_
  funext j
  show (if j = k then g else if j = k then f else σ.2.2 j) = (if j = k then g else σ.2.2 j)
  by_cases e : j = k
  · rw [if_pos e, if_pos e]
  · rw [if_neg e, if_neg e, if_neg e]
theorem sL_self (σ : St) (k : Nat) : sL σ k (σ.2.2 k) = σ := by
  have hs : ∀ (a b : St), a.1 = b.1 → a.2.1 = b.2.1 → a.2.2 = b.2.2 → a = b := fun a b h1 h2 h3 => by
    rcases a with ⟨a1, a2, a3⟩; rcases b with ⟨b1, b2, b3⟩; simp only at h1 h2 h3; subst h1 h2 h3; rfl
  refine hs _ _ rfl rfl ?_
  funext j
  show (if j = k then σ.2.2 k else σ.2.2 j) = σ.2.2 j
  by_cases e : j = k
  · rw [if_pos e, e]
  · rw [if_neg e]
theorem sA_comm (σ : St) {k l : Nat} (h : k ≠ l) (f g : Nat → Int32) : sA (sA σ k f) l g = sA (sA σ l g) k f := by
  have hs : ∀ (a b : St), a.1 = b.1 → a.2.1 = b.2.1 → a.2.2 = b.2.2 → a = b := fun a b h1 h2 h3 => by
    rcases a with ⟨a1, a2, a3⟩; rcases b with ⟨b1, b2, b3⟩; simp only at h1 h2 h3; subst h1 h2 h3; rfl
  refine hs _ _ rfl ?_ rfl
  funext j
  show (if j = l then g else if j = k then f else σ.2.1 j) = (if j = k then f else if j = l then g else σ.2.1 j)
  by_cases e : j = l
  · rw [if_pos e, if_neg (by omega), if_pos e]
  · rw [if_neg e, if_neg e]
/-- the value of a byte to write, as the reference says it -/
def wv (x4 : Int32) (x5 : Int64) (x7 : Int32) (j : Nat) : Int32 := if x4 = 0 then Int64.toInt32 (x5 >>> (Int32.toInt64 (nI (8 * j)) &&& 63)) else x7 + nI (3 * j)
def TW (n : Nat) (x4 : Int32) (x5 : Int64) (x7 : Int32) (w : Nat → Int64) : Prop := ∀ j, j < n → wbN w j = lowb (wv x4 x5 x7 j)
theorem and_lowb (x : Int32) : x &&& 255 = nI (lowb x) := pk_and x 8 (by decide)
theorem put_B {i pg at_ n0 e st f p : Nat} {x4 x7 x9 : Int32} {x5 : Int64} {c m : St} {JC : Int32 → Int32 → Int32 → Int32 → Int32 → St → Option (Int32 × St)} {JM : Int32 → Int32 → Int32 → Int32 → Int64 → Int32 → Int32 → Int32 → St → Option (Int32 × St)} (hpg : pg < 256) (hN : 5000 ≤ N) (hnf : nf ≤ 64) (hf : f < nf) (hp : p < 3072) (hfo : m.2.1 5 p = nI f) (he : e = at_ + n0) (hst : st = if 64 * pg + 64 < e then 64 * pg + 64 else e) (he1 : e ≤ 16384) (hn0 : n0 ≤ 1024) (hW : TW n0 x4 x5 x7 (c.2.2 34)) : ∀ (d k n n' : Nat) (g : Nat → Int32) (w : Nat → Int64), RBy (64 * nf) g w → k + d = st → 64 * pg ≤ k → at_ ≤ k → d < n → d < n' → ∃ g' w', RBy (64 * nf) g' w' ∧ pf_X6_putRow_L79 N nf nb JC n (nI i) (nI at_) (nI e) (nI pg) (nI f) (nI (64 * pg)) (nI st) (nI k) (sL c 16 w) = pf_X6_putRow_L79 N nf nb JC 1 (nI i) (nI at_) (nI e) (nI pg) (nI f) (nI (64 * pg)) (nI st) (nI st) (sL c 16 w') ∧ pf_X7_put_L97 N JM n' (nI i) (nI at_) (nI n0) x4 x5 x7 (nI (k - at_)) x9 (nI p) (nI (64 * (pg + 1))) (sA m 15 g) = pf_X7_put_b166 N JM (nI i) (nI at_) (nI n0) x4 x5 x7 (nI (st - at_)) x9 (sA m 15 g') := by
  have hst1 : st ≤ 64 * pg + 64 := by subst hst; split <;> omega
  have hst2 : st ≤ e := by subst hst; split <;> omega
  have hst3 : st = 64 * pg + 64 ∨ st = e := by subst hst; split <;> omega
  intro d
  induction d with
  | zero =>
    intro k n n' g w hB hk h64 hat hn hn'
    obtain ⟨n, rfl⟩ : ∃ j, n = j + 1 := ⟨n - 1, by omega⟩
    obtain ⟨n', rfl⟩ : ∃ j, n' = j + 1 := ⟨n' - 1, by omega⟩
    obtain rfl : k = st := by omega
    refine ⟨g, w, hB, ?_, ?_⟩
    · rw [pf_X6_putRow_L79, pf_X6_putRow_L79, if_pos (Int32.le_refl _), if_pos (Int32.le_refl _)]
    · rw [pf_X7_put_L97, if_n (by omega) (by omega), nI_add, if_n (by omega) (by omega)]
      by_cases h : n0 ≤ k - at_
      · rw [if_pos h]
      · rw [if_neg h, if_pos (by omega)]
  | succ d ih =>
    intro k n n' g w hB hk h64 hat hn hn'
    obtain ⟨n, rfl⟩ : ∃ j, n = j + 1 := ⟨n - 1, by omega⟩
    obtain ⟨n', rfl⟩ : ∃ j, n' = j + 1 := ⟨n' - 1, by omega⟩
    have e5 : ∀ g, (sA m 15 g).2.1 5 p = nI f := fun _ => hfo
    have e34 : (sL c 16 w).2.2 34 = c.2.2 34 := rfl
    have e16 : (sL c 16 w).2.2 16 = w := rfl
    have ek : f * 64 + k - 64 * pg = 64 * f + k % 64 := by omega
    rw [pf_X6_putRow_L79, if_n (by omega) (by omega), if_neg (by omega), pk_sub (by omega), e34, w_byteAt (by omega) (by omega), Option.bind_some, show (64 : Int32) = nI 64 from rfl, pk_mul, nI_add, pk_sub (by omega), ek, e16]
    obtain ⟨w2, x1, x2⟩ := w_put (N := N) (n0 := nf * 8) (k := 64 * f + k % 64) (x := nI (wbN (c.2.2 34) (k - at_))) (f := w) (by omega) (by omega)
    rw [x1, Option.bind_some]
    simp only [lt_]
    rw [sL_sL, nI_1, pf_X7_put_L97, if_n (by omega) (by omega), if_neg (by omega), nI_add, if_n (by omega) (by omega), if_neg (by omega), bI_n hp (by decide), cl_n (by omega), e5, show (64 : Int32) = nI 64 from rfl, pk_rem (by omega) (by decide) (by decide), pk_mul, nI_add, show (at_ + (k - at_)) = k by omega, show (8 : Int32) = nI 8 from rfl, show (3 : Int32) = nI 3 from rfl, pk_mul, pk_mul]
    unfold pf_X7_put_b158
    rw [bI_n (show 64 * f + k % 64 < 4096 by omega) (by decide), cl_n (by omega)]
    simp only [lt_]
    rw [sA_sA, sA_sA, nI_1, show k - at_ + 1 = k + 1 - at_ by omega]
    have hval : ∀ y : Int32, y = wv x4 x5 x7 (k - at_) → RBy (64 * nf) (upd ((sA m 15 g).2.1 15) (64 * f + k % 64) (vp_nar .byte (Int8.toInt32 (Int32.toInt8 y)))) w2 := by
      intro y hy j hj
      rw [x2]
      by_cases ej : j = 64 * f + k % 64
      · subst ej
        rw [us_, if_pos rfl, nar_b, bp_b, and_lowb, lowb_n (wbN_lt _ _), hW _ (by omega), hy]
      · rw [un ej, if_neg ej]; exact hB j hj
    unfold wv at hval
    by_cases h4 : x4 = 0
    · rw [if_pos h4]
      rw [if_pos h4] at hval
      exact ih (k + 1) n n' _ w2 (hval _ rfl) (by omega) (by omega) (by omega) (by omega) (by omega)
    · rw [if_neg h4, bI_n (show 64 * f + k % 64 < 4096 by omega) (by decide)]
      rw [if_neg h4] at hval
      exact ih (k + 1) n n' _ w2 (hval _ rfl) (by omega) (by omega) (by omega) (by omega) (by omega)
theorem op_sur2 (R : Rel hd nf nb LA LI LS ev tm dc rr c m) (hN : 5000 ≤ N) (hph : rr + dc ≤ 255) {x : Int32} : ∃ r c' m' dc' rr', pf_X6_putRow_b172 N nf nb x c = some (r, c') ∧ pf_X7_put_b201 N x m = some (r, m') ∧ Rel hd nf nb LA LI LS ev tm dc' rr' c' m' := by
  unfold pf_X6_putRow_b172 pf_X7_put_b201
  by_cases h : x = 0
  · rw [if_pos h, if_pos h]; exact ⟨_, _, _, _, _, rfl, rfl, R⟩
  · rw [if_neg h, if_neg h]
    obtain ⟨c', m', dc', rr', x1, x2, R'⟩ := op_surplus R hN hph
    rw [x1, x2, Option.bind_some, Option.bind_some]
    exact ⟨_, _, _, _, _, rfl, rfl, R'⟩
theorem put_L {i at_ n0 e : Nat} {x4 x7 : Int32} {x5 : Int64} (hi : i < 12) (hN : 5000 ≤ N) (he : e = at_ + n0) (he1 : e ≤ 16384) (hn0 : n0 ≤ 1024) : ∀ (d pg now n n' ev dc rr : Nat) (LA LI LS : List (Nat × Nat)) (c m : St), Rel HD2 nf nb LA LI LS ev tm dc rr c m → TW n0 x4 x5 x7 (c.2.2 34) → rr + dc + 2 * d ≤ 255 → ev + d < 2 ^ 30 → e ≤ 64 * (pg + d) → at_ ≤ now → ((now < e ∧ 64 * pg ≤ now ∧ now < 64 * pg + 64 ∧ (now = at_ ∨ now = 64 * pg)) ∨ (now = e ∧ e ≤ 64 * pg)) → pg ≤ 256 + 20 → d < n → d + 1 < n' → ∃ r c' m' LA' LI' LS' ev' dc' rr', pf_X6_putRow_L21 N nf nb n (nI i) (nI at_) (nI e) (nI (now - at_)) (nI pg) c = some (r, c') ∧ pf_X7_put_L11 N n' (nI i) (nI at_) (nI n0) x4 x5 x7 (nI (now - at_)) 1 m = some (r, m') ∧ Rel HD2 nf nb LA' LI' LS' ev' tm dc' rr' c' m' ∧ ev' ≤ ev + d := by
  -- done
  have fin : ∀ (pg now n n' ev dc rr : Nat) (LA LI LS : List (Nat × Nat)) (c m : St), Rel HD2 nf nb LA LI LS ev tm dc rr c m → rr + dc ≤ 255 → now = e → e ≤ 64 * pg → pg ≤ 256 + 20 → ∃ r c' m' dc' rr', pf_X6_putRow_L21 N nf nb (n + 1) (nI i) (nI at_) (nI e) (nI (now - at_)) (nI pg) c = some (r, c') ∧ pf_X7_put_L11 N (n' + 1) (nI i) (nI at_) (nI n0) x4 x5 x7 (nI (now - at_)) 1 m = some (r, m') ∧ Rel HD2 nf nb LA LI LS ev tm dc' rr' c' m' := by
    intro pg now n n' ev dc rr LA LI LS c m R hph h1 h2 h3
    rw [pf_X6_putRow_L21, pf_X7_put_L11, show (64 : Int32) = nI 64 from rfl, pk_mul, if_n (by omega) (by omega), if_pos (by omega), if_n (by omega) (by omega), if_pos (by omega)]
    exact op_sur2 R hN hph
  intro d
  induction d with
  | zero =>
    intro pg now n n' ev dc rr LA LI LS c m R hW hph hev hde hat hcase hpg hn hn'
    obtain ⟨n, rfl⟩ : ∃ j, n = j + 1 := ⟨n - 1, by omega⟩
    obtain ⟨n', rfl⟩ : ∃ j, n' = j + 1 := ⟨n' - 1, by omega⟩
    obtain ⟨r, c', m', dc', rr', x1, x2, R'⟩ := fin pg now n n' ev dc rr LA LI LS c m R (by omega) (by omega) (by omega) hpg
    exact ⟨r, c', m', LA, LI, LS, ev, dc', rr', x1, x2, R', by omega⟩
  | succ d ih =>
    intro pg now n n' ev dc rr LA LI LS c m R hW hph hev hde hat hcase hpg hn hn'
    obtain ⟨n, rfl⟩ : ∃ j, n = j + 1 := ⟨n - 1, by omega⟩
    obtain ⟨n', rfl⟩ : ∃ j, n' = j + 1 := ⟨n' - 1, by omega⟩
    rcases hcase with ⟨hlt, hlo, hup, hor⟩ | ⟨q1, q2⟩
    · have hpg2 : pg < 256 := by omega
      have hnf := R.1.2.1
      have hp : 256 * i + pg < 3072 := by omega
      rw [pf_X6_putRow_L21, pf_X7_put_L11, show (64 : Int32) = nI 64 from rfl, pk_mul, if_n (by omega) (by omega), if_neg (by omega), if_n (by omega) (by omega), if_neg (by omega), if_neg z1_ne, spot_n, Option.bind_some, nI_add, pk_div (by omega) (by decide) (by decide), show (at_ + (now - at_)) / 64 = pg by omega, spot_m]
      simp only [lt_]
      generalize hP : 256 * i + pg = p at hp ⊢
      rcases op_touch R hN (by omega) (by omega) hp with ⟨f, c2, m2, LA2, LI2, LS2, ev2, dc2, rr2, z1, z2, R2, z3, z4, hf, hsp, z6⟩ | ⟨c2, m2, LA2, LI2, dc2, rr2, z1, z2, R2, z3, z4, -, z5⟩
      · rw [z1, z2, Option.bind_some, Option.bind_some, if_neg (m1_ne (by omega)), if_neg z1_ne, nI_add, il_n (by omega) (by omega), il_n (by omega) (by omega), ← apply_ite nI, ← apply_ite nI]
        have e1 : (if at_ < pg * 64 then pg * 64 else at_) = now := by split <;> omega
        rw [e1, Nat.mul_comm pg 64]
        generalize hst : (if 64 * pg + 64 < e then 64 * pg + 64 else e) = st
        have hst1 : st ≤ e ∧ now < st ∧ st ≤ 64 * pg + 64 ∧ (st = e ∨ st = 64 * pg + 64) := by subst hst; split <;> omega
        have hfo := (R2.mof hf hp hsp).1
        have hW2 : TW n0 x4 x5 x7 (c2.2.2 34) := by rw [z6]; exact hW
        have hdm := isDirty_m (N := N) R2 hp
        rw [hdm, Option.bind_some]
        -- with the page's since set
        have go : ∀ y : Int32, y = (if m2.2.1 7 p = -1 then m2.1 5 else m2.2.1 7 p) → ∃ r c' m' LA' LI' LS' ev' dc' rr', pf_X6_putRow_L79 N nf nb (pf_X6_putRow_L21 N nf nb n) N (nI i) (nI at_) (nI e) (nI pg) (nI f) (nI (64 * pg)) (nI st) (nI now) c2 = some (r, c') ∧ pf_X7_put_b82 N (pf_X7_put_L11 N n') (nI i) (nI at_) (nI n0) x4 x5 x7 (nI (now - at_)) 1 (nI p) y (nI p) m2 = some (r, m') ∧ Rel HD2 nf nb LA' LI' LS' ev' tm dc' rr' c' m' ∧ ev' ≤ ev + (d + 1) := by
          intro y hy
          unfold pf_X7_put_b82
          rw [bI_n hp (by decide), cl_n (by omega), nI_add, show (64 : Int32) = nI 64 from rfl, pk_div (by omega) (by decide) (by decide), show (at_ + (now - at_)) / 64 = pg by omega, nI_1, pk_mul]
          simp only [lt_]
          obtain ⟨g', w', hB', u1, u2⟩ := put_B (N := N) (nb := nb) (i := i) (c := c2) (m := sA m2 7 (upd (m2.2.1 7) p y)) (x9 := 1) (JC := pf_X6_putRow_L21 N nf nb n) (JM := pf_X7_put_L11 N n') hpg2 hN hnf hf hp hfo he hst.symm he1 hn0 hW2 (st - now) now N N (m2.2.1 15) (c2.2.2 16) R2.B1 (by omega) hlo hat (by omega) (by omega)
          rw [sL_self] at u1
          have e15 : sA (sA m2 7 (upd (m2.2.1 7) p y)) 15 (m2.2.1 15) = sA m2 7 (upd (m2.2.1 7) p y) := sA_same _ _ rfl
          rw [e15] at u2
          rw [u1, u2, pf_X6_putRow_L79, if_pos (Int32.le_refl _)]
          have R3' : Rel HD2 nf nb LA2 LI2 LS2 ev2 tm dc2 rr2 (sL c2 16 w') (sA m2 15 g') := by
            obtain ⟨hK, hk1, s1, hZ, w1, n1, e1, f1, b1, b2, b3, hBk, hRc, h1, t1, hF, hT, hL, hI, hD, hPn, hS, B1, B2, B3⟩ := R2
            exact ⟨hK, hk1, s1, hZ, w1, n1, e1, f1, b1, b2, b3, hBk, hRc, h1, t1, hF, hT, hL, hI, hD, hPn, hS, hB', B2, B3⟩
          obtain ⟨c4, dc4, b, hb, v1, v2, R4, v3, v4, v5, v6⟩ := op_soil (N := N) R3' hf hp hsp
          rw [v1, Option.bind_some]
          have hb2 := isDirty_m (N := N) R3' hp
          have hbv : b = if m2.2.1 7 p = -1 then 0 else 1 := by
            rw [v2] at hb2
            exact Option.some.inj hb2
          have hY : (if b = 0 then (sA m2 15 g').1 5 else (sA m2 15 g').2.1 7 p) = y := by
            rw [hy, hbv]
            show (if (if m2.2.1 7 p = -1 then (0 : Int32) else 1) = 0 then m2.1 5 else m2.2.1 7 p) = _
            by_cases h : m2.2.1 7 p = -1
            · rw [if_pos h, if_pos h, if_pos rfl]
            · rw [if_neg h, if_neg h, if_neg z1_ne]
          rw [hY] at R4
          have hcomm : sA (sA m2 15 g') 7 (upd ((sA m2 15 g').2.1 7) p y) = sA (sA m2 7 (upd (m2.2.1 7) p y)) 15 g' := by
            rw [sA_comm _ (by decide)]; rfl
          rw [hcomm] at R4
          generalize hM : sA (sA m2 7 (upd (m2.2.1 7) p y)) 15 g' = m4 at R4 ⊢
          -- the size
          unfold pf_X7_put_b166 pf_X7_put_b197
          obtain ⟨s, hs, hsz⟩ := R4.2.2.2.1.1 i hi
          have hs1 := R4.2.2.1
          rw [nI_add, show at_ + (st - at_) = st by omega]
          simp only [lt_, bI_n hi (show 12 < 2 ^ 31 by decide), cl_n (show i < 2 ^ 31 by omega)]
          rw [hs1, hsz, if_n (by omega) (by omega), il_n (by omega) (by omega), pk_sub (by omega), nI_1]
          have next : ∀ s', s' ≤ 16384 → ∃ r c' m' LA' LI' LS' ev' dc' rr', pf_X6_putRow_L21 N nf nb n (nI i) (nI at_) (nI e) (nI (st - at_)) (nI (pg + 1)) (sA c4 10 (upd (m4.2.1 1) i (nI s'))) = some (r, c') ∧ pf_X7_put_L11 N n' (nI i) (nI at_) (nI n0) x4 x5 x7 (nI (st - at_)) 1 (sA m4 1 (upd (m4.2.1 1) i (nI s'))) = some (r, m') ∧ Rel HD2 nf nb LA' LI' LS' ev' tm dc' rr' c' m' ∧ ev' ≤ ev + (d + 1) := by
            intro s' hs'
            have R5 : Rel HD2 nf nb LA2 LI2 LS2 ev2 tm dc4 rr2 (sA c4 10 (upd (m4.2.1 1) i (nI s'))) (sA m4 1 (upd (m4.2.1 1) i (nI s'))) := by
              obtain ⟨hK, hk1, s1, hZ, w1, n1, e1, f1, b1, b2, b3, hBk, hRc, h1, t1, hF, hT, hL, hI, hD, hPn, hS, B1, B2, B3⟩ := R4
              refine ⟨hK, hk1, rfl, ⟨fun j hj => ?_, hZ.2⟩, w1, n1, e1, f1, b1, b2, b3, hBk, hRc, h1, t1, hF, hT, hL, hI, hD, hPn, hS, B1, B2, B3⟩
              show ∃ s'', s'' ≤ 16384 ∧ upd _ i (nI s') j = nI s''
              by_cases ej : j = i
              · subst ej; exact ⟨s', hs', us_⟩
              · rw [un ej]; exact hZ.1 j hj
            have hW5 : TW n0 x4 x5 x7 ((sA c4 10 (upd (m4.2.1 1) i (nI s'))).2.2 34) := by
              show TW n0 x4 x5 x7 (c4.2.2 34)
              rw [v4]; exact hW2
            obtain ⟨r, c', m', LA', LI', LS', ev', dc', rr', t1, t2, R', t3⟩ := ih (pg + 1) st n n' ev2 dc4 rr2 LA2 LI2 LS2 _ _ R5 hW5 (by omega) (by omega) (by omega) (by omega) (by omega) (by omega) (by omega) (by omega)
            exact ⟨r, c', m', LA', LI', LS', ev', dc', rr', t1, t2, R', by omega⟩
          by_cases hss : st ≤ s
          · rw [if_pos hss, if_neg (by omega)]; exact next s hs
          · rw [if_neg hss, if_pos (by omega)]; exact next st (by omega)
        by_cases h7 : m2.2.1 7 p = -1
        · rw [if_pos h7, if_pos rfl]
          exact go _ (by rw [if_pos h7])
        · rw [if_neg h7, if_neg z1_ne, bI_n hp (by decide), cl_n (by omega)]
          exact go _ (by rw [if_neg h7])
      · obtain ⟨n', rfl⟩ : ∃ j, n' = j + 1 := ⟨n' - 1, by omega⟩
        rw [z1, z2, Option.bind_some, Option.bind_some, if_pos rfl, if_pos rfl]
        simp only []
        rw [pf_X7_put_L11, if_n (by omega) (by omega), if_neg (by omega), if_pos rfl]
        obtain ⟨r, c', m', dc', rr', x1, x2, R'⟩ := op_sur2 R2 hN (x := nI (now - at_)) (by omega)
        exact ⟨r, c', m', LA2, LI2, LS, ev, dc', rr', x1, x2, R', by omega⟩
    · obtain ⟨r, c', m', dc', rr', x1, x2, R'⟩ := fin pg now n n' ev dc rr LA LI LS c m R (by omega) q1 q2 hpg
      exact ⟨r, c', m', LA, LI, LS, ev, dc', rr', x1, x2, R', by omega⟩
theorem op_put {k i at_ n0 : Nat} {x4 x7 : Int32} {x5 : Int64} (R : R3 nf nb k c m) (hk : k < 64) (hN : 5000 ≤ N) (hi : i < 12) (he1 : at_ + n0 ≤ 16384) (hn1 : 1 ≤ n0) (hn0 : n0 ≤ 1024) (hW : TW n0 x4 x5 x7 (c.2.2 34)) : ∃ r c' m', pf_X6_putRow N nf nb (nI i) (nI at_) (nI n0) c = some (r, c') ∧ pf_X7_put N (nI i) (nI at_) (nI n0) x4 x5 x7 m = some (r, m') ∧ R3 nf nb (k + 1) c' m' := by
  obtain ⟨LA, LI, LS, ev, tm, dc, rr, R, hev, htm⟩ := R
  have hnf := R.1.2.1
  unfold pf_X6_putRow pf_X7_put
  obtain ⟨y1, R1⟩ := op_begin (N := N) R
  have hd := dc_le R.D
  rw [y1, Option.bind_some, show (64 : Int32) = nI 64 from rfl, pk_div (by omega) (by decide) (by decide), nI_add]
  simp only [lt_]
  obtain ⟨r, c', m', LA', LI', LS', ev', dc', rr', v1, v2, R', v3⟩ := put_L (x4 := x4) (x5 := x5) (x7 := x7) hi hN rfl he1 hn0 17 (at_ / 64) at_ N N ev dc 0 LA LI LS _ _ R1 hW (by omega) (by omega) (by omega) (by omega) (Or.inl (by omega)) (by omega) (by omega) (by omega)
  rw [Nat.sub_self] at v1 v2
  exact ⟨r, c', m', v1, v2, R3.of R' (by omega) (by omega)⟩
theorem R3.set34 {k : Nat} {w : Nat → Int64} (R : R3 nf nb k c m) : R3 nf nb k (sL c 34 w) m := by
  obtain ⟨LA, LI, LS, ev, tm, dc, rr, R, hev, htm⟩ := R
  obtain ⟨hK, hk1, s1, hZ, w1, n1, e1, f1, b1, b2, b3, hBk, hRc, h1, t1, hF, hT, hL, hI, hD, hPn, hS, B1, B2, B3⟩ := R
  exact ⟨LA, LI, LS, ev, tm, dc, rr, ⟨hK, hk1, s1, hZ, w1, n1, e1, f1, b1, b2, b3, hBk, hRc, h1, t1, hF, hT, hL, hI, hD, hPn, hS, B1, B2, B3⟩, hev, htm⟩
theorem fill_L {i at_ n0 : Nat} {x4 : Int32} (hn0 : n0 ≤ 1024) : ∀ (d k n : Nat) (w : Nat → Int64), k + d = n0 → d < n → (∀ j, j < k → wbN w j = lowb (wv 1 0 x4 j)) → ∃ w', TW n0 1 0 x4 w' ∧ pf_X6_fill_L27 N nf nb n (nI i) (nI at_) (nI n0) x4 (nI k) (sL c 34 w) = (pf_X6_putRow N nf nb (nI i) (nI at_) (nI n0) (sL c 34 w')).bind (fun z7 => some (z7.1, z7.2)) := by
  intro d
  induction d with
  | zero =>
    intro k n w hk hn hw
    obtain ⟨n, rfl⟩ : ∃ j, n = j + 1 := ⟨n - 1, by omega⟩
    rw [pf_X6_fill_L27, if_n (by omega) (by omega), if_pos (by omega)]
    exact ⟨w, fun j hj => hw j (by omega), rfl⟩
  | succ d ih =>
    intro k n w hk hn hw
    obtain ⟨n, rfl⟩ : ∃ j, n = j + 1 := ⟨n - 1, by omega⟩
    have e34 : (sL c 34 w).2.2 34 = w := rfl
    rw [pf_X6_fill_L27, if_n (by omega) (by omega), if_neg (by omega), show (3 : Int32) = nI 3 from rfl, pk_mul, e34]
    obtain ⟨w2, x1, x2⟩ := w_put (N := N) (n0 := 128) (k := k) (x := x4 + nI (3 * k)) (f := w) (by omega) (by omega)
    rw [x1, Option.bind_some]
    simp only [lt_]
    rw [sL_sL, nI_1]
    refine ih (k + 1) n w2 (by omega) (by omega) (fun j hj => ?_)
    rw [x2]
    by_cases e : j = k
    · subst e
      rw [if_pos rfl]
      unfold wv
      rw [if_neg z1_ne]
    · rw [if_neg e]; exact hw j (by omega)
theorem write_L {i at_ n0 : Nat} {x5 : Int64} (hn0 : n0 ≤ 8) : ∀ (d k n : Nat) (w : Nat → Int64), k + d = n0 → d < n → (∀ j, j < k → wbN w j = lowb (wv 0 x5 0 j)) → ∃ w', TW n0 0 x5 0 w' ∧ pf_X6_write_L29 N nf nb n (nI i) (nI at_) x5 (nI n0) (nI k) (sL c 34 w) = (pf_X6_putRow N nf nb (nI i) (nI at_) (nI n0) (sL c 34 w')).bind (fun z7 => some (z7.1, z7.2)) := by
  intro d
  induction d with
  | zero =>
    intro k n w hk hn hw
    obtain ⟨n, rfl⟩ : ∃ j, n = j + 1 := ⟨n - 1, by omega⟩
    rw [pf_X6_write_L29, if_n (by omega) (by omega), if_pos (by omega)]
    exact ⟨w, fun j hj => hw j (by omega), rfl⟩
  | succ d ih =>
    intro k n w hk hn hw
    obtain ⟨n, rfl⟩ : ∃ j, n = j + 1 := ⟨n - 1, by omega⟩
    have e34 : (sL c 34 w).2.2 34 = w := rfl
    rw [pf_X6_write_L29, if_n (by omega) (by omega), if_neg (by omega), show (8 : Int32) = nI 8 from rfl, pk_mul, e34]
    obtain ⟨w2, x1, x2⟩ := w_put (N := N) (n0 := 128) (k := k) (x := Int64.toInt32 ((Int64.toUInt64 x5 >>> (Int64.toUInt64 (Int32.toInt64 (nI (8 * k))) &&& Int64.toUInt64 63)).toInt64)) (f := w) (by omega) (by omega)
    rw [x1, Option.bind_some]
    simp only [lt_]
    rw [sL_sL, nI_1]
    refine ih (k + 1) n w2 (by omega) (by omega) (fun j hj => ?_)
    rw [x2]
    by_cases e : j = k
    · subst e
      rw [if_pos rfl, lowb_row x5 (by omega)]
      unfold wv
      rw [if_pos rfl]
    · rw [if_neg e]; exact hw j (by omega)
theorem lt_swap {a b : Int32} : (if a ≤ b then (1 : Nat) else 0) = if b < a then 0 else 1 := by
  by_cases h : a ≤ b
  · rw [if_pos h, if_neg (fun q => absurd q (Int32.not_lt.mpr h))]
  · rw [if_neg h, if_pos (Int32.not_le.mp h)]
theorem q_fill {k : Nat} (R : R3 nf nb k c m) (hk : k < 64) (hN : 5000 ≤ N) (x1 x2 x3 x4 : Int32) : ∃ r c' m', pf_X6_fill N nf nb x1 x2 x3 x4 c = some (r, c') ∧ pf_X7_fill N x1 x2 x3 x4 m = some (r, m') ∧ R3 nf nb (k + 1) c' m' := by
  unfold pf_X6_fill pf_X7_fill pf_X6_isStretch
  have bad : ∀ r : Int32, ∃ r' c' m', some (r, c) = some (r', c') ∧ some (r, m) = some (r', m') ∧ R3 nf nb (k + 1) c' m' := fun r => ⟨r, c, m, rfl, rfl, R.up⟩
  rcases fileC (N := N) x1 with ⟨h1, h2⟩ | ⟨i, hi, e, h1, h2⟩
  · rw [h1, h2, Option.bind_some, Option.bind_some, if_pos rfl, if_pos rfl, Option.bind_some, if_pos rfl]
    split
    · exact bad _
    · split
      · exact bad _
      · exact bad _
  rw [h1, h2, Option.bind_some, Option.bind_some, if_neg z1_ne, if_neg z1_ne]
  by_cases h3 : x3 < 1
  · rw [if_pos h3, if_pos h3]; exact bad _
  rw [if_neg h3, if_neg h3]
  by_cases h4 : 1024 < x3
  · rw [if_pos h4, if_pos h4]; exact bad _
  rw [if_neg h4, if_neg h4]
  by_cases h5 : x2 < 0
  · rw [if_pos h5, if_pos h5, Option.bind_some, if_pos rfl]; exact bad _
  rw [if_neg h5, if_neg h5]
  by_cases h6 : x2 ≤ 16384 - x3
  · rw [if_pos h6, if_neg (Int32.not_lt.mpr h6), Option.bind_some, if_neg z1_ne]
    have h7 : ¬ x3 < 0 := fun h => h3 (Int32.lt_trans h (by decide))
    obtain ⟨n, hn, e3⟩ := nI_of2 (n := 1024) (by decide) h7 (Int32.not_lt.mp h4)
    have hn1 : 1 ≤ n := by
      rcases Nat.eq_zero_or_pos n with h | h
      · subst h; exact absurd (show x3 < 1 by rw [e3]; decide) h3
      · exact h
    rw [e3, show (16384 : Int32) = nI 16384 from rfl, pk_sub (by omega)] at h6
    obtain ⟨a, ha, e2⟩ := nI_of h5
    rw [e2, nI_leI ha (by omega)] at h6
    obtain ⟨w', g1, g2⟩ := fill_L (N := N) (nf := nf) (nb := nb) (c := c) (i := i) (at_ := a) (x4 := x4) hn n 0 N (c.2.2 34) (by omega) (by omega) (fun j hj => absurd hj (by omega))
    rw [sL_self] at g2
    obtain ⟨r, c', m', v1, v2, v3⟩ := op_put (x4 := 1) (x5 := 0) (x7 := x4) (R.set34 (w := w')) hk hN hi (show a + n ≤ 16384 by omega) hn1 hn g1
    rw [e, e2, e3, show (0 : Int32) = nI 0 from rfl, g2, v1, v2, Option.bind_some, Option.bind_some]
    exact ⟨r, c', m', rfl, rfl, v3⟩
  · rw [if_neg h6, if_pos (Int32.not_le.mp h6), Option.bind_some, if_pos rfl]; exact bad _
theorem q_write {k : Nat} (R : R3 nf nb k c m) (hk : k < 64) (hN : 5000 ≤ N) (x1 x2 : Int32) (x5 : Int64) (x3 : Int32) : ∃ r c' m', pf_X6_write N nf nb x1 x2 x5 x3 c = some (r, c') ∧ pf_X7_write N x1 x2 x5 x3 m = some (r, m') ∧ R3 nf nb (k + 1) c' m' := by
  unfold pf_X6_write pf_X7_write pf_X6_isStretch
  have bad : ∀ r : Int32, ∃ r' c' m', some (r, c) = some (r', c') ∧ some (r, m) = some (r', m') ∧ R3 nf nb (k + 1) c' m' := fun r => ⟨r, c, m, rfl, rfl, R.up⟩
  rcases fileC (N := N) x1 with ⟨h1, h2⟩ | ⟨i, hi, e, h1, h2⟩
  · rw [h1, h2, Option.bind_some, Option.bind_some, if_pos rfl, if_pos rfl, Option.bind_some, if_pos rfl]
    split
    · exact bad _
    · split
      · exact bad _
      · exact bad _
  rw [h1, h2, Option.bind_some, Option.bind_some, if_neg z1_ne, if_neg z1_ne]
  by_cases h3 : x3 < 1
  · rw [if_pos h3, if_pos h3]; exact bad _
  rw [if_neg h3, if_neg h3]
  by_cases h4 : 8 < x3
  · rw [if_pos h4, if_pos h4]; exact bad _
  rw [if_neg h4, if_neg h4]
  by_cases h5 : x2 < 0
  · rw [if_pos h5, if_pos h5, Option.bind_some, if_pos rfl]; exact bad _
  rw [if_neg h5, if_neg h5]
  by_cases h6 : x2 ≤ 16384 - x3
  · rw [if_pos h6, if_neg (Int32.not_lt.mpr h6), Option.bind_some, if_neg z1_ne]
    have h7 : ¬ x3 < 0 := fun h => h3 (Int32.lt_trans h (by decide))
    obtain ⟨n, hn, e3⟩ := nI_of2 (n := 8) (by decide) h7 (Int32.not_lt.mp h4)
    have hn1 : 1 ≤ n := by
      rcases Nat.eq_zero_or_pos n with h | h
      · subst h; exact absurd (show x3 < 1 by rw [e3]; decide) h3
      · exact h
    rw [e3, show (16384 : Int32) = nI 16384 from rfl, pk_sub (by omega)] at h6
    obtain ⟨a, ha, e2⟩ := nI_of h5
    rw [e2, nI_leI ha (by omega)] at h6
    obtain ⟨w', g1, g2⟩ := write_L (N := N) (nf := nf) (nb := nb) (c := c) (i := i) (at_ := a) (x5 := x5) hn n 0 N (c.2.2 34) (by omega) (by omega) (fun j hj => absurd hj (by omega))
    rw [sL_self] at g2
    obtain ⟨r, c', m', v1, v2, v3⟩ := op_put (x4 := 0) (x5 := x5) (x7 := 0) (R.set34 (w := w')) hk hN hi (show a + n ≤ 16384 by omega) hn1 (by omega) g1
    have g2' : pf_X6_write_L29 N nf nb N (nI i) (nI a) x5 (nI n) 0 c = _ := g2
    rw [e, e2, e3, g2', v1, v2, Option.bind_some, Option.bind_some]
    exact ⟨r, c', m', rfl, rfl, v3⟩
  · rw [if_neg h6, if_pos (Int32.not_le.mp h6), Option.bind_some, if_pos rfl]; exact bad _
end K8
