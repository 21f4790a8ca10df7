/-! PURE PART: what there is (the calls that only look) -/
theorem fileC {N : Nat} (x : Int32) : (pf_X6_isFile N x = some 0 ∧ pf_X7_isFile N x = some 0) ∨ ∃ i, i < 12 ∧ x = nI i ∧ pf_X6_isFile N x = some 1 ∧ pf_X7_isFile N x = some 1 := by
  unfold pf_X6_isFile pf_X7_isFile
  rcases pk_ix x (n := 12) (by decide) with h | h | ⟨i, hi, h⟩
  · rw [if_pos h]; exact Or.inl ⟨rfl, rfl⟩
  · by_cases h0 : x < 0
    · rw [if_pos h0]; exact Or.inl ⟨rfl, rfl⟩
    · rw [if_neg h0, if_pos (show (12 : Int32) ≤ x from h)]; exact Or.inl ⟨rfl, rfl⟩
  · refine Or.inr ⟨i, hi, h, ?_⟩
    rw [h, if_neg (nI_pos (by omega)), show (12 : Int32) = nI 12 from rfl, if_n (by omega) (by omega), if_neg (by omega)]
    exact ⟨rfl, rfl⟩
theorem pageC {N : Nat} (x : Int32) : (pf_X6_isPage N x = some 0 ∧ pf_X7_isPage N x = some 0) ∨ ∃ i, i < 256 ∧ x = nI i ∧ pf_X6_isPage N x = some 1 ∧ pf_X7_isPage N x = some 1 := by
  unfold pf_X6_isPage pf_X7_isPage
  rcases pk_ix x (n := 256) (by decide) with h | h | ⟨i, hi, h⟩
  · rw [if_pos h]; exact Or.inl ⟨rfl, rfl⟩
  · by_cases h0 : x < 0
    · rw [if_pos h0]; exact Or.inl ⟨rfl, rfl⟩
    · rw [if_neg h0, if_pos (show (256 : Int32) ≤ x from h)]; exact Or.inl ⟨rfl, rfl⟩
  · refine Or.inr ⟨i, hi, h, ?_⟩
    rw [h, if_neg (nI_pos (by omega)), show (256 : Int32) = nI 256 from rfl, if_n (by omega) (by omega), if_neg (by omega)]
    exact ⟨rfl, rfl⟩
theorem spot_n {N i k : Nat} : pf_X6_spotOf N (nI i) (nI k) = some (nI (256 * i + k)) := by
  unfold pf_X6_spotOf
  rw [show (256 : Int32) = nI 256 from rfl, pk_mul, nI_add, Nat.mul_comm]
theorem spot_m {i k : Nat} : (256 : Int32) * nI i + nI k = nI (256 * i + k) := by
  rw [show (256 : Int32) = nI 256 from rfl, pk_mul, nI_add]
section QQ
variable {hd : HDp} {N nf nb ev tm dc rr : Nat} {LA LI LS : List (Nat × Nat)} {c m : St}
theorem q_size (R : Rel hd nf nb LA LI LS ev tm dc rr c m) (x1 : Int32) : ∃ r, pf_X6_size N nf nb x1 c = some r ∧ pf_X7_size N x1 m = some r := by
  unfold pf_X6_size pf_X7_size
  rcases fileC (N := N) x1 with ⟨h1, h2⟩ | ⟨i, hi, e, h1, h2⟩
  · rw [h1, h2, Option.bind_some, Option.bind_some, if_pos rfl, if_pos rfl]; exact ⟨_, rfl, rfl⟩
  · rw [h1, h2, Option.bind_some, Option.bind_some, if_neg z1_ne, if_neg z1_ne, e, bI_n hi (by decide), bI_n hi (by decide), R.2.2.1]
    exact ⟨_, rfl, rfl⟩
theorem Rel.B1 (R : Rel hd nf nb LA LI LS ev tm dc rr c m) : RBy (64 * nf) (m.2.1 15) (c.2.2 16) := R.2.2.2.2.2.2.2.2.2.2.2.2.2.2.2.2.2.2.2.2.2.2.1
theorem Rel.B2 (R : Rel hd nf nb LA LI LS ev tm dc rr c m) : RBy (64 * nb) (m.2.1 16) (c.2.2 3) := R.2.2.2.2.2.2.2.2.2.2.2.2.2.2.2.2.2.2.2.2.2.2.2.1
theorem Rel.B3 (R : Rel hd nf nb LA LI LS ev tm dc rr c m) : RBy 1024 (m.2.1 19) (c.2.2 32) := R.2.2.2.2.2.2.2.2.2.2.2.2.2.2.2.2.2.2.2.2.2.2.2.2
theorem Rel.h1 (R : Rel hd nf nb LA LI LS ev tm dc rr c m) : hd.1 (c.1 12) (m.1 4) := R.2.2.2.2.2.2.2.2.2.2.2.2.2.1
theorem Rel.S (R : Rel hd nf nb LA LI LS ev tm dc rr c m) : RS nf ev (c.2.1 28) (c.2.1 29) (m.2.1 8) (m.2.1 5) (c.1 10) (m.1 7) (c.1 11) (m.1 6) LS := R.2.2.2.2.2.2.2.2.2.2.2.2.2.2.2.2.2.2.2.2.2.1
theorem Rel.D (R : Rel hd nf nb LA LI LS ev tm dc rr c m) : RD nf (c.2.1 18) (m.2.1 7) (c.1 8) dc := R.2.2.2.2.2.2.2.2.2.2.2.2.2.2.2.2.2.2.2.1
theorem Rel.P (R : Rel hd nf nb LA LI LS ev tm dc rr c m) : RPn nf (c.2.1 20) (m.2.1 10) (c.1 9) := R.2.2.2.2.2.2.2.2.2.2.2.2.2.2.2.2.2.2.2.2.1
theorem Rel.I (R : Rel hd nf nb LA LI LS ev tm dc rr c m) : RI (m.2.1 5) LA LI := R.2.2.2.2.2.2.2.2.2.2.2.2.2.2.2.2.2.2.1
theorem Rel.Rc (R : Rel hd nf nb LA LI LS ev tm dc rr c m) : RRec (c.1 1) (c.1 2) (c.1 3) (c.1 4) (m.1 8) (m.1 9) (m.1 10) (m.1 11) (c.2.1 6) (c.2.1 7) (c.2.1 8) (m.2.1 20) (m.2.1 21) (m.2.1 22) rr := R.2.2.2.2.2.2.2.2.2.2.2.2.1
theorem Rel.Bk (R : Rel hd nf nb LA LI LS ev tm dc rr c m) : RK nb (m.2.1 6) (m.2.1 17) (m.2.1 18) (c.1 0) := R.2.2.2.2.2.2.2.2.2.2.2.1
theorem q_hand (R : Rel HD2 nf nb LA LI LS ev tm dc rr c m) (x1 : Int32) : ∃ r, pf_X6_hand N nf nb x1 c = some r ∧ pf_X7_hand N x1 m = some r := by
  obtain ⟨hcm, h, hh, hm⟩ := R.h1
  unfold pf_X6_hand pf_X7_hand
  rw [hcm, hm]
  by_cases h0 : x1 < 0
  · rw [if_pos h0, if_pos h0]; exact ⟨_, rfl, rfl⟩
  · rw [if_neg h0, if_neg h0]
    obtain ⟨j, hj, e⟩ := nI_of h0
    rw [e, il_n hj (by omega), if_n (by omega) hj]
    by_cases hl : j < h
    · rw [if_pos hl, if_neg (by omega), w_byteAt (by omega) (by decide), Option.bind_some, bI_n (by omega) (by decide), cl_n hj]
      exact ⟨_, rfl, congrArg some (R.B3 j (by omega))⟩
    · rw [if_neg hl, if_pos (by omega)]; exact ⟨_, rfl, rfl⟩
theorem q_disk (R : Rel hd nf nb LA LI LS ev tm dc rr c m) (x1 x2 : Int32) : ∃ r, pf_X6_disk N nf nb x1 x2 c = some r ∧ pf_X7_disk N x1 x2 m = some r := by
  have hk1 := R.2.1
  have hnb := R.1.2.2.2.1
  unfold pf_X6_disk pf_X7_disk pf_X0_has
  rw [hk1.2.2]
  by_cases h0 : x1 < 0
  · rw [if_pos h0, if_pos h0, Option.bind_some, if_pos rfl]; exact ⟨_, rfl, rfl⟩
  · rw [if_neg h0, if_neg h0]
    by_cases h1 : nI nb ≤ x1
    · rw [if_pos h1, if_pos h1, Option.bind_some, if_pos rfl]; exact ⟨_, rfl, rfl⟩
    · rw [if_neg h1, if_neg h1, Option.bind_some, if_neg z1_ne]
      by_cases h2 : x2 < 0
      · rw [if_pos h2, if_pos h2]; exact ⟨_, rfl, rfl⟩
      · rw [if_neg h2, if_neg h2]
        by_cases h3 : x2 < 64
        · rw [if_pos h3, if_pos h3]
          obtain ⟨b, hb, e1⟩ := nI_of h0
          obtain ⟨i, hi, e2⟩ := nI_of h2
          have hbn : b < nb := by
            rw [e1] at h1
            exact Nat.lt_of_not_le (fun q => h1 (nI_le q hb))
          have hin : i < 64 := by
            rw [e2] at h3
            exact (nI_ltI hi (by decide)).mp h3
          rw [e1, e2, show (64 : Int32) = nI 64 from rfl, pk_mul, pk_mul, nI_add, nI_add, Nat.mul_comm b 64, w_byteAt (by omega) (by omega), Option.bind_some, bI_n (by omega) (by decide), cl_n (by omega)]
          exact ⟨_, rfl, congrArg some (R.B2 (64 * b + i) (by omega))⟩
        · rw [if_neg h3, if_neg h3]; exact ⟨_, rfl, rfl⟩
theorem q_run (R : Rel hd nf nb LA LI LS ev tm dc rr c m) (x1 x2 : Int32) : ∃ r, pf_X6_run N nf nb x1 x2 c = some r ∧ pf_X7_run N x1 x2 m = some r := by
  obtain ⟨a1, a2, a3, a4, a5, a6, a7, ⟨r, hr, e⟩, a9⟩ := R.Rc
  unfold pf_X6_run pf_X7_run
  rw [← a3, e]
  by_cases h0 : x2 < 0
  · rw [if_pos h0, if_pos h0]; exact ⟨_, rfl, rfl⟩
  · rw [if_neg h0, if_neg h0]
    by_cases h1 : x2 ≤ 2
    · rw [if_pos h1, if_pos h1]
      by_cases h2 : x1 < 0
      · rw [if_pos h2, if_pos h2]; exact ⟨_, rfl, rfl⟩
      · rw [if_neg h2, if_neg h2]
        obtain ⟨j, hj, e1⟩ := nI_of h2
        rw [e1, il_n hj (by omega), il_n hj (by omega)]
        by_cases h3 : j < r
        · rw [if_pos h3]
          simp only [bI_n (show j < 256 by omega) (show 256 < 2 ^ 31 by decide), bI_n (show j < 4000 by omega) (show 4000 < 2 ^ 31 by decide), cl_n hj, a4, a5, a6]
          rw [if_pos h3]
          by_cases h4 : x2 = 0
          · rw [if_pos h4]; exact ⟨_, rfl, rfl⟩
          · rw [if_neg h4]
            by_cases h5 : x2 = 1
            · rw [if_pos h5]; exact ⟨_, rfl, rfl⟩
            · rw [if_neg h5]; exact ⟨_, rfl, rfl⟩
        · rw [if_neg h3, if_neg h3]; exact ⟨_, rfl, rfl⟩
    · rw [if_neg h1, if_neg h1]; exact ⟨_, rfl, rfl⟩
theorem q_listed (R : Rel hd nf nb LA LI LS ev tm dc rr c m) (x1 x2 : Int32) : ∃ r, pf_X6_listed N nf nb x1 x2 c = some r ∧ pf_X7_listed N x1 x2 m = some r := by
  have hL := R.L
  have hlen := hL.len
  have hnf := R.1.2.1
  have key : ∀ (L : List (Nat × Nat)) (ra ma : Nat → Int32) (ca mca : Int32), RowIs ra ca (L.map Prod.fst) → RowIs ma mca (L.map Prod.snd) → L.length ≤ nf → (∀ f p, (f, p) ∈ L → f < nf ∧ c.2.1 17 f = nI p) → ∃ r, (pf_X3_at N nf x2 (ra, ca)).bind (fun z => pf_X6_listed_b29 N nf nb c z) = some r ∧ (if x2 < 0 then some (-1 : Int32) else if x2 < mca then bI x2 65 (some (ma (Int32.toNatClampNeg x2))) else some (-1)) = some r := by
    intro L ra ma ca mca r1 r2 hl hm
    by_cases h0 : x2 < 0
    · rw [if_pos h0, o_atN r1 (fun q => absurd h0 (Int32.not_lt.mpr q.1)), Option.bind_some]
      unfold pf_X6_listed_b29
      rw [if_pos rfl]; exact ⟨_, rfl, rfl⟩
    · rw [if_neg h0]
      obtain ⟨j, hj, e⟩ := nI_of h0
      by_cases h1 : j < L.length
      · obtain ⟨⟨f, p⟩, hx⟩ : ∃ x, L[j]? = some x := ⟨L[j]'h1, by rw [List.getElem?_eq_getElem h1]⟩
        obtain ⟨hf, hs⟩ := hm f p (List.mem_of_getElem? hx)
        rw [e, r2.1, il_n hj (by simp; omega), if_pos (by simpa using h1), bI_n (by omega) (by decide), cl_n hj, r2.2 j p (by rw [List.getElem?_map, hx]; rfl)]
        rw [o_at (τ := (ra, ca)) r1 (by rw [List.getElem?_map, hx]; rfl) (by simp; omega) (by omega), Option.bind_some]
        unfold pf_X6_listed_b29
        rw [if_neg (m1_ne (by omega)), bI_n hf (by omega), cl_n (by omega), hs]
        exact ⟨_, rfl, rfl⟩
      · rw [e, r2.1, il_n hj (by simp; omega), if_neg (by simpa using h1), o_atN r1 (fun q => h1 (by have := (nI_ltI hj (by simp; omega)).mp q.2; simpa using this)), Option.bind_some]
        unfold pf_X6_listed_b29
        rw [if_pos rfl]; exact ⟨_, rfl, rfl⟩
  unfold pf_X6_listed pf_X7_listed pf_X7_listed_b20
  by_cases hz : x1 = 0
  · obtain ⟨r, e1, e2⟩ := key LI (c.2.1 26) (m.2.1 13) (c.1 7) (m.1 3) hL.2.1 hL.2.2.2.1 (by omega) (fun f p h => ⟨((hL.2.2.2.2.2.2.2 f p).mp h).1, ((hL.2.2.2.2.2.2.2 f p).mp h).2.2.1⟩)
    refine ⟨r, ?_, ?_⟩
    · rw [if_pos hz]; exact e1
    · simp only [if_pos hz]; exact e2
  · obtain ⟨r, e1, e2⟩ := key LA (c.2.1 24) (m.2.1 12) (c.1 6) (m.1 2) hL.1 hL.2.2.1 (by omega) (fun f p h => ⟨((hL.2.2.2.2.2.2.1 f p).mp h).1, ((hL.2.2.2.2.2.2.1 f p).mp h).2.2.1⟩)
    refine ⟨r, ?_, ?_⟩
    · rw [if_neg hz]; exact e1
    · simp only [if_neg hz]; exact e2
theorem q_fail (R : Rel hd nf nb LA LI LS ev tm dc rr c m) (x1 : Int32) {x2 : Int32} (hx : Bo x2) : ∃ r c' m', pf_X6_fail N nf nb x1 x2 c = some (r, c') ∧ pf_X7_fail N x1 x2 m = some (r, m') ∧ Rel hd nf nb LA LI LS ev tm dc rr c' m' ∧ m'.1 4 = m.1 4 := by
  have hR := R
  obtain ⟨hK, hk1, s1, hZ, w1, n1, e1, f1, b1, b2, b3, hBk, hRc, h1, t1, hF, hT, hL, hI, hD, hPn, hS, B1, B2, B3⟩ := R
  have hnb := hK.2.2.2.1
  unfold pf_X6_fail pf_X7_fail pf_X0_has pf_X7_fail_b29
  rw [hk1.2.2]
  by_cases h0 : x1 < 0
  · rw [if_pos h0, if_pos h0, Option.bind_some, if_pos rfl]; exact ⟨_, _, _, rfl, rfl, hR, rfl⟩
  · rw [if_neg h0, if_neg h0]
    obtain ⟨b, hb, e⟩ := nI_of h0
    rw [e, if_n (by omega) hb, il_n hb (by omega)]
    by_cases h2 : b < nb
    · rw [if_neg (by omega), if_pos h2, Option.bind_some, if_neg z1_ne, bI_n h2 (by omega), bI_n h2 (by omega), bI_n (by omega) (by decide), cl_n hb, b3]
      simp only [lt_, bI_n (show b < 512 by omega) (show 512 < 2 ^ 31 by decide), cl_n hb, bo_nar hx, bZ_b (show Bo 0 from Or.inl rfl), bZ_b (show Bo 1 from Or.inr rfl)]
      by_cases h3 : m.2.1 18 b = x2
      · rw [if_pos h3, if_pos h3]
        refine ⟨0, c, sA m 18 (upd (m.2.1 18) b x2), rfl, rfl, ?_, rfl⟩
        rw [upd_self _ _ h3, sA_self]; exact hR
      · rw [if_neg h3, if_neg h3]
        refine ⟨1, sA c 4 (upd (m.2.1 18) b x2), sA m 18 (upd (m.2.1 18) b x2), rfl, rfl, ⟨hK, hk1, s1, hZ, w1, n1, e1, f1, b1, b2, rfl, ⟨hBk.1, hBk.2.1, fun j hj => ?_, hBk.2.2.2⟩, hRc, h1, t1, hF, hT, hL, hI, hD, hPn, hS, B1, B2, B3⟩, rfl⟩
        refine ⟨(hBk.2.2.1 j hj).1, ?_⟩
        show Bo (upd (m.2.1 18) b x2 j)
        by_cases e : j = b
        · rw [e, us_]; exact hx
        · rw [un e]; exact (hBk.2.2.1 j hj).2
    · rw [if_pos (by omega), if_neg h2, Option.bind_some, if_pos rfl]; exact ⟨_, _, _, rfl, rfl, hR, rfl⟩
end QQ
