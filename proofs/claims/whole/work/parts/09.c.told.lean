/-! PURE PART: told, tree -/
section Q3
variable {hd : HDp} {N nf nb ev tm dc rr : Nat} {LA LI LS : List (Nat × Nat)} {c m : St}
theorem isDirty_m (R : Rel hd nf nb LA LI LS ev tm dc rr c m) {p : Nat} (hp : p < 3072) : pf_X7_isDirty N (nI p) m = some (if m.2.1 7 p = -1 then 0 else 1) := by
  have hnf := R.1.2.1
  rcases R.io hp with h | ⟨f, hf, g1, g2⟩
  · unfold pf_X7_isDirty
    rw [bI_n hp (by decide), cl_n (by omega), (isOut R hp h).1, if_pos (by decide), if_pos rfl]
  · have hmf := (R.mof hf hp g2).2.2.1
    rcases dirtyC (N := N) R hf hp g2 with ⟨h0, d1, d2⟩ | ⟨h0, d1, d2⟩
    · rw [d2, hmf, if_pos h0]
    · rw [d2, hmf, if_neg h0]
theorem m_dirties (R : Rel hd nf nb LA LI LS ev tm dc rr c m) (hN : 5000 ≤ N) : pf_X7_dirties N m = some (nI dc) := by
  have key : ∀ (d k n : Nat), k + d = 3072 → d < n → pf_X7_dirties_L4 N m n (nI (cnt (fun p => !(m.2.1 7 p == -1)) k)) (nI k) = some (nI (cnt (fun p => !(m.2.1 7 p == -1)) 3072)) := by
    intro d
    induction d with
    | zero =>
      intro k n hk hd
      obtain ⟨n, rfl⟩ : ∃ j, n = j + 1 := ⟨n - 1, by omega⟩
      rw [pf_X7_dirties_L4, show (3072 : Int32) = nI 3072 from rfl, if_n (by omega) (by omega), if_pos (by omega), show k = 3072 by omega]
    | succ d ih =>
      intro k n hk hd
      obtain ⟨n, rfl⟩ : ∃ j, n = j + 1 := ⟨n - 1, by omega⟩
      have hs := ih (k + 1) n (by omega) (by omega)
      rw [pf_X7_dirties_L4, isDirty_m R (by omega), show (3072 : Int32) = nI 3072 from rfl, if_n (by omega) (by omega), if_neg (by omega), Option.bind_some]
      unfold pf_X7_dirties_b25
      simp only [nI_1]
      have hc : cnt (fun p => !(m.2.1 7 p == -1)) (k + 1) = cnt (fun p => !(m.2.1 7 p == -1)) k + (if (!(m.2.1 7 k == -1)) = true then 1 else 0) := rfl
      rw [hc] at hs
      by_cases h : m.2.1 7 k = -1
      · rw [if_pos h, if_pos rfl, x_add0]
        simpa [h] using hs
      · rw [if_neg h, if_neg z1_ne]
        simpa [h] using hs
  unfold pf_X7_dirties
  rw [R.D.2.2]
  exact key 3072 0 N (by omega) (by omega)
theorem m_pins (R : Rel hd nf nb LA LI LS ev tm dc rr c m) (hN : 5000 ≤ N) : pf_X7_pins N m = some (c.1 9) := by
  have key : ∀ (d k n : Nat), k + d = 3072 → d < n → pf_X7_pins_L4 N m n (nI (cnt (fun p => !(m.2.1 10 p == 0)) k)) (nI k) = some (nI (cnt (fun p => !(m.2.1 10 p == 0)) 3072)) := by
    intro d
    induction d with
    | zero =>
      intro k n hk hd
      obtain ⟨n, rfl⟩ : ∃ j, n = j + 1 := ⟨n - 1, by omega⟩
      rw [pf_X7_pins_L4, show (3072 : Int32) = nI 3072 from rfl, if_n (by omega) (by omega), if_pos (by omega), show k = 3072 by omega]
    | succ d ih =>
      intro k n hk hd
      obtain ⟨n, rfl⟩ : ∃ j, n = j + 1 := ⟨n - 1, by omega⟩
      have hs := ih (k + 1) n (by omega) (by omega)
      rw [pf_X7_pins_L4, show (3072 : Int32) = nI 3072 from rfl, if_n (by omega) (by omega), if_neg (by omega), bI_n (by omega) (by decide), cl_n (by omega)]
      unfold pf_X7_pins_b26
      simp only [nI_1]
      have hc : cnt (fun p => !(m.2.1 10 p == 0)) (k + 1) = cnt (fun p => !(m.2.1 10 p == 0)) k + (if (!(m.2.1 10 k == 0)) = true then 1 else 0) := rfl
      rw [hc] at hs
      by_cases h : m.2.1 10 k = 0
      · rw [if_pos h, x_add0]
        simpa [h] using hs
      · rw [if_neg h]
        simpa [h] using hs
  obtain ⟨q, h1, h2, h3⟩ := R.P
  unfold pf_X7_pins
  rw [h1, h3]
  exact key 3072 0 N (by omega) (by omega)
theorem m_pagesIn (R : Rel hd nf nb LA LI LS ev tm dc rr c m) (hN : 5000 ≤ N) : pf_X7_pagesIn N m = some (nI (LA.length + LI.length)) := by
  have hnf := R.1.2.1
  have key : ∀ (d k n : Nat), k + d = 3072 → d < n → pf_X7_pagesIn_L4 N m n (nI (cnt (fun p => !(m.2.1 5 p == -1)) k)) (nI k) = some (nI (cnt (fun p => !(m.2.1 5 p == -1)) 3072)) := by
    intro d
    induction d with
    | zero =>
      intro k n hk hd
      obtain ⟨n, rfl⟩ : ∃ j, n = j + 1 := ⟨n - 1, by omega⟩
      rw [pf_X7_pagesIn_L4, show (3072 : Int32) = nI 3072 from rfl, if_n (by omega) (by omega), if_pos (by omega), show k = 3072 by omega]
    | succ d ih =>
      intro k n hk hd
      obtain ⟨n, rfl⟩ : ∃ j, n = j + 1 := ⟨n - 1, by omega⟩
      have hs := ih (k + 1) n (by omega) (by omega)
      have hio : m.2.1 5 k = -1 ∨ ∃ f, f < 2 ^ 31 ∧ m.2.1 5 k = nI f := by
        rcases R.io (show k < 3072 by omega) with h | ⟨f, hf, g1, -⟩
        · exact Or.inl h
        · exact Or.inr ⟨f, by omega, g1⟩
      rw [pf_X7_pagesIn_L4, isIn_n (by omega) hio, show (3072 : Int32) = nI 3072 from rfl, if_n (by omega) (by omega), if_neg (by omega), Option.bind_some]
      unfold pf_X7_pagesIn_b25
      simp only [nI_1]
      have hc : cnt (fun p => !(m.2.1 5 p == -1)) (k + 1) = cnt (fun p => !(m.2.1 5 p == -1)) k + (if (!(m.2.1 5 k == -1)) = true then 1 else 0) := rfl
      rw [hc] at hs
      by_cases h : m.2.1 5 k = -1
      · rw [if_pos h, if_pos rfl, x_add0]
        simpa [h] using hs
      · rw [if_neg h, if_neg z1_ne]
        simpa [h] using hs
  have hI := R.I
  unfold RI at hI
  unfold pf_X7_pagesIn
  rw [← hI]
  exact key 3072 0 N (by omega) (by omega)
theorem m_free (R : Rel hd nf nb LA LI LS ev tm dc rr c m) (hN : 5000 ≤ N) : pf_X7_freeBlocks N m = some (c.1 0) := by
  have hnb := R.1.2.2.2.1
  have hk1 := R.2.1
  have key : ∀ (d k n : Nat), k + d = nb → d < n → pf_X7_freeBlocks_L4 N m n (nI (cnt (fun p => m.2.1 17 p == 0) k)) (nI k) = some (nI (cnt (fun p => m.2.1 17 p == 0) nb)) := by
    intro d
    induction d with
    | zero =>
      intro k n hk hd
      obtain ⟨n, rfl⟩ : ∃ j, n = j + 1 := ⟨n - 1, by omega⟩
      rw [pf_X7_freeBlocks_L4, hk1.2.2, if_n (by omega) (by omega), if_pos (by omega), show k = nb by omega]
    | succ d ih =>
      intro k n hk hd
      obtain ⟨n, rfl⟩ : ∃ j, n = j + 1 := ⟨n - 1, by omega⟩
      have hs := ih (k + 1) n (by omega) (by omega)
      rw [pf_X7_freeBlocks_L4, hk1.2.2, if_n (by omega) (by omega), if_neg (by omega), bI_n (by omega) (by decide), cl_n (by omega)]
      unfold pf_X7_freeBlocks_b27
      simp only [nI_1]
      have hc : cnt (fun p => m.2.1 17 p == 0) (k + 1) = cnt (fun p => m.2.1 17 p == 0) k + (if (m.2.1 17 k == 0) = true then 1 else 0) := rfl
      rw [hc] at hs
      by_cases h : m.2.1 17 k = 0
      · rw [if_pos h]
        simpa [h] using hs
      · rw [if_neg h, x_add0]
        simpa [h] using hs
  unfold pf_X7_freeBlocks
  rw [R.Bk.2.2.2]
  exact key nb 0 N (by omega) (by omega)
theorem err_L (R : Rel hd nf nb LA LI LS ev tm dc rr c m) : ∀ (d k n n' : Nat) (a : Int32), k + d = 12 → d < n → d < n' → ∃ r, pf_X1_withError_L13 N nf nb c n a (nI 12) (nI k) = some r ∧ pf_X7_wrongFiles_L4 N m n' a (nI k) = some r := by
  have he := R.2.2.2.2.2.2.1
  intro d
  induction d with
  | zero =>
    intro k n n' a hk hn hn'
    obtain ⟨n, rfl⟩ : ∃ j, n = j + 1 := ⟨n - 1, by omega⟩
    obtain ⟨n', rfl⟩ : ∃ j, n' = j + 1 := ⟨n' - 1, by omega⟩
    rw [pf_X1_withError_L13, pf_X7_wrongFiles_L4, show (12 : Int32) = nI 12 from rfl, if_n (by omega) (by omega), if_pos (by omega), if_n (by omega) (by omega), if_pos (by omega)]
    exact ⟨_, rfl, rfl⟩
  | succ d ih =>
    intro k n n' a hk hn hn'
    obtain ⟨n, rfl⟩ : ∃ j, n = j + 1 := ⟨n - 1, by omega⟩
    obtain ⟨n', rfl⟩ : ∃ j, n' = j + 1 := ⟨n' - 1, by omega⟩
    rw [pf_X1_withError_L13, pf_X7_wrongFiles_L4, show (12 : Int32) = nI 12 from rfl, if_n (by omega) (by omega), if_neg (by omega), if_n (by omega) (by omega), if_neg (by omega), bI_n (by omega) (by decide), bI_n (by omega) (by decide), cl_n (by omega), he]
    unfold pf_X1_withError_b33 pf_X7_wrongFiles_b25
    simp only [lt_, nI_1]
    by_cases h : m.2.1 4 k = 0
    · rw [if_pos h, if_pos h, x_add0]
      exact ih (k + 1) n n' a (by omega) (by omega) (by omega)
    · rw [if_neg h, if_neg h]
      exact ih (k + 1) n n' (a + 1) (by omega) (by omega) (by omega)
theorem q_told (R : Rel hd nf nb LA LI LS ev tm dc rr c m) (hN : 5000 ≤ N) (x : Int32) : ∃ r, pf_X6_told N nf nb x c = some r ∧ pf_X7_told N x m = some r := by
  have hL := R.L
  have hlen := hL.len
  have hS := R.S
  have hRc := R.Rc
  unfold pf_X6_told pf_X7_told
  by_cases c0 : x = 0
  · rw [if_pos c0, if_pos c0, m_pagesIn R hN, Option.bind_some, hL.1.1, hL.2.1.1, List.length_map, List.length_map, nI_add]; exact ⟨_, rfl, rfl⟩
  rw [if_neg c0, if_neg c0]
  by_cases c1 : x = 1
  · rw [if_pos c1, if_pos c1, hL.1.1, hL.2.2.1.1, List.length_map, List.length_map]; exact ⟨_, rfl, rfl⟩
  rw [if_neg c1, if_neg c1]
  by_cases c2 : x = 2
  · rw [if_pos c2, if_pos c2, m_dirties R hN, Option.bind_some, R.D.1]; exact ⟨_, rfl, rfl⟩
  rw [if_neg c2, if_neg c2]
  by_cases c3 : x = 3
  · rw [if_pos c3, if_pos c3, m_pins R hN, Option.bind_some]; exact ⟨_, rfl, rfl⟩
  rw [if_neg c3, if_neg c3]
  by_cases c4 : x = 4
  · rw [if_pos c4, if_pos c4, hS.2.1]; exact ⟨_, rfl, rfl⟩
  rw [if_neg c4, if_neg c4]
  by_cases c5 : x = 5
  · rw [if_pos c5, if_pos c5, hS.2.2.1, hS.2.2.2.1]; exact ⟨_, rfl, rfl⟩
  rw [if_neg c5, if_neg c5]
  by_cases c6 : x = 6
  · rw [if_pos c6, if_pos c6, hRc.1]; exact ⟨_, rfl, rfl⟩
  rw [if_neg c6, if_neg c6]
  by_cases c7 : x = 7
  · rw [if_pos c7, if_pos c7, hRc.2.1]; exact ⟨_, rfl, rfl⟩
  rw [if_neg c7, if_neg c7]
  by_cases c8 : x = 8
  · rw [if_pos c8, if_pos c8, m_free R hN, Option.bind_some]; exact ⟨_, rfl, rfl⟩
  rw [if_neg c8, if_neg c8]
  by_cases c9 : x = 9
  · have ht := R.2.2.2.2.2.2.2.2.2.2.2.2.2.2.1
    rw [if_pos c9, if_pos c9, ht.1, ht.2]; exact ⟨_, rfl, rfl⟩
  rw [if_neg c9, if_neg c9]
  by_cases c10 : x = 10
  · rw [if_pos c10, if_pos c10, hRc.2.2.1]; exact ⟨_, rfl, rfl⟩
  rw [if_neg c10, if_neg c10]
  by_cases c11 : x = 11
  · rw [if_pos c11, if_pos c11]
    unfold pf_X1_withError pf_X7_wrongFiles
    obtain ⟨r, e1, e2⟩ := err_L (N := N) R 12 0 N N 0 (by omega) (by omega) (by omega)
    have e1 : pf_X1_withError_L13 N nf nb c N 0 (nI 12) 0 = some r := e1
    have e2 : pf_X7_wrongFiles_L4 N m N 0 0 = some r := e2
    rw [e1, e2, Option.bind_some]
    exact ⟨r, rfl, rfl⟩
  rw [if_neg c11, if_neg c11]
  exact ⟨_, rfl, rfl⟩
-- the tree
theorem entE (R : Rel hd nf nb LA LI LS ev tm dc rr c m) {p : Nat} (hp : p < 3072) : ∃ b, Bo b ∧ pf_X6_isEntry N nf nb (nI p) c = some b ∧ pf_X7_isEntry N (nI p) m = some b := by
  have hnf := R.1.2.1
  unfold pf_X6_isEntry pf_X7_isEntry
  rw [frameOf_n hp, Option.bind_some, R.fo, bI_n hp (by decide), cl_n (by omega)]
  rcases R.io hp with h | ⟨f, hf, g1, g2⟩
  · rw [isIn_n hp (Or.inl h), h, if_pos rfl, if_pos rfl, Option.bind_some, if_pos rfl]
    rcases shOf (N := N) R hp with ⟨g1, g2⟩ | ⟨v, hv, hv2, g1, g2⟩
    · rw [g1, g2, Option.bind_some, if_pos rfl, if_pos (by decide)]; exact ⟨0, Or.inl rfl, rfl, rfl⟩
    · rw [g1, g2, Option.bind_some, if_neg (m1_ne hv2), if_neg (nI_nle hv hv2)]; exact ⟨1, Or.inr rfl, rfl, rfl⟩
  · rw [isIn_n hp (Or.inr ⟨f, by omega, g1⟩), g1, if_neg (m1_ne (by omega)), if_neg (m1_ne (by omega)), Option.bind_some, if_neg z1_ne]
    exact ⟨1, Or.inr rfl, rfl, rfl⟩
theorem ent_L (R : Rel hd nf nb LA LI LS ev tm dc rr c m) {i : Nat} (hi : i < 12) : ∀ (d k n n' : Nat) (a : Int32), k + d = 256 → d < n → d < n' → ∃ r, pf_X6_treeEntries_L4 N nf nb c n (nI i) a (nI k) = some r ∧ pf_X7_tree_L73 N m n' (nI i) a (nI k) = some r := by
  intro d
  induction d with
  | zero =>
    intro k n n' a hk hn hn'
    obtain ⟨n, rfl⟩ : ∃ j, n = j + 1 := ⟨n - 1, by omega⟩
    obtain ⟨n', rfl⟩ : ∃ j, n' = j + 1 := ⟨n' - 1, by omega⟩
    rw [pf_X6_treeEntries_L4, pf_X7_tree_L73, show (256 : Int32) = nI 256 from rfl, if_n (by omega) (by omega), if_pos (by omega), if_n (by omega) (by omega), if_pos (by omega)]
    exact ⟨_, rfl, rfl⟩
  | succ d ih =>
    intro k n n' a hk hn hn'
    obtain ⟨n, rfl⟩ : ∃ j, n = j + 1 := ⟨n - 1, by omega⟩
    obtain ⟨n', rfl⟩ : ∃ j, n' = j + 1 := ⟨n' - 1, by omega⟩
    rw [pf_X6_treeEntries_L4, pf_X7_tree_L73, spot_n, spot_m, show (256 : Int32) = nI 256 from rfl, if_n (by omega) (by omega), if_neg (by omega), if_n (by omega) (by omega), if_neg (by omega), Option.bind_some]
    obtain ⟨b, hb, e1, e2⟩ := entE (N := N) R (show 256 * i + k < 3072 by omega)
    rw [e1, e2, Option.bind_some, Option.bind_some]
    unfold pf_X6_treeEntries_b26 pf_X7_tree_b102
    rw [nI_1]
    rcases hb with h | h
    · rw [h, if_pos rfl, if_pos rfl, x_add0]
      exact ih (k + 1) n n' a (by omega) (by omega) (by omega)
    · rw [h, if_neg z1_ne, if_neg z1_ne]
      exact ih (k + 1) n n' (a + 1) (by omega) (by omega) (by omega)
def hgt (g : Nat) : Nat := if g < 4 then 1 else if g < 16 then 2 else if g < 64 then 3 else 4
theorem hgt_c (g : Nat) (hg : g < 256) : (if (4 : Int32) ≤ nI g then if (16 : Int32) ≤ nI g then if (64 : Int32) ≤ nI g then some (4 : Int32) else some 3 else some 2 else some 1) = some (nI (hgt g)) := by
  unfold hgt
  rw [show (4 : Int32) = nI 4 from rfl, show (16 : Int32) = nI 16 from rfl, show (64 : Int32) = nI 64 from rfl, if_n (by omega) (by omega), if_n (by omega) (by omega), if_n (by omega) (by omega)]
  by_cases h1 : g < 4
  · rw [if_neg (by omega), if_pos h1]; rfl
  · rw [if_pos (by omega), if_neg h1]
    by_cases h2 : g < 16
    · rw [if_neg (by omega), if_pos h2]; rfl
    · rw [if_pos (by omega), if_neg h2]
      by_cases h3 : g < 64
      · rw [if_neg (by omega), if_pos h3]; rfl
      · rw [if_pos (by omega), if_neg h3]
theorem hgt_m {g : Nat} (hg : g < 256) (hN : 5000 ≤ N) : pf_X7_height_L46 N m N (nI g) 1 = some (nI (hgt g)) := by
  obtain ⟨k, rfl⟩ : ∃ k, N = k + 5 := ⟨N - 5, by omega⟩
  unfold hgt
  rw [pf_X7_height_L46, show (1 : Int32) <<< (((2 : Int32) * 1) &&& 31) = nI 4 from by decide, il_n (by omega) (by omega)]
  by_cases h1 : g < 4
  · rw [if_pos h1, if_pos h1]; rfl
  · rw [if_neg h1, if_neg h1, pf_X7_height_L46, show (1 : Int32) <<< (((2 : Int32) * (1 + 1)) &&& 31) = nI 16 from by decide, il_n (by omega) (by omega)]
    by_cases h2 : g < 16
    · rw [if_pos h2, if_pos h2]; rfl
    · rw [if_neg h2, if_neg h2, pf_X7_height_L46, show (1 : Int32) <<< (((2 : Int32) * (1 + 1 + 1)) &&& 31) = nI 64 from by decide, il_n (by omega) (by omega)]
      by_cases h3 : g < 64
      · rw [if_pos h3, if_pos h3]; rfl
      · rw [if_neg h3, if_neg h3, pf_X7_height_L46, show (1 : Int32) <<< (((2 : Int32) * (1 + 1 + 1 + 1)) &&& 31) = nI 256 from by decide, il_n (by omega) (by omega), if_pos (by omega)]; rfl
/-- the greatest entry: what the class, coming down, finds -/
theorem hC_L (R : Rel hd nf nb LA LI LS ev tm dc rr c m) {i : Nat} (hi : i < 12) : ∀ (k n : Nat), k ≤ 256 → k < n → ∃ g : Int32, ((g = -1 ∧ ∀ j, j < k → pf_X7_isEntry N (nI (256 * i + j)) m = some 0) ∨ ∃ q, q < k ∧ g = nI q ∧ pf_X7_isEntry N (nI (256 * i + q)) m = some 1 ∧ ∀ j, q < j → j < k → pf_X7_isEntry N (nI (256 * i + j)) m = some 0) ∧ pf_X6_treeHeight_L4 N nf nb c n (nI i) (nI k - 1) = some (if g = -1 then 0 else nI (hgt g.toNatClampNeg)) := by
  intro k
  induction k with
  | zero =>
    intro n hk hn
    obtain ⟨n, rfl⟩ : ∃ j, n = j + 1 := ⟨n - 1, by omega⟩
    refine ⟨-1, Or.inl ⟨rfl, fun j hj => absurd hj (by omega)⟩, ?_⟩
    rw [pf_X6_treeHeight_L4, if_pos (by decide), if_pos rfl]
  | succ k ih =>
    intro n hk hn
    obtain ⟨n, rfl⟩ : ∃ j, n = j + 1 := ⟨n - 1, by omega⟩
    rw [pf_X6_treeHeight_L4, nI_pred, if_neg (nI_pos (by omega)), spot_n, Option.bind_some]
    obtain ⟨b, hb, e1, e2⟩ := entE (N := N) R (show 256 * i + k < 3072 by omega)
    rw [e1, Option.bind_some]
    rcases hb with h | h
    · rw [h] at e2
      rw [h, if_pos rfl]
      have hm1 : nI k + (-1 : Int32) = nI k - 1 := by
        apply Int32.toBitVec_inj.mp
        rw [Int32.toBitVec_add, Int32.toBitVec_sub]
        show _ + (-1#32) = _ - 1#32
        rw [BitVec.sub_eq_add_neg]
      rw [hm1]
      obtain ⟨g, hg, x1⟩ := ih n (by omega) (by omega)
      refine ⟨g, ?_, x1⟩
      rcases hg with ⟨hg, h0⟩ | ⟨q, hq, hg, hq1, h0⟩
      · refine Or.inl ⟨hg, fun j hj => ?_⟩
        by_cases e : j = k
        · rw [e]; exact e2
        · exact h0 j (by omega)
      · refine Or.inr ⟨q, by omega, hg, hq1, fun j h1 hj => ?_⟩
        by_cases e : j = k
        · rw [e]; exact e2
        · exact h0 j h1 (by omega)
    · rw [h] at e2
      rw [h, if_neg z1_ne, hgt_c k (by omega)]
      refine ⟨nI k, Or.inr ⟨k, by omega, rfl, e2, fun j h1 h2 => absurd h1 (by omega)⟩, ?_⟩
      rw [if_neg (m1_ne (by omega)), cl_n (by omega)]
theorem hM_L (R : Rel hd nf nb LA LI LS ev tm dc rr c m) {i : Nat} (hi : i < 12) (hN : 5000 ≤ N) {g : Int32} (hg : (g = -1 ∧ ∀ j, j < 256 → pf_X7_isEntry N (nI (256 * i + j)) m = some 0) ∨ ∃ q, q < 256 ∧ g = nI q ∧ pf_X7_isEntry N (nI (256 * i + q)) m = some 1 ∧ ∀ j, q < j → j < 256 → pf_X7_isEntry N (nI (256 * i + j)) m = some 0) : ∀ (d k n : Nat) (a : Int32), k + d = 256 → d < n → (a = g ∨ ∃ q, k ≤ q ∧ q < 256 ∧ g = nI q ∧ pf_X7_isEntry N (nI (256 * i + q)) m = some 1) → (g = -1 → a = -1) → pf_X7_height_L4 N m n (nI i) a (nI k) = some (if g = -1 then 0 else nI (hgt g.toNatClampNeg)) := by
  intro d
  induction d with
  | zero =>
    intro k n a hk hn ha ha1
    obtain ⟨n, rfl⟩ : ∃ j, n = j + 1 := ⟨n - 1, by omega⟩
    have hag : a = g := by
      rcases ha with h | ⟨q, h1, h2, -⟩
      · exact h
      · omega
    rw [pf_X7_height_L4, show (256 : Int32) = nI 256 from rfl, if_n (by omega) (by omega), if_pos (by omega), hag]
    by_cases h : g = -1
    · rw [if_pos h, if_pos h]
    · rw [if_neg h, if_neg h]
      rcases hg with ⟨h2, -⟩ | ⟨q, hq, e, -⟩
      · exact absurd h2 h
      · rw [e, cl_n (by omega)]; exact hgt_m hq hN
  | succ d ih =>
    intro k n a hk hn ha ha1
    obtain ⟨n, rfl⟩ : ∃ j, n = j + 1 := ⟨n - 1, by omega⟩
    rw [pf_X7_height_L4, spot_m, show (256 : Int32) = nI 256 from rfl, if_n (by omega) (by omega), if_neg (by omega)]
    obtain ⟨b, hb, e1, e2⟩ := entE (N := N) R (show 256 * i + k < 3072 by omega)
    unfold pf_X7_height_b30
    rw [e2, Option.bind_some, nI_1]
    rcases hb with h | h
    · rw [h] at e2
      rw [h, if_pos rfl]
      refine ih (k + 1) n a (by omega) (by omega) ?_ ha1
      rcases ha with h | ⟨q, h1, h2, h3, h4⟩
      · exact Or.inl h
      · refine Or.inr ⟨q, ?_, h2, h3, h4⟩
        by_cases e : q = k
        · subst e; rw [e2] at h4; cases h4
        · omega
    · rw [h] at e2
      rw [h, if_neg z1_ne]
      rcases hg with ⟨hg1, h0⟩ | ⟨q, hq, hg1, hq1, h0⟩
      · have := h0 k (by omega)
        rw [e2] at this; cases this
      · refine ih (k + 1) n (nI k) (by omega) (by omega) ?_ (fun e => absurd (hg1.symm.trans e) (m1_ne (by omega)))
        by_cases e : k = q
        · subst e; exact Or.inl hg1.symm
        · by_cases e3 : q < k
          · have := h0 k e3 (by omega)
            rw [e2] at this; cases this
          · exact Or.inr ⟨q, by omega, hq, hg1, hq1⟩
theorem q_height (R : Rel hd nf nb LA LI LS ev tm dc rr c m) {i : Nat} (hi : i < 12) (hN : 5000 ≤ N) : ∃ h, h ≤ 4 ∧ pf_X6_treeHeight N nf nb (nI i) c = some (nI h) ∧ pf_X7_height N (nI i) m = some (nI h) := by
  obtain ⟨g, hg, x1⟩ := hC_L (N := N) R hi 256 N (by omega) (by omega)
  have x2 := hM_L R hi hN hg 256 0 N (-1) (by omega) (by omega) (by
    rcases hg with ⟨h, -⟩ | ⟨q, hq, e, h1, -⟩
    · exact Or.inl h.symm
    · exact Or.inr ⟨q, by omega, hq, e, h1⟩) (fun _ => rfl)
  have x1 : pf_X6_treeHeight N nf nb (nI i) c = _ := x1
  have x2 : pf_X7_height N (nI i) m = _ := x2
  rw [x1, x2]
  by_cases h : g = -1
  · rw [if_pos h]; exact ⟨0, by omega, rfl, rfl⟩
  · rw [if_neg h]
    refine ⟨_, ?_, rfl, rfl⟩
    unfold hgt
    split <;> (try split) <;> (try split) <;> omega
theorem nod_L (R : Rel hd nf nb LA LI LS ev tm dc rr c m) {i : Nat} (hi : i < 12) {JC : Int32 → Int32 → Int32 → Int32 → Option Int32} {JM : Int32 → Int32 → Int32 → Int32 → Option Int32} (x2 x4 : Int32) (hJ : ∀ a : Int32, ∃ r, JC (nI i) x2 a (x4 + 1) = some r ∧ JM (nI i) a x2 (x4 + 1) = some r) : ∀ (d k n n' : Nat) (a l : Int32), k + d = 256 → d < n → d < n' → ∃ r, pf_X6_treeNodes_L23 N nf nb c JC n (nI i) x2 a x4 l (nI k) = some r ∧ pf_X7_nodes_L23 N m JM n' (nI i) a x2 x4 l (nI k) = some r := by
  intro d
  induction d with
  | zero =>
    intro k n n' a l hk hn hn'
    obtain ⟨n, rfl⟩ : ∃ j, n = j + 1 := ⟨n - 1, by omega⟩
    obtain ⟨n', rfl⟩ : ∃ j, n' = j + 1 := ⟨n' - 1, by omega⟩
    rw [pf_X6_treeNodes_L23, pf_X7_nodes_L23, show (256 : Int32) = nI 256 from rfl, if_n (by omega) (by omega), if_pos (by omega), if_n (by omega) (by omega), if_pos (by omega)]
    exact hJ a
  | succ d ih =>
    intro k n n' a l hk hn hn'
    obtain ⟨n, rfl⟩ : ∃ j, n = j + 1 := ⟨n - 1, by omega⟩
    obtain ⟨n', rfl⟩ : ∃ j, n' = j + 1 := ⟨n' - 1, by omega⟩
    rw [pf_X6_treeNodes_L23, pf_X7_nodes_L23, spot_n, spot_m, show (256 : Int32) = nI 256 from rfl, if_n (by omega) (by omega), if_neg (by omega), if_n (by omega) (by omega), if_neg (by omega)]
    unfold pf_X6_treeNodes_b67 pf_X7_nodes_b69
    simp only [lt_, nI_1, Option.bind_some]
    obtain ⟨b, hb, e1, e2⟩ := entE (N := N) R (show 256 * i + k < 3072 by omega)
    rw [e1, e2, Option.bind_some, Option.bind_some]
    by_cases hv : nI k >>> (((2 : Int32) * x4) &&& 31) = l
    · rw [if_pos hv, if_pos hv]
      rcases hb with h | h
      · rw [h, if_pos rfl]; exact ih (k + 1) n n' a l (by omega) (by omega) (by omega)
      · rw [h, if_neg z1_ne]; exact ih (k + 1) n n' a l (by omega) (by omega) (by omega)
    · rw [if_neg hv, if_neg hv]
      rcases hb with h | h
      · rw [h, if_pos rfl, if_pos rfl]; exact ih (k + 1) n n' a l (by omega) (by omega) (by omega)
      · rw [h, if_neg z1_ne, if_neg z1_ne]; exact ih (k + 1) n n' (a + 1) _ (by omega) (by omega) (by omega)
theorem nod_O (R : Rel hd nf nb LA LI LS ev tm dc rr c m) {i : Nat} (hi : i < 12) (hN : 5000 ≤ N) {h : Nat} (hh : h ≤ 4) : ∀ (d k n n' : Nat) (a : Int32), k + d = 5 → d < n → d < n' → ∃ r, pf_X6_treeNodes_L11 N nf nb c n (nI i) (nI h) a (nI k) = some r ∧ pf_X7_nodes_L11 N m n' (nI i) a (nI h) (nI k) = some r := by
  intro d
  induction d with
  | zero =>
    intro k n n' a hk hn hn'
    obtain ⟨n, rfl⟩ : ∃ j, n = j + 1 := ⟨n - 1, by omega⟩
    obtain ⟨n', rfl⟩ : ∃ j, n' = j + 1 := ⟨n' - 1, by omega⟩
    rw [pf_X6_treeNodes_L11, pf_X7_nodes_L11, il_n (by omega) (by omega), if_pos (by omega), il_n (by omega) (by omega), if_pos (by omega)]
    exact ⟨_, rfl, rfl⟩
  | succ d ih =>
    intro k n n' a hk hn hn'
    obtain ⟨n, rfl⟩ : ∃ j, n = j + 1 := ⟨n - 1, by omega⟩
    obtain ⟨n', rfl⟩ : ∃ j, n' = j + 1 := ⟨n' - 1, by omega⟩
    rw [pf_X6_treeNodes_L11, pf_X7_nodes_L11, il_n (by omega) (by omega), il_n (by omega) (by omega)]
    by_cases hc : h < k
    · rw [if_pos hc, if_pos hc]; exact ⟨_, rfl, rfl⟩
    · rw [if_neg hc, if_neg hc]
      refine nod_L R hi (nI h) (nI k) (fun a => ?_) 256 0 N N a (-1) (by omega) (by omega) (by omega)
      rw [nI_1]
      exact ih (k + 1) n n' a (by omega) (by omega) (by omega)
theorem q_tree (R : Rel HD2 nf nb LA LI LS ev tm dc rr c m) (hN : 5000 ≤ N) (x1 x2 : Int32) : ∃ r, pf_X6_tree N nf nb x1 x2 c = some r ∧ pf_X7_tree N x1 x2 m = some r := by
  unfold pf_X6_tree pf_X7_tree
  rcases fileC (N := N) x1 with ⟨h1, h2⟩ | ⟨i, hi, e1, h1, h2⟩
  · rw [h1, h2, Option.bind_some, Option.bind_some, if_pos rfl, if_pos rfl]; exact ⟨_, rfl, rfl⟩
  rw [h1, h2, Option.bind_some, Option.bind_some, if_neg z1_ne, if_neg z1_ne, e1]
  by_cases hz : x2 < 0
  · rw [if_pos hz, if_neg (fun q => by rw [q] at hz; exact absurd hz (by decide)), if_neg (fun q => by rw [q] at hz; exact absurd hz (by decide)), if_neg (fun q => by rw [q] at hz; exact absurd hz (by decide)), if_neg (fun q => by rw [q] at hz; exact absurd hz (by decide)), if_neg (fun q => by rw [q] at hz; exact absurd hz (by decide)), if_neg (fun q => by rw [q] at hz; exact absurd hz (by decide))]
    exact ⟨_, rfl, rfl⟩
  rw [if_neg hz]
  obtain ⟨h, hh, g1, g2⟩ := q_height R hi hN
  by_cases h5 : x2 ≤ 5
  · rw [if_pos h5]
    simp only [bI_n hi (show 12 < 2 ^ 31 by decide), cl_n (show i < 2 ^ 31 by omega)]
    by_cases c0 : x2 = 0
    · rw [if_pos c0, if_pos c0, g1, g2, Option.bind_some]; exact ⟨_, rfl, rfl⟩
    rw [if_neg c0, if_neg c0]
    by_cases c1 : x2 = 1
    · rw [if_pos c1, if_pos c1]
      unfold pf_X6_treeNodes pf_X7_nodes
      rw [g1, g2, Option.bind_some, Option.bind_some]
      obtain ⟨r, q1, q2⟩ := nod_O R hi hN hh 4 1 N N 0 (by omega) (by omega) (by omega)
      have q1 : pf_X6_treeNodes_L11 N nf nb c N (nI i) (nI h) 0 1 = some r := q1
      have q2 : pf_X7_nodes_L11 N m N (nI i) 0 (nI h) 1 = some r := q2
      rw [q1, q2, Option.bind_some]; exact ⟨_, rfl, rfl⟩
    rw [if_neg c1, if_neg c1]
    by_cases c2 : x2 = 2
    · rw [if_pos c2, if_pos c2]
      unfold pf_X6_treeEntries
      obtain ⟨r, q1, q2⟩ := ent_L (N := N) R hi 256 0 N N 0 (by omega) (by omega) (by omega)
      have q1 : pf_X6_treeEntries_L4 N nf nb c N (nI i) 0 0 = some r := q1
      have q2 : pf_X7_tree_L73 N m N (nI i) 0 0 = some r := q2
      rw [q1, q2, Option.bind_some]; exact ⟨_, rfl, rfl⟩
    rw [if_neg c2, if_neg c2]
    by_cases c3 : x2 = 3
    · rw [if_pos c3, if_pos c3, R.2.2.2.2.1]; exact ⟨_, rfl, rfl⟩
    rw [if_neg c3, if_neg c3]
    by_cases c4 : x2 = 4
    · rw [if_pos c4, if_pos c4, show c.2.1 12 = m.2.1 3 from R.2.2.2.2.2.1]; exact ⟨_, rfl, rfl⟩
    have c5 : x2 = 5 := by
      obtain ⟨j, hj, e⟩ := nI_of hz
      have h8 : j ≤ 5 := (nI_leI hj (by decide)).mp (by rw [← e]; exact h5)
      rw [e] at c0 c1 c2 c3 c4 ⊢
      rcases (show j = 0 ∨ j = 1 ∨ j = 2 ∨ j = 3 ∨ j = 4 ∨ j = 5 by omega) with q | q | q | q | q | q
      · exact absurd (by rw [q]; rfl) c0
      · exact absurd (by rw [q]; rfl) c1
      · exact absurd (by rw [q]; rfl) c2
      · exact absurd (by rw [q]; rfl) c3
      · exact absurd (by rw [q]; rfl) c4
      · rw [q]; rfl
    rw [if_neg c4, if_neg c4, if_pos c5, R.2.2.2.2.2.2.1]; exact ⟨_, rfl, rfl⟩
  · rw [if_neg h5, if_neg (fun q => h5 (by rw [q]; decide)), if_neg (fun q => h5 (by rw [q]; decide)), if_neg (fun q => h5 (by rw [q]; decide)), if_neg (fun q => h5 (by rw [q]; decide)), if_neg (fun q => h5 (by rw [q]; decide)), if_neg (fun q => h5 (by rw [q]; decide))]
    exact ⟨_, rfl, rfl⟩
end Q3
