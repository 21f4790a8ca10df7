/-! PURE PART: counting; the reference's two lists -/
def cnt (P : Nat → Bool) : Nat → Nat
  | 0 => 0
  | n + 1 => cnt P n + if P n then 1 else 0
theorem cnt_le (P : Nat → Bool) : ∀ n, cnt P n ≤ n
  | 0 => Nat.le_refl 0
  | n + 1 => by
    have := cnt_le P n
    show cnt P n + (if P n then 1 else 0) ≤ n + 1
    split <;> omega
theorem cnt_congr {P P' : Nat → Bool} : ∀ {n : Nat}, (∀ j, j < n → P j = P' j) → cnt P n = cnt P' n
  | 0, _ => rfl
  | n + 1, h => by
    show cnt P n + (if P n then 1 else 0) = cnt P' n + (if P' n then 1 else 0)
    rw [cnt_congr (n := n) (fun j hj => h j (by omega)), h n (by omega)]
theorem cnt_upd {P P' : Nat → Bool} {i : Nat} : ∀ {n : Nat}, i < n → (∀ j, j < n → j ≠ i → P j = P' j) → cnt P n + (if P' i then 1 else 0) = cnt P' n + (if P i then 1 else 0)
  | 0, h, _ => absurd h (by omega)
  | n + 1, h, hj => by
    show cnt P n + (if P n then 1 else 0) + (if P' i then 1 else 0) = cnt P' n + (if P' n then 1 else 0) + (if P i then 1 else 0)
    by_cases e : i = n
    · subst e
      rw [cnt_congr (n := i) (P := P) (P' := P') (fun j h1 => hj j (by omega) (by omega))]
      omega
    · have := cnt_upd (P := P) (P' := P') (i := i) (n := n) (by omega) (fun j h1 h2 => hj j (by omega) h2)
      rw [hj n (by omega) (by omega)]
      omega
theorem cnt_pos {P : Nat → Bool} : ∀ {n i : Nat}, i < n → P i = true → 0 < cnt P n
  | 0, i, h, _ => absurd h (by omega)
  | n + 1, i, h, hp => by
    show 0 < cnt P n + (if P n then 1 else 0)
    by_cases e : i = n
    · subst e; rw [hp]; simp
    · have := cnt_pos (P := P) (n := n) (i := i) (by omega) hp
      omega
theorem cnt_zero {P : Nat → Bool} {n : Nat} (h : cnt P n = 0) : ∀ i, i < n → P i = false := by
  intro i hi
  cases hp : P i with
  | false => rfl
  | true => exact absurd (cnt_pos hi hp) (by omega)
def Bo (x : Int32) : Prop := x = 0 ∨ x = 1
theorem bo_nar {x : Int32} (h : Bo x) : vp_nar .boolean x = x := by rcases h with rfl | rfl <;> rfl
theorem nar0 : vp_nar .boolean (0 : Int32) = 0 := rfl
theorem nar1 : vp_nar .boolean (1 : Int32) = 1 := rfl
theorem bZ_b {β : Type} {x : Int32} {k : Option β} (h : Bo x) : bZ x k = k := by unfold bZ; rw [if_pos (bo_nar h)]
-- the state's parts behind an update
theorem sG_1 (σ : St) (k : Nat) (x : Int32) (j : Nat) : (sG σ k x).1 j = if j = k then x else σ.1 j := rfl
theorem sG_2 (σ : St) (k : Nat) (x : Int32) : (sG σ k x).2 = σ.2 := rfl
theorem sA_1 (σ : St) (k : Nat) (f : Nat → Int32) : (sA σ k f).1 = σ.1 := rfl
theorem sA_21 (σ : St) (k : Nat) (f : Nat → Int32) (j : Nat) : (sA σ k f).2.1 j = if j = k then f else σ.2.1 j := rfl
theorem sA_22 (σ : St) (k : Nat) (f : Nat → Int32) : (sA σ k f).2.2 = σ.2.2 := rfl
theorem sL_1 (σ : St) (k : Nat) (f : Nat → Int64) : (sL σ k f).1 = σ.1 := rfl
theorem sL_21 (σ : St) (k : Nat) (f : Nat → Int64) : (sL σ k f).2.1 = σ.2.1 := rfl
theorem sL_22 (σ : St) (k : Nat) (f : Nat → Int64) (j : Nat) : (sL σ k f).2.2 j = if j = k then f else σ.2.2 j := rfl
-- the reference's placeOf: row 12 where isActive, else 13
theorem m_place_L {N : Nat} {σ : St} {P S : List Nat} {x : Nat} {r : Nat} {cc : Int32} (hr : ∀ k : Nat, (if σ.2.1 11 x = 0 then σ.2.1 13 k else σ.2.1 12 k) = σ.2.1 r k) (hR : RowIs (σ.2.1 r) cc (P ++ x :: S)) (hc : (P ++ x :: S).length ≤ 64) (hb : ∀ y ∈ P ++ x :: S, y < 3072) (hP : x ∉ P) : ∀ (T Q : List Nat) (n : Nat), P = Q ++ T → T.length < n → pf_X7_placeOf_L2 N σ n (nI x) (nI Q.length) = some (nI P.length) := by
  have hl : (P ++ x :: S).length = P.length + S.length + 1 := by simp; omega
  have hx : x < 3072 := hb x (by simp)
  have step : ∀ (n k y : Nat), k < 65 → y < 3072 → σ.2.1 r k = nI y → pf_X7_placeOf_L2 N σ (n + 1) (nI x) (nI k) = if y = x then some (nI k) else pf_X7_placeOf_L2 N σ n (nI x) (nI (k + 1)) := by
    intro n k y hk hy he
    rw [pf_X7_placeOf_L2, bI_n hx (by omega), bI_n hk (by omega), bI_n hk (by omega), cl_n (by omega), cl_n (by omega)]
    unfold pf_X7_placeOf_b26
    have h1 := hr k
    by_cases h0 : σ.2.1 11 x = 0
    · rw [if_pos h0] at h1
      rw [if_pos h0, h1, he, ie_n (by omega) (by omega), nI_1]
    · rw [if_neg h0] at h1
      rw [if_neg h0, h1, he, ie_n (by omega) (by omega), nI_1]
  intro T
  induction T with
  | nil =>
    intro Q n hQ hn1
    obtain ⟨n, rfl⟩ : ∃ m, n = m + 1 := ⟨n - 1, by simp at hn1; omega⟩
    have hQ : P = Q := by simpa using hQ
    subst hQ
    rw [step n P.length x (by omega) hx (ri_at hR), if_pos rfl]
  | cons y T ih =>
    intro Q n hQ hn1
    obtain ⟨n, rfl⟩ : ∃ m, n = m + 1 := ⟨n - 1, by simp at hn1; omega⟩
    have hyx : ¬ y = x := fun q => hP (by rw [hQ, q]; simp)
    have hpl : P.length = Q.length + T.length + 1 := by rw [hQ]; simp; omega
    have hy : y < 3072 := hb y (by rw [hQ]; simp)
    rw [step n Q.length y (by omega) hy (hR.2 Q.length y (by rw [hQ]; simp)), if_neg hyx]
    have := ih (Q ++ [y]) n (by rw [hQ]; simp) (by simp at hn1; omega)
    rw [List.length_append] at this
    exact this
theorem m_placeA {N : Nat} {σ : St} {P S : List Nat} {x : Nat} {cc : Int32} (ha : σ.2.1 11 x = 1) (hR : RowIs (σ.2.1 12) cc (P ++ x :: S)) (hc : (P ++ x :: S).length ≤ 64) (hb : ∀ y ∈ P ++ x :: S, y < 3072) (hP : x ∉ P) (hN : 64 < N) : pf_X7_placeOf N (nI x) σ = some (nI P.length) := by
  have hl : (P ++ x :: S).length = P.length + S.length + 1 := by simp; omega
  exact m_place_L (fun k => by rw [ha, if_neg z1_ne]) hR hc hb hP P [] N rfl (by omega)
theorem m_placeI {N : Nat} {σ : St} {P S : List Nat} {x : Nat} {cc : Int32} (ha : σ.2.1 11 x = 0) (hR : RowIs (σ.2.1 13) cc (P ++ x :: S)) (hc : (P ++ x :: S).length ≤ 64) (hb : ∀ y ∈ P ++ x :: S, y < 3072) (hP : x ∉ P) (hN : 64 < N) : pf_X7_placeOf N (nI x) σ = some (nI P.length) := by
  have hl : (P ++ x :: S).length = P.length + S.length + 1 := by simp; omega
  exact m_place_L (fun k => by rw [ha, if_pos rfl]) hR hc hb hP P [] N rfl (by omega)
-- shifting down, from a place on
def shD (f : Nat → Int32) (a b : Nat) : Nat → Int32 := fun j => if a ≤ j ∧ j < b then f (j + 1) else f j
def shU (f : Nat → Int32) (b : Nat) : Nat → Int32 := fun j => if 0 < j ∧ j ≤ b then f (j - 1) else f j
theorem sA_self (σ : St) (k : Nat) : sA σ k (σ.2.1 k) = σ := by
  unfold sA
  have : (fun j => if j = k then σ.2.1 k else σ.2.1 j) = σ.2.1 := by
    funext j; by_cases h : j = k
    · rw [if_pos h, h]
    · rw [if_neg h]
  rw [this]
theorem sA_sA (σ : St) (k : Nat) (f g : Nat → Int32) : sA (sA σ k f) k g = sA σ k g := by
  unfold sA
  congr 2
  funext j
  by_cases h : j = k
  · simp [h]
  · simp [h]
theorem m_fromA_L {N : Nat} {σ : St} {c : Nat} (hc : σ.1 2 = nI c) (h64 : c ≤ 64) : ∀ (d a n : Nat) (f : Nat → Int32), a + d = c → d < n → pf_X7_fromList_L27 N n (nI a) (sA σ 12 f) = some (sA σ 12 (shD f a c)) := by
  intro d
  induction d with
  | zero =>
    intro a n f ha hd
    obtain ⟨n, rfl⟩ : ∃ m, n = m + 1 := ⟨n - 1, by omega⟩
    rw [pf_X7_fromList_L27, sA_1, hc, if_n (by omega) (by omega), if_pos (by omega)]
    congr 2; funext j; unfold shD; rw [if_neg (by omega)]
  | succ d ih =>
    intro a n f ha hd
    obtain ⟨n, rfl⟩ : ∃ m, n = m + 1 := ⟨n - 1, by omega⟩
    rw [pf_X7_fromList_L27, sA_1, hc, if_n (by omega) (by omega), if_neg (by omega), show (1 : Int32) = nI 1 from rfl, nI_add, bI_n (by omega) (by omega), bI_n (by omega) (by omega), cl_n (by omega), cl_n (by omega), sA_21, if_pos rfl]
    simp only [lt_]
    rw [sA_sA, ih (a + 1) n _ (by omega) (by omega)]
    congr 2; funext j; unfold shD
    by_cases h : j = a
    · subst h; rw [if_neg (by omega), pk_us, if_pos (by omega)]
    · by_cases h2 : a + 1 ≤ j ∧ j < c
      · rw [if_pos h2, if_pos (by omega), pk_un (by omega)]
      · rw [if_neg h2, pk_un h, if_neg (by omega)]
theorem m_fromI_L {N : Nat} {σ : St} {c : Nat} (hc : σ.1 3 = nI c) (h64 : c ≤ 64) : ∀ (d a n : Nat) (f : Nat → Int32), a + d = c → d < n → pf_X7_fromList_L70 N n (nI a) (sA σ 13 f) = some (sA σ 13 (shD f a c)) := by
  intro d
  induction d with
  | zero =>
    intro a n f ha hd
    obtain ⟨n, rfl⟩ : ∃ m, n = m + 1 := ⟨n - 1, by omega⟩
    rw [pf_X7_fromList_L70, sA_1, hc, if_n (by omega) (by omega), if_pos (by omega)]
    congr 2; funext j; unfold shD; rw [if_neg (by omega)]
  | succ d ih =>
    intro a n f ha hd
    obtain ⟨n, rfl⟩ : ∃ m, n = m + 1 := ⟨n - 1, by omega⟩
    rw [pf_X7_fromList_L70, sA_1, hc, if_n (by omega) (by omega), if_neg (by omega), show (1 : Int32) = nI 1 from rfl, nI_add, bI_n (by omega) (by omega), bI_n (by omega) (by omega), cl_n (by omega), cl_n (by omega), sA_21, if_pos rfl]
    simp only [lt_]
    rw [sA_sA, ih (a + 1) n _ (by omega) (by omega)]
    congr 2; funext j; unfold shD
    by_cases h : j = a
    · subst h; rw [if_neg (by omega), pk_us, if_pos (by omega)]
    · by_cases h2 : a + 1 ≤ j ∧ j < c
      · rw [if_pos h2, if_pos (by omega), pk_un (by omega)]
      · rw [if_neg h2, pk_un h, if_neg (by omega)]
theorem ri_shD {f : Nat → Int32} {c : Int32} {P S : List Nat} {x : Nat} (hR : RowIs f c (P ++ x :: S)) {a b : Nat} (ha : a = P.length) (hb : b = (P ++ S).length) : RowIs (shD f a b) (nI (P ++ S).length) (P ++ S) := by
  subst ha; subst hb
  refine ⟨rfl, fun k y hk => ?_⟩
  have hk2 : k < (P ++ S).length := (List.getElem?_eq_some_iff.mp hk).1
  unfold shD
  by_cases h1 : k < P.length
  · rw [if_neg (by omega)]
    rw [List.getElem?_append_left h1] at hk
    exact hR.2 k y (by rw [List.getElem?_append_left h1]; exact hk)
  · rw [if_pos (by omega)]
    rw [List.getElem?_append_right (by omega)] at hk
    refine hR.2 _ y ?_
    rw [List.getElem?_append_right (by omega), show k + 1 - P.length = (k - P.length) + 1 by omega, List.getElem?_cons_succ]
    exact hk
theorem m_fromA {N : Nat} {σ : St} {P S : List Nat} {x : Nat} (ha : σ.2.1 11 x = 1) (hR : RowIs (σ.2.1 12) (σ.1 2) (P ++ x :: S)) (hc : (P ++ x :: S).length ≤ 64) (hb : ∀ y ∈ P ++ x :: S, y < 3072) (hP : x ∉ P) (hN : 64 < N) : ∃ g, pf_X7_fromList N (nI x) σ = some (sA (sG σ 2 (nI (P ++ S).length)) 12 g) ∧ RowIs g (nI (P ++ S).length) (P ++ S) := by
  have hl : (P ++ x :: S).length = P.length + S.length + 1 := by simp; omega
  have hl2 : (P ++ S).length = P.length + S.length := by simp
  have hx : x < 3072 := hb x (by simp)
  refine ⟨shD (σ.2.1 12) P.length (P ++ S).length, ?_, ri_shD hR rfl rfl⟩
  unfold pf_X7_fromList
  rw [m_placeA ha hR hc hb hP hN]
  simp only [Option.bind, lt_]
  rw [bI_n hx (by omega), cl_n (by omega), ha, if_neg z1_ne, hR.1, show (1 : Int32) = nI 1 from rfl, pk_sub (by omega), show (P ++ x :: S).length - 1 = (P ++ S).length by omega]
  have h := m_fromA_L (N := N) (σ := sG σ 2 (nI (P ++ S).length)) (c := (P ++ S).length) (by rw [sG_1, if_pos rfl]) (by omega) ((P ++ S).length - P.length) P.length N ((sG σ 2 (nI (P ++ S).length)).2.1 12) (by omega) (by omega)
  rw [sA_self] at h
  exact h
theorem m_fromI {N : Nat} {σ : St} {P S : List Nat} {x : Nat} (ha : σ.2.1 11 x = 0) (hR : RowIs (σ.2.1 13) (σ.1 3) (P ++ x :: S)) (hc : (P ++ x :: S).length ≤ 64) (hb : ∀ y ∈ P ++ x :: S, y < 3072) (hP : x ∉ P) (hN : 64 < N) : ∃ g, pf_X7_fromList N (nI x) σ = some (sA (sG σ 3 (nI (P ++ S).length)) 13 g) ∧ RowIs g (nI (P ++ S).length) (P ++ S) := by
  have hl : (P ++ x :: S).length = P.length + S.length + 1 := by simp; omega
  have hl2 : (P ++ S).length = P.length + S.length := by simp
  have hx : x < 3072 := hb x (by simp)
  refine ⟨shD (σ.2.1 13) P.length (P ++ S).length, ?_, ri_shD hR rfl rfl⟩
  unfold pf_X7_fromList
  rw [m_placeI ha hR hc hb hP hN]
  simp only [Option.bind, lt_]
  rw [bI_n hx (by omega), cl_n (by omega), ha, if_pos rfl, hR.1, show (1 : Int32) = nI 1 from rfl, pk_sub (by omega), show (P ++ x :: S).length - 1 = (P ++ S).length by omega]
  have h := m_fromI_L (N := N) (σ := sG σ 3 (nI (P ++ S).length)) (c := (P ++ S).length) (by rw [sG_1, if_pos rfl]) (by omega) ((P ++ S).length - P.length) P.length N ((sG σ 3 (nI (P ++ S).length)).2.1 13) (by omega) (by omega)
  rw [sA_self] at h
  exact h
theorem m_toA_L {N : Nat} {σ : St} {x c0 : Nat} (hc : σ.1 2 = nI c0) : ∀ (c n : Nat) (f : Nat → Int32), c ≤ 64 → c < n → pf_X7_toFront_L16 N n (nI x) (nI c) (sA σ 12 f) = some (sG (sA σ 12 (upd (shU f c) 0 (nI x))) 2 (nI (c0 + 1))) := by
  intro c
  induction c with
  | zero =>
    intro n f h64 hd
    obtain ⟨n, rfl⟩ : ∃ m, n = m + 1 := ⟨n - 1, by omega⟩
    rw [pf_X7_toFront_L16, if_pos (by decide), show (0 : Int32) = nI 0 from rfl, bI_n (by omega) (by omega)]
    simp only [lt_]
    rw [sA_sA, sA_1, hc, sA_21, if_pos rfl, cl_n (by omega), show (1 : Int32) = nI 1 from rfl, nI_add]
    congr 4; funext j; unfold shU; rw [if_neg (by omega)]
  | succ c ih =>
    intro n f h64 hd
    obtain ⟨n, rfl⟩ : ∃ m, n = m + 1 := ⟨n - 1, by omega⟩
    rw [pf_X7_toFront_L16, if_neg (nI_nle (by omega) (by omega)), pk_m1, show (1 : Int32) = nI 1 from rfl, pk_sub (by omega), bI_n (by omega) (by omega), bI_n (by omega) (by omega), cl_n (by omega), cl_n (by omega), sA_21, if_pos rfl]
    simp only [lt_]
    rw [sA_sA, ih n _ (by omega) (by omega)]
    congr 4; funext j; unfold shU
    by_cases h : j = c + 1
    · subst h; rw [if_neg (by omega), pk_us, if_pos (by omega)]
    · by_cases h2 : 0 < j ∧ j ≤ c
      · rw [if_pos h2, if_pos (by omega), pk_un (by omega)]
      · rw [if_neg h2, pk_un h, if_neg (by omega)]
theorem m_toI_L {N : Nat} {σ : St} {x c0 : Nat} (hc : σ.1 3 = nI c0) : ∀ (c n : Nat) (f : Nat → Int32), c ≤ 64 → c < n → pf_X7_toFront_L65 N n (nI x) (nI c) (sA σ 13 f) = some (sG (sA σ 13 (upd (shU f c) 0 (nI x))) 3 (nI (c0 + 1))) := by
  intro c
  induction c with
  | zero =>
    intro n f h64 hd
    obtain ⟨n, rfl⟩ : ∃ m, n = m + 1 := ⟨n - 1, by omega⟩
    rw [pf_X7_toFront_L65, if_pos (by decide), show (0 : Int32) = nI 0 from rfl, bI_n (by omega) (by omega)]
    simp only [lt_]
    rw [sA_sA, sA_1, hc, sA_21, if_pos rfl, cl_n (by omega), show (1 : Int32) = nI 1 from rfl, nI_add]
    congr 4; funext j; unfold shU; rw [if_neg (by omega)]
  | succ c ih =>
    intro n f h64 hd
    obtain ⟨n, rfl⟩ : ∃ m, n = m + 1 := ⟨n - 1, by omega⟩
    rw [pf_X7_toFront_L65, if_neg (nI_nle (by omega) (by omega)), pk_m1, show (1 : Int32) = nI 1 from rfl, pk_sub (by omega), bI_n (by omega) (by omega), bI_n (by omega) (by omega), cl_n (by omega), cl_n (by omega), sA_21, if_pos rfl]
    simp only [lt_]
    rw [sA_sA, ih n _ (by omega) (by omega)]
    congr 4; funext j; unfold shU
    by_cases h : j = c + 1
    · subst h; rw [if_neg (by omega), pk_us, if_pos (by omega)]
    · by_cases h2 : 0 < j ∧ j ≤ c
      · rw [if_pos h2, if_pos (by omega), pk_un (by omega)]
      · rw [if_neg h2, pk_un h, if_neg (by omega)]
theorem ri_shU {f : Nat → Int32} {c : Int32} {L : List Nat} {x : Nat} (hR : RowIs f c L) : RowIs (upd (shU f L.length) 0 (nI x)) (nI (L.length + 1)) (x :: L) := by
  refine ⟨rfl, fun k y hk => ?_⟩
  cases k with
  | zero => rw [pk_us]; simp at hk; rw [hk]
  | succ k =>
    rw [List.getElem?_cons_succ] at hk
    have hk2 : k < L.length := (List.getElem?_eq_some_iff.mp hk).1
    rw [pk_un (by omega)]
    unfold shU
    rw [if_pos (by omega)]
    exact hR.2 k y hk
theorem m_toA {N : Nat} {σ : St} {L : List Nat} {x : Nat} (hx : x < 3072) (hR : RowIs (σ.2.1 12) (σ.1 2) L) (hc : L.length ≤ 64) (hN : 64 < N) : ∃ g, pf_X7_toFront N (nI x) 1 σ = some (sG (sA (sA σ 11 (upd (σ.2.1 11) x 1)) 12 g) 2 (nI (L.length + 1))) ∧ RowIs g (nI (L.length + 1)) (x :: L) := by
  refine ⟨_, ?_, ri_shU hR⟩
  unfold pf_X7_toFront
  simp only [lt_]
  rw [bI_n hx (by omega), cl_n (by omega), nar1, if_neg z1_ne, sA_1, hR.1]
  have h := m_toA_L (N := N) (σ := sA σ 11 (upd (σ.2.1 11) x 1)) (x := x) (c0 := L.length) hR.1 L.length N ((sA σ 11 (upd (σ.2.1 11) x 1)).2.1 12) hc (by omega)
  rw [sA_self] at h
  exact h
theorem m_toI {N : Nat} {σ : St} {L : List Nat} {x : Nat} (hx : x < 3072) (hR : RowIs (σ.2.1 13) (σ.1 3) L) (hc : L.length ≤ 64) (hN : 64 < N) : ∃ g, pf_X7_toFront N (nI x) 0 σ = some (sG (sA (sA σ 11 (upd (σ.2.1 11) x 0)) 13 g) 3 (nI (L.length + 1))) ∧ RowIs g (nI (L.length + 1)) (x :: L) := by
  refine ⟨_, ?_, ri_shU hR⟩
  unfold pf_X7_toFront
  simp only [lt_]
  rw [bI_n hx (by omega), cl_n (by omega), nar0, if_pos trivial, sA_1, hR.1]
  have h := m_toI_L (N := N) (σ := sA σ 11 (upd (σ.2.1 11) x 0)) (x := x) (c0 := L.length) hR.1 L.length N ((sA σ 11 (upd (σ.2.1 11) x 0)).2.1 13) hc (by omega)
  rw [sA_self] at h
  exact h
