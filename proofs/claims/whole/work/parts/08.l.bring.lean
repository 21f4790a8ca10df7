/-! PURE PART: a page is brought in; touched -/
theorem m_brg_L {N f p : Nat} {σ : St} {bl : Int32} (hp : p < 3072) (hf : f < 64) (hbl : σ.2.1 6 p = bl) (hb : bl = -1 ∨ ∃ b, b < 512 ∧ bl = nI b) : ∀ (d i n : Nat) (g : Nat → Int32), i + d = 64 → d < n → ∃ g', pf_X7_bringIn_L14 N n (nI p) (nI f) (nI i) (sA σ 15 g) = (if bl = -1 then pf_X7_bringIn_b88 N (nI p) (nI f) (sA σ 15 g') else (pf_X7_record N 0 bl (sA σ 15 g')).bind (fun z => pf_X7_bringIn_b88 N (nI p) (nI f) z)) ∧ ∀ j, g' j &&& 255 = if 64 * f + i ≤ j ∧ j < 64 * f + 64 then (if bl = -1 then 0 else σ.2.1 16 (64 * bl.toNatClampNeg + (j - 64 * f)) &&& 255) else g j &&& 255 := by
  intro d
  induction d with
  | zero =>
    intro i n g hi hd
    obtain ⟨n, rfl⟩ : ∃ m, n = m + 1 := ⟨n - 1, by omega⟩
    have hbl' : (sA σ 15 g).2.1 6 p = bl := hbl
    refine ⟨g, ?_, fun j => by rw [if_neg (by omega)]⟩
    rw [pf_X7_bringIn_L14, show (64 : Int32) = nI 64 from rfl, if_n (by omega) (by omega), if_pos (by omega), bI_n hp (by decide), bI_n hp (by decide), cl_n (by omega), hbl']
  | succ d ih =>
    intro i n g hi hd
    obtain ⟨n, rfl⟩ : ∃ m, n = m + 1 := ⟨n - 1, by omega⟩
    have hbl' : (sA σ 15 g).2.1 6 p = bl := hbl
    rw [pf_X7_bringIn_L14, show (64 : Int32) = nI 64 from rfl, if_n (by omega) (by omega), if_neg (by omega), bI_n hp (by decide), bI_n hp (by decide), cl_n (by omega), hbl']
    unfold pf_X7_bringIn_b60
    simp only [lt_, pk_mul, nI_add, bI_n (show 64 * f + i < 4096 by omega) (show 4096 < 2 ^ 31 by decide), cl_n (show 64 * f + i < 2 ^ 31 by omega), nI_1]
    have fin : ∀ x : Int32, x &&& 255 = (if bl = -1 then 0 else σ.2.1 16 (64 * bl.toNatClampNeg + i) &&& 255) → ∃ g', pf_X7_bringIn_L14 N n (nI p) (nI f) (nI (i + 1)) (sA (sA σ 15 g) 15 (upd ((sA σ 15 g).2.1 15) (64 * f + i) (vp_nar .byte x))) = (if bl = -1 then pf_X7_bringIn_b88 N (nI p) (nI f) (sA σ 15 g') else (pf_X7_record N 0 bl (sA σ 15 g')).bind (fun z => pf_X7_bringIn_b88 N (nI p) (nI f) z)) ∧ ∀ j, g' j &&& 255 = if 64 * f + i ≤ j ∧ j < 64 * f + 64 then (if bl = -1 then 0 else σ.2.1 16 (64 * bl.toNatClampNeg + (j - 64 * f)) &&& 255) else g j &&& 255 := by
      intro x hx
      rw [sA_sA]
      obtain ⟨g', y1, y2⟩ := ih (i + 1) n (upd ((sA σ 15 g).2.1 15) (64 * f + i) (vp_nar .byte x)) (by omega) (by omega)
      refine ⟨g', y1, fun j => ?_⟩
      rw [y2 j]
      by_cases e : j = 64 * f + i
      · subst e
        rw [if_neg (show ¬ (64 * f + (i + 1) ≤ 64 * f + i ∧ 64 * f + i < 64 * f + 64) by omega), us_, nar_b, hx, if_pos (show 64 * f + i ≤ 64 * f + i ∧ 64 * f + i < 64 * f + 64 by omega), show 64 * f + i - 64 * f = i by omega]
      · by_cases h : 64 * f + (i + 1) ≤ j ∧ j < 64 * f + 64
        · rw [if_pos h, if_pos (show 64 * f + i ≤ j ∧ j < 64 * f + 64 by omega)]
        · rw [if_neg h, un e, if_neg (show ¬ (64 * f + i ≤ j ∧ j < 64 * f + 64) by omega)]
          rfl
    rcases hb with hb | ⟨b, hb, e⟩
    · rw [if_pos hb]
      exact fin 0 (by rw [if_pos hb]; rfl)
    · have hne : ¬ bl = -1 := by rw [e]; exact m1_ne (by omega)
      rw [if_neg hne]
      have fx := fin (σ.2.1 16 (64 * bl.toNatClampNeg + i)) (by rw [if_neg hne])
      rw [e] at fx ⊢
      rw [cl_n (by omega)] at fx
      rw [pk_mul, nI_add, bI_n (show 64 * b + i < 32768 by omega) (by decide), cl_n (show 64 * b + i < 2 ^ 31 by omega)]
      rw [cl_n (by omega)]
      exact fx
theorem RF.inn {nf : Nat} {sp si re pi ac fo ms mr mp ma us : Nat → Int32} (h : RF nf sp si re pi ac fo ms mr mp ma us) {f p : Nat} {b : Int32} (hnf : nf ≤ 64) (hf : f < nf) (hp : p < 3072) (hsp : sp f = -1) (hfo : fo p = -1) (hb : Bo b) : RF nf (upd sp f (nI p)) si re pi (upd ac f b) (upd fo p (nI f)) ms mr mp (upd ma p b) (upd us f 1) := by
  have hfree : si f = -1 ∧ re f = 0 ∧ pi f = 0 := by
    rcases h.2.1 f hf with ⟨a1, a2, a3, a4, a5, a6⟩ | ⟨q, hq, a1, -⟩
    · exact ⟨a2, a3, a4⟩
    · exact absurd (a1.symm.trans hsp) (m1_ne (by omega))
  have hout : ms p = -1 ∧ mr p = 0 ∧ mp p = 0 := by
    rcases h.1 p hp with ⟨a1, a2, a3, a4, a5⟩ | ⟨g, hg, a1, -⟩
    · exact ⟨a2, a3, a4⟩
    · exact absurd (a1.symm.trans hfo) (m1_ne (by omega))
  refine ⟨fun q hq => ?_, fun g hg => ?_, fun g hg => ?_⟩
  · by_cases e : q = p
    · subst e
      exact Or.inr ⟨f, hf, us_, us_, by rw [hout.1, hfree.1], by rw [hout.2.1, hfree.2.1], by rw [hout.2.2, hfree.2.2], by rw [us_, us_]⟩
    · rcases h.1 q hq with ⟨a1, a2, a3, a4, a5⟩ | ⟨g, hg, a1, a2, a3, a4, a5, a6⟩
      · exact Or.inl ⟨by rw [un e, a1], a2, a3, a4, by rw [un e, a5]⟩
      · have hgf : g ≠ f := fun q2 => by subst q2; exact absurd (a2.symm.trans hsp) (m1_ne (by omega))
        exact Or.inr ⟨g, hg, by rw [un e, a1], by rw [un hgf, a2], a3, a4, a5, by rw [un e, un hgf, a6]⟩
  · by_cases e : g = f
    · subst e; exact Or.inr ⟨p, hp, us_, us_, us_⟩
    · rcases h.2.1 g hg with ⟨a1, a2, a3, a4, a5, a6⟩ | ⟨q, hq, a1, a2, a3⟩
      · exact Or.inl ⟨by rw [un e, a1], a2, a3, a4, by rw [un e, a5], by rw [un e, a6]⟩
      · have hqp : q ≠ p := fun q2 => by subst q2; exact absurd (a2.symm.trans hfo) (m1_ne (by omega))
        exact Or.inr ⟨q, hq, by rw [un e, a1], by rw [un hqp, a2], by rw [un e, a3]⟩
  · by_cases e : g = f
    · subst e; rw [us_]; exact ⟨(h.2.2 g hg).1, (h.2.2 g hg).2.1, hb⟩
    · rw [un e]; exact h.2.2 g hg
theorem RLs.innA {nf : Nat} {sp ac ra ri ma mi ra' ma' : Nat → Int32} {ca ci mca mci ca' mca' : Int32} {LA LI : List (Nat × Nat)} {f p : Nat} (h : RLs nf sp ac ra ri ma mi ca ci mca mci LA LI) (hf : f < nf) (hp : p < 3072) (hsp : sp f = -1) (h1 : RowIs ra' ca' (f :: LA.map Prod.fst)) (h2 : RowIs ma' mca' (p :: LA.map Prod.snd)) : RLs nf (upd sp f (nI p)) (upd ac f 1) ra' ri ma' mi ca' ci mca' mci ((f, p) :: LA) LI := by
  obtain ⟨-, b2, -, b4, hA, hI, mA, mI⟩ := h
  have hnA : ∀ q, (f, q) ∉ LA := fun q hq => absurd (((mA f q).mp hq).2.2.1.symm.trans hsp) (m1_ne (by have := ((mA f q).mp hq).2.1; omega))
  have hnI : ∀ q, (f, q) ∉ LI := fun q hq => absurd (((mI f q).mp hq).2.2.1.symm.trans hsp) (m1_ne (by have := ((mI f q).mp hq).2.1; omega))
  refine ⟨h1, b2, h2, b4, ?_, hI, fun g q => ?_, fun g q => ?_⟩
  · rw [List.map_cons]
    refine List.nodup_cons.mpr ⟨fun hm => ?_, hA⟩
    obtain ⟨⟨g, q⟩, hg, e⟩ := List.mem_map.mp hm
    have e : g = f := e
    subst e
    exact hnA q hg
  · by_cases e : g = f
    · subst e
      rw [us_, us_, List.mem_cons, Prod.mk.injEq]
      constructor
      · rintro (⟨-, rfl⟩ | hg)
        · exact ⟨hf, hp, rfl, rfl⟩
        · exact absurd hg (hnA q)
      · rintro ⟨-, hq, hs, -⟩
        exact Or.inl ⟨rfl, (nI_inj hs (by omega) (by omega)).symm⟩
    · rw [un e, un e, ← mA, List.mem_cons, Prod.mk.injEq]
      exact ⟨fun hg => hg.resolve_left (fun w => e w.1), fun hg => Or.inr hg⟩
  · by_cases e : g = f
    · subst e
      rw [us_, us_]
      exact ⟨fun hg => absurd hg (hnI q), fun hg => absurd hg.2.2.2 (by decide)⟩
    · rw [un e, un e]; exact mI g q
theorem RLs.innI {nf : Nat} {sp ac ra ri ma mi ri' mi' : Nat → Int32} {ca ci mca mci ci' mci' : Int32} {LA LI : List (Nat × Nat)} {f p : Nat} (h : RLs nf sp ac ra ri ma mi ca ci mca mci LA LI) (hf : f < nf) (hp : p < 3072) (hsp : sp f = -1) (h1 : RowIs ri' ci' (f :: LI.map Prod.fst)) (h2 : RowIs mi' mci' (p :: LI.map Prod.snd)) : RLs nf (upd sp f (nI p)) (upd ac f 0) ra ri' ma mi' ca ci' mca mci' LA ((f, p) :: LI) := by
  obtain ⟨b1, -, b3, -, hA, hI, mA, mI⟩ := h
  have hnA : ∀ q, (f, q) ∉ LA := fun q hq => absurd (((mA f q).mp hq).2.2.1.symm.trans hsp) (m1_ne (by have := ((mA f q).mp hq).2.1; omega))
  have hnI : ∀ q, (f, q) ∉ LI := fun q hq => absurd (((mI f q).mp hq).2.2.1.symm.trans hsp) (m1_ne (by have := ((mI f q).mp hq).2.1; omega))
  refine ⟨b1, h1, b3, h2, hA, ?_, fun g q => ?_, fun g q => ?_⟩
  · rw [List.map_cons]
    refine List.nodup_cons.mpr ⟨fun hm => ?_, hI⟩
    obtain ⟨⟨g, q⟩, hg, e⟩ := List.mem_map.mp hm
    have e : g = f := e
    subst e
    exact hnI q hg
  · by_cases e : g = f
    · subst e
      rw [us_, us_]
      exact ⟨fun hg => absurd hg (hnA q), fun hg => absurd hg.2.2.2 (by decide)⟩
    · rw [un e, un e]; exact mA g q
  · by_cases e : g = f
    · subst e
      rw [us_, us_, List.mem_cons, Prod.mk.injEq]
      constructor
      · rintro (⟨-, rfl⟩ | hg)
        · exact ⟨hf, hp, rfl, rfl⟩
        · exact absurd hg (hnI q)
      · rintro ⟨-, hq, hs, -⟩
        exact Or.inl ⟨rfl, (nI_inj hs (by omega) (by omega)).symm⟩
    · rw [un e, un e, ← mI, List.mem_cons, Prod.mk.injEq]
      exact ⟨fun hg => hg.resolve_left (fun w => e w.1), fun hg => Or.inr hg⟩
theorem RI_in {fo : Nat → Int32} {LA LI LA' LI' : List (Nat × Nat)} {p f : Nat} (h : RI fo LA LI) (hp : p < 3072) (hfo : fo p = -1) (hf2 : f < 2 ^ 31) (hl : LA'.length + LI'.length = LA.length + LI.length + 1) : RI (upd fo p (nI f)) LA' LI' := by
  unfold RI at h ⊢
  have h1 := cntu (g := fo) (y := nI f) (z := -1) hp
  rw [hfo, if_pos rfl, if_neg (m1_ne hf2)] at h1
  omega
theorem RS_in {nf ev : Nat} {num row msh fo : Nat → Int32} {cn mcn ce me : Int32} {LS : List (Nat × Nat)} {p : Nat} {y : Int32} (h : RS nf ev num row msh fo cn mcn ce me LS) (hp : p ∉ LS.map Prod.fst) : RS nf ev num row msh (upd fo p y) cn mcn ce me LS := by
  obtain ⟨a1, a2, a3, a4, a5, a6, a7, a8, a9⟩ := h
  refine ⟨a1, a2, a3, a4, a5, a6, a7, fun q v hq => ?_, a9⟩
  obtain ⟨x1, x2, x3, x4, x5, x6⟩ := a8 q v hq
  exact ⟨x1, x2, x3, x4, x5, by rw [un (fun e => hp (List.mem_map.mpr ⟨_, hq, e⟩)), x6]⟩
/-- behind the bytes: shadow, lists -/
theorem op_enter {hd : HDp} {N nf nb ev tm dc rr f p : Nat} {LA LI LS : List (Nat × Nat)} {c m : St} (R : Rel hd nf nb LA LI LS ev tm dc rr c m) (hN : 5000 ≤ N) (hf : f < nf) (hp : p < 3072) (hsp : c.2.1 17 f = -1) (hfo : m.2.1 5 p = -1) : ∃ c' m' LA' LI' LS', pf_X6_bringIn_b105 N nf nb (nI p) (nI f) c = some (nI f, c') ∧ pf_X7_bringIn_b88 N (nI p) (nI f) m = some (1, m') ∧ Rel hd nf nb LA' LI' LS' ev tm dc rr c' m' ∧ c'.2.1 17 f = nI p ∧ (∀ q, q ≠ p → m'.2.1 5 q = m.2.1 5 q) ∧ c'.2.2 = c.2.2 := by
  obtain ⟨hK, hk1, s1, hZ, w1, n1, e1, f1, b1, b2, b3, hBk, hRc, h1, t1, hF, hT, hL, hI, hD, hPn, hS, B1, B2, B3⟩ := R
  have hK' := hK
  obtain ⟨ka, kb, kc, kd, ke, kf⟩ := hK'
  have hlen := hL.len
  have hlt : LA.length + LI.length < nf := by
    -- frame f is in neither list
    have hn : (f :: (LA ++ LI).map Prod.fst).Nodup := by
      refine List.nodup_cons.mpr ⟨fun hm => ?_, ?_⟩
      · obtain ⟨⟨g, q⟩, hg, e⟩ := List.mem_map.mp hm
        have e : g = f := e
        subst e
        rcases List.mem_append.mp hg with h | h
        · have := (hL.2.2.2.2.2.2.1 g q).mp h
          exact absurd (this.2.2.1.symm.trans hsp) (m1_ne (by omega))
        · have := (hL.2.2.2.2.2.2.2 g q).mp h
          exact absurd (this.2.2.1.symm.trans hsp) (m1_ne (by omega))
      · rw [List.map_append]
        refine List.nodup_append.mpr ⟨hL.2.2.2.2.1, hL.2.2.2.2.2.1, fun a ha b hb e => ?_⟩
        subst e
        obtain ⟨⟨a1, q1⟩, g1, rfl⟩ := List.mem_map.mp ha
        obtain ⟨⟨a2, q2⟩, g2, e2⟩ := List.mem_map.mp hb
        have e2 : a2 = a1 := e2
        subst e2
        exact z1_ne (((hL.2.2.2.2.2.2.1 a2 q1).mp g1).2.2.2.symm.trans ((hL.2.2.2.2.2.2.2 a2 q2).mp g2).2.2.2)
    have := pigeon nf _ hn (fun a ha => by
      rcases List.mem_cons.mp ha with h | h
      · omega
      · obtain ⟨⟨g, q⟩, hg, e⟩ := List.mem_map.mp h
        have e : g = a := e
        subst e
        rcases List.mem_append.mp hg with h | h
        · exact ((hL.2.2.2.2.2.2.1 g q).mp h).1
        · exact ((hL.2.2.2.2.2.2.2 g q).mp h).1)
    simp at this
    omega
  -- how near
  obtain ⟨nr, hnr, q1, q2⟩ : ∃ nr : Int32, Bo nr ∧ pf_X4_isRecent N nf nb (nI p) (c.1 6) c = some nr ∧ ∀ σ : St, σ.2.1 8 = m.2.1 8 → σ.1 2 = m.1 2 → σ.1 6 = m.1 6 → (bI (nI p) 3072 (if (σ.2.1 8 p) ≤ 0 then pf_X7_bringIn_b133 N (nI p) σ else bI (nI p) 3072 (if σ.1 2 < (σ.1 6 - σ.2.1 8 p) then pf_X7_bringIn_b133 N (nI p) σ else pf_X7_bringIn_b134 N (nI p) 1 σ))) = pf_X7_bringIn_b134 N (nI p) nr σ := by
    unfold pf_X4_isRecent pf_X4_of pf_X7_bringIn_b133
    rw [if_neg (nI_pos (by omega)), show (3072 : Int32) = nI 3072 from rfl, il_n (by omega) (by omega), if_pos hp, bI_n hp (by decide), cl_n (by omega), Option.bind_some]
    obtain ⟨a1, a2, a3, a4, a5, a6, a7, a8, a9⟩ := hS
    by_cases hm : p ∈ LS.map Prod.fst
    · obtain ⟨⟨p', v⟩, hpv, e⟩ := List.mem_map.mp hm
      have e : p' = p := e
      subst e
      obtain ⟨x1, x2, x3, x4, x5, x6⟩ := a8 p' v hpv
      rw [x4, if_neg (m1_ne (by omega)), a3]
      have hc6 : c.1 6 = m.1 2 := by rw [hL.1.1, hL.2.2.1.1]; simp
      by_cases hc : c.1 6 < nI ev - nI v
      · refine ⟨0, Or.inl rfl, by rw [if_pos hc], fun σ g8 g2 g6 => ?_⟩
        rw [bI_n hp (by decide), bI_n hp (by decide), g8, x5, if_neg (nI_nle x2 (by omega)), g2, g6, a4, ← hc6, if_pos hc]
      · refine ⟨1, Or.inr rfl, by rw [if_neg hc], fun σ g8 g2 g6 => ?_⟩
        rw [bI_n hp (by decide), bI_n hp (by decide), g8, x5, if_neg (nI_nle x2 (by omega)), g2, g6, a4, ← hc6, if_neg hc]
    · obtain ⟨y1, y2⟩ := a9 p hp hm
      refine ⟨0, Or.inl rfl, by rw [y1, if_pos rfl], fun σ g8 g2 g6 => ?_⟩
      rw [bI_n hp (by decide), g8, y2, if_pos (by decide)]
  have q3 : pf_X7_bringIn_b88 N (nI p) (nI f) m = pf_X7_bringIn_b134 N (nI p) nr (sA (sA m 14 (upd (m.2.1 14) f 1)) 5 (upd (m.2.1 5) p (nI f))) := by
    rw [← q2 (sA (sA m 14 (upd (m.2.1 14) f 1)) 5 (upd (m.2.1 5) p (nI f))) rfl rfl rfl]
    unfold pf_X7_bringIn_b88
    simp only [lt_, nar1]
    rw [bI_n (show f < 64 by omega) (by decide), bI_n hp (by decide), cl_n (by omega), cl_n (by omega)]
    rfl
  rw [q3]
  unfold pf_X6_bringIn_b105 pf_X7_bringIn_b134
  rw [q1, Option.bind_some]
  obtain ⟨g, n, LS', z1, z2, z3, z4, z5, z6⟩ := op_forget (N := N) (nb := nb) (c := c) (m := sA (sA m 14 (upd (m.2.1 14) f 1)) 5 (upd (m.2.1 5) p (nI f))) (fo := m.2.1 5) hN kb ke hS hp
  have z2 : pf_X7_noShadow N (nI p) (sA (sA m 14 (upd (m.2.1 14) f 1)) 5 (upd (m.2.1 5) p (nI f))) = some (sA (sG (sA (sA m 14 (upd (m.2.1 14) f 1)) 5 (upd (m.2.1 5) p (nI f))) 7 n) 8 (upd (m.2.1 8) p 0)) := z2
  rw [z1, z2, Option.bind_some, Option.bind_some]
  unfold pf_X2_enter
  rw [if_neg (nI_pos (by omega))]
  have ek : (sG (sA (sA c 28 (upd (c.2.1 28) p (-1))) 29 g) 10 n).1 5 = nI nf := hk1.1
  rw [ek, if_n (by omega) (by omega), if_neg (by omega), if_neg (nI_pos (by omega)), show (3072 : Int32) = nI 3072 from rfl, il_n (by omega) (by omega), if_pos hp]
  simp only [lt_, bI_n hf (show nf < 2 ^ 31 by omega), bI_n hp (show 3072 < 2 ^ 31 by decide), cl_n (show f < 2 ^ 31 by omega), cl_n (show p < 2 ^ 31 by omega), bo_nar hnr]
  have hf1 : upd (c.2.1 22) p (nI f) = upd (m.2.1 5) p (nI f) := by rw [f1]
  rcases hnr with h0 | h0
  · subst h0
    rw [if_pos rfl]
    unfold pf_X2_enter_b60
    obtain ⟨g2, x2, r2⟩ := o_add (N := N) (n0 := nf) (τ := (c.2.1 26, c.1 7)) (L := LI.map Prod.fst) (x := f) hL.2.1 (by simp; omega) (by omega)
    obtain ⟨y2, u2, v2⟩ := m_toI (N := N) (σ := sA (sG (sA (sA m 14 (upd (m.2.1 14) f 1)) 5 (upd (m.2.1 5) p (nI f))) 7 n) 8 (upd (m.2.1 8) p 0)) (L := LI.map Prod.snd) (x := p) hp hL.2.2.2.1 (by simp; omega) (by omega)
    rw [u2, Option.bind_some]
    refine ⟨sG (sA (sA (sA (sA (sG (sA (sA c 28 (upd (c.2.1 28) p (-1))) 29 g) 10 n) 17 (upd (c.2.1 17) f (nI p))) 22 (upd (c.2.1 22) p (nI f))) 21 (upd (c.2.1 21) f 0)) 26 g2) 7 (nI ((LI.map Prod.fst).length + 1)), _, LA, (f, p) :: LI, LS', ?_, rfl, ?_, us_, fun q hq => un hq, rfl⟩
    rotate_left
    · exact ⟨hK, hk1, s1, hZ, w1, n1, e1, hf1, b1, b2, b3, hBk, hRc, h1, t1, hF.inn kb hf hp hsp hfo (Or.inl rfl), hT, hL.innI hf hp hsp r2 v2, RI_in hI hp hfo (by omega) (by simp; omega), hD, hPn, RS_in z3 z4, B1, B2, B3⟩
    · show (((pf_X3_addFront N nf (nI f) (c.2.1 26, c.1 7)).bind _).bind _) = _
      rw [x2]
      rfl
  · subst h0
    rw [if_neg z1_ne]
    unfold pf_X2_enter_b60_1
    obtain ⟨g2, x2, r2⟩ := o_add (N := N) (n0 := nf) (τ := (c.2.1 24, c.1 6)) (L := LA.map Prod.fst) (x := f) hL.1 (by simp; omega) (by omega)
    obtain ⟨y2, u2, v2⟩ := m_toA (N := N) (σ := sA (sG (sA (sA m 14 (upd (m.2.1 14) f 1)) 5 (upd (m.2.1 5) p (nI f))) 7 n) 8 (upd (m.2.1 8) p 0)) (L := LA.map Prod.snd) (x := p) hp hL.2.2.1 (by simp; omega) (by omega)
    rw [u2, Option.bind_some]
    refine ⟨sG (sA (sA (sA (sA (sG (sA (sA c 28 (upd (c.2.1 28) p (-1))) 29 g) 10 n) 17 (upd (c.2.1 17) f (nI p))) 22 (upd (c.2.1 22) p (nI f))) 21 (upd (c.2.1 21) f 1)) 24 g2) 6 (nI ((LA.map Prod.fst).length + 1)), _, (f, p) :: LA, LI, LS', ?_, rfl, ?_, us_, fun q hq => un hq, rfl⟩
    rotate_left
    · exact ⟨hK, hk1, s1, hZ, w1, n1, e1, hf1, b1, b2, b3, hBk, hRc, h1, t1, hF.inn kb hf hp hsp hfo (Or.inr rfl), hT, hL.innA hf hp hsp r2 v2, RI_in hI hp hfo (by omega) (by simp; omega), hD, hPn, RS_in z3 z4, B1, B2, B3⟩
    · show (((pf_X3_addFront N nf (nI f) (c.2.1 24, c.1 6)).bind _).bind _) = _
      rw [x2]
      rfl
