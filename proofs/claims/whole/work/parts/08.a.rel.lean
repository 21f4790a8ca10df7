/-! PURE PART: the relation between the class's state (c) and the reference's (m) -/
def RF (nf : Nat) (sp si re pi ac fo ms mr mp ma us : Nat → Int32) : Prop :=
  (∀ p, p < 3072 → (fo p = -1 ∧ ms p = -1 ∧ mr p = 0 ∧ mp p = 0 ∧ ma p = 0) ∨ ∃ f, f < nf ∧ fo p = nI f ∧ sp f = nI p ∧ ms p = si f ∧ mr p = re f ∧ mp p = pi f ∧ ma p = ac f) ∧
  (∀ f, f < nf → (sp f = -1 ∧ si f = -1 ∧ re f = 0 ∧ pi f = 0 ∧ ac f = 0 ∧ us f = 0) ∨ ∃ p, p < 3072 ∧ sp f = nI p ∧ fo p = nI f ∧ us f = 1) ∧
  (∀ f, f < nf → Bo (re f) ∧ Bo (pi f) ∧ Bo (ac f))
def RT (nf tm : Nat) (si : Nat → Int32) : Prop := ∀ f, f < nf → si f = -1 ∨ ∃ t, t ≤ tm ∧ si f = nI t
def RLs (nf : Nat) (sp ac ra ri ma mi : Nat → Int32) (ca ci mca mci : Int32) (LA LI : List (Nat × Nat)) : Prop :=
  RowIs ra ca (LA.map Prod.fst) ∧ RowIs ri ci (LI.map Prod.fst) ∧ RowIs ma mca (LA.map Prod.snd) ∧ RowIs mi mci (LI.map Prod.snd) ∧ (LA.map Prod.fst).Nodup ∧ (LI.map Prod.fst).Nodup ∧
  (∀ f p, (f, p) ∈ LA ↔ f < nf ∧ p < 3072 ∧ sp f = nI p ∧ ac f = 1) ∧ (∀ f p, (f, p) ∈ LI ↔ f < nf ∧ p < 3072 ∧ sp f = nI p ∧ ac f = 0)
def RS (nf ev : Nat) (num row msh fo : Nat → Int32) (cn mcn ce me : Int32) (LS : List (Nat × Nat)) : Prop :=
  RowIs row cn (LS.map Prod.fst) ∧ mcn = cn ∧ ce = nI ev ∧ me = nI ev ∧ LS.length ≤ nf ∧ (LS.map Prod.fst).Nodup ∧ LS.Pairwise (fun a b => a.2 < b.2) ∧
  (∀ p v, (p, v) ∈ LS → p < 3072 ∧ 0 < v ∧ v ≤ ev ∧ num p = nI v ∧ msh p = nI v ∧ fo p = -1) ∧ (∀ p, p < 3072 → p ∉ LS.map Prod.fst → num p = -1 ∧ msh p = 0)
def RK (nb : Nat) (bl tk fl : Nat → Int32) (fr : Int32) : Prop :=
  (∀ p, p < 3072 → bl p = -1 ∨ ∃ b, b < nb ∧ bl p = nI b ∧ tk b = 1) ∧ (∀ p p', p < 3072 → p' < 3072 → bl p ≠ -1 → bl p = bl p' → p = p') ∧ (∀ b, b < nb → Bo (tk b) ∧ Bo (fl b)) ∧ fr = nI (cnt (fun b => tk b == 0) nb)
def RD (nf : Nat) (si ms : Nat → Int32) (d : Int32) (dc : Nat) : Prop := d = nI dc ∧ dc = cnt (fun f => !(si f == -1)) nf ∧ dc = cnt (fun p => !(ms p == -1)) 3072
def RPn (nf : Nat) (pi mp : Nat → Int32) (d : Int32) : Prop := ∃ k, d = nI k ∧ k = cnt (fun f => !(pi f == 0)) nf ∧ k = cnt (fun p => !(mp p == 0)) 3072
def RI (fo : Nat → Int32) (LA LI : List (Nat × Nat)) : Prop := cnt (fun p => !(fo p == -1)) 3072 = LA.length + LI.length
def RZ (sz wn : Nat → Int32) : Prop := (∀ i, i < 12 → ∃ s, s ≤ 16384 ∧ sz i = nI s) ∧ (∀ i, i < 12 → ∃ w, 1 ≤ w ∧ w ≤ 8 ∧ wn i = nI w)
def RRec (c1 c2 c3 c4 m8 m9 m10 m11 : Int32) (k6 k7 k8 m20 m21 m22 : Nat → Int32) (rr : Nat) : Prop :=
  c1 = m8 ∧ c2 = m9 ∧ c3 = m10 ∧ k6 = m20 ∧ k7 = m21 ∧ k8 = m22 ∧ ((c4 = 1 ∧ m11 = 0 ∧ rr = 0) ∨ (c4 = 0 ∧ m11 = 1 ∧ c3 = nI rr)) ∧ (∃ r, r ≤ 256 ∧ c3 = nI r) ∧ rr ≤ 256
def RBy (n : Nat) (mb : Nat → Int32) (w : Nat → Int64) : Prop := ∀ k, k < n → mb k &&& 255 = nI (wbN w k)
def HD (a b : Int32) : Prop := a = b ∧ ∃ h, h ≤ 1024 ∧ b = nI h
abbrev HDp := (Int32 → Int32 → Prop) × ((Nat → Int32) → (Nat → Int32) → (Nat → Int32) → (Nat → Int32) → Prop)
def HD2 : HDp := (HD, fun u v _ _ => u = v)
def Kc (nf nb ev tm : Nat) : Prop := 4 ≤ nf ∧ nf ≤ 64 ∧ 8 ≤ nb ∧ nb ≤ 512 ∧ ev < 2 ^ 30 ∧ tm < 2 ^ 30
def Rel (hd : HDp) (nf nb : Nat) (LA LI LS : List (Nat × Nat)) (ev tm dc rr : Nat) (c m : St) : Prop :=
  Kc nf nb ev tm ∧ (c.1 5 = nI nf ∧ m.1 0 = nI nf ∧ m.1 1 = nI nb) ∧
  c.2.1 10 = m.2.1 1 ∧ RZ (m.2.1 1) (m.2.1 2) ∧ c.2.1 11 = m.2.1 2 ∧ hd.2 (c.2.1 12) (m.2.1 3) (m.2.1 1) (m.2.1 2) ∧ c.2.1 13 = m.2.1 4 ∧ c.2.1 22 = m.2.1 5 ∧
  c.2.1 30 = m.2.1 6 ∧ c.2.1 5 = m.2.1 17 ∧ c.2.1 4 = m.2.1 18 ∧ RK nb (m.2.1 6) (m.2.1 17) (m.2.1 18) (c.1 0) ∧
  RRec (c.1 1) (c.1 2) (c.1 3) (c.1 4) (m.1 8) (m.1 9) (m.1 10) (m.1 11) (c.2.1 6) (c.2.1 7) (c.2.1 8) (m.2.1 20) (m.2.1 21) (m.2.1 22) rr ∧
  hd.1 (c.1 12) (m.1 4) ∧ (c.1 13 = nI tm ∧ m.1 5 = nI tm) ∧
  RF nf (c.2.1 17) (c.2.1 18) (c.2.1 19) (c.2.1 20) (c.2.1 21) (m.2.1 5) (m.2.1 7) (m.2.1 9) (m.2.1 10) (m.2.1 11) (m.2.1 14) ∧ RT nf tm (c.2.1 18) ∧
  RLs nf (c.2.1 17) (c.2.1 21) (c.2.1 24) (c.2.1 26) (m.2.1 12) (m.2.1 13) (c.1 6) (c.1 7) (m.1 2) (m.1 3) LA LI ∧ RI (m.2.1 5) LA LI ∧
  RD nf (c.2.1 18) (m.2.1 7) (c.1 8) dc ∧ RPn nf (c.2.1 20) (m.2.1 10) (c.1 9) ∧
  RS nf ev (c.2.1 28) (c.2.1 29) (m.2.1 8) (m.2.1 5) (c.1 10) (m.1 7) (c.1 11) (m.1 6) LS ∧
  RBy (64 * nf) (m.2.1 15) (c.2.2 16) ∧ RBy (64 * nb) (m.2.1 16) (c.2.2 3) ∧ RBy 1024 (m.2.1 19) (c.2.2 32)
-- the frames' part: one page's bits change
theorem nI_inj {a b : Nat} (h : nI a = nI b) (ha : a < 2 ^ 31) (hb : b < 2 ^ 31) : a = b := (nI_eq ha hb).mp h
theorem RF.uniq {nf : Nat} {sp si re pi ac fo ms mr mp ma us : Nat → Int32} (h : RF nf sp si re pi ac fo ms mr mp ma us) {f p : Nat} (hnf : nf ≤ 64) (hf : f < nf) (hp : p < 3072) (hsp : sp f = nI p) : fo p = nI f ∧ us f = 1 ∧ ms p = si f ∧ mr p = re f ∧ mp p = pi f ∧ ma p = ac f := by
  rcases h.2.1 f hf with ⟨e, -⟩ | ⟨p', hp', e, hfo, hus⟩
  · exact absurd (hsp.symm.trans e) (m1_ne (by omega))
  · have := nI_inj (hsp.symm.trans e) (by omega) (by omega)
    subst this
    rcases h.1 p hp with ⟨e2, -⟩ | ⟨f', hf', e2, e3, e4⟩
    · exact absurd (hfo.symm.trans e2) (m1_ne (by omega))
    · have := nI_inj (hfo.symm.trans e2) (by omega) (by omega)
      subst this
      exact ⟨hfo, hus, e4⟩
theorem RF.bits {nf : Nat} {sp si re pi ac fo ms mr mp ma us si' re' pi' ac' ms' mr' mp' ma' : Nat → Int32} (h : RF nf sp si re pi ac fo ms mr mp ma us) {f p : Nat} (hnf : nf ≤ 64) (hf : f < nf) (hp : p < 3072) (hsp : sp f = nI p)
    (hC : ∀ j, j ≠ f → si' j = si j ∧ re' j = re j ∧ pi' j = pi j ∧ ac' j = ac j) (hM : ∀ j, j ≠ p → ms' j = ms j ∧ mr' j = mr j ∧ mp' j = mp j ∧ ma' j = ma j) (hE : ms' p = si' f ∧ mr' p = re' f ∧ mp' p = pi' f ∧ ma' p = ac' f) (hB : Bo (re' f) ∧ Bo (pi' f) ∧ Bo (ac' f)) : RF nf sp si' re' pi' ac' fo ms' mr' mp' ma' us := by
  have hu := h.uniq hnf hf hp hsp
  refine ⟨fun q hq => ?_, fun g hg => ?_, fun g hg => ?_⟩
  · by_cases e : q = p
    · subst e
      exact Or.inr ⟨f, hf, hu.1, hsp, hE⟩
    · obtain ⟨e1, e2, e3, e4⟩ := hM q e
      rcases h.1 q hq with ⟨a1, a2, a3, a4, a5⟩ | ⟨g, hg, a1, a2, a3, a4, a5, a6⟩
      · exact Or.inl ⟨a1, by rw [e1, a2], by rw [e2, a3], by rw [e3, a4], by rw [e4, a5]⟩
      · have hgf : g ≠ f := fun q2 => e (by subst q2; exact nI_inj (a2.symm.trans hsp) (by omega) (by omega))
        obtain ⟨b1, b2, b3, b4⟩ := hC g hgf
        exact Or.inr ⟨g, hg, a1, a2, by rw [e1, a3, b1], by rw [e2, a4, b2], by rw [e3, a5, b3], by rw [e4, a6, b4]⟩
  · by_cases e : g = f
    · subst e
      exact Or.inr ⟨p, hp, hsp, hu.1, hu.2.1⟩
    · obtain ⟨b1, b2, b3, b4⟩ := hC g e
      rcases h.2.1 g hg with ⟨a1, a2, a3, a4, a5, a6⟩ | a
      · exact Or.inl ⟨a1, by rw [b1, a2], by rw [b2, a3], by rw [b3, a4], by rw [b4, a5], a6⟩
      · exact Or.inr a
  · by_cases e : g = f
    · subst e; exact hB
    · obtain ⟨b1, b2, b3, b4⟩ := hC g e
      rw [b2, b3, b4]
      exact h.2.2 g hg
theorem un {f : Nat → Int32} {k j : Nat} {x : Int32} (h : j ≠ k) : upd f k x j = f j := pk_un h
theorem us_ {f : Nat → Int32} {k : Nat} {x : Int32} : upd f k x k = x := pk_us
theorem RF.ac {nf : Nat} {sp si re pi ac fo ms mr mp ma us : Nat → Int32} (h : RF nf sp si re pi ac fo ms mr mp ma us) {f p : Nat} (hnf : nf ≤ 64) (hf : f < nf) (hp : p < 3072) (hsp : sp f = nI p) {b : Int32} (hb : Bo b) : RF nf sp si re pi (upd ac f b) fo ms mr mp (upd ma p b) us := by
  have hu := h.uniq hnf hf hp hsp
  have hv := h.2.2 f hf
  exact h.bits hnf hf hp hsp (fun j e => ⟨rfl, rfl, rfl, un e⟩) (fun j e => ⟨rfl, rfl, rfl, un e⟩) ⟨hu.2.2.1, hu.2.2.2.1, hu.2.2.2.2.1, by rw [us_, us_]⟩ ⟨hv.1, hv.2.1, by rw [us_]; exact hb⟩
theorem RF.re {nf : Nat} {sp si re pi ac fo ms mr mp ma us : Nat → Int32} (h : RF nf sp si re pi ac fo ms mr mp ma us) {f p : Nat} (hnf : nf ≤ 64) (hf : f < nf) (hp : p < 3072) (hsp : sp f = nI p) {b : Int32} (hb : Bo b) : RF nf sp si (upd re f b) pi ac fo ms (upd mr p b) mp ma us := by
  have hu := h.uniq hnf hf hp hsp
  have hv := h.2.2 f hf
  exact h.bits hnf hf hp hsp (fun j e => ⟨rfl, un e, rfl, rfl⟩) (fun j e => ⟨rfl, un e, rfl, rfl⟩) ⟨hu.2.2.1, by rw [us_, us_], hu.2.2.2.2.1, hu.2.2.2.2.2⟩ ⟨by rw [us_]; exact hb, hv.2.1, hv.2.2⟩
theorem RF.pi {nf : Nat} {sp si re pi ac fo ms mr mp ma us : Nat → Int32} (h : RF nf sp si re pi ac fo ms mr mp ma us) {f p : Nat} (hnf : nf ≤ 64) (hf : f < nf) (hp : p < 3072) (hsp : sp f = nI p) {b : Int32} (hb : Bo b) : RF nf sp si re (upd pi f b) ac fo ms mr (upd mp p b) ma us := by
  have hu := h.uniq hnf hf hp hsp
  have hv := h.2.2 f hf
  exact h.bits hnf hf hp hsp (fun j e => ⟨rfl, rfl, un e, rfl⟩) (fun j e => ⟨rfl, rfl, un e, rfl⟩) ⟨hu.2.2.1, hu.2.2.2.1, by rw [us_, us_], hu.2.2.2.2.2⟩ ⟨hv.1, by rw [us_]; exact hb, hv.2.2⟩
theorem RF.si {nf : Nat} {sp si re pi ac fo ms mr mp ma us : Nat → Int32} (h : RF nf sp si re pi ac fo ms mr mp ma us) {f p : Nat} (hnf : nf ≤ 64) (hf : f < nf) (hp : p < 3072) (hsp : sp f = nI p) {b : Int32} : RF nf sp (upd si f b) re pi ac fo (upd ms p b) mr mp ma us := by
  have hu := h.uniq hnf hf hp hsp
  have hv := h.2.2 f hf
  exact h.bits hnf hf hp hsp (fun j e => ⟨un e, rfl, rfl, rfl⟩) (fun j e => ⟨un e, rfl, rfl, rfl⟩) ⟨by rw [us_, us_], hu.2.2.2.1, hu.2.2.2.2.1, hu.2.2.2.2.2⟩ hv
-- the lists' part
theorem nd_split {P S : List (Nat × Nat)} {f p : Nat} (h : ((P ++ (f, p) :: S).map Prod.fst).Nodup) : ((P ++ S).map Prod.fst).Nodup ∧ (∀ g q, (g, q) ∈ P ++ S → g ≠ f) := by
  rw [List.map_append, List.map_cons] at h
  obtain ⟨h1, h2, h3⟩ := List.nodup_append.mp h
  obtain ⟨h4, h5⟩ := List.nodup_cons.mp h2
  refine ⟨?_, ?_⟩
  · rw [List.map_append]
    refine List.nodup_append.mpr ⟨h1, h5, fun a ha b hb => h3 a ha b (List.mem_cons_of_mem _ hb)⟩
  · intro g q hg e
    subst e
    rcases List.mem_append.mp hg with h | h
    · exact h3 g (List.mem_map.mpr ⟨_, h, rfl⟩) g List.mem_cons_self rfl
    · exact h4 (List.mem_map.mpr ⟨_, h, rfl⟩)
theorem mem_split {P S : List (Nat × Nat)} {f p g q : Nat} : (g, q) ∈ P ++ (f, p) :: S ↔ (g = f ∧ q = p) ∨ (g, q) ∈ P ++ S := by
  simp only [List.mem_append, List.mem_cons, Prod.mk.injEq]
  constructor
  · rintro (h | h | h)
    · exact Or.inr (Or.inl h)
    · exact Or.inl h
    · exact Or.inr (Or.inr h)
  · rintro (h | h | h)
    · exact Or.inr (Or.inl h)
    · exact Or.inl h
    · exact Or.inr (Or.inr h)
