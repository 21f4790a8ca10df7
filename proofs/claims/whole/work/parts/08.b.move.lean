/-! PURE PART: a page moves between the lists -/
theorem pigeon : ∀ (n : Nat) (L : List Nat), L.Nodup → (∀ a ∈ L, a < n) → L.length ≤ n
  | 0, L, _, h => by
    cases L with
    | nil => exact Nat.le_refl 0
    | cons a L => exact absurd (h a List.mem_cons_self) (by omega)
  | n + 1, L, hn, h => by
    by_cases hm : n ∈ L
    · have h1 := pigeon n (L.erase n) (hn.erase n) (fun a ha => by
        have h2 := (List.Nodup.mem_erase_iff hn).mp ha
        have h3 := h a h2.2
        have h4 := h2.1
        omega)
      rw [List.length_erase_of_mem hm] at h1
      omega
    · have h1 := pigeon n L hn (fun a ha => by
        have h3 := h a ha
        have h4 : a ≠ n := fun e => hm (e ▸ ha)
        omega)
      omega
theorem RLs.len {nf : Nat} {sp ac ra ri ma mi : Nat → Int32} {ca ci mca mci : Int32} {LA LI : List (Nat × Nat)} (h : RLs nf sp ac ra ri ma mi ca ci mca mci LA LI) : LA.length + LI.length ≤ nf := by
  obtain ⟨-, -, -, -, hA, hI, mA, mI⟩ := h
  have hn : ((LA ++ LI).map Prod.fst).Nodup := by
    rw [List.map_append]
    refine List.nodup_append.mpr ⟨hA, hI, fun a ha b hb e => ?_⟩
    subst e
    obtain ⟨⟨a1, p1⟩, h1, rfl⟩ := List.mem_map.mp ha
    obtain ⟨⟨b1, p2⟩, h2, e2⟩ := List.mem_map.mp hb
    have e2 : b1 = a1 := e2
    subst e2
    have := (mA _ _).mp h1
    have := (mI _ _).mp h2
    have e0 : (1 : Int32) = 0 := by rw [← (mA b1 p1).mp h1 |>.2.2.2, ← (mI b1 p2).mp h2 |>.2.2.2]
    exact z1_ne e0
  have hs : ((LA ++ LI).map Prod.fst) ⊆ List.range nf := by
    intro a ha
    obtain ⟨⟨a1, p1⟩, h1, rfl⟩ := List.mem_map.mp ha
    rcases List.mem_append.mp h1 with h1 | h1
    · exact List.mem_range.mpr ((mA _ _).mp h1).1
    · exact List.mem_range.mpr ((mI _ _).mp h1).1
  have h2 := pigeon nf _ hn (fun a ha => List.mem_range.mp (hs ha))
  simpa using h2
theorem RLs.AA {nf : Nat} {sp ac ra ri ma mi ra' ma' : Nat → Int32} {ca ci mca mci ca' mca' : Int32} {P S LI : List (Nat × Nat)} {f p : Nat} (h : RLs nf sp ac ra ri ma mi ca ci mca mci (P ++ (f, p) :: S) LI) (h1 : RowIs ra' ca' (f :: (P ++ S).map Prod.fst)) (h2 : RowIs ma' mca' (p :: (P ++ S).map Prod.snd)) : RLs nf sp (upd ac f 1) ra' ri ma' mi ca' ci mca' mci ((f, p) :: (P ++ S)) LI := by
  obtain ⟨-, b2, -, b4, hA, hI, mA, mI⟩ := h
  obtain ⟨n1, n2⟩ := nd_split hA
  have hfp := (mA f p).mp (mem_split.mpr (Or.inl ⟨rfl, rfl⟩))
  have hac : ∀ g, upd ac f 1 g = ac g := fun g => by
    by_cases e : g = f
    · subst e; rw [us_, hfp.2.2.2]
    · rw [un e]
  refine ⟨h1, b2, h2, b4, ?_, hI, fun g q => ?_, fun g q => by rw [hac]; exact mI g q⟩
  · rw [List.map_cons]
    refine List.nodup_cons.mpr ⟨fun hm => ?_, n1⟩
    obtain ⟨⟨g, q⟩, hg, e⟩ := List.mem_map.mp hm
    exact n2 g q hg e
  · rw [hac, ← mA, mem_split, List.mem_cons, Prod.mk.injEq]
theorem RLs.II {nf : Nat} {sp ac ra ri ma mi ri' mi' : Nat → Int32} {ca ci mca mci ci' mci' : Int32} {P S LA : List (Nat × Nat)} {f p : Nat} (h : RLs nf sp ac ra ri ma mi ca ci mca mci LA (P ++ (f, p) :: S)) (h1 : RowIs ri' ci' (f :: (P ++ S).map Prod.fst)) (h2 : RowIs mi' mci' (p :: (P ++ S).map Prod.snd)) : RLs nf sp (upd ac f 0) ra ri' ma mi' ca ci' mca mci' LA ((f, p) :: (P ++ S)) := by
  obtain ⟨b1, -, b3, -, hA, hI, mA, mI⟩ := h
  obtain ⟨n1, n2⟩ := nd_split hI
  have hfp := (mI f p).mp (mem_split.mpr (Or.inl ⟨rfl, rfl⟩))
  have hac : ∀ g, upd ac f 0 g = ac g := fun g => by
    by_cases e : g = f
    · subst e; rw [us_, hfp.2.2.2]
    · rw [un e]
  refine ⟨b1, h1, b3, h2, hA, ?_, fun g q => by rw [hac]; exact mA g q, fun g q => ?_⟩
  · rw [List.map_cons]
    refine List.nodup_cons.mpr ⟨fun hm => ?_, n1⟩
    obtain ⟨⟨g, q⟩, hg, e⟩ := List.mem_map.mp hm
    exact n2 g q hg e
  · rw [hac, ← mI, mem_split, List.mem_cons, Prod.mk.injEq]
theorem RLs.AI {nf : Nat} {sp ac ra ri ma mi ra' ri' ma' mi' : Nat → Int32} {ca ci mca mci ca' ci' mca' mci' : Int32} {P S LI : List (Nat × Nat)} {f p : Nat} (h : RLs nf sp ac ra ri ma mi ca ci mca mci (P ++ (f, p) :: S) LI) (h1 : RowIs ra' ca' ((P ++ S).map Prod.fst)) (h2 : RowIs ma' mca' ((P ++ S).map Prod.snd)) (h3 : RowIs ri' ci' (f :: LI.map Prod.fst)) (h4 : RowIs mi' mci' (p :: LI.map Prod.snd)) : RLs nf sp (upd ac f 0) ra' ri' ma' mi' ca' ci' mca' mci' (P ++ S) ((f, p) :: LI) := by
  obtain ⟨-, -, -, -, hA, hI, mA, mI⟩ := h
  obtain ⟨n1, n2⟩ := nd_split hA
  have hfp := (mA f p).mp (mem_split.mpr (Or.inl ⟨rfl, rfl⟩))
  have hnI : ∀ q, (f, q) ∉ LI := fun q hq => z1_ne (by rw [← hfp.2.2.2, ((mI f q).mp hq).2.2.2])
  refine ⟨h1, h3, h2, h4, n1, ?_, fun g q => ?_, fun g q => ?_⟩
  · rw [List.map_cons]
    refine List.nodup_cons.mpr ⟨fun hm => ?_, hI⟩
    obtain ⟨⟨g, q⟩, hg, e⟩ := List.mem_map.mp hm
    have e : g = f := e
    subst e
    exact hnI q hg
  · by_cases e : g = f
    · subst e
      rw [us_]
      exact ⟨fun hg => absurd rfl (n2 g q hg), fun hg => absurd hg.2.2.2 (by decide)⟩
    · rw [un e, ← mA, mem_split]
      exact ⟨fun hg => Or.inr hg, fun hg => hg.resolve_left (fun w => e w.1)⟩
  · by_cases e : g = f
    · subst e
      rw [us_, List.mem_cons, Prod.mk.injEq]
      constructor
      · rintro (⟨-, rfl⟩ | hg)
        · exact ⟨hfp.1, hfp.2.1, hfp.2.2.1, rfl⟩
        · exact absurd hg (hnI q)
      · rintro ⟨-, hq, hs, -⟩
        exact Or.inl ⟨rfl, nI_inj (hs.symm.trans hfp.2.2.1) (by omega) (by omega)⟩
    · rw [un e, ← mI, List.mem_cons, Prod.mk.injEq]
      exact ⟨fun hg => hg.resolve_left (fun w => e w.1), fun hg => Or.inr hg⟩
theorem RLs.IA {nf : Nat} {sp ac ra ri ma mi ra' ri' ma' mi' : Nat → Int32} {ca ci mca mci ca' ci' mca' mci' : Int32} {P S LA : List (Nat × Nat)} {f p : Nat} (h : RLs nf sp ac ra ri ma mi ca ci mca mci LA (P ++ (f, p) :: S)) (h1 : RowIs ri' ci' ((P ++ S).map Prod.fst)) (h2 : RowIs mi' mci' ((P ++ S).map Prod.snd)) (h3 : RowIs ra' ca' (f :: LA.map Prod.fst)) (h4 : RowIs ma' mca' (p :: LA.map Prod.snd)) : RLs nf sp (upd ac f 1) ra' ri' ma' mi' ca' ci' mca' mci' ((f, p) :: LA) (P ++ S) := by
  obtain ⟨-, -, -, -, hA, hI, mA, mI⟩ := h
  obtain ⟨n1, n2⟩ := nd_split hI
  have hfp := (mI f p).mp (mem_split.mpr (Or.inl ⟨rfl, rfl⟩))
  have hnA : ∀ q, (f, q) ∉ LA := fun q hq => z1_ne (by rw [← hfp.2.2.2, ((mA f q).mp hq).2.2.2])
  refine ⟨h3, h1, h4, h2, ?_, n1, fun g q => ?_, fun g q => ?_⟩
  · rw [List.map_cons]
    refine List.nodup_cons.mpr ⟨fun hm => ?_, hA⟩
    obtain ⟨⟨g, q⟩, hg, e⟩ := List.mem_map.mp hm
    have e : g = f := e
    subst e
    exact hnA q hg
  · by_cases e : g = f
    · subst e
      rw [us_, List.mem_cons, Prod.mk.injEq]
      constructor
      · rintro (⟨-, rfl⟩ | hg)
        · exact ⟨hfp.1, hfp.2.1, hfp.2.2.1, rfl⟩
        · exact absurd hg (hnA q)
      · rintro ⟨-, hq, hs, -⟩
        exact Or.inl ⟨rfl, nI_inj (hs.symm.trans hfp.2.2.1) (by omega) (by omega)⟩
    · rw [un e, ← mA, List.mem_cons, Prod.mk.injEq]
      exact ⟨fun hg => hg.resolve_left (fun w => e w.1), fun hg => Or.inr hg⟩
  · by_cases e : g = f
    · subst e
      rw [us_]
      exact ⟨fun hg => absurd rfl (n2 g q hg), fun hg => absurd hg.2.2.2 (by decide)⟩
    · rw [un e, ← mI, mem_split]
      exact ⟨fun hg => Or.inr hg, fun hg => hg.resolve_left (fun w => e w.1)⟩
