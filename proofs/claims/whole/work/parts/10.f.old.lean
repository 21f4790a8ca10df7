/-! PURE PART: the oldest dirty page -/
section K6
variable {hd : HDp} {N nf nb ev tm dc rr : Nat} {LA LI LS : List (Nat × Nat)} {c m : St}
def Cd (nf tm a : Nat) (c : St) (f p t : Nat) : Prop := f < nf ∧ p < 3072 ∧ c.2.1 17 f = nI p ∧ c.2.1 18 f = nI t ∧ t ≤ tm ∧ a ≤ t * 3072 + p
def AB (x : Int64) (a : Nat) : Prop := (x = -1 ∧ a = 0) ∨ ∃ k, x = lN k ∧ a = k + 1 ∧ k < 2 ^ 62
theorem old_aux0 {A B k p0 K : Nat} (h : A + 3072 ≤ B) (hk : k < 3072) (h2 : B + p0 ≤ K) : A + k ≤ K := by omega
theorem old_aux {t t0 k p0 K : Nat} (hk : k < 3072) (h : t < t0) (h2 : t0 * 3072 + p0 ≤ K) : t * 3072 + k ≤ K := by
  have h3 : (t + 1) * 3072 ≤ t0 * 3072 := Nat.mul_le_mul_right 3072 h
  rw [Nat.succ_mul] at h3
  exact old_aux0 h3 hk h2
theorem old_aux2 {t t' p q : Nat} (hp : p < 3072) (hq : q < 3072) (h : t * 3072 + p = t' * 3072 + q) : q = p := by omega
/-- a frame: clean, or dirty with its page -/
theorem Rel.dF (R : Rel hd nf nb LA LI LS ev tm dc rr c m) {f : Nat} (hf : f < nf) : c.2.1 18 f = -1 ∨ ∃ p t, p < 3072 ∧ c.2.1 17 f = nI p ∧ c.2.1 18 f = nI t ∧ t ≤ tm := by
  rcases R.T f hf with h | ⟨t, ht, e⟩
  · exact Or.inl h
  · rcases R.F.2.1 f hf with ⟨-, h, -⟩ | ⟨p, hp, e2, -⟩
    · exact Or.inl h
    · exact Or.inr ⟨p, t, hp, e2, e, ht⟩
theorem key_n (R : Rel hd nf nb LA LI LS ev tm dc rr c m) {f : Nat} (hf : f < nf) : (c.2.1 18 f = -1 ∧ pf_X2_ageKey N nf nb (nI f) c = some (-1)) ∨ ∃ p t, p < 3072 ∧ c.2.1 17 f = nI p ∧ c.2.1 18 f = nI t ∧ t ≤ tm ∧ pf_X2_ageKey N nf nb (nI f) c = some (lN (t * 3072 + p)) := by
  have hnf := R.1.2.1
  have htm := R.1.2.2.2.2.2
  unfold pf_X2_ageKey pf_X2_isDirty
  rw [if_neg (nI_pos (by omega)), R.2.1.1, if_n (by omega) (by omega), if_neg (by omega), bI_n hf (by omega), cl_n (by omega)]
  rcases R.dF hf with h | ⟨p, t, hp, e1, e2, ht⟩
  · rw [h, if_pos rfl, Option.bind_some, if_pos rfl]; exact Or.inl ⟨rfl, rfl⟩
  · refine Or.inr ⟨p, t, hp, e1, e2, ht, ?_⟩
    rw [e2, if_neg (m1_ne (by omega)), Option.bind_some, if_neg z1_ne, bI_n hf (by omega), bI_n hf (by omega), e1, nI_l (by omega), nI_l (by omega), show (3072 : Int64) = lN 3072 from rfl, lN_mul, lN_add]
theorem c_old_L (R : Rel hd nf nb LA LI LS ev tm dc rr c m) {x : Int64} {a : Nat} (hx : AB x a) : ∀ (d k n : Nat) (x3 : Int32) (x4 : Int64), k + d = nf → d < n → ((x3 = -1 ∧ ∀ f p t, f < k → ¬ Cd nf tm a c f p t) ∨ (∃ f p t, f < k ∧ Cd nf tm a c f p t ∧ x3 = nI f ∧ x4 = lN (t * 3072 + p) ∧ ∀ f' p' t', f' < k → Cd nf tm a c f' p' t' → t * 3072 + p ≤ t' * 3072 + p')) →
    ∃ r, pf_X2_oldestDirty_L8 N nf nb c n x x3 x4 (nI k) = some r ∧ ((r = -1 ∧ ∀ f p t, ¬ Cd nf tm a c f p t) ∨ (∃ f p t, Cd nf tm a c f p t ∧ r = nI f ∧ ∀ f' p' t', Cd nf tm a c f' p' t' → t * 3072 + p ≤ t' * 3072 + p')) := by
  have hnf := R.1.2.1
  have htm := R.1.2.2.2.2.2
  have hdc := dc_le R.D
  intro d
  induction d with
  | zero =>
    intro k n x3 x4 hk hn hI
    obtain ⟨n, rfl⟩ : ∃ j, n = j + 1 := ⟨n - 1, by omega⟩
    rw [pf_X2_oldestDirty_L8, R.2.1.1, if_n (by omega) (by omega), if_pos (by omega)]
    refine ⟨x3, rfl, ?_⟩
    rcases hI with ⟨h1, h2⟩ | ⟨f, p, t, h1, h2, h3, h4, h5⟩
    · exact Or.inl ⟨h1, fun f p t hc => h2 f p t (by have := hc.1; omega) hc⟩
    · exact Or.inr ⟨f, p, t, h2, h3, fun f' p' t' hc => h5 f' p' t' (by have := hc.1; omega) hc⟩
  | succ d ih =>
    intro k n x3 x4 hk hn hI
    obtain ⟨n, rfl⟩ : ∃ j, n = j + 1 := ⟨n - 1, by omega⟩
    rw [pf_X2_oldestDirty_L8, R.2.1.1, if_n (by omega) (by omega), if_neg (by omega), R.D.1]
    have hz0 : nI dc ≤ (0 : Int32) ↔ dc ≤ 0 := nI_leI (b := 0) (by omega) (by decide)
    by_cases h0 : dc ≤ 0
    · rw [if_pos (hz0.mpr h0)]
      have hz := cnt_zero (P := fun f => !(c.2.1 18 f == -1)) (n := nf) (by rw [← R.D.2.1]; omega)
      have hno : ∀ f p t, ¬ Cd nf tm a c f p t := fun f p t hc => by
        have := hz f hc.1
        simp only [Bool.not_eq_false', beq_iff_eq] at this
        exact absurd (hc.2.2.2.1.symm.trans this) (m1_ne (by have := hc.2.2.2.2.1; omega))
      rcases hI with ⟨h1, h2⟩ | ⟨f, p, t, h1, h2, h3, h4, h5⟩
      · exact ⟨x3, rfl, Or.inl ⟨h1, hno⟩⟩
      · exact absurd h2 (hno f p t)
    · rw [if_neg (fun q => h0 (hz0.mp q))]
      have hf : k < nf := by omega
      unfold pf_X2_oldestDirty_b52 pf_X2_oldestDirty_b59
      simp only [nI_1]
      rcases key_n (N := N) R hf with ⟨h, hkey⟩ | ⟨p, t, hp, e1, e2, ht, hkey⟩
      · -- clean
        have hno : ∀ p t, ¬ Cd nf tm a c k p t := fun p t hc => absurd (hc.2.2.2.1.symm.trans h) (m1_ne (by have := hc.2.2.2.2.1; omega))
        have hcl : lg_cmp (-1) x ≤ 0 := by
          rw [lg_cmp_le]
          rcases hx with ⟨e, -⟩ | ⟨k', e, -, hk'⟩
          · rw [e]; exact Int64.le_refl _
          · rw [e, Int64.le_iff_toInt_le, pk_lT (by omega)]
            show (-1 : Int) ≤ _
            omega
        rw [hkey, Option.bind_some, if_pos hcl]
        refine ih (k + 1) n x3 x4 (by omega) (by omega) ?_
        rcases hI with ⟨h1, h2⟩ | ⟨f, p, t, h1, h2, h3, h4, h5⟩
        · refine Or.inl ⟨h1, fun f p t hfk hc => ?_⟩
          by_cases e : f = k
          · subst e; exact hno p t hc
          · exact h2 f p t (by omega) hc
        · refine Or.inr ⟨f, p, t, by omega, h2, h3, h4, fun f' p' t' hfk hc => ?_⟩
          by_cases e : f' = k
          · subst e; exact absurd hc (hno p' t')
          · exact h5 f' p' t' (by omega) hc
      · rw [hkey, Option.bind_some]
        have huq : ∀ p' t', Cd nf tm a c k p' t' → p' = p ∧ t' = t := fun p' t' hc => ⟨nI_inj (hc.2.2.1.symm.trans e1) (by have := hc.2.1; omega) (by omega), nI_inj (hc.2.2.2.1.symm.trans e2) (by have := hc.2.2.2.2.1; omega) (by omega)⟩
        have hcmp : lg_cmp (lN (t * 3072 + p)) x ≤ 0 ↔ t * 3072 + p < a := by
          rw [lg_cmp_le]
          rcases hx with ⟨e, e0⟩ | ⟨k', e, e0, hk'⟩
          · rw [e, e0, Int64.le_iff_toInt_le, pk_lT (by omega)]
            constructor
            · intro h
              have h : ((t * 3072 + p : Nat) : Int) ≤ -1 := h
              omega
            · intro h; omega
          · rw [e, e0, pk_lLE (by omega) (by omega)]; omega
        by_cases hlt : t * 3072 + p < a
        · rw [if_pos (hcmp.mpr hlt)]
          have hno : ∀ p t, ¬ Cd nf tm a c k p t := fun p' t' hc => by
            obtain ⟨h1, h2⟩ := huq p' t' hc
            have := hc.2.2.2.2.2
            subst h1 h2; omega
          refine ih (k + 1) n x3 x4 (by omega) (by omega) ?_
          rcases hI with ⟨h1, h2⟩ | ⟨f, p, t, h1, h2, h3, h4, h5⟩
          · refine Or.inl ⟨h1, fun f p t hfk hc => ?_⟩
            by_cases e : f = k
            · subst e; exact hno p t hc
            · exact h2 f p t (by omega) hc
          · refine Or.inr ⟨f, p, t, by omega, h2, h3, h4, fun f' p' t' hfk hc => ?_⟩
            by_cases e : f' = k
            · subst e; exact absurd hc (hno p' t')
            · exact h5 f' p' t' (by omega) hc
        · rw [if_neg (fun q => hlt (hcmp.mp q))]
          have hcd : Cd nf tm a c k p t := ⟨hf, hp, e1, e2, ht, by omega⟩
          rcases hI with ⟨h1, h2⟩ | ⟨f, p0, t0, h1, h2, h3, h4, h5⟩
          · rw [if_pos h1]
            refine ih (k + 1) n _ _ (by omega) (by omega) (Or.inr ⟨k, p, t, by omega, hcd, rfl, rfl, fun f' p' t' hfk hc => ?_⟩)
            by_cases e : f' = k
            · subst e
              obtain ⟨g1, g2⟩ := huq p' t' hc
              subst g1 g2; omega
            · exact absurd hc (h2 f' p' t' (by omega))
          · have ht0 := h2.2.2.2.2.1
            have hp0 := h2.2.1
            rw [if_neg (by rw [h3]; exact m1_ne (by omega))]
            have hge : (0 : Int32) ≤ lg_cmp (lN (t * 3072 + p)) x4 ↔ t0 * 3072 + p0 ≤ t * 3072 + p := by
              rw [lg_cmp_ge, h4, pk_lLE (by omega) (by omega)]
            by_cases hle : t0 * 3072 + p0 ≤ t * 3072 + p
            · rw [if_pos (hge.mpr hle)]
              refine ih (k + 1) n _ _ (by omega) (by omega) (Or.inr ⟨f, p0, t0, by omega, h2, h3, h4, fun f' p' t' hfk hc => ?_⟩)
              by_cases e : f' = k
              · subst e
                obtain ⟨g1, g2⟩ := huq p' t' hc
                subst g1 g2; omega
              · exact h5 f' p' t' (by omega) hc
            · rw [if_neg (fun q => hle (hge.mp q))]
              refine ih (k + 1) n _ _ (by omega) (by omega) (Or.inr ⟨k, p, t, by omega, hcd, rfl, rfl, fun f' p' t' hfk hc => ?_⟩)
              by_cases e : f' = k
              · subst e
                obtain ⟨g1, g2⟩ := huq p' t' hc
                subst g1 g2; omega
              · exact Nat.le_trans (Nat.le_of_lt (Nat.lt_of_not_le hle)) (h5 f' p' t' (by omega) hc)
theorem c_old (R : Rel hd nf nb LA LI LS ev tm dc rr c m) (hN : 5000 ≤ N) {x : Int64} {a : Nat} (hx : AB x a) : ∃ r, pf_X2_oldestDirty N nf nb x c = some r ∧ ((r = -1 ∧ ∀ f p t, ¬ Cd nf tm a c f p t) ∨ (∃ f p t, Cd nf tm a c f p t ∧ r = nI f ∧ ∀ f' p' t', Cd nf tm a c f' p' t' → t * 3072 + p ≤ t' * 3072 + p')) :=
  c_old_L R hx nf 0 N _ _ (by omega) (by have := R.1.2.1; omega) (Or.inl ⟨rfl, fun f p t h => absurd h (by omega)⟩)
-- the reference's
def Md (tm : Nat) (ok : Nat → Prop) (m : St) (p t : Nat) : Prop := p < 3072 ∧ m.2.1 7 p = nI t ∧ t ≤ tm ∧ m.2.1 23 p = 0 ∧ ok t
theorem Rel.dM (R : Rel hd nf nb LA LI LS ev tm dc rr c m) {p : Nat} (hp : p < 3072) : m.2.1 7 p = -1 ∨ ∃ f t, f < nf ∧ c.2.1 17 f = nI p ∧ m.2.1 7 p = nI t ∧ c.2.1 18 f = nI t ∧ t ≤ tm := by
  rcases R.F.1 p hp with ⟨-, h, -⟩ | ⟨f, hf, e1, e2, e3, -⟩
  · exact Or.inl h
  · rcases R.T f hf with h | ⟨t, ht, e⟩
    · exact Or.inl (e3.trans h)
    · exact Or.inr ⟨f, t, hf, e2, e3.trans e, e, ht⟩
theorem m_old_L (R : Rel hd nf nb LA LI LS ev tm dc rr c m) {lat : Int32} {ok : Nat → Prop} (hl : ∀ t, t ≤ tm → (lat < nI t ↔ ¬ ok t)) : ∀ (d k n : Nat) (x2 : Int32), k + d = 3072 → d < n → ((x2 = -1 ∧ ∀ p t, p < k → ¬ Md tm ok m p t) ∨ (∃ p t, p < k ∧ Md tm ok m p t ∧ x2 = nI p ∧ ∀ p' t', p' < k → Md tm ok m p' t' → t * 3072 + p ≤ t' * 3072 + p')) →
    ∃ r, pf_X7_oldest_L4 N m n lat x2 (nI k) = some r ∧ ((r = -1 ∧ ∀ p t, ¬ Md tm ok m p t) ∨ (∃ p t, Md tm ok m p t ∧ r = nI p ∧ ∀ p' t', Md tm ok m p' t' → t * 3072 + p ≤ t' * 3072 + p')) := by
  have htm := R.1.2.2.2.2.2
  intro d
  induction d with
  | zero =>
    intro k n x2 hk hn hI
    obtain ⟨n, rfl⟩ : ∃ j, n = j + 1 := ⟨n - 1, by omega⟩
    rw [pf_X7_oldest_L4, show (3072 : Int32) = nI 3072 from rfl, if_n (by omega) (by omega), if_pos (by omega)]
    refine ⟨x2, rfl, ?_⟩
    rcases hI with ⟨h1, h2⟩ | ⟨p, t, h1, h2, h3, h5⟩
    · exact Or.inl ⟨h1, fun p t hc => h2 p t (by have := hc.1; omega) hc⟩
    · exact Or.inr ⟨p, t, h2, h3, fun p' t' hc => h5 p' t' (by have := hc.1; omega) hc⟩
  | succ d ih =>
    intro k n x2 hk hn hI
    obtain ⟨n, rfl⟩ : ∃ j, n = j + 1 := ⟨n - 1, by omega⟩
    have hp : k < 3072 := by omega
    rw [pf_X7_oldest_L4, show (3072 : Int32) = nI 3072 from rfl, if_n (by omega) (by omega), if_neg (by omega), isDirty_m R hp, Option.bind_some]
    unfold pf_X7_oldest_b58 pf_X7_oldest_b60
    simp only [nI_1, bI_n hp (show 3072 < 2 ^ 31 by decide), cl_n (show k < 2 ^ 31 by omega)]
    have skip : (∀ t, ¬ Md tm ok m k t) → ∃ r, pf_X7_oldest_L4 N m n lat x2 (nI (k + 1)) = some r ∧ ((r = -1 ∧ ∀ p t, ¬ Md tm ok m p t) ∨ (∃ p t, Md tm ok m p t ∧ r = nI p ∧ ∀ p' t', Md tm ok m p' t' → t * 3072 + p ≤ t' * 3072 + p')) := by
      intro hno
      refine ih (k + 1) n x2 (by omega) (by omega) ?_
      rcases hI with ⟨h1, h2⟩ | ⟨p, t, h1, h2, h3, h5⟩
      · refine Or.inl ⟨h1, fun p t hpk hc => ?_⟩
        by_cases e : p = k
        · subst e; exact hno t hc
        · exact h2 p t (by omega) hc
      · refine Or.inr ⟨p, t, by omega, h2, h3, fun p' t' hpk hc => ?_⟩
        by_cases e : p' = k
        · subst e; exact absurd hc (hno t')
        · exact h5 p' t' (by omega) hc
    rcases R.dM hp with h | ⟨f, t, hf, e1, e2, e3, ht⟩
    · rw [h, if_pos rfl, if_pos rfl]
      exact skip (fun t hc => absurd (hc.2.1.symm.trans h) (m1_ne (by have := hc.2.2.1; omega)))
    · rw [e2, if_neg (m1_ne (by omega)), if_neg z1_ne]
      have huq : ∀ t', Md tm ok m k t' → t' = t := fun t' hc => nI_inj (hc.2.1.symm.trans e2) (by have := hc.2.2.1; omega) (by omega)
      by_cases h23 : m.2.1 23 k = 0
      · rw [if_pos h23]
        by_cases hlt : lat < nI t
        · rw [if_pos hlt]
          exact skip (fun t' hc => by
            have := huq t' hc
            subst this
            exact (hl t' ht).mp hlt hc.2.2.2.2)
        · rw [if_neg hlt]
          have hok : ok t := Classical.byContradiction (fun q => hlt ((hl t ht).mpr q))
          have hmd : Md tm ok m k t := ⟨hp, e2, ht, h23, hok⟩
          rcases hI with ⟨h1, h2⟩ | ⟨p0, t0, h1, h2, h3, h5⟩
          · rw [if_pos h1]
            refine ih (k + 1) n _ (by omega) (by omega) (Or.inr ⟨k, t, by omega, hmd, rfl, fun p' t' hpk hc => ?_⟩)
            by_cases e : p' = k
            · subst e
              have := huq t' hc
              subst this; omega
            · exact absurd hc (h2 p' t' (by omega))
          · have hp0 := h2.1
            have ht0 := h2.2.2.1
            rw [if_neg (by rw [h3]; exact m1_ne (by omega)), h3, bI_n hp0 (by decide), cl_n (by omega), h2.2.1, if_n (by omega) (by omega)]
            by_cases hle : t0 ≤ t
            · rw [if_pos hle]
              refine ih (k + 1) n _ (by omega) (by omega) (Or.inr ⟨p0, t0, by omega, h2, rfl, fun p' t' hpk hc => ?_⟩)
              by_cases e : p' = k
              · subst e
                have := huq t' hc
                subst this; omega
              · exact h5 p' t' (by omega) hc
            · rw [if_neg hle]
              refine ih (k + 1) n _ (by omega) (by omega) (Or.inr ⟨k, t, by omega, hmd, rfl, fun p' t' hpk hc => ?_⟩)
              by_cases e : p' = k
              · subst e
                have := huq t' hc
                subst this; omega
              · exact old_aux hp (Nat.lt_of_not_le hle) (h5 p' t' (by omega) hc)
      · rw [if_neg h23]
        exact skip (fun t' hc => h23 hc.2.2.2.1)
theorem m_old (R : Rel hd nf nb LA LI LS ev tm dc rr c m) (hN : 5000 ≤ N) {lat : Int32} {ok : Nat → Prop} (hl : ∀ t, t ≤ tm → (lat < nI t ↔ ¬ ok t)) : ∃ r, pf_X7_oldest N lat m = some r ∧ ((r = -1 ∧ ∀ p t, ¬ Md tm ok m p t) ∨ (∃ p t, Md tm ok m p t ∧ r = nI p ∧ ∀ p' t', Md tm ok m p' t' → t * 3072 + p ≤ t' * 3072 + p')) :=
  m_old_L R hl 3072 0 N _ (by omega) (by omega) (Or.inl ⟨rfl, fun p t h => absurd h (by omega)⟩)
-- both
def TR (tm a : Nat) (m : St) : Prop := ∀ p t, p < 3072 → t ≤ tm → m.2.1 7 p = nI t → (m.2.1 23 p = 0 ↔ a ≤ t * 3072 + p)
theorem op_old (R : Rel hd nf nb LA LI LS ev tm dc rr c m) (hN : 5000 ≤ N) {x : Int64} {a : Nat} (hx : AB x a) (hT : TR tm a m) {lat : Int32} {ok : Nat → Prop} (hl : ∀ t, t ≤ tm → (lat < nI t ↔ ¬ ok t)) (hdn : ∀ t t', t ≤ t' → ok t' → ok t) :
    (pf_X2_oldestDirty N nf nb x c = some (-1) ∧ pf_X7_oldest N lat m = some (-1) ∧ ∀ f p t, ¬ Cd nf tm a c f p t) ∨
    (∃ f p t, Cd nf tm a c f p t ∧ (∀ f' p' t', Cd nf tm a c f' p' t' → t * 3072 + p ≤ t' * 3072 + p') ∧ pf_X2_oldestDirty N nf nb x c = some (nI f) ∧ ((ok t ∧ pf_X7_oldest N lat m = some (nI p)) ∨ (¬ ok t ∧ pf_X7_oldest N lat m = some (-1)))) := by
  have htm := R.1.2.2.2.2.2
  have mc : ∀ p t, Md tm ok m p t → ∃ f, Cd nf tm a c f p t := fun p t hc => by
    obtain ⟨h1, h2, h3, h4, h5⟩ := hc
    rcases R.dM h1 with h | ⟨f, t', hf, e1, e2, e3, ht'⟩
    · exact absurd (h2.symm.trans h) (m1_ne (by omega))
    · have := nI_inj (h2.symm.trans e2) (by omega) (by omega)
      subst this
      exact ⟨f, hf, h1, e1, e3, h3, (hT p t h1 h3 h2).mp h4⟩
  have cm : ∀ f p t, Cd nf tm a c f p t → ok t → Md tm ok m p t := fun f p t hc hok => by
    obtain ⟨h1, h2, h3, h4, h5, h6⟩ := hc
    have e := (R.mof h1 h2 h3).2.2.1.trans h4
    exact ⟨h2, e, h5, (hT p t h2 h5 e).mpr h6, hok⟩
  obtain ⟨r1, x1, y1⟩ := c_old (N := N) R hN hx
  obtain ⟨r2, x2, y2⟩ := m_old (N := N) R hN hl
  rcases y1 with ⟨e1, n1⟩ | ⟨f, p, t, hc, e1, mn⟩
  · rcases y2 with ⟨e2, -⟩ | ⟨p, t, hc, -⟩
    · exact Or.inl ⟨by rw [x1, e1], by rw [x2, e2], n1⟩
    · obtain ⟨f, hc'⟩ := mc p t hc
      exact absurd hc' (n1 f p t)
  · refine Or.inr ⟨f, p, t, hc, mn, by rw [x1, e1], ?_⟩
    by_cases hok : ok t
    · refine Or.inl ⟨hok, ?_⟩
      have hm := cm f p t hc hok
      rcases y2 with ⟨e2, n2⟩ | ⟨p', t', hc', e2, mn'⟩
      · exact absurd hm (n2 p t)
      · obtain ⟨f', hc''⟩ := mc p' t' hc'
        have h1 := mn f' p' t' hc''
        have h2 := mn' p t hm
        have hp := hc.2.1
        have hp' := hc'.1
        have : p' = p := by omega
        rw [x2, e2, this]
    · refine Or.inr ⟨hok, ?_⟩
      rcases y2 with ⟨e2, n2⟩ | ⟨p', t', hc', e2, mn'⟩
      · rw [x2, e2]
      · obtain ⟨f', hc''⟩ := mc p' t' hc'
        have h1 := mn f' p' t' hc''
        have hp := hc.2.1
        have hp' := hc'.1
        exact absurd (hdn t t' (by omega) hc'.2.2.2.2) hok
-- a step
theorem tr_step {c' m' : St} {LA' LI' LS' : List (Nat × Nat)} {dc' rr' a f p t : Nat} (R : Rel hd nf nb LA LI LS ev tm dc rr c m) (R' : Rel hd nf nb LA' LI' LS' ev tm dc' rr' c' m') (hT : TR tm a m) (hc : Cd nf tm a c f p t) (mn : ∀ f' p' t', Cd nf tm a c f' p' t' → t * 3072 + p ≤ t' * 3072 + p') (hs : c'.2.1 18 f = -1 ∨ c'.2.1 18 = c.2.1 18) (h17 : c'.2.1 17 = c.2.1 17) (h18 : ∀ g, g ≠ f → c'.2.1 18 g = c.2.1 18 g) (h23 : m'.2.1 23 = m.2.1 23) : TR tm (t * 3072 + p + 1) (sA m' 23 (upd (m'.2.1 23) p 1)) ∧ (∀ f' p' t', Cd nf tm (t * 3072 + p + 1) c' f' p' t' → f' ≠ f ∧ Cd nf tm a c f' p' t') := by
  have htm := R.1.2.2.2.2.2
  have hnf := R.1.2.1
  refine ⟨fun q t' hq ht' e => ?_, fun f' p' t' hc' => ?_⟩
  · have e : m'.2.1 7 q = nI t' := e
    show upd (m'.2.1 23) p 1 q = 0 ↔ _
    rcases R'.dM hq with h | ⟨g, t2, hg, e1, e2, e3, ht2⟩
    · exact absurd (e.symm.trans h) (m1_ne (by omega))
    · have := nI_inj (e.symm.trans e2) (by omega) (by omega)
      subst this
      rw [h17] at e1
      by_cases eq : q = p
      · subst eq
        rw [us_]
        have egf : g = f := by
          have h1 := (R.mof hg hq e1).1
          have h2 := (R.mof hc.1 hq hc.2.2.1).1
          exact nI_inj (h1.symm.trans h2) (by omega) (by have := hc.1; omega)
        subst egf
        have htt : t' = t := by
          rcases hs with h | h
          · exact absurd (e3.symm.trans h) (m1_ne (by omega))
          · rw [h] at e3
            exact nI_inj (e3.symm.trans hc.2.2.2.1) (by omega) (by have := hc.2.2.2.2.1; omega)
        subst htt
        exact ⟨fun h => absurd h z1_ne, fun h => by omega⟩
      · rw [un eq, h23]
        have egf : g ≠ f := fun h => by
          subst h
          exact eq (nI_inj (e1.symm.trans hc.2.2.1) (by omega) (by have := hc.2.1; omega))
        have e3' : c.2.1 18 g = nI t' := by rw [← h18 g egf]; exact e3
        have e7 : m.2.1 7 q = nI t' := (R.mof hg hq e1).2.2.1.trans e3'
        rw [hT q t' hq ht' e7]
        have ha := hc.2.2.2.2.2
        have hp := hc.2.1
        constructor
        · intro h
          have h9 := mn g q t' ⟨hg, hq, e1, e3', ht', h⟩
          have h8 : t * 3072 + p ≠ t' * 3072 + q := fun h => eq (old_aux2 hp hq h)
          exact Nat.lt_of_le_of_ne h9 h8
        · intro h; exact Nat.le_trans ha (Nat.le_of_succ_le h)
  · obtain ⟨h1, h2, h3, h4, h5, h6⟩ := hc'
    rw [h17] at h3
    have egf : f' ≠ f := fun h => by
      subst h
      have hpp := nI_inj (h3.symm.trans hc.2.2.1) (by omega) (by have := hc.2.1; omega)
      rcases hs with h | h
      · exact absurd (h4.symm.trans h) (m1_ne (by omega))
      · rw [h] at h4
        have := nI_inj (h4.symm.trans hc.2.2.2.1) (by omega) (by have := hc.2.2.2.2.1; omega)
        omega
    rw [h18 f' egf] at h4
    have ha := hc.2.2.2.2.2
    exact ⟨egf, h1, h2, h3, h4, h5, Nat.le_trans ha (Nat.le_of_succ_le h6)⟩
theorem noneT_L : ∀ (d k n : Nat) (g : Nat → Int32) (m : St), k + d = 3072 → d < n → pf_X7_noneTried_L2 N n (nI k) (sA m 23 g) = some (sA m 23 (fun j => if k ≤ j ∧ j < 3072 then 0 else g j)) := by
  intro d
  induction d with
  | zero =>
    intro k n g m hk hn
    obtain ⟨n, rfl⟩ : ∃ j, n = j + 1 := ⟨n - 1, by omega⟩
    rw [pf_X7_noneTried_L2, show (3072 : Int32) = nI 3072 from rfl, if_n (by omega) (by omega), if_pos (by omega)]
    congr 2
    funext j
    rw [if_neg (by omega)]
  | succ d ih =>
    intro k n g m hk hn
    obtain ⟨n, rfl⟩ : ∃ j, n = j + 1 := ⟨n - 1, by omega⟩
    rw [pf_X7_noneTried_L2, show (3072 : Int32) = nI 3072 from rfl, if_n (by omega) (by omega), if_neg (by omega), bI_n (by omega) (by decide), cl_n (by omega)]
    simp only [lt_]
    rw [sA_sA, nI_1, ih (k + 1) n _ m (by omega) (by omega)]
    congr 2
    funext j
    by_cases e : j = k
    · subst e; rw [if_neg (by omega), if_pos (by omega), us_]; rfl
    · rw [un e]
      by_cases e2 : k + 1 ≤ j ∧ j < 3072
      · rw [if_pos e2, if_pos (by omega)]
      · rw [if_neg e2, if_neg (by omega)]; rfl
theorem op_none (R : Rel hd nf nb LA LI LS ev tm dc rr c m) (hN : 5000 ≤ N) : ∃ m', pf_X7_noneTried N m = some m' ∧ Rel hd nf nb LA LI LS ev tm dc rr c m' ∧ TR tm 0 m' ∧ m'.1 = m.1 := by
  have h := noneT_L (N := N) 3072 0 N (m.2.1 23) m (by omega) (by omega)
  rw [sA_self] at h
  refine ⟨_, h, ?_, fun p t hp _ _ => ⟨fun _ => Nat.zero_le _, fun _ => ?_⟩, rfl⟩
  · obtain ⟨hK, hk1, s1, hZ, w1, n1, e1, f1, b1, b2, b3, hBk, hRc, h1, t1, hF, hT, hL, hI, hD, hPn, hS, B1, B2, B3⟩ := R
    exact ⟨hK, hk1, s1, hZ, w1, n1, e1, f1, b1, b2, b3, hBk, hRc, h1, t1, hF, hT, hL, hI, hD, hPn, hS, B1, B2, B3⟩
  · show (if 0 ≤ p ∧ p < 3072 then (0 : Int32) else _) = 0
    rw [if_pos ⟨by omega, hp⟩]
end K6
