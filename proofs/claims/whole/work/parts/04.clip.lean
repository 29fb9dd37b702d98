/-- beyond the day a both counts run alike -/
theorem tt_st_a {k : Nat → Option Int32} {a d : Nat} (h : a < d) : tt_st k a d = true ↔ tt_st k 0 d = true := by
  rw [tt_st_iff, tt_st_iff]
  constructor
  · intro ⟨_, h2, h3⟩
    refine ⟨Nat.zero_le _, h2, Or.inr ?_⟩
    cases h3 with
    | inl z => omega
    | inr z => exact z
  · intro ⟨_, h2, h3⟩
    refine ⟨by omega, h2, Or.inr ?_⟩
    cases h3 with
    | inl z => omega
    | inr z => exact z
theorem tt_ca1 {k : Nat → Option Int32} {a : Nat} (h : k a ≠ none) : tt_c k a (a + 1) = 1 := by
  rw [tt_c_s (tt_st_iff.mpr ⟨Nat.le_refl _, h, Or.inl rfl⟩), tt_c_a a (Nat.le_refl _)]
theorem tt_ca0 {k : Nat → Option Int32} {a : Nat} (h : k a = none) : tt_c k a (a + 1) = 0 := by
  rw [tt_c_n (fun z => (tt_st_iff.mp z).2.1 h), tt_c_a a (Nat.le_refl _)]
/-- the reference's first piece that reaches beyond the day a -/
def tt_i0 (k : Nat → Option Int32) (a : Nat) : Nat := tt_c k 0 (a + 1) - tt_c k a (a + 1)
theorem tt_i0_add {k : Nat → Option Int32} {a : Nat} : ∀ m : Nat, tt_c k 0 (a + 1 + m) = tt_i0 k a + tt_c k a (a + 1 + m) := by
  intro m
  induction m with
  | zero =>
    show tt_c k 0 (a + 1) = tt_i0 k a + tt_c k a (a + 1)
    have h : tt_c k a (a + 1) ≤ tt_c k 0 (a + 1) := by
      by_cases z : k a = none
      · rw [tt_ca0 z]; exact Nat.zero_le _
      · obtain ⟨s, _, _, h3, _⟩ := tt_last a z
        rw [tt_ca1 z]; omega
    unfold tt_i0
    omega
  | succ m ih =>
    show tt_c k 0 (a + 1 + m + 1) = tt_i0 k a + tt_c k a (a + 1 + m + 1)
    by_cases z : tt_st k 0 (a + 1 + m) = true
    · rw [tt_c_s z, tt_c_s ((tt_st_a (by omega)).mpr z), ih]; omega
    · rw [tt_c_n z, tt_c_n (fun q => z ((tt_st_a (by omega)).mp q)), ih]
theorem tt_i0_d {k : Nat → Option Int32} {a d : Nat} (h : a < d) : tt_c k 0 d = tt_i0 k a + tt_c k a d := by
  obtain ⟨m, rfl⟩ := Nat.exists_eq_add_of_le h
  exact tt_i0_add m
/-- what the piece number i of the whole is to the days from a to b -/
def tt_G (k : Nat → Option Int32) (a b i s t : Nat) (v : Int32) : Prop :=
  (i < tt_i0 k a ∧ t ≤ a) ∨
  (∃ d, a ≤ d ∧ d < b ∧ tt_st k a d = true ∧ i = tt_i0 k a + tt_c k a d ∧ ((s ≤ a ∧ d = a) ∨ (a < s ∧ d = s)) ∧ ((b ≤ t ∧ tt_e k d b = b) ∨ (t < b ∧ tt_e k d b = t)) ∧ k d = some v) ∨
  (tt_i0 k a + tt_c k a b ≤ i ∧ b ≤ s)
theorem tt_G_1 {k : Nat → Option Int32} {a b s : Nat} {v : Int32} (hab : a < b) (hb : b ≤ 100) (hs : s < 100) (z : tt_st k 0 s = true) (hv : k s = some v) : tt_G k a b (tt_c k 0 s) s (tt_e k s 100) v := by
  obtain ⟨e1, e2, e3, e4⟩ := tt_E_e (k := k) hs
  by_cases q1 : b ≤ s
  · refine Or.inr (Or.inr ⟨?_, q1⟩)
    rw [tt_i0_d (by omega : a < s)]
    have := tt_c_mono (k := k) (a := a) q1
    omega
  · by_cases q2 : a < s
    · refine Or.inr (Or.inl ⟨s, by omega, by omega, (tt_st_a q2).mpr z, tt_i0_d q2, Or.inr ⟨q2, rfl⟩, ?_, hv⟩)
      cases tt_e_min (k := k) (by omega : s < b) hb with
      | inl h => exact Or.inl h
      | inr h => exact Or.inr h
    · have hlt : tt_c k 0 s < tt_c k 0 (a + 1) := tt_c_lt z (by omega)
      by_cases q3 : tt_e k s 100 ≤ a
      · refine Or.inl ⟨?_, q3⟩
        unfold tt_i0
        by_cases w : k a = none
        · rw [tt_ca0 w]; omega
        · obtain ⟨s', h1, h2, h3, h4⟩ := tt_last a w
          rw [tt_ca1 w, ← h3]
          have q4 : s < s' := by
            by_cases q5 : s < s'
            · exact q5
            · by_cases q6 : s = s'
              · exfalso
                refine e4 (by omega) ?_
                rw [h4 s (by omega) (by omega), h4 (tt_e k s 100) (by omega) q3]
              · have := tt_c_lt h2 (by omega : s' < s)
                omega
          have := tt_c_lt z q4
          omega
      · have ka : k a = k s := e3 a (by omega) (by omega)
        have w : k a ≠ none := by rw [ka, hv]; exact fun z => nomatch z
        obtain ⟨s', h1, h2, h3, h4⟩ := tt_last a w
        have q4 : s = s' := by
          by_cases q5 : s < s'
          · obtain ⟨j, j1, j2, j3⟩ := tt_split q5 (Nat.zero_le _) h2
            exact absurd (e3 j j1 (by omega)) j3
          · by_cases q6 : s = s'
            · exact q6
            · have := tt_c_lt h2 (by omega : s' < s)
              omega
        subst q4
        have ea : tt_e k a 100 = tt_e k s 100 := by
          refine tt_e_u ⟨by omega, e2, fun j j1 j2 => ?_, fun y => ?_⟩
          · rw [ka]; exact e3 j (by omega) j2
          · rw [ka]; exact e4 y
        refine Or.inr (Or.inl ⟨a, Nat.le_refl _, hab, tt_st_iff.mpr ⟨Nat.le_refl _, w, Or.inl rfl⟩, ?_, Or.inl ⟨by omega, rfl⟩, ?_, by rw [ka, hv]⟩)
        · unfold tt_i0
          rw [tt_ca1 w, tt_c_a a (Nat.le_refl _), ← h3]
          omega
        · have := tt_e_min (k := k) hab hb
          rw [ea] at this
          exact this
theorem tt_G_i {k : Nat → Option Int32} {a b i : Nat} {PF PT PV : Nat → Int32} (hab : a < b) (hb : b ≤ 100) (hL : tt_L k 100 PF PT PV) (hi : i < tt_c k 0 100) : ∃ s t, s < t ∧ t ≤ 100 ∧ PF i = nI s ∧ PT i = nI t ∧ tt_G k a b i s t (PV i) := by
  obtain ⟨s, h1, h2, h3⟩ := tt_c_sur 100 hi
  subst h3
  obtain ⟨l1, l2, l3⟩ := hL s h1 h2
  obtain ⟨e1, e2, _, _⟩ := tt_E_e (k := k) h1
  exact ⟨s, tt_e k s 100, e1, e2, l1, l2, tt_G_1 hab hb h1 h2 l3.symm⟩
theorem tt_i0_b {k : Nat → Option Int32} {a b : Nat} (hab : a < b) (hb : b ≤ 100) : tt_i0 k a + tt_c k a b ≤ tt_c k 0 100 := by
  rw [tt_i0_d (by omega : a < 100)]
  have := tt_c_mono (k := k) (a := a) hb
  omega
