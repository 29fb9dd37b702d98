section
theorem pk_us {f : Nat → Int32} {k : Nat} {x : Int32} : upd f k x k = x := if_pos rfl
theorem pk_un {f : Nat → Int32} {k j : Nat} {x : Int32} (h : j ≠ k) : upd f k x j = f j := if_neg h
theorem pk_m1 (n : Nat) : nI (n + 1) + (-1) = nI n := by
  rw [← nI_1, Int32.add_assoc, show (1 : Int32) + (-1) = 0 from rfl, Int32.add_zero]
theorem pk_ix (x : Int32) {n : Nat} (hn : n < 2 ^ 31) : x < 0 ∨ nI n ≤ x ∨ ∃ j : Nat, j < n ∧ x = nI j := by
  by_cases h : x < 0
  · exact Or.inl h
  · obtain ⟨j, hj, rfl⟩ := nI_of h
    by_cases h2 : j < n
    · exact Or.inr (Or.inr ⟨j, h2, rfl⟩)
    · exact Or.inr (Or.inl (nI_le (by omega) hj))
theorem pk_le {x y : Int32} {A B : Prop} (a b : Nat) (f : a ≤ b → A) (g : b < a → B) (hx : x = nI a := by rfl) (hy : y = nI b := by rfl) (ha : a < 2 ^ 31 := by omega) (hb : b < 2 ^ 31 := by omega) : (x ≤ y → A) ∧ (¬ x ≤ y → B) := by
  subst hx hy
  rw [nI_leI ha hb]
  exact ⟨f, fun z => g (by omega)⟩
theorem pk_lt {x y : Int32} {A B : Prop} (a b : Nat) (f : a < b → A) (g : b ≤ a → B) (hx : x = nI a := by rfl) (hy : y = nI b := by rfl) (ha : a < 2 ^ 31 := by omega) (hb : b < 2 ^ 31 := by omega) : (x < y → A) ∧ (¬ x < y → B) := by
  subst hx hy
  rw [nI_ltI ha hb]
  exact ⟨f, fun z => g (by omega)⟩
theorem pk_eq {x y : Int32} {A B : Prop} (a b : Nat) (f : a = b → A) (g : a ≠ b → B) (hx : x = nI a := by rfl) (hy : y = nI b := by rfl) (ha : a < 2 ^ 31 := by omega) (hb : b < 2 ^ 31 := by omega) : (x = y → A) ∧ (¬ x = y → B) := by
  subst hx hy
  rw [nI_eq ha hb]
  exact ⟨f, g⟩
theorem pk_in {x : Int32} (n N : Nat) (h : n < N) (hx : x = nI n := by rfl) (hN : N < 2 ^ 31 := by omega) : vp_in x N := by
  subst hx
  exact vp_in_nI h hN
theorem pk_cl {x : Int32} (n : Nat) (hx : x = nI n := by rfl) (h : n < 2 ^ 31 := by omega) : x.toNatClampNeg = n := by
  subst hx
  exact nI_clamp h
theorem pk_tn {n : Nat} (h : n < 2 ^ 32) : (nI n).toBitVec.toNat = n := Nat.mod_eq_of_lt h
theorem pk_and (x : Int32) {m : Int32} (k : Nat) (hm : m.toBitVec.toNat = 2 ^ k - 1) : x &&& m = nI (x.toBitVec.toNat % 2 ^ k) := by
  apply Int32.toBitVec_inj.mp
  apply BitVec.eq_of_toNat_eq
  rw [Int32.toBitVec_and, BitVec.toNat_and, hm, Nat.and_two_pow_sub_one_eq_mod]
  show _ = (BitVec.ofNat 32 _).toNat
  rw [BitVec.toNat_ofNat]
  exact (Nat.mod_eq_of_lt (Nat.lt_of_le_of_lt (Nat.mod_le _ _) x.toBitVec.isLt)).symm
theorem pk_andE (x : Int32) {m : Int32} (k : Nat) (hm : m.toBitVec.toNat = 2 ^ k - 1) : ∃ j : Nat, j < 2 ^ k ∧ x &&& m = nI j := ⟨_, Nat.mod_lt _ (Nat.two_pow_pos k), pk_and x k hm⟩
end
section
/-- the entry among the first n that speaks of the day d of the thing t -/
def tt_sp (T F G : Nat → Int32) (t d : Int32) : Nat → Option Nat
  | 0 => none
  | n + 1 => if T n = t then (if d < F n then tt_sp T F G t d n else if G n ≤ d then tt_sp T F G t d n else some n) else tt_sp T F G t d n
/-- the same entry, where it has a value -/
def tt_so (T F G H : Nat → Int32) (t d : Int32) (n : Nat) : Option Nat := (tt_sp T F G t d n).bind (fun j => if H j = 0 then none else some j)
/-- the value known -/
def tt_kn (T F G H V : Nat → Int32) (t d : Int32) (n : Nat) : Option Int32 := (tt_so T F G H t d n).map V
def tt_en : Option Nat → Int32
  | none => -1
  | some j => nI j
def tt_k1 : Option Int32 → Int32
  | none => 0
  | some _ => 1
def tt_v5 : Option Int32 → Int32
  | none => -5
  | some v => v
theorem tt_sp_s1 {T F G : Nat → Int32} {t d : Int32} {m : Nat} (h : ¬ T m = t) : tt_sp T F G t d (m + 1) = tt_sp T F G t d m := by
  rw [tt_sp, if_neg h]
theorem tt_sp_s2 {T F G : Nat → Int32} {t d : Int32} {m : Nat} (h : T m = t) (h2 : d < F m) : tt_sp T F G t d (m + 1) = tt_sp T F G t d m := by
  rw [tt_sp, if_pos h, if_pos h2]
theorem tt_sp_s3 {T F G : Nat → Int32} {t d : Int32} {m : Nat} (h : T m = t) (h2 : ¬ d < F m) (h3 : G m ≤ d) : tt_sp T F G t d (m + 1) = tt_sp T F G t d m := by
  rw [tt_sp, if_pos h, if_neg h2, if_pos h3]
theorem tt_sp_s4 {T F G : Nat → Int32} {t d : Int32} {m : Nat} (h : T m = t) (h2 : ¬ d < F m) (h3 : ¬ G m ≤ d) : tt_sp T F G t d (m + 1) = some m := by
  rw [tt_sp, if_pos h, if_neg h2, if_neg h3]
theorem tt_sp_lt {T F G : Nat → Int32} {t d : Int32} : ∀ {n j : Nat}, tt_sp T F G t d n = some j → j < n := by
  intro n
  induction n with
  | zero => intro j h; exact nomatch h
  | succ n ih =>
    intro j h
    by_cases h1 : T n = t
    · by_cases h2 : d < F n
      · rw [tt_sp_s2 h1 h2] at h
        have := ih h
        omega
      · by_cases h3 : G n ≤ d
        · rw [tt_sp_s3 h1 h2 h3] at h
          have := ih h
          omega
        · rw [tt_sp_s4 h1 h2 h3] at h
          cases h
          omega
    · rw [tt_sp_s1 h1] at h
      have := ih h
      omega
theorem tt_so_lt {T F G H : Nat → Int32} {t d : Int32} {n j : Nat} (h : tt_so T F G H t d n = some j) : j < n := by
  unfold tt_so at h
  cases e : tt_sp T F G t d n with
  | none => rw [e] at h; exact nomatch h
  | some i =>
    rw [e] at h
    have hi := tt_sp_lt e
    by_cases z : H i = 0
    · have h' : (if H i = 0 then none else some i) = some j := h
      rw [if_pos z] at h'
      exact nomatch h'
    · have h' : (if H i = 0 then none else some i) = some j := h
      rw [if_neg z] at h'
      cases h'
      exact hi
theorem tt_sp_congr {T F G T' F' G' : Nat → Int32} {t d : Int32} : ∀ n : Nat, (∀ j, j < n → T' j = T j ∧ F' j = F j ∧ G' j = G j) → tt_sp T' F' G' t d n = tt_sp T F G t d n := by
  intro n
  induction n with
  | zero => intro _; rfl
  | succ n ih =>
    intro h
    have ⟨a, b, c⟩ := h n (by omega)
    rw [tt_sp, tt_sp, a, b, c, ih (fun j hj => h j (by omega))]
/-- the arrays agree below n -/
def tt_ag (n : Nat) (T F G H V T' F' G' H' V' : Nat → Int32) : Prop := ∀ j, j < n → T' j = T j ∧ F' j = F j ∧ G' j = G j ∧ H' j = H j ∧ V' j = V j
theorem tt_so_congr {T F G H V T' F' G' H' V' : Nat → Int32} {t d : Int32} {n : Nat} (h : tt_ag n T F G H V T' F' G' H' V') : tt_so T' F' G' H' t d n = tt_so T F G H t d n := by
  unfold tt_so
  rw [tt_sp_congr n (fun j hj => ⟨(h j hj).1, (h j hj).2.1, (h j hj).2.2.1⟩)]
  cases e : tt_sp T F G t d n with
  | none => rfl
  | some i =>
    show (if H' i = 0 then none else some i) = (if H i = 0 then none else some i)
    rw [(h i (tt_sp_lt e)).2.2.2.1]
theorem tt_kn_congr {T F G H V T' F' G' H' V' : Nat → Int32} {t d : Int32} {n : Nat} (h : tt_ag n T F G H V T' F' G' H' V') : tt_kn T' F' G' H' V' t d n = tt_kn T F G H V t d n := by
  unfold tt_kn
  rw [tt_so_congr h]
  cases e : tt_so T F G H t d n with
  | none => rfl
  | some i => exact congrArg some (h i (tt_so_lt e)).2.2.2.2
theorem tt_kn_n {T F G H V : Nat → Int32} {t d : Int32} {n : Nat} (h : tt_sp T F G t d n = none) : tt_kn T F G H V t d n = none := by
  unfold tt_kn tt_so
  rw [h]
  rfl
theorem tt_kn_0 {T F G H V : Nat → Int32} {t d : Int32} {n j : Nat} (h : tt_sp T F G t d n = some j) (z : H j = 0) : tt_kn T F G H V t d n = none := by
  unfold tt_kn tt_so
  rw [h]
  show Option.map V (if H j = 0 then none else some j) = none
  rw [if_pos z]
  rfl
theorem tt_kn_1 {T F G H V : Nat → Int32} {t d : Int32} {n j : Nat} (h : tt_sp T F G t d n = some j) (z : ¬ H j = 0) : tt_kn T F G H V t d n = some (V j) := by
  unfold tt_kn tt_so
  rw [h]
  show Option.map V (if H j = 0 then none else some j) = some (V j)
  rw [if_neg z]
  rfl
theorem tt_nm1 {j : Nat} (h : j < 2 ^ 31) : ¬ nI j = -1 := fun e => nI_pos h (by rw [e]; decide)
theorem tt_nm5 {j : Nat} (h : j < 2 ^ 31) : ¬ nI j = -5 := fun e => nI_pos h (by rw [e]; decide)
theorem tt_dec (x : Int32) : x + (-1) = x - 1 := (Int32.sub_eq_add_neg x 1).symm
theorem tt_40 : nI 40 = 40 := by decide +kernel
theorem tt_100 : nI 100 = 100 := by decide +kernel
theorem tt_6 : nI 6 = 6 := by decide +kernel
end
section
/-- a piece, cut off ahead of the day a, begins at d -/
def tt_st (k : Nat → Option Int32) (a d : Nat) : Bool := decide (a ≤ d) && (decide (k d ≠ none) && (decide (d = a) || decide (k (d - 1) ≠ k d)))
theorem tt_st_iff {k : Nat → Option Int32} {a d : Nat} : tt_st k a d = true ↔ a ≤ d ∧ k d ≠ none ∧ (d = a ∨ k (d - 1) ≠ k d) := by
  simp only [tt_st, Bool.and_eq_true, Bool.or_eq_true, decide_eq_true_eq]
/-- how many begin in [a, d) -/
def tt_c (k : Nat → Option Int32) (a : Nat) : Nat → Nat
  | 0 => 0
  | d + 1 => tt_c k a d + (if tt_st k a d = true then 1 else 0)
theorem tt_c_s {k : Nat → Option Int32} {a d : Nat} (h : tt_st k a d = true) : tt_c k a (d + 1) = tt_c k a d + 1 := by
  rw [tt_c, if_pos h]
theorem tt_c_n {k : Nat → Option Int32} {a d : Nat} (h : ¬ tt_st k a d = true) : tt_c k a (d + 1) = tt_c k a d := by
  rw [tt_c, if_neg h]; rfl
theorem tt_c_up {k : Nat → Option Int32} {a d : Nat} : tt_c k a d ≤ tt_c k a (d + 1) := by
  rw [tt_c]; omega
theorem tt_c_add {k : Nat → Option Int32} {a d : Nat} : ∀ m : Nat, tt_c k a d ≤ tt_c k a (d + m) := by
  intro m
  induction m with
  | zero => exact Nat.le_refl _
  | succ m ih => exact Nat.le_trans ih tt_c_up
theorem tt_c_mono {k : Nat → Option Int32} {a d d' : Nat} (h : d ≤ d') : tt_c k a d ≤ tt_c k a d' := by
  obtain ⟨m, rfl⟩ := Nat.exists_eq_add_of_le h
  exact tt_c_add m
theorem tt_c_le {k : Nat → Option Int32} {a : Nat} : ∀ d : Nat, tt_c k a d ≤ d := by
  intro d
  induction d with
  | zero => exact Nat.le_refl _
  | succ d ih =>
    by_cases h : tt_st k a d = true
    · rw [tt_c_s h]; omega
    · rw [tt_c_n h]; omega
theorem tt_c_lt {k : Nat → Option Int32} {a s d : Nat} (h : tt_st k a s = true) (hd : s < d) : tt_c k a s < tt_c k a d := by
  have h1 := tt_c_s h
  have h2 : tt_c k a (s + 1) ≤ tt_c k a d := tt_c_mono hd
  omega
theorem tt_c_a {k : Nat → Option Int32} {a : Nat} : ∀ d : Nat, d ≤ a → tt_c k a d = 0 := by
  intro d
  induction d with
  | zero => intro _; rfl
  | succ d ih =>
    intro h
    rw [tt_c_n (fun z => by have := (tt_st_iff.mp z).1; omega)]
    exact ih (by omega)
theorem tt_c_sur {k : Nat → Option Int32} {a i : Nat} : ∀ d : Nat, i < tt_c k a d → ∃ s, s < d ∧ tt_st k a s = true ∧ tt_c k a s = i := by
  intro d
  induction d with
  | zero => intro h; exact absurd h (Nat.not_lt_zero _)
  | succ d ih =>
    intro h
    by_cases z : tt_st k a d = true
    · rw [tt_c_s z] at h
      by_cases e : i = tt_c k a d
      · exact ⟨d, by omega, z, e.symm⟩
      · obtain ⟨s, h1, h2, h3⟩ := ih (by omega)
        exact ⟨s, by omega, h2, h3⟩
    · rw [tt_c_n z] at h
      obtain ⟨s, h1, h2, h3⟩ := ih h
      exact ⟨s, by omega, h2, h3⟩
/-- the piece that the day d lies in begins at some s -/
theorem tt_last {k : Nat → Option Int32} : ∀ d : Nat, k d ≠ none → ∃ s, s ≤ d ∧ tt_st k 0 s = true ∧ tt_c k 0 s + 1 = tt_c k 0 (d + 1) ∧ ∀ j, s ≤ j → j ≤ d → k j = k d := by
  intro d
  induction d with
  | zero =>
    intro h
    have z : tt_st k 0 0 = true := tt_st_iff.mpr ⟨Nat.le_refl _, h, Or.inl rfl⟩
    exact ⟨0, Nat.le_refl _, z, (tt_c_s z).symm, fun j _ hj => by rw [show j = 0 from by omega]⟩
  | succ d ih =>
    intro h
    by_cases z : tt_st k 0 (d + 1) = true
    · exact ⟨d + 1, Nat.le_refl _, z, (tt_c_s z).symm, fun j h1 h2 => by rw [show j = d + 1 from by omega]⟩
    · have e : k d = k (d + 1) := by
        by_cases e : k d = k (d + 1)
        · exact e
        · exact absurd (tt_st_iff.mpr ⟨Nat.zero_le _, h, Or.inr e⟩) z
      obtain ⟨s, h1, h2, h3, h4⟩ := ih (by rw [e]; exact h)
      refine ⟨s, by omega, h2, by rw [tt_c_n z]; exact h3, fun j hj hj2 => ?_⟩
      by_cases q : j = d + 1
      · rw [q]
      · rw [h4 j hj (by omega), e]
/-- the end of a piece -/
def tt_fe (k : Nat → Option Int32) (v : Option Int32) : Nat → Nat → Nat
  | 0, d => d
  | n + 1, d => if v = k d then tt_fe k v n (d + 1) else d
def tt_e (k : Nat → Option Int32) (s b : Nat) : Nat := tt_fe k (k s) (b - (s + 1)) (s + 1)
theorem tt_fe_spec {k : Nat → Option Int32} {v : Option Int32} : ∀ n d : Nat, d ≤ tt_fe k v n d ∧ tt_fe k v n d ≤ d + n ∧ (∀ j, d ≤ j → j < tt_fe k v n d → k j = v) ∧ (tt_fe k v n d < d + n → k (tt_fe k v n d) ≠ v) := by
  intro n
  induction n with
  | zero =>
    intro d
    rw [tt_fe]
    exact ⟨Nat.le_refl _, Nat.le_refl _, fun j h1 h2 => by omega, fun h => by omega⟩
  | succ n ih =>
    intro d
    by_cases h : v = k d
    · rw [tt_fe, if_pos h]
      obtain ⟨h1, h2, h3, h4⟩ := ih (d + 1)
      refine ⟨by omega, by omega, fun j a b => ?_, fun z => h4 (by omega)⟩
      by_cases q : j = d
      · rw [q]; exact h.symm
      · exact h3 j (by omega) b
    · rw [tt_fe, if_neg h]
      exact ⟨Nat.le_refl _, by omega, fun j h1 h2 => by omega, fun _ z => h z.symm⟩
def tt_E (k : Nat → Option Int32) (s b e : Nat) : Prop := s < e ∧ e ≤ b ∧ (∀ j, s ≤ j → j < e → k j = k s) ∧ (e < b → k e ≠ k s)
theorem tt_E_e {k : Nat → Option Int32} {s b : Nat} (h : s < b) : tt_E k s b (tt_e k s b) := by
  obtain ⟨h1, h2, h3, h4⟩ := tt_fe_spec (k := k) (v := k s) (b - (s + 1)) (s + 1)
  have e : tt_e k s b = tt_fe k (k s) (b - (s + 1)) (s + 1) := rfl
  rw [← e] at h1 h2 h3 h4
  refine ⟨by omega, by omega, fun j a c => ?_, fun z => h4 (by omega)⟩
  by_cases q : j = s
  · rw [q]
  · exact h3 j (by omega) c
theorem tt_E_u {k : Nat → Option Int32} {s b e e' : Nat} (h : tt_E k s b e) (h' : tt_E k s b e') : e = e' := by
  obtain ⟨h1, h2, h3, h4⟩ := h
  obtain ⟨g1, g2, g3, g4⟩ := h'
  by_cases q : e < e'
  · exact absurd (g3 e (by omega) q) (h4 (by omega))
  · by_cases q' : e' < e
    · exact absurd (h3 e' (by omega) q') (g4 (by omega))
    · omega
theorem tt_e_u {k : Nat → Option Int32} {s b e : Nat} (h : tt_E k s b e) : tt_e k s b = e := tt_E_u (tt_E_e (Nat.lt_of_lt_of_le h.1 h.2.1)) h
theorem tt_e_keep {k : Nat → Option Int32} {s d j : Nat} (hs : s < d) (h1 : s ≤ j) (h2 : j ≤ d) (hk : k j ≠ k s) : tt_e k s (d + 1) = tt_e k s d := by
  obtain ⟨e1, e2, e3, e4⟩ := tt_E_e (k := k) hs
  refine tt_e_u ⟨e1, by omega, e3, fun _ => ?_⟩
  by_cases q : tt_e k s d < d
  · exact e4 q
  · have q1 : tt_e k s d = d := by omega
    rw [q1]
    by_cases q2 : j = d
    · rw [← q2]; exact hk
    · exact absurd (e3 j h1 (by omega)) hk
theorem tt_e_ext {k : Nat → Option Int32} {s d : Nat} (hs : s ≤ d) (h : ∀ j, s ≤ j → j ≤ d → k j = k s) : tt_e k s (d + 1) = d + 1 :=
  tt_e_u ⟨by omega, Nat.le_refl _, fun j a b => h j a (by omega), fun z => absurd z (Nat.lt_irrefl _)⟩
theorem tt_split {k : Nat → Option Int32} {a s s' : Nat} (hs : s < s') (ha : a ≤ s) (h : tt_st k a s' = true) : ∃ j, s ≤ j ∧ j ≤ s' ∧ k j ≠ k s := by
  obtain ⟨_, _, h3⟩ := tt_st_iff.mp h
  have h4 : k (s' - 1) ≠ k s' := by
    cases h3 with
    | inl z => omega
    | inr z => exact z
  by_cases e : k s' = k s
  · exact ⟨s' - 1, by omega, by omega, by rw [← e]; exact h4⟩
  · exact ⟨s', by omega, Nat.le_refl _, e⟩
theorem tt_e_min {k : Nat → Option Int32} {s b b' : Nat} (hs : s < b) (hb : b ≤ b') : (b ≤ tt_e k s b' ∧ tt_e k s b = b) ∨ (tt_e k s b' < b ∧ tt_e k s b = tt_e k s b') := by
  obtain ⟨e1, e2, e3, e4⟩ := tt_E_e (k := k) (Nat.lt_of_lt_of_le hs hb)
  by_cases q : b ≤ tt_e k s b'
  · exact Or.inl ⟨q, tt_e_u ⟨hs, Nat.le_refl _, fun j h1 h2 => e3 j h1 (by omega), fun z => absurd z (Nat.lt_irrefl _)⟩⟩
  · exact Or.inr ⟨by omega, tt_e_u ⟨e1, by omega, e3, fun _ => e4 (by omega)⟩⟩
/-- the reference's list of pieces, as far as the day d -/
def tt_L (k : Nat → Option Int32) (d : Nat) (PF PT PV : Nat → Int32) : Prop := ∀ s, s < d → tt_st k 0 s = true → PF (tt_c k 0 s) = nI s ∧ PT (tt_c k 0 s) = nI (tt_e k s d) ∧ some (PV (tt_c k 0 s)) = k s
theorem tt_L_none {k : Nat → Option Int32} {d : Nat} {PF PT PV : Nat → Int32} (hk : k d = none) (h : tt_L k d PF PT PV) : tt_L k (d + 1) PF PT PV := by
  intro s hs z
  have q : s ≠ d := fun q => (tt_st_iff.mp z).2.1 (by rw [q]; exact hk)
  obtain ⟨h1, h2, h3⟩ := h s (by omega) z
  refine ⟨h1, ?_, h3⟩
  rw [tt_e_keep (by omega : s < d) (j := d) (by omega) (Nat.le_refl _) (by rw [hk]; exact fun z2 => (tt_st_iff.mp z).2.1 z2.symm)]
  exact h2
theorem tt_L_new {k : Nat → Option Int32} {d : Nat} {PF PT PV : Nat → Int32} {v : Int32} (hd : tt_st k 0 d = true) (hk : k d = some v) (h : tt_L k d PF PT PV) : tt_L k (d + 1) (upd PF (tt_c k 0 d) (nI d)) (upd PT (tt_c k 0 d) (nI (d + 1))) (upd PV (tt_c k 0 d) v) := by
  intro s hs z
  by_cases q : s = d
  · subst q
    refine ⟨pk_us, ?_, ?_⟩
    · rw [pk_us, tt_e_ext (Nat.le_refl _) (fun j a b => by rw [show j = s from by omega])]
    · rw [pk_us, hk]
  · have hl : tt_c k 0 s < tt_c k 0 d := tt_c_lt z (by omega)
    obtain ⟨h1, h2, h3⟩ := h s (by omega) z
    obtain ⟨j, j1, j2, j3⟩ := tt_split (by omega : s < d) (Nat.zero_le _) hd
    refine ⟨by rw [pk_un (by omega)]; exact h1, ?_, by rw [pk_un (by omega)]; exact h3⟩
    rw [pk_un (by omega), tt_e_keep (by omega : s < d) j1 j2 j3]
    exact h2
theorem tt_L_ext {k : Nat → Option Int32} {d s0 : Nat} {PF PT PV : Nat → Int32} (h0 : s0 < d) (hs0 : tt_st k 0 s0 = true) (hc : tt_c k 0 s0 + 1 = tt_c k 0 d) (hj : ∀ j, s0 ≤ j → j ≤ d → k j = k s0) (h : tt_L k d PF PT PV) : tt_L k (d + 1) PF (upd PT (tt_c k 0 s0) (nI (d + 1))) PV := by
  intro s hs z
  have q : s ≠ d := by
    intro q
    obtain ⟨_, _, h3⟩ := tt_st_iff.mp z
    cases h3 with
    | inl e => omega
    | inr e => exact e (by rw [hj s (by omega) (by omega), hj (s - 1) (by omega) (by omega)])
  obtain ⟨h1, h2, h3⟩ := h s (by omega) z
  by_cases q0 : s = s0
  · subst q0
    refine ⟨h1, ?_, h3⟩
    rw [pk_us, tt_e_ext (by omega) hj]
  · have hl : tt_c k 0 s < tt_c k 0 d := tt_c_lt z (by omega)
    have hl2 : s < s0 := by
      by_cases q1 : s < s0
      · exact q1
      · have := tt_c_lt hs0 (by omega : s0 < s)
        omega
    have hl3 := tt_c_lt z hl2
    obtain ⟨j, j1, j2, j3⟩ := tt_split hl2 (Nat.zero_le _) hs0
    refine ⟨h1, ?_, h3⟩
    rw [pk_un (by omega), tt_e_keep (by omega : s < d) j1 (by omega) j3]
    exact h2
end
section
/-- beyond the day a both counts run alike -/
theorem tt_st_a {k : Nat → Option Int32} {a d : Nat} (h : a < d) : tt_st k a d = true ↔ tt_st k 0 d = true := by
  rw [tt_st_iff, tt_st_iff]
  constructor
  · intro ⟨_, h2, h3⟩
    refine ⟨Nat.zero_le _, h2, Or.inr ?_⟩
    cases h3 with
    | inl z => omega
    | inr z => exact z
  · intro ⟨_, h2, h3⟩
    refine ⟨by omega, h2, Or.inr ?_⟩
    cases h3 with
    | inl z => omega
    | inr z => exact z
theorem tt_ca1 {k : Nat → Option Int32} {a : Nat} (h : k a ≠ none) : tt_c k a (a + 1) = 1 := by
  rw [tt_c_s (tt_st_iff.mpr ⟨Nat.le_refl _, h, Or.inl rfl⟩), tt_c_a a (Nat.le_refl _)]
theorem tt_ca0 {k : Nat → Option Int32} {a : Nat} (h : k a = none) : tt_c k a (a + 1) = 0 := by
  rw [tt_c_n (fun z => (tt_st_iff.mp z).2.1 h), tt_c_a a (Nat.le_refl _)]
/-- the reference's first piece that reaches beyond the day a -/
def tt_i0 (k : Nat → Option Int32) (a : Nat) : Nat := tt_c k 0 (a + 1) - tt_c k a (a + 1)
theorem tt_i0_add {k : Nat → Option Int32} {a : Nat} : ∀ m : Nat, tt_c k 0 (a + 1 + m) = tt_i0 k a + tt_c k a (a + 1 + m) := by
  intro m
  induction m with
  | zero =>
    show tt_c k 0 (a + 1) = tt_i0 k a + tt_c k a (a + 1)
    have h : tt_c k a (a + 1) ≤ tt_c k 0 (a + 1) := by
      by_cases z : k a = none
      · rw [tt_ca0 z]; exact Nat.zero_le _
      · obtain ⟨s, _, _, h3, _⟩ := tt_last a z
        rw [tt_ca1 z]; omega
    unfold tt_i0
    omega
  | succ m ih =>
    show tt_c k 0 (a + 1 + m + 1) = tt_i0 k a + tt_c k a (a + 1 + m + 1)
    by_cases z : tt_st k 0 (a + 1 + m) = true
    · rw [tt_c_s z, tt_c_s ((tt_st_a (by omega)).mpr z), ih]; omega
    · rw [tt_c_n z, tt_c_n (fun q => z ((tt_st_a (by omega)).mp q)), ih]
theorem tt_i0_d {k : Nat → Option Int32} {a d : Nat} (h : a < d) : tt_c k 0 d = tt_i0 k a + tt_c k a d := by
  obtain ⟨m, rfl⟩ := Nat.exists_eq_add_of_le h
  exact tt_i0_add m
/-- what the piece number i of the whole is to the days from a to b -/
def tt_G (k : Nat → Option Int32) (a b i s t : Nat) (v : Int32) : Prop :=
  (i < tt_i0 k a ∧ t ≤ a) ∨
  (∃ d, a ≤ d ∧ d < b ∧ tt_st k a d = true ∧ i = tt_i0 k a + tt_c k a d ∧ ((s ≤ a ∧ d = a) ∨ (a < s ∧ d = s)) ∧ ((b ≤ t ∧ tt_e k d b = b) ∨ (t < b ∧ tt_e k d b = t)) ∧ k d = some v) ∨
  (tt_i0 k a + tt_c k a b ≤ i ∧ b ≤ s)
theorem tt_G_1 {k : Nat → Option Int32} {a b s : Nat} {v : Int32} (hab : a < b) (hb : b ≤ 100) (hs : s < 100) (z : tt_st k 0 s = true) (hv : k s = some v) : tt_G k a b (tt_c k 0 s) s (tt_e k s 100) v := by
  obtain ⟨e1, e2, e3, e4⟩ := tt_E_e (k := k) hs
  by_cases q1 : b ≤ s
  · refine Or.inr (Or.inr ⟨?_, q1⟩)
    rw [tt_i0_d (by omega : a < s)]
    have := tt_c_mono (k := k) (a := a) q1
    omega
  · by_cases q2 : a < s
    · refine Or.inr (Or.inl ⟨s, by omega, by omega, (tt_st_a q2).mpr z, tt_i0_d q2, Or.inr ⟨q2, rfl⟩, ?_, hv⟩)
      cases tt_e_min (k := k) (by omega : s < b) hb with
      | inl h => exact Or.inl h
      | inr h => exact Or.inr h
    · have hlt : tt_c k 0 s < tt_c k 0 (a + 1) := tt_c_lt z (by omega)
      by_cases q3 : tt_e k s 100 ≤ a
      · refine Or.inl ⟨?_, q3⟩
        unfold tt_i0
        by_cases w : k a = none
        · rw [tt_ca0 w]; omega
        · obtain ⟨s', h1, h2, h3, h4⟩ := tt_last a w
          rw [tt_ca1 w, ← h3]
          have q4 : s < s' := by
            by_cases q5 : s < s'
            · exact q5
            · by_cases q6 : s = s'
              · exfalso
                refine e4 (by omega) ?_
                rw [h4 s (by omega) (by omega), h4 (tt_e k s 100) (by omega) q3]
              · have := tt_c_lt h2 (by omega : s' < s)
                omega
          have := tt_c_lt z q4
          omega
      · have ka : k a = k s := e3 a (by omega) (by omega)
        have w : k a ≠ none := by rw [ka, hv]; exact fun z => nomatch z
        obtain ⟨s', h1, h2, h3, h4⟩ := tt_last a w
        have q4 : s = s' := by
          by_cases q5 : s < s'
          · obtain ⟨j, j1, j2, j3⟩ := tt_split q5 (Nat.zero_le _) h2
            exact absurd (e3 j j1 (by omega)) j3
          · by_cases q6 : s = s'
            · exact q6
            · have := tt_c_lt h2 (by omega : s' < s)
              omega
        subst q4
        have ea : tt_e k a 100 = tt_e k s 100 := by
          refine tt_e_u ⟨by omega, e2, fun j j1 j2 => ?_, fun y => ?_⟩
          · rw [ka]; exact e3 j (by omega) j2
          · rw [ka]; exact e4 y
        refine Or.inr (Or.inl ⟨a, Nat.le_refl _, hab, tt_st_iff.mpr ⟨Nat.le_refl _, w, Or.inl rfl⟩, ?_, Or.inl ⟨by omega, rfl⟩, ?_, by rw [ka, hv]⟩)
        · unfold tt_i0
          rw [tt_ca1 w, tt_c_a a (Nat.le_refl _), ← h3]
          omega
        · have := tt_e_min (k := k) hab hb
          rw [ea] at this
          exact this
theorem tt_G_i {k : Nat → Option Int32} {a b i : Nat} {PF PT PV : Nat → Int32} (hab : a < b) (hb : b ≤ 100) (hL : tt_L k 100 PF PT PV) (hi : i < tt_c k 0 100) : ∃ s t, s < t ∧ t ≤ 100 ∧ PF i = nI s ∧ PT i = nI t ∧ tt_G k a b i s t (PV i) := by
  obtain ⟨s, h1, h2, h3⟩ := tt_c_sur 100 hi
  subst h3
  obtain ⟨l1, l2, l3⟩ := hL s h1 h2
  obtain ⟨e1, e2, _, _⟩ := tt_E_e (k := k) h1
  exact ⟨s, tt_e k s 100, e1, e2, l1, l2, tt_G_1 hab hb h1 h2 l3.symm⟩
theorem tt_i0_b {k : Nat → Option Int32} {a b : Nat} (hab : a < b) (hb : b ≤ 100) : tt_i0 k a + tt_c k a b ≤ tt_c k 0 100 := by
  rw [tt_i0_d (by omega : a < 100)]
  have := tt_c_mono (k := k) (a := a) hb
  omega
end
section
/-! the component's walks -/
theorem tt_so_of {T F G H : Nat → Int32} {t d : Int32} {n m : Nat} (h : tt_sp T F G t d n = tt_sp T F G t d m) : tt_so T F G H t d n = tt_so T F G H t d m := by
  unfold tt_so; rw [h]
theorem tt_so_j {T F G H : Nat → Int32} {t d : Int32} {n j : Nat} (h : tt_sp T F G t d n = some j) : tt_so T F G H t d n = if H j = 0 then none else some j := by
  unfold tt_so; rw [h]; rfl
theorem tt_xs5 (post : Int32 → Prop) (t d f : Int32) (T F G H V : Nat → Int32) : ∀ m : Nat, m ≤ 40 → ∀ n, m < n → post (tt_en (tt_so T F G H t d m)) → wX_sourceOf_5 post t d f T F G H V n (nI m - 1) := by
  intro m
  induction m with
  | zero =>
    intro _ n hn hp
    cases n with
    | zero => omega
    | succ n => exact br_t (show (nI 0 - 1 : Int32) < 0 from by decide +kernel) hp
  | succ m ih =>
    intro hm n hn hp
    cases n with
    | zero => omega
    | succ n =>
      rw [nI_pred]
      have hc : (nI m).toNatClampNeg = m := nI_clamp (by omega)
      have hi : vp_in (nI m) 40 := vp_in_nI (by omega) (by omega)
      have hnext : tt_sp T F G t d (m + 1) = tt_sp T F G t d m → ∀ x, x = nI m + (-1) → wX_sourceOf_5 post t d f T F G H V n x := fun e x hx => by
        rw [hx, tt_dec]
        exact ih (by omega) n (by omega) (by rw [← tt_so_of e]; exact hp)
      rw [wX_sourceOf_5]
      dsimp only
      rw [hc]
      refine br_f (nI_pos (by omega)) ⟨hi, ?_⟩
      by_cases h1 : T m = t
      · refine br_t h1 ⟨hi, ?_⟩
        by_cases h2 : d < F m
        · exact br_t h2 (hnext (tt_sp_s2 h1 h2))
        · refine br_f h2 ⟨hi, ?_⟩
          by_cases h3 : G m ≤ d
          · exact br_t h3 (hnext (tt_sp_s3 h1 h2 h3))
          · refine br_f h3 ⟨hi, ?_⟩
            rw [tt_so_j (tt_sp_s4 h1 h2 h3)] at hp
            by_cases h4 : H m = 0
            · rw [if_pos h4] at hp; exact br_t h4 hp
            · rw [if_neg h4] at hp; exact br_f h4 hp
      · exact br_f h1 (hnext (tt_sp_s1 h1))
theorem tt_xsrc {post : Int32 → Prop} {f t d : Int32} {T F G H V : Nat → Int32} {m : Nat} (hm : m ≤ 40) (hp : post (tt_en (tt_so T F G H t d m))) : wpX_sourceOf post (f, T, F, G, H, V) (nI m) t d :=
  fun x hx => ⟨m + 1, by rw [hx]; exact tt_xs5 post t d f T F G H V m hm (m + 1) (by omega) hp⟩
theorem tt_xsame {post : Int32 → Prop} {f : Int32} {T F G H V : Nat → Int32} {a b : Option Nat} (ha : ∀ j, a = some j → j < 40) (hb : ∀ j, b = some j → j < 40) (hp : post (if a.map V = b.map V then 1 else 0)) : wpX_saySame post (f, T, F, G, H, V) (tt_en a) (tt_en b) := by
  cases a with
  | none =>
    cases b with
    | none =>
      rw [if_pos rfl] at hp
      exact br_t rfl (br_t rfl hp)
    | some j =>
      have hj := hb j rfl
      rw [if_neg (fun z => nomatch z)] at hp
      exact br_t rfl (br_f (fun z => tt_nm1 (by omega : j < 2 ^ 31) z.symm) hp)
  | some i =>
    have hi := ha i rfl
    cases b with
    | none =>
      rw [if_neg (fun z => nomatch z)] at hp
      exact br_f (tt_nm1 (by omega)) (br_t rfl (br_f (tt_nm1 (by omega)) hp))
    | some j =>
      have hj := hb j rfl
      have c1 : (nI i).toNatClampNeg = i := nI_clamp (by omega)
      have c2 : (nI j).toNatClampNeg = j := nI_clamp (by omega)
      refine br_f (tt_nm1 (by omega)) (br_f (tt_nm1 (by omega)) ⟨vp_in_nI hi (by omega), vp_in_nI hj (by omega), ?_⟩)
      show (V (nI i).toNatClampNeg = V (nI j).toNatClampNeg → _) ∧ (¬ V (nI i).toNatClampNeg = V (nI j).toNatClampNeg → _)
      rw [c1, c2]
      have hp : post (if some (V i) = some (V j) then 1 else 0) := hp
      by_cases e : V i = V j
      · rw [if_pos (congrArg some e)] at hp; exact br_t e hp
      · rw [if_neg (fun z => e (Option.some.inj z))] at hp; exact br_f e hp
/-- what is known of the thing t as of n, by days -/
def tt_k (T F G H V : Nat → Int32) (t : Int32) (n d : Nat) : Option Int32 := tt_kn T F G H V t (nI d) n
theorem tt_xst {post : Int32 → Prop} {f t : Int32} {T F G H V : Nat → Int32} {n a d : Nat} (hn : n ≤ 40) (had : a ≤ d) (hd : d < 2 ^ 31) (hp : post (if tt_st (tt_k T F G H V t n) a d = true then 1 else 0)) : wpX_startsPiece post (f, T, F, G, H, V) (nI n) t (nI d) (nI a) := by
  refine tt_xsrc hn ?_
  have hk : tt_k T F G H V t n d = (tt_so T F G H t (nI d) n).map V := rfl
  cases e : tt_so T F G H t (nI d) n with
  | none =>
    rw [e] at hk
    rw [if_neg (fun z => (tt_st_iff.mp z).2.1 hk)] at hp
    exact br_t rfl hp
  | some j =>
    rw [e] at hk
    have hj := tt_so_lt e
    have hk' : tt_k T F G H V t n d ≠ none := by rw [hk]; exact fun z => nomatch z
    refine br_f (tt_nm1 (by omega)) ?_
    by_cases q : d = a
    · rw [if_pos (tt_st_iff.mpr ⟨had, hk', Or.inl q⟩)] at hp
      exact br_t (by rw [q]) hp
    · refine br_f (fun z => q ((nI_eq hd (by omega)).mp z)) ?_
      obtain ⟨d', rfl⟩ : ∃ d', d = d' + 1 := ⟨d - 1, by omega⟩
      rw [nI_pred]
      refine tt_xsrc hn ?_
      show wpX_saySame _ _ _ (tt_en (some j))
      refine tt_xsame (fun i hi => by have := tt_so_lt hi; omega) (fun i hi => by cases hi; omega) ?_
      have hk2 : tt_k T F G H V t n d' = (tt_so T F G H t (nI d') n).map V := rfl
      rw [← hk2, ← hk]
      by_cases e2 : tt_k T F G H V t n d' = tt_k T F G H V t n (d' + 1)
      · rw [if_neg (fun z => (tt_st_iff.mp z).2.2.elim q (fun y => y e2))] at hp
        rw [if_pos e2]
        exact br_f (by decide) hp
      · rw [if_pos (tt_st_iff.mpr ⟨had, hk', Or.inr e2⟩)] at hp
        rw [if_neg e2]
        exact br_t rfl hp
end
section
theorem tt_xcnt6 {post : Int32 → Prop} {f t : Int32} {T F G H V : Nat → Int32} {nn a b : Nat} (hn : nn ≤ 40) (hb : b < 2 ^ 30) (hp : post (nI (tt_c (tt_k T F G H V t nn) a b))) : ∀ m d : Nat, d + m = b → a ≤ d → ∀ n, m < n → wX_countPieces_6 post (nI nn) t (nI a) (nI b) f T F G H V n (nI (tt_c (tt_k T F G H V t nn) a d)) (nI d) := by
  intro m
  induction m with
  | zero =>
    intro d hd ha n hn2
    cases n with
    | zero => omega
    | succ n =>
      have e : d = b := by omega
      subst e
      exact br_t (nI_le (Nat.le_refl _) (by omega)) hp
  | succ m ih =>
    intro d hd ha n hn2
    cases n with
    | zero => omega
    | succ n =>
      refine br_f (nI_ge (by omega) (by omega)) (tt_xst hn ha (by omega) ?_)
      by_cases z : tt_st (tt_k T F G H V t nn) a d = true
      · rw [if_pos z]
        refine br_f (by decide) (nm_r (nI_1 _) (nm_r (nI_1 _) ?_))
        have := ih (d + 1) (by omega) (by omega) n (by omega)
        rw [tt_c_s z] at this
        exact this
      · rw [if_neg z]
        refine br_t rfl (nm_r (nI_1 _) ?_)
        have := ih (d + 1) (by omega) (by omega) n (by omega)
        rw [tt_c_n z] at this
        exact this
theorem tt_xcnt {post : Int32 → Prop} {f t : Int32} {T F G H V : Nat → Int32} {nn a b : Nat} (hn : nn ≤ 40) (hab : a ≤ b) (hb : b < 2 ^ 30) (hp : post (nI (tt_c (tt_k T F G H V t nn) a b))) : wpX_countPieces post (f, T, F, G, H, V) (nI nn) t (nI a) (nI b) := by
  refine ⟨b - a + 1, ?_⟩
  have := tt_xcnt6 (f := f) hn hb hp (b - a) a (by omega) (Nat.le_refl _) (b - a + 1) (by omega)
  rw [tt_c_a a (Nat.le_refl _)] at this
  exact this
theorem tt_xend14 {post : Int32 → Prop} {f t : Int32} {T F G H V : Nat → Int32} {nn b : Nat} {o : Option Nat} (hn : nn ≤ 40) (hb : b < 2 ^ 30) (ho : ∀ j, o = some j → j < 40) : ∀ m d : Nat, d + m = b → post (nI (tt_fe (tt_k T F G H V t nn) (o.map V) m d)) → ∀ n, m < n → wX_endOfPiece_14 post (nI nn) t (nI b) (tt_en o) f T F G H V n (nI d) := by
  intro m
  induction m with
  | zero =>
    intro d hd hp n hn2
    cases n with
    | zero => omega
    | succ n =>
      have e : d = b := by omega
      subst e
      exact br_t (nI_le (Nat.le_refl _) (by omega)) hp
  | succ m ih =>
    intro d hd hp n hn2
    cases n with
    | zero => omega
    | succ n =>
      refine br_f (nI_ge (by omega) (by omega)) (tt_xsrc hn ?_)
      refine tt_xsame ho (fun i hi => by have := tt_so_lt hi; omega) ?_
      have hk : tt_k T F G H V t nn d = (tt_so T F G H t (nI d) nn).map V := rfl
      rw [← hk]
      rw [tt_fe] at hp
      by_cases z : o.map V = tt_k T F G H V t nn d
      · rw [if_pos z] at hp
        rw [if_pos z]
        refine br_f (by decide) (nm_r (nI_1 _) ?_)
        exact ih (d + 1) (by omega) hp n (by omega)
      · rw [if_neg z] at hp
        rw [if_neg z]
        exact br_t rfl hp
theorem tt_xend {post : Int32 → Prop} {f t : Int32} {T F G H V : Nat → Int32} {nn s b : Nat} (hn : nn ≤ 40) (hs : s < b) (hb : b < 2 ^ 30) (hp : post (nI (tt_e (tt_k T F G H V t nn) s b))) : wpX_endOfPiece post (f, T, F, G, H, V) (nI nn) t (nI s) (nI b) := by
  refine tt_xsrc hn ?_
  refine nm_r (nI_1 _) ⟨b - (s + 1) + 1, ?_⟩
  exact tt_xend14 hn hb (fun i hi => by have := tt_so_lt hi; omega) (b - (s + 1)) (s + 1) (by omega) hp _ (by omega)
theorem tt_xstart6 {post : Int32 → Prop} {f t i : Int32} {T F G H V : Nat → Int32} {nn : Nat} (hn : nn ≤ 40) (h1 : ∀ s, s < 100 → tt_st (tt_k T F G H V t nn) 0 s = true → nI (tt_c (tt_k T F G H V t nn) 0 s) = i → post (nI s)) (h2 : (∀ s, s < 100 → tt_st (tt_k T F G H V t nn) 0 s = true → ¬ nI (tt_c (tt_k T F G H V t nn) 0 s) = i) → post (-5)) : ∀ m d : Nat, d + m = 100 → (∀ s, s < d → tt_st (tt_k T F G H V t nn) 0 s = true → ¬ nI (tt_c (tt_k T F G H V t nn) 0 s) = i) → ∀ n, m < n → wX_startOfPiece_6 post (nI nn) t i f T F G H V n (nI (tt_c (tt_k T F G H V t nn) 0 d)) (nI d) := by
  intro m
  induction m with
  | zero =>
    intro d hd hq n hn2
    cases n with
    | zero => omega
    | succ n =>
      have e : d = 100 := by omega
      subst e
      refine br_t ?_ (h2 hq)
      rw [tt_100]; decide
  | succ m ih =>
    intro d hd hq n hn2
    cases n with
    | zero => omega
    | succ n =>
      refine br_f ?_ (tt_xst (a := 0) hn (Nat.zero_le _) (by omega) ?_)
      · rw [← tt_100]; exact nI_ge (by omega) (by omega)
      · by_cases z : tt_st (tt_k T F G H V t nn) 0 d = true
        · rw [if_pos z]
          refine br_f (by decide) ?_
          by_cases y : nI (tt_c (tt_k T F G H V t nn) 0 d) = i
          · exact br_t y (h1 d (by omega) z y)
          · refine br_f y (nm_r (nI_1 _) (nm_r (nI_1 _) ?_))
            have := ih (d + 1) (by omega) (fun s hs hz => by
              by_cases q : s = d
              · rw [q]; exact y
              · exact hq s (by omega) hz) n (by omega)
            rw [tt_c_s z] at this
            exact this
        · rw [if_neg z]
          refine br_t rfl (nm_r (nI_1 _) ?_)
          have := ih (d + 1) (by omega) (fun s hs hz => by
              by_cases q : s = d
              · subst q; exact absurd hz z
              · exact hq s (by omega) hz) n (by omega)
          rw [tt_c_n z] at this
          exact this
theorem tt_xstart {post : Int32 → Prop} {f t i : Int32} {T F G H V : Nat → Int32} {nn : Nat} (hn : nn ≤ 40) (h1 : ∀ s, s < 100 → tt_st (tt_k T F G H V t nn) 0 s = true → nI (tt_c (tt_k T F G H V t nn) 0 s) = i → post (nI s)) (h2 : (∀ s, s < 100 → tt_st (tt_k T F G H V t nn) 0 s = true → ¬ nI (tt_c (tt_k T F G H V t nn) 0 s) = i) → post (-5)) : wpX_startOfPiece post (f, T, F, G, H, V) (nI nn) t i :=
  ⟨101, tt_xstart6 hn h1 h2 100 0 rfl (fun s hs => absurd hs (Nat.not_lt_zero _)) 101 (by omega)⟩
theorem tt_xapp {post : SX → Prop} {e : Nat} {T F G H V : Nat → Int32} {t a b h v : Int32} (he : e < 40) (hp : post (nI (e + 1), upd T e t, upd F e a, upd G e b, upd H e (vp_nar .boolean h), upd V e v)) : wpX_append post (nI e, T, F, G, H, V) t a b h v := by
  have hi : vp_in (nI e) 40 := vp_in_nI he (by omega)
  have hc : (nI e).toNatClampNeg = e := nI_clamp (by omega)
  refine ⟨hi, nm_r (congrArg (upd T · t) hc) ⟨hi, nm_r (congrArg (upd F · a) hc) ⟨hi, nm_r (congrArg (upd G · b) hc) ⟨hi, nm_r (congrArg (upd H · (vp_nar .boolean h)) hc) ⟨hi, nm_r (congrArg (upd V · v) hc) (nm_r (nI_1 e) hp)⟩⟩⟩⟩⟩
theorem tt_ag_up {e n : Nat} {T F G H V T' F' G' H' V' : Nat → Int32} {t a b h v : Int32} (hn : e ≤ n) (hag : tt_ag e T F G H V T' F' G' H' V') : tt_ag e T F G H V (upd T' n t) (upd F' n a) (upd G' n b) (upd H' n h) (upd V' n v) := by
  intro j hj
  rw [pk_un (by omega), pk_un (by omega), pk_un (by omega), pk_un (by omega), pk_un (by omega)]
  exact hag j hj
theorem tt_k_congr {T F G H V T' F' G' H' V' : Nat → Int32} {t : Int32} {n : Nat} (h : tt_ag n T F G H V T' F' G' H' V') : tt_k T' F' G' H' V' t n = tt_k T F G H V t n := funext fun _ => tt_kn_congr h
/-- the loop that enters the pieces: Q j is what holds once j entries are made -/
theorem tt_xent34 {post : Int32 → SX → Prop} {t t' more : Int32} {T F G H V : Nat → Int32} {e a b : Nat} {k : Nat → Option Int32} (hk : k = tt_k T F G H V t e) (hb : b < 2 ^ 30) (Q : Nat → (Nat → Int32) → (Nat → Int32) → (Nat → Int32) → (Nat → Int32) → (Nat → Int32) → Prop)
    (hfull : e + tt_c k a b ≤ 40)
    (hstep : ∀ (d : Nat) (v : Int32) (T' F' G' H' V' : Nat → Int32), a ≤ d → d < b → tt_st k a d = true → k d = some v → Q (tt_c k a d) T' F' G' H' V' → Q (tt_c k a d + 1) (upd T' (e + tt_c k a d) t') (upd F' (e + tt_c k a d) (nI d)) (upd G' (e + tt_c k a d) (nI (tt_e k d b))) (upd H' (e + tt_c k a d) (vp_nar .boolean 1)) (upd V' (e + tt_c k a d) (v + more)))
    (hend : ∀ (T' F' G' H' V' : Nat → Int32), Q (tt_c k a b) T' F' G' H' V' → post (nI (tt_c k a b)) (nI (e + tt_c k a b), T', F', G', H', V')) :
    ∀ m d : Nat, d + m = b → a ≤ d → ∀ (T' F' G' H' V' : Nat → Int32), tt_ag e T F G H V T' F' G' H' V' → Q (tt_c k a d) T' F' G' H' V' → ∀ n, m < n → wX_enterPieces_34 post t t' (nI a) (nI b) more (nI e) (nI (tt_c k a b)) n (nI d) (nI (e + tt_c k a d)) T' F' G' H' V' := by
  intro m
  induction m with
  | zero =>
    intro d hd had T' F' G' H' V' hag hQ n hn
    cases n with
    | zero => omega
    | succ n =>
      have ed : d = b := by omega
      subst ed
      exact br_t (nI_le (Nat.le_refl _) (by omega)) (hend T' F' G' H' V' hQ)
  | succ m ih =>
    intro d hd had T' F' G' H' V' hag hQ n hn
    cases n with
    | zero => omega
    | succ n =>
      have hk' : tt_k T' F' G' H' V' t e = k := by rw [hk]; exact tt_k_congr hag
      refine br_f (nI_ge (by omega) (by omega)) (tt_xst (by omega) had (by omega) ?_)
      rw [hk']
      by_cases z : tt_st k a d = true
      · rw [if_pos z]
        refine br_f (by decide) (tt_xsrc (by omega) (tt_xend (by omega) (by omega) hb ?_))
        rw [hk']
        have hcl : tt_c k a d < tt_c k a b := tt_c_lt z (by omega)
        have hkd : (tt_so T' F' G' H' t (nI d) e).map V' = k d := by rw [← hk']; rfl
        cases es : tt_so T' F' G' H' t (nI d) e with
        | none =>
          rw [es] at hkd
          exact absurd hkd.symm (tt_st_iff.mp z).2.1
        | some j =>
          rw [es] at hkd
          have hj := tt_so_lt es
          have hc : (nI j).toNatClampNeg = j := nI_clamp (by omega)
          refine ⟨vp_in_nI (by omega) (by omega), ?_⟩
          show wpX_append _ _ _ _ _ _ (V' (nI j).toNatClampNeg + more)
          rw [hc]
          refine tt_xapp (by omega) (nm_r (nI_1 d) ?_)
          have := ih (d + 1) (by omega) (by omega) _ _ _ _ _ (tt_ag_up (Nat.le_add_right e (tt_c k a d)) hag) (by rw [tt_c_s z]; exact hstep d (V' j) T' F' G' H' V' had (by omega) z hkd.symm hQ) n (by omega)
          rw [tt_c_s z] at this
          exact this
      · rw [if_neg z]
        refine br_t rfl (nm_r (nI_1 d) ?_)
        have := ih (d + 1) (by omega) (by omega) T' F' G' H' V' hag (by rw [tt_c_n z]; exact hQ) n (by omega)
        rw [tt_c_n z] at this
        exact this
theorem tt_xent {post : Int32 → SX → Prop} {t t' more : Int32} {T F G H V : Nat → Int32} {e a b : Nat} {k : Nat → Option Int32} (hk : k = tt_k T F G H V t e) (he : e ≤ 40) (hab : a ≤ b) (hb : b < 2 ^ 30) (Q : Nat → (Nat → Int32) → (Nat → Int32) → (Nat → Int32) → (Nat → Int32) → (Nat → Int32) → Prop)
    (hfull : 40 < e + tt_c k a b → post (-3) (nI e, T, F, G, H, V))
    (hQ : e + tt_c k a b ≤ 40 → Q 0 T F G H V)
    (hstep : ∀ (d : Nat) (v : Int32) (T' F' G' H' V' : Nat → Int32), a ≤ d → d < b → tt_st k a d = true → k d = some v → e + tt_c k a b ≤ 40 → Q (tt_c k a d) T' F' G' H' V' → Q (tt_c k a d + 1) (upd T' (e + tt_c k a d) t') (upd F' (e + tt_c k a d) (nI d)) (upd G' (e + tt_c k a d) (nI (tt_e k d b))) (upd H' (e + tt_c k a d) (vp_nar .boolean 1)) (upd V' (e + tt_c k a d) (v + more)))
    (hend : ∀ (T' F' G' H' V' : Nat → Int32), e + tt_c k a b ≤ 40 → Q (tt_c k a b) T' F' G' H' V' → post (nI (tt_c k a b)) (nI (e + tt_c k a b), T', F', G', H', V')) :
    wpX_enterPieces post (nI e, T, F, G, H, V) t t' (nI a) (nI b) more := by
  refine tt_xcnt he hab hb ?_
  rw [← hk]
  have hcb : tt_c k a b ≤ b := tt_c_le b
  show (nI e + nI (tt_c k a b) ≤ 40 → _) ∧ (¬ nI e + nI (tt_c k a b) ≤ 40 → _)
  rw [nI_add, ← tt_40, nI_leI (by omega) (by omega)]
  by_cases q : e + tt_c k a b ≤ 40
  · refine br_t q ⟨b - a + 1, ?_⟩
    have := tt_xent34 (post := post) (more := more) (t' := t') hk hb Q q (fun d v T' F' G' H' V' h1 h2 h3 h4 h5 => hstep d v T' F' G' H' V' h1 h2 h3 h4 q h5) (fun T' F' G' H' V' h => hend T' F' G' H' V' q h) (b - a) a (by omega) (Nat.le_refl _) T F G H V (fun j _ => ⟨rfl, rfl, rfl, rfl, rfl⟩) (by rw [tt_c_a a (Nat.le_refl _)]; exact hQ q) (b - a + 1) (by omega)
    rw [tt_c_a a (Nat.le_refl _)] at this
    exact this
  · exact br_f q (hfull (by omega))
end
section
/-! the reference's walks -/
theorem tt_sn {v : Int32} {o : Option Int32} (h : o = some v) : o ≠ none := by rw [h]; exact (fun z => nomatch z)
theorem tt_ys5 (post : Int32 → Prop) (t d f p : Int32) (T F G H V PF PT PV : Nat → Int32) : ∀ m : Nat, m ≤ 40 → ∀ n, m < n → post (tt_en (tt_sp T F G t d m)) → wY_speaker_5 post t d f p T F G H V PF PT PV n (nI m - 1) := by
  intro m
  induction m with
  | zero =>
    intro _ n hn hp
    cases n with
    | zero => omega
    | succ n => exact br_t (show (nI 0 - 1 : Int32) < 0 from by decide +kernel) hp
  | succ m ih =>
    intro hm n hn hp
    cases n with
    | zero => omega
    | succ n =>
      rw [nI_pred]
      have hc : (nI m).toNatClampNeg = m := nI_clamp (by omega)
      have hi : vp_in (nI m) 40 := vp_in_nI (by omega) (by omega)
      have hnext : tt_sp T F G t d (m + 1) = tt_sp T F G t d m → ∀ x, x = nI m + (-1) → wY_speaker_5 post t d f p T F G H V PF PT PV n x := fun e x hx => by
        rw [hx, tt_dec]
        exact ih (by omega) n (by omega) (by rw [← e]; exact hp)
      rw [wY_speaker_5]
      dsimp only
      rw [hc]
      refine br_f (nI_pos (by omega)) ⟨hi, ?_⟩
      by_cases h1 : T m = t
      · refine br_t h1 ⟨hi, ?_⟩
        by_cases h2 : d < F m
        · exact br_t h2 (hnext (tt_sp_s2 h1 h2))
        · refine br_f h2 ⟨hi, ?_⟩
          by_cases h3 : G m ≤ d
          · exact br_t h3 (hnext (tt_sp_s3 h1 h2 h3))
          · refine br_f h3 ?_
            rw [tt_sp_s4 h1 h2 h3] at hp
            exact hp
      · exact br_f h1 (hnext (tt_sp_s1 h1))
theorem tt_yspk {post : Int32 → Prop} {f p t d : Int32} {T F G H V PF PT PV : Nat → Int32} {m : Nat} (hm : m ≤ 40) (hp : post (tt_en (tt_sp T F G t d m))) : wpY_speaker post (f, p, T, F, G, H, V, PF, PT, PV) (nI m) t d :=
  fun x hx => ⟨m + 1, by rw [hx]; exact tt_ys5 post t d f p T F G H V PF PT PV m hm (m + 1) (by omega) hp⟩
theorem tt_yknows {post : Int32 → Prop} {f p t d : Int32} {T F G H V PF PT PV : Nat → Int32} {m : Nat} (hm : m ≤ 40) (hp : post (tt_k1 (tt_kn T F G H V t d m))) : wpY_knows post (f, p, T, F, G, H, V, PF, PT, PV) (nI m) t d := by
  refine tt_yspk hm ?_
  cases e : tt_sp T F G t d m with
  | none =>
    rw [tt_kn_n e] at hp
    exact br_t (by decide) hp
  | some j =>
    have hj := tt_sp_lt e
    have hc : (nI j).toNatClampNeg = j := nI_clamp (by omega)
    refine br_f (nI_pos (by omega)) ⟨vp_in_nI (by omega) (by omega), ?_⟩
    show (H (nI j).toNatClampNeg = 0 → _) ∧ (¬ H (nI j).toNatClampNeg = 0 → _)
    rw [hc]
    by_cases z : H j = 0
    · rw [tt_kn_0 e z] at hp; exact br_t z hp
    · rw [tt_kn_1 e z] at hp; exact br_f z hp
theorem tt_yval {post : Int32 → Prop} {f p t d : Int32} {T F G H V PF PT PV : Nat → Int32} {m : Nat} (hm : m ≤ 40) (hp : post (tt_v5 (tt_kn T F G H V t d m))) : wpY_valueAt post (f, p, T, F, G, H, V, PF, PT, PV) (nI m) t d := by
  refine tt_yspk hm ?_
  cases e : tt_sp T F G t d m with
  | none =>
    rw [tt_kn_n e] at hp
    exact br_t (by decide) hp
  | some j =>
    have hj := tt_sp_lt e
    have hc : (nI j).toNatClampNeg = j := nI_clamp (by omega)
    have hi : vp_in (nI j) 40 := vp_in_nI (by omega) (by omega)
    refine br_f (nI_pos (by omega)) ⟨hi, ?_⟩
    show (H (nI j).toNatClampNeg = 0 → _) ∧ (¬ H (nI j).toNatClampNeg = 0 → vp_in (nI j) 40 ∧ post (V (nI j).toNatClampNeg))
    rw [hc]
    by_cases z : H j = 0
    · rw [tt_kn_0 e z] at hp; exact br_t z hp
    · rw [tt_kn_1 e z] at hp; exact br_f z ⟨hi, hp⟩
theorem tt_ysame {post : Int32 → Prop} {f p t d : Int32} {T F G H V PF PT PV : Nat → Int32} {n m : Nat} (hn : n ≤ 40) (hm : m ≤ 40) (hp : post (if tt_kn T F G H V t d n = tt_kn T F G H V t d m then 1 else 0)) : wpY_same post (f, p, T, F, G, H, V, PF, PT, PV) (nI n) (nI m) t d := by
  unfold wpY_same
  dsimp only
  refine tt_yknows hn ?_
  refine tt_yknows hm ?_
  cases e : tt_kn T F G H V t d n with
  | none =>
    rw [e] at hp
    cases e2 : tt_kn T F G H V t d m with
    | none =>
      rw [e2, if_pos rfl] at hp
      exact br_t rfl (br_t rfl hp)
    | some w =>
      rw [e2, if_neg (fun z => nomatch z)] at hp
      exact br_f (show ¬ (0 : Int32) = 1 from by decide) hp
  | some v =>
    rw [e] at hp
    cases e2 : tt_kn T F G H V t d m with
    | none =>
      rw [e2, if_neg (fun z => nomatch z)] at hp
      exact br_f (show ¬ (1 : Int32) = 0 from by decide) hp
    | some w =>
      rw [e2] at hp
      refine br_t rfl (br_f (show ¬ (1 : Int32) = 0 from by decide) (tt_yval hn (tt_yval hm ?_)))
      rw [e, e2]
      by_cases q : v = w
      · rw [if_pos (congrArg some q)] at hp; exact br_t q hp
      · rw [if_neg (fun z => q (Option.some.inj z))] at hp; exact br_f q hp
theorem tt_ymake {post : Int32 → SY → Prop} {e : Nat} {p : Int32} {T F G H V PF PT PV : Nat → Int32} {t a b h v : Int32} (he : e < 40) (hp : post (nI (e + 1)) (nI (e + 1), p, upd T e t, upd F e a, upd G e b, upd H e (vp_nar .boolean h), upd V e v, PF, PT, PV)) : wpY_make post (nI e, p, T, F, G, H, V, PF, PT, PV) t a b h v := by
  have hi : vp_in (nI e) 40 := vp_in_nI he (by omega)
  have hc : (nI e).toNatClampNeg = e := nI_clamp (by omega)
  refine ⟨hi, nm_r (congrArg (upd T · t) hc) ⟨hi, nm_r (congrArg (upd F · a) hc) ⟨hi, nm_r (congrArg (upd G · b) hc) ⟨hi, nm_r (congrArg (upd H · (vp_nar .boolean h)) hc) ⟨hi, nm_r (congrArg (upd V · v) hc) (nm_r (nI_1 e) hp)⟩⟩⟩⟩⟩
/-- whether the day before d is known -/
def tt_o (k : Nat → Option Int32) : Nat → Int32
  | 0 => 0
  | d + 1 => tt_k1 (k d)
theorem tt_ylist10 {post : SY → Prop} {f t : Int32} {T F G H V : Nat → Int32} {nn : Nat} {k : Nat → Option Int32} (hn : nn ≤ 40) (hk : k = tt_k T F G H V t nn)
    (hp : ∀ PF PT PV : Nat → Int32, tt_L k 100 PF PT PV → post (f, nI (tt_c k 0 100), T, F, G, H, V, PF, PT, PV)) :
    ∀ m d : Nat, d + m = 100 → ∀ PF PT PV : Nat → Int32, tt_L k d PF PT PV → ∀ n, m < n → wY_list_10 post (nI nn) t f n (tt_o k d) (nI d) (nI (tt_c k 0 d)) T F G H V PF PT PV := by
  intro m
  induction m with
  | zero =>
    intro d hd PF PT PV hL n hn2
    cases n with
    | zero => omega
    | succ n =>
      have e : d = 100 := by omega
      subst e
      refine br_t ?_ (hp PF PT PV hL)
      rw [tt_100]; decide
  | succ m ih =>
    intro d hd PF PT PV hL n hn2
    cases n with
    | zero => omega
    | succ n =>
      have hkd : tt_kn T F G H V t (nI d) nn = k d := by rw [hk]; rfl
      have hcd : tt_c k 0 d ≤ d := tt_c_le d
      refine br_f ?_ (tt_yknows hn (tt_yval hn ?_))
      · rw [← tt_100]; exact nI_ge (by omega) (by omega)
      rw [hkd]
      -- a new piece
      have hnew : ∀ v : Int32, k d = some v → tt_st k 0 d = true → wY_list_80 post (wY_list_10 post (nI nn) t f n) (nI nn) t (nI d) (tt_k1 (k d)) (tt_v5 (k d)) f (nI (tt_c k 0 d)) T F G H V PF PT PV := by
        intro v ev hs
        have hi : vp_in (nI (tt_c k 0 d)) 100 := vp_in_nI (by omega) (by omega)
        have hc : (nI (tt_c k 0 d)).toNatClampNeg = tt_c k 0 d := nI_clamp (by omega)
        rw [ev]
        refine br_f (show ¬ (1 : Int32) = 0 from by decide) ⟨hi, nm_r (congrArg (upd PF · (nI d)) hc) ⟨hi, nm_r (congrArg (upd PT · (nI d + 1)) hc) ⟨hi, nm_r (congrArg (upd PV · v) hc) (nm_r (nI_1 _) (nm_r (nI_1 d) ?_))⟩⟩⟩
        have := ih (d + 1) (by omega) _ _ _ (tt_L_new hs ev hL) n (by omega)
        rw [tt_c_s hs, show tt_o k (d + 1) = tt_k1 (k d) from rfl, ev] at this
        rw [nI_1]
        exact this
      cases ev : k d with
      | none =>
        refine br_t rfl (br_t rfl (nm_r (nI_1 d) ?_))
        have hs : ¬ tt_st k 0 d = true := fun z => (tt_st_iff.mp z).2.1 ev
        have := ih (d + 1) (by omega) _ _ _ (tt_L_none ev hL) n (by omega)
        rw [tt_c_n hs, show tt_o k (d + 1) = tt_k1 (k d) from rfl, ev] at this
        exact this
      | some v =>
        have hnew := hnew v ev
        rw [ev] at hnew
        refine br_f (show ¬ (1 : Int32) = 0 from by decide) ?_
        cases d with
        | zero =>
          exact br_t rfl (hnew (tt_st_iff.mpr ⟨Nat.le_refl _, tt_sn ev, Or.inl rfl⟩))
        | succ d =>
          show (tt_k1 (k d) = 0 → _) ∧ (¬ tt_k1 (k d) = 0 → _)
          cases eo : k d with
          | none =>
            exact br_t rfl (hnew (tt_st_iff.mpr ⟨Nat.zero_le _, tt_sn ev, Or.inr (by rw [Nat.add_sub_cancel, eo, ev]; exact (fun z => nomatch z))⟩))
          | some w =>
            obtain ⟨s, s1, s2, s3, s4⟩ := tt_last d (tt_sn eo)
            have hcs : tt_c k 0 s ≤ s := tt_c_le s
            have hi : vp_in (nI (tt_c k 0 s)) 100 := vp_in_nI (by omega) (by omega)
            have hc : (nI (tt_c k 0 s)).toNatClampNeg = tt_c k 0 s := nI_clamp (by omega)
            have hpv : PV (tt_c k 0 s) = w := by
              have h3 := (hL s (by omega) s2).2.2
              rw [s4 s (Nat.le_refl _) s1, eo] at h3
              exact Option.some.inj h3
            refine br_f (show ¬ (1 : Int32) = 0 from by decide) ?_
            have hpred : nI (tt_c k 0 (d + 1)) - 1 = nI (tt_c k 0 s) := by rw [← s3, nI_pred]
            rw [hpred, hc, hpv]
            refine ⟨hi, ?_⟩
            show (w = v → _) ∧ (¬ w = v → _)
            by_cases q : w = v
            · subst q
              refine br_t rfl ⟨hi, nm_e (nm_r (nI_1 (d + 1)) ?_)⟩
              rw [nI_1]
              have hs : ¬ tt_st k 0 (d + 1) = true := fun z => (tt_st_iff.mp z).2.2.elim (fun y => by omega) (fun y => y (by rw [Nat.add_sub_cancel, eo, ev]))
              have hj : ∀ j, s ≤ j → j ≤ d + 1 → k j = k s := by
                intro j j1 j2
                rw [s4 s (Nat.le_refl _) s1]
                by_cases y : j = d + 1
                · rw [y, ev, eo]
                · exact s4 j j1 (by omega)
              have := ih (d + 1 + 1) (by omega) _ _ _ (tt_L_ext (by omega) s2 s3 hj hL) n (by omega)
              rw [tt_c_n hs, show tt_o k (d + 1 + 1) = tt_k1 (k (d + 1)) from rfl, ev] at this
              exact this
            · exact br_f q (hnew (tt_st_iff.mpr ⟨Nat.zero_le _, tt_sn ev, Or.inr (by rw [Nat.add_sub_cancel, eo, ev]; exact fun z => q (Option.some.inj z))⟩))
theorem tt_ylist {post : SY → Prop} {f p t : Int32} {T F G H V PF PT PV : Nat → Int32} {nn : Nat} {k : Nat → Option Int32} (hn : nn ≤ 40) (hk : k = tt_k T F G H V t nn)
    (hp : ∀ PF PT PV : Nat → Int32, tt_L k 100 PF PT PV → post (f, nI (tt_c k 0 100), T, F, G, H, V, PF, PT, PV)) : wpY_list post (f, p, T, F, G, H, V, PF, PT, PV) (nI nn) t :=
  ⟨101, tt_ylist10 hn hk hp 100 0 rfl PF PT PV (fun s hs => absurd hs (Nat.not_lt_zero _)) 101 (by omega)⟩
end
section
/-! the guards of both sides, and the reading methods' loops -/
def tt_gt (t : Int32) : Int32 := if t < 0 then 0 else if 6 ≤ t then 0 else 1
def tt_gy (d : Int32) : Int32 := if d < 0 then 0 else if 100 ≤ d then 0 else 1
def tt_gn (f n : Int32) : Int32 := if n < 0 then 0 else if f < n then 0 else 1
def tt_fr (x : Int32) : Int32 := x &&& 127
def tt_to (x : Int32) : Int32 := (x >>> ((7 : Int32) &&& 31)) &&& 127
def tt_gd (x : Int32) : Int32 := if tt_to x ≤ tt_fr x then 0 else if 100 < tt_to x then 0 else 1
def tt_rf (t x : Int32) : Int32 := if tt_gt t = 0 then -1 else if tt_gd x = 0 then -2 else 0
theorem tt_xth {post : Int32 → Prop} {t : Int32} (hp : post (tt_gt t)) : wpX_isThing post t := by
  unfold tt_gt at hp
  by_cases h : t < 0
  · rw [if_pos h] at hp; exact br_t h hp
  · rw [if_neg h] at hp
    by_cases h2 : 6 ≤ t
    · rw [if_pos h2] at hp; exact br_f h (br_t h2 hp)
    · rw [if_neg h2] at hp; exact br_f h (br_f h2 hp)
theorem tt_yth {post : Int32 → Prop} {f p : Int32} {T F G H V PF PT PV : Nat → Int32} {t : Int32} (hp : post (tt_gt t)) : wpY_isThing post (f, p, T, F, G, H, V, PF, PT, PV) t := by
  unfold tt_gt at hp
  by_cases h : t < 0
  · rw [if_pos h] at hp; exact br_t h hp
  · rw [if_neg h] at hp
    by_cases h2 : 6 ≤ t
    · rw [if_pos h2] at hp; exact br_f h (br_t h2 hp)
    · rw [if_neg h2] at hp; exact br_f h (br_f h2 hp)
theorem tt_xdy {post : Int32 → Prop} {t : Int32} (hp : post (tt_gy t)) : wpX_isDay post t := by
  unfold tt_gy at hp
  by_cases h : t < 0
  · rw [if_pos h] at hp; exact br_t h hp
  · rw [if_neg h] at hp
    by_cases h2 : 100 ≤ t
    · rw [if_pos h2] at hp; exact br_f h (br_t h2 hp)
    · rw [if_neg h2] at hp; exact br_f h (br_f h2 hp)
theorem tt_ydy {post : Int32 → Prop} {f p : Int32} {T F G H V PF PT PV : Nat → Int32} {t : Int32} (hp : post (tt_gy t)) : wpY_isDay post (f, p, T, F, G, H, V, PF, PT, PV) t := by
  unfold tt_gy at hp
  by_cases h : t < 0
  · rw [if_pos h] at hp; exact br_t h hp
  · rw [if_neg h] at hp
    by_cases h2 : 100 ≤ t
    · rw [if_pos h2] at hp; exact br_f h (br_t h2 hp)
    · rw [if_neg h2] at hp; exact br_f h (br_f h2 hp)
theorem tt_xen {post : Int32 → Prop} {f : Int32} {T F G H V : Nat → Int32} {t : Int32} (hp : post (tt_gn f t)) : wpX_isEntry post (f, T, F, G, H, V) t := by
  unfold tt_gn at hp
  by_cases h : t < 0
  · rw [if_pos h] at hp; exact br_t h hp
  · rw [if_neg h] at hp
    by_cases h2 : f < t
    · rw [if_pos h2] at hp; exact br_f h (br_t h2 hp)
    · rw [if_neg h2] at hp; exact br_f h (br_f h2 hp)
theorem tt_yen {post : Int32 → Prop} {f p : Int32} {T F G H V PF PT PV : Nat → Int32} {t : Int32} (hp : post (tt_gn f t)) : wpY_isEntry post (f, p, T, F, G, H, V, PF, PT, PV) t := by
  unfold tt_gn at hp
  by_cases h : t < 0
  · rw [if_pos h] at hp; exact br_t h hp
  · rw [if_neg h] at hp
    by_cases h2 : f < t
    · rw [if_pos h2] at hp; exact br_f h (br_t h2 hp)
    · rw [if_neg h2] at hp; exact br_f h (br_f h2 hp)
theorem tt_xds {post : Int32 → Prop} {x : Int32} (hp : post (tt_gd x)) : wpX_areDays post x := by
  unfold tt_gd at hp
  by_cases h : tt_to x ≤ tt_fr x
  · rw [if_pos h] at hp; exact br_t h hp
  · rw [if_neg h] at hp
    by_cases h2 : 100 < tt_to x
    · rw [if_pos h2] at hp; exact br_f h (br_t h2 hp)
    · rw [if_neg h2] at hp; exact br_f h (br_f h2 hp)
theorem tt_yds {post : Int32 → Prop} {f p : Int32} {T F G H V PF PT PV : Nat → Int32} {x : Int32} (hp : post (tt_gd x)) : wpY_areDays post (f, p, T, F, G, H, V, PF, PT, PV) x := by
  unfold tt_gd at hp
  by_cases h : tt_to x ≤ tt_fr x
  · rw [if_pos h] at hp; exact br_t h hp
  · rw [if_neg h] at hp
    by_cases h2 : 100 < tt_to x
    · rw [if_pos h2] at hp; exact br_f h (br_t h2 hp)
    · rw [if_neg h2] at hp; exact br_f h (br_f h2 hp)
theorem tt_yrf {post : Int32 → Prop} {f p : Int32} {T F G H V PF PT PV : Nat → Int32} {t x : Int32} (hp : post (tt_rf t x)) : wpY_refusal post (f, p, T, F, G, H, V, PF, PT, PV) t x := by
  unfold tt_rf at hp
  unfold wpY_refusal
  dsimp only
  refine tt_yth ?_
  by_cases h : tt_gt t = 0
  · rw [if_pos h] at hp; exact br_t h hp
  · rw [if_neg h] at hp
    refine br_f h ?_
    refine tt_yds ?_
    by_cases h2 : tt_gd x = 0
    · rw [if_pos h2] at hp; exact br_t h2 hp
    · rw [if_neg h2] at hp; exact br_f h2 hp
theorem tt_gn_of {e : Nat} {n : Int32} (he : e ≤ 40) (h : ¬ tt_gn (nI e) n = 0) : ∃ m : Nat, m ≤ e ∧ n = nI m := by
  unfold tt_gn at h
  by_cases h1 : n < 0
  · rw [if_pos h1] at h; exact absurd rfl h
  · obtain ⟨m, hm, rfl⟩ := nI_of h1
    rw [if_neg h1] at h
    by_cases h2 : nI e < nI m
    · rw [if_pos h2] at h; exact absurd rfl h
    · rw [nI_ltI (by omega) hm] at h2
      exact ⟨m, by omega, rfl⟩
theorem tt_gy_of {n : Int32} (h : ¬ tt_gy n = 0) : ∃ m : Nat, m < 100 ∧ n = nI m := by
  unfold tt_gy at h
  by_cases h1 : n < 0
  · rw [if_pos h1] at h; exact absurd rfl h
  · obtain ⟨m, hm, rfl⟩ := nI_of h1
    rw [if_neg h1] at h
    by_cases h2 : 100 ≤ nI m
    · rw [if_pos h2] at h; exact absurd rfl h
    · rw [← tt_100, nI_leI (by omega) hm] at h2
      exact ⟨m, by omega, rfl⟩
theorem tt_gd_of {x : Int32} (h : ¬ tt_gd x = 0) : ∃ a b : Nat, a < b ∧ b ≤ 100 ∧ tt_fr x = nI a ∧ tt_to x = nI b := by
  obtain ⟨a, ha, ea⟩ := pk_andE x (m := 127) 7 (by decide)
  obtain ⟨b, hb, eb⟩ := pk_andE (x >>> ((7 : Int32) &&& 31)) (m := 127) 7 (by decide)
  have ea : tt_fr x = nI a := ea
  have eb : tt_to x = nI b := eb
  unfold tt_gd at h
  by_cases h1 : tt_to x ≤ tt_fr x
  · rw [if_pos h1] at h; exact absurd rfl h
  · rw [if_neg h1] at h
    rw [ea, eb, nI_leI (by omega) (by omega)] at h1
    by_cases h2 : 100 < tt_to x
    · rw [if_pos h2] at h; exact absurd rfl h
    · rw [eb, ← tt_100, nI_ltI (by omega) (by omega)] at h2
      exact ⟨a, b, by omega, by omega, ea, eb⟩
/-- sumAt -/
def tt_sm (K : Nat → Option Int32) : Nat → Int32
  | 0 => 0
  | j + 1 => match K j with
    | none => tt_sm K j
    | some v => tt_sm K j + v
theorem tt_sm_n {K : Nat → Option Int32} {j : Nat} (h : K j = none) : tt_sm K (j + 1) = tt_sm K j := by
  rw [tt_sm, h]
theorem tt_sm_s {K : Nat → Option Int32} {j : Nat} {v : Int32} (h : K j = some v) : tt_sm K (j + 1) = tt_sm K j + v := by
  rw [tt_sm, h]
theorem tt_xsum {post : Int32 → Prop} {f d : Int32} {T F G H V : Nat → Int32} {nn : Nat} (hn : nn ≤ 40) (hp : post (tt_sm (fun j => tt_kn T F G H V (nI j) d nn) 6)) : ∀ m j : Nat, j + m = 6 → ∀ n, m < n → wX_sumAt_26 post (nI nn) d f T F G H V n (tt_sm (fun j => tt_kn T F G H V (nI j) d nn) j) (nI j) := by
  intro m
  induction m with
  | zero =>
    intro j hj n hn2
    cases n with
    | zero => omega
    | succ n =>
      have e : j = 6 := by omega
      subst e
      refine br_t ?_ hp
      rw [tt_6]; decide
  | succ m ih =>
    intro j hj n hn2
    cases n with
    | zero => omega
    | succ n =>
      refine br_f ?_ (tt_xsrc hn ?_)
      · rw [← tt_6]; exact nI_ge (by omega) (by omega)
      have hk : tt_kn T F G H V (nI j) d nn = (tt_so T F G H (nI j) d nn).map V := rfl
      cases e : tt_so T F G H (nI j) d nn with
      | none =>
        rw [e] at hk
        refine br_t rfl (nm_r (nI_1 _) ?_)
        have := ih (j + 1) (by omega) n (by omega)
        rw [tt_sm_n (K := fun j => tt_kn T F G H V (nI j) d nn) hk] at this
        exact this
      | some i =>
        rw [e] at hk
        have hi := tt_so_lt e
        have hc : (nI i).toNatClampNeg = i := nI_clamp (by omega)
        refine br_f (tt_nm1 (by omega)) ⟨vp_in_nI (by omega) (by omega), ?_⟩
        refine nm_r (e' := tt_sm (fun j => tt_kn T F G H V (nI j) d nn) j + V i) (congrArg (fun z => tt_sm (fun j => tt_kn T F G H V (nI j) d nn) j + V z) hc) (nm_r (nI_1 _) ?_)
        have := ih (j + 1) (by omega) n (by omega)
        rw [tt_sm_s (K := fun j => tt_kn T F G H V (nI j) d nn) hk] at this
        exact this
theorem tt_ysum {post : Int32 → Prop} {f p d : Int32} {T F G H V PF PT PV : Nat → Int32} {nn : Nat} (hn : nn ≤ 40) (hp : post (tt_sm (fun j => tt_kn T F G H V (nI j) d nn) 6)) : ∀ m j : Nat, j + m = 6 → ∀ n, m < n → wY_sumAt_27 post (nI nn) d f p T F G H V PF PT PV n (tt_sm (fun j => tt_kn T F G H V (nI j) d nn) j) (nI j) := by
  intro m
  induction m with
  | zero =>
    intro j hj n hn2
    cases n with
    | zero => omega
    | succ n =>
      have e : j = 6 := by omega
      subst e
      refine br_t ?_ hp
      rw [tt_6]; decide
  | succ m ih =>
    intro j hj n hn2
    cases n with
    | zero => omega
    | succ n =>
      refine br_f ?_ (tt_yknows hn ?_)
      · rw [← tt_6]; exact nI_ge (by omega) (by omega)
      cases e : tt_kn T F G H V (nI j) d nn with
      | none =>
        refine br_t rfl (nm_r (nI_1 _) ?_)
        have := ih (j + 1) (by omega) n (by omega)
        rw [tt_sm_n (K := fun j => tt_kn T F G H V (nI j) d nn) e] at this
        exact this
      | some v =>
        refine br_f (show ¬ (1 : Int32) = 0 from by decide) (tt_yval hn ?_)
        rw [e]
        refine nm_e (nm_r (nI_1 _) ?_)
        have := ih (j + 1) (by omega) n (by omega)
        rw [tt_sm_s (K := fun j => tt_kn T F G H V (nI j) d nn) e] at this
        exact this
/-- changed -/
def tt_ch (k1 k2 : Nat → Option Int32) : Nat → Nat
  | 0 => 0
  | d + 1 => tt_ch k1 k2 d + (if k1 d = k2 d then 0 else 1)
theorem tt_ch_e {k1 k2 : Nat → Option Int32} {d : Nat} (h : k1 d = k2 d) : tt_ch k1 k2 (d + 1) = tt_ch k1 k2 d := by
  rw [tt_ch, if_pos h]; rfl
theorem tt_ch_n {k1 k2 : Nat → Option Int32} {d : Nat} (h : ¬ k1 d = k2 d) : tt_ch k1 k2 (d + 1) = tt_ch k1 k2 d + 1 := by
  rw [tt_ch, if_neg h]
theorem tt_xch {post : Int32 → Prop} {f t : Int32} {T F G H V : Nat → Int32} {n1 n2 : Nat} (h1 : n1 ≤ 40) (h2 : n2 ≤ 40) (hp : post (nI (tt_ch (tt_k T F G H V t n1) (tt_k T F G H V t n2) 100))) : ∀ m d : Nat, d + m = 100 → ∀ n, m < n → wX_changed_34 post (nI n1) (nI n2) t f T F G H V n (nI (tt_ch (tt_k T F G H V t n1) (tt_k T F G H V t n2) d)) (nI d) := by
  intro m
  induction m with
  | zero =>
    intro d hd n hn2
    cases n with
    | zero => omega
    | succ n =>
      have e : d = 100 := by omega
      subst e
      refine br_t ?_ hp
      rw [tt_100]; decide
  | succ m ih =>
    intro d hd n hn2
    cases n with
    | zero => omega
    | succ n =>
      refine br_f ?_ (tt_xsrc h1 (tt_xsrc h2 (tt_xsame (fun i hi => by have := tt_so_lt hi; omega) (fun i hi => by have := tt_so_lt hi; omega) ?_)))
      · rw [← tt_100]; exact nI_ge (by omega) (by omega)
      have e1 : tt_k T F G H V t n1 d = (tt_so T F G H t (nI d) n1).map V := rfl
      have e2 : tt_k T F G H V t n2 d = (tt_so T F G H t (nI d) n2).map V := rfl
      rw [← e1, ← e2]
      have := ih (d + 1) (by omega) n (by omega)
      by_cases q : tt_k T F G H V t n1 d = tt_k T F G H V t n2 d
      · rw [tt_ch_e q] at this
        rw [if_pos q]
        exact br_f (show ¬ (1 : Int32) = 0 from by decide) (nm_r (nI_1 _) this)
      · rw [tt_ch_n q] at this
        rw [if_neg q]
        exact br_t rfl (nm_r (nI_1 _) (nm_r (nI_1 _) this))
theorem tt_ych {post : Int32 → Prop} {f p t : Int32} {T F G H V PF PT PV : Nat → Int32} {n1 n2 : Nat} (h1 : n1 ≤ 40) (h2 : n2 ≤ 40) (hp : post (nI (tt_ch (tt_k T F G H V t n1) (tt_k T F G H V t n2) 100))) : ∀ m d : Nat, d + m = 100 → ∀ n, m < n → wY_changed_35 post (nI n1) (nI n2) t f p T F G H V PF PT PV n (nI (tt_ch (tt_k T F G H V t n1) (tt_k T F G H V t n2) d)) (nI d) := by
  intro m
  induction m with
  | zero =>
    intro d hd n hn2
    cases n with
    | zero => omega
    | succ n =>
      have e : d = 100 := by omega
      subst e
      refine br_t ?_ hp
      rw [tt_100]; decide
  | succ m ih =>
    intro d hd n hn2
    cases n with
    | zero => omega
    | succ n =>
      refine br_f ?_ (tt_ysame h1 h2 ?_)
      · rw [← tt_100]; exact nI_ge (by omega) (by omega)
      have e1 : tt_k T F G H V t n1 d = tt_kn T F G H V t (nI d) n1 := rfl
      have e2 : tt_k T F G H V t n2 d = tt_kn T F G H V t (nI d) n2 := rfl
      rw [← e1, ← e2]
      have := ih (d + 1) (by omega) n (by omega)
      by_cases q : tt_k T F G H V t n1 d = tt_k T F G H V t n2 d
      · rw [tt_ch_e q] at this
        rw [if_pos q]
        exact br_f (show ¬ (1 : Int32) = 0 from by decide) (nm_r (nI_1 _) this)
      · rw [tt_ch_n q] at this
        rw [if_neg q]
        exact br_t rfl (nm_r (nI_1 _) (nm_r (nI_1 _) this))
/-- since -/
def tt_si (K : Nat → Option Int32) (now : Option Int32) : Nat → Nat
  | 0 => 0
  | n + 1 => if K n = now then tt_si K now n else n + 1
theorem tt_xsi {post : Int32 → Prop} {f t d : Int32} {T F G H V : Nat → Int32} {e : Nat} (he : e ≤ 40) : ∀ m : Nat, m ≤ e → post (nI (tt_si (fun n => tt_kn T F G H V t d n) (tt_kn T F G H V t d e) m)) → ∀ n, m < n → wX_since_36 post t d (tt_en (tt_so T F G H t d e)) f T F G H V n (nI m) := by
  intro m
  induction m with
  | zero =>
    intro _ hp n hn
    cases n with
    | zero => omega
    | succ n => exact br_t (by decide) hp
  | succ m ih =>
    intro hm hp n hn
    cases n with
    | zero => omega
    | succ n =>
      refine br_f (nI_nle (by omega) (by omega)) ?_
      rw [nI_pred]
      refine tt_xsrc (by omega) (tt_xsame (fun i hi => by have := tt_so_lt hi; omega) (fun i hi => by have := tt_so_lt hi; omega) ?_)
      have e1 : tt_kn T F G H V t d m = (tt_so T F G H t d m).map V := rfl
      have e2 : tt_kn T F G H V t d e = (tt_so T F G H t d e).map V := rfl
      rw [← e1, ← e2]
      rw [tt_si] at hp
      by_cases q : tt_kn T F G H V t d m = tt_kn T F G H V t d e
      · rw [if_pos q] at hp
        rw [if_pos q]
        exact br_f (show ¬ (1 : Int32) = 0 from by decide) (nm_r (pk_m1 m) (ih (by omega) hp n (by omega)))
      · rw [if_neg q] at hp
        rw [if_neg q]
        exact br_t rfl hp
theorem tt_ysi {post : Int32 → Prop} {p t d : Int32} {T F G H V PF PT PV : Nat → Int32} {e : Nat} (he : e ≤ 40) : ∀ m : Nat, m ≤ e → post (nI (tt_si (fun n => tt_kn T F G H V t d n) (tt_kn T F G H V t d e) m)) → ∀ n, m < n → wY_since_26 post t d (nI e) p T F G H V PF PT PV n (nI m) := by
  intro m
  induction m with
  | zero =>
    intro _ hp n hn
    cases n with
    | zero => omega
    | succ n => exact br_t (by decide) hp
  | succ m ih =>
    intro hm hp n hn
    cases n with
    | zero => omega
    | succ n =>
      refine br_f (nI_nle (by omega) (by omega)) ?_
      rw [nI_pred]
      refine tt_ysame (by omega) he ?_
      rw [tt_si] at hp
      by_cases q : tt_kn T F G H V t d m = tt_kn T F G H V t d e
      · rw [if_pos q] at hp
        rw [if_pos q]
        exact br_f (show ¬ (1 : Int32) = 0 from by decide) (nm_r (pk_m1 m) (ih (by omega) hp n (by omega)))
      · rw [if_neg q] at hp
        rw [if_neg q]
        exact br_t rfl hp
end
section
/-- both books hold the same entries -/
def i_Rel (k : Nat) (u : SX) (v : SY) : Prop := ∃ (e : Nat) (p : Int32) (T F G H V PF PT PV : Nat → Int32), e ≤ 40 ∧ u = (nI e, T, F, G, H, V) ∧ v = (nI e, p, T, F, G, H, V, PF, PT, PV)
theorem tt_rel {k e : Nat} {p : Int32} {T F G H V PF PT PV : Nat → Int32} (he : e ≤ 40) : i_Rel k (nI e, T, F, G, H, V) (nI e, p, T, F, G, H, V, PF, PT, PV) := ⟨e, p, T, F, G, H, V, PF, PT, PV, he, rfl, rfl⟩
theorem tt_xin {post : Int32 → SX → Prop} {e : Nat} {T F G H V : Nat → Int32} {t x h v : Int32} (he : e ≤ 40) (h1 : tt_gt t = 0 → post (-1) (nI e, T, F, G, H, V)) (h2 : ¬ tt_gt t = 0 → tt_gd x = 0 → post (-2) (nI e, T, F, G, H, V)) (h3 : ¬ tt_gt t = 0 → ¬ tt_gd x = 0 → e = 40 → post (-3) (nI e, T, F, G, H, V)) (h4 : ¬ tt_gt t = 0 → ¬ tt_gd x = 0 → e < 40 → post (nI (e + 1)) (nI (e + 1), upd T e t, upd F e (tt_fr x), upd G e (tt_to x), upd H e (vp_nar .boolean h), upd V e v)) : wpX_enter post (nI e, T, F, G, H, V) t x h v := by
  unfold wpX_enter wpX_firstOf wpX_behindLastOf
  dsimp only
  refine tt_xth ?_
  refine br_c h1 (fun g1 => ?_)
  refine tt_xds ?_
  refine br_c (h2 g1) (fun g2 => ?_)
  by_cases q : e < 40
  · refine br_t (by rw [← tt_40]; exact nI_lt q (by omega)) ?_
    have h5 := h4 g1 g2 q
    unfold tt_fr tt_to at h5
    exact tt_xapp q h5
  · refine br_f (by rw [← tt_40]; exact nI_nlt (by omega) (by omega)) (h3 g1 g2 (by omega))
theorem i_vc_say {k : Nat} {u : SX} {v : SY} (I : i_Rel k u v) (hk : k + 4 ≤ 2048) (v1 : Int32) (v2 : Int32) (v3 : Int32) : wpX_say (fun r u' => wpY_say (fun r' v' => r' = r ∧ i_Rel (k + 4) u' v') v v1 v2 v3) u v1 v2 v3 := by
  obtain ⟨e, p, T, F, G, H, V, PF, PT, PV, he, rfl, rfl⟩ := I
  unfold wpX_say wpY_say
  dsimp only
  refine tt_xin he (fun g1 => ?_) (fun g1 g2 => ?_) (fun g1 g2 g3 => ?_) (fun g1 g2 g3 => ?_)
  · refine tt_yrf ?_
    rw [show tt_rf v1 v2 = -1 from if_pos g1]
    exact br_f (by decide) ⟨rfl, tt_rel he⟩
  · refine tt_yrf ?_
    rw [show tt_rf v1 v2 = -2 from (if_neg g1).trans (if_pos g2)]
    exact br_f (by decide) ⟨rfl, tt_rel he⟩
  · refine tt_yrf ?_
    rw [show tt_rf v1 v2 = 0 from (if_neg g1).trans (if_neg g2)]
    refine br_t (by decide) (br_t ?_ ⟨rfl, tt_rel he⟩)
    rw [g3]; exact tt_40
  · refine tt_yrf ?_
    rw [show tt_rf v1 v2 = 0 from (if_neg g1).trans (if_neg g2)]
    refine br_t (by decide) (br_f ?_ ?_)
    · rw [← tt_40, nI_eq (by omega) (by omega)]; omega
    · exact tt_ymake g3 ⟨rfl, tt_rel g3⟩
theorem i_vc_unsay {k : Nat} {u : SX} {v : SY} (I : i_Rel k u v) (hk : k + 4 ≤ 2048) (v1 : Int32) (v2 : Int32) : wpX_unsay (fun r u' => wpY_unsay (fun r' v' => r' = r ∧ i_Rel (k + 4) u' v') v v1 v2) u v1 v2 := by
  obtain ⟨e, p, T, F, G, H, V, PF, PT, PV, he, rfl, rfl⟩ := I
  unfold wpX_unsay wpY_unsay
  dsimp only
  refine tt_xin he (fun g1 => ?_) (fun g1 g2 => ?_) (fun g1 g2 g3 => ?_) (fun g1 g2 g3 => ?_)
  · refine tt_yrf ?_
    rw [show tt_rf v1 v2 = -1 from if_pos g1]
    exact br_f (by decide) ⟨rfl, tt_rel he⟩
  · refine tt_yrf ?_
    rw [show tt_rf v1 v2 = -2 from (if_neg g1).trans (if_pos g2)]
    exact br_f (by decide) ⟨rfl, tt_rel he⟩
  · refine tt_yrf ?_
    rw [show tt_rf v1 v2 = 0 from (if_neg g1).trans (if_neg g2)]
    refine br_t (by decide) (br_t ?_ ⟨rfl, tt_rel he⟩)
    rw [g3]; exact tt_40
  · refine tt_yrf ?_
    rw [show tt_rf v1 v2 = 0 from (if_neg g1).trans (if_neg g2)]
    refine br_t (by decide) (br_f ?_ ?_)
    · rw [← tt_40, nI_eq (by omega) (by omega)]; omega
    · exact tt_ymake g3 ⟨rfl, tt_rel g3⟩
theorem i_vc_at {k : Nat} {u : SX} {v : SY} (I : i_Rel k u v) (hk : k + 4 ≤ 2048) (v1 : Int32) (v2 : Int32) (v3 : Int32) : wpX_at (fun r => wpY_at (fun r' => r' = r ∧ i_Rel (k + 4) u v) v v1 v2 v3) u v1 v2 v3 := by
  obtain ⟨e, p, T, F, G, H, V, PF, PT, PV, he, rfl, rfl⟩ := I
  unfold wpX_at wpY_at
  dsimp only
  refine tt_xen ?_
  refine br_c (fun g1 => ?_) (fun g1 => ?_)
  · exact tt_yen (br_t g1 ⟨rfl, tt_rel he⟩)
  refine tt_xth ?_
  refine br_c (fun g2 => ?_) (fun g2 => ?_)
  · exact tt_yen (br_f g1 (tt_yth (br_t g2 ⟨rfl, tt_rel he⟩)))
  refine tt_xdy ?_
  refine br_c (fun g3 => ?_) (fun g3 => ?_)
  · exact tt_yen (br_f g1 (tt_yth (br_f g2 (tt_ydy (br_t g3 ⟨rfl, tt_rel he⟩)))))
  have g1' := g1
  obtain ⟨n, hn, rfl⟩ := tt_gn_of he g1'
  refine tt_xsrc (by omega) ?_
  have hkn : tt_kn T F G H V v2 v3 n = (tt_so T F G H v2 v3 n).map V := rfl
  cases eo : tt_so T F G H v2 v3 n with
  | none =>
    rw [eo] at hkn
    refine br_t rfl ?_
    refine tt_yen (br_f g1 (tt_yth (br_f g2 (tt_ydy (br_f g3 (tt_yval (by omega) ?_))))))
    rw [hkn]
    exact ⟨rfl, tt_rel he⟩
  | some j =>
    rw [eo] at hkn
    have hj := tt_so_lt eo
    have hc : (nI j).toNatClampNeg = j := nI_clamp (by omega)
    refine br_f (tt_nm1 (by omega)) ⟨vp_in_nI (by omega) (by omega), ?_⟩
    refine tt_yen (br_f g1 (tt_yth (br_f g2 (tt_ydy (br_f g3 (tt_yval (by omega) ?_))))))
    rw [hkn]
    exact ⟨(congrArg V hc).symm, tt_rel he⟩
theorem i_vc_known {k : Nat} {u : SX} {v : SY} (I : i_Rel k u v) (hk : k + 4 ≤ 2048) (v1 : Int32) (v2 : Int32) (v3 : Int32) : wpX_known (fun r => wpY_known (fun r' => r' = r ∧ i_Rel (k + 4) u v) v v1 v2 v3) u v1 v2 v3 := by
  obtain ⟨e, p, T, F, G, H, V, PF, PT, PV, he, rfl, rfl⟩ := I
  unfold wpX_known wpY_known
  dsimp only
  refine tt_xen ?_
  refine br_c (fun g1 => ?_) (fun g1 => ?_)
  · exact tt_yen (br_t g1 ⟨rfl, tt_rel he⟩)
  refine tt_xth ?_
  refine br_c (fun g2 => ?_) (fun g2 => ?_)
  · exact tt_yen (br_f g1 (tt_yth (br_t g2 ⟨rfl, tt_rel he⟩)))
  refine tt_xdy ?_
  refine br_c (fun g3 => ?_) (fun g3 => ?_)
  · exact tt_yen (br_f g1 (tt_yth (br_f g2 (tt_ydy (br_t g3 ⟨rfl, tt_rel he⟩)))))
  have g1' := g1
  obtain ⟨n, hn, rfl⟩ := tt_gn_of he g1'
  refine tt_xsrc (by omega) ?_
  have hkn : tt_kn T F G H V v2 v3 n = (tt_so T F G H v2 v3 n).map V := rfl
  cases eo : tt_so T F G H v2 v3 n with
  | none =>
    rw [eo] at hkn
    refine br_t rfl ?_
    refine tt_yen (br_f g1 (tt_yth (br_f g2 (tt_ydy (br_f g3 (tt_yknows (by omega) ?_))))))
    rw [hkn]
    exact br_t rfl ⟨rfl, tt_rel he⟩
  | some j =>
    rw [eo] at hkn
    have hj := tt_so_lt eo
    refine br_f (tt_nm1 (by omega)) ?_
    refine tt_yen (br_f g1 (tt_yth (br_f g2 (tt_ydy (br_f g3 (tt_yknows (by omega) ?_))))))
    rw [hkn]
    exact br_f (show ¬ (1 : Int32) = 0 from by decide) ⟨rfl, tt_rel he⟩
theorem i_vc_sumAt {k : Nat} {u : SX} {v : SY} (I : i_Rel k u v) (hk : k + 4 ≤ 2048) (v1 : Int32) (v2 : Int32) : wpX_sumAt (fun r => wpY_sumAt (fun r' => r' = r ∧ i_Rel (k + 4) u v) v v1 v2) u v1 v2 := by
  obtain ⟨e, p, T, F, G, H, V, PF, PT, PV, he, rfl, rfl⟩ := I
  unfold wpX_sumAt wpY_sumAt
  dsimp only
  refine tt_xen ?_
  refine br_c (fun g1 => ?_) (fun g1 => ?_)
  · exact tt_yen (br_t g1 ⟨rfl, tt_rel he⟩)
  refine tt_xdy ?_
  refine br_c (fun g2 => ?_) (fun g2 => ?_)
  · exact tt_yen (br_f g1 (tt_ydy (br_t g2 ⟨rfl, tt_rel he⟩)))
  have g1' := g1
  obtain ⟨n, hn, rfl⟩ := tt_gn_of he g1'
  refine ⟨7, tt_xsum (by omega) ?_ 6 0 rfl 7 (by omega)⟩
  exact tt_yen (br_f g1 (tt_ydy (br_f g2 ⟨7, tt_ysum (by omega) ⟨rfl, tt_rel he⟩ 6 0 rfl 7 (by omega)⟩)))
theorem i_vc_changed {k : Nat} {u : SX} {v : SY} (I : i_Rel k u v) (hk : k + 4 ≤ 2048) (v1 : Int32) (v2 : Int32) (v3 : Int32) : wpX_changed (fun r => wpY_changed (fun r' => r' = r ∧ i_Rel (k + 4) u v) v v1 v2 v3) u v1 v2 v3 := by
  obtain ⟨e, p, T, F, G, H, V, PF, PT, PV, he, rfl, rfl⟩ := I
  unfold wpX_changed wpY_changed
  dsimp only
  refine tt_xen ?_
  refine br_c (fun g1 => ?_) (fun g1 => ?_)
  · exact tt_yen (br_t g1 ⟨rfl, tt_rel he⟩)
  refine tt_xen ?_
  refine br_c (fun g2 => ?_) (fun g2 => ?_)
  · exact tt_yen (br_f g1 (tt_yen (br_t g2 ⟨rfl, tt_rel he⟩)))
  refine tt_xth ?_
  refine br_c (fun g3 => ?_) (fun g3 => ?_)
  · exact tt_yen (br_f g1 (tt_yen (br_f g2 (tt_yth (br_t g3 ⟨rfl, tt_rel he⟩)))))
  have g1' := g1
  obtain ⟨n, hn, rfl⟩ := tt_gn_of he g1'
  have g2' := g2
  obtain ⟨m, hm, rfl⟩ := tt_gn_of he g2'
  refine ⟨101, tt_xch (by omega) (by omega) ?_ 100 0 rfl 101 (by omega)⟩
  exact tt_yen (br_f g1 (tt_yen (br_f g2 (tt_yth (br_f g3 ⟨101, tt_ych (by omega) (by omega) ⟨rfl, tt_rel he⟩ 100 0 rfl 101 (by omega)⟩)))))
theorem i_vc_since {k : Nat} {u : SX} {v : SY} (I : i_Rel k u v) (hk : k + 4 ≤ 2048) (v1 : Int32) (v2 : Int32) : wpX_since (fun r => wpY_since (fun r' => r' = r ∧ i_Rel (k + 4) u v) v v1 v2) u v1 v2 := by
  obtain ⟨e, p, T, F, G, H, V, PF, PT, PV, he, rfl, rfl⟩ := I
  unfold wpX_since wpY_since
  dsimp only
  refine tt_xth ?_
  refine br_c (fun g1 => ?_) (fun g1 => ?_)
  · exact tt_yth (br_t g1 ⟨rfl, tt_rel he⟩)
  refine tt_xdy ?_
  refine br_c (fun g2 => ?_) (fun g2 => ?_)
  · exact tt_yth (br_f g1 (tt_ydy (br_t g2 ⟨rfl, tt_rel he⟩)))
  refine tt_xsrc he ?_
  refine ⟨41, tt_xsi he e (Nat.le_refl _) ?_ 41 (by omega)⟩
  exact tt_yth (br_f g1 (tt_ydy (br_f g2 ⟨41, tt_ysi he e (Nat.le_refl _) ⟨rfl, tt_rel he⟩ 41 (by omega)⟩)))
theorem i_vc_pieces {k : Nat} {u : SX} {v : SY} (I : i_Rel k u v) (hk : k + 4 ≤ 2048) (v1 : Int32) (v2 : Int32) : wpX_pieces (fun r => wpY_pieces (fun r' v' => r' = r ∧ i_Rel (k + 4) u v') v v1 v2) u v1 v2 := by
  obtain ⟨e, p, T, F, G, H, V, PF, PT, PV, he, rfl, rfl⟩ := I
  unfold wpX_pieces wpY_pieces
  dsimp only
  refine tt_xen ?_
  refine br_c (fun g1 => ?_) (fun g1 => ?_)
  · exact tt_yen (br_t g1 ⟨rfl, tt_rel he⟩)
  refine tt_xth ?_
  refine br_c (fun g2 => ?_) (fun g2 => ?_)
  · exact tt_yen (br_f g1 (tt_yth (br_t g2 ⟨rfl, tt_rel he⟩)))
  have g1' := g1
  obtain ⟨n, hn, rfl⟩ := tt_gn_of he g1'
  refine tt_xcnt (a := 0) (b := 100) (by omega) (by omega) (by omega) ?_
  exact tt_yen (br_f g1 (tt_yth (br_f g2 (tt_ylist (by omega) rfl (fun PF' PT' PV' hL => ⟨rfl, tt_rel he⟩)))))
end
section
theorem i_vc_pieceFrom {k : Nat} {u : SX} {v : SY} (I : i_Rel k u v) (hk : k + 4 ≤ 2048) (v1 : Int32) (v2 : Int32) (v3 : Int32) : wpX_pieceFrom (fun r => wpY_pieceFrom (fun r' v' => r' = r ∧ i_Rel (k + 4) u v') v v1 v2 v3) u v1 v2 v3 := by
  obtain ⟨e, p, T, F, G, H, V, PF, PT, PV, he, rfl, rfl⟩ := I
  unfold wpX_pieceFrom wpY_pieceFrom wpY_pieces
  dsimp only
  refine tt_xen ?_
  refine br_c (fun g1 => ?_) (fun g1 => ?_)
  · exact tt_yen (br_t g1 (br_f (by decide) ⟨rfl, tt_rel he⟩))
  refine tt_xth ?_
  refine br_c (fun g2 => ?_) (fun g2 => ?_)
  · exact tt_yen (br_f g1 (tt_yth (br_t g2 (br_f (by decide) ⟨rfl, tt_rel he⟩))))
  have g1' := g1
  obtain ⟨n, hn, rfl⟩ := tt_gn_of he g1'
  have hc100 : tt_c (tt_k T F G H V v2 n) 0 100 ≤ 100 := tt_c_le 100
  refine tt_xstart (by omega) (fun s hs hst hi => ?_) (fun hno => ?_)
  · refine tt_yen (br_f g1 (tt_yth (br_f g2 (tt_ylist (by omega) rfl (fun PF' PT' PV' hL => ?_)))))
    subst hi
    have hlt : tt_c (tt_k T F G H V v2 n) 0 s < tt_c (tt_k T F G H V v2 n) 0 100 := tt_c_lt hst hs
    refine br_t (nI_pos' (by omega)) (br_f (nI_pos (by omega)) (br_f (nI_ge hlt (by omega)) ⟨vp_in_nI (by omega) (by omega), ?_, tt_rel he⟩))
    rw [nI_clamp (by omega)]
    exact (hL s hs hst).1
  · refine tt_yen (br_f g1 (tt_yth (br_f g2 (tt_ylist (by omega) rfl (fun PF' PT' PV' hL => ?_)))))
    refine br_t (nI_pos' (by omega)) ?_
    by_cases q : v3 < 0
    · exact br_t q ⟨rfl, tt_rel he⟩
    · refine br_f q ?_
      obtain ⟨i, hi, rfl⟩ := nI_of q
      by_cases q2 : tt_c (tt_k T F G H V v2 n) 0 100 ≤ i
      · exact br_t (nI_le q2 hi) ⟨rfl, tt_rel he⟩
      · obtain ⟨s, h1, h2, h3⟩ := tt_c_sur 100 (Nat.lt_of_not_le q2)
        exact absurd (congrArg nI h3) (hno s h1 h2)
theorem i_vc_pieceTo {k : Nat} {u : SX} {v : SY} (I : i_Rel k u v) (hk : k + 4 ≤ 2048) (v1 : Int32) (v2 : Int32) (v3 : Int32) : wpX_pieceTo (fun r => wpY_pieceTo (fun r' v' => r' = r ∧ i_Rel (k + 4) u v') v v1 v2 v3) u v1 v2 v3 := by
  obtain ⟨e, p, T, F, G, H, V, PF, PT, PV, he, rfl, rfl⟩ := I
  unfold wpX_pieceTo wpY_pieceTo wpY_pieces
  dsimp only
  refine tt_xen ?_
  refine br_c (fun g1 => ?_) (fun g1 => ?_)
  · exact tt_yen (br_t g1 (br_f (by decide) ⟨rfl, tt_rel he⟩))
  refine tt_xth ?_
  refine br_c (fun g2 => ?_) (fun g2 => ?_)
  · exact tt_yen (br_f g1 (tt_yth (br_t g2 (br_f (by decide) ⟨rfl, tt_rel he⟩))))
  have g1' := g1
  obtain ⟨n, hn, rfl⟩ := tt_gn_of he g1'
  have hc100 : tt_c (tt_k T F G H V v2 n) 0 100 ≤ 100 := tt_c_le 100
  refine tt_xstart (by omega) (fun s hs hst hi => ?_) (fun hno => ?_)
  · refine br_f (tt_nm5 (by omega)) (tt_xend (b := 100) (by omega) hs (by omega) ?_)
    refine tt_yen (br_f g1 (tt_yth (br_f g2 (tt_ylist (by omega) rfl (fun PF' PT' PV' hL => ?_)))))
    subst hi
    have hlt : tt_c (tt_k T F G H V v2 n) 0 s < tt_c (tt_k T F G H V v2 n) 0 100 := tt_c_lt hst hs
    refine br_t (nI_pos' (by omega)) (br_f (nI_pos (by omega)) (br_f (nI_ge hlt (by omega)) ⟨vp_in_nI (by omega) (by omega), ?_, tt_rel he⟩))
    rw [nI_clamp (by omega)]
    exact (hL s hs hst).2.1
  · refine br_t rfl ?_
    refine tt_yen (br_f g1 (tt_yth (br_f g2 (tt_ylist (by omega) rfl (fun PF' PT' PV' hL => ?_)))))
    refine br_t (nI_pos' (by omega)) ?_
    by_cases q : v3 < 0
    · exact br_t q ⟨rfl, tt_rel he⟩
    · refine br_f q ?_
      obtain ⟨i, hi, rfl⟩ := nI_of q
      by_cases q2 : tt_c (tt_k T F G H V v2 n) 0 100 ≤ i
      · exact br_t (nI_le q2 hi) ⟨rfl, tt_rel he⟩
      · obtain ⟨s, h1, h2, h3⟩ := tt_c_sur 100 (Nat.lt_of_not_le q2)
        exact absurd (congrArg nI h3) (hno s h1 h2)
/-- copy: what the reference asks from here on, it asks at the start -/
def tt_Qc (k : Nat → Option Int32) (t' : Int32) (e : Nat) (T F G H V : Nat → Int32) (j : Nat) (T' F' G' H' V' : Nat → Int32) : Prop :=
  ∀ PF PT PV : Nat → Int32, tt_L k 100 PF PT PV → ∀ yp : Int32 → SY → Prop, (∃ n, wY_copy_46 yp t' n (nI j) (nI (e + j)) (nI (tt_c k 0 100)) T' F' G' H' V' PF PT PV) → (∃ n, wY_copy_46 yp t' n (nI 0) (nI e) (nI (tt_c k 0 100)) T F G H V PF PT PV)
theorem tt_Qc_s {k : Nat → Option Int32} {t' : Int32} {e d : Nat} {v : Int32} {T F G H V T' F' G' H' V' : Nat → Int32} (he : e + tt_c k 0 100 ≤ 40) (hd : d < 100) (hst : tt_st k 0 d = true) (hv : k d = some v) (h : tt_Qc k t' e T F G H V (tt_c k 0 d) T' F' G' H' V') : tt_Qc k t' e T F G H V (tt_c k 0 d + 1) (upd T' (e + tt_c k 0 d) t') (upd F' (e + tt_c k 0 d) (nI d)) (upd G' (e + tt_c k 0 d) (nI (tt_e k d 100))) (upd H' (e + tt_c k 0 d) (vp_nar .boolean 1)) (upd V' (e + tt_c k 0 d) (v + 0)) := by
  intro PF PT PV hL yp ⟨n, hn⟩
  refine h PF PT PV hL yp ⟨n + 1, ?_⟩
  have hlt : tt_c k 0 d < tt_c k 0 100 := tt_c_lt hst hd
  have hc : (nI (tt_c k 0 d)).toNatClampNeg = tt_c k 0 d := nI_clamp (by omega)
  have hi : vp_in (nI (tt_c k 0 d)) 100 := vp_in_nI (by omega) (by omega)
  obtain ⟨l1, l2, l3⟩ := hL d hd hst
  have l4 : PV (tt_c k 0 d) = v := Option.some.inj (l3.trans hv)
  rw [Int32.add_zero] at hn
  rw [wY_copy_46]
  dsimp only
  rw [hc, l1, l2, l4]
  refine br_f (nI_ge hlt (by omega)) ⟨hi, hi, hi, ?_⟩
  exact tt_ymake (by omega) (nm_r (nI_1 _) hn)
theorem i_vc_copy {k : Nat} {u : SX} {v : SY} (I : i_Rel k u v) (hk : k + 4 ≤ 2048) (v1 : Int32) (v2 : Int32) : wpX_copy (fun r u' => wpY_copy (fun r' v' => r' = r ∧ i_Rel (k + 4) u' v') v v1 v2) u v1 v2 := by
  obtain ⟨e, p, T, F, G, H, V, PF, PT, PV, he, rfl, rfl⟩ := I
  unfold wpX_copy wpY_copy
  dsimp only
  refine tt_xth ?_
  refine br_c (fun g1 => ?_) (fun g1 => ?_)
  · exact tt_yth (br_t g1 ⟨rfl, tt_rel he⟩)
  refine tt_xth ?_
  refine br_c (fun g2 => ?_) (fun g2 => ?_)
  · exact tt_yth (br_f g1 (tt_yth (br_t g2 ⟨rfl, tt_rel he⟩)))
  have hc100 : tt_c (tt_k T F G H V v1 e) 0 100 ≤ 100 := tt_c_le 100
  refine tt_xent (a := 0) (b := 100) rfl he (by omega) (by omega) (tt_Qc (tt_k T F G H V v1 e) v2 e T F G H V) (fun hf => ?_) (fun _ => ?_) (fun d w T' F' G' H' V' _ hd hst hw hle hQ => tt_Qc_s hle hd hst hw hQ) (fun T' F' G' H' V' hle hQ => ?_)
  · refine tt_yth (br_f g1 (tt_yth (br_f g2 (tt_ylist he rfl (fun PF' PT' PV' hL => ?_)))))
    refine br_f ?_ ⟨rfl, tt_rel he⟩
    rw [nI_add, ← tt_40]
    exact nI_ge hf (by omega)
  · exact fun PF PT PV _ yp h => h
  · refine tt_yth (br_f g1 (tt_yth (br_f g2 (tt_ylist he rfl (fun PF' PT' PV' hL => ?_)))))
    refine br_t ?_ (hQ PF' PT' PV' hL _ ⟨1, br_t (nI_le (Nat.le_refl _) (by omega)) ⟨rfl, tt_rel hle⟩⟩)
    rw [nI_add, ← tt_40]
    exact nI_le hle (by omega)
end
section
/-- one turn of the reference's raise, as far as its clipped piece -/
theorem tt_yr106 {yp : Int32 → SY → Prop} {th more x7 f : Int32} {a b i s t A B P n : Nat} {T F G H V PF PT PV : Nat → Int32} (hi : i < P) (hP : P ≤ 100) (ha : a ≤ 100) (hb : b ≤ 100) (hs : s ≤ 100) (ht : t ≤ 100) (hPF : PF i = nI s) (hPT : PT i = nI t) (hA : (s ≤ a ∧ A = a) ∨ (a < s ∧ A = s)) (hB : (b ≤ t ∧ B = b) ∨ (t < b ∧ B = t))
    (h : wY_raise_165 yp (wY_raise_106 yp th more (nI a) (nI b) x7 n) th more (nI a) (nI b) x7 (nI i) (nI A) (nI B) f (nI P) T F G H V PF PT PV) : wY_raise_106 yp th more (nI a) (nI b) x7 (n + 1) (nI i) f (nI P) T F G H V PF PT PV := by
  have hc : (nI i).toNatClampNeg = i := nI_clamp (by omega)
  have hin : vp_in (nI i) 100 := vp_in_nI (by omega) (by omega)
  have h139 : wY_raise_139 yp (wY_raise_106 yp th more (nI a) (nI b) x7 n) th more (nI a) (nI b) x7 (nI i) (nI A) f (nI P) T F G H V PF PT PV := by
    unfold wY_raise_139
    rw [hc, hPT]
    refine ⟨hin, ?_⟩
    cases hB with
    | inl q => rw [q.2] at h; exact br_t (nI_le q.1 (by omega)) h
    | inr q => rw [q.2] at h; exact br_f (nI_ge q.1 (by omega)) ⟨hin, h⟩
  rw [wY_raise_106]
  dsimp only
  rw [hc, hPF]
  refine br_f (nI_ge hi (by omega)) ⟨hin, ?_⟩
  cases hA with
  | inl q => rw [q.2] at h139; exact br_t (nI_le q.1 (by omega)) h139
  | inr q => rw [q.2] at h139; exact br_f (nI_ge q.1 (by omega)) ⟨hin, h139⟩
/-- a piece outside the days makes no entry -/
theorem tt_yskip {yp : Int32 → SY → Prop} {th more x7 f : Int32} {a b i n : Nat} {k : Nat → Option Int32} {T F G H V PF PT PV : Nat → Int32} (hab : a < b) (hb : b ≤ 100) (hL : tt_L k 100 PF PT PV) (hi : i < tt_c k 0 100) (ho : i < tt_i0 k a ∨ tt_i0 k a + tt_c k a b ≤ i) (h : wY_raise_106 yp th more (nI a) (nI b) x7 n (nI (i + 1)) f (nI (tt_c k 0 100)) T F G H V PF PT PV) : wY_raise_106 yp th more (nI a) (nI b) x7 (n + 1) (nI i) f (nI (tt_c k 0 100)) T F G H V PF PT PV := by
  have hc100 : tt_c k 0 100 ≤ 100 := tt_c_le 100
  obtain ⟨s, t, hst, ht, hPF, hPT, hG⟩ := tt_G_i hab hb hL hi
  cases hG with
  | inl g =>
    refine tt_yr106 hi hc100 (by omega) hb (by omega) ht hPF hPT (Or.inl ⟨by omega, rfl⟩) (Or.inr ⟨by omega, rfl⟩) ?_
    exact br_t (nI_le g.2 (by omega)) (nm_r (nI_1 i) h)
  | inr g =>
    cases g with
    | inl g =>
      obtain ⟨d, d1, d2, d3, d4, _⟩ := g
      have := tt_c_lt d3 d2
      omega
    | inr g =>
      refine tt_yr106 hi hc100 (by omega) hb (by omega) ht hPF hPT (Or.inr ⟨by omega, rfl⟩) (Or.inl ⟨by omega, rfl⟩) ?_
      exact br_t (nI_le g.2 (by omega)) (nm_r (nI_1 i) h)
theorem tt_yhead {yp : Int32 → SY → Prop} {th more x7 f : Int32} {a b : Nat} {k : Nat → Option Int32} {T F G H V PF PT PV : Nat → Int32} (hab : a < b) (hb : b ≤ 100) (hL : tt_L k 100 PF PT PV) (h : ∃ n, wY_raise_106 yp th more (nI a) (nI b) x7 n (nI (tt_i0 k a)) f (nI (tt_c k 0 100)) T F G H V PF PT PV) : ∀ m i : Nat, i + m = tt_i0 k a → ∃ n, wY_raise_106 yp th more (nI a) (nI b) x7 n (nI i) f (nI (tt_c k 0 100)) T F G H V PF PT PV := by
  intro m
  induction m with
  | zero =>
    intro i hi
    rw [show i = tt_i0 k a from by omega]
    exact h
  | succ m ih =>
    intro i hi
    obtain ⟨n, hn⟩ := ih (i + 1) (by omega)
    have hi0 := tt_i0_b (k := k) hab hb
    exact ⟨n + 1, tt_yskip hab hb hL (by omega) (Or.inl (by omega)) hn⟩
theorem tt_ytail {yp : Int32 → SY → Prop} {th more x7 f : Int32} {a b : Nat} {k : Nat → Option Int32} {T F G H V PF PT PV : Nat → Int32} (hab : a < b) (hb : b ≤ 100) (hL : tt_L k 100 PF PT PV) (h : yp x7 (f, nI (tt_c k 0 100), T, F, G, H, V, PF, PT, PV)) : ∀ m i : Nat, i + m = tt_c k 0 100 → tt_i0 k a + tt_c k a b ≤ i → ∃ n, wY_raise_106 yp th more (nI a) (nI b) x7 n (nI i) f (nI (tt_c k 0 100)) T F G H V PF PT PV := by
  have hc100 : tt_c k 0 100 ≤ 100 := tt_c_le 100
  intro m
  induction m with
  | zero =>
    intro i hi _
    exact ⟨1, br_t (nI_le (by omega) (by omega)) h⟩
  | succ m ih =>
    intro i hi h2
    obtain ⟨n, hn⟩ := ih (i + 1) (by omega) (by omega)
    exact ⟨n + 1, tt_yskip hab hb hL (by omega) (Or.inr h2) hn⟩
/-- raise: what the reference asks from here on, it asks at the start -/
def tt_Qr (k : Nat → Option Int32) (th more : Int32) (e a b : Nat) (T F G H V : Nat → Int32) (j : Nat) (T' F' G' H' V' : Nat → Int32) : Prop :=
  ∀ PF PT PV : Nat → Int32, tt_L k 100 PF PT PV → ∀ yp : Int32 → SY → Prop, (∃ n, wY_raise_106 yp th more (nI a) (nI b) (nI (tt_c k a b)) n (nI (tt_i0 k a + j)) (nI (e + j)) (nI (tt_c k 0 100)) T' F' G' H' V' PF PT PV) → (∃ n, wY_raise_106 yp th more (nI a) (nI b) (nI (tt_c k a b)) n (nI 0) (nI e) (nI (tt_c k 0 100)) T F G H V PF PT PV)
theorem tt_Qr_s {k : Nat → Option Int32} {th more : Int32} {e a b d : Nat} {v : Int32} {T F G H V T' F' G' H' V' : Nat → Int32} (hab : a < b) (hb : b ≤ 100) (he : e + tt_c k a b ≤ 40) (had : a ≤ d) (hd : d < b) (hst : tt_st k a d = true) (hv : k d = some v) (h : tt_Qr k th more e a b T F G H V (tt_c k a d) T' F' G' H' V') : tt_Qr k th more e a b T F G H V (tt_c k a d + 1) (upd T' (e + tt_c k a d) th) (upd F' (e + tt_c k a d) (nI d)) (upd G' (e + tt_c k a d) (nI (tt_e k d b))) (upd H' (e + tt_c k a d) (vp_nar .boolean 1)) (upd V' (e + tt_c k a d) (v + more)) := by
  intro PF PT PV hL yp ⟨n, hn⟩
  refine h PF PT PV hL yp ⟨n + 1, ?_⟩
  have hlt : tt_c k a d < tt_c k a b := tt_c_lt hst hd
  have hi0 := tt_i0_b (k := k) hab hb
  have hc100 : tt_c k 0 100 ≤ 100 := tt_c_le 100
  have hi : tt_i0 k a + tt_c k a d < tt_c k 0 100 := by omega
  have hc : (nI (tt_i0 k a + tt_c k a d)).toNatClampNeg = tt_i0 k a + tt_c k a d := nI_clamp (by omega)
  obtain ⟨s, t, hs, ht, hPF, hPT, hG⟩ := tt_G_i hab hb hL hi
  cases hG with
  | inl g => omega
  | inr g =>
    cases g with
    | inr g => omega
    | inl g =>
      obtain ⟨d', d1, d2, d3, d4, d5, d6, d7⟩ := g
      have ed : d' = d := by
        by_cases q : d' < d
        · have := tt_c_lt d3 q; omega
        · by_cases q2 : d < d'
          · have := tt_c_lt hst q2; omega
          · omega
      rw [ed] at d5 d6 d7
      have hPV : PV (tt_i0 k a + tt_c k a d) = v := Option.some.inj (d7.symm.trans hv)
      obtain ⟨e1, e2, _, _⟩ := tt_E_e (k := k) hd
      refine tt_yr106 hi hc100 (by omega) hb (by omega) ht hPF hPT d5 d6 ?_
      unfold wY_raise_165
      rw [hc, hPV]
      refine br_f (nI_ge e1 (by omega)) ⟨vp_in_nI (by omega) (by omega), ?_⟩
      exact tt_ymake (by omega) (nm_r (nI_1 _) hn)
/-- the reference's count -/
theorem tt_y46 {yp : Int32 → SY → Prop} {th more : Int32} {e a b : Nat} {k : Nat → Option Int32} {T F G H V PF PT PV : Nat → Int32} (hab : a < b) (hb : b ≤ 100) (he : e ≤ 40) (hL : tt_L k 100 PF PT PV)
    (h1 : e + tt_c k a b ≤ 40 → ∃ n, wY_raise_106 yp th more (nI a) (nI b) (nI (tt_c k a b)) n (nI 0) (nI e) (nI (tt_c k 0 100)) T F G H V PF PT PV)
    (h2 : 40 < e + tt_c k a b → yp (-3) (nI e, nI (tt_c k 0 100), T, F, G, H, V, PF, PT, PV)) :
    ∀ m i x : Nat, i + m = tt_c k 0 100 → ((i ≤ tt_i0 k a ∧ x = 0) ∨ (tt_i0 k a ≤ i ∧ i ≤ tt_i0 k a + tt_c k a b ∧ x + tt_i0 k a = i) ∨ (tt_i0 k a + tt_c k a b ≤ i ∧ x = tt_c k a b)) → ∀ n, m < n → wY_raise_46 yp th more (nI a) (nI b) (nI e) (nI (tt_c k 0 100)) T F G H V PF PT PV n (nI x) (nI i) := by
  have hi0 := tt_i0_b (k := k) hab hb
  have hc100 : tt_c k 0 100 ≤ 100 := tt_c_le 100
  intro m
  induction m with
  | zero =>
    intro i x hi hx n hn
    cases n with
    | zero => omega
    | succ n =>
      have ex : x = tt_c k a b := by omega
      subst ex
      refine br_t (nI_le (by omega) (by omega)) ?_
      show (nI e + nI (tt_c k a b) ≤ 40 → _) ∧ (¬ nI e + nI (tt_c k a b) ≤ 40 → _)
      rw [nI_add, ← tt_40, nI_leI (by omega) (by omega)]
      exact br_c h1 (fun q => h2 (by omega))
  | succ m ih =>
    intro i x hi hx n hn
    cases n with
    | zero => omega
    | succ n =>
      have hc : (nI i).toNatClampNeg = i := nI_clamp (by omega)
      have hin : vp_in (nI i) 100 := vp_in_nI (by omega) (by omega)
      obtain ⟨s, t, hst, ht, hPF, hPT, hG⟩ := tt_G_i hab hb hL (by omega : i < tt_c k 0 100)
      rw [wY_raise_46]
      dsimp only
      rw [hc, hPF, hPT]
      refine br_f (nI_ge (by omega) (by omega)) ⟨hin, ?_⟩
      cases hG with
      | inl g =>
        exact br_t (nI_le g.2 (by omega)) (nm_r (nI_1 i) (ih (i + 1) x (by omega) (by omega) n (by omega)))
      | inr g =>
        cases g with
        | inl g =>
          obtain ⟨d, d1, d2, d3, d4, d5, d6, d7⟩ := g
          have hlt := tt_c_lt d3 d2
          obtain ⟨e1, e2, _, _⟩ := tt_E_e (k := k) d2
          refine br_f (nI_ge (by omega) (by omega)) ⟨hin, br_f (nI_ge (by omega) (by omega)) ?_⟩
          exact nm_r (nI_1 x) (nm_r (nI_1 i) (ih (i + 1) (x + 1) (by omega) (by omega) n (by omega)))
        | inr g =>
          refine br_f (nI_ge (by omega) (by omega)) ⟨hin, br_t (nI_le g.2 (by omega)) ?_⟩
          exact nm_r (nI_1 i) (ih (i + 1) x (by omega) (by omega) n (by omega))
theorem i_vc_raise {k : Nat} {u : SX} {v : SY} (I : i_Rel k u v) (hk : k + 4 ≤ 2048) (v1 : Int32) (v2 : Int32) (v3 : Int32) : wpX_raise (fun r u' => wpY_raise (fun r' v' => r' = r ∧ i_Rel (k + 4) u' v') v v1 v2 v3) u v1 v2 v3 := by
  obtain ⟨e, p, T, F, G, H, V, PF, PT, PV, he, rfl, rfl⟩ := I
  unfold wpX_raise wpY_raise wpX_firstOf wpX_behindLastOf
  dsimp only
  refine tt_xth ?_
  refine br_c (fun g1 => ?_) (fun g1 => ?_)
  · refine tt_yrf ?_
    rw [show tt_rf v1 v2 = -1 from if_pos g1]
    exact br_f (by decide) ⟨rfl, tt_rel he⟩
  refine tt_xds ?_
  refine br_c (fun g2 => ?_) (fun g2 => ?_)
  · refine tt_yrf ?_
    rw [show tt_rf v1 v2 = -2 from (if_neg g1).trans (if_pos g2)]
    exact br_f (by decide) ⟨rfl, tt_rel he⟩
  have hrf : tt_rf v1 v2 = 0 := (if_neg g1).trans (if_neg g2)
  obtain ⟨a, b, hab, hb, ea, eb⟩ := tt_gd_of g2
  unfold tt_fr at ea
  unfold tt_to at eb
  rw [ea, eb]
  have hi0 := tt_i0_b (k := tt_k T F G H V v1 e) hab hb
  refine tt_xent (a := a) (b := b) rfl he (by omega) (by omega) (tt_Qr (tt_k T F G H V v1 e) v1 v3 e a b T F G H V) (fun hf => ?_) (fun _ => ?_) (fun d w T' F' G' H' V' had hd hst hw hle hQ => tt_Qr_s hab hb hle had hd hst hw hQ) (fun T' F' G' H' V' hle hQ => ?_)
  · refine tt_yrf ?_
    rw [hrf]
    refine br_t (by decide) (nm_e (nm_e (tt_ylist he rfl (fun PF' PT' PV' hL => ?_))))
    refine ⟨_, tt_y46 hab hb he hL (fun q => absurd q (by omega)) (fun _ => ⟨rfl, tt_rel he⟩) _ 0 0 (Nat.zero_add _) (Or.inl ⟨Nat.zero_le _, rfl⟩) (tt_c (tt_k T F G H V v1 e) 0 100 + 1) (Nat.lt_succ_self _)⟩
  · exact fun PF PT PV hL yp h => tt_yhead hab hb hL h _ 0 (Nat.zero_add _)
  · refine tt_yrf ?_
    rw [hrf]
    refine br_t (by decide) (nm_e (nm_e (tt_ylist he rfl (fun PF' PT' PV' hL => ?_))))
    refine ⟨_, tt_y46 hab hb he hL (fun _ => ?_) (fun q => absurd hle (by omega)) _ 0 0 (Nat.zero_add _) (Or.inl ⟨Nat.zero_le _, rfl⟩) (tt_c (tt_k T F G H V v1 e) 0 100 + 1) (Nat.lt_succ_self _)⟩
    exact hQ PF' PT' PV' hL _ (tt_ytail hab hb hL ⟨rfl, tt_rel hle⟩ (tt_c (tt_k T F G H V v1 e) 0 100 - (tt_i0 (tt_k T F G H V v1 e) a + tt_c (tt_k T F G H V v1 e) a b)) _ (by omega) (Nat.le_refl _))
end
section
theorem i_up {k : Nat} {u : SX} {v : SY} (h : i_Rel k u v) : i_Rel (k + 4) u v := h
theorem i_vc0 : wpX_init (fun u => wpY_init (fun v => i_Rel 0 u v)) := tt_rel (k := 0) (e := 0) (Nat.zero_le _)
theorem i_vc_clear {k : Nat} {u : SX} {v : SY} (I : i_Rel k u v) (hk : k + 4 ≤ 2048) : wpX_clear (fun u' => wpY_clear (fun v' => i_Rel (k + 4) u' v') v) u := by
  obtain ⟨e, p, T, F, G, H, V, PF, PT, PV, he, rfl, rfl⟩ := I
  exact tt_rel (k := k + 4) (e := 0) (Nat.zero_le _)
end
