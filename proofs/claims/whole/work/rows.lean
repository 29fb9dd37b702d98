section
theorem pk_us {f : Nat → Int32} {k : Nat} {x : Int32} : upd f k x k = x := if_pos rfl
theorem pk_un {f : Nat → Int32} {k j : Nat} {x : Int32} (h : j ≠ k) : upd f k x j = f j := if_neg h
theorem pk_m1 (n : Nat) : nI (n + 1) + (-1) = nI n := by
  rw [← nI_1, Int32.add_assoc, show (1 : Int32) + (-1) = 0 from rfl, Int32.add_zero]
theorem pk_ix (x : Int32) {n : Nat} (hn : n < 2 ^ 31) : x < 0 ∨ nI n ≤ x ∨ ∃ j : Nat, j < n ∧ x = nI j := by
  by_cases h : x < 0
  · exact Or.inl h
  · obtain ⟨j, hj, rfl⟩ := nI_of h
    by_cases h2 : j < n
    · exact Or.inr (Or.inr ⟨j, h2, rfl⟩)
    · exact Or.inr (Or.inl (nI_le (by omega) hj))
theorem pk_le {x y : Int32} {A B : Prop} (a b : Nat) (f : a ≤ b → A) (g : b < a → B) (hx : x = nI a := by rfl) (hy : y = nI b := by rfl) (ha : a < 2 ^ 31 := by omega) (hb : b < 2 ^ 31 := by omega) : (x ≤ y → A) ∧ (¬ x ≤ y → B) := by
  subst hx hy
  rw [nI_leI ha hb]
  exact ⟨f, fun z => g (by omega)⟩
theorem pk_lt {x y : Int32} {A B : Prop} (a b : Nat) (f : a < b → A) (g : b ≤ a → B) (hx : x = nI a := by rfl) (hy : y = nI b := by rfl) (ha : a < 2 ^ 31 := by omega) (hb : b < 2 ^ 31 := by omega) : (x < y → A) ∧ (¬ x < y → B) := by
  subst hx hy
  rw [nI_ltI ha hb]
  exact ⟨f, fun z => g (by omega)⟩
theorem pk_eq {x y : Int32} {A B : Prop} (a b : Nat) (f : a = b → A) (g : a ≠ b → B) (hx : x = nI a := by rfl) (hy : y = nI b := by rfl) (ha : a < 2 ^ 31 := by omega) (hb : b < 2 ^ 31 := by omega) : (x = y → A) ∧ (¬ x = y → B) := by
  subst hx hy
  rw [nI_eq ha hb]
  exact ⟨f, g⟩
theorem pk_in {x : Int32} (n N : Nat) (h : n < N) (hx : x = nI n := by rfl) (hN : N < 2 ^ 31 := by omega) : vp_in x N := by
  subst hx
  exact vp_in_nI h hN
theorem pk_cl {x : Int32} (n : Nat) (hx : x = nI n := by rfl) (h : n < 2 ^ 31 := by omega) : x.toNatClampNeg = n := by
  subst hx
  exact nI_clamp h
theorem pk_tn {n : Nat} (h : n < 2 ^ 32) : (nI n).toBitVec.toNat = n := Nat.mod_eq_of_lt h
theorem pk_and (x : Int32) {m : Int32} (k : Nat) (hm : m.toBitVec.toNat = 2 ^ k - 1) : x &&& m = nI (x.toBitVec.toNat % 2 ^ k) := by
  apply Int32.toBitVec_inj.mp
  apply BitVec.eq_of_toNat_eq
  rw [Int32.toBitVec_and, BitVec.toNat_and, hm, Nat.and_two_pow_sub_one_eq_mod]
  show _ = (BitVec.ofNat 32 _).toNat
  rw [BitVec.toNat_ofNat]
  exact (Nat.mod_eq_of_lt (Nat.lt_of_le_of_lt (Nat.mod_le _ _) x.toBitVec.isLt)).symm
theorem pk_andE (x : Int32) {m : Int32} (k : Nat) (hm : m.toBitVec.toNat = 2 ^ k - 1) : ∃ j : Nat, j < 2 ^ k ∧ x &&& m = nI j := ⟨_, Nat.mod_lt _ (Nat.two_pow_pos k), pk_and x k hm⟩
end
section
/-- the entry among the first n that speaks of the day d of the thing t -/
def tt_sp (T F G : Nat → Int32) (t d : Int32) : Nat → Option Nat
  | 0 => none
  | n + 1 => if T n = t then (if d < F n then tt_sp T F G t d n else if G n ≤ d then tt_sp T F G t d n else some n) else tt_sp T F G t d n
/-- the same entry, where it has a value -/
def tt_so (T F G H : Nat → Int32) (t d : Int32) (n : Nat) : Option Nat := (tt_sp T F G t d n).bind (fun j => if H j = 0 then none else some j)
/-- the value known -/
def tt_kn (T F G H V : Nat → Int32) (t d : Int32) (n : Nat) : Option Int32 := (tt_so T F G H t d n).map V
def tt_en : Option Nat → Int32
  | none => -1
  | some j => nI j
def tt_k1 : Option Int32 → Int32
  | none => 0
  | some _ => 1
def tt_v5 : Option Int32 → Int32
  | none => -5
  | some v => v
theorem tt_sp_s1 {T F G : Nat → Int32} {t d : Int32} {m : Nat} (h : ¬ T m = t) : tt_sp T F G t d (m + 1) = tt_sp T F G t d m := by
  rw [tt_sp, if_neg h]
theorem tt_sp_s2 {T F G : Nat → Int32} {t d : Int32} {m : Nat} (h : T m = t) (h2 : d < F m) : tt_sp T F G t d (m + 1) = tt_sp T F G t d m := by
  rw [tt_sp, if_pos h, if_pos h2]
theorem tt_sp_s3 {T F G : Nat → Int32} {t d : Int32} {m : Nat} (h : T m = t) (h2 : ¬ d < F m) (h3 : G m ≤ d) : tt_sp T F G t d (m + 1) = tt_sp T F G t d m := by
  rw [tt_sp, if_pos h, if_neg h2, if_pos h3]
theorem tt_sp_s4 {T F G : Nat → Int32} {t d : Int32} {m : Nat} (h : T m = t) (h2 : ¬ d < F m) (h3 : ¬ G m ≤ d) : tt_sp T F G t d (m + 1) = some m := by
  rw [tt_sp, if_pos h, if_neg h2, if_neg h3]
theorem tt_sp_lt {T F G : Nat → Int32} {t d : Int32} : ∀ {n j : Nat}, tt_sp T F G t d n = some j → j < n := by
  intro n
  induction n with
  | zero => intro j h; exact nomatch h
  | succ n ih =>
    intro j h
    by_cases h1 : T n = t
    · by_cases h2 : d < F n
      · rw [tt_sp_s2 h1 h2] at h
        have := ih h
        omega
      · by_cases h3 : G n ≤ d
        · rw [tt_sp_s3 h1 h2 h3] at h
          have := ih h
          omega
        · rw [tt_sp_s4 h1 h2 h3] at h
          cases h
          omega
    · rw [tt_sp_s1 h1] at h
      have := ih h
      omega
theorem tt_so_lt {T F G H : Nat → Int32} {t d : Int32} {n j : Nat} (h : tt_so T F G H t d n = some j) : j < n := by
  unfold tt_so at h
  cases e : tt_sp T F G t d n with
  | none => rw [e] at h; exact nomatch h
  | some i =>
    rw [e] at h
    have hi := tt_sp_lt e
    by_cases z : H i = 0
    · have h' : (if H i = 0 then none else some i) = some j := h
      rw [if_pos z] at h'
      exact nomatch h'
    · have h' : (if H i = 0 then none else some i) = some j := h
      rw [if_neg z] at h'
      cases h'
      exact hi
theorem tt_sp_congr {T F G T' F' G' : Nat → Int32} {t d : Int32} : ∀ n : Nat, (∀ j, j < n → T' j = T j ∧ F' j = F j ∧ G' j = G j) → tt_sp T' F' G' t d n = tt_sp T F G t d n := by
  intro n
  induction n with
  | zero => intro _; rfl
  | succ n ih =>
    intro h
    have ⟨a, b, c⟩ := h n (by omega)
    rw [tt_sp, tt_sp, a, b, c, ih (fun j hj => h j (by omega))]
/-- the arrays agree below n -/
def tt_ag (n : Nat) (T F G H V T' F' G' H' V' : Nat → Int32) : Prop := ∀ j, j < n → T' j = T j ∧ F' j = F j ∧ G' j = G j ∧ H' j = H j ∧ V' j = V j
theorem tt_so_congr {T F G H V T' F' G' H' V' : Nat → Int32} {t d : Int32} {n : Nat} (h : tt_ag n T F G H V T' F' G' H' V') : tt_so T' F' G' H' t d n = tt_so T F G H t d n := by
  unfold tt_so
  rw [tt_sp_congr n (fun j hj => ⟨(h j hj).1, (h j hj).2.1, (h j hj).2.2.1⟩)]
  cases e : tt_sp T F G t d n with
  | none => rfl
  | some i =>
    show (if H' i = 0 then none else some i) = (if H i = 0 then none else some i)
    rw [(h i (tt_sp_lt e)).2.2.2.1]
theorem tt_kn_congr {T F G H V T' F' G' H' V' : Nat → Int32} {t d : Int32} {n : Nat} (h : tt_ag n T F G H V T' F' G' H' V') : tt_kn T' F' G' H' V' t d n = tt_kn T F G H V t d n := by
  unfold tt_kn
  rw [tt_so_congr h]
  cases e : tt_so T F G H t d n with
  | none => rfl
  | some i => exact congrArg some (h i (tt_so_lt e)).2.2.2.2
theorem tt_kn_n {T F G H V : Nat → Int32} {t d : Int32} {n : Nat} (h : tt_sp T F G t d n = none) : tt_kn T F G H V t d n = none := by
  unfold tt_kn tt_so
  rw [h]
  rfl
theorem tt_kn_0 {T F G H V : Nat → Int32} {t d : Int32} {n j : Nat} (h : tt_sp T F G t d n = some j) (z : H j = 0) : tt_kn T F G H V t d n = none := by
  unfold tt_kn tt_so
  rw [h]
  show Option.map V (if H j = 0 then none else some j) = none
  rw [if_pos z]
  rfl
theorem tt_kn_1 {T F G H V : Nat → Int32} {t d : Int32} {n j : Nat} (h : tt_sp T F G t d n = some j) (z : ¬ H j = 0) : tt_kn T F G H V t d n = some (V j) := by
  unfold tt_kn tt_so
  rw [h]
  show Option.map V (if H j = 0 then none else some j) = some (V j)
  rw [if_neg z]
  rfl
theorem tt_nm1 {j : Nat} (h : j < 2 ^ 31) : ¬ nI j = -1 := fun e => nI_pos h (by rw [e]; decide)
theorem tt_nm5 {j : Nat} (h : j < 2 ^ 31) : ¬ nI j = -5 := fun e => nI_pos h (by rw [e]; decide)
theorem tt_dec (x : Int32) : x + (-1) = x - 1 := (Int32.sub_eq_add_neg x 1).symm
theorem tt_40 : nI 40 = 40 := by decide +kernel
theorem tt_100 : nI 100 = 100 := by decide +kernel
theorem tt_6 : nI 6 = 6 := by decide +kernel
end
section
/-- a piece, cut off ahead of the day a, begins at d -/
def tt_st (k : Nat → Option Int32) (a d : Nat) : Bool := decide (a ≤ d) && (decide (k d ≠ none) && (decide (d = a) || decide (k (d - 1) ≠ k d)))
theorem tt_st_iff {k : Nat → Option Int32} {a d : Nat} : tt_st k a d = true ↔ a ≤ d ∧ k d ≠ none ∧ (d = a ∨ k (d - 1) ≠ k d) := by
  simp only [tt_st, Bool.and_eq_true, Bool.or_eq_true, decide_eq_true_eq]
/-- how many begin in [a, d) -/
def tt_c (k : Nat → Option Int32) (a : Nat) : Nat → Nat
  | 0 => 0
  | d + 1 => tt_c k a d + (if tt_st k a d = true then 1 else 0)
theorem tt_c_s {k : Nat → Option Int32} {a d : Nat} (h : tt_st k a d = true) : tt_c k a (d + 1) = tt_c k a d + 1 := by
  rw [tt_c, if_pos h]
theorem tt_c_n {k : Nat → Option Int32} {a d : Nat} (h : ¬ tt_st k a d = true) : tt_c k a (d + 1) = tt_c k a d := by
  rw [tt_c, if_neg h]; rfl
theorem tt_c_up {k : Nat → Option Int32} {a d : Nat} : tt_c k a d ≤ tt_c k a (d + 1) := by
  rw [tt_c]; omega
theorem tt_c_add {k : Nat → Option Int32} {a d : Nat} : ∀ m : Nat, tt_c k a d ≤ tt_c k a (d + m) := by
  intro m
  induction m with
  | zero => exact Nat.le_refl _
  | succ m ih => exact Nat.le_trans ih tt_c_up
theorem tt_c_mono {k : Nat → Option Int32} {a d d' : Nat} (h : d ≤ d') : tt_c k a d ≤ tt_c k a d' := by
  obtain ⟨m, rfl⟩ := Nat.exists_eq_add_of_le h
  exact tt_c_add m
theorem tt_c_le {k : Nat → Option Int32} {a : Nat} : ∀ d : Nat, tt_c k a d ≤ d := by
  intro d
  induction d with
  | zero => exact Nat.le_refl _
  | succ d ih =>
    by_cases h : tt_st k a d = true
    · rw [tt_c_s h]; omega
    · rw [tt_c_n h]; omega
theorem tt_c_lt {k : Nat → Option Int32} {a s d : Nat} (h : tt_st k a s = true) (hd : s < d) : tt_c k a s < tt_c k a d := by
  have h1 := tt_c_s h
  have h2 : tt_c k a (s + 1) ≤ tt_c k a d := tt_c_mono hd
  omega
theorem tt_c_a {k : Nat → Option Int32} {a : Nat} : ∀ d : Nat, d ≤ a → tt_c k a d = 0 := by
  intro d
  induction d with
  | zero => intro _; rfl
  | succ d ih =>
    intro h
    rw [tt_c_n (fun z => by have := (tt_st_iff.mp z).1; omega)]
    exact ih (by omega)
theorem tt_c_sur {k : Nat → Option Int32} {a i : Nat} : ∀ d : Nat, i < tt_c k a d → ∃ s, s < d ∧ tt_st k a s = true ∧ tt_c k a s = i := by
  intro d
  induction d with
  | zero => intro h; exact absurd h (Nat.not_lt_zero _)
  | succ d ih =>
    intro h
    by_cases z : tt_st k a d = true
    · rw [tt_c_s z] at h
      by_cases e : i = tt_c k a d
      · exact ⟨d, by omega, z, e.symm⟩
      · obtain ⟨s, h1, h2, h3⟩ := ih (by omega)
        exact ⟨s, by omega, h2, h3⟩
    · rw [tt_c_n z] at h
      obtain ⟨s, h1, h2, h3⟩ := ih h
      exact ⟨s, by omega, h2, h3⟩
/-- the piece that the day d lies in begins at some s -/
theorem tt_last {k : Nat → Option Int32} : ∀ d : Nat, k d ≠ none → ∃ s, s ≤ d ∧ tt_st k 0 s = true ∧ tt_c k 0 s + 1 = tt_c k 0 (d + 1) ∧ ∀ j, s ≤ j → j ≤ d → k j = k d := by
  intro d
  induction d with
  | zero =>
    intro h
    have z : tt_st k 0 0 = true := tt_st_iff.mpr ⟨Nat.le_refl _, h, Or.inl rfl⟩
    exact ⟨0, Nat.le_refl _, z, (tt_c_s z).symm, fun j _ hj => by rw [show j = 0 from by omega]⟩
  | succ d ih =>
    intro h
    by_cases z : tt_st k 0 (d + 1) = true
    · exact ⟨d + 1, Nat.le_refl _, z, (tt_c_s z).symm, fun j h1 h2 => by rw [show j = d + 1 from by omega]⟩
    · have e : k d = k (d + 1) := by
        by_cases e : k d = k (d + 1)
        · exact e
        · exact absurd (tt_st_iff.mpr ⟨Nat.zero_le _, h, Or.inr e⟩) z
      obtain ⟨s, h1, h2, h3, h4⟩ := ih (by rw [e]; exact h)
      refine ⟨s, by omega, h2, by rw [tt_c_n z]; exact h3, fun j hj hj2 => ?_⟩
      by_cases q : j = d + 1
      · rw [q]
      · rw [h4 j hj (by omega), e]
/-- the end of a piece -/
def tt_fe (k : Nat → Option Int32) (v : Option Int32) : Nat → Nat → Nat
  | 0, d => d
  | n + 1, d => if v = k d then tt_fe k v n (d + 1) else d
def tt_e (k : Nat → Option Int32) (s b : Nat) : Nat := tt_fe k (k s) (b - (s + 1)) (s + 1)
theorem tt_fe_spec {k : Nat → Option Int32} {v : Option Int32} : ∀ n d : Nat, d ≤ tt_fe k v n d ∧ tt_fe k v n d ≤ d + n ∧ (∀ j, d ≤ j → j < tt_fe k v n d → k j = v) ∧ (tt_fe k v n d < d + n → k (tt_fe k v n d) ≠ v) := by
  intro n
  induction n with
  | zero =>
    intro d
    rw [tt_fe]
    exact ⟨Nat.le_refl _, Nat.le_refl _, fun j h1 h2 => by omega, fun h => by omega⟩
  | succ n ih =>
    intro d
    by_cases h : v = k d
    · rw [tt_fe, if_pos h]
      obtain ⟨h1, h2, h3, h4⟩ := ih (d + 1)
      refine ⟨by omega, by omega, fun j a b => ?_, fun z => h4 (by omega)⟩
      by_cases q : j = d
      · rw [q]; exact h.symm
      · exact h3 j (by omega) b
    · rw [tt_fe, if_neg h]
      exact ⟨Nat.le_refl _, by omega, fun j h1 h2 => by omega, fun _ z => h z.symm⟩
def tt_E (k : Nat → Option Int32) (s b e : Nat) : Prop := s < e ∧ e ≤ b ∧ (∀ j, s ≤ j → j < e → k j = k s) ∧ (e < b → k e ≠ k s)
theorem tt_E_e {k : Nat → Option Int32} {s b : Nat} (h : s < b) : tt_E k s b (tt_e k s b) := by
  obtain ⟨h1, h2, h3, h4⟩ := tt_fe_spec (k := k) (v := k s) (b - (s + 1)) (s + 1)
  have e : tt_e k s b = tt_fe k (k s) (b - (s + 1)) (s + 1) := rfl
  rw [← e] at h1 h2 h3 h4
  refine ⟨by omega, by omega, fun j a c => ?_, fun z => h4 (by omega)⟩
  by_cases q : j = s
  · rw [q]
  · exact h3 j (by omega) c
theorem tt_E_u {k : Nat → Option Int32} {s b e e' : Nat} (h : tt_E k s b e) (h' : tt_E k s b e') : e = e' := by
  obtain ⟨h1, h2, h3, h4⟩ := h
  obtain ⟨g1, g2, g3, g4⟩ := h'
  by_cases q : e < e'
  · exact absurd (g3 e (by omega) q) (h4 (by omega))
  · by_cases q' : e' < e
    · exact absurd (h3 e' (by omega) q') (g4 (by omega))
    · omega
theorem tt_e_u {k : Nat → Option Int32} {s b e : Nat} (h : tt_E k s b e) : tt_e k s b = e := tt_E_u (tt_E_e (Nat.lt_of_lt_of_le h.1 h.2.1)) h
theorem tt_e_keep {k : Nat → Option Int32} {s d j : Nat} (hs : s < d) (h1 : s ≤ j) (h2 : j ≤ d) (hk : k j ≠ k s) : tt_e k s (d + 1) = tt_e k s d := by
  obtain ⟨e1, e2, e3, e4⟩ := tt_E_e (k := k) hs
  refine tt_e_u ⟨e1, by omega, e3, fun _ => ?_⟩
  by_cases q : tt_e k s d < d
  · exact e4 q
  · have q1 : tt_e k s d = d := by omega
    rw [q1]
    by_cases q2 : j = d
    · rw [← q2]; exact hk
    · exact absurd (e3 j h1 (by omega)) hk
theorem tt_e_ext {k : Nat → Option Int32} {s d : Nat} (hs : s ≤ d) (h : ∀ j, s ≤ j → j ≤ d → k j = k s) : tt_e k s (d + 1) = d + 1 :=
  tt_e_u ⟨by omega, Nat.le_refl _, fun j a b => h j a (by omega), fun z => absurd z (Nat.lt_irrefl _)⟩
theorem tt_split {k : Nat → Option Int32} {a s s' : Nat} (hs : s < s') (ha : a ≤ s) (h : tt_st k a s' = true) : ∃ j, s ≤ j ∧ j ≤ s' ∧ k j ≠ k s := by
  obtain ⟨_, _, h3⟩ := tt_st_iff.mp h
  have h4 : k (s' - 1) ≠ k s' := by
    cases h3 with
    | inl z => omega
    | inr z => exact z
  by_cases e : k s' = k s
  · exact ⟨s' - 1, by omega, by omega, by rw [← e]; exact h4⟩
  · exact ⟨s', by omega, Nat.le_refl _, e⟩
theorem tt_e_min {k : Nat → Option Int32} {s b b' : Nat} (hs : s < b) (hb : b ≤ b') : (b ≤ tt_e k s b' ∧ tt_e k s b = b) ∨ (tt_e k s b' < b ∧ tt_e k s b = tt_e k s b') := by
  obtain ⟨e1, e2, e3, e4⟩ := tt_E_e (k := k) (Nat.lt_of_lt_of_le hs hb)
  by_cases q : b ≤ tt_e k s b'
  · exact Or.inl ⟨q, tt_e_u ⟨hs, Nat.le_refl _, fun j h1 h2 => e3 j h1 (by omega), fun z => absurd z (Nat.lt_irrefl _)⟩⟩
  · exact Or.inr ⟨by omega, tt_e_u ⟨e1, by omega, e3, fun _ => e4 (by omega)⟩⟩
/-- the reference's list of pieces, as far as the day d -/
def tt_L (k : Nat → Option Int32) (d : Nat) (PF PT PV : Nat → Int32) : Prop := ∀ s, s < d → tt_st k 0 s = true → PF (tt_c k 0 s) = nI s ∧ PT (tt_c k 0 s) = nI (tt_e k s d) ∧ some (PV (tt_c k 0 s)) = k s
theorem tt_L_none {k : Nat → Option Int32} {d : Nat} {PF PT PV : Nat → Int32} (hk : k d = none) (h : tt_L k d PF PT PV) : tt_L k (d + 1) PF PT PV := by
  intro s hs z
  have q : s ≠ d := fun q => (tt_st_iff.mp z).2.1 (by rw [q]; exact hk)
  obtain ⟨h1, h2, h3⟩ := h s (by omega) z
  refine ⟨h1, ?_, h3⟩
  rw [tt_e_keep (by omega : s < d) (j := d) (by omega) (Nat.le_refl _) (by rw [hk]; exact fun z2 => (tt_st_iff.mp z).2.1 z2.symm)]
  exact h2
theorem tt_L_new {k : Nat → Option Int32} {d : Nat} {PF PT PV : Nat → Int32} {v : Int32} (hd : tt_st k 0 d = true) (hk : k d = some v) (h : tt_L k d PF PT PV) : tt_L k (d + 1) (upd PF (tt_c k 0 d) (nI d)) (upd PT (tt_c k 0 d) (nI (d + 1))) (upd PV (tt_c k 0 d) v) := by
  intro s hs z
  by_cases q : s = d
  · subst q
    refine ⟨pk_us, ?_, ?_⟩
    · rw [pk_us, tt_e_ext (Nat.le_refl _) (fun j a b => by rw [show j = s from by omega])]
    · rw [pk_us, hk]
  · have hl : tt_c k 0 s < tt_c k 0 d := tt_c_lt z (by omega)
    obtain ⟨h1, h2, h3⟩ := h s (by omega) z
    obtain ⟨j, j1, j2, j3⟩ := tt_split (by omega : s < d) (Nat.zero_le _) hd
    refine ⟨by rw [pk_un (by omega)]; exact h1, ?_, by rw [pk_un (by omega)]; exact h3⟩
    rw [pk_un (by omega), tt_e_keep (by omega : s < d) j1 j2 j3]
    exact h2
theorem tt_L_ext {k : Nat → Option Int32} {d s0 : Nat} {PF PT PV : Nat → Int32} (h0 : s0 < d) (hs0 : tt_st k 0 s0 = true) (hc : tt_c k 0 s0 + 1 = tt_c k 0 d) (hj : ∀ j, s0 ≤ j → j ≤ d → k j = k s0) (h : tt_L k d PF PT PV) : tt_L k (d + 1) PF (upd PT (tt_c k 0 s0) (nI (d + 1))) PV := by
  intro s hs z
  have q : s ≠ d := by
    intro q
    obtain ⟨_, _, h3⟩ := tt_st_iff.mp z
    cases h3 with
    | inl e => omega
    | inr e => exact e (by rw [hj s (by omega) (by omega), hj (s - 1) (by omega) (by omega)])
  obtain ⟨h1, h2, h3⟩ := h s (by omega) z
  by_cases q0 : s = s0
  · subst q0
    refine ⟨h1, ?_, h3⟩
    rw [pk_us, tt_e_ext (by omega) hj]
  · have hl : tt_c k 0 s < tt_c k 0 d := tt_c_lt z (by omega)
    have hl2 : s < s0 := by
      by_cases q1 : s < s0
      · exact q1
      · have := tt_c_lt hs0 (by omega : s0 < s)
        omega
    have hl3 := tt_c_lt z hl2
    obtain ⟨j, j1, j2, j3⟩ := tt_split hl2 (Nat.zero_le _) hs0
    refine ⟨h1, ?_, h3⟩
    rw [pk_un (by omega), tt_e_keep (by omega : s < d) j1 (by omega) j3]
    exact h2
end
section
theorem tt_zz : True := trivial
end
