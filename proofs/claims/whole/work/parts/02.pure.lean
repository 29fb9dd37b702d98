/-- the entry among the first n that speaks of the day d of the thing t -/
def tt_sp (T F G : Nat → Int32) (t d : Int32) : Nat → Option Nat
  | 0 => none
  | n + 1 => if T n = t then (if d < F n then tt_sp T F G t d n else if G n ≤ d then tt_sp T F G t d n else some n) else tt_sp T F G t d n
/-- the same entry, where it has a value -/
def tt_so (T F G H : Nat → Int32) (t d : Int32) (n : Nat) : Option Nat := (tt_sp T F G t d n).bind (fun j => if H j = 0 then none else some j)
/-- the value known -/
def tt_kn (T F G H V : Nat → Int32) (t d : Int32) (n : Nat) : Option Int32 := (tt_so T F G H t d n).map V
def tt_en : Option Nat → Int32
  | none => -1
  | some j => nI j
def tt_k1 : Option Int32 → Int32
  | none => 0
  | some _ => 1
def tt_v5 : Option Int32 → Int32
  | none => -5
  | some v => v
theorem tt_sp_s1 {T F G : Nat → Int32} {t d : Int32} {m : Nat} (h : ¬ T m = t) : tt_sp T F G t d (m + 1) = tt_sp T F G t d m := by
  rw [tt_sp, if_neg h]
theorem tt_sp_s2 {T F G : Nat → Int32} {t d : Int32} {m : Nat} (h : T m = t) (h2 : d < F m) : tt_sp T F G t d (m + 1) = tt_sp T F G t d m := by
  rw [tt_sp, if_pos h, if_pos h2]
theorem tt_sp_s3 {T F G : Nat → Int32} {t d : Int32} {m : Nat} (h : T m = t) (h2 : ¬ d < F m) (h3 : G m ≤ d) : tt_sp T F G t d (m + 1) = tt_sp T F G t d m := by
  rw [tt_sp, if_pos h, if_neg h2, if_pos h3]
theorem tt_sp_s4 {T F G : Nat → Int32} {t d : Int32} {m : Nat} (h : T m = t) (h2 : ¬ d < F m) (h3 : ¬ G m ≤ d) : tt_sp T F G t d (m + 1) = some m := by
  rw [tt_sp, if_pos h, if_neg h2, if_neg h3]
theorem tt_sp_lt {T F G : Nat → Int32} {t d : Int32} : ∀ {n j : Nat}, tt_sp T F G t d n = some j → j < n := by
  intro n
  induction n with
  | zero => intro j h; exact nomatch h
  | succ n ih =>
    intro j h
    by_cases h1 : T n = t
    · by_cases h2 : d < F n
      · rw [tt_sp_s2 h1 h2] at h
        have := ih h
        omega
      · by_cases h3 : G n ≤ d
        · rw [tt_sp_s3 h1 h2 h3] at h
          have := ih h
          omega
        · rw [tt_sp_s4 h1 h2 h3] at h
          cases h
          omega
    · rw [tt_sp_s1 h1] at h
      have := ih h
      omega
theorem tt_so_lt {T F G H : Nat → Int32} {t d : Int32} {n j : Nat} (h : tt_so T F G H t d n = some j) : j < n := by
  unfold tt_so at h
  cases e : tt_sp T F G t d n with
  | none => rw [e] at h; exact nomatch h
  | some i =>
    rw [e] at h
    have hi := tt_sp_lt e
    by_cases z : H i = 0
    · have h' : (if H i = 0 then none else some i) = some j := h
      rw [if_pos z] at h'
      exact nomatch h'
    · have h' : (if H i = 0 then none else some i) = some j := h
      rw [if_neg z] at h'
      cases h'
      exact hi
theorem tt_sp_congr {T F G T' F' G' : Nat → Int32} {t d : Int32} : ∀ n : Nat, (∀ j, j < n → T' j = T j ∧ F' j = F j ∧ G' j = G j) → tt_sp T' F' G' t d n = tt_sp T F G t d n := by
  intro n
  induction n with
  | zero => intro _; rfl
  | succ n ih =>
    intro h
    have ⟨a, b, c⟩ := h n (by omega)
    rw [tt_sp, tt_sp, a, b, c, ih (fun j hj => h j (by omega))]
/-- the arrays agree below n -/
def tt_ag (n : Nat) (T F G H V T' F' G' H' V' : Nat → Int32) : Prop := ∀ j, j < n → T' j = T j ∧ F' j = F j ∧ G' j = G j ∧ H' j = H j ∧ V' j = V j
theorem tt_so_congr {T F G H V T' F' G' H' V' : Nat → Int32} {t d : Int32} {n : Nat} (h : tt_ag n T F G H V T' F' G' H' V') : tt_so T' F' G' H' t d n = tt_so T F G H t d n := by
  unfold tt_so
  rw [tt_sp_congr n (fun j hj => ⟨(h j hj).1, (h j hj).2.1, (h j hj).2.2.1⟩)]
  cases e : tt_sp T F G t d n with
  | none => rfl
  | some i =>
    show (if H' i = 0 then none else some i) = (if H i = 0 then none else some i)
    rw [(h i (tt_sp_lt e)).2.2.2.1]
theorem tt_kn_congr {T F G H V T' F' G' H' V' : Nat → Int32} {t d : Int32} {n : Nat} (h : tt_ag n T F G H V T' F' G' H' V') : tt_kn T' F' G' H' V' t d n = tt_kn T F G H V t d n := by
  unfold tt_kn
  rw [tt_so_congr h]
  cases e : tt_so T F G H t d n with
  | none => rfl
  | some i => exact congrArg some (h i (tt_so_lt e)).2.2.2.2
theorem tt_kn_n {T F G H V : Nat → Int32} {t d : Int32} {n : Nat} (h : tt_sp T F G t d n = none) : tt_kn T F G H V t d n = none := by
  unfold tt_kn tt_so
  rw [h]
  rfl
theorem tt_kn_0 {T F G H V : Nat → Int32} {t d : Int32} {n j : Nat} (h : tt_sp T F G t d n = some j) (z : H j = 0) : tt_kn T F G H V t d n = none := by
  unfold tt_kn tt_so
  rw [h]
  show Option.map V (if H j = 0 then none else some j) = none
  rw [if_pos z]
  rfl
theorem tt_kn_1 {T F G H V : Nat → Int32} {t d : Int32} {n j : Nat} (h : tt_sp T F G t d n = some j) (z : ¬ H j = 0) : tt_kn T F G H V t d n = some (V j) := by
  unfold tt_kn tt_so
  rw [h]
  show Option.map V (if H j = 0 then none else some j) = some (V j)
  rw [if_neg z]
  rfl
theorem tt_nm1 {j : Nat} (h : j < 2 ^ 31) : ¬ nI j = -1 := fun e => nI_pos h (by rw [e]; decide)
theorem tt_nm5 {j : Nat} (h : j < 2 ^ 31) : ¬ nI j = -5 := fun e => nI_pos h (by rw [e]; decide)
theorem tt_dec (x : Int32) : x + (-1) = x - 1 := (Int32.sub_eq_add_neg x 1).symm
theorem tt_40 : nI 40 = 40 := by decide +kernel
theorem tt_100 : nI 100 = 100 := by decide +kernel
theorem tt_6 : nI 6 = 6 := by decide +kernel
