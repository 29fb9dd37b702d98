/-! the guards of both sides, and the reading methods' loops -/
def tt_gt (t : Int32) : Int32 := if t < 0 then 0 else if 6 ≤ t then 0 else 1
def tt_gy (d : Int32) : Int32 := if d < 0 then 0 else if 100 ≤ d then 0 else 1
def tt_gn (f n : Int32) : Int32 := if n < 0 then 0 else if f < n then 0 else 1
def tt_fr (x : Int32) : Int32 := x &&& 127
def tt_to (x : Int32) : Int32 := (x >>> ((7 : Int32) &&& 31)) &&& 127
def tt_gd (x : Int32) : Int32 := if tt_to x ≤ tt_fr x then 0 else if 100 < tt_to x then 0 else 1
def tt_rf (t x : Int32) : Int32 := if tt_gt t = 0 then -1 else if tt_gd x = 0 then -2 else 0
theorem tt_xth {post : Int32 → Prop} {t : Int32} (hp : post (tt_gt t)) : wpX_isThing post t := by
  unfold tt_gt at hp
  by_cases h : t < 0
  · rw [if_pos h] at hp; exact br_t h hp
  · rw [if_neg h] at hp
    by_cases h2 : 6 ≤ t
    · rw [if_pos h2] at hp; exact br_f h (br_t h2 hp)
    · rw [if_neg h2] at hp; exact br_f h (br_f h2 hp)
theorem tt_yth {post : Int32 → Prop} {f p : Int32} {T F G H V PF PT PV : Nat → Int32} {t : Int32} (hp : post (tt_gt t)) : wpY_isThing post (f, p, T, F, G, H, V, PF, PT, PV) t := by
  unfold tt_gt at hp
  by_cases h : t < 0
  · rw [if_pos h] at hp; exact br_t h hp
  · rw [if_neg h] at hp
    by_cases h2 : 6 ≤ t
    · rw [if_pos h2] at hp; exact br_f h (br_t h2 hp)
    · rw [if_neg h2] at hp; exact br_f h (br_f h2 hp)
theorem tt_xdy {post : Int32 → Prop} {t : Int32} (hp : post (tt_gy t)) : wpX_isDay post t := by
  unfold tt_gy at hp
  by_cases h : t < 0
  · rw [if_pos h] at hp; exact br_t h hp
  · rw [if_neg h] at hp
    by_cases h2 : 100 ≤ t
    · rw [if_pos h2] at hp; exact br_f h (br_t h2 hp)
    · rw [if_neg h2] at hp; exact br_f h (br_f h2 hp)
theorem tt_ydy {post : Int32 → Prop} {f p : Int32} {T F G H V PF PT PV : Nat → Int32} {t : Int32} (hp : post (tt_gy t)) : wpY_isDay post (f, p, T, F, G, H, V, PF, PT, PV) t := by
  unfold tt_gy at hp
  by_cases h : t < 0
  · rw [if_pos h] at hp; exact br_t h hp
  · rw [if_neg h] at hp
    by_cases h2 : 100 ≤ t
    · rw [if_pos h2] at hp; exact br_f h (br_t h2 hp)
    · rw [if_neg h2] at hp; exact br_f h (br_f h2 hp)
theorem tt_xen {post : Int32 → Prop} {f : Int32} {T F G H V : Nat → Int32} {t : Int32} (hp : post (tt_gn f t)) : wpX_isEntry post (f, T, F, G, H, V) t := by
  unfold tt_gn at hp
  by_cases h : t < 0
  · rw [if_pos h] at hp; exact br_t h hp
  · rw [if_neg h] at hp
    by_cases h2 : f < t
    · rw [if_pos h2] at hp; exact br_f h (br_t h2 hp)
    · rw [if_neg h2] at hp; exact br_f h (br_f h2 hp)
theorem tt_yen {post : Int32 → Prop} {f p : Int32} {T F G H V PF PT PV : Nat → Int32} {t : Int32} (hp : post (tt_gn f t)) : wpY_isEntry post (f, p, T, F, G, H, V, PF, PT, PV) t := by
  unfold tt_gn at hp
  by_cases h : t < 0
  · rw [if_pos h] at hp; exact br_t h hp
  · rw [if_neg h] at hp
    by_cases h2 : f < t
    · rw [if_pos h2] at hp; exact br_f h (br_t h2 hp)
    · rw [if_neg h2] at hp; exact br_f h (br_f h2 hp)
theorem tt_xds {post : Int32 → Prop} {x : Int32} (hp : post (tt_gd x)) : wpX_areDays post x := by
  unfold tt_gd at hp
  by_cases h : tt_to x ≤ tt_fr x
  · rw [if_pos h] at hp; exact br_t h hp
  · rw [if_neg h] at hp
    by_cases h2 : 100 < tt_to x
    · rw [if_pos h2] at hp; exact br_f h (br_t h2 hp)
    · rw [if_neg h2] at hp; exact br_f h (br_f h2 hp)
theorem tt_yds {post : Int32 → Prop} {f p : Int32} {T F G H V PF PT PV : Nat → Int32} {x : Int32} (hp : post (tt_gd x)) : wpY_areDays post (f, p, T, F, G, H, V, PF, PT, PV) x := by
  unfold tt_gd at hp
  by_cases h : tt_to x ≤ tt_fr x
  · rw [if_pos h] at hp; exact br_t h hp
  · rw [if_neg h] at hp
    by_cases h2 : 100 < tt_to x
    · rw [if_pos h2] at hp; exact br_f h (br_t h2 hp)
    · rw [if_neg h2] at hp; exact br_f h (br_f h2 hp)
theorem tt_yrf {post : Int32 → Prop} {f p : Int32} {T F G H V PF PT PV : Nat → Int32} {t x : Int32} (hp : post (tt_rf t x)) : wpY_refusal post (f, p, T, F, G, H, V, PF, PT, PV) t x := by
  unfold tt_rf at hp
  unfold wpY_refusal
  dsimp only
  refine tt_yth ?_
  by_cases h : tt_gt t = 0
  · rw [if_pos h] at hp; exact br_t h hp
  · rw [if_neg h] at hp
    refine br_f h ?_
    refine tt_yds ?_
    by_cases h2 : tt_gd x = 0
    · rw [if_pos h2] at hp; exact br_t h2 hp
    · rw [if_neg h2] at hp; exact br_f h2 hp
theorem tt_gn_of {e : Nat} {n : Int32} (he : e ≤ 40) (h : ¬ tt_gn (nI e) n = 0) : ∃ m : Nat, m ≤ e ∧ n = nI m := by
  unfold tt_gn at h
  by_cases h1 : n < 0
  · rw [if_pos h1] at h; exact absurd rfl h
  · obtain ⟨m, hm, rfl⟩ := nI_of h1
    rw [if_neg h1] at h
    by_cases h2 : nI e < nI m
    · rw [if_pos h2] at h; exact absurd rfl h
    · rw [nI_ltI (by omega) hm] at h2
      exact ⟨m, by omega, rfl⟩
theorem tt_gy_of {n : Int32} (h : ¬ tt_gy n = 0) : ∃ m : Nat, m < 100 ∧ n = nI m := by
  unfold tt_gy at h
  by_cases h1 : n < 0
  · rw [if_pos h1] at h; exact absurd rfl h
  · obtain ⟨m, hm, rfl⟩ := nI_of h1
    rw [if_neg h1] at h
    by_cases h2 : 100 ≤ nI m
    · rw [if_pos h2] at h; exact absurd rfl h
    · rw [← tt_100, nI_leI (by omega) hm] at h2
      exact ⟨m, by omega, rfl⟩
theorem tt_gd_of {x : Int32} (h : ¬ tt_gd x = 0) : ∃ a b : Nat, a < b ∧ b ≤ 100 ∧ tt_fr x = nI a ∧ tt_to x = nI b := by
  obtain ⟨a, ha, ea⟩ := pk_andE x (m := 127) 7 (by decide)
  obtain ⟨b, hb, eb⟩ := pk_andE (x >>> ((7 : Int32) &&& 31)) (m := 127) 7 (by decide)
  have ea : tt_fr x = nI a := ea
  have eb : tt_to x = nI b := eb
  unfold tt_gd at h
  by_cases h1 : tt_to x ≤ tt_fr x
  · rw [if_pos h1] at h; exact absurd rfl h
  · rw [if_neg h1] at h
    rw [ea, eb, nI_leI (by omega) (by omega)] at h1
    by_cases h2 : 100 < tt_to x
    · rw [if_pos h2] at h; exact absurd rfl h
    · rw [eb, ← tt_100, nI_ltI (by omega) (by omega)] at h2
      exact ⟨a, b, by omega, by omega, ea, eb⟩
/-- sumAt -/
def tt_sm (K : Nat → Option Int32) : Nat → Int32
  | 0 => 0
  | j + 1 => match K j with
    | none => tt_sm K j
    | some v => tt_sm K j + v
theorem tt_sm_n {K : Nat → Option Int32} {j : Nat} (h : K j = none) : tt_sm K (j + 1) = tt_sm K j := by
  rw [tt_sm, h]
theorem tt_sm_s {K : Nat → Option Int32} {j : Nat} {v : Int32} (h : K j = some v) : tt_sm K (j + 1) = tt_sm K j + v := by
  rw [tt_sm, h]
theorem tt_xsum {post : Int32 → Prop} {f d : Int32} {T F G H V : Nat → Int32} {nn : Nat} (hn : nn ≤ 40) (hp : post (tt_sm (fun j => tt_kn T F G H V (nI j) d nn) 6)) : ∀ m j : Nat, j + m = 6 → ∀ n, m < n → wX_sumAt_26 post (nI nn) d f T F G H V n (tt_sm (fun j => tt_kn T F G H V (nI j) d nn) j) (nI j) := by
  intro m
  induction m with
  | zero =>
    intro j hj n hn2
    cases n with
    | zero => omega
    | succ n =>
      have e : j = 6 := by omega
      subst e
      refine br_t ?_ hp
      rw [tt_6]; decide
  | succ m ih =>
    intro j hj n hn2
    cases n with
    | zero => omega
    | succ n =>
      refine br_f ?_ (tt_xsrc hn ?_)
      · rw [← tt_6]; exact nI_ge (by omega) (by omega)
      have hk : tt_kn T F G H V (nI j) d nn = (tt_so T F G H (nI j) d nn).map V := rfl
      cases e : tt_so T F G H (nI j) d nn with
      | none =>
        rw [e] at hk
        refine br_t rfl (nm_r (nI_1 _) ?_)
        have := ih (j + 1) (by omega) n (by omega)
        rw [tt_sm_n (K := fun j => tt_kn T F G H V (nI j) d nn) hk] at this
        exact this
      | some i =>
        rw [e] at hk
        have hi := tt_so_lt e
        have hc : (nI i).toNatClampNeg = i := nI_clamp (by omega)
        refine br_f (tt_nm1 (by omega)) ⟨vp_in_nI (by omega) (by omega), ?_⟩
        refine nm_r (e' := tt_sm (fun j => tt_kn T F G H V (nI j) d nn) j + V i) (congrArg (fun z => tt_sm (fun j => tt_kn T F G H V (nI j) d nn) j + V z) hc) (nm_r (nI_1 _) ?_)
        have := ih (j + 1) (by omega) n (by omega)
        rw [tt_sm_s (K := fun j => tt_kn T F G H V (nI j) d nn) hk] at this
        exact this
theorem tt_ysum {post : Int32 → Prop} {f p d : Int32} {T F G H V PF PT PV : Nat → Int32} {nn : Nat} (hn : nn ≤ 40) (hp : post (tt_sm (fun j => tt_kn T F G H V (nI j) d nn) 6)) : ∀ m j : Nat, j + m = 6 → ∀ n, m < n → wY_sumAt_27 post (nI nn) d f p T F G H V PF PT PV n (tt_sm (fun j => tt_kn T F G H V (nI j) d nn) j) (nI j) := by
  intro m
  induction m with
  | zero =>
    intro j hj n hn2
    cases n with
    | zero => omega
    | succ n =>
      have e : j = 6 := by omega
      subst e
      refine br_t ?_ hp
      rw [tt_6]; decide
  | succ m ih =>
    intro j hj n hn2
    cases n with
    | zero => omega
    | succ n =>
      refine br_f ?_ (tt_yknows hn ?_)
      · rw [← tt_6]; exact nI_ge (by omega) (by omega)
      cases e : tt_kn T F G H V (nI j) d nn with
      | none =>
        refine br_t rfl (nm_r (nI_1 _) ?_)
        have := ih (j + 1) (by omega) n (by omega)
        rw [tt_sm_n (K := fun j => tt_kn T F G H V (nI j) d nn) e] at this
        exact this
      | some v =>
        refine br_f (show ¬ (1 : Int32) = 0 from by decide) (tt_yval hn ?_)
        rw [e]
        refine nm_e (nm_r (nI_1 _) ?_)
        have := ih (j + 1) (by omega) n (by omega)
        rw [tt_sm_s (K := fun j => tt_kn T F G H V (nI j) d nn) e] at this
        exact this
/-- changed -/
def tt_ch (k1 k2 : Nat → Option Int32) : Nat → Nat
  | 0 => 0
  | d + 1 => tt_ch k1 k2 d + (if k1 d = k2 d then 0 else 1)
theorem tt_ch_e {k1 k2 : Nat → Option Int32} {d : Nat} (h : k1 d = k2 d) : tt_ch k1 k2 (d + 1) = tt_ch k1 k2 d := by
  rw [tt_ch, if_pos h]; rfl
theorem tt_ch_n {k1 k2 : Nat → Option Int32} {d : Nat} (h : ¬ k1 d = k2 d) : tt_ch k1 k2 (d + 1) = tt_ch k1 k2 d + 1 := by
  rw [tt_ch, if_neg h]
theorem tt_xch {post : Int32 → Prop} {f t : Int32} {T F G H V : Nat → Int32} {n1 n2 : Nat} (h1 : n1 ≤ 40) (h2 : n2 ≤ 40) (hp : post (nI (tt_ch (tt_k T F G H V t n1) (tt_k T F G H V t n2) 100))) : ∀ m d : Nat, d + m = 100 → ∀ n, m < n → wX_changed_34 post (nI n1) (nI n2) t f T F G H V n (nI (tt_ch (tt_k T F G H V t n1) (tt_k T F G H V t n2) d)) (nI d) := by
  intro m
  induction m with
  | zero =>
    intro d hd n hn2
    cases n with
    | zero => omega
    | succ n =>
      have e : d = 100 := by omega
      subst e
      refine br_t ?_ hp
      rw [tt_100]; decide
  | succ m ih =>
    intro d hd n hn2
    cases n with
    | zero => omega
    | succ n =>
      refine br_f ?_ (tt_xsrc h1 (tt_xsrc h2 (tt_xsame (fun i hi => by have := tt_so_lt hi; omega) (fun i hi => by have := tt_so_lt hi; omega) ?_)))
      · rw [← tt_100]; exact nI_ge (by omega) (by omega)
      have e1 : tt_k T F G H V t n1 d = (tt_so T F G H t (nI d) n1).map V := rfl
      have e2 : tt_k T F G H V t n2 d = (tt_so T F G H t (nI d) n2).map V := rfl
      rw [← e1, ← e2]
      have := ih (d + 1) (by omega) n (by omega)
      by_cases q : tt_k T F G H V t n1 d = tt_k T F G H V t n2 d
      · rw [tt_ch_e q] at this
        rw [if_pos q]
        exact br_f (show ¬ (1 : Int32) = 0 from by decide) (nm_r (nI_1 _) this)
      · rw [tt_ch_n q] at this
        rw [if_neg q]
        exact br_t rfl (nm_r (nI_1 _) (nm_r (nI_1 _) this))
theorem tt_ych {post : Int32 → Prop} {f p t : Int32} {T F G H V PF PT PV : Nat → Int32} {n1 n2 : Nat} (h1 : n1 ≤ 40) (h2 : n2 ≤ 40) (hp : post (nI (tt_ch (tt_k T F G H V t n1) (tt_k T F G H V t n2) 100))) : ∀ m d : Nat, d + m = 100 → ∀ n, m < n → wY_changed_35 post (nI n1) (nI n2) t f p T F G H V PF PT PV n (nI (tt_ch (tt_k T F G H V t n1) (tt_k T F G H V t n2) d)) (nI d) := by
  intro m
  induction m with
  | zero =>
    intro d hd n hn2
    cases n with
    | zero => omega
    | succ n =>
      have e : d = 100 := by omega
      subst e
      refine br_t ?_ hp
      rw [tt_100]; decide
  | succ m ih =>
    intro d hd n hn2
    cases n with
    | zero => omega
    | succ n =>
      refine br_f ?_ (tt_ysame h1 h2 ?_)
      · rw [← tt_100]; exact nI_ge (by omega) (by omega)
      have e1 : tt_k T F G H V t n1 d = tt_kn T F G H V t (nI d) n1 := rfl
      have e2 : tt_k T F G H V t n2 d = tt_kn T F G H V t (nI d) n2 := rfl
      rw [← e1, ← e2]
      have := ih (d + 1) (by omega) n (by omega)
      by_cases q : tt_k T F G H V t n1 d = tt_k T F G H V t n2 d
      · rw [tt_ch_e q] at this
        rw [if_pos q]
        exact br_f (show ¬ (1 : Int32) = 0 from by decide) (nm_r (nI_1 _) this)
      · rw [tt_ch_n q] at this
        rw [if_neg q]
        exact br_t rfl (nm_r (nI_1 _) (nm_r (nI_1 _) this))
/-- since -/
def tt_si (K : Nat → Option Int32) (now : Option Int32) : Nat → Nat
  | 0 => 0
  | n + 1 => if K n = now then tt_si K now n else n + 1
theorem tt_xsi {post : Int32 → Prop} {f t d : Int32} {T F G H V : Nat → Int32} {e : Nat} (he : e ≤ 40) : ∀ m : Nat, m ≤ e → post (nI (tt_si (fun n => tt_kn T F G H V t d n) (tt_kn T F G H V t d e) m)) → ∀ n, m < n → wX_since_36 post t d (tt_en (tt_so T F G H t d e)) f T F G H V n (nI m) := by
  intro m
  induction m with
  | zero =>
    intro _ hp n hn
    cases n with
    | zero => omega
    | succ n => exact br_t (by decide) hp
  | succ m ih =>
    intro hm hp n hn
    cases n with
    | zero => omega
    | succ n =>
      refine br_f (nI_nle (by omega) (by omega)) ?_
      rw [nI_pred]
      refine tt_xsrc (by omega) (tt_xsame (fun i hi => by have := tt_so_lt hi; omega) (fun i hi => by have := tt_so_lt hi; omega) ?_)
      have e1 : tt_kn T F G H V t d m = (tt_so T F G H t d m).map V := rfl
      have e2 : tt_kn T F G H V t d e = (tt_so T F G H t d e).map V := rfl
      rw [← e1, ← e2]
      rw [tt_si] at hp
      by_cases q : tt_kn T F G H V t d m = tt_kn T F G H V t d e
      · rw [if_pos q] at hp
        rw [if_pos q]
        exact br_f (show ¬ (1 : Int32) = 0 from by decide) (nm_r (pk_m1 m) (ih (by omega) hp n (by omega)))
      · rw [if_neg q] at hp
        rw [if_neg q]
        exact br_t rfl hp
theorem tt_ysi {post : Int32 → Prop} {p t d : Int32} {T F G H V PF PT PV : Nat → Int32} {e : Nat} (he : e ≤ 40) : ∀ m : Nat, m ≤ e → post (nI (tt_si (fun n => tt_kn T F G H V t d n) (tt_kn T F G H V t d e) m)) → ∀ n, m < n → wY_since_26 post t d (nI e) p T F G H V PF PT PV n (nI m) := by
  intro m
  induction m with
  | zero =>
    intro _ hp n hn
    cases n with
    | zero => omega
    | succ n => exact br_t (by decide) hp
  | succ m ih =>
    intro hm hp n hn
    cases n with
    | zero => omega
    | succ n =>
      refine br_f (nI_nle (by omega) (by omega)) ?_
      rw [nI_pred]
      refine tt_ysame (by omega) he ?_
      rw [tt_si] at hp
      by_cases q : tt_kn T F G H V t d m = tt_kn T F G H V t d e
      · rw [if_pos q] at hp
        rw [if_pos q]
        exact br_f (show ¬ (1 : Int32) = 0 from by decide) (nm_r (pk_m1 m) (ih (by omega) hp n (by omega)))
      · rw [if_neg q] at hp
        rw [if_neg q]
        exact br_t rfl hp
