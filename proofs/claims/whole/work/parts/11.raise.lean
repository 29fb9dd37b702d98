/-- one turn of the reference's raise, as far as its clipped piece -/
theorem tt_yr106 {yp : Int32 → SY → Prop} {th more x7 f : Int32} {a b i s t A B P n : Nat} {T F G H V PF PT PV : Nat → Int32} (hi : i < P) (hP : P ≤ 100) (ha : a ≤ 100) (hb : b ≤ 100) (hs : s ≤ 100) (ht : t ≤ 100) (hPF : PF i = nI s) (hPT : PT i = nI t) (hA : (s ≤ a ∧ A = a) ∨ (a < s ∧ A = s)) (hB : (b ≤ t ∧ B = b) ∨ (t < b ∧ B = t))
    (h : wY_raise_165 yp (wY_raise_106 yp th more (nI a) (nI b) x7 n) th more (nI a) (nI b) x7 (nI i) (nI A) (nI B) f (nI P) T F G H V PF PT PV) : wY_raise_106 yp th more (nI a) (nI b) x7 (n + 1) (nI i) f (nI P) T F G H V PF PT PV := by
  have hc : (nI i).toNatClampNeg = i := nI_clamp (by omega)
  have hin : vp_in (nI i) 100 := vp_in_nI (by omega) (by omega)
  have h139 : wY_raise_139 yp (wY_raise_106 yp th more (nI a) (nI b) x7 n) th more (nI a) (nI b) x7 (nI i) (nI A) f (nI P) T F G H V PF PT PV := by
    unfold wY_raise_139
    rw [hc, hPT]
    refine ⟨hin, ?_⟩
    cases hB with
    | inl q => rw [q.2] at h; exact br_t (nI_le q.1 (by omega)) h
    | inr q => rw [q.2] at h; exact br_f (nI_ge q.1 (by omega)) ⟨hin, h⟩
  rw [wY_raise_106]
  dsimp only
  rw [hc, hPF]
  refine br_f (nI_ge hi (by omega)) ⟨hin, ?_⟩
  cases hA with
  | inl q => rw [q.2] at h139; exact br_t (nI_le q.1 (by omega)) h139
  | inr q => rw [q.2] at h139; exact br_f (nI_ge q.1 (by omega)) ⟨hin, h139⟩
/-- a piece outside the days makes no entry -/
theorem tt_yskip {yp : Int32 → SY → Prop} {th more x7 f : Int32} {a b i n : Nat} {k : Nat → Option Int32} {T F G H V PF PT PV : Nat → Int32} (hab : a < b) (hb : b ≤ 100) (hL : tt_L k 100 PF PT PV) (hi : i < tt_c k 0 100) (ho : i < tt_i0 k a ∨ tt_i0 k a + tt_c k a b ≤ i) (h : wY_raise_106 yp th more (nI a) (nI b) x7 n (nI (i + 1)) f (nI (tt_c k 0 100)) T F G H V PF PT PV) : wY_raise_106 yp th more (nI a) (nI b) x7 (n + 1) (nI i) f (nI (tt_c k 0 100)) T F G H V PF PT PV := by
  have hc100 : tt_c k 0 100 ≤ 100 := tt_c_le 100
  obtain ⟨s, t, hst, ht, hPF, hPT, hG⟩ := tt_G_i hab hb hL hi
  cases hG with
  | inl g =>
    refine tt_yr106 hi hc100 (by omega) hb (by omega) ht hPF hPT (Or.inl ⟨by omega, rfl⟩) (Or.inr ⟨by omega, rfl⟩) ?_
    exact br_t (nI_le g.2 (by omega)) (nm_r (nI_1 i) h)
  | inr g =>
    cases g with
    | inl g =>
      obtain ⟨d, d1, d2, d3, d4, _⟩ := g
      have := tt_c_lt d3 d2
      omega
    | inr g =>
      refine tt_yr106 hi hc100 (by omega) hb (by omega) ht hPF hPT (Or.inr ⟨by omega, rfl⟩) (Or.inl ⟨by omega, rfl⟩) ?_
      exact br_t (nI_le g.2 (by omega)) (nm_r (nI_1 i) h)
theorem tt_yhead {yp : Int32 → SY → Prop} {th more x7 f : Int32} {a b : Nat} {k : Nat → Option Int32} {T F G H V PF PT PV : Nat → Int32} (hab : a < b) (hb : b ≤ 100) (hL : tt_L k 100 PF PT PV) (h : ∃ n, wY_raise_106 yp th more (nI a) (nI b) x7 n (nI (tt_i0 k a)) f (nI (tt_c k 0 100)) T F G H V PF PT PV) : ∀ m i : Nat, i + m = tt_i0 k a → ∃ n, wY_raise_106 yp th more (nI a) (nI b) x7 n (nI i) f (nI (tt_c k 0 100)) T F G H V PF PT PV := by
  intro m
  induction m with
  | zero =>
    intro i hi
    rw [show i = tt_i0 k a from by omega]
    exact h
  | succ m ih =>
    intro i hi
    obtain ⟨n, hn⟩ := ih (i + 1) (by omega)
    have hi0 := tt_i0_b (k := k) hab hb
    exact ⟨n + 1, tt_yskip hab hb hL (by omega) (Or.inl (by omega)) hn⟩
theorem tt_ytail {yp : Int32 → SY → Prop} {th more x7 f : Int32} {a b : Nat} {k : Nat → Option Int32} {T F G H V PF PT PV : Nat → Int32} (hab : a < b) (hb : b ≤ 100) (hL : tt_L k 100 PF PT PV) (h : yp x7 (f, nI (tt_c k 0 100), T, F, G, H, V, PF, PT, PV)) : ∀ m i : Nat, i + m = tt_c k 0 100 → tt_i0 k a + tt_c k a b ≤ i → ∃ n, wY_raise_106 yp th more (nI a) (nI b) x7 n (nI i) f (nI (tt_c k 0 100)) T F G H V PF PT PV := by
  have hc100 : tt_c k 0 100 ≤ 100 := tt_c_le 100
  intro m
  induction m with
  | zero =>
    intro i hi _
    exact ⟨1, br_t (nI_le (by omega) (by omega)) h⟩
  | succ m ih =>
    intro i hi h2
    obtain ⟨n, hn⟩ := ih (i + 1) (by omega) (by omega)
    exact ⟨n + 1, tt_yskip hab hb hL (by omega) (Or.inr h2) hn⟩
/-- raise: what the reference asks from here on, it asks at the start -/
def tt_Qr (k : Nat → Option Int32) (th more : Int32) (e a b : Nat) (T F G H V : Nat → Int32) (j : Nat) (T' F' G' H' V' : Nat → Int32) : Prop :=
  ∀ PF PT PV : Nat → Int32, tt_L k 100 PF PT PV → ∀ yp : Int32 → SY → Prop, (∃ n, wY_raise_106 yp th more (nI a) (nI b) (nI (tt_c k a b)) n (nI (tt_i0 k a + j)) (nI (e + j)) (nI (tt_c k 0 100)) T' F' G' H' V' PF PT PV) → (∃ n, wY_raise_106 yp th more (nI a) (nI b) (nI (tt_c k a b)) n (nI 0) (nI e) (nI (tt_c k 0 100)) T F G H V PF PT PV)
theorem tt_Qr_s {k : Nat → Option Int32} {th more : Int32} {e a b d : Nat} {v : Int32} {T F G H V T' F' G' H' V' : Nat → Int32} (hab : a < b) (hb : b ≤ 100) (he : e + tt_c k a b ≤ 40) (had : a ≤ d) (hd : d < b) (hst : tt_st k a d = true) (hv : k d = some v) (h : tt_Qr k th more e a b T F G H V (tt_c k a d) T' F' G' H' V') : tt_Qr k th more e a b T F G H V (tt_c k a d + 1) (upd T' (e + tt_c k a d) th) (upd F' (e + tt_c k a d) (nI d)) (upd G' (e + tt_c k a d) (nI (tt_e k d b))) (upd H' (e + tt_c k a d) (vp_nar .boolean 1)) (upd V' (e + tt_c k a d) (v + more)) := by
  intro PF PT PV hL yp ⟨n, hn⟩
  refine h PF PT PV hL yp ⟨n + 1, ?_⟩
  have hlt : tt_c k a d < tt_c k a b := tt_c_lt hst hd
  have hi0 := tt_i0_b (k := k) hab hb
  have hc100 : tt_c k 0 100 ≤ 100 := tt_c_le 100
  have hi : tt_i0 k a + tt_c k a d < tt_c k 0 100 := by omega
  have hc : (nI (tt_i0 k a + tt_c k a d)).toNatClampNeg = tt_i0 k a + tt_c k a d := nI_clamp (by omega)
  obtain ⟨s, t, hs, ht, hPF, hPT, hG⟩ := tt_G_i hab hb hL hi
  cases hG with
  | inl g => omega
  | inr g =>
    cases g with
    | inr g => omega
    | inl g =>
      obtain ⟨d', d1, d2, d3, d4, d5, d6, d7⟩ := g
      have ed : d' = d := by
        by_cases q : d' < d
        · have := tt_c_lt d3 q; omega
        · by_cases q2 : d < d'
          · have := tt_c_lt hst q2; omega
          · omega
      rw [ed] at d5 d6 d7
      have hPV : PV (tt_i0 k a + tt_c k a d) = v := Option.some.inj (d7.symm.trans hv)
      obtain ⟨e1, e2, _, _⟩ := tt_E_e (k := k) hd
      refine tt_yr106 hi hc100 (by omega) hb (by omega) ht hPF hPT d5 d6 ?_
      unfold wY_raise_165
      rw [hc, hPV]
      refine br_f (nI_ge e1 (by omega)) ⟨vp_in_nI (by omega) (by omega), ?_⟩
      exact tt_ymake (by omega) (nm_r (nI_1 _) hn)
/-- the reference's count -/
theorem tt_y46 {yp : Int32 → SY → Prop} {th more : Int32} {e a b : Nat} {k : Nat → Option Int32} {T F G H V PF PT PV : Nat → Int32} (hab : a < b) (hb : b ≤ 100) (he : e ≤ 40) (hL : tt_L k 100 PF PT PV)
    (h1 : e + tt_c k a b ≤ 40 → ∃ n, wY_raise_106 yp th more (nI a) (nI b) (nI (tt_c k a b)) n (nI 0) (nI e) (nI (tt_c k 0 100)) T F G H V PF PT PV)
    (h2 : 40 < e + tt_c k a b → yp (-3) (nI e, nI (tt_c k 0 100), T, F, G, H, V, PF, PT, PV)) :
    ∀ m i x : Nat, i + m = tt_c k 0 100 → ((i ≤ tt_i0 k a ∧ x = 0) ∨ (tt_i0 k a ≤ i ∧ i ≤ tt_i0 k a + tt_c k a b ∧ x + tt_i0 k a = i) ∨ (tt_i0 k a + tt_c k a b ≤ i ∧ x = tt_c k a b)) → ∀ n, m < n → wY_raise_46 yp th more (nI a) (nI b) (nI e) (nI (tt_c k 0 100)) T F G H V PF PT PV n (nI x) (nI i) := by
  have hi0 := tt_i0_b (k := k) hab hb
  have hc100 : tt_c k 0 100 ≤ 100 := tt_c_le 100
  intro m
  induction m with
  | zero =>
    intro i x hi hx n hn
    cases n with
    | zero => omega
    | succ n =>
      have ex : x = tt_c k a b := by omega
      subst ex
      refine br_t (nI_le (by omega) (by omega)) ?_
      show (nI e + nI (tt_c k a b) ≤ 40 → _) ∧ (¬ nI e + nI (tt_c k a b) ≤ 40 → _)
      rw [nI_add, ← tt_40, nI_leI (by omega) (by omega)]
      exact br_c h1 (fun q => h2 (by omega))
  | succ m ih =>
    intro i x hi hx n hn
    cases n with
    | zero => omega
    | succ n =>
      have hc : (nI i).toNatClampNeg = i := nI_clamp (by omega)
      have hin : vp_in (nI i) 100 := vp_in_nI (by omega) (by omega)
      obtain ⟨s, t, hst, ht, hPF, hPT, hG⟩ := tt_G_i hab hb hL (by omega : i < tt_c k 0 100)
      rw [wY_raise_46]
      dsimp only
      rw [hc, hPF, hPT]
      refine br_f (nI_ge (by omega) (by omega)) ⟨hin, ?_⟩
      cases hG with
      | inl g =>
        exact br_t (nI_le g.2 (by omega)) (nm_r (nI_1 i) (ih (i + 1) x (by omega) (by omega) n (by omega)))
      | inr g =>
        cases g with
        | inl g =>
          obtain ⟨d, d1, d2, d3, d4, d5, d6, d7⟩ := g
          have hlt := tt_c_lt d3 d2
          obtain ⟨e1, e2, _, _⟩ := tt_E_e (k := k) d2
          refine br_f (nI_ge (by omega) (by omega)) ⟨hin, br_f (nI_ge (by omega) (by omega)) ?_⟩
          exact nm_r (nI_1 x) (nm_r (nI_1 i) (ih (i + 1) (x + 1) (by omega) (by omega) n (by omega)))
        | inr g =>
          refine br_f (nI_ge (by omega) (by omega)) ⟨hin, br_t (nI_le g.2 (by omega)) ?_⟩
          exact nm_r (nI_1 i) (ih (i + 1) x (by omega) (by omega) n (by omega))
theorem i_vc_raise {k : Nat} {u : SX} {v : SY} (I : i_Rel k u v) (hk : k + 4 ≤ 2048) (v1 : Int32) (v2 : Int32) (v3 : Int32) : wpX_raise (fun r u' => wpY_raise (fun r' v' => r' = r ∧ i_Rel (k + 4) u' v') v v1 v2 v3) u v1 v2 v3 := by
  obtain ⟨e, p, T, F, G, H, V, PF, PT, PV, he, rfl, rfl⟩ := I
  unfold wpX_raise wpY_raise wpX_firstOf wpX_behindLastOf
  dsimp only
  refine tt_xth ?_
  refine br_c (fun g1 => ?_) (fun g1 => ?_)
  · refine tt_yrf ?_
    rw [show tt_rf v1 v2 = -1 from if_pos g1]
    exact br_f (by decide) ⟨rfl, tt_rel he⟩
  refine tt_xds ?_
  refine br_c (fun g2 => ?_) (fun g2 => ?_)
  · refine tt_yrf ?_
    rw [show tt_rf v1 v2 = -2 from (if_neg g1).trans (if_pos g2)]
    exact br_f (by decide) ⟨rfl, tt_rel he⟩
  have hrf : tt_rf v1 v2 = 0 := (if_neg g1).trans (if_neg g2)
  obtain ⟨a, b, hab, hb, ea, eb⟩ := tt_gd_of g2
  unfold tt_fr at ea
  unfold tt_to at eb
  rw [ea, eb]
  have hi0 := tt_i0_b (k := tt_k T F G H V v1 e) hab hb
  refine tt_xent (a := a) (b := b) rfl he (by omega) (by omega) (tt_Qr (tt_k T F G H V v1 e) v1 v3 e a b T F G H V) (fun hf => ?_) (fun _ => ?_) (fun d w T' F' G' H' V' had hd hst hw hle hQ => tt_Qr_s hab hb hle had hd hst hw hQ) (fun T' F' G' H' V' hle hQ => ?_)
  · refine tt_yrf ?_
    rw [hrf]
    refine br_t (by decide) (nm_e (nm_e (tt_ylist he rfl (fun PF' PT' PV' hL => ?_))))
    refine ⟨_, tt_y46 hab hb he hL (fun q => absurd q (by omega)) (fun _ => ⟨rfl, tt_rel he⟩) _ 0 0 (Nat.zero_add _) (Or.inl ⟨Nat.zero_le _, rfl⟩) (tt_c (tt_k T F G H V v1 e) 0 100 + 1) (Nat.lt_succ_self _)⟩
  · exact fun PF PT PV hL yp h => tt_yhead hab hb hL h _ 0 (Nat.zero_add _)
  · refine tt_yrf ?_
    rw [hrf]
    refine br_t (by decide) (nm_e (nm_e (tt_ylist he rfl (fun PF' PT' PV' hL => ?_))))
    refine ⟨_, tt_y46 hab hb he hL (fun _ => ?_) (fun q => absurd hle (by omega)) _ 0 0 (Nat.zero_add _) (Or.inl ⟨Nat.zero_le _, rfl⟩) (tt_c (tt_k T F G H V v1 e) 0 100 + 1) (Nat.lt_succ_self _)⟩
    exact hQ PF' PT' PV' hL _ (tt_ytail hab hb hL ⟨rfl, tt_rel hle⟩ (tt_c (tt_k T F G H V v1 e) 0 100 - (tt_i0 (tt_k T F G H V v1 e) a + tt_c (tt_k T F G H V v1 e) a b)) _ (by omega) (Nat.le_refl _))
