theorem i_vc_pieceFrom {k : Nat} {u : SX} {v : SY} (I : i_Rel k u v) (hk : k + 4 ≤ 2048) (v1 : Int32) (v2 : Int32) (v3 : Int32) : wpX_pieceFrom (fun r => wpY_pieceFrom (fun r' v' => r' = r ∧ i_Rel (k + 4) u v') v v1 v2 v3) u v1 v2 v3 := by
  obtain ⟨e, p, T, F, G, H, V, PF, PT, PV, he, rfl, rfl⟩ := I
  unfold wpX_pieceFrom wpY_pieceFrom wpY_pieces
  dsimp only
  refine tt_xen ?_
  refine br_c (fun g1 => ?_) (fun g1 => ?_)
  · exact tt_yen (br_t g1 (br_f (by decide) ⟨rfl, tt_rel he⟩))
  refine tt_xth ?_
  refine br_c (fun g2 => ?_) (fun g2 => ?_)
  · exact tt_yen (br_f g1 (tt_yth (br_t g2 (br_f (by decide) ⟨rfl, tt_rel he⟩))))
  have g1' := g1
  obtain ⟨n, hn, rfl⟩ := tt_gn_of he g1'
  have hc100 : tt_c (tt_k T F G H V v2 n) 0 100 ≤ 100 := tt_c_le 100
  refine tt_xstart (by omega) (fun s hs hst hi => ?_) (fun hno => ?_)
  · refine tt_yen (br_f g1 (tt_yth (br_f g2 (tt_ylist (by omega) rfl (fun PF' PT' PV' hL => ?_)))))
    subst hi
    have hlt : tt_c (tt_k T F G H V v2 n) 0 s < tt_c (tt_k T F G H V v2 n) 0 100 := tt_c_lt hst hs
    refine br_t (nI_pos' (by omega)) (br_f (nI_pos (by omega)) (br_f (nI_ge hlt (by omega)) ⟨vp_in_nI (by omega) (by omega), ?_, tt_rel he⟩))
    rw [nI_clamp (by omega)]
    exact (hL s hs hst).1
  · refine tt_yen (br_f g1 (tt_yth (br_f g2 (tt_ylist (by omega) rfl (fun PF' PT' PV' hL => ?_)))))
    refine br_t (nI_pos' (by omega)) ?_
    by_cases q : v3 < 0
    · exact br_t q ⟨rfl, tt_rel he⟩
    · refine br_f q ?_
      obtain ⟨i, hi, rfl⟩ := nI_of q
      by_cases q2 : tt_c (tt_k T F G H V v2 n) 0 100 ≤ i
      · exact br_t (nI_le q2 hi) ⟨rfl, tt_rel he⟩
      · obtain ⟨s, h1, h2, h3⟩ := tt_c_sur 100 (Nat.lt_of_not_le q2)
        exact absurd (congrArg nI h3) (hno s h1 h2)
theorem i_vc_pieceTo {k : Nat} {u : SX} {v : SY} (I : i_Rel k u v) (hk : k + 4 ≤ 2048) (v1 : Int32) (v2 : Int32) (v3 : Int32) : wpX_pieceTo (fun r => wpY_pieceTo (fun r' v' => r' = r ∧ i_Rel (k + 4) u v') v v1 v2 v3) u v1 v2 v3 := by
  obtain ⟨e, p, T, F, G, H, V, PF, PT, PV, he, rfl, rfl⟩ := I
  unfold wpX_pieceTo wpY_pieceTo wpY_pieces
  dsimp only
  refine tt_xen ?_
  refine br_c (fun g1 => ?_) (fun g1 => ?_)
  · exact tt_yen (br_t g1 (br_f (by decide) ⟨rfl, tt_rel he⟩))
  refine tt_xth ?_
  refine br_c (fun g2 => ?_) (fun g2 => ?_)
  · exact tt_yen (br_f g1 (tt_yth (br_t g2 (br_f (by decide) ⟨rfl, tt_rel he⟩))))
  have g1' := g1
  obtain ⟨n, hn, rfl⟩ := tt_gn_of he g1'
  have hc100 : tt_c (tt_k T F G H V v2 n) 0 100 ≤ 100 := tt_c_le 100
  refine tt_xstart (by omega) (fun s hs hst hi => ?_) (fun hno => ?_)
  · refine br_f (tt_nm5 (by omega)) (tt_xend (b := 100) (by omega) hs (by omega) ?_)
    refine tt_yen (br_f g1 (tt_yth (br_f g2 (tt_ylist (by omega) rfl (fun PF' PT' PV' hL => ?_)))))
    subst hi
    have hlt : tt_c (tt_k T F G H V v2 n) 0 s < tt_c (tt_k T F G H V v2 n) 0 100 := tt_c_lt hst hs
    refine br_t (nI_pos' (by omega)) (br_f (nI_pos (by omega)) (br_f (nI_ge hlt (by omega)) ⟨vp_in_nI (by omega) (by omega), ?_, tt_rel he⟩))
    rw [nI_clamp (by omega)]
    exact (hL s hs hst).2.1
  · refine br_t rfl ?_
    refine tt_yen (br_f g1 (tt_yth (br_f g2 (tt_ylist (by omega) rfl (fun PF' PT' PV' hL => ?_)))))
    refine br_t (nI_pos' (by omega)) ?_
    by_cases q : v3 < 0
    · exact br_t q ⟨rfl, tt_rel he⟩
    · refine br_f q ?_
      obtain ⟨i, hi, rfl⟩ := nI_of q
      by_cases q2 : tt_c (tt_k T F G H V v2 n) 0 100 ≤ i
      · exact br_t (nI_le q2 hi) ⟨rfl, tt_rel he⟩
      · obtain ⟨s, h1, h2, h3⟩ := tt_c_sur 100 (Nat.lt_of_not_le q2)
        exact absurd (congrArg nI h3) (hno s h1 h2)
/-- copy: what the reference asks from here on, it asks at the start -/
def tt_Qc (k : Nat → Option Int32) (t' : Int32) (e : Nat) (T F G H V : Nat → Int32) (j : Nat) (T' F' G' H' V' : Nat → Int32) : Prop :=
  ∀ PF PT PV : Nat → Int32, tt_L k 100 PF PT PV → ∀ yp : Int32 → SY → Prop, (∃ n, wY_copy_46 yp t' n (nI j) (nI (e + j)) (nI (tt_c k 0 100)) T' F' G' H' V' PF PT PV) → (∃ n, wY_copy_46 yp t' n (nI 0) (nI e) (nI (tt_c k 0 100)) T F G H V PF PT PV)
theorem tt_Qc_s {k : Nat → Option Int32} {t' : Int32} {e d : Nat} {v : Int32} {T F G H V T' F' G' H' V' : Nat → Int32} (he : e + tt_c k 0 100 ≤ 40) (hd : d < 100) (hst : tt_st k 0 d = true) (hv : k d = some v) (h : tt_Qc k t' e T F G H V (tt_c k 0 d) T' F' G' H' V') : tt_Qc k t' e T F G H V (tt_c k 0 d + 1) (upd T' (e + tt_c k 0 d) t') (upd F' (e + tt_c k 0 d) (nI d)) (upd G' (e + tt_c k 0 d) (nI (tt_e k d 100))) (upd H' (e + tt_c k 0 d) (vp_nar .boolean 1)) (upd V' (e + tt_c k 0 d) (v + 0)) := by
  intro PF PT PV hL yp ⟨n, hn⟩
  refine h PF PT PV hL yp ⟨n + 1, ?_⟩
  have hlt : tt_c k 0 d < tt_c k 0 100 := tt_c_lt hst hd
  have hc : (nI (tt_c k 0 d)).toNatClampNeg = tt_c k 0 d := nI_clamp (by omega)
  have hi : vp_in (nI (tt_c k 0 d)) 100 := vp_in_nI (by omega) (by omega)
  obtain ⟨l1, l2, l3⟩ := hL d hd hst
  have l4 : PV (tt_c k 0 d) = v := Option.some.inj (l3.trans hv)
  rw [Int32.add_zero] at hn
  rw [wY_copy_46]
  dsimp only
  rw [hc, l1, l2, l4]
  refine br_f (nI_ge hlt (by omega)) ⟨hi, hi, hi, ?_⟩
  exact tt_ymake (by omega) (nm_r (nI_1 _) hn)
theorem i_vc_copy {k : Nat} {u : SX} {v : SY} (I : i_Rel k u v) (hk : k + 4 ≤ 2048) (v1 : Int32) (v2 : Int32) : wpX_copy (fun r u' => wpY_copy (fun r' v' => r' = r ∧ i_Rel (k + 4) u' v') v v1 v2) u v1 v2 := by
  obtain ⟨e, p, T, F, G, H, V, PF, PT, PV, he, rfl, rfl⟩ := I
  unfold wpX_copy wpY_copy
  dsimp only
  refine tt_xth ?_
  refine br_c (fun g1 => ?_) (fun g1 => ?_)
  · exact tt_yth (br_t g1 ⟨rfl, tt_rel he⟩)
  refine tt_xth ?_
  refine br_c (fun g2 => ?_) (fun g2 => ?_)
  · exact tt_yth (br_f g1 (tt_yth (br_t g2 ⟨rfl, tt_rel he⟩)))
  have hc100 : tt_c (tt_k T F G H V v1 e) 0 100 ≤ 100 := tt_c_le 100
  refine tt_xent (a := 0) (b := 100) rfl he (by omega) (by omega) (tt_Qc (tt_k T F G H V v1 e) v2 e T F G H V) (fun hf => ?_) (fun _ => ?_) (fun d w T' F' G' H' V' _ hd hst hw hle hQ => tt_Qc_s hle hd hst hw hQ) (fun T' F' G' H' V' hle hQ => ?_)
  · refine tt_yth (br_f g1 (tt_yth (br_f g2 (tt_ylist he rfl (fun PF' PT' PV' hL => ?_)))))
    refine br_f ?_ ⟨rfl, tt_rel he⟩
    rw [nI_add, ← tt_40]
    exact nI_ge hf (by omega)
  · exact fun PF PT PV _ yp h => h
  · refine tt_yth (br_f g1 (tt_yth (br_f g2 (tt_ylist he rfl (fun PF' PT' PV' hL => ?_)))))
    refine br_t ?_ (hQ PF' PT' PV' hL _ ⟨1, br_t (nI_le (Nat.le_refl _) (by omega)) ⟨rfl, tt_rel hle⟩⟩)
    rw [nI_add, ← tt_40]
    exact nI_le hle (by omega)
