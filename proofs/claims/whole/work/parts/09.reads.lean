/-- both books hold the same entries -/
def i_Rel (k : Nat) (u : SX) (v : SY) : Prop := ∃ (e : Nat) (p : Int32) (T F G H V PF PT PV : Nat → Int32), e ≤ 40 ∧ u = (nI e, T, F, G, H, V) ∧ v = (nI e, p, T, F, G, H, V, PF, PT, PV)
theorem tt_rel {k e : Nat} {p : Int32} {T F G H V PF PT PV : Nat → Int32} (he : e ≤ 40) : i_Rel k (nI e, T, F, G, H, V) (nI e, p, T, F, G, H, V, PF, PT, PV) := ⟨e, p, T, F, G, H, V, PF, PT, PV, he, rfl, rfl⟩
theorem tt_xin {post : Int32 → SX → Prop} {e : Nat} {T F G H V : Nat → Int32} {t x h v : Int32} (he : e ≤ 40) (h1 : tt_gt t = 0 → post (-1) (nI e, T, F, G, H, V)) (h2 : ¬ tt_gt t = 0 → tt_gd x = 0 → post (-2) (nI e, T, F, G, H, V)) (h3 : ¬ tt_gt t = 0 → ¬ tt_gd x = 0 → e = 40 → post (-3) (nI e, T, F, G, H, V)) (h4 : ¬ tt_gt t = 0 → ¬ tt_gd x = 0 → e < 40 → post (nI (e + 1)) (nI (e + 1), upd T e t, upd F e (tt_fr x), upd G e (tt_to x), upd H e (vp_nar .boolean h), upd V e v)) : wpX_enter post (nI e, T, F, G, H, V) t x h v := by
  unfold wpX_enter wpX_firstOf wpX_behindLastOf
  dsimp only
  refine tt_xth ?_
  refine br_c h1 (fun g1 => ?_)
  refine tt_xds ?_
  refine br_c (h2 g1) (fun g2 => ?_)
  by_cases q : e < 40
  · refine br_t (by rw [← tt_40]; exact nI_lt q (by omega)) ?_
    have h5 := h4 g1 g2 q
    unfold tt_fr tt_to at h5
    exact tt_xapp q h5
  · refine br_f (by rw [← tt_40]; exact nI_nlt (by omega) (by omega)) (h3 g1 g2 (by omega))
theorem i_vc_say {k : Nat} {u : SX} {v : SY} (I : i_Rel k u v) (hk : k + 4 ≤ 2048) (v1 : Int32) (v2 : Int32) (v3 : Int32) : wpX_say (fun r u' => wpY_say (fun r' v' => r' = r ∧ i_Rel (k + 4) u' v') v v1 v2 v3) u v1 v2 v3 := by
  obtain ⟨e, p, T, F, G, H, V, PF, PT, PV, he, rfl, rfl⟩ := I
  unfold wpX_say wpY_say
  dsimp only
  refine tt_xin he (fun g1 => ?_) (fun g1 g2 => ?_) (fun g1 g2 g3 => ?_) (fun g1 g2 g3 => ?_)
  · refine tt_yrf ?_
    rw [show tt_rf v1 v2 = -1 from if_pos g1]
    exact br_f (by decide) ⟨rfl, tt_rel he⟩
  · refine tt_yrf ?_
    rw [show tt_rf v1 v2 = -2 from (if_neg g1).trans (if_pos g2)]
    exact br_f (by decide) ⟨rfl, tt_rel he⟩
  · refine tt_yrf ?_
    rw [show tt_rf v1 v2 = 0 from (if_neg g1).trans (if_neg g2)]
    refine br_t (by decide) (br_t ?_ ⟨rfl, tt_rel he⟩)
    rw [g3]; exact tt_40
  · refine tt_yrf ?_
    rw [show tt_rf v1 v2 = 0 from (if_neg g1).trans (if_neg g2)]
    refine br_t (by decide) (br_f ?_ ?_)
    · rw [← tt_40, nI_eq (by omega) (by omega)]; omega
    · exact tt_ymake g3 ⟨rfl, tt_rel g3⟩
theorem i_vc_unsay {k : Nat} {u : SX} {v : SY} (I : i_Rel k u v) (hk : k + 4 ≤ 2048) (v1 : Int32) (v2 : Int32) : wpX_unsay (fun r u' => wpY_unsay (fun r' v' => r' = r ∧ i_Rel (k + 4) u' v') v v1 v2) u v1 v2 := by
  obtain ⟨e, p, T, F, G, H, V, PF, PT, PV, he, rfl, rfl⟩ := I
  unfold wpX_unsay wpY_unsay
  dsimp only
  refine tt_xin he (fun g1 => ?_) (fun g1 g2 => ?_) (fun g1 g2 g3 => ?_) (fun g1 g2 g3 => ?_)
  · refine tt_yrf ?_
    rw [show tt_rf v1 v2 = -1 from if_pos g1]
    exact br_f (by decide) ⟨rfl, tt_rel he⟩
  · refine tt_yrf ?_
    rw [show tt_rf v1 v2 = -2 from (if_neg g1).trans (if_pos g2)]
    exact br_f (by decide) ⟨rfl, tt_rel he⟩
  · refine tt_yrf ?_
    rw [show tt_rf v1 v2 = 0 from (if_neg g1).trans (if_neg g2)]
    refine br_t (by decide) (br_t ?_ ⟨rfl, tt_rel he⟩)
    rw [g3]; exact tt_40
  · refine tt_yrf ?_
    rw [show tt_rf v1 v2 = 0 from (if_neg g1).trans (if_neg g2)]
    refine br_t (by decide) (br_f ?_ ?_)
    · rw [← tt_40, nI_eq (by omega) (by omega)]; omega
    · exact tt_ymake g3 ⟨rfl, tt_rel g3⟩
theorem i_vc_at {k : Nat} {u : SX} {v : SY} (I : i_Rel k u v) (hk : k + 4 ≤ 2048) (v1 : Int32) (v2 : Int32) (v3 : Int32) : wpX_at (fun r => wpY_at (fun r' => r' = r ∧ i_Rel (k + 4) u v) v v1 v2 v3) u v1 v2 v3 := by
  obtain ⟨e, p, T, F, G, H, V, PF, PT, PV, he, rfl, rfl⟩ := I
  unfold wpX_at wpY_at
  dsimp only
  refine tt_xen ?_
  refine br_c (fun g1 => ?_) (fun g1 => ?_)
  · exact tt_yen (br_t g1 ⟨rfl, tt_rel he⟩)
  refine tt_xth ?_
  refine br_c (fun g2 => ?_) (fun g2 => ?_)
  · exact tt_yen (br_f g1 (tt_yth (br_t g2 ⟨rfl, tt_rel he⟩)))
  refine tt_xdy ?_
  refine br_c (fun g3 => ?_) (fun g3 => ?_)
  · exact tt_yen (br_f g1 (tt_yth (br_f g2 (tt_ydy (br_t g3 ⟨rfl, tt_rel he⟩)))))
  have g1' := g1
  obtain ⟨n, hn, rfl⟩ := tt_gn_of he g1'
  refine tt_xsrc (by omega) ?_
  have hkn : tt_kn T F G H V v2 v3 n = (tt_so T F G H v2 v3 n).map V := rfl
  cases eo : tt_so T F G H v2 v3 n with
  | none =>
    rw [eo] at hkn
    refine br_t rfl ?_
    refine tt_yen (br_f g1 (tt_yth (br_f g2 (tt_ydy (br_f g3 (tt_yval (by omega) ?_))))))
    rw [hkn]
    exact ⟨rfl, tt_rel he⟩
  | some j =>
    rw [eo] at hkn
    have hj := tt_so_lt eo
    have hc : (nI j).toNatClampNeg = j := nI_clamp (by omega)
    refine br_f (tt_nm1 (by omega)) ⟨vp_in_nI (by omega) (by omega), ?_⟩
    refine tt_yen (br_f g1 (tt_yth (br_f g2 (tt_ydy (br_f g3 (tt_yval (by omega) ?_))))))
    rw [hkn]
    exact ⟨(congrArg V hc).symm, tt_rel he⟩
theorem i_vc_known {k : Nat} {u : SX} {v : SY} (I : i_Rel k u v) (hk : k + 4 ≤ 2048) (v1 : Int32) (v2 : Int32) (v3 : Int32) : wpX_known (fun r => wpY_known (fun r' => r' = r ∧ i_Rel (k + 4) u v) v v1 v2 v3) u v1 v2 v3 := by
  obtain ⟨e, p, T, F, G, H, V, PF, PT, PV, he, rfl, rfl⟩ := I
  unfold wpX_known wpY_known
  dsimp only
  refine tt_xen ?_
  refine br_c (fun g1 => ?_) (fun g1 => ?_)
  · exact tt_yen (br_t g1 ⟨rfl, tt_rel he⟩)
  refine tt_xth ?_
  refine br_c (fun g2 => ?_) (fun g2 => ?_)
  · exact tt_yen (br_f g1 (tt_yth (br_t g2 ⟨rfl, tt_rel he⟩)))
  refine tt_xdy ?_
  refine br_c (fun g3 => ?_) (fun g3 => ?_)
  · exact tt_yen (br_f g1 (tt_yth (br_f g2 (tt_ydy (br_t g3 ⟨rfl, tt_rel he⟩)))))
  have g1' := g1
  obtain ⟨n, hn, rfl⟩ := tt_gn_of he g1'
  refine tt_xsrc (by omega) ?_
  have hkn : tt_kn T F G H V v2 v3 n = (tt_so T F G H v2 v3 n).map V := rfl
  cases eo : tt_so T F G H v2 v3 n with
  | none =>
    rw [eo] at hkn
    refine br_t rfl ?_
    refine tt_yen (br_f g1 (tt_yth (br_f g2 (tt_ydy (br_f g3 (tt_yknows (by omega) ?_))))))
    rw [hkn]
    exact br_t rfl ⟨rfl, tt_rel he⟩
  | some j =>
    rw [eo] at hkn
    have hj := tt_so_lt eo
    refine br_f (tt_nm1 (by omega)) ?_
    refine tt_yen (br_f g1 (tt_yth (br_f g2 (tt_ydy (br_f g3 (tt_yknows (by omega) ?_))))))
    rw [hkn]
    exact br_f (show ¬ (1 : Int32) = 0 from by decide) ⟨rfl, tt_rel he⟩
theorem i_vc_sumAt {k : Nat} {u : SX} {v : SY} (I : i_Rel k u v) (hk : k + 4 ≤ 2048) (v1 : Int32) (v2 : Int32) : wpX_sumAt (fun r => wpY_sumAt (fun r' => r' = r ∧ i_Rel (k + 4) u v) v v1 v2) u v1 v2 := by
  obtain ⟨e, p, T, F, G, H, V, PF, PT, PV, he, rfl, rfl⟩ := I
  unfold wpX_sumAt wpY_sumAt
  dsimp only
  refine tt_xen ?_
  refine br_c (fun g1 => ?_) (fun g1 => ?_)
  · exact tt_yen (br_t g1 ⟨rfl, tt_rel he⟩)
  refine tt_xdy ?_
  refine br_c (fun g2 => ?_) (fun g2 => ?_)
  · exact tt_yen (br_f g1 (tt_ydy (br_t g2 ⟨rfl, tt_rel he⟩)))
  have g1' := g1
  obtain ⟨n, hn, rfl⟩ := tt_gn_of he g1'
  refine ⟨7, tt_xsum (by omega) ?_ 6 0 rfl 7 (by omega)⟩
  exact tt_yen (br_f g1 (tt_ydy (br_f g2 ⟨7, tt_ysum (by omega) ⟨rfl, tt_rel he⟩ 6 0 rfl 7 (by omega)⟩)))
theorem i_vc_changed {k : Nat} {u : SX} {v : SY} (I : i_Rel k u v) (hk : k + 4 ≤ 2048) (v1 : Int32) (v2 : Int32) (v3 : Int32) : wpX_changed (fun r => wpY_changed (fun r' => r' = r ∧ i_Rel (k + 4) u v) v v1 v2 v3) u v1 v2 v3 := by
  obtain ⟨e, p, T, F, G, H, V, PF, PT, PV, he, rfl, rfl⟩ := I
  unfold wpX_changed wpY_changed
  dsimp only
  refine tt_xen ?_
  refine br_c (fun g1 => ?_) (fun g1 => ?_)
  · exact tt_yen (br_t g1 ⟨rfl, tt_rel he⟩)
  refine tt_xen ?_
  refine br_c (fun g2 => ?_) (fun g2 => ?_)
  · exact tt_yen (br_f g1 (tt_yen (br_t g2 ⟨rfl, tt_rel he⟩)))
  refine tt_xth ?_
  refine br_c (fun g3 => ?_) (fun g3 => ?_)
  · exact tt_yen (br_f g1 (tt_yen (br_f g2 (tt_yth (br_t g3 ⟨rfl, tt_rel he⟩)))))
  have g1' := g1
  obtain ⟨n, hn, rfl⟩ := tt_gn_of he g1'
  have g2' := g2
  obtain ⟨m, hm, rfl⟩ := tt_gn_of he g2'
  refine ⟨101, tt_xch (by omega) (by omega) ?_ 100 0 rfl 101 (by omega)⟩
  exact tt_yen (br_f g1 (tt_yen (br_f g2 (tt_yth (br_f g3 ⟨101, tt_ych (by omega) (by omega) ⟨rfl, tt_rel he⟩ 100 0 rfl 101 (by omega)⟩)))))
theorem i_vc_since {k : Nat} {u : SX} {v : SY} (I : i_Rel k u v) (hk : k + 4 ≤ 2048) (v1 : Int32) (v2 : Int32) : wpX_since (fun r => wpY_since (fun r' => r' = r ∧ i_Rel (k + 4) u v) v v1 v2) u v1 v2 := by
  obtain ⟨e, p, T, F, G, H, V, PF, PT, PV, he, rfl, rfl⟩ := I
  unfold wpX_since wpY_since
  dsimp only
  refine tt_xth ?_
  refine br_c (fun g1 => ?_) (fun g1 => ?_)
  · exact tt_yth (br_t g1 ⟨rfl, tt_rel he⟩)
  refine tt_xdy ?_
  refine br_c (fun g2 => ?_) (fun g2 => ?_)
  · exact tt_yth (br_f g1 (tt_ydy (br_t g2 ⟨rfl, tt_rel he⟩)))
  refine tt_xsrc he ?_
  refine ⟨41, tt_xsi he e (Nat.le_refl _) ?_ 41 (by omega)⟩
  exact tt_yth (br_f g1 (tt_ydy (br_f g2 ⟨41, tt_ysi he e (Nat.le_refl _) ⟨rfl, tt_rel he⟩ 41 (by omega)⟩)))
theorem i_vc_pieces {k : Nat} {u : SX} {v : SY} (I : i_Rel k u v) (hk : k + 4 ≤ 2048) (v1 : Int32) (v2 : Int32) : wpX_pieces (fun r => wpY_pieces (fun r' v' => r' = r ∧ i_Rel (k + 4) u v') v v1 v2) u v1 v2 := by
  obtain ⟨e, p, T, F, G, H, V, PF, PT, PV, he, rfl, rfl⟩ := I
  unfold wpX_pieces wpY_pieces
  dsimp only
  refine tt_xen ?_
  refine br_c (fun g1 => ?_) (fun g1 => ?_)
  · exact tt_yen (br_t g1 ⟨rfl, tt_rel he⟩)
  refine tt_xth ?_
  refine br_c (fun g2 => ?_) (fun g2 => ?_)
  · exact tt_yen (br_f g1 (tt_yth (br_t g2 ⟨rfl, tt_rel he⟩)))
  have g1' := g1
  obtain ⟨n, hn, rfl⟩ := tt_gn_of he g1'
  refine tt_xcnt (a := 0) (b := 100) (by omega) (by omega) (by omega) ?_
  exact tt_yen (br_f g1 (tt_yth (br_f g2 (tt_ylist (by omega) rfl (fun PF' PT' PV' hL => ⟨rfl, tt_rel he⟩)))))
