/-! the reference's walks -/
theorem tt_sn {v : Int32} {o : Option Int32} (h : o = some v) : o ≠ none := by rw [h]; exact (fun z => nomatch z)
theorem tt_ys5 (post : Int32 → Prop) (t d f p : Int32) (T F G H V PF PT PV : Nat → Int32) : ∀ m : Nat, m ≤ 40 → ∀ n, m < n → post (tt_en (tt_sp T F G t d m)) → wY_speaker_5 post t d f p T F G H V PF PT PV n (nI m - 1) := by
  intro m
  induction m with
  | zero =>
    intro _ n hn hp
    cases n with
    | zero => omega
    | succ n => exact br_t (show (nI 0 - 1 : Int32) < 0 from by decide +kernel) hp
  | succ m ih =>
    intro hm n hn hp
    cases n with
    | zero => omega
    | succ n =>
      rw [nI_pred]
      have hc : (nI m).toNatClampNeg = m := nI_clamp (by omega)
      have hi : vp_in (nI m) 40 := vp_in_nI (by omega) (by omega)
      have hnext : tt_sp T F G t d (m + 1) = tt_sp T F G t d m → ∀ x, x = nI m + (-1) → wY_speaker_5 post t d f p T F G H V PF PT PV n x := fun e x hx => by
        rw [hx, tt_dec]
        exact ih (by omega) n (by omega) (by rw [← e]; exact hp)
      rw [wY_speaker_5]
      dsimp only
      rw [hc]
      refine br_f (nI_pos (by omega)) ⟨hi, ?_⟩
      by_cases h1 : T m = t
      · refine br_t h1 ⟨hi, ?_⟩
        by_cases h2 : d < F m
        · exact br_t h2 (hnext (tt_sp_s2 h1 h2))
        · refine br_f h2 ⟨hi, ?_⟩
          by_cases h3 : G m ≤ d
          · exact br_t h3 (hnext (tt_sp_s3 h1 h2 h3))
          · refine br_f h3 ?_
            rw [tt_sp_s4 h1 h2 h3] at hp
            exact hp
      · exact br_f h1 (hnext (tt_sp_s1 h1))
theorem tt_yspk {post : Int32 → Prop} {f p t d : Int32} {T F G H V PF PT PV : Nat → Int32} {m : Nat} (hm : m ≤ 40) (hp : post (tt_en (tt_sp T F G t d m))) : wpY_speaker post (f, p, T, F, G, H, V, PF, PT, PV) (nI m) t d :=
  fun x hx => ⟨m + 1, by rw [hx]; exact tt_ys5 post t d f p T F G H V PF PT PV m hm (m + 1) (by omega) hp⟩
theorem tt_yknows {post : Int32 → Prop} {f p t d : Int32} {T F G H V PF PT PV : Nat → Int32} {m : Nat} (hm : m ≤ 40) (hp : post (tt_k1 (tt_kn T F G H V t d m))) : wpY_knows post (f, p, T, F, G, H, V, PF, PT, PV) (nI m) t d := by
  refine tt_yspk hm ?_
  cases e : tt_sp T F G t d m with
  | none =>
    rw [tt_kn_n e] at hp
    exact br_t (by decide) hp
  | some j =>
    have hj := tt_sp_lt e
    have hc : (nI j).toNatClampNeg = j := nI_clamp (by omega)
    refine br_f (nI_pos (by omega)) ⟨vp_in_nI (by omega) (by omega), ?_⟩
    show (H (nI j).toNatClampNeg = 0 → _) ∧ (¬ H (nI j).toNatClampNeg = 0 → _)
    rw [hc]
    by_cases z : H j = 0
    · rw [tt_kn_0 e z] at hp; exact br_t z hp
    · rw [tt_kn_1 e z] at hp; exact br_f z hp
theorem tt_yval {post : Int32 → Prop} {f p t d : Int32} {T F G H V PF PT PV : Nat → Int32} {m : Nat} (hm : m ≤ 40) (hp : post (tt_v5 (tt_kn T F G H V t d m))) : wpY_valueAt post (f, p, T, F, G, H, V, PF, PT, PV) (nI m) t d := by
  refine tt_yspk hm ?_
  cases e : tt_sp T F G t d m with
  | none =>
    rw [tt_kn_n e] at hp
    exact br_t (by decide) hp
  | some j =>
    have hj := tt_sp_lt e
    have hc : (nI j).toNatClampNeg = j := nI_clamp (by omega)
    have hi : vp_in (nI j) 40 := vp_in_nI (by omega) (by omega)
    refine br_f (nI_pos (by omega)) ⟨hi, ?_⟩
    show (H (nI j).toNatClampNeg = 0 → _) ∧ (¬ H (nI j).toNatClampNeg = 0 → vp_in (nI j) 40 ∧ post (V (nI j).toNatClampNeg))
    rw [hc]
    by_cases z : H j = 0
    · rw [tt_kn_0 e z] at hp; exact br_t z hp
    · rw [tt_kn_1 e z] at hp; exact br_f z ⟨hi, hp⟩
theorem tt_ysame {post : Int32 → Prop} {f p t d : Int32} {T F G H V PF PT PV : Nat → Int32} {n m : Nat} (hn : n ≤ 40) (hm : m ≤ 40) (hp : post (if tt_kn T F G H V t d n = tt_kn T F G H V t d m then 1 else 0)) : wpY_same post (f, p, T, F, G, H, V, PF, PT, PV) (nI n) (nI m) t d := by
  unfold wpY_same
  dsimp only
  refine tt_yknows hn ?_
  refine tt_yknows hm ?_
  cases e : tt_kn T F G H V t d n with
  | none =>
    rw [e] at hp
    cases e2 : tt_kn T F G H V t d m with
    | none =>
      rw [e2, if_pos rfl] at hp
      exact br_t rfl (br_t rfl hp)
    | some w =>
      rw [e2, if_neg (fun z => nomatch z)] at hp
      exact br_f (show ¬ (0 : Int32) = 1 from by decide) hp
  | some v =>
    rw [e] at hp
    cases e2 : tt_kn T F G H V t d m with
    | none =>
      rw [e2, if_neg (fun z => nomatch z)] at hp
      exact br_f (show ¬ (1 : Int32) = 0 from by decide) hp
    | some w =>
      rw [e2] at hp
      refine br_t rfl (br_f (show ¬ (1 : Int32) = 0 from by decide) (tt_yval hn (tt_yval hm ?_)))
      rw [e, e2]
      by_cases q : v = w
      · rw [if_pos (congrArg some q)] at hp; exact br_t q hp
      · rw [if_neg (fun z => q (Option.some.inj z))] at hp; exact br_f q hp
theorem tt_ymake {post : Int32 → SY → Prop} {e : Nat} {p : Int32} {T F G H V PF PT PV : Nat → Int32} {t a b h v : Int32} (he : e < 40) (hp : post (nI (e + 1)) (nI (e + 1), p, upd T e t, upd F e a, upd G e b, upd H e (vp_nar .boolean h), upd V e v, PF, PT, PV)) : wpY_make post (nI e, p, T, F, G, H, V, PF, PT, PV) t a b h v := by
  have hi : vp_in (nI e) 40 := vp_in_nI he (by omega)
  have hc : (nI e).toNatClampNeg = e := nI_clamp (by omega)
  refine ⟨hi, nm_r (congrArg (upd T · t) hc) ⟨hi, nm_r (congrArg (upd F · a) hc) ⟨hi, nm_r (congrArg (upd G · b) hc) ⟨hi, nm_r (congrArg (upd H · (vp_nar .boolean h)) hc) ⟨hi, nm_r (congrArg (upd V · v) hc) (nm_r (nI_1 e) hp)⟩⟩⟩⟩⟩
/-- whether the day before d is known -/
def tt_o (k : Nat → Option Int32) : Nat → Int32
  | 0 => 0
  | d + 1 => tt_k1 (k d)
theorem tt_ylist10 {post : SY → Prop} {f t : Int32} {T F G H V : Nat → Int32} {nn : Nat} {k : Nat → Option Int32} (hn : nn ≤ 40) (hk : k = tt_k T F G H V t nn)
    (hp : ∀ PF PT PV : Nat → Int32, tt_L k 100 PF PT PV → post (f, nI (tt_c k 0 100), T, F, G, H, V, PF, PT, PV)) :
    ∀ m d : Nat, d + m = 100 → ∀ PF PT PV : Nat → Int32, tt_L k d PF PT PV → ∀ n, m < n → wY_list_10 post (nI nn) t f n (tt_o k d) (nI d) (nI (tt_c k 0 d)) T F G H V PF PT PV := by
  intro m
  induction m with
  | zero =>
    intro d hd PF PT PV hL n hn2
    cases n with
    | zero => omega
    | succ n =>
      have e : d = 100 := by omega
      subst e
      refine br_t ?_ (hp PF PT PV hL)
      rw [tt_100]; decide
  | succ m ih =>
    intro d hd PF PT PV hL n hn2
    cases n with
    | zero => omega
    | succ n =>
      have hkd : tt_kn T F G H V t (nI d) nn = k d := by rw [hk]; rfl
      have hcd : tt_c k 0 d ≤ d := tt_c_le d
      refine br_f ?_ (tt_yknows hn (tt_yval hn ?_))
      · rw [← tt_100]; exact nI_ge (by omega) (by omega)
      rw [hkd]
      -- a new piece
      have hnew : ∀ v : Int32, k d = some v → tt_st k 0 d = true → wY_list_80 post (wY_list_10 post (nI nn) t f n) (nI nn) t (nI d) (tt_k1 (k d)) (tt_v5 (k d)) f (nI (tt_c k 0 d)) T F G H V PF PT PV := by
        intro v ev hs
        have hi : vp_in (nI (tt_c k 0 d)) 100 := vp_in_nI (by omega) (by omega)
        have hc : (nI (tt_c k 0 d)).toNatClampNeg = tt_c k 0 d := nI_clamp (by omega)
        rw [ev]
        refine br_f (show ¬ (1 : Int32) = 0 from by decide) ⟨hi, nm_r (congrArg (upd PF · (nI d)) hc) ⟨hi, nm_r (congrArg (upd PT · (nI d + 1)) hc) ⟨hi, nm_r (congrArg (upd PV · v) hc) (nm_r (nI_1 _) (nm_r (nI_1 d) ?_))⟩⟩⟩
        have := ih (d + 1) (by omega) _ _ _ (tt_L_new hs ev hL) n (by omega)
        rw [tt_c_s hs, show tt_o k (d + 1) = tt_k1 (k d) from rfl, ev] at this
        rw [nI_1]
        exact this
      cases ev : k d with
      | none =>
        refine br_t rfl (br_t rfl (nm_r (nI_1 d) ?_))
        have hs : ¬ tt_st k 0 d = true := fun z => (tt_st_iff.mp z).2.1 ev
        have := ih (d + 1) (by omega) _ _ _ (tt_L_none ev hL) n (by omega)
        rw [tt_c_n hs, show tt_o k (d + 1) = tt_k1 (k d) from rfl, ev] at this
        exact this
      | some v =>
        have hnew := hnew v ev
        rw [ev] at hnew
        refine br_f (show ¬ (1 : Int32) = 0 from by decide) ?_
        cases d with
        | zero =>
          exact br_t rfl (hnew (tt_st_iff.mpr ⟨Nat.le_refl _, tt_sn ev, Or.inl rfl⟩))
        | succ d =>
          show (tt_k1 (k d) = 0 → _) ∧ (¬ tt_k1 (k d) = 0 → _)
          cases eo : k d with
          | none =>
            exact br_t rfl (hnew (tt_st_iff.mpr ⟨Nat.zero_le _, tt_sn ev, Or.inr (by rw [Nat.add_sub_cancel, eo, ev]; exact (fun z => nomatch z))⟩))
          | some w =>
            obtain ⟨s, s1, s2, s3, s4⟩ := tt_last d (tt_sn eo)
            have hcs : tt_c k 0 s ≤ s := tt_c_le s
            have hi : vp_in (nI (tt_c k 0 s)) 100 := vp_in_nI (by omega) (by omega)
            have hc : (nI (tt_c k 0 s)).toNatClampNeg = tt_c k 0 s := nI_clamp (by omega)
            have hpv : PV (tt_c k 0 s) = w := by
              have h3 := (hL s (by omega) s2).2.2
              rw [s4 s (Nat.le_refl _) s1, eo] at h3
              exact Option.some.inj h3
            refine br_f (show ¬ (1 : Int32) = 0 from by decide) ?_
            have hpred : nI (tt_c k 0 (d + 1)) - 1 = nI (tt_c k 0 s) := by rw [← s3, nI_pred]
            rw [hpred, hc, hpv]
            refine ⟨hi, ?_⟩
            show (w = v → _) ∧ (¬ w = v → _)
            by_cases q : w = v
            · subst q
              refine br_t rfl ⟨hi, nm_e (nm_r (nI_1 (d + 1)) ?_)⟩
              rw [nI_1]
              have hs : ¬ tt_st k 0 (d + 1) = true := fun z => (tt_st_iff.mp z).2.2.elim (fun y => by omega) (fun y => y (by rw [Nat.add_sub_cancel, eo, ev]))
              have hj : ∀ j, s ≤ j → j ≤ d + 1 → k j = k s := by
                intro j j1 j2
                rw [s4 s (Nat.le_refl _) s1]
                by_cases y : j = d + 1
                · rw [y, ev, eo]
                · exact s4 j j1 (by omega)
              have := ih (d + 1 + 1) (by omega) _ _ _ (tt_L_ext (by omega) s2 s3 hj hL) n (by omega)
              rw [tt_c_n hs, show tt_o k (d + 1 + 1) = tt_k1 (k (d + 1)) from rfl, ev] at this
              exact this
            · exact br_f q (hnew (tt_st_iff.mpr ⟨Nat.zero_le _, tt_sn ev, Or.inr (by rw [Nat.add_sub_cancel, eo, ev]; exact fun z => q (Option.some.inj z))⟩))
theorem tt_ylist {post : SY → Prop} {f p t : Int32} {T F G H V PF PT PV : Nat → Int32} {nn : Nat} {k : Nat → Option Int32} (hn : nn ≤ 40) (hk : k = tt_k T F G H V t nn)
    (hp : ∀ PF PT PV : Nat → Int32, tt_L k 100 PF PT PV → post (f, nI (tt_c k 0 100), T, F, G, H, V, PF, PT, PV)) : wpY_list post (f, p, T, F, G, H, V, PF, PT, PV) (nI nn) t :=
  ⟨101, tt_ylist10 hn hk hp 100 0 rfl PF PT PV (fun s hs => absurd hs (Nat.not_lt_zero _)) 101 (by omega)⟩
