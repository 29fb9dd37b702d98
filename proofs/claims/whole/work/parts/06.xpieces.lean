theorem tt_xcnt6 {post : Int32 → Prop} {f t : Int32} {T F G H V : Nat → Int32} {nn a b : Nat} (hn : nn ≤ 40) (hb : b < 2 ^ 30) (hp : post (nI (tt_c (tt_k T F G H V t nn) a b))) : ∀ m d : Nat, d + m = b → a ≤ d → ∀ n, m < n → wX_countPieces_6 post (nI nn) t (nI a) (nI b) f T F G H V n (nI (tt_c (tt_k T F G H V t nn) a d)) (nI d) := by
  intro m
  induction m with
  | zero =>
    intro d hd ha n hn2
    cases n with
    | zero => omega
    | succ n =>
      have e : d = b := by omega
      subst e
      exact br_t (nI_le (Nat.le_refl _) (by omega)) hp
  | succ m ih =>
    intro d hd ha n hn2
    cases n with
    | zero => omega
    | succ n =>
      refine br_f (nI_ge (by omega) (by omega)) (tt_xst hn ha (by omega) ?_)
      by_cases z : tt_st (tt_k T F G H V t nn) a d = true
      · rw [if_pos z]
        refine br_f (by decide) (nm_r (nI_1 _) (nm_r (nI_1 _) ?_))
        have := ih (d + 1) (by omega) (by omega) n (by omega)
        rw [tt_c_s z] at this
        exact this
      · rw [if_neg z]
        refine br_t rfl (nm_r (nI_1 _) ?_)
        have := ih (d + 1) (by omega) (by omega) n (by omega)
        rw [tt_c_n z] at this
        exact this
theorem tt_xcnt {post : Int32 → Prop} {f t : Int32} {T F G H V : Nat → Int32} {nn a b : Nat} (hn : nn ≤ 40) (hab : a ≤ b) (hb : b < 2 ^ 30) (hp : post (nI (tt_c (tt_k T F G H V t nn) a b))) : wpX_countPieces post (f, T, F, G, H, V) (nI nn) t (nI a) (nI b) := by
  refine ⟨b - a + 1, ?_⟩
  have := tt_xcnt6 (f := f) hn hb hp (b - a) a (by omega) (Nat.le_refl _) (b - a + 1) (by omega)
  rw [tt_c_a a (Nat.le_refl _)] at this
  exact this
theorem tt_xend14 {post : Int32 → Prop} {f t : Int32} {T F G H V : Nat → Int32} {nn b : Nat} {o : Option Nat} (hn : nn ≤ 40) (hb : b < 2 ^ 30) (ho : ∀ j, o = some j → j < 40) : ∀ m d : Nat, d + m = b → post (nI (tt_fe (tt_k T F G H V t nn) (o.map V) m d)) → ∀ n, m < n → wX_endOfPiece_14 post (nI nn) t (nI b) (tt_en o) f T F G H V n (nI d) := by
  intro m
  induction m with
  | zero =>
    intro d hd hp n hn2
    cases n with
    | zero => omega
    | succ n =>
      have e : d = b := by omega
      subst e
      exact br_t (nI_le (Nat.le_refl _) (by omega)) hp
  | succ m ih =>
    intro d hd hp n hn2
    cases n with
    | zero => omega
    | succ n =>
      refine br_f (nI_ge (by omega) (by omega)) (tt_xsrc hn ?_)
      refine tt_xsame ho (fun i hi => by have := tt_so_lt hi; omega) ?_
      have hk : tt_k T F G H V t nn d = (tt_so T F G H t (nI d) nn).map V := rfl
      rw [← hk]
      rw [tt_fe] at hp
      by_cases z : o.map V = tt_k T F G H V t nn d
      · rw [if_pos z] at hp
        rw [if_pos z]
        refine br_f (by decide) (nm_r (nI_1 _) ?_)
        exact ih (d + 1) (by omega) hp n (by omega)
      · rw [if_neg z] at hp
        rw [if_neg z]
        exact br_t rfl hp
theorem tt_xend {post : Int32 → Prop} {f t : Int32} {T F G H V : Nat → Int32} {nn s b : Nat} (hn : nn ≤ 40) (hs : s < b) (hb : b < 2 ^ 30) (hp : post (nI (tt_e (tt_k T F G H V t nn) s b))) : wpX_endOfPiece post (f, T, F, G, H, V) (nI nn) t (nI s) (nI b) := by
  refine tt_xsrc hn ?_
  refine nm_r (nI_1 _) ⟨b - (s + 1) + 1, ?_⟩
  exact tt_xend14 hn hb (fun i hi => by have := tt_so_lt hi; omega) (b - (s + 1)) (s + 1) (by omega) hp _ (by omega)
theorem tt_xstart6 {post : Int32 → Prop} {f t i : Int32} {T F G H V : Nat → Int32} {nn : Nat} (hn : nn ≤ 40) (h1 : ∀ s, s < 100 → tt_st (tt_k T F G H V t nn) 0 s = true → nI (tt_c (tt_k T F G H V t nn) 0 s) = i → post (nI s)) (h2 : (∀ s, s < 100 → tt_st (tt_k T F G H V t nn) 0 s = true → ¬ nI (tt_c (tt_k T F G H V t nn) 0 s) = i) → post (-5)) : ∀ m d : Nat, d + m = 100 → (∀ s, s < d → tt_st (tt_k T F G H V t nn) 0 s = true → ¬ nI (tt_c (tt_k T F G H V t nn) 0 s) = i) → ∀ n, m < n → wX_startOfPiece_6 post (nI nn) t i f T F G H V n (nI (tt_c (tt_k T F G H V t nn) 0 d)) (nI d) := by
  intro m
  induction m with
  | zero =>
    intro d hd hq n hn2
    cases n with
    | zero => omega
    | succ n =>
      have e : d = 100 := by omega
      subst e
      refine br_t ?_ (h2 hq)
      rw [tt_100]; decide
  | succ m ih =>
    intro d hd hq n hn2
    cases n with
    | zero => omega
    | succ n =>
      refine br_f ?_ (tt_xst (a := 0) hn (Nat.zero_le _) (by omega) ?_)
      · rw [← tt_100]; exact nI_ge (by omega) (by omega)
      · by_cases z : tt_st (tt_k T F G H V t nn) 0 d = true
        · rw [if_pos z]
          refine br_f (by decide) ?_
          by_cases y : nI (tt_c (tt_k T F G H V t nn) 0 d) = i
          · exact br_t y (h1 d (by omega) z y)
          · refine br_f y (nm_r (nI_1 _) (nm_r (nI_1 _) ?_))
            have := ih (d + 1) (by omega) (fun s hs hz => by
              by_cases q : s = d
              · rw [q]; exact y
              · exact hq s (by omega) hz) n (by omega)
            rw [tt_c_s z] at this
            exact this
        · rw [if_neg z]
          refine br_t rfl (nm_r (nI_1 _) ?_)
          have := ih (d + 1) (by omega) (fun s hs hz => by
              by_cases q : s = d
              · subst q; exact absurd hz z
              · exact hq s (by omega) hz) n (by omega)
          rw [tt_c_n z] at this
          exact this
theorem tt_xstart {post : Int32 → Prop} {f t i : Int32} {T F G H V : Nat → Int32} {nn : Nat} (hn : nn ≤ 40) (h1 : ∀ s, s < 100 → tt_st (tt_k T F G H V t nn) 0 s = true → nI (tt_c (tt_k T F G H V t nn) 0 s) = i → post (nI s)) (h2 : (∀ s, s < 100 → tt_st (tt_k T F G H V t nn) 0 s = true → ¬ nI (tt_c (tt_k T F G H V t nn) 0 s) = i) → post (-5)) : wpX_startOfPiece post (f, T, F, G, H, V) (nI nn) t i :=
  ⟨101, tt_xstart6 hn h1 h2 100 0 rfl (fun s hs => absurd hs (Nat.not_lt_zero _)) 101 (by omega)⟩
theorem tt_xapp {post : SX → Prop} {e : Nat} {T F G H V : Nat → Int32} {t a b h v : Int32} (he : e < 40) (hp : post (nI (e + 1), upd T e t, upd F e a, upd G e b, upd H e (vp_nar .boolean h), upd V e v)) : wpX_append post (nI e, T, F, G, H, V) t a b h v := by
  have hi : vp_in (nI e) 40 := vp_in_nI he (by omega)
  have hc : (nI e).toNatClampNeg = e := nI_clamp (by omega)
  refine ⟨hi, nm_r (congrArg (upd T · t) hc) ⟨hi, nm_r (congrArg (upd F · a) hc) ⟨hi, nm_r (congrArg (upd G · b) hc) ⟨hi, nm_r (congrArg (upd H · (vp_nar .boolean h)) hc) ⟨hi, nm_r (congrArg (upd V · v) hc) (nm_r (nI_1 e) hp)⟩⟩⟩⟩⟩
theorem tt_ag_up {e n : Nat} {T F G H V T' F' G' H' V' : Nat → Int32} {t a b h v : Int32} (hn : e ≤ n) (hag : tt_ag e T F G H V T' F' G' H' V') : tt_ag e T F G H V (upd T' n t) (upd F' n a) (upd G' n b) (upd H' n h) (upd V' n v) := by
  intro j hj
  rw [pk_un (by omega), pk_un (by omega), pk_un (by omega), pk_un (by omega), pk_un (by omega)]
  exact hag j hj
theorem tt_k_congr {T F G H V T' F' G' H' V' : Nat → Int32} {t : Int32} {n : Nat} (h : tt_ag n T F G H V T' F' G' H' V') : tt_k T' F' G' H' V' t n = tt_k T F G H V t n := funext fun _ => tt_kn_congr h
/-- the loop that enters the pieces: Q j is what holds once j entries are made -/
theorem tt_xent34 {post : Int32 → SX → Prop} {t t' more : Int32} {T F G H V : Nat → Int32} {e a b : Nat} {k : Nat → Option Int32} (hk : k = tt_k T F G H V t e) (hb : b < 2 ^ 30) (Q : Nat → (Nat → Int32) → (Nat → Int32) → (Nat → Int32) → (Nat → Int32) → (Nat → Int32) → Prop)
    (hfull : e + tt_c k a b ≤ 40)
    (hstep : ∀ (d : Nat) (v : Int32) (T' F' G' H' V' : Nat → Int32), a ≤ d → d < b → tt_st k a d = true → k d = some v → Q (tt_c k a d) T' F' G' H' V' → Q (tt_c k a d + 1) (upd T' (e + tt_c k a d) t') (upd F' (e + tt_c k a d) (nI d)) (upd G' (e + tt_c k a d) (nI (tt_e k d b))) (upd H' (e + tt_c k a d) (vp_nar .boolean 1)) (upd V' (e + tt_c k a d) (v + more)))
    (hend : ∀ (T' F' G' H' V' : Nat → Int32), Q (tt_c k a b) T' F' G' H' V' → post (nI (tt_c k a b)) (nI (e + tt_c k a b), T', F', G', H', V')) :
    ∀ m d : Nat, d + m = b → a ≤ d → ∀ (T' F' G' H' V' : Nat → Int32), tt_ag e T F G H V T' F' G' H' V' → Q (tt_c k a d) T' F' G' H' V' → ∀ n, m < n → wX_enterPieces_34 post t t' (nI a) (nI b) more (nI e) (nI (tt_c k a b)) n (nI d) (nI (e + tt_c k a d)) T' F' G' H' V' := by
  intro m
  induction m with
  | zero =>
    intro d hd had T' F' G' H' V' hag hQ n hn
    cases n with
    | zero => omega
    | succ n =>
      have ed : d = b := by omega
      subst ed
      exact br_t (nI_le (Nat.le_refl _) (by omega)) (hend T' F' G' H' V' hQ)
  | succ m ih =>
    intro d hd had T' F' G' H' V' hag hQ n hn
    cases n with
    | zero => omega
    | succ n =>
      have hk' : tt_k T' F' G' H' V' t e = k := by rw [hk]; exact tt_k_congr hag
      refine br_f (nI_ge (by omega) (by omega)) (tt_xst (by omega) had (by omega) ?_)
      rw [hk']
      by_cases z : tt_st k a d = true
      · rw [if_pos z]
        refine br_f (by decide) (tt_xsrc (by omega) (tt_xend (by omega) (by omega) hb ?_))
        rw [hk']
        have hcl : tt_c k a d < tt_c k a b := tt_c_lt z (by omega)
        have hkd : (tt_so T' F' G' H' t (nI d) e).map V' = k d := by rw [← hk']; rfl
        cases es : tt_so T' F' G' H' t (nI d) e with
        | none =>
          rw [es] at hkd
          exact absurd hkd.symm (tt_st_iff.mp z).2.1
        | some j =>
          rw [es] at hkd
          have hj := tt_so_lt es
          have hc : (nI j).toNatClampNeg = j := nI_clamp (by omega)
          refine ⟨vp_in_nI (by omega) (by omega), ?_⟩
          show wpX_append _ _ _ _ _ _ (V' (nI j).toNatClampNeg + more)
          rw [hc]
          refine tt_xapp (by omega) (nm_r (nI_1 d) ?_)
          have := ih (d + 1) (by omega) (by omega) _ _ _ _ _ (tt_ag_up (Nat.le_add_right e (tt_c k a d)) hag) (by rw [tt_c_s z]; exact hstep d (V' j) T' F' G' H' V' had (by omega) z hkd.symm hQ) n (by omega)
          rw [tt_c_s z] at this
          exact this
      · rw [if_neg z]
        refine br_t rfl (nm_r (nI_1 d) ?_)
        have := ih (d + 1) (by omega) (by omega) T' F' G' H' V' hag (by rw [tt_c_n z]; exact hQ) n (by omega)
        rw [tt_c_n z] at this
        exact this
theorem tt_xent {post : Int32 → SX → Prop} {t t' more : Int32} {T F G H V : Nat → Int32} {e a b : Nat} {k : Nat → Option Int32} (hk : k = tt_k T F G H V t e) (he : e ≤ 40) (hab : a ≤ b) (hb : b < 2 ^ 30) (Q : Nat → (Nat → Int32) → (Nat → Int32) → (Nat → Int32) → (Nat → Int32) → (Nat → Int32) → Prop)
    (hfull : 40 < e + tt_c k a b → post (-3) (nI e, T, F, G, H, V))
    (hQ : e + tt_c k a b ≤ 40 → Q 0 T F G H V)
    (hstep : ∀ (d : Nat) (v : Int32) (T' F' G' H' V' : Nat → Int32), a ≤ d → d < b → tt_st k a d = true → k d = some v → e + tt_c k a b ≤ 40 → Q (tt_c k a d) T' F' G' H' V' → Q (tt_c k a d + 1) (upd T' (e + tt_c k a d) t') (upd F' (e + tt_c k a d) (nI d)) (upd G' (e + tt_c k a d) (nI (tt_e k d b))) (upd H' (e + tt_c k a d) (vp_nar .boolean 1)) (upd V' (e + tt_c k a d) (v + more)))
    (hend : ∀ (T' F' G' H' V' : Nat → Int32), e + tt_c k a b ≤ 40 → Q (tt_c k a b) T' F' G' H' V' → post (nI (tt_c k a b)) (nI (e + tt_c k a b), T', F', G', H', V')) :
    wpX_enterPieces post (nI e, T, F, G, H, V) t t' (nI a) (nI b) more := by
  refine tt_xcnt he hab hb ?_
  rw [← hk]
  have hcb : tt_c k a b ≤ b := tt_c_le b
  show (nI e + nI (tt_c k a b) ≤ 40 → _) ∧ (¬ nI e + nI (tt_c k a b) ≤ 40 → _)
  rw [nI_add, ← tt_40, nI_leI (by omega) (by omega)]
  by_cases q : e + tt_c k a b ≤ 40
  · refine br_t q ⟨b - a + 1, ?_⟩
    have := tt_xent34 (post := post) (more := more) (t' := t') hk hb Q q (fun d v T' F' G' H' V' h1 h2 h3 h4 h5 => hstep d v T' F' G' H' V' h1 h2 h3 h4 q h5) (fun T' F' G' H' V' h => hend T' F' G' H' V' q h) (b - a) a (by omega) (Nat.le_refl _) T F G H V (fun j _ => ⟨rfl, rfl, rfl, rfl, rfl⟩) (by rw [tt_c_a a (Nat.le_refl _)]; exact hQ q) (b - a + 1) (by omega)
    rw [tt_c_a a (Nat.le_refl _)] at this
    exact this
  · exact br_f q (hfull (by omega))
