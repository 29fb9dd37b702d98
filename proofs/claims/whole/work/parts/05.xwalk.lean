/-! the component's walks -/
theorem tt_so_of {T F G H : Nat → Int32} {t d : Int32} {n m : Nat} (h : tt_sp T F G t d n = tt_sp T F G t d m) : tt_so T F G H t d n = tt_so T F G H t d m := by
  unfold tt_so; rw [h]
theorem tt_so_j {T F G H : Nat → Int32} {t d : Int32} {n j : Nat} (h : tt_sp T F G t d n = some j) : tt_so T F G H t d n = if H j = 0 then none else some j := by
  unfold tt_so; rw [h]; rfl
theorem tt_xs5 (post : Int32 → Prop) (t d f : Int32) (T F G H V : Nat → Int32) : ∀ m : Nat, m ≤ 40 → ∀ n, m < n → post (tt_en (tt_so T F G H t d m)) → wX_sourceOf_5 post t d f T F G H V n (nI m - 1) := by
  intro m
  induction m with
  | zero =>
    intro _ n hn hp
    cases n with
    | zero => omega
    | succ n => exact br_t (show (nI 0 - 1 : Int32) < 0 from by decide +kernel) hp
  | succ m ih =>
    intro hm n hn hp
    cases n with
    | zero => omega
    | succ n =>
      rw [nI_pred]
      have hc : (nI m).toNatClampNeg = m := nI_clamp (by omega)
      have hi : vp_in (nI m) 40 := vp_in_nI (by omega) (by omega)
      have hnext : tt_sp T F G t d (m + 1) = tt_sp T F G t d m → ∀ x, x = nI m + (-1) → wX_sourceOf_5 post t d f T F G H V n x := fun e x hx => by
        rw [hx, tt_dec]
        exact ih (by omega) n (by omega) (by rw [← tt_so_of e]; exact hp)
      rw [wX_sourceOf_5]
      dsimp only
      rw [hc]
      refine br_f (nI_pos (by omega)) ⟨hi, ?_⟩
      by_cases h1 : T m = t
      · refine br_t h1 ⟨hi, ?_⟩
        by_cases h2 : d < F m
        · exact br_t h2 (hnext (tt_sp_s2 h1 h2))
        · refine br_f h2 ⟨hi, ?_⟩
          by_cases h3 : G m ≤ d
          · exact br_t h3 (hnext (tt_sp_s3 h1 h2 h3))
          · refine br_f h3 ⟨hi, ?_⟩
            rw [tt_so_j (tt_sp_s4 h1 h2 h3)] at hp
            by_cases h4 : H m = 0
            · rw [if_pos h4] at hp; exact br_t h4 hp
            · rw [if_neg h4] at hp; exact br_f h4 hp
      · exact br_f h1 (hnext (tt_sp_s1 h1))
theorem tt_xsrc {post : Int32 → Prop} {f t d : Int32} {T F G H V : Nat → Int32} {m : Nat} (hm : m ≤ 40) (hp : post (tt_en (tt_so T F G H t d m))) : wpX_sourceOf post (f, T, F, G, H, V) (nI m) t d :=
  fun x hx => ⟨m + 1, by rw [hx]; exact tt_xs5 post t d f T F G H V m hm (m + 1) (by omega) hp⟩
theorem tt_xsame {post : Int32 → Prop} {f : Int32} {T F G H V : Nat → Int32} {a b : Option Nat} (ha : ∀ j, a = some j → j < 40) (hb : ∀ j, b = some j → j < 40) (hp : post (if a.map V = b.map V then 1 else 0)) : wpX_saySame post (f, T, F, G, H, V) (tt_en a) (tt_en b) := by
  cases a with
  | none =>
    cases b with
    | none =>
      rw [if_pos rfl] at hp
      exact br_t rfl (br_t rfl hp)
    | some j =>
      have hj := hb j rfl
      rw [if_neg (fun z => nomatch z)] at hp
      exact br_t rfl (br_f (fun z => tt_nm1 (by omega : j < 2 ^ 31) z.symm) hp)
  | some i =>
    have hi := ha i rfl
    cases b with
    | none =>
      rw [if_neg (fun z => nomatch z)] at hp
      exact br_f (tt_nm1 (by omega)) (br_t rfl (br_f (tt_nm1 (by omega)) hp))
    | some j =>
      have hj := hb j rfl
      have c1 : (nI i).toNatClampNeg = i := nI_clamp (by omega)
      have c2 : (nI j).toNatClampNeg = j := nI_clamp (by omega)
      refine br_f (tt_nm1 (by omega)) (br_f (tt_nm1 (by omega)) ⟨vp_in_nI hi (by omega), vp_in_nI hj (by omega), ?_⟩)
      show (V (nI i).toNatClampNeg = V (nI j).toNatClampNeg → _) ∧ (¬ V (nI i).toNatClampNeg = V (nI j).toNatClampNeg → _)
      rw [c1, c2]
      have hp : post (if some (V i) = some (V j) then 1 else 0) := hp
      by_cases e : V i = V j
      · rw [if_pos (congrArg some e)] at hp; exact br_t e hp
      · rw [if_neg (fun z => e (Option.some.inj z))] at hp; exact br_f e hp
/-- what is known of the thing t as of n, by days -/
def tt_k (T F G H V : Nat → Int32) (t : Int32) (n d : Nat) : Option Int32 := tt_kn T F G H V t (nI d) n
theorem tt_xst {post : Int32 → Prop} {f t : Int32} {T F G H V : Nat → Int32} {n a d : Nat} (hn : n ≤ 40) (had : a ≤ d) (hd : d < 2 ^ 31) (hp : post (if tt_st (tt_k T F G H V t n) a d = true then 1 else 0)) : wpX_startsPiece post (f, T, F, G, H, V) (nI n) t (nI d) (nI a) := by
  refine tt_xsrc hn ?_
  have hk : tt_k T F G H V t n d = (tt_so T F G H t (nI d) n).map V := rfl
  cases e : tt_so T F G H t (nI d) n with
  | none =>
    rw [e] at hk
    rw [if_neg (fun z => (tt_st_iff.mp z).2.1 hk)] at hp
    exact br_t rfl hp
  | some j =>
    rw [e] at hk
    have hj := tt_so_lt e
    have hk' : tt_k T F G H V t n d ≠ none := by rw [hk]; exact fun z => nomatch z
    refine br_f (tt_nm1 (by omega)) ?_
    by_cases q : d = a
    · rw [if_pos (tt_st_iff.mpr ⟨had, hk', Or.inl q⟩)] at hp
      exact br_t (by rw [q]) hp
    · refine br_f (fun z => q ((nI_eq hd (by omega)).mp z)) ?_
      obtain ⟨d', rfl⟩ : ∃ d', d = d' + 1 := ⟨d - 1, by omega⟩
      rw [nI_pred]
      refine tt_xsrc hn ?_
      show wpX_saySame _ _ _ (tt_en (some j))
      refine tt_xsame (fun i hi => by have := tt_so_lt hi; omega) (fun i hi => by cases hi; omega) ?_
      have hk2 : tt_k T F G H V t n d' = (tt_so T F G H t (nI d') n).map V := rfl
      rw [← hk2, ← hk]
      by_cases e2 : tt_k T F G H V t n d' = tt_k T F G H V t n (d' + 1)
      · rw [if_neg (fun z => (tt_st_iff.mp z).2.2.elim q (fun y => y e2))] at hp
        rw [if_pos e2]
        exact br_f (by decide) hp
      · rw [if_pos (tt_st_iff.mpr ⟨had, hk', Or.inr e2⟩)] at hp
        rw [if_neg e2]
        exact br_t rfl hp
