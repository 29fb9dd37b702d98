theorem i_up {k : Nat} {u : SX} {v : SY} (h : i_Rel k u v) : i_Rel (k + 4) u v := h
theorem i_vc0 : wpX_init (fun u => wpY_init (fun v => i_Rel 0 u v)) := tt_rel (k := 0) (e := 0) (Nat.zero_le _)
theorem i_vc_clear {k : Nat} {u : SX} {v : SY} (I : i_Rel k u v) (hk : k + 4 ≤ 2048) : wpX_clear (fun u' => wpY_clear (fun v' => i_Rel (k + 4) u' v') v) u := by
  obtain ⟨e, p, T, F, G, H, V, PF, PT, PV, he, rfl, rfl⟩ := I
  exact tt_rel (k := k + 4) (e := 0) (Nat.zero_le _)
