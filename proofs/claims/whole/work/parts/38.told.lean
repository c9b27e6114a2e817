/-! told -/
section TO
theorem told_same (v w : Int32) : Same (fX10_told v w) (fX11_told v w) := by
  rintro M ⟨T, h⟩
  have hv : vwX 0 M = vwM M := h.2.2.2.2.2.1
  have hX := h.2.2.2.1
  have hM := h.2.2.2.2.1
  unfold fX10_told
  rw [hasX_ev 0 v hX, ob_some]
  refine Ev.ite (fun h1 => Ev.ret ?_) (fun h1 => ?_)
  · unfold fX11_told
    rw [oneM_ev v hM, ob_some, ← hv, if_pos h1]
    exact Ev.ret ⟨rfl, T, h⟩
  · obtain ⟨p, hp, rfl⟩ := one_rng hX.2.2.2.1.1 (Decidable.byContradiction fun q => h1 (bt_and.mpr q))
    have hp6 : p < 6 := Nat.lt_of_lt_of_le hp hX.2.2.2.1.1
    have hin : inb (nI p) 6 = true := inb_nI hp6 (by decide)
    have cp := nI_clamp (show p < 2 ^ 31 by omega)
    have hpM : p < rN (vwM M) := by rw [← hv]; exact hp
    rw [within_ev, ob_some]
    refine Ev.ite (fun h0 => Ev.ret ?_) (fun h0 => ?_)
    · have hno := bt_and.mp h0
      unfold fX11_told
      rw [oneM_ev (nI p) hM, ob_some, ← hv, if_neg h1, if_neg (fun e => hno (by subst e; decide)), if_neg (fun e => hno (by subst e; decide)), if_neg (fun e => hno (by subst e; decide)), if_neg (fun e => hno (by subst e; decide))]
      exact Ev.ret ⟨rfl, T, h⟩
    · obtain ⟨t, ht, rfl⟩ := rng (n := 3) (by decide) (Decidable.byContradiction fun q => h0 (bt_and.mpr q))
      refine Ev.gd (inb_nI (by omega) (by decide)) (Ev.gd hin (Ev.ret ?_))
      rw [nI_clamp (show t < 2 ^ 31 by omega), cp, vwX_A (r := 0) (M := M) (by omega) hp, hv, ← vwM_A (by omega) hpM]
      unfold fX11_told
      rw [oneM_ev (nI p) hM, ob_some, ← hv, if_neg h1]
      match t, ht with
      | 0, _ =>
        rw [if_pos (by decide), cp]
        exact Ev.gd hin (Ev.ret ⟨rfl, T, h⟩)
      | 1, _ =>
        rw [if_neg (by decide), if_pos (by decide), cp]
        exact Ev.gd hin (Ev.ret ⟨rfl, T, h⟩)
      | 2, _ =>
        rw [if_neg (by decide), if_neg (by decide), if_pos (by decide), cp]
        exact Ev.gd hin (Ev.ret ⟨rfl, T, h⟩)
      | 3, _ =>
        rw [if_neg (by decide), if_neg (by decide), if_neg (by decide), if_pos (by decide), cp]
        exact Ev.gd hin (Ev.ret ⟨rfl, T, h⟩)
      | t + 4, h => omega
end TO
