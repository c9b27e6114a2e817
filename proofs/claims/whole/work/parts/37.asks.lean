/-! asks, told -/
section AS
theorem ppl {n : Nat} (hn : n ≤ 6) : nI n - 1 = (if n = 0 then -1 else nI (n - 1)) := by
  match n, hn with
  | 0, _ => rfl
  | n + 1, _ => rw [nI_pred]; rfl
theorem one_rng {v : Int32} {n : Nat} (hn : n ≤ 6) (h : 0 ≤ v ∧ v ≤ nI n - 1) : ∃ p, p < n ∧ v = nI p := by
  rw [ppl hn] at h
  by_cases e : n = 0
  · rw [if_pos e] at h
    have a := Int32.le_iff_toInt_le.mp h.1
    have b := Int32.le_iff_toInt_le.mp h.2
    rw [show (0 : Int32).toInt = 0 by decide] at a
    rw [show (-1 : Int32).toInt = -1 by decide] at b
    omega
  · rw [if_neg e] at h
    obtain ⟨k, hk, e2⟩ := rng (n := n - 1) (by omega) h
    exact ⟨k, by omega, e2⟩
theorem hasX_ev {T : Nat} {M : Mem} (r : Nat) (v : Int32) (hI : InX T r M) : fX5_has r v M = some (bt (decide (0 ≤ v) && decide (v ≤ nI (rN (vwX r M)) - 1)), M) := by
  unfold fX5_has
  rw [within_ev, ob_some, gd_isB, hI.1]
theorem oneM_ev {T : Nat} {M : Mem} (v : Int32) (hI : InM T M) : fX11_isOne v M = some (bt (decide (0 ≤ v) && decide (v ≤ nI (rN (vwM M)) - 1)), M) := by
  unfold fX11_isOne
  rw [in_ev, ob_some, gd_isB, hI.1]
theorem kp_scS {r : Nat} {M M1 : Mem} (h : Off (scS r) M M1) : ∀ K i, keptK K i → M1 K i = M K i := fun K i hk => h.at (fun q => by
  have : K = 9 ∨ K = 19 := q.elim Or.inl (fun q => Or.inr q.1)
  simp only [keptK] at hk
  rcases this with rfl | rfl <;> simp at hk)
theorem kp_scM {M M1 : Mem} (h : Off scM M M1) : ∀ K i, keptK K i → M1 K i = M K i := fun K i hk => h.at (fun q => by
  simp only [keptK] at hk
  rcases q with rfl | rfl <;> simp at hk)
theorem asks_same (a v c : Int32) : Same (fX10_asks a v c) (fX11_asks a v c) := by
  rintro M ⟨T, h⟩
  have hv : vwX 0 M = vwM M := h.2.2.2.2.2.1
  have hX := h.2.2.2.1
  have hM := h.2.2.2.2.1
  unfold fX10_asks
  rw [within_ev, ob_some]
  refine Ev.ite (fun h0 => Ev.ret ?_) (fun h0 => ?_)
  · unfold fX11_asks
    rw [in_ev, ob_some, if_pos h0]
    exact Ev.ret ⟨rfl, T, h⟩
  · rw [hasX_ev 0 v hX, ob_some]
    refine Ev.ite (fun h1 => Ev.ret ?_) (fun h1 => ?_)
    · unfold fX11_asks
      rw [in_ev, ob_some, if_neg h0, oneM_ev v hM, ob_some, ← hv, if_pos h1]
      exact Ev.ret ⟨rfl, T, h⟩
    · rw [cellX_ev, ob_some]
      refine Ev.ite (fun h2 => Ev.ret ?_) (fun h2 => ?_)
      · unfold fX11_asks
        rw [in_ev, ob_some, if_neg h0, oneM_ev v hM, ob_some, ← hv, if_neg h1, cellM_ev, ob_some, if_pos h2]
        exact Ev.ret ⟨rfl, T, h⟩
      · obtain ⟨pt, hpt, rfl⟩ := rng (n := 2) (by decide) (Decidable.byContradiction fun q => h0 (bt_and.mpr q))
        obtain ⟨p, hp, rfl⟩ := one_rng hX.2.2.2.1.1 (Decidable.byContradiction fun q => h1 (bt_and.mpr q))
        obtain ⟨z, hz, rfl⟩ := rng (n := 35) (by decide) (Decidable.byContradiction fun q => h2 (bt_and.mpr q))
        refine Ev.bind (said_ev h.1 hX (by omega) hp (by omega)) (fun r1 M1 q1 => Ev.ret ?_)
        have h' : RelT T M1 := h.keep (kp_scS q1.2)
        have hm1 : vwM M1 = vwM M := by rw [← h'.2.2.2.2.2.1, scS_vw q1.2, hv]
        unfold fX11_asks
        rw [in_ev, ob_some, if_neg h0, oneM_ev (nI p) h'.2.2.2.2.1, ob_some, hm1, ← hv, if_neg h1, cellM_ev, ob_some, if_neg h2]
        refine Ev.bind (asksOf_ev h'.1 h'.2.2.2.2.1 (by omega) (by rw [hm1, ← hv]; exact hp) (by omega)) (fun r2 M2 q2 => Ev.ret ⟨?_, T, h'.keep (kp_scM q2.2)⟩)
        rw [q2.1, q1.1, hm1, hv, scS_sv q1.2]
end AS
