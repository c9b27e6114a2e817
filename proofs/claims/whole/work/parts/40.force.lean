/-! force -/
section FO
def setL (R : Rm) (t : Nat) : Rm := (R.1, R.2.1, R.2.2.1, R.2.2.2.1, t)
theorem vwX_law {r t : Nat} {M : Mem} (ht : t < 6) : vwX r (mst M 15 r 9 (nI t)) = setL (vwX r M) t := by
  unfold vwX setL
  rw [mst_s, mst_n (show ¬ (16 = 15 ∧ r = r) by simp)]
  refine Prod.ext rfl (Prod.ext ?_ (Prod.ext rfl (Prod.ext rfl ?_)))
  · funext q p
    simp only [mst_n (show ¬ (18 = 15 ∧ 4 * r + q = r) from fun q => absurd q.1 (by decide))]
    rfl
  · show (nI t).toNatClampNeg = t
    exact nI_clamp (by omega)
theorem vwM_law {t : Nat} {M : Mem} (ht : t < 6) : vwM (mst M 22 0 12 (nI t)) = setL (vwM M) t := by
  unfold vwM setL
  rw [mst_s, mst_n (show ¬ (27 = 22 ∧ 0 = 0) by simp)]
  refine Prod.ext rfl (Prod.ext ?_ (Prod.ext rfl (Prod.ext rfl ?_)))
  · funext q p
    have : trK q ≠ 22 := by unfold trK; split <;> decide
    simp only [mst_n (show ¬ (trK q = 22 ∧ 0 = 0) from fun q => this q.1)]
    rfl
  · show (nI t).toNatClampNeg = t
    exact nI_clamp (by omega)
theorem force_same (v : Int32) : Same (fX10_force v) (fX11_force v) := by
  rintro M ⟨T, h⟩
  have hv : vwX 0 M = vwM M := h.2.2.2.2.2.1
  have hX := h.2.2.2.1
  have hM := h.2.2.2.2.1
  have hT6 := h.1.2.1
  have hT1 := h.1.1
  unfold fX10_force
  rw [within_ev, ob_some, h.2.1]
  refine Ev.ite (fun h0 => Ev.ret ?_) (fun h0 => ?_)
  · unfold fX11_force
    rw [in_ev, ob_some, h.2.2.1, if_pos h0]
    exact Ev.ret ⟨rfl, T, h⟩
  · obtain ⟨t, ht, rfl⟩ := one_rng hT6 (Decidable.byContradiction fun q => h0 (bt_and.mpr q))
    refine Ev.letv (Ev.let_ fun M4 h4 => Ev.ret ?_)
    have e22 : M4 22 0 = M 22 0 := by rw [h4, mst_n (by simp)]
    unfold fX11_force
    rw [in_ev, ob_some, e22, h.2.2.1, if_neg h0]
    refine Ev.letv (Ev.let_ fun M5 h5 => Ev.ret ?_)
    have x4 : vwX 0 M4 = setL (vwX 0 M) t := by rw [h4]; exact vwX_law (by omega)
    have x5 : vwX 0 M5 = vwX 0 M4 := vwX_eq (by rw [h5, mst_n (by simp)]) (by rw [h5, mst_n (by simp)]) (fun t _ => by rw [h5, mst_n (by simp)])
    have m4 : vwM M4 = vwM M := vwM_eq e22 (by rw [h4, mst_n (by simp)]) (by rw [h4, mst_n (by simp)]) (by rw [h4, mst_n (by simp)]) (by rw [h4, mst_n (by simp)]) (by rw [h4, mst_n (by simp)])
    have m5 : vwM M5 = setL (vwM M4) t := by rw [h5]; exact vwM_law (by omega)
    have hvv : vwX 0 M5 = vwM M5 := by rw [x5, x4, m5, m4, hv]
    have hx5 : vwX 0 M5 = setL (vwX 0 M) t := by rw [x5, x4]
    have f15 : M5 15 0 = upd (M 15 0) 9 (nI t) := by rw [h5, mst_n (by simp), h4, mst_s]
    have f22 : M5 22 0 = upd (M 22 0) 12 (nI t) := by rw [h5, mst_s, e22]
    obtain ⟨p1, p2, p3, p4, p5⟩ := hX
    obtain ⟨q1, q2, q3, q4, q5⟩ := hM
    refine ⟨?_, T, h.room (fun K i _ hr => ?_) ⟨by rw [f22]; rfl, by rw [f22]; rfl, by rw [f22]; rfl⟩ ⟨?_, ?_, ?_, ?_, ?_⟩ ⟨?_, ?_, ?_, ?_, ?_⟩ hvv (by rw [hx5]; exact h.2.2.2.2.2.2.1) (fun h1 => ⟨?_, fun p _ => ⟨by rw [h5, mst_n (by simp), h4, mst_n (by simp)], by rw [h5, mst_n (by simp), h4, mst_n (by simp)]⟩⟩)⟩
    · rw [q2, p2, hv]
    · rw [h5, mst_n (fun q => hr (Or.inr (Or.inr (Or.inr ⟨q.2, Or.inl q.1⟩)))), h4, mst_n (fun q => hr (Or.inr (Or.inl q)))]
    · rw [hx5, f15]; exact p1
    · rw [hx5, f15]; rfl
    · rw [hx5]; exact ht
    · rw [hx5]; exact p4
    · rw [hx5]; exact p5
    · rw [← hvv, hx5, f22, hv]; exact q1
    · rw [← hvv, hx5, f22]; rfl
    · rw [← hvv, hx5]; exact ht
    · rw [← hvv, hx5]; exact p4
    · rw [← hvv, hx5]; exact p5
    · rw [hx5]
      rcases h.2.2.2.2.2.2.2.2.2.1.2 with b | b
      · rw [h1] at b; exact absurd b (by decide)
      · exact b.2.2.2.2.2.2
end FO
