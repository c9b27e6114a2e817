/-! calls that ask and lay -/
section CE
def Same (fx fm : Mem → Option (Int32 × Mem)) : Prop := ∀ M, Rel M → Ev (fx M) (fun r M1 => Ev (fm M1) (fun r2 M2 => r2 = r ∧ Rel M2))
theorem bt_and {a b : Prop} [Decidable a] [Decidable b] : (bt (decide a && decide b) = 0) ↔ ¬ (a ∧ b) := by
  rw [bt_0]
  simp
theorem gd_isB {α : Type} {b : Bool} {f : Option (α × Mem)} : gd (isB (bt b)) f = f := by rw [isB_bt]; rfl
theorem cellX_ev (M : Mem) (v : Int32) : fX10_isCell v M = some (bt (decide (0 ≤ v) && decide (v ≤ 35)), M) := by
  unfold fX10_isCell
  rw [within_ev, ob_some, gd_isB]
theorem cellM_ev (M : Mem) (v : Int32) : fX11_isCell v M = some (bt (decide (0 ≤ v) && decide (v ≤ 35)), M) := by
  unfold fX11_isCell
  rw [in_ev, ob_some, gd_isB]
theorem rng {v : Int32} {n : Nat} (hn : n < 2 ^ 31) (h : 0 ≤ v ∧ v ≤ nI n) : ∃ k, k ≤ n ∧ v = nI k := by
  have h0 := Int32.le_iff_toInt_le.mp h.1
  have h1 := Int32.le_iff_toInt_le.mp h.2
  rw [nI_toInt hn] at h1
  rw [show (0 : Int32).toInt = 0 by decide] at h0
  exact ⟨v.toNatClampNeg, by show v.toInt.toNat ≤ n; omega, nI_ex h0⟩
theorem under_same (v : Int32) : Same (fX10_under v) (fX11_under v) := by
  rintro M ⟨T, h⟩
  have hv : vwX 0 M = vwM M := h.2.2.2.2.2.1
  unfold fX10_under
  rw [cellX_ev, ob_some]
  refine Ev.ite (fun h0 => Ev.ret ?_) (fun h0 => ?_)
  · unfold fX11_under
    rw [cellM_ev, ob_some, if_pos h0]
    exact Ev.ret ⟨rfl, T, h⟩
  · obtain ⟨c, hc, rfl⟩ := rng (n := 35) (by decide) (Decidable.byContradiction fun q => h0 (bt_and.mpr q))
    have hin : inb (nI c) 36 = true := inb_nI (by omega) (by decide)
    refine Ev.gd hin (Ev.ret ?_)
    unfold fX11_under
    rw [cellM_ev, ob_some, if_neg h0]
    refine Ev.gd hin (Ev.ret ⟨?_, T, h⟩)
    rw [nI_clamp (show c < 2 ^ 31 by omega), vwX_T (r := 0) (M := M) (by omega), vwM_T (M := M) (by omega), hv]
end CE
