/-! put -/
section PU
def setA (R : Rm) (t p : Nat) (v : Int32) : Rm := (R.1, fun t' p' => if t' = t ∧ p' = p then v else R.2.1 t' p', R.2.2)
theorem vwX_put {r t p : Nat} {M : Mem} {v : Int32} (ht : t < 4) (hp : p < rN (vwX r M)) : vwX r (mst M 18 (4 * r + t) p v) = setA (vwX r M) t p v := by
  have hp2 : p < (M 15 r 7).toNatClampNeg := hp
  unfold vwX setA
  rw [mst_n (show ¬ (16 = 18 ∧ r = 4 * r + t) from fun q => absurd q.1 (by decide)), mst_n (show ¬ (15 = 18 ∧ r = 4 * r + t) from fun q => absurd q.1 (by decide))]
  refine Prod.ext rfl (Prod.ext ?_ rfl)
  funext t' p'
  show (if t' < 4 ∧ p' < (M 15 r 7).toNatClampNeg then mst M 18 (4 * r + t) p v 18 (4 * r + t') p' else 0) = (if t' = t ∧ p' = p then v else (if t' < 4 ∧ p' < (M 15 r 7).toNatClampNeg then M 18 (4 * r + t') p' else 0))
  by_cases e : t' = t ∧ p' = p
  · obtain ⟨rfl, rfl⟩ := e
    rw [if_pos ⟨ht, hp2⟩, if_pos ⟨rfl, rfl⟩, mst_s]
    simp [upd]
  · rw [if_neg e]
    by_cases e2 : t' = t
    · subst e2
      rw [mst_s]
      have : p' ≠ p := fun q => e ⟨rfl, q⟩
      simp only [upd, if_neg this]
    · rw [mst_n (by omega)]
theorem trK_inj {t t' : Nat} (ht : t < 4) (ht' : t' < 4) (h : trK t = trK t') : t = t' := by
  have : ∀ a, a < 4 → ∀ b, b < 4 → trK a = trK b → a = b := by decide
  exact this t ht t' ht' h
theorem vwM_put {t p : Nat} {M : Mem} {v : Int32} (ht : t < 4) (hp : p < rN (vwM M)) : vwM (mst M (trK t) 0 p v) = setA (vwM M) t p v := by
  have hp2 : p < (M 22 0 0).toNatClampNeg := hp
  have n22 : trK t ≠ 22 := by unfold trK; split <;> decide
  have n27 : trK t ≠ 27 := by unfold trK; split <;> decide
  unfold vwM setA
  rw [mst_n (show ¬ (27 = trK t ∧ 0 = 0) from fun q => n27 q.1.symm), mst_n (show ¬ (22 = trK t ∧ 0 = 0) from fun q => n22 q.1.symm)]
  refine Prod.ext rfl (Prod.ext ?_ rfl)
  funext t' p'
  show (if t' < 4 ∧ p' < (M 22 0 0).toNatClampNeg then mst M (trK t) 0 p v (trK t') 0 p' else 0) = (if t' = t ∧ p' = p then v else (if t' < 4 ∧ p' < (M 22 0 0).toNatClampNeg then M (trK t') 0 p' else 0))
  by_cases e : t' = t ∧ p' = p
  · obtain ⟨rfl, rfl⟩ := e
    rw [if_pos ⟨ht, hp2⟩, if_pos ⟨rfl, rfl⟩, mst_s]
    simp [upd]
  · rw [if_neg e]
    by_cases h : t' < 4 ∧ p' < (M 22 0 0).toNatClampNeg
    · rw [if_pos h, if_pos h]
      by_cases e2 : t' = t
      · subst e2
        rw [mst_s]
        have : p' ≠ p := fun q => e ⟨rfl, q⟩
        simp only [upd, if_neg this]
      · rw [mst_n (fun q => e2 (trK_inj h.1 ht q.1))]
    · rw [if_neg h, if_neg h]
theorem okA_set {R : Rm} {t p n : Nat} (h : okA R) (ht : t < 2) (hn : n < (if t = 0 then 36 else 100)) : okA (setA R t p (nI n)) := by
  refine ⟨h.1, fun q hq => ?_⟩
  obtain ⟨h0, h1, h2, h3⟩ := h.2 q hq
  have key : ∀ t', rA (setA R t p (nI n)) t' q = (if t' = t ∧ q = p then nI n else rA R t' q) := fun _ => rfl
  rw [key, key, key, key]
  refine ⟨?_, ?_, ?_, ?_⟩
  · split
    · rename_i e
      exact ⟨n, by rw [if_pos e.1.symm] at hn; exact hn, rfl⟩
    · exact h0
  · split
    · rename_i e
      exact ⟨n, by rw [if_neg (by omega)] at hn; exact hn, rfl⟩
    · exact h1
  · rw [if_neg (by omega)]; exact h2
  · rw [if_neg (by omega)]; exact h3
end PU
