/-! both rooms changed alike, in any way -/
section RR
abbrev roomK (K i : Nat) : Prop := (K = 16 ∧ i = 0) ∨ (K = 15 ∧ i = 0) ∨ (K = 18 ∧ i < 4) ∨ (i = 0 ∧ (K = 22 ∨ K = 23 ∨ K = 24 ∨ K = 25 ∨ K = 26 ∨ K = 27))
theorem RelT.room {T : Nat} {M M' : Mem} (h : RelT T M) (hk : ∀ K i, keptK K i → ¬ roomK K i → M' K i = M K i) (h22 : M' 22 0 8 = M 22 0 8 ∧ M' 22 0 11 = M 22 0 11 ∧ M' 22 0 13 = M 22 0 13) (hX : InX T 0 M') (hM : InM T M') (hv : vwX 0 M' = vwM M') (hd : okDay (vwX 0 M'))
    (hi : M 0 0 7 = 1 → rN (vwX 2 M) ≤ rN (vwX 0 M') ∧ ∀ p, p < rN (vwX 2 M) → M' 23 0 p = M 23 0 p ∧ M' 24 0 p = M 24 0 p) : RelT T M' := by
  obtain ⟨a1, a2, a3, a4, a5, a6, a7, a8, a9, a10, a11⟩ := h
  have k : ∀ {K i : Nat}, keptK K i → ¬ roomK K i → M' K i = M K i := fun h1 h2 => hk _ _ h1 h2
  have eX2 : vwX 2 M' = vwX 2 M := vwX_eq (k (by simp [keptK]) (by simp [roomK])) (k (by simp [keptK]) (by simp [roomK])) (fun t ht => k (kept18 (by omega)) (by simp only [roomK]; omega))
  refine ⟨a1.off (fun i => ⟨k (by simp [keptK]) (by simp [roomK]), k (by simp [keptK]) (by simp [roomK]), k (by simp [keptK]) (by simp [roomK])⟩) (k (by simp [keptK]) (by simp [roomK])) (k (by simp [keptK]) (by simp [roomK])), by rw [k (by simp [keptK]) (by simp [roomK])]; exact a2, by rw [h22.2.1]; exact a3, hX, hM, hv, hd, ?_, ?_, ?_, ?_⟩
  · unfold TapeR at a8 ⊢
    rw [k (show keptK 1 0 by simp [keptK]) (by simp [roomK]), h22.1, k (show keptK 2 0 by simp [keptK]) (by simp [roomK]), k (show keptK 28 0 by simp [keptK]) (by simp [roomK])]
    exact a8
  · intro s hs
    rw [k (show keptK 13 s by simp [keptK]) (by simp [roomK]), k (show keptK 33 0 by simp [keptK]) (by simp [roomK]), k (show keptK 34 0 by simp [keptK]) (by simp [roomK]), k (show keptK 14 s by simp [keptK]) (by simp [roomK]), k (show keptK 35 0 by simp [keptK]) (by simp [roomK])]
    exact a9 s hs
  · obtain ⟨b1, b2⟩ := a10
    refine ⟨by rw [k (show keptK 0 0 by simp [keptK]) (by simp [roomK]), h22.2.2]; exact b1, ?_⟩
    rw [k (show keptK 0 0 by simp [keptK]) (by simp [roomK]), k (show keptK 32 0 by simp [keptK]) (by simp [roomK]), eX2]
    rcases b2 with b2 | ⟨c1, c2, c3, c4, c5, c6, c7⟩
    · exact Or.inl b2
    · obtain ⟨d1, d2⟩ := hi c1
      refine Or.inr ⟨c1, c2.same (k (by simp [keptK]) (by simp [roomK])) (k (by simp [keptK]) (by simp [roomK])) (fun t ht => k (kept18 (by omega)) (by simp only [roomK]; omega)), c3, ?_, c5, c6, d1⟩
      rw [c4]
      have hn : (M 32 0 0).toNatClampNeg = rN (vwX 2 M) := by rw [c4]; rfl
      unfold vwI
      rw [k (show keptK 31 0 by simp [keptK]) (by simp [roomK]), k (show keptK 32 0 by simp [keptK]) (by simp [roomK])]
      refine Prod.ext rfl (Prod.ext ?_ rfl)
      funext t p
      show (if t < 4 ∧ p < (M 32 0 0).toNatClampNeg then _ else _) = (if t < 4 ∧ p < (M 32 0 0).toNatClampNeg then _ else _)
      by_cases q : t < 4 ∧ p < (M 32 0 0).toNatClampNeg
      · rw [if_pos q, if_pos q]
        have := d2 p (by rw [← hn]; exact q.2)
        rw [this.1, this.2]
      · rw [if_neg q, if_neg q]
  · unfold ConR
    rw [k (show keptK 37 0 by simp [keptK]) (by simp [roomK])]
    exact a11
end RR
