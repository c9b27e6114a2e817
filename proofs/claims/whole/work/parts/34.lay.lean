/-! laying: both rooms get the same cell -/
section LA
theorem okT_set {R : Rm} {c n : Nat} (h : okT R) (hn : n < 1000) : okT (setT R c (nI n)) := by
  intro z
  show ∃ m, m < 1000 ∧ upd (rT R) c (nI n) z = nI m
  by_cases e : z = c
  · exact ⟨n, hn, by simp [upd, e]⟩
  · obtain ⟨m, h1, h2⟩ := h z
    exact ⟨m, h1, by simp [upd, e, h2]⟩
/-- the class's present room and the reference's row changed alike, scratch too -/
theorem RelT.thick {T : Nat} {M M' : Mem} (h : RelT T M) (hk : ∀ K i, keptK K i → ¬ (K = 16 ∧ i = 0) → ¬ (K = 27 ∧ i = 0) → M' K i = M K i) (hv : vwX 0 M' = vwM M') (ht : okT (vwX 0 M')) : RelT T M' := by
  have hb : RelT T (mrow (mrow M' 16 0 (M 16 0)) 27 0 (M 27 0)) := h.keep (fun K i hK => by
    by_cases e2 : K = 27 ∧ i = 0
    · rw [e2.1, e2.2, mrow_s]
    · rw [mrow_n e2]
      by_cases e1 : K = 16 ∧ i = 0
      · rw [e1.1, e1.2, mrow_s]
      · rw [mrow_n e1]
        exact hk K i hK e1 e2)
  have hn : ∀ K i, K ≠ 16 → K ≠ 27 → mrow (mrow M' 16 0 (M 16 0)) 27 0 (M 27 0) K i = M' K i := fun K i h1 h2 => by rw [mrow_n (fun q => h2 q.1), mrow_n (fun q => h1 q.1)]
  have h162 : mrow (mrow M' 16 0 (M 16 0)) 27 0 (M 27 0) 16 2 = M' 16 2 := by rw [mrow_n (by simp), mrow_n (by simp)]
  generalize mrow (mrow M' 16 0 (M 16 0)) 27 0 (M 27 0) = N at hb hn h162
  obtain ⟨a1, a2, a3, a4, a5, a6, a7, a8, a9, a10, a11⟩ := hb
  have eX := vwX_T2 (r := 0) (M := N) (M' := M') (hn 15 0 (by decide) (by decide)).symm (fun t _ => (hn 18 _ (by decide) (by decide)).symm)
  have eM := vwM_T2 (M := N) (M' := M') (hn 22 0 (by decide) (by decide)).symm (hn 25 0 (by decide) (by decide)).symm (hn 26 0 (by decide) (by decide)).symm (hn 23 0 (by decide) (by decide)).symm (hn 24 0 (by decide) (by decide)).symm
  have e15 := hn 15 0 (by decide) (by decide)
  have e22 := hn 22 0 (by decide) (by decide)
  have eX2 : vwX 2 M' = vwX 2 N := vwX_eq (hn 15 2 (by decide) (by decide)).symm h162.symm (fun t _ => (hn 18 _ (by decide) (by decide)).symm)
  have eI : vwI M' = vwI N := by
    unfold vwI
    rw [hn 31 0 (by decide) (by decide), hn 32 0 (by decide) (by decide), hn 23 0 (by decide) (by decide), hn 24 0 (by decide) (by decide)]
  refine ⟨a1.off (fun i => ⟨(hn _ _ (by decide) (by decide)).symm, (hn _ _ (by decide) (by decide)).symm, (hn _ _ (by decide) (by decide)).symm⟩) (hn _ _ (by decide) (by decide)).symm (hn _ _ (by decide) (by decide)).symm, by rw [← hn 0 0 (by decide) (by decide)]; exact a2, by rw [← e22]; exact a3, a4.eqv (by rw [eX]) (by rw [e15]) (by rw [e15]) ht, a5.eqv (by rw [eM]) (by rw [e22]) (by rw [e22]) (by rw [← hv]; exact ht), hv, ?_, ?_, ?_, ?_, ?_⟩
  · rw [eX]; exact a7
  · unfold TapeR at a8 ⊢
    rw [← hn 1 0 (by decide) (by decide), ← e22, ← hn 2 0 (by decide) (by decide), ← hn 28 0 (by decide) (by decide)]
    exact a8
  · intro s hs
    rw [← hn 13 s (by decide) (by decide), ← hn 33 0 (by decide) (by decide), ← hn 34 0 (by decide) (by decide), ← hn 14 s (by decide) (by decide), ← hn 35 0 (by decide) (by decide)]
    exact a9 s hs
  · obtain ⟨b1, b2⟩ := a10
    refine ⟨by rw [← hn 0 0 (by decide) (by decide), ← e22]; exact b1, ?_⟩
    rw [← hn 0 0 (by decide) (by decide), ← hn 32 0 (by decide) (by decide), eX2, eI]
    have en : rN (vwX 0 M') = rN (vwX 0 N) := by rw [eX]; rfl
    rw [en]
    rcases b2 with b2 | ⟨c1, c2, c3⟩
    · exact Or.inl b2
    · exact Or.inr ⟨c1, c2.same (hn 15 2 (by decide) (by decide)).symm h162.symm (fun t _ => (hn 18 _ (by decide) (by decide)).symm), c3⟩
  · unfold ConR at a11 ⊢
    rw [← hn 37 0 (by decide) (by decide)]
    exact a11
end LA
