/-! the two sides alike -/
section RL
def vwI (M : Mem) : Rm := (fun c => if c < 36 then M 31 0 c else 0, fun t p => if t < 4 ∧ p < (M 32 0 0).toNatClampNeg then (if t = 0 then M 31 0 (36 + p) else if t = 1 then M 31 0 (42 + p) else if t = 2 then M 23 0 p else M 24 0 p) else 0, (M 32 0 0).toNatClampNeg, M 32 0 1, (M 32 0 2).toNatClampNeg)
def okDay (R : Rm) : Prop := ∃ d, d < 1000 ∧ rD R = nI d
def TapeR (M : Mem) : Prop := ∃ n, n ≤ 160 ∧ M 1 0 3 = nI n ∧ M 22 0 8 = nI n ∧ ∀ i, i < n → M 2 0 i = M 28 0 i ∧ ∃ b, b < 256 ∧ M 2 0 i = nI b
def SheetR (M : Mem) : Prop := ∀ s, s < 4 → M 13 s 1 = M 33 0 s ∧ (M 13 s 1 = -1 ∨ M 13 s 1 = 0 ∨ M 13 s 1 = 1 ∨ M 13 s 1 = 2) ∧ (∃ n, n ≤ 40 ∧ M 13 s 2 = nI n ∧ M 34 0 s = nI n) ∧ ∀ i, i < 40 → M 14 s i = M 35 0 (40 * s + i)
def ImgR (T : Nat) (M : Mem) : Prop := M 0 0 7 = M 22 0 13 ∧ (M 0 0 7 = 0 ∨ (M 0 0 7 = 1 ∧ InX T 2 M ∧ okDay (vwX 2 M) ∧ vwX 2 M = vwI M ∧ M 32 0 0 = nI (rN (vwX 2 M)) ∧ M 32 0 2 = nI (rL (vwX 2 M)) ∧ rN (vwX 2 M) ≤ rN (vwX 0 M)))
def ConR (M : Mem) : Prop := ∀ i, i < 96 → M 37 0 i = tbWords.getD i 0
def RelT (T : Nat) (M : Mem) : Prop := Txt T M ∧ M 0 0 8 = nI T ∧ M 22 0 11 = nI T ∧ InX T 0 M ∧ InM T M ∧ vwX 0 M = vwM M ∧ okDay (vwX 0 M) ∧ TapeR M ∧ SheetR M ∧ ImgR T M ∧ ConR M
def Rel (M : Mem) : Prop := ∃ T, RelT T M
/-- what neither side's scratch may touch -/
abbrev keptK (K i : Nat) : Prop := (K = 0 ∨ K = 1 ∨ K = 2 ∨ K = 8 ∨ K = 10 ∨ K = 11 ∨ K = 13 ∨ K = 14 ∨ ((K = 15 ∨ K = 16) ∧ (i = 0 ∨ i = 2)) ∨ (K = 18 ∧ (i < 4 ∨ 8 ≤ i))) ∨ K = 22 ∨ K = 23 ∨ K = 24 ∨ K = 25 ∨ K = 26 ∨ K = 27 ∨ K = 28 ∨ K = 29 ∨ K = 30 ∨ K = 31 ∨ K = 32 ∨ K = 33 ∨ K = 34 ∨ K = 35 ∨ K = 37
theorem kept18 {i : Nat} (h : i < 4 ∨ 8 ≤ i) : keptK 18 i := Or.inl (Or.inr (Or.inr (Or.inr (Or.inr (Or.inr (Or.inr (Or.inr (Or.inr (Or.inr ⟨rfl, h⟩)))))))))
theorem InX.same {T r : Nat} {M M' : Mem} (h : InX T r M) (h15 : M' 15 r = M 15 r) (h16 : M' 16 r = M 16 r) (h18 : ∀ t, t < 4 → M' 18 (4 * r + t) = M 18 (4 * r + t)) : InX T r M' := by
  have e := vwX_eq h15 h16 h18
  unfold InX
  rw [e, h15]
  exact h
theorem InM.same {T : Nat} {M M' : Mem} (h : InM T M) (e : vwM M' = vwM M) (h22 : M' 22 0 = M 22 0) : InM T M' := by
  unfold InM
  rw [e, h22]
  exact h
/-- scratch alone changed: still alike -/
theorem RelT.keep {T : Nat} {M M' : Mem} (h : RelT T M) (hk : ∀ K i, keptK K i → M' K i = M K i) : RelT T M' := by
  obtain ⟨a1, a2, a3, a4, a5, a6, a7, a8, a9, a10, a11⟩ := h
  have k : ∀ {K i : Nat}, keptK K i → M' K i = M K i := fun h => hk _ _ h
  have eX0 : vwX 0 M' = vwX 0 M := vwX_eq (k (by simp [keptK])) (k (by simp [keptK])) (fun t ht => k (kept18 (by omega)))
  have eX2 : vwX 2 M' = vwX 2 M := vwX_eq (k (by simp [keptK])) (k (by simp [keptK])) (fun t ht => k (kept18 (by omega)))
  have eM : vwM M' = vwM M := vwM_eq (k (by simp [keptK])) (k (by simp [keptK])) (k (by simp [keptK])) (k (by simp [keptK])) (k (by simp [keptK])) (k (by simp [keptK]))
  have eI : vwI M' = vwI M := by
    unfold vwI
    rw [k (show keptK 31 0 by simp [keptK]), k (show keptK 32 0 by simp [keptK]), k (show keptK 23 0 by simp [keptK]), k (show keptK 24 0 by simp [keptK])]
  have i0 := a4.same (M' := M') (k (by simp [keptK])) (k (by simp [keptK])) (fun t ht => k (kept18 (by omega)))
  refine ⟨a1.off (fun i => ⟨k (by simp [keptK]), k (by simp [keptK]), k (by simp [keptK])⟩) (k (by simp [keptK])) (k (by simp [keptK])), by rw [k (by simp [keptK])]; exact a2, by rw [k (by simp [keptK])]; exact a3, i0, a5.same eM (k (by simp [keptK])), by rw [eX0, eM]; exact a6, by rw [eX0]; exact a7, ?_, ?_, ?_, ?_⟩
  · unfold TapeR
    rw [k (show keptK 1 0 by simp [keptK]), k (show keptK 22 0 by simp [keptK]), k (show keptK 2 0 by simp [keptK]), k (show keptK 28 0 by simp [keptK])]
    exact a8
  · intro s hs
    rw [k (show keptK 13 s by simp [keptK]), k (show keptK 33 0 by simp [keptK]), k (show keptK 34 0 by simp [keptK]), k (show keptK 14 s by simp [keptK]), k (show keptK 35 0 by simp [keptK])]
    exact a9 s hs
  · obtain ⟨b1, b2⟩ := a10
    refine ⟨by rw [k (show keptK 0 0 by simp [keptK]), k (show keptK 22 0 by simp [keptK])]; exact b1, ?_⟩
    rw [k (show keptK 0 0 by simp [keptK]), k (show keptK 32 0 by simp [keptK]), eX2, eX0, eI]
    rcases b2 with b2 | ⟨c1, c2, c3⟩
    · exact Or.inl b2
    · exact Or.inr ⟨c1, c2.same (k (by simp [keptK])) (k (by simp [keptK])) (fun t ht => k (kept18 (by omega))), c3⟩
  · unfold ConR
    rw [k (show keptK 37 0 by simp [keptK])]
    exact a11
end RL
