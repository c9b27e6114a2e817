/-! back -/
section BK
theorem backM_ev {N : Mem} {n d l : Int32} (h0 : N 32 0 0 = n) (h6 : N 32 0 1 = d) (h12 : N 32 0 2 = l) (hg : ¬ N 22 0 13 = 0) : Ev (fX11_back N) (fun r N1 => r = n ∧ (∀ c, c < 36 → N1 27 0 c = N 31 0 c) ∧ (∀ p, p < 6 → N1 25 0 p = N 31 0 (36 + p) ∧ N1 26 0 p = N 31 0 (42 + p)) ∧ N1 22 0 = upd (upd (upd (N 22 0) 0 n) 6 d) 12 l ∧ Off (fun K i => i = 0 ∧ (K = 22 ∨ K = 25 ∨ K = 26 ∨ K = 27)) N N1) := by
  unfold fX11_back
  rw [if_neg hg]
  refine Ev.loop (f := fun m (x : Int32) M => fX11_back_L12 m x M) (B := fun k x M => fX11_back_B12 k x M) (fun _ _ _ => rfl) 36
    (fun j x M' => x = nI j ∧ (∀ c, c < j → M' 27 0 c = N 31 0 c) ∧ M' 22 0 = N 22 0 ∧ Off (fun K i => i = 0 ∧ (K = 22 ∨ K = 25 ∨ K = 26 ∨ K = 27)) N M') ?_ ?_ FU 0 (nI 0) N (Nat.zero_le _) (by show _ < 2000 + 0; omega) ⟨rfl, fun t ht => absurd ht (Nat.not_lt_zero _), rfl, Off.rf⟩
  · rintro k j x M' hj ⟨rfl, ha, hf, hoff⟩ hk
    show Ev (fX11_back_B12 k (nI j) M') _
    unfold fX11_back_B12
    rw [if_neg (fun q => by have := (nI_leI (a := 36) (by omega) (by omega)).mp q; omega)]
    refine Ev.gd (inb_nI (by omega) (by decide)) (Ev.gd (inb_nI hj (by decide)) (Ev.let_ fun M2 h2 => ?_))
    rw [nI_clamp (show j < 2 ^ 31 by omega), hoff.at (show ¬ (0 = 0 ∧ (31 = 22 ∨ 31 = 25 ∨ 31 = 26 ∨ 31 = 27)) by simp)] at h2
    rw [nI_1]
    refine hk _ M2 ⟨rfl, fun c hc => ?_, by rw [h2, mst_n (by simp)]; exact hf, by rw [h2]; exact hoff.mst ⟨rfl, by simp⟩⟩
    rw [h2, mst_s]
    by_cases e : c = j
    · subst e; simp [upd]
    · simp only [upd, if_neg e]
      exact ha c (by omega)
  · rintro k x M' ⟨rfl, ha, hf, hoff⟩
    show Ev (fX11_back_B12 k (nI 36) M') _
    unfold fX11_back_B12
    rw [if_pos (by decide)]
    refine Ev.loop (f := fun m (x : Int32) M => fX11_back_L38 m x M) (B := fun k x M => fX11_back_B38 k x M) (fun _ _ _ => rfl) 6
      (fun j x M2 => x = nI j ∧ (∀ c, c < 36 → M2 27 0 c = N 31 0 c) ∧ (∀ p, p < j → M2 25 0 p = N 31 0 (36 + p) ∧ M2 26 0 p = N 31 0 (42 + p)) ∧ M2 22 0 = N 22 0 ∧ Off (fun K i => i = 0 ∧ (K = 22 ∨ K = 25 ∨ K = 26 ∨ K = 27)) N M2) ?_ ?_ FU 0 (nI 0) M' (Nat.zero_le _) (by show _ < 2000 + 0; omega) ⟨rfl, ha, fun t ht => absurd ht (Nat.not_lt_zero _), hf, hoff⟩
    · rintro k j x M2 hj ⟨rfl, hb, hc, hf2, hoff2⟩ hk
      show Ev (fX11_back_B38 k (nI j) M2) _
      unfold fX11_back_B38
      rw [if_neg (fun q => by have := (nI_leI (a := 6) (by omega) (by omega)).mp q; omega), show (36 : Int32) + nI j = nI (36 + j) from nI_add 36 j, show (42 : Int32) + nI j = nI (42 + j) from nI_add 42 j, nI_1, nI_clamp (show j < 2 ^ 31 by omega), nI_clamp (show 36 + j < 2 ^ 31 by omega), nI_clamp (show 42 + j < 2 ^ 31 by omega), hoff2.at (show ¬ (0 = 0 ∧ (31 = 22 ∨ 31 = 25 ∨ 31 = 26 ∨ 31 = 27)) by simp)]
      refine Ev.gd (inb_nI (by omega) (by decide)) (Ev.gd (inb_nI hj (by decide)) (Ev.let_ fun M5 h5 => ?_))
      refine Ev.gd (inb_nI (by omega) (by decide)) (Ev.gd (inb_nI hj (by decide)) (Ev.let_ fun M6 h6 => ?_))
      have e31 : M5 31 0 = N 31 0 := by rw [h5, mst_n (by simp)]; exact hoff2.at (by simp)
      rw [e31] at h6
      have g25 : M6 25 0 = upd (M2 25 0) j (N 31 0 (36 + j)) := by rw [h6, mst_n (by simp), h5, mst_s]
      have g26 : M6 26 0 = upd (M2 26 0) j (N 31 0 (42 + j)) := by rw [h6, mst_s, h5, mst_n (by simp)]
      have g27 : M6 27 0 = M2 27 0 := by rw [h6, mst_n (by simp), h5, mst_n (by simp)]
      refine hk _ M6 ⟨rfl, fun c hcc => by rw [g27]; exact hb c hcc, fun p hp => ?_, by rw [h6, mst_n (by simp), h5, mst_n (by simp)]; exact hf2, by rw [h6, h5]; exact (hoff2.mst ⟨rfl, by simp⟩).mst ⟨rfl, by simp⟩⟩
      rw [g25, g26]
      by_cases e : p = j
      · subst e
        simp [upd]
      · simp only [upd, if_neg e]
        exact hc p (by omega)
    · rintro k x M2 ⟨rfl, hb, hc, hf2, hoff2⟩
      show Ev (fX11_back_B38 k (nI 6) M2) _
      unfold fX11_back_B38
      rw [if_pos (by decide), show (0 : Int32).toNatClampNeg = 0 by decide, show (1 : Int32).toNatClampNeg = 1 by decide, show (2 : Int32).toNatClampNeg = 2 by decide]
      have g32 : M2 32 0 = N 32 0 := hoff2.at (by simp)
      refine Ev.gd (by decide) (Ev.let_ fun M3 h3 => Ev.gd (by decide) (Ev.let_ fun M4 h4 => Ev.gd (by decide) (Ev.let_ fun M5 h5 => Ev.ret ?_)))
      have e3 : M3 32 0 = N 32 0 := by rw [h3, mst_n (by simp), g32]
      have e4 : M4 32 0 = N 32 0 := by rw [h4, mst_n (by simp), e3]
      have g22 : M5 22 0 = upd (upd (upd (N 22 0) 0 n) 6 d) 12 l := by rw [h5, mst_s, e4, h12, h4, mst_s, e3, h6, h3, mst_s, g32, h0, hf2]
      have oo : ∀ K i, K ≠ 22 → M5 K i = M2 K i := fun K i a => by rw [h5, mst_n (fun q => a q.1), h4, mst_n (fun q => a q.1), h3, mst_n (fun q => a q.1)]
      refine ⟨by rw [g22]; simp [upd], fun c hcc => by rw [oo _ _ (by decide)]; exact hb c hcc, fun p hp => by rw [oo _ _ (by decide), oo _ _ (by decide)]; exact hc p hp, g22, ?_⟩
      rw [h5, h4, h3]
      exact ((hoff2.mst ⟨rfl, Or.inl rfl⟩).mst ⟨rfl, Or.inl rfl⟩).mst ⟨rfl, Or.inl rfl⟩
theorem back_same : Same fX10_back fX11_back := by
  rintro M ⟨T, h⟩
  have hv : vwX 0 M = vwM M := h.2.2.2.2.2.1
  obtain ⟨i1, i2⟩ := h.2.2.2.2.2.2.2.2.2.1
  unfold fX10_back
  refine Ev.ite (fun h0 => Ev.ret ?_) (fun h0 => ?_)
  · unfold fX11_back
    rw [if_pos (by rw [← i1]; exact h0)]
    exact Ev.ret ⟨rfl, T, h⟩
  · rcases i2 with i2 | ⟨c1, c2, c3, c4, c5, c6, c7⟩
    · exact absurd i2 h0
    refine Ev.bind (takeFrom_ev (r := 0) (r' := 2) (by decide) c2.2.2.2.1.1) (fun _ M2 q => Ev.ret ?_)
    obtain ⟨⟨q1, q2, q3⟩, q4⟩ := q
    have o2 : ∀ K i, ¬ scR 0 K i → M2 K i = M K i := fun K i a => q4.at a
    have e32 : M2 32 0 = M 32 0 := o2 32 0 (by simp only [scR]; omega)
    have e22 : M2 22 0 = M 22 0 := o2 22 0 (by simp only [scR]; omega)
    refine (backM_ev (N := M2) (n := M 32 0 0) (d := M 32 0 1) (l := M 32 0 2) (by rw [e32]) (by rw [e32]) (by rw [e32]) (by rw [e22, ← i1]; exact h0)).mono (fun r N1 z => ?_)
    obtain ⟨z1, z2, z3, z4, z5⟩ := z
    rw [e22] at z4
    have oN : ∀ K i, ¬ (K = 22 ∨ K = 25 ∨ K = 26 ∨ K = 27) → N1 K i = M2 K i := fun K i a => z5.at (fun q => a q.2)
    have oM : ∀ K i, ¬ scR 0 K i → ¬ (K = 22 ∨ K = 25 ∨ K = 26 ∨ K = 27) → N1 K i = M K i := fun K i a b => (oN K i b).trans (o2 K i a)
    have x0 : vwX 0 N1 = vwX 2 M := by
      rw [← q1]
      exact vwX_eq (oN _ _ (by decide)) (oN _ _ (by decide)) (fun t _ => oN _ _ (by decide))
    have e15 : N1 15 0 = M2 15 0 := oN _ _ (by decide)
    have g0 : N1 22 0 0 = M 32 0 0 := by rw [z4]; simp [upd]
    have g6 : N1 22 0 6 = M 32 0 1 := by rw [z4]; simp [upd]
    have g12 : N1 22 0 12 = M 32 0 2 := by rw [z4]; simp [upd]
    have hn : (M 32 0 0).toNatClampNeg ≤ 6 := by
      rw [c5]
      have := c2.2.2.2.1.1
      rw [nI_clamp (by omega)]
      exact this
    have e31 : M2 31 0 = M 31 0 := o2 31 0 (by simp only [scR]; omega)
    have hm : vwM N1 = vwX 2 M := by
      rw [c4]
      unfold vwI vwM
      rw [g0, g6, g12]
      refine Prod.ext ?_ (Prod.ext ?_ rfl)
      · funext c
        show (if c < 36 then N1 27 0 c else 0) = (if c < 36 then M 31 0 c else 0)
        by_cases hc : c < 36
        · rw [if_pos hc, if_pos hc, z2 c hc, e31]
        · rw [if_neg hc, if_neg hc]
      · funext t p
        show (if t < 4 ∧ p < (M 32 0 0).toNatClampNeg then N1 (trK t) 0 p else 0) = (if t < 4 ∧ p < (M 32 0 0).toNatClampNeg then (if t = 0 then M 31 0 (36 + p) else if t = 1 then M 31 0 (42 + p) else if t = 2 then M 23 0 p else M 24 0 p) else 0)
        by_cases hp : t < 4 ∧ p < (M 32 0 0).toNatClampNeg
        · rw [if_pos hp, if_pos hp, ← e31]
          have hz := z3 p (by omega)
          rw [← hz.1, ← hz.2, ← oM 23 0 (by simp only [scR]; omega) (by decide), ← oM 24 0 (by simp only [scR]; omega) (by decide)]
          match t, hp.1 with
          | 0, _ => rfl
          | 1, _ => rfl
          | 2, _ => rfl
          | 3, _ => rfl
          | t + 4, h => omega
        · rw [if_neg hp, if_neg hp]
    have hX0 : InX T 0 N1 := by
      obtain ⟨a1, a2, a3, a4, a5⟩ := c2
      exact ⟨by rw [e15, q2, x0]; exact a1, by rw [e15, q3, x0]; exact a2, by rw [x0]; exact a3, by rw [x0]; exact a4, by rw [x0]; exact a5⟩
    have hM0 : InM T N1 := by
      obtain ⟨a1, a2, a3, a4, a5⟩ := c2
      exact ⟨by rw [g0, hm]; exact c5, by rw [g12, hm]; exact c6, by rw [hm]; exact a3, by rw [hm]; exact a4, by rw [hm]; exact a5⟩
    refine ⟨by rw [z1, q2, c2.1, c5], T, h.room0 (fun K i a b c => ?_) ⟨by rw [z4]; simp [upd], by rw [z4]; simp [upd], by rw [z4]; simp [upd]⟩ hX0 hM0 (by rw [x0, hm]) (by rw [x0]; exact c3) (fun _ => ⟨by rw [x0]; exact Nat.le_refl _, fun p _ => ⟨by rw [oM 23 0 (by simp only [scR]; omega) (by decide)], by rw [oM 24 0 (by simp only [scR]; omega) (by decide)]⟩⟩)⟩
    simp only [roomK] at c
    refine oM K i (fun q => ?_) (fun q => ?_)
    · simp only [scR] at q
      omega
    · have := b (by omega)
      omega
end BK
