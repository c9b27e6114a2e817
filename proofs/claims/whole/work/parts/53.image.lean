/-! image, back -/
section IM
theorem RelT.image {T : Nat} {M M' : Mem} (h : RelT T M) (hk : ∀ K i, keptK K i → (22 ≤ K → i = 0) → K ≠ 0 → K ≠ 22 → K ≠ 31 → K ≠ 32 → ¬ ((K = 15 ∨ K = 16) ∧ i = 2) → ¬ (K = 18 ∧ 8 ≤ i) → M' K i = M K i) (h0 : M' 0 0 8 = M 0 0 8) (h22 : ∀ s, s ≤ 12 → M' 22 0 s = M 22 0 s) (hi : ImgR T M') : RelT T M' := by
  obtain ⟨a1, a2, a3, a4, a5, a6, a7, a8, a9, a10, a11⟩ := h
  have k : ∀ {K i : Nat}, keptK K i → (22 ≤ K → i = 0) → K ≠ 0 → K ≠ 22 → K ≠ 31 → K ≠ 32 → ¬ ((K = 15 ∨ K = 16) ∧ i = 2) → ¬ (K = 18 ∧ 8 ≤ i) → M' K i = M K i := fun a b c d e f g h => hk _ _ a b c d e f g h
  have e15 : M' 15 0 = M 15 0 := k (by simp [keptK]) (by simp) (by decide) (by decide) (by decide) (by decide) (by decide) (by decide)
  have e16 : M' 16 0 = M 16 0 := k (by simp [keptK]) (by simp) (by decide) (by decide) (by decide) (by decide) (by decide) (by decide)
  have e18 : ∀ t, t < 4 → M' 18 (4 * 0 + t) = M 18 (4 * 0 + t) := fun t ht => k (kept18 (by omega)) (by simp) (by decide) (by decide) (by decide) (by decide) (by omega) (by omega)
  have eX0 : vwX 0 M' = vwX 0 M := vwX_eq e15 e16 e18
  have lk : ∀ K, K ≠ 0 → K ≠ 22 → K ≠ 31 → K ≠ 32 → keptK K 0 → M' K 0 = M K 0 := fun K a b c d e => k e (fun _ => rfl) a b c d (by omega) (by omega)
  have eM : vwM M' = vwM M := by
    unfold vwM
    rw [h22 0 (by omega), h22 6 (by omega), h22 12 (by omega), lk 27 (by decide) (by decide) (by decide) (by decide) (by simp [keptK])]
    refine Prod.ext rfl (Prod.ext ?_ rfl)
    funext t p
    have : M' (trK t) 0 = M (trK t) 0 := lk _ (by unfold trK; split <;> decide) (by unfold trK; split <;> decide) (by unfold trK; split <;> decide) (by unfold trK; split <;> decide) (by unfold trK; split <;> simp [keptK])
    simp only [this]
  have hM : InM T M' := by
    obtain ⟨b1, b2, b3, b4, b5⟩ := a5
    exact ⟨by rw [eM, h22 0 (by omega)]; exact b1, by rw [eM, h22 12 (by omega)]; exact b2, by rw [eM]; exact b3, by rw [eM]; exact b4, by rw [eM]; exact b5⟩
  refine ⟨a1.off (fun i => ⟨k (by simp [keptK]) (by simp) (by decide) (by decide) (by decide) (by decide) (by omega) (by omega), k (by simp [keptK]) (by simp) (by decide) (by decide) (by decide) (by decide) (by omega) (by omega), k (by simp [keptK]) (by simp) (by decide) (by decide) (by decide) (by decide) (by omega) (by omega)⟩) (lk 29 (by decide) (by decide) (by decide) (by decide) (by simp [keptK])) (lk 30 (by decide) (by decide) (by decide) (by decide) (by simp [keptK])), by rw [h0]; exact a2, by rw [h22 11 (by omega)]; exact a3, a4.same e15 e16 e18, hM, by rw [eX0, eM]; exact a6, by rw [eX0]; exact a7, ?_, ?_, hi, ?_⟩
  · unfold TapeR
    rw [lk 1 (by decide) (by decide) (by decide) (by decide) (by simp [keptK]), h22 8 (by omega), lk 2 (by decide) (by decide) (by decide) (by decide) (by simp [keptK]), lk 28 (by decide) (by decide) (by decide) (by decide) (by simp [keptK])]
    exact a8
  · intro s hs
    have e13 : M' 13 s = M 13 s := k (by simp [keptK]) (by simp) (by decide) (by decide) (by decide) (by decide) (by omega) (by omega)
    have e14 : M' 14 s = M 14 s := k (by simp [keptK]) (by simp) (by decide) (by decide) (by decide) (by decide) (by omega) (by omega)
    rw [e13, e14, lk 33 (by decide) (by decide) (by decide) (by decide) (by simp [keptK]), lk 34 (by decide) (by decide) (by decide) (by decide) (by simp [keptK]), lk 35 (by decide) (by decide) (by decide) (by decide) (by simp [keptK])]
    exact a9 s hs
  · unfold ConR
    rw [lk 37 (by decide) (by decide) (by decide) (by decide) (by simp [keptK])]
    exact a11
theorem imageM_ev {N : Mem} {n d l : Int32} (h0 : N 22 0 0 = n) (h6 : N 22 0 6 = d) (h12 : N 22 0 12 = l) : Ev (fX11_image N) (fun r N1 => r = n ∧ (∀ c, c < 36 → N1 31 0 c = N 27 0 c) ∧ (∀ p, p < 6 → N1 31 0 (36 + p) = N 25 0 p ∧ N1 31 0 (42 + p) = N 26 0 p) ∧ N1 32 0 0 = n ∧ N1 32 0 1 = d ∧ N1 32 0 2 = l ∧ N1 22 0 = upd (N 22 0) 13 1 ∧ Off (fun K i => i = 0 ∧ (K = 22 ∨ K = 31 ∨ K = 32)) N N1) := by
  unfold fX11_image
  refine Ev.let_ fun M1 h1 => ?_
  have o1 : Off (fun K i => i = 0 ∧ (K = 22 ∨ K = 31 ∨ K = 32)) N M1 := by rw [h1]; exact Off.rf.mst ⟨rfl, Or.inl rfl⟩
  have f22 : M1 22 0 = upd (N 22 0) 13 1 := by rw [h1, mst_s]
  refine Ev.loop (f := fun m (x : Int32) M => fX11_image_L7 m x M) (B := fun k x M => fX11_image_B7 k x M) (fun _ _ _ => rfl) 36
    (fun j x M' => x = nI j ∧ (∀ c, c < j → M' 31 0 c = N 27 0 c) ∧ M' 22 0 = upd (N 22 0) 13 1 ∧ Off (fun K i => i = 0 ∧ (K = 22 ∨ K = 31 ∨ K = 32)) N M') ?_ ?_ FU 0 (nI 0) M1 (Nat.zero_le _) (by show _ < 2000 + 0; omega) ⟨rfl, fun t ht => absurd ht (Nat.not_lt_zero _), f22, o1⟩
  · rintro k j x M' hj ⟨rfl, ha, hf, hoff⟩ hk
    show Ev (fX11_image_B7 k (nI j) M') _
    unfold fX11_image_B7
    rw [if_neg (fun q => by have := (nI_leI (a := 36) (by omega) (by omega)).mp q; omega)]
    refine Ev.gd (inb_nI hj (by decide)) (Ev.gd (inb_nI (by omega) (by decide)) (Ev.let_ fun M2 h2 => ?_))
    rw [nI_clamp (show j < 2 ^ 31 by omega), hoff.at (by simp)] at h2
    rw [nI_1]
    refine hk _ M2 ⟨rfl, fun c hc => ?_, by rw [h2, mst_n (by simp)]; exact hf, by rw [h2]; exact hoff.mst ⟨rfl, Or.inr (Or.inl rfl)⟩⟩
    rw [h2, mst_s]
    by_cases e : c = j
    · subst e; simp [upd]
    · simp only [upd, if_neg e]
      exact ha c (by omega)
  · rintro k x M' ⟨rfl, ha, hf, hoff⟩
    show Ev (fX11_image_B7 k (nI 36) M') _
    unfold fX11_image_B7
    rw [if_pos (by decide)]
    refine Ev.loop (f := fun m (x : Int32) M => fX11_image_L33 m x M) (B := fun k x M => fX11_image_B33 k x M) (fun _ _ _ => rfl) 6
      (fun j x M2 => x = nI j ∧ (∀ c, c < 36 → M2 31 0 c = N 27 0 c) ∧ (∀ p, p < j → M2 31 0 (36 + p) = N 25 0 p ∧ M2 31 0 (42 + p) = N 26 0 p) ∧ M2 22 0 = upd (N 22 0) 13 1 ∧ Off (fun K i => i = 0 ∧ (K = 22 ∨ K = 31 ∨ K = 32)) N M2) ?_ ?_ FU 0 (nI 0) M' (Nat.zero_le _) (by show _ < 2000 + 0; omega) ⟨rfl, ha, fun t ht => absurd ht (Nat.not_lt_zero _), hf, hoff⟩
    · rintro k j x M2 hj ⟨rfl, hb, hc, hf2, hoff2⟩ hk
      show Ev (fX11_image_B33 k (nI j) M2) _
      unfold fX11_image_B33
      rw [if_neg (fun q => by have := (nI_leI (a := 6) (by omega) (by omega)).mp q; omega), show (36 : Int32) + nI j = nI (36 + j) from nI_add 36 j, show (42 : Int32) + nI j = nI (42 + j) from nI_add 42 j, nI_1, nI_clamp (show j < 2 ^ 31 by omega), nI_clamp (show 36 + j < 2 ^ 31 by omega), nI_clamp (show 42 + j < 2 ^ 31 by omega), hoff2.at (show ¬ (0 = 0 ∧ (25 = 22 ∨ 25 = 31 ∨ 25 = 32)) by simp)]
      refine Ev.gd (inb_nI hj (by decide)) (Ev.gd (inb_nI (by omega) (by decide)) (Ev.let_ fun M5 h5 => ?_))
      refine Ev.gd (inb_nI hj (by decide)) (Ev.gd (inb_nI (by omega) (by decide)) (Ev.let_ fun M6 h6 => ?_))
      have e26 : M5 26 0 = N 26 0 := by rw [h5, mst_n (by simp)]; exact hoff2.at (by simp)
      rw [e26] at h6
      have g31 : M6 31 0 = upd (upd (M2 31 0) (36 + j) (N 25 0 j)) (42 + j) (N 26 0 j) := by rw [h6, mst_s, h5, mst_s]
      refine hk _ M6 ⟨rfl, fun c hcc => ?_, fun p hp => ?_, by rw [h6, mst_n (by simp), h5, mst_n (by simp)]; exact hf2, by rw [h6, h5]; exact (hoff2.mst ⟨rfl, Or.inr (Or.inl rfl)⟩).mst ⟨rfl, Or.inr (Or.inl rfl)⟩⟩
      · rw [g31]
        simp only [upd, if_neg (show c ≠ 42 + j by omega), if_neg (show c ≠ 36 + j by omega)]
        exact hb c hcc
      · rw [g31]
        by_cases e : p = j
        · subst e
          simp only [upd, if_neg (show 36 + p ≠ 42 + p by omega), if_true]
          exact ⟨trivial, trivial⟩
        · simp only [upd, if_neg (show 36 + p ≠ 42 + j by omega), if_neg (show 36 + p ≠ 36 + j by omega), if_neg (show 42 + p ≠ 42 + j by omega), if_neg (show 42 + p ≠ 36 + j by omega)]
          exact hc p (by omega)
    · rintro k x M2 ⟨rfl, hb, hc, hf2, hoff2⟩
      show Ev (fX11_image_B33 k (nI 6) M2) _
      unfold fX11_image_B33
      rw [if_pos (by decide), show (0 : Int32).toNatClampNeg = 0 by decide, show (1 : Int32).toNatClampNeg = 1 by decide, show (2 : Int32).toNatClampNeg = 2 by decide]
      have g0 : M2 22 0 0 = n := by rw [hf2, ← h0]; simp [upd]
      have g6 : M2 22 0 6 = d := by rw [hf2, ← h6]; simp [upd]
      have g12 : M2 22 0 12 = l := by rw [hf2, ← h12]; simp [upd]
      refine Ev.gd (by decide) (Ev.let_ fun M3 h3 => Ev.gd (by decide) (Ev.let_ fun M4 h4 => Ev.gd (by decide) (Ev.let_ fun M5 h5 => Ev.ret ?_)))
      have e3 : M3 22 0 = M2 22 0 := by rw [h3, mst_n (by simp)]
      have e4 : M4 22 0 = M2 22 0 := by rw [h4, mst_n (by simp), e3]
      have e5 : M5 22 0 = M2 22 0 := by rw [h5, mst_n (by simp), e4]
      have g32 : M5 32 0 = upd (upd (upd (M2 32 0) 0 n) 1 d) 2 l := by rw [h5, mst_s, e4, g12, h4, mst_s, e3, g6, h3, mst_s, g0]
      have g31 : M5 31 0 = M2 31 0 := by rw [h5, mst_n (by simp), h4, mst_n (by simp), h3, mst_n (by simp)]
      refine ⟨by rw [e5, g0], fun c hcc => by rw [g31]; exact hb c hcc, fun p hp => by rw [g31]; exact hc p hp, by rw [g32]; simp [upd], by rw [g32]; simp [upd], by rw [g32]; simp [upd], by rw [e5]; exact hf2, ?_⟩
      rw [h5, h4, h3]
      exact ((hoff2.mst ⟨rfl, Or.inr (Or.inr rfl)⟩).mst ⟨rfl, Or.inr (Or.inr rfl)⟩).mst ⟨rfl, Or.inr (Or.inr rfl)⟩
theorem image_same : Same fX10_image fX11_image := by
  rintro M ⟨T, h⟩
  have hv : vwX 0 M = vwM M := h.2.2.2.2.2.1
  have hX := h.2.2.2.1
  have hM := h.2.2.2.2.1
  unfold fX10_image
  refine Ev.bind (takeFrom_ev (r := 2) (r' := 0) (by decide) hX.2.2.2.1.1) (fun _ M2 q => Ev.let_ fun M3 h3 => Ev.ret ?_)
  obtain ⟨⟨q1, q2, q3⟩, q4⟩ := q
  have o3 : ∀ K i, ¬ scR 2 K i → K ≠ 0 → M3 K i = M K i := fun K i a b => by rw [h3, mst_n (fun z => b z.1)]; exact q4.at a
  have p3 : ∀ K i, K ≠ 0 → M3 K i = M2 K i := fun K i b => by rw [h3, mst_n (fun z => b z.1)]
  have e22 : M3 22 0 = M 22 0 := o3 22 0 (by simp only [scR]; omega) (by decide)
  refine (imageM_ev (N := M3) (n := M 22 0 0) (d := M 22 0 6) (l := M 22 0 12) (by rw [e22]) (by rw [e22]) (by rw [e22])).mono (fun r N1 z => ?_)
  obtain ⟨z1, z2, z3, z4, z5, z6, z7, z8⟩ := z
  have oN : ∀ K i, K ≠ 22 → K ≠ 31 → K ≠ 32 → N1 K i = M3 K i := fun K i a b c => z8.at (fun q => by omega)
  have x2 : vwX 2 N1 = vwX 0 M := by
    rw [← q1]
    exact vwX_eq ((oN _ _ (by decide) (by decide) (by decide)).trans (p3 _ _ (by decide))) ((oN _ _ (by decide) (by decide) (by decide)).trans (p3 _ _ (by decide))) (fun t _ => (oN _ _ (by decide) (by decide) (by decide)).trans (p3 _ _ (by decide)))
  have e152 : N1 15 2 = M2 15 2 := (oN _ _ (by decide) (by decide) (by decide)).trans (p3 _ _ (by decide))
  have hX2 : InX T 2 N1 := by
    obtain ⟨a1, a2, a3, a4, a5⟩ := hX
    exact ⟨by rw [e152, q2, x2]; exact a1, by rw [e152, q3, x2]; exact a2, by rw [x2]; exact a3, by rw [x2]; exact a4, by rw [x2]; exact a5⟩
  have oM : ∀ K i, ¬ scR 2 K i → K ≠ 0 → K ≠ 22 → K ≠ 31 → K ≠ 32 → N1 K i = M K i := fun K i a b c d e => (oN K i c d e).trans (o3 K i a b)
  have x0 : vwX 0 N1 = vwX 0 M := vwX_eq (oM _ _ (by simp only [scR]; omega) (by decide) (by decide) (by decide) (by decide)) (oM _ _ (by simp only [scR]; omega) (by decide) (by decide) (by decide) (by decide)) (fun t _ => oM _ _ (by simp only [scR]; omega) (by decide) (by decide) (by decide) (by decide))
  have ek : ∀ K, 22 < K → K ≠ 31 → K ≠ 32 → N1 K 0 = M K 0 := fun K a b c => oM K 0 (by simp only [scR]; omega) (by omega) (by omega) b c
  refine ⟨?_, T, h.image (fun K i a b c d e f g g2 => oM K i (by simp only [scR]; omega) c d e f) ?_ (fun s hs => ?_) ⟨?_, Or.inr ⟨?_, hX2, by rw [x2]; exact h.2.2.2.2.2.2.1, ?_, by rw [z4, x2, hv]; exact hM.1, by rw [z6, x2, hv]; exact hM.2.1, by rw [x2, x0]; exact Nat.le_refl _⟩⟩⟩
  · rw [z1, o3 15 0 (by simp only [scR]; omega) (by decide), hM.1, hX.1, hv]
  · rw [oN 0 0 (by decide) (by decide) (by decide), h3, mst_s, q4.at (by simp only [scR]; omega)]
    simp [upd]
  · rw [z7, e22]
    simp only [upd, if_neg (show s ≠ 13 by omega)]
  · rw [oN 0 0 (by decide) (by decide) (by decide), h3, mst_s, z7]
    simp [upd]
  · rw [oN 0 0 (by decide) (by decide) (by decide), h3, mst_s]
    simp [upd]
  · rw [x2, hv]
    unfold vwI vwM
    rw [z4, z5, z6, ek 23 (by decide) (by decide) (by decide), ek 24 (by decide) (by decide) (by decide)]
    have hn : (M 22 0 0).toNatClampNeg ≤ 6 := hM.2.2.2.1.1
    refine Prod.ext ?_ (Prod.ext ?_ rfl)
    · funext c
      show (if c < 36 then M 27 0 c else 0) = (if c < 36 then N1 31 0 c else 0)
      by_cases hc : c < 36
      · rw [if_pos hc, if_pos hc, z2 c hc, o3 27 0 (by simp only [scR]; omega) (by decide)]
      · rw [if_neg hc, if_neg hc]
    · funext t p
      show (if t < 4 ∧ p < (M 22 0 0).toNatClampNeg then M (trK t) 0 p else 0) = (if t < 4 ∧ p < (M 22 0 0).toNatClampNeg then (if t = 0 then N1 31 0 (36 + p) else if t = 1 then N1 31 0 (42 + p) else if t = 2 then M 23 0 p else M 24 0 p) else 0)
      by_cases hp : t < 4 ∧ p < (M 22 0 0).toNatClampNeg
      · rw [if_pos hp, if_pos hp]
        have hz := z3 p (by omega)
        rw [hz.1, hz.2, o3 25 0 (by simp only [scR]; omega) (by decide), o3 26 0 (by simp only [scR]; omega) (by decide)]
        match t, hp.1 with
        | 0, _ => rfl
        | 1, _ => rfl
        | 2, _ => rfl
        | 3, _ => rfl
        | t + 4, h => omega
      · rw [if_neg hp, if_neg hp]
end IM
