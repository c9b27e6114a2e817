/-! both rooms changed alike, told side by side -/
section BO
theorem RelT.room0 {T : Nat} {M M' : Mem} (h : RelT T M) (hk : ∀ K i, keptK K i → (22 ≤ K → i = 0) → ¬ roomK K i → M' K i = M K i) (h22 : M' 22 0 8 = M 22 0 8 ∧ M' 22 0 11 = M 22 0 11 ∧ M' 22 0 13 = M 22 0 13) (hX : InX T 0 M') (hM : InM T M') (hv : vwX 0 M' = vwM M') (hd : okDay (vwX 0 M'))
    (hi : M 0 0 7 = 1 → rN (vwX 2 M) ≤ rN (vwX 0 M') ∧ ∀ p, p < rN (vwX 2 M) → M' 23 0 p = M 23 0 p ∧ M' 24 0 p = M 24 0 p) : RelT T M' := by
  have e0 : ∀ K i, (22 ≤ K → i = 0) → (fun K i => if 22 ≤ K ∧ i ≠ 0 then M K i else M' K i) K i = M' K i := fun K i hh => by
    show (if 22 ≤ K ∧ i ≠ 0 then M K i else M' K i) = M' K i
    rw [if_neg (fun q => q.2 (hh q.1))]
  have e1 : ∀ K i, (22 ≤ K ∧ i ≠ 0) → (fun K i => if 22 ≤ K ∧ i ≠ 0 then M K i else M' K i) K i = M K i := fun K i hh => by
    show (if 22 ≤ K ∧ i ≠ 0 then M K i else M' K i) = M K i
    rw [if_pos hh]
  generalize (fun K i => if 22 ≤ K ∧ i ≠ 0 then M K i else M' K i) = P at e0 e1
  have eX : vwX 0 P = vwX 0 M' := vwX_eq (e0 _ _ (by simp)) (e0 _ _ (by simp)) (fun t ht => e0 _ _ (by simp))
  have eM : vwM P = vwM M' := vwM_eq (e0 _ _ (by simp)) (e0 _ _ (by simp)) (e0 _ _ (by simp)) (e0 _ _ (by simp)) (e0 _ _ (by simp)) (e0 _ _ (by simp))
  have hP : RelT T P := by
    refine h.room (fun K i hK hR => ?_) ?_ (hX.same (e0 _ _ (by simp)) (e0 _ _ (by simp)) (fun t ht => e0 _ _ (by simp))) (hM.same eM (e0 _ _ (by simp))) (by rw [eX, eM]; exact hv) (by rw [eX]; exact hd) ?_
    · by_cases hi : 22 ≤ K ∧ i ≠ 0
      · exact e1 K i hi
      · have hi2 : 22 ≤ K → i = 0 := fun q => Decidable.byContradiction fun q2 => hi ⟨q, q2⟩
        rw [e0 K i hi2]
        exact hk K i hK hi2 hR
    · rw [e0 22 0 (by simp)]; exact h22
    · rw [e0 23 0 (by simp), e0 24 0 (by simp), eX]; exact hi
  exact hP.keep0 (fun K i _ h2 => (e0 K i h2).symm)
theorem Same.room {fx fm : Mem → Option (Int32 × Mem)} (S : Mem → Int32) (V : Mem → Rm)
    (hx : ∀ T M, RelT T M → Ev (fx M) (fun r M1 => r = S M ∧ vwX 0 M1 = V M ∧ InX T 0 M1 ∧ okDay (vwX 0 M1) ∧ ∀ K i, keptK K i → ¬ (K < 22 ∧ roomK K i) → M1 K i = M K i))
    (hm : ∀ T M N, RelT T M → Txt T N → InM T N → vwM N = vwX 0 M → svX N = svX M → (∀ K i, keptK K i → ¬ (K < 22 ∧ roomK K i) → N K i = M K i) → Ev (fm N) (fun r N1 => r = S M ∧ vwM N1 = V M ∧ InM T N1 ∧ (N1 22 0 8 = N 22 0 8 ∧ N1 22 0 11 = N 22 0 11 ∧ N1 22 0 13 = N 22 0 13) ∧ (∀ K i, keptK K i → (22 ≤ K → i = 0 ∧ ¬ roomK K i) → N1 K i = N K i) ∧ rN (vwM N) ≤ rN (vwM N1) ∧ ∀ p, p < rN (vwM N) → N1 23 0 p = N 23 0 p ∧ N1 24 0 p = N 24 0 p)) : Same fx fm := by
  rintro M ⟨T, h⟩
  refine (hx T M h).mono (fun r N q => ?_)
  obtain ⟨q1, q2, q3, q4, q5⟩ := q
  have k : ∀ {K i : Nat}, keptK K i → ¬ (K < 22 ∧ roomK K i) → N K i = M K i := fun a b => q5 _ _ a b
  have hT : Txt T N := h.1.off (fun i => ⟨k (by simp [keptK]) (by simp [roomK]), k (by simp [keptK]) (by simp [roomK]), k (by simp [keptK]) (by simp [roomK])⟩) (k (by simp [keptK]) (by simp)) (k (by simp [keptK]) (by simp))
  have hs : svX N = svX M := svX_off (fun i => k (by simp [keptK]) (by simp [roomK])) (fun i => k (by simp [keptK]) (by simp [roomK]))
  have eM : vwM N = vwM M := vwM_eq (k (by simp [keptK]) (by simp)) (k (by simp [keptK]) (by simp)) (k (by simp [keptK]) (by simp)) (k (by simp [keptK]) (by simp)) (k (by simp [keptK]) (by simp)) (k (by simp [keptK]) (by simp))
  have hv : vwX 0 M = vwM M := h.2.2.2.2.2.1
  refine (hm T M N h hT (h.2.2.2.2.1.same eM (k (by simp [keptK]) (by simp))) (by rw [eM, hv]) hs (fun K i a b => k a b)).mono (fun r2 N1 z => ?_)
  obtain ⟨z1, z2, z3, z4, z5, z6, z7⟩ := z
  have e0 : ∀ K i, keptK K i → K < 22 → N1 K i = N K i := fun K i a b => z5 K i a (fun q => absurd q (by omega))
  have eX : vwX 0 N1 = vwX 0 N := vwX_eq (e0 _ _ (by simp [keptK]) (by decide)) (e0 _ _ (by simp [keptK]) (by decide)) (fun t ht => e0 _ _ (kept18 (by omega)) (by decide))
  have n22 : N 22 0 = M 22 0 := k (by simp [keptK]) (by simp)
  refine ⟨by rw [z1, q1], T, h.room0 (fun K i a b c => ?_) ⟨by rw [z4.1, n22], by rw [z4.2.1, n22], by rw [z4.2.2, n22]⟩ (q3.same (e0 _ _ (by simp [keptK]) (by decide)) (e0 _ _ (by simp [keptK]) (by decide)) (fun t ht => e0 _ _ (kept18 (by omega)) (by decide))) z3 (by rw [eX, q2, z2]) (by rw [eX]; exact q4) (fun h1 => ?_)⟩
  · rw [z5 K i a (fun q => ⟨b q, c⟩)]
    exact k a (fun q => c q.2)
  · have hle : rN (vwX 2 M) ≤ rN (vwX 0 M) := by
      rcases h.2.2.2.2.2.2.2.2.2.1.2 with b | b
      · rw [h1] at b; exact absurd b (by decide)
      · exact b.2.2.2.2.2.2
    have e3 : rN (vwX 0 M) = rN (vwM N) := by rw [eM, hv]
    have e4 : rN (vwX 0 N1) = rN (vwM N1) := by rw [eX, q2, z2]
    refine ⟨by omega, fun p hp => ?_⟩
    have := z7 p (by omega)
    rw [this.1, this.2, k (show keptK 23 0 by simp [keptK]) (by simp), k (show keptK 24 0 by simp [keptK]) (by simp)]
    exact ⟨rfl, rfl⟩
/-! day -/
theorem day_same : Same fX10_day fX11_day := by
  refine Same.room (fun M => if M 15 0 8 < 999 then sumT (rT (dayS (svX M) skN (vwX 0 M))) 0 36 else -3) (fun M => if M 15 0 8 < 999 then dayS (svX M) skN (vwX 0 M) else vwX 0 M) ?_ ?_
  · intro T M h
    have hX := h.2.2.2.1
    unfold fX10_day
    refine Ev.ite (fun h0 => ?_) (fun h0 => ?_)
    · refine Ev.bind (passDay_ev h.1 hX) (fun _ M1 q => ?_)
      refine Ev.bind (total_ev (r := 0) (lo := 0) (hi := 36) (by omega) (by omega)) (fun v2 M2 q2 => Ev.ret ?_)
      obtain ⟨q3, rfl⟩ := q2
      rw [if_pos h0, if_pos h0]
      refine ⟨by rw [q3, q.1], q.1, q.2.1, ?_, fun K i a b => q.2.2.at (fun z => b ?_)⟩
      · obtain ⟨d, hd, e⟩ := h.2.2.2.2.2.2.1
        have e8 : M 15 0 8 = nI d := e
        rw [e8] at h0
        have := (nI_ltI (b := 999) (by omega) (by omega)).mp h0
        refine ⟨d + 1, by omega, ?_⟩
        rw [q.1]
        show rD (dayF (svX M) (fun _ => false) (rN (vwX 0 M)) (vwX 0 M)) + 1 = nI (d + 1)
        rw [show rD (dayF (svX M) (fun _ => false) (rN (vwX 0 M)) (vwX 0 M)) = rD (vwX 0 M) by unfold rD; rw [dayF_2], e, nI_1]
      · simp only [scD] at z
        simp only [keptK] at a
        simp only [roomK]
        omega
    · rw [if_neg h0, if_neg h0]
      exact Ev.ret ⟨rfl, rfl, hX, h.2.2.2.2.2.2.1, fun _ _ _ _ => rfl⟩
  · intro T M N h hT hI hvN hs hk
    obtain ⟨d, hd, e⟩ := h.2.2.2.2.2.2.1
    have e6 : N 22 0 6 = nI d := by
      show rD (vwM N) = nI d
      rw [hvN, e]
    have e8 : M 15 0 8 = nI d := e
    unfold fX11_day
    rw [e6, e8]
    have hlt : (nI d < 999) ↔ ¬ nI d = 999 := by
      show (nI d < nI 999) ↔ ¬ nI d = nI 999
      rw [nI_ltI (by omega) (by omega), nI_eq (by omega) (by omega)]
      omega
    refine Ev.ite (fun h0 => ?_) (fun h0 => ?_)
    · rw [if_neg (fun q => hlt.mp q h0), if_neg (fun q => hlt.mp q h0)]
      exact Ev.ret ⟨rfl, hvN, hI, ⟨rfl, rfl, rfl⟩, fun _ _ _ _ => rfl, Nat.le_refl _, fun _ _ => ⟨rfl, rfl⟩⟩
    · rw [if_pos (hlt.mpr h0), if_pos (hlt.mpr h0)]
      refine Ev.bind (dayBut_ev hT hI skN_ok) (fun _ N1 q => ?_)
      refine Ev.bind allOf_ev (fun v2 M2 q2 => Ev.ret ?_)
      obtain ⟨q3, rfl⟩ := q2
      obtain ⟨z1, z2, z3, z4⟩ := q
      refine ⟨by rw [q3, z1, hs, hvN], by rw [z1, hs, hvN], z2, ⟨z3 8 (by omega), z3 11 (by omega), z3 13 (by omega)⟩, fun K i a b => z4.at (fun z => ?_), ?_, fun p _ => ⟨by rw [z4.at (by simp [scMD])], by rw [z4.at (by simp [scMD])]⟩⟩
      · simp only [scMD] at z
        simp only [keptK] at a
        have hK : 22 ≤ K := by omega
        have := b hK
        simp only [roomK] at this
        omega
      · rw [z1]
        show rN (vwM N) ≤ rN (dayF (svX N) skN (rN (vwM N)) (vwM N))
        rw [show rN (dayF (svX N) skN (rN (vwM N)) (vwM N)) = rN (vwM N) by unfold rN; rw [dayF_2]]
        exact Nat.le_refl _
end BO
