/-! scratch alone changed, on each side; the reference's thought -/
section KD
abbrev Kp (M M1 : Mem) : Prop := ∀ K i, keptK K i → M1 K i = M K i
theorem Kp.rf {M : Mem} : Kp M M := fun _ _ _ => rfl
theorem Kp.tr {M M1 M2 : Mem} (h : Kp M M1) (h2 : Kp M1 M2) : Kp M M2 := fun K i hk => (h2 K i hk).trans (h K i hk)
theorem Kp.off {S : Nat → Nat → Prop} {M M1 : Mem} (h : Off S M M1) (hs : ∀ K i, S K i → ¬ keptK K i) : Kp M M1 := fun K i hk => h.at (fun q => hs K i q hk)
theorem nk_R : ∀ K i, scR 1 K i → ¬ keptK K i := fun K i q => by
  simp only [scR, keptK] at q ⊢
  omega
theorem nk_D : ∀ K i, scD 1 K i → ¬ keptK K i := fun K i q => by
  simp only [scD, keptK] at q ⊢
  omega
theorem nk_W : ∀ K i, scW 1 K i → ¬ keptK K i := fun K i q => by
  simp only [scW, keptK] at q ⊢
  omega
theorem nk_S {r : Nat} : ∀ K i, scS r K i → ¬ keptK K i := fun K i q => by
  simp only [scS, keptK] at q ⊢
  omega
theorem nk_M : ∀ K i, scM K i → ¬ keptK K i := fun K i q => by
  simp only [scM, keptK] at q ⊢
  omega
theorem Kp.sv {M M1 : Mem} (h : Kp M M1) : svX M1 = svX M := svX_off (fun i => h _ _ (by simp [keptK])) (fun i => h _ _ (by simp [keptK]))
theorem Kp.txt {T : Nat} {M M1 : Mem} (h : Kp M M1) (hT : Txt T M) : Txt T M1 := hT.off (fun i => ⟨h _ _ (by simp [keptK]), h _ _ (by simp [keptK]), h _ _ (by simp [keptK])⟩) (h _ _ (by simp [keptK])) (h _ _ (by simp [keptK]))
theorem Kp.vX {M M1 : Mem} (h : Kp M M1) : vwX 0 M1 = vwX 0 M := vwX_eq (h _ _ (by simp [keptK])) (h _ _ (by simp [keptK])) (fun t ht => h _ _ (kept18 (by omega)))
theorem Kp.inX {T : Nat} {M M1 : Mem} (h : Kp M M1) (hI : InX T 0 M) : InX T 0 M1 := hI.same (h _ _ (by simp [keptK])) (h _ _ (by simp [keptK])) (fun t ht => h _ _ (kept18 (by omega)))
/-- rows of the reference but the first of a kind don't matter -/
theorem RelT.keep0 {T : Nat} {M M' : Mem} (h : RelT T M) (hk : ∀ K i, keptK K i → (22 ≤ K → i = 0) → M' K i = M K i) : RelT T M' := by
  obtain ⟨a1, a2, a3, a4, a5, a6, a7, a8, a9, a10, a11⟩ := h
  have k : ∀ {K i : Nat}, keptK K i → (22 ≤ K → i = 0) → M' K i = M K i := fun h h2 => hk _ _ h h2
  have eX0 : vwX 0 M' = vwX 0 M := vwX_eq (k (by simp [keptK]) (by simp)) (k (by simp [keptK]) (by simp)) (fun t ht => k (kept18 (by omega)) (by simp))
  have eX2 : vwX 2 M' = vwX 2 M := vwX_eq (k (by simp [keptK]) (by simp)) (k (by simp [keptK]) (by simp)) (fun t ht => k (kept18 (by omega)) (by simp))
  have eM : vwM M' = vwM M := vwM_eq (k (by simp [keptK]) (by simp)) (k (by simp [keptK]) (by simp)) (k (by simp [keptK]) (by simp)) (k (by simp [keptK]) (by simp)) (k (by simp [keptK]) (by simp)) (k (by simp [keptK]) (by simp))
  have eI : vwI M' = vwI M := by
    unfold vwI
    rw [k (show keptK 31 0 by simp [keptK]) (by simp), k (show keptK 32 0 by simp [keptK]) (by simp), k (show keptK 23 0 by simp [keptK]) (by simp), k (show keptK 24 0 by simp [keptK]) (by simp)]
  have i0 := a4.same (M' := M') (k (by simp [keptK]) (by simp)) (k (by simp [keptK]) (by simp)) (fun t ht => k (kept18 (by omega)) (by simp))
  refine ⟨a1.off (fun i => ⟨k (by simp [keptK]) (by simp), k (by simp [keptK]) (by simp), k (by simp [keptK]) (by simp)⟩) (k (by simp [keptK]) (by simp)) (k (by simp [keptK]) (by simp)), by rw [k (by simp [keptK]) (by simp)]; exact a2, by rw [k (by simp [keptK]) (by simp)]; exact a3, i0, a5.same eM (k (by simp [keptK]) (by simp)), by rw [eX0, eM]; exact a6, by rw [eX0]; exact a7, ?_, ?_, ?_, ?_⟩
  · unfold TapeR
    rw [k (show keptK 1 0 by simp [keptK]) (by simp), k (show keptK 22 0 by simp [keptK]) (by simp), k (show keptK 2 0 by simp [keptK]) (by simp), k (show keptK 28 0 by simp [keptK]) (by simp)]
    exact a8
  · intro s hs
    rw [k (show keptK 13 s by simp [keptK]) (by simp), k (show keptK 33 0 by simp [keptK]) (by simp), k (show keptK 34 0 by simp [keptK]) (by simp), k (show keptK 14 s by simp [keptK]) (by simp), k (show keptK 35 0 by simp [keptK]) (by simp)]
    exact a9 s hs
  · obtain ⟨b1, b2⟩ := a10
    refine ⟨by rw [k (show keptK 0 0 by simp [keptK]) (by simp), k (show keptK 22 0 by simp [keptK]) (by simp)]; exact b1, ?_⟩
    rw [k (show keptK 0 0 by simp [keptK]) (by simp), k (show keptK 32 0 by simp [keptK]) (by simp), eX2, eX0, eI]
    rcases b2 with b2 | ⟨c1, c2, c3⟩
    · exact Or.inl b2
    · exact Or.inr ⟨c1, c2.same (k (by simp [keptK]) (by simp)) (k (by simp [keptK]) (by simp)) (fun t ht => k (kept18 (by omega)) (by simp)), c3⟩
  · unfold ConR
    rw [k (show keptK 37 0 by simp [keptK]) (by simp)]
    exact a11
/-- kept but for the reference's row and its object's slots of scratch -/
def Lk (M N : Mem) : Prop := (∀ K i, keptK K i → K ≠ 27 → K ≠ 22 → N K i = M K i) ∧ (∀ c, c < 36 → N 27 0 c = M 27 0 c) ∧ ∀ s, s ≤ 13 → N 22 0 s = M 22 0 s
theorem Lk.rf {M : Mem} : Lk M M := ⟨fun _ _ _ _ _ => rfl, fun _ _ => rfl, fun _ _ => rfl⟩
theorem Lk.tr {M M1 M2 : Mem} (h : Lk M M1) (h2 : Lk M1 M2) : Lk M M2 := ⟨fun K i a b c => (h2.1 K i a b c).trans (h.1 K i a b c), fun c hc => (h2.2.1 c hc).trans (h.2.1 c hc), fun s hs => (h2.2.2 s hs).trans (h.2.2 s hs)⟩
theorem Kp.lk {M N : Mem} (h : Kp M N) : Lk M N := ⟨fun K i a _ _ => h K i a, fun c _ => by rw [h 27 0 (by simp [keptK])], fun s _ => by rw [h 22 0 (by simp [keptK])]⟩
theorem Lk.sv {M N : Mem} (h : Lk M N) : svX N = svX M := svX_off (fun i => h.1 _ _ (by simp [keptK]) (by decide) (by decide)) (fun i => h.1 _ _ (by simp [keptK]) (by decide) (by decide))
theorem Lk.txt {T : Nat} {M N : Mem} (h : Lk M N) (hT : Txt T M) : Txt T N := hT.off (fun i => ⟨h.1 _ _ (by simp [keptK]) (by decide) (by decide), h.1 _ _ (by simp [keptK]) (by decide) (by decide), h.1 _ _ (by simp [keptK]) (by decide) (by decide)⟩) (h.1 _ _ (by simp [keptK]) (by decide) (by decide)) (h.1 _ _ (by simp [keptK]) (by decide) (by decide))
theorem Lk.vM {M N : Mem} (h : Lk M N) : vwM N = vwM M := by
  obtain ⟨h1, h2, h3⟩ := h
  unfold vwM
  rw [h3 0 (by omega), h3 6 (by omega), h3 12 (by omega)]
  refine Prod.ext ?_ (Prod.ext ?_ rfl)
  · funext c
    by_cases hc : c < 36
    · simp only [hc, if_true, h2 c hc]
    · simp only [hc, if_false]
  · funext t p
    have : N (trK t) 0 = M (trK t) 0 := h1 _ _ (by unfold trK; split <;> simp [keptK]) (by unfold trK; split <;> decide) (by unfold trK; split <;> decide)
    simp only [this]
theorem Lk.inM {T : Nat} {M N : Mem} (h : Lk M N) (hI : InM T M) : InM T N := by
  have e := h.vM
  obtain ⟨a1, a2, a3, a4, a5⟩ := hI
  exact ⟨by rw [e, h.2.2 0 (by omega)]; exact a1, by rw [e, h.2.2 12 (by omega)]; exact a2, by rw [e]; exact a3, by rw [e]; exact a4, by rw [e]; exact a5⟩
theorem RelT.lk {T : Nat} {M N : Mem} (h : RelT T M) (k : Lk M N) : RelT T N := by
  have e0 : ∀ K i, (22 ≤ K → i = 0) → (fun K i => if 22 ≤ K ∧ i ≠ 0 then M K i else N K i) K i = N K i := fun K i hh => by
    show (if 22 ≤ K ∧ i ≠ 0 then M K i else N K i) = N K i
    rw [if_neg (fun q => q.2 (hh q.1))]
  generalize hP : (fun K i => if 22 ≤ K ∧ i ≠ 0 then M K i else N K i) = P at e0
  have kP : Lk M P := by
    refine ⟨fun K i a b c => ?_, fun c hc => ?_, fun s hs => ?_⟩
    · rw [← hP]
      show (if 22 ≤ K ∧ i ≠ 0 then M K i else N K i) = M K i
      split
      · rfl
      · exact k.1 K i a b c
    · rw [e0 27 0 (fun _ => rfl)]; exact k.2.1 c hc
    · rw [e0 22 0 (fun _ => rfl)]; exact k.2.2 s hs
  have eX0 : vwX 0 P = vwX 0 M := vwX_eq (kP.1 _ _ (by simp [keptK]) (by decide) (by decide)) (kP.1 _ _ (by simp [keptK]) (by decide) (by decide)) (fun t ht => kP.1 _ _ (kept18 (by omega)) (by decide) (by decide))
  have i0 : InX T 0 P := h.2.2.2.1.same (kP.1 _ _ (by simp [keptK]) (by decide) (by decide)) (kP.1 _ _ (by simp [keptK]) (by decide) (by decide)) (fun t ht => kP.1 _ _ (kept18 (by omega)) (by decide) (by decide))
  have hP2 : RelT T P := by
    refine h.room (fun K i hK hR => ?_) ⟨kP.2.2 8 (by omega), kP.2.2 11 (by omega), kP.2.2 13 (by omega)⟩ i0 (kP.inM h.2.2.2.2.1) (by rw [eX0, kP.vM]; exact h.2.2.2.2.2.1) (by rw [eX0]; exact h.2.2.2.2.2.2.1) (fun h1 => ⟨?_, fun p _ => ⟨by rw [kP.1 23 0 (by simp [keptK]) (by decide) (by decide)], by rw [kP.1 24 0 (by simp [keptK]) (by decide) (by decide)]⟩⟩)
    · by_cases hi : 22 ≤ K ∧ i ≠ 0
      · rw [← hP]
        show (if 22 ≤ K ∧ i ≠ 0 then M K i else N K i) = M K i
        rw [if_pos hi]
      · refine kP.1 K i hK (fun e => ?_) (fun e => ?_)
        · subst e
          have : i = 0 := Decidable.byContradiction fun q => hi ⟨by decide, q⟩
          subst this
          exact hR (by simp [roomK])
        · subst e
          have : i = 0 := Decidable.byContradiction fun q => hi ⟨by decide, q⟩
          subst this
          exact hR (by simp [roomK])
    · rw [eX0]
      rcases h.2.2.2.2.2.2.2.2.2.1.2 with b | b
      · rw [h1] at b; exact absurd b (by decide)
      · exact b.2.2.2.2.2.2
  exact hP2.keep0 (fun K i _ h2 => (e0 K i h2).symm)
/-- the two sides apart: each comes to the same worth -/
theorem Same.ask {fx fm : Mem → Option (Int32 × Mem)} (S : Mem → Int32) (hS : ∀ M M1, Kp M M1 → S M1 = S M) (hx : ∀ T M, RelT T M → Ev (fx M) (fun r M1 => r = S M ∧ Kp M M1)) (hm : ∀ T M, RelT T M → Ev (fm M) (fun r M1 => r = S M ∧ Lk M M1)) : Same fx fm := by
  rintro M ⟨T, h⟩
  refine (hx T M h).mono (fun r M1 q => ?_)
  have h1 := h.keep q.2
  refine (hm T M1 h1).mono (fun r2 M2 q2 => ⟨?_, T, h1.lk q2.2⟩)
  rw [q2.1, q.1]
  exact hS M M1 q.2
def SameL (fx fm : Mem → Option (Int64 × Mem)) : Prop := ∀ M, Rel M → Ev (fx M) (fun r M1 => Ev (fm M1) (fun r2 M2 => r2 = r ∧ Rel M2))
theorem SameL.ask {fx fm : Mem → Option (Int64 × Mem)} (S : Mem → Int64) (hS : ∀ M M1, Kp M M1 → S M1 = S M) (hx : ∀ T M, RelT T M → Ev (fx M) (fun r M1 => r = S M ∧ Kp M M1)) (hm : ∀ T M, RelT T M → Ev (fm M) (fun r M1 => r = S M ∧ Lk M M1)) : SameL fx fm := by
  rintro M ⟨T, h⟩
  refine (hx T M h).mono (fun r M1 q => ?_)
  have h1 := h.keep q.2
  refine (hm T M1 h1).mono (fun r2 M2 q2 => ⟨?_, T, h1.lk q2.2⟩)
  rw [q2.1, q.1]
  exact hS M M1 q.2
end KD
