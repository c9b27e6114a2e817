/-! a day, on both sides -/
section DY
def dayF (E : Nat → Nat → (Nat → Int32) → Int32) (sk : Nat → Bool) : Nat → Rm → Rm
  | 0, R => R
  | n + 1, R => if sk n then dayF E sk n R else leaveS E (dayF E sk n R) n
def incD (R : Rm) : Rm := (R.1, R.2.1, R.2.2.1, rD R + 1, R.2.2.2.2)
def dayS (E : Nat → Nat → (Nat → Int32) → Int32) (sk : Nat → Bool) (R : Rm) : Rm := incD (dayF E sk (rN R) R)
theorem dayF_2 (E : Nat → Nat → (Nat → Int32) → Int32) (sk : Nat → Bool) (R : Rm) : ∀ n, (dayF E sk n R).2 = R.2 := by
  intro n
  induction n with
  | zero => rfl
  | succ n ih =>
    unfold dayF
    split
    · exact ih
    · exact ih
theorem okA_2 {R R' : Rm} (h : R'.2 = R.2) (hA : okA R) : okA R' := by
  unfold okA rN rA at hA ⊢
  rw [h]
  exact hA
theorem okT_leave {E : Nat → Nat → (Nat → Int32) → Int32} {R : Rm} {p : Nat} (h : okT R) : okT (leaveS E R p) := lvT_ok h
theorem okT_dayF {E : Nat → Nat → (Nat → Int32) → Int32} {sk : Nat → Bool} {R : Rm} (h : okT R) : ∀ n, okT (dayF E sk n R) := by
  intro n
  induction n with
  | zero => exact h
  | succ n ih =>
    unfold dayF
    split
    · exact ih
    · exact okT_leave ih
theorem Txt.off {T : Nat} {M M' : Mem} (h : Txt T M) (ho : ∀ i, M' 8 i = M 8 i ∧ M' 10 i = M 10 i ∧ M' 11 i = M 11 i) (h29 : M' 29 0 = M 29 0) (h30 : M' 30 0 = M 30 0) : Txt T M' := ⟨h.1, h.2.1, fun t ht => (h.2.2 t ht).off (ho t).1 (ho t).2.1 (ho t).2.2 h29 h30⟩
theorem InX.eqv {T r : Nat} {M M' : Mem} (h : InX T r M) (hv : (vwX r M').2 = (vwX r M).2) (h7 : M' 15 r 7 = M 15 r 7) (h9 : M' 15 r 9 = M 15 r 9) (hT : okT (vwX r M')) : InX T r M' := by
  obtain ⟨a1, a2, a3, a4, a5⟩ := h
  have e1 : rN (vwX r M') = rN (vwX r M) := by unfold rN; rw [hv]
  have e2 : rL (vwX r M') = rL (vwX r M) := by unfold rL; rw [hv]
  exact ⟨by rw [h7, a1, e1], by rw [h9, a2, e2], by rw [e2]; exact a3, okA_2 hv a4, hT⟩
theorem InM.eqv {T : Nat} {M M' : Mem} (h : InM T M) (hv : (vwM M').2 = (vwM M).2) (h7 : M' 22 0 0 = M 22 0 0) (h9 : M' 22 0 12 = M 22 0 12) (hT : okT (vwM M')) : InM T M' := by
  obtain ⟨a1, a2, a3, a4, a5⟩ := h
  have e1 : rN (vwM M') = rN (vwM M) := by unfold rN; rw [hv]
  have e2 : rL (vwM M') = rL (vwM M) := by unfold rL; rw [hv]
  exact ⟨by rw [h7, a1, e1], by rw [h9, a2, e2], by rw [e2]; exact a3, okA_2 hv a4, hT⟩
theorem scW_txt {T r : Nat} {M M' : Mem} (h : Txt T M) (ho : Off (scW r) M M') : Txt T M' := h.off (fun i => ⟨ho.at (by simp [scW]), ho.at (by simp [scW]), ho.at (by simp [scW])⟩) (ho.at (by simp [scW])) (ho.at (by simp [scW]))
theorem scW_sv {r : Nat} {M M' : Mem} (h : Off (scW r) M M') : svX M' = svX M := svX_off (fun i => h.at (by simp [scW])) (fun i => h.at (by simp [scW]))
abbrev scD (r : Nat) : Nat → Nat → Prop := fun K i => K = 9 ∨ (K = 19 ∧ i = r) ∨ (K = 16 ∧ i = r) ∨ (K = 15 ∧ i = r)
theorem passDay_ev {T r : Nat} {M : Mem} (hT : Txt T M) (hI : InX T r M) : Ev (fX5_passDay r M) (fun _ M' => vwX r M' = dayS (svX M) (fun _ => false) (vwX r M) ∧ InX T r M' ∧ Off (scD r) M M') := by
  have h6 := hI.2.2.2.1.1
  unfold fX5_passDay
  refine Ev.loop (f := fun n (x : Int32) M => fX5_passDay_L2 r n x M) (B := fun k x M => fX5_passDay_B2 r k x M) (fun _ _ _ => rfl) (rN (vwX r M))
    (fun j x M' => x = nI j ∧ vwX r M' = dayF (svX M) (fun _ => false) j (vwX r M) ∧ Off (scW r) M M') ?_ ?_ FU 0 (nI 0) M (Nat.zero_le _) (by show _ < 2000 + 0; omega) ⟨rfl, rfl, Off.rf⟩
  · rintro k j x M' hj ⟨rfl, hv, hoff⟩ hk
    have hI' : InX T r M' := hI.eqv (by rw [hv, dayF_2]) (by rw [hoff.at (by simp [scW])]) (by rw [hoff.at (by simp [scW])]) (by rw [hv]; exact okT_dayF hI.2.2.2.2 j)
    have hn : rN (vwX r M') = rN (vwX r M) := by rw [hv]; unfold rN; rw [dayF_2]
    show Ev (fX5_passDay_B2 r k (nI j) M') _
    unfold fX5_passDay_B2
    rw [hI'.1, hn, if_neg (fun q => by have := (nI_leI (by omega) (by omega)).mp q; omega)]
    refine Ev.bind (leave_ev (scW_txt hT hoff) hI' (by rw [hn]; exact hj)) (fun _ M2 h2 => ?_)
    rw [nI_1]
    refine hk _ M2 ⟨rfl, ?_, hoff.tr h2.2⟩
    rw [h2.1, scW_sv hoff, hv]
    rfl
  · rintro k x M' ⟨rfl, hv, hoff⟩
    have hI' : InX T r M' := hI.eqv (by rw [hv, dayF_2]) (by rw [hoff.at (by simp [scW])]) (by rw [hoff.at (by simp [scW])]) (by rw [hv]; exact okT_dayF hI.2.2.2.2 _)
    have hn : rN (vwX r M') = rN (vwX r M) := by rw [hv]; unfold rN; rw [dayF_2]
    show Ev (fX5_passDay_B2 r k (nI (rN (vwX r M))) M') _
    unfold fX5_passDay_B2
    rw [hI'.1, hn, if_pos ((nI_leI (by omega) (by omega)).mpr (Nat.le_refl _))]
    have hM : vwX r (mst M' 15 r 8 (M' 15 r 8 + 1)) = incD (vwX r M') := by
      unfold incD vwX rD
      rw [mst_s, mst_n (show ¬ (16 = 15 ∧ r = r) by simp)]
      refine Prod.ext rfl (Prod.ext ?_ rfl)
      funext t p
      simp only [mst_n (show ¬ (18 = 15 ∧ 4 * r + t = r) from fun q => absurd q.1 (by decide))]
      rfl
    refine Ev.let_ fun M1 h1 => Ev.ret ⟨?_, ?_, ?_⟩
    · rw [h1, hM, hv]; rfl
    · have a : InX T r M1 := by
        obtain ⟨a1, a2, a3, a4, a5⟩ := hI'
        rw [h1]
        refine ⟨?_, ?_, ?_, ?_, ?_⟩
        · rw [hM, mst_s]; exact a1
        · rw [hM, mst_s]; exact a2
        · rw [hM]; exact a3
        · rw [hM]; exact a4
        · rw [hM]; exact a5
      exact a
    · rw [h1]
      exact (hoff.mono (fun K i h => by rcases h with h | h | h; exact Or.inl h; exact Or.inr (Or.inl h); exact Or.inr (Or.inr (Or.inl h)))).mst (Or.inr (Or.inr (Or.inr ⟨rfl, rfl⟩)))
theorem leavesAt_ev {T p far : Nat} {v : Int32} {M : Mem} (hI : InM T M) (hp : p < rN (vwM M)) (hf : far < 2) : fX11_leavesAt (nI p) v (nI far) M = some (dropsK (knd (vwM M) p) far v (rA (vwM M) 3 p), M) := by
  have hA := hI.2.2.2.1
  have hp6 : p < 6 := Nat.lt_of_lt_of_le hp hA.1
  have hk := knd_lt hA hp
  unfold fX11_leavesAt
  rw [inb_nI hp6 (by decide), nI_clamp (show p < 2 ^ 31 by omega), show M 23 0 p = rA (vwM M) 2 p from vwM_A (t := 2) (by omega) hp, show M 24 0 p = rA (vwM M) 3 p from vwM_A (t := 3) (by omega) hp, knd_eq hA hp]
  generalize rA (vwM M) 3 p = m
  generalize knd (vwM M) p = kk at hk
  have hfar : far = 0 ∨ far = 1 := by omega
  show (if nI kk = 1 then _ else _) = _
  match kk, hk with
  | 0, _ =>
    rw [if_neg (by decide), if_neg (by decide), if_neg (by decide), if_neg (by decide), if_neg (by decide)]
    rcases hfar with rfl | rfl <;> simp [dropsK, show nI 0 = 0 from rfl, show nI 1 = 1 from rfl]
  | 1, _ =>
    rw [if_pos (by decide)]
    rcases hfar with rfl | rfl <;> simp [dropsK, show nI 0 = 0 from rfl, show nI 1 = 1 from rfl]
  | 2, _ =>
    rw [if_neg (by decide), if_pos (by decide)]
    rcases hfar with rfl | rfl
    · by_cases h : v ≤ 0 <;> simp [dropsK, h, show nI 0 = 0 from rfl]
    · simp [dropsK, show nI 1 = 1 from rfl]
  | 3, _ =>
    rw [if_neg (by decide), if_neg (by decide), if_pos (by decide)]
    rcases hfar with rfl | rfl <;> simp [dropsK, gd, show nI 0 = 0 from rfl, show nI 1 = 1 from rfl]
  | 4, _ =>
    rw [if_neg (by decide), if_neg (by decide), if_neg (by decide), if_pos (by decide)]
    rcases hfar with rfl | rfl <;> simp [dropsK, gd, show nI 0 = 0 from rfl, show nI 1 = 1 from rfl]
  | 5, _ =>
    rw [if_neg (by decide), if_neg (by decide), if_neg (by decide), if_neg (by decide), if_pos (by decide)]
    rcases hfar with rfl | rfl <;> simp [dropsK]
  | k + 6, h => omega
end DY
