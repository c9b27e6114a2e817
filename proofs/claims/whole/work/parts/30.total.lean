/-! totals, days, rooms taken over -/
section TT
def sumT (T : Nat → Int32) (lo : Nat) : Nat → Int32
  | 0 => 0
  | n + 1 => sumT T lo n + T (lo + n)
theorem total_ev {r lo hi : Nat} {M : Mem} (hh : hi ≤ 36) (hl : lo ≤ hi) : Ev (fX5_total r (nI lo) (nI hi) M) (fun v M' => v = sumT (rT (vwX r M)) lo (hi - lo) ∧ M' = M) := by
  unfold fX5_total
  refine Ev.loop (f := fun n (x : Int32 × Int32) M => fX5_total_L5 r (nI hi) n x.1 x.2 M) (B := fun k x M => fX5_total_B5 r (nI hi) (fun a b M => k (a, b) M) x.1 x.2 M) (fun _ _ _ => rfl) (hi - lo)
    (fun j x M' => x = (sumT (rT (vwX r M)) lo j, nI (lo + j)) ∧ M' = M) ?_ ?_ FU 0 (0, nI lo) M (Nat.zero_le _) (by show _ < 2000 + 0; omega) ⟨rfl, rfl⟩
  · rintro k j x M' hj ⟨rfl, rfl⟩ hk
    show Ev (fX5_total_B5 r (nI hi) (fun a b M => k (a, b) M) (sumT (rT (vwX r M')) lo j) (nI (lo + j)) M') _
    unfold fX5_total_B5
    rw [if_neg (fun q => by have := (nI_leI (by omega) (by omega)).mp q; omega)]
    refine Ev.gd (inb_nI (by omega) (by decide)) (Ev.letv ?_)
    rw [nI_clamp (show lo + j < 2 ^ 31 by omega), vwX_T (r := r) (M := M') (by omega), nI_1]
    exact hk _ M' ⟨rfl, rfl⟩
  · rintro k x M' ⟨rfl, rfl⟩
    show Ev (fX5_total_B5 r (nI hi) (fun a b M => k (a, b) M) (sumT (rT (vwX r M')) lo (hi - lo)) (nI (lo + (hi - lo))) M') _
    unfold fX5_total_B5
    rw [if_pos ((nI_leI (by omega) (by omega)).mpr (by omega))]
    exact Ev.ret ⟨rfl, rfl⟩
theorem allOf_ev {M : Mem} : Ev (fX11_allOf M) (fun v M' => v = sumT (rT (vwM M)) 0 36 ∧ M' = M) := by
  unfold fX11_allOf
  refine Ev.loop (f := fun n (x : Int32 × Int32) M => fX11_allOf_L4 n x.1 x.2 M) (B := fun k x M => fX11_allOf_B4 (fun a b M => k (a, b) M) x.1 x.2 M) (fun _ _ _ => rfl) 36
    (fun j x M' => x = (sumT (rT (vwM M)) 0 j, nI j) ∧ M' = M) ?_ ?_ FU 0 (0, nI 0) M (Nat.zero_le _) (by show _ < 2000 + 0; omega) ⟨rfl, rfl⟩
  · rintro k j x M' hj ⟨rfl, rfl⟩ hk
    show Ev (fX11_allOf_B4 (fun a b M => k (a, b) M) (sumT (rT (vwM M')) 0 j) (nI j) M') _
    unfold fX11_allOf_B4
    rw [if_neg (fun q => by have := (nI_leI (a := 36) (by omega) (by omega)).mp q; omega)]
    refine Ev.gd (inb_nI hj (by decide)) (Ev.letv ?_)
    rw [nI_clamp (show j < 2 ^ 31 by omega), vwM_T (M := M') hj, nI_1]
    refine hk _ M' ⟨?_, rfl⟩
    show (sumT (rT (vwM M')) 0 j + rT (vwM M') j, nI (j + 1)) = (sumT (rT (vwM M')) 0 j + rT (vwM M') (0 + j), nI (j + 1))
    rw [Nat.zero_add]
  · rintro k x M' ⟨rfl, rfl⟩
    show Ev (fX11_allOf_B4 (fun a b M => k (a, b) M) (sumT (rT (vwM M')) 0 36) (nI 36) M') _
    unfold fX11_allOf_B4
    rw [if_pos (by decide)]
    exact Ev.ret ⟨rfl, rfl⟩
/-- n days -/
def daysS (E : Nat → Nat → (Nat → Int32) → Int32) (sk : Nat → Bool) : Nat → Rm → Rm
  | 0, R => R
  | n + 1, R => dayS E sk (daysS E sk n R)
theorem scD_txt {T r : Nat} {M M' : Mem} (h : Txt T M) (ho : Off (scD r) M M') : Txt T M' := h.off (fun i => ⟨ho.at (by simp [scD]), ho.at (by simp [scD]), ho.at (by simp [scD])⟩) (ho.at (by simp [scD])) (ho.at (by simp [scD]))
theorem scD_sv {r : Nat} {M M' : Mem} (h : Off (scD r) M M') : svX M' = svX M := svX_off (fun i => h.at (by simp [scD])) (fun i => h.at (by simp [scD]))
theorem scMD_txt {T : Nat} {M M' : Mem} (h : Txt T M) (ho : Off scMD M M') : Txt T M' := h.off (fun i => ⟨ho.at (by simp [scMD]), ho.at (by simp [scMD]), ho.at (by simp [scMD])⟩) (ho.at (by simp [scMD])) (ho.at (by simp [scMD]))
theorem scMD_sv {M M' : Mem} (h : Off scMD M M') : svX M' = svX M := svX_off (fun i => h.at (by simp [scMD])) (fun i => h.at (by simp [scMD]))
theorem passDays_ev {T r n : Nat} {M : Mem} (hn : n ≤ 40) (hT : Txt T M) (hI : InX T r M) : Ev (fX5_passDays r (nI n) M) (fun _ M' => vwX r M' = daysS (svX M) (fun _ => false) n (vwX r M) ∧ InX T r M' ∧ Off (scD r) M M') := by
  unfold fX5_passDays
  refine Ev.loop (f := fun m (x : Int32) M => fX5_passDays_L2 r (nI n) m x M) (B := fun k x M => fX5_passDays_B2 r (nI n) k x M) (fun _ _ _ => rfl) n
    (fun j x M' => x = nI j ∧ vwX r M' = daysS (svX M) (fun _ => false) j (vwX r M) ∧ InX T r M' ∧ Off (scD r) M M') ?_ ?_ FU 0 (nI 0) M (Nat.zero_le _) (by show _ < 2000 + 0; omega) ⟨rfl, rfl, hI, Off.rf⟩
  · rintro k j x M' hj ⟨rfl, hv, hI', hoff⟩ hk
    show Ev (fX5_passDays_B2 r (nI n) k (nI j) M') _
    unfold fX5_passDays_B2
    rw [if_neg (fun q => by have := (nI_leI (by omega) (by omega)).mp q; omega)]
    refine Ev.bind (passDay_ev (scD_txt hT hoff) hI') (fun _ M2 h2 => ?_)
    rw [nI_1]
    refine hk _ M2 ⟨rfl, ?_, h2.2.1, hoff.tr h2.2.2⟩
    rw [h2.1, scD_sv hoff, hv]
    rfl
  · rintro k x M' ⟨rfl, hv, hI', hoff⟩
    show Ev (fX5_passDays_B2 r (nI n) k (nI n) M') _
    unfold fX5_passDays_B2
    rw [if_pos ((nI_leI (by omega) (by omega)).mpr (Nat.le_refl _))]
    exact Ev.ret ⟨hv, hI', hoff⟩
/-- a room taken over: all of r from r' -/
abbrev scR (r : Nat) : Nat → Nat → Prop := fun K i => (K = 16 ∧ i = r) ∨ (K = 15 ∧ i = r) ∨ (K = 18 ∧ 4 * r ≤ i ∧ i < 4 * r + 4)
theorem takeFrom_ev {r r' : Nat} {M : Mem} (hr : r ≠ r') (h6 : (M 15 r' 7).toNatClampNeg ≤ 6) : Ev (fX5_takeFrom r r' M) (fun _ M' => (vwX r M' = vwX r' M ∧ M' 15 r 7 = M 15 r' 7 ∧ M' 15 r 9 = M 15 r' 9) ∧ Off (scR r) M M') := by
  unfold fX5_takeFrom
  refine Ev.gd (by decide) (Ev.let_ fun M1 h1 => ?_)
  have hoff1 : Off (scR r) M M1 := by rw [h1]; exact Off.rf.mrow (Or.inl ⟨rfl, rfl⟩)
  have h16 : ∀ c, c < 36 → M1 16 r c = M 16 r' c := fun c hc => by
    rw [h1, mrow_s]
    show va_cpy _ _ 0 0 36 c = _
    unfold va_cpy
    rw [if_pos ⟨Nat.zero_le _, by omega⟩, Nat.zero_add, Nat.sub_zero]
  refine Ev.loop (f := fun m (x : Int32) M => fX5_takeFrom_L17 r r' m x M) (B := fun k x M => fX5_takeFrom_B17 r r' k x M) (fun _ _ _ => rfl) 4
    (fun j x M' => x = nI j ∧ M' 16 r = M1 16 r ∧ (∀ t, t < j → ∀ p, p < 6 → M' 18 (4 * r + t) p = M 18 (4 * r' + t) p) ∧ Off (scR r) M M') ?_ ?_ FU 0 (nI 0) M1 (Nat.zero_le _) (by show _ < 2000 + 0; omega) ⟨rfl, rfl, fun t ht => absurd ht (Nat.not_lt_zero _), hoff1⟩
  · rintro k j x M' hj ⟨rfl, ha, hb, hoff⟩ hk
    show Ev (fX5_takeFrom_B17 r r' k (nI j) M') _
    unfold fX5_takeFrom_B17
    rw [if_neg (fun q => by have := (nI_leI (a := 4) (by omega) (by omega)).mp q; omega)]
    refine Ev.gd (inb_nI hj (by decide)) (Ev.gd (inb_nI hj (by decide)) (Ev.gd (by decide) (Ev.let_ fun M7 h7 => ?_)))
    rw [nI_clamp (show j < 2 ^ 31 by omega)] at h7
    rw [nI_1]
    refine hk _ M7 ⟨rfl, ?_, fun t ht p hp => ?_, ?_⟩
    · rw [h7, mrow_n (by simp)]; exact ha
    · rw [h7]
      by_cases e : t = j
      · subst e
        rw [mrow_s]
        show va_cpy _ _ 0 0 6 p = _
        unfold va_cpy
        rw [if_pos ⟨Nat.zero_le _, by omega⟩, Nat.zero_add, Nat.sub_zero, hoff.at (by simp only [scR]; omega)]
      · rw [mrow_n (by omega)]
        exact hb t (by omega) p hp
    · rw [h7]
      exact hoff.mrow (Or.inr (Or.inr ⟨rfl, by omega, by omega⟩))
  · rintro k x M' ⟨rfl, ha, hb, hoff⟩
    show Ev (fX5_takeFrom_B17 r r' k (nI 4) M') _
    unfold fX5_takeFrom_B17
    rw [if_pos (by decide)]
    refine Ev.let_ fun M2 h2 => Ev.let_ fun M3 h3 => Ev.let_ fun M4 h4 => Ev.ret ?_
    have e15 : M' 15 r' = M 15 r' := hoff.at (by simp only [scR]; omega)
    have f2 : M2 15 r = upd (M' 15 r) 7 (M 15 r' 7) := by rw [h2, mst_s, e15]
    have e2 : M2 15 r' = M 15 r' := by rw [h2, mst_n (fun q => hr q.2.symm), e15]
    have e3 : M3 15 r' = M 15 r' := by rw [h3, mst_n (fun q => hr q.2.symm), e2]
    have f3 : M3 15 r = upd (M2 15 r) 8 (M 15 r' 8) := by rw [h3, mst_s, e2]
    have f4 : M4 15 r = upd (M3 15 r) 9 (M 15 r' 9) := by rw [h4, mst_s, e3]
    have k4 : ∀ K i, K ≠ 15 → M4 K i = M' K i := fun K i h => by rw [h4, mst_n (fun q => h q.1), h3, mst_n (fun q => h q.1), h2, mst_n (fun q => h q.1)]
    have v7 : M4 15 r 7 = M 15 r' 7 := by rw [f4, f3, f2]; rfl
    have v8 : M4 15 r 8 = M 15 r' 8 := by rw [f4, f3, f2]; rfl
    have v9 : M4 15 r 9 = M 15 r' 9 := by rw [f4, f3, f2]; rfl
    refine ⟨⟨?_, v7, v9⟩, ?_⟩
    · unfold vwX
      rw [v7, v8, v9]
      refine Prod.ext ?_ (Prod.ext ?_ rfl)
      · funext c
        by_cases hc : c < 36
        · show (if c < 36 then M4 16 r c else 0) = (if c < 36 then M 16 r' c else 0)
          rw [if_pos hc, if_pos hc, k4 16 r (by decide), ha, h16 c hc]
        · show (if c < 36 then M4 16 r c else 0) = (if c < 36 then M 16 r' c else 0)
          rw [if_neg hc, if_neg hc]
      · funext t p
        show (if t < 4 ∧ p < (M 15 r' 7).toNatClampNeg then M4 18 (4 * r + t) p else 0) = (if t < 4 ∧ p < (M 15 r' 7).toNatClampNeg then M 18 (4 * r' + t) p else 0)
        by_cases h : t < 4 ∧ p < (M 15 r' 7).toNatClampNeg
        · rw [if_pos h, if_pos h, k4 18 _ (by decide)]
          exact hb t h.1 p (by have := h.2; omega)
        · rw [if_neg h, if_neg h]
    · rw [h4, h3, h2]
      exact ((hoff.mst (Or.inr (Or.inl ⟨rfl, rfl⟩))).mst (Or.inr (Or.inl ⟨rfl, rfl⟩))).mst (Or.inr (Or.inl ⟨rfl, rfl⟩))
end TT
