/-! what the reference's texts say -/
section AK
abbrev scM : Nat → Nat → Prop := fun K _ => K = 39 ∨ K = 40
theorem clip_in (part : Nat) (hp : part < 3) (v : Int32) (M : Mem) : fX11_within v (if part = 0 then -99 else 0) 99 M = some (clipP part v, M) := by
  unfold fX11_within clipP mmax mmin
  have key : ∀ lo : Int32, lo = -99 ∨ lo = 0 → (if lo ≤ v then (if v ≤ 99 then some (v, M) else some (99, M)) else some (lo, M)) = some ((if lo < (if v < 99 then v else 99) then (if v < 99 then v else 99) else lo), M) := by
    intro lo hlo
    have h99 : lo.toInt ≤ 0 ∧ -99 ≤ lo.toInt := by rcases hlo with rfl | rfl <;> decide
    by_cases h1 : v < 99
    · have h1' := Int32.lt_iff_toInt_lt.mp h1
      rw [show (99 : Int32).toInt = 99 by decide] at h1'
      have h2 : v ≤ 99 := Int32.le_iff_toInt_le.mpr (by rw [show (99 : Int32).toInt = 99 by decide]; omega)
      simp only [h1, if_true, h2]
      by_cases h3 : lo < v
      · have : lo ≤ v := Int32.le_of_lt h3
        simp [h3, this]
      · by_cases h4 : lo ≤ v
        · have : lo = v := Int32.le_antisymm h4 (Int32.not_lt.mp h3)
          simp [this]
        · simp [h3, h4]
    · have h1' : ¬ v.toInt < 99 := fun q => h1 (Int32.lt_iff_toInt_lt.mpr (by rw [show (99 : Int32).toInt = 99 by decide]; exact q))
      have h4 : lo ≤ v := Int32.le_iff_toInt_le.mpr (by omega)
      have h5 : lo < 99 := Int32.lt_iff_toInt_lt.mpr (by rw [show (99 : Int32).toInt = 99 by decide]; omega)
      simp only [h1, if_false, h4, if_true, h5]
      by_cases h6 : v ≤ 99
      · have h6' := Int32.le_iff_toInt_le.mp h6
        rw [show (99 : Int32).toInt = 99 by decide] at h6'
        have : v = 99 := Int32.toInt_inj.mp (by rw [show (99 : Int32).toInt = 99 by decide]; omega)
        simp [this]
      · simp [h6]
  exact key _ (by split <;> simp)
set_option maxHeartbeats 1000000 in
theorem asksOf_ev {T part p c : Nat} {M : Mem} (hT : Txt T M) (hI : InM T M) (hpart : part < 3) (hp : p < rN (vwM M)) (hc : c < 36) : Ev (fX11_asksOf (nI part) (nI p) (nI c) M) (fun v M' => v = saidS (svX M) (vwM M) part p c ∧ Off scM M M') := by
  obtain ⟨h7, h9, hL, hA, -⟩ := hI
  have hp6 : p < 6 := Nat.lt_of_lt_of_le hp hA.1
  have hL6 : rL (vwM M) < 6 := Nat.lt_of_lt_of_le hL hT.2.1
  unfold fX11_asksOf
  refine Ev.gd (by decide) (Ev.let_ fun M1 h1 => Ev.gd (by decide) (Ev.let_ fun M2 h2 => Ev.gd (inb_nI hc (by decide)) (Ev.gd (by decide) (Ev.let_ fun M3 h3 => Ev.gd (by decide) (Ev.let_ fun M4 h4 => Ev.gd (inb_nI hp6 (by decide)) (Ev.gd (by decide) (Ev.let_ fun M6 h6 => Ev.gd (inb_nI hp6 (by decide)) (Ev.gd (by decide) (Ev.let_ fun M8 h8 => ?_)))))))))
  have cp := nI_clamp (show p < 2 ^ 31 by omega)
  have o1 : Off (fun K i => K = 40 ∧ i = 0) M M1 := by rw [h1]; exact Off.rf.mst ⟨rfl, rfl⟩
  have o2 : Off (fun K i => K = 40 ∧ i = 0) M M2 := by rw [h2]; exact o1.mst ⟨rfl, rfl⟩
  have o3 : Off (fun K i => K = 40 ∧ i = 0) M M3 := by rw [h3]; exact o2.mst ⟨rfl, rfl⟩
  have o4 : Off (fun K i => K = 40 ∧ i = 0) M M4 := by rw [h4]; exact o3.mst ⟨rfl, rfl⟩
  have o6 : Off (fun K i => K = 40 ∧ i = 0) M M6 := by rw [h6]; exact o4.mst ⟨rfl, rfl⟩
  have o : Off (fun K i => K = 40 ∧ i = 0) M M8 := by rw [h8]; exact o6.mst ⟨rfl, rfl⟩
  have n40 : ∀ {K i : Nat}, K ≠ 40 → M8 K i = M K i := fun h => o.at (fun q => h q.1)
  rw [irem_nI c hc, show (0 : Int32).toNatClampNeg = 0 by decide] at h1
  rw [idiv_nI c hc, show (1 : Int32).toNatClampNeg = 1 by decide] at h2
  rw [nI_clamp (show c < 2 ^ 31 by omega), show (2 : Int32).toNatClampNeg = 2 by decide, o2.at (fun q => absurd q.1 (by decide)), vwM_T (M := M) hc] at h3
  rw [show (3 : Int32).toNatClampNeg = 3 by decide, o3.at (fun q => absurd q.1 (by decide))] at h4
  rw [cp, show (4 : Int32).toNatClampNeg = 4 by decide, o4.at (fun q => absurd q.1 (by decide)), show M 26 0 p = rA (vwM M) 1 p from vwM_A (t := 1) (by omega) hp] at h6
  rw [cp, show (5 : Int32).toNatClampNeg = 5 by decide, o6.at (fun q => absurd q.1 (by decide)), show M 24 0 p = rA (vwM M) 3 p from vwM_A (t := 3) (by omega) hp] at h8
  have f1 : M1 40 0 = upd (M 40 0) 0 (nI (c % 6)) := by rw [h1, mst_s]
  have f2 : M2 40 0 = upd (M1 40 0) 1 (nI (c / 6)) := by rw [h2, mst_s]
  have f3 : M3 40 0 = upd (M2 40 0) 2 (rT (vwM M) c) := by rw [h3, mst_s]
  have f4 : M4 40 0 = upd (M3 40 0) 3 (rD (vwM M)) := by rw [h4, mst_s]; rfl
  have f6 : M6 40 0 = upd (M4 40 0) 4 (rA (vwM M) 1 p) := by rw [h6, mst_s]
  have f8 : M8 40 0 = upd (M6 40 0) 5 (rA (vwM M) 3 p) := by rw [h8, mst_s]
  have nm : ∀ k, k < 6 → M8 40 0 k = nmR (vwM M) p c k := by
    intro k hk
    rw [f8, f6, f4, f3, f2, f1]
    match k, hk with
    | 0, _ => rfl
    | 1, _ => rfl
    | 2, _ => rfl
    | 3, _ => rfl
    | 4, _ => rfl
    | 5, _ => rfl
    | k + 6, h => omega
  obtain ⟨n, b, hn, q8, qb, qm, qc, qw⟩ := hT.2.2 _ hL
  have e29 : M8 29 0 = M 29 0 := n40 (by decide)
  have e30 : M8 30 0 = M 30 0 := n40 (by decide)
  have hcd : ∀ i, i < n → encC (M8 29 0 (200 * rL (vwM M) + i)) = M 11 (rL (vwM M)) i := fun i hi => by rw [e29]; exact (qc i hi).2.symm
  have hrd : ∀ (m i d : Nat), i + m ≤ n → runD (fun i => encC (M8 29 0 (200 * rL (vwM M) + i))) m i d = runD (M 11 (rL (vwM M))) m i d := by
    intro m
    induction m with
    | zero => intro i d _; rfl
    | succ m ih =>
      intro i d h
      unfold runD
      rw [hcd i (by omega)]
      cases dep (M 11 (rL (vwM M)) i) d with
      | none => rfl
      | some e => exact ih (i + 1) e (by omega)
  have l1 := (qb part (by omega)).2.2
  have l2 := (qb (part + 1) (by omega)).2.2
  have lm := qm part hpart
  refine Ev.bind (saysM_ev (t := rL (vwM M)) (b := b) hpart hL6 (by rw [n40 (by decide)]; exact h9) (fun q hq => ⟨by rw [e30]; exact (qb q hq).2.1, by have := (qb q hq).2.2; omega⟩) lm (fun i _ hi => by rw [e29]; exact (qc i (by omega)).1) (by rw [hrd _ _ _ (by omega)]; exact qw part hpart)) (fun v M2 hv => ?_)
  have hv1 : clipP part v = saidS (svX M) (vwM M) part p c := by
    rw [hv.1]
    unfold saidS svX
    rw [(qb part (by omega)).1, (qb (part + 1) (by omega)).1, nI_clamp (show b part < 2 ^ 31 by omega), nI_clamp (show b (part + 1) < 2 ^ 31 by omega), evX_nm nm _ _ _ (fun k _ h2 => hcd k (by omega))]
  have hoff : Off scM M M2 := (o.mono (fun K i h => Or.inr h.1)).tr (hv.2.mono (fun K i h => Or.inl h))
  by_cases h0 : part = 0
  · rw [if_pos (by rw [h0]; rfl)]
    unfold fX11_asksOf_J81
    have := clip_in part hpart v M2
    rw [if_pos h0] at this
    rw [this]
    exact Ev.ret ⟨hv1, hoff⟩
  · rw [if_neg (nI_ne0 (by omega) (by omega))]
    unfold fX11_asksOf_J81
    have := clip_in part hpart v M2
    rw [if_neg h0] at this
    rw [this]
    exact Ev.ret ⟨hv1, hoff⟩
/-! the kinds -/
def dropsK (k : Nat) (far : Nat) (v m : Int32) : Int32 := if far = 0 then (if k = 2 then (if v ≤ 0 then 0 else 1) else if k = 3 then v + 2 * m else if k = 4 then -m else if k = 5 then 0 else v) else if k = 1 ∨ k = 3 then v / 2 else 0
def wearsK (k : Nat) (v m t : Int32) : Int32 := if k = 2 ∨ k = 4 then v / 2 else if k = 3 then (if t ≤ 50 then v else 0) else if k = 5 then v + m else v
def feelsK (k : Nat) (v m : Int32) : Int32 := if k = 1 ∨ k = 3 then v + m else if k = 2 then 2 * v else if k = 4 then (2 * v) / 4 else if k = 5 then (if 10 ≤ v then v else 0) else v
theorem drops_ev (M : Mem) (k far : Nat) (hk : k < 6) (hf : far < 2) (v m : Int32) : fP_drops k (nI far) v m M = some (dropsK k far v m, M) := by
  have hfar : far = 0 ∨ far = 1 := by omega
  have e10 : ¬ (nI 1 = 0) := by decide
  have e11 : nI 1 = 1 := rfl
  have e00 : nI 0 = 0 := rfl
  have e01 : ¬ ((0 : Int32) = 1) := by decide
  have e02 : ¬ ((1 : Int32) = 0) := by decide
  match k, hk with
  | 0, _ => rcases hfar with rfl | rfl <;> simp [fP_drops, fX3_drops, dropsK, e00, e11]
  | 1, _ => rcases hfar with rfl | rfl <;> simp [fP_drops, fX0_drops, fX3_drops, dropsK, e00, e11, ob]
  | 2, _ =>
    rcases hfar with rfl | rfl
    · by_cases h : v ≤ 0 <;> simp [fP_drops, fX2_drops, dropsK, e00, h]
    · simp [fP_drops, fX2_drops, dropsK, e11]
  | 3, _ => rcases hfar with rfl | rfl <;> simp [fP_drops, fX9_drops, fX0_drops, fX3_drops, dropsK, e00, e11, ob]
  | 4, _ => rcases hfar with rfl | rfl <;> simp [fP_drops, fX7_drops, fX2_drops, dropsK, e00, e11, ob]
  | 5, _ => rcases hfar with rfl | rfl <;> simp [fP_drops, fX1_drops, dropsK]
  | k + 6, h => omega
theorem wears_ev (M : Mem) (k : Nat) (hk : k < 6) (v m t : Int32) : fP_wears k v m t M = some (wearsK k v m t, M) := by
  match k, hk with
  | 0, _ => simp [fP_wears, fX3_wears, wearsK]
  | 1, _ => simp [fP_wears, fX3_wears, wearsK]
  | 2, _ => simp [fP_wears, fX2_wears, fX3_wears, wearsK, ob]
  | 3, _ => by_cases h : t ≤ 50 <;> simp [fP_wears, fX9_wears, fX3_wears, wearsK, ob, h]
  | 4, _ => simp [fP_wears, fX2_wears, fX3_wears, wearsK, ob]
  | 5, _ => simp [fP_wears, fX1_wears, fX3_wears, wearsK, ob]
  | k + 6, h => omega
theorem feels_ev (M : Mem) (k : Nat) (hk : k < 6) (v m : Int32) : fP_feels k v m M = some (feelsK k v m, M) := by
  match k, hk with
  | 0, _ => simp [fP_feels, fX3_feels, feelsK]
  | 1, _ => simp [fP_feels, fX0_feels, fX3_feels, feelsK, ob]
  | 2, _ => simp [fP_feels, fX2_feels, fX3_feels, feelsK, ob]
  | 3, _ => simp [fP_feels, fX0_feels, fX3_feels, feelsK, ob]
  | 4, _ => simp [fP_feels, fX7_feels, fX2_feels, fX3_feels, feelsK, ob]
  | 5, _ => by_cases h : (10 : Int32) ≤ v <;> simp [fP_feels, fX1_feels, fX3_feels, feelsK, ob, h]
  | k + 6, h => omega
end AK
