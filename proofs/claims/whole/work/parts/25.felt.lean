/-! felt and worn, on both sides -/
section FW
theorem ob_some {α β : Type} {r : α} {M : Mem} {F : α → Mem → Option (β × Mem)} : ob (some (r, M)) F = F r M := rfl
theorem vwX_eq {r : Nat} {M M' : Mem} (h15 : M' 15 r = M 15 r) (h16 : M' 16 r = M 16 r) (h18 : ∀ t, t < 4 → M' 18 (4 * r + t) = M 18 (4 * r + t)) : vwX r M' = vwX r M := by
  unfold vwX
  rw [h15, h16]
  refine Prod.ext rfl (Prod.ext ?_ rfl)
  funext t p
  by_cases h : t < 4
  · simp only [h18 t h]
  · simp [h]
theorem vwM_eq {M M' : Mem} (h22 : M' 22 0 = M 22 0) (h27 : M' 27 0 = M 27 0) (h25 : M' 25 0 = M 25 0) (h26 : M' 26 0 = M 26 0) (h23 : M' 23 0 = M 23 0) (h24 : M' 24 0 = M 24 0) : vwM M' = vwM M := by
  have h : ∀ t, M' (trK t) 0 = M (trK t) 0 := fun t => by
    unfold trK
    split <;> assumption
  unfold vwM
  rw [h22, h27]
  refine Prod.ext rfl (Prod.ext ?_ rfl)
  funext t p
  simp only [h t]
def setT (R : Rm) (c : Nat) (v : Int32) : Rm := (upd (rT R) c v, R.2)
theorem vwX_set {r c : Nat} {M M' : Mem} {v : Int32} (hc : c < 36) (h16 : M' 16 r = upd (M 16 r) c v) (h15 : M' 15 r = M 15 r) (h18 : ∀ t, t < 4 → M' 18 (4 * r + t) = M 18 (4 * r + t)) : vwX r M' = setT (vwX r M) c v := by
  have e := vwX_eq (r := r) (M := M) (M' := mrow M' 16 r (M 16 r)) (by rw [mrow_n (by simp)]; exact h15) mrow_s (fun t ht => by rw [mrow_n (by simp)]; exact h18 t ht)
  rw [← e]
  unfold setT vwX rT
  rw [mrow_s, mrow_n (show ¬ (15 = 16 ∧ r = r) by simp), h16]
  refine Prod.ext ?_ (Prod.ext ?_ rfl)
  · funext z
    by_cases h : z = c
    · subst h; simp [upd, hc]
    · simp [upd, h]
  · funext t p
    simp only [mrow_n (show ¬ (18 = 16 ∧ 4 * r + t = r) from fun q => absurd q.1 (by decide))]
theorem vwM_set {c : Nat} {M : Mem} {v : Int32} (hc : c < 36) : vwM (mst M 27 0 c v) = setT (vwM M) c v := by
  unfold setT vwM rT
  rw [mst_s, mst_n (show ¬ (22 = 27 ∧ 0 = 0) by simp)]
  refine Prod.ext ?_ (Prod.ext ?_ rfl)
  · funext z
    by_cases h : z = c
    · subst h; simp [upd, hc]
    · simp [upd, h]
  · funext t p
    have : trK t ≠ 27 := by unfold trK; split <;> decide
    simp only [mst_n (show ¬ (trK t = 27 ∧ 0 = 0) from fun q => this q.1)]
def knd (R : Rm) (p : Nat) : Nat := (rA R 2 p).toNatClampNeg
def feltS (E : Nat → Nat → (Nat → Int32) → Int32) (R : Rm) (p c : Nat) : Int32 := feelsK (knd R p) (saidS E R 2 p c) (rA R 3 p)
def lostS (E : Nat → Nat → (Nat → Int32) → Int32) (R : Rm) (p c : Nat) : Int32 := mmin (rT R c) (wearsK (knd R p) (saidS E R 1 p c) (rA R 3 p) (rT R c))
theorem knd_lt {R : Rm} {p : Nat} (h : okA R) (hp : p < rN R) : knd R p < 6 := by
  obtain ⟨n, hn, e⟩ := (h.2 p hp).2.2.1
  unfold knd
  rw [e, nI_clamp (by omega)]
  exact hn
theorem knd_eq {R : Rm} {p : Nat} (h : okA R) (hp : p < rN R) : rA R 2 p = nI (knd R p) := by
  obtain ⟨n, hn, e⟩ := (h.2 p hp).2.2.1
  unfold knd
  rw [e, nI_clamp (by omega)]
theorem kindOf_ev {T r p : Nat} {M : Mem} (hI : InX T r M) (hp : p < rN (vwX r M)) : fX5_kindOf r (nI p) M = some (knd (vwX r M) p, M) := by
  have hA := hI.2.2.2.1
  have hp6 : p < 6 := Nat.lt_of_lt_of_le hp hA.1
  have hk := knd_lt hA hp
  unfold fX5_kindOf
  rw [show inb 2 4 = true by decide, inb_nI hp6 (by decide), show (2 : Int32).toNatClampNeg = 2 by decide, nI_clamp (show p < 2 ^ 31 by omega), vwX_A (r := r) (M := M) (t := 2) (by omega) hp, knd_eq hA hp, inb_nI hk (by decide), nI_clamp (show knd (vwX r M) p < 2 ^ 31 by omega)]
  rfl
theorem scS_vw {r : Nat} {M M' : Mem} (h : Off (scS r) M M') : vwX r M' = vwX r M := vwX_eq (h.at (by simp [scS])) (h.at (by simp [scS])) (fun t _ => h.at (by simp [scS]))
theorem scS_sv {r : Nat} {M M' : Mem} (h : Off (scS r) M M') : svX M' = svX M := svX_off (fun i => h.at (by simp [scS])) (fun i => h.at (by simp [scS]))
theorem scM_vw {M M' : Mem} (h : Off scM M M') : vwM M' = vwM M := vwM_eq (h.at (by simp [scM])) (h.at (by simp [scM])) (h.at (by simp [scM])) (h.at (by simp [scM])) (h.at (by simp [scM])) (h.at (by simp [scM]))
theorem felt_ev {T r p c : Nat} {M : Mem} (hT : Txt T M) (hI : InX T r M) (hp : p < rN (vwX r M)) (hc : c < 36) : Ev (fX5_felt r (nI p) (nI c) M) (fun v M' => v = feltS (svX M) (vwX r M) p c ∧ Off (scS r) M M') := by
  have hA := hI.2.2.2.1
  have hp6 : p < 6 := Nat.lt_of_lt_of_le hp hA.1
  unfold fX5_felt
  rw [kindOf_ev hI hp, ob_some]
  refine Ev.bind (said_ev (part := 2) hT hI (by omega) hp hc) (fun v M4 hv => ?_)
  refine Ev.gd (by decide) (Ev.gd (inb_nI hp6 (by decide)) ?_)
  rw [show (3 : Int32).toNatClampNeg = 3 by decide, nI_clamp (show p < 2 ^ 31 by omega), hv.2.at (by simp [scS]), vwX_A (r := r) (M := M) (t := 3) (by omega) hp, feels_ev _ _ (knd_lt hA hp), ob_some]
  exact Ev.ret ⟨by rw [hv.1]; rfl, hv.2⟩
theorem feltM_ev {T p c : Nat} {M : Mem} (hT : Txt T M) (hI : InM T M) (hp : p < rN (vwM M)) (hc : c < 36) : Ev (fX11_feelsOf (nI p) (nI c) M) (fun v M' => v = feltS (svX M) (vwM M) p c ∧ Off scM M M') := by
  have hA := hI.2.2.2.1
  have hp6 : p < 6 := Nat.lt_of_lt_of_le hp hA.1
  unfold fX11_feelsOf
  refine Ev.bind (asksOf_ev (part := 2) hT hI (by omega) hp hc) (fun v M2 hv => ?_)
  refine Ev.gd (inb_nI hp6 (by decide)) ?_
  rw [nI_clamp (show p < 2 ^ 31 by omega), hv.2.at (show ¬ scM 23 0 by simp [scM]), hv.2.at (show ¬ scM 24 0 by simp [scM]), show M 23 0 p = rA (vwM M) 2 p from vwM_A (t := 2) (by omega) hp, show M 24 0 p = rA (vwM M) 3 p from vwM_A (t := 3) (by omega) hp, knd_eq hA hp]
  have e := hv.1
  have fin : ∀ w : Int32, w = feltS (svX M) (vwM M) p c → Ev (some (w, M2)) (fun v M' => v = feltS (svX M) (vwM M) p c ∧ Off scM M M') := fun w hw => Ev.ret ⟨hw, hv.2⟩
  have hin : inb (nI p) 6 = true := inb_nI hp6 (by decide)
  have hfe : feltS (svX M) (vwM M) p c = feelsK (knd (vwM M) p) v (rA (vwM M) 3 p) := by rw [e]; rfl
  have hk := knd_lt hA hp
  generalize knd (vwM M) p = k at hfe hk
  match k, hk with
  | 0, _ =>
    rw [if_neg (by decide), if_neg (by decide), if_neg (by decide), if_neg (by decide), if_neg (by decide)]
    exact fin _ (by rw [hfe]; rfl)
  | 1, _ =>
    rw [if_pos (by decide)]
    exact Ev.gd hin (fin _ (by rw [hfe]; rfl))
  | 2, _ =>
    rw [if_neg (by decide), if_pos (by decide)]
    exact fin _ (by rw [hfe]; rfl)
  | 3, _ =>
    rw [if_neg (by decide), if_neg (by decide), if_pos (by decide)]
    exact Ev.gd hin (fin _ (by rw [hfe]; rfl))
  | 4, _ =>
    rw [if_neg (by decide), if_neg (by decide), if_neg (by decide), if_pos (by decide)]
    exact fin _ (by rw [hfe]; rfl)
  | 5, _ =>
    rw [if_neg (by decide), if_neg (by decide), if_neg (by decide), if_neg (by decide), if_pos (by decide)]
    refine Ev.ite (fun h => ?_) (fun h => ?_)
    · exact fin _ (by rw [hfe]; simp [feelsK, h])
    · exact fin _ (by rw [hfe]; simp [feelsK, h])
  | k + 6, h => omega
abbrev scW (r : Nat) : Nat → Nat → Prop := fun K i => K = 9 ∨ (K = 19 ∧ i = r) ∨ (K = 16 ∧ i = r)
theorem wear_ev {T r p c : Nat} {M : Mem} (hT : Txt T M) (hI : InX T r M) (hp : p < rN (vwX r M)) (hc : c < 36) : Ev (fX5_wear r (nI p) (nI c) M) (fun v M' => v = lostS (svX M) (vwX r M) p c ∧ vwX r M' = setT (vwX r M) c (rT (vwX r M) c - lostS (svX M) (vwX r M) p c) ∧ Off (scW r) M M') := by
  have hA := hI.2.2.2.1
  have hp6 : p < 6 := Nat.lt_of_lt_of_le hp hA.1
  have hin : inb (nI c) 36 = true := inb_nI hc (by decide)
  unfold fX5_wear
  rw [kindOf_ev hI hp, ob_some]
  refine Ev.bind (said_ev (part := 1) hT hI (by omega) hp hc) (fun v M4 hv => ?_)
  refine Ev.gd (by decide) (Ev.gd (inb_nI hp6 (by decide)) (Ev.gd hin ?_))
  rw [show (3 : Int32).toNatClampNeg = 3 by decide, nI_clamp (show p < 2 ^ 31 by omega), nI_clamp (show c < 2 ^ 31 by omega), hv.2.at (show ¬ scS r 18 (4 * r + 3) by simp [scS]), hv.2.at (show ¬ scS r 16 r by simp [scS]), vwX_A (r := r) (M := M) (t := 3) (by omega) hp, vwX_T (r := r) (M := M) hc, wears_ev _ _ (knd_lt hA hp), ob_some]
  refine Ev.gd hin ?_
  show Ev (gd (inb (nI c) 36) _) _
  refine Ev.gd hin (Ev.gd hin (Ev.let_ fun M9 h9 => Ev.ret ?_))
  have e16 : M4 16 r = M 16 r := hv.2.at (by simp [scS])
  have el : mmin (M4 16 r c) (wearsK (knd (vwX r M) p) v (rA (vwX r M) 3 p) (rT (vwX r M) c)) = lostS (svX M) (vwX r M) p c := by
    rw [e16, vwX_T (r := r) (M := M) hc, hv.1]
    rfl
  refine ⟨el, ?_, ?_⟩
  · refine vwX_set hc ?_ ?_ ?_
    · rw [h9, mst_s, ← el, e16, vwX_T (r := r) (M := M) hc]
    · rw [h9, mst_n (by simp)]
      exact hv.2.at (by simp [scS])
    · intro t ht
      rw [h9, mst_n (by simp)]
      exact hv.2.at (by simp [scS])
  · rw [h9]
    exact (hv.2.mono (fun K i h => h.elim Or.inl (fun h => Or.inr (Or.inl h)))).mst (Or.inr (Or.inr ⟨rfl, rfl⟩))
end FW
