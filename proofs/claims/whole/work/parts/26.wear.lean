/-! the reference wears -/
section WM
abbrev scMW : Nat → Nat → Prop := fun K _ => K = 39 ∨ K = 40 ∨ K = 27
theorem wearsOf_ev {T p c : Nat} {M : Mem} (hT : Txt T M) (hI : InM T M) (hp : p < rN (vwM M)) (hc : c < 36) : Ev (fX11_wearsOf (nI p) (nI c) M) (fun v M' => v = wearsK (knd (vwM M) p) (saidS (svX M) (vwM M) 1 p c) (rA (vwM M) 3 p) (rT (vwM M) c) ∧ Off scM M M') := by
  have hA := hI.2.2.2.1
  have hp6 : p < 6 := Nat.lt_of_lt_of_le hp hA.1
  unfold fX11_wearsOf
  refine Ev.bind (asksOf_ev (part := 1) hT hI (by omega) hp hc) (fun v M2 hv => ?_)
  have hin : inb (nI p) 6 = true := inb_nI hp6 (by decide)
  refine Ev.gd hin ?_
  rw [nI_clamp (show p < 2 ^ 31 by omega), nI_clamp (show c < 2 ^ 31 by omega), hv.2.at (show ¬ scM 23 0 by simp [scM]), hv.2.at (show ¬ scM 24 0 by simp [scM]), hv.2.at (show ¬ scM 27 0 by simp [scM]), show M 23 0 p = rA (vwM M) 2 p from vwM_A (t := 2) (by omega) hp, show M 24 0 p = rA (vwM M) 3 p from vwM_A (t := 3) (by omega) hp, vwM_T (M := M) hc, knd_eq hA hp]
  have e := hv.1
  have fin : ∀ w : Int32, w = wearsK (knd (vwM M) p) v (rA (vwM M) 3 p) (rT (vwM M) c) → Ev (some (w, M2)) (fun v M' => v = wearsK (knd (vwM M) p) (saidS (svX M) (vwM M) 1 p c) (rA (vwM M) 3 p) (rT (vwM M) c) ∧ Off scM M M') := fun w hw => Ev.ret ⟨by rw [hw, e], hv.2⟩
  have hk := knd_lt hA hp
  generalize knd (vwM M) p = k at fin hk
  match k, hk with
  | 0, _ =>
    rw [if_neg (by decide), if_neg (by decide), if_neg (by decide), if_neg (by decide)]
    exact fin _ rfl
  | 1, _ =>
    rw [if_neg (by decide), if_neg (by decide), if_neg (by decide), if_neg (by decide)]
    exact fin _ rfl
  | 2, _ =>
    rw [if_pos (by decide)]
    exact fin _ rfl
  | 3, _ =>
    rw [if_neg (by decide), if_pos (by decide)]
    refine Ev.gd (inb_nI hc (by decide)) (Ev.ite (fun h => ?_) (fun h => ?_))
    · exact fin _ (by simp [wearsK, h])
    · exact fin _ (by simp [wearsK, h])
  | 4, _ =>
    rw [if_neg (by decide), if_neg (by decide), if_pos (by decide)]
    exact fin _ rfl
  | 5, _ =>
    rw [if_neg (by decide), if_neg (by decide), if_neg (by decide), if_pos (by decide)]
    exact Ev.gd hin (fin _ rfl)
  | k + 6, h => omega
theorem vwM_set2 {c : Nat} {M M' : Mem} {v : Int32} (hc : c < 36) (h27 : M' 27 0 = upd (M 27 0) c v) (h22 : M' 22 0 = M 22 0) (h25 : M' 25 0 = M 25 0) (h26 : M' 26 0 = M 26 0) (h23 : M' 23 0 = M 23 0) (h24 : M' 24 0 = M 24 0) : vwM M' = setT (vwM M) c v := by
  rw [← vwM_set (M := M) (v := v) hc]
  exact vwM_eq (by rw [mst_n (by simp)]; exact h22) (by rw [mst_s]; exact h27) (by rw [mst_n (by simp)]; exact h25) (by rw [mst_n (by simp)]; exact h26) (by rw [mst_n (by simp)]; exact h23) (by rw [mst_n (by simp)]; exact h24)
theorem wearM_ev {T p c : Nat} {M : Mem} (hT : Txt T M) (hI : InM T M) (hp : p < rN (vwM M)) (hc : c < 36) : Ev (fX11_wearsNow (nI p) (nI c) M) (fun v M' => v = lostS (svX M) (vwM M) p c ∧ vwM M' = setT (vwM M) c (rT (vwM M) c - lostS (svX M) (vwM M) p c) ∧ Off scMW M M') := by
  have hin : inb (nI c) 36 = true := inb_nI hc (by decide)
  unfold fX11_wearsNow
  refine Ev.bind (wearsOf_ev hT hI hp hc) (fun v M2 hv => ?_)
  refine Ev.gd hin ?_
  have e27 : M2 27 0 = M 27 0 := hv.2.at (by simp [scM])
  have cc := nI_clamp (show c < 2 ^ 31 by omega)
  have fin : ∀ w : Int32, w = lostS (svX M) (vwM M) p c → Ev (fX11_wearsNow_J27 (nI c) w M2) (fun v M' => v = lostS (svX M) (vwM M) p c ∧ vwM M' = setT (vwM M) c (rT (vwM M) c - lostS (svX M) (vwM M) p c) ∧ Off scMW M M') := by
    intro w hw
    unfold fX11_wearsNow_J27
    refine Ev.gd hin (Ev.gd hin (Ev.let_ fun M3 h3 => Ev.ret ⟨hw, ?_, ?_⟩))
    · rw [cc, e27, vwM_T (M := M) hc, hw] at h3
      refine vwM_set2 hc (by rw [h3, mst_s, e27]) ?_ ?_ ?_ ?_ ?_
      · rw [h3, mst_n (by simp)]; exact hv.2.at (by simp [scM])
      · rw [h3, mst_n (by simp)]; exact hv.2.at (by simp [scM])
      · rw [h3, mst_n (by simp)]; exact hv.2.at (by simp [scM])
      · rw [h3, mst_n (by simp)]; exact hv.2.at (by simp [scM])
      · rw [h3, mst_n (by simp)]; exact hv.2.at (by simp [scM])
    · rw [h3]
      exact (hv.2.mono (fun K i h => h.elim Or.inl (fun h => Or.inr (Or.inl h)))).mst (Or.inr (Or.inr rfl))
  rw [cc, e27, vwM_T (M := M) hc]
  refine Ev.ite (fun h => ?_) (fun h => ?_)
  · refine Ev.gd hin (fin _ ?_)
    have : ¬ v < rT (vwM M) c := Int32.not_lt.mpr h
    unfold lostS mmin
    rw [← hv.1, if_neg this]
  · refine fin _ ?_
    have : v < rT (vwM M) c := Int32.not_le.mp h
    unfold lostS mmin
    rw [← hv.1, if_pos this]
end WM
/-! cells beside cells -/
section CB
def apN (c d : Nat) : Nat := (c % 6 - d % 6) + (d % 6 - c % 6) + ((c / 6 - d / 6) + (d / 6 - c / 6))
def nbN (c d : Nat) : Option Nat := if d = 0 then (if c % 6 < 5 then some (c + 1) else none) else if d = 1 then (if 0 < c % 6 then some (c - 1) else none) else if d = 2 then (if c < 30 then some (c + 6) else none) else (if 6 ≤ c then some (c - 6) else none)
def oI (o : Option Nat) : Int32 := match o with
  | none => -1
  | some n => nI n
theorem apX_tab : ∀ c, c < 36 → ∀ d, d < 36 → (mabs ((irem (nI c) 6) - (irem (nI d) 6))) + (mabs ((nI c / 6) - (nI d / 6))) = nI (apN c d) := by decide +kernel
theorem apX_ev (M : Mem) {c d : Nat} (hc : c < 36) (hd : d < 36) : fX10_apart (nI c) (nI d) M = some (nI (apN c d), M) := by
  unfold fX10_apart
  rw [apX_tab c hc d hd]
theorem wo_tab : ∀ a, a < 6 → ∀ b, b < 6 → (nI b ≤ nI a ↔ b ≤ a) ∧ nI a - nI b = (if b ≤ a then nI (a - b) else nI a - nI b) := by decide +kernel
theorem apM_ev (M : Mem) {c d : Nat} (hc : c < 36) (hd : d < 36) : fX11_apart (nI c) (nI d) M = some (nI (apN c d), M) := by
  have w : ∀ a b, a < 6 → b < 6 → fX11_without0 (nI a) (nI b) M = some (nI ((a - b) + (b - a)), M) := by
    intro a b ha hb
    unfold fX11_without0
    by_cases h : b ≤ a
    · rw [if_pos ((nI_leI (by omega) (by omega)).mpr h), pk_sub h, show b - a = 0 by omega, Nat.add_zero]
    · rw [if_neg (fun q => h ((nI_leI (by omega) (by omega)).mp q)), pk_sub (by omega), show a - b = 0 by omega, Nat.zero_add]
  unfold fX11_apart
  rw [irem_nI c hc, irem_nI d hd, idiv_nI c hc, idiv_nI d hd, w _ _ (by omega) (by omega), ob_some, w _ _ (by omega) (by omega), ob_some, nI_add]
  rfl
theorem nb_tab : ∀ c, c < 36 → (¬ (5 : Int32) ≤ irem (nI c) 6 ↔ c % 6 < 5) ∧ (irem (nI c) 6 ≤ 0 ↔ ¬ 0 < c % 6) ∧ ((30 : Int32) ≤ nI c ↔ ¬ c < 30) ∧ (nI c < 6 ↔ ¬ 6 ≤ c) ∧ nI c + 1 = nI (c + 1) ∧ nI c + 6 = nI (c + 6) ∧ (0 < c → nI c - 1 = nI (c - 1)) ∧ (6 ≤ c → nI c - 6 = nI (c - 6)) := by decide +kernel
theorem nb_ev (M : Mem) {c d : Nat} (hc : c < 36) (hd : d < 4) : fX10_neighbour (nI c) (nI d) M = some (oI (nbN c d), M) := by
  obtain ⟨t1, t2, t3, t4, t5, t6, t7, t8⟩ := nb_tab c hc
  unfold fX10_neighbour
  match d, hd with
  | 0, _ =>
    rw [if_pos (show nI 0 = 0 from rfl), show nbN c 0 = (if c % 6 < 5 then some (c + 1) else none) from rfl]
    by_cases h : c % 6 < 5
    · rw [if_neg (t1.mpr h), if_pos h, t5]; rfl
    · rw [if_pos (Decidable.byContradiction fun q => h (t1.mp q)), if_neg h]; rfl
  | 1, _ =>
    rw [if_neg (show ¬ nI 1 = 0 by decide), if_pos (show nI 1 = 1 from rfl), show nbN c 1 = (if 0 < c % 6 then some (c - 1) else none) from rfl]
    by_cases h : 0 < c % 6
    · rw [if_neg (fun q => t2.mp q h), if_pos h, t7 (by omega)]; rfl
    · rw [if_pos (t2.mpr h), if_neg h]; rfl
  | 2, _ =>
    rw [if_neg (show ¬ nI 2 = 0 by decide), if_neg (show ¬ nI 2 = 1 by decide), if_pos (show nI 2 = 2 from rfl), show nbN c 2 = (if c < 30 then some (c + 6) else none) from rfl]
    by_cases h : c < 30
    · rw [if_neg (fun q => t3.mp q h), if_pos h, t6]; rfl
    · rw [if_pos (t3.mpr h), if_neg h]; rfl
  | 3, _ =>
    rw [if_neg (show ¬ nI 3 = 0 by decide), if_neg (show ¬ nI 3 = 1 by decide), if_neg (show ¬ nI 3 = 2 by decide), show nbN c 3 = (if 6 ≤ c then some (c - 6) else none) from rfl]
    by_cases h : 6 ≤ c
    · rw [if_neg (fun q => t4.mp q h), if_pos h, t8 h]; rfl
    · rw [if_pos (t4.mpr h), if_neg h]; rfl
  | d + 4, h => omega
/-- the four cells beside one are those apart 1, each met once -/
theorem nb_all : ∀ s, s < 36 → ∀ j, j < 4 → (nbN s j).all (fun c => decide (c < 36) && !(c == s) && decide (apN c s = 1) && (List.range j).all (fun d => !(nbN s d == some c))) = true := by decide +kernel
theorem nb_ex : ∀ s, s < 36 → ∀ c, c < 36 → (apN c s = 1 ↔ ∃ d, d < 4 ∧ nbN s d = some c) ∧ (apN c s = 0 ↔ c = s) := by decide +kernel
end CB
