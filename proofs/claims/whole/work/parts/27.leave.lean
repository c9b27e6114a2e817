/-! what one leaves in a day -/
section LV
theorem Ev.letv {α β : Type} {a : β} {F : β → Option (α × Mem)} {Q : α → Mem → Prop} (h : Ev (F a) Q) : Ev (lt a F) Q := h
def clT (v : Int32) : Int32 := mmax 0 (mmin 999 v)
theorem within_gen (M : Mem) (v lo hi : Int32) (h : lo.toInt < hi.toInt) : fX11_within v lo hi M = some (mmax lo (mmin hi v), M) := by
  unfold fX11_within mmax mmin
  by_cases h1 : v < hi
  · have h1' := Int32.lt_iff_toInt_lt.mp h1
    have h2 : v ≤ hi := Int32.le_of_lt h1
    simp only [h1, if_true, h2]
    by_cases h3 : lo < v
    · have : lo ≤ v := Int32.le_of_lt h3
      simp [h3, this]
    · by_cases h4 : lo ≤ v
      · have : lo = v := Int32.le_antisymm h4 (Int32.not_lt.mp h3)
        simp [this]
      · simp [h3, h4]
  · have h1' : ¬ v.toInt < hi.toInt := fun q => h1 (Int32.lt_iff_toInt_lt.mpr q)
    have h4 : lo ≤ v := Int32.le_iff_toInt_le.mpr (by omega)
    have h5 : lo < hi := Int32.lt_iff_toInt_lt.mpr h
    simp only [h1, if_false, h4, if_true, h5]
    by_cases h6 : v ≤ hi
    · have h6' := Int32.le_iff_toInt_le.mp h6
      have : v = hi := Int32.toInt_inj.mp (by omega)
      simp [this]
    · simp [h6]
theorem clT_ev (M : Mem) (v : Int32) : fX11_within v 0 999 M = some (clT v, M) := within_gen M v 0 999 (by decide)
theorem clT_ok (v : Int32) : ∃ n, n < 1000 ∧ clT v = nI n := by
  unfold clT mmax mmin
  by_cases h1 : v < 999
  · rw [if_pos h1]
    have h1' := Int32.lt_iff_toInt_lt.mp h1
    rw [show (999 : Int32).toInt = 999 by decide] at h1'
    by_cases h2 : 0 < v
    · rw [if_pos h2]
      have h2' := Int32.lt_iff_toInt_lt.mp h2
      rw [show (0 : Int32).toInt = 0 by decide] at h2'
      exact ⟨v.toNatClampNeg, by show v.toInt.toNat < 1000; omega, nI_ex (by omega)⟩
    · rw [if_neg h2]
      exact ⟨0, by omega, rfl⟩
  · rw [if_neg h1, if_pos (by decide)]
    exact ⟨999, by omega, rfl⟩
def lvT (T : Nat → Int32) (seat : Nat) (d0 d1 : Int32) : Nat → Int32 := fun c => if c < 36 ∧ apN c seat = 0 then clT (T c + d0) else if c < 36 ∧ apN c seat = 1 then clT (T c + d1) else T c
def seatN (R : Rm) (p : Nat) : Nat := (rA R 0 p).toNatClampNeg
def leaveS (E : Nat → Nat → (Nat → Int32) → Int32) (R : Rm) (p : Nat) : Rm := (lvT (rT R) (seatN R p) (dropsK (knd R p) 0 (saidS E R 0 p (seatN R p)) (rA R 3 p)) (dropsK (knd R p) 1 (saidS E R 0 p (seatN R p)) (rA R 3 p)), R.2)
theorem seat_lt {R : Rm} {p : Nat} (h : okA R) (hp : p < rN R) : seatN R p < 36 := by
  obtain ⟨n, hn, e⟩ := (h.2 p hp).1
  unfold seatN
  rw [e, nI_clamp (by omega)]
  exact hn
theorem seat_eq {R : Rm} {p : Nat} (h : okA R) (hp : p < rN R) : rA R 0 p = nI (seatN R p) := by
  obtain ⟨n, hn, e⟩ := (h.2 p hp).1
  unfold seatN
  rw [e, nI_clamp (by omega)]
theorem lvT_ok {T : Nat → Int32} {seat : Nat} {d0 d1 : Int32} (h : ∀ c, ∃ n, n < 1000 ∧ T c = nI n) : ∀ c, ∃ n, n < 1000 ∧ lvT T seat d0 d1 c = nI n := by
  intro c
  unfold lvT
  split
  · exact clT_ok _
  · split
    · exact clT_ok _
    · exact h c
theorem vwX_T2 {r : Nat} {M M' : Mem} (h15 : M' 15 r = M 15 r) (h18 : ∀ t, t < 4 → M' 18 (4 * r + t) = M 18 (4 * r + t)) : vwX r M' = (fun c => if c < 36 then M' 16 r c else 0, (vwX r M).2) := by
  have e := vwX_eq (r := r) (M := mrow M 16 r (M' 16 r)) (M' := M') (by rw [mrow_n (by simp)]; exact h15) mrow_s.symm (fun t ht => by rw [mrow_n (by simp)]; exact h18 t ht)
  rw [e]
  unfold vwX
  rw [mrow_s, mrow_n (show ¬ (15 = 16 ∧ r = r) by simp)]
  refine Prod.ext rfl (Prod.ext ?_ rfl)
  funext t p
  simp only [mrow_n (show ¬ (18 = 16 ∧ 4 * r + t = r) from fun q => absurd q.1 (by decide))]
theorem vwM_T2 {M M' : Mem} (h22 : M' 22 0 = M 22 0) (h25 : M' 25 0 = M 25 0) (h26 : M' 26 0 = M 26 0) (h23 : M' 23 0 = M 23 0) (h24 : M' 24 0 = M 24 0) : vwM M' = (fun c => if c < 36 then M' 27 0 c else 0, (vwM M).2) := by
  have e := vwM_eq (M := mrow M 27 0 (M' 27 0)) (M' := M') (by rw [mrow_n (by simp)]; exact h22) mrow_s.symm (by rw [mrow_n (by simp)]; exact h25) (by rw [mrow_n (by simp)]; exact h26) (by rw [mrow_n (by simp)]; exact h23) (by rw [mrow_n (by simp)]; exact h24)
  rw [e]
  unfold vwM
  rw [mrow_s, mrow_n (show ¬ (22 = 27 ∧ 0 = 0) by simp)]
  refine Prod.ext rfl (Prod.ext ?_ rfl)
  funext t p
  have : trK t ≠ 27 := by unfold trK; split <;> decide
  simp only [mrow_n (show ¬ (trK t = 27 ∧ 0 = 0) from fun q => this q.1)]
theorem thicken_ev {r c : Nat} {v : Int32} {M : Mem} (hc : c < 36) : fX5_thicken r (nI c) v M = some ((), mst M 16 r c (clT (M 16 r c + v))) := by
  unfold fX5_thicken
  rw [inb_nI hc (by decide), nI_clamp (show c < 2 ^ 31 by omega)]
  rfl
theorem nb_facts {s j c : Nat} (hs : s < 36) (hj : j < 4) (h : nbN s j = some c) : c < 36 ∧ c ≠ s ∧ ∀ d, d < j → nbN s d ≠ some c := by
  have := nb_all s hs j hj
  rw [h] at this
  simp only [Option.all_some, Bool.and_eq_true, decide_eq_true_eq, Bool.not_eq_true', List.all_eq_true, List.mem_range] at this
  obtain ⟨⟨⟨h1, h2⟩, -⟩, h4⟩ := this
  refine ⟨h1, fun e => by subst e; simp at h2, fun d hd e => ?_⟩
  have := h4 d hd
  rw [e] at this
  simp at this
theorem nb_step {s j c : Nat} (h : nbN s j ≠ some c) : (∃ d, d < j + 1 ∧ nbN s d = some c) ↔ (∃ d, d < j ∧ nbN s d = some c) := by
  constructor
  · rintro ⟨d, h1, h2⟩
    refine ⟨d, ?_, h2⟩
    by_cases e : d = j
    · subst e
      exact absurd h2 h
    · omega
  · rintro ⟨d, h1, h2⟩
    exact ⟨d, by omega, h2⟩
set_option maxHeartbeats 1000000 in
theorem leave_ev {T r p : Nat} {M : Mem} (hT : Txt T M) (hI : InX T r M) (hp : p < rN (vwX r M)) : Ev (fX5_leave r (nI p) M) (fun _ M' => vwX r M' = leaveS (svX M) (vwX r M) p ∧ Off (scW r) M M') := by
  have hA := hI.2.2.2.1
  have hp6 : p < 6 := Nat.lt_of_lt_of_le hp hA.1
  have hs := seat_lt hA hp
  have hin : inb (nI p) 6 = true := inb_nI hp6 (by decide)
  have cp := nI_clamp (show p < 2 ^ 31 by omega)
  unfold fX5_leave
  refine Ev.gd (by decide) (Ev.gd hin ?_)
  refine Ev.letv ?_
  rw [cp, show (0 : Int32).toNatClampNeg = 0 by decide, show (3 : Int32).toNatClampNeg = 3 by decide, vwX_A (r := r) (M := M) (t := 0) (by omega) hp, seat_eq hA hp]
  refine Ev.bind (said_ev (part := 0) hT hI (by omega) hp hs) (fun v M4 hv => ?_)
  have hv4 := scS_vw hv.2
  have hI4 : InX T r M4 := by
    obtain ⟨a1, a2, a3⟩ := hI
    refine ⟨?_, ?_, by rw [hv4]; exact a3⟩
    · rw [hv4, hv.2.at (by simp [scS])]; exact a1
    · rw [hv4, hv.2.at (by simp [scS])]; exact a2
  have hk4 := kindOf_ev hI4 (by rw [hv4]; exact hp)
  rw [hv4] at hk4
  have hm : M4 18 (4 * r + 3) p = rA (vwX r M) 3 p := by rw [hv.2.at (by simp [scS])]; exact vwX_A (by omega) hp
  rw [hk4, ob_some]
  refine Ev.gd (by decide) (Ev.gd hin ?_)
  rw [show (1 : Int32) = nI 1 from rfl, drops_ev M4 _ 1 (knd_lt hA hp) (by omega), ob_some, hk4, ob_some]
  refine Ev.gd (by decide) (Ev.gd hin ?_)
  rw [show (0 : Int32) = nI 0 from rfl, drops_ev M4 _ 0 (knd_lt hA hp) (by omega), ob_some, hm, thicken_ev hs, ob_some]
  rw [hv.1]
  generalize hd0 : dropsK (knd (vwX r M) p) 0 (saidS (svX M) (vwX r M) 0 p (seatN (vwX r M) p)) (rA (vwX r M) 3 p) = d0
  generalize hd1 : dropsK (knd (vwX r M) p) 1 (saidS (svX M) (vwX r M) 0 p (seatN (vwX r M) p)) (rA (vwX r M) 3 p) = d1
  generalize hse : seatN (vwX r M) p = seat at hs
  have e16 : M4 16 r = M 16 r := hv.2.at (by simp [scS])
  have hoff0 : Off (scW r) M (mst M4 16 r seat (clT (M4 16 r seat + d0))) := (hv.2.mono (fun K i h => h.elim Or.inl (fun h => Or.inr (Or.inl h)))).mst (Or.inr (Or.inr ⟨rfl, rfl⟩))
  refine Ev.loop (f := fun n (x : Int32) M => fX5_leave_L63 r (nI seat) d1 n x M) (B := fun k x M => fX5_leave_B63 r (nI seat) d1 k x M) (fun _ _ _ => rfl) 4
    (fun j x M' => x = nI j ∧ (∀ c, M' 16 r c = if c = seat then clT (M 16 r c + d0) else if (∃ d, d < j ∧ nbN seat d = some c) then clT (M 16 r c + d1) else M 16 r c) ∧ Off (scW r) M M') ?_ ?_ FU 0 (nI 0) _ (by omega) (by show 4 < 2000 + 0; omega) ⟨rfl, fun c => ?_, hoff0⟩
  · rintro k j x M' hj ⟨rfl, hth, hoff⟩ hk
    show Ev (fX5_leave_B63 r (nI seat) d1 k (nI j) M') _
    unfold fX5_leave_B63
    rw [if_neg (fun q => by have := (nI_leI (a := 4) (by omega) (by omega)).mp q; omega), nb_ev M' hs hj, ob_some]
    cases hn : nbN seat j with
    | none =>
      rw [show oI none = -1 from rfl, if_pos rfl, nI_1]
      refine hk _ M' ⟨rfl, fun c => ?_, hoff⟩
      rw [hth c]
      have : (∃ d, d < j + 1 ∧ nbN seat d = some c) ↔ (∃ d, d < j ∧ nbN seat d = some c) := nb_step (by rw [hn]; simp)
      simp only [this]
    | some a =>
      obtain ⟨f1, f2, f3⟩ := nb_facts hs hj hn
      have hne : ¬ nI a = -1 := fun q => by
        have := nI_pos (n := a) (by omega)
        rw [q] at this
        exact this (by decide)
      rw [show oI (some a) = nI a from rfl, if_neg hne, thicken_ev f1, ob_some, nI_1]
      refine hk _ _ ⟨rfl, fun c => ?_, hoff.mst (Or.inr (Or.inr ⟨rfl, rfl⟩))⟩
      rw [mst_s]
      by_cases hc : c = a
      · subst hc
        have h0 : ¬ ∃ d, d < j ∧ nbN seat d = some c := fun ⟨d, h1, h2⟩ => f3 d h1 h2
        have h1 : ∃ d, d < j + 1 ∧ nbN seat d = some c := ⟨j, by omega, hn⟩
        have := hth c
        rw [if_neg f2, if_neg h0] at this
        simp only [upd, if_true, this, if_neg f2, if_pos h1]
      · have : (∃ d, d < j + 1 ∧ nbN seat d = some c) ↔ (∃ d, d < j ∧ nbN seat d = some c) := nb_step (by rw [hn]; exact fun q => hc (Option.some.inj q).symm)
        simp only [upd, if_neg hc, this]
        exact hth c
  · rintro k x M' ⟨rfl, hth, hoff⟩
    show Ev (fX5_leave_B63 r (nI seat) d1 k (nI 4) M') _
    unfold fX5_leave_B63
    rw [if_pos (by decide)]
    refine Ev.ret ⟨?_, hoff⟩
    rw [vwX_T2 (M := M) (hoff.at (by simp [scW])) (fun t _ => hoff.at (by simp [scW]))]
    unfold leaveS
    rw [hse] at hd0 hd1 ⊢
    rw [hd0, hd1]
    refine Prod.ext ?_ rfl
    funext c
    unfold lvT
    by_cases hc : c < 36
    · obtain ⟨n1, n0⟩ := nb_ex seat hs c hc
      simp only [hc, if_true, true_and]
      rw [hth c, ← vwX_T (r := r) (M := M) hc]
      by_cases e : c = seat
      · rw [if_pos e, if_pos (n0.mpr e)]
      · rw [if_neg e, if_neg (fun q => e (n0.mp q))]
        by_cases e1 : ∃ d, d < 4 ∧ nbN seat d = some c
        · rw [if_pos e1, if_pos (n1.mpr e1)]
        · rw [if_neg e1, if_neg (fun q => e1 (n1.mp q))]
    · simp only [hc, if_false, false_and]
      simp [vwX, rT, hc]
  · rw [mst_s, e16]
    by_cases e : c = seat
    · subst e; simp [upd]
    · simp [upd, e]
end LV
