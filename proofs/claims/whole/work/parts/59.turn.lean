/-! turn: one dismissed, or passed over -/
section TU
def dism (R : Rm) (p : Nat) : Rm := (R.1, fun t q => if q < p then R.2.1 t q else R.2.1 t (q + 1), rN R - 1, R.2.2.2)
theorem dismiss_ev {T p : Nat} {M N : Mem} {R : Rm} (h : ThX T M N R) (hp : p < rN R) : Ev (fX5_dismiss 1 (nI p) N) (fun _ N2 => ThX T M N2 (dism R p)) := by
  obtain ⟨h1, h2, h3⟩ := h
  have hn6 : rN R ≤ 6 := by have := h2.2.2.2.1.1; rw [h3] at this; exact this
  have h7 : N 15 1 7 = nI (rN R) := by have := h2.1; rw [h3] at this; exact this
  unfold fX5_dismiss
  refine Ev.letv ?_
  rw [nI_1]
  refine Ev.loop (f := fun m (x : Int32) M => fX5_dismiss_L4 1 m x M) (B := fun k x M => fX5_dismiss_B4 1 k x M) (fun _ _ _ => rfl) (rN R - (p + 1))
    (fun j x N2 => x = nI (p + 1 + j) ∧ (∀ t, t < 4 → ∀ y, N2 18 (4 * 1 + t) y = if p ≤ y ∧ y < p + j then N 18 (4 * 1 + t) (y + 1) else N 18 (4 * 1 + t) y) ∧ Off (fun K i => K = 18 ∧ 4 ≤ i ∧ i < 8) N N2) ?_ ?_ FU 0 (nI (p + 1)) N (Nat.zero_le _) (by show _ < 2000 + 0; omega) ⟨rfl, fun t _ y => by rw [if_neg (by omega)], Off.rf⟩
  · rintro k j x N2 hj ⟨rfl, hy, hoff⟩ hk
    show Ev (fX5_dismiss_B4 1 k (nI (p + 1 + j)) N2) _
    unfold fX5_dismiss_B4
    rw [hoff.at (show ¬ (15 = 18 ∧ 4 ≤ 1 ∧ 1 < 8) by decide), h7, if_neg (fun q => by have := (nI_leI (by omega) (by omega)).mp q; omega)]
    refine Ev.loop (f := fun m (x : Int32) M => fX5_dismiss_L14 k 1 (nI (p + 1 + j)) m x M) (B := fun k' x M => fX5_dismiss_B14 k 1 (nI (p + 1 + j)) k' x M) (fun _ _ _ => rfl) 4
      (fun u x N3 => x = nI u ∧ (∀ t, t < 4 → ∀ y, N3 18 (4 * 1 + t) y = if p ≤ y ∧ y < p + (if t < u then j + 1 else j) then N 18 (4 * 1 + t) (y + 1) else N 18 (4 * 1 + t) y) ∧ Off (fun K i => K = 18 ∧ 4 ≤ i ∧ i < 8) N N3) ?_ ?_ FU 0 (nI 0) N2 (Nat.zero_le _) (by show _ < 2000 + 0; omega) ⟨rfl, fun t ht y => by rw [if_neg (Nat.not_lt_zero t)]; exact hy t ht y, hoff⟩
    · rintro k' u x N3 hu ⟨rfl, hz, hoff3⟩ hk'
      show Ev (fX5_dismiss_B14 k 1 (nI (p + 1 + j)) k' (nI u) N3) _
      unfold fX5_dismiss_B14
      rw [if_neg (fun q => by have := (nI_leI (a := 4) (by omega) (by omega)).mp q; omega), show nI (p + 1 + j) - 1 = nI (p + j) by rw [show p + 1 + j = p + j + 1 by omega, nI_pred], nI_clamp (show u < 2 ^ 31 by omega), nI_clamp (show p + j < 2 ^ 31 by omega), nI_clamp (show p + 1 + j < 2 ^ 31 by omega), nI_1]
      refine Ev.gd (inb_nI hu (by decide)) (Ev.gd (inb_nI hu (by decide)) (Ev.gd (inb_nI (by omega) (by decide)) (Ev.gd (inb_nI (by omega) (by decide)) (Ev.let_ fun N5 h5 => ?_))))
      refine hk' _ N5 ⟨rfl, fun t ht y => ?_, by rw [h5]; exact hoff3.mst ⟨rfl, by omega, by omega⟩⟩
      by_cases e : t = u
      · subst e
        rw [h5, mst_s]
        have hr := hz t ht (p + 1 + j)
        rw [if_neg (show ¬ t < t by omega), if_neg (by omega)] at hr
        rw [if_pos (show t < t + 1 by omega)]
        by_cases e2 : y = p + j
        · subst e2
          simp only [upd, if_true]
          rw [hr, if_pos (by omega)]
          congr 1
          omega
        · simp only [upd, if_neg e2]
          have := hz t ht y
          rw [if_neg (show ¬ t < t by omega)] at this
          rw [this]
          by_cases e3 : p ≤ y ∧ y < p + j
          · rw [if_pos e3, if_pos (by omega)]
          · rw [if_neg e3, if_neg (by omega)]
      · rw [h5, mst_n (by omega), hz t ht y]
        by_cases e4 : t < u
        · rw [if_pos e4, if_pos (show t < u + 1 by omega)]
        · rw [if_neg e4, if_neg (show ¬ t < u + 1 by omega)]
    · rintro k' x N3 ⟨rfl, hz, hoff3⟩
      show Ev (fX5_dismiss_B14 k 1 (nI (p + 1 + j)) k' (nI 4) N3) _
      unfold fX5_dismiss_B14
      rw [if_pos (by decide), nI_1]
      refine hk _ N3 ⟨rfl, fun t ht y => ?_, hoff3⟩
      have := hz t ht y
      rw [if_pos ht] at this
      exact this
  · rintro k x N2 ⟨rfl, hy, hoff⟩
    show Ev (fX5_dismiss_B4 1 k (nI (p + 1 + (rN R - (p + 1)))) N2) _
    unfold fX5_dismiss_B4
    rw [hoff.at (show ¬ (15 = 18 ∧ 4 ≤ 1 ∧ 1 < 8) by decide), h7, if_pos ((nI_leI (by omega) (by omega)).mpr (by omega)), show nI (rN R) - 1 = nI (rN R - 1) from pk_sub (b := 1) (by omega)]
    refine Ev.let_ fun N3 h4 => Ev.ret ?_
    have f15 : N3 15 1 = upd (N 15 1) 7 (nI (rN R - 1)) := by rw [h4, mst_s, hoff.at (show ¬ (15 = 18 ∧ 4 ≤ 1 ∧ 1 < 8) by decide)]
    have g7 : N3 15 1 7 = nI (rN R - 1) := by rw [f15]; simp [upd]
    have g8 : N3 15 1 8 = N 15 1 8 := by rw [f15]; simp [upd]
    have g9 : N3 15 1 9 = N 15 1 9 := by rw [f15]; simp [upd]
    have ev : vwX 1 N3 = dism R p := by
      rw [← h3]
      have hrn : rN (vwX 1 N) = rN R := by rw [h3]
      unfold vwX dism
      rw [g7, g8, g9, h4, mst_n (show ¬ (16 = 15 ∧ 1 = 1) by simp), hoff.at (show ¬ (16 = 18 ∧ 4 ≤ 1 ∧ 1 < 8) by decide), nI_clamp (show rN R - 1 < 2 ^ 31 by omega)]
      refine Prod.ext rfl (Prod.ext ?_ (Prod.ext ?_ rfl))
      · funext t y
        show (if t < 4 ∧ y < rN R - 1 then mst N2 15 1 7 _ 18 (4 * 1 + t) y else 0) = (if y < p then (if t < 4 ∧ y < (N 15 1 7).toNatClampNeg then N 18 (4 * 1 + t) y else 0) else (if t < 4 ∧ y + 1 < (N 15 1 7).toNatClampNeg then N 18 (4 * 1 + t) (y + 1) else 0))
        rw [mst_n (by simp), h7, nI_clamp (show rN R < 2 ^ 31 by omega)]
        by_cases ht : t < 4
        · rw [hy t ht y]
          by_cases e : y < p
          · rw [if_pos ⟨ht, by omega⟩, if_neg (show ¬ (p ≤ y ∧ y < p + (rN R - (p + 1))) by omega), if_pos e, if_pos ⟨ht, by omega⟩]
          · rw [if_neg e]
            by_cases e2 : y < rN R - 1
            · rw [if_pos ⟨ht, e2⟩, if_pos (by omega), if_pos ⟨ht, by omega⟩]
            · rw [if_neg (fun q => e2 q.2), if_neg (fun q => by omega)]
        · rw [if_neg (fun q => ht q.1)]
          by_cases e : y < p
          · rw [if_pos e, if_neg (fun q => ht q.1)]
          · rw [if_neg e, if_neg (fun q => ht q.1)]
      · show rN R - 1 = rN (vwX 1 N) - 1
        rw [hrn]
    refine ⟨fun K i hK => ?_, ?_, ev⟩
    · rw [h4, mst_n (fun q => ?_)]
      · rw [hoff.at (fun q => ?_)]
        · exact h1 K i hK
        · simp only [keptK] at hK
          omega
      · obtain ⟨rfl, rfl⟩ := q
        simp [keptK] at hK
    · obtain ⟨a1, a2, a3, a4, a5⟩ := h2
      rw [h3] at a1 a2 a3 a4 a5
      refine ⟨by rw [g7, ev]; rfl, by rw [g9, ev]; exact a2, by rw [ev]; exact a3, ?_, by rw [ev]; exact a5⟩
      rw [ev]
      refine ⟨by show rN R - 1 ≤ 6; omega, fun q hq => ?_⟩
      have hq2 : q < rN R - 1 := hq
      have key : ∀ t, rA (dism R p) t q = if q < p then rA R t q else rA R t (q + 1) := fun _ => rfl
      rw [key, key, key, key]
      by_cases e : q < p
      · rw [if_pos e, if_pos e, if_pos e, if_pos e]
        exact a4.2 q (by omega)
      · rw [if_neg e, if_neg e, if_neg e, if_neg e]
        exact a4.2 (q + 1) (by omega)
/-- what one leaves hangs on no more than this -/
theorem leave_eq {E : Nat → Nat → (Nat → Int32) → Int32} {R1 R2 : Rm} {q1 q2 : Nat} (hT : rT R1 = rT R2) (hD : rD R1 = rD R2) (hL : rL R1 = rL R2) (hA : ∀ t, rA R1 t q1 = rA R2 t q2) : rT (leaveS E R1 q1) = rT (leaveS E R2 q2) := by
  have es : seatN R1 q1 = seatN R2 q2 := by unfold seatN; rw [hA]
  have ek : knd R1 q1 = knd R2 q2 := by unfold knd; rw [hA]
  have ev : ∀ c, saidS E R1 0 q1 c = saidS E R2 0 q2 c := fun c => by
    unfold saidS
    rw [hL]
    congr 1
    funext k
    unfold nmR
    rw [hT, hD, hA, hA]
  unfold leaveS
  show lvT (rT R1) _ _ _ = lvT (rT R2) _ _ _
  rw [hT, es, ek, ev, hA]
abbrev skP (p : Nat) : Nat → Bool := fun q => decide (q = p)
theorem dayF_dism {E : Nat → Nat → (Nat → Int32) → Int32} {R R' : Rm} {p : Nat} (hT : rT R' = rT R) (hD : rD R' = rD R) (hL : rL R' = rL R) (hA : ∀ t q, rA R' t q = if q < p then rA R t q else rA R t (q + 1)) : ∀ k, rT (dayF E skN k R') = rT (dayF E (skP p) (if k ≤ p then k else k + 1) R) := by
  intro k
  induction k with
  | zero => rw [if_pos (Nat.zero_le p)]; exact hT
  | succ k ih =>
    have a2 : ∀ sk n (Q : Rm), (dayF E sk n Q).2 = Q.2 := fun sk n Q => dayF_2 E sk Q n
    have l1 : dayF E skN (k + 1) R' = leaveS E (dayF E skN k R') k := by
      show (if skN k = true then _ else _) = _
      rw [if_neg (show ¬ skN k = true from Bool.false_ne_true)]
    rw [l1]
    have body : ∀ q : Nat, (if k < p then q = k else q = k + 1) → (rT (dayF E skN k R') = rT (dayF E (skP p) q R)) → ¬ q = p → rT (leaveS E (dayF E skN k R') k) = rT (dayF E (skP p) (q + 1) R) := by
      intro q hq hh hne
      have l2 : dayF E (skP p) (q + 1) R = leaveS E (dayF E (skP p) q R) q := by
        show (if skP p q = true then _ else _) = _
        rw [if_neg (by simpa [skP] using hne)]
      rw [l2]
      refine leave_eq hh ?_ ?_ (fun t => ?_)
      · unfold rD at hD ⊢; rw [a2, a2]; exact hD
      · unfold rL at hL ⊢; rw [a2, a2]; exact hL
      · have e1 : rA (dayF E skN k R') t k = rA R' t k := by unfold rA; rw [a2]
        have e2 : rA (dayF E (skP p) q R) t q = rA R t q := by unfold rA; rw [a2]
        rw [e1, e2, hA]
        by_cases e : k < p
        · rw [if_pos e] at hq ⊢
          rw [hq]
        · rw [if_neg e] at hq ⊢
          rw [hq]
    by_cases e : k < p
    · rw [if_pos (show k + 1 ≤ p by omega)]
      rw [if_pos (show k ≤ p by omega)] at ih
      exact body k (by rw [if_pos e]) ih (by omega)
    · rw [if_neg (show ¬ k + 1 ≤ p by omega)]
      refine body (k + 1) (by rw [if_neg e]) ?_ (by omega)
      rw [ih]
      by_cases e2 : k = p
      · rw [if_pos (by omega), e2]
        show _ = rT (if skP p p = true then dayF E (skP p) p R else _)
        rw [if_pos (by simp [skP])]
      · rw [if_neg (by omega)]
theorem day_dism {E : Nat → Nat → (Nat → Int32) → Int32} {R R' : Rm} {p : Nat} (hp : p < rN R) (hN : rN R' = rN R - 1) (hT : rT R' = rT R) (hD : rD R' = rD R) (hL : rL R' = rL R) (hA : ∀ t q, rA R' t q = if q < p then rA R t q else rA R t (q + 1)) :
    rN (dayS E (skP p) R) = rN R ∧ rN (dayS E skN R') = rN R - 1 ∧ rT (dayS E skN R') = rT (dayS E (skP p) R) ∧ rD (dayS E skN R') = rD (dayS E (skP p) R) ∧ rL (dayS E skN R') = rL (dayS E (skP p) R) ∧ ∀ t q, rA (dayS E skN R') t q = if q < p then rA (dayS E (skP p) R) t q else rA (dayS E (skP p) R) t (q + 1) := by
  have a2 : ∀ sk n (Q : Rm), (dayF E sk n Q).2 = Q.2 := fun sk n Q => dayF_2 E sk Q n
  refine ⟨?_, ?_, ?_, ?_, ?_, fun t q => ?_⟩
  · show rN (dayF E (skP p) (rN R) R) = rN R
    unfold rN; rw [a2]
  · show rN (dayF E skN (rN R') R') = rN R - 1
    rw [← hN]
    show rN (dayF E skN (rN R') R') = rN R'
    unfold rN; rw [a2]
  · show rT (dayF E skN (rN R') R') = rT (dayF E (skP p) (rN R) R)
    rw [dayF_dism hT hD hL hA, hN]
    by_cases e : rN R - 1 ≤ p
    · rw [if_pos e]
      have e2 : rN R = (rN R - 1) + 1 := by omega
      rw [e2]
      show _ = rT (if skP p (rN R - 1) = true then dayF E (skP p) (rN R - 1) R else _)
      rw [if_pos (by simp [skP]; omega)]
      rfl
    · rw [if_neg e, show rN R - 1 + 1 = rN R by omega]
  · show rD (dayF E skN (rN R') R') + 1 = rD (dayF E (skP p) (rN R) R) + 1
    rw [show rD (dayF E skN (rN R') R') = rD R' by unfold rD; rw [a2], show rD (dayF E (skP p) (rN R) R) = rD R by unfold rD; rw [a2], hD]
  · show rL (dayF E skN (rN R') R') = rL (dayF E (skP p) (rN R) R)
    rw [show rL (dayF E skN (rN R') R') = rL R' by unfold rL; rw [a2], show rL (dayF E (skP p) (rN R) R) = rL R by unfold rL; rw [a2], hL]
  · show rA (dayF E skN (rN R') R') t q = if q < p then rA (dayF E (skP p) (rN R) R) t q else rA (dayF E (skP p) (rN R) R) t (q + 1)
    have e1 : ∀ t q, rA (dayF E skN (rN R') R') t q = rA R' t q := fun t q => by unfold rA; rw [a2]
    have e2 : ∀ t q, rA (dayF E (skP p) (rN R) R) t q = rA R t q := fun t q => by unfold rA; rw [a2]
    rw [e1, e2, e2, hA]
theorem days_dism {E : Nat → Nat → (Nat → Int32) → Int32} {R : Rm} {p : Nat} (hp : p < rN R) : ∀ n, rN (daysS E (skP p) n R) = rN R ∧ rN (daysS E skN n (dism R p)) = rN R - 1 ∧ rT (daysS E skN n (dism R p)) = rT (daysS E (skP p) n R) ∧ rD (daysS E skN n (dism R p)) = rD (daysS E (skP p) n R) ∧ rL (daysS E skN n (dism R p)) = rL (daysS E (skP p) n R) ∧ ∀ t q, rA (daysS E skN n (dism R p)) t q = if q < p then rA (daysS E (skP p) n R) t q else rA (daysS E (skP p) n R) t (q + 1) := by
  intro n
  induction n with
  | zero => exact ⟨rfl, rfl, rfl, rfl, rfl, fun _ _ => rfl⟩
  | succ n ih =>
    obtain ⟨i0, i1, i2, i3, i4, i5⟩ := ih
    have := day_dism (E := E) (R := daysS E (skP p) n R) (R' := daysS E skN n (dism R p)) (p := p) (by omega) (by omega) i2 i3 i4 i5
    obtain ⟨j0, j1, j2, j3, j4, j5⟩ := this
    exact ⟨j0.trans i0, by rw [i0] at j1; exact j1, j2, j3, j4, j5⟩
theorem days_none {E : Nat → Nat → (Nat → Int32) → Int32} {sk : Nat → Bool} {R : Rm} (h : rN R = 0) : ∀ n, rT (daysS E sk n R) = rT R ∧ rN (daysS E sk n R) = 0 := by
  intro n
  induction n with
  | zero => exact ⟨rfl, h⟩
  | succ n ih =>
    have e : dayF E sk (rN (daysS E sk n R)) (daysS E sk n R) = daysS E sk n R := by rw [ih.2]; rfl
    constructor
    · show rT (dayF E sk (rN (daysS E sk n R)) (daysS E sk n R)) = rT R
      rw [e]; exact ih.1
    · show rN (dayF E sk (rN (daysS E sk n R)) (daysS E sk n R)) = 0
      rw [e]; exact ih.2
theorem bsS_init {F : Nat → Int32} {a b : Int32} : ∀ n, bsS (-1, a) F (n + 1) = bsS (-1, b) F (n + 1) := by
  intro n
  induction n with
  | zero =>
    show bstep (-1, a) (nI 0) (F 0) = bstep (-1, b) (nI 0) (F 0)
    unfold bstep
    rw [if_pos rfl, if_pos rfl]
  | succ n ih =>
    show bstep (bsS (-1, a) F (n + 1)) _ _ = bstep (bsS (-1, b) F (n + 1)) _ _
    rw [ih]
def turnF (M : Mem) (d : Nat) : Nat → Int32 := fun p => sumT (rT (daysS (svX M) (skP p) d (vwX 0 M))) 0 36
def turnS (n w : Int32) (M : Mem) : Int32 := if bt (decide (0 ≤ n) && decide (n ≤ 40)) = 0 then -2 else if bt (decide (0 ≤ w) && decide (w ≤ 1)) = 0 then -2 else pick w (bsS (-1, sumT (rT (vwX 0 M)) 0 36) (turnF M n.toNatClampNeg) (rN (vwX 0 M)))
theorem turnX_ev {T : Nat} {M : Mem} (h : RelT T M) (n w : Int32) : Ev (fX10_turn n w M) (fun r M1 => r = turnS n w M ∧ Kp M M1) := by
  have hX := h.2.2.2.1
  have hn6 := hX.2.2.2.1.1
  unfold fX10_turn turnS
  rw [within_ev, ob_some]
  refine Ev.ite (fun h1 => Ev.ret ⟨by rw [if_pos h1], Kp.rf⟩) (fun h1 => ?_)
  rw [if_neg h1, within_ev, ob_some]
  refine Ev.ite (fun h2 => Ev.ret ⟨by rw [if_pos h2], Kp.rf⟩) (fun h2 => ?_)
  rw [if_neg h2]
  obtain ⟨d, hd, rfl⟩ := rng (n := 40) (by decide) (not_bt h1)
  rw [nI_clamp (show d < 2 ^ 31 by omega)]
  have hf : ∀ p, turnF M d p = sumT (rT (daysS (svX M) (skP p) d (vwX 0 M))) 0 36 := fun p => rfl
  generalize turnF M d = F at hf
  refine Ev.bind (total_ev (r := 0) (lo := 0) (hi := 36) (by omega) (by omega)) (fun a M1 q => ?_)
  obtain ⟨q3, rfl⟩ := q
  have ha : a = sumT (rT (vwX 0 M1)) 0 36 := q3
  rw [← ha]
  refine Ev.loop (f := fun k (x : Int32 × Int32 × Int32) M => fX10_turn_L39 (nI d) w k x.1 x.2.1 x.2.2 M) (B := fun k x M => fX10_turn_B39 (nI d) w (fun a b e M => k (a, b, e) M) x.1 x.2.1 x.2.2 M) (fun _ _ _ => rfl) (rN (vwX 0 M1))
    (fun j x N => x = ((bsS (-1, a) F j).1, (bsS (-1, a) F j).2, nI j) ∧ Kp M1 N) ?_ ?_ FU 0 (-1, a, nI 0) M1 (Nat.zero_le _) (by show _ < 2000 + 0; omega) ⟨rfl, Kp.rf⟩
  · rintro k j x N hj ⟨rfl, hN⟩ hk
    show Ev (fX10_turn_B39 (nI d) w (fun a b e M => k (a, b, e) M) (bsS (-1, a) F j).1 (bsS (-1, a) F j).2 (nI j) N) _
    unfold fX10_turn_B39
    have e7 : N 15 0 7 = nI (rN (vwX 0 M1)) := by rw [hN 15 0 (by simp [keptK])]; exact hX.1
    rw [e7, if_neg (fun q => by have := (nI_leI (by omega) (by omega)).mp q; omega)]
    refine Ev.bind (thx_take hX hN) (fun _ N1 q1 => Ev.bind (dismiss_ev q1 hj) (fun _ N2 q2 => Ev.bind (thx_days hd h.1 q2) (fun _ N3 q3 => ?_)))
    refine Ev.bind (total_ev (r := 1) (lo := 0) (hi := 36) (by omega) (by omega)) (fun b N4 q4 => ?_)
    obtain ⟨q5, rfl⟩ := q4
    have hb0 : b = F j := by
      rw [hf, ← (days_dism (E := svX M1) hj d).2.2.1, ← q3.2.2]
      exact q5
    have hb : bsS (-1, a) F (j + 1) = bstep (bsS (-1, a) F j) (nI j) (F j) := rfl
    rw [nI_1, hb0]
    refine Ev.ite (fun e => ?_) (fun e => ?_)
    · refine hk _ N4 ⟨?_, q3.1⟩
      rw [hb, bstep, if_pos e]
    · refine Ev.ite (fun e2 => ?_) (fun e2 => ?_)
      · refine hk _ N4 ⟨?_, q3.1⟩
        rw [hb, bstep, if_neg e, if_pos e2]
      · refine hk _ N4 ⟨?_, q3.1⟩
        rw [hb, bstep, if_neg e, if_neg e2]
  · rintro k x N ⟨rfl, hN⟩
    show Ev (fX10_turn_B39 (nI d) w (fun a b e M => k (a, b, e) M) (bsS (-1, a) F (rN (vwX 0 M1))).1 (bsS (-1, a) F (rN (vwX 0 M1))).2 (nI (rN (vwX 0 M1))) N) _
    unfold fX10_turn_B39 pick
    have e7 : N 15 0 7 = nI (rN (vwX 0 M1)) := by rw [hN 15 0 (by simp [keptK])]; exact hX.1
    rw [e7, if_pos (Int32.le_refl _)]
    refine Ev.ite (fun e => Ev.ret ⟨by rw [if_pos e], hN⟩) (fun e => Ev.ret ⟨by rw [if_neg e], hN⟩)
theorem allW_ev {T n : Nat} {but : Int32} {sk : Nat → Bool} {M : Mem} (hT : Txt T M) (hI : InM T M) (hn : n ≤ 40) (hsk : ∀ p, p < 6 → (sk p = true ↔ nI p = but)) : Ev (fX11_allWithout but (nI n) M) (fun r M1 => r = sumT (rT (daysS (svX M) sk n (vwM M))) 0 36 ∧ Lk M M1) := by
  unfold fX11_allWithout
  refine Ev.bind (thm_keep hI) (fun _ N1 q1 => ?_)
  refine Ev.loop (f := fun m (x : Int32) M => fX11_allWithout_L6 but (nI n) m x M) (B := fun k x M => fX11_allWithout_B6 but (nI n) k x M) (fun _ _ _ => rfl) n
    (fun j x N => x = nI j ∧ ThM T M N (daysS (svX M) sk j (vwM M))) ?_ ?_ FU 0 (nI 0) N1 (Nat.zero_le _) (by show _ < 2000 + 0; omega) ⟨rfl, q1⟩
  · rintro k j x N hj ⟨rfl, hN⟩ hk
    show Ev (fX11_allWithout_B6 but (nI n) k (nI j) N) _
    unfold fX11_allWithout_B6
    rw [if_neg (fun q => by have := (nI_leI (by omega) (by omega)).mp q; omega)]
    refine Ev.bind (thm_day hT hN hsk) (fun _ N2 q2 => ?_)
    rw [nI_1]
    exact hk _ N2 ⟨rfl, q2⟩
  · rintro k x N ⟨rfl, hN⟩
    show Ev (fX11_allWithout_B6 but (nI n) k (nI n) N) _
    unfold fX11_allWithout_B6
    rw [if_pos ((nI_leI (by omega) (by omega)).mpr (Nat.le_refl _))]
    refine Ev.bind allOf_ev (fun a N2 q2 => ?_)
    obtain ⟨q3, rfl⟩ := q2
    exact Ev.bind (thm_lays hN) (fun _ M2 q4 => Ev.ret ⟨by rw [q3, hN.2.2.2.2.2], q4⟩)
theorem turnM_ev {T : Nat} {M : Mem} (h : RelT T M) (n w : Int32) : Ev (fX11_turn n w M) (fun r M1 => r = turnS n w M ∧ Lk M M1) := by
  have hI := h.2.2.2.2.1
  have hv : vwX 0 M = vwM M := h.2.2.2.2.2.1
  have hn6 := hI.2.2.2.1.1
  unfold fX11_turn turnS
  rw [in_ev, ob_some, hv]
  refine Ev.ite (fun h1 => Ev.ret ⟨by rw [if_pos h1], Lk.rf⟩) (fun h1 => ?_)
  rw [if_neg h1, in_ev, ob_some]
  refine Ev.ite (fun h2 => Ev.ret ⟨by rw [if_pos h2], Lk.rf⟩) (fun h2 => ?_)
  rw [if_neg h2]
  obtain ⟨d, hd, rfl⟩ := rng (n := 40) (by decide) (not_bt h1)
  rw [nI_clamp (show d < 2 ^ 31 by omega)]
  have hf : ∀ p, turnF M d p = sumT (rT (daysS (svX M) (skP p) d (vwM M))) 0 36 := fun p => by rw [← hv]; rfl
  generalize turnF M d = F at hf
  refine Ev.bind (allW_ev (sk := skN) h.1 hI hd skN_ok) (fun a M1 q => ?_)
  obtain ⟨ha, hL1⟩ := q
  have hskp : ∀ j, j < 6 → ∀ p, p < 6 → (skP j p = true ↔ nI p = nI j) := fun j hj p hp => by
    rw [nI_eq (by omega) (by omega)]
    simp [skP]
  refine Ev.loop (f := fun k (x : Int32 × Int32 × Int32) M => fX11_turn_L35 (nI d) w k x.1 x.2.1 x.2.2 M) (B := fun k x M => fX11_turn_B35 (nI d) w (fun a b e M => k (a, b, e) M) x.1 x.2.1 x.2.2 M) (fun _ _ _ => rfl) (rN (vwM M))
    (fun j x N => x = ((bsS (-1, a) F j).1, (bsS (-1, a) F j).2, nI j) ∧ Lk M N) ?_ ?_ FU 0 (-1, a, nI 0) M1 (Nat.zero_le _) (by show _ < 2000 + 0; omega) ⟨rfl, hL1⟩
  · rintro k j x N hj ⟨rfl, hN⟩ hk
    show Ev (fX11_turn_B35 (nI d) w (fun a b e M => k (a, b, e) M) (bsS (-1, a) F j).1 (bsS (-1, a) F j).2 (nI j) N) _
    unfold fX11_turn_B35
    have e7 : N 22 0 0 = nI (rN (vwM M)) := by rw [hN.2.2 0 (by omega)]; exact hI.1
    rw [e7, if_neg (fun q => by have := (nI_leI (by omega) (by omega)).mp q; omega)]
    refine Ev.bind (allW_ev (sk := skP j) (hN.txt h.1) (hN.inM hI) hd (hskp j (by omega))) (fun b N4 q4 => ?_)
    rw [hN.sv, hN.vM, ← hf] at q4
    obtain ⟨rfl, q5⟩ := q4
    have k4 := hN.tr q5
    have hb : bsS (-1, a) F (j + 1) = bstep (bsS (-1, a) F j) (nI j) (F j) := rfl
    unfold fX11_turn_J65 fX11_turn_J70 fX11_turn_J83
    rw [nI_1, if_neg (show ¬ (1 : Int32) = 0 by decide), if_neg (show ¬ (1 : Int32) = 0 by decide), if_pos (show (0 : Int32) = 0 from rfl), if_pos (show (0 : Int32) = 0 from rfl)]
    refine Ev.ite (fun e => ?_) (fun e => ?_)
    · refine hk _ N4 ⟨?_, k4⟩
      rw [hb, bstep, if_pos e]
    · refine Ev.ite (fun e2 => ?_) (fun e2 => ?_)
      · refine hk _ N4 ⟨?_, k4⟩
        rw [hb, bstep, if_neg e, if_pos e2]
      · refine hk _ N4 ⟨?_, k4⟩
        rw [hb, bstep, if_neg e, if_neg e2]
  · rintro k x N ⟨rfl, hN⟩
    show Ev (fX11_turn_B35 (nI d) w (fun a b e M => k (a, b, e) M) (bsS (-1, a) F (rN (vwM M))).1 (bsS (-1, a) F (rN (vwM M))).2 (nI (rN (vwM M))) N) _
    unfold fX11_turn_B35
    have e7 : N 22 0 0 = nI (rN (vwM M)) := by rw [hN.2.2 0 (by omega)]; exact hI.1
    rw [e7, if_pos (Int32.le_refl _)]
    have fin : bsS (-1, sumT (rT (vwM M)) 0 36) F (rN (vwM M)) = bsS (-1, a) F (rN (vwM M)) := by
      by_cases e : rN (vwM M) = 0
      · rw [e, ha, (days_none e d).1]
      · obtain ⟨m, hm⟩ : ∃ m, rN (vwM M) = m + 1 := ⟨rN (vwM M) - 1, by omega⟩
        rw [hm]
        exact bsS_init m
    rw [fin]
    unfold pick
    refine Ev.ite (fun e => Ev.ret ⟨by rw [if_pos e], hN⟩) (fun e => Ev.ret ⟨by rw [if_neg e], hN⟩)
theorem turn_same (n w : Int32) : Same (fX10_turn n w) (fX11_turn n w) :=
  Same.ask (turnS n w) (fun M M1 h => by
    have e : ∀ n, turnF M1 n = turnF M n := fun n => by unfold turnF; rw [h.sv, h.vX]
    unfold turnS
    rw [h.vX, e]) (fun _ _ h => turnX_ev h n w) (fun _ _ h => turnM_ev h n w)
end TU
