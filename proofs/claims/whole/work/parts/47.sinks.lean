/-! the first such number; sinks -/
section SI
def fstI (P : Nat → Bool) : Nat → Int32
  | 0 => -1
  | n + 1 => if fstI P n = -1 then (if P n = true then nI n else -1) else fstI P n
theorem nI_nm1 {n : Nat} (h : n < 2 ^ 31) : ¬ nI n = -1 := fun e => by
  have := nI_pos h
  rw [e] at this
  exact this (by decide)
theorem fstI_stay {P : Nat → Bool} {j : Nat} (h : ¬ fstI P j = -1) : ∀ n, j ≤ n → fstI P n = fstI P j := by
  intro n
  induction n with
  | zero => intro hn; rw [show j = 0 by omega]
  | succ n ih =>
    intro hn
    by_cases e : j = n + 1
    · rw [e]
    · have := ih (by omega)
      show (if fstI P n = -1 then (if P n = true then nI n else -1) else fstI P n) = _
      rw [this, if_neg h]
theorem fstI_hit {P : Nat → Bool} {j n : Nat} (h : fstI P j = -1) (hp : P j = true) (hn : j < n) (hj : j < 2 ^ 31) : fstI P n = nI j := by
  have e : fstI P (j + 1) = nI j := by
    show (if fstI P j = -1 then (if P j = true then nI j else -1) else fstI P j) = nI j
    rw [if_pos h, if_pos hp]
  rw [← e]
  exact fstI_stay (by rw [e]; exact nI_nm1 hj) n (by omega)
theorem fstI_miss {P : Nat → Bool} {j : Nat} (h : fstI P j = -1) (hp : ¬ P j = true) : fstI P (j + 1) = -1 := by
  show (if fstI P j = -1 then (if P j = true then nI j else -1) else fstI P j) = -1
  rw [if_pos h, if_neg hp]
theorem fstI_new {P : Nat → Bool} {j : Nat} (h : fstI P j = -1) (hp : P j = true) : fstI P (j + 1) = nI j := by
  show (if fstI P j = -1 then (if P j = true then nI j else -1) else fstI P j) = _
  rw [if_pos h, if_pos hp]
def sinkP (M : Mem) (c : Nat) (w : Int32) : Nat → Bool := fun i => decide (¬ rT (daysS (svX M) skN i (vwX 0 M)) c < w)
def sinksS (v w : Int32) (M : Mem) : Int32 := if bt (decide (0 ≤ v) && decide (v ≤ 35)) = 0 then -5 else if bt (decide (0 ≤ w) && decide (w ≤ 999)) = 0 then -7 else fstI (sinkP M v.toNatClampNeg w) 41
theorem sinksX_ev {T : Nat} {M : Mem} (h : RelT T M) (v w : Int32) : Ev (fX10_sinks v w M) (fun r M1 => r = sinksS v w M ∧ Kp M M1) := by
  have hX := h.2.2.2.1
  unfold fX10_sinks
  rw [cellX_ev, ob_some]
  refine Ev.ite (fun h0 => Ev.ret ⟨by rw [sinksS, if_pos h0], Kp.rf⟩) (fun h0 => ?_)
  rw [within_ev, ob_some]
  refine Ev.ite (fun h1 => Ev.ret ⟨by rw [sinksS, if_neg h0, if_pos h1], Kp.rf⟩) (fun h1 => ?_)
  have hS : sinksS v w M = fstI (sinkP M v.toNatClampNeg w) 41 := by rw [sinksS, if_neg h0, if_neg h1]
  obtain ⟨c, hc, rfl⟩ := rng (n := 35) (by decide) (not_bt h0)
  have cc := nI_clamp (show c < 2 ^ 31 by omega)
  rw [hS, cc]
  have hin : inb (nI c) 36 = true := inb_nI (by omega) (by decide)
  refine Ev.bind (thx_take hX Kp.rf) (fun _ N1 q1 => ?_)
  refine Ev.loop (f := fun m (x : Int32) M => fX10_sinks_L37 (nI c) w m x M) (B := fun k x M => fX10_sinks_B37 (nI c) w k x M) (fun _ _ _ => rfl) 41
    (fun j x N => x = nI j ∧ fstI (sinkP M c w) j = -1 ∧ ThX T M N (daysS (svX M) skN j (vwX 0 M))) ?_ ?_ FU 0 (nI 0) N1 (Nat.zero_le _) (by show _ < 2000 + 0; omega) ⟨rfl, rfl, q1⟩
  · rintro k j x N hj ⟨rfl, hf, hN⟩ hk
    show Ev (fX10_sinks_B37 (nI c) w k (nI j) N) _
    unfold fX10_sinks_B37
    rw [if_neg (fun q => by have := (nI_ltI (a := 40) (by omega) (by omega)).mp q; omega)]
    refine Ev.gd hin ?_
    rw [cc, hN.T (by omega)]
    refine Ev.ite (fun e => ?_) (fun e => Ev.ret ⟨?_, hN.1⟩)
    · refine Ev.bind (thx_day h.1 hN) (fun _ N2 q2 => ?_)
      rw [nI_1]
      exact hk _ N2 ⟨rfl, fstI_miss hf (by simp [sinkP, e]), q2⟩
    · exact (fstI_hit hf (by simp [sinkP, e]) hj (by omega)).symm
  · rintro k x N ⟨rfl, hf, hN⟩
    show Ev (fX10_sinks_B37 (nI c) w k (nI 41) N) _
    unfold fX10_sinks_B37
    rw [if_pos (by decide)]
    exact Ev.ret ⟨hf.symm, hN.1⟩
theorem sinksM_ev {T : Nat} {M : Mem} (h : RelT T M) (v w : Int32) : Ev (fX11_sinks v w M) (fun r M1 => r = sinksS v w M ∧ Lk M M1) := by
  have hI := h.2.2.2.2.1
  have hv : vwX 0 M = vwM M := h.2.2.2.2.2.1
  unfold fX11_sinks
  rw [cellM_ev, ob_some]
  refine Ev.ite (fun h0 => Ev.ret ⟨by rw [sinksS, if_pos h0], Lk.rf⟩) (fun h0 => ?_)
  rw [in_ev, ob_some]
  refine Ev.ite (fun h1 => Ev.ret ⟨by rw [sinksS, if_neg h0, if_pos h1], Lk.rf⟩) (fun h1 => ?_)
  have hS : sinksS v w M = fstI (sinkP M v.toNatClampNeg w) 41 := by rw [sinksS, if_neg h0, if_neg h1]
  obtain ⟨c, hc, rfl⟩ := rng (n := 35) (by decide) (not_bt h0)
  have cc := nI_clamp (show c < 2 ^ 31 by omega)
  rw [hS, cc]
  generalize h41 : (41 : Nat) = n41
  have hin : inb (nI c) 36 = true := inb_nI (by omega) (by decide)
  refine Ev.bind (thm_keep hI) (fun _ N1 q1 => ?_)
  have hpd : ∀ j, sinkP M c w j = decide (¬ rT (daysS (svX M) skN j (vwM M)) c < w) := fun j => by rw [sinkP, hv]
  generalize hP : sinkP M c w = P at hpd
  have done : ∀ (s : Int32) (j : Nat) (N : Mem), s = fstI P n41 → ThM T M N (daysS (svX M) skN j (vwM M)) → Ev (fX11_sinks_J73 s N) (fun r M1 => r = fstI P n41 ∧ Lk M M1) := by
    intro s j N hs hN
    unfold fX11_sinks_J73
    exact Ev.bind (thm_lays hN) (fun _ M2 q4 => Ev.ret ⟨hs, q4⟩)
  refine Ev.loop (f := fun m (x : Int32 × Int32) M => fX11_sinks_L33 (nI c) w m x.1 x.2 M) (B := fun k x M => fX11_sinks_B33 (nI c) w (fun a b M => k (a, b) M) x.1 x.2 M) (fun _ _ _ => rfl) n41
    (fun j x N => x = (fstI P j, nI j) ∧ ThM T M N (daysS (svX M) skN j (vwM M))) ?_ ?_ FU 0 (-1, nI 0) N1 (Nat.zero_le _) (by show _ < 2000 + 0; omega) ⟨rfl, q1⟩
  · rintro k j x N hj ⟨rfl, hN⟩ hk
    show Ev (fX11_sinks_B33 (nI c) w (fun a b M => k (a, b) M) (fstI P j) (nI j) N) _
    unfold fX11_sinks_B33
    rw [if_neg (fun q => by have := (nI_ltI (a := 40) (by omega) (by omega)).mp q; omega)]
    refine Ev.ite (fun hf => ?_) (fun hf => done _ j N (fstI_stay hf n41 (by omega)).symm hN)
    refine Ev.gd hin ?_
    rw [cc, hN.T (by omega)]
    have go : ∀ s : Int32, s = fstI P (j + 1) → Ev (fX11_sinks_J61 (fun a b M => k (a, b) M) (nI c) w (nI j) s N) (fun r M1 => r = fstI P n41 ∧ Lk M M1) := by
      intro s hs
      unfold fX11_sinks_J61
      refine Ev.bind (thm_day h.1 hN skN_ok) (fun _ N2 q2 => ?_)
      rw [nI_1]
      exact hk _ N2 ⟨by rw [hs], q2⟩
    refine Ev.ite (fun e => ?_) (fun e => ?_)
    · exact go _ (fstI_miss hf (by rw [hpd]; simp [e])).symm
    · exact go _ (fstI_new hf (by rw [hpd]; simp [e])).symm
  · rintro k x N ⟨rfl, hN⟩
    show Ev (fX11_sinks_B33 (nI c) w (fun a b M => k (a, b) M) (fstI P n41) (nI n41) N) _
    unfold fX11_sinks_B33
    rw [if_pos (by rw [← h41]; decide)]
    exact done _ n41 N rfl hN
theorem sinks_same (v w : Int32) : Same (fX10_sinks v w) (fX11_sinks v w) :=
  Same.ask (sinksS v w) (fun M M1 h => by
    have : ∀ c, sinkP M1 c w = sinkP M c w := fun c => by unfold sinkP; rw [h.sv, h.vX]
    rw [sinksS, sinksS, this]) (fun _ _ h => sinksX_ev h v w) (fun _ _ h => sinksM_ev h v w)
end SI
/-! leaves -/
section LE
theorem apN_comm (c d : Nat) : apN c d = apN d c := by unfold apN; omega
def leftS (E : Nat → Nat → (Nat → Int32) → Int32) (R : Rm) (p c : Nat) : Int32 := if apN (seatN R p) c ≤ 1 then dropsK (knd R p) (apN (seatN R p) c) (saidS E R 0 p (seatN R p)) (rA R 3 p) else 0
theorem leftOn_ev {T p c : Nat} {M : Mem} (hT : Txt T M) (hI : InX T 0 M) (hp : p < rN (vwX 0 M)) (hc : c < 36) : Ev (fX5_leftOn 0 (nI p) (nI c) M) (fun v M' => v = leftS (svX M) (vwX 0 M) p c ∧ Off (scS 0) M M') := by
  have hA := hI.2.2.2.1
  have hp6 : p < 6 := Nat.lt_of_lt_of_le hp hA.1
  have hs := seat_lt hA hp
  have hin : inb (nI p) 6 = true := inb_nI hp6 (by decide)
  have cp := nI_clamp (show p < 2 ^ 31 by omega)
  have hap : apN (seatN (vwX 0 M) p) c < 100 := by unfold apN; omega
  unfold fX5_leftOn
  refine Ev.gd (by decide) (Ev.gd hin (Ev.letv ?_))
  rw [cp, show (0 : Int32).toNatClampNeg = 0 by decide, show (3 : Int32).toNatClampNeg = 3 by decide, vwX_A (r := 0) (M := M) (t := 0) (by omega) hp, seat_eq hA hp, apX_ev M hs hc, ob_some]
  refine Ev.ite (fun e => ?_) (fun e => Ev.ret ⟨?_, Off.rf⟩)
  · have e1 := (nI_leI (b := 1) (by omega) (by omega)).mp e
    rw [kindOf_ev hI hp, ob_some]
    refine Ev.bind (said_ev (part := 0) hT hI (by omega) hp hs) (fun v M4 hv => ?_)
    refine Ev.gd (by decide) (Ev.gd hin ?_)
    rw [hv.2.at (show ¬ scS 0 18 (4 * 0 + 3) by simp [scS]), vwX_A (r := 0) (M := M) (t := 3) (by omega) hp, drops_ev _ _ _ (knd_lt hA hp) (by omega), ob_some]
    exact Ev.ret ⟨by rw [leftS, if_pos e1, hv.1], hv.2⟩
  · rw [leftS, if_neg (fun q => e ((nI_leI (b := 1) (by omega) (by omega)).mpr q))]
theorem scS0_in {T : Nat} {M M' : Mem} (h : Off (scS 0) M M') (hI : InX T 0 M) : InX T 0 M' := hI.same (h.at (by simp [scS])) (h.at (by simp [scS])) (fun t _ => h.at (by simp [scS]))
theorem scS0_txt {T : Nat} {M M' : Mem} (h : Off (scS 0) M M') (hT : Txt T M) : Txt T M' := hT.off (fun i => ⟨h.at (by simp [scS]), h.at (by simp [scS]), h.at (by simp [scS])⟩) (h.at (by simp [scS])) (h.at (by simp [scS]))
def leavesS (v c w : Int32) (M : Mem) : Int32 := if bt (decide (0 ≤ v) && decide (v ≤ nI (rN (vwX 0 M)) - 1)) = 0 then -1005 else if bt (decide (0 ≤ c) && decide (c ≤ 35)) = 0 then -1007 else if bt (decide (0 ≤ w) && decide (w ≤ 1)) = 0 then -1007 else if w = 0 then leftS (svX M) (vwX 0 M) v.toNatClampNeg c.toNatClampNeg else sumT (leftS (svX M) (vwX 0 M) v.toNatClampNeg) 0 36
theorem leavesX_ev {T : Nat} {M : Mem} (h : RelT T M) (v z w : Int32) : Ev (fX10_leaves v z w M) (fun r M1 => r = leavesS v z w M ∧ Kp M M1) := by
  have hX := h.2.2.2.1
  unfold fX10_leaves
  rw [hasX_ev 0 v hX, ob_some]
  refine Ev.ite (fun h0 => Ev.ret ⟨by rw [leavesS, if_pos h0], Kp.rf⟩) (fun h0 => ?_)
  rw [cellX_ev, ob_some]
  refine Ev.ite (fun h1 => Ev.ret ⟨by rw [leavesS, if_neg h0, if_pos h1], Kp.rf⟩) (fun h1 => ?_)
  rw [within_ev, ob_some]
  refine Ev.ite (fun h2 => Ev.ret ⟨by rw [leavesS, if_neg h0, if_neg h1, if_pos h2], Kp.rf⟩) (fun h2 => ?_)
  have hS : leavesS v z w M = if w = 0 then leftS (svX M) (vwX 0 M) v.toNatClampNeg z.toNatClampNeg else sumT (leftS (svX M) (vwX 0 M) v.toNatClampNeg) 0 36 := by rw [leavesS, if_neg h0, if_neg h1, if_neg h2]
  obtain ⟨p, hp, rfl⟩ := one_rng hX.2.2.2.1.1 (not_bt h0)
  obtain ⟨c, hc, rfl⟩ := rng (n := 35) (by decide) (not_bt h1)
  have hp6 : p < 6 := Nat.lt_of_lt_of_le hp hX.2.2.2.1.1
  rw [hS, nI_clamp (show c < 2 ^ 31 by omega), nI_clamp (show p < 2 ^ 31 by omega)]
  refine Ev.ite (fun e => ?_) (fun e => ?_)
  · rw [if_pos e]
    exact Ev.bind (leftOn_ev h.1 hX hp (by omega)) (fun r M1 q => Ev.ret ⟨q.1, Kp.off q.2 nk_S⟩)
  · rw [if_neg e]
    refine Ev.bind (P := fun r M1 => r = sumT (leftS (svX M) (vwX 0 M) p) 0 36 ∧ Kp M M1) ?_ (fun r M1 q => Ev.ret q)
    unfold fX5_leftInAll
    refine Ev.loop (f := fun n (x : Int32 × Int32) M => fX5_leftInAll_L4 0 (nI p) n x.1 x.2 M) (B := fun k x M => fX5_leftInAll_B4 0 (nI p) (fun a b M => k (a, b) M) x.1 x.2 M) (fun _ _ _ => rfl) 36
      (fun j x N => x = (sumT (leftS (svX M) (vwX 0 M) p) 0 j, nI j) ∧ Off (scS 0) M N) ?_ ?_ FU 0 (0, nI 0) M (Nat.zero_le _) (by show _ < 2000 + 0; omega) ⟨rfl, Off.rf⟩
    · rintro k j x N hj ⟨rfl, hN⟩ hk
      show Ev (fX5_leftInAll_B4 0 (nI p) (fun a b M => k (a, b) M) (sumT (leftS (svX M) (vwX 0 M) p) 0 j) (nI j) N) _
      unfold fX5_leftInAll_B4
      rw [if_neg (fun q => by have := (nI_leI (a := 36) (by omega) (by omega)).mp q; omega)]
      refine Ev.bind (leftOn_ev (scS0_txt hN h.1) (scS0_in hN hX) (by rw [scS_vw hN]; exact hp) hj) (fun r N2 q => Ev.letv ?_)
      rw [nI_1]
      refine hk _ N2 ⟨?_, hN.tr q.2⟩
      rw [q.1, scS_vw hN, scS_sv hN]
      show (_, _) = (sumT (leftS (svX M) (vwX 0 M) p) 0 j + leftS (svX M) (vwX 0 M) p (0 + j), nI (j + 1))
      rw [Nat.zero_add]
    · rintro k x N ⟨rfl, hN⟩
      show Ev (fX5_leftInAll_B4 0 (nI p) (fun a b M => k (a, b) M) (sumT (leftS (svX M) (vwX 0 M) p) 0 36) (nI 36) N) _
      unfold fX5_leftInAll_B4
      rw [if_pos (by decide)]
      exact Ev.ret ⟨rfl, Kp.off hN nk_S⟩
theorem leavesM_ev {T : Nat} {M : Mem} (h : RelT T M) (v z w : Int32) : Ev (fX11_leaves v z w M) (fun r M1 => r = leavesS v z w M ∧ Lk M M1) := by
  have hI := h.2.2.2.2.1
  have hv : vwX 0 M = vwM M := h.2.2.2.2.2.1
  have hA := hI.2.2.2.1
  unfold fX11_leaves
  rw [oneM_ev v hI, ob_some]
  refine Ev.ite (fun h0 => Ev.ret ⟨by rw [leavesS, hv, if_pos h0], Lk.rf⟩) (fun h0 => ?_)
  rw [cellM_ev, ob_some]
  refine Ev.ite (fun h1 => Ev.ret ⟨by rw [leavesS, hv, if_neg h0, if_pos h1], Lk.rf⟩) (fun h1 => ?_)
  rw [in_ev, ob_some]
  refine Ev.ite (fun h2 => Ev.ret ⟨by rw [leavesS, hv, if_neg h0, if_neg h1, if_pos h2], Lk.rf⟩) (fun h2 => ?_)
  have hS : leavesS v z w M = if w = 0 then leftS (svX M) (vwM M) v.toNatClampNeg z.toNatClampNeg else sumT (leftS (svX M) (vwM M) v.toNatClampNeg) 0 36 := by rw [leavesS, hv, if_neg h0, if_neg h1, if_neg h2]
  obtain ⟨p, hp, rfl⟩ := one_rng hA.1 (not_bt h0)
  obtain ⟨c, hc, rfl⟩ := rng (n := 35) (by decide) (not_bt h1)
  have hp6 : p < 6 := Nat.lt_of_lt_of_le hp hA.1
  have hin : inb (nI p) 6 = true := inb_nI hp6 (by decide)
  have cp := nI_clamp (show p < 2 ^ 31 by omega)
  have hs := seat_lt hA hp
  have e25 : M 25 0 p = nI (seatN (vwM M) p) := by
    rw [show M 25 0 p = rA (vwM M) 0 p from vwM_A (t := 0) (by omega) hp]
    exact seat_eq hA hp
  rw [hS, nI_clamp (show c < 2 ^ 31 by omega), cp]
  refine Ev.gd hin ?_
  rw [e25]
  refine Ev.bind (asksOf_ev (part := 0) h.1 hI (by omega) hp hs) (fun a N q => ?_)
  have kN : Kp M N := Kp.off q.2 nk_M
  have hIN := kN.lk.inM hI
  have vN := kN.lk.vM
  have pN : p < rN (vwM N) := by rw [vN]; exact hp
  refine Ev.gd hin ?_
  rw [q.2.at (show ¬ scM 25 0 by simp [scM]), e25, apM_ev N (show c < 36 by omega) hs, ob_some]
  have hl : ∀ c, c < 36 → apN c (seatN (vwM M) p) < 2 → leftS (svX M) (vwM M) p c = dropsK (knd (vwM N) p) (apN c (seatN (vwM M) p)) a (rA (vwM N) 3 p) := fun c _ h2 => by
    rw [leftS, apN_comm, if_pos (by omega), q.1, vN]
  have hl0 : ∀ c, ¬ apN c (seatN (vwM M) p) < 2 → leftS (svX M) (vwM M) p c = 0 := fun c h2 => by
    rw [leftS, apN_comm, if_neg (by omega)]
  have hapc : ∀ c, c < 36 → apN c (seatN (vwM M) p) < 100 := fun c _ => by unfold apN; omega
  refine Ev.ite (fun e => ?_) (fun e => ?_)
  · rw [if_pos e]
    refine Ev.ite (fun e2 => Ev.ret ⟨?_, kN.lk⟩) (fun e2 => ?_)
    · have := (nI_leI (a := 2) (by omega) (by have := hapc c (by omega); omega)).mp e2
      rw [hl0 c (by omega)]
    · have : apN c (seatN (vwM M) p) < 2 := by
        by_cases q : apN c (seatN (vwM M) p) < 2
        · exact q
        · exact absurd ((nI_leI (a := 2) (by omega) (by have := hapc c (by omega); omega)).mpr (by omega)) e2
      rw [leavesAt_ev hIN pN this, ob_some]
      exact Ev.ret ⟨(hl c (by omega) this).symm, kN.lk⟩
  · rw [if_neg e]
    refine Ev.loop (f := fun n (x : Int32 × Int32) M => fX11_leaves_L88 (nI p) a n x.1 x.2 M) (B := fun k x M => fX11_leaves_B88 (nI p) a (fun a b M => k (a, b) M) x.1 x.2 M) (fun _ _ _ => rfl) 36
      (fun j x N2 => x = (sumT (leftS (svX M) (vwM M) p) 0 j, nI j) ∧ N2 = N) ?_ ?_ FU 0 (0, nI 0) N (Nat.zero_le _) (by show _ < 2000 + 0; omega) ⟨rfl, rfl⟩
    · rintro k j x N2 hj ⟨rfl, rfl⟩ hk
      show Ev (fX11_leaves_B88 (nI p) a (fun a b M => k (a, b) M) (sumT (leftS (svX M) (vwM M) p) 0 j) (nI j) N2) _
      unfold fX11_leaves_B88
      rw [if_neg (fun q => by have := (nI_leI (a := 36) (by omega) (by omega)).mp q; omega)]
      refine Ev.gd hin ?_
      rw [cp, q.2.at (show ¬ scM 25 0 by simp [scM]), e25, apM_ev N2 hj hs, ob_some]
      refine Ev.ite (fun e2 => Ev.letv ?_) (fun e2 => ?_)
      · have := (nI_leI (a := 2) (by omega) (by have := hapc j hj; omega)).mp e2
        rw [nI_1]
        refine hk _ N2 ⟨?_, rfl⟩
        show (_, _) = (sumT (leftS (svX M) (vwM M) p) 0 j + leftS (svX M) (vwM M) p (0 + j), nI (j + 1))
        rw [Nat.zero_add, hl0 j (by omega)]
      · have : apN j (seatN (vwM M) p) < 2 := by
          by_cases q : apN j (seatN (vwM M) p) < 2
          · exact q
          · exact absurd ((nI_leI (a := 2) (by omega) (by have := hapc j hj; omega)).mpr (by omega)) e2
        rw [leavesAt_ev hIN pN this, ob_some]
        refine Ev.letv ?_
        rw [nI_1]
        refine hk _ N2 ⟨?_, rfl⟩
        show (_, _) = (sumT (leftS (svX M) (vwM M) p) 0 j + leftS (svX M) (vwM M) p (0 + j), nI (j + 1))
        rw [Nat.zero_add, hl j hj this]
    · rintro k x N2 ⟨rfl, rfl⟩
      show Ev (fX11_leaves_B88 (nI p) a (fun a b M => k (a, b) M) (sumT (leftS (svX M) (vwM M) p) 0 36) (nI 36) N2) _
      unfold fX11_leaves_B88
      rw [if_pos (by decide)]
      exact Ev.ret ⟨rfl, kN.lk⟩
theorem leaves_same (v z w : Int32) : Same (fX10_leaves v z w) (fX11_leaves v z w) :=
  Same.ask (leavesS v z w) (fun M M1 h => by rw [leavesS, leavesS, h.sv, h.vX]) (fun _ _ h => leavesX_ev h v z w) (fun _ _ h => leavesM_ev h v z w)
end LE
