/-! told days -/
section TD
def foP (E : Nat → Nat → (Nat → Int32) → Int32) (R : Rm) (nu : Nat → Int32) (c : Nat) : Nat → Bool := fun i => decide (¬ rT (daysS E skN (i + 1) R) c = nu i)
theorem foX_ev {T s c n : Nat} {M N : Mem} {R : Rm} (hT : Txt T M) (h : ThX T M N R) (hc : c < 36) (hn : n ≤ 40) (en : (shX s M).2.1 = nI n) : Ev (fX10_firstOtherwise s (nI c) N) (fun r N2 => r = fstI (foP (svX M) R (shX s M).2.2 c) n ∧ Kp M N2) := by
  have hin : inb (nI c) 36 = true := inb_nI hc (by decide)
  unfold fX10_firstOtherwise
  refine Ev.loop (f := fun m (x : Int32) M => fX10_firstOtherwise_L2 s (nI c) m x M) (B := fun k x M => fX10_firstOtherwise_B2 s (nI c) k x M) (fun _ _ _ => rfl) n
    (fun j x N => x = nI j ∧ fstI (foP (svX M) R (shX s M).2.2 c) j = -1 ∧ ThX T M N (daysS (svX M) skN j R)) ?_ ?_ FU 0 (nI 0) N (Nat.zero_le _) (by show _ < 2000 + 0; omega) ⟨rfl, rfl, h⟩
  · rintro k j x N hj ⟨rfl, hf, hN⟩ hk
    show Ev (fX10_firstOtherwise_B2 s (nI c) k (nI j) N) _
    unfold fX10_firstOtherwise_B2
    have e13 : N 13 s 2 = nI n := by rw [hN.1 13 s (by simp [keptK])]; exact en
    rw [e13, if_neg (fun q => by have := (nI_leI (by omega) (by omega)).mp q; omega)]
    refine Ev.bind (thx_day hT hN) (fun _ N2 q2 => ?_)
    refine Ev.gd hin (Ev.gd (inb_nI (by omega) (by decide)) ?_)
    rw [nI_clamp (show c < 2 ^ 31 by omega), nI_clamp (show j < 2 ^ 31 by omega), q2.T hc, q2.1 14 s (by simp [keptK]), shX_i (s := s) (M := M) (show j < 40 by omega)]
    refine Ev.ite (fun e => ?_) (fun e => Ev.ret ⟨?_, q2.1⟩)
    · rw [nI_1]
      exact hk _ N2 ⟨rfl, fstI_miss hf (by simp [foP, daysS, e]), q2⟩
    · exact (fstI_hit hf (by simp [foP, daysS, e]) hj (by omega)).symm
  · rintro k x N ⟨rfl, hf, hN⟩
    show Ev (fX10_firstOtherwise_B2 s (nI c) k (nI n) N) _
    unfold fX10_firstOtherwise_B2
    have e13 : N 13 s 2 = nI n := by rw [hN.1 13 s (by simp [keptK])]; exact en
    rw [e13, if_pos ((nI_leI (by omega) (by omega)).mpr (Nat.le_refl _))]
    exact Ev.ret ⟨hf.symm, hN.1⟩
theorem unM_ev {T s c n : Nat} {M : Mem} (hT : Txt T M) (hI : InM T M) (hs : s < 4) (hc : c < 36) (hn : n ≤ 40) (en : (shM s M).2.1 = nI n) : Ev (fX11_unlike (nI s) (nI c) M) (fun r M1 => r = fstI (foP (svX M) (vwM M) (shM s M).2.2 c) n ∧ Lk M M1) := by
  have hin : inb (nI c) 36 = true := inb_nI hc (by decide)
  have is4 : inb (nI s) 4 = true := inb_nI hs (by decide)
  have cs := nI_clamp (show s < 2 ^ 31 by omega)
  unfold fX11_unlike
  refine Ev.bind (thm_keep hI) (fun _ N1 q1 => ?_)
  have done : ∀ (a : Int32) (j : Nat) (N : Mem), a = fstI (foP (svX M) (vwM M) (shM s M).2.2 c) n → ThM T M N (daysS (svX M) skN j (vwM M)) → Ev (fX11_unlike_J64 a N) (fun r M1 => r = fstI (foP (svX M) (vwM M) (shM s M).2.2 c) n ∧ Lk M M1) := by
    intro a j N ha hN
    unfold fX11_unlike_J64
    exact Ev.bind (thm_lays hN) (fun _ M2 q4 => Ev.ret ⟨ha, q4⟩)
  have hpd : ∀ j, foP (svX M) (vwM M) (shM s M).2.2 c j = decide (¬ rT (daysS (svX M) skN (j + 1) (vwM M)) c = (shM s M).2.2 j) := fun j => rfl
  generalize foP (svX M) (vwM M) (shM s M).2.2 c = P at done hpd
  refine Ev.loop (f := fun m (x : Int32 × Int32) M => fX11_unlike_L9 (nI s) (nI c) m x.1 x.2 M) (B := fun k x M => fX11_unlike_B9 (nI s) (nI c) (fun a b M => k (a, b) M) x.1 x.2 M) (fun _ _ _ => rfl) n
    (fun j x N => x = (fstI P j, nI j) ∧ ThM T M N (daysS (svX M) skN j (vwM M))) ?_ ?_ FU 0 (-1, nI 0) N1 (Nat.zero_le _) (by show _ < 2000 + 0; omega) ⟨rfl, q1⟩
  · rintro k j x N hj ⟨rfl, hN⟩ hk
    show Ev (fX11_unlike_B9 (nI s) (nI c) (fun a b M => k (a, b) M) (fstI P j) (nI j) N) _
    unfold fX11_unlike_B9
    have e34 : N 34 0 s = nI n := by rw [hN.q (by simp [keptK]) (by decide) (by decide)]; exact en
    rw [cs, e34, if_neg (fun q => by have := (nI_leI (by omega) (by omega)).mp q; omega)]
    refine Ev.gd is4 (Ev.ite (fun hf => ?_) (fun hf => done _ j N (fstI_stay hf n (by omega)).symm hN))
    refine Ev.bind (thm_day hT hN skN_ok) (fun _ N2 q2 => ?_)
    rw [show (40 : Int32) * nI s + nI j = nI (40 * s + j) by rw [show (40 : Int32) = nI 40 from rfl, nI_mulB, nI_add], nI_clamp (show 40 * s + j < 2 ^ 31 by omega), nI_clamp (show c < 2 ^ 31 by omega), q2.T hc, q2.q (show keptK 35 0 by simp [keptK]) (by decide) (by decide), shM_i (s := s) (M := M) (show j < 40 by omega), nI_1]
    refine Ev.gd (inb_nI (by omega) (by decide)) (Ev.gd hin ?_)
    refine Ev.ite (fun e => ?_) (fun e => ?_)
    · exact hk _ N2 ⟨by rw [fstI_miss hf (by rw [hpd]; simp [daysS, e])], q2⟩
    · exact hk _ N2 ⟨by rw [fstI_new hf (by rw [hpd]; exact decide_eq_true (fun q => e (Eq.symm q)))], q2⟩
  · rintro k x N ⟨rfl, hN⟩
    show Ev (fX11_unlike_B9 (nI s) (nI c) (fun a b M => k (a, b) M) (fstI P n) (nI n) N) _
    unfold fX11_unlike_B9
    have e34 : N 34 0 s = nI n := by rw [hN.q (by simp [keptK]) (by decide) (by decide)]; exact en
    rw [cs, e34, if_pos ((nI_leI (by omega) (by omega)).mpr (Nat.le_refl _))]
    exact Ev.gd is4 (done _ n N rfl hN)
def rtS (v w : Int32) (V : Nat → Sh) : Int32 := if bt (decide (0 ≤ v) && decide (v ≤ 3)) = 0 then -2 else if (V v.toNatClampNeg).1 = -1 then -11 else if (V v.toNatClampNeg).2.1 ≤ 20 then (if bt (decide (0 ≤ w) && decide (w ≤ 35)) = 0 then -5 else 0) else -2
theorem rtS_0 {v w : Int32} {V : Nat → Sh} (h : rtS v w V = 0) (hok : ∀ s, s < 4 → okSh (V s)) : ∃ s c n, v = nI s ∧ s < 4 ∧ w = nI c ∧ c < 36 ∧ n ≤ 20 ∧ (V s).2.1 = nI n := by
  unfold rtS at h
  split at h
  · exact absurd h (by decide)
  · rename_i h0
    split at h
    · exact absurd h (by decide)
    · split at h
      · rename_i h2
        split at h
        · exact absurd h (by decide)
        · rename_i h3
          obtain ⟨s, hs, rfl⟩ := rng (n := 3) (by decide) (not_bt h0)
          obtain ⟨c, hc, rfl⟩ := rng (n := 35) (by decide) (not_bt h3)
          rw [nI_clamp (show s < 2 ^ 31 by omega)] at h2
          obtain ⟨n, hn, e⟩ := (hok s (by omega)).2
          rw [e] at h2
          exact ⟨s, c, n, rfl, by omega, rfl, by omega, (nI_leI (b := 20) (by omega) (by omega)).mp h2, e⟩
      · exact absurd h (by decide)
theorem rtX_ev (v w : Int32) (M : Mem) : fX10_refuseTale v w M = some (rtS v w (fun s => shX s M), M) := by
  unfold fX10_refuseTale rtS
  rw [sheetX_is, ob_some]
  by_cases h0 : bt (decide (0 ≤ v) && decide (v ≤ 3)) = 0
  · rw [if_pos h0, if_pos h0]
  · rw [if_neg h0, if_neg h0]
    obtain ⟨s, hs, rfl⟩ := rng (n := 3) (by decide) (not_bt h0)
    rw [inb_nI (show s < 4 by omega) (by decide), nI_clamp (show s < 2 ^ 31 by omega)]
    show (if (shX s M).1 = -1 then _ else _) = _
    by_cases h1 : (shX s M).1 = -1
    · rw [if_pos h1, if_pos h1]
    · rw [if_neg h1, if_neg h1]
      show (if (shX s M).2.1 ≤ 20 then _ else _) = _
      by_cases h2 : (shX s M).2.1 ≤ 20
      · rw [if_pos h2, if_pos h2, cellX_ev, ob_some]
        by_cases h3 : bt (decide (0 ≤ w) && decide (w ≤ 35)) = 0
        · rw [if_pos h3, if_pos h3]
        · rw [if_neg h3, if_neg h3]
      · rw [if_neg h2, if_neg h2]
theorem rtM_ev (v w : Int32) (M : Mem) : fX11_toldWrong v w M = some (rtS v w (fun s => shM s M), M) := by
  unfold fX11_toldWrong rtS
  rw [in_ev, ob_some]
  by_cases h0 : bt (decide (0 ≤ v) && decide (v ≤ 3)) = 0
  · rw [if_pos h0, if_pos h0]
  · rw [if_neg h0, if_neg h0]
    obtain ⟨s, hs, rfl⟩ := rng (n := 3) (by decide) (not_bt h0)
    rw [inb_nI (show s < 4 by omega) (by decide), nI_clamp (show s < 2 ^ 31 by omega)]
    show (if (shM s M).1 = -1 then _ else _) = _
    by_cases h1 : (shM s M).1 = -1
    · rw [if_pos h1, if_pos h1]
    · rw [if_neg h1, if_neg h1]
      show (if (shM s M).2.1 ≤ 20 then _ else _) = _
      by_cases h2 : (shM s M).2.1 ≤ 20
      · rw [if_pos h2, if_pos h2, cellM_ev, ob_some]
        by_cases h3 : bt (decide (0 ≤ w) && decide (w ≤ 35)) = 0
        · rw [if_pos h3, if_pos h3]
        · rw [if_neg h3, if_neg h3]
      · rw [if_neg h2, if_neg h2]
theorem rtS_eq {T : Nat} {M : Mem} (h : RelT T M) (v w : Int32) : rtS v w (fun s => shM s M) = rtS v w (fun s => shX s M) := by
  unfold rtS
  by_cases h0 : bt (decide (0 ≤ v) && decide (v ≤ 3)) = 0
  · rw [if_pos h0, if_pos h0]
  · rw [if_neg h0, if_neg h0]
    obtain ⟨s, hs, rfl⟩ := rng (n := 3) (by decide) (not_bt h0)
    rw [nI_clamp (show s < 2 ^ 31 by omega)]
    have e := (h.2.2.2.2.2.2.2.2.1.eq (s := s) (by omega)).1
    simp only [e]
theorem Kp.sh {M M1 : Mem} (h : Kp M M1) (s : Nat) : shX s M1 = shX s M := shX_eq (h _ _ (by simp [keptK])) (h _ _ (by simp [keptK]))
theorem RelT.ok {T : Nat} {M : Mem} (h : RelT T M) : ∀ s, s < 4 → okSh (shX s M) := fun s hs => (h.2.2.2.2.2.2.2.2.1.eq (s := s) hs).2
/-- judge -/
def judgeS (v w : Int32) (M : Mem) : Int32 := if rtS v w (fun s => shX s M) = 0 then fstI (foP (svX M) (vwX 0 M) (shX v.toNatClampNeg M).2.2 w.toNatClampNeg) (shX v.toNatClampNeg M).2.1.toNatClampNeg else rtS v w (fun s => shX s M)
theorem judge_same (v w : Int32) : Same (fX10_judge v w) (fX11_judge v w) := by
  refine Same.ask (judgeS v w) (fun M M1 h => ?_) (fun T M h => ?_) (fun T M h => ?_)
  · have e : (fun s => shX s M1) = (fun s => shX s M) := funext fun s => h.sh s
    unfold judgeS
    rw [e, h.sv, h.vX, h.sh]
  · unfold fX10_judge judgeS
    rw [rtX_ev, ob_some]
    refine Ev.ite (fun h0 => ?_) (fun h0 => Ev.ret ⟨by rw [if_neg h0], Kp.rf⟩)
    rw [if_pos h0]
    obtain ⟨s, c, n, rfl, hs, rfl, hc, hn, en⟩ := rtS_0 h0 h.ok
    rw [nI_clamp (show s < 2 ^ 31 by omega), nI_clamp (show c < 2 ^ 31 by omega), en, nI_clamp (show n < 2 ^ 31 by omega)]
    refine Ev.bind (thx_take h.2.2.2.1 Kp.rf) (fun _ N1 q1 => Ev.gd (inb_nI hs (by decide)) ?_)
    exact Ev.bind (foX_ev h.1 q1 hc (by omega) en) (fun r N2 q2 => Ev.ret q2)
  · unfold fX11_judge judgeS
    rw [rtM_ev, ob_some, rtS_eq h]
    refine Ev.ite (fun h0 => ?_) (fun h0 => Ev.ret ⟨by rw [if_neg h0], Lk.rf⟩)
    rw [if_pos h0]
    obtain ⟨s, c, n, rfl, hs, rfl, hc, hn, en⟩ := rtS_0 h0 h.ok
    have e := (h.2.2.2.2.2.2.2.2.1.eq (s := s) hs).1
    rw [nI_clamp (show s < 2 ^ 31 by omega), nI_clamp (show c < 2 ^ 31 by omega), en, nI_clamp (show n < 2 ^ 31 by omega)]
    refine Ev.bind (unM_ev (n := n) h.1 h.2.2.2.2.1 hs hc (by omega) (by rw [← e]; exact en)) (fun r N2 q2 => Ev.ret ⟨?_, q2.2⟩)
    rw [q2.1, e, h.2.2.2.2.2.1]
end TD
