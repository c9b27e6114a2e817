/-! odds -/
section OD
def cntN (P : Nat → Bool) : Nat → Nat
  | 0 => 0
  | n + 1 => cntN P n + (if P n = true then 1 else 0)
theorem cntN_le {P : Nat → Bool} : ∀ n, cntN P n ≤ n := by
  intro n
  induction n with
  | zero => exact Nat.le_refl _
  | succ n ih =>
    show cntN P n + (if P n = true then 1 else 0) ≤ n + 1
    split <;> omega
def oddsP (M : Mem) (x p cs : Nat) (least : Int32) : Nat → Bool := fun i => decide (¬ (wnS (svX M) (vwX 0 M) p (cs / 100) (x / 100 + i) (cs % 100)).1 < least)
def oddsS (v p cs least part : Int32) (M : Mem) : Int64 := if bt (decide (0 ≤ v) && decide (v ≤ 9999999)) = 0 then -4611686018427387904 else if bt (decide (1 ≤ irem v 100) && decide (irem v 100 ≤ 40)) = 0 then -4611686018427387904 else if hasS p (vwX 0 M) = 0 then -4611686018427387904 else if bt (decide (0 ≤ cs) && decide (cs ≤ 3599)) = 0 then -4611686018427387904 else if bt (decide (0 ≤ least) && decide (least ≤ 99999)) = 0 then -4611686018427387904 else if bt (decide (0 ≤ part) && decide (part ≤ 1)) = 0 then -4611686018427387904 else lowS (cntN (oddsP M v.toNatClampNeg p.toNatClampNeg cs.toNatClampNeg least) (v.toNatClampNeg % 100)) (v.toNatClampNeg % 100) part
theorem odds_rng {x : Nat} (hx : x ≤ 9999999) (h : 1 ≤ nI (x % 100) ∧ nI (x % 100) ≤ 40) : 1 ≤ x % 100 ∧ x % 100 ≤ 40 := ⟨(nI_leI (a := 1) (by omega) (by omega)).mp h.1, (nI_leI (b := 40) (by omega) (by omega)).mp h.2⟩
theorem oddsX_ev {T : Nat} {M : Mem} (h : RelT T M) (v p cs least part : Int32) : Ev (fX10_odds v p cs least part M) (fun r M1 => r = oddsS v p cs least part M ∧ Kp M M1) := by
  have hX := h.2.2.2.1
  unfold fX10_odds oddsS
  rw [within_ev, ob_some]
  refine Ev.ite (fun h0 => Ev.ret ⟨by rw [if_pos h0], Kp.rf⟩) (fun h0 => ?_)
  rw [if_neg h0, within_ev, ob_some]
  refine Ev.ite (fun h1 => Ev.ret ⟨by rw [if_pos h1], Kp.rf⟩) (fun h1 => ?_)
  rw [if_neg h1, hasX_ev 0 p hX, ob_some]
  refine Ev.ite (fun h2 => Ev.ret ⟨by rw [if_pos (show hasS p (vwX 0 M) = 0 from h2)], Kp.rf⟩) (fun h2 => ?_)
  rw [if_neg (show ¬ hasS p (vwX 0 M) = 0 from h2), within_ev, ob_some]
  refine Ev.ite (fun h3 => Ev.ret ⟨by rw [if_pos h3], Kp.rf⟩) (fun h3 => ?_)
  rw [if_neg h3, within_ev, ob_some]
  refine Ev.ite (fun h4 => Ev.ret ⟨by rw [if_pos h4], Kp.rf⟩) (fun h4 => ?_)
  rw [if_neg h4, within_ev, ob_some]
  refine Ev.ite (fun h5 => Ev.ret ⟨by rw [if_pos h5], Kp.rf⟩) (fun h5 => ?_)
  rw [if_neg h5]
  obtain ⟨x, hx, rfl⟩ := rng (n := 9999999) (by decide) (not_bt h0)
  have eir : irem (nI x) 100 = nI (x % 100) := irem_gen (d := 100) (by omega) (by omega) (by omega)
  have eid : nI x / 100 = nI (x / 100) := pk_div (d := 100) (by omega) (by omega) (by omega)
  rw [eir] at h1
  obtain ⟨l1, l2⟩ := odds_rng hx (not_bt h1)
  obtain ⟨q, hq, rfl⟩ := has_rng hX.2.2.2.1 h2
  obtain ⟨c, hc, rfl⟩ := rng (n := 3599) (by decide) (not_bt h3)
  have hq6 : q < 6 := Nat.lt_of_lt_of_le hq hX.2.2.2.1.1
  obtain ⟨c1, c2, c3, c4⟩ := cs_ev hc
  rw [nI_clamp (show x < 2 ^ 31 by omega), nI_clamp (show q < 2 ^ 31 by omega), nI_clamp (show c < 2 ^ 31 by omega), eir]
  have hP : ∀ i, oddsP M x q c least i = decide (¬ (wnS (svX M) (vwX 0 M) q (c / 100) (x / 100 + i) (c % 100)).1 < least) := fun _ => rfl
  generalize oddsP M x q c least = P at hP
  refine Ev.letv ?_
  refine Ev.loop (f := fun m (z : Int32 × Int32) M => fX10_odds_L82 (nI x) (nI q) (nI c) least part (nI (x % 100)) m z.1 z.2 M) (B := fun k z M => fX10_odds_B82 (nI x) (nI q) (nI c) least part (nI (x % 100)) (fun u v M => k (u, v) M) z.1 z.2 M) (fun _ _ _ => rfl) (x % 100)
    (fun j z N => z = (nI (cntN P j), nI j) ∧ Kp M N) ?_ ?_ FU 0 (0, nI 0) M (Nat.zero_le _) (by show _ < 2000 + 0; omega) ⟨rfl, Kp.rf⟩
  · rintro k j z N hj ⟨rfl, hN⟩ hk
    show Ev (fX10_odds_B82 (nI x) (nI q) (nI c) least part (nI (x % 100)) (fun u v M => k (u, v) M) (nI (cntN P j)) (nI j) N) _
    unfold fX10_odds_B82
    rw [if_neg (fun q => by have := (nI_leI (by omega) (by omega)).mp q; omega), c1, c2, eid, nI_add, nI_1, nI_1]
    refine Ev.bind (thx_take hX hN) (fun _ N1 q1 => Ev.bind (wanX_ev h.1 q1 hq c3 (by omega) c4) (fun r N2 q2 => ?_))
    have hs : cntN P (j + 1) = cntN P j + (if P j = true then 1 else 0) := rfl
    refine Ev.ite (fun e => ?_) (fun e => ?_)
    · refine hk _ N2 ⟨?_, q2.2.2⟩
      rw [hs, if_neg (by rw [hP, ← q2.1]; simp [e])]
      rfl
    · refine hk _ N2 ⟨?_, q2.2.2⟩
      rw [hs, if_pos (by rw [hP, ← q2.1]; exact decide_eq_true e)]
  · rintro k z N ⟨rfl, hN⟩
    show Ev (fX10_odds_B82 (nI x) (nI q) (nI c) least part (nI (x % 100)) (fun u v M => k (u, v) M) (nI (cntN P (x % 100))) (nI (x % 100)) N) _
    unfold fX10_odds_B82
    rw [if_pos (Int32.le_refl _)]
    have := cntN_le (P := P) (x % 100)
    exact Ev.bind (lowX_ev (by omega) (by omega) (by omega)) (fun r N2 q2 => Ev.ret ⟨q2.1, by rw [q2.2]; exact hN⟩)
theorem oddsM_ev {T : Nat} {M : Mem} (h : RelT T M) (v p cs least part : Int32) : Ev (fX11_odds v p cs least part M) (fun r M1 => r = oddsS v p cs least part M ∧ Lk M M1) := by
  have hI := h.2.2.2.2.1
  have hv : vwX 0 M = vwM M := h.2.2.2.2.2.1
  unfold fX11_odds fX11_odds_J36 fX11_odds_J37 oddsS
  rw [in_ev, ob_some]
  refine Ev.ite (fun h0 => by rw [if_pos rfl]; exact Ev.ret ⟨by rw [if_pos h0], Lk.rf⟩) (fun h0 => ?_)
  rw [if_neg h0, in_ev, ob_some]
  refine Ev.ite (fun h1 => by rw [if_pos rfl]; exact Ev.ret ⟨by rw [if_pos h1], Lk.rf⟩) (fun h1 => ?_)
  rw [if_neg h1, oneM_ev p hI, ob_some, hv]
  refine Ev.ite (fun h2 => by rw [if_pos rfl]; exact Ev.ret ⟨by rw [if_pos (show hasS p (vwM M) = 0 from h2)], Lk.rf⟩) (fun h2 => ?_)
  rw [if_neg (show ¬ hasS p (vwM M) = 0 from h2), if_neg (show ¬ (1 : Int32) = 0 by decide), in_ev, ob_some]
  refine Ev.ite (fun h3 => Ev.ret ⟨by rw [if_pos h3], Lk.rf⟩) (fun h3 => ?_)
  rw [if_neg h3, in_ev, ob_some]
  refine Ev.ite (fun h4 => Ev.ret ⟨by rw [if_pos h4], Lk.rf⟩) (fun h4 => ?_)
  rw [if_neg h4, in_ev, ob_some]
  refine Ev.ite (fun h5 => Ev.ret ⟨by rw [if_pos h5], Lk.rf⟩) (fun h5 => ?_)
  rw [if_neg h5]
  obtain ⟨x, hx, rfl⟩ := rng (n := 9999999) (by decide) (not_bt h0)
  have eir : irem (nI x) 100 = nI (x % 100) := irem_gen (d := 100) (by omega) (by omega) (by omega)
  have eid : nI x / 100 = nI (x / 100) := pk_div (d := 100) (by omega) (by omega) (by omega)
  rw [eir] at h1
  obtain ⟨l1, l2⟩ := odds_rng hx (not_bt h1)
  obtain ⟨q, hq, rfl⟩ := has_rng hI.2.2.2.1 h2
  obtain ⟨c, hc, rfl⟩ := rng (n := 3599) (by decide) (not_bt h3)
  obtain ⟨y, hy, rfl⟩ := rng (n := 1) (by decide) (not_bt h5)
  have hq6 : q < 6 := Nat.lt_of_lt_of_le hq hI.2.2.2.1.1
  rw [nI_clamp (show x < 2 ^ 31 by omega), nI_clamp (show q < 2 ^ 31 by omega), nI_clamp (show c < 2 ^ 31 by omega)]
  have hP : ∀ i, oddsP M x q c least i = decide (¬ (wnS (svX M) (vwM M) q (c / 100) (x / 100 + i) (c % 100)).1 < least) := fun _ => by rw [← hv]; rfl
  generalize oddsP M x q c least = P at hP
  refine Ev.loop (f := fun m (z : Int64 × Int32) M => fX11_odds_L87 (nI x) (nI q) (nI c) least (nI y) m z.1 z.2 M) (B := fun k z M => fX11_odds_B87 (nI x) (nI q) (nI c) least (nI y) (fun u v M => k (u, v) M) z.1 z.2 M) (fun _ _ _ => rfl) (x % 100)
    (fun j z N => z = (lN (cntN P j), nI j) ∧ Lk M N) ?_ ?_ FU 0 (0, nI 0) M (Nat.zero_le _) (by show _ < 2000 + 0; omega) ⟨rfl, Lk.rf⟩
  · rintro k j z N hj ⟨rfl, hN⟩ hk
    show Ev (fX11_odds_B87 (nI x) (nI q) (nI c) least (nI y) (fun u v M => k (u, v) M) (lN (cntN P j)) (nI j) N) _
    unfold fX11_odds_B87
    rw [eir, if_neg (fun q => by have := (nI_leI (by omega) (by omega)).mp q; omega), eid, nI_add]
    refine Ev.bind (callsM_ev (hN.txt h.1) (hN.inM hI) (by rw [hN.vM]; exact hq) hc (by omega)) (fun _ N2 q2 => ?_)
    rw [hN.sv, hN.vM] at q2
    have hs : cntN P (j + 1) = cntN P j + (if P j = true then 1 else 0) := rfl
    refine Ev.ite (fun e => Ev.letv ?_) (fun e => Ev.letv ?_)
    · rw [nI_1]
      refine hk _ N2 ⟨?_, hN.tr q2.2.2⟩
      rw [hs, if_neg (by rw [hP, ← q2.1]; simp [e])]
      simp
    · rw [nI_1, lN_1]
      refine hk _ N2 ⟨?_, hN.tr q2.2.2⟩
      rw [hs, if_pos (by rw [hP, ← q2.1]; exact decide_eq_true e)]
  · rintro k z N ⟨rfl, hN⟩
    show Ev (fX11_odds_B87 (nI x) (nI q) (nI c) least (nI y) (fun u v M => k (u, v) M) (lN (cntN P (x % 100))) (nI (x % 100)) N) _
    unfold fX11_odds_B87
    rw [eir, if_pos (Int32.le_refl _), nI_l (show x % 100 < 2 ^ 31 by omega)]
    have := cntN_le (P := P) (x % 100)
    exact Ev.bind (lowM_ev (by omega) (by omega) (by omega) (by omega)) (fun r N2 q2 => Ev.ret ⟨q2.1, by rw [q2.2]; exact hN⟩)
theorem odds_same (v p cs least part : Int32) : SameL (fX10_odds v p cs least part) (fX11_odds v p cs least part) :=
  SameL.ask (oddsS v p cs least part) (fun M M1 h => by
    have e : ∀ x p cs l, oddsP M1 x p cs l = oddsP M x p cs l := fun x p cs l => by unfold oddsP; rw [h.sv, h.vX]
    unfold oddsS
    rw [h.vX, e]) (fun _ _ h => oddsX_ev h v p cs least part) (fun _ _ h => oddsM_ev h v p cs least part)
end OD
/-! share -/
section SR
theorem sumT_nat {R : Rm} (h : okT R) (lo : Nat) : ∀ n, ∃ a, a ≤ 999 * n ∧ sumT (rT R) lo n = nI a := by
  intro n
  induction n with
  | zero => exact ⟨0, Nat.le_refl _, rfl⟩
  | succ n ih =>
    obtain ⟨a, h1, h2⟩ := ih
    obtain ⟨t, h3, h4⟩ := h (lo + n)
    refine ⟨a + t, by omega, ?_⟩
    show sumT (rT R) lo n + rT R (lo + n) = nI (a + t)
    rw [h2, h4, nI_add]
def shareS (v w : Int32) (R : Rm) : Int64 := if bt (decide (0 ≤ v) && decide (v ≤ 5)) = 0 then -4611686018427387904 else if bt (decide (0 ≤ w) && decide (w ≤ 1)) = 0 then -4611686018427387904 else if sumT (rT R) 0 36 = 0 then -4611686018427387904 else lowS (sumT (rT R) (v.toNatClampNeg * 6) 6).toNatClampNeg (sumT (rT R) 0 36).toNatClampNeg w
theorem shareX_ev {T : Nat} {M : Mem} (h : RelT T M) (v w : Int32) : Ev (fX10_share v w M) (fun r M1 => r = shareS v w (vwX 0 M) ∧ Kp M M1) := by
  have hT := h.2.2.2.1.2.2.2.2
  unfold fX10_share shareS
  refine Ev.bind (total_ev (r := 0) (lo := 0) (hi := 36) (by omega) (by omega)) (fun a M1 q => ?_)
  obtain ⟨q3, rfl⟩ := q
  have ha : a = sumT (rT (vwX 0 M1)) 0 36 := q3
  rw [within_ev, ob_some]
  refine Ev.ite (fun h0 => Ev.ret ⟨by rw [if_pos h0], Kp.rf⟩) (fun h0 => ?_)
  rw [if_neg h0, within_ev, ob_some]
  refine Ev.ite (fun h1 => Ev.ret ⟨by rw [if_pos h1], Kp.rf⟩) (fun h1 => ?_)
  rw [if_neg h1, ← ha]
  refine Ev.ite (fun h2 => Ev.ret ⟨by rw [if_pos h2], Kp.rf⟩) (fun h2 => ?_)
  rw [if_neg h2]
  obtain ⟨r, hr, rfl⟩ := rng (n := 5) (by decide) (not_bt h0)
  obtain ⟨b, hb, eb⟩ := sumT_nat hT 0 36
  obtain ⟨d, hd, ed⟩ := sumT_nat hT (r * 6) 6
  rw [← ha] at eb
  rw [nI_clamp (show r < 2 ^ 31 by omega), ed, nI_clamp (show d < 2 ^ 31 by omega), eb, nI_clamp (show b < 2 ^ 31 by omega), show nI r * 6 = nI (r * 6) from nI_mulB r 6, show nI (r * 6) + 6 = nI (r * 6 + 6) from nI_add _ 6]
  refine Ev.bind (total_ev (r := 0) (by omega) (by omega)) (fun a2 M2 q => ?_)
  obtain ⟨q4, rfl⟩ := q
  rw [show r * 6 + 6 - r * 6 = 6 by omega, ed] at q4
  rw [q4]
  have hb0 : 0 < b := by
    by_cases e : b = 0
    · rw [e] at eb
      exact absurd (eb.trans rfl) h2
    · omega
  exact Ev.bind (lowX_ev (by omega) (by omega) hb0) (fun r N2 q2 => Ev.ret ⟨q2.1, by rw [q2.2]; exact Kp.rf⟩)
theorem shareM_ev {T : Nat} {M : Mem} (h : RelT T M) (v w : Int32) : Ev (fX11_share v w M) (fun r M1 => r = shareS v w (vwX 0 M) ∧ Lk M M1) := by
  have hv : vwX 0 M = vwM M := h.2.2.2.2.2.1
  have hT := h.2.2.2.2.1.2.2.2.2
  rw [hv]
  unfold fX11_share shareS
  refine Ev.bind allOf_ev (fun a M1 q => ?_)
  obtain ⟨ha, rfl⟩ := q
  rw [in_ev, ob_some]
  refine Ev.ite (fun h0 => Ev.ret ⟨by rw [if_pos h0], Lk.rf⟩) (fun h0 => ?_)
  rw [if_neg h0, in_ev, ob_some]
  refine Ev.ite (fun h1 => Ev.ret ⟨by rw [if_pos h1], Lk.rf⟩) (fun h1 => ?_)
  rw [if_neg h1, ← ha]
  refine Ev.ite (fun h2 => Ev.ret ⟨by rw [if_pos h2], Lk.rf⟩) (fun h2 => ?_)
  rw [if_neg h2]
  obtain ⟨r, hr, rfl⟩ := rng (n := 5) (by decide) (not_bt h0)
  obtain ⟨y, hy, rfl⟩ := rng (n := 1) (by decide) (not_bt h1)
  obtain ⟨b, hb, eb⟩ := sumT_nat hT 0 36
  obtain ⟨d, hd, ed⟩ := sumT_nat hT (r * 6) 6
  rw [← ha] at eb
  have hb0 : 0 < b := by
    by_cases e : b = 0
    · rw [e] at eb
      exact absurd (eb.trans rfl) h2
    · omega
  rw [nI_clamp (show r < 2 ^ 31 by omega), ed, nI_clamp (show d < 2 ^ 31 by omega), eb, nI_clamp (show b < 2 ^ 31 by omega)]
  refine Ev.loop (f := fun m (z : Int32 × Int32) M => fX11_share_L37 (nI r) (nI y) (nI b) m z.1 z.2 M) (B := fun k z M => fX11_share_B37 (nI r) (nI y) (nI b) (fun u v M => k (u, v) M) z.1 z.2 M) (fun _ _ _ => rfl) 6
    (fun j z N => z = (sumT (rT (vwM M1)) (r * 6) j, nI j) ∧ N = M1) ?_ ?_ FU 0 (0, nI 0) M1 (Nat.zero_le _) (by show _ < 2000 + 0; omega) ⟨rfl, rfl⟩
  · rintro k j z N hj ⟨rfl, rfl⟩ hk
    show Ev (fX11_share_B37 (nI r) (nI y) (nI b) (fun u v M => k (u, v) M) (sumT (rT (vwM N)) (r * 6) j) (nI j) N) _
    unfold fX11_share_B37
    rw [if_neg (fun q => by have := (nI_leI (a := 6) (by omega) (by omega)).mp q; omega), show (6 : Int32) * nI r + nI j = nI (r * 6 + j) by rw [show (6 : Int32) = nI 6 from rfl, nI_mulB, nI_add, Nat.mul_comm], nI_clamp (show r * 6 + j < 2 ^ 31 by omega), vwM_T (M := N) (show r * 6 + j < 36 by omega)]
    refine Ev.gd (inb_nI (by omega) (by decide)) (Ev.letv ?_)
    rw [nI_1]
    exact hk _ N ⟨rfl, rfl⟩
  · rintro k z N ⟨rfl, rfl⟩
    show Ev (fX11_share_B37 (nI r) (nI y) (nI b) (fun u v M => k (u, v) M) (sumT (rT (vwM N)) (r * 6) 6) (nI 6) N) _
    unfold fX11_share_B37
    rw [if_pos (by decide), ed, nI_l (show d < 2 ^ 31 by omega), nI_l (show b < 2 ^ 31 by omega)]
    exact Ev.bind (lowM_ev (by omega) (by omega) hb0 (by omega)) (fun r N2 q2 => Ev.ret ⟨q2.1, by rw [q2.2]; exact Lk.rf⟩)
theorem share_same (v w : Int32) : SameL (fX10_share v w) (fX11_share v w) :=
  SameL.ask (fun M => shareS v w (vwX 0 M)) (fun M M1 h => by rw [h.vX]) (fun _ _ h => shareX_ev h v w) (fun _ _ h => shareM_ev h v w)
end SR
