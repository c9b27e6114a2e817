/-! kinds, holds, laws -/
section KH
theorem mst_noop {N : Mem} {K q : Nat} {v : Int32} (h : N K 0 q = v) : mst N K 0 q v = N := by rw [← h, mst_id]
def kindsS (v w p so : Int32) (M : Mem) : Int32 := if rtoS v w p (fun s => shX s M) (vwX 0 M) = 0 then (if bt (decide (0 ≤ so) && decide (so ≤ 1)) = 0 then -7 else if so = 0 then bitsI (fitP M v.toNatClampNeg w.toNatClampNeg p.toNatClampNeg 2) 6 else bitsI (fitP M v.toNatClampNeg w.toNatClampNeg p.toNatClampNeg 3) 10) else rtoS v w p (fun s => shX s M) (vwX 0 M)
theorem kindsX_ev {T : Nat} {M : Mem} (h : RelT T M) (v w p so : Int32) : Ev (fX10_kinds v w p so M) (fun r M1 => r = kindsS v w p so M ∧ Kp M M1) := by
  unfold fX10_kinds kindsS
  rw [rtoX_ev h, ob_some]
  refine Ev.ite (fun h0 => ?_) (fun h0 => Ev.ret ⟨by rw [if_neg h0], Kp.rf⟩)
  rw [if_pos h0, within_ev, ob_some]
  refine Ev.ite (fun h1 => Ev.ret ⟨by rw [if_pos h1], Kp.rf⟩) (fun h1 => ?_)
  rw [if_neg h1]
  obtain ⟨g1, g2⟩ := rtoS_0 h0
  obtain ⟨s, c, n, rfl, hs, rfl, hc, hn, en⟩ := rtS_0 g1 h.ok
  obtain ⟨q, hq, rfl⟩ := has_rng h.2.2.2.1.2.2.2.1 g2
  have hq6 : q < 6 := Nat.lt_of_lt_of_le hq h.2.2.2.1.2.2.2.1.1
  rw [nI_clamp (show s < 2 ^ 31 by omega), nI_clamp (show c < 2 ^ 31 by omega), nI_clamp (show q < 2 ^ 31 by omega)]
  refine Ev.ite (fun h2 => ?_) (fun h2 => ?_)
  · rw [if_pos h2]
    exact Ev.bind (fitX_ev (t := 2) (m := 6) (n := n) h hs hc (by omega) en hq (by omega) (by decide)) (fun r M1 z => Ev.ret ⟨by rw [z.1, bitsL_I 6 (by omega)], z.2⟩)
  · rw [if_neg h2]
    exact Ev.bind (fitX_ev (t := 3) (m := 10) (n := n) h hs hc (by omega) en hq (by omega) (by decide)) (fun r M1 z => Ev.ret ⟨by rw [z.1, bitsL_I 10 (by omega)], z.2⟩)
/-- the reference's loop, by the place that is tried -/
theorem kindsM_core {T s c n q t m : Nat} {so : Int32} {M : Mem} (h : RelT T M) (hs : s < 4) (hc : c < 36) (hn : n ≤ 20) (en : (shX s M).2.1 = nI n) (hq : q < rN (vwM M)) (hso : (so = 0 ∧ t = 2 ∧ m = 6) ∨ (so = 1 ∧ t = 3 ∧ m = 10)) : Ev (fX11_kinds_L62 (nI s) (nI c) (nI q) so (M 23 0 q) (M 24 0 q) FU 0 0 M) (fun r M1 => r = bitsI (fitP M s c q t) m ∧ Lk M M1) := by
  have hI := h.2.2.2.2.1
  have hv : vwX 0 M = vwM M := h.2.2.2.2.2.1
  have hq6 : q < 6 := Nat.lt_of_lt_of_le hq hI.2.2.2.1.1
  have iq : inb (nI q) 6 = true := inb_nI hq6 (by decide)
  have cq := nI_clamp (show q < 2 ^ 31 by omega)
  have esh := (h.2.2.2.2.2.2.2.2.1.eq (s := s) hs).1
  have ht : t < 4 := by omega
  have hm : m ≤ bnd t ∧ m ≤ 10 := by rcases hso with ⟨-, rfl, rfl⟩ | ⟨-, rfl, rfl⟩ <;> decide
  have hf : ∀ x, fitP M s c q t x = decide (fstI (foP (svX M) (setA (vwM M) t q (nI x)) (shM s M).2.2 c) n = -1) := fun x => by
    unfold fitP
    rw [en, nI_clamp (show n < 2 ^ 31 by omega), hv, esh]
  generalize fitP M s c q t = P at hf
  refine Ev.loop (f := fun k (x : Int32 × Int32) N => fX11_kinds_L62 (nI s) (nI c) (nI q) so (M 23 0 q) (M 24 0 q) k x.1 x.2 N) (B := fun k x N => fX11_kinds_B62 (nI s) (nI c) (nI q) so (M 23 0 q) (M 24 0 q) (fun a b M => k (a, b) M) x.1 x.2 N) (fun _ _ _ => rfl) m
    (fun j x N => x = (bitsI P j, nI j) ∧ ∃ z, Lk (mst M (trK t) 0 q z) N) ?_ ?_ FU 0 (0, nI 0) M (Nat.zero_le _) (by show _ < 2000 + 0; omega) ⟨rfl, M (trK t) 0 q, by rw [mst_id]; exact Lk.rf⟩
  · rintro k j x N hj ⟨rfl, z, hN⟩ hk
    have lt' : ¬ nI m ≤ nI j := fun q => by have := (nI_leI (by omega) (by omega)).mp q; omega
    have tail : ∀ (M12 : Mem) (a1 a2 a3 a4 : Int32), M12 = mst N (trK t) 0 q (nI j) → Ev (ob (fX11_unlike (nI s) (nI c) M12) fun r13 M14 =>
        if r13 = (-1) then
          (lt (bitsI P j ||| (1 <<< (nI j &&& 31))) fun w16 =>
          k (w16, nI j + 1) M14)
        else
          (lt (bitsI P j ||| 0) fun w15 =>
          k (w15, nI j + 1) M14)) (fun r M1 => r = bitsI P m ∧ Lk M M1) := by
      intro M12 _ _ _ _ h12
      rw [h12]
      refine Ev.bind (unStep (t := t) (x := j) (n := n) h.1 hI hs hc (by omega) (by rw [← esh]; exact en) hq ht (by omega) hN) (fun r N3 q3 => ?_)
      rw [nI_1]
      refine Ev.ite (fun e => Ev.letv ?_) (fun e => Ev.letv ?_)
      · refine hk _ N3 ⟨?_, _, q3.2⟩
        show (_, _) = (bitsI P j ||| (if P j = true then 1 <<< (nI j &&& 31) else 0), nI (j + 1))
        rw [if_pos (by rw [hf]; exact decide_eq_true (by rw [← q3.1]; exact e))]
      · refine hk _ N3 ⟨?_, _, q3.2⟩
        show (_, _) = (bitsI P j ||| (if P j = true then 1 <<< (nI j &&& 31) else 0), nI (j + 1))
        rw [if_neg (by rw [hf]; simp only [decide_eq_true_eq]; rw [← q3.1]; exact e)]
    show Ev (fX11_kinds_B62 (nI s) (nI c) (nI q) so (M 23 0 q) (M 24 0 q) (fun a b M => k (a, b) M) (bitsI P j) (nI j) N) _
    unfold fX11_kinds_B62
    rcases hso with ⟨rfl, rfl, rfl⟩ | ⟨rfl, rfl, rfl⟩
    · have e24 : N 24 0 q = M 24 0 q := by rw [hN.1 24 0 (by simp [keptK]) (by decide) (by decide), show trK 2 = 23 from rfl, mst_n (by simp)]
      rw [if_pos rfl]
      unfold fX11_kinds_J76
      rw [if_neg (show ¬ (6 : Int32) ≤ nI j from lt'), if_pos rfl]
      unfold fX11_kinds_J96
      rw [cq]
      refine Ev.gd iq (Ev.let_ fun M11 h11 => ?_)
      rw [if_neg (by decide)]
      unfold fX11_kinds_J115
      rw [cq]
      refine Ev.gd iq (Ev.let_ fun M12 h12 => ?_)
      refine tail M12 0 0 0 0 ?_
      rw [h12, mst_noop (by rw [h11, mst_n (by simp), e24]), h11]
      rfl
    · have e23 : N 23 0 q = M 23 0 q := by rw [hN.1 23 0 (by simp [keptK]) (by decide) (by decide), show trK 3 = 24 from rfl, mst_n (by simp)]
      rw [if_neg (by decide)]
      unfold fX11_kinds_J76
      rw [if_neg (show ¬ (10 : Int32) ≤ nI j from lt'), if_neg (by decide)]
      unfold fX11_kinds_J96
      rw [cq]
      refine Ev.gd iq (Ev.let_ fun M11 h11 => ?_)
      rw [if_pos rfl]
      unfold fX11_kinds_J115
      rw [cq]
      refine Ev.gd iq (Ev.let_ fun M12 h12 => ?_)
      refine tail M12 0 0 0 0 ?_
      rw [h12, h11, mst_noop e23]
      rfl
  · rintro k x N ⟨rfl, z, hN⟩
    have le' : nI m ≤ nI m := Int32.le_refl _
    show Ev (fX11_kinds_B62 (nI s) (nI c) (nI q) so (M 23 0 q) (M 24 0 q) (fun a b M => k (a, b) M) (bitsI P m) (nI m) N) _
    unfold fX11_kinds_B62
    rcases hso with ⟨rfl, rfl, rfl⟩ | ⟨rfl, rfl, rfl⟩
    · have e24 : N 24 0 q = M 24 0 q := by rw [hN.1 24 0 (by simp [keptK]) (by decide) (by decide), show trK 2 = 23 from rfl, mst_n (by simp)]
      rw [if_pos rfl]
      unfold fX11_kinds_J76
      rw [if_pos (by decide), cq]
      refine Ev.gd iq (Ev.let_ fun M9 h9 => Ev.gd iq (Ev.let_ fun M10 h10 => Ev.ret ⟨rfl, ?_⟩))
      rw [h10, mst_noop (by rw [h9, mst_n (by simp), e24]), h9]
      exact (hN.put (v := M (trK 2) 0 q) (trK_ok (t := 2) (by omega))).back
    · have e23 : N 23 0 q = M 23 0 q := by rw [hN.1 23 0 (by simp [keptK]) (by decide) (by decide), show trK 3 = 24 from rfl, mst_n (by simp)]
      rw [if_neg (by decide)]
      unfold fX11_kinds_J76
      rw [if_pos (by decide), cq]
      refine Ev.gd iq (Ev.let_ fun M9 h9 => Ev.gd iq (Ev.let_ fun M10 h10 => Ev.ret ⟨rfl, ?_⟩))
      rw [h10, h9, mst_noop e23]
      exact (hN.put (v := M (trK 3) 0 q) (trK_ok (t := 3) (by omega))).back
theorem kindsM_ev {T : Nat} {M : Mem} (h : RelT T M) (v w p so : Int32) : Ev (fX11_kinds v w p so M) (fun r M1 => r = kindsS v w p so M ∧ Lk M M1) := by
  have hI := h.2.2.2.2.1
  have hv : vwX 0 M = vwM M := h.2.2.2.2.2.1
  unfold fX11_kinds kindsS rtoS
  rw [rtM_ev, ob_some, rtS_eq h]
  refine Ev.ite (fun h0 => ?_) (fun h0 => Ev.ret ⟨by rw [if_neg h0, if_neg h0], Lk.rf⟩)
  rw [if_pos h0, oneM_ev p hI, ob_some]
  show Ev (ite (hasS p (vwM M) = 0) _ _) _
  rw [hv]
  refine Ev.ite (fun h1 => Ev.ret ⟨by rw [if_pos h1, if_neg (by decide)], Lk.rf⟩) (fun h1 => ?_)
  rw [if_neg h1, if_pos rfl, in_ev, ob_some]
  refine Ev.ite (fun h2 => Ev.ret ⟨by rw [if_pos h2], Lk.rf⟩) (fun h2 => ?_)
  rw [if_neg h2]
  obtain ⟨s, c, n, rfl, hs, rfl, hc, hn, en⟩ := rtS_0 h0 h.ok
  obtain ⟨q, hq, rfl⟩ := has_rng hI.2.2.2.1 h1
  obtain ⟨y, hy, rfl⟩ := rng (n := 1) (by decide) (not_bt h2)
  have hq6 : q < 6 := Nat.lt_of_lt_of_le hq hI.2.2.2.1.1
  have iq : inb (nI q) 6 = true := inb_nI hq6 (by decide)
  have cq := nI_clamp (show q < 2 ^ 31 by omega)
  rw [nI_clamp (show s < 2 ^ 31 by omega), nI_clamp (show c < 2 ^ 31 by omega), cq]
  refine Ev.gd iq (Ev.letv (Ev.gd iq (Ev.letv ?_)))
  by_cases e : y = 0
  · subst e
    rw [if_pos (by rfl)]
    exact kindsM_core (t := 2) (m := 6) (n := n) h hs hc hn en hq (Or.inl ⟨rfl, rfl, rfl⟩)
  · have : y = 1 := by omega
    subst this
    rw [if_neg (by decide)]
    exact kindsM_core (t := 3) (m := 10) (n := n) h hs hc hn en hq (Or.inr ⟨rfl, rfl, rfl⟩)
theorem kinds_same (v w p so : Int32) : Same (fX10_kinds v w p so) (fX11_kinds v w p so) :=
  Same.ask (kindsS v w p so) (fun M M1 h => by unfold kindsS; rw [shf h, h.vX, h.fit, h.fit]) (fun _ _ h => kindsX_ev h v w p so) (fun _ _ h => kindsM_ev h v w p so)
/-! holds -/
def holdsS (v w p so : Int32) (M : Mem) : Int32 := if rtoS v w p (fun s => shX s M) (vwX 0 M) = 0 then (if bt (decide (0 ≤ so) && decide (so ≤ 1)) = 0 then -7 else if so = 0 then cntI (fitP M v.toNatClampNeg w.toNatClampNeg p.toNatClampNeg 1) 100 else fstI (fitP M v.toNatClampNeg w.toNatClampNeg p.toNatClampNeg 1) 100) else rtoS v w p (fun s => shX s M) (vwX 0 M)
theorem cntI_y {P : Nat → Bool} {j : Nat} (h : P j = true) : cntI P (j + 1) = cntI P j + 1 := by
  show cntI P j + (if P j = true then 1 else 0) = _
  rw [if_pos h]
theorem cntI_n {P : Nat → Bool} {j : Nat} (h : ¬ P j = true) : cntI P (j + 1) = cntI P j := by
  show cntI P j + (if P j = true then 1 else 0) = _
  rw [if_neg h]
  simp
theorem fstI_n {P : Nat → Bool} {j : Nat} (h : ¬ P j = true) : fstI P (j + 1) = fstI P j := by
  show (if fstI P j = -1 then (if P j = true then nI j else -1) else fstI P j) = _
  rw [if_neg h]
  split
  · rename_i e; exact e.symm
  · rfl
theorem fstI_o {P : Nat → Bool} {j : Nat} (h : ¬ fstI P j = -1) : fstI P (j + 1) = fstI P j := fstI_stay h (j + 1) (by omega)
theorem holdsX_ev {T : Nat} {M : Mem} (h : RelT T M) (v w p so : Int32) : Ev (fX10_holds v w p so M) (fun r M1 => r = holdsS v w p so M ∧ Kp M M1) := by
  unfold fX10_holds holdsS
  rw [rtoX_ev h, ob_some]
  refine Ev.ite (fun h0 => ?_) (fun h0 => Ev.ret ⟨by rw [if_neg h0], Kp.rf⟩)
  rw [if_pos h0, within_ev, ob_some]
  refine Ev.ite (fun h1 => Ev.ret ⟨by rw [if_pos h1], Kp.rf⟩) (fun h1 => ?_)
  rw [if_neg h1]
  obtain ⟨g1, g2⟩ := rtoS_0 h0
  obtain ⟨s, c, n, rfl, hs, rfl, hc, hn, en⟩ := rtS_0 g1 h.ok
  obtain ⟨q, hq, rfl⟩ := has_rng h.2.2.2.1.2.2.2.1 g2
  have hq6 : q < 6 := Nat.lt_of_lt_of_le hq h.2.2.2.1.2.2.2.1.1
  rw [nI_clamp (show s < 2 ^ 31 by omega), nI_clamp (show c < 2 ^ 31 by omega), nI_clamp (show q < 2 ^ 31 by omega)]
  have hf : ∀ x, fitP M s c q 1 x = decide (fstI (foP (svX M) (setA (vwX 0 M) 1 q (nI x)) (shX s M).2.2 c) n = -1) := fun x => by
    unfold fitP
    rw [en, nI_clamp (show n < 2 ^ 31 by omega)]
  generalize fitP M s c q 1 = P at hf
  generalize h100 : (100 : Nat) = m
  refine Ev.loop (f := fun k (x : Int32 × Int32 × Int32) M => fX10_holds_L39 (nI s) (nI c) (nI q) so k x.1 x.2.1 x.2.2 M) (B := fun k x M => fX10_holds_B39 (nI s) (nI c) (nI q) so (fun a b d M => k (a, b, d) M) x.1 x.2.1 x.2.2 M) (fun _ _ _ => rfl) m
    (fun j x N => x = (cntI P j, fstI P j, nI j) ∧ Kp M N) ?_ ?_ FU 0 (0, -1, nI 0) M (Nat.zero_le _) (by show _ < 2000 + 0; omega) ⟨rfl, Kp.rf⟩
  · rintro k j x N hj ⟨rfl, hN⟩ hk
    show Ev (fX10_holds_B39 (nI s) (nI c) (nI q) so (fun a b d M => k (a, b, d) M) (cntI P j) (fstI P j) (nI j) N) _
    unfold fX10_holds_B39
    rw [if_neg (fun q => by have := (nI_leI (a := 100) (by omega) (by omega)).mp q; omega), nI_clamp (show s < 2 ^ 31 by omega)]
    refine Ev.bind (supX_ev (t := 1) (x := j) h.2.2.2.1 hN hq (by omega) (by show j < 100; omega)) (fun _ N2 q2 => ?_)
    refine Ev.gd (inb_nI hs (by decide)) (Ev.bind (foX_ev h.1 q2 hc (show n ≤ 40 by omega) en) (fun r N3 q3 => ?_))
    rw [nI_1]
    refine Ev.ite (fun e => ?_) (fun e => ?_)
    · have hP : P j = true := by rw [hf]; exact decide_eq_true (by rw [← q3.1]; exact e)
      refine Ev.ite (fun e2 => ?_) (fun e2 => ?_)
      · exact hk _ N3 ⟨by rw [cntI_y hP, fstI_new e2 hP], q3.2⟩
      · exact hk _ N3 ⟨by rw [cntI_y hP, fstI_o e2], q3.2⟩
    · have hP : ¬ P j = true := by rw [hf]; simp only [decide_eq_true_eq]; rw [← q3.1]; exact e
      exact hk _ N3 ⟨by rw [cntI_n hP, fstI_n hP], q3.2⟩
  · rintro k x N ⟨rfl, hN⟩
    show Ev (fX10_holds_B39 (nI s) (nI c) (nI q) so (fun a b d M => k (a, b, d) M) (cntI P m) (fstI P m) (nI m) N) _
    unfold fX10_holds_B39
    rw [if_pos (by rw [← h100]; decide)]
    refine Ev.ite (fun e => Ev.ret ⟨by rw [if_pos e], hN⟩) (fun e => Ev.ret ⟨by rw [if_neg e], hN⟩)
theorem holdsM_ev {T : Nat} {M : Mem} (h : RelT T M) (v w p so : Int32) : Ev (fX11_holds v w p so M) (fun r M1 => r = holdsS v w p so M ∧ Lk M M1) := by
  have hI := h.2.2.2.2.1
  have hv : vwX 0 M = vwM M := h.2.2.2.2.2.1
  unfold fX11_holds holdsS rtoS
  rw [rtM_ev, ob_some, rtS_eq h]
  refine Ev.ite (fun h0 => ?_) (fun h0 => Ev.ret ⟨by rw [if_neg h0, if_neg h0], Lk.rf⟩)
  rw [if_pos h0, oneM_ev p hI, ob_some]
  show Ev (ite (hasS p (vwM M) = 0) _ _) _
  rw [hv]
  refine Ev.ite (fun h1 => Ev.ret ⟨by rw [if_pos h1, if_neg (by decide)], Lk.rf⟩) (fun h1 => ?_)
  rw [if_neg h1, if_pos rfl, in_ev, ob_some]
  refine Ev.ite (fun h2 => Ev.ret ⟨by rw [if_pos h2], Lk.rf⟩) (fun h2 => ?_)
  rw [if_neg h2]
  obtain ⟨s, c, n, rfl, hs, rfl, hc, hn, en⟩ := rtS_0 h0 h.ok
  obtain ⟨q, hq, rfl⟩ := has_rng hI.2.2.2.1 h1
  have hq6 : q < 6 := Nat.lt_of_lt_of_le hq hI.2.2.2.1.1
  have iq : inb (nI q) 6 = true := inb_nI hq6 (by decide)
  have cq := nI_clamp (show q < 2 ^ 31 by omega)
  have esh := (h.2.2.2.2.2.2.2.2.1.eq (s := s) hs).1
  rw [nI_clamp (show s < 2 ^ 31 by omega), nI_clamp (show c < 2 ^ 31 by omega), cq]
  have hf : ∀ x, fitP M s c q 1 x = decide (fstI (foP (svX M) (setA (vwM M) 1 q (nI x)) (shM s M).2.2 c) n = -1) := fun x => by
    unfold fitP
    rw [en, nI_clamp (show n < 2 ^ 31 by omega), hv, esh]
  generalize fitP M s c q 1 = P at hf
  generalize h100 : (100 : Nat) = m
  refine Ev.gd iq (Ev.letv ?_)
  refine Ev.loop (f := fun k (x : Int32 × Int32 × Int32) N => fX11_holds_L57 (nI s) (nI c) (nI q) so (M 26 0 q) k x.1 x.2.1 x.2.2 N) (B := fun k x N => fX11_holds_B57 (nI s) (nI c) (nI q) so (M 26 0 q) (fun a b d M => k (a, b, d) M) x.1 x.2.1 x.2.2 N) (fun _ _ _ => rfl) m
    (fun j x N => x = (cntI P j, fstI P j, nI j) ∧ ∃ z, Lk (mst M (trK 1) 0 q z) N) ?_ ?_ FU 0 (0, -1, nI 0) M (Nat.zero_le _) (by show _ < 2000 + 0; omega) ⟨rfl, M (trK 1) 0 q, by rw [mst_id]; exact Lk.rf⟩
  · rintro k j x N hj ⟨rfl, z, hN⟩ hk
    show Ev (fX11_holds_B57 (nI s) (nI c) (nI q) so (M 26 0 q) (fun a b d M => k (a, b, d) M) (cntI P j) (fstI P j) (nI j) N) _
    unfold fX11_holds_B57
    rw [if_neg (fun q => by have := (nI_ltI (a := 99) (by omega) (by omega)).mp q; omega), cq]
    refine Ev.gd iq (Ev.letv ?_)
    refine Ev.bind (unStep (t := 1) (x := j) (n := n) h.1 hI hs hc (by omega) (by rw [← esh]; exact en) hq (by omega) (by show j < 100; omega) hN) (fun r N3 q3 => ?_)
    refine Ev.ite (fun e => ?_) (fun e => ?_)
    · have hP : P j = true := by rw [hf]; exact decide_eq_true (by rw [← q3.1]; exact e)
      unfold fX11_holds_J87
      rw [if_neg (by decide)]
      unfold fX11_holds_J101
      refine Ev.letv ?_
      rw [if_neg (by decide), nI_1]
      refine Ev.ite (fun e2 => ?_) (fun e2 => ?_)
      · exact hk _ N3 ⟨by rw [cntI_y hP, fstI_new e2 hP], _, q3.2⟩
      · exact hk _ N3 ⟨by rw [cntI_y hP, fstI_o e2], _, q3.2⟩
    · have hP : ¬ P j = true := by rw [hf]; simp only [decide_eq_true_eq]; rw [← q3.1]; exact e
      unfold fX11_holds_J87
      rw [if_pos rfl]
      unfold fX11_holds_J101
      refine Ev.letv ?_
      rw [if_pos rfl, nI_1]
      exact hk _ N3 ⟨by rw [cntI_n hP, fstI_n hP]; simp, _, q3.2⟩
  · rintro k x N ⟨rfl, z, hN⟩
    show Ev (fX11_holds_B57 (nI s) (nI c) (nI q) so (M 26 0 q) (fun a b d M => k (a, b, d) M) (cntI P m) (fstI P m) (nI m) N) _
    unfold fX11_holds_B57
    rw [if_pos (by rw [← h100]; decide), cq]
    have hb := (hN.put (v := M (trK 1) 0 q) (trK_ok (t := 1) (by omega))).back
    exact Ev.gd iq (Ev.letv (Ev.ite (fun e => Ev.ret ⟨by rw [if_pos e], hb⟩) (fun e => Ev.ret ⟨by rw [if_neg e], hb⟩)))
theorem holds_same (v w p so : Int32) : Same (fX10_holds v w p so) (fX11_holds v w p so) :=
  Same.ask (holdsS v w p so) (fun M M1 h => by unfold holdsS; rw [shf h, h.vX, h.fit]) (fun _ _ h => holdsX_ev h v w p so) (fun _ _ h => holdsM_ev h v w p so)
end KH
