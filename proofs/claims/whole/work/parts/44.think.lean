/-! thought, on both sides -/
section TH
/-- the class's thought: the second room is R, all that lasts as in M -/
def ThX (T : Nat) (M N : Mem) (R : Rm) : Prop := Kp M N ∧ InX T 1 N ∧ vwX 1 N = R
theorem thx_take {T : Nat} {M N : Mem} (hI : InX T 0 M) (hk : Kp M N) : Ev (fX5_takeFrom 1 0 N) (fun _ N2 => ThX T M N2 (vwX 0 M)) := by
  have hI0 := hk.inX hI
  have e0 := hk.vX
  refine (takeFrom_ev (r := 1) (r' := 0) (by decide) hI0.2.2.2.1.1).mono (fun _ N2 q => ?_)
  obtain ⟨⟨q1, q2, q3⟩, q4⟩ := q
  refine ⟨hk.tr (Kp.off q4 nk_R), ?_, by rw [q1, e0]⟩
  obtain ⟨a1, a2, a3, a4, a5⟩ := hI0
  exact ⟨by rw [q1, q2]; exact a1, by rw [q1, q3]; exact a2, by rw [q1]; exact a3, by rw [q1]; exact a4, by rw [q1]; exact a5⟩
theorem thx_day {T : Nat} {M N : Mem} {R : Rm} (hT : Txt T M) (h : ThX T M N R) : Ev (fX5_passDay 1 N) (fun _ N2 => ThX T M N2 (dayS (svX M) (fun _ => false) R)) := by
  obtain ⟨h1, h2, h3⟩ := h
  refine (passDay_ev (h1.txt hT) h2).mono (fun _ N2 q => ⟨h1.tr (Kp.off q.2.2 nk_D), q.2.1, ?_⟩)
  rw [q.1, h1.sv, h3]
theorem thx_days {T n : Nat} {M N : Mem} {R : Rm} (hn : n ≤ 40) (hT : Txt T M) (h : ThX T M N R) : Ev (fX5_passDays 1 (nI n) N) (fun _ N2 => ThX T M N2 (daysS (svX M) (fun _ => false) n R)) := by
  obtain ⟨h1, h2, h3⟩ := h
  refine (passDays_ev hn (h1.txt hT) h2).mono (fun _ N2 q => ⟨h1.tr (Kp.off q.2.2 nk_D), q.2.1, ?_⟩)
  rw [q.1, h1.sv, h3]
theorem ThX.T {T c : Nat} {M N : Mem} {R : Rm} (h : ThX T M N R) (hc : c < 36) : N 16 1 c = rT R c := by
  rw [vwX_T (r := 1) (M := N) hc, h.2.2]
def Lq (M N : Mem) : Prop := ∀ K i, keptK K i → K ≠ 27 → K ≠ 22 → N K i = M K i
theorem Lq.sv {M N : Mem} (h : Lq M N) : svX N = svX M := svX_off (fun i => h _ _ (by simp [keptK]) (by decide) (by decide)) (fun i => h _ _ (by simp [keptK]) (by decide) (by decide))
theorem Lq.txt {T : Nat} {M N : Mem} (h : Lq M N) (hT : Txt T M) : Txt T N := hT.off (fun i => ⟨h _ _ (by simp [keptK]) (by decide) (by decide), h _ _ (by simp [keptK]) (by decide) (by decide), h _ _ (by simp [keptK]) (by decide) (by decide)⟩) (h _ _ (by simp [keptK]) (by decide) (by decide)) (h _ _ (by simp [keptK]) (by decide) (by decide))
/-- the reference's thought: what it keeps is the row and the day of M -/
def ThM (T : Nat) (M N : Mem) (R : Rm) : Prop := Lq M N ∧ (∀ c, c < 36 → N 41 0 c = M 27 0 c) ∧ N 41 0 36 = M 22 0 6 ∧ (∀ s, s ≤ 13 → s ≠ 6 → N 22 0 s = M 22 0 s) ∧ InM T N ∧ vwM N = R
theorem thm_keep {T : Nat} {M : Mem} (hI : InM T M) : Ev (fX11_keeps M) (fun _ N => ThM T M N (vwM M)) := by
  refine keeps_ev.mono (fun _ N q => ?_)
  obtain ⟨q1, q2, q3⟩ := q
  have hk : Kp M N := Kp.off q3 (fun K i e => by subst e; simp [keptK])
  exact ⟨fun K i a _ _ => hk K i a, q1, q2, fun s _ _ => by rw [hk 22 0 (by simp [keptK])], hk.lk.inM hI, hk.lk.vM⟩
theorem thm_day {T : Nat} {M N : Mem} {R : Rm} {but : Int32} {sk : Nat → Bool} (hT : Txt T M) (h : ThM T M N R) (hsk : ∀ p, p < 6 → (sk p = true ↔ nI p = but)) : Ev (fX11_dayBut but N) (fun _ N2 => ThM T M N2 (dayS (svX M) sk R)) := by
  obtain ⟨h1, h2, h3, h4, h5, h6⟩ := h
  refine (dayBut_ev (h1.txt hT) h5 hsk).mono (fun _ N2 q => ?_)
  obtain ⟨q1, q2, q3, q4⟩ := q
  refine ⟨fun K i a b c => (q4.at (fun z => by simp only [scMD] at z; simp only [keptK] at a; omega)).trans (h1 K i a b c), fun c hc => by rw [q4.at (by simp [scMD])]; exact h2 c hc, by rw [q4.at (by simp [scMD])]; exact h3, fun s a b => (q3 s b).trans (h4 s a b), q2, by rw [q1, h1.sv, h6]⟩
theorem thm_lays {T : Nat} {M N : Mem} {R : Rm} (h : ThM T M N R) : Ev (fX11_lays N) (fun _ M' => Lk M M') := by
  obtain ⟨h1, h2, h3, h4, h5, h6⟩ := h
  refine lays_ev.mono (fun _ M' q => ?_)
  obtain ⟨q1, q2, q3, q4⟩ := q
  refine ⟨fun K i a b c => (q4.at (fun z => z.elim b c)).trans (h1 K i a b c), fun c hc => (q1 c hc).trans (h2 c hc), fun s hs => ?_⟩
  by_cases e : s = 6
  · subst e; rw [q2, h3]
  · exact (q3 s e).trans (h4 s hs e)
theorem ThM.T {T c : Nat} {M N : Mem} {R : Rm} (h : ThM T M N R) (hc : c < 36) : N 27 0 c = rT R c := by
  rw [vwM_T (M := N) hc, h.2.2.2.2.2]
theorem ThM.q {T : Nat} {M N : Mem} {R : Rm} (h : ThM T M N R) {K i : Nat} (hk : keptK K i) (a : K ≠ 27) (b : K ≠ 22) : N K i = M K i := h.1 K i hk a b
theorem ThM.scr {T : Nat} {M N N2 : Mem} {R : Rm} (h : ThM T M N R) (h2 : Off (fun K _ => K = 39 ∨ K = 40) N N2) : ThM T M N2 R := by
  obtain ⟨h1, h2', h3, h4, h5, h6⟩ := h
  have hk : Kp N N2 := Kp.off h2 (fun K i e => by rcases e with rfl | rfl <;> simp [keptK])
  exact ⟨fun K i a b c => (hk K i a).trans (h1 K i a b c), fun c hc => by rw [h2.at (by decide)]; exact h2' c hc, by rw [h2.at (by decide)]; exact h3, fun s a b => by rw [h2.at (by decide)]; exact h4 s a b, hk.lk.inM h5, by rw [hk.lk.vM]; exact h6⟩
abbrev skN : Nat → Bool := fun _ => false
theorem skN_ok : ∀ p, p < 6 → (skN p = true ↔ nI p = -1) := by decide +kernel
/-- run -/
def runS (v w : Int32) (M : Mem) : Int32 := if bt (decide (0 ≤ v) && decide (v ≤ 40)) = 0 then -2 else if bt (decide (0 ≤ w) && decide (w ≤ 36)) = 0 then -2 else if w = 36 then sumT (rT (daysS (svX M) skN v.toNatClampNeg (vwX 0 M))) 0 36 else rT (daysS (svX M) skN v.toNatClampNeg (vwX 0 M)) w.toNatClampNeg
theorem not_bt {a b : Prop} [Decidable a] [Decidable b] (h : ¬ bt (decide a && decide b) = 0) : a ∧ b := Decidable.byContradiction fun q => h (bt_and.mpr q)
theorem runX_ev {T : Nat} {M : Mem} (h : RelT T M) (v w : Int32) : Ev (fX10_run v w M) (fun r M1 => r = runS v w M ∧ Kp M M1) := by
  have hX := h.2.2.2.1
  unfold fX10_run
  rw [within_ev, ob_some]
  refine Ev.ite (fun h0 => Ev.ret ⟨by rw [runS, if_pos h0], Kp.rf⟩) (fun h0 => ?_)
  rw [within_ev, ob_some]
  refine Ev.ite (fun h1 => Ev.ret ⟨by rw [runS, if_neg h0, if_pos h1], Kp.rf⟩) (fun h1 => ?_)
  have hS : runS v w M = if w = 36 then sumT (rT (daysS (svX M) skN v.toNatClampNeg (vwX 0 M))) 0 36 else rT (daysS (svX M) skN v.toNatClampNeg (vwX 0 M)) w.toNatClampNeg := by rw [runS, if_neg h0, if_neg h1]
  obtain ⟨n, hn, rfl⟩ := rng (n := 40) (by decide) (not_bt h0)
  obtain ⟨c, hc, rfl⟩ := rng (n := 36) (by decide) (not_bt h1)
  rw [hS, nI_clamp (show n < 2 ^ 31 by omega), nI_clamp (show c < 2 ^ 31 by omega)]
  refine Ev.bind (thx_take hX Kp.rf) (fun _ N1 q1 => Ev.bind (thx_days hn h.1 q1) (fun _ N2 q2 => ?_))
  refine Ev.ite (fun e => ?_) (fun e => ?_)
  · have e2 := (nI_leI (a := 36) (by omega) (by omega)).mp e
    have : c = 36 := by omega
    subst this
    refine Ev.bind (total_ev (r := 1) (lo := 0) (hi := 36) (by omega) (by omega)) (fun v1 M1 q => Ev.ret ?_)
    obtain ⟨q3, rfl⟩ := q
    exact ⟨by rw [if_pos (by rfl), q3, q2.2.2], q2.1⟩
  · have hc36 : c < 36 := by
      by_cases q : c < 36
      · exact q
      · exact absurd ((nI_leI (a := 36) (by omega) (by omega)).mpr (by omega)) e
    refine Ev.gd (inb_nI hc36 (by decide)) (Ev.ret ⟨?_, q2.1⟩)
    rw [if_neg (fun q => e (by rw [q]; exact Int32.le_refl _))]
    exact q2.T hc36
theorem runM_ev {T : Nat} {M : Mem} (h : RelT T M) (v w : Int32) : Ev (fX11_run v w M) (fun r M1 => r = runS v w M ∧ Lk M M1) := by
  have hI := h.2.2.2.2.1
  have hv : vwX 0 M = vwM M := h.2.2.2.2.2.1
  unfold fX11_run
  rw [in_ev, ob_some]
  refine Ev.ite (fun h0 => Ev.ret ⟨by rw [runS, if_pos h0], Lk.rf⟩) (fun h0 => ?_)
  rw [in_ev, ob_some]
  refine Ev.ite (fun h1 => Ev.ret ⟨by rw [runS, if_neg h0, if_pos h1], Lk.rf⟩) (fun h1 => ?_)
  have hS : runS v w M = if w = 36 then sumT (rT (daysS (svX M) skN v.toNatClampNeg (vwX 0 M))) 0 36 else rT (daysS (svX M) skN v.toNatClampNeg (vwX 0 M)) w.toNatClampNeg := by rw [runS, if_neg h0, if_neg h1]
  obtain ⟨n, hn, rfl⟩ := rng (n := 40) (by decide) (not_bt h0)
  obtain ⟨c, hc, rfl⟩ := rng (n := 36) (by decide) (not_bt h1)
  rw [hS, nI_clamp (show n < 2 ^ 31 by omega), nI_clamp (show c < 2 ^ 31 by omega), hv]
  refine Ev.bind (thm_keep hI) (fun _ N1 q1 => ?_)
  refine Ev.loop (f := fun m (x : Int32) M => fX11_run_L29 (nI n) (nI c) m x M) (B := fun k x M => fX11_run_B29 (nI n) (nI c) k x M) (fun _ _ _ => rfl) n
    (fun j x N => x = nI j ∧ ThM T M N (daysS (svX M) skN j (vwM M))) ?_ ?_ FU 0 (nI 0) N1 (Nat.zero_le _) (by show _ < 2000 + 0; omega) ⟨rfl, q1⟩
  · rintro k j x N hj ⟨rfl, hN⟩ hk
    show Ev (fX11_run_B29 (nI n) (nI c) k (nI j) N) _
    unfold fX11_run_B29
    rw [if_neg (fun q => by have := (nI_leI (by omega) (by omega)).mp q; omega)]
    refine Ev.bind (thm_day h.1 hN skN_ok) (fun _ N2 q2 => ?_)
    rw [nI_1]
    exact hk _ N2 ⟨rfl, q2⟩
  · rintro k x N ⟨rfl, hN⟩
    show Ev (fX11_run_B29 (nI n) (nI c) k (nI n) N) _
    unfold fX11_run_B29
    rw [if_pos ((nI_leI (by omega) (by omega)).mpr (Nat.le_refl _))]
    refine Ev.ite (fun e => ?_) (fun e => ?_)
    · refine Ev.bind allOf_ev (fun v1 M1 q => ?_)
      obtain ⟨q3, rfl⟩ := q
      unfold fX11_run_J70
      refine Ev.bind (thm_lays hN) (fun _ M2 q4 => Ev.ret ⟨?_, q4⟩)
      rw [if_pos e, q3, hN.2.2.2.2.2]
    · have hc36 : c < 36 := by
        by_cases q : c < 36
        · exact q
        · exact absurd (show nI c = 36 by rw [show c = 36 by omega]; rfl) e
      have ecl : mmax 0 (mmin 35 (nI c)) = nI c := by
        have : ∀ c, c < 36 → mmax 0 (mmin 35 (nI c)) = nI c := by decide +kernel
        exact this c hc36
      rw [within_gen N (nI c) 0 35 (by decide), ob_some, ecl]
      refine Ev.gd (inb_nI hc36 (by decide)) ?_
      unfold fX11_run_J70
      refine Ev.bind (thm_lays hN) (fun _ M2 q4 => Ev.ret ⟨?_, q4⟩)
      rw [if_neg e, nI_clamp (show c < 2 ^ 31 by omega)]
      exact hN.T hc36
theorem run_same (v w : Int32) : Same (fX10_run v w) (fX11_run v w) :=
  Same.ask (runS v w) (fun M M1 h => by rw [runS, runS, h.sv, h.vX]) (fun _ _ h => runX_ev h v w) (fun _ _ h => runM_ev h v w)
end TH
