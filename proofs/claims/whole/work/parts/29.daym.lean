/-! a day of the reference -/
section DM
theorem scMW_txt {T : Nat} {M M' : Mem} (h : Txt T M) (ho : Off scMW M M') : Txt T M' := h.off (fun i => ⟨ho.at (by simp [scMW]), ho.at (by simp [scMW]), ho.at (by simp [scMW])⟩) (ho.at (by simp [scMW])) (ho.at (by simp [scMW]))
theorem scMW_sv {M M' : Mem} (h : Off scMW M M') : svX M' = svX M := svX_off (fun i => h.at (by simp [scMW])) (fun i => h.at (by simp [scMW]))
set_option maxHeartbeats 1000000 in
theorem turnOf_ev {T p : Nat} {M : Mem} (hT : Txt T M) (hI : InM T M) (hp : p < rN (vwM M)) : Ev (fX11_turnOf (nI p) M) (fun _ M' => vwM M' = leaveS (svX M) (vwM M) p ∧ Off scMW M M') := by
  have hA := hI.2.2.2.1
  have hp6 : p < 6 := Nat.lt_of_lt_of_le hp hA.1
  have hs := seat_lt hA hp
  have hin : inb (nI p) 6 = true := inb_nI hp6 (by decide)
  have cp := nI_clamp (show p < 2 ^ 31 by omega)
  have e25 : M 25 0 p = nI (seatN (vwM M) p) := by
    rw [show M 25 0 p = rA (vwM M) 0 p from vwM_A (t := 0) (by omega) hp]
    exact seat_eq hA hp
  unfold fX11_turnOf
  refine Ev.gd hin ?_
  rw [cp, e25]
  refine Ev.bind (asksOf_ev (part := 0) hT hI (by omega) hp hs) (fun v M2 hv => ?_)
  rw [hv.1]
  generalize hvv : saidS (svX M) (vwM M) 0 p (seatN (vwM M) p) = vv
  generalize hse : seatN (vwM M) p = seat at hs e25
  generalize hd0 : dropsK (knd (vwM M) p) 0 vv (rA (vwM M) 3 p) = d0
  generalize hd1 : dropsK (knd (vwM M) p) 1 vv (rA (vwM M) 3 p) = d1
  have hoff2 : Off scMW M M2 := hv.2.mono (fun K i h => h.elim Or.inl (fun h => Or.inr (Or.inl h)))
  refine Ev.loop (f := fun n (x : Int32) M => fX11_turnOf_L15 (nI p) vv n x M) (B := fun k x M => fX11_turnOf_B15 (nI p) vv k x M) (fun _ _ _ => rfl) 36
    (fun j x M' => x = nI j ∧ (∀ c, M' 27 0 c = if c < j then lvT (M 27 0) seat d0 d1 c else M 27 0 c) ∧ Off scMW M M') ?_ ?_ FU 0 (nI 0) M2 (by omega) (by show 36 < 2000 + 0; omega) ⟨rfl, fun c => by rw [hv.2.at (by simp [scM])]; simp, hoff2⟩
  · rintro k j x M' hj ⟨rfl, hth, hoff⟩ hk
    have hjc : inb (nI j) 36 = true := inb_nI hj (by decide)
    have cj := nI_clamp (show j < 2 ^ 31 by omega)
    show Ev (fX11_turnOf_B15 (nI p) vv k (nI j) M') _
    unfold fX11_turnOf_B15
    rw [if_neg (fun q => by have := (nI_leI (a := 36) (by omega) (by omega)).mp q; omega)]
    refine Ev.gd hin ?_
    rw [cp, hoff.at (show ¬ scMW 25 0 by simp [scMW]), e25, apM_ev M' hj hs, ob_some]
    have hap : apN j seat < 100 := by unfold apN; omega
    have same : ∀ c, c ≠ j → (if c < j + 1 then lvT (M 27 0) seat d0 d1 c else M 27 0 c) = (if c < j then lvT (M 27 0) seat d0 d1 c else M 27 0 c) := fun c hc => by
      by_cases q : c < j
      · rw [if_pos q, if_pos (by omega)]
      · rw [if_neg q, if_neg (by omega)]
    have hthj : M' 27 0 j = M 27 0 j := by rw [hth j, if_neg (by omega)]
    refine Ev.ite (fun h2 => ?_) (fun h2 => ?_)
    · have h2' := (nI_leI (a := 2) (by omega) (by omega)).mp h2
      rw [nI_1]
      refine hk _ M' ⟨rfl, fun c => ?_, hoff⟩
      rw [hth c]
      by_cases hc : c = j
      · subst hc
        rw [if_neg (by omega), if_pos (by omega)]
        unfold lvT
        rw [if_neg (fun q => by omega), if_neg (fun q => by omega)]
      · exact (same c hc).symm
    · have h2' : apN j seat < 2 := by
        by_cases q : apN j seat < 2
        · exact q
        · exact absurd ((nI_leI (a := 2) (by omega) (by omega)).mpr (by omega)) h2
      have hI' : InM T M' := by
        have e := vwM_T2 (M := M) (M' := M') (hoff.at (by simp [scMW])) (hoff.at (by simp [scMW])) (hoff.at (by simp [scMW])) (hoff.at (by simp [scMW])) (hoff.at (by simp [scMW]))
        refine hI.eqv (by rw [e]) (by rw [hoff.at (by simp [scMW])]) (by rw [hoff.at (by simp [scMW])]) (fun c => ?_)
        rw [e]
        show ∃ n, n < 1000 ∧ (if c < 36 then M' 27 0 c else 0) = nI n
        by_cases hc : c < 36
        · rw [if_pos hc, hth c]
          have hok := hI.2.2.2.2
          have h0 : M 27 0 c = rT (vwM M) c := vwM_T hc
          by_cases q : c < j
          · rw [if_pos q]
            have := lvT_ok (seat := seat) (d0 := d0) (d1 := d1) hok c
            unfold lvT at this ⊢
            rw [h0]
            exact this
          · rw [if_neg q, h0]; exact hok c
        · rw [if_neg hc]; exact ⟨0, by omega, rfl⟩
      have hR : knd (vwM M') p = knd (vwM M) p ∧ rA (vwM M') 3 p = rA (vwM M) 3 p ∧ rN (vwM M') = rN (vwM M) := by
        rw [vwM_T2 (M := M) (M' := M') (hoff.at (by simp [scMW])) (hoff.at (by simp [scMW])) (hoff.at (by simp [scMW])) (hoff.at (by simp [scMW])) (hoff.at (by simp [scMW]))]
        exact ⟨rfl, rfl, rfl⟩
      refine Ev.gd hjc ?_
      rw [leavesAt_ev hI' (by rw [hR.2.2]; exact hp) h2', ob_some, hR.1, hR.2.1, clT_ev, ob_some]
      refine Ev.gd hjc (Ev.let_ fun M9 h9 => ?_)
      rw [cj, hthj] at h9
      rw [nI_1]
      refine hk _ M9 ⟨rfl, fun c => ?_, by rw [h9]; exact hoff.mst (Or.inr (Or.inr rfl))⟩
      rw [h9, mst_s]
      by_cases hc : c = j
      · subst hc
        simp only [upd, if_true]
        rw [if_pos (by omega)]
        unfold lvT
        by_cases q0 : apN c seat = 0
        · rw [if_pos ⟨hj, q0⟩, q0, hd0]
        · have q1 : apN c seat = 1 := by omega
          rw [if_neg (fun q => q0 q.2), if_pos ⟨hj, q1⟩, q1, hd1]
      · simp only [upd, if_neg hc]
        rw [hth c]
        exact (same c hc).symm
  · rintro k x M' ⟨rfl, hth, hoff⟩
    show Ev (fX11_turnOf_B15 (nI p) vv k (nI 36) M') _
    unfold fX11_turnOf_B15
    rw [if_pos (by decide)]
    refine Ev.ret ⟨?_, hoff⟩
    rw [vwM_T2 (M := M) (hoff.at (by simp [scMW])) (hoff.at (by simp [scMW])) (hoff.at (by simp [scMW])) (hoff.at (by simp [scMW])) (hoff.at (by simp [scMW]))]
    unfold leaveS
    rw [hse]
    rw [hse] at hvv
    rw [hvv, hd0, hd1]
    refine Prod.ext ?_ rfl
    funext c
    show (if c < 36 then M' 27 0 c else 0) = lvT (rT (vwM M)) seat d0 d1 c
    by_cases hc : c < 36
    · rw [if_pos hc, hth c, if_pos hc]
      unfold lvT
      rw [vwM_T (M := M) hc]
    · rw [if_neg hc]
      unfold lvT
      rw [if_neg (fun q => hc q.1), if_neg (fun q => hc q.1)]
      simp [vwM, rT, hc]
abbrev scMD : Nat → Nat → Prop := fun K _ => K = 39 ∨ K = 40 ∨ K = 27 ∨ K = 22
/-- the reference's object but for the day -/
def of22 (M M' : Mem) : Prop := ∀ s, s ≠ 6 → M' 22 0 s = M 22 0 s
theorem dayBut_ev {T : Nat} {but : Int32} {sk : Nat → Bool} {M : Mem} (hT : Txt T M) (hI : InM T M) (hsk : ∀ p, p < 6 → (sk p = true ↔ nI p = but)) : Ev (fX11_dayBut but M) (fun _ M' => vwM M' = dayS (svX M) sk (vwM M) ∧ InM T M' ∧ of22 M M' ∧ Off scMD M M') := by
  have h6 := hI.2.2.2.1.1
  unfold fX11_dayBut
  refine Ev.loop (f := fun n (x : Int32) M => fX11_dayBut_L2 but n x M) (B := fun k x M => fX11_dayBut_B2 but k x M) (fun _ _ _ => rfl) (rN (vwM M))
    (fun j x M' => x = nI j ∧ vwM M' = dayF (svX M) sk j (vwM M) ∧ Off scMW M M') ?_ ?_ FU 0 (nI 0) M (Nat.zero_le _) (by show _ < 2000 + 0; omega) ⟨rfl, rfl, Off.rf⟩
  · rintro k j x M' hj ⟨rfl, hv, hoff⟩ hk
    have hI' : InM T M' := hI.eqv (by rw [hv, dayF_2]) (by rw [hoff.at (by simp [scMW])]) (by rw [hoff.at (by simp [scMW])]) (by rw [hv]; exact okT_dayF hI.2.2.2.2 j)
    have hn : rN (vwM M') = rN (vwM M) := by rw [hv]; unfold rN; rw [dayF_2]
    show Ev (fX11_dayBut_B2 but k (nI j) M') _
    unfold fX11_dayBut_B2
    rw [hI'.1, hn, if_neg (fun q => by have := (nI_leI (by omega) (by omega)).mp q; omega), nI_1]
    refine Ev.ite (fun hb => ?_) (fun hb => ?_)
    · refine hk _ M' ⟨rfl, ?_, hoff⟩
      rw [hv]
      show _ = (if sk j then _ else _)
      rw [if_pos ((hsk j (by omega)).mpr hb)]
    · refine Ev.bind (turnOf_ev (scMW_txt hT hoff) hI' (by rw [hn]; exact hj)) (fun _ M2 h2 => ?_)
      refine hk _ M2 ⟨rfl, ?_, hoff.tr h2.2⟩
      rw [h2.1, scMW_sv hoff, hv]
      show _ = (if sk j then _ else _)
      rw [if_neg (fun q => hb ((hsk j (by omega)).mp q))]
  · rintro k x M' ⟨rfl, hv, hoff⟩
    have hI' : InM T M' := hI.eqv (by rw [hv, dayF_2]) (by rw [hoff.at (by simp [scMW])]) (by rw [hoff.at (by simp [scMW])]) (by rw [hv]; exact okT_dayF hI.2.2.2.2 _)
    have hn : rN (vwM M') = rN (vwM M) := by rw [hv]; unfold rN; rw [dayF_2]
    show Ev (fX11_dayBut_B2 but k (nI (rN (vwM M))) M') _
    unfold fX11_dayBut_B2
    rw [hI'.1, hn, if_pos ((nI_leI (by omega) (by omega)).mpr (Nat.le_refl _))]
    have hM : vwM (mst M' 22 0 6 (M' 22 0 6 + 1)) = incD (vwM M') := by
      unfold incD vwM rD
      rw [mst_s, mst_n (show ¬ (27 = 22 ∧ 0 = 0) by simp)]
      refine Prod.ext rfl (Prod.ext ?_ rfl)
      funext t p
      have : trK t ≠ 22 := by unfold trK; split <;> decide
      simp only [mst_n (show ¬ (trK t = 22 ∧ 0 = 0) from fun q => this q.1)]
      rfl
    refine Ev.let_ fun M1 h1 => Ev.ret ⟨?_, ?_, ?_, ?_⟩
    · rw [h1, hM, hv]; rfl
    · obtain ⟨a1, a2, a3, a4, a5⟩ := hI'
      rw [h1]
      refine ⟨?_, ?_, ?_, ?_, ?_⟩
      · rw [hM, mst_s]; exact a1
      · rw [hM, mst_s]; exact a2
      · rw [hM]; exact a3
      · rw [hM]; exact a4
      · rw [hM]; exact a5
    · intro s hs
      rw [h1, mst_s]
      simp only [upd, if_neg hs]
      rw [hoff.at (by simp [scMW])]
    · rw [h1]
      exact (hoff.mono (fun K i h => by rcases h with h | h | h; exact Or.inl h; exact Or.inr (Or.inl h); exact Or.inr (Or.inr (Or.inl h)))).mst (Or.inr (Or.inr (Or.inr rfl)))
end DM
