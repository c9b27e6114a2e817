/-! the class's advance, all of it -/
section AA
theorem j60_ev {b : Nat → Int32} {n : Nat} (hn : n ≤ 160) {s : Nat} (hs : s ≤ n) {N0 N : Mem} (h : XT b n N) (hq : XQ N0 N) (h7 : N 1 0 7 = nI s) : Ev (fX4_advance_J60 N) (fun _ N' => NXX b n s N0 N') := by
  unfold fX4_advance_J60
  rw [h.1, h7]
  by_cases q : s < n
  · rw [if_pos ((nI_ltI (by omega) (by omega)).mpr q), nI_clamp (show s < 2 ^ 31 by omega), h.2 s q, isLet_ev, ob_some]
    refine Ev.gd (inb_nI (by omega) (by decide)) ?_
    by_cases hl : lLet (b s) = true
    · rw [hl, if_neg (by decide)]
      exact Ev.bind (takeW_ev hn q hl h hq h7) (fun _ N1 q1 => Ev.ret q1)
    · rw [if_pos (bt_0.mpr (by simpa using hl)), h7, nI_clamp (show s < 2 ^ 31 by omega), h.2 s q, isDig_ev, ob_some]
      refine Ev.gd (inb_nI (by omega) (by decide)) ?_
      by_cases hd : lDig (b s) = true
      · rw [hd, if_neg (by decide)]
        exact Ev.bind (takeN_ev hn q hl hd h hq h7) (fun _ N1 q1 => Ev.ret q1)
      · rw [if_pos (bt_0.mpr (by simpa using hd)), h7, nI_1]
        refine Ev.let_ fun N6 e6 => ?_
        have x6 : XT b n N6 := by rw [e6]; exact h.xq (XQ.rf.mst (by omega))
        have y6 : XQ N0 N6 := by rw [e6]; exact hq.mst (by omega)
        have z7 : N6 1 0 7 = nI s := by rw [e6]; simp [mst10]; exact h7
        have z8 : N6 1 0 8 = nI (s + 1) := by rw [e6]; simp [mst10]
        clear e6
        have el : lexT b n s = ((sgK (b s), 0), s + 1) := by unfold lexT; rw [if_pos q, if_neg hl, if_neg hd]
        obtain ⟨k1, k2, k3, k4, k5⟩ := sgK_ok (b s)
        obtain ⟨s1, s2⟩ := isS_t (b s)
        rw [z7, nI_clamp (show s < 2 ^ 31 by omega), x6.2 s q, isSign_ev, ob_some]
        refine Ev.gd (inb_nI (by omega) (by decide)) ?_
        have fin : ∀ z, z = cTk (sgK (b s)) 0 → NXX b n s N0 (mst N6 1 0 5 z) := by
          intro z hz
          unfold NXX
          rw [el]
          exact ⟨by simp [mst10]; exact hz, fun w => by rcases w with w | w; exact absurd w k3; exact absurd w k4, by simp [mst10]; exact z7, by simp [mst10]; exact z8, y6.mst (by omega)⟩
        cases hz : isS (b s) with
        | false =>
          rw [if_pos (by decide)]
          exact Ev.let_ fun N9 e9 => Ev.ret (by rw [e9]; exact fin 1 (by rw [s2 hz]; rfl))
        | true =>
          rw [if_neg (by decide), z7, nI_clamp (show s < 2 ^ 31 by omega), x6.2 s q]
          refine Ev.gd (inb_nI (by omega) (by decide)) ?_
          exact Ev.let_ fun N9 e9 => Ev.ret (by rw [e9]; exact fin (b s) (s1 hz).symm)
  · rw [if_neg (fun z => q ((nI_ltI (by omega) (by omega)).mp z))]
    have el : lexT b n s = ((0, 0), n) := by unfold lexT; rw [if_neg q]
    refine Ev.let_ fun N1 e1 => Ev.let_ fun N2 e2 => Ev.ret ?_
    subst e2 e1
    unfold NXX
    rw [el]
    exact ⟨by simp [mst10]; rfl, fun w => absurd w (by show ¬ (0 = 2 ∨ 0 = 3); decide), by simp [mst10]; exact h7, by simp [mst10], (hq.mst (by omega)).mst (by omega)⟩
theorem adv_ev {b : Nat → Int32} {n : Nat} (hn : n ≤ 160) {p : Nat} (hp : p ≤ n) {N : Mem} (h : XT b n N) (h8 : N 1 0 8 = nI p) : Ev (fX4_advance N) (fun _ N' => NXX b n (scE lBlk b n p) N N') := by
  obtain ⟨a1, a2, a3, a4⟩ := scE_fact lBlk b hp
  unfold fX4_advance
  rw [h8]
  refine Ev.let_ fun N1 e1 => ?_
  have x1 : XT b n N1 := by rw [e1]; exact h.xq (XQ.rf.mst (by omega))
  have y1 : XQ N N1 := by rw [e1]; exact XQ.rf.mst (by omega)
  have z1 : N1 1 0 7 = nI p := by rw [e1]; simp [mst10]
  clear e1
  refine Ev.loop (f := fun n (_ : Unit) M => fX4_advance_L8 n M) (B := fun k _ M => fX4_advance_B8 (fun M => k () M) M) (fun _ _ _ => rfl) (scE lBlk b n p) (fun j _ M => p ≤ j ∧ XT b n M ∧ XQ N M ∧ M 1 0 7 = nI j) ?_ ?_ FU p () N1 a1 (by show _ < 2000 + p; omega) ⟨Nat.le_refl _, x1, y1, z1⟩
  · rintro k j - M hj ⟨g0, g1, g2, g3⟩ cont
    have hb := a3 j g0 hj
    unfold lBlk at hb
    rw [Bool.or_eq_true, decide_eq_true_eq, decide_eq_true_eq] at hb
    show Ev (fX4_advance_B8 _ M) _
    unfold fX4_advance_B8
    have inc : Ev (fX4_advance_J47 (fun M => k () M) M) (fun _ N' => NXX b n (scE lBlk b n p) N N') := by
      unfold fX4_advance_J47
      rw [g3, nI_1]
      exact Ev.let_ fun N1 e1 => cont () N1 ⟨by omega, by rw [e1]; exact g1.xq (XQ.rf.mst (by omega)), by rw [e1]; exact g2.mst (by omega), by rw [e1]; simp [mst10]⟩
    rw [g1.1, g3, if_neg (fun q => by have := (nI_leI (by omega) (by omega)).mp q; omega), nI_clamp (show j < 2 ^ 31 by omega), g1.2 j (by omega)]
    refine Ev.gd (inb_nI (by omega) (by decide)) ?_
    by_cases c : b j = 32
    · rw [if_pos c]; exact inc
    · rw [if_neg c]
      refine Ev.gd (inb_nI (by omega) (by decide)) ?_
      rw [if_pos (hb.resolve_left c)]
      exact inc
  · rintro k - M ⟨g0, g1, g2, g3⟩
    show Ev (fX4_advance_B8 _ M) _
    unfold fX4_advance_B8
    have J := j60_ev hn a2 g1 g2 g3
    rw [g1.1, g3]
    by_cases q : scE lBlk b n p < n
    · have hb := lBlk_f (a4 q)
      rw [if_neg (fun q => by have := (nI_leI (by omega) (by omega)).mp q; omega), nI_clamp (show scE lBlk b n p < 2 ^ 31 by omega), g1.2 _ q, if_neg hb.1, if_neg hb.2]
      exact Ev.gd (inb_nI (by omega) (by decide)) (Ev.gd (inb_nI (by omega) (by decide)) J)
    · rw [if_pos ((nI_leI (by omega) (by omega)).mpr (by omega))]
      exact J
theorem advT {b : Nat → Int32} {n : Nat} (hn : n ≤ 160) {M0 : Mem} (h : XT b n M0) : Adv (tkT b n) (stT b n) (nxT b n) M0 := by
  refine ⟨fun i cs N hX => ?_, tkT_ok b n, tkT_160 b hn⟩
  obtain ⟨h1, h2, h3, h4, h5, h6, h7, h8⟩ := hX
  have hT : XT b n N := ⟨h7.trans h.1, fun x hx => by rw [h8 2 0 (by simp)]; exact h.2 x hx⟩
  refine (adv_ev hn (posT_fact b n (i + 1)).1 hT h4).mono (fun _ N' q => ?_)
  obtain ⟨q1, q2, q3, q4, q5⟩ := q
  exact ⟨q1, q2, q3, q4, (q5.2 4 (by omega)).trans h5, fun x hx => by rw [q5.1 3 0 (by simp)]; exact h6 x hx, (q5.2 3 (by omega)).trans h7, h8.tr (q5.1.mono (fun K i q => ⟨Or.inl q.1, q.2⟩))⟩
end AA
