/-! the reference's next, all of it -/
section NA
theorem j379_ev {b : Nat → Int32} {n s : Nat} {N0 N : Mem} (hs : s < n) (hl : ¬ lLet (b s) = true) (hd : ¬ lDig (b s) = true) (hq : Q4 N0 N) (h20 : N 22 0 20 = nI s) (h21 : N 22 0 21 = nI s) {z q : Int32} (hz : (q = 0 ∧ sgK (b s) = 1) ∨ (q = 1 ∧ rTk (sgK (b s)) = z)) : Ev (fX11_next_J379 z q N) (fun _ N' => NXP b n s N0 N') := by
  have el : lexT b n s = ((sgK (b s), 0), s + 1) := by unfold lexT; rw [if_pos hs, if_neg hl, if_neg hd]
  obtain ⟨k1, k2, k3, k4, k5⟩ := sgK_ok (b s)
  have fin : ∀ y, y = rTk (sgK (b s)) → Ev (fX11_next_J390 y N) (fun _ N' => NXP b n s N0 N') := by
    intro y hy
    unfold fX11_next_J390 NXP
    rw [el]
    refine Ev.let_ fun N1 e1 => ?_
    have f1 : N1 22 0 20 = nI s := by rw [e1]; simp [mst22]; exact h20
    rw [f1, nI_1]
    refine Ev.let_ fun N2 e2 => Ev.ret ?_
    subst e2 e1
    exact ⟨by simp [mst22], by simp [mst22]; exact h21, by simp [mst22]; exact hy, fun w => by rcases w with w | w | w; exact absurd w k3; exact absurd w k4; exact absurd w k2, (hq.mst (by omega)).mst (by omega)⟩
  unfold fX11_next_J379
  rcases hz with ⟨rfl, h⟩ | ⟨rfl, h⟩
  · rw [if_pos rfl]
    exact fin _ (by rw [h]; rfl)
  · rw [if_neg (by decide)]
    exact fin _ h.symm
theorem rTk_sg (z : Int32) : sgK z = 1 ∨ rTk (sgK z) = z := by
  unfold sgK
  repeat' split
  all_goals first
    | exact Or.inl rfl
    | (right; rename_i h; rw [h]; rfl)
theorem j52_ev {b : Nat → Int32} {n : Nat} (hn : n ≤ 160) {s : Nat} (hs : s ≤ n) {N0 N : Mem} (h : RT b n N) (hq : Q4 N0 N) (h20 : N 22 0 20 = nI s) : Ev (fX11_next_J52 N) (fun _ N' => NXP b n s N0 N') := by
  unfold fX11_next_J52
  rw [h20]
  refine Ev.let_ fun N1 e1 => Ev.let_ fun N2 e2 => Ev.let_ fun N3 e3 => ?_
  have q3 : Q4 N N3 := by rw [e3, e2, e1]; exact ((Q4.rf.mst (by omega)).mst (by omega)).mst (by omega)
  have f20 : N3 22 0 20 = nI s := by rw [e3, e2, e1]; simp [mst22]; exact h20
  have f21 : N3 22 0 21 = nI s := by rw [e3, e2, e1]; simp [mst22]
  have f22 : N3 22 0 22 = 0 := by rw [e3, e2, e1]; simp [mst22]
  have f23 : N3 22 0 23 = 0 := by rw [e3, e2, e1]; simp [mst22]
  have h3 := h.q4 q3
  have hq3 := hq.tr q3
  clear e1 e2 e3
  rw [f20, h3.1]
  by_cases q : s = n
  · rw [if_pos (by rw [q])]
    refine Ev.ret ?_
    have el : lexT b n s = ((0, 0), n) := by unfold lexT; rw [if_neg (by omega)]
    unfold NXP
    rw [el]
    exact ⟨by rw [f20, q], f21, f22, fun w => absurd w (by show ¬ (0 = 2 ∨ 0 = 3 ∨ 0 = 4); decide), hq3⟩
  · have hlt : s < n := by omega
    rw [if_neg (fun z => q (nI_inj32 (by omega) (by omega) z)), nI_clamp (show s < 2 ^ 31 by omega), h3.2.1 s hlt]
    refine Ev.gd (inb_nI (by omega) (by decide)) (Ev.letv ?_)
    rw [in_bt, ob_some]
    by_cases hl : lLet (b s) = true
    · rw [hl, if_neg (by decide)]
      exact word_ev hn hlt hl h3 hq3 f20 f21
    · rw [if_pos (bt_0.mpr (by simpa using hl)), in_btd, ob_some]
      by_cases hd : lDig (b s) = true
      · rw [hd, if_neg (by decide)]
        exact num_ev hn hlt hl hd h3 hq3 f20 f21 f23
      · rw [if_pos (bt_0.mpr (by simpa using hd))]
        have yes : ∀ z, b s = z → rTk (sgK z) = z → Ev (fX11_next_J374 (b s) N3) (fun _ N' => NXP b n s N0 N') := fun z hz hr => by
          unfold fX11_next_J374
          exact j379_ev hlt hl hd hq3 f20 f21 (Or.inr ⟨rfl, by rw [hz]; exact hr⟩)
        by_cases c1 : b s = 40
        · rw [if_pos c1]; exact yes _ c1 (by decide)
        rw [if_neg c1]
        by_cases c2 : b s = 41
        · rw [if_pos c2]; exact yes _ c2 (by decide)
        rw [if_neg c2]
        by_cases c3 : b s = 59
        · rw [if_pos c3]; exact yes _ c3 (by decide)
        rw [if_neg c3]
        by_cases c4 : b s = 43
        · rw [if_pos c4]; exact yes _ c4 (by decide)
        rw [if_neg c4]
        by_cases c5 : b s = 45
        · rw [if_pos c5]; exact yes _ c5 (by decide)
        rw [if_neg c5]
        by_cases c6 : b s = 42
        · rw [if_pos c6]; exact yes _ c6 (by decide)
        rw [if_neg c6]
        by_cases c7 : b s = 60
        · rw [if_pos c7]; exact yes _ c7 (by decide)
        rw [if_neg c7]
        by_cases c8 : b s = 61
        · rw [if_pos c8]; exact yes _ c8 (by decide)
        rw [if_neg c8]
        refine j379_ev hlt hl hd hq3 f20 f21 (Or.inl ⟨rfl, ?_⟩)
        unfold sgK
        rw [if_neg c1, if_neg c2, if_neg c6, if_neg c4, if_neg c5, if_neg c3, if_neg c7, if_neg c8]
theorem lBlk_f {z : Int32} (h : lBlk z = false) : ¬ z = 32 ∧ ¬ z = 10 := by
  unfold lBlk at h
  rw [Bool.or_eq_false_iff, decide_eq_false_iff_not, decide_eq_false_iff_not] at h
  exact h
theorem next_ev {b : Nat → Int32} {n : Nat} (hn : n ≤ 160) {p : Nat} (hp : p ≤ n) {N : Mem} (h : RT b n N) (h20 : N 22 0 20 = nI p) : Ev (fX11_next N) (fun _ N' => NXP b n (scE lBlk b n p) N N') := by
  obtain ⟨a1, a2, a3, a4⟩ := scE_fact lBlk b hp
  unfold fX11_next
  refine Ev.loop (f := fun n (_ : Unit) M => fX11_next_L0 n M) (B := fun k _ M => fX11_next_B0 (fun M => k () M) M) (fun _ _ _ => rfl) (scE lBlk b n p) (fun j _ M => p ≤ j ∧ RT b n M ∧ Q4 N M ∧ M 22 0 20 = nI j) ?_ ?_ FU p () N a1 (by show _ < 2000 + p; omega) ⟨Nat.le_refl _, h, Q4.rf, h20⟩
  · rintro k j - M hj ⟨g0, g1, g2, g3⟩ cont
    have hb := a3 j g0 hj
    unfold lBlk at hb
    rw [Bool.or_eq_true, decide_eq_true_eq, decide_eq_true_eq] at hb
    show Ev (fX11_next_B0 _ M) _
    unfold fX11_next_B0
    have inc : Ev (fX11_next_J39 (fun M => k () M) M) (fun _ N' => NXP b n (scE lBlk b n p) N N') := by
      unfold fX11_next_J39
      rw [g3, nI_1]
      exact Ev.let_ fun N1 e1 => cont () N1 ⟨by omega, by rw [e1]; exact g1.q4 (Q4.rf.mst (by omega)), by rw [e1]; exact g2.mst (by omega), by rw [e1]; simp [mst22]⟩
    rw [g1.1, g3, if_neg (fun q => by have := (nI_leI (by omega) (by omega)).mp q; omega), nI_clamp (show j < 2 ^ 31 by omega), g1.2.1 j (by omega)]
    refine Ev.gd (inb_nI (by omega) (by decide)) ?_
    by_cases c : b j = 32
    · rw [if_pos c]; exact inc
    · rw [if_neg c]
      refine Ev.gd (inb_nI (by omega) (by decide)) ?_
      rw [if_pos (hb.resolve_left c)]
      exact inc
  · rintro k - M ⟨g0, g1, g2, g3⟩
    show Ev (fX11_next_B0 _ M) _
    unfold fX11_next_B0
    have J := j52_ev hn a2 g1 g2 g3
    rw [g1.1, g3]
    by_cases q : scE lBlk b n p < n
    · have hb := lBlk_f (a4 q)
      rw [if_neg (fun q => by have := (nI_leI (by omega) (by omega)).mp q; omega), nI_clamp (show scE lBlk b n p < 2 ^ 31 by omega), g1.2.1 _ q, if_neg hb.1, if_neg hb.2]
      exact Ev.gd (inb_nI (by omega) (by decide)) (Ev.gd (inb_nI (by omega) (by decide)) J)
    · rw [if_pos ((nI_leI (by omega) (by omega)).mpr (by omega))]
      exact J
theorem radv {b : Nat → Int32} {n : Nat} (hn : n ≤ 160) {M0 : Mem} (h : RT b n M0) : RAdv (tkT b n) (stT b n) (nxT b n) M0 := by
  intro i N h1 h2 h3 h4
  rw [psN_T] at h1
  have hR : RT b n N := ⟨h4.trans h.1, fun x hx => by rw [h2]; exact h.2.1 x hx, fun x hx => by rw [h3]; exact h.2.2 x hx⟩
  refine (next_ev hn (posT_fact b n i).1 hR h1).mono (fun _ N' ⟨a1, a2, a3, a4, a5⟩ => ⟨a1, a2, a3, a4, a5.1, a5.2⟩)
end NA
