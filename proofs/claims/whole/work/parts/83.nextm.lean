/-! the reference's next -/
section NM
/-- what next comes to, from the place s of the token on -/
def NXP (b : Nat → Int32) (n s : Nat) (N N' : Mem) : Prop := N' 22 0 20 = nI (lexT b n s).2 ∧ N' 22 0 21 = nI s ∧ N' 22 0 22 = rTk (lexT b n s).1.1 ∧ ((lexT b n s).1.1 = 2 ∨ (lexT b n s).1.1 = 3 ∨ (lexT b n s).1.1 = 4 → N' 22 0 23 = nI (lexT b n s).1.2) ∧ Q4 N N'
theorem wdK_r : ∀ r, r < 13 → (r < 3 → rTk (wdK r).1 = 3 ∧ (wdK r).2 = r) ∧ (3 ≤ r ∧ r < 9 → rTk (wdK r).1 = 2 ∧ (wdK r).2 = r - 3) ∧ (9 ≤ r ∧ r < 12 → rTk (wdK r).1 = (4 + nI r) - 9 ∧ ¬ ((wdK r).1 = 2 ∨ (wdK r).1 = 3 ∨ (wdK r).1 = 4)) ∧ (r = 12 → rTk (wdK r).1 = -1 ∧ ¬ ((wdK r).1 = 2 ∨ (wdK r).1 = 3 ∨ (wdK r).1 = 4)) := by decide +kernel
theorem j195_ev (r : Nat) (hr : r < 13) (z : Int32) (N : Mem) : Ev (fX11_next_J195 (nI r) z N) (fun _ N' => N' 22 0 22 = z ∧ N' 22 0 23 = nI (if 3 ≤ r then r - 3 else r) ∧ N' 22 0 20 = N 22 0 20 ∧ N' 22 0 21 = N 22 0 21 ∧ Q4 N N') := by
  unfold fX11_next_J195
  refine Ev.let_ fun N1 e1 => ?_
  by_cases h : 3 ≤ r
  · rw [if_pos (show (3 : Int32) ≤ nI r from (nI_leI (a := 3) (by omega) (by omega)).mpr h), show nI r - 3 = nI (r - 3) from pk_sub (b := 3) h, if_pos h]
    refine Ev.let_ fun N2 e2 => Ev.ret ?_
    subst e2 e1
    exact ⟨by simp [mst22], by simp [mst22], by simp [mst22], by simp [mst22], (Q4.rf.mst (by omega)).mst (by omega)⟩
  · rw [if_neg (show ¬ (3 : Int32) ≤ nI r from fun q => h ((nI_leI (a := 3) (by omega) (by omega)).mp q)), if_neg h]
    refine Ev.let_ fun N2 e2 => Ev.ret ?_
    subst e2 e1
    exact ⟨by simp [mst22], by simp [mst22], by simp [mst22], by simp [mst22], (Q4.rf.mst (by omega)).mst (by omega)⟩
theorem j146_ev {b : Nat → Int32} {n : Nat} (hn : n ≤ 160) {s : Nat} (hs : s < n) (hl : lLet (b s) = true) {N0 N : Mem} (h : RT b n N) (hq : Q4 N0 N) (h20 : N 22 0 20 = nI (scE lLet b n s)) (h21 : N 22 0 21 = nI s) : Ev (fX11_next_J146 N) (fun _ N' => NXP b n s N0 N') := by
  obtain ⟨a1, a2, a3, a4⟩ := scE_fact lLet b (Nat.le_of_lt hs)
  have el : lexT b n s = (wdK (wdN b s (scE lLet b n s)), scE lLet b n s) := by unfold lexT; rw [if_pos hs, if_pos hl]
  have h12 := wdN_12 b s (scE lLet b n s)
  unfold fX11_next_J146
  rw [h21, h20]
  refine Ev.bind (wf_ev hn a1 a2 h) (fun r N1 q1 => ?_)
  obtain ⟨rfl, rfl⟩ := q1
  unfold NXP
  rw [el]
  show Ev _ (fun _ N' => N' 22 0 20 = nI (scE lLet b n s) ∧ N' 22 0 21 = nI s ∧ N' 22 0 22 = rTk (wdK (wdN b s (scE lLet b n s))).1 ∧ ((wdK (wdN b s (scE lLet b n s))).1 = 2 ∨ (wdK (wdN b s (scE lLet b n s))).1 = 3 ∨ (wdK (wdN b s (scE lLet b n s))).1 = 4 → N' 22 0 23 = nI (wdK (wdN b s (scE lLet b n s))).2) ∧ Q4 N0 N')
  generalize wdN b s (scE lLet b n s) = r at *
  obtain ⟨c1, c2, c3, c4⟩ := wdK_r r (by omega)
  have i3 : (3 : Int32) ≤ nI r ↔ 3 ≤ r := nI_leI (a := 3) (by omega) (by omega)
  have i9 : (9 : Int32) ≤ nI r ↔ 9 ≤ r := nI_leI (a := 9) (by omega) (by omega)
  have i12 : nI r = 12 ↔ r = 12 := ⟨fun z => nI_inj32 (a := r) (b := 12) (by omega) (by omega) z, fun z => by rw [z]; rfl⟩
  by_cases h3 : 3 ≤ r
  · rw [if_pos (i3.mpr h3)]
    by_cases h9 : 9 ≤ r
    · rw [if_pos (i9.mpr h9)]
      by_cases h12 : r = 12
      · rw [if_pos (i12.mpr h12)]
        exact (j195_ev r (by omega) _ N1).mono (fun _ N' ⟨d1, d2, d3, d4, d5⟩ => ⟨d3.trans h20, d4.trans h21, d1.trans (c4 h12).1.symm, fun q => absurd q (c4 h12).2, hq.tr d5⟩)
      · rw [if_neg (fun z => h12 (i12.mp z))]
        exact (j195_ev r (by omega) _ N1).mono (fun _ N' ⟨d1, d2, d3, d4, d5⟩ => ⟨d3.trans h20, d4.trans h21, d1.trans (c3 ⟨h9, by omega⟩).1.symm, fun q => absurd q (c3 ⟨h9, by omega⟩).2, hq.tr d5⟩)
    · rw [if_neg (fun z => h9 (i9.mp z))]
      exact (j195_ev r (by omega) _ N1).mono (fun _ N' ⟨d1, d2, d3, d4, d5⟩ => ⟨d3.trans h20, d4.trans h21, d1.trans (c2 ⟨h3, by omega⟩).1.symm, fun _ => by rw [d2, if_pos h3, (c2 ⟨h3, by omega⟩).2], hq.tr d5⟩)
  · rw [if_neg (fun z => h3 (i3.mp z))]
    exact (j195_ev r (by omega) _ N1).mono (fun _ N' ⟨d1, d2, d3, d4, d5⟩ => ⟨d3.trans h20, d4.trans h21, d1.trans (c1 (by omega)).1.symm, fun _ => by rw [d2, if_neg h3, (c1 (by omega)).2], hq.tr d5⟩)
theorem word_ev {b : Nat → Int32} {n : Nat} (hn : n ≤ 160) {s : Nat} (hs : s < n) (hl : lLet (b s) = true) {N0 N : Mem} (h : RT b n N) (hq : Q4 N0 N) (h20 : N 22 0 20 = nI s) (h21 : N 22 0 21 = nI s) : Ev (fX11_next_L103 FU N) (fun _ N' => NXP b n s N0 N') := by
  obtain ⟨a1, a2, a3, a4⟩ := scE_fact lLet b (Nat.le_of_lt hs)
  refine Ev.loop (f := fun n (_ : Unit) M => fX11_next_L103 n M) (B := fun k _ M => fX11_next_B103 (fun M => k () M) M) (fun _ _ _ => rfl) (scE lLet b n s) (fun j _ M => s ≤ j ∧ RT b n M ∧ Q4 N0 M ∧ M 22 0 20 = nI j ∧ M 22 0 21 = nI s) ?_ ?_ FU s () N a1 (by show _ < 2000 + s; omega) ⟨Nat.le_refl _, h, hq, h20, h21⟩
  · rintro k j - M hj ⟨g0, g1, g2, g3, g4⟩ cont
    show Ev (fX11_next_B103 _ M) _
    unfold fX11_next_B103
    rw [g1.1, g3, if_neg (fun q => by have := (nI_leI (by omega) (by omega)).mp q; omega), nI_clamp (show j < 2 ^ 31 by omega), g1.2.1 j (by omega), in_bt, a3 j g0 hj, ob_some]
    refine Ev.gd (inb_nI (by omega) (by decide)) ?_
    rw [if_neg (by decide), g3, nI_1]
    exact Ev.let_ fun N1 e1 => cont () N1 ⟨by omega, by rw [e1]; exact g1.q4 (Q4.rf.mst (by omega)), by rw [e1]; exact g2.mst (by omega), by rw [e1]; simp [mst22], by rw [e1]; simp [mst22]; exact g4⟩
  · rintro k - M ⟨g0, g1, g2, g3, g4⟩
    show Ev (fX11_next_B103 _ M) _
    unfold fX11_next_B103
    rw [g1.1, g3]
    by_cases q : scE lLet b n s < n
    · rw [if_neg (fun q => by have := (nI_leI (by omega) (by omega)).mp q; omega), nI_clamp (show scE lLet b n s < 2 ^ 31 by omega), g1.2.1 _ q, in_bt, a4 q, ob_some]
      refine Ev.gd (inb_nI (by omega) (by decide)) ?_
      rw [if_pos (by decide)]
      exact j146_ev hn hs hl g1 g2 g3 g4
    · rw [if_pos ((nI_leI (by omega) (by omega)).mpr (by omega))]
      exact j146_ev hn hs hl g1 g2 g3 g4
theorem num_ev {b : Nat → Int32} {n : Nat} (hn : n ≤ 160) {s : Nat} (hs : s < n) (hl : ¬ lLet (b s) = true) (hd : lDig (b s) = true) {N0 N : Mem} (h : RT b n N) (hq : Q4 N0 N) (h20 : N 22 0 20 = nI s) (h21 : N 22 0 21 = nI s) (h23 : N 22 0 23 = 0) : Ev (fX11_next_L230 FU 0 N) (fun _ N' => NXP b n s N0 N') := by
  obtain ⟨a1, a2, a3, a4⟩ := scE_fact lDig b (Nat.le_of_lt hs)
  have el : lexT b n s = ((if scE lDig b n s - s ≤ 4 then (2, numV b s (scE lDig b n s - s)) else (1, 0)), scE lDig b n s) := by unfold lexT; rw [if_pos hs, if_neg hl, if_pos hd]
  have fin : ∀ M, RT b n M → Q4 N0 M → M 22 0 20 = nI (scE lDig b n s) → M 22 0 21 = nI s → (scE lDig b n s - s ≤ 4 → M 22 0 23 = nI (numV b s (scE lDig b n s - s))) → Ev (fX11_next_J309 (nI (scE lDig b n s - s)) M) (fun _ N' => NXP b n s N0 N') := by
    intro M g1 g2 g3 g4 g5
    unfold fX11_next_J309 NXP
    rw [el]
    by_cases q : scE lDig b n s - s ≤ 4
    · rw [if_pos (show nI (scE lDig b n s - s) ≤ 4 from (nI_leI (b := 4) (by omega) (by omega)).mpr q), if_pos q]
      refine Ev.let_ fun N1 e1 => Ev.ret ?_
      subst e1
      exact ⟨by simp [mst22]; exact g3, by simp [mst22]; exact g4, by simp [mst22]; rfl, fun _ => by simp [mst22]; exact g5 q, g2.mst (by omega)⟩
    · rw [if_neg (show ¬ nI (scE lDig b n s - s) ≤ 4 from fun z => q ((nI_leI (b := 4) (by omega) (by omega)).mp z)), if_neg q]
      refine Ev.let_ fun N1 e1 => Ev.ret ?_
      subst e1
      exact ⟨by simp [mst22]; exact g3, by simp [mst22]; exact g4, by simp [mst22]; rfl, fun z => absurd z (by show ¬ (1 = 2 ∨ 1 = 3 ∨ 1 = 4); decide), g2.mst (by omega)⟩
  refine Ev.loop (f := fX11_next_L230) (B := fX11_next_B230) (fun _ _ _ => rfl) (scE lDig b n s - s) (fun j x M => x = nI j ∧ RT b n M ∧ Q4 N0 M ∧ M 22 0 20 = nI (s + j) ∧ M 22 0 21 = nI s ∧ (j ≤ 4 → M 22 0 23 = nI (numV b s j))) ?_ ?_ FU 0 0 N (Nat.zero_le _) (by show _ < 2000 + 0; omega) ⟨rfl, h, hq, h20, h21, fun _ => h23⟩
  · rintro k j x M hj ⟨rfl, g1, g2, g3, g4, g5⟩ cont
    have hdg := lDig_d (a3 (s + j) (by omega) (by omega))
    unfold fX11_next_B230
    rw [g1.1, g3, if_neg (fun q => by have := (nI_leI (by omega) (by omega)).mp q; omega), nI_clamp (show s + j < 2 ^ 31 by omega), g1.2.1 (s + j) (by omega), in_btd, a3 (s + j) (by omega) (by omega), ob_some]
    refine Ev.gd (inb_nI (by omega) (by decide)) ?_
    rw [if_neg (by decide)]
    have go : ∀ z, (j + 1 ≤ 4 → z = nI (numV b s (j + 1))) → Ev (fX11_next_J290 k (nI j) z M) (fun _ N' => NXP b n s N0 N') := by
      intro z hz
      unfold fX11_next_J290
      refine Ev.let_ fun N1 e1 => ?_
      have f1 : N1 22 0 20 = nI (s + j) := by rw [e1]; simp [mst22]; exact g3
      rw [f1, nI_1, nI_1]
      refine Ev.let_ fun N2 e2 => cont _ N2 ⟨rfl, ?_, ?_, ?_, ?_, ?_⟩
      · rw [e2, e1]; exact g1.q4 ((Q4.rf.mst (by omega)).mst (by omega))
      · rw [e2, e1]; exact (g2.mst (by omega)).mst (by omega)
      · rw [e2]; simp [mst22]; rfl
      · rw [e2, e1]; simp [mst22]; exact g4
      · intro q; rw [e2, e1]; simp [mst22]; exact hz q
    by_cases h4 : 4 ≤ j
    · rw [if_pos (show (4 : Int32) ≤ nI j from (nI_leI (a := 4) (by omega) (by omega)).mpr h4)]
      exact go 0 (fun q => by omega)
    · rw [if_neg (show ¬ (4 : Int32) ≤ nI j from fun z => h4 ((nI_leI (a := 4) (by omega) (by omega)).mp z))]
      rw [g3, nI_clamp (show s + j < 2 ^ 31 by omega), g1.2.1 (s + j) (by omega)]
      refine Ev.gd (inb_nI (by omega) (by decide)) ?_
      have hz : j + 1 ≤ 4 → (10 * M 22 0 23) + b (s + j) - 48 = nI (numV b s (j + 1)) := ?_
      · exact go _ hz
      intro q
      rw [g5 (by omega), hdg.2, show (10 : Int32) = nI 10 from rfl, nI_mulB, nI_add, show 10 * numV b s j + (48 + dgN (b (s + j))) = numV b s (j + 1) + 48 by show _ = 10 * numV b s j + dgN (b (s + j)) + 48; omega]
      rw [show nI (numV b s (j + 1) + 48) - 48 = nI (numV b s (j + 1) + 48 - 48) from pk_sub (b := 48) (by omega), Nat.add_sub_cancel]
  · rintro k x M ⟨rfl, g1, g2, g3, g4, g5⟩
    rw [show s + (scE lDig b n s - s) = scE lDig b n s by omega] at g3
    unfold fX11_next_B230
    rw [g1.1, g3]
    by_cases q : scE lDig b n s < n
    · rw [if_neg (fun q => by have := (nI_leI (by omega) (by omega)).mp q; omega), nI_clamp (show scE lDig b n s < 2 ^ 31 by omega), g1.2.1 _ q, in_btd, a4 q, ob_some]
      refine Ev.gd (inb_nI (by omega) (by decide)) ?_
      rw [if_pos (by decide)]
      exact fin M g1 g2 g3 g4 g5
    · rw [if_pos ((nI_leI (by omega) (by omega)).mpr (by omega))]
      exact fin M g1 g2 g3 g4 g5
end NM
