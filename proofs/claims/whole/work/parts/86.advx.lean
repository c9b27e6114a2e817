/-! the class's advance -/
section AX
def XQ (N N' : Mem) : Prop := Off (fun K i => K = 1 ∧ i = 0) N N' ∧ ∀ x, ¬ (5 ≤ x ∧ x < 9) → N' 1 0 x = N 1 0 x
theorem XQ.rf {N : Mem} : XQ N N := ⟨Off.rf, fun _ _ => rfl⟩
theorem XQ.tr {a c d : Mem} (h : XQ a c) (h2 : XQ c d) : XQ a d := ⟨h.1.tr h2.1, fun x hx => (h2.2 x hx).trans (h.2 x hx)⟩
theorem XQ.mst {a c : Mem} {x : Nat} {v : Int32} (h : XQ a c) (hx : 5 ≤ x ∧ x < 9) : XQ a (mst c 1 0 x v) := ⟨h.1.mst (by simp), fun y hy => by
  rw [mst_s]
  have : ¬ y = x := by omega
  simp only [upd, if_neg this]
  exact h.2 y hy⟩
theorem mst10 {M : Mem} {x y : Nat} {v : Int32} : mst M 1 0 x v 1 0 y = if y = x then v else M 1 0 y := by
  rw [mst_s]
  rfl
theorem XT.xq {b : Nat → Int32} {n : Nat} {N N' : Mem} (h : XT b n N) (q : XQ N N') : XT b n N' := ⟨(q.2 3 (by omega)).trans h.1, fun x hx => by rw [q.1 2 0 (by simp)]; exact h.2 x hx⟩
theorem isLet_ev (M : Mem) (z : Int32) : fX4_isLetter z M = some (bt (lLet z), M) := by
  unfold fX4_isLetter
  rw [within_ev, ob_some]
  show gd (isB (bt (lLet z))) _ = _
  rw [isB_bt]
  rfl
theorem isDig_ev (M : Mem) (z : Int32) : fX4_isDigit z M = some (bt (lDig z), M) := by
  unfold fX4_isDigit
  rw [within_ev, ob_some]
  show gd (isB (bt (lDig z))) _ = _
  rw [isB_bt]
  rfl
def NXX (b : Nat → Int32) (n s : Nat) (N N' : Mem) : Prop := N' 1 0 5 = cTk (lexT b n s).1.1 (lexT b n s).1.2 ∧ ((lexT b n s).1.1 = 2 ∨ (lexT b n s).1.1 = 3 → N' 1 0 6 = nI (lexT b n s).1.2) ∧ N' 1 0 7 = nI s ∧ N' 1 0 8 = nI (lexT b n s).2 ∧ XQ N N'
theorem kwP_t : ∀ c, c < 12 → (6 ≤ c → wdK (kwP c) = (3, c - 6)) ∧ (c < 6 → cTk (wdK (kwP c)).1 (wdK (kwP c)).2 = nI (4 + c) ∧ ¬ ((wdK (kwP c)).1 = 2 ∨ (wdK (kwP c)).1 = 3)) := by decide +kernel
/-- what token and worth are when the first c words have been looked at -/
def twI (b : Nat → Int32) (s e c : Nat) (M : Mem) : Prop := (M 1 0 5 = 1 ∧ ∀ u, u < c → wm b s e (kwP u) = false) ∨ ∃ u, u < 12 ∧ wm b s e (kwP u) = true ∧ (6 ≤ u → M 1 0 5 = 3 ∧ M 1 0 6 = nI (u - 6)) ∧ (u < 6 → M 1 0 5 = nI (4 + u))
theorem j47_ev {b : Nat → Int32} {n : Nat} (hn : n ≤ 160) {s : Nat} (hs : s < n) (hl : lLet (b s) = true) {N0 N : Mem} (h : XT b n N) (hq : XQ N0 N) (h7 : N 1 0 7 = nI s) (h8 : N 1 0 8 = nI (scE lLet b n s)) : Ev (fX4_takeWord_J47 N) (fun _ N' => NXX b n s N0 N') := by
  obtain ⟨a1, a2, a3, a4⟩ := scE_fact lLet b (Nat.le_of_lt hs)
  have el : lexT b n s = (wdK (wdN b s (scE lLet b n s)), scE lLet b n s) := by unfold lexT; rw [if_pos hs, if_pos hl]
  have fin : ∀ M, XT b n M → XQ N0 M → M 1 0 7 = nI s → M 1 0 8 = nI (scE lLet b n s) → twI b s (scE lLet b n s) 12 M → NXX b n s N0 M := by
    intro M g1 g2 g3 g4 g5
    unfold NXX
    rw [el]
    show M 1 0 5 = cTk (wdK (wdN b s (scE lLet b n s))).1 (wdK (wdN b s (scE lLet b n s))).2 ∧ ((wdK (wdN b s (scE lLet b n s))).1 = 2 ∨ (wdK (wdN b s (scE lLet b n s))).1 = 3 → M 1 0 6 = nI (wdK (wdN b s (scE lLet b n s))).2) ∧ M 1 0 7 = nI s ∧ M 1 0 8 = nI (scE lLet b n s) ∧ XQ N0 M
    rcases g5 with ⟨e5, no⟩ | ⟨u, hu, hw, p6, p0⟩
    · have e12 : wdN b s (scE lLet b n s) = 12 := wdN_no (fun v hv => by
        obtain ⟨c, hc, rfl⟩ := kw_t4 v hv
        exact no c hc)
      rw [e12]
      exact ⟨e5.trans (by decide), fun w => absurd w (by decide), g3, g4, g2⟩
    · rw [wdN_is (kw_t1 u hu).1 hw]
      obtain ⟨t1, t2⟩ := kwP_t u hu
      by_cases h6 : 6 ≤ u
      · obtain ⟨p5, p6⟩ := p6 h6
        rw [t1 h6]
        exact ⟨p5.trans rfl, fun _ => p6, g3, g4, g2⟩
      · obtain ⟨t3, t4⟩ := t2 (by omega)
        exact ⟨(p0 (by omega)).trans t3.symm, fun w => absurd w t4, g3, g4, g2⟩
  unfold fX4_takeWord_J47
  refine Ev.let_ fun N1 e1 => ?_
  have x1 : XT b n N1 := by rw [e1]; exact h.xq (XQ.rf.mst (by omega))
  have y1 : XQ N0 N1 := by rw [e1]; exact hq.mst (by omega)
  have z5 : N1 1 0 5 = 1 := by rw [e1]; simp [mst10]
  have z7 : N1 1 0 7 = nI s := by rw [e1]; simp [mst10]; exact h7
  have z8 : N1 1 0 8 = nI (scE lLet b n s) := by rw [e1]; simp [mst10]; exact h8
  clear e1
  refine Ev.loop (f := fun n (x : Int32 × Int32 × Int32) M => fX4_takeWord_L58 n x.1 x.2.1 x.2.2 M) (B := fun k x M => fX4_takeWord_B58 (fun a c d M => k (a, c, d) M) x.1 x.2.1 x.2.2 M) (fun _ _ _ => rfl) 61 (fun j x M => XT b n M ∧ XQ N0 M ∧ M 1 0 7 = nI s ∧ M 1 0 8 = nI (scE lLet b n s) ∧ x.2.2 = nI j ∧ ∃ c, c ≤ 12 ∧ x.1 = nI c ∧ x.2.1 = nI (kwS c) ∧ ((c < 12 ∧ kwS c ≤ j ∧ j ≤ kwE c) ∨ (c = 12 ∧ j = 61)) ∧ twI b s (scE lLet b n s) c M) ?_ ?_ FU 0 (0, 0, 0) N1 (by omega) (by show 61 < 2000 + 0; omega) ⟨x1, y1, z7, z8, rfl, 0, by omega, rfl, rfl, Or.inl ⟨by omega, Nat.le_refl _, Nat.zero_le _⟩, Or.inl ⟨z5, fun u hu => absurd hu (Nat.not_lt_zero u)⟩⟩
  · rintro k j ⟨v1, v2, v3⟩ M hj ⟨g1, g2, g3, g4, h3, c, hc, h1, h2, hr, ht⟩ cont
    have h3 : v3 = nI j := h3
    have h1 : v1 = nI c := h1
    have h2 : v2 = nI (kwS c) := h2
    subst h1 h2 h3
    obtain ⟨hc, r1, r2⟩ : c < 12 ∧ kwS c ≤ j ∧ j ≤ kwE c := by rcases hr with q | q; exact q; omega
    obtain ⟨t1, t2, t3, t4, t5, t6⟩ := kw_t1 c hc
    have nxt : j = kwE c → (c + 1 < 12 ∧ kwS (c + 1) ≤ j + 1 ∧ j + 1 ≤ kwE (c + 1)) ∨ (c + 1 = 12 ∧ j + 1 = 61) := by
      intro ej
      by_cases z : c + 1 = 12
      · right
        have hc11 : c = 11 := by omega
        subst hc11
        exact ⟨z, by rw [ej]; decide⟩
      · left
        obtain ⟨u1, u2, u3, u4, u5, u6⟩ := kw_t1 (c + 1) (by omega)
        exact ⟨by omega, by omega, by omega⟩
    show Ev (fX4_takeWord_B58 (fun a c d M => k (a, c, d) M) (nI c) (nI (kwS c)) (nI j) M) _
    unfold fX4_takeWord_B58 fKlen fKch
    rw [ob_some, if_neg (fun z => by have := (nI_leI (a := 61) (by omega) (by omega)).mp z; omega), show inb (nI j) 61 = true from inb_nI (by omega) (by decide)]
    show Ev (if wch (nI j) = 32 then _ else _) _
    by_cases e1 : j = kwE c
    · have nx := nxt e1
      rw [e1, if_pos t6]
      rw [e1] at nx
      refine Ev.bind (isWord_ev hn a1 a2 hc a3 g1 g3 g4) (fun r N2 q1 => ?_)
      obtain ⟨rfl, rfl⟩ := q1
      cases hw : wm b s (scE lLet b n s) (kwP c) with
      | true =>
        rw [if_neg (by decide)]
        have go : ∀ t, (6 ≤ c → t = 3) → (c < 6 → t = nI (4 + c)) → Ev (fX4_takeWord_J101 (fun a c d M => k (a, c, d) M) (nI c) (nI (kwE c)) t N2) (fun _ N' => NXX b n s N0 N') := by
          intro t w6 w0
          unfold fX4_takeWord_J101
          refine Ev.let_ fun N3 e3 => Ev.let_ fun N4 e4 => Ev.letv ?_
          rw [nI_1, nI_1]
          refine cont _ _ ⟨?_, ?_, ?_, ?_, by rw [e1], c + 1, by omega, rfl, by rw [t5], by rw [e1]; exact nx, Or.inr ⟨c, hc, hw, fun q => ⟨?_, ?_⟩, fun q => ?_⟩⟩
          · rw [e4, e3]; exact g1.xq ((XQ.rf.mst (by omega)).mst (by omega))
          · rw [e4, e3]; exact (g2.mst (by omega)).mst (by omega)
          · rw [e4, e3]; simp [mst10]; exact g3
          · rw [e4, e3]; simp [mst10]; exact g4
          · rw [e4, e3]; simp [mst10]; exact w6 q
          · rw [e4]; simp [mst10]; exact pk_sub (b := 6) q
          · rw [e4, e3]; simp [mst10]; exact w0 q
        by_cases h6 : 6 ≤ c
        · rw [if_pos (show (6 : Int32) ≤ nI c from (nI_leI (a := 6) (by omega) (by omega)).mpr h6)]
          exact go 3 (fun _ => rfl) (fun q => absurd q (by omega))
        · rw [if_neg (show ¬ (6 : Int32) ≤ nI c from fun z => h6 ((nI_leI (a := 6) (by omega) (by omega)).mp z)), show (4 : Int32) = nI 4 from rfl, nI_add]
          exact go _ (fun q => absurd q h6) (fun _ => rfl)
      | false =>
        rw [if_pos (by decide)]
        refine Ev.letv ?_
        rw [nI_1, nI_1]
        refine cont _ _ ⟨g1, g2, g3, g4, by rw [e1], c + 1, by omega, rfl, by rw [t5], by rw [e1]; exact nx, ?_⟩
        rcases ht with ⟨e5, no⟩ | w
        · refine Or.inl ⟨e5, fun u hu => ?_⟩
          by_cases z : u = c
          · rw [z]; exact hw
          · exact no u (by omega)
        · exact Or.inr w
    · have t2x := kw_t2 c hc (j - kwS c) (by omega) (by omega)
      rw [show kwS c + (j - kwS c) = j by omega] at t2x
      rw [if_neg (fun z => t2x.2 (t2x.1.symm.trans z)), nI_1]
      exact cont _ _ ⟨g1, g2, g3, g4, rfl, c, by omega, rfl, rfl, Or.inl ⟨hc, by omega, by omega⟩, ht⟩
  · rintro k ⟨v1, v2, v3⟩ M ⟨g1, g2, g3, g4, h3, c, hc, h1, h2, hr, ht⟩
    have h3 : v3 = nI 61 := h3
    subst h3
    have hc12 : c = 12 := by
      rcases hr with q | q
      · have := (kw_t1 c q.1).2.2.2.1; omega
      · exact q.1
    subst hc12
    show Ev (fX4_takeWord_B58 (fun a c d M => k (a, c, d) M) v1 v2 (nI 61) M) _
    unfold fX4_takeWord_B58 fKlen
    rw [ob_some, if_pos (by decide)]
    exact Ev.ret (fin M g1 g2 g3 g4 ht)
theorem takeW_ev {b : Nat → Int32} {n : Nat} (hn : n ≤ 160) {s : Nat} (hs : s < n) (hl : lLet (b s) = true) {N0 N : Mem} (h : XT b n N) (hq : XQ N0 N) (h7 : N 1 0 7 = nI s) : Ev (fX4_takeWord N) (fun _ N' => NXX b n s N0 N') := by
  obtain ⟨a1, a2, a3, a4⟩ := scE_fact lLet b (Nat.le_of_lt hs)
  unfold fX4_takeWord
  rw [h7]
  refine Ev.let_ fun N1 e1 => ?_
  have x1 : XT b n N1 := by rw [e1]; exact h.xq (XQ.rf.mst (by omega))
  have y1 : XQ N0 N1 := by rw [e1]; exact hq.mst (by omega)
  have z7 : N1 1 0 7 = nI s := by rw [e1]; simp [mst10]; exact h7
  have z8 : N1 1 0 8 = nI s := by rw [e1]; simp [mst10]
  refine Ev.loop (f := fun n (_ : Unit) M => fX4_takeWord_L8 n M) (B := fun k _ M => fX4_takeWord_B8 (fun M => k () M) M) (fun _ _ _ => rfl) (scE lLet b n s) (fun j _ M => s ≤ j ∧ XT b n M ∧ XQ N0 M ∧ M 1 0 7 = nI s ∧ M 1 0 8 = nI j) ?_ ?_ FU s () N1 a1 (by show _ < 2000 + s; omega) ⟨Nat.le_refl _, x1, y1, z7, z8⟩
  · rintro k j - M hj ⟨g0, g1, g2, g3, g4⟩ cont
    show Ev (fX4_takeWord_B8 _ M) _
    unfold fX4_takeWord_B8
    rw [g1.1, g4, if_neg (fun q => by have := (nI_leI (by omega) (by omega)).mp q; omega), nI_clamp (show j < 2 ^ 31 by omega), g1.2 j (by omega), isLet_ev, a3 j g0 hj, ob_some]
    refine Ev.gd (inb_nI (by omega) (by decide)) ?_
    rw [if_neg (by decide), g4, nI_1]
    exact Ev.let_ fun N2 e2 => cont () N2 ⟨by omega, by rw [e2]; exact g1.xq (XQ.rf.mst (by omega)), by rw [e2]; exact g2.mst (by omega), by rw [e2]; simp [mst10]; exact g3, by rw [e2]; simp [mst10]⟩
  · rintro k - M ⟨g0, g1, g2, g3, g4⟩
    show Ev (fX4_takeWord_B8 _ M) _
    unfold fX4_takeWord_B8
    have J := j47_ev hn hs hl g1 g2 g3 g4
    rw [g1.1, g4]
    by_cases q : scE lLet b n s < n
    · rw [if_neg (fun q => by have := (nI_leI (by omega) (by omega)).mp q; omega), nI_clamp (show scE lLet b n s < 2 ^ 31 by omega), g1.2 _ q, isLet_ev, a4 q, ob_some]
      refine Ev.gd (inb_nI (by omega) (by decide)) ?_
      rw [if_pos (by decide)]
      exact J
    · rw [if_pos ((nI_leI (by omega) (by omega)).mpr (by omega))]
      exact J
theorem takeN_ev {b : Nat → Int32} {n : Nat} (hn : n ≤ 160) {s : Nat} (hs : s < n) (hl : ¬ lLet (b s) = true) (hd : lDig (b s) = true) {N0 N : Mem} (h : XT b n N) (hq : XQ N0 N) (h7 : N 1 0 7 = nI s) : Ev (fX4_takeNumber N) (fun _ N' => NXX b n s N0 N') := by
  obtain ⟨a1, a2, a3, a4⟩ := scE_fact lDig b (Nat.le_of_lt hs)
  have el : lexT b n s = ((if scE lDig b n s - s ≤ 4 then (2, numV b s (scE lDig b n s - s)) else (1, 0)), scE lDig b n s) := by unfold lexT; rw [if_pos hs, if_neg hl, if_pos hd]
  unfold fX4_takeNumber
  rw [h7]
  refine Ev.let_ fun N1 e1 => Ev.let_ fun N2 e2 => ?_
  have x1 : XT b n N2 := by rw [e2, e1]; exact h.xq ((XQ.rf.mst (by omega)).mst (by omega))
  have y1 : XQ N0 N2 := by rw [e2, e1]; exact (hq.mst (by omega)).mst (by omega)
  have z7 : N2 1 0 7 = nI s := by rw [e2, e1]; simp [mst10]; exact h7
  have z8 : N2 1 0 8 = nI s := by rw [e2, e1]; simp [mst10]
  have z6 : N2 1 0 6 = 0 := by rw [e2]; simp [mst10]
  clear e1 e2
  have fin : ∀ M, XT b n M → XQ N0 M → M 1 0 7 = nI s → M 1 0 8 = nI (scE lDig b n s) → (scE lDig b n s - s ≤ 4 → M 1 0 6 = nI (numV b s (scE lDig b n s - s))) → Ev (fX4_takeNumber_J76 M) (fun _ N' => NXX b n s N0 N') := by
    intro M g1 g2 g3 g4 g5
    unfold fX4_takeNumber_J76 NXX
    rw [el, g4, g3, pk_sub a1]
    by_cases q : scE lDig b n s - s ≤ 4
    · rw [if_pos (show nI (scE lDig b n s - s) ≤ 4 from (nI_leI (b := 4) (by omega) (by omega)).mpr q), if_pos q]
      refine Ev.let_ fun N1 e1 => Ev.ret ?_
      subst e1
      exact ⟨by simp [mst10]; rfl, fun _ => by simp [mst10]; exact g5 q, by simp [mst10]; exact g3, by simp [mst10]; exact g4, g2.mst (by omega)⟩
    · rw [if_neg (show ¬ nI (scE lDig b n s - s) ≤ 4 from fun z => q ((nI_leI (b := 4) (by omega) (by omega)).mp z)), if_neg q]
      refine Ev.let_ fun N1 e1 => Ev.ret ?_
      subst e1
      exact ⟨by simp [mst10]; rfl, fun z => absurd z (by show ¬ (1 = 2 ∨ 1 = 3); decide), by simp [mst10]; exact g3, by simp [mst10]; exact g4, g2.mst (by omega)⟩
  refine Ev.loop (f := fun n (_ : Unit) M => fX4_takeNumber_L13 n M) (B := fun k _ M => fX4_takeNumber_B13 (fun M => k () M) M) (fun _ _ _ => rfl) (scE lDig b n s - s) (fun j _ M => XT b n M ∧ XQ N0 M ∧ M 1 0 7 = nI s ∧ M 1 0 8 = nI (s + j) ∧ (j ≤ 4 → M 1 0 6 = nI (numV b s j))) ?_ ?_ FU 0 () N2 (Nat.zero_le _) (by show _ < 2000 + 0; omega) ⟨x1, y1, z7, z8, fun _ => z6⟩
  · rintro k j - M hj ⟨g1, g2, g3, g4, g5⟩ cont
    have hdg := lDig_d (a3 (s + j) (by omega) (by omega))
    show Ev (fX4_takeNumber_B13 _ M) _
    unfold fX4_takeNumber_B13
    rw [g1.1, g4, if_neg (fun q => by have := (nI_leI (by omega) (by omega)).mp q; omega), nI_clamp (show s + j < 2 ^ 31 by omega), g1.2 (s + j) (by omega), isDig_ev, a3 (s + j) (by omega) (by omega), ob_some]
    refine Ev.gd (inb_nI (by omega) (by decide)) ?_
    rw [if_neg (by decide), g4, nI_clamp (show s + j < 2 ^ 31 by omega), g1.2 (s + j) (by omega)]
    refine Ev.gd (inb_nI (by omega) (by decide)) (Ev.let_ fun N3 e3 => ?_)
    have f8 : N3 1 0 8 = nI (s + j) := by rw [e3]; simp [mst10]; exact g4
    rw [f8, nI_1]
    refine Ev.let_ fun N4 e4 => cont () N4 ⟨?_, ?_, ?_, ?_, ?_⟩
    · rw [e4, e3]; exact g1.xq ((XQ.rf.mst (by omega)).mst (by omega))
    · rw [e4, e3]; exact (g2.mst (by omega)).mst (by omega)
    · rw [e4, e3]; simp [mst10]; exact g3
    · rw [e4]; simp [mst10]; rfl
    · intro q
      rw [e4, e3]
      simp only [mst10]
      rw [if_neg (by decide), if_pos trivial, g5 (by omega), hdg.2, show (10 : Int32) = nI 10 from rfl, nI_mulB, nI_add, show numV b s j * 10 + (48 + dgN (b (s + j))) = numV b s (j + 1) + 48 by show _ = 10 * numV b s j + dgN (b (s + j)) + 48; omega]
      rw [show nI (numV b s (j + 1) + 48) - 48 = nI (numV b s (j + 1) + 48 - 48) from pk_sub (b := 48) (by omega), Nat.add_sub_cancel]
  · rintro k - M ⟨g1, g2, g3, g4, g5⟩
    rw [show s + (scE lDig b n s - s) = scE lDig b n s by omega] at g4
    show Ev (fX4_takeNumber_B13 _ M) _
    unfold fX4_takeNumber_B13
    have J := fin M g1 g2 g3 g4 g5
    rw [g1.1, g4]
    by_cases q : scE lDig b n s < n
    · rw [if_neg (fun q => by have := (nI_leI (by omega) (by omega)).mp q; omega), nI_clamp (show scE lDig b n s < 2 ^ 31 by omega), g1.2 _ q, isDig_ev, a4 q, ob_some]
      refine Ev.gd (inb_nI (by omega) (by decide)) ?_
      rw [if_pos (by decide)]
      exact J
    · rw [if_pos ((nI_leI (by omega) (by omega)).mpr (by omega))]
      exact J
def isS (z : Int32) : Bool := (decide (40 ≤ z) && decide (z ≤ 43)) || decide (z = 45) || decide (z = 59) || decide (z = 60) || decide (z = 61)
theorem isSign_ev (M : Mem) (z : Int32) : fX4_isSign z M = some (bt (isS z), M) := by
  unfold fX4_isSign isS
  rw [within_ev, ob_some]
  cases (decide (40 ≤ z) && decide (z ≤ 43)) with
  | true => rw [if_neg (by decide)]; rfl
  | false =>
    rw [if_pos (by decide)]
    by_cases c1 : z = 45
    · rw [if_pos c1, decide_eq_true c1]; rfl
    rw [if_neg c1, decide_eq_false c1]
    by_cases c2 : z = 59
    · rw [if_pos c2, decide_eq_true c2]; rfl
    rw [if_neg c2, decide_eq_false c2]
    by_cases c3 : z = 60
    · rw [if_pos c3, decide_eq_true c3]; rfl
    rw [if_neg c3, decide_eq_false c3]
    by_cases c4 : z = 61
    · rw [if_pos c4, decide_eq_true c4]; rfl
    rw [if_neg c4, decide_eq_false c4]
    rfl
theorem isS_t (z : Int32) : (isS z = true → cTk (sgK z) 0 = z) ∧ (isS z = false → sgK z = 1) := by
  have e0 : (40 : Int32).toInt = 40 := by decide
  have e3 : (43 : Int32).toInt = 43 := by decide
  have big : ¬ (z = 40 ∨ z = 41 ∨ z = 42 ∨ z = 43) → (decide (40 ≤ z) && decide (z ≤ 43)) = false := by
    intro h
    cases hq : (decide (40 ≤ z) && decide (z ≤ 43)) with
    | false => rfl
    | true =>
      exfalso
      rw [Bool.and_eq_true, decide_eq_true_eq, decide_eq_true_eq, Int32.le_iff_toInt_le, Int32.le_iff_toInt_le, e0, e3] at hq
      have : z.toInt = 40 ∨ z.toInt = 41 ∨ z.toInt = 42 ∨ z.toInt = 43 := by omega
      exact h (this.imp (fun q => Int32.toInt_inj.mp (q.trans (by decide))) (fun q => q.imp (fun q => Int32.toInt_inj.mp (q.trans (by decide))) (fun q => q.imp (fun q => Int32.toInt_inj.mp (q.trans (by decide))) (fun q => Int32.toInt_inj.mp (q.trans (by decide))))))
  by_cases c : z = 40 ∨ z = 41 ∨ z = 42 ∨ z = 43 ∨ z = 45 ∨ z = 59 ∨ z = 60 ∨ z = 61
  · rcases c with rfl | rfl | rfl | rfl | rfl | rfl | rfl | rfl <;> decide
  · have hs : sgK z = 1 := by
      unfold sgK
      rw [if_neg (fun q => c (by simp [q])), if_neg (fun q => c (by simp [q])), if_neg (fun q => c (by simp [q])), if_neg (fun q => c (by simp [q])), if_neg (fun q => c (by simp [q])), if_neg (fun q => c (by simp [q])), if_neg (fun q => c (by simp [q])), if_neg (fun q => c (by simp [q]))]
    have hf : isS z = false := by
      unfold isS
      rw [big (fun q => c (by rcases q with q | q | q | q <;> simp [q])), decide_eq_false (fun q => c (by simp [q])), decide_eq_false (fun q => c (by simp [q])), decide_eq_false (fun q => c (by simp [q])), decide_eq_false (fun q => c (by simp [q]))]
      rfl
    exact ⟨fun q => absurd (hf.symm.trans q) (by decide), fun _ => hs⟩
end AX
