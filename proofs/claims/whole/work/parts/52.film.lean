/-! film -/
section FI
theorem mst_same {M N : Mem} {K i s K' i' : Nat} {v : Int32} (h : K' = K ∧ i' = i → N K i = M K i) (h2 : N K' i' = M K' i') : mst N K i s v K' i' = mst M K i s v K' i' := by
  by_cases e : K' = K ∧ i' = i
  · rw [e.1, e.2, mst_s, mst_s, h e]
  · rw [mst_n e, mst_n e, h2]
theorem ThX.put14 {T s x : Nat} {v : Int32} {M N : Mem} {R : Rm} (h : ThX T M N R) : ThX T (mst M 14 s x v) (mst N 14 s x v) R := by
  obtain ⟨h1, h2, h3⟩ := h
  have h14 : N 14 s = M 14 s := h1 14 s (by simp [keptK])
  refine ⟨fun K i hk => mst_same (fun _ => h14) (h1 K i hk), h2.same (by rw [mst_n (by simp)]) (by rw [mst_n (by simp)]) (fun t _ => by rw [mst_n (by simp)]), ?_⟩
  rw [vwX_eq (M := N) (by rw [mst_n (by simp)]) (by rw [mst_n (by simp)]) (fun t _ => by rw [mst_n (by simp)])]
  exact h3
theorem ThM.put35 {T x : Nat} {v : Int32} {M N : Mem} {R : Rm} (h : ThM T M N R) : ThM T (mst M 35 0 x v) (mst N 35 0 x v) R := by
  obtain ⟨h1, h2, h3, h4, h5, h6⟩ := h
  have h35 : N 35 0 = M 35 0 := h1 35 0 (by simp [keptK]) (by decide) (by decide)
  have ev : vwM (mst N 35 0 x v) = vwM N := vwM_eq (by rw [mst_n (by simp)]) (by rw [mst_n (by simp)]) (by rw [mst_n (by simp)]) (by rw [mst_n (by simp)]) (by rw [mst_n (by simp)]) (by rw [mst_n (by simp)])
  exact ⟨fun K i a b c => mst_same (fun _ => h35) (h1 K i a b c), fun c hc => by rw [mst_n (by simp), mst_n (by simp)]; exact h2 c hc, by rw [mst_n (by simp), mst_n (by simp)]; exact h3, fun s a b => by rw [mst_n (by simp), mst_n (by simp)]; exact h4 s a b, h5.same ev (by rw [mst_n (by simp)]), by rw [ev]; exact h6⟩
theorem short_tab : ∀ t, t < 1000 → (nI t).toInt16.toInt32 = nI t := by decide +kernel
theorem okT_dayS {E : Nat → Nat → (Nat → Int32) → Int32} {sk : Nat → Bool} {R : Rm} (h : okT R) : okT (dayS E sk R) := okT_dayF h (rN R)
theorem okT_daysS {E : Nat → Nat → (Nat → Int32) → Int32} {sk : Nat → Bool} {R : Rm} (h : okT R) : ∀ n, okT (daysS E sk n R) := by
  intro n
  induction n with
  | zero => exact h
  | succ n ih => exact okT_dayS ih
def filmF (E : Nat → Nat → (Nat → Int32) → Int32) (R : Rm) (c n : Nat) : Nat → Int32 := fun x => if x < n then rT (daysS E skN (x + 1) R) c else 0
def filmA (v w n : Int32) : Int32 := if bt (decide (0 ≤ v) && decide (v ≤ 3)) = 0 then -2 else if bt (decide (0 ≤ w) && decide (w ≤ 35)) = 0 then -5 else if bt (decide (0 ≤ n) && decide (n ≤ 20)) = 0 then -7 else n
def filmV (v w n : Int32) (E : Nat → Nat → (Nat → Int32) → Int32) (R : Rm) (V : Nat → Sh) : Nat → Sh := if bt (decide (0 ≤ v) && decide (v ≤ 3)) = 0 then V else if bt (decide (0 ≤ w) && decide (w ≤ 35)) = 0 then V else if bt (decide (0 ≤ n) && decide (n ≤ 20)) = 0 then V else updS V v.toNatClampNeg (1, n, filmF E R w.toNatClampNeg n.toNatClampNeg)
theorem filmX_ev {T : Nat} {M : Mem} (h : RelT T M) (v w n : Int32) : Ev (fX10_film v w n M) (fun r M1 => r = filmA v w n ∧ (∀ s, s < 4 → shX s M1 = filmV v w n (svX M) (vwX 0 M) (fun s => shX s M) s) ∧ ∀ K i, keptK K i → K ≠ 13 → K ≠ 14 → M1 K i = M K i) := by
  have hX := h.2.2.2.1
  unfold fX10_film filmA filmV
  rw [sheetX_is, ob_some]
  refine Ev.ite (fun h0 => Ev.ret ⟨by rw [if_pos h0], fun s _ => by rw [if_pos h0], fun _ _ _ _ _ => rfl⟩) (fun h0 => ?_)
  rw [cellX_ev, ob_some, if_neg h0, if_neg h0]
  refine Ev.ite (fun h1 => Ev.ret ⟨by rw [if_pos h1], fun s _ => by rw [if_pos h1], fun _ _ _ _ _ => rfl⟩) (fun h1 => ?_)
  rw [within_ev, ob_some, if_neg h1, if_neg h1]
  refine Ev.ite (fun h2 => Ev.ret ⟨by rw [if_pos h2], fun s _ => by rw [if_pos h2], fun _ _ _ _ _ => rfl⟩) (fun h2 => ?_)
  rw [if_neg h2, if_neg h2]
  obtain ⟨s, hs, rfl⟩ := rng (n := 3) (by decide) (not_bt h0)
  obtain ⟨c, hc, rfl⟩ := rng (n := 35) (by decide) (not_bt h1)
  obtain ⟨m, hm, rfl⟩ := rng (n := 20) (by decide) (not_bt h2)
  have is4 : inb (nI s) 4 = true := inb_nI (by omega) (by decide)
  have ic : inb (nI c) 36 = true := inb_nI (by omega) (by decide)
  have cs := nI_clamp (show s < 2 ^ 31 by omega)
  have cc := nI_clamp (show c < 2 ^ 31 by omega)
  rw [cs, cc, nI_clamp (show m < 2 ^ 31 by omega)]
  refine Ev.gd is4 (Ev.bind become_ev (fun _ M9 q => ?_))
  have eV9 : vwX 0 M9 = vwX 0 M := vwX_eq (q.2.at (by simp)) (q.2.at (by simp)) (fun t _ => q.2.at (by simp))
  have hX9 : InX T 0 M9 := hX.same (q.2.at (by simp)) (q.2.at (by simp)) (fun t _ => q.2.at (by simp))
  have scTxt : ∀ B, Off (scH s) M B → Txt T B := fun B o => h.1.off (fun i => ⟨o.at (by simp), o.at (by simp), o.at (by simp)⟩) (o.at (by simp)) (o.at (by simp))
  have scSv : ∀ B, Off (scH s) M B → svX B = svX M := fun B o => svX_off (fun i => o.at (by simp)) (fun i => o.at (by simp))
  refine Ev.bind (thx_take hX9 Kp.rf) (fun _ N1 q1 => ?_)
  rw [eV9] at q1
  refine Ev.loop (f := fun k (x : Int32) M => fX10_film_L58 (nI s) (nI c) (nI m) k x M) (B := fun k x M => fX10_film_B58 (nI s) (nI c) (nI m) k x M) (fun _ _ _ => rfl) m
    (fun j x N => x = nI j ∧ ∃ B, ThX T B N (daysS (svX M) skN j (vwX 0 M)) ∧ Off (scH s) M B ∧ shX s B = (1, nI m, filmF (svX M) (vwX 0 M) c j)) ?_ ?_ FU 0 (nI 0) N1 (Nat.zero_le _) (by show _ < 2000 + 0; omega) ⟨rfl, M9, q1, q.2, by rw [q.1]; rfl⟩
  · rintro k j x N hj ⟨rfl, B, hB, hoff, hsh⟩ hk
    show Ev (fX10_film_B58 (nI s) (nI c) (nI m) k (nI j) N) _
    unfold fX10_film_B58
    rw [if_neg (fun q => by have := (nI_leI (by omega) (by omega)).mp q; omega)]
    refine Ev.bind (thx_day (scTxt B hoff) hB) (fun _ N2 q2 => ?_)
    refine Ev.gd is4 (Ev.gd ic ?_)
    have e13 : N2 13 s 1 = 1 := by
      rw [q2.1 13 s (by simp [keptK])]
      exact congrArg (fun a => a.1) hsh
    rw [cs, cc, write_ev (by omega), ob_some, e13, q2.T (by omega), nI_1, scSv B hoff]
    have e16 : narr 1 (rT (daysS (svX M) skN (j + 1) (vwX 0 M)) c) = rT (daysS (svX M) skN (j + 1) (vwX 0 M)) c := by
      obtain ⟨t, ht, e⟩ := okT_daysS (E := svX M) (sk := skN) hX.2.2.2.2 (j + 1) c
      rw [e]
      show (if (1 : Int32) = 0 then _ else if (1 : Int32) = 1 then (nI t).toInt16.toInt32 else _) = nI t
      rw [if_neg (by decide), if_pos rfl]
      exact short_tab t ht
    show Ev (k _ (mst N2 14 s j (narr 1 (rT (daysS (svX M) skN (j + 1) (vwX 0 M)) c)))) _
    rw [e16]
    refine hk _ _ ⟨rfl, mst B 14 s j (rT (daysS (svX M) skN (j + 1) (vwX 0 M)) c), ?_, hoff.mst ⟨Or.inr rfl, rfl⟩, ?_⟩
    · have := q2.put14 (s := s) (x := j) (v := rT (daysS (svX M) skN (j + 1) (vwX 0 M)) c)
      rw [scSv B hoff] at this
      exact this
    · have a1 := congrArg (fun a => a.1) hsh
      have a2 := congrArg (fun a => a.2.1) hsh
      have a3 := congrArg (fun a => a.2.2) hsh
      unfold shX at a1 a2 a3 ⊢
      rw [mst_n (by simp), mst_s]
      refine Prod.ext a1 (Prod.ext a2 ?_)
      funext y
      have a4 := congrFun a3 y
      show (if y < 40 then upd (B 14 s) j (rT (daysS (svX M) skN (j + 1) (vwX 0 M)) c) y else 0) = filmF (svX M) (vwX 0 M) c (j + 1) y
      have a5 : (if y < 40 then B 14 s y else 0) = filmF (svX M) (vwX 0 M) c j y := a4
      unfold filmF at a5 ⊢
      by_cases e : y = j
      · subst e
        rw [if_pos (by omega), if_pos (by omega)]
        simp [upd]
      · simp only [upd, if_neg e]
        rw [a5]
        by_cases e2 : y < j
        · rw [if_pos e2, if_pos (by omega)]
        · rw [if_neg e2, if_neg (by omega)]
  · rintro k x N ⟨rfl, B, hB, hoff, hsh⟩
    show Ev (fX10_film_B58 (nI s) (nI c) (nI m) k (nI m) N) _
    unfold fX10_film_B58
    rw [if_pos ((nI_leI (by omega) (by omega)).mpr (Nat.le_refl _))]
    refine Ev.ret ⟨rfl, fun y hy => ?_, fun K i a b d => (hB.1 K i a).trans (hoff.at (fun q => q.1.elim b d))⟩
    have e : shX y N = shX y B := shX_eq (hB.1 _ _ (by simp [keptK])) (hB.1 _ _ (by simp [keptK]))
    rw [e]
    exact updS_X hoff hsh y hy
theorem filmM_ev {T : Nat} {M N : Mem} (h : RelT T M) (hT : Txt T N) (hI : InM T N) (hvN : vwM N = vwX 0 M) (hs : svX N = svX M) (hsh : ∀ s, s < 4 → shM s N = shX s M) (v w n : Int32) : Ev (fX11_film v w n N) (fun r N1 => ∃ B, r = filmA v w n ∧ (∀ s, s < 4 → shM s B = filmV v w n (svX M) (vwX 0 M) (fun s => shX s M) s) ∧ (∀ K i, K ≠ 33 → K ≠ 34 → K ≠ 35 → B K i = N K i) ∧ Lk B N1) := by
  have refu : ∀ (r A : Int32) (W : Nat → Sh), r = A → (∀ s, s < 4 → shX s M = W s) → Ev (some (r, N)) (fun r N1 => ∃ B, r = A ∧ (∀ s, s < 4 → shM s B = W s) ∧ (∀ K i, K ≠ 33 → K ≠ 34 → K ≠ 35 → B K i = N K i) ∧ Lk B N1) :=
    fun r A W h1 h2 => Ev.ret ⟨N, h1, fun s hs => by rw [hsh s hs]; exact h2 s hs, fun _ _ _ _ _ => rfl, Lk.rf⟩
  unfold fX11_film filmA filmV
  rw [in_ev, ob_some]
  refine Ev.ite (fun h0 => refu _ _ _ (by rw [if_pos h0]) (fun s _ => by rw [if_pos h0])) (fun h0 => ?_)
  rw [cellM_ev, ob_some, if_neg h0, if_neg h0]
  refine Ev.ite (fun h1 => refu _ _ _ (by rw [if_pos h1]) (fun s _ => by rw [if_pos h1])) (fun h1 => ?_)
  rw [in_ev, ob_some, if_neg h1, if_neg h1]
  refine Ev.ite (fun h2 => refu _ _ _ (by rw [if_pos h2]) (fun s _ => by rw [if_pos h2])) (fun h2 => ?_)
  rw [if_neg h2, if_neg h2]
  obtain ⟨s, hs4, rfl⟩ := rng (n := 3) (by decide) (not_bt h0)
  obtain ⟨c, hc, rfl⟩ := rng (n := 35) (by decide) (not_bt h1)
  obtain ⟨m, hm, rfl⟩ := rng (n := 20) (by decide) (not_bt h2)
  have is4 : inb (nI s) 4 = true := inb_nI (by omega) (by decide)
  have ic : inb (nI c) 36 = true := inb_nI (by omega) (by decide)
  have cs := nI_clamp (show s < 2 ^ 31 by omega)
  have cc := nI_clamp (show c < 2 ^ 31 by omega)
  rw [cs, cc, nI_clamp (show m < 2 ^ 31 by omega)]
  refine Ev.gd is4 (Ev.let_ fun M7 h7 => Ev.gd is4 (Ev.let_ fun M8 h8 => ?_))
  have o8 : ∀ K i, K ≠ 33 → K ≠ 34 → M8 K i = N K i := fun K i a b => by rw [h8, mst_n (fun q => b q.1), h7, mst_n (fun q => a q.1)]
  have f33 : M8 33 0 = upd (N 33 0) s 1 := by rw [h8, mst_n (by simp), h7, mst_s]
  have f34 : M8 34 0 = upd (N 34 0) s (nI m) := by rw [h8, mst_s, h7, mst_n (by simp)]
  have eM8 : vwM M8 = vwM N := vwM_eq (o8 _ _ (by decide) (by decide)) (o8 _ _ (by decide) (by decide)) (o8 _ _ (by decide) (by decide)) (o8 _ _ (by decide) (by decide)) (o8 _ _ (by decide) (by decide)) (o8 _ _ (by decide) (by decide))
  have hI8 : InM T M8 := hI.same eM8 (o8 _ _ (by decide) (by decide))
  have bTxt : ∀ B, Off (fun K i => K = 35 ∧ i = 0) M8 B → Txt T B := fun B o => hT.off (fun i => ⟨(o.at (by simp)).trans (o8 _ _ (by decide) (by decide)), (o.at (by simp)).trans (o8 _ _ (by decide) (by decide)), (o.at (by simp)).trans (o8 _ _ (by decide) (by decide))⟩) ((o.at (by simp)).trans (o8 _ _ (by decide) (by decide))) ((o.at (by simp)).trans (o8 _ _ (by decide) (by decide)))
  have bSv : ∀ B, Off (fun K i => K = 35 ∧ i = 0) M8 B → svX B = svX M := fun B o => by
    rw [← hs]
    exact svX_off (fun i => (o.at (by simp)).trans (o8 _ _ (by decide) (by decide))) (fun i => (o.at (by simp)).trans (o8 _ _ (by decide) (by decide)))
  refine Ev.bind (thm_keep hI8) (fun _ N1 q1 => ?_)
  rw [eM8, hvN] at q1
  refine Ev.loop (f := fun k (x : Int32) M => fX11_film_L56 (nI s) (nI c) (nI m) k x M) (B := fun k x M => fX11_film_B56 (nI s) (nI c) (nI m) k x M) (fun _ _ _ => rfl) 40
    (fun j x N2 => x = nI j ∧ ∃ B, ThM T B N2 (daysS (svX M) skN (min j m) (vwX 0 M)) ∧ Off (fun K i => K = 35 ∧ i = 0) M8 B ∧ (∀ y, y < j → B 35 0 (40 * s + y) = filmF (svX M) (vwX 0 M) c m y) ∧ ∀ y, y < 40 * s ∨ 40 * s + 40 ≤ y → B 35 0 y = N 35 0 y) ?_ ?_ FU 0 (nI 0) N1 (Nat.zero_le _) (by show _ < 2000 + 0; omega) ⟨rfl, M8, by rw [Nat.zero_min]; exact q1, Off.rf, fun _ h => absurd h (Nat.not_lt_zero _), fun y _ => by rw [o8 35 0 (by decide) (by decide)]⟩
  · rintro k j x N2 hj ⟨rfl, B, hB, hoff, hy1, hy2⟩ hk
    show Ev (fX11_film_B56 (nI s) (nI c) (nI m) k (nI j) N2) _
    unfold fX11_film_B56
    rw [if_neg (fun q => by have := (nI_leI (a := 40) (by omega) (by omega)).mp q; omega), show (40 : Int32) * nI s + nI j = nI (40 * s + j) by rw [show (40 : Int32) = nI 40 from rfl, nI_mulB, nI_add]]
    have ix : inb (nI (40 * s + j)) 160 = true := inb_nI (by omega) (by decide)
    refine Ev.gd ix (Ev.let_ fun M13 h13 => ?_)
    rw [nI_clamp (show 40 * s + j < 2 ^ 31 by omega)] at h13 ⊢
    have hB2 : ThM T (mst B 35 0 (40 * s + j) 0) M13 (daysS (svX M) skN (min j m) (vwX 0 M)) := by rw [h13]; exact hB.put35
    have hoff2 : Off (fun K i => K = 35 ∧ i = 0) M8 (mst B 35 0 (40 * s + j) 0) := hoff.mst ⟨rfl, rfl⟩
    have upd1 : ∀ (z : Int32) (B3 : Mem), B3 35 0 = upd (B 35 0) (40 * s + j) z → z = filmF (svX M) (vwX 0 M) c m j → (∀ y, y < j + 1 → B3 35 0 (40 * s + y) = filmF (svX M) (vwX 0 M) c m y) ∧ ∀ y, y < 40 * s ∨ 40 * s + 40 ≤ y → B3 35 0 y = N 35 0 y := by
      intro z B3 e3 ez
      refine ⟨fun y hy => ?_, fun y hy => ?_⟩
      · rw [e3]
        by_cases e : y = j
        · subst e; simp [upd, ez]
        · simp only [upd, if_neg (show 40 * s + y ≠ 40 * s + j by omega)]
          exact hy1 y (by omega)
      · rw [e3]
        simp only [upd, if_neg (show y ≠ 40 * s + j by omega)]
        exact hy2 y hy
    rw [nI_1]
    refine Ev.ite (fun e => ?_) (fun e => ?_)
    · have hmj := (nI_leI (by omega) (by omega)).mp e
      refine hk _ M13 ⟨rfl, _, ?_, hoff2, upd1 0 _ mst_s (by rw [filmF, if_neg (by omega)])⟩
      rw [show min (j + 1) m = min j m by omega]
      exact hB2
    · have hjm : j < m := by
        by_cases q : j < m
        · exact q
        · exact absurd ((nI_leI (by omega) (by omega)).mpr (by omega)) e
      refine Ev.bind (thm_day (bTxt _ hoff2) hB2 skN_ok) (fun _ M15 q5 => ?_)
      rw [bSv _ hoff2] at q5
      refine Ev.gd ic (Ev.gd ix (Ev.let_ fun M16 h16 => ?_))
      rw [cc, q5.T (c := c) (by omega)] at h16
      have hB3 := q5.put35 (x := 40 * s + j) (v := rT (dayS (svX M) skN (daysS (svX M) skN (min j m) (vwX 0 M))) c)
      rw [← h16] at hB3
      refine hk _ M16 ⟨rfl, mst (mst B 35 0 (40 * s + j) 0) 35 0 (40 * s + j) (rT (dayS (svX M) skN (daysS (svX M) skN (min j m) (vwX 0 M))) c), ?_, hoff2.mst ⟨rfl, rfl⟩, upd1 (rT (dayS (svX M) skN (daysS (svX M) skN (min j m) (vwX 0 M))) c) _ ?_ ?_⟩
      · rw [show min (j + 1) m = (min j m) + 1 by omega]
        exact hB3
      · rw [mst_s, mst_s]
        funext y
        by_cases e2 : y = 40 * s + j
        · simp [upd, e2]
        · simp [upd, e2]
      · rw [filmF, if_pos hjm, show min j m = j by omega]
        rfl
  · rintro k x N2 ⟨rfl, B, hB, hoff, hy1, hy2⟩
    show Ev (fX11_film_B56 (nI s) (nI c) (nI m) k (nI 40) N2) _
    unfold fX11_film_B56
    rw [if_pos (by decide)]
    refine Ev.bind (thm_lays hB) (fun _ N3 q3 => Ev.ret ⟨B, rfl, fun y hy => ?_, fun K i a b d => (hoff.at (fun q => d q.1)).trans (o8 K i a b), q3⟩)
    have g33 : B 33 0 = upd (N 33 0) s 1 := by rw [hoff.at (by simp), f33]
    have g34 : B 34 0 = upd (N 34 0) s (nI m) := by rw [hoff.at (by simp), f34]
    unfold updS
    by_cases e : y = s
    · rw [if_pos e, e]
      unfold shM
      rw [g33, g34]
      refine Prod.ext (by simp [upd]) (Prod.ext (by simp [upd]) ?_)
      funext i
      show (if i < 40 then B 35 0 (40 * s + i) else 0) = filmF (svX M) (vwX 0 M) c m i
      by_cases hi : i < 40
      · rw [if_pos hi]; exact hy1 i hi
      · rw [if_neg hi, filmF, if_neg (by omega)]
    · rw [if_neg e]
      show shM y B = shX y M
      rw [← hsh y hy]
      unfold shM
      rw [g33, g34]
      refine Prod.ext (by simp [upd, e]) (Prod.ext (by simp [upd, e]) ?_)
      funext i
      show (if i < 40 then B 35 0 (40 * y + i) else 0) = (if i < 40 then N 35 0 (40 * y + i) else 0)
      by_cases hi : i < 40
      · rw [if_pos hi, if_pos hi]; exact hy2 _ (by omega)
      · rw [if_neg hi, if_neg hi]
theorem film_same (v w n : Int32) : Same (fX10_film v w n) (fX11_film v w n) := by
  refine Same.sheet (fun _ => filmA v w n) (fun M => filmV v w n (svX M) (vwX 0 M) (fun s => shX s M)) ?_ (fun T M h => filmX_ev h v w n) ?_
  · intro T M h s hs
    have h0 := (h.2.2.2.2.2.2.2.2.1.eq hs).2
    unfold filmV
    split
    · exact h0
    · split
      · exact h0
      · split
        · exact h0
        · rename_i h3
          unfold updS
          split
          · obtain ⟨m, hm, e⟩ := rng (n := 20) (by decide) (not_bt h3)
            exact ⟨Or.inr (Or.inr (Or.inl rfl)), m, by omega, e⟩
          · exact h0
  · intro T M N h hT hI hvN hs hk
    refine filmM_ev h hT hI hvN hs (fun s hs => ?_) v w n
    rw [shM_eq (hk 33 0 (by decide) (by simp [keptK])) (hk 34 0 (by decide) (by simp [keptK])) (hk 35 0 (by decide) (by simp [keptK]))]
    exact (h.2.2.2.2.2.2.2.2.1.eq hs).1.symm
end FI
