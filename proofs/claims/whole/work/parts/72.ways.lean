/-! way, on both sides -/
section WS
theorem fill21_ev {v : Int32} {M : Mem} : Ev (fJ7_fill_53178_21 0 v M) (fun _ M' => (∀ i, i < 36 → M' 21 0 i = v) ∧ Off o21 M M') := by
  unfold fJ7_fill_53178_21
  refine Ev.letv ?_
  refine Ev.loop (f := fun m (x : Int32) M => fJ7_fill_53178_21_L5 0 v (nI 36) m x M) (B := fun k x M => fJ7_fill_53178_21_B5 0 v (nI 36) k x M) (fun _ _ _ => rfl) 36
    (fun j x M' => x = nI j ∧ (∀ i, i < j → M' 21 0 i = v) ∧ Off o21 M M') ?_ ?_ FU 0 (nI 0) M (Nat.zero_le _) (by show _ < 2000 + 0; omega) ⟨rfl, fun _ h => absurd h (Nat.not_lt_zero _), Off.rf⟩
  · rintro k j x M' hj ⟨rfl, ha, hoff⟩ hk
    show Ev (fJ7_fill_53178_21_B5 0 v (nI 36) k (nI j) M') _
    unfold fJ7_fill_53178_21_B5
    rw [if_neg (fun q => by have := (nI_leI (by omega) (by omega)).mp q; omega)]
    refine Ev.gd (inb_nI hj (by decide)) (Ev.let_ fun M2 h2 => ?_)
    rw [nI_clamp (show j < 2 ^ 31 by omega)] at h2
    rw [nI_1]
    refine hk _ M2 ⟨rfl, fun i hi => ?_, by rw [h2]; exact hoff.mst ⟨rfl, rfl⟩⟩
    rw [h2, mst_s]
    by_cases e : i = j
    · subst e; simp [upd]
    · simp only [upd, if_neg e]
      exact ha i (by omega)
  · rintro k x M' ⟨rfl, ha, hoff⟩
    show Ev (fJ7_fill_53178_21_B5 0 v (nI 36) k (nI 36) M') _
    unfold fJ7_fill_53178_21_B5
    rw [if_pos (Int32.le_refl _)]
    exact Ev.ret ⟨ha, hoff⟩
theorem leastX_ev {T s t q : Nat} {l : Int32} {M : Mem} (h : RelT T M) (hq : q < rN (vwX 0 M)) (hs : s < 36) (ht : t < 36) : Ev (fX5_leastFelt 0 (nI q) (nI s) (nI t) M) (fun r M1 => IsMinI (wayW (svX M) (vwX 0 M) q l 0) s t r ∧ Kp M M1) := by
  have hX := h.2.2.2.1
  have hw3 := wayW_300 (M := M) (l := l) (so := 0) hX.2.2.2.1 hq
  have hwd : ∀ c, wayW (svX M) (vwX 0 M) q l 0 c = some (feltS (svX M) (vwX 0 M) q c).toNatClampNeg := fun c => by
    unfold wayW
    rw [if_pos rfl]
  generalize wayW (svX M) (vwX 0 M) q l 0 = w at hw3 hwd
  have hwa : ∀ c, c < 36 → w c ≠ none := fun c _ q => by rw [hwd] at q; cases q
  have kO : ∀ N, Off (fun K i => K = 9 ∨ (K = 19 ∧ i = 0) ∨ ((K = 20 ∨ K = 21) ∧ i = 0)) M N → Kp M N := fun N o => Kp.off o (fun K i e => by simp only [keptK]; omega)
  unfold fX5_leastFelt
  refine Ev.loop (f := fun k (z : Int32) M => fX5_leastFelt_L3 0 (nI q) (nI s) (nI t) k z M) (B := fun k z M => fX5_leastFelt_B3 0 (nI q) (nI s) (nI t) k z M) (fun _ _ _ => rfl) 36
    (fun j z N => z = nI j ∧ (∀ c, c < j → N 20 0 c = eX (w c)) ∧ Off (fun K i => K = 9 ∨ (K = 19 ∧ i = 0) ∨ ((K = 20 ∨ K = 21) ∧ i = 0)) M N) ?_ ?_ FU 0 (nI 0) M (Nat.zero_le _) (by show _ < 2000 + 0; omega) ⟨rfl, fun c hc => absurd hc (Nat.not_lt_zero _), Off.rf⟩
  · rintro k j z N hj ⟨rfl, hN, ho⟩ hk
    show Ev (fX5_leastFelt_B3 0 (nI q) (nI s) (nI t) k (nI j) N) _
    unfold fX5_leastFelt_B3
    have kN := kO N ho
    rw [if_neg (fun q => by have := (nI_leI (a := 36) (by omega) (by omega)).mp q; omega)]
    refine Ev.bind (felt_ev (kN.txt h.1) (kN.inX hX) (by rw [kN.vX]; exact hq) hj) (fun r N2 z => ?_)
    rw [kN.sv, kN.vX] at z
    obtain ⟨fv, hfv, efv⟩ := felt_rng (M := M) (c := j) hX.2.2.2.1 hq
    refine Ev.gd (inb_nI hj (by decide)) (Ev.let_ fun N3 h3 => ?_)
    rw [nI_clamp (show j < 2 ^ 31 by omega)] at h3
    rw [nI_1]
    refine hk _ N3 ⟨rfl, fun c hc => ?_, ?_⟩
    · rw [h3, mst_s, z.2.at (by simp [scS])]
      by_cases e : c = j
      · subst e
        rw [hwd, efv, nI_clamp (by omega)]
        simp [upd, z.1, efv, eX]
      · simp only [upd, if_neg e]
        exact hN c (by omega)
    · rw [h3]
      exact (ho.tr (z.2.mono (fun K i e => by simp only [scS] at e; omega))).mst (by simp)
  · rintro k z N ⟨rfl, hN, ho⟩
    show Ev (fX5_leastFelt_B3 0 (nI q) (nI s) (nI t) k (nI 36) N) _
    unfold fX5_leastFelt_B3
    rw [if_pos (by decide)]
    refine Ev.bind fill21_ev (fun _ N2 z => ?_)
    have is : inb (nI s) 36 = true := inb_nI hs (by decide)
    refine Ev.gd is (Ev.gd is (Ev.let_ fun N3 h3 => ?_))
    have e20 : N2 20 0 = N 20 0 := z.2.at (by simp)
    rw [nI_clamp (show s < 2 ^ 31 by omega), e20, hN s hs] at h3
    refine (roundsX_ev (w := w) (d := fun c => if c = s then w s else none) hs ht ⟨fun c hc => ?_, fun c hc => ?_⟩ hw3 hwa (fun c hc v hv => ?_) (fun c hc v hv => ?_) (fun v hv => ⟨v, by show (if s = s then w s else none) = some v; rw [if_pos rfl]; exact hv, Nat.le_refl _⟩) (reach hs ht hwa)).mono (fun r M1 q => ⟨q.1, (kO N3 ?_).tr ?_⟩)
    · rw [h3, mst_n (by simp), e20]
      exact hN c hc
    · rw [h3, mst_s]
      show upd (N2 21 0) s (eX (w s)) c = eX (if c = s then w s else none)
      by_cases e : c = s
      · simp [upd, e]
      · simp only [upd, if_neg e]
        exact z.1 c hc
    · have hv' : (if c = s then w s else none) = some v := hv
      by_cases e : c = s
      · rw [if_pos e] at hv'
        exact ⟨0, e, hv'⟩
      · rw [if_neg e] at hv'
        cases hv'
    · have hv' : (if c = s then w s else none) = some v := hv
      by_cases e : c = s
      · rw [if_pos e] at hv'
        exact hw3 _ v hv'
      · rw [if_neg e] at hv'
        cases hv'
    · rw [h3]
      exact (ho.tr (z.2.mono (fun K i e => by omega))).mst (by simp)
    · exact Kp.off q.2 (fun K i e => by simp only [keptK]; omega)
theorem Same.rel {fx fm : Mem → Option (Int32 × Mem)} (P : Mem → Int32 → Prop) (hP : ∀ M M1 r, Kp M M1 → P M1 r → P M r) (hu : ∀ M r r', P M r → P M r' → r' = r) (hx : ∀ T M, RelT T M → Ev (fx M) (fun r M1 => P M r ∧ Kp M M1)) (hm : ∀ T M, RelT T M → Ev (fm M) (fun r M1 => P M r ∧ Lk M M1)) : Same fx fm := by
  rintro M ⟨T, h⟩
  refine (hx T M h).mono (fun r M1 q => ?_)
  have h1 := h.keep q.2
  exact (hm T M1 h1).mono (fun r2 M2 q2 => ⟨hu M r r2 q.1 (hP M M1 r2 q.2 q2.1), T, h1.lk q2.2⟩)
theorem wayX_ev {T : Nat} {M : Mem} (h : RelT T M) (v cs l so : Int32) : Ev (fX10_way v cs l so M) (fun r M1 => wayR v cs l so M r ∧ Kp M M1) := by
  have hX := h.2.2.2.1
  unfold fX10_way
  rw [hasX_ev 0 v hX, ob_some]
  refine Ev.ite (fun h0 => Ev.ret ⟨by unfold wayR; rw [if_pos (show hasS v (vwX 0 M) = 0 from h0)], Kp.rf⟩) (fun h0 => ?_)
  have h0' : ¬ hasS v (vwX 0 M) = 0 := h0
  rw [within_ev, ob_some]
  refine Ev.ite (fun h1 => Ev.ret ⟨by unfold wayR; rw [if_neg h0', if_pos h1], Kp.rf⟩) (fun h1 => ?_)
  rw [cellX_ev, ob_some]
  refine Ev.ite (fun h2 => Ev.ret ⟨by unfold wayR; rw [if_neg h0', if_neg h1, if_pos h2], Kp.rf⟩) (fun h2 => ?_)
  rw [within_ev, ob_some]
  refine Ev.ite (fun h3 => Ev.ret ⟨by unfold wayR; rw [if_neg h0', if_neg h1, if_neg h2, if_pos h3], Kp.rf⟩) (fun h3 => ?_)
  rw [within_ev, ob_some]
  refine Ev.ite (fun h4 => Ev.ret ⟨by unfold wayR; rw [if_neg h0', if_neg h1, if_neg h2, if_neg h3, if_pos h4], Kp.rf⟩) (fun h4 => ?_)
  refine Ev.mono (P := fun r M1 => IsMinI (wayW (svX M) (vwX 0 M) v.toNatClampNeg l so) (cs.toNatClampNeg / 100) (cs.toNatClampNeg % 100) r ∧ Kp M M1) ?_ (fun r M1 z => ⟨by unfold wayR; rw [if_neg h0', if_neg h1, if_neg h2, if_neg h3, if_neg h4]; exact z.1, z.2⟩)
  obtain ⟨x, hx, rfl⟩ := rng (n := 3599) (by decide) (not_bt h1)
  obtain ⟨c1, c2, c3, c4⟩ := cs_ev hx
  rw [c1] at h2
  have ht : x % 100 < 36 := by
    have := (nI_leI (b := 35) (by omega) (by omega)).mp (not_bt h2).2
    omega
  obtain ⟨q, hq, rfl⟩ := has_rng hX.2.2.2.1 h0
  obtain ⟨y, hy, rfl⟩ := rng (n := 1) (by decide) (not_bt h4)
  have hq6 : q < 6 := Nat.lt_of_lt_of_le hq hX.2.2.2.1.1
  rw [c1, c2, nI_clamp (show q < 2 ^ 31 by omega), nI_clamp (show x < 2 ^ 31 by omega)]
  refine Ev.letv (Ev.letv ?_)
  match y, hy with
  | 0, _ =>
    rw [if_pos (by decide)]
    exact Ev.bind (leastX_ev (l := l) h hq c3 ht) (fun r M1 z => Ev.ret z)
  | 1, _ =>
    rw [if_neg (by decide)]
    exact Ev.bind (fewX_ev (l := l) h hq c3 ht) (fun r M1 z => Ev.ret z)
  | y + 2, h => omega
theorem way_same (v cs l so : Int32) : Same (fX10_way v cs l so) (fX11_way v cs l so) := by
  refine Same.rel (wayR v cs l so) (fun M M1 r k q => ?_) (fun M r r' q q' => ?_) (fun _ _ h => wayX_ev h v cs l so) (fun _ _ h => wayM_ev h v cs l so)
  · unfold wayR at q ⊢
    rw [k.vX, k.sv] at q
    exact q
  · unfold wayR at q q'
    by_cases h0 : hasS v (vwX 0 M) = 0
    · rw [if_pos h0] at q q'
      rw [q, q']
    rw [if_neg h0] at q q'
    by_cases h1 : bt (decide (0 ≤ cs) && decide (cs ≤ 3599)) = 0
    · rw [if_pos h1] at q q'
      rw [q, q']
    rw [if_neg h1] at q q'
    by_cases h2 : bt (decide (0 ≤ irem cs 100) && decide (irem cs 100 ≤ 35)) = 0
    · rw [if_pos h2] at q q'
      rw [q, q']
    rw [if_neg h2] at q q'
    by_cases h3 : bt (decide (0 ≤ l) && decide (l ≤ 999)) = 0
    · rw [if_pos h3] at q q'
      rw [q, q']
    rw [if_neg h3] at q q'
    by_cases h4 : bt (decide (0 ≤ so) && decide (so ≤ 1)) = 0
    · rw [if_pos h4] at q q'
      rw [q, q']
    rw [if_neg h4] at q q'
    exact q.uniq q'
end WS
