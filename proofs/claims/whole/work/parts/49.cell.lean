/-! cell -/
section CL
theorem one_rngB {v : Int32} {n : Nat} (hn : n < 2 ^ 30) (h : 0 ≤ v ∧ v ≤ nI n - 1) : ∃ p, p < n ∧ v = nI p := by
  match n, hn with
  | 0, _ =>
    have a := Int32.le_iff_toInt_le.mp h.1
    have b := Int32.le_iff_toInt_le.mp h.2
    rw [show (0 : Int32).toInt = 0 by decide] at a
    rw [show (nI 0 - 1 : Int32).toInt = -1 by decide] at b
    omega
  | n + 1, hn =>
    rw [nI_pred] at h
    obtain ⟨k, hk, e2⟩ := rng (n := n) (by omega) h
    exact ⟨k, by omega, e2⟩
def narr (so v : Int32) : Int32 := if so = 0 then v.toInt8.toInt32 else if so = 1 then v.toInt16.toInt32 else v
theorem write_ev {s i : Nat} {v : Int32} {M : Mem} (hi : i < 40) : fX6_write s (nI i) v M = some ((), mst M 14 s i (narr (M 13 s 1) v)) := by
  have hin : inb (nI i) 40 = true := inb_nI hi (by decide)
  unfold fX6_write narr
  rw [hin, nI_clamp (show i < 2 ^ 31 by omega)]
  by_cases h0 : M 13 s 1 = 0
  · rw [if_pos h0, if_pos h0]; rfl
  · rw [if_neg h0, if_neg h0]
    by_cases h1 : M 13 s 1 = 1
    · rw [if_pos h1, if_pos h1]; rfl
    · rw [if_neg h1, if_neg h1]; rfl
def cellA (v i : Int32) (V : Nat → Sh) : Int32 := if bt (decide (0 ≤ v) && decide (v ≤ 3)) = 0 then -2 else if (V v.toNatClampNeg).1 = -1 then -11 else if bt (decide (0 ≤ i) && decide (i ≤ (V v.toNatClampNeg).2.1 - 1)) = 0 then -12 else 1
def cellV (v i z : Int32) (V : Nat → Sh) : Nat → Sh := if bt (decide (0 ≤ v) && decide (v ≤ 3)) = 0 then V else if (V v.toNatClampNeg).1 = -1 then V else if bt (decide (0 ≤ i) && decide (i ≤ (V v.toNatClampNeg).2.1 - 1)) = 0 then V else updS V v.toNatClampNeg ((V v.toNatClampNeg).1, (V v.toNatClampNeg).2.1, upd (V v.toNatClampNeg).2.2 i.toNatClampNeg (narr (V v.toNatClampNeg).1 z))
theorem cell_same (v i z : Int32) : Same (fX10_cell v i z) (fX11_cell v i z) := by
  refine Same.sheet (fun M => cellA v i (fun s => shX s M)) (fun M => cellV v i z (fun s => shX s M)) ?_ ?_ ?_
  · intro T M h s hs
    have h0 := fun s hs => (h.2.2.2.2.2.2.2.2.1.eq (s := s) hs).2
    unfold cellV
    split
    · exact h0 s hs
    · split
      · exact h0 s hs
      · split
        · exact h0 s hs
        · unfold updS
          split
          · rename_i e
            have := h0 s hs
            rw [e] at this
            exact this
          · exact h0 s hs
  · intro T M h
    have hok := fun s hs => (h.2.2.2.2.2.2.2.2.1.eq (s := s) hs).2
    unfold fX10_cell
    rw [sheetX_is, ob_some]
    refine Ev.ite (fun h0 => Ev.ret ⟨by rw [cellA, if_pos h0], fun s _ => by rw [cellV, if_pos h0], fun _ _ _ _ _ => rfl⟩) (fun h0 => ?_)
    obtain ⟨s, hs, rfl⟩ := rng (n := 3) (by decide) (not_bt h0)
    have hin : inb (nI s) 4 = true := inb_nI (by omega) (by decide)
    have cs := nI_clamp (show s < 2 ^ 31 by omega)
    rw [cellA, cellV, if_neg h0, if_neg h0, cs]
    refine Ev.gd hin ?_
    show Ev (ite ((shX s M).1 = -1) _ _) _
    refine Ev.ite (fun h1 => Ev.ret ⟨by rw [if_pos h1], fun s _ => by rw [if_pos h1], fun _ _ _ _ _ => rfl⟩) (fun h1 => ?_)
    rw [if_neg h1, if_neg h1]
    refine Ev.gd hin ?_
    rw [within_ev, ob_some]
    show Ev (ite (bt (decide (0 ≤ i) && decide (i ≤ (shX s M).2.1 - 1)) = 0) _ _) _
    refine Ev.ite (fun h2 => Ev.ret ⟨by rw [if_pos h2], fun s _ => by rw [if_pos h2], fun _ _ _ _ _ => rfl⟩) (fun h2 => ?_)
    rw [if_neg h2, if_neg h2]
    obtain ⟨n, hn, en⟩ := (hok s (by omega)).2
    have h2' := not_bt h2
    rw [en] at h2'
    obtain ⟨x, hx, rfl⟩ := one_rngB (by omega) h2'
    refine Ev.gd hin ?_
    rw [write_ev (by omega), ob_some, nI_clamp (show x < 2 ^ 31 by omega)]
    have hoff : Off (scH s) M (mst M 14 s x (narr (M 13 s 1) z)) := Off.rf.mst ⟨Or.inr rfl, rfl⟩
    refine Ev.ret ⟨rfl, updS_X hoff ?_, scH_off hoff⟩
    unfold shX
    rw [mst_n (by simp), mst_s]
    refine Prod.ext rfl (Prod.ext rfl ?_)
    funext y
    show (if y < 40 then upd (M 14 s) x (narr (M 13 s 1) z) y else 0) = upd (fun i => if i < 40 then M 14 s i else 0) x (narr (M 13 s 1) z) y
    by_cases e : y = x
    · subst e; simp [upd, show y < 40 by omega]
    · simp [upd, e]
  · intro T M N h hT hI hvN hs hk
    have hok := fun s hs => (h.2.2.2.2.2.2.2.2.1.eq (s := s) hs).2
    have hsh : ∀ s, s < 4 → shM s N = shX s M := fun s hs => by
      rw [shM_eq (hk 33 0 (by decide) (by simp [keptK])) (hk 34 0 (by decide) (by simp [keptK])) (hk 35 0 (by decide) (by simp [keptK]))]
      exact (h.2.2.2.2.2.2.2.2.1.eq hs).1.symm
    have refu : ∀ (r : Int32), r = cellA v i (fun s => shX s M) → (∀ s, s < 4 → shX s M = cellV v i z (fun s => shX s M) s) → Ev (some (r, N)) (fun r N1 => ∃ B, r = cellA v i (fun s => shX s M) ∧ (∀ s, s < 4 → shM s B = cellV v i z (fun s => shX s M) s) ∧ (∀ K i, K ≠ 33 → K ≠ 34 → K ≠ 35 → B K i = N K i) ∧ Lk B N1) :=
      fun r h1 h2 => Ev.ret ⟨N, h1, fun s hs => by rw [hsh s hs]; exact h2 s hs, fun _ _ _ _ _ => rfl, Lk.rf⟩
    unfold fX11_cell
    rw [in_ev, ob_some]
    refine Ev.ite (fun h0 => refu _ (by rw [cellA, if_pos h0]) (fun s _ => by rw [cellV, if_pos h0])) (fun h0 => ?_)
    obtain ⟨s, hs, rfl⟩ := rng (n := 3) (by decide) (not_bt h0)
    have hin : inb (nI s) 4 = true := inb_nI (by omega) (by decide)
    have cs := nI_clamp (show s < 2 ^ 31 by omega)
    have e33 : N 33 0 s = (shX s M).1 := by rw [← hsh s (by omega)]; rfl
    have e34 : N 34 0 s = (shX s M).2.1 := by rw [← hsh s (by omega)]; rfl
    rw [cellA, cellV, if_neg h0, if_neg h0, cs] at refu
    rw [cellA, cellV, if_neg h0, if_neg h0, cs, e33]
    refine Ev.gd hin ?_
    refine Ev.ite (fun h1 => refu _ (by rw [if_pos h1]) (fun s _ => by rw [if_pos h1])) (fun h1 => ?_)
    rw [if_neg h1, if_neg h1] at refu
    rw [if_neg h1, if_neg h1, e34]
    refine Ev.gd hin ?_
    rw [in_ev, ob_some]
    refine Ev.ite (fun h2 => refu _ (by rw [if_pos h2]) (fun s _ => by rw [if_pos h2])) (fun h2 => ?_)
    rw [if_neg h2, if_neg h2]
    obtain ⟨n, hn, en⟩ := (hok s (by omega)).2
    have h2' := not_bt h2
    rw [en] at h2'
    obtain ⟨x, hx, rfl⟩ := one_rngB (by omega) h2'
    have ei : (40 : Int32) * nI s + nI x = nI (40 * s + x) := by rw [show (40 : Int32) = nI 40 from rfl, nI_mulB, nI_add]
    have hin2 : inb (nI (40 * s + x)) 160 = true := inb_nI (by omega) (by decide)
    have c2 := nI_clamp (show 40 * s + x < 2 ^ 31 by omega)
    rw [nI_clamp (show x < 2 ^ 31 by omega), ei, c2]
    have fin : ∀ (w : Int32) (N7 : Mem), w = narr (shX s M).1 z → N7 = mst N 35 0 (40 * s + x) w → Ev (some ((1 : Int32), N7)) (fun r N1 => ∃ B, r = 1 ∧ (∀ y, y < 4 → shM y B = updS (fun s => shX s M) s ((shX s M).1, (shX s M).2.1, upd (shX s M).2.2 x (narr (shX s M).1 z)) y) ∧ (∀ K i, K ≠ 33 → K ≠ 34 → K ≠ 35 → B K i = N K i) ∧ Lk B N1) := by
      intro w N7 hw h7
      refine Ev.ret ⟨N7, rfl, fun y hy => ?_, fun K i _ _ d => by rw [h7, mst_n (fun q => d q.1)], Lk.rf⟩
      have f33 : N7 33 0 = N 33 0 := by rw [h7, mst_n (by simp)]
      have f34 : N7 34 0 = N 34 0 := by rw [h7, mst_n (by simp)]
      have f35 : N7 35 0 = upd (N 35 0) (40 * s + x) w := by rw [h7, mst_s]
      have hy2 := hsh y hy
      unfold updS
      by_cases e : y = s
      · rw [if_pos e, ← e, ← hy2, e]
        rw [e] at hy2
        unfold shM
        rw [f33, f34, f35]
        refine Prod.ext rfl (Prod.ext rfl ?_)
        funext q
        show (if q < 40 then upd (N 35 0) (40 * s + x) w (40 * s + q) else 0) = upd (fun i => if i < 40 then N 35 0 (40 * s + i) else 0) x (narr (N 33 0 s) z) q
        by_cases e2 : q = x
        · subst e2
          rw [if_pos (by omega), hw, e33]
          simp [upd]
        · simp only [upd, if_neg e2, if_neg (show 40 * s + q ≠ 40 * s + x by omega)]
      · rw [if_neg e]
        show shM y N7 = shX y M
        rw [← hy2]
        unfold shM
        rw [f33, f34, f35]
        refine Prod.ext rfl (Prod.ext rfl ?_)
        funext q
        show (if q < 40 then upd (N 35 0) (40 * s + x) w (40 * y + q) else 0) = (if q < 40 then N 35 0 (40 * y + q) else 0)
        by_cases e2 : q < 40
        · rw [if_pos e2, if_pos e2]
          simp only [upd, if_neg (show 40 * y + q ≠ 40 * s + x by omega)]
        · rw [if_neg e2, if_neg e2]
    refine Ev.gd hin (Ev.ite (fun h3 => ?_) (fun h3 => ?_))
    · exact Ev.gd hin2 (Ev.let_ fun N7 h7 => fin _ N7 (by rw [narr, ← e33, if_pos h3]) h7)
    · refine Ev.gd hin (Ev.ite (fun h4 => ?_) (fun h4 => ?_))
      · exact Ev.gd hin2 (Ev.let_ fun N7 h7 => fin _ N7 (by rw [narr, ← e33, if_neg h3, if_pos h4]) h7)
      · exact Ev.gd hin2 (Ev.let_ fun N7 h7 => fin _ N7 (by rw [narr, ← e33, if_neg h3, if_neg h4]) h7)
end CL
/-! taken -/
section TK
def isW : Nat → Int32 → Bool
  | 0, w => decide (w = 0)
  | 1, w => decide (w = 1) || decide (w = 0)
  | 2, w => decide (w = 2) || decide (w = 0)
  | 3, w => decide (w = 3) || (decide (w = 1) || decide (w = 0))
  | 4, w => decide (w = 4) || (decide (w = 2) || decide (w = 0))
  | _, w => decide (w = 5) || decide (w = 0)
theorem isOf_ev (M : Mem) (k : Nat) (hk : k < 6) (w : Int32) : fP_isOf k w M = some (bt (isW k w), M) := by
  match k, hk with
  | 0, _ => by_cases h0 : w = 0 <;> simp [fP_isOf, fX3_isOf, isW, bt, h0]
  | 1, _ => by_cases h1 : w = 1 <;> by_cases h0 : w = 0 <;> simp [fP_isOf, fX0_isOf, fX3_isOf, isW, bt, ob, h0, h1]
  | 2, _ => by_cases h1 : w = 2 <;> by_cases h0 : w = 0 <;> simp [fP_isOf, fX2_isOf, fX3_isOf, isW, bt, ob, h0, h1]
  | 3, _ => by_cases h3 : w = 3 <;> by_cases h1 : w = 1 <;> by_cases h0 : w = 0 <;> simp [fP_isOf, fX9_isOf, fX0_isOf, fX3_isOf, isW, bt, ob, h0, h1, h3]
  | 4, _ => by_cases h3 : w = 4 <;> by_cases h1 : w = 2 <;> by_cases h0 : w = 0 <;> simp [fP_isOf, fX7_isOf, fX2_isOf, fX3_isOf, isW, bt, ob, h0, h1, h3]
  | 5, _ => by_cases h1 : w = 5 <;> by_cases h0 : w = 0 <;> simp [fP_isOf, fX1_isOf, fX3_isOf, isW, bt, ob, h0, h1]
  | k + 6, h => omega
theorem isUnder_tab : ∀ k, k < 6 → ∀ j, j < 6 → (if nI j = 0 then (1 : Int32) else if nI k = nI j then 1 else if nI j = 1 then (if nI k = 3 then 1 else (if nI j = 2 then (if nI k = 4 then 1 else 0) else 0)) else (if nI j = 2 then (if nI k = 4 then 1 else 0) else 0)) = bt (isW k (nI j)) := by decide +kernel
theorem isUnder_ev (M : Mem) (k j : Nat) (hk : k < 6) (hj : j < 6) : fX11_isUnder (nI k) (nI j) M = some (bt (isW k (nI j)), M) := by
  rw [← isUnder_tab k hk j hj]
  unfold fX11_isUnder fX11_isUnder_J19
  by_cases h0 : nI j = 0
  · rw [if_pos h0, if_pos h0]
  · rw [if_neg h0, if_neg h0]
    by_cases h1 : nI k = nI j
    · rw [if_pos h1, if_pos h1]
    · rw [if_neg h1, if_neg h1]
      by_cases h2 : nI j = 1
      · rw [if_pos h2, if_pos h2]
        by_cases h3 : nI k = 3
        · rw [if_pos h3, if_pos h3]
        · rw [if_neg h3, if_neg h3]
          by_cases h4 : nI j = 2
          · rw [if_pos h4, if_pos h4]
            by_cases h5 : nI k = 4
            · rw [if_pos h5, if_pos h5]
            · rw [if_neg h5, if_neg h5]
          · rw [if_neg h4, if_neg h4]
      · rw [if_neg h2, if_neg h2]
        by_cases h4 : nI j = 2
        · rw [if_pos h4, if_pos h4]
          by_cases h5 : nI k = 4
          · rw [if_pos h5, if_pos h5]
          · rw [if_neg h5, if_neg h5]
        · rw [if_neg h4, if_neg h4]
theorem isW_6 : ∀ k, k < 6 → isW k 6 = false := by decide +kernel
def takenS (v w : Int32) (R : Rm) : Int32 := if bt (decide (0 ≤ w) && decide (w ≤ 6)) = 0 then -2 else if bt (decide (0 ≤ v) && decide (v ≤ 41)) = 0 then -12 else if v < 6 then (if bt (decide (0 ≤ v) && decide (v ≤ nI (rN R) - 1)) = 0 then -11 else if isW (knd R v.toNatClampNeg) w = true then v else -13) else if w = 6 then rT R (v.toNatClampNeg - 6) else -13
theorem takenX_ev {T : Nat} {M : Mem} (h : RelT T M) (v w : Int32) : Ev (fX10_taken v w M) (fun r M1 => r = takenS v w (vwX 0 M) ∧ Kp M M1) := by
  have hX := h.2.2.2.1
  have hA := hX.2.2.2.1
  unfold fX10_taken takenS
  rw [within_ev, ob_some]
  refine Ev.ite (fun h0 => Ev.ret ⟨by rw [if_pos h0], Kp.rf⟩) (fun h0 => ?_)
  rw [within_ev, ob_some, if_neg h0]
  refine Ev.ite (fun h1 => Ev.ret ⟨by rw [if_pos h1], Kp.rf⟩) (fun h1 => ?_)
  rw [if_neg h1]
  obtain ⟨x, hx, rfl⟩ := rng (n := 41) (by decide) (not_bt h1)
  have cx := nI_clamp (show x < 2 ^ 31 by omega)
  rw [cx]
  refine Ev.ite (fun h2 => ?_) (fun h2 => ?_)
  · rw [if_pos h2, hasX_ev 0 (nI x) hX, ob_some]
    refine Ev.ite (fun h3 => Ev.ret ⟨by rw [if_pos h3], Kp.rf⟩) (fun h3 => ?_)
    rw [if_neg h3]
    obtain ⟨p, hp, e⟩ := one_rng hA.1 (not_bt h3)
    have hp6 : p < 6 := Nat.lt_of_lt_of_le hp hA.1
    have : x = p := (nI_eq (by omega) (by omega)).mp e
    subst this
    have hk := knd_lt hA hp
    refine Ev.gd (by decide) (Ev.gd (inb_nI hp6 (by decide)) ?_)
    rw [show 4 * 0 + (2 : Int32).toNatClampNeg = 4 * 0 + 2 by decide, vwX_A (r := 0) (M := M) (t := 2) (by omega) hp, knd_eq hA hp]
    refine Ev.gd (inb_nI hk (by decide)) ?_
    rw [nI_clamp (show knd (vwX 0 M) x < 2 ^ 31 by omega), isOf_ev M _ hk, ob_some]
    refine Ev.ite (fun h4 => Ev.ret ⟨?_, Kp.rf⟩) (fun h4 => Ev.ret ⟨?_, Kp.rf⟩)
    · rw [bt_0] at h4
      rw [h4, if_neg (by decide)]
    · rw [bt_0] at h4
      rw [if_pos (by simpa using h4)]
  · rw [if_neg h2]
    have h6 : 6 ≤ x := by
      by_cases q : x < 6
      · exact absurd ((nI_ltI (b := 6) (by omega) (by omega)).mpr q) h2
      · omega
    refine Ev.ite (fun h3 => ?_) (fun h3 => Ev.ret ⟨by rw [if_neg h3], Kp.rf⟩)
    rw [if_pos h3, show nI x - 6 = nI (x - 6) from pk_sub (b := 6) h6]
    refine Ev.gd (inb_nI (by omega) (by decide)) (Ev.ret ⟨?_, Kp.rf⟩)
    rw [nI_clamp (show x - 6 < 2 ^ 31 by omega)]
    exact vwX_T (by omega)
theorem cl_tab : ∀ c, c < 36 → mmax 0 (mmin 35 (nI c)) = nI c := by decide +kernel
theorem takenM_ev {T : Nat} {M : Mem} (h : RelT T M) (v w : Int32) : Ev (fX11_taken v w M) (fun r M1 => r = takenS v w (vwX 0 M) ∧ Lk M M1) := by
  have hI := h.2.2.2.2.1
  have hv : vwX 0 M = vwM M := h.2.2.2.2.2.1
  have hA := hI.2.2.2.1
  rw [hv]
  unfold fX11_taken takenS
  rw [in_ev, ob_some]
  refine Ev.ite (fun h0 => Ev.ret ⟨by rw [if_pos h0], Lk.rf⟩) (fun h0 => ?_)
  rw [in_ev, ob_some, if_neg h0]
  refine Ev.ite (fun h1 => Ev.ret ⟨by rw [if_pos h1], Lk.rf⟩) (fun h1 => ?_)
  rw [if_neg h1]
  obtain ⟨x, hx, rfl⟩ := rng (n := 41) (by decide) (not_bt h1)
  obtain ⟨j, hj, rfl⟩ := rng (n := 6) (by decide) (not_bt h0)
  have cx := nI_clamp (show x < 2 ^ 31 by omega)
  have hn6 := hA.1
  rw [cx]
  refine Ev.ite (fun h2 => ?_) (fun h2 => ?_)
  · rw [if_pos h2, hI.1]
    refine Ev.ite (fun h3 => ?_) (fun h3 => Ev.ret ⟨?_, Lk.rf⟩)
    · have hp := (nI_ltI (by omega) (by omega)).mp h3
      have hbt : ¬ bt (decide (0 ≤ nI x) && decide (nI x ≤ nI (rN (vwM M)) - 1)) = 0 := fun q => bt_and.mp q ⟨nI_pos' (by omega), by
        rw [show rN (vwM M) = (rN (vwM M) - 1) + 1 by omega, nI_pred]
        exact (nI_leI (by omega) (by omega)).mpr (by omega)⟩
      have hk := knd_lt hA hp
      rw [if_neg hbt]
      refine Ev.ite (fun h4 => Ev.ret ⟨?_, Lk.rf⟩) (fun h4 => ?_)
      · have := (nI_leI (a := 6) (by omega) (by omega)).mp h4
        have e : j = 6 := by omega
        rw [e, show nI 6 = 6 from rfl, isW_6 _ hk, if_neg (by decide)]
      · have hj6 : j < 6 := by
          by_cases q : j < 6
          · exact q
          · exact absurd ((nI_leI (a := 6) (by omega) (by omega)).mpr (by omega)) h4
        refine Ev.gd (inb_nI (by omega) (by decide)) ?_
        rw [show M 23 0 x = rA (vwM M) 2 x from vwM_A (t := 2) (by omega) hp, knd_eq hA hp, isUnder_ev M _ _ hk hj6, ob_some]
        refine Ev.ite (fun h5 => Ev.ret ⟨?_, Lk.rf⟩) (fun h5 => Ev.ret ⟨?_, Lk.rf⟩)
        · rw [bt_0] at h5
          rw [h5, if_neg (by decide)]
        · rw [bt_0] at h5
          rw [if_pos (by simpa using h5)]
    · rw [if_pos]
      refine bt_and.mpr (fun q => ?_)
      obtain ⟨p, hp, e⟩ := one_rng hn6 q
      exact h3 (by rw [e]; exact (nI_ltI (by omega) (by omega)).mpr hp)
  · rw [if_neg h2]
    have h6 : 6 ≤ x := by
      by_cases q : x < 6
      · exact absurd ((nI_ltI (b := 6) (by omega) (by omega)).mpr q) h2
      · omega
    refine Ev.ite (fun h3 => ?_) (fun h3 => Ev.ret ⟨by rw [if_neg h3], Lk.rf⟩)
    rw [if_pos h3, show nI x - 6 = nI (x - 6) from pk_sub (b := 6) h6, within_gen M (nI (x - 6)) 0 35 (by decide), ob_some, cl_tab _ (show x - 6 < 36 by omega)]
    refine Ev.gd (inb_nI (by omega) (by decide)) (Ev.ret ⟨?_, Lk.rf⟩)
    rw [nI_clamp (show x - 6 < 2 ^ 31 by omega)]
    exact vwM_T (by omega)
theorem taken_same (v w : Int32) : Same (fX10_taken v w) (fX11_taken v w) :=
  Same.ask (fun M => takenS v w (vwX 0 M)) (fun M M1 h => by rw [h.vX]) (fun _ _ h => takenX_ev h v w) (fun _ _ h => takenM_ev h v w)
end TK
