/-! one of people comes, on each side -/
section PE
def addA (R : Rm) (a0 a1 a2 a3 : Int32) : Rm := (R.1, fun t p => if p = rN R then (if t = 0 then a0 else if t = 1 then a1 else if t = 2 then a2 else if t = 3 then a3 else 0) else R.2.1 t p, rN R + 1, R.2.2.2)
def persR (R : Rm) (v w : Int32) : Int32 := if bt (decide (0 ≤ v) && decide (v ≤ 59)) = 0 then -2 else if bt (decide (0 ≤ w) && decide (w ≤ 3599)) = 0 then -2 else if rN R < 6 then nI (rN R) else -4
def persV (R : Rm) (v w : Int32) : Rm := if bt (decide (0 ≤ v) && decide (v ≤ 59)) = 0 then R else if bt (decide (0 ≤ w) && decide (w ≤ 3599)) = 0 then R else if rN R < 6 then addA R (w / 100) (irem w 100) (v / 10) (irem v 10) else R
theorem kind_tab : ∀ k, k ≤ 59 → nI k / 10 = nI (k / 10) ∧ irem (nI k) 10 = nI (k % 10) := by decide +kernel
theorem irem_gen {a d : Nat} (ha : a < 2 ^ 31) (h0 : 0 < d) (hd : d < 2 ^ 31) : irem (nI a) (nI d) = nI (a % d) := by
  unfold irem
  exact pk_rem ha h0 hd
theorem okA_add {R : Rm} {a0 a1 a2 a3 : Nat} (h : okA R) (hn : rN R < 6) (h0 : a0 < 36) (h1 : a1 < 100) (h2 : a2 < 6) (h3 : a3 < 10) : okA (addA R (nI a0) (nI a1) (nI a2) (nI a3)) := by
  refine ⟨by show rN R + 1 ≤ 6; omega, fun p hp => ?_⟩
  have hp2 : p < rN R + 1 := hp
  have key : ∀ t, rA (addA R (nI a0) (nI a1) (nI a2) (nI a3)) t p = (if p = rN R then (if t = 0 then nI a0 else if t = 1 then nI a1 else if t = 2 then nI a2 else if t = 3 then nI a3 else 0) else rA R t p) := fun _ => rfl
  rw [key, key, key, key]
  by_cases e : p = rN R
  · rw [if_pos e, if_pos e, if_pos e, if_pos e]
    exact ⟨⟨a0, h0, rfl⟩, ⟨a1, h1, rfl⟩, ⟨a2, h2, rfl⟩, ⟨a3, h3, rfl⟩⟩
  · rw [if_neg e, if_neg e, if_neg e, if_neg e]
    exact h.2 p (by omega)
abbrev scP : Nat → Nat → Prop := fun K i => (K = 15 ∧ i = 0) ∨ (K = 18 ∧ i < 4)
set_option maxHeartbeats 1000000 in
theorem personX_ev {T : Nat} {M : Mem} (hI : InX T 0 M) (v w : Int32) : Ev (fX10_person v w M) (fun r M1 => r = persR (vwX 0 M) v w ∧ vwX 0 M1 = persV (vwX 0 M) v w ∧ InX T 0 M1 ∧ M1 15 0 8 = M 15 0 8 ∧ Off scP M M1) := by
  obtain ⟨p1, p2, p3, p4, p5⟩ := hI
  have hI : InX T 0 M := ⟨p1, p2, p3, p4, p5⟩
  unfold fX10_person
  rw [within_ev, ob_some]
  refine Ev.ite (fun h0 => Ev.ret ⟨by rw [persR, if_pos h0], by rw [persV, if_pos h0], hI, rfl, Off.rf⟩) (fun h0 => ?_)
  rw [within_ev, ob_some]
  refine Ev.ite (fun h1 => Ev.ret ⟨by rw [persR, if_neg h0, if_pos h1], by rw [persV, if_neg h0, if_pos h1], hI, rfl, Off.rf⟩) (fun h1 => ?_)
  have hR : persR (vwX 0 M) v w = if rN (vwX 0 M) < 6 then nI (rN (vwX 0 M)) else -4 := by rw [persR, if_neg h0, if_neg h1]
  have hV : persV (vwX 0 M) v w = if rN (vwX 0 M) < 6 then addA (vwX 0 M) (w / 100) (irem w 100) (v / 10) (irem v 10) else vwX 0 M := by rw [persV, if_neg h0, if_neg h1]
  obtain ⟨a, ha, rfl⟩ := rng (n := 59) (by decide) (not_bt h0)
  obtain ⟨b, hb, rfl⟩ := rng (n := 3599) (by decide) (not_bt h1)
  rw [hR, hV]
  unfold fX5_admit
  have hn6 := p4.1
  rw [p1]
  by_cases hn : rN (vwX 0 M) < 6
  · rw [if_pos hn, if_pos hn, if_pos (show nI (rN (vwX 0 M)) < 6 from (nI_ltI (b := 6) (by omega) (by omega)).mpr hn)]
    have hin : inb (nI (rN (vwX 0 M))) 6 = true := inb_nI hn (by decide)
    have cn := nI_clamp (show rN (vwX 0 M) < 2 ^ 31 by omega)
    refine Ev.bind (P := fun r M9 => r = nI (rN (vwX 0 M)) ∧ vwX 0 M9 = addA (vwX 0 M) (nI b / 100) (irem (nI b) 100) (nI a / 10) (irem (nI a) 10) ∧ InX T 0 M9 ∧ M9 15 0 8 = M 15 0 8 ∧ Off scP M M9) ?_ (fun r M9 q => Ev.ret q)
    refine Ev.gd (by decide) (Ev.gd hin (Ev.let_ fun M2 h2 => Ev.gd (by decide) ?_))
    have f2 : M2 15 0 = M 15 0 := by rw [h2, mst_n (by simp)]
    rw [f2, p1]
    refine Ev.gd hin (Ev.let_ fun M4 h4 => Ev.gd (by decide) ?_)
    have f4 : M4 15 0 = M 15 0 := by rw [h4, mst_n (by simp), f2]
    rw [f4, p1]
    refine Ev.gd hin (Ev.let_ fun M6 h6 => Ev.gd (by decide) ?_)
    have f6 : M6 15 0 = M 15 0 := by rw [h6, mst_n (by simp), f4]
    rw [f6, p1]
    refine Ev.gd hin (Ev.let_ fun M8 h8 => ?_)
    have f8 : M8 15 0 = M 15 0 := by rw [h8, mst_n (by simp), f6]
    rw [f8, p1, nI_1]
    refine Ev.let_ fun M9 h9 => Ev.ret ?_
    rw [cn, show 4 * 0 + (2 : Int32).toNatClampNeg = 2 by decide] at h2
    rw [cn, show 4 * 0 + (3 : Int32).toNatClampNeg = 3 by decide] at h4
    rw [cn, show 4 * 0 + (0 : Int32).toNatClampNeg = 0 by decide] at h6
    rw [cn, show 4 * 0 + (1 : Int32).toNatClampNeg = 1 by decide] at h8
    have f9 : M9 15 0 = upd (M 15 0) 7 (nI (rN (vwX 0 M) + 1)) := by rw [h9, mst_s, f8]
    have g16 : M9 16 0 = M 16 0 := by rw [h9, mst_n (by simp), h8, mst_n (by simp), h6, mst_n (by simp), h4, mst_n (by simp), h2, mst_n (by simp)]
    have g0 : M9 18 0 = upd (M 18 0) (rN (vwX 0 M)) (nI b / 100) := by rw [h9, mst_n (by simp), h8, mst_n (by simp), h6, mst_s, h4, mst_n (by simp), h2, mst_n (by simp)]
    have g1 : M9 18 1 = upd (M 18 1) (rN (vwX 0 M)) (irem (nI b) 100) := by rw [h9, mst_n (by simp), h8, mst_s, h6, mst_n (by simp), h4, mst_n (by simp), h2, mst_n (by simp)]
    have g2 : M9 18 2 = upd (M 18 2) (rN (vwX 0 M)) (nI a / 10) := by rw [h9, mst_n (by simp), h8, mst_n (by simp), h6, mst_n (by simp), h4, mst_n (by simp), h2, mst_s]
    have g3 : M9 18 3 = upd (M 18 3) (rN (vwX 0 M)) (irem (nI a) 10) := by rw [h9, mst_n (by simp), h8, mst_n (by simp), h6, mst_n (by simp), h4, mst_s, h2, mst_n (by simp)]
    have e7 : M9 15 0 7 = nI (rN (vwX 0 M) + 1) := by rw [f9]; simp [upd]
    have e8 : M9 15 0 8 = M 15 0 8 := by rw [f9]; simp [upd]
    have e9 : M9 15 0 9 = M 15 0 9 := by rw [f9]; simp [upd]
    have eV : vwX 0 M9 = addA (vwX 0 M) (nI b / 100) (irem (nI b) 100) (nI a / 10) (irem (nI a) 10) := by
      have hnn : (M 15 0 7).toNatClampNeg = rN (vwX 0 M) := rfl
      unfold vwX addA
      rw [e7, e8, e9, g16, nI_clamp (show rN (vwX 0 M) + 1 < 2 ^ 31 by omega)]
      refine Prod.ext rfl (Prod.ext ?_ rfl)
      funext t p
      show (if t < 4 ∧ p < rN (vwX 0 M) + 1 then M9 18 (4 * 0 + t) p else 0) = (if p = rN (vwX 0 M) then (if t = 0 then nI b / 100 else if t = 1 then irem (nI b) 100 else if t = 2 then nI a / 10 else if t = 3 then irem (nI a) 10 else 0) else (if t < 4 ∧ p < rN (vwX 0 M) then M 18 (4 * 0 + t) p else 0))
      by_cases ht : t < 4
      · by_cases e : p = rN (vwX 0 M)
        · rw [if_pos ⟨ht, by omega⟩, if_pos e, e]
          match t, ht with
          | 0, _ => rw [show 4 * 0 + 0 = 0 from rfl, g0]; simp [upd]
          | 1, _ => rw [show 4 * 0 + 1 = 1 from rfl, g1]; simp [upd]
          | 2, _ => rw [show 4 * 0 + 2 = 2 from rfl, g2]; simp [upd]
          | 3, _ => rw [show 4 * 0 + 3 = 3 from rfl, g3]; simp [upd]
          | t + 4, h => omega
        · rw [if_neg e]
          by_cases hp : p < rN (vwX 0 M)
          · rw [if_pos ⟨ht, by omega⟩, if_pos ⟨ht, hp⟩]
            match t, ht with
            | 0, _ => rw [show 4 * 0 + 0 = 0 from rfl, g0]; simp [upd, e]
            | 1, _ => rw [show 4 * 0 + 1 = 1 from rfl, g1]; simp [upd, e]
            | 2, _ => rw [show 4 * 0 + 2 = 2 from rfl, g2]; simp [upd, e]
            | 3, _ => rw [show 4 * 0 + 3 = 3 from rfl, g3]; simp [upd, e]
            | t + 4, h => omega
          · rw [if_neg (fun q => by omega), if_neg (fun q => hp q.2)]
      · by_cases e : p = rN (vwX 0 M)
        · rw [if_neg (fun q => ht q.1), if_pos e, if_neg (by omega), if_neg (by omega), if_neg (by omega), if_neg (by omega)]
        · rw [if_neg (fun q => ht q.1), if_neg e, if_neg (fun q => ht q.1)]
    refine ⟨?_, eV, ?_, e8, ?_⟩
    · rw [e7, nI_pred]
    · refine ⟨by rw [e7, eV]; rfl, by rw [e9, eV, p2]; rfl, by rw [eV]; exact p3, ?_, by rw [eV]; exact p5⟩
      rw [eV, show (100 : Int32) = nI 100 from rfl, pk_div (by omega) (by omega) (by omega), irem_gen (by omega) (by omega) (by omega), (kind_tab a ha).1, (kind_tab a ha).2]
      exact okA_add p4 hn (by omega) (by omega) (by omega) (by omega)
    · rw [h9, h8, h6, h4, h2]
      exact (((((Off.rf.mst (Or.inr ⟨rfl, by omega⟩)).mst (Or.inr ⟨rfl, by omega⟩)).mst (Or.inr ⟨rfl, by omega⟩)).mst (Or.inr ⟨rfl, by omega⟩)).mst (Or.inl ⟨rfl, rfl⟩))
  · rw [if_neg hn, if_neg hn, if_neg (show ¬ nI (rN (vwX 0 M)) < 6 from fun q => hn ((nI_ltI (b := 6) (by omega) (by omega)).mp q))]
    exact Ev.ret ⟨rfl, rfl, hI, rfl, Off.rf⟩
/-- the reference's object but for the number of people -/
abbrev scPM : Nat → Nat → Prop := fun K i => i = 0 ∧ (K = 22 ∨ K = 23 ∨ K = 24 ∨ K = 25 ∨ K = 26)
set_option maxHeartbeats 1000000 in
theorem personM_ev {T : Nat} {M : Mem} (hI : InM T M) (v w : Int32) : Ev (fX11_person v w M) (fun r M1 => r = persR (vwM M) v w ∧ vwM M1 = persV (vwM M) v w ∧ InM T M1 ∧ (∀ s, s ≠ 0 → M1 22 0 s = M 22 0 s) ∧ Off scPM M M1 ∧ rN (vwM M) ≤ rN (vwM M1) ∧ ∀ p, p < rN (vwM M) → M1 23 0 p = M 23 0 p ∧ M1 24 0 p = M 24 0 p) := by
  obtain ⟨p1, p2, p3, p4, p5⟩ := hI
  have hI : InM T M := ⟨p1, p2, p3, p4, p5⟩
  unfold fX11_person
  rw [in_ev, ob_some]
  refine Ev.ite (fun h0 => Ev.ret ⟨by rw [persR, if_pos h0], by rw [persV, if_pos h0], hI, fun _ _ => rfl, Off.rf, Nat.le_refl _, fun _ _ => ⟨rfl, rfl⟩⟩) (fun h0 => ?_)
  rw [in_ev, ob_some]
  refine Ev.ite (fun h1 => Ev.ret ⟨by rw [persR, if_neg h0, if_pos h1], by rw [persV, if_neg h0, if_pos h1], hI, fun _ _ => rfl, Off.rf, Nat.le_refl _, fun _ _ => ⟨rfl, rfl⟩⟩) (fun h1 => ?_)
  have hR : persR (vwM M) v w = if rN (vwM M) < 6 then nI (rN (vwM M)) else -4 := by rw [persR, if_neg h0, if_neg h1]
  have hV : persV (vwM M) v w = if rN (vwM M) < 6 then addA (vwM M) (w / 100) (irem w 100) (v / 10) (irem v 10) else vwM M := by rw [persV, if_neg h0, if_neg h1]
  obtain ⟨a, ha, rfl⟩ := rng (n := 59) (by decide) (not_bt h0)
  obtain ⟨b, hb, rfl⟩ := rng (n := 3599) (by decide) (not_bt h1)
  rw [hR, hV]
  have hn6 := p4.1
  rw [p1]
  by_cases hn : rN (vwM M) < 6
  · rw [if_pos hn, if_pos hn, if_neg (show ¬ nI (rN (vwM M)) = 6 from fun q => by have := (nI_eq (b := 6) (by omega) (by omega)).mp q; omega)]
    have hin : inb (nI (rN (vwM M))) 6 = true := inb_nI hn (by decide)
    have cn := nI_clamp (show rN (vwM M) < 2 ^ 31 by omega)
    refine Ev.gd hin (Ev.let_ fun M2 h2 => ?_)
    have f2 : M2 22 0 = M 22 0 := by rw [h2, mst_n (by simp)]
    rw [f2, p1]
    refine Ev.gd hin (Ev.let_ fun M4 h4 => ?_)
    have f4 : M4 22 0 = M 22 0 := by rw [h4, mst_n (by simp), f2]
    rw [f4, p1]
    refine Ev.gd hin (Ev.let_ fun M6 h6 => ?_)
    have f6 : M6 22 0 = M 22 0 := by rw [h6, mst_n (by simp), f4]
    rw [f6, p1]
    refine Ev.gd hin (Ev.let_ fun M8 h8 => ?_)
    have f8 : M8 22 0 = M 22 0 := by rw [h8, mst_n (by simp), f6]
    rw [f8, p1, nI_1]
    refine Ev.let_ fun M9 h9 => Ev.ret ?_
    rw [cn] at h2 h4 h6 h8
    have f9 : M9 22 0 = upd (M 22 0) 0 (nI (rN (vwM M) + 1)) := by rw [h9, mst_s, f8]
    have g27 : M9 27 0 = M 27 0 := by rw [h9, mst_n (by simp), h8, mst_n (by simp), h6, mst_n (by simp), h4, mst_n (by simp), h2, mst_n (by simp)]
    have g25 : M9 25 0 = upd (M 25 0) (rN (vwM M)) (nI b / 100) := by rw [h9, mst_n (by simp), h8, mst_n (by simp), h6, mst_s, h4, mst_n (by simp), h2, mst_n (by simp)]
    have g26 : M9 26 0 = upd (M 26 0) (rN (vwM M)) (irem (nI b) 100) := by rw [h9, mst_n (by simp), h8, mst_s, h6, mst_n (by simp), h4, mst_n (by simp), h2, mst_n (by simp)]
    have g23 : M9 23 0 = upd (M 23 0) (rN (vwM M)) (nI a / 10) := by rw [h9, mst_n (by simp), h8, mst_n (by simp), h6, mst_n (by simp), h4, mst_n (by simp), h2, mst_s]
    have g24 : M9 24 0 = upd (M 24 0) (rN (vwM M)) (irem (nI a) 10) := by rw [h9, mst_n (by simp), h8, mst_n (by simp), h6, mst_n (by simp), h4, mst_s, h2, mst_n (by simp)]
    have e0 : M9 22 0 0 = nI (rN (vwM M) + 1) := by rw [f9]; simp [upd]
    have es : ∀ s, s ≠ 0 → M9 22 0 s = M 22 0 s := fun s hs => by rw [f9]; simp [upd, hs]
    have eV : vwM M9 = addA (vwM M) (nI b / 100) (irem (nI b) 100) (nI a / 10) (irem (nI a) 10) := by
      unfold vwM addA
      rw [e0, es 6 (by decide), es 12 (by decide), g27, nI_clamp (show rN (vwM M) + 1 < 2 ^ 31 by omega)]
      refine Prod.ext rfl (Prod.ext ?_ rfl)
      funext t p
      show (if t < 4 ∧ p < rN (vwM M) + 1 then M9 (trK t) 0 p else 0) = (if p = rN (vwM M) then (if t = 0 then nI b / 100 else if t = 1 then irem (nI b) 100 else if t = 2 then nI a / 10 else if t = 3 then irem (nI a) 10 else 0) else (if t < 4 ∧ p < rN (vwM M) then M (trK t) 0 p else 0))
      by_cases ht : t < 4
      · by_cases e : p = rN (vwM M)
        · rw [if_pos ⟨ht, by omega⟩, if_pos e, e]
          match t, ht with
          | 0, _ => rw [show trK 0 = 25 from rfl, g25]; simp [upd]
          | 1, _ => rw [show trK 1 = 26 from rfl, g26]; simp [upd]
          | 2, _ => rw [show trK 2 = 23 from rfl, g23]; simp [upd]
          | 3, _ => rw [show trK 3 = 24 from rfl, g24]; simp [upd]
          | t + 4, h => omega
        · rw [if_neg e]
          by_cases hp : p < rN (vwM M)
          · rw [if_pos ⟨ht, by omega⟩, if_pos ⟨ht, hp⟩]
            match t, ht with
            | 0, _ => rw [show trK 0 = 25 from rfl, g25]; simp [upd, e]
            | 1, _ => rw [show trK 1 = 26 from rfl, g26]; simp [upd, e]
            | 2, _ => rw [show trK 2 = 23 from rfl, g23]; simp [upd, e]
            | 3, _ => rw [show trK 3 = 24 from rfl, g24]; simp [upd, e]
            | t + 4, h => omega
          · rw [if_neg (fun q => by omega), if_neg (fun q => hp q.2)]
      · by_cases e : p = rN (vwM M)
        · rw [if_neg (fun q => ht q.1), if_pos e, if_neg (by omega), if_neg (by omega), if_neg (by omega), if_neg (by omega)]
        · rw [if_neg (fun q => ht q.1), if_neg e, if_neg (fun q => ht q.1)]
    refine ⟨?_, eV, ?_, es, ?_, ?_, fun p hp => ⟨?_, ?_⟩⟩
    · rw [e0, nI_pred]
    · refine ⟨by rw [e0, eV]; rfl, by rw [es 12 (by decide), eV, p2]; rfl, by rw [eV]; exact p3, ?_, by rw [eV]; exact p5⟩
      rw [eV, show (100 : Int32) = nI 100 from rfl, pk_div (by omega) (by omega) (by omega), irem_gen (by omega) (by omega) (by omega), (kind_tab a ha).1, (kind_tab a ha).2]
      exact okA_add p4 hn (by omega) (by omega) (by omega) (by omega)
    · rw [h9, h8, h6, h4, h2]
      exact (((((Off.rf.mst (by simp [scPM])).mst (by simp [scPM])).mst (by simp [scPM])).mst (by simp [scPM])).mst (by simp [scPM]))
    · rw [eV]
      show rN (vwM M) ≤ rN (vwM M) + 1
      omega
    · rw [g23]
      simp only [upd, if_neg (show p ≠ rN (vwM M) by omega)]
    · rw [g24]
      simp only [upd, if_neg (show p ≠ rN (vwM M) by omega)]
  · rw [if_neg hn, if_neg hn, if_pos (show nI (rN (vwM M)) = 6 by rw [show rN (vwM M) = 6 by omega]; rfl)]
    exact Ev.ret ⟨rfl, rfl, hI, fun _ _ => rfl, Off.rf, Nat.le_refl _, fun _ _ => ⟨rfl, rfl⟩⟩
theorem nk_P : ∀ {K i : Nat}, keptK K i → ¬ (K < 22 ∧ roomK K i) → ¬ scP K i := fun a b q => by
  simp only [scP] at q
  simp only [roomK] at b
  omega
theorem nk_PM : ∀ {K i : Nat}, (22 ≤ K → i = 0 ∧ ¬ roomK K i) → ¬ scPM K i := fun b q => by
  simp only [scPM] at q
  have := b (by omega)
  simp only [roomK] at this
  omega
theorem person_same (v w : Int32) : Same (fX10_person v w) (fX11_person v w) := by
  refine Same.room (fun M => persR (vwX 0 M) v w) (fun M => persV (vwX 0 M) v w) ?_ ?_
  · intro T M h
    refine (personX_ev h.2.2.2.1 v w).mono (fun r M1 q => ⟨q.1, q.2.1, q.2.2.1, ?_, fun K i a b => q.2.2.2.2.at (nk_P a b)⟩)
    obtain ⟨d, hd, e⟩ := h.2.2.2.2.2.2.1
    exact ⟨d, hd, by show M1 15 0 8 = nI d; rw [q.2.2.2.1]; exact e⟩
  · intro T M N h hT hI hvN hs hk
    refine (personM_ev hI v w).mono (fun r N1 q => ?_)
    obtain ⟨z1, z2, z3, z4, z5, z6, z7⟩ := q
    exact ⟨by rw [z1, hvN], by rw [z2, hvN], z3, ⟨z4 8 (by decide), z4 11 (by decide), z4 13 (by decide)⟩, fun K i a b => z5.at (nk_PM b), z6, z7⟩
end PE
