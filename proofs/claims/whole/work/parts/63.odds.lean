/-! drawn -/
section DR
def drawnS (sd p cs w : Int32) (M : Mem) : Int32 := if hasS p (vwX 0 M) = 0 then -5 else if bt (decide (0 ≤ sd) && decide (sd ≤ 99999)) = 0 then -7 else if bt (decide (0 ≤ cs) && decide (cs ≤ 3599)) = 0 then -7 else if bt (decide (0 ≤ w) && decide (w ≤ 1)) = 0 then -7 else if w = 0 then (wnS (svX M) (vwX 0 M) p.toNatClampNeg (cs.toNatClampNeg / 100) sd.toNatClampNeg (cs.toNatClampNeg % 100)).1 else nI (wnS (svX M) (vwX 0 M) p.toNatClampNeg (cs.toNatClampNeg / 100) sd.toNatClampNeg (cs.toNatClampNeg % 100)).2.1
theorem cs_ev {c : Nat} (h : c ≤ 3599) : irem (nI c) 100 = nI (c % 100) ∧ nI c / 100 = nI (c / 100) ∧ c / 100 < 36 ∧ c % 100 < 100 := ⟨irem_gen (d := 100) (by omega) (by omega) (by omega), pk_div (d := 100) (by omega) (by omega) (by omega), by omega, Nat.mod_lt _ (by decide)⟩
theorem drawn_same (sd p cs w : Int32) : Same (fX10_drawn sd p cs w) (fX11_drawn sd p cs w) := by
  refine Same.ask (drawnS sd p cs w) (fun M M1 h => by unfold drawnS; rw [h.sv, h.vX]) (fun T M h => ?_) (fun T M h => ?_)
  · have hX := h.2.2.2.1
    unfold fX10_drawn drawnS
    rw [hasX_ev 0 p hX, ob_some]
    refine Ev.ite (fun h0 => Ev.ret ⟨by rw [if_pos (show hasS p (vwX 0 M) = 0 from h0)], Kp.rf⟩) (fun h0 => ?_)
    rw [if_neg (show ¬ hasS p (vwX 0 M) = 0 from h0), within_ev, ob_some]
    refine Ev.ite (fun h1 => Ev.ret ⟨by rw [if_pos h1], Kp.rf⟩) (fun h1 => ?_)
    rw [if_neg h1, within_ev, ob_some]
    refine Ev.ite (fun h2 => Ev.ret ⟨by rw [if_pos h2], Kp.rf⟩) (fun h2 => ?_)
    rw [if_neg h2, within_ev, ob_some]
    refine Ev.ite (fun h3 => Ev.ret ⟨by rw [if_pos h3], Kp.rf⟩) (fun h3 => ?_)
    rw [if_neg h3]
    obtain ⟨q, hq, rfl⟩ := has_rng hX.2.2.2.1 h0
    obtain ⟨s, hs, rfl⟩ := rng (n := 99999) (by decide) (not_bt h1)
    obtain ⟨c, hc, rfl⟩ := rng (n := 3599) (by decide) (not_bt h2)
    have hq6 : q < 6 := Nat.lt_of_lt_of_le hq hX.2.2.2.1.1
    obtain ⟨c1, c2, c3, c4⟩ := cs_ev hc
    rw [c1, c2, nI_clamp (show q < 2 ^ 31 by omega), nI_clamp (show s < 2 ^ 31 by omega), nI_clamp (show c < 2 ^ 31 by omega)]
    refine Ev.bind (thx_take hX Kp.rf) (fun _ N1 q1 => Ev.bind (wanX_ev h.1 q1 hq c3 (by omega) c4) (fun r N2 q2 => ?_))
    exact Ev.ite (fun e => Ev.ret ⟨by rw [if_pos e]; exact q2.1, q2.2.2⟩) (fun e => Ev.ret ⟨by rw [if_neg e]; exact q2.2.1, q2.2.2⟩)
  · have hI := h.2.2.2.2.1
    have hv : vwX 0 M = vwM M := h.2.2.2.2.2.1
    unfold fX11_drawn drawnS
    rw [oneM_ev p hI, ob_some, hv]
    refine Ev.ite (fun h0 => Ev.ret ⟨by rw [if_pos (show hasS p (vwM M) = 0 from h0)], Lk.rf⟩) (fun h0 => ?_)
    rw [if_neg (show ¬ hasS p (vwM M) = 0 from h0), in_ev, ob_some]
    refine Ev.ite (fun h1 => Ev.ret ⟨by rw [if_pos h1], Lk.rf⟩) (fun h1 => ?_)
    rw [if_neg h1, in_ev, ob_some]
    refine Ev.ite (fun h2 => Ev.ret ⟨by rw [if_pos h2], Lk.rf⟩) (fun h2 => ?_)
    rw [if_neg h2, in_ev, ob_some]
    refine Ev.ite (fun h3 => Ev.ret ⟨by rw [if_pos h3], Lk.rf⟩) (fun h3 => ?_)
    rw [if_neg h3]
    obtain ⟨q, hq, rfl⟩ := has_rng hI.2.2.2.1 h0
    obtain ⟨s, hs, rfl⟩ := rng (n := 99999) (by decide) (not_bt h1)
    obtain ⟨c, hc, rfl⟩ := rng (n := 3599) (by decide) (not_bt h2)
    have hq6 : q < 6 := Nat.lt_of_lt_of_le hq hI.2.2.2.1.1
    rw [nI_clamp (show q < 2 ^ 31 by omega), nI_clamp (show s < 2 ^ 31 by omega), nI_clamp (show c < 2 ^ 31 by omega)]
    refine Ev.bind (callsM_ev h.1 hI hq hc (by omega)) (fun _ N q2 => ?_)
    exact Ev.ite (fun e => Ev.ret ⟨by rw [if_pos e]; exact q2.1, q2.2.2⟩) (fun e => Ev.ret ⟨by rw [if_neg e]; exact q2.2.1, q2.2.2⟩)
end DR
/-! in lowest terms -/
section GC
def lowS (a b : Nat) (part : Int32) : Int64 := if part = 0 then lN (a / Nat.gcd a b) else lN (b / Nat.gcd a b)
theorem gcd_halve {x y : Nat} (hy : 0 < y) (h : y < x) : 2 * (y * (x % y)) ≤ x * y := by
  have h1 : x % y < y := Nat.mod_lt _ hy
  have h2 := Nat.div_add_mod x y
  have h3 : 1 ≤ x / y := (Nat.one_le_div_iff hy).mpr (by omega)
  have h4 : y * 1 ≤ y * (x / y) := Nat.mul_le_mul_left y h3
  have h5 : 2 * (x % y) ≤ x := by omega
  have h6 : y * (2 * (x % y)) ≤ y * x := Nat.mul_le_mul_left y h5
  calc 2 * (y * (x % y)) = y * (2 * (x % y)) := by rw [Nat.mul_left_comm]
    _ ≤ y * x := h6
    _ = x * y := Nat.mul_comm y x
/-- the pair that Euclid's steps hold, j of them done -/
def EuI (a b j x y : Nat) : Prop := Nat.gcd x y = Nat.gcd a b ∧ x < 2 ^ 16 ∧ y < 2 ^ 16 ∧ (0 < x ∨ 0 < y) ∧ ((j = 0) ∨ (y < x ∧ x * y * 2 ^ j < 2 ^ 33))
theorem EuI.step {a b j x y : Nat} (h : EuI a b j x y) (hy : ¬ y = 0) : EuI a b (j + 1) y (x % y) := by
  obtain ⟨h1, h2, h3, h4, h5⟩ := h
  have hy0 : 0 < y := by omega
  have hm : x % y < y := Nat.mod_lt _ hy0
  refine ⟨by rw [← h1, Nat.gcd_comm y (x % y), ← Nat.gcd_rec, Nat.gcd_comm], h3, by omega, Or.inl hy0, Or.inr ⟨hm, ?_⟩⟩
  rcases h5 with h5 | ⟨h5, h6⟩
  · subst h5
    have : y * (x % y) ≤ 2 ^ 16 * 2 ^ 16 := Nat.mul_le_mul (by omega) (by omega)
    have h7 : y * (x % y) < 2 ^ 16 * 2 ^ 16 := Nat.mul_lt_mul_of_lt_of_le h3 (by omega) (by omega)
    rw [show 0 + 1 = 1 from rfl, Nat.pow_one]
    omega
  · have := gcd_halve hy0 h5
    calc y * (x % y) * 2 ^ (j + 1) = 2 * (y * (x % y)) * 2 ^ j := by rw [Nat.pow_succ, Nat.mul_comm (2 ^ j) 2, ← Nat.mul_assoc, Nat.mul_comm (y * (x % y)) 2]
      _ ≤ x * y * 2 ^ j := Nat.mul_le_mul_right _ this
      _ < 2 ^ 33 := h6
theorem EuI.end_ {a b x y : Nat} (h : EuI a b 64 x y) : y = 0 := by
  obtain ⟨h1, h2, h3, h4, h5⟩ := h
  rcases h5 with h5 | ⟨h5, h6⟩
  · exact absurd h5 (by decide)
  · by_cases e : y = 0
    · exact e
    · exfalso
      have h7 : 1 ≤ x * y := Nat.mul_pos (by omega) (by omega)
      have : 1 * 2 ^ 64 ≤ x * y * 2 ^ 64 := Nat.mul_le_mul_right _ h7
      omega
theorem EuI.gcd {a b j x : Nat} (h : EuI a b j x 0) : x = Nat.gcd a b ∧ 0 < x := by
  obtain ⟨h1, h2, h3, h4, h5⟩ := h
  rw [Nat.gcd_zero_right] at h1
  exact ⟨h1, by omega⟩
theorem lowX_ev {a b : Nat} {part : Int32} {M : Mem} (ha : a < 2 ^ 16) (hb : b < 2 ^ 16) (hb0 : 0 < b) : Ev (fX10_lowest (nI a) (nI b) part M) (fun r M1 => r = lowS a b part ∧ M1 = M) := by
  have j39 : ∀ x j, EuI a b j x 0 → Ev (fX10_lowest_J39 (nI a) (nI b) part (nI x) M) (fun r M1 => r = lowS a b part ∧ M1 = M) := by
    intro x j h
    obtain ⟨e, h0⟩ := h.gcd
    have hx := h.2.1
    have em : mmax 1 (nI x) = nI x := by
      unfold mmax
      by_cases q : (1 : Int32) < nI x
      · rw [if_pos q]
      · rw [if_neg q]
        have : ¬ 1 < x := fun z => q ((nI_ltI (a := 1) (by omega) (by omega)).mpr z)
        rw [show x = 1 by omega]
        rfl
    have hnz : nz (nI x) = true := decide_eq_true (nI_ne0 h0 (by omega))
    have hda : a / x < 2 ^ 31 := Nat.lt_of_le_of_lt (Nat.div_le_self _ _) (by omega)
    have hdb : b / x < 2 ^ 31 := Nat.lt_of_le_of_lt (Nat.div_le_self _ _) (by omega)
    unfold fX10_lowest_J39 lowS
    rw [← e]
    refine Ev.letv ?_
    rw [em]
    refine Ev.ite (fun q => Ev.gd hnz (Ev.ret ⟨?_, rfl⟩)) (fun q => Ev.gd hnz (Ev.ret ⟨?_, rfl⟩))
    · rw [if_pos q, pk_div (by omega) h0 (by omega), nI_l hda]
    · rw [if_neg q, pk_div (by omega) h0 (by omega), nI_l hdb]
  unfold fX10_lowest
  refine Ev.loop (f := fun m (x : Int32 × Int32 × Int32) M => fX10_lowest_L8 (nI a) (nI b) part m x.1 x.2.1 x.2.2 M) (B := fun k x M => fX10_lowest_B8 (nI a) (nI b) part (fun u v w M => k (u, v, w) M) x.1 x.2.1 x.2.2 M) (fun _ _ _ => rfl) 64
    (fun j z N => ∃ x y, z = (nI x, nI y, nI j) ∧ EuI a b j x y ∧ N = M) ?_ ?_ FU 0 (nI a, nI b, nI 0) M (Nat.zero_le _) (by show _ < 2000 + 0; omega) ⟨a, b, rfl, ⟨rfl, ha, hb, Or.inr hb0, Or.inl rfl⟩, rfl⟩
  · rintro k j z N hj ⟨x, y, rfl, hE, rfl⟩ hk
    show Ev (fX10_lowest_B8 (nI a) (nI b) part (fun u v w M => k (u, v, w) M) (nI x) (nI y) (nI j) N) _
    unfold fX10_lowest_B8
    have hx := hE.2.1
    have hy := hE.2.2.1
    rw [if_neg (fun q => by have := (nI_leI (a := 64) (by omega) (by omega)).mp q; omega)]
    refine Ev.ite (fun e => ?_) (fun e => ?_)
    · have : y = 0 := (nI_eq (b := 0) (by omega) (by omega)).mp e
      subst this
      exact j39 x j hE
    · have hy0 : ¬ y = 0 := fun q => e (by rw [q]; rfl)
      refine Ev.gd (decide_eq_true e) (Ev.letv ?_)
      rw [irem_gen (by omega) (by omega) (by omega), nI_1]
      exact hk _ N ⟨y, x % y, rfl, hE.step hy0, rfl⟩
  · rintro k z N ⟨x, y, rfl, hE, rfl⟩
    show Ev (fX10_lowest_B8 (nI a) (nI b) part (fun u v w M => k (u, v, w) M) (nI x) (nI y) (nI 64) N) _
    unfold fX10_lowest_B8
    have := hE.end_
    subst this
    rw [if_pos (by decide)]
    exact j39 x 64 hE
theorem lowM_ev {a b part : Nat} {M : Mem} (ha : a < 2 ^ 16) (hb : b < 2 ^ 16) (hb0 : 0 < b) (hp : part < 2) : Ev (fX11_lowest (lN a) (lN b) (nI part) M) (fun r M1 => r = lowS a b (nI part) ∧ M1 = M) := by
  unfold fX11_lowest
  refine Ev.ite (fun e => ?_) (fun e => ?_)
  · rw [lg_cmp_eq] at e
    have : a = 0 := (pk_lEQ (b := 0) (by omega) (by omega)).mp e
    subst this
    refine Ev.ret ⟨?_, rfl⟩
    unfold lowS
    rw [Nat.gcd_zero_left, Nat.zero_div, Nat.div_self hb0]
    match part, hp with
    | 0, _ => decide
    | 1, _ => decide
    | p + 2, h => omega
  · have j : ∀ x j, EuI a b j x 0 → Ev (if nI part = 0 then (gd (nzL (lN x)) (some (lN a / lN x, M))) else (gd (nzL (lN x)) (some (lN b / lN x, M)))) (fun r M1 => r = lowS a b (nI part) ∧ M1 = M) := by
      intro x j h
      obtain ⟨e, h0⟩ := h.gcd
      have hx := h.2.1
      have hnz : nzL (lN x) = true := decide_eq_true (fun q => by
        have := (pk_lEQ (b := 0) (by omega) (by omega)).mp q
        omega)
      unfold lowS
      rw [← e]
      refine Ev.ite (fun q => Ev.gd hnz (Ev.ret ⟨?_, rfl⟩)) (fun q => Ev.gd hnz (Ev.ret ⟨?_, rfl⟩))
      · rw [if_pos q, pk_lDiv (by omega) h0 (by omega)]
      · rw [if_neg q, pk_lDiv (by omega) h0 (by omega)]
    refine Ev.loop (f := fun m (x : Int64 × Int64) M => fX11_lowest_L16 (lN a) (lN b) (nI part) m x.1 x.2 M) (B := fun k x M => fX11_lowest_B16 (lN a) (lN b) (nI part) (fun u v M => k (u, v) M) x.1 x.2 M) (fun _ _ _ => rfl) 64
      (fun j z N => ∃ x y, z = (lN x, lN y) ∧ EuI a b j x y ∧ N = M) ?_ ?_ FU 0 (lN a, lN b) M (Nat.zero_le _) (by show _ < 2000 + 0; omega) ⟨a, b, rfl, ⟨rfl, ha, hb, Or.inr hb0, Or.inl rfl⟩, rfl⟩
    · rintro k j' z N hj ⟨x, y, rfl, hE, rfl⟩ hk
      show Ev (fX11_lowest_B16 (lN a) (lN b) (nI part) (fun u v M => k (u, v) M) (lN x) (lN y) N) _
      unfold fX11_lowest_B16
      have hx := hE.2.1
      have hy := hE.2.2.1
      refine Ev.ite (fun e => ?_) (fun e => ?_)
      · rw [lg_cmp_eq] at e
        have : y = 0 := (pk_lEQ (b := 0) (by omega) (by omega)).mp e
        subst this
        exact j x j' hE
      · have hy0 : ¬ y = 0 := fun q => e (by rw [q]; decide)
        refine Ev.gd (decide_eq_true (fun q => hy0 ((pk_lEQ (b := 0) (by omega) (by omega)).mp q))) (Ev.letv ?_)
        rw [show lrem (lN x) (lN y) = lN (x % y) from pk_lRem (by omega) (by omega) (by omega)]
        exact hk _ N ⟨y, x % y, rfl, hE.step hy0, rfl⟩
    · rintro k z N ⟨x, y, rfl, hE, rfl⟩
      show Ev (fX11_lowest_B16 (lN a) (lN b) (nI part) (fun u v M => k (u, v) M) (lN x) (lN y) N) _
      unfold fX11_lowest_B16
      have := hE.end_
      subst this
      rw [if_pos (by decide)]
      exact j x 64 hE
end GC
