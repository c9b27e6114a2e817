/-! peopleBy -/
section PB
def pbF (a : Sh) (fr : Int32) : Nat → Nat → Nat → Rm → Int32 × Rm
  | 0, _, came, R => (nI came, R)
  | m + 1, k, came, R => if 0 ≤ fr.toInt ∧ fr.toInt + 2 * (k : Int) + 2 ≤ a.2.1.toInt then pbF a fr m (k + 1) (if persR R (a.2.2 (fr.toInt.toNat + 2 * k)) (a.2.2 (fr.toInt.toNat + 2 * k + 1)) < 0 then came else came + 1) (persV R (a.2.2 (fr.toInt.toNat + 2 * k)) (a.2.2 (fr.toInt.toNat + 2 * k + 1))) else (-12, R)
theorem nI_inj32 {a b : Nat} (ha : a < 2 ^ 32) (hb : b < 2 ^ 32) (h : nI a = nI b) : a = b := by
  rw [← pk_tn ha, ← pk_tn hb, h]
theorem nI_neg {a : Nat} (h1 : 2 ^ 31 ≤ a) (h2 : a < 2 ^ 32) : nI a < 0 := by
  apply Int32.lt_iff_toInt_lt.mpr
  rw [show (0 : Int32).toInt = 0 by decide]
  show (nI a).toBitVec.toInt < 0
  rw [BitVec.toInt_eq_toNat_cond, pk_tn h2]
  split <;> omega
theorem pb_at {fr : Int32} {f j : Nat} (h : fr = nI f) : fr + 2 * nI j = nI (f + 2 * j) := by
  rw [h, show (2 : Int32) = nI 2 from rfl, nI_mulB, nI_add]
theorem pb_fr {fr : Int32} (h : 0 ≤ fr.toInt) : ∃ f, f < 2 ^ 31 ∧ fr = nI f ∧ fr.toInt = (f : Int) ∧ fr.toInt.toNat = f := by
  have h1 : fr.toInt < 2 ^ 31 := Int32.toInt_lt fr
  refine ⟨fr.toInt.toNat, by omega, nI_ex h, by omega, rfl⟩
theorem hR_true {m i n : Nat} (h : i + n ≤ m) (hm : m ≤ 40) : hRb (nI m) (nI i) (nI n) = true := by
  unfold hRb
  rw [pk_sub (show i ≤ m by omega)]
  have h1 : ¬ nI i < 0 := nI_pos (by omega)
  have h2 : ¬ nI n < 0 := nI_pos (by omega)
  have h3 : ¬ nI m < nI i := fun q => by have := (nI_ltI (by omega) (by omega)).mp q; omega
  have h4 : ¬ nI (m - i) < nI n := fun q => by have := (nI_ltI (by omega) (by omega)).mp q; omega
  simp only [h1, h2, h3, h4]
  decide
theorem pb_condX {fr : Int32} {j m : Nat} (hm : m ≤ 40) (hj : j < 6) (h0 : j = 0 ∨ 0 ≤ fr.toInt) : hRb (nI m) (fr + 2 * nI j) 2 = true ↔ (0 ≤ fr.toInt ∧ fr.toInt + 2 * (j : Int) + 2 ≤ (nI m).toInt) := by
  rw [nI_toInt (show m < 2 ^ 31 by omega)]
  constructor
  · intro h
    obtain ⟨i, n, e1, e2, l⟩ := hR_nat hm h
    have en : 2 = n := by
      by_cases q : n < 2 ^ 31
      · exact (nI_eq (a := 2) (by omega) q).mp e2
      · omega
    subst en
    by_cases hf : 0 ≤ fr.toInt
    · obtain ⟨f, f1, f2, f3, f4⟩ := pb_fr hf
      rw [pb_at f2] at e1
      have := nI_inj32 (by omega) (by omega) e1
      exact ⟨hf, by omega⟩
    · have hj0 : j = 0 := by omega
      subst hj0
      rw [show (fr + 2 * nI 0 : Int32) = fr by rw [show (2 * nI 0 : Int32) = 0 by decide]; simp] at e1
      rw [e1, nI_toInt (by omega)] at hf
      omega
  · rintro ⟨h1, h2⟩
    obtain ⟨f, f1, f2, f3, f4⟩ := pb_fr h1
    rw [pb_at f2]
    exact hR_true (n := 2) (by omega) hm
def pbA (v w fr n : Int32) (V : Nat → Sh) (R : Rm) : Int32 × Rm := if bt (decide (0 ≤ v) && decide (v ≤ 3)) = 0 then (-2, R) else if bt (decide (0 ≤ w) && decide (w ≤ 2)) = 0 then (-2, R) else if bt (decide (0 ≤ n) && decide (n ≤ 6)) = 0 then (-2, R) else if (V v.toNatClampNeg).1 = -1 then (-11, R) else if (V v.toNatClampNeg).1 = w then pbF (V v.toNatClampNeg) fr n.toNatClampNeg 0 0 R else (-13, R)
theorem pbX_loop {T s n : Nat} {M : Mem} {fr : Int32} (hs : s < 4) (hn : n ≤ 6) (hI : InX T 0 M) (hok : okSh (shX s M)) : Ev (fX10_peopleBy_L68 fr (nI n) s FU 0 0 M) (fun r M1 => r = (pbF (shX s M) fr n 0 0 (vwX 0 M)).1 ∧ vwX 0 M1 = (pbF (shX s M) fr n 0 0 (vwX 0 M)).2 ∧ InX T 0 M1 ∧ M1 15 0 8 = M 15 0 8 ∧ Off scP M M1) := by
  obtain ⟨m, hm, em⟩ := hok.2
  generalize hF : pbF (shX s M) fr n 0 0 (vwX 0 M) = F
  refine Ev.loop (f := fun k (x : Int32 × Int32) M => fX10_peopleBy_L68 fr (nI n) s k x.1 x.2 M) (B := fun k x M => fX10_peopleBy_B68 fr (nI n) s (fun a b M => k (a, b) M) x.1 x.2 M) (fun _ _ _ => rfl) n
    (fun j x N => ∃ came, x = (nI came, nI j) ∧ came ≤ j ∧ pbF (shX s M) fr (n - j) j came (vwX 0 N) = F ∧ InX T 0 N ∧ N 15 0 8 = M 15 0 8 ∧ Off scP M N ∧ (j = 0 ∨ 0 ≤ fr.toInt)) ?_ ?_ FU 0 (0, nI 0) M (Nat.zero_le _) (by show _ < 2000 + 0; omega) ⟨0, rfl, Nat.le_refl _, hF, hI, rfl, Off.rf, Or.inl rfl⟩
  · rintro k j x N hj ⟨came, rfl, hc, hpf, hIN, h8, hoff, hj0⟩ hk
    show Ev (fX10_peopleBy_B68 fr (nI n) s (fun a b M => k (a, b) M) (nI came) (nI j) N) _
    unfold fX10_peopleBy_B68
    rw [if_neg (fun q => by have := (nI_leI (by omega) (by omega)).mp q; omega)]
    refine Ev.letv ?_
    have e13 : N 13 s = M 13 s := hoff.at (by simp [scP])
    have e14 : N 14 s = M 14 s := hoff.at (by simp [scP])
    obtain ⟨d, hd⟩ : ∃ d, n - j = d + 1 := ⟨n - j - 1, by omega⟩
    rw [hd] at hpf
    unfold pbF at hpf
    rw [hR_ev, ob_some, e13]
    show Ev (ite (bt (hRb (shX s M).2.1 (fr + 2 * nI j) 2) = 0) _ _) _
    rw [em] at hpf ⊢
    have hcond := pb_condX (fr := fr) (j := j) hm (by omega) hj0
    refine Ev.ite (fun e => ?_) (fun e => ?_)
    · rw [bt_0] at e
      rw [if_neg (fun q => by have := hcond.mpr q; rw [e] at this; cases this)] at hpf
      refine Ev.ret ⟨by rw [← hpf], by rw [← hpf], hIN, h8, hoff⟩
    · rw [bt_0, Bool.not_eq_false] at e
      have hc2 := hcond.mp e
      rw [if_pos hc2] at hpf
      obtain ⟨f, f1, f2, f3, f4⟩ := pb_fr hc2.1
      rw [nI_toInt (show m < 2 ^ 31 by omega)] at hc2
      rw [f4] at hpf
      rw [pb_at f2, nI_1, nI_clamp (show f + 2 * j < 2 ^ 31 by omega), nI_clamp (show f + 2 * j + 1 < 2 ^ 31 by omega)]
      refine Ev.gd (inb_nI (by omega) (by decide)) (Ev.gd (inb_nI (by omega) (by decide)) ?_)
      rw [e14, shX_i (s := s) (M := M) (show f + 2 * j < 40 by omega), shX_i (s := s) (M := M) (show f + 2 * j + 1 < 40 by omega)]
      refine Ev.bind (personX_ev hIN _ _) (fun r N2 q => ?_)
      obtain ⟨z1, z2, z3, z4, z5⟩ := q
      rw [← z1, ← z2] at hpf
      rw [nI_1, nI_1]
      refine Ev.ite (fun e2 => ?_) (fun e2 => ?_)
      · rw [if_pos e2] at hpf
        exact hk _ N2 ⟨came, rfl, by omega, by rw [show n - (j + 1) = d by omega]; exact hpf, z3, by rw [z4, h8], hoff.tr z5, Or.inr hc2.1⟩
      · rw [if_neg e2] at hpf
        exact hk _ N2 ⟨came + 1, rfl, by omega, by rw [show n - (j + 1) = d by omega]; exact hpf, z3, by rw [z4, h8], hoff.tr z5, Or.inr hc2.1⟩
  · rintro k x N ⟨came, rfl, hc, hpf, hIN, h8, hoff, hj0⟩
    show Ev (fX10_peopleBy_B68 fr (nI n) s (fun a b M => k (a, b) M) (nI came) (nI n) N) _
    unfold fX10_peopleBy_B68
    rw [if_pos ((nI_leI (by omega) (by omega)).mpr (Nat.le_refl _))]
    rw [Nat.sub_self] at hpf
    unfold pbF at hpf
    exact Ev.ret ⟨by rw [← hpf], by rw [← hpf], hIN, h8, hoff⟩
theorem pbM_loop {T s n : Nat} {M : Mem} {fr : Int32} (hs : s < 4) (hn : n ≤ 6) (hI : InM T M) (hok : okSh (shM s M)) : Ev (fX11_peopleBy_L64 (nI s) fr (nI n) FU 0 0 M) (fun r M1 => r = (pbF (shM s M) fr n 0 0 (vwM M)).1 ∧ vwM M1 = (pbF (shM s M) fr n 0 0 (vwM M)).2 ∧ InM T M1 ∧ (∀ s, s ≠ 0 → M1 22 0 s = M 22 0 s) ∧ Off scPM M M1 ∧ rN (vwM M) ≤ rN (vwM M1) ∧ ∀ p, p < rN (vwM M) → M1 23 0 p = M 23 0 p ∧ M1 24 0 p = M 24 0 p) := by
  obtain ⟨m, hm, em⟩ := hok.2
  have is4 : inb (nI s) 4 = true := inb_nI hs (by decide)
  have cs := nI_clamp (show s < 2 ^ 31 by omega)
  generalize hF : pbF (shM s M) fr n 0 0 (vwM M) = F
  refine Ev.loop (f := fun k (x : Int32 × Int32) M => fX11_peopleBy_L64 (nI s) fr (nI n) k x.1 x.2 M) (B := fun k x M => fX11_peopleBy_B64 (nI s) fr (nI n) (fun a b M => k (a, b) M) x.1 x.2 M) (fun _ _ _ => rfl) n
    (fun j x N => ∃ came, x = (nI came, nI j) ∧ came ≤ j ∧ pbF (shM s M) fr (n - j) j came (vwM N) = F ∧ InM T N ∧ (∀ s, s ≠ 0 → N 22 0 s = M 22 0 s) ∧ Off scPM M N ∧ rN (vwM M) ≤ rN (vwM N) ∧ ∀ p, p < rN (vwM M) → N 23 0 p = M 23 0 p ∧ N 24 0 p = M 24 0 p) ?_ ?_ FU 0 (0, nI 0) M (Nat.zero_le _) (by show _ < 2000 + 0; omega) ⟨0, rfl, Nat.le_refl _, hF, hI, fun _ _ => rfl, Off.rf, Nat.le_refl _, fun _ _ => ⟨rfl, rfl⟩⟩
  · rintro k j x N hj ⟨came, rfl, hc, hpf, hIN, h8, hoff, hrn, hkd⟩ hk
    show Ev (fX11_peopleBy_B64 (nI s) fr (nI n) (fun a b M => k (a, b) M) (nI came) (nI j) N) _
    unfold fX11_peopleBy_B64
    rw [if_neg (fun q => by have := (nI_leI (by omega) (by omega)).mp q; omega)]
    refine Ev.letv ?_
    have e34 : N 34 0 = M 34 0 := hoff.at (by simp [scPM])
    have e35 : N 35 0 = M 35 0 := hoff.at (by simp [scPM])
    obtain ⟨d, hd⟩ : ∃ d, n - j = d + 1 := ⟨n - j - 1, by omega⟩
    rw [hd] at hpf
    unfold pbF at hpf
    rw [em, nI_toInt (show m < 2 ^ 31 by omega)] at hpf
    have no : ¬ (0 ≤ fr.toInt ∧ fr.toInt + 2 * (j : Int) + 2 ≤ (m : Int)) → Ev (some ((-12 : Int32), N)) (fun r M1 => r = F.1 ∧ vwM M1 = F.2 ∧ InM T M1 ∧ (∀ s, s ≠ 0 → M1 22 0 s = M 22 0 s) ∧ Off scPM M M1 ∧ rN (vwM M) ≤ rN (vwM M1) ∧ ∀ p, p < rN (vwM M) → M1 23 0 p = M 23 0 p ∧ M1 24 0 p = M 24 0 p) := fun hno => by
      rw [if_neg hno] at hpf
      exact Ev.ret ⟨by rw [← hpf], by rw [← hpf], hIN, h8, hoff, hrn, hkd⟩
    refine Ev.ite (fun e => no (fun q => ?_)) (fun e => ?_)
    · have := Int32.lt_iff_toInt_lt.mp e
      rw [show (0 : Int32).toInt = 0 by decide] at this
      omega
    have hf0 : 0 ≤ fr.toInt := by
      have := Int32.le_iff_toInt_le.mp (Int32.not_lt.mp e)
      rw [show (0 : Int32).toInt = 0 by decide] at this
      exact this
    obtain ⟨f, f1, f2, f3, f4⟩ := pb_fr hf0
    rw [pb_at f2]
    refine Ev.ite (fun e2 => no (fun q => ?_)) (fun e2 => ?_)
    · rw [f2] at e2
      have := (nI_ltI (by omega) (by omega)).mp e2
      omega
    have hlt : f + 2 * j < 2 ^ 31 := by
      by_cases q : f + 2 * j < 2 ^ 31
      · exact q
      · refine absurd ?_ e2
        have h1 := nI_neg (a := f + 2 * j) (by omega) (by omega)
        have h2 := Int32.lt_iff_toInt_lt.mp h1
        rw [show (0 : Int32).toInt = 0 by decide] at h2
        exact Int32.lt_iff_toInt_lt.mpr (by omega)
    have hle : nI (f + 2 * j) ≤ nI m - 2 ↔ f + 2 * j + 2 ≤ m := by
      rw [Int32.le_iff_toInt_le, nI_toInt hlt, show (nI m - 2 : Int32) = nI m - nI 2 from rfl, pk_sub_toInt (by omega) (by omega)]
      omega
    have e34s : N 34 0 s = nI m := by rw [e34]; exact em
    rw [cs, e34s]
    refine Ev.gd is4 (Ev.ite (fun e3 => ?_) (fun e3 => no (fun q => e3 (hle.mpr (by omega)))))
    have hle2 := hle.mp e3
    rw [if_pos ⟨hf0, by omega⟩, f4] at hpf
    refine Ev.letv ?_
    rw [show (40 : Int32) * nI s + nI (f + 2 * j) = nI (40 * s + (f + 2 * j)) by rw [show (40 : Int32) = nI 40 from rfl, nI_mulB, nI_add], nI_1, nI_clamp (show 40 * s + (f + 2 * j) < 2 ^ 31 by omega), nI_clamp (show 40 * s + (f + 2 * j) + 1 < 2 ^ 31 by omega)]
    refine Ev.gd (inb_nI (by omega) (by decide)) (Ev.gd (inb_nI (by omega) (by decide)) ?_)
    rw [e35, shM_i (s := s) (M := M) (show f + 2 * j < 40 by omega), show 40 * s + (f + 2 * j) + 1 = 40 * s + (f + 2 * j + 1) by omega, shM_i (s := s) (M := M) (show f + 2 * j + 1 < 40 by omega)]
    refine Ev.bind (personM_ev hIN _ _) (fun r N2 q => ?_)
    obtain ⟨z1, z2, z3, z4, z5, z6, z7⟩ := q
    rw [← z1, ← z2] at hpf
    have hkd2 : ∀ p, p < rN (vwM M) → N2 23 0 p = M 23 0 p ∧ N2 24 0 p = M 24 0 p := fun p hp => by
      have a := z7 p (by omega)
      have b := hkd p hp
      exact ⟨a.1.trans b.1, a.2.trans b.2⟩
    refine Ev.ite (fun e2 => Ev.letv ?_) (fun e2 => Ev.letv ?_)
    · rw [if_pos e2] at hpf
      rw [nI_1, show nI came + 0 = nI came by simp]
      exact hk _ N2 ⟨came, rfl, by omega, by rw [show n - (j + 1) = d by omega]; exact hpf, z3, fun s hs => (z4 s hs).trans (h8 s hs), hoff.tr z5, by omega, hkd2⟩
    · rw [if_neg e2] at hpf
      rw [nI_1, nI_1]
      exact hk _ N2 ⟨came + 1, rfl, by omega, by rw [show n - (j + 1) = d by omega]; exact hpf, z3, fun s hs => (z4 s hs).trans (h8 s hs), hoff.tr z5, by omega, hkd2⟩
  · rintro k x N ⟨came, rfl, hc, hpf, hIN, h8, hoff, hrn, hkd⟩
    show Ev (fX11_peopleBy_B64 (nI s) fr (nI n) (fun a b M => k (a, b) M) (nI came) (nI n) N) _
    unfold fX11_peopleBy_B64
    rw [if_pos ((nI_leI (by omega) (by omega)).mpr (Nat.le_refl _))]
    rw [Nat.sub_self] at hpf
    unfold pbF at hpf
    exact Ev.ret ⟨by rw [← hpf], by rw [← hpf], hIN, h8, hoff, hrn, hkd⟩
theorem peopleBy_same (v w fr n : Int32) : Same (fX10_peopleBy v w fr n) (fX11_peopleBy v w fr n) := by
  refine Same.room (fun M => (pbA v w fr n (fun s => shX s M) (vwX 0 M)).1) (fun M => (pbA v w fr n (fun s => shX s M) (vwX 0 M)).2) ?_ ?_
  · intro T M h
    have hX := h.2.2.2.1
    have hd := h.2.2.2.2.2.2.1
    unfold fX10_peopleBy pbA
    rw [sheetX_is, ob_some]
    refine Ev.ite (fun h0 => Ev.ret ⟨by rw [if_pos h0], by rw [if_pos h0], hX, hd, fun _ _ _ _ => rfl⟩) (fun h0 => ?_)
    rw [within_ev, ob_some, if_neg h0]
    refine Ev.ite (fun h1 => Ev.ret ⟨by rw [if_pos h1], by rw [if_pos h1], hX, hd, fun _ _ _ _ => rfl⟩) (fun h1 => ?_)
    rw [within_ev, ob_some, if_neg h1]
    refine Ev.ite (fun h2 => Ev.ret ⟨by rw [if_pos h2], by rw [if_pos h2], hX, hd, fun _ _ _ _ => rfl⟩) (fun h2 => ?_)
    rw [if_neg h2]
    obtain ⟨s, hs, rfl⟩ := rng (n := 3) (by decide) (not_bt h0)
    obtain ⟨m, hm, rfl⟩ := rng (n := 6) (by decide) (not_bt h2)
    rw [nI_clamp (show s < 2 ^ 31 by omega), nI_clamp (show m < 2 ^ 31 by omega)]
    refine Ev.gd (inb_nI (by omega) (by decide)) ?_
    show Ev (ite ((shX s M).1 = -1) _ _) _
    refine Ev.ite (fun h3 => Ev.ret ⟨by rw [if_pos h3], by rw [if_pos h3], hX, hd, fun _ _ _ _ => rfl⟩) (fun h3 => ?_)
    rw [if_neg h3]
    show Ev (ite ((shX s M).1 = w) _ _) _
    refine Ev.ite (fun h4 => ?_) (fun h4 => Ev.ret ⟨by rw [if_neg h4], by rw [if_neg h4], hX, hd, fun _ _ _ _ => rfl⟩)
    rw [if_pos h4]
    refine (pbX_loop (by omega) (by omega) hX (h.2.2.2.2.2.2.2.2.1.eq (by omega)).2).mono (fun r M1 q => ⟨q.1, q.2.1, q.2.2.1, ?_, fun K i a b => q.2.2.2.2.at (nk_P a b)⟩)
    obtain ⟨d, hd, e⟩ := hd
    exact ⟨d, hd, by show M1 15 0 8 = nI d; rw [q.2.2.2.1]; exact e⟩
  · intro T M N h hT hI hvN hs hk
    have hsh : ∀ s, s < 4 → shM s N = shX s M := fun s hs => by
      rw [shM_eq (hk 33 0 (by simp [keptK]) (by simp)) (hk 34 0 (by simp [keptK]) (by simp)) (hk 35 0 (by simp [keptK]) (by simp))]
      exact (h.2.2.2.2.2.2.2.2.1.eq hs).1.symm
    have refu : ∀ (r : Int32) (F : Int32 × Rm), F = (r, vwX 0 M) → Ev (some (r, N)) (fun r N1 => r = F.1 ∧ vwM N1 = F.2 ∧ InM T N1 ∧ (N1 22 0 8 = N 22 0 8 ∧ N1 22 0 11 = N 22 0 11 ∧ N1 22 0 13 = N 22 0 13) ∧ (∀ K i, keptK K i → (22 ≤ K → i = 0 ∧ ¬ roomK K i) → N1 K i = N K i) ∧ rN (vwM N) ≤ rN (vwM N1) ∧ ∀ p, p < rN (vwM N) → N1 23 0 p = N 23 0 p ∧ N1 24 0 p = N 24 0 p) :=
      fun r F hF => Ev.ret ⟨by rw [hF], by rw [hF]; exact hvN, hI, ⟨rfl, rfl, rfl⟩, fun _ _ _ _ => rfl, Nat.le_refl _, fun _ _ => ⟨rfl, rfl⟩⟩
    unfold fX11_peopleBy pbA
    rw [in_ev, ob_some]
    refine Ev.ite (fun h0 => refu _ _ (by rw [if_pos h0])) (fun h0 => ?_)
    rw [in_ev, ob_some, if_neg h0]
    refine Ev.ite (fun h1 => refu _ _ (by rw [if_pos h1])) (fun h1 => ?_)
    rw [in_ev, ob_some, if_neg h1]
    refine Ev.ite (fun h2 => refu _ _ (by rw [if_pos h2])) (fun h2 => ?_)
    rw [if_neg h2]
    obtain ⟨s, hs, rfl⟩ := rng (n := 3) (by decide) (not_bt h0)
    obtain ⟨m, hm, rfl⟩ := rng (n := 6) (by decide) (not_bt h2)
    have is4 : inb (nI s) 4 = true := inb_nI (by omega) (by decide)
    have es33 : N 33 0 s = (shX s M).1 := by rw [← hsh s (by omega)]; rfl
    rw [nI_clamp (show s < 2 ^ 31 by omega), nI_clamp (show m < 2 ^ 31 by omega), es33]
    refine Ev.gd is4 (Ev.ite (fun h3 => refu _ _ (by rw [if_pos h3])) (fun h3 => ?_))
    rw [if_neg h3]
    refine Ev.gd is4 (Ev.ite (fun h4 => ?_) (fun h4 => refu _ _ (by rw [if_neg h4])))
    rw [if_pos h4]
    refine (pbM_loop (by omega) (by omega) hI (by rw [hsh s (by omega)]; exact (h.2.2.2.2.2.2.2.2.1.eq (by omega)).2)).mono (fun r N1 q => ?_)
    obtain ⟨z1, z2, z3, z4, z5, z6, z7⟩ := q
    rw [hsh s (by omega), hvN] at z1 z2
    exact ⟨z1, z2, z3, ⟨z4 8 (by decide), z4 11 (by decide), z4 13 (by decide)⟩, fun K i a b => z5.at (nk_PM b), z6, z7⟩
end PB
