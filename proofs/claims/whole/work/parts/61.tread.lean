/-! tread -/
section TR
abbrev TE : Type := Nat → Nat → (Nat → Int32) → Int32
def trT (E : TE) (p : Nat) (x : Int32 × Rm) (c : Nat) : Int32 × Rm := (x.1 + lostS E x.2 p c, setT x.2 c (rT x.2 c - lostS E x.2 p c))
def trF (E : TE) (R : Rm) (p : Nat) (nu : Nat → Int32) : Nat → Int32 × Rm
  | 0 => (0, R)
  | n + 1 => trT E p (trF E R p nu n) (nu n).toNatClampNeg
theorem trF_2 {E : TE} {R : Rm} {p : Nat} {nu : Nat → Int32} : ∀ n, (trF E R p nu n).2.2 = R.2 := by
  intro n
  induction n with
  | zero => rfl
  | succ n ih =>
    show (setT (trF E R p nu n).2 _ _).2 = R.2
    exact ih
theorem trF_T {M : Mem} {R : Rm} {p : Nat} {nu : Nat → Int32} (hA : okA R) (hT : okT R) (hp : p < rN R) : ∀ n, okT (trF (svX M) R p nu n).2 := by
  intro n
  induction n with
  | zero => exact hT
  | succ n ih => exact lost_ok (okA_2 (trF_2 n) hA) ih (by unfold rN; rw [trF_2]; exact hp)
def treadA (v p : Int32) (V : Nat → Sh) (E : TE) (R : Rm) : Int32 × Rm := if rwS v p V R = 0 then trF E R p.toNatClampNeg (V v.toNatClampNeg).2.2 (V v.toNatClampNeg).2.1.toNatClampNeg else (rwS v p V R, R)
theorem tread_same (v p : Int32) : Same (fX10_tread v p) (fX11_tread v p) := by
  refine Same.room (fun M => (treadA v p (fun s => shX s M) (svX M) (vwX 0 M)).1) (fun M => (treadA v p (fun s => shX s M) (svX M) (vwX 0 M)).2) ?_ ?_
  · intro T M h
    have hX := h.2.2.2.1
    have hd := h.2.2.2.2.2.2.1
    unfold fX10_tread treadA
    refine Ev.bind (rwX_ev h v p) (fun r M1 q => ?_)
    obtain ⟨rfl, rfl⟩ := q
    refine Ev.ite (fun h0 => ?_) (fun h0 => Ev.ret ⟨by rw [if_neg h0], by rw [if_neg h0], hX, hd, fun _ _ _ _ => rfl⟩)
    rw [if_pos h0]
    obtain ⟨s, n, q, rfl, hs, hn, en, hw, hq, rfl⟩ := rwS_0 h0 h.ok hX.2.2.2.1
    have hq6 : q < 6 := Nat.lt_of_lt_of_le hq hX.2.2.2.1.1
    rw [nI_clamp (show s < 2 ^ 31 by omega), nI_clamp (show q < 2 ^ 31 by omega), en, nI_clamp (show n < 2 ^ 31 by omega)]
    refine Ev.gd (inb_nI hs (by decide)) ?_
    have okN : ∀ j N, vwX 0 N = (trF (svX M1) (vwX 0 M1) q (shX s M1).2.2 j).2 → Off (scW 0) M1 N → InX T 0 N := fun j N e o => hX.eqv (by rw [e, trF_2]) (by rw [o.at (by simp [scW])]) (by rw [o.at (by simp [scW])]) (by rw [e]; exact trF_T hX.2.2.2.1 hX.2.2.2.2 hq j)
    refine Ev.loop (f := fun m (x : Int32 × Int32) M => fX10_tread_L27 (nI q) s m x.1 x.2 M) (B := fun k x M => fX10_tread_B27 (nI q) s (fun a b M => k (a, b) M) x.1 x.2 M) (fun _ _ _ => rfl) n
      (fun j x N => x = ((trF (svX M1) (vwX 0 M1) q (shX s M1).2.2 j).1, nI j) ∧ vwX 0 N = (trF (svX M1) (vwX 0 M1) q (shX s M1).2.2 j).2 ∧ Off (scW 0) M1 N) ?_ ?_ FU 0 (0, nI 0) M1 (Nat.zero_le _) (by show _ < 2000 + 0; omega) ⟨rfl, rfl, Off.rf⟩
    · rintro k j x N hj ⟨rfl, hv, hN⟩ hk
      show Ev (fX10_tread_B27 (nI q) s (fun a b M => k (a, b) M) (trF (svX M1) (vwX 0 M1) q (shX s M1).2.2 j).1 (nI j) N) _
      unfold fX10_tread_B27
      have e13 : N 13 s 2 = nI n := by rw [hN.at (by simp [scW])]; exact en
      obtain ⟨c, hc, ec⟩ := walkB_cell hw j hj
      rw [e13, if_neg (fun q => by have := (nI_leI (by omega) (by omega)).mp q; omega), nI_clamp (show j < 2 ^ 31 by omega), hN.at (show ¬ scW 0 14 s by simp [scW]), shX_i (s := s) (M := M1) (show j < 40 by omega), ec]
      refine Ev.gd (inb_nI (by omega) (by decide)) ?_
      have hIN := okN j N hv hN
      have hrn : rN (vwX 0 N) = rN (vwX 0 M1) := by rw [hv]; unfold rN; rw [trF_2]
      refine Ev.bind (wear_ev (scW_txt h.1 hN) hIN (by rw [hrn]; exact hq) hc) (fun r N2 z => Ev.letv ?_)
      obtain ⟨z1, z2, z3⟩ := z
      rw [scW_sv hN, hv] at z1 z2
      have hs2 : trF (svX M1) (vwX 0 M1) q (shX s M1).2.2 (j + 1) = trT (svX M1) q (trF (svX M1) (vwX 0 M1) q (shX s M1).2.2 j) c := by
        show trT (svX M1) q _ ((shX s M1).2.2 j).toNatClampNeg = _
        rw [ec, nI_clamp (show c < 2 ^ 31 by omega)]
      rw [nI_1, z1]
      exact hk _ N2 ⟨by rw [hs2]; rfl, by rw [hs2]; exact z2, hN.tr z3⟩
    · rintro k x N ⟨rfl, hv, hN⟩
      show Ev (fX10_tread_B27 (nI q) s (fun a b M => k (a, b) M) (trF (svX M1) (vwX 0 M1) q (shX s M1).2.2 n).1 (nI n) N) _
      unfold fX10_tread_B27
      have e13 : N 13 s 2 = nI n := by rw [hN.at (by simp [scW])]; exact en
      rw [e13, if_pos (Int32.le_refl _)]
      refine Ev.ret ⟨rfl, hv, okN n N hv hN, ?_, fun K i a b => hN.at (fun z => ?_)⟩
      · obtain ⟨d, hd1, hd2⟩ := hd
        refine ⟨d, hd1, ?_⟩
        rw [hv]
        unfold rD at hd2 ⊢
        rw [trF_2]
        exact hd2
      · simp only [scW] at z
        simp only [keptK] at a
        simp only [roomK] at b
        omega
  · intro T M N0 h hT hI hvN hs0 hk0
    have hsh : ∀ s, s < 4 → shM s N0 = shX s M := fun s hs => by
      rw [shM_eq (hk0 33 0 (by simp [keptK]) (by simp)) (hk0 34 0 (by simp [keptK]) (by simp)) (hk0 35 0 (by simp [keptK]) (by simp))]
      exact (h.2.2.2.2.2.2.2.2.1.eq hs).1.symm
    unfold fX11_tread treadA
    refine Ev.bind (rwM_ev hI (fun s hs => by rw [hsh s hs]; exact h.ok s hs) v p) (fun r M1 q => ?_)
    obtain ⟨rfl, rfl⟩ := q
    rw [rwS_eq hsh, hvN]
    refine Ev.ite (fun h0 => ?_) (fun h0 => Ev.ret ⟨by rw [if_neg h0], by rw [if_neg h0]; exact hvN, hI, ⟨rfl, rfl, rfl⟩, fun _ _ _ _ => rfl, by rw [hvN]; exact Nat.le_refl _, fun _ _ => ⟨rfl, rfl⟩⟩)
    rw [if_pos h0]
    obtain ⟨s, n, q, rfl, hs, hn, en, hw, hq, rfl⟩ := rwS_0 h0 h.ok h.2.2.2.1.2.2.2.1
    have hA := h.2.2.2.1.2.2.2.1
    have hq6 : q < 6 := Nat.lt_of_lt_of_le hq hA.1
    have is4 : inb (nI s) 4 = true := inb_nI hs (by decide)
    have cs := nI_clamp (show s < 2 ^ 31 by omega)
    rw [cs, nI_clamp (show q < 2 ^ 31 by omega), en, nI_clamp (show n < 2 ^ 31 by omega)]
    have okN : ∀ j N, vwM N = (trF (svX M) (vwX 0 M) q (shX s M).2.2 j).2 → Off scMW M1 N → InM T N := fun j N e o => hI.eqv (by rw [e, trF_2, hvN]) (by rw [o.at (by simp [scMW])]) (by rw [o.at (by simp [scMW])]) (by rw [e]; exact trF_T hA h.2.2.2.1.2.2.2.2 hq j)
    refine Ev.loop (f := fun m (x : Int32 × Int32) M => fX11_tread_L19 (nI s) (nI q) m x.1 x.2 M) (B := fun k x M => fX11_tread_B19 (nI s) (nI q) (fun a b M => k (a, b) M) x.1 x.2 M) (fun _ _ _ => rfl) n
      (fun j x N => x = ((trF (svX M) (vwX 0 M) q (shX s M).2.2 j).1, nI j) ∧ vwM N = (trF (svX M) (vwX 0 M) q (shX s M).2.2 j).2 ∧ Off scMW M1 N) ?_ ?_ FU 0 (0, nI 0) M1 (Nat.zero_le _) (by show _ < 2000 + 0; omega) ⟨rfl, hvN, Off.rf⟩
    · rintro k j x N hj ⟨rfl, hv, hN⟩ hk
      show Ev (fX11_tread_B19 (nI s) (nI q) (fun a b M => k (a, b) M) (trF (svX M) (vwX 0 M) q (shX s M).2.2 j).1 (nI j) N) _
      unfold fX11_tread_B19
      have e34 : N 34 0 s = nI n := by rw [hN.at (by simp [scMW])]; exact (congrArg (fun a => a.2.1) (hsh s hs)).trans en
      obtain ⟨c, hc, ec⟩ := walkB_cell hw j hj
      rw [cs, e34, if_neg (fun q => by have := (nI_leI (by omega) (by omega)).mp q; omega), show (40 : Int32) * nI s + nI j = nI (40 * s + j) by rw [show (40 : Int32) = nI 40 from rfl, nI_mulB, nI_add], nI_clamp (show 40 * s + j < 2 ^ 31 by omega), hN.at (show ¬ scMW 35 0 by simp [scMW]), shM_i (s := s) (M := M1) (show j < 40 by omega), hsh s hs, ec]
      refine Ev.gd is4 (Ev.gd (inb_nI (by omega) (by decide)) ?_)
      have hIN := okN j N hv hN
      have hrn : rN (vwM N) = rN (vwX 0 M) := by rw [hv]; unfold rN; rw [trF_2]
      refine Ev.bind (wearM_ev (scMW_txt hT hN) hIN (by rw [hrn]; exact hq) hc) (fun r N2 z => Ev.letv ?_)
      obtain ⟨z1, z2, z3⟩ := z
      rw [scMW_sv hN, hs0, hv] at z1 z2
      have hs2 : trF (svX M) (vwX 0 M) q (shX s M).2.2 (j + 1) = trT (svX M) q (trF (svX M) (vwX 0 M) q (shX s M).2.2 j) c := by
        show trT (svX M) q _ ((shX s M).2.2 j).toNatClampNeg = _
        rw [ec, nI_clamp (show c < 2 ^ 31 by omega)]
      rw [nI_1, z1]
      exact hk _ N2 ⟨by rw [hs2]; rfl, by rw [hs2]; exact z2, hN.tr z3⟩
    · rintro k x N ⟨rfl, hv, hN⟩
      show Ev (fX11_tread_B19 (nI s) (nI q) (fun a b M => k (a, b) M) (trF (svX M) (vwX 0 M) q (shX s M).2.2 n).1 (nI n) N) _
      unfold fX11_tread_B19
      have e34 : N 34 0 s = nI n := by rw [hN.at (by simp [scMW])]; exact (congrArg (fun a => a.2.1) (hsh s hs)).trans en
      rw [cs, e34, if_pos (Int32.le_refl _)]
      refine Ev.gd is4 (Ev.ret ⟨rfl, hv, okN n N hv hN, ⟨by rw [hN.at (by simp [scMW])], by rw [hN.at (by simp [scMW])], by rw [hN.at (by simp [scMW])]⟩, fun K i a b => hN.at (fun z => ?_), ?_, fun p _ => ⟨by rw [hN.at (by simp [scMW])], by rw [hN.at (by simp [scMW])]⟩⟩)
      · simp only [scMW] at z
        simp only [keptK] at a
        have := b (by omega)
        simp only [roomK] at this
        omega
      · have hrn : rN (vwM N) = rN (vwX 0 M) := by rw [hv]; unfold rN; rw [trF_2]
        rw [hrn]
        exact Nat.le_refl _
end TR
