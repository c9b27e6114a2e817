/-! text is the same on both sides -/
section TS
def OX (T : Nat) : Nat → Nat → Prop := fun K i => O134 K i ∨ ((K = 8 ∨ K = 10 ∨ K = 11) ∧ i = T) ∨ (K = 0 ∧ i = 0)
theorem textX_ev {b : Nat → Int32} {n T : Nat} (hn : n ≤ 160) (hT : T < 6) {M : Mem} (hX : XT b n M) (h08 : M 0 0 8 = nI T) : Ev (fX10_text M) (fun r M1 => M1 1 0 3 = 0 ∧ ((∃ e, r = (-100) - nI (stT b n e) ∧ PF (tkT b n) 3 0 [] e ∧ Off O134 M M1) ∨ ∃ wf L, r = nI T ∧ PO (tkT b n) 3 0 [] wf L ∧ M1 8 T 0 = nI wf.length ∧ wf.length < 160 ∧ (∀ x, x < wf.length → M1 11 T x = encC (nI (wf.getD x 0))) ∧ (∀ q, q < 4 → M1 10 T q = nI (L.getD q 0)) ∧ M1 0 0 8 = nI (T + 1) ∧ M1 0 0 7 = M 0 0 7 ∧ Off (OX T) M M1)) := by
  unfold fX10_text
  rw [h08, if_pos (show nI T < 6 from (nI_ltI (b := 6) (by omega) (by omega)).mpr hT)]
  have R : Ev (fX4_readText M) (fun r N' => Off O134 M N' ∧ N' 1 0 3 = nI n ∧ ((r = 0 ∧ ∃ e, N' 1 0 7 = nI (stT b n e) ∧ PF (tkT b n) 3 0 [] e) ∨ (r = 1 ∧ ∃ wf L, PO (tkT b n) 3 0 [] wf L ∧ N' 1 0 4 = nI wf.length ∧ wf.length < 160 ∧ (∀ x, x < wf.length → N' 3 0 x = encC (nI (wf.getD x 0))) ∧ ∀ x, x < 3 → N' 4 0 (0 + x) = nI (L.getD x 0)))) := by
    unfold fX4_readText
    refine Ev.let_ fun N1 e1 => Ev.let_ fun N2 e2 => ?_
    have o2 : Off (fun K i => K = 1 ∧ i = 0) M N2 := by rw [e2, e1]; exact (Off.rf.mst (by simp)).mst (by simp)
    have s3 : N2 1 0 3 = nI n := by rw [e2, e1, mst10, if_neg (by decide), mst10, if_neg (by decide)]; exact hX.1
    have s4 : N2 1 0 4 = 0 := by rw [e2, e1, mst10, if_neg (by decide), mst10, if_pos rfl]
    have s8 : N2 1 0 8 = nI 0 := by rw [e2, mst10, if_pos rfl]; rfl
    clear e1 e2
    have x2 : XT b n N2 := ⟨s3, fun x hx => by rw [o2 2 0 (by simp)]; exact hX.2 x hx⟩
    refine Ev.bind (adv_ev hn (Nat.zero_le n) x2 s8) (fun _ N4 q4 => ?_)
    obtain ⟨q1, q2, q3, q4, q5⟩ := q4
    have x4 : XT b n N4 := x2.xq q5
    have c4 : CX (tkT b n) (stT b n) (nxT b n) N4 0 [] N4 := ⟨q1, q2, q3, q4, (q5.2 4 (by omega)).trans s4, fun x hx => absurd hx (Nat.not_lt_zero x), rfl, Off.rf⟩
    refine (rt_ev hn 3 0 rfl FU (by show 3 < 2000; omega) 0 [] N4 x4 c4 (Nat.le_refl _) (by omega)).mono (fun r N' z => ?_)
    obtain ⟨z1, z2, z3, z4⟩ := z
    have o4 : Off O134 M N4 := (o2.tr q5.1).mono (fun K i q => ⟨Or.inl q.1, q.2⟩)
    exact ⟨o4.tr z1, z3.trans x4.1, z4⟩
  refine Ev.bind R (fun r N2 q2 => ?_)
  obtain ⟨o, s3, q2⟩ := q2
  refine Ev.let_ fun N3 e3 => ?_
  have o3 : Off O134 M N3 := by rw [e3]; exact o.mst ⟨Or.inl rfl, rfl⟩
  have t3 : N3 1 0 3 = 0 := by rw [e3, mst10, if_pos rfl]
  have t4 : N3 1 0 4 = N2 1 0 4 := by rw [e3, mst10, if_neg (by decide)]
  have t7 : N3 1 0 7 = N2 1 0 7 := by rw [e3, mst10, if_neg (by decide)]
  have k3 : N3 3 0 = N2 3 0 := by rw [e3, mst_n (by simp)]
  have k4 : N3 4 0 = N2 4 0 := by rw [e3, mst_n (by simp)]
  have k0 : N3 0 0 = M 0 0 := o3 0 0 (by simp [O134])
  clear e3
  rcases q2 with ⟨rfl, e, w1, w2⟩ | ⟨rfl, wf, L, w1, w2, w3, w4, w5⟩
  · rw [if_pos rfl]
    exact Ev.ret ⟨t3, Or.inl ⟨e, by rw [t7, w1], w2, o3⟩⟩
  · rw [if_neg (by decide), k0, h08, nI_clamp (show T < 2 ^ 31 by omega)]
    refine Ev.gd (inb_nI hT (by decide)) ?_
    have hL3 := (po_facts (f := fun _ => 0) 3 0 [] wf L w1).2.2.1
    have e4 : N3 1 0 4 = nI wf.length := t4.trans w2
    unfold fX8_become
    have hc : cpn (N3 1 0 4) = true := by
      rw [e4]
      unfold cpn
      rw [Bool.and_eq_true, decide_eq_true_eq, decide_eq_true_eq, nI_clamp (show wf.length < 2 ^ 31 by omega)]
      exact ⟨nI_pos' (by omega), w3⟩
    have B : Ev (gd (cpn (N3 1 0 4)) (lt (mcopy N3 T (N3 1 0 4)) fun M1 => gd (cpk 0 0 3 3 4) (lt (mrow M1 10 T (va_cpy (M1 4 0) (M1 10 T) (0 : Int32).toNatClampNeg (0 : Int32).toNatClampNeg (3 : Int32).toNatClampNeg)) fun M2 => gd (inb 3 4) (lt (mst M2 10 T (3 : Int32).toNatClampNeg (M2 1 0 4)) fun M3 => some ((), M3))))) (fun _ M6 => M6 8 T 0 = nI wf.length ∧ (∀ x, x < wf.length → M6 11 T x = encC (nI (wf.getD x 0))) ∧ (∀ q, q < 4 → M6 10 T q = nI (L.getD q 0)) ∧ M6 0 0 = M 0 0 ∧ M6 1 0 = N3 1 0 ∧ Off (OX T) M M6) := by
      refine Ev.gd hc (Ev.let_ fun N5 e5 => Ev.gd (by decide) (Ev.let_ fun N6 e6 => Ev.gd (by decide) (Ev.let_ fun N7 e7 => Ev.ret ?_)))
      have a5 : ∀ K i, ¬ ((K = 11 ∨ K = 8) ∧ i = T) → N5 K i = N3 K i := fun K i h => by
        rw [e5]
        unfold mcopy
        rw [if_neg (fun q => h ⟨Or.inl q.1, q.2⟩), if_neg (fun q => h ⟨Or.inr q.1, q.2⟩)]
      have b8 : N5 8 T = upd (N3 8 T) 0 (nI wf.length) := by
        rw [e5]
        unfold mcopy
        rw [if_neg (fun q => absurd q.1 (by decide)), if_pos ⟨rfl, rfl⟩, e4]
      have b11 : N5 11 T = cpR N3 (nI wf.length) := by
        rw [e5]
        unfold mcopy
        rw [if_pos ⟨rfl, rfl⟩, e4]
      have a6 : ∀ K i, ¬ (K = 10 ∧ i = T) → N6 K i = N5 K i := fun K i h => by rw [e6]; exact mrow_n h
      have a7 : ∀ K i, ¬ (K = 10 ∧ i = T) → N7 K i = N6 K i := fun K i h => by rw [e7]; exact mst_n h
      have c10 : N7 10 T = upd (va_cpy (N5 4 0) (N5 10 T) 0 0 3) 3 (nI wf.length) := by
        have x4 : N6 1 0 4 = nI wf.length := by rw [a6 1 0 (by simp), a5 1 0 (by simp)]; exact e4
        rw [e7, mst_s, x4, e6, mrow_s]
        rfl
      have n4 : N5 4 0 = N3 4 0 := a5 4 0 (by simp)
      refine ⟨?_, fun x hx => ?_, fun q hq => ?_, ?_, ?_, ?_⟩
      · rw [a7 8 T (by simp), a6 8 T (by simp), b8]; simp [upd]
      · rw [a7 11 T (by simp), a6 11 T (by simp), b11]
        unfold cpR va_cpy
        rw [nI_clamp (show wf.length < 2 ^ 31 by omega), if_pos ⟨Nat.zero_le _, by omega⟩, k3, show 0 + (x - 0) = x by omega]
        exact w4 x hx
      · rw [c10]
        by_cases z : q = 3
        · subst z
          rw [hL3]
          simp [upd]
        · simp only [upd, if_neg z]
          unfold va_cpy
          rw [if_pos ⟨Nat.zero_le _, by omega⟩, n4, k4]
          have := w5 q (by omega)
          rw [Nat.zero_add] at this
          rw [show 0 + (q - 0) = q by omega]
          exact this
      · rw [a7 0 0 (by simp), a6 0 0 (by simp), a5 0 0 (by simp)]; exact k0
      · rw [a7 1 0 (by simp), a6 1 0 (by simp), a5 1 0 (by simp)]
      · intro K i hn
        have h1 : ¬ ((K = 8 ∨ K = 10 ∨ K = 11) ∧ i = T) := fun q => hn (Or.inr (Or.inl q))
        rw [a7 K i (fun q => h1 ⟨Or.inr (Or.inl q.1), q.2⟩), a6 K i (fun q => h1 ⟨Or.inr (Or.inl q.1), q.2⟩), a5 K i (fun q => h1 ⟨q.1.elim (fun z => Or.inr (Or.inr z)) Or.inl, q.2⟩)]
        exact o3 K i (fun q => hn (Or.inl q))
    refine Ev.bind B (fun _ M6 q6 => ?_)
    obtain ⟨g1, g2, g3, g4, g5, g6⟩ := q6
    rw [g4, h08, nI_1]
    refine Ev.let_ fun N7 e7 => Ev.ret ?_
    have f8 : N7 0 0 8 = nI (T + 1) := by rw [e7, mst_s]; simp [upd]
    have f7 : N7 0 0 7 = M 0 0 7 := by rw [e7, mst_s, ← g4]; simp [upd]
    have fo : ∀ K i, ¬ (K = 0 ∧ i = 0) → N7 K i = M6 K i := fun K i h => by rw [e7]; exact mst_n h
    refine ⟨by rw [fo 1 0 (by simp), g5]; exact t3, Or.inr ⟨wf, L, by rw [f8, nI_pred], w1, by rw [fo 8 T (by simp)]; exact g1, w3, fun x hx => by rw [fo 11 T (by simp)]; exact g2 x hx, fun q hq => by rw [fo 10 T (by simp)]; exact g3 q hq, f8, f7, ?_⟩⟩
    intro K i hn
    rw [fo K i (fun q => hn (Or.inr (Or.inr q)))]
    exact g6 K i hn
theorem TxtAt.same {t : Nat} {M M' : Mem} (h : TxtAt t M) (h8 : M' 8 t = M 8 t) (h10 : M' 10 t = M 10 t) (h11 : M' 11 t = M 11 t) (h29 : ∀ i, i < 200 → M' 29 0 (200 * t + i) = M 29 0 (200 * t + i)) (h30 : ∀ q, q < 4 → M' 30 0 (4 * t + q) = M 30 0 (4 * t + q)) : TxtAt t M' := by
  obtain ⟨n, b, hn, a1, a2, a3, a4, a5⟩ := h
  exact ⟨n, b, hn, by rw [h8]; exact a1, fun q hq => ⟨by rw [h10]; exact (a2 q hq).1, by rw [h30 q hq]; exact (a2 q hq).2.1, (a2 q hq).2.2⟩, a3, fun i hi => ⟨by rw [h29 i (by omega)]; exact (a4 i hi).1, by rw [h29 i (by omega), h11]; exact (a4 i hi).2⟩, fun q hq => by rw [h11]; exact a5 q hq⟩
end TS
