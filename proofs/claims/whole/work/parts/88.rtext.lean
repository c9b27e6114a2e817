/-! the three parts of a text -/
section RX3
def PF (tk : Tk) : Nat → Nat → List Nat → Nat → Prop
  | 0, i, _, e => ¬ (tk i).1 = 0 ∧ e = i
  | k + 1, i, w, e => (¬ ((tk i).1 = 4 ∧ (tk i).2 = 2 - k) ∧ e = i) ∨ (((tk i).1 = 4 ∧ (tk i).2 = 2 - k) ∧ w.length ≤ i ∧ (SyFl tk (i + 1, [], 0, w, true, true) e ∨ ∃ j w2, SyOk tk (i + 1, [], 0, w, true, true) j w2 ∧ j < 160 ∧ PF tk k (j + 1) w2 e))
def PO (tk : Tk) : Nat → Nat → List Nat → List Nat → List Nat → Prop
  | 0, i, w, wf, L => (tk i).1 = 0 ∧ wf = w ∧ L = [w.length]
  | k + 1, i, w, wf, L => ((tk i).1 = 4 ∧ (tk i).2 = 2 - k) ∧ w.length ≤ i ∧ ∃ j cs L2, SyOk tk (i + 1, [], 0, w, true, true) j (w ++ cs) ∧ j < 160 ∧ okD 31 cs ∧ PO tk k (j + 1) (w ++ cs) wf L2 ∧ L = w.length :: L2
theorem CX.base {tk : Tk} {st nx : Nat → Nat} {M0 : Mem} {i : Nat} {cs : List Nat} {N : Mem} (h : CX tk st nx M0 i cs N) : CX tk st nx N i cs N := ⟨h.1, h.2.1, h.2.2.1, h.2.2.2.1, h.2.2.2.2.1, h.2.2.2.2.2.1, rfl, Off.rf⟩
def O134 : Nat → Nat → Prop := fun K i => (K = 1 ∨ K = 3 ∨ K = 4) ∧ i = 0
/-- the end of an E in the class, at its semicolon -/
theorem semi {tk : Tk} {i j o1n : Nat} {c0 cs P o1 : List Nat} (hij : i ≤ j) (b5 : cs = o1 ++ P) (b6 : ∀ s ∈ P, 1 ≤ rkN s) (h : ∃ mN', SyTo tk (i, [], 0, c0, true, true) (j, P ++ [], 0 + nn P, c0 ++ o1, false, mN')) (hk : (tk j).1 = 10) (_ : o1n = 0) : SyOk tk (i, [], 0, c0, true, true) j (c0 ++ cs) := by
  obtain ⟨mN', t⟩ := h
  refine t.ok (SyOk.one (A := (j, P ++ [], 0 + nn P, c0 ++ o1, false, mN')) ?_)
  show syO (tk j).1 j (P ++ []) (0 + nn P) (c0 ++ o1) mN' = _
  unfold syO
  rw [if_pos hk, unw_all (S := []) trivial P 0 (c0 ++ o1) b6, b5, ← List.append_assoc]
  rfl
theorem nosemi {tk : Tk} {i j : Nat} {c0 P o1 : List Nat} (b6 : ∀ s ∈ P, 1 ≤ rkN s) (b7 : rdcF (tk j).1 P) (hlt : (tk j).1 < 16) (h : ∃ mN', SyTo tk (i, [], 0, c0, true, true) (j, P ++ [], 0 + nn P, c0 ++ o1, false, mN')) (hk : ¬ (tk j).1 = 10) : SyFl tk (i, [], 0, c0, true, true) j := by
  obtain ⟨mN', t⟩ := h
  refine t.fl ?_
  obtain ⟨g1, g2, ⟨g3, g4, g5⟩, g6⟩ := b7
  by_cases k9 : (tk j).1 = 9
  · refine SyFl.one (A := (j, P ++ [], 0 + nn P, c0 ++ o1, false, mN')) ?_
    show syO (tk j).1 j (P ++ []) (0 + nn P) (c0 ++ o1) mN' = _
    unfold syO
    rw [if_neg hk, if_pos k9, unw_all (S := []) trivial P 0 (c0 ++ o1) b6]
    rfl
  · by_cases k14 : (tk j).1 = 14 ∨ (tk j).1 = 15
    · exact blk_fail k14 (g6 k14)
    · refine none_fail hk k9 ?_
      unfold sgn
      rw [if_neg g1, if_neg g2, if_neg (by omega), if_neg (by omega), if_neg g3, if_neg g4, if_neg g5]
theorem rt_ev {b : Nat → Int32} {n : Nat} (hn : n ≤ 160) : ∀ k q, q + k = 3 → ∀ m, k < m → ∀ i c0 N, XT b n N → CX (tkT b n) (stT b n) (nxT b n) N i c0 N → c0.length + q ≤ i → i ≤ 160 →
    Ev (fX4_readText_L16 m (nI q) N) (fun r N' => Off O134 N N' ∧ (∀ x, x < q → N' 4 0 x = N 4 0 x) ∧ N' 1 0 3 = N 1 0 3 ∧ ((r = 0 ∧ ∃ e, N' 1 0 7 = nI (stT b n e) ∧ PF (tkT b n) k i c0 e) ∨ (r = 1 ∧ ∃ wf L, PO (tkT b n) k i c0 wf L ∧ N' 1 0 4 = nI wf.length ∧ wf.length < 160 ∧ (∀ x, x < wf.length → N' 3 0 x = encC (nI (wf.getD x 0))) ∧ ∀ x, x < k → N' 4 0 (q + x) = nI (L.getD x 0)))) := by
  intro k
  induction k with
  | zero =>
    intro q hq m hm i c0 N hX hC hc hi
    obtain ⟨m, rfl⟩ : ∃ m', m = m' + 1 := ⟨m - 1, by omega⟩
    have h3 : q = 3 := by omega
    subst h3
    show Ev (fX4_readText_B16 (fX4_readText_L16 m) (nI 3) N) _
    unfold fX4_readText_B16
    have T0 := (cTk_is (tkT_ok b n i)).1
    rw [if_pos (by decide), hC.1]
    by_cases e : (tkT b n i).1 = 0
    · rw [if_pos (T0.mpr e)]
      exact Ev.ret ⟨Off.rf, fun _ _ => rfl, rfl, Or.inr ⟨rfl, c0, [c0.length], ⟨e, rfl, rfl⟩, hC.2.2.2.2.1, by omega, hC.2.2.2.2.2.1, fun x hx => absurd hx (Nat.not_lt_zero x)⟩⟩
    · rw [if_neg (fun z => e (T0.mp z))]
      exact Ev.ret ⟨Off.rf, fun _ _ => rfl, rfl, Or.inl ⟨rfl, i, hC.2.2.1, e, rfl⟩⟩
  | succ k ih =>
    intro q hq m hm i c0 N hX hC hc hi
    obtain ⟨m, rfl⟩ : ∃ m', m = m' + 1 := ⟨m - 1, by omega⟩
    have hq3 : q < 3 := by omega
    have hqk : q = 2 - k := by omega
    have Tq := (cTk_is (tkT_ok b n i)).2.2.2.2.2.2.2.2.2.2.2.2.2.2 q hq3
    show Ev (fX4_readText_B16 (fX4_readText_L16 m) (nI q) N) _
    unfold fX4_readText_B16
    rw [if_neg (fun z => by have := (nI_leI (a := 3) (by omega) (by omega)).mp z; omega), show (4 : Int32) = nI 4 from rfl, nI_add]
    refine Ev.bind (skip_ev (advT hn hX) hC) (fun r N6 q6 => ?_)
    rcases q6 with ⟨rfl, n1, n2⟩ | ⟨rfl, n1, n2⟩
    · rw [if_pos rfl]
      refine Ev.ret ⟨n2.2.2.2.2.2.2.2.mono (fun K i q => ⟨q.1.imp id Or.inl, q.2⟩), fun x _ => by rw [n2.2.2.2.2.2.2.2 4 0 (by simp)], n2.2.2.2.2.2.2.1, Or.inl ⟨rfl, i, n2.2.2.1, Or.inl ⟨fun z => n1 (Tq.mpr ⟨z.1, by rw [hqk]; exact z.2⟩), rfl⟩⟩⟩
    · rw [if_neg (by decide)]
      have tq := Tq.mp n1
      rw [hqk] at tq
      have hi2 : i < 160 := tkT_160 b hn i (by omega)
      have off6 : Off O134 N N6 := n2.2.2.2.2.2.2.2.mono (fun K i q => ⟨q.1.imp id Or.inl, q.2⟩)
      refine Ev.gd (inb_nI (by omega) (by decide)) (Ev.let_ fun N7 e7 => ?_)
      rw [nI_clamp (show q < 2 ^ 31 by omega), n2.2.2.2.2.1] at e7
      have f1 : N7 1 0 = N6 1 0 := by rw [e7, mst_n (by simp)]
      have f2 : N7 2 0 = N6 2 0 := by rw [e7, mst_n (by simp)]
      have f3 : N7 3 0 = N6 3 0 := by rw [e7, mst_n (by simp)]
      have f4 : N7 4 0 = upd (N6 4 0) q (nI c0.length) := by rw [e7, mst_s]
      have off7 : Off O134 N N7 := by rw [e7]; exact off6.mst ⟨Or.inr (Or.inr rfl), rfl⟩
      have h64 : N6 4 0 = N 4 0 := n2.2.2.2.2.2.2.2 4 0 (by simp)
      have hX7 : XT b n N7 := ⟨by rw [f1]; exact n2.2.2.2.2.2.2.1.trans hX.1, fun x hx => by rw [f2, n2.2.2.2.2.2.2.2 2 0 (by simp)]; exact hX.2 x hx⟩
      have hC7 : CX (tkT b n) (stT b n) (nxT b n) N7 (i + 1) c0 N7 := ⟨by rw [f1]; exact n2.1, by rw [f1]; exact n2.2.1, by rw [f1]; exact n2.2.2.1, by rw [f1]; exact n2.2.2.2.1, by rw [f1]; exact n2.2.2.2.2.1, by rw [f3]; exact n2.2.2.2.2.2.1, rfl, Off.rf⟩
      have h73 : N7 1 0 3 = N 1 0 3 := by rw [f1]; exact n2.2.2.2.2.2.2.1
      clear e7
      refine Ev.bind ((fRd_ev (advT hn hX7) 64 0 (by omega) (i + 1) c0 N7 hC7 (by omega)).2.2.2.2.2 (by omega)) (fun r N9 q9 => ?_)
      have frm : ∀ {N' : Mem}, Off (fun K i => (K = 1 ∨ K = 3) ∧ i = 0) N7 N' → Off O134 N N' ∧ ∀ x, N' 4 0 x = if x = q then nI c0.length else N 4 0 x := fun o => ⟨off7.tr (o.mono (fun K i q => ⟨q.1.imp id Or.inl, q.2⟩)), fun x => by rw [o 4 0 (by simp), f4, h64]; rfl⟩
      rcases q9 with ⟨rfl, e, g1, g2⟩ | ⟨rfl, j, cs, P, o1, b1, b2, b3, b4, b5, b6, b7, b8, b9⟩
      · rw [if_pos rfl]
        obtain ⟨u1, u2⟩ := frm g1.2.2
        refine Ev.ret ⟨u1, fun x hx => by rw [u2, if_neg (by omega)], g1.2.1.trans h73, Or.inl ⟨rfl, e, g1.1, Or.inr ⟨tq, (by omega), Or.inl (g2 [] c0 true trivial rfl)⟩⟩⟩
      · rw [if_neg (by decide)]
        refine Ev.bind (skip_ev (advT hn hX7) b3) (fun r N11 q11 => ?_)
        have t59 := (cTk_is (tkT_ok b n j)).2.2.2.2.2.2.2.2.1
        rcases q11 with ⟨rfl, n1, n2⟩ | ⟨rfl, n1, n2⟩
        · rw [if_pos rfl]
          obtain ⟨u1, u2⟩ := frm n2.2.2.2.2.2.2.2
          refine Ev.ret ⟨u1, fun x hx => by rw [u2, if_neg (by omega)], n2.2.2.2.2.2.2.1.trans h73, Or.inl ⟨rfl, j, n2.2.2.1, Or.inr ⟨tq, (by omega), Or.inl (nosemi b6 b7 (tkT_ok b n j).1 (b9 [] c0 true trivial rfl) (fun z => n1 (t59.mpr z)))⟩⟩⟩
        · rw [if_neg (by decide), nI_1]
          obtain ⟨u1, u2⟩ := frm n2.2.2.2.2.2.2.2
          have k10 := t59.mp n1
          have hj : j < 160 := tkT_160 b hn j (by omega)
          have hX11 : XT b n N11 := ⟨n2.2.2.2.2.2.2.1.trans hX7.1, fun x hx => by rw [n2.2.2.2.2.2.2.2 2 0 (by simp)]; exact hX7.2 x hx⟩
          have ok := semi (o1n := 0) (by omega) b5 b6 (b9 [] c0 true trivial rfl) k10 rfl
          refine (ih (q + 1) (by omega) m (by omega) (j + 1) (c0 ++ cs) N11 hX11 n2.base (by rw [List.length_append]; omega) (by omega)).mono (fun r N' q' => ?_)
          obtain ⟨v1, v2, v3, v4⟩ := q'
          refine ⟨u1.tr v1, fun x hx => by rw [v2 x (by omega), u2, if_neg (by omega)], v3.trans (n2.2.2.2.2.2.2.1.trans h73), ?_⟩
          rcases v4 with ⟨rfl, e, w1, w2⟩ | ⟨rfl, wf, L, w1, w2, w3, w4, w5⟩
          · exact Or.inl ⟨rfl, e, w1, Or.inr ⟨tq, (by omega), Or.inr ⟨j, c0 ++ cs, ok, hj, w2⟩⟩⟩
          · refine Or.inr ⟨rfl, wf, c0.length :: L, ⟨tq, (by omega), j, cs, L, ok, hj, b8, w1, rfl⟩, w2, w3, w4, fun x hx => ?_⟩
            cases x with
            | zero =>
              show N' 4 0 q = nI c0.length
              rw [v2 q (by omega), u2, if_pos rfl]
            | succ x =>
              show N' 4 0 (q + (x + 1)) = nI (L.getD x 0)
              rw [← w5 x (by omega)]
              congr 1
              omega
end RX3
