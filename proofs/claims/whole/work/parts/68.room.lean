/-! heap, room -/
section HR
def bsN (P : Nat → Bool) : Nat → Nat
  | 0 => 0
  | n + 1 => bsN P n ||| (if P n = true then 2 ^ n else 0)
theorem bsN_lt {P : Nat → Bool} : ∀ n, bsN P n < 2 ^ n := by
  intro n
  induction n with
  | zero => exact Nat.one_pos
  | succ n ih =>
    have h2 : 2 ^ n < 2 ^ (n + 1) := Nat.pow_lt_pow_right (by decide) (by omega)
    refine Nat.or_lt_two_pow (by omega) ?_
    split
    · exact h2
    · exact Nat.two_pow_pos _
theorem bsN_lt36 {P : Nat → Bool} {n : Nat} (h : n ≤ 36) : bsN P n < 2 ^ 36 := Nat.lt_of_lt_of_le (bsN_lt n) (Nat.pow_le_pow_right (by decide) h)
theorem bsN_step {P : Nat → Bool} {j : Nat} (hj : j < 36) : lN (bsN P j) ||| (if P j = true then lshl 1 (nI j) else 0) = lN (bsN P (j + 1)) := by
  have h1 := bsN_lt36 (P := P) (n := j) (by omega)
  have h2 := pw36 hj
  show _ = lN (bsN P j ||| (if P j = true then 2 ^ j else 0))
  by_cases e : P j = true
  · rw [if_pos e, if_pos e, b_one (by omega), wb_or (by omega) (by omega)]
  · rw [if_neg e, if_neg e, or0L, Nat.or_zero]
def thickP (R : Rm) (least : Int32) : Nat → Bool := fun c => decide (¬ rT R c < least)
theorem thickBy_ev {least : Int32} {M : Mem} : Ev (fX5_thickBy 0 least M) (fun r M1 => r = lN (bsN (thickP (vwX 0 M) least) 36) ∧ M1 = M) := by
  unfold fX5_thickBy
  have hP : ∀ c, thickP (vwX 0 M) least c = decide (¬ rT (vwX 0 M) c < least) := fun _ => rfl
  generalize thickP (vwX 0 M) least = P at hP
  generalize h36 : (36 : Nat) = m
  refine Ev.loop (f := fun k (x : Int64 × Int32) M => fX5_thickBy_L5 0 least k x.1 x.2 M) (B := fun k x M => fX5_thickBy_B5 0 least (fun a b M => k (a, b) M) x.1 x.2 M) (fun _ _ _ => rfl) m
    (fun j x N => x = (lN (bsN P j), nI j) ∧ N = M) ?_ ?_ FU 0 (0, nI 0) M (Nat.zero_le _) (by show _ < 2000 + 0; omega) ⟨rfl, rfl⟩
  · rintro k j x N hj ⟨rfl, rfl⟩ hk
    show Ev (fX5_thickBy_B5 0 least (fun a b M => k (a, b) M) (lN (bsN P j)) (nI j) N) _
    unfold fX5_thickBy_B5
    have hs := bsN_step (P := P) (j := j) (by omega)
    rw [if_neg (fun q => by have := (nI_leI (a := 36) (by omega) (by omega)).mp q; omega), nI_clamp (show j < 2 ^ 31 by omega), vwX_T (r := 0) (M := N) (show j < 36 by omega), nI_1]
    refine Ev.gd (inb_nI (by omega) (by decide)) (Ev.ite (fun e => ?_) (fun e => Ev.letv ?_))
    · rw [if_neg (by rw [hP]; simp [e]), or0L] at hs
      exact hk _ N ⟨by rw [hs], rfl⟩
    · rw [if_pos (by rw [hP]; exact decide_eq_true e)] at hs
      exact hk _ N ⟨by rw [hs], rfl⟩
  · rintro k x N ⟨rfl, rfl⟩
    show Ev (fX5_thickBy_B5 0 least (fun a b M => k (a, b) M) (lN (bsN P m)) (nI m) N) _
    unfold fX5_thickBy_B5
    rw [if_pos (by rw [← h36]; decide)]
    exact Ev.ret ⟨rfl, rfl⟩
theorem thickSet_ev {least : Int32} {M : Mem} : Ev (fX11_thickSet least M) (fun r M1 => r = lN (bsN (thickP (vwM M) least) 36) ∧ M1 = M) := by
  unfold fX11_thickSet
  have hP : ∀ c, thickP (vwM M) least c = decide (¬ rT (vwM M) c < least) := fun _ => rfl
  generalize thickP (vwM M) least = P at hP
  generalize h36 : (36 : Nat) = m
  refine Ev.loop (f := fun k (x : Int64 × Int32) M => fX11_thickSet_L5 least k x.1 x.2 M) (B := fun k x M => fX11_thickSet_B5 least (fun a b M => k (a, b) M) x.1 x.2 M) (fun _ _ _ => rfl) m
    (fun j x N => x = (lN (bsN P j), nI j) ∧ N = M) ?_ ?_ FU 0 (0, nI 0) M (Nat.zero_le _) (by show _ < 2000 + 0; omega) ⟨rfl, rfl⟩
  · rintro k j x N hj ⟨rfl, rfl⟩ hk
    show Ev (fX11_thickSet_B5 least (fun a b M => k (a, b) M) (lN (bsN P j)) (nI j) N) _
    unfold fX11_thickSet_B5
    have hs := bsN_step (P := P) (j := j) (by omega)
    rw [if_neg (fun q => by have := (nI_leI (a := 36) (by omega) (by omega)).mp q; omega), nI_clamp (show j < 2 ^ 31 by omega), vwM_T (M := N) (show j < 36 by omega), nI_1]
    refine Ev.gd (inb_nI (by omega) (by decide)) (Ev.ite (fun e => Ev.letv ?_) (fun e => Ev.letv ?_))
    · rw [if_neg (by rw [hP]; simp [e])] at hs
      exact hk _ N ⟨by rw [hs], rfl⟩
    · rw [if_pos (by rw [hP]; exact decide_eq_true e)] at hs
      exact hk _ N ⟨by rw [hs], rfl⟩
  · rintro k x N ⟨rfl, rfl⟩
    show Ev (fX11_thickSet_B5 least (fun a b M => k (a, b) M) (lN (bsN P m)) (nI m) N) _
    unfold fX11_thickSet_B5
    rw [if_pos (by rw [← h36]; decide)]
    exact Ev.ret ⟨rfl, rfl⟩
theorem b_diff {a b : Nat} : lN a &&& (lN b ^^^ (-1)) = lN (a ^^^ (a &&& b)) := by
  apply wb_inj
  rw [Int64.toBitVec_and, Int64.toBitVec_xor, wb_tb, wb_tb, wb_tb, show (-1 : Int64).toBitVec = BitVec.allOnes 64 by decide]
  apply BitVec.eq_of_getLsbD_eq
  intro i hi
  simp only [BitVec.getLsbD_and, BitVec.getLsbD_xor, BitVec.getLsbD_allOnes, BitVec.getLsbD_ofNat, Nat.testBit_xor, Nat.testBit_and, hi, decide_true, Bool.true_and]
  cases a.testBit i <;> cases b.testBit i <;> rfl
def hpT (x : Nat × Nat) (c : Nat) : Nat × Nat := if x.1.testBit c = true then (x.1 ^^^ (x.1 &&& itN x.1 (2 ^ c) 36), x.2 + 1) else x
def hpF (x0 : Nat) : Nat → Nat × Nat
  | 0 => (x0, 0)
  | n + 1 => hpT (hpF x0 n) n
theorem hpF_lt {x0 : Nat} (h : x0 < 2 ^ 36) : ∀ n, (hpF x0 n).1 < 2 ^ 36 ∧ (hpF x0 n).2 ≤ n := by
  intro n
  induction n with
  | zero => exact ⟨h, Nat.le_refl _⟩
  | succ n ih =>
    show (hpT (hpF x0 n) n).1 < 2 ^ 36 ∧ (hpT (hpF x0 n) n).2 ≤ n + 1
    unfold hpT
    split
    · exact ⟨Nat.xor_lt_two_pow ih.1 (Nat.lt_of_le_of_lt Nat.and_le_left ih.1), by show (hpF x0 n).2 + 1 ≤ n + 1; omega⟩
    · exact ⟨ih.1, by omega⟩
theorem hpF_s {x0 n : Nat} : hpF x0 (n + 1) = hpT (hpF x0 n) n := rfl
theorem heapsX_ev {least : Int32} {M : Mem} : Ev (fX5_heaps 0 least M) (fun r M1 => r = nI (hpF (bsN (thickP (vwX 0 M) least) 36) 36).2 ∧ M1 = M) := by
  unfold fX5_heaps
  refine Ev.bind thickBy_ev (fun r M1 q => ?_)
  obtain ⟨rfl, rfl⟩ := q
  have hlt := bsN_lt36 (P := thickP (vwX 0 M1) least) (n := 36) (by omega)
  generalize bsN (thickP (vwX 0 M1) least) 36 = x0 at hlt
  generalize h36 : (36 : Nat) = m
  have hok := hpF_lt (x0 := x0) hlt
  refine Ev.loop (f := fun k (x : Int64 × Int32 × Int32) M => fX5_heaps_L12 k x.1 x.2.1 x.2.2 M) (B := fun k x M => fX5_heaps_B12 (fun a b d M => k (a, b, d) M) x.1 x.2.1 x.2.2 M) (fun _ _ _ => rfl) m
    (fun j x N => x = (lN (hpF x0 j).1, nI (hpF x0 j).2, nI j) ∧ N = M1) ?_ ?_ FU 0 (lN x0, 0, nI 0) M1 (Nat.zero_le _) (by show _ < 2000 + 0; omega) ⟨rfl, rfl⟩
  · rintro k j x N hj ⟨rfl, rfl⟩ hk
    show Ev (fX5_heaps_B12 (fun a b d M => k (a, b, d) M) (lN (hpF x0 j).1) (nI (hpF x0 j).2) (nI j) N) _
    unfold fX5_heaps_B12
    rw [if_neg (fun q => by have := (nI_leI (a := 36) (by omega) (by omega)).mp q; omega)]
    refine Ev.ite (fun e => ?_) (fun e => ?_)
    · rw [b_tst2 (hok j).1 (by omega)] at e
      rw [b_one (by omega)]
      refine Ev.bind (spread_ev (hok j).1 (pw36 (by omega))) (fun r N2 q => Ev.letv ?_)
      obtain ⟨rfl, rfl⟩ := q
      rw [b_diff, nI_1, nI_1]
      exact hk _ N2 ⟨by rw [hpF_s, hpT, if_pos e], rfl⟩
    · rw [b_tst2 (hok j).1 (by omega)] at e
      rw [nI_1]
      exact hk _ N ⟨by rw [hpF_s, hpT, if_neg e], rfl⟩
  · rintro k x N ⟨rfl, rfl⟩
    show Ev (fX5_heaps_B12 (fun a b d M => k (a, b, d) M) (lN (hpF x0 m).1) (nI (hpF x0 m).2) (nI m) N) _
    unfold fX5_heaps_B12
    rw [if_pos (by rw [← h36]; decide)]
    exact Ev.ret ⟨rfl, rfl⟩
theorem heapsM_ev {least : Int32} {M : Mem} : Ev (fX11_heapsOf least M) (fun r M1 => r = nI (hpF (bsN (thickP (vwM M) least) 36) 36).2 ∧ M1 = M) := by
  unfold fX11_heapsOf
  refine Ev.bind thickSet_ev (fun r M1 q => ?_)
  obtain ⟨rfl, rfl⟩ := q
  have hlt := bsN_lt36 (P := thickP (vwM M1) least) (n := 36) (by omega)
  generalize bsN (thickP (vwM M1) least) 36 = x0 at hlt
  generalize h36 : (36 : Nat) = m
  have hok := hpF_lt (x0 := x0) hlt
  refine Ev.loop (f := fun k (x : Int64 × Int32 × Int32) M => fX11_heapsOf_L12 k x.1 x.2.1 x.2.2 M) (B := fun k x M => fX11_heapsOf_B12 (fun a b d M => k (a, b, d) M) x.1 x.2.1 x.2.2 M) (fun _ _ _ => rfl) m
    (fun j x N => x = (lN (hpF x0 j).1, nI (hpF x0 j).2, nI j) ∧ N = M1) ?_ ?_ FU 0 (lN x0, 0, nI 0) M1 (Nat.zero_le _) (by show _ < 2000 + 0; omega) ⟨rfl, rfl⟩
  · rintro k j x N hj ⟨rfl, rfl⟩ hk
    show Ev (fX11_heapsOf_B12 (fun a b d M => k (a, b, d) M) (lN (hpF x0 j).1) (nI (hpF x0 j).2) (nI j) N) _
    unfold fX11_heapsOf_B12
    rw [if_neg (fun q => by have := (nI_leI (a := 36) (by omega) (by omega)).mp q; omega)]
    refine Ev.ite (fun e => ?_) (fun e => ?_)
    · rw [b_tst (hok j).1 (by omega)] at e
      refine Ev.bind (heapOf_ev (show j < 36 by omega) (hok j).1) (fun r N2 q => Ev.letv ?_)
      obtain ⟨rfl, rfl⟩ := q
      rw [b_diff, nI_1, nI_1]
      exact hk _ N2 ⟨by rw [hpF_s, hpT, if_pos e], rfl⟩
    · rw [b_tst (hok j).1 (by omega)] at e
      rw [nI_1]
      exact hk _ N ⟨by rw [hpF_s, hpT, if_neg e], rfl⟩
  · rintro k x N ⟨rfl, rfl⟩
    show Ev (fX11_heapsOf_B12 (fun a b d M => k (a, b, d) M) (lN (hpF x0 m).1) (nI (hpF x0 m).2) (nI m) N) _
    unfold fX11_heapsOf_B12
    rw [if_pos (by rw [← h36]; decide)]
    exact Ev.ret ⟨rfl, rfl⟩
def roomS (v w : Int32) (R : Rm) : Int32 := if bt (decide (0 ≤ v) && decide (v ≤ 999)) = 0 then -2 else if w = 0 then nI (amx (rT R) 35) else if w = 1 then nI (amn (rT R) 35) else if w = 2 then nI (hpF (bsN (thickP R v) 36) 36).2 else -2
theorem room_same (v w : Int32) : Same (fX10_room v w) (fX11_room v w) := by
  refine Same.ask (fun M => roomS v w (vwX 0 M)) (fun M M1 h => by rw [h.vX]) (fun T M h => ?_) (fun T M h => ?_)
  · unfold fX10_room roomS
    rw [within_ev, ob_some]
    refine Ev.ite (fun h0 => Ev.ret ⟨by rw [if_pos h0], Kp.rf⟩) (fun h0 => ?_)
    rw [if_neg h0]
    refine Ev.ite (fun h1 => ?_) (fun h1 => ?_)
    · rw [if_pos h1]
      exact Ev.bind thkX_ev (fun r M1 q => Ev.ret ⟨q.1, by rw [q.2]; exact Kp.rf⟩)
    rw [if_neg h1]
    refine Ev.ite (fun h2 => ?_) (fun h2 => ?_)
    · rw [if_pos h2]
      exact Ev.bind thnX_ev (fun r M1 q => Ev.ret ⟨q.1, by rw [q.2]; exact Kp.rf⟩)
    rw [if_neg h2]
    refine Ev.ite (fun h3 => ?_) (fun h3 => Ev.ret ⟨by rw [if_neg h3], Kp.rf⟩)
    rw [if_pos h3]
    exact Ev.bind heapsX_ev (fun r M1 q => Ev.ret ⟨q.1, by rw [q.2]; exact Kp.rf⟩)
  · rw [h.2.2.2.2.2.1]
    unfold fX11_room fX11_room_J46 roomS
    rw [in_ev, ob_some]
    refine Ev.ite (fun h0 => Ev.ret ⟨by rw [if_pos h0], Lk.rf⟩) (fun h0 => ?_)
    rw [if_neg h0, in_ev, ob_some]
    refine Ev.ite (fun h1 => Ev.ret ⟨?_, Lk.rf⟩) (fun h1 => ?_)
    · have := bt_and.mp h1
      rw [if_neg (fun q => this (by rw [q]; decide)), if_neg (fun q => this (by rw [q]; decide)), if_neg (fun q => this (by rw [q]; decide))]
    obtain ⟨y, hy, rfl⟩ := rng (n := 2) (by decide) (not_bt h1)
    match y, hy with
    | 0, _ =>
      rw [if_neg (by decide), if_pos (by decide), if_pos (by decide)]
      exact Ev.bind (outM_ev true) (fun r M1 q => Ev.ret ⟨by rw [q.1, if_pos rfl], by rw [q.2]; exact Lk.rf⟩)
    | 1, _ =>
      rw [if_neg (by decide), if_neg (by decide), if_neg (by decide), if_pos (by decide)]
      exact Ev.bind (outM_ev false) (fun r M1 q => Ev.ret ⟨by rw [q.1, if_neg (by decide)], by rw [q.2]; exact Lk.rf⟩)
    | 2, _ =>
      rw [if_pos (by decide), if_neg (by decide), if_neg (by decide), if_pos (by decide)]
      exact Ev.bind heapsM_ev (fun r M1 q => Ev.ret ⟨q.1, by rw [q.2]; exact Lk.rf⟩)
    | y + 3, h => omega
/-! heap -/
def sbN (H : Nat) (T : Nat → Int32) : Nat → Nat
  | 0 => 0
  | n + 1 => sbN H T n + (if H.testBit n = true then (T n).toNatClampNeg else 0)
theorem okT_cl {R : Rm} (h : okT R) (c : Nat) : rT R c = nI (rT R c).toNatClampNeg ∧ (rT R c).toNatClampNeg < 1000 := by
  obtain ⟨t, ht, e⟩ := h c
  rw [e, nI_clamp (by omega)]
  exact ⟨rfl, ht⟩
theorem sbN_le {H : Nat} {R : Rm} (h : okT R) : ∀ n, sbN H (rT R) n ≤ 999 * n := by
  intro n
  induction n with
  | zero => exact Nat.le_refl _
  | succ n ih =>
    have := (okT_cl h n).2
    show sbN H (rT R) n + (if H.testBit n = true then (rT R n).toNatClampNeg else 0) ≤ 999 * (n + 1)
    split <;> omega
theorem totalOf_ev {H : Nat} {M : Mem} (hT : okT (vwX 0 M)) (hH : H < 2 ^ 36) : Ev (fX5_totalOf 0 (lN H) M) (fun r M1 => r = nI (sbN H (rT (vwX 0 M)) 36) ∧ M1 = M) := by
  unfold fX5_totalOf
  generalize h36 : (36 : Nat) = m
  refine Ev.loop (f := fun k (x : Int32 × Int32) M => fX5_totalOf_L5 0 (lN H) k x.1 x.2 M) (B := fun k x M => fX5_totalOf_B5 0 (lN H) (fun a b M => k (a, b) M) x.1 x.2 M) (fun _ _ _ => rfl) m
    (fun j x N => x = (nI (sbN H (rT (vwX 0 M)) j), nI j) ∧ N = M) ?_ ?_ FU 0 (0, nI 0) M (Nat.zero_le _) (by show _ < 2000 + 0; omega) ⟨rfl, rfl⟩
  · rintro k j x N hj ⟨rfl, rfl⟩ hk
    show Ev (fX5_totalOf_B5 0 (lN H) (fun a b M => k (a, b) M) (nI (sbN H (rT (vwX 0 N)) j)) (nI j) N) _
    unfold fX5_totalOf_B5
    have hs : sbN H (rT (vwX 0 N)) (j + 1) = sbN H (rT (vwX 0 N)) j + (if H.testBit j = true then (rT (vwX 0 N) j).toNatClampNeg else 0) := rfl
    rw [if_neg (fun q => by have := (nI_leI (a := 36) (by omega) (by omega)).mp q; omega), nI_1]
    refine Ev.ite (fun e => ?_) (fun e => ?_)
    · rw [b_tst2 hH (by omega)] at e
      refine Ev.gd (inb_nI (by omega) (by decide)) (Ev.letv ?_)
      rw [nI_clamp (show j < 2 ^ 31 by omega), vwX_T (r := 0) (M := N) (show j < 36 by omega), (okT_cl hT j).1, nI_add]
      exact hk _ N ⟨by rw [hs, if_pos e], rfl⟩
    · rw [b_tst2 hH (by omega)] at e
      refine Ev.letv ?_
      refine hk _ N ⟨?_, rfl⟩
      rw [hs, if_neg e]
      simp
  · rintro k x N ⟨rfl, rfl⟩
    show Ev (fX5_totalOf_B5 0 (lN H) (fun a b M => k (a, b) M) (nI (sbN H (rT (vwX 0 N)) m)) (nI m) N) _
    unfold fX5_totalOf_B5
    rw [if_pos (by rw [← h36]; decide)]
    exact Ev.ret ⟨rfl, rfl⟩
def heapS (v l w : Int32) (R : Rm) : Int64 := if bt (decide (0 ≤ v) && decide (v ≤ 35)) = 0 then -4611686018427387904 else if bt (decide (0 ≤ l) && decide (l ≤ 999)) = 0 then -4611686018427387904 else if bt (decide (0 ≤ w) && decide (w ≤ 2)) = 0 then -4611686018427387904 else if w = 0 then lN (itN (bsN (thickP R l) 36) (2 ^ v.toNatClampNeg) 36) else if w = 1 then lN (card (itN (bsN (thickP R l) 36) (2 ^ v.toNatClampNeg) 36)) else lN (sbN (itN (bsN (thickP R l) 36) (2 ^ v.toNatClampNeg) 36) (rT R) 36)
theorem heap_same (v l w : Int32) : SameL (fX10_heap v l w) (fX11_heap v l w) := by
  refine SameL.ask (fun M => heapS v l w (vwX 0 M)) (fun M M1 h => by rw [h.vX]) (fun T M h => ?_) (fun T M h => ?_)
  · have hT := h.2.2.2.1.2.2.2.2
    unfold fX10_heap heapS
    rw [cellX_ev, ob_some]
    refine Ev.ite (fun h0 => Ev.ret ⟨by rw [if_pos h0], Kp.rf⟩) (fun h0 => ?_)
    rw [if_neg h0, within_ev, ob_some]
    refine Ev.ite (fun h1 => Ev.ret ⟨by rw [if_pos h1], Kp.rf⟩) (fun h1 => ?_)
    rw [if_neg h1, within_ev, ob_some]
    refine Ev.ite (fun h2 => Ev.ret ⟨by rw [if_pos h2], Kp.rf⟩) (fun h2 => ?_)
    rw [if_neg h2]
    obtain ⟨c, hc, rfl⟩ := rng (n := 35) (by decide) (not_bt h0)
    rw [nI_clamp (show c < 2 ^ 31 by omega)]
    refine Ev.bind thickBy_ev (fun r M1 q => ?_)
    obtain ⟨rfl, rfl⟩ := q
    have hlt := bsN_lt36 (P := thickP (vwX 0 M1) l) (n := 36) (by omega)
    generalize bsN (thickP (vwX 0 M1) l) 36 = al at hlt
    rw [b_one (by omega)]
    refine Ev.bind (spread_ev hlt (pw36 (by omega))) (fun r M2 q => ?_)
    obtain ⟨rfl, rfl⟩ := q
    have hH := itN_lt (x0 := 2 ^ c) hlt 36
    generalize itN al (2 ^ c) 36 = H at hH
    refine Ev.ite (fun e => Ev.ret ⟨by rw [if_pos e], Kp.rf⟩) (fun e => ?_)
    rw [if_neg e]
    refine Ev.ite (fun e => ?_) (fun e => ?_)
    · rw [if_pos e, bitCount_ev M2 hH, ob_some]
      have := card_le H
      exact Ev.ret ⟨nI_l (by omega), Kp.rf⟩
    · rw [if_neg e]
      refine Ev.bind (totalOf_ev hT hH) (fun r M3 q => ?_)
      obtain ⟨rfl, rfl⟩ := q
      have := sbN_le (H := H) hT 36
      exact Ev.ret ⟨nI_l (by omega), Kp.rf⟩
  · have hT := h.2.2.2.2.1.2.2.2.2
    rw [h.2.2.2.2.2.1]
    unfold fX11_heap heapS
    rw [cellM_ev, ob_some]
    refine Ev.ite (fun h0 => Ev.ret ⟨by rw [if_pos h0], Lk.rf⟩) (fun h0 => ?_)
    rw [if_neg h0, in_ev, ob_some]
    refine Ev.ite (fun h1 => Ev.ret ⟨by rw [if_pos h1], Lk.rf⟩) (fun h1 => ?_)
    rw [if_neg h1, in_ev, ob_some]
    refine Ev.ite (fun h2 => Ev.ret ⟨by rw [if_pos h2], Lk.rf⟩) (fun h2 => ?_)
    rw [if_neg h2]
    obtain ⟨c, hc, rfl⟩ := rng (n := 35) (by decide) (not_bt h0)
    rw [nI_clamp (show c < 2 ^ 31 by omega)]
    refine Ev.bind thickSet_ev (fun r M1 q => ?_)
    obtain ⟨rfl, rfl⟩ := q
    have hlt := bsN_lt36 (P := thickP (vwM M1) l) (n := 36) (by omega)
    generalize bsN (thickP (vwM M1) l) 36 = al at hlt
    refine Ev.bind (heapOf_ev (show c < 36 by omega) hlt) (fun r M2 q => ?_)
    obtain ⟨rfl, rfl⟩ := q
    have hH := itN_lt (x0 := 2 ^ c) hlt 36
    generalize itN al (2 ^ c) 36 = H at hH
    unfold card
    generalize h36 : (36 : Nat) = m
    refine Ev.loop (f := fun k (x : Int64 × Int64 × Int32) M => fX11_heap_L51 w (lN H) k x.1 x.2.1 x.2.2 M) (B := fun k x M => fX11_heap_B51 w (lN H) (fun a b d M => k (a, b, d) M) x.1 x.2.1 x.2.2 M) (fun _ _ _ => rfl) m
      (fun j x N => x = (lN (cntN (fun c => H.testBit c) j), lN (sbN H (rT (vwM M2)) j), nI j) ∧ N = M2) ?_ ?_ FU 0 (0, 0, nI 0) M2 (Nat.zero_le _) (by show _ < 2000 + 0; omega) ⟨rfl, rfl⟩
    · rintro k j x N hj ⟨rfl, rfl⟩ hk
      show Ev (fX11_heap_B51 w (lN H) (fun a b d M => k (a, b, d) M) (lN (cntN (fun c => H.testBit c) j)) (lN (sbN H (rT (vwM N)) j)) (nI j) N) _
      unfold fX11_heap_B51 fX11_heap_J75 fX11_heap_J89
      have hs : sbN H (rT (vwM N)) (j + 1) = sbN H (rT (vwM N)) j + (if H.testBit j = true then (rT (vwM N) j).toNatClampNeg else 0) := rfl
      have hs2 : cntN (fun c => H.testBit c) (j + 1) = cntN (fun c => H.testBit c) j + (if H.testBit j = true then 1 else 0) := rfl
      rw [if_neg (fun q => by have := (nI_leI (a := 36) (by omega) (by omega)).mp q; omega), nI_1]
      refine Ev.ite (fun e => ?_) (fun e => ?_)
      · rw [b_tst hH (by omega)] at e
        rw [if_neg (by decide)]
        refine Ev.letv ?_
        rw [if_neg (by decide)]
        refine Ev.gd (inb_nI (by omega) (by decide)) (Ev.letv ?_)
        have hcl := okT_cl hT j
        rw [nI_clamp (show j < 2 ^ 31 by omega), vwM_T (M := N) (show j < 36 by omega), hcl.1, nI_l (by omega), lN_1, lN_add]
        exact hk _ N ⟨by rw [hs, hs2, if_pos e, if_pos e], rfl⟩
      · rw [b_tst hH (by omega)] at e
        rw [if_pos rfl]
        refine Ev.letv ?_
        rw [if_pos rfl]
        refine Ev.letv ?_
        refine hk _ N ⟨?_, rfl⟩
        rw [hs, hs2, if_neg e, if_neg e]
        simp
    · rintro k x N ⟨rfl, rfl⟩
      show Ev (fX11_heap_B51 w (lN H) (fun a b d M => k (a, b, d) M) (lN (cntN (fun c => H.testBit c) m)) (lN (sbN H (rT (vwM N)) m)) (nI m) N) _
      unfold fX11_heap_B51
      rw [if_pos (by rw [← h36]; decide)]
      refine Ev.ite (fun e => Ev.ret ⟨by rw [if_pos e], Lk.rf⟩) (fun e => ?_)
      rw [if_neg e]
      exact Ev.ite (fun e => Ev.ret ⟨by rw [if_pos e], Lk.rf⟩) (fun e => Ev.ret ⟨by rw [if_neg e], Lk.rf⟩)
end HR
