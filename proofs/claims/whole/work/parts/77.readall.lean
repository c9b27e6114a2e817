/-! the readers together -/
section RE3
theorem not_ev {tk : Tk} {st nx : Nat → Nat} {M0 : Mem} (hA : Adv tk st nx M0) {rec : Nat → Int32 → Mem → Option (Int32 × Mem)} {i o nd : Nat} {c0 : List Nat} {N : Mem} (ho : o ≤ 5)
    (hSum : ∀ i' c0' N, CX tk st nx M0 i' c0' N → c0'.length ≤ i' → Ev (rec 3 (nI o) N) (XR tk st nx M0 5 5 nd rdcC (mcF tk) i' o c0'))
    (hNot : o < 5 → ∀ i' c0' N, CX tk st nx M0 i' c0' N → c0'.length ≤ i' → Ev (rec 2 (nI (o + 1)) N) (XR tk st nx M0 4 3 (nd + 1) rdcD mcT i' (o + 1) c0'))
    (hCX : CX tk st nx M0 i c0 N) (hc0 : c0.length ≤ i) : Ev (fX4_readNot_b rec (nI o) N) (XR tk st nx M0 4 3 (nd + 1) rdcD mcT i o c0) := by
  have T := cTk_is (hA.2.1 i)
  have t9 := T.2.2.2.2.2.1
  have q5 : nI o < 5 ↔ o < 5 := nI_ltI (a := o) (b := 5) (by omega) (by omega)
  unfold fX4_readNot_b
  rw [hCX.1]
  by_cases k7 : (tk i).1 = 7
  · rw [if_pos (t9.mpr k7)]
    have hi : i < 160 := hA.2.2 i (by omega)
    by_cases ho5 : o < 5
    · rw [if_pos (q5.mpr ho5), nI_1]
      have hst : ∀ S w mN, mN = true → SyTo tk (i, S, o, w, true, mN) (i + 1, 13 :: S, o + 1, w, true, mN) := by
        intro S w mN hm
        refine SyTo.one ?_ rfl
        show syW (tk i).1 (tk i).2 i S o w mN = _
        unfold syW
        rw [if_neg (by omega), if_pos ⟨k7, hm⟩, if_neg (by omega)]
      have hlow : ∀ S, lwSt 4 (13 :: S) := fun S => by show rkN 13 < 4; decide
      refine Ev.bind (hA.1 i c0 N hCX) (fun _ N1 q1 => Ev.bind (hNot ho5 (i + 1) c0 N1 q1 (by omega)) (fun q N2 q2 => ?_))
      rcases q2 with ⟨rfl, e, f1, f2⟩ | ⟨rfl, j, cs, P, o1, b1, b2, b3, b4, b5, b6, b7, b8, b9⟩
      · rw [if_pos rfl]
        exact Ev.ret (Or.inl ⟨rfl, e, f1, fun S w mN _ hm => (hst S w mN hm).fl (f2 _ w mN (hlow S) hm)⟩)
      · rw [if_neg (by decide)]
        refine Ev.bind (emit_ev (g := 13) b3 (by rw [List.length_append]; omega) (by decide)) (fun _ N3 q3 => Ev.ret (Or.inr ⟨rfl, j, cs ++ [13], P ++ [13], o1, by omega, b2, ?_, ?_, ?_, ?_, rdcD_app _ _ _ b7, okD_un b8 (Or.inl rfl), fun S w mN _ hm => ?_⟩))
        · rw [← List.append_assoc]; exact q3
        · rw [List.length_append]
          show cs.length + 1 ≤ j - i
          omega
        · rw [b5, List.append_assoc]
        · intro s hs
          rcases List.mem_append.mp hs with hs | hs
          · exact b6 s hs
          · rw [List.mem_singleton.mp hs]; decide
        · obtain ⟨mN', t⟩ := b9 (13 :: S) w mN (hlow S) hm
          refine ⟨mN', (hst S w mN hm).tr ?_⟩
          rw [nn_app, List.append_assoc, show nn [13] = 1 from rfl, show o + (nn P + 1) = o + 1 + nn P by omega]
          exact t
    · rw [if_neg (fun q => ho5 (q5.mp q))]
      refine Ev.ret (Or.inl ⟨rfl, i, hCX.fe, fun S w mN _ hm => SyFl.one (A := (i, S, o, w, true, mN)) ?_⟩)
      show syW (tk i).1 (tk i).2 i S o w mN = _
      unfold syW
      rw [if_neg (by omega), if_pos ⟨k7, hm⟩, if_pos (by omega)]
  · rw [if_neg (fun q => k7 (t9.mp q))]
    refine Ev.bind (hSum i c0 N hCX hc0) (fun q N2 q2 => ?_)
    rcases q2 with ⟨rfl, e, f1, f2⟩ | ⟨rfl, j, cs, P, o1, b1, b2, b3, b4, b5, b6, ⟨b71, b72, b73⟩, b8, b9⟩
    · rw [if_pos rfl]
      exact Ev.ret (Or.inl ⟨rfl, e, f1, fun S w mN hS hm => f2 S w mN (hS.le (by omega)) (Or.inr k7)⟩)
    · rw [if_neg (by decide)]
      have T := cTk_is (hA.2.1 j)
      have t60 := T.2.2.2.2.2.2.2.2.2.2.2.2.1
      have t61 := T.2.2.2.2.2.2.2.2.2.2.2.2.2.1
      rw [b3.1]
      by_cases k1 : (tk j).1 = 14 ∨ (tk j).1 = 15
      · have hj : j < 160 := hA.2.2 j (by omega)
        have hgv : rkN (sgn (tk j).1) = 4 ∧ isBin (sgn (tk j).1) ∧ decide (sgn (tk j).1 ≤ 12) = false ∧ - cTk (tk j).1 (tk j).2 = encC (nI (sgn (tk j).1)) := by
          rcases k1 with k | k
          · rw [t60.mpr k, k]; unfold isBin; decide
          · rw [t61.mpr k, k]; unfold isBin; decide
        obtain ⟨g1, g2, g3, g4⟩ := hgv
        have eJ : Ev (fX4_readNot_J68 rec (nI o) N2) (XR tk st nx M0 4 3 (nd + 1) rdcD mcT i o c0) := by
          unfold fX4_readNot_J68
          refine Ev.letv ?_
          rw [b3.1, g4]
          have hl0 : (c0 ++ cs).length ≤ j + 1 := by rw [List.length_append]; omega
          have hlow : ∀ S, lwSt 5 (sgn (tk j).1 :: S) := fun S => by show rkN (sgn (tk j).1) < 5; omega
          have hgc := g2
          unfold isBin at hgc
          have hnng : nn [sgn (tk j).1] = 0 := by
            show 0 + (if sgn (tk j).1 = 13 ∨ sgn (tk j).1 = 19 then 1 else 0) = 0
            rw [if_neg (by omega)]
          refine Ev.bind (hA.1 j _ N2 b3) (fun _ N3 q3 => Ev.bind (hSum (j + 1) (c0 ++ cs) N3 q3 hl0) (fun q N4 q4 => ?_))
          rcases q4 with ⟨rfl, e, f1, f2⟩ | ⟨rfl, j2, cs2, P2, o2, d1, d2, d3, d4, d5, d6, ⟨d71, d72, d73⟩, d8, d9⟩
          · rw [if_pos rfl]
            refine Ev.ret (Or.inl ⟨rfl, e, f1, fun S w mN hS hm => ?_⟩)
            obtain ⟨mN', t⟩ := b9 S w mN (hS.le (by omega)) (Or.inr k7)
            refine (t.tr (cmp_to rfl g1 b6 hS)).fl ?_
            exact f2 _ _ _ (hlow S) (Or.inl g3)
          · rw [if_neg (by decide)]
            refine Ev.bind (emit_ev (g := sgn (tk j).1) d3 (by rw [List.length_append, List.length_append]; omega) rfl) (fun _ N5 q5 => Ev.ret (Or.inr ⟨rfl, j2, cs ++ cs2 ++ [sgn (tk j).1], P2 ++ [sgn (tk j).1], cs ++ o2, by omega, d2, ?_, ?_, ?_, ?_, ⟨⟨fun q => d71 (Or.inl q), fun q => d71 (Or.inr q), d72⟩, fun _ => ⟨P2, sgn (tk j).1, [], rfl, d6, g1⟩⟩, okD_bin (b8.le (by omega)) d8 g2, fun S w mN hS hm => ?_⟩))
            · have elist : (c0 ++ cs) ++ cs2 ++ [sgn (tk j).1] = c0 ++ (cs ++ cs2 ++ [sgn (tk j).1]) := by simp
              rw [← elist]; exact q5
            · rw [List.length_append, List.length_append]
              show cs.length + cs2.length + 1 ≤ j2 - i
              omega
            · rw [d5]; simp
            · intro s hs
              rcases List.mem_append.mp hs with hs | hs
              · have := d6 s hs; omega
              · rw [List.mem_singleton.mp hs, g1]; decide
            · obtain ⟨mN', t⟩ := b9 S w mN (hS.le (by omega)) (Or.inr k7)
              obtain ⟨mN2, t2⟩ := d9 (sgn (tk j).1 :: S) ((w ++ o1) ++ P) (decide (sgn (tk j).1 ≤ 12)) (hlow S) (Or.inl g3)
              refine ⟨mN2, (t.tr (cmp_to rfl g1 b6 hS)).tr ?_⟩
              have e1 : (P2 ++ [sgn (tk j).1]) ++ S = P2 ++ sgn (tk j).1 :: S := by simp
              have e2 : w ++ (cs ++ o2) = ((w ++ o1) ++ P) ++ o2 := by rw [b5]; simp
              rw [e1, e2, nn_app, hnng, Nat.add_zero]
              exact t2
        by_cases k14 : (tk j).1 = 14
        · rw [if_pos (t60.mpr k14)]; exact eJ
        · rw [if_neg (fun q => k14 (t60.mp q)), if_pos (t61.mpr (by omega))]; exact eJ
      · rw [if_neg (fun q => k1 (Or.inl (t60.mp q))), if_neg (fun q => k1 (Or.inr (t61.mp q)))]
        exact Ev.ret (Or.inr ⟨rfl, j, cs, P, o1, b1, b2, b3, b4, b5, fun s hs => by have := b6 s hs; omega, ⟨⟨fun q => b71 (Or.inl q), fun q => b71 (Or.inr q), b72⟩, fun q => absurd q k1⟩, b8.le (by omega), fun S w mN hS hm => b9 S w mN (hS.le (by omega)) (Or.inr k7)⟩)
theorem or_L {tk : Tk} {st nx : Nat → Nat} {M0 : Mem} (hA : Adv tk st nx M0) {rec : Nat → Int32 → Mem → Option (Int32 × Mem)} {v : Int32} (m x : Nat) (N : Mem) (j : Nat) (cs : List Nat) (h : CX tk st nx M0 j cs N) (hx : x < 160) : ((tk j).1 = 5 ∧ fX4_readOr_L12 rec v (m + 1) (nI x) N = ob (fX4_advance N) fun _ N1 => ob (rec 1 v N1) fun q N2 => if q = 0 then some (0, N2) else ob (fX4_emit (encC (nI (sgn (tk j).1))) N2) fun _ N3 => fX4_readOr_L12 rec v m (nI x + 1) N3) ∨ (¬ (tk j).1 = 5 ∧ fX4_readOr_L12 rec v (m + 1) (nI x) N = some (1, N)) := by
  have t := (cTk_is (hA.2.1 j)).2.2.2.1
  have hb : ¬ (160 : Int32) ≤ nI x := fun q => by have := (nI_leI (a := 160) (by omega) (by omega)).mp q; omega
  by_cases k : (tk j).1 = 5
  · refine Or.inl ⟨k, ?_⟩
    show fX4_readOr_B12 rec v (fX4_readOr_L12 rec v m) (nI x) N = _
    unfold fX4_readOr_B12
    rw [if_neg hb, h.1, if_pos (t.mpr k), k]
    rfl
  · refine Or.inr ⟨k, ?_⟩
    show fX4_readOr_B12 rec v (fX4_readOr_L12 rec v m) (nI x) N = _
    unfold fX4_readOr_B12
    rw [if_neg hb, h.1, if_neg (fun q => k (t.mp q))]
theorem and_L {tk : Tk} {st nx : Nat → Nat} {M0 : Mem} (hA : Adv tk st nx M0) {rec : Nat → Int32 → Mem → Option (Int32 × Mem)} {v : Int32} (m x : Nat) (N : Mem) (j : Nat) (cs : List Nat) (h : CX tk st nx M0 j cs N) (hx : x < 160) : ((tk j).1 = 6 ∧ fX4_readAnd_L12 rec v (m + 1) (nI x) N = ob (fX4_advance N) fun _ N1 => ob (rec 2 v N1) fun q N2 => if q = 0 then some (0, N2) else ob (fX4_emit (encC (nI (sgn (tk j).1))) N2) fun _ N3 => fX4_readAnd_L12 rec v m (nI x + 1) N3) ∨ (¬ (tk j).1 = 6 ∧ fX4_readAnd_L12 rec v (m + 1) (nI x) N = some (1, N)) := by
  have t := (cTk_is (hA.2.1 j)).2.2.2.2.1
  have hb : ¬ (160 : Int32) ≤ nI x := fun q => by have := (nI_leI (a := 160) (by omega) (by omega)).mp q; omega
  by_cases k : (tk j).1 = 6
  · refine Or.inl ⟨k, ?_⟩
    show fX4_readAnd_B12 rec v (fX4_readAnd_L12 rec v m) (nI x) N = _
    unfold fX4_readAnd_B12
    rw [if_neg hb, h.1, if_pos (t.mpr k), k]
    rfl
  · refine Or.inr ⟨k, ?_⟩
    show fX4_readAnd_B12 rec v (fX4_readAnd_L12 rec v m) (nI x) N = _
    unfold fX4_readAnd_B12
    rw [if_neg hb, h.1, if_neg (fun q => k (t.mp q))]
theorem term_L {tk : Tk} {st nx : Nat → Nat} {M0 : Mem} (hA : Adv tk st nx M0) {rec : Nat → Int32 → Mem → Option (Int32 × Mem)} {v : Int32} (m x : Nat) (N : Mem) (j : Nat) (cs : List Nat) (h : CX tk st nx M0 j cs N) (hx : x < 160) : ((tk j).1 = 13 ∧ fX4_readTerm_L12 rec v (m + 1) (nI x) N = ob (fX4_advance N) fun _ N1 => ob (rec 5 v N1) fun q N2 => if q = 0 then some (0, N2) else ob (fX4_emit (encC (nI (sgn (tk j).1))) N2) fun _ N3 => fX4_readTerm_L12 rec v m (nI x + 1) N3) ∨ (¬ (tk j).1 = 13 ∧ fX4_readTerm_L12 rec v (m + 1) (nI x) N = some (1, N)) := by
  have t := (cTk_is (hA.2.1 j)).2.2.2.2.2.2.2.2.2.2.2.1
  have hb : ¬ (160 : Int32) ≤ nI x := fun q => by have := (nI_leI (a := 160) (by omega) (by omega)).mp q; omega
  by_cases k : (tk j).1 = 13
  · refine Or.inl ⟨k, ?_⟩
    show fX4_readTerm_B12 rec v (fX4_readTerm_L12 rec v m) (nI x) N = _
    unfold fX4_readTerm_B12
    rw [if_neg hb, h.1, if_pos (t.mpr k), k]
    rfl
  · refine Or.inr ⟨k, ?_⟩
    show fX4_readTerm_B12 rec v (fX4_readTerm_L12 rec v m) (nI x) N = _
    unfold fX4_readTerm_B12
    rw [if_neg hb, h.1, if_neg (fun q => k (t.mp q))]
theorem sum_L {tk : Tk} {st nx : Nat → Nat} {M0 : Mem} (hA : Adv tk st nx M0) {rec : Nat → Int32 → Mem → Option (Int32 × Mem)} {v : Int32} (m x : Nat) (N : Mem) (j : Nat) (cs : List Nat) (h : CX tk st nx M0 j cs N) (hx : x < 160) : (((tk j).1 = 11 ∨ (tk j).1 = 12) ∧ fX4_readSum_L12 rec v (m + 1) (nI x) N = ob (fX4_advance N) fun _ N1 => ob (rec 4 v N1) fun q N2 => if q = 0 then some (0, N2) else ob (fX4_emit (encC (nI (sgn (tk j).1))) N2) fun _ N3 => fX4_readSum_L12 rec v m (nI x + 1) N3) ∨ (¬ ((tk j).1 = 11 ∨ (tk j).1 = 12) ∧ fX4_readSum_L12 rec v (m + 1) (nI x) N = some (1, N)) := by
  have t := (cTk_is (hA.2.1 j)).2.2.2.2.2.2.2.2.2.1
  have t' := (cTk_is (hA.2.1 j)).2.2.2.2.2.2.2.2.2.2.1
  have hb : ¬ (160 : Int32) ≤ nI x := fun q => by have := (nI_leI (a := 160) (by omega) (by omega)).mp q; omega
  by_cases k : (tk j).1 = 11 ∨ (tk j).1 = 12
  · refine Or.inl ⟨k, ?_⟩
    show fX4_readSum_B12 rec v (fX4_readSum_L12 rec v m) (nI x) N = _
    unfold fX4_readSum_B12
    rw [if_neg hb]
    rcases k with k | k
    · rw [if_pos (h.1.trans (t.mpr k))]
      unfold fX4_readSum_J37
      rw [h.1, t.mpr k, k]
      rfl
    · rw [if_neg (fun q => by have := t.mp (h.1.symm.trans q); omega), if_pos (h.1.trans (t'.mpr k))]
      unfold fX4_readSum_J37
      rw [h.1, t'.mpr k, k]
      rfl
  · refine Or.inr ⟨k, ?_⟩
    show fX4_readSum_B12 rec v (fX4_readSum_L12 rec v m) (nI x) N = _
    unfold fX4_readSum_B12
    rw [if_neg hb, h.1, if_neg (fun q => k (Or.inl (t.mp q))), if_neg (fun q => k (Or.inr (t'.mp q)))]
theorem fRd_ev {tk : Tk} {st nx : Nat → Nat} {M0 : Mem} (hA : Adv tk st nx M0) : ∀ d o, o ≤ 5 → ∀ i c0 N, CX tk st nx M0 i c0 N → c0.length ≤ i →
    (6 * (5 - o) + 1 ≤ d → Ev (fRd d 5 (nI o) N) (XR1 tk st nx M0 (1 + 5 * (5 - o)) i o c0)) ∧
    (6 * (5 - o) + 2 ≤ d → Ev (fRd d 4 (nI o) N) (XR tk st nx M0 6 6 (1 + 5 * (5 - o) + 1) rdcB (mcF tk) i o c0)) ∧
    (6 * (5 - o) + 3 ≤ d → Ev (fRd d 3 (nI o) N) (XR tk st nx M0 5 5 (1 + 5 * (5 - o) + 1 + 1) rdcC (mcF tk) i o c0)) ∧
    (6 * (5 - o) + 4 ≤ d → Ev (fRd d 2 (nI o) N) (XR tk st nx M0 4 3 (1 + 5 * (5 - o) + 1 + 1 + 1) rdcD mcT i o c0)) ∧
    (6 * (5 - o) + 5 ≤ d → Ev (fRd d 1 (nI o) N) (XR tk st nx M0 2 2 (1 + 5 * (5 - o) + 1 + 1 + 1 + 1) rdcE mcT i o c0)) ∧
    (6 * (5 - o) + 6 ≤ d → Ev (fRd d 0 (nI o) N) (XR tk st nx M0 1 1 (1 + 5 * (5 - o) + 1 + 1 + 1 + 1 + 1) rdcF mcT i o c0)) := by
  intro d
  induction d with
  | zero =>
    intro o ho i c0 N _ _
    exact ⟨fun q => by omega, fun q => by omega, fun q => by omega, fun q => by omega, fun q => by omega, fun q => by omega⟩
  | succ d ih =>
    intro o ho i c0 N hCX hc0
    refine ⟨fun hd => ?_, fun hd => ?_, fun hd => ?_, fun hd => ?_, fun hd => ?_, fun hd => ?_⟩
    · show Ev (fX4_readOne_b (fRd d) (nI o) N) _
      refine one_ev hA ho (fun h i' c' N' q1 q2 => ?_) (fun h i' c' N' q1 q2 => (ih (o + 1) (by omega) i' c' N' q1 q2).1 (by omega)) hCX hc0
      have := (ih (o + 1) (by omega) i' c' N' q1 q2).2.2.2.2.2 (by omega)
      rw [show 1 + 5 * (5 - (o + 1)) + 1 + 1 + 1 + 1 + 1 = 1 + 5 * (5 - o) by omega] at this
      exact this
    · show Ev (fX4_readTerm_b (fRd d) (nI o) N) _
      unfold fX4_readTerm_b
      exact binX (isOp := fun k => k = 13) (rec1 := fun N => fRd d 5 (nI o) N) (L := fX4_readTerm_L12 (fRd d) (nI o)) (r := 6) (lsY := 7) (lPY := 7) (mcX := mcF tk) (mcY := mcF tk) (dcY := rdcA) hA (fun k q => by subst q; unfold isBin; decide) (by decide) (by decide) (by decide) (fun k q i => by subst q; exact Or.inl (by decide)) (fun k P Q _ => trivial) (fun i mN h => h) (term_L hA) (fun i' c' N' q1 q2 => ((ih o ho i' c' N' q1 q2).1 (by omega)).mono (fun _ _ q => q.to)) hc0 hCX
    · show Ev (fX4_readSum_b (fRd d) (nI o) N) _
      unfold fX4_readSum_b
      exact binX (isOp := fun k => k = 11 ∨ k = 12) (rec1 := fun N => fRd d 4 (nI o) N) (L := fX4_readSum_L12 (fRd d) (nI o)) (r := 5) (lsY := 6) (lPY := 6) (mcX := mcF tk) (mcY := mcF tk) (dcY := rdcB) hA (fun k q => by rcases q with rfl | rfl <;> (unfold isBin; decide)) (by decide) (by decide) (by decide) (fun k q i => by rcases q with rfl | rfl <;> exact Or.inl (by decide)) (fun k P Q q => ⟨q.1, trivial⟩) (fun i mN h => h) (sum_L hA) (fun i' c' N' q1 q2 => (ih o ho i' c' N' q1 q2).2.1 (by omega)) hc0 hCX
    · show Ev (fX4_readNot_b (fRd d) (nI o) N) _
      refine not_ev hA ho (fun i' c' N' q1 q2 => (ih o ho i' c' N' q1 q2).2.2.1 (by omega)) (fun h i' c' N' q1 q2 => ?_) hCX hc0
      refine ((ih (o + 1) (by omega) i' c' N' q1 q2).2.2.2.1 (by omega)).mono (fun r N2 q => ?_)
      rcases q with q | ⟨rfl, j, cs, P, o1, b1, b2, b3, b4, b5, b6, b7, b8, b9⟩
      · exact Or.inl q
      · exact Or.inr ⟨rfl, j, cs, P, o1, b1, b2, b3, b4, b5, b6, b7, b8.le (by omega), b9⟩
    · show Ev (fX4_readAnd_b (fRd d) (nI o) N) _
      unfold fX4_readAnd_b
      exact binX (isOp := fun k => k = 6) (rec1 := fun N => fRd d 2 (nI o) N) (L := fX4_readAnd_L12 (fRd d) (nI o)) (r := 2) (lsY := 4) (lPY := 3) (mcX := mcT) (mcY := mcT) (dcY := rdcD) hA (fun k q => by subst q; unfold isBin; decide) (by decide) (by decide) (by decide) (fun k q i => by subst q; show decide _ = true; decide) rdcD_app (fun i mN h => h) (and_L hA) (fun i' c' N' q1 q2 => (ih o ho i' c' N' q1 q2).2.2.2.1 (by omega)) hc0 hCX
    · show Ev (fX4_readOr_b (fRd d) (nI o) N) _
      unfold fX4_readOr_b
      exact binX (isOp := fun k => k = 5) (rec1 := fun N => fRd d 1 (nI o) N) (L := fX4_readOr_L12 (fRd d) (nI o)) (r := 1) (lsY := 2) (lPY := 2) (mcX := mcT) (mcY := mcT) (dcY := rdcE) hA (fun k q => by subst q; unfold isBin; decide) (by decide) (by decide) (by decide) (fun k q i => by subst q; show decide _ = true; decide) rdcE_app (fun i mN h => h) (or_L hA) (fun i' c' N' q1 q2 => (ih o ho i' c' N' q1 q2).2.2.2.2.1 (by omega)) hc0 hCX
end RE3
