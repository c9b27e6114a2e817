/-! the six readers -/
section RE2
def rdcA : Nat → List Nat → Prop := fun _ _ => True
def rdcB : Nat → List Nat → Prop := fun k P => ¬ (k = 13) ∧ rdcA k P
def rdcC : Nat → List Nat → Prop := fun k P => ¬ (k = 11 ∨ k = 12) ∧ rdcB k P
def rdcD : Nat → List Nat → Prop := fun k P => (¬ k = 11 ∧ ¬ k = 12 ∧ ¬ k = 13) ∧ (k = 14 ∨ k = 15 → Blk P)
def rdcE : Nat → List Nat → Prop := fun k P => ¬ k = 6 ∧ rdcD k P
def rdcF : Nat → List Nat → Prop := fun k P => ¬ k = 5 ∧ rdcE k P
def mcT : Nat → Bool → Prop := fun _ b => b = true
def mcF (tk : Tk) : Nat → Bool → Prop := fun i b => b = false ∨ (tk i).1 ≠ 7
theorem rdcD_app (k : Nat) (P Q : List Nat) (h : rdcD k P) : rdcD k (P ++ Q) := ⟨h.1, fun q => (h.2 q).app Q⟩
theorem rdcE_app (k : Nat) (P Q : List Nat) (h : rdcE k P) : rdcE k (P ++ Q) := ⟨h.1, rdcD_app k P Q h.2⟩
def XR1 (tk : Tk) (st nx : Nat → Nat) (M0 : Mem) (nd : Nat) (i o : Nat) (c0 : List Nat) (r : Int32) (N : Mem) : Prop :=
  (r = 0 ∧ ∃ e, FE st M0 e N ∧ ∀ S w mN, mcF tk i mN → SyFl tk (i, S, o, w, true, mN) e) ∨
  (r = 1 ∧ ∃ j cs, i < j ∧ j ≤ 160 ∧ CX tk st nx M0 j (c0 ++ cs) N ∧ cs.length ≤ j - i ∧ okD nd cs ∧ ∀ S w mN, mcF tk i mN → ∃ mN', SyTo tk (i, S, o, w, true, mN) (j, (unw 7 S o (w ++ cs)).1, (unw 7 S o (w ++ cs)).2.1, (unw 7 S o (w ++ cs)).2.2, false, mN'))
theorem XR1.to {tk : Tk} {st nx : Nat → Nat} {M0 : Mem} {nd i o : Nat} {c0 : List Nat} {r : Int32} {N : Mem} (h : XR1 tk st nx M0 nd i o c0 r N) : XR tk st nx M0 7 7 nd rdcA (mcF tk) i o c0 r N := by
  rcases h with ⟨rfl, e, f1, f2⟩ | ⟨rfl, j, cs, b1, b2, b3, b4, b5, b6⟩
  · exact Or.inl ⟨rfl, e, f1, fun S w mN _ hm => f2 S w mN hm⟩
  · refine Or.inr ⟨rfl, j, cs, [], cs, b1, b2, b3, b4, by simp, fun s hs => absurd hs (by simp), trivial, b5, fun S w mN hS hm => ?_⟩
    obtain ⟨mN', t⟩ := b6 S w mN hm
    rw [unw_low hS] at t
    exact ⟨mN', t⟩
theorem skip_ev {tk : Tk} {st nx : Nat → Nat} {M0 : Mem} (hA : Adv tk st nx M0) {i : Nat} {cs : List Nat} {N : Mem} {v : Int32} (h : CX tk st nx M0 i cs N) : Ev (fX4_skip v N) (fun r N2 => (r = 0 ∧ ¬ cTk (tk i).1 (tk i).2 = v ∧ CX tk st nx M0 i cs N2) ∨ (r = 1 ∧ cTk (tk i).1 (tk i).2 = v ∧ CX tk st nx M0 (i + 1) cs N2)) := by
  unfold fX4_skip
  rw [h.1]
  by_cases e : cTk (tk i).1 (tk i).2 = v
  · rw [if_pos e]
    exact Ev.bind (hA.1 i cs N h) (fun _ N1 q1 => Ev.ret (Or.inr ⟨rfl, e, q1⟩))
  · rw [if_neg e]
    exact Ev.ret (Or.inl ⟨rfl, e, h⟩)
theorem syW_fl {tk : Tk} {i o : Nat} {S w : List Nat} {mN : Bool} (h2 : ¬ ((tk i).1 = 2 ∨ (tk i).1 = 3)) (h7 : mcF tk i mN) (h : o = 5 ∨ (¬ (tk i).1 = 12 ∧ ¬ (tk i).1 = 8)) : SyFl tk (i, S, o, w, true, mN) i := by
  refine SyFl.one (A := (i, S, o, w, true, mN)) ?_
  show syW (tk i).1 (tk i).2 i S o w mN = _
  unfold syW
  have h7' : ¬ ((tk i).1 = 7 ∧ mN = true) := by
    rintro ⟨a, b⟩
    rcases h7 with q | q
    · rw [b] at q; cases q
    · exact q a
  rw [if_neg h2, if_neg h7']
  rcases h with h | ⟨ha, hb⟩
  · rw [if_pos h, if_pos h]
    split
    · rfl
    · split <;> rfl
  · rw [if_neg ha, if_neg hb]
theorem one_ev {tk : Tk} {st nx : Nat → Nat} {M0 : Mem} (hA : Adv tk st nx M0) {rec : Nat → Int32 → Mem → Option (Int32 × Mem)} {i o : Nat} {c0 : List Nat} {N : Mem} (ho : o ≤ 5)
    (hOr : o < 5 → ∀ i' c0' N, CX tk st nx M0 i' c0' N → c0'.length ≤ i' → Ev (rec 0 (nI (o + 1)) N) (XR tk st nx M0 1 1 (1 + 5 * (5 - o)) rdcF mcT i' (o + 1) c0'))
    (hOne : o < 5 → ∀ i' c0' N, CX tk st nx M0 i' c0' N → c0'.length ≤ i' → Ev (rec 5 (nI (o + 1)) N) (XR1 tk st nx M0 (1 + 5 * (5 - (o + 1))) i' (o + 1) c0'))
    (hCX : CX tk st nx M0 i c0 N) (hc0 : c0.length ≤ i) : Ev (fX4_readOne_b rec (nI o) N) (XR1 tk st nx M0 (1 + 5 * (5 - o)) i o c0) := by
  have T := cTk_is (hA.2.1 i)
  unfold fX4_readOne_b
  rw [hCX.1]
  by_cases k23 : (tk i).1 = 2 ∨ (tk i).1 = 3
  · have hi : i < 160 := hA.2.2 i (by omega)
    have eJ : Ev (fX4_readOne_J16 rec N) (XR1 tk st nx M0 (1 + 5 * (5 - o)) i o c0) := by
      have hg : ∀ z g, z = encC (nI g) → okD 1 [g] → g = (if (tk i).1 = 2 then 100000 + (tk i).2 else (tk i).2) → Ev (fX4_readOne_J38 rec z N) (XR1 tk st nx M0 (1 + 5 * (5 - o)) i o c0) := by
        intro z g hz hok hg
        unfold fX4_readOne_J38
        refine Ev.bind (emit_ev hCX (by omega) hz) (fun _ N1 q1 => Ev.bind (hA.1 i _ N1 q1) (fun _ N2 q2 => Ev.ret (Or.inr ⟨rfl, i + 1, [g], by omega, by omega, q2, by show 1 ≤ i + 1 - i; omega, hok.le (by omega), fun S w mN _ => ⟨mN, SyTo.one ?_ rfl⟩⟩)))
        show syW (tk i).1 (tk i).2 i S o w mN = _
        unfold syW
        rw [if_pos k23, ← hg]
      unfold fX4_readOne_J16
      rw [hCX.1]
      by_cases k2 : (tk i).1 = 2
      · rw [if_pos (T.2.1.mpr k2), hCX.2.1 k23]
        have hv := (hA.2.1 i).2.2.1 k2
        exact hg _ (100000 + (tk i).2) (enc_num hv).1.symm (okD_num hv) (by rw [if_pos k2])
      · rw [if_neg (fun q => k2 (T.2.1.mp q)), hCX.2.1 k23]
        have hv := (hA.2.1 i).2.2.2 (by omega)
        exact hg _ (tk i).2 (enc_name _ hv).1.symm (okD_name hv) (by rw [if_neg k2])
    by_cases k2 : (tk i).1 = 2
    · rw [if_pos (T.2.1.mpr k2)]; exact eJ
    · rw [if_neg (fun q => k2 (T.2.1.mp q)), if_pos (T.2.2.1.mpr (by omega))]; exact eJ
  · rw [if_neg (fun q => k23 (Or.inl (T.2.1.mp q))), if_neg (fun q => k23 (Or.inr (T.2.2.1.mp q)))]
    have t45 := T.2.2.2.2.2.2.2.2.2.2.1
    have t40 := T.2.2.2.2.2.2.1
    have t41 := T.2.2.2.2.2.2.2.1
    have hfail : (o = 5 ∨ (¬ (tk i).1 = 12 ∧ ¬ (tk i).1 = 8)) → XR1 tk st nx M0 (1 + 5 * (5 - o)) i o c0 0 N := fun h => Or.inl ⟨rfl, i, hCX.fe, fun S w mN hm => syW_fl k23 hm h⟩
    have eJ : ((tk i).1 = 12 ∨ (tk i).1 = 8) → Ev (fX4_readOne_J65 rec (nI o) N) (XR1 tk st nx M0 (1 + 5 * (5 - o)) i o c0) := by
      intro hk
      have hi : i < 160 := hA.2.2 i (by omega)
      unfold fX4_readOne_J65
      have q5 : nI o < 5 ↔ o < 5 := nI_ltI (a := o) (b := 5) (by omega) (by omega)
      by_cases ho5 : o < 5
      · rw [if_pos (q5.mpr ho5), hCX.1, nI_1]
        have h7 : ¬ (tk i).1 = 7 := by omega
        by_cases k8 : (tk i).1 = 8
        · rw [if_pos (t40.mpr k8)]
          have hst : ∀ S w mN, SyTo tk (i, S, o, w, true, mN) (i + 1, 0 :: S, o + 1, w, true, true) := by
            intro S w mN
            refine SyTo.one ?_ rfl
            show syW (tk i).1 (tk i).2 i S o w mN = _
            unfold syW
            rw [if_neg k23, if_neg (fun q => h7 q.1), if_neg (by omega), if_pos k8, if_neg (by omega)]
          refine Ev.bind (hA.1 i c0 N hCX) (fun _ N1 q1 => Ev.bind (hOr ho5 (i + 1) c0 N1 q1 (by omega)) (fun q N2 q2 => ?_))
          have hlow : ∀ S, lwSt 1 (0 :: S) := fun S => by show rkN 0 < 1; decide
          rcases q2 with ⟨rfl, e, f1, f2⟩ | ⟨rfl, j, cs, P, o1, b1, b2, b3, b4, b5, b6, b7, b8, b9⟩
          · rw [if_pos rfl]
            exact Ev.ret (Or.inl ⟨rfl, e, f1, fun S w mN _ => (hst S w mN).fl (f2 _ w true (hlow S) rfl)⟩)
          · rw [if_neg (by decide)]
            refine Ev.bind (skip_ev hA b3) (fun q N3 q3 => ?_)
            have t41 := (cTk_is (hA.2.1 j)).2.2.2.2.2.2.2.1
            rcases q3 with ⟨rfl, n1, n2⟩ | ⟨rfl, n1, n2⟩
            · rw [if_pos rfl]
              refine Ev.ret (Or.inl ⟨rfl, j, n2.fe, fun S w mN _ => ?_⟩)
              obtain ⟨mN', t⟩ := b9 (0 :: S) w true (hlow S) rfl
              refine ((hst S w mN).tr t).fl ?_
              have k9 : ¬ (tk j).1 = 9 := fun q => n1 (t41.mpr q)
              obtain ⟨g1, g2, ⟨g3, g4, g5⟩, g6⟩ := b7
              have hlt := (hA.2.1 j).1
              by_cases k10 : (tk j).1 = 10
              · refine SyFl.one (A := (j, P ++ 0 :: S, o + 1 + nn P, w ++ o1, false, mN')) ?_
                show syO (tk j).1 j (P ++ 0 :: S) (o + 1 + nn P) (w ++ o1) mN' = _
                unfold syO
                rw [if_pos k10, unw_all (hlow S) P (o + 1) (w ++ o1) b6]
                rfl
              · by_cases k14 : (tk j).1 = 14 ∨ (tk j).1 = 15
                · exact blk_fail k14 (g6 k14)
                · refine none_fail k10 k9 ?_
                  unfold sgn
                  rw [if_neg g1, if_neg g2, if_neg (by omega), if_neg (by omega), if_neg g3, if_neg g4, if_neg g5]
            · rw [if_neg (by decide)]
              have k9 : (tk j).1 = 9 := t41.mp n1
              have hj : j < 160 := hA.2.2 j (by omega)
              refine Ev.ret (Or.inr ⟨rfl, j + 1, cs, by omega, by omega, n2, by omega, b8, fun S w mN _ => ?_⟩)
              obtain ⟨mN', t⟩ := b9 (0 :: S) w true (hlow S) rfl
              refine ⟨mN', ((hst S w mN).tr t).tr (SyTo.one ?_ rfl)⟩
              show syO (tk j).1 j (P ++ 0 :: S) (o + 1 + nn P) (w ++ o1) mN' = _
              unfold syO
              rw [if_neg (by omega), if_pos k9, unw_all (hlow S) P (o + 1) (w ++ o1) b6, b5, ← List.append_assoc]
              rfl
        · have k12 : (tk i).1 = 12 := by omega
          rw [if_neg (fun q => k8 (t40.mp q))]
          have hst : ∀ S w mN, SyTo tk (i, S, o, w, true, mN) (i + 1, 19 :: S, o + 1, w, true, false) := by
            intro S w mN
            refine SyTo.one ?_ rfl
            show syW (tk i).1 (tk i).2 i S o w mN = _
            unfold syW
            rw [if_neg k23, if_neg (fun q => h7 q.1), if_pos k12, if_neg (by omega)]
          refine Ev.bind (hA.1 i c0 N hCX) (fun _ N1 q1 => Ev.bind (hOne ho5 (i + 1) c0 N1 q1 (by omega)) (fun q N2 q2 => ?_))
          rcases q2 with ⟨rfl, e, f1, f2⟩ | ⟨rfl, j, cs, b1, b2, b3, b4, b5, b6⟩
          · rw [if_pos rfl]
            exact Ev.ret (Or.inl ⟨rfl, e, f1, fun S w mN _ => (hst S w mN).fl (f2 _ w false (Or.inl rfl))⟩)
          · rw [if_neg (by decide)]
            refine Ev.bind (emit_ev (g := 19) b3 (by rw [List.length_append]; omega) (by decide)) (fun _ N3 q3 => Ev.ret (Or.inr ⟨rfl, j, cs ++ [19], by omega, b2, ?_, ?_, (okD_un b5 (Or.inr rfl)).le (by omega), fun S w mN _ => ?_⟩))
            · rw [← List.append_assoc]; exact q3
            · rw [List.length_append]
              show cs.length + 1 ≤ j - i
              omega
            · obtain ⟨mN', t⟩ := b6 (19 :: S) w false (Or.inl rfl)
              refine ⟨mN', (hst S w mN).tr ?_⟩
              rw [← List.append_assoc]
              exact t
      · have ho5' : o = 5 := by omega
        rw [if_neg (fun q => ho5 (q5.mp q))]
        exact Ev.ret (hfail (Or.inl ho5'))
    by_cases k12 : (tk i).1 = 12
    · rw [if_pos (t45.mpr k12)]; exact eJ (Or.inl k12)
    · rw [if_neg (fun q => k12 (t45.mp q))]
      by_cases k8 : (tk i).1 = 8
      · rw [if_pos (t40.mpr k8)]; exact eJ (Or.inr k8)
      · rw [if_neg (fun q => k8 (t40.mp q))]
        exact Ev.ret (hfail (Or.inr ⟨k12, k8⟩))
end RE2
