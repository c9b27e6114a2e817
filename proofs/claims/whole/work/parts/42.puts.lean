/-! put, on both sides -/
section PS
theorem put_core {T : Nat} {M M5 M6 : Mem} {t p n : Nat} (h : RelT T M) (ht : t < 2) (hp : p < rN (vwX 0 M)) (hn : n < (if t = 0 then 36 else 100)) (h5 : M5 = mst M 18 t p (nI n)) (h6 : M6 = mst M5 (trK t) 0 p (nI n)) : RelT T M6 := by
  have hv : vwX 0 M = vwM M := h.2.2.2.2.2.1
  have hX := h.2.2.2.1
  have hM := h.2.2.2.2.1
  have htr : trK t = 25 ∨ trK t = 26 := by
    match t, ht with
    | 0, _ => exact Or.inl rfl
    | 1, _ => exact Or.inr rfl
    | t + 2, h => omega
  have o5 : ∀ {K i : Nat}, K ≠ 18 → M5 K i = M K i := fun q => by rw [h5, mst_n (fun z => q z.1)]
  have o6 : ∀ {K i : Nat}, K ≠ 25 → K ≠ 26 → M6 K i = M5 K i := fun q q2 => by rw [h6, mst_n (fun z => by rcases htr with e | e; exact q (by rw [z.1, e]); exact q2 (by rw [z.1, e]))]
  have x5 : vwX 0 M5 = setA (vwX 0 M) t p (nI n) := by
    have := vwX_put (r := 0) (M := M) (v := nI n) (show t < 4 by omega) hp
    rw [show 4 * 0 + t = t by omega] at this
    rw [h5]; exact this
  have x6 : vwX 0 M6 = vwX 0 M5 := vwX_eq (o6 (by decide) (by decide)) (o6 (by decide) (by decide)) (fun _ _ => o6 (by decide) (by decide))
  have m5 : vwM M5 = vwM M := vwM_eq (o5 (by decide)) (o5 (by decide)) (o5 (by decide)) (o5 (by decide)) (o5 (by decide)) (o5 (by decide))
  have m6 : vwM M6 = setA (vwM M5) t p (nI n) := by rw [h6]; exact vwM_put (by omega) (by rw [m5, ← hv]; exact hp)
  have hvv : vwX 0 M6 = vwM M6 := by rw [x6, x5, m6, m5, hv]
  have hx6 : vwX 0 M6 = setA (vwX 0 M) t p (nI n) := by rw [x6, x5]
  have f15 : M6 15 0 = M 15 0 := by rw [o6 (by decide) (by decide), o5 (by decide)]
  have f22 : M6 22 0 = M 22 0 := by rw [o6 (by decide) (by decide), o5 (by decide)]
  obtain ⟨p1, p2, p3, p4, p5⟩ := hX
  obtain ⟨q1, q2, q3, q4, q5⟩ := hM
  have okA6 : okA (vwX 0 M6) := by rw [hx6]; exact okA_set p4 ht hn
  have okT6 : okT (vwX 0 M6) := by rw [hx6]; exact p5
  refine h.room (fun K i _ hr => ?_) ⟨by rw [f22], by rw [f22], by rw [f22]⟩ ⟨by rw [f15, hx6]; exact p1, by rw [f15, hx6]; exact p2, by rw [hx6]; exact p3, okA6, okT6⟩ ⟨by rw [f22, ← hvv, hx6, q1, hv]; rfl, by rw [f22, ← hvv, hx6, q2, hv]; rfl, by rw [← hvv, hx6]; exact p3, by rw [← hvv]; exact okA6, by rw [← hvv]; exact okT6⟩ hvv (by rw [hx6]; exact h.2.2.2.2.2.2.1) (fun h1 => ⟨?_, fun z _ => ⟨by rw [o6 (by decide) (by decide), o5 (by decide)], by rw [o6 (by decide) (by decide), o5 (by decide)]⟩⟩)
  · rw [h6, mst_n (fun q => hr (Or.inr (Or.inr (Or.inr ⟨q.2, by rcases htr with e | e <;> rw [q.1, e] <;> simp⟩)))), h5, mst_n (fun q => hr (Or.inr (Or.inr (Or.inl ⟨q.1, by omega⟩))))]
  · rw [hx6]
    rcases h.2.2.2.2.2.2.2.2.2.1.2 with b | b
    · rw [h1] at b; exact absurd b (by decide)
    · exact b.2.2.2.2.2.2
theorem putM_eq {T p t mx : Nat} {z : Int32} {N : Mem} (hI : InM T N) (h1 : ¬ bt (decide (0 ≤ nI p) && decide (nI p ≤ nI (rN (vwM N)) - 1)) = 0) (ht : t < 2) (h0 : ¬ bt (decide (0 ≤ nI t) && decide (nI t ≤ 1)) = 0) (hmx : mx + 1 = (if t = 0 then 36 else 100)) : fX11_put (nI p) (nI t) z N = fX11_put_J33 (nI p) (nI t) z (nI mx) 0 z N := by
  unfold fX11_put
  rw [oneM_ev (nI p) hI, ob_some, if_neg h1, in_ev, ob_some, if_neg h0]
  match t, ht with
  | 0, _ =>
    rw [if_pos (show nI 0 = 0 from rfl), show mx = 35 by simpa using hmx]
    rfl
  | 1, _ =>
    rw [if_neg (show ¬ nI 1 = 0 by decide), show mx = 99 by simpa using hmx]
    rfl
  | t + 2, h => omega
theorem put_same (v w z : Int32) : Same (fX10_put v w z) (fX11_put v w z) := by
  rintro M ⟨T, h⟩
  have hv : vwX 0 M = vwM M := h.2.2.2.2.2.1
  have hX := h.2.2.2.1
  have hM := h.2.2.2.2.1
  unfold fX10_put
  rw [hasX_ev 0 v hX, ob_some]
  refine Ev.ite (fun h1 => Ev.ret ?_) (fun h1 => ?_)
  · unfold fX11_put
    rw [oneM_ev v hM, ob_some, ← hv, if_pos h1]
    exact Ev.ret ⟨rfl, T, h⟩
  · obtain ⟨p, hp, rfl⟩ := one_rng hX.2.2.2.1.1 (Decidable.byContradiction fun q => h1 (bt_and.mpr q))
    have hp6 : p < 6 := Nat.lt_of_lt_of_le hp hX.2.2.2.1.1
    have hin : inb (nI p) 6 = true := inb_nI hp6 (by decide)
    have cp := nI_clamp (show p < 2 ^ 31 by omega)
    have hpM : p < rN (vwM M) := by rw [← hv]; exact hp
    rw [within_ev, ob_some]
    refine Ev.ite (fun h0 => Ev.ret ?_) (fun h0 => ?_)
    · unfold fX11_put
      rw [oneM_ev (nI p) hM, ob_some, ← hv, if_neg h1, in_ev, ob_some, if_pos h0]
      exact Ev.ret ⟨rfl, T, h⟩
    · obtain ⟨t, ht, rfl⟩ := rng (n := 1) (by decide) (Decidable.byContradiction fun q => h0 (bt_and.mpr q))
      have body : ∀ (t : Nat) (mx : Nat), t < 2 → mx + 1 = (if t = 0 then 36 else 100) → Ev (fX10_put_J36 (nI p) (nI t) z (nI mx) 0 z M) (fun r M1 => Ev (fX11_put (nI p) (nI t) z M1) (fun r2 M2 => r2 = r ∧ Rel M2)) := by
        intro t mx ht hmx
        have h0 : ¬ bt (decide (0 ≤ nI t) && decide (nI t ≤ 1)) = 0 := by
          match t, ht with
          | 0, _ => decide
          | 1, _ => decide
          | t + 2, h => omega
        have hm : mx < 2 ^ 31 := by split at hmx <;> omega
        unfold fX10_put_J36
        rw [within_ev, ob_some]
        refine Ev.ite (fun h2 => Ev.ret ?_) (fun h2 => ?_)
        · rw [putM_eq hM (by rw [← hv]; exact h1) ht h0 hmx]
          unfold fX11_put_J33
          rw [in_ev, ob_some, if_pos h2]
          exact Ev.ret ⟨rfl, T, h⟩
        · obtain ⟨n, hn, rfl⟩ := rng hm (Decidable.byContradiction fun q => h2 (bt_and.mpr q))
          have hn2 : n < (if t = 0 then 36 else 100) := by rw [← hmx]; omega
          have hit : inb (nI t) 4 = true := inb_nI (by omega) (by decide)
          refine Ev.gd hit (Ev.gd hin (Ev.letv (Ev.gd hit (Ev.gd hin (Ev.let_ fun M5 h5 => Ev.ret ?_)))))
          rw [nI_clamp (show t < 2 ^ 31 by omega), cp, show 4 * 0 + t = t by omega] at h5
          have ea := vwX_A (r := 0) (t := t) (M := M) (by omega) hp
          rw [show 4 * 0 + t = t by omega] at ea
          rw [nI_clamp (show t < 2 ^ 31 by omega), cp, show 4 * 0 + t = t by omega, ea, hv, ← vwM_A (by omega) hpM]
          have o5 : ∀ {K i : Nat}, K ≠ 18 → M5 K i = M K i := fun q => by rw [h5, mst_n (fun z => q z.1)]
          have m5 : vwM M5 = vwM M := vwM_eq (o5 (by decide)) (o5 (by decide)) (o5 (by decide)) (o5 (by decide)) (o5 (by decide)) (o5 (by decide))
          rw [putM_eq (hM.same m5 (o5 (by decide))) (by rw [m5, ← hv]; exact h1) ht h0 hmx]
          unfold fX11_put_J33
          rw [in_ev, ob_some, if_neg h2]
          match t, ht with
          | 0, _ =>
            rw [if_pos (show nI 0 = 0 from rfl)]
            refine Ev.gd hin ?_
            unfold fX11_put_J61
            rw [if_pos (show nI 0 = 0 from rfl)]
            refine Ev.gd hin (Ev.let_ fun M6 h6 => Ev.ret ⟨?_, T, put_core h (by omega) hp hn2 h5 (by rw [cp] at h6; exact h6)⟩)
            rw [cp, o5 (by decide)]
            rfl
          | 1, _ =>
            rw [if_neg (show ¬ nI 1 = 0 by decide)]
            refine Ev.gd hin ?_
            unfold fX11_put_J61
            rw [if_neg (show ¬ nI 1 = 0 by decide)]
            refine Ev.gd hin (Ev.let_ fun M6 h6 => Ev.ret ⟨?_, T, put_core h (by omega) hp hn2 h5 (by rw [cp] at h6; exact h6)⟩)
            rw [cp, o5 (by decide)]
            rfl
          | t + 2, h => omega
      refine Ev.ite (fun e => ?_) (fun e => ?_)
      · have : t = 0 := by
          by_cases q : t = 0
          · exact q
          · exact absurd e (nI_ne0 (by omega) (by omega))
        exact body t 35 (by omega) (by rw [if_pos this])
      · have : t ≠ 0 := fun q => e (by rw [q]; rfl)
        exact body t 99 (by omega) (by rw [if_neg this])
end PS
