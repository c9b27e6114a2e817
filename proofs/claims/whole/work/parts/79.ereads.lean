/-! the reference's eRead, step by step -/
section ER2
theorem rTk_is : ∀ k, k < 16 → (rTk k = 59 ↔ k = 10) ∧ (rTk k = 41 ↔ k = 9) ∧ (rTk k = 1 ↔ k = 2) ∧ (rTk k = 2 ↔ k = 3) ∧ (rTk k = 6 ↔ k = 7) ∧ (rTk k = 45 ↔ k = 12) ∧ (rTk k = 40 ↔ k = 8) := by decide +kernel
theorem rTk_is2 : ∀ k, k < 16 → (rTk k = 3 ↔ k = 4) ∧ (rTk k = 0 ↔ k = 0) := by decide +kernel
def sgI (v : Int32) : Int32 := if v = 4 then 11 else if v = 5 then 12 else if v = 60 then 14 else if v = 61 then 15 else if v = 43 then 16 else if v = 45 then 17 else if v = 42 then 18 else -1
theorem sgI_r : ∀ k, k < 16 → sgI (rTk k) = if sgn k = 0 then -1 else nI (sgn k) := by decide +kernel
theorem signOf_ev (M : Mem) : fX11_signOf M = some (sgI (M 22 0 22), M) := by
  unfold fX11_signOf sgI
  repeat' split
  all_goals rfl
theorem sgn_bin : ∀ k, k < 16 → ¬ sgn k = 0 → (10 < sgn k ∧ sgn k < 19 ∧ ¬ sgn k = 13) ∧ 0 < rkN (sgn k) ∧ rkN (sgn k) < 8 ∧ (¬ (12 : Int32) < nI (sgn k) ↔ sgn k ≤ 12) ∧ ¬ nI (sgn k) = -1 := by decide +kernel
theorem bt_e {b : Bool} : bt b = 0 ↔ b = false := by cases b <;> decide
theorem open_ev {M0 : Mem} {T : Nat} {S : List Nat} {o g : Nat} {w : List Nat} {N : Mem} (h : RX M0 T S o w N) (hl : S.length < 200) (ho : o < 2 ^ 31) : Ev (fX11_opensOne (nI g) N) (fun r N' => (o = 5 ∧ r = 0 ∧ RX M0 T S o w N' ∧ KP4 N N') ∨ (¬ o = 5 ∧ r = 1 ∧ RX M0 T (g :: S) (o + 1) w N' ∧ KP4 N N')) := by
  unfold fX11_opensOne
  have e5 : N 22 0 27 = 5 ↔ o = 5 := ⟨fun q => nI_inj32 (a := o) (b := 5) (by omega) (by omega) (h.2.1.symm.trans q), fun q => by rw [h.2.1, q]; rfl⟩
  by_cases q : o = 5
  · rw [if_pos (e5.mpr q)]
    exact Ev.ret (Or.inl ⟨q, rfl, h, fun _ _ _ => rfl⟩)
  · rw [if_neg (fun z => q (e5.mp z))]
    refine Ev.let_ fun N1 e1 => ?_
    rw [h.2.1, nI_1] at e1
    have h1 : RX M0 T S (o + 1) w N1 := by rw [e1]; exact h.m22 (by omega) (by rw [if_neg (by decide)]; exact h.1) (if_pos rfl) h.2.2.2.1
    have k1 : KP4 N N1 := fun x _ hx => by
      rw [e1, mst_s]
      have : ¬ x = 27 := by omega
      simp only [upd, if_neg this]
    exact Ev.bind (push_ev h1 hl) (fun _ N2 q2 => Ev.ret (Or.inr ⟨q, rfl, q2.1, k1.tr q2.2⟩))
theorem btw_ev {M0 : Mem} {T : Nat} (hT : T < 6) (hT0 : M0 22 0 11 = nI T) {S : List Nat} {o g : Nat} {w : List Nat} {N : Mem} (h : RX M0 T S o w N) (ho : o = cnO S) (h20 : ∀ s ∈ S, s < 20) (hl : S.length + w.length ≤ 199) (hg : 10 < g ∧ g < 19 ∧ ¬ g = 13) (hg0 : 0 < rkN g) :
    Ev (fX11_between (nI g) N) (fun r N' => ((rkN g = 4 ∧ top4 (unw (if rkN g = 4 then 5 else rkN g) S o w).1 = true) ∧ r = 0 ∧ RF M0 T N' ∧ KP4 N N') ∨ (¬ (rkN g = 4 ∧ top4 (unw (if rkN g = 4 then 5 else rkN g) S o w).1 = true) ∧ r = 1 ∧ RX M0 T (g :: (unw (if rkN g = 4 then 5 else rkN g) S o w).1) (unw (if rkN g = 4 then 5 else rkN g) S o w).2.1 (unw (if rkN g = 4 then 5 else rkN g) S o w).2.2 N' ∧ KP4 N N')) := by
  have h8 := rkN_8 g
  generalize ht : (if rkN g = 4 then 5 else rkN g) = t
  have ht0 : 0 < t := by rw [← ht]; split <;> omega
  have ht8 : t < 8 := by rw [← ht]; split <;> omega
  have i4 : ∀ s, rkN s < 8 → (nI (rkN s) = 4 ↔ rkN s = 4) := fun s hs => ⟨fun z => nI_inj32 (a := rkN s) (b := 4) (by omega) (by omega) z, fun z => by rw [z]; rfl⟩
  have eJ : Ev (fX11_between_J17 (nI g) (nI t) N) (fun r N' => ((rkN g = 4 ∧ top4 (unw t S o w).1 = true) ∧ r = 0 ∧ RF M0 T N' ∧ KP4 N N') ∨ (¬ (rkN g = 4 ∧ top4 (unw t S o w).1 = true) ∧ r = 1 ∧ RX M0 T (g :: (unw t S o w).1) (unw t S o w).2.1 (unw t S o w).2.2 N' ∧ KP4 N N')) := by
    unfold fX11_between_J17 fX11_unwinds
    obtain ⟨v1, v2, v3, v4⟩ := unw_inv ht0 S o w ho h20
    refine Ev.bind (unwinds_ev hT hT0 ht0 ht8 S FU o w N (by show _ < 2000; omega) h ho h20 hl) (fun _ N6 q6 => ?_)
    obtain ⟨q6, k6⟩ := q6
    rw [rank_ev, rkI_nI g (by omega), ob_some]
    have push : (¬ (rkN g = 4 ∧ top4 (unw t S o w).1 = true)) → Ev (fX11_between_J55 (nI g) N6) (fun r N' => ((rkN g = 4 ∧ top4 (unw t S o w).1 = true) ∧ r = 0 ∧ RF M0 T N' ∧ KP4 N N') ∨ (¬ (rkN g = 4 ∧ top4 (unw t S o w).1 = true) ∧ r = 1 ∧ RX M0 T (g :: (unw t S o w).1) (unw t S o w).2.1 (unw t S o w).2.2 N' ∧ KP4 N N')) := by
      intro hn
      unfold fX11_between_J55
      exact Ev.bind (push_ev q6 (by omega)) (fun _ N7 q7 => Ev.ret (Or.inr ⟨hn, rfl, q7.1, k6.tr q7.2⟩))
    by_cases y : rkN g = 4
    · rw [if_pos ((i4 g h8).mpr y)]
      generalize unw t S o w = u at *
      obtain ⟨S', o', w'⟩ := u
      cases S' with
      | nil =>
        have e0 : N6 22 0 26 = 0 := q6.1
        rw [e0, if_pos (by decide)]
        exact push (fun z => Bool.noConfusion z.2)
      | cons s r =>
        have h26 : N6 22 0 26 = nI (r.length + 1) := q6.1
        have hlen : r.length + 1 + w'.length = S.length + w.length := v3
        have hs : s < 20 := v2 s List.mem_cons_self
        rw [h26, if_neg (fun q => by have := (nI_leI (b := 0) (by omega) (by omega)).mp q; omega), nI_pred, nI_clamp (show r.length < 2 ^ 31 by omega), q6.2.2.2.1.1, rank_ev, rkI_nI s hs]
        refine Ev.gd (inb_nI (by omega) (by decide)) ?_
        rw [ob_some]
        by_cases z : rkN s = 4
        · rw [if_pos ((i4 s (rkN_8 s)).mpr z)]
          exact Ev.ret (Or.inl ⟨⟨y, by show (rkN s == 4) = true; rw [z]; rfl⟩, rfl, q6.2.2.2.2.2, k6⟩)
        · rw [if_neg (fun x => z ((i4 s (rkN_8 s)).mp x))]
          refine push (fun x => z ?_)
          have : (rkN s == 4) = true := x.2
          simpa using this
    · rw [if_neg (fun x => y ((i4 g h8).mp x))]
      exact push (fun x => y x.1)
  unfold fX11_between
  rw [rank_ev, rkI_nI g (by omega), ob_some]
  by_cases y : rkN g = 4
  · rw [if_pos y] at ht
    rw [if_pos ((i4 g h8).mpr y)]
    subst ht
    exact eJ
  · rw [if_neg y] at ht
    rw [if_neg (fun x => y ((i4 g h8).mp x)), rank_ev, rkI_nI g (by omega), ob_some]
    subst ht
    exact eJ
def psN (nx : Nat → Nat) : Nat → Nat
  | 0 => 0
  | i + 1 => nx i
def RAdv (tk : Tk) (st nx : Nat → Nat) (M0 : Mem) : Prop := ∀ i N, N 22 0 20 = nI (psN nx i) → N 28 0 = M0 28 0 → N 37 0 = M0 37 0 → N 22 0 8 = M0 22 0 8 → Ev (fX11_next N) (fun _ N' => N' 22 0 20 = nI (nx i) ∧ N' 22 0 21 = nI (st i) ∧ N' 22 0 22 = rTk (tk i).1 ∧ ((tk i).1 = 2 ∨ (tk i).1 = 3 ∨ (tk i).1 = 4 → N' 22 0 23 = nI (tk i).2) ∧ Off (fun K i => K = 22 ∧ i = 0) N N' ∧ ∀ x, ¬ (20 ≤ x ∧ x < 24) → N' 22 0 x = N 22 0 x)
theorem RF.nxt {M0 : Mem} {T : Nat} {N N' : Mem} (h : RF M0 T N) (h1 : Off (fun K i => K = 22 ∧ i = 0) N N') (h2 : ∀ x, ¬ (20 ≤ x ∧ x < 24) → N' 22 0 x = N 22 0 x) : RF M0 T N' := ⟨h.1.tr (h1.mono (fun K i q => ⟨Or.inl q.1, q.2⟩)), fun x hx => (h2 x (by omega)).trans (h.2.1 x hx), fun y hy => by rw [h1 29 0 (by simp)]; exact h.2.2 y hy⟩
theorem RX.nxt {M0 : Mem} {T : Nat} {S : List Nat} {o : Nat} {w : List Nat} {N N' : Mem} (h : RX M0 T S o w N) (h1 : Off (fun K i => K = 22 ∧ i = 0) N N') (h2 : ∀ x, ¬ (20 ≤ x ∧ x < 24) → N' 22 0 x = N 22 0 x) : RX M0 T S o w N' := ⟨(h2 26 (by omega)).trans h.1, (h2 27 (by omega)).trans h.2.1, (h2 28 (by omega)).trans h.2.2.1, by rw [h1 38 0 (by simp)]; exact h.2.2.2.1, fun x hx => by rw [h1 29 0 (by simp)]; exact h.2.2.2.2.1 x hx, h.2.2.2.2.2.nxt h1 h2⟩
/-- what eRead comes to -/
def ERes (M0 : Mem) (T : Nat) (st nx : Nat → Nat) (res : MR) (r : Int32) (N : Mem) : Prop := r = bt res.1 ∧ N 22 0 21 = nI (st res.2.1) ∧ RF M0 T N ∧ (res.1 = true → N 22 0 20 = nI (nx res.2.1) ∧ N 22 0 28 = nI res.2.2.length ∧ ∀ x, x < res.2.2.length → N 29 0 (200 * T + x) = nI (res.2.2.getD x 0))
end ER2
