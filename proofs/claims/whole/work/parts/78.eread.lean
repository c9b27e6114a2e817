/-! the reference's eRead is the machine -/
section ER
def rTk (k : Nat) : Int32 := if k = 0 then 0 else if k = 1 then -1 else if k ≤ 7 then nI (k - 1) else if k = 8 then 40 else if k = 9 then 41 else if k = 10 then 59 else if k = 11 then 43 else if k = 12 then 45 else if k = 13 then 42 else if k = 14 then 60 else 61
def StkL : List Nat → (Nat → Int32) → Prop
  | [], _ => True
  | s :: r, f => f r.length = nI s ∧ StkL r f
theorem StkL.ext : ∀ {S : List Nat} {f g : Nat → Int32}, StkL S f → (∀ x, x < S.length → g x = f x) → StkL S g := by
  intro S
  induction S with
  | nil => intro f g _ _; exact trivial
  | cons s r ih =>
    intro f g h e
    exact ⟨(e r.length (Nat.lt_succ_self _)).trans h.1, ih h.2 (fun x hx => e x (Nat.lt_succ_of_lt hx))⟩
def cnO : List Nat → Nat
  | [] => 0
  | s :: r => cnO r + (if s = 0 ∨ s = 13 ∨ s = 19 then 1 else 0)
theorem cnO_le : ∀ S : List Nat, cnO S ≤ S.length := by
  intro S
  induction S with
  | nil => exact Nat.le_refl _
  | cons s r ih =>
    show cnO r + _ ≤ r.length + 1
    split <;> omega
theorem unw_inv {t : Nat} (ht : 0 < t) : ∀ (S : List Nat) (o : Nat) (w : List Nat), o = cnO S → (∀ s ∈ S, s < 20) → (unw t S o w).2.1 = cnO (unw t S o w).1 ∧ (∀ s ∈ (unw t S o w).1, s < 20) ∧ (unw t S o w).1.length + (unw t S o w).2.2.length = S.length + w.length ∧ lwSt t (unw t S o w).1 := by
  intro S
  induction S with
  | nil => intro o w h1 h2; exact ⟨h1, h2, rfl, trivial⟩
  | cons s r ih =>
    intro o w h1 h2
    by_cases h : t ≤ rkN s
    · have e : unw t (s :: r) o w = unw t r (if s = 13 ∨ s = 19 then o - 1 else o) (w ++ [s]) := if_pos h
      rw [e]
      have hc : ¬ s = 0 := fun q => by rw [q] at h; have : t ≤ 0 := h; omega
      obtain ⟨a, b, c, d⟩ := ih (if s = 13 ∨ s = 19 then o - 1 else o) (w ++ [s]) (by
        have h1' : o = cnO r + (if s = 0 ∨ s = 13 ∨ s = 19 then 1 else 0) := h1
        by_cases q : s = 13 ∨ s = 19
        · rw [if_pos q]; rw [if_pos (Or.inr q)] at h1'; omega
        · rw [if_neg q]; rw [if_neg (fun z => z.elim hc q)] at h1'; omega) (fun x hx => h2 x (List.mem_cons_of_mem _ hx))
      refine ⟨a, b, ?_, d⟩
      rw [c, List.length_append]
      show r.length + (w.length + 1) = r.length + 1 + w.length
      omega
    · have e : unw t (s :: r) o w = (s :: r, o, w) := if_neg h
      rw [e]
      exact ⟨h1, h2, rfl, by show rkN s < t; omega⟩
def rkI (v : Int32) : Int32 := if v = 0 then 0 else if v = 11 then 1 else if v = 12 then 2 else if v = 13 then 3 else if 15 < v then (if 17 < v then (if v = 18 then 6 else 7) else 5) else 4
theorem rkI_nI : ∀ s, s < 20 → rkI (nI s) = nI (rkN s) := by decide +kernel
theorem rkN_8 (s : Nat) : rkN s < 8 := by
  unfold rkN
  repeat' split
  all_goals omega
theorem rank_ev (v : Int32) (M : Mem) : fX11_rank v M = some (rkI v, M) := by
  unfold fX11_rank rkI
  repeat' split
  all_goals rfl
/-- the reference's memory while it reads an E -/
def RF (M0 : Mem) (T : Nat) (N : Mem) : Prop := Off (fun K i => (K = 22 ∨ K = 38 ∨ K = 29) ∧ i = 0) M0 N ∧ (∀ x, ¬ (20 ≤ x ∧ x ≤ 28) ∨ x = 24 ∨ x = 25 → N 22 0 x = M0 22 0 x) ∧ ∀ y, y < 200 * T → N 29 0 y = M0 29 0 y
def RX (M0 : Mem) (T : Nat) (S : List Nat) (o : Nat) (w : List Nat) (N : Mem) : Prop := N 22 0 26 = nI S.length ∧ N 22 0 27 = nI o ∧ N 22 0 28 = nI w.length ∧ StkL S (N 38 0) ∧ (∀ x, x < w.length → N 29 0 (200 * T + x) = nI (w.getD x 0)) ∧ RF M0 T N
def KP4 (N N' : Mem) : Prop := ∀ x, 20 ≤ x → x < 24 → N' 22 0 x = N 22 0 x
theorem KP4.tr {a b c : Mem} (h : KP4 a b) (h2 : KP4 b c) : KP4 a c := fun x h1 h3 => (h2 x h1 h3).trans (h x h1 h3)
theorem RX.m22 {M0 : Mem} {T : Nat} {S S' : List Nat} {o o' : Nat} {w : List Nat} {N : Mem} {x : Nat} {v : Int32} (h : RX M0 T S o w N) (hx : 20 ≤ x ∧ x ≤ 27 ∧ ¬ x = 24 ∧ ¬ x = 25) (h26 : (if x = 26 then v else N 22 0 26) = nI S'.length) (h27 : (if x = 27 then v else N 22 0 27) = nI o') (hS : StkL S' (N 38 0)) : RX M0 T S' o' w (mst N 22 0 x v) := by
  obtain ⟨a, b, c, d, e, f1, f2, f3⟩ := h
  have s : ∀ y, mst N 22 0 x v 22 0 y = if x = y then v else N 22 0 y := fun y => by
    rw [mst_s]
    show (if y = x then v else N 22 0 y) = _
    by_cases q : y = x
    · rw [if_pos q, if_pos q.symm]
    · rw [if_neg q, if_neg (fun z => q z.symm)]
  refine ⟨(s 26).trans h26, (s 27).trans h27, by rw [s, if_neg (by omega)]; exact c, by rw [mst_n (by simp)]; exact hS, fun y hy => by rw [mst_n (by simp)]; exact e y hy, f1.mst (by simp), fun y hy => by rw [s, if_neg (by omega)]; exact f2 y hy, fun y hy => by rw [mst_n (by simp)]; exact f3 y hy⟩
theorem puts_ev {M0 : Mem} {T : Nat} (hT : T < 6) (hT0 : M0 22 0 11 = nI T) {S : List Nat} {o g : Nat} {w : List Nat} {N : Mem} (h : RX M0 T S o w N) (hl : w.length < 200) : Ev (fX11_puts (nI g) N) (fun _ N' => RX M0 T S o (w ++ [g]) N' ∧ KP4 N N') := by
  obtain ⟨a, b, c, d, e, f1, f2, f3⟩ := h
  unfold fX11_puts
  have h11 : N 22 0 11 = nI T := (f2 11 (Or.inl (by omega))).trans hT0
  have ei : (200 : Int32) * N 22 0 11 + N 22 0 28 = nI (200 * T + w.length) := by
    rw [h11, c, show (200 : Int32) = nI 200 from rfl, nI_mulB, nI_add]
  rw [ei, nI_clamp (show 200 * T + w.length < 2 ^ 31 by omega)]
  refine Ev.gd (inb_nI (by omega) (by decide)) (Ev.let_ fun N1 e1 => Ev.let_ fun N2 e2 => Ev.ret ?_)
  have f22 : N1 22 0 = N 22 0 := by rw [e1, mst_n (by simp)]
  rw [f22, c, nI_1] at e2
  have g22 : N2 22 0 = upd (N 22 0) 28 (nI (w.length + 1)) := by rw [e2, mst_s, f22]
  have g29 : N2 29 0 = upd (N 29 0) (200 * T + w.length) (nI g) := by rw [e2, mst_n (by simp), e1, mst_s]
  have g38 : N2 38 0 = N 38 0 := by rw [e2, mst_n (by simp), e1, mst_n (by simp)]
  have s : ∀ y, y ≠ 28 → N2 22 0 y = N 22 0 y := fun y hy => by rw [g22]; simp only [upd, if_neg hy]
  refine ⟨⟨by rw [s 26 (by decide)]; exact a, by rw [s 27 (by decide)]; exact b, by rw [g22, List.length_append]; simp [upd], by rw [g38]; exact d, fun x hx => ?_, by rw [e2, e1]; exact (f1.mst (by simp)).mst (by simp), fun x hx => by rw [s x (by omega)]; exact f2 x hx, fun y hy => ?_⟩, fun x h1 h2 => s x (by omega)⟩
  · rw [getD_app hx, g29]
    by_cases q : x = w.length
    · subst q
      rw [if_pos rfl]
      simp [upd]
    · rw [if_neg q]
      have : ¬ 200 * T + x = 200 * T + w.length := by omega
      simp only [upd, if_neg this]
      refine e x ?_
      rw [List.length_append] at hx
      have : x < w.length + 1 := hx
      omega
  · rw [g29]
    have : ¬ y = 200 * T + w.length := by omega
    simp only [upd, if_neg this]
    exact f3 y hy
theorem push_ev {M0 : Mem} {T : Nat} {S : List Nat} {o g : Nat} {w : List Nat} {N : Mem} (h : RX M0 T S o w N) (hl : S.length < 200) : Ev (fX11_holdsText (nI g) N) (fun _ N' => RX M0 T (g :: S) o w N' ∧ KP4 N N') := by
  obtain ⟨a, b, c, d, e, f1, f2, f3⟩ := h
  unfold fX11_holdsText
  rw [a, nI_clamp (show S.length < 2 ^ 31 by omega)]
  refine Ev.gd (inb_nI hl (by decide)) (Ev.let_ fun N1 e1 => Ev.let_ fun N2 e2 => Ev.ret ?_)
  have f22 : N1 22 0 = N 22 0 := by rw [e1, mst_n (by simp)]
  rw [f22, a, nI_1] at e2
  have g22 : N2 22 0 = upd (N 22 0) 26 (nI (S.length + 1)) := by rw [e2, mst_s, f22]
  have g29 : N2 29 0 = N 29 0 := by rw [e2, mst_n (by simp), e1, mst_n (by simp)]
  have g38 : N2 38 0 = upd (N 38 0) S.length (nI g) := by rw [e2, mst_n (by simp), e1, mst_s]
  have s : ∀ y, y ≠ 26 → N2 22 0 y = N 22 0 y := fun y hy => by rw [g22]; simp only [upd, if_neg hy]
  have hd : StkL S (N2 38 0) := by
    refine d.ext (fun x hx => ?_)
    rw [g38]
    have : ¬ x = S.length := by omega
    simp only [upd, if_neg this]
  refine ⟨⟨by rw [g22]; simp [upd], by rw [s 27 (by decide)]; exact b, by rw [s 28 (by decide)]; exact c, ⟨by rw [g38]; simp [upd], hd⟩, fun x hx => by rw [g29]; exact e x hx, by rw [e2, e1]; exact (f1.mst (by simp)).mst (by simp), fun x hx => by rw [s x (by omega)]; exact f2 x hx, fun y hy => by rw [g29]; exact f3 y hy⟩, fun x h1 h2 => s x (by omega)⟩
theorem unwinds_ev {M0 : Mem} {T : Nat} (hT : T < 6) (hT0 : M0 22 0 11 = nI T) {t : Nat} (ht : 0 < t) (ht8 : t < 8) : ∀ (S : List Nat) (n o : Nat) (w : List Nat) (N : Mem), S.length < n → RX M0 T S o w N → o = cnO S → (∀ s ∈ S, s < 20) → S.length + w.length ≤ 199 → Ev (fX11_unwinds_L0 (nI t) n N) (fun _ N' => RX M0 T (unw t S o w).1 (unw t S o w).2.1 (unw t S o w).2.2 N' ∧ KP4 N N') := by
  intro S
  induction S with
  | nil =>
    intro n o w N hn h _ _ _
    cases n with
    | zero => exact absurd hn (Nat.not_lt_zero _)
    | succ n =>
      show Ev (fX11_unwinds_B0 (nI t) (fX11_unwinds_L0 (nI t) n) N) _
      unfold fX11_unwinds_B0
      have e0 : N 22 0 26 = 0 := h.1
      rw [e0, if_pos (by decide)]
      exact Ev.ret ⟨h, fun _ _ _ => rfl⟩
  | cons s r ih =>
    intro n o w N hn h ho h20 hl
    cases n with
    | zero => exact absurd hn (Nat.not_lt_zero _)
    | succ n =>
      show Ev (fX11_unwinds_B0 (nI t) (fX11_unwinds_L0 (nI t) n) N) _
      have hr : r.length + 1 + w.length ≤ 199 := hl
      have hn' : r.length + 1 < n + 1 := hn
      have h26 : N 22 0 26 = nI (r.length + 1) := h.1
      have hs : s < 20 := h20 s List.mem_cons_self
      unfold fX11_unwinds_B0
      rw [h26, if_neg (fun q => by have := (nI_leI (b := 0) (by omega) (by omega)).mp q; omega), nI_pred, nI_clamp (show r.length < 2 ^ 31 by omega), h.2.2.2.1.1, rank_ev, rkI_nI s hs]
      refine Ev.gd (inb_nI (by omega) (by decide)) ?_
      rw [ob_some]
      have h8 := rkN_8 s
      by_cases q : rkN s < t
      · rw [if_pos ((nI_ltI (by omega) (by omega)).mpr q)]
        have e : unw t (s :: r) o w = (s :: r, o, w) := if_neg (by omega)
        rw [e]
        exact Ev.ret ⟨h, fun _ _ _ => rfl⟩
      · rw [if_neg (fun z => q ((nI_ltI (by omega) (by omega)).mp z))]
        have e : unw t (s :: r) o w = unw t r (if s = 13 ∨ s = 19 then o - 1 else o) (w ++ [s]) := if_pos (by omega)
        rw [e]
        have hc : ¬ s = 0 := fun z => by rw [z] at q; exact q ht
        have ho' : o = cnO r + (if s = 0 ∨ s = 13 ∨ s = 19 then 1 else 0) := ho
        have hcr := cnO_le r
        refine Ev.let_ fun N3 e3 => ?_
        rw [h26, nI_pred] at e3
        have h3 : RX M0 T r o w N3 := by rw [e3]; exact h.m22 (by omega) (if_pos rfl) (by rw [if_neg (by decide)]; exact h.2.1) h.2.2.2.1.2
        have h38 : N3 38 0 = N 38 0 := by rw [e3, mst_n (by simp)]
        have k3 : KP4 N N3 := fun x _ hx => by rw [e3, mst_s]; have : ¬ x = 26 := by omega
                                               simp only [upd, if_neg this]
        rw [h3.1, nI_clamp (show r.length < 2 ^ 31 by omega), h38, h.2.2.2.1.1]
        refine Ev.gd (inb_nI (by omega) (by decide)) (Ev.letv ?_)
        have go : ∀ z : Nat, z = (if s = 13 ∨ s = 19 then 1 else 0) → Ev (fX11_unwinds_J67 (fX11_unwinds_L0 (nI t) n) (nI t) (nI s) (nI z) (N3 22 0 27) N3) (fun _ N' => RX M0 T (unw t r (if s = 13 ∨ s = 19 then o - 1 else o) (w ++ [s])).1 (unw t r (if s = 13 ∨ s = 19 then o - 1 else o) (w ++ [s])).2.1 (unw t r (if s = 13 ∨ s = 19 then o - 1 else o) (w ++ [s])).2.2 N' ∧ KP4 N N') := by
          intro z hz
          unfold fX11_unwinds_J67
          refine Ev.let_ fun N5 e5 => ?_
          have ez : o - z = (if s = 13 ∨ s = 19 then o - 1 else o) := by rw [hz]; split <;> rfl
          have hzo : z ≤ o := by
            rw [hz, ho']
            by_cases y : s = 13 ∨ s = 19
            · rw [if_pos y, if_pos (Or.inr y)]; omega
            · rw [if_neg y]; omega
          rw [h3.2.1, pk_sub hzo, ez] at e5
          have h5 : RX M0 T r (if s = 13 ∨ s = 19 then o - 1 else o) w N5 := by rw [e5]; exact h3.m22 (by omega) (by rw [if_neg (by decide)]; exact h3.1) (if_pos rfl) h3.2.2.2.1
          have k5 : KP4 N3 N5 := fun x _ hx => by rw [e5, mst_s]; have : ¬ x = 27 := by omega
                                                  simp only [upd, if_neg this]
          refine Ev.bind (puts_ev hT hT0 h5 (by omega)) (fun _ N7 q7 => ?_)
          refine (ih n _ (w ++ [s]) N7 (by omega) q7.1 ?_ (fun x hx => h20 x (List.mem_cons_of_mem _ hx)) (by rw [List.length_append]; show r.length + (w.length + 1) ≤ 199; omega)).mono (fun _ N8 q8 => ⟨q8.1, ((k3.tr k5).tr q7.2).tr q8.2⟩)
          by_cases y : s = 13 ∨ s = 19
          · rw [if_pos y]; rw [if_pos (Or.inr y)] at ho'; omega
          · rw [if_neg y]; rw [if_neg (fun z => z.elim hc y)] at ho'; omega
        have i13 : nI s = 13 ↔ s = 13 := ⟨fun z => nI_inj32 (a := s) (b := 13) (by omega) (by omega) z, fun z => by rw [z]; rfl⟩
        have i19 : nI s = 19 ↔ s = 19 := ⟨fun z => nI_inj32 (a := s) (b := 19) (by omega) (by omega) z, fun z => by rw [z]; rfl⟩
        by_cases y13 : s = 13
        · rw [if_pos (i13.mpr y13)]
          exact go 1 (by rw [if_pos (Or.inl y13)])
        · rw [if_neg (fun z => y13 (i13.mp z))]
          by_cases y19 : s = 19
          · rw [if_pos (i19.mpr y19)]
            exact go 1 (by rw [if_pos (Or.inr y19)])
          · rw [if_neg (fun z => y19 (i19.mp z))]
            exact go 0 (by rw [if_neg (by omega)])
end ER
