/-! the class's readers against the machine -/
section RE
def cTk (k v : Nat) : Int32 := if k = 4 then nI (4 + v) else if k ≤ 3 then nI k else if k = 5 then 7 else if k = 6 then 8 else if k = 7 then 9 else if k = 8 then 40 else if k = 9 then 41 else if k = 10 then 59 else if k = 11 then 43 else if k = 12 then 45 else if k = 13 then 42 else if k = 14 then 60 else 61
def kOK (x : Nat × Nat) : Prop := x.1 < 16 ∧ (x.1 = 4 → x.2 < 3) ∧ (x.1 = 2 → x.2 < 10000) ∧ (x.1 = 3 → x.2 < 6)
def CX (tk : Tk) (st nx : Nat → Nat) (M0 : Mem) (i : Nat) (cs : List Nat) (N : Mem) : Prop := N 1 0 5 = cTk (tk i).1 (tk i).2 ∧ ((tk i).1 = 2 ∨ (tk i).1 = 3 → N 1 0 6 = nI (tk i).2) ∧ N 1 0 7 = nI (st i) ∧ N 1 0 8 = nI (nx i) ∧ N 1 0 4 = nI cs.length ∧ (∀ x, x < cs.length → N 3 0 x = encC (nI (cs.getD x 0))) ∧ N 1 0 3 = M0 1 0 3 ∧ Off (fun K i => (K = 1 ∨ K = 3) ∧ i = 0) M0 N
def FE (st : Nat → Nat) (M0 : Mem) (e : Nat) (N : Mem) : Prop := N 1 0 7 = nI (st e) ∧ N 1 0 3 = M0 1 0 3 ∧ Off (fun K i => (K = 1 ∨ K = 3) ∧ i = 0) M0 N
theorem CX.fe {tk : Tk} {st nx : Nat → Nat} {M0 : Mem} {i : Nat} {cs : List Nat} {N : Mem} (h : CX tk st nx M0 i cs N) : FE st M0 i N := ⟨h.2.2.1, h.2.2.2.2.2.2.1, h.2.2.2.2.2.2.2⟩
theorem cTk_t0 : ∀ k, k < 16 → ∀ v, v < 3 → (cTk k v = 0 ↔ k = 0) := by decide +kernel
theorem cTk_t1 : ∀ k, k < 16 → ∀ v, v < 3 → (cTk k v = 2 ↔ k = 2) := by decide +kernel
theorem cTk_t2 : ∀ k, k < 16 → ∀ v, v < 3 → (cTk k v = 3 ↔ k = 3) := by decide +kernel
theorem cTk_t3 : ∀ k, k < 16 → ∀ v, v < 3 → (cTk k v = 7 ↔ k = 5) := by decide +kernel
theorem cTk_t4 : ∀ k, k < 16 → ∀ v, v < 3 → (cTk k v = 8 ↔ k = 6) := by decide +kernel
theorem cTk_t5 : ∀ k, k < 16 → ∀ v, v < 3 → (cTk k v = 9 ↔ k = 7) := by decide +kernel
theorem cTk_t6 : ∀ k, k < 16 → ∀ v, v < 3 → (cTk k v = 40 ↔ k = 8) := by decide +kernel
theorem cTk_t7 : ∀ k, k < 16 → ∀ v, v < 3 → (cTk k v = 41 ↔ k = 9) := by decide +kernel
theorem cTk_t8 : ∀ k, k < 16 → ∀ v, v < 3 → (cTk k v = 59 ↔ k = 10) := by decide +kernel
theorem cTk_t9 : ∀ k, k < 16 → ∀ v, v < 3 → (cTk k v = 43 ↔ k = 11) := by decide +kernel
theorem cTk_t10 : ∀ k, k < 16 → ∀ v, v < 3 → (cTk k v = 45 ↔ k = 12) := by decide +kernel
theorem cTk_t11 : ∀ k, k < 16 → ∀ v, v < 3 → (cTk k v = 42 ↔ k = 13) := by decide +kernel
theorem cTk_t12 : ∀ k, k < 16 → ∀ v, v < 3 → (cTk k v = 60 ↔ k = 14) := by decide +kernel
theorem cTk_t13 : ∀ k, k < 16 → ∀ v, v < 3 → (cTk k v = 61 ↔ k = 15) := by decide +kernel
theorem cTk_t14 : ∀ k, k < 16 → ∀ v, v < 3 → (∀ p, p < 3 → (cTk k v = nI (4 + p) ↔ k = 4 ∧ v = p)) := by decide +kernel
theorem cTk_tab : ∀ k, k < 16 → ∀ v, v < 3 → (cTk k v = 0 ↔ k = 0) ∧ (cTk k v = 2 ↔ k = 2) ∧ (cTk k v = 3 ↔ k = 3) ∧ (cTk k v = 7 ↔ k = 5) ∧ (cTk k v = 8 ↔ k = 6) ∧ (cTk k v = 9 ↔ k = 7) ∧ (cTk k v = 40 ↔ k = 8) ∧ (cTk k v = 41 ↔ k = 9) ∧ (cTk k v = 59 ↔ k = 10) ∧ (cTk k v = 43 ↔ k = 11) ∧ (cTk k v = 45 ↔ k = 12) ∧ (cTk k v = 42 ↔ k = 13) ∧ (cTk k v = 60 ↔ k = 14) ∧ (cTk k v = 61 ↔ k = 15) ∧ (∀ p, p < 3 → (cTk k v = nI (4 + p) ↔ k = 4 ∧ v = p)) := fun k hk v hv => ⟨cTk_t0 k hk v hv, cTk_t1 k hk v hv, cTk_t2 k hk v hv, cTk_t3 k hk v hv, cTk_t4 k hk v hv, cTk_t5 k hk v hv, cTk_t6 k hk v hv, cTk_t7 k hk v hv, cTk_t8 k hk v hv, cTk_t9 k hk v hv, cTk_t10 k hk v hv, cTk_t11 k hk v hv, cTk_t12 k hk v hv, cTk_t13 k hk v hv, cTk_t14 k hk v hv⟩
theorem cTk_v {k v : Nat} (h : ¬ k = 4) : cTk k v = cTk k 0 := by
  unfold cTk
  rw [if_neg h, if_neg h]
theorem cTk_is {x : Nat × Nat} (h : kOK x) : (cTk x.1 x.2 = 0 ↔ x.1 = 0) ∧ (cTk x.1 x.2 = 2 ↔ x.1 = 2) ∧ (cTk x.1 x.2 = 3 ↔ x.1 = 3) ∧ (cTk x.1 x.2 = 7 ↔ x.1 = 5) ∧ (cTk x.1 x.2 = 8 ↔ x.1 = 6) ∧ (cTk x.1 x.2 = 9 ↔ x.1 = 7) ∧ (cTk x.1 x.2 = 40 ↔ x.1 = 8) ∧ (cTk x.1 x.2 = 41 ↔ x.1 = 9) ∧ (cTk x.1 x.2 = 59 ↔ x.1 = 10) ∧ (cTk x.1 x.2 = 43 ↔ x.1 = 11) ∧ (cTk x.1 x.2 = 45 ↔ x.1 = 12) ∧ (cTk x.1 x.2 = 42 ↔ x.1 = 13) ∧ (cTk x.1 x.2 = 60 ↔ x.1 = 14) ∧ (cTk x.1 x.2 = 61 ↔ x.1 = 15) ∧ (∀ p, p < 3 → (cTk x.1 x.2 = nI (4 + p) ↔ x.1 = 4 ∧ x.2 = p)) := by
  obtain ⟨k, v⟩ := x
  by_cases e : k = 4
  · exact cTk_tab k h.1 v (h.2.1 e)
  · have := cTk_tab k h.1 0 (by omega)
    show _ ∧ _
    simp only [cTk_v (v := v) e]
    refine ⟨this.1, this.2.1, this.2.2.1, this.2.2.2.1, this.2.2.2.2.1, this.2.2.2.2.2.1, this.2.2.2.2.2.2.1, this.2.2.2.2.2.2.2.1, this.2.2.2.2.2.2.2.2.1, this.2.2.2.2.2.2.2.2.2.1, this.2.2.2.2.2.2.2.2.2.2.1, this.2.2.2.2.2.2.2.2.2.2.2.1, this.2.2.2.2.2.2.2.2.2.2.2.2.1, this.2.2.2.2.2.2.2.2.2.2.2.2.2.1, fun p hp => ?_⟩
    have t := this.2.2.2.2.2.2.2.2.2.2.2.2.2.2 p hp
    constructor
    · intro q; exact absurd (t.mp q).1 e
    · rintro ⟨q, _⟩; exact absurd q e
theorem getD_app {a : List Nat} {g x : Nat} (h : x < (a ++ [g]).length) : (a ++ [g]).getD x 0 = if x = a.length then g else a.getD x 0 := by
  rw [List.length_append] at h
  have h' : x < a.length + 1 := h
  by_cases e : x = a.length
  · subst e
    rw [if_pos rfl, List.getD_eq_getElem?_getD, List.getElem?_append_right (Nat.le_refl _), Nat.sub_self]
    rfl
  · rw [if_neg e, List.getD_eq_getElem?_getD, List.getElem?_append_left (by omega), List.getD_eq_getElem?_getD]
theorem emit_ev {tk : Tk} {st nx : Nat → Nat} {M0 : Mem} {i g : Nat} {cs : List Nat} {N : Mem} {z : Int32} (h : CX tk st nx M0 i cs N) (hl : cs.length < 160) (hz : z = encC (nI g)) : Ev (fX4_emit z N) (fun _ N2 => CX tk st nx M0 i (cs ++ [g]) N2) := by
  obtain ⟨h1, h2, h3, h4, h5, h6, h7, h8⟩ := h
  unfold fX4_emit
  rw [h5, if_neg (fun q => by have := (nI_leI (a := 160) (by omega) (by omega)).mp q; omega)]
  refine Ev.gd (inb_nI hl (by decide)) (Ev.let_ fun N1 e1 => Ev.let_ fun N2 e2 => Ev.ret ?_)
  rw [nI_clamp (show cs.length < 2 ^ 31 by omega)] at e1
  have f1 : N1 1 0 = N 1 0 := by rw [e1, mst_n (by simp)]
  rw [f1, h5, nI_1] at e2
  have g1 : N2 1 0 = upd (N 1 0) 4 (nI (cs.length + 1)) := by rw [e2, mst_s, f1]
  have g3 : N2 3 0 = upd (N 3 0) cs.length z := by rw [e2, mst_n (by simp), e1, mst_s]
  have s : ∀ y, y ≠ 4 → N2 1 0 y = N 1 0 y := fun y hy => by rw [g1]; simp only [upd, if_neg hy]
  refine ⟨by rw [s 5 (by decide)]; exact h1, fun q => by rw [s 6 (by decide)]; exact h2 q, by rw [s 7 (by decide)]; exact h3, by rw [s 8 (by decide)]; exact h4, by rw [g1, List.length_append]; simp [upd], fun x hx => ?_, by rw [s 3 (by decide)]; exact h7, by rw [e2, e1]; exact (h8.mst (by simp)).mst (by simp)⟩
  rw [getD_app hx, g3]
  by_cases e : x = cs.length
  · subst e
    rw [if_pos rfl, hz]
    simp [upd]
  · rw [if_neg e]
    simp only [upd, if_neg e]
    refine h6 x ?_
    rw [List.length_append] at hx
    have : x < cs.length + 1 := hx
    omega
/-- what a reader comes to -/
def XR (tk : Tk) (st nx : Nat → Nat) (M0 : Mem) (ls lP nd : Nat) (dc : Nat → List Nat → Prop) (mc : Nat → Bool → Prop) (i o : Nat) (c0 : List Nat) (r : Int32) (N : Mem) : Prop :=
  (r = 0 ∧ ∃ e, FE st M0 e N ∧ ∀ S w mN, lwSt ls S → mc i mN → SyFl tk (i, S, o, w, true, mN) e) ∨
  (r = 1 ∧ ∃ j cs P o1, i < j ∧ j ≤ 160 ∧ CX tk st nx M0 j (c0 ++ cs) N ∧ cs.length ≤ j - i ∧ cs = o1 ++ P ∧ (∀ s ∈ P, lP ≤ rkN s) ∧ dc (tk j).1 P ∧ okD nd cs ∧ ∀ S w mN, lwSt ls S → mc i mN → ∃ mN', SyTo tk (i, S, o, w, true, mN) (j, P ++ S, o + nn P, w ++ o1, false, mN'))
def Adv (tk : Tk) (st nx : Nat → Nat) (M0 : Mem) : Prop := (∀ i cs N, CX tk st nx M0 i cs N → Ev (fX4_advance N) (fun _ N' => CX tk st nx M0 (i + 1) cs N')) ∧ (∀ i, kOK (tk i)) ∧ ∀ i, (tk i).1 ≠ 0 → i < 160
def isBin (g : Nat) : Prop := g = 11 ∨ g = 12 ∨ g = 14 ∨ g = 15 ∨ g = 16 ∨ g = 17 ∨ g = 18
theorem loopX {tk : Tk} {st nx : Nat → Nat} {M0 : Mem} (hA : Adv tk st nx M0) {rec1 : Mem → Option (Int32 × Mem)} {L : Nat → Int32 → Mem → Option (Int32 × Mem)} {isOp : Nat → Prop} {r lsY lPY nd i o : Nat} {dcY : Nat → List Nat → Prop} {mcX mcY : Nat → Bool → Prop} {c0 : List Nat}
    (hop : ∀ k, isOp k → rkN (sgn k) = r ∧ isBin (sgn k) ∧ k ≠ 0) (hr4 : ¬ r = 4) (hrY : r ≤ lPY) (hrs : r < lsY) (hmc : ∀ k, isOp k → ∀ i, mcY i (decide (sgn k ≤ 12))) (hdm : ∀ k P Q, dcY k P → dcY k (P ++ Q))
    (hL : ∀ m x N j cs, CX tk st nx M0 j cs N → x < 160 → (isOp (tk j).1 ∧ L (m + 1) (nI x) N = ob (fX4_advance N) fun _ N1 => ob (rec1 N1) fun q N2 => if q = 0 then some (0, N2) else ob (fX4_emit (encC (nI (sgn (tk j).1))) N2) fun _ N3 => L m (nI x + 1) N3) ∨ (¬ isOp (tk j).1 ∧ L (m + 1) (nI x) N = some (1, N)))
    (hrec : ∀ i' c0' N, CX tk st nx M0 i' c0' N → c0'.length ≤ i' → Ev (rec1 N) (XR tk st nx M0 lsY lPY nd dcY mcY i' o c0')) (hc0 : c0.length ≤ i) :
    ∀ m x j cs P o1 N, 161 ≤ x + m → x < j → j ≤ 160 → i < j → CX tk st nx M0 j (c0 ++ cs) N → cs.length ≤ j - i → cs = o1 ++ P → (∀ s ∈ P, r ≤ rkN s) → dcY (tk j).1 P → okD (nd + 1) cs → (∀ S w mN, lwSt r S → mcX i mN → ∃ mN', SyTo tk (i, S, o, w, true, mN) (j, P ++ S, o + nn P, w ++ o1, false, mN')) → Ev (L m (nI x) N) (XR tk st nx M0 r r (nd + 1) (fun k P => ¬ isOp k ∧ dcY k P) mcX i o c0) := by
  intro m
  induction m with
  | zero => intro x j cs P o1 N h1 h2 h3; omega
  | succ m ih =>
    intro x j cs P o1 N h1 h2 h3 hij hCX hlen hcs hP hdc hokD hSy
    rcases hL m x N j (c0 ++ cs) hCX (by omega) with ⟨hisop, he⟩ | ⟨hnop, he⟩
    · rw [he]
      obtain ⟨hrk, hbin, hk0⟩ := hop _ hisop
      have hj160 := hA.2.2 j hk0
      have hg0 : ¬ sgn (tk j).1 = 0 := fun q => by rw [q] at hbin; unfold isBin at hbin; omega
      have hnng : nn [sgn (tk j).1] = 0 := by
        show 0 + (if sgn (tk j).1 = 13 ∨ sgn (tk j).1 = 19 then 1 else 0) = 0
        unfold isBin at hbin
        rw [if_neg (by omega)]
      have hl0 : (c0 ++ cs).length ≤ j + 1 := by rw [List.length_append]; omega
      refine Ev.bind (hA.1 j (c0 ++ cs) N hCX) (fun _ N1 q1 => Ev.bind (hrec (j + 1) (c0 ++ cs) N1 q1 hl0) (fun q N2 q2 => ?_))
      have hstep : ∀ S w mN', lwSt r S → SyTo tk (j, P ++ S, o + nn P, w ++ o1, false, mN') (j + 1, sgn (tk j).1 :: S, o, (w ++ o1) ++ P, true, decide (sgn (tk j).1 ≤ 12)) := fun S w mN' hS => bin_to rfl hg0 hrk hr4 hP hS
      have hlow : ∀ S, lwSt lsY (sgn (tk j).1 :: S) := fun S => by show rkN (sgn (tk j).1) < lsY; rw [hrk]; exact hrs
      rcases q2 with ⟨rfl, e, f1, f2⟩ | ⟨rfl, j2, cs2, P2, o2, b1, b2, b3, b4, b5, b6, b7, b8, b9⟩
      · rw [if_pos rfl]
        refine Ev.ret (Or.inl ⟨rfl, e, f1, fun S w mN hS hm => ?_⟩)
        obtain ⟨mN', t⟩ := hSy S w mN hS hm
        exact (t.tr (hstep S w mN' hS)).fl (f2 _ _ _ (hlow S) (hmc _ hisop (j + 1)))
      · rw [if_neg (by decide)]
        have hl2 : ((c0 ++ cs) ++ cs2).length < 160 := by
          rw [List.length_append, List.length_append]
          omega
        refine Ev.bind (emit_ev (g := sgn (tk j).1) b3 hl2 rfl) (fun _ N3 q3 => ?_)
        rw [nI_1]
        have elist : (c0 ++ cs) ++ cs2 ++ [sgn (tk j).1] = c0 ++ (cs ++ cs2 ++ [sgn (tk j).1]) := by simp
        rw [elist] at q3
        refine ih (x + 1) j2 (cs ++ cs2 ++ [sgn (tk j).1]) (P2 ++ [sgn (tk j).1]) (cs ++ o2) N3 (by omega) (by omega) b2 (by omega) q3 ?_ ?_ ?_ (hdm _ _ _ b7) (okD_bin hokD b8 hbin) ?_
        · rw [List.length_append, List.length_append]
          show cs.length + cs2.length + 1 ≤ j2 - i
          omega
        · rw [b5]; simp
        · intro s hs
          rcases List.mem_append.mp hs with hs | hs
          · have := b6 s hs; omega
          · rw [List.mem_singleton.mp hs, hrk]
            exact Nat.le_refl _
        · intro S w mN hS hm
          obtain ⟨mN', t⟩ := hSy S w mN hS hm
          obtain ⟨mN2, t2⟩ := b9 (sgn (tk j).1 :: S) ((w ++ o1) ++ P) (decide (sgn (tk j).1 ≤ 12)) (hlow S) (hmc _ hisop (j + 1))
          refine ⟨mN2, (t.tr (hstep S w mN' hS)).tr ?_⟩
          have e1 : (P2 ++ [sgn (tk j).1]) ++ S = P2 ++ sgn (tk j).1 :: S := by simp
          have e2 : w ++ (cs ++ o2) = ((w ++ o1) ++ P) ++ o2 := by rw [hcs]; simp
          rw [e1, e2, nn_app, hnng, Nat.add_zero]
          exact t2
    · rw [he]
      exact Ev.ret (Or.inr ⟨rfl, j, cs, P, o1, hij, h3, hCX, hlen, hcs, hP, ⟨hnop, hdc⟩, hokD, hSy⟩)
theorem binX {tk : Tk} {st nx : Nat → Nat} {M0 : Mem} (hA : Adv tk st nx M0) {rec1 : Mem → Option (Int32 × Mem)} {L : Nat → Int32 → Mem → Option (Int32 × Mem)} {isOp : Nat → Prop} {r lsY lPY nd i o : Nat} {dcY : Nat → List Nat → Prop} {mcX mcY : Nat → Bool → Prop} {c0 : List Nat} {N : Mem}
    (hop : ∀ k, isOp k → rkN (sgn k) = r ∧ isBin (sgn k) ∧ k ≠ 0) (hr4 : ¬ r = 4) (hrY : r ≤ lPY) (hrs : r < lsY) (hmc : ∀ k, isOp k → ∀ i, mcY i (decide (sgn k ≤ 12))) (hdm : ∀ k P Q, dcY k P → dcY k (P ++ Q)) (hmm : ∀ i mN, mcX i mN → mcY i mN)
    (hL : ∀ m x N j cs, CX tk st nx M0 j cs N → x < 160 → (isOp (tk j).1 ∧ L (m + 1) (nI x) N = ob (fX4_advance N) fun _ N1 => ob (rec1 N1) fun q N2 => if q = 0 then some (0, N2) else ob (fX4_emit (encC (nI (sgn (tk j).1))) N2) fun _ N3 => L m (nI x + 1) N3) ∨ (¬ isOp (tk j).1 ∧ L (m + 1) (nI x) N = some (1, N)))
    (hrec : ∀ i' c0' N, CX tk st nx M0 i' c0' N → c0'.length ≤ i' → Ev (rec1 N) (XR tk st nx M0 lsY lPY nd dcY mcY i' o c0')) (hc0 : c0.length ≤ i) (hCX : CX tk st nx M0 i c0 N) :
    Ev (ob (rec1 N) fun r1 M2 => if r1 = 0 then (some (0, M2)) else (L FU 0 M2)) (XR tk st nx M0 r r (nd + 1) (fun k P => ¬ isOp k ∧ dcY k P) mcX i o c0) := by
  refine Ev.bind (hrec i c0 N hCX hc0) (fun q N2 q2 => ?_)
  rcases q2 with ⟨rfl, e, f1, f2⟩ | ⟨rfl, j2, cs2, P2, o2, b1, b2, b3, b4, b5, b6, b7, b8, b9⟩
  · rw [if_pos rfl]
    exact Ev.ret (Or.inl ⟨rfl, e, f1, fun S w mN hS hm => f2 S w mN (hS.le (by omega)) (hmm i mN hm)⟩)
  · rw [if_neg (by decide)]
    exact loopX hA hop hr4 hrY hrs hmc hdm hL hrec hc0 FU 0 j2 cs2 P2 o2 N2 (by show 161 ≤ 0 + 2000; omega) (by omega) b2 b1 b3 b4 b5 (fun s hs => by have := b6 s hs; omega) b7 (b8.le (by omega)) (fun S w mN hS hm => b9 S w mN (hS.le (by omega)) (hmm i mN hm))
end RE
