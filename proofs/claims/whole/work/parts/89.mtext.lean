/-! the reference's text -/
section MX
def O4s : Nat → Nat → Prop := fun K i => (K = 22 ∨ K = 38 ∨ K = 29 ∨ K = 30) ∧ i = 0
/-- what the reference's reading of a text leaves alone -/
def OT (T : Nat) (N N' : Mem) : Prop := Off O4s N N' ∧ (∀ x, x = 0 ∨ x = 6 ∨ x = 12 ∨ x = 13 → N' 22 0 x = N 22 0 x) ∧ (∀ y, y < 200 * T → N' 29 0 y = N 29 0 y) ∧ ∀ y, y < 4 * T → N' 30 0 y = N 30 0 y
theorem OT.rf {T : Nat} {N : Mem} : OT T N N := ⟨Off.rf, fun _ _ => rfl, fun _ _ => rfl, fun _ _ => rfl⟩
theorem OT.tr {T : Nat} {a c d : Mem} (h : OT T a c) (h2 : OT T c d) : OT T a d := ⟨h.1.tr h2.1, fun x hx => (h2.2.1 x hx).trans (h.2.1 x hx), fun x hx => (h2.2.2.1 x hx).trans (h.2.2.1 x hx), fun x hx => (h2.2.2.2 x hx).trans (h.2.2.2 x hx)⟩
theorem OT.m22 {T : Nat} {a c : Mem} {x : Nat} {v : Int32} (h : OT T a c) (hx : ¬ (x = 0 ∨ x = 6 ∨ x = 12 ∨ x = 13)) : OT T a (mst c 22 0 x v) := ⟨h.1.mst ⟨Or.inl rfl, rfl⟩, fun y hy => by rw [mst22, if_neg (by omega)]; exact h.2.1 y hy, fun y hy => by rw [mst_n (by simp)]; exact h.2.2.1 y hy, fun y hy => by rw [mst_n (by simp)]; exact h.2.2.2 y hy⟩
theorem OT.m30 {T : Nat} {a c : Mem} {x : Nat} {v : Int32} (h : OT T a c) (hx : 4 * T ≤ x) : OT T a (mst c 30 0 x v) := ⟨h.1.mst ⟨Or.inr (Or.inr (Or.inr rfl)), rfl⟩, fun y hy => by rw [mst_n (by simp)]; exact h.2.1 y hy, fun y hy => by rw [mst_n (by simp)]; exact h.2.2.1 y hy, fun y hy => by
  rw [mst_s]
  have : ¬ y = x := by omega
  simp only [upd, if_neg this]
  exact h.2.2.2 y hy⟩
theorem OT.rfm {T : Nat} {a c : Mem} (h : RF a T c) : OT T a c := ⟨h.1.mono (fun K i q => ⟨by rcases q.1 with z | z | z; exact Or.inl z; exact Or.inr (Or.inl z); exact Or.inr (Or.inr (Or.inl z)), q.2⟩), fun x hx => h.2.1 x (by omega), h.2.2, fun y _ => by rw [h.1 30 0 (by simp)]⟩
theorem OT.q4 {T : Nat} {a c : Mem} (h1 : Off (fun K i => K = 22 ∧ i = 0) a c) (h2 : ∀ x, ¬ (20 ≤ x ∧ x < 24) → c 22 0 x = a 22 0 x) : OT T a c := ⟨h1.mono (fun K i q => ⟨Or.inl q.1, q.2⟩), fun x hx => h2 x (by omega), fun y _ => by rw [h1 29 0 (by simp)], fun y _ => by rw [h1 30 0 (by simp)]⟩
/-- before a token of a text is read -/
def YX (b : Nat → Int32) (n T i : Nat) (w : List Nat) (N : Mem) : Prop := RT b n N ∧ N 22 0 11 = nI T ∧ N 22 0 20 = nI (posT b n i) ∧ N 22 0 28 = nI w.length ∧ ∀ x, x < w.length → N 29 0 (200 * T + x) = nI (w.getD x 0)
theorem e_ev {b : Nat → Int32} {n : Nat} (hn : n ≤ 160) {T i : Nat} (hT : T < 6) {w : List Nat} {N : Mem} (h : YX b n T i w N) (hw : w.length ≤ i) (hi : i ≤ 160) {k : Nat} {res : MR} (hs : syN (tkT b n) k (i, [], 0, w, true, true) = some res) : Ev (fX11_eRead N) (ERes N T (stT b n) (nxT b n) res) := by
  obtain ⟨h1, h2, h3, h4, h5⟩ := h
  unfold fX11_eRead
  refine Ev.let_ fun N1 e1 => Ev.let_ fun N2 e2 => ?_
  have a : ∀ x, ¬ x = 26 → ¬ x = 27 → N2 22 0 x = N 22 0 x := fun x p q => by rw [e2, e1, mst22, if_neg q, mst22, if_neg p]
  have a26 : N2 22 0 26 = 0 := by rw [e2, e1, mst22, if_neg (by decide), mst22, if_pos rfl]
  have a27 : N2 22 0 27 = 0 := by rw [e2, mst22, if_pos rfl]
  have o : Off (fun K i => (K = 22 ∨ K = 38 ∨ K = 29) ∧ i = 0) N N2 := by rw [e2, e1]; exact (Off.rf.mst (by simp)).mst (by simp)
  have o29 : N2 29 0 = N 29 0 := by rw [e2, e1, mst_n (by simp), mst_n (by simp)]
  have hX : RX N T [] 0 w N2 := ⟨a26, a27, (a 28 (by decide) (by decide)).trans h4, trivial, fun x hx => by rw [o29]; exact h5 x hx, o, fun x hx => a x (by omega) (by omega), fun y _ => by rw [o29]⟩
  exact eRead_ev (radv hn h1) (tkT_ok b n) (tkT_160 b hn) hT h2 k FU i [] 0 w true true res N2 (by show 161 ≤ i + 2000; omega) hs hX ((a 20 (by decide) (by decide)).trans (by rw [psN_T]; exact h3)) rfl (fun s hs => absurd hs (by simp)) (by simp; exact hw) hi
theorem j122_f {T : Nat} (hT : T < 6) {N0 N : Mem} {z : Int32} (h11 : N 22 0 11 = nI T) (h21 : N 22 0 21 = z) (hO : OT T N0 N) : Ev (fX11_text_J122 0 N) (fun r N' => r = (-100) - z ∧ OT T N0 N' ∧ N' 22 0 11 = nI T ∧ N' 22 0 8 = 0) := by
  unfold fX11_text_J122
  rw [h11, show (4 : Int32) = nI 4 from rfl, nI_mulB, show (3 : Int32) = nI 3 from rfl, nI_add, nI_clamp (show 4 * T + 3 < 2 ^ 31 by omega)]
  refine Ev.gd (inb_nI (by omega) (by decide)) (Ev.let_ fun N3 e3 => Ev.let_ fun N4 e4 => ?_)
  rw [if_pos rfl]
  refine Ev.ret ⟨?_, ?_, ?_, ?_⟩
  · rw [e4, e3, mst22, if_neg (by decide), mst_n (by simp), h21]
  · rw [e4, e3]; exact (hO.m30 (by omega)).m22 (by decide)
  · rw [e4, e3, mst22, if_neg (by decide), mst_n (by simp), h11]
  · rw [e4, mst22, if_pos rfl]
theorem l26_0 (m : Nat) (v : Int32) (N : Mem) : fX11_text_L26 (m + 1) 0 v N = fX11_text_J122 0 N := by
  show fX11_text_B26 (fX11_text_L26 m) 0 v N = _
  unfold fX11_text_B26 fX11_text_J101
  rw [if_pos rfl, if_pos rfl]
  split <;> rfl
theorem mtok {b : Nat → Int32} {n : Nat} (hn : n ≤ 160) {T i : Nat} {w : List Nat} {N : Mem} (h : YX b n T i w N) : Ev (fX11_next N) (fun _ N' => YX b n T (i + 1) w N' ∧ N' 22 0 21 = nI (stT b n i) ∧ N' 22 0 22 = rTk (tkT b n i).1 ∧ ((tkT b n i).1 = 4 → N' 22 0 23 = nI (tkT b n i).2) ∧ OT T N N' ∧ N' 30 0 = N 30 0) := by
  obtain ⟨h1, h2, h3, h4, h5⟩ := h
  refine (radv hn h1 i N (by rw [psN_T]; exact h3) rfl rfl rfl).mono (fun _ N' q => ?_)
  obtain ⟨q1, q2, q3, q4, q5, q6⟩ := q
  exact ⟨⟨h1.q4 ⟨q5, q6⟩, (q6 11 (by omega)).trans h2, q1, (q6 28 (by omega)).trans h4, fun x hx => by rw [q5 29 0 (by simp)]; exact h5 x hx⟩, q2, q3, fun z => q4 (Or.inr (Or.inr z)), OT.q4 q5 q6, q5 30 0 (by simp)⟩
theorem pf_ev {b : Nat → Int32} {n : Nat} (hn : n ≤ 160) {T : Nat} (hT : T < 6) : ∀ k q, q + k = 3 → ∀ m, k + 1 < m → ∀ i w e N, YX b n T i w N → i ≤ 160 → PF (tkT b n) k i w e → Ev (fX11_text_L26 m 1 (nI q) N) (fun r N' => r = (-100) - nI (stT b n e) ∧ OT T N N' ∧ N' 22 0 11 = nI T ∧ N' 22 0 8 = 0) := by
  intro k
  induction k with
  | zero =>
    intro q hq m hm i w e N hX hi hP
    obtain ⟨m, rfl⟩ : ∃ m', m = m' + 1 := ⟨m - 1, by omega⟩
    have h3 : q = 3 := by omega
    subst h3
    obtain ⟨hk, rfl⟩ := hP
    show Ev (fX11_text_B26 (fX11_text_L26 m) 1 (nI 3) N) _
    unfold fX11_text_B26 fX11_text_J101
    rw [if_pos (by decide), if_neg (by decide)]
    refine Ev.bind (mtok hn hX) (fun _ N7 q7 => ?_)
    obtain ⟨q1, q2, q3, q4, q5, q6⟩ := q7
    rw [q3, if_neg (fun z => hk ((rTk_is2 _ (tkT_ok b n e).1).2.mp z))]
    exact j122_f hT q1.2.1 q2 q5
  | succ k ih =>
    intro q hq m hm i w e N hX hi hP
    obtain ⟨m, rfl⟩ : ∃ m', m = m' + 1 + 1 := ⟨m - 2, by omega⟩
    have hqk : q = 2 - k := by omega
    show Ev (fX11_text_B26 (fX11_text_L26 (m + 1)) 1 (nI q) N) _
    unfold fX11_text_B26
    rw [if_neg (fun z => by have := (nI_leI (a := 3) (by omega) (by omega)).mp z; omega), if_neg (by decide)]
    refine Ev.bind (mtok hn hX) (fun _ N9 q9 => ?_)
    obtain ⟨q1, q2, q3, q4, q5, q6⟩ := q9
    have T3 := (rTk_is2 _ (tkT_ok b n i).1).1
    rw [q3]
    have ei : (4 : Int32) * N9 22 0 11 + nI q = nI (4 * T + q) := by rw [q1.2.1, show (4 : Int32) = nI 4 from rfl, nI_mulB, nI_add]
    have bad : (¬ ((tkT b n i).1 = 4 ∧ (tkT b n i).2 = 2 - k)) → e = i → Ev (fX11_text_J59 (fX11_text_L26 (m + 1)) (nI q) N9) (fun r N' => r = (-100) - nI (stT b n e) ∧ OT T N N' ∧ N' 22 0 11 = nI T ∧ N' 22 0 8 = 0) := by
      intro _ he
      unfold fX11_text_J59 fX11_text_J60
      rw [ei, nI_clamp (show 4 * T + q < 2 ^ 31 by omega)]
      refine Ev.gd (inb_nI (by omega) (by decide)) (Ev.let_ fun N10 e10 => ?_)
      rw [if_pos rfl, l26_0]
      refine j122_f hT ?_ ?_ ?_
      · rw [e10, mst_n (by simp)]; exact q1.2.1
      · rw [e10, mst_n (by simp), he]; exact q2
      · rw [e10]; exact q5.m30 (by omega)
    have good : ((tkT b n i).1 = 4 ∧ (tkT b n i).2 = 2 - k) → w.length ≤ i → (SyFl (tkT b n) (i + 1, [], 0, w, true, true) e ∨ ∃ j w2, SyOk (tkT b n) (i + 1, [], 0, w, true, true) j w2 ∧ j < 160 ∧ PF (tkT b n) k (j + 1) w2 e) → Ev (fX11_text_J60 (fX11_text_L26 (m + 1)) (nI q) 1 N9) (fun r N' => r = (-100) - nI (stT b n e) ∧ OT T N N' ∧ N' 22 0 11 = nI T ∧ N' 22 0 8 = 0) := by
      intro hk hw hc
      have hi2 : i < 160 := tkT_160 b hn i (by omega)
      unfold fX11_text_J60
      rw [ei, nI_clamp (show 4 * T + q < 2 ^ 31 by omega)]
      refine Ev.gd (inb_nI (by omega) (by decide)) (Ev.let_ fun N10 e10 => ?_)
      rw [if_neg (by decide)]
      have o10 : OT T N N10 := by rw [e10]; exact q5.m30 (by omega)
      have t10 : YX b n T (i + 1) w N10 := by
        have s22 : N10 22 0 = N9 22 0 := by rw [e10, mst_n (by simp)]
        have s29 : N10 29 0 = N9 29 0 := by rw [e10, mst_n (by simp)]
        have s28 : N10 28 0 = N9 28 0 := by rw [e10, mst_n (by simp)]
        have s37 : N10 37 0 = N9 37 0 := by rw [e10, mst_n (by simp)]
        refine ⟨⟨by rw [s22]; exact q1.1.1, by rw [s28]; exact q1.1.2.1, by rw [s37]; exact q1.1.2.2⟩, by rw [s22]; exact q1.2.1, by rw [s22]; exact q1.2.2.1, by rw [s22]; exact q1.2.2.2.1, by rw [s29]; exact q1.2.2.2.2⟩
      clear e10
      rcases hc with hc | ⟨j, w2, hc, hj, hc2⟩
      · refine Ev.bind (e_ev hn hT t10 (by omega) (by omega) (hc.2 0)) (fun r N12 q12 => ?_)
        obtain ⟨u1, u2, u3, u4⟩ := q12
        rw [u1, if_pos (show bt false = 0 from rfl), l26_0]
        exact j122_f hT ((u3.2.1 11 (Or.inl (by omega))).trans t10.2.1) u2 (o10.tr (OT.rfm u3))
      · refine Ev.bind (e_ev hn hT t10 (by omega) (by omega) (hc.2 0)) (fun r N12 q12 => ?_)
        obtain ⟨u1, u2, u3, u4⟩ := q12
        rw [u1, if_neg (show ¬ bt true = 0 by decide), nI_1]
        obtain ⟨v1, v2, v3⟩ := u4 rfl
        have t12 : YX b n T (j + 1) w2 N12 := ⟨⟨(u3.2.1 8 (Or.inl (by omega))).trans t10.1.1, fun x hx => by rw [u3.1 28 0 (by simp)]; exact t10.1.2.1 x hx, fun x hx => by rw [u3.1 37 0 (by simp)]; exact t10.1.2.2 x hx⟩, (u3.2.1 11 (Or.inl (by omega))).trans t10.2.1, v1, v2, v3⟩
        refine (ih (q + 1) (by omega) (m + 1) (by omega) (j + 1) w2 e N12 t12 (by omega) hc2).mono (fun r N' z => ⟨z.1, (o10.tr (OT.rfm u3)).tr z.2.1, z.2.2⟩)
    rcases hP with ⟨hP, he⟩ | ⟨hP, hw, hc⟩
    · by_cases k4 : (tkT b n i).1 = 4
      · rw [if_pos (T3.mpr k4), q4 k4]
        have v3 := (tkT_ok b n i).2.1 k4
        rw [if_neg (fun z => hP ⟨k4, by rw [← hqk]; exact nI_inj32 (by omega) (by omega) z⟩)]
        exact bad hP he
      · rw [if_neg (fun z => k4 (T3.mp z))]
        exact bad hP he
    · rw [if_pos (T3.mpr hP.1), q4 hP.1, hP.2, ← hqk, if_pos rfl]
      exact good hP hw hc
end MX
