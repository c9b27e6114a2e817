/-! the reference's text, read to the end -/
section MY
theorem po_ev {b : Nat → Int32} {n : Nat} (hn : n ≤ 160) {T : Nat} (hT : T < 6) : ∀ k q, q + k = 3 → ∀ m, k + 1 < m → ∀ i w wf L N, YX b n T i w N → i ≤ 160 → PO (tkT b n) k i w wf L → Ev (fX11_text_L26 m 1 (nI q) N) (fun r N' => r = nI T ∧ OT T N N' ∧ N' 22 0 11 = nI (T + 1) ∧ N' 22 0 8 = 0 ∧ (∀ x, x < wf.length → N' 29 0 (200 * T + x) = nI (wf.getD x 0)) ∧ (∀ x, x ≤ k → N' 30 0 (4 * T + (q + x)) = nI (L.getD x 0)) ∧ ∀ y, y < 4 * T + q → N' 30 0 y = N 30 0 y) := by
  intro k
  induction k with
  | zero =>
    intro q hq m hm i w wf L N hX hi hP
    obtain ⟨m, rfl⟩ : ∃ m', m = m' + 1 := ⟨m - 1, by omega⟩
    have h3 : q = 3 := by omega
    subst h3
    obtain ⟨hk, rfl, rfl⟩ := hP
    show Ev (fX11_text_B26 (fX11_text_L26 m) 1 (nI 3) N) _
    unfold fX11_text_B26 fX11_text_J101
    rw [if_pos (by decide), if_neg (by decide)]
    refine Ev.bind (mtok hn hX) (fun _ N7 q7 => ?_)
    obtain ⟨q1, q2, q3, q4, q5, q6⟩ := q7
    rw [q3, if_pos ((rTk_is2 _ (tkT_ok b n i).1).2.mpr hk)]
    unfold fX11_text_J121 fX11_text_J122
    rw [q1.2.1, show (4 : Int32) = nI 4 from rfl, nI_mulB, show (3 : Int32) = nI 3 from rfl, nI_add, nI_clamp (show 4 * T + 3 < 2 ^ 31 by omega), q1.2.2.2.1]
    refine Ev.gd (inb_nI (by omega) (by decide)) (Ev.let_ fun N3 e3 => Ev.let_ fun N4 e4 => ?_)
    have f11 : N4 22 0 11 = nI T := by rw [e4, e3, mst22, if_neg (by decide), mst_n (by simp)]; exact q1.2.1
    rw [if_neg (by decide), f11, nI_1]
    refine Ev.let_ fun N5 e5 => Ev.ret ?_
    have g11 : N5 22 0 11 = nI (T + 1) := by rw [e5, mst22, if_pos rfl]
    have g29 : N5 29 0 = N7 29 0 := by rw [e5, e4, e3, mst_n (by simp), mst_n (by simp), mst_n (by simp)]
    have g30 : N5 30 0 = upd (N7 30 0) (4 * T + 3) (nI wf.length) := by rw [e5, e4, e3, mst_n (by simp), mst_n (by simp), mst_s]
    refine ⟨by rw [g11, nI_pred], ?_, g11, ?_, fun x hx => by rw [g29]; exact q1.2.2.2.2 x hx, fun x hx => ?_, fun y hy => ?_⟩
    · rw [e5, e4, e3]
      exact ((q5.m30 (by omega)).m22 (by decide)).m22 (by decide)
    · rw [e5, e4, mst22, if_neg (by decide), mst22, if_pos rfl]
    · have : x = 0 := by omega
      subst this
      rw [g30]
      simp [upd]
    · rw [g30]
      have : ¬ y = 4 * T + 3 := by omega
      simp only [upd, if_neg this]
      rw [q6]
  | succ k ih =>
    intro q hq m hm i w wf L N hX hi hP
    obtain ⟨m, rfl⟩ : ∃ m', m = m' + 1 + 1 := ⟨m - 2, by omega⟩
    have hqk : q = 2 - k := by omega
    obtain ⟨hP, hw, j, cs, L2, hok, hj, hD, hPO, rfl⟩ := hP
    have hi2 : i < 160 := tkT_160 b hn i (by omega)
    have T3 := (rTk_is2 _ (tkT_ok b n i).1).1
    show Ev (fX11_text_B26 (fX11_text_L26 (m + 1)) 1 (nI q) N) _
    unfold fX11_text_B26
    rw [if_neg (fun z => by have := (nI_leI (a := 3) (by omega) (by omega)).mp z; omega), if_neg (by decide)]
    refine Ev.bind (mtok hn hX) (fun _ N9 q9 => ?_)
    obtain ⟨q1, q2, q3, q4, q5, q6⟩ := q9
    have ei : (4 : Int32) * N9 22 0 11 + nI q = nI (4 * T + q) := by rw [q1.2.1, show (4 : Int32) = nI 4 from rfl, nI_mulB, nI_add]
    rw [q3, if_pos (T3.mpr hP.1), q4 hP.1, hP.2, ← hqk, if_pos rfl]
    unfold fX11_text_J60
    rw [ei, nI_clamp (show 4 * T + q < 2 ^ 31 by omega), q1.2.2.2.1]
    refine Ev.gd (inb_nI (by omega) (by decide)) (Ev.let_ fun N10 e10 => ?_)
    rw [if_neg (by decide)]
    have o10 : OT T N N10 := by rw [e10]; exact q5.m30 (by omega)
    have s30 : N10 30 0 = upd (N 30 0) (4 * T + q) (nI w.length) := by rw [e10, mst_s, q6]
    have t10 : YX b n T (i + 1) w N10 := by
      have s22 : N10 22 0 = N9 22 0 := by rw [e10, mst_n (by simp)]
      have s29 : N10 29 0 = N9 29 0 := by rw [e10, mst_n (by simp)]
      have s28 : N10 28 0 = N9 28 0 := by rw [e10, mst_n (by simp)]
      have s37 : N10 37 0 = N9 37 0 := by rw [e10, mst_n (by simp)]
      refine ⟨⟨by rw [s22]; exact q1.1.1, by rw [s28]; exact q1.1.2.1, by rw [s37]; exact q1.1.2.2⟩, by rw [s22]; exact q1.2.1, by rw [s22]; exact q1.2.2.1, by rw [s22]; exact q1.2.2.2.1, by rw [s29]; exact q1.2.2.2.2⟩
    clear e10
    refine Ev.bind (e_ev hn hT t10 (by omega) (by omega) (hok.2 0)) (fun r N12 q12 => ?_)
    obtain ⟨u1, u2, u3, u4⟩ := q12
    rw [u1, if_neg (show ¬ bt true = 0 by decide), nI_1]
    obtain ⟨v1, v2, v3⟩ := u4 rfl
    have u30 : N12 30 0 = N10 30 0 := u3.1 30 0 (by simp)
    have t12 : YX b n T (j + 1) (w ++ cs) N12 := ⟨⟨(u3.2.1 8 (Or.inl (by omega))).trans t10.1.1, fun x hx => by rw [u3.1 28 0 (by simp)]; exact t10.1.2.1 x hx, fun x hx => by rw [u3.1 37 0 (by simp)]; exact t10.1.2.2 x hx⟩, (u3.2.1 11 (Or.inl (by omega))).trans t10.2.1, v1, v2, v3⟩
    refine (ih (q + 1) (by omega) (m + 1) (by omega) (j + 1) (w ++ cs) wf L2 N12 t12 (by omega) hPO).mono (fun r N' z => ?_)
    obtain ⟨z1, z2, z3, z4, z5, z6, z7⟩ := z
    refine ⟨z1, (o10.tr (OT.rfm u3)).tr z2, z3, z4, z5, fun x hx => ?_, fun y hy => ?_⟩
    · cases x with
      | zero =>
        show N' 30 0 (4 * T + q) = nI w.length
        rw [z7 _ (by omega), u30, s30]
        simp [upd]
      | succ x =>
        show N' 30 0 (4 * T + (q + (x + 1))) = nI (L2.getD x 0)
        rw [← z6 x (by omega)]
        congr 1
        omega
    · rw [z7 y (by omega), u30, s30]
      have : ¬ y = 4 * T + q := by omega
      simp only [upd, if_neg this]
end MY
