/-! feed; the relation when tape and texts change -/
section FE
theorem InX.le {T T' r : Nat} {M : Mem} (h : InX T r M) (hT : T ≤ T') : InX T' r M := ⟨h.1, h.2.1, Nat.lt_of_lt_of_le h.2.2.1 hT, h.2.2.2⟩
theorem InM.le {T T' : Nat} {M : Mem} (h : InM T M) (hT : T ≤ T') : InM T' M := ⟨h.1, h.2.1, Nat.lt_of_lt_of_le h.2.2.1 hT, h.2.2.2⟩
abbrev lastK (K i : Nat) : Prop := K = 13 ∨ K = 14 ∨ ((K = 15 ∨ K = 16) ∧ (i = 0 ∨ i = 2)) ∨ (K = 18 ∧ (i < 4 ∨ 8 ≤ i)) ∨ (i = 0 ∧ (K = 23 ∨ K = 24 ∨ K = 25 ∨ K = 26 ∨ K = 27 ∨ K = 31 ∨ K = 32 ∨ K = 33 ∨ K = 34 ∨ K = 35 ∨ K = 37))
theorem RelT.text {T T' : Nat} {M M' : Mem} (h : RelT T M) (hT : T ≤ T') (hk : ∀ K i, lastK K i → M' K i = M K i) (h07 : M' 0 0 7 = M 0 0 7) (h08 : M' 0 0 8 = nI T') (h22 : ∀ s, s = 0 ∨ s = 6 ∨ s = 12 ∨ s = 13 → M' 22 0 s = M 22 0 s) (h11 : M' 22 0 11 = nI T') (ht : Txt T' M') (htp : TapeR M') : RelT T' M' := by
  obtain ⟨a1, a2, a3, a4, a5, a6, a7, a8, a9, a10, a11⟩ := h
  have k : ∀ {K i : Nat}, lastK K i → M' K i = M K i := fun a => hk _ _ a
  have e15 : M' 15 0 = M 15 0 := k (by simp [lastK])
  have e16 : M' 16 0 = M 16 0 := k (by simp [lastK])
  have e18 : ∀ t, t < 4 → M' 18 (4 * 0 + t) = M 18 (4 * 0 + t) := fun t ht => k (Or.inr (Or.inr (Or.inr (Or.inl ⟨rfl, by omega⟩))))
  have f15 : M' 15 2 = M 15 2 := k (by simp [lastK])
  have f16 : M' 16 2 = M 16 2 := k (by simp [lastK])
  have f18 : ∀ t, t < 4 → M' 18 (4 * 2 + t) = M 18 (4 * 2 + t) := fun t ht => k (Or.inr (Or.inr (Or.inr (Or.inl ⟨rfl, by omega⟩))))
  have eX0 : vwX 0 M' = vwX 0 M := vwX_eq e15 e16 e18
  have eX2 : vwX 2 M' = vwX 2 M := vwX_eq f15 f16 f18
  have eM : vwM M' = vwM M := by
    unfold vwM
    rw [h22 0 (by simp), h22 6 (by simp), h22 12 (by simp), k (show lastK 27 0 by simp [lastK])]
    refine Prod.ext rfl (Prod.ext ?_ rfl)
    funext t p
    have : M' (trK t) 0 = M (trK t) 0 := k (by unfold trK; split <;> simp [lastK])
    simp only [this]
  have hM : InM T M' := by
    obtain ⟨b1, b2, b3, b4, b5⟩ := a5
    exact ⟨by rw [eM, h22 0 (by simp)]; exact b1, by rw [eM, h22 12 (by simp)]; exact b2, by rw [eM]; exact b3, by rw [eM]; exact b4, by rw [eM]; exact b5⟩
  have eI : vwI M' = vwI M := by
    unfold vwI
    rw [k (show lastK 31 0 by simp [lastK]), k (show lastK 32 0 by simp [lastK]), k (show lastK 23 0 by simp [lastK]), k (show lastK 24 0 by simp [lastK])]
  refine ⟨ht, h08, h11, (a4.same e15 e16 e18).le hT, hM.le hT, by rw [eX0, eM]; exact a6, by rw [eX0]; exact a7, htp, ?_, ?_, ?_⟩
  · intro s hs
    rw [k (show lastK 13 s by simp [lastK]), k (show lastK 14 s by simp [lastK]), k (show lastK 33 0 by simp [lastK]), k (show lastK 34 0 by simp [lastK]), k (show lastK 35 0 by simp [lastK])]
    exact a9 s hs
  · obtain ⟨b1, b2⟩ := a10
    refine ⟨by rw [h07, h22 13 (by simp)]; exact b1, ?_⟩
    rw [h07, k (show lastK 32 0 by simp [lastK]), eX2, eX0, eI]
    rcases b2 with b2 | ⟨c1, c2, c3⟩
    · exact Or.inl b2
    · exact Or.inr ⟨c1, (c2.same f15 f16 f18).le hT, c3⟩
  · unfold ConR
    rw [k (show lastK 37 0 by simp [lastK])]
    exact a11
theorem byteX_ev (M : Mem) (v : Int32) : fX10_isByte v M = some (bt (decide (0 ≤ v) && decide (v ≤ 255)), M) := by
  unfold fX10_isByte
  rw [within_ev, ob_some, gd_isB]
theorem byteM_ev (M : Mem) (v : Int32) : fX11_isByte v M = some (bt (decide (0 ≤ v) && decide (v ≤ 255)), M) := by
  unfold fX11_isByte
  rw [in_ev, ob_some, gd_isB]
def fd5 (a b c d e : Int32) : Nat → Int32 := fun j => if j = 0 then a else if j = 1 then b else if j = 2 then c else if j = 3 then d else e
def TX (M : Mem) (n : Nat) (b : Nat → Int32) (j : Nat) (N : Mem) : Prop := N 1 0 3 = nI (n + j) ∧ (∀ i, i < n + j → N 2 0 i = if i < n then M 2 0 i else b (i - n)) ∧ Off (fun K i => (K = 1 ∨ K = 2) ∧ i = 0) M N
theorem app_ev {M N : Mem} {n j : Nat} {b : Nat → Int32} (h : TX M n b j N) (hn : n + j < 160) : Ev (fX4_append (b j) N) (fun _ N2 => TX M n b (j + 1) N2) := by
  obtain ⟨h1, h2, h3⟩ := h
  unfold fX4_append
  rw [h1, if_neg (fun q => by have := (nI_leI (a := 160) (by omega) (by omega)).mp q; omega)]
  refine Ev.gd (inb_nI hn (by decide)) (Ev.let_ fun M1 e1 => Ev.let_ fun M2 e2 => Ev.ret ?_)
  have g1 : M1 1 0 3 = nI (n + j) := by rw [e1, mst_n (by simp)]; exact h1
  rw [g1, nI_1] at e2
  rw [nI_clamp (show n + j < 2 ^ 31 by omega)] at e1
  have g2 : M2 2 0 = upd (N 2 0) (n + j) (b j) := by rw [e2, mst_n (by simp), e1, mst_s]
  refine ⟨by rw [e2, mst_s]; simp [upd]; rfl, fun i hi => ?_, by rw [e2, e1]; exact (h3.mst (by simp)).mst (by simp)⟩
  rw [g2]
  by_cases e : i = n + j
  · subst e
    simp only [upd, if_true]
    rw [if_neg (by omega), show n + j - n = j by omega]
  · simp only [upd, if_neg e]
    exact h2 i (by omega)
theorem feed_core {T n k : Nat} {b : Nat → Int32} {M N N2 : Mem} (h : RelT T M) (h1 : M 1 0 3 = nI n) (hn : n + k ≤ 160) (hb : ∀ j, j < k → ∃ x, x < 256 ∧ b j = nI x) (hN : TX M n b k N) (e8 : N2 22 0 8 = nI (n + k)) (e28 : ∀ i, i < n + k → N2 28 0 i = if i < n then M 28 0 i else b (i - n)) (es : ∀ s, s ≠ 8 → N2 22 0 s = M 22 0 s) (ho : Off (fun K i => (K = 22 ∨ K = 28) ∧ i = 0) N N2) : RelT T N2 := by
  obtain ⟨t1, t2, t3⟩ := hN
  have o : ∀ K i, ¬ ((K = 1 ∨ K = 2 ∨ K = 22 ∨ K = 28) ∧ i = 0) → N2 K i = M K i := fun K i q => (ho.at (fun z => q (by omega))).trans (t3.at (fun z => q (by omega)))
  refine h.text (Nat.le_refl T) (fun K i a => o K i (by simp only [lastK] at a; omega)) (by rw [o 0 0 (by simp)]) (by rw [o 0 0 (by simp)]; exact h.2.1) (fun s hs => es s (by omega)) (by rw [es 11 (by decide)]; exact h.2.2.1) (h.1.off (fun i => ⟨o 8 i (by simp), o 10 i (by simp), o 11 i (by simp)⟩) (o 29 0 (by simp)) (o 30 0 (by simp))) ?_
  obtain ⟨m, hm, p1, p2, p3⟩ := h.2.2.2.2.2.2.2.1
  have hmn : m = n := by
    rw [p1] at h1
    exact (nI_eq (by omega) (by omega)).mp h1
  subst hmn
  refine ⟨m + k, hn, by rw [ho.at (by simp)]; exact t1, e8, fun i hi => ?_⟩
  rw [ho.at (show ¬ ((2 = 22 ∨ 2 = 28) ∧ 0 = 0) by simp), t2 i hi, e28 i hi]
  by_cases e : i < m
  · rw [if_pos e, if_pos e]
    exact p3 i e
  · rw [if_neg e, if_neg e]
    exact ⟨rfl, hb (i - m) (by omega)⟩
theorem feedM_loop {n k : Nat} {a b c d e : Int32} {N : Mem} (h8 : N 22 0 8 = nI n) (hk : k ≤ 5) (hn : n + k ≤ 160) : Ev (fX11_feed_L68 (nI k) a b c d e FU 0 N) (fun r N2 => r = nI (n + k) ∧ N2 22 0 8 = nI (n + k) ∧ (∀ i, i < n + k → N2 28 0 i = if i < n then N 28 0 i else fd5 a b c d e (i - n)) ∧ (∀ s, s ≠ 8 → N2 22 0 s = N 22 0 s) ∧ Off (fun K i => (K = 22 ∨ K = 28) ∧ i = 0) N N2) := by
  refine Ev.loop (f := fun m (x : Int32) M => fX11_feed_L68 (nI k) a b c d e m x M) (B := fun kk x M => fX11_feed_B68 (nI k) a b c d e kk x M) (fun _ _ _ => rfl) k
    (fun j x N2 => x = nI j ∧ N2 22 0 8 = nI (n + j) ∧ (∀ i, i < n + j → N2 28 0 i = if i < n then N 28 0 i else fd5 a b c d e (i - n)) ∧ (∀ s, s ≠ 8 → N2 22 0 s = N 22 0 s) ∧ Off (fun K i => (K = 22 ∨ K = 28) ∧ i = 0) N N2) ?_ ?_ FU 0 (nI 0) N (Nat.zero_le _) (by show _ < 2000 + 0; omega) ⟨rfl, h8, fun i hi => by rw [if_pos (by omega)], fun _ _ => rfl, Off.rf⟩
  · rintro kk j x N2 hj ⟨rfl, g8, g28, gs, go⟩ hkk
    have step : ∀ z : Int32, z = fd5 a b c d e j → Ev (fX11_feed_J125 kk (nI k) a b c d e (nI j) z (nI (n + j)) N2) (fun r N2 => r = nI (n + k) ∧ N2 22 0 8 = nI (n + k) ∧ (∀ i, i < n + k → N2 28 0 i = if i < n then N 28 0 i else fd5 a b c d e (i - n)) ∧ (∀ s, s ≠ 8 → N2 22 0 s = N 22 0 s) ∧ Off (fun K i => (K = 22 ∨ K = 28) ∧ i = 0) N N2) := by
      intro z hz
      unfold fX11_feed_J125
      refine Ev.gd (inb_nI (by omega) (by decide)) (Ev.let_ fun N3 h3 => Ev.let_ fun N4 h4 => ?_)
      rw [nI_clamp (show n + j < 2 ^ 31 by omega)] at h3
      have f8 : N3 22 0 = N2 22 0 := by rw [h3, mst_n (by simp)]
      rw [f8, g8, nI_1] at h4
      have f28 : N4 28 0 = upd (N2 28 0) (n + j) z := by rw [h4, mst_n (by simp), h3, mst_s]
      rw [nI_1]
      refine hkk _ N4 ⟨rfl, by rw [h4, mst_s]; simp [upd]; rfl, fun i hi => ?_, fun s hs => ?_, by rw [h4, h3]; exact (go.mst (by simp)).mst (by simp)⟩
      · rw [f28]
        by_cases e : i = n + j
        · subst e
          simp only [upd, if_true]
          rw [if_neg (by omega), hz, show n + j - n = j by omega]
        · simp only [upd, if_neg e]
          exact g28 i (by omega)
      · rw [h4, mst_s]
        simp only [upd, if_neg hs]
        rw [f8]
        exact gs s hs
    show Ev (fX11_feed_B68 (nI k) a b c d e kk (nI j) N2) _
    unfold fX11_feed_B68
    rw [if_neg (fun q => by have := (nI_leI (by omega) (by omega)).mp q; omega), g8]
    match j, (show j < 5 by omega) with
    | 0, _ => rw [if_pos (by decide)]; exact step a rfl
    | 1, _ => rw [if_neg (by decide), if_pos (by decide)]; exact step b rfl
    | 2, _ => rw [if_neg (by decide), if_neg (by decide), if_pos (by decide)]; exact step c rfl
    | 3, _ => rw [if_neg (by decide), if_neg (by decide), if_neg (by decide), if_pos (by decide)]; exact step d rfl
    | 4, _ => rw [if_neg (by decide), if_neg (by decide), if_neg (by decide), if_neg (by decide)]; exact step e rfl
    | j + 5, h => omega
  · rintro kk x N2 ⟨rfl, g8, g28, gs, go⟩
    show Ev (fX11_feed_B68 (nI k) a b c d e kk (nI k) N2) _
    unfold fX11_feed_B68
    rw [if_pos (Int32.le_refl _)]
    exact Ev.ret ⟨g8, g8, g28, gs, go⟩
theorem feedX_core {n k : Nat} {a b c d e : Int32} {M : Mem} (h1 : M 1 0 3 = nI n) (hk : 1 ≤ k) (hk5 : k ≤ 5) (hn : n + k ≤ 160) {P : Int32 → Mem → Prop} (hP : ∀ N, TX M n (fd5 a b c d e) k N → P (nI (n + k)) N) : Ev (ob (fX4_append a M) fun r13 M14 =>
                if nI k ≤ 1 then
                  (fX10_feed_J89 (nI k) c d e M14)
                else
                  (ob (fX4_append b M14) fun r21 M22 =>
                  fX10_feed_J89 (nI k) c d e M22)) P := by
  have t0 : TX M n (fd5 a b c d e) 0 M := ⟨h1, fun i hi => by rw [if_pos (by omega)], Off.rf⟩
  have fin : ∀ N, TX M n (fd5 a b c d e) k N → Ev (some (N 1 0 3, N)) P := fun N h => Ev.ret (by rw [h.1]; exact hP N h)
  refine Ev.bind (app_ev t0 (by omega)) (fun _ N1 q1 => ?_)
  unfold fX10_feed_J89 fX10_feed_J103 fX10_feed_J117
  match k, hk, hk5 with
  | 1, _, _ =>
    rw [if_pos (by decide), if_pos (by decide), if_pos (by decide), if_pos (by decide)]
    exact fin N1 q1
  | 2, _, _ =>
    rw [if_neg (by decide)]
    refine Ev.bind (app_ev (b := fd5 a b c d e) q1 (by omega)) (fun _ N2 q2 => ?_)
    rw [if_pos (by decide), if_pos (by decide), if_pos (by decide)]
    exact fin N2 q2
  | 3, _, _ =>
    rw [if_neg (by decide)]
    refine Ev.bind (app_ev (b := fd5 a b c d e) q1 (by omega)) (fun _ N2 q2 => ?_)
    rw [if_neg (by decide)]
    refine Ev.bind (app_ev (b := fd5 a b c d e) q2 (by omega)) (fun _ N3 q3 => ?_)
    rw [if_pos (by decide), if_pos (by decide)]
    exact fin N3 q3
  | 4, _, _ =>
    rw [if_neg (by decide)]
    refine Ev.bind (app_ev (b := fd5 a b c d e) q1 (by omega)) (fun _ N2 q2 => ?_)
    rw [if_neg (by decide)]
    refine Ev.bind (app_ev (b := fd5 a b c d e) q2 (by omega)) (fun _ N3 q3 => ?_)
    rw [if_neg (by decide)]
    refine Ev.bind (app_ev (b := fd5 a b c d e) q3 (by omega)) (fun _ N4 q4 => ?_)
    rw [if_pos (by decide)]
    exact fin N4 q4
  | 5, _, _ =>
    rw [if_neg (by decide)]
    refine Ev.bind (app_ev (b := fd5 a b c d e) q1 (by omega)) (fun _ N2 q2 => ?_)
    rw [if_neg (by decide)]
    refine Ev.bind (app_ev (b := fd5 a b c d e) q2 (by omega)) (fun _ N3 q3 => ?_)
    rw [if_neg (by decide)]
    refine Ev.bind (app_ev (b := fd5 a b c d e) q3 (by omega)) (fun _ N4 q4 => ?_)
    rw [if_neg (by decide)]
    refine Ev.bind (app_ev (b := fd5 a b c d e) q4 (by omega)) (fun _ N5 q5 => ?_)
    exact fin N5 q5
  | 0, h, _ => omega
  | k + 6, _, h => omega
theorem feed_same (v a b c d e : Int32) : Same (fX10_feed v a b c d e) (fX11_feed v a b c d e) := by
  rintro M ⟨T, h⟩
  obtain ⟨n, hn, p1, p2, p3⟩ := h.2.2.2.2.2.2.2.1
  unfold fX10_feed
  rw [within_ev, ob_some]
  refine Ev.ite (fun h0 => Ev.ret ?_) (fun h0 => ?_)
  · unfold fX11_feed
    rw [in_ev, ob_some, if_pos h0]
    exact Ev.ret ⟨rfl, T, h⟩
  rw [byteX_ev, ob_some]
  refine Ev.ite (fun h1 => Ev.ret ?_) (fun h1 => ?_)
  · unfold fX11_feed
    rw [in_ev, ob_some, if_neg h0, byteM_ev, ob_some, if_pos h1]
    exact Ev.ret ⟨rfl, T, h⟩
  rw [byteX_ev, ob_some]
  refine Ev.ite (fun h2 => Ev.ret ?_) (fun h2 => ?_)
  · unfold fX11_feed
    rw [in_ev, ob_some, if_neg h0, byteM_ev, ob_some, if_neg h1, byteM_ev, ob_some, if_pos h2]
    exact Ev.ret ⟨rfl, T, h⟩
  rw [byteX_ev, ob_some]
  refine Ev.ite (fun h3 => Ev.ret ?_) (fun h3 => ?_)
  · unfold fX11_feed
    rw [in_ev, ob_some, if_neg h0, byteM_ev, ob_some, if_neg h1, byteM_ev, ob_some, if_neg h2, byteM_ev, ob_some, if_pos h3]
    exact Ev.ret ⟨rfl, T, h⟩
  rw [byteX_ev, ob_some]
  refine Ev.ite (fun h4 => Ev.ret ?_) (fun h4 => ?_)
  · unfold fX11_feed
    rw [in_ev, ob_some, if_neg h0, byteM_ev, ob_some, if_neg h1, byteM_ev, ob_some, if_neg h2, byteM_ev, ob_some, if_neg h3, byteM_ev, ob_some, if_pos h4]
    exact Ev.ret ⟨rfl, T, h⟩
  rw [byteX_ev, ob_some]
  refine Ev.ite (fun h5 => Ev.ret ?_) (fun h5 => ?_)
  · unfold fX11_feed
    rw [in_ev, ob_some, if_neg h0, byteM_ev, ob_some, if_neg h1, byteM_ev, ob_some, if_neg h2, byteM_ev, ob_some, if_neg h3, byteM_ev, ob_some, if_neg h4, byteM_ev, ob_some, if_pos h5]
    exact Ev.ret ⟨rfl, T, h⟩
  have goM : ∀ N, fX11_feed v a b c d e N = (if ((N 22 0 8) + v) ≤ 160 then (fX11_feed_L68 v a b c d e FU 0 N) else (some (-4, N))) := fun N => by
    unfold fX11_feed
    rw [in_ev, ob_some, if_neg h0, byteM_ev, ob_some, if_neg h1, byteM_ev, ob_some, if_neg h2, byteM_ev, ob_some, if_neg h3, byteM_ev, ob_some, if_neg h4, byteM_ev, ob_some, if_neg h5]
  have hv := not_bt h0
  obtain ⟨k, hk5, rfl⟩ := rng (n := 5) (v := v) (by decide) ⟨Int32.le_trans (by decide) hv.1, hv.2⟩
  have hk1 : 1 ≤ k := (nI_leI (a := 1) (by omega) (by omega)).mp hv.1
  rw [p1, show (160 : Int32) - nI n = nI (160 - n) from pk_sub (a := 160) hn]
  refine Ev.ite (fun e1 => ?_) (fun e1 => Ev.ret ?_)
  · have hnk := (nI_leI (by omega) (by omega)).mp e1
    refine feedX_core p1 hk1 hk5 (by omega) (fun N hN => ?_)
    have e22 : N 22 0 = M 22 0 := hN.2.2.at (by simp)
    rw [goM, e22, p2, nI_add, if_pos (show nI (n + k) ≤ 160 from (nI_leI (b := 160) (by omega) (by omega)).mpr (by omega))]
    refine (feedM_loop (n := n) (by rw [e22]; exact p2) hk5 (by omega)).mono (fun r N2 q => ?_)
    obtain ⟨q1, q2, q3, q4, q5⟩ := q
    refine ⟨q1, T, feed_core h p1 (by omega) (fun j hj => ?_) hN q2 (fun i hi => ?_) (fun s hs => by rw [q4 s hs, e22]) q5⟩
    · have bb : ∀ z : Int32, ¬ bt (decide (0 ≤ z) && decide (z ≤ 255)) = 0 → ∃ x, x < 256 ∧ z = nI x := fun z hz => by
        obtain ⟨x, hx, e⟩ := rng (n := 255) (by decide) (not_bt hz)
        exact ⟨x, by omega, e⟩
      unfold fd5
      split
      · exact bb a h1
      · split
        · exact bb b h2
        · split
          · exact bb c h3
          · split
            · exact bb d h4
            · exact bb e h5
    · rw [q3 i hi, hN.2.2.at (show ¬ ((28 = 1 ∨ 28 = 2) ∧ 0 = 0) by simp)]
  · rw [goM, p2, nI_add, if_neg (show ¬ nI (n + k) ≤ 160 from fun q => e1 ((nI_leI (by omega) (by omega)).mpr (by have := (nI_leI (b := 160) (by omega) (by omega)).mp q; omega)))]
    exact Ev.ret ⟨rfl, T, h⟩
end FE
