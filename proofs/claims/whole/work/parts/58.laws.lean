/-! laws -/
section LW
theorem Lk.put22 {M N : Mem} {z v : Int32} (h : Lk (mst M 22 0 12 z) N) : Lk (mst M 22 0 12 v) (mst N 22 0 12 v) := by
  obtain ⟨h1, h2, h3⟩ := h
  refine ⟨fun K' i a b c => ?_, fun c hc => ?_, fun s hs => ?_⟩
  · rw [mst_n (fun q => c q.1), mst_n (fun q => c q.1), h1 K' i a b c, mst_n (fun q => c q.1)]
  · rw [mst_n (by simp), mst_n (by simp), h2 c hc, mst_n (by simp)]
  · rw [mst_s, mst_s]
    by_cases e : s = 12
    · simp [upd, e]
    · simp only [upd, if_neg e]
      rw [h3 s hs, mst_s]
      simp only [upd, if_neg e]
theorem law_sv {M : Mem} {v : Int32} : svX (mst M 22 0 12 v) = svX M := svX_off (fun i => mst_n (by simp)) (fun i => mst_n (by simp))
theorem law_txt {T : Nat} {M : Mem} {v : Int32} (h : Txt T M) : Txt T (mst M 22 0 12 v) := h.off (fun i => ⟨mst_n (by simp), mst_n (by simp), mst_n (by simp)⟩) (mst_n (by simp)) (mst_n (by simp))
theorem law_sh {s : Nat} {M : Mem} {v : Int32} : shM s (mst M 22 0 12 v) = shM s M := shM_eq (mst_n (by simp)) (mst_n (by simp)) (mst_n (by simp))
theorem law_in {T t : Nat} {M : Mem} (hT : T ≤ 6) (ht : t < T) (hI : InM T M) : InM T (mst M 22 0 12 (nI t)) ∧ vwM (mst M 22 0 12 (nI t)) = setL (vwM M) t := by
  have ev := vwM_law (M := M) (t := t) (by omega)
  obtain ⟨a1, a2, a3, a4, a5⟩ := hI
  refine ⟨⟨?_, ?_, ?_, ?_, ?_⟩, ev⟩
  · rw [ev, mst_s]; exact a1
  · rw [ev, mst_s]; rfl
  · rw [ev]; exact ht
  · rw [ev]; exact a4
  · rw [ev]; exact a5
def lawP (M : Mem) (s c : Nat) : Nat → Bool := fun x => decide (fstI (foP (svX M) (setL (vwX 0 M) x) (shX s M).2.2 c) (shX s M).2.1.toNatClampNeg = -1)
def lawsS (v w : Int32) (M : Mem) : Int32 := if rtS v w (fun s => shX s M) = 0 then bitsI (lawP M v.toNatClampNeg w.toNatClampNeg) (M 0 0 8).toNatClampNeg else rtS v w (fun s => shX s M)
theorem lawsX_ev {T : Nat} {M : Mem} (h : RelT T M) (v w : Int32) : Ev (fX10_laws v w M) (fun r M1 => r = lawsS v w M ∧ Kp M M1) := by
  have hT6 := h.1.2.1
  unfold fX10_laws lawsS
  rw [rtX_ev, ob_some]
  refine Ev.ite (fun h0 => ?_) (fun h0 => Ev.ret ⟨by rw [if_neg h0], Kp.rf⟩)
  rw [if_pos h0]
  obtain ⟨s, c, n, rfl, hs, rfl, hc, hn, en⟩ := rtS_0 h0 h.ok
  rw [nI_clamp (show s < 2 ^ 31 by omega), nI_clamp (show c < 2 ^ 31 by omega), h.2.1, nI_clamp (show T < 2 ^ 31 by omega)]
  have hf : ∀ x, lawP M s c x = decide (fstI (foP (svX M) (setL (vwX 0 M) x) (shX s M).2.2 c) n = -1) := fun x => by
    unfold lawP
    rw [en, nI_clamp (show n < 2 ^ 31 by omega)]
  generalize lawP M s c = P at hf
  refine Ev.loop (f := fun k (x : Int32 × Int32) M => fX10_laws_L19 (nI s) (nI c) k x.1 x.2 M) (B := fun k x M => fX10_laws_B19 (nI s) (nI c) (fun a b M => k (a, b) M) x.1 x.2 M) (fun _ _ _ => rfl) T
    (fun j x N => x = (bitsI P j, nI j) ∧ Kp M N) ?_ ?_ FU 0 (0, nI 0) M (Nat.zero_le _) (by show _ < 2000 + 0; omega) ⟨rfl, Kp.rf⟩
  · rintro k j x N hj ⟨rfl, hN⟩ hk
    show Ev (fX10_laws_B19 (nI s) (nI c) (fun a b M => k (a, b) M) (bitsI P j) (nI j) N) _
    unfold fX10_laws_B19
    rw [hN 0 0 (by simp [keptK]), h.2.1, if_neg (fun q => by have := (nI_leI (by omega) (by omega)).mp q; omega), nI_clamp (show s < 2 ^ 31 by omega)]
    refine Ev.bind (thx_take h.2.2.2.1 hN) (fun _ N1 q1 => Ev.let_ fun N2 h2 => ?_)
    have q2 : ThX T M N2 (setL (vwX 0 M) j) := by
      obtain ⟨k1, k2, k3⟩ := q1
      have ev : vwX 1 N2 = setL (vwX 0 M) j := by rw [h2, vwX_law (by omega), k3]
      refine ⟨fun K i hK => ?_, ?_, ev⟩
      · rw [h2, mst_n (fun q => ?_)]
        · exact k1 K i hK
        · obtain ⟨rfl, rfl⟩ := q
          simp [keptK] at hK
      · obtain ⟨a1, a2, a3, a4, a5⟩ := k2
        rw [k3] at a1 a2 a3 a4 a5
        refine ⟨?_, ?_, ?_, ?_, ?_⟩
        · rw [ev, h2, mst_s]; exact a1
        · rw [ev, h2, mst_s]; rfl
        · rw [ev]; exact hj
        · rw [ev]; exact a4
        · rw [ev]; exact a5
    refine Ev.gd (inb_nI hs (by decide)) (Ev.bind (foX_ev h.1 q2 hc (show n ≤ 40 by omega) en) (fun r N3 q3 => ?_))
    rw [nI_1]
    refine Ev.ite (fun e => Ev.letv ?_) (fun e => ?_)
    · refine hk _ N3 ⟨?_, q3.2⟩
      show (_, _) = (bitsI P j ||| (if P j = true then 1 <<< (nI j &&& 31) else 0), nI (j + 1))
      rw [if_pos (by rw [hf]; exact decide_eq_true (by rw [← q3.1]; exact e))]
    · refine hk _ N3 ⟨?_, q3.2⟩
      show (_, _) = (bitsI P j ||| (if P j = true then 1 <<< (nI j &&& 31) else 0), nI (j + 1))
      rw [if_neg (by rw [hf]; simp only [decide_eq_true_eq]; rw [← q3.1]; exact e), or0I]
  · rintro k x N ⟨rfl, hN⟩
    show Ev (fX10_laws_B19 (nI s) (nI c) (fun a b M => k (a, b) M) (bitsI P T) (nI T) N) _
    unfold fX10_laws_B19
    rw [hN 0 0 (by simp [keptK]), h.2.1, if_pos ((nI_leI (by omega) (by omega)).mpr (Nat.le_refl _))]
    exact Ev.ret ⟨rfl, hN⟩
theorem lawsM_ev {T : Nat} {M : Mem} (h : RelT T M) (v w : Int32) : Ev (fX11_laws v w M) (fun r M1 => r = lawsS v w M ∧ Lk M M1) := by
  have hI := h.2.2.2.2.1
  have hv : vwX 0 M = vwM M := h.2.2.2.2.2.1
  have hT6 := h.1.2.1
  unfold fX11_laws lawsS
  rw [rtM_ev, ob_some, rtS_eq h]
  refine Ev.ite (fun h0 => ?_) (fun h0 => Ev.ret ⟨by rw [if_neg h0], Lk.rf⟩)
  rw [if_pos h0]
  obtain ⟨s, c, n, rfl, hs, rfl, hc, hn, en⟩ := rtS_0 h0 h.ok
  have esh := (h.2.2.2.2.2.2.2.2.1.eq (s := s) hs).1
  rw [nI_clamp (show s < 2 ^ 31 by omega), nI_clamp (show c < 2 ^ 31 by omega), h.2.1, nI_clamp (show T < 2 ^ 31 by omega)]
  have hf : ∀ x, lawP M s c x = decide (fstI (foP (svX M) (setL (vwM M) x) (shM s M).2.2 c) n = -1) := fun x => by
    unfold lawP
    rw [en, nI_clamp (show n < 2 ^ 31 by omega), hv, esh]
  generalize lawP M s c = P at hf
  refine Ev.letv ?_
  have h11 : ∀ (z : Int32) (N : Mem), Lk (mst M 22 0 12 z) N → N 22 0 11 = nI T := fun z N hN => by
    rw [hN.2.2 11 (by omega), mst_s]
    simp only [upd]
    rw [if_neg (by decide)]
    exact h.2.2.1
  refine Ev.loop (f := fun k (x : Int32 × Int32) N => fX11_laws_L25 (nI s) (nI c) (M 22 0 12) k x.1 x.2 N) (B := fun k x N => fX11_laws_B25 (nI s) (nI c) (M 22 0 12) (fun a b M => k (a, b) M) x.1 x.2 N) (fun _ _ _ => rfl) T
    (fun j x N => x = (bitsI P j, nI j) ∧ ∃ z, Lk (mst M 22 0 12 z) N) ?_ ?_ FU 0 (0, nI 0) M (Nat.zero_le _) (by show _ < 2000 + 0; omega) ⟨rfl, M 22 0 12, by rw [mst_id]; exact Lk.rf⟩
  · rintro k j x N hj ⟨rfl, z, hN⟩ hk
    show Ev (fX11_laws_B25 (nI s) (nI c) (M 22 0 12) (fun a b M => k (a, b) M) (bitsI P j) (nI j) N) _
    unfold fX11_laws_B25
    rw [h11 z N hN, if_neg (fun q => by have := (nI_leI (by omega) (by omega)).mp q; omega)]
    refine Ev.let_ fun N2 h2 => ?_
    have k2 : Lk (mst M 22 0 12 (nI j)) N2 := by rw [h2]; exact hN.put22
    obtain ⟨i1, i2⟩ := law_in hT6 hj hI
    have e1 : shM s N2 = shM s M := by rw [k2.sh, law_sh]
    refine Ev.bind (unM_ev (n := n) (k2.txt (law_txt h.1)) (k2.inM i1) hs hc (by omega) (by rw [e1, ← esh]; exact en)) (fun r N3 q3 => ?_)
    rw [e1, k2.sv, law_sv, k2.vM, i2] at q3
    rw [nI_1]
    refine Ev.ite (fun e => Ev.letv ?_) (fun e => Ev.letv ?_)
    · refine hk _ N3 ⟨?_, _, k2.tr q3.2⟩
      show (_, _) = (bitsI P j ||| (if P j = true then 1 <<< (nI j &&& 31) else 0), nI (j + 1))
      rw [if_pos (by rw [hf]; exact decide_eq_true (by rw [← q3.1]; exact e))]
    · refine hk _ N3 ⟨?_, _, k2.tr q3.2⟩
      show (_, _) = (bitsI P j ||| (if P j = true then 1 <<< (nI j &&& 31) else 0), nI (j + 1))
      rw [if_neg (by rw [hf]; simp only [decide_eq_true_eq]; rw [← q3.1]; exact e)]
  · rintro k x N ⟨rfl, z, hN⟩
    show Ev (fX11_laws_B25 (nI s) (nI c) (M 22 0 12) (fun a b M => k (a, b) M) (bitsI P T) (nI T) N) _
    unfold fX11_laws_B25
    rw [h11 z N hN, if_pos ((nI_leI (by omega) (by omega)).mpr (Nat.le_refl _))]
    refine Ev.letv (Ev.ret ⟨rfl, ?_⟩)
    have := hN.put22 (v := M 22 0 12)
    rw [mst_id] at this
    exact this
theorem laws_same (v w : Int32) : Same (fX10_laws v w) (fX11_laws v w) :=
  Same.ask (lawsS v w) (fun M M1 h => by
    have e : ∀ s c, lawP M1 s c = lawP M s c := fun s c => by unfold lawP; rw [h.sv, h.vX, h.sh]
    unfold lawsS
    rw [shf h, e, h 0 0 (by simp [keptK])]) (fun _ _ h => lawsX_ev h v w) (fun _ _ h => lawsM_ev h v w)
end LW
/-! the thickest, the thinnest cell; seats -/
section SE
def amx (T : Nat → Int32) : Nat → Nat
  | 0 => 0
  | n + 1 => if T (n + 1) ≤ T (amx T n) then amx T n else n + 1
def amn (T : Nat → Int32) : Nat → Nat
  | 0 => 0
  | n + 1 => if T (amn T n) ≤ T (n + 1) then amn T n else n + 1
theorem amx_le {T : Nat → Int32} : ∀ n, amx T n ≤ n := by
  intro n
  induction n with
  | zero => exact Nat.le_refl _
  | succ n ih =>
    show (if T (n + 1) ≤ T (amx T n) then amx T n else n + 1) ≤ n + 1
    split <;> omega
theorem amn_le {T : Nat → Int32} : ∀ n, amn T n ≤ n := by
  intro n
  induction n with
  | zero => exact Nat.le_refl _
  | succ n ih =>
    show (if T (amn T n) ≤ T (n + 1) then amn T n else n + 1) ≤ n + 1
    split <;> omega
theorem amx_s {T : Nat → Int32} {j : Nat} : amx T (j + 1) = if T (j + 1) ≤ T (amx T j) then amx T j else j + 1 := rfl
theorem amn_s {T : Nat → Int32} {j : Nat} : amn T (j + 1) = if T (amn T j) ≤ T (j + 1) then amn T j else j + 1 := rfl
theorem thkX_ev {r : Nat} {M : Mem} : Ev (fX5_thickestCell r M) (fun v M' => v = nI (amx (rT (vwX r M)) 35) ∧ M' = M) := by
  unfold fX5_thickestCell
  generalize h35 : (35 : Nat) = m
  refine Ev.loop (f := fun k (x : Int32 × Int32) M => fX5_thickestCell_L4 r k x.1 x.2 M) (B := fun k x M => fX5_thickestCell_B4 r (fun a b M => k (a, b) M) x.1 x.2 M) (fun _ _ _ => rfl) m
    (fun j x N => x = (nI (amx (rT (vwX r M)) j), nI (j + 1)) ∧ N = M) ?_ ?_ FU 0 (0, 1) M (Nat.zero_le _) (by show _ < 2000 + 0; omega) ⟨rfl, rfl⟩
  · rintro k j x N hj ⟨rfl, rfl⟩ hk
    show Ev (fX5_thickestCell_B4 r (fun a b M => k (a, b) M) (nI (amx (rT (vwX r N)) j)) (nI (j + 1)) N) _
    unfold fX5_thickestCell_B4
    have hl := amx_le (T := rT (vwX r N)) j
    rw [if_neg (fun q => by have := (nI_leI (a := 36) (by omega) (by omega)).mp q; omega)]
    refine Ev.gd (inb_nI (by omega) (by decide)) (Ev.gd (inb_nI (by omega) (by decide)) ?_)
    rw [nI_clamp (show j + 1 < 2 ^ 31 by omega), nI_clamp (show amx (rT (vwX r N)) j < 2 ^ 31 by omega), vwX_T (r := r) (M := N) (show j + 1 < 36 by omega), vwX_T (r := r) (M := N) (show amx (rT (vwX r N)) j < 36 by omega), nI_1]
    refine Ev.ite (fun e => ?_) (fun e => ?_)
    · exact hk _ N ⟨by rw [amx_s, if_pos e], rfl⟩
    · exact hk _ N ⟨by rw [amx_s, if_neg e], rfl⟩
  · rintro k x N ⟨rfl, rfl⟩
    show Ev (fX5_thickestCell_B4 r (fun a b M => k (a, b) M) (nI (amx (rT (vwX r N)) m)) (nI (m + 1)) N) _
    unfold fX5_thickestCell_B4
    rw [if_pos (by rw [← h35]; decide)]
    exact Ev.ret ⟨rfl, rfl⟩
theorem thnX_ev {r : Nat} {M : Mem} : Ev (fX5_thinnestCell r M) (fun v M' => v = nI (amn (rT (vwX r M)) 35) ∧ M' = M) := by
  unfold fX5_thinnestCell
  generalize h35 : (35 : Nat) = m
  refine Ev.loop (f := fun k (x : Int32 × Int32) M => fX5_thinnestCell_L4 r k x.1 x.2 M) (B := fun k x M => fX5_thinnestCell_B4 r (fun a b M => k (a, b) M) x.1 x.2 M) (fun _ _ _ => rfl) m
    (fun j x N => x = (nI (amn (rT (vwX r M)) j), nI (j + 1)) ∧ N = M) ?_ ?_ FU 0 (0, 1) M (Nat.zero_le _) (by show _ < 2000 + 0; omega) ⟨rfl, rfl⟩
  · rintro k j x N hj ⟨rfl, rfl⟩ hk
    show Ev (fX5_thinnestCell_B4 r (fun a b M => k (a, b) M) (nI (amn (rT (vwX r N)) j)) (nI (j + 1)) N) _
    unfold fX5_thinnestCell_B4
    have hl := amn_le (T := rT (vwX r N)) j
    rw [if_neg (fun q => by have := (nI_leI (a := 36) (by omega) (by omega)).mp q; omega)]
    refine Ev.gd (inb_nI (by omega) (by decide)) (Ev.gd (inb_nI (by omega) (by decide)) ?_)
    rw [nI_clamp (show j + 1 < 2 ^ 31 by omega), nI_clamp (show amn (rT (vwX r N)) j < 2 ^ 31 by omega), vwX_T (r := r) (M := N) (show j + 1 < 36 by omega), vwX_T (r := r) (M := N) (show amn (rT (vwX r N)) j < 36 by omega), nI_1]
    refine Ev.ite (fun e => ?_) (fun e => ?_)
    · exact hk _ N ⟨by rw [amn_s, if_pos e], rfl⟩
    · exact hk _ N ⟨by rw [amn_s, if_neg e], rfl⟩
  · rintro k x N ⟨rfl, rfl⟩
    show Ev (fX5_thinnestCell_B4 r (fun a b M => k (a, b) M) (nI (amn (rT (vwX r N)) m)) (nI (m + 1)) N) _
    unfold fX5_thinnestCell_B4
    rw [if_pos (by rw [← h35]; decide)]
    exact Ev.ret ⟨rfl, rfl⟩
theorem outM_ev {M : Mem} (b : Bool) : Ev (fX11_outermost (bt b) M) (fun v M' => v = nI (if b = true then amx (rT (vwM M)) 35 else amn (rT (vwM M)) 35) ∧ M' = M) := by
  unfold fX11_outermost
  generalize h35 : (35 : Nat) = m
  refine Ev.loop (f := fun k (x : Int32 × Int32) M => fX11_outermost_L4 (bt b) k x.1 x.2 M) (B := fun k x M => fX11_outermost_B4 (bt b) (fun a b M => k (a, b) M) x.1 x.2 M) (fun _ _ _ => rfl) m
    (fun j x N => x = (nI (if b = true then amx (rT (vwM M)) j else amn (rT (vwM M)) j), nI (j + 1)) ∧ N = M) ?_ ?_ FU 0 (0, 1) M (Nat.zero_le _) (by show _ < 2000 + 0; omega) ⟨by cases b <;> rfl, rfl⟩
  · rintro k j x N hj ⟨rfl, rfl⟩ hk
    show Ev (fX11_outermost_B4 (bt b) (fun a b M => k (a, b) M) (nI (if b = true then amx (rT (vwM N)) j else amn (rT (vwM N)) j)) (nI (j + 1)) N) _
    unfold fX11_outermost_B4 fX11_outermost_J69
    have hl := amx_le (T := rT (vwM N)) j
    have hl2 := amn_le (T := rT (vwM N)) j
    rw [if_neg (fun q => by have := (nI_leI (a := 36) (by omega) (by omega)).mp q; omega)]
    cases b with
    | false =>
      rw [if_pos (show bt false = 0 from rfl), if_neg (show ¬ false = true by decide), within_gen N _ 0 35 (by decide), ob_some, cl_tab _ (show amn (rT (vwM N)) j < 36 by omega)]
      refine Ev.gd (inb_nI (by omega) (by decide)) (Ev.gd (inb_nI (by omega) (by decide)) ?_)
      rw [nI_clamp (show j + 1 < 2 ^ 31 by omega), nI_clamp (show amn (rT (vwM N)) j < 2 ^ 31 by omega), vwM_T (M := N) (show j + 1 < 36 by omega), vwM_T (M := N) (show amn (rT (vwM N)) j < 36 by omega), nI_1]
      refine Ev.ite (fun e => ?_) (fun e => ?_)
      · rw [if_pos rfl]
        exact hk _ N ⟨by rw [if_neg (by decide), amn_s, if_pos e], rfl⟩
      · rw [if_neg (by decide)]
        exact hk _ N ⟨by rw [if_neg (by decide), amn_s, if_neg e], rfl⟩
    | true =>
      rw [if_neg (show ¬ bt true = 0 by decide), if_pos rfl, within_gen N _ 0 35 (by decide), ob_some, cl_tab _ (show amx (rT (vwM N)) j < 36 by omega)]
      refine Ev.gd (inb_nI (by omega) (by decide)) (Ev.gd (inb_nI (by omega) (by decide)) ?_)
      rw [nI_clamp (show j + 1 < 2 ^ 31 by omega), nI_clamp (show amx (rT (vwM N)) j < 2 ^ 31 by omega), vwM_T (M := N) (show j + 1 < 36 by omega), vwM_T (M := N) (show amx (rT (vwM N)) j < 36 by omega), nI_1]
      refine Ev.ite (fun e => ?_) (fun e => ?_)
      · rw [if_pos rfl]
        exact hk _ N ⟨by rw [if_pos rfl, amx_s, if_pos e], rfl⟩
      · rw [if_neg (by decide)]
        exact hk _ N ⟨by rw [if_pos rfl, amx_s, if_neg e], rfl⟩
  · rintro k x N ⟨rfl, rfl⟩
    show Ev (fX11_outermost_B4 (bt b) (fun a b M => k (a, b) M) (nI (if b = true then amx (rT (vwM N)) m else amn (rT (vwM N)) m)) (nI (m + 1)) N) _
    unfold fX11_outermost_B4
    rw [if_pos (by rw [← h35]; decide)]
    exact Ev.ret ⟨rfl, rfl⟩
/-- the first that is least -/
def bstep (x : Int32 × Int32) (i v : Int32) : Int32 × Int32 := if x.1 = -1 then (i, v) else if x.2 ≤ v then x else (i, v)
def bsS (x0 : Int32 × Int32) (f : Nat → Int32) : Nat → Int32 × Int32
  | 0 => x0
  | n + 1 => bstep (bsS x0 f n) (nI n) (f n)
def pick (w : Int32) (x : Int32 × Int32) : Int32 := if w = 0 then x.1 else x.2
def seatF (M : Mem) (p n : Nat) : Nat → Int32 := fun c => rT (daysS (svX M) skN n (setA (vwX 0 M) 0 p (nI c))) (amx (rT (daysS (svX M) skN n (setA (vwX 0 M) 0 p (nI c)))) 35)
def seatsS (v n w : Int32) (M : Mem) : Int32 := if hasS v (vwX 0 M) = 0 then -5 else if bt (decide (0 ≤ n) && decide (n ≤ 20)) = 0 then -7 else if bt (decide (0 ≤ w) && decide (w ≤ 1)) = 0 then -7 else pick w (bsS (-1, 0) (seatF M v.toNatClampNeg n.toNatClampNeg) 36)
theorem seatsX_ev {T : Nat} {M : Mem} (h : RelT T M) (v n w : Int32) : Ev (fX10_seats v n w M) (fun r M1 => r = seatsS v n w M ∧ Kp M M1) := by
  have hX := h.2.2.2.1
  unfold fX10_seats seatsS
  rw [hasX_ev 0 v hX, ob_some]
  refine Ev.ite (fun h0 => Ev.ret ⟨by rw [if_pos (show hasS v (vwX 0 M) = 0 from h0)], Kp.rf⟩) (fun h0 => ?_)
  rw [if_neg (show ¬ hasS v (vwX 0 M) = 0 from h0), within_ev, ob_some]
  refine Ev.ite (fun h1 => Ev.ret ⟨by rw [if_pos h1], Kp.rf⟩) (fun h1 => ?_)
  rw [if_neg h1, within_ev, ob_some]
  refine Ev.ite (fun h2 => Ev.ret ⟨by rw [if_pos h2], Kp.rf⟩) (fun h2 => ?_)
  rw [if_neg h2]
  obtain ⟨q, hq, rfl⟩ := has_rng hX.2.2.2.1 h0
  obtain ⟨d, hd, rfl⟩ := rng (n := 20) (by decide) (not_bt h1)
  have hq6 : q < 6 := Nat.lt_of_lt_of_le hq hX.2.2.2.1.1
  rw [nI_clamp (show q < 2 ^ 31 by omega), nI_clamp (show d < 2 ^ 31 by omega)]
  have hf : ∀ c, seatF M q d c = rT (daysS (svX M) skN d (setA (vwX 0 M) 0 q (nI c))) (amx (rT (daysS (svX M) skN d (setA (vwX 0 M) 0 q (nI c)))) 35) := fun c => rfl
  generalize seatF M q d = F at hf
  generalize h36 : (36 : Nat) = m
  refine Ev.loop (f := fun k (x : Int32 × Int32 × Int32) M => fX10_seats_L45 (nI q) (nI d) w k x.1 x.2.1 x.2.2 M) (B := fun k x M => fX10_seats_B45 (nI q) (nI d) w (fun a b e M => k (a, b, e) M) x.1 x.2.1 x.2.2 M) (fun _ _ _ => rfl) m
    (fun j x N => x = ((bsS (-1, 0) F j).1, (bsS (-1, 0) F j).2, nI j) ∧ Kp M N) ?_ ?_ FU 0 (-1, 0, nI 0) M (Nat.zero_le _) (by show _ < 2000 + 0; omega) ⟨rfl, Kp.rf⟩
  · rintro k j x N hj ⟨rfl, hN⟩ hk
    show Ev (fX10_seats_B45 (nI q) (nI d) w (fun a b e M => k (a, b, e) M) (bsS (-1, 0) F j).1 (bsS (-1, 0) F j).2 (nI j) N) _
    unfold fX10_seats_B45
    rw [if_neg (fun q => by have := (nI_leI (a := 36) (by omega) (by omega)).mp q; omega)]
    refine Ev.bind (supX_ev (t := 0) (x := j) hX hN hq (by omega) (by show j < 36; omega)) (fun _ N2 q2 => ?_)
    refine Ev.bind (thx_days (n := d) (by omega) h.1 q2) (fun _ N3 q3 => ?_)
    refine Ev.bind (thkX_ev (r := 1)) (fun a N4 q4 => ?_)
    obtain ⟨rfl, rfl⟩ := q4
    have hl := amx_le (T := rT (vwX 1 N4)) 35
    refine Ev.gd (inb_nI (by omega) (by decide)) (Ev.letv ?_)
    have ev : N4 16 1 (nI (amx (rT (vwX 1 N4)) 35)).toNatClampNeg = F j := by
      rw [nI_clamp (by omega), hf, ← q3.2.2]
      exact vwX_T (by omega)
    rw [ev, nI_1]
    have hb : bsS (-1, 0) F (j + 1) = bstep (bsS (-1, 0) F j) (nI j) (F j) := rfl
    refine Ev.ite (fun e => ?_) (fun e => ?_)
    · refine hk _ N4 ⟨?_, q3.1⟩
      rw [hb, bstep, if_pos e]
    · refine Ev.ite (fun e2 => ?_) (fun e2 => ?_)
      · refine hk _ N4 ⟨?_, q3.1⟩
        rw [hb, bstep, if_neg e, if_pos e2]
      · refine hk _ N4 ⟨?_, q3.1⟩
        rw [hb, bstep, if_neg e, if_neg e2]
  · rintro k x N ⟨rfl, hN⟩
    show Ev (fX10_seats_B45 (nI q) (nI d) w (fun a b e M => k (a, b, e) M) (bsS (-1, 0) F m).1 (bsS (-1, 0) F m).2 (nI m) N) _
    unfold fX10_seats_B45 pick
    rw [if_pos (by rw [← h36]; decide)]
    refine Ev.ite (fun e => Ev.ret ⟨by rw [if_pos e], hN⟩) (fun e => Ev.ret ⟨by rw [if_neg e], hN⟩)
theorem behM_ev {T n : Nat} {M : Mem} (hT : Txt T M) (hI : InM T M) (hn : n ≤ 40) : Ev (fX11_thickestBehind (nI n) M) (fun r M1 => r = rT (daysS (svX M) skN n (vwM M)) (amx (rT (daysS (svX M) skN n (vwM M))) 35) ∧ Lk M M1) := by
  unfold fX11_thickestBehind
  refine Ev.bind (thm_keep hI) (fun _ N1 q1 => ?_)
  refine Ev.loop (f := fun m (x : Int32) M => fX11_thickestBehind_L6 (nI n) m x M) (B := fun k x M => fX11_thickestBehind_B6 (nI n) k x M) (fun _ _ _ => rfl) n
    (fun j x N => x = nI j ∧ ThM T M N (daysS (svX M) skN j (vwM M))) ?_ ?_ FU 0 (nI 0) N1 (Nat.zero_le _) (by show _ < 2000 + 0; omega) ⟨rfl, q1⟩
  · rintro k j x N hj ⟨rfl, hN⟩ hk
    show Ev (fX11_thickestBehind_B6 (nI n) k (nI j) N) _
    unfold fX11_thickestBehind_B6
    rw [if_neg (fun q => by have := (nI_leI (by omega) (by omega)).mp q; omega)]
    refine Ev.bind (thm_day hT hN skN_ok) (fun _ N2 q2 => ?_)
    rw [nI_1]
    exact hk _ N2 ⟨rfl, q2⟩
  · rintro k x N ⟨rfl, hN⟩
    show Ev (fX11_thickestBehind_B6 (nI n) k (nI n) N) _
    unfold fX11_thickestBehind_B6
    rw [if_pos ((nI_leI (by omega) (by omega)).mpr (Nat.le_refl _))]
    refine Ev.bind (outM_ev true) (fun a N2 q2 => ?_)
    obtain ⟨rfl, rfl⟩ := q2
    rw [if_pos rfl, hN.2.2.2.2.2]
    have hl := amx_le (T := rT (daysS (svX M) skN n (vwM M))) 35
    rw [within_gen N2 _ 0 35 (by decide), ob_some, cl_tab _ (by omega)]
    refine Ev.gd (inb_nI (by omega) (by decide)) (Ev.letv ?_)
    rw [nI_clamp (show amx (rT (daysS (svX M) skN n (vwM M))) 35 < 2 ^ 31 by omega)]
    exact Ev.bind (thm_lays hN) (fun _ M2 q4 => Ev.ret ⟨hN.T (by omega), q4⟩)
theorem seatsM_ev {T : Nat} {M : Mem} (h : RelT T M) (v n w : Int32) : Ev (fX11_seats v n w M) (fun r M1 => r = seatsS v n w M ∧ Lk M M1) := by
  have hI := h.2.2.2.2.1
  have hv : vwX 0 M = vwM M := h.2.2.2.2.2.1
  unfold fX11_seats seatsS
  rw [oneM_ev v hI, ob_some, hv]
  refine Ev.ite (fun h0 => Ev.ret ⟨by rw [if_pos (show hasS v (vwM M) = 0 from h0)], Lk.rf⟩) (fun h0 => ?_)
  rw [if_neg (show ¬ hasS v (vwM M) = 0 from h0), in_ev, ob_some]
  refine Ev.ite (fun h1 => Ev.ret ⟨by rw [if_pos h1], Lk.rf⟩) (fun h1 => ?_)
  rw [if_neg h1, in_ev, ob_some]
  refine Ev.ite (fun h2 => Ev.ret ⟨by rw [if_pos h2], Lk.rf⟩) (fun h2 => ?_)
  rw [if_neg h2]
  obtain ⟨q, hq, rfl⟩ := has_rng hI.2.2.2.1 h0
  obtain ⟨d, hd, rfl⟩ := rng (n := 20) (by decide) (not_bt h1)
  have hq6 : q < 6 := Nat.lt_of_lt_of_le hq hI.2.2.2.1.1
  have iq : inb (nI q) 6 = true := inb_nI hq6 (by decide)
  have cq := nI_clamp (show q < 2 ^ 31 by omega)
  rw [cq, nI_clamp (show d < 2 ^ 31 by omega)]
  have hf : ∀ c, seatF M q d c = rT (daysS (svX M) skN d (setA (vwM M) 0 q (nI c))) (amx (rT (daysS (svX M) skN d (setA (vwM M) 0 q (nI c)))) 35) := fun c => by rw [← hv]; rfl
  generalize seatF M q d = F at hf
  generalize h36 : (36 : Nat) = m
  refine Ev.gd iq (Ev.letv ?_)
  refine Ev.loop (f := fun k (x : Int32 × Int32 × Int32) N => fX11_seats_L50 (nI q) (nI d) w (M 25 0 q) k x.1 x.2.1 x.2.2 N) (B := fun k x N => fX11_seats_B50 (nI q) (nI d) w (M 25 0 q) (fun a b e M => k (a, b, e) M) x.1 x.2.1 x.2.2 N) (fun _ _ _ => rfl) m
    (fun j x N => x = ((bsS (-1, 0) F j).1, (bsS (-1, 0) F j).2, nI j) ∧ ∃ z, Lk (mst M (trK 0) 0 q z) N) ?_ ?_ FU 0 (-1, 0, nI 0) M (Nat.zero_le _) (by show _ < 2000 + 0; omega) ⟨rfl, M (trK 0) 0 q, by rw [mst_id]; exact Lk.rf⟩
  · rintro k j x N hj ⟨rfl, z, hN⟩ hk
    show Ev (fX11_seats_B50 (nI q) (nI d) w (M 25 0 q) (fun a b e M => k (a, b, e) M) (bsS (-1, 0) F j).1 (bsS (-1, 0) F j).2 (nI j) N) _
    unfold fX11_seats_B50
    rw [if_neg (fun q => by have := (nI_leI (a := 36) (by omega) (by omega)).mp q; omega), cq]
    refine Ev.gd iq (Ev.let_ fun N2 h2 => ?_)
    have k2 : Lk (mst M (trK 0) 0 q (nI j)) N2 := by rw [h2]; exact hN.put (trK_ok (t := 0) (by omega))
    obtain ⟨i1, i2⟩ := inM_put (t := 0) (x := j) hI hq (by omega) (by show j < 36; omega)
    refine Ev.bind (behM_ev (n := d) (k2.txt (put_txt h.1)) (k2.inM i1) (by omega)) (fun a N4 q4 => ?_)
    rw [k2.sv, put_sv, k2.vM, i2, ← hf] at q4
    obtain ⟨rfl, q5⟩ := q4
    have hb : bsS (-1, 0) F (j + 1) = bstep (bsS (-1, 0) F j) (nI j) (F j) := rfl
    have k4 := k2.tr q5
    unfold fX11_seats_J85 fX11_seats_J90 fX11_seats_J104
    rw [nI_1, if_neg (show ¬ (1 : Int32) = 0 by decide), if_neg (show ¬ (1 : Int32) = 0 by decide), if_pos (show (0 : Int32) = 0 from rfl), if_pos (show (0 : Int32) = 0 from rfl)]
    refine Ev.ite (fun e => ?_) (fun e => ?_)
    · refine hk _ N4 ⟨?_, _, k4⟩
      rw [hb, bstep, if_pos e]
    · refine Ev.ite (fun e2 => ?_) (fun e2 => ?_)
      · refine hk _ N4 ⟨?_, _, k4⟩
        rw [hb, bstep, if_neg e, if_pos e2]
      · refine hk _ N4 ⟨?_, _, k4⟩
        rw [hb, bstep, if_neg e, if_neg e2]
  · rintro k x N ⟨rfl, z, hN⟩
    show Ev (fX11_seats_B50 (nI q) (nI d) w (M 25 0 q) (fun a b e M => k (a, b, e) M) (bsS (-1, 0) F m).1 (bsS (-1, 0) F m).2 (nI m) N) _
    unfold fX11_seats_B50 pick
    rw [if_pos (by rw [← h36]; decide), cq]
    have hb := (hN.put (v := M (trK 0) 0 q) (trK_ok (t := 0) (by omega))).back
    exact Ev.gd iq (Ev.letv (Ev.ite (fun e => Ev.ret ⟨by rw [if_pos e], hb⟩) (fun e => Ev.ret ⟨by rw [if_neg e], hb⟩)))
theorem seats_same (v n w : Int32) : Same (fX10_seats v n w) (fX11_seats v n w) :=
  Same.ask (seatsS v n w) (fun M M1 h => by
    have e : ∀ p n, seatF M1 p n = seatF M p n := fun p n => by unfold seatF; rw [h.sv, h.vX]
    unfold seatsS
    rw [h.vX, e]) (fun _ _ h => seatsX_ev h v n w) (fun _ _ h => seatsM_ev h v n w)
end SE
