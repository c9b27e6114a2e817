/-! were one otherwise: suppose on the class, a row set for a while on the reference -/
section FT
def bnd (t : Nat) : Nat := if t = 0 then 36 else if t = 1 then 100 else if t = 2 then 6 else 10
theorem okA_set4 {R : Rm} {t p n : Nat} (h : okA R) (ht : t < 4) (hn : n < bnd t) : okA (setA R t p (nI n)) := by
  refine ⟨h.1, fun q hq => ?_⟩
  obtain ⟨h0, h1, h2, h3⟩ := h.2 q hq
  have key : ∀ t', rA (setA R t p (nI n)) t' q = (if t' = t ∧ q = p then nI n else rA R t' q) := fun _ => rfl
  rw [key, key, key, key]
  refine ⟨?_, ?_, ?_, ?_⟩
  · split
    · rename_i e
      rw [← e.1] at hn
      exact ⟨n, hn, rfl⟩
    · exact h0
  · split
    · rename_i e
      rw [← e.1] at hn
      exact ⟨n, hn, rfl⟩
    · exact h1
  · split
    · rename_i e
      rw [← e.1] at hn
      exact ⟨n, hn, rfl⟩
    · exact h2
  · split
    · rename_i e
      rw [← e.1] at hn
      exact ⟨n, hn, rfl⟩
    · exact h3
theorem supX_ev {T t p x : Nat} {M N : Mem} (hI : InX T 0 M) (hk : Kp M N) (hp : p < rN (vwX 0 M)) (ht : t < 4) (hx : x < bnd t) : Ev (fX10_suppose (nI p) (nI t) (nI x) N) (fun _ N2 => ThX T M N2 (setA (vwX 0 M) t p (nI x))) := by
  have hp6 : p < 6 := Nat.lt_of_lt_of_le hp hI.2.2.2.1.1
  unfold fX10_suppose
  refine Ev.bind (thx_take hI hk) (fun _ N1 q1 => ?_)
  refine Ev.gd (inb_nI ht (by decide)) (Ev.gd (inb_nI hp6 (by decide)) (Ev.let_ fun N2 h2 => Ev.ret ?_))
  rw [nI_clamp (show t < 2 ^ 31 by omega), nI_clamp (show p < 2 ^ 31 by omega)] at h2
  obtain ⟨k1, k2, k3⟩ := q1
  have ev : vwX 1 N2 = setA (vwX 0 M) t p (nI x) := by
    rw [h2, vwX_put ht (by rw [k3]; exact hp), k3]
  refine ⟨fun K i hK => ?_, ?_, ev⟩
  · rw [h2, mst_n (fun q => ?_)]
    · exact k1 K i hK
    · obtain ⟨rfl, rfl⟩ := q
      simp only [keptK] at hK
      omega
  · have e15 : N2 15 1 = N1 15 1 := by rw [h2, mst_n (by simp)]
    obtain ⟨a1, a2, a3, a4, a5⟩ := k2
    rw [k3] at a1 a2 a3 a4 a5
    exact ⟨by rw [e15, ev]; exact a1, by rw [e15, ev]; exact a2, by rw [ev]; exact a3, by rw [ev]; exact okA_set4 a4 ht hx, by rw [ev]; exact a5⟩
theorem upd_upd {f : Nat → Int32} {p : Nat} {a b : Int32} : upd (upd f p a) p b = upd f p b := by
  funext y
  by_cases e : y = p <;> simp [upd, e]
theorem upd_id {f : Nat → Int32} {p : Nat} : upd f p (f p) = f := by
  funext y
  by_cases e : y = p
  · subst e; simp [upd]
  · simp [upd, e]
theorem mst_id {M : Mem} {K i p : Nat} : mst M K i p (M K i p) = M := by
  funext K' i'
  by_cases e : K' = K ∧ i' = i
  · rw [e.1, e.2, mst_s, upd_id]
  · rw [mst_n e]
theorem Lk.put {M N : Mem} {K p : Nat} {z v : Int32} (hK : K ≠ 22 ∧ K ≠ 27 ∧ keptK K 0) (h : Lk (mst M K 0 p z) N) : Lk (mst M K 0 p v) (mst N K 0 p v) := by
  obtain ⟨h1, h2, h3⟩ := h
  refine ⟨fun K' i a b c => ?_, fun c hc => ?_, fun s hs => ?_⟩
  · by_cases e : K' = K ∧ i = 0
    · rw [e.1, e.2, mst_s, mst_s, h1 K 0 hK.2.2 hK.2.1 hK.1, mst_s, upd_upd]
    · rw [mst_n e, mst_n e, h1 K' i a b c, mst_n e]
  · rw [mst_n (fun q => hK.2.1 q.1.symm), mst_n (fun q => hK.2.1 q.1.symm), h2 c hc, mst_n (fun q => hK.2.1 q.1.symm)]
  · rw [mst_n (fun q => hK.1 q.1.symm), mst_n (fun q => hK.1 q.1.symm), h3 s hs, mst_n (fun q => hK.1 q.1.symm)]
theorem Lk.back {M N : Mem} {K p : Nat} (h : Lk (mst M K 0 p (M K 0 p)) N) : Lk M N := by
  rw [mst_id] at h
  exact h
theorem trK_ok {t : Nat} (ht : t < 4) : trK t ≠ 22 ∧ trK t ≠ 27 ∧ keptK (trK t) 0 := by
  match t, ht with
  | 0, _ => exact ⟨by decide, by decide, by simp [trK, keptK]⟩
  | 1, _ => exact ⟨by decide, by decide, by simp [trK, keptK]⟩
  | 2, _ => exact ⟨by decide, by decide, by simp [trK, keptK]⟩
  | 3, _ => exact ⟨by decide, by decide, by simp [trK, keptK]⟩
  | t + 4, h => omega
theorem inM_put {T t p x : Nat} {M : Mem} (hI : InM T M) (hp : p < rN (vwM M)) (ht : t < 4) (hx : x < bnd t) : InM T (mst M (trK t) 0 p (nI x)) ∧ vwM (mst M (trK t) 0 p (nI x)) = setA (vwM M) t p (nI x) := by
  have ev := vwM_put (M := M) (v := nI x) ht hp
  have e22 : mst M (trK t) 0 p (nI x) 22 0 = M 22 0 := mst_n (fun q => (trK_ok ht).1 q.1.symm)
  obtain ⟨a1, a2, a3, a4, a5⟩ := hI
  exact ⟨⟨by rw [ev, e22]; exact a1, by rw [ev, e22]; exact a2, by rw [ev]; exact a3, by rw [ev]; exact okA_set4 a4 ht hx, by rw [ev]; exact a5⟩, ev⟩
theorem trK_off {t p : Nat} {M : Mem} {v : Int32} {K i : Nat} (h : K ≠ 23) (h2 : K ≠ 24) (h3 : K ≠ 25) (h4 : K ≠ 26) : mst M (trK t) 0 p v K i = M K i := mst_n (fun q => by
  have : trK t = 23 ∨ trK t = 24 ∨ trK t = 25 ∨ trK t = 26 := by unfold trK; split <;> simp
  omega)
theorem put_sv {t p : Nat} {M : Mem} {v : Int32} : svX (mst M (trK t) 0 p v) = svX M := svX_off (fun i => trK_off (by decide) (by decide) (by decide) (by decide)) (fun i => trK_off (by decide) (by decide) (by decide) (by decide))
theorem put_txt {T t p : Nat} {M : Mem} {v : Int32} (h : Txt T M) : Txt T (mst M (trK t) 0 p v) := h.off (fun i => ⟨trK_off (by decide) (by decide) (by decide) (by decide), trK_off (by decide) (by decide) (by decide) (by decide), trK_off (by decide) (by decide) (by decide) (by decide)⟩) (trK_off (by decide) (by decide) (by decide) (by decide)) (trK_off (by decide) (by decide) (by decide) (by decide))
theorem put_sh {t p s : Nat} {M : Mem} {v : Int32} : shM s (mst M (trK t) 0 p v) = shM s M := shM_eq (trK_off (by decide) (by decide) (by decide) (by decide)) (trK_off (by decide) (by decide) (by decide) (by decide)) (trK_off (by decide) (by decide) (by decide) (by decide))
theorem Lk.sh {M N : Mem} (h : Lk M N) (s : Nat) : shM s N = shM s M := shM_eq (h.1 _ _ (by simp [keptK]) (by decide) (by decide)) (h.1 _ _ (by simp [keptK]) (by decide) (by decide)) (h.1 _ _ (by simp [keptK]) (by decide) (by decide))
/-- unlike, with one of people otherwise -/
theorem unStep {T s c n t p x : Nat} {z : Int32} {M N : Mem} (hT : Txt T M) (hI : InM T M) (hs : s < 4) (hc : c < 36) (hn : n ≤ 40) (en : (shM s M).2.1 = nI n) (hp : p < rN (vwM M)) (ht : t < 4) (hx : x < bnd t) (h : Lk (mst M (trK t) 0 p z) N) : Ev (fX11_unlike (nI s) (nI c) (mst N (trK t) 0 p (nI x))) (fun r M1 => r = fstI (foP (svX M) (setA (vwM M) t p (nI x)) (shM s M).2.2 c) n ∧ Lk (mst M (trK t) 0 p (nI x)) M1) := by
  have h2 : Lk (mst M (trK t) 0 p (nI x)) (mst N (trK t) 0 p (nI x)) := h.put (trK_ok ht)
  obtain ⟨i1, i2⟩ := inM_put hI hp ht hx
  have e1 : shM s (mst N (trK t) 0 p (nI x)) = shM s M := by rw [h2.sh, put_sh]
  refine (unM_ev (n := n) (h2.txt (put_txt hT)) (h2.inM i1) hs hc hn (by rw [e1]; exact en)).mono (fun r M1 q => ⟨?_, h2.tr q.2⟩)
  rw [q.1, e1, h2.sv, put_sv, h2.vM, i2]
/-! sets of bits, counts -/
def bitsL (P : Nat → Bool) : Nat → Int64
  | 0 => 0
  | n + 1 => bitsL P n ||| (if P n = true then lshl 1 (nI n) else 0)
def bitsI (P : Nat → Bool) : Nat → Int32
  | 0 => 0
  | n + 1 => bitsI P n ||| (if P n = true then 1 <<< (nI n &&& 31) else 0)
def cntI (P : Nat → Bool) : Nat → Int32
  | 0 => 0
  | n + 1 => cntI P n + (if P n = true then 1 else 0)
theorem lshl_tab : ∀ n, n < 31 → (lshl 1 (nI n)).toInt32 = 1 <<< (nI n &&& 31) := by decide +kernel
theorem bitsL_I {P : Nat → Bool} : ∀ n, n ≤ 31 → (bitsL P n).toInt32 = bitsI P n := by
  intro n
  induction n with
  | zero => intro _; rfl
  | succ n ih =>
    intro hn
    show (bitsL P n ||| (if P n = true then lshl 1 (nI n) else 0)).toInt32 = bitsI P n ||| (if P n = true then 1 <<< (nI n &&& 31) else 0)
    rw [Int64.toInt32_or, ih (by omega)]
    by_cases e : P n = true
    · rw [if_pos e, if_pos e, lshl_tab n (by omega)]
    · rw [if_neg e, if_neg e]
      rfl
theorem or0L (a : Int64) : a ||| 0 = a := by simp
theorem or0I (a : Int32) : a ||| 0 = a := by simp
def fitP (M : Mem) (s c p t : Nat) : Nat → Bool := fun x => decide (fstI (foP (svX M) (setA (vwX 0 M) t p (nI x)) (shX s M).2.2 c) (shX s M).2.1.toNatClampNeg = -1)
theorem Kp.fit {M M1 : Mem} (h : Kp M M1) (s c p t : Nat) : fitP M1 s c p t = fitP M s c p t := by
  unfold fitP
  rw [h.sv, h.vX, h.sh]
theorem fitX_ev {T s c p t m n : Nat} {M : Mem} (h : RelT T M) (hs : s < 4) (hc : c < 36) (hn : n ≤ 40) (en : (shX s M).2.1 = nI n) (hp : p < rN (vwX 0 M)) (ht : t < 4) (hm : m ≤ bnd t) : Ev (fX10_fitting (nI s) (nI c) (nI p) (nI t) (nI m) M) (fun r M1 => r = bitsL (fitP M s c p t) m ∧ Kp M M1) := by
  have hb : bnd t ≤ 100 := by unfold bnd; split <;> (try split) <;> (try split) <;> omega
  have hf : ∀ x, fitP M s c p t x = decide (fstI (foP (svX M) (setA (vwX 0 M) t p (nI x)) (shX s M).2.2 c) n = -1) := fun x => by
    unfold fitP
    rw [en, nI_clamp (show n < 2 ^ 31 by omega)]
  generalize fitP M s c p t = P at hf
  unfold fX10_fitting
  refine Ev.loop (f := fun k (x : Int64 × Int32) M => fX10_fitting_L6 (nI s) (nI c) (nI p) (nI t) (nI m) k x.1 x.2 M) (B := fun k x M => fX10_fitting_B6 (nI s) (nI c) (nI p) (nI t) (nI m) (fun a b M => k (a, b) M) x.1 x.2 M) (fun _ _ _ => rfl) m
    (fun j x N => x = (bitsL P j, nI j) ∧ Kp M N) ?_ ?_ FU 0 (0, nI 0) M (Nat.zero_le _) (by show _ < 2000 + 0; omega) ⟨rfl, Kp.rf⟩
  · rintro k j x N hj ⟨rfl, hN⟩ hk
    show Ev (fX10_fitting_B6 (nI s) (nI c) (nI p) (nI t) (nI m) (fun a b M => k (a, b) M) (bitsL P j) (nI j) N) _
    unfold fX10_fitting_B6
    rw [if_neg (fun q => by have := (nI_leI (by omega) (by omega)).mp q; omega), nI_clamp (show s < 2 ^ 31 by omega)]
    refine Ev.bind (supX_ev (x := j) h.2.2.2.1 hN hp ht (by omega)) (fun _ N2 q2 => ?_)
    refine Ev.gd (inb_nI hs (by decide)) (Ev.bind (foX_ev h.1 q2 hc hn en) (fun r N3 q3 => ?_))
    rw [nI_1]
    refine Ev.ite (fun e => Ev.letv ?_) (fun e => ?_)
    · refine hk _ N3 ⟨?_, q3.2⟩
      show (_, _) = (bitsL P j ||| (if P j = true then lshl 1 (nI j) else 0), nI (j + 1))
      rw [if_pos (by rw [hf]; exact decide_eq_true (by rw [← q3.1]; exact e))]
    · refine hk _ N3 ⟨?_, q3.2⟩
      show (_, _) = (bitsL P j ||| (if P j = true then lshl 1 (nI j) else 0), nI (j + 1))
      rw [if_neg (by rw [hf]; simp only [decide_eq_true_eq]; rw [← q3.1]; exact e), or0L]
  · rintro k x N ⟨rfl, hN⟩
    show Ev (fX10_fitting_B6 (nI s) (nI c) (nI p) (nI t) (nI m) (fun a b M => k (a, b) M) (bitsL P m) (nI m) N) _
    unfold fX10_fitting_B6
    rw [if_pos ((nI_leI (by omega) (by omega)).mpr (Nat.le_refl _))]
    exact Ev.ret ⟨rfl, hN⟩
def hasS (p : Int32) (R : Rm) : Int32 := bt (decide (0 ≤ p) && decide (p ≤ nI (rN R) - 1))
theorem has_rng {p : Int32} {R : Rm} (h : okA R) (h0 : ¬ hasS p R = 0) : ∃ q, q < rN R ∧ p = nI q := one_rng h.1 (not_bt h0)
def rtoS (v w p : Int32) (V : Nat → Sh) (R : Rm) : Int32 := if rtS v w V = 0 then (if hasS p R = 0 then -6 else 0) else rtS v w V
theorem rtoX_ev {T : Nat} {M : Mem} (h : RelT T M) (v w p : Int32) : fX10_refuseTaleOf v w p M = some (rtoS v w p (fun s => shX s M) (vwX 0 M), M) := by
  unfold fX10_refuseTaleOf rtoS
  rw [rtX_ev, ob_some]
  by_cases h0 : rtS v w (fun s => shX s M) = 0
  · rw [if_pos h0, if_pos h0, hasX_ev 0 p h.2.2.2.1, ob_some]
    show (if hasS p (vwX 0 M) = 0 then _ else _) = _
    by_cases h1 : hasS p (vwX 0 M) = 0
    · rw [if_pos h1, if_pos h1]
    · rw [if_neg h1, if_neg h1]
  · rw [if_neg h0, if_neg h0]
theorem rtoS_0 {v w p : Int32} {V : Nat → Sh} {R : Rm} (h : rtoS v w p V R = 0) : rtS v w V = 0 ∧ ¬ hasS p R = 0 := by
  unfold rtoS at h
  split at h
  · rename_i h0
    split at h
    · exact absurd h (by decide)
    · rename_i h1; exact ⟨h0, h1⟩
  · rename_i h0; exact absurd h h0
/-! where -/
def whereS (v w p : Int32) (M : Mem) : Int64 := if rtoS v w p (fun s => shX s M) (vwX 0 M) = 0 then bitsL (fitP M v.toNatClampNeg w.toNatClampNeg p.toNatClampNeg 0) 36 else -4611686018427387904
theorem shf {M M1 : Mem} (h : Kp M M1) : (fun s => shX s M1) = (fun s => shX s M) := funext fun s => h.sh s
theorem whereX_ev {T : Nat} {M : Mem} (h : RelT T M) (v w p : Int32) : Ev (fX10_where v w p M) (fun r M1 => r = whereS v w p M ∧ Kp M M1) := by
  unfold fX10_where whereS
  rw [rtoX_ev h, ob_some]
  refine Ev.ite (fun h0 => ?_) (fun h0 => Ev.ret ⟨by rw [if_neg h0], Kp.rf⟩)
  rw [if_pos h0]
  obtain ⟨g1, g2⟩ := rtoS_0 h0
  obtain ⟨s, c, n, rfl, hs, rfl, hc, hn, en⟩ := rtS_0 g1 h.ok
  obtain ⟨q, hq, rfl⟩ := has_rng h.2.2.2.1.2.2.2.1 g2
  have hq6 : q < 6 := Nat.lt_of_lt_of_le hq h.2.2.2.1.2.2.2.1.1
  rw [nI_clamp (show s < 2 ^ 31 by omega), nI_clamp (show c < 2 ^ 31 by omega), nI_clamp (show q < 2 ^ 31 by omega)]
  exact Ev.bind (fitX_ev (t := 0) (m := 36) (n := n) h hs hc (by omega) en hq (by omega) (by decide)) (fun r M1 z => Ev.ret z)
theorem whereM_ev {T : Nat} {M : Mem} (h : RelT T M) (v w p : Int32) : Ev (fX11_where v w p M) (fun r M1 => r = whereS v w p M ∧ Lk M M1) := by
  have hI := h.2.2.2.2.1
  have hv : vwX 0 M = vwM M := h.2.2.2.2.2.1
  unfold fX11_where whereS rtoS
  rw [rtM_ev, ob_some, rtS_eq h]
  refine Ev.ite (fun h0 => ?_) (fun h0 => Ev.ret ⟨by rw [if_neg h0, if_neg h0], Lk.rf⟩)
  rw [if_pos h0, oneM_ev p hI, ob_some]
  show Ev (ite (hasS p (vwM M) = 0) _ _) _
  rw [hv]
  refine Ev.ite (fun h1 => Ev.ret ⟨by rw [if_pos h1, if_neg (by decide)], Lk.rf⟩) (fun h1 => ?_)
  rw [if_neg h1, if_pos rfl]
  obtain ⟨s, c, n, rfl, hs, rfl, hc, hn, en⟩ := rtS_0 h0 h.ok
  obtain ⟨q, hq, rfl⟩ := has_rng hI.2.2.2.1 h1
  have hq6 : q < 6 := Nat.lt_of_lt_of_le hq hI.2.2.2.1.1
  have iq : inb (nI q) 6 = true := inb_nI hq6 (by decide)
  have cq := nI_clamp (show q < 2 ^ 31 by omega)
  have esh := (h.2.2.2.2.2.2.2.2.1.eq (s := s) hs).1
  rw [nI_clamp (show s < 2 ^ 31 by omega), nI_clamp (show c < 2 ^ 31 by omega), cq]
  have hf : ∀ x, fitP M s c q 0 x = decide (fstI (foP (svX M) (setA (vwM M) 0 q (nI x)) (shM s M).2.2 c) n = -1) := fun x => by
    unfold fitP
    rw [en, nI_clamp (show n < 2 ^ 31 by omega), hv, esh]
  generalize fitP M s c q 0 = P at hf
  refine Ev.gd iq (Ev.letv ?_)
  refine Ev.loop (f := fun k (x : Int64 × Int32) N => fX11_where_L35 (nI s) (nI c) (nI q) (M 25 0 q) k x.1 x.2 N) (B := fun k x N => fX11_where_B35 (nI s) (nI c) (nI q) (M 25 0 q) (fun a b M => k (a, b) M) x.1 x.2 N) (fun _ _ _ => rfl) 36
    (fun j x N => x = (bitsL P j, nI j) ∧ ∃ z, Lk (mst M (trK 0) 0 q z) N) ?_ ?_ FU 0 (0, nI 0) M (Nat.zero_le _) (by show _ < 2000 + 0; omega) ⟨rfl, M 25 0 q, by rw [show M 25 0 q = M (trK 0) 0 q from rfl, mst_id]; exact Lk.rf⟩
  · rintro k j x N hj ⟨rfl, z, hN⟩ hk
    show Ev (fX11_where_B35 (nI s) (nI c) (nI q) (M 25 0 q) (fun a b M => k (a, b) M) (bitsL P j) (nI j) N) _
    unfold fX11_where_B35
    rw [if_neg (fun q => by have := (nI_leI (a := 36) (by omega) (by omega)).mp q; omega), cq]
    refine Ev.gd iq (Ev.letv ?_)
    refine Ev.bind (unStep (t := 0) (x := j) (n := n) h.1 hI hs hc (by omega) (by rw [← esh]; exact en) hq (by omega) hj hN) (fun r N3 q3 => ?_)
    rw [nI_1]
    refine Ev.ite (fun e => Ev.letv ?_) (fun e => Ev.letv ?_)
    · refine hk _ N3 ⟨?_, _, q3.2⟩
      show (_, _) = (bitsL P j ||| (if P j = true then lshl 1 (nI j) else 0), nI (j + 1))
      rw [if_pos (by rw [hf]; exact decide_eq_true (by rw [← q3.1]; exact e))]
    · refine hk _ N3 ⟨?_, _, q3.2⟩
      show (_, _) = (bitsL P j ||| (if P j = true then lshl 1 (nI j) else 0), nI (j + 1))
      rw [if_neg (by rw [hf]; simp only [decide_eq_true_eq]; rw [← q3.1]; exact e)]
  · rintro k x N ⟨rfl, z, hN⟩
    show Ev (fX11_where_B35 (nI s) (nI c) (nI q) (M 25 0 q) (fun a b M => k (a, b) M) (bitsL P 36) (nI 36) N) _
    unfold fX11_where_B35
    rw [if_pos (by decide), cq]
    exact Ev.gd iq (Ev.letv (Ev.ret ⟨rfl, (hN.put (v := M (trK 0) 0 q) (trK_ok (t := 0) (by omega))).back⟩))
theorem where_same (v w p : Int32) : SameL (fX10_where v w p) (fX11_where v w p) :=
  SameL.ask (whereS v w p) (fun M M1 h => by unfold whereS; rw [shf h, h.vX, h.fit]) (fun _ _ h => whereX_ev h v w p) (fun _ _ h => whereM_ev h v w p)
end FT
