/-! way: the reference -/
section WY
def AllS (w : DV) (s : Nat) (d : DV) : Prop := ∀ c, c < 36 → Stl w s d c
theorem RS.no {w : DV} {s B y c u x : Nat} {d0 d : DV} {f : Bool} {Q : Nat → Nat → Prop} (h : RS w s d0 d f B Q) (hA : AllS w s d0) (hy : y < 36) (hc : c < 36) (hap : apN y c = 1) (hu : d y = some u) (hx : w c = some x) (hlt : ∀ v, d c = some v → u + x < v) : False := by
  obtain ⟨n, hw⟩ := h.2.1 y hy u hu
  obtain ⟨v, e, l⟩ := (hA c hc).mono (h.1 c hc) (n + 1) (u + x) ⟨y, u, x, hw, hy, hap, hc, hx, rfl⟩
  have := hlt v e
  omega
def eO (o : Option Nat) : Int32 := match o with
  | none => -1
  | some v => nI v
def W300 (w : DV) : Prop := ∀ c x, w c = some x → x ≤ 300
def EnM (w d : DV) (M : Mem) : Prop := (∀ c, c < 36 → M 42 0 c = eO (w c)) ∧ ∀ c, c < 36 → M 43 0 c = eO (d c)
abbrev o43 : Nat → Nat → Prop := fun K i => K = 43 ∧ i = 0
theorem rlxM_ev {w d0 d : DV} {s B y c : Nat} {f : Bool} {Q : Nat → Nat → Prop} {M : Mem} (hy : y < 36) (hc : c < 36) (hap : apN y c = 1) (hE : EnM w d M) (hw : W300 w) (hR : RS w s d0 d f B Q) (hB : B < 2 ^ 29) (hf : AllS w s d0 → f = false) :
    Ev (fX11_relaxes (nI y) (nI c) M) (fun r M1 => ∃ (d' : DV) (g : Bool), r = bt g ∧ EnM w d' M1 ∧ RS w s d0 d' (f || g) (B + 300) (fun a b => Q a b ∨ (a = y ∧ b = c)) ∧ (AllS w s d0 → (f || g) = false) ∧ Off o43 M M1) := by
  have iy : inb (nI y) 36 = true := inb_nI hy (by decide)
  have ic : inb (nI c) 36 = true := inb_nI hc (by decide)
  unfold fX11_relaxes
  rw [nI_clamp (show y < 2 ^ 31 by omega), nI_clamp (show c < 2 ^ 31 by omega), hE.2 y hy, hE.1 c hc, hE.2 c hc]
  have stay : (∀ u x, d y = some u → w c = some x → ∃ v, d c = some v ∧ v ≤ u + x) → Ev (some ((0 : Int32), M)) (fun r M1 => ∃ (d' : DV) (g : Bool), r = bt g ∧ EnM w d' M1 ∧ RS w s d0 d' (f || g) (B + 300) (fun a b => Q a b ∨ (a = y ∧ b = c)) ∧ (AllS w s d0 → (f || g) = false) ∧ Off o43 M M1) := fun hn => Ev.ret ⟨d, false, rfl, hE, by rw [Bool.or_false]; exact (hR.keep hy hn).more (by omega) (fun _ _ _ _ q => q), fun q => by rw [Bool.or_false]; exact hf q, Off.rf⟩
  refine Ev.gd iy (Ev.ite (fun e => stay (fun u x e1 _ => ?_)) (fun e => ?_))
  · rw [e1] at e
    exact absurd e (nI_nm1 (by have := hR.2.2.1 y hy u e1; omega))
  cases hu : d y with
  | none => rw [hu] at e; exact absurd rfl e
  | some u =>
    have huB := hR.2.2.1 y hy u hu
    refine Ev.gd ic (Ev.ite (fun e2 => stay (fun u' x e1 e3 => ?_)) (fun e2 => ?_))
    · rw [e3] at e2
      exact absurd e2 (nI_nm1 (by have := hw c x e3; omega))
    cases hx : w c with
    | none => rw [hx] at e2; exact absurd rfl e2
    | some x =>
      have hx3 := hw c x hx
      have est : eO (some u) + eO (some x) = nI (u + x) := nI_add u x
      refine Ev.gd iy (Ev.gd ic (Ev.letv (Ev.gd ic ?_)))
      rw [est]
      have set : (∀ v, d c = some v → u + x < v) → Ev (fX11_relaxes_J58 (nI c) (nI (u + x)) M) (fun r M1 => ∃ (d' : DV) (g : Bool), r = bt g ∧ EnM w d' M1 ∧ RS w s d0 d' (f || g) (B + 300) (fun a b => Q a b ∨ (a = y ∧ b = c)) ∧ (AllS w s d0 → (f || g) = false) ∧ Off o43 M M1) := by
        intro hlt
        unfold fX11_relaxes_J58
        refine Ev.gd ic (Ev.let_ fun M2 h2 => Ev.ret ⟨fun z => if z = c then some (u + x) else d z, true, rfl, ⟨fun z hz => ?_, fun z hz => ?_⟩, by rw [Bool.or_true]; exact hR.set hy hc hap hu hx hx3 hlt, fun q => (hR.no q hy hc hap hu hx hlt).elim, by rw [h2]; exact Off.rf.mst ⟨rfl, rfl⟩⟩)
        · rw [h2, mst_n (by simp)]
          exact hE.1 z hz
        · rw [nI_clamp (show c < 2 ^ 31 by omega)] at h2
          rw [h2, mst_s]
          by_cases ez : z = c
          · subst ez
            simp [upd, eO]
          · simp only [upd, if_neg ez]
            exact hE.2 z hz
      cases hd : d c with
      | none =>
        rw [if_pos (show eO none = -1 from rfl)]
        exact set (fun v q => by rw [hd] at q; cases q)
      | some v =>
        have hvB := hR.2.2.1 c hc v hd
        rw [if_neg (show ¬ eO (some v) = -1 from nI_nm1 (by omega))]
        refine Ev.gd ic ?_
        show Ev (ite (nI (u + x) < nI v) _ _) _
        refine Ev.ite (fun e3 => set (fun v' q => ?_)) (fun e3 => stay (fun u' x' e4 e5 => ?_))
        · rw [hd] at q
          cases q
          exact (nI_ltI (by omega) (by omega)).mp e3
        · rw [hu] at e4
          cases e4
          rw [hx] at e5
          cases e5
          refine ⟨v, hd, ?_⟩
          by_cases q : v ≤ u + x
          · exact q
          · exact absurd ((nI_ltI (by omega) (by omega)).mpr (by omega)) e3
theorem ap_tab : ∀ a, a < 36 → ∀ b, b < 36 → apN a b = 1 → (a < b → (b = a + 1 ∧ a % 6 < 5) ∨ (b = a + 6 ∧ a < 30)) ∧ (b < a → (a = b + 1 ∧ b % 6 < 5) ∨ (a = b + 6 ∧ b < 30)) ∧ a ≠ b := by
  intro a ha b hb h
  unfold apN at h
  refine ⟨fun q => ?_, fun q => ?_, fun q => ?_⟩ <;> omega
def bJ (B j : Nat) : Nat := B + 1200 * j
theorem bJ_s {B j : Nat} : bJ B (j + 1) = bJ B j + 1200 := by unfold bJ; omega
theorem bJ_le {B j : Nat} (h : j ≤ 36) : bJ B j ≤ B + 43200 := by unfold bJ; omega
def bR (j : Nat) : Nat := 300 + 50000 * j
theorem ap_hv : ∀ a, a < 36 → (a % 6 < 5 → a + 1 < 36 ∧ apN a (a + 1) = 1 ∧ apN (a + 1) a = 1) ∧ (a < 30 → apN a (a + 6) = 1 ∧ apN (a + 6) a = 1) := by decide +kernel
theorem bt_or (a b : Bool) : bt a ||| bt b = bt (a || b) := by cases a <;> cases b <;> decide
abbrev Qj (j : Nat) : Nat → Nat → Prop := fun a b => apN a b = 1 ∧ (a < j ∨ b < j)
set_option maxHeartbeats 1000000 in
theorem roundM_ev {w d : DV} {s B : Nat} {cs : Int32} {M : Mem} {k139 : Int32 → Mem → Option (Int32 × Mem)} {P : Int32 → Mem → Prop} (hE : EnM w d M) (hw : W300 w) (hS : Snd w s d) (hBd : Bd B d) (hB : B + 50000 < 2 ^ 29)
    (hk : ∀ (d' : DV) (f : Bool) (M1 : Mem), EnM w d' M1 → Snd w s d' → Bd (B + 50000) d' → Rnd w d d' → (f = false → d' = d) → (AllS w s d → f = false) → Off o43 M M1 → Ev (k139 (bt f) M1) P) : Ev (fX11_way_L150 k139 cs FU 0 0 M) P := by
  refine Ev.loop (f := fun k (x : Int32 × Int32) M => fX11_way_L150 k139 cs k x.1 x.2 M) (B := fun k x M => fX11_way_B150 k139 cs (fun a b M => k (a, b) M) x.1 x.2 M) (fun _ _ _ => rfl) 36
    (fun j x N => ∃ (d' : DV) (f : Bool), x = (bt f, nI j) ∧ EnM w d' N ∧ RS w s d d' f (bJ B j) (Qj j) ∧ (AllS w s d → f = false) ∧ Off o43 M N) ?_ ?_ FU 0 (0, nI 0) M (Nat.zero_le _) (by show _ < 2000 + 0; omega) ⟨d, false, rfl, hE, (RS.begin hS hBd).more (Nat.le_refl _) (fun y c _ _ q => by omega), fun _ => rfl, Off.rf⟩
  · rintro k j x N hj ⟨d', f, rfl, hEN, hRN, hfN, hoN⟩ hkk
    show Ev (fX11_way_B150 k139 cs (fun a b M => k (a, b) M) (bt f) (nI j) N) _
    unfold fX11_way_B150
    rw [if_neg (fun q => by have := (nI_leI (a := 36) (by omega) (by omega)).mp q; omega)]
    have last : ∀ (d2 : DV) (f2 : Bool) (B2 : Nat) (Q2 : Nat → Nat → Prop) (N2 : Mem), EnM w d2 N2 → RS w s d d2 f2 B2 Q2 → B2 ≤ bJ B j + 600 → (AllS w s d → f2 = false) → Off o43 M N2 → (∀ a b, Qj j a b → Q2 a b) → (j % 6 < 5 → Q2 j (j + 1) ∧ Q2 (j + 1) j) → Ev (fX11_way_J196 k139 (fun a b M => k (a, b) M) cs (bt f2) (nI j) N2) P := by
      intro d2 f2 B2 Q2 N2 h1 h2 h3 h4 h5 h6 h7
      unfold fX11_way_J196
      rw [nI_1]
      refine Ev.ite (fun e => ?_) (fun e => ?_)
      · have e' := (nI_leI (a := 30) (by omega) (by omega)).mp e
        refine hkk _ N2 ⟨d2, f2, rfl, h1, h2.more (by rw [bJ_s]; omega) (fun a b ha hb q => ?_), h4, h5⟩
        obtain ⟨q1, q2⟩ := q
        by_cases qq : a < j ∨ b < j
        · exact h6 a b ⟨q1, qq⟩
        · have ht := ap_tab a ha b hb q1
          by_cases ea : a = j
          · rcases ht.1 (by omega) with ⟨t1, t2⟩ | ⟨t1, t2⟩
            · rw [t1, ea]; rw [ea] at t2; exact (h7 t2).1
            · omega
          · have eb : b = j := by omega
            rcases ht.2.1 (by omega) with ⟨t1, t2⟩ | ⟨t1, t2⟩
            · rw [t1, eb]; rw [eb] at t2; exact (h7 t2).2
            · omega
      · have e' : j < 30 := by
          by_cases q : j < 30
          · exact q
          · exact absurd ((nI_leI (a := 30) (by omega) (by omega)).mpr (by omega)) e
        have ahv := (ap_hv j hj).2 e'
        rw [show nI j + 6 = nI (j + 6) from nI_add j 6]
        refine Ev.bind (rlxM_ev (show j < 36 by omega) (show j + 6 < 36 by omega) ahv.1 h1 hw h2 (by have := bJ_le (B := B) (show j ≤ 36 by omega); omega) h4) (fun r N3 q => Ev.letv ?_)
        obtain ⟨d3, g3, rfl, a1, a2, a3, a4⟩ := q
        refine Ev.bind (rlxM_ev (show j + 6 < 36 by omega) (show j < 36 by omega) ahv.2 a1 hw a2 (by have := bJ_le (B := B) (show j ≤ 36 by omega); omega) a3) (fun r N4 q => Ev.letv ?_)
        obtain ⟨d4, g4, rfl, b1, b2, b3, b4⟩ := q
        rw [bt_or, bt_or]
        refine hkk _ N4 ⟨d4, (f2 || g3 || g4), rfl, b1, b2.more (by rw [bJ_s]; omega) (fun a b ha hb q => ?_), b3, (h5.tr a4).tr b4⟩
        obtain ⟨q1, q2⟩ := q
        by_cases qq : a < j ∨ b < j
        · exact Or.inl (Or.inl (h6 a b ⟨q1, qq⟩))
        · have ht := ap_tab a ha b hb q1
          by_cases ea : a = j
          · rcases ht.1 (by omega) with ⟨t1, t2⟩ | ⟨t1, t2⟩
            · rw [ea] at t1 t2; rw [ea, t1]; exact Or.inl (Or.inl (h7 t2).1)
            · exact Or.inl (Or.inr ⟨ea, by omega⟩)
          · have eb : b = j := by omega
            rcases ht.2.1 (by omega) with ⟨t1, t2⟩ | ⟨t1, t2⟩
            · rw [eb] at t1 t2; rw [eb, t1]; exact Or.inl (Or.inl (h7 t2).2)
            · exact Or.inr ⟨by omega, eb⟩
    rw [irem_nI j hj]
    refine Ev.ite (fun e => ?_) (fun e => ?_)
    · have e' := (nI_leI (a := 5) (by omega) (by omega)).mp e
      exact last d' f _ _ N hEN hRN (by omega) hfN hoN (fun _ _ q => q) (fun q => by omega)
    · have e' : j % 6 < 5 := by
        by_cases q : j % 6 < 5
        · exact q
        · exact absurd ((nI_leI (a := 5) (by omega) (by omega)).mpr (by omega)) e
      have ahv := (ap_hv j hj).1 e'
      rw [nI_1]
      refine Ev.bind (rlxM_ev hj ahv.1 ahv.2.1 hEN hw hRN (by have := bJ_le (B := B) (show j ≤ 36 by omega); omega) hfN) (fun r N3 q => Ev.letv ?_)
      obtain ⟨d3, g3, rfl, a1, a2, a3, a4⟩ := q
      refine Ev.bind (rlxM_ev ahv.1 hj ahv.2.2 a1 hw a2 (by have := bJ_le (B := B) (show j ≤ 36 by omega); omega) a3) (fun r N4 q => Ev.letv ?_)
      obtain ⟨d4, g4, rfl, b1, b2, b3, b4⟩ := q
      rw [bt_or, bt_or]
      exact last d4 (f || g3 || g4) _ _ N4 b1 b2 (by omega) b3 ((hoN.tr a4).tr b4) (fun _ _ q => Or.inl (Or.inl q)) (fun _ => ⟨Or.inl (Or.inr ⟨rfl, rfl⟩), Or.inr ⟨rfl, rfl⟩⟩)
  · rintro k x N ⟨d', f, rfl, hEN, hRN, hfN, hoN⟩
    show Ev (fX11_way_B150 k139 cs (fun a b M => k (a, b) M) (bt f) (nI 36) N) _
    unfold fX11_way_B150
    rw [if_pos (by decide)]
    exact hk d' f N hEN hRN.2.1 (fun c hc v hv => Nat.le_trans (hRN.2.2.1 c hc v hv) (by have := bJ_le (B := B) (show 36 ≤ 36 by omega); omega)) (hRN.rnd (fun y c hy hc q => ⟨q, Or.inl hy⟩)) hRN.2.2.2.2 hfN hoN
theorem roundsM_ev {w d : DV} {s t : Nat} {cs : Int32} {M : Mem} (hs : s < 36) (ht : t < 36) (hcs : irem cs 100 = nI t) (hE : EnM w d M) (hw : W300 w) (hS : Snd w s d) (hBd : Bd 300 d) (hb : Bs w s d) : Ev (fX11_way_L139 cs FU 1 M) (fun r M1 => IsMinI w s t r ∧ Off o43 M M1) := by
  refine Ev.loop (f := fun k (x : Int32) M => fX11_way_L139 cs k x M) (B := fun k x M => fX11_way_B139 cs k x M) (fun _ _ _ => rfl) 37
    (fun j x N => ∃ (d' : DV) (f : Bool), x = bt f ∧ EnM w d' N ∧ Snd w s d' ∧ Bd (bR j) d' ∧ Bs w s d' ∧ Sj w s j d' ∧ (f = false → AllS w s d') ∧ (j = 37 → f = false) ∧ Off o43 M N) ?_ ?_ FU 0 1 M (Nat.zero_le _) (by show _ < 2000 + 0; omega) ⟨d, true, rfl, hE, hS, hBd, hb, Or.inl (Nat.zero_le _), fun q => Bool.noConfusion q, fun q => by omega, Off.rf⟩
  · rintro k j x N hj ⟨d', f, rfl, hEN, hSN, hBN, hbN, hjN, hfN, h37, hoN⟩ hk
    show Ev (fX11_way_B139 cs k (bt f) N) _
    unfold fX11_way_B139
    refine Ev.ite (fun e => ?_) (fun e => ?_)
    · rw [bt_0] at e
      rw [hcs]
      refine Ev.gd (inb_nI ht (by decide)) (Ev.ret ⟨?_, hoN⟩)
      rw [nI_clamp (show t < 2 ^ 31 by omega), hEN.2 t ht]
      cases hd : d' t with
      | none => exact IsMinI.no ht (hfN e) hd
      | some v => exact IsMinI.of ht hSN (hfN e) hd (by have := hBN t ht v hd; unfold bR at this; omega)
    · refine roundM_ev hEN hw hSN hBN (by unfold bR; omega) (fun d2 f2 N2 a1 a2 a3 a4 a5 a6 a7 => ?_)
      refine hk _ N2 ⟨d2, f2, rfl, a1, a2, fun c hc v hv => Nat.le_trans (a3 c hc v hv) (by unfold bR; omega), fun v hv => ?_, hjN.step hs hbN a4, fun q => ?_, fun q => a6 ?_, hoN.tr a7⟩
      · obtain ⟨v', e1, l1⟩ := hbN v hv
        obtain ⟨v2, e2, l2⟩ := a4.1 s hs v' e1
        exact ⟨v2, e2, by omega⟩
      · have := a5 q
        subst this
        exact still hs hbN a4
      · have : j = 36 := by omega
        subst this
        exact hjN.all
  · rintro k x N ⟨d', f, rfl, hEN, hSN, hBN, hbN, hjN, hfN, h37, hoN⟩
    show Ev (fX11_way_B139 cs k (bt f) N) _
    unfold fX11_way_B139
    have e := h37 rfl
    rw [if_pos (bt_0.mpr e), hcs]
    refine Ev.gd (inb_nI ht (by decide)) (Ev.ret ⟨?_, hoN⟩)
    rw [nI_clamp (show t < 2 ^ 31 by omega), hEN.2 t ht]
    cases hd : d' t with
    | none => exact IsMinI.no ht (hfN e) hd
    | some v => exact IsMinI.of ht hSN (hfN e) hd (by have := hBN t ht v hd; unfold bR at this; omega)
def wayW (E : TE) (R : Rm) (p : Nat) (l so : Int32) : DV := fun c => if so = 0 then some (feltS E R p c).toNatClampNeg else if l < feltS E R p c then none else some 1
theorem wayW_300 {M : Mem} {R : Rm} {p : Nat} {l so : Int32} (hA : okA R) (hp : p < rN R) : W300 (wayW (svX M) R p l so) := by
  intro c x h
  unfold wayW at h
  split at h
  · obtain ⟨n, hn, e⟩ := felt_rng (M := M) (c := c) hA hp
    rw [e, nI_clamp (by omega)] at h
    cases h
    omega
  · split at h
    · cases h
    · cases h
      omega
def wayR (v cs l so : Int32) (M : Mem) (r : Int32) : Prop := if hasS v (vwX 0 M) = 0 then r = -5 else if bt (decide (0 ≤ cs) && decide (cs ≤ 3599)) = 0 then r = -7 else if bt (decide (0 ≤ irem cs 100) && decide (irem cs 100 ≤ 35)) = 0 then r = -7 else if bt (decide (0 ≤ l) && decide (l ≤ 999)) = 0 then r = -7 else if bt (decide (0 ≤ so) && decide (so ≤ 1)) = 0 then r = -7 else IsMinI (wayW (svX M) (vwX 0 M) v.toNatClampNeg l so) (cs.toNatClampNeg / 100) (cs.toNatClampNeg % 100) r
set_option maxHeartbeats 1000000 in
theorem wayM_ev {T : Nat} {M : Mem} (h : RelT T M) (v cs l so : Int32) : Ev (fX11_way v cs l so M) (fun r M1 => wayR v cs l so M r ∧ Lk M M1) := by
  have hI := h.2.2.2.2.1
  have hv : vwX 0 M = vwM M := h.2.2.2.2.2.1
  unfold fX11_way
  rw [oneM_ev v hI, ob_some]
  refine Ev.ite (fun h0 => Ev.ret ⟨by unfold wayR; rw [hv, if_pos (show hasS v (vwM M) = 0 from h0)], Lk.rf⟩) (fun h0 => ?_)
  have h0' : ¬ hasS v (vwM M) = 0 := h0
  rw [in_ev, ob_some]
  refine Ev.ite (fun h1 => Ev.ret ⟨?_, Lk.rf⟩) (fun h1 => ?_)
  · unfold wayR
    rw [hv, if_neg h0']
    by_cases h2 : bt (decide (0 ≤ cs) && decide (cs ≤ 3599)) = 0
    · rw [if_pos h2]
    · rw [if_neg h2, if_pos]
      obtain ⟨x, hx, rfl⟩ := rng (n := 3599) (by decide) (not_bt h2)
      refine bt_and.mpr (fun q => ?_)
      rw [(cs_ev hx).1] at q
      have q2 := (nI_leI (b := 35) (by omega) (by omega)).mp q.2
      exact bt_and.mp h1 ⟨nI_pos' (by omega), (nI_leI (b := 3535) (by omega) (by omega)).mpr (by omega)⟩
  obtain ⟨x, hx, rfl⟩ := rng (n := 3535) (by decide) (not_bt h1)
  obtain ⟨c1, c2, c3, c4⟩ := cs_ev (show x ≤ 3599 by omega)
  have n1 : ¬ bt (decide (0 ≤ nI x) && decide (nI x ≤ 3599)) = 0 := fun q => bt_and.mp q ⟨nI_pos' (by omega), (nI_leI (b := 3599) (by omega) (by omega)).mpr (by omega)⟩
  rw [c1]
  refine Ev.ite (fun h2 => Ev.ret ⟨?_, Lk.rf⟩) (fun h2 => ?_)
  · have := (nI_leI (a := 36) (by omega) (by omega)).mp h2
    unfold wayR
    rw [hv, if_neg h0', if_neg n1, c1, if_pos]
    refine bt_and.mpr (fun q => ?_)
    have q2 := (nI_leI (b := 35) (by omega) (by omega)).mp q.2
    omega
  have ht : x % 100 < 36 := by
    by_cases q : x % 100 < 36
    · exact q
    · exact absurd ((nI_leI (a := 36) (by omega) (by omega)).mpr (by omega)) h2
  have n2 : ¬ bt (decide (0 ≤ nI (x % 100)) && decide (nI (x % 100) ≤ 35)) = 0 := fun q => bt_and.mp q ⟨nI_pos' (by omega), (nI_leI (b := 35) (by omega) (by omega)).mpr (by omega)⟩
  rw [in_ev, ob_some]
  refine Ev.ite (fun h3 => Ev.ret ⟨by unfold wayR; rw [hv, if_neg h0', if_neg n1, c1, if_neg n2, if_pos h3], Lk.rf⟩) (fun h3 => ?_)
  rw [in_ev, ob_some]
  refine Ev.ite (fun h4 => Ev.ret ⟨by unfold wayR; rw [hv, if_neg h0', if_neg n1, c1, if_neg n2, if_neg h3, if_pos h4], Lk.rf⟩) (fun h4 => ?_)
  refine Ev.mono (P := fun r M1 => IsMinI (wayW (svX M) (vwM M) v.toNatClampNeg l so) (x / 100) (x % 100) r ∧ Lk M M1) ?_ (fun r M1 z => ⟨by unfold wayR; rw [hv, if_neg h0', if_neg n1, c1, if_neg n2, if_neg h3, if_neg h4, nI_clamp (show x < 2 ^ 31 by omega)]; exact z.1, z.2⟩)
  obtain ⟨q, hq, rfl⟩ := has_rng hI.2.2.2.1 h0
  have hq6 : q < 6 := Nat.lt_of_lt_of_le hq hI.2.2.2.1.1
  rw [nI_clamp (show q < 2 ^ 31 by omega)]
  have hw3 := wayW_300 (M := M) (l := l) (so := so) hI.2.2.2.1 hq
  have hwd : ∀ c, wayW (svX M) (vwM M) q l so c = if so = 0 then some (feltS (svX M) (vwM M) q c).toNatClampNeg else if l < feltS (svX M) (vwM M) q c then none else some 1 := fun _ => rfl
  generalize wayW (svX M) (vwM M) q l so = w at hw3 hwd
  have lkO : ∀ N, Off (fun K i => K = 39 ∨ K = 40 ∨ ((K = 42 ∨ K = 43) ∧ i = 0)) M N → Lk M N := fun N o => (Kp.off o (fun K i e => by simp only [keptK]; omega)).lk
  refine Ev.loop (f := fun k (z : Int32) M => fX11_way_L58 (nI q) (nI x) l so k z M) (B := fun k z M => fX11_way_B58 (nI q) (nI x) l so k z M) (fun _ _ _ => rfl) 36
    (fun j z N => z = nI j ∧ (∀ c, c < j → N 42 0 c = eO (w c) ∧ N 43 0 c = -1) ∧ Off (fun K i => K = 39 ∨ K = 40 ∨ ((K = 42 ∨ K = 43) ∧ i = 0)) M N) ?_ ?_ FU 0 (nI 0) M (Nat.zero_le _) (by show _ < 2000 + 0; omega) ⟨rfl, fun c hc => absurd hc (Nat.not_lt_zero _), Off.rf⟩
  · rintro k j z N hj ⟨rfl, hN, ho⟩ hk
    show Ev (fX11_way_B58 (nI q) (nI x) l so k (nI j) N) _
    unfold fX11_way_B58
    have kN := lkO N ho
    have ij : inb (nI j) 36 = true := inb_nI hj (by decide)
    rw [if_neg (fun q => by have := (nI_leI (a := 36) (by omega) (by omega)).mp q; omega)]
    refine Ev.bind (feltM_ev (kN.txt h.1) (kN.inM hI) (by rw [kN.vM]; exact hq) hj) (fun r N2 z => ?_)
    rw [kN.sv, kN.vM] at z
    obtain ⟨fv, hfv, efv⟩ := felt_rng (M := M) (c := j) hI.2.2.2.1 hq
    have j101 : ∀ y : Int32, y = eO (w j) → Ev (fX11_way_J101 k (nI q) (nI x) l so (nI j) y (nI j) N2) (fun r M1 => IsMinI w (x / 100) (x % 100) r ∧ Lk M M1) := by
      intro y hy
      unfold fX11_way_J101
      rw [nI_clamp (show j < 2 ^ 31 by omega), nI_1]
      refine Ev.gd ij (Ev.let_ fun N3 h3 => Ev.gd ij (Ev.let_ fun N4 h4 => hk _ N4 ⟨rfl, fun c hc => ?_, ?_⟩))
      · have g42 : N4 42 0 = upd (N 42 0) j y := by rw [h4, mst_n (by simp), h3, mst_s, z.2.at (by simp [scM])]
        have g43 : N4 43 0 = upd (N 43 0) j (-1) := by rw [h4, mst_s, h3, mst_n (by simp), z.2.at (by simp [scM])]
        rw [g42, g43]
        by_cases e : c = j
        · subst e
          simp [upd, hy]
        · simp only [upd, if_neg e]
          exact hN c (by omega)
      · rw [h4, h3]
        exact ((ho.tr (z.2.mono (fun K i e => by simp only [scM] at e; omega))).mst (by simp)).mst (by simp)
    refine Ev.ite (fun e => j101 r ?_) (fun e => Ev.ite (fun e2 => j101 (-1) ?_) (fun e2 => j101 1 ?_))
    · rw [hwd, if_pos e, z.1, efv, nI_clamp (by omega)]
      rfl
    · rw [hwd, if_neg e, if_pos (by rw [← z.1]; exact e2)]
      rfl
    · rw [hwd, if_neg e, if_neg (by rw [← z.1]; exact e2)]
      rfl
  · rintro k z N ⟨rfl, hN, ho⟩
    show Ev (fX11_way_B58 (nI q) (nI x) l so k (nI 36) N) _
    unfold fX11_way_B58
    rw [if_pos (by decide), c2]
    have is : inb (nI (x / 100)) 36 = true := inb_nI c3 (by decide)
    refine Ev.letv (Ev.gd is (Ev.gd is (Ev.let_ fun N2 h2 => ?_)))
    rw [nI_clamp (show x / 100 < 2 ^ 31 by omega), (hN (x / 100) c3).1] at h2
    refine (roundsM_ev (w := w) (d := fun c => if c = x / 100 then w (x / 100) else none) (s := x / 100) (t := x % 100) c3 ht c1 ⟨fun c hc => ?_, fun c hc => ?_⟩ hw3 (fun c hc v hv => ?_) (fun c hc v hv => ?_) (fun v hv => ⟨v, by show (if x / 100 = x / 100 then w (x / 100) else none) = some v; rw [if_pos rfl]; exact hv, Nat.le_refl _⟩)).mono (fun r M1 q => ⟨q.1, (lkO N2 ?_).tr ?_⟩)
    · rw [h2, mst_n (by simp)]
      exact (hN c hc).1
    · rw [h2, mst_s]
      show upd (N 43 0) (x / 100) (eO (w (x / 100))) c = eO (if c = x / 100 then w (x / 100) else none)
      by_cases e : c = x / 100
      · simp [upd, e]
      · simp only [upd, if_neg e]
        exact (hN c hc).2
    · have hv' : (if c = x / 100 then w (x / 100) else none) = some v := hv
      by_cases e : c = x / 100
      · rw [if_pos e] at hv'
        exact ⟨0, e, hv'⟩
      · rw [if_neg e] at hv'
        cases hv'
    · have hv' : (if c = x / 100 then w (x / 100) else none) = some v := hv
      by_cases e : c = x / 100
      · rw [if_pos e] at hv'
        exact hw3 _ v hv'
      · rw [if_neg e] at hv'
        cases hv'
    · rw [h2]
      exact ho.mst (by simp)
    · exact (Kp.off q.2 (fun K i e => by simp only [keptK]; omega)).lk
end WY
