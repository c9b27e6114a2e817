/-! way: the class -/
section WX
def eX (o : Option Nat) : Int32 := match o with
  | none => 1000000
  | some v => nI v
def EnX (w d : DV) (M : Mem) : Prop := (∀ c, c < 36 → M 20 0 c = eX (w c)) ∧ ∀ c, c < 36 → M 21 0 c = eX (d c)
abbrev o21 : Nat → Nat → Prop := fun K i => K = 21 ∧ i = 0
theorem eX_ne {v : Nat} (h : v < 1000000) : ¬ nI v = 1000000 := fun q => by
  have := (nI_eq (b := 1000000) (by omega) (by omega)).mp q
  omega
/-- a cell's turn adds one cell's cost at most, so no sum comes near 1000000 -/
theorem RS.bd {w : DV} {s B B' : Nat} {d0 d : DV} {f : Bool} {Q : Nat → Nat → Prop} (h : RS w s d0 d f B Q) (hb : Bd B' d) : RS w s d0 d f B' Q := ⟨h.1, h.2.1, hb, h.2.2.2.1, h.2.2.2.2⟩
def bJX (B j : Nat) : Nat := B + 300 * j
theorem bJX_s {B j : Nat} : bJX B (j + 1) = bJX B j + 300 := by unfold bJX; omega
theorem bJX_le {B j : Nat} (h : j ≤ 36) : bJX B j ≤ B + 10800 := by unfold bJX; omega
def bRX (j : Nat) : Nat := 300 + 10800 * j
theorem nb_ap {c dd y : Nat} (hc : c < 36) (hd : dd < 4) (h : nbN c dd = some y) : y < 36 ∧ apN y c = 1 := by
  have hy := (nb_facts hc hd h).1
  exact ⟨hy, ((nb_ex c hc y hy).1).mpr ⟨dd, hd, h⟩⟩
theorem relaxX_ev {w d0 d : DV} {s B c : Nat} {f : Bool} {Q : Nat → Nat → Prop} {M : Mem} (hc : c < 36) (hE : EnX w d M) (hw : W300 w) (hwa : ∀ c, c < 36 → w c ≠ none) (hR : RS w s d0 d f B Q) (hB : B + 600 < 1000000) (hf : AllS w s d0 → f = false) :
    Ev (fX5_relax 0 (nI c) M) (fun r M1 => ∃ (d' : DV) (g : Bool), r = bt g ∧ EnX w d' M1 ∧ RS w s d0 d' (f || g) (B + 300) (fun a b => Q a b ∨ (apN a c = 1 ∧ b = c)) ∧ (AllS w s d0 → (f || g) = false) ∧ Off o21 M M1) := by
  have ic : inb (nI c) 36 = true := inb_nI hc (by decide)
  have cc := nI_clamp (show c < 2 ^ 31 by omega)
  unfold fX5_relax
  refine Ev.loop (f := fun k (x : Int32 × Int32) M => fX5_relax_L4 0 (nI c) k x.1 x.2 M) (B := fun k x M => fX5_relax_B4 0 (nI c) (fun a b M => k (a, b) M) x.1 x.2 M) (fun _ _ _ => rfl) 4
    (fun j x N => ∃ (d' : DV) (g : Bool), x = (bt g, nI j) ∧ EnX w d' N ∧ RS w s d0 d' (f || g) (B + 300) (fun a b => Q a b ∨ (∃ dd, dd < j ∧ nbN c dd = some a ∧ b = c)) ∧ (∀ z, z < 36 → ¬ z = c → ∀ v, d' z = some v → v ≤ B) ∧ (AllS w s d0 → (f || g) = false) ∧ Off o21 M N) ?_ ?_ FU 0 (0, nI 0) M (Nat.zero_le _) (by show _ < 2000 + 0; omega) ⟨d, false, rfl, hE, by rw [Bool.or_false]; exact hR.more (Nat.le_add_right _ _) (fun a b _ _ q => by rcases q with q | ⟨dd, q, _⟩; exact q; omega), fun z hz _ v e => hR.2.2.1 z hz v e, fun q => by rw [Bool.or_false]; exact hf q, Off.rf⟩
  · rintro k j x N hj ⟨d', g, rfl, hEN, hRN, hbN, hfN, hoN⟩ hk
    show Ev (fX5_relax_B4 0 (nI c) (fun a b M => k (a, b) M) (bt g) (nI j) N) _
    unfold fX5_relax_B4
    rw [if_neg (fun q => by have := (nI_leI (a := 4) (by omega) (by omega)).mp q; omega), nb_ev N hc hj, ob_some, nI_1]
    have stay : (∀ y, nbN c j = some y → ∀ u x, d' y = some u → w c = some x → ∃ v, d' c = some v ∧ v ≤ u + x) → Ev (k (bt g, nI (j + 1)) N) (fun r M1 => ∃ (d' : DV) (g : Bool), r = bt g ∧ EnX w d' M1 ∧ RS w s d0 d' (f || g) (B + 300) (fun a b => Q a b ∨ (apN a c = 1 ∧ b = c)) ∧ (AllS w s d0 → (f || g) = false) ∧ Off o21 M M1) := by
      intro hn
      refine hk _ N ⟨d', g, rfl, hEN, ?_, hbN, hfN, hoN⟩
      cases hnb : nbN c j with
      | none =>
        refine hRN.more (Nat.le_refl _) (fun a b _ _ q => ?_)
        rcases q with q | ⟨dd, q1, q2, q3⟩
        · exact Or.inl q
        · by_cases e : dd = j
          · rw [e, hnb] at q2; cases q2
          · exact Or.inr ⟨dd, by omega, q2, q3⟩
      | some y =>
        have hy := nb_ap hc hj hnb
        refine (hRN.keep hy.1 (hn y hnb)).more (Nat.le_refl _) (fun a b _ _ q => ?_)
        rcases q with q | ⟨dd, q1, q2, q3⟩
        · exact Or.inl (Or.inl q)
        · by_cases e : dd = j
          · rw [e, hnb] at q2; cases q2; exact Or.inr ⟨rfl, q3⟩
          · exact Or.inl (Or.inr ⟨dd, by omega, q2, q3⟩)
    cases hnb : nbN c j with
    | none =>
      rw [show oI none = -1 from rfl, if_pos rfl]
      exact stay (fun y q => by rw [hnb] at q; cases q)
    | some y =>
      obtain ⟨hy, hap⟩ := nb_ap hc hj hnb
      have iy : inb (nI y) 36 = true := inb_nI hy (by decide)
      rw [show oI (some y) = nI y from rfl, if_neg (nI_nm1 (by omega)), cc, nI_clamp (show y < 2 ^ 31 by omega), hEN.2 y hy, hEN.2 c hc, hEN.1 c hc]
      refine Ev.gd iy (Ev.ite (fun e => stay (fun y' q u x e1 _ => ?_)) (fun e => ?_))
      · rw [hnb] at q
        cases q
        rw [e1] at e
        exact absurd e (eX_ne (by have := hRN.2.2.1 y hy u e1; omega))
      cases hu : d' y with
      | none => rw [hu] at e; exact absurd rfl e
      | some u =>
        have huB := hRN.2.2.1 y hy u hu
        cases hx : w c with
        | none => exact absurd hx (hwa c hc)
        | some x =>
          have hx3 := hw c x hx
          have est : eX (some u) + eX (some x) = nI (u + x) := nI_add u x
          refine Ev.gd iy (Ev.gd ic (Ev.gd ic ?_))
          rw [est]
          have set : (∀ v, d' c = some v → u + x < v) → Ev (gd (inb (nI y) 36) (gd (inb (nI c) 36) (gd (inb (nI c) 36) (lt (mst N 21 0 c (nI (u + x))) fun M4 => k (1, nI (j + 1)) M4)))) (fun r M1 => ∃ (d' : DV) (g : Bool), r = bt g ∧ EnX w d' M1 ∧ RS w s d0 d' (f || g) (B + 300) (fun a b => Q a b ∨ (apN a c = 1 ∧ b = c)) ∧ (AllS w s d0 → (f || g) = false) ∧ Off o21 M M1) := by
            intro hlt
            have hyc : ¬ y = c := fun q => by
              have := hlt u (by rw [← q]; exact hu)
              omega
            have huL := hbN y hy hyc u hu
            refine Ev.gd iy (Ev.gd ic (Ev.gd ic (Ev.let_ fun N4 h4 => hk _ N4 ⟨fun z => if z = c then some (u + x) else d' z, true, rfl, ⟨fun z hz => ?_, fun z hz => ?_⟩, ?_, fun z hz hzc v e => ?_, fun q => (hRN.no q hy hc hap hu hx hlt).elim, by rw [h4]; exact hoN.mst ⟨rfl, rfl⟩⟩)))
            · rw [h4, mst_n (by simp)]
              exact hEN.1 z hz
            · rw [h4, mst_s]
              by_cases ez : z = c
              · subst ez
                simp [upd, eX]
              · simp only [upd, if_neg ez]
                exact hEN.2 z hz
            · rw [Bool.or_true]
              refine ((hRN.set hy hc hap hu hx hx3 hlt).bd (B' := B + 300) (fun z hz v e => ?_)).more (Nat.le_refl _) (fun a b _ _ q => ?_)
              · have e2 : (if z = c then some (u + x) else d' z) = some v := e
                by_cases ez : z = c
                · rw [if_pos ez] at e2
                  cases e2
                  omega
                · rw [if_neg ez] at e2
                  exact Nat.le_trans (hbN z hz ez v e2) (Nat.le_add_right _ _)
              rcases q with q | ⟨dd, q1, q2, q3⟩
              · exact Or.inl (Or.inl q)
              · by_cases e : dd = j
                · rw [e, hnb] at q2; cases q2; exact Or.inr ⟨rfl, q3⟩
                · exact Or.inl (Or.inr ⟨dd, by omega, q2, q3⟩)
            · have e2 : (if z = c then some (u + x) else d' z) = some v := e
              rw [if_neg hzc] at e2
              exact hbN z hz hzc v e2
          cases hd : d' c with
          | none =>
            rw [if_neg (show ¬ eX none ≤ nI (u + x) from fun q => by
              have := (nI_leI (a := 1000000) (by omega) (by omega)).mp q
              omega)]
            exact set (fun v q => by rw [hd] at q; cases q)
          | some v =>
            have hvB := hRN.2.2.1 c hc v hd
            show Ev (ite (nI v ≤ nI (u + x)) _ _) _
            refine Ev.ite (fun e3 => stay (fun y' q u' x' e4 e5 => ?_)) (fun e3 => set (fun v' q => ?_))
            · rw [hnb] at q
              cases q
              rw [hu] at e4
              cases e4
              rw [hx] at e5
              cases e5
              exact ⟨v, hd, (nI_leI (by omega) (by omega)).mp e3⟩
            · rw [hd] at q
              cases q
              by_cases q : u + x < v
              · exact q
              · exact absurd ((nI_leI (by omega) (by omega)).mpr (by omega)) e3
  · rintro k x N ⟨d', g, rfl, hEN, hRN, hbN, hfN, hoN⟩
    show Ev (fX5_relax_B4 0 (nI c) (fun a b M => k (a, b) M) (bt g) (nI 4) N) _
    unfold fX5_relax_B4
    rw [if_pos (by decide)]
    refine Ev.gd (isB_bt g) (Ev.ret ⟨d', g, rfl, hEN, hRN.more (Nat.le_refl _) (fun a b ha hb q => ?_), hfN, hoN⟩)
    rcases q with q | ⟨q1, q2⟩
    · exact Or.inl q
    · obtain ⟨dd, hd, hn⟩ := ((nb_ex c hc a ha).1).mp q1
      exact Or.inr ⟨dd, hd, hn, q2⟩
theorem roundX_ev {w d : DV} {s B : Nat} {a5 a3 : Int32} {M : Mem} {k57 : Int32 → Int32 → Mem → Option (Int32 × Mem)} {P : Int32 → Mem → Prop} (hE : EnX w d M) (hw : W300 w) (hwa : ∀ c, c < 36 → w c ≠ none) (hS : Snd w s d) (hBd : Bd B d) (hB : B + 12000 < 1000000)
    (hk : ∀ (d' : DV) (f : Bool) (M1 : Mem), EnX w d' M1 → Snd w s d' → Bd (B + 10800) d' → Rnd w d d' → (f = false → d' = d) → Off o21 M M1 → Ev (k57 (bt f) (a5 + 1) M1) P) : Ev (fX5_leastFelt_L75 k57 0 a3 a5 FU 0 0 M) P := by
  refine Ev.loop (f := fun k (x : Int32 × Int32) M => fX5_leastFelt_L75 k57 0 a3 a5 k x.1 x.2 M) (B := fun k x M => fX5_leastFelt_B75 k57 0 a3 a5 (fun a b M => k (a, b) M) x.1 x.2 M) (fun _ _ _ => rfl) 36
    (fun j x N => ∃ (d' : DV) (f : Bool), x = (bt f, nI j) ∧ EnX w d' N ∧ RS w s d d' f (bJX B j) (fun a b => apN a b = 1 ∧ b < j) ∧ (AllS w s d → f = false) ∧ Off o21 M N) ?_ ?_ FU 0 (0, nI 0) M (Nat.zero_le _) (by show _ < 2000 + 0; omega) ⟨d, false, rfl, hE, (RS.begin hS hBd).more (Nat.le_refl _) (fun y c _ _ q => by omega), fun _ => rfl, Off.rf⟩
  · rintro k j x N hj ⟨d', f, rfl, hEN, hRN, hfN, hoN⟩ hkk
    show Ev (fX5_leastFelt_B75 k57 0 a3 a5 (fun a b M => k (a, b) M) (bt f) (nI j) N) _
    unfold fX5_leastFelt_B75
    rw [if_neg (fun q => by have := (nI_leI (a := 36) (by omega) (by omega)).mp q; omega), nI_1]
    refine Ev.bind (relaxX_ev hj hEN hw hwa hRN (by have := bJX_le (B := B) (show j ≤ 36 by omega); omega) hfN) (fun r N2 q => ?_)
    obtain ⟨d2, g, rfl, b1, b2, b3, b4⟩ := q
    have hmore : ∀ F : Bool, F = (f || g) → RS w s d d2 F (bJX B (j + 1)) (fun a b => apN a b = 1 ∧ b < j + 1) := fun F hF => by
      rw [hF]
      refine b2.more (by rw [bJX_s]; exact Nat.le_refl _) (fun a b _ _ q => ?_)
      by_cases e : b = j
      · exact Or.inr ⟨by rw [← e]; exact q.1, e⟩
      · exact Or.inl ⟨q.1, by omega⟩
    refine Ev.ite (fun e => ?_) (fun e => ?_)
    · rw [bt_0] at e
      refine hkk _ N2 ⟨d2, f, rfl, b1, hmore f (by rw [e, Bool.or_false]), hfN, hoN.tr b4⟩
    · rw [bt_0, Bool.not_eq_false] at e
      exact hkk _ N2 ⟨d2, true, rfl, b1, hmore true (by rw [e, Bool.or_true]), fun q => by have := b3 q; rw [e, Bool.or_true] at this; exact this, hoN.tr b4⟩
  · rintro k x N ⟨d', f, rfl, hEN, hRN, hfN, hoN⟩
    show Ev (fX5_leastFelt_B75 k57 0 a3 a5 (fun a b M => k (a, b) M) (bt f) (nI 36) N) _
    unfold fX5_leastFelt_B75
    rw [if_pos (by decide)]
    exact hk d' f N hEN hRN.2.1 (fun c hc v hv => Nat.le_trans (hRN.2.2.1 c hc v hv) (by have := bJX_le (B := B) (show 36 ≤ 36 by omega); omega)) (hRN.rnd (fun y c hy hc q => ⟨q, hc⟩)) hRN.2.2.2.2 hoN
theorem roundsX_ev {w d : DV} {s t : Nat} {M : Mem} (hs : s < 36) (ht : t < 36) (hE : EnX w d M) (hw : W300 w) (hwa : ∀ c, c < 36 → w c ≠ none) (hS : Snd w s d) (hBd : Bd 300 d) (hb : Bs w s d) (hreach : ∃ n u, Wc w s n t u) : Ev (fX5_leastFelt_L57 0 (nI t) FU 1 0 M) (fun r M1 => IsMinI w s t r ∧ Off o21 M M1) := by
  have fin : ∀ (d' : DV) (B : Nat) (N : Mem), B < 2 ^ 30 → EnX w d' N → Snd w s d' → Bd B d' → AllS w s d' → Off o21 M N → Ev (gd (inb (nI t) 36) (some (N 21 0 (nI t).toNatClampNeg, N))) (fun r M1 => IsMinI w s t r ∧ Off o21 M M1) := by
    intro d' B N hB hEN hSN hBN hA ho
    refine Ev.gd (inb_nI ht (by decide)) (Ev.ret ⟨?_, ho⟩)
    rw [nI_clamp (show t < 2 ^ 31 by omega), hEN.2 t ht]
    obtain ⟨n, u, hwk⟩ := hreach
    obtain ⟨v, hd, l⟩ := hA t ht n u hwk
    rw [hd]
    exact IsMinI.of ht hSN hA hd (by have := hBN t ht v hd; omega)
  refine Ev.loop (f := fun k (x : Int32 × Int32) M => fX5_leastFelt_L57 0 (nI t) k x.1 x.2 M) (B := fun k x M => fX5_leastFelt_B57 0 (nI t) (fun a b M => k (a, b) M) x.1 x.2 M) (fun _ _ _ => rfl) 36
    (fun j x N => ∃ (d' : DV) (f : Bool), x = (bt f, nI j) ∧ EnX w d' N ∧ Snd w s d' ∧ Bd (bRX j) d' ∧ Bs w s d' ∧ Sj w s j d' ∧ (f = false → AllS w s d') ∧ Off o21 M N) ?_ ?_ FU 0 (1, nI 0) M (Nat.zero_le _) (by show _ < 2000 + 0; omega) ⟨d, true, rfl, hE, hS, hBd, hb, Or.inl (Nat.zero_le _), fun q => Bool.noConfusion q, Off.rf⟩
  · rintro k j x N hj ⟨d', f, rfl, hEN, hSN, hBN, hbN, hjN, hfN, hoN⟩ hk
    show Ev (fX5_leastFelt_B57 0 (nI t) (fun a b M => k (a, b) M) (bt f) (nI j) N) _
    unfold fX5_leastFelt_B57
    have hbQ : bRX j ≤ 378300 := by unfold bRX; omega
    rw [if_neg (fun q => by have := (nI_leI (a := 36) (by omega) (by omega)).mp q; omega)]
    refine Ev.ite (fun e => ?_) (fun e => ?_)
    · rw [bt_0] at e
      exact fin d' (bRX j) N (by omega) hEN hSN hBN (hfN e) hoN
    · refine roundX_ev hEN hw hwa hSN hBN (by omega) (fun d2 f2 N2 a1 a2 a3 a4 a5 a7 => ?_)
      rw [nI_1]
      refine hk _ N2 ⟨d2, f2, rfl, a1, a2, fun c hc v hv => Nat.le_trans (a3 c hc v hv) (by unfold bRX; omega), fun v hv => ?_, hjN.step hs hbN a4, fun q => ?_, hoN.tr a7⟩
      · obtain ⟨v', e1, l1⟩ := hbN v hv
        obtain ⟨v2, e2, l2⟩ := a4.1 s hs v' e1
        exact ⟨v2, e2, by omega⟩
      · have := a5 q
        subst this
        exact still hs hbN a4
  · rintro k x N ⟨d', f, rfl, hEN, hSN, hBN, hbN, hjN, hfN, hoN⟩
    show Ev (fX5_leastFelt_B57 0 (nI t) (fun a b M => k (a, b) M) (bt f) (nI 36) N) _
    unfold fX5_leastFelt_B57
    rw [if_pos (by decide)]
    exact fin d' (bRX 36) N (by unfold bRX; omega) hEN hSN hBN hjN.all hoN
/-! ways over cells, as sets -/
theorem itN_walk {w : DV} {al s : Nat} (ha : al < 2 ^ 36) (hs : s < 36) (hwa : ∀ c, c < 36 → (al.testBit c = true ↔ ∃ x, w c = some x)) : ∀ k c, c < 36 → ((itN al (2 ^ s) k).testBit c = true ↔ ∃ n, n ≤ k ∧ ∃ v, Wc w s n c v) := by
  intro k
  induction k with
  | zero =>
    intro c hc
    show (2 ^ s &&& al).testBit c = true ↔ _
    rw [Nat.testBit_and, Nat.testBit_two_pow, Bool.and_eq_true, decide_eq_true_eq]
    constructor
    · rintro ⟨rfl, h⟩
      obtain ⟨x, hx⟩ := (hwa s hc).mp h
      exact ⟨0, Nat.le_refl _, x, rfl, hx⟩
    · rintro ⟨n, hn, v, hw⟩
      have : n = 0 := by omega
      subst this
      obtain ⟨rfl, hv⟩ := hw
      exact ⟨rfl, (hwa c hc).mpr ⟨v, hv⟩⟩
  | succ k ih =>
    intro c hc
    rw [itN_s ha hc]
    constructor
    · rintro ⟨h1, h2 | ⟨y, hy, hap, h3⟩⟩
      · obtain ⟨n, hn, v, hw⟩ := (ih c hc).mp h2
        exact ⟨n, by omega, v, hw⟩
      · obtain ⟨n, hn, v, hw⟩ := (ih y hy).mp h3
        obtain ⟨x, hx⟩ := (hwa c hc).mp h1
        exact ⟨n + 1, by omega, v + x, y, v, x, hw, hy, hap, hc, hx, rfl⟩
    · rintro ⟨n, hn, v, hw⟩
      have hin : al.testBit c = true := by
        refine (hwa c hc).mpr ?_
        cases n with
        | zero =>
          obtain ⟨rfl, hv⟩ := hw
          exact ⟨v, hv⟩
        | succ m =>
          obtain ⟨y, u, x, _, _, _, _, hx, _⟩ := hw
          exact ⟨x, hx⟩
      refine ⟨hin, ?_⟩
      by_cases e : n ≤ k
      · exact Or.inl ((ih c hc).mpr ⟨n, e, v, hw⟩)
      · have : n = k + 1 := by omega
        subst this
        obtain ⟨y, u, x, hw', hy, hap, _, _, _⟩ := hw
        exact Or.inr ⟨y, hy, hap, (ih y hy).mpr ⟨k, Nat.le_refl _, u, hw'⟩⟩
theorem reach_tab : ∀ s, s < 36 → itN (2 ^ 36 - 1) (2 ^ s) 36 = 2 ^ 36 - 1 := by decide +kernel
theorem reach {w : DV} {s t : Nat} (hs : s < 36) (ht : t < 36) (hwa : ∀ c, c < 36 → w c ≠ none) : ∃ n u, Wc w s n t u := by
  have hall : ∀ c, c < 36 → ((2 ^ 36 - 1 : Nat).testBit c = true ↔ ∃ x, w c = some x) := fun c hc => by
    rw [Nat.testBit_two_pow_sub_one]
    constructor
    · intro _
      cases h : w c with
      | none => exact absurd h (hwa c hc)
      | some x => exact ⟨x, rfl⟩
    · intro _
      exact decide_eq_true hc
  obtain ⟨n, _, v, hw⟩ := (itN_walk (al := 2 ^ 36 - 1) (by decide) hs hall 36 t ht).mp (by rw [reach_tab s hs, Nat.testBit_two_pow_sub_one]; exact decide_eq_true ht)
  exact ⟨n, v, hw⟩
theorem itN_zero {al x0 : Nat} (h : x0 &&& al = 0) : ∀ k, itN al x0 k = 0 := by
  intro k
  induction k with
  | zero => exact h
  | succ k ih =>
    show grN (itN al x0 k) &&& al = 0
    rw [ih, show grN 0 = 0 by decide, Nat.zero_and]
theorem card_pos {x : Nat} (hx : x < 2 ^ 36) (h : ¬ x = 0) : 1 ≤ card x := by
  have := card_lt (x := 0) (by decide) hx (fun c _ q => by rw [Nat.zero_testBit] at q; cases q) (fun q => h q.symm)
  omega
theorem itN_card1 {al x0 : Nat} (ha : al < 2 ^ 36) (h0 : ¬ x0 &&& al = 0) : ∀ k, ¬ itN al x0 (k + 1) = itN al x0 k → k + 2 ≤ card (itN al x0 (k + 1)) := by
  intro k
  induction k with
  | zero =>
    intro h
    have h1 : 1 ≤ card (itN al x0 0) := card_pos (itN_lt ha 0) h0
    have : card (itN al x0 0) < card (itN al x0 (0 + 1)) := card_lt (itN_lt ha 0) (itN_lt ha (0 + 1)) (itN_mono ha) (fun q => h q.symm)
    omega
  | succ k ih =>
    intro h
    have h2 : ¬ itN al x0 (k + 1) = itN al x0 k := fun q => h (by rw [itN_stay q (k + 1 + 1) (by omega), itN_stay q (k + 1) (by omega)])
    have h3 := ih h2
    have := card_lt (itN_lt ha (k + 1)) (itN_lt ha (k + 1 + 1)) (itN_mono ha) (fun q => h q.symm)
    omega
theorem itN_36 {al x0 : Nat} (ha : al < 2 ^ 36) : itN al x0 (35 + 1) = itN al x0 35 := by
  by_cases h0 : x0 &&& al = 0
  · rw [itN_zero h0, itN_zero h0]
  · refine Decidable.byContradiction fun h => ?_
    have h1 := itN_card1 ha h0 35 h
    have h2 := card_le (itN al x0 (35 + 1))
    omega
theorem Wc_one {w : DV} {s : Nat} (hw : ∀ c x, w c = some x → x = 1) : ∀ n c v, Wc w s n c v → v = n + 1 := by
  intro n
  induction n with
  | zero =>
    rintro c v ⟨_, h⟩
    exact hw s v h
  | succ n ih =>
    rintro c v ⟨y, u, x, h1, _, _, _, hx, rfl⟩
    rw [ih y u h1, hw c x hx]
set_option maxHeartbeats 1000000 in
theorem fewX_ev {T s t q : Nat} {l : Int32} {M : Mem} (h : RelT T M) (hq : q < rN (vwX 0 M)) (hs : s < 36) (ht : t < 36) : Ev (fX5_fewestCells 0 (nI q) (nI s) (nI t) l M) (fun r M1 => IsMinI (wayW (svX M) (vwX 0 M) q l 1) s t r ∧ Kp M M1) := by
  have hX := h.2.2.2.1
  have hwd : ∀ c, wayW (svX M) (vwX 0 M) q l 1 c = if l < feltS (svX M) (vwX 0 M) q c then none else some 1 := fun c => by
    unfold wayW
    rw [if_neg (by decide)]
  generalize wayW (svX M) (vwX 0 M) q l 1 = w at hwd
  have hw1 : ∀ c x, w c = some x → x = 1 := fun c x e => by
    rw [hwd] at e
    split at e
    · cases e
    · cases e; rfl
  generalize hP : (fun c => decide (¬ l < feltS (svX M) (vwX 0 M) q c)) = P
  have hPd : ∀ c, P c = decide (¬ l < feltS (svX M) (vwX 0 M) q c) := fun c => by rw [← hP]
  unfold fX5_fewestCells
  refine Ev.loop (f := fun k (x : Int64 × Int32) M => fX5_fewestCells_L6 0 (nI q) (nI s) (nI t) l k x.1 x.2 M) (B := fun k x M => fX5_fewestCells_B6 0 (nI q) (nI s) (nI t) l (fun a b M => k (a, b) M) x.1 x.2 M) (fun _ _ _ => rfl) 36
    (fun j x N => x = (lN (bsN P j), nI j) ∧ Off (scS 0) M N) ?_ ?_ FU 0 (0, nI 0) M (Nat.zero_le _) (by show _ < 2000 + 0; omega) ⟨rfl, Off.rf⟩
  · rintro k j x N hj ⟨rfl, hN⟩ hk
    show Ev (fX5_fewestCells_B6 0 (nI q) (nI s) (nI t) l (fun a b M => k (a, b) M) (lN (bsN P j)) (nI j) N) _
    unfold fX5_fewestCells_B6
    rw [if_neg (fun q => by have := (nI_leI (a := 36) (by omega) (by omega)).mp q; omega)]
    refine Ev.bind (felt_ev (scS0_txt hN h.1) (scS0_in hN hX) (by rw [scS_vw hN]; exact hq) hj) (fun r N2 z => ?_)
    rw [scS_vw hN, scS_sv hN] at z
    have hst := bsN_step (P := P) (j := j) hj
    rw [nI_1]
    refine Ev.ite (fun e => ?_) (fun e => Ev.letv ?_)
    · rw [if_neg (by rw [hPd, ← z.1]; simp [e]), or0L] at hst
      exact hk _ N2 ⟨by rw [hst], hN.tr z.2⟩
    · rw [if_pos (by rw [hPd, ← z.1]; exact decide_eq_true e)] at hst
      exact hk _ N2 ⟨by rw [hst], hN.tr z.2⟩
  · rintro k x N ⟨rfl, hN⟩
    show Ev (fX5_fewestCells_B6 0 (nI q) (nI s) (nI t) l (fun a b M => k (a, b) M) (lN (bsN P 36)) (nI 36) N) _
    unfold fX5_fewestCells_B6
    have kN := Kp.off hN nk_S
    have ha := bsN_lt36 (P := P) (n := 36) (by omega)
    have hbit : ∀ n c, (bsN P n).testBit c = (decide (c < n) && P c) := by
      intro n
      induction n with
      | zero => intro c; show (0 : Nat).testBit c = _; rw [Nat.zero_testBit]; simp
      | succ n ih =>
        intro c
        show (bsN P n ||| (if P n = true then 2 ^ n else 0)).testBit c = _
        rw [Nat.testBit_or, ih c]
        by_cases e : c = n
        · subst e
          by_cases e2 : P c = true
          · rw [if_pos e2, Nat.testBit_two_pow_self, e2]; simp
          · rw [if_neg e2, Nat.zero_testBit, (Bool.not_eq_true _).mp e2]; simp
        · have h2 : (if P n = true then 2 ^ n else 0).testBit c = false := by
            split
            · exact Nat.testBit_two_pow_of_ne (fun q => e q.symm)
            · exact Nat.zero_testBit c
          rw [h2, Bool.or_false]
          by_cases e3 : c < n
          · simp [e3, show c < n + 1 by omega]
          · simp [e3, show ¬ c < n + 1 by omega]
    have hwa : ∀ c, c < 36 → ((bsN P 36).testBit c = true ↔ ∃ x, w c = some x) := fun c hc => by
      rw [hbit, hwd, hPd]
      by_cases e : l < feltS (svX M) (vwX 0 M) q c
      · simp [e]
      · simp [e, hc]
    generalize bsN P 36 = al at ha hwa
    rw [if_pos (by decide)]
    refine Ev.letv ?_
    rw [b_one (by omega), wb_and (by have := pw36 hs; omega) (by omega)]
    have hwk := itN_walk ha hs hwa
    refine Ev.loop (f := fun k (x : Int64 × Int32) M => fX5_fewestCells_L51 (nI t) (lN al) k x.1 x.2 M) (B := fun k x M => fX5_fewestCells_B51 (nI t) (lN al) (fun a b M => k (a, b) M) x.1 x.2 M) (fun _ _ _ => rfl) 36
      (fun j x N2 => x = (lN (itN al (2 ^ s) j), nI (j + 1)) ∧ (∀ k, k < j → ¬ (itN al (2 ^ s) k).testBit t = true) ∧ N2 = N) ?_ ?_ FU 0 (lN (2 ^ s &&& al), 1) N (Nat.zero_le _) (by show _ < 2000 + 0; omega) ⟨rfl, fun k hk => absurd hk (Nat.not_lt_zero _), rfl⟩
    · rintro k j x N2 hj ⟨rfl, hno, rfl⟩ hk
      show Ev (fX5_fewestCells_B51 (nI t) (lN al) (fun a b M => k (a, b) M) (lN (itN al (2 ^ s) j)) (nI (j + 1)) N2) _
      unfold fX5_fewestCells_B51
      have hil := itN_lt (x0 := 2 ^ s) ha j
      rw [if_neg (fun q => by have := (nI_ltI (a := 36) (by omega) (by omega)).mp q; omega)]
      refine Ev.ite (fun e => Ev.ret ⟨?_, kN⟩) (fun e => ?_)
      · rw [b_tst2 hil ht] at e
        obtain ⟨n, hn, v, hw⟩ := (hwk j t ht).mp e
        have hnj : n = j := by
          by_cases q : n < j
          · exact absurd ((hwk n t ht).mpr ⟨n, Nat.le_refl _, v, hw⟩) (hno n q)
          · omega
        subst hnj
        have hv := Wc_one hw1 n t v hw
        subst hv
        refine Or.inl ⟨n + 1, by omega, rfl, ⟨n, hw⟩, fun n' u hw' => ?_⟩
        have hu := Wc_one hw1 n' t u hw'
        by_cases q : n' < n
        · exact absurd ((hwk n' t ht).mpr ⟨n', Nat.le_refl _, u, hw'⟩) (hno n' q)
        · omega
      · rw [b_tst2 hil ht] at e
        rw [grown_ev N2 hil, ob_some]
        refine Ev.letv ?_
        have hg : grN (itN al (2 ^ s) j) < 2 ^ 64 := by
          generalize itN al (2 ^ s) j = x at hil
          have a1 : x &&& mLC ≤ x := Nat.and_le_left
          have a2 : x &&& mFC ≤ x := Nat.and_le_left
          have d1 : (x &&& mFC) / 2 ≤ x &&& mFC := Nat.div_le_self _ _
          have d2 : x / 64 ≤ x := Nat.div_le_self _ _
          have o1 : ((x &&& mLC) * 2 ||| (x &&& mFC) / 2) < 2 ^ 43 := Nat.or_lt_two_pow (by omega) (by omega)
          have o2 : (x ||| ((x &&& mLC) * 2 ||| (x &&& mFC) / 2)) < 2 ^ 43 := Nat.or_lt_two_pow (by omega) o1
          have o3 : ((x ||| ((x &&& mLC) * 2 ||| (x &&& mFC) / 2)) ||| x * 64) < 2 ^ 43 := Nat.or_lt_two_pow o2 (by omega)
          have o4 : grN x < 2 ^ 43 := Nat.or_lt_two_pow o3 (by omega)
          omega
        rw [wb_and hg (by omega), nI_1]
        refine hk _ N2 ⟨rfl, fun k hk => ?_, rfl⟩
        by_cases q : k = j
        · rw [q]; exact e
        · exact hno k (by omega)
    · rintro k x N2 ⟨rfl, hno, rfl⟩
      show Ev (fX5_fewestCells_B51 (nI t) (lN al) (fun a b M => k (a, b) M) (lN (itN al (2 ^ s) 36)) (nI (36 + 1)) N2) _
      unfold fX5_fewestCells_B51
      rw [if_pos (by decide)]
      refine Ev.ret ⟨Or.inr ⟨rfl, fun n u hw => ?_⟩, kN⟩
      have hb := (hwk n t ht).mpr ⟨n, Nat.le_refl _, u, hw⟩
      by_cases q : n < 36
      · exact hno n q hb
      · rw [itN_stay (itN_36 ha) n (by omega)] at hb
        exact hno 35 (by omega) hb
end WX
