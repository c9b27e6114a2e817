/-! walks that a sheet tells -/
section WK
def okStep (nu : Nat → Int32) (i : Nat) : Bool := decide (0 ≤ nu i) && decide (nu i ≤ 35) && (decide (i = 0) || decide (apN (nu (i - 1)).toNatClampNeg (nu i).toNatClampNeg = 1))
def walkB (nu : Nat → Int32) : Nat → Bool
  | 0 => true
  | n + 1 => walkB nu n && okStep nu n
theorem walkB_s {nu : Nat → Int32} {n : Nat} : walkB nu (n + 1) = (walkB nu n && okStep nu n) := rfl
theorem walkB_no {nu : Nat → Int32} {j : Nat} (h : okStep nu j = false) : ∀ n, j < n → walkB nu n = false := by
  intro n
  induction n with
  | zero => intro h; omega
  | succ n ih =>
    intro hn
    rw [walkB_s]
    by_cases e : j = n
    · rw [← e, h]; simp
    · rw [ih (by omega)]; simp
theorem walkB_cell {nu : Nat → Int32} {n : Nat} (h : walkB nu n = true) : ∀ i, i < n → ∃ c, c < 36 ∧ nu i = nI c := by
  induction n with
  | zero => intro i hi; omega
  | succ n ih =>
    intro i hi
    rw [walkB_s, Bool.and_eq_true] at h
    by_cases e : i = n
    · have h2 := h.2
      unfold okStep at h2
      simp only [Bool.and_eq_true, decide_eq_true_eq] at h2
      rw [e]
      obtain ⟨c, hc, e2⟩ := rng (n := 35) (by decide) ⟨h2.1.1, h2.1.2⟩
      exact ⟨c, by omega, e2⟩
    · exact ih h.1 i (by omega)
theorem tells_ev {s n : Nat} {M : Mem} (hn : n ≤ 40) (en : (shX s M).2.1 = nI n) : Ev (fX6_tellsWalk s M) (fun r M1 => r = bt (walkB (shX s M).2.2 n) ∧ M1 = M) := by
  have e13 : M 13 s 2 = nI n := en
  unfold fX6_tellsWalk
  refine Ev.loop (f := fun m (x : Int32) M => fX6_tellsWalk_L2 s m x M) (B := fun k x M => fX6_tellsWalk_B2 s k x M) (fun _ _ _ => rfl) n
    (fun j x N => x = nI j ∧ walkB (shX s M).2.2 j = true ∧ N = M) ?_ ?_ FU 0 (nI 0) M (Nat.zero_le _) (by show _ < 2000 + 0; omega) ⟨rfl, rfl, rfl⟩
  · rintro k j x N hj ⟨rfl, hw, rfl⟩ hk
    show Ev (fX6_tellsWalk_B2 s k (nI j) N) _
    unfold fX6_tellsWalk_B2
    have cj := nI_clamp (show j < 2 ^ 31 by omega)
    rw [e13, if_neg (fun q => by have := (nI_leI (by omega) (by omega)).mp q; omega), cj, shX_i (s := s) (M := N) (show j < 40 by omega), cellX_ev, ob_some]
    refine Ev.gd (inb_nI (by omega) (by decide)) ?_
    have fail : okStep (shX s N).2.2 j = false → Ev (some ((0 : Int32), N)) (fun r M1 => r = bt (walkB (shX s N).2.2 n) ∧ M1 = N) := fun hf => Ev.ret ⟨by rw [walkB_no hf n hj]; rfl, rfl⟩
    refine Ev.ite (fun e => fail ?_) (fun e => ?_)
    · have := bt_and.mp e
      unfold okStep
      by_cases a : 0 ≤ (shX s N).2.2 j
      · by_cases b : (shX s N).2.2 j ≤ 35
        · exact absurd ⟨a, b⟩ this
        · simp [b]
      · simp [a]
    · have hc := not_bt e
      obtain ⟨c, hc2, ec⟩ := rng (n := 35) (by decide) hc
      rw [nI_1]
      refine Ev.ite (fun e2 => ?_) (fun e2 => ?_)
      · have hj0 : j = 0 := by
          by_cases q : j = 0
          · exact q
          · exact absurd e2 (nI_nle (by omega) (by omega))
        subst hj0
        refine hk _ N ⟨rfl, ?_, rfl⟩
        rw [walkB_s, hw]
        unfold okStep
        simp [hc.1, hc.2]
      · have hj0 : 0 < j := by
          by_cases q : j = 0
          · subst q; exact absurd (Int32.le_refl _) e2
          · omega
        obtain ⟨c0, hc0, ec0⟩ := walkB_cell hw (j - 1) (by omega)
        rw [show nI j - 1 = nI (j - 1) from pk_sub (b := 1) (by omega), nI_clamp (show j - 1 < 2 ^ 31 by omega), shX_i (s := s) (M := N) (show j - 1 < 40 by omega), shX_i (s := s) (M := N) (show j < 40 by omega), ec0, ec, apX_ev N hc0 (show c < 36 by omega), ob_some]
        refine Ev.gd (inb_nI (by omega) (by decide)) (Ev.gd (inb_nI (by omega) (by decide)) ?_)
        have hap : apN c0 c < 100 := by unfold apN; omega
        have hcl : apN ((shX s N).2.2 (j - 1)).toNatClampNeg ((shX s N).2.2 j).toNatClampNeg = apN c0 c := by rw [ec0, ec, nI_clamp (show c0 < 2 ^ 31 by omega), nI_clamp (show c < 2 ^ 31 by omega)]
        refine Ev.ite (fun e3 => ?_) (fun e3 => fail ?_)
        · have e4 : apN c0 c = 1 := (nI_eq (b := 1) (by omega) (by omega)).mp e3
          refine hk _ N ⟨rfl, ?_, rfl⟩
          rw [walkB_s, hw]
          unfold okStep
          rw [hcl, e4]
          simp [hc.1, hc.2]
        · have e4 : ¬ apN c0 c = 1 := fun q => e3 (by rw [q]; rfl)
          unfold okStep
          rw [hcl]
          simp [e4, show ¬ j = 0 by omega]
  · rintro k x N ⟨rfl, hw, rfl⟩
    show Ev (fX6_tellsWalk_B2 s k (nI n) N) _
    unfold fX6_tellsWalk_B2
    rw [e13, if_pos (Int32.le_refl _)]
    exact Ev.ret ⟨by rw [hw]; rfl, rfl⟩
def rwS (v p : Int32) (V : Nat → Sh) (R : Rm) : Int32 := if bt (decide (0 ≤ v) && decide (v ≤ 3)) = 0 then -2 else if (V v.toNatClampNeg).1 = -1 then -11 else if walkB (V v.toNatClampNeg).2.2 (V v.toNatClampNeg).2.1.toNatClampNeg = true then (if hasS p R = 0 then -5 else 0) else -2
theorem rwX_ev {T : Nat} {M : Mem} (h : RelT T M) (v p : Int32) : Ev (fX10_refuseWalk v p M) (fun r M1 => r = rwS v p (fun s => shX s M) (vwX 0 M) ∧ M1 = M) := by
  unfold fX10_refuseWalk rwS
  rw [sheetX_is, ob_some]
  refine Ev.ite (fun h0 => Ev.ret ⟨by rw [if_pos h0], rfl⟩) (fun h0 => ?_)
  rw [if_neg h0]
  obtain ⟨s, hs, rfl⟩ := rng (n := 3) (by decide) (not_bt h0)
  have is4 : inb (nI s) 4 = true := inb_nI (by omega) (by decide)
  rw [nI_clamp (show s < 2 ^ 31 by omega)]
  refine Ev.gd is4 ?_
  show Ev (ite ((shX s M).1 = -1) _ _) _
  refine Ev.ite (fun h1 => Ev.ret ⟨by rw [if_pos h1], rfl⟩) (fun h1 => ?_)
  rw [if_neg h1]
  obtain ⟨n, hn, en⟩ := (h.ok s (by omega)).2
  rw [en, nI_clamp (show n < 2 ^ 31 by omega)]
  refine Ev.gd is4 (Ev.bind (tells_ev hn en) (fun r M1 q => ?_))
  obtain ⟨rfl, rfl⟩ := q
  refine Ev.ite (fun h2 => ?_) (fun h2 => ?_)
  · rw [bt_0] at h2
    exact Ev.ret ⟨by rw [h2, if_neg (by decide)], rfl⟩
  · rw [bt_0, Bool.not_eq_false] at h2
    rw [h2, if_pos rfl, hasX_ev 0 p h.2.2.2.1, ob_some]
    exact Ev.ite (fun h3 => Ev.ret ⟨by rw [if_pos (show hasS p (vwX 0 M1) = 0 from h3)], rfl⟩) (fun h3 => Ev.ret ⟨by rw [if_neg (show ¬ hasS p (vwX 0 M1) = 0 from h3)], rfl⟩)
theorem rwM_ev {T : Nat} {N : Mem} (hI : InM T N) (hok : ∀ s, s < 4 → okSh (shM s N)) (v p : Int32) : Ev (fX11_walkWrong v p N) (fun r M1 => r = rwS v p (fun s => shM s N) (vwM N) ∧ M1 = N) := by
  unfold fX11_walkWrong rwS
  rw [in_ev, ob_some]
  refine Ev.ite (fun h0 => Ev.ret ⟨by rw [if_pos h0], rfl⟩) (fun h0 => ?_)
  rw [if_neg h0]
  obtain ⟨s, hs, rfl⟩ := rng (n := 3) (by decide) (not_bt h0)
  have is4 : inb (nI s) 4 = true := inb_nI (by omega) (by decide)
  have cs := nI_clamp (show s < 2 ^ 31 by omega)
  rw [cs]
  refine Ev.gd is4 ?_
  show Ev (ite ((shM s N).1 = -1) _ _) _
  refine Ev.ite (fun h1 => Ev.ret ⟨by rw [if_pos h1], rfl⟩) (fun h1 => ?_)
  rw [if_neg h1]
  obtain ⟨n, hn, en⟩ := (hok s (by omega)).2
  have e34 : N 34 0 s = nI n := en
  rw [en, nI_clamp (show n < 2 ^ 31 by omega)]
  refine Ev.loop (f := fun m (x : Int32) M => fX11_walkWrong_L27 (nI s) p m x M) (B := fun k x M => fX11_walkWrong_B27 (nI s) p k x M) (fun _ _ _ => rfl) n
    (fun j x M => x = nI j ∧ walkB (shM s N).2.2 j = true ∧ M = N) ?_ ?_ FU 0 (nI 0) N (Nat.zero_le _) (by show _ < 2000 + 0; omega) ⟨rfl, rfl, rfl⟩
  · rintro k j x M hj ⟨rfl, hw, rfl⟩ hk
    show Ev (fX11_walkWrong_B27 (nI s) p k (nI j) M) _
    unfold fX11_walkWrong_B27 fX11_walkWrong_J93 fX11_walkWrong_J95
    rw [cs, e34, if_neg (fun q => by have := (nI_leI (by omega) (by omega)).mp q; omega), show (40 : Int32) * nI s + nI j = nI (40 * s + j) by rw [show (40 : Int32) = nI 40 from rfl, nI_mulB, nI_add], nI_clamp (show 40 * s + j < 2 ^ 31 by omega), shM_i (s := s) (M := M) (show j < 40 by omega)]
    refine Ev.gd is4 (Ev.gd (inb_nI (by omega) (by decide)) (Ev.letv ?_))
    rw [cellM_ev, ob_some]
    have fail : okStep (shM s M).2.2 j = false → Ev (some ((-2 : Int32), M)) (fun r M1 => r = (if walkB (shM s M).2.2 n = true then (if hasS p (vwM M) = 0 then -5 else 0) else -2) ∧ M1 = M) := fun hf => Ev.ret ⟨by rw [walkB_no hf n hj, if_neg (by decide)], rfl⟩
    refine Ev.ite (fun e => ?_) (fun e => ?_)
    · rw [if_pos e]
      refine fail ?_
      have := bt_and.mp e
      unfold okStep
      by_cases a : 0 ≤ (shM s M).2.2 j
      · by_cases b : (shM s M).2.2 j ≤ 35
        · exact absurd ⟨a, b⟩ this
        · simp [b]
      · simp [a]
    · have hc := not_bt e
      obtain ⟨c, hc2, ec⟩ := rng (n := 35) (by decide) hc
      rw [nI_1]
      refine Ev.ite (fun e2 => ?_) (fun e2 => ?_)
      · have hj0 : j = 0 := by
          by_cases q : j = 0
          · exact q
          · exact absurd e2 (nI_nle (by omega) (by omega))
        rw [if_neg e]
        subst hj0
        refine hk _ M ⟨rfl, ?_, rfl⟩
        rw [walkB_s, hw]
        unfold okStep
        simp [hc.1, hc.2]
      · have hj0 : 0 < j := by
          by_cases q : j = 0
          · subst q; exact absurd (Int32.le_refl _) e2
          · omega
        obtain ⟨c0, hc0, ec0⟩ := walkB_cell hw (j - 1) (by omega)
        rw [show nI (40 * s + j) - 1 = nI (40 * s + (j - 1)) by rw [show nI (40 * s + j) - 1 = nI (40 * s + j - 1) from pk_sub (b := 1) (by omega), show 40 * s + j - 1 = 40 * s + (j - 1) by omega], nI_clamp (show 40 * s + (j - 1) < 2 ^ 31 by omega), shM_i (s := s) (M := M) (show j - 1 < 40 by omega), ec0, ec, apM_ev M (show c < 36 by omega) hc0, ob_some]
        refine Ev.gd (inb_nI (by omega) (by decide)) ?_
        have hap : apN c c0 < 100 := by unfold apN; omega
        have hcl : apN ((shM s M).2.2 (j - 1)).toNatClampNeg ((shM s M).2.2 j).toNatClampNeg = apN c c0 := by rw [ec0, ec, nI_clamp (show c0 < 2 ^ 31 by omega), nI_clamp (show c < 2 ^ 31 by omega), apN_comm]
        refine Ev.ite (fun e3 => ?_) (fun e3 => ?_)
        · have e4 : apN c c0 = 1 := (nI_eq (b := 1) (by omega) (by omega)).mp e3
          rw [if_neg (by decide)]
          refine hk _ M ⟨rfl, ?_, rfl⟩
          rw [walkB_s, hw]
          unfold okStep
          rw [hcl, e4]
          simp [hc.1, hc.2]
        · have e4 : ¬ apN c c0 = 1 := fun q => e3 (by rw [q]; rfl)
          rw [if_pos rfl]
          refine fail ?_
          unfold okStep
          rw [hcl]
          simp [e4, show ¬ j = 0 by omega]
  · rintro k x M ⟨rfl, hw, rfl⟩
    show Ev (fX11_walkWrong_B27 (nI s) p k (nI n) M) _
    unfold fX11_walkWrong_B27
    rw [cs, e34, if_pos (Int32.le_refl _), oneM_ev p hI, ob_some, hw, if_pos rfl]
    exact Ev.gd is4 (Ev.ite (fun h3 => Ev.ret ⟨by rw [if_pos (show hasS p (vwM M) = 0 from h3)], rfl⟩) (fun h3 => Ev.ret ⟨by rw [if_neg (show ¬ hasS p (vwM M) = 0 from h3)], rfl⟩))
theorem rwS_eq {v p : Int32} {V W : Nat → Sh} {R : Rm} (h : ∀ s, s < 4 → V s = W s) : rwS v p V R = rwS v p W R := by
  unfold rwS
  by_cases h0 : bt (decide (0 ≤ v) && decide (v ≤ 3)) = 0
  · rw [if_pos h0, if_pos h0]
  · rw [if_neg h0, if_neg h0]
    obtain ⟨s, hs, rfl⟩ := rng (n := 3) (by decide) (not_bt h0)
    rw [nI_clamp (show s < 2 ^ 31 by omega), h s (by omega)]
theorem rwS_0 {v p : Int32} {V : Nat → Sh} {R : Rm} (h : rwS v p V R = 0) (hok : ∀ s, s < 4 → okSh (V s)) (hA : okA R) : ∃ s n q, v = nI s ∧ s < 4 ∧ n ≤ 40 ∧ (V s).2.1 = nI n ∧ walkB (V s).2.2 n = true ∧ q < rN R ∧ p = nI q := by
  unfold rwS at h
  split at h
  · exact absurd h (by decide)
  · rename_i h0
    split at h
    · exact absurd h (by decide)
    · split at h
      · rename_i h2
        split at h
        · exact absurd h (by decide)
        · rename_i h3
          obtain ⟨s, hs, rfl⟩ := rng (n := 3) (by decide) (not_bt h0)
          rw [nI_clamp (show s < 2 ^ 31 by omega)] at h2
          obtain ⟨n, hn, e⟩ := (hok s (by omega)).2
          rw [e, nI_clamp (show n < 2 ^ 31 by omega)] at h2
          obtain ⟨q, hq, eq⟩ := has_rng hA h3
          exact ⟨s, n, q, rfl, by omega, hn, e, h2, hq, eq⟩
      · exact absurd h (by decide)
/-! what is felt, worn, is in its range -/
theorem clip_rng {part : Nat} (h : part ≠ 0) (v : Int32) : ∃ n, n < 100 ∧ clipP part v = nI n := by
  unfold clipP mmax mmin
  rw [if_neg h]
  by_cases h1 : v < 99
  · rw [if_pos h1]
    have h1' := Int32.lt_iff_toInt_lt.mp h1
    rw [show (99 : Int32).toInt = 99 by decide] at h1'
    by_cases h2 : 0 < v
    · rw [if_pos h2]
      have h2' := Int32.lt_iff_toInt_lt.mp h2
      rw [show (0 : Int32).toInt = 0 by decide] at h2'
      exact ⟨v.toNatClampNeg, by show v.toInt.toNat < 100; omega, nI_ex (by omega)⟩
    · rw [if_neg h2]
      exact ⟨0, by omega, rfl⟩
  · rw [if_neg h1, if_pos (by decide)]
    exact ⟨99, by omega, rfl⟩
theorem said_rng {M : Mem} {R : Rm} {part p c : Nat} (h : part ≠ 0) : ∃ n, n < 100 ∧ saidS (svX M) R part p c = nI n := clip_rng h _
theorem more_rng {R : Rm} {p : Nat} (hA : okA R) (hp : p < rN R) : ∃ n, n < 10 ∧ rA R 3 p = nI n := (hA.2 p hp).2.2.2
theorem felt_rng {M : Mem} {R : Rm} {p c : Nat} (hA : okA R) (hp : p < rN R) : ∃ n, n < 300 ∧ feltS (svX M) R p c = nI n := by
  obtain ⟨a, ha, e1⟩ := said_rng (M := M) (R := R) (part := 2) (p := p) (c := c) (by decide)
  obtain ⟨b, hb, e2⟩ := more_rng hA hp
  unfold feltS feelsK
  rw [e1, e2]
  have e2v : (2 : Int32) * nI a = nI (2 * a) := by rw [show (2 : Int32) = nI 2 from rfl, nI_mulB]
  split
  · exact ⟨a + b, by omega, nI_add a b⟩
  · split
    · exact ⟨2 * a, by omega, e2v⟩
    · split
      · exact ⟨2 * a / 4, by omega, by rw [e2v]; exact pk_div (d := 4) (by omega) (by omega) (by omega)⟩
      · split
        · split
          · exact ⟨a, by omega, rfl⟩
          · exact ⟨0, by omega, rfl⟩
        · exact ⟨a, by omega, rfl⟩
theorem worn_rng {M : Mem} {R : Rm} {p c : Nat} (hA : okA R) (hp : p < rN R) : ∃ n, n < 300 ∧ wearsK (knd R p) (saidS (svX M) R 1 p c) (rA R 3 p) (rT R c) = nI n := by
  obtain ⟨a, ha, e1⟩ := said_rng (M := M) (R := R) (part := 1) (p := p) (c := c) (by decide)
  obtain ⟨b, hb, e2⟩ := more_rng hA hp
  unfold wearsK
  rw [e1, e2]
  split
  · exact ⟨a / 2, by omega, pk_div (d := 2) (by omega) (by omega) (by omega)⟩
  · split
    · split
      · exact ⟨a, by omega, rfl⟩
      · exact ⟨0, by omega, rfl⟩
    · split
      · exact ⟨a + b, by omega, nI_add a b⟩
      · exact ⟨a, by omega, rfl⟩
theorem lost_ok {M : Mem} {R : Rm} {p c : Nat} (hA : okA R) (hT : okT R) (hp : p < rN R) : okT (setT R c (rT R c - lostS (svX M) R p c)) := by
  obtain ⟨w, hw, e1⟩ := worn_rng (M := M) (c := c) hA hp
  obtain ⟨t, ht, e2⟩ := hT c
  have : ∃ n, n < 1000 ∧ rT R c - lostS (svX M) R p c = nI n := by
    unfold lostS mmin
    rw [e1, e2]
    by_cases h : nI w < nI t
    · have := (nI_ltI (by omega) (by omega)).mp h
      rw [if_pos h, pk_sub (by omega)]
      exact ⟨t - w, by omega, rfl⟩
    · rw [if_neg h, pk_sub (Nat.le_refl t)]
      exact ⟨t - t, by omega, rfl⟩
  obtain ⟨n, hn, e⟩ := this
  rw [e]
  exact okT_set hT hn
/-! walk -/
def wkT (x : Int32 × Int32 × Int32 × Int32) (i v : Int32) : Int32 × Int32 × Int32 × Int32 := (x.1 + v, (if x.2.2.1 = -1 then v else if v ≤ x.2.1 then x.2.1 else v), (if x.2.2.1 = -1 then i else if v ≤ x.2.1 then x.2.2.1 else i), x.2.2.2 + (if v = 0 then 1 else 0))
def wkS (f : Nat → Int32) : Nat → Int32 × Int32 × Int32 × Int32
  | 0 => (0, 0, -1, 0)
  | n + 1 => wkT (wkS f n) (nI n) (f n)
def pick4 (w : Int32) (x : Int32 × Int32 × Int32 × Int32) : Int32 := if w = 0 then x.1 else if w = 1 then x.2.1 else if w = 2 then x.2.2.1 else x.2.2.2
theorem wk_first {f : Nat → Int32} : ∀ j, j < 1000 → ¬ (wkS f (j + 1)).2.2.1 = -1 := by
  intro j
  induction j with
  | zero =>
    intro _
    show ¬ (wkT (0, 0, -1, 0) (nI 0) (f 0)).2.2.1 = -1
    unfold wkT
    show ¬ (if (-1 : Int32) = -1 then nI 0 else if f 0 ≤ 0 then -1 else nI 0) = -1
    rw [if_pos rfl]
    decide
  | succ j ih =>
    intro hj
    show ¬ (wkT (wkS f (j + 1)) (nI (j + 1)) (f (j + 1))).2.2.1 = -1
    have h := ih (by omega)
    unfold wkT
    show ¬ (if (wkS f (j + 1)).2.2.1 = -1 then nI (j + 1) else if f (j + 1) ≤ (wkS f (j + 1)).2.1 then (wkS f (j + 1)).2.2.1 else nI (j + 1)) = -1
    rw [if_neg h]
    split
    · exact h
    · exact nI_nm1 (by omega)
def walkF (M : Mem) (s p : Nat) : Nat → Int32 := fun i => feltS (svX M) (vwX 0 M) p ((shX s M).2.2 i).toNatClampNeg
def walkS (v p w : Int32) (M : Mem) : Int32 := if rwS v p (fun s => shX s M) (vwX 0 M) = 0 then (if bt (decide (0 ≤ w) && decide (w ≤ 3)) = 0 then -7 else pick4 w (wkS (walkF M v.toNatClampNeg p.toNatClampNeg) (shX v.toNatClampNeg M).2.1.toNatClampNeg)) else rwS v p (fun s => shX s M) (vwX 0 M)
theorem walkX_ev {T : Nat} {M : Mem} (h : RelT T M) (v p w : Int32) : Ev (fX10_walk v p w M) (fun r M1 => r = walkS v p w M ∧ Kp M M1) := by
  have hX := h.2.2.2.1
  unfold fX10_walk walkS
  refine Ev.bind (rwX_ev h v p) (fun r M1 q => ?_)
  obtain ⟨rfl, rfl⟩ := q
  refine Ev.ite (fun h0 => ?_) (fun h0 => Ev.ret ⟨by rw [if_neg h0], Kp.rf⟩)
  rw [if_pos h0, within_ev, ob_some]
  refine Ev.ite (fun h1 => Ev.ret ⟨by rw [if_pos h1], Kp.rf⟩) (fun h1 => ?_)
  rw [if_neg h1]
  obtain ⟨s, n, q, rfl, hs, hn, en, hw, hq, rfl⟩ := rwS_0 h0 h.ok hX.2.2.2.1
  have hq6 : q < 6 := Nat.lt_of_lt_of_le hq hX.2.2.2.1.1
  rw [nI_clamp (show s < 2 ^ 31 by omega), nI_clamp (show q < 2 ^ 31 by omega), en, nI_clamp (show n < 2 ^ 31 by omega)]
  refine Ev.gd (inb_nI hs (by decide)) (Ev.bind (P := fun r M2 => r = pick4 w (wkS (walkF M1 s q) n) ∧ Kp M1 M2) ?_ (fun r M2 z => Ev.ret z))
  have hf : ∀ i, walkF M1 s q i = feltS (svX M1) (vwX 0 M1) q ((shX s M1).2.2 i).toNatClampNeg := fun _ => rfl
  generalize walkF M1 s q = F at hf
  unfold fX10_feltOnWalk
  refine Ev.loop (f := fun m (x : Int32 × Int32 × Int32 × Int32 × Int32) M => fX10_feltOnWalk_L15 s (nI q) w m x.1 x.2.1 x.2.2.1 x.2.2.2.1 x.2.2.2.2 M) (B := fun k x M => fX10_feltOnWalk_B15 s (nI q) w (fun a b c d e M => k (a, b, c, d, e) M) x.1 x.2.1 x.2.2.1 x.2.2.2.1 x.2.2.2.2 M) (fun _ _ _ => rfl) n
    (fun j x N => x = ((wkS F j).1, (wkS F j).2.1, (wkS F j).2.2.1, (wkS F j).2.2.2, nI j) ∧ Off (scS 0) M1 N) ?_ ?_ FU 0 (0, 0, -1, 0, nI 0) M1 (Nat.zero_le _) (by show _ < 2000 + 0; omega) ⟨rfl, Off.rf⟩
  · rintro k j x N hj ⟨rfl, hN⟩ hk
    show Ev (fX10_feltOnWalk_B15 s (nI q) w (fun a b c d e M => k (a, b, c, d, e) M) (wkS F j).1 (wkS F j).2.1 (wkS F j).2.2.1 (wkS F j).2.2.2 (nI j) N) _
    unfold fX10_feltOnWalk_B15
    have e13 : N 13 s 2 = nI n := by rw [hN.at (by simp [scS])]; exact en
    obtain ⟨c, hc, ec⟩ := walkB_cell hw j hj
    rw [e13, if_neg (fun q => by have := (nI_leI (by omega) (by omega)).mp q; omega), nI_clamp (show j < 2 ^ 31 by omega), hN.at (show ¬ scS 0 14 s by simp [scS]), shX_i (s := s) (M := M1) (show j < 40 by omega), ec]
    refine Ev.gd (inb_nI (by omega) (by decide)) ?_
    refine Ev.bind (felt_ev (scS0_txt hN h.1) (scS0_in hN hX) (by rw [scS_vw hN]; exact hq) hc) (fun r N2 z => Ev.letv ?_)
    rw [scS_vw hN, scS_sv hN] at z
    have hr : r = F j := by rw [z.1, hf, ec, nI_clamp (show c < 2 ^ 31 by omega)]
    have hw2 : wkS F (j + 1) = wkT (wkS F j) (nI j) (F j) := rfl
    unfold fX10_feltOnWalk_J61 fX10_feltOnWalk_J69
    rw [hr, nI_1]
    have e0 : ∀ a : Int32, a + 0 = a := fun a => by simp
    refine Ev.ite (fun e1 => ?_) (fun e1 => ?_)
    · refine Ev.ite (fun e2 => ?_) (fun e2 => ?_)
      · refine hk _ N2 ⟨?_, hN.tr z.2⟩
        rw [hw2, wkT, if_pos e1, if_pos e1, if_pos e2]
      · refine hk _ N2 ⟨?_, hN.tr z.2⟩
        rw [hw2, wkT, if_pos e1, if_pos e1, if_neg e2, e0]
    · refine Ev.ite (fun e3 => ?_) (fun e3 => ?_)
      · refine Ev.ite (fun e2 => ?_) (fun e2 => ?_)
        · refine hk _ N2 ⟨?_, hN.tr z.2⟩
          rw [hw2, wkT, if_neg e1, if_neg e1, if_pos e3, if_pos e3, if_pos e2]
        · refine hk _ N2 ⟨?_, hN.tr z.2⟩
          rw [hw2, wkT, if_neg e1, if_neg e1, if_pos e3, if_pos e3, if_neg e2, e0]
      · refine Ev.ite (fun e2 => ?_) (fun e2 => ?_)
        · refine hk _ N2 ⟨?_, hN.tr z.2⟩
          rw [hw2, wkT, if_neg e1, if_neg e1, if_neg e3, if_neg e3, if_pos e2]
        · refine hk _ N2 ⟨?_, hN.tr z.2⟩
          rw [hw2, wkT, if_neg e1, if_neg e1, if_neg e3, if_neg e3, if_neg e2, e0]
  · rintro k x N ⟨rfl, hN⟩
    show Ev (fX10_feltOnWalk_B15 s (nI q) w (fun a b c d e M => k (a, b, c, d, e) M) (wkS F n).1 (wkS F n).2.1 (wkS F n).2.2.1 (wkS F n).2.2.2 (nI n) N) _
    unfold fX10_feltOnWalk_B15 pick4
    have e13 : N 13 s 2 = nI n := by rw [hN.at (by simp [scS])]; exact en
    have kN := Kp.off hN nk_S
    rw [e13, if_pos (Int32.le_refl _)]
    refine Ev.ite (fun e => Ev.ret ⟨by rw [if_pos e], kN⟩) (fun e => ?_)
    refine Ev.ite (fun e2 => Ev.ret ⟨by rw [if_neg e, if_pos e2], kN⟩) (fun e2 => ?_)
    exact Ev.ite (fun e3 => Ev.ret ⟨by rw [if_neg e, if_neg e2, if_pos e3], kN⟩) (fun e3 => Ev.ret ⟨by rw [if_neg e, if_neg e2, if_neg e3], kN⟩)
theorem scM_in {T : Nat} {M N : Mem} (h : Off scM M N) (hI : InM T M) : InM T N := hI.same (scM_vw h) (h.at (by simp [scM]))
theorem scM_txt {T : Nat} {M N : Mem} (h : Off scM M N) (hT : Txt T M) : Txt T N := hT.off (fun i => ⟨h.at (by simp [scM]), h.at (by simp [scM]), h.at (by simp [scM])⟩) (h.at (by simp [scM])) (h.at (by simp [scM]))
theorem scM_sv {M N : Mem} (h : Off scM M N) : svX N = svX M := svX_off (fun i => h.at (by simp [scM])) (fun i => h.at (by simp [scM]))
theorem walkM_ev {T : Nat} {M : Mem} (h : RelT T M) (v p w : Int32) : Ev (fX11_walk v p w M) (fun r M1 => r = walkS v p w M ∧ Lk M M1) := by
  have hI := h.2.2.2.2.1
  have hv : vwX 0 M = vwM M := h.2.2.2.2.2.1
  have hsh : ∀ s, s < 4 → shM s M = shX s M := fun s hs => (h.2.2.2.2.2.2.2.2.1.eq hs).1.symm
  unfold fX11_walk walkS
  refine Ev.bind (rwM_ev hI (fun s hs => by rw [hsh s hs]; exact h.ok s hs) v p) (fun r M1 q => ?_)
  obtain ⟨rfl, rfl⟩ := q
  rw [rwS_eq hsh, ← hv]
  refine Ev.ite (fun h0 => ?_) (fun h0 => Ev.ret ⟨by rw [if_neg h0], Lk.rf⟩)
  rw [if_pos h0, in_ev, ob_some]
  refine Ev.ite (fun h1 => Ev.ret ⟨by rw [if_pos h1], Lk.rf⟩) (fun h1 => ?_)
  rw [if_neg h1]
  obtain ⟨s, n, q, rfl, hs, hn, en, hw, hq, rfl⟩ := rwS_0 h0 h.ok h.2.2.2.1.2.2.2.1
  have hq6 : q < 6 := Nat.lt_of_lt_of_le hq h.2.2.2.1.2.2.2.1.1
  have is4 : inb (nI s) 4 = true := inb_nI hs (by decide)
  have cs := nI_clamp (show s < 2 ^ 31 by omega)
  rw [cs, nI_clamp (show q < 2 ^ 31 by omega), en, nI_clamp (show n < 2 ^ 31 by omega)]
  have hf : ∀ i, walkF M1 s q i = feltS (svX M1) (vwM M1) q ((shX s M1).2.2 i).toNatClampNeg := fun _ => by unfold walkF; rw [hv]
  generalize walkF M1 s q = F at hf
  have hqM : q < rN (vwM M1) := by rw [← hv]; exact hq
  refine Ev.loop (f := fun m (x : Int32 × Int32 × Int32 × Int32 × Int32) M => fX11_walk_L43 (nI s) (nI q) w m x.1 x.2.1 x.2.2.1 x.2.2.2.1 x.2.2.2.2 M) (B := fun k x M => fX11_walk_B43 (nI s) (nI q) w (fun a b c d e M => k (a, b, c, d, e) M) x.1 x.2.1 x.2.2.1 x.2.2.2.1 x.2.2.2.2 M) (fun _ _ _ => rfl) n
    (fun j x N => x = ((wkS F j).1, (wkS F j).2.1, (wkS F j).2.2.1, (wkS F j).2.2.2, nI j) ∧ Off scM M1 N) ?_ ?_ FU 0 (0, 0, -1, 0, nI 0) M1 (Nat.zero_le _) (by show _ < 2000 + 0; omega) ⟨rfl, Off.rf⟩
  · rintro k j x N hj ⟨rfl, hN⟩ hk
    show Ev (fX11_walk_B43 (nI s) (nI q) w (fun a b c d e M => k (a, b, c, d, e) M) (wkS F j).1 (wkS F j).2.1 (wkS F j).2.2.1 (wkS F j).2.2.2 (nI j) N) _
    unfold fX11_walk_B43
    have e34 : N 34 0 s = nI n := by rw [hN.at (by simp [scM])]; exact (congrArg (fun a => a.2.1) (hsh s hs)).trans en
    obtain ⟨c, hc, ec⟩ := walkB_cell hw j hj
    rw [cs, e34, if_neg (fun q => by have := (nI_leI (by omega) (by omega)).mp q; omega), show (40 : Int32) * nI s + nI j = nI (40 * s + j) by rw [show (40 : Int32) = nI 40 from rfl, nI_mulB, nI_add], nI_clamp (show 40 * s + j < 2 ^ 31 by omega), hN.at (show ¬ scM 35 0 by simp [scM]), shM_i (s := s) (M := M1) (show j < 40 by omega), hsh s hs, ec]
    refine Ev.gd is4 (Ev.gd (inb_nI (by omega) (by decide)) ?_)
    refine Ev.bind (feltM_ev (scM_txt hN h.1) (scM_in hN hI) (by rw [scM_vw hN]; exact hqM) hc) (fun r N2 z => Ev.letv ?_)
    rw [scM_vw hN, scM_sv hN] at z
    have hr : r = F j := by rw [z.1, hf, ec, nI_clamp (show c < 2 ^ 31 by omega)]
    obtain ⟨fv, hfv, efv⟩ := felt_rng (M := M1) (c := c) hI.2.2.2.1 hqM
    have hFj : F j = nI fv := by rw [← hr, z.1, efv]
    have hw2 : wkS F (j + 1) = wkT (wkS F j) (nI j) (F j) := rfl
    have hN2 := hN.tr z.2
    have j92 : ∀ u : Int32, u = (if F j = 0 then 1 else 0) → Ev (fX11_walk_J92 (fun a b c d e M => k (a, b, c, d, e) M) (nI s) (nI q) w ((wkS F j).1 + F j) (wkS F j).2.1 (wkS F j).2.2.1 (nI j) (F j) u (wkS F j).2.2.2 N2) (fun r M2 => r = pick4 w (wkS F n) ∧ Lk M1 M2) := by
      intro u hu
      unfold fX11_walk_J92 fX11_walk_J108 fX11_walk_J115
      refine Ev.letv ?_
      rw [nI_1]
      refine Ev.ite (fun e1 => ?_) (fun e1 => ?_)
      · have hj0 : j = 0 := by
          by_cases q : j = 0
          · exact q
          · obtain ⟨m, hm⟩ : ∃ m, j = m + 1 := ⟨j - 1, by omega⟩
            rw [hm] at e1
            exact absurd e1 (wk_first m (by omega))
        have hm0 : (wkS F j).2.1 = 0 := by rw [hj0]; rfl
        refine Ev.ite (fun e2 => ?_) (fun e2 => ?_)
        · refine hk _ N2 ⟨?_, hN2⟩
          rw [hw2, wkT, if_pos e1, if_pos e1, hu]
          have : F j = 0 := by
            rw [hm0, hFj] at e2
            rw [hFj]
            by_cases q : fv = 0
            · rw [q]; rfl
            · exact absurd e2 (nI_nle (by omega) (by omega))
          rw [hm0, this]
        · refine hk _ N2 ⟨?_, hN2⟩
          rw [hw2, wkT, if_pos e1, if_pos e1, hu]
      · refine Ev.ite (fun e2 => ?_) (fun e2 => ?_)
        · rw [if_pos e2]
          refine hk _ N2 ⟨?_, hN2⟩
          rw [hw2, wkT, if_neg e1, if_neg e1, if_pos e2, if_pos e2, hu]
        · rw [if_neg e2]
          refine hk _ N2 ⟨?_, hN2⟩
          rw [hw2, wkT, if_neg e1, if_neg e1, if_neg e2, if_neg e2, hu]
    rw [hr]
    refine Ev.ite (fun e => j92 1 (by rw [if_pos e])) (fun e => j92 0 (by rw [if_neg e]))
  · rintro k x N ⟨rfl, hN⟩
    show Ev (fX11_walk_B43 (nI s) (nI q) w (fun a b c d e M => k (a, b, c, d, e) M) (wkS F n).1 (wkS F n).2.1 (wkS F n).2.2.1 (wkS F n).2.2.2 (nI n) N) _
    unfold fX11_walk_B43 pick4
    have e34 : N 34 0 s = nI n := by rw [hN.at (by simp [scM])]; exact (congrArg (fun a => a.2.1) (hsh s hs)).trans en
    have kN := (Kp.off hN nk_M).lk
    rw [cs, e34, if_pos (Int32.le_refl _)]
    refine Ev.gd is4 (Ev.ite (fun e => Ev.ret ⟨by rw [if_pos e], kN⟩) (fun e => ?_))
    refine Ev.ite (fun e2 => Ev.ret ⟨by rw [if_neg e, if_pos e2], kN⟩) (fun e2 => ?_)
    exact Ev.ite (fun e3 => Ev.ret ⟨by rw [if_neg e, if_neg e2, if_pos e3], kN⟩) (fun e3 => Ev.ret ⟨by rw [if_neg e, if_neg e2, if_neg e3], kN⟩)
theorem walk_same (v p w : Int32) : Same (fX10_walk v p w) (fX11_walk v p w) :=
  Same.ask (walkS v p w) (fun M M1 h => by
    have e : ∀ s p, walkF M1 s p = walkF M s p := fun s p => by unfold walkF; rw [h.sv, h.vX, h.sh]
    unfold walkS
    rw [shf h, h.vX, e, h.sh]) (fun _ _ h => walkX_ev h v p w) (fun _ _ h => walkM_ev h v p w)
end WK
