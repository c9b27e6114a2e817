/-! sheets, side by side -/
section SH
abbrev Sh : Type := Int32 × Int32 × (Nat → Int32)
def shX (s : Nat) (M : Mem) : Sh := (M 13 s 1, M 13 s 2, fun i => if i < 40 then M 14 s i else 0)
def shM (s : Nat) (M : Mem) : Sh := (M 33 0 s, M 34 0 s, fun i => if i < 40 then M 35 0 (40 * s + i) else 0)
def okSh (a : Sh) : Prop := (a.1 = -1 ∨ a.1 = 0 ∨ a.1 = 1 ∨ a.1 = 2) ∧ ∃ n, n ≤ 40 ∧ a.2.1 = nI n
theorem shX_i {s i : Nat} {M : Mem} (hi : i < 40) : M 14 s i = (shX s M).2.2 i := by simp [shX, hi]
theorem shM_i {s i : Nat} {M : Mem} (hi : i < 40) : M 35 0 (40 * s + i) = (shM s M).2.2 i := by simp [shM, hi]
theorem SheetR.eq {M : Mem} (h : SheetR M) {s : Nat} (hs : s < 4) : shX s M = shM s M ∧ okSh (shX s M) := by
  obtain ⟨a, b, ⟨n, c1, c2, c3⟩, d⟩ := h s hs
  refine ⟨Prod.ext a (Prod.ext (by show M 13 s 2 = M 34 0 s; rw [c2, c3]) ?_), b, n, c1, c2⟩
  funext i
  show (if i < 40 then M 14 s i else 0) = (if i < 40 then M 35 0 (40 * s + i) else 0)
  by_cases h : i < 40
  · rw [if_pos h, if_pos h, d i h]
  · rw [if_neg h, if_neg h]
theorem SheetR.of {M : Mem} (h : ∀ s, s < 4 → shX s M = shM s M ∧ okSh (shX s M)) : SheetR M := by
  intro s hs
  obtain ⟨h1, h2, n, h3, h4⟩ := h s hs
  refine ⟨congrArg (fun x => x.1) h1, h2, ⟨n, h3, h4, ?_⟩, fun i hi => ?_⟩
  · rw [← h4]
    exact (congrArg (fun x => x.2.1) h1).symm
  · rw [shX_i (s := s) (M := M) hi, h1, ← shM_i (s := s) (M := M) hi]
theorem shX_eq {s : Nat} {M M' : Mem} (h1 : M' 13 s = M 13 s) (h2 : M' 14 s = M 14 s) : shX s M' = shX s M := by
  unfold shX
  rw [h1, h2]
theorem shM_eq {s : Nat} {M M' : Mem} (h1 : M' 33 0 = M 33 0) (h2 : M' 34 0 = M 34 0) (h3 : M' 35 0 = M 35 0) : shM s M' = shM s M := by
  unfold shM
  rw [h1, h2, h3]
theorem RelT.sheets {T : Nat} {M M' : Mem} (h : RelT T M) (hk : ∀ K i, keptK K i → (22 ≤ K → i = 0) → K ≠ 13 → K ≠ 14 → K ≠ 33 → K ≠ 34 → K ≠ 35 → M' K i = M K i) (hs : SheetR M') : RelT T M' := by
  have e0 : ∀ K i, K ≠ 13 → K ≠ 14 → K ≠ 33 → K ≠ 34 → K ≠ 35 → (fun K i => if K = 13 ∨ K = 14 ∨ K = 33 ∨ K = 34 ∨ K = 35 then M K i else M' K i) K i = M' K i := fun K i a b c d e => by
    show (if K = 13 ∨ K = 14 ∨ K = 33 ∨ K = 34 ∨ K = 35 then M K i else M' K i) = M' K i
    rw [if_neg (by omega)]
  have e1 : ∀ K i, (K = 13 ∨ K = 14 ∨ K = 33 ∨ K = 34 ∨ K = 35) → (fun K i => if K = 13 ∨ K = 14 ∨ K = 33 ∨ K = 34 ∨ K = 35 then M K i else M' K i) K i = M K i := fun K i a => by
    show (if K = 13 ∨ K = 14 ∨ K = 33 ∨ K = 34 ∨ K = 35 then M K i else M' K i) = M K i
    rw [if_pos a]
  generalize (fun K i => if K = 13 ∨ K = 14 ∨ K = 33 ∨ K = 34 ∨ K = 35 then M K i else M' K i) = P at e0 e1
  have hP : RelT T P := h.keep0 (fun K i a b => by
    by_cases q : K = 13 ∨ K = 14 ∨ K = 33 ∨ K = 34 ∨ K = 35
    · exact e1 K i q
    · rw [e0 K i (by omega) (by omega) (by omega) (by omega) (by omega)]
      exact hk K i a b (by omega) (by omega) (by omega) (by omega) (by omega))
  have e : ∀ K i, K ≠ 13 ∧ K ≠ 14 ∧ K ≠ 33 ∧ K ≠ 34 ∧ K ≠ 35 → M' K i = P K i := fun K i a => (e0 K i a.1 a.2.1 a.2.2.1 a.2.2.2.1 a.2.2.2.2).symm
  obtain ⟨a1, a2, a3, a4, a5, a6, a7, a8, a9, a10, a11⟩ := hP
  have eX0 : vwX 0 M' = vwX 0 P := vwX_eq (e _ _ (by decide)) (e _ _ (by decide)) (fun t ht => e _ _ (by decide))
  have eX2 : vwX 2 M' = vwX 2 P := vwX_eq (e _ _ (by decide)) (e _ _ (by decide)) (fun t ht => e _ _ (by decide))
  have eM : vwM M' = vwM P := vwM_eq (e _ _ (by decide)) (e _ _ (by decide)) (e _ _ (by decide)) (e _ _ (by decide)) (e _ _ (by decide)) (e _ _ (by decide))
  have eI : vwI M' = vwI P := by
    unfold vwI
    rw [e 31 0 (by decide), e 32 0 (by decide), e 23 0 (by decide), e 24 0 (by decide)]
  refine ⟨a1.off (fun i => ⟨e _ _ (by decide), e _ _ (by decide), e _ _ (by decide)⟩) (e _ _ (by decide)) (e _ _ (by decide)), by rw [e 0 0 (by decide)]; exact a2, by rw [e 22 0 (by decide)]; exact a3, a4.same (e _ _ (by decide)) (e _ _ (by decide)) (fun t ht => e _ _ (by decide)), a5.same eM (e _ _ (by decide)), by rw [eX0, eM]; exact a6, by rw [eX0]; exact a7, ?_, hs, ?_, ?_⟩
  · unfold TapeR
    rw [e 1 0 (by decide), e 22 0 (by decide), e 2 0 (by decide), e 28 0 (by decide)]
    exact a8
  · obtain ⟨b1, b2⟩ := a10
    refine ⟨by rw [e 0 0 (by decide), e 22 0 (by decide)]; exact b1, ?_⟩
    rw [e 0 0 (by decide), e 32 0 (by decide), eX2, eX0, eI]
    rcases b2 with b2 | ⟨c1, c2, c3⟩
    · exact Or.inl b2
    · exact Or.inr ⟨c1, c2.same (e _ _ (by decide)) (e _ _ (by decide)) (fun t ht => e _ _ (by decide)), c3⟩
  · unfold ConR
    rw [e 37 0 (by decide)]
    exact a11
theorem Same.sheet {fx fm : Mem → Option (Int32 × Mem)} (S : Mem → Int32) (V : Mem → Nat → Sh)
    (hok : ∀ T M, RelT T M → ∀ s, s < 4 → okSh (V M s))
    (hx : ∀ T M, RelT T M → Ev (fx M) (fun r M1 => r = S M ∧ (∀ s, s < 4 → shX s M1 = V M s) ∧ ∀ K i, keptK K i → K ≠ 13 → K ≠ 14 → M1 K i = M K i))
    (hm : ∀ T M N, RelT T M → Txt T N → InM T N → vwM N = vwX 0 M → svX N = svX M → (∀ K i, 22 ≤ K → keptK K i → N K i = M K i) → Ev (fm N) (fun r N1 => ∃ B, r = S M ∧ (∀ s, s < 4 → shM s B = V M s) ∧ (∀ K i, K ≠ 33 → K ≠ 34 → K ≠ 35 → B K i = N K i) ∧ Lk B N1)) : Same fx fm := by
  rintro M ⟨T, h⟩
  refine (hx T M h).mono (fun r N q => ?_)
  obtain ⟨q1, q2, q3⟩ := q
  have k : ∀ {K i : Nat}, keptK K i → K ≠ 13 → K ≠ 14 → N K i = M K i := fun a b c => q3 _ _ a b c
  have hT : Txt T N := h.1.off (fun i => ⟨k (by simp [keptK]) (by decide) (by decide), k (by simp [keptK]) (by decide) (by decide), k (by simp [keptK]) (by decide) (by decide)⟩) (k (by simp [keptK]) (by decide) (by decide)) (k (by simp [keptK]) (by decide) (by decide))
  have hs : svX N = svX M := svX_off (fun i => k (by simp [keptK]) (by decide) (by decide)) (fun i => k (by simp [keptK]) (by decide) (by decide))
  have eM : vwM N = vwM M := vwM_eq (k (by simp [keptK]) (by decide) (by decide)) (k (by simp [keptK]) (by decide) (by decide)) (k (by simp [keptK]) (by decide) (by decide)) (k (by simp [keptK]) (by decide) (by decide)) (k (by simp [keptK]) (by decide) (by decide)) (k (by simp [keptK]) (by decide) (by decide))
  have hv : vwX 0 M = vwM M := h.2.2.2.2.2.1
  refine (hm T M N h hT (h.2.2.2.2.1.same eM (k (by simp [keptK]) (by decide) (by decide))) (by rw [eM, hv]) hs (fun K i a b => k b (by omega) (by omega))).mono (fun r2 N1 z => ?_)
  obtain ⟨B, z1, z2, z3, z4⟩ := z
  have hB : RelT T B := h.sheets (fun K i a b c1 c2 c3 c4 c5 => by rw [z3 K i c3 c4 c5]; exact k a c1 c2) (SheetR.of (fun s hs => by
    have e : shX s B = shX s N := shX_eq (z3 _ _ (by decide) (by decide) (by decide)) (z3 _ _ (by decide) (by decide) (by decide))
    rw [e, q2 s hs, z2 s hs]
    exact ⟨rfl, hok T M h s hs⟩))
  exact ⟨by rw [z1, q1], T, hB.lk z4⟩
theorem sheetX_is (M : Mem) (v : Int32) : fX10_isSheet v M = some (bt (decide (0 ≤ v) && decide (v ≤ 3)), M) := by
  unfold fX10_isSheet
  rw [within_ev, ob_some, gd_isB]
theorem fill_ev {s : Nat} {M : Mem} : Ev (fJ7_fill_53178_14 s 0 M) (fun _ M' => (∀ i, i < 40 → M' 14 s i = 0) ∧ Off (fun K i => K = 14 ∧ i = s) M M') := by
  unfold fJ7_fill_53178_14
  refine Ev.letv ?_
  refine Ev.loop (f := fun m (x : Int32) M => fJ7_fill_53178_14_L5 s 0 (nI 40) m x M) (B := fun k x M => fJ7_fill_53178_14_B5 s 0 (nI 40) k x M) (fun _ _ _ => rfl) 40
    (fun j x M' => x = nI j ∧ (∀ i, i < j → M' 14 s i = 0) ∧ Off (fun K i => K = 14 ∧ i = s) M M') ?_ ?_ FU 0 (nI 0) M (Nat.zero_le _) (by show _ < 2000 + 0; omega) ⟨rfl, fun _ h => absurd h (Nat.not_lt_zero _), Off.rf⟩
  · rintro k j x M' hj ⟨rfl, ha, hoff⟩ hk
    show Ev (fJ7_fill_53178_14_B5 s 0 (nI 40) k (nI j) M') _
    unfold fJ7_fill_53178_14_B5
    rw [if_neg (fun q => by have := (nI_leI (by omega) (by omega)).mp q; omega)]
    refine Ev.gd (inb_nI hj (by decide)) (Ev.let_ fun M2 h2 => ?_)
    rw [nI_clamp (show j < 2 ^ 31 by omega)] at h2
    rw [nI_1]
    refine hk _ M2 ⟨rfl, fun i hi => ?_, by rw [h2]; exact hoff.mst ⟨rfl, rfl⟩⟩
    rw [h2, mst_s]
    by_cases e : i = j
    · subst e; simp [upd]
    · simp only [upd, if_neg e]
      exact ha i (by omega)
  · rintro k x M' ⟨rfl, ha, hoff⟩
    show Ev (fJ7_fill_53178_14_B5 s 0 (nI 40) k (nI 40) M') _
    unfold fJ7_fill_53178_14_B5
    rw [if_pos ((nI_leI (by omega) (by omega)).mpr (Nat.le_refl _))]
    exact Ev.ret ⟨ha, hoff⟩
def updS (V : Nat → Sh) (s : Nat) (a : Sh) : Nat → Sh := fun z => if z = s then a else V z
abbrev scH (s : Nat) : Nat → Nat → Prop := fun K i => (K = 13 ∨ K = 14) ∧ i = s
theorem scH_sh {s z : Nat} {M M' : Mem} (h : Off (scH s) M M') (hz : z ≠ s) : shX z M' = shX z M := shX_eq (h.at (fun q => hz q.2)) (h.at (fun q => hz q.2))
theorem become_ev {s : Nat} {a b : Int32} {M : Mem} : Ev (fX6_become s a b M) (fun _ M' => shX s M' = (a, b, fun _ => 0) ∧ Off (scH s) M M') := by
  unfold fX6_become
  refine Ev.let_ fun M1 h1 => Ev.let_ fun M2 h2 => Ev.bind fill_ev (fun _ M4 q => Ev.ret ?_)
  have e13 : M4 13 s = upd (upd (M 13 s) 1 a) 2 b := by rw [q.2.at (by simp), h2, mst_s, h1, mst_s]
  refine ⟨?_, ?_⟩
  · unfold shX
    rw [e13]
    refine Prod.ext (by simp [upd]) (Prod.ext (by simp [upd]) ?_)
    funext i
    by_cases hi : i < 40
    · simp only [hi, if_true]; exact q.1 i hi
    · simp only [hi, if_false]
  · have o : Off (scH s) M M2 := by rw [h2, h1]; exact (Off.rf.mst ⟨Or.inl rfl, rfl⟩).mst ⟨Or.inl rfl, rfl⟩
    exact o.tr (q.2.mono (fun K i z => ⟨Or.inr z.1, z.2⟩))
theorem clearM_ev {s : Nat} (hs : s < 4) {M : Mem} {Q : Int32 → Mem → Prop} (hQ : ∀ M', (∀ i, i < 40 → M' 35 0 (40 * s + i) = 0) → (∀ i, i < 40 * s ∨ 40 * s + 40 ≤ i → M' 35 0 i = M 35 0 i) → Off (fun K i => K = 35 ∧ i = 0) M M' → Q 1 M') : Ev (fX11_sheet_L70 (nI s) FU 0 M) Q := by
  refine Ev.loop (f := fun m (x : Int32) M => fX11_sheet_L70 (nI s) m x M) (B := fun k x M => fX11_sheet_B70 (nI s) k x M) (fun _ _ _ => rfl) 40
    (fun j x M' => x = nI j ∧ (∀ i, i < j → M' 35 0 (40 * s + i) = 0) ∧ (∀ i, i < 40 * s ∨ 40 * s + 40 ≤ i → M' 35 0 i = M 35 0 i) ∧ Off (fun K i => K = 35 ∧ i = 0) M M') ?_ ?_ FU 0 (nI 0) M (Nat.zero_le _) (by show _ < 2000 + 0; omega) ⟨rfl, fun _ h => absurd h (Nat.not_lt_zero _), fun _ _ => rfl, Off.rf⟩
  · rintro k j x M' hj ⟨rfl, ha, hb, hoff⟩ hk
    show Ev (fX11_sheet_B70 (nI s) k (nI j) M') _
    unfold fX11_sheet_B70
    have ei : (40 : Int32) * nI s + nI j = nI (40 * s + j) := by rw [show (40 : Int32) = nI 40 from rfl, nI_mulB, nI_add]
    rw [if_neg (fun q => by have := (nI_leI (a := 40) (by omega) (by omega)).mp q; omega), ei]
    refine Ev.gd (inb_nI (by omega) (by decide)) (Ev.let_ fun M2 h2 => ?_)
    rw [nI_clamp (show 40 * s + j < 2 ^ 31 by omega)] at h2
    rw [nI_1]
    refine hk _ M2 ⟨rfl, fun i hi => ?_, fun i hi => ?_, by rw [h2]; exact hoff.mst ⟨rfl, rfl⟩⟩
    · rw [h2, mst_s]
      by_cases e : i = j
      · subst e; simp [upd]
      · simp only [upd, if_neg (show 40 * s + i ≠ 40 * s + j by omega)]
        exact ha i (by omega)
    · rw [h2, mst_s]
      simp only [upd, if_neg (show i ≠ 40 * s + j by omega)]
      exact hb i hi
  · rintro k x M' ⟨rfl, ha, hb, hoff⟩
    show Ev (fX11_sheet_B70 (nI s) k (nI 40) M') _
    unfold fX11_sheet_B70
    rw [if_pos (by decide)]
    exact Ev.ret (hQ M' ha hb hoff)
def sheetA (v w : Int32) (z : Int32) : Int32 := if bt (decide (0 ≤ v) && decide (v ≤ 3)) = 0 then -2 else if bt (decide (-1 ≤ w) && decide (w ≤ 2)) = 0 then -2 else if w = -1 then 1 else if z ≤ 40 then (if 0 ≤ z then 1 else -14) else -2
def sheetV (v w z : Int32) (V : Nat → Sh) : Nat → Sh := if bt (decide (0 ≤ v) && decide (v ≤ 3)) = 0 then V else if bt (decide (-1 ≤ w) && decide (w ≤ 2)) = 0 then V else if w = -1 then updS V v.toNatClampNeg (-1, 0, fun _ => 0) else if z ≤ 40 then (if 0 ≤ z then updS V v.toNatClampNeg (w, z, fun _ => 0) else V) else V
theorem m1_rng {w : Int32} (h : -1 ≤ w ∧ w ≤ 2) : w = -1 ∨ w = 0 ∨ w = 1 ∨ w = 2 := by
  have a := Int32.le_iff_toInt_le.mp h.1
  have b := Int32.le_iff_toInt_le.mp h.2
  rw [show (-1 : Int32).toInt = -1 by decide] at a
  rw [show (2 : Int32).toInt = 2 by decide] at b
  have : w.toInt = -1 ∨ w.toInt = 0 ∨ w.toInt = 1 ∨ w.toInt = 2 := by omega
  rcases this with e | e | e | e
  · exact Or.inl (Int32.toInt_inj.mp (by rw [e]; decide))
  · exact Or.inr (Or.inl (Int32.toInt_inj.mp (by rw [e]; decide)))
  · exact Or.inr (Or.inr (Or.inl (Int32.toInt_inj.mp (by rw [e]; decide))))
  · exact Or.inr (Or.inr (Or.inr (Int32.toInt_inj.mp (by rw [e]; decide))))
theorem scH_off {s : Nat} {M M' : Mem} (h : Off (scH s) M M') : ∀ K i, keptK K i → K ≠ 13 → K ≠ 14 → M' K i = M K i := fun K i _ b c => h.at (fun q => q.1.elim b c)
theorem updS_X {s : Nat} {M M' : Mem} {a : Sh} (h : Off (scH s) M M') (ha : shX s M' = a) : ∀ z, z < 4 → shX z M' = updS (fun z => shX z M) s a z := by
  intro z _
  unfold updS
  by_cases e : z = s
  · rw [if_pos e, e, ha]
  · rw [if_neg e]; exact scH_sh h e
theorem sheet_same (v w z : Int32) : Same (fX10_sheet v w z) (fX11_sheet v w z) := by
  refine Same.sheet (fun _ => sheetA v w z) (fun M => sheetV v w z (fun s => shX s M)) ?_ ?_ ?_
  · intro T M h s hs
    have h0 := (h.2.2.2.2.2.2.2.2.1.eq hs).2
    unfold sheetV
    split
    · exact h0
    · split
      · exact h0
      · rename_i h2
        split
        · unfold updS
          split
          · exact ⟨Or.inl rfl, 0, by omega, rfl⟩
          · exact h0
        · split
          · split
            · rename_i h4 h5
              unfold updS
              split
              · obtain ⟨n, hn, e⟩ := rng (n := 40) (by decide) ⟨h5, h4⟩
                exact ⟨m1_rng (not_bt h2), n, hn, e⟩
              · exact h0
            · exact h0
          · exact h0
  · intro T M h
    unfold fX10_sheet
    rw [sheetX_is, ob_some]
    refine Ev.ite (fun h0 => Ev.ret ⟨by rw [sheetA, if_pos h0], fun s _ => by rw [sheetV, if_pos h0], fun _ _ _ _ _ => rfl⟩) (fun h0 => ?_)
    rw [within_ev, ob_some]
    refine Ev.ite (fun h1 => Ev.ret ⟨by rw [sheetA, if_neg h0, if_pos h1], fun s _ => by rw [sheetV, if_neg h0, if_pos h1], fun _ _ _ _ _ => rfl⟩) (fun h1 => ?_)
    have eA : sheetA v w z = if w = -1 then 1 else if z ≤ 40 then (if 0 ≤ z then 1 else -14) else -2 := by rw [sheetA, if_neg h0, if_neg h1]
    have eV : ∀ V, sheetV v w z V = if w = -1 then updS V v.toNatClampNeg (-1, 0, fun _ => 0) else if z ≤ 40 then (if 0 ≤ z then updS V v.toNatClampNeg (w, z, fun _ => 0) else V) else V := fun V => by rw [sheetV, if_neg h0, if_neg h1]
    obtain ⟨s, hs, rfl⟩ := rng (n := 3) (by decide) (not_bt h0)
    have hin : inb (nI s) 4 = true := inb_nI (by omega) (by decide)
    have cs := nI_clamp (show s < 2 ^ 31 by omega)
    rw [eA, eV, cs]
    refine Ev.ite (fun h2 => ?_) (fun h2 => ?_)
    · rw [if_pos h2, if_pos h2]
      refine Ev.gd hin (Ev.bind become_ev (fun _ M1 q => Ev.ret ⟨rfl, updS_X q.2 q.1, scH_off q.2⟩))
    · rw [if_neg h2, if_neg h2]
      refine Ev.ite (fun h3 => ?_) (fun h3 => ?_)
      · rw [if_pos h3, if_pos h3]
        refine Ev.ite (fun h4 => ?_) (fun h4 => ?_)
        · rw [if_pos h4, if_pos h4]
          refine Ev.gd hin (Ev.bind become_ev (fun _ M1 q => Ev.ret ⟨rfl, updS_X q.2 q.1, scH_off q.2⟩))
        · rw [if_neg h4, if_neg h4]
          exact Ev.ret ⟨rfl, fun _ _ => rfl, fun _ _ _ _ _ => rfl⟩
      · rw [if_neg h3, if_neg h3]
        exact Ev.ret ⟨rfl, fun _ _ => rfl, fun _ _ _ _ _ => rfl⟩
  · intro T M N h hT hI hvN hs hk
    have hsh : ∀ s, s < 4 → shM s N = shX s M := fun s hs => by
      rw [shM_eq (hk 33 0 (by decide) (by simp [keptK])) (hk 34 0 (by decide) (by simp [keptK])) (hk 35 0 (by decide) (by simp [keptK]))]
      exact (h.2.2.2.2.2.2.2.2.1.eq hs).1.symm
    have refu : ∀ (r : Int32), r = sheetA v w z → (∀ s, s < 4 → shX s M = sheetV v w z (fun s => shX s M) s) → Ev (some (r, N)) (fun r N1 => ∃ B, r = sheetA v w z ∧ (∀ s, s < 4 → shM s B = sheetV v w z (fun s => shX s M) s) ∧ (∀ K i, K ≠ 33 → K ≠ 34 → K ≠ 35 → B K i = N K i) ∧ Lk B N1) :=
      fun r h1 h2 => Ev.ret ⟨N, h1, fun s hs => by rw [hsh s hs]; exact h2 s hs, fun _ _ _ _ _ => rfl, Lk.rf⟩
    unfold fX11_sheet
    rw [in_ev, ob_some]
    refine Ev.ite (fun h0 => refu _ (by rw [sheetA, if_pos h0]) (fun s _ => by rw [sheetV, if_pos h0])) (fun h0 => ?_)
    rw [in_ev, ob_some]
    refine Ev.ite (fun h1 => refu _ (by rw [sheetA, if_neg h0, if_pos h1]) (fun s _ => by rw [sheetV, if_neg h0, if_pos h1])) (fun h1 => ?_)
    have eA : sheetA v w z = if w = -1 then 1 else if z ≤ 40 then (if 0 ≤ z then 1 else -14) else -2 := by rw [sheetA, if_neg h0, if_neg h1]
    have eV : ∀ V, sheetV v w z V = if w = -1 then updS V v.toNatClampNeg (-1, 0, fun _ => 0) else if z ≤ 40 then (if 0 ≤ z then updS V v.toNatClampNeg (w, z, fun _ => 0) else V) else V := fun V => by rw [sheetV, if_neg h0, if_neg h1]
    rw [eA, eV] at refu
    rw [eA, eV]
    obtain ⟨s, hs, rfl⟩ := rng (n := 3) (by decide) (not_bt h0)
    have hin : inb (nI s) 4 = true := inb_nI (by omega) (by decide)
    have cs := nI_clamp (show s < 2 ^ 31 by omega)
    rw [cs] at refu
    rw [cs]
    have core : ∀ (b : Int32) (N5 N6 : Mem) (A : Int32) (W : Nat → Sh), A = 1 → W = updS (fun s => shX s M) s (w, b, fun _ => 0) → N5 = mst N 33 0 s w → N6 = mst N5 34 0 s b → Ev (fX11_sheet_L70 (nI s) FU 0 N6) (fun r N1 => ∃ B, r = A ∧ (∀ s, s < 4 → shM s B = W s) ∧ (∀ K i, K ≠ 33 → K ≠ 34 → K ≠ 35 → B K i = N K i) ∧ Lk B N1) := by
      intro b N5 N6 A W hA hW h5 h6
      refine clearM_ev (by omega) (fun M' c1 c2 c3 => ⟨M', hA.symm, fun y hy => ?_, fun K i d1 d2 d3 => ?_, Lk.rf⟩)
      · have e33 : M' 33 0 = upd (N 33 0) s w := by rw [c3.at (by simp), h6, mst_n (by simp), h5, mst_s]
        have e34 : M' 34 0 = upd (N 34 0) s b := by rw [c3.at (by simp), h6, mst_s, h5, mst_n (by simp)]
        have e35 : N6 35 0 = N 35 0 := by rw [h6, mst_n (by simp), h5, mst_n (by simp)]
        rw [hW]
        unfold updS
        by_cases e : y = s
        · rw [if_pos e, e]
          unfold shM
          rw [e33, e34]
          refine Prod.ext (by simp [upd]) (Prod.ext (by simp [upd]) ?_)
          funext i
          by_cases hi : i < 40
          · simp only [hi, if_true]; exact c1 i hi
          · simp only [hi, if_false]
        · rw [if_neg e]
          show shM y M' = shX y M
          rw [← hsh y hy]
          unfold shM
          rw [e33, e34]
          refine Prod.ext (by simp [upd, e]) (Prod.ext (by simp [upd, e]) ?_)
          funext i
          by_cases hi : i < 40
          · simp only [hi, if_true]; rw [c2 _ (by omega), e35]
          · simp only [hi, if_false]
      · rw [c3.at (fun q => d3 q.1), h6, mst_n (fun q => d2 q.1), h5, mst_n (fun q => d1 q.1)]
    have j44 : ∀ (b : Int32) (A : Int32) (W : Nat → Sh), A = 1 → W = updS (fun s => shX s M) s (w, b, fun _ => 0) → (w = -1 → b = 0) → (¬ w = -1 → b = z) → Ev (fX11_sheet_J44 (nI s) w z N) (fun r N1 => ∃ B, r = A ∧ (∀ s, s < 4 → shM s B = W s) ∧ (∀ K i, K ≠ 33 → K ≠ 34 → K ≠ 35 → B K i = N K i) ∧ Lk B N1) := by
      intro b A W hA hW b1 b2
      unfold fX11_sheet_J44
      refine Ev.gd hin (Ev.let_ fun N5 h5 => ?_)
      rw [cs] at h5 ⊢
      refine Ev.ite (fun e => Ev.gd hin (Ev.let_ fun N6 h6 => ?_)) (fun e => Ev.gd hin (Ev.let_ fun N6 h6 => ?_))
      · exact core b N5 N6 A W hA hW h5 (by rw [h6, b1 e])
      · exact core b N5 N6 A W hA hW h5 (by rw [h6, b2 e])
    refine Ev.ite (fun h2 => ?_) (fun h2 => ?_)
    · unfold fX11_sheet_J32
      rw [if_pos h2, if_pos h2, if_pos h2]
      exact j44 0 1 _ rfl (by rw [h2]) (fun _ => rfl) (fun q => absurd h2 q)
    · rw [if_neg h2, if_neg h2] at refu
      rw [if_neg h2, if_neg h2]
      refine Ev.ite (fun h3 => ?_) (fun h3 => ?_)
      · unfold fX11_sheet_J32
        rw [if_pos h3, if_pos h3] at refu
        rw [if_neg h2, if_pos h3, if_pos h3]
        refine Ev.ite (fun h4 => ?_) (fun h4 => ?_)
        · rw [if_pos h4, if_pos h4]
          exact j44 z 1 _ rfl rfl (fun q => absurd q h2) (fun _ => rfl)
        · rw [if_neg h4, if_neg h4] at refu
          rw [if_neg h4, if_neg h4]
          exact refu _ rfl (fun _ _ => rfl)
      · rw [if_neg h3, if_neg h3] at refu
        rw [if_neg h3, if_neg h3]
        exact refu _ rfl (fun _ _ => rfl)
end SH
