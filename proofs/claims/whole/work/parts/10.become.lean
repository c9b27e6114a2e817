/-! Text.become: the one place that makes a new row after the start -/
section BC
def rmT (n : Nat) : Room := { frames := n, cells := 1, slots := 160, locals := 64 * n }
def cpn (n : Int32) : Bool := decide (0 ≤ n) && decide (n.toNatClampNeg < 160)
def cpR (M : Mem) (n : Int32) : Nat → Int32 := va_cpy (M 3 0) (fun _ => 0) 0 0 n.toNatClampNeg
theorem kdL_len : kdL.length = 98 := by decide +kernel
theorem wl_len {g : GP} {q : Nat → Nat} {M : Mem} : (wl g q M).length = 98 := by rw [wl, List.length_map, kdL_len]
theorem pos_lt {K i : Nat} (hK : K < 44) (hi : i < nIx K) : pos K i < 98 := by
  have h := (List.getElem?_eq_some_iff.mp (pos_at K hK i hi)).1
  rwa [kdL_len] at h
theorem pos_inj {K i K' i' : Nat} (hK : K < 44) (hi : i < nIx K) (hK' : K' < 44) (hi' : i' < nIx K') (h : pos K i = pos K' i') : K = K' ∧ i = i' := by
  have h1 := pos_at K hK i hi
  rw [h, pos_at K' hK' i' hi'] at h1
  cases h1
  exact ⟨rfl, rfl⟩
theorem ext_at {g : GP} {q : Nat → Nat} {M : Mem} {e : Nat × va_E} {K i : Nat} (hK : K < 44) (hi : i < nIx K) : (wl g q M ++ [e])[pos K i]? = some (adr g q K i, cellK g q K i M) := by
  rw [List.getElem?_append_left (by rw [wl_len]; exact pos_lt hK hi), wl_at hK hi]
theorem ext_new {g : GP} {q : Nat → Nat} {M : Mem} {e : Nat × va_E} : (wl g q M ++ [e])[98]? = some e := by
  rw [List.getElem?_append_right (by rw [wl_len]; exact Nat.le_refl _), wl_len]
  rfl
theorem ext_set {g : GP} {q : Nat → Nat} {M : Mem} {e e2 : Nat × va_E} : (wl g q M ++ [e]).set 98 e2 = wl g q M ++ [e2] := by
  rw [List.set_append_right _ _ (by rw [wl_len]; exact Nat.le_refl _), wl_len]
  rfl
/-- a world out of any list that has every cell somewhere -/
theorem wl_of {g : GP} {q : Nat → Nat} {M : Mem} {ws : va_W} {H : Heap} (φ : Nat → Nat → Nat) (h : ∀ K i, K < 44 → i < nIx K → ws[φ K i]? = some (adr g q K i, cellK g q K i M))
    (hinj : ∀ K i K' i', K < 44 → i < nIx K → K' < 44 → i' < nIx K' → φ K i = φ K' i' → K = K' ∧ i = i') (hP : va_P (gD g) vCl ws H) (hD : va_D (gU g) ws) : WdH g M H := by
  have key : ∀ (k : Nat) (p : Nat × va_E), (wl g q M)[k]? = some p → ∃ K i, K < 44 ∧ i < nIx K ∧ k = pos K i ∧ p = (adr g q K i, cellK g q K i M) := by
    intro k p hk
    simp only [wl, List.getElem?_map] at hk
    cases hkk : kdL[k]? with
    | none => rw [hkk] at hk; cases hk
    | some z =>
      rw [hkk] at hk
      have hm := kdL_ok z (List.mem_of_getElem? hkk)
      have hlt := (List.getElem?_eq_some_iff.mp hkk).1
      have hp : kdL.getD k (0, 0) = z := by simp [List.getD_eq_getElem?_getD, hkk]
      have hu := pos_un k hlt
      rw [hp] at hu
      exact ⟨z.1, z.2, hm.1, hm.2, hu.symm, (Option.some.inj hk).symm⟩
  refine ⟨q, fun k p hk => ?_, ⟨fun i j p r hi hj hpr => ?_, fun k p hk => ?_⟩⟩
  · obtain ⟨K, i, h1, h2, -, rfl⟩ := key k p hk
    exact hP _ _ (h K i h1 h2)
  · obtain ⟨K, i1, h1, h2, rfl, rfl⟩ := key i p hi
    obtain ⟨K', i2, h1', h2', rfl, rfl⟩ := key j r hj
    have e := hD.1 _ _ _ _ (h K i1 h1 h2) (h K' i2 h1' h2') hpr
    obtain ⟨rfl, rfl⟩ := hinj _ _ _ _ h1 h2 h1' h2' e
    rfl
  · obtain ⟨K, i, h1, h2, -, rfl⟩ := key k p hk
    exact hD.2 _ _ (h K i h1 h2)
def WdA (g : GP) (M : Mem) (n : Int32) (a : Nat) (H : Heap) : Prop := ∃ q : Nat → Nat, va_P (gD g) vCl (wl g q M ++ [(a, (Sum.inl (gC g 0, n.toNatClampNeg, .inl (cpR M n)) : va_E))]) H ∧ va_D (gU g) (wl g q M ++ [(a, (Sum.inl (gC g 0, n.toNatClampNeg, .inl (cpR M n)) : va_E))])
def CopyQ (g : GP) (n : Int32) (M : Mem) : Array Value → State → Outcome → State → Prop := fun _ st oc t => (∃ a : Nat, oc = .returned (some (.ref a)) ∧ WdA g M n a t.heap) ∧ va_F (gU g) st t
theorem cpn_lt {n : Int32} (h : cpn n = true) : n < 160 ∧ 0 ≤ n.toInt ∧ n.toInt < 160 ∧ n.toInt = (n.toNatClampNeg : Int) := by
  simp only [cpn, Bool.and_eq_true, decide_eq_true_eq] at h
  have h0 : (0 : Int) ≤ n.toInt := by have := Int32.le_iff_toInt_le.mp h.1; simpa using this
  have h1 : n.toInt = (n.toNatClampNeg : Int) := by show n.toInt = ((n.toInt.toNat : Nat) : Int); omega
  refine ⟨Int32.lt_iff_toInt_lt.mpr ?_, h0, by omega, h1⟩
  rw [show (160 : Int32).toInt = 160 by decide]
  omega
set_option maxRecDepth 20000 in
set_option maxHeartbeats 1000000 in
theorem met_copy (g : GP) (l : Launch) (n : Int32) (hb : cpn n = true) (M : Mem) : Met l yJ7_copyOf_59c91 (Cond.code yJ7_copyOf_59c91 cJ7_copyOf_59c91 3 (some (.array .int)) :: wsU) (rmT 4) (Pp g [.ref (gA g 3 0), .int n] M) (CopyQ g n M) 1 160 (gU g) := by
  obtain ⟨hlt, i0, i160, ic⟩ := cpn_lt hb
  have hn0 : ¬ n < 0 := fun q => by have := Int32.lt_iff_toInt_lt.mp q; simp at this; omega
  have h160 : n.toNatClampNeg < 160 := by omega
  refine Met.ofW (cc := cJ7_copyOf_59c91) (maxL := 3) (ret := some (.array .int)) (by decide) rfl ?_
  intro p e s m args below meth c s₁ B hml hv
  obtain ⟨rfl, hWd, hE, hsz⟩ := hv
  have hx := B.exec
  have hbb := B.bytes
  have hr := B.returns
  have hts0 := atoms_spec (ws := Cond.code yJ7_copyOf_59c91 cJ7_copyOf_59c91 3 (some (.array .int)) :: wsU) B.pre
  have hts : ∀ w ∈ wsU, w.before _ s = true := fun w hw => hts0 w (List.mem_cons_of_mem _ hw)
  have hown : s.vm.findClass RJ7 = some m.cls := findClass_of_methodNamed B.named
  have hlocks := B.notSynchronized
  have hl := lv_entry [.ref (gA g 3 0), .int n] (n := 3) (Nat.le_of_ble_eq_true rfl)
  rw [lg_entry_eq]
  generalize (lg_sl [.ref (gA g 3 0), .int n] ++ List.replicate (3 - (lg_sl [.ref (gA g 3 0), .int n]).length) Slot.unset).toArray = ls at hl ⊢
  have hl : lv_has ls 3 [(0, .ref (gA g 3 0)), (1, .int n)] := hl
  obtain ⟨q, hP, hD⟩ := hWd
  have hS : va_S (gU g) s.heap s.heap [] := va_S.rf
  have hA : ∀ a : Nat, s.heap.size ≤ a → gU g a := fun a h => Nat.le_trans hsz h
  have hK := hE.1
  have hc3 : (wl g q M)[pos 3 0]? = some (gA g 3 0, .inl (gC g 0, 160, .inl (M 3 0))) := wl_atn (by decide) (by decide) (by decide)
  refine lv_iload_n hx hbb dJ7_copyOf_59c91_0 rfl (lv_at hl 1 rfl) ?_
  refine lv_aload_n hx hbb dJ7_copyOf_59c91_1 rfl (lv_at hl 0 rfl) ?_
  refine va_alen hx hbb hK hP (pos 3 0) 0 hc3 rfl (v := 160) rfl dJ7_copyOf_59c91_2 ?_
  refine lv_icmp_ne (tgt := 14) hx hbb dJ7_copyOf_59c91_3 (by decide) (fun _ => ?_) (fun hq => ?_)
  · refine lv_iload_n hx hbb dJ7_copyOf_59c91_14 rfl (lv_at hl 1 rfl) ?_
    refine va_newa hx hbb (atype := .int) (hts (.arrayClass .int) (wu_t (tm1 (List.mem_of_getElem? (i := 46) (by decide +kernel))) rfl)) rfl hK hP hD hS hA (a0 := (n.toNatClampNeg, .inl (fun _ => 0))) (fun _ => rfl) hn0 rfl (by show n.toNatClampNeg * 4 ≤ 536870912; omega) (by show 0 + 1 ≤ 1; omega) (by show 0 + n.toNatClampNeg ≤ 160; omega) dJ7_copyOf_59c91_15 (fun a cA H1 hK1 hP1 hD1 hS1 => ?_)
    have hcA : cA = gC g 0 := by
      have h1 := (hK1.2 5 (cA, .int) rfl).2
      have h2 := (hK1.2 0 (gC g 0, .int) rfl).2
      exact Option.some.inj (h1.symm.trans h2)
    subst hcA
    refine lv_astore_n (lv' := [(2, .ref a), (0, .ref (gA g 3 0)), (1, .int n)]) hx hbb dJ7_copyOf_59c91_17 rfl hl (by decide) rfl (fun ls hl => ?_)
    refine lv_aload_n hx hbb dJ7_copyOf_59c91_18 rfl (lv_at hl 1 rfl) ?_
    refine lv_iconst (v := 0) hx hbb dJ7_copyOf_59c91_19 (by decide) ?_
    refine lv_aload_n hx hbb dJ7_copyOf_59c91_20 rfl (lv_at hl 0 rfl) ?_
    refine lv_iconst (v := 0) hx hbb dJ7_copyOf_59c91_21 (by decide) ?_
    refine lv_aload_n hx hbb dJ7_copyOf_59c91_22 rfl (lv_at hl 1 rfl) ?_
    refine va_alen hx hbb hK hP1 (pos 3 0) 0 (ext_at (K := 3) (by decide) (by decide)) rfl (v := 160) rfl dJ7_copyOf_59c91_23 ?_
    refine lv_iload_n hx hbb dJ7_copyOf_59c91_24 rfl (lv_at hl 2 rfl) ?_
    refine va_mmin hx hbb (by rw [hml, hl.1]) hown (hts _ wml_J7_304) (hts _ wst_mmin) (hts _ win_Math) (hts _ wcd_mmin) (by show 1 ≤ 4; omega) (by show 4 + 13 ≤ 64 * 4; omega) (by show 0 + 1 ≤ 1; omega) (by show 0 + n.toNatClampNeg ≤ 160; omega) dJ7_copyOf_59c91_25 ?_
    rw [if_pos hlt]
    refine va_copyi hx hbb (by rw [hml, hl.1]) hown (hts _ wml_J7_150) (hts _ wna_acp) (hts _ wst_acp) (hts _ win_System) hK hP1 hD1 hS1 (pos 3 0) 98 0 0 (ext_at (K := 3) (by decide) (by decide)) ext_new rfl rfl rfl (by decide) (by decide) hn0 (by show 0 + n.toNatClampNeg ≤ 160; omega) (by show 0 + n.toNatClampNeg ≤ n.toNatClampNeg; omega) (fun _ _ => rfl) (by show 1 ≤ 4; omega) (by have := acp_w; show 0 + _ ≤ 256; omega) dJ7_copyOf_59c91_28 (fun H2 locs2 hP2 hD2 hS2 => ?_)
    rw [ext_set] at hP2 hD2
    refine lv_aload_n hx hbb dJ7_copyOf_59c91_31 rfl (lv_at hl 0 rfl) ?_
    refine W.widen (k := 1) (n := 160) (by omega) (by omega) ?_
    exact W.aret hx hbb hr (Or.inr ⟨_, rfl⟩) (Or.inr ⟨_, rfl⟩) (fun t ht _ => ⟨⟨a, rfl, q, by rw [ht]; exact hP2, hD2⟩, hS2.F ht⟩) hS2.2.2 dJ7_copyOf_59c91_32
  · exfalso
    rw [hq] at h160
    exact absurd h160 (by decide)
def mcopy (M : Mem) (t : Nat) (n : Int32) : Mem := fun K i => if K = 11 ∧ i = t then cpR M n else if K = 8 ∧ i = t then upd (M 8 t) 0 n else M K i
theorem cellK_q {g : GP} {q q' : Nat → Nat} {M : Mem} {K i : Nat} (h : K = 8 → q' i = q i) : cellK g q' K i M = cellK g q K i M := by
  unfold cellK
  split <;> simp_all
theorem WdH.copy {g : GP} {q : Nat → Nat} {M : Mem} {n : Int32} {t a : Nat} {H : Heap} (ht : t < 6) (hP : va_P (gD g) vCl ((wl g q M ++ [(a, (Sum.inl (gC g 0, n.toNatClampNeg, .inl (cpR M n)) : va_E))]).set (pos 8 t) (gA g 8 t, (Sum.inr (8, [.ref (gA g 9 t), .ref (gA g 10 t), .ref a]) : va_E))) H)
    (hD : va_D (gU g) ((wl g q M ++ [(a, (Sum.inl (gC g 0, n.toNatClampNeg, .inl (cpR M n)) : va_E))]).set (pos 8 t) (gA g 8 t, (Sum.inr (8, [.ref (gA g 9 t), .ref (gA g 10 t), .ref a]) : va_E)))) : WdH g (mcopy M t n) H := by
  have h8 : pos 8 t < 98 := pos_lt (by decide) ht
  refine wl_of (q := fun j => if j = t then a else q j) (fun K i => if K = 11 ∧ i = t then 98 else pos K i) (fun K i hK hi => ?_) (fun K i K' i' hK hi hK' hi' h => ?_) hP hD
  · by_cases c1 : K = 11 ∧ i = t
    · obtain ⟨rfl, rfl⟩ := c1
      rw [if_pos ⟨rfl, rfl⟩, List.getElem?_set, if_neg (by omega), ext_new]
      simp [adr, cellK, mcopy, upd]
    · rw [if_neg c1]
      by_cases c2 : K = 8 ∧ i = t
      · obtain ⟨rfl, rfl⟩ := c2
        rw [List.getElem?_set, if_pos rfl, if_pos (by rw [List.length_append, wl_len]; omega)]
        simp [adr, cellK]
      · have hne : ¬ pos 8 t = pos K i := fun e => c2 (by have := pos_inj (by decide) ht hK hi e; exact ⟨this.1.symm, this.2.symm⟩)
        rw [List.getElem?_set, if_neg hne, ext_at hK hi]
        have hM : mcopy M t n K i = M K i := by simp only [mcopy, if_neg c1, if_neg c2]
        have e1 : cellK g (fun j => if j = t then a else q j) K i (mcopy M t n) = cellK g q K i M := by
          rw [cellK_eq hM (fun h => by subst h; have : i ≠ t := fun e => c1 ⟨rfl, e⟩; simp [mcopy, this]), cellK_q (q := q) (q' := fun j => if j = t then a else q j) (fun h => by subst h; have : i ≠ t := fun e => c2 ⟨rfl, e⟩; simp [this])]
        have e2 : adr g (fun j => if j = t then a else q j) K i = adr g q K i := by
          unfold adr
          by_cases h : K = 11
          · have : i ≠ t := fun e => c1 ⟨h, e⟩
            simp [h, this]
          · simp [h]
        rw [e1, e2]
  · by_cases c1 : K = 11 ∧ i = t
    · by_cases c2 : K' = 11 ∧ i' = t
      · exact ⟨c1.1.trans c2.1.symm, c1.2.trans c2.2.symm⟩
      · rw [if_pos c1, if_neg c2] at h
        have := pos_lt hK' hi'
        omega
    · by_cases c2 : K' = 11 ∧ i' = t
      · rw [if_neg c1, if_pos c2] at h
        have := pos_lt hK hi
        omega
      · rw [if_neg c1, if_neg c2] at h
        exact pos_inj hK hi hK' hi' h
set_option maxRecDepth 20000 in
theorem r_copy {α : Type} {Q : α × Mem → State → Prop} {g : GP} {l : Launch} {x : CT} {cc : ByteArray} {nL pc : Nat} {ret : Option FieldType} {m0 t : Nat} {lv : List (Nat × Value)} {stk : List Value} {M : Mem} {f : Option (α × Mem)} {n : Int32} (ok : Ok g l x RX8 cc nL ret (rmT m0)) (hm : 6 ≤ m0) (ht : t < 6) (hd : decode cc pc = .ok (.invokestatic 28, 3)) (hd2 : decode cc (pc + 3) = .ok (.putfield 20, 3)) (hsum : ((.ref (gA g 8 t) :: stk).map fun v => v.category).sum ≤ 8)
    (kk : Sw g l x Q nL 1 160 (pc + 6) lv stk (mcopy M t n) f) : Sw g l x Q nL 0 0 pc lv (.int n :: .ref (gA g 3 0) :: .ref (gA g 8 t) :: stk) M (gd (cpn n) f) := by
  intro res hr H locs ls hW hS hL
  obtain ⟨o1, o2, o3, o4, o5, o6, o7, o8, o9, o10⟩ := id ok
  cases hb : cpn n with
  | false => rw [hb] at hr; cases hr
  | true =>
    rw [hb] at hr
    have run : va_Run (cxP x) l (cxE x) (cxR x) (cxS x) (cxM x) (cxA x) (cxB x) (cxMe x) (cxC x) H locs 0 0 1 160 (F0 (cxM x) pc ls (.int n :: .ref (gA g 3 0) :: .ref (gA g 8 t) :: stk)) (.ref (gA g 8 t) :: stk) (CopyQ g n M [Value.ref (gA g 3 0), .int n].toArray) (gU g) :=
      va_runS ⟨o1, o2, o3, o4, o5⟩ (met_copy g l n hb M) ⟨callB_of 2 o5 (code_good wcd_J7_copyOf_59c91 rfl) rfl rfl rfl (o5 _ win_J7) (o5 _ wml_X8_28) ⟨by decide, by decide, by decide +kernel⟩ (by rw [o8]; exact ⟨by show 4 + 1 ≤ m0; omega, by show 8 + (3 + 11) + 64 * 4 ≤ 64 * m0; omega⟩), o5 _ wst_J7_copyOf_59c91⟩ ⟨Pp_blind, fun U hU hWm => ⟨rfl, by rw [hU]; exact hW, o9.go hWm hS hU, by rw [hU]; exact Nat.le_trans o10 hS.1⟩⟩ rfl rfl hL.1 rfl (lv_room hsum) hd (by rw [o8]; exact ⟨Nat.le_refl _, Nat.le_refl _⟩)
    intro T hT X
    obtain ⟨v, st₀, t', T', L, h0, X', hLf, e1, e2, ⟨⟨a, hv, q, hP, hD⟩, hz, hk⟩, st⟩ := run T hT X
    cases hv
    rw [h0] at hz hk
    rw [← e1] at hP hz
    have hS' : va_S (gU g) (cxS x).heap T'.heap (locs ++ L) := ⟨Nat.le_trans hS.1 hz, fun z h1 h2 => by rw [e1, hk z (Nat.lt_of_lt_of_le h1 hS.1) h2]; exact hS.2.1 z h1 h2, fun z hq => by
      rcases List.mem_append.mp hq with h | h
      · exact hS.2.2 z h
      · exact hLf z h⟩
    have K : Wx l x T'.heap (locs ++ L) 1 160 (Q res) (F0 (cxM x) (pc + 3) ls (.ref a :: .ref (gA g 8 t) :: stk)) := by
      refine va_put o1 o2 o5 inX8 tyX8 tyX8_ok nmX8 o4 o9.1 hP hD hS' (pos 8 t) (fs := [.ref (gA g 9 t), .ref (gA g 10 t), .ref (q t)]) (ext_at (K := 8) (by decide) ht) rfl 2 (by decide) (o5 _ wfl_X8_20) (fun _ h => h) rfl (by decide +kernel) (ty := .array .int) rfl rfl (by show 2 < 3; omega) hd2 (fun H1 locs1 hP1 hD1 hS1 => ?_)
      exact kk res hr H1 locs1 ls (WdH.copy ht hP1 hD1) hS1 hL
    obtain ⟨t2, a1, b1⟩ := K T' rfl X'
    exact ⟨t2, st t2 a1, b1⟩
end BC
def fX8_become (iq0 : Nat) (M : Mem) : Option (Unit × Mem) :=
  gd (cpn (M 1 0 4)) (lt (mcopy M iq0 (M 1 0 4)) fun M1 =>
  gd (cpk 0 0 3 3 4) (lt (mrow M1 10 iq0 (va_cpy (M1 4 0) (M1 10 iq0) (0 : Int32).toNatClampNeg (0 : Int32).toNatClampNeg (3 : Int32).toNatClampNeg)) fun M2 =>
  gd (inb 3 4) (lt (mst M2 10 iq0 (3 : Int32).toNatClampNeg (M2 1 0 4)) fun M3 =>
  some ((), M3))))
set_option maxRecDepth 20000 in
theorem wX8_become {g : GP} {l : Launch} {x : CT} (ok : Ok g l x RX8 cX8_become 2 none (rmT 6)) (iq0 : Nat) (hq0 : iq0 < 6) (M : Mem) : Sw g l x (FinQ g x eV) 2 0 0 0 [(0, .ref (gA g 8 iq0)), (1, .ref (gA g 1 0))] [] M (fX8_become iq0 M) := by
  unfold fX8_become
  refine r_aload_n (pc := 0) ok 0 dX8_become_0 rfl ?_
  refine r_aload_n (pc := 1) ok 1 dX8_become_1 rfl ?_
  refine r_getRN (pc := 2) ok fr_1_1 (by decide) flN_X8_23 dX8_become_2 ?_
  refine r_aload_n (pc := 5) ok 1 dX8_become_5 rfl ?_
  refine r_getIN (pc := 6) ok fi_1_4 (by decide) flN_X8_24 dX8_become_6 ?_
  refine r_copy (pc := 9) ok (by decide) hq0 dX8_become_9 dX8_become_12 (Nat.le_of_ble_eq_true rfl) ?_
  refine r_nmM (fun M1 => ?_)
  refine r_aload_n (pc := 15) ok 1 dX8_become_15 rfl ?_
  refine r_getRN (pc := 16) ok fr_1_2 (by decide) flN_X8_34 dX8_become_16 ?_
  refine r_iconst (pc := 19) ok 0 dX8_become_19 (by decide) ?_
  refine r_aload_n (pc := 20) ok 0 dX8_become_20 rfl ?_
  refine r_getR (pc := 21) ok fr_8_1 hq0 fl_X8_15 dX8_become_21 ?_
  refine r_iconst (pc := 24) ok 0 dX8_become_24 (by decide) ?_
  refine r_iconst (pc := 25) ok 3 dX8_become_25 (by decide) ?_
  refine r_acpy (pc := 26) ok ik_4 (by decide) ik_10 hq0 wml_X8_35 wna_acp wst_acp win_System ⟨by decide, Nat.le_trans acp_w (by decide)⟩ (Nat.le_of_ble_eq_true rfl) dX8_become_26 ?_
  refine r_nmM (fun M2 => ?_)
  refine r_aload_n (pc := 29) ok 0 dX8_become_29 rfl ?_
  refine r_getR (pc := 30) ok fr_8_1 hq0 fl_X8_15 dX8_become_30 ?_
  refine r_iconst (pc := 33) ok 3 dX8_become_33 (by decide) ?_
  refine r_aload_n (pc := 34) ok 1 dX8_become_34 rfl ?_
  refine r_getIN (pc := 35) ok fi_1_4 (by decide) flN_X8_24 dX8_become_35 ?_
  refine r_iast (pc := 38) ok ik_10 hq0 dX8_become_38 ?_
  refine r_nmM (fun M3 => ?_)
  exact r_vret (pc := 39) ok (Nat.le_refl _) (Nat.le_refl _) rfl dX8_become_39
theorem con_X8_become (g : GP) (l : Launch) (iq0 : Nat) (hq0 : iq0 < 6) (M : Mem) (r : Unit) (M2 : Mem) (h : fX8_become iq0 M = some (r, M2)) : Con g l yX8_become cX8_become 2 none (rmT 6) [.ref (gA g 8 iq0), .ref (gA g 1 0)] M (eV r) M2 :=
  Con.of (own := RX8) (f := fX8_become iq0 M) (by decide) (Nat.le_of_ble_eq_true rfl) rfl (fun x ok => wX8_become ok iq0 hq0 M) r M2 h
def fX10_text  (M : Mem) : Option (Int32 × Mem) :=
  if (M 0 0 8) < 6 then
    (ob (fX4_readText M) fun r1 M2 =>
    lt (mst M2 1 0 3 0) fun M3 =>
    if r1 = 0 then
      (some ((-100) - (M3 1 0 7), M3))
    else
      (gd (inb (M3 0 0 8) 6)
      (ob (fX8_become ((M3 0 0 8).toNatClampNeg) M3) fun r5 M6 =>
      lt (mst M6 0 0 8 ((M6 0 0 8) + 1)) fun M7 =>
      some ((M7 0 0 8) - 1, M7))))
  else
    (some (-4, M))
set_option maxRecDepth 20000 in
theorem wX10_text {g : GP} {l : Launch} {x : CT} (ok : Ok g l x RX10 cX10_text 2 (some FieldType.int) (rmT 84))   (M : Mem) : Sw g l x (FinQ g x eI) 2 0 0 0 [(0, .ref (gA g 0 0))] [] M (fX10_text  M) := by
  unfold fX10_text
  refine r_aload_n (pc := 0) ok 0 dX10_text_0 rfl ?_
  refine r_getI (pc := 1) ok fi_0_8 (by decide) fl_X10_41 dX10_text_1 ?_
  refine r_bipush (pc := 4) ok 6 dX10_text_4 (by decide) ?_
  refine r_icmp_lt (pc := 6) ok 12 dX10_text_6 (by decide) (fun _ => ?_) (fun _ => ?_)
  · refine r_aload_n (pc := 12) ok 0 dX10_text_12 rfl ?_
    refine r_getR (pc := 13) ok fr_0_0 (by decide) fl_X10_33 dX10_text_13 ?_
    refine r_callVN (pc := 16) ok [] [] (rmL 81) (fun rZ MZ hZ => con_X4_readText g l  _ rZ MZ hZ) cvN_X10_106 ok_1 ⟨by decide, by decide, by decide, by decide⟩ dX10_text_16 rfl rfl (Nat.le_of_ble_eq_true rfl) (fun r1 M2 => ?_)
    refine r_istore_n (pc := 19) ok [(1, .int r1), (0, .ref (gA g 0 0))] dX10_text_19 rfl (by decide) rfl ?_
    refine r_aload_n (pc := 20) ok 1 dX10_text_20 rfl ?_
    refine r_getR (pc := 21) ok fr_0_0 (by decide) fl_X10_33 dX10_text_21 ?_
    refine r_iconst (pc := 24) ok 0 dX10_text_24 (by decide) ?_
    refine r_putIN (pc := 25) ok fi_1_3 (by decide) flN_X10_84 fp_1_3 ⟨rfl, rfl⟩ dX10_text_25 ?_
    refine r_nmM (fun M3 => ?_)
    refine r_iload_n (pc := 28) ok 0 dX10_text_28 rfl ?_
    refine r_if_ne (pc := 29) ok 43 dX10_text_29 (by decide) (fun _ => ?_) (fun _ => ?_)
    · refine r_bipush (pc := 32) ok (-100) dX10_text_32 (by decide) ?_
      refine r_aload_n (pc := 34) ok 1 dX10_text_34 rfl ?_
      refine r_getR (pc := 35) ok fr_0_0 (by decide) fl_X10_33 dX10_text_35 ?_
      refine r_getIN (pc := 38) ok fi_1_7 (by decide) flN_X10_110 dX10_text_38 ?_
      refine r_isub (pc := 41) ok dX10_text_41 ?_
      exact r_iret (pc := 42) ok (by decide) (by decide) rfl dX10_text_42
    · refine r_aload_n (pc := 43) ok 1 dX10_text_43 rfl ?_
      refine r_getR (pc := 44) ok fr_0_1 (by decide) fl_X10_37 dX10_text_44 ?_
      refine r_aload_n (pc := 47) ok 1 dX10_text_47 rfl ?_
      refine r_getI (pc := 48) ok fi_0_8 (by decide) fl_X10_41 dX10_text_48 ?_
      refine r_aald (pc := 51) ok rk_5 (by decide) rfl rfl dX10_text_51 (fun hb4 => ?_)
      refine r_aload_n (pc := 52) ok 1 dX10_text_52 rfl ?_
      refine r_getR (pc := 53) ok fr_0_0 (by decide) fl_X10_33 dX10_text_53 ?_
      refine r_callVN (pc := 56) ok [.ref (gA g 1 0)] [] (rmT 6) (fun rZ MZ hZ => con_X8_become g l ((M3 0 0 8).toNatClampNeg) hb4 _ rZ MZ hZ) cvN_X10_113 (ok_8 hb4) ⟨by decide, by decide, by decide, by decide⟩ dX10_text_56 rfl rfl (Nat.le_of_ble_eq_true rfl) (fun r5 M6 => ?_)
      refine r_aload_n (pc := 59) ok 1 dX10_text_59 rfl ?_
      refine r_dup (pc := 60) ok dX10_text_60 rfl ?_
      refine r_getI (pc := 61) ok fi_0_8 (by decide) fl_X10_41 dX10_text_61 ?_
      refine r_iconst (pc := 64) ok 1 dX10_text_64 (by decide) ?_
      refine r_iadd (pc := 65) ok dX10_text_65 ?_
      refine r_putI (pc := 66) ok fi_0_8 (by decide) fl_X10_41 fp_0_8 ⟨rfl, rfl⟩ dX10_text_66 ?_
      refine r_nmM (fun M7 => ?_)
      refine r_aload_n (pc := 69) ok 1 dX10_text_69 rfl ?_
      refine r_getI (pc := 70) ok fi_0_8 (by decide) fl_X10_41 dX10_text_70 ?_
      refine r_iconst (pc := 73) ok 1 dX10_text_73 (by decide) ?_
      refine r_isub (pc := 74) ok dX10_text_74 ?_
      exact r_iret (pc := 75) ok (by decide) (by decide) rfl dX10_text_75
  · refine r_bipush (pc := 9) ok (-4) dX10_text_9 (by decide) ?_
    exact r_iret (pc := 11) ok (by decide) (by decide) rfl dX10_text_11
theorem con_X10_text (g : GP) (l : Launch)   (M : Mem) (r : Int32) (M2 : Mem) (h : fX10_text  M = some (r, M2)) : Con g l yX10_text cX10_text 2 (some FieldType.int) (rmT 84) [.ref (gA g 0 0)] M (eI r) M2 :=
  Con.of (own := RX10) (f := fX10_text  M) (by decide) (Nat.le_of_ble_eq_true rfl) rfl (fun x ok => wX10_text ok   M) r M2 h
