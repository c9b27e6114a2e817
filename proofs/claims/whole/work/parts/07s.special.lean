/-! SPECIAL ROWS: super calls, overridden methods, the one String constant -/
section SP
variable {α β : Type} {Q : α × Mem → State → Prop} {g : GP} {l : Launch} {x : CT} {own : String} {cc : ByteArray} {nL c s pc : Nat} {ret : Option FieldType} {rm : Room} {m0 : Nat} {lv : List (Nat × Value)} {stk : List Value} {M : Mem} {f : Option (α × Mem)} {encB : β → Option Value} {fc : Option (β × Mem)} {F : β → Mem → Option (α × Mem)} {idx maxL n : Nat} {y : MethodName} {bytes : ByteArray} {retc : Option FieldType}
theorem ok_12 {k : Nat} (h : k < nIx 12) : ∃ C, OK 12 k C := by
  have h6 : k < 6 := h
  rcases (show k = 0 ∨ k = 1 ∨ k = 2 ∨ k = 3 ∨ k = 4 ∨ k = 5 by omega) with rfl | rfl | rfl | rfl | rfl | rfl
  · exact ⟨RX3, by decide, by decide, by decide, 3, _, rfl, rfl, fun _ _ _ => ⟨_, rfl⟩⟩
  · exact ⟨RX0, by decide, by decide, by decide, 0, _, rfl, rfl, fun _ _ _ => ⟨_, rfl⟩⟩
  · exact ⟨RX2, by decide, by decide, by decide, 2, _, rfl, rfl, fun _ _ _ => ⟨_, rfl⟩⟩
  · exact ⟨RX9, by decide, by decide, by decide, 9, _, rfl, rfl, fun _ _ _ => ⟨_, rfl⟩⟩
  · exact ⟨RX7, by decide, by decide, by decide, 7, _, rfl, rfl, fun _ _ _ => ⟨_, rfl⟩⟩
  · exact ⟨RX1, by decide, by decide, by decide, 1, _, rfl, rfl, fun _ _ _ => ⟨_, rfl⟩⟩
theorem OK.at {g : GP} {U : State} {K i : Nat} {C : String} (h : OK K i C) (hK : va_K (gD g) vCl (gT g) U) : ∃ cC, ClassAt U C cC := by
  obtain ⟨k1, k2, k3, ci, qc, h1, h2, h3⟩ := h
  subst h2
  exact ⟨_, (hK.1 ci qc h1).2⟩
def CSU (own : String) (idx : Nat) (y : MethodName) (bytes : ByteArray) (maxL : Nat) (ret : Option FieldType) (n : Nat) : Prop := Cond.methodLink own idx y ∈ wsU ∧ Cond.sameMethod y.cls y.cls y.name y.desc ∈ wsU ∧ Cond.superclass own y.cls ∈ wsU ∧ Cond.instanceMethod y ∈ wsU ∧ Cond.initialized y.cls ∈ wsU ∧ Cond.code y bytes maxL ret ∈ wsU ∧ (y.name ≠ "<init>" ∧ (parseMethodDescriptor y.desc).map (fun d => d.parameters.length) = some n)
theorem gi_cons {w : Cond} {ws : List Cond} (h : w ∈ wsU) (h2 : GoodIn wsU ws) : GoodIn wsU (w :: ws) := by
  intro v hv
  rcases List.mem_cons.mp hv with rfl | hv
  · exact wsU_good _ h
  · exact h2 _ hv
theorem r_callSU0 {k : Nat} (ok : Ok g l x own cc nL ret (rmL m0)) (As rest : List Value) (n0 : Nat) (hc : ∀ r M2, fc = some (r, M2) → Con g l y bytes maxL retc (rmL n0) (.ref (gA g 12 k) :: As) M (encB r) M2) (cs : CSU own idx y bytes maxL retc n) (hk : k < nIx 12) (hrm : rmOk 0 0 (rmL n0) (rmL m0) maxL) (hd : decode cc pc = .ok (.invokespecial idx, 3)) (hn : As.length = n) (hst : stk = As.reverse ++ .ref (gA g 12 k) :: rest) (hsum : (rest.map fun v => v.category).sum ≤ 8)
    (kk : ∀ r M2, Sw g l x Q nL 0 0 (pc + 3) lv ((encB r).toList ++ rest) M2 (F r M2)) : Sw g l x Q nL 0 0 pc lv stk M (ob fc F) := by
  intro res hr H locs ls hW hS hL
  obtain ⟨o1, o2, o3, o4, o5, o6, o7, o8, o9, o10⟩ := id ok
  cases hf : fc with
  | none => rw [hf] at hr; cases hr
  | some rp =>
    obtain ⟨r, M2⟩ := rp
    rw [hf] at hr
    have hM := hc r M2 hf
    obtain ⟨c1, c2, c3, c4, c5, c6, c7⟩ := cs
    obtain ⟨C, hO⟩ := ok_12 hk
    obtain ⟨cC, hat⟩ := hO.at o9.1
    refine call_end (rmc := rmL n0) ok hr hS hL (va_runSU (C := C) hat ⟨o1, o2, o3, o4, o5⟩ hM (va_cwSU n o5 (gi_cons c1 (gi_cons c2 (gi_cons c3 (gi_cons c4 (gi_cons c5 (code_good c6 rfl)))))) rfl rfl rfl c7 (by rw [o8]; exact ⟨hrm.1, hrm.2.1⟩)) ⟨Pp_blind, hO.recv o9.1 hW, fun U hU hWm => ⟨rfl, by rw [hU]; exact hW, o9.go hWm hS hU, by rw [hU]; exact Nat.le_trans o10 hS.1⟩⟩ rfl hn hL.1 hst (lv_room hsum) hd (by rw [o8]; exact ⟨hrm.2.2.1, hrm.2.2.2⟩)) (kk r M2)
/-- an overriding or inherited method of a receiver whose class is known -/
def CVO (own C : String) (idx : Nat) (xx y : MethodName) (bytes : ByteArray) (maxL : Nat) (ret : Option FieldType) (n : Nat) : Prop := Cond.methodLink own idx xx ∈ wsU ∧ Cond.sameMethod xx.cls xx.cls xx.name xx.desc ∈ wsU ∧ Cond.instanceMethod xx ∈ wsU ∧ Cond.selects C xx y ∈ wsU ∧ Cond.instanceMethod y ∈ wsU ∧ Cond.initialized y.cls ∈ wsU ∧ Cond.code y bytes maxL ret ∈ wsU ∧ (∃ b0 mx0 r0, Cond.code xx b0 mx0 r0 ∈ wsU) ∧ nMH xx n
theorem r_callVO0 {K i : Nat} {C : String} {xx : MethodName} (ok : Ok g l x own cc nL ret (rmL m0)) (As rest : List Value) (n0 : Nat) (hc : ∀ r M2, fc = some (r, M2) → Con g l y bytes maxL retc (rmL n0) (.ref (gA g K i) :: As) M (encB r) M2) (cs : CVO own C idx xx y bytes maxL retc n) (hO : OK K i C) (hrm : rmOk 0 0 (rmL n0) (rmL m0) maxL) (hd : decode cc pc = .ok (.invokevirtual idx, 3)) (hn : As.length = n) (hst : stk = As.reverse ++ .ref (gA g K i) :: rest) (hsum : (rest.map fun v => v.category).sum ≤ 8)
    (kk : ∀ r M2, Sw g l x Q nL 0 0 (pc + 3) lv ((encB r).toList ++ rest) M2 (F r M2)) : Sw g l x Q nL 0 0 pc lv stk M (ob fc F) := by
  intro res hr H locs ls hW hS hL
  obtain ⟨o1, o2, o3, o4, o5, o6, o7, o8, o9, o10⟩ := id ok
  cases hf : fc with
  | none => rw [hf] at hr; cases hr
  | some rp =>
    obtain ⟨r, M2⟩ := rp
    rw [hf] at hr
    have hM := hc r M2 hf
    obtain ⟨c1, c2, c3, c4, c5, c6, c7, ⟨b0, mx0, r0, c8⟩, c9⟩ := cs
    refine call_end (rmc := rmL n0) ok hr hS hL (va_runU (C := C) (owner := xx.cls) (x := xx) ⟨o1, o2, o3, o4, o5⟩ hM (va_cwO n o5 (gi_cons c1 (gi_cons c2 (gi_cons c3 (gi_cons c4 (gi_cons c5 (gi_cons c6 (code_good c7 rfl))))))) rfl rfl rfl c8 c9 (by rw [o8]; exact ⟨hrm.1, hrm.2.1⟩)) ⟨Pp_blind, hO.recv o9.1 hW, fun U hU hWm => ⟨rfl, by rw [hU]; exact hW, o9.go hWm hS hU, by rw [hU]; exact Nat.le_trans o10 hS.1⟩⟩ rfl hn hL.1 hst (lv_room hsum) hd (by rw [o8]; exact ⟨hrm.2.2.1, hrm.2.2.2⟩)) (kk r M2)
/-- super.m(..) where the superclass inherits m -/
def CSI (own up : String) (idx : Nat) (xx y : MethodName) (bytes : ByteArray) (maxL : Nat) (ret : Option FieldType) (n : Nat) : Prop := xx = ⟨up, y.name, y.desc⟩ ∧ Cond.methodLink own idx xx ∈ wsU ∧ Cond.sameMethod up y.cls y.name y.desc ∈ wsU ∧ Cond.superclass own up ∈ wsU ∧ Cond.superclass up y.cls ∈ wsU ∧ Cond.instanceMethod y ∈ wsU ∧ Cond.initialized y.cls ∈ wsU ∧ Cond.code y bytes maxL ret ∈ wsU ∧ (y.name ≠ "<init>" ∧ (parseMethodDescriptor y.desc).map (fun d => d.parameters.length) = some n)
theorem isSub_2 {vm : Vm} {a b : ClassId} {k : Class} (h : vm.classes[a]? = some k) (hs : k.super = some b) : vm.isSubclass a b = true := by
  have hlt : a < vm.classes.size := (Array.getElem?_eq_some_iff.mp h).1
  unfold Vm.isSubclass
  obtain ⟨j, hj⟩ : ∃ j, vm.classes.size = j + 1 := ⟨vm.classes.size - 1, (Nat.sub_add_cancel (Nat.lt_of_le_of_lt (Nat.zero_le _) hlt)).symm⟩
  rw [hj]
  simp [Vm.isSubclassAux, h, hs]
theorem r_callSI0 {k : Nat} {up : String} {xx : MethodName} (ok : Ok g l x own cc nL ret (rmL m0)) (As rest : List Value) (n0 : Nat) (hc : ∀ r M2, fc = some (r, M2) → Con g l y bytes maxL retc (rmL n0) (.ref (gA g 12 k) :: As) M (encB r) M2) (cs : CSI own up idx xx y bytes maxL retc n) (hk : k < nIx 12) (hrm : rmOk 0 0 (rmL n0) (rmL m0) maxL) (hd : decode cc pc = .ok (.invokespecial idx, 3)) (hn : As.length = n) (hst : stk = As.reverse ++ .ref (gA g 12 k) :: rest) (hsum : (rest.map fun v => v.category).sum ≤ 8)
    (kk : ∀ r M2, Sw g l x Q nL 0 0 (pc + 3) lv ((encB r).toList ++ rest) M2 (F r M2)) : Sw g l x Q nL 0 0 pc lv stk M (ob fc F) := by
  intro res hr H locs ls hW hS hL
  obtain ⟨o1, o2, o3, o4, o5, o6, o7, o8, o9, o10⟩ := id ok
  cases hf : fc with
  | none => rw [hf] at hr; cases hr
  | some rp =>
    obtain ⟨r, M2⟩ := rp
    rw [hf] at hr
    have hM := hc r M2 hf
    obtain ⟨rfl, c1, c2, c3, c3b, c4, c5, c6, c7⟩ := cs
    obtain ⟨C, hO⟩ := ok_12 hk
    have hrec := hO.recv o9.1 hW
    obtain ⟨cC, hat⟩ := hO.at o9.1
    obtain ⟨cellB, hcB, hoB, hclB⟩ := hrec
    obtain ⟨hfc, kB, hkB, -⟩ := hat
    have e9 := hfc.symm.trans hclB
    cases e9
    have hK : Back l (cxR x) (cxP x) (cxE x) (cxB x) (cxS x) (cxA x) y 3 8 (PreOf (cxR x) (rmL n0).cells (rmL n0).slots (Pp g (.ref (gA g 12 k) :: As) M)) (PostOf (Qp g (encB r) M2) (rmL n0).cells (rmL n0).slots (gU g)) :=
      back_of (bytes := bytes) (maxL := maxL) (ret := retc) hM Pp_blind rfl rfl (by rw [o8]; exact hrm.1) (by rw [o8]; exact hrm.2.1) (pay_in o5 (code_good c6 rfl)) List.mem_cons_self (fun a' U hW => word_at hW (Or.inl (by first | rfl | simp [Cond.onTables, Cond.keeps, Cond.steady])) (o5 _ c5))
    refine call_end (rmc := rmL n0) ok hr hS hL (a := (Value.ref (gA g 12 k) :: As).toArray) (rest := rest) ?_ (kk r M2)
    intro T hT X
    obtain ⟨mk, methM, hnamed, hmethM, hstM, habM⟩ := Cond.instanceMethod_spec (o5 _ c4)
    obtain ⟨methM', cM, hmethM', -, -, -, -, -, -, hsigM⟩ := Cond.code_spec hnamed (o5 _ c6)
    cases hmethM.symm.trans hmethM'
    obtain ⟨ps, dk, kp, hps, hdk, hkp, hsuper, -, -, hnid⟩ := Cond.superclass_spec o4 (o5 _ c3)
    obtain ⟨ps2, dk2, kp2, hps2, hdk2, hkp2, hsuper2, -, -, -⟩ := Cond.superclass_spec hps (o5 _ c3b)
    have hn2 : (cxS x).methodNamed? ⟨y.cls, y.name, y.desc⟩ = some mk := hnamed
    have hpm : ps2 = mk.cls := Option.some.inj (hps2.symm.trans (findClass_of_methodNamed hnamed))
    have hsub : (cxS x).vm.isSubclass ps mk.cls = true := by rw [← hpm]; exact isSub_2 hdk2 hsuper2
    have hlen : As.length = methM.sig.parameters.length := by
      have h2 := c7.2
      rw [hsigM] at h2
      exact hn.trans (Option.some.inj h2).symm
    obtain ⟨vm₁, X₁, hstep₁⟩ := X.invokespecialUp (x := ⟨up, y.name, y.desc⟩) (owner := y.cls) o1 o4 (o5 _ c1) (o5 _ c2) hn2 hmethM hstM habM c7.1 hdk hnid hps hsuper hsub (a := gA g 12 k) (cell := cellB) (by rw [hT]; exact hcB)
      (fun z h => by rw [h] at hoB; cases hoB) hkB (g := F0 (cxM x) pc ls stk) rfl (argsL := As) (rest := rest) hlen hst (by rw [o2]; exact hd)
    obtain ⟨v, ⟨U', l2, c2', s2⟩, X', ⟨g', mk', t, L, e1, e2, hq, h1, hL', h2, h3⟩, hsteps⟩ := hK (cxM x) (cxMe x) (cxC x) ⟨T.setVm vm₁, locs, 0, 0⟩ { F0 (cxM x) pc ls stk with stack := rest } (.invokespecial idx) mk (Value.ref (gA g 12 k) :: As).toArray X₁ rfl (hL.1.trans o3.symm) (by rw [o2]; exact hd) (lv_room hsum) (X₁.named hnamed)
      ⟨by rw [o8]; exact hrm.2.2.1, by rw [o8]; exact hrm.2.2.2, rfl, by show WdH g M T.heap; rw [hT]; exact hW, o9.go X₁.warmed hS hT, by show gB g ≤ T.heap.size; rw [hT]; exact Nat.le_trans o10 hS.1⟩
    dsimp only [Pt.U, Pt.locs, Pt.cells, Pt.slots] at X' e1 e2 h1 h2 h3 hsteps
    subst h1; subst h2; subst h3
    exact ⟨v, (T.setVm vm₁).calling g' mk' (Value.ref (gA g 12 k) :: As).toArray, t, U', L, hT, X', hL', e1, e2, hq, fun target h => hstep₁ _ (by rw [doInvoke_state]; exact hsteps.trans h)⟩
-- the one String constant
def wch (i : Int32) : Int32 := (((wdB.getD i.toNatClampNeg 0) &&& 255).toUInt32 % 65536).toInt32
theorem inb_ti {i : Int32} {n : Nat} (h : inb i n = true) : 0 ≤ i.toInt ∧ i.toInt < n ∧ i.toInt = (i.toNatClampNeg : Int) := by
  simp only [inb, Bool.and_eq_true, decide_eq_true_eq] at h
  have h0 : (0 : Int) ≤ i.toInt := by have := Int32.le_iff_toInt_le.mp h.1; simpa using this
  have h1 : i.toInt = (i.toNatClampNeg : Int) := by show i.toInt = ((i.toInt.toNat : Nat) : Int); omega
  exact ⟨h0, by omega, h1⟩
theorem r_nret {enc : α → Option Value} {ty : FieldType} (ok : Ok g l x own cc nL (some ty) rm) {v : Int32} {r : α} (hc : c ≤ rm.cells) (hs : s ≤ rm.slots) (hn : narrow ty (.int v) = .int v) (he : enc r = some (.int v)) (hd : decode cc pc = .ok (.ireturn, 1)) : Sw g l x (FinQ g x enc) nL c s pc lv [.int v] M (some (r, M)) := by
  intro res hr H locs ls hW hS hL
  cases hr
  obtain ⟨h1, h2, h3, h4, h5, h6, h7, h8, h9, h10⟩ := ok
  refine W.widen (k := (cxR x).cells) (n := (cxR x).slots) (by rw [h8]; exact hc) (by rw [h8]; exact hs) ?_
  exact W.zret h1 h2 h6 hn (fun t ht _ => ⟨⟨by rw [he], by rw [ht]; exact hW⟩, hS.F ht⟩) hS.2.2 hd h7
theorem r_i2c (ok : Ok g l x own cc nL ret rm) {a : Int32} (hd : decode cc pc = .ok (.i2c, 1)) (kk : Sw g l x Q nL c s (pc + 1) lv (.int (a.toUInt32 % 65536).toInt32 :: stk) M f) : Sw g l x Q nL c s pc lv (.int a :: stk) M f :=
  fun res hr H locs ls hW hS hL => lv_i2c ok.1 ok.2.1 hd rfl (kk res hr H locs ls hW hS hL)
theorem r_eqF (ok : Ok g l x own cc nL ret rm) {a : Int32} {off : Int} (tgt : Nat) (hn : ¬ a = 0) (hd : decode cc pc = .ok (.ifCond .eq off, 3)) (ht : (pc : Int) + off = (tgt : Int)) (kk : Sw g l x Q nL c s (pc + 3) lv stk M f) : Sw g l x Q nL c s pc lv (.int a :: stk) M f :=
  fun res hr H locs ls hW hS hL => lv_if_eq ok.1 ok.2.1 hd ht (fun h => absurd h hn) (fun _ => kk res hr H locs ls hW hS hL)
theorem r_neF (ok : Ok g l x own cc nL ret rm) {a : Int32} {off : Int} (tgt : Nat) (hn : a = 0) (hd : decode cc pc = .ok (.ifCond .ne off, 3)) (ht : (pc : Int) + off = (tgt : Int)) (kk : Sw g l x Q nL c s (pc + 3) lv stk M f) : Sw g l x Q nL c s pc lv (.int a :: stk) M f :=
  fun res hr H locs ls hW hS hL => lv_if_ne ok.1 ok.2.1 hd ht (fun h => absurd hn h) (fun _ => kk res hr H locs ls hW hS hL)
theorem r_ltF (ok : Ok g l x own cc nL ret rm) {a : Int32} {off : Int} (tgt : Nat) (hn : ¬ a < 0) (hd : decode cc pc = .ok (.ifCond .lt off, 3)) (ht : (pc : Int) + off = (tgt : Int)) (kk : Sw g l x Q nL c s (pc + 3) lv stk M f) : Sw g l x Q nL c s pc lv (.int a :: stk) M f :=
  fun res hr H locs ls hW hS hL => lv_if_lt ok.1 ok.2.1 hd ht (fun h => absurd h hn) (fun _ => kk res hr H locs ls hW hS hL)
theorem r_icltT (ok : Ok g l x own cc nL ret rm) {a b : Int32} {off : Int} (tgt : Nat) (hn : a < b) (hd : decode cc pc = .ok (.if_icmp .lt off, 3)) (ht : (pc : Int) + off = (tgt : Int)) (kk : Sw g l x Q nL c s tgt lv stk M f) : Sw g l x Q nL c s pc lv (.int b :: .int a :: stk) M f :=
  fun res hr H locs ls hW hS hL => lv_icmp_lt ok.1 ok.2.1 hd ht (fun _ => kk res hr H locs ls hW hS hL) (fun h => absurd hn h)
theorem r_getsC (ok : Ok g l x RJ0 cc nL ret rm) (hd : decode cc pc = .ok (.getstatic 38, 3)) (kk : Sw g l x Q nL c s (pc + 3) lv (.int 1 :: stk) M f) : Sw g l x Q nL c s pc lv stk M f :=
  fun res hr H locs ls hW hS hL => va_gets ok.1 ok.2.1 ok.2.2.2.2.2.2.2.2.1.2.2.2.2.1 hS ok.2.2.2.1 (ok.2.2.2.2.1 _ wfl_J0_38) (fun _ h => h) hd (kk res hr H locs ls hW hS hL)
theorem r_getsF (ok : Ok g l x RJ0 cc nL ret rm) (hd : decode cc pc = .ok (.getstatic 1053, 3)) (kk : Sw g l x Q nL c s (pc + 3) lv (gFv g :: stk) M f) : Sw g l x Q nL c s pc lv stk M f :=
  fun res hr H locs ls hW hS hL => va_gets ok.1 ok.2.1 ok.2.2.2.2.2.2.2.2.1.2.2.2.2.2 hS ok.2.2.2.1 (ok.2.2.2.2.1 _ wfl_J0_1053) (fun _ h => h) hd (kk res hr H locs ls hW hS hL)
theorem r_kcoder (ok : Ok g l x RJ0 cc nL ret rm) (hd : decode cc pc = .ok (.getfield 15, 3)) (kk : Sw g l x Q nL c s (pc + 3) lv (.int 0 :: stk) M f) : Sw g l x Q nL c s pc lv (.ref (gK g) :: stk) M f :=
  fun res hr H locs ls hW hS hL => vk_getf ok.1 ok.2.1 (ok.2.2.2.2.2.2.2.2.1.2.2.2.1.1 0 (by decide)).2.1 hS ok.2.2.2.1 (ok.2.2.2.2.1 _ wfl_J0_15) (fun _ h => h) hd (kk res hr H locs ls hW hS hL)
theorem r_kvalue (ok : Ok g l x RJ0 cc nL ret rm) (hd : decode cc pc = .ok (.getfield 9, 3)) (kk : Sw g l x Q nL c s (pc + 3) lv (.ref (gV g) :: stk) M f) : Sw g l x Q nL c s pc lv (.ref (gK g) :: stk) M f :=
  fun res hr H locs ls hW hS hL => vk_getf ok.1 ok.2.1 (ok.2.2.2.2.2.2.2.2.1.2.2.2.1.1 0 (by decide)).2.2.1 hS ok.2.2.2.1 (ok.2.2.2.2.1 _ wfl_J0_9) (fun _ h => h) hd (kk res hr H locs ls hW hS hL)
theorem r_vlen (ok : Ok g l x own cc nL ret rm) (hd : decode cc pc = .ok (.arraylength, 1)) (kk : Sw g l x Q nL c s (pc + 1) lv (.int 61 :: stk) M f) : Sw g l x Q nL c s pc lv (.ref (gV g) :: stk) M f :=
  fun res hr H locs ls hW hS hL => va_tlen ok.1 ok.2.1 (ok.2.2.2.2.2.2.2.2.1.2.2.2.1.1 0 (by decide)).2.2.2 hS rfl hd (kk res hr H locs ls hW hS hL)
theorem r_vbald (ok : Ok g l x own cc nL ret rm) {i : Int32} (hb : inb i 61 = true) (hd : decode cc pc = .ok (.baload, 1)) (kk : Sw g l x Q nL c s (pc + 1) lv (.int (wdB.getD i.toNatClampNeg 0) :: stk) M f) : Sw g l x Q nL c s pc lv (.int i :: .ref (gV g) :: stk) M f :=
  fun res hr H locs ls hW hS hL => va_tb ok.1 ok.2.1 (ok.2.2.2.2.2.2.2.2.1.2.2.2.1.1 0 (by decide)).2.2.2 hS (inb_in hb) rfl hd (kk res hr H locs ls hW hS hL)
theorem r_callVK {own : String} (ok : Ok g l x own cc nL ret (rmL m0)) (As rest : List Value) (n0 : Nat) (hc : ∀ r M2, fc = some (r, M2) → Con g l y bytes maxL retc (rmL n0) (.ref (gK g) :: As) M (encB r) M2) (cs : CV own RJ0 idx y bytes maxL retc n) (hrm : rmOk 0 0 (rmL n0) (rmL m0) maxL) (hd : decode cc pc = .ok (.invokevirtual idx, 3)) (hn : As.length = n) (hst : stk = As.reverse ++ .ref (gK g) :: rest) (hsum : (rest.map fun v => v.category).sum ≤ 8)
    (kk : ∀ r M2, Sw g l x Q nL 0 0 (pc + 3) lv ((encB r).toList ++ rest) M2 (F r M2)) : Sw g l x Q nL 0 0 pc lv stk M (ob fc F) := by
  intro res hr H locs ls hW hS hL
  obtain ⟨o1, o2, o3, o4, o5, o6, o7, o8, o9, o10⟩ := id ok
  cases hf : fc with
  | none => rw [hf] at hr; cases hr
  | some rp =>
    obtain ⟨r, M2⟩ := rp
    rw [hf] at hr
    have hM := hc r M2 hf
    obtain ⟨c1, c2, c3, c4, c6, c5, c7⟩ := cs
    refine call_end (rmc := rmL n0) ok hr hS hL (va_runV (C := RJ0) ⟨o1, o2, o3, o4, o5⟩ hM ⟨callB_of n o5 (code_good c5 rfl) rfl rfl rfl (by rw [c6]; exact o5 _ c4) (o5 _ c1) c7 (by rw [o8]; exact ⟨hrm.1, hrm.2.1⟩), o5 _ c2, o5 _ c3⟩ ⟨Pp_blind, vk_recv (adK := fun _ => gK g) o9.2.2.2.1 (i := 0) (by decide) hS, fun U hU hWm => ⟨rfl, by rw [hU]; exact hW, o9.go hWm hS hU, by rw [hU]; exact Nat.le_trans o10 hS.1⟩⟩ rfl hn hL.1 hst (lv_room hsum) hd (by rw [o8]; exact ⟨hrm.2.2.1, hrm.2.2.2⟩)) (kk r M2)
theorem obE {γ : Type} {a : α} {M : Mem} {F : α → Mem → Option γ} : ob (some (a, M)) F = F a M := rfl
end SP
section SQ
theorem cJcoder (g : GP) (l : Launch) (M : Mem) (r : Int32) (M2 : Mem) (h : some ((0 : Int32), M) = some (r, M2)) : Con g l yJ0_coder_7d493 cJ0_coder_7d493 1 (some .byte) (rmL 2) [.ref (gK g)] M (eI r) M2 := by
  refine Con.of (own := RJ0) (f := some ((0 : Int32), M)) (by decide) (Nat.le_of_ble_eq_true rfl) rfl (fun x ok => ?_) r M2 h
  refine r_getsC (pc := 0) ok dJ0_coder_7d493_0 ?_
  refine r_eqF (pc := 3) ok 13 (by decide) dJ0_coder_7d493_3 (by decide) ?_
  refine r_aload_n (pc := 6) ok 0 dJ0_coder_7d493_6 rfl ?_
  refine r_kcoder (pc := 7) ok dJ0_coder_7d493_7 ?_
  refine r_goto (pc := 10) ok 14 dJ0_coder_7d493_10 (by decide) ?_
  exact r_nret (pc := 14) ok (Nat.zero_le _) (Nat.zero_le _) rfl rfl dJ0_coder_7d493_14
theorem cJlatin (g : GP) (l : Launch) (M : Mem) (r : Int32) (M2 : Mem) (h : some ((1 : Int32), M) = some (r, M2)) : Con g l yJ0_isLatin1_aae02 cJ0_isLatin1_aae02 1 (some .boolean) (rmL 2) [.ref (gK g)] M (eI r) M2 := by
  refine Con.of (own := RJ0) (f := some ((1 : Int32), M)) (by decide) (Nat.le_of_ble_eq_true rfl) rfl (fun x ok => ?_) r M2 h
  refine r_getsC (pc := 0) ok dJ0_isLatin1_aae02_0 ?_
  refine r_eqF (pc := 3) ok 17 (by decide) dJ0_isLatin1_aae02_3 (by decide) ?_
  refine r_aload_n (pc := 6) ok 0 dJ0_isLatin1_aae02_6 rfl ?_
  refine r_kcoder (pc := 7) ok dJ0_isLatin1_aae02_7 ?_
  refine r_neF (pc := 10) ok 17 rfl dJ0_isLatin1_aae02_10 (by decide) ?_
  refine r_iconst (pc := 13) ok 1 dJ0_isLatin1_aae02_13 (by decide) ?_
  refine r_goto (pc := 14) ok 18 dJ0_isLatin1_aae02_14 (by decide) ?_
  exact r_zret (pc := 18) ok (Nat.zero_le _) (Nat.zero_le _) rfl rfl dJ0_isLatin1_aae02_18
theorem cJlength (g : GP) (l : Launch) (M : Mem) (r : Int32) (M2 : Mem) (h : some ((61 : Int32), M) = some (r, M2)) : Con g l yJ0_length_8abf5 cJ0_length_8abf5 1 (some .int) (rmL 3) [.ref (gK g)] M (eI r) M2 := by
  refine Con.of (own := RJ0) (f := ob (some ((0 : Int32), M)) fun z M2 => some ((61 : Int32) >>> (z &&& 31), M2)) (by decide) (Nat.le_of_ble_eq_true rfl) rfl (fun x ok => ?_) r M2 (by rw [← h]; show some ((61 : Int32) >>> ((0 : Int32) &&& 31), M) = _; rw [show (61 : Int32) >>> ((0 : Int32) &&& 31) = 61 by decide])
  refine r_aload_n (pc := 0) ok 0 dJ0_length_8abf5_0 rfl ?_
  refine r_kvalue (pc := 1) ok dJ0_length_8abf5_1 ?_
  refine r_vlen (pc := 4) ok dJ0_length_8abf5_4 ?_
  refine r_aload_n (pc := 5) ok 0 dJ0_length_8abf5_5 rfl ?_
  refine r_callVK (pc := 6) ok [] [.int 61] 2 (fun r M2 h => cJcoder g l M r M2 h) cv_J0_335 (rmOk_L (by decide) (by decide)) dJ0_length_8abf5_6 rfl rfl (Nat.le_of_ble_eq_true rfl) (fun r1 M1 => ?_)
  refine r_ishr (pc := 9) ok dJ0_length_8abf5_9 ?_
  exact r_iret (pc := 10) ok (Nat.zero_le _) (Nat.zero_le _) rfl dJ0_length_8abf5_10
theorem cJpre (g : GP) (l : Launch) (v : Value) (hv : v = .null ∨ ∃ a, v = .ref a) (i : Int32) (hb : inb i 61 = true) (M : Mem) (r : Int32) (M2 : Mem) (h : some (i, M) = some (r, M2)) : Con g l yJ3_checkIndex_8e157 cJ3_checkIndex_8e157 3 (some .int) (rmL 2) [.int i, .int 61, v] M (eI r) M2 := by
  obtain ⟨b1, b2, -⟩ := inb_ti hb
  rcases hv with rfl | ⟨z, rfl⟩
  · refine Con.of (own := RJ3) (f := some (i, M)) (by decide) (Nat.le_of_ble_eq_true rfl) rfl (fun x ok => ?_) r M2 h
    refine r_iload_n (pc := 0) ok 0 dJ3_checkIndex_8e157_0 rfl ?_
    refine r_ltF (pc := 1) ok 9 (fun q => by have := Int32.lt_iff_toInt_lt.mp q; simp at this; omega) dJ3_checkIndex_8e157_1 (by decide) ?_
    refine r_iload_n (pc := 4) ok 0 dJ3_checkIndex_8e157_4 rfl ?_
    refine r_iload_n (pc := 5) ok 1 dJ3_checkIndex_8e157_5 rfl ?_
    refine r_icltT (pc := 6) ok 16 (Int32.lt_iff_toInt_lt.mpr (by rw [show (61 : Int32).toInt = 61 by decide]; omega)) dJ3_checkIndex_8e157_6 (by decide) ?_
    refine r_iload_n (pc := 16) ok 0 dJ3_checkIndex_8e157_16 rfl ?_
    exact r_iret (pc := 17) ok (Nat.zero_le _) (Nat.zero_le _) rfl dJ3_checkIndex_8e157_17
  · refine Con.of (own := RJ3) (f := some (i, M)) (by decide) (Nat.le_of_ble_eq_true rfl) rfl (fun x ok => ?_) r M2 h
    refine r_iload_n (pc := 0) ok 0 dJ3_checkIndex_8e157_0 rfl ?_
    refine r_ltF (pc := 1) ok 9 (fun q => by have := Int32.lt_iff_toInt_lt.mp q; simp at this; omega) dJ3_checkIndex_8e157_1 (by decide) ?_
    refine r_iload_n (pc := 4) ok 0 dJ3_checkIndex_8e157_4 rfl ?_
    refine r_iload_n (pc := 5) ok 1 dJ3_checkIndex_8e157_5 rfl ?_
    refine r_icltT (pc := 6) ok 16 (Int32.lt_iff_toInt_lt.mpr (by rw [show (61 : Int32).toInt = 61 by decide]; omega)) dJ3_checkIndex_8e157_6 (by decide) ?_
    refine r_iload_n (pc := 16) ok 0 dJ3_checkIndex_8e157_16 rfl ?_
    exact r_iret (pc := 17) ok (Nat.zero_le _) (Nat.zero_le _) rfl dJ3_checkIndex_8e157_17
theorem cJcheck (g : GP) (l : Launch) (i : Int32) (hb : inb i 61 = true) (M : Mem) (r : Unit) (M2 : Mem) (h : some ((), M) = some (r, M2)) : Con g l yJ0_checkIndex_df160 cJ0_checkIndex_df160 2 none (rmL 3) [.int i, .int 61] M (eV r) M2 := by
  refine Con.of (own := RJ0) (f := ob (some (i, M)) fun _ M2 => some ((), M2)) (by decide) (Nat.le_of_ble_eq_true rfl) rfl (fun x ok => ?_) r M2 h
  refine r_iload_n (pc := 0) ok 0 dJ0_checkIndex_df160_0 rfl ?_
  refine r_iload_n (pc := 1) ok 1 dJ0_checkIndex_df160_1 rfl ?_
  refine r_getsF (pc := 2) ok dJ0_checkIndex_df160_2 ?_
  generalize hgv : gFv g = v
  have hv := gFv_is g
  rw [hgv] at hv
  clear hgv
  rcases hv with rfl | ⟨z, rfl⟩
  · refine r_callS0 (pc := 5) ok [.int i, .int 61, .null] [] 2 (fun r M2 h => cJpre g l _ (Or.inl rfl) i hb M r M2 h) cs_J0_1059 (rmOk_L (by decide) (by decide)) dJ0_checkIndex_df160_5 rfl rfl (Nat.le_of_ble_eq_true rfl) (fun r1 M1 => ?_)
    refine r_pop (pc := 8) ok dJ0_checkIndex_df160_8 rfl ?_
    exact r_vret (pc := 9) ok (Nat.zero_le _) (Nat.zero_le _) rfl dJ0_checkIndex_df160_9
  · refine r_callS0 (pc := 5) ok [.int i, .int 61, .ref z] [] 2 (fun r M2 h => cJpre g l _ (Or.inr ⟨_, rfl⟩) i hb M r M2 h) cs_J0_1059 (rmOk_L (by decide) (by decide)) dJ0_checkIndex_df160_5 rfl rfl (Nat.le_of_ble_eq_true rfl) (fun r1 M1 => ?_)
    refine r_pop (pc := 8) ok dJ0_checkIndex_df160_8 rfl ?_
    exact r_vret (pc := 9) ok (Nat.zero_le _) (Nat.zero_le _) rfl dJ0_checkIndex_df160_9
theorem cJlat (g : GP) (l : Launch) (i : Int32) (hb : inb i 61 = true) (M : Mem) (r : Int32) (M2 : Mem) (h : some (wch i, M) = some (r, M2)) : Con g l yJ1_charAt_3b067 cJ1_charAt_3b067 2 (some .char) (rmL 4) [.ref (gV g), .int i] M (eI r) M2 := by
  refine Con.of (own := RJ1) (f := ob (some ((), M)) fun _ M2 => some (wch i, M2)) (by decide) (Nat.le_of_ble_eq_true rfl) rfl (fun x ok => ?_) r M2 h
  refine r_iload_n (pc := 0) ok 1 dJ1_charAt_3b067_0 rfl ?_
  refine r_aload_n (pc := 1) ok 0 dJ1_charAt_3b067_1 rfl ?_
  refine r_vlen (pc := 2) ok dJ1_charAt_3b067_2 ?_
  refine r_callS0 (pc := 3) ok [.int i, .int 61] [] 3 (fun r M2 h => cJcheck g l i hb M r M2 h) cs_J1_9 (rmOk_L (by decide) (by decide)) dJ1_charAt_3b067_3 rfl rfl (Nat.le_of_ble_eq_true rfl) (fun r1 M1 => ?_)
  refine r_aload_n (pc := 6) ok 0 dJ1_charAt_3b067_6 rfl ?_
  refine r_iload_n (pc := 7) ok 1 dJ1_charAt_3b067_7 rfl ?_
  refine r_vbald (pc := 8) ok hb dJ1_charAt_3b067_8 ?_
  refine r_sipush (pc := 9) ok 255 dJ1_charAt_3b067_9 (by decide) ?_
  refine r_iand (pc := 12) ok dJ1_charAt_3b067_12 ?_
  refine r_i2c (pc := 13) ok dJ1_charAt_3b067_13 ?_
  exact r_nret (pc := 14) ok (Nat.zero_le _) (Nat.zero_le _) (pk_nc _) rfl dJ1_charAt_3b067_14
theorem cJcharAt (g : GP) (l : Launch) (i : Int32) (hb : inb i 61 = true) (M : Mem) (r : Int32) (M2 : Mem) (h : some (wch i, M) = some (r, M2)) : Con g l yJ0_charAt_5068e cJ0_charAt_5068e 2 (some .char) (rmL 5) [.ref (gK g), .int i] M (eI r) M2 := by
  refine Con.of (own := RJ0) (f := ob (some ((1 : Int32), M)) fun z M2 => if z = 0 then none else ob (some (wch i, M2)) fun v M3 => gd (decide (narrow .char (.int v) = .int v)) (some (v, M3))) (by decide) (Nat.le_of_ble_eq_true rfl) rfl (fun x ok => ?_) r M2 ?_
  · refine r_aload_n (pc := 0) ok 0 dJ0_charAt_5068e_0 rfl ?_
    refine r_callVK (pc := 1) ok [] [] 2 (fun r M2 h => cJlatin g l M r M2 h) cv_J0_492 (rmOk_L (by decide) (by decide)) dJ0_charAt_5068e_1 rfl rfl (Nat.le_of_ble_eq_true rfl) (fun r1 M1 => ?_)
    refine r_if_eq (pc := 4) ok 16 dJ0_charAt_5068e_4 (by decide) (fun _ => ?_) (fun _ => ?_)
    · exact r_none
    · refine r_aload_n (pc := 7) ok 0 dJ0_charAt_5068e_7 rfl ?_
      refine r_kvalue (pc := 8) ok dJ0_charAt_5068e_8 ?_
      refine r_iload_n (pc := 11) ok 1 dJ0_charAt_5068e_11 rfl ?_
      refine r_callS0 (pc := 12) ok [.ref (gV g), .int i] [] 4 (fun r M2 h => cJlat g l i hb _ r M2 h) cs_J0_495 (rmOk_L (by decide) (by decide)) dJ0_charAt_5068e_12 rfl rfl (Nat.le_of_ble_eq_true rfl) (fun r2 M2 => ?_)
      refine r_gd (fun hz => ?_)
      exact r_nret (pc := 15) ok (Nat.zero_le _) (Nat.zero_le _) (of_decide_eq_true hz) rfl dJ0_charAt_5068e_15
  · have e : narrow .char (.int (wch i)) = .int (wch i) := pk_nc _
    rw [← h]
    show (if (1 : Int32) = 0 then none else gd (decide (narrow .char (.int (wch i)) = .int (wch i))) (some (wch i, M))) = _
    rw [if_neg (by decide), decide_eq_true e]
    rfl
end SQ
section SR
variable {α : Type} {Q : α × Mem → State → Prop} {g : GP} {l : Launch} {x : CT} {cc : ByteArray} {nL pc : Nat} {ret : Option FieldType} {m0 : Nat} {lv : List (Nat × Value)} {stk : List Value} {M : Mem} {f : Option (α × Mem)}
theorem r_ldcS (ok : Ok g l x RX4 cc nL ret (rmL m0)) (hd : decode cc pc = .ok (.ldc 84, 2)) (kk : Sw g l x Q nL 0 0 (pc + 2) lv (.ref (gK g) :: stk) M f) : Sw g l x Q nL 0 0 pc lv stk M f :=
  fun res hr H locs ls hW hS hL => va_ldcS ok.1 ok.2.1 ok.2.2.2.1 ok.2.2.2.2.2.2.2.2.1.2.2.1 hd (kk res hr H locs ls hW hS hL)
end SR
def fKlen (M : Mem) : Option (Int32 × Mem) := some (61, M)
def fKch (i : Int32) (M : Mem) : Option (Int32 × Mem) := gd (inb i 61) (some (wch i, M))
theorem cKch (g : GP) (l : Launch) (i : Int32) (M : Mem) (r : Int32) (M2 : Mem) (h : fKch i M = some (r, M2)) : Con g l yJ0_charAt_5068e cJ0_charAt_5068e 2 (some .char) (rmL 5) [.ref (gK g), .int i] M (eI r) M2 := by
  unfold fKch at h
  cases hb : inb i 61 with
  | false => rw [hb] at h; cases h
  | true => rw [hb] at h; exact cJcharAt g l i hb M r M2 h
