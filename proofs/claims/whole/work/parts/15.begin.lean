/-! THE CLAIM OUT OF ONE WALK OF THE LAW'S BODY. Your part is whole_start (and what it stands on); all else here is the same for every law, but numbers. -/
def R_law : String := "UnderlayOfUnspokenLaw"
def lw_P (b : Addr) (xs : List Int32) (args : Array Value) (s : State) : Prop := args = #[.ref b] ∧ s.IntsAt b xs ∧ xs.length ≤ 3584 ∧ (Jvm.Cond.and given_1 narrow_1).before args s = true
def lw_Q (_ : Array Value) (s : State) (o : Outcome) (t : State) : Prop := o = .returned (some (.int 1)) ∧ Framed s o t [] 600000 7302250
def lw_Z (below : List Frame) (a : Array Value) (s : State) : State → Prop := fun t => ∃ o, t.status = .running ∧ Ended t below o ∧ lw_Q a s o t
/-- the law's own end, with 1 on the stack, nothing written that was there before, its room as the claim has it -/
theorem lw_ret {p : Program} {l : Launch} {e : Env} {s : State} {m : MethodId} {below : List Frame} {meth : Method} {c : Code} {b : Nat} (hx : p.tables.exec = Jvm.exec) (hb : c.code = code) (hr : meth.sig.returnType = ret) (hlocks : meth.locks = false) {pc : Nat} {H : Heap} {ls : Array Slot} (hdg : decode code pc = .ok (.ireturn, 1)) : W p l e room_1 s m #[Value.ref b] below meth c H [] 600000 7302250 (lw_Z below #[Value.ref b] s) (F0 m pc ls [.int 1]) := by
  intro T hT X
  obtain ⟨fs, hret, hrun, hended, hW, hframe⟩ := X.leave (v := some (.int 1)) (hlocks := hlocks) (fun h => by rw [hr] at h; cases h)
  have hmeth' : T.vm.method? m = some meth := X.method'
  refine ⟨T.setFrames fs, ?_, .returned (some (.int 1)), hrun, hended, rfl, ⟨_, rfl⟩, hW, hframe⟩
  jvm_step X.here [X.here.top, hx, hb, hdg, hmeth', hr, ret, narrow_b1]
  (try refine ⟨rfl, ?_⟩); (try refine ⟨rfl, ?_⟩)
  first | (intro acts; rw [hret _ acts rfl rfl rfl]) | rw [hret _ _ rfl rfl rfl]
  exact Steps.refl _
/-- what holds at the law's entry: the machine, the code, the tables' words (any of lw_tbl by 'hts w (by decide +kernel)'), the script of L ints xs at the cell b, what the Statement gives of the start (any of its parts by flat_of_before) -/
def lw_At (p : Program) (s : State) (m : MethodId) (meth : Method) (c : Code) (b L : Nat) (xs : Nat → Int32) : Prop :=
  p.tables.exec = Jvm.exec ∧ c.code = code ∧ meth.sig.returnType = ret ∧ c.maxLocals = 4 ∧ s.vm.findClass R_law = some m.cls ∧ (∀ w ∈ lw_tbl, w.before #[Value.ref b] s = true) ∧ va_X b L xs s s.heap ∧ b < s.heap.size ∧ meth.locks = false ∧ (Jvm.Cond.and given_1 narrow_1).before #[Value.ref b] s = true
theorem nest_start {w : Cond} {A : Array Value} {s : State} (hn : w ∈ nsU) (h0 : w.before A s = true) : va_Nw w s := by
  have hn2 := (List.mem_filter.mp hn).2
  cases w <;> first | (exact va_Nw.of rfl h0) | (simp [isNest] at hn2)
set_option maxRecDepth 20000 in
theorem wd_in : ∀ j, j < 61 → Cond.eq (.elem (.field (Term.string RX4 84) "java/lang/String" "value" "[B") (.int (Int32.ofNat j))) (.int (([wdB].getD 0 []).getD j 0)) ∈ flatC (Jvm.Cond.and given_1 narrow_1) := by decide +kernel
set_option maxRecDepth 20000 in
set_option maxHeartbeats 4000000 in
theorem start_env {s : State} {b : Nat} (hts : ∀ w ∈ lw_tbl, w.before #[Value.ref b] s = true) (hgv : (Jvm.Cond.and given_1 narrow_1).before #[Value.ref b] s = true) : ∃ g : GP, gB g = s.heap.size ∧ EnvU g s ∧ EnvA s := by
  have hw : ∀ w ∈ wsU, w.before #[Value.ref b] s = true := fun w h => hts w (List.mem_filter.mp h).1
  have ht1 : ∀ w ∈ tables_1, w.before #[Value.ref b] s = true := fun w h => hts w (List.mem_append_right _ h)
  have hf := flat_of_before _ hgv
  have hA : ∀ a : Nat, a < s.heap.size → ¬ (s.heap.size ≤ a) := fun a h1 h2 => by omega
  obtain ⟨c0, i0, k0⟩ := u_known (C := RX0) (T := TX0) (N := 0) (n := 0) hw (fun w h => absurd h List.not_mem_nil) (hw _ wit_X0)
  obtain ⟨c1, i1, k1⟩ := u_known (C := RX1) (T := TX1) (N := 0) (n := 0) hw (fun w h => absurd h List.not_mem_nil) (hw _ wit_X1)
  obtain ⟨c2, i2, k2⟩ := u_known (C := RX2) (T := TX2) (N := 0) (n := 0) hw (fun w h => absurd h List.not_mem_nil) (hw _ wit_X2)
  obtain ⟨c3, i3, k3⟩ := u_known (C := RX3) (T := TX3) (N := 0) (n := 0) hw (fun w h => absurd h List.not_mem_nil) (hw _ wit_X3)
  obtain ⟨c4, i4, k4⟩ := u_known (C := RX4) (T := TX4) (N := 9) (n := 9) hw inX4 (hw _ wit_X4)
  obtain ⟨c5, i5, k5⟩ := u_known (C := RX5) (T := TX5) (N := 11) (n := 11) hw inX5 (hw _ wit_X5)
  obtain ⟨c6, i6, k6⟩ := u_known (C := RX6) (T := TX6) (N := 3) (n := 3) hw inX6 (hw _ wit_X6)
  obtain ⟨c7, i7, k7⟩ := u_known (C := RX7) (T := TX7) (N := 0) (n := 0) hw (fun w h => absurd h List.not_mem_nil) (hw _ wit_X7)
  obtain ⟨c8, i8, k8⟩ := u_known (C := RX8) (T := TX8) (N := 3) (n := 3) hw inX8 (hw _ wit_X8)
  obtain ⟨c9, i9, k9⟩ := u_known (C := RX9) (T := TX9) (N := 0) (n := 0) hw (fun w h => absurd h List.not_mem_nil) (hw _ wit_X9)
  obtain ⟨c10, i10, k10⟩ := u_known (C := RX10) (T := TX10) (N := 9) (n := 9) hw inX10 (hw _ wit_X10)
  obtain ⟨c11, i11, k11⟩ := u_known (C := RX11) (T := TX11) (N := 36) (n := 36) hw inX11 (hw _ wit_X11)
  obtain ⟨a0, ka0, p0, x0, y0, z0⟩ := Cond.arrayClass_spec (hw _ wcl_arrI)
  have wo1 : va_AO RX8 s := va_AO.of (ht1 _ (tm1 (List.mem_of_getElem? (i := 30) (by decide +kernel))))
  obtain ⟨p1, a1, ka1, t1, x1, y1, z1, v1⟩ := Cond.arrayOver_spec wo1
  have wo2 : va_AO RX3 s := va_AO.of (ht1 _ (tm1 (List.mem_of_getElem? (i := 48) (by decide +kernel))))
  obtain ⟨p2, a2, ka2, t2, x2, y2, z2, v2⟩ := Cond.arrayOver_spec wo2
  have wo3 : va_AO RX6 s := va_AO.of (ht1 _ (tm1 (List.mem_of_getElem? (i := 130) (by decide +kernel))))
  obtain ⟨p3, a3, ka3, t3, x3, y3, z3, v3⟩ := Cond.arrayOver_spec wo3
  have wo4a : (Cond.arrayOver (.array .int)).before #[Value.ref b] s = true := ht1 _ (tm1 (List.mem_of_getElem? (i := 156) (by decide +kernel)))
  have wo4 : (Cond.arrayOver (.array .int)).before #[] s = true := wo4a
  obtain ⟨p4, a4, ka4, t4, x4, y4, z4, v4⟩ := arrayOver_specB wo4
  obtain ⟨adK, adV, hS, hev⟩ := vk_Sof (args := #[Value.ref b]) (s := s) (N := 1) (tm := fun _ => Term.string RX4 84) (len := [61]) (byt := [wdB]) (A := fun a => s.heap.size ≤ a) (by decide) (fun i hi => hf _ (by decide +kernel)) (fun i hi => hf _ (by decide +kernel)) (fun i hi => hf _ (by decide +kernel)) (fun i hi => match i, hi with | 0, _ => hf _ (by decide +kernel) | i + 1, h => absurd h (by omega)) (fun i hi => match i, hi with | 0, _ => fun j hj => hf _ (wd_in j hj) | i + 1, h => absurd h (by omega)) (fun i j hi hj h => absurd (by omega) h) hA
  obtain ⟨fv, hfe, hfr⟩ := Cond.isRef_spec (t := Term.static "jdk/internal/util/Preconditions" "SIOOBE_FORMATTER" "Ljava/util/function/BiFunction;") (hf _ (by decide +kernel))
  obtain ⟨fa, hfa⟩ : ∃ fa : Nat, (match fa with | 0 => Value.null | n + 1 => Value.ref n) = fv := by
      cases fv with
      | null => exact ⟨0, rfl⟩
      | ref a => exact ⟨a + 1, rfl⟩
      | _ => simp [Value.isRef] at hfr
  refine ⟨((fun k => [c0, c1, c2, c3, c4, c5, c6, c7, c8, c9, c10, c11].getD k c0, fun k => [i0, i1, i2, i3, i4, i5, i6, i7, i8, i9, i10, i11].getD k i0), (fun k => [a0, a1, a2, a3, a4].getD k a0), (fun _ _ => 0), s.heap.size, adK 0, adV 0, fa), rfl, ⟨⟨fun c q hq => ?_, fun k q hq => ?_⟩, fun w hn => nest_start hn (ht1 w (List.mem_filter.mp hn).1), vk_R.of (ht1 _ (tm2 (List.mem_of_getElem? (i := 38) (by decide +kernel)))) (hev 0 (by decide)), ⟨fun i hi => ?_, fun i j hi hj _ => by omega⟩, va_Zof (ht1 _ (tm2 (List.mem_of_getElem? (i := 48) (by decide +kernel)))) (hw _ win_J0) (va_eqi (hf _ (by decide +kernel))) hA, va_Zof (ht1 _ (tm2 (List.mem_of_getElem? (i := 64) (by decide +kernel)))) (hw _ win_J3) (by rw [hfe, ← hfa]; rfl) hA⟩, wo1, wo2, wo3, wo4, fun C hC => ?_⟩
  · match c, hq with
    | 0, hq => cases hq; exact k0
    | 1, hq => cases hq; exact k1
    | 2, hq => cases hq; exact k2
    | 3, hq => cases hq; exact k3
    | 4, hq => cases hq; exact k4
    | 5, hq => cases hq; exact k5
    | 6, hq => cases hq; exact k6
    | 7, hq => cases hq; exact k7
    | 8, hq => cases hq; exact k8
    | 9, hq => cases hq; exact k9
    | 10, hq => cases hq; exact k10
    | 11, hq => cases hq; exact k11
  · match k, hq with
    | 0, hq => cases hq; exact ⟨fun n z => ⟨fun k h => (by cases h), ka0, y0, p0, z0⟩, x0⟩
    | 1, hq => cases hq; exact ⟨fun n z => ⟨fun k h => (by cases h), ka1, y1, p1, z1⟩, ka1, p1, y1, z1, t1, v1⟩
    | 2, hq => cases hq; exact ⟨fun n z => ⟨fun k h => (by cases h), ka2, y2, p2, z2⟩, ka2, p2, y2, z2, t2, v2⟩
    | 3, hq => cases hq; exact ⟨fun n z => ⟨fun k h => (by cases h), ka3, y3, p3, z3⟩, ka3, p3, y3, z3, t3, v3⟩
    | 4, hq => cases hq; exact ⟨fun n z => ⟨fun k h => (by cases h), ka4, y4, p4, z4⟩, v4⟩
  · have e : i = 0 := by omega
    subst e
    exact hS.1 0 (by decide)
  · rcases hC with rfl | rfl | rfl | rfl | rfl
    · exact va_Nw.of rfl (ht1 _ (tm6 (List.mem_of_getElem? (i := 61) (by decide +kernel))))
    · exact va_Nw.of rfl (ht1 _ (tm6 (List.mem_of_getElem? (i := 62) (by decide +kernel))))
    · exact va_Nw.of rfl (ht1 _ (tm6 (List.mem_of_getElem? (i := 63) (by decide +kernel))))
    · exact va_Nw.of rfl (ht1 _ (tm6 (List.mem_of_getElem? (i := 64) (by decide +kernel))))
    · exact va_Nw.of rfl (ht1 _ (tm6 (List.mem_of_getElem? (i := 65) (by decide +kernel))))
