/-! LIST WORLDS: rows for the constructors, whose world is a list of cells behind any others -/
theorem wa {wr ll : va_W} {k : Nat} {e : Nat × va_E} (h : ll[k]? = some e) : (wr ++ ll)[wr.length + k]? = some e := by
  rw [List.getElem?_append_right (Nat.le_add_right _ _), Nat.add_sub_cancel_left]
  exact h
theorem wset {wr ll l2 : va_W} {k : Nat} {e : Nat × va_E} (h : ll.set k e = l2) : (wr ++ ll).set (wr.length + k) e = wr ++ l2 := by
  rw [List.set_append_right _ _ (Nat.le_add_right _ _), Nat.add_sub_cancel_left, h]
theorem wap {wr ll l2 : va_W} {e : Nat × va_E} (h : ll ++ [e] = l2) : (wr ++ ll) ++ [e] = wr ++ l2 := by
  rw [List.append_assoc, h]
theorem waps {wr ll es l2 : va_W} (h : ll ++ es = l2) : (wr ++ ll) ++ es = wr ++ l2 := by
  rw [List.append_assoc, h]
def Sl (g : GP) (l : Launch) (x : CT) (Q : State → Prop) (nL c s pc : Nat) (lv : List (Nat × Value)) (stk : List Value) (ws : va_W) : Prop :=
  ∀ (H : Heap) (locs : List Loc) (ls : Array Slot), va_P (gD g) vCl ws H → va_D (gU g) ws → va_S (gU g) (cxS x).heap H locs → lv_has ls nL lv → Wx l x H locs c s Q (F0 (cxM x) pc ls stk)
/-- what making arrays of references asks of the tables -/
def EnvA (U : State) : Prop := va_AO RX8 U ∧ va_AO RX3 U ∧ va_AO RX6 U ∧ (Cond.arrayOver (.array .int)).before #[] U = true ∧ (∀ C, C = RX0 ∨ C = RX2 ∨ C = RX9 ∨ C = RX7 ∨ C = RX1 → va_Nw (.castable C RX3) U)
section LR
variable {Q : State → Prop} {g : GP} {l : Launch} {x : CT} {own : String} {cc : ByteArray} {nL c s pc : Nat} {ret : Option FieldType} {rm : Room} {lv : List (Nat × Value)} {stk : List Value} {ws ws2 : va_W}
theorem l_iconst (ok : Ok g l x own cc nL ret rm) {n : Int} (v : Int32) (hd : decode cc pc = .ok (.iconst n, 1)) (hv : Int32.ofInt n = v) (kk : Sl g l x Q nL c s (pc + 1) lv (.int v :: stk) ws) : Sl g l x Q nL c s pc lv stk ws :=
  fun H locs ls hP hD hS hL => lv_iconst ok.1 ok.2.1 hd hv (kk H locs ls hP hD hS hL)
theorem l_bipush (ok : Ok g l x own cc nL ret rm) {n : Int} (v : Int32) (hd : decode cc pc = .ok (.bipush n, 2)) (hv : (Int8.ofInt n).toInt32 = v) (kk : Sl g l x Q nL c s (pc + 2) lv (.int v :: stk) ws) : Sl g l x Q nL c s pc lv stk ws :=
  fun H locs ls hP hD hS hL => lv_bipush ok.1 ok.2.1 hd hv (kk H locs ls hP hD hS hL)
theorem l_sipush (ok : Ok g l x own cc nL ret rm) {n : Int} (v : Int32) (hd : decode cc pc = .ok (.sipush n, 3)) (hv : (Int16.ofInt n).toInt32 = v) (kk : Sl g l x Q nL c s (pc + 3) lv (.int v :: stk) ws) : Sl g l x Q nL c s pc lv stk ws :=
  fun H locs ls hP hD hS hL => lv_sipush ok.1 ok.2.1 hd hv (kk H locs ls hP hD hS hL)
theorem l_iload_n (ok : Ok g l x own cc nL ret rm) {k : Fin 4} (j : Nat) {v : Int32} (hd : decode cc pc = .ok (.iload_n k, 1)) (hl : lv[j]? = some ((k : Nat), .int v)) (kk : Sl g l x Q nL c s (pc + 1) lv (.int v :: stk) ws) : Sl g l x Q nL c s pc lv stk ws :=
  fun H locs ls hP hD hS hL => lv_iload_n ok.1 ok.2.1 hd rfl (lv_at hL j hl) (kk H locs ls hP hD hS hL)
theorem l_aload_n (ok : Ok g l x own cc nL ret rm) {k : Fin 4} (j : Nat) {v : Nat} (hd : decode cc pc = .ok (.aload_n k, 1)) (hl : lv[j]? = some ((k : Nat), .ref v)) (kk : Sl g l x Q nL c s (pc + 1) lv (.ref v :: stk) ws) : Sl g l x Q nL c s pc lv stk ws :=
  fun H locs ls hP hD hS hL => lv_aload_n ok.1 ok.2.1 hd rfl (lv_at hL j hl) (kk H locs ls hP hD hS hL)
theorem l_istore_n (ok : Ok g l x own cc nL ret rm) {k : Fin 4} {i : Nat} (lv2 : List (Nat × Value)) {v : Int32} (hd : decode cc pc = .ok (.istore_n k, 1)) (hi : (k : Nat) = i) (hn : i < nL) (hl : (i, Value.int v) :: lv.filter (fun q => !(q.1 == i) && !(q.1 + 1 == i && q.2.category == 2)) = lv2) (kk : Sl g l x Q nL c s (pc + 1) lv2 stk ws) : Sl g l x Q nL c s pc lv (.int v :: stk) ws :=
  fun H locs ls hP hD hS hL => lv_istore_n ok.1 ok.2.1 hd hi hL hn hl (fun ls2 hL2 => kk H locs ls2 hP hD hS hL2)
theorem l_astore_n (ok : Ok g l x own cc nL ret rm) {k : Fin 4} {i : Nat} (lv2 : List (Nat × Value)) {v : Nat} (hd : decode cc pc = .ok (.astore_n k, 1)) (hi : (k : Nat) = i) (hn : i < nL) (hl : (i, Value.ref v) :: lv.filter (fun q => !(q.1 == i) && !(q.1 + 1 == i && q.2.category == 2)) = lv2) (kk : Sl g l x Q nL c s (pc + 1) lv2 stk ws) : Sl g l x Q nL c s pc lv (.ref v :: stk) ws :=
  fun H locs ls hP hD hS hL => lv_astore_n ok.1 ok.2.1 hd hi hL hn hl (fun ls2 hL2 => kk H locs ls2 hP hD hS hL2)
theorem l_iinc (ok : Ok g l x own cc nL ret rm) {i : Nat} {n : Int} {v : Int32} (k : Nat) (w : Int32) (lv2 : List (Nat × Value)) (hd : decode cc pc = .ok (.iinc i n, 3)) (hk : lv[k]? = some (i, .int v)) (hv : v + Int32.ofInt n = w) (hn : i < nL) (hl : (i, Value.int w) :: lv.filter (fun q => !(q.1 == i) && !(q.1 + 1 == i && q.2.category == 2)) = lv2) (kk : Sl g l x Q nL c s (pc + 3) lv2 stk ws) : Sl g l x Q nL c s pc lv stk ws :=
  fun H locs ls hP hD hS hL => lv_iinc ok.1 ok.2.1 hd hL hk hv hn hl (fun ls2 hL2 => kk H locs ls2 hP hD hS hL2)
theorem l_lv (ks : List Nat) (lv2 : List (Nat × Value)) (hl : lv_pick lv ks = lv2) (kk : Sl g l x Q nL c s pc lv2 stk ws) : Sl g l x Q nL c s pc lv stk ws :=
  fun H locs ls hP hD hS hL => kk H locs ls hP hD hS (lv_sub hL ks hl)
theorem l_dup (ok : Ok g l x own cc nL ret rm) {v : Value} (hd : decode cc pc = .ok (.dup, 1)) (hc : v.category = 1) (kk : Sl g l x Q nL c s (pc + 1) lv (v :: v :: stk) ws) : Sl g l x Q nL c s pc lv (v :: stk) ws :=
  fun H locs ls hP hD hS hL => lv_dup ok.1 ok.2.1 hd hc (kk H locs ls hP hD hS hL)
theorem l_goto (ok : Ok g l x own cc nL ret rm) {off : Int} (tgt : Nat) (hd : decode cc pc = .ok (.goto off, 3)) (ht : (pc : Int) + off = (tgt : Int)) (kk : Sl g l x Q nL c s tgt lv stk ws) : Sl g l x Q nL c s pc lv stk ws :=
  fun H locs ls hP hD hS hL => lv_goto ok.1 ok.2.1 hd ht (kk H locs ls hP hD hS hL)
theorem l_geT (ok : Ok g l x own cc nL ret rm) {a b : Int32} {off : Int} (tgt : Nat) (hn : b ≤ a) (hd : decode cc pc = .ok (.if_icmp .ge off, 3)) (ht : (pc : Int) + off = (tgt : Int)) (kk : Sl g l x Q nL c s tgt lv stk ws) : Sl g l x Q nL c s pc lv (.int b :: .int a :: stk) ws :=
  fun H locs ls hP hD hS hL => lv_icmp_ge ok.1 ok.2.1 hd ht (fun _ => kk H locs ls hP hD hS hL) (fun h => absurd hn h)
theorem l_geF (ok : Ok g l x own cc nL ret rm) {a b : Int32} {off : Int} (tgt : Nat) (hn : ¬ b ≤ a) (hd : decode cc pc = .ok (.if_icmp .ge off, 3)) (ht : (pc : Int) + off = (tgt : Int)) (kk : Sl g l x Q nL c s (pc + 3) lv stk ws) : Sl g l x Q nL c s pc lv (.int b :: .int a :: stk) ws :=
  fun H locs ls hP hD hS hL => lv_icmp_ge ok.1 ok.2.1 hd ht (fun h => absurd h hn) (fun _ => kk H locs ls hP hD hS hL)
theorem l_iald (ok : Ok g l x own cc nL ret rm) (q0 : Nat) {a n : Nat} {f : Nat → Int32} {j : Int32} (he : ws[q0]? = some (a, .inl (gC g 0, n, .inl f))) (hb : inb j n = true) (hd : decode cc pc = .ok (.iaload, 1)) (kk : Sl g l x Q nL c s (pc + 1) lv (.int (f j.toNatClampNeg) :: stk) ws) : Sl g l x Q nL c s pc lv (.int j :: .ref a :: stk) ws :=
  fun H locs ls hP hD hS hL => va_iald ok.1 ok.2.1 ok.2.2.2.2.2.2.2.2.1.1 hP q0 0 he rfl (inb_in hb) hd (kk H locs ls hP hD hS hL)
theorem l_iast (ok : Ok g l x own cc nL ret rm) (q0 : Nat) {a n : Nat} {f : Nat → Int32} {j v : Int32} (k : Nat) (he : ws[q0]? = some (a, .inl (gC g 0, n, .inl f))) (hb : inb j n = true) (hk : j.toNatClampNeg = k) (hs : ws.set q0 (a, .inl (gC g 0, n, .inl (upd f k v))) = ws2) (hd : decode cc pc = .ok (.iastore, 1)) (kk : Sl g l x Q nL c s (pc + 1) lv stk ws2) : Sl g l x Q nL c s pc lv (.int v :: .int j :: .ref a :: stk) ws := by
  intro H locs ls hP hD hS hL
  subst hs hk
  exact va_iast ok.1 ok.2.1 ok.2.2.2.2.2.2.2.2.1.1 hP hD hS q0 0 he rfl (inb_in hb) hd (fun H1 locs1 hP1 hD1 hS1 => kk H1 locs1 ls hP1 hD1 hS1 hL)
theorem l_aast (ok : Ok g l x own cc nL ret rm) (q0 t qk ci : Nat) {a n v : Nat} {vs : List Value} {r : vw_C} {f : Nat → Option Nat} {j : Int32} (k : Nat) (he : ws[q0]? = some (a, .inl (gC g t, n, .inr (.inr (.inr (.inr f)))))) (ht : (gT g)[t]? = some (gC g t, .object r.1)) (hv : ws[qk]? = some (v, .inr (ci, vs))) (hc : vCl[ci]? = some r) (hb : inb j n = true) (hk : j.toNatClampNeg = k) (hs : ws.set q0 (a, .inl (gC g t, n, .inr (.inr (.inr (.inr (va_up f k (some v))))))) = ws2) (hd : decode cc pc = .ok (.aastore, 1)) (kk : Sl g l x Q nL c s (pc + 1) lv stk ws2) : Sl g l x Q nL c s pc lv (.ref v :: .int j :: .ref a :: stk) ws := by
  intro H locs ls hP hD hS hL
  subst hs hk
  exact va_astq ok.1 ok.2.1 ok.2.2.2.2.2.2.2.2.1.1 hP hD hS q0 t qk ci he ht hv hc (inb_in hb) hd (fun H1 locs1 hP1 hD1 hS1 => kk H1 locs1 ls hP1 hD1 hS1 hL)
theorem l_aastO (ok : Ok g l x own cc nL ret rm) (q0 t qk ci : Nat) {a n v : Nat} {vs : List Value} {E : String} {r : vw_C} {f : Nat → Option Nat} {j : Int32} (k : Nat) (he : ws[q0]? = some (a, .inl (gC g t, n, .inr (.inr (.inr (.inr f)))))) (ht : (gT g)[t]? = some (gC g t, .object E)) (hca : va_Nw (.castable r.1 E) (cxS x)) (hv : ws[qk]? = some (v, .inr (ci, vs))) (hc : vCl[ci]? = some r) (hb : inb j n = true) (hk : j.toNatClampNeg = k) (hs : ws.set q0 (a, .inl (gC g t, n, .inr (.inr (.inr (.inr (va_up f k (some v))))))) = ws2) (hd : decode cc pc = .ok (.aastore, 1)) (kk : Sl g l x Q nL c s (pc + 1) lv stk ws2) : Sl g l x Q nL c s pc lv (.ref v :: .int j :: .ref a :: stk) ws := by
  intro H locs ls hP hD hS hL
  subst hs hk
  exact va_astqO ok.1 ok.2.1 ok.2.2.2.2.2.2.2.2.1.1 hP hD hS q0 t qk ci he ht hca hv hc (inb_in hb) hd (fun H1 locs1 hP1 hD1 hS1 => kk H1 locs1 ls hP1 hD1 hS1 hL)
theorem wcl_arrI : Cond.arrayClass .int ∈ wsU := wu_t (tm1 (List.mem_of_getElem? (i := 46) (by decide +kernel))) rfl
theorem l_newa (ok : Ok g l x own cc nL ret rm) {n : Int32} (N : Nat) (hn : ¬ n < 0) (hN : n.toNatClampNeg = N) (hN2 : N ≤ 100000) (hc1 : c + 1 ≤ rm.cells) (hs1 : s + N ≤ rm.slots) (hd : decode cc pc = .ok (.newarray .int, 2)) (kk : ∀ q : Nat, Sl g l x Q nL (c + 1) (s + N) (pc + 2) lv (.ref q :: stk) (ws ++ [(q, .inl (gC g 0, N, .inl (fun _ => 0)))])) : Sl g l x Q nL c s pc lv (.int n :: stk) ws := by
  intro H locs ls hP hD hS hL
  obtain ⟨o1, o2, o3, o4, o5, o6, o7, o8, o9, o10⟩ := id ok
  refine va_newa o1 o2 (atype := .int) (o5 _ wcl_arrI) rfl o9.1 hP hD hS (fun a h => Nat.le_trans o10 h) (a0 := (N, .inl (fun _ => 0))) (fun _ => rfl) hn hN (by show N * 4 ≤ 536870912; omega) (by rw [o8]; exact hc1) (by rw [o8]; exact hs1) hd (fun a cA H1 hK1 hP1 hD1 hS1 => ?_)
  have hcA : cA = gC g 0 := by
    have h1 := (hK1.2 5 (cA, .int) rfl).2
    have h2 := (hK1.2 0 (gC g 0, .int) rfl).2
    exact Option.some.inj (h1.symm.trans h2)
  subst hcA
  exact kk a H1 locs ls hP1 hD1 hS1 hL
theorem l_newq (ok : Ok g l x own cc nL ret rm) {n : Int32} {C : String} {idx : Nat} (t N : Nat) (hn : ¬ n < 0) (hN : n.toNatClampNeg = N) (hN2 : N ≤ 100000) (ht : (gT g)[t]? = some (gC g t, .object C)) (hao : va_AO C (cxS x)) (hcl : Cond.classLink own idx C ∈ wsU) (hc1 : c + 1 ≤ rm.cells) (hs1 : s + N ≤ rm.slots) (hd : decode cc pc = .ok (.anewarray idx, 3)) (kk : ∀ q : Nat, Sl g l x Q nL (c + 1) (s + N) (pc + 3) lv (.ref q :: stk) (ws ++ [(q, .inl (gC g t, N, .inr (.inr (.inr (.inr (fun _ => none))))))])) : Sl g l x Q nL c s pc lv (.int n :: stk) ws := by
  intro H locs ls hP hD hS hL
  obtain ⟨o1, o2, o3, o4, o5, o6, o7, o8, o9, o10⟩ := id ok
  refine va_newq o1 o2 o4 (o5 _ hcl) hao o9.1 hP hD hS (fun a h => Nat.le_trans o10 h) hn hN (by omega) (by rw [o8]; exact hc1) (by rw [o8]; exact hs1) hd (fun a cA H1 hK1 hP1 hD1 hS1 => ?_)
  have hcA : cA = gC g t := by
    obtain ⟨-, k1, cm1, -, -, -, e1⟩ := hK1.2 5 (cA, .object C) rfl
    obtain ⟨-, k2, cm2, -, -, -, e2⟩ := o9.1.2 t (gC g t, .object C) ht
    exact Option.some.inj (e1.symm.trans e2)
  subst hcA
  exact kk a H1 locs ls hP1 hD1 hS1 hL
theorem l_new (ok : Ok g l x own cc nL ret rm) {C : String} {T : u_T} {N ci idx : Nat} {fs : List Value} (ty : Nat → FieldType) (hty : ∀ k, k < N → parseFieldDescriptor (T k).2.2.1 = some (ty k)) (hin : ∀ w ∈ u_ws C T N, w ∈ wsU) (hc : vCl[ci]? = some (C, T, N)) (hcl : Cond.classLink own idx C ∈ wsU) (hit : Cond.instantiable C N ∈ wsU) (hini : Cond.initialized C ∈ wsU) (hfs : ∀ j, j < N → defaultValue (ty j) = vp_V fs j) (hc1 : c + 1 ≤ rm.cells) (hs1 : s + N ≤ rm.slots) (hd : decode cc pc = .ok (.new idx, 3)) (kk : ∀ q : Nat, Sl g l x Q nL (c + 1) (s + N) (pc + 3) lv (.ref q :: stk) (ws ++ [(q, .inr (ci, fs))])) : Sl g l x Q nL c s pc lv stk ws := by
  intro H locs ls hP hD hS hL
  obtain ⟨o1, o2, o3, o4, o5, o6, o7, o8, o9, o10⟩ := id ok
  exact va_new o1 o2 o5 hin ty hty o4 (o5 _ hcl) (o5 _ hit) (o5 _ hini) o9.1 hP hD hS (fun a h => Nat.le_trans o10 h) hc hfs (by rw [o8]; exact hc1) (by rw [o8]; exact hs1) hd (fun a H1 hP1 hD1 hS1 => kk a H1 locs ls hP1 hD1 hS1 hL)
theorem l_put (ok : Ok g l x own cc nL ret rm) (q0 : Nat) {C : String} {T : u_T} {N ci idx a : Nat} {fs : List Value} {v : Value} {ty : FieldType} (k : Nat) (ty0 : Nat → FieldType) (hty : ∀ k, k < N → parseFieldDescriptor (T k).2.2.1 = some (ty0 k)) (hnm : ∀ a, a < N → ∀ b, b < N → a ≠ b → (T a).2.1 ≠ (T b).2.1) (hin : ∀ w ∈ u_ws C T N, w ∈ wsU) (hc : vCl[ci]? = some (C, T, N)) (hk : k < N) (he : ws[q0]? = some (a, .inr (ci, fs))) (hw : Cond.fieldLink own idx (T k).1 (T k).2.1 (T k).2.2.1 ∈ wsU) (hfin : (T k).2.2.2 = false) (hd0 : parseFieldDescriptor (T k).2.2.1 = some ty) (hn : narrow ty v = v ∧ fits ty v = true) (hlen : k < fs.length) (hs : ws.set q0 (a, .inr (ci, fs.set k v)) = ws2) (hd : decode cc pc = .ok (.putfield idx, 3)) (kk : Sl g l x Q nL c s (pc + 3) lv stk ws2) : Sl g l x Q nL c s pc lv (v :: .ref a :: stk) ws := by
  intro H locs ls hP hD hS hL
  subst hs
  obtain ⟨o1, o2, o3, o4, o5, o6, o7, o8, o9, o10⟩ := id ok
  exact va_put o1 o2 o5 hin ty0 hty hnm o4 o9.1 hP hD hS q0 he hc k hk (o5 _ hw) (fun _ h => h) hfin hd0 hn.1 hn.2 hlen hd (fun H1 locs1 hP1 hD1 hS1 => kk H1 locs1 ls hP1 hD1 hS1 hL)
theorem l_putF (ok : Ok g l x own cc nL ret rm) (hini : (cxMe x).name = "<init>") (q0 : Nat) {T : u_T} {N ci idx a : Nat} {fs : List Value} {v : Value} {ty : FieldType} (k : Nat) (ty0 : Nat → FieldType) (hty : ∀ k, k < N → parseFieldDescriptor (T k).2.2.1 = some (ty0 k)) (hnm : ∀ a, a < N → ∀ b, b < N → a ≠ b → (T a).2.1 ≠ (T b).2.1) (hin : ∀ w ∈ u_ws own T N, w ∈ wsU) (hc : vCl[ci]? = some (own, T, N)) (hk : k < N) (he : ws[q0]? = some (a, .inr (ci, fs))) (hw : Cond.fieldLink own idx (T k).1 (T k).2.1 (T k).2.2.1 ∈ wsU) (hfin : (T k).2.2.2 = true) (hdecl : (T k).1 = own) (hd0 : parseFieldDescriptor (T k).2.2.1 = some ty) (hn : narrow ty v = v ∧ fits ty v = true) (hlen : k < fs.length) (hs : ws.set q0 (a, .inr (ci, fs.set k v)) = ws2) (hd : decode cc pc = .ok (.putfield idx, 3)) (kk : Sl g l x Q nL c s (pc + 3) lv stk ws2) : Sl g l x Q nL c s pc lv (v :: .ref a :: stk) ws := by
  intro H locs ls hP hD hS hL
  subst hs
  obtain ⟨o1, o2, o3, o4, o5, o6, o7, o8, o9, o10⟩ := id ok
  exact va_putF o1 o2 o5 hin ty0 hty hnm o4 o9.1 hP hD hS q0 he hc k hk (o5 _ hw) (fun _ h => h) hfin hini hdecl hd0 hn.1 hn.2 hlen hd (fun H1 locs1 hP1 hD1 hS1 => kk H1 locs1 ls hP1 hD1 hS1 hL)
theorem l_get (ok : Ok g l x own cc nL ret rm) (q0 : Nat) {C : String} {T : u_T} {N ci idx a : Nat} {fs : List Value} {v : Value} (k : Nat) (hin : ∀ w ∈ u_ws C T N, w ∈ wsU) (hc : vCl[ci]? = some (C, T, N)) (hk : k < N) (he : ws[q0]? = some (a, .inr (ci, fs))) (hw : Cond.fieldLink own idx (T k).1 (T k).2.1 (T k).2.2.1 ∈ wsU) (hv : fs[k]? = some v) (hd : decode cc pc = .ok (.getfield idx, 3)) (kk : Sl g l x Q nL c s (pc + 3) lv (v :: stk) ws) : Sl g l x Q nL c s pc lv (.ref a :: stk) ws := by
  intro H locs ls hP hD hS hL
  obtain ⟨o1, o2, o3, o4, o5, o6, o7, o8, o9, o10⟩ := id ok
  exact va_get o1 o2 o5 hin o4 o9.1 hP q0 he hc k hk (o5 _ hw) (fun _ h => h) hv hd (kk H locs ls hP hD hS hL)
theorem wim_obj : Cond.instanceMethod Lib.objectInit ∈ wsU := wu_t (tm1 (List.mem_of_getElem? (i := 27) (by decide +kernel))) rfl
theorem wcd_obj : Cond.code Lib.objectInit ⟨#[0xb1]⟩ 1 none ∈ wsU := wu_t (tm1 (List.mem_of_getElem? (i := 28) rfl)) rfl
theorem l_obj (ok : Ok g l x own cc nL ret rm) {idx a : Nat} (hw : Cond.methodLink own idx Lib.objectInit ∈ wsU) (hr : 1 ≤ rm.frames ∧ 20 ≤ rm.locals) (hst : (stk.map fun v => v.category).sum ≤ 8) (hd : decode cc pc = .ok (.invokespecial idx, 3)) (kk : Sl g l x Q nL c s (pc + 3) lv stk ws) : Sl g l x Q nL c s pc lv (.ref a :: stk) ws := by
  intro H locs ls hP hD hS hL
  obtain ⟨o1, o2, o3, o4, o5, o6, o7, o8, o9, o10⟩ := id ok
  refine W.objInit o1 o2 o4 (o5 _ hw) (o5 _ wim_obj) (o5 _ wcd_obj) rfl (by rw [o3]; exact hL.1) rfl hd (by rw [o8]; exact hr.1) (by rw [o8]; show 2 * 0 + _ + 12 ≤ _; have := hr.2; omega) ?_
  exact kk H locs ls hP hD hS hL
end LR
/-- the world ahead of a constructor, and behind it -/
def PpL (g : GP) (av : List Value) (ws : va_W) : Array Value → State → Prop := va_Pc av (fun U => (va_P (gD g) vCl ws U.heap ∧ va_D (gU g) ws) ∧ EnvU g U ∧ gB g ≤ U.heap.size ∧ EnvA U)
def QpL (g : GP) (R : va_W → Prop) : Array Value → State → Outcome → State → Prop := fun _ st oc t => (oc = .returned none ∧ ∃ ws, R ws ∧ va_P (gD g) vCl ws t.heap ∧ va_D (gU g) ws) ∧ va_F (gU g) st t
def ConL (g : GP) (l : Launch) (y : MethodName) (bytes : ByteArray) (maxL : Nat) (rm : Room) (av : List Value) (ws : va_W) (R : va_W → Prop) : Prop :=
  Met l y (Cond.code y bytes maxL none :: wsU) rm (PpL g av ws) (QpL g R) rm.cells rm.slots (gU g)
theorem aoa_moved {u U : State} (hvm : u.vm.Alike U.vm) (h : (Cond.arrayOver (.array .int)).before #[] u = true) : (Cond.arrayOver (.array .int)).before #[] U = true := arrayOver_alikeB hvm h
theorem EnvA.warm {s U : State} (hW : s.WarmedH U.vm) (h : EnvA s) : EnvA U := by
  obtain ⟨h1, h2, h3, h4, h5⟩ := h
  exact ⟨h1.moved hW.alike, h2.moved hW.alike, h3.moved hW.alike, aoa_moved hW.alike h4, fun C hC => (h5 C hC).warmC hW⟩
theorem EnvA.same {u U : State} (hv : U.vm = u.vm) (h : EnvA u) : EnvA U := by
  obtain ⟨h1, h2, h3, h4, h5⟩ := h
  have ha : u.vm.Alike U.vm := by rw [hv]; exact Vm.Alike.refl _
  exact ⟨h1.moved ha, h2.moved ha, h3.moved ha, aoa_moved ha h4, fun C hC => va_Nw.same rfl hv.symm (h5 C hC)⟩
theorem PpL_blind {g : GP} {av : List Value} {ws : va_W} : FrameBlind (PpL g av ws) := fun a U fr mk h => ⟨h.1, h.2.1, EnvU.same (u := U) (U := U.calling fr mk a) rfl rfl h.2.2.1, h.2.2.2.1, EnvA.same (u := U) (U := U.calling fr mk a) rfl h.2.2.2.2⟩
def FinL (g : GP) (x : CT) (R : va_W → Prop) : State → Prop := MQ (cxB x) (QpL g R) (cxA x) (cxS x) (cxR x).cells (cxR x).slots (gU g)
theorem ConL.of {g : GP} {l : Launch} {y : MethodName} {own : String} {bytes : ByteArray} {maxL : Nat} {rm : Room} {av : List Value} {ws : va_W} {R : va_W → Prop}
    (hy : plainName y.cls = true) (hyn : y.name = "<init>") (hL : (lg_sl av).length ≤ maxL) (hown : y.cls = own) (body : ∀ x : CT, Ok g l x own bytes maxL none rm → EnvA (cxS x) → (cxMe x).name = "<init>" → Sl g l x (FinL g x R) maxL 0 0 0 (lv_args 0 av) [] ws) : ConL g l y bytes maxL rm av ws R := by
  refine Met.ofW (cc := bytes) (maxL := maxL) (ret := none) hy rfl ?_
  intro p e s m args below meth c s₁ B hml hv
  obtain ⟨rfl, ⟨hP, hD⟩, hE, hsz, hEA⟩ := hv
  have hts := atoms_spec (ws := Cond.code y bytes maxL none :: wsU) B.pre
  have ho : s.vm.findClass own = some m.cls := by rw [← hown]; exact findClass_of_methodNamed B.named
  have hin : meth.name = "<init>" := (name_of_methodNamed B.named B.method).1.trans hyn
  have hl := lv_entry av (n := maxL) hL
  rw [lg_entry_eq]
  exact body (p, e, rm, s, m, av.toArray, below, meth, c) ⟨B.exec, B.bytes, hml, ho, fun w hw => hts w (List.mem_cons_of_mem _ hw), B.returns, B.notSynchronized, rfl, hE, hsz⟩ hEA hin s.heap [] _ hP hD va_S.rf hl
section LR2
variable {Q : State → Prop} {g : GP} {l : Launch} {x : CT} {own : String} {cc : ByteArray} {nL c s pc : Nat} {ret : Option FieldType} {rm : Room} {lv : List (Nat × Value)} {stk : List Value} {ws ws2 : va_W}
theorem l_vret {R : va_W → Prop} (ok : Ok g l x own cc nL none rm) (hc : c ≤ rm.cells) (hs : s ≤ rm.slots) (hR : R ws) (hd : decode cc pc = .ok (.return_, 1)) : Sl g l x (FinL g x R) nL c s pc lv [] ws := by
  intro H locs ls hP hD hS hL
  obtain ⟨h1, h2, h3, h4, h5, h6, h7, h8, h9, h10⟩ := ok
  refine W.widen (k := (cxR x).cells) (n := (cxR x).slots) (by rw [h8]; exact hc) (by rw [h8]; exact hs) ?_
  exact W.vret h1 h2 h6 (fun t ht _ => ⟨⟨rfl, ws, hR, by rw [ht]; exact hP, hD⟩, hS.F ht⟩) hS.2.2 hd h7
theorem l_end {R : va_W → Prop} {rmc : Room} {a : Array Value} {rest : List Value} {H : Heap} {locs : List Loc} {ls : Array Slot} (hS : va_S (gU g) (cxS x).heap H locs) (hL : lv_has ls nL lv)
    (run : va_Run (cxP x) l (cxE x) (cxR x) (cxS x) (cxM x) (cxA x) (cxB x) (cxMe x) (cxC x) H locs c s rmc.cells rmc.slots (F0 (cxM x) pc ls stk) rest (QpL g R a) (gU g)) (kk : ∀ ws2, R ws2 → Sl g l x Q nL (c + rmc.cells) (s + rmc.slots) (pc + 3) lv rest ws2) : Wx l x H locs c s Q (F0 (cxM x) pc ls stk) := by
  intro T hT X
  obtain ⟨v, st₀, t, T', L, h0, X', hLf, e1, e2, ⟨⟨hv, ws2, hR, hP, hD⟩, hz, hk⟩, st⟩ := run T hT X
  cases hv
  rw [h0] at hz hk
  obtain ⟨t2, a1, b1⟩ := kk ws2 hR T'.heap (locs ++ L) ls (by rw [e1]; exact hP) hD ⟨Nat.le_trans hS.1 (by rw [e1]; exact hz), fun q h1 h2 => by rw [e1, hk q (Nat.lt_of_lt_of_le h1 hS.1) h2]; exact hS.2.1 q h1 h2, fun q hq => by
      rcases List.mem_append.mp hq with h | h
      · exact hS.2.2 q h
      · exact hLf q h⟩ hL T' rfl X'
  exact ⟨t2, st t2 a1, b1⟩
def CI0 (own : String) (idx : Nat) (y : MethodName) (bytes : ByteArray) (maxL n : Nat) : Prop := Cond.methodLink own idx y ∈ wsU ∧ Cond.instanceMethod y ∈ wsU ∧ Cond.initialized y.cls ∈ wsU ∧ Cond.code y bytes maxL none ∈ wsU ∧ y.name = "<init>" ∧ nMH y n
def CIN (own : String) (idx : Nat) (y : MethodName) (bytes : ByteArray) (maxL n : Nat) : Prop := (∃ host, Cond.methodLinkNest own idx y host ∈ nsU) ∧ Cond.instanceMethod y ∈ wsU ∧ Cond.initialized y.cls ∈ wsU ∧ Cond.code y bytes maxL none ∈ wsU ∧ y.name = "<init>" ∧ nMH y n
theorem l_callI {R : va_W → Prop} {y : MethodName} {bytes : ByteArray} {maxL n idx a : Nat} (ok : Ok g l x own cc nL ret rm) (hEA : EnvA (cxS x)) (As rest : List Value) (rmc : Room) (hM : ConL g l y bytes maxL rmc (.ref a :: As) ws R) (cs : CI0 own idx y bytes maxL n) (hrm : rmOk c s rmc rm maxL) (hd : decode cc pc = .ok (.invokespecial idx, 3)) (hn : As.length = n) (hst : stk = As.reverse ++ .ref a :: rest) (hsum : (rest.map fun v => v.category).sum ≤ 8)
    (kk : ∀ ws2, R ws2 → Sl g l x Q nL (c + rmc.cells) (s + rmc.slots) (pc + 3) lv rest ws2) : Sl g l x Q nL c s pc lv stk ws := by
  intro H locs ls hP hD hS hL
  obtain ⟨o1, o2, o3, o4, o5, o6, o7, o8, o9, o10⟩ := id ok
  obtain ⟨c1, c2, c3, c4, c5, c6⟩ := cs
  refine l_end hS hL (va_runI ⟨o1, o2, o3, o4, o5⟩ hM ⟨callB_of n o5 (code_good c4 rfl) rfl rfl rfl (o5 _ c3) (o5 _ c1) c6 (by rw [o8]; exact ⟨hrm.1, hrm.2.1⟩), c5, o5 _ c2⟩ ⟨PpL_blind, fun U hU hWm => ⟨rfl, ⟨by rw [hU]; exact hP, hD⟩, o9.go hWm hS hU, by rw [hU]; exact Nat.le_trans o10 hS.1, hEA.warm hWm⟩⟩ rfl hn hL.1 hst (lv_room hsum) hd (by rw [o8]; exact ⟨hrm.2.2.1, hrm.2.2.2⟩)) kk
theorem l_callIN {R : va_W → Prop} {y : MethodName} {bytes : ByteArray} {maxL n idx a : Nat} (ok : Ok g l x own cc nL ret rm) (hEA : EnvA (cxS x)) (As rest : List Value) (rmc : Room) (hM : ConL g l y bytes maxL rmc (.ref a :: As) ws R) (cs : CIN own idx y bytes maxL n) (hrm : rmOk c s rmc rm maxL) (hd : decode cc pc = .ok (.invokespecial idx, 3)) (hn : As.length = n) (hst : stk = As.reverse ++ .ref a :: rest) (hsum : (rest.map fun v => v.category).sum ≤ 8)
    (kk : ∀ ws2, R ws2 → Sl g l x Q nL (c + rmc.cells) (s + rmc.slots) (pc + 3) lv rest ws2) : Sl g l x Q nL c s pc lv stk ws := by
  intro H locs ls hP hD hS hL
  obtain ⟨o1, o2, o3, o4, o5, o6, o7, o8, o9, o10⟩ := id ok
  obtain ⟨⟨host, c1⟩, c2, c3, c4, c5, c6⟩ := cs
  refine l_end hS hL (va_runIN (host := host) ⟨o1, o2, o3, o4, o5⟩ hM ⟨va_cnB n o5 (code_good c4 rfl) rfl rfl rfl (o9.2.1 _ c1) (o5 _ c3) c6 (by rw [o8]; exact ⟨hrm.1, hrm.2.1⟩), c5, o5 _ c2⟩ ⟨PpL_blind, fun U hU hWm => ⟨rfl, ⟨by rw [hU]; exact hP, hD⟩, o9.go hWm hS hU, by rw [hU]; exact Nat.le_trans o10 hS.1, hEA.warm hWm⟩⟩ rfl hn hL.1 hst (lv_room hsum) hd (by rw [o8]; exact ⟨hrm.2.2.1, hrm.2.2.2⟩)) kk
theorem wcc_mna : Cond.classLink RX5 15 ("[" ++ (FieldType.array .int).toString) ∈ wsU := by
  rw [show "[" ++ (FieldType.array .int).toString = "[[I" by decide +kernel]
  exact wcc_X5_15
theorem l_mna (ok : Ok g l x RX5 cc nL ret rm) (hEA : EnvA (cxS x)) (hc1 : c + 5 ≤ rm.cells) (hs1 : s + 28 ≤ rm.slots) (hd : decode cc pc = .ok (.multianewarray 15 2, 4))
    (kk : ∀ q r0 r1 r2 r3 : Nat, Sl g l x Q nL (c + 5) (s + 28) (pc + 4) lv (.ref q :: stk) (ws ++ [(q, .inl (gC g 4, 4, .inr (.inr (.inr (.inr (fun i => if i < 4 then some ([r0, r1, r2, r3].getD i 0) else none)))))), (r0, .inl (gC g 0, 6, .inl (fun _ => 0))), (r1, .inl (gC g 0, 6, .inl (fun _ => 0))), (r2, .inl (gC g 0, 6, .inl (fun _ => 0))), (r3, .inl (gC g 0, 6, .inl (fun _ => 0)))])) : Sl g l x Q nL c s pc lv (.int 6 :: .int 4 :: stk) ws := by
  intro H locs ls hP hD hS hL
  obtain ⟨o1, o2, o3, o4, o5, o6, o7, o8, o9, o10⟩ := id ok
  have hnm : (cxS x).vm.findClass (FieldType.array .int).toString = some (gC g 0) := (o9.1.2 0 (gC g 0, .int) rfl).2
  have hP0 : va_P (gD g) vCl (ws ++ va_pl [] (fun _ => .inl (0, (0, .inl (fun _ => 0))))) H := by rw [show va_pl [] (fun _ => (.inl (0, (0, .inl (fun _ => 0))) : va_E)) = [] from rfl, List.append_nil]; exact hP
  have hD0 : va_D (gU g) (ws ++ va_pl [] (fun _ => .inl (0, (0, .inl (fun _ => 0))))) := by rw [show va_pl [] (fun _ => (.inl (0, (0, .inl (fun _ => 0))) : va_E)) = [] from rfl, List.append_nil]; exact hD
  refine va_mna (ty := .int) (cy := gC g 0) (N' := 4) (K' := 6) (z := (6, .inl (fun _ => 0))) o1 o2 o4 (o5 _ wcc_mna) hEA.2.2.2.1 (o5 _ wcl_arrI) hnm o9.1 hP0 hD0 hS (fun a h => Nat.le_trans o10 h) (by decide) (by decide) (by decide) (by decide) (by decide) (by decide) (by decide) rfl rfl (by rw [o8]; exact hc1) (by rw [o8]; exact hs1) (fun c => (by rw [vp_cell_i, ← arrV_new]; rfl)) hd (fun q r cA H1 _ _ hK1 hP1 hD1 hS1 => ?_)
  have hcA : cA = gC g 4 := by
    have h1 := (hK1.2 5 (cA, .array .int) rfl).2
    have h2 := (o9.1.2 4 (gC g 4, .array .int) rfl).2
    exact Option.some.inj (h1.symm.trans h2)
  subst hcA
  have e : ∀ f : Nat → va_E, va_pl ([] ++ (List.range 4).map r) (vr_up f ((List.range 4).map r) (.inl (gC g 0, (6, .inl (fun _ => 0))))) = [(r 0, .inl (gC g 0, 6, .inl (fun _ => 0))), (r 1, .inl (gC g 0, 6, .inl (fun _ => 0))), (r 2, .inl (gC g 0, 6, .inl (fun _ => 0))), (r 3, .inl (gC g 0, 6, .inl (fun _ => 0)))] := by
    intro f
    simp [va_pl, vr_up, List.range, List.range.loop]
  have ef : (fun i => if i < 4 then some (r i) else none) = (fun i => if i < 4 then some ([r 0, r 1, r 2, r 3].getD i 0) else none) := by
    funext i
    match i with
    | 0 => rfl
    | 1 => rfl
    | 2 => rfl
    | 3 => rfl
    | i + 4 => rw [if_neg (by omega), if_neg (by omega)]
  rw [e, List.append_assoc, ef] at hP1 hD1
  exact kk q (r 0) (r 1) (r 2) (r 3) H1 locs ls hP1 hD1 hS1 hL
end LR2
