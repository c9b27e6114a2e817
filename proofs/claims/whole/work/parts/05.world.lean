/-! THE WORLD: all cells of the class and of the reference as one memory M kind index slot; the kinds are numbered (wip/gen/KINDS.md) -/
abbrev Mem : Type := Nat → Nat → Nat → Int32
def mrow (M : Mem) (K i : Nat) (f : Nat → Int32) : Mem := fun K' i' => if K' = K ∧ i' = i then f else M K' i'
def mst (M : Mem) (K i s : Nat) (v : Int32) : Mem := mrow M K i (upd (M K i) s v)
theorem mrow_s {M : Mem} {K i : Nat} {f : Nat → Int32} : mrow M K i f K i = f := by simp [mrow]
theorem mrow_n {M : Mem} {K i K' i' : Nat} {f : Nat → Int32} (h : ¬ (K' = K ∧ i' = i)) : mrow M K i f K' i' = M K' i' := by simp [mrow, h]
abbrev GP : Type := va_G × (Nat → ClassId) × (Nat → Nat → Nat) × Nat × Nat × Nat × Nat
def gD (g : GP) : va_G := g.1
def gC (g : GP) : Nat → ClassId := g.2.1
def gA (g : GP) : Nat → Nat → Nat := g.2.2.1
def gB (g : GP) : Nat := g.2.2.2.1
def gK (g : GP) : Nat := g.2.2.2.2.1
def gV (g : GP) : Nat := g.2.2.2.2.2.1
def gF (g : GP) : Nat := g.2.2.2.2.2.2
def gFv (g : GP) : Value := match gF g with
  | 0 => .null
  | n + 1 => .ref n
theorem gFv_is (g : GP) : gFv g = .null ∨ ∃ a, gFv g = .ref a := by
  unfold gFv
  split
  · exact Or.inl rfl
  · exact Or.inr ⟨_, rfl⟩
abbrev vCl : List vw_C := [(RX0, TX0, 0), (RX1, TX1, 0), (RX2, TX2, 0), (RX3, TX3, 0), (RX4, TX4, 9), (RX5, TX5, 11), (RX6, TX6, 3), (RX7, TX7, 0), (RX8, TX8, 3), (RX9, TX9, 0), (RX10, TX10, 9), (RX11, TX11, 36)]
def gT (g : GP) : List (ClassId × FieldType) := [(gC g 0, .int), (gC g 1, .object RX8), (gC g 2, .object RX3), (gC g 3, .object RX6), (gC g 4, .array .int)]
def gU (g : GP) : Nat → Prop := fun a => gB g ≤ a
def nIx (K : Nat) : Nat := match K with
  | 8 => 6 | 9 => 6 | 10 => 6 | 11 => 6 | 12 => 6
  | 13 => 4 | 14 => 4
  | 15 => 3 | 16 => 3 | 17 => 3 | 19 => 3 | 20 => 3 | 21 => 3
  | 18 => 12
  | _ => 1
def aLen (K : Nat) : Nat := match K with
  | 2 => 160 | 3 => 160 | 4 => 3 | 9 => 31 | 10 => 4 | 14 => 40 | 16 => 36 | 18 => 6 | 19 => 6 | 20 => 36 | 21 => 36
  | 23 => 6 | 24 => 6 | 25 => 6 | 26 => 6 | 27 => 36 | 28 => 160 | 29 => 1200 | 30 => 24 | 31 => 48 | 32 => 3 | 33 => 4 | 34 => 4
  | 35 => 160 | 36 => 37 | 37 => 96 | 38 => 200 | 39 => 200 | 40 => 6 | 41 => 37 | 42 => 36 | 43 => 36
  | _ => 0
def pCls (i : Nat) : Nat := match i with
  | 0 => 3 | 1 => 0 | 2 => 2 | 3 => 9 | 4 => 7 | _ => 1
def rfA (cA : ClassId) (n : Nat) (f : Nat → Nat) : va_E := .inl (cA, n, .inr (.inr (.inr (.inr (fun j => some (f j))))))
def cellK (g : GP) (q : Nat → Nat) (K i : Nat) (M : Mem) : va_E := match K with
  | 0 => .inr (10, [.ref (gA g 1 0), .ref (gA g 5 0), .ref (gA g 6 0), .ref (gA g 7 0), .ref (gA g 15 0), .ref (gA g 15 1), .ref (gA g 15 2), .int (M 0 i 7), .int (M 0 i 8)])
  | 1 => .inr (4, [.ref (gA g 2 0), .ref (gA g 3 0), .ref (gA g 4 0), .int (M 1 i 3), .int (M 1 i 4), .int (M 1 i 5), .int (M 1 i 6), .int (M 1 i 7), .int (M 1 i 8)])
  | 5 => rfA (gC g 1) 6 (fun j => gA g 8 j)
  | 6 => rfA (gC g 2) 6 (fun j => gA g 12 j)
  | 7 => rfA (gC g 3) 4 (fun j => gA g 13 j)
  | 8 => .inr (8, [.ref (gA g 9 i), .ref (gA g 10 i), .ref (q i)])
  | 11 => .inl (gC g 0, (M 8 i 0).toNatClampNeg, .inl (M 11 i))
  | 12 => .inr (pCls i, [])
  | 13 => .inr (6, [.ref (gA g 14 i), .int (M 13 i 1), .int (M 13 i 2)])
  | 15 => .inr (5, [.ref (gA g 5 0), .ref (gA g 6 0), .ref (gA g 16 i), .ref (gA g 17 i), .ref (gA g 19 i), .ref (gA g 20 i), .ref (gA g 21 i), .int (M 15 i 7), .int (M 15 i 8), .int (M 15 i 9), .int (M 15 i 10)])
  | 17 => rfA (gC g 4) 4 (fun j => gA g 18 (4 * i + j))
  | 22 => .inr (11, [.int (M 22 i 0), .ref (gA g 23 0), .ref (gA g 24 0), .ref (gA g 25 0), .ref (gA g 26 0), .ref (gA g 27 0), .int (M 22 i 6), .ref (gA g 28 0), .int (M 22 i 8), .ref (gA g 29 0), .ref (gA g 30 0), .int (M 22 i 11), .int (M 22 i 12), .int (M 22 i 13), .ref (gA g 31 0), .ref (gA g 32 0), .ref (gA g 33 0), .ref (gA g 34 0), .ref (gA g 35 0), .ref (gA g 36 0), .int (M 22 i 20), .int (M 22 i 21), .int (M 22 i 22), .int (M 22 i 23), .ref (gA g 37 0), .ref (gA g 38 0), .int (M 22 i 26), .int (M 22 i 27), .int (M 22 i 28), .ref (gA g 39 0), .ref (gA g 40 0), .ref (gA g 41 0), .ref (gA g 42 0), .ref (gA g 43 0), .int (M 22 i 34), .int (M 22 i 35)])
  | K => .inl (gC g 0, aLen K, .inl (M K i))
def adr (g : GP) (q : Nat → Nat) (K i : Nat) : Nat := if K = 11 then q i else gA g K i
def kdL : List (Nat × Nat) := (List.range 44).flatMap fun K => (List.range (nIx K)).map fun i => (K, i)
def pos (K i : Nat) : Nat := ((List.range K).map nIx).sum + i
theorem pos_at : ∀ K, K < 44 → ∀ i, i < nIx K → kdL[pos K i]? = some (K, i) := by decide +kernel
theorem pos_un : ∀ j, j < kdL.length → pos (kdL.getD j (0, 0)).1 (kdL.getD j (0, 0)).2 = j := by decide +kernel
theorem kdL_ok : ∀ p ∈ kdL, p.1 < 44 ∧ p.2 < nIx p.1 := by decide +kernel
def wl (g : GP) (q : Nat → Nat) (M : Mem) : va_W := kdL.map fun p => (adr g q p.1 p.2, cellK g q p.1 p.2 M)
theorem wl_at {g : GP} {q : Nat → Nat} {M : Mem} {K i : Nat} (hK : K < 44) (hi : i < nIx K) : (wl g q M)[pos K i]? = some (adr g q K i, cellK g q K i M) := by
  simp [wl, List.getElem?_map, pos_at K hK i hi]
theorem wl_atn {g : GP} {q : Nat → Nat} {M : Mem} {K i : Nat} (hK : K < 44) (hi : i < nIx K) (h11 : K ≠ 11) : (wl g q M)[pos K i]? = some (gA g K i, cellK g q K i M) := by
  rw [wl_at hK hi, adr, if_neg h11]
theorem wl_set {g : GP} {q : Nat → Nat} {M M' : Mem} {K i : Nat} (hK : K < 44) (hi : i < nIx K) (ho : ∀ K' i', K' < 44 → i' < nIx K' → ¬ (K' = K ∧ i' = i) → cellK g q K' i' M' = cellK g q K' i' M) :
    (wl g q M).set (pos K i) (adr g q K i, cellK g q K i M') = wl g q M' := by
  apply List.ext_getElem?
  intro j
  rw [List.getElem?_set]
  by_cases hj : pos K i = j
  · subst hj
    have hl : pos K i < (wl g q M).length := (List.getElem?_eq_some_iff.mp (wl_at (g := g) (q := q) (M := M) hK hi)).1
    rw [if_pos rfl, if_pos hl, wl_at hK hi]
  · rw [if_neg hj]
    simp only [wl, List.getElem?_map]
    cases h : kdL[j]? with
    | none => rfl
    | some p =>
      have hm := kdL_ok p (List.mem_of_getElem? h)
      have hlt := (List.getElem?_eq_some_iff.mp h).1
      have hp : kdL.getD j (0, 0) = p := by simp [List.getD_eq_getElem?_getD, h]
      have hu := pos_un j hlt
      rw [hp] at hu
      have hne : ¬ (p.1 = K ∧ p.2 = i) := fun e => hj (by rw [← e.1, ← e.2]; exact hu)
      simp only [Option.map_some]
      rw [ho p.1 p.2 hm.1 hm.2 hne]
theorem cellK_eq {g : GP} {q : Nat → Nat} {M M' : Mem} {K i : Nat} (h : M' K i = M K i) (h2 : K = 11 → M' 8 i = M 8 i) : cellK g q K i M' = cellK g q K i M := by
  unfold cellK
  split <;> simp_all
theorem wl_row {g : GP} {q : Nat → Nat} {M : Mem} {K i : Nat} {f : Nat → Int32} (hK : K < 44) (hi : i < nIx K) (h8 : K ≠ 8) (h11 : K ≠ 11) :
    (wl g q M).set (pos K i) (gA g K i, cellK g q K i (mrow M K i f)) = wl g q (mrow M K i f) := by
  have h := wl_set (g := g) (q := q) (M := M) (M' := mrow M K i f) hK hi (fun K' i' _ _ hn => cellK_eq (mrow_n hn) (fun _ => mrow_n (fun e => h8 e.1.symm)))
  rw [adr, if_neg h11] at h
  exact h
/-- an int array kind, of n places -/
def IK (K n : Nat) : Prop := K < 44 ∧ K ≠ 8 ∧ K ≠ 11 ∧ ∀ (g : GP) (q : Nat → Nat) (i : Nat) (M : Mem), cellK g q K i M = .inl (gC g 0, n, .inl (M K i))
/-- an int field of a kind of objects -/
def FI (K slot ci : Nat) : Prop := K < 44 ∧ K ≠ 8 ∧ K ≠ 11 ∧ ∀ (g : GP) (q : Nat → Nat) (i : Nat) (M : Mem), ∃ fs : List Value, cellK g q K i M = .inr (ci, fs) ∧ fs[slot]? = some (.int (M K i slot)) ∧ slot < fs.length ∧ ∀ v : Int32, cellK g q K i (mst M K i slot v) = .inr (ci, fs.set slot (.int v))
/-- a reference field -/
def FR (K slot ci K' : Nat) (e : Nat → Nat) : Prop := K < 44 ∧ K ≠ 11 ∧ ∀ (g : GP) (q : Nat → Nat) (i : Nat) (M : Mem), ∃ fs : List Value, cellK g q K i M = .inr (ci, fs) ∧ fs[slot]? = some (.ref (gA g K' (e i)))
/-- an array of references -/
def RK (K n t K' : Nat) (e : Nat → Nat → Nat) : Prop := K < 44 ∧ K ≠ 11 ∧ ∀ (g : GP) (q : Nat → Nat) (i : Nat) (M : Mem), cellK g q K i M = rfA (gC g t) n (fun j => gA g K' (e i j))
/-- an object of a class -/
def OK (K i : Nat) (C : String) : Prop := K < 44 ∧ K ≠ 11 ∧ i < nIx K ∧ ∃ (ci : Nat) (qc : vw_C), vCl[ci]? = some qc ∧ qc.1 = C ∧ ∀ (g : GP) (q : Nat → Nat) (M : Mem), ∃ fs : List Value, cellK g q K i M = .inr (ci, fs)
def wdT : String := "leaves wears feels or and not column row thick day held more "
def wdB : List Int32 := [108, 101, 97, 118, 101, 115, 32, 119, 101, 97, 114, 115, 32, 102, 101, 101, 108, 115, 32, 111, 114, 32, 97, 110, 100, 32, 110, 111, 116, 32, 99, 111, 108, 117, 109, 110, 32, 114, 111, 119, 32, 116, 104, 105, 99, 107, 32, 100, 97, 121, 32, 104, 101, 108, 100, 32, 109, 111, 114, 101, 32]
def EnvU (g : GP) (U : State) : Prop := va_K (gD g) vCl (gT g) U ∧ (∀ w ∈ nsU, va_Nw w U) ∧ vk_R RX4 84 wdT (gK g) U ∧ vk_S 1 [61] [wdB] (fun _ => gK g) (fun _ => gV g) (gU g) U U.heap ∧ va_Z "java/lang/String" "COMPACT_STRINGS" "Z" (.int 1) (gU g) U U.heap ∧ va_Z "jdk/internal/util/Preconditions" "SIOOBE_FORMATTER" "Ljava/util/function/BiFunction;" (gFv g) (gU g) U U.heap
theorem isNest_warm {w : Cond} {s U : State} (hW : s.WarmedH U.vm) (hn : isNest w = true) (h : va_Nw w s) : va_Nw w U := by
  cases w <;> first | (exact va_Nw.warmM hW h) | (exact va_Nw.warmF hW h) | (simp [isNest] at hn)
theorem EnvU.go {g : GP} {s U : State} {H : Heap} {locs : List Loc} (h : EnvU g s) (hW : s.WarmedH U.vm) (hS : va_S (gU g) s.heap H locs) (hU : U.heap = H) : EnvU g U := by
  obtain ⟨h1, h2, h3, h4, h5, h6⟩ := h
  subst hU
  exact ⟨va_K.moved hW.alike h1, fun w hw => isNest_warm hW (List.mem_filter.mp hw).2 (h2 w hw), vk_R.warm hW h3, (h4.moved hW.alike).kept hS.2.1, (h5.moved hW.alike).kept hS.2.1, (h6.moved hW.alike).kept hS.2.1⟩
theorem EnvU.same {g : GP} {u U : State} (hv : U.vm = u.vm) (hh : U.heap = u.heap) (h : EnvU g u) : EnvU g U := by
  obtain ⟨h1, h2, h3, h4, h5, h6⟩ := h
  have ha : u.vm.Alike U.vm := by rw [hv]; exact Vm.Alike.refl _
  refine ⟨va_K.moved ha h1, fun w hw => ?_, vk_R.same hv h3, by rw [hh]; exact h4.moved ha, by rw [hh]; exact h5.moved ha, by rw [hh]; exact h6.moved ha⟩
  have hn := (List.mem_filter.mp hw).2
  have h0 := h2 w hw
  cases w <;> first | (exact va_Nw.same rfl hv.symm h0) | (simp [isNest] at hn)
def WdH (g : GP) (M : Mem) (H : Heap) : Prop := ∃ q : Nat → Nat, va_P (gD g) vCl (wl g q M) H ∧ va_D (gU g) (wl g q M)
def Qp (g : GP) (v : Option Value) (M' : Mem) : Array Value → State → Outcome → State → Prop := fun _ st oc t => (oc = .returned v ∧ WdH g M' t.heap) ∧ va_F (gU g) st t
def Pp (g : GP) (av : List Value) (M : Mem) : Array Value → State → Prop := va_Pc av (fun U => WdH g M U.heap ∧ EnvU g U ∧ gB g ≤ U.heap.size)
def Con (g : GP) (l : Launch) (y : MethodName) (bytes : ByteArray) (maxL : Nat) (ret : Option FieldType) (rm : Room) (av : List Value) (M : Mem) (v : Option Value) (M' : Mem) : Prop :=
  Met l y (Cond.code y bytes maxL ret :: wsU) rm (Pp g av M) (Qp g v M') rm.cells rm.slots (gU g)
def rmL (n : Nat) : Room := { frames := n, cells := 0, slots := 0, locals := 64 * n }
abbrev CT : Type := Program × Env × Room × State × MethodId × Array Value × List Frame × Method × Code
def cxP (x : CT) : Program := x.1
def cxE (x : CT) : Env := x.2.1
def cxR (x : CT) : Room := x.2.2.1
def cxS (x : CT) : State := x.2.2.2.1
def cxM (x : CT) : MethodId := x.2.2.2.2.1
def cxA (x : CT) : Array Value := x.2.2.2.2.2.1
def cxB (x : CT) : List Frame := x.2.2.2.2.2.2.1
def cxMe (x : CT) : Method := x.2.2.2.2.2.2.2.1
def cxC (x : CT) : Code := x.2.2.2.2.2.2.2.2
def Wx (l : Launch) (x : CT) (H : Heap) (locs : List Loc) (c s : Nat) (Q : State → Prop) (f : JFrame) : Prop := W (cxP x) l (cxE x) (cxR x) (cxS x) (cxM x) (cxA x) (cxB x) (cxMe x) (cxC x) H locs c s Q f
def Ok (g : GP) (l : Launch) (x : CT) (own : String) (cc : ByteArray) (nL : Nat) (ret : Option FieldType) (rm : Room) : Prop :=
  (cxP x).tables.exec = Jvm.exec ∧ (cxC x).code = cc ∧ (cxC x).maxLocals = nL ∧ (cxS x).vm.findClass own = some (cxM x).cls ∧ (∀ w ∈ wsU, w.before (cxA x) (cxS x) = true) ∧ (cxMe x).sig.returnType = ret ∧ (cxMe x).locks = false ∧ cxR x = rm ∧ EnvU g (cxS x) ∧ gB g ≤ (cxS x).heap.size
def FinQ {α : Type} (g : GP) (x : CT) (enc : α → Option Value) (res : α × Mem) : State → Prop := MQ (cxB x) (Qp g (enc res.1) res.2) (cxA x) (cxS x) (cxR x).cells (cxR x).slots (gU g)
def Sw {α : Type} (g : GP) (l : Launch) (x : CT) (Q : α × Mem → State → Prop) (nL c s pc : Nat) (lv : List (Nat × Value)) (stk : List Value) (M : Mem) (f : Option (α × Mem)) : Prop :=
  ∀ res, f = some res → ∀ (H : Heap) (locs : List Loc) (ls : Array Slot), WdH g M H → va_S (gU g) (cxS x).heap H locs → lv_has ls nL lv → Wx l x H locs c s (Q res) (F0 (cxM x) pc ls stk)
def ob {α β : Type} (a : Option (α × Mem)) (F : α → Mem → Option β) : Option β := match a with
  | none => none
  | some p => F p.1 p.2
def lt {α β : Type} (a : α) (F : α → Option β) : Option β := F a
def gd {β : Type} (b : Bool) (f : Option β) : Option β := match b with
  | true => f
  | false => none
def inb (i : Int32) (n : Nat) : Bool := decide (0 ≤ i) && decide (i.toNatClampNeg < n)
theorem inb_in {i : Int32} {n : Nat} (h : inb i n = true) : vp_in i n := by
  simp only [inb, Bool.and_eq_true, decide_eq_true_eq] at h
  intro q
  rcases q with q | q
  · exact Int32.not_lt.mpr h.1 q
  · omega
theorem inb_lt {i : Int32} {n : Nat} (h : inb i n = true) : i.toNatClampNeg < n := by
  simp only [inb, Bool.and_eq_true, decide_eq_true_eq] at h
  exact h.2
theorem Con.of {α : Type} {enc : α → Option Value} {g : GP} {l : Launch} {y : MethodName} {own : String} {bytes : ByteArray} {maxL : Nat} {ret : Option FieldType} {rm : Room} {av : List Value} {M : Mem} {f : Option (α × Mem)}
    (hy : plainName y.cls = true) (hL : (lg_sl av).length ≤ maxL) (hown : y.cls = own) (body : ∀ x : CT, Ok g l x own bytes maxL ret rm → Sw g l x (FinQ g x enc) maxL 0 0 0 (lv_args 0 av) [] M f) (r : α) (M' : Mem) (hf : f = some (r, M')) : Con g l y bytes maxL ret rm av M (enc r) M' := by
  refine Met.ofW (cc := bytes) (maxL := maxL) (ret := ret) hy rfl ?_
  intro p e s m args below meth c s₁ B hml hv
  obtain ⟨rfl, hWd, hE, hsz⟩ := hv
  have hts := atoms_spec (ws := Cond.code y bytes maxL ret :: wsU) B.pre
  have ho : s.vm.findClass own = some m.cls := by rw [← hown]; exact findClass_of_methodNamed B.named
  have hl := lv_entry av (n := maxL) hL
  rw [lg_entry_eq]
  exact body (p, e, rm, s, m, av.toArray, below, meth, c) ⟨B.exec, B.bytes, hml, ho, fun w hw => hts w (List.mem_cons_of_mem _ hw), B.returns, B.notSynchronized, rfl, hE, hsz⟩ (r, M') hf s.heap [] _ hWd va_S.rf hl
