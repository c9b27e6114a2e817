/-! ROWS: one an instruction, over the simulation Sw (by program: wip/gen/rows.py) -/
section RW
variable {α : Type} {Q : α × Mem → State → Prop} {g : GP} {l : Launch} {x : CT} {own : String} {cc : ByteArray} {nL c s pc : Nat} {ret : Option FieldType} {rm : Room} {lv : List (Nat × Value)} {stk : List Value} {M : Mem} {f : Option (α × Mem)}
theorem r_iconst (ok : Ok g l x own cc nL ret rm) {n : Int} (v : Int32) (hd : decode cc pc = .ok (.iconst n, 1)) (hv : Int32.ofInt n = v) (kk : Sw g l x Q nL c s (pc + 1) lv (.int v :: stk) M f) : Sw g l x Q nL c s pc lv stk M f :=
  fun res hr H locs ls hW hS hL => lv_iconst ok.1 ok.2.1 hd hv (kk res hr H locs ls hW hS hL)
theorem r_bipush (ok : Ok g l x own cc nL ret rm) {n : Int} (v : Int32) (hd : decode cc pc = .ok (.bipush n, 2)) (hv : (Int8.ofInt n).toInt32 = v) (kk : Sw g l x Q nL c s (pc + 2) lv (.int v :: stk) M f) : Sw g l x Q nL c s pc lv stk M f :=
  fun res hr H locs ls hW hS hL => lv_bipush ok.1 ok.2.1 hd hv (kk res hr H locs ls hW hS hL)
theorem r_sipush (ok : Ok g l x own cc nL ret rm) {n : Int} (v : Int32) (hd : decode cc pc = .ok (.sipush n, 3)) (hv : (Int16.ofInt n).toInt32 = v) (kk : Sw g l x Q nL c s (pc + 3) lv (.int v :: stk) M f) : Sw g l x Q nL c s pc lv stk M f :=
  fun res hr H locs ls hW hS hL => lv_sipush ok.1 ok.2.1 hd hv (kk res hr H locs ls hW hS hL)
theorem r_lconst (ok : Ok g l x own cc nL ret rm) {n : Fin 2} (v : Int64) (hd : decode cc pc = .ok (.lconst n, 1)) (hv : Int64.ofNat (n : Nat) = v) (kk : Sw g l x Q nL c s (pc + 1) lv (.long v :: stk) M f) : Sw g l x Q nL c s pc lv stk M f :=
  fun res hr H locs ls hW hS hL => lv_lconst ok.1 ok.2.1 hd hv (kk res hr H locs ls hW hS hL)
theorem r_ldc (ok : Ok g l x own cc nL ret rm) {idx : Nat} {v : Int32} (hw : Cond.constant own idx v ∈ wsU) (hd : decode cc pc = .ok (.ldc idx, 2)) (kk : Sw g l x Q nL c s (pc + 2) lv (.int v :: stk) M f) : Sw g l x Q nL c s pc lv stk M f :=
  fun res hr H locs ls hW hS hL => lv_ldc ok.1 ok.2.1 ok.2.2.2.1 (ok.2.2.2.2.1 _ hw) hd (kk res hr H locs ls hW hS hL)
theorem r_ldcw (ok : Ok g l x own cc nL ret rm) {idx : Nat} {v : Int32} (hw : Cond.constant own idx v ∈ wsU) (hd : decode cc pc = .ok (.ldc_w idx, 3)) (kk : Sw g l x Q nL c s (pc + 3) lv (.int v :: stk) M f) : Sw g l x Q nL c s pc lv stk M f :=
  fun res hr H locs ls hW hS hL => lv_ldcw ok.1 ok.2.1 ok.2.2.2.1 (ok.2.2.2.2.1 _ hw) hd (kk res hr H locs ls hW hS hL)
theorem r_ldc2 (ok : Ok g l x own cc nL ret rm) {idx : Nat} {v : Int64} (hw : Cond.constantLong own idx v ∈ wsU) (hd : decode cc pc = .ok (.ldc2_w idx, 3)) (kk : Sw g l x Q nL c s (pc + 3) lv (.long v :: stk) M f) : Sw g l x Q nL c s pc lv stk M f :=
  fun res hr H locs ls hW hS hL => lv_ldc2 ok.1 ok.2.1 ok.2.2.2.1 (ok.2.2.2.2.1 _ hw) hd (kk res hr H locs ls hW hS hL)
theorem r_iload_n (ok : Ok g l x own cc nL ret rm) {k : Fin 4} (j : Nat) {v : Int32} (hd : decode cc pc = .ok (.iload_n k, 1)) (hl : lv[j]? = some ((k : Nat), .int v)) (kk : Sw g l x Q nL c s (pc + 1) lv (.int v :: stk) M f) : Sw g l x Q nL c s pc lv stk M f :=
  fun res hr H locs ls hW hS hL => lv_iload_n ok.1 ok.2.1 hd rfl (lv_at hL j hl) (kk res hr H locs ls hW hS hL)
theorem r_iload (ok : Ok g l x own cc nL ret rm) {k : Nat} (j : Nat) {v : Int32} (hd : decode cc pc = .ok (.iload k, 2)) (hl : lv[j]? = some (k, .int v)) (kk : Sw g l x Q nL c s (pc + 2) lv (.int v :: stk) M f) : Sw g l x Q nL c s pc lv stk M f :=
  fun res hr H locs ls hW hS hL => lv_iload ok.1 ok.2.1 hd (lv_at hL j hl) (kk res hr H locs ls hW hS hL)
theorem r_lload_n (ok : Ok g l x own cc nL ret rm) {k : Fin 4} (j : Nat) {v : Int64} (hd : decode cc pc = .ok (.lload_n k, 1)) (hl : lv[j]? = some ((k : Nat), .long v)) (kk : Sw g l x Q nL c s (pc + 1) lv (.long v :: stk) M f) : Sw g l x Q nL c s pc lv stk M f :=
  fun res hr H locs ls hW hS hL => lv_lload_n ok.1 ok.2.1 hd rfl (lv_at hL j hl) (kk res hr H locs ls hW hS hL)
theorem r_lload (ok : Ok g l x own cc nL ret rm) {k : Nat} (j : Nat) {v : Int64} (hd : decode cc pc = .ok (.lload k, 2)) (hl : lv[j]? = some (k, .long v)) (kk : Sw g l x Q nL c s (pc + 2) lv (.long v :: stk) M f) : Sw g l x Q nL c s pc lv stk M f :=
  fun res hr H locs ls hW hS hL => lv_lload ok.1 ok.2.1 hd (lv_at hL j hl) (kk res hr H locs ls hW hS hL)
theorem r_aload_n (ok : Ok g l x own cc nL ret rm) {k : Fin 4} (j : Nat) {v : Nat} (hd : decode cc pc = .ok (.aload_n k, 1)) (hl : lv[j]? = some ((k : Nat), .ref v)) (kk : Sw g l x Q nL c s (pc + 1) lv (.ref v :: stk) M f) : Sw g l x Q nL c s pc lv stk M f :=
  fun res hr H locs ls hW hS hL => lv_aload_n ok.1 ok.2.1 hd rfl (lv_at hL j hl) (kk res hr H locs ls hW hS hL)
theorem r_aload (ok : Ok g l x own cc nL ret rm) {k : Nat} (j : Nat) {v : Nat} (hd : decode cc pc = .ok (.aload k, 2)) (hl : lv[j]? = some (k, .ref v)) (kk : Sw g l x Q nL c s (pc + 2) lv (.ref v :: stk) M f) : Sw g l x Q nL c s pc lv stk M f :=
  fun res hr H locs ls hW hS hL => lv_aload ok.1 ok.2.1 hd (lv_at hL j hl) (kk res hr H locs ls hW hS hL)
theorem r_istore_n (ok : Ok g l x own cc nL ret rm) {k : Fin 4} {i : Nat} (lv2 : List (Nat × Value)) {v : Int32} (hd : decode cc pc = .ok (.istore_n k, 1)) (hi : (k : Nat) = i) (hn : i < nL) (hl : (i, Value.int v) :: lv.filter (fun q => !(q.1 == i) && !(q.1 + 1 == i && q.2.category == 2)) = lv2) (kk : Sw g l x Q nL c s (pc + 1) lv2 stk M f) : Sw g l x Q nL c s pc lv (.int v :: stk) M f :=
  fun res hr H locs ls hW hS hL => lv_istore_n ok.1 ok.2.1 hd hi hL hn hl (fun ls2 hL2 => kk res hr H locs ls2 hW hS hL2)
theorem r_istore (ok : Ok g l x own cc nL ret rm) {i : Nat} (lv2 : List (Nat × Value)) {v : Int32} (hd : decode cc pc = .ok (.istore i, 2)) (hn : i < nL) (hl : (i, Value.int v) :: lv.filter (fun q => !(q.1 == i) && !(q.1 + 1 == i && q.2.category == 2)) = lv2) (kk : Sw g l x Q nL c s (pc + 2) lv2 stk M f) : Sw g l x Q nL c s pc lv (.int v :: stk) M f :=
  fun res hr H locs ls hW hS hL => lv_istore ok.1 ok.2.1 hd hL hn hl (fun ls2 hL2 => kk res hr H locs ls2 hW hS hL2)
theorem r_lstore_n (ok : Ok g l x own cc nL ret rm) {k : Fin 4} {i : Nat} (lv2 : List (Nat × Value)) {v : Int64} (hd : decode cc pc = .ok (.lstore_n k, 1)) (hi : (k : Nat) = i) (hn : i + 1 < nL) (hl : (i, Value.long v) :: lv.filter (fun q => !(q.1 == i) && (!(q.1 == i + 1) && !(q.1 + 1 == i && q.2.category == 2))) = lv2) (kk : Sw g l x Q nL c s (pc + 1) lv2 stk M f) : Sw g l x Q nL c s pc lv (.long v :: stk) M f :=
  fun res hr H locs ls hW hS hL => lv_lstore_n ok.1 ok.2.1 hd hi hL hn hl (fun ls2 hL2 => kk res hr H locs ls2 hW hS hL2)
theorem r_lstore (ok : Ok g l x own cc nL ret rm) {i : Nat} (lv2 : List (Nat × Value)) {v : Int64} (hd : decode cc pc = .ok (.lstore i, 2)) (hn : i + 1 < nL) (hl : (i, Value.long v) :: lv.filter (fun q => !(q.1 == i) && (!(q.1 == i + 1) && !(q.1 + 1 == i && q.2.category == 2))) = lv2) (kk : Sw g l x Q nL c s (pc + 2) lv2 stk M f) : Sw g l x Q nL c s pc lv (.long v :: stk) M f :=
  fun res hr H locs ls hW hS hL => lv_lstore ok.1 ok.2.1 hd hL hn hl (fun ls2 hL2 => kk res hr H locs ls2 hW hS hL2)
theorem r_astore_n (ok : Ok g l x own cc nL ret rm) {k : Fin 4} {i : Nat} (lv2 : List (Nat × Value)) {v : Nat} (hd : decode cc pc = .ok (.astore_n k, 1)) (hi : (k : Nat) = i) (hn : i < nL) (hl : (i, Value.ref v) :: lv.filter (fun q => !(q.1 == i) && !(q.1 + 1 == i && q.2.category == 2)) = lv2) (kk : Sw g l x Q nL c s (pc + 1) lv2 stk M f) : Sw g l x Q nL c s pc lv (.ref v :: stk) M f :=
  fun res hr H locs ls hW hS hL => lv_astore_n ok.1 ok.2.1 hd hi hL hn hl (fun ls2 hL2 => kk res hr H locs ls2 hW hS hL2)
theorem r_astore (ok : Ok g l x own cc nL ret rm) {i : Nat} (lv2 : List (Nat × Value)) {v : Nat} (hd : decode cc pc = .ok (.astore i, 2)) (hn : i < nL) (hl : (i, Value.ref v) :: lv.filter (fun q => !(q.1 == i) && !(q.1 + 1 == i && q.2.category == 2)) = lv2) (kk : Sw g l x Q nL c s (pc + 2) lv2 stk M f) : Sw g l x Q nL c s pc lv (.ref v :: stk) M f :=
  fun res hr H locs ls hW hS hL => lv_astore ok.1 ok.2.1 hd hL hn hl (fun ls2 hL2 => kk res hr H locs ls2 hW hS hL2)
theorem r_iinc (ok : Ok g l x own cc nL ret rm) {i : Nat} {n : Int} {v : Int32} (k : Nat) (w : Int32) (lv2 : List (Nat × Value)) (hd : decode cc pc = .ok (.iinc i n, 3)) (hk : lv[k]? = some (i, .int v)) (hv : v + Int32.ofInt n = w) (hn : i < nL) (hl : (i, Value.int w) :: lv.filter (fun q => !(q.1 == i) && !(q.1 + 1 == i && q.2.category == 2)) = lv2) (kk : Sw g l x Q nL c s (pc + 3) lv2 stk M f) : Sw g l x Q nL c s pc lv stk M f :=
  fun res hr H locs ls hW hS hL => lv_iinc ok.1 ok.2.1 hd hL hk hv hn hl (fun ls2 hL2 => kk res hr H locs ls2 hW hS hL2)
theorem r_lv (ks : List Nat) (lv2 : List (Nat × Value)) (hl : lv_pick lv ks = lv2) (kk : Sw g l x Q nL c s pc lv2 stk M f) : Sw g l x Q nL c s pc lv stk M f :=
  fun res hr H locs ls hW hS hL => kk res hr H locs ls hW hS (lv_sub hL ks hl)
theorem r_iadd (ok : Ok g l x own cc nL ret rm) {a b : Int32} (hd : decode cc pc = .ok (.iadd, 1)) (kk : Sw g l x Q nL c s (pc + 1) lv (.int (a + b) :: stk) M f) : Sw g l x Q nL c s pc lv (.int b :: .int a :: stk) M f :=
  fun res hr H locs ls hW hS hL => lv_iadd ok.1 ok.2.1 hd (kk res hr H locs ls hW hS hL)
theorem r_isub (ok : Ok g l x own cc nL ret rm) {a b : Int32} (hd : decode cc pc = .ok (.isub, 1)) (kk : Sw g l x Q nL c s (pc + 1) lv (.int (a - b) :: stk) M f) : Sw g l x Q nL c s pc lv (.int b :: .int a :: stk) M f :=
  fun res hr H locs ls hW hS hL => lv_isub ok.1 ok.2.1 hd (kk res hr H locs ls hW hS hL)
theorem r_imul (ok : Ok g l x own cc nL ret rm) {a b : Int32} (hd : decode cc pc = .ok (.imul, 1)) (kk : Sw g l x Q nL c s (pc + 1) lv (.int (a * b) :: stk) M f) : Sw g l x Q nL c s pc lv (.int b :: .int a :: stk) M f :=
  fun res hr H locs ls hW hS hL => lv_imul ok.1 ok.2.1 hd (kk res hr H locs ls hW hS hL)
theorem r_iand (ok : Ok g l x own cc nL ret rm) {a b : Int32} (hd : decode cc pc = .ok (.iand, 1)) (kk : Sw g l x Q nL c s (pc + 1) lv (.int (a &&& b) :: stk) M f) : Sw g l x Q nL c s pc lv (.int b :: .int a :: stk) M f :=
  fun res hr H locs ls hW hS hL => lv_iand ok.1 ok.2.1 hd (kk res hr H locs ls hW hS hL)
theorem r_ior (ok : Ok g l x own cc nL ret rm) {a b : Int32} (hd : decode cc pc = .ok (.ior, 1)) (kk : Sw g l x Q nL c s (pc + 1) lv (.int (a ||| b) :: stk) M f) : Sw g l x Q nL c s pc lv (.int b :: .int a :: stk) M f :=
  fun res hr H locs ls hW hS hL => lv_ior ok.1 ok.2.1 hd (kk res hr H locs ls hW hS hL)
theorem r_ixor (ok : Ok g l x own cc nL ret rm) {a b : Int32} (hd : decode cc pc = .ok (.ixor, 1)) (kk : Sw g l x Q nL c s (pc + 1) lv (.int (a ^^^ b) :: stk) M f) : Sw g l x Q nL c s pc lv (.int b :: .int a :: stk) M f :=
  fun res hr H locs ls hW hS hL => lv_ixor ok.1 ok.2.1 hd (kk res hr H locs ls hW hS hL)
theorem r_ishl (ok : Ok g l x own cc nL ret rm) {a b : Int32} (hd : decode cc pc = .ok (.ishl, 1)) (kk : Sw g l x Q nL c s (pc + 1) lv (.int (a <<< (b &&& 31)) :: stk) M f) : Sw g l x Q nL c s pc lv (.int b :: .int a :: stk) M f :=
  fun res hr H locs ls hW hS hL => lv_ishl ok.1 ok.2.1 hd (kk res hr H locs ls hW hS hL)
theorem r_ishr (ok : Ok g l x own cc nL ret rm) {a b : Int32} (hd : decode cc pc = .ok (.ishr, 1)) (kk : Sw g l x Q nL c s (pc + 1) lv (.int (a >>> (b &&& 31)) :: stk) M f) : Sw g l x Q nL c s pc lv (.int b :: .int a :: stk) M f :=
  fun res hr H locs ls hW hS hL => lv_ishr ok.1 ok.2.1 hd (kk res hr H locs ls hW hS hL)
theorem r_ladd (ok : Ok g l x own cc nL ret rm) {a b : Int64} (hd : decode cc pc = .ok (.ladd, 1)) (kk : Sw g l x Q nL c s (pc + 1) lv (.long (a + b) :: stk) M f) : Sw g l x Q nL c s pc lv (.long b :: .long a :: stk) M f :=
  fun res hr H locs ls hW hS hL => lv_ladd ok.1 ok.2.1 hd (kk res hr H locs ls hW hS hL)
theorem r_lsub (ok : Ok g l x own cc nL ret rm) {a b : Int64} (hd : decode cc pc = .ok (.lsub, 1)) (kk : Sw g l x Q nL c s (pc + 1) lv (.long (a - b) :: stk) M f) : Sw g l x Q nL c s pc lv (.long b :: .long a :: stk) M f :=
  fun res hr H locs ls hW hS hL => lv_lsub ok.1 ok.2.1 hd (kk res hr H locs ls hW hS hL)
theorem r_lmul (ok : Ok g l x own cc nL ret rm) {a b : Int64} (hd : decode cc pc = .ok (.lmul, 1)) (kk : Sw g l x Q nL c s (pc + 1) lv (.long (a * b) :: stk) M f) : Sw g l x Q nL c s pc lv (.long b :: .long a :: stk) M f :=
  fun res hr H locs ls hW hS hL => lv_lmul ok.1 ok.2.1 hd (kk res hr H locs ls hW hS hL)
theorem r_land (ok : Ok g l x own cc nL ret rm) {a b : Int64} (hd : decode cc pc = .ok (.land, 1)) (kk : Sw g l x Q nL c s (pc + 1) lv (.long (a &&& b) :: stk) M f) : Sw g l x Q nL c s pc lv (.long b :: .long a :: stk) M f :=
  fun res hr H locs ls hW hS hL => lv_land ok.1 ok.2.1 hd (kk res hr H locs ls hW hS hL)
theorem r_lor (ok : Ok g l x own cc nL ret rm) {a b : Int64} (hd : decode cc pc = .ok (.lor, 1)) (kk : Sw g l x Q nL c s (pc + 1) lv (.long (a ||| b) :: stk) M f) : Sw g l x Q nL c s pc lv (.long b :: .long a :: stk) M f :=
  fun res hr H locs ls hW hS hL => lv_lor ok.1 ok.2.1 hd (kk res hr H locs ls hW hS hL)
theorem r_lxor (ok : Ok g l x own cc nL ret rm) {a b : Int64} (hd : decode cc pc = .ok (.lxor, 1)) (kk : Sw g l x Q nL c s (pc + 1) lv (.long (a ^^^ b) :: stk) M f) : Sw g l x Q nL c s pc lv (.long b :: .long a :: stk) M f :=
  fun res hr H locs ls hW hS hL => lv_lxor ok.1 ok.2.1 hd (kk res hr H locs ls hW hS hL)
def irem (a b : Int32) : Int32 := a - a / b * b
def lrem (a b : Int64) : Int64 := a - a / b * b
def nz (b : Int32) : Bool := decide (¬ b = 0)
def nzL (b : Int64) : Bool := decide (¬ b = 0)
theorem nz_of {b : Int32} (h : nz b = true) : ¬ b = 0 := by simpa [nz] using h
theorem nzL_of {b : Int64} (h : nzL b = true) : ¬ b = 0 := by simpa [nzL] using h
theorem r_idivc (ok : Ok g l x own cc nL ret rm) {a b : Int32} (hz : nz b = true) (hd : decode cc pc = .ok (.idiv, 1)) (kk : Sw g l x Q nL c s (pc + 1) lv (.int (a / b) :: stk) M f) : Sw g l x Q nL c s pc lv (.int b :: .int a :: stk) M f :=
  fun res hr H locs ls hW hS hL => lv_idiv ok.1 ok.2.1 hd (nz_of hz) (kk res hr H locs ls hW hS hL)
theorem r_idiv (ok : Ok g l x own cc nL ret rm) {a b : Int32} (hd : decode cc pc = .ok (.idiv, 1)) (kk : Sw g l x Q nL c s (pc + 1) lv (.int (a / b) :: stk) M f) : Sw g l x Q nL c s pc lv (.int b :: .int a :: stk) M (gd (nz b) f) := by
  intro res hr H locs ls hW hS hL
  cases hz : nz b with
  | false => rw [hz] at hr; cases hr
  | true => exact lv_idiv ok.1 ok.2.1 hd (nz_of hz) (kk res (by rw [hz] at hr; exact hr) H locs ls hW hS hL)
theorem r_iremc (ok : Ok g l x own cc nL ret rm) {a b : Int32} (hz : nz b = true) (hd : decode cc pc = .ok (.irem, 1)) (kk : Sw g l x Q nL c s (pc + 1) lv (.int (irem a b) :: stk) M f) : Sw g l x Q nL c s pc lv (.int b :: .int a :: stk) M f :=
  fun res hr H locs ls hW hS hL => lv_irem ok.1 ok.2.1 hd (nz_of hz) (kk res hr H locs ls hW hS hL)
theorem r_irem (ok : Ok g l x own cc nL ret rm) {a b : Int32} (hd : decode cc pc = .ok (.irem, 1)) (kk : Sw g l x Q nL c s (pc + 1) lv (.int (irem a b) :: stk) M f) : Sw g l x Q nL c s pc lv (.int b :: .int a :: stk) M (gd (nz b) f) := by
  intro res hr H locs ls hW hS hL
  cases hz : nz b with
  | false => rw [hz] at hr; cases hr
  | true => exact lv_irem ok.1 ok.2.1 hd (nz_of hz) (kk res (by rw [hz] at hr; exact hr) H locs ls hW hS hL)
theorem r_ldivc (ok : Ok g l x own cc nL ret rm) {a b : Int64} (hz : nzL b = true) (hd : decode cc pc = .ok (.ldiv, 1)) (kk : Sw g l x Q nL c s (pc + 1) lv (.long (a / b) :: stk) M f) : Sw g l x Q nL c s pc lv (.long b :: .long a :: stk) M f :=
  fun res hr H locs ls hW hS hL => lv_ldiv ok.1 ok.2.1 hd (nzL_of hz) (kk res hr H locs ls hW hS hL)
theorem r_ldiv (ok : Ok g l x own cc nL ret rm) {a b : Int64} (hd : decode cc pc = .ok (.ldiv, 1)) (kk : Sw g l x Q nL c s (pc + 1) lv (.long (a / b) :: stk) M f) : Sw g l x Q nL c s pc lv (.long b :: .long a :: stk) M (gd (nzL b) f) := by
  intro res hr H locs ls hW hS hL
  cases hz : nzL b with
  | false => rw [hz] at hr; cases hr
  | true => exact lv_ldiv ok.1 ok.2.1 hd (nzL_of hz) (kk res (by rw [hz] at hr; exact hr) H locs ls hW hS hL)
theorem r_lremc (ok : Ok g l x own cc nL ret rm) {a b : Int64} (hz : nzL b = true) (hd : decode cc pc = .ok (.lrem, 1)) (kk : Sw g l x Q nL c s (pc + 1) lv (.long (lrem a b) :: stk) M f) : Sw g l x Q nL c s pc lv (.long b :: .long a :: stk) M f :=
  fun res hr H locs ls hW hS hL => lv_lrem ok.1 ok.2.1 hd (nzL_of hz) (kk res hr H locs ls hW hS hL)
theorem r_lrem (ok : Ok g l x own cc nL ret rm) {a b : Int64} (hd : decode cc pc = .ok (.lrem, 1)) (kk : Sw g l x Q nL c s (pc + 1) lv (.long (lrem a b) :: stk) M f) : Sw g l x Q nL c s pc lv (.long b :: .long a :: stk) M (gd (nzL b) f) := by
  intro res hr H locs ls hW hS hL
  cases hz : nzL b with
  | false => rw [hz] at hr; cases hr
  | true => exact lv_lrem ok.1 ok.2.1 hd (nzL_of hz) (kk res (by rw [hz] at hr; exact hr) H locs ls hW hS hL)
theorem r_ineg (ok : Ok g l x own cc nL ret rm) {a : Int32} (hd : decode cc pc = .ok (.ineg, 1)) (kk : Sw g l x Q nL c s (pc + 1) lv (.int (-a) :: stk) M f) : Sw g l x Q nL c s pc lv (.int a :: stk) M f :=
  fun res hr H locs ls hW hS hL => lv_ineg ok.1 ok.2.1 hd (kk res hr H locs ls hW hS hL)
theorem r_i2l (ok : Ok g l x own cc nL ret rm) {a : Int32} (hd : decode cc pc = .ok (.i2l, 1)) (kk : Sw g l x Q nL c s (pc + 1) lv (.long (a.toInt64) :: stk) M f) : Sw g l x Q nL c s pc lv (.int a :: stk) M f :=
  fun res hr H locs ls hW hS hL => lv_i2l ok.1 ok.2.1 hd rfl (kk res hr H locs ls hW hS hL)
theorem r_l2i (ok : Ok g l x own cc nL ret rm) {a : Int64} (hd : decode cc pc = .ok (.l2i, 1)) (kk : Sw g l x Q nL c s (pc + 1) lv (.int (a.toInt32) :: stk) M f) : Sw g l x Q nL c s pc lv (.long a :: stk) M f :=
  fun res hr H locs ls hW hS hL => lv_l2i ok.1 ok.2.1 hd rfl (kk res hr H locs ls hW hS hL)
theorem r_i2b (ok : Ok g l x own cc nL ret rm) {a : Int32} (hd : decode cc pc = .ok (.i2b, 1)) (kk : Sw g l x Q nL c s (pc + 1) lv (.int (a.toInt8.toInt32) :: stk) M f) : Sw g l x Q nL c s pc lv (.int a :: stk) M f :=
  fun res hr H locs ls hW hS hL => lv_i2b ok.1 ok.2.1 hd rfl (kk res hr H locs ls hW hS hL)
theorem r_i2s (ok : Ok g l x own cc nL ret rm) {a : Int32} (hd : decode cc pc = .ok (.i2s, 1)) (kk : Sw g l x Q nL c s (pc + 1) lv (.int (a.toInt16.toInt32) :: stk) M f) : Sw g l x Q nL c s pc lv (.int a :: stk) M f :=
  fun res hr H locs ls hW hS hL => lv_i2s ok.1 ok.2.1 hd rfl (kk res hr H locs ls hW hS hL)
def lushr (a : Int64) (b : Int32) : Int64 := (a.toUInt64 >>> (b.toInt64.toUInt64 &&& Int64.toUInt64 63)).toInt64
def lshl (a : Int64) (b : Int32) : Int64 := a <<< (b.toInt64 &&& 63)
def lshr (a : Int64) (b : Int32) : Int64 := a >>> (b.toInt64 &&& 63)
theorem r_lushr (ok : Ok g l x own cc nL ret rm) {a : Int64} {b : Int32} (hd : decode cc pc = .ok (.lushr, 1)) (kk : Sw g l x Q nL c s (pc + 1) lv (.long (lushr a b) :: stk) M f) : Sw g l x Q nL c s pc lv (.int b :: .long a :: stk) M f :=
  fun res hr H locs ls hW hS hL => lv_lushr ok.1 ok.2.1 hd rfl (kk res hr H locs ls hW hS hL)
theorem r_lshl (ok : Ok g l x own cc nL ret rm) {a : Int64} {b : Int32} (hd : decode cc pc = .ok (.lshl, 1)) (kk : Sw g l x Q nL c s (pc + 1) lv (.long (lshl a b) :: stk) M f) : Sw g l x Q nL c s pc lv (.int b :: .long a :: stk) M f :=
  fun res hr H locs ls hW hS hL => lv_lshl ok.1 ok.2.1 hd rfl (kk res hr H locs ls hW hS hL)
theorem r_lshr (ok : Ok g l x own cc nL ret rm) {a : Int64} {b : Int32} (hd : decode cc pc = .ok (.lshr, 1)) (kk : Sw g l x Q nL c s (pc + 1) lv (.long (lshr a b) :: stk) M f) : Sw g l x Q nL c s pc lv (.int b :: .long a :: stk) M f :=
  fun res hr H locs ls hW hS hL => lv_lshr ok.1 ok.2.1 hd rfl (kk res hr H locs ls hW hS hL)
theorem r_lcmp (ok : Ok g l x own cc nL ret rm) {a b : Int64} (hd : decode cc pc = .ok (.lcmp, 1)) (kk : Sw g l x Q nL c s (pc + 1) lv (.int (lg_cmp a b) :: stk) M f) : Sw g l x Q nL c s pc lv (.long b :: .long a :: stk) M f :=
  fun res hr H locs ls hW hS hL => W.lcmp ok.1 ok.2.1 hd (kk res hr H locs ls hW hS hL)
theorem r_dup (ok : Ok g l x own cc nL ret rm) {v : Value} (hd : decode cc pc = .ok (.dup, 1)) (hc : v.category = 1) (kk : Sw g l x Q nL c s (pc + 1) lv (v :: v :: stk) M f) : Sw g l x Q nL c s pc lv (v :: stk) M f :=
  fun res hr H locs ls hW hS hL => lv_dup ok.1 ok.2.1 hd hc (kk res hr H locs ls hW hS hL)
theorem r_dup2 (ok : Ok g l x own cc nL ret rm) {v w : Value} (hd : decode cc pc = .ok (.dup2, 1)) (hc : v.category = 1) (hc2 : w.category = 1) (kk : Sw g l x Q nL c s (pc + 1) lv (v :: w :: v :: w :: stk) M f) : Sw g l x Q nL c s pc lv (v :: w :: stk) M f :=
  fun res hr H locs ls hW hS hL => lv_dup2_11 ok.1 ok.2.1 hd hc hc2 (kk res hr H locs ls hW hS hL)
theorem r_pop (ok : Ok g l x own cc nL ret rm) {v : Value} (hd : decode cc pc = .ok (.pop, 1)) (hc : v.category = 1) (kk : Sw g l x Q nL c s (pc + 1) lv stk M f) : Sw g l x Q nL c s pc lv (v :: stk) M f :=
  fun res hr H locs ls hW hS hL => lv_pop ok.1 ok.2.1 hd hc (kk res hr H locs ls hW hS hL)
theorem r_if_eq (ok : Ok g l x own cc nL ret rm) {a : Int32} {off : Int} (tgt : Nat) {ft ff : Option (α × Mem)} (hd : decode cc pc = .ok (.ifCond .eq off, 3)) (ht : (pc : Int) + off = (tgt : Int)) (kt : a = 0 → Sw g l x Q nL c s tgt lv stk M ft) (kf : ¬ a = 0 → Sw g l x Q nL c s (pc + 3) lv stk M ff) : Sw g l x Q nL c s pc lv (.int a :: stk) M (if a = 0 then ft else ff) :=
  fun res hr H locs ls hW hS hL => lv_if_eq ok.1 ok.2.1 hd ht (fun h => kt h res (by rw [if_pos h] at hr; exact hr) H locs ls hW hS hL) (fun h => kf h res (by rw [if_neg h] at hr; exact hr) H locs ls hW hS hL)
theorem r_icmp_eq (ok : Ok g l x own cc nL ret rm) {a b : Int32} {off : Int} (tgt : Nat) {ft ff : Option (α × Mem)} (hd : decode cc pc = .ok (.if_icmp .eq off, 3)) (ht : (pc : Int) + off = (tgt : Int)) (kt : a = b → Sw g l x Q nL c s tgt lv stk M ft) (kf : ¬ a = b → Sw g l x Q nL c s (pc + 3) lv stk M ff) : Sw g l x Q nL c s pc lv (.int b :: .int a :: stk) M (if a = b then ft else ff) :=
  fun res hr H locs ls hW hS hL => lv_icmp_eq ok.1 ok.2.1 hd ht (fun h => kt h res (by rw [if_pos h] at hr; exact hr) H locs ls hW hS hL) (fun h => kf h res (by rw [if_neg h] at hr; exact hr) H locs ls hW hS hL)
theorem r_if_ne (ok : Ok g l x own cc nL ret rm) {a : Int32} {off : Int} (tgt : Nat) {ft ff : Option (α × Mem)} (hd : decode cc pc = .ok (.ifCond .ne off, 3)) (ht : (pc : Int) + off = (tgt : Int)) (kf : a = 0 → Sw g l x Q nL c s (pc + 3) lv stk M ff) (kt : ¬ a = 0 → Sw g l x Q nL c s tgt lv stk M ft) : Sw g l x Q nL c s pc lv (.int a :: stk) M (if a = 0 then ff else ft) :=
  fun res hr H locs ls hW hS hL => lv_if_ne ok.1 ok.2.1 hd ht (fun h => kt h res (by rw [if_neg h] at hr; exact hr) H locs ls hW hS hL) (fun h => kf h res (by rw [if_pos h] at hr; exact hr) H locs ls hW hS hL)
theorem r_icmp_ne (ok : Ok g l x own cc nL ret rm) {a b : Int32} {off : Int} (tgt : Nat) {ft ff : Option (α × Mem)} (hd : decode cc pc = .ok (.if_icmp .ne off, 3)) (ht : (pc : Int) + off = (tgt : Int)) (kf : a = b → Sw g l x Q nL c s (pc + 3) lv stk M ff) (kt : ¬ a = b → Sw g l x Q nL c s tgt lv stk M ft) : Sw g l x Q nL c s pc lv (.int b :: .int a :: stk) M (if a = b then ff else ft) :=
  fun res hr H locs ls hW hS hL => lv_icmp_ne ok.1 ok.2.1 hd ht (fun h => kt h res (by rw [if_neg h] at hr; exact hr) H locs ls hW hS hL) (fun h => kf h res (by rw [if_pos h] at hr; exact hr) H locs ls hW hS hL)
theorem r_if_lt (ok : Ok g l x own cc nL ret rm) {a : Int32} {off : Int} (tgt : Nat) {ft ff : Option (α × Mem)} (hd : decode cc pc = .ok (.ifCond .lt off, 3)) (ht : (pc : Int) + off = (tgt : Int)) (kt : a < 0 → Sw g l x Q nL c s tgt lv stk M ft) (kf : ¬ a < 0 → Sw g l x Q nL c s (pc + 3) lv stk M ff) : Sw g l x Q nL c s pc lv (.int a :: stk) M (if a < 0 then ft else ff) :=
  fun res hr H locs ls hW hS hL => lv_if_lt ok.1 ok.2.1 hd ht (fun h => kt h res (by rw [if_pos h] at hr; exact hr) H locs ls hW hS hL) (fun h => kf h res (by rw [if_neg h] at hr; exact hr) H locs ls hW hS hL)
theorem r_icmp_lt (ok : Ok g l x own cc nL ret rm) {a b : Int32} {off : Int} (tgt : Nat) {ft ff : Option (α × Mem)} (hd : decode cc pc = .ok (.if_icmp .lt off, 3)) (ht : (pc : Int) + off = (tgt : Int)) (kt : a < b → Sw g l x Q nL c s tgt lv stk M ft) (kf : ¬ a < b → Sw g l x Q nL c s (pc + 3) lv stk M ff) : Sw g l x Q nL c s pc lv (.int b :: .int a :: stk) M (if a < b then ft else ff) :=
  fun res hr H locs ls hW hS hL => lv_icmp_lt ok.1 ok.2.1 hd ht (fun h => kt h res (by rw [if_pos h] at hr; exact hr) H locs ls hW hS hL) (fun h => kf h res (by rw [if_neg h] at hr; exact hr) H locs ls hW hS hL)
theorem r_if_ge (ok : Ok g l x own cc nL ret rm) {a : Int32} {off : Int} (tgt : Nat) {ft ff : Option (α × Mem)} (hd : decode cc pc = .ok (.ifCond .ge off, 3)) (ht : (pc : Int) + off = (tgt : Int)) (kt : 0 ≤ a → Sw g l x Q nL c s tgt lv stk M ft) (kf : ¬ 0 ≤ a → Sw g l x Q nL c s (pc + 3) lv stk M ff) : Sw g l x Q nL c s pc lv (.int a :: stk) M (if 0 ≤ a then ft else ff) :=
  fun res hr H locs ls hW hS hL => lv_if_ge ok.1 ok.2.1 hd ht (fun h => kt h res (by rw [if_pos h] at hr; exact hr) H locs ls hW hS hL) (fun h => kf h res (by rw [if_neg h] at hr; exact hr) H locs ls hW hS hL)
theorem r_icmp_ge (ok : Ok g l x own cc nL ret rm) {a b : Int32} {off : Int} (tgt : Nat) {ft ff : Option (α × Mem)} (hd : decode cc pc = .ok (.if_icmp .ge off, 3)) (ht : (pc : Int) + off = (tgt : Int)) (kt : b ≤ a → Sw g l x Q nL c s tgt lv stk M ft) (kf : ¬ b ≤ a → Sw g l x Q nL c s (pc + 3) lv stk M ff) : Sw g l x Q nL c s pc lv (.int b :: .int a :: stk) M (if b ≤ a then ft else ff) :=
  fun res hr H locs ls hW hS hL => lv_icmp_ge ok.1 ok.2.1 hd ht (fun h => kt h res (by rw [if_pos h] at hr; exact hr) H locs ls hW hS hL) (fun h => kf h res (by rw [if_neg h] at hr; exact hr) H locs ls hW hS hL)
theorem r_if_gt (ok : Ok g l x own cc nL ret rm) {a : Int32} {off : Int} (tgt : Nat) {ft ff : Option (α × Mem)} (hd : decode cc pc = .ok (.ifCond .gt off, 3)) (ht : (pc : Int) + off = (tgt : Int)) (kt : 0 < a → Sw g l x Q nL c s tgt lv stk M ft) (kf : ¬ 0 < a → Sw g l x Q nL c s (pc + 3) lv stk M ff) : Sw g l x Q nL c s pc lv (.int a :: stk) M (if 0 < a then ft else ff) :=
  fun res hr H locs ls hW hS hL => lv_if_gt ok.1 ok.2.1 hd ht (fun h => kt h res (by rw [if_pos h] at hr; exact hr) H locs ls hW hS hL) (fun h => kf h res (by rw [if_neg h] at hr; exact hr) H locs ls hW hS hL)
theorem r_icmp_gt (ok : Ok g l x own cc nL ret rm) {a b : Int32} {off : Int} (tgt : Nat) {ft ff : Option (α × Mem)} (hd : decode cc pc = .ok (.if_icmp .gt off, 3)) (ht : (pc : Int) + off = (tgt : Int)) (kt : b < a → Sw g l x Q nL c s tgt lv stk M ft) (kf : ¬ b < a → Sw g l x Q nL c s (pc + 3) lv stk M ff) : Sw g l x Q nL c s pc lv (.int b :: .int a :: stk) M (if b < a then ft else ff) :=
  fun res hr H locs ls hW hS hL => lv_icmp_gt ok.1 ok.2.1 hd ht (fun h => kt h res (by rw [if_pos h] at hr; exact hr) H locs ls hW hS hL) (fun h => kf h res (by rw [if_neg h] at hr; exact hr) H locs ls hW hS hL)
theorem r_if_le (ok : Ok g l x own cc nL ret rm) {a : Int32} {off : Int} (tgt : Nat) {ft ff : Option (α × Mem)} (hd : decode cc pc = .ok (.ifCond .le off, 3)) (ht : (pc : Int) + off = (tgt : Int)) (kt : a ≤ 0 → Sw g l x Q nL c s tgt lv stk M ft) (kf : ¬ a ≤ 0 → Sw g l x Q nL c s (pc + 3) lv stk M ff) : Sw g l x Q nL c s pc lv (.int a :: stk) M (if a ≤ 0 then ft else ff) :=
  fun res hr H locs ls hW hS hL => lv_if_le ok.1 ok.2.1 hd ht (fun h => kt h res (by rw [if_pos h] at hr; exact hr) H locs ls hW hS hL) (fun h => kf h res (by rw [if_neg h] at hr; exact hr) H locs ls hW hS hL)
theorem r_icmp_le (ok : Ok g l x own cc nL ret rm) {a b : Int32} {off : Int} (tgt : Nat) {ft ff : Option (α × Mem)} (hd : decode cc pc = .ok (.if_icmp .le off, 3)) (ht : (pc : Int) + off = (tgt : Int)) (kt : a ≤ b → Sw g l x Q nL c s tgt lv stk M ft) (kf : ¬ a ≤ b → Sw g l x Q nL c s (pc + 3) lv stk M ff) : Sw g l x Q nL c s pc lv (.int b :: .int a :: stk) M (if a ≤ b then ft else ff) :=
  fun res hr H locs ls hW hS hL => lv_icmp_le ok.1 ok.2.1 hd ht (fun h => kt h res (by rw [if_pos h] at hr; exact hr) H locs ls hW hS hL) (fun h => kf h res (by rw [if_neg h] at hr; exact hr) H locs ls hW hS hL)
theorem r_goto (ok : Ok g l x own cc nL ret rm) {off : Int} (tgt : Nat) (hd : decode cc pc = .ok (.goto off, 3)) (ht : (pc : Int) + off = (tgt : Int)) (kk : Sw g l x Q nL c s tgt lv stk M f) : Sw g l x Q nL c s pc lv stk M f :=
  fun res hr H locs ls hW hS hL => lv_goto ok.1 ok.2.1 hd ht (kk res hr H locs ls hW hS hL)
theorem r_swc (ok : Ok g l x own cc nL ret rm) {a k : Int32} {ft ff : Option (α × Mem)} {dflt lo hi : Int} {offs : Array Int} {len : Nat} (off : Int) (tgt : Nat) (hd : decode cc pc = .ok (.tableswitch dflt lo hi offs, len)) (h1 : ¬ k.toInt < lo ∧ ¬ hi < k.toInt ∧ offs[(k.toInt - lo).toNat]? = some off) (ht : (pc : Int) + off = (tgt : Int)) (kt : a = k → Sw g l x Q nL c s tgt lv stk M ft) (kf : ¬ a = k → Sw g l x Q nL c s pc lv (.int a :: stk) M ff) : Sw g l x Q nL c s pc lv (.int a :: stk) M (if a = k then ft else ff) := by
  intro res hr H locs ls hW hS hL
  by_cases h : a = k
  · rw [if_pos h] at hr
    have h2 := kt h
    subst h
    exact lv_tableIn ok.1 ok.2.1 hd h1.1 h1.2.1 h1.2.2 ht (h2 res hr H locs ls hW hS hL)
  · rw [if_neg h] at hr
    exact kf h res hr H locs ls hW hS hL
theorem r_swd (ok : Ok g l x own cc nL ret rm) {a : Int32} {dflt lo hi : Int} {offs : Array Int} {len : Nat} (tgt : Nat) (hd : decode cc pc = .ok (.tableswitch dflt lo hi offs, len)) (h : a.toInt < lo ∨ hi < a.toInt) (ht : (pc : Int) + dflt = (tgt : Int)) (kk : Sw g l x Q nL c s tgt lv stk M f) : Sw g l x Q nL c s pc lv (.int a :: stk) M f :=
  fun res hr H locs ls hW hS hL => lv_tableOut ok.1 ok.2.1 hd h ht (kk res hr H locs ls hW hS hL)
theorem r_lkc (ok : Ok g l x own cc nL ret rm) {a k : Int32} {ft ff : Option (α × Mem)} {dflt : Int} {ps : Array (Int × Int)} {len : Nat} (off : Int) (tgt : Nat) (hd : decode cc pc = .ok (.lookupswitch dflt ps, len)) (hp : (ps.toList.zip (ps.toList.drop 1)).all (fun (a, next) => a.1 < next.1) = true) (ho : Op.lookupswitch.offset ps.toList dflt k.toInt = off) (ht : (pc : Int) + off = (tgt : Int)) (kt : a = k → Sw g l x Q nL c s tgt lv stk M ft) (kf : ¬ a = k → Sw g l x Q nL c s pc lv (.int a :: stk) M ff) : Sw g l x Q nL c s pc lv (.int a :: stk) M (if a = k then ft else ff) := by
  intro res hr H locs ls hW hS hL
  by_cases h : a = k
  · rw [if_pos h] at hr
    have h2 := kt h
    subst h
    exact lv_lookup ok.1 ok.2.1 hd hp ho ht (h2 res hr H locs ls hW hS hL)
  · rw [if_neg h] at hr
    exact kf h res hr H locs ls hW hS hL
theorem r_lkd (ok : Ok g l x own cc nL ret rm) {a : Int32} {dflt : Int} {ps : Array (Int × Int)} {len : Nat} (tgt : Nat) (hd : decode cc pc = .ok (.lookupswitch dflt ps, len)) (hp : (ps.toList.zip (ps.toList.drop 1)).all (fun (a, next) => a.1 < next.1) = true) (ho : Op.lookupswitch.offset ps.toList dflt a.toInt = dflt) (ht : (pc : Int) + dflt = (tgt : Int)) (kk : Sw g l x Q nL c s tgt lv stk M f) : Sw g l x Q nL c s pc lv (.int a :: stk) M f :=
  fun res hr H locs ls hW hS hL => lv_lookup ok.1 ok.2.1 hd hp ho ht (kk res hr H locs ls hW hS hL)
theorem r_nmi {a : Int32} {F : Int32 → Option (α × Mem)} (kk : ∀ v : Int32, Sw g l x Q nL c s pc lv (.int v :: stk) M (F v)) : Sw g l x Q nL c s pc lv (.int a :: stk) M (lt a F) := kk a
theorem r_nml {a : Int64} {F : Int64 → Option (α × Mem)} (kk : ∀ v : Int64, Sw g l x Q nL c s pc lv (.long v :: stk) M (F v)) : Sw g l x Q nL c s pc lv (.long a :: stk) M (lt a F) := kk a
theorem r_nmM {F : Mem → Option (α × Mem)} (kk : ∀ M2 : Mem, Sw g l x Q nL c s pc lv stk M2 (F M2)) : Sw g l x Q nL c s pc lv stk M (lt M F) := kk M
theorem r_none : Sw g l x Q nL c s pc lv stk M none := fun res hr => by cases hr
theorem r_gd {b : Bool} (kk : b = true → Sw g l x Q nL c s pc lv stk M f) : Sw g l x Q nL c s pc lv stk M (gd b f) := by
  intro res hr
  cases b with
  | false => cases hr
  | true => exact kk rfl res hr
theorem r_iret {enc : α → Option Value} (ok : Ok g l x own cc nL (some .int) rm) {v : Int32} {r : α} (hc : c ≤ rm.cells) (hs : s ≤ rm.slots) (he : enc r = some (.int v)) (hd : decode cc pc = .ok (.ireturn, 1)) : Sw g l x (FinQ g x enc) nL c s pc lv [.int v] M (some (r, M)) := by
  intro res hr H locs ls hW hS hL
  cases hr
  obtain ⟨h1, h2, h3, h4, h5, h6, h7, h8, h9, h10⟩ := ok
  refine W.widen (k := (cxR x).cells) (n := (cxR x).slots) (by rw [h8]; exact hc) (by rw [h8]; exact hs) ?_
  exact W.iret h1 h2 h6 (fun t ht _ => ⟨⟨by rw [he], by rw [ht]; exact hW⟩, hS.F ht⟩) hS.2.2 hd h7
theorem r_lret {enc : α → Option Value} (ok : Ok g l x own cc nL (some .long) rm) {v : Int64} {r : α} (hc : c ≤ rm.cells) (hs : s ≤ rm.slots) (he : enc r = some (.long v)) (hd : decode cc pc = .ok (.lreturn, 1)) : Sw g l x (FinQ g x enc) nL c s pc lv [.long v] M (some (r, M)) := by
  intro res hr H locs ls hW hS hL
  cases hr
  obtain ⟨h1, h2, h3, h4, h5, h6, h7, h8, h9, h10⟩ := ok
  refine W.widen (k := (cxR x).cells) (n := (cxR x).slots) (by rw [h8]; exact hc) (by rw [h8]; exact hs) ?_
  exact W.lret h1 h2 h6 (fun t ht _ => ⟨⟨by rw [he], by rw [ht]; exact hW⟩, hS.F ht⟩) hS.2.2 hd h7
theorem r_zret {enc : α → Option Value} (ok : Ok g l x own cc nL (some .boolean) rm) {v : Int32} {r : α} (hc : c ≤ rm.cells) (hs : s ≤ rm.slots) (hn : narrow .boolean (.int v) = .int v) (he : enc r = some (.int v)) (hd : decode cc pc = .ok (.ireturn, 1)) : Sw g l x (FinQ g x enc) nL c s pc lv [.int v] M (some (r, M)) := by
  intro res hr H locs ls hW hS hL
  cases hr
  obtain ⟨h1, h2, h3, h4, h5, h6, h7, h8, h9, h10⟩ := ok
  refine W.widen (k := (cxR x).cells) (n := (cxR x).slots) (by rw [h8]; exact hc) (by rw [h8]; exact hs) ?_
  exact W.zret h1 h2 h6 hn (fun t ht _ => ⟨⟨by rw [he], by rw [ht]; exact hW⟩, hS.F ht⟩) hS.2.2 hd h7
def isB (v : Int32) : Bool := decide (v = 0) || decide (v = 1)
theorem isB_of {v : Int32} (h : isB v = true) : narrow .boolean (.int v) = .int v := by
  simp only [isB, Bool.or_eq_true, decide_eq_true_eq] at h
  rcases h with rfl | rfl <;> rfl
theorem r_vret {enc : α → Option Value} (ok : Ok g l x own cc nL none rm) {r : α} (hc : c ≤ rm.cells) (hs : s ≤ rm.slots) (he : enc r = none) (hd : decode cc pc = .ok (.return_, 1)) : Sw g l x (FinQ g x enc) nL c s pc lv [] M (some (r, M)) := by
  intro res hr H locs ls hW hS hL
  cases hr
  obtain ⟨h1, h2, h3, h4, h5, h6, h7, h8, h9, h10⟩ := ok
  refine W.widen (k := (cxR x).cells) (n := (cxR x).slots) (by rw [h8]; exact hc) (by rw [h8]; exact hs) ?_
  exact W.vret h1 h2 h6 (fun t ht _ => ⟨⟨by rw [he], by rw [ht]; exact hW⟩, hS.F ht⟩) hS.2.2 hd h7
theorem r_aret {enc : α → Option Value} {C : String} (ok : Ok g l x own cc nL (some (.object C)) rm) {a : Nat} {r : α} (hc : c ≤ rm.cells) (hs : s ≤ rm.slots) (he : enc r = some (.ref a)) (hd : decode cc pc = .ok (.areturn, 1)) : Sw g l x (FinQ g x enc) nL c s pc lv [.ref a] M (some (r, M)) := by
  intro res hr H locs ls hW hS hL
  cases hr
  obtain ⟨h1, h2, h3, h4, h5, h6, h7, h8, h9, h10⟩ := ok
  refine W.widen (k := (cxR x).cells) (n := (cxR x).slots) (by rw [h8]; exact hc) (by rw [h8]; exact hs) ?_
  exact W.aret h1 h2 h6 (Or.inl ⟨C, rfl⟩) (Or.inr ⟨a, rfl⟩) (fun t ht _ => ⟨⟨by rw [he], by rw [ht]; exact hW⟩, hS.F ht⟩) hS.2.2 hd h7
def FL (own : String) (idx ci k : Nat) : Prop := ∃ (C : String) (T : u_T) (N : Nat), vCl[ci]? = some (C, T, N) ∧ (∀ w ∈ u_ws C T N, w ∈ wsU) ∧ k < N ∧ Cond.fieldLink own idx (T k).1 (T k).2.1 (T k).2.2.1 ∈ wsU
def FLN (own : String) (idx ci k : Nat) : Prop := ∃ (C : String) (T : u_T) (N : Nat) (host : String), vCl[ci]? = some (C, T, N) ∧ (∀ w ∈ u_ws C T N, w ∈ wsU) ∧ k < N ∧ Cond.fieldLinkNest own idx (T k).1 (T k).2.1 (T k).2.2.1 host ∈ nsU
def FP (ci k : Nat) (ty : FieldType) : Prop := ∀ (C : String) (T : u_T) (N : Nat), vCl[ci]? = some (C, T, N) → (∃ ty0 : Nat → FieldType, ∀ j, j < N → parseFieldDescriptor (T j).2.2.1 = some (ty0 j)) ∧ (∀ a, a < N → ∀ b, b < N → a ≠ b → (T a).2.1 ≠ (T b).2.1) ∧ (T k).2.2.2 = false ∧ parseFieldDescriptor (T k).2.2.1 = some ty
theorem r_getI (ok : Ok g l x own cc nL ret rm) {K i slot ci idx : Nat} (hF : FI K slot ci) (hi : i < nIx K) (hL0 : FL own idx ci slot) (hd : decode cc pc = .ok (.getfield idx, 3)) (kk : Sw g l x Q nL c s (pc + 3) lv (.int (M K i slot) :: stk) M f) : Sw g l x Q nL c s pc lv (.ref (gA g K i) :: stk) M f := by
  intro res hr H locs ls hW hS hL
  obtain ⟨q, hP, hD⟩ := id hW
  obtain ⟨hK, h8, h11, hcell⟩ := hF
  obtain ⟨C, T, N, hc, hin, hk, hw⟩ := hL0
  obtain ⟨fs, he, hv, -, -⟩ := hcell g q i M
  exact va_get ok.1 ok.2.1 ok.2.2.2.2.1 hin ok.2.2.2.1 ok.2.2.2.2.2.2.2.2.1.1 hP (pos K i) (by rw [wl_atn hK hi h11, he]) hc slot hk (ok.2.2.2.2.1 _ hw) (fun _ h => h) hv hd (kk res hr H locs ls hW hS hL)
theorem r_getR (ok : Ok g l x own cc nL ret rm) {K i slot ci idx K2 : Nat} {e : Nat → Nat} (hF : FR K slot ci K2 e) (hi : i < nIx K) (hL0 : FL own idx ci slot) (hd : decode cc pc = .ok (.getfield idx, 3)) (kk : Sw g l x Q nL c s (pc + 3) lv (.ref (gA g K2 (e i)) :: stk) M f) : Sw g l x Q nL c s pc lv (.ref (gA g K i) :: stk) M f := by
  intro res hr H locs ls hW hS hL
  obtain ⟨q, hP, hD⟩ := id hW
  obtain ⟨hK, h11, hcell⟩ := hF
  obtain ⟨C, T, N, hc, hin, hk, hw⟩ := hL0
  obtain ⟨fs, he, hv⟩ := hcell g q i M
  exact va_get ok.1 ok.2.1 ok.2.2.2.2.1 hin ok.2.2.2.1 ok.2.2.2.2.2.2.2.2.1.1 hP (pos K i) (by rw [wl_atn hK hi h11, he]) hc slot hk (ok.2.2.2.2.1 _ hw) (fun _ h => h) hv hd (kk res hr H locs ls hW hS hL)
theorem r_putI (ok : Ok g l x own cc nL ret rm) {K i slot ci idx : Nat} {ty : FieldType} {v : Int32} (hF : FI K slot ci) (hi : i < nIx K) (hL0 : FL own idx ci slot) (hPt : FP ci slot ty) (hn : narrow ty (.int v) = .int v ∧ fits ty (.int v) = true) (hd : decode cc pc = .ok (.putfield idx, 3)) (kk : Sw g l x Q nL c s (pc + 3) lv stk (mst M K i slot v) f) : Sw g l x Q nL c s pc lv (.int v :: .ref (gA g K i) :: stk) M f := by
  intro res hr H locs ls hW hS hL
  obtain ⟨q, hP, hD⟩ := id hW
  obtain ⟨hK, h8, h11, hcell⟩ := hF
  obtain ⟨C, T, N, hc, hin, hk, hw⟩ := hL0
  obtain ⟨fs, he, hv, hlen, hset⟩ := hcell g q i M
  obtain ⟨⟨ty0, hty⟩, hnm, hfin, hd0⟩ := hPt C T N hc
  refine va_put ok.1 ok.2.1 ok.2.2.2.2.1 hin ty0 hty hnm ok.2.2.2.1 ok.2.2.2.2.2.2.2.2.1.1 hP hD hS (pos K i) (fs := fs) (by rw [wl_atn hK hi h11, he]) hc slot hk (ok.2.2.2.2.1 _ hw) (fun _ h => h) hfin hd0 hn.1 hn.2 hlen hd (fun H1 locs1 hP1 hD1 hS1 => ?_)
  rw [← hset v, mst, wl_row hK hi h8 h11] at hP1 hD1
  exact kk res hr H1 locs1 ls ⟨q, hP1, hD1⟩ hS1 hL
theorem r_getIN (ok : Ok g l x own cc nL ret rm) {K i slot ci idx : Nat} (hF : FI K slot ci) (hi : i < nIx K) (hL0 : FLN own idx ci slot) (hd : decode cc pc = .ok (.getfield idx, 3)) (kk : Sw g l x Q nL c s (pc + 3) lv (.int (M K i slot) :: stk) M f) : Sw g l x Q nL c s pc lv (.ref (gA g K i) :: stk) M f := by
  intro res hr H locs ls hW hS hL
  obtain ⟨q, hP, hD⟩ := id hW
  obtain ⟨hK, h8, h11, hcell⟩ := hF
  obtain ⟨C, T, N, host, hc, hin, hk, hw⟩ := hL0
  obtain ⟨fs, he, hv, -, -⟩ := hcell g q i M
  exact va_getN ok.1 ok.2.1 ok.2.2.2.2.1 hin ok.2.2.2.1 ok.2.2.2.2.2.2.2.2.1.1 hP (pos K i) (by rw [wl_atn hK hi h11, he]) hc slot hk (va_Nw.use rfl (ok.2.2.2.2.2.2.2.2.1.2.1 _ hw)) (fun _ h => h) hv hd (kk res hr H locs ls hW hS hL)
theorem r_getRN (ok : Ok g l x own cc nL ret rm) {K i slot ci idx K2 : Nat} {e : Nat → Nat} (hF : FR K slot ci K2 e) (hi : i < nIx K) (hL0 : FLN own idx ci slot) (hd : decode cc pc = .ok (.getfield idx, 3)) (kk : Sw g l x Q nL c s (pc + 3) lv (.ref (gA g K2 (e i)) :: stk) M f) : Sw g l x Q nL c s pc lv (.ref (gA g K i) :: stk) M f := by
  intro res hr H locs ls hW hS hL
  obtain ⟨q, hP, hD⟩ := id hW
  obtain ⟨hK, h11, hcell⟩ := hF
  obtain ⟨C, T, N, host, hc, hin, hk, hw⟩ := hL0
  obtain ⟨fs, he, hv⟩ := hcell g q i M
  exact va_getN ok.1 ok.2.1 ok.2.2.2.2.1 hin ok.2.2.2.1 ok.2.2.2.2.2.2.2.2.1.1 hP (pos K i) (by rw [wl_atn hK hi h11, he]) hc slot hk (va_Nw.use rfl (ok.2.2.2.2.2.2.2.2.1.2.1 _ hw)) (fun _ h => h) hv hd (kk res hr H locs ls hW hS hL)
theorem r_putIN (ok : Ok g l x own cc nL ret rm) {K i slot ci idx : Nat} {ty : FieldType} {v : Int32} (hF : FI K slot ci) (hi : i < nIx K) (hL0 : FLN own idx ci slot) (hPt : FP ci slot ty) (hn : narrow ty (.int v) = .int v ∧ fits ty (.int v) = true) (hd : decode cc pc = .ok (.putfield idx, 3)) (kk : Sw g l x Q nL c s (pc + 3) lv stk (mst M K i slot v) f) : Sw g l x Q nL c s pc lv (.int v :: .ref (gA g K i) :: stk) M f := by
  intro res hr H locs ls hW hS hL
  obtain ⟨q, hP, hD⟩ := id hW
  obtain ⟨hK, h8, h11, hcell⟩ := hF
  obtain ⟨C, T, N, host, hc, hin, hk, hw⟩ := hL0
  obtain ⟨fs, he, hv, hlen, hset⟩ := hcell g q i M
  obtain ⟨⟨ty0, hty⟩, hnm, hfin, hd0⟩ := hPt C T N hc
  refine va_putN ok.1 ok.2.1 ok.2.2.2.2.1 hin ty0 hty hnm ok.2.2.2.1 ok.2.2.2.2.2.2.2.2.1.1 hP hD hS (pos K i) (fs := fs) (by rw [wl_atn hK hi h11, he]) hc slot hk (va_Nw.use rfl (ok.2.2.2.2.2.2.2.2.1.2.1 _ hw)) (fun _ h => h) hfin hd0 hn.1 hn.2 hlen hd (fun H1 locs1 hP1 hD1 hS1 => ?_)
  rw [← hset v, mst, wl_row hK hi h8 h11] at hP1 hD1
  exact kk res hr H1 locs1 ls ⟨q, hP1, hD1⟩ hS1 hL
theorem r_iald (ok : Ok g l x own cc nL ret rm) {K i n : Nat} {j : Int32} (hF : IK K n) (hi : i < nIx K) (hd : decode cc pc = .ok (.iaload, 1)) (kk : j.toNatClampNeg < n → Sw g l x Q nL c s (pc + 1) lv (.int (M K i j.toNatClampNeg) :: stk) M f) : Sw g l x Q nL c s pc lv (.int j :: .ref (gA g K i) :: stk) M (gd (inb j n) f) := by
  intro res hr H locs ls hW hS hL
  obtain ⟨q, hP, hD⟩ := id hW
  obtain ⟨hK, h8, h11, hcell⟩ := hF
  cases hb : inb j n with
  | false => rw [hb] at hr; cases hr
  | true =>
    rw [hb] at hr
    exact va_iald ok.1 ok.2.1 ok.2.2.2.2.2.2.2.2.1.1 hP (pos K i) 0 (by rw [wl_atn hK hi h11, hcell]) rfl (inb_in hb) hd (kk (inb_lt hb) res hr H locs ls hW hS hL)
theorem r_iast (ok : Ok g l x own cc nL ret rm) {K i n : Nat} {j v : Int32} (hF : IK K n) (hi : i < nIx K) (hd : decode cc pc = .ok (.iastore, 1)) (kk : Sw g l x Q nL c s (pc + 1) lv stk (mst M K i j.toNatClampNeg v) f) : Sw g l x Q nL c s pc lv (.int v :: .int j :: .ref (gA g K i) :: stk) M (gd (inb j n) f) := by
  intro res hr H locs ls hW hS hL
  obtain ⟨q, hP, hD⟩ := id hW
  obtain ⟨hK, h8, h11, hcell⟩ := hF
  cases hb : inb j n with
  | false => rw [hb] at hr; cases hr
  | true =>
    rw [hb] at hr
    refine va_iast ok.1 ok.2.1 ok.2.2.2.2.2.2.2.2.1.1 hP hD hS (pos K i) 0 (by rw [wl_atn hK hi h11, hcell]) rfl (inb_in hb) hd (fun H1 locs1 hP1 hD1 hS1 => ?_)
    have e := hcell g q i (mrow M K i (upd (M K i) j.toNatClampNeg v))
    rw [mrow_s] at e
    rw [← e, wl_row hK hi h8 h11] at hP1 hD1
    exact kk res hr H1 locs1 ls ⟨q, hP1, hD1⟩ hS1 hL
theorem r_aald (ok : Ok g l x own cc nL ret rm) {K i n t K2 : Nat} {e : Nat → Nat → Nat} {ty : FieldType} {j : Int32} (hF : RK K n t K2 e) (hi : i < nIx K) (ht : (gT g)[t]? = some (gC g t, ty)) (hty : ty.isReference = true) (hd : decode cc pc = .ok (.aaload, 1)) (kk : j.toNatClampNeg < n → Sw g l x Q nL c s (pc + 1) lv (.ref (gA g K2 (e i j.toNatClampNeg)) :: stk) M f) : Sw g l x Q nL c s pc lv (.int j :: .ref (gA g K i) :: stk) M (gd (inb j n) f) := by
  intro res hr H locs ls hW hS hL
  obtain ⟨q, hP, hD⟩ := id hW
  obtain ⟨hK, h11, hcell⟩ := hF
  cases hb : inb j n with
  | false => rw [hb] at hr; cases hr
  | true =>
    rw [hb] at hr
    have hc0 := hP (pos K i) _ (wl_atn hK hi h11)
    rw [hcell] at hc0
    refine W.aald (v := .ref (gA g K2 (e i j.toNatClampNeg))) (ty := ty) ok.1 ok.2.1 (show H[gA g K i]? = some (arrV (gC g t) n (fun j => va_rf (some (gA g K2 (e i j))))) from hc0) ((ok.2.2.2.2.2.2.2.2.1.1.2 t _ ht).1 n _) hty (fun q => by cases q) (by rw [arrV_size]; exact inb_in hb) (by rw [arrV_read _ _ (inb_lt hb)]; rfl) rfl rfl hd (kk (inb_lt hb) res hr H locs ls hW hS hL)
theorem r_alen (ok : Ok g l x own cc nL ret rm) {K i n : Nat} (hF : IK K n) (hi : i < nIx K) (hd : decode cc pc = .ok (.arraylength, 1)) (kk : Sw g l x Q nL c s (pc + 1) lv (.int (nI n) :: stk) M f) : Sw g l x Q nL c s pc lv (.ref (gA g K i) :: stk) M f := by
  intro res hr H locs ls hW hS hL
  obtain ⟨q, hP, hD⟩ := id hW
  obtain ⟨hK, h8, h11, hcell⟩ := hF
  exact va_alen ok.1 ok.2.1 ok.2.2.2.2.2.2.2.2.1.1 hP (pos K i) 0 (x := (n, .inl (M K i))) (by rw [wl_atn hK hi h11, hcell]) rfl rfl hd (kk res hr H locs ls hW hS hL)
theorem r_clen (ok : Ok g l x own cc nL ret rm) {i idx : Nat} (hi : i < 6) (hL0 : FL own idx 8 2) (hd : decode cc pc = .ok (.getfield idx, 3)) (hd2 : decode cc (pc + 3) = .ok (.arraylength, 1)) (kk : Sw g l x Q nL c s (pc + 4) lv (.int (nI (M 8 i 0).toNatClampNeg) :: stk) M f) : Sw g l x Q nL c s pc lv (.ref (gA g 8 i) :: stk) M f := by
  intro res hr H locs ls hW hS hL
  obtain ⟨q, hP, hD⟩ := id hW
  obtain ⟨C, T, N, hc, hin, hk, hw⟩ := hL0
  refine va_get ok.1 ok.2.1 ok.2.2.2.2.1 hin ok.2.2.2.1 ok.2.2.2.2.2.2.2.2.1.1 hP (pos 8 i) (wl_atn (by decide) hi (by decide)) hc 2 hk (ok.2.2.2.2.1 _ hw) (fun _ h => h) rfl hd ?_
  exact va_alen ok.1 ok.2.1 ok.2.2.2.2.2.2.2.2.1.1 hP (pos 11 i) 0 (x := ((M 8 i 0).toNatClampNeg, .inl (M 11 i))) (wl_at (K := 11) (by decide) hi) rfl rfl hd2 (kk res hr H locs ls hW hS hL)
theorem r_cld (ok : Ok g l x own cc nL ret rm) {i idx j9 : Nat} (k : Nat) {j : Int32} (hi : i < 6) (hL0 : FL own idx 8 2) (hd : decode cc pc = .ok (.getfield idx, 3)) (hd2 : decode cc (pc + 3) = .ok (.iload j9, 2)) (hl : lv[k]? = some (j9, .int j)) (hd3 : decode cc (pc + 5) = .ok (.iaload, 1)) (kk : Sw g l x Q nL c s (pc + 6) lv (.int (M 11 i j.toNatClampNeg) :: stk) M f) : Sw g l x Q nL c s pc lv (.ref (gA g 8 i) :: stk) M (gd (inb j (M 8 i 0).toNatClampNeg) f) := by
  intro res hr H locs ls hW hS hL
  obtain ⟨q, hP, hD⟩ := id hW
  obtain ⟨C, T, N, hc, hin, hk, hw⟩ := hL0
  cases hb : inb j (M 8 i 0).toNatClampNeg with
  | false => rw [hb] at hr; cases hr
  | true =>
    rw [hb] at hr
    refine va_get ok.1 ok.2.1 ok.2.2.2.2.1 hin ok.2.2.2.1 ok.2.2.2.2.2.2.2.2.1.1 hP (pos 8 i) (wl_atn (by decide) hi (by decide)) hc 2 hk (ok.2.2.2.2.1 _ hw) (fun _ h => h) rfl hd ?_
    refine lv_iload ok.1 ok.2.1 hd2 (lv_at hL k hl) ?_
    exact va_iald ok.1 ok.2.1 ok.2.2.2.2.2.2.2.2.1.1 hP (pos 11 i) 0 (wl_at (K := 11) (by decide) hi) rfl (inb_in hb) hd3 (kk res hr H locs ls hW hS hL)
def mmax (a b : Int32) : Int32 := if a < b then b else a
theorem r_mmax (ok : Ok g l x own cc nL ret rm) {a b : Int32} {idx : Nat} (hm : Cond.methodLink own idx Lib.Math.max.name ∈ wsU) (h2 : Cond.static Lib.Math.max.name ∈ wsU) (h3 : Cond.initialized "java/lang/Math" ∈ wsU) (h4 : Cond.code Lib.Math.max.name Lib.Math.max.code 2 (some .int) ∈ wsU) (hroom : 1 ≤ rm.frames ∧ 21 ≤ rm.locals ∧ c ≤ rm.cells ∧ s ≤ rm.slots) (hst : (stk.map fun v => v.category).sum ≤ 8) (hd : decode cc pc = .ok (.invokestatic idx, 3)) (kk : Sw g l x Q nL c s (pc + 3) lv (.int (mmax a b) :: stk) M f) : Sw g l x Q nL c s pc lv (.int b :: .int a :: stk) M f := by
  intro res hr H locs ls hW hS hL
  obtain ⟨o1, o2, o3, o4, o5, o6, o7, o8, o9, o10⟩ := id ok
  exact va_mmax o1 o2 (by rw [o3, hL.1]) o4 (o5 _ hm) (o5 _ h2) (o5 _ h3) (o5 _ h4) (by rw [o8]; exact hroom.1) (by rw [o8]; have := hroom.2.1; omega) (by rw [o8]; exact hroom.2.2.1) (by rw [o8]; exact hroom.2.2.2) hd (kk res hr H locs ls hW hS hL)
def mmin (a b : Int32) : Int32 := if b < a then b else a
theorem r_mmin (ok : Ok g l x own cc nL ret rm) {a b : Int32} {idx : Nat} (hm : Cond.methodLink own idx Lib.Math.min.name ∈ wsU) (h2 : Cond.static Lib.Math.min.name ∈ wsU) (h3 : Cond.initialized "java/lang/Math" ∈ wsU) (h4 : Cond.code Lib.Math.min.name Lib.Math.min.code 2 (some .int) ∈ wsU) (hroom : 1 ≤ rm.frames ∧ 21 ≤ rm.locals ∧ c ≤ rm.cells ∧ s ≤ rm.slots) (hst : (stk.map fun v => v.category).sum ≤ 8) (hd : decode cc pc = .ok (.invokestatic idx, 3)) (kk : Sw g l x Q nL c s (pc + 3) lv (.int (mmin a b) :: stk) M f) : Sw g l x Q nL c s pc lv (.int b :: .int a :: stk) M f := by
  intro res hr H locs ls hW hS hL
  obtain ⟨o1, o2, o3, o4, o5, o6, o7, o8, o9, o10⟩ := id ok
  exact va_mmin o1 o2 (by rw [o3, hL.1]) o4 (o5 _ hm) (o5 _ h2) (o5 _ h3) (o5 _ h4) (by rw [o8]; exact hroom.1) (by rw [o8]; have := hroom.2.1; omega) (by rw [o8]; exact hroom.2.2.1) (by rw [o8]; exact hroom.2.2.2) hd (kk res hr H locs ls hW hS hL)
def mabs (a : Int32) : Int32 := if 0 ≤ a then a else 0 - a
theorem r_mabs (ok : Ok g l x own cc nL ret rm) {a : Int32} {idx : Nat} (hm : Cond.methodLink own idx Lib.Math.abs.name ∈ wsU) (h2 : Cond.static Lib.Math.abs.name ∈ wsU) (h3 : Cond.initialized "java/lang/Math" ∈ wsU) (h4 : Cond.code Lib.Math.abs.name Lib.Math.abs.code 1 (some .int) ∈ wsU) (hroom : 1 ≤ rm.frames ∧ 21 ≤ rm.locals ∧ c ≤ rm.cells ∧ s ≤ rm.slots) (hst : (stk.map fun v => v.category).sum ≤ 8) (hd : decode cc pc = .ok (.invokestatic idx, 3)) (kk : Sw g l x Q nL c s (pc + 3) lv (.int (mabs a) :: stk) M f) : Sw g l x Q nL c s pc lv (.int a :: stk) M f := by
  intro res hr H locs ls hW hS hL
  obtain ⟨o1, o2, o3, o4, o5, o6, o7, o8, o9, o10⟩ := id ok
  exact va_mabs o1 o2 (by rw [o3, hL.1]) o4 (o5 _ hm) (o5 _ h2) (o5 _ h3) (o5 _ h4) (by rw [o8]; exact hroom.1) (by rw [o8]; have := hroom.2.1; omega) (by rw [o8]; exact hroom.2.2.1) (by rw [o8]; exact hroom.2.2.2) hd (kk res hr H locs ls hW hS hL)
def cpk (sp dp n : Int32) (n0 n1 : Nat) : Bool := decide (0 ≤ sp) && decide (0 ≤ dp) && decide (0 ≤ n) && decide (sp.toNatClampNeg + n.toNatClampNeg ≤ n0) && decide (dp.toNatClampNeg + n.toNatClampNeg ≤ n1)
theorem r_acpy (ok : Ok g l x own cc nL ret rm) {K i n0 K2 i2 n1 idx : Nat} {sp dp n : Int32} (hF : IK K n0) (hi : i < nIx K) (hF2 : IK K2 n1) (hi2 : i2 < nIx K2) (hm : Cond.methodLink own idx arraycopyName ∈ wsU) (h2 : Cond.native arraycopyName ∈ wsU) (h3 : Cond.static arraycopyName ∈ wsU) (h4 : Cond.initialized "java/lang/System" ∈ wsU) (hroom : 1 ≤ rm.frames ∧ 8 + (nativeFrameWords "java/lang/System" "arraycopy" 5 + 11) ≤ rm.locals) (hst : (stk.map fun v => v.category).sum ≤ 8) (hd : decode cc pc = .ok (.invokestatic idx, 3)) (kk : Sw g l x Q nL c s (pc + 3) lv stk (mrow M K2 i2 (va_cpy (M K i) (M K2 i2) sp.toNatClampNeg dp.toNatClampNeg n.toNatClampNeg)) f) : Sw g l x Q nL c s pc lv (.int n :: .int dp :: .ref (gA g K2 i2) :: .int sp :: .ref (gA g K i) :: stk) M (gd (cpk sp dp n n0 n1) f) := by
  intro res hr H locs ls hW hS hL
  obtain ⟨o1, o2, o3, o4, o5, o6, o7, o8, o9, o10⟩ := id ok
  obtain ⟨q, hP, hD⟩ := id hW
  obtain ⟨hK, h8, h11, hcell⟩ := hF
  obtain ⟨hK2, h82, h112, hcell2⟩ := hF2
  cases hb : cpk sp dp n n0 n1 with
  | false => rw [hb] at hr; cases hr
  | true =>
    rw [hb] at hr
    simp only [cpk, Bool.and_eq_true, decide_eq_true_eq] at hb
    obtain ⟨⟨⟨⟨b1, b2⟩, b3⟩, b4⟩, b5⟩ := hb
    refine va_copyi o1 o2 (by rw [o3, hL.1]) o4 (o5 _ hm) (o5 _ h2) (o5 _ h3) (o5 _ h4) o9.1 hP hD hS (pos K i) (pos K2 i2) 0 0 (by rw [wl_atn hK hi h11, hcell]) (by rw [wl_atn hK2 hi2 h112, hcell2]) rfl rfl rfl (Int32.not_lt.mpr b1) (Int32.not_lt.mpr b2) (Int32.not_lt.mpr b3) b4 b5 (fun _ _ => rfl) (by rw [o8]; exact hroom.1) (by rw [o8]; have := hroom.2; omega) hd (fun H1 locs1 hP1 hD1 hS1 => ?_)
    have e := hcell2 g q i2 (mrow M K2 i2 (va_cpy (M K i) (M K2 i2) sp.toNatClampNeg dp.toNatClampNeg n.toNatClampNeg))
    rw [mrow_s] at e
    rw [← e, wl_row hK2 hi2 h82 h112] at hP1 hD1
    exact kk res hr H1 locs1 ls ⟨q, hP1, hD1⟩ hS1 hL
def nMH (y : MethodName) (n : Nat) : Prop := y.cls ≠ "java/lang/invoke/MethodHandle" ∧ y.cls ≠ "java/lang/invoke/VarHandle" ∧ (parseMethodDescriptor y.desc).map (fun d => d.parameters.length) = some n
def CS (own : String) (idx : Nat) (y : MethodName) (bytes : ByteArray) (maxL : Nat) (ret : Option FieldType) (n : Nat) : Prop := Cond.methodLink own idx y ∈ wsU ∧ Cond.static y ∈ wsU ∧ Cond.initialized y.cls ∈ wsU ∧ Cond.code y bytes maxL ret ∈ wsU ∧ nMH y n
def CSN (own : String) (idx : Nat) (y : MethodName) (bytes : ByteArray) (maxL : Nat) (ret : Option FieldType) (n : Nat) : Prop := (∃ host, Cond.methodLinkNest own idx y host ∈ nsU) ∧ Cond.static y ∈ wsU ∧ Cond.initialized y.cls ∈ wsU ∧ Cond.code y bytes maxL ret ∈ wsU ∧ nMH y n
def CV (own C : String) (idx : Nat) (y : MethodName) (bytes : ByteArray) (maxL : Nat) (ret : Option FieldType) (n : Nat) : Prop := Cond.methodLink own idx y ∈ wsU ∧ Cond.instanceMethod y ∈ wsU ∧ Cond.selects C y y ∈ wsU ∧ Cond.initialized C ∈ wsU ∧ y.cls = C ∧ Cond.code y bytes maxL ret ∈ wsU ∧ nMH y n
def CVN (own C : String) (idx : Nat) (y : MethodName) (bytes : ByteArray) (maxL : Nat) (ret : Option FieldType) (n : Nat) : Prop := (∃ host, Cond.methodLinkNest own idx y host ∈ nsU) ∧ Cond.instanceMethod y ∈ wsU ∧ Cond.selects C y y ∈ wsU ∧ Cond.initialized C ∈ wsU ∧ y.cls = C ∧ Cond.code y bytes maxL ret ∈ wsU ∧ nMH y n
theorem Pp_blind {g : GP} {av : List Value} {M : Mem} : FrameBlind (Pp g av M) := fun a U fr mk h => ⟨h.1, h.2.1, EnvU.same (u := U) (U := U.calling fr mk a) rfl rfl h.2.2.1, h.2.2.2⟩
def rmOk (c0 s0 : Nat) (rmc rm : Room) (maxL : Nat) : Prop := rmc.frames + 1 ≤ rm.frames ∧ 8 + (maxL + 11) + rmc.locals ≤ rm.locals ∧ c0 + rmc.cells ≤ rm.cells ∧ s0 + rmc.slots ≤ rm.slots
theorem code_good {big : List Cond} {c : Cond} (h : c ∈ wsU) (hb : big = wsU) : GoodIn big (c :: wsU) := by
  subst hb
  intro w hw
  rcases List.mem_cons.mp hw with rfl | hw
  · exact wsU_good _ h
  · exact wsU_good _ hw
theorem OK.recv {g : GP} {U : State} {H : Heap} {K i : Nat} {C : String} {M : Mem} (h : OK K i C) (hK : va_K (gD g) vCl (gT g) U) (hW : WdH g M H) : ∃ cell : Cell, H[gA g K i]? = some cell ∧ cell.vm.isStatics = false ∧ U.vm.findClass C = some cell.cls := by
  obtain ⟨k1, k2, k3, ci, qc, h1, h2, h3⟩ := h
  obtain ⟨q, hP, hD⟩ := hW
  obtain ⟨fs, he⟩ := h3 g q M
  subst h2
  exact va_recv hK hP h1 (q0 := pos K i) (fs := fs) (by rw [wl_atn k1 k3 k2, he])
theorem call_end {β : Type} {encB : β → Option Value} {F : β → Mem → Option (α × Mem)} (ok : Ok g l x own cc nL ret rm) {rmc : Room} {a : Array Value} {rest : List Value} {r : β} {M2 : Mem} {res : α × Mem} {H : Heap} {locs : List Loc} {ls : Array Slot} (hr : F r M2 = some res) (hS : va_S (gU g) (cxS x).heap H locs) (hL : lv_has ls nL lv)
    (run : va_Run (cxP x) l (cxE x) (cxR x) (cxS x) (cxM x) (cxA x) (cxB x) (cxMe x) (cxC x) H locs c s rmc.cells rmc.slots (F0 (cxM x) pc ls stk) rest (Qp g (encB r) M2 a) (gU g)) (kk : Sw g l x Q nL (c + rmc.cells) (s + rmc.slots) (pc + 3) lv ((encB r).toList ++ rest) M2 (F r M2)) : Wx l x H locs c s (Q res) (F0 (cxM x) pc ls stk) := by
  intro T hT X
  obtain ⟨v, st₀, t, T', L, h0, X', hLf, e1, e2, ⟨⟨hv, hWd⟩, hz, hk⟩, st⟩ := run T hT X
  cases hv
  rw [h0] at hz hk
  obtain ⟨t2, a1, b1⟩ := kk res hr T'.heap (locs ++ L) ls (by rw [e1]; exact hWd) ⟨Nat.le_trans hS.1 (by rw [e1]; exact hz), fun q h1 h2 => by rw [e1, hk q (Nat.lt_of_lt_of_le h1 hS.1) h2]; exact hS.2.1 q h1 h2, fun q hq => by
      rcases List.mem_append.mp hq with h | h
      · exact hS.2.2 q h
      · exact hLf q h⟩ hL T' rfl X'
  exact ⟨t2, st t2 a1, b1⟩
theorem r_callS {β : Type} {encB : β → Option Value} {fc : Option (β × Mem)} {F : β → Mem → Option (α × Mem)} {idx maxL n : Nat} {y : MethodName} {bytes : ByteArray} {retc : Option FieldType} (ok : Ok g l x own cc nL ret rm) (As rest : List Value) (rmc : Room) (hc : ∀ r M2, fc = some (r, M2) → Con g l y bytes maxL retc rmc As M (encB r) M2) (cs : CS own idx y bytes maxL retc n) (hrm : rmOk c s rmc rm maxL) (hd : decode cc pc = .ok (.invokestatic idx, 3)) (hn : As.length = n) (hst : stk = As.reverse ++ rest) (hsum : (rest.map fun v => v.category).sum ≤ 8)
    (kk : ∀ r M2, Sw g l x Q nL (c + rmc.cells) (s + rmc.slots) (pc + 3) lv ((encB r).toList ++ rest) M2 (F r M2)) : Sw g l x Q nL c s pc lv stk M (ob fc F) := by
  intro res hr H locs ls hW hS hL
  obtain ⟨o1, o2, o3, o4, o5, o6, o7, o8, o9, o10⟩ := id ok
  cases hf : fc with
  | none => rw [hf] at hr; cases hr
  | some rp =>
    obtain ⟨r, M2⟩ := rp
    rw [hf] at hr
    have hM := hc r M2 hf
    obtain ⟨c1, c2, c3, c4, c5⟩ := cs
    refine call_end ok hr hS hL (va_runS ⟨o1, o2, o3, o4, o5⟩ hM ⟨callB_of n o5 (code_good c4 rfl) rfl rfl rfl (o5 _ c3) (o5 _ c1) c5 (by rw [o8]; exact ⟨hrm.1, hrm.2.1⟩), o5 _ c2⟩ ⟨Pp_blind, fun U hU hWm => ⟨rfl, by rw [hU]; exact hW, o9.go hWm hS hU, by rw [hU]; exact Nat.le_trans o10 hS.1⟩⟩ rfl hn hL.1 hst (lv_room hsum) hd (by rw [o8]; exact ⟨hrm.2.2.1, hrm.2.2.2⟩)) (kk r M2)
theorem r_callV {β : Type} {encB : β → Option Value} {fc : Option (β × Mem)} {F : β → Mem → Option (α × Mem)} {idx maxL n : Nat} {y : MethodName} {bytes : ByteArray} {retc : Option FieldType} {K i : Nat} {C : String} (ok : Ok g l x own cc nL ret rm) (As rest : List Value) (rmc : Room) (hc : ∀ r M2, fc = some (r, M2) → Con g l y bytes maxL retc rmc (.ref (gA g K i) :: As) M (encB r) M2) (cs : CV own C idx y bytes maxL retc n) (hO : OK K i C) (hrm : rmOk c s rmc rm maxL) (hd : decode cc pc = .ok (.invokevirtual idx, 3)) (hn : As.length = n) (hst : stk = As.reverse ++ .ref (gA g K i) :: rest) (hsum : (rest.map fun v => v.category).sum ≤ 8)
    (kk : ∀ r M2, Sw g l x Q nL (c + rmc.cells) (s + rmc.slots) (pc + 3) lv ((encB r).toList ++ rest) M2 (F r M2)) : Sw g l x Q nL c s pc lv stk M (ob fc F) := by
  intro res hr H locs ls hW hS hL
  obtain ⟨o1, o2, o3, o4, o5, o6, o7, o8, o9, o10⟩ := id ok
  cases hf : fc with
  | none => rw [hf] at hr; cases hr
  | some rp =>
    obtain ⟨r, M2⟩ := rp
    rw [hf] at hr
    have hM := hc r M2 hf
    obtain ⟨c1, c2, c3, c4, c6, c5, c7⟩ := cs
    refine call_end ok hr hS hL (va_runV (C := C) ⟨o1, o2, o3, o4, o5⟩ hM ⟨callB_of n o5 (code_good c5 rfl) rfl rfl rfl (by rw [c6]; exact o5 _ c4) (o5 _ c1) c7 (by rw [o8]; exact ⟨hrm.1, hrm.2.1⟩), o5 _ c2, o5 _ c3⟩ ⟨Pp_blind, hO.recv o9.1 hW, fun U hU hWm => ⟨rfl, by rw [hU]; exact hW, o9.go hWm hS hU, by rw [hU]; exact Nat.le_trans o10 hS.1⟩⟩ rfl hn hL.1 hst (lv_room hsum) hd (by rw [o8]; exact ⟨hrm.2.2.1, hrm.2.2.2⟩)) (kk r M2)
theorem r_callSN {β : Type} {encB : β → Option Value} {fc : Option (β × Mem)} {F : β → Mem → Option (α × Mem)} {idx maxL n : Nat} {y : MethodName} {bytes : ByteArray} {retc : Option FieldType} (ok : Ok g l x own cc nL ret rm) (As rest : List Value) (rmc : Room) (hc : ∀ r M2, fc = some (r, M2) → Con g l y bytes maxL retc rmc As M (encB r) M2) (cs : CSN own idx y bytes maxL retc n) (hrm : rmOk c s rmc rm maxL) (hd : decode cc pc = .ok (.invokestatic idx, 3)) (hn : As.length = n) (hst : stk = As.reverse ++ rest) (hsum : (rest.map fun v => v.category).sum ≤ 8)
    (kk : ∀ r M2, Sw g l x Q nL (c + rmc.cells) (s + rmc.slots) (pc + 3) lv ((encB r).toList ++ rest) M2 (F r M2)) : Sw g l x Q nL c s pc lv stk M (ob fc F) := by
  intro res hr H locs ls hW hS hL
  obtain ⟨o1, o2, o3, o4, o5, o6, o7, o8, o9, o10⟩ := id ok
  cases hf : fc with
  | none => rw [hf] at hr; cases hr
  | some rp =>
    obtain ⟨r, M2⟩ := rp
    rw [hf] at hr
    have hM := hc r M2 hf
    obtain ⟨c1, c2, c3, c4, c5⟩ := cs
    obtain ⟨host, c1⟩ := c1
    refine call_end ok hr hS hL (va_runSN (host := host) ⟨o1, o2, o3, o4, o5⟩ hM ⟨va_cnB n o5 (code_good c4 rfl) rfl rfl rfl (o9.2.1 _ c1) (o5 _ c3) c5 (by rw [o8]; exact ⟨hrm.1, hrm.2.1⟩), o5 _ c2, trivial⟩ ⟨Pp_blind, fun U hU hWm => ⟨rfl, by rw [hU]; exact hW, o9.go hWm hS hU, by rw [hU]; exact Nat.le_trans o10 hS.1⟩⟩ rfl hn hL.1 hst (lv_room hsum) hd (by rw [o8]; exact ⟨hrm.2.2.1, hrm.2.2.2⟩)) (kk r M2)
theorem r_callVN {β : Type} {encB : β → Option Value} {fc : Option (β × Mem)} {F : β → Mem → Option (α × Mem)} {idx maxL n : Nat} {y : MethodName} {bytes : ByteArray} {retc : Option FieldType} {K i : Nat} {C : String} (ok : Ok g l x own cc nL ret rm) (As rest : List Value) (rmc : Room) (hc : ∀ r M2, fc = some (r, M2) → Con g l y bytes maxL retc rmc (.ref (gA g K i) :: As) M (encB r) M2) (cs : CVN own C idx y bytes maxL retc n) (hO : OK K i C) (hrm : rmOk c s rmc rm maxL) (hd : decode cc pc = .ok (.invokevirtual idx, 3)) (hn : As.length = n) (hst : stk = As.reverse ++ .ref (gA g K i) :: rest) (hsum : (rest.map fun v => v.category).sum ≤ 8)
    (kk : ∀ r M2, Sw g l x Q nL (c + rmc.cells) (s + rmc.slots) (pc + 3) lv ((encB r).toList ++ rest) M2 (F r M2)) : Sw g l x Q nL c s pc lv stk M (ob fc F) := by
  intro res hr H locs ls hW hS hL
  obtain ⟨o1, o2, o3, o4, o5, o6, o7, o8, o9, o10⟩ := id ok
  cases hf : fc with
  | none => rw [hf] at hr; cases hr
  | some rp =>
    obtain ⟨r, M2⟩ := rp
    rw [hf] at hr
    have hM := hc r M2 hf
    obtain ⟨c1, c2, c3, c4, c6, c5, c7⟩ := cs
    obtain ⟨host, c1⟩ := c1
    refine call_end ok hr hS hL (va_runVN (C := C) (host := host) ⟨o1, o2, o3, o4, o5⟩ hM ⟨va_cnB n o5 (code_good c5 rfl) rfl rfl rfl (o9.2.1 _ c1) (by rw [c6]; exact o5 _ c4) c7 (by rw [o8]; exact ⟨hrm.1, hrm.2.1⟩), o5 _ c2, o5 _ c3⟩ ⟨Pp_blind, hO.recv o9.1 hW, fun U hU hWm => ⟨rfl, by rw [hU]; exact hW, o9.go hWm hS hU, by rw [hU]; exact Nat.le_trans o10 hS.1⟩⟩ rfl hn hL.1 hst (lv_room hsum) hd (by rw [o8]; exact ⟨hrm.2.2.1, hrm.2.2.2⟩)) (kk r M2)
end RW
