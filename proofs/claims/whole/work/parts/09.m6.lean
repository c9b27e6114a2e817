def fX11_where_B35 (vq1 : Int32) (vq2 : Int32) (vq3 : Int32) (vq4 : Int32) (k35 : Int64 → Int32 → Mem → Option (Int64 × Mem)) (vq5 : Int64) (vq7 : Int32) (M : Mem) : Option (Int64 × Mem) :=
  if 36 ≤ vq7 then
    (gd (inb vq3 6)
    (lt (mst M 25 0 vq3.toNatClampNeg vq4) fun M6 =>
    some (vq5, M6)))
  else
    (gd (inb vq3 6)
    (lt (mst M 25 0 vq3.toNatClampNeg vq7) fun M7 =>
    ob (fX11_unlike vq1 vq2 M7) fun r8 M9 =>
    if r8 = (-1) then
      (lt (vq5 ||| (lshl 1 vq7)) fun w11 =>
      k35 w11 (vq7 + 1) M9)
    else
      (lt (vq5 ||| 0) fun w10 =>
      k35 w10 (vq7 + 1) M9)))
def fX11_where_L35 (vq1 : Int32) (vq2 : Int32) (vq3 : Int32) (vq4 : Int32) : Nat → Int64 → Int32 → Mem → Option (Int64 × Mem)
  | 0, _, _, _ => none
  | n + 1, vq5, vq7, M => fX11_where_B35 vq1 vq2 vq3 vq4 (fX11_where_L35 vq1 vq2 vq3 vq4 n) vq5 vq7 M
set_option maxRecDepth 20000 in
theorem sX11_where_B35 {g : GP} {l : Launch} {x : CT} (ok : Ok g l x RX11 cX11_where 8 (some FieldType.long) (rmL 8)) (vq1 : Int32) (vq2 : Int32) (vq3 : Int32) (vq4 : Int32)  (k35 : Int64 → Int32 → Mem → Option (Int64 × Mem)) (hk35 : ∀ (vq5 : Int64) (vq7 : Int32) (M : Mem), Sw g l x (FinQ g x eJ) 8 0 0 35 [(0, .ref (gA g 22 0)), (1, .int vq1), (2, .int vq2), (3, .int vq3), (4, .int vq4), (5, .long vq5), (7, .int vq7)] [] M (k35 vq5 vq7 M)) (vq5 : Int64) (vq7 : Int32) (M : Mem) : Sw g l x (FinQ g x eJ) 8 0 0 35 [(0, .ref (gA g 22 0)), (1, .int vq1), (2, .int vq2), (3, .int vq3), (4, .int vq4), (5, .long vq5), (7, .int vq7)] [] M (fX11_where_B35 vq1 vq2 vq3 vq4 k35 vq5 vq7 M) := by
  unfold fX11_where_B35
  refine r_iload (pc := 35) ok 6 dX11_where_35 rfl ?_
  refine r_bipush (pc := 37) ok 36 dX11_where_37 (by decide) ?_
  refine r_icmp_ge (pc := 39) ok 79 dX11_where_39 (by decide) (fun _ => ?_) (fun _ => ?_)
  · refine r_aload_n (pc := 79) ok 0 dX11_where_79 rfl ?_
    refine r_getR (pc := 80) ok fr_22_3 (by decide) fl_X11_16 dX11_where_80 ?_
    refine r_iload_n (pc := 83) ok 3 dX11_where_83 rfl ?_
    refine r_iload (pc := 84) ok 4 dX11_where_84 rfl ?_
    refine r_iast (pc := 86) ok ik_25 (by decide) dX11_where_86 ?_
    refine r_nmM (fun M6 => ?_)
    refine r_lload (pc := 87) ok 5 dX11_where_87 rfl ?_
    exact r_lret (pc := 89) ok (Nat.zero_le _) (Nat.zero_le _) rfl dX11_where_89
  · refine r_aload_n (pc := 42) ok 0 dX11_where_42 rfl ?_
    refine r_getR (pc := 43) ok fr_22_3 (by decide) fl_X11_16 dX11_where_43 ?_
    refine r_iload_n (pc := 46) ok 3 dX11_where_46 rfl ?_
    refine r_iload (pc := 47) ok 6 dX11_where_47 rfl ?_
    refine r_iast (pc := 49) ok ik_25 (by decide) dX11_where_49 ?_
    refine r_nmM (fun M7 => ?_)
    refine r_lload (pc := 50) ok 5 dX11_where_50 rfl ?_
    refine r_aload_n (pc := 52) ok 0 dX11_where_52 rfl ?_
    refine r_iload_n (pc := 53) ok 1 dX11_where_53 rfl ?_
    refine r_iload_n (pc := 54) ok 2 dX11_where_54 rfl ?_
    refine r_callV0 (pc := 55) ok [.int vq1, .int vq2] [.long vq5] 7 (fun rZ MZ hZ => con_X11_unlike g l vq1 vq2 _ rZ MZ hZ) cv_X11_244 ok_22 (rmOk_L (by decide) (by decide)) dX11_where_55 rfl rfl (Nat.le_of_ble_eq_true rfl) (fun r8 M9 => ?_)
    refine r_iconst (pc := 58) ok (-1) dX11_where_58 (by decide) ?_
    refine r_icmp_ne (pc := 59) ok 69 dX11_where_59 (by decide) (fun _ => ?_) (fun _ => ?_)
    · refine r_lconst (pc := 62) ok 1 dX11_where_62 (by decide) ?_
      refine r_iload (pc := 63) ok 6 dX11_where_63 rfl ?_
      refine r_lshl (pc := 65) ok dX11_where_65 ?_
      refine r_goto (pc := 66) ok 70 dX11_where_66 (by decide) ?_
      refine r_lor (pc := 70) ok dX11_where_70 ?_
      refine r_nml (fun w11 => ?_)
      refine r_lstore (pc := 71) ok [(5, .long w11), (0, .ref (gA g 22 0)), (1, .int vq1), (2, .int vq2), (3, .int vq3), (4, .int vq4), (7, .int vq7)] dX11_where_71 (by decide) rfl ?_
      refine r_iinc (pc := 73) ok 6 (vq7 + 1) [(7, .int (vq7 + 1)), (5, .long w11), (0, .ref (gA g 22 0)), (1, .int vq1), (2, .int vq2), (3, .int vq3), (4, .int vq4)] dX11_where_73 rfl (congrArg (fun z => vq7 + z) (by decide : Int32.ofInt 1 = (1 : Int32))) (by decide) rfl ?_
      refine r_goto (pc := 76) ok 35 dX11_where_76 (by decide) ?_
      refine r_lv [2, 3, 4, 5, 6, 1, 0] [(0, .ref (gA g 22 0)), (1, .int vq1), (2, .int vq2), (3, .int vq3), (4, .int vq4), (5, .long w11), (7, .int (vq7 + 1))] rfl ?_
      exact hk35 w11 (vq7 + 1) M9
    · refine r_lconst (pc := 69) ok 0 dX11_where_69 (by decide) ?_
      refine r_lor (pc := 70) ok dX11_where_70 ?_
      refine r_nml (fun w10 => ?_)
      refine r_lstore (pc := 71) ok [(5, .long w10), (0, .ref (gA g 22 0)), (1, .int vq1), (2, .int vq2), (3, .int vq3), (4, .int vq4), (7, .int vq7)] dX11_where_71 (by decide) rfl ?_
      refine r_iinc (pc := 73) ok 6 (vq7 + 1) [(7, .int (vq7 + 1)), (5, .long w10), (0, .ref (gA g 22 0)), (1, .int vq1), (2, .int vq2), (3, .int vq3), (4, .int vq4)] dX11_where_73 rfl (congrArg (fun z => vq7 + z) (by decide : Int32.ofInt 1 = (1 : Int32))) (by decide) rfl ?_
      refine r_goto (pc := 76) ok 35 dX11_where_76 (by decide) ?_
      refine r_lv [2, 3, 4, 5, 6, 1, 0] [(0, .ref (gA g 22 0)), (1, .int vq1), (2, .int vq2), (3, .int vq3), (4, .int vq4), (5, .long w10), (7, .int (vq7 + 1))] rfl ?_
      exact hk35 w10 (vq7 + 1) M9
theorem sX11_where_L35 {g : GP} {l : Launch} {x : CT} (ok : Ok g l x RX11 cX11_where 8 (some FieldType.long) (rmL 8)) (vq1 : Int32) (vq2 : Int32) (vq3 : Int32) (vq4 : Int32)  : ∀ (n : Nat) (vq5 : Int64) (vq7 : Int32) (M : Mem), Sw g l x (FinQ g x eJ) 8 0 0 35 [(0, .ref (gA g 22 0)), (1, .int vq1), (2, .int vq2), (3, .int vq3), (4, .int vq4), (5, .long vq5), (7, .int vq7)] [] M (fX11_where_L35 vq1 vq2 vq3 vq4 n vq5 vq7 M) := by
  intro n
  induction n with
  | zero => intros; exact r_none
  | succ n ih => intro vq5 vq7 M; exact sX11_where_B35 ok vq1 vq2 vq3 vq4  _ ih vq5 vq7 M
def fX11_where (vq1 : Int32) (vq2 : Int32) (vq3 : Int32) (M : Mem) : Option (Int64 × Mem) :=
  ob (fX11_toldWrong vq1 vq2 M) fun r1 M2 =>
  if r1 = 0 then
    (ob (fX11_isOne vq3 M2) fun r3 M4 =>
    if r3 = 0 then
      (some (-4611686018427387904, M4))
    else
      (gd (inb vq3 6)
      (lt (M4 25 0 vq3.toNatClampNeg) fun w5 =>
      fX11_where_L35 vq1 vq2 vq3 w5 FU 0 0 M4)))
  else
    (some (-4611686018427387904, M2))
set_option maxRecDepth 20000 in
theorem wX11_where {g : GP} {l : Launch} {x : CT} (ok : Ok g l x RX11 cX11_where 8 (some FieldType.long) (rmL 8)) (vq1 : Int32) (vq2 : Int32) (vq3 : Int32)  (M : Mem) : Sw g l x (FinQ g x eJ) 8 0 0 0 [(0, .ref (gA g 22 0)), (1, .int vq1), (2, .int vq2), (3, .int vq3)] [] M (fX11_where vq1 vq2 vq3 M) := by
  unfold fX11_where
  refine r_aload_n (pc := 0) ok 0 dX11_where_0 rfl ?_
  refine r_iload_n (pc := 1) ok 1 dX11_where_1 rfl ?_
  refine r_iload_n (pc := 2) ok 2 dX11_where_2 rfl ?_
  refine r_callV0 (pc := 3) ok [.int vq1, .int vq2] [] 4 (fun rZ MZ hZ => con_X11_toldWrong g l vq1 vq2 _ rZ MZ hZ) cv_X11_241 ok_22 (rmOk_L (by decide) (by decide)) dX11_where_3 rfl rfl (Nat.le_of_ble_eq_true rfl) (fun r1 M2 => ?_)
  refine r_if_ne (pc := 6) ok 17 dX11_where_6 (by decide) (fun _ => ?_) (fun _ => ?_)
  · refine r_aload_n (pc := 9) ok 0 dX11_where_9 rfl ?_
    refine r_iload_n (pc := 10) ok 3 dX11_where_10 rfl ?_
    refine r_callV0 (pc := 11) ok [.int vq3] [] 3 (fun rZ MZ hZ => con_X11_isOne g l vq3 _ rZ MZ hZ) cv_X11_176 ok_22 (rmOk_L (by decide) (by decide)) dX11_where_11 rfl rfl (Nat.le_of_ble_eq_true rfl) (fun r3 M4 => ?_)
    refine r_if_ne (pc := 14) ok 21 dX11_where_14 (by decide) (fun _ => ?_) (fun _ => ?_)
    · refine r_ldc2 (pc := 17) ok wcl_X11_216 dX11_where_17 ?_
      exact r_lret (pc := 20) ok (Nat.zero_le _) (Nat.zero_le _) rfl dX11_where_20
    · refine r_aload_n (pc := 21) ok 0 dX11_where_21 rfl ?_
      refine r_getR (pc := 22) ok fr_22_3 (by decide) fl_X11_16 dX11_where_22 ?_
      refine r_iload_n (pc := 25) ok 3 dX11_where_25 rfl ?_
      refine r_iald (pc := 26) ok ik_25 (by decide) dX11_where_26 (fun _ => ?_)
      refine r_nmi (fun w5 => ?_)
      refine r_istore (pc := 27) ok [(4, .int w5), (0, .ref (gA g 22 0)), (1, .int vq1), (2, .int vq2), (3, .int vq3)] dX11_where_27 (by decide) rfl ?_
      refine r_lconst (pc := 29) ok 0 dX11_where_29 (by decide) ?_
      refine r_lstore (pc := 30) ok [(5, .long 0), (4, .int w5), (0, .ref (gA g 22 0)), (1, .int vq1), (2, .int vq2), (3, .int vq3)] dX11_where_30 (by decide) rfl ?_
      refine r_iconst (pc := 32) ok 0 dX11_where_32 (by decide) ?_
      refine r_istore (pc := 33) ok [(7, .int 0), (5, .long 0), (4, .int w5), (0, .ref (gA g 22 0)), (1, .int vq1), (2, .int vq2), (3, .int vq3)] dX11_where_33 (by decide) rfl ?_
      refine r_lv [3, 4, 5, 6, 2, 1, 0] [(0, .ref (gA g 22 0)), (1, .int vq1), (2, .int vq2), (3, .int vq3), (4, .int w5), (5, .long 0), (7, .int 0)] rfl ?_
      exact sX11_where_L35 ok vq1 vq2 vq3 w5 FU 0 0 M4
  · refine r_ldc2 (pc := 17) ok wcl_X11_216 dX11_where_17 ?_
    exact r_lret (pc := 20) ok (Nat.zero_le _) (Nat.zero_le _) rfl dX11_where_20
theorem con_X11_where (g : GP) (l : Launch) (vq1 : Int32) (vq2 : Int32) (vq3 : Int32)  (M : Mem) (r : Int64) (M2 : Mem) (h : fX11_where vq1 vq2 vq3 M = some (r, M2)) : Con g l yX11_where cX11_where 8 (some FieldType.long) (rmL 8) [.ref (gA g 22 0), .int vq1, .int vq2, .int vq3] M (eJ r) M2 :=
  Con.of (own := RX11) (f := fX11_where vq1 vq2 vq3 M) (by decide) (Nat.le_of_ble_eq_true rfl) rfl (fun x ok => wX11_where ok vq1 vq2 vq3  M) r M2 h
def fX11_holds_J101 (k57 : Int32 → Int32 → Int32 → Mem → Option (Int32 × Mem)) (vq1 : Int32) (vq2 : Int32) (vq3 : Int32) (vq4 : Int32) (vq6 : Int32) (vq8 : Int32) (vq9 : Int32) (vq10 : Int32) (s0 : Int32) (s1 : Int32) (M : Mem) : Option (Int32 × Mem) :=
  lt (s1 + s0) fun w12 =>
  if vq10 = 0 then
    (k57 w12 vq8 (vq9 + 1) M)
  else
    (if vq8 = (-1) then
      (k57 w12 vq9 (vq9 + 1) M)
    else
      (k57 w12 vq8 (vq9 + 1) M))
set_option maxRecDepth 20000 in
theorem sX11_holds_J101 {g : GP} {l : Launch} {x : CT} {k57 : Int32 → Int32 → Int32 → Mem → Option (Int32 × Mem)} (ok : Ok g l x RX11 cX11_holds 11 (some FieldType.int) (rmL 8)) (vq1 : Int32) (vq2 : Int32) (vq3 : Int32) (vq4 : Int32) (vq6 : Int32) (vq8 : Int32) (vq9 : Int32) (vq10 : Int32) (s0 : Int32) (s1 : Int32)  (hk57 : ∀ (vq7 : Int32) (vq8 : Int32) (vq9 : Int32) (M : Mem), Sw g l x (FinQ g x eI) 11 0 0 57 [(0, .ref (gA g 22 0)), (1, .int vq1), (2, .int vq2), (3, .int vq3), (4, .int vq4), (6, .int vq6), (7, .int vq7), (8, .int vq8), (9, .int vq9)] [] M (k57 vq7 vq8 vq9 M)) (M : Mem) : Sw g l x (FinQ g x eI) 11 0 0 101 [(0, .ref (gA g 22 0)), (1, .int vq1), (2, .int vq2), (3, .int vq3), (4, .int vq4), (6, .int vq6), (8, .int vq8), (9, .int vq9), (10, .int vq10)] [.int s0, .int s1] M (fX11_holds_J101 k57 vq1 vq2 vq3 vq4 vq6 vq8 vq9 vq10 s0 s1 M) := by
  unfold fX11_holds_J101
  refine r_iadd (pc := 101) ok dX11_holds_101 ?_
  refine r_nmi (fun w12 => ?_)
  refine r_istore (pc := 102) ok [(7, .int w12), (0, .ref (gA g 22 0)), (1, .int vq1), (2, .int vq2), (3, .int vq3), (4, .int vq4), (6, .int vq6), (8, .int vq8), (9, .int vq9), (10, .int vq10)] dX11_holds_102 (by decide) rfl ?_
  refine r_iload (pc := 104) ok 9 dX11_holds_104 rfl ?_
  refine r_if_eq (pc := 106) ok 120 dX11_holds_106 (by decide) (fun _ => ?_) (fun _ => ?_)
  · refine r_iload (pc := 120) ok 7 dX11_holds_120 rfl ?_
    refine r_istore (pc := 122) ok [(8, .int vq8), (7, .int w12), (0, .ref (gA g 22 0)), (1, .int vq1), (2, .int vq2), (3, .int vq3), (4, .int vq4), (6, .int vq6), (9, .int vq9), (10, .int vq10)] dX11_holds_122 (by decide) rfl ?_
    refine r_iinc (pc := 124) ok 8 (vq9 + 1) [(9, .int (vq9 + 1)), (8, .int vq8), (7, .int w12), (0, .ref (gA g 22 0)), (1, .int vq1), (2, .int vq2), (3, .int vq3), (4, .int vq4), (6, .int vq6), (10, .int vq10)] dX11_holds_124 rfl (congrArg (fun z => vq9 + z) (by decide : Int32.ofInt 1 = (1 : Int32))) (by decide) rfl ?_
    refine r_goto (pc := 127) ok 57 dX11_holds_127 (by decide) ?_
    refine r_lv [3, 4, 5, 6, 7, 8, 2, 1, 0] [(0, .ref (gA g 22 0)), (1, .int vq1), (2, .int vq2), (3, .int vq3), (4, .int vq4), (6, .int vq6), (7, .int w12), (8, .int vq8), (9, .int (vq9 + 1))] rfl ?_
    exact hk57 w12 vq8 (vq9 + 1) M
  · refine r_iload (pc := 109) ok 7 dX11_holds_109 rfl ?_
    refine r_iconst (pc := 111) ok (-1) dX11_holds_111 (by decide) ?_
    refine r_icmp_ne (pc := 112) ok 120 dX11_holds_112 (by decide) (fun _ => ?_) (fun _ => ?_)
    · refine r_iload (pc := 115) ok 8 dX11_holds_115 rfl ?_
      refine r_goto (pc := 117) ok 122 dX11_holds_117 (by decide) ?_
      refine r_istore (pc := 122) ok [(8, .int vq9), (7, .int w12), (0, .ref (gA g 22 0)), (1, .int vq1), (2, .int vq2), (3, .int vq3), (4, .int vq4), (6, .int vq6), (9, .int vq9), (10, .int vq10)] dX11_holds_122 (by decide) rfl ?_
      refine r_iinc (pc := 124) ok 8 (vq9 + 1) [(9, .int (vq9 + 1)), (8, .int vq9), (7, .int w12), (0, .ref (gA g 22 0)), (1, .int vq1), (2, .int vq2), (3, .int vq3), (4, .int vq4), (6, .int vq6), (10, .int vq10)] dX11_holds_124 rfl (congrArg (fun z => vq9 + z) (by decide : Int32.ofInt 1 = (1 : Int32))) (by decide) rfl ?_
      refine r_goto (pc := 127) ok 57 dX11_holds_127 (by decide) ?_
      refine r_lv [3, 4, 5, 6, 7, 8, 2, 1, 0] [(0, .ref (gA g 22 0)), (1, .int vq1), (2, .int vq2), (3, .int vq3), (4, .int vq4), (6, .int vq6), (7, .int w12), (8, .int vq9), (9, .int (vq9 + 1))] rfl ?_
      exact hk57 w12 vq9 (vq9 + 1) M
    · refine r_iload (pc := 120) ok 7 dX11_holds_120 rfl ?_
      refine r_istore (pc := 122) ok [(8, .int vq8), (7, .int w12), (0, .ref (gA g 22 0)), (1, .int vq1), (2, .int vq2), (3, .int vq3), (4, .int vq4), (6, .int vq6), (9, .int vq9), (10, .int vq10)] dX11_holds_122 (by decide) rfl ?_
      refine r_iinc (pc := 124) ok 8 (vq9 + 1) [(9, .int (vq9 + 1)), (8, .int vq8), (7, .int w12), (0, .ref (gA g 22 0)), (1, .int vq1), (2, .int vq2), (3, .int vq3), (4, .int vq4), (6, .int vq6), (10, .int vq10)] dX11_holds_124 rfl (congrArg (fun z => vq9 + z) (by decide : Int32.ofInt 1 = (1 : Int32))) (by decide) rfl ?_
      refine r_goto (pc := 127) ok 57 dX11_holds_127 (by decide) ?_
      refine r_lv [3, 4, 5, 6, 7, 8, 2, 1, 0] [(0, .ref (gA g 22 0)), (1, .int vq1), (2, .int vq2), (3, .int vq3), (4, .int vq4), (6, .int vq6), (7, .int w12), (8, .int vq8), (9, .int (vq9 + 1))] rfl ?_
      exact hk57 w12 vq8 (vq9 + 1) M
def fX11_holds_J87 (k57 : Int32 → Int32 → Int32 → Mem → Option (Int32 × Mem)) (vq1 : Int32) (vq2 : Int32) (vq3 : Int32) (vq4 : Int32) (vq6 : Int32) (vq7 : Int32) (vq8 : Int32) (vq9 : Int32) (s0 : Int32) (M : Mem) : Option (Int32 × Mem) :=
  if s0 = 0 then
    (fX11_holds_J101 k57 vq1 vq2 vq3 vq4 vq6 vq8 vq9 s0 0 vq7 M)
  else
    (fX11_holds_J101 k57 vq1 vq2 vq3 vq4 vq6 vq8 vq9 s0 1 vq7 M)
set_option maxRecDepth 20000 in
theorem sX11_holds_J87 {g : GP} {l : Launch} {x : CT} {k57 : Int32 → Int32 → Int32 → Mem → Option (Int32 × Mem)} (ok : Ok g l x RX11 cX11_holds 11 (some FieldType.int) (rmL 8)) (vq1 : Int32) (vq2 : Int32) (vq3 : Int32) (vq4 : Int32) (vq6 : Int32) (vq7 : Int32) (vq8 : Int32) (vq9 : Int32) (s0 : Int32)  (hk57 : ∀ (vq7 : Int32) (vq8 : Int32) (vq9 : Int32) (M : Mem), Sw g l x (FinQ g x eI) 11 0 0 57 [(0, .ref (gA g 22 0)), (1, .int vq1), (2, .int vq2), (3, .int vq3), (4, .int vq4), (6, .int vq6), (7, .int vq7), (8, .int vq8), (9, .int vq9)] [] M (k57 vq7 vq8 vq9 M)) (M : Mem) : Sw g l x (FinQ g x eI) 11 0 0 87 [(0, .ref (gA g 22 0)), (1, .int vq1), (2, .int vq2), (3, .int vq3), (4, .int vq4), (6, .int vq6), (7, .int vq7), (8, .int vq8), (9, .int vq9)] [.int s0] M (fX11_holds_J87 k57 vq1 vq2 vq3 vq4 vq6 vq7 vq8 vq9 s0 M) := by
  unfold fX11_holds_J87
  refine r_istore (pc := 87) ok [(10, .int s0), (0, .ref (gA g 22 0)), (1, .int vq1), (2, .int vq2), (3, .int vq3), (4, .int vq4), (6, .int vq6), (7, .int vq7), (8, .int vq8), (9, .int vq9)] dX11_holds_87 (by decide) rfl ?_
  refine r_iload (pc := 89) ok 7 dX11_holds_89 rfl ?_
  refine r_iload (pc := 91) ok 0 dX11_holds_91 rfl ?_
  refine r_if_eq (pc := 93) ok 100 dX11_holds_93 (by decide) (fun _ => ?_) (fun _ => ?_)
  · refine r_iconst (pc := 100) ok 0 dX11_holds_100 (by decide) ?_
    refine r_lv [1, 2, 3, 4, 5, 6, 8, 9, 0] [(0, .ref (gA g 22 0)), (1, .int vq1), (2, .int vq2), (3, .int vq3), (4, .int vq4), (6, .int vq6), (8, .int vq8), (9, .int vq9), (10, .int s0)] rfl ?_
    exact sX11_holds_J101 ok vq1 vq2 vq3 vq4 vq6 vq8 vq9 s0 0 vq7 hk57 M
  · refine r_iconst (pc := 96) ok 1 dX11_holds_96 (by decide) ?_
    refine r_goto (pc := 97) ok 101 dX11_holds_97 (by decide) ?_
    refine r_lv [1, 2, 3, 4, 5, 6, 8, 9, 0] [(0, .ref (gA g 22 0)), (1, .int vq1), (2, .int vq2), (3, .int vq3), (4, .int vq4), (6, .int vq6), (8, .int vq8), (9, .int vq9), (10, .int s0)] rfl ?_
    exact sX11_holds_J101 ok vq1 vq2 vq3 vq4 vq6 vq8 vq9 s0 1 vq7 hk57 M
def fX11_holds_B57 (vq1 : Int32) (vq2 : Int32) (vq3 : Int32) (vq4 : Int32) (vq6 : Int32) (k57 : Int32 → Int32 → Int32 → Mem → Option (Int32 × Mem)) (vq7 : Int32) (vq8 : Int32) (vq9 : Int32) (M : Mem) : Option (Int32 × Mem) :=
  if 99 < vq9 then
    (gd (inb vq3 6)
    (lt (mst M 26 0 vq3.toNatClampNeg vq6) fun M8 =>
    if vq4 = 0 then
      (some (vq7, M8))
    else
      (some (vq8, M8))))
  else
    (gd (inb vq3 6)
    (lt (mst M 26 0 vq3.toNatClampNeg vq9) fun M9 =>
    ob (fX11_unlike vq1 vq2 M9) fun r10 M11 =>
    if r10 = (-1) then
      (fX11_holds_J87 k57 vq1 vq2 vq3 vq4 vq6 vq7 vq8 vq9 1 M11)
    else
      (fX11_holds_J87 k57 vq1 vq2 vq3 vq4 vq6 vq7 vq8 vq9 0 M11)))
def fX11_holds_L57 (vq1 : Int32) (vq2 : Int32) (vq3 : Int32) (vq4 : Int32) (vq6 : Int32) : Nat → Int32 → Int32 → Int32 → Mem → Option (Int32 × Mem)
  | 0, _, _, _, _ => none
  | n + 1, vq7, vq8, vq9, M => fX11_holds_B57 vq1 vq2 vq3 vq4 vq6 (fX11_holds_L57 vq1 vq2 vq3 vq4 vq6 n) vq7 vq8 vq9 M
set_option maxRecDepth 20000 in
theorem sX11_holds_B57 {g : GP} {l : Launch} {x : CT} (ok : Ok g l x RX11 cX11_holds 11 (some FieldType.int) (rmL 8)) (vq1 : Int32) (vq2 : Int32) (vq3 : Int32) (vq4 : Int32) (vq6 : Int32)  (k57 : Int32 → Int32 → Int32 → Mem → Option (Int32 × Mem)) (hk57 : ∀ (vq7 : Int32) (vq8 : Int32) (vq9 : Int32) (M : Mem), Sw g l x (FinQ g x eI) 11 0 0 57 [(0, .ref (gA g 22 0)), (1, .int vq1), (2, .int vq2), (3, .int vq3), (4, .int vq4), (6, .int vq6), (7, .int vq7), (8, .int vq8), (9, .int vq9)] [] M (k57 vq7 vq8 vq9 M)) (vq7 : Int32) (vq8 : Int32) (vq9 : Int32) (M : Mem) : Sw g l x (FinQ g x eI) 11 0 0 57 [(0, .ref (gA g 22 0)), (1, .int vq1), (2, .int vq2), (3, .int vq3), (4, .int vq4), (6, .int vq6), (7, .int vq7), (8, .int vq8), (9, .int vq9)] [] M (fX11_holds_B57 vq1 vq2 vq3 vq4 vq6 k57 vq7 vq8 vq9 M) := by
  unfold fX11_holds_B57
  refine r_iload (pc := 57) ok 8 dX11_holds_57 rfl ?_
  refine r_bipush (pc := 59) ok 99 dX11_holds_59 (by decide) ?_
  refine r_icmp_gt (pc := 61) ok 130 dX11_holds_61 (by decide) (fun _ => ?_) (fun _ => ?_)
  · refine r_aload_n (pc := 130) ok 0 dX11_holds_130 rfl ?_
    refine r_getR (pc := 131) ok fr_22_4 (by decide) fl_X11_19 dX11_holds_131 ?_
    refine r_iload_n (pc := 134) ok 3 dX11_holds_134 rfl ?_
    refine r_iload (pc := 135) ok 5 dX11_holds_135 rfl ?_
    refine r_iast (pc := 137) ok ik_26 (by decide) dX11_holds_137 ?_
    refine r_nmM (fun M8 => ?_)
    refine r_iload (pc := 138) ok 4 dX11_holds_138 rfl ?_
    refine r_if_ne (pc := 140) ok 148 dX11_holds_140 (by decide) (fun _ => ?_) (fun _ => ?_)
    · refine r_iload (pc := 143) ok 6 dX11_holds_143 rfl ?_
      refine r_goto (pc := 145) ok 150 dX11_holds_145 (by decide) ?_
      exact r_iret (pc := 150) ok (Nat.zero_le _) (Nat.zero_le _) rfl dX11_holds_150
    · refine r_iload (pc := 148) ok 7 dX11_holds_148 rfl ?_
      exact r_iret (pc := 150) ok (Nat.zero_le _) (Nat.zero_le _) rfl dX11_holds_150
  · refine r_aload_n (pc := 64) ok 0 dX11_holds_64 rfl ?_
    refine r_getR (pc := 65) ok fr_22_4 (by decide) fl_X11_19 dX11_holds_65 ?_
    refine r_iload_n (pc := 68) ok 3 dX11_holds_68 rfl ?_
    refine r_iload (pc := 69) ok 8 dX11_holds_69 rfl ?_
    refine r_iast (pc := 71) ok ik_26 (by decide) dX11_holds_71 ?_
    refine r_nmM (fun M9 => ?_)
    refine r_aload_n (pc := 72) ok 0 dX11_holds_72 rfl ?_
    refine r_iload_n (pc := 73) ok 1 dX11_holds_73 rfl ?_
    refine r_iload_n (pc := 74) ok 2 dX11_holds_74 rfl ?_
    refine r_callV0 (pc := 75) ok [.int vq1, .int vq2] [] 7 (fun rZ MZ hZ => con_X11_unlike g l vq1 vq2 _ rZ MZ hZ) cv_X11_244 ok_22 (rmOk_L (by decide) (by decide)) dX11_holds_75 rfl rfl (Nat.le_of_ble_eq_true rfl) (fun r10 M11 => ?_)
    refine r_iconst (pc := 78) ok (-1) dX11_holds_78 (by decide) ?_
    refine r_icmp_ne (pc := 79) ok 86 dX11_holds_79 (by decide) (fun _ => ?_) (fun _ => ?_)
    · refine r_iconst (pc := 82) ok 1 dX11_holds_82 (by decide) ?_
      refine r_goto (pc := 83) ok 87 dX11_holds_83 (by decide) ?_
      refine r_lv [0, 1, 2, 3, 4, 5, 6, 7, 8] [(0, .ref (gA g 22 0)), (1, .int vq1), (2, .int vq2), (3, .int vq3), (4, .int vq4), (6, .int vq6), (7, .int vq7), (8, .int vq8), (9, .int vq9)] rfl ?_
      exact sX11_holds_J87 ok vq1 vq2 vq3 vq4 vq6 vq7 vq8 vq9 1 hk57 M11
    · refine r_iconst (pc := 86) ok 0 dX11_holds_86 (by decide) ?_
      refine r_lv [0, 1, 2, 3, 4, 5, 6, 7, 8] [(0, .ref (gA g 22 0)), (1, .int vq1), (2, .int vq2), (3, .int vq3), (4, .int vq4), (6, .int vq6), (7, .int vq7), (8, .int vq8), (9, .int vq9)] rfl ?_
      exact sX11_holds_J87 ok vq1 vq2 vq3 vq4 vq6 vq7 vq8 vq9 0 hk57 M11
theorem sX11_holds_L57 {g : GP} {l : Launch} {x : CT} (ok : Ok g l x RX11 cX11_holds 11 (some FieldType.int) (rmL 8)) (vq1 : Int32) (vq2 : Int32) (vq3 : Int32) (vq4 : Int32) (vq6 : Int32)  : ∀ (n : Nat) (vq7 : Int32) (vq8 : Int32) (vq9 : Int32) (M : Mem), Sw g l x (FinQ g x eI) 11 0 0 57 [(0, .ref (gA g 22 0)), (1, .int vq1), (2, .int vq2), (3, .int vq3), (4, .int vq4), (6, .int vq6), (7, .int vq7), (8, .int vq8), (9, .int vq9)] [] M (fX11_holds_L57 vq1 vq2 vq3 vq4 vq6 n vq7 vq8 vq9 M) := by
  intro n
  induction n with
  | zero => intros; exact r_none
  | succ n ih => intro vq7 vq8 vq9 M; exact sX11_holds_B57 ok vq1 vq2 vq3 vq4 vq6  _ ih vq7 vq8 vq9 M
def fX11_holds (vq1 : Int32) (vq2 : Int32) (vq3 : Int32) (vq4 : Int32) (M : Mem) : Option (Int32 × Mem) :=
  ob (fX11_toldWrong vq1 vq2 M) fun r1 M2 =>
  if r1 = 0 then
    (ob (fX11_isOne vq3 M2) fun r3 M4 =>
    if r3 = 0 then
      (some (-6, M4))
    else
      (ob (fX11_in vq4 0 1 M4) fun r5 M6 =>
      if r5 = 0 then
        (some (-7, M6))
      else
        (gd (inb vq3 6)
        (lt (M6 26 0 vq3.toNatClampNeg) fun w7 =>
        fX11_holds_L57 vq1 vq2 vq3 vq4 w7 FU 0 (-1) 0 M6))))
  else
    (some (r1, M2))
set_option maxRecDepth 20000 in
theorem wX11_holds {g : GP} {l : Launch} {x : CT} (ok : Ok g l x RX11 cX11_holds 11 (some FieldType.int) (rmL 8)) (vq1 : Int32) (vq2 : Int32) (vq3 : Int32) (vq4 : Int32)  (M : Mem) : Sw g l x (FinQ g x eI) 11 0 0 0 [(0, .ref (gA g 22 0)), (1, .int vq1), (2, .int vq2), (3, .int vq3), (4, .int vq4)] [] M (fX11_holds vq1 vq2 vq3 vq4 M) := by
  unfold fX11_holds
  refine r_aload_n (pc := 0) ok 0 dX11_holds_0 rfl ?_
  refine r_iload_n (pc := 1) ok 1 dX11_holds_1 rfl ?_
  refine r_iload_n (pc := 2) ok 2 dX11_holds_2 rfl ?_
  refine r_callV0 (pc := 3) ok [.int vq1, .int vq2] [] 4 (fun rZ MZ hZ => con_X11_toldWrong g l vq1 vq2 _ rZ MZ hZ) cv_X11_241 ok_22 (rmOk_L (by decide) (by decide)) dX11_holds_3 rfl rfl (Nat.le_of_ble_eq_true rfl) (fun r1 M2 => ?_)
  refine r_istore (pc := 6) ok [(5, .int r1), (0, .ref (gA g 22 0)), (1, .int vq1), (2, .int vq2), (3, .int vq3), (4, .int vq4)] dX11_holds_6 (by decide) rfl ?_
  refine r_iload (pc := 8) ok 0 dX11_holds_8 rfl ?_
  refine r_if_eq (pc := 10) ok 16 dX11_holds_10 (by decide) (fun _ => ?_) (fun _ => ?_)
  · refine r_aload_n (pc := 16) ok 1 dX11_holds_16 rfl ?_
    refine r_iload_n (pc := 17) ok 4 dX11_holds_17 rfl ?_
    refine r_callV0 (pc := 18) ok [.int vq3] [] 3 (fun rZ MZ hZ => con_X11_isOne g l vq3 _ rZ MZ hZ) cv_X11_176 ok_22 (rmOk_L (by decide) (by decide)) dX11_holds_18 rfl rfl (Nat.le_of_ble_eq_true rfl) (fun r3 M4 => ?_)
    refine r_if_ne (pc := 21) ok 27 dX11_holds_21 (by decide) (fun _ => ?_) (fun _ => ?_)
    · refine r_bipush (pc := 24) ok (-6) dX11_holds_24 (by decide) ?_
      exact r_iret (pc := 26) ok (Nat.zero_le _) (Nat.zero_le _) rfl dX11_holds_26
    · refine r_iload (pc := 27) ok 5 dX11_holds_27 rfl ?_
      refine r_iconst (pc := 29) ok 0 dX11_holds_29 (by decide) ?_
      refine r_iconst (pc := 30) ok 1 dX11_holds_30 (by decide) ?_
      refine r_callS0 (pc := 31) ok [.int vq4, .int 0, .int 1] [] 2 (fun rZ MZ hZ => con_X11_in g l vq4 0 1 _ rZ MZ hZ) cs_X11_84 (rmOk_L (by decide) (by decide)) dX11_holds_31 rfl rfl (Nat.le_of_ble_eq_true rfl) (fun r5 M6 => ?_)
      refine r_if_ne (pc := 34) ok 40 dX11_holds_34 (by decide) (fun _ => ?_) (fun _ => ?_)
      · refine r_bipush (pc := 37) ok (-7) dX11_holds_37 (by decide) ?_
        exact r_iret (pc := 39) ok (Nat.zero_le _) (Nat.zero_le _) rfl dX11_holds_39
      · refine r_aload_n (pc := 40) ok 1 dX11_holds_40 rfl ?_
        refine r_getR (pc := 41) ok fr_22_4 (by decide) fl_X11_19 dX11_holds_41 ?_
        refine r_iload_n (pc := 44) ok 4 dX11_holds_44 rfl ?_
        refine r_iald (pc := 45) ok ik_26 (by decide) dX11_holds_45 (fun _ => ?_)
        refine r_nmi (fun w7 => ?_)
        refine r_istore (pc := 46) ok [(6, .int w7), (5, .int r1), (0, .ref (gA g 22 0)), (1, .int vq1), (2, .int vq2), (3, .int vq3), (4, .int vq4)] dX11_holds_46 (by decide) rfl ?_
        refine r_iconst (pc := 48) ok 0 dX11_holds_48 (by decide) ?_
        refine r_istore (pc := 49) ok [(7, .int 0), (6, .int w7), (5, .int r1), (0, .ref (gA g 22 0)), (1, .int vq1), (2, .int vq2), (3, .int vq3), (4, .int vq4)] dX11_holds_49 (by decide) rfl ?_
        refine r_iconst (pc := 51) ok (-1) dX11_holds_51 (by decide) ?_
        refine r_istore (pc := 52) ok [(8, .int (-1)), (7, .int 0), (6, .int w7), (5, .int r1), (0, .ref (gA g 22 0)), (1, .int vq1), (2, .int vq2), (3, .int vq3), (4, .int vq4)] dX11_holds_52 (by decide) rfl ?_
        refine r_iconst (pc := 54) ok 0 dX11_holds_54 (by decide) ?_
        refine r_istore (pc := 55) ok [(9, .int 0), (8, .int (-1)), (7, .int 0), (6, .int w7), (5, .int r1), (0, .ref (gA g 22 0)), (1, .int vq1), (2, .int vq2), (3, .int vq3), (4, .int vq4)] dX11_holds_55 (by decide) rfl ?_
        refine r_lv [5, 6, 7, 8, 9, 3, 2, 1, 0] [(0, .ref (gA g 22 0)), (1, .int vq1), (2, .int vq2), (3, .int vq3), (4, .int vq4), (6, .int w7), (7, .int 0), (8, .int (-1)), (9, .int 0)] rfl ?_
        exact sX11_holds_L57 ok vq1 vq2 vq3 vq4 w7 FU 0 (-1) 0 M6
  · refine r_iload (pc := 13) ok 0 dX11_holds_13 rfl ?_
    exact r_iret (pc := 15) ok (Nat.zero_le _) (Nat.zero_le _) rfl dX11_holds_15
theorem con_X11_holds (g : GP) (l : Launch) (vq1 : Int32) (vq2 : Int32) (vq3 : Int32) (vq4 : Int32)  (M : Mem) (r : Int32) (M2 : Mem) (h : fX11_holds vq1 vq2 vq3 vq4 M = some (r, M2)) : Con g l yX11_holds cX11_holds 11 (some FieldType.int) (rmL 8) [.ref (gA g 22 0), .int vq1, .int vq2, .int vq3, .int vq4] M (eI r) M2 :=
  Con.of (own := RX11) (f := fX11_holds vq1 vq2 vq3 vq4 M) (by decide) (Nat.le_of_ble_eq_true rfl) rfl (fun x ok => wX11_holds ok vq1 vq2 vq3 vq4  M) r M2 h
def fX11_laws_B25 (vq1 : Int32) (vq2 : Int32) (vq4 : Int32) (k25 : Int32 → Int32 → Mem → Option (Int32 × Mem)) (vq5 : Int32) (vq6 : Int32) (M : Mem) : Option (Int32 × Mem) :=
  if (M 22 0 11) ≤ vq6 then
    (lt (mst M 22 0 12 vq4) fun M4 =>
    some (vq5, M4))
  else
    (lt (mst M 22 0 12 vq6) fun M5 =>
    ob (fX11_unlike vq1 vq2 M5) fun r6 M7 =>
    if r6 = (-1) then
      (lt (vq5 ||| (1 <<< (vq6 &&& 31))) fun w9 =>
      k25 w9 (vq6 + 1) M7)
    else
      (lt (vq5 ||| 0) fun w8 =>
      k25 w8 (vq6 + 1) M7))
def fX11_laws_L25 (vq1 : Int32) (vq2 : Int32) (vq4 : Int32) : Nat → Int32 → Int32 → Mem → Option (Int32 × Mem)
  | 0, _, _, _ => none
  | n + 1, vq5, vq6, M => fX11_laws_B25 vq1 vq2 vq4 (fX11_laws_L25 vq1 vq2 vq4 n) vq5 vq6 M
set_option maxRecDepth 20000 in
theorem sX11_laws_B25 {g : GP} {l : Launch} {x : CT} (ok : Ok g l x RX11 cX11_laws 7 (some FieldType.int) (rmL 8)) (vq1 : Int32) (vq2 : Int32) (vq4 : Int32)  (k25 : Int32 → Int32 → Mem → Option (Int32 × Mem)) (hk25 : ∀ (vq5 : Int32) (vq6 : Int32) (M : Mem), Sw g l x (FinQ g x eI) 7 0 0 25 [(0, .ref (gA g 22 0)), (1, .int vq1), (2, .int vq2), (4, .int vq4), (5, .int vq5), (6, .int vq6)] [] M (k25 vq5 vq6 M)) (vq5 : Int32) (vq6 : Int32) (M : Mem) : Sw g l x (FinQ g x eI) 7 0 0 25 [(0, .ref (gA g 22 0)), (1, .int vq1), (2, .int vq2), (4, .int vq4), (5, .int vq5), (6, .int vq6)] [] M (fX11_laws_B25 vq1 vq2 vq4 k25 vq5 vq6 M) := by
  unfold fX11_laws_B25
  refine r_iload (pc := 25) ok 5 dX11_laws_25 rfl ?_
  refine r_aload_n (pc := 27) ok 0 dX11_laws_27 rfl ?_
  refine r_getI (pc := 28) ok fi_22_11 (by decide) fl_X11_98 dX11_laws_28 ?_
  refine r_icmp_ge (pc := 31) ok 69 dX11_laws_31 (by decide) (fun _ => ?_) (fun _ => ?_)
  · refine r_aload_n (pc := 69) ok 0 dX11_laws_69 rfl ?_
    refine r_iload (pc := 70) ok 3 dX11_laws_70 rfl ?_
    refine r_putI (pc := 72) ok fi_22_12 (by decide) fl_X11_101 fp_22_12 ⟨rfl, rfl⟩ dX11_laws_72 ?_
    refine r_nmM (fun M4 => ?_)
    refine r_iload (pc := 75) ok 4 dX11_laws_75 rfl ?_
    exact r_iret (pc := 77) ok (Nat.zero_le _) (Nat.zero_le _) rfl dX11_laws_77
  · refine r_aload_n (pc := 34) ok 0 dX11_laws_34 rfl ?_
    refine r_iload (pc := 35) ok 5 dX11_laws_35 rfl ?_
    refine r_putI (pc := 37) ok fi_22_12 (by decide) fl_X11_101 fp_22_12 ⟨rfl, rfl⟩ dX11_laws_37 ?_
    refine r_nmM (fun M5 => ?_)
    refine r_iload (pc := 40) ok 4 dX11_laws_40 rfl ?_
    refine r_aload_n (pc := 42) ok 0 dX11_laws_42 rfl ?_
    refine r_iload_n (pc := 43) ok 1 dX11_laws_43 rfl ?_
    refine r_iload_n (pc := 44) ok 2 dX11_laws_44 rfl ?_
    refine r_callV0 (pc := 45) ok [.int vq1, .int vq2] [.int vq5] 7 (fun rZ MZ hZ => con_X11_unlike g l vq1 vq2 _ rZ MZ hZ) cv_X11_244 ok_22 (rmOk_L (by decide) (by decide)) dX11_laws_45 rfl rfl (Nat.le_of_ble_eq_true rfl) (fun r6 M7 => ?_)
    refine r_iconst (pc := 48) ok (-1) dX11_laws_48 (by decide) ?_
    refine r_icmp_ne (pc := 49) ok 59 dX11_laws_49 (by decide) (fun _ => ?_) (fun _ => ?_)
    · refine r_iconst (pc := 52) ok 1 dX11_laws_52 (by decide) ?_
      refine r_iload (pc := 53) ok 5 dX11_laws_53 rfl ?_
      refine r_ishl (pc := 55) ok dX11_laws_55 ?_
      refine r_goto (pc := 56) ok 60 dX11_laws_56 (by decide) ?_
      refine r_ior (pc := 60) ok dX11_laws_60 ?_
      refine r_nmi (fun w9 => ?_)
      refine r_istore (pc := 61) ok [(5, .int w9), (0, .ref (gA g 22 0)), (1, .int vq1), (2, .int vq2), (4, .int vq4), (6, .int vq6)] dX11_laws_61 (by decide) rfl ?_
      refine r_iinc (pc := 63) ok 5 (vq6 + 1) [(6, .int (vq6 + 1)), (5, .int w9), (0, .ref (gA g 22 0)), (1, .int vq1), (2, .int vq2), (4, .int vq4)] dX11_laws_63 rfl (congrArg (fun z => vq6 + z) (by decide : Int32.ofInt 1 = (1 : Int32))) (by decide) rfl ?_
      refine r_goto (pc := 66) ok 25 dX11_laws_66 (by decide) ?_
      refine r_lv [2, 3, 4, 5, 1, 0] [(0, .ref (gA g 22 0)), (1, .int vq1), (2, .int vq2), (4, .int vq4), (5, .int w9), (6, .int (vq6 + 1))] rfl ?_
      exact hk25 w9 (vq6 + 1) M7
    · refine r_iconst (pc := 59) ok 0 dX11_laws_59 (by decide) ?_
      refine r_ior (pc := 60) ok dX11_laws_60 ?_
      refine r_nmi (fun w8 => ?_)
      refine r_istore (pc := 61) ok [(5, .int w8), (0, .ref (gA g 22 0)), (1, .int vq1), (2, .int vq2), (4, .int vq4), (6, .int vq6)] dX11_laws_61 (by decide) rfl ?_
      refine r_iinc (pc := 63) ok 5 (vq6 + 1) [(6, .int (vq6 + 1)), (5, .int w8), (0, .ref (gA g 22 0)), (1, .int vq1), (2, .int vq2), (4, .int vq4)] dX11_laws_63 rfl (congrArg (fun z => vq6 + z) (by decide : Int32.ofInt 1 = (1 : Int32))) (by decide) rfl ?_
      refine r_goto (pc := 66) ok 25 dX11_laws_66 (by decide) ?_
      refine r_lv [2, 3, 4, 5, 1, 0] [(0, .ref (gA g 22 0)), (1, .int vq1), (2, .int vq2), (4, .int vq4), (5, .int w8), (6, .int (vq6 + 1))] rfl ?_
      exact hk25 w8 (vq6 + 1) M7
theorem sX11_laws_L25 {g : GP} {l : Launch} {x : CT} (ok : Ok g l x RX11 cX11_laws 7 (some FieldType.int) (rmL 8)) (vq1 : Int32) (vq2 : Int32) (vq4 : Int32)  : ∀ (n : Nat) (vq5 : Int32) (vq6 : Int32) (M : Mem), Sw g l x (FinQ g x eI) 7 0 0 25 [(0, .ref (gA g 22 0)), (1, .int vq1), (2, .int vq2), (4, .int vq4), (5, .int vq5), (6, .int vq6)] [] M (fX11_laws_L25 vq1 vq2 vq4 n vq5 vq6 M) := by
  intro n
  induction n with
  | zero => intros; exact r_none
  | succ n ih => intro vq5 vq6 M; exact sX11_laws_B25 ok vq1 vq2 vq4  _ ih vq5 vq6 M
def fX11_laws (vq1 : Int32) (vq2 : Int32) (M : Mem) : Option (Int32 × Mem) :=
  ob (fX11_toldWrong vq1 vq2 M) fun r1 M2 =>
  if r1 = 0 then
    (lt (M2 22 0 12) fun w3 =>
    fX11_laws_L25 vq1 vq2 w3 FU 0 0 M2)
  else
    (some (r1, M2))
set_option maxRecDepth 20000 in
theorem wX11_laws {g : GP} {l : Launch} {x : CT} (ok : Ok g l x RX11 cX11_laws 7 (some FieldType.int) (rmL 8)) (vq1 : Int32) (vq2 : Int32)  (M : Mem) : Sw g l x (FinQ g x eI) 7 0 0 0 [(0, .ref (gA g 22 0)), (1, .int vq1), (2, .int vq2)] [] M (fX11_laws vq1 vq2 M) := by
  unfold fX11_laws
  refine r_aload_n (pc := 0) ok 0 dX11_laws_0 rfl ?_
  refine r_iload_n (pc := 1) ok 1 dX11_laws_1 rfl ?_
  refine r_iload_n (pc := 2) ok 2 dX11_laws_2 rfl ?_
  refine r_callV0 (pc := 3) ok [.int vq1, .int vq2] [] 4 (fun rZ MZ hZ => con_X11_toldWrong g l vq1 vq2 _ rZ MZ hZ) cv_X11_241 ok_22 (rmOk_L (by decide) (by decide)) dX11_laws_3 rfl rfl (Nat.le_of_ble_eq_true rfl) (fun r1 M2 => ?_)
  refine r_istore_n (pc := 6) ok [(3, .int r1), (0, .ref (gA g 22 0)), (1, .int vq1), (2, .int vq2)] dX11_laws_6 rfl (by decide) rfl ?_
  refine r_iload_n (pc := 7) ok 0 dX11_laws_7 rfl ?_
  refine r_if_eq (pc := 8) ok 13 dX11_laws_8 (by decide) (fun _ => ?_) (fun _ => ?_)
  · refine r_aload_n (pc := 13) ok 1 dX11_laws_13 rfl ?_
    refine r_getI (pc := 14) ok fi_22_12 (by decide) fl_X11_101 dX11_laws_14 ?_
    refine r_nmi (fun w3 => ?_)
    refine r_istore (pc := 17) ok [(4, .int w3), (3, .int r1), (0, .ref (gA g 22 0)), (1, .int vq1), (2, .int vq2)] dX11_laws_17 (by decide) rfl ?_
    refine r_iconst (pc := 19) ok 0 dX11_laws_19 (by decide) ?_
    refine r_istore (pc := 20) ok [(5, .int 0), (4, .int w3), (3, .int r1), (0, .ref (gA g 22 0)), (1, .int vq1), (2, .int vq2)] dX11_laws_20 (by decide) rfl ?_
    refine r_iconst (pc := 22) ok 0 dX11_laws_22 (by decide) ?_
    refine r_istore (pc := 23) ok [(6, .int 0), (5, .int 0), (4, .int w3), (3, .int r1), (0, .ref (gA g 22 0)), (1, .int vq1), (2, .int vq2)] dX11_laws_23 (by decide) rfl ?_
    refine r_lv [4, 5, 6, 2, 1, 0] [(0, .ref (gA g 22 0)), (1, .int vq1), (2, .int vq2), (4, .int w3), (5, .int 0), (6, .int 0)] rfl ?_
    exact sX11_laws_L25 ok vq1 vq2 w3 FU 0 0 M2
  · refine r_iload_n (pc := 11) ok 0 dX11_laws_11 rfl ?_
    exact r_iret (pc := 12) ok (Nat.zero_le _) (Nat.zero_le _) rfl dX11_laws_12
theorem con_X11_laws (g : GP) (l : Launch) (vq1 : Int32) (vq2 : Int32)  (M : Mem) (r : Int32) (M2 : Mem) (h : fX11_laws vq1 vq2 M = some (r, M2)) : Con g l yX11_laws cX11_laws 7 (some FieldType.int) (rmL 8) [.ref (gA g 22 0), .int vq1, .int vq2] M (eI r) M2 :=
  Con.of (own := RX11) (f := fX11_laws vq1 vq2 M) (by decide) (Nat.le_of_ble_eq_true rfl) rfl (fun x ok => wX11_laws ok vq1 vq2  M) r M2 h
def fX11_drawn (vq1 : Int32) (vq2 : Int32) (vq3 : Int32) (vq4 : Int32) (M : Mem) : Option (Int32 × Mem) :=
  ob (fX11_isOne vq2 M) fun r1 M2 =>
  if r1 = 0 then
    (some (-5, M2))
  else
    (ob (fX11_in vq1 0 99999 M2) fun r3 M4 =>
    if r3 = 0 then
      (some (-7, M4))
    else
      (ob (fX11_in vq3 0 3599 M4) fun r5 M6 =>
      if r5 = 0 then
        (some (-7, M6))
      else
        (ob (fX11_in vq4 0 1 M6) fun r7 M8 =>
        if r7 = 0 then
          (some (-7, M8))
        else
          (ob (fX11_calls vq1 vq2 vq3 M8) fun r9 M10 =>
          if vq4 = 0 then
            (some (M10 22 0 34, M10))
          else
            (some (M10 22 0 35, M10))))))
set_option maxRecDepth 20000 in
theorem wX11_drawn {g : GP} {l : Launch} {x : CT} (ok : Ok g l x RX11 cX11_drawn 5 (some FieldType.int) (rmL 8)) (vq1 : Int32) (vq2 : Int32) (vq3 : Int32) (vq4 : Int32)  (M : Mem) : Sw g l x (FinQ g x eI) 5 0 0 0 [(0, .ref (gA g 22 0)), (1, .int vq1), (2, .int vq2), (3, .int vq3), (4, .int vq4)] [] M (fX11_drawn vq1 vq2 vq3 vq4 M) := by
  unfold fX11_drawn
  refine r_aload_n (pc := 0) ok 0 dX11_drawn_0 rfl ?_
  refine r_iload_n (pc := 1) ok 2 dX11_drawn_1 rfl ?_
  refine r_callV0 (pc := 2) ok [.int vq2] [] 3 (fun rZ MZ hZ => con_X11_isOne g l vq2 _ rZ MZ hZ) cv_X11_176 ok_22 (rmOk_L (by decide) (by decide)) dX11_drawn_2 rfl rfl (Nat.le_of_ble_eq_true rfl) (fun r1 M2 => ?_)
  refine r_if_ne (pc := 5) ok 11 dX11_drawn_5 (by decide) (fun _ => ?_) (fun _ => ?_)
  · refine r_bipush (pc := 8) ok (-5) dX11_drawn_8 (by decide) ?_
    exact r_iret (pc := 10) ok (Nat.zero_le _) (Nat.zero_le _) rfl dX11_drawn_10
  · refine r_iload_n (pc := 11) ok 1 dX11_drawn_11 rfl ?_
    refine r_iconst (pc := 12) ok 0 dX11_drawn_12 (by decide) ?_
    refine r_ldcw (pc := 13) ok wct_X11_262 dX11_drawn_13 ?_
    refine r_callS0 (pc := 16) ok [.int vq1, .int 0, .int 99999] [] 2 (fun rZ MZ hZ => con_X11_in g l vq1 0 99999 _ rZ MZ hZ) cs_X11_84 (rmOk_L (by decide) (by decide)) dX11_drawn_16 rfl rfl (Nat.le_of_ble_eq_true rfl) (fun r3 M4 => ?_)
    refine r_if_eq (pc := 19) ok 43 dX11_drawn_19 (by decide) (fun _ => ?_) (fun _ => ?_)
    · refine r_bipush (pc := 43) ok (-7) dX11_drawn_43 (by decide) ?_
      exact r_iret (pc := 45) ok (Nat.zero_le _) (Nat.zero_le _) rfl dX11_drawn_45
    · refine r_iload_n (pc := 22) ok 3 dX11_drawn_22 rfl ?_
      refine r_iconst (pc := 23) ok 0 dX11_drawn_23 (by decide) ?_
      refine r_sipush (pc := 24) ok 3599 dX11_drawn_24 (by decide) ?_
      refine r_callS0 (pc := 27) ok [.int vq3, .int 0, .int 3599] [] 2 (fun rZ MZ hZ => con_X11_in g l vq3 0 3599 _ rZ MZ hZ) cs_X11_84 (rmOk_L (by decide) (by decide)) dX11_drawn_27 rfl rfl (Nat.le_of_ble_eq_true rfl) (fun r5 M6 => ?_)
      refine r_if_eq (pc := 30) ok 43 dX11_drawn_30 (by decide) (fun _ => ?_) (fun _ => ?_)
      · refine r_bipush (pc := 43) ok (-7) dX11_drawn_43 (by decide) ?_
        exact r_iret (pc := 45) ok (Nat.zero_le _) (Nat.zero_le _) rfl dX11_drawn_45
      · refine r_iload (pc := 33) ok 4 dX11_drawn_33 rfl ?_
        refine r_iconst (pc := 35) ok 0 dX11_drawn_35 (by decide) ?_
        refine r_iconst (pc := 36) ok 1 dX11_drawn_36 (by decide) ?_
        refine r_callS0 (pc := 37) ok [.int vq4, .int 0, .int 1] [] 2 (fun rZ MZ hZ => con_X11_in g l vq4 0 1 _ rZ MZ hZ) cs_X11_84 (rmOk_L (by decide) (by decide)) dX11_drawn_37 rfl rfl (Nat.le_of_ble_eq_true rfl) (fun r7 M8 => ?_)
        refine r_if_ne (pc := 40) ok 46 dX11_drawn_40 (by decide) (fun _ => ?_) (fun _ => ?_)
        · refine r_bipush (pc := 43) ok (-7) dX11_drawn_43 (by decide) ?_
          exact r_iret (pc := 45) ok (Nat.zero_le _) (Nat.zero_le _) rfl dX11_drawn_45
        · refine r_aload_n (pc := 46) ok 0 dX11_drawn_46 rfl ?_
          refine r_iload_n (pc := 47) ok 1 dX11_drawn_47 rfl ?_
          refine r_iload_n (pc := 48) ok 2 dX11_drawn_48 rfl ?_
          refine r_iload_n (pc := 49) ok 3 dX11_drawn_49 rfl ?_
          refine r_callV0 (pc := 50) ok [.int vq1, .int vq2, .int vq3] [] 7 (fun rZ MZ hZ => con_X11_calls g l vq1 vq2 vq3 _ rZ MZ hZ) cv_X11_263 ok_22 (rmOk_L (by decide) (by decide)) dX11_drawn_50 rfl rfl (Nat.le_of_ble_eq_true rfl) (fun r9 M10 => ?_)
          refine r_iload (pc := 53) ok 4 dX11_drawn_53 rfl ?_
          refine r_if_ne (pc := 55) ok 65 dX11_drawn_55 (by decide) (fun _ => ?_) (fun _ => ?_)
          · refine r_aload_n (pc := 58) ok 0 dX11_drawn_58 rfl ?_
            refine r_getI (pc := 59) ok fi_22_34 (by decide) fl_X11_247 dX11_drawn_59 ?_
            refine r_goto (pc := 62) ok 69 dX11_drawn_62 (by decide) ?_
            exact r_iret (pc := 69) ok (Nat.zero_le _) (Nat.zero_le _) rfl dX11_drawn_69
          · refine r_aload_n (pc := 65) ok 0 dX11_drawn_65 rfl ?_
            refine r_getI (pc := 66) ok fi_22_35 (by decide) fl_X11_250 dX11_drawn_66 ?_
            exact r_iret (pc := 69) ok (Nat.zero_le _) (Nat.zero_le _) rfl dX11_drawn_69
theorem con_X11_drawn (g : GP) (l : Launch) (vq1 : Int32) (vq2 : Int32) (vq3 : Int32) (vq4 : Int32)  (M : Mem) (r : Int32) (M2 : Mem) (h : fX11_drawn vq1 vq2 vq3 vq4 M = some (r, M2)) : Con g l yX11_drawn cX11_drawn 5 (some FieldType.int) (rmL 8) [.ref (gA g 22 0), .int vq1, .int vq2, .int vq3, .int vq4] M (eI r) M2 :=
  Con.of (own := RX11) (f := fX11_drawn vq1 vq2 vq3 vq4 M) (by decide) (Nat.le_of_ble_eq_true rfl) rfl (fun x ok => wX11_drawn ok vq1 vq2 vq3 vq4  M) r M2 h
def fX11_odds_B87 (vq1 : Int32) (vq2 : Int32) (vq3 : Int32) (vq4 : Int32) (vq5 : Int32) (k87 : Int64 → Int32 → Mem → Option (Int64 × Mem)) (vq7 : Int64) (vq9 : Int32) (M : Mem) : Option (Int64 × Mem) :=
  if (irem vq1 100) ≤ vq9 then
    (ob (fX11_lowest vq7 ((irem vq1 100).toInt64) vq5 M) fun r9 M10 =>
    some (r9, M10))
  else
    (ob (fX11_calls ((vq1 / 100) + vq9) vq2 vq3 M) fun r11 M12 =>
    if (M12 22 0 34) < vq4 then
      (lt (vq7 + 0) fun w13 =>
      k87 w13 (vq9 + 1) M12)
    else
      (lt (vq7 + 1) fun w14 =>
      k87 w14 (vq9 + 1) M12))
def fX11_odds_L87 (vq1 : Int32) (vq2 : Int32) (vq3 : Int32) (vq4 : Int32) (vq5 : Int32) : Nat → Int64 → Int32 → Mem → Option (Int64 × Mem)
  | 0, _, _, _ => none
  | n + 1, vq7, vq9, M => fX11_odds_B87 vq1 vq2 vq3 vq4 vq5 (fX11_odds_L87 vq1 vq2 vq3 vq4 vq5 n) vq7 vq9 M
set_option maxRecDepth 20000 in
theorem sX11_odds_B87 {g : GP} {l : Launch} {x : CT} (ok : Ok g l x RX11 cX11_odds 10 (some FieldType.long) (rmL 8)) (vq1 : Int32) (vq2 : Int32) (vq3 : Int32) (vq4 : Int32) (vq5 : Int32)  (k87 : Int64 → Int32 → Mem → Option (Int64 × Mem)) (hk87 : ∀ (vq7 : Int64) (vq9 : Int32) (M : Mem), Sw g l x (FinQ g x eJ) 10 0 0 87 [(0, .ref (gA g 22 0)), (1, .int vq1), (2, .int vq2), (3, .int vq3), (4, .int vq4), (5, .int vq5), (7, .long vq7), (9, .int vq9)] [] M (k87 vq7 vq9 M)) (vq7 : Int64) (vq9 : Int32) (M : Mem) : Sw g l x (FinQ g x eJ) 10 0 0 87 [(0, .ref (gA g 22 0)), (1, .int vq1), (2, .int vq2), (3, .int vq3), (4, .int vq4), (5, .int vq5), (7, .long vq7), (9, .int vq9)] [] M (fX11_odds_B87 vq1 vq2 vq3 vq4 vq5 k87 vq7 vq9 M) := by
  unfold fX11_odds_B87
  refine r_iload (pc := 87) ok 7 dX11_odds_87 rfl ?_
  refine r_iload_n (pc := 89) ok 1 dX11_odds_89 rfl ?_
  refine r_bipush (pc := 90) ok 100 dX11_odds_90 (by decide) ?_
  refine r_iremc (pc := 92) ok (by decide) dX11_odds_92 ?_
  refine r_icmp_ge (pc := 93) ok 134 dX11_odds_93 (by decide) (fun _ => ?_) (fun _ => ?_)
  · refine r_lload (pc := 134) ok 6 dX11_odds_134 rfl ?_
    refine r_iload_n (pc := 136) ok 1 dX11_odds_136 rfl ?_
    refine r_bipush (pc := 137) ok 100 dX11_odds_137 (by decide) ?_
    refine r_iremc (pc := 139) ok (by decide) dX11_odds_139 ?_
    refine r_i2l (pc := 140) ok dX11_odds_140 ?_
    refine r_iload (pc := 141) ok 5 dX11_odds_141 rfl ?_
    refine r_callS0 (pc := 143) ok [.long vq7, .long ((irem vq1 100).toInt64), .int vq5] [] 2 (fun rZ MZ hZ => con_X11_lowest g l vq7 ((irem vq1 100).toInt64) vq5 _ rZ MZ hZ) cs_X11_268 (rmOk_L (by decide) (by decide)) dX11_odds_143 rfl rfl (Nat.le_of_ble_eq_true rfl) (fun r9 M10 => ?_)
    exact r_lret (pc := 146) ok (Nat.zero_le _) (Nat.zero_le _) rfl dX11_odds_146
  · refine r_aload_n (pc := 96) ok 0 dX11_odds_96 rfl ?_
    refine r_iload_n (pc := 97) ok 1 dX11_odds_97 rfl ?_
    refine r_bipush (pc := 98) ok 100 dX11_odds_98 (by decide) ?_
    refine r_idivc (pc := 100) ok (by decide) dX11_odds_100 ?_
    refine r_iload (pc := 101) ok 7 dX11_odds_101 rfl ?_
    refine r_iadd (pc := 103) ok dX11_odds_103 ?_
    refine r_iload_n (pc := 104) ok 2 dX11_odds_104 rfl ?_
    refine r_iload_n (pc := 105) ok 3 dX11_odds_105 rfl ?_
    refine r_callV0 (pc := 106) ok [.int ((vq1 / 100) + vq9), .int vq2, .int vq3] [] 7 (fun rZ MZ hZ => con_X11_calls g l ((vq1 / 100) + vq9) vq2 vq3 _ rZ MZ hZ) cv_X11_263 ok_22 (rmOk_L (by decide) (by decide)) dX11_odds_106 rfl rfl (Nat.le_of_ble_eq_true rfl) (fun r11 M12 => ?_)
    refine r_lload (pc := 109) ok 6 dX11_odds_109 rfl ?_
    refine r_aload_n (pc := 111) ok 0 dX11_odds_111 rfl ?_
    refine r_getI (pc := 112) ok fi_22_34 (by decide) fl_X11_247 dX11_odds_112 ?_
    refine r_iload (pc := 115) ok 4 dX11_odds_115 rfl ?_
    refine r_icmp_lt (pc := 117) ok 124 dX11_odds_117 (by decide) (fun _ => ?_) (fun _ => ?_)
    · refine r_lconst (pc := 124) ok 0 dX11_odds_124 (by decide) ?_
      refine r_ladd (pc := 125) ok dX11_odds_125 ?_
      refine r_nml (fun w13 => ?_)
      refine r_lstore (pc := 126) ok [(7, .long w13), (0, .ref (gA g 22 0)), (1, .int vq1), (2, .int vq2), (3, .int vq3), (4, .int vq4), (5, .int vq5), (9, .int vq9)] dX11_odds_126 (by decide) rfl ?_
      refine r_iinc (pc := 128) ok 7 (vq9 + 1) [(9, .int (vq9 + 1)), (7, .long w13), (0, .ref (gA g 22 0)), (1, .int vq1), (2, .int vq2), (3, .int vq3), (4, .int vq4), (5, .int vq5)] dX11_odds_128 rfl (congrArg (fun z => vq9 + z) (by decide : Int32.ofInt 1 = (1 : Int32))) (by decide) rfl ?_
      refine r_goto (pc := 131) ok 87 dX11_odds_131 (by decide) ?_
      refine r_lv [2, 3, 4, 5, 6, 7, 1, 0] [(0, .ref (gA g 22 0)), (1, .int vq1), (2, .int vq2), (3, .int vq3), (4, .int vq4), (5, .int vq5), (7, .long w13), (9, .int (vq9 + 1))] rfl ?_
      exact hk87 w13 (vq9 + 1) M12
    · refine r_lconst (pc := 120) ok 1 dX11_odds_120 (by decide) ?_
      refine r_goto (pc := 121) ok 125 dX11_odds_121 (by decide) ?_
      refine r_ladd (pc := 125) ok dX11_odds_125 ?_
      refine r_nml (fun w14 => ?_)
      refine r_lstore (pc := 126) ok [(7, .long w14), (0, .ref (gA g 22 0)), (1, .int vq1), (2, .int vq2), (3, .int vq3), (4, .int vq4), (5, .int vq5), (9, .int vq9)] dX11_odds_126 (by decide) rfl ?_
      refine r_iinc (pc := 128) ok 7 (vq9 + 1) [(9, .int (vq9 + 1)), (7, .long w14), (0, .ref (gA g 22 0)), (1, .int vq1), (2, .int vq2), (3, .int vq3), (4, .int vq4), (5, .int vq5)] dX11_odds_128 rfl (congrArg (fun z => vq9 + z) (by decide : Int32.ofInt 1 = (1 : Int32))) (by decide) rfl ?_
      refine r_goto (pc := 131) ok 87 dX11_odds_131 (by decide) ?_
      refine r_lv [2, 3, 4, 5, 6, 7, 1, 0] [(0, .ref (gA g 22 0)), (1, .int vq1), (2, .int vq2), (3, .int vq3), (4, .int vq4), (5, .int vq5), (7, .long w14), (9, .int (vq9 + 1))] rfl ?_
      exact hk87 w14 (vq9 + 1) M12
theorem sX11_odds_L87 {g : GP} {l : Launch} {x : CT} (ok : Ok g l x RX11 cX11_odds 10 (some FieldType.long) (rmL 8)) (vq1 : Int32) (vq2 : Int32) (vq3 : Int32) (vq4 : Int32) (vq5 : Int32)  : ∀ (n : Nat) (vq7 : Int64) (vq9 : Int32) (M : Mem), Sw g l x (FinQ g x eJ) 10 0 0 87 [(0, .ref (gA g 22 0)), (1, .int vq1), (2, .int vq2), (3, .int vq3), (4, .int vq4), (5, .int vq5), (7, .long vq7), (9, .int vq9)] [] M (fX11_odds_L87 vq1 vq2 vq3 vq4 vq5 n vq7 vq9 M) := by
  intro n
  induction n with
  | zero => intros; exact r_none
  | succ n ih => intro vq7 vq9 M; exact sX11_odds_B87 ok vq1 vq2 vq3 vq4 vq5  _ ih vq7 vq9 M
def fX11_odds_J37 (vq1 : Int32) (vq2 : Int32) (vq3 : Int32) (vq4 : Int32) (vq5 : Int32) (s0 : Int32) (M : Mem) : Option (Int64 × Mem) :=
  if s0 = 0 then
    (some (-4611686018427387904, M))
  else
    (ob (fX11_in vq3 0 3599 M) fun r3 M4 =>
    if r3 = 0 then
      (some (-4611686018427387904, M4))
    else
      (ob (fX11_in vq4 0 99999 M4) fun r5 M6 =>
      if r5 = 0 then
        (some (-4611686018427387904, M6))
      else
        (ob (fX11_in vq5 0 1 M6) fun r7 M8 =>
        if r7 = 0 then
          (some (-4611686018427387904, M8))
        else
          (fX11_odds_L87 vq1 vq2 vq3 vq4 vq5 FU 0 0 M8))))
set_option maxRecDepth 20000 in
theorem sX11_odds_J37 {g : GP} {l : Launch} {x : CT} (ok : Ok g l x RX11 cX11_odds 10 (some FieldType.long) (rmL 8)) (vq1 : Int32) (vq2 : Int32) (vq3 : Int32) (vq4 : Int32) (vq5 : Int32) (s0 : Int32)  (M : Mem) : Sw g l x (FinQ g x eJ) 10 0 0 37 [(0, .ref (gA g 22 0)), (1, .int vq1), (2, .int vq2), (3, .int vq3), (4, .int vq4), (5, .int vq5)] [.int s0] M (fX11_odds_J37 vq1 vq2 vq3 vq4 vq5 s0 M) := by
  unfold fX11_odds_J37
  refine r_istore (pc := 37) ok [(6, .int s0), (0, .ref (gA g 22 0)), (1, .int vq1), (2, .int vq2), (3, .int vq3), (4, .int vq4), (5, .int vq5)] dX11_odds_37 (by decide) rfl ?_
  refine r_iload (pc := 39) ok 0 dX11_odds_39 rfl ?_
  refine r_if_eq (pc := 41) ok 77 dX11_odds_41 (by decide) (fun _ => ?_) (fun _ => ?_)
  · refine r_ldc2 (pc := 77) ok wcl_X11_216 dX11_odds_77 ?_
    exact r_lret (pc := 80) ok (Nat.zero_le _) (Nat.zero_le _) rfl dX11_odds_80
  · refine r_iload_n (pc := 44) ok 4 dX11_odds_44 rfl ?_
    refine r_iconst (pc := 45) ok 0 dX11_odds_45 (by decide) ?_
    refine r_sipush (pc := 46) ok 3599 dX11_odds_46 (by decide) ?_
    refine r_callS0 (pc := 49) ok [.int vq3, .int 0, .int 3599] [] 2 (fun rZ MZ hZ => con_X11_in g l vq3 0 3599 _ rZ MZ hZ) cs_X11_84 (rmOk_L (by decide) (by decide)) dX11_odds_49 rfl rfl (Nat.le_of_ble_eq_true rfl) (fun r3 M4 => ?_)
    refine r_if_eq (pc := 52) ok 77 dX11_odds_52 (by decide) (fun _ => ?_) (fun _ => ?_)
    · refine r_ldc2 (pc := 77) ok wcl_X11_216 dX11_odds_77 ?_
      exact r_lret (pc := 80) ok (Nat.zero_le _) (Nat.zero_le _) rfl dX11_odds_80
    · refine r_iload (pc := 55) ok 5 dX11_odds_55 rfl ?_
      refine r_iconst (pc := 57) ok 0 dX11_odds_57 (by decide) ?_
      refine r_ldcw (pc := 58) ok wct_X11_262 dX11_odds_58 ?_
      refine r_callS0 (pc := 61) ok [.int vq4, .int 0, .int 99999] [] 2 (fun rZ MZ hZ => con_X11_in g l vq4 0 99999 _ rZ MZ hZ) cs_X11_84 (rmOk_L (by decide) (by decide)) dX11_odds_61 rfl rfl (Nat.le_of_ble_eq_true rfl) (fun r5 M6 => ?_)
      refine r_if_eq (pc := 64) ok 77 dX11_odds_64 (by decide) (fun _ => ?_) (fun _ => ?_)
      · refine r_ldc2 (pc := 77) ok wcl_X11_216 dX11_odds_77 ?_
        exact r_lret (pc := 80) ok (Nat.zero_le _) (Nat.zero_le _) rfl dX11_odds_80
      · refine r_iload (pc := 67) ok 6 dX11_odds_67 rfl ?_
        refine r_iconst (pc := 69) ok 0 dX11_odds_69 (by decide) ?_
        refine r_iconst (pc := 70) ok 1 dX11_odds_70 (by decide) ?_
        refine r_callS0 (pc := 71) ok [.int vq5, .int 0, .int 1] [] 2 (fun rZ MZ hZ => con_X11_in g l vq5 0 1 _ rZ MZ hZ) cs_X11_84 (rmOk_L (by decide) (by decide)) dX11_odds_71 rfl rfl (Nat.le_of_ble_eq_true rfl) (fun r7 M8 => ?_)
        refine r_if_ne (pc := 74) ok 81 dX11_odds_74 (by decide) (fun _ => ?_) (fun _ => ?_)
        · refine r_ldc2 (pc := 77) ok wcl_X11_216 dX11_odds_77 ?_
          exact r_lret (pc := 80) ok (Nat.zero_le _) (Nat.zero_le _) rfl dX11_odds_80
        · refine r_lconst (pc := 81) ok 0 dX11_odds_81 (by decide) ?_
          refine r_lstore (pc := 82) ok [(7, .long 0), (6, .int s0), (0, .ref (gA g 22 0)), (1, .int vq1), (2, .int vq2), (3, .int vq3), (4, .int vq4), (5, .int vq5)] dX11_odds_82 (by decide) rfl ?_
          refine r_iconst (pc := 84) ok 0 dX11_odds_84 (by decide) ?_
          refine r_istore (pc := 85) ok [(9, .int 0), (7, .long 0), (6, .int s0), (0, .ref (gA g 22 0)), (1, .int vq1), (2, .int vq2), (3, .int vq3), (4, .int vq4), (5, .int vq5)] dX11_odds_85 (by decide) rfl ?_
          refine r_lv [3, 4, 5, 6, 7, 8, 1, 0] [(0, .ref (gA g 22 0)), (1, .int vq1), (2, .int vq2), (3, .int vq3), (4, .int vq4), (5, .int vq5), (7, .long 0), (9, .int 0)] rfl ?_
          exact sX11_odds_L87 ok vq1 vq2 vq3 vq4 vq5 FU 0 0 M8
def fX11_odds_J36 (vq1 : Int32) (vq2 : Int32) (vq3 : Int32) (vq4 : Int32) (vq5 : Int32) (M : Mem) : Option (Int64 × Mem) :=
  fX11_odds_J37 vq1 vq2 vq3 vq4 vq5 0 M
set_option maxRecDepth 20000 in
theorem sX11_odds_J36 {g : GP} {l : Launch} {x : CT} (ok : Ok g l x RX11 cX11_odds 10 (some FieldType.long) (rmL 8)) (vq1 : Int32) (vq2 : Int32) (vq3 : Int32) (vq4 : Int32) (vq5 : Int32)  (M : Mem) : Sw g l x (FinQ g x eJ) 10 0 0 36 [(0, .ref (gA g 22 0)), (1, .int vq1), (2, .int vq2), (3, .int vq3), (4, .int vq4), (5, .int vq5)] [] M (fX11_odds_J36 vq1 vq2 vq3 vq4 vq5 M) := by
  unfold fX11_odds_J36
  refine r_iconst (pc := 36) ok 0 dX11_odds_36 (by decide) ?_
  refine r_lv [0, 1, 2, 3, 4, 5] [(0, .ref (gA g 22 0)), (1, .int vq1), (2, .int vq2), (3, .int vq3), (4, .int vq4), (5, .int vq5)] rfl ?_
  exact sX11_odds_J37 ok vq1 vq2 vq3 vq4 vq5 0 M
def fX11_odds (vq1 : Int32) (vq2 : Int32) (vq3 : Int32) (vq4 : Int32) (vq5 : Int32) (M : Mem) : Option (Int64 × Mem) :=
  ob (fX11_in vq1 0 9999999 M) fun r1 M2 =>
  if r1 = 0 then
    (fX11_odds_J36 vq1 vq2 vq3 vq4 vq5 M2)
  else
    (ob (fX11_in (irem vq1 100) 1 40 M2) fun r15 M16 =>
    if r15 = 0 then
      (fX11_odds_J36 vq1 vq2 vq3 vq4 vq5 M16)
    else
      (ob (fX11_isOne vq2 M16) fun r17 M18 =>
      if r17 = 0 then
        (fX11_odds_J36 vq1 vq2 vq3 vq4 vq5 M18)
      else
        (fX11_odds_J37 vq1 vq2 vq3 vq4 vq5 1 M18)))
set_option maxRecDepth 20000 in
theorem wX11_odds {g : GP} {l : Launch} {x : CT} (ok : Ok g l x RX11 cX11_odds 10 (some FieldType.long) (rmL 8)) (vq1 : Int32) (vq2 : Int32) (vq3 : Int32) (vq4 : Int32) (vq5 : Int32)  (M : Mem) : Sw g l x (FinQ g x eJ) 10 0 0 0 [(0, .ref (gA g 22 0)), (1, .int vq1), (2, .int vq2), (3, .int vq3), (4, .int vq4), (5, .int vq5)] [] M (fX11_odds vq1 vq2 vq3 vq4 vq5 M) := by
  unfold fX11_odds
  refine r_iload_n (pc := 0) ok 1 dX11_odds_0 rfl ?_
  refine r_iconst (pc := 1) ok 0 dX11_odds_1 (by decide) ?_
  refine r_ldcw (pc := 2) ok wct_X11_267 dX11_odds_2 ?_
  refine r_callS0 (pc := 5) ok [.int vq1, .int 0, .int 9999999] [] 2 (fun rZ MZ hZ => con_X11_in g l vq1 0 9999999 _ rZ MZ hZ) cs_X11_84 (rmOk_L (by decide) (by decide)) dX11_odds_5 rfl rfl (Nat.le_of_ble_eq_true rfl) (fun r1 M2 => ?_)
  refine r_if_eq (pc := 8) ok 36 dX11_odds_8 (by decide) (fun _ => ?_) (fun _ => ?_)
  · refine r_lv [0, 1, 2, 3, 4, 5] [(0, .ref (gA g 22 0)), (1, .int vq1), (2, .int vq2), (3, .int vq3), (4, .int vq4), (5, .int vq5)] rfl ?_
    exact sX11_odds_J36 ok vq1 vq2 vq3 vq4 vq5 M2
  · refine r_iload_n (pc := 11) ok 1 dX11_odds_11 rfl ?_
    refine r_bipush (pc := 12) ok 100 dX11_odds_12 (by decide) ?_
    refine r_iremc (pc := 14) ok (by decide) dX11_odds_14 ?_
    refine r_iconst (pc := 15) ok 1 dX11_odds_15 (by decide) ?_
    refine r_bipush (pc := 16) ok 40 dX11_odds_16 (by decide) ?_
    refine r_callS0 (pc := 18) ok [.int (irem vq1 100), .int 1, .int 40] [] 2 (fun rZ MZ hZ => con_X11_in g l (irem vq1 100) 1 40 _ rZ MZ hZ) cs_X11_84 (rmOk_L (by decide) (by decide)) dX11_odds_18 rfl rfl (Nat.le_of_ble_eq_true rfl) (fun r15 M16 => ?_)
    refine r_if_eq (pc := 21) ok 36 dX11_odds_21 (by decide) (fun _ => ?_) (fun _ => ?_)
    · refine r_lv [0, 1, 2, 3, 4, 5] [(0, .ref (gA g 22 0)), (1, .int vq1), (2, .int vq2), (3, .int vq3), (4, .int vq4), (5, .int vq5)] rfl ?_
      exact sX11_odds_J36 ok vq1 vq2 vq3 vq4 vq5 M16
    · refine r_aload_n (pc := 24) ok 0 dX11_odds_24 rfl ?_
      refine r_iload_n (pc := 25) ok 2 dX11_odds_25 rfl ?_
      refine r_callV0 (pc := 26) ok [.int vq2] [] 3 (fun rZ MZ hZ => con_X11_isOne g l vq2 _ rZ MZ hZ) cv_X11_176 ok_22 (rmOk_L (by decide) (by decide)) dX11_odds_26 rfl rfl (Nat.le_of_ble_eq_true rfl) (fun r17 M18 => ?_)
      refine r_if_eq (pc := 29) ok 36 dX11_odds_29 (by decide) (fun _ => ?_) (fun _ => ?_)
      · refine r_lv [0, 1, 2, 3, 4, 5] [(0, .ref (gA g 22 0)), (1, .int vq1), (2, .int vq2), (3, .int vq3), (4, .int vq4), (5, .int vq5)] rfl ?_
        exact sX11_odds_J36 ok vq1 vq2 vq3 vq4 vq5 M18
      · refine r_iconst (pc := 32) ok 1 dX11_odds_32 (by decide) ?_
        refine r_goto (pc := 33) ok 37 dX11_odds_33 (by decide) ?_
        refine r_lv [0, 1, 2, 3, 4, 5] [(0, .ref (gA g 22 0)), (1, .int vq1), (2, .int vq2), (3, .int vq3), (4, .int vq4), (5, .int vq5)] rfl ?_
        exact sX11_odds_J37 ok vq1 vq2 vq3 vq4 vq5 1 M18
theorem con_X11_odds (g : GP) (l : Launch) (vq1 : Int32) (vq2 : Int32) (vq3 : Int32) (vq4 : Int32) (vq5 : Int32)  (M : Mem) (r : Int64) (M2 : Mem) (h : fX11_odds vq1 vq2 vq3 vq4 vq5 M = some (r, M2)) : Con g l yX11_odds cX11_odds 10 (some FieldType.long) (rmL 8) [.ref (gA g 22 0), .int vq1, .int vq2, .int vq3, .int vq4, .int vq5] M (eJ r) M2 :=
  Con.of (own := RX11) (f := fX11_odds vq1 vq2 vq3 vq4 vq5 M) (by decide) (Nat.le_of_ble_eq_true rfl) rfl (fun x ok => wX11_odds ok vq1 vq2 vq3 vq4 vq5  M) r M2 h
def fX4_takeWord_J101 (k58 : Int32 → Int32 → Int32 → Mem → Option (Unit × Mem)) (vq1 : Int32) (vq3 : Int32) (s0 : Int32) (M : Mem) : Option (Unit × Mem) :=
  lt (mst M 1 0 5 s0) fun M10 =>
  lt (mst M10 1 0 6 (vq1 - 6)) fun M11 =>
  lt (vq3 + 1) fun w12 =>
  k58 (vq1 + 1) w12 (vq3 + 1) M11
set_option maxRecDepth 20000 in
theorem sX4_takeWord_J101 {g : GP} {l : Launch} {x : CT} {k58 : Int32 → Int32 → Int32 → Mem → Option (Unit × Mem)} (ok : Ok g l x RX4 cX4_takeWord 4 none (rmL 8)) (vq1 : Int32) (vq3 : Int32) (s0 : Int32)  (hk58 : ∀ (vq1 : Int32) (vq2 : Int32) (vq3 : Int32) (M : Mem), Sw g l x (FinQ g x eV) 4 0 0 58 [(0, .ref (gA g 1 0)), (1, .int vq1), (2, .int vq2), (3, .int vq3)] [] M (k58 vq1 vq2 vq3 M)) (M : Mem) : Sw g l x (FinQ g x eV) 4 0 0 101 [(0, .ref (gA g 1 0)), (1, .int vq1), (3, .int vq3)] [.int s0, .ref (gA g 1 0)] M (fX4_takeWord_J101 k58 vq1 vq3 s0 M) := by
  unfold fX4_takeWord_J101
  refine r_putI (pc := 101) ok fi_1_5 (by decide) fl_X4_41 fp_1_5 ⟨rfl, rfl⟩ dX4_takeWord_101 ?_
  refine r_nmM (fun M10 => ?_)
  refine r_aload_n (pc := 104) ok 0 dX4_takeWord_104 rfl ?_
  refine r_iload_n (pc := 105) ok 1 dX4_takeWord_105 rfl ?_
  refine r_bipush (pc := 106) ok 6 dX4_takeWord_106 (by decide) ?_
  refine r_isub (pc := 108) ok dX4_takeWord_108 ?_
  refine r_putI (pc := 109) ok fi_1_6 (by decide) fl_X4_63 fp_1_6 ⟨rfl, rfl⟩ dX4_takeWord_109 ?_
  refine r_nmM (fun M11 => ?_)
  refine r_iinc (pc := 112) ok 1 (vq1 + 1) [(1, .int (vq1 + 1)), (0, .ref (gA g 1 0)), (3, .int vq3)] dX4_takeWord_112 rfl (congrArg (fun z => vq1 + z) (by decide : Int32.ofInt 1 = (1 : Int32))) (by decide) rfl ?_
  refine r_iload_n (pc := 115) ok 2 dX4_takeWord_115 rfl ?_
  refine r_iconst (pc := 116) ok 1 dX4_takeWord_116 (by decide) ?_
  refine r_iadd (pc := 117) ok dX4_takeWord_117 ?_
  refine r_nmi (fun w12 => ?_)
  refine r_istore_n (pc := 118) ok [(2, .int w12), (1, .int (vq1 + 1)), (0, .ref (gA g 1 0)), (3, .int vq3)] dX4_takeWord_118 rfl (by decide) rfl ?_
  refine r_iinc (pc := 119) ok 3 (vq3 + 1) [(3, .int (vq3 + 1)), (2, .int w12), (1, .int (vq1 + 1)), (0, .ref (gA g 1 0))] dX4_takeWord_119 rfl (congrArg (fun z => vq3 + z) (by decide : Int32.ofInt 1 = (1 : Int32))) (by decide) rfl ?_
  refine r_goto (pc := 122) ok 58 dX4_takeWord_122 (by decide) ?_
  refine r_lv [3, 2, 1, 0] [(0, .ref (gA g 1 0)), (1, .int (vq1 + 1)), (2, .int w12), (3, .int (vq3 + 1))] rfl ?_
  exact hk58 (vq1 + 1) w12 (vq3 + 1) M11
def fX4_takeWord_B58  (k58 : Int32 → Int32 → Int32 → Mem → Option (Unit × Mem)) (vq1 : Int32) (vq2 : Int32) (vq3 : Int32) (M : Mem) : Option (Unit × Mem) :=
  ob (fKlen M) fun r3 M4 =>
  if r3 ≤ vq3 then
    (some ((), M4))
  else
    (ob (fKch vq3 M4) fun r5 M6 =>
    if r5 = 32 then
      (ob (fX4_isWord vq2 vq3 M6) fun r7 M8 =>
      if r7 = 0 then
        (lt (vq3 + 1) fun w9 =>
        k58 (vq1 + 1) w9 (vq3 + 1) M8)
      else
        (if 6 ≤ vq1 then
          (fX4_takeWord_J101 k58 vq1 vq3 3 M8)
        else
          (fX4_takeWord_J101 k58 vq1 vq3 (4 + vq1) M8)))
    else
      (k58 vq1 vq2 (vq3 + 1) M6))
def fX4_takeWord_L58  : Nat → Int32 → Int32 → Int32 → Mem → Option (Unit × Mem)
  | 0, _, _, _, _ => none
  | n + 1, vq1, vq2, vq3, M => fX4_takeWord_B58  (fX4_takeWord_L58  n) vq1 vq2 vq3 M
set_option maxRecDepth 20000 in
theorem sX4_takeWord_B58 {g : GP} {l : Launch} {x : CT} (ok : Ok g l x RX4 cX4_takeWord 4 none (rmL 8))   (k58 : Int32 → Int32 → Int32 → Mem → Option (Unit × Mem)) (hk58 : ∀ (vq1 : Int32) (vq2 : Int32) (vq3 : Int32) (M : Mem), Sw g l x (FinQ g x eV) 4 0 0 58 [(0, .ref (gA g 1 0)), (1, .int vq1), (2, .int vq2), (3, .int vq3)] [] M (k58 vq1 vq2 vq3 M)) (vq1 : Int32) (vq2 : Int32) (vq3 : Int32) (M : Mem) : Sw g l x (FinQ g x eV) 4 0 0 58 [(0, .ref (gA g 1 0)), (1, .int vq1), (2, .int vq2), (3, .int vq3)] [] M (fX4_takeWord_B58  k58 vq1 vq2 vq3 M) := by
  unfold fX4_takeWord_B58
  refine r_iload_n (pc := 58) ok 3 dX4_takeWord_58 rfl ?_
  refine r_ldcS (pc := 59) ok dX4_takeWord_59 ?_
  refine r_callVK (pc := 61) ok [] [.int vq3] 3 (fun rZ MZ hZ => cJlength g l _ rZ MZ hZ) cv_X4_86 (rmOk_L (by decide) (by decide)) dX4_takeWord_61 rfl rfl (Nat.le_of_ble_eq_true rfl) (fun r3 M4 => ?_)
  refine r_icmp_ge (pc := 64) ok 125 dX4_takeWord_64 (by decide) (fun _ => ?_) (fun _ => ?_)
  · exact r_vret (pc := 125) ok (Nat.zero_le _) (Nat.zero_le _) rfl dX4_takeWord_125
  · refine r_ldcS (pc := 67) ok dX4_takeWord_67 ?_
    refine r_iload_n (pc := 69) ok 3 dX4_takeWord_69 rfl ?_
    refine r_callVK (pc := 70) ok [.int vq3] [] 5 (fun rZ MZ hZ => cKch g l vq3 _ rZ MZ hZ) cv_X4_92 (rmOk_L (by decide) (by decide)) dX4_takeWord_70 rfl rfl (Nat.le_of_ble_eq_true rfl) (fun r5 M6 => ?_)
    refine r_bipush (pc := 73) ok 32 dX4_takeWord_73 (by decide) ?_
    refine r_icmp_ne (pc := 75) ok 119 dX4_takeWord_75 (by decide) (fun _ => ?_) (fun _ => ?_)
    · refine r_aload_n (pc := 78) ok 0 dX4_takeWord_78 rfl ?_
      refine r_iload_n (pc := 79) ok 2 dX4_takeWord_79 rfl ?_
      refine r_iload_n (pc := 80) ok 3 dX4_takeWord_80 rfl ?_
      refine r_callV0 (pc := 81) ok [.int vq2, .int vq3] [] 7 (fun rZ MZ hZ => con_X4_isWord g l vq2 vq3 _ rZ MZ hZ) cv_X4_96 ok_1 (rmOk_L (by decide) (by decide)) dX4_takeWord_81 rfl rfl (Nat.le_of_ble_eq_true rfl) (fun r7 M8 => ?_)
      refine r_if_eq (pc := 84) ok 112 dX4_takeWord_84 (by decide) (fun _ => ?_) (fun _ => ?_)
      · refine r_iinc (pc := 112) ok 1 (vq1 + 1) [(1, .int (vq1 + 1)), (0, .ref (gA g 1 0)), (2, .int vq2), (3, .int vq3)] dX4_takeWord_112 rfl (congrArg (fun z => vq1 + z) (by decide : Int32.ofInt 1 = (1 : Int32))) (by decide) rfl ?_
        refine r_iload_n (pc := 115) ok 3 dX4_takeWord_115 rfl ?_
        refine r_iconst (pc := 116) ok 1 dX4_takeWord_116 (by decide) ?_
        refine r_iadd (pc := 117) ok dX4_takeWord_117 ?_
        refine r_nmi (fun w9 => ?_)
        refine r_istore_n (pc := 118) ok [(2, .int w9), (1, .int (vq1 + 1)), (0, .ref (gA g 1 0)), (3, .int vq3)] dX4_takeWord_118 rfl (by decide) rfl ?_
        refine r_iinc (pc := 119) ok 3 (vq3 + 1) [(3, .int (vq3 + 1)), (2, .int w9), (1, .int (vq1 + 1)), (0, .ref (gA g 1 0))] dX4_takeWord_119 rfl (congrArg (fun z => vq3 + z) (by decide : Int32.ofInt 1 = (1 : Int32))) (by decide) rfl ?_
        refine r_goto (pc := 122) ok 58 dX4_takeWord_122 (by decide) ?_
        refine r_lv [3, 2, 1, 0] [(0, .ref (gA g 1 0)), (1, .int (vq1 + 1)), (2, .int w9), (3, .int (vq3 + 1))] rfl ?_
        exact hk58 (vq1 + 1) w9 (vq3 + 1) M8
      · refine r_aload_n (pc := 87) ok 0 dX4_takeWord_87 rfl ?_
        refine r_iload_n (pc := 88) ok 1 dX4_takeWord_88 rfl ?_
        refine r_bipush (pc := 89) ok 6 dX4_takeWord_89 (by decide) ?_
        refine r_icmp_ge (pc := 91) ok 100 dX4_takeWord_91 (by decide) (fun _ => ?_) (fun _ => ?_)
        · refine r_iconst (pc := 100) ok 3 dX4_takeWord_100 (by decide) ?_
          refine r_lv [0, 1, 3] [(0, .ref (gA g 1 0)), (1, .int vq1), (3, .int vq3)] rfl ?_
          exact sX4_takeWord_J101 ok vq1 vq3 3 hk58 M8
        · refine r_iconst (pc := 94) ok 4 dX4_takeWord_94 (by decide) ?_
          refine r_iload_n (pc := 95) ok 1 dX4_takeWord_95 rfl ?_
          refine r_iadd (pc := 96) ok dX4_takeWord_96 ?_
          refine r_goto (pc := 97) ok 101 dX4_takeWord_97 (by decide) ?_
          refine r_lv [0, 1, 3] [(0, .ref (gA g 1 0)), (1, .int vq1), (3, .int vq3)] rfl ?_
          exact sX4_takeWord_J101 ok vq1 vq3 (4 + vq1) hk58 M8
    · refine r_iinc (pc := 119) ok 3 (vq3 + 1) [(3, .int (vq3 + 1)), (0, .ref (gA g 1 0)), (1, .int vq1), (2, .int vq2)] dX4_takeWord_119 rfl (congrArg (fun z => vq3 + z) (by decide : Int32.ofInt 1 = (1 : Int32))) (by decide) rfl ?_
      refine r_goto (pc := 122) ok 58 dX4_takeWord_122 (by decide) ?_
      refine r_lv [1, 2, 3, 0] [(0, .ref (gA g 1 0)), (1, .int vq1), (2, .int vq2), (3, .int (vq3 + 1))] rfl ?_
      exact hk58 vq1 vq2 (vq3 + 1) M6
theorem sX4_takeWord_L58 {g : GP} {l : Launch} {x : CT} (ok : Ok g l x RX4 cX4_takeWord 4 none (rmL 8))   : ∀ (n : Nat) (vq1 : Int32) (vq2 : Int32) (vq3 : Int32) (M : Mem), Sw g l x (FinQ g x eV) 4 0 0 58 [(0, .ref (gA g 1 0)), (1, .int vq1), (2, .int vq2), (3, .int vq3)] [] M (fX4_takeWord_L58  n vq1 vq2 vq3 M) := by
  intro n
  induction n with
  | zero => intros; exact r_none
  | succ n ih => intro vq1 vq2 vq3 M; exact sX4_takeWord_B58 ok   _ ih vq1 vq2 vq3 M
def fX4_takeWord_J47  (M : Mem) : Option (Unit × Mem) :=
  lt (mst M 1 0 5 1) fun M2 =>
  fX4_takeWord_L58 FU 0 0 0 M2
set_option maxRecDepth 20000 in
theorem sX4_takeWord_J47 {g : GP} {l : Launch} {x : CT} (ok : Ok g l x RX4 cX4_takeWord 4 none (rmL 8))   (M : Mem) : Sw g l x (FinQ g x eV) 4 0 0 47 [(0, .ref (gA g 1 0))] [] M (fX4_takeWord_J47  M) := by
  unfold fX4_takeWord_J47
  refine r_aload_n (pc := 47) ok 0 dX4_takeWord_47 rfl ?_
  refine r_iconst (pc := 48) ok 1 dX4_takeWord_48 (by decide) ?_
  refine r_putI (pc := 49) ok fi_1_5 (by decide) fl_X4_41 fp_1_5 ⟨rfl, rfl⟩ dX4_takeWord_49 ?_
  refine r_nmM (fun M2 => ?_)
  refine r_iconst (pc := 52) ok 0 dX4_takeWord_52 (by decide) ?_
  refine r_istore_n (pc := 53) ok [(1, .int 0), (0, .ref (gA g 1 0))] dX4_takeWord_53 rfl (by decide) rfl ?_
  refine r_iconst (pc := 54) ok 0 dX4_takeWord_54 (by decide) ?_
  refine r_istore_n (pc := 55) ok [(2, .int 0), (1, .int 0), (0, .ref (gA g 1 0))] dX4_takeWord_55 rfl (by decide) rfl ?_
  refine r_iconst (pc := 56) ok 0 dX4_takeWord_56 (by decide) ?_
  refine r_istore_n (pc := 57) ok [(3, .int 0), (2, .int 0), (1, .int 0), (0, .ref (gA g 1 0))] dX4_takeWord_57 rfl (by decide) rfl ?_
  refine r_lv [3, 2, 1, 0] [(0, .ref (gA g 1 0)), (1, .int 0), (2, .int 0), (3, .int 0)] rfl ?_
  exact sX4_takeWord_L58 ok FU 0 0 0 M2
def fX4_takeWord_B8  (k8 : Mem → Option (Unit × Mem))  (M : Mem) : Option (Unit × Mem) :=
  if (M 1 0 3) ≤ (M 1 0 8) then
    (fX4_takeWord_J47 M)
  else
    (gd (inb (M 1 0 8) 160)
    (ob (fX4_isLetter (M 2 0 (M 1 0 8).toNatClampNeg) M) fun r13 M14 =>
    if r13 = 0 then
      (fX4_takeWord_J47 M14)
    else
      (lt (mst M14 1 0 8 ((M14 1 0 8) + 1)) fun M15 =>
      k8 M15)))
def fX4_takeWord_L8  : Nat → Mem → Option (Unit × Mem)
  | 0, _ => none
  | n + 1, M => fX4_takeWord_B8  (fX4_takeWord_L8  n)  M
set_option maxRecDepth 20000 in
theorem sX4_takeWord_B8 {g : GP} {l : Launch} {x : CT} (ok : Ok g l x RX4 cX4_takeWord 4 none (rmL 8))   (k8 : Mem → Option (Unit × Mem)) (hk8 : ∀  (M : Mem), Sw g l x (FinQ g x eV) 4 0 0 8 [(0, .ref (gA g 1 0))] [] M (k8  M))  (M : Mem) : Sw g l x (FinQ g x eV) 4 0 0 8 [(0, .ref (gA g 1 0))] [] M (fX4_takeWord_B8  k8  M) := by
  unfold fX4_takeWord_B8
  refine r_aload_n (pc := 8) ok 0 dX4_takeWord_8 rfl ?_
  refine r_getI (pc := 9) ok fi_1_8 (by decide) fl_X4_28 dX4_takeWord_9 ?_
  refine r_aload_n (pc := 12) ok 0 dX4_takeWord_12 rfl ?_
  refine r_getI (pc := 13) ok fi_1_3 (by decide) fl_X4_21 dX4_takeWord_13 ?_
  refine r_icmp_ge (pc := 16) ok 47 dX4_takeWord_16 (by decide) (fun _ => ?_) (fun _ => ?_)
  · refine r_lv [0] [(0, .ref (gA g 1 0))] rfl ?_
    exact sX4_takeWord_J47 ok M
  · refine r_aload_n (pc := 19) ok 0 dX4_takeWord_19 rfl ?_
    refine r_getR (pc := 20) ok fr_1_0 (by decide) fl_X4_9 dX4_takeWord_20 ?_
    refine r_aload_n (pc := 23) ok 0 dX4_takeWord_23 rfl ?_
    refine r_getI (pc := 24) ok fi_1_8 (by decide) fl_X4_28 dX4_takeWord_24 ?_
    refine r_iald (pc := 27) ok ik_2 (by decide) dX4_takeWord_27 (fun _ => ?_)
    refine r_callS0 (pc := 28) ok [.int (M 2 0 (M 1 0 8).toNatClampNeg)] [] 3 (fun rZ MZ hZ => con_X4_isLetter g l (M 2 0 (M 1 0 8).toNatClampNeg) _ rZ MZ hZ) cs_X4_69 (rmOk_L (by decide) (by decide)) dX4_takeWord_28 rfl rfl (Nat.le_of_ble_eq_true rfl) (fun r13 M14 => ?_)
    refine r_if_eq (pc := 31) ok 47 dX4_takeWord_31 (by decide) (fun _ => ?_) (fun _ => ?_)
    · refine r_lv [0] [(0, .ref (gA g 1 0))] rfl ?_
      exact sX4_takeWord_J47 ok M14
    · refine r_aload_n (pc := 34) ok 0 dX4_takeWord_34 rfl ?_
      refine r_dup (pc := 35) ok dX4_takeWord_35 rfl ?_
      refine r_getI (pc := 36) ok fi_1_8 (by decide) fl_X4_28 dX4_takeWord_36 ?_
      refine r_iconst (pc := 39) ok 1 dX4_takeWord_39 (by decide) ?_
      refine r_iadd (pc := 40) ok dX4_takeWord_40 ?_
      refine r_putI (pc := 41) ok fi_1_8 (by decide) fl_X4_28 fp_1_8 ⟨rfl, rfl⟩ dX4_takeWord_41 ?_
      refine r_nmM (fun M15 => ?_)
      refine r_goto (pc := 44) ok 8 dX4_takeWord_44 (by decide) ?_
      refine r_lv [0] [(0, .ref (gA g 1 0))] rfl ?_
      exact hk8 M15
theorem sX4_takeWord_L8 {g : GP} {l : Launch} {x : CT} (ok : Ok g l x RX4 cX4_takeWord 4 none (rmL 8))   : ∀ (n : Nat)  (M : Mem), Sw g l x (FinQ g x eV) 4 0 0 8 [(0, .ref (gA g 1 0))] [] M (fX4_takeWord_L8  n  M) := by
  intro n
  induction n with
  | zero => intros; exact r_none
  | succ n ih => intro  M; exact sX4_takeWord_B8 ok   _ ih  M
def fX4_takeWord  (M : Mem) : Option (Unit × Mem) :=
  lt (mst M 1 0 8 (M 1 0 7)) fun M1 =>
  fX4_takeWord_L8 FU M1
set_option maxRecDepth 20000 in
theorem wX4_takeWord {g : GP} {l : Launch} {x : CT} (ok : Ok g l x RX4 cX4_takeWord 4 none (rmL 8))   (M : Mem) : Sw g l x (FinQ g x eV) 4 0 0 0 [(0, .ref (gA g 1 0))] [] M (fX4_takeWord  M) := by
  unfold fX4_takeWord
  refine r_aload_n (pc := 0) ok 0 dX4_takeWord_0 rfl ?_
  refine r_aload_n (pc := 1) ok 0 dX4_takeWord_1 rfl ?_
  refine r_getI (pc := 2) ok fi_1_7 (by decide) fl_X4_66 dX4_takeWord_2 ?_
  refine r_putI (pc := 5) ok fi_1_8 (by decide) fl_X4_28 fp_1_8 ⟨rfl, rfl⟩ dX4_takeWord_5 ?_
  refine r_nmM (fun M1 => ?_)
  refine r_lv [0] [(0, .ref (gA g 1 0))] rfl ?_
  exact sX4_takeWord_L8 ok FU M1
theorem con_X4_takeWord (g : GP) (l : Launch)   (M : Mem) (r : Unit) (M2 : Mem) (h : fX4_takeWord  M = some (r, M2)) : Con g l yX4_takeWord cX4_takeWord 4 none (rmL 8) [.ref (gA g 1 0)] M (eV r) M2 :=
  Con.of (own := RX4) (f := fX4_takeWord  M) (by decide) (Nat.le_of_ble_eq_true rfl) rfl (fun x ok => wX4_takeWord ok   M) r M2 h
def fX5_passDays_B2 (iq0 : Nat) (vq1 : Int32) (k2 : Int32 → Mem → Option (Unit × Mem)) (vq2 : Int32) (M : Mem) : Option (Unit × Mem) :=
  if vq1 ≤ vq2 then
    (some ((), M))
  else
    (ob (fX5_passDay iq0 M) fun r1 M2 =>
    k2 (vq2 + 1) M2)
def fX5_passDays_L2 (iq0 : Nat) (vq1 : Int32) : Nat → Int32 → Mem → Option (Unit × Mem)
  | 0, _, _ => none
  | n + 1, vq2, M => fX5_passDays_B2 iq0 vq1 (fX5_passDays_L2 iq0 vq1 n) vq2 M
set_option maxRecDepth 20000 in
theorem sX5_passDays_B2 {g : GP} {l : Launch} {x : CT} (ok : Ok g l x RX5 cX5_passDays 3 none (rmL 8)) (iq0 : Nat) (vq1 : Int32) (h0 : iq0 < 3) (k2 : Int32 → Mem → Option (Unit × Mem)) (hk2 : ∀ (vq2 : Int32) (M : Mem), Sw g l x (FinQ g x eV) 3 0 0 2 [(0, .ref (gA g 15 iq0)), (1, .int vq1), (2, .int vq2)] [] M (k2 vq2 M)) (vq2 : Int32) (M : Mem) : Sw g l x (FinQ g x eV) 3 0 0 2 [(0, .ref (gA g 15 iq0)), (1, .int vq1), (2, .int vq2)] [] M (fX5_passDays_B2 iq0 vq1 k2 vq2 M) := by
  unfold fX5_passDays_B2
  refine r_iload_n (pc := 2) ok 2 dX5_passDays_2 rfl ?_
  refine r_iload_n (pc := 3) ok 1 dX5_passDays_3 rfl ?_
  refine r_icmp_ge (pc := 4) ok 17 dX5_passDays_4 (by decide) (fun _ => ?_) (fun _ => ?_)
  · exact r_vret (pc := 17) ok (Nat.zero_le _) (Nat.zero_le _) rfl dX5_passDays_17
  · refine r_aload_n (pc := 7) ok 0 dX5_passDays_7 rfl ?_
    refine r_callV0 (pc := 8) ok [] [] 7 (fun rZ MZ hZ => con_X5_passDay g l iq0 h0 _ rZ MZ hZ) cv_X5_98 (ok_15 h0) (rmOk_L (by decide) (by decide)) dX5_passDays_8 rfl rfl (Nat.le_of_ble_eq_true rfl) (fun r1 M2 => ?_)
    refine r_iinc (pc := 11) ok 2 (vq2 + 1) [(2, .int (vq2 + 1)), (0, .ref (gA g 15 iq0)), (1, .int vq1)] dX5_passDays_11 rfl (congrArg (fun z => vq2 + z) (by decide : Int32.ofInt 1 = (1 : Int32))) (by decide) rfl ?_
    refine r_goto (pc := 14) ok 2 dX5_passDays_14 (by decide) ?_
    refine r_lv [1, 2, 0] [(0, .ref (gA g 15 iq0)), (1, .int vq1), (2, .int (vq2 + 1))] rfl ?_
    exact hk2 (vq2 + 1) M2
theorem sX5_passDays_L2 {g : GP} {l : Launch} {x : CT} (ok : Ok g l x RX5 cX5_passDays 3 none (rmL 8)) (iq0 : Nat) (vq1 : Int32) (h0 : iq0 < 3) : ∀ (n : Nat) (vq2 : Int32) (M : Mem), Sw g l x (FinQ g x eV) 3 0 0 2 [(0, .ref (gA g 15 iq0)), (1, .int vq1), (2, .int vq2)] [] M (fX5_passDays_L2 iq0 vq1 n vq2 M) := by
  intro n
  induction n with
  | zero => intros; exact r_none
  | succ n ih => intro vq2 M; exact sX5_passDays_B2 ok iq0 vq1 h0 _ ih vq2 M
def fX5_passDays (iq0 : Nat) (vq1 : Int32) (M : Mem) : Option (Unit × Mem) :=
  fX5_passDays_L2 iq0 vq1 FU 0 M
set_option maxRecDepth 20000 in
theorem wX5_passDays {g : GP} {l : Launch} {x : CT} (ok : Ok g l x RX5 cX5_passDays 3 none (rmL 8)) (iq0 : Nat) (vq1 : Int32) (hq0 : iq0 < 3) (M : Mem) : Sw g l x (FinQ g x eV) 3 0 0 0 [(0, .ref (gA g 15 iq0)), (1, .int vq1)] [] M (fX5_passDays iq0 vq1 M) := by
  unfold fX5_passDays
  refine r_iconst (pc := 0) ok 0 dX5_passDays_0 (by decide) ?_
  refine r_istore_n (pc := 1) ok [(2, .int 0), (0, .ref (gA g 15 iq0)), (1, .int vq1)] dX5_passDays_1 rfl (by decide) rfl ?_
  refine r_lv [1, 2, 0] [(0, .ref (gA g 15 iq0)), (1, .int vq1), (2, .int 0)] rfl ?_
  exact sX5_passDays_L2 ok iq0 vq1 hq0 FU 0 M
theorem con_X5_passDays (g : GP) (l : Launch) (iq0 : Nat) (vq1 : Int32) (hq0 : iq0 < 3) (M : Mem) (r : Unit) (M2 : Mem) (h : fX5_passDays iq0 vq1 M = some (r, M2)) : Con g l yX5_passDays cX5_passDays 3 none (rmL 8) [.ref (gA g 15 iq0), .int vq1] M (eV r) M2 :=
  Con.of (own := RX5) (f := fX5_passDays iq0 vq1 M) (by decide) (Nat.le_of_ble_eq_true rfl) rfl (fun x ok => wX5_passDays ok iq0 vq1 hq0 M) r M2 h
def fX10_run (vq1 : Int32) (vq2 : Int32) (M : Mem) : Option (Int32 × Mem) :=
  ob (fX10_within vq1 0 40 M) fun r1 M2 =>
  if r1 = 0 then
    (some (-2, M2))
  else
    (ob (fX10_within vq2 0 36 M2) fun r3 M4 =>
    if r3 = 0 then
      (some (-2, M4))
    else
      (ob (fX5_takeFrom 1 0 M4) fun r5 M6 =>
      ob (fX5_passDays 1 vq1 M6) fun r7 M8 =>
      if 36 ≤ vq2 then
        (ob (fX5_total 1 0 36 M8) fun r9 M10 =>
        some (r9, M10))
      else
        (gd (inb vq2 36)
        (some (M8 16 1 vq2.toNatClampNeg, M8)))))
set_option maxRecDepth 20000 in
theorem wX10_run {g : GP} {l : Launch} {x : CT} (ok : Ok g l x RX10 cX10_run 3 (some FieldType.int) (rmL 9)) (vq1 : Int32) (vq2 : Int32)  (M : Mem) : Sw g l x (FinQ g x eI) 3 0 0 0 [(0, .ref (gA g 0 0)), (1, .int vq1), (2, .int vq2)] [] M (fX10_run vq1 vq2 M) := by
  unfold fX10_run
  refine r_iload_n (pc := 0) ok 1 dX10_run_0 rfl ?_
  refine r_iconst (pc := 1) ok 0 dX10_run_1 (by decide) ?_
  refine r_bipush (pc := 2) ok 40 dX10_run_2 (by decide) ?_
  refine r_callS0 (pc := 4) ok [.int vq1, .int 0, .int 40] [] 2 (fun rZ MZ hZ => con_X10_within g l vq1 0 40 _ rZ MZ hZ) cs_X10_91 (rmOk_L (by decide) (by decide)) dX10_run_4 rfl rfl (Nat.le_of_ble_eq_true rfl) (fun r1 M2 => ?_)
  refine r_if_eq (pc := 7) ok 20 dX10_run_7 (by decide) (fun _ => ?_) (fun _ => ?_)
  · refine r_bipush (pc := 20) ok (-2) dX10_run_20 (by decide) ?_
    exact r_iret (pc := 22) ok (Nat.zero_le _) (Nat.zero_le _) rfl dX10_run_22
  · refine r_iload_n (pc := 10) ok 2 dX10_run_10 rfl ?_
    refine r_iconst (pc := 11) ok 0 dX10_run_11 (by decide) ?_
    refine r_bipush (pc := 12) ok 36 dX10_run_12 (by decide) ?_
    refine r_callS0 (pc := 14) ok [.int vq2, .int 0, .int 36] [] 2 (fun rZ MZ hZ => con_X10_within g l vq2 0 36 _ rZ MZ hZ) cs_X10_91 (rmOk_L (by decide) (by decide)) dX10_run_14 rfl rfl (Nat.le_of_ble_eq_true rfl) (fun r3 M4 => ?_)
    refine r_if_ne (pc := 17) ok 23 dX10_run_17 (by decide) (fun _ => ?_) (fun _ => ?_)
    · refine r_bipush (pc := 20) ok (-2) dX10_run_20 (by decide) ?_
      exact r_iret (pc := 22) ok (Nat.zero_le _) (Nat.zero_le _) rfl dX10_run_22
    · refine r_aload_n (pc := 23) ok 0 dX10_run_23 rfl ?_
      refine r_getR (pc := 24) ok fr_0_5 (by decide) fl_X10_65 dX10_run_24 ?_
      refine r_aload_n (pc := 27) ok 0 dX10_run_27 rfl ?_
      refine r_getR (pc := 28) ok fr_0_4 (by decide) fl_X10_61 dX10_run_28 ?_
      refine r_callVN0 (pc := 31) ok [.ref (gA g 15 0)] [] 2 (fun rZ MZ hZ => con_X5_takeFrom g l 1 0 (by decide) (by decide) _ rZ MZ hZ) cvN_X10_141 (ok_15 (by decide)) (rmOk_L (by decide) (by decide)) dX10_run_31 rfl rfl (Nat.le_of_ble_eq_true rfl) (fun r5 M6 => ?_)
      refine r_aload_n (pc := 34) ok 0 dX10_run_34 rfl ?_
      refine r_getR (pc := 35) ok fr_0_5 (by decide) fl_X10_65 dX10_run_35 ?_
      refine r_iload_n (pc := 38) ok 1 dX10_run_38 rfl ?_
      refine r_callVN0 (pc := 39) ok [.int vq1] [] 8 (fun rZ MZ hZ => con_X5_passDays g l 1 vq1 (by decide) _ rZ MZ hZ) cvN_X10_145 (ok_15 (by decide)) (rmOk_L (by decide) (by decide)) dX10_run_39 rfl rfl (Nat.le_of_ble_eq_true rfl) (fun r7 M8 => ?_)
      refine r_iload_n (pc := 42) ok 2 dX10_run_42 rfl ?_
      refine r_bipush (pc := 43) ok 36 dX10_run_43 (by decide) ?_
      refine r_icmp_ge (pc := 45) ok 60 dX10_run_45 (by decide) (fun _ => ?_) (fun _ => ?_)
      · refine r_aload_n (pc := 60) ok 0 dX10_run_60 rfl ?_
        refine r_getR (pc := 61) ok fr_0_5 (by decide) fl_X10_65 dX10_run_61 ?_
        refine r_iconst (pc := 64) ok 0 dX10_run_64 (by decide) ?_
        refine r_bipush (pc := 65) ok 36 dX10_run_65 (by decide) ?_
        refine r_callVN0 (pc := 67) ok [.int 0, .int 36] [] 2 (fun rZ MZ hZ => con_X5_total g l 1 0 36 (by decide) _ rZ MZ hZ) cvN_X10_77 (ok_15 (by decide)) (rmOk_L (by decide) (by decide)) dX10_run_67 rfl rfl (Nat.le_of_ble_eq_true rfl) (fun r9 M10 => ?_)
        exact r_iret (pc := 70) ok (Nat.zero_le _) (Nat.zero_le _) rfl dX10_run_70
      · refine r_aload_n (pc := 48) ok 0 dX10_run_48 rfl ?_
        refine r_getR (pc := 49) ok fr_0_5 (by decide) fl_X10_65 dX10_run_49 ?_
        refine r_getRN (pc := 52) ok fr_15_2 (by decide) flN_X10_95 dX10_run_52 ?_
        refine r_iload_n (pc := 55) ok 2 dX10_run_55 rfl ?_
        refine r_iald (pc := 56) ok ik_16 (by decide) dX10_run_56 (fun _ => ?_)
        refine r_goto (pc := 57) ok 70 dX10_run_57 (by decide) ?_
        exact r_iret (pc := 70) ok (Nat.zero_le _) (Nat.zero_le _) rfl dX10_run_70
theorem con_X10_run (g : GP) (l : Launch) (vq1 : Int32) (vq2 : Int32)  (M : Mem) (r : Int32) (M2 : Mem) (h : fX10_run vq1 vq2 M = some (r, M2)) : Con g l yX10_run cX10_run 3 (some FieldType.int) (rmL 9) [.ref (gA g 0 0), .int vq1, .int vq2] M (eI r) M2 :=
  Con.of (own := RX10) (f := fX10_run vq1 vq2 M) (by decide) (Nat.le_of_ble_eq_true rfl) rfl (fun x ok => wX10_run ok vq1 vq2  M) r M2 h
def fX10_turn_B39 (vq1 : Int32) (vq2 : Int32) (k39 : Int32 → Int32 → Int32 → Mem → Option (Int32 × Mem)) (vq3 : Int32) (vq4 : Int32) (vq5 : Int32) (M : Mem) : Option (Int32 × Mem) :=
  if (M 15 0 7) ≤ vq5 then
    (if vq2 = 0 then
      (some (vq3, M))
    else
      (some (vq4, M)))
  else
    (ob (fX5_takeFrom 1 0 M) fun r7 M8 =>
    ob (fX5_dismiss 1 vq5 M8) fun r9 M10 =>
    ob (fX5_passDays 1 vq1 M10) fun r11 M12 =>
    ob (fX5_total 1 0 36 M12) fun r13 M14 =>
    if vq3 = (-1) then
      (k39 vq5 r13 (vq5 + 1) M14)
    else
      (if vq4 ≤ r13 then
        (k39 vq3 vq4 (vq5 + 1) M14)
      else
        (k39 vq5 r13 (vq5 + 1) M14)))
def fX10_turn_L39 (vq1 : Int32) (vq2 : Int32) : Nat → Int32 → Int32 → Int32 → Mem → Option (Int32 × Mem)
  | 0, _, _, _, _ => none
  | n + 1, vq3, vq4, vq5, M => fX10_turn_B39 vq1 vq2 (fX10_turn_L39 vq1 vq2 n) vq3 vq4 vq5 M
set_option maxRecDepth 20000 in
theorem sX10_turn_B39 {g : GP} {l : Launch} {x : CT} (ok : Ok g l x RX10 cX10_turn 7 (some FieldType.int) (rmL 9)) (vq1 : Int32) (vq2 : Int32)  (k39 : Int32 → Int32 → Int32 → Mem → Option (Int32 × Mem)) (hk39 : ∀ (vq3 : Int32) (vq4 : Int32) (vq5 : Int32) (M : Mem), Sw g l x (FinQ g x eI) 7 0 0 39 [(0, .ref (gA g 0 0)), (1, .int vq1), (2, .int vq2), (3, .int vq3), (4, .int vq4), (5, .int vq5)] [] M (k39 vq3 vq4 vq5 M)) (vq3 : Int32) (vq4 : Int32) (vq5 : Int32) (M : Mem) : Sw g l x (FinQ g x eI) 7 0 0 39 [(0, .ref (gA g 0 0)), (1, .int vq1), (2, .int vq2), (3, .int vq3), (4, .int vq4), (5, .int vq5)] [] M (fX10_turn_B39 vq1 vq2 k39 vq3 vq4 vq5 M) := by
  unfold fX10_turn_B39
  refine r_iload (pc := 39) ok 5 dX10_turn_39 rfl ?_
  refine r_aload_n (pc := 41) ok 0 dX10_turn_41 rfl ?_
  refine r_getR (pc := 42) ok fr_0_4 (by decide) fl_X10_61 dX10_turn_42 ?_
  refine r_getIN (pc := 45) ok fi_15_7 (by decide) flN_X10_71 dX10_turn_45 ?_
  refine r_icmp_ge (pc := 48) ok 116 dX10_turn_48 (by decide) (fun _ => ?_) (fun _ => ?_)
  · refine r_iload_n (pc := 116) ok 2 dX10_turn_116 rfl ?_
    refine r_if_ne (pc := 117) ok 124 dX10_turn_117 (by decide) (fun _ => ?_) (fun _ => ?_)
    · refine r_iload_n (pc := 120) ok 3 dX10_turn_120 rfl ?_
      refine r_goto (pc := 121) ok 126 dX10_turn_121 (by decide) ?_
      exact r_iret (pc := 126) ok (Nat.zero_le _) (Nat.zero_le _) rfl dX10_turn_126
    · refine r_iload (pc := 124) ok 4 dX10_turn_124 rfl ?_
      exact r_iret (pc := 126) ok (Nat.zero_le _) (Nat.zero_le _) rfl dX10_turn_126
  · refine r_aload_n (pc := 51) ok 0 dX10_turn_51 rfl ?_
    refine r_getR (pc := 52) ok fr_0_5 (by decide) fl_X10_65 dX10_turn_52 ?_
    refine r_aload_n (pc := 55) ok 0 dX10_turn_55 rfl ?_
    refine r_getR (pc := 56) ok fr_0_4 (by decide) fl_X10_61 dX10_turn_56 ?_
    refine r_callVN0 (pc := 59) ok [.ref (gA g 15 0)] [] 2 (fun rZ MZ hZ => con_X5_takeFrom g l 1 0 (by decide) (by decide) _ rZ MZ hZ) cvN_X10_141 (ok_15 (by decide)) (rmOk_L (by decide) (by decide)) dX10_turn_59 rfl rfl (Nat.le_of_ble_eq_true rfl) (fun r7 M8 => ?_)
    refine r_aload_n (pc := 62) ok 0 dX10_turn_62 rfl ?_
    refine r_getR (pc := 63) ok fr_0_5 (by decide) fl_X10_65 dX10_turn_63 ?_
    refine r_iload (pc := 66) ok 5 dX10_turn_66 rfl ?_
    refine r_callVN0 (pc := 68) ok [.int vq5] [] 2 (fun rZ MZ hZ => con_X5_dismiss g l 1 vq5 (by decide) _ rZ MZ hZ) cvN_X10_198 (ok_15 (by decide)) (rmOk_L (by decide) (by decide)) dX10_turn_68 rfl rfl (Nat.le_of_ble_eq_true rfl) (fun r9 M10 => ?_)
    refine r_aload_n (pc := 71) ok 0 dX10_turn_71 rfl ?_
    refine r_getR (pc := 72) ok fr_0_5 (by decide) fl_X10_65 dX10_turn_72 ?_
    refine r_iload_n (pc := 75) ok 1 dX10_turn_75 rfl ?_
    refine r_callVN0 (pc := 76) ok [.int vq1] [] 8 (fun rZ MZ hZ => con_X5_passDays g l 1 vq1 (by decide) _ rZ MZ hZ) cvN_X10_145 (ok_15 (by decide)) (rmOk_L (by decide) (by decide)) dX10_turn_76 rfl rfl (Nat.le_of_ble_eq_true rfl) (fun r11 M12 => ?_)
    refine r_aload_n (pc := 79) ok 0 dX10_turn_79 rfl ?_
    refine r_getR (pc := 80) ok fr_0_5 (by decide) fl_X10_65 dX10_turn_80 ?_
    refine r_iconst (pc := 83) ok 0 dX10_turn_83 (by decide) ?_
    refine r_bipush (pc := 84) ok 36 dX10_turn_84 (by decide) ?_
    refine r_callVN0 (pc := 86) ok [.int 0, .int 36] [] 2 (fun rZ MZ hZ => con_X5_total g l 1 0 36 (by decide) _ rZ MZ hZ) cvN_X10_77 (ok_15 (by decide)) (rmOk_L (by decide) (by decide)) dX10_turn_86 rfl rfl (Nat.le_of_ble_eq_true rfl) (fun r13 M14 => ?_)
    refine r_istore (pc := 89) ok [(6, .int r13), (0, .ref (gA g 0 0)), (1, .int vq1), (2, .int vq2), (3, .int vq3), (4, .int vq4), (5, .int vq5)] dX10_turn_89 (by decide) rfl ?_
    refine r_iload_n (pc := 91) ok 4 dX10_turn_91 rfl ?_
    refine r_iconst (pc := 92) ok (-1) dX10_turn_92 (by decide) ?_
    refine r_icmp_eq (pc := 93) ok 103 dX10_turn_93 (by decide) (fun _ => ?_) (fun _ => ?_)
    · refine r_iload (pc := 103) ok 6 dX10_turn_103 rfl ?_
      refine r_istore_n (pc := 105) ok [(3, .int vq5), (6, .int r13), (0, .ref (gA g 0 0)), (1, .int vq1), (2, .int vq2), (4, .int vq4), (5, .int vq5)] dX10_turn_105 rfl (by decide) rfl ?_
      refine r_iload (pc := 106) ok 1 dX10_turn_106 rfl ?_
      refine r_istore (pc := 108) ok [(4, .int r13), (3, .int vq5), (6, .int r13), (0, .ref (gA g 0 0)), (1, .int vq1), (2, .int vq2), (5, .int vq5)] dX10_turn_108 (by decide) rfl ?_
      refine r_iinc (pc := 110) ok 6 (vq5 + 1) [(5, .int (vq5 + 1)), (4, .int r13), (3, .int vq5), (6, .int r13), (0, .ref (gA g 0 0)), (1, .int vq1), (2, .int vq2)] dX10_turn_110 rfl (congrArg (fun z => vq5 + z) (by decide : Int32.ofInt 1 = (1 : Int32))) (by decide) rfl ?_
      refine r_goto (pc := 113) ok 39 dX10_turn_113 (by decide) ?_
      refine r_lv [4, 5, 6, 2, 1, 0] [(0, .ref (gA g 0 0)), (1, .int vq1), (2, .int vq2), (3, .int vq5), (4, .int r13), (5, .int (vq5 + 1))] rfl ?_
      exact hk39 vq5 r13 (vq5 + 1) M14
    · refine r_iload (pc := 96) ok 0 dX10_turn_96 rfl ?_
      refine r_iload (pc := 98) ok 5 dX10_turn_98 rfl ?_
      refine r_icmp_ge (pc := 100) ok 110 dX10_turn_100 (by decide) (fun _ => ?_) (fun _ => ?_)
      · refine r_iinc (pc := 110) ok 6 (vq5 + 1) [(5, .int (vq5 + 1)), (6, .int r13), (0, .ref (gA g 0 0)), (1, .int vq1), (2, .int vq2), (3, .int vq3), (4, .int vq4)] dX10_turn_110 rfl (congrArg (fun z => vq5 + z) (by decide : Int32.ofInt 1 = (1 : Int32))) (by decide) rfl ?_
        refine r_goto (pc := 113) ok 39 dX10_turn_113 (by decide) ?_
        refine r_lv [2, 3, 4, 5, 6, 0] [(0, .ref (gA g 0 0)), (1, .int vq1), (2, .int vq2), (3, .int vq3), (4, .int vq4), (5, .int (vq5 + 1))] rfl ?_
        exact hk39 vq3 vq4 (vq5 + 1) M14
      · refine r_iload (pc := 103) ok 6 dX10_turn_103 rfl ?_
        refine r_istore_n (pc := 105) ok [(3, .int vq5), (6, .int r13), (0, .ref (gA g 0 0)), (1, .int vq1), (2, .int vq2), (4, .int vq4), (5, .int vq5)] dX10_turn_105 rfl (by decide) rfl ?_
        refine r_iload (pc := 106) ok 1 dX10_turn_106 rfl ?_
        refine r_istore (pc := 108) ok [(4, .int r13), (3, .int vq5), (6, .int r13), (0, .ref (gA g 0 0)), (1, .int vq1), (2, .int vq2), (5, .int vq5)] dX10_turn_108 (by decide) rfl ?_
        refine r_iinc (pc := 110) ok 6 (vq5 + 1) [(5, .int (vq5 + 1)), (4, .int r13), (3, .int vq5), (6, .int r13), (0, .ref (gA g 0 0)), (1, .int vq1), (2, .int vq2)] dX10_turn_110 rfl (congrArg (fun z => vq5 + z) (by decide : Int32.ofInt 1 = (1 : Int32))) (by decide) rfl ?_
        refine r_goto (pc := 113) ok 39 dX10_turn_113 (by decide) ?_
        refine r_lv [4, 5, 6, 2, 1, 0] [(0, .ref (gA g 0 0)), (1, .int vq1), (2, .int vq2), (3, .int vq5), (4, .int r13), (5, .int (vq5 + 1))] rfl ?_
        exact hk39 vq5 r13 (vq5 + 1) M14
theorem sX10_turn_L39 {g : GP} {l : Launch} {x : CT} (ok : Ok g l x RX10 cX10_turn 7 (some FieldType.int) (rmL 9)) (vq1 : Int32) (vq2 : Int32)  : ∀ (n : Nat) (vq3 : Int32) (vq4 : Int32) (vq5 : Int32) (M : Mem), Sw g l x (FinQ g x eI) 7 0 0 39 [(0, .ref (gA g 0 0)), (1, .int vq1), (2, .int vq2), (3, .int vq3), (4, .int vq4), (5, .int vq5)] [] M (fX10_turn_L39 vq1 vq2 n vq3 vq4 vq5 M) := by
  intro n
  induction n with
  | zero => intros; exact r_none
  | succ n ih => intro vq3 vq4 vq5 M; exact sX10_turn_B39 ok vq1 vq2  _ ih vq3 vq4 vq5 M
def fX10_turn (vq1 : Int32) (vq2 : Int32) (M : Mem) : Option (Int32 × Mem) :=
  ob (fX10_within vq1 0 40 M) fun r1 M2 =>
  if r1 = 0 then
    (some (-2, M2))
  else
    (ob (fX10_within vq2 0 1 M2) fun r3 M4 =>
    if r3 = 0 then
      (some (-2, M4))
    else
      (ob (fX5_total 0 0 36 M4) fun r5 M6 =>
      fX10_turn_L39 vq1 vq2 FU (-1) r5 0 M6))
set_option maxRecDepth 20000 in
theorem wX10_turn {g : GP} {l : Launch} {x : CT} (ok : Ok g l x RX10 cX10_turn 7 (some FieldType.int) (rmL 9)) (vq1 : Int32) (vq2 : Int32)  (M : Mem) : Sw g l x (FinQ g x eI) 7 0 0 0 [(0, .ref (gA g 0 0)), (1, .int vq1), (2, .int vq2)] [] M (fX10_turn vq1 vq2 M) := by
  unfold fX10_turn
  refine r_iload_n (pc := 0) ok 1 dX10_turn_0 rfl ?_
  refine r_iconst (pc := 1) ok 0 dX10_turn_1 (by decide) ?_
  refine r_bipush (pc := 2) ok 40 dX10_turn_2 (by decide) ?_
  refine r_callS0 (pc := 4) ok [.int vq1, .int 0, .int 40] [] 2 (fun rZ MZ hZ => con_X10_within g l vq1 0 40 _ rZ MZ hZ) cs_X10_91 (rmOk_L (by decide) (by decide)) dX10_turn_4 rfl rfl (Nat.le_of_ble_eq_true rfl) (fun r1 M2 => ?_)
  refine r_if_eq (pc := 7) ok 19 dX10_turn_7 (by decide) (fun _ => ?_) (fun _ => ?_)
  · refine r_bipush (pc := 19) ok (-2) dX10_turn_19 (by decide) ?_
    exact r_iret (pc := 21) ok (Nat.zero_le _) (Nat.zero_le _) rfl dX10_turn_21
  · refine r_iload_n (pc := 10) ok 2 dX10_turn_10 rfl ?_
    refine r_iconst (pc := 11) ok 0 dX10_turn_11 (by decide) ?_
    refine r_iconst (pc := 12) ok 1 dX10_turn_12 (by decide) ?_
    refine r_callS0 (pc := 13) ok [.int vq2, .int 0, .int 1] [] 2 (fun rZ MZ hZ => con_X10_within g l vq2 0 1 _ rZ MZ hZ) cs_X10_91 (rmOk_L (by decide) (by decide)) dX10_turn_13 rfl rfl (Nat.le_of_ble_eq_true rfl) (fun r3 M4 => ?_)
    refine r_if_ne (pc := 16) ok 22 dX10_turn_16 (by decide) (fun _ => ?_) (fun _ => ?_)
    · refine r_bipush (pc := 19) ok (-2) dX10_turn_19 (by decide) ?_
      exact r_iret (pc := 21) ok (Nat.zero_le _) (Nat.zero_le _) rfl dX10_turn_21
    · refine r_iconst (pc := 22) ok (-1) dX10_turn_22 (by decide) ?_
      refine r_istore_n (pc := 23) ok [(3, .int (-1)), (0, .ref (gA g 0 0)), (1, .int vq1), (2, .int vq2)] dX10_turn_23 rfl (by decide) rfl ?_
      refine r_aload_n (pc := 24) ok 1 dX10_turn_24 rfl ?_
      refine r_getR (pc := 25) ok fr_0_4 (by decide) fl_X10_61 dX10_turn_25 ?_
      refine r_iconst (pc := 28) ok 0 dX10_turn_28 (by decide) ?_
      refine r_bipush (pc := 29) ok 36 dX10_turn_29 (by decide) ?_
      refine r_callVN0 (pc := 31) ok [.int 0, .int 36] [] 2 (fun rZ MZ hZ => con_X5_total g l 0 0 36 (by decide) _ rZ MZ hZ) cvN_X10_77 (ok_15 (by decide)) (rmOk_L (by decide) (by decide)) dX10_turn_31 rfl rfl (Nat.le_of_ble_eq_true rfl) (fun r5 M6 => ?_)
      refine r_istore (pc := 34) ok [(4, .int r5), (3, .int (-1)), (0, .ref (gA g 0 0)), (1, .int vq1), (2, .int vq2)] dX10_turn_34 (by decide) rfl ?_
      refine r_iconst (pc := 36) ok 0 dX10_turn_36 (by decide) ?_
      refine r_istore (pc := 37) ok [(5, .int 0), (4, .int r5), (3, .int (-1)), (0, .ref (gA g 0 0)), (1, .int vq1), (2, .int vq2)] dX10_turn_37 (by decide) rfl ?_
      refine r_lv [3, 4, 5, 2, 1, 0] [(0, .ref (gA g 0 0)), (1, .int vq1), (2, .int vq2), (3, .int (-1)), (4, .int r5), (5, .int 0)] rfl ?_
      exact sX10_turn_L39 ok vq1 vq2 FU (-1) r5 0 M6
theorem con_X10_turn (g : GP) (l : Launch) (vq1 : Int32) (vq2 : Int32)  (M : Mem) (r : Int32) (M2 : Mem) (h : fX10_turn vq1 vq2 M = some (r, M2)) : Con g l yX10_turn cX10_turn 7 (some FieldType.int) (rmL 9) [.ref (gA g 0 0), .int vq1, .int vq2] M (eI r) M2 :=
  Con.of (own := RX10) (f := fX10_turn vq1 vq2 M) (by decide) (Nat.le_of_ble_eq_true rfl) rfl (fun x ok => wX10_turn ok vq1 vq2  M) r M2 h
def fX10_seats_B45 (vq1 : Int32) (vq2 : Int32) (vq3 : Int32) (k45 : Int32 → Int32 → Int32 → Mem → Option (Int32 × Mem)) (vq4 : Int32) (vq5 : Int32) (vq6 : Int32) (M : Mem) : Option (Int32 × Mem) :=
  if 36 ≤ vq6 then
    (if vq3 = 0 then
      (some (vq4, M))
    else
      (some (vq5, M)))
  else
    (ob (fX10_suppose vq1 0 vq6 M) fun r7 M8 =>
    ob (fX5_passDays 1 vq2 M8) fun r9 M10 =>
    ob (fX5_thickestCell 1 M10) fun r11 M12 =>
    gd (inb r11 36)
    (lt (M12 16 1 r11.toNatClampNeg) fun w13 =>
    if vq4 = (-1) then
      (k45 vq6 w13 (vq6 + 1) M12)
    else
      (if vq5 ≤ w13 then
        (k45 vq4 vq5 (vq6 + 1) M12)
      else
        (k45 vq6 w13 (vq6 + 1) M12))))
def fX10_seats_L45 (vq1 : Int32) (vq2 : Int32) (vq3 : Int32) : Nat → Int32 → Int32 → Int32 → Mem → Option (Int32 × Mem)
  | 0, _, _, _, _ => none
  | n + 1, vq4, vq5, vq6, M => fX10_seats_B45 vq1 vq2 vq3 (fX10_seats_L45 vq1 vq2 vq3 n) vq4 vq5 vq6 M
set_option maxRecDepth 20000 in
theorem sX10_seats_B45 {g : GP} {l : Launch} {x : CT} (ok : Ok g l x RX10 cX10_seats 8 (some FieldType.int) (rmL 9)) (vq1 : Int32) (vq2 : Int32) (vq3 : Int32)  (k45 : Int32 → Int32 → Int32 → Mem → Option (Int32 × Mem)) (hk45 : ∀ (vq4 : Int32) (vq5 : Int32) (vq6 : Int32) (M : Mem), Sw g l x (FinQ g x eI) 8 0 0 45 [(0, .ref (gA g 0 0)), (1, .int vq1), (2, .int vq2), (3, .int vq3), (4, .int vq4), (5, .int vq5), (6, .int vq6)] [] M (k45 vq4 vq5 vq6 M)) (vq4 : Int32) (vq5 : Int32) (vq6 : Int32) (M : Mem) : Sw g l x (FinQ g x eI) 8 0 0 45 [(0, .ref (gA g 0 0)), (1, .int vq1), (2, .int vq2), (3, .int vq3), (4, .int vq4), (5, .int vq5), (6, .int vq6)] [] M (fX10_seats_B45 vq1 vq2 vq3 k45 vq4 vq5 vq6 M) := by
  unfold fX10_seats_B45
  refine r_iload (pc := 45) ok 6 dX10_seats_45 rfl ?_
  refine r_bipush (pc := 47) ok 36 dX10_seats_47 (by decide) ?_
  refine r_icmp_ge (pc := 49) ok 112 dX10_seats_49 (by decide) (fun _ => ?_) (fun _ => ?_)
  · refine r_iload_n (pc := 112) ok 3 dX10_seats_112 rfl ?_
    refine r_if_ne (pc := 113) ok 121 dX10_seats_113 (by decide) (fun _ => ?_) (fun _ => ?_)
    · refine r_iload (pc := 116) ok 4 dX10_seats_116 rfl ?_
      refine r_goto (pc := 118) ok 123 dX10_seats_118 (by decide) ?_
      exact r_iret (pc := 123) ok (Nat.zero_le _) (Nat.zero_le _) rfl dX10_seats_123
    · refine r_iload (pc := 121) ok 5 dX10_seats_121 rfl ?_
      exact r_iret (pc := 123) ok (Nat.zero_le _) (Nat.zero_le _) rfl dX10_seats_123
  · refine r_aload_n (pc := 52) ok 0 dX10_seats_52 rfl ?_
    refine r_iload_n (pc := 53) ok 1 dX10_seats_53 rfl ?_
    refine r_iconst (pc := 54) ok 0 dX10_seats_54 (by decide) ?_
    refine r_iload (pc := 55) ok 6 dX10_seats_55 rfl ?_
    refine r_callV0 (pc := 57) ok [.int vq1, .int 0, .int vq6] [] 3 (fun rZ MZ hZ => con_X10_suppose g l vq1 0 vq6 _ rZ MZ hZ) cv_X10_201 ok_0 (rmOk_L (by decide) (by decide)) dX10_seats_57 rfl rfl (Nat.le_of_ble_eq_true rfl) (fun r7 M8 => ?_)
    refine r_aload_n (pc := 60) ok 0 dX10_seats_60 rfl ?_
    refine r_getR (pc := 61) ok fr_0_5 (by decide) fl_X10_65 dX10_seats_61 ?_
    refine r_iload_n (pc := 64) ok 2 dX10_seats_64 rfl ?_
    refine r_callVN0 (pc := 65) ok [.int vq2] [] 8 (fun rZ MZ hZ => con_X5_passDays g l 1 vq2 (by decide) _ rZ MZ hZ) cvN_X10_145 (ok_15 (by decide)) (rmOk_L (by decide) (by decide)) dX10_seats_65 rfl rfl (Nat.le_of_ble_eq_true rfl) (fun r9 M10 => ?_)
    refine r_aload_n (pc := 68) ok 0 dX10_seats_68 rfl ?_
    refine r_getR (pc := 69) ok fr_0_5 (by decide) fl_X10_65 dX10_seats_69 ?_
    refine r_getRN (pc := 72) ok fr_15_2 (by decide) flN_X10_95 dX10_seats_72 ?_
    refine r_aload_n (pc := 75) ok 0 dX10_seats_75 rfl ?_
    refine r_getR (pc := 76) ok fr_0_5 (by decide) fl_X10_65 dX10_seats_76 ?_
    refine r_callVN0 (pc := 79) ok [] [.ref (gA g 16 1)] 2 (fun rZ MZ hZ => con_X5_thickestCell g l 1 (by decide) _ rZ MZ hZ) cvN_X10_188 (ok_15 (by decide)) (rmOk_L (by decide) (by decide)) dX10_seats_79 rfl rfl (Nat.le_of_ble_eq_true rfl) (fun r11 M12 => ?_)
    refine r_iald (pc := 82) ok ik_16 (by decide) dX10_seats_82 (fun _ => ?_)
    refine r_nmi (fun w13 => ?_)
    refine r_istore (pc := 83) ok [(7, .int w13), (0, .ref (gA g 0 0)), (1, .int vq1), (2, .int vq2), (3, .int vq3), (4, .int vq4), (5, .int vq5), (6, .int vq6)] dX10_seats_83 (by decide) rfl ?_
    refine r_iload (pc := 85) ok 5 dX10_seats_85 rfl ?_
    refine r_iconst (pc := 87) ok (-1) dX10_seats_87 (by decide) ?_
    refine r_icmp_eq (pc := 88) ok 98 dX10_seats_88 (by decide) (fun _ => ?_) (fun _ => ?_)
    · refine r_iload (pc := 98) ok 7 dX10_seats_98 rfl ?_
      refine r_istore (pc := 100) ok [(4, .int vq6), (7, .int w13), (0, .ref (gA g 0 0)), (1, .int vq1), (2, .int vq2), (3, .int vq3), (5, .int vq5), (6, .int vq6)] dX10_seats_100 (by decide) rfl ?_
      refine r_iload (pc := 102) ok 1 dX10_seats_102 rfl ?_
      refine r_istore (pc := 104) ok [(5, .int w13), (4, .int vq6), (7, .int w13), (0, .ref (gA g 0 0)), (1, .int vq1), (2, .int vq2), (3, .int vq3), (6, .int vq6)] dX10_seats_104 (by decide) rfl ?_
      refine r_iinc (pc := 106) ok 7 (vq6 + 1) [(6, .int (vq6 + 1)), (5, .int w13), (4, .int vq6), (7, .int w13), (0, .ref (gA g 0 0)), (1, .int vq1), (2, .int vq2), (3, .int vq3)] dX10_seats_106 rfl (congrArg (fun z => vq6 + z) (by decide : Int32.ofInt 1 = (1 : Int32))) (by decide) rfl ?_
      refine r_goto (pc := 109) ok 45 dX10_seats_109 (by decide) ?_
      refine r_lv [4, 5, 6, 7, 2, 1, 0] [(0, .ref (gA g 0 0)), (1, .int vq1), (2, .int vq2), (3, .int vq3), (4, .int vq6), (5, .int w13), (6, .int (vq6 + 1))] rfl ?_
      exact hk45 vq6 w13 (vq6 + 1) M12
    · refine r_iload (pc := 91) ok 0 dX10_seats_91 rfl ?_
      refine r_iload (pc := 93) ok 6 dX10_seats_93 rfl ?_
      refine r_icmp_ge (pc := 95) ok 106 dX10_seats_95 (by decide) (fun _ => ?_) (fun _ => ?_)
      · refine r_iinc (pc := 106) ok 7 (vq6 + 1) [(6, .int (vq6 + 1)), (7, .int w13), (0, .ref (gA g 0 0)), (1, .int vq1), (2, .int vq2), (3, .int vq3), (4, .int vq4), (5, .int vq5)] dX10_seats_106 rfl (congrArg (fun z => vq6 + z) (by decide : Int32.ofInt 1 = (1 : Int32))) (by decide) rfl ?_
        refine r_goto (pc := 109) ok 45 dX10_seats_109 (by decide) ?_
        refine r_lv [2, 3, 4, 5, 6, 7, 0] [(0, .ref (gA g 0 0)), (1, .int vq1), (2, .int vq2), (3, .int vq3), (4, .int vq4), (5, .int vq5), (6, .int (vq6 + 1))] rfl ?_
        exact hk45 vq4 vq5 (vq6 + 1) M12
      · refine r_iload (pc := 98) ok 7 dX10_seats_98 rfl ?_
        refine r_istore (pc := 100) ok [(4, .int vq6), (7, .int w13), (0, .ref (gA g 0 0)), (1, .int vq1), (2, .int vq2), (3, .int vq3), (5, .int vq5), (6, .int vq6)] dX10_seats_100 (by decide) rfl ?_
        refine r_iload (pc := 102) ok 1 dX10_seats_102 rfl ?_
        refine r_istore (pc := 104) ok [(5, .int w13), (4, .int vq6), (7, .int w13), (0, .ref (gA g 0 0)), (1, .int vq1), (2, .int vq2), (3, .int vq3), (6, .int vq6)] dX10_seats_104 (by decide) rfl ?_
        refine r_iinc (pc := 106) ok 7 (vq6 + 1) [(6, .int (vq6 + 1)), (5, .int w13), (4, .int vq6), (7, .int w13), (0, .ref (gA g 0 0)), (1, .int vq1), (2, .int vq2), (3, .int vq3)] dX10_seats_106 rfl (congrArg (fun z => vq6 + z) (by decide : Int32.ofInt 1 = (1 : Int32))) (by decide) rfl ?_
        refine r_goto (pc := 109) ok 45 dX10_seats_109 (by decide) ?_
        refine r_lv [4, 5, 6, 7, 2, 1, 0] [(0, .ref (gA g 0 0)), (1, .int vq1), (2, .int vq2), (3, .int vq3), (4, .int vq6), (5, .int w13), (6, .int (vq6 + 1))] rfl ?_
        exact hk45 vq6 w13 (vq6 + 1) M12
theorem sX10_seats_L45 {g : GP} {l : Launch} {x : CT} (ok : Ok g l x RX10 cX10_seats 8 (some FieldType.int) (rmL 9)) (vq1 : Int32) (vq2 : Int32) (vq3 : Int32)  : ∀ (n : Nat) (vq4 : Int32) (vq5 : Int32) (vq6 : Int32) (M : Mem), Sw g l x (FinQ g x eI) 8 0 0 45 [(0, .ref (gA g 0 0)), (1, .int vq1), (2, .int vq2), (3, .int vq3), (4, .int vq4), (5, .int vq5), (6, .int vq6)] [] M (fX10_seats_L45 vq1 vq2 vq3 n vq4 vq5 vq6 M) := by
  intro n
  induction n with
  | zero => intros; exact r_none
  | succ n ih => intro vq4 vq5 vq6 M; exact sX10_seats_B45 ok vq1 vq2 vq3  _ ih vq4 vq5 vq6 M
def fX10_seats (vq1 : Int32) (vq2 : Int32) (vq3 : Int32) (M : Mem) : Option (Int32 × Mem) :=
  ob (fX5_has 0 vq1 M) fun r1 M2 =>
  if r1 = 0 then
    (some (-5, M2))
  else
    (ob (fX10_within vq2 0 20 M2) fun r3 M4 =>
    if r3 = 0 then
      (some (-7, M4))
    else
      (ob (fX10_within vq3 0 1 M4) fun r5 M6 =>
      if r5 = 0 then
        (some (-7, M6))
      else
        (fX10_seats_L45 vq1 vq2 vq3 FU (-1) 0 0 M6)))
set_option maxRecDepth 20000 in
theorem wX10_seats {g : GP} {l : Launch} {x : CT} (ok : Ok g l x RX10 cX10_seats 8 (some FieldType.int) (rmL 9)) (vq1 : Int32) (vq2 : Int32) (vq3 : Int32)  (M : Mem) : Sw g l x (FinQ g x eI) 8 0 0 0 [(0, .ref (gA g 0 0)), (1, .int vq1), (2, .int vq2), (3, .int vq3)] [] M (fX10_seats vq1 vq2 vq3 M) := by
  unfold fX10_seats
  refine r_aload_n (pc := 0) ok 0 dX10_seats_0 rfl ?_
  refine r_getR (pc := 1) ok fr_0_4 (by decide) fl_X10_61 dX10_seats_1 ?_
  refine r_iload_n (pc := 4) ok 1 dX10_seats_4 rfl ?_
  refine r_callVN0 (pc := 5) ok [.int vq1] [] 3 (fun rZ MZ hZ => con_X5_has g l 0 vq1 (by decide) _ rZ MZ hZ) cvN_X10_117 (ok_15 (by decide)) (rmOk_L (by decide) (by decide)) dX10_seats_5 rfl rfl (Nat.le_of_ble_eq_true rfl) (fun r1 M2 => ?_)
  refine r_if_ne (pc := 8) ok 14 dX10_seats_8 (by decide) (fun _ => ?_) (fun _ => ?_)
  · refine r_bipush (pc := 11) ok (-5) dX10_seats_11 (by decide) ?_
    exact r_iret (pc := 13) ok (Nat.zero_le _) (Nat.zero_le _) rfl dX10_seats_13
  · refine r_iload_n (pc := 14) ok 2 dX10_seats_14 rfl ?_
    refine r_iconst (pc := 15) ok 0 dX10_seats_15 (by decide) ?_
    refine r_bipush (pc := 16) ok 20 dX10_seats_16 (by decide) ?_
    refine r_callS0 (pc := 18) ok [.int vq2, .int 0, .int 20] [] 2 (fun rZ MZ hZ => con_X10_within g l vq2 0 20 _ rZ MZ hZ) cs_X10_91 (rmOk_L (by decide) (by decide)) dX10_seats_18 rfl rfl (Nat.le_of_ble_eq_true rfl) (fun r3 M4 => ?_)
    refine r_if_eq (pc := 21) ok 33 dX10_seats_21 (by decide) (fun _ => ?_) (fun _ => ?_)
    · refine r_bipush (pc := 33) ok (-7) dX10_seats_33 (by decide) ?_
      exact r_iret (pc := 35) ok (Nat.zero_le _) (Nat.zero_le _) rfl dX10_seats_35
    · refine r_iload_n (pc := 24) ok 3 dX10_seats_24 rfl ?_
      refine r_iconst (pc := 25) ok 0 dX10_seats_25 (by decide) ?_
      refine r_iconst (pc := 26) ok 1 dX10_seats_26 (by decide) ?_
      refine r_callS0 (pc := 27) ok [.int vq3, .int 0, .int 1] [] 2 (fun rZ MZ hZ => con_X10_within g l vq3 0 1 _ rZ MZ hZ) cs_X10_91 (rmOk_L (by decide) (by decide)) dX10_seats_27 rfl rfl (Nat.le_of_ble_eq_true rfl) (fun r5 M6 => ?_)
      refine r_if_ne (pc := 30) ok 36 dX10_seats_30 (by decide) (fun _ => ?_) (fun _ => ?_)
      · refine r_bipush (pc := 33) ok (-7) dX10_seats_33 (by decide) ?_
        exact r_iret (pc := 35) ok (Nat.zero_le _) (Nat.zero_le _) rfl dX10_seats_35
      · refine r_iconst (pc := 36) ok (-1) dX10_seats_36 (by decide) ?_
        refine r_istore (pc := 37) ok [(4, .int (-1)), (0, .ref (gA g 0 0)), (1, .int vq1), (2, .int vq2), (3, .int vq3)] dX10_seats_37 (by decide) rfl ?_
        refine r_iconst (pc := 39) ok 0 dX10_seats_39 (by decide) ?_
        refine r_istore (pc := 40) ok [(5, .int 0), (4, .int (-1)), (0, .ref (gA g 0 0)), (1, .int vq1), (2, .int vq2), (3, .int vq3)] dX10_seats_40 (by decide) rfl ?_
        refine r_iconst (pc := 42) ok 0 dX10_seats_42 (by decide) ?_
        refine r_istore (pc := 43) ok [(6, .int 0), (5, .int 0), (4, .int (-1)), (0, .ref (gA g 0 0)), (1, .int vq1), (2, .int vq2), (3, .int vq3)] dX10_seats_43 (by decide) rfl ?_
        refine r_lv [3, 4, 5, 6, 2, 1, 0] [(0, .ref (gA g 0 0)), (1, .int vq1), (2, .int vq2), (3, .int vq3), (4, .int (-1)), (5, .int 0), (6, .int 0)] rfl ?_
        exact sX10_seats_L45 ok vq1 vq2 vq3 FU (-1) 0 0 M6
theorem con_X10_seats (g : GP) (l : Launch) (vq1 : Int32) (vq2 : Int32) (vq3 : Int32)  (M : Mem) (r : Int32) (M2 : Mem) (h : fX10_seats vq1 vq2 vq3 M = some (r, M2)) : Con g l yX10_seats cX10_seats 8 (some FieldType.int) (rmL 9) [.ref (gA g 0 0), .int vq1, .int vq2, .int vq3] M (eI r) M2 :=
  Con.of (own := RX10) (f := fX10_seats vq1 vq2 vq3 M) (by decide) (Nat.le_of_ble_eq_true rfl) rfl (fun x ok => wX10_seats ok vq1 vq2 vq3  M) r M2 h
def fX10_judge (vq1 : Int32) (vq2 : Int32) (M : Mem) : Option (Int32 × Mem) :=
  ob (fX10_refuseTale vq1 vq2 M) fun r1 M2 =>
  if r1 = 0 then
    (ob (fX5_takeFrom 1 0 M2) fun r3 M4 =>
    gd (inb vq1 4)
    (ob (fX10_firstOtherwise vq1.toNatClampNeg vq2 M4) fun r6 M7 =>
    some (r6, M7)))
  else
    (some (r1, M2))
set_option maxRecDepth 20000 in
theorem wX10_judge {g : GP} {l : Launch} {x : CT} (ok : Ok g l x RX10 cX10_judge 4 (some FieldType.int) (rmL 9)) (vq1 : Int32) (vq2 : Int32)  (M : Mem) : Sw g l x (FinQ g x eI) 4 0 0 0 [(0, .ref (gA g 0 0)), (1, .int vq1), (2, .int vq2)] [] M (fX10_judge vq1 vq2 M) := by
  unfold fX10_judge
  refine r_aload_n (pc := 0) ok 0 dX10_judge_0 rfl ?_
  refine r_iload_n (pc := 1) ok 1 dX10_judge_1 rfl ?_
  refine r_iload_n (pc := 2) ok 2 dX10_judge_2 rfl ?_
  refine r_callV0 (pc := 3) ok [.int vq1, .int vq2] [] 4 (fun rZ MZ hZ => con_X10_refuseTale g l vq1 vq2 _ rZ MZ hZ) cv_X10_205 ok_0 (rmOk_L (by decide) (by decide)) dX10_judge_3 rfl rfl (Nat.le_of_ble_eq_true rfl) (fun r1 M2 => ?_)
  refine r_istore_n (pc := 6) ok [(3, .int r1), (0, .ref (gA g 0 0)), (1, .int vq1), (2, .int vq2)] dX10_judge_6 rfl (by decide) rfl ?_
  refine r_iload_n (pc := 7) ok 0 dX10_judge_7 rfl ?_
  refine r_if_eq (pc := 8) ok 13 dX10_judge_8 (by decide) (fun _ => ?_) (fun _ => ?_)
  · refine r_aload_n (pc := 13) ok 1 dX10_judge_13 rfl ?_
    refine r_getR (pc := 14) ok fr_0_5 (by decide) fl_X10_65 dX10_judge_14 ?_
    refine r_aload_n (pc := 17) ok 1 dX10_judge_17 rfl ?_
    refine r_getR (pc := 18) ok fr_0_4 (by decide) fl_X10_61 dX10_judge_18 ?_
    refine r_callVN0 (pc := 21) ok [.ref (gA g 15 0)] [] 2 (fun rZ MZ hZ => con_X5_takeFrom g l 1 0 (by decide) (by decide) _ rZ MZ hZ) cvN_X10_141 (ok_15 (by decide)) (rmOk_L (by decide) (by decide)) dX10_judge_21 rfl rfl (Nat.le_of_ble_eq_true rfl) (fun r3 M4 => ?_)
    refine r_aload_n (pc := 24) ok 1 dX10_judge_24 rfl ?_
    refine r_aload_n (pc := 25) ok 1 dX10_judge_25 rfl ?_
    refine r_getR (pc := 26) ok fr_0_3 (by decide) fl_X10_51 dX10_judge_26 ?_
    refine r_iload_n (pc := 29) ok 2 dX10_judge_29 rfl ?_
    refine r_aald (pc := 30) ok rk_7 (by decide) rfl rfl dX10_judge_30 (fun hb5 => ?_)
    refine r_iload_n (pc := 31) ok 3 dX10_judge_31 rfl ?_
    refine r_callV0 (pc := 32) ok [.ref (gA g 13 vq1.toNatClampNeg), .int vq2] [] 8 (fun rZ MZ hZ => con_X10_firstOtherwise g l vq1.toNatClampNeg vq2 hb5 _ rZ MZ hZ) cv_X10_208 ok_0 (rmOk_L (by decide) (by decide)) dX10_judge_32 rfl rfl (Nat.le_of_ble_eq_true rfl) (fun r6 M7 => ?_)
    exact r_iret (pc := 35) ok (Nat.zero_le _) (Nat.zero_le _) rfl dX10_judge_35
  · refine r_iload_n (pc := 11) ok 0 dX10_judge_11 rfl ?_
    exact r_iret (pc := 12) ok (Nat.zero_le _) (Nat.zero_le _) rfl dX10_judge_12
theorem con_X10_judge (g : GP) (l : Launch) (vq1 : Int32) (vq2 : Int32)  (M : Mem) (r : Int32) (M2 : Mem) (h : fX10_judge vq1 vq2 M = some (r, M2)) : Con g l yX10_judge cX10_judge 4 (some FieldType.int) (rmL 9) [.ref (gA g 0 0), .int vq1, .int vq2] M (eI r) M2 :=
  Con.of (own := RX10) (f := fX10_judge vq1 vq2 M) (by decide) (Nat.le_of_ble_eq_true rfl) rfl (fun x ok => wX10_judge ok vq1 vq2  M) r M2 h
def fX10_holds_B39 (vq1 : Int32) (vq2 : Int32) (vq3 : Int32) (vq4 : Int32) (k39 : Int32 → Int32 → Int32 → Mem → Option (Int32 × Mem)) (vq6 : Int32) (vq7 : Int32) (vq8 : Int32) (M : Mem) : Option (Int32 × Mem) :=
  if 100 ≤ vq8 then
    (if vq4 = 0 then
      (some (vq6, M))
    else
      (some (vq7, M)))
  else
    (ob (fX10_suppose vq3 1 vq8 M) fun r5 M6 =>
    gd (inb vq1 4)
    (ob (fX10_firstOtherwise vq1.toNatClampNeg vq2 M6) fun r8 M9 =>
    if r8 = (-1) then
      (if vq7 = (-1) then
        (k39 (vq6 + 1) vq8 (vq8 + 1) M9)
      else
        (k39 (vq6 + 1) vq7 (vq8 + 1) M9))
    else
      (k39 vq6 vq7 (vq8 + 1) M9)))
def fX10_holds_L39 (vq1 : Int32) (vq2 : Int32) (vq3 : Int32) (vq4 : Int32) : Nat → Int32 → Int32 → Int32 → Mem → Option (Int32 × Mem)
  | 0, _, _, _, _ => none
  | n + 1, vq6, vq7, vq8, M => fX10_holds_B39 vq1 vq2 vq3 vq4 (fX10_holds_L39 vq1 vq2 vq3 vq4 n) vq6 vq7 vq8 M
set_option maxRecDepth 20000 in
theorem sX10_holds_B39 {g : GP} {l : Launch} {x : CT} (ok : Ok g l x RX10 cX10_holds 9 (some FieldType.int) (rmL 9)) (vq1 : Int32) (vq2 : Int32) (vq3 : Int32) (vq4 : Int32)  (k39 : Int32 → Int32 → Int32 → Mem → Option (Int32 × Mem)) (hk39 : ∀ (vq6 : Int32) (vq7 : Int32) (vq8 : Int32) (M : Mem), Sw g l x (FinQ g x eI) 9 0 0 39 [(0, .ref (gA g 0 0)), (1, .int vq1), (2, .int vq2), (3, .int vq3), (4, .int vq4), (6, .int vq6), (7, .int vq7), (8, .int vq8)] [] M (k39 vq6 vq7 vq8 M)) (vq6 : Int32) (vq7 : Int32) (vq8 : Int32) (M : Mem) : Sw g l x (FinQ g x eI) 9 0 0 39 [(0, .ref (gA g 0 0)), (1, .int vq1), (2, .int vq2), (3, .int vq3), (4, .int vq4), (6, .int vq6), (7, .int vq7), (8, .int vq8)] [] M (fX10_holds_B39 vq1 vq2 vq3 vq4 k39 vq6 vq7 vq8 M) := by
  unfold fX10_holds_B39
  refine r_iload (pc := 39) ok 7 dX10_holds_39 rfl ?_
  refine r_bipush (pc := 41) ok 100 dX10_holds_41 (by decide) ?_
  refine r_icmp_ge (pc := 43) ok 93 dX10_holds_43 (by decide) (fun _ => ?_) (fun _ => ?_)
  · refine r_iload (pc := 93) ok 4 dX10_holds_93 rfl ?_
    refine r_if_ne (pc := 95) ok 103 dX10_holds_95 (by decide) (fun _ => ?_) (fun _ => ?_)
    · refine r_iload (pc := 98) ok 5 dX10_holds_98 rfl ?_
      refine r_goto (pc := 100) ok 105 dX10_holds_100 (by decide) ?_
      exact r_iret (pc := 105) ok (Nat.zero_le _) (Nat.zero_le _) rfl dX10_holds_105
    · refine r_iload (pc := 103) ok 6 dX10_holds_103 rfl ?_
      exact r_iret (pc := 105) ok (Nat.zero_le _) (Nat.zero_le _) rfl dX10_holds_105
  · refine r_aload_n (pc := 46) ok 0 dX10_holds_46 rfl ?_
    refine r_iload_n (pc := 47) ok 3 dX10_holds_47 rfl ?_
    refine r_iconst (pc := 48) ok 1 dX10_holds_48 (by decide) ?_
    refine r_iload (pc := 49) ok 7 dX10_holds_49 rfl ?_
    refine r_callV0 (pc := 51) ok [.int vq3, .int 1, .int vq8] [] 3 (fun rZ MZ hZ => con_X10_suppose g l vq3 1 vq8 _ rZ MZ hZ) cv_X10_201 ok_0 (rmOk_L (by decide) (by decide)) dX10_holds_51 rfl rfl (Nat.le_of_ble_eq_true rfl) (fun r5 M6 => ?_)
    refine r_aload_n (pc := 54) ok 0 dX10_holds_54 rfl ?_
    refine r_aload_n (pc := 55) ok 0 dX10_holds_55 rfl ?_
    refine r_getR (pc := 56) ok fr_0_3 (by decide) fl_X10_51 dX10_holds_56 ?_
    refine r_iload_n (pc := 59) ok 1 dX10_holds_59 rfl ?_
    refine r_aald (pc := 60) ok rk_7 (by decide) rfl rfl dX10_holds_60 (fun hb7 => ?_)
    refine r_iload_n (pc := 61) ok 2 dX10_holds_61 rfl ?_
    refine r_callV0 (pc := 62) ok [.ref (gA g 13 vq1.toNatClampNeg), .int vq2] [] 8 (fun rZ MZ hZ => con_X10_firstOtherwise g l vq1.toNatClampNeg vq2 hb7 _ rZ MZ hZ) cv_X10_208 ok_0 (rmOk_L (by decide) (by decide)) dX10_holds_62 rfl rfl (Nat.le_of_ble_eq_true rfl) (fun r8 M9 => ?_)
    refine r_iconst (pc := 65) ok (-1) dX10_holds_65 (by decide) ?_
    refine r_icmp_ne (pc := 66) ok 87 dX10_holds_66 (by decide) (fun _ => ?_) (fun _ => ?_)
    · refine r_iinc (pc := 69) ok 5 (vq6 + 1) [(6, .int (vq6 + 1)), (0, .ref (gA g 0 0)), (1, .int vq1), (2, .int vq2), (3, .int vq3), (4, .int vq4), (7, .int vq7), (8, .int vq8)] dX10_holds_69 rfl (congrArg (fun z => vq6 + z) (by decide : Int32.ofInt 1 = (1 : Int32))) (by decide) rfl ?_
      refine r_iload (pc := 72) ok 6 dX10_holds_72 rfl ?_
      refine r_iconst (pc := 74) ok (-1) dX10_holds_74 (by decide) ?_
      refine r_icmp_ne (pc := 75) ok 83 dX10_holds_75 (by decide) (fun _ => ?_) (fun _ => ?_)
      · refine r_iload (pc := 78) ok 7 dX10_holds_78 rfl ?_
        refine r_goto (pc := 80) ok 85 dX10_holds_80 (by decide) ?_
        refine r_istore (pc := 85) ok [(7, .int vq8), (6, .int (vq6 + 1)), (0, .ref (gA g 0 0)), (1, .int vq1), (2, .int vq2), (3, .int vq3), (4, .int vq4), (8, .int vq8)] dX10_holds_85 (by decide) rfl ?_
        refine r_iinc (pc := 87) ok 7 (vq8 + 1) [(8, .int (vq8 + 1)), (7, .int vq8), (6, .int (vq6 + 1)), (0, .ref (gA g 0 0)), (1, .int vq1), (2, .int vq2), (3, .int vq3), (4, .int vq4)] dX10_holds_87 rfl (congrArg (fun z => vq8 + z) (by decide : Int32.ofInt 1 = (1 : Int32))) (by decide) rfl ?_
        refine r_goto (pc := 90) ok 39 dX10_holds_90 (by decide) ?_
        refine r_lv [3, 4, 5, 6, 7, 2, 1, 0] [(0, .ref (gA g 0 0)), (1, .int vq1), (2, .int vq2), (3, .int vq3), (4, .int vq4), (6, .int (vq6 + 1)), (7, .int vq8), (8, .int (vq8 + 1))] rfl ?_
        exact hk39 (vq6 + 1) vq8 (vq8 + 1) M9
      · refine r_iload (pc := 83) ok 6 dX10_holds_83 rfl ?_
        refine r_istore (pc := 85) ok [(7, .int vq7), (6, .int (vq6 + 1)), (0, .ref (gA g 0 0)), (1, .int vq1), (2, .int vq2), (3, .int vq3), (4, .int vq4), (8, .int vq8)] dX10_holds_85 (by decide) rfl ?_
        refine r_iinc (pc := 87) ok 7 (vq8 + 1) [(8, .int (vq8 + 1)), (7, .int vq7), (6, .int (vq6 + 1)), (0, .ref (gA g 0 0)), (1, .int vq1), (2, .int vq2), (3, .int vq3), (4, .int vq4)] dX10_holds_87 rfl (congrArg (fun z => vq8 + z) (by decide : Int32.ofInt 1 = (1 : Int32))) (by decide) rfl ?_
        refine r_goto (pc := 90) ok 39 dX10_holds_90 (by decide) ?_
        refine r_lv [3, 4, 5, 6, 7, 2, 1, 0] [(0, .ref (gA g 0 0)), (1, .int vq1), (2, .int vq2), (3, .int vq3), (4, .int vq4), (6, .int (vq6 + 1)), (7, .int vq7), (8, .int (vq8 + 1))] rfl ?_
        exact hk39 (vq6 + 1) vq7 (vq8 + 1) M9
    · refine r_iinc (pc := 87) ok 7 (vq8 + 1) [(8, .int (vq8 + 1)), (0, .ref (gA g 0 0)), (1, .int vq1), (2, .int vq2), (3, .int vq3), (4, .int vq4), (6, .int vq6), (7, .int vq7)] dX10_holds_87 rfl (congrArg (fun z => vq8 + z) (by decide : Int32.ofInt 1 = (1 : Int32))) (by decide) rfl ?_
      refine r_goto (pc := 90) ok 39 dX10_holds_90 (by decide) ?_
      refine r_lv [1, 2, 3, 4, 5, 6, 7, 0] [(0, .ref (gA g 0 0)), (1, .int vq1), (2, .int vq2), (3, .int vq3), (4, .int vq4), (6, .int vq6), (7, .int vq7), (8, .int (vq8 + 1))] rfl ?_
      exact hk39 vq6 vq7 (vq8 + 1) M9
theorem sX10_holds_L39 {g : GP} {l : Launch} {x : CT} (ok : Ok g l x RX10 cX10_holds 9 (some FieldType.int) (rmL 9)) (vq1 : Int32) (vq2 : Int32) (vq3 : Int32) (vq4 : Int32)  : ∀ (n : Nat) (vq6 : Int32) (vq7 : Int32) (vq8 : Int32) (M : Mem), Sw g l x (FinQ g x eI) 9 0 0 39 [(0, .ref (gA g 0 0)), (1, .int vq1), (2, .int vq2), (3, .int vq3), (4, .int vq4), (6, .int vq6), (7, .int vq7), (8, .int vq8)] [] M (fX10_holds_L39 vq1 vq2 vq3 vq4 n vq6 vq7 vq8 M) := by
  intro n
  induction n with
  | zero => intros; exact r_none
  | succ n ih => intro vq6 vq7 vq8 M; exact sX10_holds_B39 ok vq1 vq2 vq3 vq4  _ ih vq6 vq7 vq8 M
def fX10_holds (vq1 : Int32) (vq2 : Int32) (vq3 : Int32) (vq4 : Int32) (M : Mem) : Option (Int32 × Mem) :=
  ob (fX10_refuseTaleOf vq1 vq2 vq3 M) fun r1 M2 =>
  if r1 = 0 then
    (ob (fX10_within vq4 0 1 M2) fun r3 M4 =>
    if r3 = 0 then
      (some (-7, M4))
    else
      (fX10_holds_L39 vq1 vq2 vq3 vq4 FU 0 (-1) 0 M4))
  else
    (some (r1, M2))
set_option maxRecDepth 20000 in
theorem wX10_holds {g : GP} {l : Launch} {x : CT} (ok : Ok g l x RX10 cX10_holds 9 (some FieldType.int) (rmL 9)) (vq1 : Int32) (vq2 : Int32) (vq3 : Int32) (vq4 : Int32)  (M : Mem) : Sw g l x (FinQ g x eI) 9 0 0 0 [(0, .ref (gA g 0 0)), (1, .int vq1), (2, .int vq2), (3, .int vq3), (4, .int vq4)] [] M (fX10_holds vq1 vq2 vq3 vq4 M) := by
  unfold fX10_holds
  refine r_aload_n (pc := 0) ok 0 dX10_holds_0 rfl ?_
  refine r_iload_n (pc := 1) ok 1 dX10_holds_1 rfl ?_
  refine r_iload_n (pc := 2) ok 2 dX10_holds_2 rfl ?_
  refine r_iload_n (pc := 3) ok 3 dX10_holds_3 rfl ?_
  refine r_callV0 (pc := 4) ok [.int vq1, .int vq2, .int vq3] [] 5 (fun rZ MZ hZ => con_X10_refuseTaleOf g l vq1 vq2 vq3 _ rZ MZ hZ) cv_X10_212 ok_0 (rmOk_L (by decide) (by decide)) dX10_holds_4 rfl rfl (Nat.le_of_ble_eq_true rfl) (fun r1 M2 => ?_)
  refine r_istore (pc := 7) ok [(5, .int r1), (0, .ref (gA g 0 0)), (1, .int vq1), (2, .int vq2), (3, .int vq3), (4, .int vq4)] dX10_holds_7 (by decide) rfl ?_
  refine r_iload (pc := 9) ok 0 dX10_holds_9 rfl ?_
  refine r_if_eq (pc := 11) ok 17 dX10_holds_11 (by decide) (fun _ => ?_) (fun _ => ?_)
  · refine r_iload (pc := 17) ok 5 dX10_holds_17 rfl ?_
    refine r_iconst (pc := 19) ok 0 dX10_holds_19 (by decide) ?_
    refine r_iconst (pc := 20) ok 1 dX10_holds_20 (by decide) ?_
    refine r_callS0 (pc := 21) ok [.int vq4, .int 0, .int 1] [] 2 (fun rZ MZ hZ => con_X10_within g l vq4 0 1 _ rZ MZ hZ) cs_X10_91 (rmOk_L (by decide) (by decide)) dX10_holds_21 rfl rfl (Nat.le_of_ble_eq_true rfl) (fun r3 M4 => ?_)
    refine r_if_ne (pc := 24) ok 30 dX10_holds_24 (by decide) (fun _ => ?_) (fun _ => ?_)
    · refine r_bipush (pc := 27) ok (-7) dX10_holds_27 (by decide) ?_
      exact r_iret (pc := 29) ok (Nat.zero_le _) (Nat.zero_le _) rfl dX10_holds_29
    · refine r_iconst (pc := 30) ok 0 dX10_holds_30 (by decide) ?_
      refine r_istore (pc := 31) ok [(6, .int 0), (5, .int r1), (0, .ref (gA g 0 0)), (1, .int vq1), (2, .int vq2), (3, .int vq3), (4, .int vq4)] dX10_holds_31 (by decide) rfl ?_
      refine r_iconst (pc := 33) ok (-1) dX10_holds_33 (by decide) ?_
      refine r_istore (pc := 34) ok [(7, .int (-1)), (6, .int 0), (5, .int r1), (0, .ref (gA g 0 0)), (1, .int vq1), (2, .int vq2), (3, .int vq3), (4, .int vq4)] dX10_holds_34 (by decide) rfl ?_
      refine r_iconst (pc := 36) ok 0 dX10_holds_36 (by decide) ?_
      refine r_istore (pc := 37) ok [(8, .int 0), (7, .int (-1)), (6, .int 0), (5, .int r1), (0, .ref (gA g 0 0)), (1, .int vq1), (2, .int vq2), (3, .int vq3), (4, .int vq4)] dX10_holds_37 (by decide) rfl ?_
      refine r_lv [4, 5, 6, 7, 8, 2, 1, 0] [(0, .ref (gA g 0 0)), (1, .int vq1), (2, .int vq2), (3, .int vq3), (4, .int vq4), (6, .int 0), (7, .int (-1)), (8, .int 0)] rfl ?_
      exact sX10_holds_L39 ok vq1 vq2 vq3 vq4 FU 0 (-1) 0 M4
  · refine r_iload (pc := 14) ok 0 dX10_holds_14 rfl ?_
    exact r_iret (pc := 16) ok (Nat.zero_le _) (Nat.zero_le _) rfl dX10_holds_16
theorem con_X10_holds (g : GP) (l : Launch) (vq1 : Int32) (vq2 : Int32) (vq3 : Int32) (vq4 : Int32)  (M : Mem) (r : Int32) (M2 : Mem) (h : fX10_holds vq1 vq2 vq3 vq4 M = some (r, M2)) : Con g l yX10_holds cX10_holds 9 (some FieldType.int) (rmL 9) [.ref (gA g 0 0), .int vq1, .int vq2, .int vq3, .int vq4] M (eI r) M2 :=
  Con.of (own := RX10) (f := fX10_holds vq1 vq2 vq3 vq4 M) (by decide) (Nat.le_of_ble_eq_true rfl) rfl (fun x ok => wX10_holds ok vq1 vq2 vq3 vq4  M) r M2 h
def fX10_laws_B19 (vq1 : Int32) (vq2 : Int32) (k19 : Int32 → Int32 → Mem → Option (Int32 × Mem)) (vq4 : Int32) (vq5 : Int32) (M : Mem) : Option (Int32 × Mem) :=
  if (M 0 0 8) ≤ vq5 then
    (some (vq4, M))
  else
    (ob (fX5_takeFrom 1 0 M) fun r3 M4 =>
    lt (mst M4 15 1 9 vq5) fun M5 =>
    gd (inb vq1 4)
    (ob (fX10_firstOtherwise vq1.toNatClampNeg vq2 M5) fun r7 M8 =>
    if r7 = (-1) then
      (lt (vq4 ||| (1 <<< (vq5 &&& 31))) fun w9 =>
      k19 w9 (vq5 + 1) M8)
    else
      (k19 vq4 (vq5 + 1) M8)))
def fX10_laws_L19 (vq1 : Int32) (vq2 : Int32) : Nat → Int32 → Int32 → Mem → Option (Int32 × Mem)
  | 0, _, _, _ => none
  | n + 1, vq4, vq5, M => fX10_laws_B19 vq1 vq2 (fX10_laws_L19 vq1 vq2 n) vq4 vq5 M
set_option maxRecDepth 20000 in
theorem sX10_laws_B19 {g : GP} {l : Launch} {x : CT} (ok : Ok g l x RX10 cX10_laws 6 (some FieldType.int) (rmL 9)) (vq1 : Int32) (vq2 : Int32)  (k19 : Int32 → Int32 → Mem → Option (Int32 × Mem)) (hk19 : ∀ (vq4 : Int32) (vq5 : Int32) (M : Mem), Sw g l x (FinQ g x eI) 6 0 0 19 [(0, .ref (gA g 0 0)), (1, .int vq1), (2, .int vq2), (4, .int vq4), (5, .int vq5)] [] M (k19 vq4 vq5 M)) (vq4 : Int32) (vq5 : Int32) (M : Mem) : Sw g l x (FinQ g x eI) 6 0 0 19 [(0, .ref (gA g 0 0)), (1, .int vq1), (2, .int vq2), (4, .int vq4), (5, .int vq5)] [] M (fX10_laws_B19 vq1 vq2 k19 vq4 vq5 M) := by
  unfold fX10_laws_B19
  refine r_iload (pc := 19) ok 4 dX10_laws_19 rfl ?_
  refine r_aload_n (pc := 21) ok 0 dX10_laws_21 rfl ?_
  refine r_getI (pc := 22) ok fi_0_8 (by decide) fl_X10_41 dX10_laws_22 ?_
  refine r_icmp_ge (pc := 25) ok 78 dX10_laws_25 (by decide) (fun _ => ?_) (fun _ => ?_)
  · refine r_iload (pc := 78) ok 3 dX10_laws_78 rfl ?_
    exact r_iret (pc := 80) ok (Nat.zero_le _) (Nat.zero_le _) rfl dX10_laws_80
  · refine r_aload_n (pc := 28) ok 0 dX10_laws_28 rfl ?_
    refine r_getR (pc := 29) ok fr_0_5 (by decide) fl_X10_65 dX10_laws_29 ?_
    refine r_aload_n (pc := 32) ok 0 dX10_laws_32 rfl ?_
    refine r_getR (pc := 33) ok fr_0_4 (by decide) fl_X10_61 dX10_laws_33 ?_
    refine r_callVN0 (pc := 36) ok [.ref (gA g 15 0)] [] 2 (fun rZ MZ hZ => con_X5_takeFrom g l 1 0 (by decide) (by decide) _ rZ MZ hZ) cvN_X10_141 (ok_15 (by decide)) (rmOk_L (by decide) (by decide)) dX10_laws_36 rfl rfl (Nat.le_of_ble_eq_true rfl) (fun r3 M4 => ?_)
    refine r_aload_n (pc := 39) ok 0 dX10_laws_39 rfl ?_
    refine r_getR (pc := 40) ok fr_0_5 (by decide) fl_X10_65 dX10_laws_40 ?_
    refine r_iload (pc := 43) ok 4 dX10_laws_43 rfl ?_
    refine r_putIN (pc := 45) ok fi_15_9 (by decide) flN_X10_81 fp_15_9 ⟨rfl, rfl⟩ dX10_laws_45 ?_
    refine r_nmM (fun M5 => ?_)
    refine r_aload_n (pc := 48) ok 0 dX10_laws_48 rfl ?_
    refine r_aload_n (pc := 49) ok 0 dX10_laws_49 rfl ?_
    refine r_getR (pc := 50) ok fr_0_3 (by decide) fl_X10_51 dX10_laws_50 ?_
    refine r_iload_n (pc := 53) ok 1 dX10_laws_53 rfl ?_
    refine r_aald (pc := 54) ok rk_7 (by decide) rfl rfl dX10_laws_54 (fun hb6 => ?_)
    refine r_iload_n (pc := 55) ok 2 dX10_laws_55 rfl ?_
    refine r_callV0 (pc := 56) ok [.ref (gA g 13 vq1.toNatClampNeg), .int vq2] [] 8 (fun rZ MZ hZ => con_X10_firstOtherwise g l vq1.toNatClampNeg vq2 hb6 _ rZ MZ hZ) cv_X10_208 ok_0 (rmOk_L (by decide) (by decide)) dX10_laws_56 rfl rfl (Nat.le_of_ble_eq_true rfl) (fun r7 M8 => ?_)
    refine r_iconst (pc := 59) ok (-1) dX10_laws_59 (by decide) ?_
    refine r_icmp_ne (pc := 60) ok 72 dX10_laws_60 (by decide) (fun _ => ?_) (fun _ => ?_)
    · refine r_iload (pc := 63) ok 3 dX10_laws_63 rfl ?_
      refine r_iconst (pc := 65) ok 1 dX10_laws_65 (by decide) ?_
      refine r_iload (pc := 66) ok 4 dX10_laws_66 rfl ?_
      refine r_ishl (pc := 68) ok dX10_laws_68 ?_
      refine r_ior (pc := 69) ok dX10_laws_69 ?_
      refine r_nmi (fun w9 => ?_)
      refine r_istore (pc := 70) ok [(4, .int w9), (0, .ref (gA g 0 0)), (1, .int vq1), (2, .int vq2), (5, .int vq5)] dX10_laws_70 (by decide) rfl ?_
      refine r_iinc (pc := 72) ok 4 (vq5 + 1) [(5, .int (vq5 + 1)), (4, .int w9), (0, .ref (gA g 0 0)), (1, .int vq1), (2, .int vq2)] dX10_laws_72 rfl (congrArg (fun z => vq5 + z) (by decide : Int32.ofInt 1 = (1 : Int32))) (by decide) rfl ?_
      refine r_goto (pc := 75) ok 19 dX10_laws_75 (by decide) ?_
      refine r_lv [2, 3, 4, 1, 0] [(0, .ref (gA g 0 0)), (1, .int vq1), (2, .int vq2), (4, .int w9), (5, .int (vq5 + 1))] rfl ?_
      exact hk19 w9 (vq5 + 1) M8
    · refine r_iinc (pc := 72) ok 4 (vq5 + 1) [(5, .int (vq5 + 1)), (0, .ref (gA g 0 0)), (1, .int vq1), (2, .int vq2), (4, .int vq4)] dX10_laws_72 rfl (congrArg (fun z => vq5 + z) (by decide : Int32.ofInt 1 = (1 : Int32))) (by decide) rfl ?_
      refine r_goto (pc := 75) ok 19 dX10_laws_75 (by decide) ?_
      refine r_lv [1, 2, 3, 4, 0] [(0, .ref (gA g 0 0)), (1, .int vq1), (2, .int vq2), (4, .int vq4), (5, .int (vq5 + 1))] rfl ?_
      exact hk19 vq4 (vq5 + 1) M8
theorem sX10_laws_L19 {g : GP} {l : Launch} {x : CT} (ok : Ok g l x RX10 cX10_laws 6 (some FieldType.int) (rmL 9)) (vq1 : Int32) (vq2 : Int32)  : ∀ (n : Nat) (vq4 : Int32) (vq5 : Int32) (M : Mem), Sw g l x (FinQ g x eI) 6 0 0 19 [(0, .ref (gA g 0 0)), (1, .int vq1), (2, .int vq2), (4, .int vq4), (5, .int vq5)] [] M (fX10_laws_L19 vq1 vq2 n vq4 vq5 M) := by
  intro n
  induction n with
  | zero => intros; exact r_none
  | succ n ih => intro vq4 vq5 M; exact sX10_laws_B19 ok vq1 vq2  _ ih vq4 vq5 M
def fX10_laws (vq1 : Int32) (vq2 : Int32) (M : Mem) : Option (Int32 × Mem) :=
  ob (fX10_refuseTale vq1 vq2 M) fun r1 M2 =>
  if r1 = 0 then
    (fX10_laws_L19 vq1 vq2 FU 0 0 M2)
  else
    (some (r1, M2))
set_option maxRecDepth 20000 in
theorem wX10_laws {g : GP} {l : Launch} {x : CT} (ok : Ok g l x RX10 cX10_laws 6 (some FieldType.int) (rmL 9)) (vq1 : Int32) (vq2 : Int32)  (M : Mem) : Sw g l x (FinQ g x eI) 6 0 0 0 [(0, .ref (gA g 0 0)), (1, .int vq1), (2, .int vq2)] [] M (fX10_laws vq1 vq2 M) := by
  unfold fX10_laws
  refine r_aload_n (pc := 0) ok 0 dX10_laws_0 rfl ?_
  refine r_iload_n (pc := 1) ok 1 dX10_laws_1 rfl ?_
  refine r_iload_n (pc := 2) ok 2 dX10_laws_2 rfl ?_
  refine r_callV0 (pc := 3) ok [.int vq1, .int vq2] [] 4 (fun rZ MZ hZ => con_X10_refuseTale g l vq1 vq2 _ rZ MZ hZ) cv_X10_205 ok_0 (rmOk_L (by decide) (by decide)) dX10_laws_3 rfl rfl (Nat.le_of_ble_eq_true rfl) (fun r1 M2 => ?_)
  refine r_istore_n (pc := 6) ok [(3, .int r1), (0, .ref (gA g 0 0)), (1, .int vq1), (2, .int vq2)] dX10_laws_6 rfl (by decide) rfl ?_
  refine r_iload_n (pc := 7) ok 0 dX10_laws_7 rfl ?_
  refine r_if_eq (pc := 8) ok 13 dX10_laws_8 (by decide) (fun _ => ?_) (fun _ => ?_)
  · refine r_iconst (pc := 13) ok 0 dX10_laws_13 (by decide) ?_
    refine r_istore (pc := 14) ok [(4, .int 0), (3, .int r1), (0, .ref (gA g 0 0)), (1, .int vq1), (2, .int vq2)] dX10_laws_14 (by decide) rfl ?_
    refine r_iconst (pc := 16) ok 0 dX10_laws_16 (by decide) ?_
    refine r_istore (pc := 17) ok [(5, .int 0), (4, .int 0), (3, .int r1), (0, .ref (gA g 0 0)), (1, .int vq1), (2, .int vq2)] dX10_laws_17 (by decide) rfl ?_
    refine r_lv [3, 4, 5, 1, 0] [(0, .ref (gA g 0 0)), (1, .int vq1), (2, .int vq2), (4, .int 0), (5, .int 0)] rfl ?_
    exact sX10_laws_L19 ok vq1 vq2 FU 0 0 M2
  · refine r_iload_n (pc := 11) ok 0 dX10_laws_11 rfl ?_
    exact r_iret (pc := 12) ok (Nat.zero_le _) (Nat.zero_le _) rfl dX10_laws_12
theorem con_X10_laws (g : GP) (l : Launch) (vq1 : Int32) (vq2 : Int32)  (M : Mem) (r : Int32) (M2 : Mem) (h : fX10_laws vq1 vq2 M = some (r, M2)) : Con g l yX10_laws cX10_laws 6 (some FieldType.int) (rmL 9) [.ref (gA g 0 0), .int vq1, .int vq2] M (eI r) M2 :=
  Con.of (own := RX10) (f := fX10_laws vq1 vq2 M) (by decide) (Nat.le_of_ble_eq_true rfl) rfl (fun x ok => wX10_laws ok vq1 vq2  M) r M2 h
def fX10_fitting_B6 (vq1 : Int32) (vq2 : Int32) (vq3 : Int32) (vq4 : Int32) (vq5 : Int32) (k6 : Int64 → Int32 → Mem → Option (Int64 × Mem)) (vq6 : Int64) (vq8 : Int32) (M : Mem) : Option (Int64 × Mem) :=
  if vq5 ≤ vq8 then
    (some (vq6, M))
  else
    (ob (fX10_suppose vq3 vq4 vq8 M) fun r1 M2 =>
    gd (inb vq1 4)
    (ob (fX10_firstOtherwise vq1.toNatClampNeg vq2 M2) fun r4 M5 =>
    if r4 = (-1) then
      (lt (vq6 ||| (lshl 1 vq8)) fun w6 =>
      k6 w6 (vq8 + 1) M5)
    else
      (k6 vq6 (vq8 + 1) M5)))
def fX10_fitting_L6 (vq1 : Int32) (vq2 : Int32) (vq3 : Int32) (vq4 : Int32) (vq5 : Int32) : Nat → Int64 → Int32 → Mem → Option (Int64 × Mem)
  | 0, _, _, _ => none
  | n + 1, vq6, vq8, M => fX10_fitting_B6 vq1 vq2 vq3 vq4 vq5 (fX10_fitting_L6 vq1 vq2 vq3 vq4 vq5 n) vq6 vq8 M
set_option maxRecDepth 20000 in
theorem sX10_fitting_B6 {g : GP} {l : Launch} {x : CT} (ok : Ok g l x RX10 cX10_fitting 9 (some FieldType.long) (rmL 9)) (vq1 : Int32) (vq2 : Int32) (vq3 : Int32) (vq4 : Int32) (vq5 : Int32)  (k6 : Int64 → Int32 → Mem → Option (Int64 × Mem)) (hk6 : ∀ (vq6 : Int64) (vq8 : Int32) (M : Mem), Sw g l x (FinQ g x eJ) 9 0 0 6 [(0, .ref (gA g 0 0)), (1, .int vq1), (2, .int vq2), (3, .int vq3), (4, .int vq4), (5, .int vq5), (6, .long vq6), (8, .int vq8)] [] M (k6 vq6 vq8 M)) (vq6 : Int64) (vq8 : Int32) (M : Mem) : Sw g l x (FinQ g x eJ) 9 0 0 6 [(0, .ref (gA g 0 0)), (1, .int vq1), (2, .int vq2), (3, .int vq3), (4, .int vq4), (5, .int vq5), (6, .long vq6), (8, .int vq8)] [] M (fX10_fitting_B6 vq1 vq2 vq3 vq4 vq5 k6 vq6 vq8 M) := by
  unfold fX10_fitting_B6
  refine r_iload (pc := 6) ok 7 dX10_fitting_6 rfl ?_
  refine r_iload (pc := 8) ok 5 dX10_fitting_8 rfl ?_
  refine r_icmp_ge (pc := 10) ok 52 dX10_fitting_10 (by decide) (fun _ => ?_) (fun _ => ?_)
  · refine r_lload (pc := 52) ok 6 dX10_fitting_52 rfl ?_
    exact r_lret (pc := 54) ok (Nat.zero_le _) (Nat.zero_le _) rfl dX10_fitting_54
  · refine r_aload_n (pc := 13) ok 0 dX10_fitting_13 rfl ?_
    refine r_iload_n (pc := 14) ok 3 dX10_fitting_14 rfl ?_
    refine r_iload (pc := 15) ok 4 dX10_fitting_15 rfl ?_
    refine r_iload (pc := 17) ok 7 dX10_fitting_17 rfl ?_
    refine r_callV0 (pc := 19) ok [.int vq3, .int vq4, .int vq8] [] 3 (fun rZ MZ hZ => con_X10_suppose g l vq3 vq4 vq8 _ rZ MZ hZ) cv_X10_201 ok_0 (rmOk_L (by decide) (by decide)) dX10_fitting_19 rfl rfl (Nat.le_of_ble_eq_true rfl) (fun r1 M2 => ?_)
    refine r_aload_n (pc := 22) ok 0 dX10_fitting_22 rfl ?_
    refine r_aload_n (pc := 23) ok 0 dX10_fitting_23 rfl ?_
    refine r_getR (pc := 24) ok fr_0_3 (by decide) fl_X10_51 dX10_fitting_24 ?_
    refine r_iload_n (pc := 27) ok 1 dX10_fitting_27 rfl ?_
    refine r_aald (pc := 28) ok rk_7 (by decide) rfl rfl dX10_fitting_28 (fun hb3 => ?_)
    refine r_iload_n (pc := 29) ok 2 dX10_fitting_29 rfl ?_
    refine r_callV0 (pc := 30) ok [.ref (gA g 13 vq1.toNatClampNeg), .int vq2] [] 8 (fun rZ MZ hZ => con_X10_firstOtherwise g l vq1.toNatClampNeg vq2 hb3 _ rZ MZ hZ) cv_X10_208 ok_0 (rmOk_L (by decide) (by decide)) dX10_fitting_30 rfl rfl (Nat.le_of_ble_eq_true rfl) (fun r4 M5 => ?_)
    refine r_iconst (pc := 33) ok (-1) dX10_fitting_33 (by decide) ?_
    refine r_icmp_ne (pc := 34) ok 46 dX10_fitting_34 (by decide) (fun _ => ?_) (fun _ => ?_)
    · refine r_lload (pc := 37) ok 6 dX10_fitting_37 rfl ?_
      refine r_lconst (pc := 39) ok 1 dX10_fitting_39 (by decide) ?_
      refine r_iload (pc := 40) ok 7 dX10_fitting_40 rfl ?_
      refine r_lshl (pc := 42) ok dX10_fitting_42 ?_
      refine r_lor (pc := 43) ok dX10_fitting_43 ?_
      refine r_nml (fun w6 => ?_)
      refine r_lstore (pc := 44) ok [(6, .long w6), (0, .ref (gA g 0 0)), (1, .int vq1), (2, .int vq2), (3, .int vq3), (4, .int vq4), (5, .int vq5), (8, .int vq8)] dX10_fitting_44 (by decide) rfl ?_
      refine r_iinc (pc := 46) ok 7 (vq8 + 1) [(8, .int (vq8 + 1)), (6, .long w6), (0, .ref (gA g 0 0)), (1, .int vq1), (2, .int vq2), (3, .int vq3), (4, .int vq4), (5, .int vq5)] dX10_fitting_46 rfl (congrArg (fun z => vq8 + z) (by decide : Int32.ofInt 1 = (1 : Int32))) (by decide) rfl ?_
      refine r_goto (pc := 49) ok 6 dX10_fitting_49 (by decide) ?_
      refine r_lv [2, 3, 4, 5, 6, 7, 1, 0] [(0, .ref (gA g 0 0)), (1, .int vq1), (2, .int vq2), (3, .int vq3), (4, .int vq4), (5, .int vq5), (6, .long w6), (8, .int (vq8 + 1))] rfl ?_
      exact hk6 w6 (vq8 + 1) M5
    · refine r_iinc (pc := 46) ok 7 (vq8 + 1) [(8, .int (vq8 + 1)), (0, .ref (gA g 0 0)), (1, .int vq1), (2, .int vq2), (3, .int vq3), (4, .int vq4), (5, .int vq5), (6, .long vq6)] dX10_fitting_46 rfl (congrArg (fun z => vq8 + z) (by decide : Int32.ofInt 1 = (1 : Int32))) (by decide) rfl ?_
      refine r_goto (pc := 49) ok 6 dX10_fitting_49 (by decide) ?_
      refine r_lv [1, 2, 3, 4, 5, 6, 7, 0] [(0, .ref (gA g 0 0)), (1, .int vq1), (2, .int vq2), (3, .int vq3), (4, .int vq4), (5, .int vq5), (6, .long vq6), (8, .int (vq8 + 1))] rfl ?_
      exact hk6 vq6 (vq8 + 1) M5
theorem sX10_fitting_L6 {g : GP} {l : Launch} {x : CT} (ok : Ok g l x RX10 cX10_fitting 9 (some FieldType.long) (rmL 9)) (vq1 : Int32) (vq2 : Int32) (vq3 : Int32) (vq4 : Int32) (vq5 : Int32)  : ∀ (n : Nat) (vq6 : Int64) (vq8 : Int32) (M : Mem), Sw g l x (FinQ g x eJ) 9 0 0 6 [(0, .ref (gA g 0 0)), (1, .int vq1), (2, .int vq2), (3, .int vq3), (4, .int vq4), (5, .int vq5), (6, .long vq6), (8, .int vq8)] [] M (fX10_fitting_L6 vq1 vq2 vq3 vq4 vq5 n vq6 vq8 M) := by
  intro n
  induction n with
  | zero => intros; exact r_none
  | succ n ih => intro vq6 vq8 M; exact sX10_fitting_B6 ok vq1 vq2 vq3 vq4 vq5  _ ih vq6 vq8 M
def fX10_fitting (vq1 : Int32) (vq2 : Int32) (vq3 : Int32) (vq4 : Int32) (vq5 : Int32) (M : Mem) : Option (Int64 × Mem) :=
  fX10_fitting_L6 vq1 vq2 vq3 vq4 vq5 FU 0 0 M
set_option maxRecDepth 20000 in
theorem wX10_fitting {g : GP} {l : Launch} {x : CT} (ok : Ok g l x RX10 cX10_fitting 9 (some FieldType.long) (rmL 9)) (vq1 : Int32) (vq2 : Int32) (vq3 : Int32) (vq4 : Int32) (vq5 : Int32)  (M : Mem) : Sw g l x (FinQ g x eJ) 9 0 0 0 [(0, .ref (gA g 0 0)), (1, .int vq1), (2, .int vq2), (3, .int vq3), (4, .int vq4), (5, .int vq5)] [] M (fX10_fitting vq1 vq2 vq3 vq4 vq5 M) := by
  unfold fX10_fitting
  refine r_lconst (pc := 0) ok 0 dX10_fitting_0 (by decide) ?_
  refine r_lstore (pc := 1) ok [(6, .long 0), (0, .ref (gA g 0 0)), (1, .int vq1), (2, .int vq2), (3, .int vq3), (4, .int vq4), (5, .int vq5)] dX10_fitting_1 (by decide) rfl ?_
  refine r_iconst (pc := 3) ok 0 dX10_fitting_3 (by decide) ?_
  refine r_istore (pc := 4) ok [(8, .int 0), (6, .long 0), (0, .ref (gA g 0 0)), (1, .int vq1), (2, .int vq2), (3, .int vq3), (4, .int vq4), (5, .int vq5)] dX10_fitting_4 (by decide) rfl ?_
  refine r_lv [2, 3, 4, 5, 6, 7, 1, 0] [(0, .ref (gA g 0 0)), (1, .int vq1), (2, .int vq2), (3, .int vq3), (4, .int vq4), (5, .int vq5), (6, .long 0), (8, .int 0)] rfl ?_
  exact sX10_fitting_L6 ok vq1 vq2 vq3 vq4 vq5 FU 0 0 M
theorem con_X10_fitting (g : GP) (l : Launch) (vq1 : Int32) (vq2 : Int32) (vq3 : Int32) (vq4 : Int32) (vq5 : Int32)  (M : Mem) (r : Int64) (M2 : Mem) (h : fX10_fitting vq1 vq2 vq3 vq4 vq5 M = some (r, M2)) : Con g l yX10_fitting cX10_fitting 9 (some FieldType.long) (rmL 9) [.ref (gA g 0 0), .int vq1, .int vq2, .int vq3, .int vq4, .int vq5] M (eJ r) M2 :=
  Con.of (own := RX10) (f := fX10_fitting vq1 vq2 vq3 vq4 vq5 M) (by decide) (Nat.le_of_ble_eq_true rfl) rfl (fun x ok => wX10_fitting ok vq1 vq2 vq3 vq4 vq5  M) r M2 h
def fX4_advance_J60  (M : Mem) : Option (Unit × Mem) :=
  if (M 1 0 7) < (M 1 0 3) then
    (gd (inb (M 1 0 7) 160)
    (ob (fX4_isLetter (M 2 0 (M 1 0 7).toNatClampNeg) M) fun r2 M3 =>
    if r2 = 0 then
      (gd (inb (M3 1 0 7) 160)
      (ob (fX4_isDigit (M3 2 0 (M3 1 0 7).toNatClampNeg) M3) fun r4 M5 =>
      if r4 = 0 then
        (lt (mst M5 1 0 8 ((M5 1 0 7) + 1)) fun M6 =>
        gd (inb (M6 1 0 7) 160)
        (ob (fX4_isSign (M6 2 0 (M6 1 0 7).toNatClampNeg) M6) fun r7 M8 =>
        if r7 = 0 then
          (lt (mst M8 1 0 5 1) fun M9 =>
          some ((), M9))
        else
          (gd (inb (M8 1 0 7) 160)
          (lt (mst M8 1 0 5 (M8 2 0 (M8 1 0 7).toNatClampNeg)) fun M10 =>
          some ((), M10)))))
      else
        (ob (fX4_takeNumber M5) fun r11 M12 =>
        some ((), M12))))
    else
      (ob (fX4_takeWord M3) fun r13 M14 =>
      some ((), M14))))
  else
    (lt (mst M 1 0 8 (M 1 0 3)) fun M15 =>
    lt (mst M15 1 0 5 0) fun M16 =>
    some ((), M16))
set_option maxRecDepth 20000 in
theorem sX4_advance_J60 {g : GP} {l : Launch} {x : CT} (ok : Ok g l x RX4 cX4_advance 1 none (rmL 9))   (M : Mem) : Sw g l x (FinQ g x eV) 1 0 0 60 [(0, .ref (gA g 1 0))] [] M (fX4_advance_J60  M) := by
  unfold fX4_advance_J60
  refine r_aload_n (pc := 60) ok 0 dX4_advance_60 rfl ?_
  refine r_getI (pc := 61) ok fi_1_7 (by decide) fl_X4_66 dX4_advance_61 ?_
  refine r_aload_n (pc := 64) ok 0 dX4_advance_64 rfl ?_
  refine r_getI (pc := 65) ok fi_1_3 (by decide) fl_X4_21 dX4_advance_65 ?_
  refine r_icmp_lt (pc := 68) ok 87 dX4_advance_68 (by decide) (fun _ => ?_) (fun _ => ?_)
  · refine r_aload_n (pc := 87) ok 0 dX4_advance_87 rfl ?_
    refine r_getR (pc := 88) ok fr_1_0 (by decide) fl_X4_9 dX4_advance_88 ?_
    refine r_aload_n (pc := 91) ok 0 dX4_advance_91 rfl ?_
    refine r_getI (pc := 92) ok fi_1_7 (by decide) fl_X4_66 dX4_advance_92 ?_
    refine r_iald (pc := 95) ok ik_2 (by decide) dX4_advance_95 (fun _ => ?_)
    refine r_callS0 (pc := 96) ok [.int (M 2 0 (M 1 0 7).toNatClampNeg)] [] 3 (fun rZ MZ hZ => con_X4_isLetter g l (M 2 0 (M 1 0 7).toNatClampNeg) _ rZ MZ hZ) cs_X4_69 (rmOk_L (by decide) (by decide)) dX4_advance_96 rfl rfl (Nat.le_of_ble_eq_true rfl) (fun r2 M3 => ?_)
    refine r_if_eq (pc := 99) ok 109 dX4_advance_99 (by decide) (fun _ => ?_) (fun _ => ?_)
    · refine r_aload_n (pc := 109) ok 0 dX4_advance_109 rfl ?_
      refine r_getR (pc := 110) ok fr_1_0 (by decide) fl_X4_9 dX4_advance_110 ?_
      refine r_aload_n (pc := 113) ok 0 dX4_advance_113 rfl ?_
      refine r_getI (pc := 114) ok fi_1_7 (by decide) fl_X4_66 dX4_advance_114 ?_
      refine r_iald (pc := 117) ok ik_2 (by decide) dX4_advance_117 (fun _ => ?_)
      refine r_callS0 (pc := 118) ok [.int (M3 2 0 (M3 1 0 7).toNatClampNeg)] [] 3 (fun rZ MZ hZ => con_X4_isDigit g l (M3 2 0 (M3 1 0 7).toNatClampNeg) _ rZ MZ hZ) cs_X4_75 (rmOk_L (by decide) (by decide)) dX4_advance_118 rfl rfl (Nat.le_of_ble_eq_true rfl) (fun r4 M5 => ?_)
      refine r_if_eq (pc := 121) ok 131 dX4_advance_121 (by decide) (fun _ => ?_) (fun _ => ?_)
      · refine r_aload_n (pc := 131) ok 0 dX4_advance_131 rfl ?_
        refine r_aload_n (pc := 132) ok 0 dX4_advance_132 rfl ?_
        refine r_getI (pc := 133) ok fi_1_7 (by decide) fl_X4_66 dX4_advance_133 ?_
        refine r_iconst (pc := 136) ok 1 dX4_advance_136 (by decide) ?_
        refine r_iadd (pc := 137) ok dX4_advance_137 ?_
        refine r_putI (pc := 138) ok fi_1_8 (by decide) fl_X4_28 fp_1_8 ⟨rfl, rfl⟩ dX4_advance_138 ?_
        refine r_nmM (fun M6 => ?_)
        refine r_aload_n (pc := 141) ok 0 dX4_advance_141 rfl ?_
        refine r_aload_n (pc := 142) ok 0 dX4_advance_142 rfl ?_
        refine r_getR (pc := 143) ok fr_1_0 (by decide) fl_X4_9 dX4_advance_143 ?_
        refine r_aload_n (pc := 146) ok 0 dX4_advance_146 rfl ?_
        refine r_getI (pc := 147) ok fi_1_7 (by decide) fl_X4_66 dX4_advance_147 ?_
        refine r_iald (pc := 150) ok ik_2 (by decide) dX4_advance_150 (fun _ => ?_)
        refine r_callS0 (pc := 151) ok [.int (M6 2 0 (M6 1 0 7).toNatClampNeg)] [.ref (gA g 1 0)] 3 (fun rZ MZ hZ => con_X4_isSign g l (M6 2 0 (M6 1 0 7).toNatClampNeg) _ rZ MZ hZ) cs_X4_81 (rmOk_L (by decide) (by decide)) dX4_advance_151 rfl rfl (Nat.le_of_ble_eq_true rfl) (fun r7 M8 => ?_)
        refine r_if_eq (pc := 154) ok 169 dX4_advance_154 (by decide) (fun _ => ?_) (fun _ => ?_)
        · refine r_iconst (pc := 169) ok 1 dX4_advance_169 (by decide) ?_
          refine r_putI (pc := 170) ok fi_1_5 (by decide) fl_X4_41 fp_1_5 ⟨rfl, rfl⟩ dX4_advance_170 ?_
          refine r_nmM (fun M9 => ?_)
          exact r_vret (pc := 173) ok (Nat.zero_le _) (Nat.zero_le _) rfl dX4_advance_173
        · refine r_aload_n (pc := 157) ok 0 dX4_advance_157 rfl ?_
          refine r_getR (pc := 158) ok fr_1_0 (by decide) fl_X4_9 dX4_advance_158 ?_
          refine r_aload_n (pc := 161) ok 0 dX4_advance_161 rfl ?_
          refine r_getI (pc := 162) ok fi_1_7 (by decide) fl_X4_66 dX4_advance_162 ?_
          refine r_iald (pc := 165) ok ik_2 (by decide) dX4_advance_165 (fun _ => ?_)
          refine r_goto (pc := 166) ok 170 dX4_advance_166 (by decide) ?_
          refine r_putI (pc := 170) ok fi_1_5 (by decide) fl_X4_41 fp_1_5 ⟨rfl, rfl⟩ dX4_advance_170 ?_
          refine r_nmM (fun M10 => ?_)
          exact r_vret (pc := 173) ok (Nat.zero_le _) (Nat.zero_le _) rfl dX4_advance_173
      · refine r_aload_n (pc := 124) ok 0 dX4_advance_124 rfl ?_
        refine r_callV0 (pc := 125) ok [] [] 4 (fun rZ MZ hZ => con_X4_takeNumber g l  _ rZ MZ hZ) cv_X4_78 ok_1 (rmOk_L (by decide) (by decide)) dX4_advance_125 rfl rfl (Nat.le_of_ble_eq_true rfl) (fun r11 M12 => ?_)
        refine r_goto (pc := 128) ok 173 dX4_advance_128 (by decide) ?_
        exact r_vret (pc := 173) ok (Nat.zero_le _) (Nat.zero_le _) rfl dX4_advance_173
    · refine r_aload_n (pc := 102) ok 0 dX4_advance_102 rfl ?_
      refine r_callV0 (pc := 103) ok [] [] 8 (fun rZ MZ hZ => con_X4_takeWord g l  _ rZ MZ hZ) cv_X4_72 ok_1 (rmOk_L (by decide) (by decide)) dX4_advance_103 rfl rfl (Nat.le_of_ble_eq_true rfl) (fun r13 M14 => ?_)
      refine r_goto (pc := 106) ok 173 dX4_advance_106 (by decide) ?_
      exact r_vret (pc := 173) ok (Nat.zero_le _) (Nat.zero_le _) rfl dX4_advance_173
  · refine r_aload_n (pc := 71) ok 0 dX4_advance_71 rfl ?_
    refine r_aload_n (pc := 72) ok 0 dX4_advance_72 rfl ?_
    refine r_getI (pc := 73) ok fi_1_3 (by decide) fl_X4_21 dX4_advance_73 ?_
    refine r_putI (pc := 76) ok fi_1_8 (by decide) fl_X4_28 fp_1_8 ⟨rfl, rfl⟩ dX4_advance_76 ?_
    refine r_nmM (fun M15 => ?_)
    refine r_aload_n (pc := 79) ok 0 dX4_advance_79 rfl ?_
    refine r_iconst (pc := 80) ok 0 dX4_advance_80 (by decide) ?_
    refine r_putI (pc := 81) ok fi_1_5 (by decide) fl_X4_41 fp_1_5 ⟨rfl, rfl⟩ dX4_advance_81 ?_
    refine r_nmM (fun M16 => ?_)
    refine r_goto (pc := 84) ok 173 dX4_advance_84 (by decide) ?_
    exact r_vret (pc := 173) ok (Nat.zero_le _) (Nat.zero_le _) rfl dX4_advance_173
def fX4_advance_J47 (k8 : Mem → Option (Unit × Mem))  (M : Mem) : Option (Unit × Mem) :=
  lt (mst M 1 0 7 ((M 1 0 7) + 1)) fun M17 =>
  k8 M17
set_option maxRecDepth 20000 in
theorem sX4_advance_J47 {g : GP} {l : Launch} {x : CT} {k8 : Mem → Option (Unit × Mem)} (ok : Ok g l x RX4 cX4_advance 1 none (rmL 9))   (hk8 : ∀  (M : Mem), Sw g l x (FinQ g x eV) 1 0 0 8 [(0, .ref (gA g 1 0))] [] M (k8 M)) (M : Mem) : Sw g l x (FinQ g x eV) 1 0 0 47 [(0, .ref (gA g 1 0))] [] M (fX4_advance_J47 k8  M) := by
  unfold fX4_advance_J47
  refine r_aload_n (pc := 47) ok 0 dX4_advance_47 rfl ?_
  refine r_dup (pc := 48) ok dX4_advance_48 rfl ?_
  refine r_getI (pc := 49) ok fi_1_7 (by decide) fl_X4_66 dX4_advance_49 ?_
  refine r_iconst (pc := 52) ok 1 dX4_advance_52 (by decide) ?_
  refine r_iadd (pc := 53) ok dX4_advance_53 ?_
  refine r_putI (pc := 54) ok fi_1_7 (by decide) fl_X4_66 fp_1_7 ⟨rfl, rfl⟩ dX4_advance_54 ?_
  refine r_nmM (fun M17 => ?_)
  refine r_goto (pc := 57) ok 8 dX4_advance_57 (by decide) ?_
  refine r_lv [0] [(0, .ref (gA g 1 0))] rfl ?_
  exact hk8 M17
def fX4_advance_B8  (k8 : Mem → Option (Unit × Mem))  (M : Mem) : Option (Unit × Mem) :=
  if (M 1 0 3) ≤ (M 1 0 7) then
    (fX4_advance_J60 M)
  else
    (gd (inb (M 1 0 7) 160)
    (if (M 2 0 (M 1 0 7).toNatClampNeg) = 32 then
      (fX4_advance_J47 k8 M)
    else
      (gd (inb (M 1 0 7) 160)
      (if (M 2 0 (M 1 0 7).toNatClampNeg) = 10 then
        (fX4_advance_J47 k8 M)
      else
        (fX4_advance_J60 M)))))
def fX4_advance_L8  : Nat → Mem → Option (Unit × Mem)
  | 0, _ => none
  | n + 1, M => fX4_advance_B8  (fX4_advance_L8  n)  M
set_option maxRecDepth 20000 in
theorem sX4_advance_B8 {g : GP} {l : Launch} {x : CT} (ok : Ok g l x RX4 cX4_advance 1 none (rmL 9))   (k8 : Mem → Option (Unit × Mem)) (hk8 : ∀  (M : Mem), Sw g l x (FinQ g x eV) 1 0 0 8 [(0, .ref (gA g 1 0))] [] M (k8  M))  (M : Mem) : Sw g l x (FinQ g x eV) 1 0 0 8 [(0, .ref (gA g 1 0))] [] M (fX4_advance_B8  k8  M) := by
  unfold fX4_advance_B8
  refine r_aload_n (pc := 8) ok 0 dX4_advance_8 rfl ?_
  refine r_getI (pc := 9) ok fi_1_7 (by decide) fl_X4_66 dX4_advance_9 ?_
  refine r_aload_n (pc := 12) ok 0 dX4_advance_12 rfl ?_
  refine r_getI (pc := 13) ok fi_1_3 (by decide) fl_X4_21 dX4_advance_13 ?_
  refine r_icmp_ge (pc := 16) ok 60 dX4_advance_16 (by decide) (fun _ => ?_) (fun _ => ?_)
  · refine r_lv [0] [(0, .ref (gA g 1 0))] rfl ?_
    exact sX4_advance_J60 ok M
  · refine r_aload_n (pc := 19) ok 0 dX4_advance_19 rfl ?_
    refine r_getR (pc := 20) ok fr_1_0 (by decide) fl_X4_9 dX4_advance_20 ?_
    refine r_aload_n (pc := 23) ok 0 dX4_advance_23 rfl ?_
    refine r_getI (pc := 24) ok fi_1_7 (by decide) fl_X4_66 dX4_advance_24 ?_
    refine r_iald (pc := 27) ok ik_2 (by decide) dX4_advance_27 (fun _ => ?_)
    refine r_bipush (pc := 28) ok 32 dX4_advance_28 (by decide) ?_
    refine r_icmp_eq (pc := 30) ok 47 dX4_advance_30 (by decide) (fun _ => ?_) (fun _ => ?_)
    · refine r_lv [0] [(0, .ref (gA g 1 0))] rfl ?_
      exact sX4_advance_J47 ok hk8 M
    · refine r_aload_n (pc := 33) ok 0 dX4_advance_33 rfl ?_
      refine r_getR (pc := 34) ok fr_1_0 (by decide) fl_X4_9 dX4_advance_34 ?_
      refine r_aload_n (pc := 37) ok 0 dX4_advance_37 rfl ?_
      refine r_getI (pc := 38) ok fi_1_7 (by decide) fl_X4_66 dX4_advance_38 ?_
      refine r_iald (pc := 41) ok ik_2 (by decide) dX4_advance_41 (fun _ => ?_)
      refine r_bipush (pc := 42) ok 10 dX4_advance_42 (by decide) ?_
      refine r_icmp_ne (pc := 44) ok 60 dX4_advance_44 (by decide) (fun _ => ?_) (fun _ => ?_)
      · refine r_lv [0] [(0, .ref (gA g 1 0))] rfl ?_
        exact sX4_advance_J47 ok hk8 M
      · refine r_lv [0] [(0, .ref (gA g 1 0))] rfl ?_
        exact sX4_advance_J60 ok M
theorem sX4_advance_L8 {g : GP} {l : Launch} {x : CT} (ok : Ok g l x RX4 cX4_advance 1 none (rmL 9))   : ∀ (n : Nat)  (M : Mem), Sw g l x (FinQ g x eV) 1 0 0 8 [(0, .ref (gA g 1 0))] [] M (fX4_advance_L8  n  M) := by
  intro n
  induction n with
  | zero => intros; exact r_none
  | succ n ih => intro  M; exact sX4_advance_B8 ok   _ ih  M
def fX4_advance  (M : Mem) : Option (Unit × Mem) :=
  lt (mst M 1 0 7 (M 1 0 8)) fun M1 =>
  fX4_advance_L8 FU M1
set_option maxRecDepth 20000 in
theorem wX4_advance {g : GP} {l : Launch} {x : CT} (ok : Ok g l x RX4 cX4_advance 1 none (rmL 9))   (M : Mem) : Sw g l x (FinQ g x eV) 1 0 0 0 [(0, .ref (gA g 1 0))] [] M (fX4_advance  M) := by
  unfold fX4_advance
  refine r_aload_n (pc := 0) ok 0 dX4_advance_0 rfl ?_
  refine r_aload_n (pc := 1) ok 0 dX4_advance_1 rfl ?_
  refine r_getI (pc := 2) ok fi_1_8 (by decide) fl_X4_28 dX4_advance_2 ?_
  refine r_putI (pc := 5) ok fi_1_7 (by decide) fl_X4_66 fp_1_7 ⟨rfl, rfl⟩ dX4_advance_5 ?_
  refine r_nmM (fun M1 => ?_)
  refine r_lv [0] [(0, .ref (gA g 1 0))] rfl ?_
  exact sX4_advance_L8 ok FU M1
theorem con_X4_advance (g : GP) (l : Launch)   (M : Mem) (r : Unit) (M2 : Mem) (h : fX4_advance  M = some (r, M2)) : Con g l yX4_advance cX4_advance 1 none (rmL 9) [.ref (gA g 1 0)] M (eV r) M2 :=
  Con.of (own := RX4) (f := fX4_advance  M) (by decide) (Nat.le_of_ble_eq_true rfl) rfl (fun x ok => wX4_advance ok   M) r M2 h
def fX10_kinds (vq1 : Int32) (vq2 : Int32) (vq3 : Int32) (vq4 : Int32) (M : Mem) : Option (Int32 × Mem) :=
  ob (fX10_refuseTaleOf vq1 vq2 vq3 M) fun r1 M2 =>
  if r1 = 0 then
    (ob (fX10_within vq4 0 1 M2) fun r3 M4 =>
    if r3 = 0 then
      (some (-7, M4))
    else
      (if vq4 = 0 then
        (ob (fX10_fitting vq1 vq2 vq3 2 6 M4) fun r7 M8 =>
        some (r7.toInt32, M8))
      else
        (ob (fX10_fitting vq1 vq2 vq3 3 10 M4) fun r5 M6 =>
        some (r5.toInt32, M6))))
  else
    (some (r1, M2))
set_option maxRecDepth 20000 in
theorem wX10_kinds {g : GP} {l : Launch} {x : CT} (ok : Ok g l x RX10 cX10_kinds 6 (some FieldType.int) (rmL 10)) (vq1 : Int32) (vq2 : Int32) (vq3 : Int32) (vq4 : Int32)  (M : Mem) : Sw g l x (FinQ g x eI) 6 0 0 0 [(0, .ref (gA g 0 0)), (1, .int vq1), (2, .int vq2), (3, .int vq3), (4, .int vq4)] [] M (fX10_kinds vq1 vq2 vq3 vq4 M) := by
  unfold fX10_kinds
  refine r_aload_n (pc := 0) ok 0 dX10_kinds_0 rfl ?_
  refine r_iload_n (pc := 1) ok 1 dX10_kinds_1 rfl ?_
  refine r_iload_n (pc := 2) ok 2 dX10_kinds_2 rfl ?_
  refine r_iload_n (pc := 3) ok 3 dX10_kinds_3 rfl ?_
  refine r_callV0 (pc := 4) ok [.int vq1, .int vq2, .int vq3] [] 5 (fun rZ MZ hZ => con_X10_refuseTaleOf g l vq1 vq2 vq3 _ rZ MZ hZ) cv_X10_212 ok_0 (rmOk_L (by decide) (by decide)) dX10_kinds_4 rfl rfl (Nat.le_of_ble_eq_true rfl) (fun r1 M2 => ?_)
  refine r_istore (pc := 7) ok [(5, .int r1), (0, .ref (gA g 0 0)), (1, .int vq1), (2, .int vq2), (3, .int vq3), (4, .int vq4)] dX10_kinds_7 (by decide) rfl ?_
  refine r_iload (pc := 9) ok 0 dX10_kinds_9 rfl ?_
  refine r_if_eq (pc := 11) ok 17 dX10_kinds_11 (by decide) (fun _ => ?_) (fun _ => ?_)
  · refine r_iload (pc := 17) ok 5 dX10_kinds_17 rfl ?_
    refine r_iconst (pc := 19) ok 0 dX10_kinds_19 (by decide) ?_
    refine r_iconst (pc := 20) ok 1 dX10_kinds_20 (by decide) ?_
    refine r_callS0 (pc := 21) ok [.int vq4, .int 0, .int 1] [] 2 (fun rZ MZ hZ => con_X10_within g l vq4 0 1 _ rZ MZ hZ) cs_X10_91 (rmOk_L (by decide) (by decide)) dX10_kinds_21 rfl rfl (Nat.le_of_ble_eq_true rfl) (fun r3 M4 => ?_)
    refine r_if_ne (pc := 24) ok 30 dX10_kinds_24 (by decide) (fun _ => ?_) (fun _ => ?_)
    · refine r_bipush (pc := 27) ok (-7) dX10_kinds_27 (by decide) ?_
      exact r_iret (pc := 29) ok (Nat.zero_le _) (Nat.zero_le _) rfl dX10_kinds_29
    · refine r_iload (pc := 30) ok 5 dX10_kinds_30 rfl ?_
      refine r_if_ne (pc := 32) ok 48 dX10_kinds_32 (by decide) (fun _ => ?_) (fun _ => ?_)
      · refine r_aload_n (pc := 35) ok 1 dX10_kinds_35 rfl ?_
        refine r_iload_n (pc := 36) ok 2 dX10_kinds_36 rfl ?_
        refine r_iload_n (pc := 37) ok 3 dX10_kinds_37 rfl ?_
        refine r_iload_n (pc := 38) ok 4 dX10_kinds_38 rfl ?_
        refine r_iconst (pc := 39) ok 2 dX10_kinds_39 (by decide) ?_
        refine r_bipush (pc := 40) ok 6 dX10_kinds_40 (by decide) ?_
        refine r_callV0 (pc := 42) ok [.int vq1, .int vq2, .int vq3, .int 2, .int 6] [] 9 (fun rZ MZ hZ => con_X10_fitting g l vq1 vq2 vq3 2 6 _ rZ MZ hZ) cv_X10_215 ok_0 (rmOk_L (by decide) (by decide)) dX10_kinds_42 rfl rfl (Nat.le_of_ble_eq_true rfl) (fun r7 M8 => ?_)
        refine r_goto (pc := 45) ok 58 dX10_kinds_45 (by decide) ?_
        refine r_l2i (pc := 58) ok dX10_kinds_58 ?_
        exact r_iret (pc := 59) ok (Nat.zero_le _) (Nat.zero_le _) rfl dX10_kinds_59
      · refine r_aload_n (pc := 48) ok 1 dX10_kinds_48 rfl ?_
        refine r_iload_n (pc := 49) ok 2 dX10_kinds_49 rfl ?_
        refine r_iload_n (pc := 50) ok 3 dX10_kinds_50 rfl ?_
        refine r_iload_n (pc := 51) ok 4 dX10_kinds_51 rfl ?_
        refine r_iconst (pc := 52) ok 3 dX10_kinds_52 (by decide) ?_
        refine r_bipush (pc := 53) ok 10 dX10_kinds_53 (by decide) ?_
        refine r_callV0 (pc := 55) ok [.int vq1, .int vq2, .int vq3, .int 3, .int 10] [] 9 (fun rZ MZ hZ => con_X10_fitting g l vq1 vq2 vq3 3 10 _ rZ MZ hZ) cv_X10_215 ok_0 (rmOk_L (by decide) (by decide)) dX10_kinds_55 rfl rfl (Nat.le_of_ble_eq_true rfl) (fun r5 M6 => ?_)
        refine r_l2i (pc := 58) ok dX10_kinds_58 ?_
        exact r_iret (pc := 59) ok (Nat.zero_le _) (Nat.zero_le _) rfl dX10_kinds_59
  · refine r_iload (pc := 14) ok 0 dX10_kinds_14 rfl ?_
    exact r_iret (pc := 16) ok (Nat.zero_le _) (Nat.zero_le _) rfl dX10_kinds_16
theorem con_X10_kinds (g : GP) (l : Launch) (vq1 : Int32) (vq2 : Int32) (vq3 : Int32) (vq4 : Int32)  (M : Mem) (r : Int32) (M2 : Mem) (h : fX10_kinds vq1 vq2 vq3 vq4 M = some (r, M2)) : Con g l yX10_kinds cX10_kinds 6 (some FieldType.int) (rmL 10) [.ref (gA g 0 0), .int vq1, .int vq2, .int vq3, .int vq4] M (eI r) M2 :=
  Con.of (own := RX10) (f := fX10_kinds vq1 vq2 vq3 vq4 M) (by decide) (Nat.le_of_ble_eq_true rfl) rfl (fun x ok => wX10_kinds ok vq1 vq2 vq3 vq4  M) r M2 h
def fX10_where (vq1 : Int32) (vq2 : Int32) (vq3 : Int32) (M : Mem) : Option (Int64 × Mem) :=
  ob (fX10_refuseTaleOf vq1 vq2 vq3 M) fun r1 M2 =>
  if r1 = 0 then
    (ob (fX10_fitting vq1 vq2 vq3 0 36 M2) fun r3 M4 =>
    some (r3, M4))
  else
    (some (-4611686018427387904, M2))
set_option maxRecDepth 20000 in
theorem wX10_where {g : GP} {l : Launch} {x : CT} (ok : Ok g l x RX10 cX10_where 4 (some FieldType.long) (rmL 10)) (vq1 : Int32) (vq2 : Int32) (vq3 : Int32)  (M : Mem) : Sw g l x (FinQ g x eJ) 4 0 0 0 [(0, .ref (gA g 0 0)), (1, .int vq1), (2, .int vq2), (3, .int vq3)] [] M (fX10_where vq1 vq2 vq3 M) := by
  unfold fX10_where
  refine r_aload_n (pc := 0) ok 0 dX10_where_0 rfl ?_
  refine r_iload_n (pc := 1) ok 1 dX10_where_1 rfl ?_
  refine r_iload_n (pc := 2) ok 2 dX10_where_2 rfl ?_
  refine r_iload_n (pc := 3) ok 3 dX10_where_3 rfl ?_
  refine r_callV0 (pc := 4) ok [.int vq1, .int vq2, .int vq3] [] 5 (fun rZ MZ hZ => con_X10_refuseTaleOf g l vq1 vq2 vq3 _ rZ MZ hZ) cv_X10_212 ok_0 (rmOk_L (by decide) (by decide)) dX10_where_4 rfl rfl (Nat.le_of_ble_eq_true rfl) (fun r1 M2 => ?_)
  refine r_if_ne (pc := 7) ok 23 dX10_where_7 (by decide) (fun _ => ?_) (fun _ => ?_)
  · refine r_aload_n (pc := 10) ok 0 dX10_where_10 rfl ?_
    refine r_iload_n (pc := 11) ok 1 dX10_where_11 rfl ?_
    refine r_iload_n (pc := 12) ok 2 dX10_where_12 rfl ?_
    refine r_iload_n (pc := 13) ok 3 dX10_where_13 rfl ?_
    refine r_iconst (pc := 14) ok 0 dX10_where_14 (by decide) ?_
    refine r_bipush (pc := 15) ok 36 dX10_where_15 (by decide) ?_
    refine r_callV0 (pc := 17) ok [.int vq1, .int vq2, .int vq3, .int 0, .int 36] [] 9 (fun rZ MZ hZ => con_X10_fitting g l vq1 vq2 vq3 0 36 _ rZ MZ hZ) cv_X10_215 ok_0 (rmOk_L (by decide) (by decide)) dX10_where_17 rfl rfl (Nat.le_of_ble_eq_true rfl) (fun r3 M4 => ?_)
    refine r_goto (pc := 20) ok 26 dX10_where_20 (by decide) ?_
    exact r_lret (pc := 26) ok (Nat.zero_le _) (Nat.zero_le _) rfl dX10_where_26
  · refine r_ldc2 (pc := 23) ok wcl_X10_169 dX10_where_23 ?_
    exact r_lret (pc := 26) ok (Nat.zero_le _) (Nat.zero_le _) rfl dX10_where_26
theorem con_X10_where (g : GP) (l : Launch) (vq1 : Int32) (vq2 : Int32) (vq3 : Int32)  (M : Mem) (r : Int64) (M2 : Mem) (h : fX10_where vq1 vq2 vq3 M = some (r, M2)) : Con g l yX10_where cX10_where 4 (some FieldType.long) (rmL 10) [.ref (gA g 0 0), .int vq1, .int vq2, .int vq3] M (eJ r) M2 :=
  Con.of (own := RX10) (f := fX10_where vq1 vq2 vq3 M) (by decide) (Nat.le_of_ble_eq_true rfl) rfl (fun x ok => wX10_where ok vq1 vq2 vq3  M) r M2 h
def fX4_readOr_B12 (rec : Nat → Int32 → Mem → Option (Int32 × Mem)) (vq1 : Int32) (k12 : Int32 → Mem → Option (Int32 × Mem)) (vq2 : Int32) (M : Mem) : Option (Int32 × Mem) :=
  if 160 ≤ vq2 then
    (some (1, M))
  else
    (if (M 1 0 5) = 7 then
      (ob (fX4_advance M) fun r3 M4 =>
      ob (rec 1 vq1 M4) fun r5 M6 =>
      if r5 = 0 then
        (some (0, M6))
      else
        (ob (fX4_emit (-7) M6) fun r7 M8 =>
        k12 (vq2 + 1) M8))
    else
      (some (1, M)))
def fX4_readOr_L12 (rec : Nat → Int32 → Mem → Option (Int32 × Mem)) (vq1 : Int32) : Nat → Int32 → Mem → Option (Int32 × Mem)
  | 0, _, _ => none
  | n + 1, vq2, M => fX4_readOr_B12 rec vq1 (fX4_readOr_L12 rec vq1 n) vq2 M
set_option maxRecDepth 20000 in
theorem sX4_readOr_B12 {g : GP} {l : Launch} {x : CT} {d : Nat} {rec : Nat → Int32 → Mem → Option (Int32 × Mem)} (ok : Ok g l x RX4 cX4_readOr 3 (some FieldType.boolean) (rmL (d + 16))) (hr0 : ∀ (v : Int32) (M : Mem) (r : Int32) (M2 : Mem), rec 0 v M = some (r, M2) → Con g l yX4_readOr cX4_readOr 3 (some .boolean) (rmL (d + 15)) [.ref (gA g 1 0), .int v] M (eI r) M2) (hr1 : ∀ (v : Int32) (M : Mem) (r : Int32) (M2 : Mem), rec 1 v M = some (r, M2) → Con g l yX4_readAnd cX4_readAnd 3 (some .boolean) (rmL (d + 15)) [.ref (gA g 1 0), .int v] M (eI r) M2) (hr2 : ∀ (v : Int32) (M : Mem) (r : Int32) (M2 : Mem), rec 2 v M = some (r, M2) → Con g l yX4_readNot cX4_readNot 3 (some .boolean) (rmL (d + 15)) [.ref (gA g 1 0), .int v] M (eI r) M2) (hr3 : ∀ (v : Int32) (M : Mem) (r : Int32) (M2 : Mem), rec 3 v M = some (r, M2) → Con g l yX4_readSum cX4_readSum 4 (some .boolean) (rmL (d + 15)) [.ref (gA g 1 0), .int v] M (eI r) M2) (hr4 : ∀ (v : Int32) (M : Mem) (r : Int32) (M2 : Mem), rec 4 v M = some (r, M2) → Con g l yX4_readTerm cX4_readTerm 3 (some .boolean) (rmL (d + 15)) [.ref (gA g 1 0), .int v] M (eI r) M2) (hr5 : ∀ (v : Int32) (M : Mem) (r : Int32) (M2 : Mem), rec 5 v M = some (r, M2) → Con g l yX4_readOne cX4_readOne 2 (some .boolean) (rmL (d + 15)) [.ref (gA g 1 0), .int v] M (eI r) M2) (vq1 : Int32)  (k12 : Int32 → Mem → Option (Int32 × Mem)) (hk12 : ∀ (vq2 : Int32) (M : Mem), Sw g l x (FinQ g x eI) 3 0 0 12 [(0, .ref (gA g 1 0)), (1, .int vq1), (2, .int vq2)] [] M (k12 vq2 M)) (vq2 : Int32) (M : Mem) : Sw g l x (FinQ g x eI) 3 0 0 12 [(0, .ref (gA g 1 0)), (1, .int vq1), (2, .int vq2)] [] M (fX4_readOr_B12 rec vq1 k12 vq2 M) := by
  unfold fX4_readOr_B12
  refine r_iload_n (pc := 12) ok 2 dX4_readOr_12 rfl ?_
  refine r_sipush (pc := 13) ok 160 dX4_readOr_13 (by decide) ?_
  refine r_icmp_ge (pc := 16) ok 54 dX4_readOr_16 (by decide) (fun _ => ?_) (fun _ => ?_)
  · refine r_iconst (pc := 54) ok 1 dX4_readOr_54 (by decide) ?_
    exact r_zret (pc := 55) ok (Nat.zero_le _) (Nat.zero_le _) rfl rfl dX4_readOr_55
  · refine r_aload_n (pc := 19) ok 0 dX4_readOr_19 rfl ?_
    refine r_getI (pc := 20) ok fi_1_5 (by decide) fl_X4_41 dX4_readOr_20 ?_
    refine r_bipush (pc := 23) ok 7 dX4_readOr_23 (by decide) ?_
    refine r_icmp_ne (pc := 25) ok 54 dX4_readOr_25 (by decide) (fun _ => ?_) (fun _ => ?_)
    · refine r_aload_n (pc := 28) ok 0 dX4_readOr_28 rfl ?_
      refine r_callV0 (pc := 29) ok [] [] 9 (fun rZ MZ hZ => con_X4_advance g l  _ rZ MZ hZ) cv_X4_31 ok_1 (rmOk_L (by omega) (by decide)) dX4_readOr_29 rfl rfl (Nat.le_of_ble_eq_true rfl) (fun r3 M4 => ?_)
      refine r_aload_n (pc := 32) ok 0 dX4_readOr_32 rfl ?_
      refine r_iload_n (pc := 33) ok 1 dX4_readOr_33 rfl ?_
      refine r_callV0 (pc := 34) ok [.int vq1] [] (d + 15) (fun rZ MZ hZ => hr1 _ _ rZ MZ hZ) cv_X4_44 ok_1 (rmOk_L (by omega) (by decide)) dX4_readOr_34 rfl rfl (Nat.le_of_ble_eq_true rfl) (fun r5 M6 => ?_)
      refine r_if_ne (pc := 37) ok 42 dX4_readOr_37 (by decide) (fun _ => ?_) (fun _ => ?_)
      · refine r_iconst (pc := 40) ok 0 dX4_readOr_40 (by decide) ?_
        exact r_zret (pc := 41) ok (Nat.zero_le _) (Nat.zero_le _) rfl rfl dX4_readOr_41
      · refine r_aload_n (pc := 42) ok 0 dX4_readOr_42 rfl ?_
        refine r_bipush (pc := 43) ok (-7) dX4_readOr_43 (by decide) ?_
        refine r_callV0 (pc := 45) ok [.int (-7)] [] 2 (fun rZ MZ hZ => con_X4_emit g l (-7) _ rZ MZ hZ) cv_X4_47 ok_1 (rmOk_L (by omega) (by decide)) dX4_readOr_45 rfl rfl (Nat.le_of_ble_eq_true rfl) (fun r7 M8 => ?_)
        refine r_iinc (pc := 48) ok 2 (vq2 + 1) [(2, .int (vq2 + 1)), (0, .ref (gA g 1 0)), (1, .int vq1)] dX4_readOr_48 rfl (congrArg (fun z => vq2 + z) (by decide : Int32.ofInt 1 = (1 : Int32))) (by decide) rfl ?_
        refine r_goto (pc := 51) ok 12 dX4_readOr_51 (by decide) ?_
        refine r_lv [1, 2, 0] [(0, .ref (gA g 1 0)), (1, .int vq1), (2, .int (vq2 + 1))] rfl ?_
        exact hk12 (vq2 + 1) M8
    · refine r_iconst (pc := 54) ok 1 dX4_readOr_54 (by decide) ?_
      exact r_zret (pc := 55) ok (Nat.zero_le _) (Nat.zero_le _) rfl rfl dX4_readOr_55
theorem sX4_readOr_L12 {g : GP} {l : Launch} {x : CT} {d : Nat} {rec : Nat → Int32 → Mem → Option (Int32 × Mem)} (ok : Ok g l x RX4 cX4_readOr 3 (some FieldType.boolean) (rmL (d + 16))) (hr0 : ∀ (v : Int32) (M : Mem) (r : Int32) (M2 : Mem), rec 0 v M = some (r, M2) → Con g l yX4_readOr cX4_readOr 3 (some .boolean) (rmL (d + 15)) [.ref (gA g 1 0), .int v] M (eI r) M2) (hr1 : ∀ (v : Int32) (M : Mem) (r : Int32) (M2 : Mem), rec 1 v M = some (r, M2) → Con g l yX4_readAnd cX4_readAnd 3 (some .boolean) (rmL (d + 15)) [.ref (gA g 1 0), .int v] M (eI r) M2) (hr2 : ∀ (v : Int32) (M : Mem) (r : Int32) (M2 : Mem), rec 2 v M = some (r, M2) → Con g l yX4_readNot cX4_readNot 3 (some .boolean) (rmL (d + 15)) [.ref (gA g 1 0), .int v] M (eI r) M2) (hr3 : ∀ (v : Int32) (M : Mem) (r : Int32) (M2 : Mem), rec 3 v M = some (r, M2) → Con g l yX4_readSum cX4_readSum 4 (some .boolean) (rmL (d + 15)) [.ref (gA g 1 0), .int v] M (eI r) M2) (hr4 : ∀ (v : Int32) (M : Mem) (r : Int32) (M2 : Mem), rec 4 v M = some (r, M2) → Con g l yX4_readTerm cX4_readTerm 3 (some .boolean) (rmL (d + 15)) [.ref (gA g 1 0), .int v] M (eI r) M2) (hr5 : ∀ (v : Int32) (M : Mem) (r : Int32) (M2 : Mem), rec 5 v M = some (r, M2) → Con g l yX4_readOne cX4_readOne 2 (some .boolean) (rmL (d + 15)) [.ref (gA g 1 0), .int v] M (eI r) M2) (vq1 : Int32)  : ∀ (n : Nat) (vq2 : Int32) (M : Mem), Sw g l x (FinQ g x eI) 3 0 0 12 [(0, .ref (gA g 1 0)), (1, .int vq1), (2, .int vq2)] [] M (fX4_readOr_L12 rec vq1 n vq2 M) := by
  intro n
  induction n with
  | zero => intros; exact r_none
  | succ n ih => intro vq2 M; exact sX4_readOr_B12 ok hr0 hr1 hr2 hr3 hr4 hr5 vq1  _ ih vq2 M
def fX4_readOr_b (rec : Nat → Int32 → Mem → Option (Int32 × Mem)) (vq1 : Int32) (M : Mem) : Option (Int32 × Mem) :=
  ob (rec 1 vq1 M) fun r1 M2 =>
  if r1 = 0 then
    (some (0, M2))
  else
    (fX4_readOr_L12 rec vq1 FU 0 M2)
set_option maxRecDepth 20000 in
theorem wX4_readOr_b {g : GP} {l : Launch} {x : CT} {d : Nat} {rec : Nat → Int32 → Mem → Option (Int32 × Mem)} (ok : Ok g l x RX4 cX4_readOr 3 (some FieldType.boolean) (rmL (d + 16))) (hr0 : ∀ (v : Int32) (M : Mem) (r : Int32) (M2 : Mem), rec 0 v M = some (r, M2) → Con g l yX4_readOr cX4_readOr 3 (some .boolean) (rmL (d + 15)) [.ref (gA g 1 0), .int v] M (eI r) M2) (hr1 : ∀ (v : Int32) (M : Mem) (r : Int32) (M2 : Mem), rec 1 v M = some (r, M2) → Con g l yX4_readAnd cX4_readAnd 3 (some .boolean) (rmL (d + 15)) [.ref (gA g 1 0), .int v] M (eI r) M2) (hr2 : ∀ (v : Int32) (M : Mem) (r : Int32) (M2 : Mem), rec 2 v M = some (r, M2) → Con g l yX4_readNot cX4_readNot 3 (some .boolean) (rmL (d + 15)) [.ref (gA g 1 0), .int v] M (eI r) M2) (hr3 : ∀ (v : Int32) (M : Mem) (r : Int32) (M2 : Mem), rec 3 v M = some (r, M2) → Con g l yX4_readSum cX4_readSum 4 (some .boolean) (rmL (d + 15)) [.ref (gA g 1 0), .int v] M (eI r) M2) (hr4 : ∀ (v : Int32) (M : Mem) (r : Int32) (M2 : Mem), rec 4 v M = some (r, M2) → Con g l yX4_readTerm cX4_readTerm 3 (some .boolean) (rmL (d + 15)) [.ref (gA g 1 0), .int v] M (eI r) M2) (hr5 : ∀ (v : Int32) (M : Mem) (r : Int32) (M2 : Mem), rec 5 v M = some (r, M2) → Con g l yX4_readOne cX4_readOne 2 (some .boolean) (rmL (d + 15)) [.ref (gA g 1 0), .int v] M (eI r) M2) (vq1 : Int32)  (M : Mem) : Sw g l x (FinQ g x eI) 3 0 0 0 [(0, .ref (gA g 1 0)), (1, .int vq1)] [] M (fX4_readOr_b rec vq1 M) := by
  unfold fX4_readOr_b
  refine r_aload_n (pc := 0) ok 0 dX4_readOr_0 rfl ?_
  refine r_iload_n (pc := 1) ok 1 dX4_readOr_1 rfl ?_
  refine r_callV0 (pc := 2) ok [.int vq1] [] (d + 15) (fun rZ MZ hZ => hr1 _ _ rZ MZ hZ) cv_X4_44 ok_1 (rmOk_L (by omega) (by decide)) dX4_readOr_2 rfl rfl (Nat.le_of_ble_eq_true rfl) (fun r1 M2 => ?_)
  refine r_if_ne (pc := 5) ok 10 dX4_readOr_5 (by decide) (fun _ => ?_) (fun _ => ?_)
  · refine r_iconst (pc := 8) ok 0 dX4_readOr_8 (by decide) ?_
    exact r_zret (pc := 9) ok (Nat.zero_le _) (Nat.zero_le _) rfl rfl dX4_readOr_9
  · refine r_iconst (pc := 10) ok 0 dX4_readOr_10 (by decide) ?_
    refine r_istore_n (pc := 11) ok [(2, .int 0), (0, .ref (gA g 1 0)), (1, .int vq1)] dX4_readOr_11 rfl (by decide) rfl ?_
    refine r_lv [1, 2, 0] [(0, .ref (gA g 1 0)), (1, .int vq1), (2, .int 0)] rfl ?_
    exact sX4_readOr_L12 ok hr0 hr1 hr2 hr3 hr4 hr5 vq1 FU 0 M2
def fX4_readAnd_B12 (rec : Nat → Int32 → Mem → Option (Int32 × Mem)) (vq1 : Int32) (k12 : Int32 → Mem → Option (Int32 × Mem)) (vq2 : Int32) (M : Mem) : Option (Int32 × Mem) :=
  if 160 ≤ vq2 then
    (some (1, M))
  else
    (if (M 1 0 5) = 8 then
      (ob (fX4_advance M) fun r3 M4 =>
      ob (rec 2 vq1 M4) fun r5 M6 =>
      if r5 = 0 then
        (some (0, M6))
      else
        (ob (fX4_emit (-8) M6) fun r7 M8 =>
        k12 (vq2 + 1) M8))
    else
      (some (1, M)))
def fX4_readAnd_L12 (rec : Nat → Int32 → Mem → Option (Int32 × Mem)) (vq1 : Int32) : Nat → Int32 → Mem → Option (Int32 × Mem)
  | 0, _, _ => none
  | n + 1, vq2, M => fX4_readAnd_B12 rec vq1 (fX4_readAnd_L12 rec vq1 n) vq2 M
set_option maxRecDepth 20000 in
theorem sX4_readAnd_B12 {g : GP} {l : Launch} {x : CT} {d : Nat} {rec : Nat → Int32 → Mem → Option (Int32 × Mem)} (ok : Ok g l x RX4 cX4_readAnd 3 (some FieldType.boolean) (rmL (d + 16))) (hr0 : ∀ (v : Int32) (M : Mem) (r : Int32) (M2 : Mem), rec 0 v M = some (r, M2) → Con g l yX4_readOr cX4_readOr 3 (some .boolean) (rmL (d + 15)) [.ref (gA g 1 0), .int v] M (eI r) M2) (hr1 : ∀ (v : Int32) (M : Mem) (r : Int32) (M2 : Mem), rec 1 v M = some (r, M2) → Con g l yX4_readAnd cX4_readAnd 3 (some .boolean) (rmL (d + 15)) [.ref (gA g 1 0), .int v] M (eI r) M2) (hr2 : ∀ (v : Int32) (M : Mem) (r : Int32) (M2 : Mem), rec 2 v M = some (r, M2) → Con g l yX4_readNot cX4_readNot 3 (some .boolean) (rmL (d + 15)) [.ref (gA g 1 0), .int v] M (eI r) M2) (hr3 : ∀ (v : Int32) (M : Mem) (r : Int32) (M2 : Mem), rec 3 v M = some (r, M2) → Con g l yX4_readSum cX4_readSum 4 (some .boolean) (rmL (d + 15)) [.ref (gA g 1 0), .int v] M (eI r) M2) (hr4 : ∀ (v : Int32) (M : Mem) (r : Int32) (M2 : Mem), rec 4 v M = some (r, M2) → Con g l yX4_readTerm cX4_readTerm 3 (some .boolean) (rmL (d + 15)) [.ref (gA g 1 0), .int v] M (eI r) M2) (hr5 : ∀ (v : Int32) (M : Mem) (r : Int32) (M2 : Mem), rec 5 v M = some (r, M2) → Con g l yX4_readOne cX4_readOne 2 (some .boolean) (rmL (d + 15)) [.ref (gA g 1 0), .int v] M (eI r) M2) (vq1 : Int32)  (k12 : Int32 → Mem → Option (Int32 × Mem)) (hk12 : ∀ (vq2 : Int32) (M : Mem), Sw g l x (FinQ g x eI) 3 0 0 12 [(0, .ref (gA g 1 0)), (1, .int vq1), (2, .int vq2)] [] M (k12 vq2 M)) (vq2 : Int32) (M : Mem) : Sw g l x (FinQ g x eI) 3 0 0 12 [(0, .ref (gA g 1 0)), (1, .int vq1), (2, .int vq2)] [] M (fX4_readAnd_B12 rec vq1 k12 vq2 M) := by
  unfold fX4_readAnd_B12
  refine r_iload_n (pc := 12) ok 2 dX4_readAnd_12 rfl ?_
  refine r_sipush (pc := 13) ok 160 dX4_readAnd_13 (by decide) ?_
  refine r_icmp_ge (pc := 16) ok 54 dX4_readAnd_16 (by decide) (fun _ => ?_) (fun _ => ?_)
  · refine r_iconst (pc := 54) ok 1 dX4_readAnd_54 (by decide) ?_
    exact r_zret (pc := 55) ok (Nat.zero_le _) (Nat.zero_le _) rfl rfl dX4_readAnd_55
  · refine r_aload_n (pc := 19) ok 0 dX4_readAnd_19 rfl ?_
    refine r_getI (pc := 20) ok fi_1_5 (by decide) fl_X4_41 dX4_readAnd_20 ?_
    refine r_bipush (pc := 23) ok 8 dX4_readAnd_23 (by decide) ?_
    refine r_icmp_ne (pc := 25) ok 54 dX4_readAnd_25 (by decide) (fun _ => ?_) (fun _ => ?_)
    · refine r_aload_n (pc := 28) ok 0 dX4_readAnd_28 rfl ?_
      refine r_callV0 (pc := 29) ok [] [] 9 (fun rZ MZ hZ => con_X4_advance g l  _ rZ MZ hZ) cv_X4_31 ok_1 (rmOk_L (by omega) (by decide)) dX4_readAnd_29 rfl rfl (Nat.le_of_ble_eq_true rfl) (fun r3 M4 => ?_)
      refine r_aload_n (pc := 32) ok 0 dX4_readAnd_32 rfl ?_
      refine r_iload_n (pc := 33) ok 1 dX4_readAnd_33 rfl ?_
      refine r_callV0 (pc := 34) ok [.int vq1] [] (d + 15) (fun rZ MZ hZ => hr2 _ _ rZ MZ hZ) cv_X4_51 ok_1 (rmOk_L (by omega) (by decide)) dX4_readAnd_34 rfl rfl (Nat.le_of_ble_eq_true rfl) (fun r5 M6 => ?_)
      refine r_if_ne (pc := 37) ok 42 dX4_readAnd_37 (by decide) (fun _ => ?_) (fun _ => ?_)
      · refine r_iconst (pc := 40) ok 0 dX4_readAnd_40 (by decide) ?_
        exact r_zret (pc := 41) ok (Nat.zero_le _) (Nat.zero_le _) rfl rfl dX4_readAnd_41
      · refine r_aload_n (pc := 42) ok 0 dX4_readAnd_42 rfl ?_
        refine r_bipush (pc := 43) ok (-8) dX4_readAnd_43 (by decide) ?_
        refine r_callV0 (pc := 45) ok [.int (-8)] [] 2 (fun rZ MZ hZ => con_X4_emit g l (-8) _ rZ MZ hZ) cv_X4_47 ok_1 (rmOk_L (by omega) (by decide)) dX4_readAnd_45 rfl rfl (Nat.le_of_ble_eq_true rfl) (fun r7 M8 => ?_)
        refine r_iinc (pc := 48) ok 2 (vq2 + 1) [(2, .int (vq2 + 1)), (0, .ref (gA g 1 0)), (1, .int vq1)] dX4_readAnd_48 rfl (congrArg (fun z => vq2 + z) (by decide : Int32.ofInt 1 = (1 : Int32))) (by decide) rfl ?_
        refine r_goto (pc := 51) ok 12 dX4_readAnd_51 (by decide) ?_
        refine r_lv [1, 2, 0] [(0, .ref (gA g 1 0)), (1, .int vq1), (2, .int (vq2 + 1))] rfl ?_
        exact hk12 (vq2 + 1) M8
    · refine r_iconst (pc := 54) ok 1 dX4_readAnd_54 (by decide) ?_
      exact r_zret (pc := 55) ok (Nat.zero_le _) (Nat.zero_le _) rfl rfl dX4_readAnd_55
theorem sX4_readAnd_L12 {g : GP} {l : Launch} {x : CT} {d : Nat} {rec : Nat → Int32 → Mem → Option (Int32 × Mem)} (ok : Ok g l x RX4 cX4_readAnd 3 (some FieldType.boolean) (rmL (d + 16))) (hr0 : ∀ (v : Int32) (M : Mem) (r : Int32) (M2 : Mem), rec 0 v M = some (r, M2) → Con g l yX4_readOr cX4_readOr 3 (some .boolean) (rmL (d + 15)) [.ref (gA g 1 0), .int v] M (eI r) M2) (hr1 : ∀ (v : Int32) (M : Mem) (r : Int32) (M2 : Mem), rec 1 v M = some (r, M2) → Con g l yX4_readAnd cX4_readAnd 3 (some .boolean) (rmL (d + 15)) [.ref (gA g 1 0), .int v] M (eI r) M2) (hr2 : ∀ (v : Int32) (M : Mem) (r : Int32) (M2 : Mem), rec 2 v M = some (r, M2) → Con g l yX4_readNot cX4_readNot 3 (some .boolean) (rmL (d + 15)) [.ref (gA g 1 0), .int v] M (eI r) M2) (hr3 : ∀ (v : Int32) (M : Mem) (r : Int32) (M2 : Mem), rec 3 v M = some (r, M2) → Con g l yX4_readSum cX4_readSum 4 (some .boolean) (rmL (d + 15)) [.ref (gA g 1 0), .int v] M (eI r) M2) (hr4 : ∀ (v : Int32) (M : Mem) (r : Int32) (M2 : Mem), rec 4 v M = some (r, M2) → Con g l yX4_readTerm cX4_readTerm 3 (some .boolean) (rmL (d + 15)) [.ref (gA g 1 0), .int v] M (eI r) M2) (hr5 : ∀ (v : Int32) (M : Mem) (r : Int32) (M2 : Mem), rec 5 v M = some (r, M2) → Con g l yX4_readOne cX4_readOne 2 (some .boolean) (rmL (d + 15)) [.ref (gA g 1 0), .int v] M (eI r) M2) (vq1 : Int32)  : ∀ (n : Nat) (vq2 : Int32) (M : Mem), Sw g l x (FinQ g x eI) 3 0 0 12 [(0, .ref (gA g 1 0)), (1, .int vq1), (2, .int vq2)] [] M (fX4_readAnd_L12 rec vq1 n vq2 M) := by
  intro n
  induction n with
  | zero => intros; exact r_none
  | succ n ih => intro vq2 M; exact sX4_readAnd_B12 ok hr0 hr1 hr2 hr3 hr4 hr5 vq1  _ ih vq2 M
def fX4_readAnd_b (rec : Nat → Int32 → Mem → Option (Int32 × Mem)) (vq1 : Int32) (M : Mem) : Option (Int32 × Mem) :=
  ob (rec 2 vq1 M) fun r1 M2 =>
  if r1 = 0 then
    (some (0, M2))
  else
    (fX4_readAnd_L12 rec vq1 FU 0 M2)
set_option maxRecDepth 20000 in
theorem wX4_readAnd_b {g : GP} {l : Launch} {x : CT} {d : Nat} {rec : Nat → Int32 → Mem → Option (Int32 × Mem)} (ok : Ok g l x RX4 cX4_readAnd 3 (some FieldType.boolean) (rmL (d + 16))) (hr0 : ∀ (v : Int32) (M : Mem) (r : Int32) (M2 : Mem), rec 0 v M = some (r, M2) → Con g l yX4_readOr cX4_readOr 3 (some .boolean) (rmL (d + 15)) [.ref (gA g 1 0), .int v] M (eI r) M2) (hr1 : ∀ (v : Int32) (M : Mem) (r : Int32) (M2 : Mem), rec 1 v M = some (r, M2) → Con g l yX4_readAnd cX4_readAnd 3 (some .boolean) (rmL (d + 15)) [.ref (gA g 1 0), .int v] M (eI r) M2) (hr2 : ∀ (v : Int32) (M : Mem) (r : Int32) (M2 : Mem), rec 2 v M = some (r, M2) → Con g l yX4_readNot cX4_readNot 3 (some .boolean) (rmL (d + 15)) [.ref (gA g 1 0), .int v] M (eI r) M2) (hr3 : ∀ (v : Int32) (M : Mem) (r : Int32) (M2 : Mem), rec 3 v M = some (r, M2) → Con g l yX4_readSum cX4_readSum 4 (some .boolean) (rmL (d + 15)) [.ref (gA g 1 0), .int v] M (eI r) M2) (hr4 : ∀ (v : Int32) (M : Mem) (r : Int32) (M2 : Mem), rec 4 v M = some (r, M2) → Con g l yX4_readTerm cX4_readTerm 3 (some .boolean) (rmL (d + 15)) [.ref (gA g 1 0), .int v] M (eI r) M2) (hr5 : ∀ (v : Int32) (M : Mem) (r : Int32) (M2 : Mem), rec 5 v M = some (r, M2) → Con g l yX4_readOne cX4_readOne 2 (some .boolean) (rmL (d + 15)) [.ref (gA g 1 0), .int v] M (eI r) M2) (vq1 : Int32)  (M : Mem) : Sw g l x (FinQ g x eI) 3 0 0 0 [(0, .ref (gA g 1 0)), (1, .int vq1)] [] M (fX4_readAnd_b rec vq1 M) := by
  unfold fX4_readAnd_b
  refine r_aload_n (pc := 0) ok 0 dX4_readAnd_0 rfl ?_
  refine r_iload_n (pc := 1) ok 1 dX4_readAnd_1 rfl ?_
  refine r_callV0 (pc := 2) ok [.int vq1] [] (d + 15) (fun rZ MZ hZ => hr2 _ _ rZ MZ hZ) cv_X4_51 ok_1 (rmOk_L (by omega) (by decide)) dX4_readAnd_2 rfl rfl (Nat.le_of_ble_eq_true rfl) (fun r1 M2 => ?_)
  refine r_if_ne (pc := 5) ok 10 dX4_readAnd_5 (by decide) (fun _ => ?_) (fun _ => ?_)
  · refine r_iconst (pc := 8) ok 0 dX4_readAnd_8 (by decide) ?_
    exact r_zret (pc := 9) ok (Nat.zero_le _) (Nat.zero_le _) rfl rfl dX4_readAnd_9
  · refine r_iconst (pc := 10) ok 0 dX4_readAnd_10 (by decide) ?_
    refine r_istore_n (pc := 11) ok [(2, .int 0), (0, .ref (gA g 1 0)), (1, .int vq1)] dX4_readAnd_11 rfl (by decide) rfl ?_
    refine r_lv [1, 2, 0] [(0, .ref (gA g 1 0)), (1, .int vq1), (2, .int 0)] rfl ?_
    exact sX4_readAnd_L12 ok hr0 hr1 hr2 hr3 hr4 hr5 vq1 FU 0 M2
def fX4_readNot_J68 (rec : Nat → Int32 → Mem → Option (Int32 × Mem)) (vq1 : Int32) (M : Mem) : Option (Int32 × Mem) :=
  lt (M 1 0 5) fun w3 =>
  ob (fX4_advance M) fun r4 M5 =>
  ob (rec 3 vq1 M5) fun r6 M7 =>
  if r6 = 0 then
    (some (0, M7))
  else
    (ob (fX4_emit (-w3) M7) fun r8 M9 =>
    some (1, M9))
set_option maxRecDepth 20000 in
theorem sX4_readNot_J68 {g : GP} {l : Launch} {x : CT} {d : Nat} {rec : Nat → Int32 → Mem → Option (Int32 × Mem)} (ok : Ok g l x RX4 cX4_readNot 3 (some FieldType.boolean) (rmL (d + 16))) (hr0 : ∀ (v : Int32) (M : Mem) (r : Int32) (M2 : Mem), rec 0 v M = some (r, M2) → Con g l yX4_readOr cX4_readOr 3 (some .boolean) (rmL (d + 15)) [.ref (gA g 1 0), .int v] M (eI r) M2) (hr1 : ∀ (v : Int32) (M : Mem) (r : Int32) (M2 : Mem), rec 1 v M = some (r, M2) → Con g l yX4_readAnd cX4_readAnd 3 (some .boolean) (rmL (d + 15)) [.ref (gA g 1 0), .int v] M (eI r) M2) (hr2 : ∀ (v : Int32) (M : Mem) (r : Int32) (M2 : Mem), rec 2 v M = some (r, M2) → Con g l yX4_readNot cX4_readNot 3 (some .boolean) (rmL (d + 15)) [.ref (gA g 1 0), .int v] M (eI r) M2) (hr3 : ∀ (v : Int32) (M : Mem) (r : Int32) (M2 : Mem), rec 3 v M = some (r, M2) → Con g l yX4_readSum cX4_readSum 4 (some .boolean) (rmL (d + 15)) [.ref (gA g 1 0), .int v] M (eI r) M2) (hr4 : ∀ (v : Int32) (M : Mem) (r : Int32) (M2 : Mem), rec 4 v M = some (r, M2) → Con g l yX4_readTerm cX4_readTerm 3 (some .boolean) (rmL (d + 15)) [.ref (gA g 1 0), .int v] M (eI r) M2) (hr5 : ∀ (v : Int32) (M : Mem) (r : Int32) (M2 : Mem), rec 5 v M = some (r, M2) → Con g l yX4_readOne cX4_readOne 2 (some .boolean) (rmL (d + 15)) [.ref (gA g 1 0), .int v] M (eI r) M2) (vq1 : Int32)  (M : Mem) : Sw g l x (FinQ g x eI) 3 0 0 68 [(0, .ref (gA g 1 0)), (1, .int vq1)] [] M (fX4_readNot_J68 rec vq1 M) := by
  unfold fX4_readNot_J68
  refine r_aload_n (pc := 68) ok 0 dX4_readNot_68 rfl ?_
  refine r_getI (pc := 69) ok fi_1_5 (by decide) fl_X4_41 dX4_readNot_69 ?_
  refine r_nmi (fun w3 => ?_)
  refine r_istore_n (pc := 72) ok [(2, .int w3), (0, .ref (gA g 1 0)), (1, .int vq1)] dX4_readNot_72 rfl (by decide) rfl ?_
  refine r_aload_n (pc := 73) ok 1 dX4_readNot_73 rfl ?_
  refine r_callV0 (pc := 74) ok [] [] 9 (fun rZ MZ hZ => con_X4_advance g l  _ rZ MZ hZ) cv_X4_31 ok_1 (rmOk_L (by omega) (by decide)) dX4_readNot_74 rfl rfl (Nat.le_of_ble_eq_true rfl) (fun r4 M5 => ?_)
  refine r_aload_n (pc := 77) ok 1 dX4_readNot_77 rfl ?_
  refine r_iload_n (pc := 78) ok 2 dX4_readNot_78 rfl ?_
  refine r_callV0 (pc := 79) ok [.int vq1] [] (d + 15) (fun rZ MZ hZ => hr3 _ _ rZ MZ hZ) cv_X4_54 ok_1 (rmOk_L (by omega) (by decide)) dX4_readNot_79 rfl rfl (Nat.le_of_ble_eq_true rfl) (fun r6 M7 => ?_)
  refine r_if_ne (pc := 82) ok 87 dX4_readNot_82 (by decide) (fun _ => ?_) (fun _ => ?_)
  · refine r_iconst (pc := 85) ok 0 dX4_readNot_85 (by decide) ?_
    exact r_zret (pc := 86) ok (Nat.zero_le _) (Nat.zero_le _) rfl rfl dX4_readNot_86
  · refine r_aload_n (pc := 87) ok 1 dX4_readNot_87 rfl ?_
    refine r_iload_n (pc := 88) ok 0 dX4_readNot_88 rfl ?_
    refine r_ineg (pc := 89) ok dX4_readNot_89 ?_
    refine r_callV0 (pc := 90) ok [.int (-w3)] [] 2 (fun rZ MZ hZ => con_X4_emit g l (-w3) _ rZ MZ hZ) cv_X4_47 ok_1 (rmOk_L (by omega) (by decide)) dX4_readNot_90 rfl rfl (Nat.le_of_ble_eq_true rfl) (fun r8 M9 => ?_)
    refine r_iconst (pc := 93) ok 1 dX4_readNot_93 (by decide) ?_
    exact r_zret (pc := 94) ok (Nat.zero_le _) (Nat.zero_le _) rfl rfl dX4_readNot_94
def fX4_readNot_b (rec : Nat → Int32 → Mem → Option (Int32 × Mem)) (vq1 : Int32) (M : Mem) : Option (Int32 × Mem) :=
  if (M 1 0 5) = 9 then
    (if vq1 < 5 then
      (ob (fX4_advance M) fun r10 M11 =>
      ob (rec 2 (vq1 + 1) M11) fun r12 M13 =>
      if r12 = 0 then
        (some (0, M13))
      else
        (ob (fX4_emit (-9) M13) fun r14 M15 =>
        some (1, M15)))
    else
      (some (0, M)))
  else
    (ob (rec 3 vq1 M) fun r1 M2 =>
    if r1 = 0 then
      (some (0, M2))
    else
      (if (M2 1 0 5) = 60 then
        (fX4_readNot_J68 rec vq1 M2)
      else
        (if (M2 1 0 5) = 61 then
          (fX4_readNot_J68 rec vq1 M2)
        else
          (some (1, M2)))))
set_option maxRecDepth 20000 in
theorem wX4_readNot_b {g : GP} {l : Launch} {x : CT} {d : Nat} {rec : Nat → Int32 → Mem → Option (Int32 × Mem)} (ok : Ok g l x RX4 cX4_readNot 3 (some FieldType.boolean) (rmL (d + 16))) (hr0 : ∀ (v : Int32) (M : Mem) (r : Int32) (M2 : Mem), rec 0 v M = some (r, M2) → Con g l yX4_readOr cX4_readOr 3 (some .boolean) (rmL (d + 15)) [.ref (gA g 1 0), .int v] M (eI r) M2) (hr1 : ∀ (v : Int32) (M : Mem) (r : Int32) (M2 : Mem), rec 1 v M = some (r, M2) → Con g l yX4_readAnd cX4_readAnd 3 (some .boolean) (rmL (d + 15)) [.ref (gA g 1 0), .int v] M (eI r) M2) (hr2 : ∀ (v : Int32) (M : Mem) (r : Int32) (M2 : Mem), rec 2 v M = some (r, M2) → Con g l yX4_readNot cX4_readNot 3 (some .boolean) (rmL (d + 15)) [.ref (gA g 1 0), .int v] M (eI r) M2) (hr3 : ∀ (v : Int32) (M : Mem) (r : Int32) (M2 : Mem), rec 3 v M = some (r, M2) → Con g l yX4_readSum cX4_readSum 4 (some .boolean) (rmL (d + 15)) [.ref (gA g 1 0), .int v] M (eI r) M2) (hr4 : ∀ (v : Int32) (M : Mem) (r : Int32) (M2 : Mem), rec 4 v M = some (r, M2) → Con g l yX4_readTerm cX4_readTerm 3 (some .boolean) (rmL (d + 15)) [.ref (gA g 1 0), .int v] M (eI r) M2) (hr5 : ∀ (v : Int32) (M : Mem) (r : Int32) (M2 : Mem), rec 5 v M = some (r, M2) → Con g l yX4_readOne cX4_readOne 2 (some .boolean) (rmL (d + 15)) [.ref (gA g 1 0), .int v] M (eI r) M2) (vq1 : Int32)  (M : Mem) : Sw g l x (FinQ g x eI) 3 0 0 0 [(0, .ref (gA g 1 0)), (1, .int vq1)] [] M (fX4_readNot_b rec vq1 M) := by
  unfold fX4_readNot_b
  refine r_aload_n (pc := 0) ok 0 dX4_readNot_0 rfl ?_
  refine r_getI (pc := 1) ok fi_1_5 (by decide) fl_X4_41 dX4_readNot_1 ?_
  refine r_bipush (pc := 4) ok 9 dX4_readNot_4 (by decide) ?_
  refine r_icmp_ne (pc := 6) ok 40 dX4_readNot_6 (by decide) (fun _ => ?_) (fun _ => ?_)
  · refine r_iload_n (pc := 9) ok 1 dX4_readNot_9 rfl ?_
    refine r_iconst (pc := 10) ok 5 dX4_readNot_10 (by decide) ?_
    refine r_icmp_lt (pc := 11) ok 16 dX4_readNot_11 (by decide) (fun _ => ?_) (fun _ => ?_)
    · refine r_aload_n (pc := 16) ok 0 dX4_readNot_16 rfl ?_
      refine r_callV0 (pc := 17) ok [] [] 9 (fun rZ MZ hZ => con_X4_advance g l  _ rZ MZ hZ) cv_X4_31 ok_1 (rmOk_L (by omega) (by decide)) dX4_readNot_17 rfl rfl (Nat.le_of_ble_eq_true rfl) (fun r10 M11 => ?_)
      refine r_aload_n (pc := 20) ok 0 dX4_readNot_20 rfl ?_
      refine r_iload_n (pc := 21) ok 1 dX4_readNot_21 rfl ?_
      refine r_iconst (pc := 22) ok 1 dX4_readNot_22 (by decide) ?_
      refine r_iadd (pc := 23) ok dX4_readNot_23 ?_
      refine r_callV0 (pc := 24) ok [.int (vq1 + 1)] [] (d + 15) (fun rZ MZ hZ => hr2 _ _ rZ MZ hZ) cv_X4_51 ok_1 (rmOk_L (by omega) (by decide)) dX4_readNot_24 rfl rfl (Nat.le_of_ble_eq_true rfl) (fun r12 M13 => ?_)
      refine r_if_ne (pc := 27) ok 32 dX4_readNot_27 (by decide) (fun _ => ?_) (fun _ => ?_)
      · refine r_iconst (pc := 30) ok 0 dX4_readNot_30 (by decide) ?_
        exact r_zret (pc := 31) ok (Nat.zero_le _) (Nat.zero_le _) rfl rfl dX4_readNot_31
      · refine r_aload_n (pc := 32) ok 0 dX4_readNot_32 rfl ?_
        refine r_bipush (pc := 33) ok (-9) dX4_readNot_33 (by decide) ?_
        refine r_callV0 (pc := 35) ok [.int (-9)] [] 2 (fun rZ MZ hZ => con_X4_emit g l (-9) _ rZ MZ hZ) cv_X4_47 ok_1 (rmOk_L (by omega) (by decide)) dX4_readNot_35 rfl rfl (Nat.le_of_ble_eq_true rfl) (fun r14 M15 => ?_)
        refine r_iconst (pc := 38) ok 1 dX4_readNot_38 (by decide) ?_
        exact r_zret (pc := 39) ok (Nat.zero_le _) (Nat.zero_le _) rfl rfl dX4_readNot_39
    · refine r_iconst (pc := 14) ok 0 dX4_readNot_14 (by decide) ?_
      exact r_zret (pc := 15) ok (Nat.zero_le _) (Nat.zero_le _) rfl rfl dX4_readNot_15
  · refine r_aload_n (pc := 40) ok 0 dX4_readNot_40 rfl ?_
    refine r_iload_n (pc := 41) ok 1 dX4_readNot_41 rfl ?_
    refine r_callV0 (pc := 42) ok [.int vq1] [] (d + 15) (fun rZ MZ hZ => hr3 _ _ rZ MZ hZ) cv_X4_54 ok_1 (rmOk_L (by omega) (by decide)) dX4_readNot_42 rfl rfl (Nat.le_of_ble_eq_true rfl) (fun r1 M2 => ?_)
    refine r_if_ne (pc := 45) ok 50 dX4_readNot_45 (by decide) (fun _ => ?_) (fun _ => ?_)
    · refine r_iconst (pc := 48) ok 0 dX4_readNot_48 (by decide) ?_
      exact r_zret (pc := 49) ok (Nat.zero_le _) (Nat.zero_le _) rfl rfl dX4_readNot_49
    · refine r_aload_n (pc := 50) ok 0 dX4_readNot_50 rfl ?_
      refine r_getI (pc := 51) ok fi_1_5 (by decide) fl_X4_41 dX4_readNot_51 ?_
      refine r_bipush (pc := 54) ok 60 dX4_readNot_54 (by decide) ?_
      refine r_icmp_eq (pc := 56) ok 68 dX4_readNot_56 (by decide) (fun _ => ?_) (fun _ => ?_)
      · refine r_lv [0, 1] [(0, .ref (gA g 1 0)), (1, .int vq1)] rfl ?_
        exact sX4_readNot_J68 ok hr0 hr1 hr2 hr3 hr4 hr5 vq1 M2
      · refine r_aload_n (pc := 59) ok 0 dX4_readNot_59 rfl ?_
        refine r_getI (pc := 60) ok fi_1_5 (by decide) fl_X4_41 dX4_readNot_60 ?_
        refine r_bipush (pc := 63) ok 61 dX4_readNot_63 (by decide) ?_
        refine r_icmp_ne (pc := 65) ok 93 dX4_readNot_65 (by decide) (fun _ => ?_) (fun _ => ?_)
        · refine r_lv [0, 1] [(0, .ref (gA g 1 0)), (1, .int vq1)] rfl ?_
          exact sX4_readNot_J68 ok hr0 hr1 hr2 hr3 hr4 hr5 vq1 M2
        · refine r_iconst (pc := 93) ok 1 dX4_readNot_93 (by decide) ?_
          exact r_zret (pc := 94) ok (Nat.zero_le _) (Nat.zero_le _) rfl rfl dX4_readNot_94
