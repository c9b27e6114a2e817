def fX11_put_J61 (vq1 : Int32) (vq2 : Int32) (vq3 : Int32) (s0 : Int32) (M : Mem) : Option (Int32 × Mem) :=
  if vq2 = 0 then
    (gd (inb vq1 6)
    (lt (mst M 25 0 vq1.toNatClampNeg vq3) fun M8 =>
    some (s0, M8)))
  else
    (gd (inb vq1 6)
    (lt (mst M 26 0 vq1.toNatClampNeg vq3) fun M7 =>
    some (s0, M7)))
set_option maxRecDepth 20000 in
theorem sX11_put_J61 {g : GP} {l : Launch} {x : CT} (ok : Ok g l x RX11 cX11_put 5 (some FieldType.int) (rmL 4)) (vq1 : Int32) (vq2 : Int32) (vq3 : Int32) (s0 : Int32)  (M : Mem) : Sw g l x (FinQ g x eI) 5 0 0 61 [(0, .ref (gA g 22 0)), (1, .int vq1), (2, .int vq2), (3, .int vq3)] [.int s0] M (fX11_put_J61 vq1 vq2 vq3 s0 M) := by
  unfold fX11_put_J61
  refine r_istore (pc := 61) ok [(4, .int s0), (0, .ref (gA g 22 0)), (1, .int vq1), (2, .int vq2), (3, .int vq3)] dX11_put_61 (by decide) rfl ?_
  refine r_iload_n (pc := 63) ok 3 dX11_put_63 rfl ?_
  refine r_if_ne (pc := 64) ok 77 dX11_put_64 (by decide) (fun _ => ?_) (fun _ => ?_)
  · refine r_aload_n (pc := 67) ok 1 dX11_put_67 rfl ?_
    refine r_getR (pc := 68) ok fr_22_3 (by decide) fl_X11_16 dX11_put_68 ?_
    refine r_iload_n (pc := 71) ok 2 dX11_put_71 rfl ?_
    refine r_iload_n (pc := 72) ok 4 dX11_put_72 rfl ?_
    refine r_iast (pc := 73) ok ik_25 (by decide) dX11_put_73 ?_
    refine r_nmM (fun M8 => ?_)
    refine r_goto (pc := 74) ok 84 dX11_put_74 (by decide) ?_
    refine r_iload (pc := 84) ok 0 dX11_put_84 rfl ?_
    exact r_iret (pc := 86) ok (Nat.zero_le _) (Nat.zero_le _) rfl dX11_put_86
  · refine r_aload_n (pc := 77) ok 1 dX11_put_77 rfl ?_
    refine r_getR (pc := 78) ok fr_22_4 (by decide) fl_X11_19 dX11_put_78 ?_
    refine r_iload_n (pc := 81) ok 2 dX11_put_81 rfl ?_
    refine r_iload_n (pc := 82) ok 4 dX11_put_82 rfl ?_
    refine r_iast (pc := 83) ok ik_26 (by decide) dX11_put_83 ?_
    refine r_nmM (fun M7 => ?_)
    refine r_iload (pc := 84) ok 0 dX11_put_84 rfl ?_
    exact r_iret (pc := 86) ok (Nat.zero_le _) (Nat.zero_le _) rfl dX11_put_86
def fX11_put_J33 (vq1 : Int32) (vq2 : Int32) (vq3 : Int32) (s0 : Int32) (s1 : Int32) (s2 : Int32) (M : Mem) : Option (Int32 × Mem) :=
  ob (fX11_in s2 s1 s0 M) fun r5 M6 =>
  if r5 = 0 then
    (some (-7, M6))
  else
    (if vq2 = 0 then
      (gd (inb vq1 6)
      (fX11_put_J61 vq1 vq2 vq3 (M6 25 0 vq1.toNatClampNeg) M6))
    else
      (gd (inb vq1 6)
      (fX11_put_J61 vq1 vq2 vq3 (M6 26 0 vq1.toNatClampNeg) M6)))
set_option maxRecDepth 20000 in
theorem sX11_put_J33 {g : GP} {l : Launch} {x : CT} (ok : Ok g l x RX11 cX11_put 5 (some FieldType.int) (rmL 4)) (vq1 : Int32) (vq2 : Int32) (vq3 : Int32) (s0 : Int32) (s1 : Int32) (s2 : Int32)  (M : Mem) : Sw g l x (FinQ g x eI) 5 0 0 33 [(0, .ref (gA g 22 0)), (1, .int vq1), (2, .int vq2), (3, .int vq3)] [.int s0, .int s1, .int s2] M (fX11_put_J33 vq1 vq2 vq3 s0 s1 s2 M) := by
  unfold fX11_put_J33
  refine r_callS0 (pc := 33) ok [.int s2, .int s1, .int s0] [] 2 (fun rZ MZ hZ => con_X11_in g l s2 s1 s0 _ rZ MZ hZ) cs_X11_84 (rmOk_L (by decide) (by decide)) dX11_put_33 rfl rfl (Nat.le_of_ble_eq_true rfl) (fun r5 M6 => ?_)
  refine r_if_ne (pc := 36) ok 42 dX11_put_36 (by decide) (fun _ => ?_) (fun _ => ?_)
  · refine r_bipush (pc := 39) ok (-7) dX11_put_39 (by decide) ?_
    exact r_iret (pc := 41) ok (Nat.zero_le _) (Nat.zero_le _) rfl dX11_put_41
  · refine r_iload_n (pc := 42) ok 2 dX11_put_42 rfl ?_
    refine r_if_ne (pc := 43) ok 55 dX11_put_43 (by decide) (fun _ => ?_) (fun _ => ?_)
    · refine r_aload_n (pc := 46) ok 0 dX11_put_46 rfl ?_
      refine r_getR (pc := 47) ok fr_22_3 (by decide) fl_X11_16 dX11_put_47 ?_
      refine r_iload_n (pc := 50) ok 1 dX11_put_50 rfl ?_
      refine r_iald (pc := 51) ok ik_25 (by decide) dX11_put_51 (fun _ => ?_)
      refine r_goto (pc := 52) ok 61 dX11_put_52 (by decide) ?_
      refine r_lv [0, 1, 2, 3] [(0, .ref (gA g 22 0)), (1, .int vq1), (2, .int vq2), (3, .int vq3)] rfl ?_
      exact sX11_put_J61 ok vq1 vq2 vq3 (M6 25 0 vq1.toNatClampNeg) M6
    · refine r_aload_n (pc := 55) ok 0 dX11_put_55 rfl ?_
      refine r_getR (pc := 56) ok fr_22_4 (by decide) fl_X11_19 dX11_put_56 ?_
      refine r_iload_n (pc := 59) ok 1 dX11_put_59 rfl ?_
      refine r_iald (pc := 60) ok ik_26 (by decide) dX11_put_60 (fun _ => ?_)
      refine r_lv [0, 1, 2, 3] [(0, .ref (gA g 22 0)), (1, .int vq1), (2, .int vq2), (3, .int vq3)] rfl ?_
      exact sX11_put_J61 ok vq1 vq2 vq3 (M6 26 0 vq1.toNatClampNeg) M6
def fX11_put (vq1 : Int32) (vq2 : Int32) (vq3 : Int32) (M : Mem) : Option (Int32 × Mem) :=
  ob (fX11_isOne vq1 M) fun r1 M2 =>
  if r1 = 0 then
    (some (-5, M2))
  else
    (ob (fX11_in vq2 0 1 M2) fun r3 M4 =>
    if r3 = 0 then
      (some (-7, M4))
    else
      (if vq2 = 0 then
        (fX11_put_J33 vq1 vq2 vq3 35 0 vq3 M4)
      else
        (fX11_put_J33 vq1 vq2 vq3 99 0 vq3 M4)))
set_option maxRecDepth 20000 in
theorem wX11_put {g : GP} {l : Launch} {x : CT} (ok : Ok g l x RX11 cX11_put 5 (some FieldType.int) (rmL 4)) (vq1 : Int32) (vq2 : Int32) (vq3 : Int32)  (M : Mem) : Sw g l x (FinQ g x eI) 5 0 0 0 [(0, .ref (gA g 22 0)), (1, .int vq1), (2, .int vq2), (3, .int vq3)] [] M (fX11_put vq1 vq2 vq3 M) := by
  unfold fX11_put
  refine r_aload_n (pc := 0) ok 0 dX11_put_0 rfl ?_
  refine r_iload_n (pc := 1) ok 1 dX11_put_1 rfl ?_
  refine r_callV0 (pc := 2) ok [.int vq1] [] 3 (fun rZ MZ hZ => con_X11_isOne g l vq1 _ rZ MZ hZ) cv_X11_176 ok_22 (rmOk_L (by decide) (by decide)) dX11_put_2 rfl rfl (Nat.le_of_ble_eq_true rfl) (fun r1 M2 => ?_)
  refine r_if_ne (pc := 5) ok 11 dX11_put_5 (by decide) (fun _ => ?_) (fun _ => ?_)
  · refine r_bipush (pc := 8) ok (-5) dX11_put_8 (by decide) ?_
    exact r_iret (pc := 10) ok (Nat.zero_le _) (Nat.zero_le _) rfl dX11_put_10
  · refine r_iload_n (pc := 11) ok 2 dX11_put_11 rfl ?_
    refine r_iconst (pc := 12) ok 0 dX11_put_12 (by decide) ?_
    refine r_iconst (pc := 13) ok 1 dX11_put_13 (by decide) ?_
    refine r_callS0 (pc := 14) ok [.int vq2, .int 0, .int 1] [] 2 (fun rZ MZ hZ => con_X11_in g l vq2 0 1 _ rZ MZ hZ) cs_X11_84 (rmOk_L (by decide) (by decide)) dX11_put_14 rfl rfl (Nat.le_of_ble_eq_true rfl) (fun r3 M4 => ?_)
    refine r_if_eq (pc := 17) ok 39 dX11_put_17 (by decide) (fun _ => ?_) (fun _ => ?_)
    · refine r_bipush (pc := 39) ok (-7) dX11_put_39 (by decide) ?_
      exact r_iret (pc := 41) ok (Nat.zero_le _) (Nat.zero_le _) rfl dX11_put_41
    · refine r_iload_n (pc := 20) ok 3 dX11_put_20 rfl ?_
      refine r_iconst (pc := 21) ok 0 dX11_put_21 (by decide) ?_
      refine r_iload_n (pc := 22) ok 2 dX11_put_22 rfl ?_
      refine r_if_ne (pc := 23) ok 31 dX11_put_23 (by decide) (fun _ => ?_) (fun _ => ?_)
      · refine r_bipush (pc := 26) ok 35 dX11_put_26 (by decide) ?_
        refine r_goto (pc := 28) ok 33 dX11_put_28 (by decide) ?_
        refine r_lv [0, 1, 2, 3] [(0, .ref (gA g 22 0)), (1, .int vq1), (2, .int vq2), (3, .int vq3)] rfl ?_
        exact sX11_put_J33 ok vq1 vq2 vq3 35 0 vq3 M4
      · refine r_bipush (pc := 31) ok 99 dX11_put_31 (by decide) ?_
        refine r_lv [0, 1, 2, 3] [(0, .ref (gA g 22 0)), (1, .int vq1), (2, .int vq2), (3, .int vq3)] rfl ?_
        exact sX11_put_J33 ok vq1 vq2 vq3 99 0 vq3 M4
theorem con_X11_put (g : GP) (l : Launch) (vq1 : Int32) (vq2 : Int32) (vq3 : Int32)  (M : Mem) (r : Int32) (M2 : Mem) (h : fX11_put vq1 vq2 vq3 M = some (r, M2)) : Con g l yX11_put cX11_put 5 (some FieldType.int) (rmL 4) [.ref (gA g 22 0), .int vq1, .int vq2, .int vq3] M (eI r) M2 :=
  Con.of (own := RX11) (f := fX11_put vq1 vq2 vq3 M) (by decide) (Nat.le_of_ble_eq_true rfl) rfl (fun x ok => wX11_put ok vq1 vq2 vq3  M) r M2 h
def fX11_told (vq1 : Int32) (vq2 : Int32) (M : Mem) : Option (Int32 × Mem) :=
  ob (fX11_isOne vq1 M) fun r1 M2 =>
  if r1 = 0 then
    (some (-5, M2))
  else
    (if vq2 = 0 then
      (gd (inb vq1 6)
      (some (M2 25 0 vq1.toNatClampNeg, M2)))
    else
      (if vq2 = 1 then
        (gd (inb vq1 6)
        (some (M2 26 0 vq1.toNatClampNeg, M2)))
      else
        (if vq2 = 2 then
          (gd (inb vq1 6)
          (some (M2 23 0 vq1.toNatClampNeg, M2)))
        else
          (if vq2 = 3 then
            (gd (inb vq1 6)
            (some (M2 24 0 vq1.toNatClampNeg, M2)))
          else
            (some (-7, M2))))))
set_option maxRecDepth 20000 in
theorem wX11_told {g : GP} {l : Launch} {x : CT} (ok : Ok g l x RX11 cX11_told 3 (some FieldType.int) (rmL 4)) (vq1 : Int32) (vq2 : Int32)  (M : Mem) : Sw g l x (FinQ g x eI) 3 0 0 0 [(0, .ref (gA g 22 0)), (1, .int vq1), (2, .int vq2)] [] M (fX11_told vq1 vq2 M) := by
  unfold fX11_told
  refine r_aload_n (pc := 0) ok 0 dX11_told_0 rfl ?_
  refine r_iload_n (pc := 1) ok 1 dX11_told_1 rfl ?_
  refine r_callV0 (pc := 2) ok [.int vq1] [] 3 (fun rZ MZ hZ => con_X11_isOne g l vq1 _ rZ MZ hZ) cv_X11_176 ok_22 (rmOk_L (by decide) (by decide)) dX11_told_2 rfl rfl (Nat.le_of_ble_eq_true rfl) (fun r1 M2 => ?_)
  refine r_if_ne (pc := 5) ok 11 dX11_told_5 (by decide) (fun _ => ?_) (fun _ => ?_)
  · refine r_bipush (pc := 8) ok (-5) dX11_told_8 (by decide) ?_
    exact r_iret (pc := 10) ok (Nat.zero_le _) (Nat.zero_le _) rfl dX11_told_10
  · refine r_iload_n (pc := 11) ok 2 dX11_told_11 rfl ?_
    refine r_swc (pc := 12) ok (32) 44 dX11_told_12 (by decide +kernel) (by decide) (fun _ => ?_) (fun hs3 => ?_)
    · refine r_aload_n (pc := 44) ok 0 dX11_told_44 rfl ?_
      refine r_getR (pc := 45) ok fr_22_3 (by decide) fl_X11_16 dX11_told_45 ?_
      refine r_iload_n (pc := 48) ok 1 dX11_told_48 rfl ?_
      refine r_iald (pc := 49) ok ik_25 (by decide) dX11_told_49 (fun _ => ?_)
      exact r_iret (pc := 50) ok (Nat.zero_le _) (Nat.zero_le _) rfl dX11_told_50
    · refine r_swc (pc := 12) ok (39) 51 dX11_told_12 (by decide +kernel) (by decide) (fun _ => ?_) (fun hs4 => ?_)
      · refine r_aload_n (pc := 51) ok 0 dX11_told_51 rfl ?_
        refine r_getR (pc := 52) ok fr_22_4 (by decide) fl_X11_19 dX11_told_52 ?_
        refine r_iload_n (pc := 55) ok 1 dX11_told_55 rfl ?_
        refine r_iald (pc := 56) ok ik_26 (by decide) dX11_told_56 (fun _ => ?_)
        exact r_iret (pc := 57) ok (Nat.zero_le _) (Nat.zero_le _) rfl dX11_told_57
      · refine r_swc (pc := 12) ok (46) 58 dX11_told_12 (by decide +kernel) (by decide) (fun _ => ?_) (fun hs5 => ?_)
        · refine r_aload_n (pc := 58) ok 0 dX11_told_58 rfl ?_
          refine r_getR (pc := 59) ok fr_22_1 (by decide) fl_X11_7 dX11_told_59 ?_
          refine r_iload_n (pc := 62) ok 1 dX11_told_62 rfl ?_
          refine r_iald (pc := 63) ok ik_23 (by decide) dX11_told_63 (fun _ => ?_)
          exact r_iret (pc := 64) ok (Nat.zero_le _) (Nat.zero_le _) rfl dX11_told_64
        · refine r_swc (pc := 12) ok (53) 65 dX11_told_12 (by decide +kernel) (by decide) (fun _ => ?_) (fun hs6 => ?_)
          · refine r_aload_n (pc := 65) ok 0 dX11_told_65 rfl ?_
            refine r_getR (pc := 66) ok fr_22_2 (by decide) fl_X11_13 dX11_told_66 ?_
            refine r_iload_n (pc := 69) ok 1 dX11_told_69 rfl ?_
            refine r_iald (pc := 70) ok ik_24 (by decide) dX11_told_70 (fun _ => ?_)
            exact r_iret (pc := 71) ok (Nat.zero_le _) (Nat.zero_le _) rfl dX11_told_71
          · refine r_swd (pc := 12) ok 72 dX11_told_12 (by have := lv_neT hs3 (by decide : (0 : Int32).toInt = 0) ; have := lv_neT hs4 (by decide : (1 : Int32).toInt = 1) ; have := lv_neT hs5 (by decide : (2 : Int32).toInt = 2) ; have := lv_neT hs6 (by decide : (3 : Int32).toInt = 3) ; omega) (by decide) ?_
            refine r_bipush (pc := 72) ok (-7) dX11_told_72 (by decide) ?_
            exact r_iret (pc := 74) ok (Nat.zero_le _) (Nat.zero_le _) rfl dX11_told_74
theorem con_X11_told (g : GP) (l : Launch) (vq1 : Int32) (vq2 : Int32)  (M : Mem) (r : Int32) (M2 : Mem) (h : fX11_told vq1 vq2 M = some (r, M2)) : Con g l yX11_told cX11_told 3 (some FieldType.int) (rmL 4) [.ref (gA g 22 0), .int vq1, .int vq2] M (eI r) M2 :=
  Con.of (own := RX11) (f := fX11_told vq1 vq2 M) (by decide) (Nat.le_of_ble_eq_true rfl) rfl (fun x ok => wX11_told ok vq1 vq2  M) r M2 h
def fX11_walkWrong_J95 (k27 : Int32 → Mem → Option (Int32 × Mem)) (vq1 : Int32) (vq2 : Int32) (vq3 : Int32) (vq5 : Int32) (M : Mem) : Option (Int32 × Mem) :=
  if vq5 = 0 then
    (some (-2, M))
  else
    (k27 (vq3 + 1) M)
set_option maxRecDepth 20000 in
theorem sX11_walkWrong_J95 {g : GP} {l : Launch} {x : CT} {k27 : Int32 → Mem → Option (Int32 × Mem)} (ok : Ok g l x RX11 cX11_walkWrong 6 (some FieldType.int) (rmL 4)) (vq1 : Int32) (vq2 : Int32) (vq3 : Int32) (vq5 : Int32)  (hk27 : ∀ (vq3 : Int32) (M : Mem), Sw g l x (FinQ g x eI) 6 0 0 27 [(0, .ref (gA g 22 0)), (1, .int vq1), (2, .int vq2), (3, .int vq3)] [] M (k27 vq3 M)) (M : Mem) : Sw g l x (FinQ g x eI) 6 0 0 95 [(0, .ref (gA g 22 0)), (1, .int vq1), (2, .int vq2), (3, .int vq3), (5, .int vq5)] [] M (fX11_walkWrong_J95 k27 vq1 vq2 vq3 vq5 M) := by
  unfold fX11_walkWrong_J95
  refine r_iload (pc := 95) ok 4 dX11_walkWrong_95 rfl ?_
  refine r_if_ne (pc := 97) ok 103 dX11_walkWrong_97 (by decide) (fun _ => ?_) (fun _ => ?_)
  · refine r_bipush (pc := 100) ok (-2) dX11_walkWrong_100 (by decide) ?_
    exact r_iret (pc := 102) ok (Nat.zero_le _) (Nat.zero_le _) rfl dX11_walkWrong_102
  · refine r_iinc (pc := 103) ok 3 (vq3 + 1) [(3, .int (vq3 + 1)), (0, .ref (gA g 22 0)), (1, .int vq1), (2, .int vq2), (5, .int vq5)] dX11_walkWrong_103 rfl (congrArg (fun z => vq3 + z) (by decide : Int32.ofInt 1 = (1 : Int32))) (by decide) rfl ?_
    refine r_goto (pc := 106) ok 27 dX11_walkWrong_106 (by decide) ?_
    refine r_lv [1, 2, 3, 0] [(0, .ref (gA g 22 0)), (1, .int vq1), (2, .int vq2), (3, .int (vq3 + 1))] rfl ?_
    exact hk27 (vq3 + 1) M
def fX11_walkWrong_J93 (k27 : Int32 → Mem → Option (Int32 × Mem)) (vq1 : Int32) (vq2 : Int32) (vq3 : Int32) (s0 : Int32) (M : Mem) : Option (Int32 × Mem) :=
  fX11_walkWrong_J95 k27 vq1 vq2 vq3 s0 M
set_option maxRecDepth 20000 in
theorem sX11_walkWrong_J93 {g : GP} {l : Launch} {x : CT} {k27 : Int32 → Mem → Option (Int32 × Mem)} (ok : Ok g l x RX11 cX11_walkWrong 6 (some FieldType.int) (rmL 4)) (vq1 : Int32) (vq2 : Int32) (vq3 : Int32) (s0 : Int32)  (hk27 : ∀ (vq3 : Int32) (M : Mem), Sw g l x (FinQ g x eI) 6 0 0 27 [(0, .ref (gA g 22 0)), (1, .int vq1), (2, .int vq2), (3, .int vq3)] [] M (k27 vq3 M)) (M : Mem) : Sw g l x (FinQ g x eI) 6 0 0 93 [(0, .ref (gA g 22 0)), (1, .int vq1), (2, .int vq2), (3, .int vq3)] [.int s0] M (fX11_walkWrong_J93 k27 vq1 vq2 vq3 s0 M) := by
  unfold fX11_walkWrong_J93
  refine r_istore (pc := 93) ok [(5, .int s0), (0, .ref (gA g 22 0)), (1, .int vq1), (2, .int vq2), (3, .int vq3)] dX11_walkWrong_93 (by decide) rfl ?_
  refine r_lv [1, 2, 3, 4, 0] [(0, .ref (gA g 22 0)), (1, .int vq1), (2, .int vq2), (3, .int vq3), (5, .int s0)] rfl ?_
  exact sX11_walkWrong_J95 ok vq1 vq2 vq3 s0 hk27 M
def fX11_walkWrong_B27 (vq1 : Int32) (vq2 : Int32) (k27 : Int32 → Mem → Option (Int32 × Mem)) (vq3 : Int32) (M : Mem) : Option (Int32 × Mem) :=
  gd (inb vq1 4)
  (if (M 34 0 vq1.toNatClampNeg) ≤ vq3 then
    (ob (fX11_isOne vq2 M) fun r3 M4 =>
    if r3 = 0 then
      (some (-5, M4))
    else
      (some (0, M4)))
  else
    (gd (inb ((40 * vq1) + vq3) 160)
    (lt (M 35 0 ((40 * vq1) + vq3).toNatClampNeg) fun w5 =>
    ob (fX11_isCell w5 M) fun r6 M7 =>
    if r6 = 0 then
      (fX11_walkWrong_J95 k27 vq1 vq2 vq3 r6 M7)
    else
      (if vq3 ≤ 0 then
        (fX11_walkWrong_J95 k27 vq1 vq2 vq3 r6 M7)
      else
        (gd (inb (((40 * vq1) + vq3) - 1) 160)
        (ob (fX11_apart w5 (M7 35 0 (((40 * vq1) + vq3) - 1).toNatClampNeg) M7) fun r8 M9 =>
        if r8 = 1 then
          (fX11_walkWrong_J93 k27 vq1 vq2 vq3 1 M9)
        else
          (fX11_walkWrong_J93 k27 vq1 vq2 vq3 0 M9)))))))
def fX11_walkWrong_L27 (vq1 : Int32) (vq2 : Int32) : Nat → Int32 → Mem → Option (Int32 × Mem)
  | 0, _, _ => none
  | n + 1, vq3, M => fX11_walkWrong_B27 vq1 vq2 (fX11_walkWrong_L27 vq1 vq2 n) vq3 M
set_option maxRecDepth 20000 in
theorem sX11_walkWrong_B27 {g : GP} {l : Launch} {x : CT} (ok : Ok g l x RX11 cX11_walkWrong 6 (some FieldType.int) (rmL 4)) (vq1 : Int32) (vq2 : Int32)  (k27 : Int32 → Mem → Option (Int32 × Mem)) (hk27 : ∀ (vq3 : Int32) (M : Mem), Sw g l x (FinQ g x eI) 6 0 0 27 [(0, .ref (gA g 22 0)), (1, .int vq1), (2, .int vq2), (3, .int vq3)] [] M (k27 vq3 M)) (vq3 : Int32) (M : Mem) : Sw g l x (FinQ g x eI) 6 0 0 27 [(0, .ref (gA g 22 0)), (1, .int vq1), (2, .int vq2), (3, .int vq3)] [] M (fX11_walkWrong_B27 vq1 vq2 k27 vq3 M) := by
  unfold fX11_walkWrong_B27
  refine r_iload_n (pc := 27) ok 3 dX11_walkWrong_27 rfl ?_
  refine r_aload_n (pc := 28) ok 0 dX11_walkWrong_28 rfl ?_
  refine r_getR (pc := 29) ok fr_22_17 (by decide) fl_X11_43 dX11_walkWrong_29 ?_
  refine r_iload_n (pc := 32) ok 1 dX11_walkWrong_32 rfl ?_
  refine r_iald (pc := 33) ok ik_34 (by decide) dX11_walkWrong_33 (fun _ => ?_)
  refine r_icmp_ge (pc := 34) ok 109 dX11_walkWrong_34 (by decide) (fun _ => ?_) (fun _ => ?_)
  · refine r_aload_n (pc := 109) ok 0 dX11_walkWrong_109 rfl ?_
    refine r_iload_n (pc := 110) ok 2 dX11_walkWrong_110 rfl ?_
    refine r_callV0 (pc := 111) ok [.int vq2] [] 3 (fun rZ MZ hZ => con_X11_isOne g l vq2 _ rZ MZ hZ) cv_X11_176 ok_22 (rmOk_L (by decide) (by decide)) dX11_walkWrong_111 rfl rfl (Nat.le_of_ble_eq_true rfl) (fun r3 M4 => ?_)
    refine r_if_eq (pc := 114) ok 121 dX11_walkWrong_114 (by decide) (fun _ => ?_) (fun _ => ?_)
    · refine r_bipush (pc := 121) ok (-5) dX11_walkWrong_121 (by decide) ?_
      exact r_iret (pc := 123) ok (Nat.zero_le _) (Nat.zero_le _) rfl dX11_walkWrong_123
    · refine r_iconst (pc := 117) ok 0 dX11_walkWrong_117 (by decide) ?_
      refine r_goto (pc := 118) ok 123 dX11_walkWrong_118 (by decide) ?_
      exact r_iret (pc := 123) ok (Nat.zero_le _) (Nat.zero_le _) rfl dX11_walkWrong_123
  · refine r_aload_n (pc := 37) ok 0 dX11_walkWrong_37 rfl ?_
    refine r_getR (pc := 38) ok fr_22_18 (by decide) fl_X11_46 dX11_walkWrong_38 ?_
    refine r_bipush (pc := 41) ok 40 dX11_walkWrong_41 (by decide) ?_
    refine r_iload_n (pc := 43) ok 1 dX11_walkWrong_43 rfl ?_
    refine r_imul (pc := 44) ok dX11_walkWrong_44 ?_
    refine r_iload_n (pc := 45) ok 3 dX11_walkWrong_45 rfl ?_
    refine r_iadd (pc := 46) ok dX11_walkWrong_46 ?_
    refine r_iald (pc := 47) ok ik_35 (by decide) dX11_walkWrong_47 (fun _ => ?_)
    refine r_nmi (fun w5 => ?_)
    refine r_istore (pc := 48) ok [(4, .int w5), (0, .ref (gA g 22 0)), (1, .int vq1), (2, .int vq2), (3, .int vq3)] dX11_walkWrong_48 (by decide) rfl ?_
    refine r_iload (pc := 50) ok 0 dX11_walkWrong_50 rfl ?_
    refine r_callS0 (pc := 52) ok [.int w5] [] 3 (fun rZ MZ hZ => con_X11_isCell g l w5 _ rZ MZ hZ) cs_X11_104 (rmOk_L (by decide) (by decide)) dX11_walkWrong_52 rfl rfl (Nat.le_of_ble_eq_true rfl) (fun r6 M7 => ?_)
    refine r_istore (pc := 55) ok [(5, .int r6), (4, .int w5), (0, .ref (gA g 22 0)), (1, .int vq1), (2, .int vq2), (3, .int vq3)] dX11_walkWrong_55 (by decide) rfl ?_
    refine r_iload (pc := 57) ok 0 dX11_walkWrong_57 rfl ?_
    refine r_if_eq (pc := 59) ok 95 dX11_walkWrong_59 (by decide) (fun _ => ?_) (fun _ => ?_)
    · refine r_lv [2, 3, 4, 5, 0] [(0, .ref (gA g 22 0)), (1, .int vq1), (2, .int vq2), (3, .int vq3), (5, .int r6)] rfl ?_
      exact sX11_walkWrong_J95 ok vq1 vq2 vq3 r6 hk27 M7
    · refine r_iload_n (pc := 62) ok 5 dX11_walkWrong_62 rfl ?_
      refine r_if_le (pc := 63) ok 95 dX11_walkWrong_63 (by decide) (fun _ => ?_) (fun _ => ?_)
      · refine r_lv [2, 3, 4, 5, 0] [(0, .ref (gA g 22 0)), (1, .int vq1), (2, .int vq2), (3, .int vq3), (5, .int r6)] rfl ?_
        exact sX11_walkWrong_J95 ok vq1 vq2 vq3 r6 hk27 M7
      · refine r_iload (pc := 66) ok 1 dX11_walkWrong_66 rfl ?_
        refine r_aload_n (pc := 68) ok 2 dX11_walkWrong_68 rfl ?_
        refine r_getR (pc := 69) ok fr_22_18 (by decide) fl_X11_46 dX11_walkWrong_69 ?_
        refine r_bipush (pc := 72) ok 40 dX11_walkWrong_72 (by decide) ?_
        refine r_iload_n (pc := 74) ok 3 dX11_walkWrong_74 rfl ?_
        refine r_imul (pc := 75) ok dX11_walkWrong_75 ?_
        refine r_iload_n (pc := 76) ok 5 dX11_walkWrong_76 rfl ?_
        refine r_iadd (pc := 77) ok dX11_walkWrong_77 ?_
        refine r_iconst (pc := 78) ok 1 dX11_walkWrong_78 (by decide) ?_
        refine r_isub (pc := 79) ok dX11_walkWrong_79 ?_
        refine r_iald (pc := 80) ok ik_35 (by decide) dX11_walkWrong_80 (fun _ => ?_)
        refine r_callS0 (pc := 81) ok [.int w5, .int (M7 35 0 (((40 * vq1) + vq3) - 1).toNatClampNeg)] [] 3 (fun rZ MZ hZ => con_X11_apart g l w5 (M7 35 0 (((40 * vq1) + vq3) - 1).toNatClampNeg) _ rZ MZ hZ) cs_X11_182 (rmOk_L (by decide) (by decide)) dX11_walkWrong_81 rfl rfl (Nat.le_of_ble_eq_true rfl) (fun r8 M9 => ?_)
        refine r_iconst (pc := 84) ok 1 dX11_walkWrong_84 (by decide) ?_
        refine r_icmp_ne (pc := 85) ok 92 dX11_walkWrong_85 (by decide) (fun _ => ?_) (fun _ => ?_)
        · refine r_iconst (pc := 88) ok 1 dX11_walkWrong_88 (by decide) ?_
          refine r_goto (pc := 89) ok 93 dX11_walkWrong_89 (by decide) ?_
          refine r_lv [2, 3, 4, 5] [(0, .ref (gA g 22 0)), (1, .int vq1), (2, .int vq2), (3, .int vq3)] rfl ?_
          exact sX11_walkWrong_J93 ok vq1 vq2 vq3 1 hk27 M9
        · refine r_iconst (pc := 92) ok 0 dX11_walkWrong_92 (by decide) ?_
          refine r_lv [2, 3, 4, 5] [(0, .ref (gA g 22 0)), (1, .int vq1), (2, .int vq2), (3, .int vq3)] rfl ?_
          exact sX11_walkWrong_J93 ok vq1 vq2 vq3 0 hk27 M9
theorem sX11_walkWrong_L27 {g : GP} {l : Launch} {x : CT} (ok : Ok g l x RX11 cX11_walkWrong 6 (some FieldType.int) (rmL 4)) (vq1 : Int32) (vq2 : Int32)  : ∀ (n : Nat) (vq3 : Int32) (M : Mem), Sw g l x (FinQ g x eI) 6 0 0 27 [(0, .ref (gA g 22 0)), (1, .int vq1), (2, .int vq2), (3, .int vq3)] [] M (fX11_walkWrong_L27 vq1 vq2 n vq3 M) := by
  intro n
  induction n with
  | zero => intros; exact r_none
  | succ n ih => intro vq3 M; exact sX11_walkWrong_B27 ok vq1 vq2  _ ih vq3 M
def fX11_walkWrong (vq1 : Int32) (vq2 : Int32) (M : Mem) : Option (Int32 × Mem) :=
  ob (fX11_in vq1 0 3 M) fun r1 M2 =>
  if r1 = 0 then
    (some (-2, M2))
  else
    (gd (inb vq1 4)
    (if (M2 33 0 vq1.toNatClampNeg) = (-1) then
      (some (-11, M2))
    else
      (fX11_walkWrong_L27 vq1 vq2 FU 0 M2)))
set_option maxRecDepth 20000 in
theorem wX11_walkWrong {g : GP} {l : Launch} {x : CT} (ok : Ok g l x RX11 cX11_walkWrong 6 (some FieldType.int) (rmL 4)) (vq1 : Int32) (vq2 : Int32)  (M : Mem) : Sw g l x (FinQ g x eI) 6 0 0 0 [(0, .ref (gA g 22 0)), (1, .int vq1), (2, .int vq2)] [] M (fX11_walkWrong vq1 vq2 M) := by
  unfold fX11_walkWrong
  refine r_iload_n (pc := 0) ok 1 dX11_walkWrong_0 rfl ?_
  refine r_iconst (pc := 1) ok 0 dX11_walkWrong_1 (by decide) ?_
  refine r_iconst (pc := 2) ok 3 dX11_walkWrong_2 (by decide) ?_
  refine r_callS0 (pc := 3) ok [.int vq1, .int 0, .int 3] [] 2 (fun rZ MZ hZ => con_X11_in g l vq1 0 3 _ rZ MZ hZ) cs_X11_84 (rmOk_L (by decide) (by decide)) dX11_walkWrong_3 rfl rfl (Nat.le_of_ble_eq_true rfl) (fun r1 M2 => ?_)
  refine r_if_ne (pc := 6) ok 12 dX11_walkWrong_6 (by decide) (fun _ => ?_) (fun _ => ?_)
  · refine r_bipush (pc := 9) ok (-2) dX11_walkWrong_9 (by decide) ?_
    exact r_iret (pc := 11) ok (Nat.zero_le _) (Nat.zero_le _) rfl dX11_walkWrong_11
  · refine r_aload_n (pc := 12) ok 0 dX11_walkWrong_12 rfl ?_
    refine r_getR (pc := 13) ok fr_22_16 (by decide) fl_X11_40 dX11_walkWrong_13 ?_
    refine r_iload_n (pc := 16) ok 1 dX11_walkWrong_16 rfl ?_
    refine r_iald (pc := 17) ok ik_33 (by decide) dX11_walkWrong_17 (fun _ => ?_)
    refine r_iconst (pc := 18) ok (-1) dX11_walkWrong_18 (by decide) ?_
    refine r_icmp_ne (pc := 19) ok 25 dX11_walkWrong_19 (by decide) (fun _ => ?_) (fun _ => ?_)
    · refine r_bipush (pc := 22) ok (-11) dX11_walkWrong_22 (by decide) ?_
      exact r_iret (pc := 24) ok (Nat.zero_le _) (Nat.zero_le _) rfl dX11_walkWrong_24
    · refine r_iconst (pc := 25) ok 0 dX11_walkWrong_25 (by decide) ?_
      refine r_istore_n (pc := 26) ok [(3, .int 0), (0, .ref (gA g 22 0)), (1, .int vq1), (2, .int vq2)] dX11_walkWrong_26 rfl (by decide) rfl ?_
      refine r_lv [1, 2, 3, 0] [(0, .ref (gA g 22 0)), (1, .int vq1), (2, .int vq2), (3, .int 0)] rfl ?_
      exact sX11_walkWrong_L27 ok vq1 vq2 FU 0 M2
theorem con_X11_walkWrong (g : GP) (l : Launch) (vq1 : Int32) (vq2 : Int32)  (M : Mem) (r : Int32) (M2 : Mem) (h : fX11_walkWrong vq1 vq2 M = some (r, M2)) : Con g l yX11_walkWrong cX11_walkWrong 6 (some FieldType.int) (rmL 4) [.ref (gA g 22 0), .int vq1, .int vq2] M (eI r) M2 :=
  Con.of (own := RX11) (f := fX11_walkWrong vq1 vq2 M) (by decide) (Nat.le_of_ble_eq_true rfl) rfl (fun x ok => wX11_walkWrong ok vq1 vq2  M) r M2 h
def fX11_heapOf_B48 (k9 : Int64 → Int32 → Mem → Option (Int64 × Mem)) (k20 : Int64 → Int32 → Mem → Option (Int64 × Mem)) (vq1 : Int64) (vq6 : Int64) (vq8 : Int32) (vq9 : Int32) (k48 : Int64 → Int32 → Mem → Option (Int64 × Mem)) (vq3 : Int64) (vq10 : Int32) (M : Mem) : Option (Int64 × Mem) :=
  if 36 ≤ vq10 then
    (k20 vq3 (vq8 + 1) M)
  else
    (if vq9 = 0 then
      (k20 vq3 (vq8 + 1) M)
    else
      (ob (fX11_apart vq8 vq10 M) fun r2 M3 =>
      if r2 = 1 then
        (lt (vq3 ||| (vq1 &&& (lshl 1 vq10))) fun w5 =>
        k48 w5 (vq10 + 1) M3)
      else
        (lt (vq3 ||| 0) fun w4 =>
        k48 w4 (vq10 + 1) M3)))
def fX11_heapOf_L48 (k9 : Int64 → Int32 → Mem → Option (Int64 × Mem)) (k20 : Int64 → Int32 → Mem → Option (Int64 × Mem)) (vq1 : Int64) (vq6 : Int64) (vq8 : Int32) (vq9 : Int32) : Nat → Int64 → Int32 → Mem → Option (Int64 × Mem)
  | 0, _, _, _ => none
  | n + 1, vq3, vq10, M => fX11_heapOf_B48 k9 k20 vq1 vq6 vq8 vq9 (fX11_heapOf_L48 k9 k20 vq1 vq6 vq8 vq9 n) vq3 vq10 M
set_option maxRecDepth 20000 in
theorem sX11_heapOf_B48 {g : GP} {l : Launch} {x : CT} {k9 : Int64 → Int32 → Mem → Option (Int64 × Mem)} {k20 : Int64 → Int32 → Mem → Option (Int64 × Mem)} (ok : Ok g l x RX11 cX11_heapOf 11 (some FieldType.long) (rmL 4)) (vq1 : Int64) (vq6 : Int64) (vq8 : Int32) (vq9 : Int32)  (hk9 : ∀ (vq3 : Int64) (vq5 : Int32) (M : Mem), Sw g l x (FinQ g x eJ) 11 0 0 9 [(1, .long vq1), (3, .long vq3), (5, .int vq5)] [] M (k9 vq3 vq5 M)) (hk20 : ∀ (vq3 : Int64) (vq8 : Int32) (M : Mem), Sw g l x (FinQ g x eJ) 11 0 0 20 [(1, .long vq1), (3, .long vq3), (6, .long vq6), (8, .int vq8)] [] M (k20 vq3 vq8 M)) (k48 : Int64 → Int32 → Mem → Option (Int64 × Mem)) (hk48 : ∀ (vq3 : Int64) (vq10 : Int32) (M : Mem), Sw g l x (FinQ g x eJ) 11 0 0 48 [(1, .long vq1), (3, .long vq3), (6, .long vq6), (8, .int vq8), (9, .int vq9), (10, .int vq10)] [] M (k48 vq3 vq10 M)) (vq3 : Int64) (vq10 : Int32) (M : Mem) : Sw g l x (FinQ g x eJ) 11 0 0 48 [(1, .long vq1), (3, .long vq3), (6, .long vq6), (8, .int vq8), (9, .int vq9), (10, .int vq10)] [] M (fX11_heapOf_B48 k9 k20 vq1 vq6 vq8 vq9 k48 vq3 vq10 M) := by
  unfold fX11_heapOf_B48
  refine r_iload (pc := 48) ok 5 dX11_heapOf_48 rfl ?_
  refine r_bipush (pc := 50) ok 36 dX11_heapOf_50 (by decide) ?_
  refine r_icmp_ge (pc := 52) ok 90 dX11_heapOf_52 (by decide) (fun _ => ?_) (fun _ => ?_)
  · refine r_iinc (pc := 90) ok 3 (vq8 + 1) [(8, .int (vq8 + 1)), (1, .long vq1), (3, .long vq3), (6, .long vq6), (9, .int vq9), (10, .int vq10)] dX11_heapOf_90 rfl (congrArg (fun z => vq8 + z) (by decide : Int32.ofInt 1 = (1 : Int32))) (by decide) rfl ?_
    refine r_goto (pc := 93) ok 20 dX11_heapOf_93 (by decide) ?_
    refine r_lv [1, 2, 3, 0] [(1, .long vq1), (3, .long vq3), (6, .long vq6), (8, .int (vq8 + 1))] rfl ?_
    exact hk20 vq3 (vq8 + 1) M
  · refine r_iload (pc := 55) ok 4 dX11_heapOf_55 rfl ?_
    refine r_if_eq (pc := 57) ok 90 dX11_heapOf_57 (by decide) (fun _ => ?_) (fun _ => ?_)
    · refine r_iinc (pc := 90) ok 3 (vq8 + 1) [(8, .int (vq8 + 1)), (1, .long vq1), (3, .long vq3), (6, .long vq6), (9, .int vq9), (10, .int vq10)] dX11_heapOf_90 rfl (congrArg (fun z => vq8 + z) (by decide : Int32.ofInt 1 = (1 : Int32))) (by decide) rfl ?_
      refine r_goto (pc := 93) ok 20 dX11_heapOf_93 (by decide) ?_
      refine r_lv [1, 2, 3, 0] [(1, .long vq1), (3, .long vq3), (6, .long vq6), (8, .int (vq8 + 1))] rfl ?_
      exact hk20 vq3 (vq8 + 1) M
    · refine r_lload_n (pc := 60) ok 1 dX11_heapOf_60 rfl ?_
      refine r_iload (pc := 61) ok 3 dX11_heapOf_61 rfl ?_
      refine r_iload (pc := 63) ok 5 dX11_heapOf_63 rfl ?_
      refine r_callS0 (pc := 65) ok [.int vq8, .int vq10] [.long vq3] 3 (fun rZ MZ hZ => con_X11_apart g l vq8 vq10 _ rZ MZ hZ) cs_X11_182 (rmOk_L (by decide) (by decide)) dX11_heapOf_65 rfl rfl (Nat.le_of_ble_eq_true rfl) (fun r2 M3 => ?_)
      refine r_iconst (pc := 68) ok 1 dX11_heapOf_68 (by decide) ?_
      refine r_icmp_ne (pc := 69) ok 81 dX11_heapOf_69 (by decide) (fun _ => ?_) (fun _ => ?_)
      · refine r_lload_n (pc := 72) ok 0 dX11_heapOf_72 rfl ?_
        refine r_lconst (pc := 73) ok 1 dX11_heapOf_73 (by decide) ?_
        refine r_iload (pc := 74) ok 5 dX11_heapOf_74 rfl ?_
        refine r_lshl (pc := 76) ok dX11_heapOf_76 ?_
        refine r_land (pc := 77) ok dX11_heapOf_77 ?_
        refine r_goto (pc := 78) ok 82 dX11_heapOf_78 (by decide) ?_
        refine r_lor (pc := 82) ok dX11_heapOf_82 ?_
        refine r_nml (fun w5 => ?_)
        refine r_lstore_n (pc := 83) ok [(3, .long w5), (1, .long vq1), (6, .long vq6), (8, .int vq8), (9, .int vq9), (10, .int vq10)] dX11_heapOf_83 rfl (by decide) rfl ?_
        refine r_iinc (pc := 84) ok 5 (vq10 + 1) [(10, .int (vq10 + 1)), (3, .long w5), (1, .long vq1), (6, .long vq6), (8, .int vq8), (9, .int vq9)] dX11_heapOf_84 rfl (congrArg (fun z => vq10 + z) (by decide : Int32.ofInt 1 = (1 : Int32))) (by decide) rfl ?_
        refine r_goto (pc := 87) ok 48 dX11_heapOf_87 (by decide) ?_
        refine r_lv [2, 1, 3, 4, 5, 0] [(1, .long vq1), (3, .long w5), (6, .long vq6), (8, .int vq8), (9, .int vq9), (10, .int (vq10 + 1))] rfl ?_
        exact hk48 w5 (vq10 + 1) M3
      · refine r_lconst (pc := 81) ok 0 dX11_heapOf_81 (by decide) ?_
        refine r_lor (pc := 82) ok dX11_heapOf_82 ?_
        refine r_nml (fun w4 => ?_)
        refine r_lstore_n (pc := 83) ok [(3, .long w4), (1, .long vq1), (6, .long vq6), (8, .int vq8), (9, .int vq9), (10, .int vq10)] dX11_heapOf_83 rfl (by decide) rfl ?_
        refine r_iinc (pc := 84) ok 5 (vq10 + 1) [(10, .int (vq10 + 1)), (3, .long w4), (1, .long vq1), (6, .long vq6), (8, .int vq8), (9, .int vq9)] dX11_heapOf_84 rfl (congrArg (fun z => vq10 + z) (by decide : Int32.ofInt 1 = (1 : Int32))) (by decide) rfl ?_
        refine r_goto (pc := 87) ok 48 dX11_heapOf_87 (by decide) ?_
        refine r_lv [2, 1, 3, 4, 5, 0] [(1, .long vq1), (3, .long w4), (6, .long vq6), (8, .int vq8), (9, .int vq9), (10, .int (vq10 + 1))] rfl ?_
        exact hk48 w4 (vq10 + 1) M3
theorem sX11_heapOf_L48 {g : GP} {l : Launch} {x : CT} {k9 : Int64 → Int32 → Mem → Option (Int64 × Mem)} {k20 : Int64 → Int32 → Mem → Option (Int64 × Mem)} (ok : Ok g l x RX11 cX11_heapOf 11 (some FieldType.long) (rmL 4)) (vq1 : Int64) (vq6 : Int64) (vq8 : Int32) (vq9 : Int32)  (hk9 : ∀ (vq3 : Int64) (vq5 : Int32) (M : Mem), Sw g l x (FinQ g x eJ) 11 0 0 9 [(1, .long vq1), (3, .long vq3), (5, .int vq5)] [] M (k9 vq3 vq5 M)) (hk20 : ∀ (vq3 : Int64) (vq8 : Int32) (M : Mem), Sw g l x (FinQ g x eJ) 11 0 0 20 [(1, .long vq1), (3, .long vq3), (6, .long vq6), (8, .int vq8)] [] M (k20 vq3 vq8 M)) : ∀ (n : Nat) (vq3 : Int64) (vq10 : Int32) (M : Mem), Sw g l x (FinQ g x eJ) 11 0 0 48 [(1, .long vq1), (3, .long vq3), (6, .long vq6), (8, .int vq8), (9, .int vq9), (10, .int vq10)] [] M (fX11_heapOf_L48 k9 k20 vq1 vq6 vq8 vq9 n vq3 vq10 M) := by
  intro n
  induction n with
  | zero => intros; exact r_none
  | succ n ih => intro vq3 vq10 M; exact sX11_heapOf_B48 ok vq1 vq6 vq8 vq9  hk9 hk20 _ ih vq3 vq10 M
def fX11_heapOf_B20 (k9 : Int64 → Int32 → Mem → Option (Int64 × Mem)) (vq1 : Int64) (vq6 : Int64) (k20 : Int64 → Int32 → Mem → Option (Int64 × Mem)) (vq3 : Int64) (vq8 : Int32) (M : Mem) : Option (Int64 × Mem) :=
  if 36 ≤ vq8 then
    (if (lg_cmp vq3 vq6) = 0 then
      (k9 vq3 0 M)
    else
      (k9 vq3 1 M))
  else
    (if (lg_cmp ((lshr vq3 vq8) &&& 1) 1) = 0 then
      (fX11_heapOf_L48 k9 k20 vq1 vq6 vq8 1 FU vq3 0 M)
    else
      (fX11_heapOf_L48 k9 k20 vq1 vq6 vq8 0 FU vq3 0 M))
def fX11_heapOf_L20 (k9 : Int64 → Int32 → Mem → Option (Int64 × Mem)) (vq1 : Int64) (vq6 : Int64) : Nat → Int64 → Int32 → Mem → Option (Int64 × Mem)
  | 0, _, _, _ => none
  | n + 1, vq3, vq8, M => fX11_heapOf_B20 k9 vq1 vq6 (fX11_heapOf_L20 k9 vq1 vq6 n) vq3 vq8 M
set_option maxRecDepth 20000 in
theorem sX11_heapOf_B20 {g : GP} {l : Launch} {x : CT} {k9 : Int64 → Int32 → Mem → Option (Int64 × Mem)} (ok : Ok g l x RX11 cX11_heapOf 11 (some FieldType.long) (rmL 4)) (vq1 : Int64) (vq6 : Int64)  (hk9 : ∀ (vq3 : Int64) (vq5 : Int32) (M : Mem), Sw g l x (FinQ g x eJ) 11 0 0 9 [(1, .long vq1), (3, .long vq3), (5, .int vq5)] [] M (k9 vq3 vq5 M)) (k20 : Int64 → Int32 → Mem → Option (Int64 × Mem)) (hk20 : ∀ (vq3 : Int64) (vq8 : Int32) (M : Mem), Sw g l x (FinQ g x eJ) 11 0 0 20 [(1, .long vq1), (3, .long vq3), (6, .long vq6), (8, .int vq8)] [] M (k20 vq3 vq8 M)) (vq3 : Int64) (vq8 : Int32) (M : Mem) : Sw g l x (FinQ g x eJ) 11 0 0 20 [(1, .long vq1), (3, .long vq3), (6, .long vq6), (8, .int vq8)] [] M (fX11_heapOf_B20 k9 vq1 vq6 k20 vq3 vq8 M) := by
  unfold fX11_heapOf_B20
  refine r_iload (pc := 20) ok 3 dX11_heapOf_20 rfl ?_
  refine r_bipush (pc := 22) ok 36 dX11_heapOf_22 (by decide) ?_
  refine r_icmp_ge (pc := 24) ok 96 dX11_heapOf_24 (by decide) (fun _ => ?_) (fun _ => ?_)
  · refine r_lload_n (pc := 96) ok 1 dX11_heapOf_96 rfl ?_
    refine r_lload (pc := 97) ok 2 dX11_heapOf_97 rfl ?_
    refine r_lcmp (pc := 99) ok dX11_heapOf_99 ?_
    refine r_if_eq (pc := 100) ok 107 dX11_heapOf_100 (by decide) (fun _ => ?_) (fun _ => ?_)
    · refine r_iconst (pc := 107) ok 0 dX11_heapOf_107 (by decide) ?_
      refine r_istore (pc := 108) ok [(5, .int 0), (1, .long vq1), (3, .long vq3), (6, .long vq6), (8, .int vq8)] dX11_heapOf_108 (by decide) rfl ?_
      refine r_goto (pc := 110) ok 9 dX11_heapOf_110 (by decide) ?_
      refine r_lv [1, 2, 0] [(1, .long vq1), (3, .long vq3), (5, .int 0)] rfl ?_
      exact hk9 vq3 0 M
    · refine r_iconst (pc := 103) ok 1 dX11_heapOf_103 (by decide) ?_
      refine r_goto (pc := 104) ok 108 dX11_heapOf_104 (by decide) ?_
      refine r_istore (pc := 108) ok [(5, .int 1), (1, .long vq1), (3, .long vq3), (6, .long vq6), (8, .int vq8)] dX11_heapOf_108 (by decide) rfl ?_
      refine r_goto (pc := 110) ok 9 dX11_heapOf_110 (by decide) ?_
      refine r_lv [1, 2, 0] [(1, .long vq1), (3, .long vq3), (5, .int 1)] rfl ?_
      exact hk9 vq3 1 M
  · refine r_lload_n (pc := 27) ok 1 dX11_heapOf_27 rfl ?_
    refine r_iload (pc := 28) ok 3 dX11_heapOf_28 rfl ?_
    refine r_lshr (pc := 30) ok dX11_heapOf_30 ?_
    refine r_lconst (pc := 31) ok 1 dX11_heapOf_31 (by decide) ?_
    refine r_land (pc := 32) ok dX11_heapOf_32 ?_
    refine r_lconst (pc := 33) ok 1 dX11_heapOf_33 (by decide) ?_
    refine r_lcmp (pc := 34) ok dX11_heapOf_34 ?_
    refine r_if_ne (pc := 35) ok 42 dX11_heapOf_35 (by decide) (fun _ => ?_) (fun _ => ?_)
    · refine r_iconst (pc := 38) ok 1 dX11_heapOf_38 (by decide) ?_
      refine r_goto (pc := 39) ok 43 dX11_heapOf_39 (by decide) ?_
      refine r_istore (pc := 43) ok [(9, .int 1), (1, .long vq1), (3, .long vq3), (6, .long vq6), (8, .int vq8)] dX11_heapOf_43 (by decide) rfl ?_
      refine r_iconst (pc := 45) ok 0 dX11_heapOf_45 (by decide) ?_
      refine r_istore (pc := 46) ok [(10, .int 0), (9, .int 1), (1, .long vq1), (3, .long vq3), (6, .long vq6), (8, .int vq8)] dX11_heapOf_46 (by decide) rfl ?_
      refine r_lv [2, 3, 4, 5, 1, 0] [(1, .long vq1), (3, .long vq3), (6, .long vq6), (8, .int vq8), (9, .int 1), (10, .int 0)] rfl ?_
      exact sX11_heapOf_L48 ok vq1 vq6 vq8 1 hk9 hk20 FU vq3 0 M
    · refine r_iconst (pc := 42) ok 0 dX11_heapOf_42 (by decide) ?_
      refine r_istore (pc := 43) ok [(9, .int 0), (1, .long vq1), (3, .long vq3), (6, .long vq6), (8, .int vq8)] dX11_heapOf_43 (by decide) rfl ?_
      refine r_iconst (pc := 45) ok 0 dX11_heapOf_45 (by decide) ?_
      refine r_istore (pc := 46) ok [(10, .int 0), (9, .int 0), (1, .long vq1), (3, .long vq3), (6, .long vq6), (8, .int vq8)] dX11_heapOf_46 (by decide) rfl ?_
      refine r_lv [2, 3, 4, 5, 1, 0] [(1, .long vq1), (3, .long vq3), (6, .long vq6), (8, .int vq8), (9, .int 0), (10, .int 0)] rfl ?_
      exact sX11_heapOf_L48 ok vq1 vq6 vq8 0 hk9 hk20 FU vq3 0 M
theorem sX11_heapOf_L20 {g : GP} {l : Launch} {x : CT} {k9 : Int64 → Int32 → Mem → Option (Int64 × Mem)} (ok : Ok g l x RX11 cX11_heapOf 11 (some FieldType.long) (rmL 4)) (vq1 : Int64) (vq6 : Int64)  (hk9 : ∀ (vq3 : Int64) (vq5 : Int32) (M : Mem), Sw g l x (FinQ g x eJ) 11 0 0 9 [(1, .long vq1), (3, .long vq3), (5, .int vq5)] [] M (k9 vq3 vq5 M)) : ∀ (n : Nat) (vq3 : Int64) (vq8 : Int32) (M : Mem), Sw g l x (FinQ g x eJ) 11 0 0 20 [(1, .long vq1), (3, .long vq3), (6, .long vq6), (8, .int vq8)] [] M (fX11_heapOf_L20 k9 vq1 vq6 n vq3 vq8 M) := by
  intro n
  induction n with
  | zero => intros; exact r_none
  | succ n ih => intro vq3 vq8 M; exact sX11_heapOf_B20 ok vq1 vq6  hk9 _ ih vq3 vq8 M
def fX11_heapOf_B9 (vq1 : Int64) (k9 : Int64 → Int32 → Mem → Option (Int64 × Mem)) (vq3 : Int64) (vq5 : Int32) (M : Mem) : Option (Int64 × Mem) :=
  if vq5 = 0 then
    (some (vq3, M))
  else
    (fX11_heapOf_L20 k9 vq1 vq3 FU vq3 0 M)
def fX11_heapOf_L9 (vq1 : Int64) : Nat → Int64 → Int32 → Mem → Option (Int64 × Mem)
  | 0, _, _, _ => none
  | n + 1, vq3, vq5, M => fX11_heapOf_B9 vq1 (fX11_heapOf_L9 vq1 n) vq3 vq5 M
set_option maxRecDepth 20000 in
theorem sX11_heapOf_B9 {g : GP} {l : Launch} {x : CT} (ok : Ok g l x RX11 cX11_heapOf 11 (some FieldType.long) (rmL 4)) (vq1 : Int64)  (k9 : Int64 → Int32 → Mem → Option (Int64 × Mem)) (hk9 : ∀ (vq3 : Int64) (vq5 : Int32) (M : Mem), Sw g l x (FinQ g x eJ) 11 0 0 9 [(1, .long vq1), (3, .long vq3), (5, .int vq5)] [] M (k9 vq3 vq5 M)) (vq3 : Int64) (vq5 : Int32) (M : Mem) : Sw g l x (FinQ g x eJ) 11 0 0 9 [(1, .long vq1), (3, .long vq3), (5, .int vq5)] [] M (fX11_heapOf_B9 vq1 k9 vq3 vq5 M) := by
  unfold fX11_heapOf_B9
  refine r_iload (pc := 9) ok 2 dX11_heapOf_9 rfl ?_
  refine r_if_eq (pc := 11) ok 113 dX11_heapOf_11 (by decide) (fun _ => ?_) (fun _ => ?_)
  · refine r_lload_n (pc := 113) ok 1 dX11_heapOf_113 rfl ?_
    exact r_lret (pc := 114) ok (Nat.zero_le _) (Nat.zero_le _) rfl dX11_heapOf_114
  · refine r_lload_n (pc := 14) ok 1 dX11_heapOf_14 rfl ?_
    refine r_lstore (pc := 15) ok [(6, .long vq3), (1, .long vq1), (3, .long vq3), (5, .int vq5)] dX11_heapOf_15 (by decide) rfl ?_
    refine r_iconst (pc := 17) ok 0 dX11_heapOf_17 (by decide) ?_
    refine r_istore (pc := 18) ok [(8, .int 0), (6, .long vq3), (1, .long vq1), (3, .long vq3), (5, .int vq5)] dX11_heapOf_18 (by decide) rfl ?_
    refine r_lv [2, 3, 1, 0] [(1, .long vq1), (3, .long vq3), (6, .long vq3), (8, .int 0)] rfl ?_
    exact sX11_heapOf_L20 ok vq1 vq3 hk9 FU vq3 0 M
theorem sX11_heapOf_L9 {g : GP} {l : Launch} {x : CT} (ok : Ok g l x RX11 cX11_heapOf 11 (some FieldType.long) (rmL 4)) (vq1 : Int64)  : ∀ (n : Nat) (vq3 : Int64) (vq5 : Int32) (M : Mem), Sw g l x (FinQ g x eJ) 11 0 0 9 [(1, .long vq1), (3, .long vq3), (5, .int vq5)] [] M (fX11_heapOf_L9 vq1 n vq3 vq5 M) := by
  intro n
  induction n with
  | zero => intros; exact r_none
  | succ n ih => intro vq3 vq5 M; exact sX11_heapOf_B9 ok vq1  _ ih vq3 vq5 M
def fX11_heapOf (vq0 : Int32) (vq1 : Int64) (M : Mem) : Option (Int64 × Mem) :=
  lt (vq1 &&& (lshl 1 vq0)) fun w1 =>
  fX11_heapOf_L9 vq1 FU w1 1 M
set_option maxRecDepth 20000 in
theorem wX11_heapOf {g : GP} {l : Launch} {x : CT} (ok : Ok g l x RX11 cX11_heapOf 11 (some FieldType.long) (rmL 4)) (vq0 : Int32) (vq1 : Int64)  (M : Mem) : Sw g l x (FinQ g x eJ) 11 0 0 0 [(0, .int vq0), (1, .long vq1)] [] M (fX11_heapOf vq0 vq1 M) := by
  unfold fX11_heapOf
  refine r_lload_n (pc := 0) ok 1 dX11_heapOf_0 rfl ?_
  refine r_lconst (pc := 1) ok 1 dX11_heapOf_1 (by decide) ?_
  refine r_iload_n (pc := 2) ok 0 dX11_heapOf_2 rfl ?_
  refine r_lshl (pc := 3) ok dX11_heapOf_3 ?_
  refine r_land (pc := 4) ok dX11_heapOf_4 ?_
  refine r_nml (fun w1 => ?_)
  refine r_lstore_n (pc := 5) ok [(3, .long w1), (0, .int vq0), (1, .long vq1)] dX11_heapOf_5 rfl (by decide) rfl ?_
  refine r_iconst (pc := 6) ok 1 dX11_heapOf_6 (by decide) ?_
  refine r_istore (pc := 7) ok [(5, .int 1), (3, .long w1), (0, .int vq0), (1, .long vq1)] dX11_heapOf_7 (by decide) rfl ?_
  refine r_lv [3, 1, 0] [(1, .long vq1), (3, .long w1), (5, .int 1)] rfl ?_
  exact sX11_heapOf_L9 ok vq1 FU w1 1 M
theorem con_X11_heapOf (g : GP) (l : Launch) (vq0 : Int32) (vq1 : Int64)  (M : Mem) (r : Int64) (M2 : Mem) (h : fX11_heapOf vq0 vq1 M = some (r, M2)) : Con g l yX11_heapOf cX11_heapOf 11 (some FieldType.long) (rmL 4) [.int vq0, .long vq1] M (eJ r) M2 :=
  Con.of (own := RX11) (f := fX11_heapOf vq0 vq1 M) (by decide) (Nat.le_of_ble_eq_true rfl) rfl (fun x ok => wX11_heapOf ok vq0 vq1  M) r M2 h
def fX11_toldWrong (vq1 : Int32) (vq2 : Int32) (M : Mem) : Option (Int32 × Mem) :=
  ob (fX11_in vq1 0 3 M) fun r1 M2 =>
  if r1 = 0 then
    (some (-2, M2))
  else
    (gd (inb vq1 4)
    (if (M2 33 0 vq1.toNatClampNeg) = (-1) then
      (some (-11, M2))
    else
      (gd (inb vq1 4)
      (if (M2 34 0 vq1.toNatClampNeg) ≤ 20 then
        (ob (fX11_isCell vq2 M2) fun r3 M4 =>
        if r3 = 0 then
          (some (-5, M4))
        else
          (some (0, M4)))
      else
        (some (-2, M2))))))
set_option maxRecDepth 20000 in
theorem wX11_toldWrong {g : GP} {l : Launch} {x : CT} (ok : Ok g l x RX11 cX11_toldWrong 3 (some FieldType.int) (rmL 4)) (vq1 : Int32) (vq2 : Int32)  (M : Mem) : Sw g l x (FinQ g x eI) 3 0 0 0 [(0, .ref (gA g 22 0)), (1, .int vq1), (2, .int vq2)] [] M (fX11_toldWrong vq1 vq2 M) := by
  unfold fX11_toldWrong
  refine r_iload_n (pc := 0) ok 1 dX11_toldWrong_0 rfl ?_
  refine r_iconst (pc := 1) ok 0 dX11_toldWrong_1 (by decide) ?_
  refine r_iconst (pc := 2) ok 3 dX11_toldWrong_2 (by decide) ?_
  refine r_callS0 (pc := 3) ok [.int vq1, .int 0, .int 3] [] 2 (fun rZ MZ hZ => con_X11_in g l vq1 0 3 _ rZ MZ hZ) cs_X11_84 (rmOk_L (by decide) (by decide)) dX11_toldWrong_3 rfl rfl (Nat.le_of_ble_eq_true rfl) (fun r1 M2 => ?_)
  refine r_if_ne (pc := 6) ok 12 dX11_toldWrong_6 (by decide) (fun _ => ?_) (fun _ => ?_)
  · refine r_bipush (pc := 9) ok (-2) dX11_toldWrong_9 (by decide) ?_
    exact r_iret (pc := 11) ok (Nat.zero_le _) (Nat.zero_le _) rfl dX11_toldWrong_11
  · refine r_aload_n (pc := 12) ok 0 dX11_toldWrong_12 rfl ?_
    refine r_getR (pc := 13) ok fr_22_16 (by decide) fl_X11_40 dX11_toldWrong_13 ?_
    refine r_iload_n (pc := 16) ok 1 dX11_toldWrong_16 rfl ?_
    refine r_iald (pc := 17) ok ik_33 (by decide) dX11_toldWrong_17 (fun _ => ?_)
    refine r_iconst (pc := 18) ok (-1) dX11_toldWrong_18 (by decide) ?_
    refine r_icmp_ne (pc := 19) ok 25 dX11_toldWrong_19 (by decide) (fun _ => ?_) (fun _ => ?_)
    · refine r_bipush (pc := 22) ok (-11) dX11_toldWrong_22 (by decide) ?_
      exact r_iret (pc := 24) ok (Nat.zero_le _) (Nat.zero_le _) rfl dX11_toldWrong_24
    · refine r_aload_n (pc := 25) ok 0 dX11_toldWrong_25 rfl ?_
      refine r_getR (pc := 26) ok fr_22_17 (by decide) fl_X11_43 dX11_toldWrong_26 ?_
      refine r_iload_n (pc := 29) ok 1 dX11_toldWrong_29 rfl ?_
      refine r_iald (pc := 30) ok ik_34 (by decide) dX11_toldWrong_30 (fun _ => ?_)
      refine r_bipush (pc := 31) ok 20 dX11_toldWrong_31 (by decide) ?_
      refine r_icmp_le (pc := 33) ok 41 dX11_toldWrong_33 (by decide) (fun _ => ?_) (fun _ => ?_)
      · refine r_iload_n (pc := 41) ok 2 dX11_toldWrong_41 rfl ?_
        refine r_callS0 (pc := 42) ok [.int vq2] [] 3 (fun rZ MZ hZ => con_X11_isCell g l vq2 _ rZ MZ hZ) cs_X11_104 (rmOk_L (by decide) (by decide)) dX11_toldWrong_42 rfl rfl (Nat.le_of_ble_eq_true rfl) (fun r3 M4 => ?_)
        refine r_if_eq (pc := 45) ok 52 dX11_toldWrong_45 (by decide) (fun _ => ?_) (fun _ => ?_)
        · refine r_bipush (pc := 52) ok (-5) dX11_toldWrong_52 (by decide) ?_
          exact r_iret (pc := 54) ok (Nat.zero_le _) (Nat.zero_le _) rfl dX11_toldWrong_54
        · refine r_iconst (pc := 48) ok 0 dX11_toldWrong_48 (by decide) ?_
          refine r_goto (pc := 49) ok 54 dX11_toldWrong_49 (by decide) ?_
          exact r_iret (pc := 54) ok (Nat.zero_le _) (Nat.zero_le _) rfl dX11_toldWrong_54
      · refine r_bipush (pc := 36) ok (-2) dX11_toldWrong_36 (by decide) ?_
        refine r_goto (pc := 38) ok 54 dX11_toldWrong_38 (by decide) ?_
        exact r_iret (pc := 54) ok (Nat.zero_le _) (Nat.zero_le _) rfl dX11_toldWrong_54
theorem con_X11_toldWrong (g : GP) (l : Launch) (vq1 : Int32) (vq2 : Int32)  (M : Mem) (r : Int32) (M2 : Mem) (h : fX11_toldWrong vq1 vq2 M = some (r, M2)) : Con g l yX11_toldWrong cX11_toldWrong 3 (some FieldType.int) (rmL 4) [.ref (gA g 22 0), .int vq1, .int vq2] M (eI r) M2 :=
  Con.of (own := RX11) (f := fX11_toldWrong vq1 vq2 M) (by decide) (Nat.le_of_ble_eq_true rfl) rfl (fun x ok => wX11_toldWrong ok vq1 vq2  M) r M2 h
def fX11_peopleBy_B64 (vq1 : Int32) (vq3 : Int32) (vq4 : Int32) (k64 : Int32 → Int32 → Mem → Option (Int32 × Mem)) (vq5 : Int32) (vq6 : Int32) (M : Mem) : Option (Int32 × Mem) :=
  if vq4 ≤ vq6 then
    (some (vq5, M))
  else
    (lt (vq3 + (2 * vq6)) fun w7 =>
    if vq3 < 0 then
      (some (-12, M))
    else
      (if w7 < vq3 then
        (some (-12, M))
      else
        (gd (inb vq1 4)
        (if w7 ≤ ((M 34 0 vq1.toNatClampNeg) - 2) then
          (lt ((40 * vq1) + w7) fun w8 =>
          gd (inb w8 160)
          (gd (inb (w8 + 1) 160)
          (ob (fX11_person (M 35 0 w8.toNatClampNeg) (M 35 0 (w8 + 1).toNatClampNeg) M) fun r9 M10 =>
          if r9 < 0 then
            (lt (vq5 + 0) fun w11 =>
            k64 w11 (vq6 + 1) M10)
          else
            (lt (vq5 + 1) fun w12 =>
            k64 w12 (vq6 + 1) M10))))
        else
          (some (-12, M))))))
def fX11_peopleBy_L64 (vq1 : Int32) (vq3 : Int32) (vq4 : Int32) : Nat → Int32 → Int32 → Mem → Option (Int32 × Mem)
  | 0, _, _, _ => none
  | n + 1, vq5, vq6, M => fX11_peopleBy_B64 vq1 vq3 vq4 (fX11_peopleBy_L64 vq1 vq3 vq4 n) vq5 vq6 M
set_option maxRecDepth 20000 in
theorem sX11_peopleBy_B64 {g : GP} {l : Launch} {x : CT} (ok : Ok g l x RX11 cX11_peopleBy 9 (some FieldType.int) (rmL 4)) (vq1 : Int32) (vq3 : Int32) (vq4 : Int32)  (k64 : Int32 → Int32 → Mem → Option (Int32 × Mem)) (hk64 : ∀ (vq5 : Int32) (vq6 : Int32) (M : Mem), Sw g l x (FinQ g x eI) 9 0 0 64 [(0, .ref (gA g 22 0)), (1, .int vq1), (3, .int vq3), (4, .int vq4), (5, .int vq5), (6, .int vq6)] [] M (k64 vq5 vq6 M)) (vq5 : Int32) (vq6 : Int32) (M : Mem) : Sw g l x (FinQ g x eI) 9 0 0 64 [(0, .ref (gA g 22 0)), (1, .int vq1), (3, .int vq3), (4, .int vq4), (5, .int vq5), (6, .int vq6)] [] M (fX11_peopleBy_B64 vq1 vq3 vq4 k64 vq5 vq6 M) := by
  unfold fX11_peopleBy_B64
  refine r_iload (pc := 64) ok 5 dX11_peopleBy_64 rfl ?_
  refine r_iload (pc := 66) ok 3 dX11_peopleBy_66 rfl ?_
  refine r_icmp_ge (pc := 68) ok 153 dX11_peopleBy_68 (by decide) (fun _ => ?_) (fun _ => ?_)
  · refine r_iload (pc := 153) ok 4 dX11_peopleBy_153 rfl ?_
    exact r_iret (pc := 155) ok (Nat.zero_le _) (Nat.zero_le _) rfl dX11_peopleBy_155
  · refine r_iload_n (pc := 71) ok 2 dX11_peopleBy_71 rfl ?_
    refine r_iconst (pc := 72) ok 2 dX11_peopleBy_72 (by decide) ?_
    refine r_iload (pc := 73) ok 5 dX11_peopleBy_73 rfl ?_
    refine r_imul (pc := 75) ok dX11_peopleBy_75 ?_
    refine r_iadd (pc := 76) ok dX11_peopleBy_76 ?_
    refine r_nmi (fun w7 => ?_)
    refine r_istore (pc := 77) ok [(7, .int w7), (0, .ref (gA g 22 0)), (1, .int vq1), (3, .int vq3), (4, .int vq4), (5, .int vq5), (6, .int vq6)] dX11_peopleBy_77 (by decide) rfl ?_
    refine r_iload_n (pc := 79) ok 3 dX11_peopleBy_79 rfl ?_
    refine r_if_lt (pc := 80) ok 102 dX11_peopleBy_80 (by decide) (fun _ => ?_) (fun _ => ?_)
    · refine r_bipush (pc := 102) ok (-12) dX11_peopleBy_102 (by decide) ?_
      exact r_iret (pc := 104) ok (Nat.zero_le _) (Nat.zero_le _) rfl dX11_peopleBy_104
    · refine r_iload (pc := 83) ok 0 dX11_peopleBy_83 rfl ?_
      refine r_iload_n (pc := 85) ok 3 dX11_peopleBy_85 rfl ?_
      refine r_icmp_lt (pc := 86) ok 102 dX11_peopleBy_86 (by decide) (fun _ => ?_) (fun _ => ?_)
      · refine r_bipush (pc := 102) ok (-12) dX11_peopleBy_102 (by decide) ?_
        exact r_iret (pc := 104) ok (Nat.zero_le _) (Nat.zero_le _) rfl dX11_peopleBy_104
      · refine r_iload (pc := 89) ok 0 dX11_peopleBy_89 rfl ?_
        refine r_aload_n (pc := 91) ok 1 dX11_peopleBy_91 rfl ?_
        refine r_getR (pc := 92) ok fr_22_17 (by decide) fl_X11_43 dX11_peopleBy_92 ?_
        refine r_iload_n (pc := 95) ok 2 dX11_peopleBy_95 rfl ?_
        refine r_iald (pc := 96) ok ik_34 (by decide) dX11_peopleBy_96 (fun _ => ?_)
        refine r_iconst (pc := 97) ok 2 dX11_peopleBy_97 (by decide) ?_
        refine r_isub (pc := 98) ok dX11_peopleBy_98 ?_
        refine r_icmp_le (pc := 99) ok 105 dX11_peopleBy_99 (by decide) (fun _ => ?_) (fun _ => ?_)
        · refine r_bipush (pc := 105) ok 40 dX11_peopleBy_105 (by decide) ?_
          refine r_iload_n (pc := 107) ok 2 dX11_peopleBy_107 rfl ?_
          refine r_imul (pc := 108) ok dX11_peopleBy_108 ?_
          refine r_iload (pc := 109) ok 0 dX11_peopleBy_109 rfl ?_
          refine r_iadd (pc := 111) ok dX11_peopleBy_111 ?_
          refine r_nmi (fun w8 => ?_)
          refine r_istore (pc := 112) ok [(8, .int w8), (7, .int w7), (0, .ref (gA g 22 0)), (1, .int vq1), (3, .int vq3), (4, .int vq4), (5, .int vq5), (6, .int vq6)] dX11_peopleBy_112 (by decide) rfl ?_
          refine r_iload (pc := 114) ok 6 dX11_peopleBy_114 rfl ?_
          refine r_aload_n (pc := 116) ok 2 dX11_peopleBy_116 rfl ?_
          refine r_aload_n (pc := 117) ok 2 dX11_peopleBy_117 rfl ?_
          refine r_getR (pc := 118) ok fr_22_18 (by decide) fl_X11_46 dX11_peopleBy_118 ?_
          refine r_iload (pc := 121) ok 0 dX11_peopleBy_121 rfl ?_
          refine r_iald (pc := 123) ok ik_35 (by decide) dX11_peopleBy_123 (fun _ => ?_)
          refine r_aload_n (pc := 124) ok 2 dX11_peopleBy_124 rfl ?_
          refine r_getR (pc := 125) ok fr_22_18 (by decide) fl_X11_46 dX11_peopleBy_125 ?_
          refine r_iload (pc := 128) ok 0 dX11_peopleBy_128 rfl ?_
          refine r_iconst (pc := 130) ok 1 dX11_peopleBy_130 (by decide) ?_
          refine r_iadd (pc := 131) ok dX11_peopleBy_131 ?_
          refine r_iald (pc := 132) ok ik_35 (by decide) dX11_peopleBy_132 (fun _ => ?_)
          refine r_callV0 (pc := 133) ok [.int (M 35 0 w8.toNatClampNeg), .int (M 35 0 (w8 + 1).toNatClampNeg)] [.int vq5] 3 (fun rZ MZ hZ => con_X11_person g l (M 35 0 w8.toNatClampNeg) (M 35 0 (w8 + 1).toNatClampNeg) _ rZ MZ hZ) cv_X11_276 ok_22 (rmOk_L (by decide) (by decide)) dX11_peopleBy_133 rfl rfl (Nat.le_of_ble_eq_true rfl) (fun r9 M10 => ?_)
          refine r_if_lt (pc := 136) ok 143 dX11_peopleBy_136 (by decide) (fun _ => ?_) (fun _ => ?_)
          · refine r_iconst (pc := 143) ok 0 dX11_peopleBy_143 (by decide) ?_
            refine r_iadd (pc := 144) ok dX11_peopleBy_144 ?_
            refine r_nmi (fun w11 => ?_)
            refine r_istore (pc := 145) ok [(5, .int w11), (8, .int w8), (7, .int w7), (0, .ref (gA g 22 0)), (1, .int vq1), (3, .int vq3), (4, .int vq4), (6, .int vq6)] dX11_peopleBy_145 (by decide) rfl ?_
            refine r_iinc (pc := 147) ok 7 (vq6 + 1) [(6, .int (vq6 + 1)), (5, .int w11), (8, .int w8), (7, .int w7), (0, .ref (gA g 22 0)), (1, .int vq1), (3, .int vq3), (4, .int vq4)] dX11_peopleBy_147 rfl (congrArg (fun z => vq6 + z) (by decide : Int32.ofInt 1 = (1 : Int32))) (by decide) rfl ?_
            refine r_goto (pc := 150) ok 64 dX11_peopleBy_150 (by decide) ?_
            refine r_lv [4, 5, 6, 7, 1, 0] [(0, .ref (gA g 22 0)), (1, .int vq1), (3, .int vq3), (4, .int vq4), (5, .int w11), (6, .int (vq6 + 1))] rfl ?_
            exact hk64 w11 (vq6 + 1) M10
          · refine r_iconst (pc := 139) ok 1 dX11_peopleBy_139 (by decide) ?_
            refine r_goto (pc := 140) ok 144 dX11_peopleBy_140 (by decide) ?_
            refine r_iadd (pc := 144) ok dX11_peopleBy_144 ?_
            refine r_nmi (fun w12 => ?_)
            refine r_istore (pc := 145) ok [(5, .int w12), (8, .int w8), (7, .int w7), (0, .ref (gA g 22 0)), (1, .int vq1), (3, .int vq3), (4, .int vq4), (6, .int vq6)] dX11_peopleBy_145 (by decide) rfl ?_
            refine r_iinc (pc := 147) ok 7 (vq6 + 1) [(6, .int (vq6 + 1)), (5, .int w12), (8, .int w8), (7, .int w7), (0, .ref (gA g 22 0)), (1, .int vq1), (3, .int vq3), (4, .int vq4)] dX11_peopleBy_147 rfl (congrArg (fun z => vq6 + z) (by decide : Int32.ofInt 1 = (1 : Int32))) (by decide) rfl ?_
            refine r_goto (pc := 150) ok 64 dX11_peopleBy_150 (by decide) ?_
            refine r_lv [4, 5, 6, 7, 1, 0] [(0, .ref (gA g 22 0)), (1, .int vq1), (3, .int vq3), (4, .int vq4), (5, .int w12), (6, .int (vq6 + 1))] rfl ?_
            exact hk64 w12 (vq6 + 1) M10
        · refine r_bipush (pc := 102) ok (-12) dX11_peopleBy_102 (by decide) ?_
          exact r_iret (pc := 104) ok (Nat.zero_le _) (Nat.zero_le _) rfl dX11_peopleBy_104
theorem sX11_peopleBy_L64 {g : GP} {l : Launch} {x : CT} (ok : Ok g l x RX11 cX11_peopleBy 9 (some FieldType.int) (rmL 4)) (vq1 : Int32) (vq3 : Int32) (vq4 : Int32)  : ∀ (n : Nat) (vq5 : Int32) (vq6 : Int32) (M : Mem), Sw g l x (FinQ g x eI) 9 0 0 64 [(0, .ref (gA g 22 0)), (1, .int vq1), (3, .int vq3), (4, .int vq4), (5, .int vq5), (6, .int vq6)] [] M (fX11_peopleBy_L64 vq1 vq3 vq4 n vq5 vq6 M) := by
  intro n
  induction n with
  | zero => intros; exact r_none
  | succ n ih => intro vq5 vq6 M; exact sX11_peopleBy_B64 ok vq1 vq3 vq4  _ ih vq5 vq6 M
def fX11_peopleBy (vq1 : Int32) (vq2 : Int32) (vq3 : Int32) (vq4 : Int32) (M : Mem) : Option (Int32 × Mem) :=
  ob (fX11_in vq1 0 3 M) fun r1 M2 =>
  if r1 = 0 then
    (some (-2, M2))
  else
    (ob (fX11_in vq2 0 2 M2) fun r3 M4 =>
    if r3 = 0 then
      (some (-2, M4))
    else
      (ob (fX11_in vq4 0 6 M4) fun r5 M6 =>
      if r5 = 0 then
        (some (-2, M6))
      else
        (gd (inb vq1 4)
        (if (M6 33 0 vq1.toNatClampNeg) = (-1) then
          (some (-11, M6))
        else
          (gd (inb vq1 4)
          (if (M6 33 0 vq1.toNatClampNeg) = vq2 then
            (fX11_peopleBy_L64 vq1 vq3 vq4 FU 0 0 M6)
          else
            (some (-13, M6))))))))
set_option maxRecDepth 20000 in
theorem wX11_peopleBy {g : GP} {l : Launch} {x : CT} (ok : Ok g l x RX11 cX11_peopleBy 9 (some FieldType.int) (rmL 4)) (vq1 : Int32) (vq2 : Int32) (vq3 : Int32) (vq4 : Int32)  (M : Mem) : Sw g l x (FinQ g x eI) 9 0 0 0 [(0, .ref (gA g 22 0)), (1, .int vq1), (2, .int vq2), (3, .int vq3), (4, .int vq4)] [] M (fX11_peopleBy vq1 vq2 vq3 vq4 M) := by
  unfold fX11_peopleBy
  refine r_iload_n (pc := 0) ok 1 dX11_peopleBy_0 rfl ?_
  refine r_iconst (pc := 1) ok 0 dX11_peopleBy_1 (by decide) ?_
  refine r_iconst (pc := 2) ok 3 dX11_peopleBy_2 (by decide) ?_
  refine r_callS0 (pc := 3) ok [.int vq1, .int 0, .int 3] [] 2 (fun rZ MZ hZ => con_X11_in g l vq1 0 3 _ rZ MZ hZ) cs_X11_84 (rmOk_L (by decide) (by decide)) dX11_peopleBy_3 rfl rfl (Nat.le_of_ble_eq_true rfl) (fun r1 M2 => ?_)
  refine r_if_eq (pc := 6) ok 29 dX11_peopleBy_6 (by decide) (fun _ => ?_) (fun _ => ?_)
  · refine r_bipush (pc := 29) ok (-2) dX11_peopleBy_29 (by decide) ?_
    exact r_iret (pc := 31) ok (Nat.zero_le _) (Nat.zero_le _) rfl dX11_peopleBy_31
  · refine r_iload_n (pc := 9) ok 2 dX11_peopleBy_9 rfl ?_
    refine r_iconst (pc := 10) ok 0 dX11_peopleBy_10 (by decide) ?_
    refine r_iconst (pc := 11) ok 2 dX11_peopleBy_11 (by decide) ?_
    refine r_callS0 (pc := 12) ok [.int vq2, .int 0, .int 2] [] 2 (fun rZ MZ hZ => con_X11_in g l vq2 0 2 _ rZ MZ hZ) cs_X11_84 (rmOk_L (by decide) (by decide)) dX11_peopleBy_12 rfl rfl (Nat.le_of_ble_eq_true rfl) (fun r3 M4 => ?_)
    refine r_if_eq (pc := 15) ok 29 dX11_peopleBy_15 (by decide) (fun _ => ?_) (fun _ => ?_)
    · refine r_bipush (pc := 29) ok (-2) dX11_peopleBy_29 (by decide) ?_
      exact r_iret (pc := 31) ok (Nat.zero_le _) (Nat.zero_le _) rfl dX11_peopleBy_31
    · refine r_iload (pc := 18) ok 4 dX11_peopleBy_18 rfl ?_
      refine r_iconst (pc := 20) ok 0 dX11_peopleBy_20 (by decide) ?_
      refine r_bipush (pc := 21) ok 6 dX11_peopleBy_21 (by decide) ?_
      refine r_callS0 (pc := 23) ok [.int vq4, .int 0, .int 6] [] 2 (fun rZ MZ hZ => con_X11_in g l vq4 0 6 _ rZ MZ hZ) cs_X11_84 (rmOk_L (by decide) (by decide)) dX11_peopleBy_23 rfl rfl (Nat.le_of_ble_eq_true rfl) (fun r5 M6 => ?_)
      refine r_if_ne (pc := 26) ok 32 dX11_peopleBy_26 (by decide) (fun _ => ?_) (fun _ => ?_)
      · refine r_bipush (pc := 29) ok (-2) dX11_peopleBy_29 (by decide) ?_
        exact r_iret (pc := 31) ok (Nat.zero_le _) (Nat.zero_le _) rfl dX11_peopleBy_31
      · refine r_aload_n (pc := 32) ok 0 dX11_peopleBy_32 rfl ?_
        refine r_getR (pc := 33) ok fr_22_16 (by decide) fl_X11_40 dX11_peopleBy_33 ?_
        refine r_iload_n (pc := 36) ok 1 dX11_peopleBy_36 rfl ?_
        refine r_iald (pc := 37) ok ik_33 (by decide) dX11_peopleBy_37 (fun _ => ?_)
        refine r_iconst (pc := 38) ok (-1) dX11_peopleBy_38 (by decide) ?_
        refine r_icmp_ne (pc := 39) ok 45 dX11_peopleBy_39 (by decide) (fun _ => ?_) (fun _ => ?_)
        · refine r_bipush (pc := 42) ok (-11) dX11_peopleBy_42 (by decide) ?_
          exact r_iret (pc := 44) ok (Nat.zero_le _) (Nat.zero_le _) rfl dX11_peopleBy_44
        · refine r_aload_n (pc := 45) ok 0 dX11_peopleBy_45 rfl ?_
          refine r_getR (pc := 46) ok fr_22_16 (by decide) fl_X11_40 dX11_peopleBy_46 ?_
          refine r_iload_n (pc := 49) ok 1 dX11_peopleBy_49 rfl ?_
          refine r_iald (pc := 50) ok ik_33 (by decide) dX11_peopleBy_50 (fun _ => ?_)
          refine r_iload_n (pc := 51) ok 2 dX11_peopleBy_51 rfl ?_
          refine r_icmp_eq (pc := 52) ok 58 dX11_peopleBy_52 (by decide) (fun _ => ?_) (fun _ => ?_)
          · refine r_iconst (pc := 58) ok 0 dX11_peopleBy_58 (by decide) ?_
            refine r_istore (pc := 59) ok [(5, .int 0), (0, .ref (gA g 22 0)), (1, .int vq1), (2, .int vq2), (3, .int vq3), (4, .int vq4)] dX11_peopleBy_59 (by decide) rfl ?_
            refine r_iconst (pc := 61) ok 0 dX11_peopleBy_61 (by decide) ?_
            refine r_istore (pc := 62) ok [(6, .int 0), (5, .int 0), (0, .ref (gA g 22 0)), (1, .int vq1), (2, .int vq2), (3, .int vq3), (4, .int vq4)] dX11_peopleBy_62 (by decide) rfl ?_
            refine r_lv [2, 3, 5, 6, 1, 0] [(0, .ref (gA g 22 0)), (1, .int vq1), (3, .int vq3), (4, .int vq4), (5, .int 0), (6, .int 0)] rfl ?_
            exact sX11_peopleBy_L64 ok vq1 vq3 vq4 FU 0 0 M6
          · refine r_bipush (pc := 55) ok (-13) dX11_peopleBy_55 (by decide) ?_
            exact r_iret (pc := 57) ok (Nat.zero_le _) (Nat.zero_le _) rfl dX11_peopleBy_57
theorem con_X11_peopleBy (g : GP) (l : Launch) (vq1 : Int32) (vq2 : Int32) (vq3 : Int32) (vq4 : Int32)  (M : Mem) (r : Int32) (M2 : Mem) (h : fX11_peopleBy vq1 vq2 vq3 vq4 M = some (r, M2)) : Con g l yX11_peopleBy cX11_peopleBy 9 (some FieldType.int) (rmL 4) [.ref (gA g 22 0), .int vq1, .int vq2, .int vq3, .int vq4] M (eI r) M2 :=
  Con.of (own := RX11) (f := fX11_peopleBy vq1 vq2 vq3 vq4 M) (by decide) (Nat.le_of_ble_eq_true rfl) rfl (fun x ok => wX11_peopleBy ok vq1 vq2 vq3 vq4  M) r M2 h
def fX4_takeNumber_J76  (M : Mem) : Option (Unit × Mem) :=
  if ((M 1 0 8) - (M 1 0 7)) ≤ 4 then
    (lt (mst M 1 0 5 2) fun M3 =>
    some ((), M3))
  else
    (lt (mst M 1 0 5 1) fun M4 =>
    some ((), M4))
set_option maxRecDepth 20000 in
theorem sX4_takeNumber_J76 {g : GP} {l : Launch} {x : CT} (ok : Ok g l x RX4 cX4_takeNumber 1 none (rmL 4))   (M : Mem) : Sw g l x (FinQ g x eV) 1 0 0 76 [(0, .ref (gA g 1 0))] [] M (fX4_takeNumber_J76  M) := by
  unfold fX4_takeNumber_J76
  refine r_aload_n (pc := 76) ok 0 dX4_takeNumber_76 rfl ?_
  refine r_aload_n (pc := 77) ok 0 dX4_takeNumber_77 rfl ?_
  refine r_getI (pc := 78) ok fi_1_8 (by decide) fl_X4_28 dX4_takeNumber_78 ?_
  refine r_aload_n (pc := 81) ok 0 dX4_takeNumber_81 rfl ?_
  refine r_getI (pc := 82) ok fi_1_7 (by decide) fl_X4_66 dX4_takeNumber_82 ?_
  refine r_isub (pc := 85) ok dX4_takeNumber_85 ?_
  refine r_iconst (pc := 86) ok 4 dX4_takeNumber_86 (by decide) ?_
  refine r_icmp_le (pc := 87) ok 94 dX4_takeNumber_87 (by decide) (fun _ => ?_) (fun _ => ?_)
  · refine r_iconst (pc := 94) ok 2 dX4_takeNumber_94 (by decide) ?_
    refine r_putI (pc := 95) ok fi_1_5 (by decide) fl_X4_41 fp_1_5 ⟨rfl, rfl⟩ dX4_takeNumber_95 ?_
    refine r_nmM (fun M3 => ?_)
    exact r_vret (pc := 98) ok (Nat.zero_le _) (Nat.zero_le _) rfl dX4_takeNumber_98
  · refine r_iconst (pc := 90) ok 1 dX4_takeNumber_90 (by decide) ?_
    refine r_goto (pc := 91) ok 95 dX4_takeNumber_91 (by decide) ?_
    refine r_putI (pc := 95) ok fi_1_5 (by decide) fl_X4_41 fp_1_5 ⟨rfl, rfl⟩ dX4_takeNumber_95 ?_
    refine r_nmM (fun M4 => ?_)
    exact r_vret (pc := 98) ok (Nat.zero_le _) (Nat.zero_le _) rfl dX4_takeNumber_98
def fX4_takeNumber_B13  (k13 : Mem → Option (Unit × Mem))  (M : Mem) : Option (Unit × Mem) :=
  if (M 1 0 3) ≤ (M 1 0 8) then
    (fX4_takeNumber_J76 M)
  else
    (gd (inb (M 1 0 8) 160)
    (ob (fX4_isDigit (M 2 0 (M 1 0 8).toNatClampNeg) M) fun r5 M6 =>
    if r5 = 0 then
      (fX4_takeNumber_J76 M6)
    else
      (gd (inb (M6 1 0 8) 160)
      (lt (mst M6 1 0 6 ((((M6 1 0 6) * 10) + (M6 2 0 (M6 1 0 8).toNatClampNeg)) - 48)) fun M7 =>
      lt (mst M7 1 0 8 ((M7 1 0 8) + 1)) fun M8 =>
      k13 M8))))
def fX4_takeNumber_L13  : Nat → Mem → Option (Unit × Mem)
  | 0, _ => none
  | n + 1, M => fX4_takeNumber_B13  (fX4_takeNumber_L13  n)  M
set_option maxRecDepth 20000 in
theorem sX4_takeNumber_B13 {g : GP} {l : Launch} {x : CT} (ok : Ok g l x RX4 cX4_takeNumber 1 none (rmL 4))   (k13 : Mem → Option (Unit × Mem)) (hk13 : ∀  (M : Mem), Sw g l x (FinQ g x eV) 1 0 0 13 [(0, .ref (gA g 1 0))] [] M (k13  M))  (M : Mem) : Sw g l x (FinQ g x eV) 1 0 0 13 [(0, .ref (gA g 1 0))] [] M (fX4_takeNumber_B13  k13  M) := by
  unfold fX4_takeNumber_B13
  refine r_aload_n (pc := 13) ok 0 dX4_takeNumber_13 rfl ?_
  refine r_getI (pc := 14) ok fi_1_8 (by decide) fl_X4_28 dX4_takeNumber_14 ?_
  refine r_aload_n (pc := 17) ok 0 dX4_takeNumber_17 rfl ?_
  refine r_getI (pc := 18) ok fi_1_3 (by decide) fl_X4_21 dX4_takeNumber_18 ?_
  refine r_icmp_ge (pc := 21) ok 76 dX4_takeNumber_21 (by decide) (fun _ => ?_) (fun _ => ?_)
  · refine r_lv [0] [(0, .ref (gA g 1 0))] rfl ?_
    exact sX4_takeNumber_J76 ok M
  · refine r_aload_n (pc := 24) ok 0 dX4_takeNumber_24 rfl ?_
    refine r_getR (pc := 25) ok fr_1_0 (by decide) fl_X4_9 dX4_takeNumber_25 ?_
    refine r_aload_n (pc := 28) ok 0 dX4_takeNumber_28 rfl ?_
    refine r_getI (pc := 29) ok fi_1_8 (by decide) fl_X4_28 dX4_takeNumber_29 ?_
    refine r_iald (pc := 32) ok ik_2 (by decide) dX4_takeNumber_32 (fun _ => ?_)
    refine r_callS0 (pc := 33) ok [.int (M 2 0 (M 1 0 8).toNatClampNeg)] [] 3 (fun rZ MZ hZ => con_X4_isDigit g l (M 2 0 (M 1 0 8).toNatClampNeg) _ rZ MZ hZ) cs_X4_75 (rmOk_L (by decide) (by decide)) dX4_takeNumber_33 rfl rfl (Nat.le_of_ble_eq_true rfl) (fun r5 M6 => ?_)
    refine r_if_eq (pc := 36) ok 76 dX4_takeNumber_36 (by decide) (fun _ => ?_) (fun _ => ?_)
    · refine r_lv [0] [(0, .ref (gA g 1 0))] rfl ?_
      exact sX4_takeNumber_J76 ok M6
    · refine r_aload_n (pc := 39) ok 0 dX4_takeNumber_39 rfl ?_
      refine r_aload_n (pc := 40) ok 0 dX4_takeNumber_40 rfl ?_
      refine r_getI (pc := 41) ok fi_1_6 (by decide) fl_X4_63 dX4_takeNumber_41 ?_
      refine r_bipush (pc := 44) ok 10 dX4_takeNumber_44 (by decide) ?_
      refine r_imul (pc := 46) ok dX4_takeNumber_46 ?_
      refine r_aload_n (pc := 47) ok 0 dX4_takeNumber_47 rfl ?_
      refine r_getR (pc := 48) ok fr_1_0 (by decide) fl_X4_9 dX4_takeNumber_48 ?_
      refine r_aload_n (pc := 51) ok 0 dX4_takeNumber_51 rfl ?_
      refine r_getI (pc := 52) ok fi_1_8 (by decide) fl_X4_28 dX4_takeNumber_52 ?_
      refine r_iald (pc := 55) ok ik_2 (by decide) dX4_takeNumber_55 (fun _ => ?_)
      refine r_iadd (pc := 56) ok dX4_takeNumber_56 ?_
      refine r_bipush (pc := 57) ok 48 dX4_takeNumber_57 (by decide) ?_
      refine r_isub (pc := 59) ok dX4_takeNumber_59 ?_
      refine r_putI (pc := 60) ok fi_1_6 (by decide) fl_X4_63 fp_1_6 ⟨rfl, rfl⟩ dX4_takeNumber_60 ?_
      refine r_nmM (fun M7 => ?_)
      refine r_aload_n (pc := 63) ok 0 dX4_takeNumber_63 rfl ?_
      refine r_dup (pc := 64) ok dX4_takeNumber_64 rfl ?_
      refine r_getI (pc := 65) ok fi_1_8 (by decide) fl_X4_28 dX4_takeNumber_65 ?_
      refine r_iconst (pc := 68) ok 1 dX4_takeNumber_68 (by decide) ?_
      refine r_iadd (pc := 69) ok dX4_takeNumber_69 ?_
      refine r_putI (pc := 70) ok fi_1_8 (by decide) fl_X4_28 fp_1_8 ⟨rfl, rfl⟩ dX4_takeNumber_70 ?_
      refine r_nmM (fun M8 => ?_)
      refine r_goto (pc := 73) ok 13 dX4_takeNumber_73 (by decide) ?_
      refine r_lv [0] [(0, .ref (gA g 1 0))] rfl ?_
      exact hk13 M8
theorem sX4_takeNumber_L13 {g : GP} {l : Launch} {x : CT} (ok : Ok g l x RX4 cX4_takeNumber 1 none (rmL 4))   : ∀ (n : Nat)  (M : Mem), Sw g l x (FinQ g x eV) 1 0 0 13 [(0, .ref (gA g 1 0))] [] M (fX4_takeNumber_L13  n  M) := by
  intro n
  induction n with
  | zero => intros; exact r_none
  | succ n ih => intro  M; exact sX4_takeNumber_B13 ok   _ ih  M
def fX4_takeNumber  (M : Mem) : Option (Unit × Mem) :=
  lt (mst M 1 0 8 (M 1 0 7)) fun M1 =>
  lt (mst M1 1 0 6 0) fun M2 =>
  fX4_takeNumber_L13 FU M2
set_option maxRecDepth 20000 in
theorem wX4_takeNumber {g : GP} {l : Launch} {x : CT} (ok : Ok g l x RX4 cX4_takeNumber 1 none (rmL 4))   (M : Mem) : Sw g l x (FinQ g x eV) 1 0 0 0 [(0, .ref (gA g 1 0))] [] M (fX4_takeNumber  M) := by
  unfold fX4_takeNumber
  refine r_aload_n (pc := 0) ok 0 dX4_takeNumber_0 rfl ?_
  refine r_aload_n (pc := 1) ok 0 dX4_takeNumber_1 rfl ?_
  refine r_getI (pc := 2) ok fi_1_7 (by decide) fl_X4_66 dX4_takeNumber_2 ?_
  refine r_putI (pc := 5) ok fi_1_8 (by decide) fl_X4_28 fp_1_8 ⟨rfl, rfl⟩ dX4_takeNumber_5 ?_
  refine r_nmM (fun M1 => ?_)
  refine r_aload_n (pc := 8) ok 0 dX4_takeNumber_8 rfl ?_
  refine r_iconst (pc := 9) ok 0 dX4_takeNumber_9 (by decide) ?_
  refine r_putI (pc := 10) ok fi_1_6 (by decide) fl_X4_63 fp_1_6 ⟨rfl, rfl⟩ dX4_takeNumber_10 ?_
  refine r_nmM (fun M2 => ?_)
  refine r_lv [0] [(0, .ref (gA g 1 0))] rfl ?_
  exact sX4_takeNumber_L13 ok FU M2
theorem con_X4_takeNumber (g : GP) (l : Launch)   (M : Mem) (r : Unit) (M2 : Mem) (h : fX4_takeNumber  M = some (r, M2)) : Con g l yX4_takeNumber cX4_takeNumber 1 none (rmL 4) [.ref (gA g 1 0)] M (eV r) M2 :=
  Con.of (own := RX4) (f := fX4_takeNumber  M) (by decide) (Nat.le_of_ble_eq_true rfl) rfl (fun x ok => wX4_takeNumber ok   M) r M2 h
def fX5_said (iq0 : Nat) (vq1 : Int32) (vq2 : Int32) (vq3 : Int32) (M : Mem) : Option (Int32 × Mem) :=
  gd (inb 0 6)
  (lt (mst M 19 iq0 (0 : Int32).toNatClampNeg (irem vq3 6)) fun M1 =>
  gd (inb 1 6)
  (lt (mst M1 19 iq0 (1 : Int32).toNatClampNeg (vq3 / 6)) fun M2 =>
  gd (inb vq3 36)
  (gd (inb 2 6)
  (lt (mst M2 19 iq0 (2 : Int32).toNatClampNeg (M2 16 iq0 vq3.toNatClampNeg)) fun M3 =>
  gd (inb 3 6)
  (lt (mst M3 19 iq0 (3 : Int32).toNatClampNeg (M3 15 iq0 8)) fun M4 =>
  gd (inb 1 4)
  (gd (inb vq2 6)
  (gd (inb 4 6)
  (lt (mst M4 19 iq0 (4 : Int32).toNatClampNeg (M4 18 (4 * iq0 + (1 : Int32).toNatClampNeg) vq2.toNatClampNeg)) fun M6 =>
  gd (inb 3 4)
  (gd (inb vq2 6)
  (gd (inb 5 6)
  (lt (mst M6 19 iq0 (5 : Int32).toNatClampNeg (M6 18 (4 * iq0 + (3 : Int32).toNatClampNeg) vq2.toNatClampNeg)) fun M8 =>
  gd (inb (M8 15 iq0 9) 6)
  (ob (fX8_says ((M8 15 iq0 9).toNatClampNeg) vq1 iq0 M8) fun r10 M11 =>
  some (r10, M11)))))))))))))
set_option maxRecDepth 20000 in
theorem wX5_said {g : GP} {l : Launch} {x : CT} (ok : Ok g l x RX5 cX5_said 4 (some FieldType.int) (rmL 4)) (iq0 : Nat) (vq1 : Int32) (vq2 : Int32) (vq3 : Int32) (hq0 : iq0 < 3) (M : Mem) : Sw g l x (FinQ g x eI) 4 0 0 0 [(0, .ref (gA g 15 iq0)), (1, .int vq1), (2, .int vq2), (3, .int vq3)] [] M (fX5_said iq0 vq1 vq2 vq3 M) := by
  unfold fX5_said
  refine r_aload_n (pc := 0) ok 0 dX5_said_0 rfl ?_
  refine r_getR (pc := 1) ok fr_15_4 hq0 fl_X5_22 dX5_said_1 ?_
  refine r_iconst (pc := 4) ok 0 dX5_said_4 (by decide) ?_
  refine r_iload_n (pc := 5) ok 3 dX5_said_5 rfl ?_
  refine r_bipush (pc := 6) ok 6 dX5_said_6 (by decide) ?_
  refine r_iremc (pc := 8) ok (by decide) dX5_said_8 ?_
  refine r_iast (pc := 9) ok ik_19 hq0 dX5_said_9 ?_
  refine r_nmM (fun M1 => ?_)
  refine r_aload_n (pc := 10) ok 0 dX5_said_10 rfl ?_
  refine r_getR (pc := 11) ok fr_15_4 hq0 fl_X5_22 dX5_said_11 ?_
  refine r_iconst (pc := 14) ok 1 dX5_said_14 (by decide) ?_
  refine r_iload_n (pc := 15) ok 3 dX5_said_15 rfl ?_
  refine r_bipush (pc := 16) ok 6 dX5_said_16 (by decide) ?_
  refine r_idivc (pc := 18) ok (by decide) dX5_said_18 ?_
  refine r_iast (pc := 19) ok ik_19 hq0 dX5_said_19 ?_
  refine r_nmM (fun M2 => ?_)
  refine r_aload_n (pc := 20) ok 0 dX5_said_20 rfl ?_
  refine r_getR (pc := 21) ok fr_15_4 hq0 fl_X5_22 dX5_said_21 ?_
  refine r_iconst (pc := 24) ok 2 dX5_said_24 (by decide) ?_
  refine r_aload_n (pc := 25) ok 0 dX5_said_25 rfl ?_
  refine r_getR (pc := 26) ok fr_15_2 hq0 fl_X5_9 dX5_said_26 ?_
  refine r_iload_n (pc := 29) ok 3 dX5_said_29 rfl ?_
  refine r_iald (pc := 30) ok ik_16 hq0 dX5_said_30 (fun _ => ?_)
  refine r_iast (pc := 31) ok ik_19 hq0 dX5_said_31 ?_
  refine r_nmM (fun M3 => ?_)
  refine r_aload_n (pc := 32) ok 0 dX5_said_32 rfl ?_
  refine r_getR (pc := 33) ok fr_15_4 hq0 fl_X5_22 dX5_said_33 ?_
  refine r_iconst (pc := 36) ok 3 dX5_said_36 (by decide) ?_
  refine r_aload_n (pc := 37) ok 0 dX5_said_37 rfl ?_
  refine r_getI (pc := 38) ok fi_15_8 hq0 fl_X5_49 dX5_said_38 ?_
  refine r_iast (pc := 41) ok ik_19 hq0 dX5_said_41 ?_
  refine r_nmM (fun M4 => ?_)
  refine r_aload_n (pc := 42) ok 0 dX5_said_42 rfl ?_
  refine r_getR (pc := 43) ok fr_15_4 hq0 fl_X5_22 dX5_said_43 ?_
  refine r_iconst (pc := 46) ok 4 dX5_said_46 (by decide) ?_
  refine r_aload_n (pc := 47) ok 0 dX5_said_47 rfl ?_
  refine r_getR (pc := 48) ok fr_15_3 hq0 fl_X5_17 dX5_said_48 ?_
  refine r_iconst (pc := 51) ok 1 dX5_said_51 (by decide) ?_
  refine r_aald (pc := 52) ok rk_17 hq0 rfl rfl dX5_said_52 (fun hb5 => ?_)
  refine r_iload_n (pc := 53) ok 2 dX5_said_53 rfl ?_
  refine r_iald (pc := 54) ok ik_18 (show _ < 12 from trow_lt hq0 hb5) dX5_said_54 (fun _ => ?_)
  refine r_iast (pc := 55) ok ik_19 hq0 dX5_said_55 ?_
  refine r_nmM (fun M6 => ?_)
  refine r_aload_n (pc := 56) ok 0 dX5_said_56 rfl ?_
  refine r_getR (pc := 57) ok fr_15_4 hq0 fl_X5_22 dX5_said_57 ?_
  refine r_iconst (pc := 60) ok 5 dX5_said_60 (by decide) ?_
  refine r_aload_n (pc := 61) ok 0 dX5_said_61 rfl ?_
  refine r_getR (pc := 62) ok fr_15_3 hq0 fl_X5_17 dX5_said_62 ?_
  refine r_iconst (pc := 65) ok 3 dX5_said_65 (by decide) ?_
  refine r_aald (pc := 66) ok rk_17 hq0 rfl rfl dX5_said_66 (fun hb7 => ?_)
  refine r_iload_n (pc := 67) ok 2 dX5_said_67 rfl ?_
  refine r_iald (pc := 68) ok ik_18 (show _ < 12 from trow_lt hq0 hb7) dX5_said_68 (fun _ => ?_)
  refine r_iast (pc := 69) ok ik_19 hq0 dX5_said_69 ?_
  refine r_nmM (fun M8 => ?_)
  refine r_aload_n (pc := 70) ok 0 dX5_said_70 rfl ?_
  refine r_getR (pc := 71) ok fr_15_0 hq0 fl_X5_31 dX5_said_71 ?_
  refine r_aload_n (pc := 74) ok 0 dX5_said_74 rfl ?_
  refine r_getI (pc := 75) ok fi_15_9 hq0 fl_X5_52 dX5_said_75 ?_
  refine r_aald (pc := 78) ok rk_5 (by decide) rfl rfl dX5_said_78 (fun hb9 => ?_)
  refine r_iload_n (pc := 79) ok 1 dX5_said_79 rfl ?_
  refine r_aload_n (pc := 80) ok 0 dX5_said_80 rfl ?_
  refine r_getR (pc := 81) ok fr_15_4 hq0 fl_X5_22 dX5_said_81 ?_
  refine r_callVN0 (pc := 84) ok [.int vq1, .ref (gA g 19 iq0)] [] 3 (fun rZ MZ hZ => con_X8_says g l ((M8 15 iq0 9).toNatClampNeg) vq1 iq0 hb9 hq0 _ rZ MZ hZ) cvN_X5_61 (ok_8 hb9) (rmOk_L (by decide) (by decide)) dX5_said_84 rfl rfl (Nat.le_of_ble_eq_true rfl) (fun r10 M11 => ?_)
  exact r_iret (pc := 87) ok (Nat.zero_le _) (Nat.zero_le _) rfl dX5_said_87
theorem con_X5_said (g : GP) (l : Launch) (iq0 : Nat) (vq1 : Int32) (vq2 : Int32) (vq3 : Int32) (hq0 : iq0 < 3) (M : Mem) (r : Int32) (M2 : Mem) (h : fX5_said iq0 vq1 vq2 vq3 M = some (r, M2)) : Con g l yX5_said cX5_said 4 (some FieldType.int) (rmL 4) [.ref (gA g 15 iq0), .int vq1, .int vq2, .int vq3] M (eI r) M2 :=
  Con.of (own := RX5) (f := fX5_said iq0 vq1 vq2 vq3 M) (by decide) (Nat.le_of_ble_eq_true rfl) rfl (fun x ok => wX5_said ok iq0 vq1 vq2 vq3 hq0 M) r M2 h
def fX5_heaps_B12  (k12 : Int64 → Int32 → Int32 → Mem → Option (Int32 × Mem)) (vq2 : Int64) (vq4 : Int32) (vq5 : Int32) (M : Mem) : Option (Int32 × Mem) :=
  if 36 ≤ vq5 then
    (some (vq4, M))
  else
    (if (lg_cmp (lrem (lushr vq2 vq5) 2) 1) = 0 then
      (ob (fX10_spread (lshl 1 vq5) vq2 M) fun r3 M4 =>
      lt (vq2 &&& (r3 ^^^ (-1))) fun w5 =>
      k12 w5 (vq4 + 1) (vq5 + 1) M4)
    else
      (k12 vq2 vq4 (vq5 + 1) M))
def fX5_heaps_L12  : Nat → Int64 → Int32 → Int32 → Mem → Option (Int32 × Mem)
  | 0, _, _, _, _ => none
  | n + 1, vq2, vq4, vq5, M => fX5_heaps_B12  (fX5_heaps_L12  n) vq2 vq4 vq5 M
set_option maxRecDepth 20000 in
theorem sX5_heaps_B12 {g : GP} {l : Launch} {x : CT} (ok : Ok g l x RX5 cX5_heaps 6 (some FieldType.int) (rmL 4))   (k12 : Int64 → Int32 → Int32 → Mem → Option (Int32 × Mem)) (hk12 : ∀ (vq2 : Int64) (vq4 : Int32) (vq5 : Int32) (M : Mem), Sw g l x (FinQ g x eI) 6 0 0 12 [(2, .long vq2), (4, .int vq4), (5, .int vq5)] [] M (k12 vq2 vq4 vq5 M)) (vq2 : Int64) (vq4 : Int32) (vq5 : Int32) (M : Mem) : Sw g l x (FinQ g x eI) 6 0 0 12 [(2, .long vq2), (4, .int vq4), (5, .int vq5)] [] M (fX5_heaps_B12  k12 vq2 vq4 vq5 M) := by
  unfold fX5_heaps_B12
  refine r_iload (pc := 12) ok 2 dX5_heaps_12 rfl ?_
  refine r_bipush (pc := 14) ok 36 dX5_heaps_14 (by decide) ?_
  refine r_icmp_ge (pc := 16) ok 56 dX5_heaps_16 (by decide) (fun _ => ?_) (fun _ => ?_)
  · refine r_iload (pc := 56) ok 1 dX5_heaps_56 rfl ?_
    exact r_iret (pc := 58) ok (Nat.zero_le _) (Nat.zero_le _) rfl dX5_heaps_58
  · refine r_lload_n (pc := 19) ok 0 dX5_heaps_19 rfl ?_
    refine r_iload (pc := 20) ok 2 dX5_heaps_20 rfl ?_
    refine r_lushr (pc := 22) ok dX5_heaps_22 ?_
    refine r_ldc2 (pc := 23) ok wcl_X5_59 dX5_heaps_23 ?_
    refine r_lremc (pc := 26) ok (by decide) dX5_heaps_26 ?_
    refine r_lconst (pc := 27) ok 1 dX5_heaps_27 (by decide) ?_
    refine r_lcmp (pc := 28) ok dX5_heaps_28 ?_
    refine r_if_ne (pc := 29) ok 50 dX5_heaps_29 (by decide) (fun _ => ?_) (fun _ => ?_)
    · refine r_lload_n (pc := 32) ok 0 dX5_heaps_32 rfl ?_
      refine r_lconst (pc := 33) ok 1 dX5_heaps_33 (by decide) ?_
      refine r_iload (pc := 34) ok 2 dX5_heaps_34 rfl ?_
      refine r_lshl (pc := 36) ok dX5_heaps_36 ?_
      refine r_lload_n (pc := 37) ok 0 dX5_heaps_37 rfl ?_
      refine r_callSN0 (pc := 38) ok [.long (lshl 1 vq5), .long vq2] [.long vq2] 3 (fun rZ MZ hZ => con_X10_spread g l (lshl 1 vq5) vq2 _ rZ MZ hZ) csN_X5_137 (rmOk_L (by decide) (by decide)) dX5_heaps_38 rfl rfl (Nat.le_of_ble_eq_true rfl) (fun r3 M4 => ?_)
      refine r_ldc2 (pc := 41) ok wcl_X5_141 dX5_heaps_41 ?_
      refine r_lxor (pc := 44) ok dX5_heaps_44 ?_
      refine r_land (pc := 45) ok dX5_heaps_45 ?_
      refine r_nml (fun w5 => ?_)
      refine r_lstore_n (pc := 46) ok [(2, .long w5), (4, .int vq4), (5, .int vq5)] dX5_heaps_46 rfl (by decide) rfl ?_
      refine r_iinc (pc := 47) ok 1 (vq4 + 1) [(4, .int (vq4 + 1)), (2, .long w5), (5, .int vq5)] dX5_heaps_47 rfl (congrArg (fun z => vq4 + z) (by decide : Int32.ofInt 1 = (1 : Int32))) (by decide) rfl ?_
      refine r_iinc (pc := 50) ok 2 (vq5 + 1) [(5, .int (vq5 + 1)), (4, .int (vq4 + 1)), (2, .long w5)] dX5_heaps_50 rfl (congrArg (fun z => vq5 + z) (by decide : Int32.ofInt 1 = (1 : Int32))) (by decide) rfl ?_
      refine r_goto (pc := 53) ok 12 dX5_heaps_53 (by decide) ?_
      refine r_lv [2, 1, 0] [(2, .long w5), (4, .int (vq4 + 1)), (5, .int (vq5 + 1))] rfl ?_
      exact hk12 w5 (vq4 + 1) (vq5 + 1) M4
    · refine r_iinc (pc := 50) ok 2 (vq5 + 1) [(5, .int (vq5 + 1)), (2, .long vq2), (4, .int vq4)] dX5_heaps_50 rfl (congrArg (fun z => vq5 + z) (by decide : Int32.ofInt 1 = (1 : Int32))) (by decide) rfl ?_
      refine r_goto (pc := 53) ok 12 dX5_heaps_53 (by decide) ?_
      refine r_lv [1, 2, 0] [(2, .long vq2), (4, .int vq4), (5, .int (vq5 + 1))] rfl ?_
      exact hk12 vq2 vq4 (vq5 + 1) M
theorem sX5_heaps_L12 {g : GP} {l : Launch} {x : CT} (ok : Ok g l x RX5 cX5_heaps 6 (some FieldType.int) (rmL 4))   : ∀ (n : Nat) (vq2 : Int64) (vq4 : Int32) (vq5 : Int32) (M : Mem), Sw g l x (FinQ g x eI) 6 0 0 12 [(2, .long vq2), (4, .int vq4), (5, .int vq5)] [] M (fX5_heaps_L12  n vq2 vq4 vq5 M) := by
  intro n
  induction n with
  | zero => intros; exact r_none
  | succ n ih => intro vq2 vq4 vq5 M; exact sX5_heaps_B12 ok   _ ih vq2 vq4 vq5 M
def fX5_heaps (iq0 : Nat) (vq1 : Int32) (M : Mem) : Option (Int32 × Mem) :=
  ob (fX5_thickBy iq0 vq1 M) fun r1 M2 =>
  fX5_heaps_L12 FU r1 0 0 M2
set_option maxRecDepth 20000 in
theorem wX5_heaps {g : GP} {l : Launch} {x : CT} (ok : Ok g l x RX5 cX5_heaps 6 (some FieldType.int) (rmL 4)) (iq0 : Nat) (vq1 : Int32) (hq0 : iq0 < 3) (M : Mem) : Sw g l x (FinQ g x eI) 6 0 0 0 [(0, .ref (gA g 15 iq0)), (1, .int vq1)] [] M (fX5_heaps iq0 vq1 M) := by
  unfold fX5_heaps
  refine r_aload_n (pc := 0) ok 0 dX5_heaps_0 rfl ?_
  refine r_iload_n (pc := 1) ok 1 dX5_heaps_1 rfl ?_
  refine r_callV0 (pc := 2) ok [.int vq1] [] 2 (fun rZ MZ hZ => con_X5_thickBy g l iq0 vq1 hq0 _ rZ MZ hZ) cv_X5_133 (ok_15 hq0) (rmOk_L (by decide) (by decide)) dX5_heaps_2 rfl rfl (Nat.le_of_ble_eq_true rfl) (fun r1 M2 => ?_)
  refine r_lstore_n (pc := 5) ok [(2, .long r1), (0, .ref (gA g 15 iq0)), (1, .int vq1)] dX5_heaps_5 rfl (by decide) rfl ?_
  refine r_iconst (pc := 6) ok 0 dX5_heaps_6 (by decide) ?_
  refine r_istore (pc := 7) ok [(4, .int 0), (2, .long r1), (0, .ref (gA g 15 iq0)), (1, .int vq1)] dX5_heaps_7 (by decide) rfl ?_
  refine r_iconst (pc := 9) ok 0 dX5_heaps_9 (by decide) ?_
  refine r_istore (pc := 10) ok [(5, .int 0), (4, .int 0), (2, .long r1), (0, .ref (gA g 15 iq0)), (1, .int vq1)] dX5_heaps_10 (by decide) rfl ?_
  refine r_lv [2, 1, 0] [(2, .long r1), (4, .int 0), (5, .int 0)] rfl ?_
  exact sX5_heaps_L12 ok FU r1 0 0 M2
theorem con_X5_heaps (g : GP) (l : Launch) (iq0 : Nat) (vq1 : Int32) (hq0 : iq0 < 3) (M : Mem) (r : Int32) (M2 : Mem) (h : fX5_heaps iq0 vq1 M = some (r, M2)) : Con g l yX5_heaps cX5_heaps 6 (some FieldType.int) (rmL 4) [.ref (gA g 15 iq0), .int vq1] M (eI r) M2 :=
  Con.of (own := RX5) (f := fX5_heaps iq0 vq1 M) (by decide) (Nat.le_of_ble_eq_true rfl) rfl (fun x ok => wX5_heaps ok iq0 vq1 hq0 M) r M2 h
def fX6_tellsWalk_B2 (iq0 : Nat) (k2 : Int32 → Mem → Option (Int32 × Mem)) (vq1 : Int32) (M : Mem) : Option (Int32 × Mem) :=
  if (M 13 iq0 2) ≤ vq1 then
    (some (1, M))
  else
    (gd (inb vq1 40)
    (ob (fX10_isCell (M 14 iq0 vq1.toNatClampNeg) M) fun r1 M2 =>
    if r1 = 0 then
      (some (0, M2))
    else
      (if vq1 ≤ 0 then
        (k2 (vq1 + 1) M2)
      else
        (gd (inb (vq1 - 1) 40)
        (gd (inb vq1 40)
        (ob (fX10_apart (M2 14 iq0 (vq1 - 1).toNatClampNeg) (M2 14 iq0 vq1.toNatClampNeg) M2) fun r3 M4 =>
        if r3 = 1 then
          (k2 (vq1 + 1) M4)
        else
          (some (0, M4))))))))
def fX6_tellsWalk_L2 (iq0 : Nat) : Nat → Int32 → Mem → Option (Int32 × Mem)
  | 0, _, _ => none
  | n + 1, vq1, M => fX6_tellsWalk_B2 iq0 (fX6_tellsWalk_L2 iq0 n) vq1 M
set_option maxRecDepth 20000 in
theorem sX6_tellsWalk_B2 {g : GP} {l : Launch} {x : CT} (ok : Ok g l x RX6 cX6_tellsWalk 2 (some FieldType.boolean) (rmL 4)) (iq0 : Nat) (h0 : iq0 < 4) (k2 : Int32 → Mem → Option (Int32 × Mem)) (hk2 : ∀ (vq1 : Int32) (M : Mem), Sw g l x (FinQ g x eI) 2 0 0 2 [(0, .ref (gA g 13 iq0)), (1, .int vq1)] [] M (k2 vq1 M)) (vq1 : Int32) (M : Mem) : Sw g l x (FinQ g x eI) 2 0 0 2 [(0, .ref (gA g 13 iq0)), (1, .int vq1)] [] M (fX6_tellsWalk_B2 iq0 k2 vq1 M) := by
  unfold fX6_tellsWalk_B2
  refine r_iload_n (pc := 2) ok 1 dX6_tellsWalk_2 rfl ?_
  refine r_aload_n (pc := 3) ok 0 dX6_tellsWalk_3 rfl ?_
  refine r_getI (pc := 4) ok fi_13_2 h0 fl_X6_19 dX6_tellsWalk_4 ?_
  refine r_icmp_ge (pc := 7) ok 55 dX6_tellsWalk_7 (by decide) (fun _ => ?_) (fun _ => ?_)
  · refine r_iconst (pc := 55) ok 1 dX6_tellsWalk_55 (by decide) ?_
    exact r_zret (pc := 56) ok (Nat.zero_le _) (Nat.zero_le _) rfl rfl dX6_tellsWalk_56
  · refine r_aload_n (pc := 10) ok 0 dX6_tellsWalk_10 rfl ?_
    refine r_getR (pc := 11) ok fr_13_0 h0 fl_X6_9 dX6_tellsWalk_11 ?_
    refine r_iload_n (pc := 14) ok 1 dX6_tellsWalk_14 rfl ?_
    refine r_iald (pc := 15) ok ik_14 h0 dX6_tellsWalk_15 (fun _ => ?_)
    refine r_callSN0 (pc := 16) ok [.int (M 14 iq0 vq1.toNatClampNeg)] [] 3 (fun rZ MZ hZ => con_X10_isCell g l (M 14 iq0 vq1.toNatClampNeg) _ rZ MZ hZ) csN_X6_28 (rmOk_L (by decide) (by decide)) dX6_tellsWalk_16 rfl rfl (Nat.le_of_ble_eq_true rfl) (fun r1 M2 => ?_)
    refine r_if_eq (pc := 19) ok 47 dX6_tellsWalk_19 (by decide) (fun _ => ?_) (fun _ => ?_)
    · refine r_iconst (pc := 47) ok 0 dX6_tellsWalk_47 (by decide) ?_
      exact r_zret (pc := 48) ok (Nat.zero_le _) (Nat.zero_le _) rfl rfl dX6_tellsWalk_48
    · refine r_iload_n (pc := 22) ok 1 dX6_tellsWalk_22 rfl ?_
      refine r_if_le (pc := 23) ok 49 dX6_tellsWalk_23 (by decide) (fun _ => ?_) (fun _ => ?_)
      · refine r_iinc (pc := 49) ok 1 (vq1 + 1) [(1, .int (vq1 + 1)), (0, .ref (gA g 13 iq0))] dX6_tellsWalk_49 rfl (congrArg (fun z => vq1 + z) (by decide : Int32.ofInt 1 = (1 : Int32))) (by decide) rfl ?_
        refine r_goto (pc := 52) ok 2 dX6_tellsWalk_52 (by decide) ?_
        refine r_lv [1, 0] [(0, .ref (gA g 13 iq0)), (1, .int (vq1 + 1))] rfl ?_
        exact hk2 (vq1 + 1) M2
      · refine r_aload_n (pc := 26) ok 0 dX6_tellsWalk_26 rfl ?_
        refine r_getR (pc := 27) ok fr_13_0 h0 fl_X6_9 dX6_tellsWalk_27 ?_
        refine r_iload_n (pc := 30) ok 1 dX6_tellsWalk_30 rfl ?_
        refine r_iconst (pc := 31) ok 1 dX6_tellsWalk_31 (by decide) ?_
        refine r_isub (pc := 32) ok dX6_tellsWalk_32 ?_
        refine r_iald (pc := 33) ok ik_14 h0 dX6_tellsWalk_33 (fun _ => ?_)
        refine r_aload_n (pc := 34) ok 0 dX6_tellsWalk_34 rfl ?_
        refine r_getR (pc := 35) ok fr_13_0 h0 fl_X6_9 dX6_tellsWalk_35 ?_
        refine r_iload_n (pc := 38) ok 1 dX6_tellsWalk_38 rfl ?_
        refine r_iald (pc := 39) ok ik_14 h0 dX6_tellsWalk_39 (fun _ => ?_)
        refine r_callSN0 (pc := 40) ok [.int (M2 14 iq0 (vq1 - 1).toNatClampNeg), .int (M2 14 iq0 vq1.toNatClampNeg)] [] 2 (fun rZ MZ hZ => con_X10_apart g l (M2 14 iq0 (vq1 - 1).toNatClampNeg) (M2 14 iq0 vq1.toNatClampNeg) _ rZ MZ hZ) csN_X6_32 (rmOk_L (by decide) (by decide)) dX6_tellsWalk_40 rfl rfl (Nat.le_of_ble_eq_true rfl) (fun r3 M4 => ?_)
        refine r_iconst (pc := 43) ok 1 dX6_tellsWalk_43 (by decide) ?_
        refine r_icmp_eq (pc := 44) ok 49 dX6_tellsWalk_44 (by decide) (fun _ => ?_) (fun _ => ?_)
        · refine r_iinc (pc := 49) ok 1 (vq1 + 1) [(1, .int (vq1 + 1)), (0, .ref (gA g 13 iq0))] dX6_tellsWalk_49 rfl (congrArg (fun z => vq1 + z) (by decide : Int32.ofInt 1 = (1 : Int32))) (by decide) rfl ?_
          refine r_goto (pc := 52) ok 2 dX6_tellsWalk_52 (by decide) ?_
          refine r_lv [1, 0] [(0, .ref (gA g 13 iq0)), (1, .int (vq1 + 1))] rfl ?_
          exact hk2 (vq1 + 1) M4
        · refine r_iconst (pc := 47) ok 0 dX6_tellsWalk_47 (by decide) ?_
          exact r_zret (pc := 48) ok (Nat.zero_le _) (Nat.zero_le _) rfl rfl dX6_tellsWalk_48
theorem sX6_tellsWalk_L2 {g : GP} {l : Launch} {x : CT} (ok : Ok g l x RX6 cX6_tellsWalk 2 (some FieldType.boolean) (rmL 4)) (iq0 : Nat) (h0 : iq0 < 4) : ∀ (n : Nat) (vq1 : Int32) (M : Mem), Sw g l x (FinQ g x eI) 2 0 0 2 [(0, .ref (gA g 13 iq0)), (1, .int vq1)] [] M (fX6_tellsWalk_L2 iq0 n vq1 M) := by
  intro n
  induction n with
  | zero => intros; exact r_none
  | succ n ih => intro vq1 M; exact sX6_tellsWalk_B2 ok iq0 h0 _ ih vq1 M
def fX6_tellsWalk (iq0 : Nat) (M : Mem) : Option (Int32 × Mem) :=
  fX6_tellsWalk_L2 iq0 FU 0 M
set_option maxRecDepth 20000 in
theorem wX6_tellsWalk {g : GP} {l : Launch} {x : CT} (ok : Ok g l x RX6 cX6_tellsWalk 2 (some FieldType.boolean) (rmL 4)) (iq0 : Nat) (hq0 : iq0 < 4) (M : Mem) : Sw g l x (FinQ g x eI) 2 0 0 0 [(0, .ref (gA g 13 iq0))] [] M (fX6_tellsWalk iq0 M) := by
  unfold fX6_tellsWalk
  refine r_iconst (pc := 0) ok 0 dX6_tellsWalk_0 (by decide) ?_
  refine r_istore_n (pc := 1) ok [(1, .int 0), (0, .ref (gA g 13 iq0))] dX6_tellsWalk_1 rfl (by decide) rfl ?_
  refine r_lv [1, 0] [(0, .ref (gA g 13 iq0)), (1, .int 0)] rfl ?_
  exact sX6_tellsWalk_L2 ok iq0 hq0 FU 0 M
theorem con_X6_tellsWalk (g : GP) (l : Launch) (iq0 : Nat) (hq0 : iq0 < 4) (M : Mem) (r : Int32) (M2 : Mem) (h : fX6_tellsWalk iq0 M = some (r, M2)) : Con g l yX6_tellsWalk cX6_tellsWalk 2 (some FieldType.boolean) (rmL 4) [.ref (gA g 13 iq0)] M (eI r) M2 :=
  Con.of (own := RX6) (f := fX6_tellsWalk iq0 M) (by decide) (Nat.le_of_ble_eq_true rfl) rfl (fun x ok => wX6_tellsWalk ok iq0 hq0 M) r M2 h
def fX10_asks (vq1 : Int32) (vq2 : Int32) (vq3 : Int32) (M : Mem) : Option (Int32 × Mem) :=
  ob (fX10_within vq1 0 2 M) fun r1 M2 =>
  if r1 = 0 then
    (some (-1000, M2))
  else
    (ob (fX5_has 0 vq2 M2) fun r3 M4 =>
    if r3 = 0 then
      (some (-1000, M4))
    else
      (ob (fX10_isCell vq3 M4) fun r5 M6 =>
      if r5 = 0 then
        (some (-1000, M6))
      else
        (ob (fX5_said 0 vq1 vq2 vq3 M6) fun r7 M8 =>
        some (r7, M8))))
set_option maxRecDepth 20000 in
theorem wX10_asks {g : GP} {l : Launch} {x : CT} (ok : Ok g l x RX10 cX10_asks 4 (some FieldType.int) (rmL 5)) (vq1 : Int32) (vq2 : Int32) (vq3 : Int32)  (M : Mem) : Sw g l x (FinQ g x eI) 4 0 0 0 [(0, .ref (gA g 0 0)), (1, .int vq1), (2, .int vq2), (3, .int vq3)] [] M (fX10_asks vq1 vq2 vq3 M) := by
  unfold fX10_asks
  refine r_iload_n (pc := 0) ok 1 dX10_asks_0 rfl ?_
  refine r_iconst (pc := 1) ok 0 dX10_asks_1 (by decide) ?_
  refine r_iconst (pc := 2) ok 2 dX10_asks_2 (by decide) ?_
  refine r_callS0 (pc := 3) ok [.int vq1, .int 0, .int 2] [] 2 (fun rZ MZ hZ => con_X10_within g l vq1 0 2 _ rZ MZ hZ) cs_X10_91 (rmOk_L (by decide) (by decide)) dX10_asks_3 rfl rfl (Nat.le_of_ble_eq_true rfl) (fun r1 M2 => ?_)
  refine r_if_eq (pc := 6) ok 27 dX10_asks_6 (by decide) (fun _ => ?_) (fun _ => ?_)
  · refine r_sipush (pc := 27) ok (-1000) dX10_asks_27 (by decide) ?_
    exact r_iret (pc := 30) ok (Nat.zero_le _) (Nat.zero_le _) rfl dX10_asks_30
  · refine r_aload_n (pc := 9) ok 0 dX10_asks_9 rfl ?_
    refine r_getR (pc := 10) ok fr_0_4 (by decide) fl_X10_61 dX10_asks_10 ?_
    refine r_iload_n (pc := 13) ok 2 dX10_asks_13 rfl ?_
    refine r_callVN0 (pc := 14) ok [.int vq2] [] 3 (fun rZ MZ hZ => con_X5_has g l 0 vq2 (by decide) _ rZ MZ hZ) cvN_X10_117 (ok_15 (by decide)) (rmOk_L (by decide) (by decide)) dX10_asks_14 rfl rfl (Nat.le_of_ble_eq_true rfl) (fun r3 M4 => ?_)
    refine r_if_eq (pc := 17) ok 27 dX10_asks_17 (by decide) (fun _ => ?_) (fun _ => ?_)
    · refine r_sipush (pc := 27) ok (-1000) dX10_asks_27 (by decide) ?_
      exact r_iret (pc := 30) ok (Nat.zero_le _) (Nat.zero_le _) rfl dX10_asks_30
    · refine r_iload_n (pc := 20) ok 3 dX10_asks_20 rfl ?_
      refine r_callS0 (pc := 21) ok [.int vq3] [] 3 (fun rZ MZ hZ => con_X10_isCell g l vq3 _ rZ MZ hZ) cs_X10_87 (rmOk_L (by decide) (by decide)) dX10_asks_21 rfl rfl (Nat.le_of_ble_eq_true rfl) (fun r5 M6 => ?_)
      refine r_if_ne (pc := 24) ok 31 dX10_asks_24 (by decide) (fun _ => ?_) (fun _ => ?_)
      · refine r_sipush (pc := 27) ok (-1000) dX10_asks_27 (by decide) ?_
        exact r_iret (pc := 30) ok (Nat.zero_le _) (Nat.zero_le _) rfl dX10_asks_30
      · refine r_aload_n (pc := 31) ok 0 dX10_asks_31 rfl ?_
        refine r_getR (pc := 32) ok fr_0_4 (by decide) fl_X10_61 dX10_asks_32 ?_
        refine r_iload_n (pc := 35) ok 1 dX10_asks_35 rfl ?_
        refine r_iload_n (pc := 36) ok 2 dX10_asks_36 rfl ?_
        refine r_iload_n (pc := 37) ok 3 dX10_asks_37 rfl ?_
        refine r_callVN0 (pc := 38) ok [.int vq1, .int vq2, .int vq3] [] 4 (fun rZ MZ hZ => con_X5_said g l 0 vq1 vq2 vq3 (by decide) _ rZ MZ hZ) cvN_X10_120 (ok_15 (by decide)) (rmOk_L (by decide) (by decide)) dX10_asks_38 rfl rfl (Nat.le_of_ble_eq_true rfl) (fun r7 M8 => ?_)
        exact r_iret (pc := 41) ok (Nat.zero_le _) (Nat.zero_le _) rfl dX10_asks_41
theorem con_X10_asks (g : GP) (l : Launch) (vq1 : Int32) (vq2 : Int32) (vq3 : Int32)  (M : Mem) (r : Int32) (M2 : Mem) (h : fX10_asks vq1 vq2 vq3 M = some (r, M2)) : Con g l yX10_asks cX10_asks 4 (some FieldType.int) (rmL 5) [.ref (gA g 0 0), .int vq1, .int vq2, .int vq3] M (eI r) M2 :=
  Con.of (own := RX10) (f := fX10_asks vq1 vq2 vq3 M) (by decide) (Nat.le_of_ble_eq_true rfl) rfl (fun x ok => wX10_asks ok vq1 vq2 vq3  M) r M2 h
def fX10_room (vq1 : Int32) (vq2 : Int32) (M : Mem) : Option (Int32 × Mem) :=
  ob (fX10_within vq1 0 999 M) fun r1 M2 =>
  if r1 = 0 then
    (some (-2, M2))
  else
    (if vq2 = 0 then
      (ob (fX5_thickestCell 0 M2) fun r3 M4 =>
      some (r3, M4))
    else
      (if vq2 = 1 then
        (ob (fX5_thinnestCell 0 M2) fun r6 M7 =>
        some (r6, M7))
      else
        (if vq2 = 2 then
          (ob (fX5_heaps 0 vq1 M2) fun r9 M10 =>
          some (r9, M10))
        else
          (some (-2, M2)))))
set_option maxRecDepth 20000 in
theorem wX10_room {g : GP} {l : Launch} {x : CT} (ok : Ok g l x RX10 cX10_room 3 (some FieldType.int) (rmL 5)) (vq1 : Int32) (vq2 : Int32)  (M : Mem) : Sw g l x (FinQ g x eI) 3 0 0 0 [(0, .ref (gA g 0 0)), (1, .int vq1), (2, .int vq2)] [] M (fX10_room vq1 vq2 M) := by
  unfold fX10_room
  refine r_iload_n (pc := 0) ok 1 dX10_room_0 rfl ?_
  refine r_iconst (pc := 1) ok 0 dX10_room_1 (by decide) ?_
  refine r_sipush (pc := 2) ok 999 dX10_room_2 (by decide) ?_
  refine r_callS0 (pc := 5) ok [.int vq1, .int 0, .int 999] [] 2 (fun rZ MZ hZ => con_X10_within g l vq1 0 999 _ rZ MZ hZ) cs_X10_91 (rmOk_L (by decide) (by decide)) dX10_room_5 rfl rfl (Nat.le_of_ble_eq_true rfl) (fun r1 M2 => ?_)
  refine r_if_ne (pc := 8) ok 14 dX10_room_8 (by decide) (fun _ => ?_) (fun _ => ?_)
  · refine r_bipush (pc := 11) ok (-2) dX10_room_11 (by decide) ?_
    exact r_iret (pc := 13) ok (Nat.zero_le _) (Nat.zero_le _) rfl dX10_room_13
  · refine r_iload_n (pc := 14) ok 2 dX10_room_14 rfl ?_
    refine r_swc (pc := 15) ok (25) 40 dX10_room_15 (by decide +kernel) (by decide) (fun _ => ?_) (fun hs5 => ?_)
    · refine r_aload_n (pc := 40) ok 0 dX10_room_40 rfl ?_
      refine r_getR (pc := 41) ok fr_0_4 (by decide) fl_X10_61 dX10_room_41 ?_
      refine r_callVN0 (pc := 44) ok [] [] 2 (fun rZ MZ hZ => con_X5_thickestCell g l 0 (by decide) _ rZ MZ hZ) cvN_X10_188 (ok_15 (by decide)) (rmOk_L (by decide) (by decide)) dX10_room_44 rfl rfl (Nat.le_of_ble_eq_true rfl) (fun r3 M4 => ?_)
      exact r_iret (pc := 47) ok (Nat.zero_le _) (Nat.zero_le _) rfl dX10_room_47
    · refine r_swc (pc := 15) ok (33) 48 dX10_room_15 (by decide +kernel) (by decide) (fun _ => ?_) (fun hs8 => ?_)
      · refine r_aload_n (pc := 48) ok 0 dX10_room_48 rfl ?_
        refine r_getR (pc := 49) ok fr_0_4 (by decide) fl_X10_61 dX10_room_49 ?_
        refine r_callVN0 (pc := 52) ok [] [] 2 (fun rZ MZ hZ => con_X5_thinnestCell g l 0 (by decide) _ rZ MZ hZ) cvN_X10_192 (ok_15 (by decide)) (rmOk_L (by decide) (by decide)) dX10_room_52 rfl rfl (Nat.le_of_ble_eq_true rfl) (fun r6 M7 => ?_)
        exact r_iret (pc := 55) ok (Nat.zero_le _) (Nat.zero_le _) rfl dX10_room_55
      · refine r_swc (pc := 15) ok (41) 56 dX10_room_15 (by decide +kernel) (by decide) (fun _ => ?_) (fun hs11 => ?_)
        · refine r_aload_n (pc := 56) ok 0 dX10_room_56 rfl ?_
          refine r_getR (pc := 57) ok fr_0_4 (by decide) fl_X10_61 dX10_room_57 ?_
          refine r_iload_n (pc := 60) ok 1 dX10_room_60 rfl ?_
          refine r_callVN0 (pc := 61) ok [.int vq1] [] 4 (fun rZ MZ hZ => con_X5_heaps g l 0 vq1 (by decide) _ rZ MZ hZ) cvN_X10_195 (ok_15 (by decide)) (rmOk_L (by decide) (by decide)) dX10_room_61 rfl rfl (Nat.le_of_ble_eq_true rfl) (fun r9 M10 => ?_)
          exact r_iret (pc := 64) ok (Nat.zero_le _) (Nat.zero_le _) rfl dX10_room_64
        · refine r_swd (pc := 15) ok 65 dX10_room_15 (by have := lv_neT hs5 (by decide : (0 : Int32).toInt = 0) ; have := lv_neT hs8 (by decide : (1 : Int32).toInt = 1) ; have := lv_neT hs11 (by decide : (2 : Int32).toInt = 2) ; omega) (by decide) ?_
          refine r_bipush (pc := 65) ok (-2) dX10_room_65 (by decide) ?_
          exact r_iret (pc := 67) ok (Nat.zero_le _) (Nat.zero_le _) rfl dX10_room_67
theorem con_X10_room (g : GP) (l : Launch) (vq1 : Int32) (vq2 : Int32)  (M : Mem) (r : Int32) (M2 : Mem) (h : fX10_room vq1 vq2 M = some (r, M2)) : Con g l yX10_room cX10_room 3 (some FieldType.int) (rmL 5) [.ref (gA g 0 0), .int vq1, .int vq2] M (eI r) M2 :=
  Con.of (own := RX10) (f := fX10_room vq1 vq2 M) (by decide) (Nat.le_of_ble_eq_true rfl) rfl (fun x ok => wX10_room ok vq1 vq2  M) r M2 h
def fX10_refuseWalk (vq1 : Int32) (vq2 : Int32) (M : Mem) : Option (Int32 × Mem) :=
  ob (fX10_isSheet vq1 M) fun r1 M2 =>
  if r1 = 0 then
    (some (-2, M2))
  else
    (gd (inb vq1 4)
    (if (M2 13 vq1.toNatClampNeg 1) = (-1) then
      (some (-11, M2))
    else
      (gd (inb vq1 4)
      (ob (fX6_tellsWalk vq1.toNatClampNeg M2) fun r5 M6 =>
      if r5 = 0 then
        (some (-2, M6))
      else
        (ob (fX5_has 0 vq2 M6) fun r7 M8 =>
        if r7 = 0 then
          (some (-5, M8))
        else
          (some (0, M8)))))))
set_option maxRecDepth 20000 in
theorem wX10_refuseWalk {g : GP} {l : Launch} {x : CT} (ok : Ok g l x RX10 cX10_refuseWalk 3 (some FieldType.int) (rmL 5)) (vq1 : Int32) (vq2 : Int32)  (M : Mem) : Sw g l x (FinQ g x eI) 3 0 0 0 [(0, .ref (gA g 0 0)), (1, .int vq1), (2, .int vq2)] [] M (fX10_refuseWalk vq1 vq2 M) := by
  unfold fX10_refuseWalk
  refine r_iload_n (pc := 0) ok 1 dX10_refuseWalk_0 rfl ?_
  refine r_callS0 (pc := 1) ok [.int vq1] [] 3 (fun rZ MZ hZ => con_X10_isSheet g l vq1 _ rZ MZ hZ) cs_X10_219 (rmOk_L (by decide) (by decide)) dX10_refuseWalk_1 rfl rfl (Nat.le_of_ble_eq_true rfl) (fun r1 M2 => ?_)
  refine r_if_ne (pc := 4) ok 10 dX10_refuseWalk_4 (by decide) (fun _ => ?_) (fun _ => ?_)
  · refine r_bipush (pc := 7) ok (-2) dX10_refuseWalk_7 (by decide) ?_
    exact r_iret (pc := 9) ok (Nat.zero_le _) (Nat.zero_le _) rfl dX10_refuseWalk_9
  · refine r_aload_n (pc := 10) ok 0 dX10_refuseWalk_10 rfl ?_
    refine r_getR (pc := 11) ok fr_0_3 (by decide) fl_X10_51 dX10_refuseWalk_11 ?_
    refine r_iload_n (pc := 14) ok 1 dX10_refuseWalk_14 rfl ?_
    refine r_aald (pc := 15) ok rk_7 (by decide) rfl rfl dX10_refuseWalk_15 (fun hb3 => ?_)
    refine r_getIN (pc := 16) ok fi_13_1 hb3 flN_X10_244 dX10_refuseWalk_16 ?_
    refine r_iconst (pc := 19) ok (-1) dX10_refuseWalk_19 (by decide) ?_
    refine r_icmp_ne (pc := 20) ok 26 dX10_refuseWalk_20 (by decide) (fun _ => ?_) (fun _ => ?_)
    · refine r_bipush (pc := 23) ok (-11) dX10_refuseWalk_23 (by decide) ?_
      exact r_iret (pc := 25) ok (Nat.zero_le _) (Nat.zero_le _) rfl dX10_refuseWalk_25
    · refine r_aload_n (pc := 26) ok 0 dX10_refuseWalk_26 rfl ?_
      refine r_getR (pc := 27) ok fr_0_3 (by decide) fl_X10_51 dX10_refuseWalk_27 ?_
      refine r_iload_n (pc := 30) ok 1 dX10_refuseWalk_30 rfl ?_
      refine r_aald (pc := 31) ok rk_7 (by decide) rfl rfl dX10_refuseWalk_31 (fun hb4 => ?_)
      refine r_callVN0 (pc := 32) ok [] [] 4 (fun rZ MZ hZ => con_X6_tellsWalk g l vq1.toNatClampNeg hb4 _ rZ MZ hZ) cvN_X10_263 (ok_13 hb4) (rmOk_L (by decide) (by decide)) dX10_refuseWalk_32 rfl rfl (Nat.le_of_ble_eq_true rfl) (fun r5 M6 => ?_)
      refine r_if_ne (pc := 35) ok 41 dX10_refuseWalk_35 (by decide) (fun _ => ?_) (fun _ => ?_)
      · refine r_bipush (pc := 38) ok (-2) dX10_refuseWalk_38 (by decide) ?_
        exact r_iret (pc := 40) ok (Nat.zero_le _) (Nat.zero_le _) rfl dX10_refuseWalk_40
      · refine r_aload_n (pc := 41) ok 0 dX10_refuseWalk_41 rfl ?_
        refine r_getR (pc := 42) ok fr_0_4 (by decide) fl_X10_61 dX10_refuseWalk_42 ?_
        refine r_iload_n (pc := 45) ok 2 dX10_refuseWalk_45 rfl ?_
        refine r_callVN0 (pc := 46) ok [.int vq2] [] 3 (fun rZ MZ hZ => con_X5_has g l 0 vq2 (by decide) _ rZ MZ hZ) cvN_X10_117 (ok_15 (by decide)) (rmOk_L (by decide) (by decide)) dX10_refuseWalk_46 rfl rfl (Nat.le_of_ble_eq_true rfl) (fun r7 M8 => ?_)
        refine r_if_eq (pc := 49) ok 56 dX10_refuseWalk_49 (by decide) (fun _ => ?_) (fun _ => ?_)
        · refine r_bipush (pc := 56) ok (-5) dX10_refuseWalk_56 (by decide) ?_
          exact r_iret (pc := 58) ok (Nat.zero_le _) (Nat.zero_le _) rfl dX10_refuseWalk_58
        · refine r_iconst (pc := 52) ok 0 dX10_refuseWalk_52 (by decide) ?_
          refine r_goto (pc := 53) ok 58 dX10_refuseWalk_53 (by decide) ?_
          exact r_iret (pc := 58) ok (Nat.zero_le _) (Nat.zero_le _) rfl dX10_refuseWalk_58
theorem con_X10_refuseWalk (g : GP) (l : Launch) (vq1 : Int32) (vq2 : Int32)  (M : Mem) (r : Int32) (M2 : Mem) (h : fX10_refuseWalk vq1 vq2 M = some (r, M2)) : Con g l yX10_refuseWalk cX10_refuseWalk 3 (some FieldType.int) (rmL 5) [.ref (gA g 0 0), .int vq1, .int vq2] M (eI r) M2 :=
  Con.of (own := RX10) (f := fX10_refuseWalk vq1 vq2 M) (by decide) (Nat.le_of_ble_eq_true rfl) rfl (fun x ok => wX10_refuseWalk ok vq1 vq2  M) r M2 h
def fX10_refuseTaleOf (vq1 : Int32) (vq2 : Int32) (vq3 : Int32) (M : Mem) : Option (Int32 × Mem) :=
  ob (fX10_refuseTale vq1 vq2 M) fun r1 M2 =>
  if r1 = 0 then
    (ob (fX5_has 0 vq3 M2) fun r3 M4 =>
    if r3 = 0 then
      (some (-6, M4))
    else
      (some (0, M4)))
  else
    (some (r1, M2))
set_option maxRecDepth 20000 in
theorem wX10_refuseTaleOf {g : GP} {l : Launch} {x : CT} (ok : Ok g l x RX10 cX10_refuseTaleOf 5 (some FieldType.int) (rmL 5)) (vq1 : Int32) (vq2 : Int32) (vq3 : Int32)  (M : Mem) : Sw g l x (FinQ g x eI) 5 0 0 0 [(0, .ref (gA g 0 0)), (1, .int vq1), (2, .int vq2), (3, .int vq3)] [] M (fX10_refuseTaleOf vq1 vq2 vq3 M) := by
  unfold fX10_refuseTaleOf
  refine r_aload_n (pc := 0) ok 0 dX10_refuseTaleOf_0 rfl ?_
  refine r_iload_n (pc := 1) ok 1 dX10_refuseTaleOf_1 rfl ?_
  refine r_iload_n (pc := 2) ok 2 dX10_refuseTaleOf_2 rfl ?_
  refine r_callV0 (pc := 3) ok [.int vq1, .int vq2] [] 4 (fun rZ MZ hZ => con_X10_refuseTale g l vq1 vq2 _ rZ MZ hZ) cv_X10_205 ok_0 (rmOk_L (by decide) (by decide)) dX10_refuseTaleOf_3 rfl rfl (Nat.le_of_ble_eq_true rfl) (fun r1 M2 => ?_)
  refine r_istore (pc := 6) ok [(4, .int r1), (0, .ref (gA g 0 0)), (1, .int vq1), (2, .int vq2), (3, .int vq3)] dX10_refuseTaleOf_6 (by decide) rfl ?_
  refine r_iload (pc := 8) ok 0 dX10_refuseTaleOf_8 rfl ?_
  refine r_if_eq (pc := 10) ok 16 dX10_refuseTaleOf_10 (by decide) (fun _ => ?_) (fun _ => ?_)
  · refine r_aload_n (pc := 16) ok 1 dX10_refuseTaleOf_16 rfl ?_
    refine r_getR (pc := 17) ok fr_0_4 (by decide) fl_X10_61 dX10_refuseTaleOf_17 ?_
    refine r_iload_n (pc := 20) ok 4 dX10_refuseTaleOf_20 rfl ?_
    refine r_callVN0 (pc := 21) ok [.int vq3] [] 3 (fun rZ MZ hZ => con_X5_has g l 0 vq3 (by decide) _ rZ MZ hZ) cvN_X10_117 (ok_15 (by decide)) (rmOk_L (by decide) (by decide)) dX10_refuseTaleOf_21 rfl rfl (Nat.le_of_ble_eq_true rfl) (fun r3 M4 => ?_)
    refine r_if_eq (pc := 24) ok 31 dX10_refuseTaleOf_24 (by decide) (fun _ => ?_) (fun _ => ?_)
    · refine r_bipush (pc := 31) ok (-6) dX10_refuseTaleOf_31 (by decide) ?_
      exact r_iret (pc := 33) ok (Nat.zero_le _) (Nat.zero_le _) rfl dX10_refuseTaleOf_33
    · refine r_iconst (pc := 27) ok 0 dX10_refuseTaleOf_27 (by decide) ?_
      refine r_goto (pc := 28) ok 33 dX10_refuseTaleOf_28 (by decide) ?_
      exact r_iret (pc := 33) ok (Nat.zero_le _) (Nat.zero_le _) rfl dX10_refuseTaleOf_33
  · refine r_iload (pc := 13) ok 0 dX10_refuseTaleOf_13 rfl ?_
    exact r_iret (pc := 15) ok (Nat.zero_le _) (Nat.zero_le _) rfl dX10_refuseTaleOf_15
theorem con_X10_refuseTaleOf (g : GP) (l : Launch) (vq1 : Int32) (vq2 : Int32) (vq3 : Int32)  (M : Mem) (r : Int32) (M2 : Mem) (h : fX10_refuseTaleOf vq1 vq2 vq3 M = some (r, M2)) : Con g l yX10_refuseTaleOf cX10_refuseTaleOf 5 (some FieldType.int) (rmL 5) [.ref (gA g 0 0), .int vq1, .int vq2, .int vq3] M (eI r) M2 :=
  Con.of (own := RX10) (f := fX10_refuseTaleOf vq1 vq2 vq3 M) (by decide) (Nat.le_of_ble_eq_true rfl) rfl (fun x ok => wX10_refuseTaleOf ok vq1 vq2 vq3  M) r M2 h
def fX11_eRead_J61 (k14 : Int32 → Int32 → Mem → Option (Int32 × Mem)) (vq2 : Int32) (s0 : Int32) (M : Mem) : Option (Int32 × Mem) :=
  ob (fX11_puts s0 M) fun r17 M18 =>
  ob (fX11_unwinds 7 M18) fun r19 M20 =>
  k14 0 vq2 M20
set_option maxRecDepth 20000 in
theorem sX11_eRead_J61 {g : GP} {l : Launch} {x : CT} {k14 : Int32 → Int32 → Mem → Option (Int32 × Mem)} (ok : Ok g l x RX11 cX11_eRead 4 (some FieldType.boolean) (rmL 5)) (vq2 : Int32) (s0 : Int32)  (hk14 : ∀ (vq1 : Int32) (vq2 : Int32) (M : Mem), Sw g l x (FinQ g x eI) 4 0 0 14 [(0, .ref (gA g 22 0)), (1, .int vq1), (2, .int vq2)] [] M (k14 vq1 vq2 M)) (M : Mem) : Sw g l x (FinQ g x eI) 4 0 0 61 [(0, .ref (gA g 22 0)), (2, .int vq2)] [.int s0, .ref (gA g 22 0)] M (fX11_eRead_J61 k14 vq2 s0 M) := by
  unfold fX11_eRead_J61
  refine r_callV0 (pc := 61) ok [.int s0] [] 2 (fun rZ MZ hZ => con_X11_puts g l s0 _ rZ MZ hZ) cv_X11_139 ok_22 (rmOk_L (by decide) (by decide)) dX11_eRead_61 rfl rfl (Nat.le_of_ble_eq_true rfl) (fun r17 M18 => ?_)
  refine r_aload_n (pc := 64) ok 0 dX11_eRead_64 rfl ?_
  refine r_bipush (pc := 65) ok 7 dX11_eRead_65 (by decide) ?_
  refine r_callV0 (pc := 67) ok [.int 7] [] 3 (fun rZ MZ hZ => con_X11_unwinds g l 7 _ rZ MZ hZ) cv_X11_146 ok_22 (rmOk_L (by decide) (by decide)) dX11_eRead_67 rfl rfl (Nat.le_of_ble_eq_true rfl) (fun r19 M20 => ?_)
  refine r_iconst (pc := 70) ok 0 dX11_eRead_70 (by decide) ?_
  refine r_istore_n (pc := 71) ok [(1, .int 0), (0, .ref (gA g 22 0)), (2, .int vq2)] dX11_eRead_71 rfl (by decide) rfl ?_
  refine r_goto (pc := 72) ok 14 dX11_eRead_72 (by decide) ?_
  refine r_lv [1, 0, 2] [(0, .ref (gA g 22 0)), (1, .int 0), (2, .int vq2)] rfl ?_
  exact hk14 0 vq2 M20
def fX11_eRead_J38 (k14 : Int32 → Int32 → Mem → Option (Int32 × Mem)) (vq2 : Int32) (M : Mem) : Option (Int32 × Mem) :=
  if (M 22 0 22) = 1 then
    (fX11_eRead_J61 k14 vq2 (100000 + (M 22 0 23)) M)
  else
    (fX11_eRead_J61 k14 vq2 (M 22 0 23) M)
set_option maxRecDepth 20000 in
theorem sX11_eRead_J38 {g : GP} {l : Launch} {x : CT} {k14 : Int32 → Int32 → Mem → Option (Int32 × Mem)} (ok : Ok g l x RX11 cX11_eRead 4 (some FieldType.boolean) (rmL 5)) (vq2 : Int32)  (hk14 : ∀ (vq1 : Int32) (vq2 : Int32) (M : Mem), Sw g l x (FinQ g x eI) 4 0 0 14 [(0, .ref (gA g 22 0)), (1, .int vq1), (2, .int vq2)] [] M (k14 vq1 vq2 M)) (M : Mem) : Sw g l x (FinQ g x eI) 4 0 0 38 [(0, .ref (gA g 22 0)), (2, .int vq2)] [] M (fX11_eRead_J38 k14 vq2 M) := by
  unfold fX11_eRead_J38
  refine r_aload_n (pc := 38) ok 0 dX11_eRead_38 rfl ?_
  refine r_aload_n (pc := 39) ok 0 dX11_eRead_39 rfl ?_
  refine r_getI (pc := 40) ok fi_22_22 (by decide) fl_X11_117 dX11_eRead_40 ?_
  refine r_iconst (pc := 43) ok 1 dX11_eRead_43 (by decide) ?_
  refine r_icmp_ne (pc := 44) ok 57 dX11_eRead_44 (by decide) (fun _ => ?_) (fun _ => ?_)
  · refine r_ldc (pc := 47) ok wct_X11_152 dX11_eRead_47 ?_
    refine r_aload_n (pc := 49) ok 0 dX11_eRead_49 rfl ?_
    refine r_getI (pc := 50) ok fi_22_23 (by decide) fl_X11_120 dX11_eRead_50 ?_
    refine r_iadd (pc := 53) ok dX11_eRead_53 ?_
    refine r_goto (pc := 54) ok 61 dX11_eRead_54 (by decide) ?_
    refine r_lv [0, 1] [(0, .ref (gA g 22 0)), (2, .int vq2)] rfl ?_
    exact sX11_eRead_J61 ok vq2 (100000 + (M 22 0 23)) hk14 M
  · refine r_aload_n (pc := 57) ok 0 dX11_eRead_57 rfl ?_
    refine r_getI (pc := 58) ok fi_22_23 (by decide) fl_X11_120 dX11_eRead_58 ?_
    refine r_lv [0, 1] [(0, .ref (gA g 22 0)), (2, .int vq2)] rfl ?_
    exact sX11_eRead_J61 ok vq2 (M 22 0 23) hk14 M
def fX11_eRead_J99 (k14 : Int32 → Int32 → Mem → Option (Int32 × Mem)) (vq1 : Int32) (M : Mem) : Option (Int32 × Mem) :=
  if (M 22 0 22) = 45 then
    (ob (fX11_opensOne 19 M) fun r23 M24 =>
    if r23 = 0 then
      (some (0, M24))
    else
      (k14 vq1 0 M24))
  else
    (if (M 22 0 22) = 40 then
      (ob (fX11_opensOne 0 M) fun r21 M22 =>
      if r21 = 0 then
        (some (0, M22))
      else
        (k14 vq1 1 M22))
    else
      (some (0, M)))
set_option maxRecDepth 20000 in
theorem sX11_eRead_J99 {g : GP} {l : Launch} {x : CT} {k14 : Int32 → Int32 → Mem → Option (Int32 × Mem)} (ok : Ok g l x RX11 cX11_eRead 4 (some FieldType.boolean) (rmL 5)) (vq1 : Int32)  (hk14 : ∀ (vq1 : Int32) (vq2 : Int32) (M : Mem), Sw g l x (FinQ g x eI) 4 0 0 14 [(0, .ref (gA g 22 0)), (1, .int vq1), (2, .int vq2)] [] M (k14 vq1 vq2 M)) (M : Mem) : Sw g l x (FinQ g x eI) 4 0 0 99 [(0, .ref (gA g 22 0)), (1, .int vq1)] [] M (fX11_eRead_J99 k14 vq1 M) := by
  unfold fX11_eRead_J99
  refine r_aload_n (pc := 99) ok 0 dX11_eRead_99 rfl ?_
  refine r_getI (pc := 100) ok fi_22_22 (by decide) fl_X11_117 dX11_eRead_100 ?_
  refine r_bipush (pc := 103) ok 45 dX11_eRead_103 (by decide) ?_
  refine r_icmp_ne (pc := 105) ok 124 dX11_eRead_105 (by decide) (fun _ => ?_) (fun _ => ?_)
  · refine r_aload_n (pc := 108) ok 0 dX11_eRead_108 rfl ?_
    refine r_bipush (pc := 109) ok 19 dX11_eRead_109 (by decide) ?_
    refine r_callV0 (pc := 111) ok [.int 19] [] 3 (fun rZ MZ hZ => con_X11_opensOne g l 19 _ rZ MZ hZ) cv_X11_153 ok_22 (rmOk_L (by decide) (by decide)) dX11_eRead_111 rfl rfl (Nat.le_of_ble_eq_true rfl) (fun r23 M24 => ?_)
    refine r_if_ne (pc := 114) ok 119 dX11_eRead_114 (by decide) (fun _ => ?_) (fun _ => ?_)
    · refine r_iconst (pc := 117) ok 0 dX11_eRead_117 (by decide) ?_
      exact r_zret (pc := 118) ok (Nat.zero_le _) (Nat.zero_le _) rfl rfl dX11_eRead_118
    · refine r_iconst (pc := 119) ok 0 dX11_eRead_119 (by decide) ?_
      refine r_istore_n (pc := 120) ok [(2, .int 0), (0, .ref (gA g 22 0)), (1, .int vq1)] dX11_eRead_120 rfl (by decide) rfl ?_
      refine r_goto (pc := 121) ok 14 dX11_eRead_121 (by decide) ?_
      refine r_lv [1, 2, 0] [(0, .ref (gA g 22 0)), (1, .int vq1), (2, .int 0)] rfl ?_
      exact hk14 vq1 0 M24
  · refine r_aload_n (pc := 124) ok 0 dX11_eRead_124 rfl ?_
    refine r_getI (pc := 125) ok fi_22_22 (by decide) fl_X11_117 dX11_eRead_125 ?_
    refine r_bipush (pc := 128) ok 40 dX11_eRead_128 (by decide) ?_
    refine r_icmp_ne (pc := 130) ok 148 dX11_eRead_130 (by decide) (fun _ => ?_) (fun _ => ?_)
    · refine r_aload_n (pc := 133) ok 0 dX11_eRead_133 rfl ?_
      refine r_iconst (pc := 134) ok 0 dX11_eRead_134 (by decide) ?_
      refine r_callV0 (pc := 135) ok [.int 0] [] 3 (fun rZ MZ hZ => con_X11_opensOne g l 0 _ rZ MZ hZ) cv_X11_153 ok_22 (rmOk_L (by decide) (by decide)) dX11_eRead_135 rfl rfl (Nat.le_of_ble_eq_true rfl) (fun r21 M22 => ?_)
      refine r_if_ne (pc := 138) ok 143 dX11_eRead_138 (by decide) (fun _ => ?_) (fun _ => ?_)
      · refine r_iconst (pc := 141) ok 0 dX11_eRead_141 (by decide) ?_
        exact r_zret (pc := 142) ok (Nat.zero_le _) (Nat.zero_le _) rfl rfl dX11_eRead_142
      · refine r_iconst (pc := 143) ok 1 dX11_eRead_143 (by decide) ?_
        refine r_istore_n (pc := 144) ok [(2, .int 1), (0, .ref (gA g 22 0)), (1, .int vq1)] dX11_eRead_144 rfl (by decide) rfl ?_
        refine r_goto (pc := 145) ok 14 dX11_eRead_145 (by decide) ?_
        refine r_lv [1, 2, 0] [(0, .ref (gA g 22 0)), (1, .int vq1), (2, .int 1)] rfl ?_
        exact hk14 vq1 1 M22
    · refine r_iconst (pc := 148) ok 0 dX11_eRead_148 (by decide) ?_
      exact r_zret (pc := 149) ok (Nat.zero_le _) (Nat.zero_le _) rfl rfl dX11_eRead_149
def fX11_eRead_B14  (k14 : Int32 → Int32 → Mem → Option (Int32 × Mem)) (vq1 : Int32) (vq2 : Int32) (M : Mem) : Option (Int32 × Mem) :=
  ob (fX11_next M) fun r3 M4 =>
  if vq1 = 0 then
    (if (M4 22 0 22) = 59 then
      (ob (fX11_unwinds 1 M4) fun r15 M16 =>
      if (M16 22 0 26) = 0 then
        (some (1, M16))
      else
        (some (0, M16)))
    else
      (if (M4 22 0 22) = 41 then
        (ob (fX11_unwinds 1 M4) fun r9 M10 =>
        if (M10 22 0 26) = 0 then
          (some (0, M10))
        else
          (lt (mst M10 22 0 26 ((M10 22 0 26) - 1)) fun M11 =>
          lt (mst M11 22 0 27 ((M11 22 0 27) - 1)) fun M12 =>
          ob (fX11_unwinds 7 M12) fun r13 M14 =>
          k14 vq1 vq2 M14))
      else
        (ob (fX11_signOf M4) fun r5 M6 =>
        if r5 = (-1) then
          (some (0, M6))
        else
          (ob (fX11_between r5 M6) fun r7 M8 =>
          if r7 = 0 then
            (some (0, M8))
          else
            (if 12 < r5 then
              (k14 1 0 M8)
            else
              (k14 1 1 M8))))))
  else
    (if (M4 22 0 22) = 1 then
      (fX11_eRead_J38 k14 vq2 M4)
    else
      (if (M4 22 0 22) = 2 then
        (fX11_eRead_J38 k14 vq2 M4)
      else
        (if (M4 22 0 22) = 6 then
          (if vq2 = 0 then
            (fX11_eRead_J99 k14 vq1 M4)
          else
            (ob (fX11_opensOne 13 M4) fun r25 M26 =>
            if r25 = 0 then
              (some (0, M26))
            else
              (k14 vq1 vq2 M26)))
        else
          (fX11_eRead_J99 k14 vq1 M4))))
def fX11_eRead_L14  : Nat → Int32 → Int32 → Mem → Option (Int32 × Mem)
  | 0, _, _, _ => none
  | n + 1, vq1, vq2, M => fX11_eRead_B14  (fX11_eRead_L14  n) vq1 vq2 M
set_option maxRecDepth 20000 in
theorem sX11_eRead_B14 {g : GP} {l : Launch} {x : CT} (ok : Ok g l x RX11 cX11_eRead 4 (some FieldType.boolean) (rmL 5))   (k14 : Int32 → Int32 → Mem → Option (Int32 × Mem)) (hk14 : ∀ (vq1 : Int32) (vq2 : Int32) (M : Mem), Sw g l x (FinQ g x eI) 4 0 0 14 [(0, .ref (gA g 22 0)), (1, .int vq1), (2, .int vq2)] [] M (k14 vq1 vq2 M)) (vq1 : Int32) (vq2 : Int32) (M : Mem) : Sw g l x (FinQ g x eI) 4 0 0 14 [(0, .ref (gA g 22 0)), (1, .int vq1), (2, .int vq2)] [] M (fX11_eRead_B14  k14 vq1 vq2 M) := by
  unfold fX11_eRead_B14
  refine r_aload_n (pc := 14) ok 0 dX11_eRead_14 rfl ?_
  refine r_callV0 (pc := 15) ok [] [] 3 (fun rZ MZ hZ => con_X11_next g l  _ rZ MZ hZ) cv_X11_149 ok_22 (rmOk_L (by decide) (by decide)) dX11_eRead_15 rfl rfl (Nat.le_of_ble_eq_true rfl) (fun r3 M4 => ?_)
  refine r_iload_n (pc := 18) ok 1 dX11_eRead_18 rfl ?_
  refine r_if_eq (pc := 19) ok 150 dX11_eRead_19 (by decide) (fun _ => ?_) (fun _ => ?_)
  · refine r_aload_n (pc := 150) ok 0 dX11_eRead_150 rfl ?_
    refine r_getI (pc := 151) ok fi_22_22 (by decide) fl_X11_117 dX11_eRead_151 ?_
    refine r_bipush (pc := 154) ok 59 dX11_eRead_154 (by decide) ?_
    refine r_icmp_ne (pc := 156) ok 177 dX11_eRead_156 (by decide) (fun _ => ?_) (fun _ => ?_)
    · refine r_aload_n (pc := 159) ok 0 dX11_eRead_159 rfl ?_
      refine r_iconst (pc := 160) ok 1 dX11_eRead_160 (by decide) ?_
      refine r_callV0 (pc := 161) ok [.int 1] [] 3 (fun rZ MZ hZ => con_X11_unwinds g l 1 _ rZ MZ hZ) cv_X11_146 ok_22 (rmOk_L (by decide) (by decide)) dX11_eRead_161 rfl rfl (Nat.le_of_ble_eq_true rfl) (fun r15 M16 => ?_)
      refine r_aload_n (pc := 164) ok 0 dX11_eRead_164 rfl ?_
      refine r_getI (pc := 165) ok fi_22_26 (by decide) fl_X11_129 dX11_eRead_165 ?_
      refine r_if_ne (pc := 168) ok 175 dX11_eRead_168 (by decide) (fun _ => ?_) (fun _ => ?_)
      · refine r_iconst (pc := 171) ok 1 dX11_eRead_171 (by decide) ?_
        refine r_goto (pc := 172) ok 176 dX11_eRead_172 (by decide) ?_
        exact r_zret (pc := 176) ok (Nat.zero_le _) (Nat.zero_le _) rfl rfl dX11_eRead_176
      · refine r_iconst (pc := 175) ok 0 dX11_eRead_175 (by decide) ?_
        exact r_zret (pc := 176) ok (Nat.zero_le _) (Nat.zero_le _) rfl rfl dX11_eRead_176
    · refine r_aload_n (pc := 177) ok 0 dX11_eRead_177 rfl ?_
      refine r_getI (pc := 178) ok fi_22_22 (by decide) fl_X11_117 dX11_eRead_178 ?_
      refine r_bipush (pc := 181) ok 41 dX11_eRead_181 (by decide) ?_
      refine r_icmp_ne (pc := 183) ok 229 dX11_eRead_183 (by decide) (fun _ => ?_) (fun _ => ?_)
      · refine r_aload_n (pc := 186) ok 0 dX11_eRead_186 rfl ?_
        refine r_iconst (pc := 187) ok 1 dX11_eRead_187 (by decide) ?_
        refine r_callV0 (pc := 188) ok [.int 1] [] 3 (fun rZ MZ hZ => con_X11_unwinds g l 1 _ rZ MZ hZ) cv_X11_146 ok_22 (rmOk_L (by decide) (by decide)) dX11_eRead_188 rfl rfl (Nat.le_of_ble_eq_true rfl) (fun r9 M10 => ?_)
        refine r_aload_n (pc := 191) ok 0 dX11_eRead_191 rfl ?_
        refine r_getI (pc := 192) ok fi_22_26 (by decide) fl_X11_129 dX11_eRead_192 ?_
        refine r_if_ne (pc := 195) ok 200 dX11_eRead_195 (by decide) (fun _ => ?_) (fun _ => ?_)
        · refine r_iconst (pc := 198) ok 0 dX11_eRead_198 (by decide) ?_
          exact r_zret (pc := 199) ok (Nat.zero_le _) (Nat.zero_le _) rfl rfl dX11_eRead_199
        · refine r_aload_n (pc := 200) ok 0 dX11_eRead_200 rfl ?_
          refine r_dup (pc := 201) ok dX11_eRead_201 rfl ?_
          refine r_getI (pc := 202) ok fi_22_26 (by decide) fl_X11_129 dX11_eRead_202 ?_
          refine r_iconst (pc := 205) ok 1 dX11_eRead_205 (by decide) ?_
          refine r_isub (pc := 206) ok dX11_eRead_206 ?_
          refine r_putI (pc := 207) ok fi_22_26 (by decide) fl_X11_129 fp_22_26 ⟨rfl, rfl⟩ dX11_eRead_207 ?_
          refine r_nmM (fun M11 => ?_)
          refine r_aload_n (pc := 210) ok 0 dX11_eRead_210 rfl ?_
          refine r_dup (pc := 211) ok dX11_eRead_211 rfl ?_
          refine r_getI (pc := 212) ok fi_22_27 (by decide) fl_X11_136 dX11_eRead_212 ?_
          refine r_iconst (pc := 215) ok 1 dX11_eRead_215 (by decide) ?_
          refine r_isub (pc := 216) ok dX11_eRead_216 ?_
          refine r_putI (pc := 217) ok fi_22_27 (by decide) fl_X11_136 fp_22_27 ⟨rfl, rfl⟩ dX11_eRead_217 ?_
          refine r_nmM (fun M12 => ?_)
          refine r_aload_n (pc := 220) ok 0 dX11_eRead_220 rfl ?_
          refine r_bipush (pc := 221) ok 7 dX11_eRead_221 (by decide) ?_
          refine r_callV0 (pc := 223) ok [.int 7] [] 3 (fun rZ MZ hZ => con_X11_unwinds g l 7 _ rZ MZ hZ) cv_X11_146 ok_22 (rmOk_L (by decide) (by decide)) dX11_eRead_223 rfl rfl (Nat.le_of_ble_eq_true rfl) (fun r13 M14 => ?_)
          refine r_goto (pc := 226) ok 14 dX11_eRead_226 (by decide) ?_
          refine r_lv [0, 1, 2] [(0, .ref (gA g 22 0)), (1, .int vq1), (2, .int vq2)] rfl ?_
          exact hk14 vq1 vq2 M14
      · refine r_aload_n (pc := 229) ok 0 dX11_eRead_229 rfl ?_
        refine r_callV0 (pc := 230) ok [] [] 2 (fun rZ MZ hZ => con_X11_signOf g l  _ rZ MZ hZ) cv_X11_156 ok_22 (rmOk_L (by decide) (by decide)) dX11_eRead_230 rfl rfl (Nat.le_of_ble_eq_true rfl) (fun r5 M6 => ?_)
        refine r_istore_n (pc := 233) ok [(3, .int r5), (0, .ref (gA g 22 0)), (1, .int vq1), (2, .int vq2)] dX11_eRead_233 rfl (by decide) rfl ?_
        refine r_iload_n (pc := 234) ok 0 dX11_eRead_234 rfl ?_
        refine r_iconst (pc := 235) ok (-1) dX11_eRead_235 (by decide) ?_
        refine r_icmp_eq (pc := 236) ok 247 dX11_eRead_236 (by decide) (fun _ => ?_) (fun _ => ?_)
        · refine r_iconst (pc := 247) ok 0 dX11_eRead_247 (by decide) ?_
          exact r_zret (pc := 248) ok (Nat.zero_le _) (Nat.zero_le _) rfl rfl dX11_eRead_248
        · refine r_aload_n (pc := 239) ok 1 dX11_eRead_239 rfl ?_
          refine r_iload_n (pc := 240) ok 0 dX11_eRead_240 rfl ?_
          refine r_callV0 (pc := 241) ok [.int r5] [] 4 (fun rZ MZ hZ => con_X11_between g l r5 _ rZ MZ hZ) cv_X11_159 ok_22 (rmOk_L (by decide) (by decide)) dX11_eRead_241 rfl rfl (Nat.le_of_ble_eq_true rfl) (fun r7 M8 => ?_)
          refine r_if_ne (pc := 244) ok 249 dX11_eRead_244 (by decide) (fun _ => ?_) (fun _ => ?_)
          · refine r_iconst (pc := 247) ok 0 dX11_eRead_247 (by decide) ?_
            exact r_zret (pc := 248) ok (Nat.zero_le _) (Nat.zero_le _) rfl rfl dX11_eRead_248
          · refine r_iconst (pc := 249) ok 1 dX11_eRead_249 (by decide) ?_
            refine r_istore_n (pc := 250) ok [(1, .int 1), (3, .int r5), (0, .ref (gA g 22 0)), (2, .int vq2)] dX11_eRead_250 rfl (by decide) rfl ?_
            refine r_iload_n (pc := 251) ok 1 dX11_eRead_251 rfl ?_
            refine r_bipush (pc := 252) ok 12 dX11_eRead_252 (by decide) ?_
            refine r_icmp_gt (pc := 254) ok 261 dX11_eRead_254 (by decide) (fun _ => ?_) (fun _ => ?_)
            · refine r_iconst (pc := 261) ok 0 dX11_eRead_261 (by decide) ?_
              refine r_istore_n (pc := 262) ok [(2, .int 0), (1, .int 1), (3, .int r5), (0, .ref (gA g 22 0))] dX11_eRead_262 rfl (by decide) rfl ?_
              refine r_goto (pc := 263) ok 14 dX11_eRead_263 (by decide) ?_
              refine r_lv [3, 1, 0] [(0, .ref (gA g 22 0)), (1, .int 1), (2, .int 0)] rfl ?_
              exact hk14 1 0 M8
            · refine r_iconst (pc := 257) ok 1 dX11_eRead_257 (by decide) ?_
              refine r_goto (pc := 258) ok 262 dX11_eRead_258 (by decide) ?_
              refine r_istore_n (pc := 262) ok [(2, .int 1), (1, .int 1), (3, .int r5), (0, .ref (gA g 22 0))] dX11_eRead_262 rfl (by decide) rfl ?_
              refine r_goto (pc := 263) ok 14 dX11_eRead_263 (by decide) ?_
              refine r_lv [3, 1, 0] [(0, .ref (gA g 22 0)), (1, .int 1), (2, .int 1)] rfl ?_
              exact hk14 1 1 M8
  · refine r_aload_n (pc := 22) ok 0 dX11_eRead_22 rfl ?_
    refine r_getI (pc := 23) ok fi_22_22 (by decide) fl_X11_117 dX11_eRead_23 ?_
    refine r_iconst (pc := 26) ok 1 dX11_eRead_26 (by decide) ?_
    refine r_icmp_eq (pc := 27) ok 38 dX11_eRead_27 (by decide) (fun _ => ?_) (fun _ => ?_)
    · refine r_lv [0, 2] [(0, .ref (gA g 22 0)), (2, .int vq2)] rfl ?_
      exact sX11_eRead_J38 ok vq2 hk14 M4
    · refine r_aload_n (pc := 30) ok 0 dX11_eRead_30 rfl ?_
      refine r_getI (pc := 31) ok fi_22_22 (by decide) fl_X11_117 dX11_eRead_31 ?_
      refine r_iconst (pc := 34) ok 2 dX11_eRead_34 (by decide) ?_
      refine r_icmp_ne (pc := 35) ok 75 dX11_eRead_35 (by decide) (fun _ => ?_) (fun _ => ?_)
      · refine r_lv [0, 2] [(0, .ref (gA g 22 0)), (2, .int vq2)] rfl ?_
        exact sX11_eRead_J38 ok vq2 hk14 M4
      · refine r_aload_n (pc := 75) ok 0 dX11_eRead_75 rfl ?_
        refine r_getI (pc := 76) ok fi_22_22 (by decide) fl_X11_117 dX11_eRead_76 ?_
        refine r_bipush (pc := 79) ok 6 dX11_eRead_79 (by decide) ?_
        refine r_icmp_ne (pc := 81) ok 99 dX11_eRead_81 (by decide) (fun _ => ?_) (fun _ => ?_)
        · refine r_iload_n (pc := 84) ok 2 dX11_eRead_84 rfl ?_
          refine r_if_eq (pc := 85) ok 99 dX11_eRead_85 (by decide) (fun _ => ?_) (fun _ => ?_)
          · refine r_lv [0, 1] [(0, .ref (gA g 22 0)), (1, .int vq1)] rfl ?_
            exact sX11_eRead_J99 ok vq1 hk14 M4
          · refine r_aload_n (pc := 88) ok 0 dX11_eRead_88 rfl ?_
            refine r_bipush (pc := 89) ok 13 dX11_eRead_89 (by decide) ?_
            refine r_callV0 (pc := 91) ok [.int 13] [] 3 (fun rZ MZ hZ => con_X11_opensOne g l 13 _ rZ MZ hZ) cv_X11_153 ok_22 (rmOk_L (by decide) (by decide)) dX11_eRead_91 rfl rfl (Nat.le_of_ble_eq_true rfl) (fun r25 M26 => ?_)
            refine r_if_ne (pc := 94) ok 14 dX11_eRead_94 (by decide) (fun _ => ?_) (fun _ => ?_)
            · refine r_iconst (pc := 97) ok 0 dX11_eRead_97 (by decide) ?_
              exact r_zret (pc := 98) ok (Nat.zero_le _) (Nat.zero_le _) rfl rfl dX11_eRead_98
            · refine r_lv [0, 1, 2] [(0, .ref (gA g 22 0)), (1, .int vq1), (2, .int vq2)] rfl ?_
              exact hk14 vq1 vq2 M26
        · refine r_lv [0, 1] [(0, .ref (gA g 22 0)), (1, .int vq1)] rfl ?_
          exact sX11_eRead_J99 ok vq1 hk14 M4
theorem sX11_eRead_L14 {g : GP} {l : Launch} {x : CT} (ok : Ok g l x RX11 cX11_eRead 4 (some FieldType.boolean) (rmL 5))   : ∀ (n : Nat) (vq1 : Int32) (vq2 : Int32) (M : Mem), Sw g l x (FinQ g x eI) 4 0 0 14 [(0, .ref (gA g 22 0)), (1, .int vq1), (2, .int vq2)] [] M (fX11_eRead_L14  n vq1 vq2 M) := by
  intro n
  induction n with
  | zero => intros; exact r_none
  | succ n ih => intro vq1 vq2 M; exact sX11_eRead_B14 ok   _ ih vq1 vq2 M
def fX11_eRead  (M : Mem) : Option (Int32 × Mem) :=
  lt (mst M 22 0 26 0) fun M1 =>
  lt (mst M1 22 0 27 0) fun M2 =>
  fX11_eRead_L14 FU 1 1 M2
set_option maxRecDepth 20000 in
theorem wX11_eRead {g : GP} {l : Launch} {x : CT} (ok : Ok g l x RX11 cX11_eRead 4 (some FieldType.boolean) (rmL 5))   (M : Mem) : Sw g l x (FinQ g x eI) 4 0 0 0 [(0, .ref (gA g 22 0))] [] M (fX11_eRead  M) := by
  unfold fX11_eRead
  refine r_aload_n (pc := 0) ok 0 dX11_eRead_0 rfl ?_
  refine r_iconst (pc := 1) ok 0 dX11_eRead_1 (by decide) ?_
  refine r_putI (pc := 2) ok fi_22_26 (by decide) fl_X11_129 fp_22_26 ⟨rfl, rfl⟩ dX11_eRead_2 ?_
  refine r_nmM (fun M1 => ?_)
  refine r_aload_n (pc := 5) ok 0 dX11_eRead_5 rfl ?_
  refine r_iconst (pc := 6) ok 0 dX11_eRead_6 (by decide) ?_
  refine r_putI (pc := 7) ok fi_22_27 (by decide) fl_X11_136 fp_22_27 ⟨rfl, rfl⟩ dX11_eRead_7 ?_
  refine r_nmM (fun M2 => ?_)
  refine r_iconst (pc := 10) ok 1 dX11_eRead_10 (by decide) ?_
  refine r_istore_n (pc := 11) ok [(1, .int 1), (0, .ref (gA g 22 0))] dX11_eRead_11 rfl (by decide) rfl ?_
  refine r_iconst (pc := 12) ok 1 dX11_eRead_12 (by decide) ?_
  refine r_istore_n (pc := 13) ok [(2, .int 1), (1, .int 1), (0, .ref (gA g 22 0))] dX11_eRead_13 rfl (by decide) rfl ?_
  refine r_lv [2, 1, 0] [(0, .ref (gA g 22 0)), (1, .int 1), (2, .int 1)] rfl ?_
  exact sX11_eRead_L14 ok FU 1 1 M2
theorem con_X11_eRead (g : GP) (l : Launch)   (M : Mem) (r : Int32) (M2 : Mem) (h : fX11_eRead  M = some (r, M2)) : Con g l yX11_eRead cX11_eRead 4 (some FieldType.boolean) (rmL 5) [.ref (gA g 22 0)] M (eI r) M2 :=
  Con.of (own := RX11) (f := fX11_eRead  M) (by decide) (Nat.le_of_ble_eq_true rfl) rfl (fun x ok => wX11_eRead ok   M) r M2 h
def fX11_asks (vq1 : Int32) (vq2 : Int32) (vq3 : Int32) (M : Mem) : Option (Int32 × Mem) :=
  ob (fX11_in vq1 0 2 M) fun r1 M2 =>
  if r1 = 0 then
    (some (-1000, M2))
  else
    (ob (fX11_isOne vq2 M2) fun r3 M4 =>
    if r3 = 0 then
      (some (-1000, M4))
    else
      (ob (fX11_isCell vq3 M4) fun r5 M6 =>
      if r5 = 0 then
        (some (-1000, M6))
      else
        (ob (fX11_asksOf vq1 vq2 vq3 M6) fun r7 M8 =>
        some (r7, M8))))
set_option maxRecDepth 20000 in
theorem wX11_asks {g : GP} {l : Launch} {x : CT} (ok : Ok g l x RX11 cX11_asks 4 (some FieldType.int) (rmL 5)) (vq1 : Int32) (vq2 : Int32) (vq3 : Int32)  (M : Mem) : Sw g l x (FinQ g x eI) 4 0 0 0 [(0, .ref (gA g 22 0)), (1, .int vq1), (2, .int vq2), (3, .int vq3)] [] M (fX11_asks vq1 vq2 vq3 M) := by
  unfold fX11_asks
  refine r_iload_n (pc := 0) ok 1 dX11_asks_0 rfl ?_
  refine r_iconst (pc := 1) ok 0 dX11_asks_1 (by decide) ?_
  refine r_iconst (pc := 2) ok 2 dX11_asks_2 (by decide) ?_
  refine r_callS0 (pc := 3) ok [.int vq1, .int 0, .int 2] [] 2 (fun rZ MZ hZ => con_X11_in g l vq1 0 2 _ rZ MZ hZ) cs_X11_84 (rmOk_L (by decide) (by decide)) dX11_asks_3 rfl rfl (Nat.le_of_ble_eq_true rfl) (fun r1 M2 => ?_)
  refine r_if_eq (pc := 6) ok 34 dX11_asks_6 (by decide) (fun _ => ?_) (fun _ => ?_)
  · refine r_sipush (pc := 34) ok (-1000) dX11_asks_34 (by decide) ?_
    exact r_iret (pc := 37) ok (Nat.zero_le _) (Nat.zero_le _) rfl dX11_asks_37
  · refine r_aload_n (pc := 9) ok 0 dX11_asks_9 rfl ?_
    refine r_iload_n (pc := 10) ok 2 dX11_asks_10 rfl ?_
    refine r_callV0 (pc := 11) ok [.int vq2] [] 3 (fun rZ MZ hZ => con_X11_isOne g l vq2 _ rZ MZ hZ) cv_X11_176 ok_22 (rmOk_L (by decide) (by decide)) dX11_asks_11 rfl rfl (Nat.le_of_ble_eq_true rfl) (fun r3 M4 => ?_)
    refine r_if_eq (pc := 14) ok 34 dX11_asks_14 (by decide) (fun _ => ?_) (fun _ => ?_)
    · refine r_sipush (pc := 34) ok (-1000) dX11_asks_34 (by decide) ?_
      exact r_iret (pc := 37) ok (Nat.zero_le _) (Nat.zero_le _) rfl dX11_asks_37
    · refine r_iload_n (pc := 17) ok 3 dX11_asks_17 rfl ?_
      refine r_callS0 (pc := 18) ok [.int vq3] [] 3 (fun rZ MZ hZ => con_X11_isCell g l vq3 _ rZ MZ hZ) cs_X11_104 (rmOk_L (by decide) (by decide)) dX11_asks_18 rfl rfl (Nat.le_of_ble_eq_true rfl) (fun r5 M6 => ?_)
      refine r_if_eq (pc := 21) ok 34 dX11_asks_21 (by decide) (fun _ => ?_) (fun _ => ?_)
      · refine r_sipush (pc := 34) ok (-1000) dX11_asks_34 (by decide) ?_
        exact r_iret (pc := 37) ok (Nat.zero_le _) (Nat.zero_le _) rfl dX11_asks_37
      · refine r_aload_n (pc := 24) ok 0 dX11_asks_24 rfl ?_
        refine r_iload_n (pc := 25) ok 1 dX11_asks_25 rfl ?_
        refine r_iload_n (pc := 26) ok 2 dX11_asks_26 rfl ?_
        refine r_iload_n (pc := 27) ok 3 dX11_asks_27 rfl ?_
        refine r_callV0 (pc := 28) ok [.int vq1, .int vq2, .int vq3] [] 4 (fun rZ MZ hZ => con_X11_asksOf g l vq1 vq2 vq3 _ rZ MZ hZ) cv_X11_179 ok_22 (rmOk_L (by decide) (by decide)) dX11_asks_28 rfl rfl (Nat.le_of_ble_eq_true rfl) (fun r7 M8 => ?_)
        refine r_goto (pc := 31) ok 37 dX11_asks_31 (by decide) ?_
        exact r_iret (pc := 37) ok (Nat.zero_le _) (Nat.zero_le _) rfl dX11_asks_37
theorem con_X11_asks (g : GP) (l : Launch) (vq1 : Int32) (vq2 : Int32) (vq3 : Int32)  (M : Mem) (r : Int32) (M2 : Mem) (h : fX11_asks vq1 vq2 vq3 M = some (r, M2)) : Con g l yX11_asks cX11_asks 4 (some FieldType.int) (rmL 5) [.ref (gA g 22 0), .int vq1, .int vq2, .int vq3] M (eI r) M2 :=
  Con.of (own := RX11) (f := fX11_asks vq1 vq2 vq3 M) (by decide) (Nat.le_of_ble_eq_true rfl) rfl (fun x ok => wX11_asks ok vq1 vq2 vq3  M) r M2 h
def fX11_wearsOf (vq1 : Int32) (vq2 : Int32) (M : Mem) : Option (Int32 × Mem) :=
  ob (fX11_asksOf 1 vq1 vq2 M) fun r1 M2 =>
  gd (inb vq1 6)
  (if (M2 23 0 vq1.toNatClampNeg) = 2 then
    (some (r1 / 2, M2))
  else
    (if (M2 23 0 vq1.toNatClampNeg) = 3 then
      (gd (inb vq2 36)
      (if (M2 27 0 vq2.toNatClampNeg) ≤ 50 then
        (some (r1, M2))
      else
        (some (0, M2))))
    else
      (if (M2 23 0 vq1.toNatClampNeg) = 4 then
        (some (r1 / 2, M2))
      else
        (if (M2 23 0 vq1.toNatClampNeg) = 5 then
          (gd (inb vq1 6)
          (some (r1 + (M2 24 0 vq1.toNatClampNeg), M2)))
        else
          (some (r1, M2))))))
set_option maxRecDepth 20000 in
theorem wX11_wearsOf {g : GP} {l : Launch} {x : CT} (ok : Ok g l x RX11 cX11_wearsOf 4 (some FieldType.int) (rmL 5)) (vq1 : Int32) (vq2 : Int32)  (M : Mem) : Sw g l x (FinQ g x eI) 4 0 0 0 [(0, .ref (gA g 22 0)), (1, .int vq1), (2, .int vq2)] [] M (fX11_wearsOf vq1 vq2 M) := by
  unfold fX11_wearsOf
  refine r_aload_n (pc := 0) ok 0 dX11_wearsOf_0 rfl ?_
  refine r_iconst (pc := 1) ok 1 dX11_wearsOf_1 (by decide) ?_
  refine r_iload_n (pc := 2) ok 1 dX11_wearsOf_2 rfl ?_
  refine r_iload_n (pc := 3) ok 2 dX11_wearsOf_3 rfl ?_
  refine r_callV0 (pc := 4) ok [.int 1, .int vq1, .int vq2] [] 4 (fun rZ MZ hZ => con_X11_asksOf g l 1 vq1 vq2 _ rZ MZ hZ) cv_X11_179 ok_22 (rmOk_L (by decide) (by decide)) dX11_wearsOf_4 rfl rfl (Nat.le_of_ble_eq_true rfl) (fun r1 M2 => ?_)
  refine r_istore_n (pc := 7) ok [(3, .int r1), (0, .ref (gA g 22 0)), (1, .int vq1), (2, .int vq2)] dX11_wearsOf_7 rfl (by decide) rfl ?_
  refine r_aload_n (pc := 8) ok 1 dX11_wearsOf_8 rfl ?_
  refine r_getR (pc := 9) ok fr_22_1 (by decide) fl_X11_7 dX11_wearsOf_9 ?_
  refine r_iload_n (pc := 12) ok 2 dX11_wearsOf_12 rfl ?_
  refine r_iald (pc := 13) ok ik_23 (by decide) dX11_wearsOf_13 (fun _ => ?_)
  refine r_swc (pc := 14) ok (30) 44 dX11_wearsOf_14 (by decide +kernel) (by decide) (fun _ => ?_) (fun hs3 => ?_)
  · refine r_iload_n (pc := 44) ok 0 dX11_wearsOf_44 rfl ?_
    refine r_iconst (pc := 45) ok 2 dX11_wearsOf_45 (by decide) ?_
    refine r_idivc (pc := 46) ok (by decide) dX11_wearsOf_46 ?_
    exact r_iret (pc := 47) ok (Nat.zero_le _) (Nat.zero_le _) rfl dX11_wearsOf_47
  · refine r_swc (pc := 14) ok (34) 48 dX11_wearsOf_14 (by decide +kernel) (by decide) (fun _ => ?_) (fun hs4 => ?_)
    · refine r_aload_n (pc := 48) ok 1 dX11_wearsOf_48 rfl ?_
      refine r_getR (pc := 49) ok fr_22_5 (by decide) fl_X11_22 dX11_wearsOf_49 ?_
      refine r_iload_n (pc := 52) ok 3 dX11_wearsOf_52 rfl ?_
      refine r_iald (pc := 53) ok ik_27 (by decide) dX11_wearsOf_53 (fun _ => ?_)
      refine r_bipush (pc := 54) ok 50 dX11_wearsOf_54 (by decide) ?_
      refine r_icmp_le (pc := 56) ok 63 dX11_wearsOf_56 (by decide) (fun _ => ?_) (fun _ => ?_)
      · refine r_iload_n (pc := 63) ok 0 dX11_wearsOf_63 rfl ?_
        exact r_iret (pc := 64) ok (Nat.zero_le _) (Nat.zero_le _) rfl dX11_wearsOf_64
      · refine r_iconst (pc := 59) ok 0 dX11_wearsOf_59 (by decide) ?_
        refine r_goto (pc := 60) ok 64 dX11_wearsOf_60 (by decide) ?_
        exact r_iret (pc := 64) ok (Nat.zero_le _) (Nat.zero_le _) rfl dX11_wearsOf_64
    · refine r_swc (pc := 14) ok (30) 44 dX11_wearsOf_14 (by decide +kernel) (by decide) (fun _ => ?_) (fun hs5 => ?_)
      · refine r_iload_n (pc := 44) ok 0 dX11_wearsOf_44 rfl ?_
        refine r_iconst (pc := 45) ok 2 dX11_wearsOf_45 (by decide) ?_
        refine r_idivc (pc := 46) ok (by decide) dX11_wearsOf_46 ?_
        exact r_iret (pc := 47) ok (Nat.zero_le _) (Nat.zero_le _) rfl dX11_wearsOf_47
      · refine r_swc (pc := 14) ok (51) 65 dX11_wearsOf_14 (by decide +kernel) (by decide) (fun _ => ?_) (fun hs6 => ?_)
        · refine r_iload_n (pc := 65) ok 0 dX11_wearsOf_65 rfl ?_
          refine r_aload_n (pc := 66) ok 1 dX11_wearsOf_66 rfl ?_
          refine r_getR (pc := 67) ok fr_22_2 (by decide) fl_X11_13 dX11_wearsOf_67 ?_
          refine r_iload_n (pc := 70) ok 2 dX11_wearsOf_70 rfl ?_
          refine r_iald (pc := 71) ok ik_24 (by decide) dX11_wearsOf_71 (fun _ => ?_)
          refine r_iadd (pc := 72) ok dX11_wearsOf_72 ?_
          exact r_iret (pc := 73) ok (Nat.zero_le _) (Nat.zero_le _) rfl dX11_wearsOf_73
        · refine r_swd (pc := 14) ok 74 dX11_wearsOf_14 (by have := lv_neT hs3 (by decide : (2 : Int32).toInt = 2) ; have := lv_neT hs4 (by decide : (3 : Int32).toInt = 3) ; have := lv_neT hs5 (by decide : (4 : Int32).toInt = 4) ; have := lv_neT hs6 (by decide : (5 : Int32).toInt = 5) ; omega) (by decide) ?_
          refine r_iload_n (pc := 74) ok 0 dX11_wearsOf_74 rfl ?_
          exact r_iret (pc := 75) ok (Nat.zero_le _) (Nat.zero_le _) rfl dX11_wearsOf_75
theorem con_X11_wearsOf (g : GP) (l : Launch) (vq1 : Int32) (vq2 : Int32)  (M : Mem) (r : Int32) (M2 : Mem) (h : fX11_wearsOf vq1 vq2 M = some (r, M2)) : Con g l yX11_wearsOf cX11_wearsOf 4 (some FieldType.int) (rmL 5) [.ref (gA g 22 0), .int vq1, .int vq2] M (eI r) M2 :=
  Con.of (own := RX11) (f := fX11_wearsOf vq1 vq2 M) (by decide) (Nat.le_of_ble_eq_true rfl) rfl (fun x ok => wX11_wearsOf ok vq1 vq2  M) r M2 h
def fX11_feelsOf (vq1 : Int32) (vq2 : Int32) (M : Mem) : Option (Int32 × Mem) :=
  ob (fX11_asksOf 2 vq1 vq2 M) fun r1 M2 =>
  gd (inb vq1 6)
  (if (M2 23 0 vq1.toNatClampNeg) = 1 then
    (gd (inb vq1 6)
    (some (r1 + (M2 24 0 vq1.toNatClampNeg), M2)))
  else
    (if (M2 23 0 vq1.toNatClampNeg) = 2 then
      (some (2 * r1, M2))
    else
      (if (M2 23 0 vq1.toNatClampNeg) = 3 then
        (gd (inb vq1 6)
        (some (r1 + (M2 24 0 vq1.toNatClampNeg), M2)))
      else
        (if (M2 23 0 vq1.toNatClampNeg) = 4 then
          (some ((2 * r1) / 4, M2))
        else
          (if (M2 23 0 vq1.toNatClampNeg) = 5 then
            (if 10 ≤ r1 then
              (some (r1, M2))
            else
              (some (0, M2)))
          else
            (some (r1, M2)))))))
set_option maxRecDepth 20000 in
theorem wX11_feelsOf {g : GP} {l : Launch} {x : CT} (ok : Ok g l x RX11 cX11_feelsOf 4 (some FieldType.int) (rmL 5)) (vq1 : Int32) (vq2 : Int32)  (M : Mem) : Sw g l x (FinQ g x eI) 4 0 0 0 [(0, .ref (gA g 22 0)), (1, .int vq1), (2, .int vq2)] [] M (fX11_feelsOf vq1 vq2 M) := by
  unfold fX11_feelsOf
  refine r_aload_n (pc := 0) ok 0 dX11_feelsOf_0 rfl ?_
  refine r_iconst (pc := 1) ok 2 dX11_feelsOf_1 (by decide) ?_
  refine r_iload_n (pc := 2) ok 1 dX11_feelsOf_2 rfl ?_
  refine r_iload_n (pc := 3) ok 2 dX11_feelsOf_3 rfl ?_
  refine r_callV0 (pc := 4) ok [.int 2, .int vq1, .int vq2] [] 4 (fun rZ MZ hZ => con_X11_asksOf g l 2 vq1 vq2 _ rZ MZ hZ) cv_X11_179 ok_22 (rmOk_L (by decide) (by decide)) dX11_feelsOf_4 rfl rfl (Nat.le_of_ble_eq_true rfl) (fun r1 M2 => ?_)
  refine r_istore_n (pc := 7) ok [(3, .int r1), (0, .ref (gA g 22 0)), (1, .int vq1), (2, .int vq2)] dX11_feelsOf_7 rfl (by decide) rfl ?_
  refine r_aload_n (pc := 8) ok 1 dX11_feelsOf_8 rfl ?_
  refine r_getR (pc := 9) ok fr_22_1 (by decide) fl_X11_7 dX11_feelsOf_9 ?_
  refine r_iload_n (pc := 12) ok 2 dX11_feelsOf_12 rfl ?_
  refine r_iald (pc := 13) ok ik_23 (by decide) dX11_feelsOf_13 (fun _ => ?_)
  refine r_swc (pc := 14) ok (34) 48 dX11_feelsOf_14 (by decide +kernel) (by decide) (fun _ => ?_) (fun hs3 => ?_)
  · refine r_iload_n (pc := 48) ok 0 dX11_feelsOf_48 rfl ?_
    refine r_aload_n (pc := 49) ok 1 dX11_feelsOf_49 rfl ?_
    refine r_getR (pc := 50) ok fr_22_2 (by decide) fl_X11_13 dX11_feelsOf_50 ?_
    refine r_iload_n (pc := 53) ok 2 dX11_feelsOf_53 rfl ?_
    refine r_iald (pc := 54) ok ik_24 (by decide) dX11_feelsOf_54 (fun _ => ?_)
    refine r_iadd (pc := 55) ok dX11_feelsOf_55 ?_
    exact r_iret (pc := 56) ok (Nat.zero_le _) (Nat.zero_le _) rfl dX11_feelsOf_56
  · refine r_swc (pc := 14) ok (43) 57 dX11_feelsOf_14 (by decide +kernel) (by decide) (fun _ => ?_) (fun hs4 => ?_)
    · refine r_iconst (pc := 57) ok 2 dX11_feelsOf_57 (by decide) ?_
      refine r_iload_n (pc := 58) ok 0 dX11_feelsOf_58 rfl ?_
      refine r_imul (pc := 59) ok dX11_feelsOf_59 ?_
      exact r_iret (pc := 60) ok (Nat.zero_le _) (Nat.zero_le _) rfl dX11_feelsOf_60
    · refine r_swc (pc := 14) ok (34) 48 dX11_feelsOf_14 (by decide +kernel) (by decide) (fun _ => ?_) (fun hs5 => ?_)
      · refine r_iload_n (pc := 48) ok 0 dX11_feelsOf_48 rfl ?_
        refine r_aload_n (pc := 49) ok 1 dX11_feelsOf_49 rfl ?_
        refine r_getR (pc := 50) ok fr_22_2 (by decide) fl_X11_13 dX11_feelsOf_50 ?_
        refine r_iload_n (pc := 53) ok 2 dX11_feelsOf_53 rfl ?_
        refine r_iald (pc := 54) ok ik_24 (by decide) dX11_feelsOf_54 (fun _ => ?_)
        refine r_iadd (pc := 55) ok dX11_feelsOf_55 ?_
        exact r_iret (pc := 56) ok (Nat.zero_le _) (Nat.zero_le _) rfl dX11_feelsOf_56
      · refine r_swc (pc := 14) ok (47) 61 dX11_feelsOf_14 (by decide +kernel) (by decide) (fun _ => ?_) (fun hs6 => ?_)
        · refine r_iconst (pc := 61) ok 2 dX11_feelsOf_61 (by decide) ?_
          refine r_iload_n (pc := 62) ok 0 dX11_feelsOf_62 rfl ?_
          refine r_imul (pc := 63) ok dX11_feelsOf_63 ?_
          refine r_iconst (pc := 64) ok 4 dX11_feelsOf_64 (by decide) ?_
          refine r_idivc (pc := 65) ok (by decide) dX11_feelsOf_65 ?_
          exact r_iret (pc := 66) ok (Nat.zero_le _) (Nat.zero_le _) rfl dX11_feelsOf_66
        · refine r_swc (pc := 14) ok (53) 67 dX11_feelsOf_14 (by decide +kernel) (by decide) (fun _ => ?_) (fun hs7 => ?_)
          · refine r_iload_n (pc := 67) ok 0 dX11_feelsOf_67 rfl ?_
            refine r_bipush (pc := 68) ok 10 dX11_feelsOf_68 (by decide) ?_
            refine r_icmp_ge (pc := 70) ok 77 dX11_feelsOf_70 (by decide) (fun _ => ?_) (fun _ => ?_)
            · refine r_iload_n (pc := 77) ok 0 dX11_feelsOf_77 rfl ?_
              exact r_iret (pc := 78) ok (Nat.zero_le _) (Nat.zero_le _) rfl dX11_feelsOf_78
            · refine r_iconst (pc := 73) ok 0 dX11_feelsOf_73 (by decide) ?_
              refine r_goto (pc := 74) ok 78 dX11_feelsOf_74 (by decide) ?_
              exact r_iret (pc := 78) ok (Nat.zero_le _) (Nat.zero_le _) rfl dX11_feelsOf_78
          · refine r_swd (pc := 14) ok 79 dX11_feelsOf_14 (by have := lv_neT hs3 (by decide : (1 : Int32).toInt = 1) ; have := lv_neT hs4 (by decide : (2 : Int32).toInt = 2) ; have := lv_neT hs5 (by decide : (3 : Int32).toInt = 3) ; have := lv_neT hs6 (by decide : (4 : Int32).toInt = 4) ; have := lv_neT hs7 (by decide : (5 : Int32).toInt = 5) ; omega) (by decide) ?_
            refine r_iload_n (pc := 79) ok 0 dX11_feelsOf_79 rfl ?_
            exact r_iret (pc := 80) ok (Nat.zero_le _) (Nat.zero_le _) rfl dX11_feelsOf_80
theorem con_X11_feelsOf (g : GP) (l : Launch) (vq1 : Int32) (vq2 : Int32)  (M : Mem) (r : Int32) (M2 : Mem) (h : fX11_feelsOf vq1 vq2 M = some (r, M2)) : Con g l yX11_feelsOf cX11_feelsOf 4 (some FieldType.int) (rmL 5) [.ref (gA g 22 0), .int vq1, .int vq2] M (eI r) M2 :=
  Con.of (own := RX11) (f := fX11_feelsOf vq1 vq2 M) (by decide) (Nat.le_of_ble_eq_true rfl) rfl (fun x ok => wX11_feelsOf ok vq1 vq2  M) r M2 h
def fX11_turnOf_B15 (vq1 : Int32) (vq2 : Int32) (k15 : Int32 → Mem → Option (Unit × Mem)) (vq3 : Int32) (M : Mem) : Option (Unit × Mem) :=
  if 36 ≤ vq3 then
    (some ((), M))
  else
    (gd (inb vq1 6)
    (ob (fX11_apart vq3 (M 25 0 vq1.toNatClampNeg) M) fun r3 M4 =>
    if 2 ≤ r3 then
      (k15 (vq3 + 1) M4)
    else
      (gd (inb vq3 36)
      (ob (fX11_leavesAt vq1 vq2 r3 M4) fun r5 M6 =>
      ob (fX11_within ((M4 27 0 vq3.toNatClampNeg) + r5) 0 999 M6) fun r7 M8 =>
      gd (inb vq3 36)
      (lt (mst M8 27 0 vq3.toNatClampNeg r7) fun M9 =>
      k15 (vq3 + 1) M9)))))
def fX11_turnOf_L15 (vq1 : Int32) (vq2 : Int32) : Nat → Int32 → Mem → Option (Unit × Mem)
  | 0, _, _ => none
  | n + 1, vq3, M => fX11_turnOf_B15 vq1 vq2 (fX11_turnOf_L15 vq1 vq2 n) vq3 M
set_option maxRecDepth 20000 in
theorem sX11_turnOf_B15 {g : GP} {l : Launch} {x : CT} (ok : Ok g l x RX11 cX11_turnOf 5 none (rmL 5)) (vq1 : Int32) (vq2 : Int32)  (k15 : Int32 → Mem → Option (Unit × Mem)) (hk15 : ∀ (vq3 : Int32) (M : Mem), Sw g l x (FinQ g x eV) 5 0 0 15 [(0, .ref (gA g 22 0)), (1, .int vq1), (2, .int vq2), (3, .int vq3)] [] M (k15 vq3 M)) (vq3 : Int32) (M : Mem) : Sw g l x (FinQ g x eV) 5 0 0 15 [(0, .ref (gA g 22 0)), (1, .int vq1), (2, .int vq2), (3, .int vq3)] [] M (fX11_turnOf_B15 vq1 vq2 k15 vq3 M) := by
  unfold fX11_turnOf_B15
  refine r_iload_n (pc := 15) ok 3 dX11_turnOf_15 rfl ?_
  refine r_bipush (pc := 16) ok 36 dX11_turnOf_16 (by decide) ?_
  refine r_icmp_ge (pc := 18) ok 73 dX11_turnOf_18 (by decide) (fun _ => ?_) (fun _ => ?_)
  · exact r_vret (pc := 73) ok (Nat.zero_le _) (Nat.zero_le _) rfl dX11_turnOf_73
  · refine r_iload_n (pc := 21) ok 3 dX11_turnOf_21 rfl ?_
    refine r_aload_n (pc := 22) ok 0 dX11_turnOf_22 rfl ?_
    refine r_getR (pc := 23) ok fr_22_3 (by decide) fl_X11_16 dX11_turnOf_23 ?_
    refine r_iload_n (pc := 26) ok 1 dX11_turnOf_26 rfl ?_
    refine r_iald (pc := 27) ok ik_25 (by decide) dX11_turnOf_27 (fun _ => ?_)
    refine r_callS0 (pc := 28) ok [.int vq3, .int (M 25 0 vq1.toNatClampNeg)] [] 3 (fun rZ MZ hZ => con_X11_apart g l vq3 (M 25 0 vq1.toNatClampNeg) _ rZ MZ hZ) cs_X11_182 (rmOk_L (by decide) (by decide)) dX11_turnOf_28 rfl rfl (Nat.le_of_ble_eq_true rfl) (fun r3 M4 => ?_)
    refine r_istore (pc := 31) ok [(4, .int r3), (0, .ref (gA g 22 0)), (1, .int vq1), (2, .int vq2), (3, .int vq3)] dX11_turnOf_31 (by decide) rfl ?_
    refine r_iload (pc := 33) ok 0 dX11_turnOf_33 rfl ?_
    refine r_iconst (pc := 35) ok 2 dX11_turnOf_35 (by decide) ?_
    refine r_icmp_ge (pc := 36) ok 67 dX11_turnOf_36 (by decide) (fun _ => ?_) (fun _ => ?_)
    · refine r_iinc (pc := 67) ok 4 (vq3 + 1) [(3, .int (vq3 + 1)), (4, .int r3), (0, .ref (gA g 22 0)), (1, .int vq1), (2, .int vq2)] dX11_turnOf_67 rfl (congrArg (fun z => vq3 + z) (by decide : Int32.ofInt 1 = (1 : Int32))) (by decide) rfl ?_
      refine r_goto (pc := 70) ok 15 dX11_turnOf_70 (by decide) ?_
      refine r_lv [2, 3, 4, 0] [(0, .ref (gA g 22 0)), (1, .int vq1), (2, .int vq2), (3, .int (vq3 + 1))] rfl ?_
      exact hk15 (vq3 + 1) M4
    · refine r_aload_n (pc := 39) ok 1 dX11_turnOf_39 rfl ?_
      refine r_getR (pc := 40) ok fr_22_5 (by decide) fl_X11_22 dX11_turnOf_40 ?_
      refine r_iload_n (pc := 43) ok 4 dX11_turnOf_43 rfl ?_
      refine r_aload_n (pc := 44) ok 1 dX11_turnOf_44 rfl ?_
      refine r_getR (pc := 45) ok fr_22_5 (by decide) fl_X11_22 dX11_turnOf_45 ?_
      refine r_iload_n (pc := 48) ok 4 dX11_turnOf_48 rfl ?_
      refine r_iald (pc := 49) ok ik_27 (by decide) dX11_turnOf_49 (fun _ => ?_)
      refine r_aload_n (pc := 50) ok 1 dX11_turnOf_50 rfl ?_
      refine r_iload_n (pc := 51) ok 2 dX11_turnOf_51 rfl ?_
      refine r_iload_n (pc := 52) ok 3 dX11_turnOf_52 rfl ?_
      refine r_iload (pc := 53) ok 0 dX11_turnOf_53 rfl ?_
      refine r_callV0 (pc := 55) ok [.int vq1, .int vq2, .int r3] [.int (M4 27 0 vq3.toNatClampNeg), .int vq3, .ref (gA g 27 0)] 2 (fun rZ MZ hZ => con_X11_leavesAt g l vq1 vq2 r3 _ rZ MZ hZ) cv_X11_185 ok_22 (rmOk_L (by decide) (by decide)) dX11_turnOf_55 rfl rfl (Nat.le_of_ble_eq_true rfl) (fun r5 M6 => ?_)
      refine r_iadd (pc := 58) ok dX11_turnOf_58 ?_
      refine r_iconst (pc := 59) ok 0 dX11_turnOf_59 (by decide) ?_
      refine r_sipush (pc := 60) ok 999 dX11_turnOf_60 (by decide) ?_
      refine r_callS0 (pc := 63) ok [.int ((M4 27 0 vq3.toNatClampNeg) + r5), .int 0, .int 999] [.int vq3, .ref (gA g 27 0)] 2 (fun rZ MZ hZ => con_X11_within g l ((M4 27 0 vq3.toNatClampNeg) + r5) 0 999 _ rZ MZ hZ) cs_X11_173 (rmOk_L (by decide) (by decide)) dX11_turnOf_63 rfl rfl (Nat.le_of_ble_eq_true rfl) (fun r7 M8 => ?_)
      refine r_iast (pc := 66) ok ik_27 (by decide) dX11_turnOf_66 ?_
      refine r_nmM (fun M9 => ?_)
      refine r_iinc (pc := 67) ok 4 (vq3 + 1) [(3, .int (vq3 + 1)), (4, .int r3), (0, .ref (gA g 22 0)), (1, .int vq1), (2, .int vq2)] dX11_turnOf_67 rfl (congrArg (fun z => vq3 + z) (by decide : Int32.ofInt 1 = (1 : Int32))) (by decide) rfl ?_
      refine r_goto (pc := 70) ok 15 dX11_turnOf_70 (by decide) ?_
      refine r_lv [2, 3, 4, 0] [(0, .ref (gA g 22 0)), (1, .int vq1), (2, .int vq2), (3, .int (vq3 + 1))] rfl ?_
      exact hk15 (vq3 + 1) M9
theorem sX11_turnOf_L15 {g : GP} {l : Launch} {x : CT} (ok : Ok g l x RX11 cX11_turnOf 5 none (rmL 5)) (vq1 : Int32) (vq2 : Int32)  : ∀ (n : Nat) (vq3 : Int32) (M : Mem), Sw g l x (FinQ g x eV) 5 0 0 15 [(0, .ref (gA g 22 0)), (1, .int vq1), (2, .int vq2), (3, .int vq3)] [] M (fX11_turnOf_L15 vq1 vq2 n vq3 M) := by
  intro n
  induction n with
  | zero => intros; exact r_none
  | succ n ih => intro vq3 M; exact sX11_turnOf_B15 ok vq1 vq2  _ ih vq3 M
def fX11_turnOf (vq1 : Int32) (M : Mem) : Option (Unit × Mem) :=
  gd (inb vq1 6)
  (ob (fX11_asksOf 0 vq1 (M 25 0 vq1.toNatClampNeg) M) fun r1 M2 =>
  fX11_turnOf_L15 vq1 r1 FU 0 M2)
set_option maxRecDepth 20000 in
theorem wX11_turnOf {g : GP} {l : Launch} {x : CT} (ok : Ok g l x RX11 cX11_turnOf 5 none (rmL 5)) (vq1 : Int32)  (M : Mem) : Sw g l x (FinQ g x eV) 5 0 0 0 [(0, .ref (gA g 22 0)), (1, .int vq1)] [] M (fX11_turnOf vq1 M) := by
  unfold fX11_turnOf
  refine r_aload_n (pc := 0) ok 0 dX11_turnOf_0 rfl ?_
  refine r_iconst (pc := 1) ok 0 dX11_turnOf_1 (by decide) ?_
  refine r_iload_n (pc := 2) ok 1 dX11_turnOf_2 rfl ?_
  refine r_aload_n (pc := 3) ok 0 dX11_turnOf_3 rfl ?_
  refine r_getR (pc := 4) ok fr_22_3 (by decide) fl_X11_16 dX11_turnOf_4 ?_
  refine r_iload_n (pc := 7) ok 1 dX11_turnOf_7 rfl ?_
  refine r_iald (pc := 8) ok ik_25 (by decide) dX11_turnOf_8 (fun _ => ?_)
  refine r_callV0 (pc := 9) ok [.int 0, .int vq1, .int (M 25 0 vq1.toNatClampNeg)] [] 4 (fun rZ MZ hZ => con_X11_asksOf g l 0 vq1 (M 25 0 vq1.toNatClampNeg) _ rZ MZ hZ) cv_X11_179 ok_22 (rmOk_L (by decide) (by decide)) dX11_turnOf_9 rfl rfl (Nat.le_of_ble_eq_true rfl) (fun r1 M2 => ?_)
  refine r_istore_n (pc := 12) ok [(2, .int r1), (0, .ref (gA g 22 0)), (1, .int vq1)] dX11_turnOf_12 rfl (by decide) rfl ?_
  refine r_iconst (pc := 13) ok 0 dX11_turnOf_13 (by decide) ?_
  refine r_istore_n (pc := 14) ok [(3, .int 0), (2, .int r1), (0, .ref (gA g 22 0)), (1, .int vq1)] dX11_turnOf_14 rfl (by decide) rfl ?_
  refine r_lv [2, 3, 1, 0] [(0, .ref (gA g 22 0)), (1, .int vq1), (2, .int r1), (3, .int 0)] rfl ?_
  exact sX11_turnOf_L15 ok vq1 r1 FU 0 M2
theorem con_X11_turnOf (g : GP) (l : Launch) (vq1 : Int32)  (M : Mem) (r : Unit) (M2 : Mem) (h : fX11_turnOf vq1 M = some (r, M2)) : Con g l yX11_turnOf cX11_turnOf 5 none (rmL 5) [.ref (gA g 22 0), .int vq1] M (eV r) M2 :=
  Con.of (own := RX11) (f := fX11_turnOf vq1 M) (by decide) (Nat.le_of_ble_eq_true rfl) rfl (fun x ok => wX11_turnOf ok vq1  M) r M2 h
def fX11_leaves_B88 (vq1 : Int32) (vq4 : Int32) (k88 : Int32 → Int32 → Mem → Option (Int32 × Mem)) (vq6 : Int32) (vq7 : Int32) (M : Mem) : Option (Int32 × Mem) :=
  if 36 ≤ vq7 then
    (some (vq6, M))
  else
    (gd (inb vq1 6)
    (ob (fX11_apart vq7 (M 25 0 vq1.toNatClampNeg) M) fun r11 M12 =>
    if 2 ≤ r11 then
      (lt (vq6 + 0) fun w13 =>
      k88 w13 (vq7 + 1) M12)
    else
      (ob (fX11_leavesAt vq1 vq4 r11 M12) fun r14 M15 =>
      lt (vq6 + r14) fun w16 =>
      k88 w16 (vq7 + 1) M15)))
def fX11_leaves_L88 (vq1 : Int32) (vq4 : Int32) : Nat → Int32 → Int32 → Mem → Option (Int32 × Mem)
  | 0, _, _, _ => none
  | n + 1, vq6, vq7, M => fX11_leaves_B88 vq1 vq4 (fX11_leaves_L88 vq1 vq4 n) vq6 vq7 M
set_option maxRecDepth 20000 in
theorem sX11_leaves_B88 {g : GP} {l : Launch} {x : CT} (ok : Ok g l x RX11 cX11_leaves 9 (some FieldType.int) (rmL 5)) (vq1 : Int32) (vq4 : Int32)  (k88 : Int32 → Int32 → Mem → Option (Int32 × Mem)) (hk88 : ∀ (vq6 : Int32) (vq7 : Int32) (M : Mem), Sw g l x (FinQ g x eI) 9 0 0 88 [(0, .ref (gA g 22 0)), (1, .int vq1), (4, .int vq4), (6, .int vq6), (7, .int vq7)] [] M (k88 vq6 vq7 M)) (vq6 : Int32) (vq7 : Int32) (M : Mem) : Sw g l x (FinQ g x eI) 9 0 0 88 [(0, .ref (gA g 22 0)), (1, .int vq1), (4, .int vq4), (6, .int vq6), (7, .int vq7)] [] M (fX11_leaves_B88 vq1 vq4 k88 vq6 vq7 M) := by
  unfold fX11_leaves_B88
  refine r_iload (pc := 88) ok 4 dX11_leaves_88 rfl ?_
  refine r_bipush (pc := 90) ok 36 dX11_leaves_90 (by decide) ?_
  refine r_icmp_ge (pc := 92) ok 138 dX11_leaves_92 (by decide) (fun _ => ?_) (fun _ => ?_)
  · refine r_iload (pc := 138) ok 3 dX11_leaves_138 rfl ?_
    exact r_iret (pc := 140) ok (Nat.zero_le _) (Nat.zero_le _) rfl dX11_leaves_140
  · refine r_iload (pc := 95) ok 4 dX11_leaves_95 rfl ?_
    refine r_aload_n (pc := 97) ok 0 dX11_leaves_97 rfl ?_
    refine r_getR (pc := 98) ok fr_22_3 (by decide) fl_X11_16 dX11_leaves_98 ?_
    refine r_iload_n (pc := 101) ok 1 dX11_leaves_101 rfl ?_
    refine r_iald (pc := 102) ok ik_25 (by decide) dX11_leaves_102 (fun _ => ?_)
    refine r_callS0 (pc := 103) ok [.int vq7, .int (M 25 0 vq1.toNatClampNeg)] [] 3 (fun rZ MZ hZ => con_X11_apart g l vq7 (M 25 0 vq1.toNatClampNeg) _ rZ MZ hZ) cs_X11_182 (rmOk_L (by decide) (by decide)) dX11_leaves_103 rfl rfl (Nat.le_of_ble_eq_true rfl) (fun r11 M12 => ?_)
    refine r_istore (pc := 106) ok [(8, .int r11), (0, .ref (gA g 22 0)), (1, .int vq1), (4, .int vq4), (6, .int vq6), (7, .int vq7)] dX11_leaves_106 (by decide) rfl ?_
    refine r_iload (pc := 108) ok 4 dX11_leaves_108 rfl ?_
    refine r_iload (pc := 110) ok 0 dX11_leaves_110 rfl ?_
    refine r_iconst (pc := 112) ok 2 dX11_leaves_112 (by decide) ?_
    refine r_icmp_ge (pc := 113) ok 128 dX11_leaves_113 (by decide) (fun _ => ?_) (fun _ => ?_)
    · refine r_iconst (pc := 128) ok 0 dX11_leaves_128 (by decide) ?_
      refine r_iadd (pc := 129) ok dX11_leaves_129 ?_
      refine r_nmi (fun w13 => ?_)
      refine r_istore (pc := 130) ok [(6, .int w13), (8, .int r11), (0, .ref (gA g 22 0)), (1, .int vq1), (4, .int vq4), (7, .int vq7)] dX11_leaves_130 (by decide) rfl ?_
      refine r_iinc (pc := 132) ok 5 (vq7 + 1) [(7, .int (vq7 + 1)), (6, .int w13), (8, .int r11), (0, .ref (gA g 22 0)), (1, .int vq1), (4, .int vq4)] dX11_leaves_132 rfl (congrArg (fun z => vq7 + z) (by decide : Int32.ofInt 1 = (1 : Int32))) (by decide) rfl ?_
      refine r_goto (pc := 135) ok 88 dX11_leaves_135 (by decide) ?_
      refine r_lv [3, 4, 5, 1, 0] [(0, .ref (gA g 22 0)), (1, .int vq1), (4, .int vq4), (6, .int w13), (7, .int (vq7 + 1))] rfl ?_
      exact hk88 w13 (vq7 + 1) M12
    · refine r_aload_n (pc := 116) ok 1 dX11_leaves_116 rfl ?_
      refine r_iload_n (pc := 117) ok 2 dX11_leaves_117 rfl ?_
      refine r_iload (pc := 118) ok 3 dX11_leaves_118 rfl ?_
      refine r_iload (pc := 120) ok 0 dX11_leaves_120 rfl ?_
      refine r_callV0 (pc := 122) ok [.int vq1, .int vq4, .int r11] [.int vq6] 2 (fun rZ MZ hZ => con_X11_leavesAt g l vq1 vq4 r11 _ rZ MZ hZ) cv_X11_185 ok_22 (rmOk_L (by decide) (by decide)) dX11_leaves_122 rfl rfl (Nat.le_of_ble_eq_true rfl) (fun r14 M15 => ?_)
      refine r_goto (pc := 125) ok 129 dX11_leaves_125 (by decide) ?_
      refine r_iadd (pc := 129) ok dX11_leaves_129 ?_
      refine r_nmi (fun w16 => ?_)
      refine r_istore (pc := 130) ok [(6, .int w16), (8, .int r11), (0, .ref (gA g 22 0)), (1, .int vq1), (4, .int vq4), (7, .int vq7)] dX11_leaves_130 (by decide) rfl ?_
      refine r_iinc (pc := 132) ok 5 (vq7 + 1) [(7, .int (vq7 + 1)), (6, .int w16), (8, .int r11), (0, .ref (gA g 22 0)), (1, .int vq1), (4, .int vq4)] dX11_leaves_132 rfl (congrArg (fun z => vq7 + z) (by decide : Int32.ofInt 1 = (1 : Int32))) (by decide) rfl ?_
      refine r_goto (pc := 135) ok 88 dX11_leaves_135 (by decide) ?_
      refine r_lv [3, 4, 5, 1, 0] [(0, .ref (gA g 22 0)), (1, .int vq1), (4, .int vq4), (6, .int w16), (7, .int (vq7 + 1))] rfl ?_
      exact hk88 w16 (vq7 + 1) M15
theorem sX11_leaves_L88 {g : GP} {l : Launch} {x : CT} (ok : Ok g l x RX11 cX11_leaves 9 (some FieldType.int) (rmL 5)) (vq1 : Int32) (vq4 : Int32)  : ∀ (n : Nat) (vq6 : Int32) (vq7 : Int32) (M : Mem), Sw g l x (FinQ g x eI) 9 0 0 88 [(0, .ref (gA g 22 0)), (1, .int vq1), (4, .int vq4), (6, .int vq6), (7, .int vq7)] [] M (fX11_leaves_L88 vq1 vq4 n vq6 vq7 M) := by
  intro n
  induction n with
  | zero => intros; exact r_none
  | succ n ih => intro vq6 vq7 M; exact sX11_leaves_B88 ok vq1 vq4  _ ih vq6 vq7 M
def fX11_leaves (vq1 : Int32) (vq2 : Int32) (vq3 : Int32) (M : Mem) : Option (Int32 × Mem) :=
  ob (fX11_isOne vq1 M) fun r1 M2 =>
  if r1 = 0 then
    (some (-1005, M2))
  else
    (ob (fX11_isCell vq2 M2) fun r3 M4 =>
    if r3 = 0 then
      (some (-1007, M4))
    else
      (ob (fX11_in vq3 0 1 M4) fun r5 M6 =>
      if r5 = 0 then
        (some (-1007, M6))
      else
        (gd (inb vq1 6)
        (ob (fX11_asksOf 0 vq1 (M6 25 0 vq1.toNatClampNeg) M6) fun r7 M8 =>
        gd (inb vq1 6)
        (ob (fX11_apart vq2 (M8 25 0 vq1.toNatClampNeg) M8) fun r9 M10 =>
        if vq3 = 0 then
          (if 2 ≤ r9 then
            (some (0, M10))
          else
            (ob (fX11_leavesAt vq1 r7 r9 M10) fun r17 M18 =>
            some (r17, M18)))
        else
          (fX11_leaves_L88 vq1 r7 FU 0 0 M10))))))
set_option maxRecDepth 20000 in
theorem wX11_leaves {g : GP} {l : Launch} {x : CT} (ok : Ok g l x RX11 cX11_leaves 9 (some FieldType.int) (rmL 5)) (vq1 : Int32) (vq2 : Int32) (vq3 : Int32)  (M : Mem) : Sw g l x (FinQ g x eI) 9 0 0 0 [(0, .ref (gA g 22 0)), (1, .int vq1), (2, .int vq2), (3, .int vq3)] [] M (fX11_leaves vq1 vq2 vq3 M) := by
  unfold fX11_leaves
  refine r_aload_n (pc := 0) ok 0 dX11_leaves_0 rfl ?_
  refine r_iload_n (pc := 1) ok 1 dX11_leaves_1 rfl ?_
  refine r_callV0 (pc := 2) ok [.int vq1] [] 3 (fun rZ MZ hZ => con_X11_isOne g l vq1 _ rZ MZ hZ) cv_X11_176 ok_22 (rmOk_L (by decide) (by decide)) dX11_leaves_2 rfl rfl (Nat.le_of_ble_eq_true rfl) (fun r1 M2 => ?_)
  refine r_if_ne (pc := 5) ok 12 dX11_leaves_5 (by decide) (fun _ => ?_) (fun _ => ?_)
  · refine r_sipush (pc := 8) ok (-1005) dX11_leaves_8 (by decide) ?_
    exact r_iret (pc := 11) ok (Nat.zero_le _) (Nat.zero_le _) rfl dX11_leaves_11
  · refine r_iload_n (pc := 12) ok 2 dX11_leaves_12 rfl ?_
    refine r_callS0 (pc := 13) ok [.int vq2] [] 3 (fun rZ MZ hZ => con_X11_isCell g l vq2 _ rZ MZ hZ) cs_X11_104 (rmOk_L (by decide) (by decide)) dX11_leaves_13 rfl rfl (Nat.le_of_ble_eq_true rfl) (fun r3 M4 => ?_)
    refine r_if_eq (pc := 16) ok 28 dX11_leaves_16 (by decide) (fun _ => ?_) (fun _ => ?_)
    · refine r_sipush (pc := 28) ok (-1007) dX11_leaves_28 (by decide) ?_
      exact r_iret (pc := 31) ok (Nat.zero_le _) (Nat.zero_le _) rfl dX11_leaves_31
    · refine r_iload_n (pc := 19) ok 3 dX11_leaves_19 rfl ?_
      refine r_iconst (pc := 20) ok 0 dX11_leaves_20 (by decide) ?_
      refine r_iconst (pc := 21) ok 1 dX11_leaves_21 (by decide) ?_
      refine r_callS0 (pc := 22) ok [.int vq3, .int 0, .int 1] [] 2 (fun rZ MZ hZ => con_X11_in g l vq3 0 1 _ rZ MZ hZ) cs_X11_84 (rmOk_L (by decide) (by decide)) dX11_leaves_22 rfl rfl (Nat.le_of_ble_eq_true rfl) (fun r5 M6 => ?_)
      refine r_if_ne (pc := 25) ok 32 dX11_leaves_25 (by decide) (fun _ => ?_) (fun _ => ?_)
      · refine r_sipush (pc := 28) ok (-1007) dX11_leaves_28 (by decide) ?_
        exact r_iret (pc := 31) ok (Nat.zero_le _) (Nat.zero_le _) rfl dX11_leaves_31
      · refine r_aload_n (pc := 32) ok 0 dX11_leaves_32 rfl ?_
        refine r_iconst (pc := 33) ok 0 dX11_leaves_33 (by decide) ?_
        refine r_iload_n (pc := 34) ok 1 dX11_leaves_34 rfl ?_
        refine r_aload_n (pc := 35) ok 0 dX11_leaves_35 rfl ?_
        refine r_getR (pc := 36) ok fr_22_3 (by decide) fl_X11_16 dX11_leaves_36 ?_
        refine r_iload_n (pc := 39) ok 1 dX11_leaves_39 rfl ?_
        refine r_iald (pc := 40) ok ik_25 (by decide) dX11_leaves_40 (fun _ => ?_)
        refine r_callV0 (pc := 41) ok [.int 0, .int vq1, .int (M6 25 0 vq1.toNatClampNeg)] [] 4 (fun rZ MZ hZ => con_X11_asksOf g l 0 vq1 (M6 25 0 vq1.toNatClampNeg) _ rZ MZ hZ) cv_X11_179 ok_22 (rmOk_L (by decide) (by decide)) dX11_leaves_41 rfl rfl (Nat.le_of_ble_eq_true rfl) (fun r7 M8 => ?_)
        refine r_istore (pc := 44) ok [(4, .int r7), (0, .ref (gA g 22 0)), (1, .int vq1), (2, .int vq2), (3, .int vq3)] dX11_leaves_44 (by decide) rfl ?_
        refine r_iload_n (pc := 46) ok 3 dX11_leaves_46 rfl ?_
        refine r_aload_n (pc := 47) ok 1 dX11_leaves_47 rfl ?_
        refine r_getR (pc := 48) ok fr_22_3 (by decide) fl_X11_16 dX11_leaves_48 ?_
        refine r_iload_n (pc := 51) ok 2 dX11_leaves_51 rfl ?_
        refine r_iald (pc := 52) ok ik_25 (by decide) dX11_leaves_52 (fun _ => ?_)
        refine r_callS0 (pc := 53) ok [.int vq2, .int (M8 25 0 vq1.toNatClampNeg)] [] 3 (fun rZ MZ hZ => con_X11_apart g l vq2 (M8 25 0 vq1.toNatClampNeg) _ rZ MZ hZ) cs_X11_182 (rmOk_L (by decide) (by decide)) dX11_leaves_53 rfl rfl (Nat.le_of_ble_eq_true rfl) (fun r9 M10 => ?_)
        refine r_istore (pc := 56) ok [(5, .int r9), (4, .int r7), (0, .ref (gA g 22 0)), (1, .int vq1), (2, .int vq2), (3, .int vq3)] dX11_leaves_56 (by decide) rfl ?_
        refine r_iload_n (pc := 58) ok 5 dX11_leaves_58 rfl ?_
        refine r_if_ne (pc := 59) ok 82 dX11_leaves_59 (by decide) (fun _ => ?_) (fun _ => ?_)
        · refine r_iload (pc := 62) ok 0 dX11_leaves_62 rfl ?_
          refine r_iconst (pc := 64) ok 2 dX11_leaves_64 (by decide) ?_
          refine r_icmp_ge (pc := 65) ok 80 dX11_leaves_65 (by decide) (fun _ => ?_) (fun _ => ?_)
          · refine r_iconst (pc := 80) ok 0 dX11_leaves_80 (by decide) ?_
            exact r_iret (pc := 81) ok (Nat.zero_le _) (Nat.zero_le _) rfl dX11_leaves_81
          · refine r_aload_n (pc := 68) ok 2 dX11_leaves_68 rfl ?_
            refine r_iload_n (pc := 69) ok 3 dX11_leaves_69 rfl ?_
            refine r_iload (pc := 70) ok 1 dX11_leaves_70 rfl ?_
            refine r_iload (pc := 72) ok 0 dX11_leaves_72 rfl ?_
            refine r_callV0 (pc := 74) ok [.int vq1, .int r7, .int r9] [] 2 (fun rZ MZ hZ => con_X11_leavesAt g l vq1 r7 r9 _ rZ MZ hZ) cv_X11_185 ok_22 (rmOk_L (by decide) (by decide)) dX11_leaves_74 rfl rfl (Nat.le_of_ble_eq_true rfl) (fun r17 M18 => ?_)
            refine r_goto (pc := 77) ok 81 dX11_leaves_77 (by decide) ?_
            exact r_iret (pc := 81) ok (Nat.zero_le _) (Nat.zero_le _) rfl dX11_leaves_81
        · refine r_iconst (pc := 82) ok 0 dX11_leaves_82 (by decide) ?_
          refine r_istore (pc := 83) ok [(6, .int 0), (5, .int r9), (4, .int r7), (0, .ref (gA g 22 0)), (1, .int vq1), (2, .int vq2), (3, .int vq3)] dX11_leaves_83 (by decide) rfl ?_
          refine r_iconst (pc := 85) ok 0 dX11_leaves_85 (by decide) ?_
          refine r_istore (pc := 86) ok [(7, .int 0), (6, .int 0), (5, .int r9), (4, .int r7), (0, .ref (gA g 22 0)), (1, .int vq1), (2, .int vq2), (3, .int vq3)] dX11_leaves_86 (by decide) rfl ?_
          refine r_lv [4, 5, 3, 1, 0] [(0, .ref (gA g 22 0)), (1, .int vq1), (4, .int r7), (6, .int 0), (7, .int 0)] rfl ?_
          exact sX11_leaves_L88 ok vq1 r7 FU 0 0 M10
theorem con_X11_leaves (g : GP) (l : Launch) (vq1 : Int32) (vq2 : Int32) (vq3 : Int32)  (M : Mem) (r : Int32) (M2 : Mem) (h : fX11_leaves vq1 vq2 vq3 M = some (r, M2)) : Con g l yX11_leaves cX11_leaves 9 (some FieldType.int) (rmL 5) [.ref (gA g 22 0), .int vq1, .int vq2, .int vq3] M (eI r) M2 :=
  Con.of (own := RX11) (f := fX11_leaves vq1 vq2 vq3 M) (by decide) (Nat.le_of_ble_eq_true rfl) rfl (fun x ok => wX11_leaves ok vq1 vq2 vq3  M) r M2 h
def fX11_heap_J89 (k51 : Int64 → Int64 → Int32 → Mem → Option (Int64 × Mem)) (vq3 : Int32) (vq4 : Int64) (vq8 : Int64) (vq10 : Int32) (vq11 : Int32) (s0 : Int64) (s1 : Int64) (M : Mem) : Option (Int64 × Mem) :=
  lt (s1 + s0) fun w11 =>
  if vq11 = 0 then
    (lt (vq8 + 0) fun w12 =>
    k51 w11 w12 (vq10 + 1) M)
  else
    (gd (inb vq10 36)
    (lt (vq8 + ((M 27 0 vq10.toNatClampNeg).toInt64)) fun w13 =>
    k51 w11 w13 (vq10 + 1) M))
set_option maxRecDepth 20000 in
theorem sX11_heap_J89 {g : GP} {l : Launch} {x : CT} {k51 : Int64 → Int64 → Int32 → Mem → Option (Int64 × Mem)} (ok : Ok g l x RX11 cX11_heap 12 (some FieldType.long) (rmL 5)) (vq3 : Int32) (vq4 : Int64) (vq8 : Int64) (vq10 : Int32) (vq11 : Int32) (s0 : Int64) (s1 : Int64)  (hk51 : ∀ (vq6 : Int64) (vq8 : Int64) (vq10 : Int32) (M : Mem), Sw g l x (FinQ g x eJ) 12 0 0 51 [(0, .ref (gA g 22 0)), (3, .int vq3), (4, .long vq4), (6, .long vq6), (8, .long vq8), (10, .int vq10)] [] M (k51 vq6 vq8 vq10 M)) (M : Mem) : Sw g l x (FinQ g x eJ) 12 0 0 89 [(0, .ref (gA g 22 0)), (3, .int vq3), (4, .long vq4), (8, .long vq8), (10, .int vq10), (11, .int vq11)] [.long s0, .long s1] M (fX11_heap_J89 k51 vq3 vq4 vq8 vq10 vq11 s0 s1 M) := by
  unfold fX11_heap_J89
  refine r_ladd (pc := 89) ok dX11_heap_89 ?_
  refine r_nml (fun w11 => ?_)
  refine r_lstore (pc := 90) ok [(6, .long w11), (0, .ref (gA g 22 0)), (3, .int vq3), (4, .long vq4), (8, .long vq8), (10, .int vq10), (11, .int vq11)] dX11_heap_90 (by decide) rfl ?_
  refine r_lload (pc := 92) ok 4 dX11_heap_92 rfl ?_
  refine r_iload (pc := 94) ok 6 dX11_heap_94 rfl ?_
  refine r_if_eq (pc := 96) ok 110 dX11_heap_96 (by decide) (fun _ => ?_) (fun _ => ?_)
  · refine r_lconst (pc := 110) ok 0 dX11_heap_110 (by decide) ?_
    refine r_ladd (pc := 111) ok dX11_heap_111 ?_
    refine r_nml (fun w12 => ?_)
    refine r_lstore (pc := 112) ok [(8, .long w12), (6, .long w11), (0, .ref (gA g 22 0)), (3, .int vq3), (4, .long vq4), (10, .int vq10), (11, .int vq11)] dX11_heap_112 (by decide) rfl ?_
    refine r_iinc (pc := 114) ok 5 (vq10 + 1) [(10, .int (vq10 + 1)), (8, .long w12), (6, .long w11), (0, .ref (gA g 22 0)), (3, .int vq3), (4, .long vq4), (11, .int vq11)] dX11_heap_114 rfl (congrArg (fun z => vq10 + z) (by decide : Int32.ofInt 1 = (1 : Int32))) (by decide) rfl ?_
    refine r_goto (pc := 117) ok 51 dX11_heap_117 (by decide) ?_
    refine r_lv [3, 4, 5, 2, 1, 0] [(0, .ref (gA g 22 0)), (3, .int vq3), (4, .long vq4), (6, .long w11), (8, .long w12), (10, .int (vq10 + 1))] rfl ?_
    exact hk51 w11 w12 (vq10 + 1) M
  · refine r_aload_n (pc := 99) ok 1 dX11_heap_99 rfl ?_
    refine r_getR (pc := 100) ok fr_22_5 (by decide) fl_X11_22 dX11_heap_100 ?_
    refine r_iload (pc := 103) ok 5 dX11_heap_103 rfl ?_
    refine r_iald (pc := 105) ok ik_27 (by decide) dX11_heap_105 (fun _ => ?_)
    refine r_i2l (pc := 106) ok dX11_heap_106 ?_
    refine r_goto (pc := 107) ok 111 dX11_heap_107 (by decide) ?_
    refine r_ladd (pc := 111) ok dX11_heap_111 ?_
    refine r_nml (fun w13 => ?_)
    refine r_lstore (pc := 112) ok [(8, .long w13), (6, .long w11), (0, .ref (gA g 22 0)), (3, .int vq3), (4, .long vq4), (10, .int vq10), (11, .int vq11)] dX11_heap_112 (by decide) rfl ?_
    refine r_iinc (pc := 114) ok 5 (vq10 + 1) [(10, .int (vq10 + 1)), (8, .long w13), (6, .long w11), (0, .ref (gA g 22 0)), (3, .int vq3), (4, .long vq4), (11, .int vq11)] dX11_heap_114 rfl (congrArg (fun z => vq10 + z) (by decide : Int32.ofInt 1 = (1 : Int32))) (by decide) rfl ?_
    refine r_goto (pc := 117) ok 51 dX11_heap_117 (by decide) ?_
    refine r_lv [3, 4, 5, 2, 1, 0] [(0, .ref (gA g 22 0)), (3, .int vq3), (4, .long vq4), (6, .long w11), (8, .long w13), (10, .int (vq10 + 1))] rfl ?_
    exact hk51 w11 w13 (vq10 + 1) M
def fX11_heap_J75 (k51 : Int64 → Int64 → Int32 → Mem → Option (Int64 × Mem)) (vq3 : Int32) (vq4 : Int64) (vq6 : Int64) (vq8 : Int64) (vq10 : Int32) (s0 : Int32) (M : Mem) : Option (Int64 × Mem) :=
  if s0 = 0 then
    (fX11_heap_J89 k51 vq3 vq4 vq8 vq10 s0 0 vq6 M)
  else
    (fX11_heap_J89 k51 vq3 vq4 vq8 vq10 s0 1 vq6 M)
set_option maxRecDepth 20000 in
theorem sX11_heap_J75 {g : GP} {l : Launch} {x : CT} {k51 : Int64 → Int64 → Int32 → Mem → Option (Int64 × Mem)} (ok : Ok g l x RX11 cX11_heap 12 (some FieldType.long) (rmL 5)) (vq3 : Int32) (vq4 : Int64) (vq6 : Int64) (vq8 : Int64) (vq10 : Int32) (s0 : Int32)  (hk51 : ∀ (vq6 : Int64) (vq8 : Int64) (vq10 : Int32) (M : Mem), Sw g l x (FinQ g x eJ) 12 0 0 51 [(0, .ref (gA g 22 0)), (3, .int vq3), (4, .long vq4), (6, .long vq6), (8, .long vq8), (10, .int vq10)] [] M (k51 vq6 vq8 vq10 M)) (M : Mem) : Sw g l x (FinQ g x eJ) 12 0 0 75 [(0, .ref (gA g 22 0)), (3, .int vq3), (4, .long vq4), (6, .long vq6), (8, .long vq8), (10, .int vq10)] [.int s0] M (fX11_heap_J75 k51 vq3 vq4 vq6 vq8 vq10 s0 M) := by
  unfold fX11_heap_J75
  refine r_istore (pc := 75) ok [(11, .int s0), (0, .ref (gA g 22 0)), (3, .int vq3), (4, .long vq4), (6, .long vq6), (8, .long vq8), (10, .int vq10)] dX11_heap_75 (by decide) rfl ?_
  refine r_lload (pc := 77) ok 4 dX11_heap_77 rfl ?_
  refine r_iload (pc := 79) ok 0 dX11_heap_79 rfl ?_
  refine r_if_eq (pc := 81) ok 88 dX11_heap_81 (by decide) (fun _ => ?_) (fun _ => ?_)
  · refine r_lconst (pc := 88) ok 0 dX11_heap_88 (by decide) ?_
    refine r_lv [1, 2, 3, 5, 6, 0] [(0, .ref (gA g 22 0)), (3, .int vq3), (4, .long vq4), (8, .long vq8), (10, .int vq10), (11, .int s0)] rfl ?_
    exact sX11_heap_J89 ok vq3 vq4 vq8 vq10 s0 0 vq6 hk51 M
  · refine r_lconst (pc := 84) ok 1 dX11_heap_84 (by decide) ?_
    refine r_goto (pc := 85) ok 89 dX11_heap_85 (by decide) ?_
    refine r_lv [1, 2, 3, 5, 6, 0] [(0, .ref (gA g 22 0)), (3, .int vq3), (4, .long vq4), (8, .long vq8), (10, .int vq10), (11, .int s0)] rfl ?_
    exact sX11_heap_J89 ok vq3 vq4 vq8 vq10 s0 1 vq6 hk51 M
def fX11_heap_B51 (vq3 : Int32) (vq4 : Int64) (k51 : Int64 → Int64 → Int32 → Mem → Option (Int64 × Mem)) (vq6 : Int64) (vq8 : Int64) (vq10 : Int32) (M : Mem) : Option (Int64 × Mem) :=
  if 36 ≤ vq10 then
    (if vq3 = 0 then
      (some (vq4, M))
    else
      (if vq3 = 1 then
        (some (vq6, M))
      else
        (some (vq8, M))))
  else
    (if (lg_cmp ((lshr vq4 vq10) &&& 1) 1) = 0 then
      (fX11_heap_J75 k51 vq3 vq4 vq6 vq8 vq10 1 M)
    else
      (fX11_heap_J75 k51 vq3 vq4 vq6 vq8 vq10 0 M))
def fX11_heap_L51 (vq3 : Int32) (vq4 : Int64) : Nat → Int64 → Int64 → Int32 → Mem → Option (Int64 × Mem)
  | 0, _, _, _, _ => none
  | n + 1, vq6, vq8, vq10, M => fX11_heap_B51 vq3 vq4 (fX11_heap_L51 vq3 vq4 n) vq6 vq8 vq10 M
set_option maxRecDepth 20000 in
theorem sX11_heap_B51 {g : GP} {l : Launch} {x : CT} (ok : Ok g l x RX11 cX11_heap 12 (some FieldType.long) (rmL 5)) (vq3 : Int32) (vq4 : Int64)  (k51 : Int64 → Int64 → Int32 → Mem → Option (Int64 × Mem)) (hk51 : ∀ (vq6 : Int64) (vq8 : Int64) (vq10 : Int32) (M : Mem), Sw g l x (FinQ g x eJ) 12 0 0 51 [(0, .ref (gA g 22 0)), (3, .int vq3), (4, .long vq4), (6, .long vq6), (8, .long vq8), (10, .int vq10)] [] M (k51 vq6 vq8 vq10 M)) (vq6 : Int64) (vq8 : Int64) (vq10 : Int32) (M : Mem) : Sw g l x (FinQ g x eJ) 12 0 0 51 [(0, .ref (gA g 22 0)), (3, .int vq3), (4, .long vq4), (6, .long vq6), (8, .long vq8), (10, .int vq10)] [] M (fX11_heap_B51 vq3 vq4 k51 vq6 vq8 vq10 M) := by
  unfold fX11_heap_B51
  refine r_iload (pc := 51) ok 5 dX11_heap_51 rfl ?_
  refine r_bipush (pc := 53) ok 36 dX11_heap_53 (by decide) ?_
  refine r_icmp_ge (pc := 55) ok 120 dX11_heap_55 (by decide) (fun _ => ?_) (fun _ => ?_)
  · refine r_iload_n (pc := 120) ok 1 dX11_heap_120 rfl ?_
    refine r_if_ne (pc := 121) ok 129 dX11_heap_121 (by decide) (fun _ => ?_) (fun _ => ?_)
    · refine r_lload (pc := 124) ok 2 dX11_heap_124 rfl ?_
      refine r_goto (pc := 126) ok 141 dX11_heap_126 (by decide) ?_
      exact r_lret (pc := 141) ok (Nat.zero_le _) (Nat.zero_le _) rfl dX11_heap_141
    · refine r_iload_n (pc := 129) ok 1 dX11_heap_129 rfl ?_
      refine r_iconst (pc := 130) ok 1 dX11_heap_130 (by decide) ?_
      refine r_icmp_ne (pc := 131) ok 139 dX11_heap_131 (by decide) (fun _ => ?_) (fun _ => ?_)
      · refine r_lload (pc := 134) ok 3 dX11_heap_134 rfl ?_
        refine r_goto (pc := 136) ok 141 dX11_heap_136 (by decide) ?_
        exact r_lret (pc := 141) ok (Nat.zero_le _) (Nat.zero_le _) rfl dX11_heap_141
      · refine r_lload (pc := 139) ok 4 dX11_heap_139 rfl ?_
        exact r_lret (pc := 141) ok (Nat.zero_le _) (Nat.zero_le _) rfl dX11_heap_141
  · refine r_lload (pc := 58) ok 2 dX11_heap_58 rfl ?_
    refine r_iload (pc := 60) ok 5 dX11_heap_60 rfl ?_
    refine r_lshr (pc := 62) ok dX11_heap_62 ?_
    refine r_lconst (pc := 63) ok 1 dX11_heap_63 (by decide) ?_
    refine r_land (pc := 64) ok dX11_heap_64 ?_
    refine r_lconst (pc := 65) ok 1 dX11_heap_65 (by decide) ?_
    refine r_lcmp (pc := 66) ok dX11_heap_66 ?_
    refine r_if_ne (pc := 67) ok 74 dX11_heap_67 (by decide) (fun _ => ?_) (fun _ => ?_)
    · refine r_iconst (pc := 70) ok 1 dX11_heap_70 (by decide) ?_
      refine r_goto (pc := 71) ok 75 dX11_heap_71 (by decide) ?_
      refine r_lv [0, 1, 2, 3, 4, 5] [(0, .ref (gA g 22 0)), (3, .int vq3), (4, .long vq4), (6, .long vq6), (8, .long vq8), (10, .int vq10)] rfl ?_
      exact sX11_heap_J75 ok vq3 vq4 vq6 vq8 vq10 1 hk51 M
    · refine r_iconst (pc := 74) ok 0 dX11_heap_74 (by decide) ?_
      refine r_lv [0, 1, 2, 3, 4, 5] [(0, .ref (gA g 22 0)), (3, .int vq3), (4, .long vq4), (6, .long vq6), (8, .long vq8), (10, .int vq10)] rfl ?_
      exact sX11_heap_J75 ok vq3 vq4 vq6 vq8 vq10 0 hk51 M
theorem sX11_heap_L51 {g : GP} {l : Launch} {x : CT} (ok : Ok g l x RX11 cX11_heap 12 (some FieldType.long) (rmL 5)) (vq3 : Int32) (vq4 : Int64)  : ∀ (n : Nat) (vq6 : Int64) (vq8 : Int64) (vq10 : Int32) (M : Mem), Sw g l x (FinQ g x eJ) 12 0 0 51 [(0, .ref (gA g 22 0)), (3, .int vq3), (4, .long vq4), (6, .long vq6), (8, .long vq8), (10, .int vq10)] [] M (fX11_heap_L51 vq3 vq4 n vq6 vq8 vq10 M) := by
  intro n
  induction n with
  | zero => intros; exact r_none
  | succ n ih => intro vq6 vq8 vq10 M; exact sX11_heap_B51 ok vq3 vq4  _ ih vq6 vq8 vq10 M
def fX11_heap (vq1 : Int32) (vq2 : Int32) (vq3 : Int32) (M : Mem) : Option (Int64 × Mem) :=
  ob (fX11_isCell vq1 M) fun r1 M2 =>
  if r1 = 0 then
    (some (-4611686018427387904, M2))
  else
    (ob (fX11_in vq2 0 999 M2) fun r3 M4 =>
    if r3 = 0 then
      (some (-4611686018427387904, M4))
    else
      (ob (fX11_in vq3 0 2 M4) fun r5 M6 =>
      if r5 = 0 then
        (some (-4611686018427387904, M6))
      else
        (ob (fX11_thickSet vq2 M6) fun r7 M8 =>
        ob (fX11_heapOf vq1 r7 M8) fun r9 M10 =>
        fX11_heap_L51 vq3 r9 FU 0 0 0 M10)))
set_option maxRecDepth 20000 in
theorem wX11_heap {g : GP} {l : Launch} {x : CT} (ok : Ok g l x RX11 cX11_heap 12 (some FieldType.long) (rmL 5)) (vq1 : Int32) (vq2 : Int32) (vq3 : Int32)  (M : Mem) : Sw g l x (FinQ g x eJ) 12 0 0 0 [(0, .ref (gA g 22 0)), (1, .int vq1), (2, .int vq2), (3, .int vq3)] [] M (fX11_heap vq1 vq2 vq3 M) := by
  unfold fX11_heap
  refine r_iload_n (pc := 0) ok 1 dX11_heap_0 rfl ?_
  refine r_callS0 (pc := 1) ok [.int vq1] [] 3 (fun rZ MZ hZ => con_X11_isCell g l vq1 _ rZ MZ hZ) cs_X11_104 (rmOk_L (by decide) (by decide)) dX11_heap_1 rfl rfl (Nat.le_of_ble_eq_true rfl) (fun r1 M2 => ?_)
  refine r_if_eq (pc := 4) ok 27 dX11_heap_4 (by decide) (fun _ => ?_) (fun _ => ?_)
  · refine r_ldc2 (pc := 27) ok wcl_X11_216 dX11_heap_27 ?_
    exact r_lret (pc := 30) ok (Nat.zero_le _) (Nat.zero_le _) rfl dX11_heap_30
  · refine r_iload_n (pc := 7) ok 2 dX11_heap_7 rfl ?_
    refine r_iconst (pc := 8) ok 0 dX11_heap_8 (by decide) ?_
    refine r_sipush (pc := 9) ok 999 dX11_heap_9 (by decide) ?_
    refine r_callS0 (pc := 12) ok [.int vq2, .int 0, .int 999] [] 2 (fun rZ MZ hZ => con_X11_in g l vq2 0 999 _ rZ MZ hZ) cs_X11_84 (rmOk_L (by decide) (by decide)) dX11_heap_12 rfl rfl (Nat.le_of_ble_eq_true rfl) (fun r3 M4 => ?_)
    refine r_if_eq (pc := 15) ok 27 dX11_heap_15 (by decide) (fun _ => ?_) (fun _ => ?_)
    · refine r_ldc2 (pc := 27) ok wcl_X11_216 dX11_heap_27 ?_
      exact r_lret (pc := 30) ok (Nat.zero_le _) (Nat.zero_le _) rfl dX11_heap_30
    · refine r_iload_n (pc := 18) ok 3 dX11_heap_18 rfl ?_
      refine r_iconst (pc := 19) ok 0 dX11_heap_19 (by decide) ?_
      refine r_iconst (pc := 20) ok 2 dX11_heap_20 (by decide) ?_
      refine r_callS0 (pc := 21) ok [.int vq3, .int 0, .int 2] [] 2 (fun rZ MZ hZ => con_X11_in g l vq3 0 2 _ rZ MZ hZ) cs_X11_84 (rmOk_L (by decide) (by decide)) dX11_heap_21 rfl rfl (Nat.le_of_ble_eq_true rfl) (fun r5 M6 => ?_)
      refine r_if_ne (pc := 24) ok 31 dX11_heap_24 (by decide) (fun _ => ?_) (fun _ => ?_)
      · refine r_ldc2 (pc := 27) ok wcl_X11_216 dX11_heap_27 ?_
        exact r_lret (pc := 30) ok (Nat.zero_le _) (Nat.zero_le _) rfl dX11_heap_30
      · refine r_iload_n (pc := 31) ok 1 dX11_heap_31 rfl ?_
        refine r_aload_n (pc := 32) ok 0 dX11_heap_32 rfl ?_
        refine r_iload_n (pc := 33) ok 2 dX11_heap_33 rfl ?_
        refine r_callV0 (pc := 34) ok [.int vq2] [.int vq1] 2 (fun rZ MZ hZ => con_X11_thickSet g l vq2 _ rZ MZ hZ) cv_X11_218 ok_22 (rmOk_L (by decide) (by decide)) dX11_heap_34 rfl rfl (Nat.le_of_ble_eq_true rfl) (fun r7 M8 => ?_)
        refine r_callS0 (pc := 37) ok [.int vq1, .long r7] [] 4 (fun rZ MZ hZ => con_X11_heapOf g l vq1 r7 _ rZ MZ hZ) cs_X11_222 (rmOk_L (by decide) (by decide)) dX11_heap_37 rfl rfl (Nat.le_of_ble_eq_true rfl) (fun r9 M10 => ?_)
        refine r_lstore (pc := 40) ok [(4, .long r9), (0, .ref (gA g 22 0)), (1, .int vq1), (2, .int vq2), (3, .int vq3)] dX11_heap_40 (by decide) rfl ?_
        refine r_lconst (pc := 42) ok 0 dX11_heap_42 (by decide) ?_
        refine r_lstore (pc := 43) ok [(6, .long 0), (4, .long r9), (0, .ref (gA g 22 0)), (1, .int vq1), (2, .int vq2), (3, .int vq3)] dX11_heap_43 (by decide) rfl ?_
        refine r_lconst (pc := 45) ok 0 dX11_heap_45 (by decide) ?_
        refine r_lstore (pc := 46) ok [(8, .long 0), (6, .long 0), (4, .long r9), (0, .ref (gA g 22 0)), (1, .int vq1), (2, .int vq2), (3, .int vq3)] dX11_heap_46 (by decide) rfl ?_
        refine r_iconst (pc := 48) ok 0 dX11_heap_48 (by decide) ?_
        refine r_istore (pc := 49) ok [(10, .int 0), (8, .long 0), (6, .long 0), (4, .long r9), (0, .ref (gA g 22 0)), (1, .int vq1), (2, .int vq2), (3, .int vq3)] dX11_heap_49 (by decide) rfl ?_
        refine r_lv [4, 7, 3, 2, 1, 0] [(0, .ref (gA g 22 0)), (3, .int vq3), (4, .long r9), (6, .long 0), (8, .long 0), (10, .int 0)] rfl ?_
        exact sX11_heap_L51 ok vq3 r9 FU 0 0 0 M10
theorem con_X11_heap (g : GP) (l : Launch) (vq1 : Int32) (vq2 : Int32) (vq3 : Int32)  (M : Mem) (r : Int64) (M2 : Mem) (h : fX11_heap vq1 vq2 vq3 M = some (r, M2)) : Con g l yX11_heap cX11_heap 12 (some FieldType.long) (rmL 5) [.ref (gA g 22 0), .int vq1, .int vq2, .int vq3] M (eJ r) M2 :=
  Con.of (own := RX11) (f := fX11_heap vq1 vq2 vq3 M) (by decide) (Nat.le_of_ble_eq_true rfl) rfl (fun x ok => wX11_heap ok vq1 vq2 vq3  M) r M2 h
