def fX11_heapsOf_B12  (k12 : Int64 → Int32 → Int32 → Mem → Option (Int32 × Mem)) (vq2 : Int64) (vq4 : Int32) (vq5 : Int32) (M : Mem) : Option (Int32 × Mem) :=
  if 36 ≤ vq5 then
    (some (vq4, M))
  else
    (if (lg_cmp ((lshr vq2 vq5) &&& 1) 1) = 0 then
      (ob (fX11_heapOf vq5 vq2 M) fun r3 M4 =>
      lt (vq2 &&& (r3 ^^^ (-1))) fun w5 =>
      k12 w5 (vq4 + 1) (vq5 + 1) M4)
    else
      (k12 vq2 vq4 (vq5 + 1) M))
def fX11_heapsOf_L12  : Nat → Int64 → Int32 → Int32 → Mem → Option (Int32 × Mem)
  | 0, _, _, _, _ => none
  | n + 1, vq2, vq4, vq5, M => fX11_heapsOf_B12  (fX11_heapsOf_L12  n) vq2 vq4 vq5 M
set_option maxRecDepth 20000 in
theorem sX11_heapsOf_B12 {g : GP} {l : Launch} {x : CT} (ok : Ok g l x RX11 cX11_heapsOf 6 (some FieldType.int) (rmL 5))   (k12 : Int64 → Int32 → Int32 → Mem → Option (Int32 × Mem)) (hk12 : ∀ (vq2 : Int64) (vq4 : Int32) (vq5 : Int32) (M : Mem), Sw g l x (FinQ g x eI) 6 0 0 12 [(2, .long vq2), (4, .int vq4), (5, .int vq5)] [] M (k12 vq2 vq4 vq5 M)) (vq2 : Int64) (vq4 : Int32) (vq5 : Int32) (M : Mem) : Sw g l x (FinQ g x eI) 6 0 0 12 [(2, .long vq2), (4, .int vq4), (5, .int vq5)] [] M (fX11_heapsOf_B12  k12 vq2 vq4 vq5 M) := by
  unfold fX11_heapsOf_B12
  refine r_iload (pc := 12) ok 2 dX11_heapsOf_12 rfl ?_
  refine r_bipush (pc := 14) ok 36 dX11_heapsOf_14 (by decide) ?_
  refine r_icmp_ge (pc := 16) ok 52 dX11_heapsOf_16 (by decide) (fun _ => ?_) (fun _ => ?_)
  · refine r_iload (pc := 52) ok 1 dX11_heapsOf_52 rfl ?_
    exact r_iret (pc := 54) ok (Nat.zero_le _) (Nat.zero_le _) rfl dX11_heapsOf_54
  · refine r_lload_n (pc := 19) ok 0 dX11_heapsOf_19 rfl ?_
    refine r_iload (pc := 20) ok 2 dX11_heapsOf_20 rfl ?_
    refine r_lshr (pc := 22) ok dX11_heapsOf_22 ?_
    refine r_lconst (pc := 23) ok 1 dX11_heapsOf_23 (by decide) ?_
    refine r_land (pc := 24) ok dX11_heapsOf_24 ?_
    refine r_lconst (pc := 25) ok 1 dX11_heapsOf_25 (by decide) ?_
    refine r_lcmp (pc := 26) ok dX11_heapsOf_26 ?_
    refine r_if_ne (pc := 27) ok 46 dX11_heapsOf_27 (by decide) (fun _ => ?_) (fun _ => ?_)
    · refine r_lload_n (pc := 30) ok 0 dX11_heapsOf_30 rfl ?_
      refine r_iload (pc := 31) ok 2 dX11_heapsOf_31 rfl ?_
      refine r_lload_n (pc := 33) ok 0 dX11_heapsOf_33 rfl ?_
      refine r_callS0 (pc := 34) ok [.int vq5, .long vq2] [.long vq2] 4 (fun rZ MZ hZ => con_X11_heapOf g l vq5 vq2 _ rZ MZ hZ) cs_X11_222 (rmOk_L (by decide) (by decide)) dX11_heapsOf_34 rfl rfl (Nat.le_of_ble_eq_true rfl) (fun r3 M4 => ?_)
      refine r_ldc2 (pc := 37) ok wcl_X11_226 dX11_heapsOf_37 ?_
      refine r_lxor (pc := 40) ok dX11_heapsOf_40 ?_
      refine r_land (pc := 41) ok dX11_heapsOf_41 ?_
      refine r_nml (fun w5 => ?_)
      refine r_lstore_n (pc := 42) ok [(2, .long w5), (4, .int vq4), (5, .int vq5)] dX11_heapsOf_42 rfl (by decide) rfl ?_
      refine r_iinc (pc := 43) ok 1 (vq4 + 1) [(4, .int (vq4 + 1)), (2, .long w5), (5, .int vq5)] dX11_heapsOf_43 rfl (congrArg (fun z => vq4 + z) (by decide : Int32.ofInt 1 = (1 : Int32))) (by decide) rfl ?_
      refine r_iinc (pc := 46) ok 2 (vq5 + 1) [(5, .int (vq5 + 1)), (4, .int (vq4 + 1)), (2, .long w5)] dX11_heapsOf_46 rfl (congrArg (fun z => vq5 + z) (by decide : Int32.ofInt 1 = (1 : Int32))) (by decide) rfl ?_
      refine r_goto (pc := 49) ok 12 dX11_heapsOf_49 (by decide) ?_
      refine r_lv [2, 1, 0] [(2, .long w5), (4, .int (vq4 + 1)), (5, .int (vq5 + 1))] rfl ?_
      exact hk12 w5 (vq4 + 1) (vq5 + 1) M4
    · refine r_iinc (pc := 46) ok 2 (vq5 + 1) [(5, .int (vq5 + 1)), (2, .long vq2), (4, .int vq4)] dX11_heapsOf_46 rfl (congrArg (fun z => vq5 + z) (by decide : Int32.ofInt 1 = (1 : Int32))) (by decide) rfl ?_
      refine r_goto (pc := 49) ok 12 dX11_heapsOf_49 (by decide) ?_
      refine r_lv [1, 2, 0] [(2, .long vq2), (4, .int vq4), (5, .int (vq5 + 1))] rfl ?_
      exact hk12 vq2 vq4 (vq5 + 1) M
theorem sX11_heapsOf_L12 {g : GP} {l : Launch} {x : CT} (ok : Ok g l x RX11 cX11_heapsOf 6 (some FieldType.int) (rmL 5))   : ∀ (n : Nat) (vq2 : Int64) (vq4 : Int32) (vq5 : Int32) (M : Mem), Sw g l x (FinQ g x eI) 6 0 0 12 [(2, .long vq2), (4, .int vq4), (5, .int vq5)] [] M (fX11_heapsOf_L12  n vq2 vq4 vq5 M) := by
  intro n
  induction n with
  | zero => intros; exact r_none
  | succ n ih => intro vq2 vq4 vq5 M; exact sX11_heapsOf_B12 ok   _ ih vq2 vq4 vq5 M
def fX11_heapsOf (vq1 : Int32) (M : Mem) : Option (Int32 × Mem) :=
  ob (fX11_thickSet vq1 M) fun r1 M2 =>
  fX11_heapsOf_L12 FU r1 0 0 M2
set_option maxRecDepth 20000 in
theorem wX11_heapsOf {g : GP} {l : Launch} {x : CT} (ok : Ok g l x RX11 cX11_heapsOf 6 (some FieldType.int) (rmL 5)) (vq1 : Int32)  (M : Mem) : Sw g l x (FinQ g x eI) 6 0 0 0 [(0, .ref (gA g 22 0)), (1, .int vq1)] [] M (fX11_heapsOf vq1 M) := by
  unfold fX11_heapsOf
  refine r_aload_n (pc := 0) ok 0 dX11_heapsOf_0 rfl ?_
  refine r_iload_n (pc := 1) ok 1 dX11_heapsOf_1 rfl ?_
  refine r_callV0 (pc := 2) ok [.int vq1] [] 2 (fun rZ MZ hZ => con_X11_thickSet g l vq1 _ rZ MZ hZ) cv_X11_218 ok_22 (rmOk_L (by decide) (by decide)) dX11_heapsOf_2 rfl rfl (Nat.le_of_ble_eq_true rfl) (fun r1 M2 => ?_)
  refine r_lstore_n (pc := 5) ok [(2, .long r1), (0, .ref (gA g 22 0)), (1, .int vq1)] dX11_heapsOf_5 rfl (by decide) rfl ?_
  refine r_iconst (pc := 6) ok 0 dX11_heapsOf_6 (by decide) ?_
  refine r_istore (pc := 7) ok [(4, .int 0), (2, .long r1), (0, .ref (gA g 22 0)), (1, .int vq1)] dX11_heapsOf_7 (by decide) rfl ?_
  refine r_iconst (pc := 9) ok 0 dX11_heapsOf_9 (by decide) ?_
  refine r_istore (pc := 10) ok [(5, .int 0), (4, .int 0), (2, .long r1), (0, .ref (gA g 22 0)), (1, .int vq1)] dX11_heapsOf_10 (by decide) rfl ?_
  refine r_lv [2, 1, 0] [(2, .long r1), (4, .int 0), (5, .int 0)] rfl ?_
  exact sX11_heapsOf_L12 ok FU r1 0 0 M2
theorem con_X11_heapsOf (g : GP) (l : Launch) (vq1 : Int32)  (M : Mem) (r : Int32) (M2 : Mem) (h : fX11_heapsOf vq1 M = some (r, M2)) : Con g l yX11_heapsOf cX11_heapsOf 6 (some FieldType.int) (rmL 5) [.ref (gA g 22 0), .int vq1] M (eI r) M2 :=
  Con.of (own := RX11) (f := fX11_heapsOf vq1 M) (by decide) (Nat.le_of_ble_eq_true rfl) rfl (fun x ok => wX11_heapsOf ok vq1  M) r M2 h
def fX10_taken (vq1 : Int32) (vq2 : Int32) (M : Mem) : Option (Int32 × Mem) :=
  ob (fX10_within vq2 0 6 M) fun r1 M2 =>
  if r1 = 0 then
    (some (-2, M2))
  else
    (ob (fX10_within vq1 0 41 M2) fun r3 M4 =>
    if r3 = 0 then
      (some (-12, M4))
    else
      (if vq1 < 6 then
        (ob (fX5_has 0 vq1 M4) fun r5 M6 =>
        if r5 = 0 then
          (some (-11, M6))
        else
          (gd (inb 2 4)
          (gd (inb vq1 6)
          (gd (inb (M6 18 (4 * 0 + (2 : Int32).toNatClampNeg) vq1.toNatClampNeg) 6)
          (ob (fP_isOf ((M6 18 (4 * 0 + (2 : Int32).toNatClampNeg) vq1.toNatClampNeg).toNatClampNeg) vq2 M6) fun r9 M10 =>
          if r9 = 0 then
            (some (-13, M10))
          else
            (some (vq1, M10)))))))
      else
        (if vq2 = 6 then
          (gd (inb (vq1 - 6) 36)
          (some (M4 16 0 (vq1 - 6).toNatClampNeg, M4)))
        else
          (some (-13, M4)))))
set_option maxRecDepth 20000 in
theorem wX10_taken {g : GP} {l : Launch} {x : CT} (ok : Ok g l x RX10 cX10_taken 3 (some FieldType.int) (rmL 6)) (vq1 : Int32) (vq2 : Int32)  (M : Mem) : Sw g l x (FinQ g x eI) 3 0 0 0 [(0, .ref (gA g 0 0)), (1, .int vq1), (2, .int vq2)] [] M (fX10_taken vq1 vq2 M) := by
  unfold fX10_taken
  refine r_iload_n (pc := 0) ok 2 dX10_taken_0 rfl ?_
  refine r_iconst (pc := 1) ok 0 dX10_taken_1 (by decide) ?_
  refine r_bipush (pc := 2) ok 6 dX10_taken_2 (by decide) ?_
  refine r_callS0 (pc := 4) ok [.int vq2, .int 0, .int 6] [] 2 (fun rZ MZ hZ => con_X10_within g l vq2 0 6 _ rZ MZ hZ) cs_X10_91 (rmOk_L (by decide) (by decide)) dX10_taken_4 rfl rfl (Nat.le_of_ble_eq_true rfl) (fun r1 M2 => ?_)
  refine r_if_ne (pc := 7) ok 13 dX10_taken_7 (by decide) (fun _ => ?_) (fun _ => ?_)
  · refine r_bipush (pc := 10) ok (-2) dX10_taken_10 (by decide) ?_
    exact r_iret (pc := 12) ok (Nat.zero_le _) (Nat.zero_le _) rfl dX10_taken_12
  · refine r_iload_n (pc := 13) ok 1 dX10_taken_13 rfl ?_
    refine r_iconst (pc := 14) ok 0 dX10_taken_14 (by decide) ?_
    refine r_bipush (pc := 15) ok 41 dX10_taken_15 (by decide) ?_
    refine r_callS0 (pc := 17) ok [.int vq1, .int 0, .int 41] [] 2 (fun rZ MZ hZ => con_X10_within g l vq1 0 41 _ rZ MZ hZ) cs_X10_91 (rmOk_L (by decide) (by decide)) dX10_taken_17 rfl rfl (Nat.le_of_ble_eq_true rfl) (fun r3 M4 => ?_)
    refine r_if_ne (pc := 20) ok 26 dX10_taken_20 (by decide) (fun _ => ?_) (fun _ => ?_)
    · refine r_bipush (pc := 23) ok (-12) dX10_taken_23 (by decide) ?_
      exact r_iret (pc := 25) ok (Nat.zero_le _) (Nat.zero_le _) rfl dX10_taken_25
    · refine r_iload_n (pc := 26) ok 1 dX10_taken_26 rfl ?_
      refine r_bipush (pc := 27) ok 6 dX10_taken_27 (by decide) ?_
      refine r_icmp_lt (pc := 29) ok 56 dX10_taken_29 (by decide) (fun _ => ?_) (fun _ => ?_)
      · refine r_aload_n (pc := 56) ok 0 dX10_taken_56 rfl ?_
        refine r_getR (pc := 57) ok fr_0_4 (by decide) fl_X10_61 dX10_taken_57 ?_
        refine r_iload_n (pc := 60) ok 1 dX10_taken_60 rfl ?_
        refine r_callVN0 (pc := 61) ok [.int vq1] [] 3 (fun rZ MZ hZ => con_X5_has g l 0 vq1 (by decide) _ rZ MZ hZ) cvN_X10_117 (ok_15 (by decide)) (rmOk_L (by decide) (by decide)) dX10_taken_61 rfl rfl (Nat.le_of_ble_eq_true rfl) (fun r5 M6 => ?_)
        refine r_if_ne (pc := 64) ok 70 dX10_taken_64 (by decide) (fun _ => ?_) (fun _ => ?_)
        · refine r_bipush (pc := 67) ok (-11) dX10_taken_67 (by decide) ?_
          exact r_iret (pc := 69) ok (Nat.zero_le _) (Nat.zero_le _) rfl dX10_taken_69
        · refine r_aload_n (pc := 70) ok 0 dX10_taken_70 rfl ?_
          refine r_getR (pc := 71) ok fr_0_2 (by decide) fl_X10_45 dX10_taken_71 ?_
          refine r_aload_n (pc := 74) ok 0 dX10_taken_74 rfl ?_
          refine r_getR (pc := 75) ok fr_0_4 (by decide) fl_X10_61 dX10_taken_75 ?_
          refine r_getRN (pc := 78) ok fr_15_3 (by decide) flN_X10_127 dX10_taken_78 ?_
          refine r_iconst (pc := 81) ok 2 dX10_taken_81 (by decide) ?_
          refine r_aald (pc := 82) ok rk_17 (by decide) rfl rfl dX10_taken_82 (fun hb7 => ?_)
          refine r_iload_n (pc := 83) ok 1 dX10_taken_83 rfl ?_
          refine r_iald (pc := 84) ok ik_18 (show _ < 12 from trow_lt (by decide) hb7) dX10_taken_84 (fun _ => ?_)
          refine r_aald (pc := 85) ok rk_6 (by decide) rfl rfl dX10_taken_85 (fun hb8 => ?_)
          refine r_iload_n (pc := 86) ok 2 dX10_taken_86 rfl ?_
          refine r_callP_isOf (pc := 87) ok [.int vq2] [] (by decide) dX10_taken_87 rfl rfl (Nat.le_of_ble_eq_true rfl) (fun r9 M10 => ?_)
          refine r_if_eq (pc := 90) ok 97 dX10_taken_90 (by decide) (fun _ => ?_) (fun _ => ?_)
          · refine r_bipush (pc := 97) ok (-13) dX10_taken_97 (by decide) ?_
            exact r_iret (pc := 99) ok (Nat.zero_le _) (Nat.zero_le _) rfl dX10_taken_99
          · refine r_iload_n (pc := 93) ok 1 dX10_taken_93 rfl ?_
            refine r_goto (pc := 94) ok 99 dX10_taken_94 (by decide) ?_
            exact r_iret (pc := 99) ok (Nat.zero_le _) (Nat.zero_le _) rfl dX10_taken_99
      · refine r_iload_n (pc := 32) ok 2 dX10_taken_32 rfl ?_
        refine r_bipush (pc := 33) ok 6 dX10_taken_33 (by decide) ?_
        refine r_icmp_ne (pc := 35) ok 53 dX10_taken_35 (by decide) (fun _ => ?_) (fun _ => ?_)
        · refine r_aload_n (pc := 38) ok 0 dX10_taken_38 rfl ?_
          refine r_getR (pc := 39) ok fr_0_4 (by decide) fl_X10_61 dX10_taken_39 ?_
          refine r_getRN (pc := 42) ok fr_15_2 (by decide) flN_X10_95 dX10_taken_42 ?_
          refine r_iload_n (pc := 45) ok 1 dX10_taken_45 rfl ?_
          refine r_bipush (pc := 46) ok 6 dX10_taken_46 (by decide) ?_
          refine r_isub (pc := 48) ok dX10_taken_48 ?_
          refine r_iald (pc := 49) ok ik_16 (by decide) dX10_taken_49 (fun _ => ?_)
          refine r_goto (pc := 50) ok 55 dX10_taken_50 (by decide) ?_
          exact r_iret (pc := 55) ok (Nat.zero_le _) (Nat.zero_le _) rfl dX10_taken_55
        · refine r_bipush (pc := 53) ok (-13) dX10_taken_53 (by decide) ?_
          exact r_iret (pc := 55) ok (Nat.zero_le _) (Nat.zero_le _) rfl dX10_taken_55
theorem con_X10_taken (g : GP) (l : Launch) (vq1 : Int32) (vq2 : Int32)  (M : Mem) (r : Int32) (M2 : Mem) (h : fX10_taken vq1 vq2 M = some (r, M2)) : Con g l yX10_taken cX10_taken 3 (some FieldType.int) (rmL 6) [.ref (gA g 0 0), .int vq1, .int vq2] M (eI r) M2 :=
  Con.of (own := RX10) (f := fX10_taken vq1 vq2 M) (by decide) (Nat.le_of_ble_eq_true rfl) rfl (fun x ok => wX10_taken ok vq1 vq2  M) r M2 h
def fX11_text_J122 (vq1 : Int32) (M : Mem) : Option (Int32 × Mem) :=
  gd (inb ((4 * (M 22 0 11)) + 3) 24)
  (lt (mst M 30 0 ((4 * (M 22 0 11)) + 3).toNatClampNeg (M 22 0 28)) fun M3 =>
  lt (mst M3 22 0 8 0) fun M4 =>
  if vq1 = 0 then
    (some ((-100) - (M4 22 0 21), M4))
  else
    (lt (mst M4 22 0 11 ((M4 22 0 11) + 1)) fun M5 =>
    some ((M5 22 0 11) - 1, M5)))
set_option maxRecDepth 20000 in
theorem sX11_text_J122 {g : GP} {l : Launch} {x : CT} (ok : Ok g l x RX11 cX11_text 3 (some FieldType.int) (rmL 6)) (vq1 : Int32)  (M : Mem) : Sw g l x (FinQ g x eI) 3 0 0 122 [(0, .ref (gA g 22 0)), (1, .int vq1)] [] M (fX11_text_J122 vq1 M) := by
  unfold fX11_text_J122
  refine r_aload_n (pc := 122) ok 0 dX11_text_122 rfl ?_
  refine r_getR (pc := 123) ok fr_22_10 (by decide) fl_X11_31 dX11_text_123 ?_
  refine r_iconst (pc := 126) ok 4 dX11_text_126 (by decide) ?_
  refine r_aload_n (pc := 127) ok 0 dX11_text_127 rfl ?_
  refine r_getI (pc := 128) ok fi_22_11 (by decide) fl_X11_98 dX11_text_128 ?_
  refine r_imul (pc := 131) ok dX11_text_131 ?_
  refine r_iconst (pc := 132) ok 3 dX11_text_132 (by decide) ?_
  refine r_iadd (pc := 133) ok dX11_text_133 ?_
  refine r_aload_n (pc := 134) ok 0 dX11_text_134 rfl ?_
  refine r_getI (pc := 135) ok fi_22_28 (by decide) fl_X11_126 dX11_text_135 ?_
  refine r_iast (pc := 138) ok ik_30 (by decide) dX11_text_138 ?_
  refine r_nmM (fun M3 => ?_)
  refine r_aload_n (pc := 139) ok 0 dX11_text_139 rfl ?_
  refine r_iconst (pc := 140) ok 0 dX11_text_140 (by decide) ?_
  refine r_putI (pc := 141) ok fi_22_8 (by decide) fl_X11_73 fp_22_8 ⟨rfl, rfl⟩ dX11_text_141 ?_
  refine r_nmM (fun M4 => ?_)
  refine r_iload_n (pc := 144) ok 1 dX11_text_144 rfl ?_
  refine r_if_ne (pc := 145) ok 156 dX11_text_145 (by decide) (fun _ => ?_) (fun _ => ?_)
  · refine r_bipush (pc := 148) ok (-100) dX11_text_148 (by decide) ?_
    refine r_aload_n (pc := 150) ok 0 dX11_text_150 rfl ?_
    refine r_getI (pc := 151) ok fi_22_21 (by decide) fl_X11_114 dX11_text_151 ?_
    refine r_isub (pc := 154) ok dX11_text_154 ?_
    exact r_iret (pc := 155) ok (Nat.zero_le _) (Nat.zero_le _) rfl dX11_text_155
  · refine r_aload_n (pc := 156) ok 0 dX11_text_156 rfl ?_
    refine r_dup (pc := 157) ok dX11_text_157 rfl ?_
    refine r_getI (pc := 158) ok fi_22_11 (by decide) fl_X11_98 dX11_text_158 ?_
    refine r_iconst (pc := 161) ok 1 dX11_text_161 (by decide) ?_
    refine r_iadd (pc := 162) ok dX11_text_162 ?_
    refine r_putI (pc := 163) ok fi_22_11 (by decide) fl_X11_98 fp_22_11 ⟨rfl, rfl⟩ dX11_text_163 ?_
    refine r_nmM (fun M5 => ?_)
    refine r_aload_n (pc := 166) ok 0 dX11_text_166 rfl ?_
    refine r_getI (pc := 167) ok fi_22_11 (by decide) fl_X11_98 dX11_text_167 ?_
    refine r_iconst (pc := 170) ok 1 dX11_text_170 (by decide) ?_
    refine r_isub (pc := 171) ok dX11_text_171 ?_
    exact r_iret (pc := 172) ok (Nat.zero_le _) (Nat.zero_le _) rfl dX11_text_172
def fX11_text_J121 (s0 : Int32) (M : Mem) : Option (Int32 × Mem) :=
  fX11_text_J122 s0 M
set_option maxRecDepth 20000 in
theorem sX11_text_J121 {g : GP} {l : Launch} {x : CT} (ok : Ok g l x RX11 cX11_text 3 (some FieldType.int) (rmL 6)) (s0 : Int32)  (M : Mem) : Sw g l x (FinQ g x eI) 3 0 0 121 [(0, .ref (gA g 22 0))] [.int s0] M (fX11_text_J121 s0 M) := by
  unfold fX11_text_J121
  refine r_istore_n (pc := 121) ok [(1, .int s0), (0, .ref (gA g 22 0))] dX11_text_121 rfl (by decide) rfl ?_
  refine r_lv [1, 0] [(0, .ref (gA g 22 0)), (1, .int s0)] rfl ?_
  exact sX11_text_J122 ok s0 M
def fX11_text_J101 (vq1 : Int32) (M : Mem) : Option (Int32 × Mem) :=
  if vq1 = 0 then
    (fX11_text_J122 vq1 M)
  else
    (ob (fX11_next M) fun r6 M7 =>
    if (M7 22 0 22) = 0 then
      (fX11_text_J121 1 M7)
    else
      (fX11_text_J121 0 M7))
set_option maxRecDepth 20000 in
theorem sX11_text_J101 {g : GP} {l : Launch} {x : CT} (ok : Ok g l x RX11 cX11_text 3 (some FieldType.int) (rmL 6)) (vq1 : Int32)  (M : Mem) : Sw g l x (FinQ g x eI) 3 0 0 101 [(0, .ref (gA g 22 0)), (1, .int vq1)] [] M (fX11_text_J101 vq1 M) := by
  unfold fX11_text_J101
  refine r_iload_n (pc := 101) ok 1 dX11_text_101 rfl ?_
  refine r_if_eq (pc := 102) ok 122 dX11_text_102 (by decide) (fun _ => ?_) (fun _ => ?_)
  · refine r_lv [0, 1] [(0, .ref (gA g 22 0)), (1, .int vq1)] rfl ?_
    exact sX11_text_J122 ok vq1 M
  · refine r_aload_n (pc := 105) ok 0 dX11_text_105 rfl ?_
    refine r_callV0 (pc := 106) ok [] [] 3 (fun rZ MZ hZ => con_X11_next g l  _ rZ MZ hZ) cv_X11_149 ok_22 (rmOk_L (by decide) (by decide)) dX11_text_106 rfl rfl (Nat.le_of_ble_eq_true rfl) (fun r6 M7 => ?_)
    refine r_aload_n (pc := 109) ok 0 dX11_text_109 rfl ?_
    refine r_getI (pc := 110) ok fi_22_22 (by decide) fl_X11_117 dX11_text_110 ?_
    refine r_if_ne (pc := 113) ok 120 dX11_text_113 (by decide) (fun _ => ?_) (fun _ => ?_)
    · refine r_iconst (pc := 116) ok 1 dX11_text_116 (by decide) ?_
      refine r_goto (pc := 117) ok 121 dX11_text_117 (by decide) ?_
      refine r_lv [0] [(0, .ref (gA g 22 0))] rfl ?_
      exact sX11_text_J121 ok 1 M7
    · refine r_iconst (pc := 120) ok 0 dX11_text_120 (by decide) ?_
      refine r_lv [0] [(0, .ref (gA g 22 0))] rfl ?_
      exact sX11_text_J121 ok 0 M7
def fX11_text_J60 (k26 : Int32 → Int32 → Mem → Option (Int32 × Mem)) (vq2 : Int32) (s0 : Int32) (M : Mem) : Option (Int32 × Mem) :=
  gd (inb ((4 * (M 22 0 11)) + vq2) 24)
  (lt (mst M 30 0 ((4 * (M 22 0 11)) + vq2).toNatClampNeg (M 22 0 28)) fun M10 =>
  if s0 = 0 then
    (k26 0 (vq2 + 1) M10)
  else
    (ob (fX11_eRead M10) fun r11 M12 =>
    if r11 = 0 then
      (k26 0 (vq2 + 1) M12)
    else
      (k26 1 (vq2 + 1) M12)))
set_option maxRecDepth 20000 in
theorem sX11_text_J60 {g : GP} {l : Launch} {x : CT} {k26 : Int32 → Int32 → Mem → Option (Int32 × Mem)} (ok : Ok g l x RX11 cX11_text 3 (some FieldType.int) (rmL 6)) (vq2 : Int32) (s0 : Int32)  (hk26 : ∀ (vq1 : Int32) (vq2 : Int32) (M : Mem), Sw g l x (FinQ g x eI) 3 0 0 26 [(0, .ref (gA g 22 0)), (1, .int vq1), (2, .int vq2)] [] M (k26 vq1 vq2 M)) (M : Mem) : Sw g l x (FinQ g x eI) 3 0 0 60 [(0, .ref (gA g 22 0)), (2, .int vq2)] [.int s0] M (fX11_text_J60 k26 vq2 s0 M) := by
  unfold fX11_text_J60
  refine r_istore_n (pc := 60) ok [(1, .int s0), (0, .ref (gA g 22 0)), (2, .int vq2)] dX11_text_60 rfl (by decide) rfl ?_
  refine r_aload_n (pc := 61) ok 1 dX11_text_61 rfl ?_
  refine r_getR (pc := 62) ok fr_22_10 (by decide) fl_X11_31 dX11_text_62 ?_
  refine r_iconst (pc := 65) ok 4 dX11_text_65 (by decide) ?_
  refine r_aload_n (pc := 66) ok 1 dX11_text_66 rfl ?_
  refine r_getI (pc := 67) ok fi_22_11 (by decide) fl_X11_98 dX11_text_67 ?_
  refine r_imul (pc := 70) ok dX11_text_70 ?_
  refine r_iload_n (pc := 71) ok 2 dX11_text_71 rfl ?_
  refine r_iadd (pc := 72) ok dX11_text_72 ?_
  refine r_aload_n (pc := 73) ok 1 dX11_text_73 rfl ?_
  refine r_getI (pc := 74) ok fi_22_28 (by decide) fl_X11_126 dX11_text_74 ?_
  refine r_iast (pc := 77) ok ik_30 (by decide) dX11_text_77 ?_
  refine r_nmM (fun M10 => ?_)
  refine r_iload_n (pc := 78) ok 0 dX11_text_78 rfl ?_
  refine r_if_eq (pc := 79) ok 93 dX11_text_79 (by decide) (fun _ => ?_) (fun _ => ?_)
  · refine r_iconst (pc := 93) ok 0 dX11_text_93 (by decide) ?_
    refine r_istore_n (pc := 94) ok [(1, .int 0), (0, .ref (gA g 22 0)), (2, .int vq2)] dX11_text_94 rfl (by decide) rfl ?_
    refine r_iinc (pc := 95) ok 2 (vq2 + 1) [(2, .int (vq2 + 1)), (1, .int 0), (0, .ref (gA g 22 0))] dX11_text_95 rfl (congrArg (fun z => vq2 + z) (by decide : Int32.ofInt 1 = (1 : Int32))) (by decide) rfl ?_
    refine r_goto (pc := 98) ok 26 dX11_text_98 (by decide) ?_
    refine r_lv [2, 1, 0] [(0, .ref (gA g 22 0)), (1, .int 0), (2, .int (vq2 + 1))] rfl ?_
    exact hk26 0 (vq2 + 1) M10
  · refine r_aload_n (pc := 82) ok 1 dX11_text_82 rfl ?_
    refine r_callV0 (pc := 83) ok [] [] 5 (fun rZ MZ hZ => con_X11_eRead g l  _ rZ MZ hZ) cv_X11_162 ok_22 (rmOk_L (by decide) (by decide)) dX11_text_83 rfl rfl (Nat.le_of_ble_eq_true rfl) (fun r11 M12 => ?_)
    refine r_if_eq (pc := 86) ok 93 dX11_text_86 (by decide) (fun _ => ?_) (fun _ => ?_)
    · refine r_iconst (pc := 93) ok 0 dX11_text_93 (by decide) ?_
      refine r_istore_n (pc := 94) ok [(1, .int 0), (0, .ref (gA g 22 0)), (2, .int vq2)] dX11_text_94 rfl (by decide) rfl ?_
      refine r_iinc (pc := 95) ok 2 (vq2 + 1) [(2, .int (vq2 + 1)), (1, .int 0), (0, .ref (gA g 22 0))] dX11_text_95 rfl (congrArg (fun z => vq2 + z) (by decide : Int32.ofInt 1 = (1 : Int32))) (by decide) rfl ?_
      refine r_goto (pc := 98) ok 26 dX11_text_98 (by decide) ?_
      refine r_lv [2, 1, 0] [(0, .ref (gA g 22 0)), (1, .int 0), (2, .int (vq2 + 1))] rfl ?_
      exact hk26 0 (vq2 + 1) M12
    · refine r_iconst (pc := 89) ok 1 dX11_text_89 (by decide) ?_
      refine r_goto (pc := 90) ok 94 dX11_text_90 (by decide) ?_
      refine r_istore_n (pc := 94) ok [(1, .int 1), (0, .ref (gA g 22 0)), (2, .int vq2)] dX11_text_94 rfl (by decide) rfl ?_
      refine r_iinc (pc := 95) ok 2 (vq2 + 1) [(2, .int (vq2 + 1)), (1, .int 1), (0, .ref (gA g 22 0))] dX11_text_95 rfl (congrArg (fun z => vq2 + z) (by decide : Int32.ofInt 1 = (1 : Int32))) (by decide) rfl ?_
      refine r_goto (pc := 98) ok 26 dX11_text_98 (by decide) ?_
      refine r_lv [2, 1, 0] [(0, .ref (gA g 22 0)), (1, .int 1), (2, .int (vq2 + 1))] rfl ?_
      exact hk26 1 (vq2 + 1) M12
def fX11_text_J59 (k26 : Int32 → Int32 → Mem → Option (Int32 × Mem)) (vq2 : Int32) (M : Mem) : Option (Int32 × Mem) :=
  fX11_text_J60 k26 vq2 0 M
set_option maxRecDepth 20000 in
theorem sX11_text_J59 {g : GP} {l : Launch} {x : CT} {k26 : Int32 → Int32 → Mem → Option (Int32 × Mem)} (ok : Ok g l x RX11 cX11_text 3 (some FieldType.int) (rmL 6)) (vq2 : Int32)  (hk26 : ∀ (vq1 : Int32) (vq2 : Int32) (M : Mem), Sw g l x (FinQ g x eI) 3 0 0 26 [(0, .ref (gA g 22 0)), (1, .int vq1), (2, .int vq2)] [] M (k26 vq1 vq2 M)) (M : Mem) : Sw g l x (FinQ g x eI) 3 0 0 59 [(0, .ref (gA g 22 0)), (2, .int vq2)] [] M (fX11_text_J59 k26 vq2 M) := by
  unfold fX11_text_J59
  refine r_iconst (pc := 59) ok 0 dX11_text_59 (by decide) ?_
  refine r_lv [0, 1] [(0, .ref (gA g 22 0)), (2, .int vq2)] rfl ?_
  exact sX11_text_J60 ok vq2 0 hk26 M
def fX11_text_B26  (k26 : Int32 → Int32 → Mem → Option (Int32 × Mem)) (vq1 : Int32) (vq2 : Int32) (M : Mem) : Option (Int32 × Mem) :=
  if 3 ≤ vq2 then
    (fX11_text_J101 vq1 M)
  else
    (if vq1 = 0 then
      (fX11_text_J101 vq1 M)
    else
      (ob (fX11_next M) fun r8 M9 =>
      if (M9 22 0 22) = 3 then
        (if (M9 22 0 23) = vq2 then
          (fX11_text_J60 k26 vq2 1 M9)
        else
          (fX11_text_J59 k26 vq2 M9))
      else
        (fX11_text_J59 k26 vq2 M9)))
def fX11_text_L26  : Nat → Int32 → Int32 → Mem → Option (Int32 × Mem)
  | 0, _, _, _ => none
  | n + 1, vq1, vq2, M => fX11_text_B26  (fX11_text_L26  n) vq1 vq2 M
set_option maxRecDepth 20000 in
theorem sX11_text_B26 {g : GP} {l : Launch} {x : CT} (ok : Ok g l x RX11 cX11_text 3 (some FieldType.int) (rmL 6))   (k26 : Int32 → Int32 → Mem → Option (Int32 × Mem)) (hk26 : ∀ (vq1 : Int32) (vq2 : Int32) (M : Mem), Sw g l x (FinQ g x eI) 3 0 0 26 [(0, .ref (gA g 22 0)), (1, .int vq1), (2, .int vq2)] [] M (k26 vq1 vq2 M)) (vq1 : Int32) (vq2 : Int32) (M : Mem) : Sw g l x (FinQ g x eI) 3 0 0 26 [(0, .ref (gA g 22 0)), (1, .int vq1), (2, .int vq2)] [] M (fX11_text_B26  k26 vq1 vq2 M) := by
  unfold fX11_text_B26
  refine r_iload_n (pc := 26) ok 2 dX11_text_26 rfl ?_
  refine r_iconst (pc := 27) ok 3 dX11_text_27 (by decide) ?_
  refine r_icmp_ge (pc := 28) ok 101 dX11_text_28 (by decide) (fun _ => ?_) (fun _ => ?_)
  · refine r_lv [0, 1] [(0, .ref (gA g 22 0)), (1, .int vq1)] rfl ?_
    exact sX11_text_J101 ok vq1 M
  · refine r_iload_n (pc := 31) ok 1 dX11_text_31 rfl ?_
    refine r_if_eq (pc := 32) ok 101 dX11_text_32 (by decide) (fun _ => ?_) (fun _ => ?_)
    · refine r_lv [0, 1] [(0, .ref (gA g 22 0)), (1, .int vq1)] rfl ?_
      exact sX11_text_J101 ok vq1 M
    · refine r_aload_n (pc := 35) ok 0 dX11_text_35 rfl ?_
      refine r_callV0 (pc := 36) ok [] [] 3 (fun rZ MZ hZ => con_X11_next g l  _ rZ MZ hZ) cv_X11_149 ok_22 (rmOk_L (by decide) (by decide)) dX11_text_36 rfl rfl (Nat.le_of_ble_eq_true rfl) (fun r8 M9 => ?_)
      refine r_aload_n (pc := 39) ok 0 dX11_text_39 rfl ?_
      refine r_getI (pc := 40) ok fi_22_22 (by decide) fl_X11_117 dX11_text_40 ?_
      refine r_iconst (pc := 43) ok 3 dX11_text_43 (by decide) ?_
      refine r_icmp_ne (pc := 44) ok 59 dX11_text_44 (by decide) (fun _ => ?_) (fun _ => ?_)
      · refine r_aload_n (pc := 47) ok 0 dX11_text_47 rfl ?_
        refine r_getI (pc := 48) ok fi_22_23 (by decide) fl_X11_120 dX11_text_48 ?_
        refine r_iload_n (pc := 51) ok 2 dX11_text_51 rfl ?_
        refine r_icmp_ne (pc := 52) ok 59 dX11_text_52 (by decide) (fun _ => ?_) (fun _ => ?_)
        · refine r_iconst (pc := 55) ok 1 dX11_text_55 (by decide) ?_
          refine r_goto (pc := 56) ok 60 dX11_text_56 (by decide) ?_
          refine r_lv [0, 2] [(0, .ref (gA g 22 0)), (2, .int vq2)] rfl ?_
          exact sX11_text_J60 ok vq2 1 hk26 M9
        · refine r_lv [0, 2] [(0, .ref (gA g 22 0)), (2, .int vq2)] rfl ?_
          exact sX11_text_J59 ok vq2 hk26 M9
      · refine r_lv [0, 2] [(0, .ref (gA g 22 0)), (2, .int vq2)] rfl ?_
        exact sX11_text_J59 ok vq2 hk26 M9
theorem sX11_text_L26 {g : GP} {l : Launch} {x : CT} (ok : Ok g l x RX11 cX11_text 3 (some FieldType.int) (rmL 6))   : ∀ (n : Nat) (vq1 : Int32) (vq2 : Int32) (M : Mem), Sw g l x (FinQ g x eI) 3 0 0 26 [(0, .ref (gA g 22 0)), (1, .int vq1), (2, .int vq2)] [] M (fX11_text_L26  n vq1 vq2 M) := by
  intro n
  induction n with
  | zero => intros; exact r_none
  | succ n ih => intro vq1 vq2 M; exact sX11_text_B26 ok   _ ih vq1 vq2 M
def fX11_text  (M : Mem) : Option (Int32 × Mem) :=
  if (M 22 0 11) = 6 then
    (some (-4, M))
  else
    (lt (mst M 22 0 20 0) fun M1 =>
    lt (mst M1 22 0 28 0) fun M2 =>
    fX11_text_L26 FU 1 0 M2)
set_option maxRecDepth 20000 in
theorem wX11_text {g : GP} {l : Launch} {x : CT} (ok : Ok g l x RX11 cX11_text 3 (some FieldType.int) (rmL 6))   (M : Mem) : Sw g l x (FinQ g x eI) 3 0 0 0 [(0, .ref (gA g 22 0))] [] M (fX11_text  M) := by
  unfold fX11_text
  refine r_aload_n (pc := 0) ok 0 dX11_text_0 rfl ?_
  refine r_getI (pc := 1) ok fi_22_11 (by decide) fl_X11_98 dX11_text_1 ?_
  refine r_bipush (pc := 4) ok 6 dX11_text_4 (by decide) ?_
  refine r_icmp_ne (pc := 6) ok 12 dX11_text_6 (by decide) (fun _ => ?_) (fun _ => ?_)
  · refine r_bipush (pc := 9) ok (-4) dX11_text_9 (by decide) ?_
    exact r_iret (pc := 11) ok (Nat.zero_le _) (Nat.zero_le _) rfl dX11_text_11
  · refine r_aload_n (pc := 12) ok 0 dX11_text_12 rfl ?_
    refine r_iconst (pc := 13) ok 0 dX11_text_13 (by decide) ?_
    refine r_putI (pc := 14) ok fi_22_20 (by decide) fl_X11_111 fp_22_20 ⟨rfl, rfl⟩ dX11_text_14 ?_
    refine r_nmM (fun M1 => ?_)
    refine r_aload_n (pc := 17) ok 0 dX11_text_17 rfl ?_
    refine r_iconst (pc := 18) ok 0 dX11_text_18 (by decide) ?_
    refine r_putI (pc := 19) ok fi_22_28 (by decide) fl_X11_126 fp_22_28 ⟨rfl, rfl⟩ dX11_text_19 ?_
    refine r_nmM (fun M2 => ?_)
    refine r_iconst (pc := 22) ok 1 dX11_text_22 (by decide) ?_
    refine r_istore_n (pc := 23) ok [(1, .int 1), (0, .ref (gA g 22 0))] dX11_text_23 rfl (by decide) rfl ?_
    refine r_iconst (pc := 24) ok 0 dX11_text_24 (by decide) ?_
    refine r_istore_n (pc := 25) ok [(2, .int 0), (1, .int 1), (0, .ref (gA g 22 0))] dX11_text_25 rfl (by decide) rfl ?_
    refine r_lv [2, 1, 0] [(0, .ref (gA g 22 0)), (1, .int 1), (2, .int 0)] rfl ?_
    exact sX11_text_L26 ok FU 1 0 M2
theorem con_X11_text (g : GP) (l : Launch)   (M : Mem) (r : Int32) (M2 : Mem) (h : fX11_text  M = some (r, M2)) : Con g l yX11_text cX11_text 3 (some FieldType.int) (rmL 6) [.ref (gA g 22 0)] M (eI r) M2 :=
  Con.of (own := RX11) (f := fX11_text  M) (by decide) (Nat.le_of_ble_eq_true rfl) rfl (fun x ok => wX11_text ok   M) r M2 h
def fX11_dayBut_B2 (vq1 : Int32) (k2 : Int32 → Mem → Option (Unit × Mem)) (vq2 : Int32) (M : Mem) : Option (Unit × Mem) :=
  if (M 22 0 0) ≤ vq2 then
    (lt (mst M 22 0 6 ((M 22 0 6) + 1)) fun M1 =>
    some ((), M1))
  else
    (if vq2 = vq1 then
      (k2 (vq2 + 1) M)
    else
      (ob (fX11_turnOf vq2 M) fun r2 M3 =>
      k2 (vq2 + 1) M3))
def fX11_dayBut_L2 (vq1 : Int32) : Nat → Int32 → Mem → Option (Unit × Mem)
  | 0, _, _ => none
  | n + 1, vq2, M => fX11_dayBut_B2 vq1 (fX11_dayBut_L2 vq1 n) vq2 M
set_option maxRecDepth 20000 in
theorem sX11_dayBut_B2 {g : GP} {l : Launch} {x : CT} (ok : Ok g l x RX11 cX11_dayBut 3 none (rmL 6)) (vq1 : Int32)  (k2 : Int32 → Mem → Option (Unit × Mem)) (hk2 : ∀ (vq2 : Int32) (M : Mem), Sw g l x (FinQ g x eV) 3 0 0 2 [(0, .ref (gA g 22 0)), (1, .int vq1), (2, .int vq2)] [] M (k2 vq2 M)) (vq2 : Int32) (M : Mem) : Sw g l x (FinQ g x eV) 3 0 0 2 [(0, .ref (gA g 22 0)), (1, .int vq1), (2, .int vq2)] [] M (fX11_dayBut_B2 vq1 k2 vq2 M) := by
  unfold fX11_dayBut_B2
  refine r_iload_n (pc := 2) ok 2 dX11_dayBut_2 rfl ?_
  refine r_aload_n (pc := 3) ok 0 dX11_dayBut_3 rfl ?_
  refine r_getI (pc := 4) ok fi_22_0 (by decide) fl_X11_81 dX11_dayBut_4 ?_
  refine r_icmp_ge (pc := 7) ok 26 dX11_dayBut_7 (by decide) (fun _ => ?_) (fun _ => ?_)
  · refine r_aload_n (pc := 26) ok 0 dX11_dayBut_26 rfl ?_
    refine r_dup (pc := 27) ok dX11_dayBut_27 rfl ?_
    refine r_getI (pc := 28) ok fi_22_6 (by decide) fl_X11_92 dX11_dayBut_28 ?_
    refine r_iconst (pc := 31) ok 1 dX11_dayBut_31 (by decide) ?_
    refine r_iadd (pc := 32) ok dX11_dayBut_32 ?_
    refine r_putI (pc := 33) ok fi_22_6 (by decide) fl_X11_92 fp_22_6 ⟨rfl, rfl⟩ dX11_dayBut_33 ?_
    refine r_nmM (fun M1 => ?_)
    exact r_vret (pc := 36) ok (Nat.zero_le _) (Nat.zero_le _) rfl dX11_dayBut_36
  · refine r_iload_n (pc := 10) ok 2 dX11_dayBut_10 rfl ?_
    refine r_iload_n (pc := 11) ok 1 dX11_dayBut_11 rfl ?_
    refine r_icmp_eq (pc := 12) ok 20 dX11_dayBut_12 (by decide) (fun _ => ?_) (fun _ => ?_)
    · refine r_iinc (pc := 20) ok 2 (vq2 + 1) [(2, .int (vq2 + 1)), (0, .ref (gA g 22 0)), (1, .int vq1)] dX11_dayBut_20 rfl (congrArg (fun z => vq2 + z) (by decide : Int32.ofInt 1 = (1 : Int32))) (by decide) rfl ?_
      refine r_goto (pc := 23) ok 2 dX11_dayBut_23 (by decide) ?_
      refine r_lv [1, 2, 0] [(0, .ref (gA g 22 0)), (1, .int vq1), (2, .int (vq2 + 1))] rfl ?_
      exact hk2 (vq2 + 1) M
    · refine r_aload_n (pc := 15) ok 0 dX11_dayBut_15 rfl ?_
      refine r_iload_n (pc := 16) ok 2 dX11_dayBut_16 rfl ?_
      refine r_callV0 (pc := 17) ok [.int vq2] [] 5 (fun rZ MZ hZ => con_X11_turnOf g l vq2 _ rZ MZ hZ) cv_X11_188 ok_22 (rmOk_L (by decide) (by decide)) dX11_dayBut_17 rfl rfl (Nat.le_of_ble_eq_true rfl) (fun r2 M3 => ?_)
      refine r_iinc (pc := 20) ok 2 (vq2 + 1) [(2, .int (vq2 + 1)), (0, .ref (gA g 22 0)), (1, .int vq1)] dX11_dayBut_20 rfl (congrArg (fun z => vq2 + z) (by decide : Int32.ofInt 1 = (1 : Int32))) (by decide) rfl ?_
      refine r_goto (pc := 23) ok 2 dX11_dayBut_23 (by decide) ?_
      refine r_lv [1, 2, 0] [(0, .ref (gA g 22 0)), (1, .int vq1), (2, .int (vq2 + 1))] rfl ?_
      exact hk2 (vq2 + 1) M3
theorem sX11_dayBut_L2 {g : GP} {l : Launch} {x : CT} (ok : Ok g l x RX11 cX11_dayBut 3 none (rmL 6)) (vq1 : Int32)  : ∀ (n : Nat) (vq2 : Int32) (M : Mem), Sw g l x (FinQ g x eV) 3 0 0 2 [(0, .ref (gA g 22 0)), (1, .int vq1), (2, .int vq2)] [] M (fX11_dayBut_L2 vq1 n vq2 M) := by
  intro n
  induction n with
  | zero => intros; exact r_none
  | succ n ih => intro vq2 M; exact sX11_dayBut_B2 ok vq1  _ ih vq2 M
def fX11_dayBut (vq1 : Int32) (M : Mem) : Option (Unit × Mem) :=
  fX11_dayBut_L2 vq1 FU 0 M
set_option maxRecDepth 20000 in
theorem wX11_dayBut {g : GP} {l : Launch} {x : CT} (ok : Ok g l x RX11 cX11_dayBut 3 none (rmL 6)) (vq1 : Int32)  (M : Mem) : Sw g l x (FinQ g x eV) 3 0 0 0 [(0, .ref (gA g 22 0)), (1, .int vq1)] [] M (fX11_dayBut vq1 M) := by
  unfold fX11_dayBut
  refine r_iconst (pc := 0) ok 0 dX11_dayBut_0 (by decide) ?_
  refine r_istore_n (pc := 1) ok [(2, .int 0), (0, .ref (gA g 22 0)), (1, .int vq1)] dX11_dayBut_1 rfl (by decide) rfl ?_
  refine r_lv [1, 2, 0] [(0, .ref (gA g 22 0)), (1, .int vq1), (2, .int 0)] rfl ?_
  exact sX11_dayBut_L2 ok vq1 FU 0 M
theorem con_X11_dayBut (g : GP) (l : Launch) (vq1 : Int32)  (M : Mem) (r : Unit) (M2 : Mem) (h : fX11_dayBut vq1 M = some (r, M2)) : Con g l yX11_dayBut cX11_dayBut 3 none (rmL 6) [.ref (gA g 22 0), .int vq1] M (eV r) M2 :=
  Con.of (own := RX11) (f := fX11_dayBut vq1 M) (by decide) (Nat.le_of_ble_eq_true rfl) rfl (fun x ok => wX11_dayBut ok vq1  M) r M2 h
def fX11_walk_J115 (k43 : Int32 → Int32 → Int32 → Int32 → Int32 → Mem → Option (Int32 × Mem)) (vq1 : Int32) (vq2 : Int32) (vq3 : Int32) (vq5 : Int32) (vq6 : Int32) (vq8 : Int32) (vq9 : Int32) (vq10 : Int32) (s0 : Int32) (M : Mem) : Option (Int32 × Mem) :=
  if vq10 ≤ vq6 then
    (k43 vq5 vq6 s0 vq8 (vq9 + 1) M)
  else
    (k43 vq5 vq10 s0 vq8 (vq9 + 1) M)
set_option maxRecDepth 20000 in
theorem sX11_walk_J115 {g : GP} {l : Launch} {x : CT} {k43 : Int32 → Int32 → Int32 → Int32 → Int32 → Mem → Option (Int32 × Mem)} (ok : Ok g l x RX11 cX11_walk 11 (some FieldType.int) (rmL 6)) (vq1 : Int32) (vq2 : Int32) (vq3 : Int32) (vq5 : Int32) (vq6 : Int32) (vq8 : Int32) (vq9 : Int32) (vq10 : Int32) (s0 : Int32)  (hk43 : ∀ (vq5 : Int32) (vq6 : Int32) (vq7 : Int32) (vq8 : Int32) (vq9 : Int32) (M : Mem), Sw g l x (FinQ g x eI) 11 0 0 43 [(0, .ref (gA g 22 0)), (1, .int vq1), (2, .int vq2), (3, .int vq3), (5, .int vq5), (6, .int vq6), (7, .int vq7), (8, .int vq8), (9, .int vq9)] [] M (k43 vq5 vq6 vq7 vq8 vq9 M)) (M : Mem) : Sw g l x (FinQ g x eI) 11 0 0 115 [(0, .ref (gA g 22 0)), (1, .int vq1), (2, .int vq2), (3, .int vq3), (5, .int vq5), (6, .int vq6), (8, .int vq8), (9, .int vq9), (10, .int vq10)] [.int s0] M (fX11_walk_J115 k43 vq1 vq2 vq3 vq5 vq6 vq8 vq9 vq10 s0 M) := by
  unfold fX11_walk_J115
  refine r_istore (pc := 115) ok [(7, .int s0), (0, .ref (gA g 22 0)), (1, .int vq1), (2, .int vq2), (3, .int vq3), (5, .int vq5), (6, .int vq6), (8, .int vq8), (9, .int vq9), (10, .int vq10)] dX11_walk_115 (by decide) rfl ?_
  refine r_iload (pc := 117) ok 9 dX11_walk_117 rfl ?_
  refine r_iload (pc := 119) ok 6 dX11_walk_119 rfl ?_
  refine r_icmp_le (pc := 121) ok 129 dX11_walk_121 (by decide) (fun _ => ?_) (fun _ => ?_)
  · refine r_iload (pc := 129) ok 6 dX11_walk_129 rfl ?_
    refine r_istore (pc := 131) ok [(6, .int vq6), (7, .int s0), (0, .ref (gA g 22 0)), (1, .int vq1), (2, .int vq2), (3, .int vq3), (5, .int vq5), (8, .int vq8), (9, .int vq9), (10, .int vq10)] dX11_walk_131 (by decide) rfl ?_
    refine r_iinc (pc := 133) ok 8 (vq9 + 1) [(9, .int (vq9 + 1)), (6, .int vq6), (7, .int s0), (0, .ref (gA g 22 0)), (1, .int vq1), (2, .int vq2), (3, .int vq3), (5, .int vq5), (8, .int vq8), (10, .int vq10)] dX11_walk_133 rfl (congrArg (fun z => vq9 + z) (by decide : Int32.ofInt 1 = (1 : Int32))) (by decide) rfl ?_
    refine r_goto (pc := 136) ok 43 dX11_walk_136 (by decide) ?_
    refine r_lv [3, 4, 5, 6, 7, 1, 2, 8, 0] [(0, .ref (gA g 22 0)), (1, .int vq1), (2, .int vq2), (3, .int vq3), (5, .int vq5), (6, .int vq6), (7, .int s0), (8, .int vq8), (9, .int (vq9 + 1))] rfl ?_
    exact hk43 vq5 vq6 s0 vq8 (vq9 + 1) M
  · refine r_iload (pc := 124) ok 9 dX11_walk_124 rfl ?_
    refine r_goto (pc := 126) ok 131 dX11_walk_126 (by decide) ?_
    refine r_istore (pc := 131) ok [(6, .int vq10), (7, .int s0), (0, .ref (gA g 22 0)), (1, .int vq1), (2, .int vq2), (3, .int vq3), (5, .int vq5), (8, .int vq8), (9, .int vq9), (10, .int vq10)] dX11_walk_131 (by decide) rfl ?_
    refine r_iinc (pc := 133) ok 8 (vq9 + 1) [(9, .int (vq9 + 1)), (6, .int vq10), (7, .int s0), (0, .ref (gA g 22 0)), (1, .int vq1), (2, .int vq2), (3, .int vq3), (5, .int vq5), (8, .int vq8), (10, .int vq10)] dX11_walk_133 rfl (congrArg (fun z => vq9 + z) (by decide : Int32.ofInt 1 = (1 : Int32))) (by decide) rfl ?_
    refine r_goto (pc := 136) ok 43 dX11_walk_136 (by decide) ?_
    refine r_lv [3, 4, 5, 6, 7, 1, 2, 8, 0] [(0, .ref (gA g 22 0)), (1, .int vq1), (2, .int vq2), (3, .int vq3), (5, .int vq5), (6, .int vq10), (7, .int s0), (8, .int vq8), (9, .int (vq9 + 1))] rfl ?_
    exact hk43 vq5 vq10 s0 vq8 (vq9 + 1) M
def fX11_walk_J108 (k43 : Int32 → Int32 → Int32 → Int32 → Int32 → Mem → Option (Int32 × Mem)) (vq1 : Int32) (vq2 : Int32) (vq3 : Int32) (vq5 : Int32) (vq6 : Int32) (vq8 : Int32) (vq9 : Int32) (vq10 : Int32) (M : Mem) : Option (Int32 × Mem) :=
  fX11_walk_J115 k43 vq1 vq2 vq3 vq5 vq6 vq8 vq9 vq10 vq9 M
set_option maxRecDepth 20000 in
theorem sX11_walk_J108 {g : GP} {l : Launch} {x : CT} {k43 : Int32 → Int32 → Int32 → Int32 → Int32 → Mem → Option (Int32 × Mem)} (ok : Ok g l x RX11 cX11_walk 11 (some FieldType.int) (rmL 6)) (vq1 : Int32) (vq2 : Int32) (vq3 : Int32) (vq5 : Int32) (vq6 : Int32) (vq8 : Int32) (vq9 : Int32) (vq10 : Int32)  (hk43 : ∀ (vq5 : Int32) (vq6 : Int32) (vq7 : Int32) (vq8 : Int32) (vq9 : Int32) (M : Mem), Sw g l x (FinQ g x eI) 11 0 0 43 [(0, .ref (gA g 22 0)), (1, .int vq1), (2, .int vq2), (3, .int vq3), (5, .int vq5), (6, .int vq6), (7, .int vq7), (8, .int vq8), (9, .int vq9)] [] M (k43 vq5 vq6 vq7 vq8 vq9 M)) (M : Mem) : Sw g l x (FinQ g x eI) 11 0 0 108 [(0, .ref (gA g 22 0)), (1, .int vq1), (2, .int vq2), (3, .int vq3), (5, .int vq5), (6, .int vq6), (8, .int vq8), (9, .int vq9), (10, .int vq10)] [] M (fX11_walk_J108 k43 vq1 vq2 vq3 vq5 vq6 vq8 vq9 vq10 M) := by
  unfold fX11_walk_J108
  refine r_iload (pc := 108) ok 7 dX11_walk_108 rfl ?_
  refine r_goto (pc := 110) ok 115 dX11_walk_110 (by decide) ?_
  refine r_lv [0, 1, 2, 3, 4, 5, 6, 7, 8] [(0, .ref (gA g 22 0)), (1, .int vq1), (2, .int vq2), (3, .int vq3), (5, .int vq5), (6, .int vq6), (8, .int vq8), (9, .int vq9), (10, .int vq10)] rfl ?_
  exact sX11_walk_J115 ok vq1 vq2 vq3 vq5 vq6 vq8 vq9 vq10 vq9 hk43 M
def fX11_walk_J92 (k43 : Int32 → Int32 → Int32 → Int32 → Int32 → Mem → Option (Int32 × Mem)) (vq1 : Int32) (vq2 : Int32) (vq3 : Int32) (vq5 : Int32) (vq6 : Int32) (vq7 : Int32) (vq9 : Int32) (vq10 : Int32) (s0 : Int32) (s1 : Int32) (M : Mem) : Option (Int32 × Mem) :=
  lt (s1 + s0) fun w8 =>
  if vq7 = (-1) then
    (fX11_walk_J108 k43 vq1 vq2 vq3 vq5 vq6 w8 vq9 vq10 M)
  else
    (if vq10 ≤ vq6 then
      (fX11_walk_J115 k43 vq1 vq2 vq3 vq5 vq6 w8 vq9 vq10 vq7 M)
    else
      (fX11_walk_J108 k43 vq1 vq2 vq3 vq5 vq6 w8 vq9 vq10 M))
set_option maxRecDepth 20000 in
theorem sX11_walk_J92 {g : GP} {l : Launch} {x : CT} {k43 : Int32 → Int32 → Int32 → Int32 → Int32 → Mem → Option (Int32 × Mem)} (ok : Ok g l x RX11 cX11_walk 11 (some FieldType.int) (rmL 6)) (vq1 : Int32) (vq2 : Int32) (vq3 : Int32) (vq5 : Int32) (vq6 : Int32) (vq7 : Int32) (vq9 : Int32) (vq10 : Int32) (s0 : Int32) (s1 : Int32)  (hk43 : ∀ (vq5 : Int32) (vq6 : Int32) (vq7 : Int32) (vq8 : Int32) (vq9 : Int32) (M : Mem), Sw g l x (FinQ g x eI) 11 0 0 43 [(0, .ref (gA g 22 0)), (1, .int vq1), (2, .int vq2), (3, .int vq3), (5, .int vq5), (6, .int vq6), (7, .int vq7), (8, .int vq8), (9, .int vq9)] [] M (k43 vq5 vq6 vq7 vq8 vq9 M)) (M : Mem) : Sw g l x (FinQ g x eI) 11 0 0 92 [(0, .ref (gA g 22 0)), (1, .int vq1), (2, .int vq2), (3, .int vq3), (5, .int vq5), (6, .int vq6), (7, .int vq7), (9, .int vq9), (10, .int vq10)] [.int s0, .int s1] M (fX11_walk_J92 k43 vq1 vq2 vq3 vq5 vq6 vq7 vq9 vq10 s0 s1 M) := by
  unfold fX11_walk_J92
  refine r_iadd (pc := 92) ok dX11_walk_92 ?_
  refine r_nmi (fun w8 => ?_)
  refine r_istore (pc := 93) ok [(8, .int w8), (0, .ref (gA g 22 0)), (1, .int vq1), (2, .int vq2), (3, .int vq3), (5, .int vq5), (6, .int vq6), (7, .int vq7), (9, .int vq9), (10, .int vq10)] dX11_walk_93 (by decide) rfl ?_
  refine r_iload (pc := 95) ok 7 dX11_walk_95 rfl ?_
  refine r_iconst (pc := 97) ok (-1) dX11_walk_97 (by decide) ?_
  refine r_icmp_eq (pc := 98) ok 108 dX11_walk_98 (by decide) (fun _ => ?_) (fun _ => ?_)
  · refine r_lv [1, 2, 3, 4, 5, 6, 0, 8, 9] [(0, .ref (gA g 22 0)), (1, .int vq1), (2, .int vq2), (3, .int vq3), (5, .int vq5), (6, .int vq6), (8, .int w8), (9, .int vq9), (10, .int vq10)] rfl ?_
    exact sX11_walk_J108 ok vq1 vq2 vq3 vq5 vq6 w8 vq9 vq10 hk43 M
  · refine r_iload (pc := 101) ok 9 dX11_walk_101 rfl ?_
    refine r_iload (pc := 103) ok 6 dX11_walk_103 rfl ?_
    refine r_icmp_le (pc := 105) ok 113 dX11_walk_105 (by decide) (fun _ => ?_) (fun _ => ?_)
    · refine r_iload (pc := 113) ok 7 dX11_walk_113 rfl ?_
      refine r_lv [1, 2, 3, 4, 5, 6, 0, 8, 9] [(0, .ref (gA g 22 0)), (1, .int vq1), (2, .int vq2), (3, .int vq3), (5, .int vq5), (6, .int vq6), (8, .int w8), (9, .int vq9), (10, .int vq10)] rfl ?_
      exact sX11_walk_J115 ok vq1 vq2 vq3 vq5 vq6 w8 vq9 vq10 vq7 hk43 M
    · refine r_lv [1, 2, 3, 4, 5, 6, 0, 8, 9] [(0, .ref (gA g 22 0)), (1, .int vq1), (2, .int vq2), (3, .int vq3), (5, .int vq5), (6, .int vq6), (8, .int w8), (9, .int vq9), (10, .int vq10)] rfl ?_
      exact sX11_walk_J108 ok vq1 vq2 vq3 vq5 vq6 w8 vq9 vq10 hk43 M
def fX11_walk_B43 (vq1 : Int32) (vq2 : Int32) (vq3 : Int32) (k43 : Int32 → Int32 → Int32 → Int32 → Int32 → Mem → Option (Int32 × Mem)) (vq5 : Int32) (vq6 : Int32) (vq7 : Int32) (vq8 : Int32) (vq9 : Int32) (M : Mem) : Option (Int32 × Mem) :=
  gd (inb vq1 4)
  (if (M 34 0 vq1.toNatClampNeg) ≤ vq9 then
    (if vq3 = 0 then
      (some (vq5, M))
    else
      (if vq3 = 1 then
        (some (vq6, M))
      else
        (if vq3 = 2 then
          (some (vq7, M))
        else
          (some (vq8, M)))))
  else
    (gd (inb ((40 * vq1) + vq9) 160)
    (ob (fX11_feelsOf vq2 (M 35 0 ((40 * vq1) + vq9).toNatClampNeg) M) fun r5 M6 =>
    lt (vq5 + r5) fun w7 =>
    if r5 = 0 then
      (fX11_walk_J92 k43 vq1 vq2 vq3 w7 vq6 vq7 vq9 r5 1 vq8 M6)
    else
      (fX11_walk_J92 k43 vq1 vq2 vq3 w7 vq6 vq7 vq9 r5 0 vq8 M6))))
def fX11_walk_L43 (vq1 : Int32) (vq2 : Int32) (vq3 : Int32) : Nat → Int32 → Int32 → Int32 → Int32 → Int32 → Mem → Option (Int32 × Mem)
  | 0, _, _, _, _, _, _ => none
  | n + 1, vq5, vq6, vq7, vq8, vq9, M => fX11_walk_B43 vq1 vq2 vq3 (fX11_walk_L43 vq1 vq2 vq3 n) vq5 vq6 vq7 vq8 vq9 M
set_option maxRecDepth 20000 in
theorem sX11_walk_B43 {g : GP} {l : Launch} {x : CT} (ok : Ok g l x RX11 cX11_walk 11 (some FieldType.int) (rmL 6)) (vq1 : Int32) (vq2 : Int32) (vq3 : Int32)  (k43 : Int32 → Int32 → Int32 → Int32 → Int32 → Mem → Option (Int32 × Mem)) (hk43 : ∀ (vq5 : Int32) (vq6 : Int32) (vq7 : Int32) (vq8 : Int32) (vq9 : Int32) (M : Mem), Sw g l x (FinQ g x eI) 11 0 0 43 [(0, .ref (gA g 22 0)), (1, .int vq1), (2, .int vq2), (3, .int vq3), (5, .int vq5), (6, .int vq6), (7, .int vq7), (8, .int vq8), (9, .int vq9)] [] M (k43 vq5 vq6 vq7 vq8 vq9 M)) (vq5 : Int32) (vq6 : Int32) (vq7 : Int32) (vq8 : Int32) (vq9 : Int32) (M : Mem) : Sw g l x (FinQ g x eI) 11 0 0 43 [(0, .ref (gA g 22 0)), (1, .int vq1), (2, .int vq2), (3, .int vq3), (5, .int vq5), (6, .int vq6), (7, .int vq7), (8, .int vq8), (9, .int vq9)] [] M (fX11_walk_B43 vq1 vq2 vq3 k43 vq5 vq6 vq7 vq8 vq9 M) := by
  unfold fX11_walk_B43
  refine r_iload (pc := 43) ok 8 dX11_walk_43 rfl ?_
  refine r_aload_n (pc := 45) ok 0 dX11_walk_45 rfl ?_
  refine r_getR (pc := 46) ok fr_22_17 (by decide) fl_X11_43 dX11_walk_46 ?_
  refine r_iload_n (pc := 49) ok 1 dX11_walk_49 rfl ?_
  refine r_iald (pc := 50) ok ik_34 (by decide) dX11_walk_50 (fun _ => ?_)
  refine r_icmp_ge (pc := 51) ok 139 dX11_walk_51 (by decide) (fun _ => ?_) (fun _ => ?_)
  · refine r_iload_n (pc := 139) ok 3 dX11_walk_139 rfl ?_
    refine r_if_ne (pc := 140) ok 148 dX11_walk_140 (by decide) (fun _ => ?_) (fun _ => ?_)
    · refine r_iload (pc := 143) ok 4 dX11_walk_143 rfl ?_
      refine r_goto (pc := 145) ok 170 dX11_walk_145 (by decide) ?_
      exact r_iret (pc := 170) ok (Nat.zero_le _) (Nat.zero_le _) rfl dX11_walk_170
    · refine r_iload_n (pc := 148) ok 3 dX11_walk_148 rfl ?_
      refine r_iconst (pc := 149) ok 1 dX11_walk_149 (by decide) ?_
      refine r_icmp_ne (pc := 150) ok 158 dX11_walk_150 (by decide) (fun _ => ?_) (fun _ => ?_)
      · refine r_iload (pc := 153) ok 5 dX11_walk_153 rfl ?_
        refine r_goto (pc := 155) ok 170 dX11_walk_155 (by decide) ?_
        exact r_iret (pc := 170) ok (Nat.zero_le _) (Nat.zero_le _) rfl dX11_walk_170
      · refine r_iload_n (pc := 158) ok 3 dX11_walk_158 rfl ?_
        refine r_iconst (pc := 159) ok 2 dX11_walk_159 (by decide) ?_
        refine r_icmp_ne (pc := 160) ok 168 dX11_walk_160 (by decide) (fun _ => ?_) (fun _ => ?_)
        · refine r_iload (pc := 163) ok 6 dX11_walk_163 rfl ?_
          refine r_goto (pc := 165) ok 170 dX11_walk_165 (by decide) ?_
          exact r_iret (pc := 170) ok (Nat.zero_le _) (Nat.zero_le _) rfl dX11_walk_170
        · refine r_iload (pc := 168) ok 7 dX11_walk_168 rfl ?_
          exact r_iret (pc := 170) ok (Nat.zero_le _) (Nat.zero_le _) rfl dX11_walk_170
  · refine r_aload_n (pc := 54) ok 0 dX11_walk_54 rfl ?_
    refine r_iload_n (pc := 55) ok 2 dX11_walk_55 rfl ?_
    refine r_aload_n (pc := 56) ok 0 dX11_walk_56 rfl ?_
    refine r_getR (pc := 57) ok fr_22_18 (by decide) fl_X11_46 dX11_walk_57 ?_
    refine r_bipush (pc := 60) ok 40 dX11_walk_60 (by decide) ?_
    refine r_iload_n (pc := 62) ok 1 dX11_walk_62 rfl ?_
    refine r_imul (pc := 63) ok dX11_walk_63 ?_
    refine r_iload (pc := 64) ok 8 dX11_walk_64 rfl ?_
    refine r_iadd (pc := 66) ok dX11_walk_66 ?_
    refine r_iald (pc := 67) ok ik_35 (by decide) dX11_walk_67 (fun _ => ?_)
    refine r_callV0 (pc := 68) ok [.int vq2, .int (M 35 0 ((40 * vq1) + vq9).toNatClampNeg)] [] 5 (fun rZ MZ hZ => con_X11_feelsOf g l vq2 (M 35 0 ((40 * vq1) + vq9).toNatClampNeg) _ rZ MZ hZ) cv_X11_203 ok_22 (rmOk_L (by decide) (by decide)) dX11_walk_68 rfl rfl (Nat.le_of_ble_eq_true rfl) (fun r5 M6 => ?_)
    refine r_istore (pc := 71) ok [(10, .int r5), (0, .ref (gA g 22 0)), (1, .int vq1), (2, .int vq2), (3, .int vq3), (5, .int vq5), (6, .int vq6), (7, .int vq7), (8, .int vq8), (9, .int vq9)] dX11_walk_71 (by decide) rfl ?_
    refine r_iload (pc := 73) ok 5 dX11_walk_73 rfl ?_
    refine r_iload (pc := 75) ok 0 dX11_walk_75 rfl ?_
    refine r_iadd (pc := 77) ok dX11_walk_77 ?_
    refine r_nmi (fun w7 => ?_)
    refine r_istore (pc := 78) ok [(5, .int w7), (10, .int r5), (0, .ref (gA g 22 0)), (1, .int vq1), (2, .int vq2), (3, .int vq3), (6, .int vq6), (7, .int vq7), (8, .int vq8), (9, .int vq9)] dX11_walk_78 (by decide) rfl ?_
    refine r_iload (pc := 80) ok 8 dX11_walk_80 rfl ?_
    refine r_iload (pc := 82) ok 1 dX11_walk_82 rfl ?_
    refine r_if_ne (pc := 84) ok 91 dX11_walk_84 (by decide) (fun _ => ?_) (fun _ => ?_)
    · refine r_iconst (pc := 87) ok 1 dX11_walk_87 (by decide) ?_
      refine r_goto (pc := 88) ok 92 dX11_walk_88 (by decide) ?_
      refine r_lv [2, 3, 4, 5, 0, 6, 7, 9, 1] [(0, .ref (gA g 22 0)), (1, .int vq1), (2, .int vq2), (3, .int vq3), (5, .int w7), (6, .int vq6), (7, .int vq7), (9, .int vq9), (10, .int r5)] rfl ?_
      exact sX11_walk_J92 ok vq1 vq2 vq3 w7 vq6 vq7 vq9 r5 1 vq8 hk43 M6
    · refine r_iconst (pc := 91) ok 0 dX11_walk_91 (by decide) ?_
      refine r_lv [2, 3, 4, 5, 0, 6, 7, 9, 1] [(0, .ref (gA g 22 0)), (1, .int vq1), (2, .int vq2), (3, .int vq3), (5, .int w7), (6, .int vq6), (7, .int vq7), (9, .int vq9), (10, .int r5)] rfl ?_
      exact sX11_walk_J92 ok vq1 vq2 vq3 w7 vq6 vq7 vq9 r5 0 vq8 hk43 M6
theorem sX11_walk_L43 {g : GP} {l : Launch} {x : CT} (ok : Ok g l x RX11 cX11_walk 11 (some FieldType.int) (rmL 6)) (vq1 : Int32) (vq2 : Int32) (vq3 : Int32)  : ∀ (n : Nat) (vq5 : Int32) (vq6 : Int32) (vq7 : Int32) (vq8 : Int32) (vq9 : Int32) (M : Mem), Sw g l x (FinQ g x eI) 11 0 0 43 [(0, .ref (gA g 22 0)), (1, .int vq1), (2, .int vq2), (3, .int vq3), (5, .int vq5), (6, .int vq6), (7, .int vq7), (8, .int vq8), (9, .int vq9)] [] M (fX11_walk_L43 vq1 vq2 vq3 n vq5 vq6 vq7 vq8 vq9 M) := by
  intro n
  induction n with
  | zero => intros; exact r_none
  | succ n ih => intro vq5 vq6 vq7 vq8 vq9 M; exact sX11_walk_B43 ok vq1 vq2 vq3  _ ih vq5 vq6 vq7 vq8 vq9 M
def fX11_walk (vq1 : Int32) (vq2 : Int32) (vq3 : Int32) (M : Mem) : Option (Int32 × Mem) :=
  ob (fX11_walkWrong vq1 vq2 M) fun r1 M2 =>
  if r1 = 0 then
    (ob (fX11_in vq3 0 3 M2) fun r3 M4 =>
    if r3 = 0 then
      (some (-7, M4))
    else
      (fX11_walk_L43 vq1 vq2 vq3 FU 0 0 (-1) 0 0 M4))
  else
    (some (r1, M2))
set_option maxRecDepth 20000 in
theorem wX11_walk {g : GP} {l : Launch} {x : CT} (ok : Ok g l x RX11 cX11_walk 11 (some FieldType.int) (rmL 6)) (vq1 : Int32) (vq2 : Int32) (vq3 : Int32)  (M : Mem) : Sw g l x (FinQ g x eI) 11 0 0 0 [(0, .ref (gA g 22 0)), (1, .int vq1), (2, .int vq2), (3, .int vq3)] [] M (fX11_walk vq1 vq2 vq3 M) := by
  unfold fX11_walk
  refine r_aload_n (pc := 0) ok 0 dX11_walk_0 rfl ?_
  refine r_iload_n (pc := 1) ok 1 dX11_walk_1 rfl ?_
  refine r_iload_n (pc := 2) ok 2 dX11_walk_2 rfl ?_
  refine r_callV0 (pc := 3) ok [.int vq1, .int vq2] [] 4 (fun rZ MZ hZ => con_X11_walkWrong g l vq1 vq2 _ rZ MZ hZ) cv_X11_200 ok_22 (rmOk_L (by decide) (by decide)) dX11_walk_3 rfl rfl (Nat.le_of_ble_eq_true rfl) (fun r1 M2 => ?_)
  refine r_istore (pc := 6) ok [(4, .int r1), (0, .ref (gA g 22 0)), (1, .int vq1), (2, .int vq2), (3, .int vq3)] dX11_walk_6 (by decide) rfl ?_
  refine r_iload (pc := 8) ok 0 dX11_walk_8 rfl ?_
  refine r_if_eq (pc := 10) ok 16 dX11_walk_10 (by decide) (fun _ => ?_) (fun _ => ?_)
  · refine r_iload_n (pc := 16) ok 4 dX11_walk_16 rfl ?_
    refine r_iconst (pc := 17) ok 0 dX11_walk_17 (by decide) ?_
    refine r_iconst (pc := 18) ok 3 dX11_walk_18 (by decide) ?_
    refine r_callS0 (pc := 19) ok [.int vq3, .int 0, .int 3] [] 2 (fun rZ MZ hZ => con_X11_in g l vq3 0 3 _ rZ MZ hZ) cs_X11_84 (rmOk_L (by decide) (by decide)) dX11_walk_19 rfl rfl (Nat.le_of_ble_eq_true rfl) (fun r3 M4 => ?_)
    refine r_if_ne (pc := 22) ok 28 dX11_walk_22 (by decide) (fun _ => ?_) (fun _ => ?_)
    · refine r_bipush (pc := 25) ok (-7) dX11_walk_25 (by decide) ?_
      exact r_iret (pc := 27) ok (Nat.zero_le _) (Nat.zero_le _) rfl dX11_walk_27
    · refine r_iconst (pc := 28) ok 0 dX11_walk_28 (by decide) ?_
      refine r_istore (pc := 29) ok [(5, .int 0), (4, .int r1), (0, .ref (gA g 22 0)), (1, .int vq1), (2, .int vq2), (3, .int vq3)] dX11_walk_29 (by decide) rfl ?_
      refine r_iconst (pc := 31) ok 0 dX11_walk_31 (by decide) ?_
      refine r_istore (pc := 32) ok [(6, .int 0), (5, .int 0), (4, .int r1), (0, .ref (gA g 22 0)), (1, .int vq1), (2, .int vq2), (3, .int vq3)] dX11_walk_32 (by decide) rfl ?_
      refine r_iconst (pc := 34) ok (-1) dX11_walk_34 (by decide) ?_
      refine r_istore (pc := 35) ok [(7, .int (-1)), (6, .int 0), (5, .int 0), (4, .int r1), (0, .ref (gA g 22 0)), (1, .int vq1), (2, .int vq2), (3, .int vq3)] dX11_walk_35 (by decide) rfl ?_
      refine r_iconst (pc := 37) ok 0 dX11_walk_37 (by decide) ?_
      refine r_istore (pc := 38) ok [(8, .int 0), (7, .int (-1)), (6, .int 0), (5, .int 0), (4, .int r1), (0, .ref (gA g 22 0)), (1, .int vq1), (2, .int vq2), (3, .int vq3)] dX11_walk_38 (by decide) rfl ?_
      refine r_iconst (pc := 40) ok 0 dX11_walk_40 (by decide) ?_
      refine r_istore (pc := 41) ok [(9, .int 0), (8, .int 0), (7, .int (-1)), (6, .int 0), (5, .int 0), (4, .int r1), (0, .ref (gA g 22 0)), (1, .int vq1), (2, .int vq2), (3, .int vq3)] dX11_walk_41 (by decide) rfl ?_
      refine r_lv [6, 7, 8, 9, 4, 3, 2, 1, 0] [(0, .ref (gA g 22 0)), (1, .int vq1), (2, .int vq2), (3, .int vq3), (5, .int 0), (6, .int 0), (7, .int (-1)), (8, .int 0), (9, .int 0)] rfl ?_
      exact sX11_walk_L43 ok vq1 vq2 vq3 FU 0 0 (-1) 0 0 M4
  · refine r_iload (pc := 13) ok 0 dX11_walk_13 rfl ?_
    exact r_iret (pc := 15) ok (Nat.zero_le _) (Nat.zero_le _) rfl dX11_walk_15
theorem con_X11_walk (g : GP) (l : Launch) (vq1 : Int32) (vq2 : Int32) (vq3 : Int32)  (M : Mem) (r : Int32) (M2 : Mem) (h : fX11_walk vq1 vq2 vq3 M = some (r, M2)) : Con g l yX11_walk cX11_walk 11 (some FieldType.int) (rmL 6) [.ref (gA g 22 0), .int vq1, .int vq2, .int vq3] M (eI r) M2 :=
  Con.of (own := RX11) (f := fX11_walk vq1 vq2 vq3 M) (by decide) (Nat.le_of_ble_eq_true rfl) rfl (fun x ok => wX11_walk ok vq1 vq2 vq3  M) r M2 h
def fX11_wearsNow_J27 (vq2 : Int32) (s0 : Int32) (M : Mem) : Option (Int32 × Mem) :=
  gd (inb vq2 36)
  (gd (inb vq2 36)
  (lt (mst M 27 0 vq2.toNatClampNeg ((M 27 0 vq2.toNatClampNeg) - s0)) fun M3 =>
  some (s0, M3)))
set_option maxRecDepth 20000 in
theorem sX11_wearsNow_J27 {g : GP} {l : Launch} {x : CT} (ok : Ok g l x RX11 cX11_wearsNow 5 (some FieldType.int) (rmL 6)) (vq2 : Int32) (s0 : Int32)  (M : Mem) : Sw g l x (FinQ g x eI) 5 0 0 27 [(0, .ref (gA g 22 0)), (2, .int vq2)] [.int s0] M (fX11_wearsNow_J27 vq2 s0 M) := by
  unfold fX11_wearsNow_J27
  refine r_istore (pc := 27) ok [(4, .int s0), (0, .ref (gA g 22 0)), (2, .int vq2)] dX11_wearsNow_27 (by decide) rfl ?_
  refine r_aload_n (pc := 29) ok 1 dX11_wearsNow_29 rfl ?_
  refine r_getR (pc := 30) ok fr_22_5 (by decide) fl_X11_22 dX11_wearsNow_30 ?_
  refine r_iload_n (pc := 33) ok 2 dX11_wearsNow_33 rfl ?_
  refine r_dup2 (pc := 34) ok dX11_wearsNow_34 rfl rfl ?_
  refine r_iald (pc := 35) ok ik_27 (by decide) dX11_wearsNow_35 (fun _ => ?_)
  refine r_iload (pc := 36) ok 0 dX11_wearsNow_36 rfl ?_
  refine r_isub (pc := 38) ok dX11_wearsNow_38 ?_
  refine r_iast (pc := 39) ok ik_27 (by decide) dX11_wearsNow_39 ?_
  refine r_nmM (fun M3 => ?_)
  refine r_iload (pc := 40) ok 0 dX11_wearsNow_40 rfl ?_
  exact r_iret (pc := 42) ok (Nat.zero_le _) (Nat.zero_le _) rfl dX11_wearsNow_42
def fX11_wearsNow (vq1 : Int32) (vq2 : Int32) (M : Mem) : Option (Int32 × Mem) :=
  ob (fX11_wearsOf vq1 vq2 M) fun r1 M2 =>
  gd (inb vq2 36)
  (if (M2 27 0 vq2.toNatClampNeg) ≤ r1 then
    (gd (inb vq2 36)
    (fX11_wearsNow_J27 vq2 (M2 27 0 vq2.toNatClampNeg) M2))
  else
    (fX11_wearsNow_J27 vq2 r1 M2))
set_option maxRecDepth 20000 in
theorem wX11_wearsNow {g : GP} {l : Launch} {x : CT} (ok : Ok g l x RX11 cX11_wearsNow 5 (some FieldType.int) (rmL 6)) (vq1 : Int32) (vq2 : Int32)  (M : Mem) : Sw g l x (FinQ g x eI) 5 0 0 0 [(0, .ref (gA g 22 0)), (1, .int vq1), (2, .int vq2)] [] M (fX11_wearsNow vq1 vq2 M) := by
  unfold fX11_wearsNow
  refine r_aload_n (pc := 0) ok 0 dX11_wearsNow_0 rfl ?_
  refine r_iload_n (pc := 1) ok 1 dX11_wearsNow_1 rfl ?_
  refine r_iload_n (pc := 2) ok 2 dX11_wearsNow_2 rfl ?_
  refine r_callV0 (pc := 3) ok [.int vq1, .int vq2] [] 5 (fun rZ MZ hZ => con_X11_wearsOf g l vq1 vq2 _ rZ MZ hZ) cv_X11_206 ok_22 (rmOk_L (by decide) (by decide)) dX11_wearsNow_3 rfl rfl (Nat.le_of_ble_eq_true rfl) (fun r1 M2 => ?_)
  refine r_istore_n (pc := 6) ok [(3, .int r1), (0, .ref (gA g 22 0)), (1, .int vq1), (2, .int vq2)] dX11_wearsNow_6 rfl (by decide) rfl ?_
  refine r_iload_n (pc := 7) ok 0 dX11_wearsNow_7 rfl ?_
  refine r_aload_n (pc := 8) ok 1 dX11_wearsNow_8 rfl ?_
  refine r_getR (pc := 9) ok fr_22_5 (by decide) fl_X11_22 dX11_wearsNow_9 ?_
  refine r_iload_n (pc := 12) ok 3 dX11_wearsNow_12 rfl ?_
  refine r_iald (pc := 13) ok ik_27 (by decide) dX11_wearsNow_13 (fun _ => ?_)
  refine r_icmp_ge (pc := 14) ok 21 dX11_wearsNow_14 (by decide) (fun _ => ?_) (fun _ => ?_)
  · refine r_aload_n (pc := 21) ok 1 dX11_wearsNow_21 rfl ?_
    refine r_getR (pc := 22) ok fr_22_5 (by decide) fl_X11_22 dX11_wearsNow_22 ?_
    refine r_iload_n (pc := 25) ok 3 dX11_wearsNow_25 rfl ?_
    refine r_iald (pc := 26) ok ik_27 (by decide) dX11_wearsNow_26 (fun _ => ?_)
    refine r_lv [1, 3] [(0, .ref (gA g 22 0)), (2, .int vq2)] rfl ?_
    exact sX11_wearsNow_J27 ok vq2 (M2 27 0 vq2.toNatClampNeg) M2
  · refine r_iload_n (pc := 17) ok 0 dX11_wearsNow_17 rfl ?_
    refine r_goto (pc := 18) ok 27 dX11_wearsNow_18 (by decide) ?_
    refine r_lv [1, 3] [(0, .ref (gA g 22 0)), (2, .int vq2)] rfl ?_
    exact sX11_wearsNow_J27 ok vq2 r1 M2
theorem con_X11_wearsNow (g : GP) (l : Launch) (vq1 : Int32) (vq2 : Int32)  (M : Mem) (r : Int32) (M2 : Mem) (h : fX11_wearsNow vq1 vq2 M = some (r, M2)) : Con g l yX11_wearsNow cX11_wearsNow 5 (some FieldType.int) (rmL 6) [.ref (gA g 22 0), .int vq1, .int vq2] M (eI r) M2 :=
  Con.of (own := RX11) (f := fX11_wearsNow vq1 vq2 M) (by decide) (Nat.le_of_ble_eq_true rfl) rfl (fun x ok => wX11_wearsNow ok vq1 vq2  M) r M2 h
def fX11_way_J196 (k139 : Int32 → Mem → Option (Int32 × Mem)) (k150 : Int32 → Int32 → Mem → Option (Int32 × Mem)) (vq2 : Int32) (vq6 : Int32) (vq7 : Int32) (M : Mem) : Option (Int32 × Mem) :=
  if 30 ≤ vq7 then
    (k150 vq6 (vq7 + 1) M)
  else
    (ob (fX11_relaxes vq7 (vq7 + 6) M) fun r11 M12 =>
    lt (vq6 ||| r11) fun w13 =>
    ob (fX11_relaxes (vq7 + 6) vq7 M12) fun r14 M15 =>
    lt (w13 ||| r14) fun w16 =>
    k150 w16 (vq7 + 1) M15)
set_option maxRecDepth 20000 in
theorem sX11_way_J196 {g : GP} {l : Launch} {x : CT} {k139 : Int32 → Mem → Option (Int32 × Mem)} {k150 : Int32 → Int32 → Mem → Option (Int32 × Mem)} (ok : Ok g l x RX11 cX11_way 8 (some FieldType.int) (rmL 6)) (vq2 : Int32) (vq6 : Int32) (vq7 : Int32)  (hk139 : ∀ (vq6 : Int32) (M : Mem), Sw g l x (FinQ g x eI) 8 0 0 139 [(0, .ref (gA g 22 0)), (2, .int vq2), (6, .int vq6)] [] M (k139 vq6 M)) (hk150 : ∀ (vq6 : Int32) (vq7 : Int32) (M : Mem), Sw g l x (FinQ g x eI) 8 0 0 150 [(0, .ref (gA g 22 0)), (2, .int vq2), (6, .int vq6), (7, .int vq7)] [] M (k150 vq6 vq7 M)) (M : Mem) : Sw g l x (FinQ g x eI) 8 0 0 196 [(0, .ref (gA g 22 0)), (2, .int vq2), (6, .int vq6), (7, .int vq7)] [] M (fX11_way_J196 k139 k150 vq2 vq6 vq7 M) := by
  unfold fX11_way_J196
  refine r_iload (pc := 196) ok 3 dX11_way_196 rfl ?_
  refine r_bipush (pc := 198) ok 30 dX11_way_198 (by decide) ?_
  refine r_icmp_ge (pc := 200) ok 235 dX11_way_200 (by decide) (fun _ => ?_) (fun _ => ?_)
  · refine r_iinc (pc := 235) ok 3 (vq7 + 1) [(7, .int (vq7 + 1)), (0, .ref (gA g 22 0)), (2, .int vq2), (6, .int vq6)] dX11_way_235 rfl (congrArg (fun z => vq7 + z) (by decide : Int32.ofInt 1 = (1 : Int32))) (by decide) rfl ?_
    refine r_goto (pc := 238) ok 150 dX11_way_238 (by decide) ?_
    refine r_lv [1, 2, 3, 0] [(0, .ref (gA g 22 0)), (2, .int vq2), (6, .int vq6), (7, .int (vq7 + 1))] rfl ?_
    exact hk150 vq6 (vq7 + 1) M
  · refine r_iload (pc := 203) ok 2 dX11_way_203 rfl ?_
    refine r_aload_n (pc := 205) ok 0 dX11_way_205 rfl ?_
    refine r_iload (pc := 206) ok 3 dX11_way_206 rfl ?_
    refine r_iload (pc := 208) ok 3 dX11_way_208 rfl ?_
    refine r_bipush (pc := 210) ok 6 dX11_way_210 (by decide) ?_
    refine r_iadd (pc := 212) ok dX11_way_212 ?_
    refine r_callV0 (pc := 213) ok [.int vq7, .int (vq7 + 6)] [.int vq6] 2 (fun rZ MZ hZ => con_X11_relaxes g l vq7 (vq7 + 6) _ rZ MZ hZ) cv_X11_212 ok_22 (rmOk_L (by decide) (by decide)) dX11_way_213 rfl rfl (Nat.le_of_ble_eq_true rfl) (fun r11 M12 => ?_)
    refine r_ior (pc := 216) ok dX11_way_216 ?_
    refine r_nmi (fun w13 => ?_)
    refine r_istore (pc := 217) ok [(6, .int w13), (0, .ref (gA g 22 0)), (2, .int vq2), (7, .int vq7)] dX11_way_217 (by decide) rfl ?_
    refine r_iload (pc := 219) ok 0 dX11_way_219 rfl ?_
    refine r_aload_n (pc := 221) ok 1 dX11_way_221 rfl ?_
    refine r_iload (pc := 222) ok 3 dX11_way_222 rfl ?_
    refine r_bipush (pc := 224) ok 6 dX11_way_224 (by decide) ?_
    refine r_iadd (pc := 226) ok dX11_way_226 ?_
    refine r_iload (pc := 227) ok 3 dX11_way_227 rfl ?_
    refine r_callV0 (pc := 229) ok [.int (vq7 + 6), .int vq7] [.int w13] 2 (fun rZ MZ hZ => con_X11_relaxes g l (vq7 + 6) vq7 _ rZ MZ hZ) cv_X11_212 ok_22 (rmOk_L (by decide) (by decide)) dX11_way_229 rfl rfl (Nat.le_of_ble_eq_true rfl) (fun r14 M15 => ?_)
    refine r_ior (pc := 232) ok dX11_way_232 ?_
    refine r_nmi (fun w16 => ?_)
    refine r_istore (pc := 233) ok [(6, .int w16), (0, .ref (gA g 22 0)), (2, .int vq2), (7, .int vq7)] dX11_way_233 (by decide) rfl ?_
    refine r_iinc (pc := 235) ok 3 (vq7 + 1) [(7, .int (vq7 + 1)), (6, .int w16), (0, .ref (gA g 22 0)), (2, .int vq2)] dX11_way_235 rfl (congrArg (fun z => vq7 + z) (by decide : Int32.ofInt 1 = (1 : Int32))) (by decide) rfl ?_
    refine r_goto (pc := 238) ok 150 dX11_way_238 (by decide) ?_
    refine r_lv [2, 3, 1, 0] [(0, .ref (gA g 22 0)), (2, .int vq2), (6, .int w16), (7, .int (vq7 + 1))] rfl ?_
    exact hk150 w16 (vq7 + 1) M15
def fX11_way_B150 (k139 : Int32 → Mem → Option (Int32 × Mem)) (vq2 : Int32) (k150 : Int32 → Int32 → Mem → Option (Int32 × Mem)) (vq6 : Int32) (vq7 : Int32) (M : Mem) : Option (Int32 × Mem) :=
  if 36 ≤ vq7 then
    (k139 vq6 M)
  else
    (if 5 ≤ (irem vq7 6) then
      (fX11_way_J196 k139 k150 vq2 vq6 vq7 M)
    else
      (ob (fX11_relaxes vq7 (vq7 + 1) M) fun r17 M18 =>
      lt (vq6 ||| r17) fun w19 =>
      ob (fX11_relaxes (vq7 + 1) vq7 M18) fun r20 M21 =>
      lt (w19 ||| r20) fun w22 =>
      fX11_way_J196 k139 k150 vq2 w22 vq7 M21))
def fX11_way_L150 (k139 : Int32 → Mem → Option (Int32 × Mem)) (vq2 : Int32) : Nat → Int32 → Int32 → Mem → Option (Int32 × Mem)
  | 0, _, _, _ => none
  | n + 1, vq6, vq7, M => fX11_way_B150 k139 vq2 (fX11_way_L150 k139 vq2 n) vq6 vq7 M
set_option maxRecDepth 20000 in
theorem sX11_way_B150 {g : GP} {l : Launch} {x : CT} {k139 : Int32 → Mem → Option (Int32 × Mem)} (ok : Ok g l x RX11 cX11_way 8 (some FieldType.int) (rmL 6)) (vq2 : Int32)  (hk139 : ∀ (vq6 : Int32) (M : Mem), Sw g l x (FinQ g x eI) 8 0 0 139 [(0, .ref (gA g 22 0)), (2, .int vq2), (6, .int vq6)] [] M (k139 vq6 M)) (k150 : Int32 → Int32 → Mem → Option (Int32 × Mem)) (hk150 : ∀ (vq6 : Int32) (vq7 : Int32) (M : Mem), Sw g l x (FinQ g x eI) 8 0 0 150 [(0, .ref (gA g 22 0)), (2, .int vq2), (6, .int vq6), (7, .int vq7)] [] M (k150 vq6 vq7 M)) (vq6 : Int32) (vq7 : Int32) (M : Mem) : Sw g l x (FinQ g x eI) 8 0 0 150 [(0, .ref (gA g 22 0)), (2, .int vq2), (6, .int vq6), (7, .int vq7)] [] M (fX11_way_B150 k139 vq2 k150 vq6 vq7 M) := by
  unfold fX11_way_B150
  refine r_iload (pc := 150) ok 3 dX11_way_150 rfl ?_
  refine r_bipush (pc := 152) ok 36 dX11_way_152 (by decide) ?_
  refine r_icmp_ge (pc := 154) ok 241 dX11_way_154 (by decide) (fun _ => ?_) (fun _ => ?_)
  · refine r_goto (pc := 241) ok 139 dX11_way_241 (by decide) ?_
    refine r_lv [0, 1, 2] [(0, .ref (gA g 22 0)), (2, .int vq2), (6, .int vq6)] rfl ?_
    exact hk139 vq6 M
  · refine r_iload (pc := 157) ok 3 dX11_way_157 rfl ?_
    refine r_bipush (pc := 159) ok 6 dX11_way_159 (by decide) ?_
    refine r_iremc (pc := 161) ok (by decide) dX11_way_161 ?_
    refine r_iconst (pc := 162) ok 5 dX11_way_162 (by decide) ?_
    refine r_icmp_ge (pc := 163) ok 196 dX11_way_163 (by decide) (fun _ => ?_) (fun _ => ?_)
    · refine r_lv [0, 1, 2, 3] [(0, .ref (gA g 22 0)), (2, .int vq2), (6, .int vq6), (7, .int vq7)] rfl ?_
      exact sX11_way_J196 ok vq2 vq6 vq7 hk139 hk150 M
    · refine r_iload (pc := 166) ok 2 dX11_way_166 rfl ?_
      refine r_aload_n (pc := 168) ok 0 dX11_way_168 rfl ?_
      refine r_iload (pc := 169) ok 3 dX11_way_169 rfl ?_
      refine r_iload (pc := 171) ok 3 dX11_way_171 rfl ?_
      refine r_iconst (pc := 173) ok 1 dX11_way_173 (by decide) ?_
      refine r_iadd (pc := 174) ok dX11_way_174 ?_
      refine r_callV0 (pc := 175) ok [.int vq7, .int (vq7 + 1)] [.int vq6] 2 (fun rZ MZ hZ => con_X11_relaxes g l vq7 (vq7 + 1) _ rZ MZ hZ) cv_X11_212 ok_22 (rmOk_L (by decide) (by decide)) dX11_way_175 rfl rfl (Nat.le_of_ble_eq_true rfl) (fun r17 M18 => ?_)
      refine r_ior (pc := 178) ok dX11_way_178 ?_
      refine r_nmi (fun w19 => ?_)
      refine r_istore (pc := 179) ok [(6, .int w19), (0, .ref (gA g 22 0)), (2, .int vq2), (7, .int vq7)] dX11_way_179 (by decide) rfl ?_
      refine r_iload (pc := 181) ok 0 dX11_way_181 rfl ?_
      refine r_aload_n (pc := 183) ok 1 dX11_way_183 rfl ?_
      refine r_iload (pc := 184) ok 3 dX11_way_184 rfl ?_
      refine r_iconst (pc := 186) ok 1 dX11_way_186 (by decide) ?_
      refine r_iadd (pc := 187) ok dX11_way_187 ?_
      refine r_iload (pc := 188) ok 3 dX11_way_188 rfl ?_
      refine r_callV0 (pc := 190) ok [.int (vq7 + 1), .int vq7] [.int w19] 2 (fun rZ MZ hZ => con_X11_relaxes g l (vq7 + 1) vq7 _ rZ MZ hZ) cv_X11_212 ok_22 (rmOk_L (by decide) (by decide)) dX11_way_190 rfl rfl (Nat.le_of_ble_eq_true rfl) (fun r20 M21 => ?_)
      refine r_ior (pc := 193) ok dX11_way_193 ?_
      refine r_nmi (fun w22 => ?_)
      refine r_istore (pc := 194) ok [(6, .int w22), (0, .ref (gA g 22 0)), (2, .int vq2), (7, .int vq7)] dX11_way_194 (by decide) rfl ?_
      refine r_lv [1, 2, 0, 3] [(0, .ref (gA g 22 0)), (2, .int vq2), (6, .int w22), (7, .int vq7)] rfl ?_
      exact sX11_way_J196 ok vq2 w22 vq7 hk139 hk150 M21
theorem sX11_way_L150 {g : GP} {l : Launch} {x : CT} {k139 : Int32 → Mem → Option (Int32 × Mem)} (ok : Ok g l x RX11 cX11_way 8 (some FieldType.int) (rmL 6)) (vq2 : Int32)  (hk139 : ∀ (vq6 : Int32) (M : Mem), Sw g l x (FinQ g x eI) 8 0 0 139 [(0, .ref (gA g 22 0)), (2, .int vq2), (6, .int vq6)] [] M (k139 vq6 M)) : ∀ (n : Nat) (vq6 : Int32) (vq7 : Int32) (M : Mem), Sw g l x (FinQ g x eI) 8 0 0 150 [(0, .ref (gA g 22 0)), (2, .int vq2), (6, .int vq6), (7, .int vq7)] [] M (fX11_way_L150 k139 vq2 n vq6 vq7 M) := by
  intro n
  induction n with
  | zero => intros; exact r_none
  | succ n ih => intro vq6 vq7 M; exact sX11_way_B150 ok vq2  hk139 _ ih vq6 vq7 M
def fX11_way_B139 (vq2 : Int32) (k139 : Int32 → Mem → Option (Int32 × Mem)) (vq6 : Int32) (M : Mem) : Option (Int32 × Mem) :=
  if vq6 = 0 then
    (gd (inb (irem vq2 100) 36)
    (some (M 43 0 (irem vq2 100).toNatClampNeg, M)))
  else
    (fX11_way_L150 k139 vq2 FU 0 0 M)
def fX11_way_L139 (vq2 : Int32) : Nat → Int32 → Mem → Option (Int32 × Mem)
  | 0, _, _ => none
  | n + 1, vq6, M => fX11_way_B139 vq2 (fX11_way_L139 vq2 n) vq6 M
set_option maxRecDepth 20000 in
theorem sX11_way_B139 {g : GP} {l : Launch} {x : CT} (ok : Ok g l x RX11 cX11_way 8 (some FieldType.int) (rmL 6)) (vq2 : Int32)  (k139 : Int32 → Mem → Option (Int32 × Mem)) (hk139 : ∀ (vq6 : Int32) (M : Mem), Sw g l x (FinQ g x eI) 8 0 0 139 [(0, .ref (gA g 22 0)), (2, .int vq2), (6, .int vq6)] [] M (k139 vq6 M)) (vq6 : Int32) (M : Mem) : Sw g l x (FinQ g x eI) 8 0 0 139 [(0, .ref (gA g 22 0)), (2, .int vq2), (6, .int vq6)] [] M (fX11_way_B139 vq2 k139 vq6 M) := by
  unfold fX11_way_B139
  refine r_iload (pc := 139) ok 2 dX11_way_139 rfl ?_
  refine r_if_eq (pc := 141) ok 244 dX11_way_141 (by decide) (fun _ => ?_) (fun _ => ?_)
  · refine r_aload_n (pc := 244) ok 0 dX11_way_244 rfl ?_
    refine r_getR (pc := 245) ok fr_22_33 (by decide) fl_X11_70 dX11_way_245 ?_
    refine r_iload_n (pc := 248) ok 1 dX11_way_248 rfl ?_
    refine r_bipush (pc := 249) ok 100 dX11_way_249 (by decide) ?_
    refine r_iremc (pc := 251) ok (by decide) dX11_way_251 ?_
    refine r_iald (pc := 252) ok ik_43 (by decide) dX11_way_252 (fun _ => ?_)
    exact r_iret (pc := 253) ok (Nat.zero_le _) (Nat.zero_le _) rfl dX11_way_253
  · refine r_iconst (pc := 144) ok 0 dX11_way_144 (by decide) ?_
    refine r_istore (pc := 145) ok [(6, .int 0), (0, .ref (gA g 22 0)), (2, .int vq2)] dX11_way_145 (by decide) rfl ?_
    refine r_iconst (pc := 147) ok 0 dX11_way_147 (by decide) ?_
    refine r_istore (pc := 148) ok [(7, .int 0), (6, .int 0), (0, .ref (gA g 22 0)), (2, .int vq2)] dX11_way_148 (by decide) rfl ?_
    refine r_lv [2, 3, 1, 0] [(0, .ref (gA g 22 0)), (2, .int vq2), (6, .int 0), (7, .int 0)] rfl ?_
    exact sX11_way_L150 ok vq2 hk139 FU 0 0 M
theorem sX11_way_L139 {g : GP} {l : Launch} {x : CT} (ok : Ok g l x RX11 cX11_way 8 (some FieldType.int) (rmL 6)) (vq2 : Int32)  : ∀ (n : Nat) (vq6 : Int32) (M : Mem), Sw g l x (FinQ g x eI) 8 0 0 139 [(0, .ref (gA g 22 0)), (2, .int vq2), (6, .int vq6)] [] M (fX11_way_L139 vq2 n vq6 M) := by
  intro n
  induction n with
  | zero => intros; exact r_none
  | succ n ih => intro vq6 M; exact sX11_way_B139 ok vq2  _ ih vq6 M
def fX11_way_J101 (k58 : Int32 → Mem → Option (Int32 × Mem)) (vq1 : Int32) (vq2 : Int32) (vq3 : Int32) (vq4 : Int32) (vq5 : Int32) (s0 : Int32) (s1 : Int32) (M : Mem) : Option (Int32 × Mem) :=
  gd (inb s1 36)
  (lt (mst M 42 0 s1.toNatClampNeg s0) fun M25 =>
  gd (inb vq5 36)
  (lt (mst M25 43 0 vq5.toNatClampNeg (-1)) fun M26 =>
  k58 (vq5 + 1) M26))
set_option maxRecDepth 20000 in
theorem sX11_way_J101 {g : GP} {l : Launch} {x : CT} {k58 : Int32 → Mem → Option (Int32 × Mem)} (ok : Ok g l x RX11 cX11_way 8 (some FieldType.int) (rmL 6)) (vq1 : Int32) (vq2 : Int32) (vq3 : Int32) (vq4 : Int32) (vq5 : Int32) (s0 : Int32) (s1 : Int32)  (hk58 : ∀ (vq5 : Int32) (M : Mem), Sw g l x (FinQ g x eI) 8 0 0 58 [(0, .ref (gA g 22 0)), (1, .int vq1), (2, .int vq2), (3, .int vq3), (4, .int vq4), (5, .int vq5)] [] M (k58 vq5 M)) (M : Mem) : Sw g l x (FinQ g x eI) 8 0 0 101 [(0, .ref (gA g 22 0)), (1, .int vq1), (2, .int vq2), (3, .int vq3), (4, .int vq4), (5, .int vq5)] [.int s0, .int s1, .ref (gA g 42 0)] M (fX11_way_J101 k58 vq1 vq2 vq3 vq4 vq5 s0 s1 M) := by
  unfold fX11_way_J101
  refine r_iast (pc := 101) ok ik_42 (by decide) dX11_way_101 ?_
  refine r_nmM (fun M25 => ?_)
  refine r_aload_n (pc := 102) ok 0 dX11_way_102 rfl ?_
  refine r_getR (pc := 103) ok fr_22_33 (by decide) fl_X11_70 dX11_way_103 ?_
  refine r_iload (pc := 106) ok 5 dX11_way_106 rfl ?_
  refine r_iconst (pc := 108) ok (-1) dX11_way_108 (by decide) ?_
  refine r_iast (pc := 109) ok ik_43 (by decide) dX11_way_109 ?_
  refine r_nmM (fun M26 => ?_)
  refine r_iinc (pc := 110) ok 5 (vq5 + 1) [(5, .int (vq5 + 1)), (0, .ref (gA g 22 0)), (1, .int vq1), (2, .int vq2), (3, .int vq3), (4, .int vq4)] dX11_way_110 rfl (congrArg (fun z => vq5 + z) (by decide : Int32.ofInt 1 = (1 : Int32))) (by decide) rfl ?_
  refine r_goto (pc := 113) ok 58 dX11_way_113 (by decide) ?_
  refine r_lv [1, 2, 3, 4, 5, 0] [(0, .ref (gA g 22 0)), (1, .int vq1), (2, .int vq2), (3, .int vq3), (4, .int vq4), (5, .int (vq5 + 1))] rfl ?_
  exact hk58 (vq5 + 1) M26
def fX11_way_B58 (vq1 : Int32) (vq2 : Int32) (vq3 : Int32) (vq4 : Int32) (k58 : Int32 → Mem → Option (Int32 × Mem)) (vq5 : Int32) (M : Mem) : Option (Int32 × Mem) :=
  if 36 ≤ vq5 then
    (lt (vq2 / 100) fun w9 =>
    gd (inb w9 36)
    (gd (inb w9 36)
    (lt (mst M 43 0 w9.toNatClampNeg (M 42 0 w9.toNatClampNeg)) fun M10 =>
    fX11_way_L139 vq2 FU 1 M10)))
  else
    (ob (fX11_feelsOf vq1 vq5 M) fun r23 M24 =>
    if vq4 = 0 then
      (fX11_way_J101 k58 vq1 vq2 vq3 vq4 vq5 r23 vq5 M24)
    else
      (if vq3 < r23 then
        (fX11_way_J101 k58 vq1 vq2 vq3 vq4 vq5 (-1) vq5 M24)
      else
        (fX11_way_J101 k58 vq1 vq2 vq3 vq4 vq5 1 vq5 M24)))
def fX11_way_L58 (vq1 : Int32) (vq2 : Int32) (vq3 : Int32) (vq4 : Int32) : Nat → Int32 → Mem → Option (Int32 × Mem)
  | 0, _, _ => none
  | n + 1, vq5, M => fX11_way_B58 vq1 vq2 vq3 vq4 (fX11_way_L58 vq1 vq2 vq3 vq4 n) vq5 M
set_option maxRecDepth 20000 in
theorem sX11_way_B58 {g : GP} {l : Launch} {x : CT} (ok : Ok g l x RX11 cX11_way 8 (some FieldType.int) (rmL 6)) (vq1 : Int32) (vq2 : Int32) (vq3 : Int32) (vq4 : Int32)  (k58 : Int32 → Mem → Option (Int32 × Mem)) (hk58 : ∀ (vq5 : Int32) (M : Mem), Sw g l x (FinQ g x eI) 8 0 0 58 [(0, .ref (gA g 22 0)), (1, .int vq1), (2, .int vq2), (3, .int vq3), (4, .int vq4), (5, .int vq5)] [] M (k58 vq5 M)) (vq5 : Int32) (M : Mem) : Sw g l x (FinQ g x eI) 8 0 0 58 [(0, .ref (gA g 22 0)), (1, .int vq1), (2, .int vq2), (3, .int vq3), (4, .int vq4), (5, .int vq5)] [] M (fX11_way_B58 vq1 vq2 vq3 vq4 k58 vq5 M) := by
  unfold fX11_way_B58
  refine r_iload (pc := 58) ok 5 dX11_way_58 rfl ?_
  refine r_bipush (pc := 60) ok 36 dX11_way_60 (by decide) ?_
  refine r_icmp_ge (pc := 62) ok 116 dX11_way_62 (by decide) (fun _ => ?_) (fun _ => ?_)
  · refine r_iload_n (pc := 116) ok 2 dX11_way_116 rfl ?_
    refine r_bipush (pc := 117) ok 100 dX11_way_117 (by decide) ?_
    refine r_idivc (pc := 119) ok (by decide) dX11_way_119 ?_
    refine r_nmi (fun w9 => ?_)
    refine r_istore (pc := 120) ok [(5, .int w9), (0, .ref (gA g 22 0)), (1, .int vq1), (2, .int vq2), (3, .int vq3), (4, .int vq4)] dX11_way_120 (by decide) rfl ?_
    refine r_aload_n (pc := 122) ok 1 dX11_way_122 rfl ?_
    refine r_getR (pc := 123) ok fr_22_33 (by decide) fl_X11_70 dX11_way_123 ?_
    refine r_iload (pc := 126) ok 0 dX11_way_126 rfl ?_
    refine r_aload_n (pc := 128) ok 1 dX11_way_128 rfl ?_
    refine r_getR (pc := 129) ok fr_22_32 (by decide) fl_X11_67 dX11_way_129 ?_
    refine r_iload (pc := 132) ok 0 dX11_way_132 rfl ?_
    refine r_iald (pc := 134) ok ik_42 (by decide) dX11_way_134 (fun _ => ?_)
    refine r_iast (pc := 135) ok ik_43 (by decide) dX11_way_135 ?_
    refine r_nmM (fun M10 => ?_)
    refine r_iconst (pc := 136) ok 1 dX11_way_136 (by decide) ?_
    refine r_istore (pc := 137) ok [(6, .int 1), (5, .int w9), (0, .ref (gA g 22 0)), (1, .int vq1), (2, .int vq2), (3, .int vq3), (4, .int vq4)] dX11_way_137 (by decide) rfl ?_
    refine r_lv [2, 4, 0] [(0, .ref (gA g 22 0)), (2, .int vq2), (6, .int 1)] rfl ?_
    exact sX11_way_L139 ok vq2 FU 1 M10
  · refine r_aload_n (pc := 65) ok 0 dX11_way_65 rfl ?_
    refine r_iload_n (pc := 66) ok 1 dX11_way_66 rfl ?_
    refine r_iload (pc := 67) ok 5 dX11_way_67 rfl ?_
    refine r_callV0 (pc := 69) ok [.int vq1, .int vq5] [] 5 (fun rZ MZ hZ => con_X11_feelsOf g l vq1 vq5 _ rZ MZ hZ) cv_X11_203 ok_22 (rmOk_L (by decide) (by decide)) dX11_way_69 rfl rfl (Nat.le_of_ble_eq_true rfl) (fun r23 M24 => ?_)
    refine r_istore (pc := 72) ok [(6, .int r23), (0, .ref (gA g 22 0)), (1, .int vq1), (2, .int vq2), (3, .int vq3), (4, .int vq4), (5, .int vq5)] dX11_way_72 (by decide) rfl ?_
    refine r_aload_n (pc := 74) ok 1 dX11_way_74 rfl ?_
    refine r_getR (pc := 75) ok fr_22_32 (by decide) fl_X11_67 dX11_way_75 ?_
    refine r_iload (pc := 78) ok 6 dX11_way_78 rfl ?_
    refine r_iload (pc := 80) ok 5 dX11_way_80 rfl ?_
    refine r_if_ne (pc := 82) ok 90 dX11_way_82 (by decide) (fun _ => ?_) (fun _ => ?_)
    · refine r_iload (pc := 85) ok 0 dX11_way_85 rfl ?_
      refine r_goto (pc := 87) ok 101 dX11_way_87 (by decide) ?_
      refine r_lv [1, 2, 3, 4, 5, 6] [(0, .ref (gA g 22 0)), (1, .int vq1), (2, .int vq2), (3, .int vq3), (4, .int vq4), (5, .int vq5)] rfl ?_
      exact sX11_way_J101 ok vq1 vq2 vq3 vq4 vq5 r23 vq5 hk58 M24
    · refine r_iload (pc := 90) ok 0 dX11_way_90 rfl ?_
      refine r_iload_n (pc := 92) ok 4 dX11_way_92 rfl ?_
      refine r_icmp_gt (pc := 93) ok 100 dX11_way_93 (by decide) (fun _ => ?_) (fun _ => ?_)
      · refine r_iconst (pc := 100) ok (-1) dX11_way_100 (by decide) ?_
        refine r_lv [1, 2, 3, 4, 5, 6] [(0, .ref (gA g 22 0)), (1, .int vq1), (2, .int vq2), (3, .int vq3), (4, .int vq4), (5, .int vq5)] rfl ?_
        exact sX11_way_J101 ok vq1 vq2 vq3 vq4 vq5 (-1) vq5 hk58 M24
      · refine r_iconst (pc := 96) ok 1 dX11_way_96 (by decide) ?_
        refine r_goto (pc := 97) ok 101 dX11_way_97 (by decide) ?_
        refine r_lv [1, 2, 3, 4, 5, 6] [(0, .ref (gA g 22 0)), (1, .int vq1), (2, .int vq2), (3, .int vq3), (4, .int vq4), (5, .int vq5)] rfl ?_
        exact sX11_way_J101 ok vq1 vq2 vq3 vq4 vq5 1 vq5 hk58 M24
theorem sX11_way_L58 {g : GP} {l : Launch} {x : CT} (ok : Ok g l x RX11 cX11_way 8 (some FieldType.int) (rmL 6)) (vq1 : Int32) (vq2 : Int32) (vq3 : Int32) (vq4 : Int32)  : ∀ (n : Nat) (vq5 : Int32) (M : Mem), Sw g l x (FinQ g x eI) 8 0 0 58 [(0, .ref (gA g 22 0)), (1, .int vq1), (2, .int vq2), (3, .int vq3), (4, .int vq4), (5, .int vq5)] [] M (fX11_way_L58 vq1 vq2 vq3 vq4 n vq5 M) := by
  intro n
  induction n with
  | zero => intros; exact r_none
  | succ n ih => intro vq5 M; exact sX11_way_B58 ok vq1 vq2 vq3 vq4  _ ih vq5 M
def fX11_way (vq1 : Int32) (vq2 : Int32) (vq3 : Int32) (vq4 : Int32) (M : Mem) : Option (Int32 × Mem) :=
  ob (fX11_isOne vq1 M) fun r1 M2 =>
  if r1 = 0 then
    (some (-5, M2))
  else
    (ob (fX11_in vq2 0 3535 M2) fun r3 M4 =>
    if r3 = 0 then
      (some (-7, M4))
    else
      (if 36 ≤ (irem vq2 100) then
        (some (-7, M4))
      else
        (ob (fX11_in vq3 0 999 M4) fun r5 M6 =>
        if r5 = 0 then
          (some (-7, M6))
        else
          (ob (fX11_in vq4 0 1 M6) fun r7 M8 =>
          if r7 = 0 then
            (some (-7, M8))
          else
            (fX11_way_L58 vq1 vq2 vq3 vq4 FU 0 M8)))))
set_option maxRecDepth 20000 in
theorem wX11_way {g : GP} {l : Launch} {x : CT} (ok : Ok g l x RX11 cX11_way 8 (some FieldType.int) (rmL 6)) (vq1 : Int32) (vq2 : Int32) (vq3 : Int32) (vq4 : Int32)  (M : Mem) : Sw g l x (FinQ g x eI) 8 0 0 0 [(0, .ref (gA g 22 0)), (1, .int vq1), (2, .int vq2), (3, .int vq3), (4, .int vq4)] [] M (fX11_way vq1 vq2 vq3 vq4 M) := by
  unfold fX11_way
  refine r_aload_n (pc := 0) ok 0 dX11_way_0 rfl ?_
  refine r_iload_n (pc := 1) ok 1 dX11_way_1 rfl ?_
  refine r_callV0 (pc := 2) ok [.int vq1] [] 3 (fun rZ MZ hZ => con_X11_isOne g l vq1 _ rZ MZ hZ) cv_X11_176 ok_22 (rmOk_L (by decide) (by decide)) dX11_way_2 rfl rfl (Nat.le_of_ble_eq_true rfl) (fun r1 M2 => ?_)
  refine r_if_ne (pc := 5) ok 11 dX11_way_5 (by decide) (fun _ => ?_) (fun _ => ?_)
  · refine r_bipush (pc := 8) ok (-5) dX11_way_8 (by decide) ?_
    exact r_iret (pc := 10) ok (Nat.zero_le _) (Nat.zero_le _) rfl dX11_way_10
  · refine r_iload_n (pc := 11) ok 2 dX11_way_11 rfl ?_
    refine r_iconst (pc := 12) ok 0 dX11_way_12 (by decide) ?_
    refine r_sipush (pc := 13) ok 3535 dX11_way_13 (by decide) ?_
    refine r_callS0 (pc := 16) ok [.int vq2, .int 0, .int 3535] [] 2 (fun rZ MZ hZ => con_X11_in g l vq2 0 3535 _ rZ MZ hZ) cs_X11_84 (rmOk_L (by decide) (by decide)) dX11_way_16 rfl rfl (Nat.le_of_ble_eq_true rfl) (fun r3 M4 => ?_)
    refine r_if_eq (pc := 19) ok 52 dX11_way_19 (by decide) (fun _ => ?_) (fun _ => ?_)
    · refine r_bipush (pc := 52) ok (-7) dX11_way_52 (by decide) ?_
      exact r_iret (pc := 54) ok (Nat.zero_le _) (Nat.zero_le _) rfl dX11_way_54
    · refine r_iload_n (pc := 22) ok 2 dX11_way_22 rfl ?_
      refine r_bipush (pc := 23) ok 100 dX11_way_23 (by decide) ?_
      refine r_iremc (pc := 25) ok (by decide) dX11_way_25 ?_
      refine r_bipush (pc := 26) ok 36 dX11_way_26 (by decide) ?_
      refine r_icmp_ge (pc := 28) ok 52 dX11_way_28 (by decide) (fun _ => ?_) (fun _ => ?_)
      · refine r_bipush (pc := 52) ok (-7) dX11_way_52 (by decide) ?_
        exact r_iret (pc := 54) ok (Nat.zero_le _) (Nat.zero_le _) rfl dX11_way_54
      · refine r_iload_n (pc := 31) ok 3 dX11_way_31 rfl ?_
        refine r_iconst (pc := 32) ok 0 dX11_way_32 (by decide) ?_
        refine r_sipush (pc := 33) ok 999 dX11_way_33 (by decide) ?_
        refine r_callS0 (pc := 36) ok [.int vq3, .int 0, .int 999] [] 2 (fun rZ MZ hZ => con_X11_in g l vq3 0 999 _ rZ MZ hZ) cs_X11_84 (rmOk_L (by decide) (by decide)) dX11_way_36 rfl rfl (Nat.le_of_ble_eq_true rfl) (fun r5 M6 => ?_)
        refine r_if_eq (pc := 39) ok 52 dX11_way_39 (by decide) (fun _ => ?_) (fun _ => ?_)
        · refine r_bipush (pc := 52) ok (-7) dX11_way_52 (by decide) ?_
          exact r_iret (pc := 54) ok (Nat.zero_le _) (Nat.zero_le _) rfl dX11_way_54
        · refine r_iload (pc := 42) ok 4 dX11_way_42 rfl ?_
          refine r_iconst (pc := 44) ok 0 dX11_way_44 (by decide) ?_
          refine r_iconst (pc := 45) ok 1 dX11_way_45 (by decide) ?_
          refine r_callS0 (pc := 46) ok [.int vq4, .int 0, .int 1] [] 2 (fun rZ MZ hZ => con_X11_in g l vq4 0 1 _ rZ MZ hZ) cs_X11_84 (rmOk_L (by decide) (by decide)) dX11_way_46 rfl rfl (Nat.le_of_ble_eq_true rfl) (fun r7 M8 => ?_)
          refine r_if_ne (pc := 49) ok 55 dX11_way_49 (by decide) (fun _ => ?_) (fun _ => ?_)
          · refine r_bipush (pc := 52) ok (-7) dX11_way_52 (by decide) ?_
            exact r_iret (pc := 54) ok (Nat.zero_le _) (Nat.zero_le _) rfl dX11_way_54
          · refine r_iconst (pc := 55) ok 0 dX11_way_55 (by decide) ?_
            refine r_istore (pc := 56) ok [(5, .int 0), (0, .ref (gA g 22 0)), (1, .int vq1), (2, .int vq2), (3, .int vq3), (4, .int vq4)] dX11_way_56 (by decide) rfl ?_
            refine r_lv [1, 2, 3, 4, 5, 0] [(0, .ref (gA g 22 0)), (1, .int vq1), (2, .int vq2), (3, .int vq3), (4, .int vq4), (5, .int 0)] rfl ?_
            exact sX11_way_L58 ok vq1 vq2 vq3 vq4 FU 0 M8
theorem con_X11_way (g : GP) (l : Launch) (vq1 : Int32) (vq2 : Int32) (vq3 : Int32) (vq4 : Int32)  (M : Mem) (r : Int32) (M2 : Mem) (h : fX11_way vq1 vq2 vq3 vq4 M = some (r, M2)) : Con g l yX11_way cX11_way 8 (some FieldType.int) (rmL 6) [.ref (gA g 22 0), .int vq1, .int vq2, .int vq3, .int vq4] M (eI r) M2 :=
  Con.of (own := RX11) (f := fX11_way vq1 vq2 vq3 vq4 M) (by decide) (Nat.le_of_ble_eq_true rfl) rfl (fun x ok => wX11_way ok vq1 vq2 vq3 vq4  M) r M2 h
def fX11_room_J46 (s0 : Int32) (M : Mem) : Option (Int32 × Mem) :=
  ob (fX11_outermost s0 M) fun r5 M6 =>
  some (r5, M6)
set_option maxRecDepth 20000 in
theorem sX11_room_J46 {g : GP} {l : Launch} {x : CT} (ok : Ok g l x RX11 cX11_room 3 (some FieldType.int) (rmL 6)) (s0 : Int32)  (M : Mem) : Sw g l x (FinQ g x eI) 3 0 0 46 [] [.int s0, .ref (gA g 22 0)] M (fX11_room_J46 s0 M) := by
  unfold fX11_room_J46
  refine r_callV0 (pc := 46) ok [.int s0] [] 3 (fun rZ MZ hZ => con_X11_outermost g l s0 _ rZ MZ hZ) cv_X11_231 ok_22 (rmOk_L (by decide) (by decide)) dX11_room_46 rfl rfl (Nat.le_of_ble_eq_true rfl) (fun r5 M6 => ?_)
  exact r_iret (pc := 49) ok (Nat.zero_le _) (Nat.zero_le _) rfl dX11_room_49
def fX11_room (vq1 : Int32) (vq2 : Int32) (M : Mem) : Option (Int32 × Mem) :=
  ob (fX11_in vq1 0 999 M) fun r1 M2 =>
  if r1 = 0 then
    (some (-2, M2))
  else
    (ob (fX11_in vq2 0 2 M2) fun r3 M4 =>
    if r3 = 0 then
      (some (-2, M4))
    else
      (if vq2 = 2 then
        (ob (fX11_heapsOf vq1 M4) fun r7 M8 =>
        some (r7, M8))
      else
        (if vq2 = 0 then
          (fX11_room_J46 1 M4)
        else
          (fX11_room_J46 0 M4))))
set_option maxRecDepth 20000 in
theorem wX11_room {g : GP} {l : Launch} {x : CT} (ok : Ok g l x RX11 cX11_room 3 (some FieldType.int) (rmL 6)) (vq1 : Int32) (vq2 : Int32)  (M : Mem) : Sw g l x (FinQ g x eI) 3 0 0 0 [(0, .ref (gA g 22 0)), (1, .int vq1), (2, .int vq2)] [] M (fX11_room vq1 vq2 M) := by
  unfold fX11_room
  refine r_iload_n (pc := 0) ok 1 dX11_room_0 rfl ?_
  refine r_iconst (pc := 1) ok 0 dX11_room_1 (by decide) ?_
  refine r_sipush (pc := 2) ok 999 dX11_room_2 (by decide) ?_
  refine r_callS0 (pc := 5) ok [.int vq1, .int 0, .int 999] [] 2 (fun rZ MZ hZ => con_X11_in g l vq1 0 999 _ rZ MZ hZ) cs_X11_84 (rmOk_L (by decide) (by decide)) dX11_room_5 rfl rfl (Nat.le_of_ble_eq_true rfl) (fun r1 M2 => ?_)
  refine r_if_eq (pc := 8) ok 20 dX11_room_8 (by decide) (fun _ => ?_) (fun _ => ?_)
  · refine r_bipush (pc := 20) ok (-2) dX11_room_20 (by decide) ?_
    exact r_iret (pc := 22) ok (Nat.zero_le _) (Nat.zero_le _) rfl dX11_room_22
  · refine r_iload_n (pc := 11) ok 2 dX11_room_11 rfl ?_
    refine r_iconst (pc := 12) ok 0 dX11_room_12 (by decide) ?_
    refine r_iconst (pc := 13) ok 2 dX11_room_13 (by decide) ?_
    refine r_callS0 (pc := 14) ok [.int vq2, .int 0, .int 2] [] 2 (fun rZ MZ hZ => con_X11_in g l vq2 0 2 _ rZ MZ hZ) cs_X11_84 (rmOk_L (by decide) (by decide)) dX11_room_14 rfl rfl (Nat.le_of_ble_eq_true rfl) (fun r3 M4 => ?_)
    refine r_if_ne (pc := 17) ok 23 dX11_room_17 (by decide) (fun _ => ?_) (fun _ => ?_)
    · refine r_bipush (pc := 20) ok (-2) dX11_room_20 (by decide) ?_
      exact r_iret (pc := 22) ok (Nat.zero_le _) (Nat.zero_le _) rfl dX11_room_22
    · refine r_iload_n (pc := 23) ok 2 dX11_room_23 rfl ?_
      refine r_iconst (pc := 24) ok 2 dX11_room_24 (by decide) ?_
      refine r_icmp_ne (pc := 25) ok 36 dX11_room_25 (by decide) (fun _ => ?_) (fun _ => ?_)
      · refine r_aload_n (pc := 28) ok 0 dX11_room_28 rfl ?_
        refine r_iload_n (pc := 29) ok 1 dX11_room_29 rfl ?_
        refine r_callV0 (pc := 30) ok [.int vq1] [] 5 (fun rZ MZ hZ => con_X11_heapsOf g l vq1 _ rZ MZ hZ) cv_X11_228 ok_22 (rmOk_L (by decide) (by decide)) dX11_room_30 rfl rfl (Nat.le_of_ble_eq_true rfl) (fun r7 M8 => ?_)
        refine r_goto (pc := 33) ok 49 dX11_room_33 (by decide) ?_
        exact r_iret (pc := 49) ok (Nat.zero_le _) (Nat.zero_le _) rfl dX11_room_49
      · refine r_aload_n (pc := 36) ok 0 dX11_room_36 rfl ?_
        refine r_iload_n (pc := 37) ok 2 dX11_room_37 rfl ?_
        refine r_if_ne (pc := 38) ok 45 dX11_room_38 (by decide) (fun _ => ?_) (fun _ => ?_)
        · refine r_iconst (pc := 41) ok 1 dX11_room_41 (by decide) ?_
          refine r_goto (pc := 42) ok 46 dX11_room_42 (by decide) ?_
          refine r_lv [] [] rfl ?_
          exact sX11_room_J46 ok 1 M4
        · refine r_iconst (pc := 45) ok 0 dX11_room_45 (by decide) ?_
          refine r_lv [] [] rfl ?_
          exact sX11_room_J46 ok 0 M4
theorem con_X11_room (g : GP) (l : Launch) (vq1 : Int32) (vq2 : Int32)  (M : Mem) (r : Int32) (M2 : Mem) (h : fX11_room vq1 vq2 M = some (r, M2)) : Con g l yX11_room cX11_room 3 (some FieldType.int) (rmL 6) [.ref (gA g 22 0), .int vq1, .int vq2] M (eI r) M2 :=
  Con.of (own := RX11) (f := fX11_room vq1 vq2 M) (by decide) (Nat.le_of_ble_eq_true rfl) rfl (fun x ok => wX11_room ok vq1 vq2  M) r M2 h
def fX5_felt (iq0 : Nat) (vq1 : Int32) (vq2 : Int32) (M : Mem) : Option (Int32 × Mem) :=
  ob (fX5_kindOf iq0 vq1 M) fun r1 M2 =>
  ob (fX5_said iq0 2 vq1 vq2 M2) fun r3 M4 =>
  gd (inb 3 4)
  (gd (inb vq1 6)
  (ob (fP_feels r1 r3 (M4 18 (4 * iq0 + (3 : Int32).toNatClampNeg) vq1.toNatClampNeg) M4) fun r6 M7 =>
  some (r6, M7)))
set_option maxRecDepth 20000 in
theorem wX5_felt {g : GP} {l : Launch} {x : CT} (ok : Ok g l x RX5 cX5_felt 3 (some FieldType.int) (rmL 6)) (iq0 : Nat) (vq1 : Int32) (vq2 : Int32) (hq0 : iq0 < 3) (M : Mem) : Sw g l x (FinQ g x eI) 3 0 0 0 [(0, .ref (gA g 15 iq0)), (1, .int vq1), (2, .int vq2)] [] M (fX5_felt iq0 vq1 vq2 M) := by
  unfold fX5_felt
  refine r_aload_n (pc := 0) ok 0 dX5_felt_0 rfl ?_
  refine r_iload_n (pc := 1) ok 1 dX5_felt_1 rfl ?_
  refine r_callV0 (pc := 2) ok [.int vq1] [] 2 (fun rZ MZ hZ => con_X5_kindOf g l iq0 vq1 hq0 _ rZ MZ hZ) cv_X5_67 (ok_15 hq0) (rmOk_L (by decide) (by decide)) dX5_felt_2 rfl rfl (Nat.le_of_ble_eq_true rfl) (fun r1 M2 => ?_)
  refine r_aload_n (pc := 5) ok 0 dX5_felt_5 rfl ?_
  refine r_iconst (pc := 6) ok 2 dX5_felt_6 (by decide) ?_
  refine r_iload_n (pc := 7) ok 1 dX5_felt_7 rfl ?_
  refine r_iload_n (pc := 8) ok 2 dX5_felt_8 rfl ?_
  refine r_callV0 (pc := 9) ok [.int 2, .int vq1, .int vq2] [.ref (gA g 12 r1)] 4 (fun rZ MZ hZ => con_X5_said g l iq0 2 vq1 vq2 hq0 _ rZ MZ hZ) cv_X5_71 (ok_15 hq0) (rmOk_L (by decide) (by decide)) dX5_felt_9 rfl rfl (Nat.le_of_ble_eq_true rfl) (fun r3 M4 => ?_)
  refine r_aload_n (pc := 12) ok 0 dX5_felt_12 rfl ?_
  refine r_getR (pc := 13) ok fr_15_3 hq0 fl_X5_17 dX5_felt_13 ?_
  refine r_iconst (pc := 16) ok 3 dX5_felt_16 (by decide) ?_
  refine r_aald (pc := 17) ok rk_17 hq0 rfl rfl dX5_felt_17 (fun hb5 => ?_)
  refine r_iload_n (pc := 18) ok 1 dX5_felt_18 rfl ?_
  refine r_iald (pc := 19) ok ik_18 (show _ < 12 from trow_lt hq0 hb5) dX5_felt_19 (fun _ => ?_)
  refine r_callP_feels (pc := 20) ok [.int r3, .int (M4 18 (4 * iq0 + (3 : Int32).toNatClampNeg) vq1.toNatClampNeg)] [] (by decide) dX5_felt_20 rfl rfl (Nat.le_of_ble_eq_true rfl) (fun r6 M7 => ?_)
  exact r_iret (pc := 23) ok (Nat.zero_le _) (Nat.zero_le _) rfl dX5_felt_23
theorem con_X5_felt (g : GP) (l : Launch) (iq0 : Nat) (vq1 : Int32) (vq2 : Int32) (hq0 : iq0 < 3) (M : Mem) (r : Int32) (M2 : Mem) (h : fX5_felt iq0 vq1 vq2 M = some (r, M2)) : Con g l yX5_felt cX5_felt 3 (some FieldType.int) (rmL 6) [.ref (gA g 15 iq0), .int vq1, .int vq2] M (eI r) M2 :=
  Con.of (own := RX5) (f := fX5_felt iq0 vq1 vq2 M) (by decide) (Nat.le_of_ble_eq_true rfl) rfl (fun x ok => wX5_felt ok iq0 vq1 vq2 hq0 M) r M2 h
def fX5_wear (iq0 : Nat) (vq1 : Int32) (vq2 : Int32) (M : Mem) : Option (Int32 × Mem) :=
  ob (fX5_kindOf iq0 vq1 M) fun r1 M2 =>
  ob (fX5_said iq0 1 vq1 vq2 M2) fun r3 M4 =>
  gd (inb 3 4)
  (gd (inb vq1 6)
  (gd (inb vq2 36)
  (ob (fP_wears r1 r3 (M4 18 (4 * iq0 + (3 : Int32).toNatClampNeg) vq1.toNatClampNeg) (M4 16 iq0 vq2.toNatClampNeg) M4) fun r6 M7 =>
  gd (inb vq2 36)
  (lt (mmin (M7 16 iq0 vq2.toNatClampNeg) r6) fun w8 =>
  gd (inb vq2 36)
  (gd (inb vq2 36)
  (lt (mst M7 16 iq0 vq2.toNatClampNeg ((M7 16 iq0 vq2.toNatClampNeg) - w8)) fun M9 =>
  some (w8, M9)))))))
set_option maxRecDepth 20000 in
theorem wX5_wear {g : GP} {l : Launch} {x : CT} (ok : Ok g l x RX5 cX5_wear 5 (some FieldType.int) (rmL 6)) (iq0 : Nat) (vq1 : Int32) (vq2 : Int32) (hq0 : iq0 < 3) (M : Mem) : Sw g l x (FinQ g x eI) 5 0 0 0 [(0, .ref (gA g 15 iq0)), (1, .int vq1), (2, .int vq2)] [] M (fX5_wear iq0 vq1 vq2 M) := by
  unfold fX5_wear
  refine r_aload_n (pc := 0) ok 0 dX5_wear_0 rfl ?_
  refine r_iload_n (pc := 1) ok 1 dX5_wear_1 rfl ?_
  refine r_callV0 (pc := 2) ok [.int vq1] [] 2 (fun rZ MZ hZ => con_X5_kindOf g l iq0 vq1 hq0 _ rZ MZ hZ) cv_X5_67 (ok_15 hq0) (rmOk_L (by decide) (by decide)) dX5_wear_2 rfl rfl (Nat.le_of_ble_eq_true rfl) (fun r1 M2 => ?_)
  refine r_aload_n (pc := 5) ok 0 dX5_wear_5 rfl ?_
  refine r_iconst (pc := 6) ok 1 dX5_wear_6 (by decide) ?_
  refine r_iload_n (pc := 7) ok 1 dX5_wear_7 rfl ?_
  refine r_iload_n (pc := 8) ok 2 dX5_wear_8 rfl ?_
  refine r_callV0 (pc := 9) ok [.int 1, .int vq1, .int vq2] [.ref (gA g 12 r1)] 4 (fun rZ MZ hZ => con_X5_said g l iq0 1 vq1 vq2 hq0 _ rZ MZ hZ) cv_X5_71 (ok_15 hq0) (rmOk_L (by decide) (by decide)) dX5_wear_9 rfl rfl (Nat.le_of_ble_eq_true rfl) (fun r3 M4 => ?_)
  refine r_aload_n (pc := 12) ok 0 dX5_wear_12 rfl ?_
  refine r_getR (pc := 13) ok fr_15_3 hq0 fl_X5_17 dX5_wear_13 ?_
  refine r_iconst (pc := 16) ok 3 dX5_wear_16 (by decide) ?_
  refine r_aald (pc := 17) ok rk_17 hq0 rfl rfl dX5_wear_17 (fun hb5 => ?_)
  refine r_iload_n (pc := 18) ok 1 dX5_wear_18 rfl ?_
  refine r_iald (pc := 19) ok ik_18 (show _ < 12 from trow_lt hq0 hb5) dX5_wear_19 (fun _ => ?_)
  refine r_aload_n (pc := 20) ok 0 dX5_wear_20 rfl ?_
  refine r_getR (pc := 21) ok fr_15_2 hq0 fl_X5_9 dX5_wear_21 ?_
  refine r_iload_n (pc := 24) ok 2 dX5_wear_24 rfl ?_
  refine r_iald (pc := 25) ok ik_16 hq0 dX5_wear_25 (fun _ => ?_)
  refine r_callP_wears (pc := 26) ok [.int r3, .int (M4 18 (4 * iq0 + (3 : Int32).toNatClampNeg) vq1.toNatClampNeg), .int (M4 16 iq0 vq2.toNatClampNeg)] [] (by decide) dX5_wear_26 rfl rfl (Nat.le_of_ble_eq_true rfl) (fun r6 M7 => ?_)
  refine r_istore_n (pc := 29) ok [(3, .int r6), (0, .ref (gA g 15 iq0)), (1, .int vq1), (2, .int vq2)] dX5_wear_29 rfl (by decide) rfl ?_
  refine r_aload_n (pc := 30) ok 1 dX5_wear_30 rfl ?_
  refine r_getR (pc := 31) ok fr_15_2 hq0 fl_X5_9 dX5_wear_31 ?_
  refine r_iload_n (pc := 34) ok 3 dX5_wear_34 rfl ?_
  refine r_iald (pc := 35) ok ik_16 hq0 dX5_wear_35 (fun _ => ?_)
  refine r_iload_n (pc := 36) ok 0 dX5_wear_36 rfl ?_
  refine r_mmin (pc := 37) ok wml_X5_84 wst_mmin win_Math wcd_mmin (rmM (by decide)) (Nat.le_of_ble_eq_true rfl) dX5_wear_37 ?_
  refine r_nmi (fun w8 => ?_)
  refine r_istore (pc := 40) ok [(4, .int w8), (3, .int r6), (0, .ref (gA g 15 iq0)), (1, .int vq1), (2, .int vq2)] dX5_wear_40 (by decide) rfl ?_
  refine r_aload_n (pc := 42) ok 2 dX5_wear_42 rfl ?_
  refine r_getR (pc := 43) ok fr_15_2 hq0 fl_X5_9 dX5_wear_43 ?_
  refine r_iload_n (pc := 46) ok 4 dX5_wear_46 rfl ?_
  refine r_dup2 (pc := 47) ok dX5_wear_47 rfl rfl ?_
  refine r_iald (pc := 48) ok ik_16 hq0 dX5_wear_48 (fun _ => ?_)
  refine r_iload (pc := 49) ok 0 dX5_wear_49 rfl ?_
  refine r_isub (pc := 51) ok dX5_wear_51 ?_
  refine r_iast (pc := 52) ok ik_16 hq0 dX5_wear_52 ?_
  refine r_nmM (fun M9 => ?_)
  refine r_iload (pc := 53) ok 0 dX5_wear_53 rfl ?_
  exact r_iret (pc := 55) ok (Nat.zero_le _) (Nat.zero_le _) rfl dX5_wear_55
theorem con_X5_wear (g : GP) (l : Launch) (iq0 : Nat) (vq1 : Int32) (vq2 : Int32) (hq0 : iq0 < 3) (M : Mem) (r : Int32) (M2 : Mem) (h : fX5_wear iq0 vq1 vq2 M = some (r, M2)) : Con g l yX5_wear cX5_wear 5 (some FieldType.int) (rmL 6) [.ref (gA g 15 iq0), .int vq1, .int vq2] M (eI r) M2 :=
  Con.of (own := RX5) (f := fX5_wear iq0 vq1 vq2 M) (by decide) (Nat.le_of_ble_eq_true rfl) rfl (fun x ok => wX5_wear ok iq0 vq1 vq2 hq0 M) r M2 h
def fX5_leftOn (iq0 : Nat) (vq1 : Int32) (vq2 : Int32) (M : Mem) : Option (Int32 × Mem) :=
  gd (inb 0 4)
  (gd (inb vq1 6)
  (lt (M 18 (4 * iq0 + (0 : Int32).toNatClampNeg) vq1.toNatClampNeg) fun w2 =>
  ob (fX10_apart w2 vq2 M) fun r3 M4 =>
  if r3 ≤ 1 then
    (ob (fX5_kindOf iq0 vq1 M4) fun r5 M6 =>
    ob (fX5_said iq0 0 vq1 w2 M6) fun r7 M8 =>
    gd (inb 3 4)
    (gd (inb vq1 6)
    (ob (fP_drops r5 r3 r7 (M8 18 (4 * iq0 + (3 : Int32).toNatClampNeg) vq1.toNatClampNeg) M8) fun r10 M11 =>
    some (r10, M11))))
  else
    (some (0, M4))))
set_option maxRecDepth 20000 in
theorem wX5_leftOn {g : GP} {l : Launch} {x : CT} (ok : Ok g l x RX5 cX5_leftOn 5 (some FieldType.int) (rmL 6)) (iq0 : Nat) (vq1 : Int32) (vq2 : Int32) (hq0 : iq0 < 3) (M : Mem) : Sw g l x (FinQ g x eI) 5 0 0 0 [(0, .ref (gA g 15 iq0)), (1, .int vq1), (2, .int vq2)] [] M (fX5_leftOn iq0 vq1 vq2 M) := by
  unfold fX5_leftOn
  refine r_aload_n (pc := 0) ok 0 dX5_leftOn_0 rfl ?_
  refine r_getR (pc := 1) ok fr_15_3 hq0 fl_X5_17 dX5_leftOn_1 ?_
  refine r_iconst (pc := 4) ok 0 dX5_leftOn_4 (by decide) ?_
  refine r_aald (pc := 5) ok rk_17 hq0 rfl rfl dX5_leftOn_5 (fun hb1 => ?_)
  refine r_iload_n (pc := 6) ok 1 dX5_leftOn_6 rfl ?_
  refine r_iald (pc := 7) ok ik_18 (show _ < 12 from trow_lt hq0 hb1) dX5_leftOn_7 (fun _ => ?_)
  refine r_nmi (fun w2 => ?_)
  refine r_istore_n (pc := 8) ok [(3, .int w2), (0, .ref (gA g 15 iq0)), (1, .int vq1), (2, .int vq2)] dX5_leftOn_8 rfl (by decide) rfl ?_
  refine r_iload_n (pc := 9) ok 0 dX5_leftOn_9 rfl ?_
  refine r_iload_n (pc := 10) ok 3 dX5_leftOn_10 rfl ?_
  refine r_callSN0 (pc := 11) ok [.int w2, .int vq2] [] 2 (fun rZ MZ hZ => con_X10_apart g l w2 vq2 _ rZ MZ hZ) csN_X5_89 (rmOk_L (by decide) (by decide)) dX5_leftOn_11 rfl rfl (Nat.le_of_ble_eq_true rfl) (fun r3 M4 => ?_)
  refine r_istore (pc := 14) ok [(4, .int r3), (3, .int w2), (0, .ref (gA g 15 iq0)), (1, .int vq1), (2, .int vq2)] dX5_leftOn_14 (by decide) rfl ?_
  refine r_iload (pc := 16) ok 0 dX5_leftOn_16 rfl ?_
  refine r_iconst (pc := 18) ok 1 dX5_leftOn_18 (by decide) ?_
  refine r_icmp_le (pc := 19) ok 24 dX5_leftOn_19 (by decide) (fun _ => ?_) (fun _ => ?_)
  · refine r_aload_n (pc := 24) ok 2 dX5_leftOn_24 rfl ?_
    refine r_iload_n (pc := 25) ok 3 dX5_leftOn_25 rfl ?_
    refine r_callV0 (pc := 26) ok [.int vq1] [] 2 (fun rZ MZ hZ => con_X5_kindOf g l iq0 vq1 hq0 _ rZ MZ hZ) cv_X5_67 (ok_15 hq0) (rmOk_L (by decide) (by decide)) dX5_leftOn_26 rfl rfl (Nat.le_of_ble_eq_true rfl) (fun r5 M6 => ?_)
    refine r_iload (pc := 29) ok 0 dX5_leftOn_29 rfl ?_
    refine r_aload_n (pc := 31) ok 2 dX5_leftOn_31 rfl ?_
    refine r_iconst (pc := 32) ok 0 dX5_leftOn_32 (by decide) ?_
    refine r_iload_n (pc := 33) ok 3 dX5_leftOn_33 rfl ?_
    refine r_iload_n (pc := 34) ok 1 dX5_leftOn_34 rfl ?_
    refine r_callV0 (pc := 35) ok [.int 0, .int vq1, .int w2] [.int r3, .ref (gA g 12 r5)] 4 (fun rZ MZ hZ => con_X5_said g l iq0 0 vq1 w2 hq0 _ rZ MZ hZ) cv_X5_71 (ok_15 hq0) (rmOk_L (by decide) (by decide)) dX5_leftOn_35 rfl rfl (Nat.le_of_ble_eq_true rfl) (fun r7 M8 => ?_)
    refine r_aload_n (pc := 38) ok 2 dX5_leftOn_38 rfl ?_
    refine r_getR (pc := 39) ok fr_15_3 hq0 fl_X5_17 dX5_leftOn_39 ?_
    refine r_iconst (pc := 42) ok 3 dX5_leftOn_42 (by decide) ?_
    refine r_aald (pc := 43) ok rk_17 hq0 rfl rfl dX5_leftOn_43 (fun hb9 => ?_)
    refine r_iload_n (pc := 44) ok 3 dX5_leftOn_44 rfl ?_
    refine r_iald (pc := 45) ok ik_18 (show _ < 12 from trow_lt hq0 hb9) dX5_leftOn_45 (fun _ => ?_)
    refine r_callP_drops (pc := 46) ok [.int r3, .int r7, .int (M8 18 (4 * iq0 + (3 : Int32).toNatClampNeg) vq1.toNatClampNeg)] [] (by decide) dX5_leftOn_46 rfl rfl (Nat.le_of_ble_eq_true rfl) (fun r10 M11 => ?_)
    exact r_iret (pc := 49) ok (Nat.zero_le _) (Nat.zero_le _) rfl dX5_leftOn_49
  · refine r_iconst (pc := 22) ok 0 dX5_leftOn_22 (by decide) ?_
    exact r_iret (pc := 23) ok (Nat.zero_le _) (Nat.zero_le _) rfl dX5_leftOn_23
theorem con_X5_leftOn (g : GP) (l : Launch) (iq0 : Nat) (vq1 : Int32) (vq2 : Int32) (hq0 : iq0 < 3) (M : Mem) (r : Int32) (M2 : Mem) (h : fX5_leftOn iq0 vq1 vq2 M = some (r, M2)) : Con g l yX5_leftOn cX5_leftOn 5 (some FieldType.int) (rmL 6) [.ref (gA g 15 iq0), .int vq1, .int vq2] M (eI r) M2 :=
  Con.of (own := RX5) (f := fX5_leftOn iq0 vq1 vq2 M) (by decide) (Nat.le_of_ble_eq_true rfl) rfl (fun x ok => wX5_leftOn ok iq0 vq1 vq2 hq0 M) r M2 h
def fX5_leave_B63 (iq0 : Nat) (vq2 : Int32) (vq4 : Int32) (k63 : Int32 → Mem → Option (Unit × Mem)) (vq5 : Int32) (M : Mem) : Option (Unit × Mem) :=
  if 4 ≤ vq5 then
    (some ((), M))
  else
    (ob (fX10_neighbour vq2 vq5 M) fun r17 M18 =>
    if r17 = (-1) then
      (k63 (vq5 + 1) M18)
    else
      (ob (fX5_thicken iq0 r17 vq4 M18) fun r19 M20 =>
      k63 (vq5 + 1) M20))
def fX5_leave_L63 (iq0 : Nat) (vq2 : Int32) (vq4 : Int32) : Nat → Int32 → Mem → Option (Unit × Mem)
  | 0, _, _ => none
  | n + 1, vq5, M => fX5_leave_B63 iq0 vq2 vq4 (fX5_leave_L63 iq0 vq2 vq4 n) vq5 M
set_option maxRecDepth 20000 in
theorem sX5_leave_B63 {g : GP} {l : Launch} {x : CT} (ok : Ok g l x RX5 cX5_leave 7 none (rmL 6)) (iq0 : Nat) (vq2 : Int32) (vq4 : Int32) (h0 : iq0 < 3) (k63 : Int32 → Mem → Option (Unit × Mem)) (hk63 : ∀ (vq5 : Int32) (M : Mem), Sw g l x (FinQ g x eV) 7 0 0 63 [(0, .ref (gA g 15 iq0)), (2, .int vq2), (4, .int vq4), (5, .int vq5)] [] M (k63 vq5 M)) (vq5 : Int32) (M : Mem) : Sw g l x (FinQ g x eV) 7 0 0 63 [(0, .ref (gA g 15 iq0)), (2, .int vq2), (4, .int vq4), (5, .int vq5)] [] M (fX5_leave_B63 iq0 vq2 vq4 k63 vq5 M) := by
  unfold fX5_leave_B63
  refine r_iload (pc := 63) ok 3 dX5_leave_63 rfl ?_
  refine r_iconst (pc := 65) ok 4 dX5_leave_65 (by decide) ?_
  refine r_icmp_ge (pc := 66) ok 97 dX5_leave_66 (by decide) (fun _ => ?_) (fun _ => ?_)
  · exact r_vret (pc := 97) ok (Nat.zero_le _) (Nat.zero_le _) rfl dX5_leave_97
  · refine r_iload_n (pc := 69) ok 1 dX5_leave_69 rfl ?_
    refine r_iload (pc := 70) ok 3 dX5_leave_70 rfl ?_
    refine r_callSN0 (pc := 72) ok [.int vq2, .int vq5] [] 2 (fun rZ MZ hZ => con_X10_neighbour g l vq2 vq5 _ rZ MZ hZ) csN_X5_109 (rmOk_L (by decide) (by decide)) dX5_leave_72 rfl rfl (Nat.le_of_ble_eq_true rfl) (fun r17 M18 => ?_)
    refine r_istore (pc := 75) ok [(6, .int r17), (0, .ref (gA g 15 iq0)), (2, .int vq2), (4, .int vq4), (5, .int vq5)] dX5_leave_75 (by decide) rfl ?_
    refine r_iload (pc := 77) ok 0 dX5_leave_77 rfl ?_
    refine r_iconst (pc := 79) ok (-1) dX5_leave_79 (by decide) ?_
    refine r_icmp_eq (pc := 80) ok 91 dX5_leave_80 (by decide) (fun _ => ?_) (fun _ => ?_)
    · refine r_iinc (pc := 91) ok 4 (vq5 + 1) [(5, .int (vq5 + 1)), (6, .int r17), (0, .ref (gA g 15 iq0)), (2, .int vq2), (4, .int vq4)] dX5_leave_91 rfl (congrArg (fun z => vq5 + z) (by decide : Int32.ofInt 1 = (1 : Int32))) (by decide) rfl ?_
      refine r_goto (pc := 94) ok 63 dX5_leave_94 (by decide) ?_
      refine r_lv [2, 3, 4, 0] [(0, .ref (gA g 15 iq0)), (2, .int vq2), (4, .int vq4), (5, .int (vq5 + 1))] rfl ?_
      exact hk63 (vq5 + 1) M18
    · refine r_aload_n (pc := 83) ok 1 dX5_leave_83 rfl ?_
      refine r_iload (pc := 84) ok 0 dX5_leave_84 rfl ?_
      refine r_iload (pc := 86) ok 3 dX5_leave_86 rfl ?_
      refine r_callV0 (pc := 88) ok [.int r17, .int vq4] [] 2 (fun rZ MZ hZ => con_X5_thicken g l iq0 r17 vq4 h0 _ rZ MZ hZ) cv_X5_105 (ok_15 h0) (rmOk_L (by decide) (by decide)) dX5_leave_88 rfl rfl (Nat.le_of_ble_eq_true rfl) (fun r19 M20 => ?_)
      refine r_iinc (pc := 91) ok 4 (vq5 + 1) [(5, .int (vq5 + 1)), (6, .int r17), (0, .ref (gA g 15 iq0)), (2, .int vq2), (4, .int vq4)] dX5_leave_91 rfl (congrArg (fun z => vq5 + z) (by decide : Int32.ofInt 1 = (1 : Int32))) (by decide) rfl ?_
      refine r_goto (pc := 94) ok 63 dX5_leave_94 (by decide) ?_
      refine r_lv [2, 3, 4, 0] [(0, .ref (gA g 15 iq0)), (2, .int vq2), (4, .int vq4), (5, .int (vq5 + 1))] rfl ?_
      exact hk63 (vq5 + 1) M20
theorem sX5_leave_L63 {g : GP} {l : Launch} {x : CT} (ok : Ok g l x RX5 cX5_leave 7 none (rmL 6)) (iq0 : Nat) (vq2 : Int32) (vq4 : Int32) (h0 : iq0 < 3) : ∀ (n : Nat) (vq5 : Int32) (M : Mem), Sw g l x (FinQ g x eV) 7 0 0 63 [(0, .ref (gA g 15 iq0)), (2, .int vq2), (4, .int vq4), (5, .int vq5)] [] M (fX5_leave_L63 iq0 vq2 vq4 n vq5 M) := by
  intro n
  induction n with
  | zero => intros; exact r_none
  | succ n ih => intro vq5 M; exact sX5_leave_B63 ok iq0 vq2 vq4 h0 _ ih vq5 M
def fX5_leave (iq0 : Nat) (vq1 : Int32) (M : Mem) : Option (Unit × Mem) :=
  gd (inb 0 4)
  (gd (inb vq1 6)
  (lt (M 18 (4 * iq0 + (0 : Int32).toNatClampNeg) vq1.toNatClampNeg) fun w2 =>
  ob (fX5_said iq0 0 vq1 w2 M) fun r3 M4 =>
  ob (fX5_kindOf iq0 vq1 M4) fun r5 M6 =>
  gd (inb 3 4)
  (gd (inb vq1 6)
  (ob (fP_drops r5 1 r3 (M6 18 (4 * iq0 + (3 : Int32).toNatClampNeg) vq1.toNatClampNeg) M6) fun r8 M9 =>
  ob (fX5_kindOf iq0 vq1 M9) fun r10 M11 =>
  gd (inb 3 4)
  (gd (inb vq1 6)
  (ob (fP_drops r10 0 r3 (M11 18 (4 * iq0 + (3 : Int32).toNatClampNeg) vq1.toNatClampNeg) M11) fun r13 M14 =>
  ob (fX5_thicken iq0 w2 r13 M14) fun r15 M16 =>
  fX5_leave_L63 iq0 w2 r8 FU 0 M16))))))
set_option maxRecDepth 20000 in
theorem wX5_leave {g : GP} {l : Launch} {x : CT} (ok : Ok g l x RX5 cX5_leave 7 none (rmL 6)) (iq0 : Nat) (vq1 : Int32) (hq0 : iq0 < 3) (M : Mem) : Sw g l x (FinQ g x eV) 7 0 0 0 [(0, .ref (gA g 15 iq0)), (1, .int vq1)] [] M (fX5_leave iq0 vq1 M) := by
  unfold fX5_leave
  refine r_aload_n (pc := 0) ok 0 dX5_leave_0 rfl ?_
  refine r_getR (pc := 1) ok fr_15_3 hq0 fl_X5_17 dX5_leave_1 ?_
  refine r_iconst (pc := 4) ok 0 dX5_leave_4 (by decide) ?_
  refine r_aald (pc := 5) ok rk_17 hq0 rfl rfl dX5_leave_5 (fun hb1 => ?_)
  refine r_iload_n (pc := 6) ok 1 dX5_leave_6 rfl ?_
  refine r_iald (pc := 7) ok ik_18 (show _ < 12 from trow_lt hq0 hb1) dX5_leave_7 (fun _ => ?_)
  refine r_nmi (fun w2 => ?_)
  refine r_istore_n (pc := 8) ok [(2, .int w2), (0, .ref (gA g 15 iq0)), (1, .int vq1)] dX5_leave_8 rfl (by decide) rfl ?_
  refine r_aload_n (pc := 9) ok 1 dX5_leave_9 rfl ?_
  refine r_iconst (pc := 10) ok 0 dX5_leave_10 (by decide) ?_
  refine r_iload_n (pc := 11) ok 2 dX5_leave_11 rfl ?_
  refine r_iload_n (pc := 12) ok 0 dX5_leave_12 rfl ?_
  refine r_callV0 (pc := 13) ok [.int 0, .int vq1, .int w2] [] 4 (fun rZ MZ hZ => con_X5_said g l iq0 0 vq1 w2 hq0 _ rZ MZ hZ) cv_X5_71 (ok_15 hq0) (rmOk_L (by decide) (by decide)) dX5_leave_13 rfl rfl (Nat.le_of_ble_eq_true rfl) (fun r3 M4 => ?_)
  refine r_istore_n (pc := 16) ok [(3, .int r3), (2, .int w2), (0, .ref (gA g 15 iq0)), (1, .int vq1)] dX5_leave_16 rfl (by decide) rfl ?_
  refine r_aload_n (pc := 17) ok 2 dX5_leave_17 rfl ?_
  refine r_iload_n (pc := 18) ok 3 dX5_leave_18 rfl ?_
  refine r_callV0 (pc := 19) ok [.int vq1] [] 2 (fun rZ MZ hZ => con_X5_kindOf g l iq0 vq1 hq0 _ rZ MZ hZ) cv_X5_67 (ok_15 hq0) (rmOk_L (by decide) (by decide)) dX5_leave_19 rfl rfl (Nat.le_of_ble_eq_true rfl) (fun r5 M6 => ?_)
  refine r_iconst (pc := 22) ok 1 dX5_leave_22 (by decide) ?_
  refine r_iload_n (pc := 23) ok 0 dX5_leave_23 rfl ?_
  refine r_aload_n (pc := 24) ok 2 dX5_leave_24 rfl ?_
  refine r_getR (pc := 25) ok fr_15_3 hq0 fl_X5_17 dX5_leave_25 ?_
  refine r_iconst (pc := 28) ok 3 dX5_leave_28 (by decide) ?_
  refine r_aald (pc := 29) ok rk_17 hq0 rfl rfl dX5_leave_29 (fun hb7 => ?_)
  refine r_iload_n (pc := 30) ok 3 dX5_leave_30 rfl ?_
  refine r_iald (pc := 31) ok ik_18 (show _ < 12 from trow_lt hq0 hb7) dX5_leave_31 (fun _ => ?_)
  refine r_callP_drops (pc := 32) ok [.int 1, .int r3, .int (M6 18 (4 * iq0 + (3 : Int32).toNatClampNeg) vq1.toNatClampNeg)] [] (by decide) dX5_leave_32 rfl rfl (Nat.le_of_ble_eq_true rfl) (fun r8 M9 => ?_)
  refine r_istore (pc := 35) ok [(4, .int r8), (3, .int r3), (2, .int w2), (0, .ref (gA g 15 iq0)), (1, .int vq1)] dX5_leave_35 (by decide) rfl ?_
  refine r_aload_n (pc := 37) ok 3 dX5_leave_37 rfl ?_
  refine r_iload_n (pc := 38) ok 2 dX5_leave_38 rfl ?_
  refine r_aload_n (pc := 39) ok 3 dX5_leave_39 rfl ?_
  refine r_iload_n (pc := 40) ok 4 dX5_leave_40 rfl ?_
  refine r_callV0 (pc := 41) ok [.int vq1] [.int w2, .ref (gA g 15 iq0)] 2 (fun rZ MZ hZ => con_X5_kindOf g l iq0 vq1 hq0 _ rZ MZ hZ) cv_X5_67 (ok_15 hq0) (rmOk_L (by decide) (by decide)) dX5_leave_41 rfl rfl (Nat.le_of_ble_eq_true rfl) (fun r10 M11 => ?_)
  refine r_iconst (pc := 44) ok 0 dX5_leave_44 (by decide) ?_
  refine r_iload_n (pc := 45) ok 1 dX5_leave_45 rfl ?_
  refine r_aload_n (pc := 46) ok 3 dX5_leave_46 rfl ?_
  refine r_getR (pc := 47) ok fr_15_3 hq0 fl_X5_17 dX5_leave_47 ?_
  refine r_iconst (pc := 50) ok 3 dX5_leave_50 (by decide) ?_
  refine r_aald (pc := 51) ok rk_17 hq0 rfl rfl dX5_leave_51 (fun hb12 => ?_)
  refine r_iload_n (pc := 52) ok 4 dX5_leave_52 rfl ?_
  refine r_iald (pc := 53) ok ik_18 (show _ < 12 from trow_lt hq0 hb12) dX5_leave_53 (fun _ => ?_)
  refine r_callP_drops (pc := 54) ok [.int 0, .int r3, .int (M11 18 (4 * iq0 + (3 : Int32).toNatClampNeg) vq1.toNatClampNeg)] [.int w2, .ref (gA g 15 iq0)] (by decide) dX5_leave_54 rfl rfl (Nat.le_of_ble_eq_true rfl) (fun r13 M14 => ?_)
  refine r_callV0 (pc := 57) ok [.int w2, .int r13] [] 2 (fun rZ MZ hZ => con_X5_thicken g l iq0 w2 r13 hq0 _ rZ MZ hZ) cv_X5_105 (ok_15 hq0) (rmOk_L (by decide) (by decide)) dX5_leave_57 rfl rfl (Nat.le_of_ble_eq_true rfl) (fun r15 M16 => ?_)
  refine r_iconst (pc := 60) ok 0 dX5_leave_60 (by decide) ?_
  refine r_istore (pc := 61) ok [(5, .int 0), (4, .int r8), (3, .int r3), (2, .int w2), (0, .ref (gA g 15 iq0)), (1, .int vq1)] dX5_leave_61 (by decide) rfl ?_
  refine r_lv [4, 3, 1, 0] [(0, .ref (gA g 15 iq0)), (2, .int w2), (4, .int r8), (5, .int 0)] rfl ?_
  exact sX5_leave_L63 ok iq0 w2 r8 hq0 FU 0 M16
theorem con_X5_leave (g : GP) (l : Launch) (iq0 : Nat) (vq1 : Int32) (hq0 : iq0 < 3) (M : Mem) (r : Unit) (M2 : Mem) (h : fX5_leave iq0 vq1 M = some (r, M2)) : Con g l yX5_leave cX5_leave 7 none (rmL 6) [.ref (gA g 15 iq0), .int vq1] M (eV r) M2 :=
  Con.of (own := RX5) (f := fX5_leave iq0 vq1 M) (by decide) (Nat.le_of_ble_eq_true rfl) rfl (fun x ok => wX5_leave ok iq0 vq1 hq0 M) r M2 h
def fX10_tread_B27 (vq2 : Int32) (iq4 : Nat) (k27 : Int32 → Int32 → Mem → Option (Int32 × Mem)) (vq5 : Int32) (vq6 : Int32) (M : Mem) : Option (Int32 × Mem) :=
  if (M 13 iq4 2) ≤ vq6 then
    (some (vq5, M))
  else
    (gd (inb vq6 40)
    (ob (fX5_wear 0 vq2 (M 14 iq4 vq6.toNatClampNeg) M) fun r4 M5 =>
    lt (vq5 + r4) fun w6 =>
    k27 w6 (vq6 + 1) M5))
def fX10_tread_L27 (vq2 : Int32) (iq4 : Nat) : Nat → Int32 → Int32 → Mem → Option (Int32 × Mem)
  | 0, _, _, _ => none
  | n + 1, vq5, vq6, M => fX10_tread_B27 vq2 iq4 (fX10_tread_L27 vq2 iq4 n) vq5 vq6 M
set_option maxRecDepth 20000 in
theorem sX10_tread_B27 {g : GP} {l : Launch} {x : CT} (ok : Ok g l x RX10 cX10_tread 7 (some FieldType.int) (rmL 7)) (vq2 : Int32) (iq4 : Nat) (h4 : iq4 < 4) (k27 : Int32 → Int32 → Mem → Option (Int32 × Mem)) (hk27 : ∀ (vq5 : Int32) (vq6 : Int32) (M : Mem), Sw g l x (FinQ g x eI) 7 0 0 27 [(0, .ref (gA g 0 0)), (2, .int vq2), (4, .ref (gA g 13 iq4)), (5, .int vq5), (6, .int vq6)] [] M (k27 vq5 vq6 M)) (vq5 : Int32) (vq6 : Int32) (M : Mem) : Sw g l x (FinQ g x eI) 7 0 0 27 [(0, .ref (gA g 0 0)), (2, .int vq2), (4, .ref (gA g 13 iq4)), (5, .int vq5), (6, .int vq6)] [] M (fX10_tread_B27 vq2 iq4 k27 vq5 vq6 M) := by
  unfold fX10_tread_B27
  refine r_iload (pc := 27) ok 4 dX10_tread_27 rfl ?_
  refine r_aload (pc := 29) ok 2 dX10_tread_29 rfl ?_
  refine r_getIN (pc := 31) ok fi_13_2 h4 flN_X10_155 dX10_tread_31 ?_
  refine r_icmp_ge (pc := 34) ok 64 dX10_tread_34 (by decide) (fun _ => ?_) (fun _ => ?_)
  · refine r_iload (pc := 64) ok 3 dX10_tread_64 rfl ?_
    exact r_iret (pc := 66) ok (Nat.zero_le _) (Nat.zero_le _) rfl dX10_tread_66
  · refine r_iload (pc := 37) ok 3 dX10_tread_37 rfl ?_
    refine r_aload_n (pc := 39) ok 0 dX10_tread_39 rfl ?_
    refine r_getR (pc := 40) ok fr_0_4 (by decide) fl_X10_61 dX10_tread_40 ?_
    refine r_iload_n (pc := 43) ok 1 dX10_tread_43 rfl ?_
    refine r_aload (pc := 44) ok 2 dX10_tread_44 rfl ?_
    refine r_getRN (pc := 46) ok fr_13_0 h4 flN_X10_156 dX10_tread_46 ?_
    refine r_iload (pc := 49) ok 4 dX10_tread_49 rfl ?_
    refine r_iald (pc := 51) ok ik_14 h4 dX10_tread_51 (fun _ => ?_)
    refine r_callVN0 (pc := 52) ok [.int vq2, .int (M 14 iq4 vq6.toNatClampNeg)] [.int vq5] 6 (fun rZ MZ hZ => con_X5_wear g l 0 vq2 (M 14 iq4 vq6.toNatClampNeg) (by decide) _ rZ MZ hZ) cvN_X10_159 (ok_15 (by decide)) (rmOk_L (by decide) (by decide)) dX10_tread_52 rfl rfl (Nat.le_of_ble_eq_true rfl) (fun r4 M5 => ?_)
    refine r_iadd (pc := 55) ok dX10_tread_55 ?_
    refine r_nmi (fun w6 => ?_)
    refine r_istore (pc := 56) ok [(5, .int w6), (0, .ref (gA g 0 0)), (2, .int vq2), (4, .ref (gA g 13 iq4)), (6, .int vq6)] dX10_tread_56 (by decide) rfl ?_
    refine r_iinc (pc := 58) ok 4 (vq6 + 1) [(6, .int (vq6 + 1)), (5, .int w6), (0, .ref (gA g 0 0)), (2, .int vq2), (4, .ref (gA g 13 iq4))] dX10_tread_58 rfl (congrArg (fun z => vq6 + z) (by decide : Int32.ofInt 1 = (1 : Int32))) (by decide) rfl ?_
    refine r_goto (pc := 61) ok 27 dX10_tread_61 (by decide) ?_
    refine r_lv [2, 3, 4, 1, 0] [(0, .ref (gA g 0 0)), (2, .int vq2), (4, .ref (gA g 13 iq4)), (5, .int w6), (6, .int (vq6 + 1))] rfl ?_
    exact hk27 w6 (vq6 + 1) M5
theorem sX10_tread_L27 {g : GP} {l : Launch} {x : CT} (ok : Ok g l x RX10 cX10_tread 7 (some FieldType.int) (rmL 7)) (vq2 : Int32) (iq4 : Nat) (h4 : iq4 < 4) : ∀ (n : Nat) (vq5 : Int32) (vq6 : Int32) (M : Mem), Sw g l x (FinQ g x eI) 7 0 0 27 [(0, .ref (gA g 0 0)), (2, .int vq2), (4, .ref (gA g 13 iq4)), (5, .int vq5), (6, .int vq6)] [] M (fX10_tread_L27 vq2 iq4 n vq5 vq6 M) := by
  intro n
  induction n with
  | zero => intros; exact r_none
  | succ n ih => intro vq5 vq6 M; exact sX10_tread_B27 ok vq2 iq4 h4 _ ih vq5 vq6 M
def fX10_tread (vq1 : Int32) (vq2 : Int32) (M : Mem) : Option (Int32 × Mem) :=
  ob (fX10_refuseWalk vq1 vq2 M) fun r1 M2 =>
  if r1 = 0 then
    (gd (inb vq1 4)
    (fX10_tread_L27 vq2 vq1.toNatClampNeg FU 0 0 M2))
  else
    (some (r1, M2))
set_option maxRecDepth 20000 in
theorem wX10_tread {g : GP} {l : Launch} {x : CT} (ok : Ok g l x RX10 cX10_tread 7 (some FieldType.int) (rmL 7)) (vq1 : Int32) (vq2 : Int32)  (M : Mem) : Sw g l x (FinQ g x eI) 7 0 0 0 [(0, .ref (gA g 0 0)), (1, .int vq1), (2, .int vq2)] [] M (fX10_tread vq1 vq2 M) := by
  unfold fX10_tread
  refine r_aload_n (pc := 0) ok 0 dX10_tread_0 rfl ?_
  refine r_iload_n (pc := 1) ok 1 dX10_tread_1 rfl ?_
  refine r_iload_n (pc := 2) ok 2 dX10_tread_2 rfl ?_
  refine r_callV0 (pc := 3) ok [.int vq1, .int vq2] [] 5 (fun rZ MZ hZ => con_X10_refuseWalk g l vq1 vq2 _ rZ MZ hZ) cv_X10_148 ok_0 (rmOk_L (by decide) (by decide)) dX10_tread_3 rfl rfl (Nat.le_of_ble_eq_true rfl) (fun r1 M2 => ?_)
  refine r_istore_n (pc := 6) ok [(3, .int r1), (0, .ref (gA g 0 0)), (1, .int vq1), (2, .int vq2)] dX10_tread_6 rfl (by decide) rfl ?_
  refine r_iload_n (pc := 7) ok 0 dX10_tread_7 rfl ?_
  refine r_if_eq (pc := 8) ok 13 dX10_tread_8 (by decide) (fun _ => ?_) (fun _ => ?_)
  · refine r_aload_n (pc := 13) ok 1 dX10_tread_13 rfl ?_
    refine r_getR (pc := 14) ok fr_0_3 (by decide) fl_X10_51 dX10_tread_14 ?_
    refine r_iload_n (pc := 17) ok 2 dX10_tread_17 rfl ?_
    refine r_aald (pc := 18) ok rk_7 (by decide) rfl rfl dX10_tread_18 (fun hb3 => ?_)
    refine r_astore (pc := 19) ok [(4, .ref (gA g 13 vq1.toNatClampNeg)), (3, .int r1), (0, .ref (gA g 0 0)), (1, .int vq1), (2, .int vq2)] dX10_tread_19 (by decide) rfl ?_
    refine r_iconst (pc := 21) ok 0 dX10_tread_21 (by decide) ?_
    refine r_istore (pc := 22) ok [(5, .int 0), (4, .ref (gA g 13 vq1.toNatClampNeg)), (3, .int r1), (0, .ref (gA g 0 0)), (1, .int vq1), (2, .int vq2)] dX10_tread_22 (by decide) rfl ?_
    refine r_iconst (pc := 24) ok 0 dX10_tread_24 (by decide) ?_
    refine r_istore (pc := 25) ok [(6, .int 0), (5, .int 0), (4, .ref (gA g 13 vq1.toNatClampNeg)), (3, .int r1), (0, .ref (gA g 0 0)), (1, .int vq1), (2, .int vq2)] dX10_tread_25 (by decide) rfl ?_
    refine r_lv [4, 6, 2, 1, 0] [(0, .ref (gA g 0 0)), (2, .int vq2), (4, .ref (gA g 13 vq1.toNatClampNeg)), (5, .int 0), (6, .int 0)] rfl ?_
    exact sX10_tread_L27 ok vq2 vq1.toNatClampNeg hb3 FU 0 0 M2
  · refine r_iload_n (pc := 11) ok 0 dX10_tread_11 rfl ?_
    exact r_iret (pc := 12) ok (Nat.zero_le _) (Nat.zero_le _) rfl dX10_tread_12
theorem con_X10_tread (g : GP) (l : Launch) (vq1 : Int32) (vq2 : Int32)  (M : Mem) (r : Int32) (M2 : Mem) (h : fX10_tread vq1 vq2 M = some (r, M2)) : Con g l yX10_tread cX10_tread 7 (some FieldType.int) (rmL 7) [.ref (gA g 0 0), .int vq1, .int vq2] M (eI r) M2 :=
  Con.of (own := RX10) (f := fX10_tread vq1 vq2 M) (by decide) (Nat.le_of_ble_eq_true rfl) rfl (fun x ok => wX10_tread ok vq1 vq2  M) r M2 h
def fX10_feltOnWalk_J69 (k15 : Int32 → Int32 → Int32 → Int32 → Int32 → Mem → Option (Int32 × Mem)) (iq1 : Nat) (vq2 : Int32) (vq3 : Int32) (vq4 : Int32) (vq5 : Int32) (vq6 : Int32) (vq7 : Int32) (vq8 : Int32) (vq9 : Int32) (M : Mem) : Option (Int32 × Mem) :=
  if vq9 = 0 then
    (k15 vq4 vq5 vq6 (vq7 + 1) (vq8 + 1) M)
  else
    (k15 vq4 vq5 vq6 vq7 (vq8 + 1) M)
set_option maxRecDepth 20000 in
theorem sX10_feltOnWalk_J69 {g : GP} {l : Launch} {x : CT} {k15 : Int32 → Int32 → Int32 → Int32 → Int32 → Mem → Option (Int32 × Mem)} (ok : Ok g l x RX10 cX10_feltOnWalk 10 (some FieldType.int) (rmL 7)) (iq1 : Nat) (vq2 : Int32) (vq3 : Int32) (vq4 : Int32) (vq5 : Int32) (vq6 : Int32) (vq7 : Int32) (vq8 : Int32) (vq9 : Int32) (h1 : iq1 < 4) (hk15 : ∀ (vq4 : Int32) (vq5 : Int32) (vq6 : Int32) (vq7 : Int32) (vq8 : Int32) (M : Mem), Sw g l x (FinQ g x eI) 10 0 0 15 [(0, .ref (gA g 0 0)), (1, .ref (gA g 13 iq1)), (2, .int vq2), (3, .int vq3), (4, .int vq4), (5, .int vq5), (6, .int vq6), (7, .int vq7), (8, .int vq8)] [] M (k15 vq4 vq5 vq6 vq7 vq8 M)) (M : Mem) : Sw g l x (FinQ g x eI) 10 0 0 69 [(0, .ref (gA g 0 0)), (1, .ref (gA g 13 iq1)), (2, .int vq2), (3, .int vq3), (4, .int vq4), (5, .int vq5), (6, .int vq6), (7, .int vq7), (8, .int vq8), (9, .int vq9)] [] M (fX10_feltOnWalk_J69 k15 iq1 vq2 vq3 vq4 vq5 vq6 vq7 vq8 vq9 M) := by
  unfold fX10_feltOnWalk_J69
  refine r_iload (pc := 69) ok 9 dX10_feltOnWalk_69 rfl ?_
  refine r_if_ne (pc := 71) ok 77 dX10_feltOnWalk_71 (by decide) (fun _ => ?_) (fun _ => ?_)
  · refine r_iinc (pc := 74) ok 7 (vq7 + 1) [(7, .int (vq7 + 1)), (0, .ref (gA g 0 0)), (1, .ref (gA g 13 iq1)), (2, .int vq2), (3, .int vq3), (4, .int vq4), (5, .int vq5), (6, .int vq6), (8, .int vq8), (9, .int vq9)] dX10_feltOnWalk_74 rfl (congrArg (fun z => vq7 + z) (by decide : Int32.ofInt 1 = (1 : Int32))) (by decide) rfl ?_
    refine r_iinc (pc := 77) ok 8 (vq8 + 1) [(8, .int (vq8 + 1)), (7, .int (vq7 + 1)), (0, .ref (gA g 0 0)), (1, .ref (gA g 13 iq1)), (2, .int vq2), (3, .int vq3), (4, .int vq4), (5, .int vq5), (6, .int vq6), (9, .int vq9)] dX10_feltOnWalk_77 rfl (congrArg (fun z => vq8 + z) (by decide : Int32.ofInt 1 = (1 : Int32))) (by decide) rfl ?_
    refine r_goto (pc := 80) ok 15 dX10_feltOnWalk_80 (by decide) ?_
    refine r_lv [2, 3, 4, 5, 6, 7, 8, 1, 0] [(0, .ref (gA g 0 0)), (1, .ref (gA g 13 iq1)), (2, .int vq2), (3, .int vq3), (4, .int vq4), (5, .int vq5), (6, .int vq6), (7, .int (vq7 + 1)), (8, .int (vq8 + 1))] rfl ?_
    exact hk15 vq4 vq5 vq6 (vq7 + 1) (vq8 + 1) M
  · refine r_iinc (pc := 77) ok 8 (vq8 + 1) [(8, .int (vq8 + 1)), (0, .ref (gA g 0 0)), (1, .ref (gA g 13 iq1)), (2, .int vq2), (3, .int vq3), (4, .int vq4), (5, .int vq5), (6, .int vq6), (7, .int vq7), (9, .int vq9)] dX10_feltOnWalk_77 rfl (congrArg (fun z => vq8 + z) (by decide : Int32.ofInt 1 = (1 : Int32))) (by decide) rfl ?_
    refine r_goto (pc := 80) ok 15 dX10_feltOnWalk_80 (by decide) ?_
    refine r_lv [1, 2, 3, 4, 5, 6, 7, 8, 0] [(0, .ref (gA g 0 0)), (1, .ref (gA g 13 iq1)), (2, .int vq2), (3, .int vq3), (4, .int vq4), (5, .int vq5), (6, .int vq6), (7, .int vq7), (8, .int (vq8 + 1))] rfl ?_
    exact hk15 vq4 vq5 vq6 vq7 (vq8 + 1) M
def fX10_feltOnWalk_J61 (k15 : Int32 → Int32 → Int32 → Int32 → Int32 → Mem → Option (Int32 × Mem)) (iq1 : Nat) (vq2 : Int32) (vq3 : Int32) (vq4 : Int32) (vq7 : Int32) (vq8 : Int32) (vq9 : Int32) (M : Mem) : Option (Int32 × Mem) :=
  fX10_feltOnWalk_J69 k15 iq1 vq2 vq3 vq4 vq9 vq8 vq7 vq8 vq9 M
set_option maxRecDepth 20000 in
theorem sX10_feltOnWalk_J61 {g : GP} {l : Launch} {x : CT} {k15 : Int32 → Int32 → Int32 → Int32 → Int32 → Mem → Option (Int32 × Mem)} (ok : Ok g l x RX10 cX10_feltOnWalk 10 (some FieldType.int) (rmL 7)) (iq1 : Nat) (vq2 : Int32) (vq3 : Int32) (vq4 : Int32) (vq7 : Int32) (vq8 : Int32) (vq9 : Int32) (h1 : iq1 < 4) (hk15 : ∀ (vq4 : Int32) (vq5 : Int32) (vq6 : Int32) (vq7 : Int32) (vq8 : Int32) (M : Mem), Sw g l x (FinQ g x eI) 10 0 0 15 [(0, .ref (gA g 0 0)), (1, .ref (gA g 13 iq1)), (2, .int vq2), (3, .int vq3), (4, .int vq4), (5, .int vq5), (6, .int vq6), (7, .int vq7), (8, .int vq8)] [] M (k15 vq4 vq5 vq6 vq7 vq8 M)) (M : Mem) : Sw g l x (FinQ g x eI) 10 0 0 61 [(0, .ref (gA g 0 0)), (1, .ref (gA g 13 iq1)), (2, .int vq2), (3, .int vq3), (4, .int vq4), (7, .int vq7), (8, .int vq8), (9, .int vq9)] [] M (fX10_feltOnWalk_J61 k15 iq1 vq2 vq3 vq4 vq7 vq8 vq9 M) := by
  unfold fX10_feltOnWalk_J61
  refine r_iload (pc := 61) ok 7 dX10_feltOnWalk_61 rfl ?_
  refine r_istore (pc := 63) ok [(5, .int vq9), (0, .ref (gA g 0 0)), (1, .ref (gA g 13 iq1)), (2, .int vq2), (3, .int vq3), (4, .int vq4), (7, .int vq7), (8, .int vq8), (9, .int vq9)] dX10_feltOnWalk_63 (by decide) rfl ?_
  refine r_iload (pc := 65) ok 7 dX10_feltOnWalk_65 rfl ?_
  refine r_istore (pc := 67) ok [(6, .int vq8), (5, .int vq9), (0, .ref (gA g 0 0)), (1, .ref (gA g 13 iq1)), (2, .int vq2), (3, .int vq3), (4, .int vq4), (7, .int vq7), (8, .int vq8), (9, .int vq9)] dX10_feltOnWalk_67 (by decide) rfl ?_
  refine r_lv [2, 3, 4, 5, 6, 1, 0, 7, 8, 9] [(0, .ref (gA g 0 0)), (1, .ref (gA g 13 iq1)), (2, .int vq2), (3, .int vq3), (4, .int vq4), (5, .int vq9), (6, .int vq8), (7, .int vq7), (8, .int vq8), (9, .int vq9)] rfl ?_
  exact sX10_feltOnWalk_J69 ok iq1 vq2 vq3 vq4 vq9 vq8 vq7 vq8 vq9 h1 hk15 M
def fX10_feltOnWalk_B15 (iq1 : Nat) (vq2 : Int32) (vq3 : Int32) (k15 : Int32 → Int32 → Int32 → Int32 → Int32 → Mem → Option (Int32 × Mem)) (vq4 : Int32) (vq5 : Int32) (vq6 : Int32) (vq7 : Int32) (vq8 : Int32) (M : Mem) : Option (Int32 × Mem) :=
  if (M 13 iq1 2) ≤ vq8 then
    (if vq3 = 0 then
      (some (vq4, M))
    else
      (if vq3 = 1 then
        (some (vq5, M))
      else
        (if vq3 = 2 then
          (some (vq6, M))
        else
          (some (vq7, M)))))
  else
    (gd (inb vq8 40)
    (ob (fX5_felt 0 vq2 (M 14 iq1 vq8.toNatClampNeg) M) fun r4 M5 =>
    lt (vq4 + r4) fun w6 =>
    if vq6 = (-1) then
      (fX10_feltOnWalk_J61 k15 iq1 vq2 vq3 w6 vq7 vq8 r4 M5)
    else
      (if r4 ≤ vq5 then
        (fX10_feltOnWalk_J69 k15 iq1 vq2 vq3 w6 vq5 vq6 vq7 vq8 r4 M5)
      else
        (fX10_feltOnWalk_J61 k15 iq1 vq2 vq3 w6 vq7 vq8 r4 M5))))
def fX10_feltOnWalk_L15 (iq1 : Nat) (vq2 : Int32) (vq3 : Int32) : Nat → Int32 → Int32 → Int32 → Int32 → Int32 → Mem → Option (Int32 × Mem)
  | 0, _, _, _, _, _, _ => none
  | n + 1, vq4, vq5, vq6, vq7, vq8, M => fX10_feltOnWalk_B15 iq1 vq2 vq3 (fX10_feltOnWalk_L15 iq1 vq2 vq3 n) vq4 vq5 vq6 vq7 vq8 M
set_option maxRecDepth 20000 in
theorem sX10_feltOnWalk_B15 {g : GP} {l : Launch} {x : CT} (ok : Ok g l x RX10 cX10_feltOnWalk 10 (some FieldType.int) (rmL 7)) (iq1 : Nat) (vq2 : Int32) (vq3 : Int32) (h1 : iq1 < 4) (k15 : Int32 → Int32 → Int32 → Int32 → Int32 → Mem → Option (Int32 × Mem)) (hk15 : ∀ (vq4 : Int32) (vq5 : Int32) (vq6 : Int32) (vq7 : Int32) (vq8 : Int32) (M : Mem), Sw g l x (FinQ g x eI) 10 0 0 15 [(0, .ref (gA g 0 0)), (1, .ref (gA g 13 iq1)), (2, .int vq2), (3, .int vq3), (4, .int vq4), (5, .int vq5), (6, .int vq6), (7, .int vq7), (8, .int vq8)] [] M (k15 vq4 vq5 vq6 vq7 vq8 M)) (vq4 : Int32) (vq5 : Int32) (vq6 : Int32) (vq7 : Int32) (vq8 : Int32) (M : Mem) : Sw g l x (FinQ g x eI) 10 0 0 15 [(0, .ref (gA g 0 0)), (1, .ref (gA g 13 iq1)), (2, .int vq2), (3, .int vq3), (4, .int vq4), (5, .int vq5), (6, .int vq6), (7, .int vq7), (8, .int vq8)] [] M (fX10_feltOnWalk_B15 iq1 vq2 vq3 k15 vq4 vq5 vq6 vq7 vq8 M) := by
  unfold fX10_feltOnWalk_B15
  refine r_iload (pc := 15) ok 8 dX10_feltOnWalk_15 rfl ?_
  refine r_aload_n (pc := 17) ok 1 dX10_feltOnWalk_17 rfl ?_
  refine r_getIN (pc := 18) ok fi_13_2 h1 flN_X10_155 dX10_feltOnWalk_18 ?_
  refine r_icmp_ge (pc := 21) ok 83 dX10_feltOnWalk_21 (by decide) (fun _ => ?_) (fun _ => ?_)
  · refine r_iload_n (pc := 83) ok 3 dX10_feltOnWalk_83 rfl ?_
    refine r_swc (pc := 84) ok (28) 112 dX10_feltOnWalk_84 (by decide +kernel) (by decide) (fun _ => ?_) (fun hs1 => ?_)
    · refine r_iload (pc := 112) ok 4 dX10_feltOnWalk_112 rfl ?_
      exact r_iret (pc := 114) ok (Nat.zero_le _) (Nat.zero_le _) rfl dX10_feltOnWalk_114
    · refine r_swc (pc := 84) ok (31) 115 dX10_feltOnWalk_84 (by decide +kernel) (by decide) (fun _ => ?_) (fun hs2 => ?_)
      · refine r_iload (pc := 115) ok 5 dX10_feltOnWalk_115 rfl ?_
        exact r_iret (pc := 117) ok (Nat.zero_le _) (Nat.zero_le _) rfl dX10_feltOnWalk_117
      · refine r_swc (pc := 84) ok (34) 118 dX10_feltOnWalk_84 (by decide +kernel) (by decide) (fun _ => ?_) (fun hs3 => ?_)
        · refine r_iload (pc := 118) ok 6 dX10_feltOnWalk_118 rfl ?_
          exact r_iret (pc := 120) ok (Nat.zero_le _) (Nat.zero_le _) rfl dX10_feltOnWalk_120
        · refine r_swd (pc := 84) ok 121 dX10_feltOnWalk_84 (by have := lv_neT hs1 (by decide : (0 : Int32).toInt = 0) ; have := lv_neT hs2 (by decide : (1 : Int32).toInt = 1) ; have := lv_neT hs3 (by decide : (2 : Int32).toInt = 2) ; omega) (by decide) ?_
          refine r_iload (pc := 121) ok 7 dX10_feltOnWalk_121 rfl ?_
          exact r_iret (pc := 123) ok (Nat.zero_le _) (Nat.zero_le _) rfl dX10_feltOnWalk_123
  · refine r_aload_n (pc := 24) ok 0 dX10_feltOnWalk_24 rfl ?_
    refine r_getR (pc := 25) ok fr_0_4 (by decide) fl_X10_61 dX10_feltOnWalk_25 ?_
    refine r_iload_n (pc := 28) ok 2 dX10_feltOnWalk_28 rfl ?_
    refine r_aload_n (pc := 29) ok 1 dX10_feltOnWalk_29 rfl ?_
    refine r_getRN (pc := 30) ok fr_13_0 h1 flN_X10_156 dX10_feltOnWalk_30 ?_
    refine r_iload (pc := 33) ok 8 dX10_feltOnWalk_33 rfl ?_
    refine r_iald (pc := 35) ok ik_14 h1 dX10_feltOnWalk_35 (fun _ => ?_)
    refine r_callVN0 (pc := 36) ok [.int vq2, .int (M 14 iq1 vq8.toNatClampNeg)] [] 6 (fun rZ MZ hZ => con_X5_felt g l 0 vq2 (M 14 iq1 vq8.toNatClampNeg) (by decide) _ rZ MZ hZ) cvN_X10_266 (ok_15 (by decide)) (rmOk_L (by decide) (by decide)) dX10_feltOnWalk_36 rfl rfl (Nat.le_of_ble_eq_true rfl) (fun r4 M5 => ?_)
    refine r_istore (pc := 39) ok [(9, .int r4), (0, .ref (gA g 0 0)), (1, .ref (gA g 13 iq1)), (2, .int vq2), (3, .int vq3), (4, .int vq4), (5, .int vq5), (6, .int vq6), (7, .int vq7), (8, .int vq8)] dX10_feltOnWalk_39 (by decide) rfl ?_
    refine r_iload (pc := 41) ok 5 dX10_feltOnWalk_41 rfl ?_
    refine r_iload (pc := 43) ok 0 dX10_feltOnWalk_43 rfl ?_
    refine r_iadd (pc := 45) ok dX10_feltOnWalk_45 ?_
    refine r_nmi (fun w6 => ?_)
    refine r_istore (pc := 46) ok [(4, .int w6), (9, .int r4), (0, .ref (gA g 0 0)), (1, .ref (gA g 13 iq1)), (2, .int vq2), (3, .int vq3), (5, .int vq5), (6, .int vq6), (7, .int vq7), (8, .int vq8)] dX10_feltOnWalk_46 (by decide) rfl ?_
    refine r_iload (pc := 48) ok 7 dX10_feltOnWalk_48 rfl ?_
    refine r_iconst (pc := 50) ok (-1) dX10_feltOnWalk_50 (by decide) ?_
    refine r_icmp_eq (pc := 51) ok 61 dX10_feltOnWalk_51 (by decide) (fun _ => ?_) (fun _ => ?_)
    · refine r_lv [2, 3, 4, 5, 0, 8, 9, 1] [(0, .ref (gA g 0 0)), (1, .ref (gA g 13 iq1)), (2, .int vq2), (3, .int vq3), (4, .int w6), (7, .int vq7), (8, .int vq8), (9, .int r4)] rfl ?_
      exact sX10_feltOnWalk_J61 ok iq1 vq2 vq3 w6 vq7 vq8 r4 h1 hk15 M5
    · refine r_iload (pc := 54) ok 1 dX10_feltOnWalk_54 rfl ?_
      refine r_iload (pc := 56) ok 6 dX10_feltOnWalk_56 rfl ?_
      refine r_icmp_le (pc := 58) ok 69 dX10_feltOnWalk_58 (by decide) (fun _ => ?_) (fun _ => ?_)
      · refine r_lv [2, 3, 4, 5, 0, 6, 7, 8, 9, 1] [(0, .ref (gA g 0 0)), (1, .ref (gA g 13 iq1)), (2, .int vq2), (3, .int vq3), (4, .int w6), (5, .int vq5), (6, .int vq6), (7, .int vq7), (8, .int vq8), (9, .int r4)] rfl ?_
        exact sX10_feltOnWalk_J69 ok iq1 vq2 vq3 w6 vq5 vq6 vq7 vq8 r4 h1 hk15 M5
      · refine r_lv [2, 3, 4, 5, 0, 8, 9, 1] [(0, .ref (gA g 0 0)), (1, .ref (gA g 13 iq1)), (2, .int vq2), (3, .int vq3), (4, .int w6), (7, .int vq7), (8, .int vq8), (9, .int r4)] rfl ?_
        exact sX10_feltOnWalk_J61 ok iq1 vq2 vq3 w6 vq7 vq8 r4 h1 hk15 M5
theorem sX10_feltOnWalk_L15 {g : GP} {l : Launch} {x : CT} (ok : Ok g l x RX10 cX10_feltOnWalk 10 (some FieldType.int) (rmL 7)) (iq1 : Nat) (vq2 : Int32) (vq3 : Int32) (h1 : iq1 < 4) : ∀ (n : Nat) (vq4 : Int32) (vq5 : Int32) (vq6 : Int32) (vq7 : Int32) (vq8 : Int32) (M : Mem), Sw g l x (FinQ g x eI) 10 0 0 15 [(0, .ref (gA g 0 0)), (1, .ref (gA g 13 iq1)), (2, .int vq2), (3, .int vq3), (4, .int vq4), (5, .int vq5), (6, .int vq6), (7, .int vq7), (8, .int vq8)] [] M (fX10_feltOnWalk_L15 iq1 vq2 vq3 n vq4 vq5 vq6 vq7 vq8 M) := by
  intro n
  induction n with
  | zero => intros; exact r_none
  | succ n ih => intro vq4 vq5 vq6 vq7 vq8 M; exact sX10_feltOnWalk_B15 ok iq1 vq2 vq3 h1 _ ih vq4 vq5 vq6 vq7 vq8 M
def fX10_feltOnWalk (iq1 : Nat) (vq2 : Int32) (vq3 : Int32) (M : Mem) : Option (Int32 × Mem) :=
  fX10_feltOnWalk_L15 iq1 vq2 vq3 FU 0 0 (-1) 0 0 M
set_option maxRecDepth 20000 in
theorem wX10_feltOnWalk {g : GP} {l : Launch} {x : CT} (ok : Ok g l x RX10 cX10_feltOnWalk 10 (some FieldType.int) (rmL 7)) (iq1 : Nat) (vq2 : Int32) (vq3 : Int32) (hq1 : iq1 < 4) (M : Mem) : Sw g l x (FinQ g x eI) 10 0 0 0 [(0, .ref (gA g 0 0)), (1, .ref (gA g 13 iq1)), (2, .int vq2), (3, .int vq3)] [] M (fX10_feltOnWalk iq1 vq2 vq3 M) := by
  unfold fX10_feltOnWalk
  refine r_iconst (pc := 0) ok 0 dX10_feltOnWalk_0 (by decide) ?_
  refine r_istore (pc := 1) ok [(4, .int 0), (0, .ref (gA g 0 0)), (1, .ref (gA g 13 iq1)), (2, .int vq2), (3, .int vq3)] dX10_feltOnWalk_1 (by decide) rfl ?_
  refine r_iconst (pc := 3) ok 0 dX10_feltOnWalk_3 (by decide) ?_
  refine r_istore (pc := 4) ok [(5, .int 0), (4, .int 0), (0, .ref (gA g 0 0)), (1, .ref (gA g 13 iq1)), (2, .int vq2), (3, .int vq3)] dX10_feltOnWalk_4 (by decide) rfl ?_
  refine r_iconst (pc := 6) ok (-1) dX10_feltOnWalk_6 (by decide) ?_
  refine r_istore (pc := 7) ok [(6, .int (-1)), (5, .int 0), (4, .int 0), (0, .ref (gA g 0 0)), (1, .ref (gA g 13 iq1)), (2, .int vq2), (3, .int vq3)] dX10_feltOnWalk_7 (by decide) rfl ?_
  refine r_iconst (pc := 9) ok 0 dX10_feltOnWalk_9 (by decide) ?_
  refine r_istore (pc := 10) ok [(7, .int 0), (6, .int (-1)), (5, .int 0), (4, .int 0), (0, .ref (gA g 0 0)), (1, .ref (gA g 13 iq1)), (2, .int vq2), (3, .int vq3)] dX10_feltOnWalk_10 (by decide) rfl ?_
  refine r_iconst (pc := 12) ok 0 dX10_feltOnWalk_12 (by decide) ?_
  refine r_istore (pc := 13) ok [(8, .int 0), (7, .int 0), (6, .int (-1)), (5, .int 0), (4, .int 0), (0, .ref (gA g 0 0)), (1, .ref (gA g 13 iq1)), (2, .int vq2), (3, .int vq3)] dX10_feltOnWalk_13 (by decide) rfl ?_
  refine r_lv [5, 6, 7, 8, 4, 3, 2, 1, 0] [(0, .ref (gA g 0 0)), (1, .ref (gA g 13 iq1)), (2, .int vq2), (3, .int vq3), (4, .int 0), (5, .int 0), (6, .int (-1)), (7, .int 0), (8, .int 0)] rfl ?_
  exact sX10_feltOnWalk_L15 ok iq1 vq2 vq3 hq1 FU 0 0 (-1) 0 0 M
theorem con_X10_feltOnWalk (g : GP) (l : Launch) (iq1 : Nat) (vq2 : Int32) (vq3 : Int32) (hq1 : iq1 < 4) (M : Mem) (r : Int32) (M2 : Mem) (h : fX10_feltOnWalk iq1 vq2 vq3 M = some (r, M2)) : Con g l yX10_feltOnWalk cX10_feltOnWalk 10 (some FieldType.int) (rmL 7) [.ref (gA g 0 0), .ref (gA g 13 iq1), .int vq2, .int vq3] M (eI r) M2 :=
  Con.of (own := RX10) (f := fX10_feltOnWalk iq1 vq2 vq3 M) (by decide) (Nat.le_of_ble_eq_true rfl) rfl (fun x ok => wX10_feltOnWalk ok iq1 vq2 vq3 hq1 M) r M2 h
def fX11_day  (M : Mem) : Option (Int32 × Mem) :=
  if (M 22 0 6) = 999 then
    (some (-3, M))
  else
    (ob (fX11_dayBut (-1) M) fun r1 M2 =>
    ob (fX11_allOf M2) fun r3 M4 =>
    some (r3, M4))
set_option maxRecDepth 20000 in
theorem wX11_day {g : GP} {l : Launch} {x : CT} (ok : Ok g l x RX11 cX11_day 1 (some FieldType.int) (rmL 7))   (M : Mem) : Sw g l x (FinQ g x eI) 1 0 0 0 [(0, .ref (gA g 22 0))] [] M (fX11_day  M) := by
  unfold fX11_day
  refine r_aload_n (pc := 0) ok 0 dX11_day_0 rfl ?_
  refine r_getI (pc := 1) ok fi_22_6 (by decide) fl_X11_92 dX11_day_1 ?_
  refine r_sipush (pc := 4) ok 999 dX11_day_4 (by decide) ?_
  refine r_icmp_ne (pc := 7) ok 13 dX11_day_7 (by decide) (fun _ => ?_) (fun _ => ?_)
  · refine r_bipush (pc := 10) ok (-3) dX11_day_10 (by decide) ?_
    exact r_iret (pc := 12) ok (Nat.zero_le _) (Nat.zero_le _) rfl dX11_day_12
  · refine r_aload_n (pc := 13) ok 0 dX11_day_13 rfl ?_
    refine r_iconst (pc := 14) ok (-1) dX11_day_14 (by decide) ?_
    refine r_callV0 (pc := 15) ok [.int (-1)] [] 6 (fun rZ MZ hZ => con_X11_dayBut g l (-1) _ rZ MZ hZ) cv_X11_191 ok_22 (rmOk_L (by decide) (by decide)) dX11_day_15 rfl rfl (Nat.le_of_ble_eq_true rfl) (fun r1 M2 => ?_)
    refine r_aload_n (pc := 18) ok 0 dX11_day_18 rfl ?_
    refine r_callV0 (pc := 19) ok [] [] 2 (fun rZ MZ hZ => con_X11_allOf g l  _ rZ MZ hZ) cv_X11_95 ok_22 (rmOk_L (by decide) (by decide)) dX11_day_19 rfl rfl (Nat.le_of_ble_eq_true rfl) (fun r3 M4 => ?_)
    exact r_iret (pc := 22) ok (Nat.zero_le _) (Nat.zero_le _) rfl dX11_day_22
theorem con_X11_day (g : GP) (l : Launch)   (M : Mem) (r : Int32) (M2 : Mem) (h : fX11_day  M = some (r, M2)) : Con g l yX11_day cX11_day 1 (some FieldType.int) (rmL 7) [.ref (gA g 22 0)] M (eI r) M2 :=
  Con.of (own := RX11) (f := fX11_day  M) (by decide) (Nat.le_of_ble_eq_true rfl) rfl (fun x ok => wX11_day ok   M) r M2 h
def fX11_run_J70 (s0 : Int32) (M : Mem) : Option (Int32 × Mem) :=
  ob (fX11_lays M) fun r9 M10 =>
  some (s0, M10)
set_option maxRecDepth 20000 in
theorem sX11_run_J70 {g : GP} {l : Launch} {x : CT} (ok : Ok g l x RX11 cX11_run 4 (some FieldType.int) (rmL 7)) (s0 : Int32)  (M : Mem) : Sw g l x (FinQ g x eI) 4 0 0 70 [(0, .ref (gA g 22 0))] [.int s0] M (fX11_run_J70 s0 M) := by
  unfold fX11_run_J70
  refine r_istore_n (pc := 70) ok [(3, .int s0), (0, .ref (gA g 22 0))] dX11_run_70 rfl (by decide) rfl ?_
  refine r_aload_n (pc := 71) ok 1 dX11_run_71 rfl ?_
  refine r_callV0 (pc := 72) ok [] [] 2 (fun rZ MZ hZ => con_X11_lays g l  _ rZ MZ hZ) cv_X11_197 ok_22 (rmOk_L (by decide) (by decide)) dX11_run_72 rfl rfl (Nat.le_of_ble_eq_true rfl) (fun r9 M10 => ?_)
  refine r_iload_n (pc := 75) ok 0 dX11_run_75 rfl ?_
  exact r_iret (pc := 76) ok (Nat.zero_le _) (Nat.zero_le _) rfl dX11_run_76
def fX11_run_B29 (vq1 : Int32) (vq2 : Int32) (k29 : Int32 → Mem → Option (Int32 × Mem)) (vq3 : Int32) (M : Mem) : Option (Int32 × Mem) :=
  if vq1 ≤ vq3 then
    (if vq2 = 36 then
      (ob (fX11_allOf M) fun r11 M12 =>
      fX11_run_J70 r11 M12)
    else
      (ob (fX11_within vq2 0 35 M) fun r7 M8 =>
      gd (inb r7 36)
      (fX11_run_J70 (M8 27 0 r7.toNatClampNeg) M8)))
  else
    (ob (fX11_dayBut (-1) M) fun r13 M14 =>
    k29 (vq3 + 1) M14)
def fX11_run_L29 (vq1 : Int32) (vq2 : Int32) : Nat → Int32 → Mem → Option (Int32 × Mem)
  | 0, _, _ => none
  | n + 1, vq3, M => fX11_run_B29 vq1 vq2 (fX11_run_L29 vq1 vq2 n) vq3 M
set_option maxRecDepth 20000 in
theorem sX11_run_B29 {g : GP} {l : Launch} {x : CT} (ok : Ok g l x RX11 cX11_run 4 (some FieldType.int) (rmL 7)) (vq1 : Int32) (vq2 : Int32)  (k29 : Int32 → Mem → Option (Int32 × Mem)) (hk29 : ∀ (vq3 : Int32) (M : Mem), Sw g l x (FinQ g x eI) 4 0 0 29 [(0, .ref (gA g 22 0)), (1, .int vq1), (2, .int vq2), (3, .int vq3)] [] M (k29 vq3 M)) (vq3 : Int32) (M : Mem) : Sw g l x (FinQ g x eI) 4 0 0 29 [(0, .ref (gA g 22 0)), (1, .int vq1), (2, .int vq2), (3, .int vq3)] [] M (fX11_run_B29 vq1 vq2 k29 vq3 M) := by
  unfold fX11_run_B29
  refine r_iload_n (pc := 29) ok 3 dX11_run_29 rfl ?_
  refine r_iload_n (pc := 30) ok 1 dX11_run_30 rfl ?_
  refine r_icmp_ge (pc := 31) ok 45 dX11_run_31 (by decide) (fun _ => ?_) (fun _ => ?_)
  · refine r_iload_n (pc := 45) ok 2 dX11_run_45 rfl ?_
    refine r_bipush (pc := 46) ok 36 dX11_run_46 (by decide) ?_
    refine r_icmp_ne (pc := 48) ok 58 dX11_run_48 (by decide) (fun _ => ?_) (fun _ => ?_)
    · refine r_aload_n (pc := 51) ok 0 dX11_run_51 rfl ?_
      refine r_callV0 (pc := 52) ok [] [] 2 (fun rZ MZ hZ => con_X11_allOf g l  _ rZ MZ hZ) cv_X11_95 ok_22 (rmOk_L (by decide) (by decide)) dX11_run_52 rfl rfl (Nat.le_of_ble_eq_true rfl) (fun r11 M12 => ?_)
      refine r_goto (pc := 55) ok 70 dX11_run_55 (by decide) ?_
      refine r_lv [0] [(0, .ref (gA g 22 0))] rfl ?_
      exact sX11_run_J70 ok r11 M12
    · refine r_aload_n (pc := 58) ok 0 dX11_run_58 rfl ?_
      refine r_getR (pc := 59) ok fr_22_5 (by decide) fl_X11_22 dX11_run_59 ?_
      refine r_iload_n (pc := 62) ok 2 dX11_run_62 rfl ?_
      refine r_iconst (pc := 63) ok 0 dX11_run_63 (by decide) ?_
      refine r_bipush (pc := 64) ok 35 dX11_run_64 (by decide) ?_
      refine r_callS0 (pc := 66) ok [.int vq2, .int 0, .int 35] [.ref (gA g 27 0)] 2 (fun rZ MZ hZ => con_X11_within g l vq2 0 35 _ rZ MZ hZ) cs_X11_173 (rmOk_L (by decide) (by decide)) dX11_run_66 rfl rfl (Nat.le_of_ble_eq_true rfl) (fun r7 M8 => ?_)
      refine r_iald (pc := 69) ok ik_27 (by decide) dX11_run_69 (fun _ => ?_)
      refine r_lv [0] [(0, .ref (gA g 22 0))] rfl ?_
      exact sX11_run_J70 ok (M8 27 0 r7.toNatClampNeg) M8
  · refine r_aload_n (pc := 34) ok 0 dX11_run_34 rfl ?_
    refine r_iconst (pc := 35) ok (-1) dX11_run_35 (by decide) ?_
    refine r_callV0 (pc := 36) ok [.int (-1)] [] 6 (fun rZ MZ hZ => con_X11_dayBut g l (-1) _ rZ MZ hZ) cv_X11_191 ok_22 (rmOk_L (by decide) (by decide)) dX11_run_36 rfl rfl (Nat.le_of_ble_eq_true rfl) (fun r13 M14 => ?_)
    refine r_iinc (pc := 39) ok 3 (vq3 + 1) [(3, .int (vq3 + 1)), (0, .ref (gA g 22 0)), (1, .int vq1), (2, .int vq2)] dX11_run_39 rfl (congrArg (fun z => vq3 + z) (by decide : Int32.ofInt 1 = (1 : Int32))) (by decide) rfl ?_
    refine r_goto (pc := 42) ok 29 dX11_run_42 (by decide) ?_
    refine r_lv [1, 2, 3, 0] [(0, .ref (gA g 22 0)), (1, .int vq1), (2, .int vq2), (3, .int (vq3 + 1))] rfl ?_
    exact hk29 (vq3 + 1) M14
theorem sX11_run_L29 {g : GP} {l : Launch} {x : CT} (ok : Ok g l x RX11 cX11_run 4 (some FieldType.int) (rmL 7)) (vq1 : Int32) (vq2 : Int32)  : ∀ (n : Nat) (vq3 : Int32) (M : Mem), Sw g l x (FinQ g x eI) 4 0 0 29 [(0, .ref (gA g 22 0)), (1, .int vq1), (2, .int vq2), (3, .int vq3)] [] M (fX11_run_L29 vq1 vq2 n vq3 M) := by
  intro n
  induction n with
  | zero => intros; exact r_none
  | succ n ih => intro vq3 M; exact sX11_run_B29 ok vq1 vq2  _ ih vq3 M
def fX11_run (vq1 : Int32) (vq2 : Int32) (M : Mem) : Option (Int32 × Mem) :=
  ob (fX11_in vq1 0 40 M) fun r1 M2 =>
  if r1 = 0 then
    (some (-2, M2))
  else
    (ob (fX11_in vq2 0 36 M2) fun r3 M4 =>
    if r3 = 0 then
      (some (-2, M4))
    else
      (ob (fX11_keeps M4) fun r5 M6 =>
      fX11_run_L29 vq1 vq2 FU 0 M6))
set_option maxRecDepth 20000 in
theorem wX11_run {g : GP} {l : Launch} {x : CT} (ok : Ok g l x RX11 cX11_run 4 (some FieldType.int) (rmL 7)) (vq1 : Int32) (vq2 : Int32)  (M : Mem) : Sw g l x (FinQ g x eI) 4 0 0 0 [(0, .ref (gA g 22 0)), (1, .int vq1), (2, .int vq2)] [] M (fX11_run vq1 vq2 M) := by
  unfold fX11_run
  refine r_iload_n (pc := 0) ok 1 dX11_run_0 rfl ?_
  refine r_iconst (pc := 1) ok 0 dX11_run_1 (by decide) ?_
  refine r_bipush (pc := 2) ok 40 dX11_run_2 (by decide) ?_
  refine r_callS0 (pc := 4) ok [.int vq1, .int 0, .int 40] [] 2 (fun rZ MZ hZ => con_X11_in g l vq1 0 40 _ rZ MZ hZ) cs_X11_84 (rmOk_L (by decide) (by decide)) dX11_run_4 rfl rfl (Nat.le_of_ble_eq_true rfl) (fun r1 M2 => ?_)
  refine r_if_eq (pc := 7) ok 20 dX11_run_7 (by decide) (fun _ => ?_) (fun _ => ?_)
  · refine r_bipush (pc := 20) ok (-2) dX11_run_20 (by decide) ?_
    exact r_iret (pc := 22) ok (Nat.zero_le _) (Nat.zero_le _) rfl dX11_run_22
  · refine r_iload_n (pc := 10) ok 2 dX11_run_10 rfl ?_
    refine r_iconst (pc := 11) ok 0 dX11_run_11 (by decide) ?_
    refine r_bipush (pc := 12) ok 36 dX11_run_12 (by decide) ?_
    refine r_callS0 (pc := 14) ok [.int vq2, .int 0, .int 36] [] 2 (fun rZ MZ hZ => con_X11_in g l vq2 0 36 _ rZ MZ hZ) cs_X11_84 (rmOk_L (by decide) (by decide)) dX11_run_14 rfl rfl (Nat.le_of_ble_eq_true rfl) (fun r3 M4 => ?_)
    refine r_if_ne (pc := 17) ok 23 dX11_run_17 (by decide) (fun _ => ?_) (fun _ => ?_)
    · refine r_bipush (pc := 20) ok (-2) dX11_run_20 (by decide) ?_
      exact r_iret (pc := 22) ok (Nat.zero_le _) (Nat.zero_le _) rfl dX11_run_22
    · refine r_aload_n (pc := 23) ok 0 dX11_run_23 rfl ?_
      refine r_callV0 (pc := 24) ok [] [] 2 (fun rZ MZ hZ => con_X11_keeps g l  _ rZ MZ hZ) cv_X11_194 ok_22 (rmOk_L (by decide) (by decide)) dX11_run_24 rfl rfl (Nat.le_of_ble_eq_true rfl) (fun r5 M6 => ?_)
      refine r_iconst (pc := 27) ok 0 dX11_run_27 (by decide) ?_
      refine r_istore_n (pc := 28) ok [(3, .int 0), (0, .ref (gA g 22 0)), (1, .int vq1), (2, .int vq2)] dX11_run_28 rfl (by decide) rfl ?_
      refine r_lv [1, 2, 3, 0] [(0, .ref (gA g 22 0)), (1, .int vq1), (2, .int vq2), (3, .int 0)] rfl ?_
      exact sX11_run_L29 ok vq1 vq2 FU 0 M6
theorem con_X11_run (g : GP) (l : Launch) (vq1 : Int32) (vq2 : Int32)  (M : Mem) (r : Int32) (M2 : Mem) (h : fX11_run vq1 vq2 M = some (r, M2)) : Con g l yX11_run cX11_run 4 (some FieldType.int) (rmL 7) [.ref (gA g 22 0), .int vq1, .int vq2] M (eI r) M2 :=
  Con.of (own := RX11) (f := fX11_run vq1 vq2 M) (by decide) (Nat.le_of_ble_eq_true rfl) rfl (fun x ok => wX11_run ok vq1 vq2  M) r M2 h
def fX11_sinks_J73 (vq3 : Int32) (M : Mem) : Option (Int32 × Mem) :=
  ob (fX11_lays M) fun r7 M8 =>
  some (vq3, M8)
set_option maxRecDepth 20000 in
theorem sX11_sinks_J73 {g : GP} {l : Launch} {x : CT} (ok : Ok g l x RX11 cX11_sinks 5 (some FieldType.int) (rmL 7)) (vq3 : Int32)  (M : Mem) : Sw g l x (FinQ g x eI) 5 0 0 73 [(0, .ref (gA g 22 0)), (3, .int vq3)] [] M (fX11_sinks_J73 vq3 M) := by
  unfold fX11_sinks_J73
  refine r_aload_n (pc := 73) ok 0 dX11_sinks_73 rfl ?_
  refine r_callV0 (pc := 74) ok [] [] 2 (fun rZ MZ hZ => con_X11_lays g l  _ rZ MZ hZ) cv_X11_197 ok_22 (rmOk_L (by decide) (by decide)) dX11_sinks_74 rfl rfl (Nat.le_of_ble_eq_true rfl) (fun r7 M8 => ?_)
  refine r_iload_n (pc := 77) ok 1 dX11_sinks_77 rfl ?_
  exact r_iret (pc := 78) ok (Nat.zero_le _) (Nat.zero_le _) rfl dX11_sinks_78
def fX11_sinks_J61 (k33 : Int32 → Int32 → Mem → Option (Int32 × Mem)) (vq1 : Int32) (vq2 : Int32) (vq4 : Int32) (s0 : Int32) (M : Mem) : Option (Int32 × Mem) :=
  ob (fX11_dayBut (-1) M) fun r9 M10 =>
  k33 s0 (vq4 + 1) M10
set_option maxRecDepth 20000 in
theorem sX11_sinks_J61 {g : GP} {l : Launch} {x : CT} {k33 : Int32 → Int32 → Mem → Option (Int32 × Mem)} (ok : Ok g l x RX11 cX11_sinks 5 (some FieldType.int) (rmL 7)) (vq1 : Int32) (vq2 : Int32) (vq4 : Int32) (s0 : Int32)  (hk33 : ∀ (vq3 : Int32) (vq4 : Int32) (M : Mem), Sw g l x (FinQ g x eI) 5 0 0 33 [(0, .ref (gA g 22 0)), (1, .int vq1), (2, .int vq2), (3, .int vq3), (4, .int vq4)] [] M (k33 vq3 vq4 M)) (M : Mem) : Sw g l x (FinQ g x eI) 5 0 0 61 [(0, .ref (gA g 22 0)), (1, .int vq1), (2, .int vq2), (4, .int vq4)] [.int s0] M (fX11_sinks_J61 k33 vq1 vq2 vq4 s0 M) := by
  unfold fX11_sinks_J61
  refine r_istore_n (pc := 61) ok [(3, .int s0), (0, .ref (gA g 22 0)), (1, .int vq1), (2, .int vq2), (4, .int vq4)] dX11_sinks_61 rfl (by decide) rfl ?_
  refine r_aload_n (pc := 62) ok 1 dX11_sinks_62 rfl ?_
  refine r_iconst (pc := 63) ok (-1) dX11_sinks_63 (by decide) ?_
  refine r_callV0 (pc := 64) ok [.int (-1)] [] 6 (fun rZ MZ hZ => con_X11_dayBut g l (-1) _ rZ MZ hZ) cv_X11_191 ok_22 (rmOk_L (by decide) (by decide)) dX11_sinks_64 rfl rfl (Nat.le_of_ble_eq_true rfl) (fun r9 M10 => ?_)
  refine r_iinc (pc := 67) ok 4 (vq4 + 1) [(4, .int (vq4 + 1)), (3, .int s0), (0, .ref (gA g 22 0)), (1, .int vq1), (2, .int vq2)] dX11_sinks_67 rfl (congrArg (fun z => vq4 + z) (by decide : Int32.ofInt 1 = (1 : Int32))) (by decide) rfl ?_
  refine r_goto (pc := 70) ok 33 dX11_sinks_70 (by decide) ?_
  refine r_lv [2, 3, 4, 1, 0] [(0, .ref (gA g 22 0)), (1, .int vq1), (2, .int vq2), (3, .int s0), (4, .int (vq4 + 1))] rfl ?_
  exact hk33 s0 (vq4 + 1) M10
def fX11_sinks_B33 (vq1 : Int32) (vq2 : Int32) (k33 : Int32 → Int32 → Mem → Option (Int32 × Mem)) (vq3 : Int32) (vq4 : Int32) (M : Mem) : Option (Int32 × Mem) :=
  if 40 < vq4 then
    (fX11_sinks_J73 vq3 M)
  else
    (if vq3 = (-1) then
      (gd (inb vq1 36)
      (if (M 27 0 vq1.toNatClampNeg) < vq2 then
        (fX11_sinks_J61 k33 vq1 vq2 vq4 (-1) M)
      else
        (fX11_sinks_J61 k33 vq1 vq2 vq4 vq4 M)))
    else
      (fX11_sinks_J73 vq3 M))
def fX11_sinks_L33 (vq1 : Int32) (vq2 : Int32) : Nat → Int32 → Int32 → Mem → Option (Int32 × Mem)
  | 0, _, _, _ => none
  | n + 1, vq3, vq4, M => fX11_sinks_B33 vq1 vq2 (fX11_sinks_L33 vq1 vq2 n) vq3 vq4 M
set_option maxRecDepth 20000 in
theorem sX11_sinks_B33 {g : GP} {l : Launch} {x : CT} (ok : Ok g l x RX11 cX11_sinks 5 (some FieldType.int) (rmL 7)) (vq1 : Int32) (vq2 : Int32)  (k33 : Int32 → Int32 → Mem → Option (Int32 × Mem)) (hk33 : ∀ (vq3 : Int32) (vq4 : Int32) (M : Mem), Sw g l x (FinQ g x eI) 5 0 0 33 [(0, .ref (gA g 22 0)), (1, .int vq1), (2, .int vq2), (3, .int vq3), (4, .int vq4)] [] M (k33 vq3 vq4 M)) (vq3 : Int32) (vq4 : Int32) (M : Mem) : Sw g l x (FinQ g x eI) 5 0 0 33 [(0, .ref (gA g 22 0)), (1, .int vq1), (2, .int vq2), (3, .int vq3), (4, .int vq4)] [] M (fX11_sinks_B33 vq1 vq2 k33 vq3 vq4 M) := by
  unfold fX11_sinks_B33
  refine r_iload (pc := 33) ok 4 dX11_sinks_33 rfl ?_
  refine r_bipush (pc := 35) ok 40 dX11_sinks_35 (by decide) ?_
  refine r_icmp_gt (pc := 37) ok 73 dX11_sinks_37 (by decide) (fun _ => ?_) (fun _ => ?_)
  · refine r_lv [0, 3] [(0, .ref (gA g 22 0)), (3, .int vq3)] rfl ?_
    exact sX11_sinks_J73 ok vq3 M
  · refine r_iload_n (pc := 40) ok 3 dX11_sinks_40 rfl ?_
    refine r_iconst (pc := 41) ok (-1) dX11_sinks_41 (by decide) ?_
    refine r_icmp_ne (pc := 42) ok 73 dX11_sinks_42 (by decide) (fun _ => ?_) (fun _ => ?_)
    · refine r_aload_n (pc := 45) ok 0 dX11_sinks_45 rfl ?_
      refine r_getR (pc := 46) ok fr_22_5 (by decide) fl_X11_22 dX11_sinks_46 ?_
      refine r_iload_n (pc := 49) ok 1 dX11_sinks_49 rfl ?_
      refine r_iald (pc := 50) ok ik_27 (by decide) dX11_sinks_50 (fun _ => ?_)
      refine r_iload_n (pc := 51) ok 2 dX11_sinks_51 rfl ?_
      refine r_icmp_lt (pc := 52) ok 60 dX11_sinks_52 (by decide) (fun _ => ?_) (fun _ => ?_)
      · refine r_iconst (pc := 60) ok (-1) dX11_sinks_60 (by decide) ?_
        refine r_lv [0, 1, 2, 4] [(0, .ref (gA g 22 0)), (1, .int vq1), (2, .int vq2), (4, .int vq4)] rfl ?_
        exact sX11_sinks_J61 ok vq1 vq2 vq4 (-1) hk33 M
      · refine r_iload (pc := 55) ok 4 dX11_sinks_55 rfl ?_
        refine r_goto (pc := 57) ok 61 dX11_sinks_57 (by decide) ?_
        refine r_lv [0, 1, 2, 4] [(0, .ref (gA g 22 0)), (1, .int vq1), (2, .int vq2), (4, .int vq4)] rfl ?_
        exact sX11_sinks_J61 ok vq1 vq2 vq4 vq4 hk33 M
    · refine r_lv [0, 3] [(0, .ref (gA g 22 0)), (3, .int vq3)] rfl ?_
      exact sX11_sinks_J73 ok vq3 M
theorem sX11_sinks_L33 {g : GP} {l : Launch} {x : CT} (ok : Ok g l x RX11 cX11_sinks 5 (some FieldType.int) (rmL 7)) (vq1 : Int32) (vq2 : Int32)  : ∀ (n : Nat) (vq3 : Int32) (vq4 : Int32) (M : Mem), Sw g l x (FinQ g x eI) 5 0 0 33 [(0, .ref (gA g 22 0)), (1, .int vq1), (2, .int vq2), (3, .int vq3), (4, .int vq4)] [] M (fX11_sinks_L33 vq1 vq2 n vq3 vq4 M) := by
  intro n
  induction n with
  | zero => intros; exact r_none
  | succ n ih => intro vq3 vq4 M; exact sX11_sinks_B33 ok vq1 vq2  _ ih vq3 vq4 M
def fX11_sinks (vq1 : Int32) (vq2 : Int32) (M : Mem) : Option (Int32 × Mem) :=
  ob (fX11_isCell vq1 M) fun r1 M2 =>
  if r1 = 0 then
    (some (-5, M2))
  else
    (ob (fX11_in vq2 0 999 M2) fun r3 M4 =>
    if r3 = 0 then
      (some (-7, M4))
    else
      (ob (fX11_keeps M4) fun r5 M6 =>
      fX11_sinks_L33 vq1 vq2 FU (-1) 0 M6))
set_option maxRecDepth 20000 in
theorem wX11_sinks {g : GP} {l : Launch} {x : CT} (ok : Ok g l x RX11 cX11_sinks 5 (some FieldType.int) (rmL 7)) (vq1 : Int32) (vq2 : Int32)  (M : Mem) : Sw g l x (FinQ g x eI) 5 0 0 0 [(0, .ref (gA g 22 0)), (1, .int vq1), (2, .int vq2)] [] M (fX11_sinks vq1 vq2 M) := by
  unfold fX11_sinks
  refine r_iload_n (pc := 0) ok 1 dX11_sinks_0 rfl ?_
  refine r_callS0 (pc := 1) ok [.int vq1] [] 3 (fun rZ MZ hZ => con_X11_isCell g l vq1 _ rZ MZ hZ) cs_X11_104 (rmOk_L (by decide) (by decide)) dX11_sinks_1 rfl rfl (Nat.le_of_ble_eq_true rfl) (fun r1 M2 => ?_)
  refine r_if_ne (pc := 4) ok 10 dX11_sinks_4 (by decide) (fun _ => ?_) (fun _ => ?_)
  · refine r_bipush (pc := 7) ok (-5) dX11_sinks_7 (by decide) ?_
    exact r_iret (pc := 9) ok (Nat.zero_le _) (Nat.zero_le _) rfl dX11_sinks_9
  · refine r_iload_n (pc := 10) ok 2 dX11_sinks_10 rfl ?_
    refine r_iconst (pc := 11) ok 0 dX11_sinks_11 (by decide) ?_
    refine r_sipush (pc := 12) ok 999 dX11_sinks_12 (by decide) ?_
    refine r_callS0 (pc := 15) ok [.int vq2, .int 0, .int 999] [] 2 (fun rZ MZ hZ => con_X11_in g l vq2 0 999 _ rZ MZ hZ) cs_X11_84 (rmOk_L (by decide) (by decide)) dX11_sinks_15 rfl rfl (Nat.le_of_ble_eq_true rfl) (fun r3 M4 => ?_)
    refine r_if_ne (pc := 18) ok 24 dX11_sinks_18 (by decide) (fun _ => ?_) (fun _ => ?_)
    · refine r_bipush (pc := 21) ok (-7) dX11_sinks_21 (by decide) ?_
      exact r_iret (pc := 23) ok (Nat.zero_le _) (Nat.zero_le _) rfl dX11_sinks_23
    · refine r_iconst (pc := 24) ok (-1) dX11_sinks_24 (by decide) ?_
      refine r_istore_n (pc := 25) ok [(3, .int (-1)), (0, .ref (gA g 22 0)), (1, .int vq1), (2, .int vq2)] dX11_sinks_25 rfl (by decide) rfl ?_
      refine r_aload_n (pc := 26) ok 1 dX11_sinks_26 rfl ?_
      refine r_callV0 (pc := 27) ok [] [] 2 (fun rZ MZ hZ => con_X11_keeps g l  _ rZ MZ hZ) cv_X11_194 ok_22 (rmOk_L (by decide) (by decide)) dX11_sinks_27 rfl rfl (Nat.le_of_ble_eq_true rfl) (fun r5 M6 => ?_)
      refine r_iconst (pc := 30) ok 0 dX11_sinks_30 (by decide) ?_
      refine r_istore (pc := 31) ok [(4, .int 0), (3, .int (-1)), (0, .ref (gA g 22 0)), (1, .int vq1), (2, .int vq2)] dX11_sinks_31 (by decide) rfl ?_
      refine r_lv [2, 3, 4, 1, 0] [(0, .ref (gA g 22 0)), (1, .int vq1), (2, .int vq2), (3, .int (-1)), (4, .int 0)] rfl ?_
      exact sX11_sinks_L33 ok vq1 vq2 FU (-1) 0 M6
theorem con_X11_sinks (g : GP) (l : Launch) (vq1 : Int32) (vq2 : Int32)  (M : Mem) (r : Int32) (M2 : Mem) (h : fX11_sinks vq1 vq2 M = some (r, M2)) : Con g l yX11_sinks cX11_sinks 5 (some FieldType.int) (rmL 7) [.ref (gA g 22 0), .int vq1, .int vq2] M (eI r) M2 :=
  Con.of (own := RX11) (f := fX11_sinks vq1 vq2 M) (by decide) (Nat.le_of_ble_eq_true rfl) rfl (fun x ok => wX11_sinks ok vq1 vq2  M) r M2 h
def fX11_tread_B19 (vq1 : Int32) (vq2 : Int32) (k19 : Int32 → Int32 → Mem → Option (Int32 × Mem)) (vq4 : Int32) (vq5 : Int32) (M : Mem) : Option (Int32 × Mem) :=
  gd (inb vq1 4)
  (if (M 34 0 vq1.toNatClampNeg) ≤ vq5 then
    (some (vq4, M))
  else
    (gd (inb ((40 * vq1) + vq5) 160)
    (ob (fX11_wearsNow vq2 (M 35 0 ((40 * vq1) + vq5).toNatClampNeg) M) fun r3 M4 =>
    lt (vq4 + r3) fun w5 =>
    k19 w5 (vq5 + 1) M4)))
def fX11_tread_L19 (vq1 : Int32) (vq2 : Int32) : Nat → Int32 → Int32 → Mem → Option (Int32 × Mem)
  | 0, _, _, _ => none
  | n + 1, vq4, vq5, M => fX11_tread_B19 vq1 vq2 (fX11_tread_L19 vq1 vq2 n) vq4 vq5 M
set_option maxRecDepth 20000 in
theorem sX11_tread_B19 {g : GP} {l : Launch} {x : CT} (ok : Ok g l x RX11 cX11_tread 6 (some FieldType.int) (rmL 7)) (vq1 : Int32) (vq2 : Int32)  (k19 : Int32 → Int32 → Mem → Option (Int32 × Mem)) (hk19 : ∀ (vq4 : Int32) (vq5 : Int32) (M : Mem), Sw g l x (FinQ g x eI) 6 0 0 19 [(0, .ref (gA g 22 0)), (1, .int vq1), (2, .int vq2), (4, .int vq4), (5, .int vq5)] [] M (k19 vq4 vq5 M)) (vq4 : Int32) (vq5 : Int32) (M : Mem) : Sw g l x (FinQ g x eI) 6 0 0 19 [(0, .ref (gA g 22 0)), (1, .int vq1), (2, .int vq2), (4, .int vq4), (5, .int vq5)] [] M (fX11_tread_B19 vq1 vq2 k19 vq4 vq5 M) := by
  unfold fX11_tread_B19
  refine r_iload (pc := 19) ok 4 dX11_tread_19 rfl ?_
  refine r_aload_n (pc := 21) ok 0 dX11_tread_21 rfl ?_
  refine r_getR (pc := 22) ok fr_22_17 (by decide) fl_X11_43 dX11_tread_22 ?_
  refine r_iload_n (pc := 25) ok 1 dX11_tread_25 rfl ?_
  refine r_iald (pc := 26) ok ik_34 (by decide) dX11_tread_26 (fun _ => ?_)
  refine r_icmp_ge (pc := 27) ok 58 dX11_tread_27 (by decide) (fun _ => ?_) (fun _ => ?_)
  · refine r_iload (pc := 58) ok 3 dX11_tread_58 rfl ?_
    exact r_iret (pc := 60) ok (Nat.zero_le _) (Nat.zero_le _) rfl dX11_tread_60
  · refine r_iload (pc := 30) ok 3 dX11_tread_30 rfl ?_
    refine r_aload_n (pc := 32) ok 0 dX11_tread_32 rfl ?_
    refine r_iload_n (pc := 33) ok 2 dX11_tread_33 rfl ?_
    refine r_aload_n (pc := 34) ok 0 dX11_tread_34 rfl ?_
    refine r_getR (pc := 35) ok fr_22_18 (by decide) fl_X11_46 dX11_tread_35 ?_
    refine r_bipush (pc := 38) ok 40 dX11_tread_38 (by decide) ?_
    refine r_iload_n (pc := 40) ok 1 dX11_tread_40 rfl ?_
    refine r_imul (pc := 41) ok dX11_tread_41 ?_
    refine r_iload (pc := 42) ok 4 dX11_tread_42 rfl ?_
    refine r_iadd (pc := 44) ok dX11_tread_44 ?_
    refine r_iald (pc := 45) ok ik_35 (by decide) dX11_tread_45 (fun _ => ?_)
    refine r_callV0 (pc := 46) ok [.int vq2, .int (M 35 0 ((40 * vq1) + vq5).toNatClampNeg)] [.int vq4] 6 (fun rZ MZ hZ => con_X11_wearsNow g l vq2 (M 35 0 ((40 * vq1) + vq5).toNatClampNeg) _ rZ MZ hZ) cv_X11_209 ok_22 (rmOk_L (by decide) (by decide)) dX11_tread_46 rfl rfl (Nat.le_of_ble_eq_true rfl) (fun r3 M4 => ?_)
    refine r_iadd (pc := 49) ok dX11_tread_49 ?_
    refine r_nmi (fun w5 => ?_)
    refine r_istore (pc := 50) ok [(4, .int w5), (0, .ref (gA g 22 0)), (1, .int vq1), (2, .int vq2), (5, .int vq5)] dX11_tread_50 (by decide) rfl ?_
    refine r_iinc (pc := 52) ok 4 (vq5 + 1) [(5, .int (vq5 + 1)), (4, .int w5), (0, .ref (gA g 22 0)), (1, .int vq1), (2, .int vq2)] dX11_tread_52 rfl (congrArg (fun z => vq5 + z) (by decide : Int32.ofInt 1 = (1 : Int32))) (by decide) rfl ?_
    refine r_goto (pc := 55) ok 19 dX11_tread_55 (by decide) ?_
    refine r_lv [2, 3, 4, 1, 0] [(0, .ref (gA g 22 0)), (1, .int vq1), (2, .int vq2), (4, .int w5), (5, .int (vq5 + 1))] rfl ?_
    exact hk19 w5 (vq5 + 1) M4
theorem sX11_tread_L19 {g : GP} {l : Launch} {x : CT} (ok : Ok g l x RX11 cX11_tread 6 (some FieldType.int) (rmL 7)) (vq1 : Int32) (vq2 : Int32)  : ∀ (n : Nat) (vq4 : Int32) (vq5 : Int32) (M : Mem), Sw g l x (FinQ g x eI) 6 0 0 19 [(0, .ref (gA g 22 0)), (1, .int vq1), (2, .int vq2), (4, .int vq4), (5, .int vq5)] [] M (fX11_tread_L19 vq1 vq2 n vq4 vq5 M) := by
  intro n
  induction n with
  | zero => intros; exact r_none
  | succ n ih => intro vq4 vq5 M; exact sX11_tread_B19 ok vq1 vq2  _ ih vq4 vq5 M
def fX11_tread (vq1 : Int32) (vq2 : Int32) (M : Mem) : Option (Int32 × Mem) :=
  ob (fX11_walkWrong vq1 vq2 M) fun r1 M2 =>
  if r1 = 0 then
    (fX11_tread_L19 vq1 vq2 FU 0 0 M2)
  else
    (some (r1, M2))
set_option maxRecDepth 20000 in
theorem wX11_tread {g : GP} {l : Launch} {x : CT} (ok : Ok g l x RX11 cX11_tread 6 (some FieldType.int) (rmL 7)) (vq1 : Int32) (vq2 : Int32)  (M : Mem) : Sw g l x (FinQ g x eI) 6 0 0 0 [(0, .ref (gA g 22 0)), (1, .int vq1), (2, .int vq2)] [] M (fX11_tread vq1 vq2 M) := by
  unfold fX11_tread
  refine r_aload_n (pc := 0) ok 0 dX11_tread_0 rfl ?_
  refine r_iload_n (pc := 1) ok 1 dX11_tread_1 rfl ?_
  refine r_iload_n (pc := 2) ok 2 dX11_tread_2 rfl ?_
  refine r_callV0 (pc := 3) ok [.int vq1, .int vq2] [] 4 (fun rZ MZ hZ => con_X11_walkWrong g l vq1 vq2 _ rZ MZ hZ) cv_X11_200 ok_22 (rmOk_L (by decide) (by decide)) dX11_tread_3 rfl rfl (Nat.le_of_ble_eq_true rfl) (fun r1 M2 => ?_)
  refine r_istore_n (pc := 6) ok [(3, .int r1), (0, .ref (gA g 22 0)), (1, .int vq1), (2, .int vq2)] dX11_tread_6 rfl (by decide) rfl ?_
  refine r_iload_n (pc := 7) ok 0 dX11_tread_7 rfl ?_
  refine r_if_eq (pc := 8) ok 13 dX11_tread_8 (by decide) (fun _ => ?_) (fun _ => ?_)
  · refine r_iconst (pc := 13) ok 0 dX11_tread_13 (by decide) ?_
    refine r_istore (pc := 14) ok [(4, .int 0), (3, .int r1), (0, .ref (gA g 22 0)), (1, .int vq1), (2, .int vq2)] dX11_tread_14 (by decide) rfl ?_
    refine r_iconst (pc := 16) ok 0 dX11_tread_16 (by decide) ?_
    refine r_istore (pc := 17) ok [(5, .int 0), (4, .int 0), (3, .int r1), (0, .ref (gA g 22 0)), (1, .int vq1), (2, .int vq2)] dX11_tread_17 (by decide) rfl ?_
    refine r_lv [3, 4, 5, 1, 0] [(0, .ref (gA g 22 0)), (1, .int vq1), (2, .int vq2), (4, .int 0), (5, .int 0)] rfl ?_
    exact sX11_tread_L19 ok vq1 vq2 FU 0 0 M2
  · refine r_iload_n (pc := 11) ok 0 dX11_tread_11 rfl ?_
    exact r_iret (pc := 12) ok (Nat.zero_le _) (Nat.zero_le _) rfl dX11_tread_12
theorem con_X11_tread (g : GP) (l : Launch) (vq1 : Int32) (vq2 : Int32)  (M : Mem) (r : Int32) (M2 : Mem) (h : fX11_tread vq1 vq2 M = some (r, M2)) : Con g l yX11_tread cX11_tread 6 (some FieldType.int) (rmL 7) [.ref (gA g 22 0), .int vq1, .int vq2] M (eI r) M2 :=
  Con.of (own := RX11) (f := fX11_tread vq1 vq2 M) (by decide) (Nat.le_of_ble_eq_true rfl) rfl (fun x ok => wX11_tread ok vq1 vq2  M) r M2 h
def fX11_allWithout_B6 (vq1 : Int32) (vq2 : Int32) (k6 : Int32 → Mem → Option (Int32 × Mem)) (vq3 : Int32) (M : Mem) : Option (Int32 × Mem) :=
  if vq2 ≤ vq3 then
    (ob (fX11_allOf M) fun r3 M4 =>
    ob (fX11_lays M4) fun r5 M6 =>
    some (r3, M6))
  else
    (ob (fX11_dayBut vq1 M) fun r7 M8 =>
    k6 (vq3 + 1) M8)
def fX11_allWithout_L6 (vq1 : Int32) (vq2 : Int32) : Nat → Int32 → Mem → Option (Int32 × Mem)
  | 0, _, _ => none
  | n + 1, vq3, M => fX11_allWithout_B6 vq1 vq2 (fX11_allWithout_L6 vq1 vq2 n) vq3 M
set_option maxRecDepth 20000 in
theorem sX11_allWithout_B6 {g : GP} {l : Launch} {x : CT} (ok : Ok g l x RX11 cX11_allWithout 4 (some FieldType.int) (rmL 7)) (vq1 : Int32) (vq2 : Int32)  (k6 : Int32 → Mem → Option (Int32 × Mem)) (hk6 : ∀ (vq3 : Int32) (M : Mem), Sw g l x (FinQ g x eI) 4 0 0 6 [(0, .ref (gA g 22 0)), (1, .int vq1), (2, .int vq2), (3, .int vq3)] [] M (k6 vq3 M)) (vq3 : Int32) (M : Mem) : Sw g l x (FinQ g x eI) 4 0 0 6 [(0, .ref (gA g 22 0)), (1, .int vq1), (2, .int vq2), (3, .int vq3)] [] M (fX11_allWithout_B6 vq1 vq2 k6 vq3 M) := by
  unfold fX11_allWithout_B6
  refine r_iload_n (pc := 6) ok 3 dX11_allWithout_6 rfl ?_
  refine r_iload_n (pc := 7) ok 2 dX11_allWithout_7 rfl ?_
  refine r_icmp_ge (pc := 8) ok 22 dX11_allWithout_8 (by decide) (fun _ => ?_) (fun _ => ?_)
  · refine r_aload_n (pc := 22) ok 0 dX11_allWithout_22 rfl ?_
    refine r_callV0 (pc := 23) ok [] [] 2 (fun rZ MZ hZ => con_X11_allOf g l  _ rZ MZ hZ) cv_X11_95 ok_22 (rmOk_L (by decide) (by decide)) dX11_allWithout_23 rfl rfl (Nat.le_of_ble_eq_true rfl) (fun r3 M4 => ?_)
    refine r_istore_n (pc := 26) ok [(3, .int r3), (0, .ref (gA g 22 0)), (1, .int vq1), (2, .int vq2)] dX11_allWithout_26 rfl (by decide) rfl ?_
    refine r_aload_n (pc := 27) ok 1 dX11_allWithout_27 rfl ?_
    refine r_callV0 (pc := 28) ok [] [] 2 (fun rZ MZ hZ => con_X11_lays g l  _ rZ MZ hZ) cv_X11_197 ok_22 (rmOk_L (by decide) (by decide)) dX11_allWithout_28 rfl rfl (Nat.le_of_ble_eq_true rfl) (fun r5 M6 => ?_)
    refine r_iload_n (pc := 31) ok 0 dX11_allWithout_31 rfl ?_
    exact r_iret (pc := 32) ok (Nat.zero_le _) (Nat.zero_le _) rfl dX11_allWithout_32
  · refine r_aload_n (pc := 11) ok 0 dX11_allWithout_11 rfl ?_
    refine r_iload_n (pc := 12) ok 1 dX11_allWithout_12 rfl ?_
    refine r_callV0 (pc := 13) ok [.int vq1] [] 6 (fun rZ MZ hZ => con_X11_dayBut g l vq1 _ rZ MZ hZ) cv_X11_191 ok_22 (rmOk_L (by decide) (by decide)) dX11_allWithout_13 rfl rfl (Nat.le_of_ble_eq_true rfl) (fun r7 M8 => ?_)
    refine r_iinc (pc := 16) ok 3 (vq3 + 1) [(3, .int (vq3 + 1)), (0, .ref (gA g 22 0)), (1, .int vq1), (2, .int vq2)] dX11_allWithout_16 rfl (congrArg (fun z => vq3 + z) (by decide : Int32.ofInt 1 = (1 : Int32))) (by decide) rfl ?_
    refine r_goto (pc := 19) ok 6 dX11_allWithout_19 (by decide) ?_
    refine r_lv [1, 2, 3, 0] [(0, .ref (gA g 22 0)), (1, .int vq1), (2, .int vq2), (3, .int (vq3 + 1))] rfl ?_
    exact hk6 (vq3 + 1) M8
theorem sX11_allWithout_L6 {g : GP} {l : Launch} {x : CT} (ok : Ok g l x RX11 cX11_allWithout 4 (some FieldType.int) (rmL 7)) (vq1 : Int32) (vq2 : Int32)  : ∀ (n : Nat) (vq3 : Int32) (M : Mem), Sw g l x (FinQ g x eI) 4 0 0 6 [(0, .ref (gA g 22 0)), (1, .int vq1), (2, .int vq2), (3, .int vq3)] [] M (fX11_allWithout_L6 vq1 vq2 n vq3 M) := by
  intro n
  induction n with
  | zero => intros; exact r_none
  | succ n ih => intro vq3 M; exact sX11_allWithout_B6 ok vq1 vq2  _ ih vq3 M
def fX11_allWithout (vq1 : Int32) (vq2 : Int32) (M : Mem) : Option (Int32 × Mem) :=
  ob (fX11_keeps M) fun r1 M2 =>
  fX11_allWithout_L6 vq1 vq2 FU 0 M2
set_option maxRecDepth 20000 in
theorem wX11_allWithout {g : GP} {l : Launch} {x : CT} (ok : Ok g l x RX11 cX11_allWithout 4 (some FieldType.int) (rmL 7)) (vq1 : Int32) (vq2 : Int32)  (M : Mem) : Sw g l x (FinQ g x eI) 4 0 0 0 [(0, .ref (gA g 22 0)), (1, .int vq1), (2, .int vq2)] [] M (fX11_allWithout vq1 vq2 M) := by
  unfold fX11_allWithout
  refine r_aload_n (pc := 0) ok 0 dX11_allWithout_0 rfl ?_
  refine r_callV0 (pc := 1) ok [] [] 2 (fun rZ MZ hZ => con_X11_keeps g l  _ rZ MZ hZ) cv_X11_194 ok_22 (rmOk_L (by decide) (by decide)) dX11_allWithout_1 rfl rfl (Nat.le_of_ble_eq_true rfl) (fun r1 M2 => ?_)
  refine r_iconst (pc := 4) ok 0 dX11_allWithout_4 (by decide) ?_
  refine r_istore_n (pc := 5) ok [(3, .int 0), (0, .ref (gA g 22 0)), (1, .int vq1), (2, .int vq2)] dX11_allWithout_5 rfl (by decide) rfl ?_
  refine r_lv [1, 2, 3, 0] [(0, .ref (gA g 22 0)), (1, .int vq1), (2, .int vq2), (3, .int 0)] rfl ?_
  exact sX11_allWithout_L6 ok vq1 vq2 FU 0 M2
theorem con_X11_allWithout (g : GP) (l : Launch) (vq1 : Int32) (vq2 : Int32)  (M : Mem) (r : Int32) (M2 : Mem) (h : fX11_allWithout vq1 vq2 M = some (r, M2)) : Con g l yX11_allWithout cX11_allWithout 4 (some FieldType.int) (rmL 7) [.ref (gA g 22 0), .int vq1, .int vq2] M (eI r) M2 :=
  Con.of (own := RX11) (f := fX11_allWithout vq1 vq2 M) (by decide) (Nat.le_of_ble_eq_true rfl) rfl (fun x ok => wX11_allWithout ok vq1 vq2  M) r M2 h
def fX11_thickestBehind_B6 (vq1 : Int32) (k6 : Int32 → Mem → Option (Int32 × Mem)) (vq2 : Int32) (M : Mem) : Option (Int32 × Mem) :=
  if vq1 ≤ vq2 then
    (ob (fX11_outermost 1 M) fun r3 M4 =>
    ob (fX11_within r3 0 35 M4) fun r5 M6 =>
    gd (inb r5 36)
    (lt (M6 27 0 r5.toNatClampNeg) fun w7 =>
    ob (fX11_lays M6) fun r8 M9 =>
    some (w7, M9)))
  else
    (ob (fX11_dayBut (-1) M) fun r10 M11 =>
    k6 (vq2 + 1) M11)
def fX11_thickestBehind_L6 (vq1 : Int32) : Nat → Int32 → Mem → Option (Int32 × Mem)
  | 0, _, _ => none
  | n + 1, vq2, M => fX11_thickestBehind_B6 vq1 (fX11_thickestBehind_L6 vq1 n) vq2 M
set_option maxRecDepth 20000 in
theorem sX11_thickestBehind_B6 {g : GP} {l : Launch} {x : CT} (ok : Ok g l x RX11 cX11_thickestBehind 3 (some FieldType.int) (rmL 7)) (vq1 : Int32)  (k6 : Int32 → Mem → Option (Int32 × Mem)) (hk6 : ∀ (vq2 : Int32) (M : Mem), Sw g l x (FinQ g x eI) 3 0 0 6 [(0, .ref (gA g 22 0)), (1, .int vq1), (2, .int vq2)] [] M (k6 vq2 M)) (vq2 : Int32) (M : Mem) : Sw g l x (FinQ g x eI) 3 0 0 6 [(0, .ref (gA g 22 0)), (1, .int vq1), (2, .int vq2)] [] M (fX11_thickestBehind_B6 vq1 k6 vq2 M) := by
  unfold fX11_thickestBehind_B6
  refine r_iload_n (pc := 6) ok 2 dX11_thickestBehind_6 rfl ?_
  refine r_iload_n (pc := 7) ok 1 dX11_thickestBehind_7 rfl ?_
  refine r_icmp_ge (pc := 8) ok 22 dX11_thickestBehind_8 (by decide) (fun _ => ?_) (fun _ => ?_)
  · refine r_aload_n (pc := 22) ok 0 dX11_thickestBehind_22 rfl ?_
    refine r_getR (pc := 23) ok fr_22_5 (by decide) fl_X11_22 dX11_thickestBehind_23 ?_
    refine r_aload_n (pc := 26) ok 0 dX11_thickestBehind_26 rfl ?_
    refine r_iconst (pc := 27) ok 1 dX11_thickestBehind_27 (by decide) ?_
    refine r_callV0 (pc := 28) ok [.int 1] [.ref (gA g 27 0)] 3 (fun rZ MZ hZ => con_X11_outermost g l 1 _ rZ MZ hZ) cv_X11_231 ok_22 (rmOk_L (by decide) (by decide)) dX11_thickestBehind_28 rfl rfl (Nat.le_of_ble_eq_true rfl) (fun r3 M4 => ?_)
    refine r_iconst (pc := 31) ok 0 dX11_thickestBehind_31 (by decide) ?_
    refine r_bipush (pc := 32) ok 35 dX11_thickestBehind_32 (by decide) ?_
    refine r_callS0 (pc := 34) ok [.int r3, .int 0, .int 35] [.ref (gA g 27 0)] 2 (fun rZ MZ hZ => con_X11_within g l r3 0 35 _ rZ MZ hZ) cs_X11_173 (rmOk_L (by decide) (by decide)) dX11_thickestBehind_34 rfl rfl (Nat.le_of_ble_eq_true rfl) (fun r5 M6 => ?_)
    refine r_iald (pc := 37) ok ik_27 (by decide) dX11_thickestBehind_37 (fun _ => ?_)
    refine r_nmi (fun w7 => ?_)
    refine r_istore_n (pc := 38) ok [(2, .int w7), (0, .ref (gA g 22 0)), (1, .int vq1)] dX11_thickestBehind_38 rfl (by decide) rfl ?_
    refine r_aload_n (pc := 39) ok 1 dX11_thickestBehind_39 rfl ?_
    refine r_callV0 (pc := 40) ok [] [] 2 (fun rZ MZ hZ => con_X11_lays g l  _ rZ MZ hZ) cv_X11_197 ok_22 (rmOk_L (by decide) (by decide)) dX11_thickestBehind_40 rfl rfl (Nat.le_of_ble_eq_true rfl) (fun r8 M9 => ?_)
    refine r_iload_n (pc := 43) ok 0 dX11_thickestBehind_43 rfl ?_
    exact r_iret (pc := 44) ok (Nat.zero_le _) (Nat.zero_le _) rfl dX11_thickestBehind_44
  · refine r_aload_n (pc := 11) ok 0 dX11_thickestBehind_11 rfl ?_
    refine r_iconst (pc := 12) ok (-1) dX11_thickestBehind_12 (by decide) ?_
    refine r_callV0 (pc := 13) ok [.int (-1)] [] 6 (fun rZ MZ hZ => con_X11_dayBut g l (-1) _ rZ MZ hZ) cv_X11_191 ok_22 (rmOk_L (by decide) (by decide)) dX11_thickestBehind_13 rfl rfl (Nat.le_of_ble_eq_true rfl) (fun r10 M11 => ?_)
    refine r_iinc (pc := 16) ok 2 (vq2 + 1) [(2, .int (vq2 + 1)), (0, .ref (gA g 22 0)), (1, .int vq1)] dX11_thickestBehind_16 rfl (congrArg (fun z => vq2 + z) (by decide : Int32.ofInt 1 = (1 : Int32))) (by decide) rfl ?_
    refine r_goto (pc := 19) ok 6 dX11_thickestBehind_19 (by decide) ?_
    refine r_lv [1, 2, 0] [(0, .ref (gA g 22 0)), (1, .int vq1), (2, .int (vq2 + 1))] rfl ?_
    exact hk6 (vq2 + 1) M11
theorem sX11_thickestBehind_L6 {g : GP} {l : Launch} {x : CT} (ok : Ok g l x RX11 cX11_thickestBehind 3 (some FieldType.int) (rmL 7)) (vq1 : Int32)  : ∀ (n : Nat) (vq2 : Int32) (M : Mem), Sw g l x (FinQ g x eI) 3 0 0 6 [(0, .ref (gA g 22 0)), (1, .int vq1), (2, .int vq2)] [] M (fX11_thickestBehind_L6 vq1 n vq2 M) := by
  intro n
  induction n with
  | zero => intros; exact r_none
  | succ n ih => intro vq2 M; exact sX11_thickestBehind_B6 ok vq1  _ ih vq2 M
def fX11_thickestBehind (vq1 : Int32) (M : Mem) : Option (Int32 × Mem) :=
  ob (fX11_keeps M) fun r1 M2 =>
  fX11_thickestBehind_L6 vq1 FU 0 M2
set_option maxRecDepth 20000 in
theorem wX11_thickestBehind {g : GP} {l : Launch} {x : CT} (ok : Ok g l x RX11 cX11_thickestBehind 3 (some FieldType.int) (rmL 7)) (vq1 : Int32)  (M : Mem) : Sw g l x (FinQ g x eI) 3 0 0 0 [(0, .ref (gA g 22 0)), (1, .int vq1)] [] M (fX11_thickestBehind vq1 M) := by
  unfold fX11_thickestBehind
  refine r_aload_n (pc := 0) ok 0 dX11_thickestBehind_0 rfl ?_
  refine r_callV0 (pc := 1) ok [] [] 2 (fun rZ MZ hZ => con_X11_keeps g l  _ rZ MZ hZ) cv_X11_194 ok_22 (rmOk_L (by decide) (by decide)) dX11_thickestBehind_1 rfl rfl (Nat.le_of_ble_eq_true rfl) (fun r1 M2 => ?_)
  refine r_iconst (pc := 4) ok 0 dX11_thickestBehind_4 (by decide) ?_
  refine r_istore_n (pc := 5) ok [(2, .int 0), (0, .ref (gA g 22 0)), (1, .int vq1)] dX11_thickestBehind_5 rfl (by decide) rfl ?_
  refine r_lv [1, 2, 0] [(0, .ref (gA g 22 0)), (1, .int vq1), (2, .int 0)] rfl ?_
  exact sX11_thickestBehind_L6 ok vq1 FU 0 M2
theorem con_X11_thickestBehind (g : GP) (l : Launch) (vq1 : Int32)  (M : Mem) (r : Int32) (M2 : Mem) (h : fX11_thickestBehind vq1 M = some (r, M2)) : Con g l yX11_thickestBehind cX11_thickestBehind 3 (some FieldType.int) (rmL 7) [.ref (gA g 22 0), .int vq1] M (eI r) M2 :=
  Con.of (own := RX11) (f := fX11_thickestBehind vq1 M) (by decide) (Nat.le_of_ble_eq_true rfl) rfl (fun x ok => wX11_thickestBehind ok vq1  M) r M2 h
def fX11_unlike_J64 (vq3 : Int32) (M : Mem) : Option (Int32 × Mem) :=
  ob (fX11_lays M) fun r3 M4 =>
  some (vq3, M4)
set_option maxRecDepth 20000 in
theorem sX11_unlike_J64 {g : GP} {l : Launch} {x : CT} (ok : Ok g l x RX11 cX11_unlike 5 (some FieldType.int) (rmL 7)) (vq3 : Int32)  (M : Mem) : Sw g l x (FinQ g x eI) 5 0 0 64 [(0, .ref (gA g 22 0)), (3, .int vq3)] [] M (fX11_unlike_J64 vq3 M) := by
  unfold fX11_unlike_J64
  refine r_aload_n (pc := 64) ok 0 dX11_unlike_64 rfl ?_
  refine r_callV0 (pc := 65) ok [] [] 2 (fun rZ MZ hZ => con_X11_lays g l  _ rZ MZ hZ) cv_X11_197 ok_22 (rmOk_L (by decide) (by decide)) dX11_unlike_65 rfl rfl (Nat.le_of_ble_eq_true rfl) (fun r3 M4 => ?_)
  refine r_iload_n (pc := 68) ok 1 dX11_unlike_68 rfl ?_
  exact r_iret (pc := 69) ok (Nat.zero_le _) (Nat.zero_le _) rfl dX11_unlike_69
def fX11_unlike_B9 (vq1 : Int32) (vq2 : Int32) (k9 : Int32 → Int32 → Mem → Option (Int32 × Mem)) (vq3 : Int32) (vq4 : Int32) (M : Mem) : Option (Int32 × Mem) :=
  gd (inb vq1 4)
  (if (M 34 0 vq1.toNatClampNeg) ≤ vq4 then
    (fX11_unlike_J64 vq3 M)
  else
    (if vq3 = (-1) then
      (ob (fX11_dayBut (-1) M) fun r5 M6 =>
      gd (inb ((40 * vq1) + vq4) 160)
      (gd (inb vq2 36)
      (if (M6 35 0 ((40 * vq1) + vq4).toNatClampNeg) = (M6 27 0 vq2.toNatClampNeg) then
        (k9 (-1) (vq4 + 1) M6)
      else
        (k9 vq4 (vq4 + 1) M6))))
    else
      (fX11_unlike_J64 vq3 M)))
def fX11_unlike_L9 (vq1 : Int32) (vq2 : Int32) : Nat → Int32 → Int32 → Mem → Option (Int32 × Mem)
  | 0, _, _, _ => none
  | n + 1, vq3, vq4, M => fX11_unlike_B9 vq1 vq2 (fX11_unlike_L9 vq1 vq2 n) vq3 vq4 M
set_option maxRecDepth 20000 in
theorem sX11_unlike_B9 {g : GP} {l : Launch} {x : CT} (ok : Ok g l x RX11 cX11_unlike 5 (some FieldType.int) (rmL 7)) (vq1 : Int32) (vq2 : Int32)  (k9 : Int32 → Int32 → Mem → Option (Int32 × Mem)) (hk9 : ∀ (vq3 : Int32) (vq4 : Int32) (M : Mem), Sw g l x (FinQ g x eI) 5 0 0 9 [(0, .ref (gA g 22 0)), (1, .int vq1), (2, .int vq2), (3, .int vq3), (4, .int vq4)] [] M (k9 vq3 vq4 M)) (vq3 : Int32) (vq4 : Int32) (M : Mem) : Sw g l x (FinQ g x eI) 5 0 0 9 [(0, .ref (gA g 22 0)), (1, .int vq1), (2, .int vq2), (3, .int vq3), (4, .int vq4)] [] M (fX11_unlike_B9 vq1 vq2 k9 vq3 vq4 M) := by
  unfold fX11_unlike_B9
  refine r_iload (pc := 9) ok 4 dX11_unlike_9 rfl ?_
  refine r_aload_n (pc := 11) ok 0 dX11_unlike_11 rfl ?_
  refine r_getR (pc := 12) ok fr_22_17 (by decide) fl_X11_43 dX11_unlike_12 ?_
  refine r_iload_n (pc := 15) ok 1 dX11_unlike_15 rfl ?_
  refine r_iald (pc := 16) ok ik_34 (by decide) dX11_unlike_16 (fun _ => ?_)
  refine r_icmp_ge (pc := 17) ok 64 dX11_unlike_17 (by decide) (fun _ => ?_) (fun _ => ?_)
  · refine r_lv [0, 3] [(0, .ref (gA g 22 0)), (3, .int vq3)] rfl ?_
    exact sX11_unlike_J64 ok vq3 M
  · refine r_iload_n (pc := 20) ok 3 dX11_unlike_20 rfl ?_
    refine r_iconst (pc := 21) ok (-1) dX11_unlike_21 (by decide) ?_
    refine r_icmp_ne (pc := 22) ok 64 dX11_unlike_22 (by decide) (fun _ => ?_) (fun _ => ?_)
    · refine r_aload_n (pc := 25) ok 0 dX11_unlike_25 rfl ?_
      refine r_iconst (pc := 26) ok (-1) dX11_unlike_26 (by decide) ?_
      refine r_callV0 (pc := 27) ok [.int (-1)] [] 6 (fun rZ MZ hZ => con_X11_dayBut g l (-1) _ rZ MZ hZ) cv_X11_191 ok_22 (rmOk_L (by decide) (by decide)) dX11_unlike_27 rfl rfl (Nat.le_of_ble_eq_true rfl) (fun r5 M6 => ?_)
      refine r_aload_n (pc := 30) ok 0 dX11_unlike_30 rfl ?_
      refine r_getR (pc := 31) ok fr_22_18 (by decide) fl_X11_46 dX11_unlike_31 ?_
      refine r_bipush (pc := 34) ok 40 dX11_unlike_34 (by decide) ?_
      refine r_iload_n (pc := 36) ok 1 dX11_unlike_36 rfl ?_
      refine r_imul (pc := 37) ok dX11_unlike_37 ?_
      refine r_iload (pc := 38) ok 4 dX11_unlike_38 rfl ?_
      refine r_iadd (pc := 40) ok dX11_unlike_40 ?_
      refine r_iald (pc := 41) ok ik_35 (by decide) dX11_unlike_41 (fun _ => ?_)
      refine r_aload_n (pc := 42) ok 0 dX11_unlike_42 rfl ?_
      refine r_getR (pc := 43) ok fr_22_5 (by decide) fl_X11_22 dX11_unlike_43 ?_
      refine r_iload_n (pc := 46) ok 2 dX11_unlike_46 rfl ?_
      refine r_iald (pc := 47) ok ik_27 (by decide) dX11_unlike_47 (fun _ => ?_)
      refine r_icmp_ne (pc := 48) ok 55 dX11_unlike_48 (by decide) (fun _ => ?_) (fun _ => ?_)
      · refine r_iconst (pc := 51) ok (-1) dX11_unlike_51 (by decide) ?_
        refine r_goto (pc := 52) ok 57 dX11_unlike_52 (by decide) ?_
        refine r_istore_n (pc := 57) ok [(3, .int (-1)), (0, .ref (gA g 22 0)), (1, .int vq1), (2, .int vq2), (4, .int vq4)] dX11_unlike_57 rfl (by decide) rfl ?_
        refine r_iinc (pc := 58) ok 4 (vq4 + 1) [(4, .int (vq4 + 1)), (3, .int (-1)), (0, .ref (gA g 22 0)), (1, .int vq1), (2, .int vq2)] dX11_unlike_58 rfl (congrArg (fun z => vq4 + z) (by decide : Int32.ofInt 1 = (1 : Int32))) (by decide) rfl ?_
        refine r_goto (pc := 61) ok 9 dX11_unlike_61 (by decide) ?_
        refine r_lv [2, 3, 4, 1, 0] [(0, .ref (gA g 22 0)), (1, .int vq1), (2, .int vq2), (3, .int (-1)), (4, .int (vq4 + 1))] rfl ?_
        exact hk9 (-1) (vq4 + 1) M6
      · refine r_iload (pc := 55) ok 4 dX11_unlike_55 rfl ?_
        refine r_istore_n (pc := 57) ok [(3, .int vq4), (0, .ref (gA g 22 0)), (1, .int vq1), (2, .int vq2), (4, .int vq4)] dX11_unlike_57 rfl (by decide) rfl ?_
        refine r_iinc (pc := 58) ok 4 (vq4 + 1) [(4, .int (vq4 + 1)), (3, .int vq4), (0, .ref (gA g 22 0)), (1, .int vq1), (2, .int vq2)] dX11_unlike_58 rfl (congrArg (fun z => vq4 + z) (by decide : Int32.ofInt 1 = (1 : Int32))) (by decide) rfl ?_
        refine r_goto (pc := 61) ok 9 dX11_unlike_61 (by decide) ?_
        refine r_lv [2, 3, 4, 1, 0] [(0, .ref (gA g 22 0)), (1, .int vq1), (2, .int vq2), (3, .int vq4), (4, .int (vq4 + 1))] rfl ?_
        exact hk9 vq4 (vq4 + 1) M6
    · refine r_lv [0, 3] [(0, .ref (gA g 22 0)), (3, .int vq3)] rfl ?_
      exact sX11_unlike_J64 ok vq3 M
theorem sX11_unlike_L9 {g : GP} {l : Launch} {x : CT} (ok : Ok g l x RX11 cX11_unlike 5 (some FieldType.int) (rmL 7)) (vq1 : Int32) (vq2 : Int32)  : ∀ (n : Nat) (vq3 : Int32) (vq4 : Int32) (M : Mem), Sw g l x (FinQ g x eI) 5 0 0 9 [(0, .ref (gA g 22 0)), (1, .int vq1), (2, .int vq2), (3, .int vq3), (4, .int vq4)] [] M (fX11_unlike_L9 vq1 vq2 n vq3 vq4 M) := by
  intro n
  induction n with
  | zero => intros; exact r_none
  | succ n ih => intro vq3 vq4 M; exact sX11_unlike_B9 ok vq1 vq2  _ ih vq3 vq4 M
def fX11_unlike (vq1 : Int32) (vq2 : Int32) (M : Mem) : Option (Int32 × Mem) :=
  ob (fX11_keeps M) fun r1 M2 =>
  fX11_unlike_L9 vq1 vq2 FU (-1) 0 M2
set_option maxRecDepth 20000 in
theorem wX11_unlike {g : GP} {l : Launch} {x : CT} (ok : Ok g l x RX11 cX11_unlike 5 (some FieldType.int) (rmL 7)) (vq1 : Int32) (vq2 : Int32)  (M : Mem) : Sw g l x (FinQ g x eI) 5 0 0 0 [(0, .ref (gA g 22 0)), (1, .int vq1), (2, .int vq2)] [] M (fX11_unlike vq1 vq2 M) := by
  unfold fX11_unlike
  refine r_iconst (pc := 0) ok (-1) dX11_unlike_0 (by decide) ?_
  refine r_istore_n (pc := 1) ok [(3, .int (-1)), (0, .ref (gA g 22 0)), (1, .int vq1), (2, .int vq2)] dX11_unlike_1 rfl (by decide) rfl ?_
  refine r_aload_n (pc := 2) ok 1 dX11_unlike_2 rfl ?_
  refine r_callV0 (pc := 3) ok [] [] 2 (fun rZ MZ hZ => con_X11_keeps g l  _ rZ MZ hZ) cv_X11_194 ok_22 (rmOk_L (by decide) (by decide)) dX11_unlike_3 rfl rfl (Nat.le_of_ble_eq_true rfl) (fun r1 M2 => ?_)
  refine r_iconst (pc := 6) ok 0 dX11_unlike_6 (by decide) ?_
  refine r_istore (pc := 7) ok [(4, .int 0), (3, .int (-1)), (0, .ref (gA g 22 0)), (1, .int vq1), (2, .int vq2)] dX11_unlike_7 (by decide) rfl ?_
  refine r_lv [2, 3, 4, 1, 0] [(0, .ref (gA g 22 0)), (1, .int vq1), (2, .int vq2), (3, .int (-1)), (4, .int 0)] rfl ?_
  exact sX11_unlike_L9 ok vq1 vq2 FU (-1) 0 M2
theorem con_X11_unlike (g : GP) (l : Launch) (vq1 : Int32) (vq2 : Int32)  (M : Mem) (r : Int32) (M2 : Mem) (h : fX11_unlike vq1 vq2 M = some (r, M2)) : Con g l yX11_unlike cX11_unlike 5 (some FieldType.int) (rmL 7) [.ref (gA g 22 0), .int vq1, .int vq2] M (eI r) M2 :=
  Con.of (own := RX11) (f := fX11_unlike vq1 vq2 M) (by decide) (Nat.le_of_ble_eq_true rfl) rfl (fun x ok => wX11_unlike ok vq1 vq2  M) r M2 h
