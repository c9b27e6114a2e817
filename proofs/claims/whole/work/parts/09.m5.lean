def fX11_film_B56 (vq1 : Int32) (vq2 : Int32) (vq3 : Int32) (k56 : Int32 → Mem → Option (Int32 × Mem)) (vq4 : Int32) (M : Mem) : Option (Int32 × Mem) :=
  if 40 ≤ vq4 then
    (ob (fX11_lays M) fun r11 M12 =>
    some (vq3, M12))
  else
    (gd (inb ((40 * vq1) + vq4) 160)
    (lt (mst M 35 0 ((40 * vq1) + vq4).toNatClampNeg 0) fun M13 =>
    if vq3 ≤ vq4 then
      (k56 (vq4 + 1) M13)
    else
      (ob (fX11_dayBut (-1) M13) fun r14 M15 =>
      gd (inb vq2 36)
      (gd (inb ((40 * vq1) + vq4) 160)
      (lt (mst M15 35 0 ((40 * vq1) + vq4).toNatClampNeg (M15 27 0 vq2.toNatClampNeg)) fun M16 =>
      k56 (vq4 + 1) M16)))))
def fX11_film_L56 (vq1 : Int32) (vq2 : Int32) (vq3 : Int32) : Nat → Int32 → Mem → Option (Int32 × Mem)
  | 0, _, _ => none
  | n + 1, vq4, M => fX11_film_B56 vq1 vq2 vq3 (fX11_film_L56 vq1 vq2 vq3 n) vq4 M
set_option maxRecDepth 20000 in
theorem sX11_film_B56 {g : GP} {l : Launch} {x : CT} (ok : Ok g l x RX11 cX11_film 5 (some FieldType.int) (rmL 7)) (vq1 : Int32) (vq2 : Int32) (vq3 : Int32)  (k56 : Int32 → Mem → Option (Int32 × Mem)) (hk56 : ∀ (vq4 : Int32) (M : Mem), Sw g l x (FinQ g x eI) 5 0 0 56 [(0, .ref (gA g 22 0)), (1, .int vq1), (2, .int vq2), (3, .int vq3), (4, .int vq4)] [] M (k56 vq4 M)) (vq4 : Int32) (M : Mem) : Sw g l x (FinQ g x eI) 5 0 0 56 [(0, .ref (gA g 22 0)), (1, .int vq1), (2, .int vq2), (3, .int vq3), (4, .int vq4)] [] M (fX11_film_B56 vq1 vq2 vq3 k56 vq4 M) := by
  unfold fX11_film_B56
  refine r_iload (pc := 56) ok 4 dX11_film_56 rfl ?_
  refine r_bipush (pc := 58) ok 40 dX11_film_58 (by decide) ?_
  refine r_icmp_ge (pc := 60) ok 111 dX11_film_60 (by decide) (fun _ => ?_) (fun _ => ?_)
  · refine r_aload_n (pc := 111) ok 0 dX11_film_111 rfl ?_
    refine r_callV0 (pc := 112) ok [] [] 2 (fun rZ MZ hZ => con_X11_lays g l  _ rZ MZ hZ) cv_X11_197 ok_22 (rmOk_L (by decide) (by decide)) dX11_film_112 rfl rfl (Nat.le_of_ble_eq_true rfl) (fun r11 M12 => ?_)
    refine r_iload_n (pc := 115) ok 3 dX11_film_115 rfl ?_
    exact r_iret (pc := 116) ok (Nat.zero_le _) (Nat.zero_le _) rfl dX11_film_116
  · refine r_aload_n (pc := 63) ok 0 dX11_film_63 rfl ?_
    refine r_getR (pc := 64) ok fr_22_18 (by decide) fl_X11_46 dX11_film_64 ?_
    refine r_bipush (pc := 67) ok 40 dX11_film_67 (by decide) ?_
    refine r_iload_n (pc := 69) ok 1 dX11_film_69 rfl ?_
    refine r_imul (pc := 70) ok dX11_film_70 ?_
    refine r_iload (pc := 71) ok 4 dX11_film_71 rfl ?_
    refine r_iadd (pc := 73) ok dX11_film_73 ?_
    refine r_iconst (pc := 74) ok 0 dX11_film_74 (by decide) ?_
    refine r_iast (pc := 75) ok ik_35 (by decide) dX11_film_75 ?_
    refine r_nmM (fun M13 => ?_)
    refine r_iload (pc := 76) ok 4 dX11_film_76 rfl ?_
    refine r_iload_n (pc := 78) ok 3 dX11_film_78 rfl ?_
    refine r_icmp_ge (pc := 79) ok 105 dX11_film_79 (by decide) (fun _ => ?_) (fun _ => ?_)
    · refine r_iinc (pc := 105) ok 4 (vq4 + 1) [(4, .int (vq4 + 1)), (0, .ref (gA g 22 0)), (1, .int vq1), (2, .int vq2), (3, .int vq3)] dX11_film_105 rfl (congrArg (fun z => vq4 + z) (by decide : Int32.ofInt 1 = (1 : Int32))) (by decide) rfl ?_
      refine r_goto (pc := 108) ok 56 dX11_film_108 (by decide) ?_
      refine r_lv [1, 2, 3, 4, 0] [(0, .ref (gA g 22 0)), (1, .int vq1), (2, .int vq2), (3, .int vq3), (4, .int (vq4 + 1))] rfl ?_
      exact hk56 (vq4 + 1) M13
    · refine r_aload_n (pc := 82) ok 0 dX11_film_82 rfl ?_
      refine r_iconst (pc := 83) ok (-1) dX11_film_83 (by decide) ?_
      refine r_callV0 (pc := 84) ok [.int (-1)] [] 6 (fun rZ MZ hZ => con_X11_dayBut g l (-1) _ rZ MZ hZ) cv_X11_191 ok_22 (rmOk_L (by decide) (by decide)) dX11_film_84 rfl rfl (Nat.le_of_ble_eq_true rfl) (fun r14 M15 => ?_)
      refine r_aload_n (pc := 87) ok 0 dX11_film_87 rfl ?_
      refine r_getR (pc := 88) ok fr_22_18 (by decide) fl_X11_46 dX11_film_88 ?_
      refine r_bipush (pc := 91) ok 40 dX11_film_91 (by decide) ?_
      refine r_iload_n (pc := 93) ok 1 dX11_film_93 rfl ?_
      refine r_imul (pc := 94) ok dX11_film_94 ?_
      refine r_iload (pc := 95) ok 4 dX11_film_95 rfl ?_
      refine r_iadd (pc := 97) ok dX11_film_97 ?_
      refine r_aload_n (pc := 98) ok 0 dX11_film_98 rfl ?_
      refine r_getR (pc := 99) ok fr_22_5 (by decide) fl_X11_22 dX11_film_99 ?_
      refine r_iload_n (pc := 102) ok 2 dX11_film_102 rfl ?_
      refine r_iald (pc := 103) ok ik_27 (by decide) dX11_film_103 (fun _ => ?_)
      refine r_iast (pc := 104) ok ik_35 (by decide) dX11_film_104 ?_
      refine r_nmM (fun M16 => ?_)
      refine r_iinc (pc := 105) ok 4 (vq4 + 1) [(4, .int (vq4 + 1)), (0, .ref (gA g 22 0)), (1, .int vq1), (2, .int vq2), (3, .int vq3)] dX11_film_105 rfl (congrArg (fun z => vq4 + z) (by decide : Int32.ofInt 1 = (1 : Int32))) (by decide) rfl ?_
      refine r_goto (pc := 108) ok 56 dX11_film_108 (by decide) ?_
      refine r_lv [1, 2, 3, 4, 0] [(0, .ref (gA g 22 0)), (1, .int vq1), (2, .int vq2), (3, .int vq3), (4, .int (vq4 + 1))] rfl ?_
      exact hk56 (vq4 + 1) M16
theorem sX11_film_L56 {g : GP} {l : Launch} {x : CT} (ok : Ok g l x RX11 cX11_film 5 (some FieldType.int) (rmL 7)) (vq1 : Int32) (vq2 : Int32) (vq3 : Int32)  : ∀ (n : Nat) (vq4 : Int32) (M : Mem), Sw g l x (FinQ g x eI) 5 0 0 56 [(0, .ref (gA g 22 0)), (1, .int vq1), (2, .int vq2), (3, .int vq3), (4, .int vq4)] [] M (fX11_film_L56 vq1 vq2 vq3 n vq4 M) := by
  intro n
  induction n with
  | zero => intros; exact r_none
  | succ n ih => intro vq4 M; exact sX11_film_B56 ok vq1 vq2 vq3  _ ih vq4 M
def fX11_film (vq1 : Int32) (vq2 : Int32) (vq3 : Int32) (M : Mem) : Option (Int32 × Mem) :=
  ob (fX11_in vq1 0 3 M) fun r1 M2 =>
  if r1 = 0 then
    (some (-2, M2))
  else
    (ob (fX11_isCell vq2 M2) fun r3 M4 =>
    if r3 = 0 then
      (some (-5, M4))
    else
      (ob (fX11_in vq3 0 20 M4) fun r5 M6 =>
      if r5 = 0 then
        (some (-7, M6))
      else
        (gd (inb vq1 4)
        (lt (mst M6 33 0 vq1.toNatClampNeg 1) fun M7 =>
        gd (inb vq1 4)
        (lt (mst M7 34 0 vq1.toNatClampNeg vq3) fun M8 =>
        ob (fX11_keeps M8) fun r9 M10 =>
        fX11_film_L56 vq1 vq2 vq3 FU 0 M10)))))
set_option maxRecDepth 20000 in
theorem wX11_film {g : GP} {l : Launch} {x : CT} (ok : Ok g l x RX11 cX11_film 5 (some FieldType.int) (rmL 7)) (vq1 : Int32) (vq2 : Int32) (vq3 : Int32)  (M : Mem) : Sw g l x (FinQ g x eI) 5 0 0 0 [(0, .ref (gA g 22 0)), (1, .int vq1), (2, .int vq2), (3, .int vq3)] [] M (fX11_film vq1 vq2 vq3 M) := by
  unfold fX11_film
  refine r_iload_n (pc := 0) ok 1 dX11_film_0 rfl ?_
  refine r_iconst (pc := 1) ok 0 dX11_film_1 (by decide) ?_
  refine r_iconst (pc := 2) ok 3 dX11_film_2 (by decide) ?_
  refine r_callS0 (pc := 3) ok [.int vq1, .int 0, .int 3] [] 2 (fun rZ MZ hZ => con_X11_in g l vq1 0 3 _ rZ MZ hZ) cs_X11_84 (rmOk_L (by decide) (by decide)) dX11_film_3 rfl rfl (Nat.le_of_ble_eq_true rfl) (fun r1 M2 => ?_)
  refine r_if_ne (pc := 6) ok 12 dX11_film_6 (by decide) (fun _ => ?_) (fun _ => ?_)
  · refine r_bipush (pc := 9) ok (-2) dX11_film_9 (by decide) ?_
    exact r_iret (pc := 11) ok (Nat.zero_le _) (Nat.zero_le _) rfl dX11_film_11
  · refine r_iload_n (pc := 12) ok 2 dX11_film_12 rfl ?_
    refine r_callS0 (pc := 13) ok [.int vq2] [] 3 (fun rZ MZ hZ => con_X11_isCell g l vq2 _ rZ MZ hZ) cs_X11_104 (rmOk_L (by decide) (by decide)) dX11_film_13 rfl rfl (Nat.le_of_ble_eq_true rfl) (fun r3 M4 => ?_)
    refine r_if_ne (pc := 16) ok 22 dX11_film_16 (by decide) (fun _ => ?_) (fun _ => ?_)
    · refine r_bipush (pc := 19) ok (-5) dX11_film_19 (by decide) ?_
      exact r_iret (pc := 21) ok (Nat.zero_le _) (Nat.zero_le _) rfl dX11_film_21
    · refine r_iload_n (pc := 22) ok 3 dX11_film_22 rfl ?_
      refine r_iconst (pc := 23) ok 0 dX11_film_23 (by decide) ?_
      refine r_bipush (pc := 24) ok 20 dX11_film_24 (by decide) ?_
      refine r_callS0 (pc := 26) ok [.int vq3, .int 0, .int 20] [] 2 (fun rZ MZ hZ => con_X11_in g l vq3 0 20 _ rZ MZ hZ) cs_X11_84 (rmOk_L (by decide) (by decide)) dX11_film_26 rfl rfl (Nat.le_of_ble_eq_true rfl) (fun r5 M6 => ?_)
      refine r_if_ne (pc := 29) ok 35 dX11_film_29 (by decide) (fun _ => ?_) (fun _ => ?_)
      · refine r_bipush (pc := 32) ok (-7) dX11_film_32 (by decide) ?_
        exact r_iret (pc := 34) ok (Nat.zero_le _) (Nat.zero_le _) rfl dX11_film_34
      · refine r_aload_n (pc := 35) ok 0 dX11_film_35 rfl ?_
        refine r_getR (pc := 36) ok fr_22_16 (by decide) fl_X11_40 dX11_film_36 ?_
        refine r_iload_n (pc := 39) ok 1 dX11_film_39 rfl ?_
        refine r_iconst (pc := 40) ok 1 dX11_film_40 (by decide) ?_
        refine r_iast (pc := 41) ok ik_33 (by decide) dX11_film_41 ?_
        refine r_nmM (fun M7 => ?_)
        refine r_aload_n (pc := 42) ok 0 dX11_film_42 rfl ?_
        refine r_getR (pc := 43) ok fr_22_17 (by decide) fl_X11_43 dX11_film_43 ?_
        refine r_iload_n (pc := 46) ok 1 dX11_film_46 rfl ?_
        refine r_iload_n (pc := 47) ok 3 dX11_film_47 rfl ?_
        refine r_iast (pc := 48) ok ik_34 (by decide) dX11_film_48 ?_
        refine r_nmM (fun M8 => ?_)
        refine r_aload_n (pc := 49) ok 0 dX11_film_49 rfl ?_
        refine r_callV0 (pc := 50) ok [] [] 2 (fun rZ MZ hZ => con_X11_keeps g l  _ rZ MZ hZ) cv_X11_194 ok_22 (rmOk_L (by decide) (by decide)) dX11_film_50 rfl rfl (Nat.le_of_ble_eq_true rfl) (fun r9 M10 => ?_)
        refine r_iconst (pc := 53) ok 0 dX11_film_53 (by decide) ?_
        refine r_istore (pc := 54) ok [(4, .int 0), (0, .ref (gA g 22 0)), (1, .int vq1), (2, .int vq2), (3, .int vq3)] dX11_film_54 (by decide) rfl ?_
        refine r_lv [1, 2, 3, 4, 0] [(0, .ref (gA g 22 0)), (1, .int vq1), (2, .int vq2), (3, .int vq3), (4, .int 0)] rfl ?_
        exact sX11_film_L56 ok vq1 vq2 vq3 FU 0 M10
theorem con_X11_film (g : GP) (l : Launch) (vq1 : Int32) (vq2 : Int32) (vq3 : Int32)  (M : Mem) (r : Int32) (M2 : Mem) (h : fX11_film vq1 vq2 vq3 M = some (r, M2)) : Con g l yX11_film cX11_film 5 (some FieldType.int) (rmL 7) [.ref (gA g 22 0), .int vq1, .int vq2, .int vq3] M (eI r) M2 :=
  Con.of (own := RX11) (f := fX11_film vq1 vq2 vq3 M) (by decide) (Nat.le_of_ble_eq_true rfl) rfl (fun x ok => wX11_film ok vq1 vq2 vq3  M) r M2 h
def fX11_calls_B26 (vq2 : Int32) (vq3 : Int32) (k26 : Int64 → Int32 → Mem → Option (Unit × Mem)) (vq4 : Int64) (vq6 : Int32) (M : Mem) : Option (Unit × Mem) :=
  if (irem vq3 100) ≤ vq6 then
    (ob (fX11_lays M) fun r6 M7 =>
    some ((), M7))
  else
    (ob (fX11_within (M 22 0 35) 0 35 M) fun r8 M9 =>
    ob (fX11_feelsOf vq2 r8 M9) fun r10 M11 =>
    lt (mst M11 22 0 34 ((M9 22 0 34) + r10)) fun M12 =>
    ob (fX11_wearsNow vq2 r8 M12) fun r13 M14 =>
    lt (lrem (vq4 * 48271) 2147483647) fun w15 =>
    ob (fX11_goesBy r8 ((lrem w15 4).toInt32) M14) fun r16 M17 =>
    lt (mst M17 22 0 35 r16) fun M18 =>
    k26 w15 (vq6 + 1) M18)
def fX11_calls_L26 (vq2 : Int32) (vq3 : Int32) : Nat → Int64 → Int32 → Mem → Option (Unit × Mem)
  | 0, _, _, _ => none
  | n + 1, vq4, vq6, M => fX11_calls_B26 vq2 vq3 (fX11_calls_L26 vq2 vq3 n) vq4 vq6 M
set_option maxRecDepth 20000 in
theorem sX11_calls_B26 {g : GP} {l : Launch} {x : CT} (ok : Ok g l x RX11 cX11_calls 8 none (rmL 7)) (vq2 : Int32) (vq3 : Int32)  (k26 : Int64 → Int32 → Mem → Option (Unit × Mem)) (hk26 : ∀ (vq4 : Int64) (vq6 : Int32) (M : Mem), Sw g l x (FinQ g x eV) 8 0 0 26 [(0, .ref (gA g 22 0)), (2, .int vq2), (3, .int vq3), (4, .long vq4), (6, .int vq6)] [] M (k26 vq4 vq6 M)) (vq4 : Int64) (vq6 : Int32) (M : Mem) : Sw g l x (FinQ g x eV) 8 0 0 26 [(0, .ref (gA g 22 0)), (2, .int vq2), (3, .int vq3), (4, .long vq4), (6, .int vq6)] [] M (fX11_calls_B26 vq2 vq3 k26 vq4 vq6 M) := by
  unfold fX11_calls_B26
  refine r_iload (pc := 26) ok 4 dX11_calls_26 rfl ?_
  refine r_iload_n (pc := 28) ok 2 dX11_calls_28 rfl ?_
  refine r_bipush (pc := 29) ok 100 dX11_calls_29 (by decide) ?_
  refine r_iremc (pc := 31) ok (by decide) dX11_calls_31 ?_
  refine r_icmp_ge (pc := 32) ok 105 dX11_calls_32 (by decide) (fun _ => ?_) (fun _ => ?_)
  · refine r_aload_n (pc := 105) ok 0 dX11_calls_105 rfl ?_
    refine r_callV0 (pc := 106) ok [] [] 2 (fun rZ MZ hZ => con_X11_lays g l  _ rZ MZ hZ) cv_X11_197 ok_22 (rmOk_L (by decide) (by decide)) dX11_calls_106 rfl rfl (Nat.le_of_ble_eq_true rfl) (fun r6 M7 => ?_)
    exact r_vret (pc := 109) ok (Nat.zero_le _) (Nat.zero_le _) rfl dX11_calls_109
  · refine r_aload_n (pc := 35) ok 0 dX11_calls_35 rfl ?_
    refine r_getI (pc := 36) ok fi_22_35 (by decide) fl_X11_250 dX11_calls_36 ?_
    refine r_iconst (pc := 39) ok 0 dX11_calls_39 (by decide) ?_
    refine r_bipush (pc := 40) ok 35 dX11_calls_40 (by decide) ?_
    refine r_callS0 (pc := 42) ok [.int (M 22 0 35), .int 0, .int 35] [] 2 (fun rZ MZ hZ => con_X11_within g l (M 22 0 35) 0 35 _ rZ MZ hZ) cs_X11_173 (rmOk_L (by decide) (by decide)) dX11_calls_42 rfl rfl (Nat.le_of_ble_eq_true rfl) (fun r8 M9 => ?_)
    refine r_istore (pc := 45) ok [(7, .int r8), (0, .ref (gA g 22 0)), (2, .int vq2), (3, .int vq3), (4, .long vq4), (6, .int vq6)] dX11_calls_45 (by decide) rfl ?_
    refine r_aload_n (pc := 47) ok 1 dX11_calls_47 rfl ?_
    refine r_dup (pc := 48) ok dX11_calls_48 rfl ?_
    refine r_getI (pc := 49) ok fi_22_34 (by decide) fl_X11_247 dX11_calls_49 ?_
    refine r_aload_n (pc := 52) ok 1 dX11_calls_52 rfl ?_
    refine r_iload_n (pc := 53) ok 2 dX11_calls_53 rfl ?_
    refine r_iload (pc := 54) ok 0 dX11_calls_54 rfl ?_
    refine r_callV0 (pc := 56) ok [.int vq2, .int r8] [.int (M9 22 0 34), .ref (gA g 22 0)] 5 (fun rZ MZ hZ => con_X11_feelsOf g l vq2 r8 _ rZ MZ hZ) cv_X11_203 ok_22 (rmOk_L (by decide) (by decide)) dX11_calls_56 rfl rfl (Nat.le_of_ble_eq_true rfl) (fun r10 M11 => ?_)
    refine r_iadd (pc := 59) ok dX11_calls_59 ?_
    refine r_putI (pc := 60) ok fi_22_34 (by decide) fl_X11_247 fp_22_34 ⟨rfl, rfl⟩ dX11_calls_60 ?_
    refine r_nmM (fun M12 => ?_)
    refine r_aload_n (pc := 63) ok 1 dX11_calls_63 rfl ?_
    refine r_iload_n (pc := 64) ok 2 dX11_calls_64 rfl ?_
    refine r_iload (pc := 65) ok 0 dX11_calls_65 rfl ?_
    refine r_callV0 (pc := 67) ok [.int vq2, .int r8] [] 6 (fun rZ MZ hZ => con_X11_wearsNow g l vq2 r8 _ rZ MZ hZ) cv_X11_209 ok_22 (rmOk_L (by decide) (by decide)) dX11_calls_67 rfl rfl (Nat.le_of_ble_eq_true rfl) (fun r13 M14 => ?_)
    refine r_pop (pc := 70) ok dX11_calls_70 rfl ?_
    refine r_lload (pc := 71) ok 4 dX11_calls_71 rfl ?_
    refine r_ldc2 (pc := 73) ok wcl_X11_253 dX11_calls_73 ?_
    refine r_lmul (pc := 76) ok dX11_calls_76 ?_
    refine r_ldc2 (pc := 77) ok wcl_X11_255 dX11_calls_77 ?_
    refine r_lremc (pc := 80) ok (by decide) dX11_calls_80 ?_
    refine r_nml (fun w15 => ?_)
    refine r_lstore (pc := 81) ok [(4, .long w15), (7, .int r8), (0, .ref (gA g 22 0)), (2, .int vq2), (3, .int vq3), (6, .int vq6)] dX11_calls_81 (by decide) rfl ?_
    refine r_aload_n (pc := 83) ok 2 dX11_calls_83 rfl ?_
    refine r_iload (pc := 84) ok 1 dX11_calls_84 rfl ?_
    refine r_lload (pc := 86) ok 0 dX11_calls_86 rfl ?_
    refine r_ldc2 (pc := 88) ok wcl_X11_257 dX11_calls_88 ?_
    refine r_lremc (pc := 91) ok (by decide) dX11_calls_91 ?_
    refine r_l2i (pc := 92) ok dX11_calls_92 ?_
    refine r_callS0 (pc := 93) ok [.int r8, .int ((lrem w15 4).toInt32)] [.ref (gA g 22 0)] 2 (fun rZ MZ hZ => con_X11_goesBy g l r8 ((lrem w15 4).toInt32) _ rZ MZ hZ) cs_X11_259 (rmOk_L (by decide) (by decide)) dX11_calls_93 rfl rfl (Nat.le_of_ble_eq_true rfl) (fun r16 M17 => ?_)
    refine r_putI (pc := 96) ok fi_22_35 (by decide) fl_X11_250 fp_22_35 ⟨rfl, rfl⟩ dX11_calls_96 ?_
    refine r_nmM (fun M18 => ?_)
    refine r_iinc (pc := 99) ok 5 (vq6 + 1) [(6, .int (vq6 + 1)), (4, .long w15), (7, .int r8), (0, .ref (gA g 22 0)), (2, .int vq2), (3, .int vq3)] dX11_calls_99 rfl (congrArg (fun z => vq6 + z) (by decide : Int32.ofInt 1 = (1 : Int32))) (by decide) rfl ?_
    refine r_goto (pc := 102) ok 26 dX11_calls_102 (by decide) ?_
    refine r_lv [3, 4, 5, 1, 0] [(0, .ref (gA g 22 0)), (2, .int vq2), (3, .int vq3), (4, .long w15), (6, .int (vq6 + 1))] rfl ?_
    exact hk26 w15 (vq6 + 1) M18
theorem sX11_calls_L26 {g : GP} {l : Launch} {x : CT} (ok : Ok g l x RX11 cX11_calls 8 none (rmL 7)) (vq2 : Int32) (vq3 : Int32)  : ∀ (n : Nat) (vq4 : Int64) (vq6 : Int32) (M : Mem), Sw g l x (FinQ g x eV) 8 0 0 26 [(0, .ref (gA g 22 0)), (2, .int vq2), (3, .int vq3), (4, .long vq4), (6, .int vq6)] [] M (fX11_calls_L26 vq2 vq3 n vq4 vq6 M) := by
  intro n
  induction n with
  | zero => intros; exact r_none
  | succ n ih => intro vq4 vq6 M; exact sX11_calls_B26 ok vq2 vq3  _ ih vq4 vq6 M
def fX11_calls (vq1 : Int32) (vq2 : Int32) (vq3 : Int32) (M : Mem) : Option (Unit × Mem) :=
  lt (vq1.toInt64 + 1) fun w1 =>
  lt (mst M 22 0 34 0) fun M2 =>
  lt (mst M2 22 0 35 (vq3 / 100)) fun M3 =>
  ob (fX11_keeps M3) fun r4 M5 =>
  fX11_calls_L26 vq2 vq3 FU w1 0 M5
set_option maxRecDepth 20000 in
theorem wX11_calls {g : GP} {l : Launch} {x : CT} (ok : Ok g l x RX11 cX11_calls 8 none (rmL 7)) (vq1 : Int32) (vq2 : Int32) (vq3 : Int32)  (M : Mem) : Sw g l x (FinQ g x eV) 8 0 0 0 [(0, .ref (gA g 22 0)), (1, .int vq1), (2, .int vq2), (3, .int vq3)] [] M (fX11_calls vq1 vq2 vq3 M) := by
  unfold fX11_calls
  refine r_iload_n (pc := 0) ok 1 dX11_calls_0 rfl ?_
  refine r_i2l (pc := 1) ok dX11_calls_1 ?_
  refine r_lconst (pc := 2) ok 1 dX11_calls_2 (by decide) ?_
  refine r_ladd (pc := 3) ok dX11_calls_3 ?_
  refine r_nml (fun w1 => ?_)
  refine r_lstore (pc := 4) ok [(4, .long w1), (0, .ref (gA g 22 0)), (1, .int vq1), (2, .int vq2), (3, .int vq3)] dX11_calls_4 (by decide) rfl ?_
  refine r_aload_n (pc := 6) ok 1 dX11_calls_6 rfl ?_
  refine r_iconst (pc := 7) ok 0 dX11_calls_7 (by decide) ?_
  refine r_putI (pc := 8) ok fi_22_34 (by decide) fl_X11_247 fp_22_34 ⟨rfl, rfl⟩ dX11_calls_8 ?_
  refine r_nmM (fun M2 => ?_)
  refine r_aload_n (pc := 11) ok 1 dX11_calls_11 rfl ?_
  refine r_iload_n (pc := 12) ok 4 dX11_calls_12 rfl ?_
  refine r_bipush (pc := 13) ok 100 dX11_calls_13 (by decide) ?_
  refine r_idivc (pc := 15) ok (by decide) dX11_calls_15 ?_
  refine r_putI (pc := 16) ok fi_22_35 (by decide) fl_X11_250 fp_22_35 ⟨rfl, rfl⟩ dX11_calls_16 ?_
  refine r_nmM (fun M3 => ?_)
  refine r_aload_n (pc := 19) ok 1 dX11_calls_19 rfl ?_
  refine r_callV0 (pc := 20) ok [] [] 2 (fun rZ MZ hZ => con_X11_keeps g l  _ rZ MZ hZ) cv_X11_194 ok_22 (rmOk_L (by decide) (by decide)) dX11_calls_20 rfl rfl (Nat.le_of_ble_eq_true rfl) (fun r4 M5 => ?_)
  refine r_iconst (pc := 23) ok 0 dX11_calls_23 (by decide) ?_
  refine r_istore (pc := 24) ok [(6, .int 0), (4, .long w1), (0, .ref (gA g 22 0)), (1, .int vq1), (2, .int vq2), (3, .int vq3)] dX11_calls_24 (by decide) rfl ?_
  refine r_lv [2, 4, 5, 1, 0] [(0, .ref (gA g 22 0)), (2, .int vq2), (3, .int vq3), (4, .long w1), (6, .int 0)] rfl ?_
  exact sX11_calls_L26 ok vq2 vq3 FU w1 0 M5
theorem con_X11_calls (g : GP) (l : Launch) (vq1 : Int32) (vq2 : Int32) (vq3 : Int32)  (M : Mem) (r : Unit) (M2 : Mem) (h : fX11_calls vq1 vq2 vq3 M = some (r, M2)) : Con g l yX11_calls cX11_calls 8 none (rmL 7) [.ref (gA g 22 0), .int vq1, .int vq2, .int vq3] M (eV r) M2 :=
  Con.of (own := RX11) (f := fX11_calls vq1 vq2 vq3 M) (by decide) (Nat.le_of_ble_eq_true rfl) rfl (fun x ok => wX11_calls ok vq1 vq2 vq3  M) r M2 h
def fX4_isWord_B19 (vq1 : Int32) (vq2 : Int32) (k19 : Int32 → Mem → Option (Int32 × Mem)) (vq3 : Int32) (M : Mem) : Option (Int32 × Mem) :=
  if vq2 ≤ vq3 then
    (some (1, M))
  else
    (ob (fKch vq3 M) fun r1 M2 =>
    gd (inb (((M2 1 0 7) + vq3) - vq1) 160)
    (if r1 = (M2 2 0 (((M2 1 0 7) + vq3) - vq1).toNatClampNeg) then
      (k19 (vq3 + 1) M2)
    else
      (some (0, M2))))
def fX4_isWord_L19 (vq1 : Int32) (vq2 : Int32) : Nat → Int32 → Mem → Option (Int32 × Mem)
  | 0, _, _ => none
  | n + 1, vq3, M => fX4_isWord_B19 vq1 vq2 (fX4_isWord_L19 vq1 vq2 n) vq3 M
set_option maxRecDepth 20000 in
theorem sX4_isWord_B19 {g : GP} {l : Launch} {x : CT} (ok : Ok g l x RX4 cX4_isWord 4 (some FieldType.boolean) (rmL 7)) (vq1 : Int32) (vq2 : Int32)  (k19 : Int32 → Mem → Option (Int32 × Mem)) (hk19 : ∀ (vq3 : Int32) (M : Mem), Sw g l x (FinQ g x eI) 4 0 0 19 [(0, .ref (gA g 1 0)), (1, .int vq1), (2, .int vq2), (3, .int vq3)] [] M (k19 vq3 M)) (vq3 : Int32) (M : Mem) : Sw g l x (FinQ g x eI) 4 0 0 19 [(0, .ref (gA g 1 0)), (1, .int vq1), (2, .int vq2), (3, .int vq3)] [] M (fX4_isWord_B19 vq1 vq2 k19 vq3 M) := by
  unfold fX4_isWord_B19
  refine r_iload_n (pc := 19) ok 3 dX4_isWord_19 rfl ?_
  refine r_iload_n (pc := 20) ok 2 dX4_isWord_20 rfl ?_
  refine r_icmp_ge (pc := 21) ok 54 dX4_isWord_21 (by decide) (fun _ => ?_) (fun _ => ?_)
  · refine r_iconst (pc := 54) ok 1 dX4_isWord_54 (by decide) ?_
    exact r_zret (pc := 55) ok (Nat.zero_le _) (Nat.zero_le _) rfl rfl dX4_isWord_55
  · refine r_ldcS (pc := 24) ok dX4_isWord_24 ?_
    refine r_iload_n (pc := 26) ok 3 dX4_isWord_26 rfl ?_
    refine r_callVK (pc := 27) ok [.int vq3] [] 5 (fun rZ MZ hZ => cKch g l vq3 _ rZ MZ hZ) cv_X4_92 (rmOk_L (by decide) (by decide)) dX4_isWord_27 rfl rfl (Nat.le_of_ble_eq_true rfl) (fun r1 M2 => ?_)
    refine r_aload_n (pc := 30) ok 0 dX4_isWord_30 rfl ?_
    refine r_getR (pc := 31) ok fr_1_0 (by decide) fl_X4_9 dX4_isWord_31 ?_
    refine r_aload_n (pc := 34) ok 0 dX4_isWord_34 rfl ?_
    refine r_getI (pc := 35) ok fi_1_7 (by decide) fl_X4_66 dX4_isWord_35 ?_
    refine r_iload_n (pc := 38) ok 3 dX4_isWord_38 rfl ?_
    refine r_iadd (pc := 39) ok dX4_isWord_39 ?_
    refine r_iload_n (pc := 40) ok 1 dX4_isWord_40 rfl ?_
    refine r_isub (pc := 41) ok dX4_isWord_41 ?_
    refine r_iald (pc := 42) ok ik_2 (by decide) dX4_isWord_42 (fun _ => ?_)
    refine r_icmp_eq (pc := 43) ok 48 dX4_isWord_43 (by decide) (fun _ => ?_) (fun _ => ?_)
    · refine r_iinc (pc := 48) ok 3 (vq3 + 1) [(3, .int (vq3 + 1)), (0, .ref (gA g 1 0)), (1, .int vq1), (2, .int vq2)] dX4_isWord_48 rfl (congrArg (fun z => vq3 + z) (by decide : Int32.ofInt 1 = (1 : Int32))) (by decide) rfl ?_
      refine r_goto (pc := 51) ok 19 dX4_isWord_51 (by decide) ?_
      refine r_lv [1, 2, 3, 0] [(0, .ref (gA g 1 0)), (1, .int vq1), (2, .int vq2), (3, .int (vq3 + 1))] rfl ?_
      exact hk19 (vq3 + 1) M2
    · refine r_iconst (pc := 46) ok 0 dX4_isWord_46 (by decide) ?_
      exact r_zret (pc := 47) ok (Nat.zero_le _) (Nat.zero_le _) rfl rfl dX4_isWord_47
theorem sX4_isWord_L19 {g : GP} {l : Launch} {x : CT} (ok : Ok g l x RX4 cX4_isWord 4 (some FieldType.boolean) (rmL 7)) (vq1 : Int32) (vq2 : Int32)  : ∀ (n : Nat) (vq3 : Int32) (M : Mem), Sw g l x (FinQ g x eI) 4 0 0 19 [(0, .ref (gA g 1 0)), (1, .int vq1), (2, .int vq2), (3, .int vq3)] [] M (fX4_isWord_L19 vq1 vq2 n vq3 M) := by
  intro n
  induction n with
  | zero => intros; exact r_none
  | succ n ih => intro vq3 M; exact sX4_isWord_B19 ok vq1 vq2  _ ih vq3 M
def fX4_isWord (vq1 : Int32) (vq2 : Int32) (M : Mem) : Option (Int32 × Mem) :=
  if (vq2 - vq1) = ((M 1 0 8) - (M 1 0 7)) then
    (fX4_isWord_L19 vq1 vq2 FU vq1 M)
  else
    (some (0, M))
set_option maxRecDepth 20000 in
theorem wX4_isWord {g : GP} {l : Launch} {x : CT} (ok : Ok g l x RX4 cX4_isWord 4 (some FieldType.boolean) (rmL 7)) (vq1 : Int32) (vq2 : Int32)  (M : Mem) : Sw g l x (FinQ g x eI) 4 0 0 0 [(0, .ref (gA g 1 0)), (1, .int vq1), (2, .int vq2)] [] M (fX4_isWord vq1 vq2 M) := by
  unfold fX4_isWord
  refine r_iload_n (pc := 0) ok 2 dX4_isWord_0 rfl ?_
  refine r_iload_n (pc := 1) ok 1 dX4_isWord_1 rfl ?_
  refine r_isub (pc := 2) ok dX4_isWord_2 ?_
  refine r_aload_n (pc := 3) ok 0 dX4_isWord_3 rfl ?_
  refine r_getI (pc := 4) ok fi_1_8 (by decide) fl_X4_28 dX4_isWord_4 ?_
  refine r_aload_n (pc := 7) ok 0 dX4_isWord_7 rfl ?_
  refine r_getI (pc := 8) ok fi_1_7 (by decide) fl_X4_66 dX4_isWord_8 ?_
  refine r_isub (pc := 11) ok dX4_isWord_11 ?_
  refine r_icmp_eq (pc := 12) ok 17 dX4_isWord_12 (by decide) (fun _ => ?_) (fun _ => ?_)
  · refine r_iload_n (pc := 17) ok 1 dX4_isWord_17 rfl ?_
    refine r_istore_n (pc := 18) ok [(3, .int vq1), (0, .ref (gA g 1 0)), (1, .int vq1), (2, .int vq2)] dX4_isWord_18 rfl (by decide) rfl ?_
    refine r_lv [1, 2, 3, 0] [(0, .ref (gA g 1 0)), (1, .int vq1), (2, .int vq2), (3, .int vq1)] rfl ?_
    exact sX4_isWord_L19 ok vq1 vq2 FU vq1 M
  · refine r_iconst (pc := 15) ok 0 dX4_isWord_15 (by decide) ?_
    exact r_zret (pc := 16) ok (Nat.zero_le _) (Nat.zero_le _) rfl rfl dX4_isWord_16
theorem con_X4_isWord (g : GP) (l : Launch) (vq1 : Int32) (vq2 : Int32)  (M : Mem) (r : Int32) (M2 : Mem) (h : fX4_isWord vq1 vq2 M = some (r, M2)) : Con g l yX4_isWord cX4_isWord 4 (some FieldType.boolean) (rmL 7) [.ref (gA g 1 0), .int vq1, .int vq2] M (eI r) M2 :=
  Con.of (own := RX4) (f := fX4_isWord vq1 vq2 M) (by decide) (Nat.le_of_ble_eq_true rfl) rfl (fun x ok => wX4_isWord ok vq1 vq2  M) r M2 h
def fX5_leftInAll_B4 (iq0 : Nat) (vq1 : Int32) (k4 : Int32 → Int32 → Mem → Option (Int32 × Mem)) (vq2 : Int32) (vq3 : Int32) (M : Mem) : Option (Int32 × Mem) :=
  if 36 ≤ vq3 then
    (some (vq2, M))
  else
    (ob (fX5_leftOn iq0 vq1 vq3 M) fun r1 M2 =>
    lt (vq2 + r1) fun w3 =>
    k4 w3 (vq3 + 1) M2)
def fX5_leftInAll_L4 (iq0 : Nat) (vq1 : Int32) : Nat → Int32 → Int32 → Mem → Option (Int32 × Mem)
  | 0, _, _, _ => none
  | n + 1, vq2, vq3, M => fX5_leftInAll_B4 iq0 vq1 (fX5_leftInAll_L4 iq0 vq1 n) vq2 vq3 M
set_option maxRecDepth 20000 in
theorem sX5_leftInAll_B4 {g : GP} {l : Launch} {x : CT} (ok : Ok g l x RX5 cX5_leftInAll 4 (some FieldType.int) (rmL 7)) (iq0 : Nat) (vq1 : Int32) (h0 : iq0 < 3) (k4 : Int32 → Int32 → Mem → Option (Int32 × Mem)) (hk4 : ∀ (vq2 : Int32) (vq3 : Int32) (M : Mem), Sw g l x (FinQ g x eI) 4 0 0 4 [(0, .ref (gA g 15 iq0)), (1, .int vq1), (2, .int vq2), (3, .int vq3)] [] M (k4 vq2 vq3 M)) (vq2 : Int32) (vq3 : Int32) (M : Mem) : Sw g l x (FinQ g x eI) 4 0 0 4 [(0, .ref (gA g 15 iq0)), (1, .int vq1), (2, .int vq2), (3, .int vq3)] [] M (fX5_leftInAll_B4 iq0 vq1 k4 vq2 vq3 M) := by
  unfold fX5_leftInAll_B4
  refine r_iload_n (pc := 4) ok 3 dX5_leftInAll_4 rfl ?_
  refine r_bipush (pc := 5) ok 36 dX5_leftInAll_5 (by decide) ?_
  refine r_icmp_ge (pc := 7) ok 25 dX5_leftInAll_7 (by decide) (fun _ => ?_) (fun _ => ?_)
  · refine r_iload_n (pc := 25) ok 2 dX5_leftInAll_25 rfl ?_
    exact r_iret (pc := 26) ok (Nat.zero_le _) (Nat.zero_le _) rfl dX5_leftInAll_26
  · refine r_iload_n (pc := 10) ok 2 dX5_leftInAll_10 rfl ?_
    refine r_aload_n (pc := 11) ok 0 dX5_leftInAll_11 rfl ?_
    refine r_iload_n (pc := 12) ok 1 dX5_leftInAll_12 rfl ?_
    refine r_iload_n (pc := 13) ok 3 dX5_leftInAll_13 rfl ?_
    refine r_callV0 (pc := 14) ok [.int vq1, .int vq3] [.int vq2] 6 (fun rZ MZ hZ => con_X5_leftOn g l iq0 vq1 vq3 h0 _ rZ MZ hZ) cv_X5_95 (ok_15 h0) (rmOk_L (by decide) (by decide)) dX5_leftInAll_14 rfl rfl (Nat.le_of_ble_eq_true rfl) (fun r1 M2 => ?_)
    refine r_iadd (pc := 17) ok dX5_leftInAll_17 ?_
    refine r_nmi (fun w3 => ?_)
    refine r_istore_n (pc := 18) ok [(2, .int w3), (0, .ref (gA g 15 iq0)), (1, .int vq1), (3, .int vq3)] dX5_leftInAll_18 rfl (by decide) rfl ?_
    refine r_iinc (pc := 19) ok 3 (vq3 + 1) [(3, .int (vq3 + 1)), (2, .int w3), (0, .ref (gA g 15 iq0)), (1, .int vq1)] dX5_leftInAll_19 rfl (congrArg (fun z => vq3 + z) (by decide : Int32.ofInt 1 = (1 : Int32))) (by decide) rfl ?_
    refine r_goto (pc := 22) ok 4 dX5_leftInAll_22 (by decide) ?_
    refine r_lv [2, 3, 1, 0] [(0, .ref (gA g 15 iq0)), (1, .int vq1), (2, .int w3), (3, .int (vq3 + 1))] rfl ?_
    exact hk4 w3 (vq3 + 1) M2
theorem sX5_leftInAll_L4 {g : GP} {l : Launch} {x : CT} (ok : Ok g l x RX5 cX5_leftInAll 4 (some FieldType.int) (rmL 7)) (iq0 : Nat) (vq1 : Int32) (h0 : iq0 < 3) : ∀ (n : Nat) (vq2 : Int32) (vq3 : Int32) (M : Mem), Sw g l x (FinQ g x eI) 4 0 0 4 [(0, .ref (gA g 15 iq0)), (1, .int vq1), (2, .int vq2), (3, .int vq3)] [] M (fX5_leftInAll_L4 iq0 vq1 n vq2 vq3 M) := by
  intro n
  induction n with
  | zero => intros; exact r_none
  | succ n ih => intro vq2 vq3 M; exact sX5_leftInAll_B4 ok iq0 vq1 h0 _ ih vq2 vq3 M
def fX5_leftInAll (iq0 : Nat) (vq1 : Int32) (M : Mem) : Option (Int32 × Mem) :=
  fX5_leftInAll_L4 iq0 vq1 FU 0 0 M
set_option maxRecDepth 20000 in
theorem wX5_leftInAll {g : GP} {l : Launch} {x : CT} (ok : Ok g l x RX5 cX5_leftInAll 4 (some FieldType.int) (rmL 7)) (iq0 : Nat) (vq1 : Int32) (hq0 : iq0 < 3) (M : Mem) : Sw g l x (FinQ g x eI) 4 0 0 0 [(0, .ref (gA g 15 iq0)), (1, .int vq1)] [] M (fX5_leftInAll iq0 vq1 M) := by
  unfold fX5_leftInAll
  refine r_iconst (pc := 0) ok 0 dX5_leftInAll_0 (by decide) ?_
  refine r_istore_n (pc := 1) ok [(2, .int 0), (0, .ref (gA g 15 iq0)), (1, .int vq1)] dX5_leftInAll_1 rfl (by decide) rfl ?_
  refine r_iconst (pc := 2) ok 0 dX5_leftInAll_2 (by decide) ?_
  refine r_istore_n (pc := 3) ok [(3, .int 0), (2, .int 0), (0, .ref (gA g 15 iq0)), (1, .int vq1)] dX5_leftInAll_3 rfl (by decide) rfl ?_
  refine r_lv [2, 3, 1, 0] [(0, .ref (gA g 15 iq0)), (1, .int vq1), (2, .int 0), (3, .int 0)] rfl ?_
  exact sX5_leftInAll_L4 ok iq0 vq1 hq0 FU 0 0 M
theorem con_X5_leftInAll (g : GP) (l : Launch) (iq0 : Nat) (vq1 : Int32) (hq0 : iq0 < 3) (M : Mem) (r : Int32) (M2 : Mem) (h : fX5_leftInAll iq0 vq1 M = some (r, M2)) : Con g l yX5_leftInAll cX5_leftInAll 4 (some FieldType.int) (rmL 7) [.ref (gA g 15 iq0), .int vq1] M (eI r) M2 :=
  Con.of (own := RX5) (f := fX5_leftInAll iq0 vq1 M) (by decide) (Nat.le_of_ble_eq_true rfl) rfl (fun x ok => wX5_leftInAll ok iq0 vq1 hq0 M) r M2 h
def fX5_passDay_B2 (iq0 : Nat) (k2 : Int32 → Mem → Option (Unit × Mem)) (vq1 : Int32) (M : Mem) : Option (Unit × Mem) :=
  if (M 15 iq0 7) ≤ vq1 then
    (lt (mst M 15 iq0 8 ((M 15 iq0 8) + 1)) fun M1 =>
    some ((), M1))
  else
    (ob (fX5_leave iq0 vq1 M) fun r2 M3 =>
    k2 (vq1 + 1) M3)
def fX5_passDay_L2 (iq0 : Nat) : Nat → Int32 → Mem → Option (Unit × Mem)
  | 0, _, _ => none
  | n + 1, vq1, M => fX5_passDay_B2 iq0 (fX5_passDay_L2 iq0 n) vq1 M
set_option maxRecDepth 20000 in
theorem sX5_passDay_B2 {g : GP} {l : Launch} {x : CT} (ok : Ok g l x RX5 cX5_passDay 2 none (rmL 7)) (iq0 : Nat) (h0 : iq0 < 3) (k2 : Int32 → Mem → Option (Unit × Mem)) (hk2 : ∀ (vq1 : Int32) (M : Mem), Sw g l x (FinQ g x eV) 2 0 0 2 [(0, .ref (gA g 15 iq0)), (1, .int vq1)] [] M (k2 vq1 M)) (vq1 : Int32) (M : Mem) : Sw g l x (FinQ g x eV) 2 0 0 2 [(0, .ref (gA g 15 iq0)), (1, .int vq1)] [] M (fX5_passDay_B2 iq0 k2 vq1 M) := by
  unfold fX5_passDay_B2
  refine r_iload_n (pc := 2) ok 1 dX5_passDay_2 rfl ?_
  refine r_aload_n (pc := 3) ok 0 dX5_passDay_3 rfl ?_
  refine r_getI (pc := 4) ok fi_15_7 h0 fl_X5_45 dX5_passDay_4 ?_
  refine r_icmp_ge (pc := 7) ok 21 dX5_passDay_7 (by decide) (fun _ => ?_) (fun _ => ?_)
  · refine r_aload_n (pc := 21) ok 0 dX5_passDay_21 rfl ?_
    refine r_dup (pc := 22) ok dX5_passDay_22 rfl ?_
    refine r_getI (pc := 23) ok fi_15_8 h0 fl_X5_49 dX5_passDay_23 ?_
    refine r_iconst (pc := 26) ok 1 dX5_passDay_26 (by decide) ?_
    refine r_iadd (pc := 27) ok dX5_passDay_27 ?_
    refine r_putI (pc := 28) ok fi_15_8 h0 fl_X5_49 fp_15_8 ⟨rfl, rfl⟩ dX5_passDay_28 ?_
    refine r_nmM (fun M1 => ?_)
    exact r_vret (pc := 31) ok (Nat.zero_le _) (Nat.zero_le _) rfl dX5_passDay_31
  · refine r_aload_n (pc := 10) ok 0 dX5_passDay_10 rfl ?_
    refine r_iload_n (pc := 11) ok 1 dX5_passDay_11 rfl ?_
    refine r_callV0 (pc := 12) ok [.int vq1] [] 6 (fun rZ MZ hZ => con_X5_leave g l iq0 vq1 h0 _ rZ MZ hZ) cv_X5_101 (ok_15 h0) (rmOk_L (by decide) (by decide)) dX5_passDay_12 rfl rfl (Nat.le_of_ble_eq_true rfl) (fun r2 M3 => ?_)
    refine r_iinc (pc := 15) ok 1 (vq1 + 1) [(1, .int (vq1 + 1)), (0, .ref (gA g 15 iq0))] dX5_passDay_15 rfl (congrArg (fun z => vq1 + z) (by decide : Int32.ofInt 1 = (1 : Int32))) (by decide) rfl ?_
    refine r_goto (pc := 18) ok 2 dX5_passDay_18 (by decide) ?_
    refine r_lv [1, 0] [(0, .ref (gA g 15 iq0)), (1, .int (vq1 + 1))] rfl ?_
    exact hk2 (vq1 + 1) M3
theorem sX5_passDay_L2 {g : GP} {l : Launch} {x : CT} (ok : Ok g l x RX5 cX5_passDay 2 none (rmL 7)) (iq0 : Nat) (h0 : iq0 < 3) : ∀ (n : Nat) (vq1 : Int32) (M : Mem), Sw g l x (FinQ g x eV) 2 0 0 2 [(0, .ref (gA g 15 iq0)), (1, .int vq1)] [] M (fX5_passDay_L2 iq0 n vq1 M) := by
  intro n
  induction n with
  | zero => intros; exact r_none
  | succ n ih => intro vq1 M; exact sX5_passDay_B2 ok iq0 h0 _ ih vq1 M
def fX5_passDay (iq0 : Nat) (M : Mem) : Option (Unit × Mem) :=
  fX5_passDay_L2 iq0 FU 0 M
set_option maxRecDepth 20000 in
theorem wX5_passDay {g : GP} {l : Launch} {x : CT} (ok : Ok g l x RX5 cX5_passDay 2 none (rmL 7)) (iq0 : Nat) (hq0 : iq0 < 3) (M : Mem) : Sw g l x (FinQ g x eV) 2 0 0 0 [(0, .ref (gA g 15 iq0))] [] M (fX5_passDay iq0 M) := by
  unfold fX5_passDay
  refine r_iconst (pc := 0) ok 0 dX5_passDay_0 (by decide) ?_
  refine r_istore_n (pc := 1) ok [(1, .int 0), (0, .ref (gA g 15 iq0))] dX5_passDay_1 rfl (by decide) rfl ?_
  refine r_lv [1, 0] [(0, .ref (gA g 15 iq0)), (1, .int 0)] rfl ?_
  exact sX5_passDay_L2 ok iq0 hq0 FU 0 M
theorem con_X5_passDay (g : GP) (l : Launch) (iq0 : Nat) (hq0 : iq0 < 3) (M : Mem) (r : Unit) (M2 : Mem) (h : fX5_passDay iq0 M = some (r, M2)) : Con g l yX5_passDay cX5_passDay 2 none (rmL 7) [.ref (gA g 15 iq0)] M (eV r) M2 :=
  Con.of (own := RX5) (f := fX5_passDay iq0 M) (by decide) (Nat.le_of_ble_eq_true rfl) rfl (fun x ok => wX5_passDay ok iq0 hq0 M) r M2 h
def fX5_leastFelt_B75 (k57 : Int32 → Int32 → Mem → Option (Int32 × Mem)) (iq0 : Nat) (vq3 : Int32) (vq5 : Int32) (k75 : Int32 → Int32 → Mem → Option (Int32 × Mem)) (vq4 : Int32) (vq6 : Int32) (M : Mem) : Option (Int32 × Mem) :=
  if 36 ≤ vq6 then
    (k57 vq4 (vq5 + 1) M)
  else
    (ob (fX5_relax iq0 vq6 M) fun r4 M5 =>
    if r4 = 0 then
      (k75 vq4 (vq6 + 1) M5)
    else
      (k75 1 (vq6 + 1) M5))
def fX5_leastFelt_L75 (k57 : Int32 → Int32 → Mem → Option (Int32 × Mem)) (iq0 : Nat) (vq3 : Int32) (vq5 : Int32) : Nat → Int32 → Int32 → Mem → Option (Int32 × Mem)
  | 0, _, _, _ => none
  | n + 1, vq4, vq6, M => fX5_leastFelt_B75 k57 iq0 vq3 vq5 (fX5_leastFelt_L75 k57 iq0 vq3 vq5 n) vq4 vq6 M
set_option maxRecDepth 20000 in
theorem sX5_leastFelt_B75 {g : GP} {l : Launch} {x : CT} {k57 : Int32 → Int32 → Mem → Option (Int32 × Mem)} (ok : Ok g l x RX5 cX5_leastFelt 7 (some FieldType.int) (rmL 7)) (iq0 : Nat) (vq3 : Int32) (vq5 : Int32) (h0 : iq0 < 3) (hk57 : ∀ (vq4 : Int32) (vq5 : Int32) (M : Mem), Sw g l x (FinQ g x eI) 7 0 0 57 [(0, .ref (gA g 15 iq0)), (3, .int vq3), (4, .int vq4), (5, .int vq5)] [] M (k57 vq4 vq5 M)) (k75 : Int32 → Int32 → Mem → Option (Int32 × Mem)) (hk75 : ∀ (vq4 : Int32) (vq6 : Int32) (M : Mem), Sw g l x (FinQ g x eI) 7 0 0 75 [(0, .ref (gA g 15 iq0)), (3, .int vq3), (4, .int vq4), (5, .int vq5), (6, .int vq6)] [] M (k75 vq4 vq6 M)) (vq4 : Int32) (vq6 : Int32) (M : Mem) : Sw g l x (FinQ g x eI) 7 0 0 75 [(0, .ref (gA g 15 iq0)), (3, .int vq3), (4, .int vq4), (5, .int vq5), (6, .int vq6)] [] M (fX5_leastFelt_B75 k57 iq0 vq3 vq5 k75 vq4 vq6 M) := by
  unfold fX5_leastFelt_B75
  refine r_iload (pc := 75) ok 4 dX5_leastFelt_75 rfl ?_
  refine r_bipush (pc := 77) ok 36 dX5_leastFelt_77 (by decide) ?_
  refine r_icmp_ge (pc := 79) ok 100 dX5_leastFelt_79 (by decide) (fun _ => ?_) (fun _ => ?_)
  · refine r_iinc (pc := 100) ok 3 (vq5 + 1) [(5, .int (vq5 + 1)), (0, .ref (gA g 15 iq0)), (3, .int vq3), (4, .int vq4), (6, .int vq6)] dX5_leastFelt_100 rfl (congrArg (fun z => vq5 + z) (by decide : Int32.ofInt 1 = (1 : Int32))) (by decide) rfl ?_
    refine r_goto (pc := 103) ok 57 dX5_leastFelt_103 (by decide) ?_
    refine r_lv [1, 2, 3, 0] [(0, .ref (gA g 15 iq0)), (3, .int vq3), (4, .int vq4), (5, .int (vq5 + 1))] rfl ?_
    exact hk57 vq4 (vq5 + 1) M
  · refine r_aload_n (pc := 82) ok 0 dX5_leastFelt_82 rfl ?_
    refine r_iload (pc := 83) ok 4 dX5_leastFelt_83 rfl ?_
    refine r_callV0 (pc := 85) ok [.int vq6] [] 3 (fun rZ MZ hZ => con_X5_relax g l iq0 vq6 h0 _ rZ MZ hZ) cv_X5_125 (ok_15 h0) (rmOk_L (by decide) (by decide)) dX5_leastFelt_85 rfl rfl (Nat.le_of_ble_eq_true rfl) (fun r4 M5 => ?_)
    refine r_if_eq (pc := 88) ok 94 dX5_leastFelt_88 (by decide) (fun _ => ?_) (fun _ => ?_)
    · refine r_iinc (pc := 94) ok 4 (vq6 + 1) [(6, .int (vq6 + 1)), (0, .ref (gA g 15 iq0)), (3, .int vq3), (4, .int vq4), (5, .int vq5)] dX5_leastFelt_94 rfl (congrArg (fun z => vq6 + z) (by decide : Int32.ofInt 1 = (1 : Int32))) (by decide) rfl ?_
      refine r_goto (pc := 97) ok 75 dX5_leastFelt_97 (by decide) ?_
      refine r_lv [1, 2, 3, 4, 0] [(0, .ref (gA g 15 iq0)), (3, .int vq3), (4, .int vq4), (5, .int vq5), (6, .int (vq6 + 1))] rfl ?_
      exact hk75 vq4 (vq6 + 1) M5
    · refine r_iconst (pc := 91) ok 1 dX5_leastFelt_91 (by decide) ?_
      refine r_istore (pc := 92) ok [(4, .int 1), (0, .ref (gA g 15 iq0)), (3, .int vq3), (5, .int vq5), (6, .int vq6)] dX5_leastFelt_92 (by decide) rfl ?_
      refine r_iinc (pc := 94) ok 4 (vq6 + 1) [(6, .int (vq6 + 1)), (4, .int 1), (0, .ref (gA g 15 iq0)), (3, .int vq3), (5, .int vq5)] dX5_leastFelt_94 rfl (congrArg (fun z => vq6 + z) (by decide : Int32.ofInt 1 = (1 : Int32))) (by decide) rfl ?_
      refine r_goto (pc := 97) ok 75 dX5_leastFelt_97 (by decide) ?_
      refine r_lv [2, 3, 1, 4, 0] [(0, .ref (gA g 15 iq0)), (3, .int vq3), (4, .int 1), (5, .int vq5), (6, .int (vq6 + 1))] rfl ?_
      exact hk75 1 (vq6 + 1) M5
theorem sX5_leastFelt_L75 {g : GP} {l : Launch} {x : CT} {k57 : Int32 → Int32 → Mem → Option (Int32 × Mem)} (ok : Ok g l x RX5 cX5_leastFelt 7 (some FieldType.int) (rmL 7)) (iq0 : Nat) (vq3 : Int32) (vq5 : Int32) (h0 : iq0 < 3) (hk57 : ∀ (vq4 : Int32) (vq5 : Int32) (M : Mem), Sw g l x (FinQ g x eI) 7 0 0 57 [(0, .ref (gA g 15 iq0)), (3, .int vq3), (4, .int vq4), (5, .int vq5)] [] M (k57 vq4 vq5 M)) : ∀ (n : Nat) (vq4 : Int32) (vq6 : Int32) (M : Mem), Sw g l x (FinQ g x eI) 7 0 0 75 [(0, .ref (gA g 15 iq0)), (3, .int vq3), (4, .int vq4), (5, .int vq5), (6, .int vq6)] [] M (fX5_leastFelt_L75 k57 iq0 vq3 vq5 n vq4 vq6 M) := by
  intro n
  induction n with
  | zero => intros; exact r_none
  | succ n ih => intro vq4 vq6 M; exact sX5_leastFelt_B75 ok iq0 vq3 vq5 h0 hk57 _ ih vq4 vq6 M
def fX5_leastFelt_B57 (iq0 : Nat) (vq3 : Int32) (k57 : Int32 → Int32 → Mem → Option (Int32 × Mem)) (vq4 : Int32) (vq5 : Int32) (M : Mem) : Option (Int32 × Mem) :=
  if 36 ≤ vq5 then
    (gd (inb vq3 36)
    (some (M 21 iq0 vq3.toNatClampNeg, M)))
  else
    (if vq4 = 0 then
      (gd (inb vq3 36)
      (some (M 21 iq0 vq3.toNatClampNeg, M)))
    else
      (fX5_leastFelt_L75 k57 iq0 vq3 vq5 FU 0 0 M))
def fX5_leastFelt_L57 (iq0 : Nat) (vq3 : Int32) : Nat → Int32 → Int32 → Mem → Option (Int32 × Mem)
  | 0, _, _, _ => none
  | n + 1, vq4, vq5, M => fX5_leastFelt_B57 iq0 vq3 (fX5_leastFelt_L57 iq0 vq3 n) vq4 vq5 M
set_option maxRecDepth 20000 in
theorem sX5_leastFelt_B57 {g : GP} {l : Launch} {x : CT} (ok : Ok g l x RX5 cX5_leastFelt 7 (some FieldType.int) (rmL 7)) (iq0 : Nat) (vq3 : Int32) (h0 : iq0 < 3) (k57 : Int32 → Int32 → Mem → Option (Int32 × Mem)) (hk57 : ∀ (vq4 : Int32) (vq5 : Int32) (M : Mem), Sw g l x (FinQ g x eI) 7 0 0 57 [(0, .ref (gA g 15 iq0)), (3, .int vq3), (4, .int vq4), (5, .int vq5)] [] M (k57 vq4 vq5 M)) (vq4 : Int32) (vq5 : Int32) (M : Mem) : Sw g l x (FinQ g x eI) 7 0 0 57 [(0, .ref (gA g 15 iq0)), (3, .int vq3), (4, .int vq4), (5, .int vq5)] [] M (fX5_leastFelt_B57 iq0 vq3 k57 vq4 vq5 M) := by
  unfold fX5_leastFelt_B57
  refine r_iload (pc := 57) ok 3 dX5_leastFelt_57 rfl ?_
  refine r_bipush (pc := 59) ok 36 dX5_leastFelt_59 (by decide) ?_
  refine r_icmp_ge (pc := 61) ok 106 dX5_leastFelt_61 (by decide) (fun _ => ?_) (fun _ => ?_)
  · refine r_aload_n (pc := 106) ok 0 dX5_leastFelt_106 rfl ?_
    refine r_getR (pc := 107) ok fr_15_6 h0 fl_X5_28 dX5_leastFelt_107 ?_
    refine r_iload_n (pc := 110) ok 1 dX5_leastFelt_110 rfl ?_
    refine r_iald (pc := 111) ok ik_21 h0 dX5_leastFelt_111 (fun _ => ?_)
    exact r_iret (pc := 112) ok (Nat.zero_le _) (Nat.zero_le _) rfl dX5_leastFelt_112
  · refine r_iload (pc := 64) ok 2 dX5_leastFelt_64 rfl ?_
    refine r_if_eq (pc := 66) ok 106 dX5_leastFelt_66 (by decide) (fun _ => ?_) (fun _ => ?_)
    · refine r_aload_n (pc := 106) ok 0 dX5_leastFelt_106 rfl ?_
      refine r_getR (pc := 107) ok fr_15_6 h0 fl_X5_28 dX5_leastFelt_107 ?_
      refine r_iload_n (pc := 110) ok 1 dX5_leastFelt_110 rfl ?_
      refine r_iald (pc := 111) ok ik_21 h0 dX5_leastFelt_111 (fun _ => ?_)
      exact r_iret (pc := 112) ok (Nat.zero_le _) (Nat.zero_le _) rfl dX5_leastFelt_112
    · refine r_iconst (pc := 69) ok 0 dX5_leastFelt_69 (by decide) ?_
      refine r_istore (pc := 70) ok [(4, .int 0), (0, .ref (gA g 15 iq0)), (3, .int vq3), (5, .int vq5)] dX5_leastFelt_70 (by decide) rfl ?_
      refine r_iconst (pc := 72) ok 0 dX5_leastFelt_72 (by decide) ?_
      refine r_istore (pc := 73) ok [(6, .int 0), (4, .int 0), (0, .ref (gA g 15 iq0)), (3, .int vq3), (5, .int vq5)] dX5_leastFelt_73 (by decide) rfl ?_
      refine r_lv [2, 3, 1, 4, 0] [(0, .ref (gA g 15 iq0)), (3, .int vq3), (4, .int 0), (5, .int vq5), (6, .int 0)] rfl ?_
      exact sX5_leastFelt_L75 ok iq0 vq3 vq5 h0 hk57 FU 0 0 M
theorem sX5_leastFelt_L57 {g : GP} {l : Launch} {x : CT} (ok : Ok g l x RX5 cX5_leastFelt 7 (some FieldType.int) (rmL 7)) (iq0 : Nat) (vq3 : Int32) (h0 : iq0 < 3) : ∀ (n : Nat) (vq4 : Int32) (vq5 : Int32) (M : Mem), Sw g l x (FinQ g x eI) 7 0 0 57 [(0, .ref (gA g 15 iq0)), (3, .int vq3), (4, .int vq4), (5, .int vq5)] [] M (fX5_leastFelt_L57 iq0 vq3 n vq4 vq5 M) := by
  intro n
  induction n with
  | zero => intros; exact r_none
  | succ n ih => intro vq4 vq5 M; exact sX5_leastFelt_B57 ok iq0 vq3 h0 _ ih vq4 vq5 M
def fX5_leastFelt_B3 (iq0 : Nat) (vq1 : Int32) (vq2 : Int32) (vq3 : Int32) (k3 : Int32 → Mem → Option (Int32 × Mem)) (vq4 : Int32) (M : Mem) : Option (Int32 × Mem) :=
  if 36 ≤ vq4 then
    (ob (fJ7_fill_53178_21 iq0 1000000 M) fun r1 M2 =>
    gd (inb vq2 36)
    (gd (inb vq2 36)
    (lt (mst M2 21 iq0 vq2.toNatClampNeg (M2 20 iq0 vq2.toNatClampNeg)) fun M3 =>
    fX5_leastFelt_L57 iq0 vq3 FU 1 0 M3)))
  else
    (ob (fX5_felt iq0 vq1 vq4 M) fun r6 M7 =>
    gd (inb vq4 36)
    (lt (mst M7 20 iq0 vq4.toNatClampNeg r6) fun M8 =>
    k3 (vq4 + 1) M8))
def fX5_leastFelt_L3 (iq0 : Nat) (vq1 : Int32) (vq2 : Int32) (vq3 : Int32) : Nat → Int32 → Mem → Option (Int32 × Mem)
  | 0, _, _ => none
  | n + 1, vq4, M => fX5_leastFelt_B3 iq0 vq1 vq2 vq3 (fX5_leastFelt_L3 iq0 vq1 vq2 vq3 n) vq4 M
set_option maxRecDepth 20000 in
theorem sX5_leastFelt_B3 {g : GP} {l : Launch} {x : CT} (ok : Ok g l x RX5 cX5_leastFelt 7 (some FieldType.int) (rmL 7)) (iq0 : Nat) (vq1 : Int32) (vq2 : Int32) (vq3 : Int32) (h0 : iq0 < 3) (k3 : Int32 → Mem → Option (Int32 × Mem)) (hk3 : ∀ (vq4 : Int32) (M : Mem), Sw g l x (FinQ g x eI) 7 0 0 3 [(0, .ref (gA g 15 iq0)), (1, .int vq1), (2, .int vq2), (3, .int vq3), (4, .int vq4)] [] M (k3 vq4 M)) (vq4 : Int32) (M : Mem) : Sw g l x (FinQ g x eI) 7 0 0 3 [(0, .ref (gA g 15 iq0)), (1, .int vq1), (2, .int vq2), (3, .int vq3), (4, .int vq4)] [] M (fX5_leastFelt_B3 iq0 vq1 vq2 vq3 k3 vq4 M) := by
  unfold fX5_leastFelt_B3
  refine r_iload (pc := 3) ok 4 dX5_leastFelt_3 rfl ?_
  refine r_bipush (pc := 5) ok 36 dX5_leastFelt_5 (by decide) ?_
  refine r_icmp_ge (pc := 7) ok 30 dX5_leastFelt_7 (by decide) (fun _ => ?_) (fun _ => ?_)
  · refine r_aload_n (pc := 30) ok 0 dX5_leastFelt_30 rfl ?_
    refine r_getR (pc := 31) ok fr_15_6 h0 fl_X5_28 dX5_leastFelt_31 ?_
    refine r_ldc (pc := 34) ok wct_X5_118 dX5_leastFelt_34 ?_
    refine r_callS0 (pc := 36) ok [.ref (gA g 21 iq0), .int 1000000] [] 2 (fun rZ MZ hZ => con_J7_fill_53178_21 g l iq0 1000000 h0 _ rZ MZ hZ) cs_X5_119 (rmOk_L (by decide) (by decide)) dX5_leastFelt_36 rfl rfl (Nat.le_of_ble_eq_true rfl) (fun r1 M2 => ?_)
    refine r_aload_n (pc := 39) ok 0 dX5_leastFelt_39 rfl ?_
    refine r_getR (pc := 40) ok fr_15_6 h0 fl_X5_28 dX5_leastFelt_40 ?_
    refine r_iload_n (pc := 43) ok 2 dX5_leastFelt_43 rfl ?_
    refine r_aload_n (pc := 44) ok 0 dX5_leastFelt_44 rfl ?_
    refine r_getR (pc := 45) ok fr_15_5 h0 fl_X5_25 dX5_leastFelt_45 ?_
    refine r_iload_n (pc := 48) ok 2 dX5_leastFelt_48 rfl ?_
    refine r_iald (pc := 49) ok ik_20 h0 dX5_leastFelt_49 (fun _ => ?_)
    refine r_iast (pc := 50) ok ik_21 h0 dX5_leastFelt_50 ?_
    refine r_nmM (fun M3 => ?_)
    refine r_iconst (pc := 51) ok 1 dX5_leastFelt_51 (by decide) ?_
    refine r_istore (pc := 52) ok [(4, .int 1), (0, .ref (gA g 15 iq0)), (1, .int vq1), (2, .int vq2), (3, .int vq3)] dX5_leastFelt_52 (by decide) rfl ?_
    refine r_iconst (pc := 54) ok 0 dX5_leastFelt_54 (by decide) ?_
    refine r_istore (pc := 55) ok [(5, .int 0), (4, .int 1), (0, .ref (gA g 15 iq0)), (1, .int vq1), (2, .int vq2), (3, .int vq3)] dX5_leastFelt_55 (by decide) rfl ?_
    refine r_lv [2, 5, 1, 0] [(0, .ref (gA g 15 iq0)), (3, .int vq3), (4, .int 1), (5, .int 0)] rfl ?_
    exact sX5_leastFelt_L57 ok iq0 vq3 h0 FU 1 0 M3
  · refine r_aload_n (pc := 10) ok 0 dX5_leastFelt_10 rfl ?_
    refine r_getR (pc := 11) ok fr_15_5 h0 fl_X5_25 dX5_leastFelt_11 ?_
    refine r_iload (pc := 14) ok 4 dX5_leastFelt_14 rfl ?_
    refine r_aload_n (pc := 16) ok 0 dX5_leastFelt_16 rfl ?_
    refine r_iload_n (pc := 17) ok 1 dX5_leastFelt_17 rfl ?_
    refine r_iload (pc := 18) ok 4 dX5_leastFelt_18 rfl ?_
    refine r_callV0 (pc := 20) ok [.int vq1, .int vq4] [.int vq4, .ref (gA g 20 iq0)] 6 (fun rZ MZ hZ => con_X5_felt g l iq0 vq1 vq4 h0 _ rZ MZ hZ) cv_X5_115 (ok_15 h0) (rmOk_L (by decide) (by decide)) dX5_leastFelt_20 rfl rfl (Nat.le_of_ble_eq_true rfl) (fun r6 M7 => ?_)
    refine r_iast (pc := 23) ok ik_20 h0 dX5_leastFelt_23 ?_
    refine r_nmM (fun M8 => ?_)
    refine r_iinc (pc := 24) ok 4 (vq4 + 1) [(4, .int (vq4 + 1)), (0, .ref (gA g 15 iq0)), (1, .int vq1), (2, .int vq2), (3, .int vq3)] dX5_leastFelt_24 rfl (congrArg (fun z => vq4 + z) (by decide : Int32.ofInt 1 = (1 : Int32))) (by decide) rfl ?_
    refine r_goto (pc := 27) ok 3 dX5_leastFelt_27 (by decide) ?_
    refine r_lv [1, 2, 3, 4, 0] [(0, .ref (gA g 15 iq0)), (1, .int vq1), (2, .int vq2), (3, .int vq3), (4, .int (vq4 + 1))] rfl ?_
    exact hk3 (vq4 + 1) M8
theorem sX5_leastFelt_L3 {g : GP} {l : Launch} {x : CT} (ok : Ok g l x RX5 cX5_leastFelt 7 (some FieldType.int) (rmL 7)) (iq0 : Nat) (vq1 : Int32) (vq2 : Int32) (vq3 : Int32) (h0 : iq0 < 3) : ∀ (n : Nat) (vq4 : Int32) (M : Mem), Sw g l x (FinQ g x eI) 7 0 0 3 [(0, .ref (gA g 15 iq0)), (1, .int vq1), (2, .int vq2), (3, .int vq3), (4, .int vq4)] [] M (fX5_leastFelt_L3 iq0 vq1 vq2 vq3 n vq4 M) := by
  intro n
  induction n with
  | zero => intros; exact r_none
  | succ n ih => intro vq4 M; exact sX5_leastFelt_B3 ok iq0 vq1 vq2 vq3 h0 _ ih vq4 M
def fX5_leastFelt (iq0 : Nat) (vq1 : Int32) (vq2 : Int32) (vq3 : Int32) (M : Mem) : Option (Int32 × Mem) :=
  fX5_leastFelt_L3 iq0 vq1 vq2 vq3 FU 0 M
set_option maxRecDepth 20000 in
theorem wX5_leastFelt {g : GP} {l : Launch} {x : CT} (ok : Ok g l x RX5 cX5_leastFelt 7 (some FieldType.int) (rmL 7)) (iq0 : Nat) (vq1 : Int32) (vq2 : Int32) (vq3 : Int32) (hq0 : iq0 < 3) (M : Mem) : Sw g l x (FinQ g x eI) 7 0 0 0 [(0, .ref (gA g 15 iq0)), (1, .int vq1), (2, .int vq2), (3, .int vq3)] [] M (fX5_leastFelt iq0 vq1 vq2 vq3 M) := by
  unfold fX5_leastFelt
  refine r_iconst (pc := 0) ok 0 dX5_leastFelt_0 (by decide) ?_
  refine r_istore (pc := 1) ok [(4, .int 0), (0, .ref (gA g 15 iq0)), (1, .int vq1), (2, .int vq2), (3, .int vq3)] dX5_leastFelt_1 (by decide) rfl ?_
  refine r_lv [1, 2, 3, 4, 0] [(0, .ref (gA g 15 iq0)), (1, .int vq1), (2, .int vq2), (3, .int vq3), (4, .int 0)] rfl ?_
  exact sX5_leastFelt_L3 ok iq0 vq1 vq2 vq3 hq0 FU 0 M
theorem con_X5_leastFelt (g : GP) (l : Launch) (iq0 : Nat) (vq1 : Int32) (vq2 : Int32) (vq3 : Int32) (hq0 : iq0 < 3) (M : Mem) (r : Int32) (M2 : Mem) (h : fX5_leastFelt iq0 vq1 vq2 vq3 M = some (r, M2)) : Con g l yX5_leastFelt cX5_leastFelt 7 (some FieldType.int) (rmL 7) [.ref (gA g 15 iq0), .int vq1, .int vq2, .int vq3] M (eI r) M2 :=
  Con.of (own := RX5) (f := fX5_leastFelt iq0 vq1 vq2 vq3 M) (by decide) (Nat.le_of_ble_eq_true rfl) rfl (fun x ok => wX5_leastFelt ok iq0 vq1 vq2 vq3 hq0 M) r M2 h
def fX5_fewestCells_B51 (vq3 : Int32) (vq5 : Int64) (k51 : Int64 → Int32 → Mem → Option (Int32 × Mem)) (vq7 : Int64) (vq9 : Int32) (M : Mem) : Option (Int32 × Mem) :=
  if 36 < vq9 then
    (some (-1, M))
  else
    (if (lg_cmp (lrem (lushr vq7 vq3) 2) 1) = 0 then
      (some (vq9, M))
    else
      (ob (fX10_grown vq7 M) fun r2 M3 =>
      lt (r2 &&& vq5) fun w4 =>
      k51 w4 (vq9 + 1) M3))
def fX5_fewestCells_L51 (vq3 : Int32) (vq5 : Int64) : Nat → Int64 → Int32 → Mem → Option (Int32 × Mem)
  | 0, _, _, _ => none
  | n + 1, vq7, vq9, M => fX5_fewestCells_B51 vq3 vq5 (fX5_fewestCells_L51 vq3 vq5 n) vq7 vq9 M
set_option maxRecDepth 20000 in
theorem sX5_fewestCells_B51 {g : GP} {l : Launch} {x : CT} (ok : Ok g l x RX5 cX5_fewestCells 10 (some FieldType.int) (rmL 7)) (vq3 : Int32) (vq5 : Int64)  (k51 : Int64 → Int32 → Mem → Option (Int32 × Mem)) (hk51 : ∀ (vq7 : Int64) (vq9 : Int32) (M : Mem), Sw g l x (FinQ g x eI) 10 0 0 51 [(3, .int vq3), (5, .long vq5), (7, .long vq7), (9, .int vq9)] [] M (k51 vq7 vq9 M)) (vq7 : Int64) (vq9 : Int32) (M : Mem) : Sw g l x (FinQ g x eI) 10 0 0 51 [(3, .int vq3), (5, .long vq5), (7, .long vq7), (9, .int vq9)] [] M (fX5_fewestCells_B51 vq3 vq5 k51 vq7 vq9 M) := by
  unfold fX5_fewestCells_B51
  refine r_iload (pc := 51) ok 3 dX5_fewestCells_51 rfl ?_
  refine r_bipush (pc := 53) ok 36 dX5_fewestCells_53 (by decide) ?_
  refine r_icmp_gt (pc := 55) ok 90 dX5_fewestCells_55 (by decide) (fun _ => ?_) (fun _ => ?_)
  · refine r_iconst (pc := 90) ok (-1) dX5_fewestCells_90 (by decide) ?_
    exact r_iret (pc := 91) ok (Nat.zero_le _) (Nat.zero_le _) rfl dX5_fewestCells_91
  · refine r_lload (pc := 58) ok 2 dX5_fewestCells_58 rfl ?_
    refine r_iload_n (pc := 60) ok 0 dX5_fewestCells_60 rfl ?_
    refine r_lushr (pc := 61) ok dX5_fewestCells_61 ?_
    refine r_ldc2 (pc := 62) ok wcl_X5_59 dX5_fewestCells_62 ?_
    refine r_lremc (pc := 65) ok (by decide) dX5_fewestCells_65 ?_
    refine r_lconst (pc := 66) ok 1 dX5_fewestCells_66 (by decide) ?_
    refine r_lcmp (pc := 67) ok dX5_fewestCells_67 ?_
    refine r_if_ne (pc := 68) ok 74 dX5_fewestCells_68 (by decide) (fun _ => ?_) (fun _ => ?_)
    · refine r_iload (pc := 71) ok 3 dX5_fewestCells_71 rfl ?_
      exact r_iret (pc := 73) ok (Nat.zero_le _) (Nat.zero_le _) rfl dX5_fewestCells_73
    · refine r_lload (pc := 74) ok 2 dX5_fewestCells_74 rfl ?_
      refine r_callSN0 (pc := 76) ok [.long vq7] [] 2 (fun rZ MZ hZ => con_X10_grown g l vq7 _ rZ MZ hZ) csN_X5_129 (rmOk_L (by decide) (by decide)) dX5_fewestCells_76 rfl rfl (Nat.le_of_ble_eq_true rfl) (fun r2 M3 => ?_)
      refine r_lload (pc := 79) ok 1 dX5_fewestCells_79 rfl ?_
      refine r_land (pc := 81) ok dX5_fewestCells_81 ?_
      refine r_nml (fun w4 => ?_)
      refine r_lstore (pc := 82) ok [(7, .long w4), (3, .int vq3), (5, .long vq5), (9, .int vq9)] dX5_fewestCells_82 (by decide) rfl ?_
      refine r_iinc (pc := 84) ok 3 (vq9 + 1) [(9, .int (vq9 + 1)), (7, .long w4), (3, .int vq3), (5, .long vq5)] dX5_fewestCells_84 rfl (congrArg (fun z => vq9 + z) (by decide : Int32.ofInt 1 = (1 : Int32))) (by decide) rfl ?_
      refine r_goto (pc := 87) ok 51 dX5_fewestCells_87 (by decide) ?_
      refine r_lv [2, 3, 1, 0] [(3, .int vq3), (5, .long vq5), (7, .long w4), (9, .int (vq9 + 1))] rfl ?_
      exact hk51 w4 (vq9 + 1) M3
theorem sX5_fewestCells_L51 {g : GP} {l : Launch} {x : CT} (ok : Ok g l x RX5 cX5_fewestCells 10 (some FieldType.int) (rmL 7)) (vq3 : Int32) (vq5 : Int64)  : ∀ (n : Nat) (vq7 : Int64) (vq9 : Int32) (M : Mem), Sw g l x (FinQ g x eI) 10 0 0 51 [(3, .int vq3), (5, .long vq5), (7, .long vq7), (9, .int vq9)] [] M (fX5_fewestCells_L51 vq3 vq5 n vq7 vq9 M) := by
  intro n
  induction n with
  | zero => intros; exact r_none
  | succ n ih => intro vq7 vq9 M; exact sX5_fewestCells_B51 ok vq3 vq5  _ ih vq7 vq9 M
def fX5_fewestCells_B6 (iq0 : Nat) (vq1 : Int32) (vq2 : Int32) (vq3 : Int32) (vq4 : Int32) (k6 : Int64 → Int32 → Mem → Option (Int32 × Mem)) (vq5 : Int64) (vq7 : Int32) (M : Mem) : Option (Int32 × Mem) :=
  if 36 ≤ vq7 then
    (lt ((lshl 1 vq2) &&& vq5) fun w1 =>
    fX5_fewestCells_L51 vq3 vq5 FU w1 1 M)
  else
    (ob (fX5_felt iq0 vq1 vq7 M) fun r5 M6 =>
    if vq4 < r5 then
      (k6 vq5 (vq7 + 1) M6)
    else
      (lt (vq5 ||| (lshl 1 vq7)) fun w7 =>
      k6 w7 (vq7 + 1) M6))
def fX5_fewestCells_L6 (iq0 : Nat) (vq1 : Int32) (vq2 : Int32) (vq3 : Int32) (vq4 : Int32) : Nat → Int64 → Int32 → Mem → Option (Int32 × Mem)
  | 0, _, _, _ => none
  | n + 1, vq5, vq7, M => fX5_fewestCells_B6 iq0 vq1 vq2 vq3 vq4 (fX5_fewestCells_L6 iq0 vq1 vq2 vq3 vq4 n) vq5 vq7 M
set_option maxRecDepth 20000 in
theorem sX5_fewestCells_B6 {g : GP} {l : Launch} {x : CT} (ok : Ok g l x RX5 cX5_fewestCells 10 (some FieldType.int) (rmL 7)) (iq0 : Nat) (vq1 : Int32) (vq2 : Int32) (vq3 : Int32) (vq4 : Int32) (h0 : iq0 < 3) (k6 : Int64 → Int32 → Mem → Option (Int32 × Mem)) (hk6 : ∀ (vq5 : Int64) (vq7 : Int32) (M : Mem), Sw g l x (FinQ g x eI) 10 0 0 6 [(0, .ref (gA g 15 iq0)), (1, .int vq1), (2, .int vq2), (3, .int vq3), (4, .int vq4), (5, .long vq5), (7, .int vq7)] [] M (k6 vq5 vq7 M)) (vq5 : Int64) (vq7 : Int32) (M : Mem) : Sw g l x (FinQ g x eI) 10 0 0 6 [(0, .ref (gA g 15 iq0)), (1, .int vq1), (2, .int vq2), (3, .int vq3), (4, .int vq4), (5, .long vq5), (7, .int vq7)] [] M (fX5_fewestCells_B6 iq0 vq1 vq2 vq3 vq4 k6 vq5 vq7 M) := by
  unfold fX5_fewestCells_B6
  refine r_iload (pc := 6) ok 6 dX5_fewestCells_6 rfl ?_
  refine r_bipush (pc := 8) ok 36 dX5_fewestCells_8 (by decide) ?_
  refine r_icmp_ge (pc := 10) ok 40 dX5_fewestCells_10 (by decide) (fun _ => ?_) (fun _ => ?_)
  · refine r_lconst (pc := 40) ok 1 dX5_fewestCells_40 (by decide) ?_
    refine r_iload_n (pc := 41) ok 2 dX5_fewestCells_41 rfl ?_
    refine r_lshl (pc := 42) ok dX5_fewestCells_42 ?_
    refine r_lload (pc := 43) ok 5 dX5_fewestCells_43 rfl ?_
    refine r_land (pc := 45) ok dX5_fewestCells_45 ?_
    refine r_nml (fun w1 => ?_)
    refine r_lstore (pc := 46) ok [(7, .long w1), (0, .ref (gA g 15 iq0)), (1, .int vq1), (2, .int vq2), (3, .int vq3), (4, .int vq4), (5, .long vq5)] dX5_fewestCells_46 (by decide) rfl ?_
    refine r_iconst (pc := 48) ok 1 dX5_fewestCells_48 (by decide) ?_
    refine r_istore (pc := 49) ok [(9, .int 1), (7, .long w1), (0, .ref (gA g 15 iq0)), (1, .int vq1), (2, .int vq2), (3, .int vq3), (4, .int vq4), (5, .long vq5)] dX5_fewestCells_49 (by decide) rfl ?_
    refine r_lv [5, 7, 1, 0] [(3, .int vq3), (5, .long vq5), (7, .long w1), (9, .int 1)] rfl ?_
    exact sX5_fewestCells_L51 ok vq3 vq5 FU w1 1 M
  · refine r_aload_n (pc := 13) ok 0 dX5_fewestCells_13 rfl ?_
    refine r_iload_n (pc := 14) ok 1 dX5_fewestCells_14 rfl ?_
    refine r_iload (pc := 15) ok 6 dX5_fewestCells_15 rfl ?_
    refine r_callV0 (pc := 17) ok [.int vq1, .int vq7] [] 6 (fun rZ MZ hZ => con_X5_felt g l iq0 vq1 vq7 h0 _ rZ MZ hZ) cv_X5_115 (ok_15 h0) (rmOk_L (by decide) (by decide)) dX5_fewestCells_17 rfl rfl (Nat.le_of_ble_eq_true rfl) (fun r5 M6 => ?_)
    refine r_iload (pc := 20) ok 4 dX5_fewestCells_20 rfl ?_
    refine r_icmp_gt (pc := 22) ok 34 dX5_fewestCells_22 (by decide) (fun _ => ?_) (fun _ => ?_)
    · refine r_iinc (pc := 34) ok 6 (vq7 + 1) [(7, .int (vq7 + 1)), (0, .ref (gA g 15 iq0)), (1, .int vq1), (2, .int vq2), (3, .int vq3), (4, .int vq4), (5, .long vq5)] dX5_fewestCells_34 rfl (congrArg (fun z => vq7 + z) (by decide : Int32.ofInt 1 = (1 : Int32))) (by decide) rfl ?_
      refine r_goto (pc := 37) ok 6 dX5_fewestCells_37 (by decide) ?_
      refine r_lv [1, 2, 3, 4, 5, 6, 0] [(0, .ref (gA g 15 iq0)), (1, .int vq1), (2, .int vq2), (3, .int vq3), (4, .int vq4), (5, .long vq5), (7, .int (vq7 + 1))] rfl ?_
      exact hk6 vq5 (vq7 + 1) M6
    · refine r_lload (pc := 25) ok 5 dX5_fewestCells_25 rfl ?_
      refine r_lconst (pc := 27) ok 1 dX5_fewestCells_27 (by decide) ?_
      refine r_iload (pc := 28) ok 6 dX5_fewestCells_28 rfl ?_
      refine r_lshl (pc := 30) ok dX5_fewestCells_30 ?_
      refine r_lor (pc := 31) ok dX5_fewestCells_31 ?_
      refine r_nml (fun w7 => ?_)
      refine r_lstore (pc := 32) ok [(5, .long w7), (0, .ref (gA g 15 iq0)), (1, .int vq1), (2, .int vq2), (3, .int vq3), (4, .int vq4), (7, .int vq7)] dX5_fewestCells_32 (by decide) rfl ?_
      refine r_iinc (pc := 34) ok 6 (vq7 + 1) [(7, .int (vq7 + 1)), (5, .long w7), (0, .ref (gA g 15 iq0)), (1, .int vq1), (2, .int vq2), (3, .int vq3), (4, .int vq4)] dX5_fewestCells_34 rfl (congrArg (fun z => vq7 + z) (by decide : Int32.ofInt 1 = (1 : Int32))) (by decide) rfl ?_
      refine r_goto (pc := 37) ok 6 dX5_fewestCells_37 (by decide) ?_
      refine r_lv [2, 3, 4, 5, 6, 1, 0] [(0, .ref (gA g 15 iq0)), (1, .int vq1), (2, .int vq2), (3, .int vq3), (4, .int vq4), (5, .long w7), (7, .int (vq7 + 1))] rfl ?_
      exact hk6 w7 (vq7 + 1) M6
theorem sX5_fewestCells_L6 {g : GP} {l : Launch} {x : CT} (ok : Ok g l x RX5 cX5_fewestCells 10 (some FieldType.int) (rmL 7)) (iq0 : Nat) (vq1 : Int32) (vq2 : Int32) (vq3 : Int32) (vq4 : Int32) (h0 : iq0 < 3) : ∀ (n : Nat) (vq5 : Int64) (vq7 : Int32) (M : Mem), Sw g l x (FinQ g x eI) 10 0 0 6 [(0, .ref (gA g 15 iq0)), (1, .int vq1), (2, .int vq2), (3, .int vq3), (4, .int vq4), (5, .long vq5), (7, .int vq7)] [] M (fX5_fewestCells_L6 iq0 vq1 vq2 vq3 vq4 n vq5 vq7 M) := by
  intro n
  induction n with
  | zero => intros; exact r_none
  | succ n ih => intro vq5 vq7 M; exact sX5_fewestCells_B6 ok iq0 vq1 vq2 vq3 vq4 h0 _ ih vq5 vq7 M
def fX5_fewestCells (iq0 : Nat) (vq1 : Int32) (vq2 : Int32) (vq3 : Int32) (vq4 : Int32) (M : Mem) : Option (Int32 × Mem) :=
  fX5_fewestCells_L6 iq0 vq1 vq2 vq3 vq4 FU 0 0 M
set_option maxRecDepth 20000 in
theorem wX5_fewestCells {g : GP} {l : Launch} {x : CT} (ok : Ok g l x RX5 cX5_fewestCells 10 (some FieldType.int) (rmL 7)) (iq0 : Nat) (vq1 : Int32) (vq2 : Int32) (vq3 : Int32) (vq4 : Int32) (hq0 : iq0 < 3) (M : Mem) : Sw g l x (FinQ g x eI) 10 0 0 0 [(0, .ref (gA g 15 iq0)), (1, .int vq1), (2, .int vq2), (3, .int vq3), (4, .int vq4)] [] M (fX5_fewestCells iq0 vq1 vq2 vq3 vq4 M) := by
  unfold fX5_fewestCells
  refine r_lconst (pc := 0) ok 0 dX5_fewestCells_0 (by decide) ?_
  refine r_lstore (pc := 1) ok [(5, .long 0), (0, .ref (gA g 15 iq0)), (1, .int vq1), (2, .int vq2), (3, .int vq3), (4, .int vq4)] dX5_fewestCells_1 (by decide) rfl ?_
  refine r_iconst (pc := 3) ok 0 dX5_fewestCells_3 (by decide) ?_
  refine r_istore (pc := 4) ok [(7, .int 0), (5, .long 0), (0, .ref (gA g 15 iq0)), (1, .int vq1), (2, .int vq2), (3, .int vq3), (4, .int vq4)] dX5_fewestCells_4 (by decide) rfl ?_
  refine r_lv [2, 3, 4, 5, 6, 1, 0] [(0, .ref (gA g 15 iq0)), (1, .int vq1), (2, .int vq2), (3, .int vq3), (4, .int vq4), (5, .long 0), (7, .int 0)] rfl ?_
  exact sX5_fewestCells_L6 ok iq0 vq1 vq2 vq3 vq4 hq0 FU 0 0 M
theorem con_X5_fewestCells (g : GP) (l : Launch) (iq0 : Nat) (vq1 : Int32) (vq2 : Int32) (vq3 : Int32) (vq4 : Int32) (hq0 : iq0 < 3) (M : Mem) (r : Int32) (M2 : Mem) (h : fX5_fewestCells iq0 vq1 vq2 vq3 vq4 M = some (r, M2)) : Con g l yX5_fewestCells cX5_fewestCells 10 (some FieldType.int) (rmL 7) [.ref (gA g 15 iq0), .int vq1, .int vq2, .int vq3, .int vq4] M (eI r) M2 :=
  Con.of (own := RX5) (f := fX5_fewestCells iq0 vq1 vq2 vq3 vq4 M) (by decide) (Nat.le_of_ble_eq_true rfl) rfl (fun x ok => wX5_fewestCells ok iq0 vq1 vq2 vq3 vq4 hq0 M) r M2 h
def fX5_wander_B17 (iq0 : Nat) (vq2 : Int32) (vq4 : Int32) (k17 : Int64 → Int32 → Int32 → Mem → Option (Int32 × Mem)) (vq5 : Int64) (vq7 : Int32) (vq8 : Int32) (M : Mem) : Option (Int32 × Mem) :=
  if vq4 ≤ vq8 then
    (some (vq7, M))
  else
    (ob (fX5_felt iq0 vq2 (M 15 iq0 10) M) fun r3 M4 =>
    lt (vq7 + r3) fun w5 =>
    ob (fX5_wear iq0 vq2 (M4 15 iq0 10) M4) fun r6 M7 =>
    lt (lrem (vq5 * 48271) 2147483647) fun w8 =>
    ob (fX10_neighbour (M7 15 iq0 10) ((lrem w8 4).toInt32) M7) fun r9 M10 =>
    if r9 = (-1) then
      (lt (mst M10 15 iq0 10 (M10 15 iq0 10)) fun M12 =>
      k17 w8 w5 (vq8 + 1) M12)
    else
      (lt (mst M10 15 iq0 10 r9) fun M11 =>
      k17 w8 w5 (vq8 + 1) M11))
def fX5_wander_L17 (iq0 : Nat) (vq2 : Int32) (vq4 : Int32) : Nat → Int64 → Int32 → Int32 → Mem → Option (Int32 × Mem)
  | 0, _, _, _, _ => none
  | n + 1, vq5, vq7, vq8, M => fX5_wander_B17 iq0 vq2 vq4 (fX5_wander_L17 iq0 vq2 vq4 n) vq5 vq7 vq8 M
set_option maxRecDepth 20000 in
theorem sX5_wander_B17 {g : GP} {l : Launch} {x : CT} (ok : Ok g l x RX5 cX5_wander 10 (some FieldType.int) (rmL 7)) (iq0 : Nat) (vq2 : Int32) (vq4 : Int32) (h0 : iq0 < 3) (k17 : Int64 → Int32 → Int32 → Mem → Option (Int32 × Mem)) (hk17 : ∀ (vq5 : Int64) (vq7 : Int32) (vq8 : Int32) (M : Mem), Sw g l x (FinQ g x eI) 10 0 0 17 [(0, .ref (gA g 15 iq0)), (2, .int vq2), (4, .int vq4), (5, .long vq5), (7, .int vq7), (8, .int vq8)] [] M (k17 vq5 vq7 vq8 M)) (vq5 : Int64) (vq7 : Int32) (vq8 : Int32) (M : Mem) : Sw g l x (FinQ g x eI) 10 0 0 17 [(0, .ref (gA g 15 iq0)), (2, .int vq2), (4, .int vq4), (5, .long vq5), (7, .int vq7), (8, .int vq8)] [] M (fX5_wander_B17 iq0 vq2 vq4 k17 vq5 vq7 vq8 M) := by
  unfold fX5_wander_B17
  refine r_iload (pc := 17) ok 5 dX5_wander_17 rfl ?_
  refine r_iload (pc := 19) ok 2 dX5_wander_19 rfl ?_
  refine r_icmp_ge (pc := 21) ok 101 dX5_wander_21 (by decide) (fun _ => ?_) (fun _ => ?_)
  · refine r_iload (pc := 101) ok 4 dX5_wander_101 rfl ?_
    exact r_iret (pc := 103) ok (Nat.zero_le _) (Nat.zero_le _) rfl dX5_wander_103
  · refine r_iload (pc := 24) ok 4 dX5_wander_24 rfl ?_
    refine r_aload_n (pc := 26) ok 0 dX5_wander_26 rfl ?_
    refine r_iload_n (pc := 27) ok 1 dX5_wander_27 rfl ?_
    refine r_aload_n (pc := 28) ok 0 dX5_wander_28 rfl ?_
    refine r_getI (pc := 29) ok fi_15_10 h0 fl_X5_143 dX5_wander_29 ?_
    refine r_callV0 (pc := 32) ok [.int vq2, .int (M 15 iq0 10)] [.int vq7] 6 (fun rZ MZ hZ => con_X5_felt g l iq0 vq2 (M 15 iq0 10) h0 _ rZ MZ hZ) cv_X5_115 (ok_15 h0) (rmOk_L (by decide) (by decide)) dX5_wander_32 rfl rfl (Nat.le_of_ble_eq_true rfl) (fun r3 M4 => ?_)
    refine r_iadd (pc := 35) ok dX5_wander_35 ?_
    refine r_nmi (fun w5 => ?_)
    refine r_istore (pc := 36) ok [(7, .int w5), (0, .ref (gA g 15 iq0)), (2, .int vq2), (4, .int vq4), (5, .long vq5), (8, .int vq8)] dX5_wander_36 (by decide) rfl ?_
    refine r_aload_n (pc := 38) ok 1 dX5_wander_38 rfl ?_
    refine r_iload_n (pc := 39) ok 2 dX5_wander_39 rfl ?_
    refine r_aload_n (pc := 40) ok 1 dX5_wander_40 rfl ?_
    refine r_getI (pc := 41) ok fi_15_10 h0 fl_X5_143 dX5_wander_41 ?_
    refine r_callV0 (pc := 44) ok [.int vq2, .int (M4 15 iq0 10)] [] 6 (fun rZ MZ hZ => con_X5_wear g l iq0 vq2 (M4 15 iq0 10) h0 _ rZ MZ hZ) cv_X5_146 (ok_15 h0) (rmOk_L (by decide) (by decide)) dX5_wander_44 rfl rfl (Nat.le_of_ble_eq_true rfl) (fun r6 M7 => ?_)
    refine r_pop (pc := 47) ok dX5_wander_47 rfl ?_
    refine r_lload (pc := 48) ok 4 dX5_wander_48 rfl ?_
    refine r_ldc2 (pc := 50) ok wcl_X5_149 dX5_wander_50 ?_
    refine r_lmul (pc := 53) ok dX5_wander_53 ?_
    refine r_ldc2 (pc := 54) ok wcl_X5_151 dX5_wander_54 ?_
    refine r_lremc (pc := 57) ok (by decide) dX5_wander_57 ?_
    refine r_nml (fun w8 => ?_)
    refine r_lstore (pc := 58) ok [(5, .long w8), (7, .int w5), (0, .ref (gA g 15 iq0)), (2, .int vq2), (4, .int vq4), (8, .int vq8)] dX5_wander_58 (by decide) rfl ?_
    refine r_aload_n (pc := 60) ok 2 dX5_wander_60 rfl ?_
    refine r_getI (pc := 61) ok fi_15_10 h0 fl_X5_143 dX5_wander_61 ?_
    refine r_lload (pc := 64) ok 0 dX5_wander_64 rfl ?_
    refine r_ldc2 (pc := 66) ok wcl_X5_153 dX5_wander_66 ?_
    refine r_lremc (pc := 69) ok (by decide) dX5_wander_69 ?_
    refine r_l2i (pc := 70) ok dX5_wander_70 ?_
    refine r_callSN0 (pc := 71) ok [.int (M7 15 iq0 10), .int ((lrem w8 4).toInt32)] [] 2 (fun rZ MZ hZ => con_X10_neighbour g l (M7 15 iq0 10) ((lrem w8 4).toInt32) _ rZ MZ hZ) csN_X5_109 (rmOk_L (by decide) (by decide)) dX5_wander_71 rfl rfl (Nat.le_of_ble_eq_true rfl) (fun r9 M10 => ?_)
    refine r_istore (pc := 74) ok [(9, .int r9), (5, .long w8), (7, .int w5), (0, .ref (gA g 15 iq0)), (2, .int vq2), (4, .int vq4), (8, .int vq8)] dX5_wander_74 (by decide) rfl ?_
    refine r_aload_n (pc := 76) ok 3 dX5_wander_76 rfl ?_
    refine r_iload (pc := 77) ok 0 dX5_wander_77 rfl ?_
    refine r_iconst (pc := 79) ok (-1) dX5_wander_79 (by decide) ?_
    refine r_icmp_ne (pc := 80) ok 90 dX5_wander_80 (by decide) (fun _ => ?_) (fun _ => ?_)
    · refine r_aload_n (pc := 83) ok 3 dX5_wander_83 rfl ?_
      refine r_getI (pc := 84) ok fi_15_10 h0 fl_X5_143 dX5_wander_84 ?_
      refine r_goto (pc := 87) ok 92 dX5_wander_87 (by decide) ?_
      refine r_putI (pc := 92) ok fi_15_10 h0 fl_X5_143 fp_15_10 ⟨rfl, rfl⟩ dX5_wander_92 ?_
      refine r_nmM (fun M12 => ?_)
      refine r_iinc (pc := 95) ok 6 (vq8 + 1) [(8, .int (vq8 + 1)), (9, .int r9), (5, .long w8), (7, .int w5), (0, .ref (gA g 15 iq0)), (2, .int vq2), (4, .int vq4)] dX5_wander_95 rfl (congrArg (fun z => vq8 + z) (by decide : Int32.ofInt 1 = (1 : Int32))) (by decide) rfl ?_
      refine r_goto (pc := 98) ok 17 dX5_wander_98 (by decide) ?_
      refine r_lv [4, 5, 6, 2, 3, 0] [(0, .ref (gA g 15 iq0)), (2, .int vq2), (4, .int vq4), (5, .long w8), (7, .int w5), (8, .int (vq8 + 1))] rfl ?_
      exact hk17 w8 w5 (vq8 + 1) M12
    · refine r_iload (pc := 90) ok 0 dX5_wander_90 rfl ?_
      refine r_putI (pc := 92) ok fi_15_10 h0 fl_X5_143 fp_15_10 ⟨rfl, rfl⟩ dX5_wander_92 ?_
      refine r_nmM (fun M11 => ?_)
      refine r_iinc (pc := 95) ok 6 (vq8 + 1) [(8, .int (vq8 + 1)), (9, .int r9), (5, .long w8), (7, .int w5), (0, .ref (gA g 15 iq0)), (2, .int vq2), (4, .int vq4)] dX5_wander_95 rfl (congrArg (fun z => vq8 + z) (by decide : Int32.ofInt 1 = (1 : Int32))) (by decide) rfl ?_
      refine r_goto (pc := 98) ok 17 dX5_wander_98 (by decide) ?_
      refine r_lv [4, 5, 6, 2, 3, 0] [(0, .ref (gA g 15 iq0)), (2, .int vq2), (4, .int vq4), (5, .long w8), (7, .int w5), (8, .int (vq8 + 1))] rfl ?_
      exact hk17 w8 w5 (vq8 + 1) M11
theorem sX5_wander_L17 {g : GP} {l : Launch} {x : CT} (ok : Ok g l x RX5 cX5_wander 10 (some FieldType.int) (rmL 7)) (iq0 : Nat) (vq2 : Int32) (vq4 : Int32) (h0 : iq0 < 3) : ∀ (n : Nat) (vq5 : Int64) (vq7 : Int32) (vq8 : Int32) (M : Mem), Sw g l x (FinQ g x eI) 10 0 0 17 [(0, .ref (gA g 15 iq0)), (2, .int vq2), (4, .int vq4), (5, .long vq5), (7, .int vq7), (8, .int vq8)] [] M (fX5_wander_L17 iq0 vq2 vq4 n vq5 vq7 vq8 M) := by
  intro n
  induction n with
  | zero => intros; exact r_none
  | succ n ih => intro vq5 vq7 vq8 M; exact sX5_wander_B17 ok iq0 vq2 vq4 h0 _ ih vq5 vq7 vq8 M
def fX5_wander (iq0 : Nat) (vq1 : Int32) (vq2 : Int32) (vq3 : Int32) (vq4 : Int32) (M : Mem) : Option (Int32 × Mem) :=
  lt ((vq1 + 1).toInt64) fun w1 =>
  lt (mst M 15 iq0 10 vq3) fun M2 =>
  fX5_wander_L17 iq0 vq2 vq4 FU w1 0 0 M2
set_option maxRecDepth 20000 in
theorem wX5_wander {g : GP} {l : Launch} {x : CT} (ok : Ok g l x RX5 cX5_wander 10 (some FieldType.int) (rmL 7)) (iq0 : Nat) (vq1 : Int32) (vq2 : Int32) (vq3 : Int32) (vq4 : Int32) (hq0 : iq0 < 3) (M : Mem) : Sw g l x (FinQ g x eI) 10 0 0 0 [(0, .ref (gA g 15 iq0)), (1, .int vq1), (2, .int vq2), (3, .int vq3), (4, .int vq4)] [] M (fX5_wander iq0 vq1 vq2 vq3 vq4 M) := by
  unfold fX5_wander
  refine r_iload_n (pc := 0) ok 1 dX5_wander_0 rfl ?_
  refine r_iconst (pc := 1) ok 1 dX5_wander_1 (by decide) ?_
  refine r_iadd (pc := 2) ok dX5_wander_2 ?_
  refine r_i2l (pc := 3) ok dX5_wander_3 ?_
  refine r_nml (fun w1 => ?_)
  refine r_lstore (pc := 4) ok [(5, .long w1), (0, .ref (gA g 15 iq0)), (1, .int vq1), (2, .int vq2), (3, .int vq3), (4, .int vq4)] dX5_wander_4 (by decide) rfl ?_
  refine r_iconst (pc := 6) ok 0 dX5_wander_6 (by decide) ?_
  refine r_istore (pc := 7) ok [(7, .int 0), (5, .long w1), (0, .ref (gA g 15 iq0)), (1, .int vq1), (2, .int vq2), (3, .int vq3), (4, .int vq4)] dX5_wander_7 (by decide) rfl ?_
  refine r_aload_n (pc := 9) ok 2 dX5_wander_9 rfl ?_
  refine r_iload_n (pc := 10) ok 5 dX5_wander_10 rfl ?_
  refine r_putI (pc := 11) ok fi_15_10 hq0 fl_X5_143 fp_15_10 ⟨rfl, rfl⟩ dX5_wander_11 ?_
  refine r_nmM (fun M2 => ?_)
  refine r_iconst (pc := 14) ok 0 dX5_wander_14 (by decide) ?_
  refine r_istore (pc := 15) ok [(8, .int 0), (7, .int 0), (5, .long w1), (0, .ref (gA g 15 iq0)), (1, .int vq1), (2, .int vq2), (3, .int vq3), (4, .int vq4)] dX5_wander_15 (by decide) rfl ?_
  refine r_lv [3, 5, 7, 2, 1, 0] [(0, .ref (gA g 15 iq0)), (2, .int vq2), (4, .int vq4), (5, .long w1), (7, .int 0), (8, .int 0)] rfl ?_
  exact sX5_wander_L17 ok iq0 vq2 vq4 hq0 FU w1 0 0 M2
theorem con_X5_wander (g : GP) (l : Launch) (iq0 : Nat) (vq1 : Int32) (vq2 : Int32) (vq3 : Int32) (vq4 : Int32) (hq0 : iq0 < 3) (M : Mem) (r : Int32) (M2 : Mem) (h : fX5_wander iq0 vq1 vq2 vq3 vq4 M = some (r, M2)) : Con g l yX5_wander cX5_wander 10 (some FieldType.int) (rmL 7) [.ref (gA g 15 iq0), .int vq1, .int vq2, .int vq3, .int vq4] M (eI r) M2 :=
  Con.of (own := RX5) (f := fX5_wander iq0 vq1 vq2 vq3 vq4 M) (by decide) (Nat.le_of_ble_eq_true rfl) rfl (fun x ok => wX5_wander ok iq0 vq1 vq2 vq3 vq4 hq0 M) r M2 h
def fX10_day  (M : Mem) : Option (Int32 × Mem) :=
  if (M 15 0 8) < 999 then
    (ob (fX5_passDay 0 M) fun r1 M2 =>
    ob (fX5_total 0 0 36 M2) fun r3 M4 =>
    some (r3, M4))
  else
    (some (-3, M))
set_option maxRecDepth 20000 in
theorem wX10_day {g : GP} {l : Launch} {x : CT} (ok : Ok g l x RX10 cX10_day 1 (some FieldType.int) (rmL 8))   (M : Mem) : Sw g l x (FinQ g x eI) 1 0 0 0 [(0, .ref (gA g 0 0))] [] M (fX10_day  M) := by
  unfold fX10_day
  refine r_aload_n (pc := 0) ok 0 dX10_day_0 rfl ?_
  refine r_getR (pc := 1) ok fr_0_4 (by decide) fl_X10_61 dX10_day_1 ?_
  refine r_getIN (pc := 4) ok fi_15_8 (by decide) flN_X10_74 dX10_day_4 ?_
  refine r_sipush (pc := 7) ok 999 dX10_day_7 (by decide) ?_
  refine r_icmp_lt (pc := 10) ok 16 dX10_day_10 (by decide) (fun _ => ?_) (fun _ => ?_)
  · refine r_aload_n (pc := 16) ok 0 dX10_day_16 rfl ?_
    refine r_getR (pc := 17) ok fr_0_4 (by decide) fl_X10_61 dX10_day_17 ?_
    refine r_callVN0 (pc := 20) ok [] [] 7 (fun rZ MZ hZ => con_X5_passDay g l 0 (by decide) _ rZ MZ hZ) cvN_X10_131 (ok_15 (by decide)) (rmOk_L (by decide) (by decide)) dX10_day_20 rfl rfl (Nat.le_of_ble_eq_true rfl) (fun r1 M2 => ?_)
    refine r_aload_n (pc := 23) ok 0 dX10_day_23 rfl ?_
    refine r_getR (pc := 24) ok fr_0_4 (by decide) fl_X10_61 dX10_day_24 ?_
    refine r_iconst (pc := 27) ok 0 dX10_day_27 (by decide) ?_
    refine r_bipush (pc := 28) ok 36 dX10_day_28 (by decide) ?_
    refine r_callVN0 (pc := 30) ok [.int 0, .int 36] [] 2 (fun rZ MZ hZ => con_X5_total g l 0 0 36 (by decide) _ rZ MZ hZ) cvN_X10_77 (ok_15 (by decide)) (rmOk_L (by decide) (by decide)) dX10_day_30 rfl rfl (Nat.le_of_ble_eq_true rfl) (fun r3 M4 => ?_)
    exact r_iret (pc := 33) ok (Nat.zero_le _) (Nat.zero_le _) rfl dX10_day_33
  · refine r_bipush (pc := 13) ok (-3) dX10_day_13 (by decide) ?_
    exact r_iret (pc := 15) ok (Nat.zero_le _) (Nat.zero_le _) rfl dX10_day_15
theorem con_X10_day (g : GP) (l : Launch)   (M : Mem) (r : Int32) (M2 : Mem) (h : fX10_day  M = some (r, M2)) : Con g l yX10_day cX10_day 1 (some FieldType.int) (rmL 8) [.ref (gA g 0 0)] M (eI r) M2 :=
  Con.of (own := RX10) (f := fX10_day  M) (by decide) (Nat.le_of_ble_eq_true rfl) rfl (fun x ok => wX10_day ok   M) r M2 h
def fX10_leaves (vq1 : Int32) (vq2 : Int32) (vq3 : Int32) (M : Mem) : Option (Int32 × Mem) :=
  ob (fX5_has 0 vq1 M) fun r1 M2 =>
  if r1 = 0 then
    (some (-1005, M2))
  else
    (ob (fX10_isCell vq2 M2) fun r3 M4 =>
    if r3 = 0 then
      (some (-1007, M4))
    else
      (ob (fX10_within vq3 0 1 M4) fun r5 M6 =>
      if r5 = 0 then
        (some (-1007, M6))
      else
        (if vq3 = 0 then
          (ob (fX5_leftOn 0 vq1 vq2 M6) fun r9 M10 =>
          some (r9, M10))
        else
          (ob (fX5_leftInAll 0 vq1 M6) fun r7 M8 =>
          some (r7, M8)))))
set_option maxRecDepth 20000 in
theorem wX10_leaves {g : GP} {l : Launch} {x : CT} (ok : Ok g l x RX10 cX10_leaves 4 (some FieldType.int) (rmL 8)) (vq1 : Int32) (vq2 : Int32) (vq3 : Int32)  (M : Mem) : Sw g l x (FinQ g x eI) 4 0 0 0 [(0, .ref (gA g 0 0)), (1, .int vq1), (2, .int vq2), (3, .int vq3)] [] M (fX10_leaves vq1 vq2 vq3 M) := by
  unfold fX10_leaves
  refine r_aload_n (pc := 0) ok 0 dX10_leaves_0 rfl ?_
  refine r_getR (pc := 1) ok fr_0_4 (by decide) fl_X10_61 dX10_leaves_1 ?_
  refine r_iload_n (pc := 4) ok 1 dX10_leaves_4 rfl ?_
  refine r_callVN0 (pc := 5) ok [.int vq1] [] 3 (fun rZ MZ hZ => con_X5_has g l 0 vq1 (by decide) _ rZ MZ hZ) cvN_X10_117 (ok_15 (by decide)) (rmOk_L (by decide) (by decide)) dX10_leaves_5 rfl rfl (Nat.le_of_ble_eq_true rfl) (fun r1 M2 => ?_)
  refine r_if_ne (pc := 8) ok 15 dX10_leaves_8 (by decide) (fun _ => ?_) (fun _ => ?_)
  · refine r_sipush (pc := 11) ok (-1005) dX10_leaves_11 (by decide) ?_
    exact r_iret (pc := 14) ok (Nat.zero_le _) (Nat.zero_le _) rfl dX10_leaves_14
  · refine r_iload_n (pc := 15) ok 2 dX10_leaves_15 rfl ?_
    refine r_callS0 (pc := 16) ok [.int vq2] [] 3 (fun rZ MZ hZ => con_X10_isCell g l vq2 _ rZ MZ hZ) cs_X10_87 (rmOk_L (by decide) (by decide)) dX10_leaves_16 rfl rfl (Nat.le_of_ble_eq_true rfl) (fun r3 M4 => ?_)
    refine r_if_eq (pc := 19) ok 31 dX10_leaves_19 (by decide) (fun _ => ?_) (fun _ => ?_)
    · refine r_sipush (pc := 31) ok (-1007) dX10_leaves_31 (by decide) ?_
      exact r_iret (pc := 34) ok (Nat.zero_le _) (Nat.zero_le _) rfl dX10_leaves_34
    · refine r_iload_n (pc := 22) ok 3 dX10_leaves_22 rfl ?_
      refine r_iconst (pc := 23) ok 0 dX10_leaves_23 (by decide) ?_
      refine r_iconst (pc := 24) ok 1 dX10_leaves_24 (by decide) ?_
      refine r_callS0 (pc := 25) ok [.int vq3, .int 0, .int 1] [] 2 (fun rZ MZ hZ => con_X10_within g l vq3 0 1 _ rZ MZ hZ) cs_X10_91 (rmOk_L (by decide) (by decide)) dX10_leaves_25 rfl rfl (Nat.le_of_ble_eq_true rfl) (fun r5 M6 => ?_)
      refine r_if_ne (pc := 28) ok 35 dX10_leaves_28 (by decide) (fun _ => ?_) (fun _ => ?_)
      · refine r_sipush (pc := 31) ok (-1007) dX10_leaves_31 (by decide) ?_
        exact r_iret (pc := 34) ok (Nat.zero_le _) (Nat.zero_le _) rfl dX10_leaves_34
      · refine r_iload_n (pc := 35) ok 3 dX10_leaves_35 rfl ?_
        refine r_if_ne (pc := 36) ok 51 dX10_leaves_36 (by decide) (fun _ => ?_) (fun _ => ?_)
        · refine r_aload_n (pc := 39) ok 0 dX10_leaves_39 rfl ?_
          refine r_getR (pc := 40) ok fr_0_4 (by decide) fl_X10_61 dX10_leaves_40 ?_
          refine r_iload_n (pc := 43) ok 1 dX10_leaves_43 rfl ?_
          refine r_iload_n (pc := 44) ok 2 dX10_leaves_44 rfl ?_
          refine r_callVN0 (pc := 45) ok [.int vq1, .int vq2] [] 6 (fun rZ MZ hZ => con_X5_leftOn g l 0 vq1 vq2 (by decide) _ rZ MZ hZ) cvN_X10_134 (ok_15 (by decide)) (rmOk_L (by decide) (by decide)) dX10_leaves_45 rfl rfl (Nat.le_of_ble_eq_true rfl) (fun r9 M10 => ?_)
          refine r_goto (pc := 48) ok 59 dX10_leaves_48 (by decide) ?_
          exact r_iret (pc := 59) ok (Nat.zero_le _) (Nat.zero_le _) rfl dX10_leaves_59
        · refine r_aload_n (pc := 51) ok 0 dX10_leaves_51 rfl ?_
          refine r_getR (pc := 52) ok fr_0_4 (by decide) fl_X10_61 dX10_leaves_52 ?_
          refine r_iload_n (pc := 55) ok 1 dX10_leaves_55 rfl ?_
          refine r_callVN0 (pc := 56) ok [.int vq1] [] 7 (fun rZ MZ hZ => con_X5_leftInAll g l 0 vq1 (by decide) _ rZ MZ hZ) cvN_X10_137 (ok_15 (by decide)) (rmOk_L (by decide) (by decide)) dX10_leaves_56 rfl rfl (Nat.le_of_ble_eq_true rfl) (fun r7 M8 => ?_)
          exact r_iret (pc := 59) ok (Nat.zero_le _) (Nat.zero_le _) rfl dX10_leaves_59
theorem con_X10_leaves (g : GP) (l : Launch) (vq1 : Int32) (vq2 : Int32) (vq3 : Int32)  (M : Mem) (r : Int32) (M2 : Mem) (h : fX10_leaves vq1 vq2 vq3 M = some (r, M2)) : Con g l yX10_leaves cX10_leaves 4 (some FieldType.int) (rmL 8) [.ref (gA g 0 0), .int vq1, .int vq2, .int vq3] M (eI r) M2 :=
  Con.of (own := RX10) (f := fX10_leaves vq1 vq2 vq3 M) (by decide) (Nat.le_of_ble_eq_true rfl) rfl (fun x ok => wX10_leaves ok vq1 vq2 vq3  M) r M2 h
def fX10_sinks_B37 (vq1 : Int32) (vq2 : Int32) (k37 : Int32 → Mem → Option (Int32 × Mem)) (vq3 : Int32) (M : Mem) : Option (Int32 × Mem) :=
  if 40 < vq3 then
    (some (-1, M))
  else
    (gd (inb vq1 36)
    (if (M 16 1 vq1.toNatClampNeg) < vq2 then
      (ob (fX5_passDay 1 M) fun r7 M8 =>
      k37 (vq3 + 1) M8)
    else
      (some (vq3, M))))
def fX10_sinks_L37 (vq1 : Int32) (vq2 : Int32) : Nat → Int32 → Mem → Option (Int32 × Mem)
  | 0, _, _ => none
  | n + 1, vq3, M => fX10_sinks_B37 vq1 vq2 (fX10_sinks_L37 vq1 vq2 n) vq3 M
set_option maxRecDepth 20000 in
theorem sX10_sinks_B37 {g : GP} {l : Launch} {x : CT} (ok : Ok g l x RX10 cX10_sinks 4 (some FieldType.int) (rmL 8)) (vq1 : Int32) (vq2 : Int32)  (k37 : Int32 → Mem → Option (Int32 × Mem)) (hk37 : ∀ (vq3 : Int32) (M : Mem), Sw g l x (FinQ g x eI) 4 0 0 37 [(0, .ref (gA g 0 0)), (1, .int vq1), (2, .int vq2), (3, .int vq3)] [] M (k37 vq3 M)) (vq3 : Int32) (M : Mem) : Sw g l x (FinQ g x eI) 4 0 0 37 [(0, .ref (gA g 0 0)), (1, .int vq1), (2, .int vq2), (3, .int vq3)] [] M (fX10_sinks_B37 vq1 vq2 k37 vq3 M) := by
  unfold fX10_sinks_B37
  refine r_iload_n (pc := 37) ok 3 dX10_sinks_37 rfl ?_
  refine r_bipush (pc := 38) ok 40 dX10_sinks_38 (by decide) ?_
  refine r_icmp_gt (pc := 40) ok 71 dX10_sinks_40 (by decide) (fun _ => ?_) (fun _ => ?_)
  · refine r_iconst (pc := 71) ok (-1) dX10_sinks_71 (by decide) ?_
    exact r_iret (pc := 72) ok (Nat.zero_le _) (Nat.zero_le _) rfl dX10_sinks_72
  · refine r_aload_n (pc := 43) ok 0 dX10_sinks_43 rfl ?_
    refine r_getR (pc := 44) ok fr_0_5 (by decide) fl_X10_65 dX10_sinks_44 ?_
    refine r_getRN (pc := 47) ok fr_15_2 (by decide) flN_X10_95 dX10_sinks_47 ?_
    refine r_iload_n (pc := 50) ok 1 dX10_sinks_50 rfl ?_
    refine r_iald (pc := 51) ok ik_16 (by decide) dX10_sinks_51 (fun _ => ?_)
    refine r_iload_n (pc := 52) ok 2 dX10_sinks_52 rfl ?_
    refine r_icmp_lt (pc := 53) ok 58 dX10_sinks_53 (by decide) (fun _ => ?_) (fun _ => ?_)
    · refine r_aload_n (pc := 58) ok 0 dX10_sinks_58 rfl ?_
      refine r_getR (pc := 59) ok fr_0_5 (by decide) fl_X10_65 dX10_sinks_59 ?_
      refine r_callVN0 (pc := 62) ok [] [] 7 (fun rZ MZ hZ => con_X5_passDay g l 1 (by decide) _ rZ MZ hZ) cvN_X10_131 (ok_15 (by decide)) (rmOk_L (by decide) (by decide)) dX10_sinks_62 rfl rfl (Nat.le_of_ble_eq_true rfl) (fun r7 M8 => ?_)
      refine r_iinc (pc := 65) ok 3 (vq3 + 1) [(3, .int (vq3 + 1)), (0, .ref (gA g 0 0)), (1, .int vq1), (2, .int vq2)] dX10_sinks_65 rfl (congrArg (fun z => vq3 + z) (by decide : Int32.ofInt 1 = (1 : Int32))) (by decide) rfl ?_
      refine r_goto (pc := 68) ok 37 dX10_sinks_68 (by decide) ?_
      refine r_lv [1, 2, 3, 0] [(0, .ref (gA g 0 0)), (1, .int vq1), (2, .int vq2), (3, .int (vq3 + 1))] rfl ?_
      exact hk37 (vq3 + 1) M8
    · refine r_iload_n (pc := 56) ok 3 dX10_sinks_56 rfl ?_
      exact r_iret (pc := 57) ok (Nat.zero_le _) (Nat.zero_le _) rfl dX10_sinks_57
theorem sX10_sinks_L37 {g : GP} {l : Launch} {x : CT} (ok : Ok g l x RX10 cX10_sinks 4 (some FieldType.int) (rmL 8)) (vq1 : Int32) (vq2 : Int32)  : ∀ (n : Nat) (vq3 : Int32) (M : Mem), Sw g l x (FinQ g x eI) 4 0 0 37 [(0, .ref (gA g 0 0)), (1, .int vq1), (2, .int vq2), (3, .int vq3)] [] M (fX10_sinks_L37 vq1 vq2 n vq3 M) := by
  intro n
  induction n with
  | zero => intros; exact r_none
  | succ n ih => intro vq3 M; exact sX10_sinks_B37 ok vq1 vq2  _ ih vq3 M
def fX10_sinks (vq1 : Int32) (vq2 : Int32) (M : Mem) : Option (Int32 × Mem) :=
  ob (fX10_isCell vq1 M) fun r1 M2 =>
  if r1 = 0 then
    (some (-5, M2))
  else
    (ob (fX10_within vq2 0 999 M2) fun r3 M4 =>
    if r3 = 0 then
      (some (-7, M4))
    else
      (ob (fX5_takeFrom 1 0 M4) fun r5 M6 =>
      fX10_sinks_L37 vq1 vq2 FU 0 M6))
set_option maxRecDepth 20000 in
theorem wX10_sinks {g : GP} {l : Launch} {x : CT} (ok : Ok g l x RX10 cX10_sinks 4 (some FieldType.int) (rmL 8)) (vq1 : Int32) (vq2 : Int32)  (M : Mem) : Sw g l x (FinQ g x eI) 4 0 0 0 [(0, .ref (gA g 0 0)), (1, .int vq1), (2, .int vq2)] [] M (fX10_sinks vq1 vq2 M) := by
  unfold fX10_sinks
  refine r_iload_n (pc := 0) ok 1 dX10_sinks_0 rfl ?_
  refine r_callS0 (pc := 1) ok [.int vq1] [] 3 (fun rZ MZ hZ => con_X10_isCell g l vq1 _ rZ MZ hZ) cs_X10_87 (rmOk_L (by decide) (by decide)) dX10_sinks_1 rfl rfl (Nat.le_of_ble_eq_true rfl) (fun r1 M2 => ?_)
  refine r_if_ne (pc := 4) ok 10 dX10_sinks_4 (by decide) (fun _ => ?_) (fun _ => ?_)
  · refine r_bipush (pc := 7) ok (-5) dX10_sinks_7 (by decide) ?_
    exact r_iret (pc := 9) ok (Nat.zero_le _) (Nat.zero_le _) rfl dX10_sinks_9
  · refine r_iload_n (pc := 10) ok 2 dX10_sinks_10 rfl ?_
    refine r_iconst (pc := 11) ok 0 dX10_sinks_11 (by decide) ?_
    refine r_sipush (pc := 12) ok 999 dX10_sinks_12 (by decide) ?_
    refine r_callS0 (pc := 15) ok [.int vq2, .int 0, .int 999] [] 2 (fun rZ MZ hZ => con_X10_within g l vq2 0 999 _ rZ MZ hZ) cs_X10_91 (rmOk_L (by decide) (by decide)) dX10_sinks_15 rfl rfl (Nat.le_of_ble_eq_true rfl) (fun r3 M4 => ?_)
    refine r_if_ne (pc := 18) ok 24 dX10_sinks_18 (by decide) (fun _ => ?_) (fun _ => ?_)
    · refine r_bipush (pc := 21) ok (-7) dX10_sinks_21 (by decide) ?_
      exact r_iret (pc := 23) ok (Nat.zero_le _) (Nat.zero_le _) rfl dX10_sinks_23
    · refine r_aload_n (pc := 24) ok 0 dX10_sinks_24 rfl ?_
      refine r_getR (pc := 25) ok fr_0_5 (by decide) fl_X10_65 dX10_sinks_25 ?_
      refine r_aload_n (pc := 28) ok 0 dX10_sinks_28 rfl ?_
      refine r_getR (pc := 29) ok fr_0_4 (by decide) fl_X10_61 dX10_sinks_29 ?_
      refine r_callVN0 (pc := 32) ok [.ref (gA g 15 0)] [] 2 (fun rZ MZ hZ => con_X5_takeFrom g l 1 0 (by decide) (by decide) _ rZ MZ hZ) cvN_X10_141 (ok_15 (by decide)) (rmOk_L (by decide) (by decide)) dX10_sinks_32 rfl rfl (Nat.le_of_ble_eq_true rfl) (fun r5 M6 => ?_)
      refine r_iconst (pc := 35) ok 0 dX10_sinks_35 (by decide) ?_
      refine r_istore_n (pc := 36) ok [(3, .int 0), (0, .ref (gA g 0 0)), (1, .int vq1), (2, .int vq2)] dX10_sinks_36 rfl (by decide) rfl ?_
      refine r_lv [1, 2, 3, 0] [(0, .ref (gA g 0 0)), (1, .int vq1), (2, .int vq2), (3, .int 0)] rfl ?_
      exact sX10_sinks_L37 ok vq1 vq2 FU 0 M6
theorem con_X10_sinks (g : GP) (l : Launch) (vq1 : Int32) (vq2 : Int32)  (M : Mem) (r : Int32) (M2 : Mem) (h : fX10_sinks vq1 vq2 M = some (r, M2)) : Con g l yX10_sinks cX10_sinks 4 (some FieldType.int) (rmL 8) [.ref (gA g 0 0), .int vq1, .int vq2] M (eI r) M2 :=
  Con.of (own := RX10) (f := fX10_sinks vq1 vq2 M) (by decide) (Nat.le_of_ble_eq_true rfl) rfl (fun x ok => wX10_sinks ok vq1 vq2  M) r M2 h
def fX10_walk (vq1 : Int32) (vq2 : Int32) (vq3 : Int32) (M : Mem) : Option (Int32 × Mem) :=
  ob (fX10_refuseWalk vq1 vq2 M) fun r1 M2 =>
  if r1 = 0 then
    (ob (fX10_within vq3 0 3 M2) fun r3 M4 =>
    if r3 = 0 then
      (some (-7, M4))
    else
      (gd (inb vq1 4)
      (ob (fX10_feltOnWalk vq1.toNatClampNeg vq2 vq3 M4) fun r6 M7 =>
      some (r6, M7))))
  else
    (some (r1, M2))
set_option maxRecDepth 20000 in
theorem wX10_walk {g : GP} {l : Launch} {x : CT} (ok : Ok g l x RX10 cX10_walk 5 (some FieldType.int) (rmL 8)) (vq1 : Int32) (vq2 : Int32) (vq3 : Int32)  (M : Mem) : Sw g l x (FinQ g x eI) 5 0 0 0 [(0, .ref (gA g 0 0)), (1, .int vq1), (2, .int vq2), (3, .int vq3)] [] M (fX10_walk vq1 vq2 vq3 M) := by
  unfold fX10_walk
  refine r_aload_n (pc := 0) ok 0 dX10_walk_0 rfl ?_
  refine r_iload_n (pc := 1) ok 1 dX10_walk_1 rfl ?_
  refine r_iload_n (pc := 2) ok 2 dX10_walk_2 rfl ?_
  refine r_callV0 (pc := 3) ok [.int vq1, .int vq2] [] 5 (fun rZ MZ hZ => con_X10_refuseWalk g l vq1 vq2 _ rZ MZ hZ) cv_X10_148 ok_0 (rmOk_L (by decide) (by decide)) dX10_walk_3 rfl rfl (Nat.le_of_ble_eq_true rfl) (fun r1 M2 => ?_)
  refine r_istore (pc := 6) ok [(4, .int r1), (0, .ref (gA g 0 0)), (1, .int vq1), (2, .int vq2), (3, .int vq3)] dX10_walk_6 (by decide) rfl ?_
  refine r_iload (pc := 8) ok 0 dX10_walk_8 rfl ?_
  refine r_if_eq (pc := 10) ok 16 dX10_walk_10 (by decide) (fun _ => ?_) (fun _ => ?_)
  · refine r_iload_n (pc := 16) ok 4 dX10_walk_16 rfl ?_
    refine r_iconst (pc := 17) ok 0 dX10_walk_17 (by decide) ?_
    refine r_iconst (pc := 18) ok 3 dX10_walk_18 (by decide) ?_
    refine r_callS0 (pc := 19) ok [.int vq3, .int 0, .int 3] [] 2 (fun rZ MZ hZ => con_X10_within g l vq3 0 3 _ rZ MZ hZ) cs_X10_91 (rmOk_L (by decide) (by decide)) dX10_walk_19 rfl rfl (Nat.le_of_ble_eq_true rfl) (fun r3 M4 => ?_)
    refine r_if_ne (pc := 22) ok 28 dX10_walk_22 (by decide) (fun _ => ?_) (fun _ => ?_)
    · refine r_bipush (pc := 25) ok (-7) dX10_walk_25 (by decide) ?_
      exact r_iret (pc := 27) ok (Nat.zero_le _) (Nat.zero_le _) rfl dX10_walk_27
    · refine r_aload_n (pc := 28) ok 1 dX10_walk_28 rfl ?_
      refine r_aload_n (pc := 29) ok 1 dX10_walk_29 rfl ?_
      refine r_getR (pc := 30) ok fr_0_3 (by decide) fl_X10_51 dX10_walk_30 ?_
      refine r_iload_n (pc := 33) ok 2 dX10_walk_33 rfl ?_
      refine r_aald (pc := 34) ok rk_7 (by decide) rfl rfl dX10_walk_34 (fun hb5 => ?_)
      refine r_iload_n (pc := 35) ok 3 dX10_walk_35 rfl ?_
      refine r_iload_n (pc := 36) ok 4 dX10_walk_36 rfl ?_
      refine r_callV0 (pc := 37) ok [.ref (gA g 13 vq1.toNatClampNeg), .int vq2, .int vq3] [] 7 (fun rZ MZ hZ => con_X10_feltOnWalk g l vq1.toNatClampNeg vq2 vq3 hb5 _ rZ MZ hZ) cv_X10_151 ok_0 (rmOk_L (by decide) (by decide)) dX10_walk_37 rfl rfl (Nat.le_of_ble_eq_true rfl) (fun r6 M7 => ?_)
      exact r_iret (pc := 40) ok (Nat.zero_le _) (Nat.zero_le _) rfl dX10_walk_40
  · refine r_iload (pc := 13) ok 0 dX10_walk_13 rfl ?_
    exact r_iret (pc := 15) ok (Nat.zero_le _) (Nat.zero_le _) rfl dX10_walk_15
theorem con_X10_walk (g : GP) (l : Launch) (vq1 : Int32) (vq2 : Int32) (vq3 : Int32)  (M : Mem) (r : Int32) (M2 : Mem) (h : fX10_walk vq1 vq2 vq3 M = some (r, M2)) : Con g l yX10_walk cX10_walk 5 (some FieldType.int) (rmL 8) [.ref (gA g 0 0), .int vq1, .int vq2, .int vq3] M (eI r) M2 :=
  Con.of (own := RX10) (f := fX10_walk vq1 vq2 vq3 M) (by decide) (Nat.le_of_ble_eq_true rfl) rfl (fun x ok => wX10_walk ok vq1 vq2 vq3  M) r M2 h
def fX10_way (vq1 : Int32) (vq2 : Int32) (vq3 : Int32) (vq4 : Int32) (M : Mem) : Option (Int32 × Mem) :=
  ob (fX5_has 0 vq1 M) fun r1 M2 =>
  if r1 = 0 then
    (some (-5, M2))
  else
    (ob (fX10_within vq2 0 3599 M2) fun r3 M4 =>
    if r3 = 0 then
      (some (-7, M4))
    else
      (ob (fX10_isCell (irem vq2 100) M4) fun r5 M6 =>
      if r5 = 0 then
        (some (-7, M6))
      else
        (ob (fX10_within vq3 0 999 M6) fun r7 M8 =>
        if r7 = 0 then
          (some (-7, M8))
        else
          (ob (fX10_within vq4 0 1 M8) fun r9 M10 =>
          if r9 = 0 then
            (some (-7, M10))
          else
            (lt (vq2 / 100) fun w11 =>
            lt (irem vq2 100) fun w12 =>
            if vq4 = 0 then
              (ob (fX5_leastFelt 0 vq1 w11 w12 M10) fun r15 M16 =>
              some (r15, M16))
            else
              (ob (fX5_fewestCells 0 vq1 w11 w12 vq3 M10) fun r13 M14 =>
              some (r13, M14)))))))
set_option maxRecDepth 20000 in
theorem wX10_way {g : GP} {l : Launch} {x : CT} (ok : Ok g l x RX10 cX10_way 7 (some FieldType.int) (rmL 8)) (vq1 : Int32) (vq2 : Int32) (vq3 : Int32) (vq4 : Int32)  (M : Mem) : Sw g l x (FinQ g x eI) 7 0 0 0 [(0, .ref (gA g 0 0)), (1, .int vq1), (2, .int vq2), (3, .int vq3), (4, .int vq4)] [] M (fX10_way vq1 vq2 vq3 vq4 M) := by
  unfold fX10_way
  refine r_aload_n (pc := 0) ok 0 dX10_way_0 rfl ?_
  refine r_getR (pc := 1) ok fr_0_4 (by decide) fl_X10_61 dX10_way_1 ?_
  refine r_iload_n (pc := 4) ok 1 dX10_way_4 rfl ?_
  refine r_callVN0 (pc := 5) ok [.int vq1] [] 3 (fun rZ MZ hZ => con_X5_has g l 0 vq1 (by decide) _ rZ MZ hZ) cvN_X10_117 (ok_15 (by decide)) (rmOk_L (by decide) (by decide)) dX10_way_5 rfl rfl (Nat.le_of_ble_eq_true rfl) (fun r1 M2 => ?_)
  refine r_if_ne (pc := 8) ok 14 dX10_way_8 (by decide) (fun _ => ?_) (fun _ => ?_)
  · refine r_bipush (pc := 11) ok (-5) dX10_way_11 (by decide) ?_
    exact r_iret (pc := 13) ok (Nat.zero_le _) (Nat.zero_le _) rfl dX10_way_13
  · refine r_iload_n (pc := 14) ok 2 dX10_way_14 rfl ?_
    refine r_iconst (pc := 15) ok 0 dX10_way_15 (by decide) ?_
    refine r_sipush (pc := 16) ok 3599 dX10_way_16 (by decide) ?_
    refine r_callS0 (pc := 19) ok [.int vq2, .int 0, .int 3599] [] 2 (fun rZ MZ hZ => con_X10_within g l vq2 0 3599 _ rZ MZ hZ) cs_X10_91 (rmOk_L (by decide) (by decide)) dX10_way_19 rfl rfl (Nat.le_of_ble_eq_true rfl) (fun r3 M4 => ?_)
    refine r_if_eq (pc := 22) ok 56 dX10_way_22 (by decide) (fun _ => ?_) (fun _ => ?_)
    · refine r_bipush (pc := 56) ok (-7) dX10_way_56 (by decide) ?_
      exact r_iret (pc := 58) ok (Nat.zero_le _) (Nat.zero_le _) rfl dX10_way_58
    · refine r_iload_n (pc := 25) ok 2 dX10_way_25 rfl ?_
      refine r_bipush (pc := 26) ok 100 dX10_way_26 (by decide) ?_
      refine r_iremc (pc := 28) ok (by decide) dX10_way_28 ?_
      refine r_callS0 (pc := 29) ok [.int (irem vq2 100)] [] 3 (fun rZ MZ hZ => con_X10_isCell g l (irem vq2 100) _ rZ MZ hZ) cs_X10_87 (rmOk_L (by decide) (by decide)) dX10_way_29 rfl rfl (Nat.le_of_ble_eq_true rfl) (fun r5 M6 => ?_)
      refine r_if_eq (pc := 32) ok 56 dX10_way_32 (by decide) (fun _ => ?_) (fun _ => ?_)
      · refine r_bipush (pc := 56) ok (-7) dX10_way_56 (by decide) ?_
        exact r_iret (pc := 58) ok (Nat.zero_le _) (Nat.zero_le _) rfl dX10_way_58
      · refine r_iload_n (pc := 35) ok 3 dX10_way_35 rfl ?_
        refine r_iconst (pc := 36) ok 0 dX10_way_36 (by decide) ?_
        refine r_sipush (pc := 37) ok 999 dX10_way_37 (by decide) ?_
        refine r_callS0 (pc := 40) ok [.int vq3, .int 0, .int 999] [] 2 (fun rZ MZ hZ => con_X10_within g l vq3 0 999 _ rZ MZ hZ) cs_X10_91 (rmOk_L (by decide) (by decide)) dX10_way_40 rfl rfl (Nat.le_of_ble_eq_true rfl) (fun r7 M8 => ?_)
        refine r_if_eq (pc := 43) ok 56 dX10_way_43 (by decide) (fun _ => ?_) (fun _ => ?_)
        · refine r_bipush (pc := 56) ok (-7) dX10_way_56 (by decide) ?_
          exact r_iret (pc := 58) ok (Nat.zero_le _) (Nat.zero_le _) rfl dX10_way_58
        · refine r_iload (pc := 46) ok 4 dX10_way_46 rfl ?_
          refine r_iconst (pc := 48) ok 0 dX10_way_48 (by decide) ?_
          refine r_iconst (pc := 49) ok 1 dX10_way_49 (by decide) ?_
          refine r_callS0 (pc := 50) ok [.int vq4, .int 0, .int 1] [] 2 (fun rZ MZ hZ => con_X10_within g l vq4 0 1 _ rZ MZ hZ) cs_X10_91 (rmOk_L (by decide) (by decide)) dX10_way_50 rfl rfl (Nat.le_of_ble_eq_true rfl) (fun r9 M10 => ?_)
          refine r_if_ne (pc := 53) ok 59 dX10_way_53 (by decide) (fun _ => ?_) (fun _ => ?_)
          · refine r_bipush (pc := 56) ok (-7) dX10_way_56 (by decide) ?_
            exact r_iret (pc := 58) ok (Nat.zero_le _) (Nat.zero_le _) rfl dX10_way_58
          · refine r_iload_n (pc := 59) ok 2 dX10_way_59 rfl ?_
            refine r_bipush (pc := 60) ok 100 dX10_way_60 (by decide) ?_
            refine r_idivc (pc := 62) ok (by decide) dX10_way_62 ?_
            refine r_nmi (fun w11 => ?_)
            refine r_istore (pc := 63) ok [(5, .int w11), (0, .ref (gA g 0 0)), (1, .int vq1), (2, .int vq2), (3, .int vq3), (4, .int vq4)] dX10_way_63 (by decide) rfl ?_
            refine r_iload_n (pc := 65) ok 3 dX10_way_65 rfl ?_
            refine r_bipush (pc := 66) ok 100 dX10_way_66 (by decide) ?_
            refine r_iremc (pc := 68) ok (by decide) dX10_way_68 ?_
            refine r_nmi (fun w12 => ?_)
            refine r_istore (pc := 69) ok [(6, .int w12), (5, .int w11), (0, .ref (gA g 0 0)), (1, .int vq1), (2, .int vq2), (3, .int vq3), (4, .int vq4)] dX10_way_69 (by decide) rfl ?_
            refine r_iload (pc := 71) ok 6 dX10_way_71 rfl ?_
            refine r_if_ne (pc := 73) ok 91 dX10_way_73 (by decide) (fun _ => ?_) (fun _ => ?_)
            · refine r_aload_n (pc := 76) ok 2 dX10_way_76 rfl ?_
              refine r_getR (pc := 77) ok fr_0_4 (by decide) fl_X10_61 dX10_way_77 ?_
              refine r_iload_n (pc := 80) ok 3 dX10_way_80 rfl ?_
              refine r_iload (pc := 81) ok 1 dX10_way_81 rfl ?_
              refine r_iload (pc := 83) ok 0 dX10_way_83 rfl ?_
              refine r_callVN0 (pc := 85) ok [.int vq1, .int w11, .int w12] [] 7 (fun rZ MZ hZ => con_X5_leastFelt g l 0 vq1 w11 w12 (by decide) _ rZ MZ hZ) cvN_X10_162 (ok_15 (by decide)) (rmOk_L (by decide) (by decide)) dX10_way_85 rfl rfl (Nat.le_of_ble_eq_true rfl) (fun r15 M16 => ?_)
              refine r_goto (pc := 88) ok 104 dX10_way_88 (by decide) ?_
              exact r_iret (pc := 104) ok (Nat.zero_le _) (Nat.zero_le _) rfl dX10_way_104
            · refine r_aload_n (pc := 91) ok 2 dX10_way_91 rfl ?_
              refine r_getR (pc := 92) ok fr_0_4 (by decide) fl_X10_61 dX10_way_92 ?_
              refine r_iload_n (pc := 95) ok 3 dX10_way_95 rfl ?_
              refine r_iload (pc := 96) ok 1 dX10_way_96 rfl ?_
              refine r_iload (pc := 98) ok 0 dX10_way_98 rfl ?_
              refine r_iload_n (pc := 100) ok 5 dX10_way_100 rfl ?_
              refine r_callVN0 (pc := 101) ok [.int vq1, .int w11, .int w12, .int vq3] [] 7 (fun rZ MZ hZ => con_X5_fewestCells g l 0 vq1 w11 w12 vq3 (by decide) _ rZ MZ hZ) cvN_X10_165 (ok_15 (by decide)) (rmOk_L (by decide) (by decide)) dX10_way_101 rfl rfl (Nat.le_of_ble_eq_true rfl) (fun r13 M14 => ?_)
              exact r_iret (pc := 104) ok (Nat.zero_le _) (Nat.zero_le _) rfl dX10_way_104
theorem con_X10_way (g : GP) (l : Launch) (vq1 : Int32) (vq2 : Int32) (vq3 : Int32) (vq4 : Int32)  (M : Mem) (r : Int32) (M2 : Mem) (h : fX10_way vq1 vq2 vq3 vq4 M = some (r, M2)) : Con g l yX10_way cX10_way 7 (some FieldType.int) (rmL 8) [.ref (gA g 0 0), .int vq1, .int vq2, .int vq3, .int vq4] M (eI r) M2 :=
  Con.of (own := RX10) (f := fX10_way vq1 vq2 vq3 vq4 M) (by decide) (Nat.le_of_ble_eq_true rfl) rfl (fun x ok => wX10_way ok vq1 vq2 vq3 vq4  M) r M2 h
def fX10_film_B58 (vq1 : Int32) (vq2 : Int32) (vq3 : Int32) (k58 : Int32 → Mem → Option (Int32 × Mem)) (vq4 : Int32) (M : Mem) : Option (Int32 × Mem) :=
  if vq3 ≤ vq4 then
    (some (vq3, M))
  else
    (ob (fX5_passDay 1 M) fun r12 M13 =>
    gd (inb vq1 4)
    (gd (inb vq2 36)
    (ob (fX6_write vq1.toNatClampNeg vq4 (M13 16 1 vq2.toNatClampNeg) M13) fun r15 M16 =>
    k58 (vq4 + 1) M16)))
def fX10_film_L58 (vq1 : Int32) (vq2 : Int32) (vq3 : Int32) : Nat → Int32 → Mem → Option (Int32 × Mem)
  | 0, _, _ => none
  | n + 1, vq4, M => fX10_film_B58 vq1 vq2 vq3 (fX10_film_L58 vq1 vq2 vq3 n) vq4 M
set_option maxRecDepth 20000 in
theorem sX10_film_B58 {g : GP} {l : Launch} {x : CT} (ok : Ok g l x RX10 cX10_film 5 (some FieldType.int) (rmL 8)) (vq1 : Int32) (vq2 : Int32) (vq3 : Int32)  (k58 : Int32 → Mem → Option (Int32 × Mem)) (hk58 : ∀ (vq4 : Int32) (M : Mem), Sw g l x (FinQ g x eI) 5 0 0 58 [(0, .ref (gA g 0 0)), (1, .int vq1), (2, .int vq2), (3, .int vq3), (4, .int vq4)] [] M (k58 vq4 M)) (vq4 : Int32) (M : Mem) : Sw g l x (FinQ g x eI) 5 0 0 58 [(0, .ref (gA g 0 0)), (1, .int vq1), (2, .int vq2), (3, .int vq3), (4, .int vq4)] [] M (fX10_film_B58 vq1 vq2 vq3 k58 vq4 M) := by
  unfold fX10_film_B58
  refine r_iload (pc := 58) ok 4 dX10_film_58 rfl ?_
  refine r_iload_n (pc := 60) ok 3 dX10_film_60 rfl ?_
  refine r_icmp_ge (pc := 61) ok 97 dX10_film_61 (by decide) (fun _ => ?_) (fun _ => ?_)
  · refine r_iload_n (pc := 97) ok 3 dX10_film_97 rfl ?_
    exact r_iret (pc := 98) ok (Nat.zero_le _) (Nat.zero_le _) rfl dX10_film_98
  · refine r_aload_n (pc := 64) ok 0 dX10_film_64 rfl ?_
    refine r_getR (pc := 65) ok fr_0_5 (by decide) fl_X10_65 dX10_film_65 ?_
    refine r_callVN0 (pc := 68) ok [] [] 7 (fun rZ MZ hZ => con_X5_passDay g l 1 (by decide) _ rZ MZ hZ) cvN_X10_131 (ok_15 (by decide)) (rmOk_L (by decide) (by decide)) dX10_film_68 rfl rfl (Nat.le_of_ble_eq_true rfl) (fun r12 M13 => ?_)
    refine r_aload_n (pc := 71) ok 0 dX10_film_71 rfl ?_
    refine r_getR (pc := 72) ok fr_0_3 (by decide) fl_X10_51 dX10_film_72 ?_
    refine r_iload_n (pc := 75) ok 1 dX10_film_75 rfl ?_
    refine r_aald (pc := 76) ok rk_7 (by decide) rfl rfl dX10_film_76 (fun hb14 => ?_)
    refine r_iload (pc := 77) ok 4 dX10_film_77 rfl ?_
    refine r_aload_n (pc := 79) ok 0 dX10_film_79 rfl ?_
    refine r_getR (pc := 80) ok fr_0_5 (by decide) fl_X10_65 dX10_film_80 ?_
    refine r_getRN (pc := 83) ok fr_15_2 (by decide) flN_X10_95 dX10_film_83 ?_
    refine r_iload_n (pc := 86) ok 2 dX10_film_86 rfl ?_
    refine r_iald (pc := 87) ok ik_16 (by decide) dX10_film_87 (fun _ => ?_)
    refine r_callVN0 (pc := 88) ok [.int vq4, .int (M13 16 1 vq2.toNatClampNeg)] [] 2 (fun rZ MZ hZ => con_X6_write g l vq1.toNatClampNeg vq4 (M13 16 1 vq2.toNatClampNeg) hb14 _ rZ MZ hZ) cvN_X10_225 (ok_13 hb14) (rmOk_L (by decide) (by decide)) dX10_film_88 rfl rfl (Nat.le_of_ble_eq_true rfl) (fun r15 M16 => ?_)
    refine r_iinc (pc := 91) ok 4 (vq4 + 1) [(4, .int (vq4 + 1)), (0, .ref (gA g 0 0)), (1, .int vq1), (2, .int vq2), (3, .int vq3)] dX10_film_91 rfl (congrArg (fun z => vq4 + z) (by decide : Int32.ofInt 1 = (1 : Int32))) (by decide) rfl ?_
    refine r_goto (pc := 94) ok 58 dX10_film_94 (by decide) ?_
    refine r_lv [1, 2, 3, 4, 0] [(0, .ref (gA g 0 0)), (1, .int vq1), (2, .int vq2), (3, .int vq3), (4, .int (vq4 + 1))] rfl ?_
    exact hk58 (vq4 + 1) M16
theorem sX10_film_L58 {g : GP} {l : Launch} {x : CT} (ok : Ok g l x RX10 cX10_film 5 (some FieldType.int) (rmL 8)) (vq1 : Int32) (vq2 : Int32) (vq3 : Int32)  : ∀ (n : Nat) (vq4 : Int32) (M : Mem), Sw g l x (FinQ g x eI) 5 0 0 58 [(0, .ref (gA g 0 0)), (1, .int vq1), (2, .int vq2), (3, .int vq3), (4, .int vq4)] [] M (fX10_film_L58 vq1 vq2 vq3 n vq4 M) := by
  intro n
  induction n with
  | zero => intros; exact r_none
  | succ n ih => intro vq4 M; exact sX10_film_B58 ok vq1 vq2 vq3  _ ih vq4 M
def fX10_film (vq1 : Int32) (vq2 : Int32) (vq3 : Int32) (M : Mem) : Option (Int32 × Mem) :=
  ob (fX10_isSheet vq1 M) fun r1 M2 =>
  if r1 = 0 then
    (some (-2, M2))
  else
    (ob (fX10_isCell vq2 M2) fun r3 M4 =>
    if r3 = 0 then
      (some (-5, M4))
    else
      (ob (fX10_within vq3 0 20 M4) fun r5 M6 =>
      if r5 = 0 then
        (some (-7, M6))
      else
        (gd (inb vq1 4)
        (ob (fX6_become vq1.toNatClampNeg 1 vq3 M6) fun r8 M9 =>
        ob (fX5_takeFrom 1 0 M9) fun r10 M11 =>
        fX10_film_L58 vq1 vq2 vq3 FU 0 M11))))
set_option maxRecDepth 20000 in
theorem wX10_film {g : GP} {l : Launch} {x : CT} (ok : Ok g l x RX10 cX10_film 5 (some FieldType.int) (rmL 8)) (vq1 : Int32) (vq2 : Int32) (vq3 : Int32)  (M : Mem) : Sw g l x (FinQ g x eI) 5 0 0 0 [(0, .ref (gA g 0 0)), (1, .int vq1), (2, .int vq2), (3, .int vq3)] [] M (fX10_film vq1 vq2 vq3 M) := by
  unfold fX10_film
  refine r_iload_n (pc := 0) ok 1 dX10_film_0 rfl ?_
  refine r_callS0 (pc := 1) ok [.int vq1] [] 3 (fun rZ MZ hZ => con_X10_isSheet g l vq1 _ rZ MZ hZ) cs_X10_219 (rmOk_L (by decide) (by decide)) dX10_film_1 rfl rfl (Nat.le_of_ble_eq_true rfl) (fun r1 M2 => ?_)
  refine r_if_ne (pc := 4) ok 10 dX10_film_4 (by decide) (fun _ => ?_) (fun _ => ?_)
  · refine r_bipush (pc := 7) ok (-2) dX10_film_7 (by decide) ?_
    exact r_iret (pc := 9) ok (Nat.zero_le _) (Nat.zero_le _) rfl dX10_film_9
  · refine r_iload_n (pc := 10) ok 2 dX10_film_10 rfl ?_
    refine r_callS0 (pc := 11) ok [.int vq2] [] 3 (fun rZ MZ hZ => con_X10_isCell g l vq2 _ rZ MZ hZ) cs_X10_87 (rmOk_L (by decide) (by decide)) dX10_film_11 rfl rfl (Nat.le_of_ble_eq_true rfl) (fun r3 M4 => ?_)
    refine r_if_ne (pc := 14) ok 20 dX10_film_14 (by decide) (fun _ => ?_) (fun _ => ?_)
    · refine r_bipush (pc := 17) ok (-5) dX10_film_17 (by decide) ?_
      exact r_iret (pc := 19) ok (Nat.zero_le _) (Nat.zero_le _) rfl dX10_film_19
    · refine r_iload_n (pc := 20) ok 3 dX10_film_20 rfl ?_
      refine r_iconst (pc := 21) ok 0 dX10_film_21 (by decide) ?_
      refine r_bipush (pc := 22) ok 20 dX10_film_22 (by decide) ?_
      refine r_callS0 (pc := 24) ok [.int vq3, .int 0, .int 20] [] 2 (fun rZ MZ hZ => con_X10_within g l vq3 0 20 _ rZ MZ hZ) cs_X10_91 (rmOk_L (by decide) (by decide)) dX10_film_24 rfl rfl (Nat.le_of_ble_eq_true rfl) (fun r5 M6 => ?_)
      refine r_if_ne (pc := 27) ok 33 dX10_film_27 (by decide) (fun _ => ?_) (fun _ => ?_)
      · refine r_bipush (pc := 30) ok (-7) dX10_film_30 (by decide) ?_
        exact r_iret (pc := 32) ok (Nat.zero_le _) (Nat.zero_le _) rfl dX10_film_32
      · refine r_aload_n (pc := 33) ok 0 dX10_film_33 rfl ?_
        refine r_getR (pc := 34) ok fr_0_3 (by decide) fl_X10_51 dX10_film_34 ?_
        refine r_iload_n (pc := 37) ok 1 dX10_film_37 rfl ?_
        refine r_aald (pc := 38) ok rk_7 (by decide) rfl rfl dX10_film_38 (fun hb7 => ?_)
        refine r_iconst (pc := 39) ok 1 dX10_film_39 (by decide) ?_
        refine r_iload_n (pc := 40) ok 3 dX10_film_40 rfl ?_
        refine r_callVN0 (pc := 41) ok [.int 1, .int vq3] [] 3 (fun rZ MZ hZ => con_X6_become g l vq1.toNatClampNeg 1 vq3 hb7 _ rZ MZ hZ) cvN_X10_222 (ok_13 hb7) (rmOk_L (by decide) (by decide)) dX10_film_41 rfl rfl (Nat.le_of_ble_eq_true rfl) (fun r8 M9 => ?_)
        refine r_aload_n (pc := 44) ok 0 dX10_film_44 rfl ?_
        refine r_getR (pc := 45) ok fr_0_5 (by decide) fl_X10_65 dX10_film_45 ?_
        refine r_aload_n (pc := 48) ok 0 dX10_film_48 rfl ?_
        refine r_getR (pc := 49) ok fr_0_4 (by decide) fl_X10_61 dX10_film_49 ?_
        refine r_callVN0 (pc := 52) ok [.ref (gA g 15 0)] [] 2 (fun rZ MZ hZ => con_X5_takeFrom g l 1 0 (by decide) (by decide) _ rZ MZ hZ) cvN_X10_141 (ok_15 (by decide)) (rmOk_L (by decide) (by decide)) dX10_film_52 rfl rfl (Nat.le_of_ble_eq_true rfl) (fun r10 M11 => ?_)
        refine r_iconst (pc := 55) ok 0 dX10_film_55 (by decide) ?_
        refine r_istore (pc := 56) ok [(4, .int 0), (0, .ref (gA g 0 0)), (1, .int vq1), (2, .int vq2), (3, .int vq3)] dX10_film_56 (by decide) rfl ?_
        refine r_lv [1, 2, 3, 4, 0] [(0, .ref (gA g 0 0)), (1, .int vq1), (2, .int vq2), (3, .int vq3), (4, .int 0)] rfl ?_
        exact sX10_film_L58 ok vq1 vq2 vq3 FU 0 M11
theorem con_X10_film (g : GP) (l : Launch) (vq1 : Int32) (vq2 : Int32) (vq3 : Int32)  (M : Mem) (r : Int32) (M2 : Mem) (h : fX10_film vq1 vq2 vq3 M = some (r, M2)) : Con g l yX10_film cX10_film 5 (some FieldType.int) (rmL 8) [.ref (gA g 0 0), .int vq1, .int vq2, .int vq3] M (eI r) M2 :=
  Con.of (own := RX10) (f := fX10_film vq1 vq2 vq3 M) (by decide) (Nat.le_of_ble_eq_true rfl) rfl (fun x ok => wX10_film ok vq1 vq2 vq3  M) r M2 h
def fX10_drawn (vq1 : Int32) (vq2 : Int32) (vq3 : Int32) (vq4 : Int32) (M : Mem) : Option (Int32 × Mem) :=
  ob (fX5_has 0 vq2 M) fun r1 M2 =>
  if r1 = 0 then
    (some (-5, M2))
  else
    (ob (fX10_within vq1 0 99999 M2) fun r3 M4 =>
    if r3 = 0 then
      (some (-7, M4))
    else
      (ob (fX10_within vq3 0 3599 M4) fun r5 M6 =>
      if r5 = 0 then
        (some (-7, M6))
      else
        (ob (fX10_within vq4 0 1 M6) fun r7 M8 =>
        if r7 = 0 then
          (some (-7, M8))
        else
          (ob (fX5_takeFrom 1 0 M8) fun r9 M10 =>
          ob (fX5_wander 1 vq1 vq2 (vq3 / 100) (irem vq3 100) M10) fun r11 M12 =>
          if vq4 = 0 then
            (some (r11, M12))
          else
            (some (M12 15 1 10, M12))))))
set_option maxRecDepth 20000 in
theorem wX10_drawn {g : GP} {l : Launch} {x : CT} (ok : Ok g l x RX10 cX10_drawn 6 (some FieldType.int) (rmL 8)) (vq1 : Int32) (vq2 : Int32) (vq3 : Int32) (vq4 : Int32)  (M : Mem) : Sw g l x (FinQ g x eI) 6 0 0 0 [(0, .ref (gA g 0 0)), (1, .int vq1), (2, .int vq2), (3, .int vq3), (4, .int vq4)] [] M (fX10_drawn vq1 vq2 vq3 vq4 M) := by
  unfold fX10_drawn
  refine r_aload_n (pc := 0) ok 0 dX10_drawn_0 rfl ?_
  refine r_getR (pc := 1) ok fr_0_4 (by decide) fl_X10_61 dX10_drawn_1 ?_
  refine r_iload_n (pc := 4) ok 2 dX10_drawn_4 rfl ?_
  refine r_callVN0 (pc := 5) ok [.int vq2] [] 3 (fun rZ MZ hZ => con_X5_has g l 0 vq2 (by decide) _ rZ MZ hZ) cvN_X10_117 (ok_15 (by decide)) (rmOk_L (by decide) (by decide)) dX10_drawn_5 rfl rfl (Nat.le_of_ble_eq_true rfl) (fun r1 M2 => ?_)
  refine r_if_ne (pc := 8) ok 14 dX10_drawn_8 (by decide) (fun _ => ?_) (fun _ => ?_)
  · refine r_bipush (pc := 11) ok (-5) dX10_drawn_11 (by decide) ?_
    exact r_iret (pc := 13) ok (Nat.zero_le _) (Nat.zero_le _) rfl dX10_drawn_13
  · refine r_iload_n (pc := 14) ok 1 dX10_drawn_14 rfl ?_
    refine r_iconst (pc := 15) ok 0 dX10_drawn_15 (by decide) ?_
    refine r_ldc (pc := 16) ok wct_X10_228 dX10_drawn_16 ?_
    refine r_callS0 (pc := 18) ok [.int vq1, .int 0, .int 99999] [] 2 (fun rZ MZ hZ => con_X10_within g l vq1 0 99999 _ rZ MZ hZ) cs_X10_91 (rmOk_L (by decide) (by decide)) dX10_drawn_18 rfl rfl (Nat.le_of_ble_eq_true rfl) (fun r3 M4 => ?_)
    refine r_if_eq (pc := 21) ok 45 dX10_drawn_21 (by decide) (fun _ => ?_) (fun _ => ?_)
    · refine r_bipush (pc := 45) ok (-7) dX10_drawn_45 (by decide) ?_
      exact r_iret (pc := 47) ok (Nat.zero_le _) (Nat.zero_le _) rfl dX10_drawn_47
    · refine r_iload_n (pc := 24) ok 3 dX10_drawn_24 rfl ?_
      refine r_iconst (pc := 25) ok 0 dX10_drawn_25 (by decide) ?_
      refine r_sipush (pc := 26) ok 3599 dX10_drawn_26 (by decide) ?_
      refine r_callS0 (pc := 29) ok [.int vq3, .int 0, .int 3599] [] 2 (fun rZ MZ hZ => con_X10_within g l vq3 0 3599 _ rZ MZ hZ) cs_X10_91 (rmOk_L (by decide) (by decide)) dX10_drawn_29 rfl rfl (Nat.le_of_ble_eq_true rfl) (fun r5 M6 => ?_)
      refine r_if_eq (pc := 32) ok 45 dX10_drawn_32 (by decide) (fun _ => ?_) (fun _ => ?_)
      · refine r_bipush (pc := 45) ok (-7) dX10_drawn_45 (by decide) ?_
        exact r_iret (pc := 47) ok (Nat.zero_le _) (Nat.zero_le _) rfl dX10_drawn_47
      · refine r_iload (pc := 35) ok 4 dX10_drawn_35 rfl ?_
        refine r_iconst (pc := 37) ok 0 dX10_drawn_37 (by decide) ?_
        refine r_iconst (pc := 38) ok 1 dX10_drawn_38 (by decide) ?_
        refine r_callS0 (pc := 39) ok [.int vq4, .int 0, .int 1] [] 2 (fun rZ MZ hZ => con_X10_within g l vq4 0 1 _ rZ MZ hZ) cs_X10_91 (rmOk_L (by decide) (by decide)) dX10_drawn_39 rfl rfl (Nat.le_of_ble_eq_true rfl) (fun r7 M8 => ?_)
        refine r_if_ne (pc := 42) ok 48 dX10_drawn_42 (by decide) (fun _ => ?_) (fun _ => ?_)
        · refine r_bipush (pc := 45) ok (-7) dX10_drawn_45 (by decide) ?_
          exact r_iret (pc := 47) ok (Nat.zero_le _) (Nat.zero_le _) rfl dX10_drawn_47
        · refine r_aload_n (pc := 48) ok 0 dX10_drawn_48 rfl ?_
          refine r_getR (pc := 49) ok fr_0_5 (by decide) fl_X10_65 dX10_drawn_49 ?_
          refine r_aload_n (pc := 52) ok 0 dX10_drawn_52 rfl ?_
          refine r_getR (pc := 53) ok fr_0_4 (by decide) fl_X10_61 dX10_drawn_53 ?_
          refine r_callVN0 (pc := 56) ok [.ref (gA g 15 0)] [] 2 (fun rZ MZ hZ => con_X5_takeFrom g l 1 0 (by decide) (by decide) _ rZ MZ hZ) cvN_X10_141 (ok_15 (by decide)) (rmOk_L (by decide) (by decide)) dX10_drawn_56 rfl rfl (Nat.le_of_ble_eq_true rfl) (fun r9 M10 => ?_)
          refine r_aload_n (pc := 59) ok 0 dX10_drawn_59 rfl ?_
          refine r_getR (pc := 60) ok fr_0_5 (by decide) fl_X10_65 dX10_drawn_60 ?_
          refine r_iload_n (pc := 63) ok 1 dX10_drawn_63 rfl ?_
          refine r_iload_n (pc := 64) ok 2 dX10_drawn_64 rfl ?_
          refine r_iload_n (pc := 65) ok 3 dX10_drawn_65 rfl ?_
          refine r_bipush (pc := 66) ok 100 dX10_drawn_66 (by decide) ?_
          refine r_idivc (pc := 68) ok (by decide) dX10_drawn_68 ?_
          refine r_iload_n (pc := 69) ok 3 dX10_drawn_69 rfl ?_
          refine r_bipush (pc := 70) ok 100 dX10_drawn_70 (by decide) ?_
          refine r_iremc (pc := 72) ok (by decide) dX10_drawn_72 ?_
          refine r_callVN0 (pc := 73) ok [.int vq1, .int vq2, .int (vq3 / 100), .int (irem vq3 100)] [] 7 (fun rZ MZ hZ => con_X5_wander g l 1 vq1 vq2 (vq3 / 100) (irem vq3 100) (by decide) _ rZ MZ hZ) cvN_X10_229 (ok_15 (by decide)) (rmOk_L (by decide) (by decide)) dX10_drawn_73 rfl rfl (Nat.le_of_ble_eq_true rfl) (fun r11 M12 => ?_)
          refine r_istore (pc := 76) ok [(5, .int r11), (0, .ref (gA g 0 0)), (1, .int vq1), (2, .int vq2), (3, .int vq3), (4, .int vq4)] dX10_drawn_76 (by decide) rfl ?_
          refine r_iload (pc := 78) ok 5 dX10_drawn_78 rfl ?_
          refine r_if_ne (pc := 80) ok 88 dX10_drawn_80 (by decide) (fun _ => ?_) (fun _ => ?_)
          · refine r_iload (pc := 83) ok 0 dX10_drawn_83 rfl ?_
            refine r_goto (pc := 85) ok 95 dX10_drawn_85 (by decide) ?_
            exact r_iret (pc := 95) ok (Nat.zero_le _) (Nat.zero_le _) rfl dX10_drawn_95
          · refine r_aload_n (pc := 88) ok 1 dX10_drawn_88 rfl ?_
            refine r_getR (pc := 89) ok fr_0_5 (by decide) fl_X10_65 dX10_drawn_89 ?_
            refine r_getIN (pc := 92) ok fi_15_10 (by decide) flN_X10_232 dX10_drawn_92 ?_
            exact r_iret (pc := 95) ok (Nat.zero_le _) (Nat.zero_le _) rfl dX10_drawn_95
theorem con_X10_drawn (g : GP) (l : Launch) (vq1 : Int32) (vq2 : Int32) (vq3 : Int32) (vq4 : Int32)  (M : Mem) (r : Int32) (M2 : Mem) (h : fX10_drawn vq1 vq2 vq3 vq4 M = some (r, M2)) : Con g l yX10_drawn cX10_drawn 6 (some FieldType.int) (rmL 8) [.ref (gA g 0 0), .int vq1, .int vq2, .int vq3, .int vq4] M (eI r) M2 :=
  Con.of (own := RX10) (f := fX10_drawn vq1 vq2 vq3 vq4 M) (by decide) (Nat.le_of_ble_eq_true rfl) rfl (fun x ok => wX10_drawn ok vq1 vq2 vq3 vq4  M) r M2 h
def fX10_odds_B82 (vq1 : Int32) (vq2 : Int32) (vq3 : Int32) (vq4 : Int32) (vq5 : Int32) (vq6 : Int32) (k82 : Int32 → Int32 → Mem → Option (Int64 × Mem)) (vq7 : Int32) (vq8 : Int32) (M : Mem) : Option (Int64 × Mem) :=
  if vq6 ≤ vq8 then
    (ob (fX10_lowest vq7 vq6 vq5 M) fun r14 M15 =>
    some (r14, M15))
  else
    (ob (fX5_takeFrom 1 0 M) fun r16 M17 =>
    ob (fX5_wander 1 ((vq1 / 100) + vq8) vq2 (vq3 / 100) (irem vq3 100) M17) fun r18 M19 =>
    if r18 < vq4 then
      (k82 vq7 (vq8 + 1) M19)
    else
      (k82 (vq7 + 1) (vq8 + 1) M19))
def fX10_odds_L82 (vq1 : Int32) (vq2 : Int32) (vq3 : Int32) (vq4 : Int32) (vq5 : Int32) (vq6 : Int32) : Nat → Int32 → Int32 → Mem → Option (Int64 × Mem)
  | 0, _, _, _ => none
  | n + 1, vq7, vq8, M => fX10_odds_B82 vq1 vq2 vq3 vq4 vq5 vq6 (fX10_odds_L82 vq1 vq2 vq3 vq4 vq5 vq6 n) vq7 vq8 M
set_option maxRecDepth 20000 in
theorem sX10_odds_B82 {g : GP} {l : Launch} {x : CT} (ok : Ok g l x RX10 cX10_odds 9 (some FieldType.long) (rmL 8)) (vq1 : Int32) (vq2 : Int32) (vq3 : Int32) (vq4 : Int32) (vq5 : Int32) (vq6 : Int32)  (k82 : Int32 → Int32 → Mem → Option (Int64 × Mem)) (hk82 : ∀ (vq7 : Int32) (vq8 : Int32) (M : Mem), Sw g l x (FinQ g x eJ) 9 0 0 82 [(0, .ref (gA g 0 0)), (1, .int vq1), (2, .int vq2), (3, .int vq3), (4, .int vq4), (5, .int vq5), (6, .int vq6), (7, .int vq7), (8, .int vq8)] [] M (k82 vq7 vq8 M)) (vq7 : Int32) (vq8 : Int32) (M : Mem) : Sw g l x (FinQ g x eJ) 9 0 0 82 [(0, .ref (gA g 0 0)), (1, .int vq1), (2, .int vq2), (3, .int vq3), (4, .int vq4), (5, .int vq5), (6, .int vq6), (7, .int vq7), (8, .int vq8)] [] M (fX10_odds_B82 vq1 vq2 vq3 vq4 vq5 vq6 k82 vq7 vq8 M) := by
  unfold fX10_odds_B82
  refine r_iload (pc := 82) ok 8 dX10_odds_82 rfl ?_
  refine r_iload (pc := 84) ok 6 dX10_odds_84 rfl ?_
  refine r_icmp_ge (pc := 86) ok 137 dX10_odds_86 (by decide) (fun _ => ?_) (fun _ => ?_)
  · refine r_iload (pc := 137) ok 7 dX10_odds_137 rfl ?_
    refine r_iload (pc := 139) ok 6 dX10_odds_139 rfl ?_
    refine r_iload (pc := 141) ok 5 dX10_odds_141 rfl ?_
    refine r_callS0 (pc := 143) ok [.int vq7, .int vq6, .int vq5] [] 2 (fun rZ MZ hZ => con_X10_lowest g l vq7 vq6 vq5 _ rZ MZ hZ) cs_X10_236 (rmOk_L (by decide) (by decide)) dX10_odds_143 rfl rfl (Nat.le_of_ble_eq_true rfl) (fun r14 M15 => ?_)
    exact r_lret (pc := 146) ok (Nat.zero_le _) (Nat.zero_le _) rfl dX10_odds_146
  · refine r_aload_n (pc := 89) ok 0 dX10_odds_89 rfl ?_
    refine r_getR (pc := 90) ok fr_0_5 (by decide) fl_X10_65 dX10_odds_90 ?_
    refine r_aload_n (pc := 93) ok 0 dX10_odds_93 rfl ?_
    refine r_getR (pc := 94) ok fr_0_4 (by decide) fl_X10_61 dX10_odds_94 ?_
    refine r_callVN0 (pc := 97) ok [.ref (gA g 15 0)] [] 2 (fun rZ MZ hZ => con_X5_takeFrom g l 1 0 (by decide) (by decide) _ rZ MZ hZ) cvN_X10_141 (ok_15 (by decide)) (rmOk_L (by decide) (by decide)) dX10_odds_97 rfl rfl (Nat.le_of_ble_eq_true rfl) (fun r16 M17 => ?_)
    refine r_aload_n (pc := 100) ok 0 dX10_odds_100 rfl ?_
    refine r_getR (pc := 101) ok fr_0_5 (by decide) fl_X10_65 dX10_odds_101 ?_
    refine r_iload_n (pc := 104) ok 1 dX10_odds_104 rfl ?_
    refine r_bipush (pc := 105) ok 100 dX10_odds_105 (by decide) ?_
    refine r_idivc (pc := 107) ok (by decide) dX10_odds_107 ?_
    refine r_iload (pc := 108) ok 8 dX10_odds_108 rfl ?_
    refine r_iadd (pc := 110) ok dX10_odds_110 ?_
    refine r_iload_n (pc := 111) ok 2 dX10_odds_111 rfl ?_
    refine r_iload_n (pc := 112) ok 3 dX10_odds_112 rfl ?_
    refine r_bipush (pc := 113) ok 100 dX10_odds_113 (by decide) ?_
    refine r_idivc (pc := 115) ok (by decide) dX10_odds_115 ?_
    refine r_iload_n (pc := 116) ok 3 dX10_odds_116 rfl ?_
    refine r_bipush (pc := 117) ok 100 dX10_odds_117 (by decide) ?_
    refine r_iremc (pc := 119) ok (by decide) dX10_odds_119 ?_
    refine r_callVN0 (pc := 120) ok [.int ((vq1 / 100) + vq8), .int vq2, .int (vq3 / 100), .int (irem vq3 100)] [] 7 (fun rZ MZ hZ => con_X5_wander g l 1 ((vq1 / 100) + vq8) vq2 (vq3 / 100) (irem vq3 100) (by decide) _ rZ MZ hZ) cvN_X10_229 (ok_15 (by decide)) (rmOk_L (by decide) (by decide)) dX10_odds_120 rfl rfl (Nat.le_of_ble_eq_true rfl) (fun r18 M19 => ?_)
    refine r_iload (pc := 123) ok 4 dX10_odds_123 rfl ?_
    refine r_icmp_lt (pc := 125) ok 131 dX10_odds_125 (by decide) (fun _ => ?_) (fun _ => ?_)
    · refine r_iinc (pc := 131) ok 8 (vq8 + 1) [(8, .int (vq8 + 1)), (0, .ref (gA g 0 0)), (1, .int vq1), (2, .int vq2), (3, .int vq3), (4, .int vq4), (5, .int vq5), (6, .int vq6), (7, .int vq7)] dX10_odds_131 rfl (congrArg (fun z => vq8 + z) (by decide : Int32.ofInt 1 = (1 : Int32))) (by decide) rfl ?_
      refine r_goto (pc := 134) ok 82 dX10_odds_134 (by decide) ?_
      refine r_lv [1, 2, 3, 4, 5, 6, 7, 8, 0] [(0, .ref (gA g 0 0)), (1, .int vq1), (2, .int vq2), (3, .int vq3), (4, .int vq4), (5, .int vq5), (6, .int vq6), (7, .int vq7), (8, .int (vq8 + 1))] rfl ?_
      exact hk82 vq7 (vq8 + 1) M19
    · refine r_iinc (pc := 128) ok 7 (vq7 + 1) [(7, .int (vq7 + 1)), (0, .ref (gA g 0 0)), (1, .int vq1), (2, .int vq2), (3, .int vq3), (4, .int vq4), (5, .int vq5), (6, .int vq6), (8, .int vq8)] dX10_odds_128 rfl (congrArg (fun z => vq7 + z) (by decide : Int32.ofInt 1 = (1 : Int32))) (by decide) rfl ?_
      refine r_iinc (pc := 131) ok 8 (vq8 + 1) [(8, .int (vq8 + 1)), (7, .int (vq7 + 1)), (0, .ref (gA g 0 0)), (1, .int vq1), (2, .int vq2), (3, .int vq3), (4, .int vq4), (5, .int vq5), (6, .int vq6)] dX10_odds_131 rfl (congrArg (fun z => vq8 + z) (by decide : Int32.ofInt 1 = (1 : Int32))) (by decide) rfl ?_
      refine r_goto (pc := 134) ok 82 dX10_odds_134 (by decide) ?_
      refine r_lv [2, 3, 4, 5, 6, 7, 8, 1, 0] [(0, .ref (gA g 0 0)), (1, .int vq1), (2, .int vq2), (3, .int vq3), (4, .int vq4), (5, .int vq5), (6, .int vq6), (7, .int (vq7 + 1)), (8, .int (vq8 + 1))] rfl ?_
      exact hk82 (vq7 + 1) (vq8 + 1) M19
theorem sX10_odds_L82 {g : GP} {l : Launch} {x : CT} (ok : Ok g l x RX10 cX10_odds 9 (some FieldType.long) (rmL 8)) (vq1 : Int32) (vq2 : Int32) (vq3 : Int32) (vq4 : Int32) (vq5 : Int32) (vq6 : Int32)  : ∀ (n : Nat) (vq7 : Int32) (vq8 : Int32) (M : Mem), Sw g l x (FinQ g x eJ) 9 0 0 82 [(0, .ref (gA g 0 0)), (1, .int vq1), (2, .int vq2), (3, .int vq3), (4, .int vq4), (5, .int vq5), (6, .int vq6), (7, .int vq7), (8, .int vq8)] [] M (fX10_odds_L82 vq1 vq2 vq3 vq4 vq5 vq6 n vq7 vq8 M) := by
  intro n
  induction n with
  | zero => intros; exact r_none
  | succ n ih => intro vq7 vq8 M; exact sX10_odds_B82 ok vq1 vq2 vq3 vq4 vq5 vq6  _ ih vq7 vq8 M
def fX10_odds (vq1 : Int32) (vq2 : Int32) (vq3 : Int32) (vq4 : Int32) (vq5 : Int32) (M : Mem) : Option (Int64 × Mem) :=
  ob (fX10_within vq1 0 9999999 M) fun r1 M2 =>
  if r1 = 0 then
    (some (-4611686018427387904, M2))
  else
    (ob (fX10_within (irem vq1 100) 1 40 M2) fun r3 M4 =>
    if r3 = 0 then
      (some (-4611686018427387904, M4))
    else
      (ob (fX5_has 0 vq2 M4) fun r5 M6 =>
      if r5 = 0 then
        (some (-4611686018427387904, M6))
      else
        (ob (fX10_within vq3 0 3599 M6) fun r7 M8 =>
        if r7 = 0 then
          (some (-4611686018427387904, M8))
        else
          (ob (fX10_within vq4 0 99999 M8) fun r9 M10 =>
          if r9 = 0 then
            (some (-4611686018427387904, M10))
          else
            (ob (fX10_within vq5 0 1 M10) fun r11 M12 =>
            if r11 = 0 then
              (some (-4611686018427387904, M12))
            else
              (lt (irem vq1 100) fun w13 =>
              fX10_odds_L82 vq1 vq2 vq3 vq4 vq5 w13 FU 0 0 M12))))))
set_option maxRecDepth 20000 in
theorem wX10_odds {g : GP} {l : Launch} {x : CT} (ok : Ok g l x RX10 cX10_odds 9 (some FieldType.long) (rmL 8)) (vq1 : Int32) (vq2 : Int32) (vq3 : Int32) (vq4 : Int32) (vq5 : Int32)  (M : Mem) : Sw g l x (FinQ g x eJ) 9 0 0 0 [(0, .ref (gA g 0 0)), (1, .int vq1), (2, .int vq2), (3, .int vq3), (4, .int vq4), (5, .int vq5)] [] M (fX10_odds vq1 vq2 vq3 vq4 vq5 M) := by
  unfold fX10_odds
  refine r_iload_n (pc := 0) ok 1 dX10_odds_0 rfl ?_
  refine r_iconst (pc := 1) ok 0 dX10_odds_1 (by decide) ?_
  refine r_ldc (pc := 2) ok wct_X10_235 dX10_odds_2 ?_
  refine r_callS0 (pc := 4) ok [.int vq1, .int 0, .int 9999999] [] 2 (fun rZ MZ hZ => con_X10_within g l vq1 0 9999999 _ rZ MZ hZ) cs_X10_91 (rmOk_L (by decide) (by decide)) dX10_odds_4 rfl rfl (Nat.le_of_ble_eq_true rfl) (fun r1 M2 => ?_)
  refine r_if_eq (pc := 7) ok 66 dX10_odds_7 (by decide) (fun _ => ?_) (fun _ => ?_)
  · refine r_ldc2 (pc := 66) ok wcl_X10_169 dX10_odds_66 ?_
    exact r_lret (pc := 69) ok (Nat.zero_le _) (Nat.zero_le _) rfl dX10_odds_69
  · refine r_iload_n (pc := 10) ok 1 dX10_odds_10 rfl ?_
    refine r_bipush (pc := 11) ok 100 dX10_odds_11 (by decide) ?_
    refine r_iremc (pc := 13) ok (by decide) dX10_odds_13 ?_
    refine r_iconst (pc := 14) ok 1 dX10_odds_14 (by decide) ?_
    refine r_bipush (pc := 15) ok 40 dX10_odds_15 (by decide) ?_
    refine r_callS0 (pc := 17) ok [.int (irem vq1 100), .int 1, .int 40] [] 2 (fun rZ MZ hZ => con_X10_within g l (irem vq1 100) 1 40 _ rZ MZ hZ) cs_X10_91 (rmOk_L (by decide) (by decide)) dX10_odds_17 rfl rfl (Nat.le_of_ble_eq_true rfl) (fun r3 M4 => ?_)
    refine r_if_eq (pc := 20) ok 66 dX10_odds_20 (by decide) (fun _ => ?_) (fun _ => ?_)
    · refine r_ldc2 (pc := 66) ok wcl_X10_169 dX10_odds_66 ?_
      exact r_lret (pc := 69) ok (Nat.zero_le _) (Nat.zero_le _) rfl dX10_odds_69
    · refine r_aload_n (pc := 23) ok 0 dX10_odds_23 rfl ?_
      refine r_getR (pc := 24) ok fr_0_4 (by decide) fl_X10_61 dX10_odds_24 ?_
      refine r_iload_n (pc := 27) ok 2 dX10_odds_27 rfl ?_
      refine r_callVN0 (pc := 28) ok [.int vq2] [] 3 (fun rZ MZ hZ => con_X5_has g l 0 vq2 (by decide) _ rZ MZ hZ) cvN_X10_117 (ok_15 (by decide)) (rmOk_L (by decide) (by decide)) dX10_odds_28 rfl rfl (Nat.le_of_ble_eq_true rfl) (fun r5 M6 => ?_)
      refine r_if_eq (pc := 31) ok 66 dX10_odds_31 (by decide) (fun _ => ?_) (fun _ => ?_)
      · refine r_ldc2 (pc := 66) ok wcl_X10_169 dX10_odds_66 ?_
        exact r_lret (pc := 69) ok (Nat.zero_le _) (Nat.zero_le _) rfl dX10_odds_69
      · refine r_iload_n (pc := 34) ok 3 dX10_odds_34 rfl ?_
        refine r_iconst (pc := 35) ok 0 dX10_odds_35 (by decide) ?_
        refine r_sipush (pc := 36) ok 3599 dX10_odds_36 (by decide) ?_
        refine r_callS0 (pc := 39) ok [.int vq3, .int 0, .int 3599] [] 2 (fun rZ MZ hZ => con_X10_within g l vq3 0 3599 _ rZ MZ hZ) cs_X10_91 (rmOk_L (by decide) (by decide)) dX10_odds_39 rfl rfl (Nat.le_of_ble_eq_true rfl) (fun r7 M8 => ?_)
        refine r_if_eq (pc := 42) ok 66 dX10_odds_42 (by decide) (fun _ => ?_) (fun _ => ?_)
        · refine r_ldc2 (pc := 66) ok wcl_X10_169 dX10_odds_66 ?_
          exact r_lret (pc := 69) ok (Nat.zero_le _) (Nat.zero_le _) rfl dX10_odds_69
        · refine r_iload (pc := 45) ok 4 dX10_odds_45 rfl ?_
          refine r_iconst (pc := 47) ok 0 dX10_odds_47 (by decide) ?_
          refine r_ldc (pc := 48) ok wct_X10_228 dX10_odds_48 ?_
          refine r_callS0 (pc := 50) ok [.int vq4, .int 0, .int 99999] [] 2 (fun rZ MZ hZ => con_X10_within g l vq4 0 99999 _ rZ MZ hZ) cs_X10_91 (rmOk_L (by decide) (by decide)) dX10_odds_50 rfl rfl (Nat.le_of_ble_eq_true rfl) (fun r9 M10 => ?_)
          refine r_if_eq (pc := 53) ok 66 dX10_odds_53 (by decide) (fun _ => ?_) (fun _ => ?_)
          · refine r_ldc2 (pc := 66) ok wcl_X10_169 dX10_odds_66 ?_
            exact r_lret (pc := 69) ok (Nat.zero_le _) (Nat.zero_le _) rfl dX10_odds_69
          · refine r_iload (pc := 56) ok 5 dX10_odds_56 rfl ?_
            refine r_iconst (pc := 58) ok 0 dX10_odds_58 (by decide) ?_
            refine r_iconst (pc := 59) ok 1 dX10_odds_59 (by decide) ?_
            refine r_callS0 (pc := 60) ok [.int vq5, .int 0, .int 1] [] 2 (fun rZ MZ hZ => con_X10_within g l vq5 0 1 _ rZ MZ hZ) cs_X10_91 (rmOk_L (by decide) (by decide)) dX10_odds_60 rfl rfl (Nat.le_of_ble_eq_true rfl) (fun r11 M12 => ?_)
            refine r_if_ne (pc := 63) ok 70 dX10_odds_63 (by decide) (fun _ => ?_) (fun _ => ?_)
            · refine r_ldc2 (pc := 66) ok wcl_X10_169 dX10_odds_66 ?_
              exact r_lret (pc := 69) ok (Nat.zero_le _) (Nat.zero_le _) rfl dX10_odds_69
            · refine r_iload_n (pc := 70) ok 1 dX10_odds_70 rfl ?_
              refine r_bipush (pc := 71) ok 100 dX10_odds_71 (by decide) ?_
              refine r_iremc (pc := 73) ok (by decide) dX10_odds_73 ?_
              refine r_nmi (fun w13 => ?_)
              refine r_istore (pc := 74) ok [(6, .int w13), (0, .ref (gA g 0 0)), (1, .int vq1), (2, .int vq2), (3, .int vq3), (4, .int vq4), (5, .int vq5)] dX10_odds_74 (by decide) rfl ?_
              refine r_iconst (pc := 76) ok 0 dX10_odds_76 (by decide) ?_
              refine r_istore (pc := 77) ok [(7, .int 0), (6, .int w13), (0, .ref (gA g 0 0)), (1, .int vq1), (2, .int vq2), (3, .int vq3), (4, .int vq4), (5, .int vq5)] dX10_odds_77 (by decide) rfl ?_
              refine r_iconst (pc := 79) ok 0 dX10_odds_79 (by decide) ?_
              refine r_istore (pc := 80) ok [(8, .int 0), (7, .int 0), (6, .int w13), (0, .ref (gA g 0 0)), (1, .int vq1), (2, .int vq2), (3, .int vq3), (4, .int vq4), (5, .int vq5)] dX10_odds_80 (by decide) rfl ?_
              refine r_lv [3, 4, 5, 6, 7, 8, 2, 1, 0] [(0, .ref (gA g 0 0)), (1, .int vq1), (2, .int vq2), (3, .int vq3), (4, .int vq4), (5, .int vq5), (6, .int w13), (7, .int 0), (8, .int 0)] rfl ?_
              exact sX10_odds_L82 ok vq1 vq2 vq3 vq4 vq5 w13 FU 0 0 M12
theorem con_X10_odds (g : GP) (l : Launch) (vq1 : Int32) (vq2 : Int32) (vq3 : Int32) (vq4 : Int32) (vq5 : Int32)  (M : Mem) (r : Int64) (M2 : Mem) (h : fX10_odds vq1 vq2 vq3 vq4 vq5 M = some (r, M2)) : Con g l yX10_odds cX10_odds 9 (some FieldType.long) (rmL 8) [.ref (gA g 0 0), .int vq1, .int vq2, .int vq3, .int vq4, .int vq5] M (eJ r) M2 :=
  Con.of (own := RX10) (f := fX10_odds vq1 vq2 vq3 vq4 vq5 M) (by decide) (Nat.le_of_ble_eq_true rfl) rfl (fun x ok => wX10_odds ok vq1 vq2 vq3 vq4 vq5  M) r M2 h
def fX10_firstOtherwise_B2 (iq1 : Nat) (vq2 : Int32) (k2 : Int32 → Mem → Option (Int32 × Mem)) (vq3 : Int32) (M : Mem) : Option (Int32 × Mem) :=
  if (M 13 iq1 2) ≤ vq3 then
    (some (-1, M))
  else
    (ob (fX5_passDay 1 M) fun r1 M2 =>
    gd (inb vq2 36)
    (gd (inb vq3 40)
    (if (M2 16 1 vq2.toNatClampNeg) = (M2 14 iq1 vq3.toNatClampNeg) then
      (k2 (vq3 + 1) M2)
    else
      (some (vq3, M2)))))
def fX10_firstOtherwise_L2 (iq1 : Nat) (vq2 : Int32) : Nat → Int32 → Mem → Option (Int32 × Mem)
  | 0, _, _ => none
  | n + 1, vq3, M => fX10_firstOtherwise_B2 iq1 vq2 (fX10_firstOtherwise_L2 iq1 vq2 n) vq3 M
set_option maxRecDepth 20000 in
theorem sX10_firstOtherwise_B2 {g : GP} {l : Launch} {x : CT} (ok : Ok g l x RX10 cX10_firstOtherwise 4 (some FieldType.int) (rmL 8)) (iq1 : Nat) (vq2 : Int32) (h1 : iq1 < 4) (k2 : Int32 → Mem → Option (Int32 × Mem)) (hk2 : ∀ (vq3 : Int32) (M : Mem), Sw g l x (FinQ g x eI) 4 0 0 2 [(0, .ref (gA g 0 0)), (1, .ref (gA g 13 iq1)), (2, .int vq2), (3, .int vq3)] [] M (k2 vq3 M)) (vq3 : Int32) (M : Mem) : Sw g l x (FinQ g x eI) 4 0 0 2 [(0, .ref (gA g 0 0)), (1, .ref (gA g 13 iq1)), (2, .int vq2), (3, .int vq3)] [] M (fX10_firstOtherwise_B2 iq1 vq2 k2 vq3 M) := by
  unfold fX10_firstOtherwise_B2
  refine r_iload_n (pc := 2) ok 3 dX10_firstOtherwise_2 rfl ?_
  refine r_aload_n (pc := 3) ok 1 dX10_firstOtherwise_3 rfl ?_
  refine r_getIN (pc := 4) ok fi_13_2 h1 flN_X10_155 dX10_firstOtherwise_4 ?_
  refine r_icmp_ge (pc := 7) ok 43 dX10_firstOtherwise_7 (by decide) (fun _ => ?_) (fun _ => ?_)
  · refine r_iconst (pc := 43) ok (-1) dX10_firstOtherwise_43 (by decide) ?_
    exact r_iret (pc := 44) ok (Nat.zero_le _) (Nat.zero_le _) rfl dX10_firstOtherwise_44
  · refine r_aload_n (pc := 10) ok 0 dX10_firstOtherwise_10 rfl ?_
    refine r_getR (pc := 11) ok fr_0_5 (by decide) fl_X10_65 dX10_firstOtherwise_11 ?_
    refine r_callVN0 (pc := 14) ok [] [] 7 (fun rZ MZ hZ => con_X5_passDay g l 1 (by decide) _ rZ MZ hZ) cvN_X10_131 (ok_15 (by decide)) (rmOk_L (by decide) (by decide)) dX10_firstOtherwise_14 rfl rfl (Nat.le_of_ble_eq_true rfl) (fun r1 M2 => ?_)
    refine r_aload_n (pc := 17) ok 0 dX10_firstOtherwise_17 rfl ?_
    refine r_getR (pc := 18) ok fr_0_5 (by decide) fl_X10_65 dX10_firstOtherwise_18 ?_
    refine r_getRN (pc := 21) ok fr_15_2 (by decide) flN_X10_95 dX10_firstOtherwise_21 ?_
    refine r_iload_n (pc := 24) ok 2 dX10_firstOtherwise_24 rfl ?_
    refine r_iald (pc := 25) ok ik_16 (by decide) dX10_firstOtherwise_25 (fun _ => ?_)
    refine r_aload_n (pc := 26) ok 1 dX10_firstOtherwise_26 rfl ?_
    refine r_getRN (pc := 27) ok fr_13_0 h1 flN_X10_156 dX10_firstOtherwise_27 ?_
    refine r_iload_n (pc := 30) ok 3 dX10_firstOtherwise_30 rfl ?_
    refine r_iald (pc := 31) ok ik_14 h1 dX10_firstOtherwise_31 (fun _ => ?_)
    refine r_icmp_eq (pc := 32) ok 37 dX10_firstOtherwise_32 (by decide) (fun _ => ?_) (fun _ => ?_)
    · refine r_iinc (pc := 37) ok 3 (vq3 + 1) [(3, .int (vq3 + 1)), (0, .ref (gA g 0 0)), (1, .ref (gA g 13 iq1)), (2, .int vq2)] dX10_firstOtherwise_37 rfl (congrArg (fun z => vq3 + z) (by decide : Int32.ofInt 1 = (1 : Int32))) (by decide) rfl ?_
      refine r_goto (pc := 40) ok 2 dX10_firstOtherwise_40 (by decide) ?_
      refine r_lv [1, 2, 3, 0] [(0, .ref (gA g 0 0)), (1, .ref (gA g 13 iq1)), (2, .int vq2), (3, .int (vq3 + 1))] rfl ?_
      exact hk2 (vq3 + 1) M2
    · refine r_iload_n (pc := 35) ok 3 dX10_firstOtherwise_35 rfl ?_
      exact r_iret (pc := 36) ok (Nat.zero_le _) (Nat.zero_le _) rfl dX10_firstOtherwise_36
theorem sX10_firstOtherwise_L2 {g : GP} {l : Launch} {x : CT} (ok : Ok g l x RX10 cX10_firstOtherwise 4 (some FieldType.int) (rmL 8)) (iq1 : Nat) (vq2 : Int32) (h1 : iq1 < 4) : ∀ (n : Nat) (vq3 : Int32) (M : Mem), Sw g l x (FinQ g x eI) 4 0 0 2 [(0, .ref (gA g 0 0)), (1, .ref (gA g 13 iq1)), (2, .int vq2), (3, .int vq3)] [] M (fX10_firstOtherwise_L2 iq1 vq2 n vq3 M) := by
  intro n
  induction n with
  | zero => intros; exact r_none
  | succ n ih => intro vq3 M; exact sX10_firstOtherwise_B2 ok iq1 vq2 h1 _ ih vq3 M
def fX10_firstOtherwise (iq1 : Nat) (vq2 : Int32) (M : Mem) : Option (Int32 × Mem) :=
  fX10_firstOtherwise_L2 iq1 vq2 FU 0 M
set_option maxRecDepth 20000 in
theorem wX10_firstOtherwise {g : GP} {l : Launch} {x : CT} (ok : Ok g l x RX10 cX10_firstOtherwise 4 (some FieldType.int) (rmL 8)) (iq1 : Nat) (vq2 : Int32) (hq1 : iq1 < 4) (M : Mem) : Sw g l x (FinQ g x eI) 4 0 0 0 [(0, .ref (gA g 0 0)), (1, .ref (gA g 13 iq1)), (2, .int vq2)] [] M (fX10_firstOtherwise iq1 vq2 M) := by
  unfold fX10_firstOtherwise
  refine r_iconst (pc := 0) ok 0 dX10_firstOtherwise_0 (by decide) ?_
  refine r_istore_n (pc := 1) ok [(3, .int 0), (0, .ref (gA g 0 0)), (1, .ref (gA g 13 iq1)), (2, .int vq2)] dX10_firstOtherwise_1 rfl (by decide) rfl ?_
  refine r_lv [1, 2, 3, 0] [(0, .ref (gA g 0 0)), (1, .ref (gA g 13 iq1)), (2, .int vq2), (3, .int 0)] rfl ?_
  exact sX10_firstOtherwise_L2 ok iq1 vq2 hq1 FU 0 M
theorem con_X10_firstOtherwise (g : GP) (l : Launch) (iq1 : Nat) (vq2 : Int32) (hq1 : iq1 < 4) (M : Mem) (r : Int32) (M2 : Mem) (h : fX10_firstOtherwise iq1 vq2 M = some (r, M2)) : Con g l yX10_firstOtherwise cX10_firstOtherwise 4 (some FieldType.int) (rmL 8) [.ref (gA g 0 0), .ref (gA g 13 iq1), .int vq2] M (eI r) M2 :=
  Con.of (own := RX10) (f := fX10_firstOtherwise iq1 vq2 M) (by decide) (Nat.le_of_ble_eq_true rfl) rfl (fun x ok => wX10_firstOtherwise ok iq1 vq2 hq1 M) r M2 h
def fX11_turn_J83 (k35 : Int32 → Int32 → Int32 → Mem → Option (Int32 × Mem)) (vq1 : Int32) (vq2 : Int32) (vq4 : Int32) (vq5 : Int32) (vq6 : Int32) (vq7 : Int32) (s0 : Int32) (M : Mem) : Option (Int32 × Mem) :=
  if vq7 = 0 then
    (k35 s0 vq4 (vq5 + 1) M)
  else
    (k35 s0 vq6 (vq5 + 1) M)
set_option maxRecDepth 20000 in
theorem sX11_turn_J83 {g : GP} {l : Launch} {x : CT} {k35 : Int32 → Int32 → Int32 → Mem → Option (Int32 × Mem)} (ok : Ok g l x RX11 cX11_turn 8 (some FieldType.int) (rmL 8)) (vq1 : Int32) (vq2 : Int32) (vq4 : Int32) (vq5 : Int32) (vq6 : Int32) (vq7 : Int32) (s0 : Int32)  (hk35 : ∀ (vq3 : Int32) (vq4 : Int32) (vq5 : Int32) (M : Mem), Sw g l x (FinQ g x eI) 8 0 0 35 [(0, .ref (gA g 22 0)), (1, .int vq1), (2, .int vq2), (3, .int vq3), (4, .int vq4), (5, .int vq5)] [] M (k35 vq3 vq4 vq5 M)) (M : Mem) : Sw g l x (FinQ g x eI) 8 0 0 83 [(0, .ref (gA g 22 0)), (1, .int vq1), (2, .int vq2), (4, .int vq4), (5, .int vq5), (6, .int vq6), (7, .int vq7)] [.int s0] M (fX11_turn_J83 k35 vq1 vq2 vq4 vq5 vq6 vq7 s0 M) := by
  unfold fX11_turn_J83
  refine r_istore_n (pc := 83) ok [(3, .int s0), (0, .ref (gA g 22 0)), (1, .int vq1), (2, .int vq2), (4, .int vq4), (5, .int vq5), (6, .int vq6), (7, .int vq7)] dX11_turn_83 rfl (by decide) rfl ?_
  refine r_iload (pc := 84) ok 7 dX11_turn_84 rfl ?_
  refine r_if_eq (pc := 86) ok 94 dX11_turn_86 (by decide) (fun _ => ?_) (fun _ => ?_)
  · refine r_iload (pc := 94) ok 4 dX11_turn_94 rfl ?_
    refine r_istore (pc := 96) ok [(4, .int vq4), (3, .int s0), (0, .ref (gA g 22 0)), (1, .int vq1), (2, .int vq2), (5, .int vq5), (6, .int vq6), (7, .int vq7)] dX11_turn_96 (by decide) rfl ?_
    refine r_iinc (pc := 98) ok 5 (vq5 + 1) [(5, .int (vq5 + 1)), (4, .int vq4), (3, .int s0), (0, .ref (gA g 22 0)), (1, .int vq1), (2, .int vq2), (6, .int vq6), (7, .int vq7)] dX11_turn_98 rfl (congrArg (fun z => vq5 + z) (by decide : Int32.ofInt 1 = (1 : Int32))) (by decide) rfl ?_
    refine r_goto (pc := 101) ok 35 dX11_turn_101 (by decide) ?_
    refine r_lv [3, 4, 5, 2, 1, 0] [(0, .ref (gA g 22 0)), (1, .int vq1), (2, .int vq2), (3, .int s0), (4, .int vq4), (5, .int (vq5 + 1))] rfl ?_
    exact hk35 s0 vq4 (vq5 + 1) M
  · refine r_iload (pc := 89) ok 6 dX11_turn_89 rfl ?_
    refine r_goto (pc := 91) ok 96 dX11_turn_91 (by decide) ?_
    refine r_istore (pc := 96) ok [(4, .int vq6), (3, .int s0), (0, .ref (gA g 22 0)), (1, .int vq1), (2, .int vq2), (5, .int vq5), (6, .int vq6), (7, .int vq7)] dX11_turn_96 (by decide) rfl ?_
    refine r_iinc (pc := 98) ok 5 (vq5 + 1) [(5, .int (vq5 + 1)), (4, .int vq6), (3, .int s0), (0, .ref (gA g 22 0)), (1, .int vq1), (2, .int vq2), (6, .int vq6), (7, .int vq7)] dX11_turn_98 rfl (congrArg (fun z => vq5 + z) (by decide : Int32.ofInt 1 = (1 : Int32))) (by decide) rfl ?_
    refine r_goto (pc := 101) ok 35 dX11_turn_101 (by decide) ?_
    refine r_lv [3, 4, 5, 2, 1, 0] [(0, .ref (gA g 22 0)), (1, .int vq1), (2, .int vq2), (3, .int s0), (4, .int vq6), (5, .int (vq5 + 1))] rfl ?_
    exact hk35 s0 vq6 (vq5 + 1) M
def fX11_turn_J70 (k35 : Int32 → Int32 → Int32 → Mem → Option (Int32 × Mem)) (vq1 : Int32) (vq2 : Int32) (vq3 : Int32) (vq4 : Int32) (vq5 : Int32) (vq6 : Int32) (s0 : Int32) (M : Mem) : Option (Int32 × Mem) :=
  if s0 = 0 then
    (fX11_turn_J83 k35 vq1 vq2 vq4 vq5 vq6 s0 vq3 M)
  else
    (fX11_turn_J83 k35 vq1 vq2 vq4 vq5 vq6 s0 vq5 M)
set_option maxRecDepth 20000 in
theorem sX11_turn_J70 {g : GP} {l : Launch} {x : CT} {k35 : Int32 → Int32 → Int32 → Mem → Option (Int32 × Mem)} (ok : Ok g l x RX11 cX11_turn 8 (some FieldType.int) (rmL 8)) (vq1 : Int32) (vq2 : Int32) (vq3 : Int32) (vq4 : Int32) (vq5 : Int32) (vq6 : Int32) (s0 : Int32)  (hk35 : ∀ (vq3 : Int32) (vq4 : Int32) (vq5 : Int32) (M : Mem), Sw g l x (FinQ g x eI) 8 0 0 35 [(0, .ref (gA g 22 0)), (1, .int vq1), (2, .int vq2), (3, .int vq3), (4, .int vq4), (5, .int vq5)] [] M (k35 vq3 vq4 vq5 M)) (M : Mem) : Sw g l x (FinQ g x eI) 8 0 0 70 [(0, .ref (gA g 22 0)), (1, .int vq1), (2, .int vq2), (3, .int vq3), (4, .int vq4), (5, .int vq5), (6, .int vq6)] [.int s0] M (fX11_turn_J70 k35 vq1 vq2 vq3 vq4 vq5 vq6 s0 M) := by
  unfold fX11_turn_J70
  refine r_istore (pc := 70) ok [(7, .int s0), (0, .ref (gA g 22 0)), (1, .int vq1), (2, .int vq2), (3, .int vq3), (4, .int vq4), (5, .int vq5), (6, .int vq6)] dX11_turn_70 (by decide) rfl ?_
  refine r_iload (pc := 72) ok 0 dX11_turn_72 rfl ?_
  refine r_if_eq (pc := 74) ok 82 dX11_turn_74 (by decide) (fun _ => ?_) (fun _ => ?_)
  · refine r_iload_n (pc := 82) ok 4 dX11_turn_82 rfl ?_
    refine r_lv [1, 2, 3, 5, 6, 7, 0] [(0, .ref (gA g 22 0)), (1, .int vq1), (2, .int vq2), (4, .int vq4), (5, .int vq5), (6, .int vq6), (7, .int s0)] rfl ?_
    exact sX11_turn_J83 ok vq1 vq2 vq4 vq5 vq6 s0 vq3 hk35 M
  · refine r_iload (pc := 77) ok 6 dX11_turn_77 rfl ?_
    refine r_goto (pc := 79) ok 83 dX11_turn_79 (by decide) ?_
    refine r_lv [1, 2, 3, 5, 6, 7, 0] [(0, .ref (gA g 22 0)), (1, .int vq1), (2, .int vq2), (4, .int vq4), (5, .int vq5), (6, .int vq6), (7, .int s0)] rfl ?_
    exact sX11_turn_J83 ok vq1 vq2 vq4 vq5 vq6 s0 vq5 hk35 M
def fX11_turn_J65 (k35 : Int32 → Int32 → Int32 → Mem → Option (Int32 × Mem)) (vq1 : Int32) (vq2 : Int32) (vq3 : Int32) (vq4 : Int32) (vq5 : Int32) (vq6 : Int32) (M : Mem) : Option (Int32 × Mem) :=
  fX11_turn_J70 k35 vq1 vq2 vq3 vq4 vq5 vq6 1 M
set_option maxRecDepth 20000 in
theorem sX11_turn_J65 {g : GP} {l : Launch} {x : CT} {k35 : Int32 → Int32 → Int32 → Mem → Option (Int32 × Mem)} (ok : Ok g l x RX11 cX11_turn 8 (some FieldType.int) (rmL 8)) (vq1 : Int32) (vq2 : Int32) (vq3 : Int32) (vq4 : Int32) (vq5 : Int32) (vq6 : Int32)  (hk35 : ∀ (vq3 : Int32) (vq4 : Int32) (vq5 : Int32) (M : Mem), Sw g l x (FinQ g x eI) 8 0 0 35 [(0, .ref (gA g 22 0)), (1, .int vq1), (2, .int vq2), (3, .int vq3), (4, .int vq4), (5, .int vq5)] [] M (k35 vq3 vq4 vq5 M)) (M : Mem) : Sw g l x (FinQ g x eI) 8 0 0 65 [(0, .ref (gA g 22 0)), (1, .int vq1), (2, .int vq2), (3, .int vq3), (4, .int vq4), (5, .int vq5), (6, .int vq6)] [] M (fX11_turn_J65 k35 vq1 vq2 vq3 vq4 vq5 vq6 M) := by
  unfold fX11_turn_J65
  refine r_iconst (pc := 65) ok 1 dX11_turn_65 (by decide) ?_
  refine r_goto (pc := 66) ok 70 dX11_turn_66 (by decide) ?_
  refine r_lv [0, 1, 2, 3, 4, 5, 6] [(0, .ref (gA g 22 0)), (1, .int vq1), (2, .int vq2), (3, .int vq3), (4, .int vq4), (5, .int vq5), (6, .int vq6)] rfl ?_
  exact sX11_turn_J70 ok vq1 vq2 vq3 vq4 vq5 vq6 1 hk35 M
def fX11_turn_B35 (vq1 : Int32) (vq2 : Int32) (k35 : Int32 → Int32 → Int32 → Mem → Option (Int32 × Mem)) (vq3 : Int32) (vq4 : Int32) (vq5 : Int32) (M : Mem) : Option (Int32 × Mem) :=
  if (M 22 0 0) ≤ vq5 then
    (if vq2 = 0 then
      (some (vq3, M))
    else
      (some (vq4, M)))
  else
    (ob (fX11_allWithout vq5 vq1 M) fun r7 M8 =>
    if vq3 = (-1) then
      (fX11_turn_J65 k35 vq1 vq2 vq3 vq4 vq5 r7 M8)
    else
      (if vq4 ≤ r7 then
        (fX11_turn_J70 k35 vq1 vq2 vq3 vq4 vq5 r7 0 M8)
      else
        (fX11_turn_J65 k35 vq1 vq2 vq3 vq4 vq5 r7 M8)))
def fX11_turn_L35 (vq1 : Int32) (vq2 : Int32) : Nat → Int32 → Int32 → Int32 → Mem → Option (Int32 × Mem)
  | 0, _, _, _, _ => none
  | n + 1, vq3, vq4, vq5, M => fX11_turn_B35 vq1 vq2 (fX11_turn_L35 vq1 vq2 n) vq3 vq4 vq5 M
set_option maxRecDepth 20000 in
theorem sX11_turn_B35 {g : GP} {l : Launch} {x : CT} (ok : Ok g l x RX11 cX11_turn 8 (some FieldType.int) (rmL 8)) (vq1 : Int32) (vq2 : Int32)  (k35 : Int32 → Int32 → Int32 → Mem → Option (Int32 × Mem)) (hk35 : ∀ (vq3 : Int32) (vq4 : Int32) (vq5 : Int32) (M : Mem), Sw g l x (FinQ g x eI) 8 0 0 35 [(0, .ref (gA g 22 0)), (1, .int vq1), (2, .int vq2), (3, .int vq3), (4, .int vq4), (5, .int vq5)] [] M (k35 vq3 vq4 vq5 M)) (vq3 : Int32) (vq4 : Int32) (vq5 : Int32) (M : Mem) : Sw g l x (FinQ g x eI) 8 0 0 35 [(0, .ref (gA g 22 0)), (1, .int vq1), (2, .int vq2), (3, .int vq3), (4, .int vq4), (5, .int vq5)] [] M (fX11_turn_B35 vq1 vq2 k35 vq3 vq4 vq5 M) := by
  unfold fX11_turn_B35
  refine r_iload (pc := 35) ok 5 dX11_turn_35 rfl ?_
  refine r_aload_n (pc := 37) ok 0 dX11_turn_37 rfl ?_
  refine r_getI (pc := 38) ok fi_22_0 (by decide) fl_X11_81 dX11_turn_38 ?_
  refine r_icmp_ge (pc := 41) ok 104 dX11_turn_41 (by decide) (fun _ => ?_) (fun _ => ?_)
  · refine r_iload_n (pc := 104) ok 2 dX11_turn_104 rfl ?_
    refine r_if_ne (pc := 105) ok 112 dX11_turn_105 (by decide) (fun _ => ?_) (fun _ => ?_)
    · refine r_iload_n (pc := 108) ok 3 dX11_turn_108 rfl ?_
      refine r_goto (pc := 109) ok 114 dX11_turn_109 (by decide) ?_
      exact r_iret (pc := 114) ok (Nat.zero_le _) (Nat.zero_le _) rfl dX11_turn_114
    · refine r_iload (pc := 112) ok 4 dX11_turn_112 rfl ?_
      exact r_iret (pc := 114) ok (Nat.zero_le _) (Nat.zero_le _) rfl dX11_turn_114
  · refine r_aload_n (pc := 44) ok 0 dX11_turn_44 rfl ?_
    refine r_iload (pc := 45) ok 5 dX11_turn_45 rfl ?_
    refine r_iload_n (pc := 47) ok 1 dX11_turn_47 rfl ?_
    refine r_callV0 (pc := 48) ok [.int vq5, .int vq1] [] 7 (fun rZ MZ hZ => con_X11_allWithout g l vq5 vq1 _ rZ MZ hZ) cv_X11_235 ok_22 (rmOk_L (by decide) (by decide)) dX11_turn_48 rfl rfl (Nat.le_of_ble_eq_true rfl) (fun r7 M8 => ?_)
    refine r_istore (pc := 51) ok [(6, .int r7), (0, .ref (gA g 22 0)), (1, .int vq1), (2, .int vq2), (3, .int vq3), (4, .int vq4), (5, .int vq5)] dX11_turn_51 (by decide) rfl ?_
    refine r_iload_n (pc := 53) ok 4 dX11_turn_53 rfl ?_
    refine r_iconst (pc := 54) ok (-1) dX11_turn_54 (by decide) ?_
    refine r_icmp_eq (pc := 55) ok 65 dX11_turn_55 (by decide) (fun _ => ?_) (fun _ => ?_)
    · refine r_lv [1, 2, 3, 4, 5, 6, 0] [(0, .ref (gA g 22 0)), (1, .int vq1), (2, .int vq2), (3, .int vq3), (4, .int vq4), (5, .int vq5), (6, .int r7)] rfl ?_
      exact sX11_turn_J65 ok vq1 vq2 vq3 vq4 vq5 r7 hk35 M8
    · refine r_iload (pc := 58) ok 0 dX11_turn_58 rfl ?_
      refine r_iload (pc := 60) ok 5 dX11_turn_60 rfl ?_
      refine r_icmp_ge (pc := 62) ok 69 dX11_turn_62 (by decide) (fun _ => ?_) (fun _ => ?_)
      · refine r_iconst (pc := 69) ok 0 dX11_turn_69 (by decide) ?_
        refine r_lv [1, 2, 3, 4, 5, 6, 0] [(0, .ref (gA g 22 0)), (1, .int vq1), (2, .int vq2), (3, .int vq3), (4, .int vq4), (5, .int vq5), (6, .int r7)] rfl ?_
        exact sX11_turn_J70 ok vq1 vq2 vq3 vq4 vq5 r7 0 hk35 M8
      · refine r_lv [1, 2, 3, 4, 5, 6, 0] [(0, .ref (gA g 22 0)), (1, .int vq1), (2, .int vq2), (3, .int vq3), (4, .int vq4), (5, .int vq5), (6, .int r7)] rfl ?_
        exact sX11_turn_J65 ok vq1 vq2 vq3 vq4 vq5 r7 hk35 M8
theorem sX11_turn_L35 {g : GP} {l : Launch} {x : CT} (ok : Ok g l x RX11 cX11_turn 8 (some FieldType.int) (rmL 8)) (vq1 : Int32) (vq2 : Int32)  : ∀ (n : Nat) (vq3 : Int32) (vq4 : Int32) (vq5 : Int32) (M : Mem), Sw g l x (FinQ g x eI) 8 0 0 35 [(0, .ref (gA g 22 0)), (1, .int vq1), (2, .int vq2), (3, .int vq3), (4, .int vq4), (5, .int vq5)] [] M (fX11_turn_L35 vq1 vq2 n vq3 vq4 vq5 M) := by
  intro n
  induction n with
  | zero => intros; exact r_none
  | succ n ih => intro vq3 vq4 vq5 M; exact sX11_turn_B35 ok vq1 vq2  _ ih vq3 vq4 vq5 M
def fX11_turn (vq1 : Int32) (vq2 : Int32) (M : Mem) : Option (Int32 × Mem) :=
  ob (fX11_in vq1 0 40 M) fun r1 M2 =>
  if r1 = 0 then
    (some (-2, M2))
  else
    (ob (fX11_in vq2 0 1 M2) fun r3 M4 =>
    if r3 = 0 then
      (some (-2, M4))
    else
      (ob (fX11_allWithout (-1) vq1 M4) fun r5 M6 =>
      fX11_turn_L35 vq1 vq2 FU (-1) r5 0 M6))
set_option maxRecDepth 20000 in
theorem wX11_turn {g : GP} {l : Launch} {x : CT} (ok : Ok g l x RX11 cX11_turn 8 (some FieldType.int) (rmL 8)) (vq1 : Int32) (vq2 : Int32)  (M : Mem) : Sw g l x (FinQ g x eI) 8 0 0 0 [(0, .ref (gA g 22 0)), (1, .int vq1), (2, .int vq2)] [] M (fX11_turn vq1 vq2 M) := by
  unfold fX11_turn
  refine r_iload_n (pc := 0) ok 1 dX11_turn_0 rfl ?_
  refine r_iconst (pc := 1) ok 0 dX11_turn_1 (by decide) ?_
  refine r_bipush (pc := 2) ok 40 dX11_turn_2 (by decide) ?_
  refine r_callS0 (pc := 4) ok [.int vq1, .int 0, .int 40] [] 2 (fun rZ MZ hZ => con_X11_in g l vq1 0 40 _ rZ MZ hZ) cs_X11_84 (rmOk_L (by decide) (by decide)) dX11_turn_4 rfl rfl (Nat.le_of_ble_eq_true rfl) (fun r1 M2 => ?_)
  refine r_if_eq (pc := 7) ok 19 dX11_turn_7 (by decide) (fun _ => ?_) (fun _ => ?_)
  · refine r_bipush (pc := 19) ok (-2) dX11_turn_19 (by decide) ?_
    exact r_iret (pc := 21) ok (Nat.zero_le _) (Nat.zero_le _) rfl dX11_turn_21
  · refine r_iload_n (pc := 10) ok 2 dX11_turn_10 rfl ?_
    refine r_iconst (pc := 11) ok 0 dX11_turn_11 (by decide) ?_
    refine r_iconst (pc := 12) ok 1 dX11_turn_12 (by decide) ?_
    refine r_callS0 (pc := 13) ok [.int vq2, .int 0, .int 1] [] 2 (fun rZ MZ hZ => con_X11_in g l vq2 0 1 _ rZ MZ hZ) cs_X11_84 (rmOk_L (by decide) (by decide)) dX11_turn_13 rfl rfl (Nat.le_of_ble_eq_true rfl) (fun r3 M4 => ?_)
    refine r_if_ne (pc := 16) ok 22 dX11_turn_16 (by decide) (fun _ => ?_) (fun _ => ?_)
    · refine r_bipush (pc := 19) ok (-2) dX11_turn_19 (by decide) ?_
      exact r_iret (pc := 21) ok (Nat.zero_le _) (Nat.zero_le _) rfl dX11_turn_21
    · refine r_iconst (pc := 22) ok (-1) dX11_turn_22 (by decide) ?_
      refine r_istore_n (pc := 23) ok [(3, .int (-1)), (0, .ref (gA g 22 0)), (1, .int vq1), (2, .int vq2)] dX11_turn_23 rfl (by decide) rfl ?_
      refine r_aload_n (pc := 24) ok 1 dX11_turn_24 rfl ?_
      refine r_iconst (pc := 25) ok (-1) dX11_turn_25 (by decide) ?_
      refine r_iload_n (pc := 26) ok 2 dX11_turn_26 rfl ?_
      refine r_callV0 (pc := 27) ok [.int (-1), .int vq1] [] 7 (fun rZ MZ hZ => con_X11_allWithout g l (-1) vq1 _ rZ MZ hZ) cv_X11_235 ok_22 (rmOk_L (by decide) (by decide)) dX11_turn_27 rfl rfl (Nat.le_of_ble_eq_true rfl) (fun r5 M6 => ?_)
      refine r_istore (pc := 30) ok [(4, .int r5), (3, .int (-1)), (0, .ref (gA g 22 0)), (1, .int vq1), (2, .int vq2)] dX11_turn_30 (by decide) rfl ?_
      refine r_iconst (pc := 32) ok 0 dX11_turn_32 (by decide) ?_
      refine r_istore (pc := 33) ok [(5, .int 0), (4, .int r5), (3, .int (-1)), (0, .ref (gA g 22 0)), (1, .int vq1), (2, .int vq2)] dX11_turn_33 (by decide) rfl ?_
      refine r_lv [3, 4, 5, 2, 1, 0] [(0, .ref (gA g 22 0)), (1, .int vq1), (2, .int vq2), (3, .int (-1)), (4, .int r5), (5, .int 0)] rfl ?_
      exact sX11_turn_L35 ok vq1 vq2 FU (-1) r5 0 M6
theorem con_X11_turn (g : GP) (l : Launch) (vq1 : Int32) (vq2 : Int32)  (M : Mem) (r : Int32) (M2 : Mem) (h : fX11_turn vq1 vq2 M = some (r, M2)) : Con g l yX11_turn cX11_turn 8 (some FieldType.int) (rmL 8) [.ref (gA g 22 0), .int vq1, .int vq2] M (eI r) M2 :=
  Con.of (own := RX11) (f := fX11_turn vq1 vq2 M) (by decide) (Nat.le_of_ble_eq_true rfl) rfl (fun x ok => wX11_turn ok vq1 vq2  M) r M2 h
def fX11_seats_J104 (k50 : Int32 → Int32 → Int32 → Mem → Option (Int32 × Mem)) (vq1 : Int32) (vq2 : Int32) (vq3 : Int32) (vq4 : Int32) (vq6 : Int32) (vq7 : Int32) (vq8 : Int32) (vq9 : Int32) (s0 : Int32) (M : Mem) : Option (Int32 × Mem) :=
  if vq9 = 0 then
    (k50 s0 vq6 (vq7 + 1) M)
  else
    (k50 s0 vq8 (vq7 + 1) M)
set_option maxRecDepth 20000 in
theorem sX11_seats_J104 {g : GP} {l : Launch} {x : CT} {k50 : Int32 → Int32 → Int32 → Mem → Option (Int32 × Mem)} (ok : Ok g l x RX11 cX11_seats 10 (some FieldType.int) (rmL 8)) (vq1 : Int32) (vq2 : Int32) (vq3 : Int32) (vq4 : Int32) (vq6 : Int32) (vq7 : Int32) (vq8 : Int32) (vq9 : Int32) (s0 : Int32)  (hk50 : ∀ (vq5 : Int32) (vq6 : Int32) (vq7 : Int32) (M : Mem), Sw g l x (FinQ g x eI) 10 0 0 50 [(0, .ref (gA g 22 0)), (1, .int vq1), (2, .int vq2), (3, .int vq3), (4, .int vq4), (5, .int vq5), (6, .int vq6), (7, .int vq7)] [] M (k50 vq5 vq6 vq7 M)) (M : Mem) : Sw g l x (FinQ g x eI) 10 0 0 104 [(0, .ref (gA g 22 0)), (1, .int vq1), (2, .int vq2), (3, .int vq3), (4, .int vq4), (6, .int vq6), (7, .int vq7), (8, .int vq8), (9, .int vq9)] [.int s0] M (fX11_seats_J104 k50 vq1 vq2 vq3 vq4 vq6 vq7 vq8 vq9 s0 M) := by
  unfold fX11_seats_J104
  refine r_istore (pc := 104) ok [(5, .int s0), (0, .ref (gA g 22 0)), (1, .int vq1), (2, .int vq2), (3, .int vq3), (4, .int vq4), (6, .int vq6), (7, .int vq7), (8, .int vq8), (9, .int vq9)] dX11_seats_104 (by decide) rfl ?_
  refine r_iload (pc := 106) ok 9 dX11_seats_106 rfl ?_
  refine r_if_eq (pc := 108) ok 116 dX11_seats_108 (by decide) (fun _ => ?_) (fun _ => ?_)
  · refine r_iload (pc := 116) ok 6 dX11_seats_116 rfl ?_
    refine r_istore (pc := 118) ok [(6, .int vq6), (5, .int s0), (0, .ref (gA g 22 0)), (1, .int vq1), (2, .int vq2), (3, .int vq3), (4, .int vq4), (7, .int vq7), (8, .int vq8), (9, .int vq9)] dX11_seats_118 (by decide) rfl ?_
    refine r_iinc (pc := 120) ok 7 (vq7 + 1) [(7, .int (vq7 + 1)), (6, .int vq6), (5, .int s0), (0, .ref (gA g 22 0)), (1, .int vq1), (2, .int vq2), (3, .int vq3), (4, .int vq4), (8, .int vq8), (9, .int vq9)] dX11_seats_120 rfl (congrArg (fun z => vq7 + z) (by decide : Int32.ofInt 1 = (1 : Int32))) (by decide) rfl ?_
    refine r_goto (pc := 123) ok 50 dX11_seats_123 (by decide) ?_
    refine r_lv [3, 4, 5, 6, 7, 2, 1, 0] [(0, .ref (gA g 22 0)), (1, .int vq1), (2, .int vq2), (3, .int vq3), (4, .int vq4), (5, .int s0), (6, .int vq6), (7, .int (vq7 + 1))] rfl ?_
    exact hk50 s0 vq6 (vq7 + 1) M
  · refine r_iload (pc := 111) ok 8 dX11_seats_111 rfl ?_
    refine r_goto (pc := 113) ok 118 dX11_seats_113 (by decide) ?_
    refine r_istore (pc := 118) ok [(6, .int vq8), (5, .int s0), (0, .ref (gA g 22 0)), (1, .int vq1), (2, .int vq2), (3, .int vq3), (4, .int vq4), (7, .int vq7), (8, .int vq8), (9, .int vq9)] dX11_seats_118 (by decide) rfl ?_
    refine r_iinc (pc := 120) ok 7 (vq7 + 1) [(7, .int (vq7 + 1)), (6, .int vq8), (5, .int s0), (0, .ref (gA g 22 0)), (1, .int vq1), (2, .int vq2), (3, .int vq3), (4, .int vq4), (8, .int vq8), (9, .int vq9)] dX11_seats_120 rfl (congrArg (fun z => vq7 + z) (by decide : Int32.ofInt 1 = (1 : Int32))) (by decide) rfl ?_
    refine r_goto (pc := 123) ok 50 dX11_seats_123 (by decide) ?_
    refine r_lv [3, 4, 5, 6, 7, 2, 1, 0] [(0, .ref (gA g 22 0)), (1, .int vq1), (2, .int vq2), (3, .int vq3), (4, .int vq4), (5, .int s0), (6, .int vq8), (7, .int (vq7 + 1))] rfl ?_
    exact hk50 s0 vq8 (vq7 + 1) M
def fX11_seats_J90 (k50 : Int32 → Int32 → Int32 → Mem → Option (Int32 × Mem)) (vq1 : Int32) (vq2 : Int32) (vq3 : Int32) (vq4 : Int32) (vq5 : Int32) (vq6 : Int32) (vq7 : Int32) (vq8 : Int32) (s0 : Int32) (M : Mem) : Option (Int32 × Mem) :=
  if s0 = 0 then
    (fX11_seats_J104 k50 vq1 vq2 vq3 vq4 vq6 vq7 vq8 s0 vq5 M)
  else
    (fX11_seats_J104 k50 vq1 vq2 vq3 vq4 vq6 vq7 vq8 s0 vq7 M)
set_option maxRecDepth 20000 in
theorem sX11_seats_J90 {g : GP} {l : Launch} {x : CT} {k50 : Int32 → Int32 → Int32 → Mem → Option (Int32 × Mem)} (ok : Ok g l x RX11 cX11_seats 10 (some FieldType.int) (rmL 8)) (vq1 : Int32) (vq2 : Int32) (vq3 : Int32) (vq4 : Int32) (vq5 : Int32) (vq6 : Int32) (vq7 : Int32) (vq8 : Int32) (s0 : Int32)  (hk50 : ∀ (vq5 : Int32) (vq6 : Int32) (vq7 : Int32) (M : Mem), Sw g l x (FinQ g x eI) 10 0 0 50 [(0, .ref (gA g 22 0)), (1, .int vq1), (2, .int vq2), (3, .int vq3), (4, .int vq4), (5, .int vq5), (6, .int vq6), (7, .int vq7)] [] M (k50 vq5 vq6 vq7 M)) (M : Mem) : Sw g l x (FinQ g x eI) 10 0 0 90 [(0, .ref (gA g 22 0)), (1, .int vq1), (2, .int vq2), (3, .int vq3), (4, .int vq4), (5, .int vq5), (6, .int vq6), (7, .int vq7), (8, .int vq8)] [.int s0] M (fX11_seats_J90 k50 vq1 vq2 vq3 vq4 vq5 vq6 vq7 vq8 s0 M) := by
  unfold fX11_seats_J90
  refine r_istore (pc := 90) ok [(9, .int s0), (0, .ref (gA g 22 0)), (1, .int vq1), (2, .int vq2), (3, .int vq3), (4, .int vq4), (5, .int vq5), (6, .int vq6), (7, .int vq7), (8, .int vq8)] dX11_seats_90 (by decide) rfl ?_
  refine r_iload (pc := 92) ok 0 dX11_seats_92 rfl ?_
  refine r_if_eq (pc := 94) ok 102 dX11_seats_94 (by decide) (fun _ => ?_) (fun _ => ?_)
  · refine r_iload (pc := 102) ok 6 dX11_seats_102 rfl ?_
    refine r_lv [1, 2, 3, 4, 5, 7, 8, 9, 0] [(0, .ref (gA g 22 0)), (1, .int vq1), (2, .int vq2), (3, .int vq3), (4, .int vq4), (6, .int vq6), (7, .int vq7), (8, .int vq8), (9, .int s0)] rfl ?_
    exact sX11_seats_J104 ok vq1 vq2 vq3 vq4 vq6 vq7 vq8 s0 vq5 hk50 M
  · refine r_iload (pc := 97) ok 8 dX11_seats_97 rfl ?_
    refine r_goto (pc := 99) ok 104 dX11_seats_99 (by decide) ?_
    refine r_lv [1, 2, 3, 4, 5, 7, 8, 9, 0] [(0, .ref (gA g 22 0)), (1, .int vq1), (2, .int vq2), (3, .int vq3), (4, .int vq4), (6, .int vq6), (7, .int vq7), (8, .int vq8), (9, .int s0)] rfl ?_
    exact sX11_seats_J104 ok vq1 vq2 vq3 vq4 vq6 vq7 vq8 s0 vq7 hk50 M
def fX11_seats_J85 (k50 : Int32 → Int32 → Int32 → Mem → Option (Int32 × Mem)) (vq1 : Int32) (vq2 : Int32) (vq3 : Int32) (vq4 : Int32) (vq5 : Int32) (vq6 : Int32) (vq7 : Int32) (vq8 : Int32) (M : Mem) : Option (Int32 × Mem) :=
  fX11_seats_J90 k50 vq1 vq2 vq3 vq4 vq5 vq6 vq7 vq8 1 M
set_option maxRecDepth 20000 in
theorem sX11_seats_J85 {g : GP} {l : Launch} {x : CT} {k50 : Int32 → Int32 → Int32 → Mem → Option (Int32 × Mem)} (ok : Ok g l x RX11 cX11_seats 10 (some FieldType.int) (rmL 8)) (vq1 : Int32) (vq2 : Int32) (vq3 : Int32) (vq4 : Int32) (vq5 : Int32) (vq6 : Int32) (vq7 : Int32) (vq8 : Int32)  (hk50 : ∀ (vq5 : Int32) (vq6 : Int32) (vq7 : Int32) (M : Mem), Sw g l x (FinQ g x eI) 10 0 0 50 [(0, .ref (gA g 22 0)), (1, .int vq1), (2, .int vq2), (3, .int vq3), (4, .int vq4), (5, .int vq5), (6, .int vq6), (7, .int vq7)] [] M (k50 vq5 vq6 vq7 M)) (M : Mem) : Sw g l x (FinQ g x eI) 10 0 0 85 [(0, .ref (gA g 22 0)), (1, .int vq1), (2, .int vq2), (3, .int vq3), (4, .int vq4), (5, .int vq5), (6, .int vq6), (7, .int vq7), (8, .int vq8)] [] M (fX11_seats_J85 k50 vq1 vq2 vq3 vq4 vq5 vq6 vq7 vq8 M) := by
  unfold fX11_seats_J85
  refine r_iconst (pc := 85) ok 1 dX11_seats_85 (by decide) ?_
  refine r_goto (pc := 86) ok 90 dX11_seats_86 (by decide) ?_
  refine r_lv [0, 1, 2, 3, 4, 5, 6, 7, 8] [(0, .ref (gA g 22 0)), (1, .int vq1), (2, .int vq2), (3, .int vq3), (4, .int vq4), (5, .int vq5), (6, .int vq6), (7, .int vq7), (8, .int vq8)] rfl ?_
  exact sX11_seats_J90 ok vq1 vq2 vq3 vq4 vq5 vq6 vq7 vq8 1 hk50 M
def fX11_seats_B50 (vq1 : Int32) (vq2 : Int32) (vq3 : Int32) (vq4 : Int32) (k50 : Int32 → Int32 → Int32 → Mem → Option (Int32 × Mem)) (vq5 : Int32) (vq6 : Int32) (vq7 : Int32) (M : Mem) : Option (Int32 × Mem) :=
  if 36 ≤ vq7 then
    (gd (inb vq1 6)
    (lt (mst M 25 0 vq1.toNatClampNeg vq4) fun M8 =>
    if vq3 = 0 then
      (some (vq5, M8))
    else
      (some (vq6, M8))))
  else
    (gd (inb vq1 6)
    (lt (mst M 25 0 vq1.toNatClampNeg vq7) fun M9 =>
    ob (fX11_thickestBehind vq2 M9) fun r10 M11 =>
    if vq5 = (-1) then
      (fX11_seats_J85 k50 vq1 vq2 vq3 vq4 vq5 vq6 vq7 r10 M11)
    else
      (if vq6 ≤ r10 then
        (fX11_seats_J90 k50 vq1 vq2 vq3 vq4 vq5 vq6 vq7 r10 0 M11)
      else
        (fX11_seats_J85 k50 vq1 vq2 vq3 vq4 vq5 vq6 vq7 r10 M11))))
def fX11_seats_L50 (vq1 : Int32) (vq2 : Int32) (vq3 : Int32) (vq4 : Int32) : Nat → Int32 → Int32 → Int32 → Mem → Option (Int32 × Mem)
  | 0, _, _, _, _ => none
  | n + 1, vq5, vq6, vq7, M => fX11_seats_B50 vq1 vq2 vq3 vq4 (fX11_seats_L50 vq1 vq2 vq3 vq4 n) vq5 vq6 vq7 M
set_option maxRecDepth 20000 in
theorem sX11_seats_B50 {g : GP} {l : Launch} {x : CT} (ok : Ok g l x RX11 cX11_seats 10 (some FieldType.int) (rmL 8)) (vq1 : Int32) (vq2 : Int32) (vq3 : Int32) (vq4 : Int32)  (k50 : Int32 → Int32 → Int32 → Mem → Option (Int32 × Mem)) (hk50 : ∀ (vq5 : Int32) (vq6 : Int32) (vq7 : Int32) (M : Mem), Sw g l x (FinQ g x eI) 10 0 0 50 [(0, .ref (gA g 22 0)), (1, .int vq1), (2, .int vq2), (3, .int vq3), (4, .int vq4), (5, .int vq5), (6, .int vq6), (7, .int vq7)] [] M (k50 vq5 vq6 vq7 M)) (vq5 : Int32) (vq6 : Int32) (vq7 : Int32) (M : Mem) : Sw g l x (FinQ g x eI) 10 0 0 50 [(0, .ref (gA g 22 0)), (1, .int vq1), (2, .int vq2), (3, .int vq3), (4, .int vq4), (5, .int vq5), (6, .int vq6), (7, .int vq7)] [] M (fX11_seats_B50 vq1 vq2 vq3 vq4 k50 vq5 vq6 vq7 M) := by
  unfold fX11_seats_B50
  refine r_iload (pc := 50) ok 7 dX11_seats_50 rfl ?_
  refine r_bipush (pc := 52) ok 36 dX11_seats_52 (by decide) ?_
  refine r_icmp_ge (pc := 54) ok 126 dX11_seats_54 (by decide) (fun _ => ?_) (fun _ => ?_)
  · refine r_aload_n (pc := 126) ok 0 dX11_seats_126 rfl ?_
    refine r_getR (pc := 127) ok fr_22_3 (by decide) fl_X11_16 dX11_seats_127 ?_
    refine r_iload_n (pc := 130) ok 1 dX11_seats_130 rfl ?_
    refine r_iload (pc := 131) ok 4 dX11_seats_131 rfl ?_
    refine r_iast (pc := 133) ok ik_25 (by decide) dX11_seats_133 ?_
    refine r_nmM (fun M8 => ?_)
    refine r_iload_n (pc := 134) ok 3 dX11_seats_134 rfl ?_
    refine r_if_ne (pc := 135) ok 143 dX11_seats_135 (by decide) (fun _ => ?_) (fun _ => ?_)
    · refine r_iload (pc := 138) ok 5 dX11_seats_138 rfl ?_
      refine r_goto (pc := 140) ok 145 dX11_seats_140 (by decide) ?_
      exact r_iret (pc := 145) ok (Nat.zero_le _) (Nat.zero_le _) rfl dX11_seats_145
    · refine r_iload (pc := 143) ok 6 dX11_seats_143 rfl ?_
      exact r_iret (pc := 145) ok (Nat.zero_le _) (Nat.zero_le _) rfl dX11_seats_145
  · refine r_aload_n (pc := 57) ok 0 dX11_seats_57 rfl ?_
    refine r_getR (pc := 58) ok fr_22_3 (by decide) fl_X11_16 dX11_seats_58 ?_
    refine r_iload_n (pc := 61) ok 1 dX11_seats_61 rfl ?_
    refine r_iload (pc := 62) ok 7 dX11_seats_62 rfl ?_
    refine r_iast (pc := 64) ok ik_25 (by decide) dX11_seats_64 ?_
    refine r_nmM (fun M9 => ?_)
    refine r_aload_n (pc := 65) ok 0 dX11_seats_65 rfl ?_
    refine r_iload_n (pc := 66) ok 2 dX11_seats_66 rfl ?_
    refine r_callV0 (pc := 67) ok [.int vq2] [] 7 (fun rZ MZ hZ => con_X11_thickestBehind g l vq2 _ rZ MZ hZ) cv_X11_238 ok_22 (rmOk_L (by decide) (by decide)) dX11_seats_67 rfl rfl (Nat.le_of_ble_eq_true rfl) (fun r10 M11 => ?_)
    refine r_istore (pc := 70) ok [(8, .int r10), (0, .ref (gA g 22 0)), (1, .int vq1), (2, .int vq2), (3, .int vq3), (4, .int vq4), (5, .int vq5), (6, .int vq6), (7, .int vq7)] dX11_seats_70 (by decide) rfl ?_
    refine r_iload (pc := 72) ok 6 dX11_seats_72 rfl ?_
    refine r_iconst (pc := 74) ok (-1) dX11_seats_74 (by decide) ?_
    refine r_icmp_eq (pc := 75) ok 85 dX11_seats_75 (by decide) (fun _ => ?_) (fun _ => ?_)
    · refine r_lv [1, 2, 3, 4, 5, 6, 7, 8, 0] [(0, .ref (gA g 22 0)), (1, .int vq1), (2, .int vq2), (3, .int vq3), (4, .int vq4), (5, .int vq5), (6, .int vq6), (7, .int vq7), (8, .int r10)] rfl ?_
      exact sX11_seats_J85 ok vq1 vq2 vq3 vq4 vq5 vq6 vq7 r10 hk50 M11
    · refine r_iload (pc := 78) ok 0 dX11_seats_78 rfl ?_
      refine r_iload (pc := 80) ok 7 dX11_seats_80 rfl ?_
      refine r_icmp_ge (pc := 82) ok 89 dX11_seats_82 (by decide) (fun _ => ?_) (fun _ => ?_)
      · refine r_iconst (pc := 89) ok 0 dX11_seats_89 (by decide) ?_
        refine r_lv [1, 2, 3, 4, 5, 6, 7, 8, 0] [(0, .ref (gA g 22 0)), (1, .int vq1), (2, .int vq2), (3, .int vq3), (4, .int vq4), (5, .int vq5), (6, .int vq6), (7, .int vq7), (8, .int r10)] rfl ?_
        exact sX11_seats_J90 ok vq1 vq2 vq3 vq4 vq5 vq6 vq7 r10 0 hk50 M11
      · refine r_lv [1, 2, 3, 4, 5, 6, 7, 8, 0] [(0, .ref (gA g 22 0)), (1, .int vq1), (2, .int vq2), (3, .int vq3), (4, .int vq4), (5, .int vq5), (6, .int vq6), (7, .int vq7), (8, .int r10)] rfl ?_
        exact sX11_seats_J85 ok vq1 vq2 vq3 vq4 vq5 vq6 vq7 r10 hk50 M11
theorem sX11_seats_L50 {g : GP} {l : Launch} {x : CT} (ok : Ok g l x RX11 cX11_seats 10 (some FieldType.int) (rmL 8)) (vq1 : Int32) (vq2 : Int32) (vq3 : Int32) (vq4 : Int32)  : ∀ (n : Nat) (vq5 : Int32) (vq6 : Int32) (vq7 : Int32) (M : Mem), Sw g l x (FinQ g x eI) 10 0 0 50 [(0, .ref (gA g 22 0)), (1, .int vq1), (2, .int vq2), (3, .int vq3), (4, .int vq4), (5, .int vq5), (6, .int vq6), (7, .int vq7)] [] M (fX11_seats_L50 vq1 vq2 vq3 vq4 n vq5 vq6 vq7 M) := by
  intro n
  induction n with
  | zero => intros; exact r_none
  | succ n ih => intro vq5 vq6 vq7 M; exact sX11_seats_B50 ok vq1 vq2 vq3 vq4  _ ih vq5 vq6 vq7 M
def fX11_seats (vq1 : Int32) (vq2 : Int32) (vq3 : Int32) (M : Mem) : Option (Int32 × Mem) :=
  ob (fX11_isOne vq1 M) fun r1 M2 =>
  if r1 = 0 then
    (some (-5, M2))
  else
    (ob (fX11_in vq2 0 20 M2) fun r3 M4 =>
    if r3 = 0 then
      (some (-7, M4))
    else
      (ob (fX11_in vq3 0 1 M4) fun r5 M6 =>
      if r5 = 0 then
        (some (-7, M6))
      else
        (gd (inb vq1 6)
        (lt (M6 25 0 vq1.toNatClampNeg) fun w7 =>
        fX11_seats_L50 vq1 vq2 vq3 w7 FU (-1) 0 0 M6))))
set_option maxRecDepth 20000 in
theorem wX11_seats {g : GP} {l : Launch} {x : CT} (ok : Ok g l x RX11 cX11_seats 10 (some FieldType.int) (rmL 8)) (vq1 : Int32) (vq2 : Int32) (vq3 : Int32)  (M : Mem) : Sw g l x (FinQ g x eI) 10 0 0 0 [(0, .ref (gA g 22 0)), (1, .int vq1), (2, .int vq2), (3, .int vq3)] [] M (fX11_seats vq1 vq2 vq3 M) := by
  unfold fX11_seats
  refine r_aload_n (pc := 0) ok 0 dX11_seats_0 rfl ?_
  refine r_iload_n (pc := 1) ok 1 dX11_seats_1 rfl ?_
  refine r_callV0 (pc := 2) ok [.int vq1] [] 3 (fun rZ MZ hZ => con_X11_isOne g l vq1 _ rZ MZ hZ) cv_X11_176 ok_22 (rmOk_L (by decide) (by decide)) dX11_seats_2 rfl rfl (Nat.le_of_ble_eq_true rfl) (fun r1 M2 => ?_)
  refine r_if_ne (pc := 5) ok 11 dX11_seats_5 (by decide) (fun _ => ?_) (fun _ => ?_)
  · refine r_bipush (pc := 8) ok (-5) dX11_seats_8 (by decide) ?_
    exact r_iret (pc := 10) ok (Nat.zero_le _) (Nat.zero_le _) rfl dX11_seats_10
  · refine r_iload_n (pc := 11) ok 2 dX11_seats_11 rfl ?_
    refine r_iconst (pc := 12) ok 0 dX11_seats_12 (by decide) ?_
    refine r_bipush (pc := 13) ok 20 dX11_seats_13 (by decide) ?_
    refine r_callS0 (pc := 15) ok [.int vq2, .int 0, .int 20] [] 2 (fun rZ MZ hZ => con_X11_in g l vq2 0 20 _ rZ MZ hZ) cs_X11_84 (rmOk_L (by decide) (by decide)) dX11_seats_15 rfl rfl (Nat.le_of_ble_eq_true rfl) (fun r3 M4 => ?_)
    refine r_if_eq (pc := 18) ok 30 dX11_seats_18 (by decide) (fun _ => ?_) (fun _ => ?_)
    · refine r_bipush (pc := 30) ok (-7) dX11_seats_30 (by decide) ?_
      exact r_iret (pc := 32) ok (Nat.zero_le _) (Nat.zero_le _) rfl dX11_seats_32
    · refine r_iload_n (pc := 21) ok 3 dX11_seats_21 rfl ?_
      refine r_iconst (pc := 22) ok 0 dX11_seats_22 (by decide) ?_
      refine r_iconst (pc := 23) ok 1 dX11_seats_23 (by decide) ?_
      refine r_callS0 (pc := 24) ok [.int vq3, .int 0, .int 1] [] 2 (fun rZ MZ hZ => con_X11_in g l vq3 0 1 _ rZ MZ hZ) cs_X11_84 (rmOk_L (by decide) (by decide)) dX11_seats_24 rfl rfl (Nat.le_of_ble_eq_true rfl) (fun r5 M6 => ?_)
      refine r_if_ne (pc := 27) ok 33 dX11_seats_27 (by decide) (fun _ => ?_) (fun _ => ?_)
      · refine r_bipush (pc := 30) ok (-7) dX11_seats_30 (by decide) ?_
        exact r_iret (pc := 32) ok (Nat.zero_le _) (Nat.zero_le _) rfl dX11_seats_32
      · refine r_aload_n (pc := 33) ok 0 dX11_seats_33 rfl ?_
        refine r_getR (pc := 34) ok fr_22_3 (by decide) fl_X11_16 dX11_seats_34 ?_
        refine r_iload_n (pc := 37) ok 1 dX11_seats_37 rfl ?_
        refine r_iald (pc := 38) ok ik_25 (by decide) dX11_seats_38 (fun _ => ?_)
        refine r_nmi (fun w7 => ?_)
        refine r_istore (pc := 39) ok [(4, .int w7), (0, .ref (gA g 22 0)), (1, .int vq1), (2, .int vq2), (3, .int vq3)] dX11_seats_39 (by decide) rfl ?_
        refine r_iconst (pc := 41) ok (-1) dX11_seats_41 (by decide) ?_
        refine r_istore (pc := 42) ok [(5, .int (-1)), (4, .int w7), (0, .ref (gA g 22 0)), (1, .int vq1), (2, .int vq2), (3, .int vq3)] dX11_seats_42 (by decide) rfl ?_
        refine r_iconst (pc := 44) ok 0 dX11_seats_44 (by decide) ?_
        refine r_istore (pc := 45) ok [(6, .int 0), (5, .int (-1)), (4, .int w7), (0, .ref (gA g 22 0)), (1, .int vq1), (2, .int vq2), (3, .int vq3)] dX11_seats_45 (by decide) rfl ?_
        refine r_iconst (pc := 47) ok 0 dX11_seats_47 (by decide) ?_
        refine r_istore (pc := 48) ok [(7, .int 0), (6, .int 0), (5, .int (-1)), (4, .int w7), (0, .ref (gA g 22 0)), (1, .int vq1), (2, .int vq2), (3, .int vq3)] dX11_seats_48 (by decide) rfl ?_
        refine r_lv [4, 5, 6, 7, 3, 2, 1, 0] [(0, .ref (gA g 22 0)), (1, .int vq1), (2, .int vq2), (3, .int vq3), (4, .int w7), (5, .int (-1)), (6, .int 0), (7, .int 0)] rfl ?_
        exact sX11_seats_L50 ok vq1 vq2 vq3 w7 FU (-1) 0 0 M6
theorem con_X11_seats (g : GP) (l : Launch) (vq1 : Int32) (vq2 : Int32) (vq3 : Int32)  (M : Mem) (r : Int32) (M2 : Mem) (h : fX11_seats vq1 vq2 vq3 M = some (r, M2)) : Con g l yX11_seats cX11_seats 10 (some FieldType.int) (rmL 8) [.ref (gA g 22 0), .int vq1, .int vq2, .int vq3] M (eI r) M2 :=
  Con.of (own := RX11) (f := fX11_seats vq1 vq2 vq3 M) (by decide) (Nat.le_of_ble_eq_true rfl) rfl (fun x ok => wX11_seats ok vq1 vq2 vq3  M) r M2 h
def fX11_judge (vq1 : Int32) (vq2 : Int32) (M : Mem) : Option (Int32 × Mem) :=
  ob (fX11_toldWrong vq1 vq2 M) fun r1 M2 =>
  if r1 = 0 then
    (ob (fX11_unlike vq1 vq2 M2) fun r3 M4 =>
    some (r3, M4))
  else
    (some (r1, M2))
set_option maxRecDepth 20000 in
theorem wX11_judge {g : GP} {l : Launch} {x : CT} (ok : Ok g l x RX11 cX11_judge 4 (some FieldType.int) (rmL 8)) (vq1 : Int32) (vq2 : Int32)  (M : Mem) : Sw g l x (FinQ g x eI) 4 0 0 0 [(0, .ref (gA g 22 0)), (1, .int vq1), (2, .int vq2)] [] M (fX11_judge vq1 vq2 M) := by
  unfold fX11_judge
  refine r_aload_n (pc := 0) ok 0 dX11_judge_0 rfl ?_
  refine r_iload_n (pc := 1) ok 1 dX11_judge_1 rfl ?_
  refine r_iload_n (pc := 2) ok 2 dX11_judge_2 rfl ?_
  refine r_callV0 (pc := 3) ok [.int vq1, .int vq2] [] 4 (fun rZ MZ hZ => con_X11_toldWrong g l vq1 vq2 _ rZ MZ hZ) cv_X11_241 ok_22 (rmOk_L (by decide) (by decide)) dX11_judge_3 rfl rfl (Nat.le_of_ble_eq_true rfl) (fun r1 M2 => ?_)
  refine r_istore_n (pc := 6) ok [(3, .int r1), (0, .ref (gA g 22 0)), (1, .int vq1), (2, .int vq2)] dX11_judge_6 rfl (by decide) rfl ?_
  refine r_iload_n (pc := 7) ok 0 dX11_judge_7 rfl ?_
  refine r_if_ne (pc := 8) ok 20 dX11_judge_8 (by decide) (fun _ => ?_) (fun _ => ?_)
  · refine r_aload_n (pc := 11) ok 1 dX11_judge_11 rfl ?_
    refine r_iload_n (pc := 12) ok 2 dX11_judge_12 rfl ?_
    refine r_iload_n (pc := 13) ok 3 dX11_judge_13 rfl ?_
    refine r_callV0 (pc := 14) ok [.int vq1, .int vq2] [] 7 (fun rZ MZ hZ => con_X11_unlike g l vq1 vq2 _ rZ MZ hZ) cv_X11_244 ok_22 (rmOk_L (by decide) (by decide)) dX11_judge_14 rfl rfl (Nat.le_of_ble_eq_true rfl) (fun r3 M4 => ?_)
    refine r_goto (pc := 17) ok 21 dX11_judge_17 (by decide) ?_
    exact r_iret (pc := 21) ok (Nat.zero_le _) (Nat.zero_le _) rfl dX11_judge_21
  · refine r_iload_n (pc := 20) ok 0 dX11_judge_20 rfl ?_
    exact r_iret (pc := 21) ok (Nat.zero_le _) (Nat.zero_le _) rfl dX11_judge_21
theorem con_X11_judge (g : GP) (l : Launch) (vq1 : Int32) (vq2 : Int32)  (M : Mem) (r : Int32) (M2 : Mem) (h : fX11_judge vq1 vq2 M = some (r, M2)) : Con g l yX11_judge cX11_judge 4 (some FieldType.int) (rmL 8) [.ref (gA g 22 0), .int vq1, .int vq2] M (eI r) M2 :=
  Con.of (own := RX11) (f := fX11_judge vq1 vq2 M) (by decide) (Nat.le_of_ble_eq_true rfl) rfl (fun x ok => wX11_judge ok vq1 vq2  M) r M2 h
def fX11_kinds_J115 (k62 : Int32 → Int32 → Mem → Option (Int32 × Mem)) (vq1 : Int32) (vq2 : Int32) (vq3 : Int32) (vq4 : Int32) (vq6 : Int32) (vq7 : Int32) (vq8 : Int32) (vq9 : Int32) (s0 : Int32) (s1 : Int32) (M : Mem) : Option (Int32 × Mem) :=
  gd (inb s1 6)
  (lt (mst M 24 0 s1.toNatClampNeg s0) fun M12 =>
  ob (fX11_unlike vq1 vq2 M12) fun r13 M14 =>
  if r13 = (-1) then
    (lt (vq8 ||| (1 <<< (vq9 &&& 31))) fun w16 =>
    k62 w16 (vq9 + 1) M14)
  else
    (lt (vq8 ||| 0) fun w15 =>
    k62 w15 (vq9 + 1) M14))
set_option maxRecDepth 20000 in
theorem sX11_kinds_J115 {g : GP} {l : Launch} {x : CT} {k62 : Int32 → Int32 → Mem → Option (Int32 × Mem)} (ok : Ok g l x RX11 cX11_kinds 10 (some FieldType.int) (rmL 8)) (vq1 : Int32) (vq2 : Int32) (vq3 : Int32) (vq4 : Int32) (vq6 : Int32) (vq7 : Int32) (vq8 : Int32) (vq9 : Int32) (s0 : Int32) (s1 : Int32)  (hk62 : ∀ (vq8 : Int32) (vq9 : Int32) (M : Mem), Sw g l x (FinQ g x eI) 10 0 0 62 [(0, .ref (gA g 22 0)), (1, .int vq1), (2, .int vq2), (3, .int vq3), (4, .int vq4), (6, .int vq6), (7, .int vq7), (8, .int vq8), (9, .int vq9)] [] M (k62 vq8 vq9 M)) (M : Mem) : Sw g l x (FinQ g x eI) 10 0 0 115 [(0, .ref (gA g 22 0)), (1, .int vq1), (2, .int vq2), (3, .int vq3), (4, .int vq4), (6, .int vq6), (7, .int vq7), (8, .int vq8), (9, .int vq9)] [.int s0, .int s1, .ref (gA g 24 0)] M (fX11_kinds_J115 k62 vq1 vq2 vq3 vq4 vq6 vq7 vq8 vq9 s0 s1 M) := by
  unfold fX11_kinds_J115
  refine r_iast (pc := 115) ok ik_24 (by decide) dX11_kinds_115 ?_
  refine r_nmM (fun M12 => ?_)
  refine r_iload (pc := 116) ok 7 dX11_kinds_116 rfl ?_
  refine r_aload_n (pc := 118) ok 0 dX11_kinds_118 rfl ?_
  refine r_iload_n (pc := 119) ok 1 dX11_kinds_119 rfl ?_
  refine r_iload_n (pc := 120) ok 2 dX11_kinds_120 rfl ?_
  refine r_callV0 (pc := 121) ok [.int vq1, .int vq2] [.int vq8] 7 (fun rZ MZ hZ => con_X11_unlike g l vq1 vq2 _ rZ MZ hZ) cv_X11_244 ok_22 (rmOk_L (by decide) (by decide)) dX11_kinds_121 rfl rfl (Nat.le_of_ble_eq_true rfl) (fun r13 M14 => ?_)
  refine r_iconst (pc := 124) ok (-1) dX11_kinds_124 (by decide) ?_
  refine r_icmp_ne (pc := 125) ok 135 dX11_kinds_125 (by decide) (fun _ => ?_) (fun _ => ?_)
  · refine r_iconst (pc := 128) ok 1 dX11_kinds_128 (by decide) ?_
    refine r_iload (pc := 129) ok 8 dX11_kinds_129 rfl ?_
    refine r_ishl (pc := 131) ok dX11_kinds_131 ?_
    refine r_goto (pc := 132) ok 136 dX11_kinds_132 (by decide) ?_
    refine r_ior (pc := 136) ok dX11_kinds_136 ?_
    refine r_nmi (fun w16 => ?_)
    refine r_istore (pc := 137) ok [(8, .int w16), (0, .ref (gA g 22 0)), (1, .int vq1), (2, .int vq2), (3, .int vq3), (4, .int vq4), (6, .int vq6), (7, .int vq7), (9, .int vq9)] dX11_kinds_137 (by decide) rfl ?_
    refine r_iinc (pc := 139) ok 8 (vq9 + 1) [(9, .int (vq9 + 1)), (8, .int w16), (0, .ref (gA g 22 0)), (1, .int vq1), (2, .int vq2), (3, .int vq3), (4, .int vq4), (6, .int vq6), (7, .int vq7)] dX11_kinds_139 rfl (congrArg (fun z => vq9 + z) (by decide : Int32.ofInt 1 = (1 : Int32))) (by decide) rfl ?_
    refine r_goto (pc := 142) ok 62 dX11_kinds_142 (by decide) ?_
    refine r_lv [2, 3, 4, 5, 6, 7, 8, 1, 0] [(0, .ref (gA g 22 0)), (1, .int vq1), (2, .int vq2), (3, .int vq3), (4, .int vq4), (6, .int vq6), (7, .int vq7), (8, .int w16), (9, .int (vq9 + 1))] rfl ?_
    exact hk62 w16 (vq9 + 1) M14
  · refine r_iconst (pc := 135) ok 0 dX11_kinds_135 (by decide) ?_
    refine r_ior (pc := 136) ok dX11_kinds_136 ?_
    refine r_nmi (fun w15 => ?_)
    refine r_istore (pc := 137) ok [(8, .int w15), (0, .ref (gA g 22 0)), (1, .int vq1), (2, .int vq2), (3, .int vq3), (4, .int vq4), (6, .int vq6), (7, .int vq7), (9, .int vq9)] dX11_kinds_137 (by decide) rfl ?_
    refine r_iinc (pc := 139) ok 8 (vq9 + 1) [(9, .int (vq9 + 1)), (8, .int w15), (0, .ref (gA g 22 0)), (1, .int vq1), (2, .int vq2), (3, .int vq3), (4, .int vq4), (6, .int vq6), (7, .int vq7)] dX11_kinds_139 rfl (congrArg (fun z => vq9 + z) (by decide : Int32.ofInt 1 = (1 : Int32))) (by decide) rfl ?_
    refine r_goto (pc := 142) ok 62 dX11_kinds_142 (by decide) ?_
    refine r_lv [2, 3, 4, 5, 6, 7, 8, 1, 0] [(0, .ref (gA g 22 0)), (1, .int vq1), (2, .int vq2), (3, .int vq3), (4, .int vq4), (6, .int vq6), (7, .int vq7), (8, .int w15), (9, .int (vq9 + 1))] rfl ?_
    exact hk62 w15 (vq9 + 1) M14
def fX11_kinds_J96 (k62 : Int32 → Int32 → Mem → Option (Int32 × Mem)) (vq1 : Int32) (vq2 : Int32) (vq3 : Int32) (vq4 : Int32) (vq6 : Int32) (vq7 : Int32) (vq8 : Int32) (vq9 : Int32) (s0 : Int32) (s1 : Int32) (M : Mem) : Option (Int32 × Mem) :=
  gd (inb s1 6)
  (lt (mst M 23 0 s1.toNatClampNeg s0) fun M11 =>
  if vq4 = 1 then
    (fX11_kinds_J115 k62 vq1 vq2 vq3 vq4 vq6 vq7 vq8 vq9 vq9 vq3 M11)
  else
    (fX11_kinds_J115 k62 vq1 vq2 vq3 vq4 vq6 vq7 vq8 vq9 vq7 vq3 M11))
set_option maxRecDepth 20000 in
theorem sX11_kinds_J96 {g : GP} {l : Launch} {x : CT} {k62 : Int32 → Int32 → Mem → Option (Int32 × Mem)} (ok : Ok g l x RX11 cX11_kinds 10 (some FieldType.int) (rmL 8)) (vq1 : Int32) (vq2 : Int32) (vq3 : Int32) (vq4 : Int32) (vq6 : Int32) (vq7 : Int32) (vq8 : Int32) (vq9 : Int32) (s0 : Int32) (s1 : Int32)  (hk62 : ∀ (vq8 : Int32) (vq9 : Int32) (M : Mem), Sw g l x (FinQ g x eI) 10 0 0 62 [(0, .ref (gA g 22 0)), (1, .int vq1), (2, .int vq2), (3, .int vq3), (4, .int vq4), (6, .int vq6), (7, .int vq7), (8, .int vq8), (9, .int vq9)] [] M (k62 vq8 vq9 M)) (M : Mem) : Sw g l x (FinQ g x eI) 10 0 0 96 [(0, .ref (gA g 22 0)), (1, .int vq1), (2, .int vq2), (3, .int vq3), (4, .int vq4), (6, .int vq6), (7, .int vq7), (8, .int vq8), (9, .int vq9)] [.int s0, .int s1, .ref (gA g 23 0)] M (fX11_kinds_J96 k62 vq1 vq2 vq3 vq4 vq6 vq7 vq8 vq9 s0 s1 M) := by
  unfold fX11_kinds_J96
  refine r_iast (pc := 96) ok ik_23 (by decide) dX11_kinds_96 ?_
  refine r_nmM (fun M11 => ?_)
  refine r_aload_n (pc := 97) ok 0 dX11_kinds_97 rfl ?_
  refine r_getR (pc := 98) ok fr_22_2 (by decide) fl_X11_13 dX11_kinds_98 ?_
  refine r_iload_n (pc := 101) ok 3 dX11_kinds_101 rfl ?_
  refine r_iload (pc := 102) ok 4 dX11_kinds_102 rfl ?_
  refine r_iconst (pc := 104) ok 1 dX11_kinds_104 (by decide) ?_
  refine r_icmp_ne (pc := 105) ok 113 dX11_kinds_105 (by decide) (fun _ => ?_) (fun _ => ?_)
  · refine r_iload (pc := 108) ok 8 dX11_kinds_108 rfl ?_
    refine r_goto (pc := 110) ok 115 dX11_kinds_110 (by decide) ?_
    refine r_lv [0, 1, 2, 3, 4, 5, 6, 7, 8] [(0, .ref (gA g 22 0)), (1, .int vq1), (2, .int vq2), (3, .int vq3), (4, .int vq4), (6, .int vq6), (7, .int vq7), (8, .int vq8), (9, .int vq9)] rfl ?_
    exact sX11_kinds_J115 ok vq1 vq2 vq3 vq4 vq6 vq7 vq8 vq9 vq9 vq3 hk62 M11
  · refine r_iload (pc := 113) ok 6 dX11_kinds_113 rfl ?_
    refine r_lv [0, 1, 2, 3, 4, 5, 6, 7, 8] [(0, .ref (gA g 22 0)), (1, .int vq1), (2, .int vq2), (3, .int vq3), (4, .int vq4), (6, .int vq6), (7, .int vq7), (8, .int vq8), (9, .int vq9)] rfl ?_
    exact sX11_kinds_J115 ok vq1 vq2 vq3 vq4 vq6 vq7 vq8 vq9 vq7 vq3 hk62 M11
def fX11_kinds_J76 (k62 : Int32 → Int32 → Mem → Option (Int32 × Mem)) (vq1 : Int32) (vq2 : Int32) (vq3 : Int32) (vq4 : Int32) (vq6 : Int32) (vq7 : Int32) (vq8 : Int32) (vq9 : Int32) (s0 : Int32) (s1 : Int32) (M : Mem) : Option (Int32 × Mem) :=
  if s0 ≤ s1 then
    (gd (inb vq3 6)
    (lt (mst M 23 0 vq3.toNatClampNeg vq6) fun M9 =>
    gd (inb vq3 6)
    (lt (mst M9 24 0 vq3.toNatClampNeg vq7) fun M10 =>
    some (vq8, M10))))
  else
    (if vq4 = 0 then
      (fX11_kinds_J96 k62 vq1 vq2 vq3 vq4 vq6 vq7 vq8 vq9 vq9 vq3 M)
    else
      (fX11_kinds_J96 k62 vq1 vq2 vq3 vq4 vq6 vq7 vq8 vq9 vq6 vq3 M))
set_option maxRecDepth 20000 in
theorem sX11_kinds_J76 {g : GP} {l : Launch} {x : CT} {k62 : Int32 → Int32 → Mem → Option (Int32 × Mem)} (ok : Ok g l x RX11 cX11_kinds 10 (some FieldType.int) (rmL 8)) (vq1 : Int32) (vq2 : Int32) (vq3 : Int32) (vq4 : Int32) (vq6 : Int32) (vq7 : Int32) (vq8 : Int32) (vq9 : Int32) (s0 : Int32) (s1 : Int32)  (hk62 : ∀ (vq8 : Int32) (vq9 : Int32) (M : Mem), Sw g l x (FinQ g x eI) 10 0 0 62 [(0, .ref (gA g 22 0)), (1, .int vq1), (2, .int vq2), (3, .int vq3), (4, .int vq4), (6, .int vq6), (7, .int vq7), (8, .int vq8), (9, .int vq9)] [] M (k62 vq8 vq9 M)) (M : Mem) : Sw g l x (FinQ g x eI) 10 0 0 76 [(0, .ref (gA g 22 0)), (1, .int vq1), (2, .int vq2), (3, .int vq3), (4, .int vq4), (6, .int vq6), (7, .int vq7), (8, .int vq8), (9, .int vq9)] [.int s0, .int s1] M (fX11_kinds_J76 k62 vq1 vq2 vq3 vq4 vq6 vq7 vq8 vq9 s0 s1 M) := by
  unfold fX11_kinds_J76
  refine r_icmp_ge (pc := 76) ok 145 dX11_kinds_76 (by decide) (fun _ => ?_) (fun _ => ?_)
  · refine r_aload_n (pc := 145) ok 0 dX11_kinds_145 rfl ?_
    refine r_getR (pc := 146) ok fr_22_1 (by decide) fl_X11_7 dX11_kinds_146 ?_
    refine r_iload_n (pc := 149) ok 3 dX11_kinds_149 rfl ?_
    refine r_iload (pc := 150) ok 5 dX11_kinds_150 rfl ?_
    refine r_iast (pc := 152) ok ik_23 (by decide) dX11_kinds_152 ?_
    refine r_nmM (fun M9 => ?_)
    refine r_aload_n (pc := 153) ok 0 dX11_kinds_153 rfl ?_
    refine r_getR (pc := 154) ok fr_22_2 (by decide) fl_X11_13 dX11_kinds_154 ?_
    refine r_iload_n (pc := 157) ok 3 dX11_kinds_157 rfl ?_
    refine r_iload (pc := 158) ok 6 dX11_kinds_158 rfl ?_
    refine r_iast (pc := 160) ok ik_24 (by decide) dX11_kinds_160 ?_
    refine r_nmM (fun M10 => ?_)
    refine r_iload (pc := 161) ok 7 dX11_kinds_161 rfl ?_
    exact r_iret (pc := 163) ok (Nat.zero_le _) (Nat.zero_le _) rfl dX11_kinds_163
  · refine r_aload_n (pc := 79) ok 0 dX11_kinds_79 rfl ?_
    refine r_getR (pc := 80) ok fr_22_1 (by decide) fl_X11_7 dX11_kinds_80 ?_
    refine r_iload_n (pc := 83) ok 3 dX11_kinds_83 rfl ?_
    refine r_iload (pc := 84) ok 4 dX11_kinds_84 rfl ?_
    refine r_if_ne (pc := 86) ok 94 dX11_kinds_86 (by decide) (fun _ => ?_) (fun _ => ?_)
    · refine r_iload (pc := 89) ok 8 dX11_kinds_89 rfl ?_
      refine r_goto (pc := 91) ok 96 dX11_kinds_91 (by decide) ?_
      refine r_lv [0, 1, 2, 3, 4, 5, 6, 7, 8] [(0, .ref (gA g 22 0)), (1, .int vq1), (2, .int vq2), (3, .int vq3), (4, .int vq4), (6, .int vq6), (7, .int vq7), (8, .int vq8), (9, .int vq9)] rfl ?_
      exact sX11_kinds_J96 ok vq1 vq2 vq3 vq4 vq6 vq7 vq8 vq9 vq9 vq3 hk62 M
    · refine r_iload (pc := 94) ok 5 dX11_kinds_94 rfl ?_
      refine r_lv [0, 1, 2, 3, 4, 5, 6, 7, 8] [(0, .ref (gA g 22 0)), (1, .int vq1), (2, .int vq2), (3, .int vq3), (4, .int vq4), (6, .int vq6), (7, .int vq7), (8, .int vq8), (9, .int vq9)] rfl ?_
      exact sX11_kinds_J96 ok vq1 vq2 vq3 vq4 vq6 vq7 vq8 vq9 vq6 vq3 hk62 M
def fX11_kinds_B62 (vq1 : Int32) (vq2 : Int32) (vq3 : Int32) (vq4 : Int32) (vq6 : Int32) (vq7 : Int32) (k62 : Int32 → Int32 → Mem → Option (Int32 × Mem)) (vq8 : Int32) (vq9 : Int32) (M : Mem) : Option (Int32 × Mem) :=
  if vq4 = 0 then
    (fX11_kinds_J76 k62 vq1 vq2 vq3 vq4 vq6 vq7 vq8 vq9 6 vq9 M)
  else
    (fX11_kinds_J76 k62 vq1 vq2 vq3 vq4 vq6 vq7 vq8 vq9 10 vq9 M)
def fX11_kinds_L62 (vq1 : Int32) (vq2 : Int32) (vq3 : Int32) (vq4 : Int32) (vq6 : Int32) (vq7 : Int32) : Nat → Int32 → Int32 → Mem → Option (Int32 × Mem)
  | 0, _, _, _ => none
  | n + 1, vq8, vq9, M => fX11_kinds_B62 vq1 vq2 vq3 vq4 vq6 vq7 (fX11_kinds_L62 vq1 vq2 vq3 vq4 vq6 vq7 n) vq8 vq9 M
set_option maxRecDepth 20000 in
theorem sX11_kinds_B62 {g : GP} {l : Launch} {x : CT} (ok : Ok g l x RX11 cX11_kinds 10 (some FieldType.int) (rmL 8)) (vq1 : Int32) (vq2 : Int32) (vq3 : Int32) (vq4 : Int32) (vq6 : Int32) (vq7 : Int32)  (k62 : Int32 → Int32 → Mem → Option (Int32 × Mem)) (hk62 : ∀ (vq8 : Int32) (vq9 : Int32) (M : Mem), Sw g l x (FinQ g x eI) 10 0 0 62 [(0, .ref (gA g 22 0)), (1, .int vq1), (2, .int vq2), (3, .int vq3), (4, .int vq4), (6, .int vq6), (7, .int vq7), (8, .int vq8), (9, .int vq9)] [] M (k62 vq8 vq9 M)) (vq8 : Int32) (vq9 : Int32) (M : Mem) : Sw g l x (FinQ g x eI) 10 0 0 62 [(0, .ref (gA g 22 0)), (1, .int vq1), (2, .int vq2), (3, .int vq3), (4, .int vq4), (6, .int vq6), (7, .int vq7), (8, .int vq8), (9, .int vq9)] [] M (fX11_kinds_B62 vq1 vq2 vq3 vq4 vq6 vq7 k62 vq8 vq9 M) := by
  unfold fX11_kinds_B62
  refine r_iload (pc := 62) ok 8 dX11_kinds_62 rfl ?_
  refine r_iload (pc := 64) ok 4 dX11_kinds_64 rfl ?_
  refine r_if_ne (pc := 66) ok 74 dX11_kinds_66 (by decide) (fun _ => ?_) (fun _ => ?_)
  · refine r_bipush (pc := 69) ok 6 dX11_kinds_69 (by decide) ?_
    refine r_goto (pc := 71) ok 76 dX11_kinds_71 (by decide) ?_
    refine r_lv [0, 1, 2, 3, 4, 5, 6, 7, 8] [(0, .ref (gA g 22 0)), (1, .int vq1), (2, .int vq2), (3, .int vq3), (4, .int vq4), (6, .int vq6), (7, .int vq7), (8, .int vq8), (9, .int vq9)] rfl ?_
    exact sX11_kinds_J76 ok vq1 vq2 vq3 vq4 vq6 vq7 vq8 vq9 6 vq9 hk62 M
  · refine r_bipush (pc := 74) ok 10 dX11_kinds_74 (by decide) ?_
    refine r_lv [0, 1, 2, 3, 4, 5, 6, 7, 8] [(0, .ref (gA g 22 0)), (1, .int vq1), (2, .int vq2), (3, .int vq3), (4, .int vq4), (6, .int vq6), (7, .int vq7), (8, .int vq8), (9, .int vq9)] rfl ?_
    exact sX11_kinds_J76 ok vq1 vq2 vq3 vq4 vq6 vq7 vq8 vq9 10 vq9 hk62 M
theorem sX11_kinds_L62 {g : GP} {l : Launch} {x : CT} (ok : Ok g l x RX11 cX11_kinds 10 (some FieldType.int) (rmL 8)) (vq1 : Int32) (vq2 : Int32) (vq3 : Int32) (vq4 : Int32) (vq6 : Int32) (vq7 : Int32)  : ∀ (n : Nat) (vq8 : Int32) (vq9 : Int32) (M : Mem), Sw g l x (FinQ g x eI) 10 0 0 62 [(0, .ref (gA g 22 0)), (1, .int vq1), (2, .int vq2), (3, .int vq3), (4, .int vq4), (6, .int vq6), (7, .int vq7), (8, .int vq8), (9, .int vq9)] [] M (fX11_kinds_L62 vq1 vq2 vq3 vq4 vq6 vq7 n vq8 vq9 M) := by
  intro n
  induction n with
  | zero => intros; exact r_none
  | succ n ih => intro vq8 vq9 M; exact sX11_kinds_B62 ok vq1 vq2 vq3 vq4 vq6 vq7  _ ih vq8 vq9 M
def fX11_kinds (vq1 : Int32) (vq2 : Int32) (vq3 : Int32) (vq4 : Int32) (M : Mem) : Option (Int32 × Mem) :=
  ob (fX11_toldWrong vq1 vq2 M) fun r1 M2 =>
  if r1 = 0 then
    (ob (fX11_isOne vq3 M2) fun r3 M4 =>
    if r3 = 0 then
      (some (-6, M4))
    else
      (ob (fX11_in vq4 0 1 M4) fun r5 M6 =>
      if r5 = 0 then
        (some (-7, M6))
      else
        (gd (inb vq3 6)
        (lt (M6 23 0 vq3.toNatClampNeg) fun w7 =>
        gd (inb vq3 6)
        (lt (M6 24 0 vq3.toNatClampNeg) fun w8 =>
        fX11_kinds_L62 vq1 vq2 vq3 vq4 w7 w8 FU 0 0 M6)))))
  else
    (some (r1, M2))
set_option maxRecDepth 20000 in
theorem wX11_kinds {g : GP} {l : Launch} {x : CT} (ok : Ok g l x RX11 cX11_kinds 10 (some FieldType.int) (rmL 8)) (vq1 : Int32) (vq2 : Int32) (vq3 : Int32) (vq4 : Int32)  (M : Mem) : Sw g l x (FinQ g x eI) 10 0 0 0 [(0, .ref (gA g 22 0)), (1, .int vq1), (2, .int vq2), (3, .int vq3), (4, .int vq4)] [] M (fX11_kinds vq1 vq2 vq3 vq4 M) := by
  unfold fX11_kinds
  refine r_aload_n (pc := 0) ok 0 dX11_kinds_0 rfl ?_
  refine r_iload_n (pc := 1) ok 1 dX11_kinds_1 rfl ?_
  refine r_iload_n (pc := 2) ok 2 dX11_kinds_2 rfl ?_
  refine r_callV0 (pc := 3) ok [.int vq1, .int vq2] [] 4 (fun rZ MZ hZ => con_X11_toldWrong g l vq1 vq2 _ rZ MZ hZ) cv_X11_241 ok_22 (rmOk_L (by decide) (by decide)) dX11_kinds_3 rfl rfl (Nat.le_of_ble_eq_true rfl) (fun r1 M2 => ?_)
  refine r_istore (pc := 6) ok [(5, .int r1), (0, .ref (gA g 22 0)), (1, .int vq1), (2, .int vq2), (3, .int vq3), (4, .int vq4)] dX11_kinds_6 (by decide) rfl ?_
  refine r_iload (pc := 8) ok 0 dX11_kinds_8 rfl ?_
  refine r_if_eq (pc := 10) ok 16 dX11_kinds_10 (by decide) (fun _ => ?_) (fun _ => ?_)
  · refine r_aload_n (pc := 16) ok 1 dX11_kinds_16 rfl ?_
    refine r_iload_n (pc := 17) ok 4 dX11_kinds_17 rfl ?_
    refine r_callV0 (pc := 18) ok [.int vq3] [] 3 (fun rZ MZ hZ => con_X11_isOne g l vq3 _ rZ MZ hZ) cv_X11_176 ok_22 (rmOk_L (by decide) (by decide)) dX11_kinds_18 rfl rfl (Nat.le_of_ble_eq_true rfl) (fun r3 M4 => ?_)
    refine r_if_ne (pc := 21) ok 27 dX11_kinds_21 (by decide) (fun _ => ?_) (fun _ => ?_)
    · refine r_bipush (pc := 24) ok (-6) dX11_kinds_24 (by decide) ?_
      exact r_iret (pc := 26) ok (Nat.zero_le _) (Nat.zero_le _) rfl dX11_kinds_26
    · refine r_iload (pc := 27) ok 5 dX11_kinds_27 rfl ?_
      refine r_iconst (pc := 29) ok 0 dX11_kinds_29 (by decide) ?_
      refine r_iconst (pc := 30) ok 1 dX11_kinds_30 (by decide) ?_
      refine r_callS0 (pc := 31) ok [.int vq4, .int 0, .int 1] [] 2 (fun rZ MZ hZ => con_X11_in g l vq4 0 1 _ rZ MZ hZ) cs_X11_84 (rmOk_L (by decide) (by decide)) dX11_kinds_31 rfl rfl (Nat.le_of_ble_eq_true rfl) (fun r5 M6 => ?_)
      refine r_if_ne (pc := 34) ok 40 dX11_kinds_34 (by decide) (fun _ => ?_) (fun _ => ?_)
      · refine r_bipush (pc := 37) ok (-7) dX11_kinds_37 (by decide) ?_
        exact r_iret (pc := 39) ok (Nat.zero_le _) (Nat.zero_le _) rfl dX11_kinds_39
      · refine r_aload_n (pc := 40) ok 1 dX11_kinds_40 rfl ?_
        refine r_getR (pc := 41) ok fr_22_1 (by decide) fl_X11_7 dX11_kinds_41 ?_
        refine r_iload_n (pc := 44) ok 4 dX11_kinds_44 rfl ?_
        refine r_iald (pc := 45) ok ik_23 (by decide) dX11_kinds_45 (fun _ => ?_)
        refine r_nmi (fun w7 => ?_)
        refine r_istore (pc := 46) ok [(6, .int w7), (5, .int r1), (0, .ref (gA g 22 0)), (1, .int vq1), (2, .int vq2), (3, .int vq3), (4, .int vq4)] dX11_kinds_46 (by decide) rfl ?_
        refine r_aload_n (pc := 48) ok 2 dX11_kinds_48 rfl ?_
        refine r_getR (pc := 49) ok fr_22_2 (by decide) fl_X11_13 dX11_kinds_49 ?_
        refine r_iload_n (pc := 52) ok 5 dX11_kinds_52 rfl ?_
        refine r_iald (pc := 53) ok ik_24 (by decide) dX11_kinds_53 (fun _ => ?_)
        refine r_nmi (fun w8 => ?_)
        refine r_istore (pc := 54) ok [(7, .int w8), (6, .int w7), (5, .int r1), (0, .ref (gA g 22 0)), (1, .int vq1), (2, .int vq2), (3, .int vq3), (4, .int vq4)] dX11_kinds_54 (by decide) rfl ?_
        refine r_iconst (pc := 56) ok 0 dX11_kinds_56 (by decide) ?_
        refine r_istore (pc := 57) ok [(8, .int 0), (7, .int w8), (6, .int w7), (5, .int r1), (0, .ref (gA g 22 0)), (1, .int vq1), (2, .int vq2), (3, .int vq3), (4, .int vq4)] dX11_kinds_57 (by decide) rfl ?_
        refine r_iconst (pc := 59) ok 0 dX11_kinds_59 (by decide) ?_
        refine r_istore (pc := 60) ok [(9, .int 0), (8, .int 0), (7, .int w8), (6, .int w7), (5, .int r1), (0, .ref (gA g 22 0)), (1, .int vq1), (2, .int vq2), (3, .int vq3), (4, .int vq4)] dX11_kinds_60 (by decide) rfl ?_
        refine r_lv [5, 6, 7, 8, 9, 3, 2, 1, 0] [(0, .ref (gA g 22 0)), (1, .int vq1), (2, .int vq2), (3, .int vq3), (4, .int vq4), (6, .int w7), (7, .int w8), (8, .int 0), (9, .int 0)] rfl ?_
        exact sX11_kinds_L62 ok vq1 vq2 vq3 vq4 w7 w8 FU 0 0 M6
  · refine r_iload (pc := 13) ok 0 dX11_kinds_13 rfl ?_
    exact r_iret (pc := 15) ok (Nat.zero_le _) (Nat.zero_le _) rfl dX11_kinds_15
theorem con_X11_kinds (g : GP) (l : Launch) (vq1 : Int32) (vq2 : Int32) (vq3 : Int32) (vq4 : Int32)  (M : Mem) (r : Int32) (M2 : Mem) (h : fX11_kinds vq1 vq2 vq3 vq4 M = some (r, M2)) : Con g l yX11_kinds cX11_kinds 10 (some FieldType.int) (rmL 8) [.ref (gA g 22 0), .int vq1, .int vq2, .int vq3, .int vq4] M (eI r) M2 :=
  Con.of (own := RX11) (f := fX11_kinds vq1 vq2 vq3 vq4 M) (by decide) (Nat.le_of_ble_eq_true rfl) rfl (fun x ok => wX11_kinds ok vq1 vq2 vq3 vq4  M) r M2 h
