def fX11_cell (vq1 : Int32) (vq2 : Int32) (vq3 : Int32) (M : Mem) : Option (Int32 × Mem) :=
  ob (fX11_in vq1 0 3 M) fun r1 M2 =>
  if r1 = 0 then
    (some (-2, M2))
  else
    (gd (inb vq1 4)
    (if (M2 33 0 vq1.toNatClampNeg) = (-1) then
      (some (-11, M2))
    else
      (gd (inb vq1 4)
      (ob (fX11_in vq2 0 ((M2 34 0 vq1.toNatClampNeg) - 1) M2) fun r3 M4 =>
      if r3 = 0 then
        (some (-12, M4))
      else
        (gd (inb vq1 4)
        (if (M4 33 0 vq1.toNatClampNeg) = 0 then
          (gd (inb ((40 * vq1) + vq2) 160)
          (lt (mst M4 35 0 ((40 * vq1) + vq2).toNatClampNeg vq3.toInt8.toInt32) fun M7 =>
          some (1, M7)))
        else
          (gd (inb vq1 4)
          (if (M4 33 0 vq1.toNatClampNeg) = 1 then
            (gd (inb ((40 * vq1) + vq2) 160)
            (lt (mst M4 35 0 ((40 * vq1) + vq2).toNatClampNeg vq3.toInt16.toInt32) fun M6 =>
            some (1, M6)))
          else
            (gd (inb ((40 * vq1) + vq2) 160)
            (lt (mst M4 35 0 ((40 * vq1) + vq2).toNatClampNeg vq3) fun M5 =>
            some (1, M5)))))))))))
set_option maxRecDepth 20000 in
theorem wX11_cell {g : GP} {l : Launch} {x : CT} (ok : Ok g l x RX11 cX11_cell 4 (some FieldType.int) (rmL 3)) (vq1 : Int32) (vq2 : Int32) (vq3 : Int32)  (M : Mem) : Sw g l x (FinQ g x eI) 4 0 0 0 [(0, .ref (gA g 22 0)), (1, .int vq1), (2, .int vq2), (3, .int vq3)] [] M (fX11_cell vq1 vq2 vq3 M) := by
  unfold fX11_cell
  refine r_iload_n (pc := 0) ok 1 dX11_cell_0 rfl ?_
  refine r_iconst (pc := 1) ok 0 dX11_cell_1 (by decide) ?_
  refine r_iconst (pc := 2) ok 3 dX11_cell_2 (by decide) ?_
  refine r_callS0 (pc := 3) ok [.int vq1, .int 0, .int 3] [] 2 (fun rZ MZ hZ => con_X11_in g l vq1 0 3 _ rZ MZ hZ) cs_X11_84 (rmOk_L (by decide) (by decide)) dX11_cell_3 rfl rfl (Nat.le_of_ble_eq_true rfl) (fun r1 M2 => ?_)
  refine r_if_ne (pc := 6) ok 12 dX11_cell_6 (by decide) (fun _ => ?_) (fun _ => ?_)
  · refine r_bipush (pc := 9) ok (-2) dX11_cell_9 (by decide) ?_
    exact r_iret (pc := 11) ok (Nat.zero_le _) (Nat.zero_le _) rfl dX11_cell_11
  · refine r_aload_n (pc := 12) ok 0 dX11_cell_12 rfl ?_
    refine r_getR (pc := 13) ok fr_22_16 (by decide) fl_X11_40 dX11_cell_13 ?_
    refine r_iload_n (pc := 16) ok 1 dX11_cell_16 rfl ?_
    refine r_iald (pc := 17) ok ik_33 (by decide) dX11_cell_17 (fun _ => ?_)
    refine r_iconst (pc := 18) ok (-1) dX11_cell_18 (by decide) ?_
    refine r_icmp_ne (pc := 19) ok 25 dX11_cell_19 (by decide) (fun _ => ?_) (fun _ => ?_)
    · refine r_bipush (pc := 22) ok (-11) dX11_cell_22 (by decide) ?_
      exact r_iret (pc := 24) ok (Nat.zero_le _) (Nat.zero_le _) rfl dX11_cell_24
    · refine r_iload_n (pc := 25) ok 2 dX11_cell_25 rfl ?_
      refine r_iconst (pc := 26) ok 0 dX11_cell_26 (by decide) ?_
      refine r_aload_n (pc := 27) ok 0 dX11_cell_27 rfl ?_
      refine r_getR (pc := 28) ok fr_22_17 (by decide) fl_X11_43 dX11_cell_28 ?_
      refine r_iload_n (pc := 31) ok 1 dX11_cell_31 rfl ?_
      refine r_iald (pc := 32) ok ik_34 (by decide) dX11_cell_32 (fun _ => ?_)
      refine r_iconst (pc := 33) ok 1 dX11_cell_33 (by decide) ?_
      refine r_isub (pc := 34) ok dX11_cell_34 ?_
      refine r_callS0 (pc := 35) ok [.int vq2, .int 0, .int ((M2 34 0 vq1.toNatClampNeg) - 1)] [] 2 (fun rZ MZ hZ => con_X11_in g l vq2 0 ((M2 34 0 vq1.toNatClampNeg) - 1) _ rZ MZ hZ) cs_X11_84 (rmOk_L (by decide) (by decide)) dX11_cell_35 rfl rfl (Nat.le_of_ble_eq_true rfl) (fun r3 M4 => ?_)
      refine r_if_ne (pc := 38) ok 44 dX11_cell_38 (by decide) (fun _ => ?_) (fun _ => ?_)
      · refine r_bipush (pc := 41) ok (-12) dX11_cell_41 (by decide) ?_
        exact r_iret (pc := 43) ok (Nat.zero_le _) (Nat.zero_le _) rfl dX11_cell_43
      · refine r_aload_n (pc := 44) ok 0 dX11_cell_44 rfl ?_
        refine r_getR (pc := 45) ok fr_22_18 (by decide) fl_X11_46 dX11_cell_45 ?_
        refine r_bipush (pc := 48) ok 40 dX11_cell_48 (by decide) ?_
        refine r_iload_n (pc := 50) ok 1 dX11_cell_50 rfl ?_
        refine r_imul (pc := 51) ok dX11_cell_51 ?_
        refine r_iload_n (pc := 52) ok 2 dX11_cell_52 rfl ?_
        refine r_iadd (pc := 53) ok dX11_cell_53 ?_
        refine r_aload_n (pc := 54) ok 0 dX11_cell_54 rfl ?_
        refine r_getR (pc := 55) ok fr_22_16 (by decide) fl_X11_40 dX11_cell_55 ?_
        refine r_iload_n (pc := 58) ok 1 dX11_cell_58 rfl ?_
        refine r_iald (pc := 59) ok ik_33 (by decide) dX11_cell_59 (fun _ => ?_)
        refine r_if_ne (pc := 60) ok 68 dX11_cell_60 (by decide) (fun _ => ?_) (fun _ => ?_)
        · refine r_iload_n (pc := 63) ok 3 dX11_cell_63 rfl ?_
          refine r_i2b (pc := 64) ok dX11_cell_64 ?_
          refine r_goto (pc := 65) ok 84 dX11_cell_65 (by decide) ?_
          refine r_iast (pc := 84) ok ik_35 (by decide) dX11_cell_84 ?_
          refine r_nmM (fun M7 => ?_)
          refine r_iconst (pc := 85) ok 1 dX11_cell_85 (by decide) ?_
          exact r_iret (pc := 86) ok (Nat.zero_le _) (Nat.zero_le _) rfl dX11_cell_86
        · refine r_aload_n (pc := 68) ok 0 dX11_cell_68 rfl ?_
          refine r_getR (pc := 69) ok fr_22_16 (by decide) fl_X11_40 dX11_cell_69 ?_
          refine r_iload_n (pc := 72) ok 1 dX11_cell_72 rfl ?_
          refine r_iald (pc := 73) ok ik_33 (by decide) dX11_cell_73 (fun _ => ?_)
          refine r_iconst (pc := 74) ok 1 dX11_cell_74 (by decide) ?_
          refine r_icmp_ne (pc := 75) ok 83 dX11_cell_75 (by decide) (fun _ => ?_) (fun _ => ?_)
          · refine r_iload_n (pc := 78) ok 3 dX11_cell_78 rfl ?_
            refine r_i2s (pc := 79) ok dX11_cell_79 ?_
            refine r_goto (pc := 80) ok 84 dX11_cell_80 (by decide) ?_
            refine r_iast (pc := 84) ok ik_35 (by decide) dX11_cell_84 ?_
            refine r_nmM (fun M6 => ?_)
            refine r_iconst (pc := 85) ok 1 dX11_cell_85 (by decide) ?_
            exact r_iret (pc := 86) ok (Nat.zero_le _) (Nat.zero_le _) rfl dX11_cell_86
          · refine r_iload_n (pc := 83) ok 3 dX11_cell_83 rfl ?_
            refine r_iast (pc := 84) ok ik_35 (by decide) dX11_cell_84 ?_
            refine r_nmM (fun M5 => ?_)
            refine r_iconst (pc := 85) ok 1 dX11_cell_85 (by decide) ?_
            exact r_iret (pc := 86) ok (Nat.zero_le _) (Nat.zero_le _) rfl dX11_cell_86
theorem con_X11_cell (g : GP) (l : Launch) (vq1 : Int32) (vq2 : Int32) (vq3 : Int32)  (M : Mem) (r : Int32) (M2 : Mem) (h : fX11_cell vq1 vq2 vq3 M = some (r, M2)) : Con g l yX11_cell cX11_cell 4 (some FieldType.int) (rmL 3) [.ref (gA g 22 0), .int vq1, .int vq2, .int vq3] M (eI r) M2 :=
  Con.of (own := RX11) (f := fX11_cell vq1 vq2 vq3 M) (by decide) (Nat.le_of_ble_eq_true rfl) rfl (fun x ok => wX11_cell ok vq1 vq2 vq3  M) r M2 h
def fX11_copy_J173 (k147 : Int32 → Mem → Option (Int32 × Mem)) (vq5 : Int32) (vq6 : Int32) (vq7 : Int32) (vq8 : Int32) (s0 : Int32) (M : Mem) : Option (Int32 × Mem) :=
  gd (inb (vq6 + s0) 160)
  (gd (inb (vq7 + s0) 160)
  (lt (mst M 35 0 (vq7 + s0).toNatClampNeg (M 35 0 (vq6 + s0).toNatClampNeg)) fun M7 =>
  k147 (vq8 + 1) M7))
set_option maxRecDepth 20000 in
theorem sX11_copy_J173 {g : GP} {l : Launch} {x : CT} {k147 : Int32 → Mem → Option (Int32 × Mem)} (ok : Ok g l x RX11 cX11_copy 10 (some FieldType.int) (rmL 3)) (vq5 : Int32) (vq6 : Int32) (vq7 : Int32) (vq8 : Int32) (s0 : Int32)  (hk147 : ∀ (vq8 : Int32) (M : Mem), Sw g l x (FinQ g x eI) 10 0 0 147 [(0, .ref (gA g 22 0)), (5, .int vq5), (6, .int vq6), (7, .int vq7), (8, .int vq8)] [] M (k147 vq8 M)) (M : Mem) : Sw g l x (FinQ g x eI) 10 0 0 173 [(0, .ref (gA g 22 0)), (5, .int vq5), (6, .int vq6), (7, .int vq7), (8, .int vq8)] [.int s0] M (fX11_copy_J173 k147 vq5 vq6 vq7 vq8 s0 M) := by
  unfold fX11_copy_J173
  refine r_istore (pc := 173) ok [(9, .int s0), (0, .ref (gA g 22 0)), (5, .int vq5), (6, .int vq6), (7, .int vq7), (8, .int vq8)] dX11_copy_173 (by decide) rfl ?_
  refine r_aload_n (pc := 175) ok 1 dX11_copy_175 rfl ?_
  refine r_getR (pc := 176) ok fr_22_18 (by decide) fl_X11_46 dX11_copy_176 ?_
  refine r_iload (pc := 179) ok 4 dX11_copy_179 rfl ?_
  refine r_iload (pc := 181) ok 0 dX11_copy_181 rfl ?_
  refine r_iadd (pc := 183) ok dX11_copy_183 ?_
  refine r_aload_n (pc := 184) ok 1 dX11_copy_184 rfl ?_
  refine r_getR (pc := 185) ok fr_22_18 (by decide) fl_X11_46 dX11_copy_185 ?_
  refine r_iload (pc := 188) ok 3 dX11_copy_188 rfl ?_
  refine r_iload (pc := 190) ok 0 dX11_copy_190 rfl ?_
  refine r_iadd (pc := 192) ok dX11_copy_192 ?_
  refine r_iald (pc := 193) ok ik_35 (by decide) dX11_copy_193 (fun _ => ?_)
  refine r_iast (pc := 194) ok ik_35 (by decide) dX11_copy_194 ?_
  refine r_nmM (fun M7 => ?_)
  refine r_iinc (pc := 195) ok 5 (vq8 + 1) [(8, .int (vq8 + 1)), (9, .int s0), (0, .ref (gA g 22 0)), (5, .int vq5), (6, .int vq6), (7, .int vq7)] dX11_copy_195 rfl (congrArg (fun z => vq8 + z) (by decide : Int32.ofInt 1 = (1 : Int32))) (by decide) rfl ?_
  refine r_goto (pc := 198) ok 147 dX11_copy_198 (by decide) ?_
  refine r_lv [2, 3, 4, 5, 0] [(0, .ref (gA g 22 0)), (5, .int vq5), (6, .int vq6), (7, .int vq7), (8, .int (vq8 + 1))] rfl ?_
  exact hk147 (vq8 + 1) M7
def fX11_copy_B147 (vq5 : Int32) (vq6 : Int32) (vq7 : Int32) (k147 : Int32 → Mem → Option (Int32 × Mem)) (vq8 : Int32) (M : Mem) : Option (Int32 × Mem) :=
  if vq5 ≤ vq8 then
    (some (vq5, M))
  else
    (if vq7 ≤ vq6 then
      (fX11_copy_J173 k147 vq5 vq6 vq7 vq8 vq8 M)
    else
      (fX11_copy_J173 k147 vq5 vq6 vq7 vq8 ((vq5 - 1) - vq8) M))
def fX11_copy_L147 (vq5 : Int32) (vq6 : Int32) (vq7 : Int32) : Nat → Int32 → Mem → Option (Int32 × Mem)
  | 0, _, _ => none
  | n + 1, vq8, M => fX11_copy_B147 vq5 vq6 vq7 (fX11_copy_L147 vq5 vq6 vq7 n) vq8 M
set_option maxRecDepth 20000 in
theorem sX11_copy_B147 {g : GP} {l : Launch} {x : CT} (ok : Ok g l x RX11 cX11_copy 10 (some FieldType.int) (rmL 3)) (vq5 : Int32) (vq6 : Int32) (vq7 : Int32)  (k147 : Int32 → Mem → Option (Int32 × Mem)) (hk147 : ∀ (vq8 : Int32) (M : Mem), Sw g l x (FinQ g x eI) 10 0 0 147 [(0, .ref (gA g 22 0)), (5, .int vq5), (6, .int vq6), (7, .int vq7), (8, .int vq8)] [] M (k147 vq8 M)) (vq8 : Int32) (M : Mem) : Sw g l x (FinQ g x eI) 10 0 0 147 [(0, .ref (gA g 22 0)), (5, .int vq5), (6, .int vq6), (7, .int vq7), (8, .int vq8)] [] M (fX11_copy_B147 vq5 vq6 vq7 k147 vq8 M) := by
  unfold fX11_copy_B147
  refine r_iload (pc := 147) ok 4 dX11_copy_147 rfl ?_
  refine r_iload (pc := 149) ok 1 dX11_copy_149 rfl ?_
  refine r_icmp_ge (pc := 151) ok 201 dX11_copy_151 (by decide) (fun _ => ?_) (fun _ => ?_)
  · refine r_iload (pc := 201) ok 1 dX11_copy_201 rfl ?_
    exact r_iret (pc := 203) ok (Nat.zero_le _) (Nat.zero_le _) rfl dX11_copy_203
  · refine r_iload (pc := 154) ok 2 dX11_copy_154 rfl ?_
    refine r_iload (pc := 156) ok 3 dX11_copy_156 rfl ?_
    refine r_icmp_ge (pc := 158) ok 171 dX11_copy_158 (by decide) (fun _ => ?_) (fun _ => ?_)
    · refine r_iload (pc := 171) ok 4 dX11_copy_171 rfl ?_
      refine r_lv [0, 1, 2, 3, 4] [(0, .ref (gA g 22 0)), (5, .int vq5), (6, .int vq6), (7, .int vq7), (8, .int vq8)] rfl ?_
      exact sX11_copy_J173 ok vq5 vq6 vq7 vq8 vq8 hk147 M
    · refine r_iload (pc := 161) ok 1 dX11_copy_161 rfl ?_
      refine r_iconst (pc := 163) ok 1 dX11_copy_163 (by decide) ?_
      refine r_isub (pc := 164) ok dX11_copy_164 ?_
      refine r_iload (pc := 165) ok 4 dX11_copy_165 rfl ?_
      refine r_isub (pc := 167) ok dX11_copy_167 ?_
      refine r_goto (pc := 168) ok 173 dX11_copy_168 (by decide) ?_
      refine r_lv [0, 1, 2, 3, 4] [(0, .ref (gA g 22 0)), (5, .int vq5), (6, .int vq6), (7, .int vq7), (8, .int vq8)] rfl ?_
      exact sX11_copy_J173 ok vq5 vq6 vq7 vq8 ((vq5 - 1) - vq8) hk147 M
theorem sX11_copy_L147 {g : GP} {l : Launch} {x : CT} (ok : Ok g l x RX11 cX11_copy 10 (some FieldType.int) (rmL 3)) (vq5 : Int32) (vq6 : Int32) (vq7 : Int32)  : ∀ (n : Nat) (vq8 : Int32) (M : Mem), Sw g l x (FinQ g x eI) 10 0 0 147 [(0, .ref (gA g 22 0)), (5, .int vq5), (6, .int vq6), (7, .int vq7), (8, .int vq8)] [] M (fX11_copy_L147 vq5 vq6 vq7 n vq8 M) := by
  intro n
  induction n with
  | zero => intros; exact r_none
  | succ n ih => intro vq8 M; exact sX11_copy_B147 ok vq5 vq6 vq7  _ ih vq8 M
def fX11_copy (vq1 : Int32) (vq2 : Int32) (vq3 : Int32) (vq4 : Int32) (vq5 : Int32) (M : Mem) : Option (Int32 × Mem) :=
  ob (fX11_in vq1 0 3 M) fun r1 M2 =>
  if r1 = 0 then
    (some (-2, M2))
  else
    (ob (fX11_in vq3 0 3 M2) fun r3 M4 =>
    if r3 = 0 then
      (some (-2, M4))
    else
      (gd (inb vq1 4)
      (if (M4 33 0 vq1.toNatClampNeg) = (-1) then
        (some (-11, M4))
      else
        (gd (inb vq3 4)
        (if (M4 33 0 vq3.toNatClampNeg) = (-1) then
          (some (-11, M4))
        else
          (gd (inb vq1 4)
          (gd (inb vq3 4)
          (if (M4 33 0 vq1.toNatClampNeg) = (M4 33 0 vq3.toNatClampNeg) then
            (if vq5 < 0 then
              (some (-12, M4))
            else
              (if vq2 < 0 then
                (some (-12, M4))
              else
                (if vq4 < 0 then
                  (some (-12, M4))
                else
                  (gd (inb vq1 4)
                  (if (M4 34 0 vq1.toNatClampNeg) < vq2 then
                    (some (-12, M4))
                  else
                    (gd (inb vq3 4)
                    (if (M4 34 0 vq3.toNatClampNeg) < vq4 then
                      (some (-12, M4))
                    else
                      (gd (inb vq1 4)
                      (if ((M4 34 0 vq1.toNatClampNeg) - vq2) < vq5 then
                        (some (-12, M4))
                      else
                        (gd (inb vq3 4)
                        (if vq5 ≤ ((M4 34 0 vq3.toNatClampNeg) - vq4) then
                          (lt ((40 * vq1) + vq2) fun w5 =>
                          lt ((40 * vq3) + vq4) fun w6 =>
                          fX11_copy_L147 vq5 w5 w6 FU 0 M4)
                        else
                          (some (-12, M4)))))))))))))
          else
            (some (-13, M4))))))))))
set_option maxRecDepth 20000 in
theorem wX11_copy {g : GP} {l : Launch} {x : CT} (ok : Ok g l x RX11 cX11_copy 10 (some FieldType.int) (rmL 3)) (vq1 : Int32) (vq2 : Int32) (vq3 : Int32) (vq4 : Int32) (vq5 : Int32)  (M : Mem) : Sw g l x (FinQ g x eI) 10 0 0 0 [(0, .ref (gA g 22 0)), (1, .int vq1), (2, .int vq2), (3, .int vq3), (4, .int vq4), (5, .int vq5)] [] M (fX11_copy vq1 vq2 vq3 vq4 vq5 M) := by
  unfold fX11_copy
  refine r_iload_n (pc := 0) ok 1 dX11_copy_0 rfl ?_
  refine r_iconst (pc := 1) ok 0 dX11_copy_1 (by decide) ?_
  refine r_iconst (pc := 2) ok 3 dX11_copy_2 (by decide) ?_
  refine r_callS0 (pc := 3) ok [.int vq1, .int 0, .int 3] [] 2 (fun rZ MZ hZ => con_X11_in g l vq1 0 3 _ rZ MZ hZ) cs_X11_84 (rmOk_L (by decide) (by decide)) dX11_copy_3 rfl rfl (Nat.le_of_ble_eq_true rfl) (fun r1 M2 => ?_)
  refine r_if_eq (pc := 6) ok 18 dX11_copy_6 (by decide) (fun _ => ?_) (fun _ => ?_)
  · refine r_bipush (pc := 18) ok (-2) dX11_copy_18 (by decide) ?_
    exact r_iret (pc := 20) ok (Nat.zero_le _) (Nat.zero_le _) rfl dX11_copy_20
  · refine r_iload_n (pc := 9) ok 3 dX11_copy_9 rfl ?_
    refine r_iconst (pc := 10) ok 0 dX11_copy_10 (by decide) ?_
    refine r_iconst (pc := 11) ok 3 dX11_copy_11 (by decide) ?_
    refine r_callS0 (pc := 12) ok [.int vq3, .int 0, .int 3] [] 2 (fun rZ MZ hZ => con_X11_in g l vq3 0 3 _ rZ MZ hZ) cs_X11_84 (rmOk_L (by decide) (by decide)) dX11_copy_12 rfl rfl (Nat.le_of_ble_eq_true rfl) (fun r3 M4 => ?_)
    refine r_if_ne (pc := 15) ok 21 dX11_copy_15 (by decide) (fun _ => ?_) (fun _ => ?_)
    · refine r_bipush (pc := 18) ok (-2) dX11_copy_18 (by decide) ?_
      exact r_iret (pc := 20) ok (Nat.zero_le _) (Nat.zero_le _) rfl dX11_copy_20
    · refine r_aload_n (pc := 21) ok 0 dX11_copy_21 rfl ?_
      refine r_getR (pc := 22) ok fr_22_16 (by decide) fl_X11_40 dX11_copy_22 ?_
      refine r_iload_n (pc := 25) ok 1 dX11_copy_25 rfl ?_
      refine r_iald (pc := 26) ok ik_33 (by decide) dX11_copy_26 (fun _ => ?_)
      refine r_iconst (pc := 27) ok (-1) dX11_copy_27 (by decide) ?_
      refine r_icmp_eq (pc := 28) ok 41 dX11_copy_28 (by decide) (fun _ => ?_) (fun _ => ?_)
      · refine r_bipush (pc := 41) ok (-11) dX11_copy_41 (by decide) ?_
        exact r_iret (pc := 43) ok (Nat.zero_le _) (Nat.zero_le _) rfl dX11_copy_43
      · refine r_aload_n (pc := 31) ok 0 dX11_copy_31 rfl ?_
        refine r_getR (pc := 32) ok fr_22_16 (by decide) fl_X11_40 dX11_copy_32 ?_
        refine r_iload_n (pc := 35) ok 3 dX11_copy_35 rfl ?_
        refine r_iald (pc := 36) ok ik_33 (by decide) dX11_copy_36 (fun _ => ?_)
        refine r_iconst (pc := 37) ok (-1) dX11_copy_37 (by decide) ?_
        refine r_icmp_ne (pc := 38) ok 44 dX11_copy_38 (by decide) (fun _ => ?_) (fun _ => ?_)
        · refine r_bipush (pc := 41) ok (-11) dX11_copy_41 (by decide) ?_
          exact r_iret (pc := 43) ok (Nat.zero_le _) (Nat.zero_le _) rfl dX11_copy_43
        · refine r_aload_n (pc := 44) ok 0 dX11_copy_44 rfl ?_
          refine r_getR (pc := 45) ok fr_22_16 (by decide) fl_X11_40 dX11_copy_45 ?_
          refine r_iload_n (pc := 48) ok 1 dX11_copy_48 rfl ?_
          refine r_iald (pc := 49) ok ik_33 (by decide) dX11_copy_49 (fun _ => ?_)
          refine r_aload_n (pc := 50) ok 0 dX11_copy_50 rfl ?_
          refine r_getR (pc := 51) ok fr_22_16 (by decide) fl_X11_40 dX11_copy_51 ?_
          refine r_iload_n (pc := 54) ok 3 dX11_copy_54 rfl ?_
          refine r_iald (pc := 55) ok ik_33 (by decide) dX11_copy_55 (fun _ => ?_)
          refine r_icmp_eq (pc := 56) ok 62 dX11_copy_56 (by decide) (fun _ => ?_) (fun _ => ?_)
          · refine r_iload (pc := 62) ok 5 dX11_copy_62 rfl ?_
            refine r_if_lt (pc := 64) ok 124 dX11_copy_64 (by decide) (fun _ => ?_) (fun _ => ?_)
            · refine r_bipush (pc := 124) ok (-12) dX11_copy_124 (by decide) ?_
              exact r_iret (pc := 126) ok (Nat.zero_le _) (Nat.zero_le _) rfl dX11_copy_126
            · refine r_iload_n (pc := 67) ok 2 dX11_copy_67 rfl ?_
              refine r_if_lt (pc := 68) ok 124 dX11_copy_68 (by decide) (fun _ => ?_) (fun _ => ?_)
              · refine r_bipush (pc := 124) ok (-12) dX11_copy_124 (by decide) ?_
                exact r_iret (pc := 126) ok (Nat.zero_le _) (Nat.zero_le _) rfl dX11_copy_126
              · refine r_iload (pc := 71) ok 4 dX11_copy_71 rfl ?_
                refine r_if_lt (pc := 73) ok 124 dX11_copy_73 (by decide) (fun _ => ?_) (fun _ => ?_)
                · refine r_bipush (pc := 124) ok (-12) dX11_copy_124 (by decide) ?_
                  exact r_iret (pc := 126) ok (Nat.zero_le _) (Nat.zero_le _) rfl dX11_copy_126
                · refine r_iload_n (pc := 76) ok 2 dX11_copy_76 rfl ?_
                  refine r_aload_n (pc := 77) ok 0 dX11_copy_77 rfl ?_
                  refine r_getR (pc := 78) ok fr_22_17 (by decide) fl_X11_43 dX11_copy_78 ?_
                  refine r_iload_n (pc := 81) ok 1 dX11_copy_81 rfl ?_
                  refine r_iald (pc := 82) ok ik_34 (by decide) dX11_copy_82 (fun _ => ?_)
                  refine r_icmp_gt (pc := 83) ok 124 dX11_copy_83 (by decide) (fun _ => ?_) (fun _ => ?_)
                  · refine r_bipush (pc := 124) ok (-12) dX11_copy_124 (by decide) ?_
                    exact r_iret (pc := 126) ok (Nat.zero_le _) (Nat.zero_le _) rfl dX11_copy_126
                  · refine r_iload (pc := 86) ok 4 dX11_copy_86 rfl ?_
                    refine r_aload_n (pc := 88) ok 0 dX11_copy_88 rfl ?_
                    refine r_getR (pc := 89) ok fr_22_17 (by decide) fl_X11_43 dX11_copy_89 ?_
                    refine r_iload_n (pc := 92) ok 3 dX11_copy_92 rfl ?_
                    refine r_iald (pc := 93) ok ik_34 (by decide) dX11_copy_93 (fun _ => ?_)
                    refine r_icmp_gt (pc := 94) ok 124 dX11_copy_94 (by decide) (fun _ => ?_) (fun _ => ?_)
                    · refine r_bipush (pc := 124) ok (-12) dX11_copy_124 (by decide) ?_
                      exact r_iret (pc := 126) ok (Nat.zero_le _) (Nat.zero_le _) rfl dX11_copy_126
                    · refine r_iload (pc := 97) ok 5 dX11_copy_97 rfl ?_
                      refine r_aload_n (pc := 99) ok 0 dX11_copy_99 rfl ?_
                      refine r_getR (pc := 100) ok fr_22_17 (by decide) fl_X11_43 dX11_copy_100 ?_
                      refine r_iload_n (pc := 103) ok 1 dX11_copy_103 rfl ?_
                      refine r_iald (pc := 104) ok ik_34 (by decide) dX11_copy_104 (fun _ => ?_)
                      refine r_iload_n (pc := 105) ok 2 dX11_copy_105 rfl ?_
                      refine r_isub (pc := 106) ok dX11_copy_106 ?_
                      refine r_icmp_gt (pc := 107) ok 124 dX11_copy_107 (by decide) (fun _ => ?_) (fun _ => ?_)
                      · refine r_bipush (pc := 124) ok (-12) dX11_copy_124 (by decide) ?_
                        exact r_iret (pc := 126) ok (Nat.zero_le _) (Nat.zero_le _) rfl dX11_copy_126
                      · refine r_iload (pc := 110) ok 5 dX11_copy_110 rfl ?_
                        refine r_aload_n (pc := 112) ok 0 dX11_copy_112 rfl ?_
                        refine r_getR (pc := 113) ok fr_22_17 (by decide) fl_X11_43 dX11_copy_113 ?_
                        refine r_iload_n (pc := 116) ok 3 dX11_copy_116 rfl ?_
                        refine r_iald (pc := 117) ok ik_34 (by decide) dX11_copy_117 (fun _ => ?_)
                        refine r_iload (pc := 118) ok 4 dX11_copy_118 rfl ?_
                        refine r_isub (pc := 120) ok dX11_copy_120 ?_
                        refine r_icmp_le (pc := 121) ok 127 dX11_copy_121 (by decide) (fun _ => ?_) (fun _ => ?_)
                        · refine r_bipush (pc := 127) ok 40 dX11_copy_127 (by decide) ?_
                          refine r_iload_n (pc := 129) ok 1 dX11_copy_129 rfl ?_
                          refine r_imul (pc := 130) ok dX11_copy_130 ?_
                          refine r_iload_n (pc := 131) ok 2 dX11_copy_131 rfl ?_
                          refine r_iadd (pc := 132) ok dX11_copy_132 ?_
                          refine r_nmi (fun w5 => ?_)
                          refine r_istore (pc := 133) ok [(6, .int w5), (0, .ref (gA g 22 0)), (1, .int vq1), (2, .int vq2), (3, .int vq3), (4, .int vq4), (5, .int vq5)] dX11_copy_133 (by decide) rfl ?_
                          refine r_bipush (pc := 135) ok 40 dX11_copy_135 (by decide) ?_
                          refine r_iload_n (pc := 137) ok 4 dX11_copy_137 rfl ?_
                          refine r_imul (pc := 138) ok dX11_copy_138 ?_
                          refine r_iload (pc := 139) ok 5 dX11_copy_139 rfl ?_
                          refine r_iadd (pc := 141) ok dX11_copy_141 ?_
                          refine r_nmi (fun w6 => ?_)
                          refine r_istore (pc := 142) ok [(7, .int w6), (6, .int w5), (0, .ref (gA g 22 0)), (1, .int vq1), (2, .int vq2), (3, .int vq3), (4, .int vq4), (5, .int vq5)] dX11_copy_142 (by decide) rfl ?_
                          refine r_iconst (pc := 144) ok 0 dX11_copy_144 (by decide) ?_
                          refine r_istore (pc := 145) ok [(8, .int 0), (7, .int w6), (6, .int w5), (0, .ref (gA g 22 0)), (1, .int vq1), (2, .int vq2), (3, .int vq3), (4, .int vq4), (5, .int vq5)] dX11_copy_145 (by decide) rfl ?_
                          refine r_lv [3, 8, 2, 1, 0] [(0, .ref (gA g 22 0)), (5, .int vq5), (6, .int w5), (7, .int w6), (8, .int 0)] rfl ?_
                          exact sX11_copy_L147 ok vq5 w5 w6 FU 0 M4
                        · refine r_bipush (pc := 124) ok (-12) dX11_copy_124 (by decide) ?_
                          exact r_iret (pc := 126) ok (Nat.zero_le _) (Nat.zero_le _) rfl dX11_copy_126
          · refine r_bipush (pc := 59) ok (-13) dX11_copy_59 (by decide) ?_
            exact r_iret (pc := 61) ok (Nat.zero_le _) (Nat.zero_le _) rfl dX11_copy_61
theorem con_X11_copy (g : GP) (l : Launch) (vq1 : Int32) (vq2 : Int32) (vq3 : Int32) (vq4 : Int32) (vq5 : Int32)  (M : Mem) (r : Int32) (M2 : Mem) (h : fX11_copy vq1 vq2 vq3 vq4 vq5 M = some (r, M2)) : Con g l yX11_copy cX11_copy 10 (some FieldType.int) (rmL 3) [.ref (gA g 22 0), .int vq1, .int vq2, .int vq3, .int vq4, .int vq5] M (eI r) M2 :=
  Con.of (own := RX11) (f := fX11_copy vq1 vq2 vq3 vq4 vq5 M) (by decide) (Nat.le_of_ble_eq_true rfl) rfl (fun x ok => wX11_copy ok vq1 vq2 vq3 vq4 vq5  M) r M2 h
def fX11_taken (vq1 : Int32) (vq2 : Int32) (M : Mem) : Option (Int32 × Mem) :=
  ob (fX11_in vq2 0 6 M) fun r1 M2 =>
  if r1 = 0 then
    (some (-2, M2))
  else
    (ob (fX11_in vq1 0 41 M2) fun r3 M4 =>
    if r3 = 0 then
      (some (-12, M4))
    else
      (if vq1 < 6 then
        (if vq1 < (M4 22 0 0) then
          (if 6 ≤ vq2 then
            (some (-13, M4))
          else
            (gd (inb vq1 6)
            (ob (fX11_isUnder (M4 23 0 vq1.toNatClampNeg) vq2 M4) fun r5 M6 =>
            if r5 = 0 then
              (some (-13, M6))
            else
              (some (vq1, M6)))))
        else
          (some (-11, M4)))
      else
        (if vq2 = 6 then
          (ob (fX11_within (vq1 - 6) 0 35 M4) fun r7 M8 =>
          gd (inb r7 36)
          (some (M8 27 0 r7.toNatClampNeg, M8)))
        else
          (some (-13, M4)))))
set_option maxRecDepth 20000 in
theorem wX11_taken {g : GP} {l : Launch} {x : CT} (ok : Ok g l x RX11 cX11_taken 3 (some FieldType.int) (rmL 3)) (vq1 : Int32) (vq2 : Int32)  (M : Mem) : Sw g l x (FinQ g x eI) 3 0 0 0 [(0, .ref (gA g 22 0)), (1, .int vq1), (2, .int vq2)] [] M (fX11_taken vq1 vq2 M) := by
  unfold fX11_taken
  refine r_iload_n (pc := 0) ok 2 dX11_taken_0 rfl ?_
  refine r_iconst (pc := 1) ok 0 dX11_taken_1 (by decide) ?_
  refine r_bipush (pc := 2) ok 6 dX11_taken_2 (by decide) ?_
  refine r_callS0 (pc := 4) ok [.int vq2, .int 0, .int 6] [] 2 (fun rZ MZ hZ => con_X11_in g l vq2 0 6 _ rZ MZ hZ) cs_X11_84 (rmOk_L (by decide) (by decide)) dX11_taken_4 rfl rfl (Nat.le_of_ble_eq_true rfl) (fun r1 M2 => ?_)
  refine r_if_ne (pc := 7) ok 13 dX11_taken_7 (by decide) (fun _ => ?_) (fun _ => ?_)
  · refine r_bipush (pc := 10) ok (-2) dX11_taken_10 (by decide) ?_
    exact r_iret (pc := 12) ok (Nat.zero_le _) (Nat.zero_le _) rfl dX11_taken_12
  · refine r_iload_n (pc := 13) ok 1 dX11_taken_13 rfl ?_
    refine r_iconst (pc := 14) ok 0 dX11_taken_14 (by decide) ?_
    refine r_bipush (pc := 15) ok 41 dX11_taken_15 (by decide) ?_
    refine r_callS0 (pc := 17) ok [.int vq1, .int 0, .int 41] [] 2 (fun rZ MZ hZ => con_X11_in g l vq1 0 41 _ rZ MZ hZ) cs_X11_84 (rmOk_L (by decide) (by decide)) dX11_taken_17 rfl rfl (Nat.le_of_ble_eq_true rfl) (fun r3 M4 => ?_)
    refine r_if_ne (pc := 20) ok 26 dX11_taken_20 (by decide) (fun _ => ?_) (fun _ => ?_)
    · refine r_bipush (pc := 23) ok (-12) dX11_taken_23 (by decide) ?_
      exact r_iret (pc := 25) ok (Nat.zero_le _) (Nat.zero_le _) rfl dX11_taken_25
    · refine r_iload_n (pc := 26) ok 1 dX11_taken_26 rfl ?_
      refine r_bipush (pc := 27) ok 6 dX11_taken_27 (by decide) ?_
      refine r_icmp_lt (pc := 29) ok 59 dX11_taken_29 (by decide) (fun _ => ?_) (fun _ => ?_)
      · refine r_iload_n (pc := 59) ok 1 dX11_taken_59 rfl ?_
        refine r_aload_n (pc := 60) ok 0 dX11_taken_60 rfl ?_
        refine r_getI (pc := 61) ok fi_22_0 (by decide) fl_X11_81 dX11_taken_61 ?_
        refine r_icmp_lt (pc := 64) ok 72 dX11_taken_64 (by decide) (fun _ => ?_) (fun _ => ?_)
        · refine r_iload_n (pc := 72) ok 2 dX11_taken_72 rfl ?_
          refine r_bipush (pc := 73) ok 6 dX11_taken_73 (by decide) ?_
          refine r_icmp_ge (pc := 75) ok 95 dX11_taken_75 (by decide) (fun _ => ?_) (fun _ => ?_)
          · refine r_bipush (pc := 95) ok (-13) dX11_taken_95 (by decide) ?_
            exact r_iret (pc := 97) ok (Nat.zero_le _) (Nat.zero_le _) rfl dX11_taken_97
          · refine r_aload_n (pc := 78) ok 0 dX11_taken_78 rfl ?_
            refine r_getR (pc := 79) ok fr_22_1 (by decide) fl_X11_7 dX11_taken_79 ?_
            refine r_iload_n (pc := 82) ok 1 dX11_taken_82 rfl ?_
            refine r_iald (pc := 83) ok ik_23 (by decide) dX11_taken_83 (fun _ => ?_)
            refine r_iload_n (pc := 84) ok 2 dX11_taken_84 rfl ?_
            refine r_callS0 (pc := 85) ok [.int (M4 23 0 vq1.toNatClampNeg), .int vq2] [] 2 (fun rZ MZ hZ => con_X11_isUnder g l (M4 23 0 vq1.toNatClampNeg) vq2 _ rZ MZ hZ) cs_X11_279 (rmOk_L (by decide) (by decide)) dX11_taken_85 rfl rfl (Nat.le_of_ble_eq_true rfl) (fun r5 M6 => ?_)
            refine r_if_eq (pc := 88) ok 95 dX11_taken_88 (by decide) (fun _ => ?_) (fun _ => ?_)
            · refine r_bipush (pc := 95) ok (-13) dX11_taken_95 (by decide) ?_
              exact r_iret (pc := 97) ok (Nat.zero_le _) (Nat.zero_le _) rfl dX11_taken_97
            · refine r_iload_n (pc := 91) ok 1 dX11_taken_91 rfl ?_
              refine r_goto (pc := 92) ok 97 dX11_taken_92 (by decide) ?_
              exact r_iret (pc := 97) ok (Nat.zero_le _) (Nat.zero_le _) rfl dX11_taken_97
        · refine r_bipush (pc := 67) ok (-11) dX11_taken_67 (by decide) ?_
          refine r_goto (pc := 69) ok 97 dX11_taken_69 (by decide) ?_
          exact r_iret (pc := 97) ok (Nat.zero_le _) (Nat.zero_le _) rfl dX11_taken_97
      · refine r_iload_n (pc := 32) ok 2 dX11_taken_32 rfl ?_
        refine r_bipush (pc := 33) ok 6 dX11_taken_33 (by decide) ?_
        refine r_icmp_ne (pc := 35) ok 56 dX11_taken_35 (by decide) (fun _ => ?_) (fun _ => ?_)
        · refine r_aload_n (pc := 38) ok 0 dX11_taken_38 rfl ?_
          refine r_getR (pc := 39) ok fr_22_5 (by decide) fl_X11_22 dX11_taken_39 ?_
          refine r_iload_n (pc := 42) ok 1 dX11_taken_42 rfl ?_
          refine r_bipush (pc := 43) ok 6 dX11_taken_43 (by decide) ?_
          refine r_isub (pc := 45) ok dX11_taken_45 ?_
          refine r_iconst (pc := 46) ok 0 dX11_taken_46 (by decide) ?_
          refine r_bipush (pc := 47) ok 35 dX11_taken_47 (by decide) ?_
          refine r_callS0 (pc := 49) ok [.int (vq1 - 6), .int 0, .int 35] [.ref (gA g 27 0)] 2 (fun rZ MZ hZ => con_X11_within g l (vq1 - 6) 0 35 _ rZ MZ hZ) cs_X11_173 (rmOk_L (by decide) (by decide)) dX11_taken_49 rfl rfl (Nat.le_of_ble_eq_true rfl) (fun r7 M8 => ?_)
          refine r_iald (pc := 52) ok ik_27 (by decide) dX11_taken_52 (fun _ => ?_)
          refine r_goto (pc := 53) ok 58 dX11_taken_53 (by decide) ?_
          exact r_iret (pc := 58) ok (Nat.zero_le _) (Nat.zero_le _) rfl dX11_taken_58
        · refine r_bipush (pc := 56) ok (-13) dX11_taken_56 (by decide) ?_
          exact r_iret (pc := 58) ok (Nat.zero_le _) (Nat.zero_le _) rfl dX11_taken_58
theorem con_X11_taken (g : GP) (l : Launch) (vq1 : Int32) (vq2 : Int32)  (M : Mem) (r : Int32) (M2 : Mem) (h : fX11_taken vq1 vq2 M = some (r, M2)) : Con g l yX11_taken cX11_taken 3 (some FieldType.int) (rmL 3) [.ref (gA g 22 0), .int vq1, .int vq2] M (eI r) M2 :=
  Con.of (own := RX11) (f := fX11_taken vq1 vq2 M) (by decide) (Nat.le_of_ble_eq_true rfl) rfl (fun x ok => wX11_taken ok vq1 vq2  M) r M2 h
def fX4_isLetter (vq0 : Int32) (M : Mem) : Option (Int32 × Mem) :=
  ob (fX10_within vq0 97 122 M) fun r1 M2 =>
  gd (isB r1) (some (r1, M2))
set_option maxRecDepth 20000 in
theorem wX4_isLetter {g : GP} {l : Launch} {x : CT} (ok : Ok g l x RX4 cX4_isLetter 1 (some FieldType.boolean) (rmL 3)) (vq0 : Int32)  (M : Mem) : Sw g l x (FinQ g x eI) 1 0 0 0 [(0, .int vq0)] [] M (fX4_isLetter vq0 M) := by
  unfold fX4_isLetter
  refine r_iload_n (pc := 0) ok 0 dX4_isLetter_0 rfl ?_
  refine r_bipush (pc := 1) ok 97 dX4_isLetter_1 (by decide) ?_
  refine r_bipush (pc := 3) ok 122 dX4_isLetter_3 (by decide) ?_
  refine r_callSN0 (pc := 5) ok [.int vq0, .int 97, .int 122] [] 2 (fun rZ MZ hZ => con_X10_within g l vq0 97 122 _ rZ MZ hZ) csN_X4_100 (rmOk_L (by decide) (by decide)) dX4_isLetter_5 rfl rfl (Nat.le_of_ble_eq_true rfl) (fun r1 M2 => ?_)
  refine r_gd (fun hz3 => ?_)
  exact r_zret (pc := 8) ok (Nat.zero_le _) (Nat.zero_le _) (isB_of hz3) rfl dX4_isLetter_8
theorem con_X4_isLetter (g : GP) (l : Launch) (vq0 : Int32)  (M : Mem) (r : Int32) (M2 : Mem) (h : fX4_isLetter vq0 M = some (r, M2)) : Con g l yX4_isLetter cX4_isLetter 1 (some FieldType.boolean) (rmL 3) [.int vq0] M (eI r) M2 :=
  Con.of (own := RX4) (f := fX4_isLetter vq0 M) (by decide) (Nat.le_of_ble_eq_true rfl) rfl (fun x ok => wX4_isLetter ok vq0  M) r M2 h
def fX4_isDigit (vq0 : Int32) (M : Mem) : Option (Int32 × Mem) :=
  ob (fX10_within vq0 48 57 M) fun r1 M2 =>
  gd (isB r1) (some (r1, M2))
set_option maxRecDepth 20000 in
theorem wX4_isDigit {g : GP} {l : Launch} {x : CT} (ok : Ok g l x RX4 cX4_isDigit 1 (some FieldType.boolean) (rmL 3)) (vq0 : Int32)  (M : Mem) : Sw g l x (FinQ g x eI) 1 0 0 0 [(0, .int vq0)] [] M (fX4_isDigit vq0 M) := by
  unfold fX4_isDigit
  refine r_iload_n (pc := 0) ok 0 dX4_isDigit_0 rfl ?_
  refine r_bipush (pc := 1) ok 48 dX4_isDigit_1 (by decide) ?_
  refine r_bipush (pc := 3) ok 57 dX4_isDigit_3 (by decide) ?_
  refine r_callSN0 (pc := 5) ok [.int vq0, .int 48, .int 57] [] 2 (fun rZ MZ hZ => con_X10_within g l vq0 48 57 _ rZ MZ hZ) csN_X4_100 (rmOk_L (by decide) (by decide)) dX4_isDigit_5 rfl rfl (Nat.le_of_ble_eq_true rfl) (fun r1 M2 => ?_)
  refine r_gd (fun hz3 => ?_)
  exact r_zret (pc := 8) ok (Nat.zero_le _) (Nat.zero_le _) (isB_of hz3) rfl dX4_isDigit_8
theorem con_X4_isDigit (g : GP) (l : Launch) (vq0 : Int32)  (M : Mem) (r : Int32) (M2 : Mem) (h : fX4_isDigit vq0 M = some (r, M2)) : Con g l yX4_isDigit cX4_isDigit 1 (some FieldType.boolean) (rmL 3) [.int vq0] M (eI r) M2 :=
  Con.of (own := RX4) (f := fX4_isDigit vq0 M) (by decide) (Nat.le_of_ble_eq_true rfl) rfl (fun x ok => wX4_isDigit ok vq0  M) r M2 h
def fX4_isSign (vq0 : Int32) (M : Mem) : Option (Int32 × Mem) :=
  ob (fX10_within vq0 40 43 M) fun r1 M2 =>
  if r1 = 0 then
    (if vq0 = 45 then
      (some (1, M2))
    else
      (if vq0 = 59 then
        (some (1, M2))
      else
        (if vq0 = 60 then
          (some (1, M2))
        else
          (if vq0 = 61 then
            (some (1, M2))
          else
            (some (0, M2))))))
  else
    (some (1, M2))
set_option maxRecDepth 20000 in
theorem wX4_isSign {g : GP} {l : Launch} {x : CT} (ok : Ok g l x RX4 cX4_isSign 1 (some FieldType.boolean) (rmL 3)) (vq0 : Int32)  (M : Mem) : Sw g l x (FinQ g x eI) 1 0 0 0 [(0, .int vq0)] [] M (fX4_isSign vq0 M) := by
  unfold fX4_isSign
  refine r_iload_n (pc := 0) ok 0 dX4_isSign_0 rfl ?_
  refine r_bipush (pc := 1) ok 40 dX4_isSign_1 (by decide) ?_
  refine r_bipush (pc := 3) ok 43 dX4_isSign_3 (by decide) ?_
  refine r_callSN0 (pc := 5) ok [.int vq0, .int 40, .int 43] [] 2 (fun rZ MZ hZ => con_X10_within g l vq0 40 43 _ rZ MZ hZ) csN_X4_100 (rmOk_L (by decide) (by decide)) dX4_isSign_5 rfl rfl (Nat.le_of_ble_eq_true rfl) (fun r1 M2 => ?_)
  refine r_if_ne (pc := 8) ok 35 dX4_isSign_8 (by decide) (fun _ => ?_) (fun _ => ?_)
  · refine r_iload_n (pc := 11) ok 0 dX4_isSign_11 rfl ?_
    refine r_bipush (pc := 12) ok 45 dX4_isSign_12 (by decide) ?_
    refine r_icmp_eq (pc := 14) ok 35 dX4_isSign_14 (by decide) (fun _ => ?_) (fun _ => ?_)
    · refine r_iconst (pc := 35) ok 1 dX4_isSign_35 (by decide) ?_
      refine r_goto (pc := 36) ok 40 dX4_isSign_36 (by decide) ?_
      exact r_zret (pc := 40) ok (Nat.zero_le _) (Nat.zero_le _) rfl rfl dX4_isSign_40
    · refine r_iload_n (pc := 17) ok 0 dX4_isSign_17 rfl ?_
      refine r_bipush (pc := 18) ok 59 dX4_isSign_18 (by decide) ?_
      refine r_icmp_eq (pc := 20) ok 35 dX4_isSign_20 (by decide) (fun _ => ?_) (fun _ => ?_)
      · refine r_iconst (pc := 35) ok 1 dX4_isSign_35 (by decide) ?_
        refine r_goto (pc := 36) ok 40 dX4_isSign_36 (by decide) ?_
        exact r_zret (pc := 40) ok (Nat.zero_le _) (Nat.zero_le _) rfl rfl dX4_isSign_40
      · refine r_iload_n (pc := 23) ok 0 dX4_isSign_23 rfl ?_
        refine r_bipush (pc := 24) ok 60 dX4_isSign_24 (by decide) ?_
        refine r_icmp_eq (pc := 26) ok 35 dX4_isSign_26 (by decide) (fun _ => ?_) (fun _ => ?_)
        · refine r_iconst (pc := 35) ok 1 dX4_isSign_35 (by decide) ?_
          refine r_goto (pc := 36) ok 40 dX4_isSign_36 (by decide) ?_
          exact r_zret (pc := 40) ok (Nat.zero_le _) (Nat.zero_le _) rfl rfl dX4_isSign_40
        · refine r_iload_n (pc := 29) ok 0 dX4_isSign_29 rfl ?_
          refine r_bipush (pc := 30) ok 61 dX4_isSign_30 (by decide) ?_
          refine r_icmp_ne (pc := 32) ok 39 dX4_isSign_32 (by decide) (fun _ => ?_) (fun _ => ?_)
          · refine r_iconst (pc := 35) ok 1 dX4_isSign_35 (by decide) ?_
            refine r_goto (pc := 36) ok 40 dX4_isSign_36 (by decide) ?_
            exact r_zret (pc := 40) ok (Nat.zero_le _) (Nat.zero_le _) rfl rfl dX4_isSign_40
          · refine r_iconst (pc := 39) ok 0 dX4_isSign_39 (by decide) ?_
            exact r_zret (pc := 40) ok (Nat.zero_le _) (Nat.zero_le _) rfl rfl dX4_isSign_40
  · refine r_iconst (pc := 35) ok 1 dX4_isSign_35 (by decide) ?_
    refine r_goto (pc := 36) ok 40 dX4_isSign_36 (by decide) ?_
    exact r_zret (pc := 40) ok (Nat.zero_le _) (Nat.zero_le _) rfl rfl dX4_isSign_40
theorem con_X4_isSign (g : GP) (l : Launch) (vq0 : Int32)  (M : Mem) (r : Int32) (M2 : Mem) (h : fX4_isSign vq0 M = some (r, M2)) : Con g l yX4_isSign cX4_isSign 1 (some FieldType.boolean) (rmL 3) [.int vq0] M (eI r) M2 :=
  Con.of (own := RX4) (f := fX4_isSign vq0 M) (by decide) (Nat.le_of_ble_eq_true rfl) rfl (fun x ok => wX4_isSign ok vq0  M) r M2 h
def fX5_has (iq0 : Nat) (vq1 : Int32) (M : Mem) : Option (Int32 × Mem) :=
  ob (fX10_within vq1 0 ((M 15 iq0 7) - 1) M) fun r1 M2 =>
  gd (isB r1) (some (r1, M2))
set_option maxRecDepth 20000 in
theorem wX5_has {g : GP} {l : Launch} {x : CT} (ok : Ok g l x RX5 cX5_has 2 (some FieldType.boolean) (rmL 3)) (iq0 : Nat) (vq1 : Int32) (hq0 : iq0 < 3) (M : Mem) : Sw g l x (FinQ g x eI) 2 0 0 0 [(0, .ref (gA g 15 iq0)), (1, .int vq1)] [] M (fX5_has iq0 vq1 M) := by
  unfold fX5_has
  refine r_iload_n (pc := 0) ok 1 dX5_has_0 rfl ?_
  refine r_iconst (pc := 1) ok 0 dX5_has_1 (by decide) ?_
  refine r_aload_n (pc := 2) ok 0 dX5_has_2 rfl ?_
  refine r_getI (pc := 3) ok fi_15_7 hq0 fl_X5_45 dX5_has_3 ?_
  refine r_iconst (pc := 6) ok 1 dX5_has_6 (by decide) ?_
  refine r_isub (pc := 7) ok dX5_has_7 ?_
  refine r_callSN0 (pc := 8) ok [.int vq1, .int 0, .int ((M 15 iq0 7) - 1)] [] 2 (fun rZ MZ hZ => con_X10_within g l vq1 0 ((M 15 iq0 7) - 1) _ rZ MZ hZ) csN_X5_55 (rmOk_L (by decide) (by decide)) dX5_has_8 rfl rfl (Nat.le_of_ble_eq_true rfl) (fun r1 M2 => ?_)
  refine r_gd (fun hz3 => ?_)
  exact r_zret (pc := 11) ok (Nat.zero_le _) (Nat.zero_le _) (isB_of hz3) rfl dX5_has_11
theorem con_X5_has (g : GP) (l : Launch) (iq0 : Nat) (vq1 : Int32) (hq0 : iq0 < 3) (M : Mem) (r : Int32) (M2 : Mem) (h : fX5_has iq0 vq1 M = some (r, M2)) : Con g l yX5_has cX5_has 2 (some FieldType.boolean) (rmL 3) [.ref (gA g 15 iq0), .int vq1] M (eI r) M2 :=
  Con.of (own := RX5) (f := fX5_has iq0 vq1 M) (by decide) (Nat.le_of_ble_eq_true rfl) rfl (fun x ok => wX5_has ok iq0 vq1 hq0 M) r M2 h
def fX5_relax_B4 (iq0 : Nat) (vq1 : Int32) (k4 : Int32 → Int32 → Mem → Option (Int32 × Mem)) (vq2 : Int32) (vq3 : Int32) (M : Mem) : Option (Int32 × Mem) :=
  if 4 ≤ vq3 then
    (gd (isB vq2) (some (vq2, M)))
  else
    (ob (fX10_neighbour vq1 vq3 M) fun r2 M3 =>
    if r2 = (-1) then
      (k4 vq2 (vq3 + 1) M3)
    else
      (gd (inb r2 36)
      (if (M3 21 iq0 r2.toNatClampNeg) = 1000000 then
        (k4 vq2 (vq3 + 1) M3)
      else
        (gd (inb r2 36)
        (gd (inb vq1 36)
        (gd (inb vq1 36)
        (if (M3 21 iq0 vq1.toNatClampNeg) ≤ ((M3 21 iq0 r2.toNatClampNeg) + (M3 20 iq0 vq1.toNatClampNeg)) then
          (k4 vq2 (vq3 + 1) M3)
        else
          (gd (inb r2 36)
          (gd (inb vq1 36)
          (gd (inb vq1 36)
          (lt (mst M3 21 iq0 vq1.toNatClampNeg ((M3 21 iq0 r2.toNatClampNeg) + (M3 20 iq0 vq1.toNatClampNeg))) fun M4 =>
          k4 1 (vq3 + 1) M4)))))))))))
def fX5_relax_L4 (iq0 : Nat) (vq1 : Int32) : Nat → Int32 → Int32 → Mem → Option (Int32 × Mem)
  | 0, _, _, _ => none
  | n + 1, vq2, vq3, M => fX5_relax_B4 iq0 vq1 (fX5_relax_L4 iq0 vq1 n) vq2 vq3 M
set_option maxRecDepth 20000 in
theorem sX5_relax_B4 {g : GP} {l : Launch} {x : CT} (ok : Ok g l x RX5 cX5_relax 5 (some FieldType.boolean) (rmL 3)) (iq0 : Nat) (vq1 : Int32) (h0 : iq0 < 3) (k4 : Int32 → Int32 → Mem → Option (Int32 × Mem)) (hk4 : ∀ (vq2 : Int32) (vq3 : Int32) (M : Mem), Sw g l x (FinQ g x eI) 5 0 0 4 [(0, .ref (gA g 15 iq0)), (1, .int vq1), (2, .int vq2), (3, .int vq3)] [] M (k4 vq2 vq3 M)) (vq2 : Int32) (vq3 : Int32) (M : Mem) : Sw g l x (FinQ g x eI) 5 0 0 4 [(0, .ref (gA g 15 iq0)), (1, .int vq1), (2, .int vq2), (3, .int vq3)] [] M (fX5_relax_B4 iq0 vq1 k4 vq2 vq3 M) := by
  unfold fX5_relax_B4
  refine r_iload_n (pc := 4) ok 3 dX5_relax_4 rfl ?_
  refine r_iconst (pc := 5) ok 4 dX5_relax_5 (by decide) ?_
  refine r_icmp_ge (pc := 6) ok 85 dX5_relax_6 (by decide) (fun _ => ?_) (fun _ => ?_)
  · refine r_iload_n (pc := 85) ok 2 dX5_relax_85 rfl ?_
    refine r_gd (fun hz1 => ?_)
    exact r_zret (pc := 86) ok (Nat.zero_le _) (Nat.zero_le _) (isB_of hz1) rfl dX5_relax_86
  · refine r_iload_n (pc := 9) ok 1 dX5_relax_9 rfl ?_
    refine r_iload_n (pc := 10) ok 3 dX5_relax_10 rfl ?_
    refine r_callSN0 (pc := 11) ok [.int vq1, .int vq3] [] 2 (fun rZ MZ hZ => con_X10_neighbour g l vq1 vq3 _ rZ MZ hZ) csN_X5_109 (rmOk_L (by decide) (by decide)) dX5_relax_11 rfl rfl (Nat.le_of_ble_eq_true rfl) (fun r2 M3 => ?_)
    refine r_istore (pc := 14) ok [(4, .int r2), (0, .ref (gA g 15 iq0)), (1, .int vq1), (2, .int vq2), (3, .int vq3)] dX5_relax_14 (by decide) rfl ?_
    refine r_iload (pc := 16) ok 0 dX5_relax_16 rfl ?_
    refine r_iconst (pc := 18) ok (-1) dX5_relax_18 (by decide) ?_
    refine r_icmp_eq (pc := 19) ok 79 dX5_relax_19 (by decide) (fun _ => ?_) (fun _ => ?_)
    · refine r_iinc (pc := 79) ok 4 (vq3 + 1) [(3, .int (vq3 + 1)), (4, .int r2), (0, .ref (gA g 15 iq0)), (1, .int vq1), (2, .int vq2)] dX5_relax_79 rfl (congrArg (fun z => vq3 + z) (by decide : Int32.ofInt 1 = (1 : Int32))) (by decide) rfl ?_
      refine r_goto (pc := 82) ok 4 dX5_relax_82 (by decide) ?_
      refine r_lv [2, 3, 4, 0] [(0, .ref (gA g 15 iq0)), (1, .int vq1), (2, .int vq2), (3, .int (vq3 + 1))] rfl ?_
      exact hk4 vq2 (vq3 + 1) M3
    · refine r_aload_n (pc := 22) ok 1 dX5_relax_22 rfl ?_
      refine r_getR (pc := 23) ok fr_15_6 h0 fl_X5_28 dX5_relax_23 ?_
      refine r_iload (pc := 26) ok 0 dX5_relax_26 rfl ?_
      refine r_iald (pc := 28) ok ik_21 h0 dX5_relax_28 (fun _ => ?_)
      refine r_ldc (pc := 29) ok wct_X5_118 dX5_relax_29 ?_
      refine r_icmp_eq (pc := 31) ok 79 dX5_relax_31 (by decide) (fun _ => ?_) (fun _ => ?_)
      · refine r_iinc (pc := 79) ok 4 (vq3 + 1) [(3, .int (vq3 + 1)), (4, .int r2), (0, .ref (gA g 15 iq0)), (1, .int vq1), (2, .int vq2)] dX5_relax_79 rfl (congrArg (fun z => vq3 + z) (by decide : Int32.ofInt 1 = (1 : Int32))) (by decide) rfl ?_
        refine r_goto (pc := 82) ok 4 dX5_relax_82 (by decide) ?_
        refine r_lv [2, 3, 4, 0] [(0, .ref (gA g 15 iq0)), (1, .int vq1), (2, .int vq2), (3, .int (vq3 + 1))] rfl ?_
        exact hk4 vq2 (vq3 + 1) M3
      · refine r_aload_n (pc := 34) ok 1 dX5_relax_34 rfl ?_
        refine r_getR (pc := 35) ok fr_15_6 h0 fl_X5_28 dX5_relax_35 ?_
        refine r_iload (pc := 38) ok 0 dX5_relax_38 rfl ?_
        refine r_iald (pc := 40) ok ik_21 h0 dX5_relax_40 (fun _ => ?_)
        refine r_aload_n (pc := 41) ok 1 dX5_relax_41 rfl ?_
        refine r_getR (pc := 42) ok fr_15_5 h0 fl_X5_25 dX5_relax_42 ?_
        refine r_iload_n (pc := 45) ok 2 dX5_relax_45 rfl ?_
        refine r_iald (pc := 46) ok ik_20 h0 dX5_relax_46 (fun _ => ?_)
        refine r_iadd (pc := 47) ok dX5_relax_47 ?_
        refine r_aload_n (pc := 48) ok 1 dX5_relax_48 rfl ?_
        refine r_getR (pc := 49) ok fr_15_6 h0 fl_X5_28 dX5_relax_49 ?_
        refine r_iload_n (pc := 52) ok 2 dX5_relax_52 rfl ?_
        refine r_iald (pc := 53) ok ik_21 h0 dX5_relax_53 (fun _ => ?_)
        refine r_icmp_ge (pc := 54) ok 79 dX5_relax_54 (by decide) (fun _ => ?_) (fun _ => ?_)
        · refine r_iinc (pc := 79) ok 4 (vq3 + 1) [(3, .int (vq3 + 1)), (4, .int r2), (0, .ref (gA g 15 iq0)), (1, .int vq1), (2, .int vq2)] dX5_relax_79 rfl (congrArg (fun z => vq3 + z) (by decide : Int32.ofInt 1 = (1 : Int32))) (by decide) rfl ?_
          refine r_goto (pc := 82) ok 4 dX5_relax_82 (by decide) ?_
          refine r_lv [2, 3, 4, 0] [(0, .ref (gA g 15 iq0)), (1, .int vq1), (2, .int vq2), (3, .int (vq3 + 1))] rfl ?_
          exact hk4 vq2 (vq3 + 1) M3
        · refine r_aload_n (pc := 57) ok 1 dX5_relax_57 rfl ?_
          refine r_getR (pc := 58) ok fr_15_6 h0 fl_X5_28 dX5_relax_58 ?_
          refine r_iload_n (pc := 61) ok 2 dX5_relax_61 rfl ?_
          refine r_aload_n (pc := 62) ok 1 dX5_relax_62 rfl ?_
          refine r_getR (pc := 63) ok fr_15_6 h0 fl_X5_28 dX5_relax_63 ?_
          refine r_iload (pc := 66) ok 0 dX5_relax_66 rfl ?_
          refine r_iald (pc := 68) ok ik_21 h0 dX5_relax_68 (fun _ => ?_)
          refine r_aload_n (pc := 69) ok 1 dX5_relax_69 rfl ?_
          refine r_getR (pc := 70) ok fr_15_5 h0 fl_X5_25 dX5_relax_70 ?_
          refine r_iload_n (pc := 73) ok 2 dX5_relax_73 rfl ?_
          refine r_iald (pc := 74) ok ik_20 h0 dX5_relax_74 (fun _ => ?_)
          refine r_iadd (pc := 75) ok dX5_relax_75 ?_
          refine r_iast (pc := 76) ok ik_21 h0 dX5_relax_76 ?_
          refine r_nmM (fun M4 => ?_)
          refine r_iconst (pc := 77) ok 1 dX5_relax_77 (by decide) ?_
          refine r_istore_n (pc := 78) ok [(2, .int 1), (4, .int r2), (0, .ref (gA g 15 iq0)), (1, .int vq1), (3, .int vq3)] dX5_relax_78 rfl (by decide) rfl ?_
          refine r_iinc (pc := 79) ok 4 (vq3 + 1) [(3, .int (vq3 + 1)), (2, .int 1), (4, .int r2), (0, .ref (gA g 15 iq0)), (1, .int vq1)] dX5_relax_79 rfl (congrArg (fun z => vq3 + z) (by decide : Int32.ofInt 1 = (1 : Int32))) (by decide) rfl ?_
          refine r_goto (pc := 82) ok 4 dX5_relax_82 (by decide) ?_
          refine r_lv [3, 4, 1, 0] [(0, .ref (gA g 15 iq0)), (1, .int vq1), (2, .int 1), (3, .int (vq3 + 1))] rfl ?_
          exact hk4 1 (vq3 + 1) M4
theorem sX5_relax_L4 {g : GP} {l : Launch} {x : CT} (ok : Ok g l x RX5 cX5_relax 5 (some FieldType.boolean) (rmL 3)) (iq0 : Nat) (vq1 : Int32) (h0 : iq0 < 3) : ∀ (n : Nat) (vq2 : Int32) (vq3 : Int32) (M : Mem), Sw g l x (FinQ g x eI) 5 0 0 4 [(0, .ref (gA g 15 iq0)), (1, .int vq1), (2, .int vq2), (3, .int vq3)] [] M (fX5_relax_L4 iq0 vq1 n vq2 vq3 M) := by
  intro n
  induction n with
  | zero => intros; exact r_none
  | succ n ih => intro vq2 vq3 M; exact sX5_relax_B4 ok iq0 vq1 h0 _ ih vq2 vq3 M
def fX5_relax (iq0 : Nat) (vq1 : Int32) (M : Mem) : Option (Int32 × Mem) :=
  fX5_relax_L4 iq0 vq1 FU 0 0 M
set_option maxRecDepth 20000 in
theorem wX5_relax {g : GP} {l : Launch} {x : CT} (ok : Ok g l x RX5 cX5_relax 5 (some FieldType.boolean) (rmL 3)) (iq0 : Nat) (vq1 : Int32) (hq0 : iq0 < 3) (M : Mem) : Sw g l x (FinQ g x eI) 5 0 0 0 [(0, .ref (gA g 15 iq0)), (1, .int vq1)] [] M (fX5_relax iq0 vq1 M) := by
  unfold fX5_relax
  refine r_iconst (pc := 0) ok 0 dX5_relax_0 (by decide) ?_
  refine r_istore_n (pc := 1) ok [(2, .int 0), (0, .ref (gA g 15 iq0)), (1, .int vq1)] dX5_relax_1 rfl (by decide) rfl ?_
  refine r_iconst (pc := 2) ok 0 dX5_relax_2 (by decide) ?_
  refine r_istore_n (pc := 3) ok [(3, .int 0), (2, .int 0), (0, .ref (gA g 15 iq0)), (1, .int vq1)] dX5_relax_3 rfl (by decide) rfl ?_
  refine r_lv [2, 3, 1, 0] [(0, .ref (gA g 15 iq0)), (1, .int vq1), (2, .int 0), (3, .int 0)] rfl ?_
  exact sX5_relax_L4 ok iq0 vq1 hq0 FU 0 0 M
theorem con_X5_relax (g : GP) (l : Launch) (iq0 : Nat) (vq1 : Int32) (hq0 : iq0 < 3) (M : Mem) (r : Int32) (M2 : Mem) (h : fX5_relax iq0 vq1 M = some (r, M2)) : Con g l yX5_relax cX5_relax 5 (some FieldType.boolean) (rmL 3) [.ref (gA g 15 iq0), .int vq1] M (eI r) M2 :=
  Con.of (own := RX5) (f := fX5_relax iq0 vq1 M) (by decide) (Nat.le_of_ble_eq_true rfl) rfl (fun x ok => wX5_relax ok iq0 vq1 hq0 M) r M2 h
def fX6_become (iq0 : Nat) (vq1 : Int32) (vq2 : Int32) (M : Mem) : Option (Unit × Mem) :=
  lt (mst M 13 iq0 1 vq1) fun M1 =>
  lt (mst M1 13 iq0 2 vq2) fun M2 =>
  ob (fJ7_fill_53178_14 iq0 0 M2) fun r3 M4 =>
  some ((), M4)
set_option maxRecDepth 20000 in
theorem wX6_become {g : GP} {l : Launch} {x : CT} (ok : Ok g l x RX6 cX6_become 3 none (rmL 3)) (iq0 : Nat) (vq1 : Int32) (vq2 : Int32) (hq0 : iq0 < 4) (M : Mem) : Sw g l x (FinQ g x eV) 3 0 0 0 [(0, .ref (gA g 13 iq0)), (1, .int vq1), (2, .int vq2)] [] M (fX6_become iq0 vq1 vq2 M) := by
  unfold fX6_become
  refine r_aload_n (pc := 0) ok 0 dX6_become_0 rfl ?_
  refine r_iload_n (pc := 1) ok 1 dX6_become_1 rfl ?_
  refine r_putI (pc := 2) ok fi_13_1 hq0 fl_X6_15 fp_13_1 ⟨rfl, rfl⟩ dX6_become_2 ?_
  refine r_nmM (fun M1 => ?_)
  refine r_aload_n (pc := 5) ok 0 dX6_become_5 rfl ?_
  refine r_iload_n (pc := 6) ok 2 dX6_become_6 rfl ?_
  refine r_putI (pc := 7) ok fi_13_2 hq0 fl_X6_19 fp_13_2 ⟨rfl, rfl⟩ dX6_become_7 ?_
  refine r_nmM (fun M2 => ?_)
  refine r_aload_n (pc := 10) ok 0 dX6_become_10 rfl ?_
  refine r_getR (pc := 11) ok fr_13_0 hq0 fl_X6_9 dX6_become_11 ?_
  refine r_iconst (pc := 14) ok 0 dX6_become_14 (by decide) ?_
  refine r_callS0 (pc := 15) ok [.ref (gA g 14 iq0), .int 0] [] 2 (fun rZ MZ hZ => con_J7_fill_53178_14 g l iq0 0 hq0 _ rZ MZ hZ) cs_X6_22 (rmOk_L (by decide) (by decide)) dX6_become_15 rfl rfl (Nat.le_of_ble_eq_true rfl) (fun r3 M4 => ?_)
  exact r_vret (pc := 18) ok (Nat.zero_le _) (Nat.zero_le _) rfl dX6_become_18
theorem con_X6_become (g : GP) (l : Launch) (iq0 : Nat) (vq1 : Int32) (vq2 : Int32) (hq0 : iq0 < 4) (M : Mem) (r : Unit) (M2 : Mem) (h : fX6_become iq0 vq1 vq2 M = some (r, M2)) : Con g l yX6_become cX6_become 3 none (rmL 3) [.ref (gA g 13 iq0), .int vq1, .int vq2] M (eV r) M2 :=
  Con.of (own := RX6) (f := fX6_become iq0 vq1 vq2 M) (by decide) (Nat.le_of_ble_eq_true rfl) rfl (fun x ok => wX6_become ok iq0 vq1 vq2 hq0 M) r M2 h
def fX8_says_J194 (vq4 : Int32) (s0 : Int32) (M : Mem) : Option (Int32 × Mem) :=
  some (mmax s0 (mmin 99 vq4), M)
set_option maxRecDepth 20000 in
theorem sX8_says_J194 {g : GP} {l : Launch} {x : CT} (ok : Ok g l x RX8 cX8_says 6 (some FieldType.int) (rmL 3)) (vq4 : Int32) (s0 : Int32)  (M : Mem) : Sw g l x (FinQ g x eI) 6 0 0 194 [(4, .int vq4)] [.int s0] M (fX8_says_J194 vq4 s0 M) := by
  unfold fX8_says_J194
  refine r_bipush (pc := 194) ok 99 dX8_says_194 (by decide) ?_
  refine r_iload (pc := 196) ok 0 dX8_says_196 rfl ?_
  refine r_mmin (pc := 198) ok wml_X8_49 wst_mmin win_Math wcd_mmin (rmM (by decide)) (Nat.le_of_ble_eq_true rfl) dX8_says_198 ?_
  refine r_mmax (pc := 201) ok wml_X8_54 wst_mmax win_Math wcd_mmax (rmM (by decide)) (Nat.le_of_ble_eq_true rfl) dX8_says_201 ?_
  exact r_iret (pc := 204) ok (Nat.zero_le _) (Nat.zero_le _) rfl dX8_says_204
def fX8_says_J182 (vq1 : Int32) (s0 : Int32) (M : Mem) : Option (Int32 × Mem) :=
  if vq1 = 0 then
    (fX8_says_J194 s0 (-99) M)
  else
    (fX8_says_J194 s0 0 M)
set_option maxRecDepth 20000 in
theorem sX8_says_J182 {g : GP} {l : Launch} {x : CT} (ok : Ok g l x RX8 cX8_says 6 (some FieldType.int) (rmL 3)) (vq1 : Int32) (s0 : Int32)  (M : Mem) : Sw g l x (FinQ g x eI) 6 0 0 182 [(1, .int vq1)] [.int s0] M (fX8_says_J182 vq1 s0 M) := by
  unfold fX8_says_J182
  refine r_istore (pc := 182) ok [(4, .int s0), (1, .int vq1)] dX8_says_182 (by decide) rfl ?_
  refine r_iload_n (pc := 184) ok 1 dX8_says_184 rfl ?_
  refine r_if_ne (pc := 185) ok 193 dX8_says_185 (by decide) (fun _ => ?_) (fun _ => ?_)
  · refine r_bipush (pc := 188) ok (-99) dX8_says_188 (by decide) ?_
    refine r_goto (pc := 190) ok 194 dX8_says_190 (by decide) ?_
    refine r_lv [0] [(4, .int s0)] rfl ?_
    exact sX8_says_J194 ok s0 (-99) M
  · refine r_iconst (pc := 193) ok 0 dX8_says_193 (by decide) ?_
    refine r_lv [0] [(4, .int s0)] rfl ?_
    exact sX8_says_J194 ok s0 0 M
def fX8_says_J166 (iq0 : Nat) (vq1 : Int32) (vq3 : Int32) (M : Mem) : Option (Int32 × Mem) :=
  if vq3 ≤ 0 then
    (fX8_says_J182 vq1 0 M)
  else
    (gd (inb (vq3 - 1) 31)
    (fX8_says_J182 vq1 (M 9 iq0 (vq3 - 1).toNatClampNeg) M))
set_option maxRecDepth 20000 in
theorem sX8_says_J166 {g : GP} {l : Launch} {x : CT} (ok : Ok g l x RX8 cX8_says 6 (some FieldType.int) (rmL 3)) (iq0 : Nat) (vq1 : Int32) (vq3 : Int32) (h0 : iq0 < 6) (M : Mem) : Sw g l x (FinQ g x eI) 6 0 0 166 [(0, .ref (gA g 8 iq0)), (1, .int vq1), (3, .int vq3)] [] M (fX8_says_J166 iq0 vq1 vq3 M) := by
  unfold fX8_says_J166
  refine r_iload_n (pc := 166) ok 2 dX8_says_166 rfl ?_
  refine r_if_le (pc := 167) ok 181 dX8_says_167 (by decide) (fun _ => ?_) (fun _ => ?_)
  · refine r_iconst (pc := 181) ok 0 dX8_says_181 (by decide) ?_
    refine r_lv [1] [(1, .int vq1)] rfl ?_
    exact sX8_says_J182 ok vq1 0 M
  · refine r_aload_n (pc := 170) ok 0 dX8_says_170 rfl ?_
    refine r_getR (pc := 171) ok fr_8_0 h0 fl_X8_11 dX8_says_171 ?_
    refine r_iload_n (pc := 174) ok 2 dX8_says_174 rfl ?_
    refine r_iconst (pc := 175) ok 1 dX8_says_175 (by decide) ?_
    refine r_isub (pc := 176) ok dX8_says_176 ?_
    refine r_iald (pc := 177) ok ik_9 h0 dX8_says_177 (fun _ => ?_)
    refine r_goto (pc := 178) ok 182 dX8_says_178 (by decide) ?_
    refine r_lv [1] [(1, .int vq1)] rfl ?_
    exact sX8_says_J182 ok vq1 (M 9 iq0 (vq3 - 1).toNatClampNeg) M
def fX8_says_J97 (k10 : Int32 → Int32 → Mem → Option (Int32 × Mem)) (iq0 : Nat) (vq1 : Int32) (iq2 : Nat) (vq3 : Int32) (vq4 : Int32) (vq5 : Int32) (M : Mem) : Option (Int32 × Mem) :=
  if vq3 ≤ 0 then
    (k10 vq3 (vq4 + 1) M)
  else
    (gd (inb (vq3 - 1) 31)
    (ob (fX8_ofOne vq5 (M 9 iq0 (vq3 - 1).toNatClampNeg) M) fun r3 M4 =>
    gd (inb (vq3 - 1) 31)
    (lt (mst M4 9 iq0 (vq3 - 1).toNatClampNeg r3) fun M5 =>
    k10 vq3 (vq4 + 1) M5)))
set_option maxRecDepth 20000 in
theorem sX8_says_J97 {g : GP} {l : Launch} {x : CT} {k10 : Int32 → Int32 → Mem → Option (Int32 × Mem)} (ok : Ok g l x RX8 cX8_says 6 (some FieldType.int) (rmL 3)) (iq0 : Nat) (vq1 : Int32) (iq2 : Nat) (vq3 : Int32) (vq4 : Int32) (vq5 : Int32) (h0 : iq0 < 6) (h2 : iq2 < 3) (hk10 : ∀ (vq3 : Int32) (vq4 : Int32) (M : Mem), Sw g l x (FinQ g x eI) 6 0 0 10 [(0, .ref (gA g 8 iq0)), (1, .int vq1), (2, .ref (gA g 19 iq2)), (3, .int vq3), (4, .int vq4)] [] M (k10 vq3 vq4 M)) (M : Mem) : Sw g l x (FinQ g x eI) 6 0 0 97 [(0, .ref (gA g 8 iq0)), (1, .int vq1), (2, .ref (gA g 19 iq2)), (3, .int vq3), (4, .int vq4), (5, .int vq5)] [] M (fX8_says_J97 k10 iq0 vq1 iq2 vq3 vq4 vq5 M) := by
  unfold fX8_says_J97
  refine r_iload_n (pc := 97) ok 3 dX8_says_97 rfl ?_
  refine r_if_le (pc := 98) ok 160 dX8_says_98 (by decide) (fun _ => ?_) (fun _ => ?_)
  · refine r_iinc (pc := 160) ok 4 (vq4 + 1) [(4, .int (vq4 + 1)), (0, .ref (gA g 8 iq0)), (1, .int vq1), (2, .ref (gA g 19 iq2)), (3, .int vq3), (5, .int vq5)] dX8_says_160 rfl (congrArg (fun z => vq4 + z) (by decide : Int32.ofInt 1 = (1 : Int32))) (by decide) rfl ?_
    refine r_goto (pc := 163) ok 10 dX8_says_163 (by decide) ?_
    refine r_lv [1, 2, 3, 4, 0] [(0, .ref (gA g 8 iq0)), (1, .int vq1), (2, .ref (gA g 19 iq2)), (3, .int vq3), (4, .int (vq4 + 1))] rfl ?_
    exact hk10 vq3 (vq4 + 1) M
  · refine r_aload_n (pc := 101) ok 0 dX8_says_101 rfl ?_
    refine r_getR (pc := 102) ok fr_8_0 h0 fl_X8_11 dX8_says_102 ?_
    refine r_iload_n (pc := 105) ok 3 dX8_says_105 rfl ?_
    refine r_iconst (pc := 106) ok 1 dX8_says_106 (by decide) ?_
    refine r_isub (pc := 107) ok dX8_says_107 ?_
    refine r_iload (pc := 108) ok 5 dX8_says_108 rfl ?_
    refine r_aload_n (pc := 110) ok 0 dX8_says_110 rfl ?_
    refine r_getR (pc := 111) ok fr_8_0 h0 fl_X8_11 dX8_says_111 ?_
    refine r_iload_n (pc := 114) ok 3 dX8_says_114 rfl ?_
    refine r_iconst (pc := 115) ok 1 dX8_says_115 (by decide) ?_
    refine r_isub (pc := 116) ok dX8_says_116 ?_
    refine r_iald (pc := 117) ok ik_9 h0 dX8_says_117 (fun _ => ?_)
    refine r_callS0 (pc := 118) ok [.int vq5, .int (M 9 iq0 (vq3 - 1).toNatClampNeg)] [.int (vq3 - 1), .ref (gA g 9 iq0)] 2 (fun rZ MZ hZ => con_X8_ofOne g l vq5 (M 9 iq0 (vq3 - 1).toNatClampNeg) _ rZ MZ hZ) cs_X8_41 (rmOk_L (by decide) (by decide)) dX8_says_118 rfl rfl (Nat.le_of_ble_eq_true rfl) (fun r3 M4 => ?_)
    refine r_iast (pc := 121) ok ik_9 h0 dX8_says_121 ?_
    refine r_nmM (fun M5 => ?_)
    refine r_goto (pc := 122) ok 160 dX8_says_122 (by decide) ?_
    refine r_iinc (pc := 160) ok 4 (vq4 + 1) [(4, .int (vq4 + 1)), (0, .ref (gA g 8 iq0)), (1, .int vq1), (2, .ref (gA g 19 iq2)), (3, .int vq3), (5, .int vq5)] dX8_says_160 rfl (congrArg (fun z => vq4 + z) (by decide : Int32.ofInt 1 = (1 : Int32))) (by decide) rfl ?_
    refine r_goto (pc := 163) ok 10 dX8_says_163 (by decide) ?_
    refine r_lv [1, 2, 3, 4, 0] [(0, .ref (gA g 8 iq0)), (1, .int vq1), (2, .ref (gA g 19 iq2)), (3, .int vq3), (4, .int (vq4 + 1))] rfl ?_
    exact hk10 vq3 (vq4 + 1) M5
def fX8_says_B10 (iq0 : Nat) (vq1 : Int32) (iq2 : Nat) (k10 : Int32 → Int32 → Mem → Option (Int32 × Mem)) (vq3 : Int32) (vq4 : Int32) (M : Mem) : Option (Int32 × Mem) :=
  gd (inb (vq1 + 1) 4)
  (if (M 10 iq0 (vq1 + 1).toNatClampNeg) ≤ vq4 then
    (fX8_says_J166 iq0 vq1 vq3 M)
  else
    (if (nI (M 8 iq0 0).toNatClampNeg) ≤ vq4 then
      (fX8_says_J166 iq0 vq1 vq3 M)
    else
      (gd (inb vq4 (M 8 iq0 0).toNatClampNeg)
      (lt (M 11 iq0 vq4.toNatClampNeg) fun w2 =>
      if w2 < (-6) then
        (if w2 = (-9) then
          (fX8_says_J97 k10 iq0 vq1 iq2 vq3 vq4 w2 M)
        else
          (if w2 = (-10) then
            (fX8_says_J97 k10 iq0 vq1 iq2 vq3 vq4 w2 M)
          else
            (if vq3 ≤ 1 then
              (k10 vq3 (vq4 + 1) M)
            else
              (gd (inb ((vq3 + (-1)) - 1) 31)
              (gd (inb (vq3 + (-1)) 31)
              (ob (fX8_ofTwo w2 (M 9 iq0 ((vq3 + (-1)) - 1).toNatClampNeg) (M 9 iq0 (vq3 + (-1)).toNatClampNeg) M) fun r6 M7 =>
              gd (inb ((vq3 + (-1)) - 1) 31)
              (lt (mst M7 9 iq0 ((vq3 + (-1)) - 1).toNatClampNeg r6) fun M8 =>
              k10 (vq3 + (-1)) (vq4 + 1) M8)))))))
      else
        (if 31 ≤ vq3 then
          (k10 vq3 (vq4 + 1) M)
        else
          (if w2 < 0 then
            (gd (inb ((-1) - w2) 6)
            (gd (inb vq3 31)
            (lt (mst M 9 iq0 vq3.toNatClampNeg (M 19 iq2 ((-1) - w2).toNatClampNeg)) fun M9 =>
            k10 (vq3 + 1) (vq4 + 1) M9)))
          else
            (gd (inb vq3 31)
            (lt (mst M 9 iq0 vq3.toNatClampNeg w2) fun M10 =>
            k10 (vq3 + 1) (vq4 + 1) M10))))))))
def fX8_says_L10 (iq0 : Nat) (vq1 : Int32) (iq2 : Nat) : Nat → Int32 → Int32 → Mem → Option (Int32 × Mem)
  | 0, _, _, _ => none
  | n + 1, vq3, vq4, M => fX8_says_B10 iq0 vq1 iq2 (fX8_says_L10 iq0 vq1 iq2 n) vq3 vq4 M
set_option maxRecDepth 20000 in
theorem sX8_says_B10 {g : GP} {l : Launch} {x : CT} (ok : Ok g l x RX8 cX8_says 6 (some FieldType.int) (rmL 3)) (iq0 : Nat) (vq1 : Int32) (iq2 : Nat) (h0 : iq0 < 6) (h2 : iq2 < 3) (k10 : Int32 → Int32 → Mem → Option (Int32 × Mem)) (hk10 : ∀ (vq3 : Int32) (vq4 : Int32) (M : Mem), Sw g l x (FinQ g x eI) 6 0 0 10 [(0, .ref (gA g 8 iq0)), (1, .int vq1), (2, .ref (gA g 19 iq2)), (3, .int vq3), (4, .int vq4)] [] M (k10 vq3 vq4 M)) (vq3 : Int32) (vq4 : Int32) (M : Mem) : Sw g l x (FinQ g x eI) 6 0 0 10 [(0, .ref (gA g 8 iq0)), (1, .int vq1), (2, .ref (gA g 19 iq2)), (3, .int vq3), (4, .int vq4)] [] M (fX8_says_B10 iq0 vq1 iq2 k10 vq3 vq4 M) := by
  unfold fX8_says_B10
  refine r_iload (pc := 10) ok 4 dX8_says_10 rfl ?_
  refine r_aload_n (pc := 12) ok 0 dX8_says_12 rfl ?_
  refine r_getR (pc := 13) ok fr_8_1 h0 fl_X8_15 dX8_says_13 ?_
  refine r_iload_n (pc := 16) ok 1 dX8_says_16 rfl ?_
  refine r_iconst (pc := 17) ok 1 dX8_says_17 (by decide) ?_
  refine r_iadd (pc := 18) ok dX8_says_18 ?_
  refine r_iald (pc := 19) ok ik_10 h0 dX8_says_19 (fun _ => ?_)
  refine r_icmp_ge (pc := 20) ok 166 dX8_says_20 (by decide) (fun _ => ?_) (fun _ => ?_)
  · refine r_lv [0, 1, 3] [(0, .ref (gA g 8 iq0)), (1, .int vq1), (3, .int vq3)] rfl ?_
    exact sX8_says_J166 ok iq0 vq1 vq3 h0 M
  · refine r_iload (pc := 23) ok 4 dX8_says_23 rfl ?_
    refine r_aload_n (pc := 25) ok 0 dX8_says_25 rfl ?_
    refine r_clen (pc := 26) ok h0 fl_X8_20 dX8_says_26 dX8_says_29 ?_
    refine r_icmp_ge (pc := 30) ok 166 dX8_says_30 (by decide) (fun _ => ?_) (fun _ => ?_)
    · refine r_lv [0, 1, 3] [(0, .ref (gA g 8 iq0)), (1, .int vq1), (3, .int vq3)] rfl ?_
      exact sX8_says_J166 ok iq0 vq1 vq3 h0 M
    · refine r_aload_n (pc := 33) ok 0 dX8_says_33 rfl ?_
      refine r_cld (pc := 34) ok 4 h0 fl_X8_20 dX8_says_34 dX8_says_37 rfl dX8_says_39 ?_
      refine r_nmi (fun w2 => ?_)
      refine r_istore (pc := 40) ok [(5, .int w2), (0, .ref (gA g 8 iq0)), (1, .int vq1), (2, .ref (gA g 19 iq2)), (3, .int vq3), (4, .int vq4)] dX8_says_40 (by decide) rfl ?_
      refine r_iload (pc := 42) ok 0 dX8_says_42 rfl ?_
      refine r_bipush (pc := 44) ok (-6) dX8_says_44 (by decide) ?_
      refine r_icmp_lt (pc := 46) ok 83 dX8_says_46 (by decide) (fun _ => ?_) (fun _ => ?_)
      · refine r_iload (pc := 83) ok 0 dX8_says_83 rfl ?_
        refine r_bipush (pc := 85) ok (-9) dX8_says_85 (by decide) ?_
        refine r_icmp_eq (pc := 87) ok 97 dX8_says_87 (by decide) (fun _ => ?_) (fun _ => ?_)
        · refine r_lv [1, 2, 3, 4, 5, 0] [(0, .ref (gA g 8 iq0)), (1, .int vq1), (2, .ref (gA g 19 iq2)), (3, .int vq3), (4, .int vq4), (5, .int w2)] rfl ?_
          exact sX8_says_J97 ok iq0 vq1 iq2 vq3 vq4 w2 h0 h2 hk10 M
        · refine r_iload (pc := 90) ok 0 dX8_says_90 rfl ?_
          refine r_bipush (pc := 92) ok (-10) dX8_says_92 (by decide) ?_
          refine r_icmp_ne (pc := 94) ok 125 dX8_says_94 (by decide) (fun _ => ?_) (fun _ => ?_)
          · refine r_lv [1, 2, 3, 4, 5, 0] [(0, .ref (gA g 8 iq0)), (1, .int vq1), (2, .ref (gA g 19 iq2)), (3, .int vq3), (4, .int vq4), (5, .int w2)] rfl ?_
            exact sX8_says_J97 ok iq0 vq1 iq2 vq3 vq4 w2 h0 h2 hk10 M
          · refine r_iload_n (pc := 125) ok 4 dX8_says_125 rfl ?_
            refine r_iconst (pc := 126) ok 1 dX8_says_126 (by decide) ?_
            refine r_icmp_le (pc := 127) ok 160 dX8_says_127 (by decide) (fun _ => ?_) (fun _ => ?_)
            · refine r_iinc (pc := 160) ok 5 (vq4 + 1) [(4, .int (vq4 + 1)), (5, .int w2), (0, .ref (gA g 8 iq0)), (1, .int vq1), (2, .ref (gA g 19 iq2)), (3, .int vq3)] dX8_says_160 rfl (congrArg (fun z => vq4 + z) (by decide : Int32.ofInt 1 = (1 : Int32))) (by decide) rfl ?_
              refine r_goto (pc := 163) ok 10 dX8_says_163 (by decide) ?_
              refine r_lv [2, 3, 4, 5, 0] [(0, .ref (gA g 8 iq0)), (1, .int vq1), (2, .ref (gA g 19 iq2)), (3, .int vq3), (4, .int (vq4 + 1))] rfl ?_
              exact hk10 vq3 (vq4 + 1) M
            · refine r_iinc (pc := 130) ok 4 (vq3 + (-1)) [(3, .int (vq3 + (-1))), (5, .int w2), (0, .ref (gA g 8 iq0)), (1, .int vq1), (2, .ref (gA g 19 iq2)), (4, .int vq4)] dX8_says_130 rfl (congrArg (fun z => vq3 + z) (by decide : Int32.ofInt (-1) = ((-1) : Int32))) (by decide) rfl ?_
              refine r_aload_n (pc := 133) ok 2 dX8_says_133 rfl ?_
              refine r_getR (pc := 134) ok fr_8_0 h0 fl_X8_11 dX8_says_134 ?_
              refine r_iload_n (pc := 137) ok 0 dX8_says_137 rfl ?_
              refine r_iconst (pc := 138) ok 1 dX8_says_138 (by decide) ?_
              refine r_isub (pc := 139) ok dX8_says_139 ?_
              refine r_iload (pc := 140) ok 1 dX8_says_140 rfl ?_
              refine r_aload_n (pc := 142) ok 2 dX8_says_142 rfl ?_
              refine r_getR (pc := 143) ok fr_8_0 h0 fl_X8_11 dX8_says_143 ?_
              refine r_iload_n (pc := 146) ok 0 dX8_says_146 rfl ?_
              refine r_iconst (pc := 147) ok 1 dX8_says_147 (by decide) ?_
              refine r_isub (pc := 148) ok dX8_says_148 ?_
              refine r_iald (pc := 149) ok ik_9 h0 dX8_says_149 (fun _ => ?_)
              refine r_aload_n (pc := 150) ok 2 dX8_says_150 rfl ?_
              refine r_getR (pc := 151) ok fr_8_0 h0 fl_X8_11 dX8_says_151 ?_
              refine r_iload_n (pc := 154) ok 0 dX8_says_154 rfl ?_
              refine r_iald (pc := 155) ok ik_9 h0 dX8_says_155 (fun _ => ?_)
              refine r_callS0 (pc := 156) ok [.int w2, .int (M 9 iq0 ((vq3 + (-1)) - 1).toNatClampNeg), .int (M 9 iq0 (vq3 + (-1)).toNatClampNeg)] [.int ((vq3 + (-1)) - 1), .ref (gA g 9 iq0)] 2 (fun rZ MZ hZ => con_X8_ofTwo g l w2 (M 9 iq0 ((vq3 + (-1)) - 1).toNatClampNeg) (M 9 iq0 (vq3 + (-1)).toNatClampNeg) _ rZ MZ hZ) cs_X8_45 (rmOk_L (by decide) (by decide)) dX8_says_156 rfl rfl (Nat.le_of_ble_eq_true rfl) (fun r6 M7 => ?_)
              refine r_iast (pc := 159) ok ik_9 h0 dX8_says_159 ?_
              refine r_nmM (fun M8 => ?_)
              refine r_iinc (pc := 160) ok 5 (vq4 + 1) [(4, .int (vq4 + 1)), (3, .int (vq3 + (-1))), (5, .int w2), (0, .ref (gA g 8 iq0)), (1, .int vq1), (2, .ref (gA g 19 iq2))] dX8_says_160 rfl (congrArg (fun z => vq4 + z) (by decide : Int32.ofInt 1 = (1 : Int32))) (by decide) rfl ?_
              refine r_goto (pc := 163) ok 10 dX8_says_163 (by decide) ?_
              refine r_lv [3, 4, 5, 1, 0] [(0, .ref (gA g 8 iq0)), (1, .int vq1), (2, .ref (gA g 19 iq2)), (3, .int (vq3 + (-1))), (4, .int (vq4 + 1))] rfl ?_
              exact hk10 (vq3 + (-1)) (vq4 + 1) M8
      · refine r_iload_n (pc := 49) ok 4 dX8_says_49 rfl ?_
        refine r_bipush (pc := 50) ok 31 dX8_says_50 (by decide) ?_
        refine r_icmp_ge (pc := 52) ok 160 dX8_says_52 (by decide) (fun _ => ?_) (fun _ => ?_)
        · refine r_iinc (pc := 160) ok 5 (vq4 + 1) [(4, .int (vq4 + 1)), (5, .int w2), (0, .ref (gA g 8 iq0)), (1, .int vq1), (2, .ref (gA g 19 iq2)), (3, .int vq3)] dX8_says_160 rfl (congrArg (fun z => vq4 + z) (by decide : Int32.ofInt 1 = (1 : Int32))) (by decide) rfl ?_
          refine r_goto (pc := 163) ok 10 dX8_says_163 (by decide) ?_
          refine r_lv [2, 3, 4, 5, 0] [(0, .ref (gA g 8 iq0)), (1, .int vq1), (2, .ref (gA g 19 iq2)), (3, .int vq3), (4, .int (vq4 + 1))] rfl ?_
          exact hk10 vq3 (vq4 + 1) M
        · refine r_aload_n (pc := 55) ok 1 dX8_says_55 rfl ?_
          refine r_getR (pc := 56) ok fr_8_0 h0 fl_X8_11 dX8_says_56 ?_
          refine r_iload_n (pc := 59) ok 4 dX8_says_59 rfl ?_
          refine r_iload (pc := 60) ok 0 dX8_says_60 rfl ?_
          refine r_if_lt (pc := 62) ok 70 dX8_says_62 (by decide) (fun _ => ?_) (fun _ => ?_)
          · refine r_aload_n (pc := 70) ok 3 dX8_says_70 rfl ?_
            refine r_iconst (pc := 71) ok (-1) dX8_says_71 (by decide) ?_
            refine r_iload (pc := 72) ok 0 dX8_says_72 rfl ?_
            refine r_isub (pc := 74) ok dX8_says_74 ?_
            refine r_iald (pc := 75) ok ik_19 h2 dX8_says_75 (fun _ => ?_)
            refine r_iast (pc := 76) ok ik_9 h0 dX8_says_76 ?_
            refine r_nmM (fun M9 => ?_)
            refine r_iinc (pc := 77) ok 4 (vq3 + 1) [(3, .int (vq3 + 1)), (5, .int w2), (0, .ref (gA g 8 iq0)), (1, .int vq1), (2, .ref (gA g 19 iq2)), (4, .int vq4)] dX8_says_77 rfl (congrArg (fun z => vq3 + z) (by decide : Int32.ofInt 1 = (1 : Int32))) (by decide) rfl ?_
            refine r_goto (pc := 80) ok 160 dX8_says_80 (by decide) ?_
            refine r_iinc (pc := 160) ok 5 (vq4 + 1) [(4, .int (vq4 + 1)), (3, .int (vq3 + 1)), (5, .int w2), (0, .ref (gA g 8 iq0)), (1, .int vq1), (2, .ref (gA g 19 iq2))] dX8_says_160 rfl (congrArg (fun z => vq4 + z) (by decide : Int32.ofInt 1 = (1 : Int32))) (by decide) rfl ?_
            refine r_goto (pc := 163) ok 10 dX8_says_163 (by decide) ?_
            refine r_lv [3, 4, 5, 1, 0] [(0, .ref (gA g 8 iq0)), (1, .int vq1), (2, .ref (gA g 19 iq2)), (3, .int (vq3 + 1)), (4, .int (vq4 + 1))] rfl ?_
            exact hk10 (vq3 + 1) (vq4 + 1) M9
          · refine r_iload (pc := 65) ok 0 dX8_says_65 rfl ?_
            refine r_goto (pc := 67) ok 76 dX8_says_67 (by decide) ?_
            refine r_iast (pc := 76) ok ik_9 h0 dX8_says_76 ?_
            refine r_nmM (fun M10 => ?_)
            refine r_iinc (pc := 77) ok 4 (vq3 + 1) [(3, .int (vq3 + 1)), (5, .int w2), (0, .ref (gA g 8 iq0)), (1, .int vq1), (2, .ref (gA g 19 iq2)), (4, .int vq4)] dX8_says_77 rfl (congrArg (fun z => vq3 + z) (by decide : Int32.ofInt 1 = (1 : Int32))) (by decide) rfl ?_
            refine r_goto (pc := 80) ok 160 dX8_says_80 (by decide) ?_
            refine r_iinc (pc := 160) ok 5 (vq4 + 1) [(4, .int (vq4 + 1)), (3, .int (vq3 + 1)), (5, .int w2), (0, .ref (gA g 8 iq0)), (1, .int vq1), (2, .ref (gA g 19 iq2))] dX8_says_160 rfl (congrArg (fun z => vq4 + z) (by decide : Int32.ofInt 1 = (1 : Int32))) (by decide) rfl ?_
            refine r_goto (pc := 163) ok 10 dX8_says_163 (by decide) ?_
            refine r_lv [3, 4, 5, 1, 0] [(0, .ref (gA g 8 iq0)), (1, .int vq1), (2, .ref (gA g 19 iq2)), (3, .int (vq3 + 1)), (4, .int (vq4 + 1))] rfl ?_
            exact hk10 (vq3 + 1) (vq4 + 1) M10
theorem sX8_says_L10 {g : GP} {l : Launch} {x : CT} (ok : Ok g l x RX8 cX8_says 6 (some FieldType.int) (rmL 3)) (iq0 : Nat) (vq1 : Int32) (iq2 : Nat) (h0 : iq0 < 6) (h2 : iq2 < 3) : ∀ (n : Nat) (vq3 : Int32) (vq4 : Int32) (M : Mem), Sw g l x (FinQ g x eI) 6 0 0 10 [(0, .ref (gA g 8 iq0)), (1, .int vq1), (2, .ref (gA g 19 iq2)), (3, .int vq3), (4, .int vq4)] [] M (fX8_says_L10 iq0 vq1 iq2 n vq3 vq4 M) := by
  intro n
  induction n with
  | zero => intros; exact r_none
  | succ n ih => intro vq3 vq4 M; exact sX8_says_B10 ok iq0 vq1 iq2 h0 h2 _ ih vq3 vq4 M
def fX8_says (iq0 : Nat) (vq1 : Int32) (iq2 : Nat) (M : Mem) : Option (Int32 × Mem) :=
  gd (inb vq1 4)
  (lt (M 10 iq0 vq1.toNatClampNeg) fun w1 =>
  fX8_says_L10 iq0 vq1 iq2 FU 0 w1 M)
set_option maxRecDepth 20000 in
theorem wX8_says {g : GP} {l : Launch} {x : CT} (ok : Ok g l x RX8 cX8_says 6 (some FieldType.int) (rmL 3)) (iq0 : Nat) (vq1 : Int32) (iq2 : Nat) (hq0 : iq0 < 6) (hq2 : iq2 < 3) (M : Mem) : Sw g l x (FinQ g x eI) 6 0 0 0 [(0, .ref (gA g 8 iq0)), (1, .int vq1), (2, .ref (gA g 19 iq2))] [] M (fX8_says iq0 vq1 iq2 M) := by
  unfold fX8_says
  refine r_iconst (pc := 0) ok 0 dX8_says_0 (by decide) ?_
  refine r_istore_n (pc := 1) ok [(3, .int 0), (0, .ref (gA g 8 iq0)), (1, .int vq1), (2, .ref (gA g 19 iq2))] dX8_says_1 rfl (by decide) rfl ?_
  refine r_aload_n (pc := 2) ok 1 dX8_says_2 rfl ?_
  refine r_getR (pc := 3) ok fr_8_1 hq0 fl_X8_15 dX8_says_3 ?_
  refine r_iload_n (pc := 6) ok 2 dX8_says_6 rfl ?_
  refine r_iald (pc := 7) ok ik_10 hq0 dX8_says_7 (fun _ => ?_)
  refine r_nmi (fun w1 => ?_)
  refine r_istore (pc := 8) ok [(4, .int w1), (3, .int 0), (0, .ref (gA g 8 iq0)), (1, .int vq1), (2, .ref (gA g 19 iq2))] dX8_says_8 (by decide) rfl ?_
  refine r_lv [2, 3, 4, 1, 0] [(0, .ref (gA g 8 iq0)), (1, .int vq1), (2, .ref (gA g 19 iq2)), (3, .int 0), (4, .int w1)] rfl ?_
  exact sX8_says_L10 ok iq0 vq1 iq2 hq0 hq2 FU 0 w1 M
theorem con_X8_says (g : GP) (l : Launch) (iq0 : Nat) (vq1 : Int32) (iq2 : Nat) (hq0 : iq0 < 6) (hq2 : iq2 < 3) (M : Mem) (r : Int32) (M2 : Mem) (h : fX8_says iq0 vq1 iq2 M = some (r, M2)) : Con g l yX8_says cX8_says 6 (some FieldType.int) (rmL 3) [.ref (gA g 8 iq0), .int vq1, .ref (gA g 19 iq2)] M (eI r) M2 :=
  Con.of (own := RX8) (f := fX8_says iq0 vq1 iq2 M) (by decide) (Nat.le_of_ble_eq_true rfl) rfl (fun x ok => wX8_says ok iq0 vq1 iq2 hq0 hq2 M) r M2 h
def fX10_lay (vq1 : Int32) (vq2 : Int32) (M : Mem) : Option (Int32 × Mem) :=
  ob (fX10_isCell vq1 M) fun r1 M2 =>
  if r1 = 0 then
    (some (-5, M2))
  else
    (ob (fX10_within vq2 0 999 M2) fun r3 M4 =>
    if r3 = 0 then
      (some (-7, M4))
    else
      (gd (inb vq1 36)
      (lt (M4 16 0 vq1.toNatClampNeg) fun w5 =>
      gd (inb vq1 36)
      (lt (mst M4 16 0 vq1.toNatClampNeg vq2) fun M6 =>
      some (w5, M6)))))
set_option maxRecDepth 20000 in
theorem wX10_lay {g : GP} {l : Launch} {x : CT} (ok : Ok g l x RX10 cX10_lay 4 (some FieldType.int) (rmL 4)) (vq1 : Int32) (vq2 : Int32)  (M : Mem) : Sw g l x (FinQ g x eI) 4 0 0 0 [(0, .ref (gA g 0 0)), (1, .int vq1), (2, .int vq2)] [] M (fX10_lay vq1 vq2 M) := by
  unfold fX10_lay
  refine r_iload_n (pc := 0) ok 1 dX10_lay_0 rfl ?_
  refine r_callS0 (pc := 1) ok [.int vq1] [] 3 (fun rZ MZ hZ => con_X10_isCell g l vq1 _ rZ MZ hZ) cs_X10_87 (rmOk_L (by decide) (by decide)) dX10_lay_1 rfl rfl (Nat.le_of_ble_eq_true rfl) (fun r1 M2 => ?_)
  refine r_if_ne (pc := 4) ok 10 dX10_lay_4 (by decide) (fun _ => ?_) (fun _ => ?_)
  · refine r_bipush (pc := 7) ok (-5) dX10_lay_7 (by decide) ?_
    exact r_iret (pc := 9) ok (Nat.zero_le _) (Nat.zero_le _) rfl dX10_lay_9
  · refine r_iload_n (pc := 10) ok 2 dX10_lay_10 rfl ?_
    refine r_iconst (pc := 11) ok 0 dX10_lay_11 (by decide) ?_
    refine r_sipush (pc := 12) ok 999 dX10_lay_12 (by decide) ?_
    refine r_callS0 (pc := 15) ok [.int vq2, .int 0, .int 999] [] 2 (fun rZ MZ hZ => con_X10_within g l vq2 0 999 _ rZ MZ hZ) cs_X10_91 (rmOk_L (by decide) (by decide)) dX10_lay_15 rfl rfl (Nat.le_of_ble_eq_true rfl) (fun r3 M4 => ?_)
    refine r_if_ne (pc := 18) ok 24 dX10_lay_18 (by decide) (fun _ => ?_) (fun _ => ?_)
    · refine r_bipush (pc := 21) ok (-7) dX10_lay_21 (by decide) ?_
      exact r_iret (pc := 23) ok (Nat.zero_le _) (Nat.zero_le _) rfl dX10_lay_23
    · refine r_aload_n (pc := 24) ok 0 dX10_lay_24 rfl ?_
      refine r_getR (pc := 25) ok fr_0_4 (by decide) fl_X10_61 dX10_lay_25 ?_
      refine r_getRN (pc := 28) ok fr_15_2 (by decide) flN_X10_95 dX10_lay_28 ?_
      refine r_iload_n (pc := 31) ok 1 dX10_lay_31 rfl ?_
      refine r_iald (pc := 32) ok ik_16 (by decide) dX10_lay_32 (fun _ => ?_)
      refine r_nmi (fun w5 => ?_)
      refine r_istore_n (pc := 33) ok [(3, .int w5), (0, .ref (gA g 0 0)), (1, .int vq1), (2, .int vq2)] dX10_lay_33 rfl (by decide) rfl ?_
      refine r_aload_n (pc := 34) ok 1 dX10_lay_34 rfl ?_
      refine r_getR (pc := 35) ok fr_0_4 (by decide) fl_X10_61 dX10_lay_35 ?_
      refine r_getRN (pc := 38) ok fr_15_2 (by decide) flN_X10_95 dX10_lay_38 ?_
      refine r_iload_n (pc := 41) ok 2 dX10_lay_41 rfl ?_
      refine r_iload_n (pc := 42) ok 3 dX10_lay_42 rfl ?_
      refine r_iast (pc := 43) ok ik_16 (by decide) dX10_lay_43 ?_
      refine r_nmM (fun M6 => ?_)
      refine r_iload_n (pc := 44) ok 0 dX10_lay_44 rfl ?_
      exact r_iret (pc := 45) ok (Nat.zero_le _) (Nat.zero_le _) rfl dX10_lay_45
theorem con_X10_lay (g : GP) (l : Launch) (vq1 : Int32) (vq2 : Int32)  (M : Mem) (r : Int32) (M2 : Mem) (h : fX10_lay vq1 vq2 M = some (r, M2)) : Con g l yX10_lay cX10_lay 4 (some FieldType.int) (rmL 4) [.ref (gA g 0 0), .int vq1, .int vq2] M (eI r) M2 :=
  Con.of (own := RX10) (f := fX10_lay vq1 vq2 M) (by decide) (Nat.le_of_ble_eq_true rfl) rfl (fun x ok => wX10_lay ok vq1 vq2  M) r M2 h
def fX10_under (vq1 : Int32) (M : Mem) : Option (Int32 × Mem) :=
  ob (fX10_isCell vq1 M) fun r1 M2 =>
  if r1 = 0 then
    (some (-5, M2))
  else
    (gd (inb vq1 36)
    (some (M2 16 0 vq1.toNatClampNeg, M2)))
set_option maxRecDepth 20000 in
theorem wX10_under {g : GP} {l : Launch} {x : CT} (ok : Ok g l x RX10 cX10_under 2 (some FieldType.int) (rmL 4)) (vq1 : Int32)  (M : Mem) : Sw g l x (FinQ g x eI) 2 0 0 0 [(0, .ref (gA g 0 0)), (1, .int vq1)] [] M (fX10_under vq1 M) := by
  unfold fX10_under
  refine r_iload_n (pc := 0) ok 1 dX10_under_0 rfl ?_
  refine r_callS0 (pc := 1) ok [.int vq1] [] 3 (fun rZ MZ hZ => con_X10_isCell g l vq1 _ rZ MZ hZ) cs_X10_87 (rmOk_L (by decide) (by decide)) dX10_under_1 rfl rfl (Nat.le_of_ble_eq_true rfl) (fun r1 M2 => ?_)
  refine r_if_eq (pc := 4) ok 19 dX10_under_4 (by decide) (fun _ => ?_) (fun _ => ?_)
  · refine r_bipush (pc := 19) ok (-5) dX10_under_19 (by decide) ?_
    exact r_iret (pc := 21) ok (Nat.zero_le _) (Nat.zero_le _) rfl dX10_under_21
  · refine r_aload_n (pc := 7) ok 0 dX10_under_7 rfl ?_
    refine r_getR (pc := 8) ok fr_0_4 (by decide) fl_X10_61 dX10_under_8 ?_
    refine r_getRN (pc := 11) ok fr_15_2 (by decide) flN_X10_95 dX10_under_11 ?_
    refine r_iload_n (pc := 14) ok 1 dX10_under_14 rfl ?_
    refine r_iald (pc := 15) ok ik_16 (by decide) dX10_under_15 (fun _ => ?_)
    refine r_goto (pc := 16) ok 21 dX10_under_16 (by decide) ?_
    exact r_iret (pc := 21) ok (Nat.zero_le _) (Nat.zero_le _) rfl dX10_under_21
theorem con_X10_under (g : GP) (l : Launch) (vq1 : Int32)  (M : Mem) (r : Int32) (M2 : Mem) (h : fX10_under vq1 M = some (r, M2)) : Con g l yX10_under cX10_under 2 (some FieldType.int) (rmL 4) [.ref (gA g 0 0), .int vq1] M (eI r) M2 :=
  Con.of (own := RX10) (f := fX10_under vq1 M) (by decide) (Nat.le_of_ble_eq_true rfl) rfl (fun x ok => wX10_under ok vq1  M) r M2 h
def fX10_feed_J117 (vq1 : Int32) (vq6 : Int32) (M : Mem) : Option (Int32 × Mem) :=
  if vq1 ≤ 4 then
    (some (M 1 0 3, M))
  else
    (ob (fX4_append vq6 M) fun r15 M16 =>
    some (M16 1 0 3, M16))
set_option maxRecDepth 20000 in
theorem sX10_feed_J117 {g : GP} {l : Launch} {x : CT} (ok : Ok g l x RX10 cX10_feed 7 (some FieldType.int) (rmL 4)) (vq1 : Int32) (vq6 : Int32)  (M : Mem) : Sw g l x (FinQ g x eI) 7 0 0 117 [(0, .ref (gA g 0 0)), (1, .int vq1), (6, .int vq6)] [] M (fX10_feed_J117 vq1 vq6 M) := by
  unfold fX10_feed_J117
  refine r_iload_n (pc := 117) ok 1 dX10_feed_117 rfl ?_
  refine r_iconst (pc := 118) ok 4 dX10_feed_118 (by decide) ?_
  refine r_icmp_le (pc := 119) ok 131 dX10_feed_119 (by decide) (fun _ => ?_) (fun _ => ?_)
  · refine r_aload_n (pc := 131) ok 0 dX10_feed_131 rfl ?_
    refine r_getR (pc := 132) ok fr_0_0 (by decide) fl_X10_33 dX10_feed_132 ?_
    refine r_getIN (pc := 135) ok fi_1_3 (by decide) flN_X10_84 dX10_feed_135 ?_
    exact r_iret (pc := 138) ok (Nat.zero_le _) (Nat.zero_le _) rfl dX10_feed_138
  · refine r_aload_n (pc := 122) ok 0 dX10_feed_122 rfl ?_
    refine r_getR (pc := 123) ok fr_0_0 (by decide) fl_X10_33 dX10_feed_123 ?_
    refine r_iload (pc := 126) ok 2 dX10_feed_126 rfl ?_
    refine r_callVN0 (pc := 128) ok [.int vq6] [] 2 (fun rZ MZ hZ => con_X4_append g l vq6 _ rZ MZ hZ) cvN_X10_102 ok_1 (rmOk_L (by decide) (by decide)) dX10_feed_128 rfl rfl (Nat.le_of_ble_eq_true rfl) (fun r15 M16 => ?_)
    refine r_aload_n (pc := 131) ok 0 dX10_feed_131 rfl ?_
    refine r_getR (pc := 132) ok fr_0_0 (by decide) fl_X10_33 dX10_feed_132 ?_
    refine r_getIN (pc := 135) ok fi_1_3 (by decide) flN_X10_84 dX10_feed_135 ?_
    exact r_iret (pc := 138) ok (Nat.zero_le _) (Nat.zero_le _) rfl dX10_feed_138
def fX10_feed_J103 (vq1 : Int32) (vq5 : Int32) (vq6 : Int32) (M : Mem) : Option (Int32 × Mem) :=
  if vq1 ≤ 3 then
    (fX10_feed_J117 vq1 vq6 M)
  else
    (ob (fX4_append vq5 M) fun r17 M18 =>
    fX10_feed_J117 vq1 vq6 M18)
set_option maxRecDepth 20000 in
theorem sX10_feed_J103 {g : GP} {l : Launch} {x : CT} (ok : Ok g l x RX10 cX10_feed 7 (some FieldType.int) (rmL 4)) (vq1 : Int32) (vq5 : Int32) (vq6 : Int32)  (M : Mem) : Sw g l x (FinQ g x eI) 7 0 0 103 [(0, .ref (gA g 0 0)), (1, .int vq1), (5, .int vq5), (6, .int vq6)] [] M (fX10_feed_J103 vq1 vq5 vq6 M) := by
  unfold fX10_feed_J103
  refine r_iload_n (pc := 103) ok 1 dX10_feed_103 rfl ?_
  refine r_iconst (pc := 104) ok 3 dX10_feed_104 (by decide) ?_
  refine r_icmp_le (pc := 105) ok 117 dX10_feed_105 (by decide) (fun _ => ?_) (fun _ => ?_)
  · refine r_lv [0, 1, 3] [(0, .ref (gA g 0 0)), (1, .int vq1), (6, .int vq6)] rfl ?_
    exact sX10_feed_J117 ok vq1 vq6 M
  · refine r_aload_n (pc := 108) ok 0 dX10_feed_108 rfl ?_
    refine r_getR (pc := 109) ok fr_0_0 (by decide) fl_X10_33 dX10_feed_109 ?_
    refine r_iload (pc := 112) ok 2 dX10_feed_112 rfl ?_
    refine r_callVN0 (pc := 114) ok [.int vq5] [] 2 (fun rZ MZ hZ => con_X4_append g l vq5 _ rZ MZ hZ) cvN_X10_102 ok_1 (rmOk_L (by decide) (by decide)) dX10_feed_114 rfl rfl (Nat.le_of_ble_eq_true rfl) (fun r17 M18 => ?_)
    refine r_lv [0, 1, 3] [(0, .ref (gA g 0 0)), (1, .int vq1), (6, .int vq6)] rfl ?_
    exact sX10_feed_J117 ok vq1 vq6 M18
def fX10_feed_J89 (vq1 : Int32) (vq4 : Int32) (vq5 : Int32) (vq6 : Int32) (M : Mem) : Option (Int32 × Mem) :=
  if vq1 ≤ 2 then
    (fX10_feed_J103 vq1 vq5 vq6 M)
  else
    (ob (fX4_append vq4 M) fun r19 M20 =>
    fX10_feed_J103 vq1 vq5 vq6 M20)
set_option maxRecDepth 20000 in
theorem sX10_feed_J89 {g : GP} {l : Launch} {x : CT} (ok : Ok g l x RX10 cX10_feed 7 (some FieldType.int) (rmL 4)) (vq1 : Int32) (vq4 : Int32) (vq5 : Int32) (vq6 : Int32)  (M : Mem) : Sw g l x (FinQ g x eI) 7 0 0 89 [(0, .ref (gA g 0 0)), (1, .int vq1), (4, .int vq4), (5, .int vq5), (6, .int vq6)] [] M (fX10_feed_J89 vq1 vq4 vq5 vq6 M) := by
  unfold fX10_feed_J89
  refine r_iload_n (pc := 89) ok 1 dX10_feed_89 rfl ?_
  refine r_iconst (pc := 90) ok 2 dX10_feed_90 (by decide) ?_
  refine r_icmp_le (pc := 91) ok 103 dX10_feed_91 (by decide) (fun _ => ?_) (fun _ => ?_)
  · refine r_lv [0, 1, 3, 4] [(0, .ref (gA g 0 0)), (1, .int vq1), (5, .int vq5), (6, .int vq6)] rfl ?_
    exact sX10_feed_J103 ok vq1 vq5 vq6 M
  · refine r_aload_n (pc := 94) ok 0 dX10_feed_94 rfl ?_
    refine r_getR (pc := 95) ok fr_0_0 (by decide) fl_X10_33 dX10_feed_95 ?_
    refine r_iload (pc := 98) ok 2 dX10_feed_98 rfl ?_
    refine r_callVN0 (pc := 100) ok [.int vq4] [] 2 (fun rZ MZ hZ => con_X4_append g l vq4 _ rZ MZ hZ) cvN_X10_102 ok_1 (rmOk_L (by decide) (by decide)) dX10_feed_100 rfl rfl (Nat.le_of_ble_eq_true rfl) (fun r19 M20 => ?_)
    refine r_lv [0, 1, 3, 4] [(0, .ref (gA g 0 0)), (1, .int vq1), (5, .int vq5), (6, .int vq6)] rfl ?_
    exact sX10_feed_J103 ok vq1 vq5 vq6 M20
def fX10_feed (vq1 : Int32) (vq2 : Int32) (vq3 : Int32) (vq4 : Int32) (vq5 : Int32) (vq6 : Int32) (M : Mem) : Option (Int32 × Mem) :=
  ob (fX10_within vq1 1 5 M) fun r1 M2 =>
  if r1 = 0 then
    (some (-2, M2))
  else
    (ob (fX10_isByte vq2 M2) fun r3 M4 =>
    if r3 = 0 then
      (some (-2, M4))
    else
      (ob (fX10_isByte vq3 M4) fun r5 M6 =>
      if r5 = 0 then
        (some (-2, M6))
      else
        (ob (fX10_isByte vq4 M6) fun r7 M8 =>
        if r7 = 0 then
          (some (-2, M8))
        else
          (ob (fX10_isByte vq5 M8) fun r9 M10 =>
          if r9 = 0 then
            (some (-2, M10))
          else
            (ob (fX10_isByte vq6 M10) fun r11 M12 =>
            if r11 = 0 then
              (some (-2, M12))
            else
              (if vq1 ≤ (160 - (M12 1 0 3)) then
                (ob (fX4_append vq2 M12) fun r13 M14 =>
                if vq1 ≤ 1 then
                  (fX10_feed_J89 vq1 vq4 vq5 vq6 M14)
                else
                  (ob (fX4_append vq3 M14) fun r21 M22 =>
                  fX10_feed_J89 vq1 vq4 vq5 vq6 M22))
              else
                (some (-4, M12))))))))
set_option maxRecDepth 20000 in
theorem wX10_feed {g : GP} {l : Launch} {x : CT} (ok : Ok g l x RX10 cX10_feed 7 (some FieldType.int) (rmL 4)) (vq1 : Int32) (vq2 : Int32) (vq3 : Int32) (vq4 : Int32) (vq5 : Int32) (vq6 : Int32)  (M : Mem) : Sw g l x (FinQ g x eI) 7 0 0 0 [(0, .ref (gA g 0 0)), (1, .int vq1), (2, .int vq2), (3, .int vq3), (4, .int vq4), (5, .int vq5), (6, .int vq6)] [] M (fX10_feed vq1 vq2 vq3 vq4 vq5 vq6 M) := by
  unfold fX10_feed
  refine r_iload_n (pc := 0) ok 1 dX10_feed_0 rfl ?_
  refine r_iconst (pc := 1) ok 1 dX10_feed_1 (by decide) ?_
  refine r_iconst (pc := 2) ok 5 dX10_feed_2 (by decide) ?_
  refine r_callS0 (pc := 3) ok [.int vq1, .int 1, .int 5] [] 2 (fun rZ MZ hZ => con_X10_within g l vq1 1 5 _ rZ MZ hZ) cs_X10_91 (rmOk_L (by decide) (by decide)) dX10_feed_3 rfl rfl (Nat.le_of_ble_eq_true rfl) (fun r1 M2 => ?_)
  refine r_if_eq (pc := 6) ok 47 dX10_feed_6 (by decide) (fun _ => ?_) (fun _ => ?_)
  · refine r_bipush (pc := 47) ok (-2) dX10_feed_47 (by decide) ?_
    exact r_iret (pc := 49) ok (Nat.zero_le _) (Nat.zero_le _) rfl dX10_feed_49
  · refine r_iload_n (pc := 9) ok 2 dX10_feed_9 rfl ?_
    refine r_callS0 (pc := 10) ok [.int vq2] [] 3 (fun rZ MZ hZ => con_X10_isByte g l vq2 _ rZ MZ hZ) cs_X10_99 (rmOk_L (by decide) (by decide)) dX10_feed_10 rfl rfl (Nat.le_of_ble_eq_true rfl) (fun r3 M4 => ?_)
    refine r_if_eq (pc := 13) ok 47 dX10_feed_13 (by decide) (fun _ => ?_) (fun _ => ?_)
    · refine r_bipush (pc := 47) ok (-2) dX10_feed_47 (by decide) ?_
      exact r_iret (pc := 49) ok (Nat.zero_le _) (Nat.zero_le _) rfl dX10_feed_49
    · refine r_iload_n (pc := 16) ok 3 dX10_feed_16 rfl ?_
      refine r_callS0 (pc := 17) ok [.int vq3] [] 3 (fun rZ MZ hZ => con_X10_isByte g l vq3 _ rZ MZ hZ) cs_X10_99 (rmOk_L (by decide) (by decide)) dX10_feed_17 rfl rfl (Nat.le_of_ble_eq_true rfl) (fun r5 M6 => ?_)
      refine r_if_eq (pc := 20) ok 47 dX10_feed_20 (by decide) (fun _ => ?_) (fun _ => ?_)
      · refine r_bipush (pc := 47) ok (-2) dX10_feed_47 (by decide) ?_
        exact r_iret (pc := 49) ok (Nat.zero_le _) (Nat.zero_le _) rfl dX10_feed_49
      · refine r_iload (pc := 23) ok 4 dX10_feed_23 rfl ?_
        refine r_callS0 (pc := 25) ok [.int vq4] [] 3 (fun rZ MZ hZ => con_X10_isByte g l vq4 _ rZ MZ hZ) cs_X10_99 (rmOk_L (by decide) (by decide)) dX10_feed_25 rfl rfl (Nat.le_of_ble_eq_true rfl) (fun r7 M8 => ?_)
        refine r_if_eq (pc := 28) ok 47 dX10_feed_28 (by decide) (fun _ => ?_) (fun _ => ?_)
        · refine r_bipush (pc := 47) ok (-2) dX10_feed_47 (by decide) ?_
          exact r_iret (pc := 49) ok (Nat.zero_le _) (Nat.zero_le _) rfl dX10_feed_49
        · refine r_iload (pc := 31) ok 5 dX10_feed_31 rfl ?_
          refine r_callS0 (pc := 33) ok [.int vq5] [] 3 (fun rZ MZ hZ => con_X10_isByte g l vq5 _ rZ MZ hZ) cs_X10_99 (rmOk_L (by decide) (by decide)) dX10_feed_33 rfl rfl (Nat.le_of_ble_eq_true rfl) (fun r9 M10 => ?_)
          refine r_if_eq (pc := 36) ok 47 dX10_feed_36 (by decide) (fun _ => ?_) (fun _ => ?_)
          · refine r_bipush (pc := 47) ok (-2) dX10_feed_47 (by decide) ?_
            exact r_iret (pc := 49) ok (Nat.zero_le _) (Nat.zero_le _) rfl dX10_feed_49
          · refine r_iload (pc := 39) ok 6 dX10_feed_39 rfl ?_
            refine r_callS0 (pc := 41) ok [.int vq6] [] 3 (fun rZ MZ hZ => con_X10_isByte g l vq6 _ rZ MZ hZ) cs_X10_99 (rmOk_L (by decide) (by decide)) dX10_feed_41 rfl rfl (Nat.le_of_ble_eq_true rfl) (fun r11 M12 => ?_)
            refine r_if_ne (pc := 44) ok 50 dX10_feed_44 (by decide) (fun _ => ?_) (fun _ => ?_)
            · refine r_bipush (pc := 47) ok (-2) dX10_feed_47 (by decide) ?_
              exact r_iret (pc := 49) ok (Nat.zero_le _) (Nat.zero_le _) rfl dX10_feed_49
            · refine r_iload_n (pc := 50) ok 1 dX10_feed_50 rfl ?_
              refine r_sipush (pc := 51) ok 160 dX10_feed_51 (by decide) ?_
              refine r_aload_n (pc := 54) ok 0 dX10_feed_54 rfl ?_
              refine r_getR (pc := 55) ok fr_0_0 (by decide) fl_X10_33 dX10_feed_55 ?_
              refine r_getIN (pc := 58) ok fi_1_3 (by decide) flN_X10_84 dX10_feed_58 ?_
              refine r_isub (pc := 61) ok dX10_feed_61 ?_
              refine r_icmp_le (pc := 62) ok 68 dX10_feed_62 (by decide) (fun _ => ?_) (fun _ => ?_)
              · refine r_aload_n (pc := 68) ok 0 dX10_feed_68 rfl ?_
                refine r_getR (pc := 69) ok fr_0_0 (by decide) fl_X10_33 dX10_feed_69 ?_
                refine r_iload_n (pc := 72) ok 2 dX10_feed_72 rfl ?_
                refine r_callVN0 (pc := 73) ok [.int vq2] [] 2 (fun rZ MZ hZ => con_X4_append g l vq2 _ rZ MZ hZ) cvN_X10_102 ok_1 (rmOk_L (by decide) (by decide)) dX10_feed_73 rfl rfl (Nat.le_of_ble_eq_true rfl) (fun r13 M14 => ?_)
                refine r_iload_n (pc := 76) ok 1 dX10_feed_76 rfl ?_
                refine r_iconst (pc := 77) ok 1 dX10_feed_77 (by decide) ?_
                refine r_icmp_le (pc := 78) ok 89 dX10_feed_78 (by decide) (fun _ => ?_) (fun _ => ?_)
                · refine r_lv [0, 1, 4, 5, 6] [(0, .ref (gA g 0 0)), (1, .int vq1), (4, .int vq4), (5, .int vq5), (6, .int vq6)] rfl ?_
                  exact sX10_feed_J89 ok vq1 vq4 vq5 vq6 M14
                · refine r_aload_n (pc := 81) ok 0 dX10_feed_81 rfl ?_
                  refine r_getR (pc := 82) ok fr_0_0 (by decide) fl_X10_33 dX10_feed_82 ?_
                  refine r_iload_n (pc := 85) ok 3 dX10_feed_85 rfl ?_
                  refine r_callVN0 (pc := 86) ok [.int vq3] [] 2 (fun rZ MZ hZ => con_X4_append g l vq3 _ rZ MZ hZ) cvN_X10_102 ok_1 (rmOk_L (by decide) (by decide)) dX10_feed_86 rfl rfl (Nat.le_of_ble_eq_true rfl) (fun r21 M22 => ?_)
                  refine r_lv [0, 1, 4, 5, 6] [(0, .ref (gA g 0 0)), (1, .int vq1), (4, .int vq4), (5, .int vq5), (6, .int vq6)] rfl ?_
                  exact sX10_feed_J89 ok vq1 vq4 vq5 vq6 M22
              · refine r_bipush (pc := 65) ok (-4) dX10_feed_65 (by decide) ?_
                exact r_iret (pc := 67) ok (Nat.zero_le _) (Nat.zero_le _) rfl dX10_feed_67
theorem con_X10_feed (g : GP) (l : Launch) (vq1 : Int32) (vq2 : Int32) (vq3 : Int32) (vq4 : Int32) (vq5 : Int32) (vq6 : Int32)  (M : Mem) (r : Int32) (M2 : Mem) (h : fX10_feed vq1 vq2 vq3 vq4 vq5 vq6 M = some (r, M2)) : Con g l yX10_feed cX10_feed 7 (some FieldType.int) (rmL 4) [.ref (gA g 0 0), .int vq1, .int vq2, .int vq3, .int vq4, .int vq5, .int vq6] M (eI r) M2 :=
  Con.of (own := RX10) (f := fX10_feed vq1 vq2 vq3 vq4 vq5 vq6 M) (by decide) (Nat.le_of_ble_eq_true rfl) rfl (fun x ok => wX10_feed ok vq1 vq2 vq3 vq4 vq5 vq6  M) r M2 h
def fX10_put_J36 (vq1 : Int32) (vq2 : Int32) (vq3 : Int32) (s0 : Int32) (s1 : Int32) (s2 : Int32) (M : Mem) : Option (Int32 × Mem) :=
  ob (fX10_within s2 s1 s0 M) fun r5 M6 =>
  if r5 = 0 then
    (some (-7, M6))
  else
    (gd (inb vq2 4)
    (gd (inb vq1 6)
    (lt (M6 18 (4 * 0 + vq2.toNatClampNeg) vq1.toNatClampNeg) fun w8 =>
    gd (inb vq2 4)
    (gd (inb vq1 6)
    (lt (mst M6 18 (4 * 0 + vq2.toNatClampNeg) vq1.toNatClampNeg vq3) fun M10 =>
    some (w8, M10))))))
set_option maxRecDepth 20000 in
theorem sX10_put_J36 {g : GP} {l : Launch} {x : CT} (ok : Ok g l x RX10 cX10_put 5 (some FieldType.int) (rmL 4)) (vq1 : Int32) (vq2 : Int32) (vq3 : Int32) (s0 : Int32) (s1 : Int32) (s2 : Int32)  (M : Mem) : Sw g l x (FinQ g x eI) 5 0 0 36 [(0, .ref (gA g 0 0)), (1, .int vq1), (2, .int vq2), (3, .int vq3)] [.int s0, .int s1, .int s2] M (fX10_put_J36 vq1 vq2 vq3 s0 s1 s2 M) := by
  unfold fX10_put_J36
  refine r_callS0 (pc := 36) ok [.int s2, .int s1, .int s0] [] 2 (fun rZ MZ hZ => con_X10_within g l s2 s1 s0 _ rZ MZ hZ) cs_X10_91 (rmOk_L (by decide) (by decide)) dX10_put_36 rfl rfl (Nat.le_of_ble_eq_true rfl) (fun r5 M6 => ?_)
  refine r_if_ne (pc := 39) ok 45 dX10_put_39 (by decide) (fun _ => ?_) (fun _ => ?_)
  · refine r_bipush (pc := 42) ok (-7) dX10_put_42 (by decide) ?_
    exact r_iret (pc := 44) ok (Nat.zero_le _) (Nat.zero_le _) rfl dX10_put_44
  · refine r_aload_n (pc := 45) ok 0 dX10_put_45 rfl ?_
    refine r_getR (pc := 46) ok fr_0_4 (by decide) fl_X10_61 dX10_put_46 ?_
    refine r_getRN (pc := 49) ok fr_15_3 (by decide) flN_X10_127 dX10_put_49 ?_
    refine r_iload_n (pc := 52) ok 2 dX10_put_52 rfl ?_
    refine r_aald (pc := 53) ok rk_17 (by decide) rfl rfl dX10_put_53 (fun hb7 => ?_)
    refine r_iload_n (pc := 54) ok 1 dX10_put_54 rfl ?_
    refine r_iald (pc := 55) ok ik_18 (show _ < 12 from trow_lt (by decide) hb7) dX10_put_55 (fun _ => ?_)
    refine r_nmi (fun w8 => ?_)
    refine r_istore (pc := 56) ok [(4, .int w8), (0, .ref (gA g 0 0)), (1, .int vq1), (2, .int vq2), (3, .int vq3)] dX10_put_56 (by decide) rfl ?_
    refine r_aload_n (pc := 58) ok 1 dX10_put_58 rfl ?_
    refine r_getR (pc := 59) ok fr_0_4 (by decide) fl_X10_61 dX10_put_59 ?_
    refine r_getRN (pc := 62) ok fr_15_3 (by decide) flN_X10_127 dX10_put_62 ?_
    refine r_iload_n (pc := 65) ok 3 dX10_put_65 rfl ?_
    refine r_aald (pc := 66) ok rk_17 (by decide) rfl rfl dX10_put_66 (fun hb9 => ?_)
    refine r_iload_n (pc := 67) ok 2 dX10_put_67 rfl ?_
    refine r_iload_n (pc := 68) ok 4 dX10_put_68 rfl ?_
    refine r_iast (pc := 69) ok ik_18 (show _ < 12 from trow_lt (by decide) hb9) dX10_put_69 ?_
    refine r_nmM (fun M10 => ?_)
    refine r_iload (pc := 70) ok 0 dX10_put_70 rfl ?_
    exact r_iret (pc := 72) ok (Nat.zero_le _) (Nat.zero_le _) rfl dX10_put_72
def fX10_put (vq1 : Int32) (vq2 : Int32) (vq3 : Int32) (M : Mem) : Option (Int32 × Mem) :=
  ob (fX5_has 0 vq1 M) fun r1 M2 =>
  if r1 = 0 then
    (some (-5, M2))
  else
    (ob (fX10_within vq2 0 1 M2) fun r3 M4 =>
    if r3 = 0 then
      (some (-7, M4))
    else
      (if vq2 = 0 then
        (fX10_put_J36 vq1 vq2 vq3 35 0 vq3 M4)
      else
        (fX10_put_J36 vq1 vq2 vq3 99 0 vq3 M4)))
set_option maxRecDepth 20000 in
theorem wX10_put {g : GP} {l : Launch} {x : CT} (ok : Ok g l x RX10 cX10_put 5 (some FieldType.int) (rmL 4)) (vq1 : Int32) (vq2 : Int32) (vq3 : Int32)  (M : Mem) : Sw g l x (FinQ g x eI) 5 0 0 0 [(0, .ref (gA g 0 0)), (1, .int vq1), (2, .int vq2), (3, .int vq3)] [] M (fX10_put vq1 vq2 vq3 M) := by
  unfold fX10_put
  refine r_aload_n (pc := 0) ok 0 dX10_put_0 rfl ?_
  refine r_getR (pc := 1) ok fr_0_4 (by decide) fl_X10_61 dX10_put_1 ?_
  refine r_iload_n (pc := 4) ok 1 dX10_put_4 rfl ?_
  refine r_callVN0 (pc := 5) ok [.int vq1] [] 3 (fun rZ MZ hZ => con_X5_has g l 0 vq1 (by decide) _ rZ MZ hZ) cvN_X10_117 (ok_15 (by decide)) (rmOk_L (by decide) (by decide)) dX10_put_5 rfl rfl (Nat.le_of_ble_eq_true rfl) (fun r1 M2 => ?_)
  refine r_if_ne (pc := 8) ok 14 dX10_put_8 (by decide) (fun _ => ?_) (fun _ => ?_)
  · refine r_bipush (pc := 11) ok (-5) dX10_put_11 (by decide) ?_
    exact r_iret (pc := 13) ok (Nat.zero_le _) (Nat.zero_le _) rfl dX10_put_13
  · refine r_iload_n (pc := 14) ok 2 dX10_put_14 rfl ?_
    refine r_iconst (pc := 15) ok 0 dX10_put_15 (by decide) ?_
    refine r_iconst (pc := 16) ok 1 dX10_put_16 (by decide) ?_
    refine r_callS0 (pc := 17) ok [.int vq2, .int 0, .int 1] [] 2 (fun rZ MZ hZ => con_X10_within g l vq2 0 1 _ rZ MZ hZ) cs_X10_91 (rmOk_L (by decide) (by decide)) dX10_put_17 rfl rfl (Nat.le_of_ble_eq_true rfl) (fun r3 M4 => ?_)
    refine r_if_eq (pc := 20) ok 42 dX10_put_20 (by decide) (fun _ => ?_) (fun _ => ?_)
    · refine r_bipush (pc := 42) ok (-7) dX10_put_42 (by decide) ?_
      exact r_iret (pc := 44) ok (Nat.zero_le _) (Nat.zero_le _) rfl dX10_put_44
    · refine r_iload_n (pc := 23) ok 3 dX10_put_23 rfl ?_
      refine r_iconst (pc := 24) ok 0 dX10_put_24 (by decide) ?_
      refine r_iload_n (pc := 25) ok 2 dX10_put_25 rfl ?_
      refine r_if_ne (pc := 26) ok 34 dX10_put_26 (by decide) (fun _ => ?_) (fun _ => ?_)
      · refine r_bipush (pc := 29) ok 35 dX10_put_29 (by decide) ?_
        refine r_goto (pc := 31) ok 36 dX10_put_31 (by decide) ?_
        refine r_lv [0, 1, 2, 3] [(0, .ref (gA g 0 0)), (1, .int vq1), (2, .int vq2), (3, .int vq3)] rfl ?_
        exact sX10_put_J36 ok vq1 vq2 vq3 35 0 vq3 M4
      · refine r_bipush (pc := 34) ok 99 dX10_put_34 (by decide) ?_
        refine r_lv [0, 1, 2, 3] [(0, .ref (gA g 0 0)), (1, .int vq1), (2, .int vq2), (3, .int vq3)] rfl ?_
        exact sX10_put_J36 ok vq1 vq2 vq3 99 0 vq3 M4
theorem con_X10_put (g : GP) (l : Launch) (vq1 : Int32) (vq2 : Int32) (vq3 : Int32)  (M : Mem) (r : Int32) (M2 : Mem) (h : fX10_put vq1 vq2 vq3 M = some (r, M2)) : Con g l yX10_put cX10_put 5 (some FieldType.int) (rmL 4) [.ref (gA g 0 0), .int vq1, .int vq2, .int vq3] M (eI r) M2 :=
  Con.of (own := RX10) (f := fX10_put vq1 vq2 vq3 M) (by decide) (Nat.le_of_ble_eq_true rfl) rfl (fun x ok => wX10_put ok vq1 vq2 vq3  M) r M2 h
def fX10_told (vq1 : Int32) (vq2 : Int32) (M : Mem) : Option (Int32 × Mem) :=
  ob (fX5_has 0 vq1 M) fun r1 M2 =>
  if r1 = 0 then
    (some (-5, M2))
  else
    (ob (fX10_within vq2 0 3 M2) fun r3 M4 =>
    if r3 = 0 then
      (some (-7, M4))
    else
      (gd (inb vq2 4)
      (gd (inb vq1 6)
      (some (M4 18 (4 * 0 + vq2.toNatClampNeg) vq1.toNatClampNeg, M4)))))
set_option maxRecDepth 20000 in
theorem wX10_told {g : GP} {l : Launch} {x : CT} (ok : Ok g l x RX10 cX10_told 3 (some FieldType.int) (rmL 4)) (vq1 : Int32) (vq2 : Int32)  (M : Mem) : Sw g l x (FinQ g x eI) 3 0 0 0 [(0, .ref (gA g 0 0)), (1, .int vq1), (2, .int vq2)] [] M (fX10_told vq1 vq2 M) := by
  unfold fX10_told
  refine r_aload_n (pc := 0) ok 0 dX10_told_0 rfl ?_
  refine r_getR (pc := 1) ok fr_0_4 (by decide) fl_X10_61 dX10_told_1 ?_
  refine r_iload_n (pc := 4) ok 1 dX10_told_4 rfl ?_
  refine r_callVN0 (pc := 5) ok [.int vq1] [] 3 (fun rZ MZ hZ => con_X5_has g l 0 vq1 (by decide) _ rZ MZ hZ) cvN_X10_117 (ok_15 (by decide)) (rmOk_L (by decide) (by decide)) dX10_told_5 rfl rfl (Nat.le_of_ble_eq_true rfl) (fun r1 M2 => ?_)
  refine r_if_ne (pc := 8) ok 14 dX10_told_8 (by decide) (fun _ => ?_) (fun _ => ?_)
  · refine r_bipush (pc := 11) ok (-5) dX10_told_11 (by decide) ?_
    exact r_iret (pc := 13) ok (Nat.zero_le _) (Nat.zero_le _) rfl dX10_told_13
  · refine r_iload_n (pc := 14) ok 2 dX10_told_14 rfl ?_
    refine r_iconst (pc := 15) ok 0 dX10_told_15 (by decide) ?_
    refine r_iconst (pc := 16) ok 3 dX10_told_16 (by decide) ?_
    refine r_callS0 (pc := 17) ok [.int vq2, .int 0, .int 3] [] 2 (fun rZ MZ hZ => con_X10_within g l vq2 0 3 _ rZ MZ hZ) cs_X10_91 (rmOk_L (by decide) (by decide)) dX10_told_17 rfl rfl (Nat.le_of_ble_eq_true rfl) (fun r3 M4 => ?_)
    refine r_if_eq (pc := 20) ok 37 dX10_told_20 (by decide) (fun _ => ?_) (fun _ => ?_)
    · refine r_bipush (pc := 37) ok (-7) dX10_told_37 (by decide) ?_
      exact r_iret (pc := 39) ok (Nat.zero_le _) (Nat.zero_le _) rfl dX10_told_39
    · refine r_aload_n (pc := 23) ok 0 dX10_told_23 rfl ?_
      refine r_getR (pc := 24) ok fr_0_4 (by decide) fl_X10_61 dX10_told_24 ?_
      refine r_getRN (pc := 27) ok fr_15_3 (by decide) flN_X10_127 dX10_told_27 ?_
      refine r_iload_n (pc := 30) ok 2 dX10_told_30 rfl ?_
      refine r_aald (pc := 31) ok rk_17 (by decide) rfl rfl dX10_told_31 (fun hb5 => ?_)
      refine r_iload_n (pc := 32) ok 1 dX10_told_32 rfl ?_
      refine r_iald (pc := 33) ok ik_18 (show _ < 12 from trow_lt (by decide) hb5) dX10_told_33 (fun _ => ?_)
      refine r_goto (pc := 34) ok 39 dX10_told_34 (by decide) ?_
      exact r_iret (pc := 39) ok (Nat.zero_le _) (Nat.zero_le _) rfl dX10_told_39
theorem con_X10_told (g : GP) (l : Launch) (vq1 : Int32) (vq2 : Int32)  (M : Mem) (r : Int32) (M2 : Mem) (h : fX10_told vq1 vq2 M = some (r, M2)) : Con g l yX10_told cX10_told 3 (some FieldType.int) (rmL 4) [.ref (gA g 0 0), .int vq1, .int vq2] M (eI r) M2 :=
  Con.of (own := RX10) (f := fX10_told vq1 vq2 M) (by decide) (Nat.le_of_ble_eq_true rfl) rfl (fun x ok => wX10_told ok vq1 vq2  M) r M2 h
def fX10_heap (vq1 : Int32) (vq2 : Int32) (vq3 : Int32) (M : Mem) : Option (Int64 × Mem) :=
  ob (fX10_isCell vq1 M) fun r1 M2 =>
  if r1 = 0 then
    (some (-4611686018427387904, M2))
  else
    (ob (fX10_within vq2 0 999 M2) fun r3 M4 =>
    if r3 = 0 then
      (some (-4611686018427387904, M4))
    else
      (ob (fX10_within vq3 0 2 M4) fun r5 M6 =>
      if r5 = 0 then
        (some (-4611686018427387904, M6))
      else
        (ob (fX5_thickBy 0 vq2 M6) fun r7 M8 =>
        ob (fX10_spread (lshl 1 vq1) r7 M8) fun r9 M10 =>
        if vq3 = 0 then
          (some (r9, M10))
        else
          (if vq3 = 1 then
            (ob (fJ13_bitCount_95d88 r9 M10) fun r12 M13 =>
            some (r12.toInt64, M13))
          else
            (ob (fX5_totalOf 0 r9 M10) fun r15 M16 =>
            some (r15.toInt64, M16))))))
set_option maxRecDepth 20000 in
theorem wX10_heap {g : GP} {l : Launch} {x : CT} (ok : Ok g l x RX10 cX10_heap 6 (some FieldType.long) (rmL 4)) (vq1 : Int32) (vq2 : Int32) (vq3 : Int32)  (M : Mem) : Sw g l x (FinQ g x eJ) 6 0 0 0 [(0, .ref (gA g 0 0)), (1, .int vq1), (2, .int vq2), (3, .int vq3)] [] M (fX10_heap vq1 vq2 vq3 M) := by
  unfold fX10_heap
  refine r_iload_n (pc := 0) ok 1 dX10_heap_0 rfl ?_
  refine r_callS0 (pc := 1) ok [.int vq1] [] 3 (fun rZ MZ hZ => con_X10_isCell g l vq1 _ rZ MZ hZ) cs_X10_87 (rmOk_L (by decide) (by decide)) dX10_heap_1 rfl rfl (Nat.le_of_ble_eq_true rfl) (fun r1 M2 => ?_)
  refine r_if_eq (pc := 4) ok 27 dX10_heap_4 (by decide) (fun _ => ?_) (fun _ => ?_)
  · refine r_ldc2 (pc := 27) ok wcl_X10_169 dX10_heap_27 ?_
    exact r_lret (pc := 30) ok (Nat.zero_le _) (Nat.zero_le _) rfl dX10_heap_30
  · refine r_iload_n (pc := 7) ok 2 dX10_heap_7 rfl ?_
    refine r_iconst (pc := 8) ok 0 dX10_heap_8 (by decide) ?_
    refine r_sipush (pc := 9) ok 999 dX10_heap_9 (by decide) ?_
    refine r_callS0 (pc := 12) ok [.int vq2, .int 0, .int 999] [] 2 (fun rZ MZ hZ => con_X10_within g l vq2 0 999 _ rZ MZ hZ) cs_X10_91 (rmOk_L (by decide) (by decide)) dX10_heap_12 rfl rfl (Nat.le_of_ble_eq_true rfl) (fun r3 M4 => ?_)
    refine r_if_eq (pc := 15) ok 27 dX10_heap_15 (by decide) (fun _ => ?_) (fun _ => ?_)
    · refine r_ldc2 (pc := 27) ok wcl_X10_169 dX10_heap_27 ?_
      exact r_lret (pc := 30) ok (Nat.zero_le _) (Nat.zero_le _) rfl dX10_heap_30
    · refine r_iload_n (pc := 18) ok 3 dX10_heap_18 rfl ?_
      refine r_iconst (pc := 19) ok 0 dX10_heap_19 (by decide) ?_
      refine r_iconst (pc := 20) ok 2 dX10_heap_20 (by decide) ?_
      refine r_callS0 (pc := 21) ok [.int vq3, .int 0, .int 2] [] 2 (fun rZ MZ hZ => con_X10_within g l vq3 0 2 _ rZ MZ hZ) cs_X10_91 (rmOk_L (by decide) (by decide)) dX10_heap_21 rfl rfl (Nat.le_of_ble_eq_true rfl) (fun r5 M6 => ?_)
      refine r_if_ne (pc := 24) ok 31 dX10_heap_24 (by decide) (fun _ => ?_) (fun _ => ?_)
      · refine r_ldc2 (pc := 27) ok wcl_X10_169 dX10_heap_27 ?_
        exact r_lret (pc := 30) ok (Nat.zero_le _) (Nat.zero_le _) rfl dX10_heap_30
      · refine r_lconst (pc := 31) ok 1 dX10_heap_31 (by decide) ?_
        refine r_iload_n (pc := 32) ok 1 dX10_heap_32 rfl ?_
        refine r_lshl (pc := 33) ok dX10_heap_33 ?_
        refine r_aload_n (pc := 34) ok 0 dX10_heap_34 rfl ?_
        refine r_getR (pc := 35) ok fr_0_4 (by decide) fl_X10_61 dX10_heap_35 ?_
        refine r_iload_n (pc := 38) ok 2 dX10_heap_38 rfl ?_
        refine r_callVN0 (pc := 39) ok [.int vq2] [.long (lshl 1 vq1)] 2 (fun rZ MZ hZ => con_X5_thickBy g l 0 vq2 (by decide) _ rZ MZ hZ) cvN_X10_171 (ok_15 (by decide)) (rmOk_L (by decide) (by decide)) dX10_heap_39 rfl rfl (Nat.le_of_ble_eq_true rfl) (fun r7 M8 => ?_)
        refine r_callS0 (pc := 42) ok [.long (lshl 1 vq1), .long r7] [] 3 (fun rZ MZ hZ => con_X10_spread g l (lshl 1 vq1) r7 _ rZ MZ hZ) cs_X10_175 (rmOk_L (by decide) (by decide)) dX10_heap_42 rfl rfl (Nat.le_of_ble_eq_true rfl) (fun r9 M10 => ?_)
        refine r_lstore (pc := 45) ok [(4, .long r9), (0, .ref (gA g 0 0)), (1, .int vq1), (2, .int vq2), (3, .int vq3)] dX10_heap_45 (by decide) rfl ?_
        refine r_iload_n (pc := 47) ok 4 dX10_heap_47 rfl ?_
        refine r_lkc (pc := 48) ok (28) 76 dX10_heap_48 (by decide +kernel) (by decide +kernel) (by decide) (fun _ => ?_) (fun hs11 => ?_)
        · refine r_lload (pc := 76) ok 0 dX10_heap_76 rfl ?_
          exact r_lret (pc := 78) ok (Nat.zero_le _) (Nat.zero_le _) rfl dX10_heap_78
        · refine r_lkc (pc := 48) ok (31) 79 dX10_heap_48 (by decide +kernel) (by decide +kernel) (by decide) (fun _ => ?_) (fun hs14 => ?_)
          · refine r_lload (pc := 79) ok 0 dX10_heap_79 rfl ?_
            refine r_callS0 (pc := 81) ok [.long r9] [] 2 (fun rZ MZ hZ => con_J13_bitCount_95d88 g l r9 _ rZ MZ hZ) cs_X10_179 (rmOk_L (by decide) (by decide)) dX10_heap_81 rfl rfl (Nat.le_of_ble_eq_true rfl) (fun r12 M13 => ?_)
            refine r_i2l (pc := 84) ok dX10_heap_84 ?_
            exact r_lret (pc := 85) ok (Nat.zero_le _) (Nat.zero_le _) rfl dX10_heap_85
          · refine r_lkd (pc := 48) ok 86 dX10_heap_48 (by decide +kernel) ((lv_osw hs11 (by decide : (0 : Int32).toInt = 0)).trans ((lv_osw hs14 (by decide : (1 : Int32).toInt = 1)).trans (rfl))) (by decide) ?_
            refine r_aload_n (pc := 86) ok 1 dX10_heap_86 rfl ?_
            refine r_getR (pc := 87) ok fr_0_4 (by decide) fl_X10_61 dX10_heap_87 ?_
            refine r_lload (pc := 90) ok 0 dX10_heap_90 rfl ?_
            refine r_callVN0 (pc := 92) ok [.long r9] [] 2 (fun rZ MZ hZ => con_X5_totalOf g l 0 r9 (by decide) _ rZ MZ hZ) cvN_X10_185 (ok_15 (by decide)) (rmOk_L (by decide) (by decide)) dX10_heap_92 rfl rfl (Nat.le_of_ble_eq_true rfl) (fun r15 M16 => ?_)
            refine r_i2l (pc := 95) ok dX10_heap_95 ?_
            exact r_lret (pc := 96) ok (Nat.zero_le _) (Nat.zero_le _) rfl dX10_heap_96
theorem con_X10_heap (g : GP) (l : Launch) (vq1 : Int32) (vq2 : Int32) (vq3 : Int32)  (M : Mem) (r : Int64) (M2 : Mem) (h : fX10_heap vq1 vq2 vq3 M = some (r, M2)) : Con g l yX10_heap cX10_heap 6 (some FieldType.long) (rmL 4) [.ref (gA g 0 0), .int vq1, .int vq2, .int vq3] M (eJ r) M2 :=
  Con.of (own := RX10) (f := fX10_heap vq1 vq2 vq3 M) (by decide) (Nat.le_of_ble_eq_true rfl) rfl (fun x ok => wX10_heap ok vq1 vq2 vq3  M) r M2 h
def fX10_sheet (vq1 : Int32) (vq2 : Int32) (vq3 : Int32) (M : Mem) : Option (Int32 × Mem) :=
  ob (fX10_isSheet vq1 M) fun r1 M2 =>
  if r1 = 0 then
    (some (-2, M2))
  else
    (ob (fX10_within vq2 (-1) 2 M2) fun r3 M4 =>
    if r3 = 0 then
      (some (-2, M4))
    else
      (if vq2 = (-1) then
        (gd (inb vq1 4)
        (ob (fX6_become vq1.toNatClampNeg (-1) 0 M4) fun r9 M10 =>
        some (1, M10)))
      else
        (if vq3 ≤ 40 then
          (if 0 ≤ vq3 then
            (gd (inb vq1 4)
            (ob (fX6_become vq1.toNatClampNeg vq2 vq3 M4) fun r6 M7 =>
            some (1, M7)))
          else
            (some (-14, M4)))
        else
          (some (-2, M4)))))
set_option maxRecDepth 20000 in
theorem wX10_sheet {g : GP} {l : Launch} {x : CT} (ok : Ok g l x RX10 cX10_sheet 4 (some FieldType.int) (rmL 4)) (vq1 : Int32) (vq2 : Int32) (vq3 : Int32)  (M : Mem) : Sw g l x (FinQ g x eI) 4 0 0 0 [(0, .ref (gA g 0 0)), (1, .int vq1), (2, .int vq2), (3, .int vq3)] [] M (fX10_sheet vq1 vq2 vq3 M) := by
  unfold fX10_sheet
  refine r_iload_n (pc := 0) ok 1 dX10_sheet_0 rfl ?_
  refine r_callS0 (pc := 1) ok [.int vq1] [] 3 (fun rZ MZ hZ => con_X10_isSheet g l vq1 _ rZ MZ hZ) cs_X10_219 (rmOk_L (by decide) (by decide)) dX10_sheet_1 rfl rfl (Nat.le_of_ble_eq_true rfl) (fun r1 M2 => ?_)
  refine r_if_eq (pc := 4) ok 16 dX10_sheet_4 (by decide) (fun _ => ?_) (fun _ => ?_)
  · refine r_bipush (pc := 16) ok (-2) dX10_sheet_16 (by decide) ?_
    exact r_iret (pc := 18) ok (Nat.zero_le _) (Nat.zero_le _) rfl dX10_sheet_18
  · refine r_iload_n (pc := 7) ok 2 dX10_sheet_7 rfl ?_
    refine r_iconst (pc := 8) ok (-1) dX10_sheet_8 (by decide) ?_
    refine r_iconst (pc := 9) ok 2 dX10_sheet_9 (by decide) ?_
    refine r_callS0 (pc := 10) ok [.int vq2, .int (-1), .int 2] [] 2 (fun rZ MZ hZ => con_X10_within g l vq2 (-1) 2 _ rZ MZ hZ) cs_X10_91 (rmOk_L (by decide) (by decide)) dX10_sheet_10 rfl rfl (Nat.le_of_ble_eq_true rfl) (fun r3 M4 => ?_)
    refine r_if_ne (pc := 13) ok 19 dX10_sheet_13 (by decide) (fun _ => ?_) (fun _ => ?_)
    · refine r_bipush (pc := 16) ok (-2) dX10_sheet_16 (by decide) ?_
      exact r_iret (pc := 18) ok (Nat.zero_le _) (Nat.zero_le _) rfl dX10_sheet_18
    · refine r_iload_n (pc := 19) ok 2 dX10_sheet_19 rfl ?_
      refine r_iconst (pc := 20) ok (-1) dX10_sheet_20 (by decide) ?_
      refine r_icmp_ne (pc := 21) ok 37 dX10_sheet_21 (by decide) (fun _ => ?_) (fun _ => ?_)
      · refine r_aload_n (pc := 24) ok 0 dX10_sheet_24 rfl ?_
        refine r_getR (pc := 25) ok fr_0_3 (by decide) fl_X10_51 dX10_sheet_25 ?_
        refine r_iload_n (pc := 28) ok 1 dX10_sheet_28 rfl ?_
        refine r_aald (pc := 29) ok rk_7 (by decide) rfl rfl dX10_sheet_29 (fun hb8 => ?_)
        refine r_iconst (pc := 30) ok (-1) dX10_sheet_30 (by decide) ?_
        refine r_iconst (pc := 31) ok 0 dX10_sheet_31 (by decide) ?_
        refine r_callVN0 (pc := 32) ok [.int (-1), .int 0] [] 3 (fun rZ MZ hZ => con_X6_become g l vq1.toNatClampNeg (-1) 0 hb8 _ rZ MZ hZ) cvN_X10_222 (ok_13 hb8) (rmOk_L (by decide) (by decide)) dX10_sheet_32 rfl rfl (Nat.le_of_ble_eq_true rfl) (fun r9 M10 => ?_)
        refine r_iconst (pc := 35) ok 1 dX10_sheet_35 (by decide) ?_
        exact r_iret (pc := 36) ok (Nat.zero_le _) (Nat.zero_le _) rfl dX10_sheet_36
      · refine r_iload_n (pc := 37) ok 3 dX10_sheet_37 rfl ?_
        refine r_bipush (pc := 38) ok 40 dX10_sheet_38 (by decide) ?_
        refine r_icmp_le (pc := 40) ok 46 dX10_sheet_40 (by decide) (fun _ => ?_) (fun _ => ?_)
        · refine r_iload_n (pc := 46) ok 3 dX10_sheet_46 rfl ?_
          refine r_if_ge (pc := 47) ok 53 dX10_sheet_47 (by decide) (fun _ => ?_) (fun _ => ?_)
          · refine r_aload_n (pc := 53) ok 0 dX10_sheet_53 rfl ?_
            refine r_getR (pc := 54) ok fr_0_3 (by decide) fl_X10_51 dX10_sheet_54 ?_
            refine r_iload_n (pc := 57) ok 1 dX10_sheet_57 rfl ?_
            refine r_aald (pc := 58) ok rk_7 (by decide) rfl rfl dX10_sheet_58 (fun hb5 => ?_)
            refine r_iload_n (pc := 59) ok 2 dX10_sheet_59 rfl ?_
            refine r_iload_n (pc := 60) ok 3 dX10_sheet_60 rfl ?_
            refine r_callVN0 (pc := 61) ok [.int vq2, .int vq3] [] 3 (fun rZ MZ hZ => con_X6_become g l vq1.toNatClampNeg vq2 vq3 hb5 _ rZ MZ hZ) cvN_X10_222 (ok_13 hb5) (rmOk_L (by decide) (by decide)) dX10_sheet_61 rfl rfl (Nat.le_of_ble_eq_true rfl) (fun r6 M7 => ?_)
            refine r_iconst (pc := 64) ok 1 dX10_sheet_64 (by decide) ?_
            exact r_iret (pc := 65) ok (Nat.zero_le _) (Nat.zero_le _) rfl dX10_sheet_65
          · refine r_bipush (pc := 50) ok (-14) dX10_sheet_50 (by decide) ?_
            exact r_iret (pc := 52) ok (Nat.zero_le _) (Nat.zero_le _) rfl dX10_sheet_52
        · refine r_bipush (pc := 43) ok (-2) dX10_sheet_43 (by decide) ?_
          exact r_iret (pc := 45) ok (Nat.zero_le _) (Nat.zero_le _) rfl dX10_sheet_45
theorem con_X10_sheet (g : GP) (l : Launch) (vq1 : Int32) (vq2 : Int32) (vq3 : Int32)  (M : Mem) (r : Int32) (M2 : Mem) (h : fX10_sheet vq1 vq2 vq3 M = some (r, M2)) : Con g l yX10_sheet cX10_sheet 4 (some FieldType.int) (rmL 4) [.ref (gA g 0 0), .int vq1, .int vq2, .int vq3] M (eI r) M2 :=
  Con.of (own := RX10) (f := fX10_sheet vq1 vq2 vq3 M) (by decide) (Nat.le_of_ble_eq_true rfl) rfl (fun x ok => wX10_sheet ok vq1 vq2 vq3  M) r M2 h
def fX10_cell (vq1 : Int32) (vq2 : Int32) (vq3 : Int32) (M : Mem) : Option (Int32 × Mem) :=
  ob (fX10_isSheet vq1 M) fun r1 M2 =>
  if r1 = 0 then
    (some (-2, M2))
  else
    (gd (inb vq1 4)
    (if (M2 13 vq1.toNatClampNeg 1) = (-1) then
      (some (-11, M2))
    else
      (gd (inb vq1 4)
      (ob (fX10_within vq2 0 ((M2 13 vq1.toNatClampNeg 2) - 1) M2) fun r5 M6 =>
      if r5 = 0 then
        (some (-12, M6))
      else
        (gd (inb vq1 4)
        (ob (fX6_write vq1.toNatClampNeg vq2 vq3 M6) fun r8 M9 =>
        some (1, M9)))))))
set_option maxRecDepth 20000 in
theorem wX10_cell {g : GP} {l : Launch} {x : CT} (ok : Ok g l x RX10 cX10_cell 4 (some FieldType.int) (rmL 4)) (vq1 : Int32) (vq2 : Int32) (vq3 : Int32)  (M : Mem) : Sw g l x (FinQ g x eI) 4 0 0 0 [(0, .ref (gA g 0 0)), (1, .int vq1), (2, .int vq2), (3, .int vq3)] [] M (fX10_cell vq1 vq2 vq3 M) := by
  unfold fX10_cell
  refine r_iload_n (pc := 0) ok 1 dX10_cell_0 rfl ?_
  refine r_callS0 (pc := 1) ok [.int vq1] [] 3 (fun rZ MZ hZ => con_X10_isSheet g l vq1 _ rZ MZ hZ) cs_X10_219 (rmOk_L (by decide) (by decide)) dX10_cell_1 rfl rfl (Nat.le_of_ble_eq_true rfl) (fun r1 M2 => ?_)
  refine r_if_ne (pc := 4) ok 10 dX10_cell_4 (by decide) (fun _ => ?_) (fun _ => ?_)
  · refine r_bipush (pc := 7) ok (-2) dX10_cell_7 (by decide) ?_
    exact r_iret (pc := 9) ok (Nat.zero_le _) (Nat.zero_le _) rfl dX10_cell_9
  · refine r_aload_n (pc := 10) ok 0 dX10_cell_10 rfl ?_
    refine r_getR (pc := 11) ok fr_0_3 (by decide) fl_X10_51 dX10_cell_11 ?_
    refine r_iload_n (pc := 14) ok 1 dX10_cell_14 rfl ?_
    refine r_aald (pc := 15) ok rk_7 (by decide) rfl rfl dX10_cell_15 (fun hb3 => ?_)
    refine r_getIN (pc := 16) ok fi_13_1 hb3 flN_X10_244 dX10_cell_16 ?_
    refine r_iconst (pc := 19) ok (-1) dX10_cell_19 (by decide) ?_
    refine r_icmp_ne (pc := 20) ok 26 dX10_cell_20 (by decide) (fun _ => ?_) (fun _ => ?_)
    · refine r_bipush (pc := 23) ok (-11) dX10_cell_23 (by decide) ?_
      exact r_iret (pc := 25) ok (Nat.zero_le _) (Nat.zero_le _) rfl dX10_cell_25
    · refine r_iload_n (pc := 26) ok 2 dX10_cell_26 rfl ?_
      refine r_iconst (pc := 27) ok 0 dX10_cell_27 (by decide) ?_
      refine r_aload_n (pc := 28) ok 0 dX10_cell_28 rfl ?_
      refine r_getR (pc := 29) ok fr_0_3 (by decide) fl_X10_51 dX10_cell_29 ?_
      refine r_iload_n (pc := 32) ok 1 dX10_cell_32 rfl ?_
      refine r_aald (pc := 33) ok rk_7 (by decide) rfl rfl dX10_cell_33 (fun hb4 => ?_)
      refine r_getIN (pc := 34) ok fi_13_2 hb4 flN_X10_155 dX10_cell_34 ?_
      refine r_iconst (pc := 37) ok 1 dX10_cell_37 (by decide) ?_
      refine r_isub (pc := 38) ok dX10_cell_38 ?_
      refine r_callS0 (pc := 39) ok [.int vq2, .int 0, .int ((M2 13 vq1.toNatClampNeg 2) - 1)] [] 2 (fun rZ MZ hZ => con_X10_within g l vq2 0 ((M2 13 vq1.toNatClampNeg 2) - 1) _ rZ MZ hZ) cs_X10_91 (rmOk_L (by decide) (by decide)) dX10_cell_39 rfl rfl (Nat.le_of_ble_eq_true rfl) (fun r5 M6 => ?_)
      refine r_if_ne (pc := 42) ok 48 dX10_cell_42 (by decide) (fun _ => ?_) (fun _ => ?_)
      · refine r_bipush (pc := 45) ok (-12) dX10_cell_45 (by decide) ?_
        exact r_iret (pc := 47) ok (Nat.zero_le _) (Nat.zero_le _) rfl dX10_cell_47
      · refine r_aload_n (pc := 48) ok 0 dX10_cell_48 rfl ?_
        refine r_getR (pc := 49) ok fr_0_3 (by decide) fl_X10_51 dX10_cell_49 ?_
        refine r_iload_n (pc := 52) ok 1 dX10_cell_52 rfl ?_
        refine r_aald (pc := 53) ok rk_7 (by decide) rfl rfl dX10_cell_53 (fun hb7 => ?_)
        refine r_iload_n (pc := 54) ok 2 dX10_cell_54 rfl ?_
        refine r_iload_n (pc := 55) ok 3 dX10_cell_55 rfl ?_
        refine r_callVN0 (pc := 56) ok [.int vq2, .int vq3] [] 2 (fun rZ MZ hZ => con_X6_write g l vq1.toNatClampNeg vq2 vq3 hb7 _ rZ MZ hZ) cvN_X10_225 (ok_13 hb7) (rmOk_L (by decide) (by decide)) dX10_cell_56 rfl rfl (Nat.le_of_ble_eq_true rfl) (fun r8 M9 => ?_)
        refine r_iconst (pc := 59) ok 1 dX10_cell_59 (by decide) ?_
        exact r_iret (pc := 60) ok (Nat.zero_le _) (Nat.zero_le _) rfl dX10_cell_60
theorem con_X10_cell (g : GP) (l : Launch) (vq1 : Int32) (vq2 : Int32) (vq3 : Int32)  (M : Mem) (r : Int32) (M2 : Mem) (h : fX10_cell vq1 vq2 vq3 M = some (r, M2)) : Con g l yX10_cell cX10_cell 4 (some FieldType.int) (rmL 4) [.ref (gA g 0 0), .int vq1, .int vq2, .int vq3] M (eI r) M2 :=
  Con.of (own := RX10) (f := fX10_cell vq1 vq2 vq3 M) (by decide) (Nat.le_of_ble_eq_true rfl) rfl (fun x ok => wX10_cell ok vq1 vq2 vq3  M) r M2 h
def fX10_copy (vq1 : Int32) (vq2 : Int32) (vq3 : Int32) (vq4 : Int32) (vq5 : Int32) (M : Mem) : Option (Int32 × Mem) :=
  ob (fX10_isSheet vq1 M) fun r1 M2 =>
  if r1 = 0 then
    (some (-2, M2))
  else
    (ob (fX10_isSheet vq3 M2) fun r3 M4 =>
    if r3 = 0 then
      (some (-2, M4))
    else
      (gd (inb vq1 4)
      (gd (inb vq3 4)
      (if (M4 13 vq1.toNatClampNeg 1) = (-1) then
        (some (-11, M4))
      else
        (if (M4 13 vq3.toNatClampNeg 1) = (-1) then
          (some (-11, M4))
        else
          (if (M4 13 vq1.toNatClampNeg 1) = (M4 13 vq3.toNatClampNeg 1) then
            (ob (fX6_holdsRange vq1.toNatClampNeg vq2 vq5 M4) fun r7 M8 =>
            if r7 = 0 then
              (some (-12, M8))
            else
              (ob (fX6_holdsRange vq3.toNatClampNeg vq4 vq5 M8) fun r9 M10 =>
              if r9 = 0 then
                (some (-12, M10))
              else
                (gd (cpk vq2 vq4 vq5 40 40)
                (lt (mrow M10 14 vq3.toNatClampNeg (va_cpy (M10 14 vq1.toNatClampNeg) (M10 14 vq3.toNatClampNeg) vq2.toNatClampNeg vq4.toNatClampNeg vq5.toNatClampNeg)) fun M11 =>
                some (vq5, M11)))))
          else
            (some (-13, M4))))))))
set_option maxRecDepth 20000 in
theorem wX10_copy {g : GP} {l : Launch} {x : CT} (ok : Ok g l x RX10 cX10_copy 8 (some FieldType.int) (rmL 4)) (vq1 : Int32) (vq2 : Int32) (vq3 : Int32) (vq4 : Int32) (vq5 : Int32)  (M : Mem) : Sw g l x (FinQ g x eI) 8 0 0 0 [(0, .ref (gA g 0 0)), (1, .int vq1), (2, .int vq2), (3, .int vq3), (4, .int vq4), (5, .int vq5)] [] M (fX10_copy vq1 vq2 vq3 vq4 vq5 M) := by
  unfold fX10_copy
  refine r_iload_n (pc := 0) ok 1 dX10_copy_0 rfl ?_
  refine r_callS0 (pc := 1) ok [.int vq1] [] 3 (fun rZ MZ hZ => con_X10_isSheet g l vq1 _ rZ MZ hZ) cs_X10_219 (rmOk_L (by decide) (by decide)) dX10_copy_1 rfl rfl (Nat.le_of_ble_eq_true rfl) (fun r1 M2 => ?_)
  refine r_if_eq (pc := 4) ok 14 dX10_copy_4 (by decide) (fun _ => ?_) (fun _ => ?_)
  · refine r_bipush (pc := 14) ok (-2) dX10_copy_14 (by decide) ?_
    exact r_iret (pc := 16) ok (Nat.zero_le _) (Nat.zero_le _) rfl dX10_copy_16
  · refine r_iload_n (pc := 7) ok 3 dX10_copy_7 rfl ?_
    refine r_callS0 (pc := 8) ok [.int vq3] [] 3 (fun rZ MZ hZ => con_X10_isSheet g l vq3 _ rZ MZ hZ) cs_X10_219 (rmOk_L (by decide) (by decide)) dX10_copy_8 rfl rfl (Nat.le_of_ble_eq_true rfl) (fun r3 M4 => ?_)
    refine r_if_ne (pc := 11) ok 17 dX10_copy_11 (by decide) (fun _ => ?_) (fun _ => ?_)
    · refine r_bipush (pc := 14) ok (-2) dX10_copy_14 (by decide) ?_
      exact r_iret (pc := 16) ok (Nat.zero_le _) (Nat.zero_le _) rfl dX10_copy_16
    · refine r_aload_n (pc := 17) ok 0 dX10_copy_17 rfl ?_
      refine r_getR (pc := 18) ok fr_0_3 (by decide) fl_X10_51 dX10_copy_18 ?_
      refine r_iload_n (pc := 21) ok 1 dX10_copy_21 rfl ?_
      refine r_aald (pc := 22) ok rk_7 (by decide) rfl rfl dX10_copy_22 (fun hb5 => ?_)
      refine r_astore (pc := 23) ok [(6, .ref (gA g 13 vq1.toNatClampNeg)), (0, .ref (gA g 0 0)), (1, .int vq1), (2, .int vq2), (3, .int vq3), (4, .int vq4), (5, .int vq5)] dX10_copy_23 (by decide) rfl ?_
      refine r_aload_n (pc := 25) ok 1 dX10_copy_25 rfl ?_
      refine r_getR (pc := 26) ok fr_0_3 (by decide) fl_X10_51 dX10_copy_26 ?_
      refine r_iload_n (pc := 29) ok 4 dX10_copy_29 rfl ?_
      refine r_aald (pc := 30) ok rk_7 (by decide) rfl rfl dX10_copy_30 (fun hb6 => ?_)
      refine r_astore (pc := 31) ok [(7, .ref (gA g 13 vq3.toNatClampNeg)), (6, .ref (gA g 13 vq1.toNatClampNeg)), (0, .ref (gA g 0 0)), (1, .int vq1), (2, .int vq2), (3, .int vq3), (4, .int vq4), (5, .int vq5)] dX10_copy_31 (by decide) rfl ?_
      refine r_aload (pc := 33) ok 1 dX10_copy_33 rfl ?_
      refine r_getIN (pc := 35) ok fi_13_1 hb5 flN_X10_244 dX10_copy_35 ?_
      refine r_iconst (pc := 38) ok (-1) dX10_copy_38 (by decide) ?_
      refine r_icmp_eq (pc := 39) ok 51 dX10_copy_39 (by decide) (fun _ => ?_) (fun _ => ?_)
      · refine r_bipush (pc := 51) ok (-11) dX10_copy_51 (by decide) ?_
        exact r_iret (pc := 53) ok (Nat.zero_le _) (Nat.zero_le _) rfl dX10_copy_53
      · refine r_aload (pc := 42) ok 0 dX10_copy_42 rfl ?_
        refine r_getIN (pc := 44) ok fi_13_1 hb6 flN_X10_244 dX10_copy_44 ?_
        refine r_iconst (pc := 47) ok (-1) dX10_copy_47 (by decide) ?_
        refine r_icmp_ne (pc := 48) ok 54 dX10_copy_48 (by decide) (fun _ => ?_) (fun _ => ?_)
        · refine r_bipush (pc := 51) ok (-11) dX10_copy_51 (by decide) ?_
          exact r_iret (pc := 53) ok (Nat.zero_le _) (Nat.zero_le _) rfl dX10_copy_53
        · refine r_aload (pc := 54) ok 1 dX10_copy_54 rfl ?_
          refine r_getIN (pc := 56) ok fi_13_1 hb5 flN_X10_244 dX10_copy_56 ?_
          refine r_aload (pc := 59) ok 0 dX10_copy_59 rfl ?_
          refine r_getIN (pc := 61) ok fi_13_1 hb6 flN_X10_244 dX10_copy_61 ?_
          refine r_icmp_eq (pc := 64) ok 70 dX10_copy_64 (by decide) (fun _ => ?_) (fun _ => ?_)
          · refine r_aload (pc := 70) ok 1 dX10_copy_70 rfl ?_
            refine r_iload_n (pc := 72) ok 4 dX10_copy_72 rfl ?_
            refine r_iload (pc := 73) ok 7 dX10_copy_73 rfl ?_
            refine r_callVN0 (pc := 75) ok [.int vq2, .int vq5] [] 2 (fun rZ MZ hZ => con_X6_holdsRange g l vq1.toNatClampNeg vq2 vq5 hb5 _ rZ MZ hZ) cvN_X10_247 (ok_13 hb5) (rmOk_L (by decide) (by decide)) dX10_copy_75 rfl rfl (Nat.le_of_ble_eq_true rfl) (fun r7 M8 => ?_)
            refine r_if_eq (pc := 78) ok 93 dX10_copy_78 (by decide) (fun _ => ?_) (fun _ => ?_)
            · refine r_bipush (pc := 93) ok (-12) dX10_copy_93 (by decide) ?_
              exact r_iret (pc := 95) ok (Nat.zero_le _) (Nat.zero_le _) rfl dX10_copy_95
            · refine r_aload (pc := 81) ok 0 dX10_copy_81 rfl ?_
              refine r_iload (pc := 83) ok 6 dX10_copy_83 rfl ?_
              refine r_iload (pc := 85) ok 7 dX10_copy_85 rfl ?_
              refine r_callVN0 (pc := 87) ok [.int vq4, .int vq5] [] 2 (fun rZ MZ hZ => con_X6_holdsRange g l vq3.toNatClampNeg vq4 vq5 hb6 _ rZ MZ hZ) cvN_X10_247 (ok_13 hb6) (rmOk_L (by decide) (by decide)) dX10_copy_87 rfl rfl (Nat.le_of_ble_eq_true rfl) (fun r9 M10 => ?_)
              refine r_if_ne (pc := 90) ok 96 dX10_copy_90 (by decide) (fun _ => ?_) (fun _ => ?_)
              · refine r_bipush (pc := 93) ok (-12) dX10_copy_93 (by decide) ?_
                exact r_iret (pc := 95) ok (Nat.zero_le _) (Nat.zero_le _) rfl dX10_copy_95
              · refine r_aload (pc := 96) ok 1 dX10_copy_96 rfl ?_
                refine r_getRN (pc := 98) ok fr_13_0 hb5 flN_X10_156 dX10_copy_98 ?_
                refine r_iload_n (pc := 101) ok 4 dX10_copy_101 rfl ?_
                refine r_aload (pc := 102) ok 0 dX10_copy_102 rfl ?_
                refine r_getRN (pc := 104) ok fr_13_0 hb6 flN_X10_156 dX10_copy_104 ?_
                refine r_iload (pc := 107) ok 6 dX10_copy_107 rfl ?_
                refine r_iload (pc := 109) ok 7 dX10_copy_109 rfl ?_
                refine r_acpy (pc := 111) ok ik_14 hb5 ik_14 hb6 wml_X10_251 wna_acp wst_acp win_System (rmA (by decide)) (Nat.le_of_ble_eq_true rfl) dX10_copy_111 ?_
                refine r_nmM (fun M11 => ?_)
                refine r_iload (pc := 114) ok 7 dX10_copy_114 rfl ?_
                exact r_iret (pc := 116) ok (Nat.zero_le _) (Nat.zero_le _) rfl dX10_copy_116
          · refine r_bipush (pc := 67) ok (-13) dX10_copy_67 (by decide) ?_
            exact r_iret (pc := 69) ok (Nat.zero_le _) (Nat.zero_le _) rfl dX10_copy_69
theorem con_X10_copy (g : GP) (l : Launch) (vq1 : Int32) (vq2 : Int32) (vq3 : Int32) (vq4 : Int32) (vq5 : Int32)  (M : Mem) (r : Int32) (M2 : Mem) (h : fX10_copy vq1 vq2 vq3 vq4 vq5 M = some (r, M2)) : Con g l yX10_copy cX10_copy 8 (some FieldType.int) (rmL 4) [.ref (gA g 0 0), .int vq1, .int vq2, .int vq3, .int vq4, .int vq5] M (eI r) M2 :=
  Con.of (own := RX10) (f := fX10_copy vq1 vq2 vq3 vq4 vq5 M) (by decide) (Nat.le_of_ble_eq_true rfl) rfl (fun x ok => wX10_copy ok vq1 vq2 vq3 vq4 vq5  M) r M2 h
def fX10_peopleBy_B68 (vq3 : Int32) (vq4 : Int32) (iq5 : Nat) (k68 : Int32 → Int32 → Mem → Option (Int32 × Mem)) (vq6 : Int32) (vq7 : Int32) (M : Mem) : Option (Int32 × Mem) :=
  if vq4 ≤ vq7 then
    (some (vq6, M))
  else
    (lt (vq3 + (2 * vq7)) fun w8 =>
    ob (fX6_holdsRange iq5 w8 2 M) fun r9 M10 =>
    if r9 = 0 then
      (some (-12, M10))
    else
      (gd (inb w8 40)
      (gd (inb (w8 + 1) 40)
      (ob (fX10_person (M10 14 iq5 w8.toNatClampNeg) (M10 14 iq5 (w8 + 1).toNatClampNeg) M10) fun r11 M12 =>
      if r11 < 0 then
        (k68 vq6 (vq7 + 1) M12)
      else
        (k68 (vq6 + 1) (vq7 + 1) M12)))))
def fX10_peopleBy_L68 (vq3 : Int32) (vq4 : Int32) (iq5 : Nat) : Nat → Int32 → Int32 → Mem → Option (Int32 × Mem)
  | 0, _, _, _ => none
  | n + 1, vq6, vq7, M => fX10_peopleBy_B68 vq3 vq4 iq5 (fX10_peopleBy_L68 vq3 vq4 iq5 n) vq6 vq7 M
set_option maxRecDepth 20000 in
theorem sX10_peopleBy_B68 {g : GP} {l : Launch} {x : CT} (ok : Ok g l x RX10 cX10_peopleBy 9 (some FieldType.int) (rmL 4)) (vq3 : Int32) (vq4 : Int32) (iq5 : Nat) (h5 : iq5 < 4) (k68 : Int32 → Int32 → Mem → Option (Int32 × Mem)) (hk68 : ∀ (vq6 : Int32) (vq7 : Int32) (M : Mem), Sw g l x (FinQ g x eI) 9 0 0 68 [(0, .ref (gA g 0 0)), (3, .int vq3), (4, .int vq4), (5, .ref (gA g 13 iq5)), (6, .int vq6), (7, .int vq7)] [] M (k68 vq6 vq7 M)) (vq6 : Int32) (vq7 : Int32) (M : Mem) : Sw g l x (FinQ g x eI) 9 0 0 68 [(0, .ref (gA g 0 0)), (3, .int vq3), (4, .int vq4), (5, .ref (gA g 13 iq5)), (6, .int vq6), (7, .int vq7)] [] M (fX10_peopleBy_B68 vq3 vq4 iq5 k68 vq6 vq7 M) := by
  unfold fX10_peopleBy_B68
  refine r_iload (pc := 68) ok 5 dX10_peopleBy_68 rfl ?_
  refine r_iload (pc := 70) ok 2 dX10_peopleBy_70 rfl ?_
  refine r_icmp_ge (pc := 72) ok 131 dX10_peopleBy_72 (by decide) (fun _ => ?_) (fun _ => ?_)
  · refine r_iload (pc := 131) ok 4 dX10_peopleBy_131 rfl ?_
    exact r_iret (pc := 133) ok (Nat.zero_le _) (Nat.zero_le _) rfl dX10_peopleBy_133
  · refine r_iload_n (pc := 75) ok 1 dX10_peopleBy_75 rfl ?_
    refine r_iconst (pc := 76) ok 2 dX10_peopleBy_76 (by decide) ?_
    refine r_iload (pc := 77) ok 5 dX10_peopleBy_77 rfl ?_
    refine r_imul (pc := 79) ok dX10_peopleBy_79 ?_
    refine r_iadd (pc := 80) ok dX10_peopleBy_80 ?_
    refine r_nmi (fun w8 => ?_)
    refine r_istore (pc := 81) ok [(8, .int w8), (0, .ref (gA g 0 0)), (3, .int vq3), (4, .int vq4), (5, .ref (gA g 13 iq5)), (6, .int vq6), (7, .int vq7)] dX10_peopleBy_81 (by decide) rfl ?_
    refine r_aload (pc := 83) ok 4 dX10_peopleBy_83 rfl ?_
    refine r_iload (pc := 85) ok 0 dX10_peopleBy_85 rfl ?_
    refine r_iconst (pc := 87) ok 2 dX10_peopleBy_87 (by decide) ?_
    refine r_callVN0 (pc := 88) ok [.int w8, .int 2] [] 2 (fun rZ MZ hZ => con_X6_holdsRange g l iq5 w8 2 h5 _ rZ MZ hZ) cvN_X10_247 (ok_13 h5) (rmOk_L (by decide) (by decide)) dX10_peopleBy_88 rfl rfl (Nat.le_of_ble_eq_true rfl) (fun r9 M10 => ?_)
    refine r_if_ne (pc := 91) ok 97 dX10_peopleBy_91 (by decide) (fun _ => ?_) (fun _ => ?_)
    · refine r_bipush (pc := 94) ok (-12) dX10_peopleBy_94 (by decide) ?_
      exact r_iret (pc := 96) ok (Nat.zero_le _) (Nat.zero_le _) rfl dX10_peopleBy_96
    · refine r_aload_n (pc := 97) ok 1 dX10_peopleBy_97 rfl ?_
      refine r_aload (pc := 98) ok 4 dX10_peopleBy_98 rfl ?_
      refine r_getRN (pc := 100) ok fr_13_0 h5 flN_X10_156 dX10_peopleBy_100 ?_
      refine r_iload (pc := 103) ok 0 dX10_peopleBy_103 rfl ?_
      refine r_iald (pc := 105) ok ik_14 h5 dX10_peopleBy_105 (fun _ => ?_)
      refine r_aload (pc := 106) ok 4 dX10_peopleBy_106 rfl ?_
      refine r_getRN (pc := 108) ok fr_13_0 h5 flN_X10_156 dX10_peopleBy_108 ?_
      refine r_iload (pc := 111) ok 0 dX10_peopleBy_111 rfl ?_
      refine r_iconst (pc := 113) ok 1 dX10_peopleBy_113 (by decide) ?_
      refine r_iadd (pc := 114) ok dX10_peopleBy_114 ?_
      refine r_iald (pc := 115) ok ik_14 h5 dX10_peopleBy_115 (fun _ => ?_)
      refine r_callV0 (pc := 116) ok [.int (M10 14 iq5 w8.toNatClampNeg), .int (M10 14 iq5 (w8 + 1).toNatClampNeg)] [] 3 (fun rZ MZ hZ => con_X10_person g l (M10 14 iq5 w8.toNatClampNeg) (M10 14 iq5 (w8 + 1).toNatClampNeg) _ rZ MZ hZ) cv_X10_257 ok_0 (rmOk_L (by decide) (by decide)) dX10_peopleBy_116 rfl rfl (Nat.le_of_ble_eq_true rfl) (fun r11 M12 => ?_)
      refine r_if_lt (pc := 119) ok 125 dX10_peopleBy_119 (by decide) (fun _ => ?_) (fun _ => ?_)
      · refine r_iinc (pc := 125) ok 6 (vq7 + 1) [(7, .int (vq7 + 1)), (8, .int w8), (0, .ref (gA g 0 0)), (3, .int vq3), (4, .int vq4), (5, .ref (gA g 13 iq5)), (6, .int vq6)] dX10_peopleBy_125 rfl (congrArg (fun z => vq7 + z) (by decide : Int32.ofInt 1 = (1 : Int32))) (by decide) rfl ?_
        refine r_goto (pc := 128) ok 68 dX10_peopleBy_128 (by decide) ?_
        refine r_lv [2, 3, 4, 5, 6, 0] [(0, .ref (gA g 0 0)), (3, .int vq3), (4, .int vq4), (5, .ref (gA g 13 iq5)), (6, .int vq6), (7, .int (vq7 + 1))] rfl ?_
        exact hk68 vq6 (vq7 + 1) M12
      · refine r_iinc (pc := 122) ok 5 (vq6 + 1) [(6, .int (vq6 + 1)), (8, .int w8), (0, .ref (gA g 0 0)), (3, .int vq3), (4, .int vq4), (5, .ref (gA g 13 iq5)), (7, .int vq7)] dX10_peopleBy_122 rfl (congrArg (fun z => vq6 + z) (by decide : Int32.ofInt 1 = (1 : Int32))) (by decide) rfl ?_
        refine r_iinc (pc := 125) ok 6 (vq7 + 1) [(7, .int (vq7 + 1)), (6, .int (vq6 + 1)), (8, .int w8), (0, .ref (gA g 0 0)), (3, .int vq3), (4, .int vq4), (5, .ref (gA g 13 iq5))] dX10_peopleBy_125 rfl (congrArg (fun z => vq7 + z) (by decide : Int32.ofInt 1 = (1 : Int32))) (by decide) rfl ?_
        refine r_goto (pc := 128) ok 68 dX10_peopleBy_128 (by decide) ?_
        refine r_lv [3, 4, 5, 6, 1, 0] [(0, .ref (gA g 0 0)), (3, .int vq3), (4, .int vq4), (5, .ref (gA g 13 iq5)), (6, .int (vq6 + 1)), (7, .int (vq7 + 1))] rfl ?_
        exact hk68 (vq6 + 1) (vq7 + 1) M12
theorem sX10_peopleBy_L68 {g : GP} {l : Launch} {x : CT} (ok : Ok g l x RX10 cX10_peopleBy 9 (some FieldType.int) (rmL 4)) (vq3 : Int32) (vq4 : Int32) (iq5 : Nat) (h5 : iq5 < 4) : ∀ (n : Nat) (vq6 : Int32) (vq7 : Int32) (M : Mem), Sw g l x (FinQ g x eI) 9 0 0 68 [(0, .ref (gA g 0 0)), (3, .int vq3), (4, .int vq4), (5, .ref (gA g 13 iq5)), (6, .int vq6), (7, .int vq7)] [] M (fX10_peopleBy_L68 vq3 vq4 iq5 n vq6 vq7 M) := by
  intro n
  induction n with
  | zero => intros; exact r_none
  | succ n ih => intro vq6 vq7 M; exact sX10_peopleBy_B68 ok vq3 vq4 iq5 h5 _ ih vq6 vq7 M
def fX10_peopleBy (vq1 : Int32) (vq2 : Int32) (vq3 : Int32) (vq4 : Int32) (M : Mem) : Option (Int32 × Mem) :=
  ob (fX10_isSheet vq1 M) fun r1 M2 =>
  if r1 = 0 then
    (some (-2, M2))
  else
    (ob (fX10_within vq2 0 2 M2) fun r3 M4 =>
    if r3 = 0 then
      (some (-2, M4))
    else
      (ob (fX10_within vq4 0 6 M4) fun r5 M6 =>
      if r5 = 0 then
        (some (-2, M6))
      else
        (gd (inb vq1 4)
        (if (M6 13 vq1.toNatClampNeg 1) = (-1) then
          (some (-11, M6))
        else
          (if (M6 13 vq1.toNatClampNeg 1) = vq2 then
            (fX10_peopleBy_L68 vq3 vq4 vq1.toNatClampNeg FU 0 0 M6)
          else
            (some (-13, M6)))))))
set_option maxRecDepth 20000 in
theorem wX10_peopleBy {g : GP} {l : Launch} {x : CT} (ok : Ok g l x RX10 cX10_peopleBy 9 (some FieldType.int) (rmL 4)) (vq1 : Int32) (vq2 : Int32) (vq3 : Int32) (vq4 : Int32)  (M : Mem) : Sw g l x (FinQ g x eI) 9 0 0 0 [(0, .ref (gA g 0 0)), (1, .int vq1), (2, .int vq2), (3, .int vq3), (4, .int vq4)] [] M (fX10_peopleBy vq1 vq2 vq3 vq4 M) := by
  unfold fX10_peopleBy
  refine r_iload_n (pc := 0) ok 1 dX10_peopleBy_0 rfl ?_
  refine r_callS0 (pc := 1) ok [.int vq1] [] 3 (fun rZ MZ hZ => con_X10_isSheet g l vq1 _ rZ MZ hZ) cs_X10_219 (rmOk_L (by decide) (by decide)) dX10_peopleBy_1 rfl rfl (Nat.le_of_ble_eq_true rfl) (fun r1 M2 => ?_)
  refine r_if_eq (pc := 4) ok 27 dX10_peopleBy_4 (by decide) (fun _ => ?_) (fun _ => ?_)
  · refine r_bipush (pc := 27) ok (-2) dX10_peopleBy_27 (by decide) ?_
    exact r_iret (pc := 29) ok (Nat.zero_le _) (Nat.zero_le _) rfl dX10_peopleBy_29
  · refine r_iload_n (pc := 7) ok 2 dX10_peopleBy_7 rfl ?_
    refine r_iconst (pc := 8) ok 0 dX10_peopleBy_8 (by decide) ?_
    refine r_iconst (pc := 9) ok 2 dX10_peopleBy_9 (by decide) ?_
    refine r_callS0 (pc := 10) ok [.int vq2, .int 0, .int 2] [] 2 (fun rZ MZ hZ => con_X10_within g l vq2 0 2 _ rZ MZ hZ) cs_X10_91 (rmOk_L (by decide) (by decide)) dX10_peopleBy_10 rfl rfl (Nat.le_of_ble_eq_true rfl) (fun r3 M4 => ?_)
    refine r_if_eq (pc := 13) ok 27 dX10_peopleBy_13 (by decide) (fun _ => ?_) (fun _ => ?_)
    · refine r_bipush (pc := 27) ok (-2) dX10_peopleBy_27 (by decide) ?_
      exact r_iret (pc := 29) ok (Nat.zero_le _) (Nat.zero_le _) rfl dX10_peopleBy_29
    · refine r_iload (pc := 16) ok 4 dX10_peopleBy_16 rfl ?_
      refine r_iconst (pc := 18) ok 0 dX10_peopleBy_18 (by decide) ?_
      refine r_bipush (pc := 19) ok 6 dX10_peopleBy_19 (by decide) ?_
      refine r_callS0 (pc := 21) ok [.int vq4, .int 0, .int 6] [] 2 (fun rZ MZ hZ => con_X10_within g l vq4 0 6 _ rZ MZ hZ) cs_X10_91 (rmOk_L (by decide) (by decide)) dX10_peopleBy_21 rfl rfl (Nat.le_of_ble_eq_true rfl) (fun r5 M6 => ?_)
      refine r_if_ne (pc := 24) ok 30 dX10_peopleBy_24 (by decide) (fun _ => ?_) (fun _ => ?_)
      · refine r_bipush (pc := 27) ok (-2) dX10_peopleBy_27 (by decide) ?_
        exact r_iret (pc := 29) ok (Nat.zero_le _) (Nat.zero_le _) rfl dX10_peopleBy_29
      · refine r_aload_n (pc := 30) ok 0 dX10_peopleBy_30 rfl ?_
        refine r_getR (pc := 31) ok fr_0_3 (by decide) fl_X10_51 dX10_peopleBy_31 ?_
        refine r_iload_n (pc := 34) ok 1 dX10_peopleBy_34 rfl ?_
        refine r_aald (pc := 35) ok rk_7 (by decide) rfl rfl dX10_peopleBy_35 (fun hb7 => ?_)
        refine r_astore (pc := 36) ok [(5, .ref (gA g 13 vq1.toNatClampNeg)), (0, .ref (gA g 0 0)), (1, .int vq1), (2, .int vq2), (3, .int vq3), (4, .int vq4)] dX10_peopleBy_36 (by decide) rfl ?_
        refine r_aload (pc := 38) ok 0 dX10_peopleBy_38 rfl ?_
        refine r_getIN (pc := 40) ok fi_13_1 hb7 flN_X10_244 dX10_peopleBy_40 ?_
        refine r_iconst (pc := 43) ok (-1) dX10_peopleBy_43 (by decide) ?_
        refine r_icmp_ne (pc := 44) ok 50 dX10_peopleBy_44 (by decide) (fun _ => ?_) (fun _ => ?_)
        · refine r_bipush (pc := 47) ok (-11) dX10_peopleBy_47 (by decide) ?_
          exact r_iret (pc := 49) ok (Nat.zero_le _) (Nat.zero_le _) rfl dX10_peopleBy_49
        · refine r_aload (pc := 50) ok 0 dX10_peopleBy_50 rfl ?_
          refine r_getIN (pc := 52) ok fi_13_1 hb7 flN_X10_244 dX10_peopleBy_52 ?_
          refine r_iload_n (pc := 55) ok 3 dX10_peopleBy_55 rfl ?_
          refine r_icmp_eq (pc := 56) ok 62 dX10_peopleBy_56 (by decide) (fun _ => ?_) (fun _ => ?_)
          · refine r_iconst (pc := 62) ok 0 dX10_peopleBy_62 (by decide) ?_
            refine r_istore (pc := 63) ok [(6, .int 0), (5, .ref (gA g 13 vq1.toNatClampNeg)), (0, .ref (gA g 0 0)), (1, .int vq1), (2, .int vq2), (3, .int vq3), (4, .int vq4)] dX10_peopleBy_63 (by decide) rfl ?_
            refine r_iconst (pc := 65) ok 0 dX10_peopleBy_65 (by decide) ?_
            refine r_istore (pc := 66) ok [(7, .int 0), (6, .int 0), (5, .ref (gA g 13 vq1.toNatClampNeg)), (0, .ref (gA g 0 0)), (1, .int vq1), (2, .int vq2), (3, .int vq3), (4, .int vq4)] dX10_peopleBy_66 (by decide) rfl ?_
            refine r_lv [3, 6, 7, 2, 1, 0] [(0, .ref (gA g 0 0)), (3, .int vq3), (4, .int vq4), (5, .ref (gA g 13 vq1.toNatClampNeg)), (6, .int 0), (7, .int 0)] rfl ?_
            exact sX10_peopleBy_L68 ok vq3 vq4 vq1.toNatClampNeg hb7 FU 0 0 M6
          · refine r_bipush (pc := 59) ok (-13) dX10_peopleBy_59 (by decide) ?_
            exact r_iret (pc := 61) ok (Nat.zero_le _) (Nat.zero_le _) rfl dX10_peopleBy_61
theorem con_X10_peopleBy (g : GP) (l : Launch) (vq1 : Int32) (vq2 : Int32) (vq3 : Int32) (vq4 : Int32)  (M : Mem) (r : Int32) (M2 : Mem) (h : fX10_peopleBy vq1 vq2 vq3 vq4 M = some (r, M2)) : Con g l yX10_peopleBy cX10_peopleBy 9 (some FieldType.int) (rmL 4) [.ref (gA g 0 0), .int vq1, .int vq2, .int vq3, .int vq4] M (eI r) M2 :=
  Con.of (own := RX10) (f := fX10_peopleBy vq1 vq2 vq3 vq4 M) (by decide) (Nat.le_of_ble_eq_true rfl) rfl (fun x ok => wX10_peopleBy ok vq1 vq2 vq3 vq4  M) r M2 h
def fX10_refuseTale (vq1 : Int32) (vq2 : Int32) (M : Mem) : Option (Int32 × Mem) :=
  ob (fX10_isSheet vq1 M) fun r1 M2 =>
  if r1 = 0 then
    (some (-2, M2))
  else
    (gd (inb vq1 4)
    (if (M2 13 vq1.toNatClampNeg 1) = (-1) then
      (some (-11, M2))
    else
      (gd (inb vq1 4)
      (if (M2 13 vq1.toNatClampNeg 2) ≤ 20 then
        (ob (fX10_isCell vq2 M2) fun r5 M6 =>
        if r5 = 0 then
          (some (-5, M6))
        else
          (some (0, M6)))
      else
        (some (-2, M2))))))
set_option maxRecDepth 20000 in
theorem wX10_refuseTale {g : GP} {l : Launch} {x : CT} (ok : Ok g l x RX10 cX10_refuseTale 3 (some FieldType.int) (rmL 4)) (vq1 : Int32) (vq2 : Int32)  (M : Mem) : Sw g l x (FinQ g x eI) 3 0 0 0 [(0, .ref (gA g 0 0)), (1, .int vq1), (2, .int vq2)] [] M (fX10_refuseTale vq1 vq2 M) := by
  unfold fX10_refuseTale
  refine r_iload_n (pc := 0) ok 1 dX10_refuseTale_0 rfl ?_
  refine r_callS0 (pc := 1) ok [.int vq1] [] 3 (fun rZ MZ hZ => con_X10_isSheet g l vq1 _ rZ MZ hZ) cs_X10_219 (rmOk_L (by decide) (by decide)) dX10_refuseTale_1 rfl rfl (Nat.le_of_ble_eq_true rfl) (fun r1 M2 => ?_)
  refine r_if_ne (pc := 4) ok 10 dX10_refuseTale_4 (by decide) (fun _ => ?_) (fun _ => ?_)
  · refine r_bipush (pc := 7) ok (-2) dX10_refuseTale_7 (by decide) ?_
    exact r_iret (pc := 9) ok (Nat.zero_le _) (Nat.zero_le _) rfl dX10_refuseTale_9
  · refine r_aload_n (pc := 10) ok 0 dX10_refuseTale_10 rfl ?_
    refine r_getR (pc := 11) ok fr_0_3 (by decide) fl_X10_51 dX10_refuseTale_11 ?_
    refine r_iload_n (pc := 14) ok 1 dX10_refuseTale_14 rfl ?_
    refine r_aald (pc := 15) ok rk_7 (by decide) rfl rfl dX10_refuseTale_15 (fun hb3 => ?_)
    refine r_getIN (pc := 16) ok fi_13_1 hb3 flN_X10_244 dX10_refuseTale_16 ?_
    refine r_iconst (pc := 19) ok (-1) dX10_refuseTale_19 (by decide) ?_
    refine r_icmp_ne (pc := 20) ok 26 dX10_refuseTale_20 (by decide) (fun _ => ?_) (fun _ => ?_)
    · refine r_bipush (pc := 23) ok (-11) dX10_refuseTale_23 (by decide) ?_
      exact r_iret (pc := 25) ok (Nat.zero_le _) (Nat.zero_le _) rfl dX10_refuseTale_25
    · refine r_aload_n (pc := 26) ok 0 dX10_refuseTale_26 rfl ?_
      refine r_getR (pc := 27) ok fr_0_3 (by decide) fl_X10_51 dX10_refuseTale_27 ?_
      refine r_iload_n (pc := 30) ok 1 dX10_refuseTale_30 rfl ?_
      refine r_aald (pc := 31) ok rk_7 (by decide) rfl rfl dX10_refuseTale_31 (fun hb4 => ?_)
      refine r_getIN (pc := 32) ok fi_13_2 hb4 flN_X10_155 dX10_refuseTale_32 ?_
      refine r_bipush (pc := 35) ok 20 dX10_refuseTale_35 (by decide) ?_
      refine r_icmp_le (pc := 37) ok 43 dX10_refuseTale_37 (by decide) (fun _ => ?_) (fun _ => ?_)
      · refine r_iload_n (pc := 43) ok 2 dX10_refuseTale_43 rfl ?_
        refine r_callS0 (pc := 44) ok [.int vq2] [] 3 (fun rZ MZ hZ => con_X10_isCell g l vq2 _ rZ MZ hZ) cs_X10_87 (rmOk_L (by decide) (by decide)) dX10_refuseTale_44 rfl rfl (Nat.le_of_ble_eq_true rfl) (fun r5 M6 => ?_)
        refine r_if_eq (pc := 47) ok 54 dX10_refuseTale_47 (by decide) (fun _ => ?_) (fun _ => ?_)
        · refine r_bipush (pc := 54) ok (-5) dX10_refuseTale_54 (by decide) ?_
          exact r_iret (pc := 56) ok (Nat.zero_le _) (Nat.zero_le _) rfl dX10_refuseTale_56
        · refine r_iconst (pc := 50) ok 0 dX10_refuseTale_50 (by decide) ?_
          refine r_goto (pc := 51) ok 56 dX10_refuseTale_51 (by decide) ?_
          exact r_iret (pc := 56) ok (Nat.zero_le _) (Nat.zero_le _) rfl dX10_refuseTale_56
      · refine r_bipush (pc := 40) ok (-2) dX10_refuseTale_40 (by decide) ?_
        exact r_iret (pc := 42) ok (Nat.zero_le _) (Nat.zero_le _) rfl dX10_refuseTale_42
theorem con_X10_refuseTale (g : GP) (l : Launch) (vq1 : Int32) (vq2 : Int32)  (M : Mem) (r : Int32) (M2 : Mem) (h : fX10_refuseTale vq1 vq2 M = some (r, M2)) : Con g l yX10_refuseTale cX10_refuseTale 3 (some FieldType.int) (rmL 4) [.ref (gA g 0 0), .int vq1, .int vq2] M (eI r) M2 :=
  Con.of (own := RX10) (f := fX10_refuseTale vq1 vq2 M) (by decide) (Nat.le_of_ble_eq_true rfl) rfl (fun x ok => wX10_refuseTale ok vq1 vq2  M) r M2 h
def fX11_lay (vq1 : Int32) (vq2 : Int32) (M : Mem) : Option (Int32 × Mem) :=
  ob (fX11_isCell vq1 M) fun r1 M2 =>
  if r1 = 0 then
    (some (-5, M2))
  else
    (ob (fX11_in vq2 0 999 M2) fun r3 M4 =>
    if r3 = 0 then
      (some (-7, M4))
    else
      (gd (inb vq1 36)
      (lt (M4 27 0 vq1.toNatClampNeg) fun w5 =>
      gd (inb vq1 36)
      (lt (mst M4 27 0 vq1.toNatClampNeg vq2) fun M6 =>
      some (w5, M6)))))
set_option maxRecDepth 20000 in
theorem wX11_lay {g : GP} {l : Launch} {x : CT} (ok : Ok g l x RX11 cX11_lay 4 (some FieldType.int) (rmL 4)) (vq1 : Int32) (vq2 : Int32)  (M : Mem) : Sw g l x (FinQ g x eI) 4 0 0 0 [(0, .ref (gA g 22 0)), (1, .int vq1), (2, .int vq2)] [] M (fX11_lay vq1 vq2 M) := by
  unfold fX11_lay
  refine r_iload_n (pc := 0) ok 1 dX11_lay_0 rfl ?_
  refine r_callS0 (pc := 1) ok [.int vq1] [] 3 (fun rZ MZ hZ => con_X11_isCell g l vq1 _ rZ MZ hZ) cs_X11_104 (rmOk_L (by decide) (by decide)) dX11_lay_1 rfl rfl (Nat.le_of_ble_eq_true rfl) (fun r1 M2 => ?_)
  refine r_if_ne (pc := 4) ok 10 dX11_lay_4 (by decide) (fun _ => ?_) (fun _ => ?_)
  · refine r_bipush (pc := 7) ok (-5) dX11_lay_7 (by decide) ?_
    exact r_iret (pc := 9) ok (Nat.zero_le _) (Nat.zero_le _) rfl dX11_lay_9
  · refine r_iload_n (pc := 10) ok 2 dX11_lay_10 rfl ?_
    refine r_iconst (pc := 11) ok 0 dX11_lay_11 (by decide) ?_
    refine r_sipush (pc := 12) ok 999 dX11_lay_12 (by decide) ?_
    refine r_callS0 (pc := 15) ok [.int vq2, .int 0, .int 999] [] 2 (fun rZ MZ hZ => con_X11_in g l vq2 0 999 _ rZ MZ hZ) cs_X11_84 (rmOk_L (by decide) (by decide)) dX11_lay_15 rfl rfl (Nat.le_of_ble_eq_true rfl) (fun r3 M4 => ?_)
    refine r_if_ne (pc := 18) ok 24 dX11_lay_18 (by decide) (fun _ => ?_) (fun _ => ?_)
    · refine r_bipush (pc := 21) ok (-7) dX11_lay_21 (by decide) ?_
      exact r_iret (pc := 23) ok (Nat.zero_le _) (Nat.zero_le _) rfl dX11_lay_23
    · refine r_aload_n (pc := 24) ok 0 dX11_lay_24 rfl ?_
      refine r_getR (pc := 25) ok fr_22_5 (by decide) fl_X11_22 dX11_lay_25 ?_
      refine r_iload_n (pc := 28) ok 1 dX11_lay_28 rfl ?_
      refine r_iald (pc := 29) ok ik_27 (by decide) dX11_lay_29 (fun _ => ?_)
      refine r_nmi (fun w5 => ?_)
      refine r_istore_n (pc := 30) ok [(3, .int w5), (0, .ref (gA g 22 0)), (1, .int vq1), (2, .int vq2)] dX11_lay_30 rfl (by decide) rfl ?_
      refine r_aload_n (pc := 31) ok 1 dX11_lay_31 rfl ?_
      refine r_getR (pc := 32) ok fr_22_5 (by decide) fl_X11_22 dX11_lay_32 ?_
      refine r_iload_n (pc := 35) ok 2 dX11_lay_35 rfl ?_
      refine r_iload_n (pc := 36) ok 3 dX11_lay_36 rfl ?_
      refine r_iast (pc := 37) ok ik_27 (by decide) dX11_lay_37 ?_
      refine r_nmM (fun M6 => ?_)
      refine r_iload_n (pc := 38) ok 0 dX11_lay_38 rfl ?_
      exact r_iret (pc := 39) ok (Nat.zero_le _) (Nat.zero_le _) rfl dX11_lay_39
theorem con_X11_lay (g : GP) (l : Launch) (vq1 : Int32) (vq2 : Int32)  (M : Mem) (r : Int32) (M2 : Mem) (h : fX11_lay vq1 vq2 M = some (r, M2)) : Con g l yX11_lay cX11_lay 4 (some FieldType.int) (rmL 4) [.ref (gA g 22 0), .int vq1, .int vq2] M (eI r) M2 :=
  Con.of (own := RX11) (f := fX11_lay vq1 vq2 M) (by decide) (Nat.le_of_ble_eq_true rfl) rfl (fun x ok => wX11_lay ok vq1 vq2  M) r M2 h
def fX11_under (vq1 : Int32) (M : Mem) : Option (Int32 × Mem) :=
  ob (fX11_isCell vq1 M) fun r1 M2 =>
  if r1 = 0 then
    (some (-5, M2))
  else
    (gd (inb vq1 36)
    (some (M2 27 0 vq1.toNatClampNeg, M2)))
set_option maxRecDepth 20000 in
theorem wX11_under {g : GP} {l : Launch} {x : CT} (ok : Ok g l x RX11 cX11_under 2 (some FieldType.int) (rmL 4)) (vq1 : Int32)  (M : Mem) : Sw g l x (FinQ g x eI) 2 0 0 0 [(0, .ref (gA g 22 0)), (1, .int vq1)] [] M (fX11_under vq1 M) := by
  unfold fX11_under
  refine r_iload_n (pc := 0) ok 1 dX11_under_0 rfl ?_
  refine r_callS0 (pc := 1) ok [.int vq1] [] 3 (fun rZ MZ hZ => con_X11_isCell g l vq1 _ rZ MZ hZ) cs_X11_104 (rmOk_L (by decide) (by decide)) dX11_under_1 rfl rfl (Nat.le_of_ble_eq_true rfl) (fun r1 M2 => ?_)
  refine r_if_eq (pc := 4) ok 16 dX11_under_4 (by decide) (fun _ => ?_) (fun _ => ?_)
  · refine r_bipush (pc := 16) ok (-5) dX11_under_16 (by decide) ?_
    exact r_iret (pc := 18) ok (Nat.zero_le _) (Nat.zero_le _) rfl dX11_under_18
  · refine r_aload_n (pc := 7) ok 0 dX11_under_7 rfl ?_
    refine r_getR (pc := 8) ok fr_22_5 (by decide) fl_X11_22 dX11_under_8 ?_
    refine r_iload_n (pc := 11) ok 1 dX11_under_11 rfl ?_
    refine r_iald (pc := 12) ok ik_27 (by decide) dX11_under_12 (fun _ => ?_)
    refine r_goto (pc := 13) ok 18 dX11_under_13 (by decide) ?_
    exact r_iret (pc := 18) ok (Nat.zero_le _) (Nat.zero_le _) rfl dX11_under_18
theorem con_X11_under (g : GP) (l : Launch) (vq1 : Int32)  (M : Mem) (r : Int32) (M2 : Mem) (h : fX11_under vq1 M = some (r, M2)) : Con g l yX11_under cX11_under 2 (some FieldType.int) (rmL 4) [.ref (gA g 22 0), .int vq1] M (eI r) M2 :=
  Con.of (own := RX11) (f := fX11_under vq1 M) (by decide) (Nat.le_of_ble_eq_true rfl) rfl (fun x ok => wX11_under ok vq1  M) r M2 h
def fX11_feed_J125 (k68 : Int32 → Mem → Option (Int32 × Mem)) (vq1 : Int32) (vq2 : Int32) (vq3 : Int32) (vq4 : Int32) (vq5 : Int32) (vq6 : Int32) (vq7 : Int32) (s0 : Int32) (s1 : Int32) (M : Mem) : Option (Int32 × Mem) :=
  gd (inb s1 160)
  (lt (mst M 28 0 s1.toNatClampNeg s0) fun M13 =>
  lt (mst M13 22 0 8 ((M13 22 0 8) + 1)) fun M14 =>
  k68 (vq7 + 1) M14)
set_option maxRecDepth 20000 in
theorem sX11_feed_J125 {g : GP} {l : Launch} {x : CT} {k68 : Int32 → Mem → Option (Int32 × Mem)} (ok : Ok g l x RX11 cX11_feed 8 (some FieldType.int) (rmL 4)) (vq1 : Int32) (vq2 : Int32) (vq3 : Int32) (vq4 : Int32) (vq5 : Int32) (vq6 : Int32) (vq7 : Int32) (s0 : Int32) (s1 : Int32)  (hk68 : ∀ (vq7 : Int32) (M : Mem), Sw g l x (FinQ g x eI) 8 0 0 68 [(0, .ref (gA g 22 0)), (1, .int vq1), (2, .int vq2), (3, .int vq3), (4, .int vq4), (5, .int vq5), (6, .int vq6), (7, .int vq7)] [] M (k68 vq7 M)) (M : Mem) : Sw g l x (FinQ g x eI) 8 0 0 125 [(0, .ref (gA g 22 0)), (1, .int vq1), (2, .int vq2), (3, .int vq3), (4, .int vq4), (5, .int vq5), (6, .int vq6), (7, .int vq7)] [.int s0, .int s1, .ref (gA g 28 0)] M (fX11_feed_J125 k68 vq1 vq2 vq3 vq4 vq5 vq6 vq7 s0 s1 M) := by
  unfold fX11_feed_J125
  refine r_iast (pc := 125) ok ik_28 (by decide) dX11_feed_125 ?_
  refine r_nmM (fun M13 => ?_)
  refine r_aload_n (pc := 126) ok 0 dX11_feed_126 rfl ?_
  refine r_dup (pc := 127) ok dX11_feed_127 rfl ?_
  refine r_getI (pc := 128) ok fi_22_8 (by decide) fl_X11_73 dX11_feed_128 ?_
  refine r_iconst (pc := 131) ok 1 dX11_feed_131 (by decide) ?_
  refine r_iadd (pc := 132) ok dX11_feed_132 ?_
  refine r_putI (pc := 133) ok fi_22_8 (by decide) fl_X11_73 fp_22_8 ⟨rfl, rfl⟩ dX11_feed_133 ?_
  refine r_nmM (fun M14 => ?_)
  refine r_iinc (pc := 136) ok 7 (vq7 + 1) [(7, .int (vq7 + 1)), (0, .ref (gA g 22 0)), (1, .int vq1), (2, .int vq2), (3, .int vq3), (4, .int vq4), (5, .int vq5), (6, .int vq6)] dX11_feed_136 rfl (congrArg (fun z => vq7 + z) (by decide : Int32.ofInt 1 = (1 : Int32))) (by decide) rfl ?_
  refine r_goto (pc := 139) ok 68 dX11_feed_139 (by decide) ?_
  refine r_lv [1, 2, 3, 4, 5, 6, 7, 0] [(0, .ref (gA g 22 0)), (1, .int vq1), (2, .int vq2), (3, .int vq3), (4, .int vq4), (5, .int vq5), (6, .int vq6), (7, .int (vq7 + 1))] rfl ?_
  exact hk68 (vq7 + 1) M14
def fX11_feed_B68 (vq1 : Int32) (vq2 : Int32) (vq3 : Int32) (vq4 : Int32) (vq5 : Int32) (vq6 : Int32) (k68 : Int32 → Mem → Option (Int32 × Mem)) (vq7 : Int32) (M : Mem) : Option (Int32 × Mem) :=
  if vq1 ≤ vq7 then
    (some (M 22 0 8, M))
  else
    (if vq7 = 0 then
      (fX11_feed_J125 k68 vq1 vq2 vq3 vq4 vq5 vq6 vq7 vq2 (M 22 0 8) M)
    else
      (if vq7 = 1 then
        (fX11_feed_J125 k68 vq1 vq2 vq3 vq4 vq5 vq6 vq7 vq3 (M 22 0 8) M)
      else
        (if vq7 = 2 then
          (fX11_feed_J125 k68 vq1 vq2 vq3 vq4 vq5 vq6 vq7 vq4 (M 22 0 8) M)
        else
          (if vq7 = 3 then
            (fX11_feed_J125 k68 vq1 vq2 vq3 vq4 vq5 vq6 vq7 vq5 (M 22 0 8) M)
          else
            (fX11_feed_J125 k68 vq1 vq2 vq3 vq4 vq5 vq6 vq7 vq6 (M 22 0 8) M)))))
def fX11_feed_L68 (vq1 : Int32) (vq2 : Int32) (vq3 : Int32) (vq4 : Int32) (vq5 : Int32) (vq6 : Int32) : Nat → Int32 → Mem → Option (Int32 × Mem)
  | 0, _, _ => none
  | n + 1, vq7, M => fX11_feed_B68 vq1 vq2 vq3 vq4 vq5 vq6 (fX11_feed_L68 vq1 vq2 vq3 vq4 vq5 vq6 n) vq7 M
set_option maxRecDepth 20000 in
theorem sX11_feed_B68 {g : GP} {l : Launch} {x : CT} (ok : Ok g l x RX11 cX11_feed 8 (some FieldType.int) (rmL 4)) (vq1 : Int32) (vq2 : Int32) (vq3 : Int32) (vq4 : Int32) (vq5 : Int32) (vq6 : Int32)  (k68 : Int32 → Mem → Option (Int32 × Mem)) (hk68 : ∀ (vq7 : Int32) (M : Mem), Sw g l x (FinQ g x eI) 8 0 0 68 [(0, .ref (gA g 22 0)), (1, .int vq1), (2, .int vq2), (3, .int vq3), (4, .int vq4), (5, .int vq5), (6, .int vq6), (7, .int vq7)] [] M (k68 vq7 M)) (vq7 : Int32) (M : Mem) : Sw g l x (FinQ g x eI) 8 0 0 68 [(0, .ref (gA g 22 0)), (1, .int vq1), (2, .int vq2), (3, .int vq3), (4, .int vq4), (5, .int vq5), (6, .int vq6), (7, .int vq7)] [] M (fX11_feed_B68 vq1 vq2 vq3 vq4 vq5 vq6 k68 vq7 M) := by
  unfold fX11_feed_B68
  refine r_iload (pc := 68) ok 7 dX11_feed_68 rfl ?_
  refine r_iload_n (pc := 70) ok 1 dX11_feed_70 rfl ?_
  refine r_icmp_ge (pc := 71) ok 142 dX11_feed_71 (by decide) (fun _ => ?_) (fun _ => ?_)
  · refine r_aload_n (pc := 142) ok 0 dX11_feed_142 rfl ?_
    refine r_getI (pc := 143) ok fi_22_8 (by decide) fl_X11_73 dX11_feed_143 ?_
    exact r_iret (pc := 146) ok (Nat.zero_le _) (Nat.zero_le _) rfl dX11_feed_146
  · refine r_aload_n (pc := 74) ok 0 dX11_feed_74 rfl ?_
    refine r_getR (pc := 75) ok fr_22_7 (by decide) fl_X11_25 dX11_feed_75 ?_
    refine r_aload_n (pc := 78) ok 0 dX11_feed_78 rfl ?_
    refine r_getI (pc := 79) ok fi_22_8 (by decide) fl_X11_73 dX11_feed_79 ?_
    refine r_iload (pc := 82) ok 7 dX11_feed_82 rfl ?_
    refine r_if_ne (pc := 84) ok 91 dX11_feed_84 (by decide) (fun _ => ?_) (fun _ => ?_)
    · refine r_iload_n (pc := 87) ok 2 dX11_feed_87 rfl ?_
      refine r_goto (pc := 88) ok 125 dX11_feed_88 (by decide) ?_
      refine r_lv [0, 1, 2, 3, 4, 5, 6, 7] [(0, .ref (gA g 22 0)), (1, .int vq1), (2, .int vq2), (3, .int vq3), (4, .int vq4), (5, .int vq5), (6, .int vq6), (7, .int vq7)] rfl ?_
      exact sX11_feed_J125 ok vq1 vq2 vq3 vq4 vq5 vq6 vq7 vq2 (M 22 0 8) hk68 M
    · refine r_iload (pc := 91) ok 7 dX11_feed_91 rfl ?_
      refine r_iconst (pc := 93) ok 1 dX11_feed_93 (by decide) ?_
      refine r_icmp_ne (pc := 94) ok 101 dX11_feed_94 (by decide) (fun _ => ?_) (fun _ => ?_)
      · refine r_iload_n (pc := 97) ok 3 dX11_feed_97 rfl ?_
        refine r_goto (pc := 98) ok 125 dX11_feed_98 (by decide) ?_
        refine r_lv [0, 1, 2, 3, 4, 5, 6, 7] [(0, .ref (gA g 22 0)), (1, .int vq1), (2, .int vq2), (3, .int vq3), (4, .int vq4), (5, .int vq5), (6, .int vq6), (7, .int vq7)] rfl ?_
        exact sX11_feed_J125 ok vq1 vq2 vq3 vq4 vq5 vq6 vq7 vq3 (M 22 0 8) hk68 M
      · refine r_iload (pc := 101) ok 7 dX11_feed_101 rfl ?_
        refine r_iconst (pc := 103) ok 2 dX11_feed_103 (by decide) ?_
        refine r_icmp_ne (pc := 104) ok 112 dX11_feed_104 (by decide) (fun _ => ?_) (fun _ => ?_)
        · refine r_iload (pc := 107) ok 4 dX11_feed_107 rfl ?_
          refine r_goto (pc := 109) ok 125 dX11_feed_109 (by decide) ?_
          refine r_lv [0, 1, 2, 3, 4, 5, 6, 7] [(0, .ref (gA g 22 0)), (1, .int vq1), (2, .int vq2), (3, .int vq3), (4, .int vq4), (5, .int vq5), (6, .int vq6), (7, .int vq7)] rfl ?_
          exact sX11_feed_J125 ok vq1 vq2 vq3 vq4 vq5 vq6 vq7 vq4 (M 22 0 8) hk68 M
        · refine r_iload (pc := 112) ok 7 dX11_feed_112 rfl ?_
          refine r_iconst (pc := 114) ok 3 dX11_feed_114 (by decide) ?_
          refine r_icmp_ne (pc := 115) ok 123 dX11_feed_115 (by decide) (fun _ => ?_) (fun _ => ?_)
          · refine r_iload (pc := 118) ok 5 dX11_feed_118 rfl ?_
            refine r_goto (pc := 120) ok 125 dX11_feed_120 (by decide) ?_
            refine r_lv [0, 1, 2, 3, 4, 5, 6, 7] [(0, .ref (gA g 22 0)), (1, .int vq1), (2, .int vq2), (3, .int vq3), (4, .int vq4), (5, .int vq5), (6, .int vq6), (7, .int vq7)] rfl ?_
            exact sX11_feed_J125 ok vq1 vq2 vq3 vq4 vq5 vq6 vq7 vq5 (M 22 0 8) hk68 M
          · refine r_iload (pc := 123) ok 6 dX11_feed_123 rfl ?_
            refine r_lv [0, 1, 2, 3, 4, 5, 6, 7] [(0, .ref (gA g 22 0)), (1, .int vq1), (2, .int vq2), (3, .int vq3), (4, .int vq4), (5, .int vq5), (6, .int vq6), (7, .int vq7)] rfl ?_
            exact sX11_feed_J125 ok vq1 vq2 vq3 vq4 vq5 vq6 vq7 vq6 (M 22 0 8) hk68 M
theorem sX11_feed_L68 {g : GP} {l : Launch} {x : CT} (ok : Ok g l x RX11 cX11_feed 8 (some FieldType.int) (rmL 4)) (vq1 : Int32) (vq2 : Int32) (vq3 : Int32) (vq4 : Int32) (vq5 : Int32) (vq6 : Int32)  : ∀ (n : Nat) (vq7 : Int32) (M : Mem), Sw g l x (FinQ g x eI) 8 0 0 68 [(0, .ref (gA g 22 0)), (1, .int vq1), (2, .int vq2), (3, .int vq3), (4, .int vq4), (5, .int vq5), (6, .int vq6), (7, .int vq7)] [] M (fX11_feed_L68 vq1 vq2 vq3 vq4 vq5 vq6 n vq7 M) := by
  intro n
  induction n with
  | zero => intros; exact r_none
  | succ n ih => intro vq7 M; exact sX11_feed_B68 ok vq1 vq2 vq3 vq4 vq5 vq6  _ ih vq7 M
def fX11_feed (vq1 : Int32) (vq2 : Int32) (vq3 : Int32) (vq4 : Int32) (vq5 : Int32) (vq6 : Int32) (M : Mem) : Option (Int32 × Mem) :=
  ob (fX11_in vq1 1 5 M) fun r1 M2 =>
  if r1 = 0 then
    (some (-2, M2))
  else
    (ob (fX11_isByte vq2 M2) fun r3 M4 =>
    if r3 = 0 then
      (some (-2, M4))
    else
      (ob (fX11_isByte vq3 M4) fun r5 M6 =>
      if r5 = 0 then
        (some (-2, M6))
      else
        (ob (fX11_isByte vq4 M6) fun r7 M8 =>
        if r7 = 0 then
          (some (-2, M8))
        else
          (ob (fX11_isByte vq5 M8) fun r9 M10 =>
          if r9 = 0 then
            (some (-2, M10))
          else
            (ob (fX11_isByte vq6 M10) fun r11 M12 =>
            if r11 = 0 then
              (some (-2, M12))
            else
              (if ((M12 22 0 8) + vq1) ≤ 160 then
                (fX11_feed_L68 vq1 vq2 vq3 vq4 vq5 vq6 FU 0 M12)
              else
                (some (-4, M12))))))))
set_option maxRecDepth 20000 in
theorem wX11_feed {g : GP} {l : Launch} {x : CT} (ok : Ok g l x RX11 cX11_feed 8 (some FieldType.int) (rmL 4)) (vq1 : Int32) (vq2 : Int32) (vq3 : Int32) (vq4 : Int32) (vq5 : Int32) (vq6 : Int32)  (M : Mem) : Sw g l x (FinQ g x eI) 8 0 0 0 [(0, .ref (gA g 22 0)), (1, .int vq1), (2, .int vq2), (3, .int vq3), (4, .int vq4), (5, .int vq5), (6, .int vq6)] [] M (fX11_feed vq1 vq2 vq3 vq4 vq5 vq6 M) := by
  unfold fX11_feed
  refine r_iload_n (pc := 0) ok 1 dX11_feed_0 rfl ?_
  refine r_iconst (pc := 1) ok 1 dX11_feed_1 (by decide) ?_
  refine r_iconst (pc := 2) ok 5 dX11_feed_2 (by decide) ?_
  refine r_callS0 (pc := 3) ok [.int vq1, .int 1, .int 5] [] 2 (fun rZ MZ hZ => con_X11_in g l vq1 1 5 _ rZ MZ hZ) cs_X11_84 (rmOk_L (by decide) (by decide)) dX11_feed_3 rfl rfl (Nat.le_of_ble_eq_true rfl) (fun r1 M2 => ?_)
  refine r_if_eq (pc := 6) ok 47 dX11_feed_6 (by decide) (fun _ => ?_) (fun _ => ?_)
  · refine r_bipush (pc := 47) ok (-2) dX11_feed_47 (by decide) ?_
    exact r_iret (pc := 49) ok (Nat.zero_le _) (Nat.zero_le _) rfl dX11_feed_49
  · refine r_iload_n (pc := 9) ok 2 dX11_feed_9 rfl ?_
    refine r_callS0 (pc := 10) ok [.int vq2] [] 3 (fun rZ MZ hZ => con_X11_isByte g l vq2 _ rZ MZ hZ) cs_X11_108 (rmOk_L (by decide) (by decide)) dX11_feed_10 rfl rfl (Nat.le_of_ble_eq_true rfl) (fun r3 M4 => ?_)
    refine r_if_eq (pc := 13) ok 47 dX11_feed_13 (by decide) (fun _ => ?_) (fun _ => ?_)
    · refine r_bipush (pc := 47) ok (-2) dX11_feed_47 (by decide) ?_
      exact r_iret (pc := 49) ok (Nat.zero_le _) (Nat.zero_le _) rfl dX11_feed_49
    · refine r_iload_n (pc := 16) ok 3 dX11_feed_16 rfl ?_
      refine r_callS0 (pc := 17) ok [.int vq3] [] 3 (fun rZ MZ hZ => con_X11_isByte g l vq3 _ rZ MZ hZ) cs_X11_108 (rmOk_L (by decide) (by decide)) dX11_feed_17 rfl rfl (Nat.le_of_ble_eq_true rfl) (fun r5 M6 => ?_)
      refine r_if_eq (pc := 20) ok 47 dX11_feed_20 (by decide) (fun _ => ?_) (fun _ => ?_)
      · refine r_bipush (pc := 47) ok (-2) dX11_feed_47 (by decide) ?_
        exact r_iret (pc := 49) ok (Nat.zero_le _) (Nat.zero_le _) rfl dX11_feed_49
      · refine r_iload (pc := 23) ok 4 dX11_feed_23 rfl ?_
        refine r_callS0 (pc := 25) ok [.int vq4] [] 3 (fun rZ MZ hZ => con_X11_isByte g l vq4 _ rZ MZ hZ) cs_X11_108 (rmOk_L (by decide) (by decide)) dX11_feed_25 rfl rfl (Nat.le_of_ble_eq_true rfl) (fun r7 M8 => ?_)
        refine r_if_eq (pc := 28) ok 47 dX11_feed_28 (by decide) (fun _ => ?_) (fun _ => ?_)
        · refine r_bipush (pc := 47) ok (-2) dX11_feed_47 (by decide) ?_
          exact r_iret (pc := 49) ok (Nat.zero_le _) (Nat.zero_le _) rfl dX11_feed_49
        · refine r_iload (pc := 31) ok 5 dX11_feed_31 rfl ?_
          refine r_callS0 (pc := 33) ok [.int vq5] [] 3 (fun rZ MZ hZ => con_X11_isByte g l vq5 _ rZ MZ hZ) cs_X11_108 (rmOk_L (by decide) (by decide)) dX11_feed_33 rfl rfl (Nat.le_of_ble_eq_true rfl) (fun r9 M10 => ?_)
          refine r_if_eq (pc := 36) ok 47 dX11_feed_36 (by decide) (fun _ => ?_) (fun _ => ?_)
          · refine r_bipush (pc := 47) ok (-2) dX11_feed_47 (by decide) ?_
            exact r_iret (pc := 49) ok (Nat.zero_le _) (Nat.zero_le _) rfl dX11_feed_49
          · refine r_iload (pc := 39) ok 6 dX11_feed_39 rfl ?_
            refine r_callS0 (pc := 41) ok [.int vq6] [] 3 (fun rZ MZ hZ => con_X11_isByte g l vq6 _ rZ MZ hZ) cs_X11_108 (rmOk_L (by decide) (by decide)) dX11_feed_41 rfl rfl (Nat.le_of_ble_eq_true rfl) (fun r11 M12 => ?_)
            refine r_if_ne (pc := 44) ok 50 dX11_feed_44 (by decide) (fun _ => ?_) (fun _ => ?_)
            · refine r_bipush (pc := 47) ok (-2) dX11_feed_47 (by decide) ?_
              exact r_iret (pc := 49) ok (Nat.zero_le _) (Nat.zero_le _) rfl dX11_feed_49
            · refine r_aload_n (pc := 50) ok 0 dX11_feed_50 rfl ?_
              refine r_getI (pc := 51) ok fi_22_8 (by decide) fl_X11_73 dX11_feed_51 ?_
              refine r_iload_n (pc := 54) ok 1 dX11_feed_54 rfl ?_
              refine r_iadd (pc := 55) ok dX11_feed_55 ?_
              refine r_sipush (pc := 56) ok 160 dX11_feed_56 (by decide) ?_
              refine r_icmp_le (pc := 59) ok 65 dX11_feed_59 (by decide) (fun _ => ?_) (fun _ => ?_)
              · refine r_iconst (pc := 65) ok 0 dX11_feed_65 (by decide) ?_
                refine r_istore (pc := 66) ok [(7, .int 0), (0, .ref (gA g 22 0)), (1, .int vq1), (2, .int vq2), (3, .int vq3), (4, .int vq4), (5, .int vq5), (6, .int vq6)] dX11_feed_66 (by decide) rfl ?_
                refine r_lv [1, 2, 3, 4, 5, 6, 7, 0] [(0, .ref (gA g 22 0)), (1, .int vq1), (2, .int vq2), (3, .int vq3), (4, .int vq4), (5, .int vq5), (6, .int vq6), (7, .int 0)] rfl ?_
                exact sX11_feed_L68 ok vq1 vq2 vq3 vq4 vq5 vq6 FU 0 M12
              · refine r_bipush (pc := 62) ok (-4) dX11_feed_62 (by decide) ?_
                exact r_iret (pc := 64) ok (Nat.zero_le _) (Nat.zero_le _) rfl dX11_feed_64
theorem con_X11_feed (g : GP) (l : Launch) (vq1 : Int32) (vq2 : Int32) (vq3 : Int32) (vq4 : Int32) (vq5 : Int32) (vq6 : Int32)  (M : Mem) (r : Int32) (M2 : Mem) (h : fX11_feed vq1 vq2 vq3 vq4 vq5 vq6 M = some (r, M2)) : Con g l yX11_feed cX11_feed 8 (some FieldType.int) (rmL 4) [.ref (gA g 22 0), .int vq1, .int vq2, .int vq3, .int vq4, .int vq5, .int vq6] M (eI r) M2 :=
  Con.of (own := RX11) (f := fX11_feed vq1 vq2 vq3 vq4 vq5 vq6 M) (by decide) (Nat.le_of_ble_eq_true rfl) rfl (fun x ok => wX11_feed ok vq1 vq2 vq3 vq4 vq5 vq6  M) r M2 h
def fX11_between_J55 (vq1 : Int32) (M : Mem) : Option (Int32 × Mem) :=
  ob (fX11_holdsText vq1 M) fun r9 M10 =>
  some (1, M10)
set_option maxRecDepth 20000 in
theorem sX11_between_J55 {g : GP} {l : Launch} {x : CT} (ok : Ok g l x RX11 cX11_between 2 (some FieldType.boolean) (rmL 4)) (vq1 : Int32)  (M : Mem) : Sw g l x (FinQ g x eI) 2 0 0 55 [(0, .ref (gA g 22 0)), (1, .int vq1)] [] M (fX11_between_J55 vq1 M) := by
  unfold fX11_between_J55
  refine r_aload_n (pc := 55) ok 0 dX11_between_55 rfl ?_
  refine r_iload_n (pc := 56) ok 1 dX11_between_56 rfl ?_
  refine r_callV0 (pc := 57) ok [.int vq1] [] 2 (fun rZ MZ hZ => con_X11_holdsText g l vq1 _ rZ MZ hZ) cv_X11_143 ok_22 (rmOk_L (by decide) (by decide)) dX11_between_57 rfl rfl (Nat.le_of_ble_eq_true rfl) (fun r9 M10 => ?_)
  refine r_iconst (pc := 60) ok 1 dX11_between_60 (by decide) ?_
  exact r_zret (pc := 61) ok (Nat.zero_le _) (Nat.zero_le _) rfl rfl dX11_between_61
def fX11_between_J17 (vq1 : Int32) (s0 : Int32) (M : Mem) : Option (Int32 × Mem) :=
  ob (fX11_unwinds s0 M) fun r5 M6 =>
  ob (fX11_rank vq1 M6) fun r7 M8 =>
  if r7 = 4 then
    (if (M8 22 0 26) ≤ 0 then
      (fX11_between_J55 vq1 M8)
    else
      (gd (inb ((M8 22 0 26) - 1) 200)
      (ob (fX11_rank (M8 38 0 ((M8 22 0 26) - 1).toNatClampNeg) M8) fun r11 M12 =>
      if r11 = 4 then
        (some (0, M12))
      else
        (fX11_between_J55 vq1 M12))))
  else
    (fX11_between_J55 vq1 M8)
set_option maxRecDepth 20000 in
theorem sX11_between_J17 {g : GP} {l : Launch} {x : CT} (ok : Ok g l x RX11 cX11_between 2 (some FieldType.boolean) (rmL 4)) (vq1 : Int32) (s0 : Int32)  (M : Mem) : Sw g l x (FinQ g x eI) 2 0 0 17 [(0, .ref (gA g 22 0)), (1, .int vq1)] [.int s0, .ref (gA g 22 0)] M (fX11_between_J17 vq1 s0 M) := by
  unfold fX11_between_J17
  refine r_callV0 (pc := 17) ok [.int s0] [] 3 (fun rZ MZ hZ => con_X11_unwinds g l s0 _ rZ MZ hZ) cv_X11_146 ok_22 (rmOk_L (by decide) (by decide)) dX11_between_17 rfl rfl (Nat.le_of_ble_eq_true rfl) (fun r5 M6 => ?_)
  refine r_iload_n (pc := 20) ok 1 dX11_between_20 rfl ?_
  refine r_callS0 (pc := 21) ok [.int vq1] [] 2 (fun rZ MZ hZ => con_X11_rank g l vq1 _ rZ MZ hZ) cs_X11_132 (rmOk_L (by decide) (by decide)) dX11_between_21 rfl rfl (Nat.le_of_ble_eq_true rfl) (fun r7 M8 => ?_)
  refine r_iconst (pc := 24) ok 4 dX11_between_24 (by decide) ?_
  refine r_icmp_ne (pc := 25) ok 55 dX11_between_25 (by decide) (fun _ => ?_) (fun _ => ?_)
  · refine r_aload_n (pc := 28) ok 0 dX11_between_28 rfl ?_
    refine r_getI (pc := 29) ok fi_22_26 (by decide) fl_X11_129 dX11_between_29 ?_
    refine r_if_le (pc := 32) ok 55 dX11_between_32 (by decide) (fun _ => ?_) (fun _ => ?_)
    · refine r_lv [0, 1] [(0, .ref (gA g 22 0)), (1, .int vq1)] rfl ?_
      exact sX11_between_J55 ok vq1 M8
    · refine r_aload_n (pc := 35) ok 0 dX11_between_35 rfl ?_
      refine r_getR (pc := 36) ok fr_22_25 (by decide) fl_X11_55 dX11_between_36 ?_
      refine r_aload_n (pc := 39) ok 0 dX11_between_39 rfl ?_
      refine r_getI (pc := 40) ok fi_22_26 (by decide) fl_X11_129 dX11_between_40 ?_
      refine r_iconst (pc := 43) ok 1 dX11_between_43 (by decide) ?_
      refine r_isub (pc := 44) ok dX11_between_44 ?_
      refine r_iald (pc := 45) ok ik_38 (by decide) dX11_between_45 (fun _ => ?_)
      refine r_callS0 (pc := 46) ok [.int (M8 38 0 ((M8 22 0 26) - 1).toNatClampNeg)] [] 2 (fun rZ MZ hZ => con_X11_rank g l (M8 38 0 ((M8 22 0 26) - 1).toNatClampNeg) _ rZ MZ hZ) cs_X11_132 (rmOk_L (by decide) (by decide)) dX11_between_46 rfl rfl (Nat.le_of_ble_eq_true rfl) (fun r11 M12 => ?_)
      refine r_iconst (pc := 49) ok 4 dX11_between_49 (by decide) ?_
      refine r_icmp_ne (pc := 50) ok 55 dX11_between_50 (by decide) (fun _ => ?_) (fun _ => ?_)
      · refine r_iconst (pc := 53) ok 0 dX11_between_53 (by decide) ?_
        exact r_zret (pc := 54) ok (Nat.zero_le _) (Nat.zero_le _) rfl rfl dX11_between_54
      · refine r_lv [0, 1] [(0, .ref (gA g 22 0)), (1, .int vq1)] rfl ?_
        exact sX11_between_J55 ok vq1 M12
  · refine r_lv [0, 1] [(0, .ref (gA g 22 0)), (1, .int vq1)] rfl ?_
    exact sX11_between_J55 ok vq1 M8
def fX11_between (vq1 : Int32) (M : Mem) : Option (Int32 × Mem) :=
  ob (fX11_rank vq1 M) fun r1 M2 =>
  if r1 = 4 then
    (fX11_between_J17 vq1 5 M2)
  else
    (ob (fX11_rank vq1 M2) fun r3 M4 =>
    fX11_between_J17 vq1 r3 M4)
set_option maxRecDepth 20000 in
theorem wX11_between {g : GP} {l : Launch} {x : CT} (ok : Ok g l x RX11 cX11_between 2 (some FieldType.boolean) (rmL 4)) (vq1 : Int32)  (M : Mem) : Sw g l x (FinQ g x eI) 2 0 0 0 [(0, .ref (gA g 22 0)), (1, .int vq1)] [] M (fX11_between vq1 M) := by
  unfold fX11_between
  refine r_aload_n (pc := 0) ok 0 dX11_between_0 rfl ?_
  refine r_iload_n (pc := 1) ok 1 dX11_between_1 rfl ?_
  refine r_callS0 (pc := 2) ok [.int vq1] [.ref (gA g 22 0)] 2 (fun rZ MZ hZ => con_X11_rank g l vq1 _ rZ MZ hZ) cs_X11_132 (rmOk_L (by decide) (by decide)) dX11_between_2 rfl rfl (Nat.le_of_ble_eq_true rfl) (fun r1 M2 => ?_)
  refine r_iconst (pc := 5) ok 4 dX11_between_5 (by decide) ?_
  refine r_icmp_ne (pc := 6) ok 13 dX11_between_6 (by decide) (fun _ => ?_) (fun _ => ?_)
  · refine r_iconst (pc := 9) ok 5 dX11_between_9 (by decide) ?_
    refine r_goto (pc := 10) ok 17 dX11_between_10 (by decide) ?_
    refine r_lv [0, 1] [(0, .ref (gA g 22 0)), (1, .int vq1)] rfl ?_
    exact sX11_between_J17 ok vq1 5 M2
  · refine r_iload_n (pc := 13) ok 1 dX11_between_13 rfl ?_
    refine r_callS0 (pc := 14) ok [.int vq1] [.ref (gA g 22 0)] 2 (fun rZ MZ hZ => con_X11_rank g l vq1 _ rZ MZ hZ) cs_X11_132 (rmOk_L (by decide) (by decide)) dX11_between_14 rfl rfl (Nat.le_of_ble_eq_true rfl) (fun r3 M4 => ?_)
    refine r_lv [0, 1] [(0, .ref (gA g 22 0)), (1, .int vq1)] rfl ?_
    exact sX11_between_J17 ok vq1 r3 M4
theorem con_X11_between (g : GP) (l : Launch) (vq1 : Int32)  (M : Mem) (r : Int32) (M2 : Mem) (h : fX11_between vq1 M = some (r, M2)) : Con g l yX11_between cX11_between 2 (some FieldType.boolean) (rmL 4) [.ref (gA g 22 0), .int vq1] M (eI r) M2 :=
  Con.of (own := RX11) (f := fX11_between vq1 M) (by decide) (Nat.le_of_ble_eq_true rfl) rfl (fun x ok => wX11_between ok vq1  M) r M2 h
def fX11_asksOf_J81 (s0 : Int32) (s1 : Int32) (M : Mem) : Option (Int32 × Mem) :=
  ob (fX11_within s1 s0 99 M) fun r9 M10 =>
  some (r9, M10)
set_option maxRecDepth 20000 in
theorem sX11_asksOf_J81 {g : GP} {l : Launch} {x : CT} (ok : Ok g l x RX11 cX11_asksOf 4 (some FieldType.int) (rmL 4)) (s0 : Int32) (s1 : Int32)  (M : Mem) : Sw g l x (FinQ g x eI) 4 0 0 81 [] [.int s0, .int s1] M (fX11_asksOf_J81 s0 s1 M) := by
  unfold fX11_asksOf_J81
  refine r_bipush (pc := 81) ok 99 dX11_asksOf_81 (by decide) ?_
  refine r_callS0 (pc := 83) ok [.int s1, .int s0, .int 99] [] 2 (fun rZ MZ hZ => con_X11_within g l s1 s0 99 _ rZ MZ hZ) cs_X11_173 (rmOk_L (by decide) (by decide)) dX11_asksOf_83 rfl rfl (Nat.le_of_ble_eq_true rfl) (fun r9 M10 => ?_)
  exact r_iret (pc := 86) ok (Nat.zero_le _) (Nat.zero_le _) rfl dX11_asksOf_86
def fX11_asksOf (vq1 : Int32) (vq2 : Int32) (vq3 : Int32) (M : Mem) : Option (Int32 × Mem) :=
  gd (inb 0 6)
  (lt (mst M 40 0 (0 : Int32).toNatClampNeg (irem vq3 6)) fun M1 =>
  gd (inb 1 6)
  (lt (mst M1 40 0 (1 : Int32).toNatClampNeg (vq3 / 6)) fun M2 =>
  gd (inb vq3 36)
  (gd (inb 2 6)
  (lt (mst M2 40 0 (2 : Int32).toNatClampNeg (M2 27 0 vq3.toNatClampNeg)) fun M3 =>
  gd (inb 3 6)
  (lt (mst M3 40 0 (3 : Int32).toNatClampNeg (M3 22 0 6)) fun M4 =>
  gd (inb vq2 6)
  (gd (inb 4 6)
  (lt (mst M4 40 0 (4 : Int32).toNatClampNeg (M4 26 0 vq2.toNatClampNeg)) fun M5 =>
  gd (inb vq2 6)
  (gd (inb 5 6)
  (lt (mst M5 40 0 (5 : Int32).toNatClampNeg (M5 24 0 vq2.toNatClampNeg)) fun M6 =>
  ob (fX11_says vq1 M6) fun r7 M8 =>
  if vq1 = 0 then
    (fX11_asksOf_J81 (-99) r7 M8)
  else
    (fX11_asksOf_J81 0 r7 M8))))))))))
set_option maxRecDepth 20000 in
theorem wX11_asksOf {g : GP} {l : Launch} {x : CT} (ok : Ok g l x RX11 cX11_asksOf 4 (some FieldType.int) (rmL 4)) (vq1 : Int32) (vq2 : Int32) (vq3 : Int32)  (M : Mem) : Sw g l x (FinQ g x eI) 4 0 0 0 [(0, .ref (gA g 22 0)), (1, .int vq1), (2, .int vq2), (3, .int vq3)] [] M (fX11_asksOf vq1 vq2 vq3 M) := by
  unfold fX11_asksOf
  refine r_aload_n (pc := 0) ok 0 dX11_asksOf_0 rfl ?_
  refine r_getR (pc := 1) ok fr_22_30 (by decide) fl_X11_61 dX11_asksOf_1 ?_
  refine r_iconst (pc := 4) ok 0 dX11_asksOf_4 (by decide) ?_
  refine r_iload_n (pc := 5) ok 3 dX11_asksOf_5 rfl ?_
  refine r_bipush (pc := 6) ok 6 dX11_asksOf_6 (by decide) ?_
  refine r_iremc (pc := 8) ok (by decide) dX11_asksOf_8 ?_
  refine r_iast (pc := 9) ok ik_40 (by decide) dX11_asksOf_9 ?_
  refine r_nmM (fun M1 => ?_)
  refine r_aload_n (pc := 10) ok 0 dX11_asksOf_10 rfl ?_
  refine r_getR (pc := 11) ok fr_22_30 (by decide) fl_X11_61 dX11_asksOf_11 ?_
  refine r_iconst (pc := 14) ok 1 dX11_asksOf_14 (by decide) ?_
  refine r_iload_n (pc := 15) ok 3 dX11_asksOf_15 rfl ?_
  refine r_bipush (pc := 16) ok 6 dX11_asksOf_16 (by decide) ?_
  refine r_idivc (pc := 18) ok (by decide) dX11_asksOf_18 ?_
  refine r_iast (pc := 19) ok ik_40 (by decide) dX11_asksOf_19 ?_
  refine r_nmM (fun M2 => ?_)
  refine r_aload_n (pc := 20) ok 0 dX11_asksOf_20 rfl ?_
  refine r_getR (pc := 21) ok fr_22_30 (by decide) fl_X11_61 dX11_asksOf_21 ?_
  refine r_iconst (pc := 24) ok 2 dX11_asksOf_24 (by decide) ?_
  refine r_aload_n (pc := 25) ok 0 dX11_asksOf_25 rfl ?_
  refine r_getR (pc := 26) ok fr_22_5 (by decide) fl_X11_22 dX11_asksOf_26 ?_
  refine r_iload_n (pc := 29) ok 3 dX11_asksOf_29 rfl ?_
  refine r_iald (pc := 30) ok ik_27 (by decide) dX11_asksOf_30 (fun _ => ?_)
  refine r_iast (pc := 31) ok ik_40 (by decide) dX11_asksOf_31 ?_
  refine r_nmM (fun M3 => ?_)
  refine r_aload_n (pc := 32) ok 0 dX11_asksOf_32 rfl ?_
  refine r_getR (pc := 33) ok fr_22_30 (by decide) fl_X11_61 dX11_asksOf_33 ?_
  refine r_iconst (pc := 36) ok 3 dX11_asksOf_36 (by decide) ?_
  refine r_aload_n (pc := 37) ok 0 dX11_asksOf_37 rfl ?_
  refine r_getI (pc := 38) ok fi_22_6 (by decide) fl_X11_92 dX11_asksOf_38 ?_
  refine r_iast (pc := 41) ok ik_40 (by decide) dX11_asksOf_41 ?_
  refine r_nmM (fun M4 => ?_)
  refine r_aload_n (pc := 42) ok 0 dX11_asksOf_42 rfl ?_
  refine r_getR (pc := 43) ok fr_22_30 (by decide) fl_X11_61 dX11_asksOf_43 ?_
  refine r_iconst (pc := 46) ok 4 dX11_asksOf_46 (by decide) ?_
  refine r_aload_n (pc := 47) ok 0 dX11_asksOf_47 rfl ?_
  refine r_getR (pc := 48) ok fr_22_4 (by decide) fl_X11_19 dX11_asksOf_48 ?_
  refine r_iload_n (pc := 51) ok 2 dX11_asksOf_51 rfl ?_
  refine r_iald (pc := 52) ok ik_26 (by decide) dX11_asksOf_52 (fun _ => ?_)
  refine r_iast (pc := 53) ok ik_40 (by decide) dX11_asksOf_53 ?_
  refine r_nmM (fun M5 => ?_)
  refine r_aload_n (pc := 54) ok 0 dX11_asksOf_54 rfl ?_
  refine r_getR (pc := 55) ok fr_22_30 (by decide) fl_X11_61 dX11_asksOf_55 ?_
  refine r_iconst (pc := 58) ok 5 dX11_asksOf_58 (by decide) ?_
  refine r_aload_n (pc := 59) ok 0 dX11_asksOf_59 rfl ?_
  refine r_getR (pc := 60) ok fr_22_2 (by decide) fl_X11_13 dX11_asksOf_60 ?_
  refine r_iload_n (pc := 63) ok 2 dX11_asksOf_63 rfl ?_
  refine r_iald (pc := 64) ok ik_24 (by decide) dX11_asksOf_64 (fun _ => ?_)
  refine r_iast (pc := 65) ok ik_40 (by decide) dX11_asksOf_65 ?_
  refine r_nmM (fun M6 => ?_)
  refine r_aload_n (pc := 66) ok 0 dX11_asksOf_66 rfl ?_
  refine r_iload_n (pc := 67) ok 1 dX11_asksOf_67 rfl ?_
  refine r_callV0 (pc := 68) ok [.int vq1] [] 3 (fun rZ MZ hZ => con_X11_says g l vq1 _ rZ MZ hZ) cv_X11_170 ok_22 (rmOk_L (by decide) (by decide)) dX11_asksOf_68 rfl rfl (Nat.le_of_ble_eq_true rfl) (fun r7 M8 => ?_)
  refine r_iload_n (pc := 71) ok 1 dX11_asksOf_71 rfl ?_
  refine r_if_ne (pc := 72) ok 80 dX11_asksOf_72 (by decide) (fun _ => ?_) (fun _ => ?_)
  · refine r_bipush (pc := 75) ok (-99) dX11_asksOf_75 (by decide) ?_
    refine r_goto (pc := 77) ok 81 dX11_asksOf_77 (by decide) ?_
    refine r_lv [] [] rfl ?_
    exact sX11_asksOf_J81 ok (-99) r7 M8
  · refine r_iconst (pc := 80) ok 0 dX11_asksOf_80 (by decide) ?_
    refine r_lv [] [] rfl ?_
    exact sX11_asksOf_J81 ok 0 r7 M8
theorem con_X11_asksOf (g : GP) (l : Launch) (vq1 : Int32) (vq2 : Int32) (vq3 : Int32)  (M : Mem) (r : Int32) (M2 : Mem) (h : fX11_asksOf vq1 vq2 vq3 M = some (r, M2)) : Con g l yX11_asksOf cX11_asksOf 4 (some FieldType.int) (rmL 4) [.ref (gA g 22 0), .int vq1, .int vq2, .int vq3] M (eI r) M2 :=
  Con.of (own := RX11) (f := fX11_asksOf vq1 vq2 vq3 M) (by decide) (Nat.le_of_ble_eq_true rfl) rfl (fun x ok => wX11_asksOf ok vq1 vq2 vq3  M) r M2 h
