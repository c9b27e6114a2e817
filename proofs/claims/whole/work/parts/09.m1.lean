def fX5_thinnestCell_B4 (iq0 : Nat) (k4 : Int32 → Int32 → Mem → Option (Int32 × Mem)) (vq1 : Int32) (vq2 : Int32) (M : Mem) : Option (Int32 × Mem) :=
  if 36 ≤ vq2 then
    (some (vq1, M))
  else
    (gd (inb vq2 36)
    (gd (inb vq1 36)
    (if (M 16 iq0 vq1.toNatClampNeg) ≤ (M 16 iq0 vq2.toNatClampNeg) then
      (k4 vq1 (vq2 + 1) M)
    else
      (k4 vq2 (vq2 + 1) M))))
def fX5_thinnestCell_L4 (iq0 : Nat) : Nat → Int32 → Int32 → Mem → Option (Int32 × Mem)
  | 0, _, _, _ => none
  | n + 1, vq1, vq2, M => fX5_thinnestCell_B4 iq0 (fX5_thinnestCell_L4 iq0 n) vq1 vq2 M
set_option maxRecDepth 20000 in
theorem sX5_thinnestCell_B4 {g : GP} {l : Launch} {x : CT} (ok : Ok g l x RX5 cX5_thinnestCell 3 (some FieldType.int) (rmL 2)) (iq0 : Nat) (h0 : iq0 < 3) (k4 : Int32 → Int32 → Mem → Option (Int32 × Mem)) (hk4 : ∀ (vq1 : Int32) (vq2 : Int32) (M : Mem), Sw g l x (FinQ g x eI) 3 0 0 4 [(0, .ref (gA g 15 iq0)), (1, .int vq1), (2, .int vq2)] [] M (k4 vq1 vq2 M)) (vq1 : Int32) (vq2 : Int32) (M : Mem) : Sw g l x (FinQ g x eI) 3 0 0 4 [(0, .ref (gA g 15 iq0)), (1, .int vq1), (2, .int vq2)] [] M (fX5_thinnestCell_B4 iq0 k4 vq1 vq2 M) := by
  unfold fX5_thinnestCell_B4
  refine r_iload_n (pc := 4) ok 2 dX5_thinnestCell_4 rfl ?_
  refine r_bipush (pc := 5) ok 36 dX5_thinnestCell_5 (by decide) ?_
  refine r_icmp_ge (pc := 7) ok 37 dX5_thinnestCell_7 (by decide) (fun _ => ?_) (fun _ => ?_)
  · refine r_iload_n (pc := 37) ok 1 dX5_thinnestCell_37 rfl ?_
    exact r_iret (pc := 38) ok (Nat.zero_le _) (Nat.zero_le _) rfl dX5_thinnestCell_38
  · refine r_aload_n (pc := 10) ok 0 dX5_thinnestCell_10 rfl ?_
    refine r_getR (pc := 11) ok fr_15_2 h0 fl_X5_9 dX5_thinnestCell_11 ?_
    refine r_iload_n (pc := 14) ok 2 dX5_thinnestCell_14 rfl ?_
    refine r_iald (pc := 15) ok ik_16 h0 dX5_thinnestCell_15 (fun _ => ?_)
    refine r_aload_n (pc := 16) ok 0 dX5_thinnestCell_16 rfl ?_
    refine r_getR (pc := 17) ok fr_15_2 h0 fl_X5_9 dX5_thinnestCell_17 ?_
    refine r_iload_n (pc := 20) ok 1 dX5_thinnestCell_20 rfl ?_
    refine r_iald (pc := 21) ok ik_16 h0 dX5_thinnestCell_21 (fun _ => ?_)
    refine r_icmp_ge (pc := 22) ok 29 dX5_thinnestCell_22 (by decide) (fun _ => ?_) (fun _ => ?_)
    · refine r_iload_n (pc := 29) ok 1 dX5_thinnestCell_29 rfl ?_
      refine r_istore_n (pc := 30) ok [(1, .int vq1), (0, .ref (gA g 15 iq0)), (2, .int vq2)] dX5_thinnestCell_30 rfl (by decide) rfl ?_
      refine r_iinc (pc := 31) ok 2 (vq2 + 1) [(2, .int (vq2 + 1)), (1, .int vq1), (0, .ref (gA g 15 iq0))] dX5_thinnestCell_31 rfl (congrArg (fun z => vq2 + z) (by decide : Int32.ofInt 1 = (1 : Int32))) (by decide) rfl ?_
      refine r_goto (pc := 34) ok 4 dX5_thinnestCell_34 (by decide) ?_
      refine r_lv [2, 1, 0] [(0, .ref (gA g 15 iq0)), (1, .int vq1), (2, .int (vq2 + 1))] rfl ?_
      exact hk4 vq1 (vq2 + 1) M
    · refine r_iload_n (pc := 25) ok 2 dX5_thinnestCell_25 rfl ?_
      refine r_goto (pc := 26) ok 30 dX5_thinnestCell_26 (by decide) ?_
      refine r_istore_n (pc := 30) ok [(1, .int vq2), (0, .ref (gA g 15 iq0)), (2, .int vq2)] dX5_thinnestCell_30 rfl (by decide) rfl ?_
      refine r_iinc (pc := 31) ok 2 (vq2 + 1) [(2, .int (vq2 + 1)), (1, .int vq2), (0, .ref (gA g 15 iq0))] dX5_thinnestCell_31 rfl (congrArg (fun z => vq2 + z) (by decide : Int32.ofInt 1 = (1 : Int32))) (by decide) rfl ?_
      refine r_goto (pc := 34) ok 4 dX5_thinnestCell_34 (by decide) ?_
      refine r_lv [2, 1, 0] [(0, .ref (gA g 15 iq0)), (1, .int vq2), (2, .int (vq2 + 1))] rfl ?_
      exact hk4 vq2 (vq2 + 1) M
theorem sX5_thinnestCell_L4 {g : GP} {l : Launch} {x : CT} (ok : Ok g l x RX5 cX5_thinnestCell 3 (some FieldType.int) (rmL 2)) (iq0 : Nat) (h0 : iq0 < 3) : ∀ (n : Nat) (vq1 : Int32) (vq2 : Int32) (M : Mem), Sw g l x (FinQ g x eI) 3 0 0 4 [(0, .ref (gA g 15 iq0)), (1, .int vq1), (2, .int vq2)] [] M (fX5_thinnestCell_L4 iq0 n vq1 vq2 M) := by
  intro n
  induction n with
  | zero => intros; exact r_none
  | succ n ih => intro vq1 vq2 M; exact sX5_thinnestCell_B4 ok iq0 h0 _ ih vq1 vq2 M
def fX5_thinnestCell (iq0 : Nat) (M : Mem) : Option (Int32 × Mem) :=
  fX5_thinnestCell_L4 iq0 FU 0 1 M
set_option maxRecDepth 20000 in
theorem wX5_thinnestCell {g : GP} {l : Launch} {x : CT} (ok : Ok g l x RX5 cX5_thinnestCell 3 (some FieldType.int) (rmL 2)) (iq0 : Nat) (hq0 : iq0 < 3) (M : Mem) : Sw g l x (FinQ g x eI) 3 0 0 0 [(0, .ref (gA g 15 iq0))] [] M (fX5_thinnestCell iq0 M) := by
  unfold fX5_thinnestCell
  refine r_iconst (pc := 0) ok 0 dX5_thinnestCell_0 (by decide) ?_
  refine r_istore_n (pc := 1) ok [(1, .int 0), (0, .ref (gA g 15 iq0))] dX5_thinnestCell_1 rfl (by decide) rfl ?_
  refine r_iconst (pc := 2) ok 1 dX5_thinnestCell_2 (by decide) ?_
  refine r_istore_n (pc := 3) ok [(2, .int 1), (1, .int 0), (0, .ref (gA g 15 iq0))] dX5_thinnestCell_3 rfl (by decide) rfl ?_
  refine r_lv [2, 1, 0] [(0, .ref (gA g 15 iq0)), (1, .int 0), (2, .int 1)] rfl ?_
  exact sX5_thinnestCell_L4 ok iq0 hq0 FU 0 1 M
theorem con_X5_thinnestCell (g : GP) (l : Launch) (iq0 : Nat) (hq0 : iq0 < 3) (M : Mem) (r : Int32) (M2 : Mem) (h : fX5_thinnestCell iq0 M = some (r, M2)) : Con g l yX5_thinnestCell cX5_thinnestCell 3 (some FieldType.int) (rmL 2) [.ref (gA g 15 iq0)] M (eI r) M2 :=
  Con.of (own := RX5) (f := fX5_thinnestCell iq0 M) (by decide) (Nat.le_of_ble_eq_true rfl) rfl (fun x ok => wX5_thinnestCell ok iq0 hq0 M) r M2 h
def fX6_write (iq0 : Nat) (vq1 : Int32) (vq2 : Int32) (M : Mem) : Option (Unit × Mem) :=
  if (M 13 iq0 1) = 0 then
    (gd (inb vq1 40)
    (lt (mst M 14 iq0 vq1.toNatClampNeg vq2.toInt8.toInt32) fun M3 =>
    some ((), M3)))
  else
    (if (M 13 iq0 1) = 1 then
      (gd (inb vq1 40)
      (lt (mst M 14 iq0 vq1.toNatClampNeg vq2.toInt16.toInt32) fun M2 =>
      some ((), M2)))
    else
      (gd (inb vq1 40)
      (lt (mst M 14 iq0 vq1.toNatClampNeg vq2) fun M1 =>
      some ((), M1))))
set_option maxRecDepth 20000 in
theorem wX6_write {g : GP} {l : Launch} {x : CT} (ok : Ok g l x RX6 cX6_write 3 none (rmL 2)) (iq0 : Nat) (vq1 : Int32) (vq2 : Int32) (hq0 : iq0 < 4) (M : Mem) : Sw g l x (FinQ g x eV) 3 0 0 0 [(0, .ref (gA g 13 iq0)), (1, .int vq1), (2, .int vq2)] [] M (fX6_write iq0 vq1 vq2 M) := by
  unfold fX6_write
  refine r_aload_n (pc := 0) ok 0 dX6_write_0 rfl ?_
  refine r_getI (pc := 1) ok fi_13_1 hq0 fl_X6_15 dX6_write_1 ?_
  refine r_if_ne (pc := 4) ok 18 dX6_write_4 (by decide) (fun _ => ?_) (fun _ => ?_)
  · refine r_aload_n (pc := 7) ok 0 dX6_write_7 rfl ?_
    refine r_getR (pc := 8) ok fr_13_0 hq0 fl_X6_9 dX6_write_8 ?_
    refine r_iload_n (pc := 11) ok 1 dX6_write_11 rfl ?_
    refine r_iload_n (pc := 12) ok 2 dX6_write_12 rfl ?_
    refine r_i2b (pc := 13) ok dX6_write_13 ?_
    refine r_iast (pc := 14) ok ik_14 hq0 dX6_write_14 ?_
    refine r_nmM (fun M3 => ?_)
    refine r_goto (pc := 15) ok 44 dX6_write_15 (by decide) ?_
    exact r_vret (pc := 44) ok (Nat.zero_le _) (Nat.zero_le _) rfl dX6_write_44
  · refine r_aload_n (pc := 18) ok 0 dX6_write_18 rfl ?_
    refine r_getI (pc := 19) ok fi_13_1 hq0 fl_X6_15 dX6_write_19 ?_
    refine r_iconst (pc := 22) ok 1 dX6_write_22 (by decide) ?_
    refine r_icmp_ne (pc := 23) ok 37 dX6_write_23 (by decide) (fun _ => ?_) (fun _ => ?_)
    · refine r_aload_n (pc := 26) ok 0 dX6_write_26 rfl ?_
      refine r_getR (pc := 27) ok fr_13_0 hq0 fl_X6_9 dX6_write_27 ?_
      refine r_iload_n (pc := 30) ok 1 dX6_write_30 rfl ?_
      refine r_iload_n (pc := 31) ok 2 dX6_write_31 rfl ?_
      refine r_i2s (pc := 32) ok dX6_write_32 ?_
      refine r_iast (pc := 33) ok ik_14 hq0 dX6_write_33 ?_
      refine r_nmM (fun M2 => ?_)
      refine r_goto (pc := 34) ok 44 dX6_write_34 (by decide) ?_
      exact r_vret (pc := 44) ok (Nat.zero_le _) (Nat.zero_le _) rfl dX6_write_44
    · refine r_aload_n (pc := 37) ok 0 dX6_write_37 rfl ?_
      refine r_getR (pc := 38) ok fr_13_0 hq0 fl_X6_9 dX6_write_38 ?_
      refine r_iload_n (pc := 41) ok 1 dX6_write_41 rfl ?_
      refine r_iload_n (pc := 42) ok 2 dX6_write_42 rfl ?_
      refine r_iast (pc := 43) ok ik_14 hq0 dX6_write_43 ?_
      refine r_nmM (fun M1 => ?_)
      exact r_vret (pc := 44) ok (Nat.zero_le _) (Nat.zero_le _) rfl dX6_write_44
theorem con_X6_write (g : GP) (l : Launch) (iq0 : Nat) (vq1 : Int32) (vq2 : Int32) (hq0 : iq0 < 4) (M : Mem) (r : Unit) (M2 : Mem) (h : fX6_write iq0 vq1 vq2 M = some (r, M2)) : Con g l yX6_write cX6_write 3 none (rmL 2) [.ref (gA g 13 iq0), .int vq1, .int vq2] M (eV r) M2 :=
  Con.of (own := RX6) (f := fX6_write iq0 vq1 vq2 M) (by decide) (Nat.le_of_ble_eq_true rfl) rfl (fun x ok => wX6_write ok iq0 vq1 vq2 hq0 M) r M2 h
def fX6_holdsRange (iq0 : Nat) (vq1 : Int32) (vq2 : Int32) (M : Mem) : Option (Int32 × Mem) :=
  if vq1 < 0 then
    (some (0, M))
  else
    (if vq2 < 0 then
      (some (0, M))
    else
      (if (M 13 iq0 2) < vq1 then
        (some (0, M))
      else
        (if ((M 13 iq0 2) - vq1) < vq2 then
          (some (0, M))
        else
          (some (1, M)))))
set_option maxRecDepth 20000 in
theorem wX6_holdsRange {g : GP} {l : Launch} {x : CT} (ok : Ok g l x RX6 cX6_holdsRange 3 (some FieldType.boolean) (rmL 2)) (iq0 : Nat) (vq1 : Int32) (vq2 : Int32) (hq0 : iq0 < 4) (M : Mem) : Sw g l x (FinQ g x eI) 3 0 0 0 [(0, .ref (gA g 13 iq0)), (1, .int vq1), (2, .int vq2)] [] M (fX6_holdsRange iq0 vq1 vq2 M) := by
  unfold fX6_holdsRange
  refine r_iload_n (pc := 0) ok 1 dX6_holdsRange_0 rfl ?_
  refine r_if_lt (pc := 1) ok 30 dX6_holdsRange_1 (by decide) (fun _ => ?_) (fun _ => ?_)
  · refine r_iconst (pc := 30) ok 0 dX6_holdsRange_30 (by decide) ?_
    exact r_zret (pc := 31) ok (Nat.zero_le _) (Nat.zero_le _) rfl rfl dX6_holdsRange_31
  · refine r_iload_n (pc := 4) ok 2 dX6_holdsRange_4 rfl ?_
    refine r_if_lt (pc := 5) ok 30 dX6_holdsRange_5 (by decide) (fun _ => ?_) (fun _ => ?_)
    · refine r_iconst (pc := 30) ok 0 dX6_holdsRange_30 (by decide) ?_
      exact r_zret (pc := 31) ok (Nat.zero_le _) (Nat.zero_le _) rfl rfl dX6_holdsRange_31
    · refine r_iload_n (pc := 8) ok 1 dX6_holdsRange_8 rfl ?_
      refine r_aload_n (pc := 9) ok 0 dX6_holdsRange_9 rfl ?_
      refine r_getI (pc := 10) ok fi_13_2 hq0 fl_X6_19 dX6_holdsRange_10 ?_
      refine r_icmp_gt (pc := 13) ok 30 dX6_holdsRange_13 (by decide) (fun _ => ?_) (fun _ => ?_)
      · refine r_iconst (pc := 30) ok 0 dX6_holdsRange_30 (by decide) ?_
        exact r_zret (pc := 31) ok (Nat.zero_le _) (Nat.zero_le _) rfl rfl dX6_holdsRange_31
      · refine r_iload_n (pc := 16) ok 2 dX6_holdsRange_16 rfl ?_
        refine r_aload_n (pc := 17) ok 0 dX6_holdsRange_17 rfl ?_
        refine r_getI (pc := 18) ok fi_13_2 hq0 fl_X6_19 dX6_holdsRange_18 ?_
        refine r_iload_n (pc := 21) ok 1 dX6_holdsRange_21 rfl ?_
        refine r_isub (pc := 22) ok dX6_holdsRange_22 ?_
        refine r_icmp_gt (pc := 23) ok 30 dX6_holdsRange_23 (by decide) (fun _ => ?_) (fun _ => ?_)
        · refine r_iconst (pc := 30) ok 0 dX6_holdsRange_30 (by decide) ?_
          exact r_zret (pc := 31) ok (Nat.zero_le _) (Nat.zero_le _) rfl rfl dX6_holdsRange_31
        · refine r_iconst (pc := 26) ok 1 dX6_holdsRange_26 (by decide) ?_
          refine r_goto (pc := 27) ok 31 dX6_holdsRange_27 (by decide) ?_
          exact r_zret (pc := 31) ok (Nat.zero_le _) (Nat.zero_le _) rfl rfl dX6_holdsRange_31
theorem con_X6_holdsRange (g : GP) (l : Launch) (iq0 : Nat) (vq1 : Int32) (vq2 : Int32) (hq0 : iq0 < 4) (M : Mem) (r : Int32) (M2 : Mem) (h : fX6_holdsRange iq0 vq1 vq2 M = some (r, M2)) : Con g l yX6_holdsRange cX6_holdsRange 3 (some FieldType.boolean) (rmL 2) [.ref (gA g 13 iq0), .int vq1, .int vq2] M (eI r) M2 :=
  Con.of (own := RX6) (f := fX6_holdsRange iq0 vq1 vq2 M) (by decide) (Nat.le_of_ble_eq_true rfl) rfl (fun x ok => wX6_holdsRange ok iq0 vq1 vq2 hq0 M) r M2 h
def fX8_ofOne (vq0 : Int32) (vq1 : Int32) (M : Mem) : Option (Int32 × Mem) :=
  if vq0 = (-10) then
    (some (-vq1, M))
  else
    (if vq1 = 0 then
      (some (1, M))
    else
      (some (0, M)))
set_option maxRecDepth 20000 in
theorem wX8_ofOne {g : GP} {l : Launch} {x : CT} (ok : Ok g l x RX8 cX8_ofOne 2 (some FieldType.int) (rmL 2)) (vq0 : Int32) (vq1 : Int32)  (M : Mem) : Sw g l x (FinQ g x eI) 2 0 0 0 [(0, .int vq0), (1, .int vq1)] [] M (fX8_ofOne vq0 vq1 M) := by
  unfold fX8_ofOne
  refine r_iload_n (pc := 0) ok 0 dX8_ofOne_0 rfl ?_
  refine r_bipush (pc := 1) ok (-10) dX8_ofOne_1 (by decide) ?_
  refine r_icmp_ne (pc := 3) ok 9 dX8_ofOne_3 (by decide) (fun _ => ?_) (fun _ => ?_)
  · refine r_iload_n (pc := 6) ok 1 dX8_ofOne_6 rfl ?_
    refine r_ineg (pc := 7) ok dX8_ofOne_7 ?_
    exact r_iret (pc := 8) ok (Nat.zero_le _) (Nat.zero_le _) rfl dX8_ofOne_8
  · refine r_iload_n (pc := 9) ok 1 dX8_ofOne_9 rfl ?_
    refine r_if_ne (pc := 10) ok 17 dX8_ofOne_10 (by decide) (fun _ => ?_) (fun _ => ?_)
    · refine r_iconst (pc := 13) ok 1 dX8_ofOne_13 (by decide) ?_
      refine r_goto (pc := 14) ok 18 dX8_ofOne_14 (by decide) ?_
      exact r_iret (pc := 18) ok (Nat.zero_le _) (Nat.zero_le _) rfl dX8_ofOne_18
    · refine r_iconst (pc := 17) ok 0 dX8_ofOne_17 (by decide) ?_
      exact r_iret (pc := 18) ok (Nat.zero_le _) (Nat.zero_le _) rfl dX8_ofOne_18
theorem con_X8_ofOne (g : GP) (l : Launch) (vq0 : Int32) (vq1 : Int32)  (M : Mem) (r : Int32) (M2 : Mem) (h : fX8_ofOne vq0 vq1 M = some (r, M2)) : Con g l yX8_ofOne cX8_ofOne 2 (some FieldType.int) (rmL 2) [.int vq0, .int vq1] M (eI r) M2 :=
  Con.of (own := RX8) (f := fX8_ofOne vq0 vq1 M) (by decide) (Nat.le_of_ble_eq_true rfl) rfl (fun x ok => wX8_ofOne ok vq0 vq1  M) r M2 h
def fX8_ofTwo (vq0 : Int32) (vq1 : Int32) (vq2 : Int32) (M : Mem) : Option (Int32 × Mem) :=
  if (-vq0) = 7 then
    (if vq1 = 0 then
      (if vq2 = 0 then
        (some (0, M))
      else
        (some (1, M)))
    else
      (some (1, M)))
  else
    (if (-vq0) = 8 then
      (if vq1 = 0 then
        (some (0, M))
      else
        (if vq2 = 0 then
          (some (0, M))
        else
          (some (1, M))))
    else
      (if (-vq0) = 43 then
        (some (vq1 + vq2, M))
      else
        (if (-vq0) = 45 then
          (some (vq1 - vq2, M))
        else
          (if (-vq0) = 60 then
            (if vq2 ≤ vq1 then
              (some (0, M))
            else
              (some (1, M)))
          else
            (if (-vq0) = 61 then
              (if vq1 = vq2 then
                (some (1, M))
              else
                (some (0, M)))
            else
              (some (vq1 * vq2, M)))))))
set_option maxRecDepth 20000 in
theorem wX8_ofTwo {g : GP} {l : Launch} {x : CT} (ok : Ok g l x RX8 cX8_ofTwo 3 (some FieldType.int) (rmL 2)) (vq0 : Int32) (vq1 : Int32) (vq2 : Int32)  (M : Mem) : Sw g l x (FinQ g x eI) 3 0 0 0 [(0, .int vq0), (1, .int vq1), (2, .int vq2)] [] M (fX8_ofTwo vq0 vq1 vq2 M) := by
  unfold fX8_ofTwo
  refine r_iload_n (pc := 0) ok 0 dX8_ofTwo_0 rfl ?_
  refine r_ineg (pc := 1) ok dX8_ofTwo_1 ?_
  refine r_lkc (pc := 2) ok (58) 60 dX8_ofTwo_2 (by decide +kernel) (by decide +kernel) (by decide) (fun _ => ?_) (fun hs1 => ?_)
  · refine r_iload_n (pc := 60) ok 1 dX8_ofTwo_60 rfl ?_
    refine r_if_ne (pc := 61) ok 68 dX8_ofTwo_61 (by decide) (fun _ => ?_) (fun _ => ?_)
    · refine r_iload_n (pc := 64) ok 2 dX8_ofTwo_64 rfl ?_
      refine r_if_eq (pc := 65) ok 72 dX8_ofTwo_65 (by decide) (fun _ => ?_) (fun _ => ?_)
      · refine r_iconst (pc := 72) ok 0 dX8_ofTwo_72 (by decide) ?_
        exact r_iret (pc := 73) ok (Nat.zero_le _) (Nat.zero_le _) rfl dX8_ofTwo_73
      · refine r_iconst (pc := 68) ok 1 dX8_ofTwo_68 (by decide) ?_
        refine r_goto (pc := 69) ok 73 dX8_ofTwo_69 (by decide) ?_
        exact r_iret (pc := 73) ok (Nat.zero_le _) (Nat.zero_le _) rfl dX8_ofTwo_73
    · refine r_iconst (pc := 68) ok 1 dX8_ofTwo_68 (by decide) ?_
      refine r_goto (pc := 69) ok 73 dX8_ofTwo_69 (by decide) ?_
      exact r_iret (pc := 73) ok (Nat.zero_le _) (Nat.zero_le _) rfl dX8_ofTwo_73
  · refine r_lkc (pc := 2) ok (72) 74 dX8_ofTwo_2 (by decide +kernel) (by decide +kernel) (by decide) (fun _ => ?_) (fun hs2 => ?_)
    · refine r_iload_n (pc := 74) ok 1 dX8_ofTwo_74 rfl ?_
      refine r_if_eq (pc := 75) ok 86 dX8_ofTwo_75 (by decide) (fun _ => ?_) (fun _ => ?_)
      · refine r_iconst (pc := 86) ok 0 dX8_ofTwo_86 (by decide) ?_
        exact r_iret (pc := 87) ok (Nat.zero_le _) (Nat.zero_le _) rfl dX8_ofTwo_87
      · refine r_iload_n (pc := 78) ok 2 dX8_ofTwo_78 rfl ?_
        refine r_if_eq (pc := 79) ok 86 dX8_ofTwo_79 (by decide) (fun _ => ?_) (fun _ => ?_)
        · refine r_iconst (pc := 86) ok 0 dX8_ofTwo_86 (by decide) ?_
          exact r_iret (pc := 87) ok (Nat.zero_le _) (Nat.zero_le _) rfl dX8_ofTwo_87
        · refine r_iconst (pc := 82) ok 1 dX8_ofTwo_82 (by decide) ?_
          refine r_goto (pc := 83) ok 87 dX8_ofTwo_83 (by decide) ?_
          exact r_iret (pc := 87) ok (Nat.zero_le _) (Nat.zero_le _) rfl dX8_ofTwo_87
    · refine r_lkc (pc := 2) ok (108) 110 dX8_ofTwo_2 (by decide +kernel) (by decide +kernel) (by decide) (fun _ => ?_) (fun hs3 => ?_)
      · refine r_iload_n (pc := 110) ok 1 dX8_ofTwo_110 rfl ?_
        refine r_iload_n (pc := 111) ok 2 dX8_ofTwo_111 rfl ?_
        refine r_iadd (pc := 112) ok dX8_ofTwo_112 ?_
        exact r_iret (pc := 113) ok (Nat.zero_le _) (Nat.zero_le _) rfl dX8_ofTwo_113
      · refine r_lkc (pc := 2) ok (112) 114 dX8_ofTwo_2 (by decide +kernel) (by decide +kernel) (by decide) (fun _ => ?_) (fun hs4 => ?_)
        · refine r_iload_n (pc := 114) ok 1 dX8_ofTwo_114 rfl ?_
          refine r_iload_n (pc := 115) ok 2 dX8_ofTwo_115 rfl ?_
          refine r_isub (pc := 116) ok dX8_ofTwo_116 ?_
          exact r_iret (pc := 117) ok (Nat.zero_le _) (Nat.zero_le _) rfl dX8_ofTwo_117
        · refine r_lkc (pc := 2) ok (86) 88 dX8_ofTwo_2 (by decide +kernel) (by decide +kernel) (by decide) (fun _ => ?_) (fun hs5 => ?_)
          · refine r_iload_n (pc := 88) ok 1 dX8_ofTwo_88 rfl ?_
            refine r_iload_n (pc := 89) ok 2 dX8_ofTwo_89 rfl ?_
            refine r_icmp_ge (pc := 90) ok 97 dX8_ofTwo_90 (by decide) (fun _ => ?_) (fun _ => ?_)
            · refine r_iconst (pc := 97) ok 0 dX8_ofTwo_97 (by decide) ?_
              exact r_iret (pc := 98) ok (Nat.zero_le _) (Nat.zero_le _) rfl dX8_ofTwo_98
            · refine r_iconst (pc := 93) ok 1 dX8_ofTwo_93 (by decide) ?_
              refine r_goto (pc := 94) ok 98 dX8_ofTwo_94 (by decide) ?_
              exact r_iret (pc := 98) ok (Nat.zero_le _) (Nat.zero_le _) rfl dX8_ofTwo_98
          · refine r_lkc (pc := 2) ok (97) 99 dX8_ofTwo_2 (by decide +kernel) (by decide +kernel) (by decide) (fun _ => ?_) (fun hs6 => ?_)
            · refine r_iload_n (pc := 99) ok 1 dX8_ofTwo_99 rfl ?_
              refine r_iload_n (pc := 100) ok 2 dX8_ofTwo_100 rfl ?_
              refine r_icmp_ne (pc := 101) ok 108 dX8_ofTwo_101 (by decide) (fun _ => ?_) (fun _ => ?_)
              · refine r_iconst (pc := 104) ok 1 dX8_ofTwo_104 (by decide) ?_
                refine r_goto (pc := 105) ok 109 dX8_ofTwo_105 (by decide) ?_
                exact r_iret (pc := 109) ok (Nat.zero_le _) (Nat.zero_le _) rfl dX8_ofTwo_109
              · refine r_iconst (pc := 108) ok 0 dX8_ofTwo_108 (by decide) ?_
                exact r_iret (pc := 109) ok (Nat.zero_le _) (Nat.zero_le _) rfl dX8_ofTwo_109
            · refine r_lkd (pc := 2) ok 118 dX8_ofTwo_2 (by decide +kernel) ((lv_osw hs1 (by decide : (7 : Int32).toInt = 7)).trans ((lv_osw hs2 (by decide : (8 : Int32).toInt = 8)).trans ((lv_osw hs3 (by decide : (43 : Int32).toInt = 43)).trans ((lv_osw hs4 (by decide : (45 : Int32).toInt = 45)).trans ((lv_osw hs5 (by decide : (60 : Int32).toInt = 60)).trans ((lv_osw hs6 (by decide : (61 : Int32).toInt = 61)).trans (rfl))))))) (by decide) ?_
              refine r_iload_n (pc := 118) ok 1 dX8_ofTwo_118 rfl ?_
              refine r_iload_n (pc := 119) ok 2 dX8_ofTwo_119 rfl ?_
              refine r_imul (pc := 120) ok dX8_ofTwo_120 ?_
              exact r_iret (pc := 121) ok (Nat.zero_le _) (Nat.zero_le _) rfl dX8_ofTwo_121
theorem con_X8_ofTwo (g : GP) (l : Launch) (vq0 : Int32) (vq1 : Int32) (vq2 : Int32)  (M : Mem) (r : Int32) (M2 : Mem) (h : fX8_ofTwo vq0 vq1 vq2 M = some (r, M2)) : Con g l yX8_ofTwo cX8_ofTwo 3 (some FieldType.int) (rmL 2) [.int vq0, .int vq1, .int vq2] M (eI r) M2 :=
  Con.of (own := RX8) (f := fX8_ofTwo vq0 vq1 vq2 M) (by decide) (Nat.le_of_ble_eq_true rfl) rfl (fun x ok => wX8_ofTwo ok vq0 vq1 vq2  M) r M2 h
def fJ13_bitCount_95d88 (vq0 : Int64) (M : Mem) : Option (Int32 × Mem) :=
  lt (vq0 - ((lushr vq0 1) &&& 6148914691236517205)) fun w1 =>
  lt ((w1 &&& 3689348814741910323) + ((lushr w1 2) &&& 3689348814741910323)) fun w2 =>
  lt ((w2 + (lushr w2 4)) &&& 1085102592571150095) fun w3 =>
  lt (w3 + (lushr w3 8)) fun w4 =>
  lt (w4 + (lushr w4 16)) fun w5 =>
  lt (w5 + (lushr w5 32)) fun w6 =>
  some (w6.toInt32 &&& 127, M)
set_option maxRecDepth 20000 in
theorem wJ13_bitCount_95d88 {g : GP} {l : Launch} {x : CT} (ok : Ok g l x RJ13 cJ13_bitCount_95d88 2 (some FieldType.int) (rmL 2)) (vq0 : Int64)  (M : Mem) : Sw g l x (FinQ g x eI) 2 0 0 0 [(0, .long vq0)] [] M (fJ13_bitCount_95d88 vq0 M) := by
  unfold fJ13_bitCount_95d88
  refine r_lload_n (pc := 0) ok 0 dJ13_bitCount_95d88_0 rfl ?_
  refine r_lload_n (pc := 1) ok 0 dJ13_bitCount_95d88_1 rfl ?_
  refine r_iconst (pc := 2) ok 1 dJ13_bitCount_95d88_2 (by decide) ?_
  refine r_lushr (pc := 3) ok dJ13_bitCount_95d88_3 ?_
  refine r_ldc2 (pc := 4) ok wcl_J13_314 dJ13_bitCount_95d88_4 ?_
  refine r_land (pc := 7) ok dJ13_bitCount_95d88_7 ?_
  refine r_lsub (pc := 8) ok dJ13_bitCount_95d88_8 ?_
  refine r_nml (fun w1 => ?_)
  refine r_lstore_n (pc := 9) ok [(0, .long w1)] dJ13_bitCount_95d88_9 rfl (by decide) rfl ?_
  refine r_lload_n (pc := 10) ok 0 dJ13_bitCount_95d88_10 rfl ?_
  refine r_ldc2 (pc := 11) ok wcl_J13_316 dJ13_bitCount_95d88_11 ?_
  refine r_land (pc := 14) ok dJ13_bitCount_95d88_14 ?_
  refine r_lload_n (pc := 15) ok 0 dJ13_bitCount_95d88_15 rfl ?_
  refine r_iconst (pc := 16) ok 2 dJ13_bitCount_95d88_16 (by decide) ?_
  refine r_lushr (pc := 17) ok dJ13_bitCount_95d88_17 ?_
  refine r_ldc2 (pc := 18) ok wcl_J13_316 dJ13_bitCount_95d88_18 ?_
  refine r_land (pc := 21) ok dJ13_bitCount_95d88_21 ?_
  refine r_ladd (pc := 22) ok dJ13_bitCount_95d88_22 ?_
  refine r_nml (fun w2 => ?_)
  refine r_lstore_n (pc := 23) ok [(0, .long w2)] dJ13_bitCount_95d88_23 rfl (by decide) rfl ?_
  refine r_lload_n (pc := 24) ok 0 dJ13_bitCount_95d88_24 rfl ?_
  refine r_lload_n (pc := 25) ok 0 dJ13_bitCount_95d88_25 rfl ?_
  refine r_iconst (pc := 26) ok 4 dJ13_bitCount_95d88_26 (by decide) ?_
  refine r_lushr (pc := 27) ok dJ13_bitCount_95d88_27 ?_
  refine r_ladd (pc := 28) ok dJ13_bitCount_95d88_28 ?_
  refine r_ldc2 (pc := 29) ok wcl_J13_318 dJ13_bitCount_95d88_29 ?_
  refine r_land (pc := 32) ok dJ13_bitCount_95d88_32 ?_
  refine r_nml (fun w3 => ?_)
  refine r_lstore_n (pc := 33) ok [(0, .long w3)] dJ13_bitCount_95d88_33 rfl (by decide) rfl ?_
  refine r_lload_n (pc := 34) ok 0 dJ13_bitCount_95d88_34 rfl ?_
  refine r_lload_n (pc := 35) ok 0 dJ13_bitCount_95d88_35 rfl ?_
  refine r_bipush (pc := 36) ok 8 dJ13_bitCount_95d88_36 (by decide) ?_
  refine r_lushr (pc := 38) ok dJ13_bitCount_95d88_38 ?_
  refine r_ladd (pc := 39) ok dJ13_bitCount_95d88_39 ?_
  refine r_nml (fun w4 => ?_)
  refine r_lstore_n (pc := 40) ok [(0, .long w4)] dJ13_bitCount_95d88_40 rfl (by decide) rfl ?_
  refine r_lload_n (pc := 41) ok 0 dJ13_bitCount_95d88_41 rfl ?_
  refine r_lload_n (pc := 42) ok 0 dJ13_bitCount_95d88_42 rfl ?_
  refine r_bipush (pc := 43) ok 16 dJ13_bitCount_95d88_43 (by decide) ?_
  refine r_lushr (pc := 45) ok dJ13_bitCount_95d88_45 ?_
  refine r_ladd (pc := 46) ok dJ13_bitCount_95d88_46 ?_
  refine r_nml (fun w5 => ?_)
  refine r_lstore_n (pc := 47) ok [(0, .long w5)] dJ13_bitCount_95d88_47 rfl (by decide) rfl ?_
  refine r_lload_n (pc := 48) ok 0 dJ13_bitCount_95d88_48 rfl ?_
  refine r_lload_n (pc := 49) ok 0 dJ13_bitCount_95d88_49 rfl ?_
  refine r_bipush (pc := 50) ok 32 dJ13_bitCount_95d88_50 (by decide) ?_
  refine r_lushr (pc := 52) ok dJ13_bitCount_95d88_52 ?_
  refine r_ladd (pc := 53) ok dJ13_bitCount_95d88_53 ?_
  refine r_nml (fun w6 => ?_)
  refine r_lstore_n (pc := 54) ok [(0, .long w6)] dJ13_bitCount_95d88_54 rfl (by decide) rfl ?_
  refine r_lload_n (pc := 55) ok 0 dJ13_bitCount_95d88_55 rfl ?_
  refine r_l2i (pc := 56) ok dJ13_bitCount_95d88_56 ?_
  refine r_bipush (pc := 57) ok 127 dJ13_bitCount_95d88_57 (by decide) ?_
  refine r_iand (pc := 59) ok dJ13_bitCount_95d88_59 ?_
  exact r_iret (pc := 60) ok (Nat.zero_le _) (Nat.zero_le _) rfl dJ13_bitCount_95d88_60
theorem con_J13_bitCount_95d88 (g : GP) (l : Launch) (vq0 : Int64)  (M : Mem) (r : Int32) (M2 : Mem) (h : fJ13_bitCount_95d88 vq0 M = some (r, M2)) : Con g l yJ13_bitCount_95d88 cJ13_bitCount_95d88 2 (some FieldType.int) (rmL 2) [.long vq0] M (eI r) M2 :=
  Con.of (own := RJ13) (f := fJ13_bitCount_95d88 vq0 M) (by decide) (Nat.le_of_ble_eq_true rfl) rfl (fun x ok => wJ13_bitCount_95d88 ok vq0  M) r M2 h
def fJ7_fill_53178_14_B5 (iq0 : Nat) (vq1 : Int32) (vq3 : Int32) (k5 : Int32 → Mem → Option (Unit × Mem)) (vq2 : Int32) (M : Mem) : Option (Unit × Mem) :=
  if vq3 ≤ vq2 then
    (some ((), M))
  else
    (gd (inb vq2 40)
    (lt (mst M 14 iq0 vq2.toNatClampNeg vq1) fun M2 =>
    k5 (vq2 + 1) M2))
def fJ7_fill_53178_14_L5 (iq0 : Nat) (vq1 : Int32) (vq3 : Int32) : Nat → Int32 → Mem → Option (Unit × Mem)
  | 0, _, _ => none
  | n + 1, vq2, M => fJ7_fill_53178_14_B5 iq0 vq1 vq3 (fJ7_fill_53178_14_L5 iq0 vq1 vq3 n) vq2 M
set_option maxRecDepth 20000 in
theorem sJ7_fill_53178_14_B5 {g : GP} {l : Launch} {x : CT} (ok : Ok g l x RJ7 cJ7_fill_53178 4 none (rmL 2)) (iq0 : Nat) (vq1 : Int32) (vq3 : Int32) (h0 : iq0 < 4) (k5 : Int32 → Mem → Option (Unit × Mem)) (hk5 : ∀ (vq2 : Int32) (M : Mem), Sw g l x (FinQ g x eV) 4 0 0 5 [(0, .ref (gA g 14 iq0)), (1, .int vq1), (2, .int vq2), (3, .int vq3)] [] M (k5 vq2 M)) (vq2 : Int32) (M : Mem) : Sw g l x (FinQ g x eV) 4 0 0 5 [(0, .ref (gA g 14 iq0)), (1, .int vq1), (2, .int vq2), (3, .int vq3)] [] M (fJ7_fill_53178_14_B5 iq0 vq1 vq3 k5 vq2 M) := by
  unfold fJ7_fill_53178_14_B5
  refine r_iload_n (pc := 5) ok 2 dJ7_fill_53178_5 rfl ?_
  refine r_iload_n (pc := 6) ok 3 dJ7_fill_53178_6 rfl ?_
  refine r_icmp_ge (pc := 7) ok 20 dJ7_fill_53178_7 (by decide) (fun _ => ?_) (fun _ => ?_)
  · exact r_vret (pc := 20) ok (Nat.zero_le _) (Nat.zero_le _) rfl dJ7_fill_53178_20
  · refine r_aload_n (pc := 10) ok 0 dJ7_fill_53178_10 rfl ?_
    refine r_iload_n (pc := 11) ok 2 dJ7_fill_53178_11 rfl ?_
    refine r_iload_n (pc := 12) ok 1 dJ7_fill_53178_12 rfl ?_
    refine r_iast (pc := 13) ok ik_14 h0 dJ7_fill_53178_13 ?_
    refine r_nmM (fun M2 => ?_)
    refine r_iinc (pc := 14) ok 2 (vq2 + 1) [(2, .int (vq2 + 1)), (0, .ref (gA g 14 iq0)), (1, .int vq1), (3, .int vq3)] dJ7_fill_53178_14 rfl (congrArg (fun z => vq2 + z) (by decide : Int32.ofInt 1 = (1 : Int32))) (by decide) rfl ?_
    refine r_goto (pc := 17) ok 5 dJ7_fill_53178_17 (by decide) ?_
    refine r_lv [1, 2, 0, 3] [(0, .ref (gA g 14 iq0)), (1, .int vq1), (2, .int (vq2 + 1)), (3, .int vq3)] rfl ?_
    exact hk5 (vq2 + 1) M2
theorem sJ7_fill_53178_14_L5 {g : GP} {l : Launch} {x : CT} (ok : Ok g l x RJ7 cJ7_fill_53178 4 none (rmL 2)) (iq0 : Nat) (vq1 : Int32) (vq3 : Int32) (h0 : iq0 < 4) : ∀ (n : Nat) (vq2 : Int32) (M : Mem), Sw g l x (FinQ g x eV) 4 0 0 5 [(0, .ref (gA g 14 iq0)), (1, .int vq1), (2, .int vq2), (3, .int vq3)] [] M (fJ7_fill_53178_14_L5 iq0 vq1 vq3 n vq2 M) := by
  intro n
  induction n with
  | zero => intros; exact r_none
  | succ n ih => intro vq2 M; exact sJ7_fill_53178_14_B5 ok iq0 vq1 vq3 h0 _ ih vq2 M
def fJ7_fill_53178_14 (iq0 : Nat) (vq1 : Int32) (M : Mem) : Option (Unit × Mem) :=
  lt (nI 40) fun w1 =>
  fJ7_fill_53178_14_L5 iq0 vq1 w1 FU 0 M
set_option maxRecDepth 20000 in
theorem wJ7_fill_53178_14 {g : GP} {l : Launch} {x : CT} (ok : Ok g l x RJ7 cJ7_fill_53178 4 none (rmL 2)) (iq0 : Nat) (vq1 : Int32) (hq0 : iq0 < 4) (M : Mem) : Sw g l x (FinQ g x eV) 4 0 0 0 [(0, .ref (gA g 14 iq0)), (1, .int vq1)] [] M (fJ7_fill_53178_14 iq0 vq1 M) := by
  unfold fJ7_fill_53178_14
  refine r_iconst (pc := 0) ok 0 dJ7_fill_53178_0 (by decide) ?_
  refine r_istore_n (pc := 1) ok [(2, .int 0), (0, .ref (gA g 14 iq0)), (1, .int vq1)] dJ7_fill_53178_1 rfl (by decide) rfl ?_
  refine r_aload_n (pc := 2) ok 1 dJ7_fill_53178_2 rfl ?_
  refine r_alen (pc := 3) ok ik_14 hq0 dJ7_fill_53178_3 ?_
  refine r_nmi (fun w1 => ?_)
  refine r_istore_n (pc := 4) ok [(3, .int w1), (2, .int 0), (0, .ref (gA g 14 iq0)), (1, .int vq1)] dJ7_fill_53178_4 rfl (by decide) rfl ?_
  refine r_lv [2, 3, 1, 0] [(0, .ref (gA g 14 iq0)), (1, .int vq1), (2, .int 0), (3, .int w1)] rfl ?_
  exact sJ7_fill_53178_14_L5 ok iq0 vq1 w1 hq0 FU 0 M
theorem con_J7_fill_53178_14 (g : GP) (l : Launch) (iq0 : Nat) (vq1 : Int32) (hq0 : iq0 < 4) (M : Mem) (r : Unit) (M2 : Mem) (h : fJ7_fill_53178_14 iq0 vq1 M = some (r, M2)) : Con g l yJ7_fill_53178 cJ7_fill_53178 4 none (rmL 2) [.ref (gA g 14 iq0), .int vq1] M (eV r) M2 :=
  Con.of (own := RJ7) (f := fJ7_fill_53178_14 iq0 vq1 M) (by decide) (Nat.le_of_ble_eq_true rfl) rfl (fun x ok => wJ7_fill_53178_14 ok iq0 vq1 hq0 M) r M2 h
def fJ7_fill_53178_21_B5 (iq0 : Nat) (vq1 : Int32) (vq3 : Int32) (k5 : Int32 → Mem → Option (Unit × Mem)) (vq2 : Int32) (M : Mem) : Option (Unit × Mem) :=
  if vq3 ≤ vq2 then
    (some ((), M))
  else
    (gd (inb vq2 36)
    (lt (mst M 21 iq0 vq2.toNatClampNeg vq1) fun M2 =>
    k5 (vq2 + 1) M2))
def fJ7_fill_53178_21_L5 (iq0 : Nat) (vq1 : Int32) (vq3 : Int32) : Nat → Int32 → Mem → Option (Unit × Mem)
  | 0, _, _ => none
  | n + 1, vq2, M => fJ7_fill_53178_21_B5 iq0 vq1 vq3 (fJ7_fill_53178_21_L5 iq0 vq1 vq3 n) vq2 M
set_option maxRecDepth 20000 in
theorem sJ7_fill_53178_21_B5 {g : GP} {l : Launch} {x : CT} (ok : Ok g l x RJ7 cJ7_fill_53178 4 none (rmL 2)) (iq0 : Nat) (vq1 : Int32) (vq3 : Int32) (h0 : iq0 < 3) (k5 : Int32 → Mem → Option (Unit × Mem)) (hk5 : ∀ (vq2 : Int32) (M : Mem), Sw g l x (FinQ g x eV) 4 0 0 5 [(0, .ref (gA g 21 iq0)), (1, .int vq1), (2, .int vq2), (3, .int vq3)] [] M (k5 vq2 M)) (vq2 : Int32) (M : Mem) : Sw g l x (FinQ g x eV) 4 0 0 5 [(0, .ref (gA g 21 iq0)), (1, .int vq1), (2, .int vq2), (3, .int vq3)] [] M (fJ7_fill_53178_21_B5 iq0 vq1 vq3 k5 vq2 M) := by
  unfold fJ7_fill_53178_21_B5
  refine r_iload_n (pc := 5) ok 2 dJ7_fill_53178_5 rfl ?_
  refine r_iload_n (pc := 6) ok 3 dJ7_fill_53178_6 rfl ?_
  refine r_icmp_ge (pc := 7) ok 20 dJ7_fill_53178_7 (by decide) (fun _ => ?_) (fun _ => ?_)
  · exact r_vret (pc := 20) ok (Nat.zero_le _) (Nat.zero_le _) rfl dJ7_fill_53178_20
  · refine r_aload_n (pc := 10) ok 0 dJ7_fill_53178_10 rfl ?_
    refine r_iload_n (pc := 11) ok 2 dJ7_fill_53178_11 rfl ?_
    refine r_iload_n (pc := 12) ok 1 dJ7_fill_53178_12 rfl ?_
    refine r_iast (pc := 13) ok ik_21 h0 dJ7_fill_53178_13 ?_
    refine r_nmM (fun M2 => ?_)
    refine r_iinc (pc := 14) ok 2 (vq2 + 1) [(2, .int (vq2 + 1)), (0, .ref (gA g 21 iq0)), (1, .int vq1), (3, .int vq3)] dJ7_fill_53178_14 rfl (congrArg (fun z => vq2 + z) (by decide : Int32.ofInt 1 = (1 : Int32))) (by decide) rfl ?_
    refine r_goto (pc := 17) ok 5 dJ7_fill_53178_17 (by decide) ?_
    refine r_lv [1, 2, 0, 3] [(0, .ref (gA g 21 iq0)), (1, .int vq1), (2, .int (vq2 + 1)), (3, .int vq3)] rfl ?_
    exact hk5 (vq2 + 1) M2
theorem sJ7_fill_53178_21_L5 {g : GP} {l : Launch} {x : CT} (ok : Ok g l x RJ7 cJ7_fill_53178 4 none (rmL 2)) (iq0 : Nat) (vq1 : Int32) (vq3 : Int32) (h0 : iq0 < 3) : ∀ (n : Nat) (vq2 : Int32) (M : Mem), Sw g l x (FinQ g x eV) 4 0 0 5 [(0, .ref (gA g 21 iq0)), (1, .int vq1), (2, .int vq2), (3, .int vq3)] [] M (fJ7_fill_53178_21_L5 iq0 vq1 vq3 n vq2 M) := by
  intro n
  induction n with
  | zero => intros; exact r_none
  | succ n ih => intro vq2 M; exact sJ7_fill_53178_21_B5 ok iq0 vq1 vq3 h0 _ ih vq2 M
def fJ7_fill_53178_21 (iq0 : Nat) (vq1 : Int32) (M : Mem) : Option (Unit × Mem) :=
  lt (nI 36) fun w1 =>
  fJ7_fill_53178_21_L5 iq0 vq1 w1 FU 0 M
set_option maxRecDepth 20000 in
theorem wJ7_fill_53178_21 {g : GP} {l : Launch} {x : CT} (ok : Ok g l x RJ7 cJ7_fill_53178 4 none (rmL 2)) (iq0 : Nat) (vq1 : Int32) (hq0 : iq0 < 3) (M : Mem) : Sw g l x (FinQ g x eV) 4 0 0 0 [(0, .ref (gA g 21 iq0)), (1, .int vq1)] [] M (fJ7_fill_53178_21 iq0 vq1 M) := by
  unfold fJ7_fill_53178_21
  refine r_iconst (pc := 0) ok 0 dJ7_fill_53178_0 (by decide) ?_
  refine r_istore_n (pc := 1) ok [(2, .int 0), (0, .ref (gA g 21 iq0)), (1, .int vq1)] dJ7_fill_53178_1 rfl (by decide) rfl ?_
  refine r_aload_n (pc := 2) ok 1 dJ7_fill_53178_2 rfl ?_
  refine r_alen (pc := 3) ok ik_21 hq0 dJ7_fill_53178_3 ?_
  refine r_nmi (fun w1 => ?_)
  refine r_istore_n (pc := 4) ok [(3, .int w1), (2, .int 0), (0, .ref (gA g 21 iq0)), (1, .int vq1)] dJ7_fill_53178_4 rfl (by decide) rfl ?_
  refine r_lv [2, 3, 1, 0] [(0, .ref (gA g 21 iq0)), (1, .int vq1), (2, .int 0), (3, .int w1)] rfl ?_
  exact sJ7_fill_53178_21_L5 ok iq0 vq1 w1 hq0 FU 0 M
theorem con_J7_fill_53178_21 (g : GP) (l : Launch) (iq0 : Nat) (vq1 : Int32) (hq0 : iq0 < 3) (M : Mem) (r : Unit) (M2 : Mem) (h : fJ7_fill_53178_21 iq0 vq1 M = some (r, M2)) : Con g l yJ7_fill_53178 cJ7_fill_53178 4 none (rmL 2) [.ref (gA g 21 iq0), .int vq1] M (eV r) M2 :=
  Con.of (own := RJ7) (f := fJ7_fill_53178_21 iq0 vq1 M) (by decide) (Nat.le_of_ble_eq_true rfl) rfl (fun x ok => wJ7_fill_53178_21 ok iq0 vq1 hq0 M) r M2 h
def fX10_count (vq1 : Int32) (M : Mem) : Option (Int32 × Mem) :=
  if vq1 = 0 then
    (some (M 15 0 7, M))
  else
    (if vq1 = 1 then
      (some (M 15 0 8, M))
    else
      (if vq1 = 2 then
        (ob (fX5_total 0 0 36 M) fun r3 M4 =>
        some (r3, M4))
      else
        (if vq1 = 3 then
          (some (M 0 0 8, M))
        else
          (if vq1 = 4 then
            (some (M 15 0 9, M))
          else
            (if vq1 = 5 then
              (some (M 1 0 3, M))
            else
              (some (-2, M)))))))
set_option maxRecDepth 20000 in
theorem wX10_count {g : GP} {l : Launch} {x : CT} (ok : Ok g l x RX10 cX10_count 2 (some FieldType.int) (rmL 3)) (vq1 : Int32)  (M : Mem) : Sw g l x (FinQ g x eI) 2 0 0 0 [(0, .ref (gA g 0 0)), (1, .int vq1)] [] M (fX10_count vq1 M) := by
  unfold fX10_count
  refine r_iload_n (pc := 0) ok 1 dX10_count_0 rfl ?_
  refine r_swc (pc := 1) ok (39) 40 dX10_count_1 (by decide +kernel) (by decide) (fun _ => ?_) (fun hs1 => ?_)
  · refine r_aload_n (pc := 40) ok 0 dX10_count_40 rfl ?_
    refine r_getR (pc := 41) ok fr_0_4 (by decide) fl_X10_61 dX10_count_41 ?_
    refine r_getIN (pc := 44) ok fi_15_7 (by decide) flN_X10_71 dX10_count_44 ?_
    exact r_iret (pc := 47) ok (Nat.zero_le _) (Nat.zero_le _) rfl dX10_count_47
  · refine r_swc (pc := 1) ok (47) 48 dX10_count_1 (by decide +kernel) (by decide) (fun _ => ?_) (fun hs2 => ?_)
    · refine r_aload_n (pc := 48) ok 0 dX10_count_48 rfl ?_
      refine r_getR (pc := 49) ok fr_0_4 (by decide) fl_X10_61 dX10_count_49 ?_
      refine r_getIN (pc := 52) ok fi_15_8 (by decide) flN_X10_74 dX10_count_52 ?_
      exact r_iret (pc := 55) ok (Nat.zero_le _) (Nat.zero_le _) rfl dX10_count_55
    · refine r_swc (pc := 1) ok (55) 56 dX10_count_1 (by decide +kernel) (by decide) (fun _ => ?_) (fun hs5 => ?_)
      · refine r_aload_n (pc := 56) ok 0 dX10_count_56 rfl ?_
        refine r_getR (pc := 57) ok fr_0_4 (by decide) fl_X10_61 dX10_count_57 ?_
        refine r_iconst (pc := 60) ok 0 dX10_count_60 (by decide) ?_
        refine r_bipush (pc := 61) ok 36 dX10_count_61 (by decide) ?_
        refine r_callVN0 (pc := 63) ok [.int 0, .int 36] [] 2 (fun rZ MZ hZ => con_X5_total g l 0 0 36 (by decide) _ rZ MZ hZ) cvN_X10_77 (ok_15 (by decide)) (rmOk_L (by decide) (by decide)) dX10_count_63 rfl rfl (Nat.le_of_ble_eq_true rfl) (fun r3 M4 => ?_)
        exact r_iret (pc := 66) ok (Nat.zero_le _) (Nat.zero_le _) rfl dX10_count_66
      · refine r_swc (pc := 1) ok (66) 67 dX10_count_1 (by decide +kernel) (by decide) (fun _ => ?_) (fun hs6 => ?_)
        · refine r_aload_n (pc := 67) ok 0 dX10_count_67 rfl ?_
          refine r_getI (pc := 68) ok fi_0_8 (by decide) fl_X10_41 dX10_count_68 ?_
          exact r_iret (pc := 71) ok (Nat.zero_le _) (Nat.zero_le _) rfl dX10_count_71
        · refine r_swc (pc := 1) ok (71) 72 dX10_count_1 (by decide +kernel) (by decide) (fun _ => ?_) (fun hs7 => ?_)
          · refine r_aload_n (pc := 72) ok 0 dX10_count_72 rfl ?_
            refine r_getR (pc := 73) ok fr_0_4 (by decide) fl_X10_61 dX10_count_73 ?_
            refine r_getIN (pc := 76) ok fi_15_9 (by decide) flN_X10_81 dX10_count_76 ?_
            exact r_iret (pc := 79) ok (Nat.zero_le _) (Nat.zero_le _) rfl dX10_count_79
          · refine r_swc (pc := 1) ok (79) 80 dX10_count_1 (by decide +kernel) (by decide) (fun _ => ?_) (fun hs8 => ?_)
            · refine r_aload_n (pc := 80) ok 0 dX10_count_80 rfl ?_
              refine r_getR (pc := 81) ok fr_0_0 (by decide) fl_X10_33 dX10_count_81 ?_
              refine r_getIN (pc := 84) ok fi_1_3 (by decide) flN_X10_84 dX10_count_84 ?_
              exact r_iret (pc := 87) ok (Nat.zero_le _) (Nat.zero_le _) rfl dX10_count_87
            · refine r_swd (pc := 1) ok 88 dX10_count_1 (by have := lv_neT hs1 (by decide : (0 : Int32).toInt = 0) ; have := lv_neT hs2 (by decide : (1 : Int32).toInt = 1) ; have := lv_neT hs5 (by decide : (2 : Int32).toInt = 2) ; have := lv_neT hs6 (by decide : (3 : Int32).toInt = 3) ; have := lv_neT hs7 (by decide : (4 : Int32).toInt = 4) ; have := lv_neT hs8 (by decide : (5 : Int32).toInt = 5) ; omega) (by decide) ?_
              refine r_bipush (pc := 88) ok (-2) dX10_count_88 (by decide) ?_
              exact r_iret (pc := 90) ok (Nat.zero_le _) (Nat.zero_le _) rfl dX10_count_90
theorem con_X10_count (g : GP) (l : Launch) (vq1 : Int32)  (M : Mem) (r : Int32) (M2 : Mem) (h : fX10_count vq1 M = some (r, M2)) : Con g l yX10_count cX10_count 2 (some FieldType.int) (rmL 3) [.ref (gA g 0 0), .int vq1] M (eI r) M2 :=
  Con.of (own := RX10) (f := fX10_count vq1 M) (by decide) (Nat.le_of_ble_eq_true rfl) rfl (fun x ok => wX10_count ok vq1  M) r M2 h
def fX10_force (vq1 : Int32) (M : Mem) : Option (Int32 × Mem) :=
  ob (fX10_within vq1 0 ((M 0 0 8) - 1) M) fun r1 M2 =>
  if r1 = 0 then
    (some (-2, M2))
  else
    (lt (M2 15 0 9) fun w3 =>
    lt (mst M2 15 0 9 vq1) fun M4 =>
    some (w3, M4))
set_option maxRecDepth 20000 in
theorem wX10_force {g : GP} {l : Launch} {x : CT} (ok : Ok g l x RX10 cX10_force 3 (some FieldType.int) (rmL 3)) (vq1 : Int32)  (M : Mem) : Sw g l x (FinQ g x eI) 3 0 0 0 [(0, .ref (gA g 0 0)), (1, .int vq1)] [] M (fX10_force vq1 M) := by
  unfold fX10_force
  refine r_iload_n (pc := 0) ok 1 dX10_force_0 rfl ?_
  refine r_iconst (pc := 1) ok 0 dX10_force_1 (by decide) ?_
  refine r_aload_n (pc := 2) ok 0 dX10_force_2 rfl ?_
  refine r_getI (pc := 3) ok fi_0_8 (by decide) fl_X10_41 dX10_force_3 ?_
  refine r_iconst (pc := 6) ok 1 dX10_force_6 (by decide) ?_
  refine r_isub (pc := 7) ok dX10_force_7 ?_
  refine r_callS0 (pc := 8) ok [.int vq1, .int 0, .int ((M 0 0 8) - 1)] [] 2 (fun rZ MZ hZ => con_X10_within g l vq1 0 ((M 0 0 8) - 1) _ rZ MZ hZ) cs_X10_91 (rmOk_L (by decide) (by decide)) dX10_force_8 rfl rfl (Nat.le_of_ble_eq_true rfl) (fun r1 M2 => ?_)
  refine r_if_ne (pc := 11) ok 17 dX10_force_11 (by decide) (fun _ => ?_) (fun _ => ?_)
  · refine r_bipush (pc := 14) ok (-2) dX10_force_14 (by decide) ?_
    exact r_iret (pc := 16) ok (Nat.zero_le _) (Nat.zero_le _) rfl dX10_force_16
  · refine r_aload_n (pc := 17) ok 0 dX10_force_17 rfl ?_
    refine r_getR (pc := 18) ok fr_0_4 (by decide) fl_X10_61 dX10_force_18 ?_
    refine r_getIN (pc := 21) ok fi_15_9 (by decide) flN_X10_81 dX10_force_21 ?_
    refine r_nmi (fun w3 => ?_)
    refine r_istore_n (pc := 24) ok [(2, .int w3), (0, .ref (gA g 0 0)), (1, .int vq1)] dX10_force_24 rfl (by decide) rfl ?_
    refine r_aload_n (pc := 25) ok 1 dX10_force_25 rfl ?_
    refine r_getR (pc := 26) ok fr_0_4 (by decide) fl_X10_61 dX10_force_26 ?_
    refine r_iload_n (pc := 29) ok 2 dX10_force_29 rfl ?_
    refine r_putIN (pc := 30) ok fi_15_9 (by decide) flN_X10_81 fp_15_9 ⟨rfl, rfl⟩ dX10_force_30 ?_
    refine r_nmM (fun M4 => ?_)
    refine r_iload_n (pc := 33) ok 0 dX10_force_33 rfl ?_
    exact r_iret (pc := 34) ok (Nat.zero_le _) (Nat.zero_le _) rfl dX10_force_34
theorem con_X10_force (g : GP) (l : Launch) (vq1 : Int32)  (M : Mem) (r : Int32) (M2 : Mem) (h : fX10_force vq1 M = some (r, M2)) : Con g l yX10_force cX10_force 3 (some FieldType.int) (rmL 3) [.ref (gA g 0 0), .int vq1] M (eI r) M2 :=
  Con.of (own := RX10) (f := fX10_force vq1 M) (by decide) (Nat.le_of_ble_eq_true rfl) rfl (fun x ok => wX10_force ok vq1  M) r M2 h
def fX10_person (vq1 : Int32) (vq2 : Int32) (M : Mem) : Option (Int32 × Mem) :=
  ob (fX10_within vq1 0 59 M) fun r1 M2 =>
  if r1 = 0 then
    (some (-2, M2))
  else
    (ob (fX10_within vq2 0 3599 M2) fun r3 M4 =>
    if r3 = 0 then
      (some (-2, M4))
    else
      (ob (fX5_admit 0 vq1 vq2 M4) fun r5 M6 =>
      some (r5, M6)))
set_option maxRecDepth 20000 in
theorem wX10_person {g : GP} {l : Launch} {x : CT} (ok : Ok g l x RX10 cX10_person 3 (some FieldType.int) (rmL 3)) (vq1 : Int32) (vq2 : Int32)  (M : Mem) : Sw g l x (FinQ g x eI) 3 0 0 0 [(0, .ref (gA g 0 0)), (1, .int vq1), (2, .int vq2)] [] M (fX10_person vq1 vq2 M) := by
  unfold fX10_person
  refine r_iload_n (pc := 0) ok 1 dX10_person_0 rfl ?_
  refine r_iconst (pc := 1) ok 0 dX10_person_1 (by decide) ?_
  refine r_bipush (pc := 2) ok 59 dX10_person_2 (by decide) ?_
  refine r_callS0 (pc := 4) ok [.int vq1, .int 0, .int 59] [] 2 (fun rZ MZ hZ => con_X10_within g l vq1 0 59 _ rZ MZ hZ) cs_X10_91 (rmOk_L (by decide) (by decide)) dX10_person_4 rfl rfl (Nat.le_of_ble_eq_true rfl) (fun r1 M2 => ?_)
  refine r_if_eq (pc := 7) ok 21 dX10_person_7 (by decide) (fun _ => ?_) (fun _ => ?_)
  · refine r_bipush (pc := 21) ok (-2) dX10_person_21 (by decide) ?_
    exact r_iret (pc := 23) ok (Nat.zero_le _) (Nat.zero_le _) rfl dX10_person_23
  · refine r_iload_n (pc := 10) ok 2 dX10_person_10 rfl ?_
    refine r_iconst (pc := 11) ok 0 dX10_person_11 (by decide) ?_
    refine r_sipush (pc := 12) ok 3599 dX10_person_12 (by decide) ?_
    refine r_callS0 (pc := 15) ok [.int vq2, .int 0, .int 3599] [] 2 (fun rZ MZ hZ => con_X10_within g l vq2 0 3599 _ rZ MZ hZ) cs_X10_91 (rmOk_L (by decide) (by decide)) dX10_person_15 rfl rfl (Nat.le_of_ble_eq_true rfl) (fun r3 M4 => ?_)
    refine r_if_ne (pc := 18) ok 24 dX10_person_18 (by decide) (fun _ => ?_) (fun _ => ?_)
    · refine r_bipush (pc := 21) ok (-2) dX10_person_21 (by decide) ?_
      exact r_iret (pc := 23) ok (Nat.zero_le _) (Nat.zero_le _) rfl dX10_person_23
    · refine r_aload_n (pc := 24) ok 0 dX10_person_24 rfl ?_
      refine r_getR (pc := 25) ok fr_0_4 (by decide) fl_X10_61 dX10_person_25 ?_
      refine r_iload_n (pc := 28) ok 1 dX10_person_28 rfl ?_
      refine r_iload_n (pc := 29) ok 2 dX10_person_29 rfl ?_
      refine r_callVN0 (pc := 30) ok [.int vq1, .int vq2] [] 2 (fun rZ MZ hZ => con_X5_admit g l 0 vq1 vq2 (by decide) _ rZ MZ hZ) cvN_X10_124 (ok_15 (by decide)) (rmOk_L (by decide) (by decide)) dX10_person_30 rfl rfl (Nat.le_of_ble_eq_true rfl) (fun r5 M6 => ?_)
      exact r_iret (pc := 33) ok (Nat.zero_le _) (Nat.zero_le _) rfl dX10_person_33
theorem con_X10_person (g : GP) (l : Launch) (vq1 : Int32) (vq2 : Int32)  (M : Mem) (r : Int32) (M2 : Mem) (h : fX10_person vq1 vq2 M = some (r, M2)) : Con g l yX10_person cX10_person 3 (some FieldType.int) (rmL 3) [.ref (gA g 0 0), .int vq1, .int vq2] M (eI r) M2 :=
  Con.of (own := RX10) (f := fX10_person vq1 vq2 M) (by decide) (Nat.le_of_ble_eq_true rfl) rfl (fun x ok => wX10_person ok vq1 vq2  M) r M2 h
def fX10_share (vq1 : Int32) (vq2 : Int32) (M : Mem) : Option (Int64 × Mem) :=
  ob (fX5_total 0 0 36 M) fun r1 M2 =>
  ob (fX10_within vq1 0 5 M2) fun r3 M4 =>
  if r3 = 0 then
    (some (-4611686018427387904, M4))
  else
    (ob (fX10_within vq2 0 1 M4) fun r5 M6 =>
    if r5 = 0 then
      (some (-4611686018427387904, M6))
    else
      (if r1 = 0 then
        (some (-4611686018427387904, M6))
      else
        (ob (fX5_total 0 (vq1 * 6) ((vq1 * 6) + 6) M6) fun r7 M8 =>
        ob (fX10_lowest r7 r1 vq2 M8) fun r9 M10 =>
        some (r9, M10))))
set_option maxRecDepth 20000 in
theorem wX10_share {g : GP} {l : Launch} {x : CT} (ok : Ok g l x RX10 cX10_share 4 (some FieldType.long) (rmL 3)) (vq1 : Int32) (vq2 : Int32)  (M : Mem) : Sw g l x (FinQ g x eJ) 4 0 0 0 [(0, .ref (gA g 0 0)), (1, .int vq1), (2, .int vq2)] [] M (fX10_share vq1 vq2 M) := by
  unfold fX10_share
  refine r_aload_n (pc := 0) ok 0 dX10_share_0 rfl ?_
  refine r_getR (pc := 1) ok fr_0_4 (by decide) fl_X10_61 dX10_share_1 ?_
  refine r_iconst (pc := 4) ok 0 dX10_share_4 (by decide) ?_
  refine r_bipush (pc := 5) ok 36 dX10_share_5 (by decide) ?_
  refine r_callVN0 (pc := 7) ok [.int 0, .int 36] [] 2 (fun rZ MZ hZ => con_X5_total g l 0 0 36 (by decide) _ rZ MZ hZ) cvN_X10_77 (ok_15 (by decide)) (rmOk_L (by decide) (by decide)) dX10_share_7 rfl rfl (Nat.le_of_ble_eq_true rfl) (fun r1 M2 => ?_)
  refine r_istore_n (pc := 10) ok [(3, .int r1), (0, .ref (gA g 0 0)), (1, .int vq1), (2, .int vq2)] dX10_share_10 rfl (by decide) rfl ?_
  refine r_iload_n (pc := 11) ok 2 dX10_share_11 rfl ?_
  refine r_iconst (pc := 12) ok 0 dX10_share_12 (by decide) ?_
  refine r_iconst (pc := 13) ok 5 dX10_share_13 (by decide) ?_
  refine r_callS0 (pc := 14) ok [.int vq1, .int 0, .int 5] [] 2 (fun rZ MZ hZ => con_X10_within g l vq1 0 5 _ rZ MZ hZ) cs_X10_91 (rmOk_L (by decide) (by decide)) dX10_share_14 rfl rfl (Nat.le_of_ble_eq_true rfl) (fun r3 M4 => ?_)
  refine r_if_eq (pc := 17) ok 33 dX10_share_17 (by decide) (fun _ => ?_) (fun _ => ?_)
  · refine r_ldc2 (pc := 33) ok wcl_X10_169 dX10_share_33 ?_
    exact r_lret (pc := 36) ok (Nat.zero_le _) (Nat.zero_le _) rfl dX10_share_36
  · refine r_iload_n (pc := 20) ok 3 dX10_share_20 rfl ?_
    refine r_iconst (pc := 21) ok 0 dX10_share_21 (by decide) ?_
    refine r_iconst (pc := 22) ok 1 dX10_share_22 (by decide) ?_
    refine r_callS0 (pc := 23) ok [.int vq2, .int 0, .int 1] [] 2 (fun rZ MZ hZ => con_X10_within g l vq2 0 1 _ rZ MZ hZ) cs_X10_91 (rmOk_L (by decide) (by decide)) dX10_share_23 rfl rfl (Nat.le_of_ble_eq_true rfl) (fun r5 M6 => ?_)
    refine r_if_eq (pc := 26) ok 33 dX10_share_26 (by decide) (fun _ => ?_) (fun _ => ?_)
    · refine r_ldc2 (pc := 33) ok wcl_X10_169 dX10_share_33 ?_
      exact r_lret (pc := 36) ok (Nat.zero_le _) (Nat.zero_le _) rfl dX10_share_36
    · refine r_iload_n (pc := 29) ok 0 dX10_share_29 rfl ?_
      refine r_if_ne (pc := 30) ok 37 dX10_share_30 (by decide) (fun _ => ?_) (fun _ => ?_)
      · refine r_ldc2 (pc := 33) ok wcl_X10_169 dX10_share_33 ?_
        exact r_lret (pc := 36) ok (Nat.zero_le _) (Nat.zero_le _) rfl dX10_share_36
      · refine r_aload_n (pc := 37) ok 1 dX10_share_37 rfl ?_
        refine r_getR (pc := 38) ok fr_0_4 (by decide) fl_X10_61 dX10_share_38 ?_
        refine r_iload_n (pc := 41) ok 2 dX10_share_41 rfl ?_
        refine r_bipush (pc := 42) ok 6 dX10_share_42 (by decide) ?_
        refine r_imul (pc := 44) ok dX10_share_44 ?_
        refine r_iload_n (pc := 45) ok 2 dX10_share_45 rfl ?_
        refine r_bipush (pc := 46) ok 6 dX10_share_46 (by decide) ?_
        refine r_imul (pc := 48) ok dX10_share_48 ?_
        refine r_bipush (pc := 49) ok 6 dX10_share_49 (by decide) ?_
        refine r_iadd (pc := 51) ok dX10_share_51 ?_
        refine r_callVN0 (pc := 52) ok [.int (vq1 * 6), .int ((vq1 * 6) + 6)] [] 2 (fun rZ MZ hZ => con_X5_total g l 0 (vq1 * 6) ((vq1 * 6) + 6) (by decide) _ rZ MZ hZ) cvN_X10_77 (ok_15 (by decide)) (rmOk_L (by decide) (by decide)) dX10_share_52 rfl rfl (Nat.le_of_ble_eq_true rfl) (fun r7 M8 => ?_)
        refine r_iload_n (pc := 55) ok 0 dX10_share_55 rfl ?_
        refine r_iload_n (pc := 56) ok 3 dX10_share_56 rfl ?_
        refine r_callS0 (pc := 57) ok [.int r7, .int r1, .int vq2] [] 2 (fun rZ MZ hZ => con_X10_lowest g l r7 r1 vq2 _ rZ MZ hZ) cs_X10_236 (rmOk_L (by decide) (by decide)) dX10_share_57 rfl rfl (Nat.le_of_ble_eq_true rfl) (fun r9 M10 => ?_)
        exact r_lret (pc := 60) ok (Nat.zero_le _) (Nat.zero_le _) rfl dX10_share_60
theorem con_X10_share (g : GP) (l : Launch) (vq1 : Int32) (vq2 : Int32)  (M : Mem) (r : Int64) (M2 : Mem) (h : fX10_share vq1 vq2 M = some (r, M2)) : Con g l yX10_share cX10_share 4 (some FieldType.long) (rmL 3) [.ref (gA g 0 0), .int vq1, .int vq2] M (eJ r) M2 :=
  Con.of (own := RX10) (f := fX10_share vq1 vq2 M) (by decide) (Nat.le_of_ble_eq_true rfl) rfl (fun x ok => wX10_share ok vq1 vq2  M) r M2 h
def fX10_image  (M : Mem) : Option (Int32 × Mem) :=
  ob (fX5_takeFrom 2 0 M) fun r1 M2 =>
  lt (mst M2 0 0 7 1) fun M3 =>
  some (M3 15 0 7, M3)
set_option maxRecDepth 20000 in
theorem wX10_image {g : GP} {l : Launch} {x : CT} (ok : Ok g l x RX10 cX10_image 1 (some FieldType.int) (rmL 3))   (M : Mem) : Sw g l x (FinQ g x eI) 1 0 0 0 [(0, .ref (gA g 0 0))] [] M (fX10_image  M) := by
  unfold fX10_image
  refine r_aload_n (pc := 0) ok 0 dX10_image_0 rfl ?_
  refine r_getR (pc := 1) ok fr_0_6 (by decide) fl_X10_68 dX10_image_1 ?_
  refine r_aload_n (pc := 4) ok 0 dX10_image_4 rfl ?_
  refine r_getR (pc := 5) ok fr_0_4 (by decide) fl_X10_61 dX10_image_5 ?_
  refine r_callVN0 (pc := 8) ok [.ref (gA g 15 0)] [] 2 (fun rZ MZ hZ => con_X5_takeFrom g l 2 0 (by decide) (by decide) _ rZ MZ hZ) cvN_X10_141 (ok_15 (by decide)) (rmOk_L (by decide) (by decide)) dX10_image_8 rfl rfl (Nat.le_of_ble_eq_true rfl) (fun r1 M2 => ?_)
  refine r_aload_n (pc := 11) ok 0 dX10_image_11 rfl ?_
  refine r_iconst (pc := 12) ok 1 dX10_image_12 (by decide) ?_
  refine r_putI (pc := 13) ok fi_0_7 (by decide) fl_X10_240 fp_0_7 ⟨rfl, rfl⟩ dX10_image_13 ?_
  refine r_nmM (fun M3 => ?_)
  refine r_aload_n (pc := 16) ok 0 dX10_image_16 rfl ?_
  refine r_getR (pc := 17) ok fr_0_4 (by decide) fl_X10_61 dX10_image_17 ?_
  refine r_getIN (pc := 20) ok fi_15_7 (by decide) flN_X10_71 dX10_image_20 ?_
  exact r_iret (pc := 23) ok (Nat.zero_le _) (Nat.zero_le _) rfl dX10_image_23
theorem con_X10_image (g : GP) (l : Launch)   (M : Mem) (r : Int32) (M2 : Mem) (h : fX10_image  M = some (r, M2)) : Con g l yX10_image cX10_image 1 (some FieldType.int) (rmL 3) [.ref (gA g 0 0)] M (eI r) M2 :=
  Con.of (own := RX10) (f := fX10_image  M) (by decide) (Nat.le_of_ble_eq_true rfl) rfl (fun x ok => wX10_image ok   M) r M2 h
def fX10_back  (M : Mem) : Option (Int32 × Mem) :=
  if (M 0 0 7) = 0 then
    (some (-3, M))
  else
    (ob (fX5_takeFrom 0 2 M) fun r1 M2 =>
    some (M2 15 0 7, M2))
set_option maxRecDepth 20000 in
theorem wX10_back {g : GP} {l : Launch} {x : CT} (ok : Ok g l x RX10 cX10_back 1 (some FieldType.int) (rmL 3))   (M : Mem) : Sw g l x (FinQ g x eI) 1 0 0 0 [(0, .ref (gA g 0 0))] [] M (fX10_back  M) := by
  unfold fX10_back
  refine r_aload_n (pc := 0) ok 0 dX10_back_0 rfl ?_
  refine r_getI (pc := 1) ok fi_0_7 (by decide) fl_X10_240 dX10_back_1 ?_
  refine r_if_ne (pc := 4) ok 10 dX10_back_4 (by decide) (fun _ => ?_) (fun _ => ?_)
  · refine r_bipush (pc := 7) ok (-3) dX10_back_7 (by decide) ?_
    exact r_iret (pc := 9) ok (Nat.zero_le _) (Nat.zero_le _) rfl dX10_back_9
  · refine r_aload_n (pc := 10) ok 0 dX10_back_10 rfl ?_
    refine r_getR (pc := 11) ok fr_0_4 (by decide) fl_X10_61 dX10_back_11 ?_
    refine r_aload_n (pc := 14) ok 0 dX10_back_14 rfl ?_
    refine r_getR (pc := 15) ok fr_0_6 (by decide) fl_X10_68 dX10_back_15 ?_
    refine r_callVN0 (pc := 18) ok [.ref (gA g 15 2)] [] 2 (fun rZ MZ hZ => con_X5_takeFrom g l 0 2 (by decide) (by decide) _ rZ MZ hZ) cvN_X10_141 (ok_15 (by decide)) (rmOk_L (by decide) (by decide)) dX10_back_18 rfl rfl (Nat.le_of_ble_eq_true rfl) (fun r1 M2 => ?_)
    refine r_aload_n (pc := 21) ok 0 dX10_back_21 rfl ?_
    refine r_getR (pc := 22) ok fr_0_4 (by decide) fl_X10_61 dX10_back_22 ?_
    refine r_getIN (pc := 25) ok fi_15_7 (by decide) flN_X10_71 dX10_back_25 ?_
    exact r_iret (pc := 28) ok (Nat.zero_le _) (Nat.zero_le _) rfl dX10_back_28
theorem con_X10_back (g : GP) (l : Launch)   (M : Mem) (r : Int32) (M2 : Mem) (h : fX10_back  M = some (r, M2)) : Con g l yX10_back cX10_back 1 (some FieldType.int) (rmL 3) [.ref (gA g 0 0)] M (eI r) M2 :=
  Con.of (own := RX10) (f := fX10_back  M) (by decide) (Nat.le_of_ble_eq_true rfl) rfl (fun x ok => wX10_back ok   M) r M2 h
def fX10_isCell (vq0 : Int32) (M : Mem) : Option (Int32 × Mem) :=
  ob (fX10_within vq0 0 35 M) fun r1 M2 =>
  gd (isB r1) (some (r1, M2))
set_option maxRecDepth 20000 in
theorem wX10_isCell {g : GP} {l : Launch} {x : CT} (ok : Ok g l x RX10 cX10_isCell 1 (some FieldType.boolean) (rmL 3)) (vq0 : Int32)  (M : Mem) : Sw g l x (FinQ g x eI) 1 0 0 0 [(0, .int vq0)] [] M (fX10_isCell vq0 M) := by
  unfold fX10_isCell
  refine r_iload_n (pc := 0) ok 0 dX10_isCell_0 rfl ?_
  refine r_iconst (pc := 1) ok 0 dX10_isCell_1 (by decide) ?_
  refine r_bipush (pc := 2) ok 35 dX10_isCell_2 (by decide) ?_
  refine r_callS0 (pc := 4) ok [.int vq0, .int 0, .int 35] [] 2 (fun rZ MZ hZ => con_X10_within g l vq0 0 35 _ rZ MZ hZ) cs_X10_91 (rmOk_L (by decide) (by decide)) dX10_isCell_4 rfl rfl (Nat.le_of_ble_eq_true rfl) (fun r1 M2 => ?_)
  refine r_gd (fun hz3 => ?_)
  exact r_zret (pc := 7) ok (Nat.zero_le _) (Nat.zero_le _) (isB_of hz3) rfl dX10_isCell_7
theorem con_X10_isCell (g : GP) (l : Launch) (vq0 : Int32)  (M : Mem) (r : Int32) (M2 : Mem) (h : fX10_isCell vq0 M = some (r, M2)) : Con g l yX10_isCell cX10_isCell 1 (some FieldType.boolean) (rmL 3) [.int vq0] M (eI r) M2 :=
  Con.of (own := RX10) (f := fX10_isCell vq0 M) (by decide) (Nat.le_of_ble_eq_true rfl) rfl (fun x ok => wX10_isCell ok vq0  M) r M2 h
def fX10_isSheet (vq0 : Int32) (M : Mem) : Option (Int32 × Mem) :=
  ob (fX10_within vq0 0 3 M) fun r1 M2 =>
  gd (isB r1) (some (r1, M2))
set_option maxRecDepth 20000 in
theorem wX10_isSheet {g : GP} {l : Launch} {x : CT} (ok : Ok g l x RX10 cX10_isSheet 1 (some FieldType.boolean) (rmL 3)) (vq0 : Int32)  (M : Mem) : Sw g l x (FinQ g x eI) 1 0 0 0 [(0, .int vq0)] [] M (fX10_isSheet vq0 M) := by
  unfold fX10_isSheet
  refine r_iload_n (pc := 0) ok 0 dX10_isSheet_0 rfl ?_
  refine r_iconst (pc := 1) ok 0 dX10_isSheet_1 (by decide) ?_
  refine r_iconst (pc := 2) ok 3 dX10_isSheet_2 (by decide) ?_
  refine r_callS0 (pc := 3) ok [.int vq0, .int 0, .int 3] [] 2 (fun rZ MZ hZ => con_X10_within g l vq0 0 3 _ rZ MZ hZ) cs_X10_91 (rmOk_L (by decide) (by decide)) dX10_isSheet_3 rfl rfl (Nat.le_of_ble_eq_true rfl) (fun r1 M2 => ?_)
  refine r_gd (fun hz3 => ?_)
  exact r_zret (pc := 6) ok (Nat.zero_le _) (Nat.zero_le _) (isB_of hz3) rfl dX10_isSheet_6
theorem con_X10_isSheet (g : GP) (l : Launch) (vq0 : Int32)  (M : Mem) (r : Int32) (M2 : Mem) (h : fX10_isSheet vq0 M = some (r, M2)) : Con g l yX10_isSheet cX10_isSheet 1 (some FieldType.boolean) (rmL 3) [.int vq0] M (eI r) M2 :=
  Con.of (own := RX10) (f := fX10_isSheet vq0 M) (by decide) (Nat.le_of_ble_eq_true rfl) rfl (fun x ok => wX10_isSheet ok vq0  M) r M2 h
def fX10_isByte (vq0 : Int32) (M : Mem) : Option (Int32 × Mem) :=
  ob (fX10_within vq0 0 255 M) fun r1 M2 =>
  gd (isB r1) (some (r1, M2))
set_option maxRecDepth 20000 in
theorem wX10_isByte {g : GP} {l : Launch} {x : CT} (ok : Ok g l x RX10 cX10_isByte 1 (some FieldType.boolean) (rmL 3)) (vq0 : Int32)  (M : Mem) : Sw g l x (FinQ g x eI) 1 0 0 0 [(0, .int vq0)] [] M (fX10_isByte vq0 M) := by
  unfold fX10_isByte
  refine r_iload_n (pc := 0) ok 0 dX10_isByte_0 rfl ?_
  refine r_iconst (pc := 1) ok 0 dX10_isByte_1 (by decide) ?_
  refine r_sipush (pc := 2) ok 255 dX10_isByte_2 (by decide) ?_
  refine r_callS0 (pc := 5) ok [.int vq0, .int 0, .int 255] [] 2 (fun rZ MZ hZ => con_X10_within g l vq0 0 255 _ rZ MZ hZ) cs_X10_91 (rmOk_L (by decide) (by decide)) dX10_isByte_5 rfl rfl (Nat.le_of_ble_eq_true rfl) (fun r1 M2 => ?_)
  refine r_gd (fun hz3 => ?_)
  exact r_zret (pc := 8) ok (Nat.zero_le _) (Nat.zero_le _) (isB_of hz3) rfl dX10_isByte_8
theorem con_X10_isByte (g : GP) (l : Launch) (vq0 : Int32)  (M : Mem) (r : Int32) (M2 : Mem) (h : fX10_isByte vq0 M = some (r, M2)) : Con g l yX10_isByte cX10_isByte 1 (some FieldType.boolean) (rmL 3) [.int vq0] M (eI r) M2 :=
  Con.of (own := RX10) (f := fX10_isByte vq0 M) (by decide) (Nat.le_of_ble_eq_true rfl) rfl (fun x ok => wX10_isByte ok vq0  M) r M2 h
def fX10_suppose (vq1 : Int32) (vq2 : Int32) (vq3 : Int32) (M : Mem) : Option (Unit × Mem) :=
  ob (fX5_takeFrom 1 0 M) fun r1 M2 =>
  gd (inb vq2 4)
  (gd (inb vq1 6)
  (lt (mst M2 18 (4 * 1 + vq2.toNatClampNeg) vq1.toNatClampNeg vq3) fun M4 =>
  some ((), M4)))
set_option maxRecDepth 20000 in
theorem wX10_suppose {g : GP} {l : Launch} {x : CT} (ok : Ok g l x RX10 cX10_suppose 4 none (rmL 3)) (vq1 : Int32) (vq2 : Int32) (vq3 : Int32)  (M : Mem) : Sw g l x (FinQ g x eV) 4 0 0 0 [(0, .ref (gA g 0 0)), (1, .int vq1), (2, .int vq2), (3, .int vq3)] [] M (fX10_suppose vq1 vq2 vq3 M) := by
  unfold fX10_suppose
  refine r_aload_n (pc := 0) ok 0 dX10_suppose_0 rfl ?_
  refine r_getR (pc := 1) ok fr_0_5 (by decide) fl_X10_65 dX10_suppose_1 ?_
  refine r_aload_n (pc := 4) ok 0 dX10_suppose_4 rfl ?_
  refine r_getR (pc := 5) ok fr_0_4 (by decide) fl_X10_61 dX10_suppose_5 ?_
  refine r_callVN0 (pc := 8) ok [.ref (gA g 15 0)] [] 2 (fun rZ MZ hZ => con_X5_takeFrom g l 1 0 (by decide) (by decide) _ rZ MZ hZ) cvN_X10_141 (ok_15 (by decide)) (rmOk_L (by decide) (by decide)) dX10_suppose_8 rfl rfl (Nat.le_of_ble_eq_true rfl) (fun r1 M2 => ?_)
  refine r_aload_n (pc := 11) ok 0 dX10_suppose_11 rfl ?_
  refine r_getR (pc := 12) ok fr_0_5 (by decide) fl_X10_65 dX10_suppose_12 ?_
  refine r_getRN (pc := 15) ok fr_15_3 (by decide) flN_X10_127 dX10_suppose_15 ?_
  refine r_iload_n (pc := 18) ok 2 dX10_suppose_18 rfl ?_
  refine r_aald (pc := 19) ok rk_17 (by decide) rfl rfl dX10_suppose_19 (fun hb3 => ?_)
  refine r_iload_n (pc := 20) ok 1 dX10_suppose_20 rfl ?_
  refine r_iload_n (pc := 21) ok 3 dX10_suppose_21 rfl ?_
  refine r_iast (pc := 22) ok ik_18 (show _ < 12 from trow_lt (by decide) hb3) dX10_suppose_22 ?_
  refine r_nmM (fun M4 => ?_)
  exact r_vret (pc := 23) ok (Nat.zero_le _) (Nat.zero_le _) rfl dX10_suppose_23
theorem con_X10_suppose (g : GP) (l : Launch) (vq1 : Int32) (vq2 : Int32) (vq3 : Int32)  (M : Mem) (r : Unit) (M2 : Mem) (h : fX10_suppose vq1 vq2 vq3 M = some (r, M2)) : Con g l yX10_suppose cX10_suppose 4 none (rmL 3) [.ref (gA g 0 0), .int vq1, .int vq2, .int vq3] M (eV r) M2 :=
  Con.of (own := RX10) (f := fX10_suppose vq1 vq2 vq3 M) (by decide) (Nat.le_of_ble_eq_true rfl) rfl (fun x ok => wX10_suppose ok vq1 vq2 vq3  M) r M2 h
def fX10_spread_B8 (vq2 : Int64) (k8 : Int64 → Int32 → Mem → Option (Int64 × Mem)) (vq4 : Int64) (vq6 : Int32) (M : Mem) : Option (Int64 × Mem) :=
  if 36 ≤ vq6 then
    (some (vq4, M))
  else
    (ob (fX10_grown vq4 M) fun r2 M3 =>
    lt (r2 &&& vq2) fun w4 =>
    k8 w4 (vq6 + 1) M3)
def fX10_spread_L8 (vq2 : Int64) : Nat → Int64 → Int32 → Mem → Option (Int64 × Mem)
  | 0, _, _, _ => none
  | n + 1, vq4, vq6, M => fX10_spread_B8 vq2 (fX10_spread_L8 vq2 n) vq4 vq6 M
set_option maxRecDepth 20000 in
theorem sX10_spread_B8 {g : GP} {l : Launch} {x : CT} (ok : Ok g l x RX10 cX10_spread 7 (some FieldType.long) (rmL 3)) (vq2 : Int64)  (k8 : Int64 → Int32 → Mem → Option (Int64 × Mem)) (hk8 : ∀ (vq4 : Int64) (vq6 : Int32) (M : Mem), Sw g l x (FinQ g x eJ) 7 0 0 8 [(2, .long vq2), (4, .long vq4), (6, .int vq6)] [] M (k8 vq4 vq6 M)) (vq4 : Int64) (vq6 : Int32) (M : Mem) : Sw g l x (FinQ g x eJ) 7 0 0 8 [(2, .long vq2), (4, .long vq4), (6, .int vq6)] [] M (fX10_spread_B8 vq2 k8 vq4 vq6 M) := by
  unfold fX10_spread_B8
  refine r_iload (pc := 8) ok 2 dX10_spread_8 rfl ?_
  refine r_bipush (pc := 10) ok 36 dX10_spread_10 (by decide) ?_
  refine r_icmp_ge (pc := 12) ok 30 dX10_spread_12 (by decide) (fun _ => ?_) (fun _ => ?_)
  · refine r_lload (pc := 30) ok 1 dX10_spread_30 rfl ?_
    exact r_lret (pc := 32) ok (Nat.zero_le _) (Nat.zero_le _) rfl dX10_spread_32
  · refine r_lload (pc := 15) ok 1 dX10_spread_15 rfl ?_
    refine r_callS0 (pc := 17) ok [.long vq4] [] 2 (fun rZ MZ hZ => con_X10_grown g l vq4 _ rZ MZ hZ) cs_X10_281 (rmOk_L (by decide) (by decide)) dX10_spread_17 rfl rfl (Nat.le_of_ble_eq_true rfl) (fun r2 M3 => ?_)
    refine r_lload_n (pc := 20) ok 0 dX10_spread_20 rfl ?_
    refine r_land (pc := 21) ok dX10_spread_21 ?_
    refine r_nml (fun w4 => ?_)
    refine r_lstore (pc := 22) ok [(4, .long w4), (2, .long vq2), (6, .int vq6)] dX10_spread_22 (by decide) rfl ?_
    refine r_iinc (pc := 24) ok 2 (vq6 + 1) [(6, .int (vq6 + 1)), (4, .long w4), (2, .long vq2)] dX10_spread_24 rfl (congrArg (fun z => vq6 + z) (by decide : Int32.ofInt 1 = (1 : Int32))) (by decide) rfl ?_
    refine r_goto (pc := 27) ok 8 dX10_spread_27 (by decide) ?_
    refine r_lv [2, 1, 0] [(2, .long vq2), (4, .long w4), (6, .int (vq6 + 1))] rfl ?_
    exact hk8 w4 (vq6 + 1) M3
theorem sX10_spread_L8 {g : GP} {l : Launch} {x : CT} (ok : Ok g l x RX10 cX10_spread 7 (some FieldType.long) (rmL 3)) (vq2 : Int64)  : ∀ (n : Nat) (vq4 : Int64) (vq6 : Int32) (M : Mem), Sw g l x (FinQ g x eJ) 7 0 0 8 [(2, .long vq2), (4, .long vq4), (6, .int vq6)] [] M (fX10_spread_L8 vq2 n vq4 vq6 M) := by
  intro n
  induction n with
  | zero => intros; exact r_none
  | succ n ih => intro vq4 vq6 M; exact sX10_spread_B8 ok vq2  _ ih vq4 vq6 M
def fX10_spread (vq0 : Int64) (vq2 : Int64) (M : Mem) : Option (Int64 × Mem) :=
  lt (vq0 &&& vq2) fun w1 =>
  fX10_spread_L8 vq2 FU w1 0 M
set_option maxRecDepth 20000 in
theorem wX10_spread {g : GP} {l : Launch} {x : CT} (ok : Ok g l x RX10 cX10_spread 7 (some FieldType.long) (rmL 3)) (vq0 : Int64) (vq2 : Int64)  (M : Mem) : Sw g l x (FinQ g x eJ) 7 0 0 0 [(0, .long vq0), (2, .long vq2)] [] M (fX10_spread vq0 vq2 M) := by
  unfold fX10_spread
  refine r_lload_n (pc := 0) ok 0 dX10_spread_0 rfl ?_
  refine r_lload_n (pc := 1) ok 1 dX10_spread_1 rfl ?_
  refine r_land (pc := 2) ok dX10_spread_2 ?_
  refine r_nml (fun w1 => ?_)
  refine r_lstore (pc := 3) ok [(4, .long w1), (0, .long vq0), (2, .long vq2)] dX10_spread_3 (by decide) rfl ?_
  refine r_iconst (pc := 5) ok 0 dX10_spread_5 (by decide) ?_
  refine r_istore (pc := 6) ok [(6, .int 0), (4, .long w1), (0, .long vq0), (2, .long vq2)] dX10_spread_6 (by decide) rfl ?_
  refine r_lv [3, 1, 0] [(2, .long vq2), (4, .long w1), (6, .int 0)] rfl ?_
  exact sX10_spread_L8 ok vq2 FU w1 0 M
theorem con_X10_spread (g : GP) (l : Launch) (vq0 : Int64) (vq2 : Int64)  (M : Mem) (r : Int64) (M2 : Mem) (h : fX10_spread vq0 vq2 M = some (r, M2)) : Con g l yX10_spread cX10_spread 7 (some FieldType.long) (rmL 3) [.long vq0, .long vq2] M (eJ r) M2 :=
  Con.of (own := RX10) (f := fX10_spread vq0 vq2 M) (by decide) (Nat.le_of_ble_eq_true rfl) rfl (fun x ok => wX10_spread ok vq0 vq2  M) r M2 h
def fX11_isOne (vq1 : Int32) (M : Mem) : Option (Int32 × Mem) :=
  ob (fX11_in vq1 0 ((M 22 0 0) - 1) M) fun r1 M2 =>
  gd (isB r1) (some (r1, M2))
set_option maxRecDepth 20000 in
theorem wX11_isOne {g : GP} {l : Launch} {x : CT} (ok : Ok g l x RX11 cX11_isOne 2 (some FieldType.boolean) (rmL 3)) (vq1 : Int32)  (M : Mem) : Sw g l x (FinQ g x eI) 2 0 0 0 [(0, .ref (gA g 22 0)), (1, .int vq1)] [] M (fX11_isOne vq1 M) := by
  unfold fX11_isOne
  refine r_iload_n (pc := 0) ok 1 dX11_isOne_0 rfl ?_
  refine r_iconst (pc := 1) ok 0 dX11_isOne_1 (by decide) ?_
  refine r_aload_n (pc := 2) ok 0 dX11_isOne_2 rfl ?_
  refine r_getI (pc := 3) ok fi_22_0 (by decide) fl_X11_81 dX11_isOne_3 ?_
  refine r_iconst (pc := 6) ok 1 dX11_isOne_6 (by decide) ?_
  refine r_isub (pc := 7) ok dX11_isOne_7 ?_
  refine r_callS0 (pc := 8) ok [.int vq1, .int 0, .int ((M 22 0 0) - 1)] [] 2 (fun rZ MZ hZ => con_X11_in g l vq1 0 ((M 22 0 0) - 1) _ rZ MZ hZ) cs_X11_84 (rmOk_L (by decide) (by decide)) dX11_isOne_8 rfl rfl (Nat.le_of_ble_eq_true rfl) (fun r1 M2 => ?_)
  refine r_gd (fun hz3 => ?_)
  exact r_zret (pc := 11) ok (Nat.zero_le _) (Nat.zero_le _) (isB_of hz3) rfl dX11_isOne_11
theorem con_X11_isOne (g : GP) (l : Launch) (vq1 : Int32)  (M : Mem) (r : Int32) (M2 : Mem) (h : fX11_isOne vq1 M = some (r, M2)) : Con g l yX11_isOne cX11_isOne 2 (some FieldType.boolean) (rmL 3) [.ref (gA g 22 0), .int vq1] M (eI r) M2 :=
  Con.of (own := RX11) (f := fX11_isOne vq1 M) (by decide) (Nat.le_of_ble_eq_true rfl) rfl (fun x ok => wX11_isOne ok vq1  M) r M2 h
def fX11_isCell (vq0 : Int32) (M : Mem) : Option (Int32 × Mem) :=
  ob (fX11_in vq0 0 35 M) fun r1 M2 =>
  gd (isB r1) (some (r1, M2))
set_option maxRecDepth 20000 in
theorem wX11_isCell {g : GP} {l : Launch} {x : CT} (ok : Ok g l x RX11 cX11_isCell 1 (some FieldType.boolean) (rmL 3)) (vq0 : Int32)  (M : Mem) : Sw g l x (FinQ g x eI) 1 0 0 0 [(0, .int vq0)] [] M (fX11_isCell vq0 M) := by
  unfold fX11_isCell
  refine r_iload_n (pc := 0) ok 0 dX11_isCell_0 rfl ?_
  refine r_iconst (pc := 1) ok 0 dX11_isCell_1 (by decide) ?_
  refine r_bipush (pc := 2) ok 35 dX11_isCell_2 (by decide) ?_
  refine r_callS0 (pc := 4) ok [.int vq0, .int 0, .int 35] [] 2 (fun rZ MZ hZ => con_X11_in g l vq0 0 35 _ rZ MZ hZ) cs_X11_84 (rmOk_L (by decide) (by decide)) dX11_isCell_4 rfl rfl (Nat.le_of_ble_eq_true rfl) (fun r1 M2 => ?_)
  refine r_gd (fun hz3 => ?_)
  exact r_zret (pc := 7) ok (Nat.zero_le _) (Nat.zero_le _) (isB_of hz3) rfl dX11_isCell_7
theorem con_X11_isCell (g : GP) (l : Launch) (vq0 : Int32)  (M : Mem) (r : Int32) (M2 : Mem) (h : fX11_isCell vq0 M = some (r, M2)) : Con g l yX11_isCell cX11_isCell 1 (some FieldType.boolean) (rmL 3) [.int vq0] M (eI r) M2 :=
  Con.of (own := RX11) (f := fX11_isCell vq0 M) (by decide) (Nat.le_of_ble_eq_true rfl) rfl (fun x ok => wX11_isCell ok vq0  M) r M2 h
def fX11_apart (vq0 : Int32) (vq1 : Int32) (M : Mem) : Option (Int32 × Mem) :=
  ob (fX11_without0 (irem vq0 6) (irem vq1 6) M) fun r1 M2 =>
  ob (fX11_without0 (vq0 / 6) (vq1 / 6) M2) fun r3 M4 =>
  some (r1 + r3, M4)
set_option maxRecDepth 20000 in
theorem wX11_apart {g : GP} {l : Launch} {x : CT} (ok : Ok g l x RX11 cX11_apart 2 (some FieldType.int) (rmL 3)) (vq0 : Int32) (vq1 : Int32)  (M : Mem) : Sw g l x (FinQ g x eI) 2 0 0 0 [(0, .int vq0), (1, .int vq1)] [] M (fX11_apart vq0 vq1 M) := by
  unfold fX11_apart
  refine r_iload_n (pc := 0) ok 0 dX11_apart_0 rfl ?_
  refine r_bipush (pc := 1) ok 6 dX11_apart_1 (by decide) ?_
  refine r_iremc (pc := 3) ok (by decide) dX11_apart_3 ?_
  refine r_iload_n (pc := 4) ok 1 dX11_apart_4 rfl ?_
  refine r_bipush (pc := 5) ok 6 dX11_apart_5 (by decide) ?_
  refine r_iremc (pc := 7) ok (by decide) dX11_apart_7 ?_
  refine r_callS0 (pc := 8) ok [.int (irem vq0 6), .int (irem vq1 6)] [] 2 (fun rZ MZ hZ => con_X11_without0 g l (irem vq0 6) (irem vq1 6) _ rZ MZ hZ) cs_X11_88 (rmOk_L (by decide) (by decide)) dX11_apart_8 rfl rfl (Nat.le_of_ble_eq_true rfl) (fun r1 M2 => ?_)
  refine r_iload_n (pc := 11) ok 0 dX11_apart_11 rfl ?_
  refine r_bipush (pc := 12) ok 6 dX11_apart_12 (by decide) ?_
  refine r_idivc (pc := 14) ok (by decide) dX11_apart_14 ?_
  refine r_iload_n (pc := 15) ok 1 dX11_apart_15 rfl ?_
  refine r_bipush (pc := 16) ok 6 dX11_apart_16 (by decide) ?_
  refine r_idivc (pc := 18) ok (by decide) dX11_apart_18 ?_
  refine r_callS0 (pc := 19) ok [.int (vq0 / 6), .int (vq1 / 6)] [.int r1] 2 (fun rZ MZ hZ => con_X11_without0 g l (vq0 / 6) (vq1 / 6) _ rZ MZ hZ) cs_X11_88 (rmOk_L (by decide) (by decide)) dX11_apart_19 rfl rfl (Nat.le_of_ble_eq_true rfl) (fun r3 M4 => ?_)
  refine r_iadd (pc := 22) ok dX11_apart_22 ?_
  exact r_iret (pc := 23) ok (Nat.zero_le _) (Nat.zero_le _) rfl dX11_apart_23
theorem con_X11_apart (g : GP) (l : Launch) (vq0 : Int32) (vq1 : Int32)  (M : Mem) (r : Int32) (M2 : Mem) (h : fX11_apart vq0 vq1 M = some (r, M2)) : Con g l yX11_apart cX11_apart 2 (some FieldType.int) (rmL 3) [.int vq0, .int vq1] M (eI r) M2 :=
  Con.of (own := RX11) (f := fX11_apart vq0 vq1 M) (by decide) (Nat.le_of_ble_eq_true rfl) rfl (fun x ok => wX11_apart ok vq0 vq1  M) r M2 h
def fX11_count (vq1 : Int32) (M : Mem) : Option (Int32 × Mem) :=
  if vq1 = 0 then
    (some (M 22 0 0, M))
  else
    (if vq1 = 1 then
      (some (M 22 0 6, M))
    else
      (if vq1 = 2 then
        (ob (fX11_allOf M) fun r3 M4 =>
        some (r3, M4))
      else
        (if vq1 = 3 then
          (some (M 22 0 11, M))
        else
          (if vq1 = 4 then
            (some (M 22 0 12, M))
          else
            (if vq1 = 5 then
              (some (M 22 0 8, M))
            else
              (some (-2, M)))))))
set_option maxRecDepth 20000 in
theorem wX11_count {g : GP} {l : Launch} {x : CT} (ok : Ok g l x RX11 cX11_count 2 (some FieldType.int) (rmL 3)) (vq1 : Int32)  (M : Mem) : Sw g l x (FinQ g x eI) 2 0 0 0 [(0, .ref (gA g 22 0)), (1, .int vq1)] [] M (fX11_count vq1 M) := by
  unfold fX11_count
  refine r_iload_n (pc := 0) ok 1 dX11_count_0 rfl ?_
  refine r_swc (pc := 1) ok (39) 40 dX11_count_1 (by decide +kernel) (by decide) (fun _ => ?_) (fun hs1 => ?_)
  · refine r_aload_n (pc := 40) ok 0 dX11_count_40 rfl ?_
    refine r_getI (pc := 41) ok fi_22_0 (by decide) fl_X11_81 dX11_count_41 ?_
    exact r_iret (pc := 44) ok (Nat.zero_le _) (Nat.zero_le _) rfl dX11_count_44
  · refine r_swc (pc := 1) ok (44) 45 dX11_count_1 (by decide +kernel) (by decide) (fun _ => ?_) (fun hs2 => ?_)
    · refine r_aload_n (pc := 45) ok 0 dX11_count_45 rfl ?_
      refine r_getI (pc := 46) ok fi_22_6 (by decide) fl_X11_92 dX11_count_46 ?_
      exact r_iret (pc := 49) ok (Nat.zero_le _) (Nat.zero_le _) rfl dX11_count_49
    · refine r_swc (pc := 1) ok (49) 50 dX11_count_1 (by decide +kernel) (by decide) (fun _ => ?_) (fun hs5 => ?_)
      · refine r_aload_n (pc := 50) ok 0 dX11_count_50 rfl ?_
        refine r_callV0 (pc := 51) ok [] [] 2 (fun rZ MZ hZ => con_X11_allOf g l  _ rZ MZ hZ) cv_X11_95 ok_22 (rmOk_L (by decide) (by decide)) dX11_count_51 rfl rfl (Nat.le_of_ble_eq_true rfl) (fun r3 M4 => ?_)
        exact r_iret (pc := 54) ok (Nat.zero_le _) (Nat.zero_le _) rfl dX11_count_54
      · refine r_swc (pc := 1) ok (54) 55 dX11_count_1 (by decide +kernel) (by decide) (fun _ => ?_) (fun hs6 => ?_)
        · refine r_aload_n (pc := 55) ok 0 dX11_count_55 rfl ?_
          refine r_getI (pc := 56) ok fi_22_11 (by decide) fl_X11_98 dX11_count_56 ?_
          exact r_iret (pc := 59) ok (Nat.zero_le _) (Nat.zero_le _) rfl dX11_count_59
        · refine r_swc (pc := 1) ok (59) 60 dX11_count_1 (by decide +kernel) (by decide) (fun _ => ?_) (fun hs7 => ?_)
          · refine r_aload_n (pc := 60) ok 0 dX11_count_60 rfl ?_
            refine r_getI (pc := 61) ok fi_22_12 (by decide) fl_X11_101 dX11_count_61 ?_
            exact r_iret (pc := 64) ok (Nat.zero_le _) (Nat.zero_le _) rfl dX11_count_64
          · refine r_swc (pc := 1) ok (64) 65 dX11_count_1 (by decide +kernel) (by decide) (fun _ => ?_) (fun hs8 => ?_)
            · refine r_aload_n (pc := 65) ok 0 dX11_count_65 rfl ?_
              refine r_getI (pc := 66) ok fi_22_8 (by decide) fl_X11_73 dX11_count_66 ?_
              exact r_iret (pc := 69) ok (Nat.zero_le _) (Nat.zero_le _) rfl dX11_count_69
            · refine r_swd (pc := 1) ok 70 dX11_count_1 (by have := lv_neT hs1 (by decide : (0 : Int32).toInt = 0) ; have := lv_neT hs2 (by decide : (1 : Int32).toInt = 1) ; have := lv_neT hs5 (by decide : (2 : Int32).toInt = 2) ; have := lv_neT hs6 (by decide : (3 : Int32).toInt = 3) ; have := lv_neT hs7 (by decide : (4 : Int32).toInt = 4) ; have := lv_neT hs8 (by decide : (5 : Int32).toInt = 5) ; omega) (by decide) ?_
              refine r_bipush (pc := 70) ok (-2) dX11_count_70 (by decide) ?_
              exact r_iret (pc := 72) ok (Nat.zero_le _) (Nat.zero_le _) rfl dX11_count_72
theorem con_X11_count (g : GP) (l : Launch) (vq1 : Int32)  (M : Mem) (r : Int32) (M2 : Mem) (h : fX11_count vq1 M = some (r, M2)) : Con g l yX11_count cX11_count 2 (some FieldType.int) (rmL 3) [.ref (gA g 22 0), .int vq1] M (eI r) M2 :=
  Con.of (own := RX11) (f := fX11_count vq1 M) (by decide) (Nat.le_of_ble_eq_true rfl) rfl (fun x ok => wX11_count ok vq1  M) r M2 h
def fX11_isByte (vq0 : Int32) (M : Mem) : Option (Int32 × Mem) :=
  ob (fX11_in vq0 0 255 M) fun r1 M2 =>
  gd (isB r1) (some (r1, M2))
set_option maxRecDepth 20000 in
theorem wX11_isByte {g : GP} {l : Launch} {x : CT} (ok : Ok g l x RX11 cX11_isByte 1 (some FieldType.boolean) (rmL 3)) (vq0 : Int32)  (M : Mem) : Sw g l x (FinQ g x eI) 1 0 0 0 [(0, .int vq0)] [] M (fX11_isByte vq0 M) := by
  unfold fX11_isByte
  refine r_iload_n (pc := 0) ok 0 dX11_isByte_0 rfl ?_
  refine r_iconst (pc := 1) ok 0 dX11_isByte_1 (by decide) ?_
  refine r_sipush (pc := 2) ok 255 dX11_isByte_2 (by decide) ?_
  refine r_callS0 (pc := 5) ok [.int vq0, .int 0, .int 255] [] 2 (fun rZ MZ hZ => con_X11_in g l vq0 0 255 _ rZ MZ hZ) cs_X11_84 (rmOk_L (by decide) (by decide)) dX11_isByte_5 rfl rfl (Nat.le_of_ble_eq_true rfl) (fun r1 M2 => ?_)
  refine r_gd (fun hz3 => ?_)
  exact r_zret (pc := 8) ok (Nat.zero_le _) (Nat.zero_le _) (isB_of hz3) rfl dX11_isByte_8
theorem con_X11_isByte (g : GP) (l : Launch) (vq0 : Int32)  (M : Mem) (r : Int32) (M2 : Mem) (h : fX11_isByte vq0 M = some (r, M2)) : Con g l yX11_isByte cX11_isByte 1 (some FieldType.boolean) (rmL 3) [.int vq0] M (eI r) M2 :=
  Con.of (own := RX11) (f := fX11_isByte vq0 M) (by decide) (Nat.le_of_ble_eq_true rfl) rfl (fun x ok => wX11_isByte ok vq0  M) r M2 h
def fX11_next_J390 (s0 : Int32) (M : Mem) : Option (Unit × Mem) :=
  lt (mst M 22 0 22 s0) fun M9 =>
  lt (mst M9 22 0 20 ((M9 22 0 20) + 1)) fun M10 =>
  some ((), M10)
set_option maxRecDepth 20000 in
theorem sX11_next_J390 {g : GP} {l : Launch} {x : CT} (ok : Ok g l x RX11 cX11_next 3 none (rmL 3)) (s0 : Int32)  (M : Mem) : Sw g l x (FinQ g x eV) 3 0 0 390 [(0, .ref (gA g 22 0))] [.int s0, .ref (gA g 22 0)] M (fX11_next_J390 s0 M) := by
  unfold fX11_next_J390
  refine r_putI (pc := 390) ok fi_22_22 (by decide) fl_X11_117 fp_22_22 ⟨rfl, rfl⟩ dX11_next_390 ?_
  refine r_nmM (fun M9 => ?_)
  refine r_aload_n (pc := 393) ok 0 dX11_next_393 rfl ?_
  refine r_dup (pc := 394) ok dX11_next_394 rfl ?_
  refine r_getI (pc := 395) ok fi_22_20 (by decide) fl_X11_111 dX11_next_395 ?_
  refine r_iconst (pc := 398) ok 1 dX11_next_398 (by decide) ?_
  refine r_iadd (pc := 399) ok dX11_next_399 ?_
  refine r_putI (pc := 400) ok fi_22_20 (by decide) fl_X11_111 fp_22_20 ⟨rfl, rfl⟩ dX11_next_400 ?_
  refine r_nmM (fun M10 => ?_)
  exact r_vret (pc := 403) ok (Nat.zero_le _) (Nat.zero_le _) rfl dX11_next_403
def fX11_next_J379 (vq1 : Int32) (s0 : Int32) (M : Mem) : Option (Unit × Mem) :=
  if s0 = 0 then
    (fX11_next_J390 (-1) M)
  else
    (fX11_next_J390 vq1 M)
set_option maxRecDepth 20000 in
theorem sX11_next_J379 {g : GP} {l : Launch} {x : CT} (ok : Ok g l x RX11 cX11_next 3 none (rmL 3)) (vq1 : Int32) (s0 : Int32)  (M : Mem) : Sw g l x (FinQ g x eV) 3 0 0 379 [(0, .ref (gA g 22 0)), (1, .int vq1)] [.int s0] M (fX11_next_J379 vq1 s0 M) := by
  unfold fX11_next_J379
  refine r_istore_n (pc := 379) ok [(2, .int s0), (0, .ref (gA g 22 0)), (1, .int vq1)] dX11_next_379 rfl (by decide) rfl ?_
  refine r_aload_n (pc := 380) ok 1 dX11_next_380 rfl ?_
  refine r_iload_n (pc := 381) ok 0 dX11_next_381 rfl ?_
  refine r_if_eq (pc := 382) ok 389 dX11_next_382 (by decide) (fun _ => ?_) (fun _ => ?_)
  · refine r_iconst (pc := 389) ok (-1) dX11_next_389 (by decide) ?_
    refine r_lv [1] [(0, .ref (gA g 22 0))] rfl ?_
    exact sX11_next_J390 ok (-1) M
  · refine r_iload_n (pc := 385) ok 2 dX11_next_385 rfl ?_
    refine r_goto (pc := 386) ok 390 dX11_next_386 (by decide) ?_
    refine r_lv [1] [(0, .ref (gA g 22 0))] rfl ?_
    exact sX11_next_J390 ok vq1 M
def fX11_next_J374 (vq1 : Int32) (M : Mem) : Option (Unit × Mem) :=
  fX11_next_J379 vq1 1 M
set_option maxRecDepth 20000 in
theorem sX11_next_J374 {g : GP} {l : Launch} {x : CT} (ok : Ok g l x RX11 cX11_next 3 none (rmL 3)) (vq1 : Int32)  (M : Mem) : Sw g l x (FinQ g x eV) 3 0 0 374 [(0, .ref (gA g 22 0)), (1, .int vq1)] [] M (fX11_next_J374 vq1 M) := by
  unfold fX11_next_J374
  refine r_iconst (pc := 374) ok 1 dX11_next_374 (by decide) ?_
  refine r_goto (pc := 375) ok 379 dX11_next_375 (by decide) ?_
  refine r_lv [0, 1] [(0, .ref (gA g 22 0)), (1, .int vq1)] rfl ?_
  exact sX11_next_J379 ok vq1 1 M
def fX11_next_J309 (vq2 : Int32) (M : Mem) : Option (Unit × Mem) :=
  if vq2 ≤ 4 then
    (lt (mst M 22 0 22 1) fun M11 =>
    some ((), M11))
  else
    (lt (mst M 22 0 22 (-1)) fun M12 =>
    some ((), M12))
set_option maxRecDepth 20000 in
theorem sX11_next_J309 {g : GP} {l : Launch} {x : CT} (ok : Ok g l x RX11 cX11_next 3 none (rmL 3)) (vq2 : Int32)  (M : Mem) : Sw g l x (FinQ g x eV) 3 0 0 309 [(0, .ref (gA g 22 0)), (2, .int vq2)] [] M (fX11_next_J309 vq2 M) := by
  unfold fX11_next_J309
  refine r_aload_n (pc := 309) ok 0 dX11_next_309 rfl ?_
  refine r_iload_n (pc := 310) ok 1 dX11_next_310 rfl ?_
  refine r_iconst (pc := 311) ok 4 dX11_next_311 (by decide) ?_
  refine r_icmp_le (pc := 312) ok 319 dX11_next_312 (by decide) (fun _ => ?_) (fun _ => ?_)
  · refine r_iconst (pc := 319) ok 1 dX11_next_319 (by decide) ?_
    refine r_putI (pc := 320) ok fi_22_22 (by decide) fl_X11_117 fp_22_22 ⟨rfl, rfl⟩ dX11_next_320 ?_
    refine r_nmM (fun M11 => ?_)
    refine r_goto (pc := 323) ok 403 dX11_next_323 (by decide) ?_
    exact r_vret (pc := 403) ok (Nat.zero_le _) (Nat.zero_le _) rfl dX11_next_403
  · refine r_iconst (pc := 315) ok (-1) dX11_next_315 (by decide) ?_
    refine r_goto (pc := 316) ok 320 dX11_next_316 (by decide) ?_
    refine r_putI (pc := 320) ok fi_22_22 (by decide) fl_X11_117 fp_22_22 ⟨rfl, rfl⟩ dX11_next_320 ?_
    refine r_nmM (fun M12 => ?_)
    refine r_goto (pc := 323) ok 403 dX11_next_323 (by decide) ?_
    exact r_vret (pc := 403) ok (Nat.zero_le _) (Nat.zero_le _) rfl dX11_next_403
def fX11_next_J290 (k230 : Int32 → Mem → Option (Unit × Mem)) (vq2 : Int32) (s0 : Int32) (M : Mem) : Option (Unit × Mem) :=
  lt (mst M 22 0 23 s0) fun M15 =>
  lt (mst M15 22 0 20 ((M15 22 0 20) + 1)) fun M16 =>
  k230 (vq2 + 1) M16
set_option maxRecDepth 20000 in
theorem sX11_next_J290 {g : GP} {l : Launch} {x : CT} {k230 : Int32 → Mem → Option (Unit × Mem)} (ok : Ok g l x RX11 cX11_next 3 none (rmL 3)) (vq2 : Int32) (s0 : Int32)  (hk230 : ∀ (vq2 : Int32) (M : Mem), Sw g l x (FinQ g x eV) 3 0 0 230 [(0, .ref (gA g 22 0)), (2, .int vq2)] [] M (k230 vq2 M)) (M : Mem) : Sw g l x (FinQ g x eV) 3 0 0 290 [(0, .ref (gA g 22 0)), (2, .int vq2)] [.int s0, .ref (gA g 22 0)] M (fX11_next_J290 k230 vq2 s0 M) := by
  unfold fX11_next_J290
  refine r_putI (pc := 290) ok fi_22_23 (by decide) fl_X11_120 fp_22_23 ⟨rfl, rfl⟩ dX11_next_290 ?_
  refine r_nmM (fun M15 => ?_)
  refine r_iinc (pc := 293) ok 1 (vq2 + 1) [(2, .int (vq2 + 1)), (0, .ref (gA g 22 0))] dX11_next_293 rfl (congrArg (fun z => vq2 + z) (by decide : Int32.ofInt 1 = (1 : Int32))) (by decide) rfl ?_
  refine r_aload_n (pc := 296) ok 1 dX11_next_296 rfl ?_
  refine r_dup (pc := 297) ok dX11_next_297 rfl ?_
  refine r_getI (pc := 298) ok fi_22_20 (by decide) fl_X11_111 dX11_next_298 ?_
  refine r_iconst (pc := 301) ok 1 dX11_next_301 (by decide) ?_
  refine r_iadd (pc := 302) ok dX11_next_302 ?_
  refine r_putI (pc := 303) ok fi_22_20 (by decide) fl_X11_111 fp_22_20 ⟨rfl, rfl⟩ dX11_next_303 ?_
  refine r_nmM (fun M16 => ?_)
  refine r_goto (pc := 306) ok 230 dX11_next_306 (by decide) ?_
  refine r_lv [1, 0] [(0, .ref (gA g 22 0)), (2, .int (vq2 + 1))] rfl ?_
  exact hk230 (vq2 + 1) M16
def fX11_next_B230  (k230 : Int32 → Mem → Option (Unit × Mem)) (vq2 : Int32) (M : Mem) : Option (Unit × Mem) :=
  if (M 22 0 8) ≤ (M 22 0 20) then
    (fX11_next_J309 vq2 M)
  else
    (gd (inb (M 22 0 20) 160)
    (ob (fX11_in (M 28 0 (M 22 0 20).toNatClampNeg) 48 57 M) fun r13 M14 =>
    if r13 = 0 then
      (fX11_next_J309 vq2 M14)
    else
      (if 4 ≤ vq2 then
        (fX11_next_J290 k230 vq2 0 M14)
      else
        (gd (inb (M14 22 0 20) 160)
        (fX11_next_J290 k230 vq2 (((10 * (M14 22 0 23)) + (M14 28 0 (M14 22 0 20).toNatClampNeg)) - 48) M14)))))
def fX11_next_L230  : Nat → Int32 → Mem → Option (Unit × Mem)
  | 0, _, _ => none
  | n + 1, vq2, M => fX11_next_B230  (fX11_next_L230  n) vq2 M
set_option maxRecDepth 20000 in
theorem sX11_next_B230 {g : GP} {l : Launch} {x : CT} (ok : Ok g l x RX11 cX11_next 3 none (rmL 3))   (k230 : Int32 → Mem → Option (Unit × Mem)) (hk230 : ∀ (vq2 : Int32) (M : Mem), Sw g l x (FinQ g x eV) 3 0 0 230 [(0, .ref (gA g 22 0)), (2, .int vq2)] [] M (k230 vq2 M)) (vq2 : Int32) (M : Mem) : Sw g l x (FinQ g x eV) 3 0 0 230 [(0, .ref (gA g 22 0)), (2, .int vq2)] [] M (fX11_next_B230  k230 vq2 M) := by
  unfold fX11_next_B230
  refine r_aload_n (pc := 230) ok 0 dX11_next_230 rfl ?_
  refine r_getI (pc := 231) ok fi_22_20 (by decide) fl_X11_111 dX11_next_231 ?_
  refine r_aload_n (pc := 234) ok 0 dX11_next_234 rfl ?_
  refine r_getI (pc := 235) ok fi_22_8 (by decide) fl_X11_73 dX11_next_235 ?_
  refine r_icmp_ge (pc := 238) ok 309 dX11_next_238 (by decide) (fun _ => ?_) (fun _ => ?_)
  · refine r_lv [0, 1] [(0, .ref (gA g 22 0)), (2, .int vq2)] rfl ?_
    exact sX11_next_J309 ok vq2 M
  · refine r_aload_n (pc := 241) ok 0 dX11_next_241 rfl ?_
    refine r_getR (pc := 242) ok fr_22_7 (by decide) fl_X11_25 dX11_next_242 ?_
    refine r_aload_n (pc := 245) ok 0 dX11_next_245 rfl ?_
    refine r_getI (pc := 246) ok fi_22_20 (by decide) fl_X11_111 dX11_next_246 ?_
    refine r_iald (pc := 249) ok ik_28 (by decide) dX11_next_249 (fun _ => ?_)
    refine r_bipush (pc := 250) ok 48 dX11_next_250 (by decide) ?_
    refine r_bipush (pc := 252) ok 57 dX11_next_252 (by decide) ?_
    refine r_callS0 (pc := 254) ok [.int (M 28 0 (M 22 0 20).toNatClampNeg), .int 48, .int 57] [] 2 (fun rZ MZ hZ => con_X11_in g l (M 28 0 (M 22 0 20).toNatClampNeg) 48 57 _ rZ MZ hZ) cs_X11_84 (rmOk_L (by decide) (by decide)) dX11_next_254 rfl rfl (Nat.le_of_ble_eq_true rfl) (fun r13 M14 => ?_)
    refine r_if_eq (pc := 257) ok 309 dX11_next_257 (by decide) (fun _ => ?_) (fun _ => ?_)
    · refine r_lv [0, 1] [(0, .ref (gA g 22 0)), (2, .int vq2)] rfl ?_
      exact sX11_next_J309 ok vq2 M14
    · refine r_aload_n (pc := 260) ok 0 dX11_next_260 rfl ?_
      refine r_iload_n (pc := 261) ok 1 dX11_next_261 rfl ?_
      refine r_iconst (pc := 262) ok 4 dX11_next_262 (by decide) ?_
      refine r_icmp_ge (pc := 263) ok 289 dX11_next_263 (by decide) (fun _ => ?_) (fun _ => ?_)
      · refine r_iconst (pc := 289) ok 0 dX11_next_289 (by decide) ?_
        refine r_lv [0, 1] [(0, .ref (gA g 22 0)), (2, .int vq2)] rfl ?_
        exact sX11_next_J290 ok vq2 0 hk230 M14
      · refine r_bipush (pc := 266) ok 10 dX11_next_266 (by decide) ?_
        refine r_aload_n (pc := 268) ok 0 dX11_next_268 rfl ?_
        refine r_getI (pc := 269) ok fi_22_23 (by decide) fl_X11_120 dX11_next_269 ?_
        refine r_imul (pc := 272) ok dX11_next_272 ?_
        refine r_aload_n (pc := 273) ok 0 dX11_next_273 rfl ?_
        refine r_getR (pc := 274) ok fr_22_7 (by decide) fl_X11_25 dX11_next_274 ?_
        refine r_aload_n (pc := 277) ok 0 dX11_next_277 rfl ?_
        refine r_getI (pc := 278) ok fi_22_20 (by decide) fl_X11_111 dX11_next_278 ?_
        refine r_iald (pc := 281) ok ik_28 (by decide) dX11_next_281 (fun _ => ?_)
        refine r_iadd (pc := 282) ok dX11_next_282 ?_
        refine r_bipush (pc := 283) ok 48 dX11_next_283 (by decide) ?_
        refine r_isub (pc := 285) ok dX11_next_285 ?_
        refine r_goto (pc := 286) ok 290 dX11_next_286 (by decide) ?_
        refine r_lv [0, 1] [(0, .ref (gA g 22 0)), (2, .int vq2)] rfl ?_
        exact sX11_next_J290 ok vq2 (((10 * (M14 22 0 23)) + (M14 28 0 (M14 22 0 20).toNatClampNeg)) - 48) hk230 M14
theorem sX11_next_L230 {g : GP} {l : Launch} {x : CT} (ok : Ok g l x RX11 cX11_next 3 none (rmL 3))   : ∀ (n : Nat) (vq2 : Int32) (M : Mem), Sw g l x (FinQ g x eV) 3 0 0 230 [(0, .ref (gA g 22 0)), (2, .int vq2)] [] M (fX11_next_L230  n vq2 M) := by
  intro n
  induction n with
  | zero => intros; exact r_none
  | succ n ih => intro vq2 M; exact sX11_next_B230 ok   _ ih vq2 M
def fX11_next_J195 (vq2 : Int32) (s0 : Int32) (M : Mem) : Option (Unit × Mem) :=
  lt (mst M 22 0 22 s0) fun M19 =>
  if 3 ≤ vq2 then
    (lt (mst M19 22 0 23 (vq2 - 3)) fun M20 =>
    some ((), M20))
  else
    (lt (mst M19 22 0 23 vq2) fun M21 =>
    some ((), M21))
set_option maxRecDepth 20000 in
theorem sX11_next_J195 {g : GP} {l : Launch} {x : CT} (ok : Ok g l x RX11 cX11_next 3 none (rmL 3)) (vq2 : Int32) (s0 : Int32)  (M : Mem) : Sw g l x (FinQ g x eV) 3 0 0 195 [(0, .ref (gA g 22 0)), (2, .int vq2)] [.int s0, .ref (gA g 22 0)] M (fX11_next_J195 vq2 s0 M) := by
  unfold fX11_next_J195
  refine r_putI (pc := 195) ok fi_22_22 (by decide) fl_X11_117 fp_22_22 ⟨rfl, rfl⟩ dX11_next_195 ?_
  refine r_nmM (fun M19 => ?_)
  refine r_aload_n (pc := 198) ok 0 dX11_next_198 rfl ?_
  refine r_iload_n (pc := 199) ok 1 dX11_next_199 rfl ?_
  refine r_iconst (pc := 200) ok 3 dX11_next_200 (by decide) ?_
  refine r_icmp_ge (pc := 201) ok 208 dX11_next_201 (by decide) (fun _ => ?_) (fun _ => ?_)
  · refine r_iload_n (pc := 208) ok 1 dX11_next_208 rfl ?_
    refine r_iconst (pc := 209) ok 3 dX11_next_209 (by decide) ?_
    refine r_isub (pc := 210) ok dX11_next_210 ?_
    refine r_putI (pc := 211) ok fi_22_23 (by decide) fl_X11_120 fp_22_23 ⟨rfl, rfl⟩ dX11_next_211 ?_
    refine r_nmM (fun M20 => ?_)
    refine r_goto (pc := 214) ok 403 dX11_next_214 (by decide) ?_
    exact r_vret (pc := 403) ok (Nat.zero_le _) (Nat.zero_le _) rfl dX11_next_403
  · refine r_iload_n (pc := 204) ok 1 dX11_next_204 rfl ?_
    refine r_goto (pc := 205) ok 211 dX11_next_205 (by decide) ?_
    refine r_putI (pc := 211) ok fi_22_23 (by decide) fl_X11_120 fp_22_23 ⟨rfl, rfl⟩ dX11_next_211 ?_
    refine r_nmM (fun M21 => ?_)
    refine r_goto (pc := 214) ok 403 dX11_next_214 (by decide) ?_
    exact r_vret (pc := 403) ok (Nat.zero_le _) (Nat.zero_le _) rfl dX11_next_403
def fX11_next_J146  (M : Mem) : Option (Unit × Mem) :=
  ob (fX11_wordFrom (M 22 0 21) (M 22 0 20) M) fun r17 M18 =>
  if 3 ≤ r17 then
    (if 9 ≤ r17 then
      (if r17 = 12 then
        (fX11_next_J195 r17 (-1) M18)
      else
        (fX11_next_J195 r17 ((4 + r17) - 9) M18))
    else
      (fX11_next_J195 r17 2 M18))
  else
    (fX11_next_J195 r17 3 M18)
set_option maxRecDepth 20000 in
theorem sX11_next_J146 {g : GP} {l : Launch} {x : CT} (ok : Ok g l x RX11 cX11_next 3 none (rmL 3))   (M : Mem) : Sw g l x (FinQ g x eV) 3 0 0 146 [(0, .ref (gA g 22 0))] [] M (fX11_next_J146  M) := by
  unfold fX11_next_J146
  refine r_aload_n (pc := 146) ok 0 dX11_next_146 rfl ?_
  refine r_aload_n (pc := 147) ok 0 dX11_next_147 rfl ?_
  refine r_getI (pc := 148) ok fi_22_21 (by decide) fl_X11_114 dX11_next_148 ?_
  refine r_aload_n (pc := 151) ok 0 dX11_next_151 rfl ?_
  refine r_getI (pc := 152) ok fi_22_20 (by decide) fl_X11_111 dX11_next_152 ?_
  refine r_callV0 (pc := 155) ok [.int (M 22 0 21), .int (M 22 0 20)] [] 2 (fun rZ MZ hZ => con_X11_wordFrom g l (M 22 0 21) (M 22 0 20) _ rZ MZ hZ) cv_X11_123 ok_22 (rmOk_L (by decide) (by decide)) dX11_next_155 rfl rfl (Nat.le_of_ble_eq_true rfl) (fun r17 M18 => ?_)
  refine r_istore_n (pc := 158) ok [(2, .int r17), (0, .ref (gA g 22 0))] dX11_next_158 rfl (by decide) rfl ?_
  refine r_aload_n (pc := 159) ok 1 dX11_next_159 rfl ?_
  refine r_iload_n (pc := 160) ok 0 dX11_next_160 rfl ?_
  refine r_iconst (pc := 161) ok 3 dX11_next_161 (by decide) ?_
  refine r_icmp_ge (pc := 162) ok 169 dX11_next_162 (by decide) (fun _ => ?_) (fun _ => ?_)
  · refine r_iload_n (pc := 169) ok 0 dX11_next_169 rfl ?_
    refine r_bipush (pc := 170) ok 9 dX11_next_170 (by decide) ?_
    refine r_icmp_ge (pc := 172) ok 179 dX11_next_172 (by decide) (fun _ => ?_) (fun _ => ?_)
    · refine r_iload_n (pc := 179) ok 0 dX11_next_179 rfl ?_
      refine r_bipush (pc := 180) ok 12 dX11_next_180 (by decide) ?_
      refine r_icmp_ne (pc := 182) ok 189 dX11_next_182 (by decide) (fun _ => ?_) (fun _ => ?_)
      · refine r_iconst (pc := 185) ok (-1) dX11_next_185 (by decide) ?_
        refine r_goto (pc := 186) ok 195 dX11_next_186 (by decide) ?_
        refine r_lv [1, 0] [(0, .ref (gA g 22 0)), (2, .int r17)] rfl ?_
        exact sX11_next_J195 ok r17 (-1) M18
      · refine r_iconst (pc := 189) ok 4 dX11_next_189 (by decide) ?_
        refine r_iload_n (pc := 190) ok 0 dX11_next_190 rfl ?_
        refine r_iadd (pc := 191) ok dX11_next_191 ?_
        refine r_bipush (pc := 192) ok 9 dX11_next_192 (by decide) ?_
        refine r_isub (pc := 194) ok dX11_next_194 ?_
        refine r_lv [1, 0] [(0, .ref (gA g 22 0)), (2, .int r17)] rfl ?_
        exact sX11_next_J195 ok r17 ((4 + r17) - 9) M18
    · refine r_iconst (pc := 175) ok 2 dX11_next_175 (by decide) ?_
      refine r_goto (pc := 176) ok 195 dX11_next_176 (by decide) ?_
      refine r_lv [1, 0] [(0, .ref (gA g 22 0)), (2, .int r17)] rfl ?_
      exact sX11_next_J195 ok r17 2 M18
  · refine r_iconst (pc := 165) ok 3 dX11_next_165 (by decide) ?_
    refine r_goto (pc := 166) ok 195 dX11_next_166 (by decide) ?_
    refine r_lv [1, 0] [(0, .ref (gA g 22 0)), (2, .int r17)] rfl ?_
    exact sX11_next_J195 ok r17 3 M18
def fX11_next_B103  (k103 : Mem → Option (Unit × Mem))  (M : Mem) : Option (Unit × Mem) :=
  if (M 22 0 8) ≤ (M 22 0 20) then
    (fX11_next_J146 M)
  else
    (gd (inb (M 22 0 20) 160)
    (ob (fX11_in (M 28 0 (M 22 0 20).toNatClampNeg) 97 122 M) fun r22 M23 =>
    if r22 = 0 then
      (fX11_next_J146 M23)
    else
      (lt (mst M23 22 0 20 ((M23 22 0 20) + 1)) fun M24 =>
      k103 M24)))
def fX11_next_L103  : Nat → Mem → Option (Unit × Mem)
  | 0, _ => none
  | n + 1, M => fX11_next_B103  (fX11_next_L103  n)  M
set_option maxRecDepth 20000 in
theorem sX11_next_B103 {g : GP} {l : Launch} {x : CT} (ok : Ok g l x RX11 cX11_next 3 none (rmL 3))   (k103 : Mem → Option (Unit × Mem)) (hk103 : ∀  (M : Mem), Sw g l x (FinQ g x eV) 3 0 0 103 [(0, .ref (gA g 22 0))] [] M (k103  M))  (M : Mem) : Sw g l x (FinQ g x eV) 3 0 0 103 [(0, .ref (gA g 22 0))] [] M (fX11_next_B103  k103  M) := by
  unfold fX11_next_B103
  refine r_aload_n (pc := 103) ok 0 dX11_next_103 rfl ?_
  refine r_getI (pc := 104) ok fi_22_20 (by decide) fl_X11_111 dX11_next_104 ?_
  refine r_aload_n (pc := 107) ok 0 dX11_next_107 rfl ?_
  refine r_getI (pc := 108) ok fi_22_8 (by decide) fl_X11_73 dX11_next_108 ?_
  refine r_icmp_ge (pc := 111) ok 146 dX11_next_111 (by decide) (fun _ => ?_) (fun _ => ?_)
  · refine r_lv [0] [(0, .ref (gA g 22 0))] rfl ?_
    exact sX11_next_J146 ok M
  · refine r_aload_n (pc := 114) ok 0 dX11_next_114 rfl ?_
    refine r_getR (pc := 115) ok fr_22_7 (by decide) fl_X11_25 dX11_next_115 ?_
    refine r_aload_n (pc := 118) ok 0 dX11_next_118 rfl ?_
    refine r_getI (pc := 119) ok fi_22_20 (by decide) fl_X11_111 dX11_next_119 ?_
    refine r_iald (pc := 122) ok ik_28 (by decide) dX11_next_122 (fun _ => ?_)
    refine r_bipush (pc := 123) ok 97 dX11_next_123 (by decide) ?_
    refine r_bipush (pc := 125) ok 122 dX11_next_125 (by decide) ?_
    refine r_callS0 (pc := 127) ok [.int (M 28 0 (M 22 0 20).toNatClampNeg), .int 97, .int 122] [] 2 (fun rZ MZ hZ => con_X11_in g l (M 28 0 (M 22 0 20).toNatClampNeg) 97 122 _ rZ MZ hZ) cs_X11_84 (rmOk_L (by decide) (by decide)) dX11_next_127 rfl rfl (Nat.le_of_ble_eq_true rfl) (fun r22 M23 => ?_)
    refine r_if_eq (pc := 130) ok 146 dX11_next_130 (by decide) (fun _ => ?_) (fun _ => ?_)
    · refine r_lv [0] [(0, .ref (gA g 22 0))] rfl ?_
      exact sX11_next_J146 ok M23
    · refine r_aload_n (pc := 133) ok 0 dX11_next_133 rfl ?_
      refine r_dup (pc := 134) ok dX11_next_134 rfl ?_
      refine r_getI (pc := 135) ok fi_22_20 (by decide) fl_X11_111 dX11_next_135 ?_
      refine r_iconst (pc := 138) ok 1 dX11_next_138 (by decide) ?_
      refine r_iadd (pc := 139) ok dX11_next_139 ?_
      refine r_putI (pc := 140) ok fi_22_20 (by decide) fl_X11_111 fp_22_20 ⟨rfl, rfl⟩ dX11_next_140 ?_
      refine r_nmM (fun M24 => ?_)
      refine r_goto (pc := 143) ok 103 dX11_next_143 (by decide) ?_
      refine r_lv [0] [(0, .ref (gA g 22 0))] rfl ?_
      exact hk103 M24
theorem sX11_next_L103 {g : GP} {l : Launch} {x : CT} (ok : Ok g l x RX11 cX11_next 3 none (rmL 3))   : ∀ (n : Nat)  (M : Mem), Sw g l x (FinQ g x eV) 3 0 0 103 [(0, .ref (gA g 22 0))] [] M (fX11_next_L103  n  M) := by
  intro n
  induction n with
  | zero => intros; exact r_none
  | succ n ih => intro  M; exact sX11_next_B103 ok   _ ih  M
def fX11_next_J52  (M : Mem) : Option (Unit × Mem) :=
  lt (mst M 22 0 21 (M 22 0 20)) fun M1 =>
  lt (mst M1 22 0 22 0) fun M2 =>
  lt (mst M2 22 0 23 0) fun M3 =>
  if (M3 22 0 20) = (M3 22 0 8) then
    (some ((), M3))
  else
    (gd (inb (M3 22 0 20) 160)
    (lt (M3 28 0 (M3 22 0 20).toNatClampNeg) fun w4 =>
    ob (fX11_in w4 97 122 M3) fun r5 M6 =>
    if r5 = 0 then
      (ob (fX11_in w4 48 57 M6) fun r7 M8 =>
      if r7 = 0 then
        (if w4 = 40 then
          (fX11_next_J374 w4 M8)
        else
          (if w4 = 41 then
            (fX11_next_J374 w4 M8)
          else
            (if w4 = 59 then
              (fX11_next_J374 w4 M8)
            else
              (if w4 = 43 then
                (fX11_next_J374 w4 M8)
              else
                (if w4 = 45 then
                  (fX11_next_J374 w4 M8)
                else
                  (if w4 = 42 then
                    (fX11_next_J374 w4 M8)
                  else
                    (if w4 = 60 then
                      (fX11_next_J374 w4 M8)
                    else
                      (if w4 = 61 then
                        (fX11_next_J374 w4 M8)
                      else
                        (fX11_next_J379 w4 0 M8)))))))))
      else
        (fX11_next_L230 FU 0 M8))
    else
      (fX11_next_L103 FU M6)))
set_option maxRecDepth 20000 in
theorem sX11_next_J52 {g : GP} {l : Launch} {x : CT} (ok : Ok g l x RX11 cX11_next 3 none (rmL 3))   (M : Mem) : Sw g l x (FinQ g x eV) 3 0 0 52 [(0, .ref (gA g 22 0))] [] M (fX11_next_J52  M) := by
  unfold fX11_next_J52
  refine r_aload_n (pc := 52) ok 0 dX11_next_52 rfl ?_
  refine r_aload_n (pc := 53) ok 0 dX11_next_53 rfl ?_
  refine r_getI (pc := 54) ok fi_22_20 (by decide) fl_X11_111 dX11_next_54 ?_
  refine r_putI (pc := 57) ok fi_22_21 (by decide) fl_X11_114 fp_22_21 ⟨rfl, rfl⟩ dX11_next_57 ?_
  refine r_nmM (fun M1 => ?_)
  refine r_aload_n (pc := 60) ok 0 dX11_next_60 rfl ?_
  refine r_iconst (pc := 61) ok 0 dX11_next_61 (by decide) ?_
  refine r_putI (pc := 62) ok fi_22_22 (by decide) fl_X11_117 fp_22_22 ⟨rfl, rfl⟩ dX11_next_62 ?_
  refine r_nmM (fun M2 => ?_)
  refine r_aload_n (pc := 65) ok 0 dX11_next_65 rfl ?_
  refine r_iconst (pc := 66) ok 0 dX11_next_66 (by decide) ?_
  refine r_putI (pc := 67) ok fi_22_23 (by decide) fl_X11_120 fp_22_23 ⟨rfl, rfl⟩ dX11_next_67 ?_
  refine r_nmM (fun M3 => ?_)
  refine r_aload_n (pc := 70) ok 0 dX11_next_70 rfl ?_
  refine r_getI (pc := 71) ok fi_22_20 (by decide) fl_X11_111 dX11_next_71 ?_
  refine r_aload_n (pc := 74) ok 0 dX11_next_74 rfl ?_
  refine r_getI (pc := 75) ok fi_22_8 (by decide) fl_X11_73 dX11_next_75 ?_
  refine r_icmp_ne (pc := 78) ok 82 dX11_next_78 (by decide) (fun _ => ?_) (fun _ => ?_)
  · exact r_vret (pc := 81) ok (Nat.zero_le _) (Nat.zero_le _) rfl dX11_next_81
  · refine r_aload_n (pc := 82) ok 0 dX11_next_82 rfl ?_
    refine r_getR (pc := 83) ok fr_22_7 (by decide) fl_X11_25 dX11_next_83 ?_
    refine r_aload_n (pc := 86) ok 0 dX11_next_86 rfl ?_
    refine r_getI (pc := 87) ok fi_22_20 (by decide) fl_X11_111 dX11_next_87 ?_
    refine r_iald (pc := 90) ok ik_28 (by decide) dX11_next_90 (fun _ => ?_)
    refine r_nmi (fun w4 => ?_)
    refine r_istore_n (pc := 91) ok [(1, .int w4), (0, .ref (gA g 22 0))] dX11_next_91 rfl (by decide) rfl ?_
    refine r_iload_n (pc := 92) ok 0 dX11_next_92 rfl ?_
    refine r_bipush (pc := 93) ok 97 dX11_next_93 (by decide) ?_
    refine r_bipush (pc := 95) ok 122 dX11_next_95 (by decide) ?_
    refine r_callS0 (pc := 97) ok [.int w4, .int 97, .int 122] [] 2 (fun rZ MZ hZ => con_X11_in g l w4 97 122 _ rZ MZ hZ) cs_X11_84 (rmOk_L (by decide) (by decide)) dX11_next_97 rfl rfl (Nat.le_of_ble_eq_true rfl) (fun r5 M6 => ?_)
    refine r_if_eq (pc := 100) ok 217 dX11_next_100 (by decide) (fun _ => ?_) (fun _ => ?_)
    · refine r_iload_n (pc := 217) ok 0 dX11_next_217 rfl ?_
      refine r_bipush (pc := 218) ok 48 dX11_next_218 (by decide) ?_
      refine r_bipush (pc := 220) ok 57 dX11_next_220 (by decide) ?_
      refine r_callS0 (pc := 222) ok [.int w4, .int 48, .int 57] [] 2 (fun rZ MZ hZ => con_X11_in g l w4 48 57 _ rZ MZ hZ) cs_X11_84 (rmOk_L (by decide) (by decide)) dX11_next_222 rfl rfl (Nat.le_of_ble_eq_true rfl) (fun r7 M8 => ?_)
      refine r_if_eq (pc := 225) ok 326 dX11_next_225 (by decide) (fun _ => ?_) (fun _ => ?_)
      · refine r_iload_n (pc := 326) ok 0 dX11_next_326 rfl ?_
        refine r_bipush (pc := 327) ok 40 dX11_next_327 (by decide) ?_
        refine r_icmp_eq (pc := 329) ok 374 dX11_next_329 (by decide) (fun _ => ?_) (fun _ => ?_)
        · refine r_lv [1, 0] [(0, .ref (gA g 22 0)), (1, .int w4)] rfl ?_
          exact sX11_next_J374 ok w4 M8
        · refine r_iload_n (pc := 332) ok 0 dX11_next_332 rfl ?_
          refine r_bipush (pc := 333) ok 41 dX11_next_333 (by decide) ?_
          refine r_icmp_eq (pc := 335) ok 374 dX11_next_335 (by decide) (fun _ => ?_) (fun _ => ?_)
          · refine r_lv [1, 0] [(0, .ref (gA g 22 0)), (1, .int w4)] rfl ?_
            exact sX11_next_J374 ok w4 M8
          · refine r_iload_n (pc := 338) ok 0 dX11_next_338 rfl ?_
            refine r_bipush (pc := 339) ok 59 dX11_next_339 (by decide) ?_
            refine r_icmp_eq (pc := 341) ok 374 dX11_next_341 (by decide) (fun _ => ?_) (fun _ => ?_)
            · refine r_lv [1, 0] [(0, .ref (gA g 22 0)), (1, .int w4)] rfl ?_
              exact sX11_next_J374 ok w4 M8
            · refine r_iload_n (pc := 344) ok 0 dX11_next_344 rfl ?_
              refine r_bipush (pc := 345) ok 43 dX11_next_345 (by decide) ?_
              refine r_icmp_eq (pc := 347) ok 374 dX11_next_347 (by decide) (fun _ => ?_) (fun _ => ?_)
              · refine r_lv [1, 0] [(0, .ref (gA g 22 0)), (1, .int w4)] rfl ?_
                exact sX11_next_J374 ok w4 M8
              · refine r_iload_n (pc := 350) ok 0 dX11_next_350 rfl ?_
                refine r_bipush (pc := 351) ok 45 dX11_next_351 (by decide) ?_
                refine r_icmp_eq (pc := 353) ok 374 dX11_next_353 (by decide) (fun _ => ?_) (fun _ => ?_)
                · refine r_lv [1, 0] [(0, .ref (gA g 22 0)), (1, .int w4)] rfl ?_
                  exact sX11_next_J374 ok w4 M8
                · refine r_iload_n (pc := 356) ok 0 dX11_next_356 rfl ?_
                  refine r_bipush (pc := 357) ok 42 dX11_next_357 (by decide) ?_
                  refine r_icmp_eq (pc := 359) ok 374 dX11_next_359 (by decide) (fun _ => ?_) (fun _ => ?_)
                  · refine r_lv [1, 0] [(0, .ref (gA g 22 0)), (1, .int w4)] rfl ?_
                    exact sX11_next_J374 ok w4 M8
                  · refine r_iload_n (pc := 362) ok 0 dX11_next_362 rfl ?_
                    refine r_bipush (pc := 363) ok 60 dX11_next_363 (by decide) ?_
                    refine r_icmp_eq (pc := 365) ok 374 dX11_next_365 (by decide) (fun _ => ?_) (fun _ => ?_)
                    · refine r_lv [1, 0] [(0, .ref (gA g 22 0)), (1, .int w4)] rfl ?_
                      exact sX11_next_J374 ok w4 M8
                    · refine r_iload_n (pc := 368) ok 0 dX11_next_368 rfl ?_
                      refine r_bipush (pc := 369) ok 61 dX11_next_369 (by decide) ?_
                      refine r_icmp_ne (pc := 371) ok 378 dX11_next_371 (by decide) (fun _ => ?_) (fun _ => ?_)
                      · refine r_lv [1, 0] [(0, .ref (gA g 22 0)), (1, .int w4)] rfl ?_
                        exact sX11_next_J374 ok w4 M8
                      · refine r_iconst (pc := 378) ok 0 dX11_next_378 (by decide) ?_
                        refine r_lv [1, 0] [(0, .ref (gA g 22 0)), (1, .int w4)] rfl ?_
                        exact sX11_next_J379 ok w4 0 M8
      · refine r_iconst (pc := 228) ok 0 dX11_next_228 (by decide) ?_
        refine r_istore_n (pc := 229) ok [(2, .int 0), (1, .int w4), (0, .ref (gA g 22 0))] dX11_next_229 rfl (by decide) rfl ?_
        refine r_lv [2, 0] [(0, .ref (gA g 22 0)), (2, .int 0)] rfl ?_
        exact sX11_next_L230 ok FU 0 M8
    · refine r_lv [1] [(0, .ref (gA g 22 0))] rfl ?_
      exact sX11_next_L103 ok FU M6
def fX11_next_J39 (k0 : Mem → Option (Unit × Mem))  (M : Mem) : Option (Unit × Mem) :=
  lt (mst M 22 0 20 ((M 22 0 20) + 1)) fun M25 =>
  k0 M25
set_option maxRecDepth 20000 in
theorem sX11_next_J39 {g : GP} {l : Launch} {x : CT} {k0 : Mem → Option (Unit × Mem)} (ok : Ok g l x RX11 cX11_next 3 none (rmL 3))   (hk0 : ∀  (M : Mem), Sw g l x (FinQ g x eV) 3 0 0 0 [(0, .ref (gA g 22 0))] [] M (k0 M)) (M : Mem) : Sw g l x (FinQ g x eV) 3 0 0 39 [(0, .ref (gA g 22 0))] [] M (fX11_next_J39 k0  M) := by
  unfold fX11_next_J39
  refine r_aload_n (pc := 39) ok 0 dX11_next_39 rfl ?_
  refine r_dup (pc := 40) ok dX11_next_40 rfl ?_
  refine r_getI (pc := 41) ok fi_22_20 (by decide) fl_X11_111 dX11_next_41 ?_
  refine r_iconst (pc := 44) ok 1 dX11_next_44 (by decide) ?_
  refine r_iadd (pc := 45) ok dX11_next_45 ?_
  refine r_putI (pc := 46) ok fi_22_20 (by decide) fl_X11_111 fp_22_20 ⟨rfl, rfl⟩ dX11_next_46 ?_
  refine r_nmM (fun M25 => ?_)
  refine r_goto (pc := 49) ok 0 dX11_next_49 (by decide) ?_
  refine r_lv [0] [(0, .ref (gA g 22 0))] rfl ?_
  exact hk0 M25
def fX11_next_B0  (k0 : Mem → Option (Unit × Mem))  (M : Mem) : Option (Unit × Mem) :=
  if (M 22 0 8) ≤ (M 22 0 20) then
    (fX11_next_J52 M)
  else
    (gd (inb (M 22 0 20) 160)
    (if (M 28 0 (M 22 0 20).toNatClampNeg) = 32 then
      (fX11_next_J39 k0 M)
    else
      (gd (inb (M 22 0 20) 160)
      (if (M 28 0 (M 22 0 20).toNatClampNeg) = 10 then
        (fX11_next_J39 k0 M)
      else
        (fX11_next_J52 M)))))
def fX11_next_L0  : Nat → Mem → Option (Unit × Mem)
  | 0, _ => none
  | n + 1, M => fX11_next_B0  (fX11_next_L0  n)  M
set_option maxRecDepth 20000 in
theorem sX11_next_B0 {g : GP} {l : Launch} {x : CT} (ok : Ok g l x RX11 cX11_next 3 none (rmL 3))   (k0 : Mem → Option (Unit × Mem)) (hk0 : ∀  (M : Mem), Sw g l x (FinQ g x eV) 3 0 0 0 [(0, .ref (gA g 22 0))] [] M (k0  M))  (M : Mem) : Sw g l x (FinQ g x eV) 3 0 0 0 [(0, .ref (gA g 22 0))] [] M (fX11_next_B0  k0  M) := by
  unfold fX11_next_B0
  refine r_aload_n (pc := 0) ok 0 dX11_next_0 rfl ?_
  refine r_getI (pc := 1) ok fi_22_20 (by decide) fl_X11_111 dX11_next_1 ?_
  refine r_aload_n (pc := 4) ok 0 dX11_next_4 rfl ?_
  refine r_getI (pc := 5) ok fi_22_8 (by decide) fl_X11_73 dX11_next_5 ?_
  refine r_icmp_ge (pc := 8) ok 52 dX11_next_8 (by decide) (fun _ => ?_) (fun _ => ?_)
  · refine r_lv [0] [(0, .ref (gA g 22 0))] rfl ?_
    exact sX11_next_J52 ok M
  · refine r_aload_n (pc := 11) ok 0 dX11_next_11 rfl ?_
    refine r_getR (pc := 12) ok fr_22_7 (by decide) fl_X11_25 dX11_next_12 ?_
    refine r_aload_n (pc := 15) ok 0 dX11_next_15 rfl ?_
    refine r_getI (pc := 16) ok fi_22_20 (by decide) fl_X11_111 dX11_next_16 ?_
    refine r_iald (pc := 19) ok ik_28 (by decide) dX11_next_19 (fun _ => ?_)
    refine r_bipush (pc := 20) ok 32 dX11_next_20 (by decide) ?_
    refine r_icmp_eq (pc := 22) ok 39 dX11_next_22 (by decide) (fun _ => ?_) (fun _ => ?_)
    · refine r_lv [0] [(0, .ref (gA g 22 0))] rfl ?_
      exact sX11_next_J39 ok hk0 M
    · refine r_aload_n (pc := 25) ok 0 dX11_next_25 rfl ?_
      refine r_getR (pc := 26) ok fr_22_7 (by decide) fl_X11_25 dX11_next_26 ?_
      refine r_aload_n (pc := 29) ok 0 dX11_next_29 rfl ?_
      refine r_getI (pc := 30) ok fi_22_20 (by decide) fl_X11_111 dX11_next_30 ?_
      refine r_iald (pc := 33) ok ik_28 (by decide) dX11_next_33 (fun _ => ?_)
      refine r_bipush (pc := 34) ok 10 dX11_next_34 (by decide) ?_
      refine r_icmp_ne (pc := 36) ok 52 dX11_next_36 (by decide) (fun _ => ?_) (fun _ => ?_)
      · refine r_lv [0] [(0, .ref (gA g 22 0))] rfl ?_
        exact sX11_next_J39 ok hk0 M
      · refine r_lv [0] [(0, .ref (gA g 22 0))] rfl ?_
        exact sX11_next_J52 ok M
theorem sX11_next_L0 {g : GP} {l : Launch} {x : CT} (ok : Ok g l x RX11 cX11_next 3 none (rmL 3))   : ∀ (n : Nat)  (M : Mem), Sw g l x (FinQ g x eV) 3 0 0 0 [(0, .ref (gA g 22 0))] [] M (fX11_next_L0  n  M) := by
  intro n
  induction n with
  | zero => intros; exact r_none
  | succ n ih => intro  M; exact sX11_next_B0 ok   _ ih  M
def fX11_next  (M : Mem) : Option (Unit × Mem) :=
  fX11_next_L0 FU M
set_option maxRecDepth 20000 in
theorem wX11_next {g : GP} {l : Launch} {x : CT} (ok : Ok g l x RX11 cX11_next 3 none (rmL 3))   (M : Mem) : Sw g l x (FinQ g x eV) 3 0 0 0 [(0, .ref (gA g 22 0))] [] M (fX11_next  M) := by
  unfold fX11_next
  refine r_lv [0] [(0, .ref (gA g 22 0))] rfl ?_
  exact sX11_next_L0 ok FU M
theorem con_X11_next (g : GP) (l : Launch)   (M : Mem) (r : Unit) (M2 : Mem) (h : fX11_next  M = some (r, M2)) : Con g l yX11_next cX11_next 3 none (rmL 3) [.ref (gA g 22 0)] M (eV r) M2 :=
  Con.of (own := RX11) (f := fX11_next  M) (by decide) (Nat.le_of_ble_eq_true rfl) rfl (fun x ok => wX11_next ok   M) r M2 h
def fX11_unwinds_J67 (k0 : Mem → Option (Unit × Mem)) (vq1 : Int32) (vq2 : Int32) (s0 : Int32) (s1 : Int32) (M : Mem) : Option (Unit × Mem) :=
  lt (mst M 22 0 27 (s1 - s0)) fun M5 =>
  ob (fX11_puts vq2 M5) fun r6 M7 =>
  k0 M7
set_option maxRecDepth 20000 in
theorem sX11_unwinds_J67 {g : GP} {l : Launch} {x : CT} {k0 : Mem → Option (Unit × Mem)} (ok : Ok g l x RX11 cX11_unwinds 3 none (rmL 3)) (vq1 : Int32) (vq2 : Int32) (s0 : Int32) (s1 : Int32)  (hk0 : ∀  (M : Mem), Sw g l x (FinQ g x eV) 3 0 0 0 [(0, .ref (gA g 22 0)), (1, .int vq1)] [] M (k0 M)) (M : Mem) : Sw g l x (FinQ g x eV) 3 0 0 67 [(0, .ref (gA g 22 0)), (1, .int vq1), (2, .int vq2)] [.int s0, .int s1, .ref (gA g 22 0)] M (fX11_unwinds_J67 k0 vq1 vq2 s0 s1 M) := by
  unfold fX11_unwinds_J67
  refine r_isub (pc := 67) ok dX11_unwinds_67 ?_
  refine r_putI (pc := 68) ok fi_22_27 (by decide) fl_X11_136 fp_22_27 ⟨rfl, rfl⟩ dX11_unwinds_68 ?_
  refine r_nmM (fun M5 => ?_)
  refine r_aload_n (pc := 71) ok 0 dX11_unwinds_71 rfl ?_
  refine r_iload_n (pc := 72) ok 2 dX11_unwinds_72 rfl ?_
  refine r_callV0 (pc := 73) ok [.int vq2] [] 2 (fun rZ MZ hZ => con_X11_puts g l vq2 _ rZ MZ hZ) cv_X11_139 ok_22 (rmOk_L (by decide) (by decide)) dX11_unwinds_73 rfl rfl (Nat.le_of_ble_eq_true rfl) (fun r6 M7 => ?_)
  refine r_goto (pc := 76) ok 0 dX11_unwinds_76 (by decide) ?_
  refine r_lv [0, 1] [(0, .ref (gA g 22 0)), (1, .int vq1)] rfl ?_
  exact hk0 M7
def fX11_unwinds_J62 (k0 : Mem → Option (Unit × Mem)) (vq1 : Int32) (vq2 : Int32) (s0 : Int32) (M : Mem) : Option (Unit × Mem) :=
  fX11_unwinds_J67 k0 vq1 vq2 1 s0 M
set_option maxRecDepth 20000 in
theorem sX11_unwinds_J62 {g : GP} {l : Launch} {x : CT} {k0 : Mem → Option (Unit × Mem)} (ok : Ok g l x RX11 cX11_unwinds 3 none (rmL 3)) (vq1 : Int32) (vq2 : Int32) (s0 : Int32)  (hk0 : ∀  (M : Mem), Sw g l x (FinQ g x eV) 3 0 0 0 [(0, .ref (gA g 22 0)), (1, .int vq1)] [] M (k0 M)) (M : Mem) : Sw g l x (FinQ g x eV) 3 0 0 62 [(0, .ref (gA g 22 0)), (1, .int vq1), (2, .int vq2)] [.int s0, .ref (gA g 22 0)] M (fX11_unwinds_J62 k0 vq1 vq2 s0 M) := by
  unfold fX11_unwinds_J62
  refine r_iconst (pc := 62) ok 1 dX11_unwinds_62 (by decide) ?_
  refine r_goto (pc := 63) ok 67 dX11_unwinds_63 (by decide) ?_
  refine r_lv [0, 1, 2] [(0, .ref (gA g 22 0)), (1, .int vq1), (2, .int vq2)] rfl ?_
  exact sX11_unwinds_J67 ok vq1 vq2 1 s0 hk0 M
def fX11_unwinds_B0 (vq1 : Int32) (k0 : Mem → Option (Unit × Mem))  (M : Mem) : Option (Unit × Mem) :=
  if (M 22 0 26) ≤ 0 then
    (some ((), M))
  else
    (gd (inb ((M 22 0 26) - 1) 200)
    (ob (fX11_rank (M 38 0 ((M 22 0 26) - 1).toNatClampNeg) M) fun r1 M2 =>
    if r1 < vq1 then
      (some ((), M2))
    else
      (lt (mst M2 22 0 26 ((M2 22 0 26) - 1)) fun M3 =>
      gd (inb (M3 22 0 26) 200)
      (lt (M3 38 0 (M3 22 0 26).toNatClampNeg) fun w4 =>
      if w4 = 13 then
        (fX11_unwinds_J62 k0 vq1 w4 (M3 22 0 27) M3)
      else
        (if w4 = 19 then
          (fX11_unwinds_J62 k0 vq1 w4 (M3 22 0 27) M3)
        else
          (fX11_unwinds_J67 k0 vq1 w4 0 (M3 22 0 27) M3))))))
def fX11_unwinds_L0 (vq1 : Int32) : Nat → Mem → Option (Unit × Mem)
  | 0, _ => none
  | n + 1, M => fX11_unwinds_B0 vq1 (fX11_unwinds_L0 vq1 n)  M
set_option maxRecDepth 20000 in
theorem sX11_unwinds_B0 {g : GP} {l : Launch} {x : CT} (ok : Ok g l x RX11 cX11_unwinds 3 none (rmL 3)) (vq1 : Int32)  (k0 : Mem → Option (Unit × Mem)) (hk0 : ∀  (M : Mem), Sw g l x (FinQ g x eV) 3 0 0 0 [(0, .ref (gA g 22 0)), (1, .int vq1)] [] M (k0  M))  (M : Mem) : Sw g l x (FinQ g x eV) 3 0 0 0 [(0, .ref (gA g 22 0)), (1, .int vq1)] [] M (fX11_unwinds_B0 vq1 k0  M) := by
  unfold fX11_unwinds_B0
  refine r_aload_n (pc := 0) ok 0 dX11_unwinds_0 rfl ?_
  refine r_getI (pc := 1) ok fi_22_26 (by decide) fl_X11_129 dX11_unwinds_1 ?_
  refine r_if_le (pc := 4) ok 79 dX11_unwinds_4 (by decide) (fun _ => ?_) (fun _ => ?_)
  · exact r_vret (pc := 79) ok (Nat.zero_le _) (Nat.zero_le _) rfl dX11_unwinds_79
  · refine r_aload_n (pc := 7) ok 0 dX11_unwinds_7 rfl ?_
    refine r_getR (pc := 8) ok fr_22_25 (by decide) fl_X11_55 dX11_unwinds_8 ?_
    refine r_aload_n (pc := 11) ok 0 dX11_unwinds_11 rfl ?_
    refine r_getI (pc := 12) ok fi_22_26 (by decide) fl_X11_129 dX11_unwinds_12 ?_
    refine r_iconst (pc := 15) ok 1 dX11_unwinds_15 (by decide) ?_
    refine r_isub (pc := 16) ok dX11_unwinds_16 ?_
    refine r_iald (pc := 17) ok ik_38 (by decide) dX11_unwinds_17 (fun _ => ?_)
    refine r_callS0 (pc := 18) ok [.int (M 38 0 ((M 22 0 26) - 1).toNatClampNeg)] [] 2 (fun rZ MZ hZ => con_X11_rank g l (M 38 0 ((M 22 0 26) - 1).toNatClampNeg) _ rZ MZ hZ) cs_X11_132 (rmOk_L (by decide) (by decide)) dX11_unwinds_18 rfl rfl (Nat.le_of_ble_eq_true rfl) (fun r1 M2 => ?_)
    refine r_iload_n (pc := 21) ok 1 dX11_unwinds_21 rfl ?_
    refine r_icmp_lt (pc := 22) ok 79 dX11_unwinds_22 (by decide) (fun _ => ?_) (fun _ => ?_)
    · exact r_vret (pc := 79) ok (Nat.zero_le _) (Nat.zero_le _) rfl dX11_unwinds_79
    · refine r_aload_n (pc := 25) ok 0 dX11_unwinds_25 rfl ?_
      refine r_dup (pc := 26) ok dX11_unwinds_26 rfl ?_
      refine r_getI (pc := 27) ok fi_22_26 (by decide) fl_X11_129 dX11_unwinds_27 ?_
      refine r_iconst (pc := 30) ok 1 dX11_unwinds_30 (by decide) ?_
      refine r_isub (pc := 31) ok dX11_unwinds_31 ?_
      refine r_putI (pc := 32) ok fi_22_26 (by decide) fl_X11_129 fp_22_26 ⟨rfl, rfl⟩ dX11_unwinds_32 ?_
      refine r_nmM (fun M3 => ?_)
      refine r_aload_n (pc := 35) ok 0 dX11_unwinds_35 rfl ?_
      refine r_getR (pc := 36) ok fr_22_25 (by decide) fl_X11_55 dX11_unwinds_36 ?_
      refine r_aload_n (pc := 39) ok 0 dX11_unwinds_39 rfl ?_
      refine r_getI (pc := 40) ok fi_22_26 (by decide) fl_X11_129 dX11_unwinds_40 ?_
      refine r_iald (pc := 43) ok ik_38 (by decide) dX11_unwinds_43 (fun _ => ?_)
      refine r_nmi (fun w4 => ?_)
      refine r_istore_n (pc := 44) ok [(2, .int w4), (0, .ref (gA g 22 0)), (1, .int vq1)] dX11_unwinds_44 rfl (by decide) rfl ?_
      refine r_aload_n (pc := 45) ok 1 dX11_unwinds_45 rfl ?_
      refine r_dup (pc := 46) ok dX11_unwinds_46 rfl ?_
      refine r_getI (pc := 47) ok fi_22_27 (by decide) fl_X11_136 dX11_unwinds_47 ?_
      refine r_iload_n (pc := 50) ok 0 dX11_unwinds_50 rfl ?_
      refine r_bipush (pc := 51) ok 13 dX11_unwinds_51 (by decide) ?_
      refine r_icmp_eq (pc := 53) ok 62 dX11_unwinds_53 (by decide) (fun _ => ?_) (fun _ => ?_)
      · refine r_lv [1, 2, 0] [(0, .ref (gA g 22 0)), (1, .int vq1), (2, .int w4)] rfl ?_
        exact sX11_unwinds_J62 ok vq1 w4 (M3 22 0 27) hk0 M3
      · refine r_iload_n (pc := 56) ok 0 dX11_unwinds_56 rfl ?_
        refine r_bipush (pc := 57) ok 19 dX11_unwinds_57 (by decide) ?_
        refine r_icmp_ne (pc := 59) ok 66 dX11_unwinds_59 (by decide) (fun _ => ?_) (fun _ => ?_)
        · refine r_lv [1, 2, 0] [(0, .ref (gA g 22 0)), (1, .int vq1), (2, .int w4)] rfl ?_
          exact sX11_unwinds_J62 ok vq1 w4 (M3 22 0 27) hk0 M3
        · refine r_iconst (pc := 66) ok 0 dX11_unwinds_66 (by decide) ?_
          refine r_lv [1, 2, 0] [(0, .ref (gA g 22 0)), (1, .int vq1), (2, .int w4)] rfl ?_
          exact sX11_unwinds_J67 ok vq1 w4 0 (M3 22 0 27) hk0 M3
theorem sX11_unwinds_L0 {g : GP} {l : Launch} {x : CT} (ok : Ok g l x RX11 cX11_unwinds 3 none (rmL 3)) (vq1 : Int32)  : ∀ (n : Nat)  (M : Mem), Sw g l x (FinQ g x eV) 3 0 0 0 [(0, .ref (gA g 22 0)), (1, .int vq1)] [] M (fX11_unwinds_L0 vq1 n  M) := by
  intro n
  induction n with
  | zero => intros; exact r_none
  | succ n ih => intro  M; exact sX11_unwinds_B0 ok vq1  _ ih  M
def fX11_unwinds (vq1 : Int32) (M : Mem) : Option (Unit × Mem) :=
  fX11_unwinds_L0 vq1 FU M
set_option maxRecDepth 20000 in
theorem wX11_unwinds {g : GP} {l : Launch} {x : CT} (ok : Ok g l x RX11 cX11_unwinds 3 none (rmL 3)) (vq1 : Int32)  (M : Mem) : Sw g l x (FinQ g x eV) 3 0 0 0 [(0, .ref (gA g 22 0)), (1, .int vq1)] [] M (fX11_unwinds vq1 M) := by
  unfold fX11_unwinds
  refine r_lv [0, 1] [(0, .ref (gA g 22 0)), (1, .int vq1)] rfl ?_
  exact sX11_unwinds_L0 ok vq1 FU M
theorem con_X11_unwinds (g : GP) (l : Launch) (vq1 : Int32)  (M : Mem) (r : Unit) (M2 : Mem) (h : fX11_unwinds vq1 M = some (r, M2)) : Con g l yX11_unwinds cX11_unwinds 3 none (rmL 3) [.ref (gA g 22 0), .int vq1] M (eV r) M2 :=
  Con.of (own := RX11) (f := fX11_unwinds vq1 M) (by decide) (Nat.le_of_ble_eq_true rfl) rfl (fun x ok => wX11_unwinds ok vq1  M) r M2 h
def fX11_opensOne (vq1 : Int32) (M : Mem) : Option (Int32 × Mem) :=
  if (M 22 0 27) = 5 then
    (some (0, M))
  else
    (lt (mst M 22 0 27 ((M 22 0 27) + 1)) fun M1 =>
    ob (fX11_holdsText vq1 M1) fun r2 M3 =>
    some (1, M3))
set_option maxRecDepth 20000 in
theorem wX11_opensOne {g : GP} {l : Launch} {x : CT} (ok : Ok g l x RX11 cX11_opensOne 2 (some FieldType.boolean) (rmL 3)) (vq1 : Int32)  (M : Mem) : Sw g l x (FinQ g x eI) 2 0 0 0 [(0, .ref (gA g 22 0)), (1, .int vq1)] [] M (fX11_opensOne vq1 M) := by
  unfold fX11_opensOne
  refine r_aload_n (pc := 0) ok 0 dX11_opensOne_0 rfl ?_
  refine r_getI (pc := 1) ok fi_22_27 (by decide) fl_X11_136 dX11_opensOne_1 ?_
  refine r_iconst (pc := 4) ok 5 dX11_opensOne_4 (by decide) ?_
  refine r_icmp_ne (pc := 5) ok 10 dX11_opensOne_5 (by decide) (fun _ => ?_) (fun _ => ?_)
  · refine r_iconst (pc := 8) ok 0 dX11_opensOne_8 (by decide) ?_
    exact r_zret (pc := 9) ok (Nat.zero_le _) (Nat.zero_le _) rfl rfl dX11_opensOne_9
  · refine r_aload_n (pc := 10) ok 0 dX11_opensOne_10 rfl ?_
    refine r_dup (pc := 11) ok dX11_opensOne_11 rfl ?_
    refine r_getI (pc := 12) ok fi_22_27 (by decide) fl_X11_136 dX11_opensOne_12 ?_
    refine r_iconst (pc := 15) ok 1 dX11_opensOne_15 (by decide) ?_
    refine r_iadd (pc := 16) ok dX11_opensOne_16 ?_
    refine r_putI (pc := 17) ok fi_22_27 (by decide) fl_X11_136 fp_22_27 ⟨rfl, rfl⟩ dX11_opensOne_17 ?_
    refine r_nmM (fun M1 => ?_)
    refine r_aload_n (pc := 20) ok 0 dX11_opensOne_20 rfl ?_
    refine r_iload_n (pc := 21) ok 1 dX11_opensOne_21 rfl ?_
    refine r_callV0 (pc := 22) ok [.int vq1] [] 2 (fun rZ MZ hZ => con_X11_holdsText g l vq1 _ rZ MZ hZ) cv_X11_143 ok_22 (rmOk_L (by decide) (by decide)) dX11_opensOne_22 rfl rfl (Nat.le_of_ble_eq_true rfl) (fun r2 M3 => ?_)
    refine r_iconst (pc := 25) ok 1 dX11_opensOne_25 (by decide) ?_
    exact r_zret (pc := 26) ok (Nat.zero_le _) (Nat.zero_le _) rfl rfl dX11_opensOne_26
theorem con_X11_opensOne (g : GP) (l : Launch) (vq1 : Int32)  (M : Mem) (r : Int32) (M2 : Mem) (h : fX11_opensOne vq1 M = some (r, M2)) : Con g l yX11_opensOne cX11_opensOne 2 (some FieldType.boolean) (rmL 3) [.ref (gA g 22 0), .int vq1] M (eI r) M2 :=
  Con.of (own := RX11) (f := fX11_opensOne vq1 M) (by decide) (Nat.le_of_ble_eq_true rfl) rfl (fun x ok => wX11_opensOne ok vq1  M) r M2 h
def fX11_says_J66 (k16 : Int32 → Int32 → Mem → Option (Int32 × Mem)) (vq1 : Int32) (vq2 : Int32) (vq3 : Int32) (vq4 : Int32) (M : Mem) : Option (Int32 × Mem) :=
  if 11 ≤ vq4 then
    (gd (inb vq2 200)
    (lt (mst M 39 0 vq2.toNatClampNeg (vq4 - 100000)) fun M3 =>
    k16 (vq2 + 1) (vq3 + 1) M3))
  else
    (gd (inb vq4 6)
    (gd (inb vq2 200)
    (lt (mst M 39 0 vq2.toNatClampNeg (M 40 0 vq4.toNatClampNeg)) fun M4 =>
    k16 (vq2 + 1) (vq3 + 1) M4)))
set_option maxRecDepth 20000 in
theorem sX11_says_J66 {g : GP} {l : Launch} {x : CT} {k16 : Int32 → Int32 → Mem → Option (Int32 × Mem)} (ok : Ok g l x RX11 cX11_says 5 (some FieldType.int) (rmL 3)) (vq1 : Int32) (vq2 : Int32) (vq3 : Int32) (vq4 : Int32)  (hk16 : ∀ (vq2 : Int32) (vq3 : Int32) (M : Mem), Sw g l x (FinQ g x eI) 5 0 0 16 [(0, .ref (gA g 22 0)), (1, .int vq1), (2, .int vq2), (3, .int vq3)] [] M (k16 vq2 vq3 M)) (M : Mem) : Sw g l x (FinQ g x eI) 5 0 0 66 [(0, .ref (gA g 22 0)), (1, .int vq1), (2, .int vq2), (3, .int vq3), (4, .int vq4)] [] M (fX11_says_J66 k16 vq1 vq2 vq3 vq4 M) := by
  unfold fX11_says_J66
  refine r_aload_n (pc := 66) ok 0 dX11_says_66 rfl ?_
  refine r_getR (pc := 67) ok fr_22_29 (by decide) fl_X11_58 dX11_says_67 ?_
  refine r_iload_n (pc := 70) ok 2 dX11_says_70 rfl ?_
  refine r_iload (pc := 71) ok 4 dX11_says_71 rfl ?_
  refine r_bipush (pc := 73) ok 11 dX11_says_73 (by decide) ?_
  refine r_icmp_ge (pc := 75) ok 88 dX11_says_75 (by decide) (fun _ => ?_) (fun _ => ?_)
  · refine r_iload (pc := 88) ok 4 dX11_says_88 rfl ?_
    refine r_ldc (pc := 90) ok wct_X11_152 dX11_says_90 ?_
    refine r_isub (pc := 92) ok dX11_says_92 ?_
    refine r_iast (pc := 93) ok ik_39 (by decide) dX11_says_93 ?_
    refine r_nmM (fun M3 => ?_)
    refine r_iinc (pc := 94) ok 2 (vq2 + 1) [(2, .int (vq2 + 1)), (0, .ref (gA g 22 0)), (1, .int vq1), (3, .int vq3), (4, .int vq4)] dX11_says_94 rfl (congrArg (fun z => vq2 + z) (by decide : Int32.ofInt 1 = (1 : Int32))) (by decide) rfl ?_
    refine r_goto (pc := 97) ok 191 dX11_says_97 (by decide) ?_
    refine r_iinc (pc := 191) ok 3 (vq3 + 1) [(3, .int (vq3 + 1)), (2, .int (vq2 + 1)), (0, .ref (gA g 22 0)), (1, .int vq1), (4, .int vq4)] dX11_says_191 rfl (congrArg (fun z => vq3 + z) (by decide : Int32.ofInt 1 = (1 : Int32))) (by decide) rfl ?_
    refine r_goto (pc := 194) ok 16 dX11_says_194 (by decide) ?_
    refine r_lv [2, 3, 1, 0] [(0, .ref (gA g 22 0)), (1, .int vq1), (2, .int (vq2 + 1)), (3, .int (vq3 + 1))] rfl ?_
    exact hk16 (vq2 + 1) (vq3 + 1) M3
  · refine r_aload_n (pc := 78) ok 0 dX11_says_78 rfl ?_
    refine r_getR (pc := 79) ok fr_22_30 (by decide) fl_X11_61 dX11_says_79 ?_
    refine r_iload (pc := 82) ok 4 dX11_says_82 rfl ?_
    refine r_iald (pc := 84) ok ik_40 (by decide) dX11_says_84 (fun _ => ?_)
    refine r_goto (pc := 85) ok 93 dX11_says_85 (by decide) ?_
    refine r_iast (pc := 93) ok ik_39 (by decide) dX11_says_93 ?_
    refine r_nmM (fun M4 => ?_)
    refine r_iinc (pc := 94) ok 2 (vq2 + 1) [(2, .int (vq2 + 1)), (0, .ref (gA g 22 0)), (1, .int vq1), (3, .int vq3), (4, .int vq4)] dX11_says_94 rfl (congrArg (fun z => vq2 + z) (by decide : Int32.ofInt 1 = (1 : Int32))) (by decide) rfl ?_
    refine r_goto (pc := 97) ok 191 dX11_says_97 (by decide) ?_
    refine r_iinc (pc := 191) ok 3 (vq3 + 1) [(3, .int (vq3 + 1)), (2, .int (vq2 + 1)), (0, .ref (gA g 22 0)), (1, .int vq1), (4, .int vq4)] dX11_says_191 rfl (congrArg (fun z => vq3 + z) (by decide : Int32.ofInt 1 = (1 : Int32))) (by decide) rfl ?_
    refine r_goto (pc := 194) ok 16 dX11_says_194 (by decide) ?_
    refine r_lv [2, 3, 1, 0] [(0, .ref (gA g 22 0)), (1, .int vq1), (2, .int (vq2 + 1)), (3, .int (vq3 + 1))] rfl ?_
    exact hk16 (vq2 + 1) (vq3 + 1) M4
def fX11_says_B16 (vq1 : Int32) (k16 : Int32 → Int32 → Mem → Option (Int32 × Mem)) (vq2 : Int32) (vq3 : Int32) (M : Mem) : Option (Int32 × Mem) :=
  gd (inb (((4 * (M 22 0 12)) + vq1) + 1) 24)
  (if (M 30 0 (((4 * (M 22 0 12)) + vq1) + 1).toNatClampNeg) ≤ vq3 then
    (gd (inb 0 200)
    (some (M 39 0 (0 : Int32).toNatClampNeg, M)))
  else
    (gd (inb ((200 * (M 22 0 12)) + vq3) 1200)
    (lt (M 29 0 ((200 * (M 22 0 12)) + vq3).toNatClampNeg) fun w2 =>
    if 100000 ≤ w2 then
      (fX11_says_J66 k16 vq1 vq2 vq3 w2 M)
    else
      (if 11 ≤ w2 then
        (if w2 = 13 then
          (gd (inb (vq2 - 1) 200)
          (if (M 39 0 (vq2 - 1).toNatClampNeg) = 0 then
            (gd (inb (vq2 - 1) 200)
            (lt (mst M 39 0 (vq2 - 1).toNatClampNeg 1) fun M10 =>
            k16 vq2 (vq3 + 1) M10))
          else
            (gd (inb (vq2 - 1) 200)
            (lt (mst M 39 0 (vq2 - 1).toNatClampNeg 0) fun M9 =>
            k16 vq2 (vq3 + 1) M9))))
        else
          (if w2 = 19 then
            (gd (inb (vq2 - 1) 200)
            (gd (inb (vq2 - 1) 200)
            (lt (mst M 39 0 (vq2 - 1).toNatClampNeg (-(M 39 0 (vq2 - 1).toNatClampNeg))) fun M8 =>
            k16 vq2 (vq3 + 1) M8)))
          else
            (gd (inb ((vq2 + (-1)) - 1) 200)
            (gd (inb (vq2 + (-1)) 200)
            (ob (fX11_two w2 (M 39 0 ((vq2 + (-1)) - 1).toNatClampNeg) (M 39 0 (vq2 + (-1)).toNatClampNeg) M) fun r5 M6 =>
            gd (inb ((vq2 + (-1)) - 1) 200)
            (lt (mst M6 39 0 ((vq2 + (-1)) - 1).toNatClampNeg r5) fun M7 =>
            k16 (vq2 + (-1)) (vq3 + 1) M7))))))
      else
        (fX11_says_J66 k16 vq1 vq2 vq3 w2 M)))))
def fX11_says_L16 (vq1 : Int32) : Nat → Int32 → Int32 → Mem → Option (Int32 × Mem)
  | 0, _, _, _ => none
  | n + 1, vq2, vq3, M => fX11_says_B16 vq1 (fX11_says_L16 vq1 n) vq2 vq3 M
set_option maxRecDepth 20000 in
theorem sX11_says_B16 {g : GP} {l : Launch} {x : CT} (ok : Ok g l x RX11 cX11_says 5 (some FieldType.int) (rmL 3)) (vq1 : Int32)  (k16 : Int32 → Int32 → Mem → Option (Int32 × Mem)) (hk16 : ∀ (vq2 : Int32) (vq3 : Int32) (M : Mem), Sw g l x (FinQ g x eI) 5 0 0 16 [(0, .ref (gA g 22 0)), (1, .int vq1), (2, .int vq2), (3, .int vq3)] [] M (k16 vq2 vq3 M)) (vq2 : Int32) (vq3 : Int32) (M : Mem) : Sw g l x (FinQ g x eI) 5 0 0 16 [(0, .ref (gA g 22 0)), (1, .int vq1), (2, .int vq2), (3, .int vq3)] [] M (fX11_says_B16 vq1 k16 vq2 vq3 M) := by
  unfold fX11_says_B16
  refine r_iload_n (pc := 16) ok 3 dX11_says_16 rfl ?_
  refine r_aload_n (pc := 17) ok 0 dX11_says_17 rfl ?_
  refine r_getR (pc := 18) ok fr_22_10 (by decide) fl_X11_31 dX11_says_18 ?_
  refine r_iconst (pc := 21) ok 4 dX11_says_21 (by decide) ?_
  refine r_aload_n (pc := 22) ok 0 dX11_says_22 rfl ?_
  refine r_getI (pc := 23) ok fi_22_12 (by decide) fl_X11_101 dX11_says_23 ?_
  refine r_imul (pc := 26) ok dX11_says_26 ?_
  refine r_iload_n (pc := 27) ok 1 dX11_says_27 rfl ?_
  refine r_iadd (pc := 28) ok dX11_says_28 ?_
  refine r_iconst (pc := 29) ok 1 dX11_says_29 (by decide) ?_
  refine r_iadd (pc := 30) ok dX11_says_30 ?_
  refine r_iald (pc := 31) ok ik_30 (by decide) dX11_says_31 (fun _ => ?_)
  refine r_icmp_ge (pc := 32) ok 197 dX11_says_32 (by decide) (fun _ => ?_) (fun _ => ?_)
  · refine r_aload_n (pc := 197) ok 0 dX11_says_197 rfl ?_
    refine r_getR (pc := 198) ok fr_22_29 (by decide) fl_X11_58 dX11_says_198 ?_
    refine r_iconst (pc := 201) ok 0 dX11_says_201 (by decide) ?_
    refine r_iald (pc := 202) ok ik_39 (by decide) dX11_says_202 (fun _ => ?_)
    exact r_iret (pc := 203) ok (Nat.zero_le _) (Nat.zero_le _) rfl dX11_says_203
  · refine r_aload_n (pc := 35) ok 0 dX11_says_35 rfl ?_
    refine r_getR (pc := 36) ok fr_22_9 (by decide) fl_X11_28 dX11_says_36 ?_
    refine r_sipush (pc := 39) ok 200 dX11_says_39 (by decide) ?_
    refine r_aload_n (pc := 42) ok 0 dX11_says_42 rfl ?_
    refine r_getI (pc := 43) ok fi_22_12 (by decide) fl_X11_101 dX11_says_43 ?_
    refine r_imul (pc := 46) ok dX11_says_46 ?_
    refine r_iload_n (pc := 47) ok 3 dX11_says_47 rfl ?_
    refine r_iadd (pc := 48) ok dX11_says_48 ?_
    refine r_iald (pc := 49) ok ik_29 (by decide) dX11_says_49 (fun _ => ?_)
    refine r_nmi (fun w2 => ?_)
    refine r_istore (pc := 50) ok [(4, .int w2), (0, .ref (gA g 22 0)), (1, .int vq1), (2, .int vq2), (3, .int vq3)] dX11_says_50 (by decide) rfl ?_
    refine r_iload (pc := 52) ok 0 dX11_says_52 rfl ?_
    refine r_ldc (pc := 54) ok wct_X11_152 dX11_says_54 ?_
    refine r_icmp_ge (pc := 56) ok 66 dX11_says_56 (by decide) (fun _ => ?_) (fun _ => ?_)
    · refine r_lv [1, 2, 3, 4, 0] [(0, .ref (gA g 22 0)), (1, .int vq1), (2, .int vq2), (3, .int vq3), (4, .int w2)] rfl ?_
      exact sX11_says_J66 ok vq1 vq2 vq3 w2 hk16 M
    · refine r_iload (pc := 59) ok 0 dX11_says_59 rfl ?_
      refine r_bipush (pc := 61) ok 11 dX11_says_61 (by decide) ?_
      refine r_icmp_ge (pc := 63) ok 100 dX11_says_63 (by decide) (fun _ => ?_) (fun _ => ?_)
      · refine r_iload (pc := 100) ok 0 dX11_says_100 rfl ?_
        refine r_bipush (pc := 102) ok 13 dX11_says_102 (by decide) ?_
        refine r_icmp_ne (pc := 104) ok 134 dX11_says_104 (by decide) (fun _ => ?_) (fun _ => ?_)
        · refine r_aload_n (pc := 107) ok 1 dX11_says_107 rfl ?_
          refine r_getR (pc := 108) ok fr_22_29 (by decide) fl_X11_58 dX11_says_108 ?_
          refine r_iload_n (pc := 111) ok 3 dX11_says_111 rfl ?_
          refine r_iconst (pc := 112) ok 1 dX11_says_112 (by decide) ?_
          refine r_isub (pc := 113) ok dX11_says_113 ?_
          refine r_aload_n (pc := 114) ok 1 dX11_says_114 rfl ?_
          refine r_getR (pc := 115) ok fr_22_29 (by decide) fl_X11_58 dX11_says_115 ?_
          refine r_iload_n (pc := 118) ok 3 dX11_says_118 rfl ?_
          refine r_iconst (pc := 119) ok 1 dX11_says_119 (by decide) ?_
          refine r_isub (pc := 120) ok dX11_says_120 ?_
          refine r_iald (pc := 121) ok ik_39 (by decide) dX11_says_121 (fun _ => ?_)
          refine r_if_ne (pc := 122) ok 129 dX11_says_122 (by decide) (fun _ => ?_) (fun _ => ?_)
          · refine r_iconst (pc := 125) ok 1 dX11_says_125 (by decide) ?_
            refine r_goto (pc := 126) ok 130 dX11_says_126 (by decide) ?_
            refine r_iast (pc := 130) ok ik_39 (by decide) dX11_says_130 ?_
            refine r_nmM (fun M10 => ?_)
            refine r_goto (pc := 131) ok 191 dX11_says_131 (by decide) ?_
            refine r_iinc (pc := 191) ok 4 (vq3 + 1) [(3, .int (vq3 + 1)), (4, .int w2), (0, .ref (gA g 22 0)), (1, .int vq1), (2, .int vq2)] dX11_says_191 rfl (congrArg (fun z => vq3 + z) (by decide : Int32.ofInt 1 = (1 : Int32))) (by decide) rfl ?_
            refine r_goto (pc := 194) ok 16 dX11_says_194 (by decide) ?_
            refine r_lv [2, 3, 4, 0] [(0, .ref (gA g 22 0)), (1, .int vq1), (2, .int vq2), (3, .int (vq3 + 1))] rfl ?_
            exact hk16 vq2 (vq3 + 1) M10
          · refine r_iconst (pc := 129) ok 0 dX11_says_129 (by decide) ?_
            refine r_iast (pc := 130) ok ik_39 (by decide) dX11_says_130 ?_
            refine r_nmM (fun M9 => ?_)
            refine r_goto (pc := 131) ok 191 dX11_says_131 (by decide) ?_
            refine r_iinc (pc := 191) ok 4 (vq3 + 1) [(3, .int (vq3 + 1)), (4, .int w2), (0, .ref (gA g 22 0)), (1, .int vq1), (2, .int vq2)] dX11_says_191 rfl (congrArg (fun z => vq3 + z) (by decide : Int32.ofInt 1 = (1 : Int32))) (by decide) rfl ?_
            refine r_goto (pc := 194) ok 16 dX11_says_194 (by decide) ?_
            refine r_lv [2, 3, 4, 0] [(0, .ref (gA g 22 0)), (1, .int vq1), (2, .int vq2), (3, .int (vq3 + 1))] rfl ?_
            exact hk16 vq2 (vq3 + 1) M9
        · refine r_iload (pc := 134) ok 0 dX11_says_134 rfl ?_
          refine r_bipush (pc := 136) ok 19 dX11_says_136 (by decide) ?_
          refine r_icmp_ne (pc := 138) ok 161 dX11_says_138 (by decide) (fun _ => ?_) (fun _ => ?_)
          · refine r_aload_n (pc := 141) ok 1 dX11_says_141 rfl ?_
            refine r_getR (pc := 142) ok fr_22_29 (by decide) fl_X11_58 dX11_says_142 ?_
            refine r_iload_n (pc := 145) ok 3 dX11_says_145 rfl ?_
            refine r_iconst (pc := 146) ok 1 dX11_says_146 (by decide) ?_
            refine r_isub (pc := 147) ok dX11_says_147 ?_
            refine r_aload_n (pc := 148) ok 1 dX11_says_148 rfl ?_
            refine r_getR (pc := 149) ok fr_22_29 (by decide) fl_X11_58 dX11_says_149 ?_
            refine r_iload_n (pc := 152) ok 3 dX11_says_152 rfl ?_
            refine r_iconst (pc := 153) ok 1 dX11_says_153 (by decide) ?_
            refine r_isub (pc := 154) ok dX11_says_154 ?_
            refine r_iald (pc := 155) ok ik_39 (by decide) dX11_says_155 (fun _ => ?_)
            refine r_ineg (pc := 156) ok dX11_says_156 ?_
            refine r_iast (pc := 157) ok ik_39 (by decide) dX11_says_157 ?_
            refine r_nmM (fun M8 => ?_)
            refine r_goto (pc := 158) ok 191 dX11_says_158 (by decide) ?_
            refine r_iinc (pc := 191) ok 4 (vq3 + 1) [(3, .int (vq3 + 1)), (4, .int w2), (0, .ref (gA g 22 0)), (1, .int vq1), (2, .int vq2)] dX11_says_191 rfl (congrArg (fun z => vq3 + z) (by decide : Int32.ofInt 1 = (1 : Int32))) (by decide) rfl ?_
            refine r_goto (pc := 194) ok 16 dX11_says_194 (by decide) ?_
            refine r_lv [2, 3, 4, 0] [(0, .ref (gA g 22 0)), (1, .int vq1), (2, .int vq2), (3, .int (vq3 + 1))] rfl ?_
            exact hk16 vq2 (vq3 + 1) M8
          · refine r_iinc (pc := 161) ok 3 (vq2 + (-1)) [(2, .int (vq2 + (-1))), (4, .int w2), (0, .ref (gA g 22 0)), (1, .int vq1), (3, .int vq3)] dX11_says_161 rfl (congrArg (fun z => vq2 + z) (by decide : Int32.ofInt (-1) = ((-1) : Int32))) (by decide) rfl ?_
            refine r_aload_n (pc := 164) ok 2 dX11_says_164 rfl ?_
            refine r_getR (pc := 165) ok fr_22_29 (by decide) fl_X11_58 dX11_says_165 ?_
            refine r_iload_n (pc := 168) ok 0 dX11_says_168 rfl ?_
            refine r_iconst (pc := 169) ok 1 dX11_says_169 (by decide) ?_
            refine r_isub (pc := 170) ok dX11_says_170 ?_
            refine r_iload (pc := 171) ok 1 dX11_says_171 rfl ?_
            refine r_aload_n (pc := 173) ok 2 dX11_says_173 rfl ?_
            refine r_getR (pc := 174) ok fr_22_29 (by decide) fl_X11_58 dX11_says_174 ?_
            refine r_iload_n (pc := 177) ok 0 dX11_says_177 rfl ?_
            refine r_iconst (pc := 178) ok 1 dX11_says_178 (by decide) ?_
            refine r_isub (pc := 179) ok dX11_says_179 ?_
            refine r_iald (pc := 180) ok ik_39 (by decide) dX11_says_180 (fun _ => ?_)
            refine r_aload_n (pc := 181) ok 2 dX11_says_181 rfl ?_
            refine r_getR (pc := 182) ok fr_22_29 (by decide) fl_X11_58 dX11_says_182 ?_
            refine r_iload_n (pc := 185) ok 0 dX11_says_185 rfl ?_
            refine r_iald (pc := 186) ok ik_39 (by decide) dX11_says_186 (fun _ => ?_)
            refine r_callS0 (pc := 187) ok [.int w2, .int (M 39 0 ((vq2 + (-1)) - 1).toNatClampNeg), .int (M 39 0 (vq2 + (-1)).toNatClampNeg)] [.int ((vq2 + (-1)) - 1), .ref (gA g 39 0)] 2 (fun rZ MZ hZ => con_X11_two g l w2 (M 39 0 ((vq2 + (-1)) - 1).toNatClampNeg) (M 39 0 (vq2 + (-1)).toNatClampNeg) _ rZ MZ hZ) cs_X11_166 (rmOk_L (by decide) (by decide)) dX11_says_187 rfl rfl (Nat.le_of_ble_eq_true rfl) (fun r5 M6 => ?_)
            refine r_iast (pc := 190) ok ik_39 (by decide) dX11_says_190 ?_
            refine r_nmM (fun M7 => ?_)
            refine r_iinc (pc := 191) ok 4 (vq3 + 1) [(3, .int (vq3 + 1)), (2, .int (vq2 + (-1))), (4, .int w2), (0, .ref (gA g 22 0)), (1, .int vq1)] dX11_says_191 rfl (congrArg (fun z => vq3 + z) (by decide : Int32.ofInt 1 = (1 : Int32))) (by decide) rfl ?_
            refine r_goto (pc := 194) ok 16 dX11_says_194 (by decide) ?_
            refine r_lv [3, 4, 1, 0] [(0, .ref (gA g 22 0)), (1, .int vq1), (2, .int (vq2 + (-1))), (3, .int (vq3 + 1))] rfl ?_
            exact hk16 (vq2 + (-1)) (vq3 + 1) M7
      · refine r_lv [1, 2, 3, 4, 0] [(0, .ref (gA g 22 0)), (1, .int vq1), (2, .int vq2), (3, .int vq3), (4, .int w2)] rfl ?_
        exact sX11_says_J66 ok vq1 vq2 vq3 w2 hk16 M
theorem sX11_says_L16 {g : GP} {l : Launch} {x : CT} (ok : Ok g l x RX11 cX11_says 5 (some FieldType.int) (rmL 3)) (vq1 : Int32)  : ∀ (n : Nat) (vq2 : Int32) (vq3 : Int32) (M : Mem), Sw g l x (FinQ g x eI) 5 0 0 16 [(0, .ref (gA g 22 0)), (1, .int vq1), (2, .int vq2), (3, .int vq3)] [] M (fX11_says_L16 vq1 n vq2 vq3 M) := by
  intro n
  induction n with
  | zero => intros; exact r_none
  | succ n ih => intro vq2 vq3 M; exact sX11_says_B16 ok vq1  _ ih vq2 vq3 M
def fX11_says (vq1 : Int32) (M : Mem) : Option (Int32 × Mem) :=
  gd (inb ((4 * (M 22 0 12)) + vq1) 24)
  (lt (M 30 0 ((4 * (M 22 0 12)) + vq1).toNatClampNeg) fun w1 =>
  fX11_says_L16 vq1 FU 0 w1 M)
set_option maxRecDepth 20000 in
theorem wX11_says {g : GP} {l : Launch} {x : CT} (ok : Ok g l x RX11 cX11_says 5 (some FieldType.int) (rmL 3)) (vq1 : Int32)  (M : Mem) : Sw g l x (FinQ g x eI) 5 0 0 0 [(0, .ref (gA g 22 0)), (1, .int vq1)] [] M (fX11_says vq1 M) := by
  unfold fX11_says
  refine r_iconst (pc := 0) ok 0 dX11_says_0 (by decide) ?_
  refine r_istore_n (pc := 1) ok [(2, .int 0), (0, .ref (gA g 22 0)), (1, .int vq1)] dX11_says_1 rfl (by decide) rfl ?_
  refine r_aload_n (pc := 2) ok 1 dX11_says_2 rfl ?_
  refine r_getR (pc := 3) ok fr_22_10 (by decide) fl_X11_31 dX11_says_3 ?_
  refine r_iconst (pc := 6) ok 4 dX11_says_6 (by decide) ?_
  refine r_aload_n (pc := 7) ok 1 dX11_says_7 rfl ?_
  refine r_getI (pc := 8) ok fi_22_12 (by decide) fl_X11_101 dX11_says_8 ?_
  refine r_imul (pc := 11) ok dX11_says_11 ?_
  refine r_iload_n (pc := 12) ok 2 dX11_says_12 rfl ?_
  refine r_iadd (pc := 13) ok dX11_says_13 ?_
  refine r_iald (pc := 14) ok ik_30 (by decide) dX11_says_14 (fun _ => ?_)
  refine r_nmi (fun w1 => ?_)
  refine r_istore_n (pc := 15) ok [(3, .int w1), (2, .int 0), (0, .ref (gA g 22 0)), (1, .int vq1)] dX11_says_15 rfl (by decide) rfl ?_
  refine r_lv [2, 3, 1, 0] [(0, .ref (gA g 22 0)), (1, .int vq1), (2, .int 0), (3, .int w1)] rfl ?_
  exact sX11_says_L16 ok vq1 FU 0 w1 M
theorem con_X11_says (g : GP) (l : Launch) (vq1 : Int32)  (M : Mem) (r : Int32) (M2 : Mem) (h : fX11_says vq1 M = some (r, M2)) : Con g l yX11_says cX11_says 5 (some FieldType.int) (rmL 3) [.ref (gA g 22 0), .int vq1] M (eI r) M2 :=
  Con.of (own := RX11) (f := fX11_says vq1 M) (by decide) (Nat.le_of_ble_eq_true rfl) rfl (fun x ok => wX11_says ok vq1  M) r M2 h
def fX11_force (vq1 : Int32) (M : Mem) : Option (Int32 × Mem) :=
  ob (fX11_in vq1 0 ((M 22 0 11) - 1) M) fun r1 M2 =>
  if r1 = 0 then
    (some (-2, M2))
  else
    (lt (M2 22 0 12) fun w3 =>
    lt (mst M2 22 0 12 vq1) fun M4 =>
    some (w3, M4))
set_option maxRecDepth 20000 in
theorem wX11_force {g : GP} {l : Launch} {x : CT} (ok : Ok g l x RX11 cX11_force 3 (some FieldType.int) (rmL 3)) (vq1 : Int32)  (M : Mem) : Sw g l x (FinQ g x eI) 3 0 0 0 [(0, .ref (gA g 22 0)), (1, .int vq1)] [] M (fX11_force vq1 M) := by
  unfold fX11_force
  refine r_iload_n (pc := 0) ok 1 dX11_force_0 rfl ?_
  refine r_iconst (pc := 1) ok 0 dX11_force_1 (by decide) ?_
  refine r_aload_n (pc := 2) ok 0 dX11_force_2 rfl ?_
  refine r_getI (pc := 3) ok fi_22_11 (by decide) fl_X11_98 dX11_force_3 ?_
  refine r_iconst (pc := 6) ok 1 dX11_force_6 (by decide) ?_
  refine r_isub (pc := 7) ok dX11_force_7 ?_
  refine r_callS0 (pc := 8) ok [.int vq1, .int 0, .int ((M 22 0 11) - 1)] [] 2 (fun rZ MZ hZ => con_X11_in g l vq1 0 ((M 22 0 11) - 1) _ rZ MZ hZ) cs_X11_84 (rmOk_L (by decide) (by decide)) dX11_force_8 rfl rfl (Nat.le_of_ble_eq_true rfl) (fun r1 M2 => ?_)
  refine r_if_ne (pc := 11) ok 17 dX11_force_11 (by decide) (fun _ => ?_) (fun _ => ?_)
  · refine r_bipush (pc := 14) ok (-2) dX11_force_14 (by decide) ?_
    exact r_iret (pc := 16) ok (Nat.zero_le _) (Nat.zero_le _) rfl dX11_force_16
  · refine r_aload_n (pc := 17) ok 0 dX11_force_17 rfl ?_
    refine r_getI (pc := 18) ok fi_22_12 (by decide) fl_X11_101 dX11_force_18 ?_
    refine r_nmi (fun w3 => ?_)
    refine r_istore_n (pc := 21) ok [(2, .int w3), (0, .ref (gA g 22 0)), (1, .int vq1)] dX11_force_21 rfl (by decide) rfl ?_
    refine r_aload_n (pc := 22) ok 1 dX11_force_22 rfl ?_
    refine r_iload_n (pc := 23) ok 2 dX11_force_23 rfl ?_
    refine r_putI (pc := 24) ok fi_22_12 (by decide) fl_X11_101 fp_22_12 ⟨rfl, rfl⟩ dX11_force_24 ?_
    refine r_nmM (fun M4 => ?_)
    refine r_iload_n (pc := 27) ok 0 dX11_force_27 rfl ?_
    exact r_iret (pc := 28) ok (Nat.zero_le _) (Nat.zero_le _) rfl dX11_force_28
theorem con_X11_force (g : GP) (l : Launch) (vq1 : Int32)  (M : Mem) (r : Int32) (M2 : Mem) (h : fX11_force vq1 M = some (r, M2)) : Con g l yX11_force cX11_force 3 (some FieldType.int) (rmL 3) [.ref (gA g 22 0), .int vq1] M (eI r) M2 :=
  Con.of (own := RX11) (f := fX11_force vq1 M) (by decide) (Nat.le_of_ble_eq_true rfl) rfl (fun x ok => wX11_force ok vq1  M) r M2 h
def fX11_person (vq1 : Int32) (vq2 : Int32) (M : Mem) : Option (Int32 × Mem) :=
  ob (fX11_in vq1 0 59 M) fun r1 M2 =>
  if r1 = 0 then
    (some (-2, M2))
  else
    (ob (fX11_in vq2 0 3599 M2) fun r3 M4 =>
    if r3 = 0 then
      (some (-2, M4))
    else
      (if (M4 22 0 0) = 6 then
        (some (-4, M4))
      else
        (gd (inb (M4 22 0 0) 6)
        (lt (mst M4 23 0 (M4 22 0 0).toNatClampNeg (vq1 / 10)) fun M5 =>
        gd (inb (M5 22 0 0) 6)
        (lt (mst M5 24 0 (M5 22 0 0).toNatClampNeg (irem vq1 10)) fun M6 =>
        gd (inb (M6 22 0 0) 6)
        (lt (mst M6 25 0 (M6 22 0 0).toNatClampNeg (vq2 / 100)) fun M7 =>
        gd (inb (M7 22 0 0) 6)
        (lt (mst M7 26 0 (M7 22 0 0).toNatClampNeg (irem vq2 100)) fun M8 =>
        lt (mst M8 22 0 0 ((M8 22 0 0) + 1)) fun M9 =>
        some ((M9 22 0 0) - 1, M9))))))))
set_option maxRecDepth 20000 in
theorem wX11_person {g : GP} {l : Launch} {x : CT} (ok : Ok g l x RX11 cX11_person 3 (some FieldType.int) (rmL 3)) (vq1 : Int32) (vq2 : Int32)  (M : Mem) : Sw g l x (FinQ g x eI) 3 0 0 0 [(0, .ref (gA g 22 0)), (1, .int vq1), (2, .int vq2)] [] M (fX11_person vq1 vq2 M) := by
  unfold fX11_person
  refine r_iload_n (pc := 0) ok 1 dX11_person_0 rfl ?_
  refine r_iconst (pc := 1) ok 0 dX11_person_1 (by decide) ?_
  refine r_bipush (pc := 2) ok 59 dX11_person_2 (by decide) ?_
  refine r_callS0 (pc := 4) ok [.int vq1, .int 0, .int 59] [] 2 (fun rZ MZ hZ => con_X11_in g l vq1 0 59 _ rZ MZ hZ) cs_X11_84 (rmOk_L (by decide) (by decide)) dX11_person_4 rfl rfl (Nat.le_of_ble_eq_true rfl) (fun r1 M2 => ?_)
  refine r_if_eq (pc := 7) ok 21 dX11_person_7 (by decide) (fun _ => ?_) (fun _ => ?_)
  · refine r_bipush (pc := 21) ok (-2) dX11_person_21 (by decide) ?_
    exact r_iret (pc := 23) ok (Nat.zero_le _) (Nat.zero_le _) rfl dX11_person_23
  · refine r_iload_n (pc := 10) ok 2 dX11_person_10 rfl ?_
    refine r_iconst (pc := 11) ok 0 dX11_person_11 (by decide) ?_
    refine r_sipush (pc := 12) ok 3599 dX11_person_12 (by decide) ?_
    refine r_callS0 (pc := 15) ok [.int vq2, .int 0, .int 3599] [] 2 (fun rZ MZ hZ => con_X11_in g l vq2 0 3599 _ rZ MZ hZ) cs_X11_84 (rmOk_L (by decide) (by decide)) dX11_person_15 rfl rfl (Nat.le_of_ble_eq_true rfl) (fun r3 M4 => ?_)
    refine r_if_ne (pc := 18) ok 24 dX11_person_18 (by decide) (fun _ => ?_) (fun _ => ?_)
    · refine r_bipush (pc := 21) ok (-2) dX11_person_21 (by decide) ?_
      exact r_iret (pc := 23) ok (Nat.zero_le _) (Nat.zero_le _) rfl dX11_person_23
    · refine r_aload_n (pc := 24) ok 0 dX11_person_24 rfl ?_
      refine r_getI (pc := 25) ok fi_22_0 (by decide) fl_X11_81 dX11_person_25 ?_
      refine r_bipush (pc := 28) ok 6 dX11_person_28 (by decide) ?_
      refine r_icmp_ne (pc := 30) ok 36 dX11_person_30 (by decide) (fun _ => ?_) (fun _ => ?_)
      · refine r_bipush (pc := 33) ok (-4) dX11_person_33 (by decide) ?_
        exact r_iret (pc := 35) ok (Nat.zero_le _) (Nat.zero_le _) rfl dX11_person_35
      · refine r_aload_n (pc := 36) ok 0 dX11_person_36 rfl ?_
        refine r_getR (pc := 37) ok fr_22_1 (by decide) fl_X11_7 dX11_person_37 ?_
        refine r_aload_n (pc := 40) ok 0 dX11_person_40 rfl ?_
        refine r_getI (pc := 41) ok fi_22_0 (by decide) fl_X11_81 dX11_person_41 ?_
        refine r_iload_n (pc := 44) ok 1 dX11_person_44 rfl ?_
        refine r_bipush (pc := 45) ok 10 dX11_person_45 (by decide) ?_
        refine r_idivc (pc := 47) ok (by decide) dX11_person_47 ?_
        refine r_iast (pc := 48) ok ik_23 (by decide) dX11_person_48 ?_
        refine r_nmM (fun M5 => ?_)
        refine r_aload_n (pc := 49) ok 0 dX11_person_49 rfl ?_
        refine r_getR (pc := 50) ok fr_22_2 (by decide) fl_X11_13 dX11_person_50 ?_
        refine r_aload_n (pc := 53) ok 0 dX11_person_53 rfl ?_
        refine r_getI (pc := 54) ok fi_22_0 (by decide) fl_X11_81 dX11_person_54 ?_
        refine r_iload_n (pc := 57) ok 1 dX11_person_57 rfl ?_
        refine r_bipush (pc := 58) ok 10 dX11_person_58 (by decide) ?_
        refine r_iremc (pc := 60) ok (by decide) dX11_person_60 ?_
        refine r_iast (pc := 61) ok ik_24 (by decide) dX11_person_61 ?_
        refine r_nmM (fun M6 => ?_)
        refine r_aload_n (pc := 62) ok 0 dX11_person_62 rfl ?_
        refine r_getR (pc := 63) ok fr_22_3 (by decide) fl_X11_16 dX11_person_63 ?_
        refine r_aload_n (pc := 66) ok 0 dX11_person_66 rfl ?_
        refine r_getI (pc := 67) ok fi_22_0 (by decide) fl_X11_81 dX11_person_67 ?_
        refine r_iload_n (pc := 70) ok 2 dX11_person_70 rfl ?_
        refine r_bipush (pc := 71) ok 100 dX11_person_71 (by decide) ?_
        refine r_idivc (pc := 73) ok (by decide) dX11_person_73 ?_
        refine r_iast (pc := 74) ok ik_25 (by decide) dX11_person_74 ?_
        refine r_nmM (fun M7 => ?_)
        refine r_aload_n (pc := 75) ok 0 dX11_person_75 rfl ?_
        refine r_getR (pc := 76) ok fr_22_4 (by decide) fl_X11_19 dX11_person_76 ?_
        refine r_aload_n (pc := 79) ok 0 dX11_person_79 rfl ?_
        refine r_getI (pc := 80) ok fi_22_0 (by decide) fl_X11_81 dX11_person_80 ?_
        refine r_iload_n (pc := 83) ok 2 dX11_person_83 rfl ?_
        refine r_bipush (pc := 84) ok 100 dX11_person_84 (by decide) ?_
        refine r_iremc (pc := 86) ok (by decide) dX11_person_86 ?_
        refine r_iast (pc := 87) ok ik_26 (by decide) dX11_person_87 ?_
        refine r_nmM (fun M8 => ?_)
        refine r_aload_n (pc := 88) ok 0 dX11_person_88 rfl ?_
        refine r_dup (pc := 89) ok dX11_person_89 rfl ?_
        refine r_getI (pc := 90) ok fi_22_0 (by decide) fl_X11_81 dX11_person_90 ?_
        refine r_iconst (pc := 93) ok 1 dX11_person_93 (by decide) ?_
        refine r_iadd (pc := 94) ok dX11_person_94 ?_
        refine r_putI (pc := 95) ok fi_22_0 (by decide) fl_X11_81 fp_22_0 ⟨rfl, rfl⟩ dX11_person_95 ?_
        refine r_nmM (fun M9 => ?_)
        refine r_aload_n (pc := 98) ok 0 dX11_person_98 rfl ?_
        refine r_getI (pc := 99) ok fi_22_0 (by decide) fl_X11_81 dX11_person_99 ?_
        refine r_iconst (pc := 102) ok 1 dX11_person_102 (by decide) ?_
        refine r_isub (pc := 103) ok dX11_person_103 ?_
        exact r_iret (pc := 104) ok (Nat.zero_le _) (Nat.zero_le _) rfl dX11_person_104
theorem con_X11_person (g : GP) (l : Launch) (vq1 : Int32) (vq2 : Int32)  (M : Mem) (r : Int32) (M2 : Mem) (h : fX11_person vq1 vq2 M = some (r, M2)) : Con g l yX11_person cX11_person 3 (some FieldType.int) (rmL 3) [.ref (gA g 22 0), .int vq1, .int vq2] M (eI r) M2 :=
  Con.of (own := RX11) (f := fX11_person vq1 vq2 M) (by decide) (Nat.le_of_ble_eq_true rfl) rfl (fun x ok => wX11_person ok vq1 vq2  M) r M2 h
def fX11_outermost_J69 (k4 : Int32 → Int32 → Mem → Option (Int32 × Mem)) (vq1 : Int32) (vq2 : Int32) (vq3 : Int32) (s0 : Int32) (M : Mem) : Option (Int32 × Mem) :=
  if s0 = 0 then
    (k4 vq2 (vq3 + 1) M)
  else
    (k4 vq3 (vq3 + 1) M)
set_option maxRecDepth 20000 in
theorem sX11_outermost_J69 {g : GP} {l : Launch} {x : CT} {k4 : Int32 → Int32 → Mem → Option (Int32 × Mem)} (ok : Ok g l x RX11 cX11_outermost 5 (some FieldType.int) (rmL 3)) (vq1 : Int32) (vq2 : Int32) (vq3 : Int32) (s0 : Int32)  (hk4 : ∀ (vq2 : Int32) (vq3 : Int32) (M : Mem), Sw g l x (FinQ g x eI) 5 0 0 4 [(0, .ref (gA g 22 0)), (1, .int vq1), (2, .int vq2), (3, .int vq3)] [] M (k4 vq2 vq3 M)) (M : Mem) : Sw g l x (FinQ g x eI) 5 0 0 69 [(0, .ref (gA g 22 0)), (1, .int vq1), (2, .int vq2), (3, .int vq3)] [.int s0] M (fX11_outermost_J69 k4 vq1 vq2 vq3 s0 M) := by
  unfold fX11_outermost_J69
  refine r_istore (pc := 69) ok [(4, .int s0), (0, .ref (gA g 22 0)), (1, .int vq1), (2, .int vq2), (3, .int vq3)] dX11_outermost_69 (by decide) rfl ?_
  refine r_iload (pc := 71) ok 0 dX11_outermost_71 rfl ?_
  refine r_if_eq (pc := 73) ok 80 dX11_outermost_73 (by decide) (fun _ => ?_) (fun _ => ?_)
  · refine r_iload_n (pc := 80) ok 3 dX11_outermost_80 rfl ?_
    refine r_istore_n (pc := 81) ok [(2, .int vq2), (4, .int s0), (0, .ref (gA g 22 0)), (1, .int vq1), (3, .int vq3)] dX11_outermost_81 rfl (by decide) rfl ?_
    refine r_iinc (pc := 82) ok 4 (vq3 + 1) [(3, .int (vq3 + 1)), (2, .int vq2), (4, .int s0), (0, .ref (gA g 22 0)), (1, .int vq1)] dX11_outermost_82 rfl (congrArg (fun z => vq3 + z) (by decide : Int32.ofInt 1 = (1 : Int32))) (by decide) rfl ?_
    refine r_goto (pc := 85) ok 4 dX11_outermost_85 (by decide) ?_
    refine r_lv [3, 4, 1, 0] [(0, .ref (gA g 22 0)), (1, .int vq1), (2, .int vq2), (3, .int (vq3 + 1))] rfl ?_
    exact hk4 vq2 (vq3 + 1) M
  · refine r_iload_n (pc := 76) ok 4 dX11_outermost_76 rfl ?_
    refine r_goto (pc := 77) ok 81 dX11_outermost_77 (by decide) ?_
    refine r_istore_n (pc := 81) ok [(2, .int vq3), (4, .int s0), (0, .ref (gA g 22 0)), (1, .int vq1), (3, .int vq3)] dX11_outermost_81 rfl (by decide) rfl ?_
    refine r_iinc (pc := 82) ok 4 (vq3 + 1) [(3, .int (vq3 + 1)), (2, .int vq3), (4, .int s0), (0, .ref (gA g 22 0)), (1, .int vq1)] dX11_outermost_82 rfl (congrArg (fun z => vq3 + z) (by decide : Int32.ofInt 1 = (1 : Int32))) (by decide) rfl ?_
    refine r_goto (pc := 85) ok 4 dX11_outermost_85 (by decide) ?_
    refine r_lv [3, 4, 1, 0] [(0, .ref (gA g 22 0)), (1, .int vq1), (2, .int vq3), (3, .int (vq3 + 1))] rfl ?_
    exact hk4 vq3 (vq3 + 1) M
def fX11_outermost_B4 (vq1 : Int32) (k4 : Int32 → Int32 → Mem → Option (Int32 × Mem)) (vq2 : Int32) (vq3 : Int32) (M : Mem) : Option (Int32 × Mem) :=
  if 36 ≤ vq3 then
    (some (vq2, M))
  else
    (if vq1 = 0 then
      (gd (inb vq3 36)
      (ob (fX11_within vq2 0 35 M) fun r1 M2 =>
      gd (inb r1 36)
      (if (M2 27 0 r1.toNatClampNeg) ≤ (M 27 0 vq3.toNatClampNeg) then
        (fX11_outermost_J69 k4 vq1 vq2 vq3 0 M2)
      else
        (fX11_outermost_J69 k4 vq1 vq2 vq3 1 M2))))
    else
      (gd (inb vq3 36)
      (ob (fX11_within vq2 0 35 M) fun r3 M4 =>
      gd (inb r3 36)
      (if (M 27 0 vq3.toNatClampNeg) ≤ (M4 27 0 r3.toNatClampNeg) then
        (fX11_outermost_J69 k4 vq1 vq2 vq3 0 M4)
      else
        (fX11_outermost_J69 k4 vq1 vq2 vq3 1 M4)))))
def fX11_outermost_L4 (vq1 : Int32) : Nat → Int32 → Int32 → Mem → Option (Int32 × Mem)
  | 0, _, _, _ => none
  | n + 1, vq2, vq3, M => fX11_outermost_B4 vq1 (fX11_outermost_L4 vq1 n) vq2 vq3 M
set_option maxRecDepth 20000 in
theorem sX11_outermost_B4 {g : GP} {l : Launch} {x : CT} (ok : Ok g l x RX11 cX11_outermost 5 (some FieldType.int) (rmL 3)) (vq1 : Int32)  (k4 : Int32 → Int32 → Mem → Option (Int32 × Mem)) (hk4 : ∀ (vq2 : Int32) (vq3 : Int32) (M : Mem), Sw g l x (FinQ g x eI) 5 0 0 4 [(0, .ref (gA g 22 0)), (1, .int vq1), (2, .int vq2), (3, .int vq3)] [] M (k4 vq2 vq3 M)) (vq2 : Int32) (vq3 : Int32) (M : Mem) : Sw g l x (FinQ g x eI) 5 0 0 4 [(0, .ref (gA g 22 0)), (1, .int vq1), (2, .int vq2), (3, .int vq3)] [] M (fX11_outermost_B4 vq1 k4 vq2 vq3 M) := by
  unfold fX11_outermost_B4
  refine r_iload_n (pc := 4) ok 3 dX11_outermost_4 rfl ?_
  refine r_bipush (pc := 5) ok 36 dX11_outermost_5 (by decide) ?_
  refine r_icmp_ge (pc := 7) ok 88 dX11_outermost_7 (by decide) (fun _ => ?_) (fun _ => ?_)
  · refine r_iload_n (pc := 88) ok 2 dX11_outermost_88 rfl ?_
    exact r_iret (pc := 89) ok (Nat.zero_le _) (Nat.zero_le _) rfl dX11_outermost_89
  · refine r_iload_n (pc := 10) ok 1 dX11_outermost_10 rfl ?_
    refine r_if_eq (pc := 11) ok 43 dX11_outermost_11 (by decide) (fun _ => ?_) (fun _ => ?_)
    · refine r_aload_n (pc := 43) ok 0 dX11_outermost_43 rfl ?_
      refine r_getR (pc := 44) ok fr_22_5 (by decide) fl_X11_22 dX11_outermost_44 ?_
      refine r_iload_n (pc := 47) ok 3 dX11_outermost_47 rfl ?_
      refine r_iald (pc := 48) ok ik_27 (by decide) dX11_outermost_48 (fun _ => ?_)
      refine r_aload_n (pc := 49) ok 0 dX11_outermost_49 rfl ?_
      refine r_getR (pc := 50) ok fr_22_5 (by decide) fl_X11_22 dX11_outermost_50 ?_
      refine r_iload_n (pc := 53) ok 2 dX11_outermost_53 rfl ?_
      refine r_iconst (pc := 54) ok 0 dX11_outermost_54 (by decide) ?_
      refine r_bipush (pc := 55) ok 35 dX11_outermost_55 (by decide) ?_
      refine r_callS0 (pc := 57) ok [.int vq2, .int 0, .int 35] [.ref (gA g 27 0), .int (M 27 0 vq3.toNatClampNeg)] 2 (fun rZ MZ hZ => con_X11_within g l vq2 0 35 _ rZ MZ hZ) cs_X11_173 (rmOk_L (by decide) (by decide)) dX11_outermost_57 rfl rfl (Nat.le_of_ble_eq_true rfl) (fun r1 M2 => ?_)
      refine r_iald (pc := 60) ok ik_27 (by decide) dX11_outermost_60 (fun _ => ?_)
      refine r_icmp_ge (pc := 61) ok 68 dX11_outermost_61 (by decide) (fun _ => ?_) (fun _ => ?_)
      · refine r_iconst (pc := 68) ok 0 dX11_outermost_68 (by decide) ?_
        refine r_lv [0, 1, 2, 3] [(0, .ref (gA g 22 0)), (1, .int vq1), (2, .int vq2), (3, .int vq3)] rfl ?_
        exact sX11_outermost_J69 ok vq1 vq2 vq3 0 hk4 M2
      · refine r_iconst (pc := 64) ok 1 dX11_outermost_64 (by decide) ?_
        refine r_goto (pc := 65) ok 69 dX11_outermost_65 (by decide) ?_
        refine r_lv [0, 1, 2, 3] [(0, .ref (gA g 22 0)), (1, .int vq1), (2, .int vq2), (3, .int vq3)] rfl ?_
        exact sX11_outermost_J69 ok vq1 vq2 vq3 1 hk4 M2
    · refine r_aload_n (pc := 14) ok 0 dX11_outermost_14 rfl ?_
      refine r_getR (pc := 15) ok fr_22_5 (by decide) fl_X11_22 dX11_outermost_15 ?_
      refine r_iload_n (pc := 18) ok 3 dX11_outermost_18 rfl ?_
      refine r_iald (pc := 19) ok ik_27 (by decide) dX11_outermost_19 (fun _ => ?_)
      refine r_aload_n (pc := 20) ok 0 dX11_outermost_20 rfl ?_
      refine r_getR (pc := 21) ok fr_22_5 (by decide) fl_X11_22 dX11_outermost_21 ?_
      refine r_iload_n (pc := 24) ok 2 dX11_outermost_24 rfl ?_
      refine r_iconst (pc := 25) ok 0 dX11_outermost_25 (by decide) ?_
      refine r_bipush (pc := 26) ok 35 dX11_outermost_26 (by decide) ?_
      refine r_callS0 (pc := 28) ok [.int vq2, .int 0, .int 35] [.ref (gA g 27 0), .int (M 27 0 vq3.toNatClampNeg)] 2 (fun rZ MZ hZ => con_X11_within g l vq2 0 35 _ rZ MZ hZ) cs_X11_173 (rmOk_L (by decide) (by decide)) dX11_outermost_28 rfl rfl (Nat.le_of_ble_eq_true rfl) (fun r3 M4 => ?_)
      refine r_iald (pc := 31) ok ik_27 (by decide) dX11_outermost_31 (fun _ => ?_)
      refine r_icmp_le (pc := 32) ok 39 dX11_outermost_32 (by decide) (fun _ => ?_) (fun _ => ?_)
      · refine r_iconst (pc := 39) ok 0 dX11_outermost_39 (by decide) ?_
        refine r_goto (pc := 40) ok 69 dX11_outermost_40 (by decide) ?_
        refine r_lv [0, 1, 2, 3] [(0, .ref (gA g 22 0)), (1, .int vq1), (2, .int vq2), (3, .int vq3)] rfl ?_
        exact sX11_outermost_J69 ok vq1 vq2 vq3 0 hk4 M4
      · refine r_iconst (pc := 35) ok 1 dX11_outermost_35 (by decide) ?_
        refine r_goto (pc := 36) ok 69 dX11_outermost_36 (by decide) ?_
        refine r_lv [0, 1, 2, 3] [(0, .ref (gA g 22 0)), (1, .int vq1), (2, .int vq2), (3, .int vq3)] rfl ?_
        exact sX11_outermost_J69 ok vq1 vq2 vq3 1 hk4 M4
theorem sX11_outermost_L4 {g : GP} {l : Launch} {x : CT} (ok : Ok g l x RX11 cX11_outermost 5 (some FieldType.int) (rmL 3)) (vq1 : Int32)  : ∀ (n : Nat) (vq2 : Int32) (vq3 : Int32) (M : Mem), Sw g l x (FinQ g x eI) 5 0 0 4 [(0, .ref (gA g 22 0)), (1, .int vq1), (2, .int vq2), (3, .int vq3)] [] M (fX11_outermost_L4 vq1 n vq2 vq3 M) := by
  intro n
  induction n with
  | zero => intros; exact r_none
  | succ n ih => intro vq2 vq3 M; exact sX11_outermost_B4 ok vq1  _ ih vq2 vq3 M
def fX11_outermost (vq1 : Int32) (M : Mem) : Option (Int32 × Mem) :=
  fX11_outermost_L4 vq1 FU 0 1 M
set_option maxRecDepth 20000 in
theorem wX11_outermost {g : GP} {l : Launch} {x : CT} (ok : Ok g l x RX11 cX11_outermost 5 (some FieldType.int) (rmL 3)) (vq1 : Int32)  (M : Mem) : Sw g l x (FinQ g x eI) 5 0 0 0 [(0, .ref (gA g 22 0)), (1, .int vq1)] [] M (fX11_outermost vq1 M) := by
  unfold fX11_outermost
  refine r_iconst (pc := 0) ok 0 dX11_outermost_0 (by decide) ?_
  refine r_istore_n (pc := 1) ok [(2, .int 0), (0, .ref (gA g 22 0)), (1, .int vq1)] dX11_outermost_1 rfl (by decide) rfl ?_
  refine r_iconst (pc := 2) ok 1 dX11_outermost_2 (by decide) ?_
  refine r_istore_n (pc := 3) ok [(3, .int 1), (2, .int 0), (0, .ref (gA g 22 0)), (1, .int vq1)] dX11_outermost_3 rfl (by decide) rfl ?_
  refine r_lv [2, 3, 1, 0] [(0, .ref (gA g 22 0)), (1, .int vq1), (2, .int 0), (3, .int 1)] rfl ?_
  exact sX11_outermost_L4 ok vq1 FU 0 1 M
theorem con_X11_outermost (g : GP) (l : Launch) (vq1 : Int32)  (M : Mem) (r : Int32) (M2 : Mem) (h : fX11_outermost vq1 M = some (r, M2)) : Con g l yX11_outermost cX11_outermost 5 (some FieldType.int) (rmL 3) [.ref (gA g 22 0), .int vq1] M (eI r) M2 :=
  Con.of (own := RX11) (f := fX11_outermost vq1 M) (by decide) (Nat.le_of_ble_eq_true rfl) rfl (fun x ok => wX11_outermost ok vq1  M) r M2 h
def fX11_share_B37 (vq1 : Int32) (vq2 : Int32) (vq3 : Int32) (k37 : Int32 → Int32 → Mem → Option (Int64 × Mem)) (vq4 : Int32) (vq5 : Int32) (M : Mem) : Option (Int64 × Mem) :=
  if 6 ≤ vq5 then
    (ob (fX11_lowest vq4.toInt64 vq3.toInt64 vq2 M) fun r7 M8 =>
    some (r7, M8))
  else
    (gd (inb ((6 * vq1) + vq5) 36)
    (lt (vq4 + (M 27 0 ((6 * vq1) + vq5).toNatClampNeg)) fun w9 =>
    k37 w9 (vq5 + 1) M))
def fX11_share_L37 (vq1 : Int32) (vq2 : Int32) (vq3 : Int32) : Nat → Int32 → Int32 → Mem → Option (Int64 × Mem)
  | 0, _, _, _ => none
  | n + 1, vq4, vq5, M => fX11_share_B37 vq1 vq2 vq3 (fX11_share_L37 vq1 vq2 vq3 n) vq4 vq5 M
set_option maxRecDepth 20000 in
theorem sX11_share_B37 {g : GP} {l : Launch} {x : CT} (ok : Ok g l x RX11 cX11_share 6 (some FieldType.long) (rmL 3)) (vq1 : Int32) (vq2 : Int32) (vq3 : Int32)  (k37 : Int32 → Int32 → Mem → Option (Int64 × Mem)) (hk37 : ∀ (vq4 : Int32) (vq5 : Int32) (M : Mem), Sw g l x (FinQ g x eJ) 6 0 0 37 [(0, .ref (gA g 22 0)), (1, .int vq1), (2, .int vq2), (3, .int vq3), (4, .int vq4), (5, .int vq5)] [] M (k37 vq4 vq5 M)) (vq4 : Int32) (vq5 : Int32) (M : Mem) : Sw g l x (FinQ g x eJ) 6 0 0 37 [(0, .ref (gA g 22 0)), (1, .int vq1), (2, .int vq2), (3, .int vq3), (4, .int vq4), (5, .int vq5)] [] M (fX11_share_B37 vq1 vq2 vq3 k37 vq4 vq5 M) := by
  unfold fX11_share_B37
  refine r_iload (pc := 37) ok 5 dX11_share_37 rfl ?_
  refine r_bipush (pc := 39) ok 6 dX11_share_39 (by decide) ?_
  refine r_icmp_ge (pc := 41) ok 67 dX11_share_41 (by decide) (fun _ => ?_) (fun _ => ?_)
  · refine r_iload (pc := 67) ok 4 dX11_share_67 rfl ?_
    refine r_i2l (pc := 69) ok dX11_share_69 ?_
    refine r_iload_n (pc := 70) ok 3 dX11_share_70 rfl ?_
    refine r_i2l (pc := 71) ok dX11_share_71 ?_
    refine r_iload_n (pc := 72) ok 2 dX11_share_72 rfl ?_
    refine r_callS0 (pc := 73) ok [.long vq4.toInt64, .long vq3.toInt64, .int vq2] [] 2 (fun rZ MZ hZ => con_X11_lowest g l vq4.toInt64 vq3.toInt64 vq2 _ rZ MZ hZ) cs_X11_268 (rmOk_L (by decide) (by decide)) dX11_share_73 rfl rfl (Nat.le_of_ble_eq_true rfl) (fun r7 M8 => ?_)
    exact r_lret (pc := 76) ok (Nat.zero_le _) (Nat.zero_le _) rfl dX11_share_76
  · refine r_iload (pc := 44) ok 4 dX11_share_44 rfl ?_
    refine r_aload_n (pc := 46) ok 0 dX11_share_46 rfl ?_
    refine r_getR (pc := 47) ok fr_22_5 (by decide) fl_X11_22 dX11_share_47 ?_
    refine r_bipush (pc := 50) ok 6 dX11_share_50 (by decide) ?_
    refine r_iload_n (pc := 52) ok 1 dX11_share_52 rfl ?_
    refine r_imul (pc := 53) ok dX11_share_53 ?_
    refine r_iload (pc := 54) ok 5 dX11_share_54 rfl ?_
    refine r_iadd (pc := 56) ok dX11_share_56 ?_
    refine r_iald (pc := 57) ok ik_27 (by decide) dX11_share_57 (fun _ => ?_)
    refine r_iadd (pc := 58) ok dX11_share_58 ?_
    refine r_nmi (fun w9 => ?_)
    refine r_istore (pc := 59) ok [(4, .int w9), (0, .ref (gA g 22 0)), (1, .int vq1), (2, .int vq2), (3, .int vq3), (5, .int vq5)] dX11_share_59 (by decide) rfl ?_
    refine r_iinc (pc := 61) ok 5 (vq5 + 1) [(5, .int (vq5 + 1)), (4, .int w9), (0, .ref (gA g 22 0)), (1, .int vq1), (2, .int vq2), (3, .int vq3)] dX11_share_61 rfl (congrArg (fun z => vq5 + z) (by decide : Int32.ofInt 1 = (1 : Int32))) (by decide) rfl ?_
    refine r_goto (pc := 64) ok 37 dX11_share_64 (by decide) ?_
    refine r_lv [2, 3, 4, 5, 1, 0] [(0, .ref (gA g 22 0)), (1, .int vq1), (2, .int vq2), (3, .int vq3), (4, .int w9), (5, .int (vq5 + 1))] rfl ?_
    exact hk37 w9 (vq5 + 1) M
theorem sX11_share_L37 {g : GP} {l : Launch} {x : CT} (ok : Ok g l x RX11 cX11_share 6 (some FieldType.long) (rmL 3)) (vq1 : Int32) (vq2 : Int32) (vq3 : Int32)  : ∀ (n : Nat) (vq4 : Int32) (vq5 : Int32) (M : Mem), Sw g l x (FinQ g x eJ) 6 0 0 37 [(0, .ref (gA g 22 0)), (1, .int vq1), (2, .int vq2), (3, .int vq3), (4, .int vq4), (5, .int vq5)] [] M (fX11_share_L37 vq1 vq2 vq3 n vq4 vq5 M) := by
  intro n
  induction n with
  | zero => intros; exact r_none
  | succ n ih => intro vq4 vq5 M; exact sX11_share_B37 ok vq1 vq2 vq3  _ ih vq4 vq5 M
def fX11_share (vq1 : Int32) (vq2 : Int32) (M : Mem) : Option (Int64 × Mem) :=
  ob (fX11_allOf M) fun r1 M2 =>
  ob (fX11_in vq1 0 5 M2) fun r3 M4 =>
  if r3 = 0 then
    (some (-4611686018427387904, M4))
  else
    (ob (fX11_in vq2 0 1 M4) fun r5 M6 =>
    if r5 = 0 then
      (some (-4611686018427387904, M6))
    else
      (if r1 = 0 then
        (some (-4611686018427387904, M6))
      else
        (fX11_share_L37 vq1 vq2 r1 FU 0 0 M6)))
set_option maxRecDepth 20000 in
theorem wX11_share {g : GP} {l : Launch} {x : CT} (ok : Ok g l x RX11 cX11_share 6 (some FieldType.long) (rmL 3)) (vq1 : Int32) (vq2 : Int32)  (M : Mem) : Sw g l x (FinQ g x eJ) 6 0 0 0 [(0, .ref (gA g 22 0)), (1, .int vq1), (2, .int vq2)] [] M (fX11_share vq1 vq2 M) := by
  unfold fX11_share
  refine r_aload_n (pc := 0) ok 0 dX11_share_0 rfl ?_
  refine r_callV0 (pc := 1) ok [] [] 2 (fun rZ MZ hZ => con_X11_allOf g l  _ rZ MZ hZ) cv_X11_95 ok_22 (rmOk_L (by decide) (by decide)) dX11_share_1 rfl rfl (Nat.le_of_ble_eq_true rfl) (fun r1 M2 => ?_)
  refine r_istore_n (pc := 4) ok [(3, .int r1), (0, .ref (gA g 22 0)), (1, .int vq1), (2, .int vq2)] dX11_share_4 rfl (by decide) rfl ?_
  refine r_iload_n (pc := 5) ok 2 dX11_share_5 rfl ?_
  refine r_iconst (pc := 6) ok 0 dX11_share_6 (by decide) ?_
  refine r_iconst (pc := 7) ok 5 dX11_share_7 (by decide) ?_
  refine r_callS0 (pc := 8) ok [.int vq1, .int 0, .int 5] [] 2 (fun rZ MZ hZ => con_X11_in g l vq1 0 5 _ rZ MZ hZ) cs_X11_84 (rmOk_L (by decide) (by decide)) dX11_share_8 rfl rfl (Nat.le_of_ble_eq_true rfl) (fun r3 M4 => ?_)
  refine r_if_eq (pc := 11) ok 27 dX11_share_11 (by decide) (fun _ => ?_) (fun _ => ?_)
  · refine r_ldc2 (pc := 27) ok wcl_X11_216 dX11_share_27 ?_
    exact r_lret (pc := 30) ok (Nat.zero_le _) (Nat.zero_le _) rfl dX11_share_30
  · refine r_iload_n (pc := 14) ok 3 dX11_share_14 rfl ?_
    refine r_iconst (pc := 15) ok 0 dX11_share_15 (by decide) ?_
    refine r_iconst (pc := 16) ok 1 dX11_share_16 (by decide) ?_
    refine r_callS0 (pc := 17) ok [.int vq2, .int 0, .int 1] [] 2 (fun rZ MZ hZ => con_X11_in g l vq2 0 1 _ rZ MZ hZ) cs_X11_84 (rmOk_L (by decide) (by decide)) dX11_share_17 rfl rfl (Nat.le_of_ble_eq_true rfl) (fun r5 M6 => ?_)
    refine r_if_eq (pc := 20) ok 27 dX11_share_20 (by decide) (fun _ => ?_) (fun _ => ?_)
    · refine r_ldc2 (pc := 27) ok wcl_X11_216 dX11_share_27 ?_
      exact r_lret (pc := 30) ok (Nat.zero_le _) (Nat.zero_le _) rfl dX11_share_30
    · refine r_iload_n (pc := 23) ok 0 dX11_share_23 rfl ?_
      refine r_if_ne (pc := 24) ok 31 dX11_share_24 (by decide) (fun _ => ?_) (fun _ => ?_)
      · refine r_ldc2 (pc := 27) ok wcl_X11_216 dX11_share_27 ?_
        exact r_lret (pc := 30) ok (Nat.zero_le _) (Nat.zero_le _) rfl dX11_share_30
      · refine r_iconst (pc := 31) ok 0 dX11_share_31 (by decide) ?_
        refine r_istore (pc := 32) ok [(4, .int 0), (3, .int r1), (0, .ref (gA g 22 0)), (1, .int vq1), (2, .int vq2)] dX11_share_32 (by decide) rfl ?_
        refine r_iconst (pc := 34) ok 0 dX11_share_34 (by decide) ?_
        refine r_istore (pc := 35) ok [(5, .int 0), (4, .int 0), (3, .int r1), (0, .ref (gA g 22 0)), (1, .int vq1), (2, .int vq2)] dX11_share_35 (by decide) rfl ?_
        refine r_lv [3, 4, 5, 2, 1, 0] [(0, .ref (gA g 22 0)), (1, .int vq1), (2, .int vq2), (3, .int r1), (4, .int 0), (5, .int 0)] rfl ?_
        exact sX11_share_L37 ok vq1 vq2 r1 FU 0 0 M6
theorem con_X11_share (g : GP) (l : Launch) (vq1 : Int32) (vq2 : Int32)  (M : Mem) (r : Int64) (M2 : Mem) (h : fX11_share vq1 vq2 M = some (r, M2)) : Con g l yX11_share cX11_share 6 (some FieldType.long) (rmL 3) [.ref (gA g 22 0), .int vq1, .int vq2] M (eJ r) M2 :=
  Con.of (own := RX11) (f := fX11_share vq1 vq2 M) (by decide) (Nat.le_of_ble_eq_true rfl) rfl (fun x ok => wX11_share ok vq1 vq2  M) r M2 h
def fX11_sheet_B70 (vq1 : Int32) (k70 : Int32 → Mem → Option (Int32 × Mem)) (vq4 : Int32) (M : Mem) : Option (Int32 × Mem) :=
  if 40 ≤ vq4 then
    (some (1, M))
  else
    (gd (inb ((40 * vq1) + vq4) 160)
    (lt (mst M 35 0 ((40 * vq1) + vq4).toNatClampNeg 0) fun M7 =>
    k70 (vq4 + 1) M7))
def fX11_sheet_L70 (vq1 : Int32) : Nat → Int32 → Mem → Option (Int32 × Mem)
  | 0, _, _ => none
  | n + 1, vq4, M => fX11_sheet_B70 vq1 (fX11_sheet_L70 vq1 n) vq4 M
set_option maxRecDepth 20000 in
theorem sX11_sheet_B70 {g : GP} {l : Launch} {x : CT} (ok : Ok g l x RX11 cX11_sheet 5 (some FieldType.int) (rmL 3)) (vq1 : Int32)  (k70 : Int32 → Mem → Option (Int32 × Mem)) (hk70 : ∀ (vq4 : Int32) (M : Mem), Sw g l x (FinQ g x eI) 5 0 0 70 [(0, .ref (gA g 22 0)), (1, .int vq1), (4, .int vq4)] [] M (k70 vq4 M)) (vq4 : Int32) (M : Mem) : Sw g l x (FinQ g x eI) 5 0 0 70 [(0, .ref (gA g 22 0)), (1, .int vq1), (4, .int vq4)] [] M (fX11_sheet_B70 vq1 k70 vq4 M) := by
  unfold fX11_sheet_B70
  refine r_iload (pc := 70) ok 2 dX11_sheet_70 rfl ?_
  refine r_bipush (pc := 72) ok 40 dX11_sheet_72 (by decide) ?_
  refine r_icmp_ge (pc := 74) ok 96 dX11_sheet_74 (by decide) (fun _ => ?_) (fun _ => ?_)
  · refine r_iconst (pc := 96) ok 1 dX11_sheet_96 (by decide) ?_
    exact r_iret (pc := 97) ok (Nat.zero_le _) (Nat.zero_le _) rfl dX11_sheet_97
  · refine r_aload_n (pc := 77) ok 0 dX11_sheet_77 rfl ?_
    refine r_getR (pc := 78) ok fr_22_18 (by decide) fl_X11_46 dX11_sheet_78 ?_
    refine r_bipush (pc := 81) ok 40 dX11_sheet_81 (by decide) ?_
    refine r_iload_n (pc := 83) ok 1 dX11_sheet_83 rfl ?_
    refine r_imul (pc := 84) ok dX11_sheet_84 ?_
    refine r_iload (pc := 85) ok 2 dX11_sheet_85 rfl ?_
    refine r_iadd (pc := 87) ok dX11_sheet_87 ?_
    refine r_iconst (pc := 88) ok 0 dX11_sheet_88 (by decide) ?_
    refine r_iast (pc := 89) ok ik_35 (by decide) dX11_sheet_89 ?_
    refine r_nmM (fun M7 => ?_)
    refine r_iinc (pc := 90) ok 2 (vq4 + 1) [(4, .int (vq4 + 1)), (0, .ref (gA g 22 0)), (1, .int vq1)] dX11_sheet_90 rfl (congrArg (fun z => vq4 + z) (by decide : Int32.ofInt 1 = (1 : Int32))) (by decide) rfl ?_
    refine r_goto (pc := 93) ok 70 dX11_sheet_93 (by decide) ?_
    refine r_lv [1, 2, 0] [(0, .ref (gA g 22 0)), (1, .int vq1), (4, .int (vq4 + 1))] rfl ?_
    exact hk70 (vq4 + 1) M7
theorem sX11_sheet_L70 {g : GP} {l : Launch} {x : CT} (ok : Ok g l x RX11 cX11_sheet 5 (some FieldType.int) (rmL 3)) (vq1 : Int32)  : ∀ (n : Nat) (vq4 : Int32) (M : Mem), Sw g l x (FinQ g x eI) 5 0 0 70 [(0, .ref (gA g 22 0)), (1, .int vq1), (4, .int vq4)] [] M (fX11_sheet_L70 vq1 n vq4 M) := by
  intro n
  induction n with
  | zero => intros; exact r_none
  | succ n ih => intro vq4 M; exact sX11_sheet_B70 ok vq1  _ ih vq4 M
def fX11_sheet_J44 (vq1 : Int32) (vq2 : Int32) (vq3 : Int32) (M : Mem) : Option (Int32 × Mem) :=
  gd (inb vq1 4)
  (lt (mst M 33 0 vq1.toNatClampNeg vq2) fun M5 =>
  if vq2 = (-1) then
    (gd (inb vq1 4)
    (lt (mst M5 34 0 vq1.toNatClampNeg 0) fun M8 =>
    fX11_sheet_L70 vq1 FU 0 M8))
  else
    (gd (inb vq1 4)
    (lt (mst M5 34 0 vq1.toNatClampNeg vq3) fun M6 =>
    fX11_sheet_L70 vq1 FU 0 M6)))
set_option maxRecDepth 20000 in
theorem sX11_sheet_J44 {g : GP} {l : Launch} {x : CT} (ok : Ok g l x RX11 cX11_sheet 5 (some FieldType.int) (rmL 3)) (vq1 : Int32) (vq2 : Int32) (vq3 : Int32)  (M : Mem) : Sw g l x (FinQ g x eI) 5 0 0 44 [(0, .ref (gA g 22 0)), (1, .int vq1), (2, .int vq2), (3, .int vq3)] [] M (fX11_sheet_J44 vq1 vq2 vq3 M) := by
  unfold fX11_sheet_J44
  refine r_aload_n (pc := 44) ok 0 dX11_sheet_44 rfl ?_
  refine r_getR (pc := 45) ok fr_22_16 (by decide) fl_X11_40 dX11_sheet_45 ?_
  refine r_iload_n (pc := 48) ok 1 dX11_sheet_48 rfl ?_
  refine r_iload_n (pc := 49) ok 2 dX11_sheet_49 rfl ?_
  refine r_iast (pc := 50) ok ik_33 (by decide) dX11_sheet_50 ?_
  refine r_nmM (fun M5 => ?_)
  refine r_aload_n (pc := 51) ok 0 dX11_sheet_51 rfl ?_
  refine r_getR (pc := 52) ok fr_22_17 (by decide) fl_X11_43 dX11_sheet_52 ?_
  refine r_iload_n (pc := 55) ok 1 dX11_sheet_55 rfl ?_
  refine r_iload_n (pc := 56) ok 2 dX11_sheet_56 rfl ?_
  refine r_iconst (pc := 57) ok (-1) dX11_sheet_57 (by decide) ?_
  refine r_icmp_ne (pc := 58) ok 65 dX11_sheet_58 (by decide) (fun _ => ?_) (fun _ => ?_)
  · refine r_iconst (pc := 61) ok 0 dX11_sheet_61 (by decide) ?_
    refine r_goto (pc := 62) ok 66 dX11_sheet_62 (by decide) ?_
    refine r_iast (pc := 66) ok ik_34 (by decide) dX11_sheet_66 ?_
    refine r_nmM (fun M8 => ?_)
    refine r_iconst (pc := 67) ok 0 dX11_sheet_67 (by decide) ?_
    refine r_istore (pc := 68) ok [(4, .int 0), (0, .ref (gA g 22 0)), (1, .int vq1), (2, .int vq2), (3, .int vq3)] dX11_sheet_68 (by decide) rfl ?_
    refine r_lv [1, 2, 0] [(0, .ref (gA g 22 0)), (1, .int vq1), (4, .int 0)] rfl ?_
    exact sX11_sheet_L70 ok vq1 FU 0 M8
  · refine r_iload_n (pc := 65) ok 3 dX11_sheet_65 rfl ?_
    refine r_iast (pc := 66) ok ik_34 (by decide) dX11_sheet_66 ?_
    refine r_nmM (fun M6 => ?_)
    refine r_iconst (pc := 67) ok 0 dX11_sheet_67 (by decide) ?_
    refine r_istore (pc := 68) ok [(4, .int 0), (0, .ref (gA g 22 0)), (1, .int vq1), (2, .int vq2), (3, .int vq3)] dX11_sheet_68 (by decide) rfl ?_
    refine r_lv [1, 2, 0] [(0, .ref (gA g 22 0)), (1, .int vq1), (4, .int 0)] rfl ?_
    exact sX11_sheet_L70 ok vq1 FU 0 M6
def fX11_sheet_J32 (vq1 : Int32) (vq2 : Int32) (vq3 : Int32) (M : Mem) : Option (Int32 × Mem) :=
  if vq2 = (-1) then
    (fX11_sheet_J44 vq1 vq2 vq3 M)
  else
    (if 0 ≤ vq3 then
      (fX11_sheet_J44 vq1 vq2 vq3 M)
    else
      (some (-14, M)))
set_option maxRecDepth 20000 in
theorem sX11_sheet_J32 {g : GP} {l : Launch} {x : CT} (ok : Ok g l x RX11 cX11_sheet 5 (some FieldType.int) (rmL 3)) (vq1 : Int32) (vq2 : Int32) (vq3 : Int32)  (M : Mem) : Sw g l x (FinQ g x eI) 5 0 0 32 [(0, .ref (gA g 22 0)), (1, .int vq1), (2, .int vq2), (3, .int vq3)] [] M (fX11_sheet_J32 vq1 vq2 vq3 M) := by
  unfold fX11_sheet_J32
  refine r_iload_n (pc := 32) ok 2 dX11_sheet_32 rfl ?_
  refine r_iconst (pc := 33) ok (-1) dX11_sheet_33 (by decide) ?_
  refine r_icmp_eq (pc := 34) ok 44 dX11_sheet_34 (by decide) (fun _ => ?_) (fun _ => ?_)
  · refine r_lv [0, 1, 2, 3] [(0, .ref (gA g 22 0)), (1, .int vq1), (2, .int vq2), (3, .int vq3)] rfl ?_
    exact sX11_sheet_J44 ok vq1 vq2 vq3 M
  · refine r_iload_n (pc := 37) ok 3 dX11_sheet_37 rfl ?_
    refine r_if_ge (pc := 38) ok 44 dX11_sheet_38 (by decide) (fun _ => ?_) (fun _ => ?_)
    · refine r_lv [0, 1, 2, 3] [(0, .ref (gA g 22 0)), (1, .int vq1), (2, .int vq2), (3, .int vq3)] rfl ?_
      exact sX11_sheet_J44 ok vq1 vq2 vq3 M
    · refine r_bipush (pc := 41) ok (-14) dX11_sheet_41 (by decide) ?_
      exact r_iret (pc := 43) ok (Nat.zero_le _) (Nat.zero_le _) rfl dX11_sheet_43
def fX11_sheet (vq1 : Int32) (vq2 : Int32) (vq3 : Int32) (M : Mem) : Option (Int32 × Mem) :=
  ob (fX11_in vq1 0 3 M) fun r1 M2 =>
  if r1 = 0 then
    (some (-2, M2))
  else
    (ob (fX11_in vq2 (-1) 2 M2) fun r3 M4 =>
    if r3 = 0 then
      (some (-2, M4))
    else
      (if vq2 = (-1) then
        (fX11_sheet_J32 vq1 vq2 vq3 M4)
      else
        (if vq3 ≤ 40 then
          (fX11_sheet_J32 vq1 vq2 vq3 M4)
        else
          (some (-2, M4)))))
set_option maxRecDepth 20000 in
theorem wX11_sheet {g : GP} {l : Launch} {x : CT} (ok : Ok g l x RX11 cX11_sheet 5 (some FieldType.int) (rmL 3)) (vq1 : Int32) (vq2 : Int32) (vq3 : Int32)  (M : Mem) : Sw g l x (FinQ g x eI) 5 0 0 0 [(0, .ref (gA g 22 0)), (1, .int vq1), (2, .int vq2), (3, .int vq3)] [] M (fX11_sheet vq1 vq2 vq3 M) := by
  unfold fX11_sheet
  refine r_iload_n (pc := 0) ok 1 dX11_sheet_0 rfl ?_
  refine r_iconst (pc := 1) ok 0 dX11_sheet_1 (by decide) ?_
  refine r_iconst (pc := 2) ok 3 dX11_sheet_2 (by decide) ?_
  refine r_callS0 (pc := 3) ok [.int vq1, .int 0, .int 3] [] 2 (fun rZ MZ hZ => con_X11_in g l vq1 0 3 _ rZ MZ hZ) cs_X11_84 (rmOk_L (by decide) (by decide)) dX11_sheet_3 rfl rfl (Nat.le_of_ble_eq_true rfl) (fun r1 M2 => ?_)
  refine r_if_eq (pc := 6) ok 29 dX11_sheet_6 (by decide) (fun _ => ?_) (fun _ => ?_)
  · refine r_bipush (pc := 29) ok (-2) dX11_sheet_29 (by decide) ?_
    exact r_iret (pc := 31) ok (Nat.zero_le _) (Nat.zero_le _) rfl dX11_sheet_31
  · refine r_iload_n (pc := 9) ok 2 dX11_sheet_9 rfl ?_
    refine r_iconst (pc := 10) ok (-1) dX11_sheet_10 (by decide) ?_
    refine r_iconst (pc := 11) ok 2 dX11_sheet_11 (by decide) ?_
    refine r_callS0 (pc := 12) ok [.int vq2, .int (-1), .int 2] [] 2 (fun rZ MZ hZ => con_X11_in g l vq2 (-1) 2 _ rZ MZ hZ) cs_X11_84 (rmOk_L (by decide) (by decide)) dX11_sheet_12 rfl rfl (Nat.le_of_ble_eq_true rfl) (fun r3 M4 => ?_)
    refine r_if_eq (pc := 15) ok 29 dX11_sheet_15 (by decide) (fun _ => ?_) (fun _ => ?_)
    · refine r_bipush (pc := 29) ok (-2) dX11_sheet_29 (by decide) ?_
      exact r_iret (pc := 31) ok (Nat.zero_le _) (Nat.zero_le _) rfl dX11_sheet_31
    · refine r_iload_n (pc := 18) ok 2 dX11_sheet_18 rfl ?_
      refine r_iconst (pc := 19) ok (-1) dX11_sheet_19 (by decide) ?_
      refine r_icmp_eq (pc := 20) ok 32 dX11_sheet_20 (by decide) (fun _ => ?_) (fun _ => ?_)
      · refine r_lv [0, 1, 2, 3] [(0, .ref (gA g 22 0)), (1, .int vq1), (2, .int vq2), (3, .int vq3)] rfl ?_
        exact sX11_sheet_J32 ok vq1 vq2 vq3 M4
      · refine r_iload_n (pc := 23) ok 3 dX11_sheet_23 rfl ?_
        refine r_bipush (pc := 24) ok 40 dX11_sheet_24 (by decide) ?_
        refine r_icmp_le (pc := 26) ok 32 dX11_sheet_26 (by decide) (fun _ => ?_) (fun _ => ?_)
        · refine r_lv [0, 1, 2, 3] [(0, .ref (gA g 22 0)), (1, .int vq1), (2, .int vq2), (3, .int vq3)] rfl ?_
          exact sX11_sheet_J32 ok vq1 vq2 vq3 M4
        · refine r_bipush (pc := 29) ok (-2) dX11_sheet_29 (by decide) ?_
          exact r_iret (pc := 31) ok (Nat.zero_le _) (Nat.zero_le _) rfl dX11_sheet_31
theorem con_X11_sheet (g : GP) (l : Launch) (vq1 : Int32) (vq2 : Int32) (vq3 : Int32)  (M : Mem) (r : Int32) (M2 : Mem) (h : fX11_sheet vq1 vq2 vq3 M = some (r, M2)) : Con g l yX11_sheet cX11_sheet 5 (some FieldType.int) (rmL 3) [.ref (gA g 22 0), .int vq1, .int vq2, .int vq3] M (eI r) M2 :=
  Con.of (own := RX11) (f := fX11_sheet vq1 vq2 vq3 M) (by decide) (Nat.le_of_ble_eq_true rfl) rfl (fun x ok => wX11_sheet ok vq1 vq2 vq3  M) r M2 h
