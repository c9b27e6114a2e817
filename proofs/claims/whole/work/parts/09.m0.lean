def fX10_within (vq0 : Int32) (vq1 : Int32) (vq2 : Int32) (M : Mem) : Option (Int32 × Mem) :=
  if vq0 < vq1 then
    (some (0, M))
  else
    (if vq2 < vq0 then
      (some (0, M))
    else
      (some (1, M)))
set_option maxRecDepth 20000 in
theorem wX10_within {g : GP} {l : Launch} {x : CT} (ok : Ok g l x RX10 cX10_within 3 (some FieldType.boolean) (rmL 2)) (vq0 : Int32) (vq1 : Int32) (vq2 : Int32)  (M : Mem) : Sw g l x (FinQ g x eI) 3 0 0 0 [(0, .int vq0), (1, .int vq1), (2, .int vq2)] [] M (fX10_within vq0 vq1 vq2 M) := by
  unfold fX10_within
  refine r_iload_n (pc := 0) ok 0 dX10_within_0 rfl ?_
  refine r_iload_n (pc := 1) ok 1 dX10_within_1 rfl ?_
  refine r_icmp_lt (pc := 2) ok 14 dX10_within_2 (by decide) (fun _ => ?_) (fun _ => ?_)
  · refine r_iconst (pc := 14) ok 0 dX10_within_14 (by decide) ?_
    exact r_zret (pc := 15) ok (Nat.zero_le _) (Nat.zero_le _) rfl rfl dX10_within_15
  · refine r_iload_n (pc := 5) ok 0 dX10_within_5 rfl ?_
    refine r_iload_n (pc := 6) ok 2 dX10_within_6 rfl ?_
    refine r_icmp_gt (pc := 7) ok 14 dX10_within_7 (by decide) (fun _ => ?_) (fun _ => ?_)
    · refine r_iconst (pc := 14) ok 0 dX10_within_14 (by decide) ?_
      exact r_zret (pc := 15) ok (Nat.zero_le _) (Nat.zero_le _) rfl rfl dX10_within_15
    · refine r_iconst (pc := 10) ok 1 dX10_within_10 (by decide) ?_
      refine r_goto (pc := 11) ok 15 dX10_within_11 (by decide) ?_
      exact r_zret (pc := 15) ok (Nat.zero_le _) (Nat.zero_le _) rfl rfl dX10_within_15
theorem con_X10_within (g : GP) (l : Launch) (vq0 : Int32) (vq1 : Int32) (vq2 : Int32)  (M : Mem) (r : Int32) (M2 : Mem) (h : fX10_within vq0 vq1 vq2 M = some (r, M2)) : Con g l yX10_within cX10_within 3 (some FieldType.boolean) (rmL 2) [.int vq0, .int vq1, .int vq2] M (eI r) M2 :=
  Con.of (own := RX10) (f := fX10_within vq0 vq1 vq2 M) (by decide) (Nat.le_of_ble_eq_true rfl) rfl (fun x ok => wX10_within ok vq0 vq1 vq2  M) r M2 h
def fX10_lowest_J39 (vq0 : Int32) (vq1 : Int32) (vq2 : Int32) (vq3 : Int32) (M : Mem) : Option (Int64 × Mem) :=
  lt (mmax 1 vq3) fun w1 =>
  if vq2 = 0 then
    (gd (nz w1)
    (some ((vq0 / w1).toInt64, M)))
  else
    (gd (nz w1)
    (some ((vq1 / w1).toInt64, M)))
set_option maxRecDepth 20000 in
theorem sX10_lowest_J39 {g : GP} {l : Launch} {x : CT} (ok : Ok g l x RX10 cX10_lowest 7 (some FieldType.long) (rmL 2)) (vq0 : Int32) (vq1 : Int32) (vq2 : Int32) (vq3 : Int32)  (M : Mem) : Sw g l x (FinQ g x eJ) 7 0 0 39 [(0, .int vq0), (1, .int vq1), (2, .int vq2), (3, .int vq3)] [] M (fX10_lowest_J39 vq0 vq1 vq2 vq3 M) := by
  unfold fX10_lowest_J39
  refine r_iconst (pc := 39) ok 1 dX10_lowest_39 (by decide) ?_
  refine r_iload_n (pc := 40) ok 3 dX10_lowest_40 rfl ?_
  refine r_mmax (pc := 41) ok wml_X10_269 wst_mmax win_Math wcd_mmax (rmM (by decide)) (Nat.le_of_ble_eq_true rfl) dX10_lowest_41 ?_
  refine r_nmi (fun w1 => ?_)
  refine r_istore (pc := 44) ok [(5, .int w1), (0, .int vq0), (1, .int vq1), (2, .int vq2), (3, .int vq3)] dX10_lowest_44 (by decide) rfl ?_
  refine r_iload_n (pc := 46) ok 3 dX10_lowest_46 rfl ?_
  refine r_if_ne (pc := 47) ok 58 dX10_lowest_47 (by decide) (fun _ => ?_) (fun _ => ?_)
  · refine r_iload_n (pc := 50) ok 1 dX10_lowest_50 rfl ?_
    refine r_iload (pc := 51) ok 0 dX10_lowest_51 rfl ?_
    refine r_idiv (pc := 53) ok dX10_lowest_53 ?_
    refine r_i2l (pc := 54) ok dX10_lowest_54 ?_
    refine r_goto (pc := 55) ok 63 dX10_lowest_55 (by decide) ?_
    exact r_lret (pc := 63) ok (Nat.zero_le _) (Nat.zero_le _) rfl dX10_lowest_63
  · refine r_iload_n (pc := 58) ok 2 dX10_lowest_58 rfl ?_
    refine r_iload (pc := 59) ok 0 dX10_lowest_59 rfl ?_
    refine r_idiv (pc := 61) ok dX10_lowest_61 ?_
    refine r_i2l (pc := 62) ok dX10_lowest_62 ?_
    exact r_lret (pc := 63) ok (Nat.zero_le _) (Nat.zero_le _) rfl dX10_lowest_63
def fX10_lowest_B8 (vq0 : Int32) (vq1 : Int32) (vq2 : Int32) (k8 : Int32 → Int32 → Int32 → Mem → Option (Int64 × Mem)) (vq3 : Int32) (vq4 : Int32) (vq5 : Int32) (M : Mem) : Option (Int64 × Mem) :=
  if 64 ≤ vq5 then
    (fX10_lowest_J39 vq0 vq1 vq2 vq3 M)
  else
    (if vq4 = 0 then
      (fX10_lowest_J39 vq0 vq1 vq2 vq3 M)
    else
      (gd (nz vq4)
      (lt (irem vq3 vq4) fun w2 =>
      k8 vq4 w2 (vq5 + 1) M)))
def fX10_lowest_L8 (vq0 : Int32) (vq1 : Int32) (vq2 : Int32) : Nat → Int32 → Int32 → Int32 → Mem → Option (Int64 × Mem)
  | 0, _, _, _, _ => none
  | n + 1, vq3, vq4, vq5, M => fX10_lowest_B8 vq0 vq1 vq2 (fX10_lowest_L8 vq0 vq1 vq2 n) vq3 vq4 vq5 M
set_option maxRecDepth 20000 in
theorem sX10_lowest_B8 {g : GP} {l : Launch} {x : CT} (ok : Ok g l x RX10 cX10_lowest 7 (some FieldType.long) (rmL 2)) (vq0 : Int32) (vq1 : Int32) (vq2 : Int32)  (k8 : Int32 → Int32 → Int32 → Mem → Option (Int64 × Mem)) (hk8 : ∀ (vq3 : Int32) (vq4 : Int32) (vq5 : Int32) (M : Mem), Sw g l x (FinQ g x eJ) 7 0 0 8 [(0, .int vq0), (1, .int vq1), (2, .int vq2), (3, .int vq3), (4, .int vq4), (5, .int vq5)] [] M (k8 vq3 vq4 vq5 M)) (vq3 : Int32) (vq4 : Int32) (vq5 : Int32) (M : Mem) : Sw g l x (FinQ g x eJ) 7 0 0 8 [(0, .int vq0), (1, .int vq1), (2, .int vq2), (3, .int vq3), (4, .int vq4), (5, .int vq5)] [] M (fX10_lowest_B8 vq0 vq1 vq2 k8 vq3 vq4 vq5 M) := by
  unfold fX10_lowest_B8
  refine r_iload (pc := 8) ok 5 dX10_lowest_8 rfl ?_
  refine r_bipush (pc := 10) ok 64 dX10_lowest_10 (by decide) ?_
  refine r_icmp_ge (pc := 12) ok 39 dX10_lowest_12 (by decide) (fun _ => ?_) (fun _ => ?_)
  · refine r_lv [0, 1, 2, 3] [(0, .int vq0), (1, .int vq1), (2, .int vq2), (3, .int vq3)] rfl ?_
    exact sX10_lowest_J39 ok vq0 vq1 vq2 vq3 M
  · refine r_iload (pc := 15) ok 4 dX10_lowest_15 rfl ?_
    refine r_if_eq (pc := 17) ok 39 dX10_lowest_17 (by decide) (fun _ => ?_) (fun _ => ?_)
    · refine r_lv [0, 1, 2, 3] [(0, .int vq0), (1, .int vq1), (2, .int vq2), (3, .int vq3)] rfl ?_
      exact sX10_lowest_J39 ok vq0 vq1 vq2 vq3 M
    · refine r_iload_n (pc := 20) ok 3 dX10_lowest_20 rfl ?_
      refine r_iload (pc := 21) ok 4 dX10_lowest_21 rfl ?_
      refine r_irem (pc := 23) ok dX10_lowest_23 ?_
      refine r_nmi (fun w2 => ?_)
      refine r_istore (pc := 24) ok [(6, .int w2), (0, .int vq0), (1, .int vq1), (2, .int vq2), (3, .int vq3), (4, .int vq4), (5, .int vq5)] dX10_lowest_24 (by decide) rfl ?_
      refine r_iload (pc := 26) ok 5 dX10_lowest_26 rfl ?_
      refine r_istore_n (pc := 28) ok [(3, .int vq4), (6, .int w2), (0, .int vq0), (1, .int vq1), (2, .int vq2), (4, .int vq4), (5, .int vq5)] dX10_lowest_28 rfl (by decide) rfl ?_
      refine r_iload (pc := 29) ok 1 dX10_lowest_29 rfl ?_
      refine r_istore (pc := 31) ok [(4, .int w2), (3, .int vq4), (6, .int w2), (0, .int vq0), (1, .int vq1), (2, .int vq2), (5, .int vq5)] dX10_lowest_31 (by decide) rfl ?_
      refine r_iinc (pc := 33) ok 6 (vq5 + 1) [(5, .int (vq5 + 1)), (4, .int w2), (3, .int vq4), (6, .int w2), (0, .int vq0), (1, .int vq1), (2, .int vq2)] dX10_lowest_33 rfl (congrArg (fun z => vq5 + z) (by decide : Int32.ofInt 1 = (1 : Int32))) (by decide) rfl ?_
      refine r_goto (pc := 36) ok 8 dX10_lowest_36 (by decide) ?_
      refine r_lv [4, 5, 6, 2, 1, 0] [(0, .int vq0), (1, .int vq1), (2, .int vq2), (3, .int vq4), (4, .int w2), (5, .int (vq5 + 1))] rfl ?_
      exact hk8 vq4 w2 (vq5 + 1) M
theorem sX10_lowest_L8 {g : GP} {l : Launch} {x : CT} (ok : Ok g l x RX10 cX10_lowest 7 (some FieldType.long) (rmL 2)) (vq0 : Int32) (vq1 : Int32) (vq2 : Int32)  : ∀ (n : Nat) (vq3 : Int32) (vq4 : Int32) (vq5 : Int32) (M : Mem), Sw g l x (FinQ g x eJ) 7 0 0 8 [(0, .int vq0), (1, .int vq1), (2, .int vq2), (3, .int vq3), (4, .int vq4), (5, .int vq5)] [] M (fX10_lowest_L8 vq0 vq1 vq2 n vq3 vq4 vq5 M) := by
  intro n
  induction n with
  | zero => intros; exact r_none
  | succ n ih => intro vq3 vq4 vq5 M; exact sX10_lowest_B8 ok vq0 vq1 vq2  _ ih vq3 vq4 vq5 M
def fX10_lowest (vq0 : Int32) (vq1 : Int32) (vq2 : Int32) (M : Mem) : Option (Int64 × Mem) :=
  fX10_lowest_L8 vq0 vq1 vq2 FU vq0 vq1 0 M
set_option maxRecDepth 20000 in
theorem wX10_lowest {g : GP} {l : Launch} {x : CT} (ok : Ok g l x RX10 cX10_lowest 7 (some FieldType.long) (rmL 2)) (vq0 : Int32) (vq1 : Int32) (vq2 : Int32)  (M : Mem) : Sw g l x (FinQ g x eJ) 7 0 0 0 [(0, .int vq0), (1, .int vq1), (2, .int vq2)] [] M (fX10_lowest vq0 vq1 vq2 M) := by
  unfold fX10_lowest
  refine r_iload_n (pc := 0) ok 0 dX10_lowest_0 rfl ?_
  refine r_istore_n (pc := 1) ok [(3, .int vq0), (0, .int vq0), (1, .int vq1), (2, .int vq2)] dX10_lowest_1 rfl (by decide) rfl ?_
  refine r_iload_n (pc := 2) ok 2 dX10_lowest_2 rfl ?_
  refine r_istore (pc := 3) ok [(4, .int vq1), (3, .int vq0), (0, .int vq0), (1, .int vq1), (2, .int vq2)] dX10_lowest_3 (by decide) rfl ?_
  refine r_iconst (pc := 5) ok 0 dX10_lowest_5 (by decide) ?_
  refine r_istore (pc := 6) ok [(5, .int 0), (4, .int vq1), (3, .int vq0), (0, .int vq0), (1, .int vq1), (2, .int vq2)] dX10_lowest_6 (by decide) rfl ?_
  refine r_lv [3, 4, 5, 2, 1, 0] [(0, .int vq0), (1, .int vq1), (2, .int vq2), (3, .int vq0), (4, .int vq1), (5, .int 0)] rfl ?_
  exact sX10_lowest_L8 ok vq0 vq1 vq2 FU vq0 vq1 0 M
theorem con_X10_lowest (g : GP) (l : Launch) (vq0 : Int32) (vq1 : Int32) (vq2 : Int32)  (M : Mem) (r : Int64) (M2 : Mem) (h : fX10_lowest vq0 vq1 vq2 M = some (r, M2)) : Con g l yX10_lowest cX10_lowest 7 (some FieldType.long) (rmL 2) [.int vq0, .int vq1, .int vq2] M (eJ r) M2 :=
  Con.of (own := RX10) (f := fX10_lowest vq0 vq1 vq2 M) (by decide) (Nat.le_of_ble_eq_true rfl) rfl (fun x ok => wX10_lowest ok vq0 vq1 vq2  M) r M2 h
def fX10_neighbour (vq0 : Int32) (vq1 : Int32) (M : Mem) : Option (Int32 × Mem) :=
  if vq1 = 0 then
    (if 5 ≤ (irem vq0 6) then
      (some (-1, M))
    else
      (some (vq0 + 1, M)))
  else
    (if vq1 = 1 then
      (if (irem vq0 6) ≤ 0 then
        (some (-1, M))
      else
        (some (vq0 - 1, M)))
    else
      (if vq1 = 2 then
        (if 30 ≤ vq0 then
          (some (-1, M))
        else
          (some (vq0 + 6, M)))
      else
        (if vq0 < 6 then
          (some (-1, M))
        else
          (some (vq0 - 6, M)))))
set_option maxRecDepth 20000 in
theorem wX10_neighbour {g : GP} {l : Launch} {x : CT} (ok : Ok g l x RX10 cX10_neighbour 2 (some FieldType.int) (rmL 2)) (vq0 : Int32) (vq1 : Int32)  (M : Mem) : Sw g l x (FinQ g x eI) 2 0 0 0 [(0, .int vq0), (1, .int vq1)] [] M (fX10_neighbour vq0 vq1 M) := by
  unfold fX10_neighbour
  refine r_iload_n (pc := 0) ok 1 dX10_neighbour_0 rfl ?_
  refine r_swc (pc := 1) ok (27) 28 dX10_neighbour_1 (by decide +kernel) (by decide) (fun _ => ?_) (fun hs1 => ?_)
  · refine r_iload_n (pc := 28) ok 0 dX10_neighbour_28 rfl ?_
    refine r_bipush (pc := 29) ok 6 dX10_neighbour_29 (by decide) ?_
    refine r_iremc (pc := 31) ok (by decide) dX10_neighbour_31 ?_
    refine r_iconst (pc := 32) ok 5 dX10_neighbour_32 (by decide) ?_
    refine r_icmp_ge (pc := 33) ok 42 dX10_neighbour_33 (by decide) (fun _ => ?_) (fun _ => ?_)
    · refine r_iconst (pc := 42) ok (-1) dX10_neighbour_42 (by decide) ?_
      exact r_iret (pc := 43) ok (Nat.zero_le _) (Nat.zero_le _) rfl dX10_neighbour_43
    · refine r_iload_n (pc := 36) ok 0 dX10_neighbour_36 rfl ?_
      refine r_iconst (pc := 37) ok 1 dX10_neighbour_37 (by decide) ?_
      refine r_iadd (pc := 38) ok dX10_neighbour_38 ?_
      refine r_goto (pc := 39) ok 43 dX10_neighbour_39 (by decide) ?_
      exact r_iret (pc := 43) ok (Nat.zero_le _) (Nat.zero_le _) rfl dX10_neighbour_43
  · refine r_swc (pc := 1) ok (43) 44 dX10_neighbour_1 (by decide +kernel) (by decide) (fun _ => ?_) (fun hs2 => ?_)
    · refine r_iload_n (pc := 44) ok 0 dX10_neighbour_44 rfl ?_
      refine r_bipush (pc := 45) ok 6 dX10_neighbour_45 (by decide) ?_
      refine r_iremc (pc := 47) ok (by decide) dX10_neighbour_47 ?_
      refine r_if_le (pc := 48) ok 57 dX10_neighbour_48 (by decide) (fun _ => ?_) (fun _ => ?_)
      · refine r_iconst (pc := 57) ok (-1) dX10_neighbour_57 (by decide) ?_
        exact r_iret (pc := 58) ok (Nat.zero_le _) (Nat.zero_le _) rfl dX10_neighbour_58
      · refine r_iload_n (pc := 51) ok 0 dX10_neighbour_51 rfl ?_
        refine r_iconst (pc := 52) ok 1 dX10_neighbour_52 (by decide) ?_
        refine r_isub (pc := 53) ok dX10_neighbour_53 ?_
        refine r_goto (pc := 54) ok 58 dX10_neighbour_54 (by decide) ?_
        exact r_iret (pc := 58) ok (Nat.zero_le _) (Nat.zero_le _) rfl dX10_neighbour_58
    · refine r_swc (pc := 1) ok (58) 59 dX10_neighbour_1 (by decide +kernel) (by decide) (fun _ => ?_) (fun hs3 => ?_)
      · refine r_iload_n (pc := 59) ok 0 dX10_neighbour_59 rfl ?_
        refine r_bipush (pc := 60) ok 30 dX10_neighbour_60 (by decide) ?_
        refine r_icmp_ge (pc := 62) ok 72 dX10_neighbour_62 (by decide) (fun _ => ?_) (fun _ => ?_)
        · refine r_iconst (pc := 72) ok (-1) dX10_neighbour_72 (by decide) ?_
          exact r_iret (pc := 73) ok (Nat.zero_le _) (Nat.zero_le _) rfl dX10_neighbour_73
        · refine r_iload_n (pc := 65) ok 0 dX10_neighbour_65 rfl ?_
          refine r_bipush (pc := 66) ok 6 dX10_neighbour_66 (by decide) ?_
          refine r_iadd (pc := 68) ok dX10_neighbour_68 ?_
          refine r_goto (pc := 69) ok 73 dX10_neighbour_69 (by decide) ?_
          exact r_iret (pc := 73) ok (Nat.zero_le _) (Nat.zero_le _) rfl dX10_neighbour_73
      · refine r_swd (pc := 1) ok 74 dX10_neighbour_1 (by have := lv_neT hs1 (by decide : (0 : Int32).toInt = 0) ; have := lv_neT hs2 (by decide : (1 : Int32).toInt = 1) ; have := lv_neT hs3 (by decide : (2 : Int32).toInt = 2) ; omega) (by decide) ?_
        refine r_iload_n (pc := 74) ok 0 dX10_neighbour_74 rfl ?_
        refine r_bipush (pc := 75) ok 6 dX10_neighbour_75 (by decide) ?_
        refine r_icmp_lt (pc := 77) ok 87 dX10_neighbour_77 (by decide) (fun _ => ?_) (fun _ => ?_)
        · refine r_iconst (pc := 87) ok (-1) dX10_neighbour_87 (by decide) ?_
          exact r_iret (pc := 88) ok (Nat.zero_le _) (Nat.zero_le _) rfl dX10_neighbour_88
        · refine r_iload_n (pc := 80) ok 0 dX10_neighbour_80 rfl ?_
          refine r_bipush (pc := 81) ok 6 dX10_neighbour_81 (by decide) ?_
          refine r_isub (pc := 83) ok dX10_neighbour_83 ?_
          refine r_goto (pc := 84) ok 88 dX10_neighbour_84 (by decide) ?_
          exact r_iret (pc := 88) ok (Nat.zero_le _) (Nat.zero_le _) rfl dX10_neighbour_88
theorem con_X10_neighbour (g : GP) (l : Launch) (vq0 : Int32) (vq1 : Int32)  (M : Mem) (r : Int32) (M2 : Mem) (h : fX10_neighbour vq0 vq1 M = some (r, M2)) : Con g l yX10_neighbour cX10_neighbour 2 (some FieldType.int) (rmL 2) [.int vq0, .int vq1] M (eI r) M2 :=
  Con.of (own := RX10) (f := fX10_neighbour vq0 vq1 M) (by decide) (Nat.le_of_ble_eq_true rfl) rfl (fun x ok => wX10_neighbour ok vq0 vq1  M) r M2 h
def fX10_apart (vq0 : Int32) (vq1 : Int32) (M : Mem) : Option (Int32 × Mem) :=
  some ((mabs ((irem vq0 6) - (irem vq1 6))) + (mabs ((vq0 / 6) - (vq1 / 6))), M)
set_option maxRecDepth 20000 in
theorem wX10_apart {g : GP} {l : Launch} {x : CT} (ok : Ok g l x RX10 cX10_apart 2 (some FieldType.int) (rmL 2)) (vq0 : Int32) (vq1 : Int32)  (M : Mem) : Sw g l x (FinQ g x eI) 2 0 0 0 [(0, .int vq0), (1, .int vq1)] [] M (fX10_apart vq0 vq1 M) := by
  unfold fX10_apart
  refine r_iload_n (pc := 0) ok 0 dX10_apart_0 rfl ?_
  refine r_bipush (pc := 1) ok 6 dX10_apart_1 (by decide) ?_
  refine r_iremc (pc := 3) ok (by decide) dX10_apart_3 ?_
  refine r_iload_n (pc := 4) ok 1 dX10_apart_4 rfl ?_
  refine r_bipush (pc := 5) ok 6 dX10_apart_5 (by decide) ?_
  refine r_iremc (pc := 7) ok (by decide) dX10_apart_7 ?_
  refine r_isub (pc := 8) ok dX10_apart_8 ?_
  refine r_mabs (pc := 9) ok wml_X10_274 wst_mabs win_Math wcd_mabs (rmM (by decide)) (Nat.le_of_ble_eq_true rfl) dX10_apart_9 ?_
  refine r_iload_n (pc := 12) ok 0 dX10_apart_12 rfl ?_
  refine r_bipush (pc := 13) ok 6 dX10_apart_13 (by decide) ?_
  refine r_idivc (pc := 15) ok (by decide) dX10_apart_15 ?_
  refine r_iload_n (pc := 16) ok 1 dX10_apart_16 rfl ?_
  refine r_bipush (pc := 17) ok 6 dX10_apart_17 (by decide) ?_
  refine r_idivc (pc := 19) ok (by decide) dX10_apart_19 ?_
  refine r_isub (pc := 20) ok dX10_apart_20 ?_
  refine r_mabs (pc := 21) ok wml_X10_274 wst_mabs win_Math wcd_mabs (rmM (by decide)) (Nat.le_of_ble_eq_true rfl) dX10_apart_21 ?_
  refine r_iadd (pc := 24) ok dX10_apart_24 ?_
  exact r_iret (pc := 25) ok (Nat.zero_le _) (Nat.zero_le _) rfl dX10_apart_25
theorem con_X10_apart (g : GP) (l : Launch) (vq0 : Int32) (vq1 : Int32)  (M : Mem) (r : Int32) (M2 : Mem) (h : fX10_apart vq0 vq1 M = some (r, M2)) : Con g l yX10_apart cX10_apart 2 (some FieldType.int) (rmL 2) [.int vq0, .int vq1] M (eI r) M2 :=
  Con.of (own := RX10) (f := fX10_apart vq0 vq1 M) (by decide) (Nat.le_of_ble_eq_true rfl) rfl (fun x ok => wX10_apart ok vq0 vq1  M) r M2 h
def fX10_grown (vq0 : Int64) (M : Mem) : Option (Int64 × Mem) :=
  lt ((lshl (vq0 &&& (-34905131041)) 1) ||| (lushr (vq0 &&& (-1090785346)) 1)) fun w1 =>
  some (((vq0 ||| w1) ||| (lshl vq0 6)) ||| (lushr vq0 6), M)
set_option maxRecDepth 20000 in
theorem wX10_grown {g : GP} {l : Launch} {x : CT} (ok : Ok g l x RX10 cX10_grown 4 (some FieldType.long) (rmL 2)) (vq0 : Int64)  (M : Mem) : Sw g l x (FinQ g x eJ) 4 0 0 0 [(0, .long vq0)] [] M (fX10_grown vq0 M) := by
  unfold fX10_grown
  refine r_lload_n (pc := 0) ok 0 dX10_grown_0 rfl ?_
  refine r_ldc2 (pc := 1) ok wcl_X10_277 dX10_grown_1 ?_
  refine r_land (pc := 4) ok dX10_grown_4 ?_
  refine r_iconst (pc := 5) ok 1 dX10_grown_5 (by decide) ?_
  refine r_lshl (pc := 6) ok dX10_grown_6 ?_
  refine r_lload_n (pc := 7) ok 0 dX10_grown_7 rfl ?_
  refine r_ldc2 (pc := 8) ok wcl_X10_279 dX10_grown_8 ?_
  refine r_land (pc := 11) ok dX10_grown_11 ?_
  refine r_iconst (pc := 12) ok 1 dX10_grown_12 (by decide) ?_
  refine r_lushr (pc := 13) ok dX10_grown_13 ?_
  refine r_lor (pc := 14) ok dX10_grown_14 ?_
  refine r_nml (fun w1 => ?_)
  refine r_lstore_n (pc := 15) ok [(2, .long w1), (0, .long vq0)] dX10_grown_15 rfl (by decide) rfl ?_
  refine r_lload_n (pc := 16) ok 1 dX10_grown_16 rfl ?_
  refine r_lload_n (pc := 17) ok 0 dX10_grown_17 rfl ?_
  refine r_lor (pc := 18) ok dX10_grown_18 ?_
  refine r_lload_n (pc := 19) ok 1 dX10_grown_19 rfl ?_
  refine r_bipush (pc := 20) ok 6 dX10_grown_20 (by decide) ?_
  refine r_lshl (pc := 22) ok dX10_grown_22 ?_
  refine r_lor (pc := 23) ok dX10_grown_23 ?_
  refine r_lload_n (pc := 24) ok 1 dX10_grown_24 rfl ?_
  refine r_bipush (pc := 25) ok 6 dX10_grown_25 (by decide) ?_
  refine r_lushr (pc := 27) ok dX10_grown_27 ?_
  refine r_lor (pc := 28) ok dX10_grown_28 ?_
  exact r_lret (pc := 29) ok (Nat.zero_le _) (Nat.zero_le _) rfl dX10_grown_29
theorem con_X10_grown (g : GP) (l : Launch) (vq0 : Int64)  (M : Mem) (r : Int64) (M2 : Mem) (h : fX10_grown vq0 M = some (r, M2)) : Con g l yX10_grown cX10_grown 4 (some FieldType.long) (rmL 2) [.long vq0] M (eJ r) M2 :=
  Con.of (own := RX10) (f := fX10_grown vq0 M) (by decide) (Nat.le_of_ble_eq_true rfl) rfl (fun x ok => wX10_grown ok vq0  M) r M2 h
def fX11_in (vq0 : Int32) (vq1 : Int32) (vq2 : Int32) (M : Mem) : Option (Int32 × Mem) :=
  if vq0 < vq1 then
    (some (0, M))
  else
    (if vq2 < vq0 then
      (some (0, M))
    else
      (some (1, M)))
set_option maxRecDepth 20000 in
theorem wX11_in {g : GP} {l : Launch} {x : CT} (ok : Ok g l x RX11 cX11_in 3 (some FieldType.boolean) (rmL 2)) (vq0 : Int32) (vq1 : Int32) (vq2 : Int32)  (M : Mem) : Sw g l x (FinQ g x eI) 3 0 0 0 [(0, .int vq0), (1, .int vq1), (2, .int vq2)] [] M (fX11_in vq0 vq1 vq2 M) := by
  unfold fX11_in
  refine r_iload_n (pc := 0) ok 0 dX11_in_0 rfl ?_
  refine r_iload_n (pc := 1) ok 1 dX11_in_1 rfl ?_
  refine r_icmp_lt (pc := 2) ok 14 dX11_in_2 (by decide) (fun _ => ?_) (fun _ => ?_)
  · refine r_iconst (pc := 14) ok 0 dX11_in_14 (by decide) ?_
    exact r_zret (pc := 15) ok (Nat.zero_le _) (Nat.zero_le _) rfl rfl dX11_in_15
  · refine r_iload_n (pc := 5) ok 0 dX11_in_5 rfl ?_
    refine r_iload_n (pc := 6) ok 2 dX11_in_6 rfl ?_
    refine r_icmp_gt (pc := 7) ok 14 dX11_in_7 (by decide) (fun _ => ?_) (fun _ => ?_)
    · refine r_iconst (pc := 14) ok 0 dX11_in_14 (by decide) ?_
      exact r_zret (pc := 15) ok (Nat.zero_le _) (Nat.zero_le _) rfl rfl dX11_in_15
    · refine r_iconst (pc := 10) ok 1 dX11_in_10 (by decide) ?_
      refine r_goto (pc := 11) ok 15 dX11_in_11 (by decide) ?_
      exact r_zret (pc := 15) ok (Nat.zero_le _) (Nat.zero_le _) rfl rfl dX11_in_15
theorem con_X11_in (g : GP) (l : Launch) (vq0 : Int32) (vq1 : Int32) (vq2 : Int32)  (M : Mem) (r : Int32) (M2 : Mem) (h : fX11_in vq0 vq1 vq2 M = some (r, M2)) : Con g l yX11_in cX11_in 3 (some FieldType.boolean) (rmL 2) [.int vq0, .int vq1, .int vq2] M (eI r) M2 :=
  Con.of (own := RX11) (f := fX11_in vq0 vq1 vq2 M) (by decide) (Nat.le_of_ble_eq_true rfl) rfl (fun x ok => wX11_in ok vq0 vq1 vq2  M) r M2 h
def fX11_within (vq0 : Int32) (vq1 : Int32) (vq2 : Int32) (M : Mem) : Option (Int32 × Mem) :=
  if vq1 ≤ vq0 then
    (if vq0 ≤ vq2 then
      (some (vq0, M))
    else
      (some (vq2, M)))
  else
    (some (vq1, M))
set_option maxRecDepth 20000 in
theorem wX11_within {g : GP} {l : Launch} {x : CT} (ok : Ok g l x RX11 cX11_within 3 (some FieldType.int) (rmL 2)) (vq0 : Int32) (vq1 : Int32) (vq2 : Int32)  (M : Mem) : Sw g l x (FinQ g x eI) 3 0 0 0 [(0, .int vq0), (1, .int vq1), (2, .int vq2)] [] M (fX11_within vq0 vq1 vq2 M) := by
  unfold fX11_within
  refine r_iload_n (pc := 0) ok 0 dX11_within_0 rfl ?_
  refine r_iload_n (pc := 1) ok 1 dX11_within_1 rfl ?_
  refine r_icmp_ge (pc := 2) ok 9 dX11_within_2 (by decide) (fun _ => ?_) (fun _ => ?_)
  · refine r_iload_n (pc := 9) ok 0 dX11_within_9 rfl ?_
    refine r_iload_n (pc := 10) ok 2 dX11_within_10 rfl ?_
    refine r_icmp_le (pc := 11) ok 18 dX11_within_11 (by decide) (fun _ => ?_) (fun _ => ?_)
    · refine r_iload_n (pc := 18) ok 0 dX11_within_18 rfl ?_
      exact r_iret (pc := 19) ok (Nat.zero_le _) (Nat.zero_le _) rfl dX11_within_19
    · refine r_iload_n (pc := 14) ok 2 dX11_within_14 rfl ?_
      refine r_goto (pc := 15) ok 19 dX11_within_15 (by decide) ?_
      exact r_iret (pc := 19) ok (Nat.zero_le _) (Nat.zero_le _) rfl dX11_within_19
  · refine r_iload_n (pc := 5) ok 1 dX11_within_5 rfl ?_
    refine r_goto (pc := 6) ok 19 dX11_within_6 (by decide) ?_
    exact r_iret (pc := 19) ok (Nat.zero_le _) (Nat.zero_le _) rfl dX11_within_19
theorem con_X11_within (g : GP) (l : Launch) (vq0 : Int32) (vq1 : Int32) (vq2 : Int32)  (M : Mem) (r : Int32) (M2 : Mem) (h : fX11_within vq0 vq1 vq2 M = some (r, M2)) : Con g l yX11_within cX11_within 3 (some FieldType.int) (rmL 2) [.int vq0, .int vq1, .int vq2] M (eI r) M2 :=
  Con.of (own := RX11) (f := fX11_within vq0 vq1 vq2 M) (by decide) (Nat.le_of_ble_eq_true rfl) rfl (fun x ok => wX11_within ok vq0 vq1 vq2  M) r M2 h
def fX11_without0 (vq0 : Int32) (vq1 : Int32) (M : Mem) : Option (Int32 × Mem) :=
  if vq1 ≤ vq0 then
    (some (vq0 - vq1, M))
  else
    (some (vq1 - vq0, M))
set_option maxRecDepth 20000 in
theorem wX11_without0 {g : GP} {l : Launch} {x : CT} (ok : Ok g l x RX11 cX11_without0 2 (some FieldType.int) (rmL 2)) (vq0 : Int32) (vq1 : Int32)  (M : Mem) : Sw g l x (FinQ g x eI) 2 0 0 0 [(0, .int vq0), (1, .int vq1)] [] M (fX11_without0 vq0 vq1 M) := by
  unfold fX11_without0
  refine r_iload_n (pc := 0) ok 0 dX11_without0_0 rfl ?_
  refine r_iload_n (pc := 1) ok 1 dX11_without0_1 rfl ?_
  refine r_icmp_ge (pc := 2) ok 11 dX11_without0_2 (by decide) (fun _ => ?_) (fun _ => ?_)
  · refine r_iload_n (pc := 11) ok 0 dX11_without0_11 rfl ?_
    refine r_iload_n (pc := 12) ok 1 dX11_without0_12 rfl ?_
    refine r_isub (pc := 13) ok dX11_without0_13 ?_
    exact r_iret (pc := 14) ok (Nat.zero_le _) (Nat.zero_le _) rfl dX11_without0_14
  · refine r_iload_n (pc := 5) ok 1 dX11_without0_5 rfl ?_
    refine r_iload_n (pc := 6) ok 0 dX11_without0_6 rfl ?_
    refine r_isub (pc := 7) ok dX11_without0_7 ?_
    refine r_goto (pc := 8) ok 14 dX11_without0_8 (by decide) ?_
    exact r_iret (pc := 14) ok (Nat.zero_le _) (Nat.zero_le _) rfl dX11_without0_14
theorem con_X11_without0 (g : GP) (l : Launch) (vq0 : Int32) (vq1 : Int32)  (M : Mem) (r : Int32) (M2 : Mem) (h : fX11_without0 vq0 vq1 M = some (r, M2)) : Con g l yX11_without0 cX11_without0 2 (some FieldType.int) (rmL 2) [.int vq0, .int vq1] M (eI r) M2 :=
  Con.of (own := RX11) (f := fX11_without0 vq0 vq1 M) (by decide) (Nat.le_of_ble_eq_true rfl) rfl (fun x ok => wX11_without0 ok vq0 vq1  M) r M2 h
def fX11_allOf_B4  (k4 : Int32 → Int32 → Mem → Option (Int32 × Mem)) (vq1 : Int32) (vq2 : Int32) (M : Mem) : Option (Int32 × Mem) :=
  if 36 ≤ vq2 then
    (some (vq1, M))
  else
    (gd (inb vq2 36)
    (lt (vq1 + (M 27 0 vq2.toNatClampNeg)) fun w1 =>
    k4 w1 (vq2 + 1) M))
def fX11_allOf_L4  : Nat → Int32 → Int32 → Mem → Option (Int32 × Mem)
  | 0, _, _, _ => none
  | n + 1, vq1, vq2, M => fX11_allOf_B4  (fX11_allOf_L4  n) vq1 vq2 M
set_option maxRecDepth 20000 in
theorem sX11_allOf_B4 {g : GP} {l : Launch} {x : CT} (ok : Ok g l x RX11 cX11_allOf 3 (some FieldType.int) (rmL 2))   (k4 : Int32 → Int32 → Mem → Option (Int32 × Mem)) (hk4 : ∀ (vq1 : Int32) (vq2 : Int32) (M : Mem), Sw g l x (FinQ g x eI) 3 0 0 4 [(0, .ref (gA g 22 0)), (1, .int vq1), (2, .int vq2)] [] M (k4 vq1 vq2 M)) (vq1 : Int32) (vq2 : Int32) (M : Mem) : Sw g l x (FinQ g x eI) 3 0 0 4 [(0, .ref (gA g 22 0)), (1, .int vq1), (2, .int vq2)] [] M (fX11_allOf_B4  k4 vq1 vq2 M) := by
  unfold fX11_allOf_B4
  refine r_iload_n (pc := 4) ok 2 dX11_allOf_4 rfl ?_
  refine r_bipush (pc := 5) ok 36 dX11_allOf_5 (by decide) ?_
  refine r_icmp_ge (pc := 7) ok 25 dX11_allOf_7 (by decide) (fun _ => ?_) (fun _ => ?_)
  · refine r_iload_n (pc := 25) ok 1 dX11_allOf_25 rfl ?_
    exact r_iret (pc := 26) ok (Nat.zero_le _) (Nat.zero_le _) rfl dX11_allOf_26
  · refine r_iload_n (pc := 10) ok 1 dX11_allOf_10 rfl ?_
    refine r_aload_n (pc := 11) ok 0 dX11_allOf_11 rfl ?_
    refine r_getR (pc := 12) ok fr_22_5 (by decide) fl_X11_22 dX11_allOf_12 ?_
    refine r_iload_n (pc := 15) ok 2 dX11_allOf_15 rfl ?_
    refine r_iald (pc := 16) ok ik_27 (by decide) dX11_allOf_16 (fun _ => ?_)
    refine r_iadd (pc := 17) ok dX11_allOf_17 ?_
    refine r_nmi (fun w1 => ?_)
    refine r_istore_n (pc := 18) ok [(1, .int w1), (0, .ref (gA g 22 0)), (2, .int vq2)] dX11_allOf_18 rfl (by decide) rfl ?_
    refine r_iinc (pc := 19) ok 2 (vq2 + 1) [(2, .int (vq2 + 1)), (1, .int w1), (0, .ref (gA g 22 0))] dX11_allOf_19 rfl (congrArg (fun z => vq2 + z) (by decide : Int32.ofInt 1 = (1 : Int32))) (by decide) rfl ?_
    refine r_goto (pc := 22) ok 4 dX11_allOf_22 (by decide) ?_
    refine r_lv [2, 1, 0] [(0, .ref (gA g 22 0)), (1, .int w1), (2, .int (vq2 + 1))] rfl ?_
    exact hk4 w1 (vq2 + 1) M
theorem sX11_allOf_L4 {g : GP} {l : Launch} {x : CT} (ok : Ok g l x RX11 cX11_allOf 3 (some FieldType.int) (rmL 2))   : ∀ (n : Nat) (vq1 : Int32) (vq2 : Int32) (M : Mem), Sw g l x (FinQ g x eI) 3 0 0 4 [(0, .ref (gA g 22 0)), (1, .int vq1), (2, .int vq2)] [] M (fX11_allOf_L4  n vq1 vq2 M) := by
  intro n
  induction n with
  | zero => intros; exact r_none
  | succ n ih => intro vq1 vq2 M; exact sX11_allOf_B4 ok   _ ih vq1 vq2 M
def fX11_allOf  (M : Mem) : Option (Int32 × Mem) :=
  fX11_allOf_L4 FU 0 0 M
set_option maxRecDepth 20000 in
theorem wX11_allOf {g : GP} {l : Launch} {x : CT} (ok : Ok g l x RX11 cX11_allOf 3 (some FieldType.int) (rmL 2))   (M : Mem) : Sw g l x (FinQ g x eI) 3 0 0 0 [(0, .ref (gA g 22 0))] [] M (fX11_allOf  M) := by
  unfold fX11_allOf
  refine r_iconst (pc := 0) ok 0 dX11_allOf_0 (by decide) ?_
  refine r_istore_n (pc := 1) ok [(1, .int 0), (0, .ref (gA g 22 0))] dX11_allOf_1 rfl (by decide) rfl ?_
  refine r_iconst (pc := 2) ok 0 dX11_allOf_2 (by decide) ?_
  refine r_istore_n (pc := 3) ok [(2, .int 0), (1, .int 0), (0, .ref (gA g 22 0))] dX11_allOf_3 rfl (by decide) rfl ?_
  refine r_lv [2, 1, 0] [(0, .ref (gA g 22 0)), (1, .int 0), (2, .int 0)] rfl ?_
  exact sX11_allOf_L4 ok FU 0 0 M
theorem con_X11_allOf (g : GP) (l : Launch)   (M : Mem) (r : Int32) (M2 : Mem) (h : fX11_allOf  M = some (r, M2)) : Con g l yX11_allOf cX11_allOf 3 (some FieldType.int) (rmL 2) [.ref (gA g 22 0)] M (eI r) M2 :=
  Con.of (own := RX11) (f := fX11_allOf  M) (by decide) (Nat.le_of_ble_eq_true rfl) rfl (fun x ok => wX11_allOf ok   M) r M2 h
def fX11_wordFrom_J88 (k2 : Int32 → Mem → Option (Int32 × Mem)) (vq1 : Int32) (vq2 : Int32) (vq3 : Int32) (vq4 : Int32) (M : Mem) : Option (Int32 × Mem) :=
  if vq4 = 0 then
    (k2 (vq3 + 1) M)
  else
    (some (vq3, M))
set_option maxRecDepth 20000 in
theorem sX11_wordFrom_J88 {g : GP} {l : Launch} {x : CT} {k2 : Int32 → Mem → Option (Int32 × Mem)} (ok : Ok g l x RX11 cX11_wordFrom 6 (some FieldType.int) (rmL 2)) (vq1 : Int32) (vq2 : Int32) (vq3 : Int32) (vq4 : Int32)  (hk2 : ∀ (vq3 : Int32) (M : Mem), Sw g l x (FinQ g x eI) 6 0 0 2 [(0, .ref (gA g 22 0)), (1, .int vq1), (2, .int vq2), (3, .int vq3)] [] M (k2 vq3 M)) (M : Mem) : Sw g l x (FinQ g x eI) 6 0 0 88 [(0, .ref (gA g 22 0)), (1, .int vq1), (2, .int vq2), (3, .int vq3), (4, .int vq4)] [] M (fX11_wordFrom_J88 k2 vq1 vq2 vq3 vq4 M) := by
  unfold fX11_wordFrom_J88
  refine r_iload (pc := 88) ok 4 dX11_wordFrom_88 rfl ?_
  refine r_if_eq (pc := 90) ok 95 dX11_wordFrom_90 (by decide) (fun _ => ?_) (fun _ => ?_)
  · refine r_iinc (pc := 95) ok 3 (vq3 + 1) [(3, .int (vq3 + 1)), (0, .ref (gA g 22 0)), (1, .int vq1), (2, .int vq2), (4, .int vq4)] dX11_wordFrom_95 rfl (congrArg (fun z => vq3 + z) (by decide : Int32.ofInt 1 = (1 : Int32))) (by decide) rfl ?_
    refine r_goto (pc := 98) ok 2 dX11_wordFrom_98 (by decide) ?_
    refine r_lv [1, 2, 3, 0] [(0, .ref (gA g 22 0)), (1, .int vq1), (2, .int vq2), (3, .int (vq3 + 1))] rfl ?_
    exact hk2 (vq3 + 1) M
  · refine r_iload_n (pc := 93) ok 3 dX11_wordFrom_93 rfl ?_
    exact r_iret (pc := 94) ok (Nat.zero_le _) (Nat.zero_le _) rfl dX11_wordFrom_94
def fX11_wordFrom_J72 (k2 : Int32 → Mem → Option (Int32 × Mem)) (k26 : Int32 → Int32 → Mem → Option (Int32 × Mem)) (vq1 : Int32) (vq2 : Int32) (vq3 : Int32) (vq5 : Int32) (s0 : Int32) (s1 : Int32) (M : Mem) : Option (Int32 × Mem) :=
  if s1 = s0 then
    (k26 1 (vq5 + 1) M)
  else
    (k26 0 (vq5 + 1) M)
set_option maxRecDepth 20000 in
theorem sX11_wordFrom_J72 {g : GP} {l : Launch} {x : CT} {k2 : Int32 → Mem → Option (Int32 × Mem)} {k26 : Int32 → Int32 → Mem → Option (Int32 × Mem)} (ok : Ok g l x RX11 cX11_wordFrom 6 (some FieldType.int) (rmL 2)) (vq1 : Int32) (vq2 : Int32) (vq3 : Int32) (vq5 : Int32) (s0 : Int32) (s1 : Int32)  (hk2 : ∀ (vq3 : Int32) (M : Mem), Sw g l x (FinQ g x eI) 6 0 0 2 [(0, .ref (gA g 22 0)), (1, .int vq1), (2, .int vq2), (3, .int vq3)] [] M (k2 vq3 M)) (hk26 : ∀ (vq4 : Int32) (vq5 : Int32) (M : Mem), Sw g l x (FinQ g x eI) 6 0 0 26 [(0, .ref (gA g 22 0)), (1, .int vq1), (2, .int vq2), (3, .int vq3), (4, .int vq4), (5, .int vq5)] [] M (k26 vq4 vq5 M)) (M : Mem) : Sw g l x (FinQ g x eI) 6 0 0 72 [(0, .ref (gA g 22 0)), (1, .int vq1), (2, .int vq2), (3, .int vq3), (5, .int vq5)] [.int s0, .int s1] M (fX11_wordFrom_J72 k2 k26 vq1 vq2 vq3 vq5 s0 s1 M) := by
  unfold fX11_wordFrom_J72
  refine r_icmp_ne (pc := 72) ok 79 dX11_wordFrom_72 (by decide) (fun _ => ?_) (fun _ => ?_)
  · refine r_iconst (pc := 75) ok 1 dX11_wordFrom_75 (by decide) ?_
    refine r_goto (pc := 76) ok 80 dX11_wordFrom_76 (by decide) ?_
    refine r_istore (pc := 80) ok [(4, .int 1), (0, .ref (gA g 22 0)), (1, .int vq1), (2, .int vq2), (3, .int vq3), (5, .int vq5)] dX11_wordFrom_80 (by decide) rfl ?_
    refine r_iinc (pc := 82) ok 5 (vq5 + 1) [(5, .int (vq5 + 1)), (4, .int 1), (0, .ref (gA g 22 0)), (1, .int vq1), (2, .int vq2), (3, .int vq3)] dX11_wordFrom_82 rfl (congrArg (fun z => vq5 + z) (by decide : Int32.ofInt 1 = (1 : Int32))) (by decide) rfl ?_
    refine r_goto (pc := 85) ok 26 dX11_wordFrom_85 (by decide) ?_
    refine r_lv [2, 3, 4, 5, 1, 0] [(0, .ref (gA g 22 0)), (1, .int vq1), (2, .int vq2), (3, .int vq3), (4, .int 1), (5, .int (vq5 + 1))] rfl ?_
    exact hk26 1 (vq5 + 1) M
  · refine r_iconst (pc := 79) ok 0 dX11_wordFrom_79 (by decide) ?_
    refine r_istore (pc := 80) ok [(4, .int 0), (0, .ref (gA g 22 0)), (1, .int vq1), (2, .int vq2), (3, .int vq3), (5, .int vq5)] dX11_wordFrom_80 (by decide) rfl ?_
    refine r_iinc (pc := 82) ok 5 (vq5 + 1) [(5, .int (vq5 + 1)), (4, .int 0), (0, .ref (gA g 22 0)), (1, .int vq1), (2, .int vq2), (3, .int vq3)] dX11_wordFrom_82 rfl (congrArg (fun z => vq5 + z) (by decide : Int32.ofInt 1 = (1 : Int32))) (by decide) rfl ?_
    refine r_goto (pc := 85) ok 26 dX11_wordFrom_85 (by decide) ?_
    refine r_lv [2, 3, 4, 5, 1, 0] [(0, .ref (gA g 22 0)), (1, .int vq1), (2, .int vq2), (3, .int vq3), (4, .int 0), (5, .int (vq5 + 1))] rfl ?_
    exact hk26 0 (vq5 + 1) M
def fX11_wordFrom_B26 (k2 : Int32 → Mem → Option (Int32 × Mem)) (vq1 : Int32) (vq2 : Int32) (vq3 : Int32) (k26 : Int32 → Int32 → Mem → Option (Int32 × Mem)) (vq4 : Int32) (vq5 : Int32) (M : Mem) : Option (Int32 × Mem) :=
  if 8 ≤ vq5 then
    (fX11_wordFrom_J88 k2 vq1 vq2 vq3 vq4 M)
  else
    (if vq4 = 0 then
      (fX11_wordFrom_J88 k2 vq1 vq2 vq3 vq4 M)
    else
      (gd (inb ((8 * vq3) + vq5) 96)
      (if vq2 ≤ (vq1 + vq5) then
        (fX11_wordFrom_J72 k2 k26 vq1 vq2 vq3 vq5 32 (M 37 0 ((8 * vq3) + vq5).toNatClampNeg) M)
      else
        (gd (inb (vq1 + vq5) 160)
        (fX11_wordFrom_J72 k2 k26 vq1 vq2 vq3 vq5 (M 28 0 (vq1 + vq5).toNatClampNeg) (M 37 0 ((8 * vq3) + vq5).toNatClampNeg) M)))))
def fX11_wordFrom_L26 (k2 : Int32 → Mem → Option (Int32 × Mem)) (vq1 : Int32) (vq2 : Int32) (vq3 : Int32) : Nat → Int32 → Int32 → Mem → Option (Int32 × Mem)
  | 0, _, _, _ => none
  | n + 1, vq4, vq5, M => fX11_wordFrom_B26 k2 vq1 vq2 vq3 (fX11_wordFrom_L26 k2 vq1 vq2 vq3 n) vq4 vq5 M
set_option maxRecDepth 20000 in
theorem sX11_wordFrom_B26 {g : GP} {l : Launch} {x : CT} {k2 : Int32 → Mem → Option (Int32 × Mem)} (ok : Ok g l x RX11 cX11_wordFrom 6 (some FieldType.int) (rmL 2)) (vq1 : Int32) (vq2 : Int32) (vq3 : Int32)  (hk2 : ∀ (vq3 : Int32) (M : Mem), Sw g l x (FinQ g x eI) 6 0 0 2 [(0, .ref (gA g 22 0)), (1, .int vq1), (2, .int vq2), (3, .int vq3)] [] M (k2 vq3 M)) (k26 : Int32 → Int32 → Mem → Option (Int32 × Mem)) (hk26 : ∀ (vq4 : Int32) (vq5 : Int32) (M : Mem), Sw g l x (FinQ g x eI) 6 0 0 26 [(0, .ref (gA g 22 0)), (1, .int vq1), (2, .int vq2), (3, .int vq3), (4, .int vq4), (5, .int vq5)] [] M (k26 vq4 vq5 M)) (vq4 : Int32) (vq5 : Int32) (M : Mem) : Sw g l x (FinQ g x eI) 6 0 0 26 [(0, .ref (gA g 22 0)), (1, .int vq1), (2, .int vq2), (3, .int vq3), (4, .int vq4), (5, .int vq5)] [] M (fX11_wordFrom_B26 k2 vq1 vq2 vq3 k26 vq4 vq5 M) := by
  unfold fX11_wordFrom_B26
  refine r_iload (pc := 26) ok 5 dX11_wordFrom_26 rfl ?_
  refine r_bipush (pc := 28) ok 8 dX11_wordFrom_28 (by decide) ?_
  refine r_icmp_ge (pc := 30) ok 88 dX11_wordFrom_30 (by decide) (fun _ => ?_) (fun _ => ?_)
  · refine r_lv [0, 1, 2, 3, 4] [(0, .ref (gA g 22 0)), (1, .int vq1), (2, .int vq2), (3, .int vq3), (4, .int vq4)] rfl ?_
    exact sX11_wordFrom_J88 ok vq1 vq2 vq3 vq4 hk2 M
  · refine r_iload (pc := 33) ok 4 dX11_wordFrom_33 rfl ?_
    refine r_if_eq (pc := 35) ok 88 dX11_wordFrom_35 (by decide) (fun _ => ?_) (fun _ => ?_)
    · refine r_lv [0, 1, 2, 3, 4] [(0, .ref (gA g 22 0)), (1, .int vq1), (2, .int vq2), (3, .int vq3), (4, .int vq4)] rfl ?_
      exact sX11_wordFrom_J88 ok vq1 vq2 vq3 vq4 hk2 M
    · refine r_aload_n (pc := 38) ok 0 dX11_wordFrom_38 rfl ?_
      refine r_getR (pc := 39) ok fr_22_24 (by decide) fl_X11_52 dX11_wordFrom_39 ?_
      refine r_bipush (pc := 42) ok 8 dX11_wordFrom_42 (by decide) ?_
      refine r_iload_n (pc := 44) ok 3 dX11_wordFrom_44 rfl ?_
      refine r_imul (pc := 45) ok dX11_wordFrom_45 ?_
      refine r_iload (pc := 46) ok 5 dX11_wordFrom_46 rfl ?_
      refine r_iadd (pc := 48) ok dX11_wordFrom_48 ?_
      refine r_iald (pc := 49) ok ik_37 (by decide) dX11_wordFrom_49 (fun _ => ?_)
      refine r_iload_n (pc := 50) ok 1 dX11_wordFrom_50 rfl ?_
      refine r_iload (pc := 51) ok 5 dX11_wordFrom_51 rfl ?_
      refine r_iadd (pc := 53) ok dX11_wordFrom_53 ?_
      refine r_iload_n (pc := 54) ok 2 dX11_wordFrom_54 rfl ?_
      refine r_icmp_ge (pc := 55) ok 70 dX11_wordFrom_55 (by decide) (fun _ => ?_) (fun _ => ?_)
      · refine r_bipush (pc := 70) ok 32 dX11_wordFrom_70 (by decide) ?_
        refine r_lv [0, 1, 2, 3, 5] [(0, .ref (gA g 22 0)), (1, .int vq1), (2, .int vq2), (3, .int vq3), (5, .int vq5)] rfl ?_
        exact sX11_wordFrom_J72 ok vq1 vq2 vq3 vq5 32 (M 37 0 ((8 * vq3) + vq5).toNatClampNeg) hk2 hk26 M
      · refine r_aload_n (pc := 58) ok 0 dX11_wordFrom_58 rfl ?_
        refine r_getR (pc := 59) ok fr_22_7 (by decide) fl_X11_25 dX11_wordFrom_59 ?_
        refine r_iload_n (pc := 62) ok 1 dX11_wordFrom_62 rfl ?_
        refine r_iload (pc := 63) ok 5 dX11_wordFrom_63 rfl ?_
        refine r_iadd (pc := 65) ok dX11_wordFrom_65 ?_
        refine r_iald (pc := 66) ok ik_28 (by decide) dX11_wordFrom_66 (fun _ => ?_)
        refine r_goto (pc := 67) ok 72 dX11_wordFrom_67 (by decide) ?_
        refine r_lv [0, 1, 2, 3, 5] [(0, .ref (gA g 22 0)), (1, .int vq1), (2, .int vq2), (3, .int vq3), (5, .int vq5)] rfl ?_
        exact sX11_wordFrom_J72 ok vq1 vq2 vq3 vq5 (M 28 0 (vq1 + vq5).toNatClampNeg) (M 37 0 ((8 * vq3) + vq5).toNatClampNeg) hk2 hk26 M
theorem sX11_wordFrom_L26 {g : GP} {l : Launch} {x : CT} {k2 : Int32 → Mem → Option (Int32 × Mem)} (ok : Ok g l x RX11 cX11_wordFrom 6 (some FieldType.int) (rmL 2)) (vq1 : Int32) (vq2 : Int32) (vq3 : Int32)  (hk2 : ∀ (vq3 : Int32) (M : Mem), Sw g l x (FinQ g x eI) 6 0 0 2 [(0, .ref (gA g 22 0)), (1, .int vq1), (2, .int vq2), (3, .int vq3)] [] M (k2 vq3 M)) : ∀ (n : Nat) (vq4 : Int32) (vq5 : Int32) (M : Mem), Sw g l x (FinQ g x eI) 6 0 0 26 [(0, .ref (gA g 22 0)), (1, .int vq1), (2, .int vq2), (3, .int vq3), (4, .int vq4), (5, .int vq5)] [] M (fX11_wordFrom_L26 k2 vq1 vq2 vq3 n vq4 vq5 M) := by
  intro n
  induction n with
  | zero => intros; exact r_none
  | succ n ih => intro vq4 vq5 M; exact sX11_wordFrom_B26 ok vq1 vq2 vq3  hk2 _ ih vq4 vq5 M
def fX11_wordFrom_B2 (vq1 : Int32) (vq2 : Int32) (k2 : Int32 → Mem → Option (Int32 × Mem)) (vq3 : Int32) (M : Mem) : Option (Int32 × Mem) :=
  if 12 ≤ vq3 then
    (some (12, M))
  else
    (if 8 < (vq2 - vq1) then
      (fX11_wordFrom_L26 k2 vq1 vq2 vq3 FU 0 0 M)
    else
      (fX11_wordFrom_L26 k2 vq1 vq2 vq3 FU 1 0 M))
def fX11_wordFrom_L2 (vq1 : Int32) (vq2 : Int32) : Nat → Int32 → Mem → Option (Int32 × Mem)
  | 0, _, _ => none
  | n + 1, vq3, M => fX11_wordFrom_B2 vq1 vq2 (fX11_wordFrom_L2 vq1 vq2 n) vq3 M
set_option maxRecDepth 20000 in
theorem sX11_wordFrom_B2 {g : GP} {l : Launch} {x : CT} (ok : Ok g l x RX11 cX11_wordFrom 6 (some FieldType.int) (rmL 2)) (vq1 : Int32) (vq2 : Int32)  (k2 : Int32 → Mem → Option (Int32 × Mem)) (hk2 : ∀ (vq3 : Int32) (M : Mem), Sw g l x (FinQ g x eI) 6 0 0 2 [(0, .ref (gA g 22 0)), (1, .int vq1), (2, .int vq2), (3, .int vq3)] [] M (k2 vq3 M)) (vq3 : Int32) (M : Mem) : Sw g l x (FinQ g x eI) 6 0 0 2 [(0, .ref (gA g 22 0)), (1, .int vq1), (2, .int vq2), (3, .int vq3)] [] M (fX11_wordFrom_B2 vq1 vq2 k2 vq3 M) := by
  unfold fX11_wordFrom_B2
  refine r_iload_n (pc := 2) ok 3 dX11_wordFrom_2 rfl ?_
  refine r_bipush (pc := 3) ok 12 dX11_wordFrom_3 (by decide) ?_
  refine r_icmp_ge (pc := 5) ok 101 dX11_wordFrom_5 (by decide) (fun _ => ?_) (fun _ => ?_)
  · refine r_bipush (pc := 101) ok 12 dX11_wordFrom_101 (by decide) ?_
    exact r_iret (pc := 103) ok (Nat.zero_le _) (Nat.zero_le _) rfl dX11_wordFrom_103
  · refine r_iload_n (pc := 8) ok 2 dX11_wordFrom_8 rfl ?_
    refine r_iload_n (pc := 9) ok 1 dX11_wordFrom_9 rfl ?_
    refine r_isub (pc := 10) ok dX11_wordFrom_10 ?_
    refine r_bipush (pc := 11) ok 8 dX11_wordFrom_11 (by decide) ?_
    refine r_icmp_gt (pc := 13) ok 20 dX11_wordFrom_13 (by decide) (fun _ => ?_) (fun _ => ?_)
    · refine r_iconst (pc := 20) ok 0 dX11_wordFrom_20 (by decide) ?_
      refine r_istore (pc := 21) ok [(4, .int 0), (0, .ref (gA g 22 0)), (1, .int vq1), (2, .int vq2), (3, .int vq3)] dX11_wordFrom_21 (by decide) rfl ?_
      refine r_iconst (pc := 23) ok 0 dX11_wordFrom_23 (by decide) ?_
      refine r_istore (pc := 24) ok [(5, .int 0), (4, .int 0), (0, .ref (gA g 22 0)), (1, .int vq1), (2, .int vq2), (3, .int vq3)] dX11_wordFrom_24 (by decide) rfl ?_
      refine r_lv [2, 3, 4, 5, 1, 0] [(0, .ref (gA g 22 0)), (1, .int vq1), (2, .int vq2), (3, .int vq3), (4, .int 0), (5, .int 0)] rfl ?_
      exact sX11_wordFrom_L26 ok vq1 vq2 vq3 hk2 FU 0 0 M
    · refine r_iconst (pc := 16) ok 1 dX11_wordFrom_16 (by decide) ?_
      refine r_goto (pc := 17) ok 21 dX11_wordFrom_17 (by decide) ?_
      refine r_istore (pc := 21) ok [(4, .int 1), (0, .ref (gA g 22 0)), (1, .int vq1), (2, .int vq2), (3, .int vq3)] dX11_wordFrom_21 (by decide) rfl ?_
      refine r_iconst (pc := 23) ok 0 dX11_wordFrom_23 (by decide) ?_
      refine r_istore (pc := 24) ok [(5, .int 0), (4, .int 1), (0, .ref (gA g 22 0)), (1, .int vq1), (2, .int vq2), (3, .int vq3)] dX11_wordFrom_24 (by decide) rfl ?_
      refine r_lv [2, 3, 4, 5, 1, 0] [(0, .ref (gA g 22 0)), (1, .int vq1), (2, .int vq2), (3, .int vq3), (4, .int 1), (5, .int 0)] rfl ?_
      exact sX11_wordFrom_L26 ok vq1 vq2 vq3 hk2 FU 1 0 M
theorem sX11_wordFrom_L2 {g : GP} {l : Launch} {x : CT} (ok : Ok g l x RX11 cX11_wordFrom 6 (some FieldType.int) (rmL 2)) (vq1 : Int32) (vq2 : Int32)  : ∀ (n : Nat) (vq3 : Int32) (M : Mem), Sw g l x (FinQ g x eI) 6 0 0 2 [(0, .ref (gA g 22 0)), (1, .int vq1), (2, .int vq2), (3, .int vq3)] [] M (fX11_wordFrom_L2 vq1 vq2 n vq3 M) := by
  intro n
  induction n with
  | zero => intros; exact r_none
  | succ n ih => intro vq3 M; exact sX11_wordFrom_B2 ok vq1 vq2  _ ih vq3 M
def fX11_wordFrom (vq1 : Int32) (vq2 : Int32) (M : Mem) : Option (Int32 × Mem) :=
  fX11_wordFrom_L2 vq1 vq2 FU 0 M
set_option maxRecDepth 20000 in
theorem wX11_wordFrom {g : GP} {l : Launch} {x : CT} (ok : Ok g l x RX11 cX11_wordFrom 6 (some FieldType.int) (rmL 2)) (vq1 : Int32) (vq2 : Int32)  (M : Mem) : Sw g l x (FinQ g x eI) 6 0 0 0 [(0, .ref (gA g 22 0)), (1, .int vq1), (2, .int vq2)] [] M (fX11_wordFrom vq1 vq2 M) := by
  unfold fX11_wordFrom
  refine r_iconst (pc := 0) ok 0 dX11_wordFrom_0 (by decide) ?_
  refine r_istore_n (pc := 1) ok [(3, .int 0), (0, .ref (gA g 22 0)), (1, .int vq1), (2, .int vq2)] dX11_wordFrom_1 rfl (by decide) rfl ?_
  refine r_lv [1, 2, 3, 0] [(0, .ref (gA g 22 0)), (1, .int vq1), (2, .int vq2), (3, .int 0)] rfl ?_
  exact sX11_wordFrom_L2 ok vq1 vq2 FU 0 M
theorem con_X11_wordFrom (g : GP) (l : Launch) (vq1 : Int32) (vq2 : Int32)  (M : Mem) (r : Int32) (M2 : Mem) (h : fX11_wordFrom vq1 vq2 M = some (r, M2)) : Con g l yX11_wordFrom cX11_wordFrom 6 (some FieldType.int) (rmL 2) [.ref (gA g 22 0), .int vq1, .int vq2] M (eI r) M2 :=
  Con.of (own := RX11) (f := fX11_wordFrom vq1 vq2 M) (by decide) (Nat.le_of_ble_eq_true rfl) rfl (fun x ok => wX11_wordFrom ok vq1 vq2  M) r M2 h
def fX11_rank (vq0 : Int32) (M : Mem) : Option (Int32 × Mem) :=
  if vq0 = 0 then
    (some (0, M))
  else
    (if vq0 = 11 then
      (some (1, M))
    else
      (if vq0 = 12 then
        (some (2, M))
      else
        (if vq0 = 13 then
          (some (3, M))
        else
          (if 15 < vq0 then
            (if 17 < vq0 then
              (if vq0 = 18 then
                (some (6, M))
              else
                (some (7, M)))
            else
              (some (5, M)))
          else
            (some (4, M))))))
set_option maxRecDepth 20000 in
theorem wX11_rank {g : GP} {l : Launch} {x : CT} (ok : Ok g l x RX11 cX11_rank 1 (some FieldType.int) (rmL 2)) (vq0 : Int32)  (M : Mem) : Sw g l x (FinQ g x eI) 1 0 0 0 [(0, .int vq0)] [] M (fX11_rank vq0 M) := by
  unfold fX11_rank
  refine r_iload_n (pc := 0) ok 0 dX11_rank_0 rfl ?_
  refine r_if_ne (pc := 1) ok 8 dX11_rank_1 (by decide) (fun _ => ?_) (fun _ => ?_)
  · refine r_iconst (pc := 4) ok 0 dX11_rank_4 (by decide) ?_
    refine r_goto (pc := 5) ok 71 dX11_rank_5 (by decide) ?_
    exact r_iret (pc := 71) ok (Nat.zero_le _) (Nat.zero_le _) rfl dX11_rank_71
  · refine r_iload_n (pc := 8) ok 0 dX11_rank_8 rfl ?_
    refine r_bipush (pc := 9) ok 11 dX11_rank_9 (by decide) ?_
    refine r_icmp_ne (pc := 11) ok 18 dX11_rank_11 (by decide) (fun _ => ?_) (fun _ => ?_)
    · refine r_iconst (pc := 14) ok 1 dX11_rank_14 (by decide) ?_
      refine r_goto (pc := 15) ok 71 dX11_rank_15 (by decide) ?_
      exact r_iret (pc := 71) ok (Nat.zero_le _) (Nat.zero_le _) rfl dX11_rank_71
    · refine r_iload_n (pc := 18) ok 0 dX11_rank_18 rfl ?_
      refine r_bipush (pc := 19) ok 12 dX11_rank_19 (by decide) ?_
      refine r_icmp_ne (pc := 21) ok 28 dX11_rank_21 (by decide) (fun _ => ?_) (fun _ => ?_)
      · refine r_iconst (pc := 24) ok 2 dX11_rank_24 (by decide) ?_
        refine r_goto (pc := 25) ok 71 dX11_rank_25 (by decide) ?_
        exact r_iret (pc := 71) ok (Nat.zero_le _) (Nat.zero_le _) rfl dX11_rank_71
      · refine r_iload_n (pc := 28) ok 0 dX11_rank_28 rfl ?_
        refine r_bipush (pc := 29) ok 13 dX11_rank_29 (by decide) ?_
        refine r_icmp_ne (pc := 31) ok 38 dX11_rank_31 (by decide) (fun _ => ?_) (fun _ => ?_)
        · refine r_iconst (pc := 34) ok 3 dX11_rank_34 (by decide) ?_
          refine r_goto (pc := 35) ok 71 dX11_rank_35 (by decide) ?_
          exact r_iret (pc := 71) ok (Nat.zero_le _) (Nat.zero_le _) rfl dX11_rank_71
        · refine r_iload_n (pc := 38) ok 0 dX11_rank_38 rfl ?_
          refine r_bipush (pc := 39) ok 15 dX11_rank_39 (by decide) ?_
          refine r_icmp_gt (pc := 41) ok 48 dX11_rank_41 (by decide) (fun _ => ?_) (fun _ => ?_)
          · refine r_iload_n (pc := 48) ok 0 dX11_rank_48 rfl ?_
            refine r_bipush (pc := 49) ok 17 dX11_rank_49 (by decide) ?_
            refine r_icmp_gt (pc := 51) ok 58 dX11_rank_51 (by decide) (fun _ => ?_) (fun _ => ?_)
            · refine r_iload_n (pc := 58) ok 0 dX11_rank_58 rfl ?_
              refine r_bipush (pc := 59) ok 18 dX11_rank_59 (by decide) ?_
              refine r_icmp_ne (pc := 61) ok 69 dX11_rank_61 (by decide) (fun _ => ?_) (fun _ => ?_)
              · refine r_bipush (pc := 64) ok 6 dX11_rank_64 (by decide) ?_
                refine r_goto (pc := 66) ok 71 dX11_rank_66 (by decide) ?_
                exact r_iret (pc := 71) ok (Nat.zero_le _) (Nat.zero_le _) rfl dX11_rank_71
              · refine r_bipush (pc := 69) ok 7 dX11_rank_69 (by decide) ?_
                exact r_iret (pc := 71) ok (Nat.zero_le _) (Nat.zero_le _) rfl dX11_rank_71
            · refine r_iconst (pc := 54) ok 5 dX11_rank_54 (by decide) ?_
              refine r_goto (pc := 55) ok 71 dX11_rank_55 (by decide) ?_
              exact r_iret (pc := 71) ok (Nat.zero_le _) (Nat.zero_le _) rfl dX11_rank_71
          · refine r_iconst (pc := 44) ok 4 dX11_rank_44 (by decide) ?_
            refine r_goto (pc := 45) ok 71 dX11_rank_45 (by decide) ?_
            exact r_iret (pc := 71) ok (Nat.zero_le _) (Nat.zero_le _) rfl dX11_rank_71
theorem con_X11_rank (g : GP) (l : Launch) (vq0 : Int32)  (M : Mem) (r : Int32) (M2 : Mem) (h : fX11_rank vq0 M = some (r, M2)) : Con g l yX11_rank cX11_rank 1 (some FieldType.int) (rmL 2) [.int vq0] M (eI r) M2 :=
  Con.of (own := RX11) (f := fX11_rank vq0 M) (by decide) (Nat.le_of_ble_eq_true rfl) rfl (fun x ok => wX11_rank ok vq0  M) r M2 h
def fX11_puts (vq1 : Int32) (M : Mem) : Option (Unit × Mem) :=
  gd (inb ((200 * (M 22 0 11)) + (M 22 0 28)) 1200)
  (lt (mst M 29 0 ((200 * (M 22 0 11)) + (M 22 0 28)).toNatClampNeg vq1) fun M1 =>
  lt (mst M1 22 0 28 ((M1 22 0 28) + 1)) fun M2 =>
  some ((), M2))
set_option maxRecDepth 20000 in
theorem wX11_puts {g : GP} {l : Launch} {x : CT} (ok : Ok g l x RX11 cX11_puts 2 none (rmL 2)) (vq1 : Int32)  (M : Mem) : Sw g l x (FinQ g x eV) 2 0 0 0 [(0, .ref (gA g 22 0)), (1, .int vq1)] [] M (fX11_puts vq1 M) := by
  unfold fX11_puts
  refine r_aload_n (pc := 0) ok 0 dX11_puts_0 rfl ?_
  refine r_getR (pc := 1) ok fr_22_9 (by decide) fl_X11_28 dX11_puts_1 ?_
  refine r_sipush (pc := 4) ok 200 dX11_puts_4 (by decide) ?_
  refine r_aload_n (pc := 7) ok 0 dX11_puts_7 rfl ?_
  refine r_getI (pc := 8) ok fi_22_11 (by decide) fl_X11_98 dX11_puts_8 ?_
  refine r_imul (pc := 11) ok dX11_puts_11 ?_
  refine r_aload_n (pc := 12) ok 0 dX11_puts_12 rfl ?_
  refine r_getI (pc := 13) ok fi_22_28 (by decide) fl_X11_126 dX11_puts_13 ?_
  refine r_iadd (pc := 16) ok dX11_puts_16 ?_
  refine r_iload_n (pc := 17) ok 1 dX11_puts_17 rfl ?_
  refine r_iast (pc := 18) ok ik_29 (by decide) dX11_puts_18 ?_
  refine r_nmM (fun M1 => ?_)
  refine r_aload_n (pc := 19) ok 0 dX11_puts_19 rfl ?_
  refine r_dup (pc := 20) ok dX11_puts_20 rfl ?_
  refine r_getI (pc := 21) ok fi_22_28 (by decide) fl_X11_126 dX11_puts_21 ?_
  refine r_iconst (pc := 24) ok 1 dX11_puts_24 (by decide) ?_
  refine r_iadd (pc := 25) ok dX11_puts_25 ?_
  refine r_putI (pc := 26) ok fi_22_28 (by decide) fl_X11_126 fp_22_28 ⟨rfl, rfl⟩ dX11_puts_26 ?_
  refine r_nmM (fun M2 => ?_)
  exact r_vret (pc := 29) ok (Nat.zero_le _) (Nat.zero_le _) rfl dX11_puts_29
theorem con_X11_puts (g : GP) (l : Launch) (vq1 : Int32)  (M : Mem) (r : Unit) (M2 : Mem) (h : fX11_puts vq1 M = some (r, M2)) : Con g l yX11_puts cX11_puts 2 none (rmL 2) [.ref (gA g 22 0), .int vq1] M (eV r) M2 :=
  Con.of (own := RX11) (f := fX11_puts vq1 M) (by decide) (Nat.le_of_ble_eq_true rfl) rfl (fun x ok => wX11_puts ok vq1  M) r M2 h
def fX11_holdsText (vq1 : Int32) (M : Mem) : Option (Unit × Mem) :=
  gd (inb (M 22 0 26) 200)
  (lt (mst M 38 0 (M 22 0 26).toNatClampNeg vq1) fun M1 =>
  lt (mst M1 22 0 26 ((M1 22 0 26) + 1)) fun M2 =>
  some ((), M2))
set_option maxRecDepth 20000 in
theorem wX11_holdsText {g : GP} {l : Launch} {x : CT} (ok : Ok g l x RX11 cX11_holdsText 2 none (rmL 2)) (vq1 : Int32)  (M : Mem) : Sw g l x (FinQ g x eV) 2 0 0 0 [(0, .ref (gA g 22 0)), (1, .int vq1)] [] M (fX11_holdsText vq1 M) := by
  unfold fX11_holdsText
  refine r_aload_n (pc := 0) ok 0 dX11_holdsText_0 rfl ?_
  refine r_getR (pc := 1) ok fr_22_25 (by decide) fl_X11_55 dX11_holdsText_1 ?_
  refine r_aload_n (pc := 4) ok 0 dX11_holdsText_4 rfl ?_
  refine r_getI (pc := 5) ok fi_22_26 (by decide) fl_X11_129 dX11_holdsText_5 ?_
  refine r_iload_n (pc := 8) ok 1 dX11_holdsText_8 rfl ?_
  refine r_iast (pc := 9) ok ik_38 (by decide) dX11_holdsText_9 ?_
  refine r_nmM (fun M1 => ?_)
  refine r_aload_n (pc := 10) ok 0 dX11_holdsText_10 rfl ?_
  refine r_dup (pc := 11) ok dX11_holdsText_11 rfl ?_
  refine r_getI (pc := 12) ok fi_22_26 (by decide) fl_X11_129 dX11_holdsText_12 ?_
  refine r_iconst (pc := 15) ok 1 dX11_holdsText_15 (by decide) ?_
  refine r_iadd (pc := 16) ok dX11_holdsText_16 ?_
  refine r_putI (pc := 17) ok fi_22_26 (by decide) fl_X11_129 fp_22_26 ⟨rfl, rfl⟩ dX11_holdsText_17 ?_
  refine r_nmM (fun M2 => ?_)
  exact r_vret (pc := 20) ok (Nat.zero_le _) (Nat.zero_le _) rfl dX11_holdsText_20
theorem con_X11_holdsText (g : GP) (l : Launch) (vq1 : Int32)  (M : Mem) (r : Unit) (M2 : Mem) (h : fX11_holdsText vq1 M = some (r, M2)) : Con g l yX11_holdsText cX11_holdsText 2 none (rmL 2) [.ref (gA g 22 0), .int vq1] M (eV r) M2 :=
  Con.of (own := RX11) (f := fX11_holdsText vq1 M) (by decide) (Nat.le_of_ble_eq_true rfl) rfl (fun x ok => wX11_holdsText ok vq1  M) r M2 h
def fX11_signOf  (M : Mem) : Option (Int32 × Mem) :=
  if (M 22 0 22) = 4 then
    (some (11, M))
  else
    (if (M 22 0 22) = 5 then
      (some (12, M))
    else
      (if (M 22 0 22) = 60 then
        (some (14, M))
      else
        (if (M 22 0 22) = 61 then
          (some (15, M))
        else
          (if (M 22 0 22) = 43 then
            (some (16, M))
          else
            (if (M 22 0 22) = 45 then
              (some (17, M))
            else
              (if (M 22 0 22) = 42 then
                (some (18, M))
              else
                (some (-1, M))))))))
set_option maxRecDepth 20000 in
theorem wX11_signOf {g : GP} {l : Launch} {x : CT} (ok : Ok g l x RX11 cX11_signOf 1 (some FieldType.int) (rmL 2))   (M : Mem) : Sw g l x (FinQ g x eI) 1 0 0 0 [(0, .ref (gA g 22 0))] [] M (fX11_signOf  M) := by
  unfold fX11_signOf
  refine r_aload_n (pc := 0) ok 0 dX11_signOf_0 rfl ?_
  refine r_getI (pc := 1) ok fi_22_22 (by decide) fl_X11_117 dX11_signOf_1 ?_
  refine r_iconst (pc := 4) ok 4 dX11_signOf_4 (by decide) ?_
  refine r_icmp_ne (pc := 5) ok 13 dX11_signOf_5 (by decide) (fun _ => ?_) (fun _ => ?_)
  · refine r_bipush (pc := 8) ok 11 dX11_signOf_8 (by decide) ?_
    refine r_goto (pc := 10) ok 97 dX11_signOf_10 (by decide) ?_
    exact r_iret (pc := 97) ok (Nat.zero_le _) (Nat.zero_le _) rfl dX11_signOf_97
  · refine r_aload_n (pc := 13) ok 0 dX11_signOf_13 rfl ?_
    refine r_getI (pc := 14) ok fi_22_22 (by decide) fl_X11_117 dX11_signOf_14 ?_
    refine r_iconst (pc := 17) ok 5 dX11_signOf_17 (by decide) ?_
    refine r_icmp_ne (pc := 18) ok 26 dX11_signOf_18 (by decide) (fun _ => ?_) (fun _ => ?_)
    · refine r_bipush (pc := 21) ok 12 dX11_signOf_21 (by decide) ?_
      refine r_goto (pc := 23) ok 97 dX11_signOf_23 (by decide) ?_
      exact r_iret (pc := 97) ok (Nat.zero_le _) (Nat.zero_le _) rfl dX11_signOf_97
    · refine r_aload_n (pc := 26) ok 0 dX11_signOf_26 rfl ?_
      refine r_getI (pc := 27) ok fi_22_22 (by decide) fl_X11_117 dX11_signOf_27 ?_
      refine r_bipush (pc := 30) ok 60 dX11_signOf_30 (by decide) ?_
      refine r_icmp_ne (pc := 32) ok 40 dX11_signOf_32 (by decide) (fun _ => ?_) (fun _ => ?_)
      · refine r_bipush (pc := 35) ok 14 dX11_signOf_35 (by decide) ?_
        refine r_goto (pc := 37) ok 97 dX11_signOf_37 (by decide) ?_
        exact r_iret (pc := 97) ok (Nat.zero_le _) (Nat.zero_le _) rfl dX11_signOf_97
      · refine r_aload_n (pc := 40) ok 0 dX11_signOf_40 rfl ?_
        refine r_getI (pc := 41) ok fi_22_22 (by decide) fl_X11_117 dX11_signOf_41 ?_
        refine r_bipush (pc := 44) ok 61 dX11_signOf_44 (by decide) ?_
        refine r_icmp_ne (pc := 46) ok 54 dX11_signOf_46 (by decide) (fun _ => ?_) (fun _ => ?_)
        · refine r_bipush (pc := 49) ok 15 dX11_signOf_49 (by decide) ?_
          refine r_goto (pc := 51) ok 97 dX11_signOf_51 (by decide) ?_
          exact r_iret (pc := 97) ok (Nat.zero_le _) (Nat.zero_le _) rfl dX11_signOf_97
        · refine r_aload_n (pc := 54) ok 0 dX11_signOf_54 rfl ?_
          refine r_getI (pc := 55) ok fi_22_22 (by decide) fl_X11_117 dX11_signOf_55 ?_
          refine r_bipush (pc := 58) ok 43 dX11_signOf_58 (by decide) ?_
          refine r_icmp_ne (pc := 60) ok 68 dX11_signOf_60 (by decide) (fun _ => ?_) (fun _ => ?_)
          · refine r_bipush (pc := 63) ok 16 dX11_signOf_63 (by decide) ?_
            refine r_goto (pc := 65) ok 97 dX11_signOf_65 (by decide) ?_
            exact r_iret (pc := 97) ok (Nat.zero_le _) (Nat.zero_le _) rfl dX11_signOf_97
          · refine r_aload_n (pc := 68) ok 0 dX11_signOf_68 rfl ?_
            refine r_getI (pc := 69) ok fi_22_22 (by decide) fl_X11_117 dX11_signOf_69 ?_
            refine r_bipush (pc := 72) ok 45 dX11_signOf_72 (by decide) ?_
            refine r_icmp_ne (pc := 74) ok 82 dX11_signOf_74 (by decide) (fun _ => ?_) (fun _ => ?_)
            · refine r_bipush (pc := 77) ok 17 dX11_signOf_77 (by decide) ?_
              refine r_goto (pc := 79) ok 97 dX11_signOf_79 (by decide) ?_
              exact r_iret (pc := 97) ok (Nat.zero_le _) (Nat.zero_le _) rfl dX11_signOf_97
            · refine r_aload_n (pc := 82) ok 0 dX11_signOf_82 rfl ?_
              refine r_getI (pc := 83) ok fi_22_22 (by decide) fl_X11_117 dX11_signOf_83 ?_
              refine r_bipush (pc := 86) ok 42 dX11_signOf_86 (by decide) ?_
              refine r_icmp_ne (pc := 88) ok 96 dX11_signOf_88 (by decide) (fun _ => ?_) (fun _ => ?_)
              · refine r_bipush (pc := 91) ok 18 dX11_signOf_91 (by decide) ?_
                refine r_goto (pc := 93) ok 97 dX11_signOf_93 (by decide) ?_
                exact r_iret (pc := 97) ok (Nat.zero_le _) (Nat.zero_le _) rfl dX11_signOf_97
              · refine r_iconst (pc := 96) ok (-1) dX11_signOf_96 (by decide) ?_
                exact r_iret (pc := 97) ok (Nat.zero_le _) (Nat.zero_le _) rfl dX11_signOf_97
theorem con_X11_signOf (g : GP) (l : Launch)   (M : Mem) (r : Int32) (M2 : Mem) (h : fX11_signOf  M = some (r, M2)) : Con g l yX11_signOf cX11_signOf 1 (some FieldType.int) (rmL 2) [.ref (gA g 22 0)] M (eI r) M2 :=
  Con.of (own := RX11) (f := fX11_signOf  M) (by decide) (Nat.le_of_ble_eq_true rfl) rfl (fun x ok => wX11_signOf ok   M) r M2 h
def fX11_two (vq0 : Int32) (vq1 : Int32) (vq2 : Int32) (M : Mem) : Option (Int32 × Mem) :=
  if vq0 = 11 then
    (if vq1 = 0 then
      (if vq2 = 0 then
        (some (0, M))
      else
        (some (1, M)))
    else
      (some (1, M)))
  else
    (if vq0 = 12 then
      (if vq1 = 0 then
        (some (0, M))
      else
        (if vq2 = 0 then
          (some (0, M))
        else
          (some (1, M))))
    else
      (if vq0 = 13 then
        (some (vq1 * vq2, M))
      else
        (if vq0 = 14 then
          (if vq2 ≤ vq1 then
            (some (0, M))
          else
            (some (1, M)))
        else
          (if vq0 = 15 then
            (if vq1 = vq2 then
              (some (1, M))
            else
              (some (0, M)))
          else
            (if vq0 = 16 then
              (some (vq1 + vq2, M))
            else
              (if vq0 = 17 then
                (some (vq1 - vq2, M))
              else
                (some (vq1 * vq2, M))))))))
set_option maxRecDepth 20000 in
theorem wX11_two {g : GP} {l : Launch} {x : CT} (ok : Ok g l x RX11 cX11_two 3 (some FieldType.int) (rmL 2)) (vq0 : Int32) (vq1 : Int32) (vq2 : Int32)  (M : Mem) : Sw g l x (FinQ g x eI) 3 0 0 0 [(0, .int vq0), (1, .int vq1), (2, .int vq2)] [] M (fX11_two vq0 vq1 vq2 M) := by
  unfold fX11_two
  refine r_iload_n (pc := 0) ok 0 dX11_two_0 rfl ?_
  refine r_swc (pc := 1) ok (43) 44 dX11_two_1 (by decide +kernel) (by decide) (fun _ => ?_) (fun hs1 => ?_)
  · refine r_iload_n (pc := 44) ok 1 dX11_two_44 rfl ?_
    refine r_if_ne (pc := 45) ok 52 dX11_two_45 (by decide) (fun _ => ?_) (fun _ => ?_)
    · refine r_iload_n (pc := 48) ok 2 dX11_two_48 rfl ?_
      refine r_if_eq (pc := 49) ok 56 dX11_two_49 (by decide) (fun _ => ?_) (fun _ => ?_)
      · refine r_iconst (pc := 56) ok 0 dX11_two_56 (by decide) ?_
        exact r_iret (pc := 57) ok (Nat.zero_le _) (Nat.zero_le _) rfl dX11_two_57
      · refine r_iconst (pc := 52) ok 1 dX11_two_52 (by decide) ?_
        refine r_goto (pc := 53) ok 57 dX11_two_53 (by decide) ?_
        exact r_iret (pc := 57) ok (Nat.zero_le _) (Nat.zero_le _) rfl dX11_two_57
    · refine r_iconst (pc := 52) ok 1 dX11_two_52 (by decide) ?_
      refine r_goto (pc := 53) ok 57 dX11_two_53 (by decide) ?_
      exact r_iret (pc := 57) ok (Nat.zero_le _) (Nat.zero_le _) rfl dX11_two_57
  · refine r_swc (pc := 1) ok (57) 58 dX11_two_1 (by decide +kernel) (by decide) (fun _ => ?_) (fun hs2 => ?_)
    · refine r_iload_n (pc := 58) ok 1 dX11_two_58 rfl ?_
      refine r_if_eq (pc := 59) ok 70 dX11_two_59 (by decide) (fun _ => ?_) (fun _ => ?_)
      · refine r_iconst (pc := 70) ok 0 dX11_two_70 (by decide) ?_
        exact r_iret (pc := 71) ok (Nat.zero_le _) (Nat.zero_le _) rfl dX11_two_71
      · refine r_iload_n (pc := 62) ok 2 dX11_two_62 rfl ?_
        refine r_if_eq (pc := 63) ok 70 dX11_two_63 (by decide) (fun _ => ?_) (fun _ => ?_)
        · refine r_iconst (pc := 70) ok 0 dX11_two_70 (by decide) ?_
          exact r_iret (pc := 71) ok (Nat.zero_le _) (Nat.zero_le _) rfl dX11_two_71
        · refine r_iconst (pc := 66) ok 1 dX11_two_66 (by decide) ?_
          refine r_goto (pc := 67) ok 71 dX11_two_67 (by decide) ?_
          exact r_iret (pc := 71) ok (Nat.zero_le _) (Nat.zero_le _) rfl dX11_two_71
    · refine r_swc (pc := 1) ok (101) 102 dX11_two_1 (by decide +kernel) (by decide) (fun _ => ?_) (fun hs3 => ?_)
      · refine r_iload_n (pc := 102) ok 1 dX11_two_102 rfl ?_
        refine r_iload_n (pc := 103) ok 2 dX11_two_103 rfl ?_
        refine r_imul (pc := 104) ok dX11_two_104 ?_
        exact r_iret (pc := 105) ok (Nat.zero_le _) (Nat.zero_le _) rfl dX11_two_105
      · refine r_swc (pc := 1) ok (71) 72 dX11_two_1 (by decide +kernel) (by decide) (fun _ => ?_) (fun hs4 => ?_)
        · refine r_iload_n (pc := 72) ok 1 dX11_two_72 rfl ?_
          refine r_iload_n (pc := 73) ok 2 dX11_two_73 rfl ?_
          refine r_icmp_ge (pc := 74) ok 81 dX11_two_74 (by decide) (fun _ => ?_) (fun _ => ?_)
          · refine r_iconst (pc := 81) ok 0 dX11_two_81 (by decide) ?_
            exact r_iret (pc := 82) ok (Nat.zero_le _) (Nat.zero_le _) rfl dX11_two_82
          · refine r_iconst (pc := 77) ok 1 dX11_two_77 (by decide) ?_
            refine r_goto (pc := 78) ok 82 dX11_two_78 (by decide) ?_
            exact r_iret (pc := 82) ok (Nat.zero_le _) (Nat.zero_le _) rfl dX11_two_82
        · refine r_swc (pc := 1) ok (82) 83 dX11_two_1 (by decide +kernel) (by decide) (fun _ => ?_) (fun hs5 => ?_)
          · refine r_iload_n (pc := 83) ok 1 dX11_two_83 rfl ?_
            refine r_iload_n (pc := 84) ok 2 dX11_two_84 rfl ?_
            refine r_icmp_ne (pc := 85) ok 92 dX11_two_85 (by decide) (fun _ => ?_) (fun _ => ?_)
            · refine r_iconst (pc := 88) ok 1 dX11_two_88 (by decide) ?_
              refine r_goto (pc := 89) ok 93 dX11_two_89 (by decide) ?_
              exact r_iret (pc := 93) ok (Nat.zero_le _) (Nat.zero_le _) rfl dX11_two_93
            · refine r_iconst (pc := 92) ok 0 dX11_two_92 (by decide) ?_
              exact r_iret (pc := 93) ok (Nat.zero_le _) (Nat.zero_le _) rfl dX11_two_93
          · refine r_swc (pc := 1) ok (93) 94 dX11_two_1 (by decide +kernel) (by decide) (fun _ => ?_) (fun hs6 => ?_)
            · refine r_iload_n (pc := 94) ok 1 dX11_two_94 rfl ?_
              refine r_iload_n (pc := 95) ok 2 dX11_two_95 rfl ?_
              refine r_iadd (pc := 96) ok dX11_two_96 ?_
              exact r_iret (pc := 97) ok (Nat.zero_le _) (Nat.zero_le _) rfl dX11_two_97
            · refine r_swc (pc := 1) ok (97) 98 dX11_two_1 (by decide +kernel) (by decide) (fun _ => ?_) (fun hs7 => ?_)
              · refine r_iload_n (pc := 98) ok 1 dX11_two_98 rfl ?_
                refine r_iload_n (pc := 99) ok 2 dX11_two_99 rfl ?_
                refine r_isub (pc := 100) ok dX11_two_100 ?_
                exact r_iret (pc := 101) ok (Nat.zero_le _) (Nat.zero_le _) rfl dX11_two_101
              · refine r_swd (pc := 1) ok 102 dX11_two_1 (by have := lv_neT hs1 (by decide : (11 : Int32).toInt = 11) ; have := lv_neT hs2 (by decide : (12 : Int32).toInt = 12) ; have := lv_neT hs3 (by decide : (13 : Int32).toInt = 13) ; have := lv_neT hs4 (by decide : (14 : Int32).toInt = 14) ; have := lv_neT hs5 (by decide : (15 : Int32).toInt = 15) ; have := lv_neT hs6 (by decide : (16 : Int32).toInt = 16) ; have := lv_neT hs7 (by decide : (17 : Int32).toInt = 17) ; omega) (by decide) ?_
                refine r_iload_n (pc := 102) ok 1 dX11_two_102 rfl ?_
                refine r_iload_n (pc := 103) ok 2 dX11_two_103 rfl ?_
                refine r_imul (pc := 104) ok dX11_two_104 ?_
                exact r_iret (pc := 105) ok (Nat.zero_le _) (Nat.zero_le _) rfl dX11_two_105
theorem con_X11_two (g : GP) (l : Launch) (vq0 : Int32) (vq1 : Int32) (vq2 : Int32)  (M : Mem) (r : Int32) (M2 : Mem) (h : fX11_two vq0 vq1 vq2 M = some (r, M2)) : Con g l yX11_two cX11_two 3 (some FieldType.int) (rmL 2) [.int vq0, .int vq1, .int vq2] M (eI r) M2 :=
  Con.of (own := RX11) (f := fX11_two vq0 vq1 vq2 M) (by decide) (Nat.le_of_ble_eq_true rfl) rfl (fun x ok => wX11_two ok vq0 vq1 vq2  M) r M2 h
def fX11_leavesAt (vq1 : Int32) (vq2 : Int32) (vq3 : Int32) (M : Mem) : Option (Int32 × Mem) :=
  gd (inb vq1 6)
  (if (M 23 0 vq1.toNatClampNeg) = 1 then
    (if vq3 = 0 then
      (some (vq2, M))
    else
      (some (vq2 / 2, M)))
  else
    (if (M 23 0 vq1.toNatClampNeg) = 2 then
      (if vq3 = 0 then
        (if vq2 ≤ 0 then
          (some (0, M))
        else
          (some (1, M)))
      else
        (some (0, M)))
    else
      (if (M 23 0 vq1.toNatClampNeg) = 3 then
        (if vq3 = 0 then
          (gd (inb vq1 6)
          (some (vq2 + (2 * (M 24 0 vq1.toNatClampNeg)), M)))
        else
          (some (vq2 / 2, M)))
      else
        (if (M 23 0 vq1.toNatClampNeg) = 4 then
          (if vq3 = 0 then
            (gd (inb vq1 6)
            (some (-(M 24 0 vq1.toNatClampNeg), M)))
          else
            (some (0, M)))
        else
          (if (M 23 0 vq1.toNatClampNeg) = 5 then
            (some (0, M))
          else
            (if vq3 = 0 then
              (some (vq2, M))
            else
              (some (0, M))))))))
set_option maxRecDepth 20000 in
theorem wX11_leavesAt {g : GP} {l : Launch} {x : CT} (ok : Ok g l x RX11 cX11_leavesAt 4 (some FieldType.int) (rmL 2)) (vq1 : Int32) (vq2 : Int32) (vq3 : Int32)  (M : Mem) : Sw g l x (FinQ g x eI) 4 0 0 0 [(0, .ref (gA g 22 0)), (1, .int vq1), (2, .int vq2), (3, .int vq3)] [] M (fX11_leavesAt vq1 vq2 vq3 M) := by
  unfold fX11_leavesAt
  refine r_aload_n (pc := 0) ok 0 dX11_leavesAt_0 rfl ?_
  refine r_getR (pc := 1) ok fr_22_1 (by decide) fl_X11_7 dX11_leavesAt_1 ?_
  refine r_iload_n (pc := 4) ok 1 dX11_leavesAt_4 rfl ?_
  refine r_iald (pc := 5) ok ik_23 (by decide) dX11_leavesAt_5 (fun _ => ?_)
  refine r_swc (pc := 6) ok (34) 40 dX11_leavesAt_6 (by decide +kernel) (by decide) (fun _ => ?_) (fun hs1 => ?_)
  · refine r_iload_n (pc := 40) ok 3 dX11_leavesAt_40 rfl ?_
    refine r_if_ne (pc := 41) ok 48 dX11_leavesAt_41 (by decide) (fun _ => ?_) (fun _ => ?_)
    · refine r_iload_n (pc := 44) ok 2 dX11_leavesAt_44 rfl ?_
      refine r_goto (pc := 45) ok 51 dX11_leavesAt_45 (by decide) ?_
      exact r_iret (pc := 51) ok (Nat.zero_le _) (Nat.zero_le _) rfl dX11_leavesAt_51
    · refine r_iload_n (pc := 48) ok 2 dX11_leavesAt_48 rfl ?_
      refine r_iconst (pc := 49) ok 2 dX11_leavesAt_49 (by decide) ?_
      refine r_idivc (pc := 50) ok (by decide) dX11_leavesAt_50 ?_
      exact r_iret (pc := 51) ok (Nat.zero_le _) (Nat.zero_le _) rfl dX11_leavesAt_51
  · refine r_swc (pc := 6) ok (46) 52 dX11_leavesAt_6 (by decide +kernel) (by decide) (fun _ => ?_) (fun hs2 => ?_)
    · refine r_iload_n (pc := 52) ok 3 dX11_leavesAt_52 rfl ?_
      refine r_if_ne (pc := 53) ok 64 dX11_leavesAt_53 (by decide) (fun _ => ?_) (fun _ => ?_)
      · refine r_iload_n (pc := 56) ok 2 dX11_leavesAt_56 rfl ?_
        refine r_if_le (pc := 57) ok 64 dX11_leavesAt_57 (by decide) (fun _ => ?_) (fun _ => ?_)
        · refine r_iconst (pc := 64) ok 0 dX11_leavesAt_64 (by decide) ?_
          exact r_iret (pc := 65) ok (Nat.zero_le _) (Nat.zero_le _) rfl dX11_leavesAt_65
        · refine r_iconst (pc := 60) ok 1 dX11_leavesAt_60 (by decide) ?_
          refine r_goto (pc := 61) ok 65 dX11_leavesAt_61 (by decide) ?_
          exact r_iret (pc := 65) ok (Nat.zero_le _) (Nat.zero_le _) rfl dX11_leavesAt_65
      · refine r_iconst (pc := 64) ok 0 dX11_leavesAt_64 (by decide) ?_
        exact r_iret (pc := 65) ok (Nat.zero_le _) (Nat.zero_le _) rfl dX11_leavesAt_65
    · refine r_swc (pc := 6) ok (60) 66 dX11_leavesAt_6 (by decide +kernel) (by decide) (fun _ => ?_) (fun hs3 => ?_)
      · refine r_iload_n (pc := 66) ok 3 dX11_leavesAt_66 rfl ?_
        refine r_if_ne (pc := 67) ok 83 dX11_leavesAt_67 (by decide) (fun _ => ?_) (fun _ => ?_)
        · refine r_iload_n (pc := 70) ok 2 dX11_leavesAt_70 rfl ?_
          refine r_iconst (pc := 71) ok 2 dX11_leavesAt_71 (by decide) ?_
          refine r_aload_n (pc := 72) ok 0 dX11_leavesAt_72 rfl ?_
          refine r_getR (pc := 73) ok fr_22_2 (by decide) fl_X11_13 dX11_leavesAt_73 ?_
          refine r_iload_n (pc := 76) ok 1 dX11_leavesAt_76 rfl ?_
          refine r_iald (pc := 77) ok ik_24 (by decide) dX11_leavesAt_77 (fun _ => ?_)
          refine r_imul (pc := 78) ok dX11_leavesAt_78 ?_
          refine r_iadd (pc := 79) ok dX11_leavesAt_79 ?_
          refine r_goto (pc := 80) ok 86 dX11_leavesAt_80 (by decide) ?_
          exact r_iret (pc := 86) ok (Nat.zero_le _) (Nat.zero_le _) rfl dX11_leavesAt_86
        · refine r_iload_n (pc := 83) ok 2 dX11_leavesAt_83 rfl ?_
          refine r_iconst (pc := 84) ok 2 dX11_leavesAt_84 (by decide) ?_
          refine r_idivc (pc := 85) ok (by decide) dX11_leavesAt_85 ?_
          exact r_iret (pc := 86) ok (Nat.zero_le _) (Nat.zero_le _) rfl dX11_leavesAt_86
      · refine r_swc (pc := 6) ok (81) 87 dX11_leavesAt_6 (by decide +kernel) (by decide) (fun _ => ?_) (fun hs4 => ?_)
        · refine r_iload_n (pc := 87) ok 3 dX11_leavesAt_87 rfl ?_
          refine r_if_ne (pc := 88) ok 101 dX11_leavesAt_88 (by decide) (fun _ => ?_) (fun _ => ?_)
          · refine r_aload_n (pc := 91) ok 0 dX11_leavesAt_91 rfl ?_
            refine r_getR (pc := 92) ok fr_22_2 (by decide) fl_X11_13 dX11_leavesAt_92 ?_
            refine r_iload_n (pc := 95) ok 1 dX11_leavesAt_95 rfl ?_
            refine r_iald (pc := 96) ok ik_24 (by decide) dX11_leavesAt_96 (fun _ => ?_)
            refine r_ineg (pc := 97) ok dX11_leavesAt_97 ?_
            refine r_goto (pc := 98) ok 102 dX11_leavesAt_98 (by decide) ?_
            exact r_iret (pc := 102) ok (Nat.zero_le _) (Nat.zero_le _) rfl dX11_leavesAt_102
          · refine r_iconst (pc := 101) ok 0 dX11_leavesAt_101 (by decide) ?_
            exact r_iret (pc := 102) ok (Nat.zero_le _) (Nat.zero_le _) rfl dX11_leavesAt_102
        · refine r_swc (pc := 6) ok (97) 103 dX11_leavesAt_6 (by decide +kernel) (by decide) (fun _ => ?_) (fun hs5 => ?_)
          · refine r_iconst (pc := 103) ok 0 dX11_leavesAt_103 (by decide) ?_
            exact r_iret (pc := 104) ok (Nat.zero_le _) (Nat.zero_le _) rfl dX11_leavesAt_104
          · refine r_swd (pc := 6) ok 105 dX11_leavesAt_6 (by have := lv_neT hs1 (by decide : (1 : Int32).toInt = 1) ; have := lv_neT hs2 (by decide : (2 : Int32).toInt = 2) ; have := lv_neT hs3 (by decide : (3 : Int32).toInt = 3) ; have := lv_neT hs4 (by decide : (4 : Int32).toInt = 4) ; have := lv_neT hs5 (by decide : (5 : Int32).toInt = 5) ; omega) (by decide) ?_
            refine r_iload_n (pc := 105) ok 3 dX11_leavesAt_105 rfl ?_
            refine r_if_ne (pc := 106) ok 113 dX11_leavesAt_106 (by decide) (fun _ => ?_) (fun _ => ?_)
            · refine r_iload_n (pc := 109) ok 2 dX11_leavesAt_109 rfl ?_
              refine r_goto (pc := 110) ok 114 dX11_leavesAt_110 (by decide) ?_
              exact r_iret (pc := 114) ok (Nat.zero_le _) (Nat.zero_le _) rfl dX11_leavesAt_114
            · refine r_iconst (pc := 113) ok 0 dX11_leavesAt_113 (by decide) ?_
              exact r_iret (pc := 114) ok (Nat.zero_le _) (Nat.zero_le _) rfl dX11_leavesAt_114
theorem con_X11_leavesAt (g : GP) (l : Launch) (vq1 : Int32) (vq2 : Int32) (vq3 : Int32)  (M : Mem) (r : Int32) (M2 : Mem) (h : fX11_leavesAt vq1 vq2 vq3 M = some (r, M2)) : Con g l yX11_leavesAt cX11_leavesAt 4 (some FieldType.int) (rmL 2) [.ref (gA g 22 0), .int vq1, .int vq2, .int vq3] M (eI r) M2 :=
  Con.of (own := RX11) (f := fX11_leavesAt vq1 vq2 vq3 M) (by decide) (Nat.le_of_ble_eq_true rfl) rfl (fun x ok => wX11_leavesAt ok vq1 vq2 vq3  M) r M2 h
def fX11_keeps_B2  (k2 : Int32 → Mem → Option (Unit × Mem)) (vq1 : Int32) (M : Mem) : Option (Unit × Mem) :=
  if 36 ≤ vq1 then
    (gd (inb 36 37)
    (lt (mst M 41 0 (36 : Int32).toNatClampNeg (M 22 0 6)) fun M1 =>
    some ((), M1)))
  else
    (gd (inb vq1 36)
    (gd (inb vq1 37)
    (lt (mst M 41 0 vq1.toNatClampNeg (M 27 0 vq1.toNatClampNeg)) fun M2 =>
    k2 (vq1 + 1) M2)))
def fX11_keeps_L2  : Nat → Int32 → Mem → Option (Unit × Mem)
  | 0, _, _ => none
  | n + 1, vq1, M => fX11_keeps_B2  (fX11_keeps_L2  n) vq1 M
set_option maxRecDepth 20000 in
theorem sX11_keeps_B2 {g : GP} {l : Launch} {x : CT} (ok : Ok g l x RX11 cX11_keeps 2 none (rmL 2))   (k2 : Int32 → Mem → Option (Unit × Mem)) (hk2 : ∀ (vq1 : Int32) (M : Mem), Sw g l x (FinQ g x eV) 2 0 0 2 [(0, .ref (gA g 22 0)), (1, .int vq1)] [] M (k2 vq1 M)) (vq1 : Int32) (M : Mem) : Sw g l x (FinQ g x eV) 2 0 0 2 [(0, .ref (gA g 22 0)), (1, .int vq1)] [] M (fX11_keeps_B2  k2 vq1 M) := by
  unfold fX11_keeps_B2
  refine r_iload_n (pc := 2) ok 1 dX11_keeps_2 rfl ?_
  refine r_bipush (pc := 3) ok 36 dX11_keeps_3 (by decide) ?_
  refine r_icmp_ge (pc := 5) ok 26 dX11_keeps_5 (by decide) (fun _ => ?_) (fun _ => ?_)
  · refine r_aload_n (pc := 26) ok 0 dX11_keeps_26 rfl ?_
    refine r_getR (pc := 27) ok fr_22_31 (by decide) fl_X11_64 dX11_keeps_27 ?_
    refine r_bipush (pc := 30) ok 36 dX11_keeps_30 (by decide) ?_
    refine r_aload_n (pc := 32) ok 0 dX11_keeps_32 rfl ?_
    refine r_getI (pc := 33) ok fi_22_6 (by decide) fl_X11_92 dX11_keeps_33 ?_
    refine r_iast (pc := 36) ok ik_41 (by decide) dX11_keeps_36 ?_
    refine r_nmM (fun M1 => ?_)
    exact r_vret (pc := 37) ok (Nat.zero_le _) (Nat.zero_le _) rfl dX11_keeps_37
  · refine r_aload_n (pc := 8) ok 0 dX11_keeps_8 rfl ?_
    refine r_getR (pc := 9) ok fr_22_31 (by decide) fl_X11_64 dX11_keeps_9 ?_
    refine r_iload_n (pc := 12) ok 1 dX11_keeps_12 rfl ?_
    refine r_aload_n (pc := 13) ok 0 dX11_keeps_13 rfl ?_
    refine r_getR (pc := 14) ok fr_22_5 (by decide) fl_X11_22 dX11_keeps_14 ?_
    refine r_iload_n (pc := 17) ok 1 dX11_keeps_17 rfl ?_
    refine r_iald (pc := 18) ok ik_27 (by decide) dX11_keeps_18 (fun _ => ?_)
    refine r_iast (pc := 19) ok ik_41 (by decide) dX11_keeps_19 ?_
    refine r_nmM (fun M2 => ?_)
    refine r_iinc (pc := 20) ok 1 (vq1 + 1) [(1, .int (vq1 + 1)), (0, .ref (gA g 22 0))] dX11_keeps_20 rfl (congrArg (fun z => vq1 + z) (by decide : Int32.ofInt 1 = (1 : Int32))) (by decide) rfl ?_
    refine r_goto (pc := 23) ok 2 dX11_keeps_23 (by decide) ?_
    refine r_lv [1, 0] [(0, .ref (gA g 22 0)), (1, .int (vq1 + 1))] rfl ?_
    exact hk2 (vq1 + 1) M2
theorem sX11_keeps_L2 {g : GP} {l : Launch} {x : CT} (ok : Ok g l x RX11 cX11_keeps 2 none (rmL 2))   : ∀ (n : Nat) (vq1 : Int32) (M : Mem), Sw g l x (FinQ g x eV) 2 0 0 2 [(0, .ref (gA g 22 0)), (1, .int vq1)] [] M (fX11_keeps_L2  n vq1 M) := by
  intro n
  induction n with
  | zero => intros; exact r_none
  | succ n ih => intro vq1 M; exact sX11_keeps_B2 ok   _ ih vq1 M
def fX11_keeps  (M : Mem) : Option (Unit × Mem) :=
  fX11_keeps_L2 FU 0 M
set_option maxRecDepth 20000 in
theorem wX11_keeps {g : GP} {l : Launch} {x : CT} (ok : Ok g l x RX11 cX11_keeps 2 none (rmL 2))   (M : Mem) : Sw g l x (FinQ g x eV) 2 0 0 0 [(0, .ref (gA g 22 0))] [] M (fX11_keeps  M) := by
  unfold fX11_keeps
  refine r_iconst (pc := 0) ok 0 dX11_keeps_0 (by decide) ?_
  refine r_istore_n (pc := 1) ok [(1, .int 0), (0, .ref (gA g 22 0))] dX11_keeps_1 rfl (by decide) rfl ?_
  refine r_lv [1, 0] [(0, .ref (gA g 22 0)), (1, .int 0)] rfl ?_
  exact sX11_keeps_L2 ok FU 0 M
theorem con_X11_keeps (g : GP) (l : Launch)   (M : Mem) (r : Unit) (M2 : Mem) (h : fX11_keeps  M = some (r, M2)) : Con g l yX11_keeps cX11_keeps 2 none (rmL 2) [.ref (gA g 22 0)] M (eV r) M2 :=
  Con.of (own := RX11) (f := fX11_keeps  M) (by decide) (Nat.le_of_ble_eq_true rfl) rfl (fun x ok => wX11_keeps ok   M) r M2 h
def fX11_lays_B2  (k2 : Int32 → Mem → Option (Unit × Mem)) (vq1 : Int32) (M : Mem) : Option (Unit × Mem) :=
  if 36 ≤ vq1 then
    (gd (inb 36 37)
    (lt (mst M 22 0 6 (M 41 0 (36 : Int32).toNatClampNeg)) fun M2 =>
    some ((), M2)))
  else
    (gd (inb vq1 37)
    (gd (inb vq1 36)
    (lt (mst M 27 0 vq1.toNatClampNeg (M 41 0 vq1.toNatClampNeg)) fun M3 =>
    k2 (vq1 + 1) M3)))
def fX11_lays_L2  : Nat → Int32 → Mem → Option (Unit × Mem)
  | 0, _, _ => none
  | n + 1, vq1, M => fX11_lays_B2  (fX11_lays_L2  n) vq1 M
set_option maxRecDepth 20000 in
theorem sX11_lays_B2 {g : GP} {l : Launch} {x : CT} (ok : Ok g l x RX11 cX11_lays 2 none (rmL 2))   (k2 : Int32 → Mem → Option (Unit × Mem)) (hk2 : ∀ (vq1 : Int32) (M : Mem), Sw g l x (FinQ g x eV) 2 0 0 2 [(0, .ref (gA g 22 0)), (1, .int vq1)] [] M (k2 vq1 M)) (vq1 : Int32) (M : Mem) : Sw g l x (FinQ g x eV) 2 0 0 2 [(0, .ref (gA g 22 0)), (1, .int vq1)] [] M (fX11_lays_B2  k2 vq1 M) := by
  unfold fX11_lays_B2
  refine r_iload_n (pc := 2) ok 1 dX11_lays_2 rfl ?_
  refine r_bipush (pc := 3) ok 36 dX11_lays_3 (by decide) ?_
  refine r_icmp_ge (pc := 5) ok 26 dX11_lays_5 (by decide) (fun _ => ?_) (fun _ => ?_)
  · refine r_aload_n (pc := 26) ok 0 dX11_lays_26 rfl ?_
    refine r_aload_n (pc := 27) ok 0 dX11_lays_27 rfl ?_
    refine r_getR (pc := 28) ok fr_22_31 (by decide) fl_X11_64 dX11_lays_28 ?_
    refine r_bipush (pc := 31) ok 36 dX11_lays_31 (by decide) ?_
    refine r_iald (pc := 33) ok ik_41 (by decide) dX11_lays_33 (fun _ => ?_)
    refine r_putI (pc := 34) ok fi_22_6 (by decide) fl_X11_92 fp_22_6 ⟨rfl, rfl⟩ dX11_lays_34 ?_
    refine r_nmM (fun M2 => ?_)
    exact r_vret (pc := 37) ok (Nat.zero_le _) (Nat.zero_le _) rfl dX11_lays_37
  · refine r_aload_n (pc := 8) ok 0 dX11_lays_8 rfl ?_
    refine r_getR (pc := 9) ok fr_22_5 (by decide) fl_X11_22 dX11_lays_9 ?_
    refine r_iload_n (pc := 12) ok 1 dX11_lays_12 rfl ?_
    refine r_aload_n (pc := 13) ok 0 dX11_lays_13 rfl ?_
    refine r_getR (pc := 14) ok fr_22_31 (by decide) fl_X11_64 dX11_lays_14 ?_
    refine r_iload_n (pc := 17) ok 1 dX11_lays_17 rfl ?_
    refine r_iald (pc := 18) ok ik_41 (by decide) dX11_lays_18 (fun _ => ?_)
    refine r_iast (pc := 19) ok ik_27 (by decide) dX11_lays_19 ?_
    refine r_nmM (fun M3 => ?_)
    refine r_iinc (pc := 20) ok 1 (vq1 + 1) [(1, .int (vq1 + 1)), (0, .ref (gA g 22 0))] dX11_lays_20 rfl (congrArg (fun z => vq1 + z) (by decide : Int32.ofInt 1 = (1 : Int32))) (by decide) rfl ?_
    refine r_goto (pc := 23) ok 2 dX11_lays_23 (by decide) ?_
    refine r_lv [1, 0] [(0, .ref (gA g 22 0)), (1, .int (vq1 + 1))] rfl ?_
    exact hk2 (vq1 + 1) M3
theorem sX11_lays_L2 {g : GP} {l : Launch} {x : CT} (ok : Ok g l x RX11 cX11_lays 2 none (rmL 2))   : ∀ (n : Nat) (vq1 : Int32) (M : Mem), Sw g l x (FinQ g x eV) 2 0 0 2 [(0, .ref (gA g 22 0)), (1, .int vq1)] [] M (fX11_lays_L2  n vq1 M) := by
  intro n
  induction n with
  | zero => intros; exact r_none
  | succ n ih => intro vq1 M; exact sX11_lays_B2 ok   _ ih vq1 M
def fX11_lays  (M : Mem) : Option (Unit × Mem) :=
  fX11_lays_L2 FU 0 M
set_option maxRecDepth 20000 in
theorem wX11_lays {g : GP} {l : Launch} {x : CT} (ok : Ok g l x RX11 cX11_lays 2 none (rmL 2))   (M : Mem) : Sw g l x (FinQ g x eV) 2 0 0 0 [(0, .ref (gA g 22 0))] [] M (fX11_lays  M) := by
  unfold fX11_lays
  refine r_iconst (pc := 0) ok 0 dX11_lays_0 (by decide) ?_
  refine r_istore_n (pc := 1) ok [(1, .int 0), (0, .ref (gA g 22 0))] dX11_lays_1 rfl (by decide) rfl ?_
  refine r_lv [1, 0] [(0, .ref (gA g 22 0)), (1, .int 0)] rfl ?_
  exact sX11_lays_L2 ok FU 0 M
theorem con_X11_lays (g : GP) (l : Launch)   (M : Mem) (r : Unit) (M2 : Mem) (h : fX11_lays  M = some (r, M2)) : Con g l yX11_lays cX11_lays 2 none (rmL 2) [.ref (gA g 22 0)] M (eV r) M2 :=
  Con.of (own := RX11) (f := fX11_lays  M) (by decide) (Nat.le_of_ble_eq_true rfl) rfl (fun x ok => wX11_lays ok   M) r M2 h
def fX11_relaxes_J58 (vq2 : Int32) (vq3 : Int32) (M : Mem) : Option (Int32 × Mem) :=
  gd (inb vq2 36)
  (lt (mst M 43 0 vq2.toNatClampNeg vq3) fun M2 =>
  some (1, M2))
set_option maxRecDepth 20000 in
theorem sX11_relaxes_J58 {g : GP} {l : Launch} {x : CT} (ok : Ok g l x RX11 cX11_relaxes 4 (some FieldType.boolean) (rmL 2)) (vq2 : Int32) (vq3 : Int32)  (M : Mem) : Sw g l x (FinQ g x eI) 4 0 0 58 [(0, .ref (gA g 22 0)), (2, .int vq2), (3, .int vq3)] [] M (fX11_relaxes_J58 vq2 vq3 M) := by
  unfold fX11_relaxes_J58
  refine r_aload_n (pc := 58) ok 0 dX11_relaxes_58 rfl ?_
  refine r_getR (pc := 59) ok fr_22_33 (by decide) fl_X11_70 dX11_relaxes_59 ?_
  refine r_iload_n (pc := 62) ok 1 dX11_relaxes_62 rfl ?_
  refine r_iload_n (pc := 63) ok 2 dX11_relaxes_63 rfl ?_
  refine r_iast (pc := 64) ok ik_43 (by decide) dX11_relaxes_64 ?_
  refine r_nmM (fun M2 => ?_)
  refine r_iconst (pc := 65) ok 1 dX11_relaxes_65 (by decide) ?_
  exact r_zret (pc := 66) ok (Nat.zero_le _) (Nat.zero_le _) rfl rfl dX11_relaxes_66
def fX11_relaxes (vq1 : Int32) (vq2 : Int32) (M : Mem) : Option (Int32 × Mem) :=
  gd (inb vq1 36)
  (if (M 43 0 vq1.toNatClampNeg) = (-1) then
    (some (0, M))
  else
    (gd (inb vq2 36)
    (if (M 42 0 vq2.toNatClampNeg) = (-1) then
      (some (0, M))
    else
      (gd (inb vq1 36)
      (gd (inb vq2 36)
      (lt ((M 43 0 vq1.toNatClampNeg) + (M 42 0 vq2.toNatClampNeg)) fun w1 =>
      gd (inb vq2 36)
      (if (M 43 0 vq2.toNatClampNeg) = (-1) then
        (fX11_relaxes_J58 vq2 w1 M)
      else
        (gd (inb vq2 36)
        (if w1 < (M 43 0 vq2.toNatClampNeg) then
          (fX11_relaxes_J58 vq2 w1 M)
        else
          (some (0, M)))))))))))
set_option maxRecDepth 20000 in
theorem wX11_relaxes {g : GP} {l : Launch} {x : CT} (ok : Ok g l x RX11 cX11_relaxes 4 (some FieldType.boolean) (rmL 2)) (vq1 : Int32) (vq2 : Int32)  (M : Mem) : Sw g l x (FinQ g x eI) 4 0 0 0 [(0, .ref (gA g 22 0)), (1, .int vq1), (2, .int vq2)] [] M (fX11_relaxes vq1 vq2 M) := by
  unfold fX11_relaxes
  refine r_aload_n (pc := 0) ok 0 dX11_relaxes_0 rfl ?_
  refine r_getR (pc := 1) ok fr_22_33 (by decide) fl_X11_70 dX11_relaxes_1 ?_
  refine r_iload_n (pc := 4) ok 1 dX11_relaxes_4 rfl ?_
  refine r_iald (pc := 5) ok ik_43 (by decide) dX11_relaxes_5 (fun _ => ?_)
  refine r_iconst (pc := 6) ok (-1) dX11_relaxes_6 (by decide) ?_
  refine r_icmp_eq (pc := 7) ok 20 dX11_relaxes_7 (by decide) (fun _ => ?_) (fun _ => ?_)
  · refine r_iconst (pc := 20) ok 0 dX11_relaxes_20 (by decide) ?_
    exact r_zret (pc := 21) ok (Nat.zero_le _) (Nat.zero_le _) rfl rfl dX11_relaxes_21
  · refine r_aload_n (pc := 10) ok 0 dX11_relaxes_10 rfl ?_
    refine r_getR (pc := 11) ok fr_22_32 (by decide) fl_X11_67 dX11_relaxes_11 ?_
    refine r_iload_n (pc := 14) ok 2 dX11_relaxes_14 rfl ?_
    refine r_iald (pc := 15) ok ik_42 (by decide) dX11_relaxes_15 (fun _ => ?_)
    refine r_iconst (pc := 16) ok (-1) dX11_relaxes_16 (by decide) ?_
    refine r_icmp_ne (pc := 17) ok 22 dX11_relaxes_17 (by decide) (fun _ => ?_) (fun _ => ?_)
    · refine r_iconst (pc := 20) ok 0 dX11_relaxes_20 (by decide) ?_
      exact r_zret (pc := 21) ok (Nat.zero_le _) (Nat.zero_le _) rfl rfl dX11_relaxes_21
    · refine r_aload_n (pc := 22) ok 0 dX11_relaxes_22 rfl ?_
      refine r_getR (pc := 23) ok fr_22_33 (by decide) fl_X11_70 dX11_relaxes_23 ?_
      refine r_iload_n (pc := 26) ok 1 dX11_relaxes_26 rfl ?_
      refine r_iald (pc := 27) ok ik_43 (by decide) dX11_relaxes_27 (fun _ => ?_)
      refine r_aload_n (pc := 28) ok 0 dX11_relaxes_28 rfl ?_
      refine r_getR (pc := 29) ok fr_22_32 (by decide) fl_X11_67 dX11_relaxes_29 ?_
      refine r_iload_n (pc := 32) ok 2 dX11_relaxes_32 rfl ?_
      refine r_iald (pc := 33) ok ik_42 (by decide) dX11_relaxes_33 (fun _ => ?_)
      refine r_iadd (pc := 34) ok dX11_relaxes_34 ?_
      refine r_nmi (fun w1 => ?_)
      refine r_istore_n (pc := 35) ok [(3, .int w1), (0, .ref (gA g 22 0)), (1, .int vq1), (2, .int vq2)] dX11_relaxes_35 rfl (by decide) rfl ?_
      refine r_aload_n (pc := 36) ok 1 dX11_relaxes_36 rfl ?_
      refine r_getR (pc := 37) ok fr_22_33 (by decide) fl_X11_70 dX11_relaxes_37 ?_
      refine r_iload_n (pc := 40) ok 3 dX11_relaxes_40 rfl ?_
      refine r_iald (pc := 41) ok ik_43 (by decide) dX11_relaxes_41 (fun _ => ?_)
      refine r_iconst (pc := 42) ok (-1) dX11_relaxes_42 (by decide) ?_
      refine r_icmp_eq (pc := 43) ok 58 dX11_relaxes_43 (by decide) (fun _ => ?_) (fun _ => ?_)
      · refine r_lv [1, 3, 0] [(0, .ref (gA g 22 0)), (2, .int vq2), (3, .int w1)] rfl ?_
        exact sX11_relaxes_J58 ok vq2 w1 M
      · refine r_aload_n (pc := 46) ok 1 dX11_relaxes_46 rfl ?_
        refine r_getR (pc := 47) ok fr_22_33 (by decide) fl_X11_70 dX11_relaxes_47 ?_
        refine r_iload_n (pc := 50) ok 3 dX11_relaxes_50 rfl ?_
        refine r_iald (pc := 51) ok ik_43 (by decide) dX11_relaxes_51 (fun _ => ?_)
        refine r_iload_n (pc := 52) ok 0 dX11_relaxes_52 rfl ?_
        refine r_icmp_gt (pc := 53) ok 58 dX11_relaxes_53 (by decide) (fun _ => ?_) (fun _ => ?_)
        · refine r_lv [1, 3, 0] [(0, .ref (gA g 22 0)), (2, .int vq2), (3, .int w1)] rfl ?_
          exact sX11_relaxes_J58 ok vq2 w1 M
        · refine r_iconst (pc := 56) ok 0 dX11_relaxes_56 (by decide) ?_
          exact r_zret (pc := 57) ok (Nat.zero_le _) (Nat.zero_le _) rfl rfl dX11_relaxes_57
theorem con_X11_relaxes (g : GP) (l : Launch) (vq1 : Int32) (vq2 : Int32)  (M : Mem) (r : Int32) (M2 : Mem) (h : fX11_relaxes vq1 vq2 M = some (r, M2)) : Con g l yX11_relaxes cX11_relaxes 4 (some FieldType.boolean) (rmL 2) [.ref (gA g 22 0), .int vq1, .int vq2] M (eI r) M2 :=
  Con.of (own := RX11) (f := fX11_relaxes vq1 vq2 M) (by decide) (Nat.le_of_ble_eq_true rfl) rfl (fun x ok => wX11_relaxes ok vq1 vq2  M) r M2 h
def fX11_thickSet_B5 (vq1 : Int32) (k5 : Int64 → Int32 → Mem → Option (Int64 × Mem)) (vq2 : Int64) (vq4 : Int32) (M : Mem) : Option (Int64 × Mem) :=
  if 36 ≤ vq4 then
    (some (vq2, M))
  else
    (gd (inb vq4 36)
    (if (M 27 0 vq4.toNatClampNeg) < vq1 then
      (lt (vq2 ||| 0) fun w1 =>
      k5 w1 (vq4 + 1) M)
    else
      (lt (vq2 ||| (lshl 1 vq4)) fun w2 =>
      k5 w2 (vq4 + 1) M)))
def fX11_thickSet_L5 (vq1 : Int32) : Nat → Int64 → Int32 → Mem → Option (Int64 × Mem)
  | 0, _, _, _ => none
  | n + 1, vq2, vq4, M => fX11_thickSet_B5 vq1 (fX11_thickSet_L5 vq1 n) vq2 vq4 M
set_option maxRecDepth 20000 in
theorem sX11_thickSet_B5 {g : GP} {l : Launch} {x : CT} (ok : Ok g l x RX11 cX11_thickSet 5 (some FieldType.long) (rmL 2)) (vq1 : Int32)  (k5 : Int64 → Int32 → Mem → Option (Int64 × Mem)) (hk5 : ∀ (vq2 : Int64) (vq4 : Int32) (M : Mem), Sw g l x (FinQ g x eJ) 5 0 0 5 [(0, .ref (gA g 22 0)), (1, .int vq1), (2, .long vq2), (4, .int vq4)] [] M (k5 vq2 vq4 M)) (vq2 : Int64) (vq4 : Int32) (M : Mem) : Sw g l x (FinQ g x eJ) 5 0 0 5 [(0, .ref (gA g 22 0)), (1, .int vq1), (2, .long vq2), (4, .int vq4)] [] M (fX11_thickSet_B5 vq1 k5 vq2 vq4 M) := by
  unfold fX11_thickSet_B5
  refine r_iload (pc := 5) ok 3 dX11_thickSet_5 rfl ?_
  refine r_bipush (pc := 7) ok 36 dX11_thickSet_7 (by decide) ?_
  refine r_icmp_ge (pc := 9) ok 40 dX11_thickSet_9 (by decide) (fun _ => ?_) (fun _ => ?_)
  · refine r_lload_n (pc := 40) ok 2 dX11_thickSet_40 rfl ?_
    exact r_lret (pc := 41) ok (Nat.zero_le _) (Nat.zero_le _) rfl dX11_thickSet_41
  · refine r_lload_n (pc := 12) ok 2 dX11_thickSet_12 rfl ?_
    refine r_aload_n (pc := 13) ok 0 dX11_thickSet_13 rfl ?_
    refine r_getR (pc := 14) ok fr_22_5 (by decide) fl_X11_22 dX11_thickSet_14 ?_
    refine r_iload (pc := 17) ok 3 dX11_thickSet_17 rfl ?_
    refine r_iald (pc := 19) ok ik_27 (by decide) dX11_thickSet_19 (fun _ => ?_)
    refine r_iload_n (pc := 20) ok 1 dX11_thickSet_20 rfl ?_
    refine r_icmp_lt (pc := 21) ok 31 dX11_thickSet_21 (by decide) (fun _ => ?_) (fun _ => ?_)
    · refine r_lconst (pc := 31) ok 0 dX11_thickSet_31 (by decide) ?_
      refine r_lor (pc := 32) ok dX11_thickSet_32 ?_
      refine r_nml (fun w1 => ?_)
      refine r_lstore_n (pc := 33) ok [(2, .long w1), (0, .ref (gA g 22 0)), (1, .int vq1), (4, .int vq4)] dX11_thickSet_33 rfl (by decide) rfl ?_
      refine r_iinc (pc := 34) ok 3 (vq4 + 1) [(4, .int (vq4 + 1)), (2, .long w1), (0, .ref (gA g 22 0)), (1, .int vq1)] dX11_thickSet_34 rfl (congrArg (fun z => vq4 + z) (by decide : Int32.ofInt 1 = (1 : Int32))) (by decide) rfl ?_
      refine r_goto (pc := 37) ok 5 dX11_thickSet_37 (by decide) ?_
      refine r_lv [2, 3, 1, 0] [(0, .ref (gA g 22 0)), (1, .int vq1), (2, .long w1), (4, .int (vq4 + 1))] rfl ?_
      exact hk5 w1 (vq4 + 1) M
    · refine r_lconst (pc := 24) ok 1 dX11_thickSet_24 (by decide) ?_
      refine r_iload (pc := 25) ok 3 dX11_thickSet_25 rfl ?_
      refine r_lshl (pc := 27) ok dX11_thickSet_27 ?_
      refine r_goto (pc := 28) ok 32 dX11_thickSet_28 (by decide) ?_
      refine r_lor (pc := 32) ok dX11_thickSet_32 ?_
      refine r_nml (fun w2 => ?_)
      refine r_lstore_n (pc := 33) ok [(2, .long w2), (0, .ref (gA g 22 0)), (1, .int vq1), (4, .int vq4)] dX11_thickSet_33 rfl (by decide) rfl ?_
      refine r_iinc (pc := 34) ok 3 (vq4 + 1) [(4, .int (vq4 + 1)), (2, .long w2), (0, .ref (gA g 22 0)), (1, .int vq1)] dX11_thickSet_34 rfl (congrArg (fun z => vq4 + z) (by decide : Int32.ofInt 1 = (1 : Int32))) (by decide) rfl ?_
      refine r_goto (pc := 37) ok 5 dX11_thickSet_37 (by decide) ?_
      refine r_lv [2, 3, 1, 0] [(0, .ref (gA g 22 0)), (1, .int vq1), (2, .long w2), (4, .int (vq4 + 1))] rfl ?_
      exact hk5 w2 (vq4 + 1) M
theorem sX11_thickSet_L5 {g : GP} {l : Launch} {x : CT} (ok : Ok g l x RX11 cX11_thickSet 5 (some FieldType.long) (rmL 2)) (vq1 : Int32)  : ∀ (n : Nat) (vq2 : Int64) (vq4 : Int32) (M : Mem), Sw g l x (FinQ g x eJ) 5 0 0 5 [(0, .ref (gA g 22 0)), (1, .int vq1), (2, .long vq2), (4, .int vq4)] [] M (fX11_thickSet_L5 vq1 n vq2 vq4 M) := by
  intro n
  induction n with
  | zero => intros; exact r_none
  | succ n ih => intro vq2 vq4 M; exact sX11_thickSet_B5 ok vq1  _ ih vq2 vq4 M
def fX11_thickSet (vq1 : Int32) (M : Mem) : Option (Int64 × Mem) :=
  fX11_thickSet_L5 vq1 FU 0 0 M
set_option maxRecDepth 20000 in
theorem wX11_thickSet {g : GP} {l : Launch} {x : CT} (ok : Ok g l x RX11 cX11_thickSet 5 (some FieldType.long) (rmL 2)) (vq1 : Int32)  (M : Mem) : Sw g l x (FinQ g x eJ) 5 0 0 0 [(0, .ref (gA g 22 0)), (1, .int vq1)] [] M (fX11_thickSet vq1 M) := by
  unfold fX11_thickSet
  refine r_lconst (pc := 0) ok 0 dX11_thickSet_0 (by decide) ?_
  refine r_lstore_n (pc := 1) ok [(2, .long 0), (0, .ref (gA g 22 0)), (1, .int vq1)] dX11_thickSet_1 rfl (by decide) rfl ?_
  refine r_iconst (pc := 2) ok 0 dX11_thickSet_2 (by decide) ?_
  refine r_istore (pc := 3) ok [(4, .int 0), (2, .long 0), (0, .ref (gA g 22 0)), (1, .int vq1)] dX11_thickSet_3 (by decide) rfl ?_
  refine r_lv [2, 3, 1, 0] [(0, .ref (gA g 22 0)), (1, .int vq1), (2, .long 0), (4, .int 0)] rfl ?_
  exact sX11_thickSet_L5 ok vq1 FU 0 0 M
theorem con_X11_thickSet (g : GP) (l : Launch) (vq1 : Int32)  (M : Mem) (r : Int64) (M2 : Mem) (h : fX11_thickSet vq1 M = some (r, M2)) : Con g l yX11_thickSet cX11_thickSet 5 (some FieldType.long) (rmL 2) [.ref (gA g 22 0), .int vq1] M (eJ r) M2 :=
  Con.of (own := RX11) (f := fX11_thickSet vq1 M) (by decide) (Nat.le_of_ble_eq_true rfl) rfl (fun x ok => wX11_thickSet ok vq1  M) r M2 h
def fX11_goesBy (vq0 : Int32) (vq1 : Int32) (M : Mem) : Option (Int32 × Mem) :=
  if vq1 = 0 then
    (if 5 ≤ (irem vq0 6) then
      (some (vq0, M))
    else
      (some (vq0 + 1, M)))
  else
    (if vq1 = 1 then
      (if (irem vq0 6) ≤ 0 then
        (some (vq0, M))
      else
        (some (vq0 - 1, M)))
    else
      (if vq1 = 2 then
        (if 30 ≤ vq0 then
          (some (vq0, M))
        else
          (some (vq0 + 6, M)))
      else
        (if vq0 ≤ 5 then
          (some (vq0, M))
        else
          (some (vq0 - 6, M)))))
set_option maxRecDepth 20000 in
theorem wX11_goesBy {g : GP} {l : Launch} {x : CT} (ok : Ok g l x RX11 cX11_goesBy 2 (some FieldType.int) (rmL 2)) (vq0 : Int32) (vq1 : Int32)  (M : Mem) : Sw g l x (FinQ g x eI) 2 0 0 0 [(0, .int vq0), (1, .int vq1)] [] M (fX11_goesBy vq0 vq1 M) := by
  unfold fX11_goesBy
  refine r_iload_n (pc := 0) ok 1 dX11_goesBy_0 rfl ?_
  refine r_swc (pc := 1) ok (27) 28 dX11_goesBy_1 (by decide +kernel) (by decide) (fun _ => ?_) (fun hs1 => ?_)
  · refine r_iload_n (pc := 28) ok 0 dX11_goesBy_28 rfl ?_
    refine r_bipush (pc := 29) ok 6 dX11_goesBy_29 (by decide) ?_
    refine r_iremc (pc := 31) ok (by decide) dX11_goesBy_31 ?_
    refine r_iconst (pc := 32) ok 5 dX11_goesBy_32 (by decide) ?_
    refine r_icmp_ge (pc := 33) ok 42 dX11_goesBy_33 (by decide) (fun _ => ?_) (fun _ => ?_)
    · refine r_iload_n (pc := 42) ok 0 dX11_goesBy_42 rfl ?_
      exact r_iret (pc := 43) ok (Nat.zero_le _) (Nat.zero_le _) rfl dX11_goesBy_43
    · refine r_iload_n (pc := 36) ok 0 dX11_goesBy_36 rfl ?_
      refine r_iconst (pc := 37) ok 1 dX11_goesBy_37 (by decide) ?_
      refine r_iadd (pc := 38) ok dX11_goesBy_38 ?_
      refine r_goto (pc := 39) ok 43 dX11_goesBy_39 (by decide) ?_
      exact r_iret (pc := 43) ok (Nat.zero_le _) (Nat.zero_le _) rfl dX11_goesBy_43
  · refine r_swc (pc := 1) ok (43) 44 dX11_goesBy_1 (by decide +kernel) (by decide) (fun _ => ?_) (fun hs2 => ?_)
    · refine r_iload_n (pc := 44) ok 0 dX11_goesBy_44 rfl ?_
      refine r_bipush (pc := 45) ok 6 dX11_goesBy_45 (by decide) ?_
      refine r_iremc (pc := 47) ok (by decide) dX11_goesBy_47 ?_
      refine r_if_le (pc := 48) ok 57 dX11_goesBy_48 (by decide) (fun _ => ?_) (fun _ => ?_)
      · refine r_iload_n (pc := 57) ok 0 dX11_goesBy_57 rfl ?_
        exact r_iret (pc := 58) ok (Nat.zero_le _) (Nat.zero_le _) rfl dX11_goesBy_58
      · refine r_iload_n (pc := 51) ok 0 dX11_goesBy_51 rfl ?_
        refine r_iconst (pc := 52) ok 1 dX11_goesBy_52 (by decide) ?_
        refine r_isub (pc := 53) ok dX11_goesBy_53 ?_
        refine r_goto (pc := 54) ok 58 dX11_goesBy_54 (by decide) ?_
        exact r_iret (pc := 58) ok (Nat.zero_le _) (Nat.zero_le _) rfl dX11_goesBy_58
    · refine r_swc (pc := 1) ok (58) 59 dX11_goesBy_1 (by decide +kernel) (by decide) (fun _ => ?_) (fun hs3 => ?_)
      · refine r_iload_n (pc := 59) ok 0 dX11_goesBy_59 rfl ?_
        refine r_bipush (pc := 60) ok 30 dX11_goesBy_60 (by decide) ?_
        refine r_icmp_ge (pc := 62) ok 72 dX11_goesBy_62 (by decide) (fun _ => ?_) (fun _ => ?_)
        · refine r_iload_n (pc := 72) ok 0 dX11_goesBy_72 rfl ?_
          exact r_iret (pc := 73) ok (Nat.zero_le _) (Nat.zero_le _) rfl dX11_goesBy_73
        · refine r_iload_n (pc := 65) ok 0 dX11_goesBy_65 rfl ?_
          refine r_bipush (pc := 66) ok 6 dX11_goesBy_66 (by decide) ?_
          refine r_iadd (pc := 68) ok dX11_goesBy_68 ?_
          refine r_goto (pc := 69) ok 73 dX11_goesBy_69 (by decide) ?_
          exact r_iret (pc := 73) ok (Nat.zero_le _) (Nat.zero_le _) rfl dX11_goesBy_73
      · refine r_swd (pc := 1) ok 74 dX11_goesBy_1 (by have := lv_neT hs1 (by decide : (0 : Int32).toInt = 0) ; have := lv_neT hs2 (by decide : (1 : Int32).toInt = 1) ; have := lv_neT hs3 (by decide : (2 : Int32).toInt = 2) ; omega) (by decide) ?_
        refine r_iload_n (pc := 74) ok 0 dX11_goesBy_74 rfl ?_
        refine r_iconst (pc := 75) ok 5 dX11_goesBy_75 (by decide) ?_
        refine r_icmp_le (pc := 76) ok 86 dX11_goesBy_76 (by decide) (fun _ => ?_) (fun _ => ?_)
        · refine r_iload_n (pc := 86) ok 0 dX11_goesBy_86 rfl ?_
          exact r_iret (pc := 87) ok (Nat.zero_le _) (Nat.zero_le _) rfl dX11_goesBy_87
        · refine r_iload_n (pc := 79) ok 0 dX11_goesBy_79 rfl ?_
          refine r_bipush (pc := 80) ok 6 dX11_goesBy_80 (by decide) ?_
          refine r_isub (pc := 82) ok dX11_goesBy_82 ?_
          refine r_goto (pc := 83) ok 87 dX11_goesBy_83 (by decide) ?_
          exact r_iret (pc := 87) ok (Nat.zero_le _) (Nat.zero_le _) rfl dX11_goesBy_87
theorem con_X11_goesBy (g : GP) (l : Launch) (vq0 : Int32) (vq1 : Int32)  (M : Mem) (r : Int32) (M2 : Mem) (h : fX11_goesBy vq0 vq1 M = some (r, M2)) : Con g l yX11_goesBy cX11_goesBy 2 (some FieldType.int) (rmL 2) [.int vq0, .int vq1] M (eI r) M2 :=
  Con.of (own := RX11) (f := fX11_goesBy vq0 vq1 M) (by decide) (Nat.le_of_ble_eq_true rfl) rfl (fun x ok => wX11_goesBy ok vq0 vq1  M) r M2 h
def fX11_lowest_B16 (vq0 : Int64) (vq2 : Int64) (vq4 : Int32) (k16 : Int64 → Int64 → Mem → Option (Int64 × Mem)) (vq5 : Int64) (vq7 : Int64) (M : Mem) : Option (Int64 × Mem) :=
  if (lg_cmp vq7 0) = 0 then
    (if vq4 = 0 then
      (gd (nzL vq5)
      (some (vq0 / vq5, M)))
    else
      (gd (nzL vq5)
      (some (vq2 / vq5, M))))
  else
    (gd (nzL vq7)
    (lt (lrem vq5 vq7) fun w1 =>
    k16 vq7 w1 M))
def fX11_lowest_L16 (vq0 : Int64) (vq2 : Int64) (vq4 : Int32) : Nat → Int64 → Int64 → Mem → Option (Int64 × Mem)
  | 0, _, _, _ => none
  | n + 1, vq5, vq7, M => fX11_lowest_B16 vq0 vq2 vq4 (fX11_lowest_L16 vq0 vq2 vq4 n) vq5 vq7 M
set_option maxRecDepth 20000 in
theorem sX11_lowest_B16 {g : GP} {l : Launch} {x : CT} (ok : Ok g l x RX11 cX11_lowest 11 (some FieldType.long) (rmL 2)) (vq0 : Int64) (vq2 : Int64) (vq4 : Int32)  (k16 : Int64 → Int64 → Mem → Option (Int64 × Mem)) (hk16 : ∀ (vq5 : Int64) (vq7 : Int64) (M : Mem), Sw g l x (FinQ g x eJ) 11 0 0 16 [(0, .long vq0), (2, .long vq2), (4, .int vq4), (5, .long vq5), (7, .long vq7)] [] M (k16 vq5 vq7 M)) (vq5 : Int64) (vq7 : Int64) (M : Mem) : Sw g l x (FinQ g x eJ) 11 0 0 16 [(0, .long vq0), (2, .long vq2), (4, .int vq4), (5, .long vq5), (7, .long vq7)] [] M (fX11_lowest_B16 vq0 vq2 vq4 k16 vq5 vq7 M) := by
  unfold fX11_lowest_B16
  refine r_lload (pc := 16) ok 4 dX11_lowest_16 rfl ?_
  refine r_lconst (pc := 18) ok 0 dX11_lowest_18 (by decide) ?_
  refine r_lcmp (pc := 19) ok dX11_lowest_19 ?_
  refine r_if_eq (pc := 20) ok 41 dX11_lowest_20 (by decide) (fun _ => ?_) (fun _ => ?_)
  · refine r_iload (pc := 41) ok 2 dX11_lowest_41 rfl ?_
    refine r_if_ne (pc := 43) ok 50 dX11_lowest_43 (by decide) (fun _ => ?_) (fun _ => ?_)
    · refine r_lload_n (pc := 46) ok 0 dX11_lowest_46 rfl ?_
      refine r_goto (pc := 47) ok 51 dX11_lowest_47 (by decide) ?_
      refine r_lload (pc := 51) ok 3 dX11_lowest_51 rfl ?_
      refine r_ldiv (pc := 53) ok dX11_lowest_53 ?_
      exact r_lret (pc := 54) ok (Nat.zero_le _) (Nat.zero_le _) rfl dX11_lowest_54
    · refine r_lload_n (pc := 50) ok 1 dX11_lowest_50 rfl ?_
      refine r_lload (pc := 51) ok 3 dX11_lowest_51 rfl ?_
      refine r_ldiv (pc := 53) ok dX11_lowest_53 ?_
      exact r_lret (pc := 54) ok (Nat.zero_le _) (Nat.zero_le _) rfl dX11_lowest_54
  · refine r_lload (pc := 23) ok 3 dX11_lowest_23 rfl ?_
    refine r_lload (pc := 25) ok 4 dX11_lowest_25 rfl ?_
    refine r_lrem (pc := 27) ok dX11_lowest_27 ?_
    refine r_nml (fun w1 => ?_)
    refine r_lstore (pc := 28) ok [(9, .long w1), (0, .long vq0), (2, .long vq2), (4, .int vq4), (5, .long vq5), (7, .long vq7)] dX11_lowest_28 (by decide) rfl ?_
    refine r_lload (pc := 30) ok 5 dX11_lowest_30 rfl ?_
    refine r_lstore (pc := 32) ok [(5, .long vq7), (9, .long w1), (0, .long vq0), (2, .long vq2), (4, .int vq4), (7, .long vq7)] dX11_lowest_32 (by decide) rfl ?_
    refine r_lload (pc := 34) ok 1 dX11_lowest_34 rfl ?_
    refine r_lstore (pc := 36) ok [(7, .long w1), (5, .long vq7), (9, .long w1), (0, .long vq0), (2, .long vq2), (4, .int vq4)] dX11_lowest_36 (by decide) rfl ?_
    refine r_goto (pc := 38) ok 16 dX11_lowest_38 (by decide) ?_
    refine r_lv [3, 4, 5, 1, 0] [(0, .long vq0), (2, .long vq2), (4, .int vq4), (5, .long vq7), (7, .long w1)] rfl ?_
    exact hk16 vq7 w1 M
theorem sX11_lowest_L16 {g : GP} {l : Launch} {x : CT} (ok : Ok g l x RX11 cX11_lowest 11 (some FieldType.long) (rmL 2)) (vq0 : Int64) (vq2 : Int64) (vq4 : Int32)  : ∀ (n : Nat) (vq5 : Int64) (vq7 : Int64) (M : Mem), Sw g l x (FinQ g x eJ) 11 0 0 16 [(0, .long vq0), (2, .long vq2), (4, .int vq4), (5, .long vq5), (7, .long vq7)] [] M (fX11_lowest_L16 vq0 vq2 vq4 n vq5 vq7 M) := by
  intro n
  induction n with
  | zero => intros; exact r_none
  | succ n ih => intro vq5 vq7 M; exact sX11_lowest_B16 ok vq0 vq2 vq4  _ ih vq5 vq7 M
def fX11_lowest (vq0 : Int64) (vq2 : Int64) (vq4 : Int32) (M : Mem) : Option (Int64 × Mem) :=
  if (lg_cmp vq0 0) = 0 then
    (some (vq4.toInt64, M))
  else
    (fX11_lowest_L16 vq0 vq2 vq4 FU vq0 vq2 M)
set_option maxRecDepth 20000 in
theorem wX11_lowest {g : GP} {l : Launch} {x : CT} (ok : Ok g l x RX11 cX11_lowest 11 (some FieldType.long) (rmL 2)) (vq0 : Int64) (vq2 : Int64) (vq4 : Int32)  (M : Mem) : Sw g l x (FinQ g x eJ) 11 0 0 0 [(0, .long vq0), (2, .long vq2), (4, .int vq4)] [] M (fX11_lowest vq0 vq2 vq4 M) := by
  unfold fX11_lowest
  refine r_lload_n (pc := 0) ok 0 dX11_lowest_0 rfl ?_
  refine r_lconst (pc := 1) ok 0 dX11_lowest_1 (by decide) ?_
  refine r_lcmp (pc := 2) ok dX11_lowest_2 ?_
  refine r_if_ne (pc := 3) ok 10 dX11_lowest_3 (by decide) (fun _ => ?_) (fun _ => ?_)
  · refine r_iload (pc := 6) ok 2 dX11_lowest_6 rfl ?_
    refine r_i2l (pc := 8) ok dX11_lowest_8 ?_
    exact r_lret (pc := 9) ok (Nat.zero_le _) (Nat.zero_le _) rfl dX11_lowest_9
  · refine r_lload_n (pc := 10) ok 0 dX11_lowest_10 rfl ?_
    refine r_lstore (pc := 11) ok [(5, .long vq0), (0, .long vq0), (2, .long vq2), (4, .int vq4)] dX11_lowest_11 (by decide) rfl ?_
    refine r_lload_n (pc := 13) ok 2 dX11_lowest_13 rfl ?_
    refine r_lstore (pc := 14) ok [(7, .long vq2), (5, .long vq0), (0, .long vq0), (2, .long vq2), (4, .int vq4)] dX11_lowest_14 (by decide) rfl ?_
    refine r_lv [2, 3, 4, 1, 0] [(0, .long vq0), (2, .long vq2), (4, .int vq4), (5, .long vq0), (7, .long vq2)] rfl ?_
    exact sX11_lowest_L16 ok vq0 vq2 vq4 FU vq0 vq2 M
theorem con_X11_lowest (g : GP) (l : Launch) (vq0 : Int64) (vq2 : Int64) (vq4 : Int32)  (M : Mem) (r : Int64) (M2 : Mem) (h : fX11_lowest vq0 vq2 vq4 M = some (r, M2)) : Con g l yX11_lowest cX11_lowest 11 (some FieldType.long) (rmL 2) [.long vq0, .long vq2, .int vq4] M (eJ r) M2 :=
  Con.of (own := RX11) (f := fX11_lowest vq0 vq2 vq4 M) (by decide) (Nat.le_of_ble_eq_true rfl) rfl (fun x ok => wX11_lowest ok vq0 vq2 vq4  M) r M2 h
def fX11_image_B33  (k33 : Int32 → Mem → Option (Int32 × Mem)) (vq1 : Int32) (M : Mem) : Option (Int32 × Mem) :=
  if 6 ≤ vq1 then
    (gd (inb 0 3)
    (lt (mst M 32 0 (0 : Int32).toNatClampNeg (M 22 0 0)) fun M2 =>
    gd (inb 1 3)
    (lt (mst M2 32 0 (1 : Int32).toNatClampNeg (M2 22 0 6)) fun M3 =>
    gd (inb 2 3)
    (lt (mst M3 32 0 (2 : Int32).toNatClampNeg (M3 22 0 12)) fun M4 =>
    some (M4 22 0 0, M4)))))
  else
    (gd (inb vq1 6)
    (gd (inb (36 + vq1) 48)
    (lt (mst M 31 0 (36 + vq1).toNatClampNeg (M 25 0 vq1.toNatClampNeg)) fun M5 =>
    gd (inb vq1 6)
    (gd (inb (42 + vq1) 48)
    (lt (mst M5 31 0 (42 + vq1).toNatClampNeg (M5 26 0 vq1.toNatClampNeg)) fun M6 =>
    k33 (vq1 + 1) M6)))))
def fX11_image_L33  : Nat → Int32 → Mem → Option (Int32 × Mem)
  | 0, _, _ => none
  | n + 1, vq1, M => fX11_image_B33  (fX11_image_L33  n) vq1 M
set_option maxRecDepth 20000 in
theorem sX11_image_B33 {g : GP} {l : Launch} {x : CT} (ok : Ok g l x RX11 cX11_image 2 (some FieldType.int) (rmL 2))   (k33 : Int32 → Mem → Option (Int32 × Mem)) (hk33 : ∀ (vq1 : Int32) (M : Mem), Sw g l x (FinQ g x eI) 2 0 0 33 [(0, .ref (gA g 22 0)), (1, .int vq1)] [] M (k33 vq1 M)) (vq1 : Int32) (M : Mem) : Sw g l x (FinQ g x eI) 2 0 0 33 [(0, .ref (gA g 22 0)), (1, .int vq1)] [] M (fX11_image_B33  k33 vq1 M) := by
  unfold fX11_image_B33
  refine r_iload_n (pc := 33) ok 1 dX11_image_33 rfl ?_
  refine r_bipush (pc := 34) ok 6 dX11_image_34 (by decide) ?_
  refine r_icmp_ge (pc := 36) ok 75 dX11_image_36 (by decide) (fun _ => ?_) (fun _ => ?_)
  · refine r_aload_n (pc := 75) ok 0 dX11_image_75 rfl ?_
    refine r_getR (pc := 76) ok fr_22_15 (by decide) fl_X11_37 dX11_image_76 ?_
    refine r_iconst (pc := 79) ok 0 dX11_image_79 (by decide) ?_
    refine r_aload_n (pc := 80) ok 0 dX11_image_80 rfl ?_
    refine r_getI (pc := 81) ok fi_22_0 (by decide) fl_X11_81 dX11_image_81 ?_
    refine r_iast (pc := 84) ok ik_32 (by decide) dX11_image_84 ?_
    refine r_nmM (fun M2 => ?_)
    refine r_aload_n (pc := 85) ok 0 dX11_image_85 rfl ?_
    refine r_getR (pc := 86) ok fr_22_15 (by decide) fl_X11_37 dX11_image_86 ?_
    refine r_iconst (pc := 89) ok 1 dX11_image_89 (by decide) ?_
    refine r_aload_n (pc := 90) ok 0 dX11_image_90 rfl ?_
    refine r_getI (pc := 91) ok fi_22_6 (by decide) fl_X11_92 dX11_image_91 ?_
    refine r_iast (pc := 94) ok ik_32 (by decide) dX11_image_94 ?_
    refine r_nmM (fun M3 => ?_)
    refine r_aload_n (pc := 95) ok 0 dX11_image_95 rfl ?_
    refine r_getR (pc := 96) ok fr_22_15 (by decide) fl_X11_37 dX11_image_96 ?_
    refine r_iconst (pc := 99) ok 2 dX11_image_99 (by decide) ?_
    refine r_aload_n (pc := 100) ok 0 dX11_image_100 rfl ?_
    refine r_getI (pc := 101) ok fi_22_12 (by decide) fl_X11_101 dX11_image_101 ?_
    refine r_iast (pc := 104) ok ik_32 (by decide) dX11_image_104 ?_
    refine r_nmM (fun M4 => ?_)
    refine r_aload_n (pc := 105) ok 0 dX11_image_105 rfl ?_
    refine r_getI (pc := 106) ok fi_22_0 (by decide) fl_X11_81 dX11_image_106 ?_
    exact r_iret (pc := 109) ok (Nat.zero_le _) (Nat.zero_le _) rfl dX11_image_109
  · refine r_aload_n (pc := 39) ok 0 dX11_image_39 rfl ?_
    refine r_getR (pc := 40) ok fr_22_14 (by decide) fl_X11_34 dX11_image_40 ?_
    refine r_bipush (pc := 43) ok 36 dX11_image_43 (by decide) ?_
    refine r_iload_n (pc := 45) ok 1 dX11_image_45 rfl ?_
    refine r_iadd (pc := 46) ok dX11_image_46 ?_
    refine r_aload_n (pc := 47) ok 0 dX11_image_47 rfl ?_
    refine r_getR (pc := 48) ok fr_22_3 (by decide) fl_X11_16 dX11_image_48 ?_
    refine r_iload_n (pc := 51) ok 1 dX11_image_51 rfl ?_
    refine r_iald (pc := 52) ok ik_25 (by decide) dX11_image_52 (fun _ => ?_)
    refine r_iast (pc := 53) ok ik_31 (by decide) dX11_image_53 ?_
    refine r_nmM (fun M5 => ?_)
    refine r_aload_n (pc := 54) ok 0 dX11_image_54 rfl ?_
    refine r_getR (pc := 55) ok fr_22_14 (by decide) fl_X11_34 dX11_image_55 ?_
    refine r_bipush (pc := 58) ok 42 dX11_image_58 (by decide) ?_
    refine r_iload_n (pc := 60) ok 1 dX11_image_60 rfl ?_
    refine r_iadd (pc := 61) ok dX11_image_61 ?_
    refine r_aload_n (pc := 62) ok 0 dX11_image_62 rfl ?_
    refine r_getR (pc := 63) ok fr_22_4 (by decide) fl_X11_19 dX11_image_63 ?_
    refine r_iload_n (pc := 66) ok 1 dX11_image_66 rfl ?_
    refine r_iald (pc := 67) ok ik_26 (by decide) dX11_image_67 (fun _ => ?_)
    refine r_iast (pc := 68) ok ik_31 (by decide) dX11_image_68 ?_
    refine r_nmM (fun M6 => ?_)
    refine r_iinc (pc := 69) ok 1 (vq1 + 1) [(1, .int (vq1 + 1)), (0, .ref (gA g 22 0))] dX11_image_69 rfl (congrArg (fun z => vq1 + z) (by decide : Int32.ofInt 1 = (1 : Int32))) (by decide) rfl ?_
    refine r_goto (pc := 72) ok 33 dX11_image_72 (by decide) ?_
    refine r_lv [1, 0] [(0, .ref (gA g 22 0)), (1, .int (vq1 + 1))] rfl ?_
    exact hk33 (vq1 + 1) M6
theorem sX11_image_L33 {g : GP} {l : Launch} {x : CT} (ok : Ok g l x RX11 cX11_image 2 (some FieldType.int) (rmL 2))   : ∀ (n : Nat) (vq1 : Int32) (M : Mem), Sw g l x (FinQ g x eI) 2 0 0 33 [(0, .ref (gA g 22 0)), (1, .int vq1)] [] M (fX11_image_L33  n vq1 M) := by
  intro n
  induction n with
  | zero => intros; exact r_none
  | succ n ih => intro vq1 M; exact sX11_image_B33 ok   _ ih vq1 M
def fX11_image_B7  (k7 : Int32 → Mem → Option (Int32 × Mem)) (vq1 : Int32) (M : Mem) : Option (Int32 × Mem) :=
  if 36 ≤ vq1 then
    (fX11_image_L33 FU 0 M)
  else
    (gd (inb vq1 36)
    (gd (inb vq1 48)
    (lt (mst M 31 0 vq1.toNatClampNeg (M 27 0 vq1.toNatClampNeg)) fun M7 =>
    k7 (vq1 + 1) M7)))
def fX11_image_L7  : Nat → Int32 → Mem → Option (Int32 × Mem)
  | 0, _, _ => none
  | n + 1, vq1, M => fX11_image_B7  (fX11_image_L7  n) vq1 M
set_option maxRecDepth 20000 in
theorem sX11_image_B7 {g : GP} {l : Launch} {x : CT} (ok : Ok g l x RX11 cX11_image 2 (some FieldType.int) (rmL 2))   (k7 : Int32 → Mem → Option (Int32 × Mem)) (hk7 : ∀ (vq1 : Int32) (M : Mem), Sw g l x (FinQ g x eI) 2 0 0 7 [(0, .ref (gA g 22 0)), (1, .int vq1)] [] M (k7 vq1 M)) (vq1 : Int32) (M : Mem) : Sw g l x (FinQ g x eI) 2 0 0 7 [(0, .ref (gA g 22 0)), (1, .int vq1)] [] M (fX11_image_B7  k7 vq1 M) := by
  unfold fX11_image_B7
  refine r_iload_n (pc := 7) ok 1 dX11_image_7 rfl ?_
  refine r_bipush (pc := 8) ok 36 dX11_image_8 (by decide) ?_
  refine r_icmp_ge (pc := 10) ok 31 dX11_image_10 (by decide) (fun _ => ?_) (fun _ => ?_)
  · refine r_iconst (pc := 31) ok 0 dX11_image_31 (by decide) ?_
    refine r_istore_n (pc := 32) ok [(1, .int 0), (0, .ref (gA g 22 0))] dX11_image_32 rfl (by decide) rfl ?_
    refine r_lv [1, 0] [(0, .ref (gA g 22 0)), (1, .int 0)] rfl ?_
    exact sX11_image_L33 ok FU 0 M
  · refine r_aload_n (pc := 13) ok 0 dX11_image_13 rfl ?_
    refine r_getR (pc := 14) ok fr_22_14 (by decide) fl_X11_34 dX11_image_14 ?_
    refine r_iload_n (pc := 17) ok 1 dX11_image_17 rfl ?_
    refine r_aload_n (pc := 18) ok 0 dX11_image_18 rfl ?_
    refine r_getR (pc := 19) ok fr_22_5 (by decide) fl_X11_22 dX11_image_19 ?_
    refine r_iload_n (pc := 22) ok 1 dX11_image_22 rfl ?_
    refine r_iald (pc := 23) ok ik_27 (by decide) dX11_image_23 (fun _ => ?_)
    refine r_iast (pc := 24) ok ik_31 (by decide) dX11_image_24 ?_
    refine r_nmM (fun M7 => ?_)
    refine r_iinc (pc := 25) ok 1 (vq1 + 1) [(1, .int (vq1 + 1)), (0, .ref (gA g 22 0))] dX11_image_25 rfl (congrArg (fun z => vq1 + z) (by decide : Int32.ofInt 1 = (1 : Int32))) (by decide) rfl ?_
    refine r_goto (pc := 28) ok 7 dX11_image_28 (by decide) ?_
    refine r_lv [1, 0] [(0, .ref (gA g 22 0)), (1, .int (vq1 + 1))] rfl ?_
    exact hk7 (vq1 + 1) M7
theorem sX11_image_L7 {g : GP} {l : Launch} {x : CT} (ok : Ok g l x RX11 cX11_image 2 (some FieldType.int) (rmL 2))   : ∀ (n : Nat) (vq1 : Int32) (M : Mem), Sw g l x (FinQ g x eI) 2 0 0 7 [(0, .ref (gA g 22 0)), (1, .int vq1)] [] M (fX11_image_L7  n vq1 M) := by
  intro n
  induction n with
  | zero => intros; exact r_none
  | succ n ih => intro vq1 M; exact sX11_image_B7 ok   _ ih vq1 M
def fX11_image  (M : Mem) : Option (Int32 × Mem) :=
  lt (mst M 22 0 13 1) fun M1 =>
  fX11_image_L7 FU 0 M1
set_option maxRecDepth 20000 in
theorem wX11_image {g : GP} {l : Launch} {x : CT} (ok : Ok g l x RX11 cX11_image 2 (some FieldType.int) (rmL 2))   (M : Mem) : Sw g l x (FinQ g x eI) 2 0 0 0 [(0, .ref (gA g 22 0))] [] M (fX11_image  M) := by
  unfold fX11_image
  refine r_aload_n (pc := 0) ok 0 dX11_image_0 rfl ?_
  refine r_iconst (pc := 1) ok 1 dX11_image_1 (by decide) ?_
  refine r_putI (pc := 2) ok fi_22_13 (by decide) fl_X11_272 fp_22_13 ⟨rfl, rfl⟩ dX11_image_2 ?_
  refine r_nmM (fun M1 => ?_)
  refine r_iconst (pc := 5) ok 0 dX11_image_5 (by decide) ?_
  refine r_istore_n (pc := 6) ok [(1, .int 0), (0, .ref (gA g 22 0))] dX11_image_6 rfl (by decide) rfl ?_
  refine r_lv [1, 0] [(0, .ref (gA g 22 0)), (1, .int 0)] rfl ?_
  exact sX11_image_L7 ok FU 0 M1
theorem con_X11_image (g : GP) (l : Launch)   (M : Mem) (r : Int32) (M2 : Mem) (h : fX11_image  M = some (r, M2)) : Con g l yX11_image cX11_image 2 (some FieldType.int) (rmL 2) [.ref (gA g 22 0)] M (eI r) M2 :=
  Con.of (own := RX11) (f := fX11_image  M) (by decide) (Nat.le_of_ble_eq_true rfl) rfl (fun x ok => wX11_image ok   M) r M2 h
def fX11_back_B38  (k38 : Int32 → Mem → Option (Int32 × Mem)) (vq1 : Int32) (M : Mem) : Option (Int32 × Mem) :=
  if 6 ≤ vq1 then
    (gd (inb 0 3)
    (lt (mst M 22 0 0 (M 32 0 (0 : Int32).toNatClampNeg)) fun M8 =>
    gd (inb 1 3)
    (lt (mst M8 22 0 6 (M8 32 0 (1 : Int32).toNatClampNeg)) fun M12 =>
    gd (inb 2 3)
    (lt (mst M12 22 0 12 (M12 32 0 (2 : Int32).toNatClampNeg)) fun M14 =>
    some (M14 22 0 0, M14)))))
  else
    (gd (inb (36 + vq1) 48)
    (gd (inb vq1 6)
    (lt (mst M 25 0 vq1.toNatClampNeg (M 31 0 (36 + vq1).toNatClampNeg)) fun M15 =>
    gd (inb (42 + vq1) 48)
    (gd (inb vq1 6)
    (lt (mst M15 26 0 vq1.toNatClampNeg (M15 31 0 (42 + vq1).toNatClampNeg)) fun M16 =>
    k38 (vq1 + 1) M16)))))
def fX11_back_L38  : Nat → Int32 → Mem → Option (Int32 × Mem)
  | 0, _, _ => none
  | n + 1, vq1, M => fX11_back_B38  (fX11_back_L38  n) vq1 M
set_option maxRecDepth 20000 in
theorem sX11_back_B38 {g : GP} {l : Launch} {x : CT} (ok : Ok g l x RX11 cX11_back 2 (some FieldType.int) (rmL 2))   (k38 : Int32 → Mem → Option (Int32 × Mem)) (hk38 : ∀ (vq1 : Int32) (M : Mem), Sw g l x (FinQ g x eI) 2 0 0 38 [(0, .ref (gA g 22 0)), (1, .int vq1)] [] M (k38 vq1 M)) (vq1 : Int32) (M : Mem) : Sw g l x (FinQ g x eI) 2 0 0 38 [(0, .ref (gA g 22 0)), (1, .int vq1)] [] M (fX11_back_B38  k38 vq1 M) := by
  unfold fX11_back_B38
  refine r_iload_n (pc := 38) ok 1 dX11_back_38 rfl ?_
  refine r_bipush (pc := 39) ok 6 dX11_back_39 (by decide) ?_
  refine r_icmp_ge (pc := 41) ok 80 dX11_back_41 (by decide) (fun _ => ?_) (fun _ => ?_)
  · refine r_aload_n (pc := 80) ok 0 dX11_back_80 rfl ?_
    refine r_aload_n (pc := 81) ok 0 dX11_back_81 rfl ?_
    refine r_getR (pc := 82) ok fr_22_15 (by decide) fl_X11_37 dX11_back_82 ?_
    refine r_iconst (pc := 85) ok 0 dX11_back_85 (by decide) ?_
    refine r_iald (pc := 86) ok ik_32 (by decide) dX11_back_86 (fun _ => ?_)
    refine r_putI (pc := 87) ok fi_22_0 (by decide) fl_X11_81 fp_22_0 ⟨rfl, rfl⟩ dX11_back_87 ?_
    refine r_nmM (fun M8 => ?_)
    refine r_aload_n (pc := 90) ok 0 dX11_back_90 rfl ?_
    refine r_aload_n (pc := 91) ok 0 dX11_back_91 rfl ?_
    refine r_getR (pc := 92) ok fr_22_15 (by decide) fl_X11_37 dX11_back_92 ?_
    refine r_iconst (pc := 95) ok 1 dX11_back_95 (by decide) ?_
    refine r_iald (pc := 96) ok ik_32 (by decide) dX11_back_96 (fun _ => ?_)
    refine r_putI (pc := 97) ok fi_22_6 (by decide) fl_X11_92 fp_22_6 ⟨rfl, rfl⟩ dX11_back_97 ?_
    refine r_nmM (fun M12 => ?_)
    refine r_aload_n (pc := 100) ok 0 dX11_back_100 rfl ?_
    refine r_aload_n (pc := 101) ok 0 dX11_back_101 rfl ?_
    refine r_getR (pc := 102) ok fr_22_15 (by decide) fl_X11_37 dX11_back_102 ?_
    refine r_iconst (pc := 105) ok 2 dX11_back_105 (by decide) ?_
    refine r_iald (pc := 106) ok ik_32 (by decide) dX11_back_106 (fun _ => ?_)
    refine r_putI (pc := 107) ok fi_22_12 (by decide) fl_X11_101 fp_22_12 ⟨rfl, rfl⟩ dX11_back_107 ?_
    refine r_nmM (fun M14 => ?_)
    refine r_aload_n (pc := 110) ok 0 dX11_back_110 rfl ?_
    refine r_getI (pc := 111) ok fi_22_0 (by decide) fl_X11_81 dX11_back_111 ?_
    exact r_iret (pc := 114) ok (Nat.zero_le _) (Nat.zero_le _) rfl dX11_back_114
  · refine r_aload_n (pc := 44) ok 0 dX11_back_44 rfl ?_
    refine r_getR (pc := 45) ok fr_22_3 (by decide) fl_X11_16 dX11_back_45 ?_
    refine r_iload_n (pc := 48) ok 1 dX11_back_48 rfl ?_
    refine r_aload_n (pc := 49) ok 0 dX11_back_49 rfl ?_
    refine r_getR (pc := 50) ok fr_22_14 (by decide) fl_X11_34 dX11_back_50 ?_
    refine r_bipush (pc := 53) ok 36 dX11_back_53 (by decide) ?_
    refine r_iload_n (pc := 55) ok 1 dX11_back_55 rfl ?_
    refine r_iadd (pc := 56) ok dX11_back_56 ?_
    refine r_iald (pc := 57) ok ik_31 (by decide) dX11_back_57 (fun _ => ?_)
    refine r_iast (pc := 58) ok ik_25 (by decide) dX11_back_58 ?_
    refine r_nmM (fun M15 => ?_)
    refine r_aload_n (pc := 59) ok 0 dX11_back_59 rfl ?_
    refine r_getR (pc := 60) ok fr_22_4 (by decide) fl_X11_19 dX11_back_60 ?_
    refine r_iload_n (pc := 63) ok 1 dX11_back_63 rfl ?_
    refine r_aload_n (pc := 64) ok 0 dX11_back_64 rfl ?_
    refine r_getR (pc := 65) ok fr_22_14 (by decide) fl_X11_34 dX11_back_65 ?_
    refine r_bipush (pc := 68) ok 42 dX11_back_68 (by decide) ?_
    refine r_iload_n (pc := 70) ok 1 dX11_back_70 rfl ?_
    refine r_iadd (pc := 71) ok dX11_back_71 ?_
    refine r_iald (pc := 72) ok ik_31 (by decide) dX11_back_72 (fun _ => ?_)
    refine r_iast (pc := 73) ok ik_26 (by decide) dX11_back_73 ?_
    refine r_nmM (fun M16 => ?_)
    refine r_iinc (pc := 74) ok 1 (vq1 + 1) [(1, .int (vq1 + 1)), (0, .ref (gA g 22 0))] dX11_back_74 rfl (congrArg (fun z => vq1 + z) (by decide : Int32.ofInt 1 = (1 : Int32))) (by decide) rfl ?_
    refine r_goto (pc := 77) ok 38 dX11_back_77 (by decide) ?_
    refine r_lv [1, 0] [(0, .ref (gA g 22 0)), (1, .int (vq1 + 1))] rfl ?_
    exact hk38 (vq1 + 1) M16
theorem sX11_back_L38 {g : GP} {l : Launch} {x : CT} (ok : Ok g l x RX11 cX11_back 2 (some FieldType.int) (rmL 2))   : ∀ (n : Nat) (vq1 : Int32) (M : Mem), Sw g l x (FinQ g x eI) 2 0 0 38 [(0, .ref (gA g 22 0)), (1, .int vq1)] [] M (fX11_back_L38  n vq1 M) := by
  intro n
  induction n with
  | zero => intros; exact r_none
  | succ n ih => intro vq1 M; exact sX11_back_B38 ok   _ ih vq1 M
def fX11_back_B12  (k12 : Int32 → Mem → Option (Int32 × Mem)) (vq1 : Int32) (M : Mem) : Option (Int32 × Mem) :=
  if 36 ≤ vq1 then
    (fX11_back_L38 FU 0 M)
  else
    (gd (inb vq1 48)
    (gd (inb vq1 36)
    (lt (mst M 27 0 vq1.toNatClampNeg (M 31 0 vq1.toNatClampNeg)) fun M17 =>
    k12 (vq1 + 1) M17)))
def fX11_back_L12  : Nat → Int32 → Mem → Option (Int32 × Mem)
  | 0, _, _ => none
  | n + 1, vq1, M => fX11_back_B12  (fX11_back_L12  n) vq1 M
set_option maxRecDepth 20000 in
theorem sX11_back_B12 {g : GP} {l : Launch} {x : CT} (ok : Ok g l x RX11 cX11_back 2 (some FieldType.int) (rmL 2))   (k12 : Int32 → Mem → Option (Int32 × Mem)) (hk12 : ∀ (vq1 : Int32) (M : Mem), Sw g l x (FinQ g x eI) 2 0 0 12 [(0, .ref (gA g 22 0)), (1, .int vq1)] [] M (k12 vq1 M)) (vq1 : Int32) (M : Mem) : Sw g l x (FinQ g x eI) 2 0 0 12 [(0, .ref (gA g 22 0)), (1, .int vq1)] [] M (fX11_back_B12  k12 vq1 M) := by
  unfold fX11_back_B12
  refine r_iload_n (pc := 12) ok 1 dX11_back_12 rfl ?_
  refine r_bipush (pc := 13) ok 36 dX11_back_13 (by decide) ?_
  refine r_icmp_ge (pc := 15) ok 36 dX11_back_15 (by decide) (fun _ => ?_) (fun _ => ?_)
  · refine r_iconst (pc := 36) ok 0 dX11_back_36 (by decide) ?_
    refine r_istore_n (pc := 37) ok [(1, .int 0), (0, .ref (gA g 22 0))] dX11_back_37 rfl (by decide) rfl ?_
    refine r_lv [1, 0] [(0, .ref (gA g 22 0)), (1, .int 0)] rfl ?_
    exact sX11_back_L38 ok FU 0 M
  · refine r_aload_n (pc := 18) ok 0 dX11_back_18 rfl ?_
    refine r_getR (pc := 19) ok fr_22_5 (by decide) fl_X11_22 dX11_back_19 ?_
    refine r_iload_n (pc := 22) ok 1 dX11_back_22 rfl ?_
    refine r_aload_n (pc := 23) ok 0 dX11_back_23 rfl ?_
    refine r_getR (pc := 24) ok fr_22_14 (by decide) fl_X11_34 dX11_back_24 ?_
    refine r_iload_n (pc := 27) ok 1 dX11_back_27 rfl ?_
    refine r_iald (pc := 28) ok ik_31 (by decide) dX11_back_28 (fun _ => ?_)
    refine r_iast (pc := 29) ok ik_27 (by decide) dX11_back_29 ?_
    refine r_nmM (fun M17 => ?_)
    refine r_iinc (pc := 30) ok 1 (vq1 + 1) [(1, .int (vq1 + 1)), (0, .ref (gA g 22 0))] dX11_back_30 rfl (congrArg (fun z => vq1 + z) (by decide : Int32.ofInt 1 = (1 : Int32))) (by decide) rfl ?_
    refine r_goto (pc := 33) ok 12 dX11_back_33 (by decide) ?_
    refine r_lv [1, 0] [(0, .ref (gA g 22 0)), (1, .int (vq1 + 1))] rfl ?_
    exact hk12 (vq1 + 1) M17
theorem sX11_back_L12 {g : GP} {l : Launch} {x : CT} (ok : Ok g l x RX11 cX11_back 2 (some FieldType.int) (rmL 2))   : ∀ (n : Nat) (vq1 : Int32) (M : Mem), Sw g l x (FinQ g x eI) 2 0 0 12 [(0, .ref (gA g 22 0)), (1, .int vq1)] [] M (fX11_back_L12  n vq1 M) := by
  intro n
  induction n with
  | zero => intros; exact r_none
  | succ n ih => intro vq1 M; exact sX11_back_B12 ok   _ ih vq1 M
def fX11_back  (M : Mem) : Option (Int32 × Mem) :=
  if (M 22 0 13) = 0 then
    (some (-3, M))
  else
    (fX11_back_L12 FU 0 M)
set_option maxRecDepth 20000 in
theorem wX11_back {g : GP} {l : Launch} {x : CT} (ok : Ok g l x RX11 cX11_back 2 (some FieldType.int) (rmL 2))   (M : Mem) : Sw g l x (FinQ g x eI) 2 0 0 0 [(0, .ref (gA g 22 0))] [] M (fX11_back  M) := by
  unfold fX11_back
  refine r_aload_n (pc := 0) ok 0 dX11_back_0 rfl ?_
  refine r_getI (pc := 1) ok fi_22_13 (by decide) fl_X11_272 dX11_back_1 ?_
  refine r_if_ne (pc := 4) ok 10 dX11_back_4 (by decide) (fun _ => ?_) (fun _ => ?_)
  · refine r_bipush (pc := 7) ok (-3) dX11_back_7 (by decide) ?_
    exact r_iret (pc := 9) ok (Nat.zero_le _) (Nat.zero_le _) rfl dX11_back_9
  · refine r_iconst (pc := 10) ok 0 dX11_back_10 (by decide) ?_
    refine r_istore_n (pc := 11) ok [(1, .int 0), (0, .ref (gA g 22 0))] dX11_back_11 rfl (by decide) rfl ?_
    refine r_lv [1, 0] [(0, .ref (gA g 22 0)), (1, .int 0)] rfl ?_
    exact sX11_back_L12 ok FU 0 M
theorem con_X11_back (g : GP) (l : Launch)   (M : Mem) (r : Int32) (M2 : Mem) (h : fX11_back  M = some (r, M2)) : Con g l yX11_back cX11_back 2 (some FieldType.int) (rmL 2) [.ref (gA g 22 0)] M (eI r) M2 :=
  Con.of (own := RX11) (f := fX11_back  M) (by decide) (Nat.le_of_ble_eq_true rfl) rfl (fun x ok => wX11_back ok   M) r M2 h
def fX11_isUnder_J19 (vq0 : Int32) (vq1 : Int32) (M : Mem) : Option (Int32 × Mem) :=
  if vq1 = 2 then
    (if vq0 = 4 then
      (some (1, M))
    else
      (some (0, M)))
  else
    (some (0, M))
set_option maxRecDepth 20000 in
theorem sX11_isUnder_J19 {g : GP} {l : Launch} {x : CT} (ok : Ok g l x RX11 cX11_isUnder 2 (some FieldType.boolean) (rmL 2)) (vq0 : Int32) (vq1 : Int32)  (M : Mem) : Sw g l x (FinQ g x eI) 2 0 0 19 [(0, .int vq0), (1, .int vq1)] [] M (fX11_isUnder_J19 vq0 vq1 M) := by
  unfold fX11_isUnder_J19
  refine r_iload_n (pc := 19) ok 1 dX11_isUnder_19 rfl ?_
  refine r_iconst (pc := 20) ok 2 dX11_isUnder_20 (by decide) ?_
  refine r_icmp_ne (pc := 21) ok 33 dX11_isUnder_21 (by decide) (fun _ => ?_) (fun _ => ?_)
  · refine r_iload_n (pc := 24) ok 0 dX11_isUnder_24 rfl ?_
    refine r_iconst (pc := 25) ok 4 dX11_isUnder_25 (by decide) ?_
    refine r_icmp_ne (pc := 26) ok 33 dX11_isUnder_26 (by decide) (fun _ => ?_) (fun _ => ?_)
    · refine r_iconst (pc := 29) ok 1 dX11_isUnder_29 (by decide) ?_
      refine r_goto (pc := 30) ok 34 dX11_isUnder_30 (by decide) ?_
      exact r_zret (pc := 34) ok (Nat.zero_le _) (Nat.zero_le _) rfl rfl dX11_isUnder_34
    · refine r_iconst (pc := 33) ok 0 dX11_isUnder_33 (by decide) ?_
      exact r_zret (pc := 34) ok (Nat.zero_le _) (Nat.zero_le _) rfl rfl dX11_isUnder_34
  · refine r_iconst (pc := 33) ok 0 dX11_isUnder_33 (by decide) ?_
    exact r_zret (pc := 34) ok (Nat.zero_le _) (Nat.zero_le _) rfl rfl dX11_isUnder_34
def fX11_isUnder (vq0 : Int32) (vq1 : Int32) (M : Mem) : Option (Int32 × Mem) :=
  if vq1 = 0 then
    (some (1, M))
  else
    (if vq0 = vq1 then
      (some (1, M))
    else
      (if vq1 = 1 then
        (if vq0 = 3 then
          (some (1, M))
        else
          (fX11_isUnder_J19 vq0 vq1 M))
      else
        (fX11_isUnder_J19 vq0 vq1 M)))
set_option maxRecDepth 20000 in
theorem wX11_isUnder {g : GP} {l : Launch} {x : CT} (ok : Ok g l x RX11 cX11_isUnder 2 (some FieldType.boolean) (rmL 2)) (vq0 : Int32) (vq1 : Int32)  (M : Mem) : Sw g l x (FinQ g x eI) 2 0 0 0 [(0, .int vq0), (1, .int vq1)] [] M (fX11_isUnder vq0 vq1 M) := by
  unfold fX11_isUnder
  refine r_iload_n (pc := 0) ok 1 dX11_isUnder_0 rfl ?_
  refine r_if_eq (pc := 1) ok 29 dX11_isUnder_1 (by decide) (fun _ => ?_) (fun _ => ?_)
  · refine r_iconst (pc := 29) ok 1 dX11_isUnder_29 (by decide) ?_
    refine r_goto (pc := 30) ok 34 dX11_isUnder_30 (by decide) ?_
    exact r_zret (pc := 34) ok (Nat.zero_le _) (Nat.zero_le _) rfl rfl dX11_isUnder_34
  · refine r_iload_n (pc := 4) ok 0 dX11_isUnder_4 rfl ?_
    refine r_iload_n (pc := 5) ok 1 dX11_isUnder_5 rfl ?_
    refine r_icmp_eq (pc := 6) ok 29 dX11_isUnder_6 (by decide) (fun _ => ?_) (fun _ => ?_)
    · refine r_iconst (pc := 29) ok 1 dX11_isUnder_29 (by decide) ?_
      refine r_goto (pc := 30) ok 34 dX11_isUnder_30 (by decide) ?_
      exact r_zret (pc := 34) ok (Nat.zero_le _) (Nat.zero_le _) rfl rfl dX11_isUnder_34
    · refine r_iload_n (pc := 9) ok 1 dX11_isUnder_9 rfl ?_
      refine r_iconst (pc := 10) ok 1 dX11_isUnder_10 (by decide) ?_
      refine r_icmp_ne (pc := 11) ok 19 dX11_isUnder_11 (by decide) (fun _ => ?_) (fun _ => ?_)
      · refine r_iload_n (pc := 14) ok 0 dX11_isUnder_14 rfl ?_
        refine r_iconst (pc := 15) ok 3 dX11_isUnder_15 (by decide) ?_
        refine r_icmp_eq (pc := 16) ok 29 dX11_isUnder_16 (by decide) (fun _ => ?_) (fun _ => ?_)
        · refine r_iconst (pc := 29) ok 1 dX11_isUnder_29 (by decide) ?_
          refine r_goto (pc := 30) ok 34 dX11_isUnder_30 (by decide) ?_
          exact r_zret (pc := 34) ok (Nat.zero_le _) (Nat.zero_le _) rfl rfl dX11_isUnder_34
        · refine r_lv [0, 1] [(0, .int vq0), (1, .int vq1)] rfl ?_
          exact sX11_isUnder_J19 ok vq0 vq1 M
      · refine r_lv [0, 1] [(0, .int vq0), (1, .int vq1)] rfl ?_
        exact sX11_isUnder_J19 ok vq0 vq1 M
theorem con_X11_isUnder (g : GP) (l : Launch) (vq0 : Int32) (vq1 : Int32)  (M : Mem) (r : Int32) (M2 : Mem) (h : fX11_isUnder vq0 vq1 M = some (r, M2)) : Con g l yX11_isUnder cX11_isUnder 2 (some FieldType.boolean) (rmL 2) [.int vq0, .int vq1] M (eI r) M2 :=
  Con.of (own := RX11) (f := fX11_isUnder vq0 vq1 M) (by decide) (Nat.le_of_ble_eq_true rfl) rfl (fun x ok => wX11_isUnder ok vq0 vq1  M) r M2 h
def fX4_append (vq1 : Int32) (M : Mem) : Option (Unit × Mem) :=
  if 160 ≤ (M 1 0 3) then
    (some ((), M))
  else
    (gd (inb (M 1 0 3) 160)
    (lt (mst M 2 0 (M 1 0 3).toNatClampNeg vq1) fun M1 =>
    lt (mst M1 1 0 3 ((M1 1 0 3) + 1)) fun M2 =>
    some ((), M2)))
set_option maxRecDepth 20000 in
theorem wX4_append {g : GP} {l : Launch} {x : CT} (ok : Ok g l x RX4 cX4_append 2 none (rmL 2)) (vq1 : Int32)  (M : Mem) : Sw g l x (FinQ g x eV) 2 0 0 0 [(0, .ref (gA g 1 0)), (1, .int vq1)] [] M (fX4_append vq1 M) := by
  unfold fX4_append
  refine r_aload_n (pc := 0) ok 0 dX4_append_0 rfl ?_
  refine r_getI (pc := 1) ok fi_1_3 (by decide) fl_X4_21 dX4_append_1 ?_
  refine r_sipush (pc := 4) ok 160 dX4_append_4 (by decide) ?_
  refine r_icmp_ge (pc := 7) ok 30 dX4_append_7 (by decide) (fun _ => ?_) (fun _ => ?_)
  · exact r_vret (pc := 30) ok (Nat.zero_le _) (Nat.zero_le _) rfl dX4_append_30
  · refine r_aload_n (pc := 10) ok 0 dX4_append_10 rfl ?_
    refine r_getR (pc := 11) ok fr_1_0 (by decide) fl_X4_9 dX4_append_11 ?_
    refine r_aload_n (pc := 14) ok 0 dX4_append_14 rfl ?_
    refine r_getI (pc := 15) ok fi_1_3 (by decide) fl_X4_21 dX4_append_15 ?_
    refine r_iload_n (pc := 18) ok 1 dX4_append_18 rfl ?_
    refine r_iast (pc := 19) ok ik_2 (by decide) dX4_append_19 ?_
    refine r_nmM (fun M1 => ?_)
    refine r_aload_n (pc := 20) ok 0 dX4_append_20 rfl ?_
    refine r_dup (pc := 21) ok dX4_append_21 rfl ?_
    refine r_getI (pc := 22) ok fi_1_3 (by decide) fl_X4_21 dX4_append_22 ?_
    refine r_iconst (pc := 25) ok 1 dX4_append_25 (by decide) ?_
    refine r_iadd (pc := 26) ok dX4_append_26 ?_
    refine r_putI (pc := 27) ok fi_1_3 (by decide) fl_X4_21 fp_1_3 ⟨rfl, rfl⟩ dX4_append_27 ?_
    refine r_nmM (fun M2 => ?_)
    exact r_vret (pc := 30) ok (Nat.zero_le _) (Nat.zero_le _) rfl dX4_append_30
theorem con_X4_append (g : GP) (l : Launch) (vq1 : Int32)  (M : Mem) (r : Unit) (M2 : Mem) (h : fX4_append vq1 M = some (r, M2)) : Con g l yX4_append cX4_append 2 none (rmL 2) [.ref (gA g 1 0), .int vq1] M (eV r) M2 :=
  Con.of (own := RX4) (f := fX4_append vq1 M) (by decide) (Nat.le_of_ble_eq_true rfl) rfl (fun x ok => wX4_append ok vq1  M) r M2 h
def fX4_emit (vq1 : Int32) (M : Mem) : Option (Unit × Mem) :=
  if 160 ≤ (M 1 0 4) then
    (some ((), M))
  else
    (gd (inb (M 1 0 4) 160)
    (lt (mst M 3 0 (M 1 0 4).toNatClampNeg vq1) fun M1 =>
    lt (mst M1 1 0 4 ((M1 1 0 4) + 1)) fun M2 =>
    some ((), M2)))
set_option maxRecDepth 20000 in
theorem wX4_emit {g : GP} {l : Launch} {x : CT} (ok : Ok g l x RX4 cX4_emit 2 none (rmL 2)) (vq1 : Int32)  (M : Mem) : Sw g l x (FinQ g x eV) 2 0 0 0 [(0, .ref (gA g 1 0)), (1, .int vq1)] [] M (fX4_emit vq1 M) := by
  unfold fX4_emit
  refine r_aload_n (pc := 0) ok 0 dX4_emit_0 rfl ?_
  refine r_getI (pc := 1) ok fi_1_4 (by decide) fl_X4_25 dX4_emit_1 ?_
  refine r_sipush (pc := 4) ok 160 dX4_emit_4 (by decide) ?_
  refine r_icmp_ge (pc := 7) ok 30 dX4_emit_7 (by decide) (fun _ => ?_) (fun _ => ?_)
  · exact r_vret (pc := 30) ok (Nat.zero_le _) (Nat.zero_le _) rfl dX4_emit_30
  · refine r_aload_n (pc := 10) ok 0 dX4_emit_10 rfl ?_
    refine r_getR (pc := 11) ok fr_1_1 (by decide) fl_X4_15 dX4_emit_11 ?_
    refine r_aload_n (pc := 14) ok 0 dX4_emit_14 rfl ?_
    refine r_getI (pc := 15) ok fi_1_4 (by decide) fl_X4_25 dX4_emit_15 ?_
    refine r_iload_n (pc := 18) ok 1 dX4_emit_18 rfl ?_
    refine r_iast (pc := 19) ok ik_3 (by decide) dX4_emit_19 ?_
    refine r_nmM (fun M1 => ?_)
    refine r_aload_n (pc := 20) ok 0 dX4_emit_20 rfl ?_
    refine r_dup (pc := 21) ok dX4_emit_21 rfl ?_
    refine r_getI (pc := 22) ok fi_1_4 (by decide) fl_X4_25 dX4_emit_22 ?_
    refine r_iconst (pc := 25) ok 1 dX4_emit_25 (by decide) ?_
    refine r_iadd (pc := 26) ok dX4_emit_26 ?_
    refine r_putI (pc := 27) ok fi_1_4 (by decide) fl_X4_25 fp_1_4 ⟨rfl, rfl⟩ dX4_emit_27 ?_
    refine r_nmM (fun M2 => ?_)
    exact r_vret (pc := 30) ok (Nat.zero_le _) (Nat.zero_le _) rfl dX4_emit_30
theorem con_X4_emit (g : GP) (l : Launch) (vq1 : Int32)  (M : Mem) (r : Unit) (M2 : Mem) (h : fX4_emit vq1 M = some (r, M2)) : Con g l yX4_emit cX4_emit 2 none (rmL 2) [.ref (gA g 1 0), .int vq1] M (eV r) M2 :=
  Con.of (own := RX4) (f := fX4_emit vq1 M) (by decide) (Nat.le_of_ble_eq_true rfl) rfl (fun x ok => wX4_emit ok vq1  M) r M2 h
def fX5_takeFrom_B17 (iq0 : Nat) (iq1 : Nat) (k17 : Int32 → Mem → Option (Unit × Mem)) (vq2 : Int32) (M : Mem) : Option (Unit × Mem) :=
  if 4 ≤ vq2 then
    (lt (mst M 15 iq0 7 (M 15 iq1 7)) fun M2 =>
    lt (mst M2 15 iq0 8 (M2 15 iq1 8)) fun M3 =>
    lt (mst M3 15 iq0 9 (M3 15 iq1 9)) fun M4 =>
    some ((), M4))
  else
    (gd (inb vq2 4)
    (gd (inb vq2 4)
    (gd (cpk 0 0 6 6 6)
    (lt (mrow M 18 (4 * iq0 + vq2.toNatClampNeg) (va_cpy (M 18 (4 * iq1 + vq2.toNatClampNeg)) (M 18 (4 * iq0 + vq2.toNatClampNeg)) (0 : Int32).toNatClampNeg (0 : Int32).toNatClampNeg (6 : Int32).toNatClampNeg)) fun M7 =>
    k17 (vq2 + 1) M7))))
def fX5_takeFrom_L17 (iq0 : Nat) (iq1 : Nat) : Nat → Int32 → Mem → Option (Unit × Mem)
  | 0, _, _ => none
  | n + 1, vq2, M => fX5_takeFrom_B17 iq0 iq1 (fX5_takeFrom_L17 iq0 iq1 n) vq2 M
set_option maxRecDepth 20000 in
theorem sX5_takeFrom_B17 {g : GP} {l : Launch} {x : CT} (ok : Ok g l x RX5 cX5_takeFrom 3 none (rmL 2)) (iq0 : Nat) (iq1 : Nat) (h0 : iq0 < 3) (h1 : iq1 < 3) (k17 : Int32 → Mem → Option (Unit × Mem)) (hk17 : ∀ (vq2 : Int32) (M : Mem), Sw g l x (FinQ g x eV) 3 0 0 17 [(0, .ref (gA g 15 iq0)), (1, .ref (gA g 15 iq1)), (2, .int vq2)] [] M (k17 vq2 M)) (vq2 : Int32) (M : Mem) : Sw g l x (FinQ g x eV) 3 0 0 17 [(0, .ref (gA g 15 iq0)), (1, .ref (gA g 15 iq1)), (2, .int vq2)] [] M (fX5_takeFrom_B17 iq0 iq1 k17 vq2 M) := by
  unfold fX5_takeFrom_B17
  refine r_iload_n (pc := 17) ok 2 dX5_takeFrom_17 rfl ?_
  refine r_iconst (pc := 18) ok 4 dX5_takeFrom_18 (by decide) ?_
  refine r_icmp_ge (pc := 19) ok 47 dX5_takeFrom_19 (by decide) (fun _ => ?_) (fun _ => ?_)
  · refine r_aload_n (pc := 47) ok 0 dX5_takeFrom_47 rfl ?_
    refine r_aload_n (pc := 48) ok 1 dX5_takeFrom_48 rfl ?_
    refine r_getI (pc := 49) ok fi_15_7 h1 fl_X5_45 dX5_takeFrom_49 ?_
    refine r_putI (pc := 52) ok fi_15_7 h0 fl_X5_45 fp_15_7 ⟨rfl, rfl⟩ dX5_takeFrom_52 ?_
    refine r_nmM (fun M2 => ?_)
    refine r_aload_n (pc := 55) ok 0 dX5_takeFrom_55 rfl ?_
    refine r_aload_n (pc := 56) ok 1 dX5_takeFrom_56 rfl ?_
    refine r_getI (pc := 57) ok fi_15_8 h1 fl_X5_49 dX5_takeFrom_57 ?_
    refine r_putI (pc := 60) ok fi_15_8 h0 fl_X5_49 fp_15_8 ⟨rfl, rfl⟩ dX5_takeFrom_60 ?_
    refine r_nmM (fun M3 => ?_)
    refine r_aload_n (pc := 63) ok 0 dX5_takeFrom_63 rfl ?_
    refine r_aload_n (pc := 64) ok 1 dX5_takeFrom_64 rfl ?_
    refine r_getI (pc := 65) ok fi_15_9 h1 fl_X5_52 dX5_takeFrom_65 ?_
    refine r_putI (pc := 68) ok fi_15_9 h0 fl_X5_52 fp_15_9 ⟨rfl, rfl⟩ dX5_takeFrom_68 ?_
    refine r_nmM (fun M4 => ?_)
    exact r_vret (pc := 71) ok (Nat.zero_le _) (Nat.zero_le _) rfl dX5_takeFrom_71
  · refine r_aload_n (pc := 22) ok 1 dX5_takeFrom_22 rfl ?_
    refine r_getR (pc := 23) ok fr_15_3 h1 fl_X5_17 dX5_takeFrom_23 ?_
    refine r_iload_n (pc := 26) ok 2 dX5_takeFrom_26 rfl ?_
    refine r_aald (pc := 27) ok rk_17 h1 rfl rfl dX5_takeFrom_27 (fun hb5 => ?_)
    refine r_iconst (pc := 28) ok 0 dX5_takeFrom_28 (by decide) ?_
    refine r_aload_n (pc := 29) ok 0 dX5_takeFrom_29 rfl ?_
    refine r_getR (pc := 30) ok fr_15_3 h0 fl_X5_17 dX5_takeFrom_30 ?_
    refine r_iload_n (pc := 33) ok 2 dX5_takeFrom_33 rfl ?_
    refine r_aald (pc := 34) ok rk_17 h0 rfl rfl dX5_takeFrom_34 (fun hb6 => ?_)
    refine r_iconst (pc := 35) ok 0 dX5_takeFrom_35 (by decide) ?_
    refine r_bipush (pc := 36) ok 6 dX5_takeFrom_36 (by decide) ?_
    refine r_acpy (pc := 38) ok ik_18 (show _ < 12 from trow_lt h1 hb5) ik_18 (show _ < 12 from trow_lt h0 hb6) wml_X5_39 wna_acp wst_acp win_System (rmA (by decide)) (Nat.le_of_ble_eq_true rfl) dX5_takeFrom_38 ?_
    refine r_nmM (fun M7 => ?_)
    refine r_iinc (pc := 41) ok 2 (vq2 + 1) [(2, .int (vq2 + 1)), (0, .ref (gA g 15 iq0)), (1, .ref (gA g 15 iq1))] dX5_takeFrom_41 rfl (congrArg (fun z => vq2 + z) (by decide : Int32.ofInt 1 = (1 : Int32))) (by decide) rfl ?_
    refine r_goto (pc := 44) ok 17 dX5_takeFrom_44 (by decide) ?_
    refine r_lv [1, 2, 0] [(0, .ref (gA g 15 iq0)), (1, .ref (gA g 15 iq1)), (2, .int (vq2 + 1))] rfl ?_
    exact hk17 (vq2 + 1) M7
theorem sX5_takeFrom_L17 {g : GP} {l : Launch} {x : CT} (ok : Ok g l x RX5 cX5_takeFrom 3 none (rmL 2)) (iq0 : Nat) (iq1 : Nat) (h0 : iq0 < 3) (h1 : iq1 < 3) : ∀ (n : Nat) (vq2 : Int32) (M : Mem), Sw g l x (FinQ g x eV) 3 0 0 17 [(0, .ref (gA g 15 iq0)), (1, .ref (gA g 15 iq1)), (2, .int vq2)] [] M (fX5_takeFrom_L17 iq0 iq1 n vq2 M) := by
  intro n
  induction n with
  | zero => intros; exact r_none
  | succ n ih => intro vq2 M; exact sX5_takeFrom_B17 ok iq0 iq1 h0 h1 _ ih vq2 M
def fX5_takeFrom (iq0 : Nat) (iq1 : Nat) (M : Mem) : Option (Unit × Mem) :=
  gd (cpk 0 0 36 36 36)
  (lt (mrow M 16 iq0 (va_cpy (M 16 iq1) (M 16 iq0) (0 : Int32).toNatClampNeg (0 : Int32).toNatClampNeg (36 : Int32).toNatClampNeg)) fun M1 =>
  fX5_takeFrom_L17 iq0 iq1 FU 0 M1)
set_option maxRecDepth 20000 in
theorem wX5_takeFrom {g : GP} {l : Launch} {x : CT} (ok : Ok g l x RX5 cX5_takeFrom 3 none (rmL 2)) (iq0 : Nat) (iq1 : Nat) (hq0 : iq0 < 3) (hq1 : iq1 < 3) (M : Mem) : Sw g l x (FinQ g x eV) 3 0 0 0 [(0, .ref (gA g 15 iq0)), (1, .ref (gA g 15 iq1))] [] M (fX5_takeFrom iq0 iq1 M) := by
  unfold fX5_takeFrom
  refine r_aload_n (pc := 0) ok 1 dX5_takeFrom_0 rfl ?_
  refine r_getR (pc := 1) ok fr_15_2 hq1 fl_X5_9 dX5_takeFrom_1 ?_
  refine r_iconst (pc := 4) ok 0 dX5_takeFrom_4 (by decide) ?_
  refine r_aload_n (pc := 5) ok 0 dX5_takeFrom_5 rfl ?_
  refine r_getR (pc := 6) ok fr_15_2 hq0 fl_X5_9 dX5_takeFrom_6 ?_
  refine r_iconst (pc := 9) ok 0 dX5_takeFrom_9 (by decide) ?_
  refine r_bipush (pc := 10) ok 36 dX5_takeFrom_10 (by decide) ?_
  refine r_acpy (pc := 12) ok ik_16 hq1 ik_16 hq0 wml_X5_39 wna_acp wst_acp win_System (rmA (by decide)) (Nat.le_of_ble_eq_true rfl) dX5_takeFrom_12 ?_
  refine r_nmM (fun M1 => ?_)
  refine r_iconst (pc := 15) ok 0 dX5_takeFrom_15 (by decide) ?_
  refine r_istore_n (pc := 16) ok [(2, .int 0), (0, .ref (gA g 15 iq0)), (1, .ref (gA g 15 iq1))] dX5_takeFrom_16 rfl (by decide) rfl ?_
  refine r_lv [1, 2, 0] [(0, .ref (gA g 15 iq0)), (1, .ref (gA g 15 iq1)), (2, .int 0)] rfl ?_
  exact sX5_takeFrom_L17 ok iq0 iq1 hq0 hq1 FU 0 M1
theorem con_X5_takeFrom (g : GP) (l : Launch) (iq0 : Nat) (iq1 : Nat) (hq0 : iq0 < 3) (hq1 : iq1 < 3) (M : Mem) (r : Unit) (M2 : Mem) (h : fX5_takeFrom iq0 iq1 M = some (r, M2)) : Con g l yX5_takeFrom cX5_takeFrom 3 none (rmL 2) [.ref (gA g 15 iq0), .ref (gA g 15 iq1)] M (eV r) M2 :=
  Con.of (own := RX5) (f := fX5_takeFrom iq0 iq1 M) (by decide) (Nat.le_of_ble_eq_true rfl) rfl (fun x ok => wX5_takeFrom ok iq0 iq1 hq0 hq1 M) r M2 h
def fX5_admit (iq0 : Nat) (vq1 : Int32) (vq2 : Int32) (M : Mem) : Option (Int32 × Mem) :=
  if (M 15 iq0 7) < 6 then
    (gd (inb 2 4)
    (gd (inb (M 15 iq0 7) 6)
    (lt (mst M 18 (4 * iq0 + (2 : Int32).toNatClampNeg) (M 15 iq0 7).toNatClampNeg (vq1 / 10)) fun M2 =>
    gd (inb 3 4)
    (gd (inb (M2 15 iq0 7) 6)
    (lt (mst M2 18 (4 * iq0 + (3 : Int32).toNatClampNeg) (M2 15 iq0 7).toNatClampNeg (irem vq1 10)) fun M4 =>
    gd (inb 0 4)
    (gd (inb (M4 15 iq0 7) 6)
    (lt (mst M4 18 (4 * iq0 + (0 : Int32).toNatClampNeg) (M4 15 iq0 7).toNatClampNeg (vq2 / 100)) fun M6 =>
    gd (inb 1 4)
    (gd (inb (M6 15 iq0 7) 6)
    (lt (mst M6 18 (4 * iq0 + (1 : Int32).toNatClampNeg) (M6 15 iq0 7).toNatClampNeg (irem vq2 100)) fun M8 =>
    lt (mst M8 15 iq0 7 ((M8 15 iq0 7) + 1)) fun M9 =>
    some ((M9 15 iq0 7) - 1, M9))))))))))
  else
    (some (-4, M))
set_option maxRecDepth 20000 in
theorem wX5_admit {g : GP} {l : Launch} {x : CT} (ok : Ok g l x RX5 cX5_admit 3 (some FieldType.int) (rmL 2)) (iq0 : Nat) (vq1 : Int32) (vq2 : Int32) (hq0 : iq0 < 3) (M : Mem) : Sw g l x (FinQ g x eI) 3 0 0 0 [(0, .ref (gA g 15 iq0)), (1, .int vq1), (2, .int vq2)] [] M (fX5_admit iq0 vq1 vq2 M) := by
  unfold fX5_admit
  refine r_aload_n (pc := 0) ok 0 dX5_admit_0 rfl ?_
  refine r_getI (pc := 1) ok fi_15_7 hq0 fl_X5_45 dX5_admit_1 ?_
  refine r_bipush (pc := 4) ok 6 dX5_admit_4 (by decide) ?_
  refine r_icmp_lt (pc := 6) ok 12 dX5_admit_6 (by decide) (fun _ => ?_) (fun _ => ?_)
  · refine r_aload_n (pc := 12) ok 0 dX5_admit_12 rfl ?_
    refine r_getR (pc := 13) ok fr_15_3 hq0 fl_X5_17 dX5_admit_13 ?_
    refine r_iconst (pc := 16) ok 2 dX5_admit_16 (by decide) ?_
    refine r_aald (pc := 17) ok rk_17 hq0 rfl rfl dX5_admit_17 (fun hb1 => ?_)
    refine r_aload_n (pc := 18) ok 0 dX5_admit_18 rfl ?_
    refine r_getI (pc := 19) ok fi_15_7 hq0 fl_X5_45 dX5_admit_19 ?_
    refine r_iload_n (pc := 22) ok 1 dX5_admit_22 rfl ?_
    refine r_bipush (pc := 23) ok 10 dX5_admit_23 (by decide) ?_
    refine r_idivc (pc := 25) ok (by decide) dX5_admit_25 ?_
    refine r_iast (pc := 26) ok ik_18 (show _ < 12 from trow_lt hq0 hb1) dX5_admit_26 ?_
    refine r_nmM (fun M2 => ?_)
    refine r_aload_n (pc := 27) ok 0 dX5_admit_27 rfl ?_
    refine r_getR (pc := 28) ok fr_15_3 hq0 fl_X5_17 dX5_admit_28 ?_
    refine r_iconst (pc := 31) ok 3 dX5_admit_31 (by decide) ?_
    refine r_aald (pc := 32) ok rk_17 hq0 rfl rfl dX5_admit_32 (fun hb3 => ?_)
    refine r_aload_n (pc := 33) ok 0 dX5_admit_33 rfl ?_
    refine r_getI (pc := 34) ok fi_15_7 hq0 fl_X5_45 dX5_admit_34 ?_
    refine r_iload_n (pc := 37) ok 1 dX5_admit_37 rfl ?_
    refine r_bipush (pc := 38) ok 10 dX5_admit_38 (by decide) ?_
    refine r_iremc (pc := 40) ok (by decide) dX5_admit_40 ?_
    refine r_iast (pc := 41) ok ik_18 (show _ < 12 from trow_lt hq0 hb3) dX5_admit_41 ?_
    refine r_nmM (fun M4 => ?_)
    refine r_aload_n (pc := 42) ok 0 dX5_admit_42 rfl ?_
    refine r_getR (pc := 43) ok fr_15_3 hq0 fl_X5_17 dX5_admit_43 ?_
    refine r_iconst (pc := 46) ok 0 dX5_admit_46 (by decide) ?_
    refine r_aald (pc := 47) ok rk_17 hq0 rfl rfl dX5_admit_47 (fun hb5 => ?_)
    refine r_aload_n (pc := 48) ok 0 dX5_admit_48 rfl ?_
    refine r_getI (pc := 49) ok fi_15_7 hq0 fl_X5_45 dX5_admit_49 ?_
    refine r_iload_n (pc := 52) ok 2 dX5_admit_52 rfl ?_
    refine r_bipush (pc := 53) ok 100 dX5_admit_53 (by decide) ?_
    refine r_idivc (pc := 55) ok (by decide) dX5_admit_55 ?_
    refine r_iast (pc := 56) ok ik_18 (show _ < 12 from trow_lt hq0 hb5) dX5_admit_56 ?_
    refine r_nmM (fun M6 => ?_)
    refine r_aload_n (pc := 57) ok 0 dX5_admit_57 rfl ?_
    refine r_getR (pc := 58) ok fr_15_3 hq0 fl_X5_17 dX5_admit_58 ?_
    refine r_iconst (pc := 61) ok 1 dX5_admit_61 (by decide) ?_
    refine r_aald (pc := 62) ok rk_17 hq0 rfl rfl dX5_admit_62 (fun hb7 => ?_)
    refine r_aload_n (pc := 63) ok 0 dX5_admit_63 rfl ?_
    refine r_getI (pc := 64) ok fi_15_7 hq0 fl_X5_45 dX5_admit_64 ?_
    refine r_iload_n (pc := 67) ok 2 dX5_admit_67 rfl ?_
    refine r_bipush (pc := 68) ok 100 dX5_admit_68 (by decide) ?_
    refine r_iremc (pc := 70) ok (by decide) dX5_admit_70 ?_
    refine r_iast (pc := 71) ok ik_18 (show _ < 12 from trow_lt hq0 hb7) dX5_admit_71 ?_
    refine r_nmM (fun M8 => ?_)
    refine r_aload_n (pc := 72) ok 0 dX5_admit_72 rfl ?_
    refine r_dup (pc := 73) ok dX5_admit_73 rfl ?_
    refine r_getI (pc := 74) ok fi_15_7 hq0 fl_X5_45 dX5_admit_74 ?_
    refine r_iconst (pc := 77) ok 1 dX5_admit_77 (by decide) ?_
    refine r_iadd (pc := 78) ok dX5_admit_78 ?_
    refine r_putI (pc := 79) ok fi_15_7 hq0 fl_X5_45 fp_15_7 ⟨rfl, rfl⟩ dX5_admit_79 ?_
    refine r_nmM (fun M9 => ?_)
    refine r_aload_n (pc := 82) ok 0 dX5_admit_82 rfl ?_
    refine r_getI (pc := 83) ok fi_15_7 hq0 fl_X5_45 dX5_admit_83 ?_
    refine r_iconst (pc := 86) ok 1 dX5_admit_86 (by decide) ?_
    refine r_isub (pc := 87) ok dX5_admit_87 ?_
    exact r_iret (pc := 88) ok (Nat.zero_le _) (Nat.zero_le _) rfl dX5_admit_88
  · refine r_bipush (pc := 9) ok (-4) dX5_admit_9 (by decide) ?_
    exact r_iret (pc := 11) ok (Nat.zero_le _) (Nat.zero_le _) rfl dX5_admit_11
theorem con_X5_admit (g : GP) (l : Launch) (iq0 : Nat) (vq1 : Int32) (vq2 : Int32) (hq0 : iq0 < 3) (M : Mem) (r : Int32) (M2 : Mem) (h : fX5_admit iq0 vq1 vq2 M = some (r, M2)) : Con g l yX5_admit cX5_admit 3 (some FieldType.int) (rmL 2) [.ref (gA g 15 iq0), .int vq1, .int vq2] M (eI r) M2 :=
  Con.of (own := RX5) (f := fX5_admit iq0 vq1 vq2 M) (by decide) (Nat.le_of_ble_eq_true rfl) rfl (fun x ok => wX5_admit ok iq0 vq1 vq2 hq0 M) r M2 h
def fX5_dismiss_B14 (k4 : Int32 → Mem → Option (Unit × Mem)) (iq0 : Nat) (vq2 : Int32) (k14 : Int32 → Mem → Option (Unit × Mem)) (vq3 : Int32) (M : Mem) : Option (Unit × Mem) :=
  if 4 ≤ vq3 then
    (k4 (vq2 + 1) M)
  else
    (gd (inb vq3 4)
    (gd (inb vq3 4)
    (gd (inb vq2 6)
    (gd (inb (vq2 - 1) 6)
    (lt (mst M 18 (4 * iq0 + vq3.toNatClampNeg) (vq2 - 1).toNatClampNeg (M 18 (4 * iq0 + vq3.toNatClampNeg) vq2.toNatClampNeg)) fun M5 =>
    k14 (vq3 + 1) M5)))))
def fX5_dismiss_L14 (k4 : Int32 → Mem → Option (Unit × Mem)) (iq0 : Nat) (vq2 : Int32) : Nat → Int32 → Mem → Option (Unit × Mem)
  | 0, _, _ => none
  | n + 1, vq3, M => fX5_dismiss_B14 k4 iq0 vq2 (fX5_dismiss_L14 k4 iq0 vq2 n) vq3 M
set_option maxRecDepth 20000 in
theorem sX5_dismiss_B14 {g : GP} {l : Launch} {x : CT} {k4 : Int32 → Mem → Option (Unit × Mem)} (ok : Ok g l x RX5 cX5_dismiss 4 none (rmL 2)) (iq0 : Nat) (vq2 : Int32) (h0 : iq0 < 3) (hk4 : ∀ (vq2 : Int32) (M : Mem), Sw g l x (FinQ g x eV) 4 0 0 4 [(0, .ref (gA g 15 iq0)), (2, .int vq2)] [] M (k4 vq2 M)) (k14 : Int32 → Mem → Option (Unit × Mem)) (hk14 : ∀ (vq3 : Int32) (M : Mem), Sw g l x (FinQ g x eV) 4 0 0 14 [(0, .ref (gA g 15 iq0)), (2, .int vq2), (3, .int vq3)] [] M (k14 vq3 M)) (vq3 : Int32) (M : Mem) : Sw g l x (FinQ g x eV) 4 0 0 14 [(0, .ref (gA g 15 iq0)), (2, .int vq2), (3, .int vq3)] [] M (fX5_dismiss_B14 k4 iq0 vq2 k14 vq3 M) := by
  unfold fX5_dismiss_B14
  refine r_iload_n (pc := 14) ok 2 dX5_dismiss_14 rfl ?_
  refine r_iconst (pc := 15) ok 4 dX5_dismiss_15 (by decide) ?_
  refine r_icmp_ge (pc := 16) ok 43 dX5_dismiss_16 (by decide) (fun _ => ?_) (fun _ => ?_)
  · refine r_iinc (pc := 43) ok 1 (vq2 + 1) [(2, .int (vq2 + 1)), (0, .ref (gA g 15 iq0)), (3, .int vq3)] dX5_dismiss_43 rfl (congrArg (fun z => vq2 + z) (by decide : Int32.ofInt 1 = (1 : Int32))) (by decide) rfl ?_
    refine r_goto (pc := 46) ok 4 dX5_dismiss_46 (by decide) ?_
    refine r_lv [1, 0] [(0, .ref (gA g 15 iq0)), (2, .int (vq2 + 1))] rfl ?_
    exact hk4 (vq2 + 1) M
  · refine r_aload_n (pc := 19) ok 0 dX5_dismiss_19 rfl ?_
    refine r_getR (pc := 20) ok fr_15_3 h0 fl_X5_17 dX5_dismiss_20 ?_
    refine r_iload_n (pc := 23) ok 2 dX5_dismiss_23 rfl ?_
    refine r_aald (pc := 24) ok rk_17 h0 rfl rfl dX5_dismiss_24 (fun hb3 => ?_)
    refine r_iload_n (pc := 25) ok 1 dX5_dismiss_25 rfl ?_
    refine r_iconst (pc := 26) ok 1 dX5_dismiss_26 (by decide) ?_
    refine r_isub (pc := 27) ok dX5_dismiss_27 ?_
    refine r_aload_n (pc := 28) ok 0 dX5_dismiss_28 rfl ?_
    refine r_getR (pc := 29) ok fr_15_3 h0 fl_X5_17 dX5_dismiss_29 ?_
    refine r_iload_n (pc := 32) ok 2 dX5_dismiss_32 rfl ?_
    refine r_aald (pc := 33) ok rk_17 h0 rfl rfl dX5_dismiss_33 (fun hb4 => ?_)
    refine r_iload_n (pc := 34) ok 1 dX5_dismiss_34 rfl ?_
    refine r_iald (pc := 35) ok ik_18 (show _ < 12 from trow_lt h0 hb4) dX5_dismiss_35 (fun _ => ?_)
    refine r_iast (pc := 36) ok ik_18 (show _ < 12 from trow_lt h0 hb3) dX5_dismiss_36 ?_
    refine r_nmM (fun M5 => ?_)
    refine r_iinc (pc := 37) ok 2 (vq3 + 1) [(3, .int (vq3 + 1)), (0, .ref (gA g 15 iq0)), (2, .int vq2)] dX5_dismiss_37 rfl (congrArg (fun z => vq3 + z) (by decide : Int32.ofInt 1 = (1 : Int32))) (by decide) rfl ?_
    refine r_goto (pc := 40) ok 14 dX5_dismiss_40 (by decide) ?_
    refine r_lv [1, 2, 0] [(0, .ref (gA g 15 iq0)), (2, .int vq2), (3, .int (vq3 + 1))] rfl ?_
    exact hk14 (vq3 + 1) M5
theorem sX5_dismiss_L14 {g : GP} {l : Launch} {x : CT} {k4 : Int32 → Mem → Option (Unit × Mem)} (ok : Ok g l x RX5 cX5_dismiss 4 none (rmL 2)) (iq0 : Nat) (vq2 : Int32) (h0 : iq0 < 3) (hk4 : ∀ (vq2 : Int32) (M : Mem), Sw g l x (FinQ g x eV) 4 0 0 4 [(0, .ref (gA g 15 iq0)), (2, .int vq2)] [] M (k4 vq2 M)) : ∀ (n : Nat) (vq3 : Int32) (M : Mem), Sw g l x (FinQ g x eV) 4 0 0 14 [(0, .ref (gA g 15 iq0)), (2, .int vq2), (3, .int vq3)] [] M (fX5_dismiss_L14 k4 iq0 vq2 n vq3 M) := by
  intro n
  induction n with
  | zero => intros; exact r_none
  | succ n ih => intro vq3 M; exact sX5_dismiss_B14 ok iq0 vq2 h0 hk4 _ ih vq3 M
def fX5_dismiss_B4 (iq0 : Nat) (k4 : Int32 → Mem → Option (Unit × Mem)) (vq2 : Int32) (M : Mem) : Option (Unit × Mem) :=
  if (M 15 iq0 7) ≤ vq2 then
    (lt (mst M 15 iq0 7 ((M 15 iq0 7) - 1)) fun M2 =>
    some ((), M2))
  else
    (fX5_dismiss_L14 k4 iq0 vq2 FU 0 M)
def fX5_dismiss_L4 (iq0 : Nat) : Nat → Int32 → Mem → Option (Unit × Mem)
  | 0, _, _ => none
  | n + 1, vq2, M => fX5_dismiss_B4 iq0 (fX5_dismiss_L4 iq0 n) vq2 M
set_option maxRecDepth 20000 in
theorem sX5_dismiss_B4 {g : GP} {l : Launch} {x : CT} (ok : Ok g l x RX5 cX5_dismiss 4 none (rmL 2)) (iq0 : Nat) (h0 : iq0 < 3) (k4 : Int32 → Mem → Option (Unit × Mem)) (hk4 : ∀ (vq2 : Int32) (M : Mem), Sw g l x (FinQ g x eV) 4 0 0 4 [(0, .ref (gA g 15 iq0)), (2, .int vq2)] [] M (k4 vq2 M)) (vq2 : Int32) (M : Mem) : Sw g l x (FinQ g x eV) 4 0 0 4 [(0, .ref (gA g 15 iq0)), (2, .int vq2)] [] M (fX5_dismiss_B4 iq0 k4 vq2 M) := by
  unfold fX5_dismiss_B4
  refine r_iload_n (pc := 4) ok 1 dX5_dismiss_4 rfl ?_
  refine r_aload_n (pc := 5) ok 0 dX5_dismiss_5 rfl ?_
  refine r_getI (pc := 6) ok fi_15_7 h0 fl_X5_45 dX5_dismiss_6 ?_
  refine r_icmp_ge (pc := 9) ok 49 dX5_dismiss_9 (by decide) (fun _ => ?_) (fun _ => ?_)
  · refine r_aload_n (pc := 49) ok 0 dX5_dismiss_49 rfl ?_
    refine r_dup (pc := 50) ok dX5_dismiss_50 rfl ?_
    refine r_getI (pc := 51) ok fi_15_7 h0 fl_X5_45 dX5_dismiss_51 ?_
    refine r_iconst (pc := 54) ok 1 dX5_dismiss_54 (by decide) ?_
    refine r_isub (pc := 55) ok dX5_dismiss_55 ?_
    refine r_putI (pc := 56) ok fi_15_7 h0 fl_X5_45 fp_15_7 ⟨rfl, rfl⟩ dX5_dismiss_56 ?_
    refine r_nmM (fun M2 => ?_)
    exact r_vret (pc := 59) ok (Nat.zero_le _) (Nat.zero_le _) rfl dX5_dismiss_59
  · refine r_iconst (pc := 12) ok 0 dX5_dismiss_12 (by decide) ?_
    refine r_istore_n (pc := 13) ok [(3, .int 0), (0, .ref (gA g 15 iq0)), (2, .int vq2)] dX5_dismiss_13 rfl (by decide) rfl ?_
    refine r_lv [1, 2, 0] [(0, .ref (gA g 15 iq0)), (2, .int vq2), (3, .int 0)] rfl ?_
    exact sX5_dismiss_L14 ok iq0 vq2 h0 hk4 FU 0 M
theorem sX5_dismiss_L4 {g : GP} {l : Launch} {x : CT} (ok : Ok g l x RX5 cX5_dismiss 4 none (rmL 2)) (iq0 : Nat) (h0 : iq0 < 3) : ∀ (n : Nat) (vq2 : Int32) (M : Mem), Sw g l x (FinQ g x eV) 4 0 0 4 [(0, .ref (gA g 15 iq0)), (2, .int vq2)] [] M (fX5_dismiss_L4 iq0 n vq2 M) := by
  intro n
  induction n with
  | zero => intros; exact r_none
  | succ n ih => intro vq2 M; exact sX5_dismiss_B4 ok iq0 h0 _ ih vq2 M
def fX5_dismiss (iq0 : Nat) (vq1 : Int32) (M : Mem) : Option (Unit × Mem) :=
  lt (vq1 + 1) fun w1 =>
  fX5_dismiss_L4 iq0 FU w1 M
set_option maxRecDepth 20000 in
theorem wX5_dismiss {g : GP} {l : Launch} {x : CT} (ok : Ok g l x RX5 cX5_dismiss 4 none (rmL 2)) (iq0 : Nat) (vq1 : Int32) (hq0 : iq0 < 3) (M : Mem) : Sw g l x (FinQ g x eV) 4 0 0 0 [(0, .ref (gA g 15 iq0)), (1, .int vq1)] [] M (fX5_dismiss iq0 vq1 M) := by
  unfold fX5_dismiss
  refine r_iload_n (pc := 0) ok 1 dX5_dismiss_0 rfl ?_
  refine r_iconst (pc := 1) ok 1 dX5_dismiss_1 (by decide) ?_
  refine r_iadd (pc := 2) ok dX5_dismiss_2 ?_
  refine r_nmi (fun w1 => ?_)
  refine r_istore_n (pc := 3) ok [(2, .int w1), (0, .ref (gA g 15 iq0)), (1, .int vq1)] dX5_dismiss_3 rfl (by decide) rfl ?_
  refine r_lv [1, 0] [(0, .ref (gA g 15 iq0)), (2, .int w1)] rfl ?_
  exact sX5_dismiss_L4 ok iq0 hq0 FU w1 M
theorem con_X5_dismiss (g : GP) (l : Launch) (iq0 : Nat) (vq1 : Int32) (hq0 : iq0 < 3) (M : Mem) (r : Unit) (M2 : Mem) (h : fX5_dismiss iq0 vq1 M = some (r, M2)) : Con g l yX5_dismiss cX5_dismiss 4 none (rmL 2) [.ref (gA g 15 iq0), .int vq1] M (eV r) M2 :=
  Con.of (own := RX5) (f := fX5_dismiss iq0 vq1 M) (by decide) (Nat.le_of_ble_eq_true rfl) rfl (fun x ok => wX5_dismiss ok iq0 vq1 hq0 M) r M2 h
def fX5_total_B5 (iq0 : Nat) (vq2 : Int32) (k5 : Int32 → Int32 → Mem → Option (Int32 × Mem)) (vq3 : Int32) (vq4 : Int32) (M : Mem) : Option (Int32 × Mem) :=
  if vq2 ≤ vq4 then
    (some (vq3, M))
  else
    (gd (inb vq4 36)
    (lt (vq3 + (M 16 iq0 vq4.toNatClampNeg)) fun w1 =>
    k5 w1 (vq4 + 1) M))
def fX5_total_L5 (iq0 : Nat) (vq2 : Int32) : Nat → Int32 → Int32 → Mem → Option (Int32 × Mem)
  | 0, _, _, _ => none
  | n + 1, vq3, vq4, M => fX5_total_B5 iq0 vq2 (fX5_total_L5 iq0 vq2 n) vq3 vq4 M
set_option maxRecDepth 20000 in
theorem sX5_total_B5 {g : GP} {l : Launch} {x : CT} (ok : Ok g l x RX5 cX5_total 5 (some FieldType.int) (rmL 2)) (iq0 : Nat) (vq2 : Int32) (h0 : iq0 < 3) (k5 : Int32 → Int32 → Mem → Option (Int32 × Mem)) (hk5 : ∀ (vq3 : Int32) (vq4 : Int32) (M : Mem), Sw g l x (FinQ g x eI) 5 0 0 5 [(0, .ref (gA g 15 iq0)), (2, .int vq2), (3, .int vq3), (4, .int vq4)] [] M (k5 vq3 vq4 M)) (vq3 : Int32) (vq4 : Int32) (M : Mem) : Sw g l x (FinQ g x eI) 5 0 0 5 [(0, .ref (gA g 15 iq0)), (2, .int vq2), (3, .int vq3), (4, .int vq4)] [] M (fX5_total_B5 iq0 vq2 k5 vq3 vq4 M) := by
  unfold fX5_total_B5
  refine r_iload (pc := 5) ok 3 dX5_total_5 rfl ?_
  refine r_iload_n (pc := 7) ok 1 dX5_total_7 rfl ?_
  refine r_icmp_ge (pc := 8) ok 27 dX5_total_8 (by decide) (fun _ => ?_) (fun _ => ?_)
  · refine r_iload_n (pc := 27) ok 2 dX5_total_27 rfl ?_
    exact r_iret (pc := 28) ok (Nat.zero_le _) (Nat.zero_le _) rfl dX5_total_28
  · refine r_iload_n (pc := 11) ok 2 dX5_total_11 rfl ?_
    refine r_aload_n (pc := 12) ok 0 dX5_total_12 rfl ?_
    refine r_getR (pc := 13) ok fr_15_2 h0 fl_X5_9 dX5_total_13 ?_
    refine r_iload (pc := 16) ok 3 dX5_total_16 rfl ?_
    refine r_iald (pc := 18) ok ik_16 h0 dX5_total_18 (fun _ => ?_)
    refine r_iadd (pc := 19) ok dX5_total_19 ?_
    refine r_nmi (fun w1 => ?_)
    refine r_istore_n (pc := 20) ok [(3, .int w1), (0, .ref (gA g 15 iq0)), (2, .int vq2), (4, .int vq4)] dX5_total_20 rfl (by decide) rfl ?_
    refine r_iinc (pc := 21) ok 3 (vq4 + 1) [(4, .int (vq4 + 1)), (3, .int w1), (0, .ref (gA g 15 iq0)), (2, .int vq2)] dX5_total_21 rfl (congrArg (fun z => vq4 + z) (by decide : Int32.ofInt 1 = (1 : Int32))) (by decide) rfl ?_
    refine r_goto (pc := 24) ok 5 dX5_total_24 (by decide) ?_
    refine r_lv [2, 3, 1, 0] [(0, .ref (gA g 15 iq0)), (2, .int vq2), (3, .int w1), (4, .int (vq4 + 1))] rfl ?_
    exact hk5 w1 (vq4 + 1) M
theorem sX5_total_L5 {g : GP} {l : Launch} {x : CT} (ok : Ok g l x RX5 cX5_total 5 (some FieldType.int) (rmL 2)) (iq0 : Nat) (vq2 : Int32) (h0 : iq0 < 3) : ∀ (n : Nat) (vq3 : Int32) (vq4 : Int32) (M : Mem), Sw g l x (FinQ g x eI) 5 0 0 5 [(0, .ref (gA g 15 iq0)), (2, .int vq2), (3, .int vq3), (4, .int vq4)] [] M (fX5_total_L5 iq0 vq2 n vq3 vq4 M) := by
  intro n
  induction n with
  | zero => intros; exact r_none
  | succ n ih => intro vq3 vq4 M; exact sX5_total_B5 ok iq0 vq2 h0 _ ih vq3 vq4 M
def fX5_total (iq0 : Nat) (vq1 : Int32) (vq2 : Int32) (M : Mem) : Option (Int32 × Mem) :=
  fX5_total_L5 iq0 vq2 FU 0 vq1 M
set_option maxRecDepth 20000 in
theorem wX5_total {g : GP} {l : Launch} {x : CT} (ok : Ok g l x RX5 cX5_total 5 (some FieldType.int) (rmL 2)) (iq0 : Nat) (vq1 : Int32) (vq2 : Int32) (hq0 : iq0 < 3) (M : Mem) : Sw g l x (FinQ g x eI) 5 0 0 0 [(0, .ref (gA g 15 iq0)), (1, .int vq1), (2, .int vq2)] [] M (fX5_total iq0 vq1 vq2 M) := by
  unfold fX5_total
  refine r_iconst (pc := 0) ok 0 dX5_total_0 (by decide) ?_
  refine r_istore_n (pc := 1) ok [(3, .int 0), (0, .ref (gA g 15 iq0)), (1, .int vq1), (2, .int vq2)] dX5_total_1 rfl (by decide) rfl ?_
  refine r_iload_n (pc := 2) ok 2 dX5_total_2 rfl ?_
  refine r_istore (pc := 3) ok [(4, .int vq1), (3, .int 0), (0, .ref (gA g 15 iq0)), (1, .int vq1), (2, .int vq2)] dX5_total_3 (by decide) rfl ?_
  refine r_lv [2, 4, 1, 0] [(0, .ref (gA g 15 iq0)), (2, .int vq2), (3, .int 0), (4, .int vq1)] rfl ?_
  exact sX5_total_L5 ok iq0 vq2 hq0 FU 0 vq1 M
theorem con_X5_total (g : GP) (l : Launch) (iq0 : Nat) (vq1 : Int32) (vq2 : Int32) (hq0 : iq0 < 3) (M : Mem) (r : Int32) (M2 : Mem) (h : fX5_total iq0 vq1 vq2 M = some (r, M2)) : Con g l yX5_total cX5_total 5 (some FieldType.int) (rmL 2) [.ref (gA g 15 iq0), .int vq1, .int vq2] M (eI r) M2 :=
  Con.of (own := RX5) (f := fX5_total iq0 vq1 vq2 M) (by decide) (Nat.le_of_ble_eq_true rfl) rfl (fun x ok => wX5_total ok iq0 vq1 vq2 hq0 M) r M2 h
def fX5_totalOf_B5 (iq0 : Nat) (vq1 : Int64) (k5 : Int32 → Int32 → Mem → Option (Int32 × Mem)) (vq3 : Int32) (vq4 : Int32) (M : Mem) : Option (Int32 × Mem) :=
  if 36 ≤ vq4 then
    (some (vq3, M))
  else
    (if (lg_cmp (lrem (lushr vq1 vq4) 2) 1) = 0 then
      (gd (inb vq4 36)
      (lt (vq3 + (M 16 iq0 vq4.toNatClampNeg)) fun w2 =>
      k5 w2 (vq4 + 1) M))
    else
      (lt (vq3 + 0) fun w1 =>
      k5 w1 (vq4 + 1) M))
def fX5_totalOf_L5 (iq0 : Nat) (vq1 : Int64) : Nat → Int32 → Int32 → Mem → Option (Int32 × Mem)
  | 0, _, _, _ => none
  | n + 1, vq3, vq4, M => fX5_totalOf_B5 iq0 vq1 (fX5_totalOf_L5 iq0 vq1 n) vq3 vq4 M
set_option maxRecDepth 20000 in
theorem sX5_totalOf_B5 {g : GP} {l : Launch} {x : CT} (ok : Ok g l x RX5 cX5_totalOf 5 (some FieldType.int) (rmL 2)) (iq0 : Nat) (vq1 : Int64) (h0 : iq0 < 3) (k5 : Int32 → Int32 → Mem → Option (Int32 × Mem)) (hk5 : ∀ (vq3 : Int32) (vq4 : Int32) (M : Mem), Sw g l x (FinQ g x eI) 5 0 0 5 [(0, .ref (gA g 15 iq0)), (1, .long vq1), (3, .int vq3), (4, .int vq4)] [] M (k5 vq3 vq4 M)) (vq3 : Int32) (vq4 : Int32) (M : Mem) : Sw g l x (FinQ g x eI) 5 0 0 5 [(0, .ref (gA g 15 iq0)), (1, .long vq1), (3, .int vq3), (4, .int vq4)] [] M (fX5_totalOf_B5 iq0 vq1 k5 vq3 vq4 M) := by
  unfold fX5_totalOf_B5
  refine r_iload (pc := 5) ok 3 dX5_totalOf_5 rfl ?_
  refine r_bipush (pc := 7) ok 36 dX5_totalOf_7 (by decide) ?_
  refine r_icmp_ge (pc := 9) ok 45 dX5_totalOf_9 (by decide) (fun _ => ?_) (fun _ => ?_)
  · refine r_iload_n (pc := 45) ok 2 dX5_totalOf_45 rfl ?_
    exact r_iret (pc := 46) ok (Nat.zero_le _) (Nat.zero_le _) rfl dX5_totalOf_46
  · refine r_iload_n (pc := 12) ok 2 dX5_totalOf_12 rfl ?_
    refine r_lload_n (pc := 13) ok 1 dX5_totalOf_13 rfl ?_
    refine r_iload (pc := 14) ok 3 dX5_totalOf_14 rfl ?_
    refine r_lushr (pc := 16) ok dX5_totalOf_16 ?_
    refine r_ldc2 (pc := 17) ok wcl_X5_59 dX5_totalOf_17 ?_
    refine r_lremc (pc := 20) ok (by decide) dX5_totalOf_20 ?_
    refine r_lconst (pc := 21) ok 1 dX5_totalOf_21 (by decide) ?_
    refine r_lcmp (pc := 22) ok dX5_totalOf_22 ?_
    refine r_if_ne (pc := 23) ok 36 dX5_totalOf_23 (by decide) (fun _ => ?_) (fun _ => ?_)
    · refine r_aload_n (pc := 26) ok 0 dX5_totalOf_26 rfl ?_
      refine r_getR (pc := 27) ok fr_15_2 h0 fl_X5_9 dX5_totalOf_27 ?_
      refine r_iload (pc := 30) ok 3 dX5_totalOf_30 rfl ?_
      refine r_iald (pc := 32) ok ik_16 h0 dX5_totalOf_32 (fun _ => ?_)
      refine r_goto (pc := 33) ok 37 dX5_totalOf_33 (by decide) ?_
      refine r_iadd (pc := 37) ok dX5_totalOf_37 ?_
      refine r_nmi (fun w2 => ?_)
      refine r_istore_n (pc := 38) ok [(3, .int w2), (0, .ref (gA g 15 iq0)), (1, .long vq1), (4, .int vq4)] dX5_totalOf_38 rfl (by decide) rfl ?_
      refine r_iinc (pc := 39) ok 3 (vq4 + 1) [(4, .int (vq4 + 1)), (3, .int w2), (0, .ref (gA g 15 iq0)), (1, .long vq1)] dX5_totalOf_39 rfl (congrArg (fun z => vq4 + z) (by decide : Int32.ofInt 1 = (1 : Int32))) (by decide) rfl ?_
      refine r_goto (pc := 42) ok 5 dX5_totalOf_42 (by decide) ?_
      refine r_lv [2, 3, 1, 0] [(0, .ref (gA g 15 iq0)), (1, .long vq1), (3, .int w2), (4, .int (vq4 + 1))] rfl ?_
      exact hk5 w2 (vq4 + 1) M
    · refine r_iconst (pc := 36) ok 0 dX5_totalOf_36 (by decide) ?_
      refine r_iadd (pc := 37) ok dX5_totalOf_37 ?_
      refine r_nmi (fun w1 => ?_)
      refine r_istore_n (pc := 38) ok [(3, .int w1), (0, .ref (gA g 15 iq0)), (1, .long vq1), (4, .int vq4)] dX5_totalOf_38 rfl (by decide) rfl ?_
      refine r_iinc (pc := 39) ok 3 (vq4 + 1) [(4, .int (vq4 + 1)), (3, .int w1), (0, .ref (gA g 15 iq0)), (1, .long vq1)] dX5_totalOf_39 rfl (congrArg (fun z => vq4 + z) (by decide : Int32.ofInt 1 = (1 : Int32))) (by decide) rfl ?_
      refine r_goto (pc := 42) ok 5 dX5_totalOf_42 (by decide) ?_
      refine r_lv [2, 3, 1, 0] [(0, .ref (gA g 15 iq0)), (1, .long vq1), (3, .int w1), (4, .int (vq4 + 1))] rfl ?_
      exact hk5 w1 (vq4 + 1) M
theorem sX5_totalOf_L5 {g : GP} {l : Launch} {x : CT} (ok : Ok g l x RX5 cX5_totalOf 5 (some FieldType.int) (rmL 2)) (iq0 : Nat) (vq1 : Int64) (h0 : iq0 < 3) : ∀ (n : Nat) (vq3 : Int32) (vq4 : Int32) (M : Mem), Sw g l x (FinQ g x eI) 5 0 0 5 [(0, .ref (gA g 15 iq0)), (1, .long vq1), (3, .int vq3), (4, .int vq4)] [] M (fX5_totalOf_L5 iq0 vq1 n vq3 vq4 M) := by
  intro n
  induction n with
  | zero => intros; exact r_none
  | succ n ih => intro vq3 vq4 M; exact sX5_totalOf_B5 ok iq0 vq1 h0 _ ih vq3 vq4 M
def fX5_totalOf (iq0 : Nat) (vq1 : Int64) (M : Mem) : Option (Int32 × Mem) :=
  fX5_totalOf_L5 iq0 vq1 FU 0 0 M
set_option maxRecDepth 20000 in
theorem wX5_totalOf {g : GP} {l : Launch} {x : CT} (ok : Ok g l x RX5 cX5_totalOf 5 (some FieldType.int) (rmL 2)) (iq0 : Nat) (vq1 : Int64) (hq0 : iq0 < 3) (M : Mem) : Sw g l x (FinQ g x eI) 5 0 0 0 [(0, .ref (gA g 15 iq0)), (1, .long vq1)] [] M (fX5_totalOf iq0 vq1 M) := by
  unfold fX5_totalOf
  refine r_iconst (pc := 0) ok 0 dX5_totalOf_0 (by decide) ?_
  refine r_istore_n (pc := 1) ok [(3, .int 0), (0, .ref (gA g 15 iq0)), (1, .long vq1)] dX5_totalOf_1 rfl (by decide) rfl ?_
  refine r_iconst (pc := 2) ok 0 dX5_totalOf_2 (by decide) ?_
  refine r_istore (pc := 3) ok [(4, .int 0), (3, .int 0), (0, .ref (gA g 15 iq0)), (1, .long vq1)] dX5_totalOf_3 (by decide) rfl ?_
  refine r_lv [2, 3, 1, 0] [(0, .ref (gA g 15 iq0)), (1, .long vq1), (3, .int 0), (4, .int 0)] rfl ?_
  exact sX5_totalOf_L5 ok iq0 vq1 hq0 FU 0 0 M
theorem con_X5_totalOf (g : GP) (l : Launch) (iq0 : Nat) (vq1 : Int64) (hq0 : iq0 < 3) (M : Mem) (r : Int32) (M2 : Mem) (h : fX5_totalOf iq0 vq1 M = some (r, M2)) : Con g l yX5_totalOf cX5_totalOf 5 (some FieldType.int) (rmL 2) [.ref (gA g 15 iq0), .long vq1] M (eI r) M2 :=
  Con.of (own := RX5) (f := fX5_totalOf iq0 vq1 M) (by decide) (Nat.le_of_ble_eq_true rfl) rfl (fun x ok => wX5_totalOf ok iq0 vq1 hq0 M) r M2 h
def fX5_kindOf (iq0 : Nat) (vq1 : Int32) (M : Mem) : Option (Nat × Mem) :=
  gd (inb 2 4)
  (gd (inb vq1 6)
  (gd (inb (M 18 (4 * iq0 + (2 : Int32).toNatClampNeg) vq1.toNatClampNeg) 6)
  (some ((M 18 (4 * iq0 + (2 : Int32).toNatClampNeg) vq1.toNatClampNeg).toNatClampNeg, M))))
set_option maxRecDepth 20000 in
theorem wX5_kindOf {g : GP} {l : Launch} {x : CT} (ok : Ok g l x RX5 cX5_kindOf 2 (some (FieldType.object "UnderlayOfUnspoken$Person")) (rmL 2)) (iq0 : Nat) (vq1 : Int32) (hq0 : iq0 < 3) (M : Mem) : Sw g l x (FinQ g x (eP g)) 2 0 0 0 [(0, .ref (gA g 15 iq0)), (1, .int vq1)] [] M (fX5_kindOf iq0 vq1 M) := by
  unfold fX5_kindOf
  refine r_aload_n (pc := 0) ok 0 dX5_kindOf_0 rfl ?_
  refine r_getR (pc := 1) ok fr_15_1 hq0 fl_X5_35 dX5_kindOf_1 ?_
  refine r_aload_n (pc := 4) ok 0 dX5_kindOf_4 rfl ?_
  refine r_getR (pc := 5) ok fr_15_3 hq0 fl_X5_17 dX5_kindOf_5 ?_
  refine r_iconst (pc := 8) ok 2 dX5_kindOf_8 (by decide) ?_
  refine r_aald (pc := 9) ok rk_17 hq0 rfl rfl dX5_kindOf_9 (fun hb1 => ?_)
  refine r_iload_n (pc := 10) ok 1 dX5_kindOf_10 rfl ?_
  refine r_iald (pc := 11) ok ik_18 (show _ < 12 from trow_lt hq0 hb1) dX5_kindOf_11 (fun _ => ?_)
  refine r_aald (pc := 12) ok rk_6 (by decide) rfl rfl dX5_kindOf_12 (fun hb2 => ?_)
  exact r_aret (pc := 13) ok (Nat.zero_le _) (Nat.zero_le _) rfl dX5_kindOf_13
theorem con_X5_kindOf (g : GP) (l : Launch) (iq0 : Nat) (vq1 : Int32) (hq0 : iq0 < 3) (M : Mem) (r : Nat) (M2 : Mem) (h : fX5_kindOf iq0 vq1 M = some (r, M2)) : Con g l yX5_kindOf cX5_kindOf 2 (some (FieldType.object "UnderlayOfUnspoken$Person")) (rmL 2) [.ref (gA g 15 iq0), .int vq1] M ((eP g) r) M2 :=
  Con.of (own := RX5) (f := fX5_kindOf iq0 vq1 M) (by decide) (Nat.le_of_ble_eq_true rfl) rfl (fun x ok => wX5_kindOf ok iq0 vq1 hq0 M) r M2 h
def fX5_thicken (iq0 : Nat) (vq1 : Int32) (vq2 : Int32) (M : Mem) : Option (Unit × Mem) :=
  gd (inb vq1 36)
  (gd (inb vq1 36)
  (lt (mst M 16 iq0 vq1.toNatClampNeg (mmax 0 (mmin 999 ((M 16 iq0 vq1.toNatClampNeg) + vq2)))) fun M1 =>
  some ((), M1)))
set_option maxRecDepth 20000 in
theorem wX5_thicken {g : GP} {l : Launch} {x : CT} (ok : Ok g l x RX5 cX5_thicken 3 none (rmL 2)) (iq0 : Nat) (vq1 : Int32) (vq2 : Int32) (hq0 : iq0 < 3) (M : Mem) : Sw g l x (FinQ g x eV) 3 0 0 0 [(0, .ref (gA g 15 iq0)), (1, .int vq1), (2, .int vq2)] [] M (fX5_thicken iq0 vq1 vq2 M) := by
  unfold fX5_thicken
  refine r_aload_n (pc := 0) ok 0 dX5_thicken_0 rfl ?_
  refine r_getR (pc := 1) ok fr_15_2 hq0 fl_X5_9 dX5_thicken_1 ?_
  refine r_iload_n (pc := 4) ok 1 dX5_thicken_4 rfl ?_
  refine r_iconst (pc := 5) ok 0 dX5_thicken_5 (by decide) ?_
  refine r_sipush (pc := 6) ok 999 dX5_thicken_6 (by decide) ?_
  refine r_aload_n (pc := 9) ok 0 dX5_thicken_9 rfl ?_
  refine r_getR (pc := 10) ok fr_15_2 hq0 fl_X5_9 dX5_thicken_10 ?_
  refine r_iload_n (pc := 13) ok 1 dX5_thicken_13 rfl ?_
  refine r_iald (pc := 14) ok ik_16 hq0 dX5_thicken_14 (fun _ => ?_)
  refine r_iload_n (pc := 15) ok 2 dX5_thicken_15 rfl ?_
  refine r_iadd (pc := 16) ok dX5_thicken_16 ?_
  refine r_mmin (pc := 17) ok wml_X5_84 wst_mmin win_Math wcd_mmin (rmM (by decide)) (Nat.le_of_ble_eq_true rfl) dX5_thicken_17 ?_
  refine r_mmax (pc := 20) ok wml_X5_112 wst_mmax win_Math wcd_mmax (rmM (by decide)) (Nat.le_of_ble_eq_true rfl) dX5_thicken_20 ?_
  refine r_iast (pc := 23) ok ik_16 hq0 dX5_thicken_23 ?_
  refine r_nmM (fun M1 => ?_)
  exact r_vret (pc := 24) ok (Nat.zero_le _) (Nat.zero_le _) rfl dX5_thicken_24
theorem con_X5_thicken (g : GP) (l : Launch) (iq0 : Nat) (vq1 : Int32) (vq2 : Int32) (hq0 : iq0 < 3) (M : Mem) (r : Unit) (M2 : Mem) (h : fX5_thicken iq0 vq1 vq2 M = some (r, M2)) : Con g l yX5_thicken cX5_thicken 3 none (rmL 2) [.ref (gA g 15 iq0), .int vq1, .int vq2] M (eV r) M2 :=
  Con.of (own := RX5) (f := fX5_thicken iq0 vq1 vq2 M) (by decide) (Nat.le_of_ble_eq_true rfl) rfl (fun x ok => wX5_thicken ok iq0 vq1 vq2 hq0 M) r M2 h
def fX5_thickBy_B5 (iq0 : Nat) (vq1 : Int32) (k5 : Int64 → Int32 → Mem → Option (Int64 × Mem)) (vq2 : Int64) (vq4 : Int32) (M : Mem) : Option (Int64 × Mem) :=
  if 36 ≤ vq4 then
    (some (vq2, M))
  else
    (gd (inb vq4 36)
    (if (M 16 iq0 vq4.toNatClampNeg) < vq1 then
      (k5 vq2 (vq4 + 1) M)
    else
      (lt (vq2 ||| (lshl 1 vq4)) fun w1 =>
      k5 w1 (vq4 + 1) M)))
def fX5_thickBy_L5 (iq0 : Nat) (vq1 : Int32) : Nat → Int64 → Int32 → Mem → Option (Int64 × Mem)
  | 0, _, _, _ => none
  | n + 1, vq2, vq4, M => fX5_thickBy_B5 iq0 vq1 (fX5_thickBy_L5 iq0 vq1 n) vq2 vq4 M
set_option maxRecDepth 20000 in
theorem sX5_thickBy_B5 {g : GP} {l : Launch} {x : CT} (ok : Ok g l x RX5 cX5_thickBy 5 (some FieldType.long) (rmL 2)) (iq0 : Nat) (vq1 : Int32) (h0 : iq0 < 3) (k5 : Int64 → Int32 → Mem → Option (Int64 × Mem)) (hk5 : ∀ (vq2 : Int64) (vq4 : Int32) (M : Mem), Sw g l x (FinQ g x eJ) 5 0 0 5 [(0, .ref (gA g 15 iq0)), (1, .int vq1), (2, .long vq2), (4, .int vq4)] [] M (k5 vq2 vq4 M)) (vq2 : Int64) (vq4 : Int32) (M : Mem) : Sw g l x (FinQ g x eJ) 5 0 0 5 [(0, .ref (gA g 15 iq0)), (1, .int vq1), (2, .long vq2), (4, .int vq4)] [] M (fX5_thickBy_B5 iq0 vq1 k5 vq2 vq4 M) := by
  unfold fX5_thickBy_B5
  refine r_iload (pc := 5) ok 3 dX5_thickBy_5 rfl ?_
  refine r_bipush (pc := 7) ok 36 dX5_thickBy_7 (by decide) ?_
  refine r_icmp_ge (pc := 9) ok 36 dX5_thickBy_9 (by decide) (fun _ => ?_) (fun _ => ?_)
  · refine r_lload_n (pc := 36) ok 2 dX5_thickBy_36 rfl ?_
    exact r_lret (pc := 37) ok (Nat.zero_le _) (Nat.zero_le _) rfl dX5_thickBy_37
  · refine r_aload_n (pc := 12) ok 0 dX5_thickBy_12 rfl ?_
    refine r_getR (pc := 13) ok fr_15_2 h0 fl_X5_9 dX5_thickBy_13 ?_
    refine r_iload (pc := 16) ok 3 dX5_thickBy_16 rfl ?_
    refine r_iald (pc := 18) ok ik_16 h0 dX5_thickBy_18 (fun _ => ?_)
    refine r_iload_n (pc := 19) ok 1 dX5_thickBy_19 rfl ?_
    refine r_icmp_lt (pc := 20) ok 30 dX5_thickBy_20 (by decide) (fun _ => ?_) (fun _ => ?_)
    · refine r_iinc (pc := 30) ok 3 (vq4 + 1) [(4, .int (vq4 + 1)), (0, .ref (gA g 15 iq0)), (1, .int vq1), (2, .long vq2)] dX5_thickBy_30 rfl (congrArg (fun z => vq4 + z) (by decide : Int32.ofInt 1 = (1 : Int32))) (by decide) rfl ?_
      refine r_goto (pc := 33) ok 5 dX5_thickBy_33 (by decide) ?_
      refine r_lv [1, 2, 3, 0] [(0, .ref (gA g 15 iq0)), (1, .int vq1), (2, .long vq2), (4, .int (vq4 + 1))] rfl ?_
      exact hk5 vq2 (vq4 + 1) M
    · refine r_lload_n (pc := 23) ok 2 dX5_thickBy_23 rfl ?_
      refine r_lconst (pc := 24) ok 1 dX5_thickBy_24 (by decide) ?_
      refine r_iload (pc := 25) ok 3 dX5_thickBy_25 rfl ?_
      refine r_lshl (pc := 27) ok dX5_thickBy_27 ?_
      refine r_lor (pc := 28) ok dX5_thickBy_28 ?_
      refine r_nml (fun w1 => ?_)
      refine r_lstore_n (pc := 29) ok [(2, .long w1), (0, .ref (gA g 15 iq0)), (1, .int vq1), (4, .int vq4)] dX5_thickBy_29 rfl (by decide) rfl ?_
      refine r_iinc (pc := 30) ok 3 (vq4 + 1) [(4, .int (vq4 + 1)), (2, .long w1), (0, .ref (gA g 15 iq0)), (1, .int vq1)] dX5_thickBy_30 rfl (congrArg (fun z => vq4 + z) (by decide : Int32.ofInt 1 = (1 : Int32))) (by decide) rfl ?_
      refine r_goto (pc := 33) ok 5 dX5_thickBy_33 (by decide) ?_
      refine r_lv [2, 3, 1, 0] [(0, .ref (gA g 15 iq0)), (1, .int vq1), (2, .long w1), (4, .int (vq4 + 1))] rfl ?_
      exact hk5 w1 (vq4 + 1) M
theorem sX5_thickBy_L5 {g : GP} {l : Launch} {x : CT} (ok : Ok g l x RX5 cX5_thickBy 5 (some FieldType.long) (rmL 2)) (iq0 : Nat) (vq1 : Int32) (h0 : iq0 < 3) : ∀ (n : Nat) (vq2 : Int64) (vq4 : Int32) (M : Mem), Sw g l x (FinQ g x eJ) 5 0 0 5 [(0, .ref (gA g 15 iq0)), (1, .int vq1), (2, .long vq2), (4, .int vq4)] [] M (fX5_thickBy_L5 iq0 vq1 n vq2 vq4 M) := by
  intro n
  induction n with
  | zero => intros; exact r_none
  | succ n ih => intro vq2 vq4 M; exact sX5_thickBy_B5 ok iq0 vq1 h0 _ ih vq2 vq4 M
def fX5_thickBy (iq0 : Nat) (vq1 : Int32) (M : Mem) : Option (Int64 × Mem) :=
  fX5_thickBy_L5 iq0 vq1 FU 0 0 M
set_option maxRecDepth 20000 in
theorem wX5_thickBy {g : GP} {l : Launch} {x : CT} (ok : Ok g l x RX5 cX5_thickBy 5 (some FieldType.long) (rmL 2)) (iq0 : Nat) (vq1 : Int32) (hq0 : iq0 < 3) (M : Mem) : Sw g l x (FinQ g x eJ) 5 0 0 0 [(0, .ref (gA g 15 iq0)), (1, .int vq1)] [] M (fX5_thickBy iq0 vq1 M) := by
  unfold fX5_thickBy
  refine r_lconst (pc := 0) ok 0 dX5_thickBy_0 (by decide) ?_
  refine r_lstore_n (pc := 1) ok [(2, .long 0), (0, .ref (gA g 15 iq0)), (1, .int vq1)] dX5_thickBy_1 rfl (by decide) rfl ?_
  refine r_iconst (pc := 2) ok 0 dX5_thickBy_2 (by decide) ?_
  refine r_istore (pc := 3) ok [(4, .int 0), (2, .long 0), (0, .ref (gA g 15 iq0)), (1, .int vq1)] dX5_thickBy_3 (by decide) rfl ?_
  refine r_lv [2, 3, 1, 0] [(0, .ref (gA g 15 iq0)), (1, .int vq1), (2, .long 0), (4, .int 0)] rfl ?_
  exact sX5_thickBy_L5 ok iq0 vq1 hq0 FU 0 0 M
theorem con_X5_thickBy (g : GP) (l : Launch) (iq0 : Nat) (vq1 : Int32) (hq0 : iq0 < 3) (M : Mem) (r : Int64) (M2 : Mem) (h : fX5_thickBy iq0 vq1 M = some (r, M2)) : Con g l yX5_thickBy cX5_thickBy 5 (some FieldType.long) (rmL 2) [.ref (gA g 15 iq0), .int vq1] M (eJ r) M2 :=
  Con.of (own := RX5) (f := fX5_thickBy iq0 vq1 M) (by decide) (Nat.le_of_ble_eq_true rfl) rfl (fun x ok => wX5_thickBy ok iq0 vq1 hq0 M) r M2 h
def fX5_thickestCell_B4 (iq0 : Nat) (k4 : Int32 → Int32 → Mem → Option (Int32 × Mem)) (vq1 : Int32) (vq2 : Int32) (M : Mem) : Option (Int32 × Mem) :=
  if 36 ≤ vq2 then
    (some (vq1, M))
  else
    (gd (inb vq2 36)
    (gd (inb vq1 36)
    (if (M 16 iq0 vq2.toNatClampNeg) ≤ (M 16 iq0 vq1.toNatClampNeg) then
      (k4 vq1 (vq2 + 1) M)
    else
      (k4 vq2 (vq2 + 1) M))))
def fX5_thickestCell_L4 (iq0 : Nat) : Nat → Int32 → Int32 → Mem → Option (Int32 × Mem)
  | 0, _, _, _ => none
  | n + 1, vq1, vq2, M => fX5_thickestCell_B4 iq0 (fX5_thickestCell_L4 iq0 n) vq1 vq2 M
set_option maxRecDepth 20000 in
theorem sX5_thickestCell_B4 {g : GP} {l : Launch} {x : CT} (ok : Ok g l x RX5 cX5_thickestCell 3 (some FieldType.int) (rmL 2)) (iq0 : Nat) (h0 : iq0 < 3) (k4 : Int32 → Int32 → Mem → Option (Int32 × Mem)) (hk4 : ∀ (vq1 : Int32) (vq2 : Int32) (M : Mem), Sw g l x (FinQ g x eI) 3 0 0 4 [(0, .ref (gA g 15 iq0)), (1, .int vq1), (2, .int vq2)] [] M (k4 vq1 vq2 M)) (vq1 : Int32) (vq2 : Int32) (M : Mem) : Sw g l x (FinQ g x eI) 3 0 0 4 [(0, .ref (gA g 15 iq0)), (1, .int vq1), (2, .int vq2)] [] M (fX5_thickestCell_B4 iq0 k4 vq1 vq2 M) := by
  unfold fX5_thickestCell_B4
  refine r_iload_n (pc := 4) ok 2 dX5_thickestCell_4 rfl ?_
  refine r_bipush (pc := 5) ok 36 dX5_thickestCell_5 (by decide) ?_
  refine r_icmp_ge (pc := 7) ok 37 dX5_thickestCell_7 (by decide) (fun _ => ?_) (fun _ => ?_)
  · refine r_iload_n (pc := 37) ok 1 dX5_thickestCell_37 rfl ?_
    exact r_iret (pc := 38) ok (Nat.zero_le _) (Nat.zero_le _) rfl dX5_thickestCell_38
  · refine r_aload_n (pc := 10) ok 0 dX5_thickestCell_10 rfl ?_
    refine r_getR (pc := 11) ok fr_15_2 h0 fl_X5_9 dX5_thickestCell_11 ?_
    refine r_iload_n (pc := 14) ok 2 dX5_thickestCell_14 rfl ?_
    refine r_iald (pc := 15) ok ik_16 h0 dX5_thickestCell_15 (fun _ => ?_)
    refine r_aload_n (pc := 16) ok 0 dX5_thickestCell_16 rfl ?_
    refine r_getR (pc := 17) ok fr_15_2 h0 fl_X5_9 dX5_thickestCell_17 ?_
    refine r_iload_n (pc := 20) ok 1 dX5_thickestCell_20 rfl ?_
    refine r_iald (pc := 21) ok ik_16 h0 dX5_thickestCell_21 (fun _ => ?_)
    refine r_icmp_le (pc := 22) ok 29 dX5_thickestCell_22 (by decide) (fun _ => ?_) (fun _ => ?_)
    · refine r_iload_n (pc := 29) ok 1 dX5_thickestCell_29 rfl ?_
      refine r_istore_n (pc := 30) ok [(1, .int vq1), (0, .ref (gA g 15 iq0)), (2, .int vq2)] dX5_thickestCell_30 rfl (by decide) rfl ?_
      refine r_iinc (pc := 31) ok 2 (vq2 + 1) [(2, .int (vq2 + 1)), (1, .int vq1), (0, .ref (gA g 15 iq0))] dX5_thickestCell_31 rfl (congrArg (fun z => vq2 + z) (by decide : Int32.ofInt 1 = (1 : Int32))) (by decide) rfl ?_
      refine r_goto (pc := 34) ok 4 dX5_thickestCell_34 (by decide) ?_
      refine r_lv [2, 1, 0] [(0, .ref (gA g 15 iq0)), (1, .int vq1), (2, .int (vq2 + 1))] rfl ?_
      exact hk4 vq1 (vq2 + 1) M
    · refine r_iload_n (pc := 25) ok 2 dX5_thickestCell_25 rfl ?_
      refine r_goto (pc := 26) ok 30 dX5_thickestCell_26 (by decide) ?_
      refine r_istore_n (pc := 30) ok [(1, .int vq2), (0, .ref (gA g 15 iq0)), (2, .int vq2)] dX5_thickestCell_30 rfl (by decide) rfl ?_
      refine r_iinc (pc := 31) ok 2 (vq2 + 1) [(2, .int (vq2 + 1)), (1, .int vq2), (0, .ref (gA g 15 iq0))] dX5_thickestCell_31 rfl (congrArg (fun z => vq2 + z) (by decide : Int32.ofInt 1 = (1 : Int32))) (by decide) rfl ?_
      refine r_goto (pc := 34) ok 4 dX5_thickestCell_34 (by decide) ?_
      refine r_lv [2, 1, 0] [(0, .ref (gA g 15 iq0)), (1, .int vq2), (2, .int (vq2 + 1))] rfl ?_
      exact hk4 vq2 (vq2 + 1) M
theorem sX5_thickestCell_L4 {g : GP} {l : Launch} {x : CT} (ok : Ok g l x RX5 cX5_thickestCell 3 (some FieldType.int) (rmL 2)) (iq0 : Nat) (h0 : iq0 < 3) : ∀ (n : Nat) (vq1 : Int32) (vq2 : Int32) (M : Mem), Sw g l x (FinQ g x eI) 3 0 0 4 [(0, .ref (gA g 15 iq0)), (1, .int vq1), (2, .int vq2)] [] M (fX5_thickestCell_L4 iq0 n vq1 vq2 M) := by
  intro n
  induction n with
  | zero => intros; exact r_none
  | succ n ih => intro vq1 vq2 M; exact sX5_thickestCell_B4 ok iq0 h0 _ ih vq1 vq2 M
def fX5_thickestCell (iq0 : Nat) (M : Mem) : Option (Int32 × Mem) :=
  fX5_thickestCell_L4 iq0 FU 0 1 M
set_option maxRecDepth 20000 in
theorem wX5_thickestCell {g : GP} {l : Launch} {x : CT} (ok : Ok g l x RX5 cX5_thickestCell 3 (some FieldType.int) (rmL 2)) (iq0 : Nat) (hq0 : iq0 < 3) (M : Mem) : Sw g l x (FinQ g x eI) 3 0 0 0 [(0, .ref (gA g 15 iq0))] [] M (fX5_thickestCell iq0 M) := by
  unfold fX5_thickestCell
  refine r_iconst (pc := 0) ok 0 dX5_thickestCell_0 (by decide) ?_
  refine r_istore_n (pc := 1) ok [(1, .int 0), (0, .ref (gA g 15 iq0))] dX5_thickestCell_1 rfl (by decide) rfl ?_
  refine r_iconst (pc := 2) ok 1 dX5_thickestCell_2 (by decide) ?_
  refine r_istore_n (pc := 3) ok [(2, .int 1), (1, .int 0), (0, .ref (gA g 15 iq0))] dX5_thickestCell_3 rfl (by decide) rfl ?_
  refine r_lv [2, 1, 0] [(0, .ref (gA g 15 iq0)), (1, .int 0), (2, .int 1)] rfl ?_
  exact sX5_thickestCell_L4 ok iq0 hq0 FU 0 1 M
theorem con_X5_thickestCell (g : GP) (l : Launch) (iq0 : Nat) (hq0 : iq0 < 3) (M : Mem) (r : Int32) (M2 : Mem) (h : fX5_thickestCell iq0 M = some (r, M2)) : Con g l yX5_thickestCell cX5_thickestCell 3 (some FieldType.int) (rmL 2) [.ref (gA g 15 iq0)] M (eI r) M2 :=
  Con.of (own := RX5) (f := fX5_thickestCell iq0 M) (by decide) (Nat.le_of_ble_eq_true rfl) rfl (fun x ok => wX5_thickestCell ok iq0 hq0 M) r M2 h
