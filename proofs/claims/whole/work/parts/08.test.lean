def fX10_within (v0 : Int32) (v1 : Int32) (v2 : Int32) (M : Mem) : Option (Int32 × Mem) :=
  if v0 < v1 then
    (some (0, M))
  else
    (if v2 < v0 then
      (some (0, M))
    else
      (some (1, M)))
set_option maxRecDepth 20000 in
theorem wX10_within {g : GP} {l : Launch} {x : CT} (ok : Ok g l x RX10 cX10_within 3 (some FieldType.boolean) (rmL 2)) (v0 : Int32) (v1 : Int32) (v2 : Int32)  (M : Mem) : Sw g l x (FinQ g x eI) 3 0 0 0 [(0, .int v0), (1, .int v1), (2, .int v2)] [] M (fX10_within v0 v1 v2 M) := by
  unfold fX10_within
  refine r_iload_n (pc := 0) ok 0 dX10_within_0 rfl ?_
  refine r_iload_n (pc := 1) ok 1 dX10_within_1 rfl ?_
  refine r_icmp_lt (pc := 2) ok 14 dX10_within_2 (by decide) (fun _ => ?_) (fun _ => ?_)
  · refine r_iconst (pc := 14) ok 0 dX10_within_14 (by decide) ?_
    exact r_zret (pc := 15) ok (Nat.zero_le _) (Nat.zero_le _) rfl rfl dX10_within_15
  · refine r_iload_n (pc := 5) ok 0 dX10_within_5 rfl ?_
    refine r_iload_n (pc := 6) ok 2 dX10_within_6 rfl ?_
    refine r_icmp_gt (pc := 7) ok 14 dX10_within_7 (by decide) (fun _ => ?_) (fun _ => ?_)
    · refine r_iconst (pc := 14) ok 0 dX10_within_14 (by decide) ?_
      exact r_zret (pc := 15) ok (Nat.zero_le _) (Nat.zero_le _) rfl rfl dX10_within_15
    · refine r_iconst (pc := 10) ok 1 dX10_within_10 (by decide) ?_
      refine r_goto (pc := 11) ok 15 dX10_within_11 (by decide) ?_
      exact r_zret (pc := 15) ok (Nat.zero_le _) (Nat.zero_le _) rfl rfl dX10_within_15
theorem con_X10_within (g : GP) (l : Launch) (v0 : Int32) (v1 : Int32) (v2 : Int32)  (M : Mem) (r : Int32) (M2 : Mem) (h : fX10_within v0 v1 v2 M = some (r, M2)) : Con g l yX10_within cX10_within 3 (some FieldType.boolean) (rmL 2) [.int v0, .int v1, .int v2] M (eI r) M2 :=
  Con.of (own := RX10) (f := fX10_within v0 v1 v2 M) (by decide) (Nat.le_of_ble_eq_true rfl) rfl (fun x ok => wX10_within ok v0 v1 v2  M) r M2 h
def fX10_grown (v0 : Int64) (M : Mem) : Option (Int64 × Mem) :=
  lt ((lshl (v0 &&& (-34905131041)) 1) ||| (lushr (v0 &&& (-1090785346)) 1)) fun w1 =>
  some (((v0 ||| w1) ||| (lshl v0 6)) ||| (lushr v0 6), M)
set_option maxRecDepth 20000 in
theorem wX10_grown {g : GP} {l : Launch} {x : CT} (ok : Ok g l x RX10 cX10_grown 4 (some FieldType.long) (rmL 2)) (v0 : Int64)  (M : Mem) : Sw g l x (FinQ g x eJ) 4 0 0 0 [(0, .long v0)] [] M (fX10_grown v0 M) := by
  unfold fX10_grown
  refine r_lload_n (pc := 0) ok 0 dX10_grown_0 rfl ?_
  refine r_ldc2 (pc := 1) ok wcl_X10_277 dX10_grown_1 ?_
  refine r_land (pc := 4) ok dX10_grown_4 ?_
  refine r_iconst (pc := 5) ok 1 dX10_grown_5 (by decide) ?_
  refine r_lshl (pc := 6) ok dX10_grown_6 ?_
  refine r_lload_n (pc := 7) ok 0 dX10_grown_7 rfl ?_
  refine r_ldc2 (pc := 8) ok wcl_X10_279 dX10_grown_8 ?_
  refine r_land (pc := 11) ok dX10_grown_11 ?_
  refine r_iconst (pc := 12) ok 1 dX10_grown_12 (by decide) ?_
  refine r_lushr (pc := 13) ok dX10_grown_13 ?_
  refine r_lor (pc := 14) ok dX10_grown_14 ?_
  refine r_nml (fun w1 => ?_)
  refine r_lstore_n (pc := 15) ok [(2, .long w1), (0, .long v0)] dX10_grown_15 rfl (by decide) rfl ?_
  refine r_lload_n (pc := 16) ok 1 dX10_grown_16 rfl ?_
  refine r_lload_n (pc := 17) ok 0 dX10_grown_17 rfl ?_
  refine r_lor (pc := 18) ok dX10_grown_18 ?_
  refine r_lload_n (pc := 19) ok 1 dX10_grown_19 rfl ?_
  refine r_bipush (pc := 20) ok 6 dX10_grown_20 (by decide) ?_
  refine r_lshl (pc := 22) ok dX10_grown_22 ?_
  refine r_lor (pc := 23) ok dX10_grown_23 ?_
  refine r_lload_n (pc := 24) ok 1 dX10_grown_24 rfl ?_
  refine r_bipush (pc := 25) ok 6 dX10_grown_25 (by decide) ?_
  refine r_lushr (pc := 27) ok dX10_grown_27 ?_
  refine r_lor (pc := 28) ok dX10_grown_28 ?_
  exact r_lret (pc := 29) ok (Nat.zero_le _) (Nat.zero_le _) rfl dX10_grown_29
theorem con_X10_grown (g : GP) (l : Launch) (v0 : Int64)  (M : Mem) (r : Int64) (M2 : Mem) (h : fX10_grown v0 M = some (r, M2)) : Con g l yX10_grown cX10_grown 4 (some FieldType.long) (rmL 2) [.long v0] M (eJ r) M2 :=
  Con.of (own := RX10) (f := fX10_grown v0 M) (by decide) (Nat.le_of_ble_eq_true rfl) rfl (fun x ok => wX10_grown ok v0  M) r M2 h
def fX11_without0 (v0 : Int32) (v1 : Int32) (M : Mem) : Option (Int32 × Mem) :=
  if v1 ≤ v0 then
    (some (v0 - v1, M))
  else
    (some (v1 - v0, M))
set_option maxRecDepth 20000 in
theorem wX11_without0 {g : GP} {l : Launch} {x : CT} (ok : Ok g l x RX11 cX11_without0 2 (some FieldType.int) (rmL 2)) (v0 : Int32) (v1 : Int32)  (M : Mem) : Sw g l x (FinQ g x eI) 2 0 0 0 [(0, .int v0), (1, .int v1)] [] M (fX11_without0 v0 v1 M) := by
  unfold fX11_without0
  refine r_iload_n (pc := 0) ok 0 dX11_without0_0 rfl ?_
  refine r_iload_n (pc := 1) ok 1 dX11_without0_1 rfl ?_
  refine r_icmp_ge (pc := 2) ok 11 dX11_without0_2 (by decide) (fun _ => ?_) (fun _ => ?_)
  · refine r_iload_n (pc := 11) ok 0 dX11_without0_11 rfl ?_
    refine r_iload_n (pc := 12) ok 1 dX11_without0_12 rfl ?_
    refine r_isub (pc := 13) ok dX11_without0_13 ?_
    exact r_iret (pc := 14) ok (Nat.zero_le _) (Nat.zero_le _) rfl dX11_without0_14
  · refine r_iload_n (pc := 5) ok 1 dX11_without0_5 rfl ?_
    refine r_iload_n (pc := 6) ok 0 dX11_without0_6 rfl ?_
    refine r_isub (pc := 7) ok dX11_without0_7 ?_
    refine r_goto (pc := 8) ok 14 dX11_without0_8 (by decide) ?_
    exact r_iret (pc := 14) ok (Nat.zero_le _) (Nat.zero_le _) rfl dX11_without0_14
theorem con_X11_without0 (g : GP) (l : Launch) (v0 : Int32) (v1 : Int32)  (M : Mem) (r : Int32) (M2 : Mem) (h : fX11_without0 v0 v1 M = some (r, M2)) : Con g l yX11_without0 cX11_without0 2 (some FieldType.int) (rmL 2) [.int v0, .int v1] M (eI r) M2 :=
  Con.of (own := RX11) (f := fX11_without0 v0 v1 M) (by decide) (Nat.le_of_ble_eq_true rfl) rfl (fun x ok => wX11_without0 ok v0 v1  M) r M2 h
def fX5_takeFrom_B17 (i0 : Nat) (i1 : Nat) (k17 : Int32 → Mem → Option (Unit × Mem)) (v2 : Int32) (M : Mem) : Option (Unit × Mem) :=
  if 4 ≤ v2 then
    (lt (mst M 15 i0 7 (M 15 i1 7)) fun M2 =>
    lt (mst M2 15 i0 8 (M2 15 i1 8)) fun M3 =>
    lt (mst M3 15 i0 9 (M3 15 i1 9)) fun M4 =>
    some ((), M4))
  else
    (gd (inb v2 4)
    (gd (inb v2 4)
    (gd (cpk 0 0 6 6 6)
    (lt (mrow M 18 (4 * i0 + v2.toNatClampNeg) (va_cpy (M 18 (4 * i1 + v2.toNatClampNeg)) (M 18 (4 * i0 + v2.toNatClampNeg)) (0 : Int32).toNatClampNeg (0 : Int32).toNatClampNeg (6 : Int32).toNatClampNeg)) fun M7 =>
    k17 (v2 + 1) M7))))
def fX5_takeFrom_L17 (i0 : Nat) (i1 : Nat) : Nat → Int32 → Mem → Option (Unit × Mem)
  | 0, _, _ => none
  | n + 1, v2, M => fX5_takeFrom_B17 i0 i1 (fX5_takeFrom_L17 i0 i1 n) v2 M
set_option maxRecDepth 20000 in
theorem sX5_takeFrom_B17 {g : GP} {l : Launch} {x : CT} (ok : Ok g l x RX5 cX5_takeFrom 3 none (rmL 2)) (i0 : Nat) (i1 : Nat) (h0 : i0 < 3) (h1 : i1 < 3) (k17 : Int32 → Mem → Option (Unit × Mem)) (hk17 : ∀ (v2 : Int32) (M : Mem), Sw g l x (FinQ g x eV) 3 0 0 17 [(0, .ref (gA g 15 i0)), (1, .ref (gA g 15 i1)), (2, .int v2)] [] M (k17 v2 M)) (v2 : Int32) (M : Mem) : Sw g l x (FinQ g x eV) 3 0 0 17 [(0, .ref (gA g 15 i0)), (1, .ref (gA g 15 i1)), (2, .int v2)] [] M (fX5_takeFrom_B17 i0 i1 k17 v2 M) := by
  unfold fX5_takeFrom_B17
  refine r_iload_n (pc := 17) ok 2 dX5_takeFrom_17 rfl ?_
  refine r_iconst (pc := 18) ok 4 dX5_takeFrom_18 (by decide) ?_
  refine r_icmp_ge (pc := 19) ok 47 dX5_takeFrom_19 (by decide) (fun _ => ?_) (fun _ => ?_)
  · refine r_aload_n (pc := 47) ok 0 dX5_takeFrom_47 rfl ?_
    refine r_aload_n (pc := 48) ok 1 dX5_takeFrom_48 rfl ?_
    refine r_getI (pc := 49) ok fi_15_7 h1 fl_X5_45 dX5_takeFrom_49 ?_
    refine r_putI (pc := 52) ok fi_15_7 h0 fl_X5_45 fp_15_7 ⟨rfl, rfl⟩ dX5_takeFrom_52 ?_
    refine r_nmM (fun M2 => ?_)
    refine r_aload_n (pc := 55) ok 0 dX5_takeFrom_55 rfl ?_
    refine r_aload_n (pc := 56) ok 1 dX5_takeFrom_56 rfl ?_
    refine r_getI (pc := 57) ok fi_15_8 h1 fl_X5_49 dX5_takeFrom_57 ?_
    refine r_putI (pc := 60) ok fi_15_8 h0 fl_X5_49 fp_15_8 ⟨rfl, rfl⟩ dX5_takeFrom_60 ?_
    refine r_nmM (fun M3 => ?_)
    refine r_aload_n (pc := 63) ok 0 dX5_takeFrom_63 rfl ?_
    refine r_aload_n (pc := 64) ok 1 dX5_takeFrom_64 rfl ?_
    refine r_getI (pc := 65) ok fi_15_9 h1 fl_X5_52 dX5_takeFrom_65 ?_
    refine r_putI (pc := 68) ok fi_15_9 h0 fl_X5_52 fp_15_9 ⟨rfl, rfl⟩ dX5_takeFrom_68 ?_
    refine r_nmM (fun M4 => ?_)
    exact r_vret (pc := 71) ok (Nat.zero_le _) (Nat.zero_le _) rfl dX5_takeFrom_71
  · refine r_aload_n (pc := 22) ok 1 dX5_takeFrom_22 rfl ?_
    refine r_getR (pc := 23) ok fr_15_3 h1 fl_X5_17 dX5_takeFrom_23 ?_
    refine r_iload_n (pc := 26) ok 2 dX5_takeFrom_26 rfl ?_
    refine r_aald (pc := 27) ok rk_17 h1 rfl rfl dX5_takeFrom_27 (fun hb5 => ?_)
    refine r_iconst (pc := 28) ok 0 dX5_takeFrom_28 (by decide) ?_
    refine r_aload_n (pc := 29) ok 0 dX5_takeFrom_29 rfl ?_
    refine r_getR (pc := 30) ok fr_15_3 h0 fl_X5_17 dX5_takeFrom_30 ?_
    refine r_iload_n (pc := 33) ok 2 dX5_takeFrom_33 rfl ?_
    refine r_aald (pc := 34) ok rk_17 h0 rfl rfl dX5_takeFrom_34 (fun hb6 => ?_)
    refine r_iconst (pc := 35) ok 0 dX5_takeFrom_35 (by decide) ?_
    refine r_bipush (pc := 36) ok 6 dX5_takeFrom_36 (by decide) ?_
    refine r_acpy (pc := 38) ok ik_18 (show _ < 12 from trow_lt h1 hb5) ik_18 (show _ < 12 from trow_lt h0 hb6) wml_X5_39 wna_acp wst_acp win_System (rmA (by decide)) (Nat.le_of_ble_eq_true rfl) dX5_takeFrom_38 ?_
    refine r_nmM (fun M7 => ?_)
    refine r_iinc (pc := 41) ok 2 (v2 + 1) [(2, .int (v2 + 1)), (0, .ref (gA g 15 i0)), (1, .ref (gA g 15 i1))] dX5_takeFrom_41 rfl (congrArg (fun z => v2 + z) (by decide : Int32.ofInt 1 = (1 : Int32))) (by decide) rfl ?_
    refine r_goto (pc := 44) ok 17 dX5_takeFrom_44 (by decide) ?_
    refine r_lv [1, 2, 0] [(0, .ref (gA g 15 i0)), (1, .ref (gA g 15 i1)), (2, .int (v2 + 1))] rfl ?_
    exact hk17 (v2 + 1) M7
theorem sX5_takeFrom_L17 {g : GP} {l : Launch} {x : CT} (ok : Ok g l x RX5 cX5_takeFrom 3 none (rmL 2)) (i0 : Nat) (i1 : Nat) (h0 : i0 < 3) (h1 : i1 < 3) : ∀ (n : Nat) (v2 : Int32) (M : Mem), Sw g l x (FinQ g x eV) 3 0 0 17 [(0, .ref (gA g 15 i0)), (1, .ref (gA g 15 i1)), (2, .int v2)] [] M (fX5_takeFrom_L17 i0 i1 n v2 M) := by
  intro n
  induction n with
  | zero => intros; exact r_none
  | succ n ih => intro v2 M; exact sX5_takeFrom_B17 ok i0 i1 h0 h1 _ ih v2 M
def fX5_takeFrom (i0 : Nat) (i1 : Nat) (M : Mem) : Option (Unit × Mem) :=
  gd (cpk 0 0 36 36 36)
  (lt (mrow M 16 i0 (va_cpy (M 16 i1) (M 16 i0) (0 : Int32).toNatClampNeg (0 : Int32).toNatClampNeg (36 : Int32).toNatClampNeg)) fun M1 =>
  fX5_takeFrom_L17 i0 i1 FU 0 M1)
set_option maxRecDepth 20000 in
theorem wX5_takeFrom {g : GP} {l : Launch} {x : CT} (ok : Ok g l x RX5 cX5_takeFrom 3 none (rmL 2)) (i0 : Nat) (i1 : Nat) (h0 : i0 < 3) (h1 : i1 < 3) (M : Mem) : Sw g l x (FinQ g x eV) 3 0 0 0 [(0, .ref (gA g 15 i0)), (1, .ref (gA g 15 i1))] [] M (fX5_takeFrom i0 i1 M) := by
  unfold fX5_takeFrom
  refine r_aload_n (pc := 0) ok 1 dX5_takeFrom_0 rfl ?_
  refine r_getR (pc := 1) ok fr_15_2 h1 fl_X5_9 dX5_takeFrom_1 ?_
  refine r_iconst (pc := 4) ok 0 dX5_takeFrom_4 (by decide) ?_
  refine r_aload_n (pc := 5) ok 0 dX5_takeFrom_5 rfl ?_
  refine r_getR (pc := 6) ok fr_15_2 h0 fl_X5_9 dX5_takeFrom_6 ?_
  refine r_iconst (pc := 9) ok 0 dX5_takeFrom_9 (by decide) ?_
  refine r_bipush (pc := 10) ok 36 dX5_takeFrom_10 (by decide) ?_
  refine r_acpy (pc := 12) ok ik_16 h1 ik_16 h0 wml_X5_39 wna_acp wst_acp win_System (rmA (by decide)) (Nat.le_of_ble_eq_true rfl) dX5_takeFrom_12 ?_
  refine r_nmM (fun M1 => ?_)
  refine r_iconst (pc := 15) ok 0 dX5_takeFrom_15 (by decide) ?_
  refine r_istore_n (pc := 16) ok [(2, .int 0), (0, .ref (gA g 15 i0)), (1, .ref (gA g 15 i1))] dX5_takeFrom_16 rfl (by decide) rfl ?_
  refine r_lv [1, 2, 0] [(0, .ref (gA g 15 i0)), (1, .ref (gA g 15 i1)), (2, .int 0)] rfl ?_
  exact sX5_takeFrom_L17 ok i0 i1 h0 h1 FU 0 M1
theorem con_X5_takeFrom (g : GP) (l : Launch) (i0 : Nat) (i1 : Nat) (h0 : i0 < 3) (h1 : i1 < 3) (M : Mem) (r : Unit) (M2 : Mem) (h : fX5_takeFrom i0 i1 M = some (r, M2)) : Con g l yX5_takeFrom cX5_takeFrom 3 none (rmL 2) [.ref (gA g 15 i0), .ref (gA g 15 i1)] M (eV r) M2 :=
  Con.of (own := RX5) (f := fX5_takeFrom i0 i1 M) (by decide) (Nat.le_of_ble_eq_true rfl) rfl (fun x ok => wX5_takeFrom ok i0 i1 h0 h1 M) r M2 h
def fX5_total_B5 (i0 : Nat) (v2 : Int32) (k5 : Int32 → Int32 → Mem → Option (Int32 × Mem)) (v3 : Int32) (v4 : Int32) (M : Mem) : Option (Int32 × Mem) :=
  if v2 ≤ v4 then
    (some (v3, M))
  else
    (gd (inb v4 36)
    (lt (v3 + (M 16 i0 v4.toNatClampNeg)) fun w1 =>
    k5 w1 (v4 + 1) M))
def fX5_total_L5 (i0 : Nat) (v2 : Int32) : Nat → Int32 → Int32 → Mem → Option (Int32 × Mem)
  | 0, _, _, _ => none
  | n + 1, v3, v4, M => fX5_total_B5 i0 v2 (fX5_total_L5 i0 v2 n) v3 v4 M
set_option maxRecDepth 20000 in
theorem sX5_total_B5 {g : GP} {l : Launch} {x : CT} (ok : Ok g l x RX5 cX5_total 5 (some FieldType.int) (rmL 2)) (i0 : Nat) (v2 : Int32) (h0 : i0 < 3) (k5 : Int32 → Int32 → Mem → Option (Int32 × Mem)) (hk5 : ∀ (v3 : Int32) (v4 : Int32) (M : Mem), Sw g l x (FinQ g x eI) 5 0 0 5 [(0, .ref (gA g 15 i0)), (2, .int v2), (3, .int v3), (4, .int v4)] [] M (k5 v3 v4 M)) (v3 : Int32) (v4 : Int32) (M : Mem) : Sw g l x (FinQ g x eI) 5 0 0 5 [(0, .ref (gA g 15 i0)), (2, .int v2), (3, .int v3), (4, .int v4)] [] M (fX5_total_B5 i0 v2 k5 v3 v4 M) := by
  unfold fX5_total_B5
  refine r_iload (pc := 5) ok 3 dX5_total_5 rfl ?_
  refine r_iload_n (pc := 7) ok 1 dX5_total_7 rfl ?_
  refine r_icmp_ge (pc := 8) ok 27 dX5_total_8 (by decide) (fun _ => ?_) (fun _ => ?_)
  · refine r_iload_n (pc := 27) ok 2 dX5_total_27 rfl ?_
    exact r_iret (pc := 28) ok (Nat.zero_le _) (Nat.zero_le _) rfl dX5_total_28
  · refine r_iload_n (pc := 11) ok 2 dX5_total_11 rfl ?_
    refine r_aload_n (pc := 12) ok 0 dX5_total_12 rfl ?_
    refine r_getR (pc := 13) ok fr_15_2 h0 fl_X5_9 dX5_total_13 ?_
    refine r_iload (pc := 16) ok 3 dX5_total_16 rfl ?_
    refine r_iald (pc := 18) ok ik_16 h0 dX5_total_18 (fun _ => ?_)
    refine r_iadd (pc := 19) ok dX5_total_19 ?_
    refine r_nmi (fun w1 => ?_)
    refine r_istore_n (pc := 20) ok [(3, .int w1), (0, .ref (gA g 15 i0)), (2, .int v2), (4, .int v4)] dX5_total_20 rfl (by decide) rfl ?_
    refine r_iinc (pc := 21) ok 3 (v4 + 1) [(4, .int (v4 + 1)), (3, .int w1), (0, .ref (gA g 15 i0)), (2, .int v2)] dX5_total_21 rfl (congrArg (fun z => v4 + z) (by decide : Int32.ofInt 1 = (1 : Int32))) (by decide) rfl ?_
    refine r_goto (pc := 24) ok 5 dX5_total_24 (by decide) ?_
    refine r_lv [2, 3, 1, 0] [(0, .ref (gA g 15 i0)), (2, .int v2), (3, .int w1), (4, .int (v4 + 1))] rfl ?_
    exact hk5 w1 (v4 + 1) M
theorem sX5_total_L5 {g : GP} {l : Launch} {x : CT} (ok : Ok g l x RX5 cX5_total 5 (some FieldType.int) (rmL 2)) (i0 : Nat) (v2 : Int32) (h0 : i0 < 3) : ∀ (n : Nat) (v3 : Int32) (v4 : Int32) (M : Mem), Sw g l x (FinQ g x eI) 5 0 0 5 [(0, .ref (gA g 15 i0)), (2, .int v2), (3, .int v3), (4, .int v4)] [] M (fX5_total_L5 i0 v2 n v3 v4 M) := by
  intro n
  induction n with
  | zero => intros; exact r_none
  | succ n ih => intro v3 v4 M; exact sX5_total_B5 ok i0 v2 h0 _ ih v3 v4 M
def fX5_total (i0 : Nat) (v1 : Int32) (v2 : Int32) (M : Mem) : Option (Int32 × Mem) :=
  fX5_total_L5 i0 v2 FU 0 v1 M
set_option maxRecDepth 20000 in
theorem wX5_total {g : GP} {l : Launch} {x : CT} (ok : Ok g l x RX5 cX5_total 5 (some FieldType.int) (rmL 2)) (i0 : Nat) (v1 : Int32) (v2 : Int32) (h0 : i0 < 3) (M : Mem) : Sw g l x (FinQ g x eI) 5 0 0 0 [(0, .ref (gA g 15 i0)), (1, .int v1), (2, .int v2)] [] M (fX5_total i0 v1 v2 M) := by
  unfold fX5_total
  refine r_iconst (pc := 0) ok 0 dX5_total_0 (by decide) ?_
  refine r_istore_n (pc := 1) ok [(3, .int 0), (0, .ref (gA g 15 i0)), (1, .int v1), (2, .int v2)] dX5_total_1 rfl (by decide) rfl ?_
  refine r_iload_n (pc := 2) ok 2 dX5_total_2 rfl ?_
  refine r_istore (pc := 3) ok [(4, .int v1), (3, .int 0), (0, .ref (gA g 15 i0)), (1, .int v1), (2, .int v2)] dX5_total_3 (by decide) rfl ?_
  refine r_lv [2, 4, 1, 0] [(0, .ref (gA g 15 i0)), (2, .int v2), (3, .int 0), (4, .int v1)] rfl ?_
  exact sX5_total_L5 ok i0 v2 h0 FU 0 v1 M
theorem con_X5_total (g : GP) (l : Launch) (i0 : Nat) (v1 : Int32) (v2 : Int32) (h0 : i0 < 3) (M : Mem) (r : Int32) (M2 : Mem) (h : fX5_total i0 v1 v2 M = some (r, M2)) : Con g l yX5_total cX5_total 5 (some FieldType.int) (rmL 2) [.ref (gA g 15 i0), .int v1, .int v2] M (eI r) M2 :=
  Con.of (own := RX5) (f := fX5_total i0 v1 v2 M) (by decide) (Nat.le_of_ble_eq_true rfl) rfl (fun x ok => wX5_total ok i0 v1 v2 h0 M) r M2 h
def fX8_ofTwo (v0 : Int32) (v1 : Int32) (v2 : Int32) (M : Mem) : Option (Int32 × Mem) :=
  if (-v0) = 7 then
    (if v1 = 0 then
      (if v2 = 0 then
        (some (0, M))
      else
        (some (1, M)))
    else
      (some (1, M)))
  else
    (if (-v0) = 8 then
      (if v1 = 0 then
        (some (0, M))
      else
        (if v2 = 0 then
          (some (0, M))
        else
          (some (1, M))))
    else
      (if (-v0) = 43 then
        (some (v1 + v2, M))
      else
        (if (-v0) = 45 then
          (some (v1 - v2, M))
        else
          (if (-v0) = 60 then
            (if v2 ≤ v1 then
              (some (0, M))
            else
              (some (1, M)))
          else
            (if (-v0) = 61 then
              (if v1 = v2 then
                (some (1, M))
              else
                (some (0, M)))
            else
              (some (v1 * v2, M)))))))
set_option maxRecDepth 20000 in
theorem wX8_ofTwo {g : GP} {l : Launch} {x : CT} (ok : Ok g l x RX8 cX8_ofTwo 3 (some FieldType.int) (rmL 2)) (v0 : Int32) (v1 : Int32) (v2 : Int32)  (M : Mem) : Sw g l x (FinQ g x eI) 3 0 0 0 [(0, .int v0), (1, .int v1), (2, .int v2)] [] M (fX8_ofTwo v0 v1 v2 M) := by
  unfold fX8_ofTwo
  refine r_iload_n (pc := 0) ok 0 dX8_ofTwo_0 rfl ?_
  refine r_ineg (pc := 1) ok dX8_ofTwo_1 ?_
  refine r_lkc (pc := 2) ok (58) 60 dX8_ofTwo_2 (by decide +kernel) (by decide +kernel) (by decide) (fun _ => ?_) (fun hs1 => ?_)
  · refine r_iload_n (pc := 60) ok 1 dX8_ofTwo_60 rfl ?_
    refine r_if_ne (pc := 61) ok 68 dX8_ofTwo_61 (by decide) (fun _ => ?_) (fun _ => ?_)
    · refine r_iload_n (pc := 64) ok 2 dX8_ofTwo_64 rfl ?_
      refine r_if_eq (pc := 65) ok 72 dX8_ofTwo_65 (by decide) (fun _ => ?_) (fun _ => ?_)
      · refine r_iconst (pc := 72) ok 0 dX8_ofTwo_72 (by decide) ?_
        exact r_iret (pc := 73) ok (Nat.zero_le _) (Nat.zero_le _) rfl dX8_ofTwo_73
      · refine r_iconst (pc := 68) ok 1 dX8_ofTwo_68 (by decide) ?_
        refine r_goto (pc := 69) ok 73 dX8_ofTwo_69 (by decide) ?_
        exact r_iret (pc := 73) ok (Nat.zero_le _) (Nat.zero_le _) rfl dX8_ofTwo_73
    · refine r_iconst (pc := 68) ok 1 dX8_ofTwo_68 (by decide) ?_
      refine r_goto (pc := 69) ok 73 dX8_ofTwo_69 (by decide) ?_
      exact r_iret (pc := 73) ok (Nat.zero_le _) (Nat.zero_le _) rfl dX8_ofTwo_73
  · refine r_lkc (pc := 2) ok (72) 74 dX8_ofTwo_2 (by decide +kernel) (by decide +kernel) (by decide) (fun _ => ?_) (fun hs2 => ?_)
    · refine r_iload_n (pc := 74) ok 1 dX8_ofTwo_74 rfl ?_
      refine r_if_eq (pc := 75) ok 86 dX8_ofTwo_75 (by decide) (fun _ => ?_) (fun _ => ?_)
      · refine r_iconst (pc := 86) ok 0 dX8_ofTwo_86 (by decide) ?_
        exact r_iret (pc := 87) ok (Nat.zero_le _) (Nat.zero_le _) rfl dX8_ofTwo_87
      · refine r_iload_n (pc := 78) ok 2 dX8_ofTwo_78 rfl ?_
        refine r_if_eq (pc := 79) ok 86 dX8_ofTwo_79 (by decide) (fun _ => ?_) (fun _ => ?_)
        · refine r_iconst (pc := 86) ok 0 dX8_ofTwo_86 (by decide) ?_
          exact r_iret (pc := 87) ok (Nat.zero_le _) (Nat.zero_le _) rfl dX8_ofTwo_87
        · refine r_iconst (pc := 82) ok 1 dX8_ofTwo_82 (by decide) ?_
          refine r_goto (pc := 83) ok 87 dX8_ofTwo_83 (by decide) ?_
          exact r_iret (pc := 87) ok (Nat.zero_le _) (Nat.zero_le _) rfl dX8_ofTwo_87
    · refine r_lkc (pc := 2) ok (108) 110 dX8_ofTwo_2 (by decide +kernel) (by decide +kernel) (by decide) (fun _ => ?_) (fun hs3 => ?_)
      · refine r_iload_n (pc := 110) ok 1 dX8_ofTwo_110 rfl ?_
        refine r_iload_n (pc := 111) ok 2 dX8_ofTwo_111 rfl ?_
        refine r_iadd (pc := 112) ok dX8_ofTwo_112 ?_
        exact r_iret (pc := 113) ok (Nat.zero_le _) (Nat.zero_le _) rfl dX8_ofTwo_113
      · refine r_lkc (pc := 2) ok (112) 114 dX8_ofTwo_2 (by decide +kernel) (by decide +kernel) (by decide) (fun _ => ?_) (fun hs4 => ?_)
        · refine r_iload_n (pc := 114) ok 1 dX8_ofTwo_114 rfl ?_
          refine r_iload_n (pc := 115) ok 2 dX8_ofTwo_115 rfl ?_
          refine r_isub (pc := 116) ok dX8_ofTwo_116 ?_
          exact r_iret (pc := 117) ok (Nat.zero_le _) (Nat.zero_le _) rfl dX8_ofTwo_117
        · refine r_lkc (pc := 2) ok (86) 88 dX8_ofTwo_2 (by decide +kernel) (by decide +kernel) (by decide) (fun _ => ?_) (fun hs5 => ?_)
          · refine r_iload_n (pc := 88) ok 1 dX8_ofTwo_88 rfl ?_
            refine r_iload_n (pc := 89) ok 2 dX8_ofTwo_89 rfl ?_
            refine r_icmp_ge (pc := 90) ok 97 dX8_ofTwo_90 (by decide) (fun _ => ?_) (fun _ => ?_)
            · refine r_iconst (pc := 97) ok 0 dX8_ofTwo_97 (by decide) ?_
              exact r_iret (pc := 98) ok (Nat.zero_le _) (Nat.zero_le _) rfl dX8_ofTwo_98
            · refine r_iconst (pc := 93) ok 1 dX8_ofTwo_93 (by decide) ?_
              refine r_goto (pc := 94) ok 98 dX8_ofTwo_94 (by decide) ?_
              exact r_iret (pc := 98) ok (Nat.zero_le _) (Nat.zero_le _) rfl dX8_ofTwo_98
          · refine r_lkc (pc := 2) ok (97) 99 dX8_ofTwo_2 (by decide +kernel) (by decide +kernel) (by decide) (fun _ => ?_) (fun hs6 => ?_)
            · refine r_iload_n (pc := 99) ok 1 dX8_ofTwo_99 rfl ?_
              refine r_iload_n (pc := 100) ok 2 dX8_ofTwo_100 rfl ?_
              refine r_icmp_ne (pc := 101) ok 108 dX8_ofTwo_101 (by decide) (fun _ => ?_) (fun _ => ?_)
              · refine r_iconst (pc := 104) ok 1 dX8_ofTwo_104 (by decide) ?_
                refine r_goto (pc := 105) ok 109 dX8_ofTwo_105 (by decide) ?_
                exact r_iret (pc := 109) ok (Nat.zero_le _) (Nat.zero_le _) rfl dX8_ofTwo_109
              · refine r_iconst (pc := 108) ok 0 dX8_ofTwo_108 (by decide) ?_
                exact r_iret (pc := 109) ok (Nat.zero_le _) (Nat.zero_le _) rfl dX8_ofTwo_109
            · refine r_lkd (pc := 2) ok 118 dX8_ofTwo_2 (by decide +kernel) ((lv_osw hs1 (by decide : (7 : Int32).toInt = 7)).trans ((lv_osw hs2 (by decide : (8 : Int32).toInt = 8)).trans ((lv_osw hs3 (by decide : (43 : Int32).toInt = 43)).trans ((lv_osw hs4 (by decide : (45 : Int32).toInt = 45)).trans ((lv_osw hs5 (by decide : (60 : Int32).toInt = 60)).trans ((lv_osw hs6 (by decide : (61 : Int32).toInt = 61)).trans (rfl))))))) (by decide) ?_
              refine r_iload_n (pc := 118) ok 1 dX8_ofTwo_118 rfl ?_
              refine r_iload_n (pc := 119) ok 2 dX8_ofTwo_119 rfl ?_
              refine r_imul (pc := 120) ok dX8_ofTwo_120 ?_
              exact r_iret (pc := 121) ok (Nat.zero_le _) (Nat.zero_le _) rfl dX8_ofTwo_121
theorem con_X8_ofTwo (g : GP) (l : Launch) (v0 : Int32) (v1 : Int32) (v2 : Int32)  (M : Mem) (r : Int32) (M2 : Mem) (h : fX8_ofTwo v0 v1 v2 M = some (r, M2)) : Con g l yX8_ofTwo cX8_ofTwo 3 (some FieldType.int) (rmL 2) [.int v0, .int v1, .int v2] M (eI r) M2 :=
  Con.of (own := RX8) (f := fX8_ofTwo v0 v1 v2 M) (by decide) (Nat.le_of_ble_eq_true rfl) rfl (fun x ok => wX8_ofTwo ok v0 v1 v2  M) r M2 h
def fX10_count (v1 : Int32) (M : Mem) : Option (Int32 × Mem) :=
  if v1 = 0 then
    (some (M 15 0 7, M))
  else
    (if v1 = 1 then
      (some (M 15 0 8, M))
    else
      (if v1 = 2 then
        (ob (fX5_total 0 0 36 M) fun r3 M4 =>
        some (r3, M4))
      else
        (if v1 = 3 then
          (some (M 0 0 8, M))
        else
          (if v1 = 4 then
            (some (M 15 0 9, M))
          else
            (if v1 = 5 then
              (some (M 1 0 3, M))
            else
              (some (-2, M)))))))
set_option maxRecDepth 20000 in
theorem wX10_count {g : GP} {l : Launch} {x : CT} (ok : Ok g l x RX10 cX10_count 2 (some FieldType.int) (rmL 3)) (v1 : Int32)  (M : Mem) : Sw g l x (FinQ g x eI) 2 0 0 0 [(0, .ref (gA g 0 0)), (1, .int v1)] [] M (fX10_count v1 M) := by
  unfold fX10_count
  refine r_iload_n (pc := 0) ok 1 dX10_count_0 rfl ?_
  refine r_swc (pc := 1) ok (39) 40 dX10_count_1 (by decide +kernel) (by decide) (fun _ => ?_) (fun hs1 => ?_)
  · refine r_aload_n (pc := 40) ok 0 dX10_count_40 rfl ?_
    refine r_getR (pc := 41) ok fr_0_4 (by decide) fl_X10_61 dX10_count_41 ?_
    refine r_getIN (pc := 44) ok fi_15_7 (by decide) flN_X10_71 dX10_count_44 ?_
    exact r_iret (pc := 47) ok (Nat.zero_le _) (Nat.zero_le _) rfl dX10_count_47
  · refine r_swc (pc := 1) ok (47) 48 dX10_count_1 (by decide +kernel) (by decide) (fun _ => ?_) (fun hs2 => ?_)
    · refine r_aload_n (pc := 48) ok 0 dX10_count_48 rfl ?_
      refine r_getR (pc := 49) ok fr_0_4 (by decide) fl_X10_61 dX10_count_49 ?_
      refine r_getIN (pc := 52) ok fi_15_8 (by decide) flN_X10_74 dX10_count_52 ?_
      exact r_iret (pc := 55) ok (Nat.zero_le _) (Nat.zero_le _) rfl dX10_count_55
    · refine r_swc (pc := 1) ok (55) 56 dX10_count_1 (by decide +kernel) (by decide) (fun _ => ?_) (fun hs5 => ?_)
      · refine r_aload_n (pc := 56) ok 0 dX10_count_56 rfl ?_
        refine r_getR (pc := 57) ok fr_0_4 (by decide) fl_X10_61 dX10_count_57 ?_
        refine r_iconst (pc := 60) ok 0 dX10_count_60 (by decide) ?_
        refine r_bipush (pc := 61) ok 36 dX10_count_61 (by decide) ?_
        refine r_callVN0 (pc := 63) ok [.int 0, .int 36] [] 2 (fun r M2 h => con_X5_total g l 0 0 36 (by decide) _ r M2 h) cvN_X10_77 (ok_15 (by decide)) (rmOk_L (by decide) (by decide)) dX10_count_63 rfl rfl (Nat.le_of_ble_eq_true rfl) (fun r3 M4 => ?_)
        exact r_iret (pc := 66) ok (Nat.zero_le _) (Nat.zero_le _) rfl dX10_count_66
      · refine r_swc (pc := 1) ok (66) 67 dX10_count_1 (by decide +kernel) (by decide) (fun _ => ?_) (fun hs6 => ?_)
        · refine r_aload_n (pc := 67) ok 0 dX10_count_67 rfl ?_
          refine r_getI (pc := 68) ok fi_0_8 (by decide) fl_X10_41 dX10_count_68 ?_
          exact r_iret (pc := 71) ok (Nat.zero_le _) (Nat.zero_le _) rfl dX10_count_71
        · refine r_swc (pc := 1) ok (71) 72 dX10_count_1 (by decide +kernel) (by decide) (fun _ => ?_) (fun hs7 => ?_)
          · refine r_aload_n (pc := 72) ok 0 dX10_count_72 rfl ?_
            refine r_getR (pc := 73) ok fr_0_4 (by decide) fl_X10_61 dX10_count_73 ?_
            refine r_getIN (pc := 76) ok fi_15_9 (by decide) flN_X10_81 dX10_count_76 ?_
            exact r_iret (pc := 79) ok (Nat.zero_le _) (Nat.zero_le _) rfl dX10_count_79
          · refine r_swc (pc := 1) ok (79) 80 dX10_count_1 (by decide +kernel) (by decide) (fun _ => ?_) (fun hs8 => ?_)
            · refine r_aload_n (pc := 80) ok 0 dX10_count_80 rfl ?_
              refine r_getR (pc := 81) ok fr_0_0 (by decide) fl_X10_33 dX10_count_81 ?_
              refine r_getIN (pc := 84) ok fi_1_3 (by decide) flN_X10_84 dX10_count_84 ?_
              exact r_iret (pc := 87) ok (Nat.zero_le _) (Nat.zero_le _) rfl dX10_count_87
            · refine r_swd (pc := 1) ok 88 dX10_count_1 (by have := lv_neT hs1 (by decide : (0 : Int32).toInt = 0) ; have := lv_neT hs2 (by decide : (1 : Int32).toInt = 1) ; have := lv_neT hs5 (by decide : (2 : Int32).toInt = 2) ; have := lv_neT hs6 (by decide : (3 : Int32).toInt = 3) ; have := lv_neT hs7 (by decide : (4 : Int32).toInt = 4) ; have := lv_neT hs8 (by decide : (5 : Int32).toInt = 5) ; omega) (by decide) ?_
              refine r_bipush (pc := 88) ok (-2) dX10_count_88 (by decide) ?_
              exact r_iret (pc := 90) ok (Nat.zero_le _) (Nat.zero_le _) rfl dX10_count_90
theorem con_X10_count (g : GP) (l : Launch) (v1 : Int32)  (M : Mem) (r : Int32) (M2 : Mem) (h : fX10_count v1 M = some (r, M2)) : Con g l yX10_count cX10_count 2 (some FieldType.int) (rmL 3) [.ref (gA g 0 0), .int v1] M (eI r) M2 :=
  Con.of (own := RX10) (f := fX10_count v1 M) (by decide) (Nat.le_of_ble_eq_true rfl) rfl (fun x ok => wX10_count ok v1  M) r M2 h
def fX10_isCell (v0 : Int32) (M : Mem) : Option (Int32 × Mem) :=
  ob (fX10_within v0 0 35 M) fun r1 M2 =>
  gd (isB r1) (some (r1, M2))
set_option maxRecDepth 20000 in
theorem wX10_isCell {g : GP} {l : Launch} {x : CT} (ok : Ok g l x RX10 cX10_isCell 1 (some FieldType.boolean) (rmL 3)) (v0 : Int32)  (M : Mem) : Sw g l x (FinQ g x eI) 1 0 0 0 [(0, .int v0)] [] M (fX10_isCell v0 M) := by
  unfold fX10_isCell
  refine r_iload_n (pc := 0) ok 0 dX10_isCell_0 rfl ?_
  refine r_iconst (pc := 1) ok 0 dX10_isCell_1 (by decide) ?_
  refine r_bipush (pc := 2) ok 35 dX10_isCell_2 (by decide) ?_
  refine r_callS0 (pc := 4) ok [.int v0, .int 0, .int 35] [] 2 (fun r M2 h => con_X10_within g l v0 0 35 _ r M2 h) cs_X10_91 (rmOk_L (by decide) (by decide)) dX10_isCell_4 rfl rfl (Nat.le_of_ble_eq_true rfl) (fun r1 M2 => ?_)
  refine r_gd (fun hz3 => ?_)
  exact r_zret (pc := 7) ok (Nat.zero_le _) (Nat.zero_le _) (isB_of hz3) rfl dX10_isCell_7
theorem con_X10_isCell (g : GP) (l : Launch) (v0 : Int32)  (M : Mem) (r : Int32) (M2 : Mem) (h : fX10_isCell v0 M = some (r, M2)) : Con g l yX10_isCell cX10_isCell 1 (some FieldType.boolean) (rmL 3) [.int v0] M (eI r) M2 :=
  Con.of (own := RX10) (f := fX10_isCell v0 M) (by decide) (Nat.le_of_ble_eq_true rfl) rfl (fun x ok => wX10_isCell ok v0  M) r M2 h
def fX10_spread_B8 (v2 : Int64) (k8 : Int64 → Int32 → Mem → Option (Int64 × Mem)) (v4 : Int64) (v6 : Int32) (M : Mem) : Option (Int64 × Mem) :=
  if 36 ≤ v6 then
    (some (v4, M))
  else
    (ob (fX10_grown v4 M) fun r2 M3 =>
    lt (r2 &&& v2) fun w4 =>
    k8 w4 (v6 + 1) M3)
def fX10_spread_L8 (v2 : Int64) : Nat → Int64 → Int32 → Mem → Option (Int64 × Mem)
  | 0, _, _, _ => none
  | n + 1, v4, v6, M => fX10_spread_B8 v2 (fX10_spread_L8 v2 n) v4 v6 M
set_option maxRecDepth 20000 in
theorem sX10_spread_B8 {g : GP} {l : Launch} {x : CT} (ok : Ok g l x RX10 cX10_spread 7 (some FieldType.long) (rmL 3)) (v2 : Int64)  (k8 : Int64 → Int32 → Mem → Option (Int64 × Mem)) (hk8 : ∀ (v4 : Int64) (v6 : Int32) (M : Mem), Sw g l x (FinQ g x eJ) 7 0 0 8 [(2, .long v2), (4, .long v4), (6, .int v6)] [] M (k8 v4 v6 M)) (v4 : Int64) (v6 : Int32) (M : Mem) : Sw g l x (FinQ g x eJ) 7 0 0 8 [(2, .long v2), (4, .long v4), (6, .int v6)] [] M (fX10_spread_B8 v2 k8 v4 v6 M) := by
  unfold fX10_spread_B8
  refine r_iload (pc := 8) ok 2 dX10_spread_8 rfl ?_
  refine r_bipush (pc := 10) ok 36 dX10_spread_10 (by decide) ?_
  refine r_icmp_ge (pc := 12) ok 30 dX10_spread_12 (by decide) (fun _ => ?_) (fun _ => ?_)
  · refine r_lload (pc := 30) ok 1 dX10_spread_30 rfl ?_
    exact r_lret (pc := 32) ok (Nat.zero_le _) (Nat.zero_le _) rfl dX10_spread_32
  · refine r_lload (pc := 15) ok 1 dX10_spread_15 rfl ?_
    refine r_callS0 (pc := 17) ok [.long v4] [] 2 (fun r M2 h => con_X10_grown g l v4 _ r M2 h) cs_X10_281 (rmOk_L (by decide) (by decide)) dX10_spread_17 rfl rfl (Nat.le_of_ble_eq_true rfl) (fun r2 M3 => ?_)
    refine r_lload_n (pc := 20) ok 0 dX10_spread_20 rfl ?_
    refine r_land (pc := 21) ok dX10_spread_21 ?_
    refine r_nml (fun w4 => ?_)
    refine r_lstore (pc := 22) ok [(4, .long w4), (2, .long v2), (6, .int v6)] dX10_spread_22 (by decide) rfl ?_
    refine r_iinc (pc := 24) ok 2 (v6 + 1) [(6, .int (v6 + 1)), (4, .long w4), (2, .long v2)] dX10_spread_24 rfl (congrArg (fun z => v6 + z) (by decide : Int32.ofInt 1 = (1 : Int32))) (by decide) rfl ?_
    refine r_goto (pc := 27) ok 8 dX10_spread_27 (by decide) ?_
    refine r_lv [2, 1, 0] [(2, .long v2), (4, .long w4), (6, .int (v6 + 1))] rfl ?_
    exact hk8 w4 (v6 + 1) M3
theorem sX10_spread_L8 {g : GP} {l : Launch} {x : CT} (ok : Ok g l x RX10 cX10_spread 7 (some FieldType.long) (rmL 3)) (v2 : Int64)  : ∀ (n : Nat) (v4 : Int64) (v6 : Int32) (M : Mem), Sw g l x (FinQ g x eJ) 7 0 0 8 [(2, .long v2), (4, .long v4), (6, .int v6)] [] M (fX10_spread_L8 v2 n v4 v6 M) := by
  intro n
  induction n with
  | zero => intros; exact r_none
  | succ n ih => intro v4 v6 M; exact sX10_spread_B8 ok v2  _ ih v4 v6 M
def fX10_spread (v0 : Int64) (v2 : Int64) (M : Mem) : Option (Int64 × Mem) :=
  lt (v0 &&& v2) fun w1 =>
  fX10_spread_L8 v2 FU w1 0 M
set_option maxRecDepth 20000 in
theorem wX10_spread {g : GP} {l : Launch} {x : CT} (ok : Ok g l x RX10 cX10_spread 7 (some FieldType.long) (rmL 3)) (v0 : Int64) (v2 : Int64)  (M : Mem) : Sw g l x (FinQ g x eJ) 7 0 0 0 [(0, .long v0), (2, .long v2)] [] M (fX10_spread v0 v2 M) := by
  unfold fX10_spread
  refine r_lload_n (pc := 0) ok 0 dX10_spread_0 rfl ?_
  refine r_lload_n (pc := 1) ok 1 dX10_spread_1 rfl ?_
  refine r_land (pc := 2) ok dX10_spread_2 ?_
  refine r_nml (fun w1 => ?_)
  refine r_lstore (pc := 3) ok [(4, .long w1), (0, .long v0), (2, .long v2)] dX10_spread_3 (by decide) rfl ?_
  refine r_iconst (pc := 5) ok 0 dX10_spread_5 (by decide) ?_
  refine r_istore (pc := 6) ok [(6, .int 0), (4, .long w1), (0, .long v0), (2, .long v2)] dX10_spread_6 (by decide) rfl ?_
  refine r_lv [3, 1, 0] [(2, .long v2), (4, .long w1), (6, .int 0)] rfl ?_
  exact sX10_spread_L8 ok v2 FU w1 0 M
theorem con_X10_spread (g : GP) (l : Launch) (v0 : Int64) (v2 : Int64)  (M : Mem) (r : Int64) (M2 : Mem) (h : fX10_spread v0 v2 M = some (r, M2)) : Con g l yX10_spread cX10_spread 7 (some FieldType.long) (rmL 3) [.long v0, .long v2] M (eJ r) M2 :=
  Con.of (own := RX10) (f := fX10_spread v0 v2 M) (by decide) (Nat.le_of_ble_eq_true rfl) rfl (fun x ok => wX10_spread ok v0 v2  M) r M2 h
def fX11_apart (v0 : Int32) (v1 : Int32) (M : Mem) : Option (Int32 × Mem) :=
  ob (fX11_without0 (irem v0 6) (irem v1 6) M) fun r1 M2 =>
  ob (fX11_without0 (v0 / 6) (v1 / 6) M2) fun r3 M4 =>
  some (r1 + r3, M4)
set_option maxRecDepth 20000 in
theorem wX11_apart {g : GP} {l : Launch} {x : CT} (ok : Ok g l x RX11 cX11_apart 2 (some FieldType.int) (rmL 3)) (v0 : Int32) (v1 : Int32)  (M : Mem) : Sw g l x (FinQ g x eI) 2 0 0 0 [(0, .int v0), (1, .int v1)] [] M (fX11_apart v0 v1 M) := by
  unfold fX11_apart
  refine r_iload_n (pc := 0) ok 0 dX11_apart_0 rfl ?_
  refine r_bipush (pc := 1) ok 6 dX11_apart_1 (by decide) ?_
  refine r_iremc (pc := 3) ok (by decide) dX11_apart_3 ?_
  refine r_iload_n (pc := 4) ok 1 dX11_apart_4 rfl ?_
  refine r_bipush (pc := 5) ok 6 dX11_apart_5 (by decide) ?_
  refine r_iremc (pc := 7) ok (by decide) dX11_apart_7 ?_
  refine r_callS0 (pc := 8) ok [.int (irem v0 6), .int (irem v1 6)] [] 2 (fun r M2 h => con_X11_without0 g l (irem v0 6) (irem v1 6) _ r M2 h) cs_X11_88 (rmOk_L (by decide) (by decide)) dX11_apart_8 rfl rfl (Nat.le_of_ble_eq_true rfl) (fun r1 M2 => ?_)
  refine r_iload_n (pc := 11) ok 0 dX11_apart_11 rfl ?_
  refine r_bipush (pc := 12) ok 6 dX11_apart_12 (by decide) ?_
  refine r_idivc (pc := 14) ok (by decide) dX11_apart_14 ?_
  refine r_iload_n (pc := 15) ok 1 dX11_apart_15 rfl ?_
  refine r_bipush (pc := 16) ok 6 dX11_apart_16 (by decide) ?_
  refine r_idivc (pc := 18) ok (by decide) dX11_apart_18 ?_
  refine r_callS0 (pc := 19) ok [.int (v0 / 6), .int (v1 / 6)] [.int r1] 2 (fun r M2 h => con_X11_without0 g l (v0 / 6) (v1 / 6) _ r M2 h) cs_X11_88 (rmOk_L (by decide) (by decide)) dX11_apart_19 rfl rfl (Nat.le_of_ble_eq_true rfl) (fun r3 M4 => ?_)
  refine r_iadd (pc := 22) ok dX11_apart_22 ?_
  exact r_iret (pc := 23) ok (Nat.zero_le _) (Nat.zero_le _) rfl dX11_apart_23
theorem con_X11_apart (g : GP) (l : Launch) (v0 : Int32) (v1 : Int32)  (M : Mem) (r : Int32) (M2 : Mem) (h : fX11_apart v0 v1 M = some (r, M2)) : Con g l yX11_apart cX11_apart 2 (some FieldType.int) (rmL 3) [.int v0, .int v1] M (eI r) M2 :=
  Con.of (own := RX11) (f := fX11_apart v0 v1 M) (by decide) (Nat.le_of_ble_eq_true rfl) rfl (fun x ok => wX11_apart ok v0 v1  M) r M2 h
def fX10_lay (v1 : Int32) (v2 : Int32) (M : Mem) : Option (Int32 × Mem) :=
  ob (fX10_isCell v1 M) fun r1 M2 =>
  if r1 = 0 then
    (some (-5, M2))
  else
    (ob (fX10_within v2 0 999 M2) fun r3 M4 =>
    if r3 = 0 then
      (some (-7, M4))
    else
      (gd (inb v1 36)
      (lt (M4 16 0 v1.toNatClampNeg) fun w5 =>
      gd (inb v1 36)
      (lt (mst M4 16 0 v1.toNatClampNeg v2) fun M6 =>
      some (w5, M6)))))
set_option maxRecDepth 20000 in
theorem wX10_lay {g : GP} {l : Launch} {x : CT} (ok : Ok g l x RX10 cX10_lay 4 (some FieldType.int) (rmL 4)) (v1 : Int32) (v2 : Int32)  (M : Mem) : Sw g l x (FinQ g x eI) 4 0 0 0 [(0, .ref (gA g 0 0)), (1, .int v1), (2, .int v2)] [] M (fX10_lay v1 v2 M) := by
  unfold fX10_lay
  refine r_iload_n (pc := 0) ok 1 dX10_lay_0 rfl ?_
  refine r_callS0 (pc := 1) ok [.int v1] [] 3 (fun r M2 h => con_X10_isCell g l v1 _ r M2 h) cs_X10_87 (rmOk_L (by decide) (by decide)) dX10_lay_1 rfl rfl (Nat.le_of_ble_eq_true rfl) (fun r1 M2 => ?_)
  refine r_if_ne (pc := 4) ok 10 dX10_lay_4 (by decide) (fun _ => ?_) (fun _ => ?_)
  · refine r_bipush (pc := 7) ok (-5) dX10_lay_7 (by decide) ?_
    exact r_iret (pc := 9) ok (Nat.zero_le _) (Nat.zero_le _) rfl dX10_lay_9
  · refine r_iload_n (pc := 10) ok 2 dX10_lay_10 rfl ?_
    refine r_iconst (pc := 11) ok 0 dX10_lay_11 (by decide) ?_
    refine r_sipush (pc := 12) ok 999 dX10_lay_12 (by decide) ?_
    refine r_callS0 (pc := 15) ok [.int v2, .int 0, .int 999] [] 2 (fun r M2 h => con_X10_within g l v2 0 999 _ r M2 h) cs_X10_91 (rmOk_L (by decide) (by decide)) dX10_lay_15 rfl rfl (Nat.le_of_ble_eq_true rfl) (fun r3 M4 => ?_)
    refine r_if_ne (pc := 18) ok 24 dX10_lay_18 (by decide) (fun _ => ?_) (fun _ => ?_)
    · refine r_bipush (pc := 21) ok (-7) dX10_lay_21 (by decide) ?_
      exact r_iret (pc := 23) ok (Nat.zero_le _) (Nat.zero_le _) rfl dX10_lay_23
    · refine r_aload_n (pc := 24) ok 0 dX10_lay_24 rfl ?_
      refine r_getR (pc := 25) ok fr_0_4 (by decide) fl_X10_61 dX10_lay_25 ?_
      refine r_getRN (pc := 28) ok fr_15_2 (by decide) flN_X10_95 dX10_lay_28 ?_
      refine r_iload_n (pc := 31) ok 1 dX10_lay_31 rfl ?_
      refine r_iald (pc := 32) ok ik_16 (by decide) dX10_lay_32 (fun _ => ?_)
      refine r_nmi (fun w5 => ?_)
      refine r_istore_n (pc := 33) ok [(3, .int w5), (0, .ref (gA g 0 0)), (1, .int v1), (2, .int v2)] dX10_lay_33 rfl (by decide) rfl ?_
      refine r_aload_n (pc := 34) ok 1 dX10_lay_34 rfl ?_
      refine r_getR (pc := 35) ok fr_0_4 (by decide) fl_X10_61 dX10_lay_35 ?_
      refine r_getRN (pc := 38) ok fr_15_2 (by decide) flN_X10_95 dX10_lay_38 ?_
      refine r_iload_n (pc := 41) ok 2 dX10_lay_41 rfl ?_
      refine r_iload_n (pc := 42) ok 3 dX10_lay_42 rfl ?_
      refine r_iast (pc := 43) ok ik_16 (by decide) dX10_lay_43 ?_
      refine r_nmM (fun M6 => ?_)
      refine r_iload_n (pc := 44) ok 0 dX10_lay_44 rfl ?_
      exact r_iret (pc := 45) ok (Nat.zero_le _) (Nat.zero_le _) rfl dX10_lay_45
theorem con_X10_lay (g : GP) (l : Launch) (v1 : Int32) (v2 : Int32)  (M : Mem) (r : Int32) (M2 : Mem) (h : fX10_lay v1 v2 M = some (r, M2)) : Con g l yX10_lay cX10_lay 4 (some FieldType.int) (rmL 4) [.ref (gA g 0 0), .int v1, .int v2] M (eI r) M2 :=
  Con.of (own := RX10) (f := fX10_lay v1 v2 M) (by decide) (Nat.le_of_ble_eq_true rfl) rfl (fun x ok => wX10_lay ok v1 v2  M) r M2 h
