def fX4_readSum_J37 (rec : Nat → Int32 → Mem → Option (Int32 × Mem)) (k12 : Int32 → Mem → Option (Int32 × Mem)) (vq1 : Int32) (vq2 : Int32) (M : Mem) : Option (Int32 × Mem) :=
  lt (M 1 0 5) fun w3 =>
  ob (fX4_advance M) fun r4 M5 =>
  ob (rec 4 vq1 M5) fun r6 M7 =>
  if r6 = 0 then
    (some (0, M7))
  else
    (ob (fX4_emit (-w3) M7) fun r8 M9 =>
    k12 (vq2 + 1) M9)
set_option maxRecDepth 20000 in
theorem sX4_readSum_J37 {g : GP} {l : Launch} {x : CT} {d : Nat} {rec : Nat → Int32 → Mem → Option (Int32 × Mem)} {k12 : Int32 → Mem → Option (Int32 × Mem)} (ok : Ok g l x RX4 cX4_readSum 4 (some FieldType.boolean) (rmL (d + 16))) (hr0 : ∀ (v : Int32) (M : Mem) (r : Int32) (M2 : Mem), rec 0 v M = some (r, M2) → Con g l yX4_readOr cX4_readOr 3 (some .boolean) (rmL (d + 15)) [.ref (gA g 1 0), .int v] M (eI r) M2) (hr1 : ∀ (v : Int32) (M : Mem) (r : Int32) (M2 : Mem), rec 1 v M = some (r, M2) → Con g l yX4_readAnd cX4_readAnd 3 (some .boolean) (rmL (d + 15)) [.ref (gA g 1 0), .int v] M (eI r) M2) (hr2 : ∀ (v : Int32) (M : Mem) (r : Int32) (M2 : Mem), rec 2 v M = some (r, M2) → Con g l yX4_readNot cX4_readNot 3 (some .boolean) (rmL (d + 15)) [.ref (gA g 1 0), .int v] M (eI r) M2) (hr3 : ∀ (v : Int32) (M : Mem) (r : Int32) (M2 : Mem), rec 3 v M = some (r, M2) → Con g l yX4_readSum cX4_readSum 4 (some .boolean) (rmL (d + 15)) [.ref (gA g 1 0), .int v] M (eI r) M2) (hr4 : ∀ (v : Int32) (M : Mem) (r : Int32) (M2 : Mem), rec 4 v M = some (r, M2) → Con g l yX4_readTerm cX4_readTerm 3 (some .boolean) (rmL (d + 15)) [.ref (gA g 1 0), .int v] M (eI r) M2) (hr5 : ∀ (v : Int32) (M : Mem) (r : Int32) (M2 : Mem), rec 5 v M = some (r, M2) → Con g l yX4_readOne cX4_readOne 2 (some .boolean) (rmL (d + 15)) [.ref (gA g 1 0), .int v] M (eI r) M2) (vq1 : Int32) (vq2 : Int32)  (hk12 : ∀ (vq2 : Int32) (M : Mem), Sw g l x (FinQ g x eI) 4 0 0 12 [(0, .ref (gA g 1 0)), (1, .int vq1), (2, .int vq2)] [] M (k12 vq2 M)) (M : Mem) : Sw g l x (FinQ g x eI) 4 0 0 37 [(0, .ref (gA g 1 0)), (1, .int vq1), (2, .int vq2)] [] M (fX4_readSum_J37 rec k12 vq1 vq2 M) := by
  unfold fX4_readSum_J37
  refine r_aload_n (pc := 37) ok 0 dX4_readSum_37 rfl ?_
  refine r_getI (pc := 38) ok fi_1_5 (by decide) fl_X4_41 dX4_readSum_38 ?_
  refine r_nmi (fun w3 => ?_)
  refine r_istore_n (pc := 41) ok [(3, .int w3), (0, .ref (gA g 1 0)), (1, .int vq1), (2, .int vq2)] dX4_readSum_41 rfl (by decide) rfl ?_
  refine r_aload_n (pc := 42) ok 1 dX4_readSum_42 rfl ?_
  refine r_callV0 (pc := 43) ok [] [] 9 (fun rZ MZ hZ => con_X4_advance g l  _ rZ MZ hZ) cv_X4_31 ok_1 (rmOk_L (by omega) (by decide)) dX4_readSum_43 rfl rfl (Nat.le_of_ble_eq_true rfl) (fun r4 M5 => ?_)
  refine r_aload_n (pc := 46) ok 1 dX4_readSum_46 rfl ?_
  refine r_iload_n (pc := 47) ok 2 dX4_readSum_47 rfl ?_
  refine r_callV0 (pc := 48) ok [.int vq1] [] (d + 15) (fun rZ MZ hZ => hr4 _ _ rZ MZ hZ) cv_X4_57 ok_1 (rmOk_L (by omega) (by decide)) dX4_readSum_48 rfl rfl (Nat.le_of_ble_eq_true rfl) (fun r6 M7 => ?_)
  refine r_if_ne (pc := 51) ok 56 dX4_readSum_51 (by decide) (fun _ => ?_) (fun _ => ?_)
  · refine r_iconst (pc := 54) ok 0 dX4_readSum_54 (by decide) ?_
    exact r_zret (pc := 55) ok (Nat.zero_le _) (Nat.zero_le _) rfl rfl dX4_readSum_55
  · refine r_aload_n (pc := 56) ok 1 dX4_readSum_56 rfl ?_
    refine r_iload_n (pc := 57) ok 0 dX4_readSum_57 rfl ?_
    refine r_ineg (pc := 58) ok dX4_readSum_58 ?_
    refine r_callV0 (pc := 59) ok [.int (-w3)] [] 2 (fun rZ MZ hZ => con_X4_emit g l (-w3) _ rZ MZ hZ) cv_X4_47 ok_1 (rmOk_L (by omega) (by decide)) dX4_readSum_59 rfl rfl (Nat.le_of_ble_eq_true rfl) (fun r8 M9 => ?_)
    refine r_iinc (pc := 62) ok 3 (vq2 + 1) [(2, .int (vq2 + 1)), (3, .int w3), (0, .ref (gA g 1 0)), (1, .int vq1)] dX4_readSum_62 rfl (congrArg (fun z => vq2 + z) (by decide : Int32.ofInt 1 = (1 : Int32))) (by decide) rfl ?_
    refine r_goto (pc := 65) ok 12 dX4_readSum_65 (by decide) ?_
    refine r_lv [2, 3, 0] [(0, .ref (gA g 1 0)), (1, .int vq1), (2, .int (vq2 + 1))] rfl ?_
    exact hk12 (vq2 + 1) M9
def fX4_readSum_B12 (rec : Nat → Int32 → Mem → Option (Int32 × Mem)) (vq1 : Int32) (k12 : Int32 → Mem → Option (Int32 × Mem)) (vq2 : Int32) (M : Mem) : Option (Int32 × Mem) :=
  if 160 ≤ vq2 then
    (some (1, M))
  else
    (if (M 1 0 5) = 43 then
      (fX4_readSum_J37 rec k12 vq1 vq2 M)
    else
      (if (M 1 0 5) = 45 then
        (fX4_readSum_J37 rec k12 vq1 vq2 M)
      else
        (some (1, M))))
def fX4_readSum_L12 (rec : Nat → Int32 → Mem → Option (Int32 × Mem)) (vq1 : Int32) : Nat → Int32 → Mem → Option (Int32 × Mem)
  | 0, _, _ => none
  | n + 1, vq2, M => fX4_readSum_B12 rec vq1 (fX4_readSum_L12 rec vq1 n) vq2 M
set_option maxRecDepth 20000 in
theorem sX4_readSum_B12 {g : GP} {l : Launch} {x : CT} {d : Nat} {rec : Nat → Int32 → Mem → Option (Int32 × Mem)} (ok : Ok g l x RX4 cX4_readSum 4 (some FieldType.boolean) (rmL (d + 16))) (hr0 : ∀ (v : Int32) (M : Mem) (r : Int32) (M2 : Mem), rec 0 v M = some (r, M2) → Con g l yX4_readOr cX4_readOr 3 (some .boolean) (rmL (d + 15)) [.ref (gA g 1 0), .int v] M (eI r) M2) (hr1 : ∀ (v : Int32) (M : Mem) (r : Int32) (M2 : Mem), rec 1 v M = some (r, M2) → Con g l yX4_readAnd cX4_readAnd 3 (some .boolean) (rmL (d + 15)) [.ref (gA g 1 0), .int v] M (eI r) M2) (hr2 : ∀ (v : Int32) (M : Mem) (r : Int32) (M2 : Mem), rec 2 v M = some (r, M2) → Con g l yX4_readNot cX4_readNot 3 (some .boolean) (rmL (d + 15)) [.ref (gA g 1 0), .int v] M (eI r) M2) (hr3 : ∀ (v : Int32) (M : Mem) (r : Int32) (M2 : Mem), rec 3 v M = some (r, M2) → Con g l yX4_readSum cX4_readSum 4 (some .boolean) (rmL (d + 15)) [.ref (gA g 1 0), .int v] M (eI r) M2) (hr4 : ∀ (v : Int32) (M : Mem) (r : Int32) (M2 : Mem), rec 4 v M = some (r, M2) → Con g l yX4_readTerm cX4_readTerm 3 (some .boolean) (rmL (d + 15)) [.ref (gA g 1 0), .int v] M (eI r) M2) (hr5 : ∀ (v : Int32) (M : Mem) (r : Int32) (M2 : Mem), rec 5 v M = some (r, M2) → Con g l yX4_readOne cX4_readOne 2 (some .boolean) (rmL (d + 15)) [.ref (gA g 1 0), .int v] M (eI r) M2) (vq1 : Int32)  (k12 : Int32 → Mem → Option (Int32 × Mem)) (hk12 : ∀ (vq2 : Int32) (M : Mem), Sw g l x (FinQ g x eI) 4 0 0 12 [(0, .ref (gA g 1 0)), (1, .int vq1), (2, .int vq2)] [] M (k12 vq2 M)) (vq2 : Int32) (M : Mem) : Sw g l x (FinQ g x eI) 4 0 0 12 [(0, .ref (gA g 1 0)), (1, .int vq1), (2, .int vq2)] [] M (fX4_readSum_B12 rec vq1 k12 vq2 M) := by
  unfold fX4_readSum_B12
  refine r_iload_n (pc := 12) ok 2 dX4_readSum_12 rfl ?_
  refine r_sipush (pc := 13) ok 160 dX4_readSum_13 (by decide) ?_
  refine r_icmp_ge (pc := 16) ok 68 dX4_readSum_16 (by decide) (fun _ => ?_) (fun _ => ?_)
  · refine r_iconst (pc := 68) ok 1 dX4_readSum_68 (by decide) ?_
    exact r_zret (pc := 69) ok (Nat.zero_le _) (Nat.zero_le _) rfl rfl dX4_readSum_69
  · refine r_aload_n (pc := 19) ok 0 dX4_readSum_19 rfl ?_
    refine r_getI (pc := 20) ok fi_1_5 (by decide) fl_X4_41 dX4_readSum_20 ?_
    refine r_bipush (pc := 23) ok 43 dX4_readSum_23 (by decide) ?_
    refine r_icmp_eq (pc := 25) ok 37 dX4_readSum_25 (by decide) (fun _ => ?_) (fun _ => ?_)
    · refine r_lv [0, 1, 2] [(0, .ref (gA g 1 0)), (1, .int vq1), (2, .int vq2)] rfl ?_
      exact sX4_readSum_J37 ok hr0 hr1 hr2 hr3 hr4 hr5 vq1 vq2 hk12 M
    · refine r_aload_n (pc := 28) ok 0 dX4_readSum_28 rfl ?_
      refine r_getI (pc := 29) ok fi_1_5 (by decide) fl_X4_41 dX4_readSum_29 ?_
      refine r_bipush (pc := 32) ok 45 dX4_readSum_32 (by decide) ?_
      refine r_icmp_ne (pc := 34) ok 68 dX4_readSum_34 (by decide) (fun _ => ?_) (fun _ => ?_)
      · refine r_lv [0, 1, 2] [(0, .ref (gA g 1 0)), (1, .int vq1), (2, .int vq2)] rfl ?_
        exact sX4_readSum_J37 ok hr0 hr1 hr2 hr3 hr4 hr5 vq1 vq2 hk12 M
      · refine r_iconst (pc := 68) ok 1 dX4_readSum_68 (by decide) ?_
        exact r_zret (pc := 69) ok (Nat.zero_le _) (Nat.zero_le _) rfl rfl dX4_readSum_69
theorem sX4_readSum_L12 {g : GP} {l : Launch} {x : CT} {d : Nat} {rec : Nat → Int32 → Mem → Option (Int32 × Mem)} (ok : Ok g l x RX4 cX4_readSum 4 (some FieldType.boolean) (rmL (d + 16))) (hr0 : ∀ (v : Int32) (M : Mem) (r : Int32) (M2 : Mem), rec 0 v M = some (r, M2) → Con g l yX4_readOr cX4_readOr 3 (some .boolean) (rmL (d + 15)) [.ref (gA g 1 0), .int v] M (eI r) M2) (hr1 : ∀ (v : Int32) (M : Mem) (r : Int32) (M2 : Mem), rec 1 v M = some (r, M2) → Con g l yX4_readAnd cX4_readAnd 3 (some .boolean) (rmL (d + 15)) [.ref (gA g 1 0), .int v] M (eI r) M2) (hr2 : ∀ (v : Int32) (M : Mem) (r : Int32) (M2 : Mem), rec 2 v M = some (r, M2) → Con g l yX4_readNot cX4_readNot 3 (some .boolean) (rmL (d + 15)) [.ref (gA g 1 0), .int v] M (eI r) M2) (hr3 : ∀ (v : Int32) (M : Mem) (r : Int32) (M2 : Mem), rec 3 v M = some (r, M2) → Con g l yX4_readSum cX4_readSum 4 (some .boolean) (rmL (d + 15)) [.ref (gA g 1 0), .int v] M (eI r) M2) (hr4 : ∀ (v : Int32) (M : Mem) (r : Int32) (M2 : Mem), rec 4 v M = some (r, M2) → Con g l yX4_readTerm cX4_readTerm 3 (some .boolean) (rmL (d + 15)) [.ref (gA g 1 0), .int v] M (eI r) M2) (hr5 : ∀ (v : Int32) (M : Mem) (r : Int32) (M2 : Mem), rec 5 v M = some (r, M2) → Con g l yX4_readOne cX4_readOne 2 (some .boolean) (rmL (d + 15)) [.ref (gA g 1 0), .int v] M (eI r) M2) (vq1 : Int32)  : ∀ (n : Nat) (vq2 : Int32) (M : Mem), Sw g l x (FinQ g x eI) 4 0 0 12 [(0, .ref (gA g 1 0)), (1, .int vq1), (2, .int vq2)] [] M (fX4_readSum_L12 rec vq1 n vq2 M) := by
  intro n
  induction n with
  | zero => intros; exact r_none
  | succ n ih => intro vq2 M; exact sX4_readSum_B12 ok hr0 hr1 hr2 hr3 hr4 hr5 vq1  _ ih vq2 M
def fX4_readSum_b (rec : Nat → Int32 → Mem → Option (Int32 × Mem)) (vq1 : Int32) (M : Mem) : Option (Int32 × Mem) :=
  ob (rec 4 vq1 M) fun r1 M2 =>
  if r1 = 0 then
    (some (0, M2))
  else
    (fX4_readSum_L12 rec vq1 FU 0 M2)
set_option maxRecDepth 20000 in
theorem wX4_readSum_b {g : GP} {l : Launch} {x : CT} {d : Nat} {rec : Nat → Int32 → Mem → Option (Int32 × Mem)} (ok : Ok g l x RX4 cX4_readSum 4 (some FieldType.boolean) (rmL (d + 16))) (hr0 : ∀ (v : Int32) (M : Mem) (r : Int32) (M2 : Mem), rec 0 v M = some (r, M2) → Con g l yX4_readOr cX4_readOr 3 (some .boolean) (rmL (d + 15)) [.ref (gA g 1 0), .int v] M (eI r) M2) (hr1 : ∀ (v : Int32) (M : Mem) (r : Int32) (M2 : Mem), rec 1 v M = some (r, M2) → Con g l yX4_readAnd cX4_readAnd 3 (some .boolean) (rmL (d + 15)) [.ref (gA g 1 0), .int v] M (eI r) M2) (hr2 : ∀ (v : Int32) (M : Mem) (r : Int32) (M2 : Mem), rec 2 v M = some (r, M2) → Con g l yX4_readNot cX4_readNot 3 (some .boolean) (rmL (d + 15)) [.ref (gA g 1 0), .int v] M (eI r) M2) (hr3 : ∀ (v : Int32) (M : Mem) (r : Int32) (M2 : Mem), rec 3 v M = some (r, M2) → Con g l yX4_readSum cX4_readSum 4 (some .boolean) (rmL (d + 15)) [.ref (gA g 1 0), .int v] M (eI r) M2) (hr4 : ∀ (v : Int32) (M : Mem) (r : Int32) (M2 : Mem), rec 4 v M = some (r, M2) → Con g l yX4_readTerm cX4_readTerm 3 (some .boolean) (rmL (d + 15)) [.ref (gA g 1 0), .int v] M (eI r) M2) (hr5 : ∀ (v : Int32) (M : Mem) (r : Int32) (M2 : Mem), rec 5 v M = some (r, M2) → Con g l yX4_readOne cX4_readOne 2 (some .boolean) (rmL (d + 15)) [.ref (gA g 1 0), .int v] M (eI r) M2) (vq1 : Int32)  (M : Mem) : Sw g l x (FinQ g x eI) 4 0 0 0 [(0, .ref (gA g 1 0)), (1, .int vq1)] [] M (fX4_readSum_b rec vq1 M) := by
  unfold fX4_readSum_b
  refine r_aload_n (pc := 0) ok 0 dX4_readSum_0 rfl ?_
  refine r_iload_n (pc := 1) ok 1 dX4_readSum_1 rfl ?_
  refine r_callV0 (pc := 2) ok [.int vq1] [] (d + 15) (fun rZ MZ hZ => hr4 _ _ rZ MZ hZ) cv_X4_57 ok_1 (rmOk_L (by omega) (by decide)) dX4_readSum_2 rfl rfl (Nat.le_of_ble_eq_true rfl) (fun r1 M2 => ?_)
  refine r_if_ne (pc := 5) ok 10 dX4_readSum_5 (by decide) (fun _ => ?_) (fun _ => ?_)
  · refine r_iconst (pc := 8) ok 0 dX4_readSum_8 (by decide) ?_
    exact r_zret (pc := 9) ok (Nat.zero_le _) (Nat.zero_le _) rfl rfl dX4_readSum_9
  · refine r_iconst (pc := 10) ok 0 dX4_readSum_10 (by decide) ?_
    refine r_istore_n (pc := 11) ok [(2, .int 0), (0, .ref (gA g 1 0)), (1, .int vq1)] dX4_readSum_11 rfl (by decide) rfl ?_
    refine r_lv [1, 2, 0] [(0, .ref (gA g 1 0)), (1, .int vq1), (2, .int 0)] rfl ?_
    exact sX4_readSum_L12 ok hr0 hr1 hr2 hr3 hr4 hr5 vq1 FU 0 M2
def fX4_readTerm_B12 (rec : Nat → Int32 → Mem → Option (Int32 × Mem)) (vq1 : Int32) (k12 : Int32 → Mem → Option (Int32 × Mem)) (vq2 : Int32) (M : Mem) : Option (Int32 × Mem) :=
  if 160 ≤ vq2 then
    (some (1, M))
  else
    (if (M 1 0 5) = 42 then
      (ob (fX4_advance M) fun r3 M4 =>
      ob (rec 5 vq1 M4) fun r5 M6 =>
      if r5 = 0 then
        (some (0, M6))
      else
        (ob (fX4_emit (-42) M6) fun r7 M8 =>
        k12 (vq2 + 1) M8))
    else
      (some (1, M)))
def fX4_readTerm_L12 (rec : Nat → Int32 → Mem → Option (Int32 × Mem)) (vq1 : Int32) : Nat → Int32 → Mem → Option (Int32 × Mem)
  | 0, _, _ => none
  | n + 1, vq2, M => fX4_readTerm_B12 rec vq1 (fX4_readTerm_L12 rec vq1 n) vq2 M
set_option maxRecDepth 20000 in
theorem sX4_readTerm_B12 {g : GP} {l : Launch} {x : CT} {d : Nat} {rec : Nat → Int32 → Mem → Option (Int32 × Mem)} (ok : Ok g l x RX4 cX4_readTerm 3 (some FieldType.boolean) (rmL (d + 16))) (hr0 : ∀ (v : Int32) (M : Mem) (r : Int32) (M2 : Mem), rec 0 v M = some (r, M2) → Con g l yX4_readOr cX4_readOr 3 (some .boolean) (rmL (d + 15)) [.ref (gA g 1 0), .int v] M (eI r) M2) (hr1 : ∀ (v : Int32) (M : Mem) (r : Int32) (M2 : Mem), rec 1 v M = some (r, M2) → Con g l yX4_readAnd cX4_readAnd 3 (some .boolean) (rmL (d + 15)) [.ref (gA g 1 0), .int v] M (eI r) M2) (hr2 : ∀ (v : Int32) (M : Mem) (r : Int32) (M2 : Mem), rec 2 v M = some (r, M2) → Con g l yX4_readNot cX4_readNot 3 (some .boolean) (rmL (d + 15)) [.ref (gA g 1 0), .int v] M (eI r) M2) (hr3 : ∀ (v : Int32) (M : Mem) (r : Int32) (M2 : Mem), rec 3 v M = some (r, M2) → Con g l yX4_readSum cX4_readSum 4 (some .boolean) (rmL (d + 15)) [.ref (gA g 1 0), .int v] M (eI r) M2) (hr4 : ∀ (v : Int32) (M : Mem) (r : Int32) (M2 : Mem), rec 4 v M = some (r, M2) → Con g l yX4_readTerm cX4_readTerm 3 (some .boolean) (rmL (d + 15)) [.ref (gA g 1 0), .int v] M (eI r) M2) (hr5 : ∀ (v : Int32) (M : Mem) (r : Int32) (M2 : Mem), rec 5 v M = some (r, M2) → Con g l yX4_readOne cX4_readOne 2 (some .boolean) (rmL (d + 15)) [.ref (gA g 1 0), .int v] M (eI r) M2) (vq1 : Int32)  (k12 : Int32 → Mem → Option (Int32 × Mem)) (hk12 : ∀ (vq2 : Int32) (M : Mem), Sw g l x (FinQ g x eI) 3 0 0 12 [(0, .ref (gA g 1 0)), (1, .int vq1), (2, .int vq2)] [] M (k12 vq2 M)) (vq2 : Int32) (M : Mem) : Sw g l x (FinQ g x eI) 3 0 0 12 [(0, .ref (gA g 1 0)), (1, .int vq1), (2, .int vq2)] [] M (fX4_readTerm_B12 rec vq1 k12 vq2 M) := by
  unfold fX4_readTerm_B12
  refine r_iload_n (pc := 12) ok 2 dX4_readTerm_12 rfl ?_
  refine r_sipush (pc := 13) ok 160 dX4_readTerm_13 (by decide) ?_
  refine r_icmp_ge (pc := 16) ok 54 dX4_readTerm_16 (by decide) (fun _ => ?_) (fun _ => ?_)
  · refine r_iconst (pc := 54) ok 1 dX4_readTerm_54 (by decide) ?_
    exact r_zret (pc := 55) ok (Nat.zero_le _) (Nat.zero_le _) rfl rfl dX4_readTerm_55
  · refine r_aload_n (pc := 19) ok 0 dX4_readTerm_19 rfl ?_
    refine r_getI (pc := 20) ok fi_1_5 (by decide) fl_X4_41 dX4_readTerm_20 ?_
    refine r_bipush (pc := 23) ok 42 dX4_readTerm_23 (by decide) ?_
    refine r_icmp_ne (pc := 25) ok 54 dX4_readTerm_25 (by decide) (fun _ => ?_) (fun _ => ?_)
    · refine r_aload_n (pc := 28) ok 0 dX4_readTerm_28 rfl ?_
      refine r_callV0 (pc := 29) ok [] [] 9 (fun rZ MZ hZ => con_X4_advance g l  _ rZ MZ hZ) cv_X4_31 ok_1 (rmOk_L (by omega) (by decide)) dX4_readTerm_29 rfl rfl (Nat.le_of_ble_eq_true rfl) (fun r3 M4 => ?_)
      refine r_aload_n (pc := 32) ok 0 dX4_readTerm_32 rfl ?_
      refine r_iload_n (pc := 33) ok 1 dX4_readTerm_33 rfl ?_
      refine r_callV0 (pc := 34) ok [.int vq1] [] (d + 15) (fun rZ MZ hZ => hr5 _ _ rZ MZ hZ) cv_X4_60 ok_1 (rmOk_L (by omega) (by decide)) dX4_readTerm_34 rfl rfl (Nat.le_of_ble_eq_true rfl) (fun r5 M6 => ?_)
      refine r_if_ne (pc := 37) ok 42 dX4_readTerm_37 (by decide) (fun _ => ?_) (fun _ => ?_)
      · refine r_iconst (pc := 40) ok 0 dX4_readTerm_40 (by decide) ?_
        exact r_zret (pc := 41) ok (Nat.zero_le _) (Nat.zero_le _) rfl rfl dX4_readTerm_41
      · refine r_aload_n (pc := 42) ok 0 dX4_readTerm_42 rfl ?_
        refine r_bipush (pc := 43) ok (-42) dX4_readTerm_43 (by decide) ?_
        refine r_callV0 (pc := 45) ok [.int (-42)] [] 2 (fun rZ MZ hZ => con_X4_emit g l (-42) _ rZ MZ hZ) cv_X4_47 ok_1 (rmOk_L (by omega) (by decide)) dX4_readTerm_45 rfl rfl (Nat.le_of_ble_eq_true rfl) (fun r7 M8 => ?_)
        refine r_iinc (pc := 48) ok 2 (vq2 + 1) [(2, .int (vq2 + 1)), (0, .ref (gA g 1 0)), (1, .int vq1)] dX4_readTerm_48 rfl (congrArg (fun z => vq2 + z) (by decide : Int32.ofInt 1 = (1 : Int32))) (by decide) rfl ?_
        refine r_goto (pc := 51) ok 12 dX4_readTerm_51 (by decide) ?_
        refine r_lv [1, 2, 0] [(0, .ref (gA g 1 0)), (1, .int vq1), (2, .int (vq2 + 1))] rfl ?_
        exact hk12 (vq2 + 1) M8
    · refine r_iconst (pc := 54) ok 1 dX4_readTerm_54 (by decide) ?_
      exact r_zret (pc := 55) ok (Nat.zero_le _) (Nat.zero_le _) rfl rfl dX4_readTerm_55
theorem sX4_readTerm_L12 {g : GP} {l : Launch} {x : CT} {d : Nat} {rec : Nat → Int32 → Mem → Option (Int32 × Mem)} (ok : Ok g l x RX4 cX4_readTerm 3 (some FieldType.boolean) (rmL (d + 16))) (hr0 : ∀ (v : Int32) (M : Mem) (r : Int32) (M2 : Mem), rec 0 v M = some (r, M2) → Con g l yX4_readOr cX4_readOr 3 (some .boolean) (rmL (d + 15)) [.ref (gA g 1 0), .int v] M (eI r) M2) (hr1 : ∀ (v : Int32) (M : Mem) (r : Int32) (M2 : Mem), rec 1 v M = some (r, M2) → Con g l yX4_readAnd cX4_readAnd 3 (some .boolean) (rmL (d + 15)) [.ref (gA g 1 0), .int v] M (eI r) M2) (hr2 : ∀ (v : Int32) (M : Mem) (r : Int32) (M2 : Mem), rec 2 v M = some (r, M2) → Con g l yX4_readNot cX4_readNot 3 (some .boolean) (rmL (d + 15)) [.ref (gA g 1 0), .int v] M (eI r) M2) (hr3 : ∀ (v : Int32) (M : Mem) (r : Int32) (M2 : Mem), rec 3 v M = some (r, M2) → Con g l yX4_readSum cX4_readSum 4 (some .boolean) (rmL (d + 15)) [.ref (gA g 1 0), .int v] M (eI r) M2) (hr4 : ∀ (v : Int32) (M : Mem) (r : Int32) (M2 : Mem), rec 4 v M = some (r, M2) → Con g l yX4_readTerm cX4_readTerm 3 (some .boolean) (rmL (d + 15)) [.ref (gA g 1 0), .int v] M (eI r) M2) (hr5 : ∀ (v : Int32) (M : Mem) (r : Int32) (M2 : Mem), rec 5 v M = some (r, M2) → Con g l yX4_readOne cX4_readOne 2 (some .boolean) (rmL (d + 15)) [.ref (gA g 1 0), .int v] M (eI r) M2) (vq1 : Int32)  : ∀ (n : Nat) (vq2 : Int32) (M : Mem), Sw g l x (FinQ g x eI) 3 0 0 12 [(0, .ref (gA g 1 0)), (1, .int vq1), (2, .int vq2)] [] M (fX4_readTerm_L12 rec vq1 n vq2 M) := by
  intro n
  induction n with
  | zero => intros; exact r_none
  | succ n ih => intro vq2 M; exact sX4_readTerm_B12 ok hr0 hr1 hr2 hr3 hr4 hr5 vq1  _ ih vq2 M
def fX4_readTerm_b (rec : Nat → Int32 → Mem → Option (Int32 × Mem)) (vq1 : Int32) (M : Mem) : Option (Int32 × Mem) :=
  ob (rec 5 vq1 M) fun r1 M2 =>
  if r1 = 0 then
    (some (0, M2))
  else
    (fX4_readTerm_L12 rec vq1 FU 0 M2)
set_option maxRecDepth 20000 in
theorem wX4_readTerm_b {g : GP} {l : Launch} {x : CT} {d : Nat} {rec : Nat → Int32 → Mem → Option (Int32 × Mem)} (ok : Ok g l x RX4 cX4_readTerm 3 (some FieldType.boolean) (rmL (d + 16))) (hr0 : ∀ (v : Int32) (M : Mem) (r : Int32) (M2 : Mem), rec 0 v M = some (r, M2) → Con g l yX4_readOr cX4_readOr 3 (some .boolean) (rmL (d + 15)) [.ref (gA g 1 0), .int v] M (eI r) M2) (hr1 : ∀ (v : Int32) (M : Mem) (r : Int32) (M2 : Mem), rec 1 v M = some (r, M2) → Con g l yX4_readAnd cX4_readAnd 3 (some .boolean) (rmL (d + 15)) [.ref (gA g 1 0), .int v] M (eI r) M2) (hr2 : ∀ (v : Int32) (M : Mem) (r : Int32) (M2 : Mem), rec 2 v M = some (r, M2) → Con g l yX4_readNot cX4_readNot 3 (some .boolean) (rmL (d + 15)) [.ref (gA g 1 0), .int v] M (eI r) M2) (hr3 : ∀ (v : Int32) (M : Mem) (r : Int32) (M2 : Mem), rec 3 v M = some (r, M2) → Con g l yX4_readSum cX4_readSum 4 (some .boolean) (rmL (d + 15)) [.ref (gA g 1 0), .int v] M (eI r) M2) (hr4 : ∀ (v : Int32) (M : Mem) (r : Int32) (M2 : Mem), rec 4 v M = some (r, M2) → Con g l yX4_readTerm cX4_readTerm 3 (some .boolean) (rmL (d + 15)) [.ref (gA g 1 0), .int v] M (eI r) M2) (hr5 : ∀ (v : Int32) (M : Mem) (r : Int32) (M2 : Mem), rec 5 v M = some (r, M2) → Con g l yX4_readOne cX4_readOne 2 (some .boolean) (rmL (d + 15)) [.ref (gA g 1 0), .int v] M (eI r) M2) (vq1 : Int32)  (M : Mem) : Sw g l x (FinQ g x eI) 3 0 0 0 [(0, .ref (gA g 1 0)), (1, .int vq1)] [] M (fX4_readTerm_b rec vq1 M) := by
  unfold fX4_readTerm_b
  refine r_aload_n (pc := 0) ok 0 dX4_readTerm_0 rfl ?_
  refine r_iload_n (pc := 1) ok 1 dX4_readTerm_1 rfl ?_
  refine r_callV0 (pc := 2) ok [.int vq1] [] (d + 15) (fun rZ MZ hZ => hr5 _ _ rZ MZ hZ) cv_X4_60 ok_1 (rmOk_L (by omega) (by decide)) dX4_readTerm_2 rfl rfl (Nat.le_of_ble_eq_true rfl) (fun r1 M2 => ?_)
  refine r_if_ne (pc := 5) ok 10 dX4_readTerm_5 (by decide) (fun _ => ?_) (fun _ => ?_)
  · refine r_iconst (pc := 8) ok 0 dX4_readTerm_8 (by decide) ?_
    exact r_zret (pc := 9) ok (Nat.zero_le _) (Nat.zero_le _) rfl rfl dX4_readTerm_9
  · refine r_iconst (pc := 10) ok 0 dX4_readTerm_10 (by decide) ?_
    refine r_istore_n (pc := 11) ok [(2, .int 0), (0, .ref (gA g 1 0)), (1, .int vq1)] dX4_readTerm_11 rfl (by decide) rfl ?_
    refine r_lv [1, 2, 0] [(0, .ref (gA g 1 0)), (1, .int vq1), (2, .int 0)] rfl ?_
    exact sX4_readTerm_L12 ok hr0 hr1 hr2 hr3 hr4 hr5 vq1 FU 0 M2
def fX4_skip (vq1 : Int32) (M : Mem) : Option (Int32 × Mem) :=
  if (M 1 0 5) = vq1 then
    (ob (fX4_advance M) fun r1 M2 =>
    some (1, M2))
  else
    (some (0, M))
set_option maxRecDepth 20000 in
theorem wX4_skip {g : GP} {l : Launch} {x : CT} (ok : Ok g l x RX4 cX4_skip 2 (some FieldType.boolean) (rmL 10)) (vq1 : Int32)  (M : Mem) : Sw g l x (FinQ g x eI) 2 0 0 0 [(0, .ref (gA g 1 0)), (1, .int vq1)] [] M (fX4_skip vq1 M) := by
  unfold fX4_skip
  refine r_aload_n (pc := 0) ok 0 dX4_skip_0 rfl ?_
  refine r_getI (pc := 1) ok fi_1_5 (by decide) fl_X4_41 dX4_skip_1 ?_
  refine r_iload_n (pc := 4) ok 1 dX4_skip_4 rfl ?_
  refine r_icmp_eq (pc := 5) ok 10 dX4_skip_5 (by decide) (fun _ => ?_) (fun _ => ?_)
  · refine r_aload_n (pc := 10) ok 0 dX4_skip_10 rfl ?_
    refine r_callV0 (pc := 11) ok [] [] 9 (fun rZ MZ hZ => con_X4_advance g l  _ rZ MZ hZ) cv_X4_31 ok_1 (rmOk_L (by decide) (by decide)) dX4_skip_11 rfl rfl (Nat.le_of_ble_eq_true rfl) (fun r1 M2 => ?_)
    refine r_iconst (pc := 14) ok 1 dX4_skip_14 (by decide) ?_
    exact r_zret (pc := 15) ok (Nat.zero_le _) (Nat.zero_le _) rfl rfl dX4_skip_15
  · refine r_iconst (pc := 8) ok 0 dX4_skip_8 (by decide) ?_
    exact r_zret (pc := 9) ok (Nat.zero_le _) (Nat.zero_le _) rfl rfl dX4_skip_9
theorem con_X4_skip (g : GP) (l : Launch) (vq1 : Int32)  (M : Mem) (r : Int32) (M2 : Mem) (h : fX4_skip vq1 M = some (r, M2)) : Con g l yX4_skip cX4_skip 2 (some FieldType.boolean) (rmL 10) [.ref (gA g 1 0), .int vq1] M (eI r) M2 :=
  Con.of (own := RX4) (f := fX4_skip vq1 M) (by decide) (Nat.le_of_ble_eq_true rfl) rfl (fun x ok => wX4_skip ok vq1  M) r M2 h
def fX4_readOne_J38 (rec : Nat → Int32 → Mem → Option (Int32 × Mem)) (s0 : Int32) (M : Mem) : Option (Int32 × Mem) :=
  ob (fX4_emit s0 M) fun r1 M2 =>
  ob (fX4_advance M2) fun r3 M4 =>
  some (1, M4)
set_option maxRecDepth 20000 in
theorem sX4_readOne_J38 {g : GP} {l : Launch} {x : CT} {d : Nat} {rec : Nat → Int32 → Mem → Option (Int32 × Mem)} (ok : Ok g l x RX4 cX4_readOne 2 (some FieldType.boolean) (rmL (d + 16))) (hr0 : ∀ (v : Int32) (M : Mem) (r : Int32) (M2 : Mem), rec 0 v M = some (r, M2) → Con g l yX4_readOr cX4_readOr 3 (some .boolean) (rmL (d + 15)) [.ref (gA g 1 0), .int v] M (eI r) M2) (hr1 : ∀ (v : Int32) (M : Mem) (r : Int32) (M2 : Mem), rec 1 v M = some (r, M2) → Con g l yX4_readAnd cX4_readAnd 3 (some .boolean) (rmL (d + 15)) [.ref (gA g 1 0), .int v] M (eI r) M2) (hr2 : ∀ (v : Int32) (M : Mem) (r : Int32) (M2 : Mem), rec 2 v M = some (r, M2) → Con g l yX4_readNot cX4_readNot 3 (some .boolean) (rmL (d + 15)) [.ref (gA g 1 0), .int v] M (eI r) M2) (hr3 : ∀ (v : Int32) (M : Mem) (r : Int32) (M2 : Mem), rec 3 v M = some (r, M2) → Con g l yX4_readSum cX4_readSum 4 (some .boolean) (rmL (d + 15)) [.ref (gA g 1 0), .int v] M (eI r) M2) (hr4 : ∀ (v : Int32) (M : Mem) (r : Int32) (M2 : Mem), rec 4 v M = some (r, M2) → Con g l yX4_readTerm cX4_readTerm 3 (some .boolean) (rmL (d + 15)) [.ref (gA g 1 0), .int v] M (eI r) M2) (hr5 : ∀ (v : Int32) (M : Mem) (r : Int32) (M2 : Mem), rec 5 v M = some (r, M2) → Con g l yX4_readOne cX4_readOne 2 (some .boolean) (rmL (d + 15)) [.ref (gA g 1 0), .int v] M (eI r) M2) (s0 : Int32)  (M : Mem) : Sw g l x (FinQ g x eI) 2 0 0 38 [(0, .ref (gA g 1 0))] [.int s0, .ref (gA g 1 0)] M (fX4_readOne_J38 rec s0 M) := by
  unfold fX4_readOne_J38
  refine r_callV0 (pc := 38) ok [.int s0] [] 2 (fun rZ MZ hZ => con_X4_emit g l s0 _ rZ MZ hZ) cv_X4_47 ok_1 (rmOk_L (by omega) (by decide)) dX4_readOne_38 rfl rfl (Nat.le_of_ble_eq_true rfl) (fun r1 M2 => ?_)
  refine r_aload_n (pc := 41) ok 0 dX4_readOne_41 rfl ?_
  refine r_callV0 (pc := 42) ok [] [] 9 (fun rZ MZ hZ => con_X4_advance g l  _ rZ MZ hZ) cv_X4_31 ok_1 (rmOk_L (by omega) (by decide)) dX4_readOne_42 rfl rfl (Nat.le_of_ble_eq_true rfl) (fun r3 M4 => ?_)
  refine r_iconst (pc := 45) ok 1 dX4_readOne_45 (by decide) ?_
  exact r_zret (pc := 46) ok (Nat.zero_le _) (Nat.zero_le _) rfl rfl dX4_readOne_46
def fX4_readOne_J16 (rec : Nat → Int32 → Mem → Option (Int32 × Mem))  (M : Mem) : Option (Int32 × Mem) :=
  if (M 1 0 5) = 2 then
    (fX4_readOne_J38 rec (M 1 0 6) M)
  else
    (fX4_readOne_J38 rec ((-1) - (M 1 0 6)) M)
set_option maxRecDepth 20000 in
theorem sX4_readOne_J16 {g : GP} {l : Launch} {x : CT} {d : Nat} {rec : Nat → Int32 → Mem → Option (Int32 × Mem)} (ok : Ok g l x RX4 cX4_readOne 2 (some FieldType.boolean) (rmL (d + 16))) (hr0 : ∀ (v : Int32) (M : Mem) (r : Int32) (M2 : Mem), rec 0 v M = some (r, M2) → Con g l yX4_readOr cX4_readOr 3 (some .boolean) (rmL (d + 15)) [.ref (gA g 1 0), .int v] M (eI r) M2) (hr1 : ∀ (v : Int32) (M : Mem) (r : Int32) (M2 : Mem), rec 1 v M = some (r, M2) → Con g l yX4_readAnd cX4_readAnd 3 (some .boolean) (rmL (d + 15)) [.ref (gA g 1 0), .int v] M (eI r) M2) (hr2 : ∀ (v : Int32) (M : Mem) (r : Int32) (M2 : Mem), rec 2 v M = some (r, M2) → Con g l yX4_readNot cX4_readNot 3 (some .boolean) (rmL (d + 15)) [.ref (gA g 1 0), .int v] M (eI r) M2) (hr3 : ∀ (v : Int32) (M : Mem) (r : Int32) (M2 : Mem), rec 3 v M = some (r, M2) → Con g l yX4_readSum cX4_readSum 4 (some .boolean) (rmL (d + 15)) [.ref (gA g 1 0), .int v] M (eI r) M2) (hr4 : ∀ (v : Int32) (M : Mem) (r : Int32) (M2 : Mem), rec 4 v M = some (r, M2) → Con g l yX4_readTerm cX4_readTerm 3 (some .boolean) (rmL (d + 15)) [.ref (gA g 1 0), .int v] M (eI r) M2) (hr5 : ∀ (v : Int32) (M : Mem) (r : Int32) (M2 : Mem), rec 5 v M = some (r, M2) → Con g l yX4_readOne cX4_readOne 2 (some .boolean) (rmL (d + 15)) [.ref (gA g 1 0), .int v] M (eI r) M2)   (M : Mem) : Sw g l x (FinQ g x eI) 2 0 0 16 [(0, .ref (gA g 1 0))] [] M (fX4_readOne_J16 rec  M) := by
  unfold fX4_readOne_J16
  refine r_aload_n (pc := 16) ok 0 dX4_readOne_16 rfl ?_
  refine r_aload_n (pc := 17) ok 0 dX4_readOne_17 rfl ?_
  refine r_getI (pc := 18) ok fi_1_5 (by decide) fl_X4_41 dX4_readOne_18 ?_
  refine r_iconst (pc := 21) ok 2 dX4_readOne_21 (by decide) ?_
  refine r_icmp_ne (pc := 22) ok 32 dX4_readOne_22 (by decide) (fun _ => ?_) (fun _ => ?_)
  · refine r_aload_n (pc := 25) ok 0 dX4_readOne_25 rfl ?_
    refine r_getI (pc := 26) ok fi_1_6 (by decide) fl_X4_63 dX4_readOne_26 ?_
    refine r_goto (pc := 29) ok 38 dX4_readOne_29 (by decide) ?_
    refine r_lv [0] [(0, .ref (gA g 1 0))] rfl ?_
    exact sX4_readOne_J38 ok hr0 hr1 hr2 hr3 hr4 hr5 (M 1 0 6) M
  · refine r_iconst (pc := 32) ok (-1) dX4_readOne_32 (by decide) ?_
    refine r_aload_n (pc := 33) ok 0 dX4_readOne_33 rfl ?_
    refine r_getI (pc := 34) ok fi_1_6 (by decide) fl_X4_63 dX4_readOne_34 ?_
    refine r_isub (pc := 37) ok dX4_readOne_37 ?_
    refine r_lv [0] [(0, .ref (gA g 1 0))] rfl ?_
    exact sX4_readOne_J38 ok hr0 hr1 hr2 hr3 hr4 hr5 ((-1) - (M 1 0 6)) M
def fX4_readOne_J65 (rec : Nat → Int32 → Mem → Option (Int32 × Mem)) (vq1 : Int32) (M : Mem) : Option (Int32 × Mem) :=
  if vq1 < 5 then
    (if (M 1 0 5) = 40 then
      (ob (fX4_advance M) fun r11 M12 =>
      ob (rec 0 (vq1 + 1) M12) fun r13 M14 =>
      if r13 = 0 then
        (some (0, M14))
      else
        (ob (fX4_skip 41 M14) fun r15 M16 =>
        if r15 = 0 then
          (some (0, M16))
        else
          (some (1, M16))))
    else
      (ob (fX4_advance M) fun r5 M6 =>
      ob (rec 5 (vq1 + 1) M6) fun r7 M8 =>
      if r7 = 0 then
        (some (0, M8))
      else
        (ob (fX4_emit (-10) M8) fun r9 M10 =>
        some (1, M10))))
  else
    (some (0, M))
set_option maxRecDepth 20000 in
theorem sX4_readOne_J65 {g : GP} {l : Launch} {x : CT} {d : Nat} {rec : Nat → Int32 → Mem → Option (Int32 × Mem)} (ok : Ok g l x RX4 cX4_readOne 2 (some FieldType.boolean) (rmL (d + 16))) (hr0 : ∀ (v : Int32) (M : Mem) (r : Int32) (M2 : Mem), rec 0 v M = some (r, M2) → Con g l yX4_readOr cX4_readOr 3 (some .boolean) (rmL (d + 15)) [.ref (gA g 1 0), .int v] M (eI r) M2) (hr1 : ∀ (v : Int32) (M : Mem) (r : Int32) (M2 : Mem), rec 1 v M = some (r, M2) → Con g l yX4_readAnd cX4_readAnd 3 (some .boolean) (rmL (d + 15)) [.ref (gA g 1 0), .int v] M (eI r) M2) (hr2 : ∀ (v : Int32) (M : Mem) (r : Int32) (M2 : Mem), rec 2 v M = some (r, M2) → Con g l yX4_readNot cX4_readNot 3 (some .boolean) (rmL (d + 15)) [.ref (gA g 1 0), .int v] M (eI r) M2) (hr3 : ∀ (v : Int32) (M : Mem) (r : Int32) (M2 : Mem), rec 3 v M = some (r, M2) → Con g l yX4_readSum cX4_readSum 4 (some .boolean) (rmL (d + 15)) [.ref (gA g 1 0), .int v] M (eI r) M2) (hr4 : ∀ (v : Int32) (M : Mem) (r : Int32) (M2 : Mem), rec 4 v M = some (r, M2) → Con g l yX4_readTerm cX4_readTerm 3 (some .boolean) (rmL (d + 15)) [.ref (gA g 1 0), .int v] M (eI r) M2) (hr5 : ∀ (v : Int32) (M : Mem) (r : Int32) (M2 : Mem), rec 5 v M = some (r, M2) → Con g l yX4_readOne cX4_readOne 2 (some .boolean) (rmL (d + 15)) [.ref (gA g 1 0), .int v] M (eI r) M2) (vq1 : Int32)  (M : Mem) : Sw g l x (FinQ g x eI) 2 0 0 65 [(0, .ref (gA g 1 0)), (1, .int vq1)] [] M (fX4_readOne_J65 rec vq1 M) := by
  unfold fX4_readOne_J65
  refine r_iload_n (pc := 65) ok 1 dX4_readOne_65 rfl ?_
  refine r_iconst (pc := 66) ok 5 dX4_readOne_66 (by decide) ?_
  refine r_icmp_lt (pc := 67) ok 72 dX4_readOne_67 (by decide) (fun _ => ?_) (fun _ => ?_)
  · refine r_aload_n (pc := 72) ok 0 dX4_readOne_72 rfl ?_
    refine r_getI (pc := 73) ok fi_1_5 (by decide) fl_X4_41 dX4_readOne_73 ?_
    refine r_bipush (pc := 76) ok 40 dX4_readOne_76 (by decide) ?_
    refine r_icmp_ne (pc := 78) ok 110 dX4_readOne_78 (by decide) (fun _ => ?_) (fun _ => ?_)
    · refine r_aload_n (pc := 81) ok 0 dX4_readOne_81 rfl ?_
      refine r_callV0 (pc := 82) ok [] [] 9 (fun rZ MZ hZ => con_X4_advance g l  _ rZ MZ hZ) cv_X4_31 ok_1 (rmOk_L (by omega) (by decide)) dX4_readOne_82 rfl rfl (Nat.le_of_ble_eq_true rfl) (fun r11 M12 => ?_)
      refine r_aload_n (pc := 85) ok 0 dX4_readOne_85 rfl ?_
      refine r_iload_n (pc := 86) ok 1 dX4_readOne_86 rfl ?_
      refine r_iconst (pc := 87) ok 1 dX4_readOne_87 (by decide) ?_
      refine r_iadd (pc := 88) ok dX4_readOne_88 ?_
      refine r_callV0 (pc := 89) ok [.int (vq1 + 1)] [] (d + 15) (fun rZ MZ hZ => hr0 _ _ rZ MZ hZ) cv_X4_38 ok_1 (rmOk_L (by omega) (by decide)) dX4_readOne_89 rfl rfl (Nat.le_of_ble_eq_true rfl) (fun r13 M14 => ?_)
      refine r_if_eq (pc := 92) ok 108 dX4_readOne_92 (by decide) (fun _ => ?_) (fun _ => ?_)
      · refine r_iconst (pc := 108) ok 0 dX4_readOne_108 (by decide) ?_
        exact r_zret (pc := 109) ok (Nat.zero_le _) (Nat.zero_le _) rfl rfl dX4_readOne_109
      · refine r_aload_n (pc := 95) ok 0 dX4_readOne_95 rfl ?_
        refine r_bipush (pc := 96) ok 41 dX4_readOne_96 (by decide) ?_
        refine r_callV0 (pc := 98) ok [.int 41] [] 10 (fun rZ MZ hZ => con_X4_skip g l 41 _ rZ MZ hZ) cv_X4_34 ok_1 (rmOk_L (by omega) (by decide)) dX4_readOne_98 rfl rfl (Nat.le_of_ble_eq_true rfl) (fun r15 M16 => ?_)
        refine r_if_eq (pc := 101) ok 108 dX4_readOne_101 (by decide) (fun _ => ?_) (fun _ => ?_)
        · refine r_iconst (pc := 108) ok 0 dX4_readOne_108 (by decide) ?_
          exact r_zret (pc := 109) ok (Nat.zero_le _) (Nat.zero_le _) rfl rfl dX4_readOne_109
        · refine r_iconst (pc := 104) ok 1 dX4_readOne_104 (by decide) ?_
          refine r_goto (pc := 105) ok 109 dX4_readOne_105 (by decide) ?_
          exact r_zret (pc := 109) ok (Nat.zero_le _) (Nat.zero_le _) rfl rfl dX4_readOne_109
    · refine r_aload_n (pc := 110) ok 0 dX4_readOne_110 rfl ?_
      refine r_callV0 (pc := 111) ok [] [] 9 (fun rZ MZ hZ => con_X4_advance g l  _ rZ MZ hZ) cv_X4_31 ok_1 (rmOk_L (by omega) (by decide)) dX4_readOne_111 rfl rfl (Nat.le_of_ble_eq_true rfl) (fun r5 M6 => ?_)
      refine r_aload_n (pc := 114) ok 0 dX4_readOne_114 rfl ?_
      refine r_iload_n (pc := 115) ok 1 dX4_readOne_115 rfl ?_
      refine r_iconst (pc := 116) ok 1 dX4_readOne_116 (by decide) ?_
      refine r_iadd (pc := 117) ok dX4_readOne_117 ?_
      refine r_callV0 (pc := 118) ok [.int (vq1 + 1)] [] (d + 15) (fun rZ MZ hZ => hr5 _ _ rZ MZ hZ) cv_X4_60 ok_1 (rmOk_L (by omega) (by decide)) dX4_readOne_118 rfl rfl (Nat.le_of_ble_eq_true rfl) (fun r7 M8 => ?_)
      refine r_if_ne (pc := 121) ok 126 dX4_readOne_121 (by decide) (fun _ => ?_) (fun _ => ?_)
      · refine r_iconst (pc := 124) ok 0 dX4_readOne_124 (by decide) ?_
        exact r_zret (pc := 125) ok (Nat.zero_le _) (Nat.zero_le _) rfl rfl dX4_readOne_125
      · refine r_aload_n (pc := 126) ok 0 dX4_readOne_126 rfl ?_
        refine r_bipush (pc := 127) ok (-10) dX4_readOne_127 (by decide) ?_
        refine r_callV0 (pc := 129) ok [.int (-10)] [] 2 (fun rZ MZ hZ => con_X4_emit g l (-10) _ rZ MZ hZ) cv_X4_47 ok_1 (rmOk_L (by omega) (by decide)) dX4_readOne_129 rfl rfl (Nat.le_of_ble_eq_true rfl) (fun r9 M10 => ?_)
        refine r_iconst (pc := 132) ok 1 dX4_readOne_132 (by decide) ?_
        exact r_zret (pc := 133) ok (Nat.zero_le _) (Nat.zero_le _) rfl rfl dX4_readOne_133
  · refine r_iconst (pc := 70) ok 0 dX4_readOne_70 (by decide) ?_
    exact r_zret (pc := 71) ok (Nat.zero_le _) (Nat.zero_le _) rfl rfl dX4_readOne_71
def fX4_readOne_b (rec : Nat → Int32 → Mem → Option (Int32 × Mem)) (vq1 : Int32) (M : Mem) : Option (Int32 × Mem) :=
  if (M 1 0 5) = 2 then
    (fX4_readOne_J16 rec M)
  else
    (if (M 1 0 5) = 3 then
      (fX4_readOne_J16 rec M)
    else
      (if (M 1 0 5) = 45 then
        (fX4_readOne_J65 rec vq1 M)
      else
        (if (M 1 0 5) = 40 then
          (fX4_readOne_J65 rec vq1 M)
        else
          (some (0, M)))))
set_option maxRecDepth 20000 in
theorem wX4_readOne_b {g : GP} {l : Launch} {x : CT} {d : Nat} {rec : Nat → Int32 → Mem → Option (Int32 × Mem)} (ok : Ok g l x RX4 cX4_readOne 2 (some FieldType.boolean) (rmL (d + 16))) (hr0 : ∀ (v : Int32) (M : Mem) (r : Int32) (M2 : Mem), rec 0 v M = some (r, M2) → Con g l yX4_readOr cX4_readOr 3 (some .boolean) (rmL (d + 15)) [.ref (gA g 1 0), .int v] M (eI r) M2) (hr1 : ∀ (v : Int32) (M : Mem) (r : Int32) (M2 : Mem), rec 1 v M = some (r, M2) → Con g l yX4_readAnd cX4_readAnd 3 (some .boolean) (rmL (d + 15)) [.ref (gA g 1 0), .int v] M (eI r) M2) (hr2 : ∀ (v : Int32) (M : Mem) (r : Int32) (M2 : Mem), rec 2 v M = some (r, M2) → Con g l yX4_readNot cX4_readNot 3 (some .boolean) (rmL (d + 15)) [.ref (gA g 1 0), .int v] M (eI r) M2) (hr3 : ∀ (v : Int32) (M : Mem) (r : Int32) (M2 : Mem), rec 3 v M = some (r, M2) → Con g l yX4_readSum cX4_readSum 4 (some .boolean) (rmL (d + 15)) [.ref (gA g 1 0), .int v] M (eI r) M2) (hr4 : ∀ (v : Int32) (M : Mem) (r : Int32) (M2 : Mem), rec 4 v M = some (r, M2) → Con g l yX4_readTerm cX4_readTerm 3 (some .boolean) (rmL (d + 15)) [.ref (gA g 1 0), .int v] M (eI r) M2) (hr5 : ∀ (v : Int32) (M : Mem) (r : Int32) (M2 : Mem), rec 5 v M = some (r, M2) → Con g l yX4_readOne cX4_readOne 2 (some .boolean) (rmL (d + 15)) [.ref (gA g 1 0), .int v] M (eI r) M2) (vq1 : Int32)  (M : Mem) : Sw g l x (FinQ g x eI) 2 0 0 0 [(0, .ref (gA g 1 0)), (1, .int vq1)] [] M (fX4_readOne_b rec vq1 M) := by
  unfold fX4_readOne_b
  refine r_aload_n (pc := 0) ok 0 dX4_readOne_0 rfl ?_
  refine r_getI (pc := 1) ok fi_1_5 (by decide) fl_X4_41 dX4_readOne_1 ?_
  refine r_iconst (pc := 4) ok 2 dX4_readOne_4 (by decide) ?_
  refine r_icmp_eq (pc := 5) ok 16 dX4_readOne_5 (by decide) (fun _ => ?_) (fun _ => ?_)
  · refine r_lv [0] [(0, .ref (gA g 1 0))] rfl ?_
    exact sX4_readOne_J16 ok hr0 hr1 hr2 hr3 hr4 hr5 M
  · refine r_aload_n (pc := 8) ok 0 dX4_readOne_8 rfl ?_
    refine r_getI (pc := 9) ok fi_1_5 (by decide) fl_X4_41 dX4_readOne_9 ?_
    refine r_iconst (pc := 12) ok 3 dX4_readOne_12 (by decide) ?_
    refine r_icmp_ne (pc := 13) ok 47 dX4_readOne_13 (by decide) (fun _ => ?_) (fun _ => ?_)
    · refine r_lv [0] [(0, .ref (gA g 1 0))] rfl ?_
      exact sX4_readOne_J16 ok hr0 hr1 hr2 hr3 hr4 hr5 M
    · refine r_aload_n (pc := 47) ok 0 dX4_readOne_47 rfl ?_
      refine r_getI (pc := 48) ok fi_1_5 (by decide) fl_X4_41 dX4_readOne_48 ?_
      refine r_bipush (pc := 51) ok 45 dX4_readOne_51 (by decide) ?_
      refine r_icmp_eq (pc := 53) ok 65 dX4_readOne_53 (by decide) (fun _ => ?_) (fun _ => ?_)
      · refine r_lv [0, 1] [(0, .ref (gA g 1 0)), (1, .int vq1)] rfl ?_
        exact sX4_readOne_J65 ok hr0 hr1 hr2 hr3 hr4 hr5 vq1 M
      · refine r_aload_n (pc := 56) ok 0 dX4_readOne_56 rfl ?_
        refine r_getI (pc := 57) ok fi_1_5 (by decide) fl_X4_41 dX4_readOne_57 ?_
        refine r_bipush (pc := 60) ok 40 dX4_readOne_60 (by decide) ?_
        refine r_icmp_ne (pc := 62) ok 70 dX4_readOne_62 (by decide) (fun _ => ?_) (fun _ => ?_)
        · refine r_lv [0, 1] [(0, .ref (gA g 1 0)), (1, .int vq1)] rfl ?_
          exact sX4_readOne_J65 ok hr0 hr1 hr2 hr3 hr4 hr5 vq1 M
        · refine r_iconst (pc := 70) ok 0 dX4_readOne_70 (by decide) ?_
          exact r_zret (pc := 71) ok (Nat.zero_le _) (Nat.zero_le _) rfl rfl dX4_readOne_71
def fRd : Nat → Nat → Int32 → Mem → Option (Int32 × Mem)
  | 0, _, _, _ => none
  | d + 1, t, v, M => match t with
    | 0 => fX4_readOr_b (fRd d) v M
    | 1 => fX4_readAnd_b (fRd d) v M
    | 2 => fX4_readNot_b (fRd d) v M
    | 3 => fX4_readSum_b (fRd d) v M
    | 4 => fX4_readTerm_b (fRd d) v M
    | 5 => fX4_readOne_b (fRd d) v M
    | _ => none
theorem con_RdA (g : GP) (l : Launch) : ∀ d : Nat, (∀ (v : Int32) (M : Mem) (r : Int32) (M2 : Mem), fRd d 0 v M = some (r, M2) → Con g l yX4_readOr cX4_readOr 3 (some .boolean) (rmL (d + 16)) [.ref (gA g 1 0), .int v] M (eI r) M2) ∧ (∀ (v : Int32) (M : Mem) (r : Int32) (M2 : Mem), fRd d 1 v M = some (r, M2) → Con g l yX4_readAnd cX4_readAnd 3 (some .boolean) (rmL (d + 16)) [.ref (gA g 1 0), .int v] M (eI r) M2) ∧ (∀ (v : Int32) (M : Mem) (r : Int32) (M2 : Mem), fRd d 2 v M = some (r, M2) → Con g l yX4_readNot cX4_readNot 3 (some .boolean) (rmL (d + 16)) [.ref (gA g 1 0), .int v] M (eI r) M2) ∧ (∀ (v : Int32) (M : Mem) (r : Int32) (M2 : Mem), fRd d 3 v M = some (r, M2) → Con g l yX4_readSum cX4_readSum 4 (some .boolean) (rmL (d + 16)) [.ref (gA g 1 0), .int v] M (eI r) M2) ∧ (∀ (v : Int32) (M : Mem) (r : Int32) (M2 : Mem), fRd d 4 v M = some (r, M2) → Con g l yX4_readTerm cX4_readTerm 3 (some .boolean) (rmL (d + 16)) [.ref (gA g 1 0), .int v] M (eI r) M2) ∧ (∀ (v : Int32) (M : Mem) (r : Int32) (M2 : Mem), fRd d 5 v M = some (r, M2) → Con g l yX4_readOne cX4_readOne 2 (some .boolean) (rmL (d + 16)) [.ref (gA g 1 0), .int v] M (eI r) M2) := by
  intro d
  induction d with
  | zero => exact ⟨fun _ _ _ _ h => (by cases h), fun _ _ _ _ h => (by cases h), fun _ _ _ _ h => (by cases h), fun _ _ _ _ h => (by cases h), fun _ _ _ _ h => (by cases h), fun _ _ _ _ h => (by cases h)⟩
  | succ d ih =>
    obtain ⟨h0, h1, h2, h3, h4, h5⟩ := ih
    refine ⟨?_, ?_, ?_, ?_, ?_, ?_⟩
    · intro v M r M2 h
      exact Con.of (own := RX4) (f := fX4_readOr_b (fRd d) v M) (by decide) (Nat.le_of_ble_eq_true rfl) rfl (fun x ok => wX4_readOr_b (d := d + 1) ok h0 h1 h2 h3 h4 h5 v M) r M2 h
    · intro v M r M2 h
      exact Con.of (own := RX4) (f := fX4_readAnd_b (fRd d) v M) (by decide) (Nat.le_of_ble_eq_true rfl) rfl (fun x ok => wX4_readAnd_b (d := d + 1) ok h0 h1 h2 h3 h4 h5 v M) r M2 h
    · intro v M r M2 h
      exact Con.of (own := RX4) (f := fX4_readNot_b (fRd d) v M) (by decide) (Nat.le_of_ble_eq_true rfl) rfl (fun x ok => wX4_readNot_b (d := d + 1) ok h0 h1 h2 h3 h4 h5 v M) r M2 h
    · intro v M r M2 h
      exact Con.of (own := RX4) (f := fX4_readSum_b (fRd d) v M) (by decide) (Nat.le_of_ble_eq_true rfl) rfl (fun x ok => wX4_readSum_b (d := d + 1) ok h0 h1 h2 h3 h4 h5 v M) r M2 h
    · intro v M r M2 h
      exact Con.of (own := RX4) (f := fX4_readTerm_b (fRd d) v M) (by decide) (Nat.le_of_ble_eq_true rfl) rfl (fun x ok => wX4_readTerm_b (d := d + 1) ok h0 h1 h2 h3 h4 h5 v M) r M2 h
    · intro v M r M2 h
      exact Con.of (own := RX4) (f := fX4_readOne_b (fRd d) v M) (by decide) (Nat.le_of_ble_eq_true rfl) rfl (fun x ok => wX4_readOne_b (d := d + 1) ok h0 h1 h2 h3 h4 h5 v M) r M2 h
theorem con_Rd0 (g : GP) (l : Launch) (d : Nat) (v : Int32) (M : Mem) (r : Int32) (M2 : Mem) (h : fRd d 0 v M = some (r, M2)) : Con g l yX4_readOr cX4_readOr 3 (some .boolean) (rmL (d + 16)) [.ref (gA g 1 0), .int v] M (eI r) M2 := (con_RdA g l d).1 v M r M2 h
theorem con_Rd1 (g : GP) (l : Launch) (d : Nat) (v : Int32) (M : Mem) (r : Int32) (M2 : Mem) (h : fRd d 1 v M = some (r, M2)) : Con g l yX4_readAnd cX4_readAnd 3 (some .boolean) (rmL (d + 16)) [.ref (gA g 1 0), .int v] M (eI r) M2 := (con_RdA g l d).2.1 v M r M2 h
theorem con_Rd2 (g : GP) (l : Launch) (d : Nat) (v : Int32) (M : Mem) (r : Int32) (M2 : Mem) (h : fRd d 2 v M = some (r, M2)) : Con g l yX4_readNot cX4_readNot 3 (some .boolean) (rmL (d + 16)) [.ref (gA g 1 0), .int v] M (eI r) M2 := (con_RdA g l d).2.2.1 v M r M2 h
theorem con_Rd3 (g : GP) (l : Launch) (d : Nat) (v : Int32) (M : Mem) (r : Int32) (M2 : Mem) (h : fRd d 3 v M = some (r, M2)) : Con g l yX4_readSum cX4_readSum 4 (some .boolean) (rmL (d + 16)) [.ref (gA g 1 0), .int v] M (eI r) M2 := (con_RdA g l d).2.2.2.1 v M r M2 h
theorem con_Rd4 (g : GP) (l : Launch) (d : Nat) (v : Int32) (M : Mem) (r : Int32) (M2 : Mem) (h : fRd d 4 v M = some (r, M2)) : Con g l yX4_readTerm cX4_readTerm 3 (some .boolean) (rmL (d + 16)) [.ref (gA g 1 0), .int v] M (eI r) M2 := (con_RdA g l d).2.2.2.2.1 v M r M2 h
theorem con_Rd5 (g : GP) (l : Launch) (d : Nat) (v : Int32) (M : Mem) (r : Int32) (M2 : Mem) (h : fRd d 5 v M = some (r, M2)) : Con g l yX4_readOne cX4_readOne 2 (some .boolean) (rmL (d + 16)) [.ref (gA g 1 0), .int v] M (eI r) M2 := (con_RdA g l d).2.2.2.2.2 v M r M2 h

def fX4_readText_B16  (k16 : Int32 → Mem → Option (Int32 × Mem)) (vq1 : Int32) (M : Mem) : Option (Int32 × Mem) :=
  if 3 ≤ vq1 then
    (if (M 1 0 5) = 0 then
      (some (1, M))
    else
      (some (0, M)))
  else
    (ob (fX4_skip (4 + vq1) M) fun r5 M6 =>
    if r5 = 0 then
      (some (0, M6))
    else
      (gd (inb vq1 3)
      (lt (mst M6 4 0 vq1.toNatClampNeg (M6 1 0 4)) fun M7 =>
      ob (fRd 64 0 0 M7) fun r8 M9 =>
      if r8 = 0 then
        (some (0, M9))
      else
        (ob (fX4_skip 59 M9) fun r10 M11 =>
        if r10 = 0 then
          (some (0, M11))
        else
          (k16 (vq1 + 1) M11)))))
def fX4_readText_L16  : Nat → Int32 → Mem → Option (Int32 × Mem)
  | 0, _, _ => none
  | n + 1, vq1, M => fX4_readText_B16  (fX4_readText_L16  n) vq1 M
set_option maxRecDepth 20000 in
theorem sX4_readText_B16 {g : GP} {l : Launch} {x : CT} (ok : Ok g l x RX4 cX4_readText 2 (some FieldType.boolean) (rmL 81))   (k16 : Int32 → Mem → Option (Int32 × Mem)) (hk16 : ∀ (vq1 : Int32) (M : Mem), Sw g l x (FinQ g x eI) 2 0 0 16 [(0, .ref (gA g 1 0)), (1, .int vq1)] [] M (k16 vq1 M)) (vq1 : Int32) (M : Mem) : Sw g l x (FinQ g x eI) 2 0 0 16 [(0, .ref (gA g 1 0)), (1, .int vq1)] [] M (fX4_readText_B16  k16 vq1 M) := by
  unfold fX4_readText_B16
  refine r_iload_n (pc := 16) ok 1 dX4_readText_16 rfl ?_
  refine r_iconst (pc := 17) ok 3 dX4_readText_17 (by decide) ?_
  refine r_icmp_ge (pc := 18) ok 68 dX4_readText_18 (by decide) (fun _ => ?_) (fun _ => ?_)
  · refine r_aload_n (pc := 68) ok 0 dX4_readText_68 rfl ?_
    refine r_getI (pc := 69) ok fi_1_5 (by decide) fl_X4_41 dX4_readText_69 ?_
    refine r_if_ne (pc := 72) ok 79 dX4_readText_72 (by decide) (fun _ => ?_) (fun _ => ?_)
    · refine r_iconst (pc := 75) ok 1 dX4_readText_75 (by decide) ?_
      refine r_goto (pc := 76) ok 80 dX4_readText_76 (by decide) ?_
      exact r_zret (pc := 80) ok (Nat.zero_le _) (Nat.zero_le _) rfl rfl dX4_readText_80
    · refine r_iconst (pc := 79) ok 0 dX4_readText_79 (by decide) ?_
      exact r_zret (pc := 80) ok (Nat.zero_le _) (Nat.zero_le _) rfl rfl dX4_readText_80
  · refine r_aload_n (pc := 21) ok 0 dX4_readText_21 rfl ?_
    refine r_iconst (pc := 22) ok 4 dX4_readText_22 (by decide) ?_
    refine r_iload_n (pc := 23) ok 1 dX4_readText_23 rfl ?_
    refine r_iadd (pc := 24) ok dX4_readText_24 ?_
    refine r_callV0 (pc := 25) ok [.int (4 + vq1)] [] 10 (fun rZ MZ hZ => con_X4_skip g l (4 + vq1) _ rZ MZ hZ) cv_X4_34 ok_1 (rmOk_L (by decide) (by decide)) dX4_readText_25 rfl rfl (Nat.le_of_ble_eq_true rfl) (fun r5 M6 => ?_)
    refine r_if_ne (pc := 28) ok 33 dX4_readText_28 (by decide) (fun _ => ?_) (fun _ => ?_)
    · refine r_iconst (pc := 31) ok 0 dX4_readText_31 (by decide) ?_
      exact r_zret (pc := 32) ok (Nat.zero_le _) (Nat.zero_le _) rfl rfl dX4_readText_32
    · refine r_aload_n (pc := 33) ok 0 dX4_readText_33 rfl ?_
      refine r_getR (pc := 34) ok fr_1_2 (by decide) fl_X4_18 dX4_readText_34 ?_
      refine r_iload_n (pc := 37) ok 1 dX4_readText_37 rfl ?_
      refine r_aload_n (pc := 38) ok 0 dX4_readText_38 rfl ?_
      refine r_getI (pc := 39) ok fi_1_4 (by decide) fl_X4_25 dX4_readText_39 ?_
      refine r_iast (pc := 42) ok ik_4 (by decide) dX4_readText_42 ?_
      refine r_nmM (fun M7 => ?_)
      refine r_aload_n (pc := 43) ok 0 dX4_readText_43 rfl ?_
      refine r_iconst (pc := 44) ok 0 dX4_readText_44 (by decide) ?_
      refine r_callV0 (pc := 45) ok [.int 0] [] 80 (fun rZ MZ hZ => con_Rd0 g l 64 _ _ rZ MZ hZ) cv_X4_38 ok_1 (rmOk_L (by decide) (by decide)) dX4_readText_45 rfl rfl (Nat.le_of_ble_eq_true rfl) (fun r8 M9 => ?_)
      refine r_if_eq (pc := 48) ok 60 dX4_readText_48 (by decide) (fun _ => ?_) (fun _ => ?_)
      · refine r_iconst (pc := 60) ok 0 dX4_readText_60 (by decide) ?_
        exact r_zret (pc := 61) ok (Nat.zero_le _) (Nat.zero_le _) rfl rfl dX4_readText_61
      · refine r_aload_n (pc := 51) ok 0 dX4_readText_51 rfl ?_
        refine r_bipush (pc := 52) ok 59 dX4_readText_52 (by decide) ?_
        refine r_callV0 (pc := 54) ok [.int 59] [] 10 (fun rZ MZ hZ => con_X4_skip g l 59 _ rZ MZ hZ) cv_X4_34 ok_1 (rmOk_L (by decide) (by decide)) dX4_readText_54 rfl rfl (Nat.le_of_ble_eq_true rfl) (fun r10 M11 => ?_)
        refine r_if_ne (pc := 57) ok 62 dX4_readText_57 (by decide) (fun _ => ?_) (fun _ => ?_)
        · refine r_iconst (pc := 60) ok 0 dX4_readText_60 (by decide) ?_
          exact r_zret (pc := 61) ok (Nat.zero_le _) (Nat.zero_le _) rfl rfl dX4_readText_61
        · refine r_iinc (pc := 62) ok 1 (vq1 + 1) [(1, .int (vq1 + 1)), (0, .ref (gA g 1 0))] dX4_readText_62 rfl (congrArg (fun z => vq1 + z) (by decide : Int32.ofInt 1 = (1 : Int32))) (by decide) rfl ?_
          refine r_goto (pc := 65) ok 16 dX4_readText_65 (by decide) ?_
          refine r_lv [1, 0] [(0, .ref (gA g 1 0)), (1, .int (vq1 + 1))] rfl ?_
          exact hk16 (vq1 + 1) M11
theorem sX4_readText_L16 {g : GP} {l : Launch} {x : CT} (ok : Ok g l x RX4 cX4_readText 2 (some FieldType.boolean) (rmL 81))   : ∀ (n : Nat) (vq1 : Int32) (M : Mem), Sw g l x (FinQ g x eI) 2 0 0 16 [(0, .ref (gA g 1 0)), (1, .int vq1)] [] M (fX4_readText_L16  n vq1 M) := by
  intro n
  induction n with
  | zero => intros; exact r_none
  | succ n ih => intro vq1 M; exact sX4_readText_B16 ok   _ ih vq1 M
def fX4_readText  (M : Mem) : Option (Int32 × Mem) :=
  lt (mst M 1 0 4 0) fun M1 =>
  lt (mst M1 1 0 8 0) fun M2 =>
  ob (fX4_advance M2) fun r3 M4 =>
  fX4_readText_L16 FU 0 M4
set_option maxRecDepth 20000 in
theorem wX4_readText {g : GP} {l : Launch} {x : CT} (ok : Ok g l x RX4 cX4_readText 2 (some FieldType.boolean) (rmL 81))   (M : Mem) : Sw g l x (FinQ g x eI) 2 0 0 0 [(0, .ref (gA g 1 0))] [] M (fX4_readText  M) := by
  unfold fX4_readText
  refine r_aload_n (pc := 0) ok 0 dX4_readText_0 rfl ?_
  refine r_iconst (pc := 1) ok 0 dX4_readText_1 (by decide) ?_
  refine r_putI (pc := 2) ok fi_1_4 (by decide) fl_X4_25 fp_1_4 ⟨rfl, rfl⟩ dX4_readText_2 ?_
  refine r_nmM (fun M1 => ?_)
  refine r_aload_n (pc := 5) ok 0 dX4_readText_5 rfl ?_
  refine r_iconst (pc := 6) ok 0 dX4_readText_6 (by decide) ?_
  refine r_putI (pc := 7) ok fi_1_8 (by decide) fl_X4_28 fp_1_8 ⟨rfl, rfl⟩ dX4_readText_7 ?_
  refine r_nmM (fun M2 => ?_)
  refine r_aload_n (pc := 10) ok 0 dX4_readText_10 rfl ?_
  refine r_callV0 (pc := 11) ok [] [] 9 (fun rZ MZ hZ => con_X4_advance g l  _ rZ MZ hZ) cv_X4_31 ok_1 (rmOk_L (by decide) (by decide)) dX4_readText_11 rfl rfl (Nat.le_of_ble_eq_true rfl) (fun r3 M4 => ?_)
  refine r_iconst (pc := 14) ok 0 dX4_readText_14 (by decide) ?_
  refine r_istore_n (pc := 15) ok [(1, .int 0), (0, .ref (gA g 1 0))] dX4_readText_15 rfl (by decide) rfl ?_
  refine r_lv [1, 0] [(0, .ref (gA g 1 0)), (1, .int 0)] rfl ?_
  exact sX4_readText_L16 ok FU 0 M4
theorem con_X4_readText (g : GP) (l : Launch)   (M : Mem) (r : Int32) (M2 : Mem) (h : fX4_readText  M = some (r, M2)) : Con g l yX4_readText cX4_readText 2 (some FieldType.boolean) (rmL 81) [.ref (gA g 1 0)] M (eI r) M2 :=
  Con.of (own := RX4) (f := fX4_readText  M) (by decide) (Nat.le_of_ble_eq_true rfl) rfl (fun x ok => wX4_readText ok   M) r M2 h
