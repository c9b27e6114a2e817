/-! the kinds of people: their methods, and calls of them (by program: wip/gen/pers.py) -/
theorem csu_X0_7 : CSU RX0 7 yX3_drops cX3_drops 4 (some FieldType.int) 3 := ⟨wml_X0_7, wsm_X3_X3_drops, wsc_X0_X3, wim_X3_drops, win_X3, wcd_X3_drops, by decide, by decide +kernel⟩
theorem csu_X0_11 : CSU RX0 11 yX3_feels cX3_feels 3 (some FieldType.int) 2 := ⟨wml_X0_11, wsm_X3_X3_feels, wsc_X0_X3, wim_X3_feels, win_X3, wcd_X3_feels, by decide, by decide +kernel⟩
theorem csu_X0_15 : CSU RX0 15 yX3_isOf cX3_isOf 2 (some FieldType.boolean) 1 := ⟨wml_X0_15, wsm_X3_X3_isOf, wsc_X0_X3, wim_X3_isOf, win_X3, wcd_X3_isOf, by decide, by decide +kernel⟩
theorem csu_X2_7 : CSU RX2 7 yX3_wears cX3_wears 4 (some FieldType.int) 3 := ⟨wml_X2_7, wsm_X3_X3_wears, wsc_X2_X3, wim_X3_wears, win_X3, wcd_X3_wears, by decide, by decide +kernel⟩
theorem csu_X2_11 : CSU RX2 11 yX3_feels cX3_feels 3 (some FieldType.int) 2 := ⟨wml_X2_11, wsm_X3_X3_feels, wsc_X2_X3, wim_X3_feels, win_X3, wcd_X3_feels, by decide, by decide +kernel⟩
theorem csu_X2_15 : CSU RX2 15 yX3_isOf cX3_isOf 2 (some FieldType.boolean) 1 := ⟨wml_X2_15, wsm_X3_X3_isOf, wsc_X2_X3, wim_X3_isOf, win_X3, wcd_X3_isOf, by decide, by decide +kernel⟩
theorem csu_X9_7 : CSU RX9 7 yX0_drops cX0_drops 4 (some FieldType.int) 3 := ⟨wml_X9_7, wsm_X0_X0_drops, wsc_X9_X0, wim_X0_drops, win_X0, wcd_X0_drops, by decide, by decide +kernel⟩
theorem csi_X9_11 : CSI RX9 RX0 11 ⟨RX0, "wears", "(III)I"⟩ yX3_wears cX3_wears 4 (some FieldType.int) 3 := ⟨rfl, wml_X9_11, wsm_X0_X3_wears, wsc_X9_X0, wsc_X0_X3, wim_X3_wears, win_X3, wcd_X3_wears, by decide, by decide +kernel⟩
theorem csu_X9_14 : CSU RX9 14 yX0_isOf cX0_isOf 2 (some FieldType.boolean) 1 := ⟨wml_X9_14, wsm_X0_X0_isOf, wsc_X9_X0, wim_X0_isOf, win_X0, wcd_X0_isOf, by decide, by decide +kernel⟩
theorem csu_X7_7 : CSU RX7 7 yX2_drops cX2_drops 4 (some FieldType.int) 3 := ⟨wml_X7_7, wsm_X2_X2_drops, wsc_X7_X2, wim_X2_drops, win_X2, wcd_X2_drops, by decide, by decide +kernel⟩
theorem csu_X7_11 : CSU RX7 11 yX2_feels cX2_feels 3 (some FieldType.int) 2 := ⟨wml_X7_11, wsm_X2_X2_feels, wsc_X7_X2, wim_X2_feels, win_X2, wcd_X2_feels, by decide, by decide +kernel⟩
theorem csu_X7_15 : CSU RX7 15 yX2_isOf cX2_isOf 2 (some FieldType.boolean) 1 := ⟨wml_X7_15, wsm_X2_X2_isOf, wsc_X7_X2, wim_X2_isOf, win_X2, wcd_X2_isOf, by decide, by decide +kernel⟩
theorem csu_X1_7 : CSU RX1 7 yX3_wears cX3_wears 4 (some FieldType.int) 3 := ⟨wml_X1_7, wsm_X3_X3_wears, wsc_X1_X3, wim_X3_wears, win_X3, wcd_X3_wears, by decide, by decide +kernel⟩
theorem csu_X1_11 : CSU RX1 11 yX3_feels cX3_feels 3 (some FieldType.int) 2 := ⟨wml_X1_11, wsm_X3_X3_feels, wsc_X1_X3, wim_X3_feels, win_X3, wcd_X3_feels, by decide, by decide +kernel⟩
theorem csu_X1_15 : CSU RX1 15 yX3_isOf cX3_isOf 2 (some FieldType.boolean) 1 := ⟨wml_X1_15, wsm_X3_X3_isOf, wsc_X1_X3, wim_X3_isOf, win_X3, wcd_X3_isOf, by decide, by decide +kernel⟩
def fX1_drops (iq0 : Nat) (vq1 : Int32) (vq2 : Int32) (vq3 : Int32) (M : Mem) : Option (Int32 × Mem) :=
  some (0, M)
set_option maxRecDepth 20000 in
theorem wX1_drops {g : GP} {l : Launch} {x : CT} (ok : Ok g l x RX1 cX1_drops 4 (some FieldType.int) (rmL 2)) (iq0 : Nat) (vq1 : Int32) (vq2 : Int32) (vq3 : Int32) (hq0 : iq0 < 6) (M : Mem) : Sw g l x (FinQ g x eI) 4 0 0 0 [(0, .ref (gA g 12 iq0)), (1, .int vq1), (2, .int vq2), (3, .int vq3)] [] M (fX1_drops iq0 vq1 vq2 vq3 M) := by
  unfold fX1_drops
  refine r_iconst (pc := 0) ok 0 dX1_drops_0 (by decide) ?_
  exact r_iret (pc := 1) ok (Nat.zero_le _) (Nat.zero_le _) rfl dX1_drops_1
theorem con_X1_drops (g : GP) (l : Launch) (iq0 : Nat) (vq1 : Int32) (vq2 : Int32) (vq3 : Int32) (hq0 : iq0 < 6) (M : Mem) (r : Int32) (M2 : Mem) (h : fX1_drops iq0 vq1 vq2 vq3 M = some (r, M2)) : Con g l yX1_drops cX1_drops 4 (some FieldType.int) (rmL 2) [.ref (gA g 12 iq0), .int vq1, .int vq2, .int vq3] M (eI r) M2 :=
  Con.of (own := RX1) (f := fX1_drops iq0 vq1 vq2 vq3 M) (by decide) (Nat.le_of_ble_eq_true rfl) rfl (fun x ok => wX1_drops ok iq0 vq1 vq2 vq3 hq0 M) r M2 h
def fX2_drops (iq0 : Nat) (vq1 : Int32) (vq2 : Int32) (vq3 : Int32) (M : Mem) : Option (Int32 × Mem) :=
  if vq1 = 0 then
    (if vq2 ≤ 0 then
      (some (0, M))
    else
      (some (1, M)))
  else
    (some (0, M))
set_option maxRecDepth 20000 in
theorem wX2_drops {g : GP} {l : Launch} {x : CT} (ok : Ok g l x RX2 cX2_drops 4 (some FieldType.int) (rmL 2)) (iq0 : Nat) (vq1 : Int32) (vq2 : Int32) (vq3 : Int32) (hq0 : iq0 < 6) (M : Mem) : Sw g l x (FinQ g x eI) 4 0 0 0 [(0, .ref (gA g 12 iq0)), (1, .int vq1), (2, .int vq2), (3, .int vq3)] [] M (fX2_drops iq0 vq1 vq2 vq3 M) := by
  unfold fX2_drops
  refine r_iload_n (pc := 0) ok 1 dX2_drops_0 rfl ?_
  refine r_if_ne (pc := 1) ok 12 dX2_drops_1 (by decide) (fun _ => ?_) (fun _ => ?_)
  · refine r_iload_n (pc := 4) ok 2 dX2_drops_4 rfl ?_
    refine r_if_le (pc := 5) ok 12 dX2_drops_5 (by decide) (fun _ => ?_) (fun _ => ?_)
    · refine r_iconst (pc := 12) ok 0 dX2_drops_12 (by decide) ?_
      exact r_iret (pc := 13) ok (Nat.zero_le _) (Nat.zero_le _) rfl dX2_drops_13
    · refine r_iconst (pc := 8) ok 1 dX2_drops_8 (by decide) ?_
      refine r_goto (pc := 9) ok 13 dX2_drops_9 (by decide) ?_
      exact r_iret (pc := 13) ok (Nat.zero_le _) (Nat.zero_le _) rfl dX2_drops_13
  · refine r_iconst (pc := 12) ok 0 dX2_drops_12 (by decide) ?_
    exact r_iret (pc := 13) ok (Nat.zero_le _) (Nat.zero_le _) rfl dX2_drops_13
theorem con_X2_drops (g : GP) (l : Launch) (iq0 : Nat) (vq1 : Int32) (vq2 : Int32) (vq3 : Int32) (hq0 : iq0 < 6) (M : Mem) (r : Int32) (M2 : Mem) (h : fX2_drops iq0 vq1 vq2 vq3 M = some (r, M2)) : Con g l yX2_drops cX2_drops 4 (some FieldType.int) (rmL 2) [.ref (gA g 12 iq0), .int vq1, .int vq2, .int vq3] M (eI r) M2 :=
  Con.of (own := RX2) (f := fX2_drops iq0 vq1 vq2 vq3 M) (by decide) (Nat.le_of_ble_eq_true rfl) rfl (fun x ok => wX2_drops ok iq0 vq1 vq2 vq3 hq0 M) r M2 h
def fX3_drops (iq0 : Nat) (vq1 : Int32) (vq2 : Int32) (vq3 : Int32) (M : Mem) : Option (Int32 × Mem) :=
  if vq1 = 0 then
    (some (vq2, M))
  else
    (some (0, M))
set_option maxRecDepth 20000 in
theorem wX3_drops {g : GP} {l : Launch} {x : CT} (ok : Ok g l x RX3 cX3_drops 4 (some FieldType.int) (rmL 2)) (iq0 : Nat) (vq1 : Int32) (vq2 : Int32) (vq3 : Int32) (hq0 : iq0 < 6) (M : Mem) : Sw g l x (FinQ g x eI) 4 0 0 0 [(0, .ref (gA g 12 iq0)), (1, .int vq1), (2, .int vq2), (3, .int vq3)] [] M (fX3_drops iq0 vq1 vq2 vq3 M) := by
  unfold fX3_drops
  refine r_iload_n (pc := 0) ok 1 dX3_drops_0 rfl ?_
  refine r_if_ne (pc := 1) ok 8 dX3_drops_1 (by decide) (fun _ => ?_) (fun _ => ?_)
  · refine r_iload_n (pc := 4) ok 2 dX3_drops_4 rfl ?_
    refine r_goto (pc := 5) ok 9 dX3_drops_5 (by decide) ?_
    exact r_iret (pc := 9) ok (Nat.zero_le _) (Nat.zero_le _) rfl dX3_drops_9
  · refine r_iconst (pc := 8) ok 0 dX3_drops_8 (by decide) ?_
    exact r_iret (pc := 9) ok (Nat.zero_le _) (Nat.zero_le _) rfl dX3_drops_9
theorem con_X3_drops (g : GP) (l : Launch) (iq0 : Nat) (vq1 : Int32) (vq2 : Int32) (vq3 : Int32) (hq0 : iq0 < 6) (M : Mem) (r : Int32) (M2 : Mem) (h : fX3_drops iq0 vq1 vq2 vq3 M = some (r, M2)) : Con g l yX3_drops cX3_drops 4 (some FieldType.int) (rmL 2) [.ref (gA g 12 iq0), .int vq1, .int vq2, .int vq3] M (eI r) M2 :=
  Con.of (own := RX3) (f := fX3_drops iq0 vq1 vq2 vq3 M) (by decide) (Nat.le_of_ble_eq_true rfl) rfl (fun x ok => wX3_drops ok iq0 vq1 vq2 vq3 hq0 M) r M2 h
def fX3_wears (iq0 : Nat) (vq1 : Int32) (vq2 : Int32) (vq3 : Int32) (M : Mem) : Option (Int32 × Mem) :=
  some (vq1, M)
set_option maxRecDepth 20000 in
theorem wX3_wears {g : GP} {l : Launch} {x : CT} (ok : Ok g l x RX3 cX3_wears 4 (some FieldType.int) (rmL 2)) (iq0 : Nat) (vq1 : Int32) (vq2 : Int32) (vq3 : Int32) (hq0 : iq0 < 6) (M : Mem) : Sw g l x (FinQ g x eI) 4 0 0 0 [(0, .ref (gA g 12 iq0)), (1, .int vq1), (2, .int vq2), (3, .int vq3)] [] M (fX3_wears iq0 vq1 vq2 vq3 M) := by
  unfold fX3_wears
  refine r_iload_n (pc := 0) ok 1 dX3_wears_0 rfl ?_
  exact r_iret (pc := 1) ok (Nat.zero_le _) (Nat.zero_le _) rfl dX3_wears_1
theorem con_X3_wears (g : GP) (l : Launch) (iq0 : Nat) (vq1 : Int32) (vq2 : Int32) (vq3 : Int32) (hq0 : iq0 < 6) (M : Mem) (r : Int32) (M2 : Mem) (h : fX3_wears iq0 vq1 vq2 vq3 M = some (r, M2)) : Con g l yX3_wears cX3_wears 4 (some FieldType.int) (rmL 2) [.ref (gA g 12 iq0), .int vq1, .int vq2, .int vq3] M (eI r) M2 :=
  Con.of (own := RX3) (f := fX3_wears iq0 vq1 vq2 vq3 M) (by decide) (Nat.le_of_ble_eq_true rfl) rfl (fun x ok => wX3_wears ok iq0 vq1 vq2 vq3 hq0 M) r M2 h
def fX3_feels (iq0 : Nat) (vq1 : Int32) (vq2 : Int32) (M : Mem) : Option (Int32 × Mem) :=
  some (vq1, M)
set_option maxRecDepth 20000 in
theorem wX3_feels {g : GP} {l : Launch} {x : CT} (ok : Ok g l x RX3 cX3_feels 3 (some FieldType.int) (rmL 2)) (iq0 : Nat) (vq1 : Int32) (vq2 : Int32) (hq0 : iq0 < 6) (M : Mem) : Sw g l x (FinQ g x eI) 3 0 0 0 [(0, .ref (gA g 12 iq0)), (1, .int vq1), (2, .int vq2)] [] M (fX3_feels iq0 vq1 vq2 M) := by
  unfold fX3_feels
  refine r_iload_n (pc := 0) ok 1 dX3_feels_0 rfl ?_
  exact r_iret (pc := 1) ok (Nat.zero_le _) (Nat.zero_le _) rfl dX3_feels_1
theorem con_X3_feels (g : GP) (l : Launch) (iq0 : Nat) (vq1 : Int32) (vq2 : Int32) (hq0 : iq0 < 6) (M : Mem) (r : Int32) (M2 : Mem) (h : fX3_feels iq0 vq1 vq2 M = some (r, M2)) : Con g l yX3_feels cX3_feels 3 (some FieldType.int) (rmL 2) [.ref (gA g 12 iq0), .int vq1, .int vq2] M (eI r) M2 :=
  Con.of (own := RX3) (f := fX3_feels iq0 vq1 vq2 M) (by decide) (Nat.le_of_ble_eq_true rfl) rfl (fun x ok => wX3_feels ok iq0 vq1 vq2 hq0 M) r M2 h
def fX3_isOf (iq0 : Nat) (vq1 : Int32) (M : Mem) : Option (Int32 × Mem) :=
  if vq1 = 0 then
    (some (1, M))
  else
    (some (0, M))
set_option maxRecDepth 20000 in
theorem wX3_isOf {g : GP} {l : Launch} {x : CT} (ok : Ok g l x RX3 cX3_isOf 2 (some FieldType.boolean) (rmL 2)) (iq0 : Nat) (vq1 : Int32) (hq0 : iq0 < 6) (M : Mem) : Sw g l x (FinQ g x eI) 2 0 0 0 [(0, .ref (gA g 12 iq0)), (1, .int vq1)] [] M (fX3_isOf iq0 vq1 M) := by
  unfold fX3_isOf
  refine r_iload_n (pc := 0) ok 1 dX3_isOf_0 rfl ?_
  refine r_if_ne (pc := 1) ok 8 dX3_isOf_1 (by decide) (fun _ => ?_) (fun _ => ?_)
  · refine r_iconst (pc := 4) ok 1 dX3_isOf_4 (by decide) ?_
    refine r_goto (pc := 5) ok 9 dX3_isOf_5 (by decide) ?_
    exact r_zret (pc := 9) ok (Nat.zero_le _) (Nat.zero_le _) rfl rfl dX3_isOf_9
  · refine r_iconst (pc := 8) ok 0 dX3_isOf_8 (by decide) ?_
    exact r_zret (pc := 9) ok (Nat.zero_le _) (Nat.zero_le _) rfl rfl dX3_isOf_9
theorem con_X3_isOf (g : GP) (l : Launch) (iq0 : Nat) (vq1 : Int32) (hq0 : iq0 < 6) (M : Mem) (r : Int32) (M2 : Mem) (h : fX3_isOf iq0 vq1 M = some (r, M2)) : Con g l yX3_isOf cX3_isOf 2 (some FieldType.boolean) (rmL 2) [.ref (gA g 12 iq0), .int vq1] M (eI r) M2 :=
  Con.of (own := RX3) (f := fX3_isOf iq0 vq1 M) (by decide) (Nat.le_of_ble_eq_true rfl) rfl (fun x ok => wX3_isOf ok iq0 vq1 hq0 M) r M2 h
def fX0_drops (iq0 : Nat) (vq1 : Int32) (vq2 : Int32) (vq3 : Int32) (M : Mem) : Option (Int32 × Mem) :=
  if vq1 = 1 then
    (some (vq2 / 2, M))
  else
    (ob (fX3_drops iq0 vq1 vq2 vq3 M) fun r1 M2 =>
    some (r1, M2))
set_option maxRecDepth 20000 in
theorem wX0_drops {g : GP} {l : Launch} {x : CT} (ok : Ok g l x RX0 cX0_drops 4 (some FieldType.int) (rmL 3)) (iq0 : Nat) (vq1 : Int32) (vq2 : Int32) (vq3 : Int32) (hq0 : iq0 < 6) (M : Mem) : Sw g l x (FinQ g x eI) 4 0 0 0 [(0, .ref (gA g 12 iq0)), (1, .int vq1), (2, .int vq2), (3, .int vq3)] [] M (fX0_drops iq0 vq1 vq2 vq3 M) := by
  unfold fX0_drops
  refine r_iload_n (pc := 0) ok 1 dX0_drops_0 rfl ?_
  refine r_iconst (pc := 1) ok 1 dX0_drops_1 (by decide) ?_
  refine r_icmp_ne (pc := 2) ok 11 dX0_drops_2 (by decide) (fun _ => ?_) (fun _ => ?_)
  · refine r_iload_n (pc := 5) ok 2 dX0_drops_5 rfl ?_
    refine r_iconst (pc := 6) ok 2 dX0_drops_6 (by decide) ?_
    refine r_idivc (pc := 7) ok (by decide) dX0_drops_7 ?_
    refine r_goto (pc := 8) ok 18 dX0_drops_8 (by decide) ?_
    exact r_iret (pc := 18) ok (Nat.zero_le _) (Nat.zero_le _) rfl dX0_drops_18
  · refine r_aload_n (pc := 11) ok 0 dX0_drops_11 rfl ?_
    refine r_iload_n (pc := 12) ok 1 dX0_drops_12 rfl ?_
    refine r_iload_n (pc := 13) ok 2 dX0_drops_13 rfl ?_
    refine r_iload_n (pc := 14) ok 3 dX0_drops_14 rfl ?_
    refine r_callSU0 (pc := 15) ok [.int vq1, .int vq2, .int vq3] [] 2 (fun r M2 h => con_X3_drops g l iq0 vq1 vq2 vq3 hq0 _ r M2 h) csu_X0_7 hq0 (rmOk_L (by decide) (by decide)) dX0_drops_15 rfl rfl (Nat.le_of_ble_eq_true rfl) (fun r1 M2 => ?_)
    exact r_iret (pc := 18) ok (Nat.zero_le _) (Nat.zero_le _) rfl dX0_drops_18
theorem con_X0_drops (g : GP) (l : Launch) (iq0 : Nat) (vq1 : Int32) (vq2 : Int32) (vq3 : Int32) (hq0 : iq0 < 6) (M : Mem) (r : Int32) (M2 : Mem) (h : fX0_drops iq0 vq1 vq2 vq3 M = some (r, M2)) : Con g l yX0_drops cX0_drops 4 (some FieldType.int) (rmL 3) [.ref (gA g 12 iq0), .int vq1, .int vq2, .int vq3] M (eI r) M2 :=
  Con.of (own := RX0) (f := fX0_drops iq0 vq1 vq2 vq3 M) (by decide) (Nat.le_of_ble_eq_true rfl) rfl (fun x ok => wX0_drops ok iq0 vq1 vq2 vq3 hq0 M) r M2 h
def fX0_feels (iq0 : Nat) (vq1 : Int32) (vq2 : Int32) (M : Mem) : Option (Int32 × Mem) :=
  ob (fX3_feels iq0 vq1 vq2 M) fun r1 M2 =>
  some (r1 + vq2, M2)
set_option maxRecDepth 20000 in
theorem wX0_feels {g : GP} {l : Launch} {x : CT} (ok : Ok g l x RX0 cX0_feels 3 (some FieldType.int) (rmL 3)) (iq0 : Nat) (vq1 : Int32) (vq2 : Int32) (hq0 : iq0 < 6) (M : Mem) : Sw g l x (FinQ g x eI) 3 0 0 0 [(0, .ref (gA g 12 iq0)), (1, .int vq1), (2, .int vq2)] [] M (fX0_feels iq0 vq1 vq2 M) := by
  unfold fX0_feels
  refine r_aload_n (pc := 0) ok 0 dX0_feels_0 rfl ?_
  refine r_iload_n (pc := 1) ok 1 dX0_feels_1 rfl ?_
  refine r_iload_n (pc := 2) ok 2 dX0_feels_2 rfl ?_
  refine r_callSU0 (pc := 3) ok [.int vq1, .int vq2] [] 2 (fun r M2 h => con_X3_feels g l iq0 vq1 vq2 hq0 _ r M2 h) csu_X0_11 hq0 (rmOk_L (by decide) (by decide)) dX0_feels_3 rfl rfl (Nat.le_of_ble_eq_true rfl) (fun r1 M2 => ?_)
  refine r_iload_n (pc := 6) ok 2 dX0_feels_6 rfl ?_
  refine r_iadd (pc := 7) ok dX0_feels_7 ?_
  exact r_iret (pc := 8) ok (Nat.zero_le _) (Nat.zero_le _) rfl dX0_feels_8
theorem con_X0_feels (g : GP) (l : Launch) (iq0 : Nat) (vq1 : Int32) (vq2 : Int32) (hq0 : iq0 < 6) (M : Mem) (r : Int32) (M2 : Mem) (h : fX0_feels iq0 vq1 vq2 M = some (r, M2)) : Con g l yX0_feels cX0_feels 3 (some FieldType.int) (rmL 3) [.ref (gA g 12 iq0), .int vq1, .int vq2] M (eI r) M2 :=
  Con.of (own := RX0) (f := fX0_feels iq0 vq1 vq2 M) (by decide) (Nat.le_of_ble_eq_true rfl) rfl (fun x ok => wX0_feels ok iq0 vq1 vq2 hq0 M) r M2 h
def fX0_isOf (iq0 : Nat) (vq1 : Int32) (M : Mem) : Option (Int32 × Mem) :=
  if vq1 = 1 then
    (some (1, M))
  else
    (ob (fX3_isOf iq0 vq1 M) fun r1 M2 =>
    if r1 = 0 then
      (some (0, M2))
    else
      (some (1, M2)))
set_option maxRecDepth 20000 in
theorem wX0_isOf {g : GP} {l : Launch} {x : CT} (ok : Ok g l x RX0 cX0_isOf 2 (some FieldType.boolean) (rmL 3)) (iq0 : Nat) (vq1 : Int32) (hq0 : iq0 < 6) (M : Mem) : Sw g l x (FinQ g x eI) 2 0 0 0 [(0, .ref (gA g 12 iq0)), (1, .int vq1)] [] M (fX0_isOf iq0 vq1 M) := by
  unfold fX0_isOf
  refine r_iload_n (pc := 0) ok 1 dX0_isOf_0 rfl ?_
  refine r_iconst (pc := 1) ok 1 dX0_isOf_1 (by decide) ?_
  refine r_icmp_eq (pc := 2) ok 13 dX0_isOf_2 (by decide) (fun _ => ?_) (fun _ => ?_)
  · refine r_iconst (pc := 13) ok 1 dX0_isOf_13 (by decide) ?_
    refine r_goto (pc := 14) ok 18 dX0_isOf_14 (by decide) ?_
    exact r_zret (pc := 18) ok (Nat.zero_le _) (Nat.zero_le _) rfl rfl dX0_isOf_18
  · refine r_aload_n (pc := 5) ok 0 dX0_isOf_5 rfl ?_
    refine r_iload_n (pc := 6) ok 1 dX0_isOf_6 rfl ?_
    refine r_callSU0 (pc := 7) ok [.int vq1] [] 2 (fun r M2 h => con_X3_isOf g l iq0 vq1 hq0 _ r M2 h) csu_X0_15 hq0 (rmOk_L (by decide) (by decide)) dX0_isOf_7 rfl rfl (Nat.le_of_ble_eq_true rfl) (fun r1 M2 => ?_)
    refine r_if_eq (pc := 10) ok 17 dX0_isOf_10 (by decide) (fun _ => ?_) (fun _ => ?_)
    · refine r_iconst (pc := 17) ok 0 dX0_isOf_17 (by decide) ?_
      exact r_zret (pc := 18) ok (Nat.zero_le _) (Nat.zero_le _) rfl rfl dX0_isOf_18
    · refine r_iconst (pc := 13) ok 1 dX0_isOf_13 (by decide) ?_
      refine r_goto (pc := 14) ok 18 dX0_isOf_14 (by decide) ?_
      exact r_zret (pc := 18) ok (Nat.zero_le _) (Nat.zero_le _) rfl rfl dX0_isOf_18
theorem con_X0_isOf (g : GP) (l : Launch) (iq0 : Nat) (vq1 : Int32) (hq0 : iq0 < 6) (M : Mem) (r : Int32) (M2 : Mem) (h : fX0_isOf iq0 vq1 M = some (r, M2)) : Con g l yX0_isOf cX0_isOf 2 (some FieldType.boolean) (rmL 3) [.ref (gA g 12 iq0), .int vq1] M (eI r) M2 :=
  Con.of (own := RX0) (f := fX0_isOf iq0 vq1 M) (by decide) (Nat.le_of_ble_eq_true rfl) rfl (fun x ok => wX0_isOf ok iq0 vq1 hq0 M) r M2 h
def fX1_wears (iq0 : Nat) (vq1 : Int32) (vq2 : Int32) (vq3 : Int32) (M : Mem) : Option (Int32 × Mem) :=
  ob (fX3_wears iq0 vq1 vq2 vq3 M) fun r1 M2 =>
  some (r1 + vq2, M2)
set_option maxRecDepth 20000 in
theorem wX1_wears {g : GP} {l : Launch} {x : CT} (ok : Ok g l x RX1 cX1_wears 4 (some FieldType.int) (rmL 3)) (iq0 : Nat) (vq1 : Int32) (vq2 : Int32) (vq3 : Int32) (hq0 : iq0 < 6) (M : Mem) : Sw g l x (FinQ g x eI) 4 0 0 0 [(0, .ref (gA g 12 iq0)), (1, .int vq1), (2, .int vq2), (3, .int vq3)] [] M (fX1_wears iq0 vq1 vq2 vq3 M) := by
  unfold fX1_wears
  refine r_aload_n (pc := 0) ok 0 dX1_wears_0 rfl ?_
  refine r_iload_n (pc := 1) ok 1 dX1_wears_1 rfl ?_
  refine r_iload_n (pc := 2) ok 2 dX1_wears_2 rfl ?_
  refine r_iload_n (pc := 3) ok 3 dX1_wears_3 rfl ?_
  refine r_callSU0 (pc := 4) ok [.int vq1, .int vq2, .int vq3] [] 2 (fun r M2 h => con_X3_wears g l iq0 vq1 vq2 vq3 hq0 _ r M2 h) csu_X1_7 hq0 (rmOk_L (by decide) (by decide)) dX1_wears_4 rfl rfl (Nat.le_of_ble_eq_true rfl) (fun r1 M2 => ?_)
  refine r_iload_n (pc := 7) ok 2 dX1_wears_7 rfl ?_
  refine r_iadd (pc := 8) ok dX1_wears_8 ?_
  exact r_iret (pc := 9) ok (Nat.zero_le _) (Nat.zero_le _) rfl dX1_wears_9
theorem con_X1_wears (g : GP) (l : Launch) (iq0 : Nat) (vq1 : Int32) (vq2 : Int32) (vq3 : Int32) (hq0 : iq0 < 6) (M : Mem) (r : Int32) (M2 : Mem) (h : fX1_wears iq0 vq1 vq2 vq3 M = some (r, M2)) : Con g l yX1_wears cX1_wears 4 (some FieldType.int) (rmL 3) [.ref (gA g 12 iq0), .int vq1, .int vq2, .int vq3] M (eI r) M2 :=
  Con.of (own := RX1) (f := fX1_wears iq0 vq1 vq2 vq3 M) (by decide) (Nat.le_of_ble_eq_true rfl) rfl (fun x ok => wX1_wears ok iq0 vq1 vq2 vq3 hq0 M) r M2 h
def fX1_feels (iq0 : Nat) (vq1 : Int32) (vq2 : Int32) (M : Mem) : Option (Int32 × Mem) :=
  if 10 ≤ vq1 then
    (ob (fX3_feels iq0 vq1 vq2 M) fun r1 M2 =>
    some (r1, M2))
  else
    (some (0, M))
set_option maxRecDepth 20000 in
theorem wX1_feels {g : GP} {l : Launch} {x : CT} (ok : Ok g l x RX1 cX1_feels 3 (some FieldType.int) (rmL 3)) (iq0 : Nat) (vq1 : Int32) (vq2 : Int32) (hq0 : iq0 < 6) (M : Mem) : Sw g l x (FinQ g x eI) 3 0 0 0 [(0, .ref (gA g 12 iq0)), (1, .int vq1), (2, .int vq2)] [] M (fX1_feels iq0 vq1 vq2 M) := by
  unfold fX1_feels
  refine r_iload_n (pc := 0) ok 1 dX1_feels_0 rfl ?_
  refine r_bipush (pc := 1) ok 10 dX1_feels_1 (by decide) ?_
  refine r_icmp_ge (pc := 3) ok 10 dX1_feels_3 (by decide) (fun _ => ?_) (fun _ => ?_)
  · refine r_aload_n (pc := 10) ok 0 dX1_feels_10 rfl ?_
    refine r_iload_n (pc := 11) ok 1 dX1_feels_11 rfl ?_
    refine r_iload_n (pc := 12) ok 2 dX1_feels_12 rfl ?_
    refine r_callSU0 (pc := 13) ok [.int vq1, .int vq2] [] 2 (fun r M2 h => con_X3_feels g l iq0 vq1 vq2 hq0 _ r M2 h) csu_X1_11 hq0 (rmOk_L (by decide) (by decide)) dX1_feels_13 rfl rfl (Nat.le_of_ble_eq_true rfl) (fun r1 M2 => ?_)
    exact r_iret (pc := 16) ok (Nat.zero_le _) (Nat.zero_le _) rfl dX1_feels_16
  · refine r_iconst (pc := 6) ok 0 dX1_feels_6 (by decide) ?_
    refine r_goto (pc := 7) ok 16 dX1_feels_7 (by decide) ?_
    exact r_iret (pc := 16) ok (Nat.zero_le _) (Nat.zero_le _) rfl dX1_feels_16
theorem con_X1_feels (g : GP) (l : Launch) (iq0 : Nat) (vq1 : Int32) (vq2 : Int32) (hq0 : iq0 < 6) (M : Mem) (r : Int32) (M2 : Mem) (h : fX1_feels iq0 vq1 vq2 M = some (r, M2)) : Con g l yX1_feels cX1_feels 3 (some FieldType.int) (rmL 3) [.ref (gA g 12 iq0), .int vq1, .int vq2] M (eI r) M2 :=
  Con.of (own := RX1) (f := fX1_feels iq0 vq1 vq2 M) (by decide) (Nat.le_of_ble_eq_true rfl) rfl (fun x ok => wX1_feels ok iq0 vq1 vq2 hq0 M) r M2 h
def fX1_isOf (iq0 : Nat) (vq1 : Int32) (M : Mem) : Option (Int32 × Mem) :=
  if vq1 = 5 then
    (some (1, M))
  else
    (ob (fX3_isOf iq0 vq1 M) fun r1 M2 =>
    if r1 = 0 then
      (some (0, M2))
    else
      (some (1, M2)))
set_option maxRecDepth 20000 in
theorem wX1_isOf {g : GP} {l : Launch} {x : CT} (ok : Ok g l x RX1 cX1_isOf 2 (some FieldType.boolean) (rmL 3)) (iq0 : Nat) (vq1 : Int32) (hq0 : iq0 < 6) (M : Mem) : Sw g l x (FinQ g x eI) 2 0 0 0 [(0, .ref (gA g 12 iq0)), (1, .int vq1)] [] M (fX1_isOf iq0 vq1 M) := by
  unfold fX1_isOf
  refine r_iload_n (pc := 0) ok 1 dX1_isOf_0 rfl ?_
  refine r_iconst (pc := 1) ok 5 dX1_isOf_1 (by decide) ?_
  refine r_icmp_eq (pc := 2) ok 13 dX1_isOf_2 (by decide) (fun _ => ?_) (fun _ => ?_)
  · refine r_iconst (pc := 13) ok 1 dX1_isOf_13 (by decide) ?_
    refine r_goto (pc := 14) ok 18 dX1_isOf_14 (by decide) ?_
    exact r_zret (pc := 18) ok (Nat.zero_le _) (Nat.zero_le _) rfl rfl dX1_isOf_18
  · refine r_aload_n (pc := 5) ok 0 dX1_isOf_5 rfl ?_
    refine r_iload_n (pc := 6) ok 1 dX1_isOf_6 rfl ?_
    refine r_callSU0 (pc := 7) ok [.int vq1] [] 2 (fun r M2 h => con_X3_isOf g l iq0 vq1 hq0 _ r M2 h) csu_X1_15 hq0 (rmOk_L (by decide) (by decide)) dX1_isOf_7 rfl rfl (Nat.le_of_ble_eq_true rfl) (fun r1 M2 => ?_)
    refine r_if_eq (pc := 10) ok 17 dX1_isOf_10 (by decide) (fun _ => ?_) (fun _ => ?_)
    · refine r_iconst (pc := 17) ok 0 dX1_isOf_17 (by decide) ?_
      exact r_zret (pc := 18) ok (Nat.zero_le _) (Nat.zero_le _) rfl rfl dX1_isOf_18
    · refine r_iconst (pc := 13) ok 1 dX1_isOf_13 (by decide) ?_
      refine r_goto (pc := 14) ok 18 dX1_isOf_14 (by decide) ?_
      exact r_zret (pc := 18) ok (Nat.zero_le _) (Nat.zero_le _) rfl rfl dX1_isOf_18
theorem con_X1_isOf (g : GP) (l : Launch) (iq0 : Nat) (vq1 : Int32) (hq0 : iq0 < 6) (M : Mem) (r : Int32) (M2 : Mem) (h : fX1_isOf iq0 vq1 M = some (r, M2)) : Con g l yX1_isOf cX1_isOf 2 (some FieldType.boolean) (rmL 3) [.ref (gA g 12 iq0), .int vq1] M (eI r) M2 :=
  Con.of (own := RX1) (f := fX1_isOf iq0 vq1 M) (by decide) (Nat.le_of_ble_eq_true rfl) rfl (fun x ok => wX1_isOf ok iq0 vq1 hq0 M) r M2 h
def fX2_wears (iq0 : Nat) (vq1 : Int32) (vq2 : Int32) (vq3 : Int32) (M : Mem) : Option (Int32 × Mem) :=
  ob (fX3_wears iq0 vq1 vq2 vq3 M) fun r1 M2 =>
  some (r1 / 2, M2)
set_option maxRecDepth 20000 in
theorem wX2_wears {g : GP} {l : Launch} {x : CT} (ok : Ok g l x RX2 cX2_wears 4 (some FieldType.int) (rmL 3)) (iq0 : Nat) (vq1 : Int32) (vq2 : Int32) (vq3 : Int32) (hq0 : iq0 < 6) (M : Mem) : Sw g l x (FinQ g x eI) 4 0 0 0 [(0, .ref (gA g 12 iq0)), (1, .int vq1), (2, .int vq2), (3, .int vq3)] [] M (fX2_wears iq0 vq1 vq2 vq3 M) := by
  unfold fX2_wears
  refine r_aload_n (pc := 0) ok 0 dX2_wears_0 rfl ?_
  refine r_iload_n (pc := 1) ok 1 dX2_wears_1 rfl ?_
  refine r_iload_n (pc := 2) ok 2 dX2_wears_2 rfl ?_
  refine r_iload_n (pc := 3) ok 3 dX2_wears_3 rfl ?_
  refine r_callSU0 (pc := 4) ok [.int vq1, .int vq2, .int vq3] [] 2 (fun r M2 h => con_X3_wears g l iq0 vq1 vq2 vq3 hq0 _ r M2 h) csu_X2_7 hq0 (rmOk_L (by decide) (by decide)) dX2_wears_4 rfl rfl (Nat.le_of_ble_eq_true rfl) (fun r1 M2 => ?_)
  refine r_iconst (pc := 7) ok 2 dX2_wears_7 (by decide) ?_
  refine r_idivc (pc := 8) ok (by decide) dX2_wears_8 ?_
  exact r_iret (pc := 9) ok (Nat.zero_le _) (Nat.zero_le _) rfl dX2_wears_9
theorem con_X2_wears (g : GP) (l : Launch) (iq0 : Nat) (vq1 : Int32) (vq2 : Int32) (vq3 : Int32) (hq0 : iq0 < 6) (M : Mem) (r : Int32) (M2 : Mem) (h : fX2_wears iq0 vq1 vq2 vq3 M = some (r, M2)) : Con g l yX2_wears cX2_wears 4 (some FieldType.int) (rmL 3) [.ref (gA g 12 iq0), .int vq1, .int vq2, .int vq3] M (eI r) M2 :=
  Con.of (own := RX2) (f := fX2_wears iq0 vq1 vq2 vq3 M) (by decide) (Nat.le_of_ble_eq_true rfl) rfl (fun x ok => wX2_wears ok iq0 vq1 vq2 vq3 hq0 M) r M2 h
def fX2_feels (iq0 : Nat) (vq1 : Int32) (vq2 : Int32) (M : Mem) : Option (Int32 × Mem) :=
  ob (fX3_feels iq0 vq1 vq2 M) fun r1 M2 =>
  some (2 * r1, M2)
set_option maxRecDepth 20000 in
theorem wX2_feels {g : GP} {l : Launch} {x : CT} (ok : Ok g l x RX2 cX2_feels 3 (some FieldType.int) (rmL 3)) (iq0 : Nat) (vq1 : Int32) (vq2 : Int32) (hq0 : iq0 < 6) (M : Mem) : Sw g l x (FinQ g x eI) 3 0 0 0 [(0, .ref (gA g 12 iq0)), (1, .int vq1), (2, .int vq2)] [] M (fX2_feels iq0 vq1 vq2 M) := by
  unfold fX2_feels
  refine r_iconst (pc := 0) ok 2 dX2_feels_0 (by decide) ?_
  refine r_aload_n (pc := 1) ok 0 dX2_feels_1 rfl ?_
  refine r_iload_n (pc := 2) ok 1 dX2_feels_2 rfl ?_
  refine r_iload_n (pc := 3) ok 2 dX2_feels_3 rfl ?_
  refine r_callSU0 (pc := 4) ok [.int vq1, .int vq2] [.int 2] 2 (fun r M2 h => con_X3_feels g l iq0 vq1 vq2 hq0 _ r M2 h) csu_X2_11 hq0 (rmOk_L (by decide) (by decide)) dX2_feels_4 rfl rfl (Nat.le_of_ble_eq_true rfl) (fun r1 M2 => ?_)
  refine r_imul (pc := 7) ok dX2_feels_7 ?_
  exact r_iret (pc := 8) ok (Nat.zero_le _) (Nat.zero_le _) rfl dX2_feels_8
theorem con_X2_feels (g : GP) (l : Launch) (iq0 : Nat) (vq1 : Int32) (vq2 : Int32) (hq0 : iq0 < 6) (M : Mem) (r : Int32) (M2 : Mem) (h : fX2_feels iq0 vq1 vq2 M = some (r, M2)) : Con g l yX2_feels cX2_feels 3 (some FieldType.int) (rmL 3) [.ref (gA g 12 iq0), .int vq1, .int vq2] M (eI r) M2 :=
  Con.of (own := RX2) (f := fX2_feels iq0 vq1 vq2 M) (by decide) (Nat.le_of_ble_eq_true rfl) rfl (fun x ok => wX2_feels ok iq0 vq1 vq2 hq0 M) r M2 h
def fX2_isOf (iq0 : Nat) (vq1 : Int32) (M : Mem) : Option (Int32 × Mem) :=
  if vq1 = 2 then
    (some (1, M))
  else
    (ob (fX3_isOf iq0 vq1 M) fun r1 M2 =>
    if r1 = 0 then
      (some (0, M2))
    else
      (some (1, M2)))
set_option maxRecDepth 20000 in
theorem wX2_isOf {g : GP} {l : Launch} {x : CT} (ok : Ok g l x RX2 cX2_isOf 2 (some FieldType.boolean) (rmL 3)) (iq0 : Nat) (vq1 : Int32) (hq0 : iq0 < 6) (M : Mem) : Sw g l x (FinQ g x eI) 2 0 0 0 [(0, .ref (gA g 12 iq0)), (1, .int vq1)] [] M (fX2_isOf iq0 vq1 M) := by
  unfold fX2_isOf
  refine r_iload_n (pc := 0) ok 1 dX2_isOf_0 rfl ?_
  refine r_iconst (pc := 1) ok 2 dX2_isOf_1 (by decide) ?_
  refine r_icmp_eq (pc := 2) ok 13 dX2_isOf_2 (by decide) (fun _ => ?_) (fun _ => ?_)
  · refine r_iconst (pc := 13) ok 1 dX2_isOf_13 (by decide) ?_
    refine r_goto (pc := 14) ok 18 dX2_isOf_14 (by decide) ?_
    exact r_zret (pc := 18) ok (Nat.zero_le _) (Nat.zero_le _) rfl rfl dX2_isOf_18
  · refine r_aload_n (pc := 5) ok 0 dX2_isOf_5 rfl ?_
    refine r_iload_n (pc := 6) ok 1 dX2_isOf_6 rfl ?_
    refine r_callSU0 (pc := 7) ok [.int vq1] [] 2 (fun r M2 h => con_X3_isOf g l iq0 vq1 hq0 _ r M2 h) csu_X2_15 hq0 (rmOk_L (by decide) (by decide)) dX2_isOf_7 rfl rfl (Nat.le_of_ble_eq_true rfl) (fun r1 M2 => ?_)
    refine r_if_eq (pc := 10) ok 17 dX2_isOf_10 (by decide) (fun _ => ?_) (fun _ => ?_)
    · refine r_iconst (pc := 17) ok 0 dX2_isOf_17 (by decide) ?_
      exact r_zret (pc := 18) ok (Nat.zero_le _) (Nat.zero_le _) rfl rfl dX2_isOf_18
    · refine r_iconst (pc := 13) ok 1 dX2_isOf_13 (by decide) ?_
      refine r_goto (pc := 14) ok 18 dX2_isOf_14 (by decide) ?_
      exact r_zret (pc := 18) ok (Nat.zero_le _) (Nat.zero_le _) rfl rfl dX2_isOf_18
theorem con_X2_isOf (g : GP) (l : Launch) (iq0 : Nat) (vq1 : Int32) (hq0 : iq0 < 6) (M : Mem) (r : Int32) (M2 : Mem) (h : fX2_isOf iq0 vq1 M = some (r, M2)) : Con g l yX2_isOf cX2_isOf 2 (some FieldType.boolean) (rmL 3) [.ref (gA g 12 iq0), .int vq1] M (eI r) M2 :=
  Con.of (own := RX2) (f := fX2_isOf iq0 vq1 M) (by decide) (Nat.le_of_ble_eq_true rfl) rfl (fun x ok => wX2_isOf ok iq0 vq1 hq0 M) r M2 h
def fX7_drops (iq0 : Nat) (vq1 : Int32) (vq2 : Int32) (vq3 : Int32) (M : Mem) : Option (Int32 × Mem) :=
  if vq1 = 0 then
    (some (-vq3, M))
  else
    (ob (fX2_drops iq0 vq1 vq2 vq3 M) fun r1 M2 =>
    some (r1, M2))
set_option maxRecDepth 20000 in
theorem wX7_drops {g : GP} {l : Launch} {x : CT} (ok : Ok g l x RX7 cX7_drops 4 (some FieldType.int) (rmL 3)) (iq0 : Nat) (vq1 : Int32) (vq2 : Int32) (vq3 : Int32) (hq0 : iq0 < 6) (M : Mem) : Sw g l x (FinQ g x eI) 4 0 0 0 [(0, .ref (gA g 12 iq0)), (1, .int vq1), (2, .int vq2), (3, .int vq3)] [] M (fX7_drops iq0 vq1 vq2 vq3 M) := by
  unfold fX7_drops
  refine r_iload_n (pc := 0) ok 1 dX7_drops_0 rfl ?_
  refine r_if_ne (pc := 1) ok 9 dX7_drops_1 (by decide) (fun _ => ?_) (fun _ => ?_)
  · refine r_iload_n (pc := 4) ok 3 dX7_drops_4 rfl ?_
    refine r_ineg (pc := 5) ok dX7_drops_5 ?_
    refine r_goto (pc := 6) ok 16 dX7_drops_6 (by decide) ?_
    exact r_iret (pc := 16) ok (Nat.zero_le _) (Nat.zero_le _) rfl dX7_drops_16
  · refine r_aload_n (pc := 9) ok 0 dX7_drops_9 rfl ?_
    refine r_iload_n (pc := 10) ok 1 dX7_drops_10 rfl ?_
    refine r_iload_n (pc := 11) ok 2 dX7_drops_11 rfl ?_
    refine r_iload_n (pc := 12) ok 3 dX7_drops_12 rfl ?_
    refine r_callSU0 (pc := 13) ok [.int vq1, .int vq2, .int vq3] [] 2 (fun r M2 h => con_X2_drops g l iq0 vq1 vq2 vq3 hq0 _ r M2 h) csu_X7_7 hq0 (rmOk_L (by decide) (by decide)) dX7_drops_13 rfl rfl (Nat.le_of_ble_eq_true rfl) (fun r1 M2 => ?_)
    exact r_iret (pc := 16) ok (Nat.zero_le _) (Nat.zero_le _) rfl dX7_drops_16
theorem con_X7_drops (g : GP) (l : Launch) (iq0 : Nat) (vq1 : Int32) (vq2 : Int32) (vq3 : Int32) (hq0 : iq0 < 6) (M : Mem) (r : Int32) (M2 : Mem) (h : fX7_drops iq0 vq1 vq2 vq3 M = some (r, M2)) : Con g l yX7_drops cX7_drops 4 (some FieldType.int) (rmL 3) [.ref (gA g 12 iq0), .int vq1, .int vq2, .int vq3] M (eI r) M2 :=
  Con.of (own := RX7) (f := fX7_drops iq0 vq1 vq2 vq3 M) (by decide) (Nat.le_of_ble_eq_true rfl) rfl (fun x ok => wX7_drops ok iq0 vq1 vq2 vq3 hq0 M) r M2 h
def fX9_wears (iq0 : Nat) (vq1 : Int32) (vq2 : Int32) (vq3 : Int32) (M : Mem) : Option (Int32 × Mem) :=
  if vq3 ≤ 50 then
    (ob (fX3_wears iq0 vq1 vq2 vq3 M) fun r1 M2 =>
    some (r1, M2))
  else
    (some (0, M))
set_option maxRecDepth 20000 in
theorem wX9_wears {g : GP} {l : Launch} {x : CT} (ok : Ok g l x RX9 cX9_wears 4 (some FieldType.int) (rmL 3)) (iq0 : Nat) (vq1 : Int32) (vq2 : Int32) (vq3 : Int32) (hq0 : iq0 < 6) (M : Mem) : Sw g l x (FinQ g x eI) 4 0 0 0 [(0, .ref (gA g 12 iq0)), (1, .int vq1), (2, .int vq2), (3, .int vq3)] [] M (fX9_wears iq0 vq1 vq2 vq3 M) := by
  unfold fX9_wears
  refine r_iload_n (pc := 0) ok 3 dX9_wears_0 rfl ?_
  refine r_bipush (pc := 1) ok 50 dX9_wears_1 (by decide) ?_
  refine r_icmp_le (pc := 3) ok 10 dX9_wears_3 (by decide) (fun _ => ?_) (fun _ => ?_)
  · refine r_aload_n (pc := 10) ok 0 dX9_wears_10 rfl ?_
    refine r_iload_n (pc := 11) ok 1 dX9_wears_11 rfl ?_
    refine r_iload_n (pc := 12) ok 2 dX9_wears_12 rfl ?_
    refine r_iload_n (pc := 13) ok 3 dX9_wears_13 rfl ?_
    refine r_callSI0 (pc := 14) ok [.int vq1, .int vq2, .int vq3] [] 2 (fun r M2 h => con_X3_wears g l iq0 vq1 vq2 vq3 hq0 _ r M2 h) csi_X9_11 hq0 (rmOk_L (by decide) (by decide)) dX9_wears_14 rfl rfl (Nat.le_of_ble_eq_true rfl) (fun r1 M2 => ?_)
    exact r_iret (pc := 17) ok (Nat.zero_le _) (Nat.zero_le _) rfl dX9_wears_17
  · refine r_iconst (pc := 6) ok 0 dX9_wears_6 (by decide) ?_
    refine r_goto (pc := 7) ok 17 dX9_wears_7 (by decide) ?_
    exact r_iret (pc := 17) ok (Nat.zero_le _) (Nat.zero_le _) rfl dX9_wears_17
theorem con_X9_wears (g : GP) (l : Launch) (iq0 : Nat) (vq1 : Int32) (vq2 : Int32) (vq3 : Int32) (hq0 : iq0 < 6) (M : Mem) (r : Int32) (M2 : Mem) (h : fX9_wears iq0 vq1 vq2 vq3 M = some (r, M2)) : Con g l yX9_wears cX9_wears 4 (some FieldType.int) (rmL 3) [.ref (gA g 12 iq0), .int vq1, .int vq2, .int vq3] M (eI r) M2 :=
  Con.of (own := RX9) (f := fX9_wears iq0 vq1 vq2 vq3 M) (by decide) (Nat.le_of_ble_eq_true rfl) rfl (fun x ok => wX9_wears ok iq0 vq1 vq2 vq3 hq0 M) r M2 h
def fX7_feels (iq0 : Nat) (vq1 : Int32) (vq2 : Int32) (M : Mem) : Option (Int32 × Mem) :=
  ob (fX2_feels iq0 vq1 vq2 M) fun r1 M2 =>
  some (r1 / 4, M2)
set_option maxRecDepth 20000 in
theorem wX7_feels {g : GP} {l : Launch} {x : CT} (ok : Ok g l x RX7 cX7_feels 3 (some FieldType.int) (rmL 4)) (iq0 : Nat) (vq1 : Int32) (vq2 : Int32) (hq0 : iq0 < 6) (M : Mem) : Sw g l x (FinQ g x eI) 3 0 0 0 [(0, .ref (gA g 12 iq0)), (1, .int vq1), (2, .int vq2)] [] M (fX7_feels iq0 vq1 vq2 M) := by
  unfold fX7_feels
  refine r_aload_n (pc := 0) ok 0 dX7_feels_0 rfl ?_
  refine r_iload_n (pc := 1) ok 1 dX7_feels_1 rfl ?_
  refine r_iload_n (pc := 2) ok 2 dX7_feels_2 rfl ?_
  refine r_callSU0 (pc := 3) ok [.int vq1, .int vq2] [] 3 (fun r M2 h => con_X2_feels g l iq0 vq1 vq2 hq0 _ r M2 h) csu_X7_11 hq0 (rmOk_L (by decide) (by decide)) dX7_feels_3 rfl rfl (Nat.le_of_ble_eq_true rfl) (fun r1 M2 => ?_)
  refine r_iconst (pc := 6) ok 4 dX7_feels_6 (by decide) ?_
  refine r_idivc (pc := 7) ok (by decide) dX7_feels_7 ?_
  exact r_iret (pc := 8) ok (Nat.zero_le _) (Nat.zero_le _) rfl dX7_feels_8
theorem con_X7_feels (g : GP) (l : Launch) (iq0 : Nat) (vq1 : Int32) (vq2 : Int32) (hq0 : iq0 < 6) (M : Mem) (r : Int32) (M2 : Mem) (h : fX7_feels iq0 vq1 vq2 M = some (r, M2)) : Con g l yX7_feels cX7_feels 3 (some FieldType.int) (rmL 4) [.ref (gA g 12 iq0), .int vq1, .int vq2] M (eI r) M2 :=
  Con.of (own := RX7) (f := fX7_feels iq0 vq1 vq2 M) (by decide) (Nat.le_of_ble_eq_true rfl) rfl (fun x ok => wX7_feels ok iq0 vq1 vq2 hq0 M) r M2 h
def fX7_isOf (iq0 : Nat) (vq1 : Int32) (M : Mem) : Option (Int32 × Mem) :=
  if vq1 = 4 then
    (some (1, M))
  else
    (ob (fX2_isOf iq0 vq1 M) fun r1 M2 =>
    if r1 = 0 then
      (some (0, M2))
    else
      (some (1, M2)))
set_option maxRecDepth 20000 in
theorem wX7_isOf {g : GP} {l : Launch} {x : CT} (ok : Ok g l x RX7 cX7_isOf 2 (some FieldType.boolean) (rmL 4)) (iq0 : Nat) (vq1 : Int32) (hq0 : iq0 < 6) (M : Mem) : Sw g l x (FinQ g x eI) 2 0 0 0 [(0, .ref (gA g 12 iq0)), (1, .int vq1)] [] M (fX7_isOf iq0 vq1 M) := by
  unfold fX7_isOf
  refine r_iload_n (pc := 0) ok 1 dX7_isOf_0 rfl ?_
  refine r_iconst (pc := 1) ok 4 dX7_isOf_1 (by decide) ?_
  refine r_icmp_eq (pc := 2) ok 13 dX7_isOf_2 (by decide) (fun _ => ?_) (fun _ => ?_)
  · refine r_iconst (pc := 13) ok 1 dX7_isOf_13 (by decide) ?_
    refine r_goto (pc := 14) ok 18 dX7_isOf_14 (by decide) ?_
    exact r_zret (pc := 18) ok (Nat.zero_le _) (Nat.zero_le _) rfl rfl dX7_isOf_18
  · refine r_aload_n (pc := 5) ok 0 dX7_isOf_5 rfl ?_
    refine r_iload_n (pc := 6) ok 1 dX7_isOf_6 rfl ?_
    refine r_callSU0 (pc := 7) ok [.int vq1] [] 3 (fun r M2 h => con_X2_isOf g l iq0 vq1 hq0 _ r M2 h) csu_X7_15 hq0 (rmOk_L (by decide) (by decide)) dX7_isOf_7 rfl rfl (Nat.le_of_ble_eq_true rfl) (fun r1 M2 => ?_)
    refine r_if_eq (pc := 10) ok 17 dX7_isOf_10 (by decide) (fun _ => ?_) (fun _ => ?_)
    · refine r_iconst (pc := 17) ok 0 dX7_isOf_17 (by decide) ?_
      exact r_zret (pc := 18) ok (Nat.zero_le _) (Nat.zero_le _) rfl rfl dX7_isOf_18
    · refine r_iconst (pc := 13) ok 1 dX7_isOf_13 (by decide) ?_
      refine r_goto (pc := 14) ok 18 dX7_isOf_14 (by decide) ?_
      exact r_zret (pc := 18) ok (Nat.zero_le _) (Nat.zero_le _) rfl rfl dX7_isOf_18
theorem con_X7_isOf (g : GP) (l : Launch) (iq0 : Nat) (vq1 : Int32) (hq0 : iq0 < 6) (M : Mem) (r : Int32) (M2 : Mem) (h : fX7_isOf iq0 vq1 M = some (r, M2)) : Con g l yX7_isOf cX7_isOf 2 (some FieldType.boolean) (rmL 4) [.ref (gA g 12 iq0), .int vq1] M (eI r) M2 :=
  Con.of (own := RX7) (f := fX7_isOf iq0 vq1 M) (by decide) (Nat.le_of_ble_eq_true rfl) rfl (fun x ok => wX7_isOf ok iq0 vq1 hq0 M) r M2 h
def fX9_drops (iq0 : Nat) (vq1 : Int32) (vq2 : Int32) (vq3 : Int32) (M : Mem) : Option (Int32 × Mem) :=
  if vq1 = 0 then
    (some (vq2 + (2 * vq3), M))
  else
    (ob (fX0_drops iq0 vq1 vq2 vq3 M) fun r1 M2 =>
    some (r1, M2))
set_option maxRecDepth 20000 in
theorem wX9_drops {g : GP} {l : Launch} {x : CT} (ok : Ok g l x RX9 cX9_drops 4 (some FieldType.int) (rmL 4)) (iq0 : Nat) (vq1 : Int32) (vq2 : Int32) (vq3 : Int32) (hq0 : iq0 < 6) (M : Mem) : Sw g l x (FinQ g x eI) 4 0 0 0 [(0, .ref (gA g 12 iq0)), (1, .int vq1), (2, .int vq2), (3, .int vq3)] [] M (fX9_drops iq0 vq1 vq2 vq3 M) := by
  unfold fX9_drops
  refine r_iload_n (pc := 0) ok 1 dX9_drops_0 rfl ?_
  refine r_if_ne (pc := 1) ok 12 dX9_drops_1 (by decide) (fun _ => ?_) (fun _ => ?_)
  · refine r_iload_n (pc := 4) ok 2 dX9_drops_4 rfl ?_
    refine r_iconst (pc := 5) ok 2 dX9_drops_5 (by decide) ?_
    refine r_iload_n (pc := 6) ok 3 dX9_drops_6 rfl ?_
    refine r_imul (pc := 7) ok dX9_drops_7 ?_
    refine r_iadd (pc := 8) ok dX9_drops_8 ?_
    refine r_goto (pc := 9) ok 19 dX9_drops_9 (by decide) ?_
    exact r_iret (pc := 19) ok (Nat.zero_le _) (Nat.zero_le _) rfl dX9_drops_19
  · refine r_aload_n (pc := 12) ok 0 dX9_drops_12 rfl ?_
    refine r_iload_n (pc := 13) ok 1 dX9_drops_13 rfl ?_
    refine r_iload_n (pc := 14) ok 2 dX9_drops_14 rfl ?_
    refine r_iload_n (pc := 15) ok 3 dX9_drops_15 rfl ?_
    refine r_callSU0 (pc := 16) ok [.int vq1, .int vq2, .int vq3] [] 3 (fun r M2 h => con_X0_drops g l iq0 vq1 vq2 vq3 hq0 _ r M2 h) csu_X9_7 hq0 (rmOk_L (by decide) (by decide)) dX9_drops_16 rfl rfl (Nat.le_of_ble_eq_true rfl) (fun r1 M2 => ?_)
    exact r_iret (pc := 19) ok (Nat.zero_le _) (Nat.zero_le _) rfl dX9_drops_19
theorem con_X9_drops (g : GP) (l : Launch) (iq0 : Nat) (vq1 : Int32) (vq2 : Int32) (vq3 : Int32) (hq0 : iq0 < 6) (M : Mem) (r : Int32) (M2 : Mem) (h : fX9_drops iq0 vq1 vq2 vq3 M = some (r, M2)) : Con g l yX9_drops cX9_drops 4 (some FieldType.int) (rmL 4) [.ref (gA g 12 iq0), .int vq1, .int vq2, .int vq3] M (eI r) M2 :=
  Con.of (own := RX9) (f := fX9_drops iq0 vq1 vq2 vq3 M) (by decide) (Nat.le_of_ble_eq_true rfl) rfl (fun x ok => wX9_drops ok iq0 vq1 vq2 vq3 hq0 M) r M2 h
def fX9_isOf (iq0 : Nat) (vq1 : Int32) (M : Mem) : Option (Int32 × Mem) :=
  if vq1 = 3 then
    (some (1, M))
  else
    (ob (fX0_isOf iq0 vq1 M) fun r1 M2 =>
    if r1 = 0 then
      (some (0, M2))
    else
      (some (1, M2)))
set_option maxRecDepth 20000 in
theorem wX9_isOf {g : GP} {l : Launch} {x : CT} (ok : Ok g l x RX9 cX9_isOf 2 (some FieldType.boolean) (rmL 4)) (iq0 : Nat) (vq1 : Int32) (hq0 : iq0 < 6) (M : Mem) : Sw g l x (FinQ g x eI) 2 0 0 0 [(0, .ref (gA g 12 iq0)), (1, .int vq1)] [] M (fX9_isOf iq0 vq1 M) := by
  unfold fX9_isOf
  refine r_iload_n (pc := 0) ok 1 dX9_isOf_0 rfl ?_
  refine r_iconst (pc := 1) ok 3 dX9_isOf_1 (by decide) ?_
  refine r_icmp_eq (pc := 2) ok 13 dX9_isOf_2 (by decide) (fun _ => ?_) (fun _ => ?_)
  · refine r_iconst (pc := 13) ok 1 dX9_isOf_13 (by decide) ?_
    refine r_goto (pc := 14) ok 18 dX9_isOf_14 (by decide) ?_
    exact r_zret (pc := 18) ok (Nat.zero_le _) (Nat.zero_le _) rfl rfl dX9_isOf_18
  · refine r_aload_n (pc := 5) ok 0 dX9_isOf_5 rfl ?_
    refine r_iload_n (pc := 6) ok 1 dX9_isOf_6 rfl ?_
    refine r_callSU0 (pc := 7) ok [.int vq1] [] 3 (fun r M2 h => con_X0_isOf g l iq0 vq1 hq0 _ r M2 h) csu_X9_14 hq0 (rmOk_L (by decide) (by decide)) dX9_isOf_7 rfl rfl (Nat.le_of_ble_eq_true rfl) (fun r1 M2 => ?_)
    refine r_if_eq (pc := 10) ok 17 dX9_isOf_10 (by decide) (fun _ => ?_) (fun _ => ?_)
    · refine r_iconst (pc := 17) ok 0 dX9_isOf_17 (by decide) ?_
      exact r_zret (pc := 18) ok (Nat.zero_le _) (Nat.zero_le _) rfl rfl dX9_isOf_18
    · refine r_iconst (pc := 13) ok 1 dX9_isOf_13 (by decide) ?_
      refine r_goto (pc := 14) ok 18 dX9_isOf_14 (by decide) ?_
      exact r_zret (pc := 18) ok (Nat.zero_le _) (Nat.zero_le _) rfl rfl dX9_isOf_18
theorem con_X9_isOf (g : GP) (l : Launch) (iq0 : Nat) (vq1 : Int32) (hq0 : iq0 < 6) (M : Mem) (r : Int32) (M2 : Mem) (h : fX9_isOf iq0 vq1 M = some (r, M2)) : Con g l yX9_isOf cX9_isOf 2 (some FieldType.boolean) (rmL 4) [.ref (gA g 12 iq0), .int vq1] M (eI r) M2 :=
  Con.of (own := RX9) (f := fX9_isOf iq0 vq1 M) (by decide) (Nat.le_of_ble_eq_true rfl) rfl (fun x ok => wX9_isOf ok iq0 vq1 hq0 M) r M2 h
def fP_drops (k : Nat) (v1 : Int32) (v2 : Int32) (v3 : Int32) (M : Mem) : Option (Int32 × Mem) := match k with
  | 0 => fX3_drops 0 v1 v2 v3 M
  | 1 => fX0_drops 1 v1 v2 v3 M
  | 2 => fX2_drops 2 v1 v2 v3 M
  | 3 => fX9_drops 3 v1 v2 v3 M
  | 4 => fX7_drops 4 v1 v2 v3 M
  | 5 => fX1_drops 5 v1 v2 v3 M
  | _ => none
theorem cvo_drops_0 : CVO RX5 RX3 92 yX3_drops yX3_drops cX3_drops 4 (some FieldType.int) 3 := ⟨wml_X5_92, wsm_X3_X3_drops, wim_X3_drops, wse_X3_X3_drops_X3_drops, wim_X3_drops, win_X3, wcd_X3_drops, ⟨_, _, _, wcd_X3_drops⟩, ⟨by decide, by decide, by decide +kernel⟩⟩
theorem cvo_drops_1 : CVO RX5 RX0 92 yX3_drops yX0_drops cX0_drops 4 (some FieldType.int) 3 := ⟨wml_X5_92, wsm_X3_X3_drops, wim_X3_drops, wse_X0_X3_drops_X0_drops, wim_X0_drops, win_X0, wcd_X0_drops, ⟨_, _, _, wcd_X3_drops⟩, ⟨by decide, by decide, by decide +kernel⟩⟩
theorem cvo_drops_2 : CVO RX5 RX2 92 yX3_drops yX2_drops cX2_drops 4 (some FieldType.int) 3 := ⟨wml_X5_92, wsm_X3_X3_drops, wim_X3_drops, wse_X2_X3_drops_X2_drops, wim_X2_drops, win_X2, wcd_X2_drops, ⟨_, _, _, wcd_X3_drops⟩, ⟨by decide, by decide, by decide +kernel⟩⟩
theorem cvo_drops_3 : CVO RX5 RX9 92 yX3_drops yX9_drops cX9_drops 4 (some FieldType.int) 3 := ⟨wml_X5_92, wsm_X3_X3_drops, wim_X3_drops, wse_X9_X3_drops_X9_drops, wim_X9_drops, win_X9, wcd_X9_drops, ⟨_, _, _, wcd_X3_drops⟩, ⟨by decide, by decide, by decide +kernel⟩⟩
theorem cvo_drops_4 : CVO RX5 RX7 92 yX3_drops yX7_drops cX7_drops 4 (some FieldType.int) 3 := ⟨wml_X5_92, wsm_X3_X3_drops, wim_X3_drops, wse_X7_X3_drops_X7_drops, wim_X7_drops, win_X7, wcd_X7_drops, ⟨_, _, _, wcd_X3_drops⟩, ⟨by decide, by decide, by decide +kernel⟩⟩
theorem cvo_drops_5 : CVO RX5 RX1 92 yX3_drops yX1_drops cX1_drops 4 (some FieldType.int) 3 := ⟨wml_X5_92, wsm_X3_X3_drops, wim_X3_drops, wse_X1_X3_drops_X1_drops, wim_X1_drops, win_X1, wcd_X1_drops, ⟨_, _, _, wcd_X3_drops⟩, ⟨by decide, by decide, by decide +kernel⟩⟩
theorem r_callP_drops {α : Type} {Q : α × Mem → State → Prop} {g : GP} {l : Launch} {x : CT} {cc : ByteArray} {nL pc : Nat} {ret : Option FieldType} {m0 k : Nat} {lv : List (Nat × Value)} {stk : List Value} {M : Mem} {F : Int32 → Mem → Option (α × Mem)} {v1 v2 v3 : Int32} (ok : Ok g l x RX5 cc nL ret (rmL m0)) (As rest : List Value) (hm : 6 ≤ m0) (hd : decode cc pc = .ok (.invokevirtual 92, 3)) (hAs : As = [.int v1, .int v2, .int v3]) (hst : stk = As.reverse ++ .ref (gA g 12 k) :: rest) (hsum : (rest.map fun v => v.category).sum ≤ 8)
    (kk : ∀ r M2, Sw g l x Q nL 0 0 (pc + 3) lv (.int r :: rest) M2 (F r M2)) : Sw g l x Q nL 0 0 pc lv stk M (ob (fP_drops k v1 v2 v3 M) F) := by
  have hn : As.length = 3 := by rw [hAs]; rfl
  match k with
  | 0 => exact r_callVO0 (encB := eI) (F := F) (fc := fX3_drops 0 v1 v2 v3 M) (K := 12) (i := 0) (C := RX3) ok As rest 2 (fun r M2 h => by subst hAs; exact con_X3_drops g l 0 v1 v2 v3 (by decide) M r M2 h) cvo_drops_0 ⟨by decide, by decide, by decide, 3, _, rfl, rfl, fun _ _ _ => ⟨_, rfl⟩⟩ (rmOk_L (by omega) (by decide)) hd hn hst hsum kk
  | 1 => exact r_callVO0 (encB := eI) (F := F) (fc := fX0_drops 1 v1 v2 v3 M) (K := 12) (i := 1) (C := RX0) ok As rest 3 (fun r M2 h => by subst hAs; exact con_X0_drops g l 1 v1 v2 v3 (by decide) M r M2 h) cvo_drops_1 ⟨by decide, by decide, by decide, 0, _, rfl, rfl, fun _ _ _ => ⟨_, rfl⟩⟩ (rmOk_L (by omega) (by decide)) hd hn hst hsum kk
  | 2 => exact r_callVO0 (encB := eI) (F := F) (fc := fX2_drops 2 v1 v2 v3 M) (K := 12) (i := 2) (C := RX2) ok As rest 2 (fun r M2 h => by subst hAs; exact con_X2_drops g l 2 v1 v2 v3 (by decide) M r M2 h) cvo_drops_2 ⟨by decide, by decide, by decide, 2, _, rfl, rfl, fun _ _ _ => ⟨_, rfl⟩⟩ (rmOk_L (by omega) (by decide)) hd hn hst hsum kk
  | 3 => exact r_callVO0 (encB := eI) (F := F) (fc := fX9_drops 3 v1 v2 v3 M) (K := 12) (i := 3) (C := RX9) ok As rest 4 (fun r M2 h => by subst hAs; exact con_X9_drops g l 3 v1 v2 v3 (by decide) M r M2 h) cvo_drops_3 ⟨by decide, by decide, by decide, 9, _, rfl, rfl, fun _ _ _ => ⟨_, rfl⟩⟩ (rmOk_L (by omega) (by decide)) hd hn hst hsum kk
  | 4 => exact r_callVO0 (encB := eI) (F := F) (fc := fX7_drops 4 v1 v2 v3 M) (K := 12) (i := 4) (C := RX7) ok As rest 3 (fun r M2 h => by subst hAs; exact con_X7_drops g l 4 v1 v2 v3 (by decide) M r M2 h) cvo_drops_4 ⟨by decide, by decide, by decide, 7, _, rfl, rfl, fun _ _ _ => ⟨_, rfl⟩⟩ (rmOk_L (by omega) (by decide)) hd hn hst hsum kk
  | 5 => exact r_callVO0 (encB := eI) (F := F) (fc := fX1_drops 5 v1 v2 v3 M) (K := 12) (i := 5) (C := RX1) ok As rest 2 (fun r M2 h => by subst hAs; exact con_X1_drops g l 5 v1 v2 v3 (by decide) M r M2 h) cvo_drops_5 ⟨by decide, by decide, by decide, 1, _, rfl, rfl, fun _ _ _ => ⟨_, rfl⟩⟩ (rmOk_L (by omega) (by decide)) hd hn hst hsum kk
  | k + 6 => exact r_none
def fP_feels (k : Nat) (v1 : Int32) (v2 : Int32) (M : Mem) : Option (Int32 × Mem) := match k with
  | 0 => fX3_feels 0 v1 v2 M
  | 1 => fX0_feels 1 v1 v2 M
  | 2 => fX2_feels 2 v1 v2 M
  | 3 => fX0_feels 3 v1 v2 M
  | 4 => fX7_feels 4 v1 v2 M
  | 5 => fX1_feels 5 v1 v2 M
  | _ => none
theorem cvo_feels_0 : CVO RX5 RX3 75 yX3_feels yX3_feels cX3_feels 3 (some FieldType.int) 2 := ⟨wml_X5_75, wsm_X3_X3_feels, wim_X3_feels, wse_X3_X3_feels_X3_feels, wim_X3_feels, win_X3, wcd_X3_feels, ⟨_, _, _, wcd_X3_feels⟩, ⟨by decide, by decide, by decide +kernel⟩⟩
theorem cvo_feels_1 : CVO RX5 RX0 75 yX3_feels yX0_feels cX0_feels 3 (some FieldType.int) 2 := ⟨wml_X5_75, wsm_X3_X3_feels, wim_X3_feels, wse_X0_X3_feels_X0_feels, wim_X0_feels, win_X0, wcd_X0_feels, ⟨_, _, _, wcd_X3_feels⟩, ⟨by decide, by decide, by decide +kernel⟩⟩
theorem cvo_feels_2 : CVO RX5 RX2 75 yX3_feels yX2_feels cX2_feels 3 (some FieldType.int) 2 := ⟨wml_X5_75, wsm_X3_X3_feels, wim_X3_feels, wse_X2_X3_feels_X2_feels, wim_X2_feels, win_X2, wcd_X2_feels, ⟨_, _, _, wcd_X3_feels⟩, ⟨by decide, by decide, by decide +kernel⟩⟩
theorem cvo_feels_3 : CVO RX5 RX9 75 yX3_feels yX0_feels cX0_feels 3 (some FieldType.int) 2 := ⟨wml_X5_75, wsm_X3_X3_feels, wim_X3_feels, wse_X9_X3_feels_X0_feels, wim_X0_feels, win_X0, wcd_X0_feels, ⟨_, _, _, wcd_X3_feels⟩, ⟨by decide, by decide, by decide +kernel⟩⟩
theorem cvo_feels_4 : CVO RX5 RX7 75 yX3_feels yX7_feels cX7_feels 3 (some FieldType.int) 2 := ⟨wml_X5_75, wsm_X3_X3_feels, wim_X3_feels, wse_X7_X3_feels_X7_feels, wim_X7_feels, win_X7, wcd_X7_feels, ⟨_, _, _, wcd_X3_feels⟩, ⟨by decide, by decide, by decide +kernel⟩⟩
theorem cvo_feels_5 : CVO RX5 RX1 75 yX3_feels yX1_feels cX1_feels 3 (some FieldType.int) 2 := ⟨wml_X5_75, wsm_X3_X3_feels, wim_X3_feels, wse_X1_X3_feels_X1_feels, wim_X1_feels, win_X1, wcd_X1_feels, ⟨_, _, _, wcd_X3_feels⟩, ⟨by decide, by decide, by decide +kernel⟩⟩
theorem r_callP_feels {α : Type} {Q : α × Mem → State → Prop} {g : GP} {l : Launch} {x : CT} {cc : ByteArray} {nL pc : Nat} {ret : Option FieldType} {m0 k : Nat} {lv : List (Nat × Value)} {stk : List Value} {M : Mem} {F : Int32 → Mem → Option (α × Mem)} {v1 v2 : Int32} (ok : Ok g l x RX5 cc nL ret (rmL m0)) (As rest : List Value) (hm : 6 ≤ m0) (hd : decode cc pc = .ok (.invokevirtual 75, 3)) (hAs : As = [.int v1, .int v2]) (hst : stk = As.reverse ++ .ref (gA g 12 k) :: rest) (hsum : (rest.map fun v => v.category).sum ≤ 8)
    (kk : ∀ r M2, Sw g l x Q nL 0 0 (pc + 3) lv (.int r :: rest) M2 (F r M2)) : Sw g l x Q nL 0 0 pc lv stk M (ob (fP_feels k v1 v2 M) F) := by
  have hn : As.length = 2 := by rw [hAs]; rfl
  match k with
  | 0 => exact r_callVO0 (encB := eI) (F := F) (fc := fX3_feels 0 v1 v2 M) (K := 12) (i := 0) (C := RX3) ok As rest 2 (fun r M2 h => by subst hAs; exact con_X3_feels g l 0 v1 v2 (by decide) M r M2 h) cvo_feels_0 ⟨by decide, by decide, by decide, 3, _, rfl, rfl, fun _ _ _ => ⟨_, rfl⟩⟩ (rmOk_L (by omega) (by decide)) hd hn hst hsum kk
  | 1 => exact r_callVO0 (encB := eI) (F := F) (fc := fX0_feels 1 v1 v2 M) (K := 12) (i := 1) (C := RX0) ok As rest 3 (fun r M2 h => by subst hAs; exact con_X0_feels g l 1 v1 v2 (by decide) M r M2 h) cvo_feels_1 ⟨by decide, by decide, by decide, 0, _, rfl, rfl, fun _ _ _ => ⟨_, rfl⟩⟩ (rmOk_L (by omega) (by decide)) hd hn hst hsum kk
  | 2 => exact r_callVO0 (encB := eI) (F := F) (fc := fX2_feels 2 v1 v2 M) (K := 12) (i := 2) (C := RX2) ok As rest 3 (fun r M2 h => by subst hAs; exact con_X2_feels g l 2 v1 v2 (by decide) M r M2 h) cvo_feels_2 ⟨by decide, by decide, by decide, 2, _, rfl, rfl, fun _ _ _ => ⟨_, rfl⟩⟩ (rmOk_L (by omega) (by decide)) hd hn hst hsum kk
  | 3 => exact r_callVO0 (encB := eI) (F := F) (fc := fX0_feels 3 v1 v2 M) (K := 12) (i := 3) (C := RX9) ok As rest 3 (fun r M2 h => by subst hAs; exact con_X0_feels g l 3 v1 v2 (by decide) M r M2 h) cvo_feels_3 ⟨by decide, by decide, by decide, 9, _, rfl, rfl, fun _ _ _ => ⟨_, rfl⟩⟩ (rmOk_L (by omega) (by decide)) hd hn hst hsum kk
  | 4 => exact r_callVO0 (encB := eI) (F := F) (fc := fX7_feels 4 v1 v2 M) (K := 12) (i := 4) (C := RX7) ok As rest 4 (fun r M2 h => by subst hAs; exact con_X7_feels g l 4 v1 v2 (by decide) M r M2 h) cvo_feels_4 ⟨by decide, by decide, by decide, 7, _, rfl, rfl, fun _ _ _ => ⟨_, rfl⟩⟩ (rmOk_L (by omega) (by decide)) hd hn hst hsum kk
  | 5 => exact r_callVO0 (encB := eI) (F := F) (fc := fX1_feels 5 v1 v2 M) (K := 12) (i := 5) (C := RX1) ok As rest 3 (fun r M2 h => by subst hAs; exact con_X1_feels g l 5 v1 v2 (by decide) M r M2 h) cvo_feels_5 ⟨by decide, by decide, by decide, 1, _, rfl, rfl, fun _ _ _ => ⟨_, rfl⟩⟩ (rmOk_L (by omega) (by decide)) hd hn hst hsum kk
  | k + 6 => exact r_none
def fP_wears (k : Nat) (v1 : Int32) (v2 : Int32) (v3 : Int32) (M : Mem) : Option (Int32 × Mem) := match k with
  | 0 => fX3_wears 0 v1 v2 v3 M
  | 1 => fX3_wears 1 v1 v2 v3 M
  | 2 => fX2_wears 2 v1 v2 v3 M
  | 3 => fX9_wears 3 v1 v2 v3 M
  | 4 => fX2_wears 4 v1 v2 v3 M
  | 5 => fX1_wears 5 v1 v2 v3 M
  | _ => none
theorem cvo_wears_0 : CVO RX5 RX3 81 yX3_wears yX3_wears cX3_wears 4 (some FieldType.int) 3 := ⟨wml_X5_81, wsm_X3_X3_wears, wim_X3_wears, wse_X3_X3_wears_X3_wears, wim_X3_wears, win_X3, wcd_X3_wears, ⟨_, _, _, wcd_X3_wears⟩, ⟨by decide, by decide, by decide +kernel⟩⟩
theorem cvo_wears_1 : CVO RX5 RX0 81 yX3_wears yX3_wears cX3_wears 4 (some FieldType.int) 3 := ⟨wml_X5_81, wsm_X3_X3_wears, wim_X3_wears, wse_X0_X3_wears_X3_wears, wim_X3_wears, win_X3, wcd_X3_wears, ⟨_, _, _, wcd_X3_wears⟩, ⟨by decide, by decide, by decide +kernel⟩⟩
theorem cvo_wears_2 : CVO RX5 RX2 81 yX3_wears yX2_wears cX2_wears 4 (some FieldType.int) 3 := ⟨wml_X5_81, wsm_X3_X3_wears, wim_X3_wears, wse_X2_X3_wears_X2_wears, wim_X2_wears, win_X2, wcd_X2_wears, ⟨_, _, _, wcd_X3_wears⟩, ⟨by decide, by decide, by decide +kernel⟩⟩
theorem cvo_wears_3 : CVO RX5 RX9 81 yX3_wears yX9_wears cX9_wears 4 (some FieldType.int) 3 := ⟨wml_X5_81, wsm_X3_X3_wears, wim_X3_wears, wse_X9_X3_wears_X9_wears, wim_X9_wears, win_X9, wcd_X9_wears, ⟨_, _, _, wcd_X3_wears⟩, ⟨by decide, by decide, by decide +kernel⟩⟩
theorem cvo_wears_4 : CVO RX5 RX7 81 yX3_wears yX2_wears cX2_wears 4 (some FieldType.int) 3 := ⟨wml_X5_81, wsm_X3_X3_wears, wim_X3_wears, wse_X7_X3_wears_X2_wears, wim_X2_wears, win_X2, wcd_X2_wears, ⟨_, _, _, wcd_X3_wears⟩, ⟨by decide, by decide, by decide +kernel⟩⟩
theorem cvo_wears_5 : CVO RX5 RX1 81 yX3_wears yX1_wears cX1_wears 4 (some FieldType.int) 3 := ⟨wml_X5_81, wsm_X3_X3_wears, wim_X3_wears, wse_X1_X3_wears_X1_wears, wim_X1_wears, win_X1, wcd_X1_wears, ⟨_, _, _, wcd_X3_wears⟩, ⟨by decide, by decide, by decide +kernel⟩⟩
theorem r_callP_wears {α : Type} {Q : α × Mem → State → Prop} {g : GP} {l : Launch} {x : CT} {cc : ByteArray} {nL pc : Nat} {ret : Option FieldType} {m0 k : Nat} {lv : List (Nat × Value)} {stk : List Value} {M : Mem} {F : Int32 → Mem → Option (α × Mem)} {v1 v2 v3 : Int32} (ok : Ok g l x RX5 cc nL ret (rmL m0)) (As rest : List Value) (hm : 6 ≤ m0) (hd : decode cc pc = .ok (.invokevirtual 81, 3)) (hAs : As = [.int v1, .int v2, .int v3]) (hst : stk = As.reverse ++ .ref (gA g 12 k) :: rest) (hsum : (rest.map fun v => v.category).sum ≤ 8)
    (kk : ∀ r M2, Sw g l x Q nL 0 0 (pc + 3) lv (.int r :: rest) M2 (F r M2)) : Sw g l x Q nL 0 0 pc lv stk M (ob (fP_wears k v1 v2 v3 M) F) := by
  have hn : As.length = 3 := by rw [hAs]; rfl
  match k with
  | 0 => exact r_callVO0 (encB := eI) (F := F) (fc := fX3_wears 0 v1 v2 v3 M) (K := 12) (i := 0) (C := RX3) ok As rest 2 (fun r M2 h => by subst hAs; exact con_X3_wears g l 0 v1 v2 v3 (by decide) M r M2 h) cvo_wears_0 ⟨by decide, by decide, by decide, 3, _, rfl, rfl, fun _ _ _ => ⟨_, rfl⟩⟩ (rmOk_L (by omega) (by decide)) hd hn hst hsum kk
  | 1 => exact r_callVO0 (encB := eI) (F := F) (fc := fX3_wears 1 v1 v2 v3 M) (K := 12) (i := 1) (C := RX0) ok As rest 2 (fun r M2 h => by subst hAs; exact con_X3_wears g l 1 v1 v2 v3 (by decide) M r M2 h) cvo_wears_1 ⟨by decide, by decide, by decide, 0, _, rfl, rfl, fun _ _ _ => ⟨_, rfl⟩⟩ (rmOk_L (by omega) (by decide)) hd hn hst hsum kk
  | 2 => exact r_callVO0 (encB := eI) (F := F) (fc := fX2_wears 2 v1 v2 v3 M) (K := 12) (i := 2) (C := RX2) ok As rest 3 (fun r M2 h => by subst hAs; exact con_X2_wears g l 2 v1 v2 v3 (by decide) M r M2 h) cvo_wears_2 ⟨by decide, by decide, by decide, 2, _, rfl, rfl, fun _ _ _ => ⟨_, rfl⟩⟩ (rmOk_L (by omega) (by decide)) hd hn hst hsum kk
  | 3 => exact r_callVO0 (encB := eI) (F := F) (fc := fX9_wears 3 v1 v2 v3 M) (K := 12) (i := 3) (C := RX9) ok As rest 3 (fun r M2 h => by subst hAs; exact con_X9_wears g l 3 v1 v2 v3 (by decide) M r M2 h) cvo_wears_3 ⟨by decide, by decide, by decide, 9, _, rfl, rfl, fun _ _ _ => ⟨_, rfl⟩⟩ (rmOk_L (by omega) (by decide)) hd hn hst hsum kk
  | 4 => exact r_callVO0 (encB := eI) (F := F) (fc := fX2_wears 4 v1 v2 v3 M) (K := 12) (i := 4) (C := RX7) ok As rest 3 (fun r M2 h => by subst hAs; exact con_X2_wears g l 4 v1 v2 v3 (by decide) M r M2 h) cvo_wears_4 ⟨by decide, by decide, by decide, 7, _, rfl, rfl, fun _ _ _ => ⟨_, rfl⟩⟩ (rmOk_L (by omega) (by decide)) hd hn hst hsum kk
  | 5 => exact r_callVO0 (encB := eI) (F := F) (fc := fX1_wears 5 v1 v2 v3 M) (K := 12) (i := 5) (C := RX1) ok As rest 3 (fun r M2 h => by subst hAs; exact con_X1_wears g l 5 v1 v2 v3 (by decide) M r M2 h) cvo_wears_5 ⟨by decide, by decide, by decide, 1, _, rfl, rfl, fun _ _ _ => ⟨_, rfl⟩⟩ (rmOk_L (by omega) (by decide)) hd hn hst hsum kk
  | k + 6 => exact r_none
def fP_isOf (k : Nat) (v1 : Int32) (M : Mem) : Option (Int32 × Mem) := match k with
  | 0 => fX3_isOf 0 v1 M
  | 1 => fX0_isOf 1 v1 M
  | 2 => fX2_isOf 2 v1 M
  | 3 => fX9_isOf 3 v1 M
  | 4 => fX7_isOf 4 v1 M
  | 5 => fX1_isOf 5 v1 M
  | _ => none
theorem cvo_isOf_0 : CVO RX10 RX3 260 yX3_isOf yX3_isOf cX3_isOf 2 (some FieldType.boolean) 1 := ⟨wml_X10_260, wsm_X3_X3_isOf, wim_X3_isOf, wse_X3_X3_isOf_X3_isOf, wim_X3_isOf, win_X3, wcd_X3_isOf, ⟨_, _, _, wcd_X3_isOf⟩, ⟨by decide, by decide, by decide +kernel⟩⟩
theorem cvo_isOf_1 : CVO RX10 RX0 260 yX3_isOf yX0_isOf cX0_isOf 2 (some FieldType.boolean) 1 := ⟨wml_X10_260, wsm_X3_X3_isOf, wim_X3_isOf, wse_X0_X3_isOf_X0_isOf, wim_X0_isOf, win_X0, wcd_X0_isOf, ⟨_, _, _, wcd_X3_isOf⟩, ⟨by decide, by decide, by decide +kernel⟩⟩
theorem cvo_isOf_2 : CVO RX10 RX2 260 yX3_isOf yX2_isOf cX2_isOf 2 (some FieldType.boolean) 1 := ⟨wml_X10_260, wsm_X3_X3_isOf, wim_X3_isOf, wse_X2_X3_isOf_X2_isOf, wim_X2_isOf, win_X2, wcd_X2_isOf, ⟨_, _, _, wcd_X3_isOf⟩, ⟨by decide, by decide, by decide +kernel⟩⟩
theorem cvo_isOf_3 : CVO RX10 RX9 260 yX3_isOf yX9_isOf cX9_isOf 2 (some FieldType.boolean) 1 := ⟨wml_X10_260, wsm_X3_X3_isOf, wim_X3_isOf, wse_X9_X3_isOf_X9_isOf, wim_X9_isOf, win_X9, wcd_X9_isOf, ⟨_, _, _, wcd_X3_isOf⟩, ⟨by decide, by decide, by decide +kernel⟩⟩
theorem cvo_isOf_4 : CVO RX10 RX7 260 yX3_isOf yX7_isOf cX7_isOf 2 (some FieldType.boolean) 1 := ⟨wml_X10_260, wsm_X3_X3_isOf, wim_X3_isOf, wse_X7_X3_isOf_X7_isOf, wim_X7_isOf, win_X7, wcd_X7_isOf, ⟨_, _, _, wcd_X3_isOf⟩, ⟨by decide, by decide, by decide +kernel⟩⟩
theorem cvo_isOf_5 : CVO RX10 RX1 260 yX3_isOf yX1_isOf cX1_isOf 2 (some FieldType.boolean) 1 := ⟨wml_X10_260, wsm_X3_X3_isOf, wim_X3_isOf, wse_X1_X3_isOf_X1_isOf, wim_X1_isOf, win_X1, wcd_X1_isOf, ⟨_, _, _, wcd_X3_isOf⟩, ⟨by decide, by decide, by decide +kernel⟩⟩
theorem r_callP_isOf {α : Type} {Q : α × Mem → State → Prop} {g : GP} {l : Launch} {x : CT} {cc : ByteArray} {nL pc : Nat} {ret : Option FieldType} {m0 k : Nat} {lv : List (Nat × Value)} {stk : List Value} {M : Mem} {F : Int32 → Mem → Option (α × Mem)} {v1 : Int32} (ok : Ok g l x RX10 cc nL ret (rmL m0)) (As rest : List Value) (hm : 6 ≤ m0) (hd : decode cc pc = .ok (.invokevirtual 260, 3)) (hAs : As = [.int v1]) (hst : stk = As.reverse ++ .ref (gA g 12 k) :: rest) (hsum : (rest.map fun v => v.category).sum ≤ 8)
    (kk : ∀ r M2, Sw g l x Q nL 0 0 (pc + 3) lv (.int r :: rest) M2 (F r M2)) : Sw g l x Q nL 0 0 pc lv stk M (ob (fP_isOf k v1 M) F) := by
  have hn : As.length = 1 := by rw [hAs]; rfl
  match k with
  | 0 => exact r_callVO0 (encB := eI) (F := F) (fc := fX3_isOf 0 v1 M) (K := 12) (i := 0) (C := RX3) ok As rest 2 (fun r M2 h => by subst hAs; exact con_X3_isOf g l 0 v1 (by decide) M r M2 h) cvo_isOf_0 ⟨by decide, by decide, by decide, 3, _, rfl, rfl, fun _ _ _ => ⟨_, rfl⟩⟩ (rmOk_L (by omega) (by decide)) hd hn hst hsum kk
  | 1 => exact r_callVO0 (encB := eI) (F := F) (fc := fX0_isOf 1 v1 M) (K := 12) (i := 1) (C := RX0) ok As rest 3 (fun r M2 h => by subst hAs; exact con_X0_isOf g l 1 v1 (by decide) M r M2 h) cvo_isOf_1 ⟨by decide, by decide, by decide, 0, _, rfl, rfl, fun _ _ _ => ⟨_, rfl⟩⟩ (rmOk_L (by omega) (by decide)) hd hn hst hsum kk
  | 2 => exact r_callVO0 (encB := eI) (F := F) (fc := fX2_isOf 2 v1 M) (K := 12) (i := 2) (C := RX2) ok As rest 3 (fun r M2 h => by subst hAs; exact con_X2_isOf g l 2 v1 (by decide) M r M2 h) cvo_isOf_2 ⟨by decide, by decide, by decide, 2, _, rfl, rfl, fun _ _ _ => ⟨_, rfl⟩⟩ (rmOk_L (by omega) (by decide)) hd hn hst hsum kk
  | 3 => exact r_callVO0 (encB := eI) (F := F) (fc := fX9_isOf 3 v1 M) (K := 12) (i := 3) (C := RX9) ok As rest 4 (fun r M2 h => by subst hAs; exact con_X9_isOf g l 3 v1 (by decide) M r M2 h) cvo_isOf_3 ⟨by decide, by decide, by decide, 9, _, rfl, rfl, fun _ _ _ => ⟨_, rfl⟩⟩ (rmOk_L (by omega) (by decide)) hd hn hst hsum kk
  | 4 => exact r_callVO0 (encB := eI) (F := F) (fc := fX7_isOf 4 v1 M) (K := 12) (i := 4) (C := RX7) ok As rest 4 (fun r M2 h => by subst hAs; exact con_X7_isOf g l 4 v1 (by decide) M r M2 h) cvo_isOf_4 ⟨by decide, by decide, by decide, 7, _, rfl, rfl, fun _ _ _ => ⟨_, rfl⟩⟩ (rmOk_L (by omega) (by decide)) hd hn hst hsum kk
  | 5 => exact r_callVO0 (encB := eI) (F := F) (fc := fX1_isOf 5 v1 M) (K := 12) (i := 5) (C := RX1) ok As rest 3 (fun r M2 h => by subst hAs; exact con_X1_isOf g l 5 v1 (by decide) M r M2 h) cvo_isOf_5 ⟨by decide, by decide, by decide, 1, _, rfl, rfl, fun _ _ _ => ⟨_, rfl⟩⟩ (rmOk_L (by omega) (by decide)) hd hn hst hsum kk
  | k + 6 => exact r_none
