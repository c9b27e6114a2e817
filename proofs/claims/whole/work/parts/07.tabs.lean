/-! tables of facts about fields, arrays, links (by program: wip/gen/tabs.py) -/
def eI : Int32 → Option Value := fun v => some (.int v)
def eJ : Int64 → Option Value := fun v => some (.long v)
def eV : Unit → Option Value := fun _ => none
def eP (g : GP) : Nat → Option Value := fun k => some (.ref (gA g 12 k))
def FU : Nat := 2000
theorem rmOk_L {n m maxL : Nat} (h : n + 1 ≤ m) (hm : maxL ≤ 40) : rmOk 0 0 (rmL n) (rmL m) maxL := ⟨h, by show 8 + (maxL + 11) + 64 * n ≤ 64 * m; omega, Nat.le_refl _, Nat.le_refl _⟩
theorem rmM {n : Nat} (h : 1 ≤ n) : 1 ≤ (rmL n).frames ∧ 21 ≤ (rmL n).locals ∧ 0 ≤ (rmL n).cells ∧ 0 ≤ (rmL n).slots := ⟨h, by show 21 ≤ 64 * n; omega, Nat.le_refl _, Nat.le_refl _⟩
theorem acp_w : 8 + (nativeFrameWords "java/lang/System" "arraycopy" 5 + 11) ≤ 64 := by decide +kernel
theorem rmA {n : Nat} (h : 1 ≤ n) : 1 ≤ (rmL n).frames ∧ 8 + (nativeFrameWords "java/lang/System" "arraycopy" 5 + 11) ≤ (rmL n).locals := ⟨h, Nat.le_trans acp_w (by show 64 ≤ 64 * n; omega)⟩
theorem trow_lt {i j : Nat} (h : i < nIx 17) (hj : j < 4) : 4 * i + j < 12 := by have : i < 3 := h; omega
theorem fr_0_0 : FR 0 0 10 1 (fun _ => 0) := ⟨by decide, by decide, fun g q i M => ⟨_, rfl, rfl⟩⟩
theorem fr_0_1 : FR 0 1 10 5 (fun _ => 0) := ⟨by decide, by decide, fun g q i M => ⟨_, rfl, rfl⟩⟩
theorem fr_0_2 : FR 0 2 10 6 (fun _ => 0) := ⟨by decide, by decide, fun g q i M => ⟨_, rfl, rfl⟩⟩
theorem fr_0_3 : FR 0 3 10 7 (fun _ => 0) := ⟨by decide, by decide, fun g q i M => ⟨_, rfl, rfl⟩⟩
theorem fr_0_4 : FR 0 4 10 15 (fun _ => 0) := ⟨by decide, by decide, fun g q i M => ⟨_, rfl, rfl⟩⟩
theorem fr_0_5 : FR 0 5 10 15 (fun _ => 1) := ⟨by decide, by decide, fun g q i M => ⟨_, rfl, rfl⟩⟩
theorem fr_0_6 : FR 0 6 10 15 (fun _ => 2) := ⟨by decide, by decide, fun g q i M => ⟨_, rfl, rfl⟩⟩
theorem fi_0_7 : FI 0 7 10 := ⟨by decide, by decide, by decide, fun g q i M => ⟨_, rfl, rfl, Nat.le_of_ble_eq_true rfl, fun v => by simp [cellK, mst, mrow, upd]⟩⟩
theorem fp_0_7 : FP 10 7 .boolean := by
  intro C T N h
  cases h
  exact ⟨⟨tyX10, tyX10_ok⟩, nmX10, rfl, by decide +kernel⟩
theorem fi_0_8 : FI 0 8 10 := ⟨by decide, by decide, by decide, fun g q i M => ⟨_, rfl, rfl, Nat.le_of_ble_eq_true rfl, fun v => by simp [cellK, mst, mrow, upd]⟩⟩
theorem fp_0_8 : FP 10 8 .int := by
  intro C T N h
  cases h
  exact ⟨⟨tyX10, tyX10_ok⟩, nmX10, rfl, by decide +kernel⟩
theorem fr_1_0 : FR 1 0 4 2 (fun _ => 0) := ⟨by decide, by decide, fun g q i M => ⟨_, rfl, rfl⟩⟩
theorem fr_1_1 : FR 1 1 4 3 (fun _ => 0) := ⟨by decide, by decide, fun g q i M => ⟨_, rfl, rfl⟩⟩
theorem fr_1_2 : FR 1 2 4 4 (fun _ => 0) := ⟨by decide, by decide, fun g q i M => ⟨_, rfl, rfl⟩⟩
theorem fi_1_3 : FI 1 3 4 := ⟨by decide, by decide, by decide, fun g q i M => ⟨_, rfl, rfl, Nat.le_of_ble_eq_true rfl, fun v => by simp [cellK, mst, mrow, upd]⟩⟩
theorem fp_1_3 : FP 4 3 .int := by
  intro C T N h
  cases h
  exact ⟨⟨tyX4, tyX4_ok⟩, nmX4, rfl, by decide +kernel⟩
theorem fi_1_4 : FI 1 4 4 := ⟨by decide, by decide, by decide, fun g q i M => ⟨_, rfl, rfl, Nat.le_of_ble_eq_true rfl, fun v => by simp [cellK, mst, mrow, upd]⟩⟩
theorem fp_1_4 : FP 4 4 .int := by
  intro C T N h
  cases h
  exact ⟨⟨tyX4, tyX4_ok⟩, nmX4, rfl, by decide +kernel⟩
theorem fi_1_5 : FI 1 5 4 := ⟨by decide, by decide, by decide, fun g q i M => ⟨_, rfl, rfl, Nat.le_of_ble_eq_true rfl, fun v => by simp [cellK, mst, mrow, upd]⟩⟩
theorem fp_1_5 : FP 4 5 .int := by
  intro C T N h
  cases h
  exact ⟨⟨tyX4, tyX4_ok⟩, nmX4, rfl, by decide +kernel⟩
theorem fi_1_6 : FI 1 6 4 := ⟨by decide, by decide, by decide, fun g q i M => ⟨_, rfl, rfl, Nat.le_of_ble_eq_true rfl, fun v => by simp [cellK, mst, mrow, upd]⟩⟩
theorem fp_1_6 : FP 4 6 .int := by
  intro C T N h
  cases h
  exact ⟨⟨tyX4, tyX4_ok⟩, nmX4, rfl, by decide +kernel⟩
theorem fi_1_7 : FI 1 7 4 := ⟨by decide, by decide, by decide, fun g q i M => ⟨_, rfl, rfl, Nat.le_of_ble_eq_true rfl, fun v => by simp [cellK, mst, mrow, upd]⟩⟩
theorem fp_1_7 : FP 4 7 .int := by
  intro C T N h
  cases h
  exact ⟨⟨tyX4, tyX4_ok⟩, nmX4, rfl, by decide +kernel⟩
theorem fi_1_8 : FI 1 8 4 := ⟨by decide, by decide, by decide, fun g q i M => ⟨_, rfl, rfl, Nat.le_of_ble_eq_true rfl, fun v => by simp [cellK, mst, mrow, upd]⟩⟩
theorem fp_1_8 : FP 4 8 .int := by
  intro C T N h
  cases h
  exact ⟨⟨tyX4, tyX4_ok⟩, nmX4, rfl, by decide +kernel⟩
theorem fr_8_0 : FR 8 0 8 9 (fun i => i) := ⟨by decide, by decide, fun g q i M => ⟨_, rfl, rfl⟩⟩
theorem fr_8_1 : FR 8 1 8 10 (fun i => i) := ⟨by decide, by decide, fun g q i M => ⟨_, rfl, rfl⟩⟩
theorem fr_13_0 : FR 13 0 6 14 (fun i => i) := ⟨by decide, by decide, fun g q i M => ⟨_, rfl, rfl⟩⟩
theorem fi_13_1 : FI 13 1 6 := ⟨by decide, by decide, by decide, fun g q i M => ⟨_, rfl, rfl, Nat.le_of_ble_eq_true rfl, fun v => by simp [cellK, mst, mrow, upd]⟩⟩
theorem fp_13_1 : FP 6 1 .int := by
  intro C T N h
  cases h
  exact ⟨⟨tyX6, tyX6_ok⟩, nmX6, rfl, by decide +kernel⟩
theorem fi_13_2 : FI 13 2 6 := ⟨by decide, by decide, by decide, fun g q i M => ⟨_, rfl, rfl, Nat.le_of_ble_eq_true rfl, fun v => by simp [cellK, mst, mrow, upd]⟩⟩
theorem fp_13_2 : FP 6 2 .int := by
  intro C T N h
  cases h
  exact ⟨⟨tyX6, tyX6_ok⟩, nmX6, rfl, by decide +kernel⟩
theorem fr_15_0 : FR 15 0 5 5 (fun _ => 0) := ⟨by decide, by decide, fun g q i M => ⟨_, rfl, rfl⟩⟩
theorem fr_15_1 : FR 15 1 5 6 (fun _ => 0) := ⟨by decide, by decide, fun g q i M => ⟨_, rfl, rfl⟩⟩
theorem fr_15_2 : FR 15 2 5 16 (fun i => i) := ⟨by decide, by decide, fun g q i M => ⟨_, rfl, rfl⟩⟩
theorem fr_15_3 : FR 15 3 5 17 (fun i => i) := ⟨by decide, by decide, fun g q i M => ⟨_, rfl, rfl⟩⟩
theorem fr_15_4 : FR 15 4 5 19 (fun i => i) := ⟨by decide, by decide, fun g q i M => ⟨_, rfl, rfl⟩⟩
theorem fr_15_5 : FR 15 5 5 20 (fun i => i) := ⟨by decide, by decide, fun g q i M => ⟨_, rfl, rfl⟩⟩
theorem fr_15_6 : FR 15 6 5 21 (fun i => i) := ⟨by decide, by decide, fun g q i M => ⟨_, rfl, rfl⟩⟩
theorem fi_15_7 : FI 15 7 5 := ⟨by decide, by decide, by decide, fun g q i M => ⟨_, rfl, rfl, Nat.le_of_ble_eq_true rfl, fun v => by simp [cellK, mst, mrow, upd]⟩⟩
theorem fp_15_7 : FP 5 7 .int := by
  intro C T N h
  cases h
  exact ⟨⟨tyX5, tyX5_ok⟩, nmX5, rfl, by decide +kernel⟩
theorem fi_15_8 : FI 15 8 5 := ⟨by decide, by decide, by decide, fun g q i M => ⟨_, rfl, rfl, Nat.le_of_ble_eq_true rfl, fun v => by simp [cellK, mst, mrow, upd]⟩⟩
theorem fp_15_8 : FP 5 8 .int := by
  intro C T N h
  cases h
  exact ⟨⟨tyX5, tyX5_ok⟩, nmX5, rfl, by decide +kernel⟩
theorem fi_15_9 : FI 15 9 5 := ⟨by decide, by decide, by decide, fun g q i M => ⟨_, rfl, rfl, Nat.le_of_ble_eq_true rfl, fun v => by simp [cellK, mst, mrow, upd]⟩⟩
theorem fp_15_9 : FP 5 9 .int := by
  intro C T N h
  cases h
  exact ⟨⟨tyX5, tyX5_ok⟩, nmX5, rfl, by decide +kernel⟩
theorem fi_15_10 : FI 15 10 5 := ⟨by decide, by decide, by decide, fun g q i M => ⟨_, rfl, rfl, Nat.le_of_ble_eq_true rfl, fun v => by simp [cellK, mst, mrow, upd]⟩⟩
theorem fp_15_10 : FP 5 10 .int := by
  intro C T N h
  cases h
  exact ⟨⟨tyX5, tyX5_ok⟩, nmX5, rfl, by decide +kernel⟩
theorem fi_22_0 : FI 22 0 11 := ⟨by decide, by decide, by decide, fun g q i M => ⟨_, rfl, rfl, Nat.le_of_ble_eq_true rfl, fun v => by simp [cellK, mst, mrow, upd]⟩⟩
theorem fp_22_0 : FP 11 0 .int := by
  intro C T N h
  cases h
  exact ⟨⟨tyX11, tyX11_ok⟩, nmX11, rfl, by decide +kernel⟩
theorem fr_22_1 : FR 22 1 11 23 (fun _ => 0) := ⟨by decide, by decide, fun g q i M => ⟨_, rfl, rfl⟩⟩
theorem fr_22_2 : FR 22 2 11 24 (fun _ => 0) := ⟨by decide, by decide, fun g q i M => ⟨_, rfl, rfl⟩⟩
theorem fr_22_3 : FR 22 3 11 25 (fun _ => 0) := ⟨by decide, by decide, fun g q i M => ⟨_, rfl, rfl⟩⟩
theorem fr_22_4 : FR 22 4 11 26 (fun _ => 0) := ⟨by decide, by decide, fun g q i M => ⟨_, rfl, rfl⟩⟩
theorem fr_22_5 : FR 22 5 11 27 (fun _ => 0) := ⟨by decide, by decide, fun g q i M => ⟨_, rfl, rfl⟩⟩
theorem fi_22_6 : FI 22 6 11 := ⟨by decide, by decide, by decide, fun g q i M => ⟨_, rfl, rfl, Nat.le_of_ble_eq_true rfl, fun v => by simp [cellK, mst, mrow, upd]⟩⟩
theorem fp_22_6 : FP 11 6 .int := by
  intro C T N h
  cases h
  exact ⟨⟨tyX11, tyX11_ok⟩, nmX11, rfl, by decide +kernel⟩
theorem fr_22_7 : FR 22 7 11 28 (fun _ => 0) := ⟨by decide, by decide, fun g q i M => ⟨_, rfl, rfl⟩⟩
theorem fi_22_8 : FI 22 8 11 := ⟨by decide, by decide, by decide, fun g q i M => ⟨_, rfl, rfl, Nat.le_of_ble_eq_true rfl, fun v => by simp [cellK, mst, mrow, upd]⟩⟩
theorem fp_22_8 : FP 11 8 .int := by
  intro C T N h
  cases h
  exact ⟨⟨tyX11, tyX11_ok⟩, nmX11, rfl, by decide +kernel⟩
theorem fr_22_9 : FR 22 9 11 29 (fun _ => 0) := ⟨by decide, by decide, fun g q i M => ⟨_, rfl, rfl⟩⟩
theorem fr_22_10 : FR 22 10 11 30 (fun _ => 0) := ⟨by decide, by decide, fun g q i M => ⟨_, rfl, rfl⟩⟩
theorem fi_22_11 : FI 22 11 11 := ⟨by decide, by decide, by decide, fun g q i M => ⟨_, rfl, rfl, Nat.le_of_ble_eq_true rfl, fun v => by simp [cellK, mst, mrow, upd]⟩⟩
theorem fp_22_11 : FP 11 11 .int := by
  intro C T N h
  cases h
  exact ⟨⟨tyX11, tyX11_ok⟩, nmX11, rfl, by decide +kernel⟩
theorem fi_22_12 : FI 22 12 11 := ⟨by decide, by decide, by decide, fun g q i M => ⟨_, rfl, rfl, Nat.le_of_ble_eq_true rfl, fun v => by simp [cellK, mst, mrow, upd]⟩⟩
theorem fp_22_12 : FP 11 12 .int := by
  intro C T N h
  cases h
  exact ⟨⟨tyX11, tyX11_ok⟩, nmX11, rfl, by decide +kernel⟩
theorem fi_22_13 : FI 22 13 11 := ⟨by decide, by decide, by decide, fun g q i M => ⟨_, rfl, rfl, Nat.le_of_ble_eq_true rfl, fun v => by simp [cellK, mst, mrow, upd]⟩⟩
theorem fp_22_13 : FP 11 13 .boolean := by
  intro C T N h
  cases h
  exact ⟨⟨tyX11, tyX11_ok⟩, nmX11, rfl, by decide +kernel⟩
theorem fr_22_14 : FR 22 14 11 31 (fun _ => 0) := ⟨by decide, by decide, fun g q i M => ⟨_, rfl, rfl⟩⟩
theorem fr_22_15 : FR 22 15 11 32 (fun _ => 0) := ⟨by decide, by decide, fun g q i M => ⟨_, rfl, rfl⟩⟩
theorem fr_22_16 : FR 22 16 11 33 (fun _ => 0) := ⟨by decide, by decide, fun g q i M => ⟨_, rfl, rfl⟩⟩
theorem fr_22_17 : FR 22 17 11 34 (fun _ => 0) := ⟨by decide, by decide, fun g q i M => ⟨_, rfl, rfl⟩⟩
theorem fr_22_18 : FR 22 18 11 35 (fun _ => 0) := ⟨by decide, by decide, fun g q i M => ⟨_, rfl, rfl⟩⟩
theorem fr_22_19 : FR 22 19 11 36 (fun _ => 0) := ⟨by decide, by decide, fun g q i M => ⟨_, rfl, rfl⟩⟩
theorem fi_22_20 : FI 22 20 11 := ⟨by decide, by decide, by decide, fun g q i M => ⟨_, rfl, rfl, Nat.le_of_ble_eq_true rfl, fun v => by simp [cellK, mst, mrow, upd]⟩⟩
theorem fp_22_20 : FP 11 20 .int := by
  intro C T N h
  cases h
  exact ⟨⟨tyX11, tyX11_ok⟩, nmX11, rfl, by decide +kernel⟩
theorem fi_22_21 : FI 22 21 11 := ⟨by decide, by decide, by decide, fun g q i M => ⟨_, rfl, rfl, Nat.le_of_ble_eq_true rfl, fun v => by simp [cellK, mst, mrow, upd]⟩⟩
theorem fp_22_21 : FP 11 21 .int := by
  intro C T N h
  cases h
  exact ⟨⟨tyX11, tyX11_ok⟩, nmX11, rfl, by decide +kernel⟩
theorem fi_22_22 : FI 22 22 11 := ⟨by decide, by decide, by decide, fun g q i M => ⟨_, rfl, rfl, Nat.le_of_ble_eq_true rfl, fun v => by simp [cellK, mst, mrow, upd]⟩⟩
theorem fp_22_22 : FP 11 22 .int := by
  intro C T N h
  cases h
  exact ⟨⟨tyX11, tyX11_ok⟩, nmX11, rfl, by decide +kernel⟩
theorem fi_22_23 : FI 22 23 11 := ⟨by decide, by decide, by decide, fun g q i M => ⟨_, rfl, rfl, Nat.le_of_ble_eq_true rfl, fun v => by simp [cellK, mst, mrow, upd]⟩⟩
theorem fp_22_23 : FP 11 23 .int := by
  intro C T N h
  cases h
  exact ⟨⟨tyX11, tyX11_ok⟩, nmX11, rfl, by decide +kernel⟩
theorem fr_22_24 : FR 22 24 11 37 (fun _ => 0) := ⟨by decide, by decide, fun g q i M => ⟨_, rfl, rfl⟩⟩
theorem fr_22_25 : FR 22 25 11 38 (fun _ => 0) := ⟨by decide, by decide, fun g q i M => ⟨_, rfl, rfl⟩⟩
theorem fi_22_26 : FI 22 26 11 := ⟨by decide, by decide, by decide, fun g q i M => ⟨_, rfl, rfl, Nat.le_of_ble_eq_true rfl, fun v => by simp [cellK, mst, mrow, upd]⟩⟩
theorem fp_22_26 : FP 11 26 .int := by
  intro C T N h
  cases h
  exact ⟨⟨tyX11, tyX11_ok⟩, nmX11, rfl, by decide +kernel⟩
theorem fi_22_27 : FI 22 27 11 := ⟨by decide, by decide, by decide, fun g q i M => ⟨_, rfl, rfl, Nat.le_of_ble_eq_true rfl, fun v => by simp [cellK, mst, mrow, upd]⟩⟩
theorem fp_22_27 : FP 11 27 .int := by
  intro C T N h
  cases h
  exact ⟨⟨tyX11, tyX11_ok⟩, nmX11, rfl, by decide +kernel⟩
theorem fi_22_28 : FI 22 28 11 := ⟨by decide, by decide, by decide, fun g q i M => ⟨_, rfl, rfl, Nat.le_of_ble_eq_true rfl, fun v => by simp [cellK, mst, mrow, upd]⟩⟩
theorem fp_22_28 : FP 11 28 .int := by
  intro C T N h
  cases h
  exact ⟨⟨tyX11, tyX11_ok⟩, nmX11, rfl, by decide +kernel⟩
theorem fr_22_29 : FR 22 29 11 39 (fun _ => 0) := ⟨by decide, by decide, fun g q i M => ⟨_, rfl, rfl⟩⟩
theorem fr_22_30 : FR 22 30 11 40 (fun _ => 0) := ⟨by decide, by decide, fun g q i M => ⟨_, rfl, rfl⟩⟩
theorem fr_22_31 : FR 22 31 11 41 (fun _ => 0) := ⟨by decide, by decide, fun g q i M => ⟨_, rfl, rfl⟩⟩
theorem fr_22_32 : FR 22 32 11 42 (fun _ => 0) := ⟨by decide, by decide, fun g q i M => ⟨_, rfl, rfl⟩⟩
theorem fr_22_33 : FR 22 33 11 43 (fun _ => 0) := ⟨by decide, by decide, fun g q i M => ⟨_, rfl, rfl⟩⟩
theorem fi_22_34 : FI 22 34 11 := ⟨by decide, by decide, by decide, fun g q i M => ⟨_, rfl, rfl, Nat.le_of_ble_eq_true rfl, fun v => by simp [cellK, mst, mrow, upd]⟩⟩
theorem fp_22_34 : FP 11 34 .int := by
  intro C T N h
  cases h
  exact ⟨⟨tyX11, tyX11_ok⟩, nmX11, rfl, by decide +kernel⟩
theorem fi_22_35 : FI 22 35 11 := ⟨by decide, by decide, by decide, fun g q i M => ⟨_, rfl, rfl, Nat.le_of_ble_eq_true rfl, fun v => by simp [cellK, mst, mrow, upd]⟩⟩
theorem fp_22_35 : FP 11 35 .int := by
  intro C T N h
  cases h
  exact ⟨⟨tyX11, tyX11_ok⟩, nmX11, rfl, by decide +kernel⟩
theorem ik_2 : IK 2 160 := ⟨by decide, by decide, by decide, fun _ _ _ _ => rfl⟩
theorem ik_3 : IK 3 160 := ⟨by decide, by decide, by decide, fun _ _ _ _ => rfl⟩
theorem ik_4 : IK 4 3 := ⟨by decide, by decide, by decide, fun _ _ _ _ => rfl⟩
theorem ik_9 : IK 9 31 := ⟨by decide, by decide, by decide, fun _ _ _ _ => rfl⟩
theorem ik_10 : IK 10 4 := ⟨by decide, by decide, by decide, fun _ _ _ _ => rfl⟩
theorem ik_14 : IK 14 40 := ⟨by decide, by decide, by decide, fun _ _ _ _ => rfl⟩
theorem ik_16 : IK 16 36 := ⟨by decide, by decide, by decide, fun _ _ _ _ => rfl⟩
theorem ik_18 : IK 18 6 := ⟨by decide, by decide, by decide, fun _ _ _ _ => rfl⟩
theorem ik_19 : IK 19 6 := ⟨by decide, by decide, by decide, fun _ _ _ _ => rfl⟩
theorem ik_20 : IK 20 36 := ⟨by decide, by decide, by decide, fun _ _ _ _ => rfl⟩
theorem ik_21 : IK 21 36 := ⟨by decide, by decide, by decide, fun _ _ _ _ => rfl⟩
theorem ik_23 : IK 23 6 := ⟨by decide, by decide, by decide, fun _ _ _ _ => rfl⟩
theorem ik_24 : IK 24 6 := ⟨by decide, by decide, by decide, fun _ _ _ _ => rfl⟩
theorem ik_25 : IK 25 6 := ⟨by decide, by decide, by decide, fun _ _ _ _ => rfl⟩
theorem ik_26 : IK 26 6 := ⟨by decide, by decide, by decide, fun _ _ _ _ => rfl⟩
theorem ik_27 : IK 27 36 := ⟨by decide, by decide, by decide, fun _ _ _ _ => rfl⟩
theorem ik_28 : IK 28 160 := ⟨by decide, by decide, by decide, fun _ _ _ _ => rfl⟩
theorem ik_29 : IK 29 1200 := ⟨by decide, by decide, by decide, fun _ _ _ _ => rfl⟩
theorem ik_30 : IK 30 24 := ⟨by decide, by decide, by decide, fun _ _ _ _ => rfl⟩
theorem ik_31 : IK 31 48 := ⟨by decide, by decide, by decide, fun _ _ _ _ => rfl⟩
theorem ik_32 : IK 32 3 := ⟨by decide, by decide, by decide, fun _ _ _ _ => rfl⟩
theorem ik_33 : IK 33 4 := ⟨by decide, by decide, by decide, fun _ _ _ _ => rfl⟩
theorem ik_34 : IK 34 4 := ⟨by decide, by decide, by decide, fun _ _ _ _ => rfl⟩
theorem ik_35 : IK 35 160 := ⟨by decide, by decide, by decide, fun _ _ _ _ => rfl⟩
theorem ik_36 : IK 36 37 := ⟨by decide, by decide, by decide, fun _ _ _ _ => rfl⟩
theorem ik_37 : IK 37 96 := ⟨by decide, by decide, by decide, fun _ _ _ _ => rfl⟩
theorem ik_38 : IK 38 200 := ⟨by decide, by decide, by decide, fun _ _ _ _ => rfl⟩
theorem ik_39 : IK 39 200 := ⟨by decide, by decide, by decide, fun _ _ _ _ => rfl⟩
theorem ik_40 : IK 40 6 := ⟨by decide, by decide, by decide, fun _ _ _ _ => rfl⟩
theorem ik_41 : IK 41 37 := ⟨by decide, by decide, by decide, fun _ _ _ _ => rfl⟩
theorem ik_42 : IK 42 36 := ⟨by decide, by decide, by decide, fun _ _ _ _ => rfl⟩
theorem ik_43 : IK 43 36 := ⟨by decide, by decide, by decide, fun _ _ _ _ => rfl⟩
theorem rk_5 : RK 5 6 1 8 (fun _ j => j) := ⟨by decide, by decide, fun _ _ _ _ => rfl⟩
theorem rk_6 : RK 6 6 2 12 (fun _ j => j) := ⟨by decide, by decide, fun _ _ _ _ => rfl⟩
theorem rk_7 : RK 7 4 3 13 (fun _ j => j) := ⟨by decide, by decide, fun _ _ _ _ => rfl⟩
theorem rk_17 : RK 17 4 4 18 (fun i j => 4 * i + j) := ⟨by decide, by decide, fun _ _ _ _ => rfl⟩
theorem ok_0 : OK 0 0 RX10 := ⟨by decide, by decide, by decide, 10, _, rfl, rfl, fun _ _ _ => ⟨_, rfl⟩⟩
theorem ok_1 : OK 1 0 RX4 := ⟨by decide, by decide, by decide, 4, _, rfl, rfl, fun _ _ _ => ⟨_, rfl⟩⟩
theorem ok_8 {i : Nat} (h : i < nIx 8) : OK 8 i RX8 := ⟨by decide, by decide, h, 8, _, rfl, rfl, fun _ _ _ => ⟨_, rfl⟩⟩
theorem ok_13 {i : Nat} (h : i < nIx 13) : OK 13 i RX6 := ⟨by decide, by decide, h, 6, _, rfl, rfl, fun _ _ _ => ⟨_, rfl⟩⟩
theorem ok_15 {i : Nat} (h : i < nIx 15) : OK 15 i RX5 := ⟨by decide, by decide, h, 5, _, rfl, rfl, fun _ _ _ => ⟨_, rfl⟩⟩
theorem ok_22 : OK 22 0 RX11 := ⟨by decide, by decide, by decide, 11, _, rfl, rfl, fun _ _ _ => ⟨_, rfl⟩⟩
theorem fl_X8_11 : FL RX8 11 8 0 := ⟨RX8, TX8, 3, rfl, inX8, by decide, wfl_X8_11⟩
theorem fl_X8_15 : FL RX8 15 8 1 := ⟨RX8, TX8, 3, rfl, inX8, by decide, wfl_X8_15⟩
theorem fl_X8_20 : FL RX8 20 8 2 := ⟨RX8, TX8, 3, rfl, inX8, by decide, wfl_X8_20⟩
theorem fl_X4_9 : FL RX4 9 4 0 := ⟨RX4, TX4, 9, rfl, inX4, by decide, wfl_X4_9⟩
theorem fl_X4_15 : FL RX4 15 4 1 := ⟨RX4, TX4, 9, rfl, inX4, by decide, wfl_X4_15⟩
theorem flN_X8_23 : FLN RX8 23 4 1 := ⟨RX4, TX4, 9, _, rfl, inX4, by decide, wfn_X8_23⟩
theorem fl_X4_18 : FL RX4 18 4 2 := ⟨RX4, TX4, 9, rfl, inX4, by decide, wfl_X4_18⟩
theorem flN_X8_34 : FLN RX8 34 4 2 := ⟨RX4, TX4, 9, _, rfl, inX4, by decide, wfn_X8_34⟩
theorem fl_X4_21 : FL RX4 21 4 3 := ⟨RX4, TX4, 9, rfl, inX4, by decide, wfl_X4_21⟩
theorem flN_X10_84 : FLN RX10 84 4 3 := ⟨RX4, TX4, 9, _, rfl, inX4, by decide, wfn_X10_84⟩
theorem flN_X8_24 : FLN RX8 24 4 4 := ⟨RX4, TX4, 9, _, rfl, inX4, by decide, wfn_X8_24⟩
theorem fl_X4_25 : FL RX4 25 4 4 := ⟨RX4, TX4, 9, rfl, inX4, by decide, wfl_X4_25⟩
theorem fl_X4_41 : FL RX4 41 4 5 := ⟨RX4, TX4, 9, rfl, inX4, by decide, wfl_X4_41⟩
theorem fl_X4_63 : FL RX4 63 4 6 := ⟨RX4, TX4, 9, rfl, inX4, by decide, wfl_X4_63⟩
theorem flN_X10_110 : FLN RX10 110 4 7 := ⟨RX4, TX4, 9, _, rfl, inX4, by decide, wfn_X10_110⟩
theorem fl_X4_66 : FL RX4 66 4 7 := ⟨RX4, TX4, 9, rfl, inX4, by decide, wfl_X4_66⟩
theorem fl_X4_28 : FL RX4 28 4 8 := ⟨RX4, TX4, 9, rfl, inX4, by decide, wfl_X4_28⟩
theorem fl_X6_9 : FL RX6 9 6 0 := ⟨RX6, TX6, 3, rfl, inX6, by decide, wfl_X6_9⟩
theorem flN_X10_156 : FLN RX10 156 6 0 := ⟨RX6, TX6, 3, _, rfl, inX6, by decide, wfn_X10_156⟩
theorem fl_X6_15 : FL RX6 15 6 1 := ⟨RX6, TX6, 3, rfl, inX6, by decide, wfl_X6_15⟩
theorem flN_X10_244 : FLN RX10 244 6 1 := ⟨RX6, TX6, 3, _, rfl, inX6, by decide, wfn_X10_244⟩
theorem fl_X6_19 : FL RX6 19 6 2 := ⟨RX6, TX6, 3, rfl, inX6, by decide, wfl_X6_19⟩
theorem flN_X10_155 : FLN RX10 155 6 2 := ⟨RX6, TX6, 3, _, rfl, inX6, by decide, wfn_X10_155⟩
theorem fl_X5_31 : FL RX5 31 5 0 := ⟨RX5, TX5, 11, rfl, inX5, by decide, wfl_X5_31⟩
theorem fl_X5_35 : FL RX5 35 5 1 := ⟨RX5, TX5, 11, rfl, inX5, by decide, wfl_X5_35⟩
theorem fl_X5_9 : FL RX5 9 5 2 := ⟨RX5, TX5, 11, rfl, inX5, by decide, wfl_X5_9⟩
theorem flN_X10_95 : FLN RX10 95 5 2 := ⟨RX5, TX5, 11, _, rfl, inX5, by decide, wfn_X10_95⟩
theorem fl_X5_17 : FL RX5 17 5 3 := ⟨RX5, TX5, 11, rfl, inX5, by decide, wfl_X5_17⟩
theorem flN_X10_127 : FLN RX10 127 5 3 := ⟨RX5, TX5, 11, _, rfl, inX5, by decide, wfn_X10_127⟩
theorem fl_X5_22 : FL RX5 22 5 4 := ⟨RX5, TX5, 11, rfl, inX5, by decide, wfl_X5_22⟩
theorem fl_X5_25 : FL RX5 25 5 5 := ⟨RX5, TX5, 11, rfl, inX5, by decide, wfl_X5_25⟩
theorem fl_X5_28 : FL RX5 28 5 6 := ⟨RX5, TX5, 11, rfl, inX5, by decide, wfl_X5_28⟩
theorem flN_X10_71 : FLN RX10 71 5 7 := ⟨RX5, TX5, 11, _, rfl, inX5, by decide, wfn_X10_71⟩
theorem fl_X5_45 : FL RX5 45 5 7 := ⟨RX5, TX5, 11, rfl, inX5, by decide, wfl_X5_45⟩
theorem flN_X10_74 : FLN RX10 74 5 8 := ⟨RX5, TX5, 11, _, rfl, inX5, by decide, wfn_X10_74⟩
theorem fl_X5_49 : FL RX5 49 5 8 := ⟨RX5, TX5, 11, rfl, inX5, by decide, wfl_X5_49⟩
theorem fl_X5_52 : FL RX5 52 5 9 := ⟨RX5, TX5, 11, rfl, inX5, by decide, wfl_X5_52⟩
theorem flN_X10_81 : FLN RX10 81 5 9 := ⟨RX5, TX5, 11, _, rfl, inX5, by decide, wfn_X10_81⟩
theorem fl_X5_143 : FL RX5 143 5 10 := ⟨RX5, TX5, 11, rfl, inX5, by decide, wfl_X5_143⟩
theorem flN_X10_232 : FLN RX10 232 5 10 := ⟨RX5, TX5, 11, _, rfl, inX5, by decide, wfn_X10_232⟩
theorem fl_X10_33 : FL RX10 33 10 0 := ⟨RX10, TX10, 9, rfl, inX10, by decide, wfl_X10_33⟩
theorem fl_X10_37 : FL RX10 37 10 1 := ⟨RX10, TX10, 9, rfl, inX10, by decide, wfl_X10_37⟩
theorem fl_X10_45 : FL RX10 45 10 2 := ⟨RX10, TX10, 9, rfl, inX10, by decide, wfl_X10_45⟩
theorem fl_X10_51 : FL RX10 51 10 3 := ⟨RX10, TX10, 9, rfl, inX10, by decide, wfl_X10_51⟩
theorem fl_X10_61 : FL RX10 61 10 4 := ⟨RX10, TX10, 9, rfl, inX10, by decide, wfl_X10_61⟩
theorem fl_X10_65 : FL RX10 65 10 5 := ⟨RX10, TX10, 9, rfl, inX10, by decide, wfl_X10_65⟩
theorem fl_X10_68 : FL RX10 68 10 6 := ⟨RX10, TX10, 9, rfl, inX10, by decide, wfl_X10_68⟩
theorem fl_X10_240 : FL RX10 240 10 7 := ⟨RX10, TX10, 9, rfl, inX10, by decide, wfl_X10_240⟩
theorem fl_X10_41 : FL RX10 41 10 8 := ⟨RX10, TX10, 9, rfl, inX10, by decide, wfl_X10_41⟩
theorem fl_X11_81 : FL RX11 81 11 0 := ⟨RX11, TX11, 36, rfl, inX11, by decide, wfl_X11_81⟩
theorem fl_X11_7 : FL RX11 7 11 1 := ⟨RX11, TX11, 36, rfl, inX11, by decide, wfl_X11_7⟩
theorem fl_X11_13 : FL RX11 13 11 2 := ⟨RX11, TX11, 36, rfl, inX11, by decide, wfl_X11_13⟩
theorem fl_X11_16 : FL RX11 16 11 3 := ⟨RX11, TX11, 36, rfl, inX11, by decide, wfl_X11_16⟩
theorem fl_X11_19 : FL RX11 19 11 4 := ⟨RX11, TX11, 36, rfl, inX11, by decide, wfl_X11_19⟩
theorem fl_X11_22 : FL RX11 22 11 5 := ⟨RX11, TX11, 36, rfl, inX11, by decide, wfl_X11_22⟩
theorem fl_X11_92 : FL RX11 92 11 6 := ⟨RX11, TX11, 36, rfl, inX11, by decide, wfl_X11_92⟩
theorem fl_X11_25 : FL RX11 25 11 7 := ⟨RX11, TX11, 36, rfl, inX11, by decide, wfl_X11_25⟩
theorem fl_X11_73 : FL RX11 73 11 8 := ⟨RX11, TX11, 36, rfl, inX11, by decide, wfl_X11_73⟩
theorem fl_X11_28 : FL RX11 28 11 9 := ⟨RX11, TX11, 36, rfl, inX11, by decide, wfl_X11_28⟩
theorem fl_X11_31 : FL RX11 31 11 10 := ⟨RX11, TX11, 36, rfl, inX11, by decide, wfl_X11_31⟩
theorem fl_X11_98 : FL RX11 98 11 11 := ⟨RX11, TX11, 36, rfl, inX11, by decide, wfl_X11_98⟩
theorem fl_X11_101 : FL RX11 101 11 12 := ⟨RX11, TX11, 36, rfl, inX11, by decide, wfl_X11_101⟩
theorem fl_X11_272 : FL RX11 272 11 13 := ⟨RX11, TX11, 36, rfl, inX11, by decide, wfl_X11_272⟩
theorem fl_X11_34 : FL RX11 34 11 14 := ⟨RX11, TX11, 36, rfl, inX11, by decide, wfl_X11_34⟩
theorem fl_X11_37 : FL RX11 37 11 15 := ⟨RX11, TX11, 36, rfl, inX11, by decide, wfl_X11_37⟩
theorem fl_X11_40 : FL RX11 40 11 16 := ⟨RX11, TX11, 36, rfl, inX11, by decide, wfl_X11_40⟩
theorem fl_X11_43 : FL RX11 43 11 17 := ⟨RX11, TX11, 36, rfl, inX11, by decide, wfl_X11_43⟩
theorem fl_X11_46 : FL RX11 46 11 18 := ⟨RX11, TX11, 36, rfl, inX11, by decide, wfl_X11_46⟩
theorem fl_X11_49 : FL RX11 49 11 19 := ⟨RX11, TX11, 36, rfl, inX11, by decide, wfl_X11_49⟩
theorem fl_X11_111 : FL RX11 111 11 20 := ⟨RX11, TX11, 36, rfl, inX11, by decide, wfl_X11_111⟩
theorem fl_X11_114 : FL RX11 114 11 21 := ⟨RX11, TX11, 36, rfl, inX11, by decide, wfl_X11_114⟩
theorem fl_X11_117 : FL RX11 117 11 22 := ⟨RX11, TX11, 36, rfl, inX11, by decide, wfl_X11_117⟩
theorem fl_X11_120 : FL RX11 120 11 23 := ⟨RX11, TX11, 36, rfl, inX11, by decide, wfl_X11_120⟩
theorem fl_X11_52 : FL RX11 52 11 24 := ⟨RX11, TX11, 36, rfl, inX11, by decide, wfl_X11_52⟩
theorem fl_X11_55 : FL RX11 55 11 25 := ⟨RX11, TX11, 36, rfl, inX11, by decide, wfl_X11_55⟩
theorem fl_X11_129 : FL RX11 129 11 26 := ⟨RX11, TX11, 36, rfl, inX11, by decide, wfl_X11_129⟩
theorem fl_X11_136 : FL RX11 136 11 27 := ⟨RX11, TX11, 36, rfl, inX11, by decide, wfl_X11_136⟩
theorem fl_X11_126 : FL RX11 126 11 28 := ⟨RX11, TX11, 36, rfl, inX11, by decide, wfl_X11_126⟩
theorem fl_X11_58 : FL RX11 58 11 29 := ⟨RX11, TX11, 36, rfl, inX11, by decide, wfl_X11_58⟩
theorem fl_X11_61 : FL RX11 61 11 30 := ⟨RX11, TX11, 36, rfl, inX11, by decide, wfl_X11_61⟩
theorem fl_X11_64 : FL RX11 64 11 31 := ⟨RX11, TX11, 36, rfl, inX11, by decide, wfl_X11_64⟩
theorem fl_X11_67 : FL RX11 67 11 32 := ⟨RX11, TX11, 36, rfl, inX11, by decide, wfl_X11_67⟩
theorem fl_X11_70 : FL RX11 70 11 33 := ⟨RX11, TX11, 36, rfl, inX11, by decide, wfl_X11_70⟩
theorem fl_X11_247 : FL RX11 247 11 34 := ⟨RX11, TX11, 36, rfl, inX11, by decide, wfl_X11_247⟩
theorem fl_X11_250 : FL RX11 250 11 35 := ⟨RX11, TX11, 36, rfl, inX11, by decide, wfl_X11_250⟩
theorem cv_L_13 : CV RL RX10 13 yX10_count cX10_count 2 (some FieldType.int) 1 := ⟨wml_L_13, wim_X10_count, wse_X10_X10_count_X10_count, win_X10, rfl, wcd_X10_count, ⟨by decide, by decide, by decide +kernel⟩⟩
theorem cvN_X10_77 : CVN RX10 RX5 77 yX5_total cX5_total 5 (some FieldType.int) 2 := ⟨⟨_, wmn_X10_77⟩, wim_X5_total, wse_X5_X5_total_X5_total, win_X5, rfl, wcd_X5_total, ⟨by decide, by decide, by decide +kernel⟩⟩
theorem cv_L_18 : CV RL RX10 18 yX10_lay cX10_lay 4 (some FieldType.int) 2 := ⟨wml_L_18, wim_X10_lay, wse_X10_X10_lay_X10_lay, win_X10, rfl, wcd_X10_lay, ⟨by decide, by decide, by decide +kernel⟩⟩
theorem cs_X10_87 : CS RX10 87 yX10_isCell cX10_isCell 1 (some FieldType.boolean) 1 := ⟨wml_X10_87, wst_X10_isCell, win_X10, wcd_X10_isCell, ⟨by decide, by decide, by decide +kernel⟩⟩
theorem cs_X10_91 : CS RX10 91 yX10_within cX10_within 3 (some FieldType.boolean) 3 := ⟨wml_X10_91, wst_X10_within, win_X10, wcd_X10_within, ⟨by decide, by decide, by decide +kernel⟩⟩
theorem cv_L_23 : CV RL RX10 23 yX10_under cX10_under 2 (some FieldType.int) 1 := ⟨wml_L_23, wim_X10_under, wse_X10_X10_under_X10_under, win_X10, rfl, wcd_X10_under, ⟨by decide, by decide, by decide +kernel⟩⟩
theorem cv_L_27 : CV RL RX10 27 yX10_feed cX10_feed 7 (some FieldType.int) 6 := ⟨wml_L_27, wim_X10_feed, wse_X10_X10_feed_X10_feed, win_X10, rfl, wcd_X10_feed, ⟨by decide, by decide, by decide +kernel⟩⟩
theorem cs_X10_99 : CS RX10 99 yX10_isByte cX10_isByte 1 (some FieldType.boolean) 1 := ⟨wml_X10_99, wst_X10_isByte, win_X10, wcd_X10_isByte, ⟨by decide, by decide, by decide +kernel⟩⟩
theorem cvN_X10_102 : CVN RX10 RX4 102 yX4_append cX4_append 2 none 1 := ⟨⟨_, wmn_X10_102⟩, wim_X4_append, wse_X4_X4_append_X4_append, win_X4, rfl, wcd_X4_append, ⟨by decide, by decide, by decide +kernel⟩⟩
theorem cv_L_32 : CV RL RX10 32 yX10_text cX10_text 2 (some FieldType.int) 0 := ⟨wml_L_32, wim_X10_text, wse_X10_X10_text_X10_text, win_X10, rfl, wcd_X10_text, ⟨by decide, by decide, by decide +kernel⟩⟩
theorem cvN_X10_106 : CVN RX10 RX4 106 yX4_readText cX4_readText 2 (some FieldType.boolean) 0 := ⟨⟨_, wmn_X10_106⟩, wim_X4_readText, wse_X4_X4_readText_X4_readText, win_X4, rfl, wcd_X4_readText, ⟨by decide, by decide, by decide +kernel⟩⟩
theorem cv_X4_31 : CV RX4 RX4 31 yX4_advance cX4_advance 1 none 0 := ⟨wml_X4_31, wim_X4_advance, wse_X4_X4_advance_X4_advance, win_X4, rfl, wcd_X4_advance, ⟨by decide, by decide, by decide +kernel⟩⟩
theorem cs_X4_69 : CS RX4 69 yX4_isLetter cX4_isLetter 1 (some FieldType.boolean) 1 := ⟨wml_X4_69, wst_X4_isLetter, win_X4, wcd_X4_isLetter, ⟨by decide, by decide, by decide +kernel⟩⟩
theorem csN_X4_100 : CSN RX4 100 yX10_within cX10_within 3 (some FieldType.boolean) 3 := ⟨⟨_, wmn_X4_100⟩, wst_X10_within, win_X10, wcd_X10_within, ⟨by decide, by decide, by decide +kernel⟩⟩
theorem cv_X4_72 : CV RX4 RX4 72 yX4_takeWord cX4_takeWord 4 none 0 := ⟨wml_X4_72, wim_X4_takeWord, wse_X4_X4_takeWord_X4_takeWord, win_X4, rfl, wcd_X4_takeWord, ⟨by decide, by decide, by decide +kernel⟩⟩
theorem cv_X4_86 : CV RX4 RJ0 86 yJ0_length_8abf5 cJ0_length_8abf5 1 (some FieldType.int) 0 := ⟨wml_X4_86, wim_J0_length_8abf5, wse_J0_J0_length_8abf5_J0_length_8abf5, win_J0, rfl, wcd_J0_length_8abf5, ⟨by decide, by decide, by decide +kernel⟩⟩
theorem cv_J0_335 : CV RJ0 RJ0 335 yJ0_coder_7d493 cJ0_coder_7d493 1 (some FieldType.byte) 0 := ⟨wml_J0_335, wim_J0_coder_7d493, wse_J0_J0_coder_7d493_J0_coder_7d493, win_J0, rfl, wcd_J0_coder_7d493, ⟨by decide, by decide, by decide +kernel⟩⟩
theorem cv_X4_92 : CV RX4 RJ0 92 yJ0_charAt_5068e cJ0_charAt_5068e 2 (some FieldType.char) 1 := ⟨wml_X4_92, wim_J0_charAt_5068e, wse_J0_J0_charAt_5068e_J0_charAt_5068e, win_J0, rfl, wcd_J0_charAt_5068e, ⟨by decide, by decide, by decide +kernel⟩⟩
theorem cv_J0_492 : CV RJ0 RJ0 492 yJ0_isLatin1_aae02 cJ0_isLatin1_aae02 1 (some FieldType.boolean) 0 := ⟨wml_J0_492, wim_J0_isLatin1_aae02, wse_J0_J0_isLatin1_aae02_J0_isLatin1_aae02, win_J0, rfl, wcd_J0_isLatin1_aae02, ⟨by decide, by decide, by decide +kernel⟩⟩
theorem cs_J0_495 : CS RJ0 495 yJ1_charAt_3b067 cJ1_charAt_3b067 2 (some FieldType.char) 2 := ⟨wml_J0_495, wst_J1_charAt_3b067, win_J1, wcd_J1_charAt_3b067, ⟨by decide, by decide, by decide +kernel⟩⟩
theorem cs_J1_9 : CS RJ1 9 yJ0_checkIndex_df160 cJ0_checkIndex_df160 2 none 2 := ⟨wml_J1_9, wst_J0_checkIndex_df160, win_J0, wcd_J0_checkIndex_df160, ⟨by decide, by decide, by decide +kernel⟩⟩
theorem cs_J0_1059 : CS RJ0 1059 yJ3_checkIndex_8e157 cJ3_checkIndex_8e157 3 (some FieldType.int) 3 := ⟨wml_J0_1059, wst_J3_checkIndex_8e157, win_J3, wcd_J3_checkIndex_8e157, ⟨by decide, by decide, by decide +kernel⟩⟩
theorem cs_J0_498 : CS RJ0 498 yJ2_charAt_3b067 cJ2_charAt_3b067 2 (some FieldType.char) 2 := ⟨wml_J0_498, wst_J2_charAt_3b067, win_J2, wcd_J2_charAt_3b067, ⟨by decide, by decide, by decide +kernel⟩⟩
theorem cs_J2_67 : CS RJ2 67 yJ2_checkIndex_2214a cJ2_checkIndex_2214a 2 none 2 := ⟨wml_J2_67, wst_J2_checkIndex_2214a, win_J2, wcd_J2_checkIndex_2214a, ⟨by decide, by decide, by decide +kernel⟩⟩
theorem cs_J2_48 : CS RJ2 48 yJ2_length_9d52b cJ2_length_9d52b 1 (some FieldType.int) 1 := ⟨wml_J2_48, wst_J2_length_9d52b, win_J2, wcd_J2_length_9d52b, ⟨by decide, by decide, by decide +kernel⟩⟩
theorem cs_J2_414 : CS RJ2 414 yJ0_checkIndex_df160 cJ0_checkIndex_df160 2 none 2 := ⟨wml_J2_414, wst_J0_checkIndex_df160, win_J0, wcd_J0_checkIndex_df160, ⟨by decide, by decide, by decide +kernel⟩⟩
theorem cs_J2_71 : CS RJ2 71 yJ2_getChar_3b067 cJ2_getChar_3b067 2 (some FieldType.char) 2 := ⟨wml_J2_71, wst_J2_getChar_3b067, win_J2, wcd_J2_getChar_3b067, ⟨by decide, by decide, by decide +kernel⟩⟩
theorem cv_X4_96 : CV RX4 RX4 96 yX4_isWord cX4_isWord 4 (some FieldType.boolean) 2 := ⟨wml_X4_96, wim_X4_isWord, wse_X4_X4_isWord_X4_isWord, win_X4, rfl, wcd_X4_isWord, ⟨by decide, by decide, by decide +kernel⟩⟩
theorem cs_X4_75 : CS RX4 75 yX4_isDigit cX4_isDigit 1 (some FieldType.boolean) 1 := ⟨wml_X4_75, wst_X4_isDigit, win_X4, wcd_X4_isDigit, ⟨by decide, by decide, by decide +kernel⟩⟩
theorem cv_X4_78 : CV RX4 RX4 78 yX4_takeNumber cX4_takeNumber 1 none 0 := ⟨wml_X4_78, wim_X4_takeNumber, wse_X4_X4_takeNumber_X4_takeNumber, win_X4, rfl, wcd_X4_takeNumber, ⟨by decide, by decide, by decide +kernel⟩⟩
theorem cs_X4_81 : CS RX4 81 yX4_isSign cX4_isSign 1 (some FieldType.boolean) 1 := ⟨wml_X4_81, wst_X4_isSign, win_X4, wcd_X4_isSign, ⟨by decide, by decide, by decide +kernel⟩⟩
theorem cv_X4_34 : CV RX4 RX4 34 yX4_skip cX4_skip 2 (some FieldType.boolean) 1 := ⟨wml_X4_34, wim_X4_skip, wse_X4_X4_skip_X4_skip, win_X4, rfl, wcd_X4_skip, ⟨by decide, by decide, by decide +kernel⟩⟩
theorem cv_X4_38 : CV RX4 RX4 38 yX4_readOr cX4_readOr 3 (some FieldType.boolean) 1 := ⟨wml_X4_38, wim_X4_readOr, wse_X4_X4_readOr_X4_readOr, win_X4, rfl, wcd_X4_readOr, ⟨by decide, by decide, by decide +kernel⟩⟩
theorem cv_X4_44 : CV RX4 RX4 44 yX4_readAnd cX4_readAnd 3 (some FieldType.boolean) 1 := ⟨wml_X4_44, wim_X4_readAnd, wse_X4_X4_readAnd_X4_readAnd, win_X4, rfl, wcd_X4_readAnd, ⟨by decide, by decide, by decide +kernel⟩⟩
theorem cv_X4_51 : CV RX4 RX4 51 yX4_readNot cX4_readNot 3 (some FieldType.boolean) 1 := ⟨wml_X4_51, wim_X4_readNot, wse_X4_X4_readNot_X4_readNot, win_X4, rfl, wcd_X4_readNot, ⟨by decide, by decide, by decide +kernel⟩⟩
theorem cv_X4_47 : CV RX4 RX4 47 yX4_emit cX4_emit 2 none 1 := ⟨wml_X4_47, wim_X4_emit, wse_X4_X4_emit_X4_emit, win_X4, rfl, wcd_X4_emit, ⟨by decide, by decide, by decide +kernel⟩⟩
theorem cv_X4_54 : CV RX4 RX4 54 yX4_readSum cX4_readSum 4 (some FieldType.boolean) 1 := ⟨wml_X4_54, wim_X4_readSum, wse_X4_X4_readSum_X4_readSum, win_X4, rfl, wcd_X4_readSum, ⟨by decide, by decide, by decide +kernel⟩⟩
theorem cv_X4_57 : CV RX4 RX4 57 yX4_readTerm cX4_readTerm 3 (some FieldType.boolean) 1 := ⟨wml_X4_57, wim_X4_readTerm, wse_X4_X4_readTerm_X4_readTerm, win_X4, rfl, wcd_X4_readTerm, ⟨by decide, by decide, by decide +kernel⟩⟩
theorem cv_X4_60 : CV RX4 RX4 60 yX4_readOne cX4_readOne 2 (some FieldType.boolean) 1 := ⟨wml_X4_60, wim_X4_readOne, wse_X4_X4_readOne_X4_readOne, win_X4, rfl, wcd_X4_readOne, ⟨by decide, by decide, by decide +kernel⟩⟩
theorem cvN_X10_113 : CVN RX10 RX8 113 yX8_become cX8_become 2 none 1 := ⟨⟨_, wmn_X10_113⟩, wim_X8_become, wse_X8_X8_become_X8_become, win_X8, rfl, wcd_X8_become, ⟨by decide, by decide, by decide +kernel⟩⟩
theorem cs_X8_28 : CS RX8 28 yJ7_copyOf_59c91 cJ7_copyOf_59c91 3 (some (FieldType.array FieldType.int)) 2 := ⟨wml_X8_28, wst_J7_copyOf_59c91, win_J7, wcd_J7_copyOf_59c91, ⟨by decide, by decide, by decide +kernel⟩⟩
theorem cs_J7_304 : CS RJ7 304 yJ9_min_7cf53 cJ9_min_7cf53 2 (some FieldType.int) 2 := ⟨wml_J7_304, wst_J9_min_7cf53, win_J9, wcd_J9_min_7cf53, ⟨by decide, by decide, by decide +kernel⟩⟩
theorem cv_L_37 : CV RL RX10 37 yX10_force cX10_force 3 (some FieldType.int) 1 := ⟨wml_L_37, wim_X10_force, wse_X10_X10_force_X10_force, win_X10, rfl, wcd_X10_force, ⟨by decide, by decide, by decide +kernel⟩⟩
theorem cv_L_41 : CV RL RX10 41 yX10_asks cX10_asks 4 (some FieldType.int) 3 := ⟨wml_L_41, wim_X10_asks, wse_X10_X10_asks_X10_asks, win_X10, rfl, wcd_X10_asks, ⟨by decide, by decide, by decide +kernel⟩⟩
theorem cvN_X10_117 : CVN RX10 RX5 117 yX5_has cX5_has 2 (some FieldType.boolean) 1 := ⟨⟨_, wmn_X10_117⟩, wim_X5_has, wse_X5_X5_has_X5_has, win_X5, rfl, wcd_X5_has, ⟨by decide, by decide, by decide +kernel⟩⟩
theorem csN_X5_55 : CSN RX5 55 yX10_within cX10_within 3 (some FieldType.boolean) 3 := ⟨⟨_, wmn_X5_55⟩, wst_X10_within, win_X10, wcd_X10_within, ⟨by decide, by decide, by decide +kernel⟩⟩
theorem cvN_X10_120 : CVN RX10 RX5 120 yX5_said cX5_said 4 (some FieldType.int) 3 := ⟨⟨_, wmn_X10_120⟩, wim_X5_said, wse_X5_X5_said_X5_said, win_X5, rfl, wcd_X5_said, ⟨by decide, by decide, by decide +kernel⟩⟩
theorem cvN_X5_61 : CVN RX5 RX8 61 yX8_says cX8_says 6 (some FieldType.int) 2 := ⟨⟨_, wmn_X5_61⟩, wim_X8_says, wse_X8_X8_says_X8_says, win_X8, rfl, wcd_X8_says, ⟨by decide, by decide, by decide +kernel⟩⟩
theorem cs_X8_41 : CS RX8 41 yX8_ofOne cX8_ofOne 2 (some FieldType.int) 2 := ⟨wml_X8_41, wst_X8_ofOne, win_X8, wcd_X8_ofOne, ⟨by decide, by decide, by decide +kernel⟩⟩
theorem cs_X8_45 : CS RX8 45 yX8_ofTwo cX8_ofTwo 3 (some FieldType.int) 3 := ⟨wml_X8_45, wst_X8_ofTwo, win_X8, wcd_X8_ofTwo, ⟨by decide, by decide, by decide +kernel⟩⟩
theorem cs_X8_49 : CS RX8 49 yJ9_min_7cf53 cJ9_min_7cf53 2 (some FieldType.int) 2 := ⟨wml_X8_49, wst_J9_min_7cf53, win_J9, wcd_J9_min_7cf53, ⟨by decide, by decide, by decide +kernel⟩⟩
theorem cs_X8_54 : CS RX8 54 yJ9_max_7cf53 cJ9_max_7cf53 2 (some FieldType.int) 2 := ⟨wml_X8_54, wst_J9_max_7cf53, win_J9, wcd_J9_max_7cf53, ⟨by decide, by decide, by decide +kernel⟩⟩
theorem cv_L_46 : CV RL RX10 46 yX10_person cX10_person 3 (some FieldType.int) 2 := ⟨wml_L_46, wim_X10_person, wse_X10_X10_person_X10_person, win_X10, rfl, wcd_X10_person, ⟨by decide, by decide, by decide +kernel⟩⟩
theorem cvN_X10_124 : CVN RX10 RX5 124 yX5_admit cX5_admit 3 (some FieldType.int) 2 := ⟨⟨_, wmn_X10_124⟩, wim_X5_admit, wse_X5_X5_admit_X5_admit, win_X5, rfl, wcd_X5_admit, ⟨by decide, by decide, by decide +kernel⟩⟩
theorem cv_L_50 : CV RL RX10 50 yX10_put cX10_put 5 (some FieldType.int) 3 := ⟨wml_L_50, wim_X10_put, wse_X10_X10_put_X10_put, win_X10, rfl, wcd_X10_put, ⟨by decide, by decide, by decide +kernel⟩⟩
theorem cv_L_54 : CV RL RX10 54 yX10_told cX10_told 3 (some FieldType.int) 2 := ⟨wml_L_54, wim_X10_told, wse_X10_X10_told_X10_told, win_X10, rfl, wcd_X10_told, ⟨by decide, by decide, by decide +kernel⟩⟩
theorem cv_L_58 : CV RL RX10 58 yX10_day cX10_day 1 (some FieldType.int) 0 := ⟨wml_L_58, wim_X10_day, wse_X10_X10_day_X10_day, win_X10, rfl, wcd_X10_day, ⟨by decide, by decide, by decide +kernel⟩⟩
theorem cvN_X10_131 : CVN RX10 RX5 131 yX5_passDay cX5_passDay 2 none 0 := ⟨⟨_, wmn_X10_131⟩, wim_X5_passDay, wse_X5_X5_passDay_X5_passDay, win_X5, rfl, wcd_X5_passDay, ⟨by decide, by decide, by decide +kernel⟩⟩
theorem cv_X5_101 : CV RX5 RX5 101 yX5_leave cX5_leave 7 none 1 := ⟨wml_X5_101, wim_X5_leave, wse_X5_X5_leave_X5_leave, win_X5, rfl, wcd_X5_leave, ⟨by decide, by decide, by decide +kernel⟩⟩
theorem cv_X5_71 : CV RX5 RX5 71 yX5_said cX5_said 4 (some FieldType.int) 3 := ⟨wml_X5_71, wim_X5_said, wse_X5_X5_said_X5_said, win_X5, rfl, wcd_X5_said, ⟨by decide, by decide, by decide +kernel⟩⟩
theorem cv_X5_67 : CV RX5 RX5 67 yX5_kindOf cX5_kindOf 2 (some (FieldType.object "UnderlayOfUnspoken$Person")) 1 := ⟨wml_X5_67, wim_X5_kindOf, wse_X5_X5_kindOf_X5_kindOf, win_X5, rfl, wcd_X5_kindOf, ⟨by decide, by decide, by decide +kernel⟩⟩
theorem cv_X5_105 : CV RX5 RX5 105 yX5_thicken cX5_thicken 3 none 2 := ⟨wml_X5_105, wim_X5_thicken, wse_X5_X5_thicken_X5_thicken, win_X5, rfl, wcd_X5_thicken, ⟨by decide, by decide, by decide +kernel⟩⟩
theorem cs_X5_84 : CS RX5 84 yJ9_min_7cf53 cJ9_min_7cf53 2 (some FieldType.int) 2 := ⟨wml_X5_84, wst_J9_min_7cf53, win_J9, wcd_J9_min_7cf53, ⟨by decide, by decide, by decide +kernel⟩⟩
theorem cs_X5_112 : CS RX5 112 yJ9_max_7cf53 cJ9_max_7cf53 2 (some FieldType.int) 2 := ⟨wml_X5_112, wst_J9_max_7cf53, win_J9, wcd_J9_max_7cf53, ⟨by decide, by decide, by decide +kernel⟩⟩
theorem csN_X5_109 : CSN RX5 109 yX10_neighbour cX10_neighbour 2 (some FieldType.int) 2 := ⟨⟨_, wmn_X5_109⟩, wst_X10_neighbour, win_X10, wcd_X10_neighbour, ⟨by decide, by decide, by decide +kernel⟩⟩
theorem cv_L_62 : CV RL RX10 62 yX10_leaves cX10_leaves 4 (some FieldType.int) 3 := ⟨wml_L_62, wim_X10_leaves, wse_X10_X10_leaves_X10_leaves, win_X10, rfl, wcd_X10_leaves, ⟨by decide, by decide, by decide +kernel⟩⟩
theorem cvN_X10_134 : CVN RX10 RX5 134 yX5_leftOn cX5_leftOn 5 (some FieldType.int) 2 := ⟨⟨_, wmn_X10_134⟩, wim_X5_leftOn, wse_X5_X5_leftOn_X5_leftOn, win_X5, rfl, wcd_X5_leftOn, ⟨by decide, by decide, by decide +kernel⟩⟩
theorem csN_X5_89 : CSN RX5 89 yX10_apart cX10_apart 2 (some FieldType.int) 2 := ⟨⟨_, wmn_X5_89⟩, wst_X10_apart, win_X10, wcd_X10_apart, ⟨by decide, by decide, by decide +kernel⟩⟩
theorem cs_X10_274 : CS RX10 274 yJ9_abs_0f7a4 cJ9_abs_0f7a4 1 (some FieldType.int) 1 := ⟨wml_X10_274, wst_J9_abs_0f7a4, win_J9, wcd_J9_abs_0f7a4, ⟨by decide, by decide, by decide +kernel⟩⟩
theorem cvN_X10_137 : CVN RX10 RX5 137 yX5_leftInAll cX5_leftInAll 4 (some FieldType.int) 1 := ⟨⟨_, wmn_X10_137⟩, wim_X5_leftInAll, wse_X5_X5_leftInAll_X5_leftInAll, win_X5, rfl, wcd_X5_leftInAll, ⟨by decide, by decide, by decide +kernel⟩⟩
theorem cv_X5_95 : CV RX5 RX5 95 yX5_leftOn cX5_leftOn 5 (some FieldType.int) 2 := ⟨wml_X5_95, wim_X5_leftOn, wse_X5_X5_leftOn_X5_leftOn, win_X5, rfl, wcd_X5_leftOn, ⟨by decide, by decide, by decide +kernel⟩⟩
theorem cv_L_66 : CV RL RX10 66 yX10_run cX10_run 3 (some FieldType.int) 2 := ⟨wml_L_66, wim_X10_run, wse_X10_X10_run_X10_run, win_X10, rfl, wcd_X10_run, ⟨by decide, by decide, by decide +kernel⟩⟩
theorem cvN_X10_141 : CVN RX10 RX5 141 yX5_takeFrom cX5_takeFrom 3 none 1 := ⟨⟨_, wmn_X10_141⟩, wim_X5_takeFrom, wse_X5_X5_takeFrom_X5_takeFrom, win_X5, rfl, wcd_X5_takeFrom, ⟨by decide, by decide, by decide +kernel⟩⟩
theorem cvN_X10_145 : CVN RX10 RX5 145 yX5_passDays cX5_passDays 3 none 1 := ⟨⟨_, wmn_X10_145⟩, wim_X5_passDays, wse_X5_X5_passDays_X5_passDays, win_X5, rfl, wcd_X5_passDays, ⟨by decide, by decide, by decide +kernel⟩⟩
theorem cv_X5_98 : CV RX5 RX5 98 yX5_passDay cX5_passDay 2 none 0 := ⟨wml_X5_98, wim_X5_passDay, wse_X5_X5_passDay_X5_passDay, win_X5, rfl, wcd_X5_passDay, ⟨by decide, by decide, by decide +kernel⟩⟩
theorem cv_L_70 : CV RL RX10 70 yX10_sinks cX10_sinks 4 (some FieldType.int) 2 := ⟨wml_L_70, wim_X10_sinks, wse_X10_X10_sinks_X10_sinks, win_X10, rfl, wcd_X10_sinks, ⟨by decide, by decide, by decide +kernel⟩⟩
theorem cv_L_74 : CV RL RX10 74 yX10_walk cX10_walk 5 (some FieldType.int) 3 := ⟨wml_L_74, wim_X10_walk, wse_X10_X10_walk_X10_walk, win_X10, rfl, wcd_X10_walk, ⟨by decide, by decide, by decide +kernel⟩⟩
theorem cv_X10_148 : CV RX10 RX10 148 yX10_refuseWalk cX10_refuseWalk 3 (some FieldType.int) 2 := ⟨wml_X10_148, wim_X10_refuseWalk, wse_X10_X10_refuseWalk_X10_refuseWalk, win_X10, rfl, wcd_X10_refuseWalk, ⟨by decide, by decide, by decide +kernel⟩⟩
theorem cs_X10_219 : CS RX10 219 yX10_isSheet cX10_isSheet 1 (some FieldType.boolean) 1 := ⟨wml_X10_219, wst_X10_isSheet, win_X10, wcd_X10_isSheet, ⟨by decide, by decide, by decide +kernel⟩⟩
theorem cvN_X10_263 : CVN RX10 RX6 263 yX6_tellsWalk cX6_tellsWalk 2 (some FieldType.boolean) 0 := ⟨⟨_, wmn_X10_263⟩, wim_X6_tellsWalk, wse_X6_X6_tellsWalk_X6_tellsWalk, win_X6, rfl, wcd_X6_tellsWalk, ⟨by decide, by decide, by decide +kernel⟩⟩
theorem csN_X6_28 : CSN RX6 28 yX10_isCell cX10_isCell 1 (some FieldType.boolean) 1 := ⟨⟨_, wmn_X6_28⟩, wst_X10_isCell, win_X10, wcd_X10_isCell, ⟨by decide, by decide, by decide +kernel⟩⟩
theorem csN_X6_32 : CSN RX6 32 yX10_apart cX10_apart 2 (some FieldType.int) 2 := ⟨⟨_, wmn_X6_32⟩, wst_X10_apart, win_X10, wcd_X10_apart, ⟨by decide, by decide, by decide +kernel⟩⟩
theorem cv_X10_151 : CV RX10 RX10 151 yX10_feltOnWalk cX10_feltOnWalk 10 (some FieldType.int) 3 := ⟨wml_X10_151, wim_X10_feltOnWalk, wse_X10_X10_feltOnWalk_X10_feltOnWalk, win_X10, rfl, wcd_X10_feltOnWalk, ⟨by decide, by decide, by decide +kernel⟩⟩
theorem cvN_X10_266 : CVN RX10 RX5 266 yX5_felt cX5_felt 3 (some FieldType.int) 2 := ⟨⟨_, wmn_X10_266⟩, wim_X5_felt, wse_X5_X5_felt_X5_felt, win_X5, rfl, wcd_X5_felt, ⟨by decide, by decide, by decide +kernel⟩⟩
theorem cv_L_78 : CV RL RX10 78 yX10_tread cX10_tread 7 (some FieldType.int) 2 := ⟨wml_L_78, wim_X10_tread, wse_X10_X10_tread_X10_tread, win_X10, rfl, wcd_X10_tread, ⟨by decide, by decide, by decide +kernel⟩⟩
theorem cvN_X10_159 : CVN RX10 RX5 159 yX5_wear cX5_wear 5 (some FieldType.int) 2 := ⟨⟨_, wmn_X10_159⟩, wim_X5_wear, wse_X5_X5_wear_X5_wear, win_X5, rfl, wcd_X5_wear, ⟨by decide, by decide, by decide +kernel⟩⟩
theorem cv_L_82 : CV RL RX10 82 yX10_way cX10_way 7 (some FieldType.int) 4 := ⟨wml_L_82, wim_X10_way, wse_X10_X10_way_X10_way, win_X10, rfl, wcd_X10_way, ⟨by decide, by decide, by decide +kernel⟩⟩
theorem cvN_X10_162 : CVN RX10 RX5 162 yX5_leastFelt cX5_leastFelt 7 (some FieldType.int) 3 := ⟨⟨_, wmn_X10_162⟩, wim_X5_leastFelt, wse_X5_X5_leastFelt_X5_leastFelt, win_X5, rfl, wcd_X5_leastFelt, ⟨by decide, by decide, by decide +kernel⟩⟩
theorem cv_X5_115 : CV RX5 RX5 115 yX5_felt cX5_felt 3 (some FieldType.int) 2 := ⟨wml_X5_115, wim_X5_felt, wse_X5_X5_felt_X5_felt, win_X5, rfl, wcd_X5_felt, ⟨by decide, by decide, by decide +kernel⟩⟩
theorem cs_X5_119 : CS RX5 119 yJ7_fill_53178 cJ7_fill_53178 4 none 2 := ⟨wml_X5_119, wst_J7_fill_53178, win_J7, wcd_J7_fill_53178, ⟨by decide, by decide, by decide +kernel⟩⟩
theorem cv_X5_125 : CV RX5 RX5 125 yX5_relax cX5_relax 5 (some FieldType.boolean) 1 := ⟨wml_X5_125, wim_X5_relax, wse_X5_X5_relax_X5_relax, win_X5, rfl, wcd_X5_relax, ⟨by decide, by decide, by decide +kernel⟩⟩
theorem cvN_X10_165 : CVN RX10 RX5 165 yX5_fewestCells cX5_fewestCells 10 (some FieldType.int) 4 := ⟨⟨_, wmn_X10_165⟩, wim_X5_fewestCells, wse_X5_X5_fewestCells_X5_fewestCells, win_X5, rfl, wcd_X5_fewestCells, ⟨by decide, by decide, by decide +kernel⟩⟩
theorem csN_X5_129 : CSN RX5 129 yX10_grown cX10_grown 4 (some FieldType.long) 1 := ⟨⟨_, wmn_X5_129⟩, wst_X10_grown, win_X10, wcd_X10_grown, ⟨by decide, by decide, by decide +kernel⟩⟩
theorem cv_L_87 : CV RL RX10 87 yX10_heap cX10_heap 6 (some FieldType.long) 3 := ⟨wml_L_87, wim_X10_heap, wse_X10_X10_heap_X10_heap, win_X10, rfl, wcd_X10_heap, ⟨by decide, by decide, by decide +kernel⟩⟩
theorem cvN_X10_171 : CVN RX10 RX5 171 yX5_thickBy cX5_thickBy 5 (some FieldType.long) 1 := ⟨⟨_, wmn_X10_171⟩, wim_X5_thickBy, wse_X5_X5_thickBy_X5_thickBy, win_X5, rfl, wcd_X5_thickBy, ⟨by decide, by decide, by decide +kernel⟩⟩
theorem cs_X10_175 : CS RX10 175 yX10_spread cX10_spread 7 (some FieldType.long) 2 := ⟨wml_X10_175, wst_X10_spread, win_X10, wcd_X10_spread, ⟨by decide, by decide, by decide +kernel⟩⟩
theorem cs_X10_281 : CS RX10 281 yX10_grown cX10_grown 4 (some FieldType.long) 1 := ⟨wml_X10_281, wst_X10_grown, win_X10, wcd_X10_grown, ⟨by decide, by decide, by decide +kernel⟩⟩
theorem cs_X10_179 : CS RX10 179 yJ13_bitCount_95d88 cJ13_bitCount_95d88 2 (some FieldType.int) 1 := ⟨wml_X10_179, wst_J13_bitCount_95d88, win_J13, wcd_J13_bitCount_95d88, ⟨by decide, by decide, by decide +kernel⟩⟩
theorem cvN_X10_185 : CVN RX10 RX5 185 yX5_totalOf cX5_totalOf 5 (some FieldType.int) 1 := ⟨⟨_, wmn_X10_185⟩, wim_X5_totalOf, wse_X5_X5_totalOf_X5_totalOf, win_X5, rfl, wcd_X5_totalOf, ⟨by decide, by decide, by decide +kernel⟩⟩
theorem cv_L_92 : CV RL RX10 92 yX10_room cX10_room 3 (some FieldType.int) 2 := ⟨wml_L_92, wim_X10_room, wse_X10_X10_room_X10_room, win_X10, rfl, wcd_X10_room, ⟨by decide, by decide, by decide +kernel⟩⟩
theorem cvN_X10_188 : CVN RX10 RX5 188 yX5_thickestCell cX5_thickestCell 3 (some FieldType.int) 0 := ⟨⟨_, wmn_X10_188⟩, wim_X5_thickestCell, wse_X5_X5_thickestCell_X5_thickestCell, win_X5, rfl, wcd_X5_thickestCell, ⟨by decide, by decide, by decide +kernel⟩⟩
theorem cvN_X10_192 : CVN RX10 RX5 192 yX5_thinnestCell cX5_thinnestCell 3 (some FieldType.int) 0 := ⟨⟨_, wmn_X10_192⟩, wim_X5_thinnestCell, wse_X5_X5_thinnestCell_X5_thinnestCell, win_X5, rfl, wcd_X5_thinnestCell, ⟨by decide, by decide, by decide +kernel⟩⟩
theorem cvN_X10_195 : CVN RX10 RX5 195 yX5_heaps cX5_heaps 6 (some FieldType.int) 1 := ⟨⟨_, wmn_X10_195⟩, wim_X5_heaps, wse_X5_X5_heaps_X5_heaps, win_X5, rfl, wcd_X5_heaps, ⟨by decide, by decide, by decide +kernel⟩⟩
theorem cv_X5_133 : CV RX5 RX5 133 yX5_thickBy cX5_thickBy 5 (some FieldType.long) 1 := ⟨wml_X5_133, wim_X5_thickBy, wse_X5_X5_thickBy_X5_thickBy, win_X5, rfl, wcd_X5_thickBy, ⟨by decide, by decide, by decide +kernel⟩⟩
theorem csN_X5_137 : CSN RX5 137 yX10_spread cX10_spread 7 (some FieldType.long) 2 := ⟨⟨_, wmn_X5_137⟩, wst_X10_spread, win_X10, wcd_X10_spread, ⟨by decide, by decide, by decide +kernel⟩⟩
theorem cv_L_96 : CV RL RX10 96 yX10_turn cX10_turn 7 (some FieldType.int) 2 := ⟨wml_L_96, wim_X10_turn, wse_X10_X10_turn_X10_turn, win_X10, rfl, wcd_X10_turn, ⟨by decide, by decide, by decide +kernel⟩⟩
theorem cvN_X10_198 : CVN RX10 RX5 198 yX5_dismiss cX5_dismiss 4 none 1 := ⟨⟨_, wmn_X10_198⟩, wim_X5_dismiss, wse_X5_X5_dismiss_X5_dismiss, win_X5, rfl, wcd_X5_dismiss, ⟨by decide, by decide, by decide +kernel⟩⟩
theorem cv_L_100 : CV RL RX10 100 yX10_seats cX10_seats 8 (some FieldType.int) 3 := ⟨wml_L_100, wim_X10_seats, wse_X10_X10_seats_X10_seats, win_X10, rfl, wcd_X10_seats, ⟨by decide, by decide, by decide +kernel⟩⟩
theorem cv_X10_201 : CV RX10 RX10 201 yX10_suppose cX10_suppose 4 none 3 := ⟨wml_X10_201, wim_X10_suppose, wse_X10_X10_suppose_X10_suppose, win_X10, rfl, wcd_X10_suppose, ⟨by decide, by decide, by decide +kernel⟩⟩
theorem cv_L_104 : CV RL RX10 104 yX10_judge cX10_judge 4 (some FieldType.int) 2 := ⟨wml_L_104, wim_X10_judge, wse_X10_X10_judge_X10_judge, win_X10, rfl, wcd_X10_judge, ⟨by decide, by decide, by decide +kernel⟩⟩
theorem cv_X10_205 : CV RX10 RX10 205 yX10_refuseTale cX10_refuseTale 3 (some FieldType.int) 2 := ⟨wml_X10_205, wim_X10_refuseTale, wse_X10_X10_refuseTale_X10_refuseTale, win_X10, rfl, wcd_X10_refuseTale, ⟨by decide, by decide, by decide +kernel⟩⟩
theorem cv_X10_208 : CV RX10 RX10 208 yX10_firstOtherwise cX10_firstOtherwise 4 (some FieldType.int) 2 := ⟨wml_X10_208, wim_X10_firstOtherwise, wse_X10_X10_firstOtherwise_X10_firstOtherwise, win_X10, rfl, wcd_X10_firstOtherwise, ⟨by decide, by decide, by decide +kernel⟩⟩
theorem cv_L_108 : CV RL RX10 108 yX10_kinds cX10_kinds 6 (some FieldType.int) 4 := ⟨wml_L_108, wim_X10_kinds, wse_X10_X10_kinds_X10_kinds, win_X10, rfl, wcd_X10_kinds, ⟨by decide, by decide, by decide +kernel⟩⟩
theorem cv_X10_212 : CV RX10 RX10 212 yX10_refuseTaleOf cX10_refuseTaleOf 5 (some FieldType.int) 3 := ⟨wml_X10_212, wim_X10_refuseTaleOf, wse_X10_X10_refuseTaleOf_X10_refuseTaleOf, win_X10, rfl, wcd_X10_refuseTaleOf, ⟨by decide, by decide, by decide +kernel⟩⟩
theorem cv_X10_215 : CV RX10 RX10 215 yX10_fitting cX10_fitting 9 (some FieldType.long) 5 := ⟨wml_X10_215, wim_X10_fitting, wse_X10_X10_fitting_X10_fitting, win_X10, rfl, wcd_X10_fitting, ⟨by decide, by decide, by decide +kernel⟩⟩
theorem cv_L_112 : CV RL RX10 112 yX10_where cX10_where 4 (some FieldType.long) 3 := ⟨wml_L_112, wim_X10_where, wse_X10_X10_where_X10_where, win_X10, rfl, wcd_X10_where, ⟨by decide, by decide, by decide +kernel⟩⟩
theorem cv_L_116 : CV RL RX10 116 yX10_holds cX10_holds 9 (some FieldType.int) 4 := ⟨wml_L_116, wim_X10_holds, wse_X10_X10_holds_X10_holds, win_X10, rfl, wcd_X10_holds, ⟨by decide, by decide, by decide +kernel⟩⟩
theorem cv_L_120 : CV RL RX10 120 yX10_laws cX10_laws 6 (some FieldType.int) 2 := ⟨wml_L_120, wim_X10_laws, wse_X10_X10_laws_X10_laws, win_X10, rfl, wcd_X10_laws, ⟨by decide, by decide, by decide +kernel⟩⟩
theorem cv_L_124 : CV RL RX10 124 yX10_film cX10_film 5 (some FieldType.int) 3 := ⟨wml_L_124, wim_X10_film, wse_X10_X10_film_X10_film, win_X10, rfl, wcd_X10_film, ⟨by decide, by decide, by decide +kernel⟩⟩
theorem cvN_X10_222 : CVN RX10 RX6 222 yX6_become cX6_become 3 none 2 := ⟨⟨_, wmn_X10_222⟩, wim_X6_become, wse_X6_X6_become_X6_become, win_X6, rfl, wcd_X6_become, ⟨by decide, by decide, by decide +kernel⟩⟩
theorem cs_X6_22 : CS RX6 22 yJ7_fill_53178 cJ7_fill_53178 4 none 2 := ⟨wml_X6_22, wst_J7_fill_53178, win_J7, wcd_J7_fill_53178, ⟨by decide, by decide, by decide +kernel⟩⟩
theorem cvN_X10_225 : CVN RX10 RX6 225 yX6_write cX6_write 3 none 2 := ⟨⟨_, wmn_X10_225⟩, wim_X6_write, wse_X6_X6_write_X6_write, win_X6, rfl, wcd_X6_write, ⟨by decide, by decide, by decide +kernel⟩⟩
theorem cv_L_128 : CV RL RX10 128 yX10_drawn cX10_drawn 6 (some FieldType.int) 4 := ⟨wml_L_128, wim_X10_drawn, wse_X10_X10_drawn_X10_drawn, win_X10, rfl, wcd_X10_drawn, ⟨by decide, by decide, by decide +kernel⟩⟩
theorem cvN_X10_229 : CVN RX10 RX5 229 yX5_wander cX5_wander 10 (some FieldType.int) 4 := ⟨⟨_, wmn_X10_229⟩, wim_X5_wander, wse_X5_X5_wander_X5_wander, win_X5, rfl, wcd_X5_wander, ⟨by decide, by decide, by decide +kernel⟩⟩
theorem cv_X5_146 : CV RX5 RX5 146 yX5_wear cX5_wear 5 (some FieldType.int) 2 := ⟨wml_X5_146, wim_X5_wear, wse_X5_X5_wear_X5_wear, win_X5, rfl, wcd_X5_wear, ⟨by decide, by decide, by decide +kernel⟩⟩
theorem cv_L_132 : CV RL RX10 132 yX10_odds cX10_odds 9 (some FieldType.long) 5 := ⟨wml_L_132, wim_X10_odds, wse_X10_X10_odds_X10_odds, win_X10, rfl, wcd_X10_odds, ⟨by decide, by decide, by decide +kernel⟩⟩
theorem cs_X10_236 : CS RX10 236 yX10_lowest cX10_lowest 7 (some FieldType.long) 3 := ⟨wml_X10_236, wst_X10_lowest, win_X10, wcd_X10_lowest, ⟨by decide, by decide, by decide +kernel⟩⟩
theorem cs_X10_269 : CS RX10 269 yJ9_max_7cf53 cJ9_max_7cf53 2 (some FieldType.int) 2 := ⟨wml_X10_269, wst_J9_max_7cf53, win_J9, wcd_J9_max_7cf53, ⟨by decide, by decide, by decide +kernel⟩⟩
theorem cv_L_137 : CV RL RX10 137 yX10_share cX10_share 4 (some FieldType.long) 2 := ⟨wml_L_137, wim_X10_share, wse_X10_X10_share_X10_share, win_X10, rfl, wcd_X10_share, ⟨by decide, by decide, by decide +kernel⟩⟩
theorem cv_L_142 : CV RL RX10 142 yX10_image cX10_image 1 (some FieldType.int) 0 := ⟨wml_L_142, wim_X10_image, wse_X10_X10_image_X10_image, win_X10, rfl, wcd_X10_image, ⟨by decide, by decide, by decide +kernel⟩⟩
theorem cv_L_146 : CV RL RX10 146 yX10_back cX10_back 1 (some FieldType.int) 0 := ⟨wml_L_146, wim_X10_back, wse_X10_X10_back_X10_back, win_X10, rfl, wcd_X10_back, ⟨by decide, by decide, by decide +kernel⟩⟩
theorem cv_L_150 : CV RL RX10 150 yX10_sheet cX10_sheet 4 (some FieldType.int) 3 := ⟨wml_L_150, wim_X10_sheet, wse_X10_X10_sheet_X10_sheet, win_X10, rfl, wcd_X10_sheet, ⟨by decide, by decide, by decide +kernel⟩⟩
theorem cv_L_154 : CV RL RX10 154 yX10_cell cX10_cell 4 (some FieldType.int) 3 := ⟨wml_L_154, wim_X10_cell, wse_X10_X10_cell_X10_cell, win_X10, rfl, wcd_X10_cell, ⟨by decide, by decide, by decide +kernel⟩⟩
theorem cv_L_158 : CV RL RX10 158 yX10_copy cX10_copy 8 (some FieldType.int) 5 := ⟨wml_L_158, wim_X10_copy, wse_X10_X10_copy_X10_copy, win_X10, rfl, wcd_X10_copy, ⟨by decide, by decide, by decide +kernel⟩⟩
theorem cvN_X10_247 : CVN RX10 RX6 247 yX6_holdsRange cX6_holdsRange 3 (some FieldType.boolean) 2 := ⟨⟨_, wmn_X10_247⟩, wim_X6_holdsRange, wse_X6_X6_holdsRange_X6_holdsRange, win_X6, rfl, wcd_X6_holdsRange, ⟨by decide, by decide, by decide +kernel⟩⟩
theorem cv_L_163 : CV RL RX10 163 yX10_peopleBy cX10_peopleBy 9 (some FieldType.int) 4 := ⟨wml_L_163, wim_X10_peopleBy, wse_X10_X10_peopleBy_X10_peopleBy, win_X10, rfl, wcd_X10_peopleBy, ⟨by decide, by decide, by decide +kernel⟩⟩
theorem cv_X10_257 : CV RX10 RX10 257 yX10_person cX10_person 3 (some FieldType.int) 2 := ⟨wml_X10_257, wim_X10_person, wse_X10_X10_person_X10_person, win_X10, rfl, wcd_X10_person, ⟨by decide, by decide, by decide +kernel⟩⟩
theorem cv_L_167 : CV RL RX10 167 yX10_taken cX10_taken 3 (some FieldType.int) 2 := ⟨wml_L_167, wim_X10_taken, wse_X10_X10_taken_X10_taken, win_X10, rfl, wcd_X10_taken, ⟨by decide, by decide, by decide +kernel⟩⟩
theorem cv_X11_77 : CV RX11 RX11 77 yX11_text cX11_text 3 (some FieldType.int) 0 := ⟨wml_X11_77, wim_X11_text, wse_X11_X11_text_X11_text, win_X11, rfl, wcd_X11_text, ⟨by decide, by decide, by decide +kernel⟩⟩
theorem cv_X11_149 : CV RX11 RX11 149 yX11_next cX11_next 3 none 0 := ⟨wml_X11_149, wim_X11_next, wse_X11_X11_next_X11_next, win_X11, rfl, wcd_X11_next, ⟨by decide, by decide, by decide +kernel⟩⟩
theorem cs_X11_84 : CS RX11 84 yX11_in cX11_in 3 (some FieldType.boolean) 3 := ⟨wml_X11_84, wst_X11_in, win_X11, wcd_X11_in, ⟨by decide, by decide, by decide +kernel⟩⟩
theorem cv_X11_123 : CV RX11 RX11 123 yX11_wordFrom cX11_wordFrom 6 (some FieldType.int) 2 := ⟨wml_X11_123, wim_X11_wordFrom, wse_X11_X11_wordFrom_X11_wordFrom, win_X11, rfl, wcd_X11_wordFrom, ⟨by decide, by decide, by decide +kernel⟩⟩
theorem cv_X11_162 : CV RX11 RX11 162 yX11_eRead cX11_eRead 4 (some FieldType.boolean) 0 := ⟨wml_X11_162, wim_X11_eRead, wse_X11_X11_eRead_X11_eRead, win_X11, rfl, wcd_X11_eRead, ⟨by decide, by decide, by decide +kernel⟩⟩
theorem cv_X11_139 : CV RX11 RX11 139 yX11_puts cX11_puts 2 none 1 := ⟨wml_X11_139, wim_X11_puts, wse_X11_X11_puts_X11_puts, win_X11, rfl, wcd_X11_puts, ⟨by decide, by decide, by decide +kernel⟩⟩
theorem cv_X11_146 : CV RX11 RX11 146 yX11_unwinds cX11_unwinds 3 none 1 := ⟨wml_X11_146, wim_X11_unwinds, wse_X11_X11_unwinds_X11_unwinds, win_X11, rfl, wcd_X11_unwinds, ⟨by decide, by decide, by decide +kernel⟩⟩
theorem cs_X11_132 : CS RX11 132 yX11_rank cX11_rank 1 (some FieldType.int) 1 := ⟨wml_X11_132, wst_X11_rank, win_X11, wcd_X11_rank, ⟨by decide, by decide, by decide +kernel⟩⟩
theorem cv_X11_153 : CV RX11 RX11 153 yX11_opensOne cX11_opensOne 2 (some FieldType.boolean) 1 := ⟨wml_X11_153, wim_X11_opensOne, wse_X11_X11_opensOne_X11_opensOne, win_X11, rfl, wcd_X11_opensOne, ⟨by decide, by decide, by decide +kernel⟩⟩
theorem cv_X11_143 : CV RX11 RX11 143 yX11_holdsText cX11_holdsText 2 none 1 := ⟨wml_X11_143, wim_X11_holdsText, wse_X11_X11_holdsText_X11_holdsText, win_X11, rfl, wcd_X11_holdsText, ⟨by decide, by decide, by decide +kernel⟩⟩
theorem cv_X11_156 : CV RX11 RX11 156 yX11_signOf cX11_signOf 1 (some FieldType.int) 0 := ⟨wml_X11_156, wim_X11_signOf, wse_X11_X11_signOf_X11_signOf, win_X11, rfl, wcd_X11_signOf, ⟨by decide, by decide, by decide +kernel⟩⟩
theorem cv_X11_159 : CV RX11 RX11 159 yX11_between cX11_between 2 (some FieldType.boolean) 1 := ⟨wml_X11_159, wim_X11_between, wse_X11_X11_between_X11_between, win_X11, rfl, wcd_X11_between, ⟨by decide, by decide, by decide +kernel⟩⟩
theorem cv_L_17 : CV RL RX11 17 yX11_count cX11_count 2 (some FieldType.int) 1 := ⟨wml_L_17, wim_X11_count, wse_X11_X11_count_X11_count, win_X11, rfl, wcd_X11_count, ⟨by decide, by decide, by decide +kernel⟩⟩
theorem cv_X11_95 : CV RX11 RX11 95 yX11_allOf cX11_allOf 3 (some FieldType.int) 0 := ⟨wml_X11_95, wim_X11_allOf, wse_X11_X11_allOf_X11_allOf, win_X11, rfl, wcd_X11_allOf, ⟨by decide, by decide, by decide +kernel⟩⟩
theorem cv_L_22 : CV RL RX11 22 yX11_lay cX11_lay 4 (some FieldType.int) 2 := ⟨wml_L_22, wim_X11_lay, wse_X11_X11_lay_X11_lay, win_X11, rfl, wcd_X11_lay, ⟨by decide, by decide, by decide +kernel⟩⟩
theorem cs_X11_104 : CS RX11 104 yX11_isCell cX11_isCell 1 (some FieldType.boolean) 1 := ⟨wml_X11_104, wst_X11_isCell, win_X11, wcd_X11_isCell, ⟨by decide, by decide, by decide +kernel⟩⟩
theorem cv_L_26 : CV RL RX11 26 yX11_under cX11_under 2 (some FieldType.int) 1 := ⟨wml_L_26, wim_X11_under, wse_X11_X11_under_X11_under, win_X11, rfl, wcd_X11_under, ⟨by decide, by decide, by decide +kernel⟩⟩
theorem cv_L_31 : CV RL RX11 31 yX11_feed cX11_feed 8 (some FieldType.int) 6 := ⟨wml_L_31, wim_X11_feed, wse_X11_X11_feed_X11_feed, win_X11, rfl, wcd_X11_feed, ⟨by decide, by decide, by decide +kernel⟩⟩
theorem cs_X11_108 : CS RX11 108 yX11_isByte cX11_isByte 1 (some FieldType.boolean) 1 := ⟨wml_X11_108, wst_X11_isByte, win_X11, wcd_X11_isByte, ⟨by decide, by decide, by decide +kernel⟩⟩
theorem cv_L_36 : CV RL RX11 36 yX11_text cX11_text 3 (some FieldType.int) 0 := ⟨wml_L_36, wim_X11_text, wse_X11_X11_text_X11_text, win_X11, rfl, wcd_X11_text, ⟨by decide, by decide, by decide +kernel⟩⟩
theorem cv_L_40 : CV RL RX11 40 yX11_force cX11_force 3 (some FieldType.int) 1 := ⟨wml_L_40, wim_X11_force, wse_X11_X11_force_X11_force, win_X11, rfl, wcd_X11_force, ⟨by decide, by decide, by decide +kernel⟩⟩
theorem cv_L_45 : CV RL RX11 45 yX11_asks cX11_asks 4 (some FieldType.int) 3 := ⟨wml_L_45, wim_X11_asks, wse_X11_X11_asks_X11_asks, win_X11, rfl, wcd_X11_asks, ⟨by decide, by decide, by decide +kernel⟩⟩
theorem cv_X11_176 : CV RX11 RX11 176 yX11_isOne cX11_isOne 2 (some FieldType.boolean) 1 := ⟨wml_X11_176, wim_X11_isOne, wse_X11_X11_isOne_X11_isOne, win_X11, rfl, wcd_X11_isOne, ⟨by decide, by decide, by decide +kernel⟩⟩
theorem cv_X11_179 : CV RX11 RX11 179 yX11_asksOf cX11_asksOf 4 (some FieldType.int) 3 := ⟨wml_X11_179, wim_X11_asksOf, wse_X11_X11_asksOf_X11_asksOf, win_X11, rfl, wcd_X11_asksOf, ⟨by decide, by decide, by decide +kernel⟩⟩
theorem cv_X11_170 : CV RX11 RX11 170 yX11_says cX11_says 5 (some FieldType.int) 1 := ⟨wml_X11_170, wim_X11_says, wse_X11_X11_says_X11_says, win_X11, rfl, wcd_X11_says, ⟨by decide, by decide, by decide +kernel⟩⟩
theorem cs_X11_166 : CS RX11 166 yX11_two cX11_two 3 (some FieldType.int) 3 := ⟨wml_X11_166, wst_X11_two, win_X11, wcd_X11_two, ⟨by decide, by decide, by decide +kernel⟩⟩
theorem cs_X11_173 : CS RX11 173 yX11_within cX11_within 3 (some FieldType.int) 3 := ⟨wml_X11_173, wst_X11_within, win_X11, wcd_X11_within, ⟨by decide, by decide, by decide +kernel⟩⟩
theorem cv_L_49 : CV RL RX11 49 yX11_person cX11_person 3 (some FieldType.int) 2 := ⟨wml_L_49, wim_X11_person, wse_X11_X11_person_X11_person, win_X11, rfl, wcd_X11_person, ⟨by decide, by decide, by decide +kernel⟩⟩
theorem cv_L_53 : CV RL RX11 53 yX11_put cX11_put 5 (some FieldType.int) 3 := ⟨wml_L_53, wim_X11_put, wse_X11_X11_put_X11_put, win_X11, rfl, wcd_X11_put, ⟨by decide, by decide, by decide +kernel⟩⟩
theorem cv_L_57 : CV RL RX11 57 yX11_told cX11_told 3 (some FieldType.int) 2 := ⟨wml_L_57, wim_X11_told, wse_X11_X11_told_X11_told, win_X11, rfl, wcd_X11_told, ⟨by decide, by decide, by decide +kernel⟩⟩
theorem cv_L_61 : CV RL RX11 61 yX11_day cX11_day 1 (some FieldType.int) 0 := ⟨wml_L_61, wim_X11_day, wse_X11_X11_day_X11_day, win_X11, rfl, wcd_X11_day, ⟨by decide, by decide, by decide +kernel⟩⟩
theorem cv_X11_191 : CV RX11 RX11 191 yX11_dayBut cX11_dayBut 3 none 1 := ⟨wml_X11_191, wim_X11_dayBut, wse_X11_X11_dayBut_X11_dayBut, win_X11, rfl, wcd_X11_dayBut, ⟨by decide, by decide, by decide +kernel⟩⟩
theorem cv_X11_188 : CV RX11 RX11 188 yX11_turnOf cX11_turnOf 5 none 1 := ⟨wml_X11_188, wim_X11_turnOf, wse_X11_X11_turnOf_X11_turnOf, win_X11, rfl, wcd_X11_turnOf, ⟨by decide, by decide, by decide +kernel⟩⟩
theorem cs_X11_182 : CS RX11 182 yX11_apart cX11_apart 2 (some FieldType.int) 2 := ⟨wml_X11_182, wst_X11_apart, win_X11, wcd_X11_apart, ⟨by decide, by decide, by decide +kernel⟩⟩
theorem cs_X11_88 : CS RX11 88 yX11_without0 cX11_without0 2 (some FieldType.int) 2 := ⟨wml_X11_88, wst_X11_without0, win_X11, wcd_X11_without0, ⟨by decide, by decide, by decide +kernel⟩⟩
theorem cv_X11_185 : CV RX11 RX11 185 yX11_leavesAt cX11_leavesAt 4 (some FieldType.int) 3 := ⟨wml_X11_185, wim_X11_leavesAt, wse_X11_X11_leavesAt_X11_leavesAt, win_X11, rfl, wcd_X11_leavesAt, ⟨by decide, by decide, by decide +kernel⟩⟩
theorem cv_L_65 : CV RL RX11 65 yX11_leaves cX11_leaves 9 (some FieldType.int) 3 := ⟨wml_L_65, wim_X11_leaves, wse_X11_X11_leaves_X11_leaves, win_X11, rfl, wcd_X11_leaves, ⟨by decide, by decide, by decide +kernel⟩⟩
theorem cv_L_69 : CV RL RX11 69 yX11_run cX11_run 4 (some FieldType.int) 2 := ⟨wml_L_69, wim_X11_run, wse_X11_X11_run_X11_run, win_X11, rfl, wcd_X11_run, ⟨by decide, by decide, by decide +kernel⟩⟩
theorem cv_X11_194 : CV RX11 RX11 194 yX11_keeps cX11_keeps 2 none 0 := ⟨wml_X11_194, wim_X11_keeps, wse_X11_X11_keeps_X11_keeps, win_X11, rfl, wcd_X11_keeps, ⟨by decide, by decide, by decide +kernel⟩⟩
theorem cv_X11_197 : CV RX11 RX11 197 yX11_lays cX11_lays 2 none 0 := ⟨wml_X11_197, wim_X11_lays, wse_X11_X11_lays_X11_lays, win_X11, rfl, wcd_X11_lays, ⟨by decide, by decide, by decide +kernel⟩⟩
theorem cv_L_73 : CV RL RX11 73 yX11_sinks cX11_sinks 5 (some FieldType.int) 2 := ⟨wml_L_73, wim_X11_sinks, wse_X11_X11_sinks_X11_sinks, win_X11, rfl, wcd_X11_sinks, ⟨by decide, by decide, by decide +kernel⟩⟩
theorem cv_L_77 : CV RL RX11 77 yX11_walk cX11_walk 11 (some FieldType.int) 3 := ⟨wml_L_77, wim_X11_walk, wse_X11_X11_walk_X11_walk, win_X11, rfl, wcd_X11_walk, ⟨by decide, by decide, by decide +kernel⟩⟩
theorem cv_X11_200 : CV RX11 RX11 200 yX11_walkWrong cX11_walkWrong 6 (some FieldType.int) 2 := ⟨wml_X11_200, wim_X11_walkWrong, wse_X11_X11_walkWrong_X11_walkWrong, win_X11, rfl, wcd_X11_walkWrong, ⟨by decide, by decide, by decide +kernel⟩⟩
theorem cv_X11_203 : CV RX11 RX11 203 yX11_feelsOf cX11_feelsOf 4 (some FieldType.int) 2 := ⟨wml_X11_203, wim_X11_feelsOf, wse_X11_X11_feelsOf_X11_feelsOf, win_X11, rfl, wcd_X11_feelsOf, ⟨by decide, by decide, by decide +kernel⟩⟩
theorem cv_L_81 : CV RL RX11 81 yX11_tread cX11_tread 6 (some FieldType.int) 2 := ⟨wml_L_81, wim_X11_tread, wse_X11_X11_tread_X11_tread, win_X11, rfl, wcd_X11_tread, ⟨by decide, by decide, by decide +kernel⟩⟩
theorem cv_X11_209 : CV RX11 RX11 209 yX11_wearsNow cX11_wearsNow 5 (some FieldType.int) 2 := ⟨wml_X11_209, wim_X11_wearsNow, wse_X11_X11_wearsNow_X11_wearsNow, win_X11, rfl, wcd_X11_wearsNow, ⟨by decide, by decide, by decide +kernel⟩⟩
theorem cv_X11_206 : CV RX11 RX11 206 yX11_wearsOf cX11_wearsOf 4 (some FieldType.int) 2 := ⟨wml_X11_206, wim_X11_wearsOf, wse_X11_X11_wearsOf_X11_wearsOf, win_X11, rfl, wcd_X11_wearsOf, ⟨by decide, by decide, by decide +kernel⟩⟩
theorem cv_L_86 : CV RL RX11 86 yX11_way cX11_way 8 (some FieldType.int) 4 := ⟨wml_L_86, wim_X11_way, wse_X11_X11_way_X11_way, win_X11, rfl, wcd_X11_way, ⟨by decide, by decide, by decide +kernel⟩⟩
theorem cv_X11_212 : CV RX11 RX11 212 yX11_relaxes cX11_relaxes 4 (some FieldType.boolean) 2 := ⟨wml_X11_212, wim_X11_relaxes, wse_X11_X11_relaxes_X11_relaxes, win_X11, rfl, wcd_X11_relaxes, ⟨by decide, by decide, by decide +kernel⟩⟩
theorem cv_L_91 : CV RL RX11 91 yX11_heap cX11_heap 12 (some FieldType.long) 3 := ⟨wml_L_91, wim_X11_heap, wse_X11_X11_heap_X11_heap, win_X11, rfl, wcd_X11_heap, ⟨by decide, by decide, by decide +kernel⟩⟩
theorem cv_X11_218 : CV RX11 RX11 218 yX11_thickSet cX11_thickSet 5 (some FieldType.long) 1 := ⟨wml_X11_218, wim_X11_thickSet, wse_X11_X11_thickSet_X11_thickSet, win_X11, rfl, wcd_X11_thickSet, ⟨by decide, by decide, by decide +kernel⟩⟩
theorem cs_X11_222 : CS RX11 222 yX11_heapOf cX11_heapOf 11 (some FieldType.long) 2 := ⟨wml_X11_222, wst_X11_heapOf, win_X11, wcd_X11_heapOf, ⟨by decide, by decide, by decide +kernel⟩⟩
theorem cv_L_95 : CV RL RX11 95 yX11_room cX11_room 3 (some FieldType.int) 2 := ⟨wml_L_95, wim_X11_room, wse_X11_X11_room_X11_room, win_X11, rfl, wcd_X11_room, ⟨by decide, by decide, by decide +kernel⟩⟩
theorem cv_X11_228 : CV RX11 RX11 228 yX11_heapsOf cX11_heapsOf 6 (some FieldType.int) 1 := ⟨wml_X11_228, wim_X11_heapsOf, wse_X11_X11_heapsOf_X11_heapsOf, win_X11, rfl, wcd_X11_heapsOf, ⟨by decide, by decide, by decide +kernel⟩⟩
theorem cv_X11_231 : CV RX11 RX11 231 yX11_outermost cX11_outermost 5 (some FieldType.int) 1 := ⟨wml_X11_231, wim_X11_outermost, wse_X11_X11_outermost_X11_outermost, win_X11, rfl, wcd_X11_outermost, ⟨by decide, by decide, by decide +kernel⟩⟩
theorem cv_L_99 : CV RL RX11 99 yX11_turn cX11_turn 8 (some FieldType.int) 2 := ⟨wml_L_99, wim_X11_turn, wse_X11_X11_turn_X11_turn, win_X11, rfl, wcd_X11_turn, ⟨by decide, by decide, by decide +kernel⟩⟩
theorem cv_X11_235 : CV RX11 RX11 235 yX11_allWithout cX11_allWithout 4 (some FieldType.int) 2 := ⟨wml_X11_235, wim_X11_allWithout, wse_X11_X11_allWithout_X11_allWithout, win_X11, rfl, wcd_X11_allWithout, ⟨by decide, by decide, by decide +kernel⟩⟩
theorem cv_L_103 : CV RL RX11 103 yX11_seats cX11_seats 10 (some FieldType.int) 3 := ⟨wml_L_103, wim_X11_seats, wse_X11_X11_seats_X11_seats, win_X11, rfl, wcd_X11_seats, ⟨by decide, by decide, by decide +kernel⟩⟩
theorem cv_X11_238 : CV RX11 RX11 238 yX11_thickestBehind cX11_thickestBehind 3 (some FieldType.int) 1 := ⟨wml_X11_238, wim_X11_thickestBehind, wse_X11_X11_thickestBehind_X11_thickestBehind, win_X11, rfl, wcd_X11_thickestBehind, ⟨by decide, by decide, by decide +kernel⟩⟩
theorem cv_L_107 : CV RL RX11 107 yX11_judge cX11_judge 4 (some FieldType.int) 2 := ⟨wml_L_107, wim_X11_judge, wse_X11_X11_judge_X11_judge, win_X11, rfl, wcd_X11_judge, ⟨by decide, by decide, by decide +kernel⟩⟩
theorem cv_X11_241 : CV RX11 RX11 241 yX11_toldWrong cX11_toldWrong 3 (some FieldType.int) 2 := ⟨wml_X11_241, wim_X11_toldWrong, wse_X11_X11_toldWrong_X11_toldWrong, win_X11, rfl, wcd_X11_toldWrong, ⟨by decide, by decide, by decide +kernel⟩⟩
theorem cv_X11_244 : CV RX11 RX11 244 yX11_unlike cX11_unlike 5 (some FieldType.int) 2 := ⟨wml_X11_244, wim_X11_unlike, wse_X11_X11_unlike_X11_unlike, win_X11, rfl, wcd_X11_unlike, ⟨by decide, by decide, by decide +kernel⟩⟩
theorem cv_L_111 : CV RL RX11 111 yX11_kinds cX11_kinds 10 (some FieldType.int) 4 := ⟨wml_L_111, wim_X11_kinds, wse_X11_X11_kinds_X11_kinds, win_X11, rfl, wcd_X11_kinds, ⟨by decide, by decide, by decide +kernel⟩⟩
theorem cv_L_115 : CV RL RX11 115 yX11_where cX11_where 8 (some FieldType.long) 3 := ⟨wml_L_115, wim_X11_where, wse_X11_X11_where_X11_where, win_X11, rfl, wcd_X11_where, ⟨by decide, by decide, by decide +kernel⟩⟩
theorem cv_L_119 : CV RL RX11 119 yX11_holds cX11_holds 11 (some FieldType.int) 4 := ⟨wml_L_119, wim_X11_holds, wse_X11_X11_holds_X11_holds, win_X11, rfl, wcd_X11_holds, ⟨by decide, by decide, by decide +kernel⟩⟩
theorem cv_L_123 : CV RL RX11 123 yX11_laws cX11_laws 7 (some FieldType.int) 2 := ⟨wml_L_123, wim_X11_laws, wse_X11_X11_laws_X11_laws, win_X11, rfl, wcd_X11_laws, ⟨by decide, by decide, by decide +kernel⟩⟩
theorem cv_L_127 : CV RL RX11 127 yX11_film cX11_film 5 (some FieldType.int) 3 := ⟨wml_L_127, wim_X11_film, wse_X11_X11_film_X11_film, win_X11, rfl, wcd_X11_film, ⟨by decide, by decide, by decide +kernel⟩⟩
theorem cv_L_131 : CV RL RX11 131 yX11_drawn cX11_drawn 5 (some FieldType.int) 4 := ⟨wml_L_131, wim_X11_drawn, wse_X11_X11_drawn_X11_drawn, win_X11, rfl, wcd_X11_drawn, ⟨by decide, by decide, by decide +kernel⟩⟩
theorem cv_X11_263 : CV RX11 RX11 263 yX11_calls cX11_calls 8 none 3 := ⟨wml_X11_263, wim_X11_calls, wse_X11_X11_calls_X11_calls, win_X11, rfl, wcd_X11_calls, ⟨by decide, by decide, by decide +kernel⟩⟩
theorem cs_X11_259 : CS RX11 259 yX11_goesBy cX11_goesBy 2 (some FieldType.int) 2 := ⟨wml_X11_259, wst_X11_goesBy, win_X11, wcd_X11_goesBy, ⟨by decide, by decide, by decide +kernel⟩⟩
theorem cv_L_136 : CV RL RX11 136 yX11_odds cX11_odds 10 (some FieldType.long) 5 := ⟨wml_L_136, wim_X11_odds, wse_X11_X11_odds_X11_odds, win_X11, rfl, wcd_X11_odds, ⟨by decide, by decide, by decide +kernel⟩⟩
theorem cs_X11_268 : CS RX11 268 yX11_lowest cX11_lowest 11 (some FieldType.long) 3 := ⟨wml_X11_268, wst_X11_lowest, win_X11, wcd_X11_lowest, ⟨by decide, by decide, by decide +kernel⟩⟩
theorem cv_L_141 : CV RL RX11 141 yX11_share cX11_share 6 (some FieldType.long) 2 := ⟨wml_L_141, wim_X11_share, wse_X11_X11_share_X11_share, win_X11, rfl, wcd_X11_share, ⟨by decide, by decide, by decide +kernel⟩⟩
theorem cv_L_145 : CV RL RX11 145 yX11_image cX11_image 2 (some FieldType.int) 0 := ⟨wml_L_145, wim_X11_image, wse_X11_X11_image_X11_image, win_X11, rfl, wcd_X11_image, ⟨by decide, by decide, by decide +kernel⟩⟩
theorem cv_L_149 : CV RL RX11 149 yX11_back cX11_back 2 (some FieldType.int) 0 := ⟨wml_L_149, wim_X11_back, wse_X11_X11_back_X11_back, win_X11, rfl, wcd_X11_back, ⟨by decide, by decide, by decide +kernel⟩⟩
theorem cv_L_153 : CV RL RX11 153 yX11_sheet cX11_sheet 5 (some FieldType.int) 3 := ⟨wml_L_153, wim_X11_sheet, wse_X11_X11_sheet_X11_sheet, win_X11, rfl, wcd_X11_sheet, ⟨by decide, by decide, by decide +kernel⟩⟩
theorem cv_L_157 : CV RL RX11 157 yX11_cell cX11_cell 4 (some FieldType.int) 3 := ⟨wml_L_157, wim_X11_cell, wse_X11_X11_cell_X11_cell, win_X11, rfl, wcd_X11_cell, ⟨by decide, by decide, by decide +kernel⟩⟩
theorem cv_L_162 : CV RL RX11 162 yX11_copy cX11_copy 10 (some FieldType.int) 5 := ⟨wml_L_162, wim_X11_copy, wse_X11_X11_copy_X11_copy, win_X11, rfl, wcd_X11_copy, ⟨by decide, by decide, by decide +kernel⟩⟩
theorem cv_L_166 : CV RL RX11 166 yX11_peopleBy cX11_peopleBy 9 (some FieldType.int) 4 := ⟨wml_L_166, wim_X11_peopleBy, wse_X11_X11_peopleBy_X11_peopleBy, win_X11, rfl, wcd_X11_peopleBy, ⟨by decide, by decide, by decide +kernel⟩⟩
theorem cv_X11_276 : CV RX11 RX11 276 yX11_person cX11_person 3 (some FieldType.int) 2 := ⟨wml_X11_276, wim_X11_person, wse_X11_X11_person_X11_person, win_X11, rfl, wcd_X11_person, ⟨by decide, by decide, by decide +kernel⟩⟩
theorem cv_L_170 : CV RL RX11 170 yX11_taken cX11_taken 3 (some FieldType.int) 2 := ⟨wml_L_170, wim_X11_taken, wse_X11_X11_taken_X11_taken, win_X11, rfl, wcd_X11_taken, ⟨by decide, by decide, by decide +kernel⟩⟩
theorem cs_X11_279 : CS RX11 279 yX11_isUnder cX11_isUnder 2 (some FieldType.boolean) 2 := ⟨wml_X11_279, wst_X11_isUnder, win_X11, wcd_X11_isUnder, ⟨by decide, by decide, by decide +kernel⟩⟩
theorem wst_mabs : Cond.static Lib.Math.abs.name ∈ wsU := wst_J9_abs_0f7a4
theorem wcd_mabs : Cond.code Lib.Math.abs.name Lib.Math.abs.code 1 (some .int) ∈ wsU := wcd_J9_abs_0f7a4
theorem wst_mmax : Cond.static Lib.Math.max.name ∈ wsU := wst_J9_max_7cf53
theorem wcd_mmax : Cond.code Lib.Math.max.name Lib.Math.max.code 2 (some .int) ∈ wsU := wcd_J9_max_7cf53
theorem wst_mmin : Cond.static Lib.Math.min.name ∈ wsU := wst_J9_min_7cf53
theorem wcd_mmin : Cond.code Lib.Math.min.name Lib.Math.min.code 2 (some .int) ∈ wsU := wcd_J9_min_7cf53
theorem win_Math : Cond.initialized "java/lang/Math" ∈ wsU := win_J9
theorem win_System : Cond.initialized "java/lang/System" ∈ wsU := win_J10
theorem r_callS0 {α β : Type} {Q : α × Mem → State → Prop} {g : GP} {l : Launch} {x : CT} {own : String} {cc : ByteArray} {nL pc : Nat} {ret : Option FieldType} {m0 : Nat} {lv : List (Nat × Value)} {stk : List Value} {M : Mem} {encB : β → Option Value} {fc : Option (β × Mem)} {F : β → Mem → Option (α × Mem)} {idx maxL n : Nat} {y : MethodName} {bytes : ByteArray} {retc : Option FieldType} (ok : Ok g l x own cc nL ret (rmL m0)) (As rest : List Value) (n0 : Nat) (hc : ∀ r M2, fc = some (r, M2) → Con g l y bytes maxL retc (rmL n0) As M (encB r) M2) (cs : CS own idx y bytes maxL retc n) (hrm : rmOk 0 0 (rmL n0) (rmL m0) maxL) (hd : decode cc pc = .ok (.invokestatic idx, 3)) (hn : As.length = n) (hst : stk = As.reverse ++ rest) (hsum : (rest.map fun v => v.category).sum ≤ 8)
    (kk : ∀ r M2, Sw g l x Q nL 0 0 (pc + 3) lv ((encB r).toList ++ rest) M2 (F r M2)) : Sw g l x Q nL 0 0 pc lv stk M (ob fc F) := r_callS ok As rest (rmL n0) hc cs hrm hd hn hst hsum kk
theorem r_callV0 {α β : Type} {Q : α × Mem → State → Prop} {g : GP} {l : Launch} {x : CT} {own : String} {cc : ByteArray} {nL pc : Nat} {ret : Option FieldType} {m0 : Nat} {lv : List (Nat × Value)} {stk : List Value} {M : Mem} {encB : β → Option Value} {fc : Option (β × Mem)} {F : β → Mem → Option (α × Mem)} {idx maxL n : Nat} {y : MethodName} {bytes : ByteArray} {retc : Option FieldType} {K i : Nat} {C : String} (ok : Ok g l x own cc nL ret (rmL m0)) (As rest : List Value) (n0 : Nat) (hc : ∀ r M2, fc = some (r, M2) → Con g l y bytes maxL retc (rmL n0) (.ref (gA g K i) :: As) M (encB r) M2) (cs : CV own C idx y bytes maxL retc n) (hO : OK K i C) (hrm : rmOk 0 0 (rmL n0) (rmL m0) maxL) (hd : decode cc pc = .ok (.invokevirtual idx, 3)) (hn : As.length = n) (hst : stk = As.reverse ++ .ref (gA g K i) :: rest) (hsum : (rest.map fun v => v.category).sum ≤ 8)
    (kk : ∀ r M2, Sw g l x Q nL 0 0 (pc + 3) lv ((encB r).toList ++ rest) M2 (F r M2)) : Sw g l x Q nL 0 0 pc lv stk M (ob fc F) := r_callV ok As rest (rmL n0) hc cs hO hrm hd hn hst hsum kk
theorem r_callSN0 {α β : Type} {Q : α × Mem → State → Prop} {g : GP} {l : Launch} {x : CT} {own : String} {cc : ByteArray} {nL pc : Nat} {ret : Option FieldType} {m0 : Nat} {lv : List (Nat × Value)} {stk : List Value} {M : Mem} {encB : β → Option Value} {fc : Option (β × Mem)} {F : β → Mem → Option (α × Mem)} {idx maxL n : Nat} {y : MethodName} {bytes : ByteArray} {retc : Option FieldType} (ok : Ok g l x own cc nL ret (rmL m0)) (As rest : List Value) (n0 : Nat) (hc : ∀ r M2, fc = some (r, M2) → Con g l y bytes maxL retc (rmL n0) As M (encB r) M2) (cs : CSN own idx y bytes maxL retc n) (hrm : rmOk 0 0 (rmL n0) (rmL m0) maxL) (hd : decode cc pc = .ok (.invokestatic idx, 3)) (hn : As.length = n) (hst : stk = As.reverse ++ rest) (hsum : (rest.map fun v => v.category).sum ≤ 8)
    (kk : ∀ r M2, Sw g l x Q nL 0 0 (pc + 3) lv ((encB r).toList ++ rest) M2 (F r M2)) : Sw g l x Q nL 0 0 pc lv stk M (ob fc F) := r_callSN ok As rest (rmL n0) hc cs hrm hd hn hst hsum kk
theorem r_callVN0 {α β : Type} {Q : α × Mem → State → Prop} {g : GP} {l : Launch} {x : CT} {own : String} {cc : ByteArray} {nL pc : Nat} {ret : Option FieldType} {m0 : Nat} {lv : List (Nat × Value)} {stk : List Value} {M : Mem} {encB : β → Option Value} {fc : Option (β × Mem)} {F : β → Mem → Option (α × Mem)} {idx maxL n : Nat} {y : MethodName} {bytes : ByteArray} {retc : Option FieldType} {K i : Nat} {C : String} (ok : Ok g l x own cc nL ret (rmL m0)) (As rest : List Value) (n0 : Nat) (hc : ∀ r M2, fc = some (r, M2) → Con g l y bytes maxL retc (rmL n0) (.ref (gA g K i) :: As) M (encB r) M2) (cs : CVN own C idx y bytes maxL retc n) (hO : OK K i C) (hrm : rmOk 0 0 (rmL n0) (rmL m0) maxL) (hd : decode cc pc = .ok (.invokevirtual idx, 3)) (hn : As.length = n) (hst : stk = As.reverse ++ .ref (gA g K i) :: rest) (hsum : (rest.map fun v => v.category).sum ≤ 8)
    (kk : ∀ r M2, Sw g l x Q nL 0 0 (pc + 3) lv ((encB r).toList ++ rest) M2 (F r M2)) : Sw g l x Q nL 0 0 pc lv stk M (ob fc F) := r_callVN ok As rest (rmL n0) hc cs hO hrm hd hn hst hsum kk
