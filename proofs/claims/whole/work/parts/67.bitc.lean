/-! Long.bitCount over sets of cells -/
section BC
def bcV : List Nat → Nat
  | [] => 0
  | b :: l => b + 256 * bcV l
def bcR (c : Nat) : Nat → Nat
  | 0 => 0
  | n + 1 => c + 256 * bcR c n
theorem and_cons {a c y m : Nat} (ha : a < 256) (hc : c < 256) : (a + 256 * y) &&& (c + 256 * m) = (a &&& c) + 256 * (y &&& m) := by
  have hac : a &&& c < 2 ^ 8 := Nat.and_lt_two_pow _ hc
  apply Nat.eq_of_testBit_eq
  intro i
  rw [Nat.testBit_and, show a + 256 * y = 2 ^ 8 * y + a by omega, show c + 256 * m = 2 ^ 8 * m + c by omega, show (a &&& c) + 256 * (y &&& m) = 2 ^ 8 * (y &&& m) + (a &&& c) by omega, Nat.testBit_two_pow_mul_add _ (show a < 2 ^ 8 from ha), Nat.testBit_two_pow_mul_add _ (show c < 2 ^ 8 from hc), Nat.testBit_two_pow_mul_add _ hac]
  by_cases h : i < 8
  · rw [if_pos h, if_pos h, if_pos h, Nat.testBit_and]
  · rw [if_neg h, if_neg h, if_neg h, Nat.testBit_and]
def bc1 (b : Nat) : Nat := b - ((b / 2) &&& 85)
def bc2 (b : Nat) : Nat := (b &&& 51) + ((b / 4) &&& 51)
def bc3 (b : Nat) : Nat := (b + b / 16) &&& 15
theorem bt1 : ∀ b, b < 256 → ∀ z, z < 2 → (b / 2 + 128 * z) &&& 85 = (b / 2) &&& 85 := by decide +kernel
theorem bt2 : ∀ b, b < 256 → ∀ z, z < 4 → (b / 4 + 64 * z) &&& 51 = (b / 4) &&& 51 := by decide +kernel
theorem bt3 : ∀ b, b < 69 → ∀ z, z < 5 → (b + b / 16 + 16 * z) &&& 15 = bc3 b := by decide +kernel
theorem bt4 : ∀ b, b < 256 → bc1 b < 256 ∧ bc2 (bc1 b) < 69 ∧ bc2 (bc1 b) % 16 < 5 ∧ bc3 (bc2 (bc1 b)) = cntN (fun c => b.testBit c) 8 ∧ bc3 (bc2 (bc1 b)) ≤ 8 := by decide +kernel
theorem bcs1 : ∀ l : List Nat, (∀ b ∈ l, b < 256) → bcV l - ((bcV l / 2) &&& bcR 85 l.length) = bcV (l.map bc1) ∧ ((bcV l / 2) &&& bcR 85 l.length) ≤ bcV l := by
  intro l
  induction l with
  | nil => intro _; exact ⟨rfl, Nat.le_refl _⟩
  | cons b l ih =>
    intro h
    obtain ⟨i1, i2⟩ := ih (fun x hx => h x (List.mem_cons_of_mem _ hx))
    have hb := h b List.mem_cons_self
    show (b + 256 * bcV l) - (((b + 256 * bcV l) / 2) &&& (85 + 256 * bcR 85 l.length)) = bc1 b + 256 * bcV (l.map bc1) ∧ (((b + 256 * bcV l) / 2) &&& (85 + 256 * bcR 85 l.length)) ≤ b + 256 * bcV l
    rw [show (b + 256 * bcV l) / 2 = (b / 2 + 128 * (bcV l % 2)) + 256 * (bcV l / 2) by omega, and_cons (by omega) (by omega), bt1 b hb _ (by omega)]
    have u1 : (b / 2) &&& 85 ≤ b / 2 := Nat.and_le_left
    rw [← i1]
    unfold bc1
    omega
theorem bcs2 : ∀ l : List Nat, (∀ b ∈ l, b < 256) → (bcV l &&& bcR 51 l.length) + ((bcV l / 4) &&& bcR 51 l.length) = bcV (l.map bc2) := by
  intro l
  induction l with
  | nil => intro _; rfl
  | cons b l ih =>
    intro h
    have i1 := ih (fun x hx => h x (List.mem_cons_of_mem _ hx))
    have hb := h b List.mem_cons_self
    show ((b + 256 * bcV l) &&& (51 + 256 * bcR 51 l.length)) + (((b + 256 * bcV l) / 4) &&& (51 + 256 * bcR 51 l.length)) = bc2 b + 256 * bcV (l.map bc2)
    rw [show (b + 256 * bcV l) / 4 = (b / 4 + 64 * (bcV l % 4)) + 256 * (bcV l / 4) by omega, and_cons hb (by omega), and_cons (by omega) (by omega), bt2 b hb _ (by omega), ← i1]
    unfold bc2
    omega
theorem bcV_16 : ∀ l : List Nat, (∀ b ∈ l, b % 16 < 5) → bcV l % 16 < 5 := by
  intro l h
  cases l with
  | nil => decide
  | cons b l =>
    have := h b List.mem_cons_self
    show (b + 256 * bcV l) % 16 < 5
    omega
theorem bcs3 : ∀ l : List Nat, (∀ b ∈ l, b < 69 ∧ b % 16 < 5) → (bcV l + bcV l / 16) &&& bcR 15 l.length = bcV (l.map bc3) := by
  intro l
  induction l with
  | nil => intro _; rfl
  | cons b l ih =>
    intro h
    have i1 := ih (fun x hx => h x (List.mem_cons_of_mem _ hx))
    have hb := h b List.mem_cons_self
    have hz := bcV_16 l (fun x hx => (h x (List.mem_cons_of_mem _ hx)).2)
    show ((b + 256 * bcV l) + (b + 256 * bcV l) / 16) &&& (15 + 256 * bcR 15 l.length) = bc3 b + 256 * bcV (l.map bc3)
    rw [show (b + 256 * bcV l) + (b + 256 * bcV l) / 16 = (b + b / 16 + 16 * (bcV l % 16)) + 256 * (bcV l + bcV l / 16) by omega, and_cons (by omega) (by omega), bt3 b hb.1 _ hz, i1]
theorem cntN_add {P : Nat → Bool} {a : Nat} : ∀ m, cntN P (a + m) = cntN P a + cntN (fun c => P (a + c)) m := by
  intro m
  induction m with
  | zero => rfl
  | succ m ih =>
    show cntN P (a + m) + (if P (a + m) = true then 1 else 0) = cntN P a + (cntN (fun c => P (a + c)) m + (if P (a + m) = true then 1 else 0))
    rw [ih]
    omega
theorem cntN_ext {P Q : Nat → Bool} : ∀ n, (∀ c, c < n → P c = Q c) → cntN P n = cntN Q n := by
  intro n
  induction n with
  | zero => intro _; rfl
  | succ n ih =>
    intro h
    show cntN P n + (if P n = true then 1 else 0) = cntN Q n + (if Q n = true then 1 else 0)
    rw [ih (fun c hc => h c (by omega)), h n (by omega)]
theorem cnt_cons {b y : Nat} (hb : b < 256) (m : Nat) : cntN (fun c => (b + 256 * y).testBit c) (8 + m) = cntN (fun c => b.testBit c) 8 + cntN (fun c => y.testBit c) m := by
  have e : ∀ c, (b + 256 * y).testBit c = if c < 8 then b.testBit c else y.testBit (c - 8) := fun c => by
    rw [show b + 256 * y = 2 ^ 8 * y + b by omega, Nat.testBit_two_pow_mul_add _ (show b < 2 ^ 8 from hb)]
  rw [cntN_add, cntN_ext 8 (Q := fun c => b.testBit c) (fun c hc => by rw [e, if_pos hc]), cntN_ext m (Q := fun c => y.testBit c) (fun c _ => by rw [e, if_neg (by omega), show 8 + c - 8 = c by omega])]
theorem cnt_0 (m : Nat) : cntN (fun c => (0 : Nat).testBit c) m = 0 := by
  induction m with
  | zero => rfl
  | succ m ih =>
    show cntN (fun c => (0 : Nat).testBit c) m + (if (0 : Nat).testBit m = true then 1 else 0) = 0
    rw [ih, Nat.zero_testBit]
    rfl
theorem bcR_lt : bcR 85 8 = 6148914691236517205 ∧ bcR 51 8 = 3689348814741910323 ∧ bcR 15 8 = 1085102592571150095 := by decide +kernel
theorem fold_end {p0 p1 p2 p3 p4 w3 w4 w5 : Nat} (h0 : p0 ≤ 8) (h1 : p1 ≤ 8) (h2 : p2 ≤ 8) (h3 : p3 ≤ 8) (h4 : p4 ≤ 8) (e3 : w3 = p0 + 256 * p1 + 65536 * p2 + 16777216 * p3 + 4294967296 * p4) (e4 : w4 = w3 + w3 / 256) (e5 : w5 = w4 + w4 / 65536) : (w5 + w5 / 4294967296) % 128 = p0 + p1 + p2 + p3 + p4 ∧ w3 < 2 ^ 37 ∧ w4 < 2 ^ 38 ∧ w5 < 2 ^ 39 := by
  have q3 : w3 / 256 = p1 + 256 * p2 + 65536 * p3 + 16777216 * p4 := by omega
  have f4 : w4 = (p0 + p1) + 256 * (p1 + p2) + 65536 * (p2 + p3) + 16777216 * (p3 + p4) + 4294967296 * p4 := by omega
  have q4 : w4 / 65536 = (p2 + p3) + 256 * (p3 + p4) + 65536 * p4 := by omega
  have f5 : w5 = (p0 + p1 + p2 + p3) + 256 * (p1 + p2 + p3 + p4) + 65536 * (p2 + p3 + p4) + 16777216 * (p3 + p4) + 4294967296 * p4 := by omega
  have q5 : w5 / 4294967296 = p4 := by omega
  refine ⟨?_, by omega, by omega, by omega⟩
  rw [q5, show w5 + p4 = (p0 + p1 + p2 + p3 + p4) + 128 * (2 * (p1 + p2 + p3 + p4) + 512 * (p2 + p3 + p4) + 131072 * (p3 + p4) + 33554432 * p4) by omega, Nat.add_mul_mod_self_left, Nat.mod_eq_of_lt (by omega)]
theorem bitCount_ev {x : Nat} (M : Mem) (hx : x < 2 ^ 36) : fJ13_bitCount_95d88 (lN x) M = some (nI (card x), M) := by
  have hl : bcV [x % 256, x / 256 % 256, x / 65536 % 256, x / 16777216 % 256, x / 4294967296 % 256, 0, 0, 0] = x := by
    show x % 256 + 256 * (x / 256 % 256 + 256 * (x / 65536 % 256 + 256 * (x / 16777216 % 256 + 256 * (x / 4294967296 % 256 + 256 * (0 + 256 * (0 + 256 * (0 + 256 * 0))))))) = x
    omega
  have g0 : x % 256 < 256 := Nat.mod_lt _ (by decide)
  have g1 : x / 256 % 256 < 256 := Nat.mod_lt _ (by decide)
  have g2 : x / 65536 % 256 < 256 := Nat.mod_lt _ (by decide)
  have g3 : x / 16777216 % 256 < 256 := Nat.mod_lt _ (by decide)
  have g4 : x / 4294967296 % 256 < 256 := Nat.mod_lt _ (by decide)
  generalize hb0 : x % 256 = b0 at hl g0
  generalize hb1 : x / 256 % 256 = b1 at hl g1
  generalize hb2 : x / 65536 % 256 = b2 at hl g2
  generalize hb3 : x / 16777216 % 256 = b3 at hl g3
  generalize hb4 : x / 4294967296 % 256 = b4 at hl g4
  have hcard : card x = cntN (fun c => b0.testBit c) 8 + cntN (fun c => b1.testBit c) 8 + cntN (fun c => b2.testBit c) 8 + cntN (fun c => b3.testBit c) 8 + cntN (fun c => b4.testBit c) 8 := by
    have h40 : cntN (fun c => x.testBit c) (36 + 4) = card x := by
      rw [cntN_add]
      have : cntN (fun c => x.testBit (36 + c)) 4 = cntN (fun c => (0 : Nat).testBit c) 4 := cntN_ext 4 (fun c _ => by rw [hi0 hx (by omega), Nat.zero_testBit])
      rw [this, cnt_0]
      rfl
    rw [← h40, show 36 + 4 = 8 + (8 + (8 + (8 + (8 + 0)))) by rfl, ← hl]
    show cntN (fun c => (b0 + 256 * (b1 + 256 * (b2 + 256 * (b3 + 256 * (b4 + 256 * (0 + 256 * (0 + 256 * (0 + 256 * 0)))))))).testBit c) (8 + (8 + (8 + (8 + (8 + 0))))) = _
    rw [cnt_cons g0, cnt_cons g1, cnt_cons g2, cnt_cons g3, cnt_cons g4]
    show _ + (_ + (_ + (_ + (_ + 0)))) = _
    omega
  have q0 := bt4 b0 g0
  have q1 := bt4 b1 g1
  have q2 := bt4 b2 g2
  have q3 := bt4 b3 g3
  have q4 := bt4 b4 g4
  have qz := bt4 0 (by omega)
  have hin : ∀ b ∈ [b0, b1, b2, b3, b4, 0, 0, 0], b < 256 := by
    intro b hb
    simp only [List.mem_cons, List.not_mem_nil, or_false] at hb
    rcases hb with rfl | rfl | rfl | rfl | rfl | rfl | rfl | rfl <;> first | assumption | decide
  have p1 := bcs1 [b0, b1, b2, b3, b4, 0, 0, 0] hin
  rw [hl] at p1
  have p1a : x - ((x / 2) &&& bcR 85 8) = bcV [bc1 b0, bc1 b1, bc1 b2, bc1 b3, bc1 b4, bc1 0, bc1 0, bc1 0] := p1.1
  have p1b : ((x / 2) &&& bcR 85 8) ≤ x := p1.2
  have p2 : (bcV [bc1 b0, bc1 b1, bc1 b2, bc1 b3, bc1 b4, bc1 0, bc1 0, bc1 0] &&& bcR 51 8) + ((bcV [bc1 b0, bc1 b1, bc1 b2, bc1 b3, bc1 b4, bc1 0, bc1 0, bc1 0] / 4) &&& bcR 51 8) = bcV [bc2 (bc1 b0), bc2 (bc1 b1), bc2 (bc1 b2), bc2 (bc1 b3), bc2 (bc1 b4), bc2 (bc1 0), bc2 (bc1 0), bc2 (bc1 0)] := bcs2 [bc1 b0, bc1 b1, bc1 b2, bc1 b3, bc1 b4, bc1 0, bc1 0, bc1 0] (by
    intro b hb
    simp only [List.mem_cons, List.not_mem_nil, or_false] at hb
    rcases hb with rfl | rfl | rfl | rfl | rfl | rfl | rfl | rfl
    · exact q0.1
    · exact q1.1
    · exact q2.1
    · exact q3.1
    · exact q4.1
    · exact qz.1
    · exact qz.1
    · exact qz.1)
  have p3 : (bcV [bc2 (bc1 b0), bc2 (bc1 b1), bc2 (bc1 b2), bc2 (bc1 b3), bc2 (bc1 b4), bc2 (bc1 0), bc2 (bc1 0), bc2 (bc1 0)] + bcV [bc2 (bc1 b0), bc2 (bc1 b1), bc2 (bc1 b2), bc2 (bc1 b3), bc2 (bc1 b4), bc2 (bc1 0), bc2 (bc1 0), bc2 (bc1 0)] / 16) &&& bcR 15 8 = bcV [bc3 (bc2 (bc1 b0)), bc3 (bc2 (bc1 b1)), bc3 (bc2 (bc1 b2)), bc3 (bc2 (bc1 b3)), bc3 (bc2 (bc1 b4)), bc3 (bc2 (bc1 0)), bc3 (bc2 (bc1 0)), bc3 (bc2 (bc1 0))] := bcs3 [bc2 (bc1 b0), bc2 (bc1 b1), bc2 (bc1 b2), bc2 (bc1 b3), bc2 (bc1 b4), bc2 (bc1 0), bc2 (bc1 0), bc2 (bc1 0)] (by
    intro b hb
    simp only [List.mem_cons, List.not_mem_nil, or_false] at hb
    rcases hb with rfl | rfl | rfl | rfl | rfl | rfl | rfl | rfl
    · exact ⟨q0.2.1, q0.2.2.1⟩
    · exact ⟨q1.2.1, q1.2.2.1⟩
    · exact ⟨q2.2.1, q2.2.2.1⟩
    · exact ⟨q3.2.1, q3.2.2.1⟩
    · exact ⟨q4.2.1, q4.2.2.1⟩
    · exact ⟨qz.2.1, qz.2.2.1⟩
    · exact ⟨qz.2.1, qz.2.2.1⟩
    · exact ⟨qz.2.1, qz.2.2.1⟩)
  have z0 : bc3 (bc2 (bc1 0)) = 0 := by decide
  rw [z0] at p3
  rw [← q0.2.2.2.1, ← q1.2.2.2.1, ← q2.2.2.2.1, ← q3.2.2.2.1, ← q4.2.2.2.1] at hcard
  generalize hW1 : bcV [bc1 b0, bc1 b1, bc1 b2, bc1 b3, bc1 b4, bc1 0, bc1 0, bc1 0] = W1 at p1a p2
  generalize hW2 : bcV [bc2 (bc1 b0), bc2 (bc1 b1), bc2 (bc1 b2), bc2 (bc1 b3), bc2 (bc1 b4), bc2 (bc1 0), bc2 (bc1 0), bc2 (bc1 0)] = W2 at p2 p3
  have v0 := q0.2.2.2.2
  have v1 := q1.2.2.2.2
  have v2 := q2.2.2.2.2
  have v3 := q3.2.2.2.2
  have v4 := q4.2.2.2.2
  generalize bc3 (bc2 (bc1 b0)) = r0 at p3 hcard v0
  generalize bc3 (bc2 (bc1 b1)) = r1 at p3 hcard v1
  generalize bc3 (bc2 (bc1 b2)) = r2 at p3 hcard v2
  generalize bc3 (bc2 (bc1 b3)) = r3 at p3 hcard v3
  generalize bc3 (bc2 (bc1 b4)) = r4 at p3 hcard v4
  have e3 : bcV [r0, r1, r2, r3, r4, 0, 0, 0] = r0 + 256 * r1 + 65536 * r2 + 16777216 * r3 + 4294967296 * r4 := by
    show r0 + 256 * (r1 + 256 * (r2 + 256 * (r3 + 256 * (r4 + 256 * (0 + 256 * (0 + 256 * (0 + 256 * 0))))))) = _
    omega
  rw [e3] at p3
  obtain ⟨m1, m2, m3⟩ := bcR_lt
  rw [m1] at p1a p1b
  rw [m2] at p2
  rw [m3] at p3
  have w1lt : W1 < 2 ^ 36 := by omega
  have a1 : W1 &&& 3689348814741910323 ≤ W1 := Nat.and_le_left
  have a2 : (W1 / 4) &&& 3689348814741910323 ≤ W1 / 4 := Nat.and_le_left
  have w2lt : W2 < 2 ^ 38 := by omega
  obtain ⟨f1, f2, f3, f4⟩ := fold_end (p0 := r0) (p1 := r1) (p2 := r2) (p3 := r3) (p4 := r4) v0 v1 v2 v3 v4 rfl rfl rfl
  generalize hW3 : r0 + 256 * r1 + 65536 * r2 + 16777216 * r3 + 4294967296 * r4 = W3 at p3 f1 f2 f3 f4
  unfold fJ13_bitCount_95d88
  show (let w1 := lN x - ((lushr (lN x) 1) &&& 6148914691236517205); let w2 := (w1 &&& 3689348814741910323) + ((lushr w1 2) &&& 3689348814741910323); let w3 := (w2 + (lushr w2 4)) &&& 1085102592571150095; let w4 := w3 + (lushr w3 8); let w5 := w4 + (lushr w4 16); let w6 := w5 + (lushr w5 32); some (w6.toInt32 &&& 127, M)) = _
  have k1 : lN x - ((lushr (lN x) 1) &&& 6148914691236517205) = lN W1 := by
    rw [show lushr (lN x) 1 = lN (x / 2) from b_ushr (k := 1) (by omega) (by decide), show (6148914691236517205 : Int64) = lN 6148914691236517205 from rfl, wb_and (by omega) (by decide), lN_sub p1b, p1a]
  have k2 : (lN W1 &&& 3689348814741910323) + ((lushr (lN W1) 2) &&& 3689348814741910323) = lN W2 := by
    rw [show lushr (lN W1) 2 = lN (W1 / 4) from b_ushr (k := 2) (by omega) (by decide), show (3689348814741910323 : Int64) = lN 3689348814741910323 from rfl, wb_and (by omega) (by decide), wb_and (by omega) (by decide), lN_add, p2]
  have k3 : (lN W2 + (lushr (lN W2) 4)) &&& 1085102592571150095 = lN W3 := by
    rw [show lushr (lN W2) 4 = lN (W2 / 16) from b_ushr (k := 4) (by omega) (by decide), show (1085102592571150095 : Int64) = lN 1085102592571150095 from rfl, lN_add, wb_and (by omega) (by decide), p3]
  simp only [k1, k2, k3]
  rw [show lushr (lN W3) 8 = lN (W3 / 256) from b_ushr (k := 8) (by omega) (by decide), lN_add]
  rw [show lushr (lN (W3 + W3 / 256)) 16 = lN ((W3 + W3 / 256) / 65536) from b_ushr (k := 16) (by omega) (by decide), lN_add]
  rw [show lushr (lN (W3 + W3 / 256 + (W3 + W3 / 256) / 65536)) 32 = lN ((W3 + W3 / 256 + (W3 + W3 / 256) / 65536) / 4294967296) from b_ushr (k := 32) (by omega) (by decide), lN_add, lN_i, pk_and _ 7 (by decide)]
  have key : (nI (W3 + W3 / 256 + (W3 + W3 / 256) / 65536 + (W3 + W3 / 256 + (W3 + W3 / 256) / 65536) / 4294967296)).toBitVec.toNat % 2 ^ 7 = card x := by
    rw [hcard, ← f1]
    show (W3 + W3 / 256 + (W3 + W3 / 256) / 65536 + (W3 + W3 / 256 + (W3 + W3 / 256) / 65536) / 4294967296) % 2 ^ 32 % 2 ^ 7 = _
    omega
  rw [key]
end BC
