/-! bits: rows of kit/laws/BITS.to-paste (lN n to 2^64), pasted -/
section WB
theorem wb_tb (n : Nat) : (lN n).toBitVec = BitVec.ofNat 64 n := rfl
theorem wb_inj {a b : Int64} (h : a.toBitVec = b.toBitVec) : a = b := Int64.toBitVec_inj.mp h
theorem wb_tn {n : Nat} (h : n < 2 ^ 64) : (lN n).toBitVec.toNat = n := by rw [wb_tb, BitVec.toNat_ofNat, Nat.mod_eq_of_lt h]
theorem wb_of (x : Int64) : ∃ n, n < 2 ^ 64 ∧ x = lN n := ⟨x.toBitVec.toNat, x.toBitVec.isLt, wb_inj (by rw [wb_tb]; simp)⟩
theorem wb_of32 (x : Int32) : ∃ n, n < 2 ^ 32 ∧ x = nI n := ⟨x.toBitVec.toNat, x.toBitVec.isLt, Int32.toBitVec_inj.mp (by show _ = BitVec.ofNat 32 _; simp)⟩
theorem wb_c : ∀ k, k < 64 → ((nI k).toInt64 &&& 63) = lN k := by decide +kernel
theorem wb_cu : ∀ k, k < 64 → ((nI k).toInt64.toUInt64 &&& Int64.toUInt64 63) = UInt64.ofNat k := by decide +kernel
theorem wb_sm : ∀ k, k < 64 → (BitVec.ofNat 64 k).smod 64 = BitVec.ofNat 64 k := by decide +kernel
theorem wb_pw {a b : Nat} (h : a ≤ b) : 2 ^ b = 2 ^ a * 2 ^ (b - a) := by rw [← Nat.pow_add]; congr 1; omega
theorem wb_lt2 {a b : Nat} (h : a < b) : 2 ^ a < 2 ^ b := Nat.pow_lt_pow_right (by decide) h
theorem wb_mod (n : Nat) : lN n = lN (n % 2 ^ 64) := wb_inj (by rw [wb_tb, wb_tb]; apply BitVec.eq_of_toNat_eq; rw [BitVec.toNat_ofNat, BitVec.toNat_ofNat, Nat.mod_mod])
theorem wb_shr {n k : Nat} (hn : n < 2 ^ 64) (hk : k < 64) : ((lN n).toUInt64 >>> ((nI k).toInt64.toUInt64 &&& Int64.toUInt64 63)).toInt64 = lN (n / 2 ^ k) := by
  rw [wb_cu k hk]
  apply wb_inj
  apply BitVec.eq_of_toNat_eq
  show ((lN n).toUInt64 >>> UInt64.ofNat k).toNat = (BitVec.ofNat 64 _).toNat
  have h1 : (UInt64.ofNat k).toNat = k := by
    show (BitVec.ofNat 64 k).toNat = k
    rw [BitVec.toNat_ofNat, Nat.mod_eq_of_lt (by omega)]
  have h2 : (lN n).toUInt64.toNat = n := wb_tn hn
  rw [UInt64.toNat_shiftRight, h1, h2, Nat.mod_eq_of_lt hk, Nat.shiftRight_eq_div_pow, BitVec.toNat_ofNat, Nat.mod_eq_of_lt (Nat.lt_of_le_of_lt (Nat.div_le_self _ _) hn)]
theorem wb_shl (n : Nat) {k : Nat} (hk : k < 64) : lN n <<< ((nI k).toInt64 &&& 63) = lN (n * 2 ^ k) := by
  rw [wb_c k hk]
  apply wb_inj
  rw [Int64.toBitVec_shiftLeft, wb_tb, wb_tb, wb_tb, wb_sm k hk]
  apply BitVec.eq_of_toNat_eq
  rw [BitVec.shiftLeft_eq', BitVec.toNat_shiftLeft, BitVec.toNat_ofNat, BitVec.toNat_ofNat, BitVec.toNat_ofNat, Nat.mod_eq_of_lt (show k < 2 ^ 64 by omega), Nat.shiftLeft_eq, Nat.mul_mod, Nat.mod_mod, ← Nat.mul_mod]
theorem wb_and {a b : Nat} (ha : a < 2 ^ 64) (hb : b < 2 ^ 64) : lN a &&& lN b = lN (a &&& b) := by
  apply wb_inj
  rw [Int64.toBitVec_and, wb_tb, wb_tb, wb_tb]
  apply BitVec.eq_of_toNat_eq
  rw [BitVec.toNat_and, BitVec.toNat_ofNat, BitVec.toNat_ofNat, BitVec.toNat_ofNat, Nat.mod_eq_of_lt ha, Nat.mod_eq_of_lt hb, Nat.mod_eq_of_lt (Nat.and_lt_two_pow _ hb)]
theorem wb_or {a b : Nat} (ha : a < 2 ^ 64) (hb : b < 2 ^ 64) : lN a ||| lN b = lN (a ||| b) := by
  apply wb_inj
  rw [Int64.toBitVec_or, wb_tb, wb_tb, wb_tb]
  apply BitVec.eq_of_toNat_eq
  rw [BitVec.toNat_or, BitVec.toNat_ofNat, BitVec.toNat_ofNat, BitVec.toNat_ofNat, Nat.mod_eq_of_lt ha, Nat.mod_eq_of_lt hb, Nat.mod_eq_of_lt (Nat.or_lt_two_pow ha hb)]
theorem wb_mask {n k : Nat} (hn : n < 2 ^ 64) (hk : k < 64) : lN n &&& lN (2 ^ k - 1) = lN (n % 2 ^ k) := by
  rw [wb_and hn (by have := wb_lt2 hk; omega), Nat.and_two_pow_sub_one_eq_mod]
theorem wb_a1 {n : Nat} (hn : n < 2 ^ 64) : lN n &&& 1 = lN (n % 2) := wb_mask (k := 1) hn (by decide)
theorem wb_bit {n k : Nat} (hn : n < 2 ^ 64) (hk : k < 64) : ((lN n).toUInt64 >>> ((nI k).toInt64.toUInt64 &&& Int64.toUInt64 63)).toInt64 &&& 1 = lN (n / 2 ^ k % 2) := by
  rw [wb_shr hn hk, wb_a1 (Nat.lt_of_le_of_lt (Nat.div_le_self _ _) hn)]
theorem pf_lI {a : Nat} (h : a < 2 ^ 63) : (lN a).toInt = (a : Int) := lg_ofNat_toInt h
theorem pf_shr {a d : Nat} {D : Int64} (hD : (D.toBitVec.smod 64).toNat = d) (h : a < 2 ^ 62) : lN a >>> D = lN (a / 2 ^ d) := by
  have hd : a / 2 ^ d ≤ a := Nat.div_le_self _ _
  apply Int64.toInt_inj.mp
  have e : (lN a >>> D).toInt = (lN a).toInt >>> d := by
    rw [← hD]
    exact BitVec.toInt_sshiftRight ..
  rw [e, Int.shiftRight_eq_div_pow, pf_lI (by omega), pf_lI (by omega)]
  rfl
/-! sets of cells as numbers under 2^36 -/
theorem b_and {a b : Nat} (ha : a < 2 ^ 36) (hb : b < 2 ^ 64) : lN a &&& lN b = lN (a &&& b) := wb_and (by omega) hb
theorem b_shl {k : Nat} (x : Nat) (hk : k < 64) : lshl (lN x) (nI k) = lN (x * 2 ^ k) := wb_shl x hk
theorem b_one {k : Nat} (hk : k < 64) : lshl 1 (nI k) = lN (2 ^ k) := by
  have := b_shl 1 hk
  rw [Nat.one_mul] at this
  exact this
theorem b_ushr {x k : Nat} (hx : x < 2 ^ 64) (hk : k < 64) : lushr (lN x) (nI k) = lN (x / 2 ^ k) := wb_shr hx hk
theorem b_shr {x k : Nat} (hx : x < 2 ^ 62) (hk : k < 64) : lshr (lN x) (nI k) = lN (x / 2 ^ k) := by
  unfold lshr
  rw [wb_c k hk]
  refine pf_shr ?_ hx
  rw [wb_tb, wb_sm k hk, BitVec.toNat_ofNat]
  omega
theorem b_tst {x k : Nat} (hx : x < 2 ^ 36) (hk : k < 36) : (lg_cmp ((lshr (lN x) (nI k)) &&& 1) 1 = 0) ↔ x.testBit k = true := by
  have hd : x / 2 ^ k ≤ x := Nat.div_le_self _ _
  rw [b_shr (by omega) (by omega), wb_a1 (by omega), lg_cmp_eq, show (1 : Int64) = lN 1 from rfl, pk_lEQ (by omega) (by omega), Nat.testBit_eq_decide_div_mod_eq, decide_eq_true_eq]
theorem b_tst2 {x k : Nat} (hx : x < 2 ^ 36) (hk : k < 36) : (lg_cmp (lrem (lushr (lN x) (nI k)) 2) 1 = 0) ↔ x.testBit k = true := by
  have hd : x / 2 ^ k ≤ x := Nat.div_le_self _ _
  rw [b_ushr (by omega) (by omega), show lrem (lN (x / 2 ^ k)) 2 = lN (x / 2 ^ k % 2) from pk_lRem (b := 2) (by omega) (by omega) (by omega), lg_cmp_eq, show (1 : Int64) = lN 1 from rfl, pk_lEQ (by omega) (by omega), Nat.testBit_eq_decide_div_mod_eq, decide_eq_true_eq]
theorem hi0 {x : Nat} (hx : x < 2 ^ 36) {i : Nat} (hi : 36 ≤ i) : x.testBit i = false := Nat.testBit_lt_two_pow (Nat.lt_of_lt_of_le hx (Nat.pow_le_pow_right (by decide) hi))
theorem set_ext {x y : Nat} (hx : x < 2 ^ 36) (hy : y < 2 ^ 36) (h : ∀ c, c < 36 → x.testBit c = y.testBit c) : x = y := by
  apply Nat.eq_of_testBit_eq
  intro i
  by_cases hi : i < 36
  · exact h i hi
  · rw [hi0 hx (by omega), hi0 hy (by omega)]
def sub36 (x y : Nat) : Prop := ∀ c, c < 36 → x.testBit c = true → y.testBit c = true
theorem sub_eq {x y : Nat} (hx : x < 2 ^ 36) (hy : y < 2 ^ 36) (h : sub36 x y) (h2 : sub36 y x) : x = y := set_ext hx hy (fun c hc => by
  cases e : x.testBit c with
  | true => exact (h c hc e).symm
  | false =>
    cases e2 : y.testBit c with
    | false => rfl
    | true => rw [h2 c hc e2] at e; cases e)
theorem cntN_mono {P Q : Nat → Bool} (h : ∀ c, P c = true → Q c = true) : ∀ n, cntN P n ≤ cntN Q n := by
  intro n
  induction n with
  | zero => exact Nat.le_refl _
  | succ n ih =>
    show cntN P n + (if P n = true then 1 else 0) ≤ cntN Q n + (if Q n = true then 1 else 0)
    by_cases e : P n = true
    · rw [if_pos e, if_pos (h n e)]; omega
    · rw [if_neg e]; omega
theorem cntN_lt {P Q : Nat → Bool} (h : ∀ c, P c = true → Q c = true) {d : Nat} (hd : Q d = true) (hd2 : ¬ P d = true) : ∀ n, d < n → cntN P n < cntN Q n := by
  intro n
  induction n with
  | zero => intro hn; omega
  | succ n ih =>
    intro hn
    show cntN P n + (if P n = true then 1 else 0) < cntN Q n + (if Q n = true then 1 else 0)
    by_cases e : d = n
    · subst e
      rw [if_neg hd2, if_pos hd]
      have := cntN_mono h d
      omega
    · have := ih (by omega)
      by_cases e2 : P n = true
      · rw [if_pos e2, if_pos (h n e2)]; omega
      · rw [if_neg e2]; omega
def card (x : Nat) : Nat := cntN (fun c => x.testBit c) 36
theorem card_le (x : Nat) : card x ≤ 36 := cntN_le 36
theorem card_lt {x y : Nat} (hx : x < 2 ^ 36) (hy : y < 2 ^ 36) (h : sub36 x y) (hne : ¬ x = y) : card x < card y := by
  have : ∃ d, d < 36 ∧ y.testBit d = true ∧ ¬ x.testBit d = true := by
    refine Decidable.byContradiction fun q => hne (sub_eq hx hy h (fun c hc hb => ?_))
    refine Decidable.byContradiction fun q2 => q ⟨c, hc, hb, q2⟩
  obtain ⟨d, hd, h1, h2⟩ := this
  refine cntN_lt (fun c hc => ?_) h1 h2 36 hd
  by_cases q : c < 36
  · exact h c q hc
  · rw [hi0 hx (by omega)] at hc; cases hc
/-! growing by the cells beside -/
def mLC : Nat := 18446744038804420575
def mFC : Nat := 18446744072618766270
def grN (x : Nat) : Nat := ((x ||| ((x &&& mLC) * 2 ||| (x &&& mFC) / 2)) ||| x * 64) ||| x / 64
theorem grown_ev {x : Nat} (M : Mem) (hx : x < 2 ^ 36) : fX10_grown (lN x) M = some (lN (grN x), M) := by
  have a1 : x &&& mLC ≤ x := Nat.and_le_left
  have a2 : x &&& mFC ≤ x := Nat.and_le_left
  have d1 : (x &&& mFC) / 2 ≤ x &&& mFC := Nat.div_le_self _ _
  have d2 : x / 64 ≤ x := Nat.div_le_self _ _
  have o1 : ((x &&& mLC) * 2 ||| (x &&& mFC) / 2) < 2 ^ 43 := Nat.or_lt_two_pow (by omega) (by omega)
  have o2 : (x ||| ((x &&& mLC) * 2 ||| (x &&& mFC) / 2)) < 2 ^ 43 := Nat.or_lt_two_pow (by omega) o1
  have o3 : ((x ||| ((x &&& mLC) * 2 ||| (x &&& mFC) / 2)) ||| x * 64) < 2 ^ 43 := Nat.or_lt_two_pow o2 (by omega)
  unfold fX10_grown
  show some ((((lN x) ||| ((lshl (lN x &&& (-34905131041)) 1) ||| (lushr (lN x &&& (-1090785346)) 1))) ||| (lshl (lN x) 6)) ||| (lushr (lN x) 6), M) = _
  rw [show (-34905131041 : Int64) = lN mLC by decide, show (-1090785346 : Int64) = lN mFC by decide, b_and hx (by decide), b_and hx (by decide), show lshl (lN (x &&& mLC)) 1 = lN ((x &&& mLC) * 2 ^ 1) from b_shl (k := 1) _ (by decide), show lushr (lN (x &&& mFC)) 1 = lN ((x &&& mFC) / 2 ^ 1) from b_ushr (k := 1) (by omega) (by decide), show lshl (lN x) 6 = lN (x * 2 ^ 6) from b_shl (k := 6) _ (by decide), show lushr (lN x) 6 = lN (x / 2 ^ 6) from b_ushr (k := 6) (by omega) (by decide)]
  rw [show (2 : Nat) ^ 1 = 2 from rfl, show (2 : Nat) ^ 6 = 64 from rfl, wb_or (by omega) (by omega), wb_or (by omega) (by omega), wb_or (by omega) (by omega), wb_or (by omega) (by omega)]
  rfl
def nbA (X : Nat → Bool) (c : Nat) : Bool := (decide (c % 6 < 5) && X (c + 1)) || (decide (0 < c % 6) && X (c - 1)) || (decide (c < 30) && X (c + 6)) || (decide (6 ≤ c) && X (c - 6))
theorem mLC_tab : ∀ c, c < 36 → 1 ≤ c → mLC.testBit (c - 1) = decide (0 < c % 6) := by decide +kernel
theorem mFC_tab : ∀ c, c < 35 → mFC.testBit (c + 1) = decide (c % 6 < 5) := by decide +kernel
theorem grN_bit {x c : Nat} (hx : x < 2 ^ 36) (hc : c < 36) : (grN x).testBit c = (x.testBit c || nbA (fun i => x.testBit i) c) := by
  unfold grN nbA
  rw [Nat.testBit_or, Nat.testBit_or, Nat.testBit_or, Nat.testBit_or, show (x &&& mLC) * 2 = (x &&& mLC) * 2 ^ 1 from rfl, show x * 64 = x * 2 ^ 6 from rfl, Nat.testBit_mul_two_pow, Nat.testBit_mul_two_pow, show (x &&& mFC) / 2 = (x &&& mFC) / 2 ^ 1 from rfl, show x / 64 = x / 2 ^ 6 from rfl, Nat.testBit_div_two_pow, Nat.testBit_div_two_pow, Nat.testBit_and, Nat.testBit_and]
  have e1 : (decide (1 ≤ c) && (x.testBit (c - 1) && mLC.testBit (c - 1))) = (decide (0 < c % 6) && x.testBit (c - 1)) := by
    by_cases h : 1 ≤ c
    · rw [mLC_tab c hc h]
      cases x.testBit (c - 1) <;> simp [h]
    · have : c = 0 := by omega
      subst this
      simp
  have e2 : (x.testBit (c + 1) && mFC.testBit (c + 1)) = (decide (c % 6 < 5) && x.testBit (c + 1)) := by
    by_cases h : c < 35
    · rw [mFC_tab c h]
      exact Bool.and_comm _ _
    · rw [hi0 hx (show 36 ≤ c + 1 by omega)]
      simp
  have e3 : x.testBit (c + 6) = (decide (c < 30) && x.testBit (c + 6)) := by
    by_cases h : c < 30
    · simp [h]
    · rw [hi0 hx (show 36 ≤ c + 6 by omega)]
      simp
  rw [e1, e2, e3]
  cases x.testBit c <;> cases (decide (0 < c % 6) && x.testBit (c - 1)) <;> cases (decide (c % 6 < 5) && x.testBit (c + 1)) <;> cases (decide (6 ≤ c) && x.testBit (c - 6)) <;> cases (decide (c < 30) && x.testBit (c + 6)) <;> rfl
theorem nbA_iff {X : Nat → Bool} {c : Nat} (hc : c < 36) : nbA X c = true ↔ ∃ y, y < 36 ∧ apN y c = 1 ∧ X y = true := by
  unfold nbA
  simp only [Bool.or_eq_true, Bool.and_eq_true, decide_eq_true_eq]
  constructor
  · have key : ∀ d y, d < 4 → nbN c d = some y → X y = true → ∃ y, y < 36 ∧ apN y c = 1 ∧ X y = true := fun d y hd h hX => by
      have hy := (nb_facts hc hd h).1
      exact ⟨y, hy, ((nb_ex c hc y hy).1).mpr ⟨d, hd, h⟩, hX⟩
    rintro (((h | h) | h) | h)
    · exact key 0 (c + 1) (by omega) (by show (if c % 6 < 5 then some (c + 1) else none) = _; rw [if_pos h.1]) h.2
    · exact key 1 (c - 1) (by omega) (by show (if 0 < c % 6 then some (c - 1) else none) = _; rw [if_pos h.1]) h.2
    · exact key 2 (c + 6) (by omega) (by show (if c < 30 then some (c + 6) else none) = _; rw [if_pos h.1]) h.2
    · exact key 3 (c - 6) (by omega) (by show (if 6 ≤ c then some (c - 6) else none) = _; rw [if_pos h.1]) h.2
  · rintro ⟨y, hy, h1, h2⟩
    obtain ⟨d, hd, hn⟩ := ((nb_ex c hc y hy).1).mp h1
    match d, hd with
    | 0, _ =>
      have hn' : (if c % 6 < 5 then some (c + 1) else none) = some y := hn
      by_cases q : c % 6 < 5
      · rw [if_pos q] at hn'; cases hn'; exact Or.inl (Or.inl (Or.inl ⟨q, h2⟩))
      · rw [if_neg q] at hn'; cases hn'
    | 1, _ =>
      have hn' : (if 0 < c % 6 then some (c - 1) else none) = some y := hn
      by_cases q : 0 < c % 6
      · rw [if_pos q] at hn'; cases hn'; exact Or.inl (Or.inl (Or.inr ⟨q, h2⟩))
      · rw [if_neg q] at hn'; cases hn'
    | 2, _ =>
      have hn' : (if c < 30 then some (c + 6) else none) = some y := hn
      by_cases q : c < 30
      · rw [if_pos q] at hn'; cases hn'; exact Or.inl (Or.inr ⟨q, h2⟩)
      · rw [if_neg q] at hn'; cases hn'
    | 3, _ =>
      have hn' : (if 6 ≤ c then some (c - 6) else none) = some y := hn
      by_cases q : 6 ≤ c
      · rw [if_pos q] at hn'; cases hn'; exact Or.inr ⟨q, h2⟩
      · rw [if_neg q] at hn'; cases hn'
    | d + 4, h => omega
end WB
