/-! the lexer, pure -/
section LX
def lLet (z : Int32) : Bool := decide (97 ≤ z) && decide (z ≤ 122)
def lDig (z : Int32) : Bool := decide (48 ≤ z) && decide (z ≤ 57)
def lBlk (z : Int32) : Bool := decide (z = 32) || decide (z = 10)
def scn (P : Int32 → Bool) (b : Nat → Int32) (n : Nat) : Nat → Nat → Nat
  | 0, j => j
  | f + 1, j => if j < n ∧ P (b j) = true then scn P b n f (j + 1) else j
theorem scn_fact (P : Int32 → Bool) (b : Nat → Int32) (n : Nat) : ∀ f j, j ≤ n → n ≤ j + f → j ≤ scn P b n f j ∧ scn P b n f j ≤ n ∧ (∀ x, j ≤ x → x < scn P b n f j → P (b x) = true) ∧ (scn P b n f j < n → P (b (scn P b n f j)) = false) := by
  intro f
  induction f with
  | zero =>
    intro j h1 h2
    show j ≤ j ∧ j ≤ n ∧ (∀ x, j ≤ x → x < j → P (b x) = true) ∧ (j < n → P (b j) = false)
    exact ⟨Nat.le_refl _, h1, fun x a c => by omega, fun q => by omega⟩
  | succ f ih =>
    intro j h1 h2
    by_cases h : j < n ∧ P (b j) = true
    · have e : scn P b n (f + 1) j = scn P b n f (j + 1) := if_pos h
      rw [e]
      obtain ⟨a1, a2, a3, a4⟩ := ih (j + 1) (by omega) (by omega)
      refine ⟨by omega, a2, fun x h3 h4 => ?_, a4⟩
      by_cases q : x = j
      · rw [q]; exact h.2
      · exact a3 x (by omega) h4
    · have e : scn P b n (f + 1) j = j := if_neg h
      rw [e]
      refine ⟨Nat.le_refl _, h1, fun x a c => by omega, fun q => ?_⟩
      cases hp : P (b j) with
      | false => rfl
      | true => exact absurd ⟨q, hp⟩ h
def scE (P : Int32 → Bool) (b : Nat → Int32) (n j : Nat) : Nat := scn P b n (n - j) j
theorem scE_fact (P : Int32 → Bool) (b : Nat → Int32) {n j : Nat} (h : j ≤ n) : j ≤ scE P b n j ∧ scE P b n j ≤ n ∧ (∀ x, j ≤ x → x < scE P b n j → P (b x) = true) ∧ (scE P b n j < n → P (b (scE P b n j)) = false) := scn_fact P b n (n - j) j h (by omega)
theorem scE_lt {P : Int32 → Bool} {b : Nat → Int32} {n j : Nat} (h : j < n) (hp : P (b j) = true) : j < scE P b n j := by
  obtain ⟨a1, a2, a3, a4⟩ := scE_fact P b (Nat.le_of_lt h)
  rcases Nat.lt_or_eq_of_le a1 with q | q
  · exact q
  · rw [← q] at a4
    rw [hp] at a4
    exact absurd (a4 h) (by decide)
def tbW (v x : Nat) : Int32 := tbWords.getD (8 * v + x) 0
def wmA (b : Nat → Int32) (s e v : Nat) : Nat → Bool
  | 0 => true
  | x + 1 => wmA b s e v x && decide (tbW v x = (if s + x < e then b (s + x) else 32))
def wm (b : Nat → Int32) (s e v : Nat) : Bool := decide (e ≤ s + 8) && wmA b s e v 8
theorem wmA_iff (b : Nat → Int32) (s e v : Nat) : ∀ m, wmA b s e v m = true ↔ ∀ x, x < m → tbW v x = (if s + x < e then b (s + x) else 32) := by
  intro m
  induction m with
  | zero => exact ⟨fun _ x hx => absurd hx (Nat.not_lt_zero x), fun _ => rfl⟩
  | succ m ih =>
    show (wmA b s e v m && decide (tbW v m = (if s + m < e then b (s + m) else 32))) = true ↔ _
    rw [Bool.and_eq_true, decide_eq_true_eq, ih]
    constructor
    · rintro ⟨h1, h2⟩ x hx
      by_cases q : x = m
      · rw [q]; exact h2
      · exact h1 x (by omega)
    · intro h
      exact ⟨fun x hx => h x (by omega), h m (Nat.lt_succ_self m)⟩
theorem wm_iff (b : Nat → Int32) (s e v : Nat) : wm b s e v = true ↔ e ≤ s + 8 ∧ ∀ x, x < 8 → tbW v x = (if s + x < e then b (s + x) else 32) := by
  unfold wm
  rw [Bool.and_eq_true, decide_eq_true_eq, wmA_iff]
def fsN (P : Nat → Bool) : Nat → Nat → Nat
  | 0, v => v
  | f + 1, v => if P v = true then v else fsN P f (v + 1)
def wdN (b : Nat → Int32) (s e : Nat) : Nat := fsN (wm b s e) 12 0
theorem fsN_fact (P : Nat → Bool) : ∀ f v, v ≤ fsN P f v ∧ fsN P f v ≤ v + f ∧ (∀ x, v ≤ x → x < fsN P f v → P x = false) ∧ (fsN P f v < v + f → P (fsN P f v) = true) := by
  intro f
  induction f with
  | zero =>
    intro v
    exact ⟨Nat.le_refl _, Nat.le_refl _, fun x a c => by have : x < v := c; omega, fun q => absurd q (Nat.lt_irrefl _)⟩
  | succ f ih =>
    intro v
    by_cases h : P v = true
    · have e : fsN P (f + 1) v = v := if_pos h
      rw [e]
      exact ⟨Nat.le_refl _, by omega, fun x a c => by omega, fun _ => h⟩
    · have e : fsN P (f + 1) v = fsN P f (v + 1) := if_neg h
      rw [e]
      obtain ⟨a1, a2, a3, a4⟩ := ih (v + 1)
      refine ⟨by omega, by omega, fun x h3 h4 => ?_, fun q => a4 (by omega)⟩
      by_cases q : x = v
      · rw [q]; simpa using h
      · exact a3 x (by omega) h4
theorem tbW_ne : ∀ v, v < 12 → ∀ u, u < 12 → (∀ x, x < 8 → tbW v x = tbW u x) → v = u := by decide +kernel
theorem wm_uniq {b : Nat → Int32} {s e v u : Nat} (hv : v < 12) (hu : u < 12) (h : wm b s e v = true) (h2 : wm b s e u = true) : v = u := by
  have h := (wm_iff b s e v).mp h
  have h2 := (wm_iff b s e u).mp h2
  exact tbW_ne v hv u hu (fun x hx => (h.2 x hx).trans (h2.2 x hx).symm)
theorem wdN_is {b : Nat → Int32} {s e v : Nat} (hv : v < 12) (h : wm b s e v = true) : wdN b s e = v := by
  obtain ⟨a1, a2, a3, a4⟩ := fsN_fact (wm b s e) 12 0
  show fsN (wm b s e) 12 0 = v
  have a4 : fsN (wm b s e) 12 0 < 12 → _ := fun q => a4 (by omega)
  by_cases q : fsN (wm b s e) 12 0 < 12
  · exact wm_uniq q hv (a4 q) h
  · have := a3 v (by omega) (by omega)
    rw [h] at this
    cases this
theorem wdN_no {b : Nat → Int32} {s e : Nat} (h : ∀ v, v < 12 → wm b s e v = false) : wdN b s e = 12 := by
  obtain ⟨a1, a2, a3, a4⟩ := fsN_fact (wm b s e) 12 0
  show fsN (wm b s e) 12 0 = 12
  by_cases q : fsN (wm b s e) 12 0 < 12
  · have := a4 (by omega)
    rw [h _ q] at this
    cases this
  · omega
theorem wdN_12 (b : Nat → Int32) (s e : Nat) : wdN b s e ≤ 12 := (fsN_fact (wm b s e) 12 0).2.1
def wdK (r : Nat) : Nat × Nat := if r < 3 then (4, r) else if r < 9 then (3, r - 3) else if r < 12 then (r - 4, 0) else (1, 0)
def sgK (z : Int32) : Nat := if z = 40 then 8 else if z = 41 then 9 else if z = 42 then 13 else if z = 43 then 11 else if z = 45 then 12 else if z = 59 then 10 else if z = 60 then 14 else if z = 61 then 15 else 1
def dgN (z : Int32) : Nat := z.toNatClampNeg - 48
def numV (b : Nat → Int32) (s : Nat) : Nat → Nat
  | 0 => 0
  | m + 1 => 10 * numV b s m + dgN (b (s + m))
def lexT (b : Nat → Int32) (n s : Nat) : (Nat × Nat) × Nat :=
  if s < n then
    if lLet (b s) = true then (wdK (wdN b s (scE lLet b n s)), scE lLet b n s)
    else if lDig (b s) = true then (if scE lDig b n s - s ≤ 4 then (2, numV b s (scE lDig b n s - s)) else (1, 0), scE lDig b n s)
    else ((sgK (b s), 0), s + 1)
  else ((0, 0), n)
def posT (b : Nat → Int32) (n : Nat) : Nat → Nat
  | 0 => 0
  | i + 1 => (lexT b n (scE lBlk b n (posT b n i))).2
def stT (b : Nat → Int32) (n i : Nat) : Nat := scE lBlk b n (posT b n i)
def nxT (b : Nat → Int32) (n i : Nat) : Nat := posT b n (i + 1)
def tkT (b : Nat → Int32) (n i : Nat) : Nat × Nat := (lexT b n (stT b n i)).1
theorem psN_T (b : Nat → Int32) (n i : Nat) : psN (nxT b n) i = posT b n i := by
  cases i <;> rfl
theorem wdK_ok : ∀ r, r ≤ 12 → kOK (wdK r) ∧ (wdK r).1 ≠ 0 := by
  have : ∀ r, r < 13 → ((wdK r).1 < 16 ∧ ((wdK r).1 = 4 → (wdK r).2 < 3) ∧ ((wdK r).1 = 2 → (wdK r).2 < 10000) ∧ ((wdK r).1 = 3 → (wdK r).2 < 6)) ∧ ¬ (wdK r).1 = 0 := by decide +kernel
  exact fun r hr => this r (by omega)
theorem sgK_ok (z : Int32) : sgK z < 16 ∧ sgK z ≠ 4 ∧ sgK z ≠ 2 ∧ sgK z ≠ 3 ∧ sgK z ≠ 0 := by
  unfold sgK
  repeat' split
  all_goals decide
theorem lDig_d {z : Int32} (h : lDig z = true) : dgN z < 10 ∧ z = nI (48 + dgN z) := by
  unfold lDig at h
  rw [Bool.and_eq_true, decide_eq_true_eq, decide_eq_true_eq, Int32.le_iff_toInt_le, Int32.le_iff_toInt_le] at h
  have e1 : (48 : Int32).toInt = 48 := by decide
  have e2 : (57 : Int32).toInt = 57 := by decide
  rw [e1, e2] at h
  have e := nI_ex (i := z) (by omega)
  have e3 : z.toNatClampNeg = z.toInt.toNat := rfl
  have e4 : dgN z = z.toNatClampNeg - 48 := rfl
  refine ⟨by omega, ?_⟩
  rw [show 48 + dgN z = z.toNatClampNeg by omega]
  exact e
theorem numV_lt (b : Nat → Int32) (s : Nat) : ∀ m, (∀ x, x < m → lDig (b (s + x)) = true) → numV b s m < 10 ^ m := by
  intro m
  induction m with
  | zero => intro _; exact Nat.zero_lt_one
  | succ m ih =>
    intro h
    have h1 := ih (fun x hx => h x (by omega))
    have h2 := (lDig_d (h m (Nat.lt_succ_self m))).1
    show 10 * numV b s m + dgN (b (s + m)) < 10 ^ (m + 1)
    rw [Nat.pow_succ]
    omega
theorem lexT_fact (b : Nat → Int32) {n s : Nat} (hs : s ≤ n) : kOK (lexT b n s).1 ∧ (lexT b n s).2 ≤ n ∧ ((s < n ∧ (lexT b n s).1.1 ≠ 0 ∧ s < (lexT b n s).2) ∨ (s = n ∧ (lexT b n s).1.1 = 0 ∧ (lexT b n s).2 = n)) := by
  unfold lexT
  by_cases h : s < n
  · rw [if_pos h]
    by_cases hl : lLet (b s) = true
    · rw [if_pos hl]
      have hw := wdK_ok _ (wdN_12 b s (scE lLet b n s))
      exact ⟨hw.1, (scE_fact lLet b hs).2.1, Or.inl ⟨h, hw.2, scE_lt h hl⟩⟩
    · rw [if_neg hl]
      by_cases hd : lDig (b s) = true
      · rw [if_pos hd]
        obtain ⟨a1, a2, a3, a4⟩ := scE_fact lDig b hs
        refine ⟨?_, a2, Or.inl ⟨h, ?_, scE_lt h hd⟩⟩
        · by_cases q : scE lDig b n s - s ≤ 4
          · rw [if_pos q]
            have h1 := numV_lt b s (scE lDig b n s - s) (fun x hx => a3 (s + x) (by omega) (by omega))
            have h2 : 10 ^ (scE lDig b n s - s) ≤ 10 ^ 4 := Nat.pow_le_pow_right (by omega) q
            have h3 : numV b s (scE lDig b n s - s) < 10000 := by omega
            exact ⟨by show 2 < 16; decide, fun z => absurd z (by show ¬ 2 = 4; decide), fun _ => h3, fun z => absurd z (by show ¬ 2 = 3; decide)⟩
          · rw [if_neg q]
            exact ⟨by show 1 < 16; decide, fun z => absurd z (by show ¬ 1 = 4; decide), fun z => absurd z (by show ¬ 1 = 2; decide), fun z => absurd z (by show ¬ 1 = 3; decide)⟩
        · by_cases q : scE lDig b n s - s ≤ 4
          · rw [if_pos q]; show ¬ 2 = 0; decide
          · rw [if_neg q]; show ¬ 1 = 0; decide
      · rw [if_neg hd]
        obtain ⟨k1, k2, k3, k4, k5⟩ := sgK_ok (b s)
        exact ⟨⟨k1, fun z => absurd z k2, fun z => absurd z k3, fun z => absurd z k4⟩, by show s + 1 ≤ n; omega, Or.inl ⟨h, k5, Nat.lt_succ_self s⟩⟩
  · rw [if_neg h]
    exact ⟨⟨by show 0 < 16; decide, fun z => absurd z (by show ¬ 0 = 4; decide), fun z => absurd z (by show ¬ 0 = 2; decide), fun z => absurd z (by show ¬ 0 = 3; decide)⟩, Nat.le_refl _, Or.inr ⟨by omega, rfl, rfl⟩⟩
theorem posT_fact (b : Nat → Int32) (n : Nat) : ∀ i, posT b n i ≤ n ∧ (i ≤ posT b n i ∨ posT b n i = n) := by
  intro i
  induction i with
  | zero => exact ⟨Nat.zero_le _, Or.inl (Nat.le_refl _)⟩
  | succ i ih =>
    obtain ⟨a1, a2, -, -⟩ := scE_fact lBlk b ih.1
    obtain ⟨-, b2, b3⟩ := lexT_fact b a2
    refine ⟨b2, ?_⟩
    show _ ≤ (lexT b n _).2 ∨ (lexT b n _).2 = n
    rcases b3 with ⟨c1, c2, c3⟩ | ⟨c1, c2, c3⟩
    · left; rcases ih.2 with q | q <;> omega
    · right; exact c3
theorem tkT_ok (b : Nat → Int32) (n i : Nat) : kOK (tkT b n i) := (lexT_fact b (scE_fact lBlk b (posT_fact b n i).1).2.1).1
theorem tkT_160 (b : Nat → Int32) {n : Nat} (hn : n ≤ 160) (i : Nat) (h : (tkT b n i).1 ≠ 0) : i < 160 := by
  obtain ⟨p1, p2⟩ := posT_fact b n i
  obtain ⟨a1, a2, -, -⟩ := scE_fact lBlk b p1
  rcases (lexT_fact b a2).2.2 with ⟨c1, c2, c3⟩ | ⟨c1, c2, c3⟩
  · rcases p2 with q | q <;> omega
  · exact absurd c2 h
end LX
