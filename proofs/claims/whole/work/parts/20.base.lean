/-! LEVEL 2: both sides on one memory; what a run comes to, loops, frames -/
section L2
def Ev {α : Type} (a : Option (α × Mem)) (P : α → Mem → Prop) : Prop := ∃ r M, a = some (r, M) ∧ P r M
theorem Ev.ret {α : Type} {r : α} {M : Mem} {P : α → Mem → Prop} (h : P r M) : Ev (some (r, M)) P := ⟨r, M, rfl, h⟩
theorem Ev.bind {α β : Type} {a : Option (α × Mem)} {F : α → Mem → Option (β × Mem)} {P : α → Mem → Prop} {Q : β → Mem → Prop} (h : Ev a P) (k : ∀ r M, P r M → Ev (F r M) Q) : Ev (ob a F) Q := by
  obtain ⟨r, M, rfl, hP⟩ := h
  exact k r M hP
theorem Ev.gd {α : Type} {b : Bool} {f : Option (α × Mem)} {Q : α → Mem → Prop} (hb : b = true) (h : Ev f Q) : Ev (gd b f) Q := by
  subst hb
  exact h
theorem Ev.mono {α : Type} {a : Option (α × Mem)} {P Q : α → Mem → Prop} (h : Ev a P) (k : ∀ r M, P r M → Q r M) : Ev a Q := by
  obtain ⟨r, M, e, hP⟩ := h
  exact ⟨r, M, e, k r M hP⟩
theorem Ev.ite {α : Type} {c : Prop} [Decidable c] {a b : Option (α × Mem)} {Q : α → Mem → Prop} (ht : c → Ev a Q) (hf : ¬ c → Ev b Q) : Ev (if c then a else b) Q := by
  by_cases h : c
  · rw [if_pos h]; exact ht h
  · rw [if_neg h]; exact hf h
theorem Ev.loop {β σ : Type} {Q : β → Mem → Prop} {f : Nat → σ → Mem → Option (β × Mem)} {B : (σ → Mem → Option (β × Mem)) → σ → Mem → Option (β × Mem)} (hf : ∀ n x M, f (n + 1) x M = B (f n) x M) (N : Nat) (I : Nat → σ → Mem → Prop)
    (step : ∀ k j x M, j < N → I j x M → (∀ x' M', I (j + 1) x' M' → Ev (k x' M') Q) → Ev (B k x M) Q) (fin : ∀ k x M, I N x M → Ev (B k x M) Q) : ∀ n j x M, j ≤ N → N < n + j → I j x M → Ev (f n x M) Q := by
  intro n
  induction n with
  | zero => intro j x M h1 h2 _; omega
  | succ n ih =>
    intro j x M h1 h2 h3
    rw [hf]
    by_cases e : j = N
    · subst e
      exact fin _ _ _ h3
    · exact step _ j x M (by omega) h3 (fun x' M' h => ih (j + 1) x' M' (by omega) (by omega) h)
/-- off the places S nothing is changed -/
def Off (S : Nat → Nat → Prop) (M M' : Mem) : Prop := ∀ K i, ¬ S K i → M' K i = M K i
theorem Off.rf {S : Nat → Nat → Prop} {M : Mem} : Off S M M := fun _ _ _ => rfl
theorem Off.tr {S : Nat → Nat → Prop} {M M1 M2 : Mem} (h : Off S M M1) (h2 : Off S M1 M2) : Off S M M2 := fun K i hn => (h2 K i hn).trans (h K i hn)
theorem Off.mono {S S' : Nat → Nat → Prop} {M M1 : Mem} (h : Off S M M1) (hs : ∀ K i, S K i → S' K i) : Off S' M M1 := fun K i hn => h K i (fun q => hn (hs K i q))
theorem Off.mst {S : Nat → Nat → Prop} {M M0 : Mem} {K i s : Nat} {v : Int32} (h : Off S M0 M) (hs : S K i) : Off S M0 (mst M K i s v) := fun K' i' hn => (mrow_n (fun e => hn (by rw [e.1, e.2]; exact hs))).trans (h K' i' hn)
theorem Off.mrow {S : Nat → Nat → Prop} {M M0 : Mem} {K i : Nat} {f : Nat → Int32} (h : Off S M0 M) (hs : S K i) : Off S M0 (mrow M K i f) := fun K' i' hn => (mrow_n (fun e => hn (by rw [e.1, e.2]; exact hs))).trans (h K' i' hn)
theorem mst_s {M : Mem} {K i s : Nat} {v : Int32} : mst M K i s v K i = upd (M K i) s v := mrow_s
theorem mst_n {M : Mem} {K i s K' i' : Nat} {v : Int32} (h : ¬ (K' = K ∧ i' = i)) : mst M K i s v K' i' = M K' i' := mrow_n h
theorem inb_nI {j n : Nat} (h : j < n) (hn : n < 2 ^ 31) : inb (nI j) n = true := by
  simp only [inb, Bool.and_eq_true, decide_eq_true_eq]
  exact ⟨nI_pos' (by omega), by rw [nI_clamp (by omega)]; exact h⟩
theorem inb_of {i : Int32} {n : Nat} (h0 : 0 ≤ i.toInt) (h : i.toInt < n) : inb i n = true := by
  simp only [inb, Bool.and_eq_true, decide_eq_true_eq]
  refine ⟨Int32.le_iff_toInt_le.mpr (by simpa using h0), ?_⟩
  show i.toInt.toNat < n
  omega
theorem nI_ex {i : Int32} (h : 0 ≤ i.toInt) : i = nI i.toNatClampNeg := by
  have h1 : i.toInt < 2 ^ 31 := Int32.toInt_lt i
  apply Int32.toInt_inj.mp
  rw [nI_toInt (by show i.toInt.toNat < 2 ^ 31; omega)]
  show i.toInt = ((i.toInt.toNat : Nat) : Int)
  omega
theorem irem_nI : ∀ c, c < 36 → irem (nI c) 6 = nI (c % 6) := by decide +kernel
theorem idiv_nI : ∀ c, c < 36 → nI c / 6 = nI (c / 6) := by decide +kernel
def bt (b : Bool) : Int32 := if b then 1 else 0
theorem within_ev (M : Mem) (v lo hi : Int32) : fX10_within v lo hi M = some (bt (decide (lo ≤ v) && decide (v ≤ hi)), M) := by
  unfold fX10_within
  by_cases h1 : v < lo
  · have : ¬ lo ≤ v := Int32.not_le.mpr h1
    simp [h1, this, bt]
  · by_cases h2 : hi < v
    · have : ¬ v ≤ hi := Int32.not_le.mpr h2
      simp [h1, h2, this, bt]
    · have h3 : lo ≤ v := Int32.not_lt.mp h1
      have h4 : v ≤ hi := Int32.not_lt.mp h2
      simp [h1, h2, h3, h4, bt]
theorem in_ev (M : Mem) (v lo hi : Int32) : fX11_in v lo hi M = some (bt (decide (lo ≤ v) && decide (v ≤ hi)), M) := by
  unfold fX11_in
  by_cases h1 : v < lo
  · have : ¬ lo ≤ v := Int32.not_le.mpr h1
    simp [h1, this, bt]
  · by_cases h2 : hi < v
    · have : ¬ v ≤ hi := Int32.not_le.mpr h2
      simp [h1, h2, this, bt]
    · have h3 : lo ≤ v := Int32.not_lt.mp h1
      have h4 : v ≤ hi := Int32.not_lt.mp h2
      simp [h1, h2, h3, h4, bt]
theorem bt_0 {b : Bool} : bt b = 0 ↔ b = false := by cases b <;> decide
theorem isB_bt (b : Bool) : isB (bt b) = true := by cases b <;> decide
/-! the worth of an E: steps on a stack -/
def op1 (w a : Int32) : Int32 := if w = -10 then -a else if a = 0 then 1 else 0
def op2 (w a b : Int32) : Int32 := if w = -7 then bt (!(a == 0) || !(b == 0)) else if w = -8 then bt (!(a == 0) && !(b == 0)) else if w = -43 then a + b else if w = -45 then a - b else if w = -60 then bt (decide (a < b)) else if w = -61 then bt (a == b) else a * b
def stX (nm : Nat → Int32) (w : Int32) (st : List Int32) : List Int32 :=
  if w < -6 then
    if w = -9 ∨ w = -10 then
      match st with
      | a :: r => op1 w a :: r
      | [] => []
    else
      match st with
      | b :: a :: r => op2 w a b :: r
      | s => s
  else if 31 ≤ st.length then st
  else if w < 0 then nm ((-1) - w).toNatClampNeg :: st else w :: st
def evX (cd nm : Nat → Int32) : Nat → Nat → List Int32 → List Int32
  | 0, _, st => st
  | n + 1, i, st => evX cd nm n (i + 1) (stX nm (cd i) st)
def topW (st : List Int32) : Int32 := match st with
  | a :: _ => a
  | [] => 0
def clipP (part : Nat) (v : Int32) : Int32 := mmax (if part = 0 then -99 else 0) (mmin 99 v)
theorem stX_len {nm : Nat → Int32} {w : Int32} {st : List Int32} (h : st.length ≤ 31) : (stX nm w st).length ≤ 31 := by
  unfold stX
  split
  · split
    · cases st with
      | nil => exact h
      | cons a r => exact h
    · match st, h with
      | [], h => exact h
      | [a], h => exact h
      | b :: a :: r, h => simp at h ⊢; omega
  · split
    · exact h
    · split <;> simp <;> omega
theorem ofTwo_ev (M : Mem) (w a b : Int32) : fX8_ofTwo w a b M = some (op2 w a b, M) := by
  have e : ∀ z : Int32, (-w = z) ↔ (w = -z) := fun z => ⟨fun h => by rw [← h]; simp, fun h => by rw [h]; simp⟩
  unfold fX8_ofTwo op2
  simp only [e]
  by_cases h1 : w = -7
  · subst h1
    by_cases ha : a = 0 <;> by_cases hb : b = 0 <;> simp [ha, hb, bt]
  · by_cases h2 : w = -8
    · subst h2
      by_cases ha : a = 0 <;> by_cases hb : b = 0 <;> simp [ha, hb, bt]
    · by_cases h3 : w = -43
      · simp [h3]
      · by_cases h4 : w = -45
        · simp [h4]
        · by_cases h5 : w = -60
          · by_cases h : a < b
            · have : ¬ b ≤ a := Int32.not_le.mpr h
              simp [h5, h, this, bt]
            · have : b ≤ a := Int32.not_lt.mp h
              simp [h5, h, this, bt]
          · by_cases h6 : w = -61
            · by_cases h : a = b <;> simp [h6, h, bt]
            · simp [h1, h2, h3, h4, h5, h6]
theorem ofOne_ev (M : Mem) (w a : Int32) : fX8_ofOne w a M = some (op1 w a, M) := by
  unfold fX8_ofOne op1
  by_cases h : w = -10
  · simp [h]
  · by_cases ha : a = 0 <;> simp [h, ha]
end L2
