/-! the reference's reading of an E, as a machine over tokens -/
section SY
abbrev Tk : Type := Nat → Nat × Nat
def rkN (s : Nat) : Nat := if s = 0 then 0 else if s = 11 then 1 else if s = 12 then 2 else if s = 13 then 3 else if s ≤ 15 then 4 else if s ≤ 17 then 5 else if s = 18 then 6 else 7
def unw (t : Nat) : List Nat → Nat → List Nat → List Nat × Nat × List Nat
  | [], o, w => ([], o, w)
  | s :: r, o, w => if t ≤ rkN s then unw t r (if s = 13 ∨ s = 19 then o - 1 else o) (w ++ [s]) else (s :: r, o, w)
def nn : List Nat → Nat
  | [] => 0
  | s :: r => nn r + (if s = 13 ∨ s = 19 then 1 else 0)
def lwSt (t : Nat) : List Nat → Prop
  | [] => True
  | s :: _ => rkN s < t
theorem lwSt.le {t t' : Nat} {S : List Nat} (h : lwSt t S) (ht : t ≤ t') : lwSt t' S := by
  cases S with
  | nil => exact trivial
  | cons s r => exact Nat.lt_of_lt_of_le h ht
theorem unw_low {t : Nat} {S : List Nat} {o : Nat} {w : List Nat} (h : lwSt t S) : unw t S o w = (S, o, w) := by
  cases S with
  | nil => rfl
  | cons s r =>
    show (if t ≤ rkN s then _ else (s :: r, o, w)) = _
    have : rkN s < t := h
    rw [if_neg (by omega)]
theorem nn_app (P Q : List Nat) : nn (P ++ Q) = nn P + nn Q := by
  induction P with
  | nil => show nn Q = 0 + nn Q; omega
  | cons s r ih =>
    show nn (r ++ Q) + _ = nn r + _ + nn Q
    rw [ih]
    omega
theorem unw_all {t : Nat} {S : List Nat} (hS : lwSt t S) : ∀ (P : List Nat) (o : Nat) (w : List Nat), (∀ s ∈ P, t ≤ rkN s) → unw t (P ++ S) (o + nn P) w = (S, o, w ++ P) := by
  intro P
  induction P with
  | nil =>
    intro o w _
    show unw t S (o + 0) w = (S, o, w ++ [])
    rw [unw_low hS, List.append_nil]
    rfl
  | cons s r ih =>
    intro o w h
    show (if t ≤ rkN s then unw t (r ++ S) (if s = 13 ∨ s = 19 then (o + (nn r + (if s = 13 ∨ s = 19 then 1 else 0))) - 1 else (o + (nn r + (if s = 13 ∨ s = 19 then 1 else 0)))) (w ++ [s]) else (s :: (r ++ S), _, w)) = _
    rw [if_pos (h s List.mem_cons_self)]
    have e : (if s = 13 ∨ s = 19 then (o + (nn r + (if s = 13 ∨ s = 19 then 1 else 0))) - 1 else (o + (nn r + (if s = 13 ∨ s = 19 then 1 else 0)))) = o + nn r := by
      by_cases q : s = 13 ∨ s = 19
      · rw [if_pos q, if_pos q]; omega
      · rw [if_neg q, if_neg q]; omega
    rw [e, ih o (w ++ [s]) (fun x hx => h x (List.mem_cons_of_mem _ hx)), List.append_assoc]
    rfl
/-- the sign between two of a kind of tokens; 0: none -/
def sgn (k : Nat) : Nat := if k = 5 then 11 else if k = 6 then 12 else if k = 14 then 14 else if k = 15 then 15 else if k = 11 then 16 else if k = 12 then 17 else if k = 13 then 18 else 0
abbrev MS : Type := Nat × List Nat × Nat × List Nat × Bool × Bool
abbrev MR : Type := Bool × Nat × List Nat
def syW (k v i : Nat) (S : List Nat) (o : Nat) (w : List Nat) (mN : Bool) : MS ⊕ MR :=
  if k = 2 ∨ k = 3 then .inl (i + 1, (unw 7 S o (w ++ [if k = 2 then 100000 + v else v])).1, (unw 7 S o (w ++ [if k = 2 then 100000 + v else v])).2.1, (unw 7 S o (w ++ [if k = 2 then 100000 + v else v])).2.2, false, mN)
  else if k = 7 ∧ mN = true then (if o = 5 then .inr (false, i, []) else .inl (i + 1, 13 :: S, o + 1, w, true, mN))
  else if k = 12 then (if o = 5 then .inr (false, i, []) else .inl (i + 1, 19 :: S, o + 1, w, true, false))
  else if k = 8 then (if o = 5 then .inr (false, i, []) else .inl (i + 1, 0 :: S, o + 1, w, true, true))
  else .inr (false, i, [])
def top4 (S : List Nat) : Bool := match S with
  | [] => false
  | s :: _ => rkN s == 4
def syB (g i : Nat) (u : List Nat × Nat × List Nat) : MS ⊕ MR := if rkN g = 4 ∧ top4 u.1 = true then .inr (false, i, []) else .inl (i + 1, g :: u.1, u.2.1, u.2.2, true, decide (g ≤ 12))
def syC (i : Nat) (mN : Bool) (u : List Nat × Nat × List Nat) : MS ⊕ MR := match u.1 with
  | [] => .inr (false, i, [])
  | _ :: r => .inl (i + 1, (unw 7 r (u.2.1 - 1) u.2.2).1, (unw 7 r (u.2.1 - 1) u.2.2).2.1, (unw 7 r (u.2.1 - 1) u.2.2).2.2, false, mN)
def syE (i : Nat) (u : List Nat × Nat × List Nat) : MS ⊕ MR := match u.1 with
  | [] => .inr (true, i, u.2.2)
  | _ :: _ => .inr (false, i, [])
def syO (k i : Nat) (S : List Nat) (o : Nat) (w : List Nat) (mN : Bool) : MS ⊕ MR :=
  if k = 10 then syE i (unw 1 S o w)
  else if k = 9 then syC i mN (unw 1 S o w)
  else if sgn k = 0 then .inr (false, i, [])
  else syB (sgn k) i (unw (if rkN (sgn k) = 4 then 5 else rkN (sgn k)) S o w)
def syS (tk : Tk) (x : MS) : MS ⊕ MR := if x.2.2.2.2.1 = true then syW (tk x.1).1 (tk x.1).2 x.1 x.2.1 x.2.2.1 x.2.2.2.1 x.2.2.2.2.2 else syO (tk x.1).1 x.1 x.2.1 x.2.2.1 x.2.2.2.1 x.2.2.2.2.2
def syN (tk : Tk) : Nat → MS → Option MR
  | 0, _ => none
  | n + 1, x => match syS tk x with
    | .inl y => syN tk n y
    | .inr r => some r
def SyTo (tk : Tk) (A B : MS) : Prop := A.1 ≤ B.1 ∧ ∀ n, syN tk (B.1 - A.1 + n) A = syN tk n B
def SyFl (tk : Tk) (A : MS) (e : Nat) : Prop := A.1 ≤ e ∧ ∀ n, syN tk (e - A.1 + 1 + n) A = some (false, e, [])
def SyOk (tk : Tk) (A : MS) (e : Nat) (w : List Nat) : Prop := A.1 ≤ e ∧ ∀ n, syN tk (e - A.1 + 1 + n) A = some (true, e, w)
theorem SyTo.rf {tk : Tk} {A : MS} : SyTo tk A A := ⟨Nat.le_refl _, fun n => by rw [Nat.sub_self, Nat.zero_add]⟩
theorem SyTo.tr {tk : Tk} {A B C : MS} (h : SyTo tk A B) (h2 : SyTo tk B C) : SyTo tk A C := by
  obtain ⟨a, b⟩ := h
  obtain ⟨c, d⟩ := h2
  refine ⟨Nat.le_trans a c, fun n => ?_⟩
  rw [← d n, ← b (C.1 - B.1 + n)]
  congr 1
  omega
theorem SyTo.fl {tk : Tk} {A B : MS} {e : Nat} (h : SyTo tk A B) (h2 : SyFl tk B e) : SyFl tk A e := by
  obtain ⟨a, b⟩ := h
  obtain ⟨c, d⟩ := h2
  refine ⟨Nat.le_trans a c, fun n => ?_⟩
  rw [← d n, ← b (e - B.1 + 1 + n)]
  congr 1
  omega
theorem SyTo.ok {tk : Tk} {A B : MS} {e : Nat} {w : List Nat} (h : SyTo tk A B) (h2 : SyOk tk B e w) : SyOk tk A e w := by
  obtain ⟨a, b⟩ := h
  obtain ⟨c, d⟩ := h2
  refine ⟨Nat.le_trans a c, fun n => ?_⟩
  rw [← d n, ← b (e - B.1 + 1 + n)]
  congr 1
  omega
theorem SyTo.one {tk : Tk} {A B : MS} (h : syS tk A = .inl B) (hi : B.1 = A.1 + 1) : SyTo tk A B := by
  refine ⟨by omega, fun n => ?_⟩
  rw [hi, show A.1 + 1 - A.1 + n = n + 1 by omega]
  show (match syS tk A with | .inl y => syN tk n y | .inr r => some r) = _
  rw [h]
theorem SyFl.one {tk : Tk} {A : MS} (h : syS tk A = .inr (false, A.1, [])) : SyFl tk A A.1 := by
  refine ⟨Nat.le_refl _, fun n => ?_⟩
  rw [show A.1 - A.1 + 1 + n = n + 1 by omega]
  show (match syS tk A with | .inl y => syN tk n y | .inr r => some r) = _
  rw [h]
theorem SyOk.one {tk : Tk} {A : MS} {w : List Nat} (h : syS tk A = .inr (true, A.1, w)) : SyOk tk A A.1 w := by
  refine ⟨Nat.le_refl _, fun n => ?_⟩
  rw [show A.1 - A.1 + 1 + n = n + 1 by omega]
  show (match syS tk A with | .inl y => syN tk n y | .inr r => some r) = _
  rw [h]
/-- a comparison waits on top, once all that binds more is unwound -/
def Blk (P : List Nat) : Prop := ∃ P1 s P2, P = P1 ++ s :: P2 ∧ (∀ x ∈ P1, 5 ≤ rkN x) ∧ rkN s = 4
theorem Blk.app {P : List Nat} (h : Blk P) (Q : List Nat) : Blk (P ++ Q) := by
  obtain ⟨P1, s, P2, rfl, h1, h2⟩ := h
  exact ⟨P1, s, P2 ++ Q, by rw [List.append_assoc]; rfl, h1, h2⟩
theorem unw_blk {S : List Nat} {s : Nat} (hs : rkN s = 4) : ∀ (P : List Nat) (o : Nat) (w : List Nat), (∀ x ∈ P, 5 ≤ rkN x) → ∃ o' w', unw 5 (P ++ s :: S) o w = (s :: S, o', w') := by
  intro P
  induction P with
  | nil =>
    intro o w _
    exact ⟨o, w, unw_low (show rkN s < 5 by omega)⟩
  | cons x r ih =>
    intro o w h
    obtain ⟨o', w', e⟩ := ih (if x = 13 ∨ x = 19 then o - 1 else o) (w ++ [x]) (fun y hy => h y (List.mem_cons_of_mem _ hy))
    refine ⟨o', w', ?_⟩
    show (if 5 ≤ rkN x then unw 5 (r ++ s :: S) (if x = 13 ∨ x = 19 then o - 1 else o) (w ++ [x]) else _) = _
    rw [if_pos (h x List.mem_cons_self), e]
theorem blk_fail {tk : Tk} {i : Nat} {P S : List Nat} {o : Nat} {w : List Nat} {mN : Bool} (hk : (tk i).1 = 14 ∨ (tk i).1 = 15) (hB : Blk P) : SyFl tk (i, P ++ S, o, w, false, mN) i := by
  obtain ⟨P1, s, P2, rfl, h1, h2⟩ := hB
  refine SyFl.one (A := (i, (P1 ++ s :: P2) ++ S, o, w, false, mN)) ?_
  show syO (tk i).1 i ((P1 ++ s :: P2) ++ S) o w mN = .inr (false, i, [])
  obtain ⟨o', w', e⟩ := unw_blk (S := P2 ++ S) h2 P1 o w h1
  have e2 : (P1 ++ s :: P2) ++ S = P1 ++ s :: (P2 ++ S) := by rw [List.append_assoc]; rfl
  unfold syO
  rcases hk with hk | hk <;> rw [hk, if_neg (by decide), if_neg (by decide), if_neg (by decide), e2]
  · show syB 14 i (unw 5 (P1 ++ s :: (P2 ++ S)) o w) = _
    rw [e]
    unfold syB top4
    rw [if_pos ⟨by decide, by simp [h2]⟩]
  · show syB 15 i (unw 5 (P1 ++ s :: (P2 ++ S)) o w) = _
    rw [e]
    unfold syB top4
    rw [if_pos ⟨by decide, by simp [h2]⟩]
theorem none_fail {tk : Tk} {i : Nat} {S : List Nat} {o : Nat} {w : List Nat} {mN : Bool} (h10 : (tk i).1 ≠ 10) (h9 : (tk i).1 ≠ 9) (hs : sgn (tk i).1 = 0) : SyFl tk (i, S, o, w, false, mN) i := by
  refine SyFl.one (A := (i, S, o, w, false, mN)) ?_
  show syO (tk i).1 i S o w mN = .inr (false, i, [])
  unfold syO
  rw [if_neg h10, if_neg h9, if_pos hs]
theorem bin_to {tk : Tk} {i g r o : Nat} {P S w : List Nat} {mN : Bool} (hg : sgn (tk i).1 = g) (hg0 : ¬ g = 0) (hr : rkN g = r) (h4 : ¬ r = 4) (hP : ∀ s ∈ P, r ≤ rkN s) (hS : lwSt r S) : SyTo tk (i, P ++ S, o + nn P, w, false, mN) (i + 1, g :: S, o, w ++ P, true, decide (g ≤ 12)) := by
  refine SyTo.one ?_ rfl
  have k10 : (tk i).1 ≠ 10 := fun q => by rw [q] at hg; exact hg0 (by rw [← hg]; decide)
  have k9 : (tk i).1 ≠ 9 := fun q => by rw [q] at hg; exact hg0 (by rw [← hg]; decide)
  show syO (tk i).1 i (P ++ S) (o + nn P) w mN = _
  unfold syO
  rw [if_neg k10, if_neg k9, hg, if_neg hg0, hr, if_neg h4, unw_all hS P o w hP]
  unfold syB
  rw [hr, if_neg (fun q => h4 q.1)]
theorem cmp_to {tk : Tk} {i g o : Nat} {P S w : List Nat} {mN : Bool} (hg : sgn (tk i).1 = g) (hr : rkN g = 4) (hP : ∀ s ∈ P, 5 ≤ rkN s) (hS : lwSt 4 S) : SyTo tk (i, P ++ S, o + nn P, w, false, mN) (i + 1, g :: S, o, w ++ P, true, decide (g ≤ 12)) := by
  refine SyTo.one ?_ rfl
  have hg0 : ¬ g = 0 := fun q => by rw [q] at hr; exact absurd hr (by decide)
  have k10 : (tk i).1 ≠ 10 := fun q => by rw [q] at hg; exact hg0 (by rw [← hg]; decide)
  have k9 : (tk i).1 ≠ 9 := fun q => by rw [q] at hg; exact hg0 (by rw [← hg]; decide)
  have ht : top4 S = false := by
    cases S with
    | nil => rfl
    | cons s r =>
      have : rkN s < 4 := hS
      show (rkN s == 4) = false
      simp; omega
  show syO (tk i).1 i (P ++ S) (o + nn P) w mN = _
  unfold syO
  rw [if_neg k10, if_neg k9, hg, if_neg hg0, hr, if_pos rfl, unw_all (hS.le (by omega)) P o w hP]
  unfold syB
  rw [if_neg (fun q => by rw [ht] at q; exact Bool.noConfusion q.2)]
/-! depths of codes -/
def runL : List Nat → Nat → Option Nat
  | [], d => some d
  | g :: r, d => match dep (encC (nI g)) d with
    | some e => runL r e
    | none => none
theorem runL_app : ∀ (a b : List Nat) (d e : Nat), runL a d = some e → runL (a ++ b) d = runL b e := by
  intro a
  induction a with
  | nil => intro b d e h; cases h; rfl
  | cons g r ih =>
    intro b d e h
    show (match dep (encC (nI g)) d with | some e => runL (r ++ b) e | none => none) = _
    have h' : (match dep (encC (nI g)) d with | some e => runL r e | none => none) = some e := h
    cases hd : dep (encC (nI g)) d with
    | none => rw [hd] at h'; cases h'
    | some x => rw [hd] at h'; exact ih b x e h'
def okD (nd : Nat) (cs : List Nat) : Prop := (∀ d, d + nd ≤ 31 → runL cs d = some (d + 1)) ∧ ∀ g ∈ cs, okc (nI g)
theorem okD.le {nd nd' : Nat} {cs : List Nat} (h : okD nd cs) (hn : nd ≤ nd') : okD nd' cs := ⟨fun d hd => h.1 d (by omega), h.2⟩
theorem dep_bin (g : Nat) (hg : g = 11 ∨ g = 12 ∨ g = 14 ∨ g = 15 ∨ g = 16 ∨ g = 17 ∨ g = 18) (d : Nat) : dep (encC (nI g)) (d + 2) = some (d + 1) := by
  unfold dep
  rcases hg with rfl | rfl | rfl | rfl | rfl | rfl | rfl <;> rw [if_pos (by decide), if_neg (by decide), if_pos (by omega)] <;> rfl
theorem dep_un (g : Nat) (hg : g = 13 ∨ g = 19) (d : Nat) : dep (encC (nI g)) (d + 1) = some (d + 1) := by
  unfold dep
  rcases hg with rfl | rfl <;> rw [if_pos (by decide), if_pos (by decide), if_pos (by omega)]
theorem okc_sgn (g : Nat) (h1 : 11 ≤ g) (h2 : g < 20) : okc (nI g) := Or.inr (Or.inr ⟨g - 11, by omega, by rw [show 11 + (g - 11) = g by omega]⟩)
theorem okD_bin {nd : Nat} {a b : List Nat} {g : Nat} (ha : okD (nd + 1) a) (hb : okD nd b) (hg : g = 11 ∨ g = 12 ∨ g = 14 ∨ g = 15 ∨ g = 16 ∨ g = 17 ∨ g = 18) : okD (nd + 1) (a ++ b ++ [g]) := by
  refine ⟨fun d hd => ?_, fun x hx => ?_⟩
  · rw [List.append_assoc, runL_app a _ d _ (ha.1 d hd), runL_app b _ (d + 1) _ (hb.1 (d + 1) (by omega))]
    show (match dep (encC (nI g)) (d + 1 + 1) with | some e => runL [] e | none => none) = _
    rw [dep_bin g hg d]
    rfl
  · rcases List.mem_append.mp hx with hx | hx
    · rcases List.mem_append.mp hx with hx | hx
      · exact ha.2 x hx
      · exact hb.2 x hx
    · rw [List.mem_singleton.mp hx]
      exact okc_sgn g (by omega) (by omega)
theorem okD_un {nd : Nat} {a : List Nat} {g : Nat} (ha : okD nd a) (hg : g = 13 ∨ g = 19) : okD nd (a ++ [g]) := by
  refine ⟨fun d hd => ?_, fun x hx => ?_⟩
  · rw [runL_app a _ d _ (ha.1 d hd)]
    show (match dep (encC (nI g)) (d + 1) with | some e => runL [] e | none => none) = _
    rw [dep_un g hg d]
    rfl
  · rcases List.mem_append.mp hx with hx | hx
    · exact ha.2 x hx
    · rw [List.mem_singleton.mp hx]
      exact okc_sgn g (by omega) (by omega)
theorem okD_num {v : Nat} (h : v < 10000) : okD 1 [100000 + v] := by
  obtain ⟨e1, -, -, -, e5⟩ := enc_num h
  refine ⟨fun d hd => ?_, fun x hx => ?_⟩
  · show (match dep (encC (nI (100000 + v))) d with | some e => runL [] e | none => none) = _
    unfold dep
    rw [if_neg e5, if_pos (by omega)]
    rfl
  · rw [List.mem_singleton.mp hx]
    exact Or.inl ⟨v, h, rfl⟩
theorem okD_name {v : Nat} (h : v < 6) : okD 1 [v] := by
  obtain ⟨e1, e2, e3, -⟩ := enc_name v h
  refine ⟨fun d hd => ?_, fun x hx => ?_⟩
  · show (match dep (encC (nI v)) d with | some e => runL [] e | none => none) = _
    unfold dep
    rw [if_neg e3, if_pos (by omega)]
    rfl
  · rw [List.mem_singleton.mp hx]
    exact Or.inr (Or.inl ⟨v, h, rfl⟩)
end SY
