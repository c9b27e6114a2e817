/-! least sums over ways: walks, rounds of relaxing, settled cells -/
section DI
abbrev DV : Type := Nat → Option Nat
def Wc (w : DV) (s : Nat) : Nat → Nat → Nat → Prop
  | 0, c, v => c = s ∧ w s = some v
  | n + 1, c, v => ∃ y u x, Wc w s n y u ∧ y < 36 ∧ apN y c = 1 ∧ c < 36 ∧ w c = some x ∧ v = u + x
def Snd (w : DV) (s : Nat) (d : DV) : Prop := ∀ c, c < 36 → ∀ v, d c = some v → ∃ n, Wc w s n c v
def Stl (w : DV) (s : Nat) (d : DV) (c : Nat) : Prop := ∀ n u, Wc w s n c u → ∃ v, d c = some v ∧ v ≤ u
def leO (a b : Option Nat) : Prop := ∀ v, b = some v → ∃ u, a = some u ∧ u ≤ v
theorem leO.rf {a : Option Nat} : leO a a := fun v h => ⟨v, h, Nat.le_refl _⟩
theorem leO.tr {a b c : Option Nat} (h : leO a b) (h2 : leO b c) : leO a c := fun v hv => by
  obtain ⟨u, e, l⟩ := h2 v hv
  obtain ⟨u2, e2, l2⟩ := h u e
  exact ⟨u2, e2, by omega⟩
def Rnd (w d d' : DV) : Prop := (∀ c, c < 36 → leO (d' c) (d c)) ∧ ∀ y, y < 36 → ∀ c, c < 36 → apN y c = 1 → ∀ u x, d y = some u → w c = some x → ∃ v, d' c = some v ∧ v ≤ u + x
def Bs (w : DV) (s : Nat) (d : DV) : Prop := ∀ v, w s = some v → ∃ v', d s = some v' ∧ v' ≤ v
theorem Stl.mono {w : DV} {s c : Nat} {d d' : DV} (h : Stl w s d c) (hl : leO (d' c) (d c)) : Stl w s d' c := fun n u hw => by
  obtain ⟨v, e, l⟩ := h n u hw
  obtain ⟨v2, e2, l2⟩ := hl v e
  exact ⟨v2, e2, by omega⟩
theorem prog {w : DV} {s : Nat} {d d' : DV} (hs : s < 36) (hb : Bs w s d) (hr : Rnd w d d') : (∀ c, c < 36 → Stl w s d' c) ∨ ∃ c, c < 36 ∧ ¬ Stl w s d c ∧ Stl w s d' c := by
  rcases Classical.em (∀ c, c < 36 → Stl w s d' c) with h | h
  · exact Or.inl h
  refine Or.inr ?_
  have h1 : ∃ c, c < 36 ∧ ¬ Stl w s d c := by
    refine Classical.byContradiction fun q => h (fun c hc => ?_)
    have : Stl w s d c := Classical.byContradiction fun q2 => q ⟨c, hc, q2⟩
    exact this.mono (hr.1 c hc)
  obtain ⟨c0, hc0, hn0⟩ := h1
  have h2 : ∃ n, ∃ c, c < 36 ∧ ¬ Stl w s d c ∧ ∃ u, Wc w s n c u ∧ ∀ n' u', Wc w s n' c u' → u ≤ u' := by
    have h3 : ∃ u, ∃ n, Wc w s n c0 u := Classical.byContradiction fun q => hn0 (fun n u hw => absurd ⟨u, n, hw⟩ q)
    obtain ⟨u, ⟨n, hw⟩, hmin⟩ := pk_least (fun u => ∃ n, Wc w s n c0 u) h3
    exact ⟨n, c0, hc0, hn0, u, hw, fun n' u' hw' => by
      by_cases q : u ≤ u'
      · exact q
      · exact absurd ⟨n', hw'⟩ (hmin u' (by omega))⟩
  obtain ⟨n, ⟨c, hc, hns, u, hw, hu⟩, hmin⟩ := pk_least _ h2
  cases n with
  | zero =>
    obtain ⟨rfl, hv⟩ := hw
    obtain ⟨v', e, l⟩ := hb u hv
    exact absurd (fun n' u' hw' => ⟨v', e, by have := hu n' u' hw'; omega⟩) hns
  | succ m =>
    obtain ⟨y, u', x, hw', hy, hap, hc2, hx, rfl⟩ := hw
    have hy2 : ∀ n2 u2, Wc w s n2 y u2 → u' ≤ u2 := fun n2 u2 h4 => by
      have := hu (n2 + 1) (u2 + x) ⟨y, u2, x, h4, hy, hap, hc2, hx, rfl⟩
      omega
    have hst : Stl w s d y := Classical.byContradiction fun q => hmin m (by omega) ⟨y, hy, q, u', hw', hy2⟩
    obtain ⟨v, e, l⟩ := hst m u' hw'
    obtain ⟨v2, e2, l2⟩ := hr.2 y hy c hc hap v x e hx
    exact ⟨c, hc, hns, fun n3 u3 h5 => ⟨v2, e2, by have := hu n3 u3 h5; omega⟩⟩
noncomputable def stB (w : DV) (s : Nat) (d : DV) : Nat → Bool := fun c => @decide (Stl w s d c) (Classical.propDecidable _)
theorem stB_iff {w : DV} {s c : Nat} {d : DV} : stB w s d c = true ↔ Stl w s d c := @decide_eq_true_iff _ (Classical.propDecidable _)
theorem cntN_mono2 {P Q : Nat → Bool} : ∀ n, (∀ c, c < n → P c = true → Q c = true) → cntN P n ≤ cntN Q n := by
  intro n
  induction n with
  | zero => intro _; exact Nat.le_refl _
  | succ n ih =>
    intro h
    show cntN P n + (if P n = true then 1 else 0) ≤ cntN Q n + (if Q n = true then 1 else 0)
    have := ih (fun c hc => h c (by omega))
    by_cases e : P n = true
    · rw [if_pos e, if_pos (h n (by omega) e)]; omega
    · rw [if_neg e]; omega
theorem cntN_lt2 {P Q : Nat → Bool} {d : Nat} (hd : Q d = true) (hd2 : ¬ P d = true) : ∀ n, d < n → (∀ c, c < n → P c = true → Q c = true) → cntN P n < cntN Q n := by
  intro n
  induction n with
  | zero => intro hn; omega
  | succ n ih =>
    intro hn h
    show cntN P n + (if P n = true then 1 else 0) < cntN Q n + (if Q n = true then 1 else 0)
    by_cases e : d = n
    · subst e
      rw [if_neg hd2, if_pos hd]
      have := cntN_mono2 d (fun c hc => h c (by omega))
      omega
    · have := ih (by omega) (fun c hc => h c (by omega))
      by_cases e2 : P n = true
      · rw [if_pos e2, if_pos (h n (by omega) e2)]; omega
      · rw [if_neg e2]; omega
theorem cntN_full {P : Nat → Bool} : ∀ n, n ≤ cntN P n → ∀ c, c < n → P c = true := by
  intro n
  induction n with
  | zero => intro _ c hc; omega
  | succ n ih =>
    intro h c hc
    have h' : n + 1 ≤ cntN P n + (if P n = true then 1 else 0) := h
    have hle := cntN_le (P := P) n
    by_cases e : P n = true
    · rw [if_pos e] at h'
      by_cases e2 : c = n
      · rw [e2]; exact e
      · exact ih (by omega) c (by omega)
    · rw [if_neg e] at h'
      omega
/-- j rounds done: j cells are settled, or all -/
def Sj (w : DV) (s j : Nat) (d : DV) : Prop := j ≤ cntN (stB w s d) 36 ∨ ∀ c, c < 36 → Stl w s d c
theorem Sj.step {w : DV} {s j : Nat} {d d' : DV} (hs : s < 36) (hb : Bs w s d) (h : Sj w s j d) (hr : Rnd w d d') : Sj w s (j + 1) d' := by
  rcases h with h | h
  · rcases prog hs hb hr with q | ⟨c, hc, q1, q2⟩
    · exact Or.inr q
    · left
      have := cntN_lt2 (P := stB w s d) (Q := stB w s d') (d := c) (stB_iff.mpr q2) (fun z => q1 (stB_iff.mp z)) 36 hc (fun c hc hz => stB_iff.mpr ((stB_iff.mp hz).mono (hr.1 c hc)))
      omega
  · exact Or.inr (fun c hc => (h c hc).mono (hr.1 c hc))
theorem Sj.all {w : DV} {s : Nat} {d : DV} (h : Sj w s 36 d) : ∀ c, c < 36 → Stl w s d c := by
  rcases h with h | h
  · exact fun c hc => stB_iff.mp (cntN_full 36 h c hc)
  · exact h
theorem still {w : DV} {s : Nat} {d : DV} (hs : s < 36) (hb : Bs w s d) (hr : Rnd w d d) : ∀ c, c < 36 → Stl w s d c := by
  rcases prog hs hb hr with q | ⟨c, _, q1, q2⟩
  · exact q
  · exact absurd q2 q1
/-- the least sum, or -1: there is none -/
def IsMinI (w : DV) (s t : Nat) (r : Int32) : Prop := (∃ v, v < 2 ^ 30 ∧ r = nI v ∧ (∃ n, Wc w s n t v) ∧ ∀ n u, Wc w s n t u → v ≤ u) ∨ (r = -1 ∧ ∀ n u, ¬ Wc w s n t u)
theorem IsMinI.uniq {w : DV} {s t : Nat} {r r' : Int32} (h : IsMinI w s t r) (h' : IsMinI w s t r') : r' = r := by
  rcases h with ⟨v, hv, rfl, ⟨n, hw⟩, hm⟩ | ⟨rfl, hn⟩
  · rcases h' with ⟨v', hv', rfl, ⟨n', hw'⟩, hm'⟩ | ⟨rfl, hn'⟩
    · have a := hm n' v' hw'
      have b := hm' n v hw
      rw [show v' = v by omega]
    · exact absurd hw (hn' n v)
  · rcases h' with ⟨v', hv', rfl, ⟨n', hw'⟩, hm'⟩ | ⟨rfl, hn'⟩
    · exact absurd hw' (hn n' v')
    · rfl
theorem IsMinI.of {w : DV} {s t : Nat} {d : DV} {v : Nat} (ht : t < 36) (hS : Snd w s d) (hA : ∀ c, c < 36 → Stl w s d c) (hd : d t = some v) (hv : v < 2 ^ 30) : IsMinI w s t (nI v) := Or.inl ⟨v, hv, rfl, hS t ht v hd, fun n u hw => by
  obtain ⟨v', e, l⟩ := hA t ht n u hw
  rw [hd] at e
  cases e
  exact l⟩
theorem IsMinI.no {w : DV} {s t : Nat} {d : DV} (ht : t < 36) (hA : ∀ c, c < 36 → Stl w s d c) (hd : d t = none) : IsMinI w s t (-1) := Or.inr ⟨rfl, fun n u hw => by
  obtain ⟨v', e, l⟩ := hA t ht n u hw
  rw [hd] at e
  cases e⟩
def rlx (w d : DV) (y c : Nat) : DV := match d y with
  | none => d
  | some u => match w c with
    | none => d
    | some x => match d c with
      | none => fun z => if z = c then some (u + x) else d z
      | some v => if v ≤ u + x then d else fun z => if z = c then some (u + x) else d z
def Bd (B : Nat) (d : DV) : Prop := ∀ c, c < 36 → ∀ v, d c = some v → v ≤ B
/-- going on with a round that began at d0: pairs Q are done -/
def RS (w : DV) (s : Nat) (d0 d : DV) (f : Bool) (B : Nat) (Q : Nat → Nat → Prop) : Prop := (∀ c, c < 36 → leO (d c) (d0 c)) ∧ Snd w s d ∧ Bd B d ∧ (∀ y c, y < 36 → c < 36 → Q y c → ∀ u x, d0 y = some u → w c = some x → ∃ v, d c = some v ∧ v ≤ u + x) ∧ (f = false → d = d0)
theorem RS.more {w : DV} {s B B' : Nat} {d0 d : DV} {f : Bool} {Q Q' : Nat → Nat → Prop} (h : RS w s d0 d f B Q) (hB : B ≤ B') (hQ : ∀ y c, y < 36 → c < 36 → Q' y c → Q y c) : RS w s d0 d f B' Q' := ⟨h.1, h.2.1, fun c hc v hv => Nat.le_trans (h.2.2.1 c hc v hv) hB, fun y c hy hc q => h.2.2.2.1 y c hy hc (hQ y c hy hc q), h.2.2.2.2⟩
theorem RS.keep {w : DV} {s B y c : Nat} {d0 d : DV} {f : Bool} {Q : Nat → Nat → Prop} (h : RS w s d0 d f B Q) (hy : y < 36) (hn : ∀ u x, d y = some u → w c = some x → ∃ v, d c = some v ∧ v ≤ u + x) : RS w s d0 d f B (fun a b => Q a b ∨ (a = y ∧ b = c)) := by
  refine ⟨h.1, h.2.1, h.2.2.1, fun a b ha hb q u x e1 e2 => ?_, h.2.2.2.2⟩
  rcases q with q | ⟨rfl, rfl⟩
  · exact h.2.2.2.1 a b ha hb q u x e1 e2
  · obtain ⟨u', e3, l⟩ := h.1 a ha u e1
    obtain ⟨v, e4, l2⟩ := hn u' x e3 e2
    exact ⟨v, e4, by omega⟩
theorem RS.set {w : DV} {s B y c u x : Nat} {d0 d : DV} {f : Bool} {Q : Nat → Nat → Prop} (h : RS w s d0 d f B Q) (hy : y < 36) (hc : c < 36) (hap : apN y c = 1) (hu : d y = some u) (hx : w c = some x) (hx3 : x ≤ 300) (hlt : ∀ v, d c = some v → u + x < v) : RS w s d0 (fun z => if z = c then some (u + x) else d z) true (B + 300) (fun a b => Q a b ∨ (a = y ∧ b = c)) := by
  have hle : ∀ z, leO ((fun z => if z = c then some (u + x) else d z) z) (d z) := fun z v hv => by
    by_cases e : z = c
    · subst e
      exact ⟨u + x, by show (if z = z then some (u + x) else d z) = _; rw [if_pos rfl], Nat.le_of_lt (hlt v hv)⟩
    · exact ⟨v, by show (if z = c then some (u + x) else d z) = _; rw [if_neg e]; exact hv, Nat.le_refl _⟩
  refine ⟨fun z hz => (hle z).tr (h.1 z hz), fun z hz v hv => ?_, fun z hz v hv => ?_, fun a b ha hb q u' x' e1 e2 => ?_, fun q => Bool.noConfusion q⟩
  · have hv' : (if z = c then some (u + x) else d z) = some v := hv
    by_cases e : z = c
    · rw [if_pos e] at hv'
      cases hv'
      obtain ⟨n, hw⟩ := h.2.1 y hy u hu
      rw [e]
      exact ⟨n + 1, y, u, x, hw, hy, hap, hc, hx, rfl⟩
    · rw [if_neg e] at hv'
      exact h.2.1 z hz v hv'
  · have hv' : (if z = c then some (u + x) else d z) = some v := hv
    by_cases e : z = c
    · rw [if_pos e] at hv'
      cases hv'
      have := h.2.2.1 y hy u hu
      omega
    · rw [if_neg e] at hv'
      have := h.2.2.1 z hz v hv'
      omega
  · rcases q with q | ⟨rfl, rfl⟩
    · obtain ⟨v, e3, l⟩ := h.2.2.2.1 a b ha hb q u' x' e1 e2
      obtain ⟨v2, e4, l2⟩ := hle b v e3
      exact ⟨v2, e4, by omega⟩
    · obtain ⟨u2, e3, l⟩ := h.1 a ha u' e1
      rw [hu] at e3
      cases e3
      rw [hx] at e2
      cases e2
      exact ⟨u + x, by show (if b = b then some (u + x) else d b) = _; rw [if_pos rfl], by omega⟩
theorem RS.begin {w : DV} {s B : Nat} {d : DV} (hS : Snd w s d) (hB : Bd B d) : RS w s d d false B (fun _ _ => False) := ⟨fun _ _ => leO.rf, hS, hB, fun _ _ _ _ q => q.elim, fun _ => rfl⟩
theorem RS.rnd {w : DV} {s B : Nat} {d0 d : DV} {f : Bool} {Q : Nat → Nat → Prop} (h : RS w s d0 d f B Q) (hQ : ∀ y c, y < 36 → c < 36 → apN y c = 1 → Q y c) : Rnd w d0 d := ⟨h.1, fun y hy c hc hap u x e1 e2 => h.2.2.2.1 y c hy hc (hQ y c hy hc hap) u x e1 e2⟩
end DI
