/-! what a text read is -/
section TF
theorem runL_D {f : Nat → Int32} : ∀ (cs : List Nat) (p d e : Nat), runL cs d = some e → (∀ x, x < cs.length → f (p + x) = encC (nI (cs.getD x 0))) → runD f cs.length p d = some e := by
  intro cs
  induction cs with
  | nil => intro p d e h _; exact h
  | cons g r ih =>
    intro p d e h hf
    have h' : (match dep (encC (nI g)) d with | some e => runL r e | none => none) = some e := h
    have f0 : f p = encC (nI g) := hf 0 (Nat.succ_pos _)
    show (match dep (f p) d with | some e => runD f r.length (p + 1) e | none => none) = some e
    rw [f0]
    cases hd : dep (encC (nI g)) d with
    | none => rw [hd] at h'; cases h'
    | some y =>
      rw [hd] at h'
      exact ih (p + 1) y e h' (fun x hx => by rw [show p + 1 + x = p + (x + 1) by omega]; exact hf (x + 1) (Nat.succ_lt_succ hx))
theorem getD_in {w cs t : List Nat} {x : Nat} (hx : x < cs.length) : (w ++ cs ++ t).getD (w.length + x) 0 = cs.getD x 0 := by
  rw [List.append_assoc, List.getD_eq_getElem?_getD, List.getElem?_append_right (by omega), show w.length + x - w.length = x by omega, List.getElem?_append_left hx, List.getD_eq_getElem?_getD]
theorem po_facts {tk : Tk} {f : Nat → Int32} : ∀ k i w wf L, PO tk k i w wf L → (∃ t, wf = w ++ t) ∧ L.getD 0 0 = w.length ∧ L.getD k 0 = wf.length ∧ (∀ x, x < k → L.getD x 0 ≤ L.getD (x + 1) 0) ∧ (∀ y, w.length ≤ y → y < wf.length → okc (nI (wf.getD y 0))) ∧ ((∀ x, x < wf.length → f x = encC (nI (wf.getD x 0))) → ∀ x, x < k → runD f (L.getD (x + 1) 0 - L.getD x 0) (L.getD x 0) 0 = some 1) := by
  intro k
  induction k with
  | zero =>
    intro i w wf L h
    obtain ⟨-, rfl, rfl⟩ := h
    exact ⟨⟨[], by simp⟩, rfl, rfl, fun x hx => absurd hx (Nat.not_lt_zero x), fun y h1 h2 => by omega, fun _ x hx => absurd hx (Nat.not_lt_zero x)⟩
  | succ k ih =>
    intro i w wf L h
    obtain ⟨-, -, j, cs, L2, -, -, hD, hPO, rfl⟩ := h
    obtain ⟨⟨t, ht⟩, b2, b3, b4, b5, b6⟩ := ih _ _ _ _ hPO
    have hl : (w ++ cs).length = w.length + cs.length := List.length_append
    refine ⟨⟨cs ++ t, by rw [ht, List.append_assoc]⟩, rfl, b3, fun x hx => ?_, fun y h1 h2 => ?_, fun hf x hx => ?_⟩
    · cases x with
      | zero => show w.length ≤ L2.getD 0 0; omega
      | succ x => exact b4 x (by omega)
    · by_cases q : y < (w ++ cs).length
      · obtain ⟨z, rfl⟩ : ∃ z, y = w.length + z := ⟨y - w.length, by omega⟩
        rw [ht, getD_in (by omega)]
        refine hD.2 _ ?_
        rw [List.getD_eq_getElem?_getD, List.getElem?_eq_getElem (show z < cs.length by omega)]
        exact List.getElem_mem _
      · exact b5 y (by omega) h2
    · cases x with
      | zero =>
        show runD f (L2.getD 0 0 - w.length) w.length 0 = some 1
        rw [b2, hl, show w.length + cs.length - w.length = cs.length by omega]
        refine runL_D cs _ 0 1 (hD.1 0 (by omega)) (fun x hx => ?_)
        rw [hf _ (by rw [ht, List.length_append]; omega), ht, getD_in hx]
      | succ x => exact b6 hf x (by omega)
end TF
