/-! the start: the reference's own law read, both sides alike -/
section BG
def bLaw (i : Nat) : Int32 := tbLaw.getD i 0
theorem law_tk : ∀ i, i < 10 → tkT bLaw 37 i = (([(4, 0), (3, 4), (10, 0), (4, 1), (2, 1), (10, 0), (4, 2), (3, 2), (10, 0), (0, 0)] : List (Nat × Nat)).getD i (0, 0)) := by decide +kernel
theorem one_ok {tk : Tk} {i z : Nat} {w : List Nat} (h1 : ((tk i).1 = 2 ∧ z = 100000 + (tk i).2) ∨ ((tk i).1 = 3 ∧ z = (tk i).2)) (h2 : (tk (i + 1)).1 = 10) : SyOk tk (i, [], 0, w, true, true) (i + 1) (w ++ [z]) := by
  have a : SyTo tk (i, [], 0, w, true, true) (i + 1, [], 0, w ++ [z], false, true) := by
    refine SyTo.one ?_ rfl
    show syW (tk i).1 (tk i).2 i [] 0 w true = _
    unfold syW
    rw [if_pos (by rcases h1 with h | h; exact Or.inl h.1; exact Or.inr h.1)]
    have e : (if (tk i).1 = 2 then 100000 + (tk i).2 else (tk i).2) = z := by
      rcases h1 with h | h
      · rw [if_pos h.1, h.2]
      · rw [if_neg (by omega), h.2]
    rw [e]
    rfl
  refine a.ok (SyOk.one (A := (i + 1, [], 0, w ++ [z], false, true)) ?_)
  show syO (tk (i + 1)).1 (i + 1) [] 0 (w ++ [z]) true = _
  unfold syO
  rw [if_pos h2]
  rfl
theorem law_po : PO (tkT bLaw 37) 3 0 [] [4, 100001, 2] [0, 1, 2, 3] := by
  have t := law_tk
  have t0 : tkT bLaw 37 0 = (4, 0) := t 0 (by omega)
  have t1 : tkT bLaw 37 1 = (3, 4) := t 1 (by omega)
  have t2 : tkT bLaw 37 2 = (10, 0) := t 2 (by omega)
  have t3 : tkT bLaw 37 3 = (4, 1) := t 3 (by omega)
  have t4 : tkT bLaw 37 4 = (2, 1) := t 4 (by omega)
  have t5 : tkT bLaw 37 5 = (10, 0) := t 5 (by omega)
  have t6 : tkT bLaw 37 6 = (4, 2) := t 6 (by omega)
  have t7 : tkT bLaw 37 7 = (3, 2) := t 7 (by omega)
  have t8 : tkT bLaw 37 8 = (10, 0) := t 8 (by omega)
  have t9 : tkT bLaw 37 9 = (0, 0) := t 9 (by omega)
  refine ⟨by rw [t0]; exact ⟨rfl, rfl⟩, Nat.le_refl _, 2, [4], [1, 2, 3], one_ok (Or.inr (by rw [t1]; exact ⟨rfl, rfl⟩)) (by rw [t2]), by omega, (okD_name (by omega)).le (by omega), ?_, rfl⟩
  refine ⟨by rw [t3]; exact ⟨rfl, rfl⟩, by show 1 ≤ 3; omega, 5, [100001], [2, 3], one_ok (w := [4]) (Or.inl (by rw [t4]; exact ⟨rfl, rfl⟩)) (by rw [t5]), by omega, (okD_num (v := 1) (by omega)).le (by omega), ?_, rfl⟩
  refine ⟨by rw [t6]; exact ⟨rfl, rfl⟩, by show 2 ≤ 6; omega, 8, [2], [3], one_ok (w := [4, 100001]) (Or.inr (by rw [t7]; exact ⟨rfl, rfl⟩)) (by rw [t8]), by omega, (okD_name (by omega)).le (by omega), ?_, rfl⟩
  exact ⟨by rw [t9], rfl, rfl⟩
theorem ini_l {l : List Int32} {n s : Nat} (h : s < n) : ini l n s = l.getD s 0 := by
  unfold ini
  first
    | rw [if_pos h]
    | simp [h]
theorem begin_ev : ∃ r M1, fX11_text M0 = some (r, M1) ∧ Rel M1 := by
  have hR : RT bLaw 37 M0 := ⟨rfl, fun x hx => ini_l hx, fun x hx => ini_l hx⟩
  obtain ⟨N2, e2, y2, o2⟩ := textM_st (T := 0) (by omega) hR rfl
  obtain ⟨r, M1, e, z1, z2, z3, z4, z5, z6, z7⟩ := po_ev (by omega) (T := 0) (by omega) 3 0 rfl FU (by show 4 < 2000; omega) 0 [] [4, 100001, 2] [0, 1, 2, 3] N2 y2 (by omega) law_po
  refine ⟨r, M1, by rw [e2]; exact e, 1, ?_⟩
  have oo := o2.tr z2
  have f : ∀ K i, ¬ O4s K i → M1 K i = M0 K i := oo.1
  have e15 : M1 15 0 = M0 15 0 := f 15 0 (by simp [O4s])
  have e16 : M1 16 0 = M0 16 0 := f 16 0 (by simp [O4s])
  have e18 : ∀ t, t < 4 → M1 18 (4 * 0 + t) = M0 18 (4 * 0 + t) := fun t ht => f 18 _ (by simp [O4s])
  have eX : vwX 0 M1 = vwX 0 M0 := vwX_eq e15 e16 e18
  have e22 : ∀ x, x = 0 ∨ x = 6 ∨ x = 12 ∨ x = 13 → M1 22 0 x = 0 := fun x hx => (oo.2.1 x hx).trans (by rcases hx with rfl | rfl | rfl | rfl <;> rfl)
  have eM : vwM M1 = vwX 0 M0 := by
    have e27 : M1 27 0 = M0 27 0 := f 27 0 (by simp [O4s])
    unfold vwM vwX
    rw [e27, e22 0 (Or.inl rfl), e22 6 (Or.inr (Or.inl rfl)), e22 12 (Or.inr (Or.inr (Or.inl rfl)))]
    have g : (fun t p => if t < 4 ∧ p < (0 : Int32).toNatClampNeg then M1 (trK t) 0 p else 0) = (fun t p => if t < 4 ∧ p < (M0 15 0 7).toNatClampNeg then M0 18 (4 * 0 + t) p else 0) := by
      funext t p
      rw [if_neg (fun h => absurd h.2 (Nat.not_lt_zero p)), if_neg (fun h => absurd h.2 (Nat.not_lt_zero p))]
    rw [g]
    rfl
  have hA : okA (vwX 0 M0) := ⟨Nat.zero_le _, fun p hp => absurd hp (Nat.not_lt_zero p)⟩
  have hTt : okT (vwX 0 M0) := fun c => ⟨0, by omega, by
    show (if c < 36 then M0 16 0 c else 0) = nI 0
    split <;> rfl⟩
  have k8 : M1 8 0 = M0 8 0 := f 8 0 (by simp [O4s])
  have k10 : M1 10 0 = M0 10 0 := f 10 0 (by simp [O4s])
  have k11 : M1 11 0 = M0 11 0 := f 11 0 (by simp [O4s])
  have c11 : ∀ x, x < 3 → M1 11 0 x = encC (nI (([4, 100001, 2] : List Nat).getD x 0)) := by
    intro x hx
    rw [k11]
    have : x = 0 ∨ x = 1 ∨ x = 2 := by omega
    rcases this with rfl | rfl | rfl <;> decide
  obtain ⟨-, -, -, -, b5, b6⟩ := po_facts (f := M1 11 0) 3 0 [] [4, 100001, 2] [0, 1, 2, 3] law_po
  have q4 : ∀ q, q < 4 → ([0, 1, 2, 3] : List Nat).getD q 0 = q := by decide
  refine ⟨⟨by omega, by omega, fun t ht => ?_⟩, ?_, z3, ?_, ?_, by rw [eX, eM], by rw [eX]; exact ⟨0, by omega, rfl⟩, ?_, ?_, ?_, ?_⟩
  · have : t = 0 := by omega
    subst this
    refine ⟨3, fun q => ([0, 1, 2, 3] : List Nat).getD q 0, by omega, by rw [k8]; rfl, fun q hq => ⟨?_, ?_, by show List.getD _ _ _ ≤ 3; rw [q4 q hq]; omega⟩, fun q hq => by show List.getD _ _ _ ≤ List.getD _ _ _; rw [q4 q (by omega), q4 (q + 1) (by omega)]; omega, fun i hi => ⟨?_, ?_⟩, fun q hq => b6 c11 q hq⟩
    · rw [k10]
      have : q = 0 ∨ q = 1 ∨ q = 2 ∨ q = 3 := by omega
      rcases this with rfl | rfl | rfl | rfl <;> decide
    · have := z6 q (by omega)
      rw [Nat.zero_add] at this
      exact this
    · rw [z5 i hi]; exact b5 i (Nat.zero_le _) hi
    · rw [z5 i hi]; exact c11 i hi
  · rw [f 0 0 (by simp [O4s])]; rfl
  · unfold InX
    rw [eX, e15]
    exact ⟨rfl, rfl, by show 0 < 1; omega, hA, hTt⟩
  · unfold InM
    rw [eM, e22 0 (Or.inl rfl), e22 12 (Or.inr (Or.inr (Or.inl rfl)))]
    exact ⟨rfl, rfl, by show 0 < 1; omega, hA, hTt⟩
  · exact ⟨0, by omega, by rw [f 1 0 (by simp [O4s])]; rfl, z4, fun i hi => absurd hi (Nat.not_lt_zero i)⟩
  · intro s hs
    have k13 : M1 13 s = M0 13 s := f 13 s (by simp [O4s])
    have k14 : M1 14 s = M0 14 s := f 14 s (by simp [O4s])
    have k33 : M1 33 0 = M0 33 0 := f 33 0 (by simp [O4s])
    have k34 : M1 34 0 = M0 34 0 := f 34 0 (by simp [O4s])
    have k35 : M1 35 0 = M0 35 0 := f 35 0 (by simp [O4s])
    rw [k13, k14, k33, k34, k35]
    refine ⟨?_, Or.inl rfl, ⟨0, by omega, rfl, rfl⟩, fun i _ => rfl⟩
    have : s = 0 ∨ s = 1 ∨ s = 2 ∨ s = 3 := by omega
    rcases this with rfl | rfl | rfl | rfl <;> decide
  · unfold ImgR
    rw [f 0 0 (by simp [O4s]), e22 13 (Or.inr (Or.inr (Or.inr rfl)))]
    exact ⟨rfl, Or.inl rfl⟩
  · intro i hi
    rw [f 37 0 (by simp [O4s])]
    exact ini_l hi
end BG
