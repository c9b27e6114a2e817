/-! Text.says: a stack of at most 31 -/
section SX
theorem Off.at {S : Nat → Nat → Prop} {M M' : Mem} (h : Off S M M') {K i : Nat} (hn : ¬ S K i) : M' K i = M K i := h K i hn
theorem evX_succ (cd nm : Nat → Int32) : ∀ (n i : Nat) (st : List Int32), evX cd nm (n + 1) i st = stX nm (cd (i + n)) (evX cd nm n i st) := by
  intro n
  induction n with
  | zero => intro i st; rfl
  | succ n ih =>
    intro i st
    show evX cd nm (n + 1) (i + 1) (stX nm (cd i) st) = _
    rw [ih (i + 1) (stX nm (cd i) st)]
    show stX nm (cd (i + 1 + n)) (evX cd nm n (i + 1) (stX nm (cd i) st)) = stX nm (cd (i + (n + 1))) (evX cd nm n (i + 1) (stX nm (cd i) st))
    rw [show i + 1 + n = i + (n + 1) by omega]
theorem evX_len (cd nm : Nat → Int32) : ∀ (n i : Nat), (evX cd nm n i []).length ≤ 31 := by
  intro n i
  induction n with
  | zero => exact Nat.zero_le _
  | succ n ih => rw [evX_succ]; exact stX_len ih
def Stk (F : Nat → Int32) (st : List Int32) : Prop := ∀ k, k < st.length → F k = st.reverse.getD k 0
theorem Stk.push {F : Nat → Int32} {st : List Int32} (h : Stk F st) (a : Int32) : Stk (upd F st.length a) (a :: st) := by
  intro k hk
  simp only [List.reverse_cons, List.length_cons] at hk ⊢
  simp only [upd]
  by_cases e : k = st.length
  · subst e
    simp [List.getD_eq_getElem?_getD]
  · have : k < st.length := by omega
    rw [if_neg e, h k this]
    simp [List.getD_eq_getElem?_getD, List.getElem?_append_left, this]
theorem Stk.pop {F : Nat → Int32} {st : List Int32} {a : Int32} (h : Stk F (a :: st)) : Stk F st := by
  intro k hk
  rw [h k (by simp; omega)]
  simp [List.getD_eq_getElem?_getD, List.getElem?_append_left, hk]
theorem Stk.top {F : Nat → Int32} {st : List Int32} {a : Int32} (h : Stk F (a :: st)) : F st.length = a := by
  rw [h st.length (by simp)]
  simp [List.getD_eq_getElem?_getD]
theorem nI_sub1 (n : Nat) : nI (n + 1) + (-1) = nI n := by
  rw [← nI_pred n, Int32.sub_eq_add_neg]
theorem clip_ev (M : Mem) (part : Nat) (hp : part < 3) (v : Int32) : fX8_says_J182 (nI part) v M = some (clipP part v, M) := by
  unfold fX8_says_J182 fX8_says_J194 clipP
  by_cases h : part = 0
  · subst h
    rfl
  · have : ¬ nI part = 0 := nI_ne0 (by omega) (by omega)
    rw [if_neg this, if_neg h]
theorem lt6_of {w : Int32} (h : w < 0) (h6 : ¬ w < -6) : 0 ≤ ((-1) - w).toInt ∧ ((-1) - w).toInt < 6 := by
  have a := Int32.lt_iff_toInt_lt.mp h
  have b : ¬ w.toInt < (-6 : Int32).toInt := fun q => h6 (Int32.lt_iff_toInt_lt.mpr q)
  rw [show (-6 : Int32).toInt = -6 by decide] at b
  rw [show (0 : Int32).toInt = 0 by decide] at a
  have e : ((-1) - w).toInt = -1 - w.toInt := by
    rw [Int32.toInt_sub, show (-1 : Int32).toInt = -1 by decide]
    exact Int.bmod_eq_of_le (by omega) (by omega)
  omega
set_option maxRecDepth 20000 in
set_option maxHeartbeats 1000000 in
theorem says_ev {M : Mem} {t part r n : Nat} {b : Nat → Nat} (hp : part < 3) (hn : n ≤ 160) (h8 : M 8 t 0 = nI n) (hb : ∀ q, q < 4 → M 10 t q = nI (b q) ∧ b q ≤ n) :
    Ev (fX8_says t (nI part) r M) (fun v M' => v = clipP part (topW (evX (M 11 t) (M 19 r) (b (part + 1) - b part) (b part) [])) ∧ Off (fun K i => K = 9 ∧ i = t) M M') := by
  unfold fX8_says
  refine Ev.gd (inb_nI (by omega) (by decide)) ?_
  show Ev (fX8_says_L10 t (nI part) r FU 0 (M 10 t (nI part).toNatClampNeg) M) _
  rw [nI_clamp (by omega), (hb part (by omega)).1]
  have hb0 := (hb part (by omega)).2
  have hb1 := hb (part + 1) (by omega)
  refine Ev.loop (f := fun n (x : Int32 × Int32) M => fX8_says_L10 t (nI part) r n x.1 x.2 M) (B := fun k x M => fX8_says_B10 t (nI part) r (fun a b M => k (a, b) M) x.1 x.2 M) (fun _ _ _ => rfl) (b (part + 1) - b part)
    (fun j x M' => x = (nI (evX (M 11 t) (M 19 r) j (b part) []).length, nI (b part + j)) ∧ Stk (M' 9 t) (evX (M 11 t) (M 19 r) j (b part) []) ∧ Off (fun K i => K = 9 ∧ i = t) M M') ?_ ?_ FU 0 (0, nI (b part)) M (Nat.zero_le _) (by show _ < 2000 + 0; omega) ⟨rfl, fun k hk => absurd hk (Nat.not_lt_zero _), Off.rf⟩
  · rintro k j x M' hj ⟨rfl, hst, hoff⟩ hk
    have hl := evX_len (M 11 t) (M 19 r) j (b part)
    have hs := evX_succ (M 11 t) (M 19 r) j (b part) []
    generalize evX (M 11 t) (M 19 r) j (b part) [] = st at hst hl hs hk
    have e10 : M' 10 t = M 10 t := hoff.at (fun h => absurd h.1 (by decide))
    have e8 : M' 8 t = M 8 t := hoff.at (fun h => absurd h.1 (by decide))
    have e11 : M' 11 t = M 11 t := hoff.at (fun h => absurd h.1 (by decide))
    have e19 : M' 19 r = M 19 r := hoff.at (fun h => absurd h.1 (by decide))
    show Ev (fX8_says_B10 t (nI part) r (fun a b M => k (a, b) M) (nI st.length) (nI (b part + j)) M') _
    unfold fX8_says_B10
    rw [nI_1]
    refine Ev.gd (inb_nI (by omega) (by decide)) ?_
    rw [nI_clamp (show part + 1 < 2 ^ 31 by omega), e10, hb1.1, e8, h8, nI_clamp (show n < 2 ^ 31 by omega), if_neg (fun q => by have := (nI_leI (by omega) (by omega)).mp q; omega), if_neg (fun q => by have := (nI_leI (by omega) (by omega)).mp q; omega)]
    refine Ev.gd (inb_nI (by omega) (by omega)) ?_
    show Ev (ite (M' 11 t (nI (b part + j)).toNatClampNeg < -6) _ _) _
    rw [e11, nI_clamp (show b part + j < 2 ^ 31 by omega)]
    generalize hw : M 11 t (b part + j) = w at hs
    have go : ∀ (M2 : Mem), Stk (M2 9 t) (stX (M 19 r) w st) → Off (fun K i => K = 9 ∧ i = t) M M2 → Ev (k (nI (stX (M 19 r) w st).length, nI (b part + j) + 1) M2) (fun v M' => v = clipP part (topW (evX (M 11 t) (M 19 r) (b (part + 1) - b part) (b part) [])) ∧ Off (fun K i => K = 9 ∧ i = t) M M') := fun M2 h1 h2 => by
      rw [nI_1]
      exact hk _ M2 ⟨by rw [hs]; rfl, by rw [hs]; exact h1, h2⟩
    have off1 : ∀ (s : Nat) (v : Int32), Off (fun K i => K = 9 ∧ i = t) M (mst M' 9 t s v) := fun s v => hoff.mst ⟨rfl, rfl⟩
    have one : (w = -9 ∨ w = -10) → w < -6 → Ev (fX8_says_J97 (fun a b M => k (a, b) M) t (nI part) r (nI st.length) (nI (b part + j)) w M') (fun v M' => v = clipP part (topW (evX (M 11 t) (M 19 r) (b (part + 1) - b part) (b part) [])) ∧ Off (fun K i => K = 9 ∧ i = t) M M') := fun h9 h6 => by
      unfold fX8_says_J97
      cases st with
      | nil =>
        rw [if_pos (by decide)]
        have hx : stX (M 19 r) w [] = [] := by simp only [stX, if_pos h6, if_pos h9]
        have := go M' (by rw [hx]; exact hst) hoff
        rw [hx] at this
        exact this
      | cons a rs =>
        have hlr : rs.length < 31 := by simp at hl; omega
        rw [List.length_cons, nI_pred, if_neg (nI_nle (by omega) (by omega))]
        refine Ev.gd (inb_nI (by omega) (by omega)) ?_
        rw [nI_clamp (by omega), hst.top, ofOne_ev]
        refine Ev.gd (inb_nI (by omega) (by omega)) ?_
        have hx : stX (M 19 r) w (a :: rs) = op1 w a :: rs := by simp only [stX, if_pos h6, if_pos h9]
        have := go (mst M' 9 t rs.length (op1 w a)) (by rw [hx, mst_s]; exact hst.pop.push _) (off1 _ _)
        rw [hx] at this
        exact this
    refine Ev.ite (fun h6 => ?_) (fun h6 => ?_)
    · refine Ev.ite (fun h9 => one (Or.inl h9) h6) (fun h9 => ?_)
      refine Ev.ite (fun h10 => one (Or.inr h10) h6) (fun h10 => ?_)
      have hno : ¬ (w = -9 ∨ w = -10) := fun q => q.elim h9 h10
      match st, hst, hl, go with
      | [], hst, hl, go =>
        rw [if_pos (by decide)]
        have hx : stX (M 19 r) w [] = [] := by simp only [stX, if_pos h6, if_neg hno]
        have := go M' (by rw [hx]; exact hst) hoff
        rw [hx] at this
        exact this
      | [a], hst, hl, go =>
        rw [if_pos (show nI [a].length ≤ 1 from (by decide : nI 1 ≤ 1))]
        have hx : stX (M 19 r) w [a] = [a] := by simp only [stX, if_pos h6, if_neg hno]
        have := go M' (by rw [hx]; exact hst) hoff
        rw [hx] at this
        exact this
      | z :: a :: rs, hst, hl, go =>
        have hlr : rs.length + 1 < 31 := by simp at hl; omega
        rw [List.length_cons, List.length_cons, nI_sub1, nI_pred, if_neg (fun q => by have := (nI_leI (b := 1) (by omega) (by omega)).mp q; omega)]
        refine Ev.gd (inb_nI (by omega) (by omega)) ?_
        refine Ev.gd (inb_nI (by omega) (by omega)) ?_
        rw [nI_clamp (show rs.length < 2 ^ 31 by omega), nI_clamp (show rs.length + 1 < 2 ^ 31 by omega), hst.pop.top, show M' 9 t (rs.length + 1) = z from hst.top, ofTwo_ev]
        refine Ev.gd (inb_nI (by omega) (by omega)) ?_
        have hx : stX (M 19 r) w (z :: a :: rs) = op2 w a z :: rs := by simp only [stX, if_pos h6, if_neg hno]
        have := go (mst M' 9 t rs.length (op2 w a z)) (by rw [hx, mst_s]; exact hst.pop.pop.push _) (off1 _ _)
        rw [hx] at this
        exact this
    · refine Ev.ite (fun h31 => ?_) (fun h31 => ?_)
      · have h31' := (nI_leI (a := 31) (by omega) (by omega)).mp h31
        have hx : stX (M 19 r) w st = st := by simp only [stX, if_neg h6, if_pos h31']
        have := go M' (by rw [hx]; exact hst) hoff
        rw [hx] at this
        exact this
      · have h31' : ¬ 31 ≤ st.length := fun q => h31 ((nI_leI (a := 31) (by omega) (by omega)).mpr q)
        refine Ev.ite (fun h0 => ?_) (fun h0 => ?_)
        · have h06 := lt6_of h0 h6
          refine Ev.gd (inb_of h06.1 h06.2) ?_
          refine Ev.gd (inb_nI (by omega) (by omega)) ?_
          have hx : stX (M 19 r) w st = M 19 r ((-1) - w).toNatClampNeg :: st := by simp only [stX, if_neg h6, if_neg h31', if_pos h0]
          have := go (mst M' 9 t st.length (M 19 r ((-1) - w).toNatClampNeg)) (by rw [hx, mst_s]; exact hst.push _) (off1 _ _)
          rw [hx] at this
          show Ev (k (nI st.length + 1, nI (b part + j) + 1) (mst M' 9 t (nI st.length).toNatClampNeg (M' 19 r ((-1) - w).toNatClampNeg))) _
          rw [nI_1 st.length, nI_clamp (show st.length < 2 ^ 31 by omega), e19]
          exact this
        · refine Ev.gd (inb_nI (by omega) (by omega)) ?_
          have hx : stX (M 19 r) w st = w :: st := by simp only [stX, if_neg h6, if_neg h31', if_neg h0]
          have := go (mst M' 9 t st.length w) (by rw [hx, mst_s]; exact hst.push _) (off1 _ _)
          rw [hx] at this
          show Ev (k (nI st.length + 1, nI (b part + j) + 1) (mst M' 9 t (nI st.length).toNatClampNeg w)) _
          rw [nI_1 st.length, nI_clamp (show st.length < 2 ^ 31 by omega)]
          exact this
  · rintro k x M' ⟨rfl, hst, hoff⟩
    have hl := evX_len (M 11 t) (M 19 r) (b (part + 1) - b part) (b part)
    generalize evX (M 11 t) (M 19 r) (b (part + 1) - b part) (b part) [] = st at hst hl
    have e10 : M' 10 t = M 10 t := hoff.at (fun h => absurd h.1 (by decide))
    show Ev (fX8_says_B10 t (nI part) r (fun a b M => k (a, b) M) (nI st.length) (nI (b part + (b (part + 1) - b part))) M') _
    unfold fX8_says_B10
    rw [nI_1]
    refine Ev.gd (inb_nI (by omega) (by decide)) ?_
    rw [nI_clamp (show part + 1 < 2 ^ 31 by omega), e10, hb1.1, if_pos ((nI_leI (by omega) (by omega)).mpr (by omega))]
    unfold fX8_says_J166
    cases st with
    | nil =>
      rw [if_pos (by decide), clip_ev _ _ hp]
      exact Ev.ret ⟨rfl, hoff⟩
    | cons a rs =>
      have hlr : rs.length < 31 := by simp at hl; omega
      rw [List.length_cons, nI_pred, if_neg (nI_nle (by omega) (by omega))]
      refine Ev.gd (inb_nI (by omega) (by omega)) ?_
      rw [nI_clamp (by omega), hst.top, clip_ev _ _ hp]
      exact Ev.ret ⟨rfl, hoff⟩
end SX
