/-! says of the reference: no guards, so its texts must be well made -/
section SM
theorem nI_mulB (a b : Nat) : nI a * nI b = nI (a * b) := (Int32.ofNat_mul a b).symm
def encC (c : Int32) : Int32 := if 100000 ≤ c then c - 100000 else if c < 11 then (-1) - c else if c = 11 then -7 else if c = 12 then -8 else if c = 13 then -9 else if c = 14 then -60 else if c = 15 then -61 else if c = 16 then -43 else if c = 17 then -45 else if c = 18 then -42 else -10
def okc (c : Int32) : Prop := (∃ n : Nat, n < 10000 ∧ c = nI (100000 + n)) ∨ (∃ n : Nat, n < 6 ∧ c = nI n) ∨ (∃ n : Nat, n < 9 ∧ c = nI (11 + n))
def dep (w : Int32) (d : Nat) : Option Nat := if w < -6 then (if w = -9 ∨ w = -10 then (if 1 ≤ d then some d else none) else (if 2 ≤ d then some (d - 1) else none)) else if d < 31 then some (d + 1) else none
def runD (cd : Nat → Int32) : Nat → Nat → Nat → Option Nat
  | 0, _, d => some d
  | n + 1, i, d => match dep (cd i) d with
    | some e => runD cd n (i + 1) e
    | none => none
theorem dep_len {nm : Nat → Int32} {w : Int32} {st : List Int32} {d : Nat} (h : dep w st.length = some d) : (stX nm w st).length = d := by
  unfold dep at h
  unfold stX
  by_cases h6 : w < -6
  · rw [if_pos h6] at h ⊢
    by_cases h9 : w = -9 ∨ w = -10
    · rw [if_pos h9] at h ⊢
      cases st with
      | nil => simp at h
      | cons a r => simp at h ⊢; exact h
    · rw [if_neg h9] at h ⊢
      match st, h with
      | [], h => simp at h
      | [a], h => simp at h
      | b :: a :: r, h => simp at h ⊢; exact h
  · rw [if_neg h6] at h ⊢
    by_cases h3 : st.length < 31
    · rw [if_pos h3] at h
      rw [if_neg (by omega)]
      cases h
      split <;> rfl
    · rw [if_neg h3] at h
      cases h
theorem enc_name : ∀ n, n < 6 → encC (nI n) = (-1) - nI n ∧ encC (nI n) < 0 ∧ ¬ encC (nI n) < -6 ∧ ((-1) - encC (nI n)).toNatClampNeg = n ∧ ¬ 100000 ≤ nI n ∧ ¬ 11 ≤ nI n := by decide +kernel
theorem enc_sign : ∀ n, n < 9 → encC (nI (11 + n)) < -6 ∧ ¬ 100000 ≤ nI (11 + n) ∧ 11 ≤ nI (11 + n) ∧ (encC (nI (11 + n)) = -9 ↔ nI (11 + n) = 13) ∧ (encC (nI (11 + n)) = -10 ↔ nI (11 + n) = 19) := by decide +kernel
theorem enc_num {n : Nat} (h : n < 10000) : encC (nI (100000 + n)) = nI n ∧ 100000 ≤ nI (100000 + n) ∧ 11 ≤ nI (100000 + n) ∧ ¬ encC (nI (100000 + n)) < 0 ∧ ¬ encC (nI (100000 + n)) < -6 := by
  have h1 : (100000 : Int32) ≤ nI (100000 + n) := (nI_leI (a := 100000) (by omega) (by omega)).mpr (by omega)
  have e : encC (nI (100000 + n)) = nI n := by
    unfold encC
    rw [if_pos h1, show (100000 : Int32) = nI 100000 from rfl, pk_sub (by omega), show 100000 + n - 100000 = n by omega]
  have h0 : ¬ nI n < 0 := nI_pos (by omega)
  refine ⟨e, h1, (nI_leI (a := 11) (by omega) (by omega)).mpr (by omega), by rw [e]; exact h0, ?_⟩
  rw [e]
  intro q
  have a := Int32.lt_iff_toInt_lt.mp q
  rw [nI_toInt (by omega), show (-6 : Int32).toInt = -6 by decide] at a
  omega
theorem two_ev (M : Mem) (n : Nat) (hn : n < 9) (h13 : ¬ nI (11 + n) = 13) (h19 : ¬ nI (11 + n) = 19) (a b : Int32) : fX11_two (nI (11 + n)) a b M = some (op2 (encC (nI (11 + n))) a b, M) := by
  have hc : n = 0 ∨ n = 1 ∨ n = 3 ∨ n = 4 ∨ n = 5 ∨ n = 6 ∨ n = 7 := by
    have h2 : n ≠ 2 := fun e => h13 (by subst e; rfl)
    have h8 : n ≠ 8 := fun e => h19 (by subst e; rfl)
    omega
  rcases hc with rfl | rfl | rfl | rfl | rfl | rfl | rfl
  · rw [show encC (nI (11 + 0)) = -7 by decide]
    show fX11_two 11 a b M = _
    by_cases ha : a = 0 <;> by_cases hb : b = 0 <;> simp [fX11_two, op2, ha, hb, bt]
  · rw [show encC (nI (11 + 1)) = -8 by decide]
    show fX11_two 12 a b M = _
    by_cases ha : a = 0 <;> by_cases hb : b = 0 <;> simp [fX11_two, op2, ha, hb, bt]
  · rw [show encC (nI (11 + 3)) = -60 by decide]
    show fX11_two 14 a b M = _
    by_cases h : a < b
    · have : ¬ b ≤ a := Int32.not_le.mpr h
      simp [fX11_two, op2, h, this, bt]
    · have : b ≤ a := Int32.not_lt.mp h
      simp [fX11_two, op2, h, this, bt]
  · rw [show encC (nI (11 + 4)) = -61 by decide]
    show fX11_two 15 a b M = _
    by_cases h : a = b <;> simp [fX11_two, op2, h, bt]
  · rw [show encC (nI (11 + 5)) = -43 by decide]
    show fX11_two 16 a b M = _
    simp [fX11_two, op2]
  · rw [show encC (nI (11 + 6)) = -45 by decide]
    show fX11_two 17 a b M = _
    simp [fX11_two, op2]
  · rw [show encC (nI (11 + 7)) = -42 by decide]
    show fX11_two 18 a b M = _
    simp [fX11_two, op2]
set_option maxRecDepth 20000 in
set_option maxHeartbeats 1000000 in
theorem saysM_ev {M : Mem} {t part : Nat} {b : Nat → Nat} (hp : part < 3) (ht : t < 6) (hr : M 22 0 12 = nI t) (hb : ∀ q, q < 4 → M 30 0 (4 * t + q) = nI (b q) ∧ b q ≤ 160) (hm : b part ≤ b (part + 1)) (hc : ∀ i, b part ≤ i → i < b (part + 1) → okc (M 29 0 (200 * t + i)))
    (hw : runD (fun i => encC (M 29 0 (200 * t + i))) (b (part + 1) - b part) (b part) 0 = some 1) :
    Ev (fX11_says (nI part) M) (fun v M' => v = topW (evX (fun i => encC (M 29 0 (200 * t + i))) (M 40 0) (b (part + 1) - b part) (b part) []) ∧ Off (fun K _ => K = 39) M M') := by
  have i4 : ∀ z, z < 5 → (4 : Int32) * nI t + nI z = nI (4 * t + z) := fun z _ => by rw [show (4 : Int32) = nI 4 from rfl, nI_mulB, nI_add]
  unfold fX11_says
  rw [hr, i4 part (by omega)]
  refine Ev.gd (inb_nI (by omega) (by decide)) ?_
  show Ev (fX11_says_L16 (nI part) FU 0 (M 30 0 (nI (4 * t + part)).toNatClampNeg) M) _
  rw [nI_clamp (by omega), (hb part (by omega)).1]
  have hb0 := (hb part (by omega)).2
  have hb1 := hb (part + 1) (by omega)
  generalize hcd : (fun i => encC (M 29 0 (200 * t + i))) = cd at hw
  refine Ev.loop (f := fun n (x : Int32 × Int32) M => fX11_says_L16 (nI part) n x.1 x.2 M) (B := fun k x M => fX11_says_B16 (nI part) (fun a b M => k (a, b) M) x.1 x.2 M) (fun _ _ _ => rfl) (b (part + 1) - b part)
    (fun j x M' => x = (nI (evX cd (M 40 0) j (b part) []).length, nI (b part + j)) ∧ Stk (M' 39 0) (evX cd (M 40 0) j (b part) []) ∧ runD cd (b (part + 1) - b part - j) (b part + j) (evX cd (M 40 0) j (b part) []).length = some 1 ∧ Off (fun K _ => K = 39) M M') ?_ ?_ FU 0 (0, nI (b part)) M (Nat.zero_le _) (by show _ < 2000 + 0; omega) ⟨rfl, fun k hk => absurd hk (Nat.not_lt_zero _), hw, Off.rf⟩
  · rintro k j x M' hj ⟨rfl, hst, hrun, hoff⟩ hk
    have hl := evX_len cd (M 40 0) j (b part)
    have hs := evX_succ cd (M 40 0) j (b part) []
    generalize evX cd (M 40 0) j (b part) [] = st at hst hl hs hk hrun
    have e22 : M' 22 0 = M 22 0 := hoff.at (fun h => absurd h (by decide))
    have e30 : M' 30 0 = M 30 0 := hoff.at (fun h => absurd h (by decide))
    have e29 : M' 29 0 = M 29 0 := hoff.at (fun h => absurd h (by decide))
    have e40 : M' 40 0 = M 40 0 := hoff.at (fun h => absurd h (by decide))
    show Ev (fX11_says_B16 (nI part) (fun a b M => k (a, b) M) (nI st.length) (nI (b part + j)) M') _
    unfold fX11_says_B16
    rw [e22, hr, i4 part (by omega), nI_1]
    refine Ev.gd (inb_nI (by omega) (by decide)) ?_
    rw [nI_clamp (show 4 * t + part + 1 < 2 ^ 31 by omega), e30, show 4 * t + part + 1 = 4 * t + (part + 1) by omega, hb1.1, if_neg (fun q => by have := (nI_leI (by omega) (by omega)).mp q; omega)]
    rw [show (200 : Int32) * nI t + nI (b part + j) = nI (200 * t + (b part + j)) by rw [show (200 : Int32) = nI 200 from rfl, nI_mulB, nI_add]]
    refine Ev.gd (inb_nI (by omega) (by omega)) ?_
    show Ev (ite (100000 ≤ M' 29 0 (nI (200 * t + (b part + j))).toNatClampNeg) _ _) _
    rw [e29, nI_clamp (show 200 * t + (b part + j) < 2 ^ 31 by omega)]
    have hok := hc (b part + j) (by omega) (by omega)
    have hcw : cd (b part + j) = encC (M 29 0 (200 * t + (b part + j))) := by rw [← hcd]
    generalize hwd : M 29 0 (200 * t + (b part + j)) = w at hok hcw
    rw [hcw] at hs
    obtain ⟨m, hm1⟩ : ∃ m, b (part + 1) - b part - j = m + 1 := ⟨b (part + 1) - b part - j - 1, by omega⟩
    rw [hm1] at hrun
    obtain ⟨d, hd, hrun'⟩ : ∃ d, dep (encC w) st.length = some d ∧ runD cd m (b part + j + 1) d = some 1 := by
      unfold runD at hrun
      rw [hcw] at hrun
      cases h : dep (encC w) st.length with
      | none => rw [h] at hrun; cases hrun
      | some d => rw [h] at hrun; exact ⟨d, rfl, hrun⟩
    have hdl := dep_len (nm := M 40 0) hd
    have go : ∀ (M2 : Mem), Stk (M2 39 0) (stX (M 40 0) (encC w) st) → Off (fun K _ => K = 39) M M2 → Ev (k (nI (stX (M 40 0) (encC w) st).length, nI (b part + j) + 1) M2) (fun v M' => v = topW (evX cd (M 40 0) (b (part + 1) - b part) (b part) []) ∧ Off (fun K _ => K = 39) M M') := fun M2 h1 h2 => by
      rw [nI_1]
      refine hk _ M2 ⟨by rw [hs]; rfl, by rw [hs]; exact h1, ?_, h2⟩
      rw [hs, hdl, show b (part + 1) - b part - (j + 1) = m by omega, show b part + (j + 1) = b part + j + 1 by omega]
      exact hrun'
    have off1 : ∀ (s : Nat) (v : Int32), Off (fun K _ => K = 39) M (mst M' 39 0 s v) := fun s v => hoff.mst rfl
    have push : ∀ v : Int32, ¬ encC w < -6 → stX (M 40 0) (encC w) st = v :: st → Ev (k (nI st.length + 1, nI (b part + j) + 1) (mst M' 39 0 st.length v)) (fun v M' => v = topW (evX cd (M 40 0) (b (part + 1) - b part) (b part) []) ∧ Off (fun K _ => K = 39) M M') := fun v _ hx => by
      have := go (mst M' 39 0 st.length v) (by rw [hx, mst_s]; exact hst.push _) (off1 _ _)
      rw [hx, List.length_cons, ← nI_1] at this
      exact this
    have room : ¬ encC w < -6 → st.length < 31 := fun h => by
      unfold dep at hd
      rw [if_neg h] at hd
      by_cases q : st.length < 31
      · exact q
      · rw [if_neg q] at hd; cases hd
    rcases hok with ⟨n, hn, rfl⟩ | ⟨n, hn, rfl⟩ | ⟨n, hn, rfl⟩
    · obtain ⟨q1, q2, q3, q4, q5⟩ := enc_num hn
      have hr31 := room q5
      rw [if_pos q2]
      unfold fX11_says_J66
      rw [if_pos q3]
      refine Ev.gd (inb_nI (by omega) (by omega)) ?_
      have := push (nI n) q5 (by simp only [stX, if_neg q5, if_neg (show ¬ 31 ≤ st.length by omega), if_neg q4]; rw [q1])
      rw [nI_clamp (show st.length < 2 ^ 31 by omega)]
      show Ev (k (nI st.length + 1, nI (b part + j) + 1) (mst M' 39 0 st.length (nI (100000 + n) - 100000))) _
      rw [show nI (100000 + n) - 100000 = nI n by rw [show (100000 : Int32) = nI 100000 from rfl, pk_sub (by omega), show 100000 + n - 100000 = n by omega]]
      exact this
    · obtain ⟨q1, q2, q3, q4, q5, q6⟩ := enc_name n hn
      have hr31 := room q3
      rw [if_neg q5, if_neg q6]
      unfold fX11_says_J66
      rw [if_neg q6]
      refine Ev.gd (inb_nI (by omega) (by omega)) ?_
      refine Ev.gd (inb_nI (by omega) (by omega)) ?_
      have := push (M 40 0 n) q3 (by simp only [stX, if_neg q3, if_neg (show ¬ 31 ≤ st.length by omega), if_pos q2, q4])
      rw [nI_clamp (show st.length < 2 ^ 31 by omega), nI_clamp (show n < 2 ^ 31 by omega)]
      show Ev (k (nI st.length + 1, nI (b part + j) + 1) (mst M' 39 0 st.length (M' 40 0 n))) _
      rw [e40]
      exact this
    · obtain ⟨q1, q2, q3, q4, q5⟩ := enc_sign n hn
      rw [if_neg q2, if_pos q3]
      by_cases h13 : nI (11 + n) = 13
      · have h9 := q4.mpr h13
        match st, hst, hl, go, hd with
        | [], _, _, _, hd => simp [dep, q1, h9] at hd
        | a :: rs, hst, hl, go, _ =>
          have hlr : rs.length < 31 := by simp at hl; omega
          have hx : ∀ v, v = op1 (-9) a → stX (M 40 0) (encC (nI (11 + n))) (a :: rs) = v :: rs := fun v hv => by rw [h9, hv]; rfl
          rw [if_pos h13, List.length_cons, nI_pred, nI_clamp (show rs.length < 2 ^ 31 by omega)]
          refine Ev.gd (inb_nI (by omega) (by omega)) ?_
          have go2 : ∀ v, v = op1 (-9) a → Ev (k (nI (rs.length + 1), nI (b part + j) + 1) (mst M' 39 0 rs.length v)) (fun v M' => v = topW (evX cd (M 40 0) (b (part + 1) - b part) (b part) []) ∧ Off (fun K _ => K = 39) M M') := fun v hv => by
            have := go (mst M' 39 0 rs.length v) (by rw [hx v hv, mst_s]; exact hst.pop.push _) (off1 _ _)
            rw [hx v hv] at this
            exact this
          rw [hst.top]
          refine Ev.ite (fun h0 => ?_) (fun h0 => ?_)
          · refine Ev.gd (inb_nI (by omega) (by omega)) ?_
            exact go2 1 (by simp [op1, h0])
          · refine Ev.gd (inb_nI (by omega) (by omega)) ?_
            exact go2 0 (by simp [op1, h0])
      · rw [if_neg h13]
        by_cases h19 : nI (11 + n) = 19
        · have h10 := q5.mpr h19
          match st, hst, hl, go, hd with
          | [], _, _, _, hd => simp [dep, q1, h10] at hd
          | a :: rs, hst, hl, go, _ =>
            have hlr : rs.length < 31 := by simp at hl; omega
            have hx : stX (M 40 0) (encC (nI (11 + n))) (a :: rs) = (-a) :: rs := by rw [h10]; rfl
            rw [if_pos h19, List.length_cons, nI_pred, nI_clamp (show rs.length < 2 ^ 31 by omega)]
            refine Ev.gd (inb_nI (by omega) (by omega)) ?_
            refine Ev.gd (inb_nI (by omega) (by omega)) ?_
            have := go (mst M' 39 0 rs.length (-a)) (by rw [hx, mst_s]; exact hst.pop.push _) (off1 _ _)
            rw [hx] at this
            rw [hst.top]
            exact this
        · rw [if_neg h19]
          have hno : ¬ (encC (nI (11 + n)) = -9 ∨ encC (nI (11 + n)) = -10) := fun q => q.elim (fun q => h13 (q4.mp q)) (fun q => h19 (q5.mp q))
          match st, hst, hl, go, hd with
          | [], _, _, _, hd => simp [dep, q1, hno] at hd
          | [a], _, _, _, hd => simp [dep, q1, hno] at hd
          | z :: a :: rs, hst, hl, go, _ =>
            have hlr : rs.length + 1 < 31 := by simp at hl; omega
            have hx : stX (M 40 0) (encC (nI (11 + n))) (z :: a :: rs) = op2 (encC (nI (11 + n))) a z :: rs := by simp only [stX, if_pos q1, if_neg hno]
            rw [List.length_cons, List.length_cons, nI_sub1, nI_pred, nI_clamp (show rs.length < 2 ^ 31 by omega), nI_clamp (show rs.length + 1 < 2 ^ 31 by omega)]
            refine Ev.gd (inb_nI (by omega) (by omega)) ?_
            refine Ev.gd (inb_nI (by omega) (by omega)) ?_
            rw [hst.pop.top, show M' 39 0 (rs.length + 1) = z from hst.top, two_ev M' n hn h13 h19]
            refine Ev.gd (inb_nI (by omega) (by omega)) ?_
            have := go (mst M' 39 0 rs.length (op2 (encC (nI (11 + n))) a z)) (by rw [hx, mst_s]; exact hst.pop.pop.push _) (off1 _ _)
            rw [hx] at this
            exact this
  · rintro k x M' ⟨rfl, hst, hrun, hoff⟩
    have hl := evX_len cd (M 40 0) (b (part + 1) - b part) (b part)
    generalize evX cd (M 40 0) (b (part + 1) - b part) (b part) [] = st at hst hl hrun
    have e22 : M' 22 0 = M 22 0 := hoff.at (fun h => absurd h (by decide))
    have e30 : M' 30 0 = M 30 0 := hoff.at (fun h => absurd h (by decide))
    show Ev (fX11_says_B16 (nI part) (fun a b M => k (a, b) M) (nI st.length) (nI (b part + (b (part + 1) - b part))) M') _
    unfold fX11_says_B16
    rw [e22, hr, i4 part (by omega), nI_1]
    refine Ev.gd (inb_nI (by omega) (by decide)) ?_
    rw [nI_clamp (show 4 * t + part + 1 < 2 ^ 31 by omega), e30, show 4 * t + part + 1 = 4 * t + (part + 1) by omega, hb1.1, if_pos ((nI_leI (by omega) (by omega)).mpr (by omega))]
    refine Ev.gd (by decide) (Ev.ret ⟨?_, hoff⟩)
    rw [Nat.sub_self] at hrun
    match st, hst, hrun with
    | [a], hst, _ => exact hst.top
    | [], _, hrun => cases hrun
    | z :: a :: rs, _, hrun => cases hrun
end SM
