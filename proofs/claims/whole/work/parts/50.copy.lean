/-! copy -/
section CP
def hRb (sz i n : Int32) : Bool := !decide (i < 0) && !decide (n < 0) && !decide (sz < i) && !decide (sz - i < n)
theorem hR_ev {s : Nat} {i n : Int32} (M : Mem) : fX6_holdsRange s i n M = some (bt (hRb (M 13 s 2) i n), M) := by
  unfold fX6_holdsRange hRb
  by_cases h1 : i < 0
  · simp [h1, bt]
  · by_cases h2 : n < 0
    · simp [h2, bt]
    · by_cases h3 : M 13 s 2 < i
      · simp [h1, h2, h3, bt]
      · by_cases h4 : M 13 s 2 - i < n
        · simp [h1, h2, h3, h4, bt]
        · simp [h1, h2, h3, h4, bt]
theorem hR_nat {m : Nat} {i n : Int32} (hm : m ≤ 40) (h : hRb (nI m) i n = true) : ∃ i' n', i = nI i' ∧ n = nI n' ∧ i' + n' ≤ m := by
  unfold hRb at h
  simp only [Bool.and_eq_true, Bool.not_eq_true', decide_eq_false_iff_not] at h
  obtain ⟨⟨⟨h1, h2⟩, h3⟩, h4⟩ := h
  obtain ⟨a, ha, rfl⟩ := nI_of h1
  obtain ⟨b, hb, rfl⟩ := nI_of h2
  have a1 : a ≤ m := by
    by_cases q : m < a
    · exact absurd ((nI_ltI (by omega) (by omega)).mpr q) h3
    · omega
  rw [pk_sub a1] at h4
  have b1 : b ≤ m - a := by
    by_cases q : m - a < b
    · exact absurd ((nI_ltI (by omega) (by omega)).mpr q) h4
    · omega
  exact ⟨a, b, rfl, rfl, by omega⟩
def cpyF (f g : Nat → Int32) (i j n : Nat) : Nat → Int32 := fun x => if j ≤ x ∧ x < j + n then f (i + (x - j)) else g x
def copyA (v i w j n : Int32) (V : Nat → Sh) : Int32 := if bt (decide (0 ≤ v) && decide (v ≤ 3)) = 0 then -2 else if bt (decide (0 ≤ w) && decide (w ≤ 3)) = 0 then -2 else if (V v.toNatClampNeg).1 = -1 then -11 else if (V w.toNatClampNeg).1 = -1 then -11 else if (V v.toNatClampNeg).1 = (V w.toNatClampNeg).1 then (if (hRb (V v.toNatClampNeg).2.1 i n && hRb (V w.toNatClampNeg).2.1 j n) = true then n else -12) else -13
def copyV (v i w j n : Int32) (V : Nat → Sh) : Nat → Sh := if bt (decide (0 ≤ v) && decide (v ≤ 3)) = 0 then V else if bt (decide (0 ≤ w) && decide (w ≤ 3)) = 0 then V else if (V v.toNatClampNeg).1 = -1 then V else if (V w.toNatClampNeg).1 = -1 then V else if (V v.toNatClampNeg).1 = (V w.toNatClampNeg).1 then (if (hRb (V v.toNatClampNeg).2.1 i n && hRb (V w.toNatClampNeg).2.1 j n) = true then updS V w.toNatClampNeg ((V w.toNatClampNeg).1, (V w.toNatClampNeg).2.1, cpyF (V v.toNatClampNeg).2.2 (V w.toNatClampNeg).2.2 i.toNatClampNeg j.toNatClampNeg n.toNatClampNeg) else V) else V
theorem copyX_ev {T : Nat} {M : Mem} (h : RelT T M) (v i w j n : Int32) : Ev (fX10_copy v i w j n M) (fun r M1 => r = copyA v i w j n (fun s => shX s M) ∧ (∀ s, s < 4 → shX s M1 = copyV v i w j n (fun s => shX s M) s) ∧ ∀ K i, keptK K i → K ≠ 13 → K ≠ 14 → M1 K i = M K i) := by
  have hok := fun s hs => (h.2.2.2.2.2.2.2.2.1.eq (s := s) hs).2
  unfold fX10_copy copyA copyV
  rw [sheetX_is, ob_some]
  refine Ev.ite (fun h0 => Ev.ret ⟨by rw [if_pos h0], fun s _ => by rw [if_pos h0], fun _ _ _ _ _ => rfl⟩) (fun h0 => ?_)
  rw [sheetX_is, ob_some, if_neg h0, if_neg h0]
  refine Ev.ite (fun h1 => Ev.ret ⟨by rw [if_pos h1], fun s _ => by rw [if_pos h1], fun _ _ _ _ _ => rfl⟩) (fun h1 => ?_)
  rw [if_neg h1, if_neg h1]
  obtain ⟨s, hs, rfl⟩ := rng (n := 3) (by decide) (not_bt h0)
  obtain ⟨o, ho, rfl⟩ := rng (n := 3) (by decide) (not_bt h1)
  rw [nI_clamp (show s < 2 ^ 31 by omega), nI_clamp (show o < 2 ^ 31 by omega)]
  refine Ev.gd (inb_nI (by omega) (by decide)) (Ev.gd (inb_nI (by omega) (by decide)) ?_)
  show Ev (ite ((shX s M).1 = -1) _ _) _
  refine Ev.ite (fun h2 => Ev.ret ⟨by rw [if_pos h2], fun s _ => by rw [if_pos h2], fun _ _ _ _ _ => rfl⟩) (fun h2 => ?_)
  rw [if_neg h2, if_neg h2]
  show Ev (ite ((shX o M).1 = -1) _ _) _
  refine Ev.ite (fun h3 => Ev.ret ⟨by rw [if_pos h3], fun s _ => by rw [if_pos h3], fun _ _ _ _ _ => rfl⟩) (fun h3 => ?_)
  rw [if_neg h3, if_neg h3]
  show Ev (ite ((shX s M).1 = (shX o M).1) _ _) _
  refine Ev.ite (fun h4 => ?_) (fun h4 => Ev.ret ⟨by rw [if_neg h4], fun s _ => by rw [if_neg h4], fun _ _ _ _ _ => rfl⟩)
  rw [if_pos h4, if_pos h4, hR_ev, ob_some]
  show Ev (ite (bt (hRb (shX s M).2.1 i n) = 0) _ _) _
  refine Ev.ite (fun h5 => ?_) (fun h5 => ?_)
  · rw [bt_0] at h5
    rw [h5]
    exact Ev.ret ⟨rfl, fun _ _ => rfl, fun _ _ _ _ _ => rfl⟩
  · rw [bt_0, Bool.not_eq_false] at h5
    rw [h5, hR_ev, ob_some]
    show Ev (ite (bt (hRb (shX o M).2.1 j n) = 0) _ _) _
    refine Ev.ite (fun h6 => ?_) (fun h6 => ?_)
    · rw [bt_0] at h6
      rw [h6]
      exact Ev.ret ⟨rfl, fun _ _ => rfl, fun _ _ _ _ _ => rfl⟩
    · rw [bt_0, Bool.not_eq_false] at h6
      rw [h6, if_pos (by decide), if_pos (by decide)]
      obtain ⟨m1, hm1, e1⟩ := (hok s (by omega)).2
      obtain ⟨m2, hm2, e2⟩ := (hok o (by omega)).2
      rw [e1] at h5
      rw [e2] at h6
      obtain ⟨a, n', rfl, rfl, l1⟩ := hR_nat hm1 h5
      obtain ⟨b, n2, rfl, en, l2⟩ := hR_nat hm2 h6
      have : n' = n2 := by
        by_cases q : n2 < 2 ^ 31
        · exact (nI_eq (by omega) q).mp en
        · omega
      subst this
      have ca := nI_clamp (show a < 2 ^ 31 by omega)
      have cb := nI_clamp (show b < 2 ^ 31 by omega)
      have cn := nI_clamp (show n' < 2 ^ 31 by omega)
      refine Ev.gd ?_ (Ev.let_ fun M11 h11 => Ev.ret ?_)
      · unfold cpk
        rw [ca, cb, cn]
        simp only [Bool.and_eq_true, decide_eq_true_eq]
        exact ⟨⟨⟨⟨nI_pos' (by omega), nI_pos' (by omega)⟩, nI_pos' (by omega)⟩, by omega⟩, by omega⟩
      · rw [ca, cb, cn] at h11
        rw [ca, cb, cn]
        have hoff : Off (scH o) M M11 := by rw [h11]; exact Off.rf.mrow ⟨Or.inr rfl, rfl⟩
        refine ⟨rfl, updS_X hoff ?_, scH_off hoff⟩
        unfold shX
        rw [h11, mrow_n (by simp), mrow_s]
        refine Prod.ext rfl (Prod.ext rfl ?_)
        funext y
        show (if y < 40 then va_cpy (M 14 s) (M 14 o) a b n' y else 0) = cpyF (fun i => if i < 40 then M 14 s i else 0) (fun i => if i < 40 then M 14 o i else 0) a b n' y
        unfold va_cpy cpyF
        by_cases e : b ≤ y ∧ y < b + n'
        · rw [if_pos e, if_pos e, if_pos (by omega)]
          show _ = (if a + (y - b) < 40 then M 14 s (a + (y - b)) else 0)
          rw [if_pos (by omega)]
        · rw [if_neg e, if_neg e]
theorem copyM_loop {N : Mem} {a b n : Nat} (ha : a + n ≤ 160) (hb : b + n ≤ 160) {Q : Int32 → Mem → Prop} (hQ : ∀ N1, (∀ y, N1 35 0 y = if b ≤ y ∧ y < b + n then N 35 0 (a + (y - b)) else N 35 0 y) → Off (fun K i => K = 35 ∧ i = 0) N N1 → Q (nI n) N1) : Ev (fX11_copy_L147 (nI n) (nI a) (nI b) FU 0 N) Q := by
  refine Ev.loop (f := fun m (x : Int32) M => fX11_copy_L147 (nI n) (nI a) (nI b) m x M) (B := fun k x M => fX11_copy_B147 (nI n) (nI a) (nI b) k x M) (fun _ _ _ => rfl) n
    (fun j x N1 => x = nI j ∧ (∀ y, N1 35 0 y = if (if a < b then b + (n - j) ≤ y ∧ y < b + n else b ≤ y ∧ y < b + j) then N 35 0 (a + (y - b)) else N 35 0 y) ∧ Off (fun K i => K = 35 ∧ i = 0) N N1) ?_ ?_ FU 0 (nI 0) N (Nat.zero_le _) (by show _ < 2000 + 0; omega) ⟨rfl, fun y => ?_, Off.rf⟩
  · rintro k j x N1 hj ⟨rfl, hy, hoff⟩ hk
    have go : ∀ z : Nat, z < n → (if a < b then z = n - 1 - j else z = j) → Ev (fX11_copy_J173 k (nI n) (nI a) (nI b) (nI j) (nI z) N1) Q := by
      intro z hz hzz
      unfold fX11_copy_J173
      rw [nI_add, nI_add]
      refine Ev.gd (inb_nI (by omega) (by decide)) (Ev.gd (inb_nI (by omega) (by decide)) (Ev.let_ fun N7 h7 => ?_))
      rw [nI_clamp (show a + z < 2 ^ 31 by omega), nI_clamp (show b + z < 2 ^ 31 by omega)] at h7
      rw [nI_1]
      refine hk _ N7 ⟨rfl, fun y => ?_, by rw [h7]; exact hoff.mst ⟨rfl, rfl⟩⟩
      rw [h7, mst_s]
      have hrd := hy (a + z)
      by_cases hab : a < b
      · rw [if_pos hab] at hzz
        rw [if_neg (show ¬ (if a < b then b + (n - j) ≤ a + z ∧ a + z < b + n else b ≤ a + z ∧ a + z < b + j) by rw [if_pos hab]; omega)] at hrd
        by_cases e : y = b + z
        · subst e
          rw [if_pos (show (if a < b then b + (n - (j + 1)) ≤ b + z ∧ b + z < b + n else b ≤ b + z ∧ b + z < b + (j + 1)) by rw [if_pos hab]; omega)]
          simp only [upd, if_true, hrd]
          congr 1
          omega
        · simp only [upd, if_neg e, hy y]
          have : (if a < b then b + (n - (j + 1)) ≤ y ∧ y < b + n else b ≤ y ∧ y < b + (j + 1)) ↔ (if a < b then b + (n - j) ≤ y ∧ y < b + n else b ≤ y ∧ y < b + j) := by
            rw [if_pos hab, if_pos hab]; omega
          simp only [this]
      · rw [if_neg hab] at hzz
        rw [if_neg (show ¬ (if a < b then b + (n - j) ≤ a + z ∧ a + z < b + n else b ≤ a + z ∧ a + z < b + j) by rw [if_neg hab]; omega)] at hrd
        by_cases e : y = b + z
        · subst e
          rw [if_pos (show (if a < b then b + (n - (j + 1)) ≤ b + z ∧ b + z < b + n else b ≤ b + z ∧ b + z < b + (j + 1)) by rw [if_neg hab]; omega)]
          simp only [upd, if_true, hrd]
          congr 1
          omega
        · simp only [upd, if_neg e, hy y]
          have : (if a < b then b + (n - (j + 1)) ≤ y ∧ y < b + n else b ≤ y ∧ y < b + (j + 1)) ↔ (if a < b then b + (n - j) ≤ y ∧ y < b + n else b ≤ y ∧ y < b + j) := by
            rw [if_neg hab, if_neg hab]; omega
          simp only [this]
    show Ev (fX11_copy_B147 (nI n) (nI a) (nI b) k (nI j) N1) _
    unfold fX11_copy_B147
    rw [if_neg (fun q => by have := (nI_leI (by omega) (by omega)).mp q; omega)]
    refine Ev.ite (fun e => ?_) (fun e => ?_)
    · have := (nI_leI (by omega) (by omega)).mp e
      exact go j hj (by rw [if_neg (by omega)])
    · have hab : a < b := by
        by_cases q : a < b
        · exact q
        · exact absurd ((nI_leI (by omega) (by omega)).mpr (by omega)) e
      rw [show nI n - 1 = nI (n - 1) from pk_sub (b := 1) (by omega), pk_sub (show j ≤ n - 1 by omega)]
      exact go (n - 1 - j) (by omega) (by rw [if_pos hab])
  · rintro k x N1 ⟨rfl, hy, hoff⟩
    show Ev (fX11_copy_B147 (nI n) (nI a) (nI b) k (nI n) N1) _
    unfold fX11_copy_B147
    rw [if_pos ((nI_leI (by omega) (by omega)).mpr (Nat.le_refl _))]
    refine Ev.ret (hQ N1 (fun y => ?_) hoff)
    rw [hy y]
    have : (if a < b then b + (n - n) ≤ y ∧ y < b + n else b ≤ y ∧ y < b + n) ↔ (b ≤ y ∧ y < b + n) := by
      split <;> omega
    simp only [this]
  · rw [if_neg]
    split <;> omega
theorem copy_same (v i w j n : Int32) : Same (fX10_copy v i w j n) (fX11_copy v i w j n) := by
  refine Same.sheet (fun M => copyA v i w j n (fun s => shX s M)) (fun M => copyV v i w j n (fun s => shX s M)) ?_ (fun T M h => copyX_ev h v i w j n) ?_
  · intro T M h s hs
    have h0 := fun s hs => (h.2.2.2.2.2.2.2.2.1.eq (s := s) hs).2
    unfold copyV
    repeat' split
    all_goals first
      | exact h0 s hs
      | (unfold updS
         split
         · rename_i e
           have := h0 s hs
           rw [e] at this
           exact this
         · exact h0 s hs)
  · intro T M N h hT hI hvN hs hk
    have hok := fun s hs => (h.2.2.2.2.2.2.2.2.1.eq (s := s) hs).2
    have hsh : ∀ s, s < 4 → shM s N = shX s M := fun s hs => by
      rw [shM_eq (hk 33 0 (by decide) (by simp [keptK])) (hk 34 0 (by decide) (by simp [keptK])) (hk 35 0 (by decide) (by simp [keptK]))]
      exact (h.2.2.2.2.2.2.2.2.1.eq hs).1.symm
    have refu : ∀ (r A : Int32) (W : Nat → Sh), r = A → (∀ s, s < 4 → shX s M = W s) → Ev (some (r, N)) (fun r N1 => ∃ B, r = A ∧ (∀ s, s < 4 → shM s B = W s) ∧ (∀ K i, K ≠ 33 → K ≠ 34 → K ≠ 35 → B K i = N K i) ∧ Lk B N1) :=
      fun r A W h1 h2 => Ev.ret ⟨N, h1, fun s hs => by rw [hsh s hs]; exact h2 s hs, fun _ _ _ _ _ => rfl, Lk.rf⟩
    unfold fX11_copy copyA copyV
    rw [in_ev, ob_some]
    refine Ev.ite (fun h0 => refu _ _ _ (by rw [if_pos h0]) (fun s _ => by rw [if_pos h0])) (fun h0 => ?_)
    rw [in_ev, ob_some, if_neg h0, if_neg h0]
    refine Ev.ite (fun h1 => refu _ _ _ (by rw [if_pos h1]) (fun s _ => by rw [if_pos h1])) (fun h1 => ?_)
    rw [if_neg h1, if_neg h1]
    obtain ⟨s, hs, rfl⟩ := rng (n := 3) (by decide) (not_bt h0)
    obtain ⟨o, ho, rfl⟩ := rng (n := 3) (by decide) (not_bt h1)
    have is4 : inb (nI s) 4 = true := inb_nI (by omega) (by decide)
    have io4 : inb (nI o) 4 = true := inb_nI (by omega) (by decide)
    have es33 : N 33 0 s = (shX s M).1 := by rw [← hsh s (by omega)]; rfl
    have es34 : N 34 0 s = (shX s M).2.1 := by rw [← hsh s (by omega)]; rfl
    have eo33 : N 33 0 o = (shX o M).1 := by rw [← hsh o (by omega)]; rfl
    have eo34 : N 34 0 o = (shX o M).2.1 := by rw [← hsh o (by omega)]; rfl
    rw [nI_clamp (show s < 2 ^ 31 by omega), nI_clamp (show o < 2 ^ 31 by omega), es33, eo33, es34, eo34]
    refine Ev.gd is4 (Ev.ite (fun h2 => refu _ _ _ (by rw [if_pos h2]) (fun s _ => by rw [if_pos h2])) (fun h2 => ?_))
    rw [if_neg h2, if_neg h2]
    refine Ev.gd io4 (Ev.ite (fun h3 => refu _ _ _ (by rw [if_pos h3]) (fun s _ => by rw [if_pos h3])) (fun h3 => ?_))
    rw [if_neg h3, if_neg h3]
    refine Ev.gd is4 (Ev.gd io4 (Ev.ite (fun h4 => ?_) (fun h4 => refu _ _ _ (by rw [if_neg h4]) (fun s _ => by rw [if_neg h4]))))
    rw [if_pos h4, if_pos h4]
    have no : (hRb (shX s M).2.1 i n && hRb (shX o M).2.1 j n) = false → Ev (some ((-12 : Int32), N)) (fun r N1 => ∃ B, r = (if (hRb (shX s M).2.1 i n && hRb (shX o M).2.1 j n) = true then n else -12) ∧ (∀ z, z < 4 → shM z B = (if (hRb (shX s M).2.1 i n && hRb (shX o M).2.1 j n) = true then updS (fun s => shX s M) o ((shX o M).1, (shX o M).2.1, cpyF (shX s M).2.2 (shX o M).2.2 i.toNatClampNeg j.toNatClampNeg n.toNatClampNeg) else fun s => shX s M) z) ∧ (∀ K i, K ≠ 33 → K ≠ 34 → K ≠ 35 → B K i = N K i) ∧ Lk B N1) := fun hb => by
      rw [hb]
      exact refu _ _ _ rfl (fun _ _ => rfl)
    refine Ev.ite (fun g1 => no (by simp [hRb, g1])) (fun g1 => ?_)
    refine Ev.ite (fun g2 => no (by simp [hRb, g2])) (fun g2 => ?_)
    refine Ev.ite (fun g3 => no (by simp [hRb, g3])) (fun g3 => ?_)
    refine Ev.gd is4 (Ev.ite (fun g4 => no (by simp [hRb, g4])) (fun g4 => ?_))
    refine Ev.gd io4 (Ev.ite (fun g5 => no (by simp [hRb, g5])) (fun g5 => ?_))
    refine Ev.gd is4 (Ev.ite (fun g6 => no (by simp [hRb, g6])) (fun g6 => ?_))
    refine Ev.gd io4 (Ev.ite (fun g7 => ?_) (fun g7 => no (by simp [hRb, Int32.not_le.mp g7])))
    have b1 : hRb (shX s M).2.1 i n = true := by simp only [hRb, g1, g2, g4, g6]; decide
    have b2 : hRb (shX o M).2.1 j n = true := by simp only [hRb, g1, g3, g5, Int32.not_lt.mpr g7]; decide
    rw [b1, b2, if_pos (by decide), if_pos (by decide)]
    obtain ⟨m1, hm1, e1⟩ := (hok s (by omega)).2
    obtain ⟨m2, hm2, e2⟩ := (hok o (by omega)).2
    rw [e1] at b1
    rw [e2] at b2
    obtain ⟨a, n', rfl, rfl, l1⟩ := hR_nat hm1 b1
    obtain ⟨b, n2, rfl, en, l2⟩ := hR_nat hm2 b2
    have : n' = n2 := by
      by_cases q : n2 < 2 ^ 31
      · exact (nI_eq (by omega) q).mp en
      · omega
    subst this
    refine Ev.letv (Ev.letv ?_)
    rw [show (40 : Int32) = nI 40 from rfl, nI_mulB, nI_mulB, nI_add, nI_add, nI_clamp (show a < 2 ^ 31 by omega), nI_clamp (show b < 2 ^ 31 by omega), nI_clamp (show n' < 2 ^ 31 by omega)]
    refine copyM_loop (by omega) (by omega) (fun N1 c1 c2 => ⟨N1, rfl, fun y hy => ?_, fun K i _ _ d => c2.at (fun q => d q.1), Lk.rf⟩)
    have f33 : N1 33 0 = N 33 0 := c2.at (by simp)
    have f34 : N1 34 0 = N 34 0 := c2.at (by simp)
    have hy2 := hsh y hy
    unfold updS
    by_cases e : y = o
    · rw [if_pos e, e]
      show shM o N1 = ((shX o M).1, (shX o M).2.1, cpyF (shX s M).2.2 (shX o M).2.2 a b n')
      rw [← hsh o (by omega), ← hsh s (by omega)]
      unfold shM
      rw [f33, f34]
      refine Prod.ext rfl (Prod.ext rfl ?_)
      funext q
      show (if q < 40 then N1 35 0 (40 * o + q) else 0) = cpyF (fun i => if i < 40 then N 35 0 (40 * s + i) else 0) (fun i => if i < 40 then N 35 0 (40 * o + i) else 0) a b n' q
      unfold cpyF
      by_cases e2 : b ≤ q ∧ q < b + n'
      · rw [if_pos (by omega), if_pos e2, c1, if_pos (by omega)]
        show _ = (if a + (q - b) < 40 then N 35 0 (40 * s + (a + (q - b))) else 0)
        rw [if_pos (by omega)]
        congr 1
        omega
      · rw [if_neg e2]
        show _ = (if q < 40 then N 35 0 (40 * o + q) else 0)
        by_cases e3 : q < 40
        · rw [if_pos e3, if_pos e3, c1, if_neg (by omega)]
        · rw [if_neg e3, if_neg e3]
    · rw [if_neg e]
      show shM y N1 = shX y M
      rw [← hy2]
      unfold shM
      rw [f33, f34]
      refine Prod.ext rfl (Prod.ext rfl ?_)
      funext q
      show (if q < 40 then N1 35 0 (40 * y + q) else 0) = (if q < 40 then N 35 0 (40 * y + q) else 0)
      by_cases e3 : q < 40
      · rw [if_pos e3, if_pos e3, c1, if_neg (by omega)]
      · rw [if_neg e3, if_neg e3]
end CP
