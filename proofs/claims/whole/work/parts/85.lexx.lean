/-! the class's words -/
section XW
def kwS (c : Nat) : Nat := [0, 7, 13, 19, 22, 26, 30, 37, 41, 47, 51, 56, 61].getD c 0
def kwE (c : Nat) : Nat := [6, 12, 18, 21, 25, 29, 36, 40, 46, 50, 55, 60].getD c 0
def kwP (c : Nat) : Nat := [0, 1, 2, 9, 10, 11, 3, 4, 5, 6, 7, 8].getD c 0
theorem kw_t1 : ∀ c, c < 12 → kwP c < 12 ∧ kwS c < kwE c ∧ kwE c ≤ kwS c + 8 ∧ kwE c ≤ 60 ∧ kwS (c + 1) = kwE c + 1 ∧ wch (nI (kwE c)) = 32 := by decide +kernel
theorem kw_t2 : ∀ c, c < 12 → ∀ x, x < 8 → (x < kwE c - kwS c → wch (nI (kwS c + x)) = tbW (kwP c) x ∧ ¬ tbW (kwP c) x = 32) := by decide +kernel
theorem kw_t3 : ∀ c, c < 12 → ∀ x, x < 8 → (x < kwE c - kwS c ∨ tbW (kwP c) x = 32) := by decide +kernel
theorem kw_t4 : ∀ r, r < 12 → ∃ c, c < 12 ∧ kwP c = r := by decide +kernel
theorem kw_iff {b : Nat → Int32} {s e c : Nat} (hs : s ≤ e) (hc : c < 12) (hl : ∀ x, s ≤ x → x < e → lLet (b x) = true) : wm b s e (kwP c) = true ↔ kwE c - kwS c = e - s ∧ ∀ x, x < e - s → wch (nI (kwS c + x)) = b (s + x) := by
  obtain ⟨t1, t2, t3, t4, t5, t6⟩ := kw_t1 c hc
  have n32 : ∀ x, s ≤ x → x < e → ¬ b x = 32 := fun x h1 h2 q => by
    have := hl x h1 h2
    rw [q] at this
    exact absurd this (by decide)
  rw [wm_iff]
  constructor
  · rintro ⟨h8, h⟩
    have hL : kwE c - kwS c = e - s := by
      rcases Nat.lt_trichotomy (kwE c - kwS c) (e - s) with q | q | q
      · exfalso
        have h1 := h (kwE c - kwS c) (by omega)
        rw [if_pos (by omega)] at h1
        rcases kw_t3 c hc (kwE c - kwS c) (by omega) with z | z
        · omega
        · exact n32 _ (by omega) (by omega) (h1.symm.trans z)
      · exact q
      · exfalso
        have h1 := h (e - s) (by omega)
        rw [if_neg (by omega)] at h1
        exact (kw_t2 c hc (e - s) (by omega) q).2 h1
    refine ⟨hL, fun x hx => ?_⟩
    have h1 := h x (by omega)
    rw [if_pos (by omega)] at h1
    exact (kw_t2 c hc x (by omega) (by omega)).1.trans h1
  · rintro ⟨hL, h⟩
    refine ⟨by omega, fun x hx => ?_⟩
    by_cases q : x < e - s
    · rw [if_pos (by omega), ← h x q]
      exact (kw_t2 c hc x hx (by omega)).1.symm
    · rw [if_neg (by omega)]
      exact (kw_t3 c hc x hx).resolve_left (by omega)
def XT (b : Nat → Int32) (n : Nat) (N : Mem) : Prop := N 1 0 3 = nI n ∧ ∀ x, x < n → N 2 0 x = b x
theorem isWord_ev {b : Nat → Int32} {n s e c : Nat} (hn : n ≤ 160) (hs : s ≤ e) (he : e ≤ n) (hc : c < 12) (hl : ∀ x, s ≤ x → x < e → lLet (b x) = true) {N : Mem} (h : XT b n N) (h7 : N 1 0 7 = nI s) (h8 : N 1 0 8 = nI e) : Ev (fX4_isWord (nI (kwS c)) (nI (kwE c)) N) (fun r N' => r = bt (wm b s e (kwP c)) ∧ N' = N) := by
  obtain ⟨t1, t2, t3, t4, t5, t6⟩ := kw_t1 c hc
  have W := kw_iff hs hc hl
  unfold fX4_isWord
  rw [h7, h8, pk_sub (show kwS c ≤ kwE c by omega), pk_sub hs]
  by_cases q : kwE c - kwS c = e - s
  · rw [if_pos (by rw [q])]
    refine Ev.loop (f := fX4_isWord_L19 (nI (kwS c)) (nI (kwE c))) (B := fX4_isWord_B19 (nI (kwS c)) (nI (kwE c))) (fun _ _ _ => rfl) (kwE c) (fun j x M => M = N ∧ x = nI j ∧ kwS c ≤ j ∧ ∀ i, i < j - kwS c → wch (nI (kwS c + i)) = b (s + i)) ?_ ?_ FU (kwS c) (nI (kwS c)) N (by omega) (by show _ < 2000 + kwS c; omega) ⟨rfl, rfl, Nat.le_refl _, fun i hi => by omega⟩
    · rintro k j x M hj ⟨rfl, rfl, g1, g2⟩ cont
      unfold fX4_isWord_B19 fKch
      rw [if_neg (fun z => by have := (nI_leI (by omega) (by omega)).mp z; omega)]
      rw [show inb (nI j) 61 = true from inb_nI (by omega) (by decide)]
      show Ev (gd (inb ((M 1 0 7 + nI j) - nI (kwS c)) 160) (if wch (nI j) = M 2 0 ((M 1 0 7 + nI j) - nI (kwS c)).toNatClampNeg then k (nI j + 1) M else some (0, M))) _
      rw [h7, nI_add, pk_sub (show kwS c ≤ s + j by omega), nI_clamp (show s + j - kwS c < 2 ^ 31 by omega), h.2 (s + j - kwS c) (by omega), nI_1]
      refine Ev.gd (inb_nI (by omega) (by decide)) ?_
      by_cases w : wch (nI j) = b (s + j - kwS c)
      · rw [if_pos w]
        refine cont _ _ ⟨rfl, rfl, by omega, fun i hi => ?_⟩
        by_cases z : i = j - kwS c
        · rw [z, show kwS c + (j - kwS c) = j by omega, show s + (j - kwS c) = s + j - kwS c by omega]; exact w
        · exact g2 i (by omega)
      · rw [if_neg w]
        refine Ev.ret ⟨?_, rfl⟩
        cases hw : wm b s e (kwP c) with
        | false => rfl
        | true =>
          have := (W.mp hw).2 (j - kwS c) (by omega)
          rw [show kwS c + (j - kwS c) = j by omega, show s + (j - kwS c) = s + j - kwS c by omega] at this
          exact absurd this w
    · rintro k x M ⟨rfl, rfl, g1, g2⟩
      unfold fX4_isWord_B19
      rw [if_pos ((nI_leI (by omega) (by omega)).mpr (Nat.le_refl _))]
      refine Ev.ret ⟨?_, rfl⟩
      rw [W.mpr ⟨q, fun x hx => g2 x (by omega)⟩]
      rfl
  · rw [if_neg (fun z => q (nI_inj32 (by omega) (by omega) z))]
    refine Ev.ret ⟨?_, rfl⟩
    cases hw : wm b s e (kwP c) with
    | false => rfl
    | true => exact absurd (W.mp hw).1 q
end XW
