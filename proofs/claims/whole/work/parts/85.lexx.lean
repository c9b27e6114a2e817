/-! the class's words -/
section XW
def kwS (c : Nat) : Nat := [0, 7, 13, 19, 22, 26, 30, 37, 41, 47, 51, 56, 61].getD c 0
def kwE (c : Nat) : Nat := [6, 12, 18, 21, 25, 29, 36, 40, 46, 50, 55, 60].getD c 0
def kwP (c : Nat) : Nat := [0, 1, 2, 9, 10, 11, 3, 4, 5, 6, 7, 8].getD c 0
theorem kw_t1 : ∀ c, c < 12 → kwP c < 12 ∧ kwS c < kwE c ∧ kwE c ≤ kwS c + 8 ∧ kwE c ≤ 60 ∧ kwS (c + 1) = kwE c + 1 ∧ wch (nI (kwE c)) = 32 := by decide +kernel
theorem kw_t2 : ∀ c, c < 12 → ∀ x, x < 8 → (x < kwE c - kwS c → wch (nI (kwS c + x)) = tbW (kwP c) x ∧ ¬ tbW (kwP c) x = 32) := by decide +kernel
theorem kw_t3 : ∀ c, c < 12 → ∀ x, x < 8 → (x < kwE c - kwS c ∨ tbW (kwP c) x = 32) := by decide +kernel
theorem kw_t4 : ∀ r, r < 12 → ∃ c, c < 12 ∧ kwP c = r := by decide +kernel
theorem kw_iff {b : Nat → Int32} {s e c : Nat} (hs : s ≤ e) (hc : c < 12) (hl : ∀ x, s ≤ x → x < e → lLet (b x) = true) : wm b s e (kwP c) = true ↔ kwE c - kwS c = e - s ∧ ∀ x, x < e - s → wch (nI (kwS c + x)) = b (s + x) := by
  obtain ⟨t1, t2, t3, t4, t5, t6⟩ := kw_t1 c hc
  have n32 : ∀ x, s ≤ x → x < e → ¬ b x = 32 := fun x h1 h2 q => by
    have := hl x h1 h2
    rw [q] at this
    exact absurd this (by decide)
  rw [wm_iff]
  constructor
  · rintro ⟨h8, h⟩
    have hL : kwE c - kwS c = e - s := by
      rcases Nat.lt_trichotomy (kwE c - kwS c) (e - s) with q | q | q
      · exfalso
        have h1 := h (kwE c - kwS c) (by omega)
        rw [if_pos (by omega)] at h1
        rcases kw_t3 c hc (kwE c - kwS c) (by omega) with z | z
        · omega
        · exact n32 _ (by omega) (by omega) (h1.symm.trans z)
      · exact q
      · exfalso
        have h1 := h (e - s) (by omega)
        rw [if_neg (by omega)] at h1
        exact (kw_t2 c hc (e - s) (by omega) q).2 h1
    refine ⟨hL, fun x hx => ?_⟩
    have h1 := h x (by omega)
    rw [if_pos (by omega)] at h1
    exact (kw_t2 c hc x (by omega) (by omega)).1.trans h1
  · rintro ⟨hL, h⟩
    refine ⟨by omega, fun x hx => ?_⟩
    by_cases q : x < e - s
    · rw [if_pos (by omega), ← h x q]
      exact (kw_t2 c hc x hx (by omega)).1.symm
    · rw [if_neg (by omega)]
      exact (kw_t3 c hc x hx).resolve_left (by omega)
def XT (b : Nat → Int32) (n : Nat) (N : Mem) : Prop := N 1 0 3 = nI n ∧ ∀ x, x < n → N 2 0 x = b x
theorem isWord_ev {b : Nat → Int32} {n s e c : Nat} (hn : n ≤ 160) (hs : s ≤ e) (he : e ≤ n) (hc : c < 12) (hl : ∀ x, s ≤ x → x < e → lLet (b x) = true) {N : Mem} (h : XT b n N) (h7 : N 1 0 7 = nI s) (h8 : N 1 0 8 = nI e) : Ev (fX4_isWord (nI (kwS c)) (nI (kwE c)) N) (fun r N' => r = bt (wm b s e (kwP c)) ∧ N' = N) := by
  obtain ⟨t1, t2, t3, t4, t5, t6⟩ := kw_t1 c hc
  have W := kw_iff hs hc hl
  unfold fX4_isWord
  rw [h7, h8, pk_sub (show kwS c ≤ kwE c by omega), pk_sub hs]
  by_cases q : kwE c - kwS c = e - s
  · rw [if_pos (by rw [q])]
    refine Ev.loop (f := fX4_isWord_L19 (nI (kwS c)) (nI (kwE c))) (B := fX4_isWord_B19 (nI (kwS c)) (nI (kwE c))) (fun _ _ _ => rfl) (kwE c) (fun j x M => M = N ∧ x = nI j ∧ kwS c ≤ j ∧ ∀ i, i < j - kwS c → wch (nI (kwS c + i)) = b (s + i)) ?_ ?_ FU (kwS c) (nI (kwS c)) N (by omega) (by show _ < 2000 + kwS c; omega) ⟨rfl, rfl, Nat.le_refl _, fun i hi => by omega⟩
    · rintro k j x M hj ⟨rfl, rfl, g1, g2⟩ cont
      unfold fX4_isWord_B19 fKch
      rw [if_neg (fun z => by have := (nI_leI (by omega) (by omega)).mp z; omega)]
      rw [show inb (nI j) 61 = true from inb_nI (by omega) (by decide)]
      show Ev (gd (inb ((M 1 0 7 + nI j) - nI (kwS c)) 160) (if wch (nI j) = M 2 0 ((M 1 0 7 + nI j) - nI (kwS c)).toNatClampNeg then k (nI j + 1) M else some (0, M))) _
      rw [h7, nI_add, pk_sub (show kwS c ≤ s + j by omega), nI_clamp (show s + j - kwS c < 2 ^ 31 by omega), h.2 (s + j - kwS c) (by omega), nI_1]
      refine Ev.gd (inb_nI (by omega) (by decide)) ?_
      by_cases w : wch (nI j) = b (s + j - kwS c)
      · rw [if_pos w]
        refine cont _ _ ⟨rfl, rfl, by omega, fun i hi => ?_⟩
        by_cases z : i = j - kwS c
        · rw [z, show kwS c + (j - kwS c) = j by omega, show s + (j - kwS c) = s + j - kwS c by omega]; exact w
        · exact g2 i (by omega)
      · rw [if_neg w]
        refine Ev.ret ⟨?_, rfl⟩
        cases hw : wm b s e (kwP c) with
        | false => rfl
        | true =>
          have := (W.mp hw).2 (j - kwS c) (by omega)
          rw [show kwS c + (j - kwS c) = j by omega, show s + (j - kwS c) = s + j - kwS c by omega] at this
          exact absurd this w
    · rintro k x M ⟨rfl, rfl, g1, g2⟩
      unfold fX4_isWord_B19
      rw [if_pos ((nI_leI (by omega) (by omega)).mpr (Nat.le_refl _))]
      refine Ev.ret ⟨?_, rfl⟩
      rw [W.mpr ⟨q, fun x hx => g2 x (by omega)⟩]
      rfl
  · rw [if_neg (fun z => q (nI_inj32 (by omega) (by omega) z))]
    refine Ev.ret ⟨?_, rfl⟩
    cases hw : wm b s e (kwP c) with
    | false => rfl
    | true => exact absurd (W.mp hw).1 q
theorem wnum_ev {b : Nat → Int32} {n s e : Nat} (hn : n ≤ 160) (hs : s ≤ e) (he : e ≤ n) (hl : ∀ x, s ≤ x → x < e → lLet (b x) = true) {N : Mem} (h : XT b n N) (h7 : N 1 0 7 = nI s) (h8 : N 1 0 8 = nI e) : Ev (fX4_wordNumber N) (fun r N' => N' = N ∧ ((r = -1 ∧ wdN b s e = 12) ∨ ∃ c, c < 12 ∧ r = nI c ∧ wdN b s e = kwP c)) := by
  unfold fX4_wordNumber
  refine Ev.loop (f := fun n (x : Int32 × Int32 × Int32) M => fX4_wordNumber_L6 n x.1 x.2.1 x.2.2 M) (B := fun k x M => fX4_wordNumber_B6 (fun a c d M => k (a, c, d) M) x.1 x.2.1 x.2.2 M) (fun _ _ _ => rfl) 61 (fun j x M => M = N ∧ x.2.2 = nI j ∧ ∃ c, c ≤ 12 ∧ x.1 = nI c ∧ x.2.1 = nI (kwS c) ∧ ((c < 12 ∧ kwS c ≤ j ∧ j ≤ kwE c) ∨ (c = 12 ∧ j = 61)) ∧ ∀ u, u < c → wm b s e (kwP u) = false) ?_ ?_ FU 0 (0, 0, 0) N (by omega) (by show 61 < 2000 + 0; omega) ⟨rfl, rfl, 0, by omega, rfl, rfl, Or.inl ⟨by omega, Nat.le_refl _, Nat.zero_le _⟩, fun u hu => absurd hu (Nat.not_lt_zero u)⟩
  · rintro k j ⟨x1, x2, x3⟩ M hj ⟨rfl, h3, c, hc, h1, h2, hr, hno⟩ cont
    have h3 : x3 = nI j := h3
    have h1 : x1 = nI c := h1
    have h2 : x2 = nI (kwS c) := h2
    subst h1 h2 h3
    obtain ⟨hc, r1, r2⟩ : c < 12 ∧ kwS c ≤ j ∧ j ≤ kwE c := by rcases hr with q | q; exact q; omega
    obtain ⟨t1, t2, t3, t4, t5, t6⟩ := kw_t1 c hc
    show Ev (fX4_wordNumber_B6 (fun a c d M => k (a, c, d) M) (nI c) (nI (kwS c)) (nI j) M) _
    unfold fX4_wordNumber_B6 fKlen fKch
    rw [ob_some, if_neg (fun z => by have := (nI_leI (a := 61) (by omega) (by omega)).mp z; omega), show inb (nI j) 61 = true from inb_nI (by omega) (by decide)]
    show Ev (if wch (nI j) = 32 then _ else _) _
    by_cases e1 : j = kwE c
    · subst e1
      rw [if_pos t6]
      refine Ev.bind (isWord_ev hn hs he hc hl h h7 h8) (fun r N1 q1 => ?_)
      obtain ⟨rfl, rfl⟩ := q1
      cases hw : wm b s e (kwP c) with
      | true =>
        rw [if_neg (by decide)]
        exact Ev.ret ⟨rfl, Or.inr ⟨c, hc, rfl, wdN_is t1 hw⟩⟩
      | false =>
        rw [if_pos (by decide)]
        refine Ev.letv ?_
        rw [nI_1, nI_1]
        refine cont _ _ ⟨rfl, rfl, c + 1, by omega, rfl, by rw [t5], ?_, fun u hu => ?_⟩
        · by_cases z : c + 1 = 12
          · right
            have hc11 : c = 11 := by omega
            subst hc11
            exact ⟨z, by decide⟩
          · left
            obtain ⟨u1, u2, u3, u4, u5, u6⟩ := kw_t1 (c + 1) (by omega)
            exact ⟨by omega, by omega, by omega⟩
        · by_cases z : u = c
          · rw [z]; exact hw
          · exact hno u (by omega)
    · have t2x := kw_t2 c hc (j - kwS c) (by omega) (by omega)
      rw [show kwS c + (j - kwS c) = j by omega] at t2x
      rw [if_neg (fun z => t2x.2 (t2x.1.symm.trans z)), nI_1]
      exact cont _ _ ⟨rfl, rfl, c, by omega, rfl, rfl, Or.inl ⟨hc, by omega, by omega⟩, hno⟩
  · rintro k ⟨x1, x2, x3⟩ M ⟨rfl, h3, c, hc, h1, h2, hr, hno⟩
    have h3 : x3 = nI 61 := h3
    subst h3
    have hc12 : c = 12 := by
      rcases hr with q | q
      · have := (kw_t1 c q.1).2.2.2.1; omega
      · exact q.1
    subst hc12
    show Ev (fX4_wordNumber_B6 (fun a c d M => k (a, c, d) M) x1 x2 (nI 61) M) _
    unfold fX4_wordNumber_B6 fKlen
    rw [ob_some, if_pos (by decide)]
    refine Ev.ret ⟨rfl, Or.inl ⟨rfl, wdN_no (fun v hv => ?_)⟩⟩
    obtain ⟨c, hc, rfl⟩ := kw_t4 v hv
    exact hno c hc
end XW
