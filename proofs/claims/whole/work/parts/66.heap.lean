/-! what hangs together -/
section HP
def itN (al x0 : Nat) : Nat → Nat
  | 0 => x0 &&& al
  | k + 1 => grN (itN al x0 k) &&& al
theorem itN_lt {al x0 : Nat} (ha : al < 2 ^ 36) : ∀ k, itN al x0 k < 2 ^ 36 := by
  intro k
  cases k with
  | zero => exact Nat.and_lt_two_pow _ ha
  | succ k => exact Nat.and_lt_two_pow _ ha
theorem itN_s {al x0 k c : Nat} (ha : al < 2 ^ 36) (hc : c < 36) : (itN al x0 (k + 1)).testBit c = true ↔ al.testBit c = true ∧ ((itN al x0 k).testBit c = true ∨ ∃ y, y < 36 ∧ apN y c = 1 ∧ (itN al x0 k).testBit y = true) := by
  show (grN (itN al x0 k) &&& al).testBit c = true ↔ _
  rw [Nat.testBit_and, grN_bit (itN_lt ha k) hc, Bool.and_eq_true, Bool.or_eq_true, nbA_iff hc]
  constructor
  · rintro ⟨a, b⟩; exact ⟨b, a⟩
  · rintro ⟨a, b⟩; exact ⟨b, a⟩
theorem itN_al {al x0 k c : Nat} (h : (itN al x0 k).testBit c = true) : al.testBit c = true := by
  cases k with
  | zero =>
    have : (x0 &&& al).testBit c = true := h
    rw [Nat.testBit_and, Bool.and_eq_true] at this
    exact this.2
  | succ k =>
    have : (grN (itN al x0 k) &&& al).testBit c = true := h
    rw [Nat.testBit_and, Bool.and_eq_true] at this
    exact this.2
theorem itN_mono {al x0 k : Nat} (ha : al < 2 ^ 36) : sub36 (itN al x0 k) (itN al x0 (k + 1)) := fun _ hc h => (itN_s ha hc).mpr ⟨itN_al h, Or.inl h⟩
theorem itN_stay {al x0 k : Nat} (h : itN al x0 (k + 1) = itN al x0 k) : ∀ m, k ≤ m → itN al x0 m = itN al x0 k := by
  intro m
  induction m with
  | zero => intro hm; rw [show k = 0 by omega]
  | succ m ih =>
    intro hm
    by_cases e : k = m + 1
    · rw [e]
    · show grN (itN al x0 m) &&& al = _
      rw [ih (by omega)]
      exact h
theorem itN_card {al x0 : Nat} (ha : al < 2 ^ 36) : ∀ k, ¬ itN al x0 (k + 1) = itN al x0 k → k + 1 ≤ card (itN al x0 (k + 1)) := by
  intro k
  induction k with
  | zero =>
    intro h
    have : card (itN al x0 0) < card (itN al x0 (0 + 1)) := card_lt (itN_lt ha 0) (itN_lt ha (0 + 1)) (itN_mono ha) (fun q => h q.symm)
    omega
  | succ k ih =>
    intro h
    have h2 : ¬ itN al x0 (k + 1) = itN al x0 k := fun q => h (by rw [itN_stay q (k + 1 + 1) (by omega), itN_stay q (k + 1) (by omega)])
    have h3 := ih h2
    have := card_lt (itN_lt ha (k + 1)) (itN_lt ha (k + 1 + 1)) (itN_mono ha) (fun q => h q.symm)
    omega
theorem itN_37 {al x0 : Nat} (ha : al < 2 ^ 36) : itN al x0 (36 + 1) = itN al x0 36 := by
  refine Decidable.byContradiction fun h => ?_
  have h1 := itN_card ha 36 h
  have h2 := card_le (itN al x0 (36 + 1))
  omega
def clos (al h : Nat) : Prop := ∀ o, o < 36 → h.testBit o = true → ∀ t, t < 36 → apN o t = 1 → al.testBit t = true → h.testBit t = true
theorem itN_clos {al x0 : Nat} (ha : al < 2 ^ 36) : clos al (itN al x0 36) := by
  intro o ho h1 t ht h2 h3
  rw [← itN_37 ha]
  exact (itN_s ha ht).mpr ⟨h3, Or.inr ⟨o, ho, h2, h1⟩⟩
theorem itN_in {al x0 h : Nat} (ha : al < 2 ^ 36) (h0 : sub36 (x0 &&& al) h) (hc : clos al h) : ∀ k, sub36 (itN al x0 k) h := by
  intro k
  induction k with
  | zero => exact h0
  | succ k ih =>
    intro c hc2 hb
    obtain ⟨h1, h2⟩ := (itN_s ha hc2).mp hb
    rcases h2 with h2 | ⟨y, hy, h3, h4⟩
    · exact ih c hc2 h2
    · exact hc y hy (ih y hy h4) c hc2 h3 h1
theorem itN_eq {al x0 h : Nat} (ha : al < 2 ^ 36) (hh : h < 2 ^ 36) (h0 : sub36 (x0 &&& al) h) (hc : clos al h) (hs : sub36 h (itN al x0 36)) : h = itN al x0 36 := sub_eq hh (itN_lt ha 36) hs (itN_in ha h0 hc 36)
theorem spread_ev {al x0 : Nat} {M : Mem} (ha : al < 2 ^ 36) (hx : x0 < 2 ^ 36) : Ev (fX10_spread (lN x0) (lN al) M) (fun r M1 => r = lN (itN al x0 36) ∧ M1 = M) := by
  unfold fX10_spread
  refine Ev.letv ?_
  rw [b_and hx (by omega)]
  generalize h36 : (36 : Nat) = m
  refine Ev.loop (f := fun k (x : Int64 × Int32) M => fX10_spread_L8 (lN al) k x.1 x.2 M) (B := fun k x M => fX10_spread_B8 (lN al) (fun a b M => k (a, b) M) x.1 x.2 M) (fun _ _ _ => rfl) m
    (fun j x N => x = (lN (itN al x0 j), nI j) ∧ N = M) ?_ ?_ FU 0 (lN (x0 &&& al), nI 0) M (Nat.zero_le _) (by show _ < 2000 + 0; omega) ⟨rfl, rfl⟩
  · rintro k j x N hj ⟨rfl, rfl⟩ hk
    show Ev (fX10_spread_B8 (lN al) (fun a b M => k (a, b) M) (lN (itN al x0 j)) (nI j) N) _
    unfold fX10_spread_B8
    rw [if_neg (fun q => by have := (nI_leI (a := 36) (by omega) (by omega)).mp q; omega), grown_ev N (itN_lt ha j), ob_some]
    refine Ev.letv ?_
    have hg : grN (itN al x0 j) < 2 ^ 64 := by
      have hlt := itN_lt (x0 := x0) ha j
      generalize itN al x0 j = x at hlt
      have a1 : x &&& mLC ≤ x := Nat.and_le_left
      have a2 : x &&& mFC ≤ x := Nat.and_le_left
      have d1 : (x &&& mFC) / 2 ≤ x &&& mFC := Nat.div_le_self _ _
      have d2 : x / 64 ≤ x := Nat.div_le_self _ _
      have o1 : ((x &&& mLC) * 2 ||| (x &&& mFC) / 2) < 2 ^ 43 := Nat.or_lt_two_pow (by omega) (by omega)
      have o2 : (x ||| ((x &&& mLC) * 2 ||| (x &&& mFC) / 2)) < 2 ^ 43 := Nat.or_lt_two_pow (by omega) o1
      have o3 : ((x ||| ((x &&& mLC) * 2 ||| (x &&& mFC) / 2)) ||| x * 64) < 2 ^ 43 := Nat.or_lt_two_pow o2 (by omega)
      have o4 : grN x < 2 ^ 43 := Nat.or_lt_two_pow o3 (by omega)
      omega
    rw [wb_and hg (by omega), nI_1]
    exact hk _ N ⟨rfl, rfl⟩
  · rintro k x N ⟨rfl, rfl⟩
    show Ev (fX10_spread_B8 (lN al) (fun a b M => k (a, b) M) (lN (itN al x0 m)) (nI m) N) _
    unfold fX10_spread_B8
    rw [if_pos (by rw [← h36]; decide)]
    exact Ev.ret ⟨rfl, rfl⟩
theorem or_bit {g al t c : Nat} : (g ||| (al &&& 2 ^ t)).testBit c = true ↔ g.testBit c = true ∨ (al.testBit c = true ∧ t = c) := by
  rw [Nat.testBit_or, Nat.testBit_and, Nat.testBit_two_pow, Bool.or_eq_true, Bool.and_eq_true, decide_eq_true_eq]
theorem pw36 {t : Nat} (ht : t < 36) : 2 ^ t < 2 ^ 36 := Nat.pow_lt_pow_right (by decide) ht
set_option maxHeartbeats 1000000 in
theorem heapOf_ev {c al : Nat} {M : Mem} (hc : c < 36) (ha : al < 2 ^ 36) : Ev (fX11_heapOf (nI c) (lN al) M) (fun r M1 => r = lN (itN al (2 ^ c) 36) ∧ M1 = M) := by
  have hcl := itN_clos (x0 := 2 ^ c) ha
  have hCl := itN_lt (x0 := 2 ^ c) ha 36
  have hst : sub36 (2 ^ c &&& al) (itN al (2 ^ c) 36) := fun y hy h => by
    have : ∀ k, (itN al (2 ^ c) k).testBit y = true := by
      intro k
      induction k with
      | zero => exact h
      | succ k ih => exact itN_mono ha y hy ih
    exact this 36
  have hfin : ∀ h, h < 2 ^ 36 → sub36 (2 ^ c &&& al) h → clos al h → sub36 h (itN al (2 ^ c) 36) → h = itN al (2 ^ c) 36 := fun h a b d e => itN_eq ha a b d e
  generalize itN al (2 ^ c) 36 = C at hcl hCl hst hfin
  unfold fX11_heapOf
  refine Ev.letv ?_
  rw [b_one (by omega), wb_and (by omega) (by have := pw36 hc; omega), Nat.and_comm]
  have h0lt : 2 ^ c &&& al < 2 ^ 36 := Nat.and_lt_two_pow _ ha
  refine Ev.loop (f := fun k (x : Int64 × Int32) M => fX11_heapOf_L9 (lN al) k x.1 x.2 M) (B := fun k x M => fX11_heapOf_B9 (lN al) (fun a b M => k (a, b) M) x.1 x.2 M) (fun _ _ _ => rfl) 37
    (fun j x N => ∃ (h : Nat) (f : Bool), x = (lN h, bt f) ∧ h < 2 ^ 36 ∧ sub36 (2 ^ c &&& al) h ∧ sub36 h C ∧ (f = true → j ≤ card h) ∧ (f = false → clos al h) ∧ N = M) ?_ ?_ FU 0 (lN (2 ^ c &&& al), 1) M (Nat.zero_le _) (by show _ < 2000 + 0; omega) ⟨2 ^ c &&& al, true, rfl, h0lt, fun _ _ h => h, hst, fun _ => Nat.zero_le _, (fun q => Bool.noConfusion q), rfl⟩
  · rintro k j x N hj ⟨h, f, rfl, hh, hs0, hsC, hf1, hf2, rfl⟩ hk
    show Ev (fX11_heapOf_B9 (lN al) (fun a b M => k (a, b) M) (lN h) (bt f) N) _
    unfold fX11_heapOf_B9
    refine Ev.ite (fun e => ?_) (fun e => ?_)
    · rw [bt_0] at e
      exact Ev.ret ⟨by rw [hfin h hh hs0 (hf2 e) hsC], rfl⟩
    rw [bt_0, Bool.not_eq_false] at e
    have hjc := hf1 e
    refine Ev.loop (f := fun k' (x : Int64 × Int32) M => fX11_heapOf_L20 (fun a b M => k (a, b) M) (lN al) (lN h) k' x.1 x.2 M) (B := fun k' x M => fX11_heapOf_B20 (fun a b M => k (a, b) M) (lN al) (lN h) (fun a b M => k' (a, b) M) x.1 x.2 M) (fun _ _ _ => rfl) 36
      (fun o x N2 => ∃ g : Nat, x = (lN g, nI o) ∧ g < 2 ^ 36 ∧ sub36 h g ∧ sub36 g C ∧ (∀ o', o' < o → h.testBit o' = true → ∀ t, t < 36 → apN o' t = 1 → al.testBit t = true → g.testBit t = true) ∧ N2 = N) ?_ ?_ FU 0 (lN h, nI 0) N (Nat.zero_le _) (by show _ < 2000 + 0; omega) ⟨h, rfl, hh, fun _ _ q => q, hsC, fun _ q => absurd q (Nat.not_lt_zero _), rfl⟩
    · rintro k' o x N2 ho ⟨g, rfl, hg, hg1, hg2, hg3, rfl⟩ hk'
      show Ev (fX11_heapOf_B20 (fun a b M => k (a, b) M) (lN al) (lN h) (fun a b M => k' (a, b) M) (lN g) (nI o) N2) _
      unfold fX11_heapOf_B20
      rw [if_neg (fun q => by have := (nI_leI (a := 36) (by omega) (by omega)).mp q; omega)]
      have hback : ∀ g', g' < 2 ^ 36 → sub36 g g' → sub36 g' C → (g.testBit o = true → ∀ t, t < 36 → apN o t = 1 → al.testBit t = true → g'.testBit t = true) → Ev (k' (lN g', nI o + 1) N2) (fun r M1 => r = lN C ∧ M1 = N2) := by
        intro g' a b d e'
        rw [nI_1]
        refine hk' _ N2 ⟨g', rfl, a, fun y hy q => b y hy (hg1 y hy q), d, fun o' ho' hb t ht hap hal => ?_, rfl⟩
        by_cases eo : o' = o
        · subst eo
          exact e' (hg1 o' ho hb) t ht hap hal
        · exact b t ht (hg3 o' (by omega) hb t ht hap hal)
      refine Ev.ite (fun eb => ?_) (fun eb => ?_)
      · rw [b_tst hg ho] at eb
        refine Ev.loop (f := fun k'' (x : Int64 × Int32) M => fX11_heapOf_L48 (fun a b M => k (a, b) M) (fun a b M => k' (a, b) M) (lN al) (lN h) (nI o) 1 k'' x.1 x.2 M) (B := fun k'' x M => fX11_heapOf_B48 (fun a b M => k (a, b) M) (fun a b M => k' (a, b) M) (lN al) (lN h) (nI o) 1 (fun a b M => k'' (a, b) M) x.1 x.2 M) (fun _ _ _ => rfl) 36
          (fun t x N3 => ∃ g' : Nat, x = (lN g', nI t) ∧ g' < 2 ^ 36 ∧ sub36 g g' ∧ sub36 g' C ∧ (∀ t', t' < t → apN o t' = 1 → al.testBit t' = true → g'.testBit t' = true) ∧ N3 = N2) ?_ ?_ FU 0 (lN g, nI 0) N2 (Nat.zero_le _) (by show _ < 2000 + 0; omega) ⟨g, rfl, hg, fun _ _ q => q, hg2, fun _ q => absurd q (Nat.not_lt_zero _), rfl⟩
        · rintro k'' t x N3 ht ⟨g', rfl, a1, a2, a3, a4, rfl⟩ hk''
          show Ev (fX11_heapOf_B48 (fun a b M => k (a, b) M) (fun a b M => k' (a, b) M) (lN al) (lN h) (nI o) 1 (fun a b M => k'' (a, b) M) (lN g') (nI t) N3) _
          unfold fX11_heapOf_B48
          rw [if_neg (fun q => by have := (nI_leI (a := 36) (by omega) (by omega)).mp q; omega), if_neg (by decide), apM_ev N3 ho ht, ob_some, nI_1]
          have hap : apN o t < 100 := by unfold apN; omega
          refine Ev.ite (fun e1 => Ev.letv ?_) (fun e1 => Ev.letv ?_)
          · have e2 : apN o t = 1 := (nI_eq (b := 1) (by omega) (by omega)).mp e1
            have hpt := pw36 ht
            have hal2 : al &&& 2 ^ t < 2 ^ 36 := Nat.and_lt_two_pow _ hpt
            rw [b_one (by omega), wb_and (by omega) (by omega), wb_or (by omega) (by omega)]
            refine hk'' _ N3 ⟨g' ||| (al &&& 2 ^ t), rfl, Nat.or_lt_two_pow a1 hal2, fun y hy q => or_bit.mpr (Or.inl (a2 y hy q)), fun y hy q => ?_, fun t' ht' hap' hal' => ?_, rfl⟩
            · rcases or_bit.mp q with q | ⟨q1, q2⟩
              · exact a3 y hy q
              · rw [← q2] at q1 ⊢
                exact hcl o ho (hg2 o ho eb) t ht e2 q1
            · by_cases et : t' = t
              · exact or_bit.mpr (Or.inr ⟨hal', et.symm⟩)
              · exact or_bit.mpr (Or.inl (a4 t' (by omega) hap' hal'))
          · have e2 : ¬ apN o t = 1 := fun q => e1 (by rw [q]; rfl)
            rw [or0L]
            refine hk'' _ N3 ⟨g', rfl, a1, a2, a3, fun t' ht' hap' hal' => ?_, rfl⟩
            by_cases et : t' = t
            · rw [et] at hap'
              exact absurd hap' e2
            · exact a4 t' (by omega) hap' hal'
        · rintro k'' x N3 ⟨g', rfl, a1, a2, a3, a4, rfl⟩
          show Ev (fX11_heapOf_B48 (fun a b M => k (a, b) M) (fun a b M => k' (a, b) M) (lN al) (lN h) (nI o) 1 (fun a b M => k'' (a, b) M) (lN g') (nI 36) N3) _
          unfold fX11_heapOf_B48
          rw [if_pos (by decide)]
          exact hback g' a1 a2 a3 (fun _ t ht hap hal => a4 t ht hap hal)
      · rw [b_tst hg ho] at eb
        show Ev (fX11_heapOf_B48 (fun a b M => k (a, b) M) (fun a b M => k' (a, b) M) (lN al) (lN h) (nI o) 0 _ (lN g) 0 N2) _
        unfold fX11_heapOf_B48
        rw [if_neg (by decide), if_pos rfl]
        exact hback g hg (fun _ _ q => q) hg2 (fun q => absurd q eb)
    · rintro k' x N2 ⟨g, rfl, hg, hg1, hg2, hg3, rfl⟩
      show Ev (fX11_heapOf_B20 (fun a b M => k (a, b) M) (lN al) (lN h) (fun a b M => k' (a, b) M) (lN g) (nI 36) N2) _
      unfold fX11_heapOf_B20
      rw [if_pos (by decide)]
      refine Ev.ite (fun eq => ?_) (fun eq => ?_)
      · rw [lg_cmp_eq] at eq
        have eg : g = h := (pk_lEQ (by omega) (by omega)).mp eq
        subst eg
        exact hk _ N2 ⟨g, false, rfl, hg, hs0, hg2, fun q => (by cases q), fun _ o ho hb t ht hap hal => hg3 o ho hb t ht hap hal, rfl⟩
      · rw [lg_cmp_eq] at eq
        have eg : ¬ h = g := fun q => eq (by rw [q])
        have := card_lt hh hg hg1 eg
        exact hk _ N2 ⟨g, true, rfl, hg, fun y hy q => hg1 y hy (hs0 y hy q), hg2, fun _ => by omega, fun q => (by cases q), rfl⟩
  · rintro k x N ⟨h, f, rfl, hh, hs0, hsC, hf1, hf2, rfl⟩
    show Ev (fX11_heapOf_B9 (lN al) (fun a b M => k (a, b) M) (lN h) (bt f) N) _
    unfold fX11_heapOf_B9
    have hf : f = false := by
      cases f with
      | false => rfl
      | true =>
        have h1 := hf1 rfl
        have h2 := card_le h
        omega
    rw [if_pos (bt_0.mpr hf)]
    exact Ev.ret ⟨by rw [hfin h hh hs0 (hf2 hf) hsC], rfl⟩
end HP
