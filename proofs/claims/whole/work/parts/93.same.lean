/-! text: Same -/
section TT
theorem textM_st {b : Nat → Int32} {n T : Nat} (hT : T < 6) {N : Mem} (hR : RT b n N) (h11 : N 22 0 11 = nI T) : ∃ N2, fX11_text N = fX11_text_L26 FU 1 (nI 0) N2 ∧ YX b n T 0 [] N2 ∧ OT T N N2 := by
  refine ⟨mst (mst N 22 0 20 0) 22 0 28 0, ?_, ?_, (OT.rf.m22 (by decide)).m22 (by decide)⟩
  · unfold fX11_text
    rw [h11, if_neg (fun z => by have := nI_inj32 (a := T) (b := 6) (by omega) (by omega) z; omega)]
    rfl
  · have s : ∀ x, ¬ x = 20 → ¬ x = 28 → mst (mst N 22 0 20 0) 22 0 28 0 22 0 x = N 22 0 x := fun x p q => by rw [mst22, if_neg q, mst22, if_neg p]
    refine ⟨⟨(s 8 (by decide) (by decide)).trans hR.1, fun x hx => ?_, fun x hx => ?_⟩, (s 11 (by decide) (by decide)).trans h11, ?_, ?_, fun x hx => absurd hx (Nat.not_lt_zero x)⟩
    · rw [mst_n (by simp), mst_n (by simp)]; exact hR.2.1 x hx
    · rw [mst_n (by simp), mst_n (by simp)]; exact hR.2.2 x hx
    · rw [mst22, if_neg (by decide), mst22, if_pos rfl]; rfl
    · rw [mst22, if_pos rfl]; rfl
theorem lastK_no {K i : Nat} (h : lastK K i) : ¬ O4s K i := by
  rintro ⟨h2, rfl⟩
  rcases h with h | h | ⟨h | h, h3⟩ | ⟨h, h3⟩ | ⟨h0, h | h | h | h | h | h | h | h | h | h | h⟩ <;> omega
theorem lastK_nx {T K i : Nat} (h : lastK K i) : ¬ OX T K i := by
  rintro (⟨h2, rfl⟩ | ⟨h2, rfl⟩ | ⟨rfl, rfl⟩)
  all_goals rcases h with h | h | ⟨h | h, h3⟩ | ⟨h, h3⟩ | ⟨h0, h | h | h | h | h | h | h | h | h | h | h⟩ <;> omega
theorem text_same : Same fX10_text fX11_text := by
  rintro M ⟨T, h⟩
  have h0 := h
  obtain ⟨⟨ht1, ht6, htx⟩, h08, h11, -, -, -, -, ⟨n, hn, p1, p2, p3⟩, -, -, hcon⟩ := h
  by_cases hT : T = 6
  · subst hT
    unfold fX10_text
    rw [h08, if_neg (by decide)]
    refine Ev.ret ?_
    unfold fX11_text
    rw [h11, if_pos (by decide)]
    exact Ev.ret ⟨rfl, 6, h0⟩
  · have hT6 : T < 6 := by omega
    have hX : XT (fun i => M 2 0 i) n M := ⟨p1, fun x _ => rfl⟩
    refine (textX_ev hn hT6 hX h08).mono (fun r M1 q => ?_)
    obtain ⟨q3, q⟩ := q
    have offx : Off (OX T) M M1 := by
      rcases q with ⟨e, -, -, o⟩ | ⟨wf, L, -, -, -, -, -, -, -, -, o⟩
      · exact o.mono (fun K i q => Or.inl q)
      · exact o
    have s22 : M1 22 0 = M 22 0 := offx 22 0 (by simp [OX, O134])
    have s28 : M1 28 0 = M 28 0 := offx 28 0 (by simp [OX, O134])
    have s29 : M1 29 0 = M 29 0 := offx 29 0 (by simp [OX, O134])
    have s30 : M1 30 0 = M 30 0 := offx 30 0 (by simp [OX, O134])
    have s37 : M1 37 0 = M 37 0 := offx 37 0 (by simp [OX, O134])
    have hR : RT (fun i => M 2 0 i) n M1 := ⟨by rw [s22]; exact p2, fun x hx => by rw [s28]; exact (p3 x hx).1.symm, fun x hx => by rw [s37]; exact hcon x hx⟩
    obtain ⟨N2, e2, y2, o2⟩ := textM_st hT6 hR (by rw [s22]; exact h11)
    rw [e2]
    have fin : ∀ T' M2, T ≤ T' → M1 0 0 7 = M 0 0 7 → M1 0 0 8 = nI T' → OT T M1 M2 → M2 22 0 11 = nI T' → M2 22 0 8 = 0 → Txt T' M2 → RelT T' M2 := by
      intro T' M2 k1 k2 k3 k4 k5 k6 k7
      have f0 : M2 0 0 = M1 0 0 := k4.1 0 0 (by simp [O4s])
      have f1 : M2 1 0 = M1 1 0 := k4.1 1 0 (by simp [O4s])
      refine h0.text k1 (fun K i hK => (k4.1 K i (lastK_no hK)).trans (offx K i (lastK_nx hK))) (by rw [f0]; exact k2) (by rw [f0]; exact k3) (fun s hs => (k4.2.1 s hs).trans (by rw [s22])) k5 k7 ⟨0, by omega, by rw [f1]; exact q3, k6, fun i hi => absurd hi (Nat.not_lt_zero i)⟩
    have old : ∀ M2, OT T M1 M2 → ∀ t, t < T → TxtAt t M2 := by
      intro M2 k4 t ht
      have g : ∀ K, K = 8 ∨ K = 10 ∨ K = 11 → M2 K t = M K t := fun K hK => (k4.1 K t (by rintro ⟨z, -⟩; omega)).trans (offx K t (by
        rintro (⟨z, -⟩ | ⟨z, y⟩ | ⟨z, -⟩)
        · omega
        · omega
        · omega))
      exact (htx t ht).same (g 8 (Or.inl rfl)) (g 10 (Or.inr (Or.inl rfl))) (g 11 (Or.inr (Or.inr rfl))) (fun i hi => by rw [k4.2.2.1 _ (by omega), s29]) (fun q hq => by rw [k4.2.2.2 _ (by omega), s30])
    rcases q with ⟨e, rfl, w2, o⟩ | ⟨wf, L, rfl, w1, g8, g160, g11, g10, g08, g07, o⟩
    · refine (pf_ev hn hT6 3 0 rfl FU (by show 4 < 2000; omega) 0 [] e N2 y2 (by omega) w2).mono (fun r2 M2 z => ?_)
      obtain ⟨z1, z2, z3, z4⟩ := z
      have oo := o2.tr z2
      have f0 : M1 0 0 = M 0 0 := o 0 0 (by simp [O134])
      exact ⟨z1, T, fin T M2 (Nat.le_refl _) (by rw [f0]) (by rw [f0]; exact h08) oo z3 z4 ⟨ht1, ht6, old M2 oo⟩⟩
    · refine (po_ev hn hT6 3 0 rfl FU (by show 4 < 2000; omega) 0 [] wf L N2 y2 (by omega) w1).mono (fun r2 M2 z => ?_)
      obtain ⟨z1, z2, z3, z4, z5, z6, z7⟩ := z
      have oo := o2.tr z2
      have k8 : M2 8 T = M1 8 T := oo.1 8 T (by rintro ⟨z, -⟩; omega)
      have k10 : M2 10 T = M1 10 T := oo.1 10 T (by rintro ⟨z, -⟩; omega)
      have k11 : M2 11 T = M1 11 T := oo.1 11 T (by rintro ⟨z, -⟩; omega)
      obtain ⟨-, b2, b3, b4, b5, b6⟩ := po_facts (f := M2 11 T) 3 0 [] wf L w1
      have m3 : L.getD 2 0 ≤ L.getD 3 0 := b4 2 (by omega)
      have m2 : L.getD 1 0 ≤ L.getD 2 0 := b4 1 (by omega)
      have m1 : L.getD 0 0 ≤ L.getD 1 0 := b4 0 (by omega)
      refine ⟨z1, T + 1, fin (T + 1) M2 (by omega) g07 g08 oo z3 z4 ⟨by omega, by omega, fun t ht => ?_⟩⟩
      by_cases e : t < T
      · exact old M2 oo t e
      · have : t = T := by omega
        subst this
        refine ⟨wf.length, fun q => L.getD q 0, by omega, by rw [k8]; exact g8, fun q hq => ⟨by rw [k10]; exact g10 q hq, ?_, ?_⟩, fun q hq => b4 q hq, fun i hi => ⟨?_, ?_⟩, fun q hq => b6 (fun x hx => by rw [k11]; exact g11 x hx) q hq⟩
        · have := z6 q (by omega)
          rw [Nat.zero_add] at this
          exact this
        · show L.getD q 0 ≤ wf.length
          have : q = 0 ∨ q = 1 ∨ q = 2 ∨ q = 3 := by omega
          rcases this with rfl | rfl | rfl | rfl <;> omega
        · rw [z5 i hi]; exact b5 i (Nat.zero_le _) hi
        · rw [k11, g11 i hi, z5 i hi]
end TT
