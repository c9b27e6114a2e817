/-! the reference's eRead together -/
section ER3
theorem eRead_ev {tk : Tk} {st nx : Nat → Nat} {M0 : Mem} {T : Nat} (hR : RAdv tk st nx M0) (hk : ∀ i, kOK (tk i)) (h160 : ∀ i, (tk i).1 ≠ 0 → i < 160) (hT : T < 6) (hT0 : M0 22 0 11 = nI T) :
    ∀ k n i S o w want mN res N, 161 ≤ i + n → syN tk k (i, S, o, w, want, mN) = some res → RX M0 T S o w N → N 22 0 20 = nI (psN nx i) → o = cnO S → (∀ s ∈ S, s < 20) → S.length + w.length ≤ i → i ≤ 160 → Ev (fX11_eRead_L14 n (bt want) (bt mN) N) (ERes M0 T st nx res) := by
  intro k
  induction k with
  | zero => intro n i S o w want mN res N _ h; cases h
  | succ k ih =>
    intro n i S o w want mN res N hn hsy hX h20' ho hs20 hlen hi
    cases n with
    | zero => omega
    | succ n =>
      show Ev (fX11_eRead_B14 (fX11_eRead_L14 n) (bt want) (bt mN) N) _
      have hsy' : (match syS tk (i, S, o, w, want, mN) with | .inl y => syN tk k y | .inr r => some r) = some res := hsy
      have hco := cnO_le S
      unfold fX11_eRead_B14
      have hF := hX.2.2.2.2.2
      refine Ev.bind (hR i N h20' (hF.1 28 0 (by simp)) (hF.1 37 0 (by simp)) (hF.2.1 8 (Or.inl (by omega)))) (fun _ N4 q4 => ?_)
      obtain ⟨a20, a21, a22, a23, aO, aK⟩ := q4
      have hX4 := hX.nxt aO aK
      obtain ⟨kk, kK, k2, k3⟩ := hk i
      obtain ⟨t59, t41, t1, t2, t6, t45, t40⟩ := rTk_is (tk i).1 kk
      have fail : syS tk (i, S, o, w, want, mN) = .inr (false, i, []) → ∀ N', N' 22 0 21 = nI (st i) → RF M0 T N' → ERes M0 T st nx res 0 N' := by
        intro e N' b1 b2
        rw [e] at hsy'
        cases hsy'
        exact ⟨rfl, b1, b2, fun q => Bool.noConfusion q⟩
      have next : ∀ S' o' w' want' mN' N', syS tk (i, S, o, w, want, mN) = .inl (i + 1, S', o', w', want', mN') → RX M0 T S' o' w' N' → KP4 N4 N' → o' = cnO S' → (∀ s ∈ S', s < 20) → S'.length + w'.length ≤ i + 1 → (tk i).1 ≠ 0 → Ev (fX11_eRead_L14 n (bt want') (bt mN') N') (ERes M0 T st nx res) := by
        intro S' o' w' want' mN' N' e b1 b2 b3 b4 b5 b6
        rw [e] at hsy'
        have := h160 i b6
        exact ih n (i + 1) S' o' w' want' mN' res N' (by omega) hsy' b1 ((b2 20 (by omega) (by omega)).trans a20) b3 b4 b5 (by omega)
      rw [a22]
      cases want with
      | false =>
        rw [if_pos (show bt false = 0 from rfl)]
        have hS : syS tk (i, S, o, w, false, mN) = syO (tk i).1 i S o w mN := rfl
        obtain ⟨u1, u2, u3, u4⟩ := unw_inv (t := 1) (by omega) S o w ho hs20
        have hU := unwinds_ev hT hT0 (t := 1) (by omega) (by omega) S FU o w N4 (by show _ < 2000; omega) hX4 ho hs20 (by omega)
        by_cases k10 : (tk i).1 = 10
        · rw [if_pos (t59.mpr k10)]
          have hS2 : syS tk (i, S, o, w, false, mN) = syE i (unw 1 S o w) := by rw [hS]; unfold syO; rw [if_pos k10]
          unfold fX11_unwinds
          refine Ev.bind hU (fun _ N6 q6 => ?_)
          obtain ⟨q6, k6⟩ := q6
          generalize hu : unw 1 S o w = u at *
          obtain ⟨S', o', w'⟩ := u
          cases S' with
          | nil =>
            have e0 : N6 22 0 26 = 0 := q6.1
            rw [e0, if_pos rfl]
            rw [hS2] at hsy'
            cases hsy'
            exact Ev.ret ⟨rfl, (k6 21 (by omega) (by omega)).trans a21, q6.2.2.2.2.2, fun _ => ⟨(k6 20 (by omega) (by omega)).trans a20, q6.2.2.1, q6.2.2.2.2.1⟩⟩
          | cons s r =>
            have h26 : N6 22 0 26 = nI (r.length + 1) := q6.1
            have hl' : r.length + 1 + w'.length = S.length + w.length := u3
            rw [if_neg (fun z => by have := nI_inj32 (a := r.length + 1) (b := 0) (by omega) (by omega) (h26.symm.trans z); omega)]
            exact Ev.ret (fail hS2 N6 ((k6 21 (by omega) (by omega)).trans a21) q6.2.2.2.2.2)
        · rw [if_neg (fun z => k10 (t59.mp z))]
          by_cases k9 : (tk i).1 = 9
          · rw [if_pos (t41.mpr k9)]
            have hS2 : syS tk (i, S, o, w, false, mN) = syC i mN (unw 1 S o w) := by rw [hS]; unfold syO; rw [if_neg k10, if_pos k9]
            unfold fX11_unwinds
            refine Ev.bind hU (fun _ N6 q6 => ?_)
            obtain ⟨q6, k6⟩ := q6
            generalize hu : unw 1 S o w = u at *
            obtain ⟨S', o', w'⟩ := u
            cases S' with
            | nil =>
              have e0 : N6 22 0 26 = 0 := q6.1
              rw [e0, if_pos rfl]
              exact Ev.ret (fail hS2 N6 ((k6 21 (by omega) (by omega)).trans a21) q6.2.2.2.2.2)
            | cons s r =>
              have h26 : N6 22 0 26 = nI (r.length + 1) := q6.1
              have hl' : r.length + 1 + w'.length = S.length + w.length := u3
              rw [if_neg (fun z => by have := nI_inj32 (a := r.length + 1) (b := 0) (by omega) (by omega) (h26.symm.trans z); omega)]
              have hs0 : s = 0 := by
                have : rkN s < 1 := u4
                unfold rkN at this
                by_cases z : s = 0
                · exact z
                · rw [if_neg z] at this
                  repeat' split at this
                  all_goals omega
              have ho' : o' = cnO r + (if s = 0 ∨ s = 13 ∨ s = 19 then 1 else 0) := u1
              rw [if_pos (Or.inl hs0)] at ho'
              refine Ev.let_ fun N7 e7 => Ev.let_ fun N8 e8 => ?_
              rw [h26, nI_pred] at e7
              have h7 : RX M0 T r o' w' N7 := by rw [e7]; exact q6.m22 (by omega) (if_pos rfl) (by rw [if_neg (by decide)]; exact q6.2.1) q6.2.2.2.1.2
              have kp7 : KP4 N6 N7 := fun x _ hx => by
                rw [e7, mst_s]
                have : ¬ x = 26 := by omega
                simp only [upd, if_neg this]
              rw [h7.2.1, show nI o' - 1 = nI (o' - 1) from pk_sub (b := 1) (by omega)] at e8
              have h8 : RX M0 T r (o' - 1) w' N8 := by rw [e8]; exact h7.m22 (by omega) (by rw [if_neg (by decide)]; exact h7.1) (if_pos rfl) h7.2.2.2.1
              have kp8 : KP4 N7 N8 := fun x _ hx => by
                rw [e8, mst_s]
                have : ¬ x = 27 := by omega
                simp only [upd, if_neg this]
              have hr20 : ∀ x ∈ r, x < 20 := fun x hx => u2 x (List.mem_cons_of_mem _ hx)
              obtain ⟨v1, v2, v3, v4⟩ := unw_inv (t := 7) (by omega) r (o' - 1) w' (by omega) hr20
              refine Ev.bind (unwinds_ev hT hT0 (t := 7) (by omega) (by omega) r FU (o' - 1) w' N8 (by show _ < 2000; omega) h8 (by omega) hr20 (by omega)) (fun _ N9 q9 => ?_)
              have v3' : (unw 7 r (o' - 1) w').1.length + (unw 7 r (o' - 1) w').2.2.length ≤ i + 1 := by omega
              exact next _ _ _ false mN N9 hS2 q9.1 (((k6.tr kp7).tr kp8).tr q9.2) v1 v2 v3' (by omega)
          · rw [if_neg (fun z => k9 (t41.mp z)), signOf_ev, a22, sgI_r _ kk, ob_some]
            by_cases kg : sgn (tk i).1 = 0
            · rw [if_pos kg, if_pos rfl]
              refine Ev.ret (fail ?_ N4 a21 hX4.2.2.2.2.2)
              rw [hS]; unfold syO; rw [if_neg k10, if_neg k9, if_pos kg]
            · obtain ⟨g1, g2, g3, g4, g5⟩ := sgn_bin _ kk kg
              have hS2 : syS tk (i, S, o, w, false, mN) = syB (sgn (tk i).1) i (unw (if rkN (sgn (tk i).1) = 4 then 5 else rkN (sgn (tk i).1)) S o w) := by rw [hS]; unfold syO; rw [if_neg k10, if_neg k9, if_neg kg]
              rw [if_neg kg, if_neg g5]
              refine Ev.bind (btw_ev hT hT0 hX4 ho hs20 (by omega) g1 g2) (fun r N6 q6 => ?_)
              rcases q6 with ⟨q6, rfl, q7, q8⟩ | ⟨q6, rfl, q7, q8⟩
              · rw [if_pos rfl]
                refine Ev.ret (fail ?_ N6 ((q8 21 (by omega) (by omega)).trans a21) q7)
                rw [hS2]; unfold syB; rw [if_pos q6]
              · rw [if_neg (by decide)]
                have hk0 : (tk i).1 ≠ 0 := fun z => by rw [z] at kg; exact kg rfl
                obtain ⟨v1, v2, v3, v4⟩ := unw_inv (t := if rkN (sgn (tk i).1) = 4 then 5 else rkN (sgn (tk i).1)) (by split <;> omega) S o w ho hs20
                have hS3 : syS tk (i, S, o, w, false, mN) = .inl (i + 1, sgn (tk i).1 :: (unw (if rkN (sgn (tk i).1) = 4 then 5 else rkN (sgn (tk i).1)) S o w).1, (unw (if rkN (sgn (tk i).1) = 4 then 5 else rkN (sgn (tk i).1)) S o w).2.1, (unw (if rkN (sgn (tk i).1) = 4 then 5 else rkN (sgn (tk i).1)) S o w).2.2, true, decide (sgn (tk i).1 ≤ 12)) := by rw [hS2]; unfold syB; rw [if_neg q6]
                have hn := next _ _ _ true (decide (sgn (tk i).1 ≤ 12)) N6 hS3 q7 q8 (by
                  rw [v1]
                  show _ = cnO _ + (if sgn (tk i).1 = 0 ∨ sgn (tk i).1 = 13 ∨ sgn (tk i).1 = 19 then 1 else 0)
                  rw [if_neg (show ¬ (sgn (tk i).1 = 0 ∨ sgn (tk i).1 = 13 ∨ sgn (tk i).1 = 19) by omega)]; rfl) (fun x hx => by
                  rcases List.mem_cons.mp hx with rfl | hx
                  · omega
                  · exact v2 x hx) (by show _ + 1 + _ ≤ _; omega) hk0
                by_cases z : sgn (tk i).1 ≤ 12
                · rw [if_neg (g4.mpr z)]
                  rw [decide_eq_true z] at hn
                  exact hn
                · rw [if_pos (Decidable.byContradiction (fun y => z (g4.mp y)))]
                  rw [decide_eq_false z] at hn
                  exact hn
      | true =>
        rw [if_neg (show ¬ bt true = 0 by decide)]
        have hS : syS tk (i, S, o, w, true, mN) = syW (tk i).1 (tk i).2 i S o w mN := rfl
        have num : ((tk i).1 = 2 ∨ (tk i).1 = 3) → ∀ z : Nat, z = (if (tk i).1 = 2 then 100000 + (tk i).2 else (tk i).2) → Ev (fX11_eRead_J61 (fX11_eRead_L14 n) (bt mN) (nI z) N4) (ERes M0 T st nx res) := by
          intro h23 z hz
          unfold fX11_eRead_J61 fX11_unwinds
          refine Ev.bind (puts_ev hT hT0 hX4 (by omega) (g := z)) (fun _ N6 q6 => ?_)
          obtain ⟨v1, v2, v3, v4⟩ := unw_inv (t := 7) (by omega) S o (w ++ [z]) ho hs20
          rw [List.length_append] at v3
          have v3' : _ = S.length + (w.length + 1) := v3
          refine Ev.bind (unwinds_ev hT hT0 (t := 7) (by omega) (by omega) S FU o (w ++ [z]) N6 (by show _ < 2000; omega) q6.1 ho hs20 (by rw [List.length_append]; show S.length + (w.length + 1) ≤ 199; omega)) (fun _ N9 q9 => ?_)
          refine next _ _ _ false mN N9 ?_ q9.1 (q6.2.tr q9.2) v1 v2 (by omega) (by omega)
          rw [hS]; unfold syW; rw [if_pos h23, ← hz]
        have eJ38 : ((tk i).1 = 2 ∨ (tk i).1 = 3) → Ev (fX11_eRead_J38 (fX11_eRead_L14 n) (bt mN) N4) (ERes M0 T st nx res) := by
          intro h23
          unfold fX11_eRead_J38
          rw [a22, a23 (by omega)]
          by_cases z : (tk i).1 = 2
          · rw [if_pos (t1.mpr z), show (100000 : Int32) = nI 100000 from rfl, nI_add]
            exact num h23 _ (by rw [if_pos z])
          · rw [if_neg (fun y => z (t1.mp y))]
            exact num h23 _ (by rw [if_neg z])
        have opn : ∀ g mN', (g = 0 ∨ g = 13 ∨ g = 19) → (tk i).1 ≠ 0 → syS tk (i, S, o, w, true, mN) = (if o = 5 then .inr (false, i, []) else .inl (i + 1, g :: S, o + 1, w, true, mN')) → Ev (ob (fX11_opensOne (nI g) N4) fun r M => if r = 0 then some (0, M) else fX11_eRead_L14 n (bt true) (bt mN') M) (ERes M0 T st nx res) := by
          intro g mN' hg hk0 e
          refine Ev.bind (open_ev hX4 (by omega) (by omega)) (fun r N6 q6 => ?_)
          rcases q6 with ⟨q6, rfl, q7, q8⟩ | ⟨q6, rfl, q7, q8⟩
          · rw [if_pos rfl]
            rw [if_pos q6] at e
            exact Ev.ret (fail e N6 ((q8 21 (by omega) (by omega)).trans a21) q7.2.2.2.2.2)
          · rw [if_neg (by decide)]
            rw [if_neg q6] at e
            refine next _ _ _ true mN' N6 e q7 q8 ?_ (fun x hx => ?_) (by show _ + 1 + _ ≤ _; omega) hk0
            · show o + 1 = cnO S + (if g = 0 ∨ g = 13 ∨ g = 19 then 1 else 0)
              rw [if_pos hg]; omega
            · rcases List.mem_cons.mp hx with rfl | hx
              · omega
              · exact hs20 x hx
        have J99 : ¬ ((tk i).1 = 2 ∨ (tk i).1 = 3) → ¬ ((tk i).1 = 7 ∧ mN = true) → Ev (fX11_eRead_J99 (fX11_eRead_L14 n) (bt true) N4) (ERes M0 T st nx res) := by
          intro n23 n7
          have hS2 : syS tk (i, S, o, w, true, mN) = _ := hS
          unfold syW at hS2
          rw [if_neg n23, if_neg n7] at hS2
          unfold fX11_eRead_J99
          rw [a22]
          by_cases k12 : (tk i).1 = 12
          · rw [if_pos (t45.mpr k12)]
            rw [if_pos k12] at hS2
            exact opn 19 false (by omega) (by omega) hS2
          · rw [if_neg (fun z => k12 (t45.mp z))]
            rw [if_neg k12] at hS2
            by_cases k8 : (tk i).1 = 8
            · rw [if_pos (t40.mpr k8)]
              rw [if_pos k8] at hS2
              exact opn 0 true (by omega) (by omega) hS2
            · rw [if_neg (fun z => k8 (t40.mp z))]
              rw [if_neg k8] at hS2
              exact Ev.ret (fail hS2 N4 a21 hX4.2.2.2.2.2)
        by_cases c2 : (tk i).1 = 2
        · rw [if_pos (t1.mpr c2)]; exact eJ38 (Or.inl c2)
        · rw [if_neg (fun z => c2 (t1.mp z))]
          by_cases c3 : (tk i).1 = 3
          · rw [if_pos (t2.mpr c3)]; exact eJ38 (Or.inr c3)
          · rw [if_neg (fun z => c3 (t2.mp z))]
            by_cases c7 : (tk i).1 = 7
            · rw [if_pos (t6.mpr c7)]
              cases mN with
              | false =>
                rw [if_pos (show bt false = 0 from rfl)]
                exact J99 (by omega) (fun z => Bool.noConfusion z.2)
              | true =>
                rw [if_neg (show ¬ bt true = 0 by decide)]
                refine opn 13 true (by omega) (by omega) ?_
                rw [hS]; unfold syW; rw [if_neg (by omega), if_pos ⟨c7, rfl⟩]
            · rw [if_neg (fun z => c7 (t6.mp z))]
              exact J99 (by omega) (fun z => c7 z.1)
end ER3
