/-! the reference's lexer -/
section LM
def RT (b : Nat → Int32) (n : Nat) (N : Mem) : Prop := N 22 0 8 = nI n ∧ (∀ x, x < n → N 28 0 x = b x) ∧ ∀ x, x < 96 → N 37 0 x = tbWords.getD x 0
/-- slots of the reference's object changed by the lexer -/
def Q4 (N N' : Mem) : Prop := Off (fun K i => K = 22 ∧ i = 0) N N' ∧ ∀ x, ¬ (20 ≤ x ∧ x < 24) → N' 22 0 x = N 22 0 x
theorem Q4.rf {N : Mem} : Q4 N N := ⟨Off.rf, fun _ _ => rfl⟩
theorem Q4.tr {a c d : Mem} (h : Q4 a c) (h2 : Q4 c d) : Q4 a d := ⟨h.1.tr h2.1, fun x hx => (h2.2 x hx).trans (h.2 x hx)⟩
theorem Q4.mst {a c : Mem} {x : Nat} {v : Int32} (h : Q4 a c) (hx : 20 ≤ x ∧ x < 24) : Q4 a (mst c 22 0 x v) := ⟨h.1.mst (by simp), fun y hy => by
  rw [mst_s]
  have : ¬ y = x := by omega
  simp only [upd, if_neg this]
  exact h.2 y hy⟩
theorem mst22 {M : Mem} {x y : Nat} {v : Int32} : mst M 22 0 x v 22 0 y = if y = x then v else M 22 0 y := by
  rw [mst_s]
  rfl
theorem RT.q4 {b : Nat → Int32} {n : Nat} {N N' : Mem} (h : RT b n N) (q : Q4 N N') : RT b n N' := ⟨(q.2 8 (by omega)).trans h.1, fun x hx => by rw [q.1 28 0 (by simp)]; exact h.2.1 x hx, fun x hx => by rw [q.1 37 0 (by simp)]; exact h.2.2 x hx⟩
theorem in_bt (M : Mem) (z : Int32) : fX11_in z 97 122 M = some (bt (lLet z), M) := in_ev M z 97 122
theorem in_btd (M : Mem) (z : Int32) : fX11_in z 48 57 M = some (bt (lDig z), M) := in_ev M z 48 57
theorem wf26 {b : Nat → Int32} {n : Nat} (hn : n ≤ 160) {s e v : Nat} (hs : s ≤ e) (he : e ≤ n) (hv : v < 12) {k2 : Int32 → Mem → Option (Int32 × Mem)} {Q : Int32 → Mem → Prop} {N : Mem} (h : RT b n N) (ok : wm b s e v = true → Q (nI v) N) (no : wm b s e v = false → Ev (k2 (nI v + 1) N) Q) : e ≤ s + 8 → Ev (fX11_wordFrom_L26 k2 (nI s) (nI e) (nI v) FU 1 0 N) Q := by
  intro h8
  have key : ∀ j, j ≤ 8 → ∀ z : Nat, z ≤ 1 → (z = 1 ↔ wmA b s e v j = true) → (z = 0 ∨ j = 8) → Ev (fX11_wordFrom_J88 k2 (nI s) (nI e) (nI v) (nI z) N) Q := by
    intro j hj z hz hzw hj8
    have ew : wm b s e v = wmA b s e v 8 := by unfold wm; rw [decide_eq_true h8]; rfl
    unfold fX11_wordFrom_J88
    by_cases q : z = 0
    · subst q
      rw [if_pos (show nI 0 = 0 from rfl)]
      refine no ?_
      rw [ew]
      cases hw : wmA b s e v 8 with
      | false => rfl
      | true =>
        have := (wmA_iff b s e v 8).mp hw
        have h0 := hzw.mpr ((wmA_iff b s e v j).mpr (fun x hx => this x (by omega)))
        exact absurd h0 (by decide)
    · have z1 : z = 1 := by omega
      subst z1
      rw [if_neg (by decide)]
      have e8 : j = 8 := hj8.resolve_left q
      subst e8
      exact Ev.ret (ok (by rw [ew]; exact hzw.mp rfl))
  refine Ev.loop (Q := Q) (f := fun n (x : Int32 × Int32) M => fX11_wordFrom_L26 k2 (nI s) (nI e) (nI v) n x.1 x.2 M) (B := fun k x M => fX11_wordFrom_B26 k2 (nI s) (nI e) (nI v) (fun a c M => k (a, c) M) x.1 x.2 M) (fun _ _ _ => rfl) 8 (fun j x M => M = N ∧ x.2 = nI j ∧ ∃ z : Nat, z ≤ 1 ∧ x.1 = nI z ∧ (z = 1 ↔ wmA b s e v j = true)) ?_ ?_ FU 0 (1, 0) N (by omega) (by show 8 < 2000 + 0; omega) ⟨rfl, rfl, 1, by omega, rfl, ⟨fun _ => rfl, fun _ => rfl⟩⟩
  · rintro k j ⟨x1, x2⟩ M hj ⟨rfl, h2, z, hz, h1, hw⟩ cont
    have h2 : x2 = nI j := h2
    have h1 : x1 = nI z := h1
    subst h1
    subst h2
    show Ev (fX11_wordFrom_B26 k2 (nI s) (nI e) (nI v) (fun a c M => k (a, c) M) (nI z) (nI j) M) Q
    unfold fX11_wordFrom_B26
    rw [if_neg (fun q => by have := (nI_leI (a := 8) (by omega) (by omega)).mp q; omega)]
    by_cases q : z = 0
    · rw [if_pos (by rw [q]; rfl)]
      exact key j (by omega) z hz hw (Or.inl q)
    · have z1 : z = 1 := by omega
      subst z1
      rw [if_neg (by decide), show (8 : Int32) = nI 8 from rfl, nI_mulB, nI_add, nI_add, nI_clamp (show 8 * v + j < 2 ^ 31 by omega), nI_clamp (show s + j < 2 ^ 31 by omega), h.2.2 (8 * v + j) (by omega)]
      refine Ev.gd (inb_nI (by omega) (by decide)) ?_
      have go : ∀ y, y = (if s + j < e then b (s + j) else 32) → Ev (fX11_wordFrom_J72 k2 (fun a c M => k (a, c) M) (nI s) (nI e) (nI v) (nI j) y (tbWords.getD (8 * v + j) 0) M) Q := by
        intro y hy
        unfold fX11_wordFrom_J72
        rw [nI_1]
        have hwj : wmA b s e v j = true := hw.mp rfl
        have hww : wmA b s e v (j + 1) = decide (tbW v j = y) := by
          show (wmA b s e v j && decide (tbW v j = (if s + j < e then b (s + j) else 32))) = _
          rw [hwj, ← hy]; rfl
        by_cases w : tbWords.getD (8 * v + j) 0 = y
        · rw [if_pos w]
          exact cont (1, nI (j + 1)) M ⟨rfl, rfl, 1, by omega, rfl, ⟨fun _ => by rw [hww]; exact decide_eq_true w, fun _ => rfl⟩⟩
        · rw [if_neg w]
          exact cont (0, nI (j + 1)) M ⟨rfl, rfl, 0, by omega, rfl, ⟨fun z => absurd z (by decide), fun z => by rw [hww] at z; exact absurd (of_decide_eq_true z) w⟩⟩
      by_cases hse : s + j < e
      · rw [if_neg (fun q => by have := (nI_leI (by omega) (by omega)).mp q; omega), h.2.1 (s + j) (by omega)]
        exact Ev.gd (inb_nI (by omega) (by decide)) (go _ (by rw [if_pos hse]))
      · rw [if_pos ((nI_leI (by omega) (by omega)).mpr (by omega))]
        exact go 32 (by rw [if_neg hse])
  · rintro k ⟨x1, x2⟩ M ⟨rfl, h2, z, hz, h1, hw⟩
    have h2 : x2 = nI 8 := h2
    have h1 : x1 = nI z := h1
    subst h1
    subst h2
    show Ev (fX11_wordFrom_B26 k2 (nI s) (nI e) (nI v) (fun a c M => k (a, c) M) (nI z) (nI 8) M) Q
    unfold fX11_wordFrom_B26
    rw [if_pos (by decide)]
    exact key 8 (Nat.le_refl _) z hz hw (Or.inr rfl)
theorem wf_ev {b : Nat → Int32} {n : Nat} (hn : n ≤ 160) {s e : Nat} (hs : s ≤ e) (he : e ≤ n) {N : Mem} (h : RT b n N) : Ev (fX11_wordFrom (nI s) (nI e) N) (fun r N' => r = nI (wdN b s e) ∧ N' = N) := by
  unfold fX11_wordFrom
  refine Ev.loop (f := fX11_wordFrom_L2 (nI s) (nI e)) (B := fX11_wordFrom_B2 (nI s) (nI e)) (fun _ _ _ => rfl) 12 (fun j x M => M = N ∧ x = nI j ∧ ∀ v, v < j → wm b s e v = false) ?_ ?_ FU 0 0 N (by omega) (by show 12 < 2000 + 0; omega) ⟨rfl, rfl, fun v hv => absurd hv (Nat.not_lt_zero v)⟩
  · rintro k j x M hj ⟨rfl, rfl, hno⟩ cont
    unfold fX11_wordFrom_B2
    rw [if_neg (fun q => by have := (nI_leI (a := 12) (by omega) (by omega)).mp q; omega), pk_sub hs]
    have nxt : wm b s e j = false → Ev (k (nI j + 1) M) (fun r N' => r = nI (wdN b s e) ∧ N' = M) := fun hf => by
      rw [nI_1]
      refine cont _ _ ⟨rfl, rfl, fun v hv => ?_⟩
      by_cases q : v = j
      · rw [q]; exact hf
      · exact hno v (by omega)
    by_cases h8 : e ≤ s + 8
    · rw [if_neg (fun q => by have := (nI_ltI (a := 8) (by omega) (by omega)).mp q; omega)]
      exact wf26 hn hs he hj h (fun hw => ⟨by rw [wdN_is hj hw], rfl⟩) nxt h8
    · rw [if_pos (show (8 : Int32) < nI (e - s) from (nI_ltI (a := 8) (b := e - s) (by omega) (by omega)).mpr (by omega))]
      show Ev (fX11_wordFrom_B26 k (nI s) (nI e) (nI j) _ 0 0 M) _
      unfold fX11_wordFrom_B26 fX11_wordFrom_J88
      rw [if_neg (by decide), if_pos rfl, if_pos rfl]
      exact nxt (by unfold wm; rw [decide_eq_false h8]; rfl)
  · rintro k x M ⟨rfl, rfl, hno⟩
    unfold fX11_wordFrom_B2
    rw [if_pos (by decide)]
    exact Ev.ret ⟨by rw [wdN_no hno]; rfl, rfl⟩
end LM
