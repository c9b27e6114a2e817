/-! rooms: what stands thick, the people, the day, the law; how they are asked -/
section RM
theorem Ev.let_ {α : Type} {a : Mem} {F : Mem → Option (α × Mem)} {Q : α → Mem → Prop} (h : ∀ M1, M1 = a → Ev (F M1) Q) : Ev (lt a F) Q := h a rfl
abbrev Rm : Type := (Nat → Int32) × (Nat → Nat → Int32) × Nat × Int32 × Nat
def rT (R : Rm) : Nat → Int32 := R.1
def rA (R : Rm) : Nat → Nat → Int32 := R.2.1
def rN (R : Rm) : Nat := R.2.2.1
def rD (R : Rm) : Int32 := R.2.2.2.1
def rL (R : Rm) : Nat := R.2.2.2.2
def vwX (r : Nat) (M : Mem) : Rm := (fun c => if c < 36 then M 16 r c else 0, fun t p => if t < 4 ∧ p < (M 15 r 7).toNatClampNeg then M 18 (4 * r + t) p else 0, (M 15 r 7).toNatClampNeg, M 15 r 8, (M 15 r 9).toNatClampNeg)
def trK (t : Nat) : Nat := match t with
  | 0 => 25
  | 1 => 26
  | 2 => 23
  | _ => 24
def vwM (M : Mem) : Rm := (fun c => if c < 36 then M 27 0 c else 0, fun t p => if t < 4 ∧ p < (M 22 0 0).toNatClampNeg then M (trK t) 0 p else 0, (M 22 0 0).toNatClampNeg, M 22 0 6, (M 22 0 12).toNatClampNeg)
/-- the number of people at most 6, the law a text, all in its range -/
def okA (R : Rm) : Prop := rN R ≤ 6 ∧ ∀ p, p < rN R → (∃ n, n < 36 ∧ rA R 0 p = nI n) ∧ (∃ n, n < 100 ∧ rA R 1 p = nI n) ∧ (∃ n, n < 6 ∧ rA R 2 p = nI n) ∧ (∃ n, n < 10 ∧ rA R 3 p = nI n)
def okT (R : Rm) : Prop := ∀ c, ∃ n, n < 1000 ∧ rT R c = nI n
def InX (T r : Nat) (M : Mem) : Prop := M 15 r 7 = nI (rN (vwX r M)) ∧ M 15 r 9 = nI (rL (vwX r M)) ∧ rL (vwX r M) < T ∧ okA (vwX r M) ∧ okT (vwX r M)
def InM (T : Nat) (M : Mem) : Prop := M 22 0 0 = nI (rN (vwM M)) ∧ M 22 0 12 = nI (rL (vwM M)) ∧ rL (vwM M) < T ∧ okA (vwM M) ∧ okT (vwM M)
theorem vwX_T {r c : Nat} {M : Mem} (h : c < 36) : M 16 r c = rT (vwX r M) c := by simp [vwX, rT, h]
theorem vwX_A {r t p : Nat} {M : Mem} (ht : t < 4) (h : p < rN (vwX r M)) : M 18 (4 * r + t) p = rA (vwX r M) t p := by
  have h2 : p < (M 15 r 7).toNatClampNeg := h
  simp [vwX, rA, ht, h2]
theorem vwX_D {r : Nat} {M : Mem} : M 15 r 8 = rD (vwX r M) := rfl
theorem vwM_T {c : Nat} {M : Mem} (h : c < 36) : M 27 0 c = rT (vwM M) c := by simp [vwM, rT, h]
theorem vwM_A {t p : Nat} {M : Mem} (ht : t < 4) (h : p < rN (vwM M)) : M (trK t) 0 p = rA (vwM M) t p := by
  have h2 : p < (M 22 0 0).toNatClampNeg := h
  simp [vwM, rA, ht, h2]
/-- what the texts say -/
def svX (M : Mem) (t part : Nat) (nm : Nat → Int32) : Int32 := clipP part (topW (evX (M 11 t) nm ((M 10 t (part + 1)).toNatClampNeg - (M 10 t part).toNatClampNeg) (M 10 t part).toNatClampNeg []))
def TxtAt (t : Nat) (M : Mem) : Prop := ∃ (n : Nat) (b : Nat → Nat), n ≤ 160 ∧ M 8 t 0 = nI n ∧ (∀ q, q < 4 → M 10 t q = nI (b q) ∧ M 30 0 (4 * t + q) = nI (b q) ∧ b q ≤ n) ∧ (∀ q, q < 3 → b q ≤ b (q + 1)) ∧ (∀ i, i < n → okc (M 29 0 (200 * t + i)) ∧ M 11 t i = encC (M 29 0 (200 * t + i))) ∧
  ∀ q, q < 3 → runD (M 11 t) (b (q + 1) - b q) (b q) 0 = some 1
def Txt (T : Nat) (M : Mem) : Prop := 1 ≤ T ∧ T ≤ 6 ∧ ∀ t, t < T → TxtAt t M
def nmR (R : Rm) (p c : Nat) : Nat → Int32 := fun k => if k = 0 then nI (c % 6) else if k = 1 then nI (c / 6) else if k = 2 then rT R c else if k = 3 then rD R else if k = 4 then rA R 1 p else rA R 3 p
def saidS (E : Nat → Nat → (Nat → Int32) → Int32) (R : Rm) (part p c : Nat) : Int32 := E (rL R) part (nmR R p c)
theorem stX_nm {nm nm' : Nat → Int32} (h : ∀ k, k < 6 → nm k = nm' k) (w : Int32) (st : List Int32) : stX nm w st = stX nm' w st := by
  unfold stX
  split
  · rfl
  · rename_i h6
    split
    · rfl
    · split
      · rename_i h0
        have := lt6_of h0 h6
        rw [h _ (by show ((-1) - w).toInt.toNat < 6; omega)]
      · rfl
theorem evX_nm {nm nm' cd cd' : Nat → Int32} (h : ∀ k, k < 6 → nm k = nm' k) : ∀ (n i : Nat) (st : List Int32), (∀ k, i ≤ k → k < i + n → cd k = cd' k) → evX cd nm n i st = evX cd' nm' n i st := by
  intro n
  induction n with
  | zero => intro i st _; rfl
  | succ n ih =>
    intro i st hc
    show evX cd nm n (i + 1) (stX nm (cd i) st) = evX cd' nm' n (i + 1) (stX nm' (cd' i) st)
    rw [stX_nm h, hc i (by omega) (by omega)]
    exact ih (i + 1) _ (fun k h1 h2 => hc k (by omega) (by omega))
theorem svX_nm {M : Mem} {t part : Nat} {nm nm' : Nat → Int32} (h : ∀ k, k < 6 → nm k = nm' k) : svX M t part nm = svX M t part nm' := by
  unfold svX
  rw [evX_nm h _ _ _ (fun _ _ _ => rfl)]
theorem svX_off {M M' : Mem} (h10 : ∀ i, M' 10 i = M 10 i) (h11 : ∀ i, M' 11 i = M 11 i) : svX M' = svX M := by
  funext t part nm
  unfold svX
  rw [h10, h11]
theorem TxtAt.off {t : Nat} {M M' : Mem} (h : TxtAt t M) (h8 : M' 8 t = M 8 t) (h10 : M' 10 t = M 10 t) (h11 : M' 11 t = M 11 t) (h29 : M' 29 0 = M 29 0) (h30 : M' 30 0 = M 30 0) : TxtAt t M' := by
  unfold TxtAt
  rw [h8, h10, h11, h29, h30]
  exact h
abbrev scS (r : Nat) : Nat → Nat → Prop := fun K i => K = 9 ∨ (K = 19 ∧ i = r)
set_option maxHeartbeats 1000000 in
theorem said_ev {T r part p c : Nat} {M : Mem} (hT : Txt T M) (hI : InX T r M) (hpart : part < 3) (hp : p < rN (vwX r M)) (hc : c < 36) : Ev (fX5_said r (nI part) (nI p) (nI c) M) (fun v M' => v = saidS (svX M) (vwX r M) part p c ∧ Off (scS r) M M') := by
  obtain ⟨h7, h9, hL, hA, -⟩ := hI
  have hp6 : p < 6 := Nat.lt_of_lt_of_le hp hA.1
  have hL6 : rL (vwX r M) < 6 := Nat.lt_of_lt_of_le hL hT.2.1
  unfold fX5_said
  refine Ev.gd (by decide) (Ev.let_ fun M1 h1 => Ev.gd (by decide) (Ev.let_ fun M2 h2 => Ev.gd (inb_nI hc (by decide)) (Ev.gd (by decide) (Ev.let_ fun M3 h3 => Ev.gd (by decide) (Ev.let_ fun M4 h4 => Ev.gd (by decide) (Ev.gd (inb_nI hp6 (by decide)) (Ev.gd (by decide) (Ev.let_ fun M6 h6 => Ev.gd (by decide) (Ev.gd (inb_nI hp6 (by decide)) (Ev.gd (by decide) (Ev.let_ fun M8 h8 => ?_)))))))))))
  have cp := nI_clamp (show p < 2 ^ 31 by omega)
  have o1 : Off (fun K i => K = 19 ∧ i = r) M M1 := by rw [h1]; exact Off.rf.mst ⟨rfl, rfl⟩
  have o2 : Off (fun K i => K = 19 ∧ i = r) M M2 := by rw [h2]; exact o1.mst ⟨rfl, rfl⟩
  have o3 : Off (fun K i => K = 19 ∧ i = r) M M3 := by rw [h3]; exact o2.mst ⟨rfl, rfl⟩
  have o4 : Off (fun K i => K = 19 ∧ i = r) M M4 := by rw [h4]; exact o3.mst ⟨rfl, rfl⟩
  have o6 : Off (fun K i => K = 19 ∧ i = r) M M6 := by rw [h6]; exact o4.mst ⟨rfl, rfl⟩
  have o : Off (fun K i => K = 19 ∧ i = r) M M8 := by rw [h8]; exact o6.mst ⟨rfl, rfl⟩
  have n19 : ∀ {K i : Nat}, K ≠ 19 → M8 K i = M K i := fun h => o.at (fun q => h q.1)
  rw [irem_nI c hc, show (0 : Int32).toNatClampNeg = 0 by decide] at h1
  rw [idiv_nI c hc, show (1 : Int32).toNatClampNeg = 1 by decide] at h2
  rw [nI_clamp (show c < 2 ^ 31 by omega), show (2 : Int32).toNatClampNeg = 2 by decide, o2.at (fun q => absurd q.1 (by decide)), vwX_T (r := r) (M := M) hc] at h3
  rw [show (3 : Int32).toNatClampNeg = 3 by decide, o3.at (fun q => absurd q.1 (by decide)), vwX_D (r := r) (M := M)] at h4
  rw [cp, show (4 : Int32).toNatClampNeg = 4 by decide, show (1 : Int32).toNatClampNeg = 1 by decide, o4.at (fun q => absurd q.1 (by decide)), vwX_A (r := r) (M := M) (t := 1) (by omega) hp] at h6
  rw [cp, show (5 : Int32).toNatClampNeg = 5 by decide, show (3 : Int32).toNatClampNeg = 3 by decide, o6.at (fun q => absurd q.1 (by decide)), vwX_A (r := r) (M := M) (t := 3) (by omega) hp] at h8
  have f1 : M1 19 r = upd (M 19 r) 0 (nI (c % 6)) := by rw [h1, mst_s]
  have f2 : M2 19 r = upd (M1 19 r) 1 (nI (c / 6)) := by rw [h2, mst_s]
  have f3 : M3 19 r = upd (M2 19 r) 2 (rT (vwX r M) c) := by rw [h3, mst_s]
  have f4 : M4 19 r = upd (M3 19 r) 3 (rD (vwX r M)) := by rw [h4, mst_s]
  have f6 : M6 19 r = upd (M4 19 r) 4 (rA (vwX r M) 1 p) := by rw [h6, mst_s]
  have f8 : M8 19 r = upd (M6 19 r) 5 (rA (vwX r M) 3 p) := by rw [h8, mst_s]
  have nm : ∀ k, k < 6 → M8 19 r k = nmR (vwX r M) p c k := by
    intro k hk
    rw [f8, f6, f4, f3, f2, f1]
    match k, hk with
    | 0, _ => rfl
    | 1, _ => rfl
    | 2, _ => rfl
    | 3, _ => rfl
    | 4, _ => rfl
    | 5, _ => rfl
    | k + 6, h => omega
  show Ev (gd (inb (M8 15 r 9) 6) _) _
  rw [n19 (K := 15) (by decide), h9]
  refine Ev.gd (inb_nI hL6 (by decide)) ?_
  rw [nI_clamp (show rL (vwX r M) < 2 ^ 31 by omega)]
  obtain ⟨n, b, hn, q8, qb, qm, qc, qw⟩ := hT.2.2 _ hL
  refine Ev.bind (says_ev (n := n) (b := b) hpart hn (by rw [n19 (by decide)]; exact q8) (fun q hq => ⟨by rw [n19 (by decide)]; exact (qb q hq).1, (qb q hq).2.2⟩)) (fun v M2 hv => Ev.ret ⟨?_, ?_⟩)
  · rw [hv.1, n19 (by decide)]
    unfold saidS svX
    have e1 := (qb part (by omega)).1
    have e2 := (qb (part + 1) (by omega)).1
    have l1 := (qb part (by omega)).2.2
    have l2 := (qb (part + 1) (by omega)).2.2
    rw [e1, e2, nI_clamp (show b part < 2 ^ 31 by omega), nI_clamp (show b (part + 1) < 2 ^ 31 by omega), evX_nm nm _ _ _ (fun _ _ _ => rfl)]
  · exact (o.mono (fun K i h => Or.inr h)).tr (hv.2.mono (fun K i h => Or.inl h.1))
end RM
