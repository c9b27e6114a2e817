/-! the reference keeps its row and lays it back -/
section KP
theorem keeps_ev {M : Mem} : Ev (fX11_keeps M) (fun _ M' => (∀ c, c < 36 → M' 41 0 c = M 27 0 c) ∧ M' 41 0 36 = M 22 0 6 ∧ Off (fun K _ => K = 41) M M') := by
  unfold fX11_keeps
  refine Ev.loop (f := fun m (x : Int32) M => fX11_keeps_L2 m x M) (B := fun k x M => fX11_keeps_B2 k x M) (fun _ _ _ => rfl) 36
    (fun j x M' => x = nI j ∧ (∀ c, c < j → M' 41 0 c = M 27 0 c) ∧ Off (fun K _ => K = 41) M M') ?_ ?_ FU 0 (nI 0) M (Nat.zero_le _) (by show _ < 2000 + 0; omega) ⟨rfl, fun t ht => absurd ht (Nat.not_lt_zero _), Off.rf⟩
  · rintro k j x M' hj ⟨rfl, ha, hoff⟩ hk
    show Ev (fX11_keeps_B2 k (nI j) M') _
    unfold fX11_keeps_B2
    rw [if_neg (fun q => by have := (nI_leI (a := 36) (by omega) (by omega)).mp q; omega)]
    refine Ev.gd (inb_nI hj (by decide)) (Ev.gd (inb_nI (by omega) (by decide)) (Ev.let_ fun M2 h2 => ?_))
    rw [nI_clamp (show j < 2 ^ 31 by omega), hoff.at (by decide)] at h2
    rw [nI_1]
    refine hk _ M2 ⟨rfl, fun c hc => ?_, by rw [h2]; exact hoff.mst rfl⟩
    rw [h2, mst_s]
    by_cases e : c = j
    · subst e; simp [upd]
    · simp only [upd, if_neg e]
      exact ha c (by omega)
  · rintro k x M' ⟨rfl, ha, hoff⟩
    show Ev (fX11_keeps_B2 k (nI 36) M') _
    unfold fX11_keeps_B2
    rw [if_pos (by decide)]
    refine Ev.gd (by decide) (Ev.let_ fun M1 h1 => Ev.ret ?_)
    rw [show (36 : Int32).toNatClampNeg = 36 by decide, hoff.at (by decide)] at h1
    refine ⟨fun c hc => ?_, ?_, by rw [h1]; exact hoff.mst rfl⟩
    · rw [h1, mst_s]
      simp only [upd, if_neg (show c ≠ 36 by omega)]
      exact ha c hc
    · rw [h1, mst_s]; simp [upd]
theorem lays_ev {M : Mem} : Ev (fX11_lays M) (fun _ M' => (∀ c, c < 36 → M' 27 0 c = M 41 0 c) ∧ M' 22 0 6 = M 41 0 36 ∧ of22 M M' ∧ Off (fun K _ => K = 27 ∨ K = 22) M M') := by
  unfold fX11_lays
  refine Ev.loop (f := fun m (x : Int32) M => fX11_lays_L2 m x M) (B := fun k x M => fX11_lays_B2 k x M) (fun _ _ _ => rfl) 36
    (fun j x M' => x = nI j ∧ (∀ c, c < j → M' 27 0 c = M 41 0 c) ∧ Off (fun K _ => K = 27) M M') ?_ ?_ FU 0 (nI 0) M (Nat.zero_le _) (by show _ < 2000 + 0; omega) ⟨rfl, fun t ht => absurd ht (Nat.not_lt_zero _), Off.rf⟩
  · rintro k j x M' hj ⟨rfl, ha, hoff⟩ hk
    show Ev (fX11_lays_B2 k (nI j) M') _
    unfold fX11_lays_B2
    rw [if_neg (fun q => by have := (nI_leI (a := 36) (by omega) (by omega)).mp q; omega)]
    refine Ev.gd (inb_nI (by omega) (by decide)) (Ev.gd (inb_nI hj (by decide)) (Ev.let_ fun M2 h2 => ?_))
    rw [nI_clamp (show j < 2 ^ 31 by omega), hoff.at (by decide)] at h2
    rw [nI_1]
    refine hk _ M2 ⟨rfl, fun c hc => ?_, by rw [h2]; exact hoff.mst rfl⟩
    rw [h2, mst_s]
    by_cases e : c = j
    · subst e; simp [upd]
    · simp only [upd, if_neg e]
      exact ha c (by omega)
  · rintro k x M' ⟨rfl, ha, hoff⟩
    show Ev (fX11_lays_B2 k (nI 36) M') _
    unfold fX11_lays_B2
    rw [if_pos (by decide)]
    refine Ev.gd (by decide) (Ev.let_ fun M1 h1 => Ev.ret ?_)
    rw [show (36 : Int32).toNatClampNeg = 36 by decide, hoff.at (by decide)] at h1
    refine ⟨fun c hc => ?_, ?_, fun s hs => ?_, ?_⟩
    · rw [h1, mst_n (by simp)]; exact ha c hc
    · rw [h1, mst_s]; simp [upd]
    · rw [h1, mst_s]
      simp only [upd, if_neg hs]
      rw [hoff.at (by decide)]
    · rw [h1]
      exact (hoff.mono (fun K i h => Or.inl h)).mst (Or.inr rfl)
/-- between keeping and laying back: the row kept, people and law as they were -/
def Kept (M N : Mem) : Prop := (∀ c, c < 36 → N 41 0 c = M 27 0 c) ∧ N 41 0 36 = M 22 0 6 ∧ of22 M N
theorem laid {M N M' : Mem} (hk : Kept M N) (h25 : N 25 0 = M 25 0) (h26 : N 26 0 = M 26 0) (h23 : N 23 0 = M 23 0) (h24 : N 24 0 = M 24 0) (hl : (∀ c, c < 36 → M' 27 0 c = N 41 0 c) ∧ M' 22 0 6 = N 41 0 36 ∧ of22 N M' ∧ Off (fun K _ => K = 27 ∨ K = 22) N M') : vwM M' = vwM M ∧ M' 22 0 = M 22 0 ∧ ∀ c, c < 36 → M' 27 0 c = M 27 0 c := by
  obtain ⟨k1, k2, k3⟩ := hk
  obtain ⟨l1, l2, l3, l4⟩ := hl
  have e22 : M' 22 0 = M 22 0 := by
    funext s
    by_cases h : s = 6
    · subst h; rw [l2, k2]
    · rw [l3 s h, k3 s h]
  have e27 : ∀ c, c < 36 → M' 27 0 c = M 27 0 c := fun c hc => by rw [l1 c hc, k1 c hc]
  refine ⟨?_, e22, e27⟩
  rw [vwM_T2 (M := M) e22 (by rw [l4.at (by decide), h25]) (by rw [l4.at (by decide), h26]) (by rw [l4.at (by decide), h23]) (by rw [l4.at (by decide), h24])]
  refine Prod.ext ?_ rfl
  funext c
  by_cases hc : c < 36
  · simp only [hc, if_true]
    rw [e27 c hc, vwM_T (M := M) hc]
    rfl
  · simp [hc, vwM]
end KP
