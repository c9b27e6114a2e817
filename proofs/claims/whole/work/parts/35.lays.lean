/-! lay -/
section LS
theorem lay_same (v w : Int32) : Same (fX10_lay v w) (fX11_lay v w) := by
  rintro M ⟨T, h⟩
  have hv : vwX 0 M = vwM M := h.2.2.2.2.2.1
  unfold fX10_lay
  rw [cellX_ev, ob_some]
  refine Ev.ite (fun h0 => Ev.ret ?_) (fun h0 => ?_)
  · unfold fX11_lay
    rw [cellM_ev, ob_some, if_pos h0]
    exact Ev.ret ⟨rfl, T, h⟩
  · rw [within_ev, ob_some]
    refine Ev.ite (fun h1 => Ev.ret ?_) (fun h1 => ?_)
    · unfold fX11_lay
      rw [cellM_ev, ob_some, if_neg h0, in_ev, ob_some, if_pos h1]
      exact Ev.ret ⟨rfl, T, h⟩
    · obtain ⟨c, hc, rfl⟩ := rng (n := 35) (by decide) (Decidable.byContradiction fun q => h0 (bt_and.mpr q))
      obtain ⟨n, hn, rfl⟩ := rng (n := 999) (by decide) (Decidable.byContradiction fun q => h1 (bt_and.mpr q))
      have hin : inb (nI c) 36 = true := inb_nI (by omega) (by decide)
      have cc := nI_clamp (show c < 2 ^ 31 by omega)
      refine Ev.gd hin (Ev.letv (Ev.gd hin (Ev.let_ fun M6 h6 => Ev.ret ?_)))
      rw [cc] at h6 ⊢
      unfold fX11_lay
      rw [cellM_ev, ob_some, if_neg h0, in_ev, ob_some, if_neg h1]
      refine Ev.gd hin (Ev.letv (Ev.gd hin (Ev.let_ fun M7 h7 => Ev.ret ?_)))
      rw [cc] at h7 ⊢
      have e27 : M6 27 0 = M 27 0 := by rw [h6, mst_n (by simp)]
      refine ⟨by rw [e27, vwX_T (r := 0) (M := M) (by omega), vwM_T (M := M) (by omega), hv], T, ?_⟩
      have x6 : vwX 0 M6 = setT (vwX 0 M) c (nI n) := vwX_set (by omega) (by rw [h6, mst_s]) (by rw [h6, mst_n (by simp)]) (fun t _ => by rw [h6, mst_n (by simp)])
      have x7 : vwX 0 M7 = vwX 0 M6 := vwX_eq (by rw [h7, mst_n (by simp)]) (by rw [h7, mst_n (by simp)]) (fun t _ => by rw [h7, mst_n (by simp)])
      have m6 : vwM M6 = vwM M := vwM_eq (by rw [h6, mst_n (by simp)]) e27 (by rw [h6, mst_n (by simp)]) (by rw [h6, mst_n (by simp)]) (by rw [h6, mst_n (by simp)]) (by rw [h6, mst_n (by simp)])
      have m7 : vwM M7 = setT (vwM M6) c (nI n) := by rw [h7]; exact vwM_set (by omega)
      refine h.thick (fun K i _ e1 e2 => by rw [h7, mst_n e2, h6, mst_n e1]) (by rw [x7, x6, m7, m6, hv]) ?_
      rw [x7, x6]
      exact okT_set h.2.2.2.1.2.2.2.2 (by omega)
end LS
