/-! count -/
section CN
theorem count_same (v : Int32) : Same (fX10_count v) (fX11_count v) := by
  rintro M ⟨T, h⟩
  have hv : vwX 0 M = vwM M := h.2.2.2.2.2.1
  have e7 : M 22 0 0 = M 15 0 7 := by rw [h.2.2.2.2.1.1, h.2.2.2.1.1, hv]
  have e8 : M 22 0 6 = M 15 0 8 := by
    show rD (vwM M) = rD (vwX 0 M)
    rw [hv]
  have e9 : M 22 0 12 = M 15 0 9 := by rw [h.2.2.2.2.1.2.1, h.2.2.2.1.2.1, hv]
  have e11 : M 22 0 11 = M 0 0 8 := by rw [h.2.1, h.2.2.1]
  obtain ⟨n, hn, t1, t2, -⟩ := h.2.2.2.2.2.2.2.1
  have te : M 22 0 8 = M 1 0 3 := by rw [t1, t2]
  unfold fX10_count
  have fin : ∀ r : Int32, (∃ (_ : True), fX11_count v M = some (r, M)) → Ev (some (r, M)) (fun r M1 => Ev (fX11_count v M1) (fun r2 M2 => r2 = r ∧ Rel M2)) := fun r hr => Ev.ret (by rw [hr.2]; exact Ev.ret ⟨rfl, T, h⟩)
  refine Ev.ite (fun h0 => fin _ ⟨trivial, by rw [fX11_count, if_pos h0, e7]⟩) (fun h0 => ?_)
  refine Ev.ite (fun h1 => fin _ ⟨trivial, by rw [fX11_count, if_neg h0, if_pos h1, e8]⟩) (fun h1 => ?_)
  refine Ev.ite (fun h2 => ?_) (fun h2 => ?_)
  · refine Ev.bind (total_ev (r := 0) (lo := 0) (hi := 36) (by omega) (by omega)) (fun v1 M1 q => Ev.ret ?_)
    obtain ⟨q1, rfl⟩ := q
    rw [fX11_count, if_neg h0, if_neg h1, if_pos h2]
    refine Ev.bind allOf_ev (fun v2 M2 q2 => Ev.ret ?_)
    obtain ⟨q3, rfl⟩ := q2
    exact ⟨by rw [q1, q3, hv], T, h⟩
  refine Ev.ite (fun h3 => fin _ ⟨trivial, by rw [fX11_count, if_neg h0, if_neg h1, if_neg h2, if_pos h3, e11]⟩) (fun h3 => ?_)
  refine Ev.ite (fun h4 => fin _ ⟨trivial, by rw [fX11_count, if_neg h0, if_neg h1, if_neg h2, if_neg h3, if_pos h4, e9]⟩) (fun h4 => ?_)
  refine Ev.ite (fun h5 => fin _ ⟨trivial, by rw [fX11_count, if_neg h0, if_neg h1, if_neg h2, if_neg h3, if_neg h4, if_pos h5, te]⟩) (fun h5 => ?_)
  exact fin _ ⟨trivial, by rw [fX11_count, if_neg h0, if_neg h1, if_neg h2, if_neg h3, if_neg h4, if_neg h5]⟩
end CN
