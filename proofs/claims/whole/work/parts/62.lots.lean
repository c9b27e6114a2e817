/-! callers by lots -/
section LO
abbrev WS : Type := Int32 × Nat × Nat × Rm
def goN (c d : Nat) : Nat := match nbN c d with
  | some e => e
  | none => c
def lotN (l : Nat) : Nat := l * 48271 % 2147483647
def wnT (E : TE) (p : Nat) (x : WS) : WS := (x.1 + feltS E x.2.2.2 p x.2.1, goN x.2.1 (lotN x.2.2.1 % 4), lotN x.2.2.1, setT x.2.2.2 x.2.1 (rT x.2.2.2 x.2.1 - lostS E x.2.2.2 p x.2.1))
def wnS (E : TE) (R : Rm) (p c sd : Nat) : Nat → WS
  | 0 => (0, c, sd + 1, R)
  | n + 1 => wnT E p (wnS E R p c sd n)
theorem goN_lt {c d : Nat} (hc : c < 36) (hd : d < 4) : goN c d < 36 := by
  unfold goN
  split
  · rename_i e h
    exact (nb_facts hc hd h).1
  · exact hc
theorem lotN_lt {l : Nat} : lotN l < 2147483647 := Nat.mod_lt _ (by decide)
theorem wnS_ok {M : Mem} {R : Rm} {p c sd : Nat} (hA : okA R) (hT : okT R) (hp : p < rN R) (hc : c < 36) (hs : sd < 200000) : ∀ n, (wnS (svX M) R p c sd n).2.1 < 36 ∧ (wnS (svX M) R p c sd n).2.2.1 < 2147483648 ∧ (wnS (svX M) R p c sd n).2.2.2.2 = R.2 ∧ okT (wnS (svX M) R p c sd n).2.2.2 := by
  intro n
  induction n with
  | zero => exact ⟨hc, by show sd + 1 < 2147483648; omega, rfl, hT⟩
  | succ n ih =>
    obtain ⟨h1, h2, h3, h4⟩ := ih
    have hN : rN (wnS (svX M) R p c sd n).2.2.2 = rN R := by unfold rN; rw [h3]
    refine ⟨goN_lt h1 (Nat.mod_lt _ (by decide)), Nat.lt_of_lt_of_le lotN_lt (by decide), ?_, lost_ok (okA_2 h3 hA) h4 (by rw [hN]; exact hp)⟩
    show (setT (wnS (svX M) R p c sd n).2.2.2 _ _).2 = R.2
    exact h3
theorem lot_ev {l : Nat} (h : l < 2147483648) : lrem (lN l * 48271) 2147483647 = lN (lotN l) ∧ (lrem (lN (lotN l)) 4).toInt32 = nI (lotN l % 4) := by
  have h2 : lotN l < 2147483647 := lotN_lt
  constructor
  · rw [show lN l * 48271 = lN (l * 48271) from lN_mul l 48271]
    exact pk_lRem (a := l * 48271) (b := 2147483647) (by omega) (by omega) (by omega)
  · rw [show lrem (lN (lotN l)) 4 = lN (lotN l % 4) from pk_lRem (a := lotN l) (b := 4) (by omega) (by omega) (by omega), lN_i]
theorem goes_ev (M : Mem) {c d : Nat} (hc : c < 36) (hd : d < 4) : fX11_goesBy (nI c) (nI d) M = some (nI (goN c d), M) := by
  obtain ⟨t1, t2, t3, t4, t5, t6, t7, t8⟩ := nb_tab c hc
  unfold fX11_goesBy
  match d, hd with
  | 0, _ =>
    rw [if_pos (show nI 0 = 0 from rfl), show goN c 0 = (match nbN c 0 with | some e => e | none => c) from rfl, show nbN c 0 = (if c % 6 < 5 then some (c + 1) else none) from rfl]
    by_cases h : c % 6 < 5
    · rw [if_neg (t1.mpr h), if_pos h, t5]
    · rw [if_pos (Decidable.byContradiction fun q => h (t1.mp q)), if_neg h]
  | 1, _ =>
    rw [if_neg (show ¬ nI 1 = 0 by decide), if_pos (show nI 1 = 1 from rfl), show goN c 1 = (match nbN c 1 with | some e => e | none => c) from rfl, show nbN c 1 = (if 0 < c % 6 then some (c - 1) else none) from rfl]
    by_cases h : 0 < c % 6
    · rw [if_neg (fun q => t2.mp q h), if_pos h, t7 (by omega)]
    · rw [if_pos (t2.mpr h), if_neg h]
  | 2, _ =>
    rw [if_neg (show ¬ nI 2 = 0 by decide), if_neg (show ¬ nI 2 = 1 by decide), if_pos (show nI 2 = 2 from rfl), show goN c 2 = (match nbN c 2 with | some e => e | none => c) from rfl, show nbN c 2 = (if c < 30 then some (c + 6) else none) from rfl]
    by_cases h : c < 30
    · rw [if_neg (fun q => t3.mp q h), if_pos h, t6]
    · rw [if_pos (t3.mpr h), if_neg h]
  | 3, _ =>
    have l5 : nI c ≤ 5 ↔ ¬ 6 ≤ c := by
      rw [show (nI c ≤ 5) ↔ (nI c ≤ nI 5) from Iff.rfl, nI_leI (by omega) (by omega)]; omega
    rw [if_neg (show ¬ nI 3 = 0 by decide), if_neg (show ¬ nI 3 = 1 by decide), if_neg (show ¬ nI 3 = 2 by decide), show goN c 3 = (match nbN c 3 with | some e => e | none => c) from rfl, show nbN c 3 = (if 6 ≤ c then some (c - 6) else none) from rfl]
    by_cases h : 6 ≤ c
    · rw [if_neg (fun q => l5.mp q h), if_pos h, t8 h]
    · rw [if_pos (l5.mpr h), if_neg h]
  | d + 4, h => omega
theorem ThX.scr {T : Nat} {M N N2 : Mem} {R : Rm} (h : ThX T M N R) (h2 : Off (scS 1) N N2) : ThX T M N2 R := by
  obtain ⟨k1, k2, k3⟩ := h
  exact ⟨k1.tr (Kp.off h2 nk_S), k2.same (h2.at (by simp [scS])) (h2.at (by simp [scS])) (fun t _ => h2.at (by simp [scS])), by rw [scS_vw h2]; exact k3⟩
theorem ThX.slot {T : Nat} {M N : Mem} {R : Rm} {v : Int32} (h : ThX T M N R) : ThX T M (mst N 15 1 10 v) R := by
  obtain ⟨k1, k2, k3⟩ := h
  have e7 : mst N 15 1 10 v 15 1 7 = N 15 1 7 := by rw [mst_s]; simp [upd]
  have e8 : mst N 15 1 10 v 15 1 8 = N 15 1 8 := by rw [mst_s]; simp [upd]
  have e9 : mst N 15 1 10 v 15 1 9 = N 15 1 9 := by rw [mst_s]; simp [upd]
  have ev : vwX 1 (mst N 15 1 10 v) = vwX 1 N := by
    unfold vwX
    rw [e7, e8, e9, mst_n (by simp)]
    refine Prod.ext rfl (Prod.ext ?_ rfl)
    funext t p
    simp only [mst_n (show ¬ (18 = 15 ∧ 4 * 1 + t = 1) by simp)]
  refine ⟨fun K i hK => ?_, ?_, by rw [ev]; exact k3⟩
  · rw [mst_n (fun q => ?_)]
    · exact k1 K i hK
    · obtain ⟨rfl, rfl⟩ := q
      simp [keptK] at hK
  · obtain ⟨a1, a2, a3, a4, a5⟩ := k2
    exact ⟨by rw [ev, e7]; exact a1, by rw [ev, e9]; exact a2, by rw [ev]; exact a3, by rw [ev]; exact a4, by rw [ev]; exact a5⟩
theorem ThX.wear {T p c : Nat} {M N : Mem} {R : Rm} (hT : Txt T M) (h : ThX T M N R) (hp : p < rN R) (hc : c < 36) : Ev (fX5_wear 1 (nI p) (nI c) N) (fun v N2 => ThX T M N2 (setT R c (rT R c - lostS (svX M) R p c)) ∧ N2 15 1 = N 15 1) := by
  obtain ⟨k1, k2, k3⟩ := h
  refine (wear_ev (k1.txt hT) k2 (by rw [k3]; exact hp) hc).mono (fun v N2 q => ?_)
  obtain ⟨q1, q2, q3⟩ := q
  rw [k3, k1.sv] at q2
  have e15 : N2 15 1 = N 15 1 := q3.at (by simp [scW])
  have hA : okA R := by have := k2.2.2.2.1; rw [k3] at this; exact this
  have hT2 : okT R := by have := k2.2.2.2.2; rw [k3] at this; exact this
  refine ⟨⟨k1.tr (Kp.off q3 nk_W), k2.eqv ?_ (by rw [e15]) (by rw [e15]) (by rw [q2]; exact lost_ok hA hT2 hp), q2⟩, e15⟩
  rw [q2, k3]
  rfl
theorem wanX_ev {T p c sd k : Nat} {M N : Mem} {R : Rm} (hT : Txt T M) (h : ThX T M N R) (hp : p < rN R) (hc : c < 36) (hs : sd < 200000) (hk : k < 100) : Ev (fX5_wander 1 (nI sd) (nI p) (nI c) (nI k) N) (fun r N2 => r = (wnS (svX M) R p c sd k).1 ∧ N2 15 1 10 = nI (wnS (svX M) R p c sd k).2.1 ∧ Kp M N2) := by
  have hA : okA R := by have := h.2.1.2.2.2.1; rw [h.2.2] at this; exact this
  have hT2 : okT R := by have := h.2.1.2.2.2.2; rw [h.2.2] at this; exact this
  have hok := wnS_ok (M := M) hA hT2 hp hc hs
  have hst : ∀ n, wnS (svX M) R p c sd (n + 1) = wnT (svX M) p (wnS (svX M) R p c sd n) := fun _ => rfl
  have h00 : wnS (svX M) R p c sd 0 = (0, c, sd + 1, R) := rfl
  generalize wnS (svX M) R p c sd = W at hok hst h00
  unfold fX5_wander
  refine Ev.letv ?_
  refine Ev.let_ fun N2 h2 => ?_
  rw [nI_1, nI_l (show sd + 1 < 2 ^ 31 by omega)]
  refine Ev.loop (f := fun m (x : Int64 × Int32 × Int32) M => fX5_wander_L17 1 (nI p) (nI k) m x.1 x.2.1 x.2.2 M) (B := fun k' x M => fX5_wander_B17 1 (nI p) (nI k) (fun a b d M => k' (a, b, d) M) x.1 x.2.1 x.2.2 M) (fun _ _ _ => rfl) k
    (fun j x N => x = (lN (W j).2.2.1, (W j).1, nI j) ∧ ThX T M N (W j).2.2.2 ∧ N 15 1 10 = nI (W j).2.1) ?_ ?_ FU 0 (lN (sd + 1), 0, nI 0) N2 (Nat.zero_le _) (by show _ < 2000 + 0; omega) ⟨by rw [h00], by rw [h2, h00]; exact h.slot, by rw [h2, mst_s, h00]; simp [upd]⟩
  · rintro k' j x N hj ⟨rfl, hN, hw⟩ hk'
    obtain ⟨o1, o2, o3, o4⟩ := hok j
    have hpR : p < rN (W j).2.2.2 := by unfold rN; rw [o3]; exact hp
    show Ev (fX5_wander_B17 1 (nI p) (nI k) (fun a b d M => k' (a, b, d) M) (lN (W j).2.2.1) (W j).1 (nI j) N) _
    unfold fX5_wander_B17
    rw [if_neg (fun q => by have := (nI_leI (by omega) (by omega)).mp q; omega), hw]
    refine Ev.bind (felt_ev (hN.1.txt hT) hN.2.1 (by rw [hN.2.2]; exact hpR) o1) (fun r N4 q4 => Ev.letv ?_)
    rw [hN.2.2, hN.1.sv] at q4
    have hN4 := hN.scr q4.2
    have e10 : N4 15 1 10 = nI (W j).2.1 := by rw [q4.2.at (by simp [scS])]; exact hw
    rw [e10]
    refine Ev.bind (hN4.wear hT hpR o1) (fun _ N7 q7 => Ev.letv ?_)
    obtain ⟨q7, q8⟩ := q7
    have e10b : N7 15 1 10 = nI (W j).2.1 := by rw [q8]; exact e10
    rw [(lot_ev o2).1, (lot_ev o2).2, e10b, nb_ev N7 o1 (Nat.mod_lt _ (by decide)), ob_some, nI_1]
    have hWs := hst j
    have hgo : (W (j + 1)).2.1 = goN (W j).2.1 (lotN (W j).2.2.1 % 4) := by rw [hWs]; rfl
    cases hnb : nbN (W j).2.1 (lotN (W j).2.2.1 % 4) with
    | none =>
      rw [show oI none = -1 from rfl, if_pos rfl, e10b]
      refine Ev.let_ fun N8 h8 => hk' _ N8 ⟨by rw [hWs, q4.1]; rfl, by rw [h8, hWs]; exact q7.slot, ?_⟩
      rw [h8, mst_s, hgo, goN, hnb]
      simp [upd]
    | some e =>
      have he := (nb_facts o1 (Nat.mod_lt _ (by decide)) hnb).1
      rw [show oI (some e) = nI e from rfl, if_neg (nI_nm1 (by omega))]
      refine Ev.let_ fun N8 h8 => hk' _ N8 ⟨by rw [hWs, q4.1]; rfl, by rw [h8, hWs]; exact q7.slot, ?_⟩
      rw [h8, mst_s, hgo, goN, hnb]
      simp [upd]
  · rintro k' x N ⟨rfl, hN, hw⟩
    show Ev (fX5_wander_B17 1 (nI p) (nI k) (fun a b d M => k' (a, b, d) M) (lN (W k).2.2.1) (W k).1 (nI k) N) _
    unfold fX5_wander_B17
    rw [if_pos (Int32.le_refl _)]
    exact Ev.ret ⟨rfl, hw, hN.1⟩
theorem ThM.slot {T s : Nat} {M N : Mem} {R : Rm} {v : Int32} (hs : 13 < s) (h : ThM T M N R) : ThM T M (mst N 22 0 s v) R := by
  obtain ⟨h1, h2, h3, h4, h5, h6⟩ := h
  have es : ∀ y, y ≤ 13 → mst N 22 0 s v 22 0 y = N 22 0 y := fun y hy => by rw [mst_s]; simp only [upd, if_neg (show y ≠ s by omega)]
  have ev : vwM (mst N 22 0 s v) = vwM N := by
    unfold vwM
    rw [es 0 (by omega), es 6 (by omega), es 12 (by omega), mst_n (by simp)]
    refine Prod.ext rfl (Prod.ext ?_ rfl)
    funext t p
    have : trK t ≠ 22 := by unfold trK; split <;> decide
    simp only [mst_n (show ¬ (trK t = 22 ∧ 0 = 0) from fun q => this q.1)]
  obtain ⟨a1, a2, a3, a4, a5⟩ := h5
  exact ⟨fun K i a b c => by rw [mst_n (fun q => c q.1)]; exact h1 K i a b c, fun c hc => by rw [mst_n (by simp)]; exact h2 c hc, by rw [mst_n (by simp)]; exact h3, fun y a b => by rw [es y a]; exact h4 y a b, ⟨by rw [ev, es 0 (by omega)]; exact a1, by rw [ev, es 12 (by omega)]; exact a2, by rw [ev]; exact a3, by rw [ev]; exact a4, by rw [ev]; exact a5⟩, by rw [ev]; exact h6⟩
theorem ThM.wear {T p c : Nat} {M N : Mem} {R : Rm} (hT : Txt T M) (h : ThM T M N R) (hp : p < rN R) (hc : c < 36) : Ev (fX11_wearsNow (nI p) (nI c) N) (fun v N2 => ThM T M N2 (setT R c (rT R c - lostS (svX M) R p c)) ∧ N2 22 0 = N 22 0) := by
  obtain ⟨h1, h2, h3, h4, h5, h6⟩ := h
  refine (wearM_ev (h1.txt hT) h5 (by rw [h6]; exact hp) hc).mono (fun v N2 q => ?_)
  obtain ⟨q1, q2, q3⟩ := q
  rw [h6, h1.sv] at q2
  have e22 : N2 22 0 = N 22 0 := q3.at (by simp [scMW])
  have hA : okA R := by have := h5.2.2.2.1; rw [h6] at this; exact this
  have hT2 : okT R := by have := h5.2.2.2.2; rw [h6] at this; exact this
  refine ⟨⟨fun K i a b d => (q3.at (fun z => ?_)).trans (h1 K i a b d), fun c hc => by rw [q3.at (by simp [scMW])]; exact h2 c hc, by rw [q3.at (by simp [scMW])]; exact h3, fun s a b => by rw [e22]; exact h4 s a b, h5.eqv ?_ (by rw [e22]) (by rw [e22]) (by rw [q2]; exact lost_ok hA hT2 hp), q2⟩, e22⟩
  · simp only [scMW] at z
    simp only [keptK] at a
    omega
  · rw [q2, h6]
    rfl
theorem thm_keep2 {T : Nat} {M : Mem} (hI : InM T M) : Ev (fX11_keeps M) (fun _ N => ThM T M N (vwM M) ∧ N 22 0 = M 22 0) := by
  refine keeps_ev.mono (fun _ N q => ?_)
  obtain ⟨q1, q2, q3⟩ := q
  have hk : Kp M N := Kp.off q3 (fun K i e => by subst e; simp [keptK])
  exact ⟨⟨fun K i a _ _ => hk K i a, q1, q2, fun s _ _ => by rw [hk 22 0 (by simp [keptK])], hk.lk.inM hI, hk.lk.vM⟩, hk 22 0 (by simp [keptK])⟩
theorem thm_lays2 {T : Nat} {M N : Mem} {R : Rm} (h : ThM T M N R) : Ev (fX11_lays N) (fun _ M' => Lk M M' ∧ ∀ s, s ≠ 6 → M' 22 0 s = N 22 0 s) := by
  obtain ⟨h1, h2, h3, h4, h5, h6⟩ := h
  refine lays_ev.mono (fun _ M' q => ?_)
  obtain ⟨q1, q2, q3, q4⟩ := q
  refine ⟨⟨fun K i a b c => (q4.at (fun z => z.elim b c)).trans (h1 K i a b c), fun c hc => (q1 c hc).trans (h2 c hc), fun s hs => ?_⟩, q3⟩
  by_cases e : s = 6
  · subst e; rw [q2, h3]
  · exact (q3 s e).trans (h4 s hs e)
theorem callsM_ev {T p cs sd : Nat} {M : Mem} (hT : Txt T M) (hI : InM T M) (hp : p < rN (vwM M)) (hcs : cs ≤ 3599) (hs : sd < 200000) : Ev (fX11_calls (nI sd) (nI p) (nI cs) M) (fun _ N => N 22 0 34 = (wnS (svX M) (vwM M) p (cs / 100) sd (cs % 100)).1 ∧ N 22 0 35 = nI (wnS (svX M) (vwM M) p (cs / 100) sd (cs % 100)).2.1 ∧ Lk M N) := by
  have hA := hI.2.2.2.1
  have hT2 := hI.2.2.2.2
  have hc : cs / 100 < 36 := by omega
  have hok := wnS_ok (M := M) hA hT2 hp hc hs
  have hst : ∀ n, wnS (svX M) (vwM M) p (cs / 100) sd (n + 1) = wnT (svX M) p (wnS (svX M) (vwM M) p (cs / 100) sd n) := fun _ => rfl
  have h00 : wnS (svX M) (vwM M) p (cs / 100) sd 0 = (0, cs / 100, sd + 1, vwM M) := rfl
  generalize wnS (svX M) (vwM M) p (cs / 100) sd = W at hok hst h00
  have hk : cs % 100 < 100 := Nat.mod_lt _ (by decide)
  have eir : irem (nI cs) 100 = nI (cs % 100) := irem_gen (d := 100) (by omega) (by omega) (by omega)
  have eid : nI cs / 100 = nI (cs / 100) := pk_div (d := 100) (by omega) (by omega) (by omega)
  unfold fX11_calls
  refine Ev.letv ?_
  refine Ev.let_ fun M2 h2 => Ev.let_ fun M3 h3 => ?_
  rw [eid] at h3
  have l3 : Lk M M3 := by
    have e : ∀ K i, K ≠ 22 → M3 K i = M K i := fun K i a => by rw [h3, mst_n (fun q => a q.1), h2, mst_n (fun q => a q.1)]
    refine ⟨fun K i _ _ c => e K i c, fun c _ => by rw [e 27 0 (by decide)], fun s hs => ?_⟩
    rw [h3, mst_s, h2, mst_s]
    simp only [upd, if_neg (show s ≠ 35 by omega), if_neg (show s ≠ 34 by omega)]
  have f34 : M3 22 0 34 = 0 := by rw [h3, mst_s, h2, mst_s]; simp [upd]
  have f35 : M3 22 0 35 = nI (cs / 100) := by rw [h3, mst_s]; simp [upd]
  have hT3 := l3.txt hT
  refine Ev.bind ((thm_keep2 (l3.inM hI)).mono (Q := fun _ N => ThM T M3 N (vwM M3) ∧ N 22 0 34 = 0 ∧ N 22 0 35 = nI (cs / 100)) (fun _ N q => ⟨q.1, by rw [q.2, f34], by rw [q.2, f35]⟩)) (fun _ N5 q5 => ?_)
  rw [l3.vM] at q5
  rw [nI_l (show sd < 2 ^ 31 by omega), lN_1]
  have hsv := l3.sv
  refine Ev.loop (f := fun m (x : Int64 × Int32) M => fX11_calls_L26 (nI p) (nI cs) m x.1 x.2 M) (B := fun k' x M => fX11_calls_B26 (nI p) (nI cs) (fun a b M => k' (a, b) M) x.1 x.2 M) (fun _ _ _ => rfl) (cs % 100)
    (fun j x N => x = (lN (W j).2.2.1, nI j) ∧ ThM T M3 N (W j).2.2.2 ∧ N 22 0 34 = (W j).1 ∧ N 22 0 35 = nI (W j).2.1) ?_ ?_ FU 0 (lN (sd + 1), nI 0) N5 (Nat.zero_le _) (by show _ < 2000 + 0; omega) ⟨by rw [h00], by rw [h00]; exact q5.1, by rw [h00]; exact q5.2.1, by rw [h00]; exact q5.2.2⟩
  · rintro k' j x N hj ⟨rfl, hN, hf, hw⟩ hk'
    obtain ⟨o1, o2, o3, o4⟩ := hok j
    have hpR : p < rN (W j).2.2.2 := by unfold rN; rw [o3]; exact hp
    show Ev (fX11_calls_B26 (nI p) (nI cs) (fun a b M => k' (a, b) M) (lN (W j).2.2.1) (nI j) N) _
    unfold fX11_calls_B26
    rw [eir, if_neg (fun q => by have := (nI_leI (by omega) (by omega)).mp q; omega), hw, within_gen N _ 0 35 (by decide), ob_some, cl_tab _ o1]
    refine Ev.bind (feltM_ev (hN.1.txt hT3) hN.2.2.2.2.1 (by rw [hN.2.2.2.2.2]; exact hpR) o1) (fun r N4 q4 => ?_)
    rw [hN.2.2.2.2.2, hN.1.sv, hsv] at q4
    have hN4 := hN.scr q4.2
    have e22 : N4 22 0 = N 22 0 := q4.2.at (by simp [scM])
    rw [hf]
    refine Ev.let_ fun N6 h6 => ?_
    have hN6 : ThM T M3 N6 (W j).2.2.2 := by rw [h6]; exact hN4.slot (by decide)
    have g34 : N6 22 0 34 = (W j).1 + r := by rw [h6, mst_s]; simp [upd]
    have g35 : N6 22 0 35 = nI (W j).2.1 := by rw [h6, mst_s, e22]; simp [upd]; exact hw
    refine Ev.bind (hN6.wear hT3 hpR o1) (fun _ N7 q7 => Ev.letv ?_)
    obtain ⟨q7, q8⟩ := q7
    rw [hsv] at q7
    rw [(lot_ev o2).1, (lot_ev o2).2, goes_ev N7 o1 (Nat.mod_lt _ (by decide)), ob_some, nI_1]
    have hWs := hst j
    refine Ev.let_ fun N8 h8 => hk' _ N8 ⟨by rw [hWs]; rfl, by rw [h8, hWs]; exact q7.slot (by decide), ?_, ?_⟩
    · rw [h8, mst_s, q8, hWs]
      show upd (N6 22 0) 35 _ 34 = (W j).1 + feltS (svX M) (W j).2.2.2 p (W j).2.1
      simp only [upd]
      rw [if_neg (by decide), g34, q4.1]
    · rw [h8, mst_s, hWs]
      show upd (N7 22 0) 35 _ 35 = nI (goN (W j).2.1 (lotN (W j).2.2.1 % 4))
      simp [upd]
  · rintro k' x N ⟨rfl, hN, hf, hw⟩
    show Ev (fX11_calls_B26 (nI p) (nI cs) (fun a b M => k' (a, b) M) (lN (W (cs % 100)).2.2.1) (nI (cs % 100)) N) _
    unfold fX11_calls_B26
    rw [eir, if_pos (Int32.le_refl _)]
    exact Ev.bind (thm_lays2 hN) (fun _ N7 q7 => Ev.ret ⟨by rw [q7.2 34 (by decide)]; exact hf, by rw [q7.2 35 (by decide)]; exact hw, l3.tr q7.1⟩)
end LO
