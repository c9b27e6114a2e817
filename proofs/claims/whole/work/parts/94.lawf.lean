/-! the whole law: all 37 calls the same -/
section LF
theorem lw1 {fx fm : Mem → Option (Int32 × Mem)} (h : Same fx fm) {J : Mem → Option (Int32 × Mem)} {P : Int32 → Mem → Prop} (hJ : ∀ M, Rel M → Ev (J M) P) {M : Mem} (hM : Rel M) : Ev (ob (fx M) fun r1 M1 => ob (fm M1) fun r2 M2 => if r1 = r2 then J M2 else some (0, M2)) P := by
  refine Ev.bind (h M hM) (fun r M1 q => Ev.bind q (fun r2 M2 q2 => ?_))
  rw [if_pos q2.1.symm]
  exact hJ M2 q2.2
theorem lgc_rf (r : Int64) : lg_cmp r r = 0 := by
  unfold lg_cmp
  rw [if_neg (show ¬ r > r from Int64.lt_irrefl), if_pos rfl]
theorem lwL {fx fm : Mem → Option (Int64 × Mem)} (h : SameL fx fm) {J : Mem → Option (Int32 × Mem)} {P : Int32 → Mem → Prop} (hJ : ∀ M, Rel M → Ev (J M) P) {M : Mem} (hM : Rel M) : Ev (ob (fx M) fun r1 M1 => ob (fm M1) fun r2 M2 => if lg_cmp r1 r2 = 0 then J M2 else some (0, M2)) P := by
  refine Ev.bind (h M hM) (fun r M1 q => Ev.bind q (fun r2 M2 q2 => ?_))
  rw [q2.1, if_pos (lgc_rf r)]
  exact hJ M2 q2.2
theorem lwS_ev (xs : Nat → Int32) (k : Nat) {J : Mem → Option (Int32 × Mem)} {P : Int32 → Mem → Prop} (hJ : ∀ M, Rel M → Ev (J M) P) {M : Mem} (hM : Rel M) : Ev (lwS xs k J M) P := by
  unfold lwS
  refine Ev.ite (fun _ => by unfold lwC0; exact lw1 (count_same _) hJ hM) (fun _ => ?_)
  refine Ev.ite (fun _ => by unfold lwC1; exact lw1 (lay_same _ _) hJ hM) (fun _ => ?_)
  refine Ev.ite (fun _ => by unfold lwC2; exact lw1 (under_same _) hJ hM) (fun _ => ?_)
  refine Ev.ite (fun _ => by unfold lwC3; exact lw1 (feed_same _ _ _ _ _ _) hJ hM) (fun _ => ?_)
  refine Ev.ite (fun _ => by unfold lwC4; exact lw1 (text_same ) hJ hM) (fun _ => ?_)
  refine Ev.ite (fun _ => by unfold lwC5; exact lw1 (force_same _) hJ hM) (fun _ => ?_)
  refine Ev.ite (fun _ => by unfold lwC6; exact lw1 (asks_same _ _ _) hJ hM) (fun _ => ?_)
  refine Ev.ite (fun _ => by unfold lwC7; exact lw1 (person_same _ _) hJ hM) (fun _ => ?_)
  refine Ev.ite (fun _ => by unfold lwC8; exact lw1 (put_same _ _ _) hJ hM) (fun _ => ?_)
  refine Ev.ite (fun _ => by unfold lwC9; exact lw1 (told_same _ _) hJ hM) (fun _ => ?_)
  refine Ev.ite (fun _ => by unfold lwC10; exact lw1 (day_same ) hJ hM) (fun _ => ?_)
  refine Ev.ite (fun _ => by unfold lwC11; exact lw1 (leaves_same _ _ _) hJ hM) (fun _ => ?_)
  refine Ev.ite (fun _ => by unfold lwC12; exact lw1 (run_same _ _) hJ hM) (fun _ => ?_)
  refine Ev.ite (fun _ => by unfold lwC13; exact lw1 (sinks_same _ _) hJ hM) (fun _ => ?_)
  refine Ev.ite (fun _ => by unfold lwC14; exact lw1 (walk_same _ _ _) hJ hM) (fun _ => ?_)
  refine Ev.ite (fun _ => by unfold lwC15; exact lw1 (tread_same _ _) hJ hM) (fun _ => ?_)
  refine Ev.ite (fun _ => by unfold lwC16; exact lw1 (way_same _ _ _ _) hJ hM) (fun _ => ?_)
  refine Ev.ite (fun _ => by unfold lwC17; exact lwL (heap_same _ _ _) hJ hM) (fun _ => ?_)
  refine Ev.ite (fun _ => by unfold lwC18; exact lw1 (room_same _ _) hJ hM) (fun _ => ?_)
  refine Ev.ite (fun _ => by unfold lwC19; exact lw1 (turn_same _ _) hJ hM) (fun _ => ?_)
  refine Ev.ite (fun _ => by unfold lwC20; exact lw1 (seats_same _ _ _) hJ hM) (fun _ => ?_)
  refine Ev.ite (fun _ => by unfold lwC21; exact lw1 (judge_same _ _) hJ hM) (fun _ => ?_)
  refine Ev.ite (fun _ => by unfold lwC22; exact lw1 (kinds_same _ _ _ _) hJ hM) (fun _ => ?_)
  refine Ev.ite (fun _ => by unfold lwC23; exact lwL (where_same _ _ _) hJ hM) (fun _ => ?_)
  refine Ev.ite (fun _ => by unfold lwC24; exact lw1 (holds_same _ _ _ _) hJ hM) (fun _ => ?_)
  refine Ev.ite (fun _ => by unfold lwC25; exact lw1 (laws_same _ _) hJ hM) (fun _ => ?_)
  refine Ev.ite (fun _ => by unfold lwC26; exact lw1 (film_same _ _ _) hJ hM) (fun _ => ?_)
  refine Ev.ite (fun _ => by unfold lwC27; exact lw1 (drawn_same _ _ _ _) hJ hM) (fun _ => ?_)
  refine Ev.ite (fun _ => by unfold lwC28; exact lwL (odds_same _ _ _ _ _) hJ hM) (fun _ => ?_)
  refine Ev.ite (fun _ => by unfold lwC29; exact lwL (share_same _ _) hJ hM) (fun _ => ?_)
  refine Ev.ite (fun _ => by unfold lwC30; exact lw1 (image_same ) hJ hM) (fun _ => ?_)
  refine Ev.ite (fun _ => by unfold lwC31; exact lw1 (back_same ) hJ hM) (fun _ => ?_)
  refine Ev.ite (fun _ => by unfold lwC32; exact lw1 (sheet_same _ _ _) hJ hM) (fun _ => ?_)
  refine Ev.ite (fun _ => by unfold lwC33; exact lw1 (cell_same _ _ _) hJ hM) (fun _ => ?_)
  refine Ev.ite (fun _ => by unfold lwC34; exact lw1 (copy_same _ _ _ _ _) hJ hM) (fun _ => ?_)
  refine Ev.ite (fun _ => by unfold lwC35; exact lw1 (peopleBy_same _ _ _ _) hJ hM) (fun _ => ?_)
  refine Ev.ite (fun _ => by unfold lwC36; exact lw1 (taken_same _ _) hJ hM) (fun _ => ?_)
  exact hJ M hM
theorem lawF_ev (xs : Nat → Int32) (L : Nat) : ∀ n k M, L < k + 7 * n → Rel M → 0 < n → Ev (lawF xs L n k M) (fun r _ => r = 1) := by
  intro n
  induction n with
  | zero => intro k M _ _ h; exact absurd h (Nat.lt_irrefl _)
  | succ n ih =>
    intro k M hL hM _
    unfold lawF
    refine Ev.ite (fun _ => Ev.ret rfl) (fun h => lwS_ev xs k (fun M2 hM2 => ih (k + 7) M2 (by omega) hM2 (by omega)) hM)
end LF
