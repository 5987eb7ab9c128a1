/-! ===== all questions, and the law's start ===== -/
theorem law_eq_n : LawEq Rl := ⟨Eq_feed_n, Eq_text_n, Eq_fault_n, Eq_write_n, Eq_move_n, Eq_change_n, Eq_lapse_n, Eq_treaty_n, Eq_limit_n, Eq_its_n, Eq_worst_n, Eq_inWorst_n, Eq_bound_n, Eq_spread_n, Eq_ring_n, Eq_part_n, Eq_second_n, Eq_chains_n, Eq_tightest_n, Eq_together_n, Eq_heaviest_n, Eq_heaviestSet_n, Eq_two_n, Eq_cover_n, Eq_square_n, Eq_radiusFor_n, Eq_ifWritten_n, Eq_about_n, Eq_most_n, Eq_places_n, Eq_relief_n, Eq_fewest_n, Eq_nearest_n, Eq_couples_n, Eq_along_n, Eq_storm_n, Eq_hit_n, Eq_pays_n, Eq_drawn_n, Eq_alarm_n, Eq_act_n, Eq_count_n⟩
theorem whole_start {p : Program} {e : Env} {s : State} {m : MethodId} {below : List Frame} {meth : Method} {c : Code} (l : Launch) (hflags : l.flags = flags0) {b L : Nat} {xs : Nat → Int32} (hL : L ≤ 3584) (C0 : lw_At p s m meth c b L xs) : W p l e room_1 s m #[Value.ref b] below meth c s.heap [] 0 0 (lw_Z below #[Value.ref b] s) (entryFrame m ([Value.ref b] : List Value).toArray 7) := by
  have hst : l.stackTraces = false := by
    unfold Launch.stackTraces
    rw [hflags]
    decide
  exact start_of l hL C0 law_eq_n Rl_mono Rl_0 (fun G hA => pol_case hst hL C0 hA)
