section WK
variable {p : Program} {l : Launch} {e : Env} {s : State} {m : MethodId} {args : Array Value} {below : List Frame} {meth : Method} {c : Code} {Q : State → Prop} {G : Gd} {b : Bool} {τ σ : Sg}
set_option maxRecDepth 100000 in
set_option maxHeartbeats 4000000 in
theorem ct_X9_count (l : Launch) (G : Gd) (τ : Sg) {v1 : Int} {σ : Sg} {q : Int} (hf : f_X9_count v1 σ = some q) : Ctr l yX9_count cX9_count 2 (some .int) (rmk 3 70) G true τ [.ref (G.1 0), .int (oI v1)] σ σ (some (.int (oI q))) := by
  unfold f_X9_count at hf
  refine CtrI.of (own := RX9) (plainFor_of_name (by decide)) (Nat.le_of_ble_eq_true rfl) rfl (fun p e s m below meth c Q ls C hl S hend => ?_)
  have hl : lv_has ls 2 [(0, .ref (G.1 0)), (1, .int (oI v1))] := hl
  refine lv_iload_n C.1 C.2.1 dX9_count_0 rfl (lv_at hl 1 rfl) ?_
  by_cases hs0 : w32 v1 = 0
  · replace hf := if_t hf hs0
    refine r_tabIn C (tgt := 44) (v := 0) dX9_count_1 hs0 (by decide) (by decide) rfl (by decide) ?_
    refine lv_aload_n C.1 C.2.1 dX9_count_44 rfl (lv_at hl 0 rfl) ?_
    refine g9_book C S tw_282 dX9_count_45 ?_
    refine g0_inForce C S tw_99 dX9_count_48 ?_
    obtain ⟨q1, hc2, hf⟩ := bd_o hf
    refine r_callSv C S (As := [.int (oI (σ 6 5))]) (rest := []) (ct_J6_bitCount_0f7a4 l G τ hc2) mi_J6_bitCount_0f7a4 tw_646 ms_J6_bitCount_0f7a4 ⟨rfl, rfl⟩ ⟨Nat.le_of_ble_eq_true rfl, Nat.le_of_ble_eq_true rfl⟩ ⟨Nat.zero_le _, Nat.zero_le _⟩ rfl hl.1 rfl (Nat.le_of_ble_eq_true rfl) dX9_count_51 (fun H locs S => ?_)
    cases hf
    exact hend _ _ _ _ S dX9_count_54
  · replace hf := if_f hf hs0
    by_cases hs1 : w32 v1 = 1
    · replace hf := if_t hf hs1
      refine r_tabIn C (tgt := 55) (v := 1) dX9_count_1 hs1 (by decide) (by decide) rfl (by decide) ?_
      refine lv_aload_n C.1 C.2.1 dX9_count_55 rfl (lv_at hl 0 rfl) ?_
      refine g9_treatyCount C S tw_284 dX9_count_56 ?_
      cases hf
      exact hend _ _ _ _ S dX9_count_59
    · replace hf := if_f hf hs1
      by_cases hs2 : w32 v1 = 2
      · replace hf := if_t hf hs2
        refine r_tabIn C (tgt := 60) (v := 2) dX9_count_1 hs2 (by decide) (by decide) rfl (by decide) ?_
        refine lv_aload_n C.1 C.2.1 dX9_count_60 rfl (lv_at hl 0 rfl) ?_
        refine g9_book C S tw_282 dX9_count_61 ?_
        refine lv_aload_n C.1 C.2.1 dX9_count_64 rfl (lv_at hl 0 rfl) ?_
        refine g9_book C S tw_282 dX9_count_65 ?_
        refine g0_inForce C S tw_99 dX9_count_68 ?_
        obtain ⟨q3, hc4, hf⟩ := bd_o hf
        refine r_callVv C S (As := [.int (oI (σ 6 5))]) (rest := []) (ct_X0_sums l G τ hc4) mi_X0_sums tw_652 mv_X0_sums (rvX0 S) ⟨rfl, rfl⟩ ⟨Nat.le_of_ble_eq_true rfl, Nat.le_of_ble_eq_true rfl⟩ ⟨Nat.zero_le _, Nat.zero_le _⟩ rfl hl.1 rfl (Nat.le_of_ble_eq_true rfl) dX9_count_71 (fun H locs S => ?_)
        cases hf
        exact hend _ _ _ _ S dX9_count_74
      · replace hf := if_f hf hs2
        by_cases hs3 : w32 v1 = 3
        · replace hf := if_t hf hs3
          refine r_tabIn C (tgt := 75) (v := 3) dX9_count_1 hs3 (by decide) (by decide) rfl (by decide) ?_
          refine lv_aload_n C.1 C.2.1 dX9_count_75 rfl (lv_at hl 0 rfl) ?_
          obtain ⟨q5, hc6, hf⟩ := bd_o hf
          refine r_callVv C S (As := []) (rest := []) (ct_X9_passedTreaties l G τ hc6) mi_X9_passedTreaties tw_960 mv_X9_passedTreaties (rvX9 S) ⟨rfl, rfl⟩ ⟨Nat.le_of_ble_eq_true rfl, Nat.le_of_ble_eq_true rfl⟩ ⟨Nat.zero_le _, Nat.zero_le _⟩ rfl hl.1 rfl (Nat.le_of_ble_eq_true rfl) dX9_count_76 (fun H locs S => ?_)
          cases hf
          exact hend _ _ _ _ S dX9_count_79
        · replace hf := if_f hf hs3
          by_cases hs4 : w32 v1 = 4
          · replace hf := if_t hf hs4
            refine r_tabIn C (tgt := 80) (v := 4) dX9_count_1 hs4 (by decide) (by decide) rfl (by decide) ?_
            refine lv_aload_n C.1 C.2.1 dX9_count_80 rfl (lv_at hl 0 rfl) ?_
            refine g9_acts C S tw_285 dX9_count_81 ?_
            refine g5_count C (d := 0) S (by decide) tw_193 dX9_count_84 ?_
            cases hf
            exact hend _ _ _ _ S dX9_count_87
          · replace hf := if_f hf hs4
            by_cases hs5 : w32 v1 = 5
            · replace hf := if_t hf hs5
              refine r_tabIn C (tgt := 88) (v := 5) dX9_count_1 hs5 (by decide) (by decide) rfl (by decide) ?_
              refine lv_aload_n C.1 C.2.1 dX9_count_88 rfl (lv_at hl 0 rfl) ?_
              refine g9_book C S tw_282 dX9_count_89 ?_
              obtain ⟨q7, hc8, hf⟩ := bd_o hf
              refine r_callVv C S (As := []) (rest := []) (ct_X0_unlikePlaces l G τ hc8) mi_X0_unlikePlaces tw_964 mv_X0_unlikePlaces (rvX0 S) ⟨rfl, rfl⟩ ⟨Nat.le_of_ble_eq_true rfl, Nat.le_of_ble_eq_true rfl⟩ ⟨Nat.zero_le _, Nat.zero_le _⟩ rfl hl.1 rfl (Nat.le_of_ble_eq_true rfl) dX9_count_92 (fun H locs S => ?_)
              cases hf
              exact hend _ _ _ _ S dX9_count_95
            · replace hf := if_f hf hs5
              by_cases hs6 : w32 v1 = 6
              · replace hf := if_t hf hs6
                refine r_tabIn C (tgt := 96) (v := 6) dX9_count_1 hs6 (by decide) (by decide) rfl (by decide) ?_
                refine lv_aload_n C.1 C.2.1 dX9_count_96 rfl (lv_at hl 0 rfl) ?_
                refine g9_tape C S tw_280 dX9_count_97 ?_
                refine g6_length C S tw_39 dX9_count_100 ?_
                cases hf
                exact hend _ _ _ _ S dX9_count_103
              · replace hf := if_f hf hs6
                refine r_tabOut C (tgt := 104) dX9_count_1 (by omega) (by decide) ?_
                refine r_iconst C dX9_count_104 ?_
                cases hf
                exact hend _ _ _ _ S dX9_count_105
set_option maxRecDepth 100000 in
set_option maxHeartbeats 4000000 in
theorem ct_X10_thrown (l : Launch) (G : Gd) (τ : Sg) {σ : Sg} {q : Int} (hf : f_X10_thrown σ = some q) : Ctr l yX10_thrown cX10_thrown 1 (some .int) (rmk 0 0) G false τ [.ref (G.1 41)] σ σ (some (.int (oI q))) := by
  unfold f_X10_thrown at hf
  refine CtrI.of (own := RX10) (plainFor_of_name (by decide)) (Nat.le_of_ble_eq_true rfl) rfl (fun p e s m below meth c Q ls C hl S hend => ?_)
  have hl : lv_has ls 1 [(0, .ref (G.1 41))] := hl
  refine lv_aload_n C.1 C.2.1 dX10_thrown_0 rfl (lv_at hl 0 rfl) ?_
  refine g10_thrown C S tw_1061 dX10_thrown_1 ?_
  cases hf
  exact hend _ _ _ _ S dX10_thrown_4
set_option maxRecDepth 100000 in
set_option maxHeartbeats 4000000 in
theorem b_X10_feed_b73 (C : Cx p s m args c RX10 cX10_feed 8) {q : Int × Sg} {k20 : Int → Int → Int → Int → Int → Int → Sg → Option (Int × Sg)} (hend : EndR p l e (rmk 0 0) s m args below meth c Q G false τ cX10_feed .ireturn [.int (oI q.1)] q.2) (hk20 : ∀ {H : Heap} {locs : List Loc} {ls : Array Slot} {σ : Sg} (v1 : Int) (v2 : Int) (v3 : Int) (v4 : Int) (v5 : Int) (v6 : Int), St G false τ σ s H locs → lv_has ls 8 [(0, .ref (G.1 41)), (1, .int (oI v1)), (2, .int (oI v2)), (3, .int (oI v3)), (4, .int (oI v4)), (5, .int (oI v5)), (6, .int (oI v6))] → k20 v1 v2 v3 v4 v5 v6 σ = some q → W p l e (rmk 0 0) s m args below meth c H locs 0 0 Q (F0 m 20 ls [])) {H : Heap} {locs : List Loc} {ls : Array Slot} {σ : Sg} (v1 : Int) (v2 : Int) (v3 : Int) (v4 : Int) (v5 : Int) (v6 : Int) (w0 : Int) (S : St G false τ σ s H locs) (hl : lv_has ls 8 [(0, .ref (G.1 41)), (1, .int (oI v1)), (2, .int (oI v2)), (3, .int (oI v3)), (4, .int (oI v4)), (5, .int (oI v5)), (6, .int (oI v6))]) (hf : f_X10_feed_b73 k20 v1 v2 v3 v4 v5 v6 w0 σ = some q) : W p l e (rmk 0 0) s m args below meth c H locs 0 0 Q (F0 m 73 ls [.int (oI w0)]) := by
  unfold f_X10_feed_b73 at hf
  refine lv_istore C.1 C.2.1 dX10_feed_73 hl (by decide) (lv' := [(7, .int (oI w0)), (0, .ref (G.1 41)), (1, .int (oI v1)), (2, .int (oI v2)), (3, .int (oI v3)), (4, .int (oI v4)), (5, .int (oI v5)), (6, .int (oI v6))]) rfl (fun ls hl => ?_)
  refine lv_aload_n C.1 C.2.1 dX10_feed_75 rfl (lv_at hl 1 rfl) ?_
  refine g10_tape C S tw_1062 dX10_feed_76 ?_
  refine lv_aload_n C.1 C.2.1 dX10_feed_79 rfl (lv_at hl 1 rfl) ?_
  refine g10_taped C S tw_1063 dX10_feed_80 ?_
  refine lv_iload C.1 C.2.1 dX10_feed_83 (lv_at hl 7 rfl) ?_
  refine r_iadd C dX10_feed_85 ?_
  refine lv_iload C.1 C.2.1 dX10_feed_86 (lv_at hl 0 rfl) ?_
  refine r_bipush C dX10_feed_88 (by decide) ?_
  refine r_bipush C dX10_feed_90 (by decide) ?_
  refine lv_iload C.1 C.2.1 dX10_feed_92 (lv_at hl 7 rfl) ?_
  refine r_iconst C dX10_feed_94 ?_
  obtain ⟨hz2, hf⟩ := ck_o hf
  refine r_irem C hz2 dX10_feed_95 ?_
  refine r_imul C dX10_feed_96 ?_
  refine r_isub C dX10_feed_97 ?_
  refine r_ishr C (y1 := (u32 (24 - (8 * ((w32 v6).tmod (w32 4)))) % 32)) rfl dX10_feed_98 ?_
  refine r_sipush C dX10_feed_99 (by decide) ?_
  refine r_iand C rfl (show u32 255 = 255 by decide) dX10_feed_102 ?_
  obtain ⟨hi3, hf⟩ := ck_o hf
  refine a_iast C S ar_42 hi3 dX10_feed_103 (fun H locs S => ?_)
  obtain ⟨σ4, S, hf⟩ := wr_s S hf
  refine r_iinc C dX10_feed_104 hl (k := 7) rfl (by decide) (lv' := [(6, .int (oI (v6 + 1))), (7, .int (oI w0)), (0, .ref (G.1 41)), (1, .int (oI v1)), (2, .int (oI v2)), (3, .int (oI v3)), (4, .int (oI v4)), (5, .int (oI v5))]) rfl (fun ls hl => ?_)
  refine lv_goto C.1 C.2.1 (tgt := 20) dX10_feed_107 (by decide) ?_
  exact hk20 v1 v2 v3 v4 v5 (v6 + 1) S (lv_sub hl [2, 3, 4, 5, 6, 7, 0] rfl) hf
set_option maxRecDepth 100000 in
set_option maxHeartbeats 4000000 in
theorem b_X10_feed_b110 (C : Cx p s m args c RX10 cX10_feed 8) {q : Int × Sg} (hend : EndR p l e (rmk 0 0) s m args below meth c Q G false τ cX10_feed .ireturn [.int (oI q.1)] q.2) {H : Heap} {locs : List Loc} {ls : Array Slot} {σ : Sg} (S : St G false τ σ s H locs) (hl : lv_has ls 8 [(0, .ref (G.1 41))]) (hf : f_X10_feed_b110 σ = some q) : W p l e (rmk 0 0) s m args below meth c H locs 0 0 Q (F0 m 110 ls []) := by
  unfold f_X10_feed_b110 at hf
  refine lv_aload_n C.1 C.2.1 dX10_feed_110 rfl (lv_at hl 0 rfl) ?_
  refine lv_dup C.1 C.2.1 dX10_feed_111 rfl ?_
  refine g10_taped C S tw_1063 dX10_feed_112 ?_
  refine r_bipush C dX10_feed_115 (by decide) ?_
  refine r_iadd C dX10_feed_117 ?_
  refine p10_taped C S tw_1063 dX10_feed_118 (fun H locs S => ?_)
  obtain ⟨σ9, S, hf⟩ := wr_s S hf
  refine lv_aload_n C.1 C.2.1 dX10_feed_121 rfl (lv_at hl 0 rfl) ?_
  refine g10_taped C S tw_1063 dX10_feed_122 ?_
  cases hf
  exact hend _ _ _ _ S dX10_feed_125
set_option maxRecDepth 100000 in
set_option maxHeartbeats 4000000 in
theorem b_X10_feed_b20 (C : Cx p s m args c RX10 cX10_feed 8) {q : Int × Sg} (hend : EndR p l e (rmk 0 0) s m args below meth c Q G false τ cX10_feed .ireturn [.int (oI q.1)] q.2) : ∀ (n : Nat) {H : Heap} {locs : List Loc} {ls : Array Slot} {σ : Sg} (v1 : Int) (v2 : Int) (v3 : Int) (v4 : Int) (v5 : Int) (v6 : Int) (S : St G false τ σ s H locs) (hl : lv_has ls 8 [(0, .ref (G.1 41)), (1, .int (oI v1)), (2, .int (oI v2)), (3, .int (oI v3)), (4, .int (oI v4)), (5, .int (oI v5)), (6, .int (oI v6))]) (hf : f_X10_feed_b20 n v1 v2 v3 v4 v5 v6 σ = some q), W p l e (rmk 0 0) s m args below meth c H locs 0 0 Q (F0 m 20 ls []) := by
  intro n
  induction n with
  | zero => intro H locs ls σ v1 v2 v3 v4 v5 v6 S hl hf; cases hf
  | succ n ih =>
    intro H locs ls σ v1 v2 v3 v4 v5 v6 S hl hf
    have hk20 := @ih
    rw [f_X10_feed_b20] at hf
    refine lv_iload C.1 C.2.1 dX10_feed_20 (lv_at hl 6 rfl) ?_
    refine r_bipush C dX10_feed_22 (by decide) ?_
    refine r_icmp_ge C rfl (show w32 20 = 20 by decide) (tgt := 110) dX10_feed_24 (by decide) (fun h10 => ?_) (fun h10 => ?_)
    · replace hf := if_t hf h10
      refine lv_iload C.1 C.2.1 dX10_feed_27 (lv_at hl 6 rfl) ?_
      refine r_iconst C dX10_feed_29 ?_
      refine r_icmp_ge C rfl (show w32 4 = 4 by decide) (tgt := 37) dX10_feed_30 (by decide) (fun h8 => ?_) (fun h8 => ?_)
      · replace hf := if_t hf h8
        refine lv_iload_n C.1 C.2.1 dX10_feed_33 rfl (lv_at hl 1 rfl) ?_
        refine lv_goto C.1 C.2.1 (tgt := 73) dX10_feed_34 (by decide) ?_
        exact b_X10_feed_b73 C hend hk20 v1 v2 v3 v4 v5 v6 v1 S (lv_sub hl [0, 1, 2, 3, 4, 5, 6] rfl) hf
      · replace hf := if_f hf h8
        refine lv_iload C.1 C.2.1 dX10_feed_37 (lv_at hl 6 rfl) ?_
        refine r_bipush C dX10_feed_39 (by decide) ?_
        refine r_icmp_ge C rfl (show w32 8 = 8 by decide) (tgt := 48) dX10_feed_41 (by decide) (fun h7 => ?_) (fun h7 => ?_)
        · replace hf := if_t hf h7
          refine lv_iload_n C.1 C.2.1 dX10_feed_44 rfl (lv_at hl 2 rfl) ?_
          refine lv_goto C.1 C.2.1 (tgt := 73) dX10_feed_45 (by decide) ?_
          exact b_X10_feed_b73 C hend hk20 v1 v2 v3 v4 v5 v6 v2 S (lv_sub hl [0, 1, 2, 3, 4, 5, 6] rfl) hf
        · replace hf := if_f hf h7
          refine lv_iload C.1 C.2.1 dX10_feed_48 (lv_at hl 6 rfl) ?_
          refine r_bipush C dX10_feed_50 (by decide) ?_
          refine r_icmp_ge C rfl (show w32 12 = 12 by decide) (tgt := 59) dX10_feed_52 (by decide) (fun h6 => ?_) (fun h6 => ?_)
          · replace hf := if_t hf h6
            refine lv_iload_n C.1 C.2.1 dX10_feed_55 rfl (lv_at hl 3 rfl) ?_
            refine lv_goto C.1 C.2.1 (tgt := 73) dX10_feed_56 (by decide) ?_
            exact b_X10_feed_b73 C hend hk20 v1 v2 v3 v4 v5 v6 v3 S (lv_sub hl [0, 1, 2, 3, 4, 5, 6] rfl) hf
          · replace hf := if_f hf h6
            refine lv_iload C.1 C.2.1 dX10_feed_59 (lv_at hl 6 rfl) ?_
            refine r_bipush C dX10_feed_61 (by decide) ?_
            refine r_icmp_ge C rfl (show w32 16 = 16 by decide) (tgt := 71) dX10_feed_63 (by decide) (fun h5 => ?_) (fun h5 => ?_)
            · replace hf := if_t hf h5
              refine lv_iload C.1 C.2.1 dX10_feed_66 (lv_at hl 4 rfl) ?_
              refine lv_goto C.1 C.2.1 (tgt := 73) dX10_feed_68 (by decide) ?_
              exact b_X10_feed_b73 C hend hk20 v1 v2 v3 v4 v5 v6 v4 S (lv_sub hl [0, 1, 2, 3, 4, 5, 6] rfl) hf
            · replace hf := if_f hf h5
              refine lv_iload C.1 C.2.1 dX10_feed_71 (lv_at hl 5 rfl) ?_
              exact b_X10_feed_b73 C hend hk20 v1 v2 v3 v4 v5 v6 v5 S (lv_sub hl [0, 1, 2, 3, 4, 5, 6] rfl) hf
    · replace hf := if_f hf h10
      exact b_X10_feed_b110 C hend S (lv_sub hl [0] rfl) hf
set_option maxRecDepth 100000 in
set_option maxHeartbeats 4000000 in
theorem ct_X10_feed (l : Launch) (G : Gd) (τ : Sg) {v1 : Int} {v2 : Int} {v3 : Int} {v4 : Int} {v5 : Int} {σ : Sg} {q : Int × Sg} (hf : f_X10_feed v1 v2 v3 v4 v5 σ = some q) : Ctr l yX10_feed cX10_feed 8 (some .int) (rmk 0 0) G false τ [.ref (G.1 41), .int (oI v1), .int (oI v2), .int (oI v3), .int (oI v4), .int (oI v5)] σ q.2 (some (.int (oI q.1))) := by
  unfold f_X10_feed at hf
  refine CtrI.of (own := RX10) (plainFor_of_name (by decide)) (Nat.le_of_ble_eq_true rfl) rfl (fun p e s m below meth c Q ls C hl S hend => ?_)
  have hl : lv_has ls 8 [(0, .ref (G.1 41)), (1, .int (oI v1)), (2, .int (oI v2)), (3, .int (oI v3)), (4, .int (oI v4)), (5, .int (oI v5))] := hl
  refine lv_aload_n C.1 C.2.1 dX10_feed_0 rfl (lv_at hl 0 rfl) ?_
  refine r_iconst C dX10_feed_1 ?_
  refine p10_thrown C S tw_1061 dX10_feed_2 (fun H locs S => ?_)
  obtain ⟨σ1, S, hf⟩ := wr_s S hf
  refine lv_aload_n C.1 C.2.1 dX10_feed_5 rfl (lv_at hl 0 rfl) ?_
  refine g10_taped C S tw_1063 dX10_feed_6 ?_
  refine r_sipush C dX10_feed_9 (by decide) ?_
  refine r_icmp_le C rfl (show w32 880 = 880 by decide) (tgt := 17) dX10_feed_12 (by decide) (fun h11 => ?_) (fun h11 => ?_)
  · replace hf := if_t hf h11
    refine r_iconst C dX10_feed_17 ?_
    refine lv_istore C.1 C.2.1 dX10_feed_18 hl (by decide) (lv' := [(6, .int (oI 0)), (0, .ref (G.1 41)), (1, .int (oI v1)), (2, .int (oI v2)), (3, .int (oI v3)), (4, .int (oI v4)), (5, .int (oI v5))]) rfl (fun ls hl => ?_)
    exact b_X10_feed_b20 C hend FUEL v1 v2 v3 v4 v5 0 S (lv_sub hl [1, 2, 3, 4, 5, 6, 0] rfl) hf
  · replace hf := if_f hf h11
    refine r_iconst C dX10_feed_15 ?_
    cases hf
    exact hend _ _ _ _ S dX10_feed_16
set_option maxRecDepth 100000 in
set_option maxHeartbeats 4000000 in
theorem ct_X10_here (l : Launch) (G : Gd) (τ : Sg) {σ : Sg} {q : Int} (hf : f_X10_here σ = some q) : Ctr l yX10_here cX10_here 1 (some .int) (rmk 0 0) G false τ [.ref (G.1 41)] σ σ (some (.int (oI q))) := by
  unfold f_X10_here at hf
  refine CtrI.of (own := RX10) (plainFor_of_name (by decide)) (Nat.le_of_ble_eq_true rfl) rfl (fun p e s m below meth c Q ls C hl S hend => ?_)
  have hl : lv_has ls 1 [(0, .ref (G.1 41))] := hl
  refine lv_aload_n C.1 C.2.1 dX10_here_0 rfl (lv_at hl 0 rfl) ?_
  refine g10_at C S tw_1070 dX10_here_1 ?_
  refine lv_aload_n C.1 C.2.1 dX10_here_4 rfl (lv_at hl 0 rfl) ?_
  refine g10_size C S tw_1069 dX10_here_5 ?_
  refine r_icmp_ge C rfl rfl (tgt := 23) dX10_here_8 (by decide) (fun h2 => ?_) (fun h2 => ?_)
  · replace hf := if_t hf h2
    refine lv_aload_n C.1 C.2.1 dX10_here_11 rfl (lv_at hl 0 rfl) ?_
    refine g10_tape C S tw_1062 dX10_here_12 ?_
    refine lv_aload_n C.1 C.2.1 dX10_here_15 rfl (lv_at hl 0 rfl) ?_
    refine g10_at C S tw_1070 dX10_here_16 ?_
    obtain ⟨hi1, hf⟩ := ck_o hf
    refine a_iald C S ar_42 hi1 dX10_here_19 ?_
    refine lv_goto C.1 C.2.1 (tgt := 24) dX10_here_20 (by decide) ?_
    cases hf
    exact hend _ _ _ _ S dX10_here_24
  · replace hf := if_f hf h2
    refine r_iconst C dX10_here_23 ?_
    cases hf
    exact hend _ _ _ _ S dX10_here_24
set_option maxRecDepth 100000 in
set_option maxHeartbeats 4000000 in
theorem ct_X10_isSmall (l : Launch) (G : Gd) (τ : Sg) {v0 : Int} {σ : Sg} {q : Int} (hf : f_X10_isSmall v0 σ = some q) : Ctr l yX10_isSmall cX10_isSmall 1 (some .boolean) (rmk 0 0) G false τ [.int (oI v0)] σ σ (some (.int (oI q))) := by
  unfold f_X10_isSmall at hf
  refine CtrZ.of (own := RX10) (plainFor_of_name (by decide)) (Nat.le_of_ble_eq_true rfl) rfl (fun p e s m below meth c Q ls C hl S hend => ?_)
  have hl : lv_has ls 1 [(0, .int (oI v0))] := hl
  refine lv_iload_n C.1 C.2.1 dX10_isSmall_0 rfl (lv_at hl 0 rfl) ?_
  refine r_bipush C dX10_isSmall_1 (by decide) ?_
  refine r_icmp_lt C rfl (show w32 97 = 97 by decide) (tgt := 16) dX10_isSmall_3 (by decide) (fun h2 => ?_) (fun h2 => ?_)
  · replace hf := if_t hf h2
    refine r_iconst C dX10_isSmall_16 ?_
    cases hf
    exact hend (Or.inl rfl) _ _ _ _ S dX10_isSmall_17
  · replace hf := if_f hf h2
    refine lv_iload_n C.1 C.2.1 dX10_isSmall_6 rfl (lv_at hl 0 rfl) ?_
    refine r_bipush C dX10_isSmall_7 (by decide) ?_
    refine r_icmp_gt C rfl (show w32 122 = 122 by decide) (tgt := 16) dX10_isSmall_9 (by decide) (fun h1 => ?_) (fun h1 => ?_)
    · replace hf := if_t hf h1
      refine r_iconst C dX10_isSmall_12 ?_
      refine lv_goto C.1 C.2.1 (tgt := 17) dX10_isSmall_13 (by decide) ?_
      cases hf
      exact hend (Or.inr rfl) _ _ _ _ S dX10_isSmall_17
    · replace hf := if_f hf h1
      refine r_iconst C dX10_isSmall_16 ?_
      cases hf
      exact hend (Or.inl rfl) _ _ _ _ S dX10_isSmall_17
set_option maxRecDepth 100000 in
set_option maxHeartbeats 4000000 in
theorem ct_X10_isDigit (l : Launch) (G : Gd) (τ : Sg) {v0 : Int} {σ : Sg} {q : Int} (hf : f_X10_isDigit v0 σ = some q) : Ctr l yX10_isDigit cX10_isDigit 1 (some .boolean) (rmk 0 0) G false τ [.int (oI v0)] σ σ (some (.int (oI q))) := by
  unfold f_X10_isDigit at hf
  refine CtrZ.of (own := RX10) (plainFor_of_name (by decide)) (Nat.le_of_ble_eq_true rfl) rfl (fun p e s m below meth c Q ls C hl S hend => ?_)
  have hl : lv_has ls 1 [(0, .int (oI v0))] := hl
  refine lv_iload_n C.1 C.2.1 dX10_isDigit_0 rfl (lv_at hl 0 rfl) ?_
  refine r_bipush C dX10_isDigit_1 (by decide) ?_
  refine r_icmp_lt C rfl (show w32 48 = 48 by decide) (tgt := 16) dX10_isDigit_3 (by decide) (fun h2 => ?_) (fun h2 => ?_)
  · replace hf := if_t hf h2
    refine r_iconst C dX10_isDigit_16 ?_
    cases hf
    exact hend (Or.inl rfl) _ _ _ _ S dX10_isDigit_17
  · replace hf := if_f hf h2
    refine lv_iload_n C.1 C.2.1 dX10_isDigit_6 rfl (lv_at hl 0 rfl) ?_
    refine r_bipush C dX10_isDigit_7 (by decide) ?_
    refine r_icmp_gt C rfl (show w32 57 = 57 by decide) (tgt := 16) dX10_isDigit_9 (by decide) (fun h1 => ?_) (fun h1 => ?_)
    · replace hf := if_t hf h1
      refine r_iconst C dX10_isDigit_12 ?_
      refine lv_goto C.1 C.2.1 (tgt := 17) dX10_isDigit_13 (by decide) ?_
      cases hf
      exact hend (Or.inr rfl) _ _ _ _ S dX10_isDigit_17
    · replace hf := if_f hf h1
      refine r_iconst C dX10_isDigit_16 ?_
      cases hf
      exact hend (Or.inl rfl) _ _ _ _ S dX10_isDigit_17
set_option maxRecDepth 100000 in
set_option maxHeartbeats 4000000 in
theorem ct_J0_coder_7d493_s2 (l : Launch) (G : Gd) (τ : Sg) {b : Bool} {σ : Sg} {q : Int} (hf : f_J0_coder_7d493_s2 σ = some q) : Ctr l yJ0_coder_7d493 cJ0_coder_7d493 1 (some .byte) (rmk 0 0) G b τ [.ref (G.1 82)] σ σ (some (.int (oI q))) := by
  unfold f_J0_coder_7d493_s2 at hf
  refine CtrB.of (own := RJ0) (plainFor_of_name (by decide)) (Nat.le_of_ble_eq_true rfl) rfl (fun p e s m below meth c Q ls C hl S hend => ?_)
  have hl : lv_has ls 1 [(0, .ref (G.1 82))] := hl
  refine z_cmp C S tw_359 dJ0_coder_7d493_0 ?_
  refine r_if_eq C (show w32 1 = 1 by decide) (tgt := 13) dJ0_coder_7d493_3 (by decide) (fun h1 => ?_) (fun h1 => ?_)
  · exact absurd h1 (by decide)
  · refine lv_aload_n C.1 C.2.1 dJ0_coder_7d493_6 rfl (lv_at hl 0 rfl) ?_
    refine s_cod C S (i0 := 2) (by decide) tw_1662 dJ0_coder_7d493_7 ?_
    refine lv_goto C.1 C.2.1 (tgt := 14) dJ0_coder_7d493_10 (by decide) ?_
    cases hf
    exact hend (Or.inl rfl) _ _ _ _ S dJ0_coder_7d493_14
set_option maxRecDepth 100000 in
set_option maxHeartbeats 4000000 in
theorem ct_J0_length_8abf5_s2 (l : Launch) (G : Gd) (τ : Sg) {b : Bool} {σ : Sg} {q : Int} (hf : f_J0_length_8abf5_s2 σ = some q) : Ctr l yJ0_length_8abf5 cJ0_length_8abf5 1 (some .int) (rmk 1 20) G b τ [.ref (G.1 82)] σ σ (some (.int (oI q))) := by
  unfold f_J0_length_8abf5_s2 at hf
  refine CtrI.of (own := RJ0) (plainFor_of_name (by decide)) (Nat.le_of_ble_eq_true rfl) rfl (fun p e s m below meth c Q ls C hl S hend => ?_)
  have hl : lv_has ls 1 [(0, .ref (G.1 82))] := hl
  refine lv_aload_n C.1 C.2.1 dJ0_length_8abf5_0 rfl (lv_at hl 0 rfl) ?_
  refine s_val C S (i0 := 2) (by decide) tw_1661 dJ0_length_8abf5_1 ?_
  refine y_alen C S (i0 := 2) (by decide) dJ0_length_8abf5_4 ?_
  refine lv_aload_n C.1 C.2.1 dJ0_length_8abf5_5 rfl (lv_at hl 0 rfl) ?_
  obtain ⟨q1, hc2, hf⟩ := bd_o hf
  refine r_callVv C S (As := []) (rest := [.int (oI 14)]) (ct_J0_coder_7d493_s2 l G τ hc2) mi_J0_coder_7d493 tw_355 mv_J0_coder_7d493 (rvS_2 S) ⟨rfl, rfl⟩ ⟨Nat.le_of_ble_eq_true rfl, Nat.le_of_ble_eq_true rfl⟩ ⟨Nat.zero_le _, Nat.zero_le _⟩ rfl hl.1 rfl (Nat.le_of_ble_eq_true rfl) dJ0_length_8abf5_6 (fun H locs S => ?_)
  refine r_ishr C (y1 := (u32 q1 % 32)) rfl dJ0_length_8abf5_9 ?_
  cases hf
  exact hend _ _ _ _ S dJ0_length_8abf5_10
set_option maxRecDepth 100000 in
set_option maxHeartbeats 4000000 in
theorem ct_J0_isLatin1_aae02_s2 (l : Launch) (G : Gd) (τ : Sg) {b : Bool} {σ : Sg} {q : Int} (hf : f_J0_isLatin1_aae02_s2 σ = some q) : Ctr l yJ0_isLatin1_aae02 cJ0_isLatin1_aae02 1 (some .boolean) (rmk 0 0) G b τ [.ref (G.1 82)] σ σ (some (.int (oI q))) := by
  unfold f_J0_isLatin1_aae02_s2 at hf
  refine CtrZ.of (own := RJ0) (plainFor_of_name (by decide)) (Nat.le_of_ble_eq_true rfl) rfl (fun p e s m below meth c Q ls C hl S hend => ?_)
  have hl : lv_has ls 1 [(0, .ref (G.1 82))] := hl
  refine z_cmp C S tw_359 dJ0_isLatin1_aae02_0 ?_
  refine r_if_eq C (show w32 1 = 1 by decide) (tgt := 17) dJ0_isLatin1_aae02_3 (by decide) (fun h2 => ?_) (fun h2 => ?_)
  · exact absurd h2 (by decide)
  · refine lv_aload_n C.1 C.2.1 dJ0_isLatin1_aae02_6 rfl (lv_at hl 0 rfl) ?_
    refine s_cod C S (i0 := 2) (by decide) tw_1662 dJ0_isLatin1_aae02_7 ?_
    refine r_if_ne C (show w32 0 = 0 by decide) (tgt := 17) dJ0_isLatin1_aae02_10 (by decide) (fun h1 => ?_) (fun h1 => ?_)
    · refine r_iconst C dJ0_isLatin1_aae02_13 ?_
      refine lv_goto C.1 C.2.1 (tgt := 18) dJ0_isLatin1_aae02_14 (by decide) ?_
      cases hf
      exact hend (Or.inr rfl) _ _ _ _ S dJ0_isLatin1_aae02_18
    · exact absurd (by decide) h1
set_option maxRecDepth 100000 in
set_option maxHeartbeats 4000000 in
theorem ct_J1_charAt_3b067_y2 (l : Launch) (G : Gd) (τ : Sg) {b : Bool} {v1 : Int} {σ : Sg} {q : Int} (hf : f_J1_charAt_3b067_y2 v1 σ = some q) : Ctr l yJ1_charAt_3b067 cJ1_charAt_3b067 2 (some .char) (rmk 2 43) G b τ [.ref (G.1 92), .int (oI v1)] σ σ (some (.int (oI q))) := by
  unfold f_J1_charAt_3b067_y2 at hf
  refine CtrC.of (own := RJ1) (plainFor_of_name (by decide)) (Nat.le_of_ble_eq_true rfl) rfl (fun p e s m below meth c Q ls C hl S hend => ?_)
  have hl : lv_has ls 2 [(0, .ref (G.1 92)), (1, .int (oI v1))] := hl
  refine lv_iload_n C.1 C.2.1 dJ1_charAt_3b067_0 rfl (lv_at hl 1 rfl) ?_
  refine lv_aload_n C.1 C.2.1 dJ1_charAt_3b067_1 rfl (lv_at hl 0 rfl) ?_
  refine y_alen C S (i0 := 2) (by decide) dJ1_charAt_3b067_2 ?_
  obtain ⟨q1, hc2, hf⟩ := bd_o hf
  refine r_callSn C S (As := [.int (oI v1), .int (oI 14)]) (rest := []) (ct_J0_checkIndex_df160 l G τ hc2) mi_J0_checkIndex_df160 tw_372 ms_J0_checkIndex_df160 ⟨rfl, rfl⟩ ⟨Nat.le_of_ble_eq_true rfl, Nat.le_of_ble_eq_true rfl⟩ ⟨Nat.zero_le _, Nat.zero_le _⟩ rfl hl.1 rfl (Nat.le_of_ble_eq_true rfl) dJ1_charAt_3b067_3 (fun H locs S => ?_)
  refine lv_aload_n C.1 C.2.1 dJ1_charAt_3b067_6 rfl (lv_at hl 0 rfl) ?_
  refine lv_iload_n C.1 C.2.1 dJ1_charAt_3b067_7 rfl (lv_at hl 1 rfl) ?_
  obtain ⟨hi3, hf⟩ := ck_o hf
  refine y_bald C S (i0 := 2) (by decide) hi3 dJ1_charAt_3b067_8 ?_
  refine r_sipush C dJ1_charAt_3b067_9 (by decide) ?_
  refine r_iand C rfl (show u32 255 = 255 by decide) dJ1_charAt_3b067_12 ?_
  refine r_i2c C (u32_nat (nb_and (u32_lt _))) dJ1_charAt_3b067_13 ?_
  obtain ⟨hb4, hf⟩ := ck_o hf
  cases hf
  exact hend hb4 _ _ _ _ S dJ1_charAt_3b067_14
set_option maxRecDepth 100000 in
set_option maxHeartbeats 4000000 in
theorem ct_J0_charAt_5068e_s2 (l : Launch) (G : Gd) (τ : Sg) {b : Bool} {v1 : Int} {σ : Sg} {q : Int} (hf : f_J0_charAt_5068e_s2 v1 σ = some q) : Ctr l yJ0_charAt_5068e cJ0_charAt_5068e 2 (some .char) (rmk 3 64) G b τ [.ref (G.1 82), .int (oI v1)] σ σ (some (.int (oI q))) := by
  unfold f_J0_charAt_5068e_s2 at hf
  refine CtrC.of (own := RJ0) (plainFor_of_name (by decide)) (Nat.le_of_ble_eq_true rfl) rfl (fun p e s m below meth c Q ls C hl S hend => ?_)
  have hl : lv_has ls 2 [(0, .ref (G.1 82)), (1, .int (oI v1))] := hl
  refine lv_aload_n C.1 C.2.1 dJ0_charAt_5068e_0 rfl (lv_at hl 0 rfl) ?_
  obtain ⟨q1, hc2, hf⟩ := bd_o hf
  refine r_callVv C S (As := []) (rest := []) (ct_J0_isLatin1_aae02_s2 l G τ hc2) mi_J0_isLatin1_aae02 tw_365 mv_J0_isLatin1_aae02 (rvS_2 S) ⟨rfl, rfl⟩ ⟨Nat.le_of_ble_eq_true rfl, Nat.le_of_ble_eq_true rfl⟩ ⟨Nat.zero_le _, Nat.zero_le _⟩ rfl hl.1 rfl (Nat.le_of_ble_eq_true rfl) dJ0_charAt_5068e_1 (fun H locs S => ?_)
  refine r_if_eq C rfl (tgt := 16) dJ0_charAt_5068e_4 (by decide) (fun h6 => ?_) (fun h6 => ?_)
  · replace hf := if_t hf h6
    refine lv_aload_n C.1 C.2.1 dJ0_charAt_5068e_16 rfl (lv_at hl 0 rfl) ?_
    refine s_val C S (i0 := 2) (by decide) tw_1661 dJ0_charAt_5068e_17 ?_
    refine lv_iload_n C.1 C.2.1 dJ0_charAt_5068e_20 rfl (lv_at hl 1 rfl) ?_
    cases hf
  · replace hf := if_f hf h6
    refine lv_aload_n C.1 C.2.1 dJ0_charAt_5068e_7 rfl (lv_at hl 0 rfl) ?_
    refine s_val C S (i0 := 2) (by decide) tw_1661 dJ0_charAt_5068e_8 ?_
    refine lv_iload_n C.1 C.2.1 dJ0_charAt_5068e_11 rfl (lv_at hl 1 rfl) ?_
    obtain ⟨q3, hc4, hf⟩ := bd_o hf
    refine r_callSv C S (As := [.ref (G.1 92), .int (oI v1)]) (rest := []) (ct_J1_charAt_3b067_y2 l G τ hc4) mi_J1_charAt_3b067 tw_369 ms_J1_charAt_3b067 ⟨rfl, rfl⟩ ⟨Nat.le_of_ble_eq_true rfl, Nat.le_of_ble_eq_true rfl⟩ ⟨Nat.zero_le _, Nat.zero_le _⟩ rfl hl.1 rfl (Nat.le_of_ble_eq_true rfl) dJ0_charAt_5068e_12 (fun H locs S => ?_)
    obtain ⟨hb5, hf⟩ := ck_o hf
    cases hf
    exact hend hb5 _ _ _ _ S dJ0_charAt_5068e_15
set_option maxRecDepth 100000 in
set_option maxHeartbeats 4000000 in
theorem b_X10_wordHere_b114 (C : Cx p s m args c RX10 cX10_wordHere 4) {q : Int} {k4 : Int → Int → Option (Int)} (hend : EndR p l e (rmk 4 85) s m args below meth c Q G false τ cX10_wordHere .ireturn [.int (oI q)] σ) (hk4 : ∀ {H : Heap} {locs : List Loc} {ls : Array Slot} (v1 : Int) (v2 : Int), St G false τ σ s H locs → lv_has ls 4 [(0, .ref (G.1 41)), (1, .int (oI v1)), (2, .int (oI v2))] → k4 v1 v2 = some q → W p l e (rmk 4 85) s m args below meth c H locs 0 0 Q (F0 m 4 ls [])) {H : Heap} {locs : List Loc} {ls : Array Slot} (v1 : Int) (v2 : Int) (S : St G false τ σ s H locs) (hl : lv_has ls 4 [(0, .ref (G.1 41)), (1, .int (oI v1)), (2, .int (oI v2))]) (hf : f_X10_wordHere_b114 σ k4 v1 v2 = some q) : W p l e (rmk 4 85) s m args below meth c H locs 0 0 Q (F0 m 114 ls []) := by
  unfold f_X10_wordHere_b114 at hf
  refine r_iinc C dX10_wordHere_114 hl (k := 2) rfl (by decide) (lv' := [(2, .int (oI (v2 + 1))), (0, .ref (G.1 41)), (1, .int (oI v1))]) rfl (fun ls hl => ?_)
  refine r_iinc C dX10_wordHere_117 hl (k := 2) rfl (by decide) (lv' := [(1, .int (oI (v1 + 1))), (2, .int (oI (v2 + 1))), (0, .ref (G.1 41))]) rfl (fun ls hl => ?_)
  refine lv_goto C.1 C.2.1 (tgt := 4) dX10_wordHere_120 (by decide) ?_
  exact hk4 (v1 + 1) (v2 + 1) S (lv_sub hl [2, 0, 1] rfl) hf
set_option maxRecDepth 100000 in
set_option maxHeartbeats 4000000 in
theorem b_X10_wordHere_b97 (C : Cx p s m args c RX10 cX10_wordHere 4) {q : Int} {k4 : Int → Int → Option (Int)} (hend : EndR p l e (rmk 4 85) s m args below meth c Q G false τ cX10_wordHere .ireturn [.int (oI q)] σ) (hk4 : ∀ {H : Heap} {locs : List Loc} {ls : Array Slot} (v1 : Int) (v2 : Int), St G false τ σ s H locs → lv_has ls 4 [(0, .ref (G.1 41)), (1, .int (oI v1)), (2, .int (oI v2))] → k4 v1 v2 = some q → W p l e (rmk 4 85) s m args below meth c H locs 0 0 Q (F0 m 4 ls [])) : ∀ (n : Nat) {H : Heap} {locs : List Loc} {ls : Array Slot} (v1 : Int) (v2 : Int) (S : St G false τ σ s H locs) (hl : lv_has ls 4 [(0, .ref (G.1 41)), (1, .int (oI v1)), (2, .int (oI v2))]) (hf : f_X10_wordHere_b97 σ k4 n v1 v2 = some q), W p l e (rmk 4 85) s m args below meth c H locs 0 0 Q (F0 m 97 ls []) := by
  intro n
  induction n with
  | zero => intro H locs ls v1 v2 S hl hf; cases hf
  | succ n ih =>
    intro H locs ls v1 v2 S hl hf
    have hk97 := @ih
    rw [f_X10_wordHere_b97] at hf
    refine s_ldc C S (i0 := 2) (by decide) rfl dX10_wordHere_97 ?_
    refine lv_iload_n C.1 C.2.1 dX10_wordHere_99 rfl (lv_at hl 2 rfl) ?_
    obtain ⟨q7, hc8, hf⟩ := bd_o hf
    refine r_callVv C S (As := [.int (oI v2)]) (rest := []) (ct_J0_charAt_5068e_s2 l G τ hc8) mi_J0_charAt_5068e tw_1223 mv_J0_charAt_5068e (rvS_2 S) ⟨rfl, rfl⟩ ⟨Nat.le_of_ble_eq_true rfl, Nat.le_of_ble_eq_true rfl⟩ ⟨Nat.zero_le _, Nat.zero_le _⟩ rfl hl.1 rfl (Nat.le_of_ble_eq_true rfl) dX10_wordHere_100 (fun H locs S => ?_)
    refine r_bipush C dX10_wordHere_103 (by decide) ?_
    refine r_icmp_eq C rfl (show w32 32 = 32 by decide) (tgt := 114) dX10_wordHere_105 (by decide) (fun h9 => ?_) (fun h9 => ?_)
    · replace hf := if_t hf h9
      exact b_X10_wordHere_b114 C hend hk4 v1 v2 S (lv_sub hl [0, 1, 2] rfl) hf
    · replace hf := if_f hf h9
      refine r_iinc C dX10_wordHere_108 hl (k := 2) rfl (by decide) (lv' := [(2, .int (oI (v2 + 1))), (0, .ref (G.1 41)), (1, .int (oI v1))]) rfl (fun ls hl => ?_)
      refine lv_goto C.1 C.2.1 (tgt := 97) dX10_wordHere_111 (by decide) ?_
      exact hk97 v1 (v2 + 1) S (lv_sub hl [1, 2, 0] rfl) hf
set_option maxRecDepth 100000 in
set_option maxHeartbeats 4000000 in
theorem b_X10_wordHere_b69 (C : Cx p s m args c RX10 cX10_wordHere 4) {q : Int} {k4 : Int → Int → Option (Int)} (hend : EndR p l e (rmk 4 85) s m args below meth c Q G false τ cX10_wordHere .ireturn [.int (oI q)] σ) (hk4 : ∀ {H : Heap} {locs : List Loc} {ls : Array Slot} (v1 : Int) (v2 : Int), St G false τ σ s H locs → lv_has ls 4 [(0, .ref (G.1 41)), (1, .int (oI v1)), (2, .int (oI v2))] → k4 v1 v2 = some q → W p l e (rmk 4 85) s m args below meth c H locs 0 0 Q (F0 m 4 ls [])) {H : Heap} {locs : List Loc} {ls : Array Slot} (v1 : Int) (v2 : Int) (v3 : Int) (S : St G false τ σ s H locs) (hl : lv_has ls 4 [(0, .ref (G.1 41)), (1, .int (oI v1)), (2, .int (oI v2)), (3, .int (oI v3))]) (hf : f_X10_wordHere_b69 σ k4 v1 v2 v3 = some q) : W p l e (rmk 4 85) s m args below meth c H locs 0 0 Q (F0 m 69 ls []) := by
  unfold f_X10_wordHere_b69 at hf
  refine s_ldc C S (i0 := 2) (by decide) rfl dX10_wordHere_69 ?_
  refine lv_iload_n C.1 C.2.1 dX10_wordHere_71 rfl (lv_at hl 2 rfl) ?_
  refine lv_iload_n C.1 C.2.1 dX10_wordHere_72 rfl (lv_at hl 3 rfl) ?_
  refine r_iadd C dX10_wordHere_73 ?_
  obtain ⟨q5, hc6, hf⟩ := bd_o hf
  refine r_callVv C S (As := [.int (oI (v2 + v3))]) (rest := []) (ct_J0_charAt_5068e_s2 l G τ hc6) mi_J0_charAt_5068e tw_1223 mv_J0_charAt_5068e (rvS_2 S) ⟨rfl, rfl⟩ ⟨Nat.le_of_ble_eq_true rfl, Nat.le_of_ble_eq_true rfl⟩ ⟨Nat.zero_le _, Nat.zero_le _⟩ rfl hl.1 rfl (Nat.le_of_ble_eq_true rfl) dX10_wordHere_74 (fun H locs S => ?_)
  refine r_bipush C dX10_wordHere_77 (by decide) ?_
  refine r_icmp_ne C rfl (show w32 32 = 32 by decide) (tgt := 97) dX10_wordHere_79 (by decide) (fun h11 => ?_) (fun h11 => ?_)
  · replace hf := if_t hf h11
    refine lv_aload_n C.1 C.2.1 dX10_wordHere_82 rfl (lv_at hl 0 rfl) ?_
    refine g10_place C S tw_1071 dX10_wordHere_83 ?_
    refine lv_iload_n C.1 C.2.1 dX10_wordHere_86 rfl (lv_at hl 3 rfl) ?_
    refine r_iadd C dX10_wordHere_87 ?_
    refine lv_aload_n C.1 C.2.1 dX10_wordHere_88 rfl (lv_at hl 0 rfl) ?_
    refine g10_at C S tw_1070 dX10_wordHere_89 ?_
    refine r_icmp_ne C rfl rfl (tgt := 97) dX10_wordHere_92 (by decide) (fun h10 => ?_) (fun h10 => ?_)
    · replace hf := if_t hf h10
      refine lv_iload_n C.1 C.2.1 dX10_wordHere_95 rfl (lv_at hl 1 rfl) ?_
      cases hf
      exact hend _ _ _ _ S dX10_wordHere_96
    · replace hf := if_f hf h10
      exact b_X10_wordHere_b97 C hend hk4 FUEL v1 v2 S (lv_sub hl [0, 1, 2] rfl) hf
  · replace hf := if_f hf h11
    exact b_X10_wordHere_b97 C hend hk4 FUEL v1 v2 S (lv_sub hl [0, 1, 2] rfl) hf
set_option maxRecDepth 100000 in
set_option maxHeartbeats 4000000 in
theorem b_X10_wordHere_b15 (C : Cx p s m args c RX10 cX10_wordHere 4) {q : Int} {k4 : Int → Int → Option (Int)} (hend : EndR p l e (rmk 4 85) s m args below meth c Q G false τ cX10_wordHere .ireturn [.int (oI q)] σ) (hk4 : ∀ {H : Heap} {locs : List Loc} {ls : Array Slot} (v1 : Int) (v2 : Int), St G false τ σ s H locs → lv_has ls 4 [(0, .ref (G.1 41)), (1, .int (oI v1)), (2, .int (oI v2))] → k4 v1 v2 = some q → W p l e (rmk 4 85) s m args below meth c H locs 0 0 Q (F0 m 4 ls [])) : ∀ (n : Nat) {H : Heap} {locs : List Loc} {ls : Array Slot} (v1 : Int) (v2 : Int) (v3 : Int) (S : St G false τ σ s H locs) (hl : lv_has ls 4 [(0, .ref (G.1 41)), (1, .int (oI v1)), (2, .int (oI v2)), (3, .int (oI v3))]) (hf : f_X10_wordHere_b15 σ k4 n v1 v2 v3 = some q), W p l e (rmk 4 85) s m args below meth c H locs 0 0 Q (F0 m 15 ls []) := by
  intro n
  induction n with
  | zero => intro H locs ls v1 v2 v3 S hl hf; cases hf
  | succ n ih =>
    intro H locs ls v1 v2 v3 S hl hf
    have hk15 := @ih
    rw [f_X10_wordHere_b15] at hf
    refine s_ldc C S (i0 := 2) (by decide) rfl dX10_wordHere_15 ?_
    refine lv_iload_n C.1 C.2.1 dX10_wordHere_17 rfl (lv_at hl 2 rfl) ?_
    refine lv_iload_n C.1 C.2.1 dX10_wordHere_18 rfl (lv_at hl 3 rfl) ?_
    refine r_iadd C dX10_wordHere_19 ?_
    obtain ⟨q3, hc4, hf⟩ := bd_o hf
    refine r_callVv C S (As := [.int (oI (v2 + v3))]) (rest := []) (ct_J0_charAt_5068e_s2 l G τ hc4) mi_J0_charAt_5068e tw_1223 mv_J0_charAt_5068e (rvS_2 S) ⟨rfl, rfl⟩ ⟨Nat.le_of_ble_eq_true rfl, Nat.le_of_ble_eq_true rfl⟩ ⟨Nat.zero_le _, Nat.zero_le _⟩ rfl hl.1 rfl (Nat.le_of_ble_eq_true rfl) dX10_wordHere_20 (fun H locs S => ?_)
    refine r_bipush C dX10_wordHere_23 (by decide) ?_
    refine r_icmp_eq C rfl (show w32 32 = 32 by decide) (tgt := 69) dX10_wordHere_25 (by decide) (fun h17 => ?_) (fun h17 => ?_)
    · replace hf := if_t hf h17
      exact b_X10_wordHere_b69 C hend hk4 v1 v2 v3 S (lv_sub hl [0, 1, 2, 3] rfl) hf
    · replace hf := if_f hf h17
      refine lv_aload_n C.1 C.2.1 dX10_wordHere_28 rfl (lv_at hl 0 rfl) ?_
      refine g10_place C S tw_1071 dX10_wordHere_29 ?_
      refine lv_iload_n C.1 C.2.1 dX10_wordHere_32 rfl (lv_at hl 3 rfl) ?_
      refine r_iadd C dX10_wordHere_33 ?_
      refine lv_aload_n C.1 C.2.1 dX10_wordHere_34 rfl (lv_at hl 0 rfl) ?_
      refine g10_at C S tw_1070 dX10_wordHere_35 ?_
      refine r_icmp_ge C rfl rfl (tgt := 69) dX10_wordHere_38 (by decide) (fun h16 => ?_) (fun h16 => ?_)
      · replace hf := if_t hf h16
        refine lv_aload_n C.1 C.2.1 dX10_wordHere_41 rfl (lv_at hl 0 rfl) ?_
        refine g10_tape C S tw_1062 dX10_wordHere_42 ?_
        refine lv_aload_n C.1 C.2.1 dX10_wordHere_45 rfl (lv_at hl 0 rfl) ?_
        refine g10_place C S tw_1071 dX10_wordHere_46 ?_
        refine lv_iload_n C.1 C.2.1 dX10_wordHere_49 rfl (lv_at hl 3 rfl) ?_
        refine r_iadd C dX10_wordHere_50 ?_
        obtain ⟨hi12, hf⟩ := ck_o hf
        refine a_iald C S ar_42 hi12 dX10_wordHere_51 ?_
        refine s_ldc C S (i0 := 2) (by decide) rfl dX10_wordHere_52 ?_
        refine lv_iload_n C.1 C.2.1 dX10_wordHere_54 rfl (lv_at hl 2 rfl) ?_
        refine lv_iload_n C.1 C.2.1 dX10_wordHere_55 rfl (lv_at hl 3 rfl) ?_
        refine r_iadd C dX10_wordHere_56 ?_
        obtain ⟨q13, hc14, hf⟩ := bd_o hf
        refine r_callVv C S (As := [.int (oI (v2 + v3))]) (rest := [.int (oI (σ 42 ((σ 41 10) + v3).toNat))]) (ct_J0_charAt_5068e_s2 l G τ hc14) mi_J0_charAt_5068e tw_1223 mv_J0_charAt_5068e (rvS_2 S) ⟨rfl, rfl⟩ ⟨Nat.le_of_ble_eq_true rfl, Nat.le_of_ble_eq_true rfl⟩ ⟨Nat.zero_le _, Nat.zero_le _⟩ rfl hl.1 rfl (Nat.le_of_ble_eq_true rfl) dX10_wordHere_57 (fun H locs S => ?_)
        refine r_icmp_ne C rfl rfl (tgt := 69) dX10_wordHere_60 (by decide) (fun h15 => ?_) (fun h15 => ?_)
        · replace hf := if_t hf h15
          refine r_iinc C dX10_wordHere_63 hl (k := 3) rfl (by decide) (lv' := [(3, .int (oI (v3 + 1))), (0, .ref (G.1 41)), (1, .int (oI v1)), (2, .int (oI v2))]) rfl (fun ls hl => ?_)
          refine lv_goto C.1 C.2.1 (tgt := 15) dX10_wordHere_66 (by decide) ?_
          exact hk15 v1 v2 (v3 + 1) S (lv_sub hl [1, 2, 3, 0] rfl) hf
        · replace hf := if_f hf h15
          exact b_X10_wordHere_b69 C hend hk4 v1 v2 v3 S (lv_sub hl [0, 1, 2, 3] rfl) hf
      · replace hf := if_f hf h16
        exact b_X10_wordHere_b69 C hend hk4 v1 v2 v3 S (lv_sub hl [0, 1, 2, 3] rfl) hf
set_option maxRecDepth 100000 in
set_option maxHeartbeats 4000000 in
theorem b_X10_wordHere_b4 (C : Cx p s m args c RX10 cX10_wordHere 4) {q : Int} (hend : EndR p l e (rmk 4 85) s m args below meth c Q G false τ cX10_wordHere .ireturn [.int (oI q)] σ) : ∀ (n : Nat) {H : Heap} {locs : List Loc} {ls : Array Slot} (v1 : Int) (v2 : Int) (S : St G false τ σ s H locs) (hl : lv_has ls 4 [(0, .ref (G.1 41)), (1, .int (oI v1)), (2, .int (oI v2))]) (hf : f_X10_wordHere_b4 σ n v1 v2 = some q), W p l e (rmk 4 85) s m args below meth c H locs 0 0 Q (F0 m 4 ls []) := by
  intro n
  induction n with
  | zero => intro H locs ls v1 v2 S hl hf; cases hf
  | succ n ih =>
    intro H locs ls v1 v2 S hl hf
    have hk4 := @ih
    rw [f_X10_wordHere_b4] at hf
    refine lv_iload_n C.1 C.2.1 dX10_wordHere_4 rfl (lv_at hl 2 rfl) ?_
    refine s_ldc C S (i0 := 2) (by decide) rfl dX10_wordHere_5 ?_
    obtain ⟨q1, hc2, hf⟩ := bd_o hf
    refine r_callVv C S (As := []) (rest := [.int (oI v2)]) (ct_J0_length_8abf5_s2 l G τ hc2) mi_J0_length_8abf5 tw_1222 mv_J0_length_8abf5 (rvS_2 S) ⟨rfl, rfl⟩ ⟨Nat.le_of_ble_eq_true rfl, Nat.le_of_ble_eq_true rfl⟩ ⟨Nat.zero_le _, Nat.zero_le _⟩ rfl hl.1 rfl (Nat.le_of_ble_eq_true rfl) dX10_wordHere_7 (fun H locs S => ?_)
    refine r_icmp_ge C rfl rfl (tgt := 123) dX10_wordHere_10 (by decide) (fun h18 => ?_) (fun h18 => ?_)
    · replace hf := if_t hf h18
      refine r_iconst C dX10_wordHere_13 ?_
      refine lv_istore_n C.1 C.2.1 dX10_wordHere_14 rfl hl (by decide) (lv' := [(3, .int (oI 0)), (0, .ref (G.1 41)), (1, .int (oI v1)), (2, .int (oI v2))]) rfl (fun ls hl => ?_)
      exact b_X10_wordHere_b15 C hend hk4 FUEL v1 v2 0 S (lv_sub hl [1, 2, 3, 0] rfl) hf
    · replace hf := if_f hf h18
      refine r_iconst C dX10_wordHere_123 ?_
      cases hf
      exact hend _ _ _ _ S dX10_wordHere_124
set_option maxRecDepth 100000 in
set_option maxHeartbeats 4000000 in
theorem ct_X10_wordHere (l : Launch) (G : Gd) (τ : Sg) {σ : Sg} {q : Int} (hf : f_X10_wordHere σ = some q) : Ctr l yX10_wordHere cX10_wordHere 4 (some .int) (rmk 4 85) G false τ [.ref (G.1 41)] σ σ (some (.int (oI q))) := by
  unfold f_X10_wordHere at hf
  refine CtrI.of (own := RX10) (plainFor_of_name (by decide)) (Nat.le_of_ble_eq_true rfl) rfl (fun p e s m below meth c Q ls C hl S hend => ?_)
  have hl : lv_has ls 4 [(0, .ref (G.1 41))] := hl
  refine r_iconst C dX10_wordHere_0 ?_
  refine lv_istore_n C.1 C.2.1 dX10_wordHere_1 rfl hl (by decide) (lv' := [(1, .int (oI 0)), (0, .ref (G.1 41))]) rfl (fun ls hl => ?_)
  refine r_iconst C dX10_wordHere_2 ?_
  refine lv_istore_n C.1 C.2.1 dX10_wordHere_3 rfl hl (by decide) (lv' := [(2, .int (oI 0)), (1, .int (oI 0)), (0, .ref (G.1 41))]) rfl (fun ls hl => ?_)
  exact b_X10_wordHere_b4 C hend FUEL 0 0 S (lv_sub hl [2, 1, 0] rfl) hf
set_option maxRecDepth 100000 in
set_option maxHeartbeats 4000000 in
theorem b_X10_token_b18 (C : Cx p s m args c RX10 cX10_token 2) {q : Sg} {k0 : Sg → Option (Sg)} (hend : EndR p l e (rmk 5 108) s m args below meth c Q G false τ cX10_token .return_ [] q) (hk0 : ∀ {H : Heap} {locs : List Loc} {ls : Array Slot} {σ : Sg}, St G false τ σ s H locs → lv_has ls 2 [(0, .ref (G.1 41))] → k0 σ = some q → W p l e (rmk 5 108) s m args below meth c H locs 0 0 Q (F0 m 0 ls [])) {H : Heap} {locs : List Loc} {ls : Array Slot} {σ : Sg} (S : St G false τ σ s H locs) (hl : lv_has ls 2 [(0, .ref (G.1 41))]) (hf : f_X10_token_b18 k0 σ = some q) : W p l e (rmk 5 108) s m args below meth c H locs 0 0 Q (F0 m 18 ls []) := by
  unfold f_X10_token_b18 at hf
  refine lv_aload_n C.1 C.2.1 dX10_token_18 rfl (lv_at hl 0 rfl) ?_
  refine lv_dup C.1 C.2.1 dX10_token_19 rfl ?_
  refine g10_at C S tw_1070 dX10_token_20 ?_
  refine r_iconst C dX10_token_23 ?_
  refine r_iadd C dX10_token_24 ?_
  refine p10_at C S tw_1070 dX10_token_25 (fun H locs S => ?_)
  obtain ⟨σ3, S, hf⟩ := wr_s S hf
  refine lv_goto C.1 C.2.1 (tgt := 0) dX10_token_28 (by decide) ?_
  exact hk0 S (lv_sub hl [0] rfl) hf
set_option maxRecDepth 100000 in
set_option maxHeartbeats 4000000 in
theorem b_X10_token_b202 (C : Cx p s m args c RX10 cX10_token 2) {q : Sg} (hend : EndR p l e (rmk 5 108) s m args below meth c Q G false τ cX10_token .return_ [] q) {H : Heap} {locs : List Loc} {ls : Array Slot} {σ : Sg} (w0 : Int) (S : St G false τ σ s H locs) (hl : lv_has ls 2 [(0, .ref (G.1 41))]) (hf : f_X10_token_b202 w0 σ = some q) : W p l e (rmk 5 108) s m args below meth c H locs 0 0 Q (F0 m 202 ls [.int (oI w0), .ref (G.1 41)]) := by
  unfold f_X10_token_b202 at hf
  refine p10_sort C S tw_1072 dX10_token_202 (fun H locs S => ?_)
  obtain ⟨σ14, S, hf⟩ := wr_s S hf
  refine lv_aload_n C.1 C.2.1 dX10_token_205 rfl (lv_at hl 0 rfl) ?_
  refine lv_dup C.1 C.2.1 dX10_token_206 rfl ?_
  refine g10_at C S tw_1070 dX10_token_207 ?_
  refine r_iconst C dX10_token_210 ?_
  refine r_iadd C dX10_token_211 ?_
  refine p10_at C S tw_1070 dX10_token_212 (fun H locs S => ?_)
  obtain ⟨σ15, S, hf⟩ := wr_s S hf
  cases hf
  exact hend _ _ _ _ S dX10_token_215
set_option maxRecDepth 100000 in
set_option maxHeartbeats 4000000 in
theorem b_X10_token_b174 (C : Cx p s m args c RX10 cX10_token 2) {q : Sg} {k132 : Sg → Option (Sg)} (hend : EndR p l e (rmk 5 108) s m args below meth c Q G false τ cX10_token .return_ [] q) (hk132 : ∀ {H : Heap} {locs : List Loc} {ls : Array Slot} {σ : Sg}, St G false τ σ s H locs → lv_has ls 2 [(0, .ref (G.1 41))] → k132 σ = some q → W p l e (rmk 5 108) s m args below meth c H locs 0 0 Q (F0 m 132 ls [])) {H : Heap} {locs : List Loc} {ls : Array Slot} {σ : Sg} (w0 : Int) (S : St G false τ σ s H locs) (hl : lv_has ls 2 [(0, .ref (G.1 41))]) (hf : f_X10_token_b174 k132 w0 σ = some q) : W p l e (rmk 5 108) s m args below meth c H locs 0 0 Q (F0 m 174 ls [.int (oI w0), .ref (G.1 41)]) := by
  unfold f_X10_token_b174 at hf
  refine p10_value C S tw_1073 dX10_token_174 (fun H locs S => ?_)
  obtain ⟨σ25, S, hf⟩ := wr_s S hf
  refine lv_aload_n C.1 C.2.1 dX10_token_177 rfl (lv_at hl 0 rfl) ?_
  refine lv_dup C.1 C.2.1 dX10_token_178 rfl ?_
  refine g10_at C S tw_1070 dX10_token_179 ?_
  refine r_iconst C dX10_token_182 ?_
  refine r_iadd C dX10_token_183 ?_
  refine p10_at C S tw_1070 dX10_token_184 (fun H locs S => ?_)
  obtain ⟨σ26, S, hf⟩ := wr_s S hf
  refine lv_goto C.1 C.2.1 (tgt := 132) dX10_token_187 (by decide) ?_
  exact hk132 S (lv_sub hl [0] rfl) hf
set_option maxRecDepth 100000 in
set_option maxHeartbeats 4000000 in
theorem b_X10_token_b132 (C : Cx p s m args c RX10 cX10_token 2) {q : Sg} (hend : EndR p l e (rmk 5 108) s m args below meth c Q G false τ cX10_token .return_ [] q) : ∀ (n : Nat) {H : Heap} {locs : List Loc} {ls : Array Slot} {σ : Sg} (S : St G false τ σ s H locs) (hl : lv_has ls 2 [(0, .ref (G.1 41))]) (hf : f_X10_token_b132 n σ = some q), W p l e (rmk 5 108) s m args below meth c H locs 0 0 Q (F0 m 132 ls []) := by
  intro n
  induction n with
  | zero => intro H locs ls σ  S hl hf; cases hf
  | succ n ih =>
    intro H locs ls σ  S hl hf
    have hk132 := @ih
    rw [f_X10_token_b132] at hf
    refine lv_aload_n C.1 C.2.1 dX10_token_132 rfl (lv_at hl 0 rfl) ?_
    obtain ⟨q19, hc20, hf⟩ := bd_o hf
    refine r_callVv C S (As := []) (rest := []) (ct_X10_here l G τ hc20) mi_X10_here tw_1210 mv_X10_here (rvX10 S) ⟨rfl, rfl⟩ ⟨Nat.le_of_ble_eq_true rfl, Nat.le_of_ble_eq_true rfl⟩ ⟨Nat.zero_le _, Nat.zero_le _⟩ rfl hl.1 rfl (Nat.le_of_ble_eq_true rfl) dX10_token_133 (fun H locs S => ?_)
    obtain ⟨q21, hc22, hf⟩ := bd_o hf
    refine r_callSv C S (As := [.int (oI q19)]) (rest := []) (ct_X10_isDigit l G τ hc22) mi_X10_isDigit tw_1224 ms_X10_isDigit ⟨rfl, rfl⟩ ⟨Nat.le_of_ble_eq_true rfl, Nat.le_of_ble_eq_true rfl⟩ ⟨Nat.zero_le _, Nat.zero_le _⟩ rfl hl.1 rfl (Nat.le_of_ble_eq_true rfl) dX10_token_136 (fun H locs S => ?_)
    refine r_if_eq C rfl (tgt := 215) dX10_token_139 (by decide) (fun h28 => ?_) (fun h28 => ?_)
    · replace hf := if_t hf h28
      cases hf
      exact hend _ _ _ _ S dX10_token_215
    · replace hf := if_f hf h28
      refine lv_aload_n C.1 C.2.1 dX10_token_142 rfl (lv_at hl 0 rfl) ?_
      refine lv_aload_n C.1 C.2.1 dX10_token_143 rfl (lv_at hl 0 rfl) ?_
      refine g10_value C S tw_1073 dX10_token_144 ?_
      refine r_ldc C tw_1227 dX10_token_147 ?_
      refine r_icmp_le C rfl (show w32 9999999 = 9999999 by decide) (tgt := 159) dX10_token_149 (by decide) (fun h27 => ?_) (fun h27 => ?_)
      · replace hf := if_t hf h27
        refine r_bipush C dX10_token_159 (by decide) ?_
        refine lv_aload_n C.1 C.2.1 dX10_token_161 rfl (lv_at hl 0 rfl) ?_
        refine g10_value C S tw_1073 dX10_token_162 ?_
        refine r_imul C dX10_token_165 ?_
        refine lv_aload_n C.1 C.2.1 dX10_token_166 rfl (lv_at hl 0 rfl) ?_
        obtain ⟨q23, hc24, hf⟩ := bd_o hf
        refine r_callVv C S (As := []) (rest := [.int (oI (10 * (σ 41 12))), .ref (G.1 41)]) (ct_X10_here l G τ hc24) mi_X10_here tw_1210 mv_X10_here (rvX10 S) ⟨rfl, rfl⟩ ⟨Nat.le_of_ble_eq_true rfl, Nat.le_of_ble_eq_true rfl⟩ ⟨Nat.zero_le _, Nat.zero_le _⟩ rfl hl.1 rfl (Nat.le_of_ble_eq_true rfl) dX10_token_167 (fun H locs S => ?_)
        refine r_iadd C dX10_token_170 ?_
        refine r_bipush C dX10_token_171 (by decide) ?_
        refine r_isub C dX10_token_173 ?_
        exact b_X10_token_b174 C hend hk132 (((10 * (σ 41 12)) + q23) - 48) S (lv_sub hl [0] rfl) hf
      · replace hf := if_f hf h27
        refine lv_aload_n C.1 C.2.1 dX10_token_152 rfl (lv_at hl 0 rfl) ?_
        refine g10_value C S tw_1073 dX10_token_153 ?_
        refine lv_goto C.1 C.2.1 (tgt := 174) dX10_token_156 (by decide) ?_
        exact b_X10_token_b174 C hend hk132 (σ 41 12) S (lv_sub hl [0] rfl) hf
set_option maxRecDepth 100000 in
set_option maxHeartbeats 4000000 in
theorem b_X10_token_b109 (C : Cx p s m args c RX10 cX10_token 2) {q : Sg} (hend : EndR p l e (rmk 5 108) s m args below meth c Q G false τ cX10_token .return_ [] q) {H : Heap} {locs : List Loc} {ls : Array Slot} {σ : Sg} (w0 : Int) (S : St G false τ σ s H locs) (hl : lv_has ls 2 []) (hf : f_X10_token_b109 w0 σ = some q) : W p l e (rmk 5 108) s m args below meth c H locs 0 0 Q (F0 m 109 ls [.int (oI w0), .ref (G.1 41)]) := by
  unfold f_X10_token_b109 at hf
  refine p10_sort C S tw_1072 dX10_token_109 (fun H locs S => ?_)
  obtain ⟨σ37, S, hf⟩ := wr_s S hf
  refine lv_goto C.1 C.2.1 (tgt := 215) dX10_token_112 (by decide) ?_
  cases hf
  exact hend _ _ _ _ S dX10_token_215
set_option maxRecDepth 100000 in
set_option maxHeartbeats 4000000 in
theorem b_X10_token_b87 (C : Cx p s m args c RX10 cX10_token 2) {q : Sg} (hend : EndR p l e (rmk 5 108) s m args below meth c Q G false τ cX10_token .return_ [] q) {H : Heap} {locs : List Loc} {ls : Array Slot} {σ : Sg} (S : St G false τ σ s H locs) (hl : lv_has ls 2 [(0, .ref (G.1 41))]) (hf : f_X10_token_b87 σ = some q) : W p l e (rmk 5 108) s m args below meth c H locs 0 0 Q (F0 m 87 ls []) := by
  unfold f_X10_token_b87 at hf
  refine lv_aload_n C.1 C.2.1 dX10_token_87 rfl (lv_at hl 0 rfl) ?_
  refine lv_aload_n C.1 C.2.1 dX10_token_88 rfl (lv_at hl 0 rfl) ?_
  obtain ⟨q34, hc35, hf⟩ := bd_o hf
  refine r_callVv C S (As := []) (rest := [.ref (G.1 41)]) (ct_X10_wordHere l G τ hc35) mi_X10_wordHere tw_1217 mv_X10_wordHere (rvX10 S) ⟨rfl, rfl⟩ ⟨Nat.le_of_ble_eq_true rfl, Nat.le_of_ble_eq_true rfl⟩ ⟨Nat.zero_le _, Nat.zero_le _⟩ rfl hl.1 rfl (Nat.le_of_ble_eq_true rfl) dX10_token_89 (fun H locs S => ?_)
  refine p10_value C S tw_1073 dX10_token_92 (fun H locs S => ?_)
  obtain ⟨σ36, S, hf⟩ := wr_s S hf
  refine lv_aload_n C.1 C.2.1 dX10_token_95 rfl (lv_at hl 0 rfl) ?_
  refine lv_aload_n C.1 C.2.1 dX10_token_96 rfl (lv_at hl 0 rfl) ?_
  refine g10_value C S tw_1073 dX10_token_97 ?_
  refine r_iconst C dX10_token_100 ?_
  refine r_icmp_eq C rfl (show w32 (-1) = (-1) by decide) (tgt := 108) dX10_token_101 (by decide) (fun h38 => ?_) (fun h38 => ?_)
  · replace hf := if_t hf h38
    refine r_iconst C dX10_token_108 ?_
    exact b_X10_token_b109 C hend 4 S (lv_sub hl [] rfl) hf
  · replace hf := if_f hf h38
    refine r_iconst C dX10_token_104 ?_
    refine lv_goto C.1 C.2.1 (tgt := 109) dX10_token_105 (by decide) ?_
    exact b_X10_token_b109 C hend 0 S (lv_sub hl [] rfl) hf
set_option maxRecDepth 100000 in
set_option maxHeartbeats 4000000 in
theorem b_X10_token_b64 (C : Cx p s m args c RX10 cX10_token 2) {q : Sg} (hend : EndR p l e (rmk 5 108) s m args below meth c Q G false τ cX10_token .return_ [] q) : ∀ (n : Nat) {H : Heap} {locs : List Loc} {ls : Array Slot} {σ : Sg} (S : St G false τ σ s H locs) (hl : lv_has ls 2 [(0, .ref (G.1 41))]) (hf : f_X10_token_b64 n σ = some q), W p l e (rmk 5 108) s m args below meth c H locs 0 0 Q (F0 m 64 ls []) := by
  intro n
  induction n with
  | zero => intro H locs ls σ  S hl hf; cases hf
  | succ n ih =>
    intro H locs ls σ  S hl hf
    have hk64 := @ih
    rw [f_X10_token_b64] at hf
    refine lv_aload_n C.1 C.2.1 dX10_token_64 rfl (lv_at hl 0 rfl) ?_
    obtain ⟨q30, hc31, hf⟩ := bd_o hf
    refine r_callVv C S (As := []) (rest := []) (ct_X10_here l G τ hc31) mi_X10_here tw_1210 mv_X10_here (rvX10 S) ⟨rfl, rfl⟩ ⟨Nat.le_of_ble_eq_true rfl, Nat.le_of_ble_eq_true rfl⟩ ⟨Nat.zero_le _, Nat.zero_le _⟩ rfl hl.1 rfl (Nat.le_of_ble_eq_true rfl) dX10_token_65 (fun H locs S => ?_)
    obtain ⟨q32, hc33, hf⟩ := bd_o hf
    refine r_callSv C S (As := [.int (oI q30)]) (rest := []) (ct_X10_isSmall l G τ hc33) mi_X10_isSmall tw_1214 ms_X10_isSmall ⟨rfl, rfl⟩ ⟨Nat.le_of_ble_eq_true rfl, Nat.le_of_ble_eq_true rfl⟩ ⟨Nat.zero_le _, Nat.zero_le _⟩ rfl hl.1 rfl (Nat.le_of_ble_eq_true rfl) dX10_token_68 (fun H locs S => ?_)
    refine r_if_eq C rfl (tgt := 87) dX10_token_71 (by decide) (fun h40 => ?_) (fun h40 => ?_)
    · replace hf := if_t hf h40
      exact b_X10_token_b87 C hend S (lv_sub hl [0] rfl) hf
    · replace hf := if_f hf h40
      refine lv_aload_n C.1 C.2.1 dX10_token_74 rfl (lv_at hl 0 rfl) ?_
      refine lv_dup C.1 C.2.1 dX10_token_75 rfl ?_
      refine g10_at C S tw_1070 dX10_token_76 ?_
      refine r_iconst C dX10_token_79 ?_
      refine r_iadd C dX10_token_80 ?_
      refine p10_at C S tw_1070 dX10_token_81 (fun H locs S => ?_)
      obtain ⟨σ39, S, hf⟩ := wr_s S hf
      refine lv_goto C.1 C.2.1 (tgt := 64) dX10_token_84 (by decide) ?_
      exact hk64 S (lv_sub hl [0] rfl) hf
set_option maxRecDepth 100000 in
set_option maxHeartbeats 4000000 in
theorem b_X10_token_b31 (C : Cx p s m args c RX10 cX10_token 2) {q : Sg} (hend : EndR p l e (rmk 5 108) s m args below meth c Q G false τ cX10_token .return_ [] q) {H : Heap} {locs : List Loc} {ls : Array Slot} {σ : Sg} (S : St G false τ σ s H locs) (hl : lv_has ls 2 [(0, .ref (G.1 41))]) (hf : f_X10_token_b31 σ = some q) : W p l e (rmk 5 108) s m args below meth c H locs 0 0 Q (F0 m 31 ls []) := by
  unfold f_X10_token_b31 at hf
  refine lv_aload_n C.1 C.2.1 dX10_token_31 rfl (lv_at hl 0 rfl) ?_
  refine lv_aload_n C.1 C.2.1 dX10_token_32 rfl (lv_at hl 0 rfl) ?_
  refine g10_at C S tw_1070 dX10_token_33 ?_
  refine p10_place C S tw_1071 dX10_token_36 (fun H locs S => ?_)
  obtain ⟨σ6, S, hf⟩ := wr_s S hf
  refine lv_aload_n C.1 C.2.1 dX10_token_39 rfl (lv_at hl 0 rfl) ?_
  obtain ⟨q7, hc8, hf⟩ := bd_o hf
  refine r_callVv C S (As := []) (rest := []) (ct_X10_here l G τ hc8) mi_X10_here tw_1210 mv_X10_here (rvX10 S) ⟨rfl, rfl⟩ ⟨Nat.le_of_ble_eq_true rfl, Nat.le_of_ble_eq_true rfl⟩ ⟨Nat.zero_le _, Nat.zero_le _⟩ rfl hl.1 rfl (Nat.le_of_ble_eq_true rfl) dX10_token_40 (fun H locs S => ?_)
  refine lv_istore_n C.1 C.2.1 dX10_token_43 rfl hl (by decide) (lv' := [(1, .int (oI q7)), (0, .ref (G.1 41))]) rfl (fun ls hl => ?_)
  refine lv_iload_n C.1 C.2.1 dX10_token_44 rfl (lv_at hl 0 rfl) ?_
  refine r_iconst C dX10_token_45 ?_
  refine r_icmp_ne C rfl (show w32 (-1) = (-1) by decide) (tgt := 57) dX10_token_46 (by decide) (fun h42 => ?_) (fun h42 => ?_)
  · replace hf := if_t hf h42
    refine lv_aload_n C.1 C.2.1 dX10_token_49 rfl (lv_at hl 1 rfl) ?_
    refine r_iconst C dX10_token_50 ?_
    refine p10_sort C S tw_1072 dX10_token_51 (fun H locs S => ?_)
    obtain ⟨σ9, S, hf⟩ := wr_s S hf
    refine lv_goto C.1 C.2.1 (tgt := 215) dX10_token_54 (by decide) ?_
    cases hf
    exact hend _ _ _ _ S dX10_token_215
  · replace hf := if_f hf h42
    refine lv_iload_n C.1 C.2.1 dX10_token_57 rfl (lv_at hl 0 rfl) ?_
    obtain ⟨q10, hc11, hf⟩ := bd_o hf
    refine r_callSv C S (As := [.int (oI q7)]) (rest := []) (ct_X10_isSmall l G τ hc11) mi_X10_isSmall tw_1214 ms_X10_isSmall ⟨rfl, rfl⟩ ⟨Nat.le_of_ble_eq_true rfl, Nat.le_of_ble_eq_true rfl⟩ ⟨Nat.zero_le _, Nat.zero_le _⟩ rfl hl.1 rfl (Nat.le_of_ble_eq_true rfl) dX10_token_58 (fun H locs S => ?_)
    refine r_if_eq C rfl (tgt := 115) dX10_token_61 (by decide) (fun h41 => ?_) (fun h41 => ?_)
    · replace hf := if_t hf h41
      refine lv_iload_n C.1 C.2.1 dX10_token_115 rfl (lv_at hl 0 rfl) ?_
      obtain ⟨q12, hc13, hf⟩ := bd_o hf
      refine r_callSv C S (As := [.int (oI q7)]) (rest := []) (ct_X10_isDigit l G τ hc13) mi_X10_isDigit tw_1224 ms_X10_isDigit ⟨rfl, rfl⟩ ⟨Nat.le_of_ble_eq_true rfl, Nat.le_of_ble_eq_true rfl⟩ ⟨Nat.zero_le _, Nat.zero_le _⟩ rfl hl.1 rfl (Nat.le_of_ble_eq_true rfl) dX10_token_116 (fun H locs S => ?_)
      refine r_if_eq C rfl (tgt := 190) dX10_token_119 (by decide) (fun h29 => ?_) (fun h29 => ?_)
      · replace hf := if_t hf h29
        refine lv_aload_n C.1 C.2.1 dX10_token_190 rfl (lv_at hl 1 rfl) ?_
        refine lv_iload_n C.1 C.2.1 dX10_token_191 rfl (lv_at hl 0 rfl) ?_
        refine r_bipush C dX10_token_192 (by decide) ?_
        refine r_icmp_ne C rfl (show w32 59 = 59 by decide) (tgt := 201) dX10_token_194 (by decide) (fun h16 => ?_) (fun h16 => ?_)
        · replace hf := if_t hf h16
          refine r_iconst C dX10_token_197 ?_
          refine lv_goto C.1 C.2.1 (tgt := 202) dX10_token_198 (by decide) ?_
          exact b_X10_token_b202 C hend 2 S (lv_sub hl [1] rfl) hf
        · replace hf := if_f hf h16
          refine r_iconst C dX10_token_201 ?_
          exact b_X10_token_b202 C hend 4 S (lv_sub hl [1] rfl) hf
      · replace hf := if_f hf h29
        refine lv_aload_n C.1 C.2.1 dX10_token_122 rfl (lv_at hl 1 rfl) ?_
        refine r_iconst C dX10_token_123 ?_
        refine p10_sort C S tw_1072 dX10_token_124 (fun H locs S => ?_)
        obtain ⟨σ17, S, hf⟩ := wr_s S hf
        refine lv_aload_n C.1 C.2.1 dX10_token_127 rfl (lv_at hl 1 rfl) ?_
        refine r_iconst C dX10_token_128 ?_
        refine p10_value C S tw_1073 dX10_token_129 (fun H locs S => ?_)
        obtain ⟨σ18, S, hf⟩ := wr_s S hf
        exact b_X10_token_b132 C hend FUEL S (lv_sub hl [1] rfl) hf
    · replace hf := if_f hf h41
      exact b_X10_token_b64 C hend FUEL S (lv_sub hl [1] rfl) hf
set_option maxRecDepth 100000 in
set_option maxHeartbeats 4000000 in
theorem b_X10_token_b0 (C : Cx p s m args c RX10 cX10_token 2) {q : Sg} (hend : EndR p l e (rmk 5 108) s m args below meth c Q G false τ cX10_token .return_ [] q) : ∀ (n : Nat) {H : Heap} {locs : List Loc} {ls : Array Slot} {σ : Sg} (S : St G false τ σ s H locs) (hl : lv_has ls 2 [(0, .ref (G.1 41))]) (hf : f_X10_token_b0 n σ = some q), W p l e (rmk 5 108) s m args below meth c H locs 0 0 Q (F0 m 0 ls []) := by
  intro n
  induction n with
  | zero => intro H locs ls σ  S hl hf; cases hf
  | succ n ih =>
    intro H locs ls σ  S hl hf
    have hk0 := @ih
    rw [f_X10_token_b0] at hf
    refine lv_aload_n C.1 C.2.1 dX10_token_0 rfl (lv_at hl 0 rfl) ?_
    obtain ⟨q1, hc2, hf⟩ := bd_o hf
    refine r_callVv C S (As := []) (rest := []) (ct_X10_here l G τ hc2) mi_X10_here tw_1210 mv_X10_here (rvX10 S) ⟨rfl, rfl⟩ ⟨Nat.le_of_ble_eq_true rfl, Nat.le_of_ble_eq_true rfl⟩ ⟨Nat.zero_le _, Nat.zero_le _⟩ rfl hl.1 rfl (Nat.le_of_ble_eq_true rfl) dX10_token_1 (fun H locs S => ?_)
    refine r_bipush C dX10_token_4 (by decide) ?_
    refine r_icmp_eq C rfl (show w32 10 = 10 by decide) (tgt := 18) dX10_token_6 (by decide) (fun h44 => ?_) (fun h44 => ?_)
    · replace hf := if_t hf h44
      exact b_X10_token_b18 C hend hk0 S (lv_sub hl [0] rfl) hf
    · replace hf := if_f hf h44
      refine lv_aload_n C.1 C.2.1 dX10_token_9 rfl (lv_at hl 0 rfl) ?_
      obtain ⟨q4, hc5, hf⟩ := bd_o hf
      refine r_callVv C S (As := []) (rest := []) (ct_X10_here l G τ hc5) mi_X10_here tw_1210 mv_X10_here (rvX10 S) ⟨rfl, rfl⟩ ⟨Nat.le_of_ble_eq_true rfl, Nat.le_of_ble_eq_true rfl⟩ ⟨Nat.zero_le _, Nat.zero_le _⟩ rfl hl.1 rfl (Nat.le_of_ble_eq_true rfl) dX10_token_10 (fun H locs S => ?_)
      refine r_bipush C dX10_token_13 (by decide) ?_
      refine r_icmp_ne C rfl (show w32 32 = 32 by decide) (tgt := 31) dX10_token_15 (by decide) (fun h43 => ?_) (fun h43 => ?_)
      · replace hf := if_t hf h43
        exact b_X10_token_b18 C hend hk0 S (lv_sub hl [0] rfl) hf
      · replace hf := if_f hf h43
        exact b_X10_token_b31 C hend S (lv_sub hl [0] rfl) hf
set_option maxRecDepth 100000 in
set_option maxHeartbeats 4000000 in
theorem ct_X10_token (l : Launch) (G : Gd) (τ : Sg) {σ : Sg} {q : Sg} (hf : f_X10_token σ = some q) : Ctr l yX10_token cX10_token 2 none (rmk 5 108) G false τ [.ref (G.1 41)] σ q none := by
  unfold f_X10_token at hf
  refine CtrV.of (own := RX10) (plainFor_of_name (by decide)) (Nat.le_of_ble_eq_true rfl) rfl (fun p e s m below meth c Q ls C hl S hend => ?_)
  have hl : lv_has ls 2 [(0, .ref (G.1 41))] := hl
  exact b_X10_token_b0 C hend FUEL S (lv_sub hl [0] rfl) hf
set_option maxRecDepth 100000 in
set_option maxHeartbeats 4000000 in
theorem ct_X10_wrong (l : Launch) (G : Gd) (τ : Sg) {v1 : Int} {σ : Sg} {q : Sg} (hf : f_X10_wrong v1 σ = some q) : Ctr l yX10_wrong cX10_wrong 2 none (rmk 0 0) G false τ [.ref (G.1 41), .int (oI v1)] σ q none := by
  unfold f_X10_wrong at hf
  refine CtrV.of (own := RX10) (plainFor_of_name (by decide)) (Nat.le_of_ble_eq_true rfl) rfl (fun p e s m below meth c Q ls C hl S hend => ?_)
  have hl : lv_has ls 2 [(0, .ref (G.1 41)), (1, .int (oI v1))] := hl
  refine lv_aload_n C.1 C.2.1 dX10_wrong_0 rfl (lv_at hl 0 rfl) ?_
  refine g10_fault C S tw_1074 dX10_wrong_1 ?_
  refine r_if_eq C rfl (tgt := 8) dX10_wrong_4 (by decide) (fun h3 => ?_) (fun h3 => ?_)
  · replace hf := if_t hf h3
    refine lv_aload_n C.1 C.2.1 dX10_wrong_8 rfl (lv_at hl 0 rfl) ?_
    refine lv_iload_n C.1 C.2.1 dX10_wrong_9 rfl (lv_at hl 1 rfl) ?_
    refine p10_fault C S tw_1074 dX10_wrong_10 (fun H locs S => ?_)
    obtain ⟨σ1, S, hf⟩ := wr_s S hf
    refine lv_aload_n C.1 C.2.1 dX10_wrong_13 rfl (lv_at hl 0 rfl) ?_
    refine lv_aload_n C.1 C.2.1 dX10_wrong_14 rfl (lv_at hl 0 rfl) ?_
    refine g10_place C S tw_1071 dX10_wrong_15 ?_
    refine p10_faultPlace C S tw_1075 dX10_wrong_18 (fun H locs S => ?_)
    obtain ⟨σ2, S, hf⟩ := wr_s S hf
    cases hf
    exact hend _ _ _ _ S dX10_wrong_21
  · replace hf := if_f hf h3
    cases hf
    exact hend _ _ _ _ S dX10_wrong_7
set_option maxRecDepth 100000 in
set_option maxHeartbeats 4000000 in
theorem ct_X10_goOn (l : Launch) (G : Gd) (τ : Sg) {σ : Sg} {q : Sg} (hf : f_X10_goOn σ = some q) : Ctr l yX10_goOn cX10_goOn 1 none (rmk 6 129) G false τ [.ref (G.1 41)] σ q none := by
  unfold f_X10_goOn at hf
  refine CtrV.of (own := RX10) (plainFor_of_name (by decide)) (Nat.le_of_ble_eq_true rfl) rfl (fun p e s m below meth c Q ls C hl S hend => ?_)
  have hl : lv_has ls 1 [(0, .ref (G.1 41))] := hl
  refine lv_aload_n C.1 C.2.1 dX10_goOn_0 rfl (lv_at hl 0 rfl) ?_
  refine g10_fault C S tw_1074 dX10_goOn_1 ?_
  refine r_if_ne C rfl (tgt := 11) dX10_goOn_4 (by decide) (fun h3 => ?_) (fun h3 => ?_)
  · replace hf := if_t hf h3
    refine lv_aload_n C.1 C.2.1 dX10_goOn_7 rfl (lv_at hl 0 rfl) ?_
    obtain ⟨q1, hc2, hf⟩ := bd_o hf
    refine r_callVn C S (As := []) (rest := []) (ct_X10_token l G τ hc2) mi_X10_token tw_1206 mv_X10_token (rvX10 S) ⟨rfl, rfl⟩ ⟨Nat.le_of_ble_eq_true rfl, Nat.le_of_ble_eq_true rfl⟩ ⟨Nat.zero_le _, Nat.zero_le _⟩ rfl hl.1 rfl (Nat.le_of_ble_eq_true rfl) dX10_goOn_8 (fun H locs S => ?_)
    cases hf
    exact hend _ _ _ _ S dX10_goOn_11
  · replace hf := if_f hf h3
    cases hf
    exact hend _ _ _ _ S dX10_goOn_11
set_option maxRecDepth 100000 in
set_option maxHeartbeats 4000000 in
theorem b_X10_numeral_b61 (C : Cx p s m args c RX10 cX10_numeral 4) {q : Int × Sg} (hend : EndR p l e (rmk 7 149) s m args below meth c Q G false τ cX10_numeral .ireturn [.int (oI q.1)] q.2) {H : Heap} {locs : List Loc} {ls : Array Slot} {σ : Sg} (w0 : Int) (S : St G false τ σ s H locs) (hl : lv_has ls 4 [(0, .ref (G.1 41))]) (hf : f_X10_numeral_b61 w0 σ = some q) : W p l e (rmk 7 149) s m args below meth c H locs 0 0 Q (F0 m 61 ls [.int (oI w0)]) := by
  unfold f_X10_numeral_b61 at hf
  refine lv_istore_n C.1 C.2.1 dX10_numeral_61 rfl hl (by decide) (lv' := [(3, .int (oI w0)), (0, .ref (G.1 41))]) rfl (fun ls hl => ?_)
  refine lv_aload_n C.1 C.2.1 dX10_numeral_62 rfl (lv_at hl 1 rfl) ?_
  obtain ⟨q3, hc4, hf⟩ := bd_o hf
  refine r_callVn C S (As := []) (rest := []) (ct_X10_goOn l G τ hc4) mi_X10_goOn tw_1240 mv_X10_goOn (rvX10 S) ⟨rfl, rfl⟩ ⟨Nat.le_of_ble_eq_true rfl, Nat.le_of_ble_eq_true rfl⟩ ⟨Nat.zero_le _, Nat.zero_le _⟩ rfl hl.1 rfl (Nat.le_of_ble_eq_true rfl) dX10_numeral_63 (fun H locs S => ?_)
  refine lv_iload_n C.1 C.2.1 dX10_numeral_66 rfl (lv_at hl 0 rfl) ?_
  cases hf
  exact hend _ _ _ _ S dX10_numeral_67
set_option maxRecDepth 100000 in
set_option maxHeartbeats 4000000 in
theorem b_X10_numeral_b46 (C : Cx p s m args c RX10 cX10_numeral 4) {q : Int × Sg} (hend : EndR p l e (rmk 7 149) s m args below meth c Q G false τ cX10_numeral .ireturn [.int (oI q.1)] q.2) {H : Heap} {locs : List Loc} {ls : Array Slot} {σ : Sg} (v1 : Int) (S : St G false τ σ s H locs) (hl : lv_has ls 4 [(0, .ref (G.1 41)), (1, .int (oI v1))]) (hf : f_X10_numeral_b46 v1 σ = some q) : W p l e (rmk 7 149) s m args below meth c H locs 0 0 Q (F0 m 46 ls []) := by
  unfold f_X10_numeral_b46 at hf
  refine lv_aload_n C.1 C.2.1 dX10_numeral_46 rfl (lv_at hl 0 rfl) ?_
  refine g10_fault C S tw_1074 dX10_numeral_47 ?_
  refine r_if_ne C rfl (tgt := 60) dX10_numeral_50 (by decide) (fun h5 => ?_) (fun h5 => ?_)
  · replace hf := if_t hf h5
    refine lv_aload_n C.1 C.2.1 dX10_numeral_53 rfl (lv_at hl 0 rfl) ?_
    refine g10_value C S tw_1073 dX10_numeral_54 ?_
    refine lv_goto C.1 C.2.1 (tgt := 61) dX10_numeral_57 (by decide) ?_
    exact b_X10_numeral_b61 C hend (σ 41 12) S (lv_sub hl [0] rfl) hf
  · replace hf := if_f hf h5
    refine lv_iload_n C.1 C.2.1 dX10_numeral_60 rfl (lv_at hl 1 rfl) ?_
    exact b_X10_numeral_b61 C hend v1 S (lv_sub hl [0] rfl) hf
set_option maxRecDepth 100000 in
set_option maxHeartbeats 4000000 in
theorem b_X10_numeral_b41 (C : Cx p s m args c RX10 cX10_numeral 4) {q : Int × Sg} (hend : EndR p l e (rmk 7 149) s m args below meth c Q G false τ cX10_numeral .ireturn [.int (oI q.1)] q.2) {H : Heap} {locs : List Loc} {ls : Array Slot} {σ : Sg} (v1 : Int) (S : St G false τ σ s H locs) (hl : lv_has ls 4 [(0, .ref (G.1 41)), (1, .int (oI v1))]) (hf : f_X10_numeral_b41 v1 σ = some q) : W p l e (rmk 7 149) s m args below meth c H locs 0 0 Q (F0 m 41 ls []) := by
  unfold f_X10_numeral_b41 at hf
  refine lv_aload_n C.1 C.2.1 dX10_numeral_41 rfl (lv_at hl 0 rfl) ?_
  refine r_iconst C dX10_numeral_42 ?_
  obtain ⟨q1, hc2, hf⟩ := bd_o hf
  refine r_callVn C S (As := [.int (oI 2)]) (rest := []) (ct_X10_wrong l G τ hc2) mi_X10_wrong tw_1232 mv_X10_wrong (rvX10 S) ⟨rfl, rfl⟩ ⟨Nat.le_of_ble_eq_true rfl, Nat.le_of_ble_eq_true rfl⟩ ⟨Nat.zero_le _, Nat.zero_le _⟩ rfl hl.1 rfl (Nat.le_of_ble_eq_true rfl) dX10_numeral_43 (fun H locs S => ?_)
  exact b_X10_numeral_b46 C hend v1 S (lv_sub hl [0, 1] rfl) hf
set_option maxRecDepth 100000 in
set_option maxHeartbeats 4000000 in
theorem ct_X10_numeral (l : Launch) (G : Gd) (τ : Sg) {v1 : Int} {v2 : Int} {σ : Sg} {q : Int × Sg} (hf : f_X10_numeral v1 v2 σ = some q) : Ctr l yX10_numeral cX10_numeral 4 (some .int) (rmk 7 149) G false τ [.ref (G.1 41), .int (oI v1), .int (oI v2)] σ q.2 (some (.int (oI q.1))) := by
  unfold f_X10_numeral at hf
  refine CtrI.of (own := RX10) (plainFor_of_name (by decide)) (Nat.le_of_ble_eq_true rfl) rfl (fun p e s m below meth c Q ls C hl S hend => ?_)
  have hl : lv_has ls 4 [(0, .ref (G.1 41)), (1, .int (oI v1)), (2, .int (oI v2))] := hl
  refine lv_aload_n C.1 C.2.1 dX10_numeral_0 rfl (lv_at hl 0 rfl) ?_
  refine g10_fault C S tw_1074 dX10_numeral_1 ?_
  refine r_if_eq C rfl (tgt := 9) dX10_numeral_4 (by decide) (fun h11 => ?_) (fun h11 => ?_)
  · replace hf := if_t hf h11
    refine lv_aload_n C.1 C.2.1 dX10_numeral_9 rfl (lv_at hl 0 rfl) ?_
    refine g10_sort C S tw_1072 dX10_numeral_10 ?_
    refine r_iconst C dX10_numeral_13 ?_
    refine r_icmp_eq C rfl (show w32 1 = 1 by decide) (tgt := 25) dX10_numeral_14 (by decide) (fun h10 => ?_) (fun h10 => ?_)
    · replace hf := if_t hf h10
      refine lv_aload_n C.1 C.2.1 dX10_numeral_25 rfl (lv_at hl 0 rfl) ?_
      refine g10_value C S tw_1073 dX10_numeral_26 ?_
      refine lv_iload_n C.1 C.2.1 dX10_numeral_29 rfl (lv_at hl 1 rfl) ?_
      refine r_icmp_lt C rfl rfl (tgt := 41) dX10_numeral_30 (by decide) (fun h7 => ?_) (fun h7 => ?_)
      · replace hf := if_t hf h7
        exact b_X10_numeral_b41 C hend v1 S (lv_sub hl [0, 1] rfl) hf
      · replace hf := if_f hf h7
        refine lv_aload_n C.1 C.2.1 dX10_numeral_33 rfl (lv_at hl 0 rfl) ?_
        refine g10_value C S tw_1073 dX10_numeral_34 ?_
        refine lv_iload_n C.1 C.2.1 dX10_numeral_37 rfl (lv_at hl 2 rfl) ?_
        refine r_icmp_le C rfl rfl (tgt := 46) dX10_numeral_38 (by decide) (fun h6 => ?_) (fun h6 => ?_)
        · replace hf := if_t hf h6
          exact b_X10_numeral_b46 C hend v1 S (lv_sub hl [0, 1] rfl) hf
        · replace hf := if_f hf h6
          exact b_X10_numeral_b41 C hend v1 S (lv_sub hl [0, 1] rfl) hf
    · replace hf := if_f hf h10
      refine lv_aload_n C.1 C.2.1 dX10_numeral_17 rfl (lv_at hl 0 rfl) ?_
      refine r_iconst C dX10_numeral_18 ?_
      obtain ⟨q8, hc9, hf⟩ := bd_o hf
      refine r_callVn C S (As := [.int (oI 1)]) (rest := []) (ct_X10_wrong l G τ hc9) mi_X10_wrong tw_1232 mv_X10_wrong (rvX10 S) ⟨rfl, rfl⟩ ⟨Nat.le_of_ble_eq_true rfl, Nat.le_of_ble_eq_true rfl⟩ ⟨Nat.zero_le _, Nat.zero_le _⟩ rfl hl.1 rfl (Nat.le_of_ble_eq_true rfl) dX10_numeral_19 (fun H locs S => ?_)
      refine lv_goto C.1 C.2.1 (tgt := 46) dX10_numeral_22 (by decide) ?_
      exact b_X10_numeral_b46 C hend v1 S (lv_sub hl [0, 1] rfl) hf
  · replace hf := if_f hf h11
    refine lv_iload_n C.1 C.2.1 dX10_numeral_7 rfl (lv_at hl 1 rfl) ?_
    cases hf
    exact hend _ _ _ _ S dX10_numeral_8
set_option maxRecDepth 100000 in
set_option maxHeartbeats 4000000 in
theorem b_X10_readOne_b14 (C : Cx p s m args c RX10 cX10_readOne 6) {q : Sg} (hend : EndR p l e (rmk 8 172) s m args below meth c Q G false τ cX10_readOne .return_ [] q) {H : Heap} {locs : List Loc} {ls : Array Slot} {σ : Sg} (S : St G false τ σ s H locs) (hl : lv_has ls 6 [(0, .ref (G.1 41))]) (hf : f_X10_readOne_b14 σ = some q) : W p l e (rmk 8 172) s m args below meth c H locs 0 0 Q (F0 m 14 ls []) := by
  unfold f_X10_readOne_b14 at hf
  refine lv_aload_n C.1 C.2.1 dX10_readOne_14 rfl (lv_at hl 0 rfl) ?_
  obtain ⟨q3, hc4, hf⟩ := bd_o hf
  refine r_callVn C S (As := []) (rest := []) (ct_X10_goOn l G τ hc4) mi_X10_goOn tw_1240 mv_X10_goOn (rvX10 S) ⟨rfl, rfl⟩ ⟨Nat.le_of_ble_eq_true rfl, Nat.le_of_ble_eq_true rfl⟩ ⟨Nat.zero_le _, Nat.zero_le _⟩ rfl hl.1 rfl (Nat.le_of_ble_eq_true rfl) dX10_readOne_15 (fun H locs S => ?_)
  refine lv_aload_n C.1 C.2.1 dX10_readOne_18 rfl (lv_at hl 0 rfl) ?_
  refine r_iconst C dX10_readOne_19 ?_
  refine r_sipush C dX10_readOne_20 (by decide) ?_
  obtain ⟨q5, hc6, hf⟩ := bd_o hf
  refine r_callVv C S (As := [.int (oI 0), .int (oI 299)]) (rest := []) (ct_X10_numeral l G τ hc6) mi_X10_numeral tw_1244 mv_X10_numeral (rvX10 S) ⟨rfl, rfl⟩ ⟨Nat.le_of_ble_eq_true rfl, Nat.le_of_ble_eq_true rfl⟩ ⟨Nat.zero_le _, Nat.zero_le _⟩ rfl hl.1 rfl (Nat.le_of_ble_eq_true rfl) dX10_readOne_23 (fun H locs S => ?_)
  refine lv_istore_n C.1 C.2.1 dX10_readOne_26 rfl hl (by decide) (lv' := [(1, .int (oI q5.1)), (0, .ref (G.1 41))]) rfl (fun ls hl => ?_)
  refine lv_aload_n C.1 C.2.1 dX10_readOne_27 rfl (lv_at hl 1 rfl) ?_
  refine r_iconst C dX10_readOne_28 ?_
  refine r_sipush C dX10_readOne_29 (by decide) ?_
  obtain ⟨q7, hc8, hf⟩ := bd_o hf
  refine r_callVv C S (As := [.int (oI 0), .int (oI 299)]) (rest := []) (ct_X10_numeral l G τ hc8) mi_X10_numeral tw_1244 mv_X10_numeral (rvX10 S) ⟨rfl, rfl⟩ ⟨Nat.le_of_ble_eq_true rfl, Nat.le_of_ble_eq_true rfl⟩ ⟨Nat.zero_le _, Nat.zero_le _⟩ rfl hl.1 rfl (Nat.le_of_ble_eq_true rfl) dX10_readOne_32 (fun H locs S => ?_)
  refine lv_istore_n C.1 C.2.1 dX10_readOne_35 rfl hl (by decide) (lv' := [(2, .int (oI q7.1)), (1, .int (oI q5.1)), (0, .ref (G.1 41))]) rfl (fun ls hl => ?_)
  refine lv_aload_n C.1 C.2.1 dX10_readOne_36 rfl (lv_at hl 2 rfl) ?_
  refine r_iconst C dX10_readOne_37 ?_
  refine r_ldc C tw_1248 dX10_readOne_38 ?_
  obtain ⟨q9, hc10, hf⟩ := bd_o hf
  refine r_callVv C S (As := [.int (oI 1), .int (oI 99999)]) (rest := []) (ct_X10_numeral l G τ hc10) mi_X10_numeral tw_1244 mv_X10_numeral (rvX10 S) ⟨rfl, rfl⟩ ⟨Nat.le_of_ble_eq_true rfl, Nat.le_of_ble_eq_true rfl⟩ ⟨Nat.zero_le _, Nat.zero_le _⟩ rfl hl.1 rfl (Nat.le_of_ble_eq_true rfl) dX10_readOne_40 (fun H locs S => ?_)
  refine lv_istore_n C.1 C.2.1 dX10_readOne_43 rfl hl (by decide) (lv' := [(3, .int (oI q9.1)), (2, .int (oI q7.1)), (1, .int (oI q5.1)), (0, .ref (G.1 41))]) rfl (fun ls hl => ?_)
  refine lv_aload_n C.1 C.2.1 dX10_readOne_44 rfl (lv_at hl 3 rfl) ?_
  refine r_iconst C dX10_readOne_45 ?_
  refine r_iconst C dX10_readOne_46 ?_
  obtain ⟨q11, hc12, hf⟩ := bd_o hf
  refine r_callVv C S (As := [.int (oI 0), .int (oI 3)]) (rest := []) (ct_X10_numeral l G τ hc12) mi_X10_numeral tw_1244 mv_X10_numeral (rvX10 S) ⟨rfl, rfl⟩ ⟨Nat.le_of_ble_eq_true rfl, Nat.le_of_ble_eq_true rfl⟩ ⟨Nat.zero_le _, Nat.zero_le _⟩ rfl hl.1 rfl (Nat.le_of_ble_eq_true rfl) dX10_readOne_47 (fun H locs S => ?_)
  refine lv_istore C.1 C.2.1 dX10_readOne_50 hl (by decide) (lv' := [(4, .int (oI q11.1)), (3, .int (oI q9.1)), (2, .int (oI q7.1)), (1, .int (oI q5.1)), (0, .ref (G.1 41))]) rfl (fun ls hl => ?_)
  refine lv_aload_n C.1 C.2.1 dX10_readOne_52 rfl (lv_at hl 4 rfl) ?_
  refine g10_fault C S tw_1074 dX10_readOne_53 ?_
  refine r_if_eq C rfl (tgt := 60) dX10_readOne_56 (by decide) (fun h22 => ?_) (fun h22 => ?_)
  · replace hf := if_t hf h22
    refine r_iconst C dX10_readOne_60 ?_
    refine lv_aload_n C.1 C.2.1 dX10_readOne_61 rfl (lv_at hl 4 rfl) ?_
    refine g10_readPolicies C S tw_1066 dX10_readOne_62 ?_
    refine r_imul C dX10_readOne_65 ?_
    refine lv_istore C.1 C.2.1 dX10_readOne_66 hl (by decide) (lv' := [(5, .int (oI (4 * (q11.2 41 5)))), (4, .int (oI q11.1)), (3, .int (oI q9.1)), (2, .int (oI q7.1)), (1, .int (oI q5.1)), (0, .ref (G.1 41))]) rfl (fun ls hl => ?_)
    refine lv_aload_n C.1 C.2.1 dX10_readOne_68 rfl (lv_at hl 5 rfl) ?_
    refine g10_readPolicy C S tw_1064 dX10_readOne_69 ?_
    refine lv_iload C.1 C.2.1 dX10_readOne_72 (lv_at hl 0 rfl) ?_
    refine lv_iload_n C.1 C.2.1 dX10_readOne_74 rfl (lv_at hl 4 rfl) ?_
    obtain ⟨hi13, hf⟩ := ck_o hf
    refine a_iast C S ar_43 hi13 dX10_readOne_75 (fun H locs S => ?_)
    obtain ⟨σ14, S, hf⟩ := wr_s S hf
    refine lv_aload_n C.1 C.2.1 dX10_readOne_76 rfl (lv_at hl 5 rfl) ?_
    refine g10_readPolicy C S tw_1064 dX10_readOne_77 ?_
    refine lv_iload C.1 C.2.1 dX10_readOne_80 (lv_at hl 0 rfl) ?_
    refine r_iconst C dX10_readOne_82 ?_
    refine r_iadd C dX10_readOne_83 ?_
    refine lv_iload_n C.1 C.2.1 dX10_readOne_84 rfl (lv_at hl 3 rfl) ?_
    obtain ⟨hi15, hf⟩ := ck_o hf
    refine a_iast C S ar_43 hi15 dX10_readOne_85 (fun H locs S => ?_)
    obtain ⟨σ16, S, hf⟩ := wr_s S hf
    refine lv_aload_n C.1 C.2.1 dX10_readOne_86 rfl (lv_at hl 5 rfl) ?_
    refine g10_readPolicy C S tw_1064 dX10_readOne_87 ?_
    refine lv_iload C.1 C.2.1 dX10_readOne_90 (lv_at hl 0 rfl) ?_
    refine r_iconst C dX10_readOne_92 ?_
    refine r_iadd C dX10_readOne_93 ?_
    refine lv_iload_n C.1 C.2.1 dX10_readOne_94 rfl (lv_at hl 2 rfl) ?_
    obtain ⟨hi17, hf⟩ := ck_o hf
    refine a_iast C S ar_43 hi17 dX10_readOne_95 (fun H locs S => ?_)
    obtain ⟨σ18, S, hf⟩ := wr_s S hf
    refine lv_aload_n C.1 C.2.1 dX10_readOne_96 rfl (lv_at hl 5 rfl) ?_
    refine g10_readPolicy C S tw_1064 dX10_readOne_97 ?_
    refine lv_iload C.1 C.2.1 dX10_readOne_100 (lv_at hl 0 rfl) ?_
    refine r_iconst C dX10_readOne_102 ?_
    refine r_iadd C dX10_readOne_103 ?_
    refine lv_iload C.1 C.2.1 dX10_readOne_104 (lv_at hl 1 rfl) ?_
    obtain ⟨hi19, hf⟩ := ck_o hf
    refine a_iast C S ar_43 hi19 dX10_readOne_106 (fun H locs S => ?_)
    obtain ⟨σ20, S, hf⟩ := wr_s S hf
    refine lv_aload_n C.1 C.2.1 dX10_readOne_107 rfl (lv_at hl 5 rfl) ?_
    refine lv_dup C.1 C.2.1 dX10_readOne_108 rfl ?_
    refine g10_readPolicies C S tw_1066 dX10_readOne_109 ?_
    refine r_iconst C dX10_readOne_112 ?_
    refine r_iadd C dX10_readOne_113 ?_
    refine p10_readPolicies C S tw_1066 dX10_readOne_114 (fun H locs S => ?_)
    obtain ⟨σ21, S, hf⟩ := wr_s S hf
    cases hf
    exact hend _ _ _ _ S dX10_readOne_117
  · replace hf := if_f hf h22
    cases hf
    exact hend _ _ _ _ S dX10_readOne_59
set_option maxRecDepth 100000 in
set_option maxHeartbeats 4000000 in
theorem ct_X10_readOne (l : Launch) (G : Gd) (τ : Sg) {σ : Sg} {q : Sg} (hf : f_X10_readOne σ = some q) : Ctr l yX10_readOne cX10_readOne 6 none (rmk 8 172) G false τ [.ref (G.1 41)] σ q none := by
  unfold f_X10_readOne at hf
  refine CtrV.of (own := RX10) (plainFor_of_name (by decide)) (Nat.le_of_ble_eq_true rfl) rfl (fun p e s m below meth c Q ls C hl S hend => ?_)
  have hl : lv_has ls 6 [(0, .ref (G.1 41))] := hl
  refine lv_aload_n C.1 C.2.1 dX10_readOne_0 rfl (lv_at hl 0 rfl) ?_
  refine g10_readPolicies C S tw_1066 dX10_readOne_1 ?_
  refine r_bipush C dX10_readOne_4 (by decide) ?_
  refine r_icmp_ne C rfl (show w32 24 = 24 by decide) (tgt := 14) dX10_readOne_6 (by decide) (fun h23 => ?_) (fun h23 => ?_)
  · replace hf := if_t hf h23
    refine lv_aload_n C.1 C.2.1 dX10_readOne_9 rfl (lv_at hl 0 rfl) ?_
    refine r_iconst C dX10_readOne_10 ?_
    obtain ⟨q1, hc2, hf⟩ := bd_o hf
    refine r_callVn C S (As := [.int (oI 2)]) (rest := []) (ct_X10_wrong l G τ hc2) mi_X10_wrong tw_1232 mv_X10_wrong (rvX10 S) ⟨rfl, rfl⟩ ⟨Nat.le_of_ble_eq_true rfl, Nat.le_of_ble_eq_true rfl⟩ ⟨Nat.zero_le _, Nat.zero_le _⟩ rfl hl.1 rfl (Nat.le_of_ble_eq_true rfl) dX10_readOne_11 (fun H locs S => ?_)
    exact b_X10_readOne_b14 C hend S (lv_sub hl [0] rfl) hf
  · replace hf := if_f hf h23
    exact b_X10_readOne_b14 C hend S (lv_sub hl [0] rfl) hf
set_option maxRecDepth 100000 in
set_option maxHeartbeats 4000000 in
theorem b_X10_readOther_b14 (C : Cx p s m args c RX10 cX10_readOther 5) {q : Sg} (hend : EndR p l e (rmk 8 172) s m args below meth c Q G false τ cX10_readOther .return_ [] q) {H : Heap} {locs : List Loc} {ls : Array Slot} {σ : Sg} (S : St G false τ σ s H locs) (hl : lv_has ls 5 [(0, .ref (G.1 41))]) (hf : f_X10_readOther_b14 σ = some q) : W p l e (rmk 8 172) s m args below meth c H locs 0 0 Q (F0 m 14 ls []) := by
  unfold f_X10_readOther_b14 at hf
  refine lv_aload_n C.1 C.2.1 dX10_readOther_14 rfl (lv_at hl 0 rfl) ?_
  obtain ⟨q3, hc4, hf⟩ := bd_o hf
  refine r_callVn C S (As := []) (rest := []) (ct_X10_goOn l G τ hc4) mi_X10_goOn tw_1240 mv_X10_goOn (rvX10 S) ⟨rfl, rfl⟩ ⟨Nat.le_of_ble_eq_true rfl, Nat.le_of_ble_eq_true rfl⟩ ⟨Nat.zero_le _, Nat.zero_le _⟩ rfl hl.1 rfl (Nat.le_of_ble_eq_true rfl) dX10_readOther_15 (fun H locs S => ?_)
  refine lv_aload_n C.1 C.2.1 dX10_readOther_18 rfl (lv_at hl 0 rfl) ?_
  refine r_iconst C dX10_readOther_19 ?_
  refine r_bipush C dX10_readOther_20 (by decide) ?_
  obtain ⟨q5, hc6, hf⟩ := bd_o hf
  refine r_callVv C S (As := [.int (oI 1), .int (oI 15)]) (rest := []) (ct_X10_numeral l G τ hc6) mi_X10_numeral tw_1244 mv_X10_numeral (rvX10 S) ⟨rfl, rfl⟩ ⟨Nat.le_of_ble_eq_true rfl, Nat.le_of_ble_eq_true rfl⟩ ⟨Nat.zero_le _, Nat.zero_le _⟩ rfl hl.1 rfl (Nat.le_of_ble_eq_true rfl) dX10_readOther_22 (fun H locs S => ?_)
  refine lv_istore_n C.1 C.2.1 dX10_readOther_25 rfl hl (by decide) (lv' := [(1, .int (oI q5.1)), (0, .ref (G.1 41))]) rfl (fun ls hl => ?_)
  refine lv_aload_n C.1 C.2.1 dX10_readOther_26 rfl (lv_at hl 1 rfl) ?_
  refine r_iconst C dX10_readOther_27 ?_
  refine r_sipush C dX10_readOther_28 (by decide) ?_
  obtain ⟨q7, hc8, hf⟩ := bd_o hf
  refine r_callVv C S (As := [.int (oI 1), .int (oI 300)]) (rest := []) (ct_X10_numeral l G τ hc8) mi_X10_numeral tw_1244 mv_X10_numeral (rvX10 S) ⟨rfl, rfl⟩ ⟨Nat.le_of_ble_eq_true rfl, Nat.le_of_ble_eq_true rfl⟩ ⟨Nat.zero_le _, Nat.zero_le _⟩ rfl hl.1 rfl (Nat.le_of_ble_eq_true rfl) dX10_readOther_31 (fun H locs S => ?_)
  refine lv_istore_n C.1 C.2.1 dX10_readOther_34 rfl hl (by decide) (lv' := [(2, .int (oI q7.1)), (1, .int (oI q5.1)), (0, .ref (G.1 41))]) rfl (fun ls hl => ?_)
  refine lv_aload_n C.1 C.2.1 dX10_readOther_35 rfl (lv_at hl 2 rfl) ?_
  refine r_iconst C dX10_readOther_36 ?_
  refine r_ldc C tw_1227 dX10_readOther_37 ?_
  obtain ⟨q9, hc10, hf⟩ := bd_o hf
  refine r_callVv C S (As := [.int (oI 1), .int (oI 9999999)]) (rest := []) (ct_X10_numeral l G τ hc10) mi_X10_numeral tw_1244 mv_X10_numeral (rvX10 S) ⟨rfl, rfl⟩ ⟨Nat.le_of_ble_eq_true rfl, Nat.le_of_ble_eq_true rfl⟩ ⟨Nat.zero_le _, Nat.zero_le _⟩ rfl hl.1 rfl (Nat.le_of_ble_eq_true rfl) dX10_readOther_39 (fun H locs S => ?_)
  refine lv_istore_n C.1 C.2.1 dX10_readOther_42 rfl hl (by decide) (lv' := [(3, .int (oI q9.1)), (2, .int (oI q7.1)), (1, .int (oI q5.1)), (0, .ref (G.1 41))]) rfl (fun ls hl => ?_)
  refine lv_aload_n C.1 C.2.1 dX10_readOther_43 rfl (lv_at hl 3 rfl) ?_
  refine g10_fault C S tw_1074 dX10_readOther_44 ?_
  refine r_if_eq C rfl (tgt := 51) dX10_readOther_47 (by decide) (fun h18 => ?_) (fun h18 => ?_)
  · replace hf := if_t hf h18
    refine r_iconst C dX10_readOther_51 ?_
    refine lv_aload_n C.1 C.2.1 dX10_readOther_52 rfl (lv_at hl 3 rfl) ?_
    refine g10_readTreaties C S tw_1067 dX10_readOther_53 ?_
    refine r_imul C dX10_readOther_56 ?_
    refine lv_istore C.1 C.2.1 dX10_readOther_57 hl (by decide) (lv' := [(4, .int (oI (3 * (q9.2 41 6)))), (3, .int (oI q9.1)), (2, .int (oI q7.1)), (1, .int (oI q5.1)), (0, .ref (G.1 41))]) rfl (fun ls hl => ?_)
    refine lv_aload_n C.1 C.2.1 dX10_readOther_59 rfl (lv_at hl 4 rfl) ?_
    refine g10_readTreaty C S tw_1065 dX10_readOther_60 ?_
    refine lv_iload C.1 C.2.1 dX10_readOther_63 (lv_at hl 0 rfl) ?_
    refine lv_iload_n C.1 C.2.1 dX10_readOther_65 rfl (lv_at hl 3 rfl) ?_
    obtain ⟨hi11, hf⟩ := ck_o hf
    refine a_iast C S ar_44 hi11 dX10_readOther_66 (fun H locs S => ?_)
    obtain ⟨σ12, S, hf⟩ := wr_s S hf
    refine lv_aload_n C.1 C.2.1 dX10_readOther_67 rfl (lv_at hl 4 rfl) ?_
    refine g10_readTreaty C S tw_1065 dX10_readOther_68 ?_
    refine lv_iload C.1 C.2.1 dX10_readOther_71 (lv_at hl 0 rfl) ?_
    refine r_iconst C dX10_readOther_73 ?_
    refine r_iadd C dX10_readOther_74 ?_
    refine lv_iload_n C.1 C.2.1 dX10_readOther_75 rfl (lv_at hl 2 rfl) ?_
    obtain ⟨hi13, hf⟩ := ck_o hf
    refine a_iast C S ar_44 hi13 dX10_readOther_76 (fun H locs S => ?_)
    obtain ⟨σ14, S, hf⟩ := wr_s S hf
    refine lv_aload_n C.1 C.2.1 dX10_readOther_77 rfl (lv_at hl 4 rfl) ?_
    refine g10_readTreaty C S tw_1065 dX10_readOther_78 ?_
    refine lv_iload C.1 C.2.1 dX10_readOther_81 (lv_at hl 0 rfl) ?_
    refine r_iconst C dX10_readOther_83 ?_
    refine r_iadd C dX10_readOther_84 ?_
    refine lv_iload_n C.1 C.2.1 dX10_readOther_85 rfl (lv_at hl 1 rfl) ?_
    obtain ⟨hi15, hf⟩ := ck_o hf
    refine a_iast C S ar_44 hi15 dX10_readOther_86 (fun H locs S => ?_)
    obtain ⟨σ16, S, hf⟩ := wr_s S hf
    refine lv_aload_n C.1 C.2.1 dX10_readOther_87 rfl (lv_at hl 4 rfl) ?_
    refine lv_dup C.1 C.2.1 dX10_readOther_88 rfl ?_
    refine g10_readTreaties C S tw_1067 dX10_readOther_89 ?_
    refine r_iconst C dX10_readOther_92 ?_
    refine r_iadd C dX10_readOther_93 ?_
    refine p10_readTreaties C S tw_1067 dX10_readOther_94 (fun H locs S => ?_)
    obtain ⟨σ17, S, hf⟩ := wr_s S hf
    cases hf
    exact hend _ _ _ _ S dX10_readOther_97
  · replace hf := if_f hf h18
    cases hf
    exact hend _ _ _ _ S dX10_readOther_50
set_option maxRecDepth 100000 in
set_option maxHeartbeats 4000000 in
theorem ct_X10_readOther (l : Launch) (G : Gd) (τ : Sg) {σ : Sg} {q : Sg} (hf : f_X10_readOther σ = some q) : Ctr l yX10_readOther cX10_readOther 5 none (rmk 8 172) G false τ [.ref (G.1 41)] σ q none := by
  unfold f_X10_readOther at hf
  refine CtrV.of (own := RX10) (plainFor_of_name (by decide)) (Nat.le_of_ble_eq_true rfl) rfl (fun p e s m below meth c Q ls C hl S hend => ?_)
  have hl : lv_has ls 5 [(0, .ref (G.1 41))] := hl
  refine lv_aload_n C.1 C.2.1 dX10_readOther_0 rfl (lv_at hl 0 rfl) ?_
  refine g10_readTreaties C S tw_1067 dX10_readOther_1 ?_
  refine r_bipush C dX10_readOther_4 (by decide) ?_
  refine r_icmp_ne C rfl (show w32 6 = 6 by decide) (tgt := 14) dX10_readOther_6 (by decide) (fun h19 => ?_) (fun h19 => ?_)
  · replace hf := if_t hf h19
    refine lv_aload_n C.1 C.2.1 dX10_readOther_9 rfl (lv_at hl 0 rfl) ?_
    refine r_iconst C dX10_readOther_10 ?_
    obtain ⟨q1, hc2, hf⟩ := bd_o hf
    refine r_callVn C S (As := [.int (oI 2)]) (rest := []) (ct_X10_wrong l G τ hc2) mi_X10_wrong tw_1232 mv_X10_wrong (rvX10 S) ⟨rfl, rfl⟩ ⟨Nat.le_of_ble_eq_true rfl, Nat.le_of_ble_eq_true rfl⟩ ⟨Nat.zero_le _, Nat.zero_le _⟩ rfl hl.1 rfl (Nat.le_of_ble_eq_true rfl) dX10_readOther_11 (fun H locs S => ?_)
    exact b_X10_readOther_b14 C hend S (lv_sub hl [0] rfl) hf
  · replace hf := if_f hf h19
    exact b_X10_readOther_b14 C hend S (lv_sub hl [0] rfl) hf
set_option maxRecDepth 100000 in
set_option maxHeartbeats 4000000 in
theorem b_X10_readLine_b53 (C : Cx p s m args c RX10 cX10_readLine 1) {q : Sg} (hend : EndR p l e (rmk 9 197) s m args below meth c Q G false τ cX10_readLine .return_ [] q) {H : Heap} {locs : List Loc} {ls : Array Slot} {σ : Sg} (S : St G false τ σ s H locs) (hl : lv_has ls 1 [(0, .ref (G.1 41))]) (hf : f_X10_readLine_b53 σ = some q) : W p l e (rmk 9 197) s m args below meth c H locs 0 0 Q (F0 m 53 ls []) := by
  unfold f_X10_readLine_b53 at hf
  refine lv_aload_n C.1 C.2.1 dX10_readLine_53 rfl (lv_at hl 0 rfl) ?_
  obtain ⟨q3, hc4, hf⟩ := bd_o hf
  refine r_callVn C S (As := []) (rest := []) (ct_X10_goOn l G τ hc4) mi_X10_goOn tw_1240 mv_X10_goOn (rvX10 S) ⟨rfl, rfl⟩ ⟨Nat.le_of_ble_eq_true rfl, Nat.le_of_ble_eq_true rfl⟩ ⟨Nat.zero_le _, Nat.zero_le _⟩ rfl hl.1 rfl (Nat.le_of_ble_eq_true rfl) dX10_readLine_54 (fun H locs S => ?_)
  refine lv_aload_n C.1 C.2.1 dX10_readLine_57 rfl (lv_at hl 0 rfl) ?_
  refine lv_dup C.1 C.2.1 dX10_readLine_58 rfl ?_
  refine g10_lines C S tw_1068 dX10_readLine_59 ?_
  refine r_iconst C dX10_readLine_62 ?_
  refine r_iadd C dX10_readLine_63 ?_
  refine p10_lines C S tw_1068 dX10_readLine_64 (fun H locs S => ?_)
  obtain ⟨σ5, S, hf⟩ := wr_s S hf
  cases hf
  exact hend _ _ _ _ S dX10_readLine_67
set_option maxRecDepth 100000 in
set_option maxHeartbeats 4000000 in
theorem b_X10_readLine_b33 (C : Cx p s m args c RX10 cX10_readLine 1) {q : Sg} (hend : EndR p l e (rmk 9 197) s m args below meth c Q G false τ cX10_readLine .return_ [] q) {H : Heap} {locs : List Loc} {ls : Array Slot} {σ : Sg} (S : St G false τ σ s H locs) (hl : lv_has ls 1 [(0, .ref (G.1 41))]) (hf : f_X10_readLine_b33 σ = some q) : W p l e (rmk 9 197) s m args below meth c H locs 0 0 Q (F0 m 33 ls []) := by
  unfold f_X10_readLine_b33 at hf
  refine lv_aload_n C.1 C.2.1 dX10_readLine_33 rfl (lv_at hl 0 rfl) ?_
  refine g10_fault C S tw_1074 dX10_readLine_34 ?_
  refine r_if_ne C rfl (tgt := 53) dX10_readLine_37 (by decide) (fun h9 => ?_) (fun h9 => ?_)
  · replace hf := if_t hf h9
    refine lv_aload_n C.1 C.2.1 dX10_readLine_40 rfl (lv_at hl 0 rfl) ?_
    refine g10_sort C S tw_1072 dX10_readLine_41 ?_
    refine r_iconst C dX10_readLine_44 ?_
    refine r_icmp_eq C rfl (show w32 2 = 2 by decide) (tgt := 53) dX10_readLine_45 (by decide) (fun h8 => ?_) (fun h8 => ?_)
    · replace hf := if_t hf h8
      exact b_X10_readLine_b53 C hend S (lv_sub hl [0] rfl) hf
    · replace hf := if_f hf h8
      refine lv_aload_n C.1 C.2.1 dX10_readLine_48 rfl (lv_at hl 0 rfl) ?_
      refine r_iconst C dX10_readLine_49 ?_
      obtain ⟨q6, hc7, hf⟩ := bd_o hf
      refine r_callVn C S (As := [.int (oI 1)]) (rest := []) (ct_X10_wrong l G τ hc7) mi_X10_wrong tw_1232 mv_X10_wrong (rvX10 S) ⟨rfl, rfl⟩ ⟨Nat.le_of_ble_eq_true rfl, Nat.le_of_ble_eq_true rfl⟩ ⟨Nat.zero_le _, Nat.zero_le _⟩ rfl hl.1 rfl (Nat.le_of_ble_eq_true rfl) dX10_readLine_50 (fun H locs S => ?_)
      exact b_X10_readLine_b53 C hend S (lv_sub hl [0] rfl) hf
  · replace hf := if_f hf h9
    exact b_X10_readLine_b53 C hend S (lv_sub hl [0] rfl) hf
set_option maxRecDepth 100000 in
set_option maxHeartbeats 4000000 in
theorem ct_X10_readLine (l : Launch) (G : Gd) (τ : Sg) {σ : Sg} {q : Sg} (hf : f_X10_readLine σ = some q) : Ctr l yX10_readLine cX10_readLine 1 none (rmk 9 197) G false τ [.ref (G.1 41)] σ q none := by
  unfold f_X10_readLine at hf
  refine CtrV.of (own := RX10) (plainFor_of_name (by decide)) (Nat.le_of_ble_eq_true rfl) rfl (fun p e s m below meth c Q ls C hl S hend => ?_)
  have hl : lv_has ls 1 [(0, .ref (G.1 41))] := hl
  refine lv_aload_n C.1 C.2.1 dX10_readLine_0 rfl (lv_at hl 0 rfl) ?_
  refine g10_sort C S tw_1072 dX10_readLine_1 ?_
  refine r_if_eq C rfl (tgt := 15) dX10_readLine_4 (by decide) (fun h15 => ?_) (fun h15 => ?_)
  · replace hf := if_t hf h15
    refine lv_aload_n C.1 C.2.1 dX10_readLine_15 rfl (lv_at hl 0 rfl) ?_
    refine g10_value C S tw_1073 dX10_readLine_16 ?_
    refine r_if_ne C rfl (tgt := 29) dX10_readLine_19 (by decide) (fun h12 => ?_) (fun h12 => ?_)
    · replace hf := if_t hf h12
      refine lv_aload_n C.1 C.2.1 dX10_readLine_22 rfl (lv_at hl 0 rfl) ?_
      obtain ⟨q1, hc2, hf⟩ := bd_o hf
      refine r_callVn C S (As := []) (rest := []) (ct_X10_readOne l G τ hc2) mi_X10_readOne tw_1236 mv_X10_readOne (rvX10 S) ⟨rfl, rfl⟩ ⟨Nat.le_of_ble_eq_true rfl, Nat.le_of_ble_eq_true rfl⟩ ⟨Nat.zero_le _, Nat.zero_le _⟩ rfl hl.1 rfl (Nat.le_of_ble_eq_true rfl) dX10_readLine_23 (fun H locs S => ?_)
      refine lv_goto C.1 C.2.1 (tgt := 33) dX10_readLine_26 (by decide) ?_
      exact b_X10_readLine_b33 C hend S (lv_sub hl [0] rfl) hf
    · replace hf := if_f hf h12
      refine lv_aload_n C.1 C.2.1 dX10_readLine_29 rfl (lv_at hl 0 rfl) ?_
      obtain ⟨q10, hc11, hf⟩ := bd_o hf
      refine r_callVn C S (As := []) (rest := []) (ct_X10_readOther l G τ hc11) mi_X10_readOther tw_1249 mv_X10_readOther (rvX10 S) ⟨rfl, rfl⟩ ⟨Nat.le_of_ble_eq_true rfl, Nat.le_of_ble_eq_true rfl⟩ ⟨Nat.zero_le _, Nat.zero_le _⟩ rfl hl.1 rfl (Nat.le_of_ble_eq_true rfl) dX10_readLine_30 (fun H locs S => ?_)
      exact b_X10_readLine_b33 C hend S (lv_sub hl [0] rfl) hf
  · replace hf := if_f hf h15
    refine lv_aload_n C.1 C.2.1 dX10_readLine_7 rfl (lv_at hl 0 rfl) ?_
    refine r_iconst C dX10_readLine_8 ?_
    obtain ⟨q13, hc14, hf⟩ := bd_o hf
    refine r_callVn C S (As := [.int (oI 1)]) (rest := []) (ct_X10_wrong l G τ hc14) mi_X10_wrong tw_1232 mv_X10_wrong (rvX10 S) ⟨rfl, rfl⟩ ⟨Nat.le_of_ble_eq_true rfl, Nat.le_of_ble_eq_true rfl⟩ ⟨Nat.zero_le _, Nat.zero_le _⟩ rfl hl.1 rfl (Nat.le_of_ble_eq_true rfl) dX10_readLine_9 (fun H locs S => ?_)
    refine lv_goto C.1 C.2.1 (tgt := 33) dX10_readLine_12 (by decide) ?_
    exact b_X10_readLine_b33 C hend S (lv_sub hl [0] rfl) hf
set_option maxRecDepth 100000 in
set_option maxHeartbeats 4000000 in
theorem b_X10_readText_b34 (C : Cx p s m args c RX10 cX10_readText 2) {q : Sg} (hend : EndR p l e (rmk 10 217) s m args below meth c Q G false τ cX10_readText .return_ [] q) : ∀ (n : Nat) {H : Heap} {locs : List Loc} {ls : Array Slot} {σ : Sg} (S : St G false τ σ s H locs) (hl : lv_has ls 2 [(0, .ref (G.1 41))]) (hf : f_X10_readText_b34 n σ = some q), W p l e (rmk 10 217) s m args below meth c H locs 0 0 Q (F0 m 34 ls []) := by
  intro n
  induction n with
  | zero => intro H locs ls σ  S hl hf; cases hf
  | succ n ih =>
    intro H locs ls σ  S hl hf
    have hk34 := @ih
    rw [f_X10_readText_b34] at hf
    refine lv_aload_n C.1 C.2.1 dX10_readText_34 rfl (lv_at hl 0 rfl) ?_
    refine g10_fault C S tw_1074 dX10_readText_35 ?_
    refine r_if_ne C rfl (tgt := 56) dX10_readText_38 (by decide) (fun h12 => ?_) (fun h12 => ?_)
    · replace hf := if_t hf h12
      refine lv_aload_n C.1 C.2.1 dX10_readText_41 rfl (lv_at hl 0 rfl) ?_
      refine g10_sort C S tw_1072 dX10_readText_42 ?_
      refine r_iconst C dX10_readText_45 ?_
      refine r_icmp_eq C rfl (show w32 3 = 3 by decide) (tgt := 56) dX10_readText_46 (by decide) (fun h11 => ?_) (fun h11 => ?_)
      · replace hf := if_t hf h11
        cases hf
        exact hend _ _ _ _ S dX10_readText_56
      · replace hf := if_f hf h11
        refine lv_aload_n C.1 C.2.1 dX10_readText_49 rfl (lv_at hl 0 rfl) ?_
        obtain ⟨q9, hc10, hf⟩ := bd_o hf
        refine r_callVn C S (As := []) (rest := []) (ct_X10_readLine l G τ hc10) mi_X10_readLine tw_1228 mv_X10_readLine (rvX10 S) ⟨rfl, rfl⟩ ⟨Nat.le_of_ble_eq_true rfl, Nat.le_of_ble_eq_true rfl⟩ ⟨Nat.zero_le _, Nat.zero_le _⟩ rfl hl.1 rfl (Nat.le_of_ble_eq_true rfl) dX10_readText_50 (fun H locs S => ?_)
        refine lv_goto C.1 C.2.1 (tgt := 34) dX10_readText_53 (by decide) ?_
        exact hk34 S (lv_sub hl [0] rfl) hf
    · replace hf := if_f hf h12
      cases hf
      exact hend _ _ _ _ S dX10_readText_56
set_option maxRecDepth 100000 in
set_option maxHeartbeats 4000000 in
theorem ct_X10_readText (l : Launch) (G : Gd) (τ : Sg) {v1 : Int} {σ : Sg} {q : Sg} (hf : f_X10_readText v1 σ = some q) : Ctr l yX10_readText cX10_readText 2 none (rmk 10 217) G false τ [.ref (G.1 41), .int (oI v1)] σ q none := by
  unfold f_X10_readText at hf
  refine CtrV.of (own := RX10) (plainFor_of_name (by decide)) (Nat.le_of_ble_eq_true rfl) rfl (fun p e s m below meth c Q ls C hl S hend => ?_)
  have hl : lv_has ls 2 [(0, .ref (G.1 41)), (1, .int (oI v1))] := hl
  refine lv_aload_n C.1 C.2.1 dX10_readText_0 rfl (lv_at hl 0 rfl) ?_
  refine lv_iload_n C.1 C.2.1 dX10_readText_1 rfl (lv_at hl 1 rfl) ?_
  refine p10_size C S tw_1069 dX10_readText_2 (fun H locs S => ?_)
  obtain ⟨σ1, S, hf⟩ := wr_s S hf
  refine lv_aload_n C.1 C.2.1 dX10_readText_5 rfl (lv_at hl 0 rfl) ?_
  refine r_iconst C dX10_readText_6 ?_
  refine p10_at C S tw_1070 dX10_readText_7 (fun H locs S => ?_)
  obtain ⟨σ2, S, hf⟩ := wr_s S hf
  refine lv_aload_n C.1 C.2.1 dX10_readText_10 rfl (lv_at hl 0 rfl) ?_
  refine r_iconst C dX10_readText_11 ?_
  refine p10_fault C S tw_1074 dX10_readText_12 (fun H locs S => ?_)
  obtain ⟨σ3, S, hf⟩ := wr_s S hf
  refine lv_aload_n C.1 C.2.1 dX10_readText_15 rfl (lv_at hl 0 rfl) ?_
  refine r_iconst C dX10_readText_16 ?_
  refine p10_lines C S tw_1068 dX10_readText_17 (fun H locs S => ?_)
  obtain ⟨σ4, S, hf⟩ := wr_s S hf
  refine lv_aload_n C.1 C.2.1 dX10_readText_20 rfl (lv_at hl 0 rfl) ?_
  refine r_iconst C dX10_readText_21 ?_
  refine p10_readPolicies C S tw_1066 dX10_readText_22 (fun H locs S => ?_)
  obtain ⟨σ5, S, hf⟩ := wr_s S hf
  refine lv_aload_n C.1 C.2.1 dX10_readText_25 rfl (lv_at hl 0 rfl) ?_
  refine r_iconst C dX10_readText_26 ?_
  refine p10_readTreaties C S tw_1067 dX10_readText_27 (fun H locs S => ?_)
  obtain ⟨σ6, S, hf⟩ := wr_s S hf
  refine lv_aload_n C.1 C.2.1 dX10_readText_30 rfl (lv_at hl 0 rfl) ?_
  obtain ⟨q7, hc8, hf⟩ := bd_o hf
  refine r_callVn C S (As := []) (rest := []) (ct_X10_token l G τ hc8) mi_X10_token tw_1206 mv_X10_token (rvX10 S) ⟨rfl, rfl⟩ ⟨Nat.le_of_ble_eq_true rfl, Nat.le_of_ble_eq_true rfl⟩ ⟨Nat.zero_le _, Nat.zero_le _⟩ rfl hl.1 rfl (Nat.le_of_ble_eq_true rfl) dX10_readText_31 (fun H locs S => ?_)
  exact b_X10_readText_b34 C hend FUEL S (lv_sub hl [0] rfl) hf
set_option maxRecDepth 100000 in
set_option maxHeartbeats 4000000 in
theorem ct_X10_puts (l : Launch) (G : Gd) (τ : Sg) {v1 : Int} {v2 : Int} {v3 : Int} {v4 : Int} {v5 : Int} {σ : Sg} {q : Sg} (hf : f_X10_puts v1 v2 v3 v4 v5 σ = some q) : Ctr l yX10_puts cX10_puts 6 none (rmk 0 0) G false τ [.ref (G.1 41), .int (oI v1), .int (oI v2), .int (oI v3), .int (oI v4), .int (oI v5)] σ q none := by
  unfold f_X10_puts at hf
  refine CtrV.of (own := RX10) (plainFor_of_name (by decide)) (Nat.le_of_ble_eq_true rfl) rfl (fun p e s m below meth c Q ls C hl S hend => ?_)
  have hl : lv_has ls 6 [(0, .ref (G.1 41)), (1, .int (oI v1)), (2, .int (oI v2)), (3, .int (oI v3)), (4, .int (oI v4)), (5, .int (oI v5))] := hl
  refine lv_aload_n C.1 C.2.1 dX10_puts_0 rfl (lv_at hl 0 rfl) ?_
  refine g10_x C S tw_1078 dX10_puts_1 ?_
  refine lv_iload_n C.1 C.2.1 dX10_puts_4 rfl (lv_at hl 1 rfl) ?_
  refine lv_iload_n C.1 C.2.1 dX10_puts_5 rfl (lv_at hl 2 rfl) ?_
  obtain ⟨hi1, hf⟩ := ck_o hf
  refine a_iast C S ar_45 hi1 dX10_puts_6 (fun H locs S => ?_)
  obtain ⟨σ2, S, hf⟩ := wr_s S hf
  refine lv_aload_n C.1 C.2.1 dX10_puts_7 rfl (lv_at hl 0 rfl) ?_
  refine g10_y C S tw_1079 dX10_puts_8 ?_
  refine lv_iload_n C.1 C.2.1 dX10_puts_11 rfl (lv_at hl 1 rfl) ?_
  refine lv_iload_n C.1 C.2.1 dX10_puts_12 rfl (lv_at hl 3 rfl) ?_
  obtain ⟨hi3, hf⟩ := ck_o hf
  refine a_iast C S ar_46 hi3 dX10_puts_13 (fun H locs S => ?_)
  obtain ⟨σ4, S, hf⟩ := wr_s S hf
  refine lv_aload_n C.1 C.2.1 dX10_puts_14 rfl (lv_at hl 0 rfl) ?_
  refine g10_sum C S tw_1080 dX10_puts_15 ?_
  refine lv_iload_n C.1 C.2.1 dX10_puts_18 rfl (lv_at hl 1 rfl) ?_
  refine lv_iload C.1 C.2.1 dX10_puts_19 (lv_at hl 4 rfl) ?_
  obtain ⟨hi5, hf⟩ := ck_o hf
  refine a_iast C S ar_47 hi5 dX10_puts_21 (fun H locs S => ?_)
  obtain ⟨σ6, S, hf⟩ := wr_s S hf
  refine lv_aload_n C.1 C.2.1 dX10_puts_22 rfl (lv_at hl 0 rfl) ?_
  refine g10_peril C S tw_1081 dX10_puts_23 ?_
  refine lv_iload_n C.1 C.2.1 dX10_puts_26 rfl (lv_at hl 1 rfl) ?_
  refine lv_iload C.1 C.2.1 dX10_puts_27 (lv_at hl 5 rfl) ?_
  obtain ⟨hi7, hf⟩ := ck_o hf
  refine a_iast C S ar_48 hi7 dX10_puts_29 (fun H locs S => ?_)
  obtain ⟨σ8, S, hf⟩ := wr_s S hf
  cases hf
  exact hend _ _ _ _ S dX10_puts_30
set_option maxRecDepth 100000 in
set_option maxHeartbeats 4000000 in
theorem ct_X10_begins (l : Launch) (G : Gd) (τ : Sg) {v1 : Int} {v2 : Int} {v3 : Int} {v4 : Int} {σ : Sg} {q : Sg} (hf : f_X10_begins v1 v2 v3 v4 σ = some q) : Ctr l yX10_begins cX10_begins 5 none (rmk 0 0) G false τ [.ref (G.1 41), .int (oI v1), .int (oI v2), .int (oI v3), .int (oI v4)] σ q none := by
  unfold f_X10_begins at hf
  refine CtrV.of (own := RX10) (plainFor_of_name (by decide)) (Nat.le_of_ble_eq_true rfl) rfl (fun p e s m below meth c Q ls C hl S hend => ?_)
  have hl : lv_has ls 5 [(0, .ref (G.1 41)), (1, .int (oI v1)), (2, .int (oI v2)), (3, .int (oI v3)), (4, .int (oI v4))] := hl
  refine lv_aload_n C.1 C.2.1 dX10_begins_0 rfl (lv_at hl 0 rfl) ?_
  refine g10_perils C S tw_1083 dX10_begins_1 ?_
  refine lv_iload_n C.1 C.2.1 dX10_begins_4 rfl (lv_at hl 1 rfl) ?_
  refine lv_iload_n C.1 C.2.1 dX10_begins_5 rfl (lv_at hl 2 rfl) ?_
  obtain ⟨hi1, hf⟩ := ck_o hf
  refine a_iast C S ar_50 hi1 dX10_begins_6 (fun H locs S => ?_)
  obtain ⟨σ2, S, hf⟩ := wr_s S hf
  refine lv_aload_n C.1 C.2.1 dX10_begins_7 rfl (lv_at hl 0 rfl) ?_
  refine g10_radius C S tw_1084 dX10_begins_8 ?_
  refine lv_iload_n C.1 C.2.1 dX10_begins_11 rfl (lv_at hl 1 rfl) ?_
  refine lv_iload_n C.1 C.2.1 dX10_begins_12 rfl (lv_at hl 3 rfl) ?_
  obtain ⟨hi3, hf⟩ := ck_o hf
  refine a_iast C S ar_51 hi3 dX10_begins_13 (fun H locs S => ?_)
  obtain ⟨σ4, S, hf⟩ := wr_s S hf
  refine lv_aload_n C.1 C.2.1 dX10_begins_14 rfl (lv_at hl 0 rfl) ?_
  refine g10_limit C S tw_1085 dX10_begins_15 ?_
  refine lv_iload_n C.1 C.2.1 dX10_begins_18 rfl (lv_at hl 1 rfl) ?_
  refine lv_iload C.1 C.2.1 dX10_begins_19 (lv_at hl 4 rfl) ?_
  obtain ⟨hi5, hf⟩ := ck_o hf
  refine a_iast C S ar_52 hi5 dX10_begins_21 (fun H locs S => ?_)
  obtain ⟨σ6, S, hf⟩ := wr_s S hf
  refine lv_aload_n C.1 C.2.1 dX10_begins_22 rfl (lv_at hl 0 rfl) ?_
  refine g10_alarm C S tw_1086 dX10_begins_23 ?_
  refine lv_iload_n C.1 C.2.1 dX10_begins_26 rfl (lv_at hl 1 rfl) ?_
  refine r_bipush C dX10_begins_27 (by decide) ?_
  obtain ⟨hi7, hf⟩ := ck_o hf
  refine a_iast C S ar_53 hi7 dX10_begins_29 (fun H locs S => ?_)
  obtain ⟨σ8, S, hf⟩ := wr_s S hf
  refine lv_aload_n C.1 C.2.1 dX10_begins_30 rfl (lv_at hl 0 rfl) ?_
  refine g10_alarms C S tw_1087 dX10_begins_31 ?_
  refine lv_iload_n C.1 C.2.1 dX10_begins_34 rfl (lv_at hl 1 rfl) ?_
  refine r_iconst C dX10_begins_35 ?_
  obtain ⟨hi9, hf⟩ := ck_o hf
  refine a_iast C S ar_54 hi9 dX10_begins_36 (fun H locs S => ?_)
  obtain ⟨σ10, S, hf⟩ := wr_s S hf
  cases hf
  exact hend _ _ _ _ S dX10_begins_37
set_option maxRecDepth 100000 in
set_option maxHeartbeats 4000000 in
theorem ct_X10_has (l : Launch) (G : Gd) (τ : Sg) {v0 : Int} {v1 : Int} {σ : Sg} {q : Int} (hf : f_X10_has v0 v1 σ = some q) : Ctr l yX10_has cX10_has 2 (some .boolean) (rmk 0 0) G false τ [.int (oI v0), .int (oI v1)] σ σ (some (.int (oI q))) := by
  unfold f_X10_has at hf
  refine CtrZ.of (own := RX10) (plainFor_of_name (by decide)) (Nat.le_of_ble_eq_true rfl) rfl (fun p e s m below meth c Q ls C hl S hend => ?_)
  have hl : lv_has ls 2 [(0, .int (oI v0)), (1, .int (oI v1))] := hl
  refine lv_iload_n C.1 C.2.1 dX10_has_0 rfl (lv_at hl 0 rfl) ?_
  refine lv_iload_n C.1 C.2.1 dX10_has_1 rfl (lv_at hl 1 rfl) ?_
  refine r_ishr C (y1 := (u32 v1 % 32)) rfl dX10_has_2 ?_
  refine r_iconst C dX10_has_3 ?_
  refine r_iand C rfl (show u32 1 = 1 by decide) dX10_has_4 ?_
  refine r_iconst C dX10_has_5 ?_
  refine r_icmp_ne C rfl (show w32 1 = 1 by decide) (tgt := 13) dX10_has_6 (by decide) (fun h1 => ?_) (fun h1 => ?_)
  · replace hf := if_t hf h1
    refine r_iconst C dX10_has_9 ?_
    refine lv_goto C.1 C.2.1 (tgt := 14) dX10_has_10 (by decide) ?_
    cases hf
    exact hend (Or.inr rfl) _ _ _ _ S dX10_has_14
  · replace hf := if_f hf h1
    refine r_iconst C dX10_has_13 ?_
    cases hf
    exact hend (Or.inl rfl) _ _ _ _ S dX10_has_14
set_option maxRecDepth 100000 in
set_option maxHeartbeats 4000000 in
theorem b_X10_ofPerils_b38 (C : Cx p s m args c RX10 cX10_ofPerils 4) {q : Int} {k4 : Int → Int → Int → Option (Int)} (hend : EndR p l e (rmk 1 21) s m args below meth c Q G false τ cX10_ofPerils .ireturn [.int (oI q)] σ) (hk4 : ∀ {H : Heap} {locs : List Loc} {ls : Array Slot} (v1 : Int) (v2 : Int) (v3 : Int), St G false τ σ s H locs → lv_has ls 4 [(0, .ref (G.1 41)), (1, .int (oI v1)), (2, .int (oI v2)), (3, .int (oI v3))] → k4 v1 v2 v3 = some q → W p l e (rmk 1 21) s m args below meth c H locs 0 0 Q (F0 m 4 ls [])) {H : Heap} {locs : List Loc} {ls : Array Slot} (v1 : Int) (v2 : Int) (v3 : Int) (S : St G false τ σ s H locs) (hl : lv_has ls 4 [(0, .ref (G.1 41)), (1, .int (oI v1)), (2, .int (oI v2)), (3, .int (oI v3))]) (hf : f_X10_ofPerils_b38 σ k4 v1 v2 v3 = some q) : W p l e (rmk 1 21) s m args below meth c H locs 0 0 Q (F0 m 38 ls []) := by
  unfold f_X10_ofPerils_b38 at hf
  refine r_iinc C dX10_ofPerils_38 hl (k := 3) rfl (by decide) (lv' := [(3, .int (oI (v3 + 1))), (0, .ref (G.1 41)), (1, .int (oI v1)), (2, .int (oI v2))]) rfl (fun ls hl => ?_)
  refine lv_goto C.1 C.2.1 (tgt := 4) dX10_ofPerils_41 (by decide) ?_
  exact hk4 v1 v2 (v3 + 1) S (lv_sub hl [1, 2, 3, 0] rfl) hf
set_option maxRecDepth 100000 in
set_option maxHeartbeats 4000000 in
theorem b_X10_ofPerils_b4 (C : Cx p s m args c RX10 cX10_ofPerils 4) {q : Int} (hend : EndR p l e (rmk 1 21) s m args below meth c Q G false τ cX10_ofPerils .ireturn [.int (oI q)] σ) : ∀ (n : Nat) {H : Heap} {locs : List Loc} {ls : Array Slot} (v1 : Int) (v2 : Int) (v3 : Int) (S : St G false τ σ s H locs) (hl : lv_has ls 4 [(0, .ref (G.1 41)), (1, .int (oI v1)), (2, .int (oI v2)), (3, .int (oI v3))]) (hf : f_X10_ofPerils_b4 σ n v1 v2 v3 = some q), W p l e (rmk 1 21) s m args below meth c H locs 0 0 Q (F0 m 4 ls []) := by
  intro n
  induction n with
  | zero => intro H locs ls v1 v2 v3 S hl hf; cases hf
  | succ n ih =>
    intro H locs ls v1 v2 v3 S hl hf
    have hk4 := @ih
    rw [f_X10_ofPerils_b4] at hf
    refine lv_iload_n C.1 C.2.1 dX10_ofPerils_4 rfl (lv_at hl 3 rfl) ?_
    refine r_bipush C dX10_ofPerils_5 (by decide) ?_
    refine r_icmp_ge C rfl (show w32 24 = 24 by decide) (tgt := 44) dX10_ofPerils_7 (by decide) (fun h7 => ?_) (fun h7 => ?_)
    · replace hf := if_t hf h7
      refine lv_aload_n C.1 C.2.1 dX10_ofPerils_10 rfl (lv_at hl 0 rfl) ?_
      refine g10_isThere C S tw_1082 dX10_ofPerils_11 ?_
      refine lv_iload_n C.1 C.2.1 dX10_ofPerils_14 rfl (lv_at hl 3 rfl) ?_
      obtain ⟨hi1, hf⟩ := ck_o hf
      refine a_zald C S ar_49 hi1 dX10_ofPerils_15 ?_
      refine r_if_eq C rfl (tgt := 38) dX10_ofPerils_16 (by decide) (fun h6 => ?_) (fun h6 => ?_)
      · replace hf := if_t hf h6
        exact b_X10_ofPerils_b38 C hend hk4 v1 v2 v3 S (lv_sub hl [0, 1, 2, 3] rfl) hf
      · replace hf := if_f hf h6
        refine lv_iload_n C.1 C.2.1 dX10_ofPerils_19 rfl (lv_at hl 1 rfl) ?_
        refine lv_aload_n C.1 C.2.1 dX10_ofPerils_20 rfl (lv_at hl 0 rfl) ?_
        refine g10_peril C S tw_1081 dX10_ofPerils_21 ?_
        refine lv_iload_n C.1 C.2.1 dX10_ofPerils_24 rfl (lv_at hl 3 rfl) ?_
        obtain ⟨hi2, hf⟩ := ck_o hf
        refine a_iald C S ar_48 hi2 dX10_ofPerils_25 ?_
        obtain ⟨q3, hc4, hf⟩ := bd_o hf
        refine r_callSv C S (As := [.int (oI v1), .int (oI (σ 48 (v3).toNat))]) (rest := []) (ct_X10_has l G τ hc4) mi_X10_has tw_1285 ms_X10_has ⟨rfl, rfl⟩ ⟨Nat.le_of_ble_eq_true rfl, Nat.le_of_ble_eq_true rfl⟩ ⟨Nat.zero_le _, Nat.zero_le _⟩ rfl hl.1 rfl (Nat.le_of_ble_eq_true rfl) dX10_ofPerils_26 (fun H locs S => ?_)
        refine r_if_eq C rfl (tgt := 38) dX10_ofPerils_29 (by decide) (fun h5 => ?_) (fun h5 => ?_)
        · replace hf := if_t hf h5
          exact b_X10_ofPerils_b38 C hend hk4 v1 v2 v3 S (lv_sub hl [0, 1, 2, 3] rfl) hf
        · replace hf := if_f hf h5
          refine lv_iload_n C.1 C.2.1 dX10_ofPerils_32 rfl (lv_at hl 2 rfl) ?_
          refine r_iconst C dX10_ofPerils_33 ?_
          refine lv_iload_n C.1 C.2.1 dX10_ofPerils_34 rfl (lv_at hl 3 rfl) ?_
          refine r_ishl C (y1 := (u32 v3 % 32)) rfl dX10_ofPerils_35 ?_
          refine r_ior C rfl rfl dX10_ofPerils_36 ?_
          refine lv_istore_n C.1 C.2.1 dX10_ofPerils_37 rfl hl (by decide) (lv' := [(2, .int (oI ((((u32 v2) ||| (u32 (1 * ((2 ^ (u32 v3 % 32) : Nat) : Int))) : Nat) : Int)))), (0, .ref (G.1 41)), (1, .int (oI v1)), (3, .int (oI v3))]) rfl (fun ls hl => ?_)
          exact b_X10_ofPerils_b38 C hend hk4 v1 ((((u32 v2) ||| (u32 (1 * ((2 ^ (u32 v3 % 32) : Nat) : Int))) : Nat) : Int)) v3 S (lv_sub hl [1, 2, 0, 3] rfl) hf
    · replace hf := if_f hf h7
      refine lv_iload_n C.1 C.2.1 dX10_ofPerils_44 rfl (lv_at hl 2 rfl) ?_
      cases hf
      exact hend _ _ _ _ S dX10_ofPerils_45
set_option maxRecDepth 100000 in
set_option maxHeartbeats 4000000 in
theorem ct_X10_ofPerils (l : Launch) (G : Gd) (τ : Sg) {v1 : Int} {σ : Sg} {q : Int} (hf : f_X10_ofPerils v1 σ = some q) : Ctr l yX10_ofPerils cX10_ofPerils 4 (some .int) (rmk 1 21) G false τ [.ref (G.1 41), .int (oI v1)] σ σ (some (.int (oI q))) := by
  unfold f_X10_ofPerils at hf
  refine CtrI.of (own := RX10) (plainFor_of_name (by decide)) (Nat.le_of_ble_eq_true rfl) rfl (fun p e s m below meth c Q ls C hl S hend => ?_)
  have hl : lv_has ls 4 [(0, .ref (G.1 41)), (1, .int (oI v1))] := hl
  refine r_iconst C dX10_ofPerils_0 ?_
  refine lv_istore_n C.1 C.2.1 dX10_ofPerils_1 rfl hl (by decide) (lv' := [(2, .int (oI 0)), (0, .ref (G.1 41)), (1, .int (oI v1))]) rfl (fun ls hl => ?_)
  refine r_iconst C dX10_ofPerils_2 ?_
  refine lv_istore_n C.1 C.2.1 dX10_ofPerils_3 rfl hl (by decide) (lv' := [(3, .int (oI 0)), (2, .int (oI 0)), (0, .ref (G.1 41)), (1, .int (oI v1))]) rfl (fun ls hl => ?_)
  exact b_X10_ofPerils_b4 C hend FUEL v1 0 0 S (lv_sub hl [2, 3, 1, 0] rfl) hf
set_option maxRecDepth 100000 in
set_option maxHeartbeats 4000000 in
theorem ct_X10_ofTreaty (l : Launch) (G : Gd) (τ : Sg) {v1 : Int} {σ : Sg} {q : Int} (hf : f_X10_ofTreaty v1 σ = some q) : Ctr l yX10_ofTreaty cX10_ofTreaty 2 (some .int) (rmk 2 44) G false τ [.ref (G.1 41), .int (oI v1)] σ σ (some (.int (oI q))) := by
  unfold f_X10_ofTreaty at hf
  refine CtrI.of (own := RX10) (plainFor_of_name (by decide)) (Nat.le_of_ble_eq_true rfl) rfl (fun p e s m below meth c Q ls C hl S hend => ?_)
  have hl : lv_has ls 2 [(0, .ref (G.1 41)), (1, .int (oI v1))] := hl
  refine lv_aload_n C.1 C.2.1 dX10_ofTreaty_0 rfl (lv_at hl 0 rfl) ?_
  refine lv_aload_n C.1 C.2.1 dX10_ofTreaty_1 rfl (lv_at hl 0 rfl) ?_
  refine g10_perils C S tw_1083 dX10_ofTreaty_2 ?_
  refine lv_iload_n C.1 C.2.1 dX10_ofTreaty_5 rfl (lv_at hl 1 rfl) ?_
  obtain ⟨hi1, hf⟩ := ck_o hf
  refine a_iald C S ar_50 hi1 dX10_ofTreaty_6 ?_
  obtain ⟨q2, hc3, hf⟩ := bd_o hf
  refine r_callVv C S (As := [.int (oI (σ 50 (v1).toNat))]) (rest := []) (ct_X10_ofPerils l G τ hc3) mi_X10_ofPerils tw_1281 mv_X10_ofPerils (rvX10 S) ⟨rfl, rfl⟩ ⟨Nat.le_of_ble_eq_true rfl, Nat.le_of_ble_eq_true rfl⟩ ⟨Nat.zero_le _, Nat.zero_le _⟩ rfl hl.1 rfl (Nat.le_of_ble_eq_true rfl) dX10_ofTreaty_7 (fun H locs S => ?_)
  cases hf
  exact hend _ _ _ _ S dX10_ofTreaty_10
set_option maxRecDepth 100000 in
set_option maxHeartbeats 4000000 in
theorem ct_X10_distance (l : Launch) (G : Gd) (τ : Sg) {v1 : Int} {v2 : Int} {σ : Sg} {q : Int} (hf : f_X10_distance v1 v2 σ = some q) : Ctr l yX10_distance cX10_distance 3 (some .int) (rmk 0 0) G false τ [.ref (G.1 41), .int (oI v1), .int (oI v2)] σ σ (some (.int (oI q))) := by
  unfold f_X10_distance at hf
  refine CtrI.of (own := RX10) (plainFor_of_name (by decide)) (Nat.le_of_ble_eq_true rfl) rfl (fun p e s m below meth c Q ls C hl S hend => ?_)
  have hl : lv_has ls 3 [(0, .ref (G.1 41)), (1, .int (oI v1)), (2, .int (oI v2))] := hl
  refine lv_aload_n C.1 C.2.1 dX10_distance_0 rfl (lv_at hl 0 rfl) ?_
  refine g10_x C S tw_1078 dX10_distance_1 ?_
  refine lv_iload_n C.1 C.2.1 dX10_distance_4 rfl (lv_at hl 1 rfl) ?_
  obtain ⟨hi1, hf⟩ := ck_o hf
  refine a_iald C S ar_45 hi1 dX10_distance_5 ?_
  refine lv_aload_n C.1 C.2.1 dX10_distance_6 rfl (lv_at hl 0 rfl) ?_
  refine g10_x C S tw_1078 dX10_distance_7 ?_
  refine lv_iload_n C.1 C.2.1 dX10_distance_10 rfl (lv_at hl 2 rfl) ?_
  obtain ⟨hi2, hf⟩ := ck_o hf
  refine a_iald C S ar_45 hi2 dX10_distance_11 ?_
  refine r_isub C dX10_distance_12 ?_
  refine lv_aload_n C.1 C.2.1 dX10_distance_13 rfl (lv_at hl 0 rfl) ?_
  refine g10_x C S tw_1078 dX10_distance_14 ?_
  refine lv_iload_n C.1 C.2.1 dX10_distance_17 rfl (lv_at hl 1 rfl) ?_
  obtain ⟨hi3, hf⟩ := ck_o hf
  refine a_iald C S ar_45 hi3 dX10_distance_18 ?_
  refine lv_aload_n C.1 C.2.1 dX10_distance_19 rfl (lv_at hl 0 rfl) ?_
  refine g10_x C S tw_1078 dX10_distance_20 ?_
  refine lv_iload_n C.1 C.2.1 dX10_distance_23 rfl (lv_at hl 2 rfl) ?_
  obtain ⟨hi4, hf⟩ := ck_o hf
  refine a_iald C S ar_45 hi4 dX10_distance_24 ?_
  refine r_isub C dX10_distance_25 ?_
  refine r_imul C dX10_distance_26 ?_
  refine lv_aload_n C.1 C.2.1 dX10_distance_27 rfl (lv_at hl 0 rfl) ?_
  refine g10_y C S tw_1079 dX10_distance_28 ?_
  refine lv_iload_n C.1 C.2.1 dX10_distance_31 rfl (lv_at hl 1 rfl) ?_
  obtain ⟨hi5, hf⟩ := ck_o hf
  refine a_iald C S ar_46 hi5 dX10_distance_32 ?_
  refine lv_aload_n C.1 C.2.1 dX10_distance_33 rfl (lv_at hl 0 rfl) ?_
  refine g10_y C S tw_1079 dX10_distance_34 ?_
  refine lv_iload_n C.1 C.2.1 dX10_distance_37 rfl (lv_at hl 2 rfl) ?_
  obtain ⟨hi6, hf⟩ := ck_o hf
  refine a_iald C S ar_46 hi6 dX10_distance_38 ?_
  refine r_isub C dX10_distance_39 ?_
  refine lv_aload_n C.1 C.2.1 dX10_distance_40 rfl (lv_at hl 0 rfl) ?_
  refine g10_y C S tw_1079 dX10_distance_41 ?_
  refine lv_iload_n C.1 C.2.1 dX10_distance_44 rfl (lv_at hl 1 rfl) ?_
  obtain ⟨hi7, hf⟩ := ck_o hf
  refine a_iald C S ar_46 hi7 dX10_distance_45 ?_
  refine lv_aload_n C.1 C.2.1 dX10_distance_46 rfl (lv_at hl 0 rfl) ?_
  refine g10_y C S tw_1079 dX10_distance_47 ?_
  refine lv_iload_n C.1 C.2.1 dX10_distance_50 rfl (lv_at hl 2 rfl) ?_
  obtain ⟨hi8, hf⟩ := ck_o hf
  refine a_iald C S ar_46 hi8 dX10_distance_51 ?_
  refine r_isub C dX10_distance_52 ?_
  refine r_imul C dX10_distance_53 ?_
  refine r_iadd C dX10_distance_54 ?_
  cases hf
  exact hend _ _ _ _ S dX10_distance_55
set_option maxRecDepth 100000 in
set_option maxHeartbeats 4000000 in
theorem b_X10_around_b68 (C : Cx p s m args c RX10 cX10_around 6) {q : Int × Sg} {k11 : Int → Int → Int → Int → Int → Sg → Option (Int × Sg)} (hend : EndR p l e (rmk 1 22) s m args below meth c Q G false τ cX10_around .ireturn [.int (oI q.1)] q.2) (hk11 : ∀ {H : Heap} {locs : List Loc} {ls : Array Slot} {σ : Sg} (v1 : Int) (v2 : Int) (v3 : Int) (v4 : Int) (v5 : Int), St G false τ σ s H locs → lv_has ls 6 [(0, .ref (G.1 41)), (1, .int (oI v1)), (2, .int (oI v2)), (3, .int (oI v3)), (4, .int (oI v4)), (5, .int (oI v5))] → k11 v1 v2 v3 v4 v5 σ = some q → W p l e (rmk 1 22) s m args below meth c H locs 0 0 Q (F0 m 11 ls [])) {H : Heap} {locs : List Loc} {ls : Array Slot} {σ : Sg} (v1 : Int) (v2 : Int) (v3 : Int) (v4 : Int) (v5 : Int) (S : St G false τ σ s H locs) (hl : lv_has ls 6 [(0, .ref (G.1 41)), (1, .int (oI v1)), (2, .int (oI v2)), (3, .int (oI v3)), (4, .int (oI v4)), (5, .int (oI v5))]) (hf : f_X10_around_b68 k11 v1 v2 v3 v4 v5 σ = some q) : W p l e (rmk 1 22) s m args below meth c H locs 0 0 Q (F0 m 68 ls []) := by
  unfold f_X10_around_b68 at hf
  refine r_iinc C dX10_around_68 hl (k := 5) rfl (by decide) (lv' := [(5, .int (oI (v5 + 1))), (0, .ref (G.1 41)), (1, .int (oI v1)), (2, .int (oI v2)), (3, .int (oI v3)), (4, .int (oI v4))]) rfl (fun ls hl => ?_)
  refine lv_goto C.1 C.2.1 (tgt := 11) dX10_around_71 (by decide) ?_
  exact hk11 v1 v2 v3 v4 (v5 + 1) S (lv_sub hl [1, 2, 3, 4, 5, 0] rfl) hf
set_option maxRecDepth 100000 in
set_option maxHeartbeats 4000000 in
theorem b_X10_around_b11 (C : Cx p s m args c RX10 cX10_around 6) {q : Int × Sg} (hend : EndR p l e (rmk 1 22) s m args below meth c Q G false τ cX10_around .ireturn [.int (oI q.1)] q.2) : ∀ (n : Nat) {H : Heap} {locs : List Loc} {ls : Array Slot} {σ : Sg} (v1 : Int) (v2 : Int) (v3 : Int) (v4 : Int) (v5 : Int) (S : St G false τ σ s H locs) (hl : lv_has ls 6 [(0, .ref (G.1 41)), (1, .int (oI v1)), (2, .int (oI v2)), (3, .int (oI v3)), (4, .int (oI v4)), (5, .int (oI v5))]) (hf : f_X10_around_b11 n v1 v2 v3 v4 v5 σ = some q), W p l e (rmk 1 22) s m args below meth c H locs 0 0 Q (F0 m 11 ls []) := by
  intro n
  induction n with
  | zero => intro H locs ls σ v1 v2 v3 v4 v5 S hl hf; cases hf
  | succ n ih =>
    intro H locs ls σ v1 v2 v3 v4 v5 S hl hf
    have hk11 := @ih
    rw [f_X10_around_b11] at hf
    refine lv_iload C.1 C.2.1 dX10_around_11 (lv_at hl 5 rfl) ?_
    refine r_bipush C dX10_around_13 (by decide) ?_
    refine r_icmp_gt C rfl (show w32 24 = 24 by decide) (tgt := 74) dX10_around_15 (by decide) (fun h10 => ?_) (fun h10 => ?_)
    · replace hf := if_t hf h10
      refine lv_iload_n C.1 C.2.1 dX10_around_18 rfl (lv_at hl 2 rfl) ?_
      refine lv_iload C.1 C.2.1 dX10_around_19 (lv_at hl 5 rfl) ?_
      obtain ⟨q2, hc3, hf⟩ := bd_o hf
      refine r_callSv C S (As := [.int (oI v2), .int (oI v5)]) (rest := []) (ct_X10_has l G τ hc3) mi_X10_has tw_1285 ms_X10_has ⟨rfl, rfl⟩ ⟨Nat.le_of_ble_eq_true rfl, Nat.le_of_ble_eq_true rfl⟩ ⟨Nat.zero_le _, Nat.zero_le _⟩ rfl hl.1 rfl (Nat.le_of_ble_eq_true rfl) dX10_around_21 (fun H locs S => ?_)
      refine r_if_eq C rfl (tgt := 68) dX10_around_24 (by decide) (fun h9 => ?_) (fun h9 => ?_)
      · replace hf := if_t hf h9
        exact b_X10_around_b68 C hend hk11 v1 v2 v3 v4 v5 S (lv_sub hl [0, 1, 2, 3, 4, 5] rfl) hf
      · replace hf := if_f hf h9
        refine lv_aload_n C.1 C.2.1 dX10_around_27 rfl (lv_at hl 0 rfl) ?_
        refine lv_iload_n C.1 C.2.1 dX10_around_28 rfl (lv_at hl 1 rfl) ?_
        refine lv_iload C.1 C.2.1 dX10_around_29 (lv_at hl 5 rfl) ?_
        obtain ⟨q4, hc5, hf⟩ := bd_o hf
        refine r_callVv C S (As := [.int (oI v1), .int (oI v5)]) (rest := []) (ct_X10_distance l G τ hc5) mi_X10_distance tw_1297 mv_X10_distance (rvX10 S) ⟨rfl, rfl⟩ ⟨Nat.le_of_ble_eq_true rfl, Nat.le_of_ble_eq_true rfl⟩ ⟨Nat.zero_le _, Nat.zero_le _⟩ rfl hl.1 rfl (Nat.le_of_ble_eq_true rfl) dX10_around_31 (fun H locs S => ?_)
        refine lv_iload_n C.1 C.2.1 dX10_around_34 rfl (lv_at hl 3 rfl) ?_
        refine lv_iload_n C.1 C.2.1 dX10_around_35 rfl (lv_at hl 3 rfl) ?_
        refine r_imul C dX10_around_36 ?_
        refine r_icmp_le C rfl rfl (tgt := 43) dX10_around_37 (by decide) (fun h8 => ?_) (fun h8 => ?_)
        · replace hf := if_t hf h8
          refine lv_iload C.1 C.2.1 dX10_around_43 (lv_at hl 4 rfl) ?_
          refine r_iconst C dX10_around_45 ?_
          refine lv_iload C.1 C.2.1 dX10_around_46 (lv_at hl 5 rfl) ?_
          refine r_ishl C (y1 := (u32 v5 % 32)) rfl dX10_around_48 ?_
          refine r_ior C rfl rfl dX10_around_49 ?_
          refine lv_istore C.1 C.2.1 dX10_around_50 hl (by decide) (lv' := [(4, .int (oI ((((u32 v4) ||| (u32 (1 * ((2 ^ (u32 v5 % 32) : Nat) : Int))) : Nat) : Int)))), (0, .ref (G.1 41)), (1, .int (oI v1)), (2, .int (oI v2)), (3, .int (oI v3)), (5, .int (oI v5))]) rfl (fun ls hl => ?_)
          refine lv_aload_n C.1 C.2.1 dX10_around_52 rfl (lv_at hl 1 rfl) ?_
          refine lv_dup C.1 C.2.1 dX10_around_53 rfl ?_
          refine g10_held C S tw_1096 dX10_around_54 ?_
          refine lv_aload_n C.1 C.2.1 dX10_around_57 rfl (lv_at hl 1 rfl) ?_
          refine g10_sum C S tw_1080 dX10_around_58 ?_
          refine lv_iload C.1 C.2.1 dX10_around_61 (lv_at hl 5 rfl) ?_
          obtain ⟨hi6, hf⟩ := ck_o hf
          refine a_iald C S ar_47 hi6 dX10_around_63 ?_
          refine r_iadd C dX10_around_64 ?_
          refine p10_held C S tw_1096 dX10_around_65 (fun H locs S => ?_)
          obtain ⟨σ7, S, hf⟩ := wr_s S hf
          exact b_X10_around_b68 C hend hk11 v1 v2 v3 ((((u32 v4) ||| (u32 (1 * ((2 ^ (u32 v5 % 32) : Nat) : Int))) : Nat) : Int)) v5 S (lv_sub hl [1, 2, 3, 4, 0, 5] rfl) hf
        · replace hf := if_f hf h8
          refine lv_goto C.1 C.2.1 (tgt := 68) dX10_around_40 (by decide) ?_
          exact b_X10_around_b68 C hend hk11 v1 v2 v3 v4 v5 S (lv_sub hl [0, 1, 2, 3, 4, 5] rfl) hf
    · replace hf := if_f hf h10
      refine lv_iload C.1 C.2.1 dX10_around_74 (lv_at hl 4 rfl) ?_
      cases hf
      exact hend _ _ _ _ S dX10_around_76
set_option maxRecDepth 100000 in
set_option maxHeartbeats 4000000 in
theorem ct_X10_around (l : Launch) (G : Gd) (τ : Sg) {v1 : Int} {v2 : Int} {v3 : Int} {σ : Sg} {q : Int × Sg} (hf : f_X10_around v1 v2 v3 σ = some q) : Ctr l yX10_around cX10_around 6 (some .int) (rmk 1 22) G false τ [.ref (G.1 41), .int (oI v1), .int (oI v2), .int (oI v3)] σ q.2 (some (.int (oI q.1))) := by
  unfold f_X10_around at hf
  refine CtrI.of (own := RX10) (plainFor_of_name (by decide)) (Nat.le_of_ble_eq_true rfl) rfl (fun p e s m below meth c Q ls C hl S hend => ?_)
  have hl : lv_has ls 6 [(0, .ref (G.1 41)), (1, .int (oI v1)), (2, .int (oI v2)), (3, .int (oI v3))] := hl
  refine r_iconst C dX10_around_0 ?_
  refine lv_istore C.1 C.2.1 dX10_around_1 hl (by decide) (lv' := [(4, .int (oI 0)), (0, .ref (G.1 41)), (1, .int (oI v1)), (2, .int (oI v2)), (3, .int (oI v3))]) rfl (fun ls hl => ?_)
  refine lv_aload_n C.1 C.2.1 dX10_around_3 rfl (lv_at hl 1 rfl) ?_
  refine r_iconst C dX10_around_4 ?_
  refine p10_held C S tw_1096 dX10_around_5 (fun H locs S => ?_)
  obtain ⟨σ1, S, hf⟩ := wr_s S hf
  refine r_iconst C dX10_around_8 ?_
  refine lv_istore C.1 C.2.1 dX10_around_9 hl (by decide) (lv' := [(5, .int (oI 0)), (4, .int (oI 0)), (0, .ref (G.1 41)), (1, .int (oI v1)), (2, .int (oI v2)), (3, .int (oI v3))]) rfl (fun ls hl => ?_)
  exact b_X10_around_b11 C hend FUEL v1 v2 v3 0 0 S (lv_sub hl [2, 3, 4, 5, 1, 0] rfl) hf
set_option maxRecDepth 100000 in
set_option maxHeartbeats 4000000 in
theorem b_X10_offers_b62 (C : Cx p s m args c RX10 cX10_offers 4) {q : Sg} (hend : EndR p l e (rmk 1 21) s m args below meth c Q G false τ cX10_offers .return_ [] q) {H : Heap} {locs : List Loc} {ls : Array Slot} {σ : Sg} (v3 : Int) (S : St G false τ σ s H locs) (hl : lv_has ls 4 [(0, .ref (G.1 41)), (3, .int (oI v3))]) (hf : f_X10_offers_b62 v3 σ = some q) : W p l e (rmk 1 21) s m args below meth c H locs 0 0 Q (F0 m 62 ls []) := by
  unfold f_X10_offers_b62 at hf
  refine lv_aload_n C.1 C.2.1 dX10_offers_62 rfl (lv_at hl 0 rfl) ?_
  refine lv_aload_n C.1 C.2.1 dX10_offers_63 rfl (lv_at hl 0 rfl) ?_
  refine g10_held C S tw_1096 dX10_offers_64 ?_
  refine p10_bestSum C S tw_1097 dX10_offers_67 (fun H locs S => ?_)
  obtain ⟨σ1, S, hf⟩ := wr_s S hf
  refine lv_aload_n C.1 C.2.1 dX10_offers_70 rfl (lv_at hl 0 rfl) ?_
  refine lv_iload_n C.1 C.2.1 dX10_offers_71 rfl (lv_at hl 1 rfl) ?_
  refine p10_bestSet C S tw_1098 dX10_offers_72 (fun H locs S => ?_)
  obtain ⟨σ2, S, hf⟩ := wr_s S hf
  cases hf
  exact hend _ _ _ _ S dX10_offers_75
set_option maxRecDepth 100000 in
set_option maxHeartbeats 4000000 in
theorem b_X10_offers_b30 (C : Cx p s m args c RX10 cX10_offers 4) {q : Sg} (hend : EndR p l e (rmk 1 21) s m args below meth c Q G false τ cX10_offers .return_ [] q) {H : Heap} {locs : List Loc} {ls : Array Slot} {σ : Sg} (w0 : Int) (S : St G false τ σ s H locs) (hl : lv_has ls 4 [(0, .ref (G.1 41))]) (hf : f_X10_offers_b30 w0 σ = some q) : W p l e (rmk 1 21) s m args below meth c H locs 0 0 Q (F0 m 30 ls [.int (oI w0)]) := by
  unfold f_X10_offers_b30 at hf
  refine lv_istore_n C.1 C.2.1 dX10_offers_30 rfl hl (by decide) (lv' := [(3, .int (oI w0)), (0, .ref (G.1 41))]) rfl (fun ls hl => ?_)
  refine lv_aload_n C.1 C.2.1 dX10_offers_31 rfl (lv_at hl 1 rfl) ?_
  refine g10_held C S tw_1096 dX10_offers_32 ?_
  refine lv_aload_n C.1 C.2.1 dX10_offers_35 rfl (lv_at hl 1 rfl) ?_
  refine g10_bestSum C S tw_1097 dX10_offers_36 ?_
  refine r_icmp_lt C rfl rfl (tgt := 61) dX10_offers_39 (by decide) (fun h5 => ?_) (fun h5 => ?_)
  · replace hf := if_t hf h5
    cases hf
    exact hend _ _ _ _ S dX10_offers_61
  · replace hf := if_f hf h5
    refine lv_aload_n C.1 C.2.1 dX10_offers_42 rfl (lv_at hl 1 rfl) ?_
    refine g10_held C S tw_1096 dX10_offers_43 ?_
    refine lv_aload_n C.1 C.2.1 dX10_offers_46 rfl (lv_at hl 1 rfl) ?_
    refine g10_bestSum C S tw_1097 dX10_offers_47 ?_
    refine r_icmp_ne C rfl rfl (tgt := 62) dX10_offers_50 (by decide) (fun h4 => ?_) (fun h4 => ?_)
    · replace hf := if_t hf h4
      refine lv_iload_n C.1 C.2.1 dX10_offers_53 rfl (lv_at hl 0 rfl) ?_
      refine lv_aload_n C.1 C.2.1 dX10_offers_54 rfl (lv_at hl 1 rfl) ?_
      refine g10_bestSet C S tw_1098 dX10_offers_55 ?_
      refine r_icmp_lt C rfl rfl (tgt := 62) dX10_offers_58 (by decide) (fun h3 => ?_) (fun h3 => ?_)
      · replace hf := if_t hf h3
        exact b_X10_offers_b62 C hend w0 S (lv_sub hl [1, 0] rfl) hf
      · replace hf := if_f hf h3
        cases hf
        exact hend _ _ _ _ S dX10_offers_61
    · replace hf := if_f hf h4
      exact b_X10_offers_b62 C hend w0 S (lv_sub hl [1, 0] rfl) hf
set_option maxRecDepth 100000 in
set_option maxHeartbeats 4000000 in
theorem b_X10_offers_b14 (C : Cx p s m args c RX10 cX10_offers 4) {q : Sg} (hend : EndR p l e (rmk 1 21) s m args below meth c Q G false τ cX10_offers .return_ [] q) {H : Heap} {locs : List Loc} {ls : Array Slot} {σ : Sg} (v1 : Int) (v2 : Int) (S : St G false τ σ s H locs) (hl : lv_has ls 4 [(0, .ref (G.1 41)), (1, .int (oI v1)), (2, .int (oI v2))]) (hf : f_X10_offers_b14 v1 v2 σ = some q) : W p l e (rmk 1 21) s m args below meth c H locs 0 0 Q (F0 m 14 ls []) := by
  unfold f_X10_offers_b14 at hf
  refine lv_iload_n C.1 C.2.1 dX10_offers_14 rfl (lv_at hl 2 rfl) ?_
  refine r_iconst C dX10_offers_15 ?_
  refine r_icmp_ne C rfl (show w32 (-1) = (-1) by decide) (tgt := 23) dX10_offers_16 (by decide) (fun h6 => ?_) (fun h6 => ?_)
  · replace hf := if_t hf h6
    refine lv_iload_n C.1 C.2.1 dX10_offers_19 rfl (lv_at hl 1 rfl) ?_
    refine lv_goto C.1 C.2.1 (tgt := 30) dX10_offers_20 (by decide) ?_
    exact b_X10_offers_b30 C hend v1 S (lv_sub hl [0] rfl) hf
  · replace hf := if_f hf h6
    refine lv_iload_n C.1 C.2.1 dX10_offers_23 rfl (lv_at hl 1 rfl) ?_
    refine r_iconst C dX10_offers_24 ?_
    refine lv_iload_n C.1 C.2.1 dX10_offers_25 rfl (lv_at hl 2 rfl) ?_
    refine r_ishl C (y1 := (u32 v2 % 32)) rfl dX10_offers_26 ?_
    refine r_iconst C dX10_offers_27 ?_
    refine r_ixor C rfl (show u32 (-1) = 4294967295 by decide) dX10_offers_28 ?_
    refine r_iand C rfl (u32_nat (nb_xor (u32_lt _) (show 4294967295 < 4294967296 by decide))) dX10_offers_29 ?_
    exact b_X10_offers_b30 C hend ((((u32 v1) &&& ((u32 (1 * ((2 ^ (u32 v2 % 32) : Nat) : Int))) ^^^ 4294967295) : Nat) : Int)) S (lv_sub hl [0] rfl) hf
set_option maxRecDepth 100000 in
set_option maxHeartbeats 4000000 in
theorem ct_X10_offers (l : Launch) (G : Gd) (τ : Sg) {v1 : Int} {v2 : Int} {σ : Sg} {q : Sg} (hf : f_X10_offers v1 v2 σ = some q) : Ctr l yX10_offers cX10_offers 4 none (rmk 1 21) G false τ [.ref (G.1 41), .int (oI v1), .int (oI v2)] σ q none := by
  unfold f_X10_offers at hf
  refine CtrV.of (own := RX10) (plainFor_of_name (by decide)) (Nat.le_of_ble_eq_true rfl) rfl (fun p e s m below meth c Q ls C hl S hend => ?_)
  have hl : lv_has ls 4 [(0, .ref (G.1 41)), (1, .int (oI v1)), (2, .int (oI v2))] := hl
  refine lv_iload_n C.1 C.2.1 dX10_offers_0 rfl (lv_at hl 2 rfl) ?_
  refine r_iconst C dX10_offers_1 ?_
  refine r_icmp_eq C rfl (show w32 (-1) = (-1) by decide) (tgt := 14) dX10_offers_2 (by decide) (fun h10 => ?_) (fun h10 => ?_)
  · replace hf := if_t hf h10
    exact b_X10_offers_b14 C hend v1 v2 S (lv_sub hl [0, 1, 2] rfl) hf
  · replace hf := if_f hf h10
    refine lv_iload_n C.1 C.2.1 dX10_offers_5 rfl (lv_at hl 1 rfl) ?_
    refine lv_iload_n C.1 C.2.1 dX10_offers_6 rfl (lv_at hl 2 rfl) ?_
    obtain ⟨q7, hc8, hf⟩ := bd_o hf
    refine r_callSv C S (As := [.int (oI v1), .int (oI v2)]) (rest := []) (ct_X10_has l G τ hc8) mi_X10_has tw_1285 ms_X10_has ⟨rfl, rfl⟩ ⟨Nat.le_of_ble_eq_true rfl, Nat.le_of_ble_eq_true rfl⟩ ⟨Nat.zero_le _, Nat.zero_le _⟩ rfl hl.1 rfl (Nat.le_of_ble_eq_true rfl) dX10_offers_7 (fun H locs S => ?_)
    refine r_if_ne C rfl (tgt := 14) dX10_offers_10 (by decide) (fun h9 => ?_) (fun h9 => ?_)
    · replace hf := if_t hf h9
      cases hf
      exact hend _ _ _ _ S dX10_offers_13
    · replace hf := if_f hf h9
      exact b_X10_offers_b14 C hend v1 v2 S (lv_sub hl [0, 1, 2] rfl) hf
set_option maxRecDepth 100000 in
set_option maxHeartbeats 4000000 in
theorem ct_X10_canBeRim (l : Launch) (G : Gd) (τ : Sg) {v1 : Int} {v2 : Int} {v3 : Int} {σ : Sg} {q : Int} (hf : f_X10_canBeRim v1 v2 v3 σ = some q) : Ctr l yX10_canBeRim cX10_canBeRim 5 (some .boolean) (rmk 1 22) G false τ [.ref (G.1 41), .int (oI v1), .int (oI v2), .int (oI v3)] σ σ (some (.int (oI q))) := by
  unfold f_X10_canBeRim at hf
  refine CtrZ.of (own := RX10) (plainFor_of_name (by decide)) (Nat.le_of_ble_eq_true rfl) rfl (fun p e s m below meth c Q ls C hl S hend => ?_)
  have hl : lv_has ls 5 [(0, .ref (G.1 41)), (1, .int (oI v1)), (2, .int (oI v2)), (3, .int (oI v3))] := hl
  refine lv_aload_n C.1 C.2.1 dX10_canBeRim_0 rfl (lv_at hl 0 rfl) ?_
  refine lv_iload_n C.1 C.2.1 dX10_canBeRim_1 rfl (lv_at hl 1 rfl) ?_
  refine lv_iload_n C.1 C.2.1 dX10_canBeRim_2 rfl (lv_at hl 2 rfl) ?_
  obtain ⟨q1, hc2, hf⟩ := bd_o hf
  refine r_callVv C S (As := [.int (oI v1), .int (oI v2)]) (rest := []) (ct_X10_distance l G τ hc2) mi_X10_distance tw_1297 mv_X10_distance (rvX10 S) ⟨rfl, rfl⟩ ⟨Nat.le_of_ble_eq_true rfl, Nat.le_of_ble_eq_true rfl⟩ ⟨Nat.zero_le _, Nat.zero_le _⟩ rfl hl.1 rfl (Nat.le_of_ble_eq_true rfl) dX10_canBeRim_3 (fun H locs S => ?_)
  refine lv_istore C.1 C.2.1 dX10_canBeRim_6 hl (by decide) (lv' := [(4, .int (oI q1)), (0, .ref (G.1 41)), (1, .int (oI v1)), (2, .int (oI v2)), (3, .int (oI v3))]) rfl (fun ls hl => ?_)
  refine lv_iload C.1 C.2.1 dX10_canBeRim_8 (lv_at hl 0 rfl) ?_
  refine r_if_le C rfl (tgt := 27) dX10_canBeRim_10 (by decide) (fun h4 => ?_) (fun h4 => ?_)
  · replace hf := if_t hf h4
    refine r_iconst C dX10_canBeRim_27 ?_
    cases hf
    exact hend (Or.inl rfl) _ _ _ _ S dX10_canBeRim_28
  · replace hf := if_f hf h4
    refine lv_iload C.1 C.2.1 dX10_canBeRim_13 (lv_at hl 0 rfl) ?_
    refine r_iconst C dX10_canBeRim_15 ?_
    refine lv_iload_n C.1 C.2.1 dX10_canBeRim_16 rfl (lv_at hl 4 rfl) ?_
    refine r_imul C dX10_canBeRim_17 ?_
    refine lv_iload_n C.1 C.2.1 dX10_canBeRim_18 rfl (lv_at hl 4 rfl) ?_
    refine r_imul C dX10_canBeRim_19 ?_
    refine r_icmp_gt C rfl rfl (tgt := 27) dX10_canBeRim_20 (by decide) (fun h3 => ?_) (fun h3 => ?_)
    · replace hf := if_t hf h3
      refine r_iconst C dX10_canBeRim_23 ?_
      refine lv_goto C.1 C.2.1 (tgt := 28) dX10_canBeRim_24 (by decide) ?_
      cases hf
      exact hend (Or.inr rfl) _ _ _ _ S dX10_canBeRim_28
    · replace hf := if_f hf h3
      refine r_iconst C dX10_canBeRim_27 ?_
      cases hf
      exact hend (Or.inl rfl) _ _ _ _ S dX10_canBeRim_28
set_option maxRecDepth 100000 in
set_option maxHeartbeats 4000000 in
theorem b_X10_isIn_b228 (C : Cx p s m args c RX10 cX10_isIn 26) {q : Int} (hend : (q = 0 ∨ q = 1) → EndR p l e (rmk 0 0) s m args below meth c Q G false τ cX10_isIn .ireturn [.int (oI q)] σ) {H : Heap} {locs : List Loc} {ls : Array Slot} (w0 : Int) (w1 : Int) (S : St G false τ σ s H locs) (hl : lv_has ls 26 []) (hf : f_X10_isIn_b228 σ w0 w1 = some q) : W p l e (rmk 0 0) s m args below meth c H locs 0 0 Q (F0 m 228 ls [.long (oL w0), .long (oL w1)]) := by
  unfold f_X10_isIn_b228 at hf
  refine r_lcmp_gt C rfl rfl (tgt := 236) dX10_isIn_228 dX10_isIn_229 (by decide) (fun h11 => ?_) (fun h11 => ?_)
  · replace hf := if_t hf h11
    refine r_iconst C dX10_isIn_232 ?_
    refine lv_goto C.1 C.2.1 (tgt := 237) dX10_isIn_233 (by decide) ?_
    cases hf
    exact hend (Or.inr rfl) _ _ _ _ S dX10_isIn_237
  · replace hf := if_f hf h11
    refine r_iconst C dX10_isIn_236 ?_
    cases hf
    exact hend (Or.inl rfl) _ _ _ _ S dX10_isIn_237
set_option maxRecDepth 100000 in
set_option maxHeartbeats 4000000 in
theorem b_X10_isIn_b195 (C : Cx p s m args c RX10 cX10_isIn 26) {q : Int} (hend : (q = 0 ∨ q = 1) → EndR p l e (rmk 0 0) s m args below meth c Q G false τ cX10_isIn .ireturn [.int (oI q)] σ) {H : Heap} {locs : List Loc} {ls : Array Slot} (v18 : Int) (v20 : Int) (w0 : Int) (S : St G false τ σ s H locs) (hl : lv_has ls 26 [(18, .long (oL v18)), (20, .long (oL v20))]) (hf : f_X10_isIn_b195 σ v18 v20 w0 = some q) : W p l e (rmk 0 0) s m args below meth c H locs 0 0 Q (F0 m 195 ls [.long (oL w0)]) := by
  unfold f_X10_isIn_b195 at hf
  refine lv_lstore C.1 C.2.1 dX10_isIn_195 hl (by decide) (lv' := [(22, .long (oL w0)), (18, .long (oL v18)), (20, .long (oL v20))]) rfl (fun ls hl => ?_)
  refine r_ldc2 C tw_1318 dX10_isIn_197 ?_
  refine lv_lload C.1 C.2.1 dX10_isIn_200 (lv_at hl 1 rfl) ?_
  refine r_lmul C dX10_isIn_202 ?_
  refine lv_lload C.1 C.2.1 dX10_isIn_203 (lv_at hl 1 rfl) ?_
  refine r_lmul C dX10_isIn_205 ?_
  refine lv_lload C.1 C.2.1 dX10_isIn_206 (lv_at hl 2 rfl) ?_
  refine r_lmul C dX10_isIn_208 ?_
  refine lv_lstore C.1 C.2.1 dX10_isIn_209 hl (by decide) (lv' := [(24, .long (oL (((4 * v18) * v18) * v20))), (22, .long (oL w0)), (18, .long (oL v18)), (20, .long (oL v20))]) rfl (fun ls hl => ?_)
  refine lv_lload C.1 C.2.1 dX10_isIn_211 (lv_at hl 1 rfl) ?_
  refine lv_lload C.1 C.2.1 dX10_isIn_213 (lv_at hl 2 rfl) ?_
  refine r_lconst C (z := 0) dX10_isIn_215 (by decide) ?_
  refine r_lcmp_ge C rfl (show w64 0 = 0 by decide) (tgt := 226) dX10_isIn_216 dX10_isIn_217 (by decide) (fun h12 => ?_) (fun h12 => ?_)
  · replace hf := if_t hf h12
    refine lv_lload C.1 C.2.1 dX10_isIn_220 (lv_at hl 0 rfl) ?_
    refine r_lneg C dX10_isIn_222 ?_
    refine lv_goto C.1 C.2.1 (tgt := 228) dX10_isIn_223 (by decide) ?_
    exact b_X10_isIn_b228 C hend (-(((4 * v18) * v18) * v20)) w0 S (lv_sub hl [] rfl) hf
  · replace hf := if_f hf h12
    refine lv_lload C.1 C.2.1 dX10_isIn_226 (lv_at hl 0 rfl) ?_
    exact b_X10_isIn_b228 C hend (((4 * v18) * v18) * v20) w0 S (lv_sub hl [] rfl) hf
set_option maxRecDepth 100000 in
set_option maxHeartbeats 4000000 in
theorem b_X10_isIn_b150 (C : Cx p s m args c RX10 cX10_isIn 26) {q : Int} (hend : (q = 0 ∨ q = 1) → EndR p l e (rmk 0 0) s m args below meth c Q G false τ cX10_isIn .ireturn [.int (oI q)] σ) {H : Heap} {locs : List Loc} {ls : Array Slot} (v4 : Int) (v10 : Int) (v16 : Int) (w0 : Int) (S : St G false τ σ s H locs) (hl : lv_has ls 26 [(4, .int (oI v4)), (10, .long (oL v10)), (16, .long (oL v16))]) (hf : f_X10_isIn_b150 σ v4 v10 v16 w0 = some q) : W p l e (rmk 0 0) s m args below meth c H locs 0 0 Q (F0 m 150 ls [.long (oL w0)]) := by
  unfold f_X10_isIn_b150 at hf
  refine lv_lstore C.1 C.2.1 dX10_isIn_150 hl (by decide) (lv' := [(18, .long (oL w0)), (4, .int (oI v4)), (10, .long (oL v10)), (16, .long (oL v16))]) rfl (fun ls hl => ?_)
  refine r_ldc2 C tw_1318 dX10_isIn_152 ?_
  refine lv_iload C.1 C.2.1 dX10_isIn_155 (lv_at hl 1 rfl) ?_
  refine r_i2l C dX10_isIn_157 ?_
  refine r_lmul C dX10_isIn_158 ?_
  refine lv_iload C.1 C.2.1 dX10_isIn_159 (lv_at hl 1 rfl) ?_
  refine r_i2l C dX10_isIn_161 ?_
  refine r_lmul C dX10_isIn_162 ?_
  refine lv_lload C.1 C.2.1 dX10_isIn_163 (lv_at hl 2 rfl) ?_
  refine r_lsub C dX10_isIn_165 ?_
  refine lv_lstore C.1 C.2.1 dX10_isIn_166 hl (by decide) (lv' := [(20, .long (oL (((4 * (w32 v4)) * (w32 v4)) - v10))), (18, .long (oL w0)), (4, .int (oI v4)), (10, .long (oL v10)), (16, .long (oL v16))]) rfl (fun ls hl => ?_)
  refine lv_lload C.1 C.2.1 dX10_isIn_168 (lv_at hl 4 rfl) ?_
  refine r_lconst C (z := 0) dX10_isIn_170 (by decide) ?_
  refine r_lcmp_ge C rfl (show w64 0 = 0 by decide) (tgt := 187) dX10_isIn_171 dX10_isIn_172 (by decide) (fun h13 => ?_) (fun h13 => ?_)
  · replace hf := if_t hf h13
    refine lv_lload C.1 C.2.1 dX10_isIn_175 (lv_at hl 4 rfl) ?_
    refine r_lneg C dX10_isIn_177 ?_
    refine lv_lload C.1 C.2.1 dX10_isIn_178 (lv_at hl 4 rfl) ?_
    refine r_lmul C dX10_isIn_180 ?_
    refine lv_lload C.1 C.2.1 dX10_isIn_181 (lv_at hl 3 rfl) ?_
    refine r_lmul C dX10_isIn_183 ?_
    refine lv_goto C.1 C.2.1 (tgt := 195) dX10_isIn_184 (by decide) ?_
    exact b_X10_isIn_b195 C hend w0 (((4 * (w32 v4)) * (w32 v4)) - v10) (((-v16) * v16) * v10) S (lv_sub hl [1, 0] rfl) hf
  · replace hf := if_f hf h13
    refine lv_lload C.1 C.2.1 dX10_isIn_187 (lv_at hl 4 rfl) ?_
    refine lv_lload C.1 C.2.1 dX10_isIn_189 (lv_at hl 4 rfl) ?_
    refine r_lmul C dX10_isIn_191 ?_
    refine lv_lload C.1 C.2.1 dX10_isIn_192 (lv_at hl 3 rfl) ?_
    refine r_lmul C dX10_isIn_194 ?_
    exact b_X10_isIn_b195 C hend w0 (((4 * (w32 v4)) * (w32 v4)) - v10) ((v16 * v16) * v10) S (lv_sub hl [1, 0] rfl) hf
set_option maxRecDepth 100000 in
set_option maxHeartbeats 4000000 in
theorem ct_X10_isIn (l : Launch) (G : Gd) (τ : Sg) {v1 : Int} {v2 : Int} {v3 : Int} {v4 : Int} {v5 : Int} {σ : Sg} {q : Int} (hf : f_X10_isIn v1 v2 v3 v4 v5 σ = some q) : Ctr l yX10_isIn cX10_isIn 26 (some .boolean) (rmk 0 0) G false τ [.ref (G.1 41), .int (oI v1), .int (oI v2), .int (oI v3), .int (oI v4), .int (oI v5)] σ σ (some (.int (oI q))) := by
  unfold f_X10_isIn at hf
  refine CtrZ.of (own := RX10) (plainFor_of_name (by decide)) (Nat.le_of_ble_eq_true rfl) rfl (fun p e s m below meth c Q ls C hl S hend => ?_)
  have hl : lv_has ls 26 [(0, .ref (G.1 41)), (1, .int (oI v1)), (2, .int (oI v2)), (3, .int (oI v3)), (4, .int (oI v4)), (5, .int (oI v5))] := hl
  refine lv_aload_n C.1 C.2.1 dX10_isIn_0 rfl (lv_at hl 0 rfl) ?_
  refine g10_x C S tw_1078 dX10_isIn_1 ?_
  refine lv_iload_n C.1 C.2.1 dX10_isIn_4 rfl (lv_at hl 2 rfl) ?_
  obtain ⟨hi1, hf⟩ := ck_o hf
  refine a_iald C S ar_45 hi1 dX10_isIn_5 ?_
  refine lv_aload_n C.1 C.2.1 dX10_isIn_6 rfl (lv_at hl 0 rfl) ?_
  refine g10_x C S tw_1078 dX10_isIn_7 ?_
  refine lv_iload_n C.1 C.2.1 dX10_isIn_10 rfl (lv_at hl 1 rfl) ?_
  obtain ⟨hi2, hf⟩ := ck_o hf
  refine a_iald C S ar_45 hi2 dX10_isIn_11 ?_
  refine r_isub C dX10_isIn_12 ?_
  refine r_i2l C dX10_isIn_13 ?_
  refine lv_lstore C.1 C.2.1 dX10_isIn_14 hl (by decide) (lv' := [(6, .long (oL (w32 ((σ 45 (v2).toNat) - (σ 45 (v1).toNat))))), (0, .ref (G.1 41)), (1, .int (oI v1)), (2, .int (oI v2)), (3, .int (oI v3)), (4, .int (oI v4)), (5, .int (oI v5))]) rfl (fun ls hl => ?_)
  refine lv_aload_n C.1 C.2.1 dX10_isIn_16 rfl (lv_at hl 1 rfl) ?_
  refine g10_y C S tw_1079 dX10_isIn_17 ?_
  refine lv_iload_n C.1 C.2.1 dX10_isIn_20 rfl (lv_at hl 3 rfl) ?_
  obtain ⟨hi3, hf⟩ := ck_o hf
  refine a_iald C S ar_46 hi3 dX10_isIn_21 ?_
  refine lv_aload_n C.1 C.2.1 dX10_isIn_22 rfl (lv_at hl 1 rfl) ?_
  refine g10_y C S tw_1079 dX10_isIn_23 ?_
  refine lv_iload_n C.1 C.2.1 dX10_isIn_26 rfl (lv_at hl 2 rfl) ?_
  obtain ⟨hi4, hf⟩ := ck_o hf
  refine a_iald C S ar_46 hi4 dX10_isIn_27 ?_
  refine r_isub C dX10_isIn_28 ?_
  refine r_i2l C dX10_isIn_29 ?_
  refine lv_lstore C.1 C.2.1 dX10_isIn_30 hl (by decide) (lv' := [(8, .long (oL (w32 ((σ 46 (v2).toNat) - (σ 46 (v1).toNat))))), (6, .long (oL (w32 ((σ 45 (v2).toNat) - (σ 45 (v1).toNat))))), (0, .ref (G.1 41)), (1, .int (oI v1)), (2, .int (oI v2)), (3, .int (oI v3)), (4, .int (oI v4)), (5, .int (oI v5))]) rfl (fun ls hl => ?_)
  refine lv_lload C.1 C.2.1 dX10_isIn_32 (lv_at hl 1 rfl) ?_
  refine lv_lload C.1 C.2.1 dX10_isIn_34 (lv_at hl 1 rfl) ?_
  refine r_lmul C dX10_isIn_36 ?_
  refine lv_lload C.1 C.2.1 dX10_isIn_37 (lv_at hl 0 rfl) ?_
  refine lv_lload C.1 C.2.1 dX10_isIn_39 (lv_at hl 0 rfl) ?_
  refine r_lmul C dX10_isIn_41 ?_
  refine r_ladd C dX10_isIn_42 ?_
  refine lv_lstore C.1 C.2.1 dX10_isIn_43 hl (by decide) (lv' := [(10, .long (oL (((w32 ((σ 45 (v2).toNat) - (σ 45 (v1).toNat))) * (w32 ((σ 45 (v2).toNat) - (σ 45 (v1).toNat)))) + ((w32 ((σ 46 (v2).toNat) - (σ 46 (v1).toNat))) * (w32 ((σ 46 (v2).toNat) - (σ 46 (v1).toNat))))))), (8, .long (oL (w32 ((σ 46 (v2).toNat) - (σ 46 (v1).toNat))))), (6, .long (oL (w32 ((σ 45 (v2).toNat) - (σ 45 (v1).toNat))))), (0, .ref (G.1 41)), (1, .int (oI v1)), (2, .int (oI v2)), (3, .int (oI v3)), (4, .int (oI v4)), (5, .int (oI v5))]) rfl (fun ls hl => ?_)
  refine r_ldc2 C tw_1317 dX10_isIn_45 ?_
  refine lv_aload_n C.1 C.2.1 dX10_isIn_48 rfl (lv_at hl 3 rfl) ?_
  refine g10_x C S tw_1078 dX10_isIn_49 ?_
  refine lv_iload C.1 C.2.1 dX10_isIn_52 (lv_at hl 8 rfl) ?_
  obtain ⟨hi5, hf⟩ := ck_o hf
  refine a_iald C S ar_45 hi5 dX10_isIn_54 ?_
  refine r_i2l C dX10_isIn_55 ?_
  refine r_lmul C dX10_isIn_56 ?_
  refine lv_aload_n C.1 C.2.1 dX10_isIn_57 rfl (lv_at hl 3 rfl) ?_
  refine g10_x C S tw_1078 dX10_isIn_58 ?_
  refine lv_iload_n C.1 C.2.1 dX10_isIn_61 rfl (lv_at hl 4 rfl) ?_
  obtain ⟨hi6, hf⟩ := ck_o hf
  refine a_iald C S ar_45 hi6 dX10_isIn_62 ?_
  refine r_i2l C dX10_isIn_63 ?_
  refine r_lsub C dX10_isIn_64 ?_
  refine lv_aload_n C.1 C.2.1 dX10_isIn_65 rfl (lv_at hl 3 rfl) ?_
  refine g10_x C S tw_1078 dX10_isIn_66 ?_
  refine lv_iload_n C.1 C.2.1 dX10_isIn_69 rfl (lv_at hl 5 rfl) ?_
  obtain ⟨hi7, hf⟩ := ck_o hf
  refine a_iald C S ar_45 hi7 dX10_isIn_70 ?_
  refine r_i2l C dX10_isIn_71 ?_
  refine r_lsub C dX10_isIn_72 ?_
  refine lv_lstore C.1 C.2.1 dX10_isIn_73 hl (by decide) (lv' := [(12, .long (oL (((2 * (w32 (σ 45 (v5).toNat))) - (w32 (σ 45 (v1).toNat))) - (w32 (σ 45 (v2).toNat))))), (10, .long (oL (((w32 ((σ 45 (v2).toNat) - (σ 45 (v1).toNat))) * (w32 ((σ 45 (v2).toNat) - (σ 45 (v1).toNat)))) + ((w32 ((σ 46 (v2).toNat) - (σ 46 (v1).toNat))) * (w32 ((σ 46 (v2).toNat) - (σ 46 (v1).toNat))))))), (8, .long (oL (w32 ((σ 46 (v2).toNat) - (σ 46 (v1).toNat))))), (6, .long (oL (w32 ((σ 45 (v2).toNat) - (σ 45 (v1).toNat))))), (0, .ref (G.1 41)), (1, .int (oI v1)), (2, .int (oI v2)), (3, .int (oI v3)), (4, .int (oI v4)), (5, .int (oI v5))]) rfl (fun ls hl => ?_)
  refine r_ldc2 C tw_1317 dX10_isIn_75 ?_
  refine lv_aload_n C.1 C.2.1 dX10_isIn_78 rfl (lv_at hl 4 rfl) ?_
  refine g10_y C S tw_1079 dX10_isIn_79 ?_
  refine lv_iload C.1 C.2.1 dX10_isIn_82 (lv_at hl 9 rfl) ?_
  obtain ⟨hi8, hf⟩ := ck_o hf
  refine a_iald C S ar_46 hi8 dX10_isIn_84 ?_
  refine r_i2l C dX10_isIn_85 ?_
  refine r_lmul C dX10_isIn_86 ?_
  refine lv_aload_n C.1 C.2.1 dX10_isIn_87 rfl (lv_at hl 4 rfl) ?_
  refine g10_y C S tw_1079 dX10_isIn_88 ?_
  refine lv_iload_n C.1 C.2.1 dX10_isIn_91 rfl (lv_at hl 5 rfl) ?_
  obtain ⟨hi9, hf⟩ := ck_o hf
  refine a_iald C S ar_46 hi9 dX10_isIn_92 ?_
  refine r_i2l C dX10_isIn_93 ?_
  refine r_lsub C dX10_isIn_94 ?_
  refine lv_aload_n C.1 C.2.1 dX10_isIn_95 rfl (lv_at hl 4 rfl) ?_
  refine g10_y C S tw_1079 dX10_isIn_96 ?_
  refine lv_iload_n C.1 C.2.1 dX10_isIn_99 rfl (lv_at hl 6 rfl) ?_
  obtain ⟨hi10, hf⟩ := ck_o hf
  refine a_iald C S ar_46 hi10 dX10_isIn_100 ?_
  refine r_i2l C dX10_isIn_101 ?_
  refine r_lsub C dX10_isIn_102 ?_
  refine lv_lstore C.1 C.2.1 dX10_isIn_103 hl (by decide) (lv' := [(14, .long (oL (((2 * (w32 (σ 46 (v5).toNat))) - (w32 (σ 46 (v1).toNat))) - (w32 (σ 46 (v2).toNat))))), (12, .long (oL (((2 * (w32 (σ 45 (v5).toNat))) - (w32 (σ 45 (v1).toNat))) - (w32 (σ 45 (v2).toNat))))), (10, .long (oL (((w32 ((σ 45 (v2).toNat) - (σ 45 (v1).toNat))) * (w32 ((σ 45 (v2).toNat) - (σ 45 (v1).toNat)))) + ((w32 ((σ 46 (v2).toNat) - (σ 46 (v1).toNat))) * (w32 ((σ 46 (v2).toNat) - (σ 46 (v1).toNat))))))), (8, .long (oL (w32 ((σ 46 (v2).toNat) - (σ 46 (v1).toNat))))), (6, .long (oL (w32 ((σ 45 (v2).toNat) - (σ 45 (v1).toNat))))), (0, .ref (G.1 41)), (1, .int (oI v1)), (2, .int (oI v2)), (3, .int (oI v3)), (4, .int (oI v4)), (5, .int (oI v5))]) rfl (fun ls hl => ?_)
  refine lv_lload C.1 C.2.1 dX10_isIn_105 (lv_at hl 1 rfl) ?_
  refine lv_lload C.1 C.2.1 dX10_isIn_107 (lv_at hl 1 rfl) ?_
  refine r_lmul C dX10_isIn_109 ?_
  refine lv_lload C.1 C.2.1 dX10_isIn_110 (lv_at hl 0 rfl) ?_
  refine lv_lload C.1 C.2.1 dX10_isIn_112 (lv_at hl 0 rfl) ?_
  refine r_lmul C dX10_isIn_114 ?_
  refine r_ladd C dX10_isIn_115 ?_
  refine lv_lload C.1 C.2.1 dX10_isIn_116 (lv_at hl 2 rfl) ?_
  refine r_lsub C dX10_isIn_118 ?_
  refine lv_lstore C.1 C.2.1 dX10_isIn_119 hl (by decide) (lv' := [(16, .long (oL ((((((2 * (w32 (σ 45 (v5).toNat))) - (w32 (σ 45 (v1).toNat))) - (w32 (σ 45 (v2).toNat))) * (((2 * (w32 (σ 45 (v5).toNat))) - (w32 (σ 45 (v1).toNat))) - (w32 (σ 45 (v2).toNat)))) + ((((2 * (w32 (σ 46 (v5).toNat))) - (w32 (σ 46 (v1).toNat))) - (w32 (σ 46 (v2).toNat))) * (((2 * (w32 (σ 46 (v5).toNat))) - (w32 (σ 46 (v1).toNat))) - (w32 (σ 46 (v2).toNat))))) - (((w32 ((σ 45 (v2).toNat) - (σ 45 (v1).toNat))) * (w32 ((σ 45 (v2).toNat) - (σ 45 (v1).toNat)))) + ((w32 ((σ 46 (v2).toNat) - (σ 46 (v1).toNat))) * (w32 ((σ 46 (v2).toNat) - (σ 46 (v1).toNat)))))))), (14, .long (oL (((2 * (w32 (σ 46 (v5).toNat))) - (w32 (σ 46 (v1).toNat))) - (w32 (σ 46 (v2).toNat))))), (12, .long (oL (((2 * (w32 (σ 45 (v5).toNat))) - (w32 (σ 45 (v1).toNat))) - (w32 (σ 45 (v2).toNat))))), (10, .long (oL (((w32 ((σ 45 (v2).toNat) - (σ 45 (v1).toNat))) * (w32 ((σ 45 (v2).toNat) - (σ 45 (v1).toNat)))) + ((w32 ((σ 46 (v2).toNat) - (σ 46 (v1).toNat))) * (w32 ((σ 46 (v2).toNat) - (σ 46 (v1).toNat))))))), (8, .long (oL (w32 ((σ 46 (v2).toNat) - (σ 46 (v1).toNat))))), (6, .long (oL (w32 ((σ 45 (v2).toNat) - (σ 45 (v1).toNat))))), (0, .ref (G.1 41)), (1, .int (oI v1)), (2, .int (oI v2)), (3, .int (oI v3)), (4, .int (oI v4)), (5, .int (oI v5))]) rfl (fun ls hl => ?_)
  refine lv_iload_n C.1 C.2.1 dX10_isIn_121 rfl (lv_at hl 9 rfl) ?_
  refine r_if_ne C rfl (tgt := 139) dX10_isIn_122 (by decide) (fun h14 => ?_) (fun h14 => ?_)
  · replace hf := if_t hf h14
    refine lv_lload C.1 C.2.1 dX10_isIn_125 (lv_at hl 1 rfl) ?_
    refine lv_lload C.1 C.2.1 dX10_isIn_127 (lv_at hl 5 rfl) ?_
    refine r_lmul C dX10_isIn_129 ?_
    refine lv_lload C.1 C.2.1 dX10_isIn_130 (lv_at hl 2 rfl) ?_
    refine lv_lload C.1 C.2.1 dX10_isIn_132 (lv_at hl 4 rfl) ?_
    refine r_lmul C dX10_isIn_134 ?_
    refine r_lsub C dX10_isIn_135 ?_
    refine lv_goto C.1 C.2.1 (tgt := 150) dX10_isIn_136 (by decide) ?_
    exact b_X10_isIn_b150 C hend v4 (((w32 ((σ 45 (v2).toNat) - (σ 45 (v1).toNat))) * (w32 ((σ 45 (v2).toNat) - (σ 45 (v1).toNat)))) + ((w32 ((σ 46 (v2).toNat) - (σ 46 (v1).toNat))) * (w32 ((σ 46 (v2).toNat) - (σ 46 (v1).toNat))))) ((((((2 * (w32 (σ 45 (v5).toNat))) - (w32 (σ 45 (v1).toNat))) - (w32 (σ 45 (v2).toNat))) * (((2 * (w32 (σ 45 (v5).toNat))) - (w32 (σ 45 (v1).toNat))) - (w32 (σ 45 (v2).toNat)))) + ((((2 * (w32 (σ 46 (v5).toNat))) - (w32 (σ 46 (v1).toNat))) - (w32 (σ 46 (v2).toNat))) * (((2 * (w32 (σ 46 (v5).toNat))) - (w32 (σ 46 (v1).toNat))) - (w32 (σ 46 (v2).toNat))))) - (((w32 ((σ 45 (v2).toNat) - (σ 45 (v1).toNat))) * (w32 ((σ 45 (v2).toNat) - (σ 45 (v1).toNat)))) + ((w32 ((σ 46 (v2).toNat) - (σ 46 (v1).toNat))) * (w32 ((σ 46 (v2).toNat) - (σ 46 (v1).toNat)))))) (((((2 * (w32 (σ 46 (v5).toNat))) - (w32 (σ 46 (v1).toNat))) - (w32 (σ 46 (v2).toNat))) * (w32 ((σ 45 (v2).toNat) - (σ 45 (v1).toNat)))) - ((((2 * (w32 (σ 45 (v5).toNat))) - (w32 (σ 45 (v1).toNat))) - (w32 (σ 45 (v2).toNat))) * (w32 ((σ 46 (v2).toNat) - (σ 46 (v1).toNat))))) S (lv_sub hl [10, 3, 0] rfl) hf
  · replace hf := if_f hf h14
    refine lv_lload C.1 C.2.1 dX10_isIn_139 (lv_at hl 2 rfl) ?_
    refine lv_lload C.1 C.2.1 dX10_isIn_141 (lv_at hl 4 rfl) ?_
    refine r_lmul C dX10_isIn_143 ?_
    refine lv_lload C.1 C.2.1 dX10_isIn_144 (lv_at hl 1 rfl) ?_
    refine lv_lload C.1 C.2.1 dX10_isIn_146 (lv_at hl 5 rfl) ?_
    refine r_lmul C dX10_isIn_148 ?_
    refine r_lsub C dX10_isIn_149 ?_
    exact b_X10_isIn_b150 C hend v4 (((w32 ((σ 45 (v2).toNat) - (σ 45 (v1).toNat))) * (w32 ((σ 45 (v2).toNat) - (σ 45 (v1).toNat)))) + ((w32 ((σ 46 (v2).toNat) - (σ 46 (v1).toNat))) * (w32 ((σ 46 (v2).toNat) - (σ 46 (v1).toNat))))) ((((((2 * (w32 (σ 45 (v5).toNat))) - (w32 (σ 45 (v1).toNat))) - (w32 (σ 45 (v2).toNat))) * (((2 * (w32 (σ 45 (v5).toNat))) - (w32 (σ 45 (v1).toNat))) - (w32 (σ 45 (v2).toNat)))) + ((((2 * (w32 (σ 46 (v5).toNat))) - (w32 (σ 46 (v1).toNat))) - (w32 (σ 46 (v2).toNat))) * (((2 * (w32 (σ 46 (v5).toNat))) - (w32 (σ 46 (v1).toNat))) - (w32 (σ 46 (v2).toNat))))) - (((w32 ((σ 45 (v2).toNat) - (σ 45 (v1).toNat))) * (w32 ((σ 45 (v2).toNat) - (σ 45 (v1).toNat)))) + ((w32 ((σ 46 (v2).toNat) - (σ 46 (v1).toNat))) * (w32 ((σ 46 (v2).toNat) - (σ 46 (v1).toNat)))))) (((((2 * (w32 (σ 45 (v5).toNat))) - (w32 (σ 45 (v1).toNat))) - (w32 (σ 45 (v2).toNat))) * (w32 ((σ 46 (v2).toNat) - (σ 46 (v1).toNat)))) - ((((2 * (w32 (σ 46 (v5).toNat))) - (w32 (σ 46 (v1).toNat))) - (w32 (σ 46 (v2).toNat))) * (w32 ((σ 45 (v2).toNat) - (σ 45 (v1).toNat))))) S (lv_sub hl [10, 3, 0] rfl) hf
set_option maxRecDepth 100000 in
set_option maxHeartbeats 4000000 in
theorem b_X10_onRim_b82 (C : Cx p s m args c RX10 cX10_onRim 8) {q : Int × Sg} {k11 : Int → Int → Int → Int → Int → Int → Int → Sg → Option (Int × Sg)} (hend : EndR p l e (rmk 1 45) s m args below meth c Q G false τ cX10_onRim .ireturn [.int (oI q.1)] q.2) (hk11 : ∀ {H : Heap} {locs : List Loc} {ls : Array Slot} {σ : Sg} (v1 : Int) (v2 : Int) (v3 : Int) (v4 : Int) (v5 : Int) (v6 : Int) (v7 : Int), St G false τ σ s H locs → lv_has ls 8 [(0, .ref (G.1 41)), (1, .int (oI v1)), (2, .int (oI v2)), (3, .int (oI v3)), (4, .int (oI v4)), (5, .int (oI v5)), (6, .int (oI v6)), (7, .int (oI v7))] → k11 v1 v2 v3 v4 v5 v6 v7 σ = some q → W p l e (rmk 1 45) s m args below meth c H locs 0 0 Q (F0 m 11 ls [])) {H : Heap} {locs : List Loc} {ls : Array Slot} {σ : Sg} (v1 : Int) (v2 : Int) (v3 : Int) (v4 : Int) (v5 : Int) (v6 : Int) (v7 : Int) (S : St G false τ σ s H locs) (hl : lv_has ls 8 [(0, .ref (G.1 41)), (1, .int (oI v1)), (2, .int (oI v2)), (3, .int (oI v3)), (4, .int (oI v4)), (5, .int (oI v5)), (6, .int (oI v6)), (7, .int (oI v7))]) (hf : f_X10_onRim_b82 k11 v1 v2 v3 v4 v5 v6 v7 σ = some q) : W p l e (rmk 1 45) s m args below meth c H locs 0 0 Q (F0 m 82 ls []) := by
  unfold f_X10_onRim_b82 at hf
  refine r_iinc C dX10_onRim_82 hl (k := 7) rfl (by decide) (lv' := [(7, .int (oI (v7 + 1))), (0, .ref (G.1 41)), (1, .int (oI v1)), (2, .int (oI v2)), (3, .int (oI v3)), (4, .int (oI v4)), (5, .int (oI v5)), (6, .int (oI v6))]) rfl (fun ls hl => ?_)
  refine lv_goto C.1 C.2.1 (tgt := 11) dX10_onRim_85 (by decide) ?_
  exact hk11 v1 v2 v3 v4 v5 v6 (v7 + 1) S (lv_sub hl [1, 2, 3, 4, 5, 6, 7, 0] rfl) hf
set_option maxRecDepth 100000 in
set_option maxHeartbeats 4000000 in
theorem b_X10_onRim_b57 (C : Cx p s m args c RX10 cX10_onRim 8) {q : Int × Sg} {k11 : Int → Int → Int → Int → Int → Int → Int → Sg → Option (Int × Sg)} (hend : EndR p l e (rmk 1 45) s m args below meth c Q G false τ cX10_onRim .ireturn [.int (oI q.1)] q.2) (hk11 : ∀ {H : Heap} {locs : List Loc} {ls : Array Slot} {σ : Sg} (v1 : Int) (v2 : Int) (v3 : Int) (v4 : Int) (v5 : Int) (v6 : Int) (v7 : Int), St G false τ σ s H locs → lv_has ls 8 [(0, .ref (G.1 41)), (1, .int (oI v1)), (2, .int (oI v2)), (3, .int (oI v3)), (4, .int (oI v4)), (5, .int (oI v5)), (6, .int (oI v6)), (7, .int (oI v7))] → k11 v1 v2 v3 v4 v5 v6 v7 σ = some q → W p l e (rmk 1 45) s m args below meth c H locs 0 0 Q (F0 m 11 ls [])) {H : Heap} {locs : List Loc} {ls : Array Slot} {σ : Sg} (v1 : Int) (v2 : Int) (v3 : Int) (v4 : Int) (v5 : Int) (v6 : Int) (v7 : Int) (S : St G false τ σ s H locs) (hl : lv_has ls 8 [(0, .ref (G.1 41)), (1, .int (oI v1)), (2, .int (oI v2)), (3, .int (oI v3)), (4, .int (oI v4)), (5, .int (oI v5)), (6, .int (oI v6)), (7, .int (oI v7))]) (hf : f_X10_onRim_b57 k11 v1 v2 v3 v4 v5 v6 v7 σ = some q) : W p l e (rmk 1 45) s m args below meth c H locs 0 0 Q (F0 m 57 ls []) := by
  unfold f_X10_onRim_b57 at hf
  refine lv_iload C.1 C.2.1 dX10_onRim_57 (lv_at hl 6 rfl) ?_
  refine r_iconst C dX10_onRim_59 ?_
  refine lv_iload C.1 C.2.1 dX10_onRim_60 (lv_at hl 7 rfl) ?_
  refine r_ishl C (y1 := (u32 v7 % 32)) rfl dX10_onRim_62 ?_
  refine r_ior C rfl rfl dX10_onRim_63 ?_
  refine lv_istore C.1 C.2.1 dX10_onRim_64 hl (by decide) (lv' := [(6, .int (oI ((((u32 v6) ||| (u32 (1 * ((2 ^ (u32 v7 % 32) : Nat) : Int))) : Nat) : Int)))), (0, .ref (G.1 41)), (1, .int (oI v1)), (2, .int (oI v2)), (3, .int (oI v3)), (4, .int (oI v4)), (5, .int (oI v5)), (7, .int (oI v7))]) rfl (fun ls hl => ?_)
  refine lv_aload_n C.1 C.2.1 dX10_onRim_66 rfl (lv_at hl 1 rfl) ?_
  refine lv_dup C.1 C.2.1 dX10_onRim_67 rfl ?_
  refine g10_held C S tw_1096 dX10_onRim_68 ?_
  refine lv_aload_n C.1 C.2.1 dX10_onRim_71 rfl (lv_at hl 1 rfl) ?_
  refine g10_sum C S tw_1080 dX10_onRim_72 ?_
  refine lv_iload C.1 C.2.1 dX10_onRim_75 (lv_at hl 7 rfl) ?_
  obtain ⟨hi4, hf⟩ := ck_o hf
  refine a_iald C S ar_47 hi4 dX10_onRim_77 ?_
  refine r_iadd C dX10_onRim_78 ?_
  refine p10_held C S tw_1096 dX10_onRim_79 (fun H locs S => ?_)
  obtain ⟨σ5, S, hf⟩ := wr_s S hf
  exact b_X10_onRim_b82 C hend hk11 v1 v2 v3 v4 v5 ((((u32 v6) ||| (u32 (1 * ((2 ^ (u32 v7 % 32) : Nat) : Int))) : Nat) : Int)) v7 S (lv_sub hl [1, 2, 3, 4, 5, 6, 0, 7] rfl) hf
set_option maxRecDepth 100000 in
set_option maxHeartbeats 4000000 in
theorem b_X10_onRim_b11 (C : Cx p s m args c RX10 cX10_onRim 8) {q : Int × Sg} (hend : EndR p l e (rmk 1 45) s m args below meth c Q G false τ cX10_onRim .ireturn [.int (oI q.1)] q.2) : ∀ (n : Nat) {H : Heap} {locs : List Loc} {ls : Array Slot} {σ : Sg} (v1 : Int) (v2 : Int) (v3 : Int) (v4 : Int) (v5 : Int) (v6 : Int) (v7 : Int) (S : St G false τ σ s H locs) (hl : lv_has ls 8 [(0, .ref (G.1 41)), (1, .int (oI v1)), (2, .int (oI v2)), (3, .int (oI v3)), (4, .int (oI v4)), (5, .int (oI v5)), (6, .int (oI v6)), (7, .int (oI v7))]) (hf : f_X10_onRim_b11 n v1 v2 v3 v4 v5 v6 v7 σ = some q), W p l e (rmk 1 45) s m args below meth c H locs 0 0 Q (F0 m 11 ls []) := by
  intro n
  induction n with
  | zero => intro H locs ls σ v1 v2 v3 v4 v5 v6 v7 S hl hf; cases hf
  | succ n ih =>
    intro H locs ls σ v1 v2 v3 v4 v5 v6 v7 S hl hf
    have hk11 := @ih
    rw [f_X10_onRim_b11] at hf
    refine lv_iload C.1 C.2.1 dX10_onRim_11 (lv_at hl 7 rfl) ?_
    refine r_bipush C dX10_onRim_13 (by decide) ?_
    refine r_icmp_gt C rfl (show w32 24 = 24 by decide) (tgt := 88) dX10_onRim_15 (by decide) (fun h12 => ?_) (fun h12 => ?_)
    · replace hf := if_t hf h12
      refine lv_iload C.1 C.2.1 dX10_onRim_18 (lv_at hl 4 rfl) ?_
      refine lv_iload C.1 C.2.1 dX10_onRim_20 (lv_at hl 7 rfl) ?_
      obtain ⟨q2, hc3, hf⟩ := bd_o hf
      refine r_callSv C S (As := [.int (oI v4), .int (oI v7)]) (rest := []) (ct_X10_has l G τ hc3) mi_X10_has tw_1285 ms_X10_has ⟨rfl, rfl⟩ ⟨Nat.le_of_ble_eq_true rfl, Nat.le_of_ble_eq_true rfl⟩ ⟨Nat.zero_le _, Nat.zero_le _⟩ rfl hl.1 rfl (Nat.le_of_ble_eq_true rfl) dX10_onRim_22 (fun H locs S => ?_)
      refine r_if_eq C rfl (tgt := 82) dX10_onRim_25 (by decide) (fun h11 => ?_) (fun h11 => ?_)
      · replace hf := if_t hf h11
        exact b_X10_onRim_b82 C hend hk11 v1 v2 v3 v4 v5 v6 v7 S (lv_sub hl [0, 1, 2, 3, 4, 5, 6, 7] rfl) hf
      · replace hf := if_f hf h11
        refine lv_iload C.1 C.2.1 dX10_onRim_28 (lv_at hl 7 rfl) ?_
        refine lv_iload_n C.1 C.2.1 dX10_onRim_30 rfl (lv_at hl 1 rfl) ?_
        refine r_icmp_eq C rfl rfl (tgt := 57) dX10_onRim_31 (by decide) (fun h10 => ?_) (fun h10 => ?_)
        · replace hf := if_t hf h10
          exact b_X10_onRim_b57 C hend hk11 v1 v2 v3 v4 v5 v6 v7 S (lv_sub hl [0, 1, 2, 3, 4, 5, 6, 7] rfl) hf
        · replace hf := if_f hf h10
          refine lv_iload C.1 C.2.1 dX10_onRim_34 (lv_at hl 7 rfl) ?_
          refine lv_iload_n C.1 C.2.1 dX10_onRim_36 rfl (lv_at hl 2 rfl) ?_
          refine r_icmp_eq C rfl rfl (tgt := 57) dX10_onRim_37 (by decide) (fun h9 => ?_) (fun h9 => ?_)
          · replace hf := if_t hf h9
            exact b_X10_onRim_b57 C hend hk11 v1 v2 v3 v4 v5 v6 v7 S (lv_sub hl [0, 1, 2, 3, 4, 5, 6, 7] rfl) hf
          · replace hf := if_f hf h9
            refine lv_aload_n C.1 C.2.1 dX10_onRim_40 rfl (lv_at hl 0 rfl) ?_
            refine lv_iload_n C.1 C.2.1 dX10_onRim_41 rfl (lv_at hl 1 rfl) ?_
            refine lv_iload_n C.1 C.2.1 dX10_onRim_42 rfl (lv_at hl 2 rfl) ?_
            refine lv_iload_n C.1 C.2.1 dX10_onRim_43 rfl (lv_at hl 3 rfl) ?_
            refine lv_iload C.1 C.2.1 dX10_onRim_44 (lv_at hl 5 rfl) ?_
            refine lv_iload C.1 C.2.1 dX10_onRim_46 (lv_at hl 7 rfl) ?_
            obtain ⟨q6, hc7, hf⟩ := bd_o hf
            refine r_callVv C S (As := [.int (oI v1), .int (oI v2), .int (oI v3), .int (oI v5), .int (oI v7)]) (rest := []) (ct_X10_isIn l G τ hc7) mi_X10_isIn tw_1313 mv_X10_isIn (rvX10 S) ⟨rfl, rfl⟩ ⟨Nat.le_of_ble_eq_true rfl, Nat.le_of_ble_eq_true rfl⟩ ⟨Nat.zero_le _, Nat.zero_le _⟩ rfl hl.1 rfl (Nat.le_of_ble_eq_true rfl) dX10_onRim_48 (fun H locs S => ?_)
            refine r_if_ne C rfl (tgt := 57) dX10_onRim_51 (by decide) (fun h8 => ?_) (fun h8 => ?_)
            · replace hf := if_t hf h8
              refine lv_goto C.1 C.2.1 (tgt := 82) dX10_onRim_54 (by decide) ?_
              exact b_X10_onRim_b82 C hend hk11 v1 v2 v3 v4 v5 v6 v7 S (lv_sub hl [0, 1, 2, 3, 4, 5, 6, 7] rfl) hf
            · replace hf := if_f hf h8
              exact b_X10_onRim_b57 C hend hk11 v1 v2 v3 v4 v5 v6 v7 S (lv_sub hl [0, 1, 2, 3, 4, 5, 6, 7] rfl) hf
    · replace hf := if_f hf h12
      refine lv_iload C.1 C.2.1 dX10_onRim_88 (lv_at hl 6 rfl) ?_
      cases hf
      exact hend _ _ _ _ S dX10_onRim_90
set_option maxRecDepth 100000 in
set_option maxHeartbeats 4000000 in
theorem ct_X10_onRim (l : Launch) (G : Gd) (τ : Sg) {v1 : Int} {v2 : Int} {v3 : Int} {v4 : Int} {v5 : Int} {σ : Sg} {q : Int × Sg} (hf : f_X10_onRim v1 v2 v3 v4 v5 σ = some q) : Ctr l yX10_onRim cX10_onRim 8 (some .int) (rmk 1 45) G false τ [.ref (G.1 41), .int (oI v1), .int (oI v2), .int (oI v3), .int (oI v4), .int (oI v5)] σ q.2 (some (.int (oI q.1))) := by
  unfold f_X10_onRim at hf
  refine CtrI.of (own := RX10) (plainFor_of_name (by decide)) (Nat.le_of_ble_eq_true rfl) rfl (fun p e s m below meth c Q ls C hl S hend => ?_)
  have hl : lv_has ls 8 [(0, .ref (G.1 41)), (1, .int (oI v1)), (2, .int (oI v2)), (3, .int (oI v3)), (4, .int (oI v4)), (5, .int (oI v5))] := hl
  refine r_iconst C dX10_onRim_0 ?_
  refine lv_istore C.1 C.2.1 dX10_onRim_1 hl (by decide) (lv' := [(6, .int (oI 0)), (0, .ref (G.1 41)), (1, .int (oI v1)), (2, .int (oI v2)), (3, .int (oI v3)), (4, .int (oI v4)), (5, .int (oI v5))]) rfl (fun ls hl => ?_)
  refine lv_aload_n C.1 C.2.1 dX10_onRim_3 rfl (lv_at hl 1 rfl) ?_
  refine r_iconst C dX10_onRim_4 ?_
  refine p10_held C S tw_1096 dX10_onRim_5 (fun H locs S => ?_)
  obtain ⟨σ1, S, hf⟩ := wr_s S hf
  refine r_iconst C dX10_onRim_8 ?_
  refine lv_istore C.1 C.2.1 dX10_onRim_9 hl (by decide) (lv' := [(7, .int (oI 0)), (6, .int (oI 0)), (0, .ref (G.1 41)), (1, .int (oI v1)), (2, .int (oI v2)), (3, .int (oI v3)), (4, .int (oI v4)), (5, .int (oI v5))]) rfl (fun ls hl => ?_)
  exact b_X10_onRim_b11 C hend FUEL v1 v2 v3 v4 v5 0 0 S (lv_sub hl [2, 3, 4, 5, 6, 7, 1, 0] rfl) hf
set_option maxRecDepth 100000 in
set_option maxHeartbeats 4000000 in
theorem b_X10_weighs_b160 (C : Cx p s m args c RX10 cX10_weighs 7) {q : Sg} {k48 : Int → Int → Int → Int → Sg → Option (Sg)} (hend : EndR p l e (rmk 2 72) s m args below meth c Q G false τ cX10_weighs .return_ [] q) (hk48 : ∀ {H : Heap} {locs : List Loc} {ls : Array Slot} {σ : Sg} (v2 : Int) (v3 : Int) (v4 : Int) (v5 : Int), St G false τ σ s H locs → lv_has ls 7 [(0, .ref (G.1 41)), (2, .int (oI v2)), (3, .int (oI v3)), (4, .int (oI v4)), (5, .int (oI v5))] → k48 v2 v3 v4 v5 σ = some q → W p l e (rmk 2 72) s m args below meth c H locs 0 0 Q (F0 m 48 ls [])) {H : Heap} {locs : List Loc} {ls : Array Slot} {σ : Sg} (v2 : Int) (v3 : Int) (v4 : Int) (v5 : Int) (S : St G false τ σ s H locs) (hl : lv_has ls 7 [(0, .ref (G.1 41)), (2, .int (oI v2)), (3, .int (oI v3)), (4, .int (oI v4)), (5, .int (oI v5))]) (hf : f_X10_weighs_b160 k48 v2 v3 v4 v5 σ = some q) : W p l e (rmk 2 72) s m args below meth c H locs 0 0 Q (F0 m 160 ls []) := by
  unfold f_X10_weighs_b160 at hf
  refine r_iinc C dX10_weighs_160 hl (k := 4) rfl (by decide) (lv' := [(5, .int (oI (v5 + 1))), (0, .ref (G.1 41)), (2, .int (oI v2)), (3, .int (oI v3)), (4, .int (oI v4))]) rfl (fun ls hl => ?_)
  refine lv_goto C.1 C.2.1 (tgt := 48) dX10_weighs_163 (by decide) ?_
  exact hk48 v2 v3 v4 (v5 + 1) S (lv_sub hl [1, 2, 3, 4, 0] rfl) hf
set_option maxRecDepth 100000 in
set_option maxHeartbeats 4000000 in
theorem b_X10_weighs_b154 (C : Cx p s m args c RX10 cX10_weighs 7) {q : Sg} {k48 : Int → Int → Int → Int → Sg → Option (Sg)} {k88 : Int → Int → Int → Int → Int → Sg → Option (Sg)} (hend : EndR p l e (rmk 2 72) s m args below meth c Q G false τ cX10_weighs .return_ [] q) (hk48 : ∀ {H : Heap} {locs : List Loc} {ls : Array Slot} {σ : Sg} (v2 : Int) (v3 : Int) (v4 : Int) (v5 : Int), St G false τ σ s H locs → lv_has ls 7 [(0, .ref (G.1 41)), (2, .int (oI v2)), (3, .int (oI v3)), (4, .int (oI v4)), (5, .int (oI v5))] → k48 v2 v3 v4 v5 σ = some q → W p l e (rmk 2 72) s m args below meth c H locs 0 0 Q (F0 m 48 ls [])) (hk88 : ∀ {H : Heap} {locs : List Loc} {ls : Array Slot} {σ : Sg} (v2 : Int) (v3 : Int) (v4 : Int) (v5 : Int) (v6 : Int), St G false τ σ s H locs → lv_has ls 7 [(0, .ref (G.1 41)), (2, .int (oI v2)), (3, .int (oI v3)), (4, .int (oI v4)), (5, .int (oI v5)), (6, .int (oI v6))] → k88 v2 v3 v4 v5 v6 σ = some q → W p l e (rmk 2 72) s m args below meth c H locs 0 0 Q (F0 m 88 ls [])) {H : Heap} {locs : List Loc} {ls : Array Slot} {σ : Sg} (v2 : Int) (v3 : Int) (v4 : Int) (v5 : Int) (v6 : Int) (S : St G false τ σ s H locs) (hl : lv_has ls 7 [(0, .ref (G.1 41)), (2, .int (oI v2)), (3, .int (oI v3)), (4, .int (oI v4)), (5, .int (oI v5)), (6, .int (oI v6))]) (hf : f_X10_weighs_b154 k48 k88 v2 v3 v4 v5 v6 σ = some q) : W p l e (rmk 2 72) s m args below meth c H locs 0 0 Q (F0 m 154 ls []) := by
  unfold f_X10_weighs_b154 at hf
  refine r_iinc C dX10_weighs_154 hl (k := 5) rfl (by decide) (lv' := [(6, .int (oI (v6 + 1))), (0, .ref (G.1 41)), (2, .int (oI v2)), (3, .int (oI v3)), (4, .int (oI v4)), (5, .int (oI v5))]) rfl (fun ls hl => ?_)
  refine lv_goto C.1 C.2.1 (tgt := 88) dX10_weighs_157 (by decide) ?_
  exact hk88 v2 v3 v4 v5 (v6 + 1) S (lv_sub hl [1, 2, 3, 4, 5, 0] rfl) hf
set_option maxRecDepth 100000 in
set_option maxHeartbeats 4000000 in
theorem b_X10_weighs_b88 (C : Cx p s m args c RX10 cX10_weighs 7) {q : Sg} {k48 : Int → Int → Int → Int → Sg → Option (Sg)} (hend : EndR p l e (rmk 2 72) s m args below meth c Q G false τ cX10_weighs .return_ [] q) (hk48 : ∀ {H : Heap} {locs : List Loc} {ls : Array Slot} {σ : Sg} (v2 : Int) (v3 : Int) (v4 : Int) (v5 : Int), St G false τ σ s H locs → lv_has ls 7 [(0, .ref (G.1 41)), (2, .int (oI v2)), (3, .int (oI v3)), (4, .int (oI v4)), (5, .int (oI v5))] → k48 v2 v3 v4 v5 σ = some q → W p l e (rmk 2 72) s m args below meth c H locs 0 0 Q (F0 m 48 ls [])) : ∀ (n : Nat) {H : Heap} {locs : List Loc} {ls : Array Slot} {σ : Sg} (v2 : Int) (v3 : Int) (v4 : Int) (v5 : Int) (v6 : Int) (S : St G false τ σ s H locs) (hl : lv_has ls 7 [(0, .ref (G.1 41)), (2, .int (oI v2)), (3, .int (oI v3)), (4, .int (oI v4)), (5, .int (oI v5)), (6, .int (oI v6))]) (hf : f_X10_weighs_b88 k48 n v2 v3 v4 v5 v6 σ = some q), W p l e (rmk 2 72) s m args below meth c H locs 0 0 Q (F0 m 88 ls []) := by
  intro n
  induction n with
  | zero => intro H locs ls σ v2 v3 v4 v5 v6 S hl hf; cases hf
  | succ n ih =>
    intro H locs ls σ v2 v3 v4 v5 v6 S hl hf
    have hk88 := @ih
    rw [f_X10_weighs_b88] at hf
    refine lv_iload C.1 C.2.1 dX10_weighs_88 (lv_at hl 5 rfl) ?_
    refine r_bipush C dX10_weighs_90 (by decide) ?_
    refine r_icmp_gt C rfl (show w32 24 = 24 by decide) (tgt := 160) dX10_weighs_92 (by decide) (fun h23 => ?_) (fun h23 => ?_)
    · replace hf := if_t hf h23
      refine lv_iload C.1 C.2.1 dX10_weighs_95 (lv_at hl 3 rfl) ?_
      refine lv_iload C.1 C.2.1 dX10_weighs_97 (lv_at hl 5 rfl) ?_
      obtain ⟨q9, hc10, hf⟩ := bd_o hf
      refine r_callSv C S (As := [.int (oI v4), .int (oI v6)]) (rest := []) (ct_X10_has l G τ hc10) mi_X10_has tw_1285 ms_X10_has ⟨rfl, rfl⟩ ⟨Nat.le_of_ble_eq_true rfl, Nat.le_of_ble_eq_true rfl⟩ ⟨Nat.zero_le _, Nat.zero_le _⟩ rfl hl.1 rfl (Nat.le_of_ble_eq_true rfl) dX10_weighs_99 (fun H locs S => ?_)
      refine r_if_eq C rfl (tgt := 154) dX10_weighs_102 (by decide) (fun h22 => ?_) (fun h22 => ?_)
      · replace hf := if_t hf h22
        exact b_X10_weighs_b154 C hend hk48 hk88 v2 v3 v4 v5 v6 S (lv_sub hl [0, 1, 2, 3, 4, 5] rfl) hf
      · replace hf := if_f hf h22
        refine lv_aload_n C.1 C.2.1 dX10_weighs_105 rfl (lv_at hl 0 rfl) ?_
        refine lv_iload C.1 C.2.1 dX10_weighs_106 (lv_at hl 4 rfl) ?_
        refine lv_iload C.1 C.2.1 dX10_weighs_108 (lv_at hl 5 rfl) ?_
        refine lv_iload_n C.1 C.2.1 dX10_weighs_110 rfl (lv_at hl 1 rfl) ?_
        obtain ⟨q11, hc12, hf⟩ := bd_o hf
        refine r_callVv C S (As := [.int (oI v5), .int (oI v6), .int (oI v2)]) (rest := []) (ct_X10_canBeRim l G τ hc12) mi_X10_canBeRim tw_1305 mv_X10_canBeRim (rvX10 S) ⟨rfl, rfl⟩ ⟨Nat.le_of_ble_eq_true rfl, Nat.le_of_ble_eq_true rfl⟩ ⟨Nat.zero_le _, Nat.zero_le _⟩ rfl hl.1 rfl (Nat.le_of_ble_eq_true rfl) dX10_weighs_111 (fun H locs S => ?_)
        refine r_if_ne C rfl (tgt := 120) dX10_weighs_114 (by decide) (fun h21 => ?_) (fun h21 => ?_)
        · replace hf := if_t hf h21
          refine lv_goto C.1 C.2.1 (tgt := 154) dX10_weighs_117 (by decide) ?_
          exact b_X10_weighs_b154 C hend hk48 hk88 v2 v3 v4 v5 v6 S (lv_sub hl [0, 1, 2, 3, 4, 5] rfl) hf
        · replace hf := if_f hf h21
          refine lv_aload_n C.1 C.2.1 dX10_weighs_120 rfl (lv_at hl 0 rfl) ?_
          refine lv_aload_n C.1 C.2.1 dX10_weighs_121 rfl (lv_at hl 0 rfl) ?_
          refine lv_iload C.1 C.2.1 dX10_weighs_122 (lv_at hl 4 rfl) ?_
          refine lv_iload C.1 C.2.1 dX10_weighs_124 (lv_at hl 5 rfl) ?_
          refine r_iconst C dX10_weighs_126 ?_
          refine lv_iload C.1 C.2.1 dX10_weighs_127 (lv_at hl 3 rfl) ?_
          refine lv_iload_n C.1 C.2.1 dX10_weighs_129 rfl (lv_at hl 1 rfl) ?_
          obtain ⟨q13, hc14, hf⟩ := bd_o hf
          refine r_callVv C S (As := [.int (oI v5), .int (oI v6), .int (oI 0), .int (oI v4), .int (oI v2)]) (rest := [.ref (G.1 41)]) (ct_X10_onRim l G τ hc14) mi_X10_onRim tw_1309 mv_X10_onRim (rvX10 S) ⟨rfl, rfl⟩ ⟨Nat.le_of_ble_eq_true rfl, Nat.le_of_ble_eq_true rfl⟩ ⟨Nat.zero_le _, Nat.zero_le _⟩ rfl hl.1 rfl (Nat.le_of_ble_eq_true rfl) dX10_weighs_130 (fun H locs S => ?_)
          refine lv_iload_n C.1 C.2.1 dX10_weighs_133 rfl (lv_at hl 2 rfl) ?_
          obtain ⟨q15, hc16, hf⟩ := bd_o hf
          refine r_callVn C S (As := [.int (oI q13.1), .int (oI v3)]) (rest := []) (ct_X10_offers l G τ hc16) mi_X10_offers tw_1301 mv_X10_offers (rvX10 S) ⟨rfl, rfl⟩ ⟨Nat.le_of_ble_eq_true rfl, Nat.le_of_ble_eq_true rfl⟩ ⟨Nat.zero_le _, Nat.zero_le _⟩ rfl hl.1 rfl (Nat.le_of_ble_eq_true rfl) dX10_weighs_134 (fun H locs S => ?_)
          refine lv_aload_n C.1 C.2.1 dX10_weighs_137 rfl (lv_at hl 0 rfl) ?_
          refine lv_aload_n C.1 C.2.1 dX10_weighs_138 rfl (lv_at hl 0 rfl) ?_
          refine lv_iload C.1 C.2.1 dX10_weighs_139 (lv_at hl 4 rfl) ?_
          refine lv_iload C.1 C.2.1 dX10_weighs_141 (lv_at hl 5 rfl) ?_
          refine r_iconst C dX10_weighs_143 ?_
          refine lv_iload C.1 C.2.1 dX10_weighs_144 (lv_at hl 3 rfl) ?_
          refine lv_iload_n C.1 C.2.1 dX10_weighs_146 rfl (lv_at hl 1 rfl) ?_
          obtain ⟨q17, hc18, hf⟩ := bd_o hf
          refine r_callVv C S (As := [.int (oI v5), .int (oI v6), .int (oI 1), .int (oI v4), .int (oI v2)]) (rest := [.ref (G.1 41)]) (ct_X10_onRim l G τ hc18) mi_X10_onRim tw_1309 mv_X10_onRim (rvX10 S) ⟨rfl, rfl⟩ ⟨Nat.le_of_ble_eq_true rfl, Nat.le_of_ble_eq_true rfl⟩ ⟨Nat.zero_le _, Nat.zero_le _⟩ rfl hl.1 rfl (Nat.le_of_ble_eq_true rfl) dX10_weighs_147 (fun H locs S => ?_)
          refine lv_iload_n C.1 C.2.1 dX10_weighs_150 rfl (lv_at hl 2 rfl) ?_
          obtain ⟨q19, hc20, hf⟩ := bd_o hf
          refine r_callVn C S (As := [.int (oI q17.1), .int (oI v3)]) (rest := []) (ct_X10_offers l G τ hc20) mi_X10_offers tw_1301 mv_X10_offers (rvX10 S) ⟨rfl, rfl⟩ ⟨Nat.le_of_ble_eq_true rfl, Nat.le_of_ble_eq_true rfl⟩ ⟨Nat.zero_le _, Nat.zero_le _⟩ rfl hl.1 rfl (Nat.le_of_ble_eq_true rfl) dX10_weighs_151 (fun H locs S => ?_)
          exact b_X10_weighs_b154 C hend hk48 hk88 v2 v3 v4 v5 v6 S (lv_sub hl [0, 1, 2, 3, 4, 5] rfl) hf
    · replace hf := if_f hf h23
      exact b_X10_weighs_b160 C hend hk48 v2 v3 v4 v5 S (lv_sub hl [0, 1, 2, 3, 4] rfl) hf
set_option maxRecDepth 100000 in
set_option maxHeartbeats 4000000 in
theorem b_X10_weighs_b48 (C : Cx p s m args c RX10 cX10_weighs 7) {q : Sg} (hend : EndR p l e (rmk 2 72) s m args below meth c Q G false τ cX10_weighs .return_ [] q) : ∀ (n : Nat) {H : Heap} {locs : List Loc} {ls : Array Slot} {σ : Sg} (v2 : Int) (v3 : Int) (v4 : Int) (v5 : Int) (S : St G false τ σ s H locs) (hl : lv_has ls 7 [(0, .ref (G.1 41)), (2, .int (oI v2)), (3, .int (oI v3)), (4, .int (oI v4)), (5, .int (oI v5))]) (hf : f_X10_weighs_b48 n v2 v3 v4 v5 σ = some q), W p l e (rmk 2 72) s m args below meth c H locs 0 0 Q (F0 m 48 ls []) := by
  intro n
  induction n with
  | zero => intro H locs ls σ v2 v3 v4 v5 S hl hf; cases hf
  | succ n ih =>
    intro H locs ls σ v2 v3 v4 v5 S hl hf
    have hk48 := @ih
    rw [f_X10_weighs_b48] at hf
    refine lv_iload C.1 C.2.1 dX10_weighs_48 (lv_at hl 4 rfl) ?_
    refine r_bipush C dX10_weighs_50 (by decide) ?_
    refine r_icmp_gt C rfl (show w32 24 = 24 by decide) (tgt := 166) dX10_weighs_52 (by decide) (fun h25 => ?_) (fun h25 => ?_)
    · replace hf := if_t hf h25
      refine lv_iload C.1 C.2.1 dX10_weighs_55 (lv_at hl 3 rfl) ?_
      refine lv_iload C.1 C.2.1 dX10_weighs_57 (lv_at hl 4 rfl) ?_
      obtain ⟨q3, hc4, hf⟩ := bd_o hf
      refine r_callSv C S (As := [.int (oI v4), .int (oI v5)]) (rest := []) (ct_X10_has l G τ hc4) mi_X10_has tw_1285 ms_X10_has ⟨rfl, rfl⟩ ⟨Nat.le_of_ble_eq_true rfl, Nat.le_of_ble_eq_true rfl⟩ ⟨Nat.zero_le _, Nat.zero_le _⟩ rfl hl.1 rfl (Nat.le_of_ble_eq_true rfl) dX10_weighs_59 (fun H locs S => ?_)
      refine r_if_ne C rfl (tgt := 68) dX10_weighs_62 (by decide) (fun h24 => ?_) (fun h24 => ?_)
      · replace hf := if_t hf h24
        refine lv_goto C.1 C.2.1 (tgt := 160) dX10_weighs_65 (by decide) ?_
        exact b_X10_weighs_b160 C hend hk48 v2 v3 v4 v5 S (lv_sub hl [0, 1, 2, 3, 4] rfl) hf
      · replace hf := if_f hf h24
        refine lv_aload_n C.1 C.2.1 dX10_weighs_68 rfl (lv_at hl 0 rfl) ?_
        refine lv_aload_n C.1 C.2.1 dX10_weighs_69 rfl (lv_at hl 0 rfl) ?_
        refine lv_iload C.1 C.2.1 dX10_weighs_70 (lv_at hl 4 rfl) ?_
        refine lv_iload C.1 C.2.1 dX10_weighs_72 (lv_at hl 3 rfl) ?_
        refine lv_iload_n C.1 C.2.1 dX10_weighs_74 rfl (lv_at hl 1 rfl) ?_
        obtain ⟨q5, hc6, hf⟩ := bd_o hf
        refine r_callVv C S (As := [.int (oI v5), .int (oI v4), .int (oI v2)]) (rest := [.ref (G.1 41)]) (ct_X10_around l G τ hc6) mi_X10_around tw_1293 mv_X10_around (rvX10 S) ⟨rfl, rfl⟩ ⟨Nat.le_of_ble_eq_true rfl, Nat.le_of_ble_eq_true rfl⟩ ⟨Nat.zero_le _, Nat.zero_le _⟩ rfl hl.1 rfl (Nat.le_of_ble_eq_true rfl) dX10_weighs_75 (fun H locs S => ?_)
        refine lv_iload_n C.1 C.2.1 dX10_weighs_78 rfl (lv_at hl 2 rfl) ?_
        obtain ⟨q7, hc8, hf⟩ := bd_o hf
        refine r_callVn C S (As := [.int (oI q5.1), .int (oI v3)]) (rest := []) (ct_X10_offers l G τ hc8) mi_X10_offers tw_1301 mv_X10_offers (rvX10 S) ⟨rfl, rfl⟩ ⟨Nat.le_of_ble_eq_true rfl, Nat.le_of_ble_eq_true rfl⟩ ⟨Nat.zero_le _, Nat.zero_le _⟩ rfl hl.1 rfl (Nat.le_of_ble_eq_true rfl) dX10_weighs_79 (fun H locs S => ?_)
        refine lv_iload C.1 C.2.1 dX10_weighs_82 (lv_at hl 4 rfl) ?_
        refine r_iconst C dX10_weighs_84 ?_
        refine r_iadd C dX10_weighs_85 ?_
        refine lv_istore C.1 C.2.1 dX10_weighs_86 hl (by decide) (lv' := [(6, .int (oI (v5 + 1))), (0, .ref (G.1 41)), (2, .int (oI v2)), (3, .int (oI v3)), (4, .int (oI v4)), (5, .int (oI v5))]) rfl (fun ls hl => ?_)
        exact b_X10_weighs_b88 C hend hk48 FUEL v2 v3 v4 v5 (v5 + 1) S (lv_sub hl [1, 2, 3, 4, 5, 0] rfl) hf
    · replace hf := if_f hf h25
      cases hf
      exact hend _ _ _ _ S dX10_weighs_166
set_option maxRecDepth 100000 in
set_option maxHeartbeats 4000000 in
theorem b_X10_weighs_b42 (C : Cx p s m args c RX10 cX10_weighs 7) {q : Sg} (hend : EndR p l e (rmk 2 72) s m args below meth c Q G false τ cX10_weighs .return_ [] q) {H : Heap} {locs : List Loc} {ls : Array Slot} {σ : Sg} (v2 : Int) (v3 : Int) (v4 : Int) (w0 : Int) (S : St G false τ σ s H locs) (hl : lv_has ls 7 [(0, .ref (G.1 41)), (2, .int (oI v2)), (3, .int (oI v3)), (4, .int (oI v4))]) (hf : f_X10_weighs_b42 v2 v3 v4 w0 σ = some q) : W p l e (rmk 2 72) s m args below meth c H locs 0 0 Q (F0 m 42 ls [.int (oI w0), .ref (G.1 41)]) := by
  unfold f_X10_weighs_b42 at hf
  refine p10_bestSet C S tw_1098 dX10_weighs_42 (fun H locs S => ?_)
  obtain ⟨σ2, S, hf⟩ := wr_s S hf
  refine r_iconst C dX10_weighs_45 ?_
  refine lv_istore C.1 C.2.1 dX10_weighs_46 hl (by decide) (lv' := [(5, .int (oI 0)), (0, .ref (G.1 41)), (2, .int (oI v2)), (3, .int (oI v3)), (4, .int (oI v4))]) rfl (fun ls hl => ?_)
  exact b_X10_weighs_b48 C hend FUEL v2 v3 v4 0 S (lv_sub hl [1, 2, 3, 4, 0] rfl) hf
set_option maxRecDepth 100000 in
set_option maxHeartbeats 4000000 in
theorem b_X10_weighs_b27 (C : Cx p s m args c RX10 cX10_weighs 7) {q : Sg} (hend : EndR p l e (rmk 2 72) s m args below meth c Q G false τ cX10_weighs .return_ [] q) {H : Heap} {locs : List Loc} {ls : Array Slot} {σ : Sg} (v2 : Int) (v3 : Int) (v4 : Int) (w0 : Int) (S : St G false τ σ s H locs) (hl : lv_has ls 7 [(0, .ref (G.1 41)), (2, .int (oI v2)), (3, .int (oI v3)), (4, .int (oI v4))]) (hf : f_X10_weighs_b27 v2 v3 v4 w0 σ = some q) : W p l e (rmk 2 72) s m args below meth c H locs 0 0 Q (F0 m 27 ls [.int (oI w0), .ref (G.1 41)]) := by
  unfold f_X10_weighs_b27 at hf
  refine p10_bestSum C S tw_1097 dX10_weighs_27 (fun H locs S => ?_)
  obtain ⟨σ1, S, hf⟩ := wr_s S hf
  refine lv_aload_n C.1 C.2.1 dX10_weighs_30 rfl (lv_at hl 0 rfl) ?_
  refine lv_iload C.1 C.2.1 dX10_weighs_31 (lv_at hl 3 rfl) ?_
  refine r_if_ne C rfl (tgt := 40) dX10_weighs_33 (by decide) (fun h26 => ?_) (fun h26 => ?_)
  · replace hf := if_t hf h26
    refine r_iconst C dX10_weighs_36 ?_
    refine lv_goto C.1 C.2.1 (tgt := 42) dX10_weighs_37 (by decide) ?_
    exact b_X10_weighs_b42 C hend v2 v3 v4 0 S (lv_sub hl [0, 1, 2, 3] rfl) hf
  · replace hf := if_f hf h26
    refine r_ldc C tw_1292 dX10_weighs_40 ?_
    exact b_X10_weighs_b42 C hend v2 v3 v4 2147483647 S (lv_sub hl [0, 1, 2, 3] rfl) hf
set_option maxRecDepth 100000 in
set_option maxHeartbeats 4000000 in
theorem b_X10_weighs_b14 (C : Cx p s m args c RX10 cX10_weighs 7) {q : Sg} (hend : EndR p l e (rmk 2 72) s m args below meth c Q G false τ cX10_weighs .return_ [] q) {H : Heap} {locs : List Loc} {ls : Array Slot} {σ : Sg} (v2 : Int) (v3 : Int) (w0 : Int) (S : St G false τ σ s H locs) (hl : lv_has ls 7 [(0, .ref (G.1 41)), (2, .int (oI v2)), (3, .int (oI v3))]) (hf : f_X10_weighs_b14 v2 v3 w0 σ = some q) : W p l e (rmk 2 72) s m args below meth c H locs 0 0 Q (F0 m 14 ls [.int (oI w0)]) := by
  unfold f_X10_weighs_b14 at hf
  refine lv_istore C.1 C.2.1 dX10_weighs_14 hl (by decide) (lv' := [(4, .int (oI w0)), (0, .ref (G.1 41)), (2, .int (oI v2)), (3, .int (oI v3))]) rfl (fun ls hl => ?_)
  refine lv_aload_n C.1 C.2.1 dX10_weighs_16 rfl (lv_at hl 1 rfl) ?_
  refine lv_iload C.1 C.2.1 dX10_weighs_17 (lv_at hl 0 rfl) ?_
  refine r_if_ne C rfl (tgt := 26) dX10_weighs_19 (by decide) (fun h27 => ?_) (fun h27 => ?_)
  · replace hf := if_t hf h27
    refine r_iconst C dX10_weighs_22 ?_
    refine lv_goto C.1 C.2.1 (tgt := 27) dX10_weighs_23 (by decide) ?_
    exact b_X10_weighs_b27 C hend v2 v3 w0 0 S (lv_sub hl [1, 2, 3, 0] rfl) hf
  · replace hf := if_f hf h27
    refine r_iconst C dX10_weighs_26 ?_
    exact b_X10_weighs_b27 C hend v2 v3 w0 ((-1)) S (lv_sub hl [1, 2, 3, 0] rfl) hf
set_option maxRecDepth 100000 in
set_option maxHeartbeats 4000000 in
theorem ct_X10_weighs (l : Launch) (G : Gd) (τ : Sg) {v1 : Int} {v2 : Int} {v3 : Int} {σ : Sg} {q : Sg} (hf : f_X10_weighs v1 v2 v3 σ = some q) : Ctr l yX10_weighs cX10_weighs 7 none (rmk 2 72) G false τ [.ref (G.1 41), .int (oI v1), .int (oI v2), .int (oI v3)] σ q none := by
  unfold f_X10_weighs at hf
  refine CtrV.of (own := RX10) (plainFor_of_name (by decide)) (Nat.le_of_ble_eq_true rfl) rfl (fun p e s m below meth c Q ls C hl S hend => ?_)
  have hl : lv_has ls 7 [(0, .ref (G.1 41)), (1, .int (oI v1)), (2, .int (oI v2)), (3, .int (oI v3))] := hl
  refine lv_iload_n C.1 C.2.1 dX10_weighs_0 rfl (lv_at hl 3 rfl) ?_
  refine r_iconst C dX10_weighs_1 ?_
  refine r_icmp_ne C rfl (show w32 (-1) = (-1) by decide) (tgt := 9) dX10_weighs_2 (by decide) (fun h28 => ?_) (fun h28 => ?_)
  · replace hf := if_t hf h28
    refine lv_iload_n C.1 C.2.1 dX10_weighs_5 rfl (lv_at hl 1 rfl) ?_
    refine lv_goto C.1 C.2.1 (tgt := 14) dX10_weighs_6 (by decide) ?_
    exact b_X10_weighs_b14 C hend v2 v3 v1 S (lv_sub hl [0, 2, 3] rfl) hf
  · replace hf := if_f hf h28
    refine lv_iload_n C.1 C.2.1 dX10_weighs_9 rfl (lv_at hl 1 rfl) ?_
    refine r_iconst C dX10_weighs_10 ?_
    refine lv_iload_n C.1 C.2.1 dX10_weighs_11 rfl (lv_at hl 3 rfl) ?_
    refine r_ishl C (y1 := (u32 v3 % 32)) rfl dX10_weighs_12 ?_
    refine r_ior C rfl rfl dX10_weighs_13 ?_
    exact b_X10_weighs_b14 C hend v2 v3 ((((u32 v1) ||| (u32 (1 * ((2 ^ (u32 v3 % 32) : Nat) : Int))) : Nat) : Int)) S (lv_sub hl [0, 2, 3] rfl) hf
set_option maxRecDepth 100000 in
set_option maxHeartbeats 4000000 in
theorem ct_X10_worstOf (l : Launch) (G : Gd) (τ : Sg) {v1 : Int} {σ : Sg} {q : Int × Sg} (hf : f_X10_worstOf v1 σ = some q) : Ctr l yX10_worstOf cX10_worstOf 2 (some .int) (rmk 3 98) G false τ [.ref (G.1 41), .int (oI v1)] σ q.2 (some (.int (oI q.1))) := by
  unfold f_X10_worstOf at hf
  refine CtrI.of (own := RX10) (plainFor_of_name (by decide)) (Nat.le_of_ble_eq_true rfl) rfl (fun p e s m below meth c Q ls C hl S hend => ?_)
  have hl : lv_has ls 2 [(0, .ref (G.1 41)), (1, .int (oI v1))] := hl
  refine lv_aload_n C.1 C.2.1 dX10_worstOf_0 rfl (lv_at hl 0 rfl) ?_
  refine lv_aload_n C.1 C.2.1 dX10_worstOf_1 rfl (lv_at hl 0 rfl) ?_
  refine lv_iload_n C.1 C.2.1 dX10_worstOf_2 rfl (lv_at hl 1 rfl) ?_
  obtain ⟨q1, hc2, hf⟩ := bd_o hf
  refine r_callVv C S (As := [.int (oI v1)]) (rest := [.ref (G.1 41)]) (ct_X10_ofTreaty l G τ hc2) mi_X10_ofTreaty tw_1277 mv_X10_ofTreaty (rvX10 S) ⟨rfl, rfl⟩ ⟨Nat.le_of_ble_eq_true rfl, Nat.le_of_ble_eq_true rfl⟩ ⟨Nat.zero_le _, Nat.zero_le _⟩ rfl hl.1 rfl (Nat.le_of_ble_eq_true rfl) dX10_worstOf_3 (fun H locs S => ?_)
  refine lv_aload_n C.1 C.2.1 dX10_worstOf_6 rfl (lv_at hl 0 rfl) ?_
  refine g10_radius C S tw_1084 dX10_worstOf_7 ?_
  refine lv_iload_n C.1 C.2.1 dX10_worstOf_10 rfl (lv_at hl 1 rfl) ?_
  obtain ⟨hi3, hf⟩ := ck_o hf
  refine a_iald C S ar_51 hi3 dX10_worstOf_11 ?_
  refine r_iconst C dX10_worstOf_12 ?_
  obtain ⟨q4, hc5, hf⟩ := bd_o hf
  refine r_callVn C S (As := [.int (oI q1), .int (oI (σ 51 (v1).toNat)), .int (oI ((-1)))]) (rest := []) (ct_X10_weighs l G τ hc5) mi_X10_weighs tw_1288 mv_X10_weighs (rvX10 S) ⟨rfl, rfl⟩ ⟨Nat.le_of_ble_eq_true rfl, Nat.le_of_ble_eq_true rfl⟩ ⟨Nat.zero_le _, Nat.zero_le _⟩ rfl hl.1 rfl (Nat.le_of_ble_eq_true rfl) dX10_worstOf_13 (fun H locs S => ?_)
  refine lv_aload_n C.1 C.2.1 dX10_worstOf_16 rfl (lv_at hl 0 rfl) ?_
  refine g10_bestSum C S tw_1097 dX10_worstOf_17 ?_
  cases hf
  exact hend _ _ _ _ S dX10_worstOf_20
set_option maxRecDepth 100000 in
set_option maxHeartbeats 4000000 in
theorem ct_X10_isPassed (l : Launch) (G : Gd) (τ : Sg) {v1 : Int} {σ : Sg} {q : Int × Sg} (hf : f_X10_isPassed v1 σ = some q) : Ctr l yX10_isPassed cX10_isPassed 2 (some .boolean) (rmk 4 119) G false τ [.ref (G.1 41), .int (oI v1)] σ q.2 (some (.int (oI q.1))) := by
  unfold f_X10_isPassed at hf
  refine CtrZ.of (own := RX10) (plainFor_of_name (by decide)) (Nat.le_of_ble_eq_true rfl) rfl (fun p e s m below meth c Q ls C hl S hend => ?_)
  have hl : lv_has ls 2 [(0, .ref (G.1 41)), (1, .int (oI v1))] := hl
  refine lv_aload_n C.1 C.2.1 dX10_isPassed_0 rfl (lv_at hl 0 rfl) ?_
  refine lv_iload_n C.1 C.2.1 dX10_isPassed_1 rfl (lv_at hl 1 rfl) ?_
  obtain ⟨q1, hc2, hf⟩ := bd_o hf
  refine r_callVv C S (As := [.int (oI v1)]) (rest := []) (ct_X10_worstOf l G τ hc2) mi_X10_worstOf tw_1273 mv_X10_worstOf (rvX10 S) ⟨rfl, rfl⟩ ⟨Nat.le_of_ble_eq_true rfl, Nat.le_of_ble_eq_true rfl⟩ ⟨Nat.zero_le _, Nat.zero_le _⟩ rfl hl.1 rfl (Nat.le_of_ble_eq_true rfl) dX10_isPassed_2 (fun H locs S => ?_)
  refine lv_aload_n C.1 C.2.1 dX10_isPassed_5 rfl (lv_at hl 0 rfl) ?_
  refine g10_limit C S tw_1085 dX10_isPassed_6 ?_
  refine lv_iload_n C.1 C.2.1 dX10_isPassed_9 rfl (lv_at hl 1 rfl) ?_
  obtain ⟨hi3, hf⟩ := ck_o hf
  refine a_iald C S ar_52 hi3 dX10_isPassed_10 ?_
  refine r_icmp_le C rfl rfl (tgt := 18) dX10_isPassed_11 (by decide) (fun h4 => ?_) (fun h4 => ?_)
  · replace hf := if_t hf h4
    refine r_iconst C dX10_isPassed_18 ?_
    cases hf
    exact hend (Or.inl rfl) _ _ _ _ S dX10_isPassed_19
  · replace hf := if_f hf h4
    refine r_iconst C dX10_isPassed_14 ?_
    refine lv_goto C.1 C.2.1 (tgt := 19) dX10_isPassed_15 (by decide) ?_
    cases hf
    exact hend (Or.inr rfl) _ _ _ _ S dX10_isPassed_19
set_option maxRecDepth 100000 in
set_option maxHeartbeats 4000000 in
theorem b_X10_notes_56_b26 (C : Cx p s m args c RX10 cX10_notes 5) {q : Sg} (hend : EndR p l e (rmk 0 0) s m args below meth c Q G false τ cX10_notes .return_ [] q) {H : Heap} {locs : List Loc} {ls : Array Slot} {σ : Sg} (v1 : Int) (v2 : Int) (v3 : Int) (S : St G false τ σ s H locs) (hl : lv_has ls 5 [(0, .ref (G.1 56)), (1, .int (oI v1)), (2, .int (oI v2)), (3, .int (oI v3))]) (hf : f_X10_notes_56_b26 v1 v2 v3 σ = some q) : W p l e (rmk 0 0) s m args below meth c H locs 0 0 Q (F0 m 26 ls []) := by
  unfold f_X10_notes_56_b26 at hf
  refine lv_aload_n C.1 C.2.1 dX10_notes_26 rfl (lv_at hl 0 rfl) ?_
  refine r_iconst C dX10_notes_27 ?_
  refine lv_iload_n C.1 C.2.1 dX10_notes_28 rfl (lv_at hl 1 rfl) ?_
  refine a_iast C S ar_56 (by decide) dX10_notes_29 (fun H locs S => ?_)
  obtain ⟨σ1, S, hf⟩ := wr_s S hf
  refine lv_aload_n C.1 C.2.1 dX10_notes_30 rfl (lv_at hl 0 rfl) ?_
  refine r_iconst C dX10_notes_31 ?_
  refine lv_iload_n C.1 C.2.1 dX10_notes_32 rfl (lv_at hl 2 rfl) ?_
  refine a_iast C S ar_56 (by decide) dX10_notes_33 (fun H locs S => ?_)
  obtain ⟨σ2, S, hf⟩ := wr_s S hf
  refine lv_aload_n C.1 C.2.1 dX10_notes_34 rfl (lv_at hl 0 rfl) ?_
  refine r_iconst C dX10_notes_35 ?_
  refine lv_iload_n C.1 C.2.1 dX10_notes_36 rfl (lv_at hl 3 rfl) ?_
  refine a_iast C S ar_56 (by decide) dX10_notes_37 (fun H locs S => ?_)
  obtain ⟨σ3, S, hf⟩ := wr_s S hf
  cases hf
  exact hend _ _ _ _ S dX10_notes_38
set_option maxRecDepth 100000 in
set_option maxHeartbeats 4000000 in
theorem b_X10_notes_56_b4 (C : Cx p s m args c RX10 cX10_notes 5) {q : Sg} (hend : EndR p l e (rmk 0 0) s m args below meth c Q G false τ cX10_notes .return_ [] q) : ∀ (n : Nat) {H : Heap} {locs : List Loc} {ls : Array Slot} {σ : Sg} (v1 : Int) (v2 : Int) (v3 : Int) (v4 : Int) (S : St G false τ σ s H locs) (hl : lv_has ls 5 [(0, .ref (G.1 56)), (1, .int (oI v1)), (2, .int (oI v2)), (3, .int (oI v3)), (4, .int (oI v4))]) (hf : f_X10_notes_56_b4 n v1 v2 v3 v4 σ = some q), W p l e (rmk 0 0) s m args below meth c H locs 0 0 Q (F0 m 4 ls []) := by
  intro n
  induction n with
  | zero => intro H locs ls σ v1 v2 v3 v4 S hl hf; cases hf
  | succ n ih =>
    intro H locs ls σ v1 v2 v3 v4 S hl hf
    have hk4 := @ih
    rw [f_X10_notes_56_b4] at hf
    refine lv_iload C.1 C.2.1 dX10_notes_4 (lv_at hl 4 rfl) ?_
    refine r_iconst C dX10_notes_6 ?_
    refine r_icmp_lt C rfl (show w32 3 = 3 by decide) (tgt := 26) dX10_notes_7 (by decide) (fun h7 => ?_) (fun h7 => ?_)
    · replace hf := if_t hf h7
      exact b_X10_notes_56_b26 C hend v1 v2 v3 S (lv_sub hl [0, 1, 2, 3] rfl) hf
    · replace hf := if_f hf h7
      refine lv_aload_n C.1 C.2.1 dX10_notes_10 rfl (lv_at hl 0 rfl) ?_
      refine lv_iload C.1 C.2.1 dX10_notes_11 (lv_at hl 4 rfl) ?_
      refine lv_aload_n C.1 C.2.1 dX10_notes_13 rfl (lv_at hl 0 rfl) ?_
      refine lv_iload C.1 C.2.1 dX10_notes_14 (lv_at hl 4 rfl) ?_
      refine r_iconst C dX10_notes_16 ?_
      refine r_isub C dX10_notes_17 ?_
      obtain ⟨hi4, hf⟩ := ck_o hf
      refine a_iald C S ar_56 hi4 dX10_notes_18 ?_
      obtain ⟨hi5, hf⟩ := ck_o hf
      refine a_iast C S ar_56 hi5 dX10_notes_19 (fun H locs S => ?_)
      obtain ⟨σ6, S, hf⟩ := wr_s S hf
      refine r_iinc C dX10_notes_20 hl (k := 4) rfl (by decide) (lv' := [(4, .int (oI (v4 + (-1)))), (0, .ref (G.1 56)), (1, .int (oI v1)), (2, .int (oI v2)), (3, .int (oI v3))]) rfl (fun ls hl => ?_)
      refine lv_goto C.1 C.2.1 (tgt := 4) dX10_notes_23 (by decide) ?_
      exact hk4 v1 v2 v3 (v4 + (-1)) S (lv_sub hl [1, 2, 3, 4, 0] rfl) hf
set_option maxRecDepth 100000 in
set_option maxHeartbeats 4000000 in
theorem ct_X10_notes_56 (l : Launch) (G : Gd) (τ : Sg) {v1 : Int} {v2 : Int} {v3 : Int} {σ : Sg} {q : Sg} (hf : f_X10_notes_56 v1 v2 v3 σ = some q) : Ctr l yX10_notes cX10_notes 5 none (rmk 0 0) G false τ [.ref (G.1 56), .int (oI v1), .int (oI v2), .int (oI v3)] σ q none := by
  unfold f_X10_notes_56 at hf
  refine CtrV.of (own := RX10) (plainFor_of_name (by decide)) (Nat.le_of_ble_eq_true rfl) rfl (fun p e s m below meth c Q ls C hl S hend => ?_)
  have hl : lv_has ls 5 [(0, .ref (G.1 56)), (1, .int (oI v1)), (2, .int (oI v2)), (3, .int (oI v3))] := hl
  refine r_bipush C dX10_notes_0 (by decide) ?_
  refine lv_istore C.1 C.2.1 dX10_notes_2 hl (by decide) (lv' := [(4, .int (oI 89)), (0, .ref (G.1 56)), (1, .int (oI v1)), (2, .int (oI v2)), (3, .int (oI v3))]) rfl (fun ls hl => ?_)
  exact b_X10_notes_56_b4 C hend FUEL v1 v2 v3 89 S (lv_sub hl [1, 2, 3, 4, 0] rfl) hf
set_option maxRecDepth 100000 in
set_option maxHeartbeats 4000000 in
theorem b_X10_looks_b104 (C : Cx p s m args c RX10 cX10_looks 3) {q : Sg} {k2 : Int → Sg → Option (Sg)} (hend : EndR p l e (rmk 5 140) s m args below meth c Q G false τ cX10_looks .return_ [] q) (hk2 : ∀ {H : Heap} {locs : List Loc} {ls : Array Slot} {σ : Sg} (v1 : Int), St G false τ σ s H locs → lv_has ls 3 [(0, .ref (G.1 41)), (1, .int (oI v1))] → k2 v1 σ = some q → W p l e (rmk 5 140) s m args below meth c H locs 0 0 Q (F0 m 2 ls [])) {H : Heap} {locs : List Loc} {ls : Array Slot} {σ : Sg} (v1 : Int) (S : St G false τ σ s H locs) (hl : lv_has ls 3 [(0, .ref (G.1 41)), (1, .int (oI v1))]) (hf : f_X10_looks_b104 k2 v1 σ = some q) : W p l e (rmk 5 140) s m args below meth c H locs 0 0 Q (F0 m 104 ls []) := by
  unfold f_X10_looks_b104 at hf
  refine r_iinc C dX10_looks_104 hl (k := 1) rfl (by decide) (lv' := [(1, .int (oI (v1 + 1))), (0, .ref (G.1 41))]) rfl (fun ls hl => ?_)
  refine lv_goto C.1 C.2.1 (tgt := 2) dX10_looks_107 (by decide) ?_
  exact hk2 (v1 + 1) S (lv_sub hl [1, 0] rfl) hf
set_option maxRecDepth 100000 in
set_option maxHeartbeats 4000000 in
theorem b_X10_looks_b92 (C : Cx p s m args c RX10 cX10_looks 3) {q : Sg} {k2 : Int → Sg → Option (Sg)} (hend : EndR p l e (rmk 5 140) s m args below meth c Q G false τ cX10_looks .return_ [] q) (hk2 : ∀ {H : Heap} {locs : List Loc} {ls : Array Slot} {σ : Sg} (v1 : Int), St G false τ σ s H locs → lv_has ls 3 [(0, .ref (G.1 41)), (1, .int (oI v1))] → k2 v1 σ = some q → W p l e (rmk 5 140) s m args below meth c H locs 0 0 Q (F0 m 2 ls [])) {H : Heap} {locs : List Loc} {ls : Array Slot} {σ : Sg} (v1 : Int) (v2 : Int) (S : St G false τ σ s H locs) (hl : lv_has ls 3 [(0, .ref (G.1 41)), (1, .int (oI v1)), (2, .int (oI v2))]) (hf : f_X10_looks_b92 k2 v1 v2 σ = some q) : W p l e (rmk 5 140) s m args below meth c H locs 0 0 Q (F0 m 92 ls []) := by
  unfold f_X10_looks_b92 at hf
  refine lv_iload_n C.1 C.2.1 dX10_looks_92 rfl (lv_at hl 2 rfl) ?_
  refine r_if_ne C rfl (tgt := 104) dX10_looks_93 (by decide) (fun h5 => ?_) (fun h5 => ?_)
  · replace hf := if_t hf h5
    refine lv_aload_n C.1 C.2.1 dX10_looks_96 rfl (lv_at hl 0 rfl) ?_
    refine g10_alarm C S tw_1086 dX10_looks_97 ?_
    refine lv_iload_n C.1 C.2.1 dX10_looks_100 rfl (lv_at hl 1 rfl) ?_
    refine r_bipush C dX10_looks_101 (by decide) ?_
    obtain ⟨hi3, hf⟩ := ck_o hf
    refine a_iast C S ar_53 hi3 dX10_looks_103 (fun H locs S => ?_)
    obtain ⟨σ4, S, hf⟩ := wr_s S hf
    exact b_X10_looks_b104 C hend hk2 v1 S (lv_sub hl [0, 1] rfl) hf
  · replace hf := if_f hf h5
    exact b_X10_looks_b104 C hend hk2 v1 S (lv_sub hl [0, 1] rfl) hf
set_option maxRecDepth 100000 in
set_option maxHeartbeats 4000000 in
theorem b_X10_looks_b89 (C : Cx p s m args c RX10 cX10_looks 3) {q : Sg} {k2 : Int → Sg → Option (Sg)} (hend : EndR p l e (rmk 5 140) s m args below meth c Q G false τ cX10_looks .return_ [] q) (hk2 : ∀ {H : Heap} {locs : List Loc} {ls : Array Slot} {σ : Sg} (v1 : Int), St G false τ σ s H locs → lv_has ls 3 [(0, .ref (G.1 41)), (1, .int (oI v1))] → k2 v1 σ = some q → W p l e (rmk 5 140) s m args below meth c H locs 0 0 Q (F0 m 2 ls [])) {H : Heap} {locs : List Loc} {ls : Array Slot} {σ : Sg} (v1 : Int) (v2 : Int) (w0 : Int) (S : St G false τ σ s H locs) (hl : lv_has ls 3 [(0, .ref (G.1 41)), (1, .int (oI v1)), (2, .int (oI v2))]) (hf : f_X10_looks_b89 k2 v1 v2 w0 σ = some q) : W p l e (rmk 5 140) s m args below meth c H locs 0 0 Q (F0 m 89 ls [.int (oI w0), .ref (G.1 41)]) := by
  unfold f_X10_looks_b89 at hf
  refine p10_alarmsLogged C S tw_1093 dX10_looks_89 (fun H locs S => ?_)
  obtain ⟨σ16, S, hf⟩ := wr_s S hf
  exact b_X10_looks_b92 C hend hk2 v1 v2 S (lv_sub hl [0, 1, 2] rfl) hf
set_option maxRecDepth 100000 in
set_option maxHeartbeats 4000000 in
theorem b_X10_looks_b2 (C : Cx p s m args c RX10 cX10_looks 3) {q : Sg} (hend : EndR p l e (rmk 5 140) s m args below meth c Q G false τ cX10_looks .return_ [] q) : ∀ (n : Nat) {H : Heap} {locs : List Loc} {ls : Array Slot} {σ : Sg} (v1 : Int) (S : St G false τ σ s H locs) (hl : lv_has ls 3 [(0, .ref (G.1 41)), (1, .int (oI v1))]) (hf : f_X10_looks_b2 n v1 σ = some q), W p l e (rmk 5 140) s m args below meth c H locs 0 0 Q (F0 m 2 ls []) := by
  intro n
  induction n with
  | zero => intro H locs ls σ v1 S hl hf; cases hf
  | succ n ih =>
    intro H locs ls σ v1 S hl hf
    have hk2 := @ih
    rw [f_X10_looks_b2] at hf
    refine lv_iload_n C.1 C.2.1 dX10_looks_2 rfl (lv_at hl 1 rfl) ?_
    refine lv_aload_n C.1 C.2.1 dX10_looks_3 rfl (lv_at hl 0 rfl) ?_
    refine g10_treaties C S tw_1088 dX10_looks_4 ?_
    refine r_icmp_ge C rfl rfl (tgt := 110) dX10_looks_7 (by decide) (fun h20 => ?_) (fun h20 => ?_)
    · replace hf := if_t hf h20
      refine lv_aload_n C.1 C.2.1 dX10_looks_10 rfl (lv_at hl 0 rfl) ?_
      refine lv_iload_n C.1 C.2.1 dX10_looks_11 rfl (lv_at hl 1 rfl) ?_
      obtain ⟨q1, hc2, hf⟩ := bd_o hf
      refine r_callVv C S (As := [.int (oI v1)]) (rest := []) (ct_X10_isPassed l G τ hc2) mi_X10_isPassed tw_1269 mv_X10_isPassed (rvX10 S) ⟨rfl, rfl⟩ ⟨Nat.le_of_ble_eq_true rfl, Nat.le_of_ble_eq_true rfl⟩ ⟨Nat.zero_le _, Nat.zero_le _⟩ rfl hl.1 rfl (Nat.le_of_ble_eq_true rfl) dX10_looks_12 (fun H locs S => ?_)
      refine lv_istore_n C.1 C.2.1 dX10_looks_15 rfl hl (by decide) (lv' := [(2, .int (oI q1.1)), (0, .ref (G.1 41)), (1, .int (oI v1))]) rfl (fun ls hl => ?_)
      refine lv_iload_n C.1 C.2.1 dX10_looks_16 rfl (lv_at hl 0 rfl) ?_
      refine r_if_eq C rfl (tgt := 92) dX10_looks_17 (by decide) (fun h19 => ?_) (fun h19 => ?_)
      · replace hf := if_t hf h19
        exact b_X10_looks_b92 C hend hk2 v1 q1.1 S (lv_sub hl [1, 2, 0] rfl) hf
      · replace hf := if_f hf h19
        refine lv_aload_n C.1 C.2.1 dX10_looks_20 rfl (lv_at hl 1 rfl) ?_
        refine g10_alarm C S tw_1086 dX10_looks_21 ?_
        refine lv_iload_n C.1 C.2.1 dX10_looks_24 rfl (lv_at hl 2 rfl) ?_
        obtain ⟨hi6, hf⟩ := ck_o hf
        refine a_iald C S ar_53 hi6 dX10_looks_25 ?_
        refine r_bipush C dX10_looks_26 (by decide) ?_
        refine r_icmp_ne C rfl (show w32 (-2) = (-2) by decide) (tgt := 92) dX10_looks_28 (by decide) (fun h18 => ?_) (fun h18 => ?_)
        · replace hf := if_t hf h18
          refine lv_aload_n C.1 C.2.1 dX10_looks_31 rfl (lv_at hl 1 rfl) ?_
          refine g10_alarm C S tw_1086 dX10_looks_32 ?_
          refine lv_iload_n C.1 C.2.1 dX10_looks_35 rfl (lv_at hl 2 rfl) ?_
          refine lv_aload_n C.1 C.2.1 dX10_looks_36 rfl (lv_at hl 1 rfl) ?_
          refine g10_acts C S tw_1089 dX10_looks_37 ?_
          obtain ⟨hi7, hf⟩ := ck_o hf
          refine a_iast C S ar_53 hi7 dX10_looks_40 (fun H locs S => ?_)
          obtain ⟨σ8, S, hf⟩ := wr_s S hf
          refine lv_aload_n C.1 C.2.1 dX10_looks_41 rfl (lv_at hl 1 rfl) ?_
          refine g10_alarms C S tw_1087 dX10_looks_42 ?_
          refine lv_iload_n C.1 C.2.1 dX10_looks_45 rfl (lv_at hl 2 rfl) ?_
          refine lv_dup2_11 C.1 C.2.1 dX10_looks_46 rfl rfl ?_
          obtain ⟨hi9, hf⟩ := ck_o hf
          refine a_iald C S ar_54 hi9 dX10_looks_47 ?_
          refine r_iconst C dX10_looks_48 ?_
          refine r_iadd C dX10_looks_49 ?_
          obtain ⟨hi10, hf⟩ := ck_o hf
          refine a_iast C S ar_54 hi10 dX10_looks_50 (fun H locs S => ?_)
          obtain ⟨σ11, S, hf⟩ := wr_s S hf
          refine lv_aload_n C.1 C.2.1 dX10_looks_51 rfl (lv_at hl 1 rfl) ?_
          refine g10_alarmLog C S tw_1092 dX10_looks_52 ?_
          refine lv_iload_n C.1 C.2.1 dX10_looks_55 rfl (lv_at hl 2 rfl) ?_
          refine lv_aload_n C.1 C.2.1 dX10_looks_56 rfl (lv_at hl 1 rfl) ?_
          refine g10_acts C S tw_1089 dX10_looks_57 ?_
          refine lv_aload_n C.1 C.2.1 dX10_looks_60 rfl (lv_at hl 1 rfl) ?_
          refine lv_iload_n C.1 C.2.1 dX10_looks_61 rfl (lv_at hl 2 rfl) ?_
          obtain ⟨q12, hc13, hf⟩ := bd_o hf
          refine r_callVv C S (As := [.int (oI v1)]) (rest := [.int (oI (σ11 41 28)), .int (oI v1), .ref (G.1 56)]) (ct_X10_worstOf l G τ hc13) mi_X10_worstOf tw_1273 mv_X10_worstOf (rvX10 S) ⟨rfl, rfl⟩ ⟨Nat.le_of_ble_eq_true rfl, Nat.le_of_ble_eq_true rfl⟩ ⟨Nat.zero_le _, Nat.zero_le _⟩ rfl hl.1 rfl (Nat.le_of_ble_eq_true rfl) dX10_looks_62 (fun H locs S => ?_)
          obtain ⟨q14, hc15, hf⟩ := bd_o hf
          refine r_callSn C S (As := [.ref (G.1 56), .int (oI v1), .int (oI (σ11 41 28)), .int (oI q12.1)]) (rest := []) (ct_X10_notes_56 l G τ hc15) mi_X10_notes tw_1319 ms_X10_notes ⟨rfl, rfl⟩ ⟨Nat.le_of_ble_eq_true rfl, Nat.le_of_ble_eq_true rfl⟩ ⟨Nat.zero_le _, Nat.zero_le _⟩ rfl hl.1 rfl (Nat.le_of_ble_eq_true rfl) dX10_looks_65 (fun H locs S => ?_)
          refine lv_aload_n C.1 C.2.1 dX10_looks_68 rfl (lv_at hl 1 rfl) ?_
          refine lv_aload_n C.1 C.2.1 dX10_looks_69 rfl (lv_at hl 1 rfl) ?_
          refine g10_alarmsLogged C S tw_1093 dX10_looks_70 ?_
          refine r_bipush C dX10_looks_73 (by decide) ?_
          refine r_icmp_ge C rfl (show w32 30 = 30 by decide) (tgt := 87) dX10_looks_75 (by decide) (fun h17 => ?_) (fun h17 => ?_)
          · replace hf := if_t hf h17
            refine lv_aload_n C.1 C.2.1 dX10_looks_78 rfl (lv_at hl 1 rfl) ?_
            refine g10_alarmsLogged C S tw_1093 dX10_looks_79 ?_
            refine r_iconst C dX10_looks_82 ?_
            refine r_iadd C dX10_looks_83 ?_
            refine lv_goto C.1 C.2.1 (tgt := 89) dX10_looks_84 (by decide) ?_
            exact b_X10_looks_b89 C hend hk2 v1 q1.1 ((q14 41 32) + 1) S (lv_sub hl [1, 2, 0] rfl) hf
          · replace hf := if_f hf h17
            refine r_bipush C dX10_looks_87 (by decide) ?_
            exact b_X10_looks_b89 C hend hk2 v1 q1.1 30 S (lv_sub hl [1, 2, 0] rfl) hf
        · replace hf := if_f hf h18
          exact b_X10_looks_b92 C hend hk2 v1 q1.1 S (lv_sub hl [1, 2, 0] rfl) hf
    · replace hf := if_f hf h20
      cases hf
      exact hend _ _ _ _ S dX10_looks_110
set_option maxRecDepth 100000 in
set_option maxHeartbeats 4000000 in
theorem ct_X10_looks (l : Launch) (G : Gd) (τ : Sg) {σ : Sg} {q : Sg} (hf : f_X10_looks σ = some q) : Ctr l yX10_looks cX10_looks 3 none (rmk 5 140) G false τ [.ref (G.1 41)] σ q none := by
  unfold f_X10_looks at hf
  refine CtrV.of (own := RX10) (plainFor_of_name (by decide)) (Nat.le_of_ble_eq_true rfl) rfl (fun p e s m below meth c Q ls C hl S hend => ?_)
  have hl : lv_has ls 3 [(0, .ref (G.1 41))] := hl
  refine r_iconst C dX10_looks_0 ?_
  refine lv_istore_n C.1 C.2.1 dX10_looks_1 rfl hl (by decide) (lv' := [(1, .int (oI 0)), (0, .ref (G.1 41))]) rfl (fun ls hl => ?_)
  exact b_X10_looks_b2 C hend FUEL 0 S (lv_sub hl [1, 0] rfl) hf
set_option maxRecDepth 100000 in
set_option maxHeartbeats 4000000 in
theorem b_X10_lays_b79 (C : Cx p s m args c RX10 cX10_lays 2) {q : Sg} {k2 : Int → Sg → Option (Sg)} (hend : EndR p l e (rmk 6 162) s m args below meth c Q G false τ cX10_lays .return_ [] q) (hk2 : ∀ {H : Heap} {locs : List Loc} {ls : Array Slot} {σ : Sg} (v1 : Int), St G false τ σ s H locs → lv_has ls 2 [(0, .ref (G.1 41)), (1, .int (oI v1))] → k2 v1 σ = some q → W p l e (rmk 6 162) s m args below meth c H locs 0 0 Q (F0 m 2 ls [])) {H : Heap} {locs : List Loc} {ls : Array Slot} {σ : Sg} (v1 : Int) (S : St G false τ σ s H locs) (hl : lv_has ls 2 [(0, .ref (G.1 41)), (1, .int (oI v1))]) (hf : f_X10_lays_b79 k2 v1 σ = some q) : W p l e (rmk 6 162) s m args below meth c H locs 0 0 Q (F0 m 79 ls []) := by
  unfold f_X10_lays_b79 at hf
  refine r_iinc C dX10_lays_79 hl (k := 1) rfl (by decide) (lv' := [(1, .int (oI (v1 + 1))), (0, .ref (G.1 41))]) rfl (fun ls hl => ?_)
  refine lv_goto C.1 C.2.1 (tgt := 2) dX10_lays_82 (by decide) ?_
  exact hk2 (v1 + 1) S (lv_sub hl [1, 0] rfl) hf
set_option maxRecDepth 100000 in
set_option maxHeartbeats 4000000 in
theorem b_X10_lays_b26 (C : Cx p s m args c RX10 cX10_lays 2) {q : Sg} {k2 : Int → Sg → Option (Sg)} (hend : EndR p l e (rmk 6 162) s m args below meth c Q G false τ cX10_lays .return_ [] q) (hk2 : ∀ {H : Heap} {locs : List Loc} {ls : Array Slot} {σ : Sg} (v1 : Int), St G false τ σ s H locs → lv_has ls 2 [(0, .ref (G.1 41)), (1, .int (oI v1))] → k2 v1 σ = some q → W p l e (rmk 6 162) s m args below meth c H locs 0 0 Q (F0 m 2 ls [])) {H : Heap} {locs : List Loc} {ls : Array Slot} {σ : Sg} (v1 : Int) (w0 : Int) (w1 : Int) (S : St G false τ σ s H locs) (hl : lv_has ls 2 [(0, .ref (G.1 41)), (1, .int (oI v1))]) (hf : f_X10_lays_b26 k2 v1 w0 w1 σ = some q) : W p l e (rmk 6 162) s m args below meth c H locs 0 0 Q (F0 m 26 ls [.int (oI w0), .int (oI w1), .ref (G.1 49)]) := by
  unfold f_X10_lays_b26 at hf
  obtain ⟨hi1, hf⟩ := ck_o hf
  obtain ⟨hb2, hf⟩ := ck_o hf
  refine a_zast C S ar_49 hi1 hb2 dX10_lays_26 (fun H locs S => ?_)
  obtain ⟨σ3, S, hf⟩ := wr_s S hf
  refine lv_aload_n C.1 C.2.1 dX10_lays_27 rfl (lv_at hl 0 rfl) ?_
  refine g10_isThere C S tw_1082 dX10_lays_28 ?_
  refine lv_iload_n C.1 C.2.1 dX10_lays_31 rfl (lv_at hl 1 rfl) ?_
  obtain ⟨hi4, hf⟩ := ck_o hf
  refine a_zald C S ar_49 hi4 dX10_lays_32 ?_
  refine r_if_eq C rfl (tgt := 79) dX10_lays_33 (by decide) (fun h11 => ?_) (fun h11 => ?_)
  · replace hf := if_t hf h11
    exact b_X10_lays_b79 C hend hk2 v1 S (lv_sub hl [0, 1] rfl) hf
  · replace hf := if_f hf h11
    refine lv_aload_n C.1 C.2.1 dX10_lays_36 rfl (lv_at hl 0 rfl) ?_
    refine lv_iload_n C.1 C.2.1 dX10_lays_37 rfl (lv_at hl 1 rfl) ?_
    refine lv_aload_n C.1 C.2.1 dX10_lays_38 rfl (lv_at hl 0 rfl) ?_
    refine g10_readPolicy C S tw_1064 dX10_lays_39 ?_
    refine r_iconst C dX10_lays_42 ?_
    refine lv_iload_n C.1 C.2.1 dX10_lays_43 rfl (lv_at hl 1 rfl) ?_
    refine r_imul C dX10_lays_44 ?_
    obtain ⟨hi5, hf⟩ := ck_o hf
    refine a_iald C S ar_43 hi5 dX10_lays_45 ?_
    refine lv_aload_n C.1 C.2.1 dX10_lays_46 rfl (lv_at hl 0 rfl) ?_
    refine g10_readPolicy C S tw_1064 dX10_lays_47 ?_
    refine r_iconst C dX10_lays_50 ?_
    refine lv_iload_n C.1 C.2.1 dX10_lays_51 rfl (lv_at hl 1 rfl) ?_
    refine r_imul C dX10_lays_52 ?_
    refine r_iconst C dX10_lays_53 ?_
    refine r_iadd C dX10_lays_54 ?_
    obtain ⟨hi6, hf⟩ := ck_o hf
    refine a_iald C S ar_43 hi6 dX10_lays_55 ?_
    refine lv_aload_n C.1 C.2.1 dX10_lays_56 rfl (lv_at hl 0 rfl) ?_
    refine g10_readPolicy C S tw_1064 dX10_lays_57 ?_
    refine r_iconst C dX10_lays_60 ?_
    refine lv_iload_n C.1 C.2.1 dX10_lays_61 rfl (lv_at hl 1 rfl) ?_
    refine r_imul C dX10_lays_62 ?_
    refine r_iconst C dX10_lays_63 ?_
    refine r_iadd C dX10_lays_64 ?_
    obtain ⟨hi7, hf⟩ := ck_o hf
    refine a_iald C S ar_43 hi7 dX10_lays_65 ?_
    refine lv_aload_n C.1 C.2.1 dX10_lays_66 rfl (lv_at hl 0 rfl) ?_
    refine g10_readPolicy C S tw_1064 dX10_lays_67 ?_
    refine r_iconst C dX10_lays_70 ?_
    refine lv_iload_n C.1 C.2.1 dX10_lays_71 rfl (lv_at hl 1 rfl) ?_
    refine r_imul C dX10_lays_72 ?_
    refine r_iconst C dX10_lays_73 ?_
    refine r_iadd C dX10_lays_74 ?_
    obtain ⟨hi8, hf⟩ := ck_o hf
    refine a_iald C S ar_43 hi8 dX10_lays_75 ?_
    obtain ⟨q9, hc10, hf⟩ := bd_o hf
    refine r_callVn C S (As := [.int (oI v1), .int (oI (σ3 43 (4 * v1).toNat)), .int (oI (σ3 43 ((4 * v1) + 1).toNat)), .int (oI (σ3 43 ((4 * v1) + 2).toNat)), .int (oI (σ3 43 ((4 * v1) + 3).toNat))]) (rest := []) (ct_X10_puts l G τ hc10) mi_X10_puts tw_1257 mv_X10_puts (rvX10 S) ⟨rfl, rfl⟩ ⟨Nat.le_of_ble_eq_true rfl, Nat.le_of_ble_eq_true rfl⟩ ⟨Nat.zero_le _, Nat.zero_le _⟩ rfl hl.1 rfl (Nat.le_of_ble_eq_true rfl) dX10_lays_76 (fun H locs S => ?_)
    exact b_X10_lays_b79 C hend hk2 v1 S (lv_sub hl [0, 1] rfl) hf
set_option maxRecDepth 100000 in
set_option maxHeartbeats 4000000 in
theorem b_X10_lays_b142 (C : Cx p s m args c RX10 cX10_lays 2) {q : Sg} (hend : EndR p l e (rmk 6 162) s m args below meth c Q G false τ cX10_lays .return_ [] q) {H : Heap} {locs : List Loc} {ls : Array Slot} {σ : Sg} (S : St G false τ σ s H locs) (hl : lv_has ls 2 [(0, .ref (G.1 41))]) (hf : f_X10_lays_b142 σ = some q) : W p l e (rmk 6 162) s m args below meth c H locs 0 0 Q (F0 m 142 ls []) := by
  unfold f_X10_lays_b142 at hf
  refine lv_aload_n C.1 C.2.1 dX10_lays_142 rfl (lv_at hl 0 rfl) ?_
  refine r_iconst C dX10_lays_143 ?_
  refine p10_acts C S tw_1089 dX10_lays_144 (fun H locs S => ?_)
  obtain ⟨σ19, S, hf⟩ := wr_s S hf
  refine lv_aload_n C.1 C.2.1 dX10_lays_147 rfl (lv_at hl 0 rfl) ?_
  refine r_iconst C dX10_lays_148 ?_
  refine p10_isStorm C S tw_1091 (by decide) dX10_lays_149 (fun H locs S => ?_)
  obtain ⟨σ20, S, hf⟩ := wr_s S hf
  refine lv_aload_n C.1 C.2.1 dX10_lays_152 rfl (lv_at hl 0 rfl) ?_
  refine r_iconst C dX10_lays_153 ?_
  refine p10_alarmsLogged C S tw_1093 dX10_lays_154 (fun H locs S => ?_)
  obtain ⟨σ21, S, hf⟩ := wr_s S hf
  refine lv_aload_n C.1 C.2.1 dX10_lays_157 rfl (lv_at hl 0 rfl) ?_
  refine r_iconst C dX10_lays_158 ?_
  refine p10_actsLogged C S tw_1095 dX10_lays_159 (fun H locs S => ?_)
  obtain ⟨σ22, S, hf⟩ := wr_s S hf
  refine lv_aload_n C.1 C.2.1 dX10_lays_162 rfl (lv_at hl 0 rfl) ?_
  obtain ⟨q23, hc24, hf⟩ := bd_o hf
  refine r_callVn C S (As := []) (rest := []) (ct_X10_looks l G τ hc24) mi_X10_looks tw_1265 mv_X10_looks (rvX10 S) ⟨rfl, rfl⟩ ⟨Nat.le_of_ble_eq_true rfl, Nat.le_of_ble_eq_true rfl⟩ ⟨Nat.zero_le _, Nat.zero_le _⟩ rfl hl.1 rfl (Nat.le_of_ble_eq_true rfl) dX10_lays_163 (fun H locs S => ?_)
  cases hf
  exact hend _ _ _ _ S dX10_lays_166
set_option maxRecDepth 100000 in
set_option maxHeartbeats 4000000 in
theorem b_X10_lays_b95 (C : Cx p s m args c RX10 cX10_lays 2) {q : Sg} (hend : EndR p l e (rmk 6 162) s m args below meth c Q G false τ cX10_lays .return_ [] q) : ∀ (n : Nat) {H : Heap} {locs : List Loc} {ls : Array Slot} {σ : Sg} (v1 : Int) (S : St G false τ σ s H locs) (hl : lv_has ls 2 [(0, .ref (G.1 41)), (1, .int (oI v1))]) (hf : f_X10_lays_b95 n v1 σ = some q), W p l e (rmk 6 162) s m args below meth c H locs 0 0 Q (F0 m 95 ls []) := by
  intro n
  induction n with
  | zero => intro H locs ls σ v1 S hl hf; cases hf
  | succ n ih =>
    intro H locs ls σ v1 S hl hf
    have hk95 := @ih
    rw [f_X10_lays_b95] at hf
    refine lv_iload_n C.1 C.2.1 dX10_lays_95 rfl (lv_at hl 1 rfl) ?_
    refine lv_aload_n C.1 C.2.1 dX10_lays_96 rfl (lv_at hl 0 rfl) ?_
    refine g10_treaties C S tw_1088 dX10_lays_97 ?_
    refine r_icmp_ge C rfl rfl (tgt := 142) dX10_lays_100 (by decide) (fun h25 => ?_) (fun h25 => ?_)
    · replace hf := if_t hf h25
      refine lv_aload_n C.1 C.2.1 dX10_lays_103 rfl (lv_at hl 0 rfl) ?_
      refine lv_iload_n C.1 C.2.1 dX10_lays_104 rfl (lv_at hl 1 rfl) ?_
      refine lv_aload_n C.1 C.2.1 dX10_lays_105 rfl (lv_at hl 0 rfl) ?_
      refine g10_readTreaty C S tw_1065 dX10_lays_106 ?_
      refine r_iconst C dX10_lays_109 ?_
      refine lv_iload_n C.1 C.2.1 dX10_lays_110 rfl (lv_at hl 1 rfl) ?_
      refine r_imul C dX10_lays_111 ?_
      obtain ⟨hi14, hf⟩ := ck_o hf
      refine a_iald C S ar_44 hi14 dX10_lays_112 ?_
      refine lv_aload_n C.1 C.2.1 dX10_lays_113 rfl (lv_at hl 0 rfl) ?_
      refine g10_readTreaty C S tw_1065 dX10_lays_114 ?_
      refine r_iconst C dX10_lays_117 ?_
      refine lv_iload_n C.1 C.2.1 dX10_lays_118 rfl (lv_at hl 1 rfl) ?_
      refine r_imul C dX10_lays_119 ?_
      refine r_iconst C dX10_lays_120 ?_
      refine r_iadd C dX10_lays_121 ?_
      obtain ⟨hi15, hf⟩ := ck_o hf
      refine a_iald C S ar_44 hi15 dX10_lays_122 ?_
      refine lv_aload_n C.1 C.2.1 dX10_lays_123 rfl (lv_at hl 0 rfl) ?_
      refine g10_readTreaty C S tw_1065 dX10_lays_124 ?_
      refine r_iconst C dX10_lays_127 ?_
      refine lv_iload_n C.1 C.2.1 dX10_lays_128 rfl (lv_at hl 1 rfl) ?_
      refine r_imul C dX10_lays_129 ?_
      refine r_iconst C dX10_lays_130 ?_
      refine r_iadd C dX10_lays_131 ?_
      obtain ⟨hi16, hf⟩ := ck_o hf
      refine a_iald C S ar_44 hi16 dX10_lays_132 ?_
      obtain ⟨q17, hc18, hf⟩ := bd_o hf
      refine r_callVn C S (As := [.int (oI v1), .int (oI (σ 44 (3 * v1).toNat)), .int (oI (σ 44 ((3 * v1) + 1).toNat)), .int (oI (σ 44 ((3 * v1) + 2).toNat))]) (rest := []) (ct_X10_begins l G τ hc18) mi_X10_begins tw_1261 mv_X10_begins (rvX10 S) ⟨rfl, rfl⟩ ⟨Nat.le_of_ble_eq_true rfl, Nat.le_of_ble_eq_true rfl⟩ ⟨Nat.zero_le _, Nat.zero_le _⟩ rfl hl.1 rfl (Nat.le_of_ble_eq_true rfl) dX10_lays_133 (fun H locs S => ?_)
      refine r_iinc C dX10_lays_136 hl (k := 1) rfl (by decide) (lv' := [(1, .int (oI (v1 + 1))), (0, .ref (G.1 41))]) rfl (fun ls hl => ?_)
      refine lv_goto C.1 C.2.1 (tgt := 95) dX10_lays_139 (by decide) ?_
      exact hk95 (v1 + 1) S (lv_sub hl [1, 0] rfl) hf
    · replace hf := if_f hf h25
      exact b_X10_lays_b142 C hend S (lv_sub hl [0] rfl) hf
set_option maxRecDepth 100000 in
set_option maxHeartbeats 4000000 in
theorem b_X10_lays_b85 (C : Cx p s m args c RX10 cX10_lays 2) {q : Sg} (hend : EndR p l e (rmk 6 162) s m args below meth c Q G false τ cX10_lays .return_ [] q) {H : Heap} {locs : List Loc} {ls : Array Slot} {σ : Sg} (S : St G false τ σ s H locs) (hl : lv_has ls 2 [(0, .ref (G.1 41))]) (hf : f_X10_lays_b85 σ = some q) : W p l e (rmk 6 162) s m args below meth c H locs 0 0 Q (F0 m 85 ls []) := by
  unfold f_X10_lays_b85 at hf
  refine lv_aload_n C.1 C.2.1 dX10_lays_85 rfl (lv_at hl 0 rfl) ?_
  refine lv_aload_n C.1 C.2.1 dX10_lays_86 rfl (lv_at hl 0 rfl) ?_
  refine g10_readTreaties C S tw_1067 dX10_lays_87 ?_
  refine p10_treaties C S tw_1088 dX10_lays_90 (fun H locs S => ?_)
  obtain ⟨σ13, S, hf⟩ := wr_s S hf
  refine r_iconst C dX10_lays_93 ?_
  refine lv_istore_n C.1 C.2.1 dX10_lays_94 rfl hl (by decide) (lv' := [(1, .int (oI 0)), (0, .ref (G.1 41))]) rfl (fun ls hl => ?_)
  exact b_X10_lays_b95 C hend FUEL 0 S (lv_sub hl [1, 0] rfl) hf
set_option maxRecDepth 100000 in
set_option maxHeartbeats 4000000 in
theorem b_X10_lays_b2 (C : Cx p s m args c RX10 cX10_lays 2) {q : Sg} (hend : EndR p l e (rmk 6 162) s m args below meth c Q G false τ cX10_lays .return_ [] q) : ∀ (n : Nat) {H : Heap} {locs : List Loc} {ls : Array Slot} {σ : Sg} (v1 : Int) (S : St G false τ σ s H locs) (hl : lv_has ls 2 [(0, .ref (G.1 41)), (1, .int (oI v1))]) (hf : f_X10_lays_b2 n v1 σ = some q), W p l e (rmk 6 162) s m args below meth c H locs 0 0 Q (F0 m 2 ls []) := by
  intro n
  induction n with
  | zero => intro H locs ls σ v1 S hl hf; cases hf
  | succ n ih =>
    intro H locs ls σ v1 S hl hf
    have hk2 := @ih
    rw [f_X10_lays_b2] at hf
    refine lv_iload_n C.1 C.2.1 dX10_lays_2 rfl (lv_at hl 1 rfl) ?_
    refine r_bipush C dX10_lays_3 (by decide) ?_
    refine r_icmp_ge C rfl (show w32 24 = 24 by decide) (tgt := 85) dX10_lays_5 (by decide) (fun h26 => ?_) (fun h26 => ?_)
    · replace hf := if_t hf h26
      refine lv_aload_n C.1 C.2.1 dX10_lays_8 rfl (lv_at hl 0 rfl) ?_
      refine g10_isThere C S tw_1082 dX10_lays_9 ?_
      refine lv_iload_n C.1 C.2.1 dX10_lays_12 rfl (lv_at hl 1 rfl) ?_
      refine lv_iload_n C.1 C.2.1 dX10_lays_13 rfl (lv_at hl 1 rfl) ?_
      refine lv_aload_n C.1 C.2.1 dX10_lays_14 rfl (lv_at hl 0 rfl) ?_
      refine g10_readPolicies C S tw_1066 dX10_lays_15 ?_
      refine r_icmp_ge C rfl rfl (tgt := 25) dX10_lays_18 (by decide) (fun h12 => ?_) (fun h12 => ?_)
      · replace hf := if_t hf h12
        refine r_iconst C dX10_lays_21 ?_
        refine lv_goto C.1 C.2.1 (tgt := 26) dX10_lays_22 (by decide) ?_
        exact b_X10_lays_b26 C hend hk2 v1 1 v1 S (lv_sub hl [0, 1] rfl) hf
      · replace hf := if_f hf h12
        refine r_iconst C dX10_lays_25 ?_
        exact b_X10_lays_b26 C hend hk2 v1 0 v1 S (lv_sub hl [0, 1] rfl) hf
    · replace hf := if_f hf h26
      exact b_X10_lays_b85 C hend S (lv_sub hl [0] rfl) hf
set_option maxRecDepth 100000 in
set_option maxHeartbeats 4000000 in
theorem ct_X10_lays (l : Launch) (G : Gd) (τ : Sg) {σ : Sg} {q : Sg} (hf : f_X10_lays σ = some q) : Ctr l yX10_lays cX10_lays 2 none (rmk 6 162) G false τ [.ref (G.1 41)] σ q none := by
  unfold f_X10_lays at hf
  refine CtrV.of (own := RX10) (plainFor_of_name (by decide)) (Nat.le_of_ble_eq_true rfl) rfl (fun p e s m below meth c Q ls C hl S hend => ?_)
  have hl : lv_has ls 2 [(0, .ref (G.1 41))] := hl
  refine r_iconst C dX10_lays_0 ?_
  refine lv_istore_n C.1 C.2.1 dX10_lays_1 rfl hl (by decide) (lv' := [(1, .int (oI 0)), (0, .ref (G.1 41))]) rfl (fun ls hl => ?_)
  exact b_X10_lays_b2 C hend FUEL 0 S (lv_sub hl [1, 0] rfl) hf
set_option maxRecDepth 100000 in
set_option maxHeartbeats 4000000 in
theorem b_X10_text_b54 (C : Cx p s m args c RX10 cX10_text 2) {q : Int × Sg} (hend : EndR p l e (rmk 11 238) s m args below meth c Q G false τ cX10_text .ireturn [.int (oI q.1)] q.2) {H : Heap} {locs : List Loc} {ls : Array Slot} {σ : Sg} (w0 : Int) (S : St G false τ σ s H locs) (hl : lv_has ls 2 [(0, .ref (G.1 41))]) (hf : f_X10_text_b54 w0 σ = some q) : W p l e (rmk 11 238) s m args below meth c H locs 0 0 Q (F0 m 54 ls [.int (oI w0), .ref (G.1 41)]) := by
  unfold f_X10_text_b54 at hf
  refine p10_lastPlace C S tw_1077 dX10_text_54 (fun H locs S => ?_)
  obtain ⟨σ6, S, hf⟩ := wr_s S hf
  refine lv_aload_n C.1 C.2.1 dX10_text_57 rfl (lv_at hl 0 rfl) ?_
  refine g10_fault C S tw_1074 dX10_text_58 ?_
  refine r_if_eq C rfl (tgt := 66) dX10_text_61 (by decide) (fun h9 => ?_) (fun h9 => ?_)
  · replace hf := if_t hf h9
    refine lv_aload_n C.1 C.2.1 dX10_text_66 rfl (lv_at hl 0 rfl) ?_
    obtain ⟨q7, hc8, hf⟩ := bd_o hf
    refine r_callVn C S (As := []) (rest := []) (ct_X10_lays l G τ hc8) mi_X10_lays tw_1253 mv_X10_lays (rvX10 S) ⟨rfl, rfl⟩ ⟨Nat.le_of_ble_eq_true rfl, Nat.le_of_ble_eq_true rfl⟩ ⟨Nat.zero_le _, Nat.zero_le _⟩ rfl hl.1 rfl (Nat.le_of_ble_eq_true rfl) dX10_text_67 (fun H locs S => ?_)
    refine lv_aload_n C.1 C.2.1 dX10_text_70 rfl (lv_at hl 0 rfl) ?_
    refine g10_lines C S tw_1068 dX10_text_71 ?_
    cases hf
    exact hend _ _ _ _ S dX10_text_74
  · replace hf := if_f hf h9
    refine r_iconst C dX10_text_64 ?_
    cases hf
    exact hend _ _ _ _ S dX10_text_65
set_option maxRecDepth 100000 in
set_option maxHeartbeats 4000000 in
theorem ct_X10_text (l : Launch) (G : Gd) (τ : Sg) {v1 : Int} {σ : Sg} {q : Int × Sg} (hf : f_X10_text v1 σ = some q) : Ctr l yX10_text cX10_text 2 (some .int) (rmk 11 238) G false τ [.ref (G.1 41), .int (oI v1)] σ q.2 (some (.int (oI q.1))) := by
  unfold f_X10_text at hf
  refine CtrI.of (own := RX10) (plainFor_of_name (by decide)) (Nat.le_of_ble_eq_true rfl) rfl (fun p e s m below meth c Q ls C hl S hend => ?_)
  have hl : lv_has ls 2 [(0, .ref (G.1 41)), (1, .int (oI v1))] := hl
  refine lv_aload_n C.1 C.2.1 dX10_text_0 rfl (lv_at hl 0 rfl) ?_
  refine r_iconst C dX10_text_1 ?_
  refine p10_thrown C S tw_1061 dX10_text_2 (fun H locs S => ?_)
  obtain ⟨σ1, S, hf⟩ := wr_s S hf
  refine lv_iload_n C.1 C.2.1 dX10_text_5 rfl (lv_at hl 1 rfl) ?_
  refine r_if_lt C rfl (tgt := 17) dX10_text_6 (by decide) (fun h12 => ?_) (fun h12 => ?_)
  · replace hf := if_t hf h12
    refine r_bipush C dX10_text_17 (by decide) ?_
    cases hf
    exact hend _ _ _ _ S dX10_text_19
  · replace hf := if_f hf h12
    refine lv_iload_n C.1 C.2.1 dX10_text_9 rfl (lv_at hl 1 rfl) ?_
    refine lv_aload_n C.1 C.2.1 dX10_text_10 rfl (lv_at hl 0 rfl) ?_
    refine g10_taped C S tw_1063 dX10_text_11 ?_
    refine r_icmp_le C rfl rfl (tgt := 20) dX10_text_14 (by decide) (fun h11 => ?_) (fun h11 => ?_)
    · replace hf := if_t hf h11
      refine lv_aload_n C.1 C.2.1 dX10_text_20 rfl (lv_at hl 0 rfl) ?_
      refine lv_iload_n C.1 C.2.1 dX10_text_21 rfl (lv_at hl 1 rfl) ?_
      obtain ⟨q2, hc3, hf⟩ := bd_o hf
      refine r_callVn C S (As := [.int (oI v1)]) (rest := []) (ct_X10_readText l G τ hc3) mi_X10_readText tw_1202 mv_X10_readText (rvX10 S) ⟨rfl, rfl⟩ ⟨Nat.le_of_ble_eq_true rfl, Nat.le_of_ble_eq_true rfl⟩ ⟨Nat.zero_le _, Nat.zero_le _⟩ rfl hl.1 rfl (Nat.le_of_ble_eq_true rfl) dX10_text_22 (fun H locs S => ?_)
      refine lv_aload_n C.1 C.2.1 dX10_text_25 rfl (lv_at hl 0 rfl) ?_
      refine r_iconst C dX10_text_26 ?_
      refine p10_taped C S tw_1063 dX10_text_27 (fun H locs S => ?_)
      obtain ⟨σ4, S, hf⟩ := wr_s S hf
      refine lv_aload_n C.1 C.2.1 dX10_text_30 rfl (lv_at hl 0 rfl) ?_
      refine lv_aload_n C.1 C.2.1 dX10_text_31 rfl (lv_at hl 0 rfl) ?_
      refine g10_fault C S tw_1074 dX10_text_32 ?_
      refine p10_lastFault C S tw_1076 dX10_text_35 (fun H locs S => ?_)
      obtain ⟨σ5, S, hf⟩ := wr_s S hf
      refine lv_aload_n C.1 C.2.1 dX10_text_38 rfl (lv_at hl 0 rfl) ?_
      refine lv_aload_n C.1 C.2.1 dX10_text_39 rfl (lv_at hl 0 rfl) ?_
      refine g10_fault C S tw_1074 dX10_text_40 ?_
      refine r_if_ne C rfl (tgt := 50) dX10_text_43 (by decide) (fun h10 => ?_) (fun h10 => ?_)
      · replace hf := if_t hf h10
        refine r_iconst C dX10_text_46 ?_
        refine lv_goto C.1 C.2.1 (tgt := 54) dX10_text_47 (by decide) ?_
        exact b_X10_text_b54 C hend ((-1)) S (lv_sub hl [0] rfl) hf
      · replace hf := if_f hf h10
        refine lv_aload_n C.1 C.2.1 dX10_text_50 rfl (lv_at hl 0 rfl) ?_
        refine g10_faultPlace C S tw_1075 dX10_text_51 ?_
        exact b_X10_text_b54 C hend (σ5 41 14) S (lv_sub hl [0] rfl) hf
    · replace hf := if_f hf h11
      refine r_bipush C dX10_text_17 (by decide) ?_
      cases hf
      exact hend _ _ _ _ S dX10_text_19
set_option maxRecDepth 100000 in
set_option maxHeartbeats 4000000 in
theorem ct_X10_fault (l : Launch) (G : Gd) (τ : Sg) {v1 : Int} {σ : Sg} {q : Int × Sg} (hf : f_X10_fault v1 σ = some q) : Ctr l yX10_fault cX10_fault 2 (some .int) (rmk 0 0) G false τ [.ref (G.1 41), .int (oI v1)] σ q.2 (some (.int (oI q.1))) := by
  unfold f_X10_fault at hf
  refine CtrI.of (own := RX10) (plainFor_of_name (by decide)) (Nat.le_of_ble_eq_true rfl) rfl (fun p e s m below meth c Q ls C hl S hend => ?_)
  have hl : lv_has ls 2 [(0, .ref (G.1 41)), (1, .int (oI v1))] := hl
  refine lv_aload_n C.1 C.2.1 dX10_fault_0 rfl (lv_at hl 0 rfl) ?_
  refine r_iconst C dX10_fault_1 ?_
  refine p10_thrown C S tw_1061 dX10_fault_2 (fun H locs S => ?_)
  obtain ⟨σ1, S, hf⟩ := wr_s S hf
  refine lv_iload_n C.1 C.2.1 dX10_fault_5 rfl (lv_at hl 1 rfl) ?_
  refine r_if_ne C rfl (tgt := 16) dX10_fault_6 (by decide) (fun h3 => ?_) (fun h3 => ?_)
  · replace hf := if_t hf h3
    refine lv_aload_n C.1 C.2.1 dX10_fault_9 rfl (lv_at hl 0 rfl) ?_
    refine g10_lastFault C S tw_1076 dX10_fault_10 ?_
    refine lv_goto C.1 C.2.1 (tgt := 29) dX10_fault_13 (by decide) ?_
    cases hf
    exact hend _ _ _ _ S dX10_fault_29
  · replace hf := if_f hf h3
    refine lv_iload_n C.1 C.2.1 dX10_fault_16 rfl (lv_at hl 1 rfl) ?_
    refine r_iconst C dX10_fault_17 ?_
    refine r_icmp_ne C rfl (show w32 1 = 1 by decide) (tgt := 28) dX10_fault_18 (by decide) (fun h2 => ?_) (fun h2 => ?_)
    · replace hf := if_t hf h2
      refine lv_aload_n C.1 C.2.1 dX10_fault_21 rfl (lv_at hl 0 rfl) ?_
      refine g10_lastPlace C S tw_1077 dX10_fault_22 ?_
      refine lv_goto C.1 C.2.1 (tgt := 29) dX10_fault_25 (by decide) ?_
      cases hf
      exact hend _ _ _ _ S dX10_fault_29
    · replace hf := if_f hf h2
      refine r_iconst C dX10_fault_28 ?_
      cases hf
      exact hend _ _ _ _ S dX10_fault_29
end WK
