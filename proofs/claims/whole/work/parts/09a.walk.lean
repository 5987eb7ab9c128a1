section WK
variable {p : Program} {l : Launch} {e : Env} {s : State} {m : MethodId} {args : Array Value} {below : List Frame} {meth : Method} {c : Code} {Q : State → Prop} {G : Gd} {b : Bool} {τ σ : Sg}
set_option maxRecDepth 100000 in
set_option maxHeartbeats 4000000 in
theorem b_X6_push_b52 (C : Cx p s m args c RX6 cX6_push 3) {q : Sg} {k3 : Int → Int → Sg → Option (Sg)} (hend : EndR p l e (rmk 0 0) s m args below meth c Q G true τ cX6_push .return_ [] q) (hk3 : ∀ {H : Heap} {locs : List Loc} {ls : Array Slot} {σ : Sg} (v1 : Int) (v2 : Int), St G true τ σ s H locs → lv_has ls 3 [(0, .ref (G.1 1)), (1, .int (oI v1)), (2, .int (oI v2))] → k3 v1 v2 σ = some q → W p l e (rmk 0 0) s m args below meth c H locs 0 0 Q (F0 m 3 ls [])) {H : Heap} {locs : List Loc} {ls : Array Slot} {σ : Sg} (v1 : Int) (v2 : Int) (S : St G true τ σ s H locs) (hl : lv_has ls 3 [(0, .ref (G.1 1)), (1, .int (oI v1)), (2, .int (oI v2))]) (hf : f_X6_push_b52 k3 v1 v2 σ = some q) : W p l e (rmk 0 0) s m args below meth c H locs 0 0 Q (F0 m 52 ls []) := by
  unfold f_X6_push_b52 at hf
  refine r_iinc C dX6_push_52 hl (k := 2) rfl (by decide) (lv' := [(2, .int (oI (v2 + (-8)))), (0, .ref (G.1 1)), (1, .int (oI v1))]) rfl (fun ls hl => ?_)
  refine lv_goto C.1 C.2.1 (tgt := 3) dX6_push_55 (by decide) ?_
  exact hk3 v1 (v2 + (-8)) S (lv_sub hl [1, 2, 0] rfl) hf
set_option maxRecDepth 100000 in
set_option maxHeartbeats 4000000 in
theorem b_X6_push_b3 (C : Cx p s m args c RX6 cX6_push 3) {q : Sg} (hend : EndR p l e (rmk 0 0) s m args below meth c Q G true τ cX6_push .return_ [] q) : ∀ (n : Nat) {H : Heap} {locs : List Loc} {ls : Array Slot} {σ : Sg} (v1 : Int) (v2 : Int) (S : St G true τ σ s H locs) (hl : lv_has ls 3 [(0, .ref (G.1 1)), (1, .int (oI v1)), (2, .int (oI v2))]) (hf : f_X6_push_b3 n v1 v2 σ = some q), W p l e (rmk 0 0) s m args below meth c H locs 0 0 Q (F0 m 3 ls []) := by
  intro n
  induction n with
  | zero => intro H locs ls σ v1 v2 S hl hf; cases hf
  | succ n ih =>
    intro H locs ls σ v1 v2 S hl hf
    have hk3 := @ih
    rw [f_X6_push_b3] at hf
    refine lv_iload_n C.1 C.2.1 dX6_push_3 rfl (lv_at hl 2 rfl) ?_
    refine r_if_lt C rfl (tgt := 58) dX6_push_4 (by decide) (fun h6 => ?_) (fun h6 => ?_)
    · replace hf := if_t hf h6
      cases hf
      exact hend _ _ _ _ S dX6_push_58
    · replace hf := if_f hf h6
      refine lv_aload_n C.1 C.2.1 dX6_push_7 rfl (lv_at hl 0 rfl) ?_
      refine g6_length C S tw_40 dX6_push_8 ?_
      refine r_if_lt C rfl (tgt := 52) dX6_push_11 (by decide) (fun h5 => ?_) (fun h5 => ?_)
      · replace hf := if_t hf h5
        exact b_X6_push_b52 C hend hk3 v1 v2 S (lv_sub hl [0, 1, 2] rfl) hf
      · replace hf := if_f hf h5
        refine lv_aload_n C.1 C.2.1 dX6_push_14 rfl (lv_at hl 0 rfl) ?_
        refine g6_length C S tw_40 dX6_push_15 ?_
        refine lv_aload_n C.1 C.2.1 dX6_push_18 rfl (lv_at hl 0 rfl) ?_
        refine g6_bytes C S tw_38 dX6_push_19 ?_
        refine a_alen C S ar_2 dX6_push_22 ?_
        refine r_icmp_ge C rfl (show w32 900 = 900 by decide) (tgt := 52) dX6_push_23 (by decide) (fun h4 => ?_) (fun h4 => ?_)
        · replace hf := if_t hf h4
          refine lv_aload_n C.1 C.2.1 dX6_push_26 rfl (lv_at hl 0 rfl) ?_
          refine g6_bytes C S tw_38 dX6_push_27 ?_
          refine lv_aload_n C.1 C.2.1 dX6_push_30 rfl (lv_at hl 0 rfl) ?_
          refine g6_length C S tw_40 dX6_push_31 ?_
          refine lv_iload_n C.1 C.2.1 dX6_push_34 rfl (lv_at hl 1 rfl) ?_
          refine lv_iload_n C.1 C.2.1 dX6_push_35 rfl (lv_at hl 2 rfl) ?_
          refine r_iushr C (y1 := (u32 v2 % 32)) rfl rfl dX6_push_36 ?_
          refine r_sipush C dX6_push_37 (by decide) ?_
          refine r_iand C (u32_nat (nb_shr (u32_lt _))) (show u32 255 = 255 by decide) dX6_push_40 ?_
          obtain ⟨hi1, hf⟩ := ck_o hf
          refine a_iast C S ar_2 hi1 dX6_push_41 (fun H locs S => ?_)
          obtain ⟨σ2, S, hf⟩ := wr_s S hf
          refine lv_aload_n C.1 C.2.1 dX6_push_42 rfl (lv_at hl 0 rfl) ?_
          refine lv_dup C.1 C.2.1 dX6_push_43 rfl ?_
          refine g6_length C S tw_40 dX6_push_44 ?_
          refine r_iconst C dX6_push_47 ?_
          refine r_iadd C dX6_push_48 ?_
          refine p6_length C S tw_40 dX6_push_49 (fun H locs S => ?_)
          obtain ⟨σ3, S, hf⟩ := wr_s S hf
          exact b_X6_push_b52 C hend hk3 v1 v2 S (lv_sub hl [0, 1, 2] rfl) hf
        · replace hf := if_f hf h4
          exact b_X6_push_b52 C hend hk3 v1 v2 S (lv_sub hl [0, 1, 2] rfl) hf
set_option maxRecDepth 100000 in
set_option maxHeartbeats 4000000 in
theorem ct_X6_push (l : Launch) (G : Gd) (τ : Sg) {v1 : Int} {σ : Sg} {q : Sg} (hf : f_X6_push v1 σ = some q) : Ctr l yX6_push cX6_push 3 none (rmk 0 0) G true τ [.ref (G.1 1), .int (oI v1)] σ q none := by
  unfold f_X6_push at hf
  refine CtrV.of (own := RX6) (plainFor_of_name (by decide)) (Nat.le_of_ble_eq_true rfl) rfl (fun p e s m below meth c Q ls C hl S hend => ?_)
  have hl : lv_has ls 3 [(0, .ref (G.1 1)), (1, .int (oI v1))] := hl
  refine r_bipush C dX6_push_0 (by decide) ?_
  refine lv_istore_n C.1 C.2.1 dX6_push_2 rfl hl (by decide) (lv' := [(2, .int (oI 24)), (0, .ref (G.1 1)), (1, .int (oI v1))]) rfl (fun ls hl => ?_)
  exact b_X6_push_b3 C hend FUEL v1 24 S (lv_sub hl [1, 2, 0] rfl) hf
set_option maxRecDepth 100000 in
set_option maxHeartbeats 4000000 in
theorem ct_X9_feed (l : Launch) (G : Gd) (τ : Sg) {v1 : Int} {v2 : Int} {v3 : Int} {v4 : Int} {v5 : Int} {σ : Sg} {q : Int × Sg} (hf : f_X9_feed v1 v2 v3 v4 v5 σ = some q) : Ctr l yX9_feed cX9_feed 6 (some .int) (rmk 1 22) G true τ [.ref (G.1 0), .int (oI v1), .int (oI v2), .int (oI v3), .int (oI v4), .int (oI v5)] σ q.2 (some (.int (oI q.1))) := by
  unfold f_X9_feed at hf
  refine CtrI.of (own := RX9) (plainFor_of_name (by decide)) (Nat.le_of_ble_eq_true rfl) rfl (fun p e s m below meth c Q ls C hl S hend => ?_)
  have hl : lv_has ls 6 [(0, .ref (G.1 0)), (1, .int (oI v1)), (2, .int (oI v2)), (3, .int (oI v3)), (4, .int (oI v4)), (5, .int (oI v5))] := hl
  refine lv_aload_n C.1 C.2.1 dX9_feed_0 rfl (lv_at hl 0 rfl) ?_
  refine g9_tape C S tw_280 dX9_feed_1 ?_
  refine g6_length C S tw_39 dX9_feed_4 ?_
  refine r_bipush C dX9_feed_7 (by decide) ?_
  refine r_iadd C dX9_feed_9 ?_
  refine r_sipush C dX9_feed_10 (by decide) ?_
  refine r_icmp_le C rfl (show w32 900 = 900 by decide) (tgt := 18) dX9_feed_13 (by decide) (fun h11 => ?_) (fun h11 => ?_)
  · replace hf := if_t hf h11
    refine lv_aload_n C.1 C.2.1 dX9_feed_18 rfl (lv_at hl 0 rfl) ?_
    refine g9_tape C S tw_280 dX9_feed_19 ?_
    refine lv_iload_n C.1 C.2.1 dX9_feed_22 rfl (lv_at hl 1 rfl) ?_
    obtain ⟨q1, hc2, hf⟩ := bd_o hf
    refine r_callVn C S (As := [.int (oI v1)]) (rest := []) (ct_X6_push l G τ hc2) mi_X6_push tw_318 mv_X6_push (rvX6 S) ⟨rfl, rfl⟩ ⟨Nat.le_of_ble_eq_true rfl, Nat.le_of_ble_eq_true rfl⟩ ⟨Nat.zero_le _, Nat.zero_le _⟩ rfl hl.1 rfl (Nat.le_of_ble_eq_true rfl) dX9_feed_23 (fun H locs S => ?_)
    refine lv_aload_n C.1 C.2.1 dX9_feed_26 rfl (lv_at hl 0 rfl) ?_
    refine g9_tape C S tw_280 dX9_feed_27 ?_
    refine lv_iload_n C.1 C.2.1 dX9_feed_30 rfl (lv_at hl 2 rfl) ?_
    obtain ⟨q3, hc4, hf⟩ := bd_o hf
    refine r_callVn C S (As := [.int (oI v2)]) (rest := []) (ct_X6_push l G τ hc4) mi_X6_push tw_318 mv_X6_push (rvX6 S) ⟨rfl, rfl⟩ ⟨Nat.le_of_ble_eq_true rfl, Nat.le_of_ble_eq_true rfl⟩ ⟨Nat.zero_le _, Nat.zero_le _⟩ rfl hl.1 rfl (Nat.le_of_ble_eq_true rfl) dX9_feed_31 (fun H locs S => ?_)
    refine lv_aload_n C.1 C.2.1 dX9_feed_34 rfl (lv_at hl 0 rfl) ?_
    refine g9_tape C S tw_280 dX9_feed_35 ?_
    refine lv_iload_n C.1 C.2.1 dX9_feed_38 rfl (lv_at hl 3 rfl) ?_
    obtain ⟨q5, hc6, hf⟩ := bd_o hf
    refine r_callVn C S (As := [.int (oI v3)]) (rest := []) (ct_X6_push l G τ hc6) mi_X6_push tw_318 mv_X6_push (rvX6 S) ⟨rfl, rfl⟩ ⟨Nat.le_of_ble_eq_true rfl, Nat.le_of_ble_eq_true rfl⟩ ⟨Nat.zero_le _, Nat.zero_le _⟩ rfl hl.1 rfl (Nat.le_of_ble_eq_true rfl) dX9_feed_39 (fun H locs S => ?_)
    refine lv_aload_n C.1 C.2.1 dX9_feed_42 rfl (lv_at hl 0 rfl) ?_
    refine g9_tape C S tw_280 dX9_feed_43 ?_
    refine lv_iload C.1 C.2.1 dX9_feed_46 (lv_at hl 4 rfl) ?_
    obtain ⟨q7, hc8, hf⟩ := bd_o hf
    refine r_callVn C S (As := [.int (oI v4)]) (rest := []) (ct_X6_push l G τ hc8) mi_X6_push tw_318 mv_X6_push (rvX6 S) ⟨rfl, rfl⟩ ⟨Nat.le_of_ble_eq_true rfl, Nat.le_of_ble_eq_true rfl⟩ ⟨Nat.zero_le _, Nat.zero_le _⟩ rfl hl.1 rfl (Nat.le_of_ble_eq_true rfl) dX9_feed_48 (fun H locs S => ?_)
    refine lv_aload_n C.1 C.2.1 dX9_feed_51 rfl (lv_at hl 0 rfl) ?_
    refine g9_tape C S tw_280 dX9_feed_52 ?_
    refine lv_iload C.1 C.2.1 dX9_feed_55 (lv_at hl 5 rfl) ?_
    obtain ⟨q9, hc10, hf⟩ := bd_o hf
    refine r_callVn C S (As := [.int (oI v5)]) (rest := []) (ct_X6_push l G τ hc10) mi_X6_push tw_318 mv_X6_push (rvX6 S) ⟨rfl, rfl⟩ ⟨Nat.le_of_ble_eq_true rfl, Nat.le_of_ble_eq_true rfl⟩ ⟨Nat.zero_le _, Nat.zero_le _⟩ rfl hl.1 rfl (Nat.le_of_ble_eq_true rfl) dX9_feed_57 (fun H locs S => ?_)
    refine lv_aload_n C.1 C.2.1 dX9_feed_60 rfl (lv_at hl 0 rfl) ?_
    refine g9_tape C S tw_280 dX9_feed_61 ?_
    refine g6_length C S tw_39 dX9_feed_64 ?_
    cases hf
    exact hend _ _ _ _ S dX9_feed_67
  · replace hf := if_f hf h11
    refine r_iconst C dX9_feed_16 ?_
    cases hf
    exact hend _ _ _ _ S dX9_feed_17
set_option maxRecDepth 100000 in
set_option maxHeartbeats 4000000 in
theorem ct_X6_at (l : Launch) (G : Gd) (τ : Sg) {v1 : Int} {σ : Sg} {q : Int} (hf : f_X6_at v1 σ = some q) : Ctr l yX6_at cX6_at 2 (some .int) (rmk 0 0) G true τ [.ref (G.1 1), .int (oI v1)] σ σ (some (.int (oI q))) := by
  unfold f_X6_at at hf
  refine CtrI.of (own := RX6) (plainFor_of_name (by decide)) (Nat.le_of_ble_eq_true rfl) rfl (fun p e s m below meth c Q ls C hl S hend => ?_)
  have hl : lv_has ls 2 [(0, .ref (G.1 1)), (1, .int (oI v1))] := hl
  refine lv_iload_n C.1 C.2.1 dX6_at_0 rfl (lv_at hl 1 rfl) ?_
  refine r_if_lt C rfl (tgt := 22) dX6_at_1 (by decide) (fun h3 => ?_) (fun h3 => ?_)
  · replace hf := if_t hf h3
    refine r_iconst C dX6_at_22 ?_
    cases hf
    exact hend _ _ _ _ S dX6_at_23
  · replace hf := if_f hf h3
    refine lv_iload_n C.1 C.2.1 dX6_at_4 rfl (lv_at hl 1 rfl) ?_
    refine lv_aload_n C.1 C.2.1 dX6_at_5 rfl (lv_at hl 0 rfl) ?_
    refine g6_bytes C S tw_38 dX6_at_6 ?_
    refine a_alen C S ar_2 dX6_at_9 ?_
    refine r_icmp_ge C rfl (show w32 900 = 900 by decide) (tgt := 22) dX6_at_10 (by decide) (fun h2 => ?_) (fun h2 => ?_)
    · replace hf := if_t hf h2
      refine lv_aload_n C.1 C.2.1 dX6_at_13 rfl (lv_at hl 0 rfl) ?_
      refine g6_bytes C S tw_38 dX6_at_14 ?_
      refine lv_iload_n C.1 C.2.1 dX6_at_17 rfl (lv_at hl 1 rfl) ?_
      obtain ⟨hi1, hf⟩ := ck_o hf
      refine a_iald C S ar_2 hi1 dX6_at_18 ?_
      refine lv_goto C.1 C.2.1 (tgt := 23) dX6_at_19 (by decide) ?_
      cases hf
      exact hend _ _ _ _ S dX6_at_23
    · replace hf := if_f hf h2
      refine r_iconst C dX6_at_22 ?_
      cases hf
      exact hend _ _ _ _ S dX6_at_23
set_option maxRecDepth 100000 in
set_option maxHeartbeats 4000000 in
theorem b_X4_skipBlanks_b43 (C : Cx p s m args c RX4 cX4_skipBlanks 1) {q : Sg} {k0 : Sg → Option (Sg)} (hend : EndR p l e (rmk 1 21) s m args below meth c Q G true τ cX4_skipBlanks .return_ [] q) (hk0 : ∀ {H : Heap} {locs : List Loc} {ls : Array Slot} {σ : Sg}, St G true τ σ s H locs → lv_has ls 1 [(0, .ref (G.1 3))] → k0 σ = some q → W p l e (rmk 1 21) s m args below meth c H locs 0 0 Q (F0 m 0 ls [])) {H : Heap} {locs : List Loc} {ls : Array Slot} {σ : Sg} (S : St G true τ σ s H locs) (hl : lv_has ls 1 [(0, .ref (G.1 3))]) (hf : f_X4_skipBlanks_b43 k0 σ = some q) : W p l e (rmk 1 21) s m args below meth c H locs 0 0 Q (F0 m 43 ls []) := by
  unfold f_X4_skipBlanks_b43 at hf
  refine lv_aload_n C.1 C.2.1 dX4_skipBlanks_43 rfl (lv_at hl 0 rfl) ?_
  refine lv_dup C.1 C.2.1 dX4_skipBlanks_44 rfl ?_
  refine g4_at C S tw_57 dX4_skipBlanks_45 ?_
  refine r_iconst C dX4_skipBlanks_48 ?_
  refine r_iadd C dX4_skipBlanks_49 ?_
  refine p4_at C S tw_57 dX4_skipBlanks_50 (fun H locs S => ?_)
  obtain ⟨σ3, S, hf⟩ := wr_s S hf
  refine lv_goto C.1 C.2.1 (tgt := 0) dX4_skipBlanks_53 (by decide) ?_
  exact hk0 S (lv_sub hl [0] rfl) hf
set_option maxRecDepth 100000 in
set_option maxHeartbeats 4000000 in
theorem b_X4_skipBlanks_b0 (C : Cx p s m args c RX4 cX4_skipBlanks 1) {q : Sg} (hend : EndR p l e (rmk 1 21) s m args below meth c Q G true τ cX4_skipBlanks .return_ [] q) : ∀ (n : Nat) {H : Heap} {locs : List Loc} {ls : Array Slot} {σ : Sg} (S : St G true τ σ s H locs) (hl : lv_has ls 1 [(0, .ref (G.1 3))]) (hf : f_X4_skipBlanks_b0 n σ = some q), W p l e (rmk 1 21) s m args below meth c H locs 0 0 Q (F0 m 0 ls []) := by
  intro n
  induction n with
  | zero => intro H locs ls σ  S hl hf; cases hf
  | succ n ih =>
    intro H locs ls σ  S hl hf
    have hk0 := @ih
    rw [f_X4_skipBlanks_b0] at hf
    refine lv_aload_n C.1 C.2.1 dX4_skipBlanks_0 rfl (lv_at hl 0 rfl) ?_
    refine g4_at C S tw_57 dX4_skipBlanks_1 ?_
    refine lv_aload_n C.1 C.2.1 dX4_skipBlanks_4 rfl (lv_at hl 0 rfl) ?_
    refine g4_length C S tw_56 dX4_skipBlanks_5 ?_
    refine r_icmp_ge C rfl rfl (tgt := 56) dX4_skipBlanks_8 (by decide) (fun h8 => ?_) (fun h8 => ?_)
    · replace hf := if_t hf h8
      refine lv_aload_n C.1 C.2.1 dX4_skipBlanks_11 rfl (lv_at hl 0 rfl) ?_
      refine g4_tape C S tw_53 dX4_skipBlanks_12 ?_
      refine lv_aload_n C.1 C.2.1 dX4_skipBlanks_15 rfl (lv_at hl 0 rfl) ?_
      refine g4_at C S tw_57 dX4_skipBlanks_16 ?_
      obtain ⟨q1, hc2, hf⟩ := bd_o hf
      refine r_callVv C S (As := [.int (oI (σ 3 4))]) (rest := []) (ct_X6_at l G τ hc2) mi_X6_at tw_334 mv_X6_at (rvX6 S) ⟨rfl, rfl⟩ ⟨Nat.le_of_ble_eq_true rfl, Nat.le_of_ble_eq_true rfl⟩ ⟨Nat.zero_le _, Nat.zero_le _⟩ rfl hl.1 rfl (Nat.le_of_ble_eq_true rfl) dX4_skipBlanks_19 (fun H locs S => ?_)
      refine r_bipush C dX4_skipBlanks_22 (by decide) ?_
      refine r_icmp_eq C rfl (show w32 10 = 10 by decide) (tgt := 43) dX4_skipBlanks_24 (by decide) (fun h7 => ?_) (fun h7 => ?_)
      · replace hf := if_t hf h7
        exact b_X4_skipBlanks_b43 C hend hk0 S (lv_sub hl [0] rfl) hf
      · replace hf := if_f hf h7
        refine lv_aload_n C.1 C.2.1 dX4_skipBlanks_27 rfl (lv_at hl 0 rfl) ?_
        refine g4_tape C S tw_53 dX4_skipBlanks_28 ?_
        refine lv_aload_n C.1 C.2.1 dX4_skipBlanks_31 rfl (lv_at hl 0 rfl) ?_
        refine g4_at C S tw_57 dX4_skipBlanks_32 ?_
        obtain ⟨q4, hc5, hf⟩ := bd_o hf
        refine r_callVv C S (As := [.int (oI (σ 3 4))]) (rest := []) (ct_X6_at l G τ hc5) mi_X6_at tw_334 mv_X6_at (rvX6 S) ⟨rfl, rfl⟩ ⟨Nat.le_of_ble_eq_true rfl, Nat.le_of_ble_eq_true rfl⟩ ⟨Nat.zero_le _, Nat.zero_le _⟩ rfl hl.1 rfl (Nat.le_of_ble_eq_true rfl) dX4_skipBlanks_35 (fun H locs S => ?_)
        refine r_bipush C dX4_skipBlanks_38 (by decide) ?_
        refine r_icmp_ne C rfl (show w32 32 = 32 by decide) (tgt := 56) dX4_skipBlanks_40 (by decide) (fun h6 => ?_) (fun h6 => ?_)
        · replace hf := if_t hf h6
          exact b_X4_skipBlanks_b43 C hend hk0 S (lv_sub hl [0] rfl) hf
        · replace hf := if_f hf h6
          cases hf
          exact hend _ _ _ _ S dX4_skipBlanks_56
    · replace hf := if_f hf h8
      cases hf
      exact hend _ _ _ _ S dX4_skipBlanks_56
set_option maxRecDepth 100000 in
set_option maxHeartbeats 4000000 in
theorem ct_X4_skipBlanks (l : Launch) (G : Gd) (τ : Sg) {σ : Sg} {q : Sg} (hf : f_X4_skipBlanks σ = some q) : Ctr l yX4_skipBlanks cX4_skipBlanks 1 none (rmk 1 21) G true τ [.ref (G.1 3)] σ q none := by
  unfold f_X4_skipBlanks at hf
  refine CtrV.of (own := RX4) (plainFor_of_name (by decide)) (Nat.le_of_ble_eq_true rfl) rfl (fun p e s m below meth c Q ls C hl S hend => ?_)
  have hl : lv_has ls 1 [(0, .ref (G.1 3))] := hl
  exact b_X4_skipBlanks_b0 C hend FUEL S (lv_sub hl [0] rfl) hf
set_option maxRecDepth 100000 in
set_option maxHeartbeats 4000000 in
theorem b_X4_passWord_b0 (C : Cx p s m args c RX4 cX4_passWord 1) {q : Sg} (hend : EndR p l e (rmk 1 21) s m args below meth c Q G true τ cX4_passWord .return_ [] q) : ∀ (n : Nat) {H : Heap} {locs : List Loc} {ls : Array Slot} {σ : Sg} (S : St G true τ σ s H locs) (hl : lv_has ls 1 [(0, .ref (G.1 3))]) (hf : f_X4_passWord_b0 n σ = some q), W p l e (rmk 1 21) s m args below meth c H locs 0 0 Q (F0 m 0 ls []) := by
  intro n
  induction n with
  | zero => intro H locs ls σ  S hl hf; cases hf
  | succ n ih =>
    intro H locs ls σ  S hl hf
    have hk0 := @ih
    rw [f_X4_passWord_b0] at hf
    refine lv_aload_n C.1 C.2.1 dX4_passWord_0 rfl (lv_at hl 0 rfl) ?_
    refine g4_at C S tw_57 dX4_passWord_1 ?_
    refine lv_aload_n C.1 C.2.1 dX4_passWord_4 rfl (lv_at hl 0 rfl) ?_
    refine g4_length C S tw_56 dX4_passWord_5 ?_
    refine r_icmp_ge C rfl rfl (tgt := 56) dX4_passWord_8 (by decide) (fun h8 => ?_) (fun h8 => ?_)
    · replace hf := if_t hf h8
      refine lv_aload_n C.1 C.2.1 dX4_passWord_11 rfl (lv_at hl 0 rfl) ?_
      refine g4_tape C S tw_53 dX4_passWord_12 ?_
      refine lv_aload_n C.1 C.2.1 dX4_passWord_15 rfl (lv_at hl 0 rfl) ?_
      refine g4_at C S tw_57 dX4_passWord_16 ?_
      obtain ⟨q1, hc2, hf⟩ := bd_o hf
      refine r_callVv C S (As := [.int (oI (σ 3 4))]) (rest := []) (ct_X6_at l G τ hc2) mi_X6_at tw_334 mv_X6_at (rvX6 S) ⟨rfl, rfl⟩ ⟨Nat.le_of_ble_eq_true rfl, Nat.le_of_ble_eq_true rfl⟩ ⟨Nat.zero_le _, Nat.zero_le _⟩ rfl hl.1 rfl (Nat.le_of_ble_eq_true rfl) dX4_passWord_19 (fun H locs S => ?_)
      refine r_bipush C dX4_passWord_22 (by decide) ?_
      refine r_icmp_lt C rfl (show w32 97 = 97 by decide) (tgt := 56) dX4_passWord_24 (by decide) (fun h7 => ?_) (fun h7 => ?_)
      · replace hf := if_t hf h7
        cases hf
        exact hend _ _ _ _ S dX4_passWord_56
      · replace hf := if_f hf h7
        refine lv_aload_n C.1 C.2.1 dX4_passWord_27 rfl (lv_at hl 0 rfl) ?_
        refine g4_tape C S tw_53 dX4_passWord_28 ?_
        refine lv_aload_n C.1 C.2.1 dX4_passWord_31 rfl (lv_at hl 0 rfl) ?_
        refine g4_at C S tw_57 dX4_passWord_32 ?_
        obtain ⟨q3, hc4, hf⟩ := bd_o hf
        refine r_callVv C S (As := [.int (oI (σ 3 4))]) (rest := []) (ct_X6_at l G τ hc4) mi_X6_at tw_334 mv_X6_at (rvX6 S) ⟨rfl, rfl⟩ ⟨Nat.le_of_ble_eq_true rfl, Nat.le_of_ble_eq_true rfl⟩ ⟨Nat.zero_le _, Nat.zero_le _⟩ rfl hl.1 rfl (Nat.le_of_ble_eq_true rfl) dX4_passWord_35 (fun H locs S => ?_)
        refine r_bipush C dX4_passWord_38 (by decide) ?_
        refine r_icmp_gt C rfl (show w32 122 = 122 by decide) (tgt := 56) dX4_passWord_40 (by decide) (fun h6 => ?_) (fun h6 => ?_)
        · replace hf := if_t hf h6
          refine lv_aload_n C.1 C.2.1 dX4_passWord_43 rfl (lv_at hl 0 rfl) ?_
          refine lv_dup C.1 C.2.1 dX4_passWord_44 rfl ?_
          refine g4_at C S tw_57 dX4_passWord_45 ?_
          refine r_iconst C dX4_passWord_48 ?_
          refine r_iadd C dX4_passWord_49 ?_
          refine p4_at C S tw_57 dX4_passWord_50 (fun H locs S => ?_)
          obtain ⟨σ5, S, hf⟩ := wr_s S hf
          refine lv_goto C.1 C.2.1 (tgt := 0) dX4_passWord_53 (by decide) ?_
          exact hk0 S (lv_sub hl [0] rfl) hf
        · replace hf := if_f hf h6
          cases hf
          exact hend _ _ _ _ S dX4_passWord_56
    · replace hf := if_f hf h8
      cases hf
      exact hend _ _ _ _ S dX4_passWord_56
set_option maxRecDepth 100000 in
set_option maxHeartbeats 4000000 in
theorem ct_X4_passWord (l : Launch) (G : Gd) (τ : Sg) {σ : Sg} {q : Sg} (hf : f_X4_passWord σ = some q) : Ctr l yX4_passWord cX4_passWord 1 none (rmk 1 21) G true τ [.ref (G.1 3)] σ q none := by
  unfold f_X4_passWord at hf
  refine CtrV.of (own := RX4) (plainFor_of_name (by decide)) (Nat.le_of_ble_eq_true rfl) rfl (fun p e s m below meth c Q ls C hl S hend => ?_)
  have hl : lv_has ls 1 [(0, .ref (G.1 3))] := hl
  exact b_X4_passWord_b0 C hend FUEL S (lv_sub hl [0] rfl) hf
set_option maxRecDepth 100000 in
set_option maxHeartbeats 4000000 in
theorem ct_J0_coder_7d493_s0 (l : Launch) (G : Gd) (τ : Sg) {b : Bool} {σ : Sg} {q : Int} (hf : f_J0_coder_7d493_s0 σ = some q) : Ctr l yJ0_coder_7d493 cJ0_coder_7d493 1 (some .byte) (rmk 0 0) G b τ [.ref (G.1 80)] σ σ (some (.int (oI q))) := by
  unfold f_J0_coder_7d493_s0 at hf
  refine CtrB.of (own := RJ0) (plainFor_of_name (by decide)) (Nat.le_of_ble_eq_true rfl) rfl (fun p e s m below meth c Q ls C hl S hend => ?_)
  have hl : lv_has ls 1 [(0, .ref (G.1 80))] := hl
  refine z_cmp C S tw_359 dJ0_coder_7d493_0 ?_
  refine r_if_eq C (show w32 1 = 1 by decide) (tgt := 13) dJ0_coder_7d493_3 (by decide) (fun h1 => ?_) (fun h1 => ?_)
  · exact absurd h1 (by decide)
  · refine lv_aload_n C.1 C.2.1 dJ0_coder_7d493_6 rfl (lv_at hl 0 rfl) ?_
    refine s_cod C S (i0 := 0) (by decide) tw_1662 dJ0_coder_7d493_7 ?_
    refine lv_goto C.1 C.2.1 (tgt := 14) dJ0_coder_7d493_10 (by decide) ?_
    cases hf
    exact hend (Or.inl rfl) _ _ _ _ S dJ0_coder_7d493_14
set_option maxRecDepth 100000 in
set_option maxHeartbeats 4000000 in
theorem ct_J0_length_8abf5_s0 (l : Launch) (G : Gd) (τ : Sg) {b : Bool} {σ : Sg} {q : Int} (hf : f_J0_length_8abf5_s0 σ = some q) : Ctr l yJ0_length_8abf5 cJ0_length_8abf5 1 (some .int) (rmk 1 20) G b τ [.ref (G.1 80)] σ σ (some (.int (oI q))) := by
  unfold f_J0_length_8abf5_s0 at hf
  refine CtrI.of (own := RJ0) (plainFor_of_name (by decide)) (Nat.le_of_ble_eq_true rfl) rfl (fun p e s m below meth c Q ls C hl S hend => ?_)
  have hl : lv_has ls 1 [(0, .ref (G.1 80))] := hl
  refine lv_aload_n C.1 C.2.1 dJ0_length_8abf5_0 rfl (lv_at hl 0 rfl) ?_
  refine s_val C S (i0 := 0) (by decide) tw_1661 dJ0_length_8abf5_1 ?_
  refine y_alen C S (i0 := 0) (by decide) dJ0_length_8abf5_4 ?_
  refine lv_aload_n C.1 C.2.1 dJ0_length_8abf5_5 rfl (lv_at hl 0 rfl) ?_
  obtain ⟨q1, hc2, hf⟩ := bd_o hf
  refine r_callVv C S (As := []) (rest := [.int (oI 6)]) (ct_J0_coder_7d493_s0 l G τ hc2) mi_J0_coder_7d493 tw_355 mv_J0_coder_7d493 (rvS_0 S) ⟨rfl, rfl⟩ ⟨Nat.le_of_ble_eq_true rfl, Nat.le_of_ble_eq_true rfl⟩ ⟨Nat.zero_le _, Nat.zero_le _⟩ rfl hl.1 rfl (Nat.le_of_ble_eq_true rfl) dJ0_length_8abf5_6 (fun H locs S => ?_)
  refine r_ishr C (y1 := (u32 q1 % 32)) rfl dJ0_length_8abf5_9 ?_
  cases hf
  exact hend _ _ _ _ S dJ0_length_8abf5_10
set_option maxRecDepth 100000 in
set_option maxHeartbeats 4000000 in
theorem ct_J0_isLatin1_aae02_s0 (l : Launch) (G : Gd) (τ : Sg) {b : Bool} {σ : Sg} {q : Int} (hf : f_J0_isLatin1_aae02_s0 σ = some q) : Ctr l yJ0_isLatin1_aae02 cJ0_isLatin1_aae02 1 (some .boolean) (rmk 0 0) G b τ [.ref (G.1 80)] σ σ (some (.int (oI q))) := by
  unfold f_J0_isLatin1_aae02_s0 at hf
  refine CtrZ.of (own := RJ0) (plainFor_of_name (by decide)) (Nat.le_of_ble_eq_true rfl) rfl (fun p e s m below meth c Q ls C hl S hend => ?_)
  have hl : lv_has ls 1 [(0, .ref (G.1 80))] := hl
  refine z_cmp C S tw_359 dJ0_isLatin1_aae02_0 ?_
  refine r_if_eq C (show w32 1 = 1 by decide) (tgt := 17) dJ0_isLatin1_aae02_3 (by decide) (fun h2 => ?_) (fun h2 => ?_)
  · exact absurd h2 (by decide)
  · refine lv_aload_n C.1 C.2.1 dJ0_isLatin1_aae02_6 rfl (lv_at hl 0 rfl) ?_
    refine s_cod C S (i0 := 0) (by decide) tw_1662 dJ0_isLatin1_aae02_7 ?_
    refine r_if_ne C (show w32 0 = 0 by decide) (tgt := 17) dJ0_isLatin1_aae02_10 (by decide) (fun h1 => ?_) (fun h1 => ?_)
    · refine r_iconst C dJ0_isLatin1_aae02_13 ?_
      refine lv_goto C.1 C.2.1 (tgt := 18) dJ0_isLatin1_aae02_14 (by decide) ?_
      cases hf
      exact hend (Or.inr rfl) _ _ _ _ S dJ0_isLatin1_aae02_18
    · exact absurd (by decide) h1
set_option maxRecDepth 100000 in
set_option maxHeartbeats 4000000 in
theorem ct_J3_checkIndex_8e157_n (l : Launch) (G : Gd) (τ : Sg) {b : Bool} {v0 : Int} {v1 : Int} {σ : Sg} {q : Int} (hf : f_J3_checkIndex_8e157_n v0 v1 σ = some q) : Ctr l yJ3_checkIndex_8e157 cJ3_checkIndex_8e157 3 (some .int) (rmk 0 0) G b τ [.int (oI v0), .int (oI v1), .null] σ σ (some (.int (oI q))) := by
  unfold f_J3_checkIndex_8e157_n at hf
  refine CtrI.of (own := RJ3) (plainFor_of_name (by decide)) (Nat.le_of_ble_eq_true rfl) rfl (fun p e s m below meth c Q ls C hl S hend => ?_)
  have hl : lv_has ls 3 [(0, .int (oI v0)), (1, .int (oI v1)), (2, .null)] := hl
  refine lv_iload_n C.1 C.2.1 dJ3_checkIndex_8e157_0 rfl (lv_at hl 0 rfl) ?_
  refine r_if_lt C rfl (tgt := 9) dJ3_checkIndex_8e157_1 (by decide) (fun h2 => ?_) (fun h2 => ?_)
  · replace hf := if_t hf h2
    cases hf
  · replace hf := if_f hf h2
    refine lv_iload_n C.1 C.2.1 dJ3_checkIndex_8e157_4 rfl (lv_at hl 0 rfl) ?_
    refine lv_iload_n C.1 C.2.1 dJ3_checkIndex_8e157_5 rfl (lv_at hl 1 rfl) ?_
    refine r_icmp_lt C rfl rfl (tgt := 16) dJ3_checkIndex_8e157_6 (by decide) (fun h1 => ?_) (fun h1 => ?_)
    · replace hf := if_t hf h1
      refine lv_iload_n C.1 C.2.1 dJ3_checkIndex_8e157_16 rfl (lv_at hl 0 rfl) ?_
      cases hf
      exact hend _ _ _ _ S dJ3_checkIndex_8e157_17
    · replace hf := if_f hf h1
      cases hf
set_option maxRecDepth 100000 in
set_option maxHeartbeats 4000000 in
theorem ct_J3_checkIndex_8e157_r (l : Launch) (G : Gd) (τ : Sg) {a0 : Nat} {b : Bool} {v0 : Int} {v1 : Int} {σ : Sg} {q : Int} (hf : f_J3_checkIndex_8e157_n v0 v1 σ = some q) : Ctr l yJ3_checkIndex_8e157 cJ3_checkIndex_8e157 3 (some .int) (rmk 0 0) G b τ [.int (oI v0), .int (oI v1), .ref a0] σ σ (some (.int (oI q))) := by
  unfold f_J3_checkIndex_8e157_n at hf
  refine CtrI.of (own := RJ3) (plainFor_of_name (by decide)) (Nat.le_of_ble_eq_true rfl) rfl (fun p e s m below meth c Q ls C hl S hend => ?_)
  have hl : lv_has ls 3 [(0, .int (oI v0)), (1, .int (oI v1)), (2, .ref a0)] := hl
  refine lv_iload_n C.1 C.2.1 dJ3_checkIndex_8e157_0 rfl (lv_at hl 0 rfl) ?_
  refine r_if_lt C rfl (tgt := 9) dJ3_checkIndex_8e157_1 (by decide) (fun h2 => ?_) (fun h2 => ?_)
  · replace hf := if_t hf h2
    cases hf
  · replace hf := if_f hf h2
    refine lv_iload_n C.1 C.2.1 dJ3_checkIndex_8e157_4 rfl (lv_at hl 0 rfl) ?_
    refine lv_iload_n C.1 C.2.1 dJ3_checkIndex_8e157_5 rfl (lv_at hl 1 rfl) ?_
    refine r_icmp_lt C rfl rfl (tgt := 16) dJ3_checkIndex_8e157_6 (by decide) (fun h1 => ?_) (fun h1 => ?_)
    · replace hf := if_t hf h1
      refine lv_iload_n C.1 C.2.1 dJ3_checkIndex_8e157_16 rfl (lv_at hl 0 rfl) ?_
      cases hf
      exact hend _ _ _ _ S dJ3_checkIndex_8e157_17
    · replace hf := if_f hf h1
      cases hf
set_option maxRecDepth 100000 in
set_option maxHeartbeats 4000000 in
theorem ct_J0_checkIndex_df160 (l : Launch) (G : Gd) (τ : Sg) {b : Bool} {v0 : Int} {v1 : Int} {σ : Sg} {q : Unit} (hf : f_J0_checkIndex_df160 v0 v1 σ = some q) : Ctr l yJ0_checkIndex_df160 cJ0_checkIndex_df160 2 none (rmk 1 22) G b τ [.int (oI v0), .int (oI v1)] σ σ none := by
  unfold f_J0_checkIndex_df160 at hf
  refine CtrV.of (own := RJ0) (plainFor_of_name (by decide)) (Nat.le_of_ble_eq_true rfl) rfl (fun p e s m below meth c Q ls C hl S hend => ?_)
  have hl : lv_has ls 2 [(0, .int (oI v0)), (1, .int (oI v1))] := hl
  refine lv_iload_n C.1 C.2.1 dJ0_checkIndex_df160_0 rfl (lv_at hl 0 rfl) ?_
  refine lv_iload_n C.1 C.2.1 dJ0_checkIndex_df160_1 rfl (lv_at hl 1 rfl) ?_
  rcases z_fmt S with hq | ⟨a0, hq⟩
  · refine z_getsV C S hq tw_375 dJ0_checkIndex_df160_2 ?_
    obtain ⟨q1, hc2, hf⟩ := bd_o hf
    refine r_callSv C S (As := [.int (oI v0), .int (oI v1), .null]) (rest := []) (ct_J3_checkIndex_8e157_n l G τ hc2) mi_J3_checkIndex_8e157 tw_377 ms_J3_checkIndex_8e157 ⟨rfl, rfl⟩ ⟨Nat.le_of_ble_eq_true rfl, Nat.le_of_ble_eq_true rfl⟩ ⟨Nat.zero_le _, Nat.zero_le _⟩ rfl hl.1 rfl (Nat.le_of_ble_eq_true rfl) dJ0_checkIndex_df160_5 (fun H locs S => ?_)
    refine lv_pop C.1 C.2.1 dJ0_checkIndex_df160_8 rfl ?_
    cases hf
    exact hend _ _ _ _ S dJ0_checkIndex_df160_9
  · refine z_getsV C S hq tw_375 dJ0_checkIndex_df160_2 ?_
    obtain ⟨q1, hc2, hf⟩ := bd_o hf
    refine r_callSv C S (As := [.int (oI v0), .int (oI v1), .ref a0]) (rest := []) (ct_J3_checkIndex_8e157_r l G τ hc2) mi_J3_checkIndex_8e157 tw_377 ms_J3_checkIndex_8e157 ⟨rfl, rfl⟩ ⟨Nat.le_of_ble_eq_true rfl, Nat.le_of_ble_eq_true rfl⟩ ⟨Nat.zero_le _, Nat.zero_le _⟩ rfl hl.1 rfl (Nat.le_of_ble_eq_true rfl) dJ0_checkIndex_df160_5 (fun H locs S => ?_)
    refine lv_pop C.1 C.2.1 dJ0_checkIndex_df160_8 rfl ?_
    cases hf
    exact hend _ _ _ _ S dJ0_checkIndex_df160_9
set_option maxRecDepth 100000 in
set_option maxHeartbeats 4000000 in
theorem ct_J1_charAt_3b067_y0 (l : Launch) (G : Gd) (τ : Sg) {b : Bool} {v1 : Int} {σ : Sg} {q : Int} (hf : f_J1_charAt_3b067_y0 v1 σ = some q) : Ctr l yJ1_charAt_3b067 cJ1_charAt_3b067 2 (some .char) (rmk 2 43) G b τ [.ref (G.1 90), .int (oI v1)] σ σ (some (.int (oI q))) := by
  unfold f_J1_charAt_3b067_y0 at hf
  refine CtrC.of (own := RJ1) (plainFor_of_name (by decide)) (Nat.le_of_ble_eq_true rfl) rfl (fun p e s m below meth c Q ls C hl S hend => ?_)
  have hl : lv_has ls 2 [(0, .ref (G.1 90)), (1, .int (oI v1))] := hl
  refine lv_iload_n C.1 C.2.1 dJ1_charAt_3b067_0 rfl (lv_at hl 1 rfl) ?_
  refine lv_aload_n C.1 C.2.1 dJ1_charAt_3b067_1 rfl (lv_at hl 0 rfl) ?_
  refine y_alen C S (i0 := 0) (by decide) dJ1_charAt_3b067_2 ?_
  obtain ⟨q1, hc2, hf⟩ := bd_o hf
  refine r_callSn C S (As := [.int (oI v1), .int (oI 6)]) (rest := []) (ct_J0_checkIndex_df160 l G τ hc2) mi_J0_checkIndex_df160 tw_372 ms_J0_checkIndex_df160 ⟨rfl, rfl⟩ ⟨Nat.le_of_ble_eq_true rfl, Nat.le_of_ble_eq_true rfl⟩ ⟨Nat.zero_le _, Nat.zero_le _⟩ rfl hl.1 rfl (Nat.le_of_ble_eq_true rfl) dJ1_charAt_3b067_3 (fun H locs S => ?_)
  refine lv_aload_n C.1 C.2.1 dJ1_charAt_3b067_6 rfl (lv_at hl 0 rfl) ?_
  refine lv_iload_n C.1 C.2.1 dJ1_charAt_3b067_7 rfl (lv_at hl 1 rfl) ?_
  obtain ⟨hi3, hf⟩ := ck_o hf
  refine y_bald C S (i0 := 0) (by decide) hi3 dJ1_charAt_3b067_8 ?_
  refine r_sipush C dJ1_charAt_3b067_9 (by decide) ?_
  refine r_iand C rfl (show u32 255 = 255 by decide) dJ1_charAt_3b067_12 ?_
  refine r_i2c C (u32_nat (nb_and (u32_lt _))) dJ1_charAt_3b067_13 ?_
  obtain ⟨hb4, hf⟩ := ck_o hf
  cases hf
  exact hend hb4 _ _ _ _ S dJ1_charAt_3b067_14
set_option maxRecDepth 100000 in
set_option maxHeartbeats 4000000 in
theorem ct_J0_charAt_5068e_s0 (l : Launch) (G : Gd) (τ : Sg) {b : Bool} {v1 : Int} {σ : Sg} {q : Int} (hf : f_J0_charAt_5068e_s0 v1 σ = some q) : Ctr l yJ0_charAt_5068e cJ0_charAt_5068e 2 (some .char) (rmk 3 64) G b τ [.ref (G.1 80), .int (oI v1)] σ σ (some (.int (oI q))) := by
  unfold f_J0_charAt_5068e_s0 at hf
  refine CtrC.of (own := RJ0) (plainFor_of_name (by decide)) (Nat.le_of_ble_eq_true rfl) rfl (fun p e s m below meth c Q ls C hl S hend => ?_)
  have hl : lv_has ls 2 [(0, .ref (G.1 80)), (1, .int (oI v1))] := hl
  refine lv_aload_n C.1 C.2.1 dJ0_charAt_5068e_0 rfl (lv_at hl 0 rfl) ?_
  obtain ⟨q1, hc2, hf⟩ := bd_o hf
  refine r_callVv C S (As := []) (rest := []) (ct_J0_isLatin1_aae02_s0 l G τ hc2) mi_J0_isLatin1_aae02 tw_365 mv_J0_isLatin1_aae02 (rvS_0 S) ⟨rfl, rfl⟩ ⟨Nat.le_of_ble_eq_true rfl, Nat.le_of_ble_eq_true rfl⟩ ⟨Nat.zero_le _, Nat.zero_le _⟩ rfl hl.1 rfl (Nat.le_of_ble_eq_true rfl) dJ0_charAt_5068e_1 (fun H locs S => ?_)
  refine r_if_eq C rfl (tgt := 16) dJ0_charAt_5068e_4 (by decide) (fun h6 => ?_) (fun h6 => ?_)
  · replace hf := if_t hf h6
    refine lv_aload_n C.1 C.2.1 dJ0_charAt_5068e_16 rfl (lv_at hl 0 rfl) ?_
    refine s_val C S (i0 := 0) (by decide) tw_1661 dJ0_charAt_5068e_17 ?_
    refine lv_iload_n C.1 C.2.1 dJ0_charAt_5068e_20 rfl (lv_at hl 1 rfl) ?_
    cases hf
  · replace hf := if_f hf h6
    refine lv_aload_n C.1 C.2.1 dJ0_charAt_5068e_7 rfl (lv_at hl 0 rfl) ?_
    refine s_val C S (i0 := 0) (by decide) tw_1661 dJ0_charAt_5068e_8 ?_
    refine lv_iload_n C.1 C.2.1 dJ0_charAt_5068e_11 rfl (lv_at hl 1 rfl) ?_
    obtain ⟨q3, hc4, hf⟩ := bd_o hf
    refine r_callSv C S (As := [.ref (G.1 90), .int (oI v1)]) (rest := []) (ct_J1_charAt_3b067_y0 l G τ hc4) mi_J1_charAt_3b067 tw_369 ms_J1_charAt_3b067 ⟨rfl, rfl⟩ ⟨Nat.le_of_ble_eq_true rfl, Nat.le_of_ble_eq_true rfl⟩ ⟨Nat.zero_le _, Nat.zero_le _⟩ rfl hl.1 rfl (Nat.le_of_ble_eq_true rfl) dJ0_charAt_5068e_12 (fun H locs S => ?_)
    obtain ⟨hb5, hf⟩ := ck_o hf
    cases hf
    exact hend hb5 _ _ _ _ S dJ0_charAt_5068e_15
set_option maxRecDepth 100000 in
set_option maxHeartbeats 4000000 in
theorem b_X4_spells_s0_b17 (C : Cx p s m args c RX4 cX4_spells 4) {q : Int} (hend : (q = 0 ∨ q = 1) → EndR p l e (rmk 4 85) s m args below meth c Q G true τ cX4_spells .ireturn [.int (oI q)] σ) : ∀ (n : Nat) {H : Heap} {locs : List Loc} {ls : Array Slot} (v1 : Int) (v3 : Int) (S : St G true τ σ s H locs) (hl : lv_has ls 4 [(0, .ref (G.1 3)), (1, .int (oI v1)), (2, .ref (G.1 80)), (3, .int (oI v3))]) (hf : f_X4_spells_s0_b17 σ n v1 v3 = some q), W p l e (rmk 4 85) s m args below meth c H locs 0 0 Q (F0 m 17 ls []) := by
  intro n
  induction n with
  | zero => intro H locs ls v1 v3 S hl hf; cases hf
  | succ n ih =>
    intro H locs ls v1 v3 S hl hf
    have hk17 := @ih
    rw [f_X4_spells_s0_b17] at hf
    refine lv_iload_n C.1 C.2.1 dX4_spells_17 rfl (lv_at hl 3 rfl) ?_
    refine lv_aload_n C.1 C.2.1 dX4_spells_18 rfl (lv_at hl 2 rfl) ?_
    obtain ⟨q3, hc4, hf⟩ := bd_o hf
    refine r_callVv C S (As := []) (rest := [.int (oI v3)]) (ct_J0_length_8abf5_s0 l G τ hc4) mi_J0_length_8abf5 tw_351 mv_J0_length_8abf5 (rvS_0 S) ⟨rfl, rfl⟩ ⟨Nat.le_of_ble_eq_true rfl, Nat.le_of_ble_eq_true rfl⟩ ⟨Nat.zero_le _, Nat.zero_le _⟩ rfl hl.1 rfl (Nat.le_of_ble_eq_true rfl) dX4_spells_19 (fun H locs S => ?_)
    refine r_icmp_ge C rfl rfl (tgt := 51) dX4_spells_22 (by decide) (fun h10 => ?_) (fun h10 => ?_)
    · replace hf := if_t hf h10
      refine lv_aload_n C.1 C.2.1 dX4_spells_25 rfl (lv_at hl 0 rfl) ?_
      refine g4_tape C S tw_53 dX4_spells_26 ?_
      refine lv_iload_n C.1 C.2.1 dX4_spells_29 rfl (lv_at hl 1 rfl) ?_
      refine lv_iload_n C.1 C.2.1 dX4_spells_30 rfl (lv_at hl 3 rfl) ?_
      refine r_iadd C dX4_spells_31 ?_
      obtain ⟨q5, hc6, hf⟩ := bd_o hf
      refine r_callVv C S (As := [.int (oI (v1 + v3))]) (rest := []) (ct_X6_at l G τ hc6) mi_X6_at tw_334 mv_X6_at (rvX6 S) ⟨rfl, rfl⟩ ⟨Nat.le_of_ble_eq_true rfl, Nat.le_of_ble_eq_true rfl⟩ ⟨Nat.zero_le _, Nat.zero_le _⟩ rfl hl.1 rfl (Nat.le_of_ble_eq_true rfl) dX4_spells_32 (fun H locs S => ?_)
      refine lv_aload_n C.1 C.2.1 dX4_spells_35 rfl (lv_at hl 2 rfl) ?_
      refine lv_iload_n C.1 C.2.1 dX4_spells_36 rfl (lv_at hl 3 rfl) ?_
      obtain ⟨q7, hc8, hf⟩ := bd_o hf
      refine r_callVv C S (As := [.int (oI v3)]) (rest := [.int (oI q5)]) (ct_J0_charAt_5068e_s0 l G τ hc8) mi_J0_charAt_5068e tw_361 mv_J0_charAt_5068e (rvS_0 S) ⟨rfl, rfl⟩ ⟨Nat.le_of_ble_eq_true rfl, Nat.le_of_ble_eq_true rfl⟩ ⟨Nat.zero_le _, Nat.zero_le _⟩ rfl hl.1 rfl (Nat.le_of_ble_eq_true rfl) dX4_spells_37 (fun H locs S => ?_)
      refine r_icmp_eq C rfl rfl (tgt := 45) dX4_spells_40 (by decide) (fun h9 => ?_) (fun h9 => ?_)
      · replace hf := if_t hf h9
        refine r_iinc C dX4_spells_45 hl (k := 3) rfl (by decide) (lv' := [(3, .int (oI (v3 + 1))), (0, .ref (G.1 3)), (1, .int (oI v1)), (2, .ref (G.1 80))]) rfl (fun ls hl => ?_)
        refine lv_goto C.1 C.2.1 (tgt := 17) dX4_spells_48 (by decide) ?_
        exact hk17 v1 (v3 + 1) S (lv_sub hl [1, 2, 3, 0] rfl) hf
      · replace hf := if_f hf h9
        refine r_iconst C dX4_spells_43 ?_
        cases hf
        exact hend (Or.inl rfl) _ _ _ _ S dX4_spells_44
    · replace hf := if_f hf h10
      refine r_iconst C dX4_spells_51 ?_
      cases hf
      exact hend (Or.inr rfl) _ _ _ _ S dX4_spells_52
set_option maxRecDepth 100000 in
set_option maxHeartbeats 4000000 in
theorem ct_X4_spells_s0 (l : Launch) (G : Gd) (τ : Sg) {v1 : Int} {σ : Sg} {q : Int} (hf : f_X4_spells_s0 v1 σ = some q) : Ctr l yX4_spells cX4_spells 4 (some .boolean) (rmk 4 85) G true τ [.ref (G.1 3), .int (oI v1), .ref (G.1 80)] σ σ (some (.int (oI q))) := by
  unfold f_X4_spells_s0 at hf
  refine CtrZ.of (own := RX4) (plainFor_of_name (by decide)) (Nat.le_of_ble_eq_true rfl) rfl (fun p e s m below meth c Q ls C hl S hend => ?_)
  have hl : lv_has ls 4 [(0, .ref (G.1 3)), (1, .int (oI v1)), (2, .ref (G.1 80))] := hl
  refine lv_aload_n C.1 C.2.1 dX4_spells_0 rfl (lv_at hl 0 rfl) ?_
  refine g4_at C S tw_57 dX4_spells_1 ?_
  refine lv_iload_n C.1 C.2.1 dX4_spells_4 rfl (lv_at hl 1 rfl) ?_
  refine r_isub C dX4_spells_5 ?_
  refine lv_aload_n C.1 C.2.1 dX4_spells_6 rfl (lv_at hl 2 rfl) ?_
  obtain ⟨q1, hc2, hf⟩ := bd_o hf
  refine r_callVv C S (As := []) (rest := [.int (oI ((σ 3 4) - v1))]) (ct_J0_length_8abf5_s0 l G τ hc2) mi_J0_length_8abf5 tw_351 mv_J0_length_8abf5 (rvS_0 S) ⟨rfl, rfl⟩ ⟨Nat.le_of_ble_eq_true rfl, Nat.le_of_ble_eq_true rfl⟩ ⟨Nat.zero_le _, Nat.zero_le _⟩ rfl hl.1 rfl (Nat.le_of_ble_eq_true rfl) dX4_spells_7 (fun H locs S => ?_)
  refine r_icmp_eq C rfl rfl (tgt := 15) dX4_spells_10 (by decide) (fun h11 => ?_) (fun h11 => ?_)
  · replace hf := if_t hf h11
    refine r_iconst C dX4_spells_15 ?_
    refine lv_istore_n C.1 C.2.1 dX4_spells_16 rfl hl (by decide) (lv' := [(3, .int (oI 0)), (0, .ref (G.1 3)), (1, .int (oI v1)), (2, .ref (G.1 80))]) rfl (fun ls hl => ?_)
    exact b_X4_spells_s0_b17 C hend FUEL v1 0 S (lv_sub hl [1, 2, 3, 0] rfl) hf
  · replace hf := if_f hf h11
    refine r_iconst C dX4_spells_13 ?_
    cases hf
    exact hend (Or.inl rfl) _ _ _ _ S dX4_spells_14
set_option maxRecDepth 100000 in
set_option maxHeartbeats 4000000 in
theorem ct_J0_coder_7d493_s1 (l : Launch) (G : Gd) (τ : Sg) {b : Bool} {σ : Sg} {q : Int} (hf : f_J0_coder_7d493_s1 σ = some q) : Ctr l yJ0_coder_7d493 cJ0_coder_7d493 1 (some .byte) (rmk 0 0) G b τ [.ref (G.1 81)] σ σ (some (.int (oI q))) := by
  unfold f_J0_coder_7d493_s1 at hf
  refine CtrB.of (own := RJ0) (plainFor_of_name (by decide)) (Nat.le_of_ble_eq_true rfl) rfl (fun p e s m below meth c Q ls C hl S hend => ?_)
  have hl : lv_has ls 1 [(0, .ref (G.1 81))] := hl
  refine z_cmp C S tw_359 dJ0_coder_7d493_0 ?_
  refine r_if_eq C (show w32 1 = 1 by decide) (tgt := 13) dJ0_coder_7d493_3 (by decide) (fun h1 => ?_) (fun h1 => ?_)
  · exact absurd h1 (by decide)
  · refine lv_aload_n C.1 C.2.1 dJ0_coder_7d493_6 rfl (lv_at hl 0 rfl) ?_
    refine s_cod C S (i0 := 1) (by decide) tw_1662 dJ0_coder_7d493_7 ?_
    refine lv_goto C.1 C.2.1 (tgt := 14) dJ0_coder_7d493_10 (by decide) ?_
    cases hf
    exact hend (Or.inl rfl) _ _ _ _ S dJ0_coder_7d493_14
set_option maxRecDepth 100000 in
set_option maxHeartbeats 4000000 in
theorem ct_J0_length_8abf5_s1 (l : Launch) (G : Gd) (τ : Sg) {b : Bool} {σ : Sg} {q : Int} (hf : f_J0_length_8abf5_s1 σ = some q) : Ctr l yJ0_length_8abf5 cJ0_length_8abf5 1 (some .int) (rmk 1 20) G b τ [.ref (G.1 81)] σ σ (some (.int (oI q))) := by
  unfold f_J0_length_8abf5_s1 at hf
  refine CtrI.of (own := RJ0) (plainFor_of_name (by decide)) (Nat.le_of_ble_eq_true rfl) rfl (fun p e s m below meth c Q ls C hl S hend => ?_)
  have hl : lv_has ls 1 [(0, .ref (G.1 81))] := hl
  refine lv_aload_n C.1 C.2.1 dJ0_length_8abf5_0 rfl (lv_at hl 0 rfl) ?_
  refine s_val C S (i0 := 1) (by decide) tw_1661 dJ0_length_8abf5_1 ?_
  refine y_alen C S (i0 := 1) (by decide) dJ0_length_8abf5_4 ?_
  refine lv_aload_n C.1 C.2.1 dJ0_length_8abf5_5 rfl (lv_at hl 0 rfl) ?_
  obtain ⟨q1, hc2, hf⟩ := bd_o hf
  refine r_callVv C S (As := []) (rest := [.int (oI 6)]) (ct_J0_coder_7d493_s1 l G τ hc2) mi_J0_coder_7d493 tw_355 mv_J0_coder_7d493 (rvS_1 S) ⟨rfl, rfl⟩ ⟨Nat.le_of_ble_eq_true rfl, Nat.le_of_ble_eq_true rfl⟩ ⟨Nat.zero_le _, Nat.zero_le _⟩ rfl hl.1 rfl (Nat.le_of_ble_eq_true rfl) dJ0_length_8abf5_6 (fun H locs S => ?_)
  refine r_ishr C (y1 := (u32 q1 % 32)) rfl dJ0_length_8abf5_9 ?_
  cases hf
  exact hend _ _ _ _ S dJ0_length_8abf5_10
set_option maxRecDepth 100000 in
set_option maxHeartbeats 4000000 in
theorem ct_J0_isLatin1_aae02_s1 (l : Launch) (G : Gd) (τ : Sg) {b : Bool} {σ : Sg} {q : Int} (hf : f_J0_isLatin1_aae02_s1 σ = some q) : Ctr l yJ0_isLatin1_aae02 cJ0_isLatin1_aae02 1 (some .boolean) (rmk 0 0) G b τ [.ref (G.1 81)] σ σ (some (.int (oI q))) := by
  unfold f_J0_isLatin1_aae02_s1 at hf
  refine CtrZ.of (own := RJ0) (plainFor_of_name (by decide)) (Nat.le_of_ble_eq_true rfl) rfl (fun p e s m below meth c Q ls C hl S hend => ?_)
  have hl : lv_has ls 1 [(0, .ref (G.1 81))] := hl
  refine z_cmp C S tw_359 dJ0_isLatin1_aae02_0 ?_
  refine r_if_eq C (show w32 1 = 1 by decide) (tgt := 17) dJ0_isLatin1_aae02_3 (by decide) (fun h2 => ?_) (fun h2 => ?_)
  · exact absurd h2 (by decide)
  · refine lv_aload_n C.1 C.2.1 dJ0_isLatin1_aae02_6 rfl (lv_at hl 0 rfl) ?_
    refine s_cod C S (i0 := 1) (by decide) tw_1662 dJ0_isLatin1_aae02_7 ?_
    refine r_if_ne C (show w32 0 = 0 by decide) (tgt := 17) dJ0_isLatin1_aae02_10 (by decide) (fun h1 => ?_) (fun h1 => ?_)
    · refine r_iconst C dJ0_isLatin1_aae02_13 ?_
      refine lv_goto C.1 C.2.1 (tgt := 18) dJ0_isLatin1_aae02_14 (by decide) ?_
      cases hf
      exact hend (Or.inr rfl) _ _ _ _ S dJ0_isLatin1_aae02_18
    · exact absurd (by decide) h1
set_option maxRecDepth 100000 in
set_option maxHeartbeats 4000000 in
theorem ct_J1_charAt_3b067_y1 (l : Launch) (G : Gd) (τ : Sg) {b : Bool} {v1 : Int} {σ : Sg} {q : Int} (hf : f_J1_charAt_3b067_y1 v1 σ = some q) : Ctr l yJ1_charAt_3b067 cJ1_charAt_3b067 2 (some .char) (rmk 2 43) G b τ [.ref (G.1 91), .int (oI v1)] σ σ (some (.int (oI q))) := by
  unfold f_J1_charAt_3b067_y1 at hf
  refine CtrC.of (own := RJ1) (plainFor_of_name (by decide)) (Nat.le_of_ble_eq_true rfl) rfl (fun p e s m below meth c Q ls C hl S hend => ?_)
  have hl : lv_has ls 2 [(0, .ref (G.1 91)), (1, .int (oI v1))] := hl
  refine lv_iload_n C.1 C.2.1 dJ1_charAt_3b067_0 rfl (lv_at hl 1 rfl) ?_
  refine lv_aload_n C.1 C.2.1 dJ1_charAt_3b067_1 rfl (lv_at hl 0 rfl) ?_
  refine y_alen C S (i0 := 1) (by decide) dJ1_charAt_3b067_2 ?_
  obtain ⟨q1, hc2, hf⟩ := bd_o hf
  refine r_callSn C S (As := [.int (oI v1), .int (oI 6)]) (rest := []) (ct_J0_checkIndex_df160 l G τ hc2) mi_J0_checkIndex_df160 tw_372 ms_J0_checkIndex_df160 ⟨rfl, rfl⟩ ⟨Nat.le_of_ble_eq_true rfl, Nat.le_of_ble_eq_true rfl⟩ ⟨Nat.zero_le _, Nat.zero_le _⟩ rfl hl.1 rfl (Nat.le_of_ble_eq_true rfl) dJ1_charAt_3b067_3 (fun H locs S => ?_)
  refine lv_aload_n C.1 C.2.1 dJ1_charAt_3b067_6 rfl (lv_at hl 0 rfl) ?_
  refine lv_iload_n C.1 C.2.1 dJ1_charAt_3b067_7 rfl (lv_at hl 1 rfl) ?_
  obtain ⟨hi3, hf⟩ := ck_o hf
  refine y_bald C S (i0 := 1) (by decide) hi3 dJ1_charAt_3b067_8 ?_
  refine r_sipush C dJ1_charAt_3b067_9 (by decide) ?_
  refine r_iand C rfl (show u32 255 = 255 by decide) dJ1_charAt_3b067_12 ?_
  refine r_i2c C (u32_nat (nb_and (u32_lt _))) dJ1_charAt_3b067_13 ?_
  obtain ⟨hb4, hf⟩ := ck_o hf
  cases hf
  exact hend hb4 _ _ _ _ S dJ1_charAt_3b067_14
set_option maxRecDepth 100000 in
set_option maxHeartbeats 4000000 in
theorem ct_J0_charAt_5068e_s1 (l : Launch) (G : Gd) (τ : Sg) {b : Bool} {v1 : Int} {σ : Sg} {q : Int} (hf : f_J0_charAt_5068e_s1 v1 σ = some q) : Ctr l yJ0_charAt_5068e cJ0_charAt_5068e 2 (some .char) (rmk 3 64) G b τ [.ref (G.1 81), .int (oI v1)] σ σ (some (.int (oI q))) := by
  unfold f_J0_charAt_5068e_s1 at hf
  refine CtrC.of (own := RJ0) (plainFor_of_name (by decide)) (Nat.le_of_ble_eq_true rfl) rfl (fun p e s m below meth c Q ls C hl S hend => ?_)
  have hl : lv_has ls 2 [(0, .ref (G.1 81)), (1, .int (oI v1))] := hl
  refine lv_aload_n C.1 C.2.1 dJ0_charAt_5068e_0 rfl (lv_at hl 0 rfl) ?_
  obtain ⟨q1, hc2, hf⟩ := bd_o hf
  refine r_callVv C S (As := []) (rest := []) (ct_J0_isLatin1_aae02_s1 l G τ hc2) mi_J0_isLatin1_aae02 tw_365 mv_J0_isLatin1_aae02 (rvS_1 S) ⟨rfl, rfl⟩ ⟨Nat.le_of_ble_eq_true rfl, Nat.le_of_ble_eq_true rfl⟩ ⟨Nat.zero_le _, Nat.zero_le _⟩ rfl hl.1 rfl (Nat.le_of_ble_eq_true rfl) dJ0_charAt_5068e_1 (fun H locs S => ?_)
  refine r_if_eq C rfl (tgt := 16) dJ0_charAt_5068e_4 (by decide) (fun h6 => ?_) (fun h6 => ?_)
  · replace hf := if_t hf h6
    refine lv_aload_n C.1 C.2.1 dJ0_charAt_5068e_16 rfl (lv_at hl 0 rfl) ?_
    refine s_val C S (i0 := 1) (by decide) tw_1661 dJ0_charAt_5068e_17 ?_
    refine lv_iload_n C.1 C.2.1 dJ0_charAt_5068e_20 rfl (lv_at hl 1 rfl) ?_
    cases hf
  · replace hf := if_f hf h6
    refine lv_aload_n C.1 C.2.1 dJ0_charAt_5068e_7 rfl (lv_at hl 0 rfl) ?_
    refine s_val C S (i0 := 1) (by decide) tw_1661 dJ0_charAt_5068e_8 ?_
    refine lv_iload_n C.1 C.2.1 dJ0_charAt_5068e_11 rfl (lv_at hl 1 rfl) ?_
    obtain ⟨q3, hc4, hf⟩ := bd_o hf
    refine r_callSv C S (As := [.ref (G.1 91), .int (oI v1)]) (rest := []) (ct_J1_charAt_3b067_y1 l G τ hc4) mi_J1_charAt_3b067 tw_369 ms_J1_charAt_3b067 ⟨rfl, rfl⟩ ⟨Nat.le_of_ble_eq_true rfl, Nat.le_of_ble_eq_true rfl⟩ ⟨Nat.zero_le _, Nat.zero_le _⟩ rfl hl.1 rfl (Nat.le_of_ble_eq_true rfl) dJ0_charAt_5068e_12 (fun H locs S => ?_)
    obtain ⟨hb5, hf⟩ := ck_o hf
    cases hf
    exact hend hb5 _ _ _ _ S dJ0_charAt_5068e_15
set_option maxRecDepth 100000 in
set_option maxHeartbeats 4000000 in
theorem b_X4_spells_s1_b17 (C : Cx p s m args c RX4 cX4_spells 4) {q : Int} (hend : (q = 0 ∨ q = 1) → EndR p l e (rmk 4 85) s m args below meth c Q G true τ cX4_spells .ireturn [.int (oI q)] σ) : ∀ (n : Nat) {H : Heap} {locs : List Loc} {ls : Array Slot} (v1 : Int) (v3 : Int) (S : St G true τ σ s H locs) (hl : lv_has ls 4 [(0, .ref (G.1 3)), (1, .int (oI v1)), (2, .ref (G.1 81)), (3, .int (oI v3))]) (hf : f_X4_spells_s1_b17 σ n v1 v3 = some q), W p l e (rmk 4 85) s m args below meth c H locs 0 0 Q (F0 m 17 ls []) := by
  intro n
  induction n with
  | zero => intro H locs ls v1 v3 S hl hf; cases hf
  | succ n ih =>
    intro H locs ls v1 v3 S hl hf
    have hk17 := @ih
    rw [f_X4_spells_s1_b17] at hf
    refine lv_iload_n C.1 C.2.1 dX4_spells_17 rfl (lv_at hl 3 rfl) ?_
    refine lv_aload_n C.1 C.2.1 dX4_spells_18 rfl (lv_at hl 2 rfl) ?_
    obtain ⟨q3, hc4, hf⟩ := bd_o hf
    refine r_callVv C S (As := []) (rest := [.int (oI v3)]) (ct_J0_length_8abf5_s1 l G τ hc4) mi_J0_length_8abf5 tw_351 mv_J0_length_8abf5 (rvS_1 S) ⟨rfl, rfl⟩ ⟨Nat.le_of_ble_eq_true rfl, Nat.le_of_ble_eq_true rfl⟩ ⟨Nat.zero_le _, Nat.zero_le _⟩ rfl hl.1 rfl (Nat.le_of_ble_eq_true rfl) dX4_spells_19 (fun H locs S => ?_)
    refine r_icmp_ge C rfl rfl (tgt := 51) dX4_spells_22 (by decide) (fun h10 => ?_) (fun h10 => ?_)
    · replace hf := if_t hf h10
      refine lv_aload_n C.1 C.2.1 dX4_spells_25 rfl (lv_at hl 0 rfl) ?_
      refine g4_tape C S tw_53 dX4_spells_26 ?_
      refine lv_iload_n C.1 C.2.1 dX4_spells_29 rfl (lv_at hl 1 rfl) ?_
      refine lv_iload_n C.1 C.2.1 dX4_spells_30 rfl (lv_at hl 3 rfl) ?_
      refine r_iadd C dX4_spells_31 ?_
      obtain ⟨q5, hc6, hf⟩ := bd_o hf
      refine r_callVv C S (As := [.int (oI (v1 + v3))]) (rest := []) (ct_X6_at l G τ hc6) mi_X6_at tw_334 mv_X6_at (rvX6 S) ⟨rfl, rfl⟩ ⟨Nat.le_of_ble_eq_true rfl, Nat.le_of_ble_eq_true rfl⟩ ⟨Nat.zero_le _, Nat.zero_le _⟩ rfl hl.1 rfl (Nat.le_of_ble_eq_true rfl) dX4_spells_32 (fun H locs S => ?_)
      refine lv_aload_n C.1 C.2.1 dX4_spells_35 rfl (lv_at hl 2 rfl) ?_
      refine lv_iload_n C.1 C.2.1 dX4_spells_36 rfl (lv_at hl 3 rfl) ?_
      obtain ⟨q7, hc8, hf⟩ := bd_o hf
      refine r_callVv C S (As := [.int (oI v3)]) (rest := [.int (oI q5)]) (ct_J0_charAt_5068e_s1 l G τ hc8) mi_J0_charAt_5068e tw_361 mv_J0_charAt_5068e (rvS_1 S) ⟨rfl, rfl⟩ ⟨Nat.le_of_ble_eq_true rfl, Nat.le_of_ble_eq_true rfl⟩ ⟨Nat.zero_le _, Nat.zero_le _⟩ rfl hl.1 rfl (Nat.le_of_ble_eq_true rfl) dX4_spells_37 (fun H locs S => ?_)
      refine r_icmp_eq C rfl rfl (tgt := 45) dX4_spells_40 (by decide) (fun h9 => ?_) (fun h9 => ?_)
      · replace hf := if_t hf h9
        refine r_iinc C dX4_spells_45 hl (k := 3) rfl (by decide) (lv' := [(3, .int (oI (v3 + 1))), (0, .ref (G.1 3)), (1, .int (oI v1)), (2, .ref (G.1 81))]) rfl (fun ls hl => ?_)
        refine lv_goto C.1 C.2.1 (tgt := 17) dX4_spells_48 (by decide) ?_
        exact hk17 v1 (v3 + 1) S (lv_sub hl [1, 2, 3, 0] rfl) hf
      · replace hf := if_f hf h9
        refine r_iconst C dX4_spells_43 ?_
        cases hf
        exact hend (Or.inl rfl) _ _ _ _ S dX4_spells_44
    · replace hf := if_f hf h10
      refine r_iconst C dX4_spells_51 ?_
      cases hf
      exact hend (Or.inr rfl) _ _ _ _ S dX4_spells_52
set_option maxRecDepth 100000 in
set_option maxHeartbeats 4000000 in
theorem ct_X4_spells_s1 (l : Launch) (G : Gd) (τ : Sg) {v1 : Int} {σ : Sg} {q : Int} (hf : f_X4_spells_s1 v1 σ = some q) : Ctr l yX4_spells cX4_spells 4 (some .boolean) (rmk 4 85) G true τ [.ref (G.1 3), .int (oI v1), .ref (G.1 81)] σ σ (some (.int (oI q))) := by
  unfold f_X4_spells_s1 at hf
  refine CtrZ.of (own := RX4) (plainFor_of_name (by decide)) (Nat.le_of_ble_eq_true rfl) rfl (fun p e s m below meth c Q ls C hl S hend => ?_)
  have hl : lv_has ls 4 [(0, .ref (G.1 3)), (1, .int (oI v1)), (2, .ref (G.1 81))] := hl
  refine lv_aload_n C.1 C.2.1 dX4_spells_0 rfl (lv_at hl 0 rfl) ?_
  refine g4_at C S tw_57 dX4_spells_1 ?_
  refine lv_iload_n C.1 C.2.1 dX4_spells_4 rfl (lv_at hl 1 rfl) ?_
  refine r_isub C dX4_spells_5 ?_
  refine lv_aload_n C.1 C.2.1 dX4_spells_6 rfl (lv_at hl 2 rfl) ?_
  obtain ⟨q1, hc2, hf⟩ := bd_o hf
  refine r_callVv C S (As := []) (rest := [.int (oI ((σ 3 4) - v1))]) (ct_J0_length_8abf5_s1 l G τ hc2) mi_J0_length_8abf5 tw_351 mv_J0_length_8abf5 (rvS_1 S) ⟨rfl, rfl⟩ ⟨Nat.le_of_ble_eq_true rfl, Nat.le_of_ble_eq_true rfl⟩ ⟨Nat.zero_le _, Nat.zero_le _⟩ rfl hl.1 rfl (Nat.le_of_ble_eq_true rfl) dX4_spells_7 (fun H locs S => ?_)
  refine r_icmp_eq C rfl rfl (tgt := 15) dX4_spells_10 (by decide) (fun h11 => ?_) (fun h11 => ?_)
  · replace hf := if_t hf h11
    refine r_iconst C dX4_spells_15 ?_
    refine lv_istore_n C.1 C.2.1 dX4_spells_16 rfl hl (by decide) (lv' := [(3, .int (oI 0)), (0, .ref (G.1 3)), (1, .int (oI v1)), (2, .ref (G.1 81))]) rfl (fun ls hl => ?_)
    exact b_X4_spells_s1_b17 C hend FUEL v1 0 S (lv_sub hl [1, 2, 3, 0] rfl) hf
  · replace hf := if_f hf h11
    refine r_iconst C dX4_spells_13 ?_
    cases hf
    exact hend (Or.inl rfl) _ _ _ _ S dX4_spells_14
set_option maxRecDepth 100000 in
set_option maxHeartbeats 4000000 in
theorem ct_X4_complain (l : Launch) (G : Gd) (τ : Sg) {v1 : Int} {v2 : Int} {σ : Sg} {q : Sg} (hf : f_X4_complain v1 v2 σ = some q) : Ctr l yX4_complain cX4_complain 3 none (rmk 0 0) G true τ [.ref (G.1 3), .int (oI v1), .int (oI v2)] σ q none := by
  unfold f_X4_complain at hf
  refine CtrV.of (own := RX4) (plainFor_of_name (by decide)) (Nat.le_of_ble_eq_true rfl) rfl (fun p e s m below meth c Q ls C hl S hend => ?_)
  have hl : lv_has ls 3 [(0, .ref (G.1 3)), (1, .int (oI v1)), (2, .int (oI v2))] := hl
  refine lv_aload_n C.1 C.2.1 dX4_complain_0 rfl (lv_at hl 0 rfl) ?_
  refine g4_fault C S tw_62 dX4_complain_1 ?_
  refine r_if_ne C rfl (tgt := 17) dX4_complain_4 (by decide) (fun h3 => ?_) (fun h3 => ?_)
  · replace hf := if_t hf h3
    refine lv_aload_n C.1 C.2.1 dX4_complain_7 rfl (lv_at hl 0 rfl) ?_
    refine lv_iload_n C.1 C.2.1 dX4_complain_8 rfl (lv_at hl 1 rfl) ?_
    refine p4_fault C S tw_62 dX4_complain_9 (fun H locs S => ?_)
    obtain ⟨σ1, S, hf⟩ := wr_s S hf
    refine lv_aload_n C.1 C.2.1 dX4_complain_12 rfl (lv_at hl 0 rfl) ?_
    refine lv_iload_n C.1 C.2.1 dX4_complain_13 rfl (lv_at hl 2 rfl) ?_
    refine p4_place C S tw_64 dX4_complain_14 (fun H locs S => ?_)
    obtain ⟨σ2, S, hf⟩ := wr_s S hf
    cases hf
    exact hend _ _ _ _ S dX4_complain_17
  · replace hf := if_f hf h3
    cases hf
    exact hend _ _ _ _ S dX4_complain_17
set_option maxRecDepth 100000 in
set_option maxHeartbeats 4000000 in
theorem b_X4_readEnd_b44 (C : Cx p s m args c RX4 cX4_readEnd 1) {q : Sg} (hend : EndR p l e (rmk 2 41) s m args below meth c Q G true τ cX4_readEnd .return_ [] q) {H : Heap} {locs : List Loc} {ls : Array Slot} {σ : Sg} (S : St G true τ σ s H locs) (hl : lv_has ls 1 [(0, .ref (G.1 3))]) (hf : f_X4_readEnd_b44 σ = some q) : W p l e (rmk 2 41) s m args below meth c H locs 0 0 Q (F0 m 44 ls []) := by
  unfold f_X4_readEnd_b44 at hf
  refine lv_aload_n C.1 C.2.1 dX4_readEnd_44 rfl (lv_at hl 0 rfl) ?_
  refine r_iconst C dX4_readEnd_45 ?_
  refine lv_aload_n C.1 C.2.1 dX4_readEnd_46 rfl (lv_at hl 0 rfl) ?_
  refine g4_at C S tw_57 dX4_readEnd_47 ?_
  obtain ⟨q6, hc7, hf⟩ := bd_o hf
  refine r_callVn C S (As := [.int (oI 1), .int (oI (σ 3 4))]) (rest := []) (ct_X4_complain l G τ hc7) mi_X4_complain tw_407 mv_X4_complain (rvX4 S) ⟨rfl, rfl⟩ ⟨Nat.le_of_ble_eq_true rfl, Nat.le_of_ble_eq_true rfl⟩ ⟨Nat.zero_le _, Nat.zero_le _⟩ rfl hl.1 rfl (Nat.le_of_ble_eq_true rfl) dX4_readEnd_50 (fun H locs S => ?_)
  cases hf
  exact hend _ _ _ _ S dX4_readEnd_53
set_option maxRecDepth 100000 in
set_option maxHeartbeats 4000000 in
theorem ct_X4_readEnd (l : Launch) (G : Gd) (τ : Sg) {σ : Sg} {q : Sg} (hf : f_X4_readEnd σ = some q) : Ctr l yX4_readEnd cX4_readEnd 1 none (rmk 2 41) G true τ [.ref (G.1 3)] σ q none := by
  unfold f_X4_readEnd at hf
  refine CtrV.of (own := RX4) (plainFor_of_name (by decide)) (Nat.le_of_ble_eq_true rfl) rfl (fun p e s m below meth c Q ls C hl S hend => ?_)
  have hl : lv_has ls 1 [(0, .ref (G.1 3))] := hl
  refine lv_aload_n C.1 C.2.1 dX4_readEnd_0 rfl (lv_at hl 0 rfl) ?_
  obtain ⟨q1, hc2, hf⟩ := bd_o hf
  refine r_callVn C S (As := []) (rest := []) (ct_X4_skipBlanks l G τ hc2) mi_X4_skipBlanks tw_330 mv_X4_skipBlanks (rvX4 S) ⟨rfl, rfl⟩ ⟨Nat.le_of_ble_eq_true rfl, Nat.le_of_ble_eq_true rfl⟩ ⟨Nat.zero_le _, Nat.zero_le _⟩ rfl hl.1 rfl (Nat.le_of_ble_eq_true rfl) dX4_readEnd_1 (fun H locs S => ?_)
  refine lv_aload_n C.1 C.2.1 dX4_readEnd_4 rfl (lv_at hl 0 rfl) ?_
  refine g4_at C S tw_57 dX4_readEnd_5 ?_
  refine lv_aload_n C.1 C.2.1 dX4_readEnd_8 rfl (lv_at hl 0 rfl) ?_
  refine g4_length C S tw_56 dX4_readEnd_9 ?_
  refine r_icmp_ge C rfl rfl (tgt := 44) dX4_readEnd_12 (by decide) (fun h9 => ?_) (fun h9 => ?_)
  · replace hf := if_t hf h9
    refine lv_aload_n C.1 C.2.1 dX4_readEnd_15 rfl (lv_at hl 0 rfl) ?_
    refine g4_tape C S tw_53 dX4_readEnd_16 ?_
    refine lv_aload_n C.1 C.2.1 dX4_readEnd_19 rfl (lv_at hl 0 rfl) ?_
    refine g4_at C S tw_57 dX4_readEnd_20 ?_
    obtain ⟨q3, hc4, hf⟩ := bd_o hf
    refine r_callVv C S (As := [.int (oI (q1 3 4))]) (rest := []) (ct_X6_at l G τ hc4) mi_X6_at tw_334 mv_X6_at (rvX6 S) ⟨rfl, rfl⟩ ⟨Nat.le_of_ble_eq_true rfl, Nat.le_of_ble_eq_true rfl⟩ ⟨Nat.zero_le _, Nat.zero_le _⟩ rfl hl.1 rfl (Nat.le_of_ble_eq_true rfl) dX4_readEnd_23 (fun H locs S => ?_)
    refine r_bipush C dX4_readEnd_26 (by decide) ?_
    refine r_icmp_ne C rfl (show w32 59 = 59 by decide) (tgt := 44) dX4_readEnd_28 (by decide) (fun h8 => ?_) (fun h8 => ?_)
    · replace hf := if_t hf h8
      refine lv_aload_n C.1 C.2.1 dX4_readEnd_31 rfl (lv_at hl 0 rfl) ?_
      refine lv_dup C.1 C.2.1 dX4_readEnd_32 rfl ?_
      refine g4_at C S tw_57 dX4_readEnd_33 ?_
      refine r_iconst C dX4_readEnd_36 ?_
      refine r_iadd C dX4_readEnd_37 ?_
      refine p4_at C S tw_57 dX4_readEnd_38 (fun H locs S => ?_)
      obtain ⟨σ5, S, hf⟩ := wr_s S hf
      refine lv_goto C.1 C.2.1 (tgt := 53) dX4_readEnd_41 (by decide) ?_
      cases hf
      exact hend _ _ _ _ S dX4_readEnd_53
    · replace hf := if_f hf h8
      exact b_X4_readEnd_b44 C hend S (lv_sub hl [0] rfl) hf
  · replace hf := if_f hf h9
    exact b_X4_readEnd_b44 C hend S (lv_sub hl [0] rfl) hf
set_option maxRecDepth 100000 in
set_option maxHeartbeats 4000000 in
theorem ct_X4_isDigit (l : Launch) (G : Gd) (τ : Sg) {v0 : Int} {σ : Sg} {q : Int} (hf : f_X4_isDigit v0 σ = some q) : Ctr l yX4_isDigit cX4_isDigit 1 (some .boolean) (rmk 0 0) G true τ [.int (oI v0)] σ σ (some (.int (oI q))) := by
  unfold f_X4_isDigit at hf
  refine CtrZ.of (own := RX4) (plainFor_of_name (by decide)) (Nat.le_of_ble_eq_true rfl) rfl (fun p e s m below meth c Q ls C hl S hend => ?_)
  have hl : lv_has ls 1 [(0, .int (oI v0))] := hl
  refine lv_iload_n C.1 C.2.1 dX4_isDigit_0 rfl (lv_at hl 0 rfl) ?_
  refine r_bipush C dX4_isDigit_1 (by decide) ?_
  refine r_icmp_lt C rfl (show w32 48 = 48 by decide) (tgt := 16) dX4_isDigit_3 (by decide) (fun h2 => ?_) (fun h2 => ?_)
  · replace hf := if_t hf h2
    refine r_iconst C dX4_isDigit_16 ?_
    cases hf
    exact hend (Or.inl rfl) _ _ _ _ S dX4_isDigit_17
  · replace hf := if_f hf h2
    refine lv_iload_n C.1 C.2.1 dX4_isDigit_6 rfl (lv_at hl 0 rfl) ?_
    refine r_bipush C dX4_isDigit_7 (by decide) ?_
    refine r_icmp_gt C rfl (show w32 57 = 57 by decide) (tgt := 16) dX4_isDigit_9 (by decide) (fun h1 => ?_) (fun h1 => ?_)
    · replace hf := if_t hf h1
      refine r_iconst C dX4_isDigit_12 ?_
      refine lv_goto C.1 C.2.1 (tgt := 17) dX4_isDigit_13 (by decide) ?_
      cases hf
      exact hend (Or.inr rfl) _ _ _ _ S dX4_isDigit_17
    · replace hf := if_f hf h1
      refine r_iconst C dX4_isDigit_16 ?_
      cases hf
      exact hend (Or.inl rfl) _ _ _ _ S dX4_isDigit_17
set_option maxRecDepth 100000 in
set_option maxHeartbeats 4000000 in
theorem b_X4_readNumber_b109 (C : Cx p s m args c RX4 cX4_readNumber 5) {q : Int × Sg} (hend : EndR p l e (rmk 2 41) s m args below meth c Q G true τ cX4_readNumber .ireturn [.int (oI q.1)] q.2) {H : Heap} {locs : List Loc} {ls : Array Slot} {σ : Sg} (v3 : Int) (v4 : Int) (S : St G true τ σ s H locs) (hl : lv_has ls 5 [(0, .ref (G.1 3)), (3, .int (oI v3)), (4, .int (oI v4))]) (hf : f_X4_readNumber_b109 v3 v4 σ = some q) : W p l e (rmk 2 41) s m args below meth c H locs 0 0 Q (F0 m 109 ls []) := by
  unfold f_X4_readNumber_b109 at hf
  refine lv_aload_n C.1 C.2.1 dX4_readNumber_109 rfl (lv_at hl 0 rfl) ?_
  refine r_iconst C dX4_readNumber_110 ?_
  refine lv_iload_n C.1 C.2.1 dX4_readNumber_111 rfl (lv_at hl 1 rfl) ?_
  obtain ⟨q9, hc10, hf⟩ := bd_o hf
  refine r_callVn C S (As := [.int (oI 2), .int (oI v3)]) (rest := []) (ct_X4_complain l G τ hc10) mi_X4_complain tw_407 mv_X4_complain (rvX4 S) ⟨rfl, rfl⟩ ⟨Nat.le_of_ble_eq_true rfl, Nat.le_of_ble_eq_true rfl⟩ ⟨Nat.zero_le _, Nat.zero_le _⟩ rfl hl.1 rfl (Nat.le_of_ble_eq_true rfl) dX4_readNumber_112 (fun H locs S => ?_)
  refine lv_iload C.1 C.2.1 dX4_readNumber_115 (lv_at hl 2 rfl) ?_
  cases hf
  exact hend _ _ _ _ S dX4_readNumber_117
set_option maxRecDepth 100000 in
set_option maxHeartbeats 4000000 in
theorem b_X4_readNumber_b80 (C : Cx p s m args c RX4 cX4_readNumber 5) {q : Int × Sg} (hend : EndR p l e (rmk 2 41) s m args below meth c Q G true τ cX4_readNumber .ireturn [.int (oI q.1)] q.2) {H : Heap} {locs : List Loc} {ls : Array Slot} {σ : Sg} (v1 : Int) (v2 : Int) (v3 : Int) (v4 : Int) (S : St G true τ σ s H locs) (hl : lv_has ls 5 [(0, .ref (G.1 3)), (1, .int (oI v1)), (2, .int (oI v2)), (3, .int (oI v3)), (4, .int (oI v4))]) (hf : f_X4_readNumber_b80 v1 v2 v3 v4 σ = some q) : W p l e (rmk 2 41) s m args below meth c H locs 0 0 Q (F0 m 80 ls []) := by
  unfold f_X4_readNumber_b80 at hf
  refine lv_aload_n C.1 C.2.1 dX4_readNumber_80 rfl (lv_at hl 0 rfl) ?_
  refine g4_at C S tw_57 dX4_readNumber_81 ?_
  refine lv_iload_n C.1 C.2.1 dX4_readNumber_84 rfl (lv_at hl 3 rfl) ?_
  refine r_icmp_ne C rfl rfl (tgt := 97) dX4_readNumber_85 (by decide) (fun h13 => ?_) (fun h13 => ?_)
  · replace hf := if_t hf h13
    refine lv_aload_n C.1 C.2.1 dX4_readNumber_88 rfl (lv_at hl 0 rfl) ?_
    refine r_iconst C dX4_readNumber_89 ?_
    refine lv_iload_n C.1 C.2.1 dX4_readNumber_90 rfl (lv_at hl 3 rfl) ?_
    obtain ⟨q7, hc8, hf⟩ := bd_o hf
    refine r_callVn C S (As := [.int (oI 1), .int (oI v3)]) (rest := []) (ct_X4_complain l G τ hc8) mi_X4_complain tw_407 mv_X4_complain (rvX4 S) ⟨rfl, rfl⟩ ⟨Nat.le_of_ble_eq_true rfl, Nat.le_of_ble_eq_true rfl⟩ ⟨Nat.zero_le _, Nat.zero_le _⟩ rfl hl.1 rfl (Nat.le_of_ble_eq_true rfl) dX4_readNumber_91 (fun H locs S => ?_)
    refine lv_goto C.1 C.2.1 (tgt := 115) dX4_readNumber_94 (by decide) ?_
    refine lv_iload C.1 C.2.1 dX4_readNumber_115 (lv_at hl 4 rfl) ?_
    cases hf
    exact hend _ _ _ _ S dX4_readNumber_117
  · replace hf := if_f hf h13
    refine lv_iload C.1 C.2.1 dX4_readNumber_97 (lv_at hl 4 rfl) ?_
    refine lv_iload_n C.1 C.2.1 dX4_readNumber_99 rfl (lv_at hl 1 rfl) ?_
    refine r_icmp_lt C rfl rfl (tgt := 109) dX4_readNumber_100 (by decide) (fun h12 => ?_) (fun h12 => ?_)
    · replace hf := if_t hf h12
      exact b_X4_readNumber_b109 C hend v3 v4 S (lv_sub hl [0, 3, 4] rfl) hf
    · replace hf := if_f hf h12
      refine lv_iload C.1 C.2.1 dX4_readNumber_103 (lv_at hl 4 rfl) ?_
      refine lv_iload_n C.1 C.2.1 dX4_readNumber_105 rfl (lv_at hl 2 rfl) ?_
      refine r_icmp_le C rfl rfl (tgt := 115) dX4_readNumber_106 (by decide) (fun h11 => ?_) (fun h11 => ?_)
      · replace hf := if_t hf h11
        refine lv_iload C.1 C.2.1 dX4_readNumber_115 (lv_at hl 4 rfl) ?_
        cases hf
        exact hend _ _ _ _ S dX4_readNumber_117
      · replace hf := if_f hf h11
        exact b_X4_readNumber_b109 C hend v3 v4 S (lv_sub hl [0, 3, 4] rfl) hf
set_option maxRecDepth 100000 in
set_option maxHeartbeats 4000000 in
theorem b_X4_readNumber_b12 (C : Cx p s m args c RX4 cX4_readNumber 5) {q : Int × Sg} (hend : EndR p l e (rmk 2 41) s m args below meth c Q G true τ cX4_readNumber .ireturn [.int (oI q.1)] q.2) : ∀ (n : Nat) {H : Heap} {locs : List Loc} {ls : Array Slot} {σ : Sg} (v1 : Int) (v2 : Int) (v3 : Int) (v4 : Int) (S : St G true τ σ s H locs) (hl : lv_has ls 5 [(0, .ref (G.1 3)), (1, .int (oI v1)), (2, .int (oI v2)), (3, .int (oI v3)), (4, .int (oI v4))]) (hf : f_X4_readNumber_b12 n v1 v2 v3 v4 σ = some q), W p l e (rmk 2 41) s m args below meth c H locs 0 0 Q (F0 m 12 ls []) := by
  intro n
  induction n with
  | zero => intro H locs ls σ v1 v2 v3 v4 S hl hf; cases hf
  | succ n ih =>
    intro H locs ls σ v1 v2 v3 v4 S hl hf
    have hk12 := @ih
    rw [f_X4_readNumber_b12] at hf
    refine lv_aload_n C.1 C.2.1 dX4_readNumber_12 rfl (lv_at hl 0 rfl) ?_
    refine g4_at C S tw_57 dX4_readNumber_13 ?_
    refine lv_aload_n C.1 C.2.1 dX4_readNumber_16 rfl (lv_at hl 0 rfl) ?_
    refine g4_length C S tw_56 dX4_readNumber_17 ?_
    refine r_icmp_ge C rfl rfl (tgt := 80) dX4_readNumber_20 (by decide) (fun h18 => ?_) (fun h18 => ?_)
    · replace hf := if_t hf h18
      refine lv_aload_n C.1 C.2.1 dX4_readNumber_23 rfl (lv_at hl 0 rfl) ?_
      refine g4_tape C S tw_53 dX4_readNumber_24 ?_
      refine lv_aload_n C.1 C.2.1 dX4_readNumber_27 rfl (lv_at hl 0 rfl) ?_
      refine g4_at C S tw_57 dX4_readNumber_28 ?_
      obtain ⟨q3, hc4, hf⟩ := bd_o hf
      refine r_callVv C S (As := [.int (oI (σ 3 4))]) (rest := []) (ct_X6_at l G τ hc4) mi_X6_at tw_334 mv_X6_at (rvX6 S) ⟨rfl, rfl⟩ ⟨Nat.le_of_ble_eq_true rfl, Nat.le_of_ble_eq_true rfl⟩ ⟨Nat.zero_le _, Nat.zero_le _⟩ rfl hl.1 rfl (Nat.le_of_ble_eq_true rfl) dX4_readNumber_31 (fun H locs S => ?_)
      obtain ⟨q5, hc6, hf⟩ := bd_o hf
      refine r_callSv C S (As := [.int (oI q3)]) (rest := []) (ct_X4_isDigit l G τ hc6) mi_X4_isDigit tw_415 ms_X4_isDigit ⟨rfl, rfl⟩ ⟨Nat.le_of_ble_eq_true rfl, Nat.le_of_ble_eq_true rfl⟩ ⟨Nat.zero_le _, Nat.zero_le _⟩ rfl hl.1 rfl (Nat.le_of_ble_eq_true rfl) dX4_readNumber_34 (fun H locs S => ?_)
      refine r_if_eq C rfl (tgt := 80) dX4_readNumber_37 (by decide) (fun h17 => ?_) (fun h17 => ?_)
      · replace hf := if_t hf h17
        exact b_X4_readNumber_b80 C hend v1 v2 v3 v4 S (lv_sub hl [0, 1, 2, 3, 4] rfl) hf
      · replace hf := if_f hf h17
        refine r_ldc C tw_418 dX4_readNumber_40 ?_
        refine lv_iload C.1 C.2.1 dX4_readNumber_42 (lv_at hl 4 rfl) ?_
        refine r_bipush C dX4_readNumber_44 (by decide) ?_
        refine r_imul C dX4_readNumber_46 ?_
        refine lv_aload_n C.1 C.2.1 dX4_readNumber_47 rfl (lv_at hl 0 rfl) ?_
        refine g4_tape C S tw_53 dX4_readNumber_48 ?_
        refine lv_aload_n C.1 C.2.1 dX4_readNumber_51 rfl (lv_at hl 0 rfl) ?_
        refine g4_at C S tw_57 dX4_readNumber_52 ?_
        obtain ⟨q14, hc15, hf⟩ := bd_o hf
        refine r_callVv C S (As := [.int (oI (σ 3 4))]) (rest := [.int (oI (v4 * 10)), .int (oI 100000000)]) (ct_X6_at l G τ hc15) mi_X6_at tw_334 mv_X6_at (rvX6 S) ⟨rfl, rfl⟩ ⟨Nat.le_of_ble_eq_true rfl, Nat.le_of_ble_eq_true rfl⟩ ⟨Nat.zero_le _, Nat.zero_le _⟩ rfl hl.1 rfl (Nat.le_of_ble_eq_true rfl) dX4_readNumber_55 (fun H locs S => ?_)
        refine r_bipush C dX4_readNumber_58 (by decide) ?_
        refine r_isub C dX4_readNumber_60 ?_
        refine r_iadd C dX4_readNumber_61 ?_
        refine r_mmin C (hl.1) tw_419 (by decide) (Nat.le_of_ble_eq_true rfl) dX4_readNumber_62 ?_
        refine lv_istore C.1 C.2.1 dX4_readNumber_65 hl (by decide) (lv' := [(4, .int (oI (mminI 100000000 ((v4 * 10) + (q14 - 48))))), (0, .ref (G.1 3)), (1, .int (oI v1)), (2, .int (oI v2)), (3, .int (oI v3))]) rfl (fun ls hl => ?_)
        refine lv_aload_n C.1 C.2.1 dX4_readNumber_67 rfl (lv_at hl 1 rfl) ?_
        refine lv_dup C.1 C.2.1 dX4_readNumber_68 rfl ?_
        refine g4_at C S tw_57 dX4_readNumber_69 ?_
        refine r_iconst C dX4_readNumber_72 ?_
        refine r_iadd C dX4_readNumber_73 ?_
        refine p4_at C S tw_57 dX4_readNumber_74 (fun H locs S => ?_)
        obtain ⟨σ16, S, hf⟩ := wr_s S hf
        refine lv_goto C.1 C.2.1 (tgt := 12) dX4_readNumber_77 (by decide) ?_
        exact hk12 v1 v2 v3 (mminI 100000000 ((v4 * 10) + (q14 - 48))) S (lv_sub hl [1, 2, 3, 4, 0] rfl) hf
    · replace hf := if_f hf h18
      exact b_X4_readNumber_b80 C hend v1 v2 v3 v4 S (lv_sub hl [0, 1, 2, 3, 4] rfl) hf
set_option maxRecDepth 100000 in
set_option maxHeartbeats 4000000 in
theorem ct_X4_readNumber (l : Launch) (G : Gd) (τ : Sg) {v1 : Int} {v2 : Int} {σ : Sg} {q : Int × Sg} (hf : f_X4_readNumber v1 v2 σ = some q) : Ctr l yX4_readNumber cX4_readNumber 5 (some .int) (rmk 2 41) G true τ [.ref (G.1 3), .int (oI v1), .int (oI v2)] σ q.2 (some (.int (oI q.1))) := by
  unfold f_X4_readNumber at hf
  refine CtrI.of (own := RX4) (plainFor_of_name (by decide)) (Nat.le_of_ble_eq_true rfl) rfl (fun p e s m below meth c Q ls C hl S hend => ?_)
  have hl : lv_has ls 5 [(0, .ref (G.1 3)), (1, .int (oI v1)), (2, .int (oI v2))] := hl
  refine lv_aload_n C.1 C.2.1 dX4_readNumber_0 rfl (lv_at hl 0 rfl) ?_
  obtain ⟨q1, hc2, hf⟩ := bd_o hf
  refine r_callVn C S (As := []) (rest := []) (ct_X4_skipBlanks l G τ hc2) mi_X4_skipBlanks tw_330 mv_X4_skipBlanks (rvX4 S) ⟨rfl, rfl⟩ ⟨Nat.le_of_ble_eq_true rfl, Nat.le_of_ble_eq_true rfl⟩ ⟨Nat.zero_le _, Nat.zero_le _⟩ rfl hl.1 rfl (Nat.le_of_ble_eq_true rfl) dX4_readNumber_1 (fun H locs S => ?_)
  refine lv_aload_n C.1 C.2.1 dX4_readNumber_4 rfl (lv_at hl 0 rfl) ?_
  refine g4_at C S tw_57 dX4_readNumber_5 ?_
  refine lv_istore_n C.1 C.2.1 dX4_readNumber_8 rfl hl (by decide) (lv' := [(3, .int (oI (q1 3 4))), (0, .ref (G.1 3)), (1, .int (oI v1)), (2, .int (oI v2))]) rfl (fun ls hl => ?_)
  refine r_iconst C dX4_readNumber_9 ?_
  refine lv_istore C.1 C.2.1 dX4_readNumber_10 hl (by decide) (lv' := [(4, .int (oI 0)), (3, .int (oI (q1 3 4))), (0, .ref (G.1 3)), (1, .int (oI v1)), (2, .int (oI v2))]) rfl (fun ls hl => ?_)
  exact b_X4_readNumber_b12 C hend FUEL v1 v2 (q1 3 4) 0 S (lv_sub hl [2, 3, 4, 1, 0] rfl) hf
set_option maxRecDepth 100000 in
set_option maxHeartbeats 4000000 in
theorem b_X4_readNumbers_5_z2_z3_b89 (C : Cx p s m args c RX4 cX4_readNumbers 9) {q : Sg} {k23 : Int → Int → Sg → Option (Sg)} (hend : EndR p l e (rmk 3 65) s m args below meth c Q G true τ cX4_readNumbers .return_ [] q) (hk23 : ∀ {H : Heap} {locs : List Loc} {ls : Array Slot} {σ : Sg} (v6 : Int) (v7 : Int), St G true τ σ s H locs → lv_has ls 9 [(0, .ref (G.1 3)), (3, .ref (G.1 5)), (4, .ref (G.1 72)), (5, .ref (G.1 73)), (6, .int (oI v6)), (7, .int (oI v7))] → k23 v6 v7 σ = some q → W p l e (rmk 3 65) s m args below meth c H locs 0 0 Q (F0 m 23 ls [])) {H : Heap} {locs : List Loc} {ls : Array Slot} {σ : Sg} (v6 : Int) (v7 : Int) (S : St G true τ σ s H locs) (hl : lv_has ls 9 [(0, .ref (G.1 3)), (3, .ref (G.1 5)), (4, .ref (G.1 72)), (5, .ref (G.1 73)), (6, .int (oI v6)), (7, .int (oI v7))]) (hf : f_X4_readNumbers_5_z2_z3_b89 k23 v6 v7 σ = some q) : W p l e (rmk 3 65) s m args below meth c H locs 0 0 Q (F0 m 89 ls []) := by
  unfold f_X4_readNumbers_5_z2_z3_b89 at hf
  refine r_iinc C dX4_readNumbers_89 hl (k := 5) rfl (by decide) (lv' := [(7, .int (oI (v7 + 1))), (0, .ref (G.1 3)), (3, .ref (G.1 5)), (4, .ref (G.1 72)), (5, .ref (G.1 73)), (6, .int (oI v6))]) rfl (fun ls hl => ?_)
  refine lv_goto C.1 C.2.1 (tgt := 23) dX4_readNumbers_92 (by decide) ?_
  exact hk23 v6 (v7 + 1) S (lv_sub hl [1, 2, 3, 4, 5, 0] rfl) hf
set_option maxRecDepth 100000 in
set_option maxHeartbeats 4000000 in
theorem b_X4_readNumbers_5_z2_z3_b23 (C : Cx p s m args c RX4 cX4_readNumbers 9) {q : Sg} (hend : EndR p l e (rmk 3 65) s m args below meth c Q G true τ cX4_readNumbers .return_ [] q) : ∀ (n : Nat) {H : Heap} {locs : List Loc} {ls : Array Slot} {σ : Sg} (v6 : Int) (v7 : Int) (S : St G true τ σ s H locs) (hl : lv_has ls 9 [(0, .ref (G.1 3)), (3, .ref (G.1 5)), (4, .ref (G.1 72)), (5, .ref (G.1 73)), (6, .int (oI v6)), (7, .int (oI v7))]) (hf : f_X4_readNumbers_5_z2_z3_b23 n v6 v7 σ = some q), W p l e (rmk 3 65) s m args below meth c H locs 0 0 Q (F0 m 23 ls []) := by
  intro n
  induction n with
  | zero => intro H locs ls σ v6 v7 S hl hf; cases hf
  | succ n ih =>
    intro H locs ls σ v6 v7 S hl hf
    have hk23 := @ih
    rw [f_X4_readNumbers_5_z2_z3_b23] at hf
    refine lv_iload C.1 C.2.1 dX4_readNumbers_23 (lv_at hl 5 rfl) ?_
    refine lv_aload C.1 C.2.1 dX4_readNumbers_25 (lv_at hl 2 rfl) ?_
    refine z_alen C S (i0 := 2) (by decide) dX4_readNumbers_27 ?_
    refine r_icmp_ge C rfl (show w32 3 = 3 by decide) (tgt := 95) dX4_readNumbers_28 (by decide) (fun h11 => ?_) (fun h11 => ?_)
    · replace hf := if_t hf h11
      refine lv_iload C.1 C.2.1 dX4_readNumbers_31 (lv_at hl 5 rfl) ?_
      refine lv_aload C.1 C.2.1 dX4_readNumbers_33 (lv_at hl 3 rfl) ?_
      refine z_alen C S (i0 := 3) (by decide) dX4_readNumbers_35 ?_
      refine r_icmp_ge C rfl (show w32 3 = 3 by decide) (tgt := 95) dX4_readNumbers_36 (by decide) (fun h10 => ?_) (fun h10 => ?_)
      · replace hf := if_t hf h10
        refine lv_aload_n C.1 C.2.1 dX4_readNumbers_39 rfl (lv_at hl 0 rfl) ?_
        refine g4_fault C S tw_62 dX4_readNumbers_40 ?_
        refine r_if_ne C rfl (tgt := 95) dX4_readNumbers_43 (by decide) (fun h9 => ?_) (fun h9 => ?_)
        · replace hf := if_t hf h9
          refine lv_aload_n C.1 C.2.1 dX4_readNumbers_46 rfl (lv_at hl 0 rfl) ?_
          refine lv_aload C.1 C.2.1 dX4_readNumbers_47 (lv_at hl 2 rfl) ?_
          refine lv_iload C.1 C.2.1 dX4_readNumbers_49 (lv_at hl 5 rfl) ?_
          obtain ⟨hi1, hf⟩ := ck_o hf
          refine z_iald C S (i0 := 2) (by decide) hi1 dX4_readNumbers_51 ?_
          refine lv_aload C.1 C.2.1 dX4_readNumbers_52 (lv_at hl 3 rfl) ?_
          refine lv_iload C.1 C.2.1 dX4_readNumbers_54 (lv_at hl 5 rfl) ?_
          obtain ⟨hi2, hf⟩ := ck_o hf
          refine z_iald C S (i0 := 3) (by decide) hi2 dX4_readNumbers_56 ?_
          obtain ⟨q3, hc4, hf⟩ := bd_o hf
          refine r_callVv C S (As := [.int (oI ((zTabs 2).2.2 (v7).toNat)), .int (oI ((zTabs 3).2.2 (v7).toNat))]) (rest := []) (ct_X4_readNumber l G τ hc4) mi_X4_readNumber tw_411 mv_X4_readNumber (rvX4 S) ⟨rfl, rfl⟩ ⟨Nat.le_of_ble_eq_true rfl, Nat.le_of_ble_eq_true rfl⟩ ⟨Nat.zero_le _, Nat.zero_le _⟩ rfl hl.1 rfl (Nat.le_of_ble_eq_true rfl) dX4_readNumbers_57 (fun H locs S => ?_)
          refine lv_istore C.1 C.2.1 dX4_readNumbers_60 hl (by decide) (lv' := [(8, .int (oI q3.1)), (0, .ref (G.1 3)), (3, .ref (G.1 5)), (4, .ref (G.1 72)), (5, .ref (G.1 73)), (6, .int (oI v6)), (7, .int (oI v7))]) rfl (fun ls hl => ?_)
          refine lv_iload C.1 C.2.1 dX4_readNumbers_62 (lv_at hl 5 rfl) ?_
          refine lv_iload C.1 C.2.1 dX4_readNumbers_64 (lv_at hl 6 rfl) ?_
          refine r_iadd C dX4_readNumbers_66 ?_
          refine r_if_lt C rfl (tgt := 89) dX4_readNumbers_67 (by decide) (fun h8 => ?_) (fun h8 => ?_)
          · replace hf := if_t hf h8
            exact b_X4_readNumbers_5_z2_z3_b89 C hend hk23 v6 v7 S (lv_sub hl [1, 2, 3, 4, 5, 6] rfl) hf
          · replace hf := if_f hf h8
            refine lv_iload C.1 C.2.1 dX4_readNumbers_70 (lv_at hl 5 rfl) ?_
            refine lv_iload C.1 C.2.1 dX4_readNumbers_72 (lv_at hl 6 rfl) ?_
            refine r_iadd C dX4_readNumbers_74 ?_
            refine lv_aload_n C.1 C.2.1 dX4_readNumbers_75 rfl (lv_at hl 2 rfl) ?_
            refine a_alen C S ar_5 dX4_readNumbers_76 ?_
            refine r_icmp_ge C rfl (show w32 18 = 18 by decide) (tgt := 89) dX4_readNumbers_77 (by decide) (fun h7 => ?_) (fun h7 => ?_)
            · replace hf := if_t hf h7
              refine lv_aload_n C.1 C.2.1 dX4_readNumbers_80 rfl (lv_at hl 2 rfl) ?_
              refine lv_iload C.1 C.2.1 dX4_readNumbers_81 (lv_at hl 5 rfl) ?_
              refine lv_iload C.1 C.2.1 dX4_readNumbers_83 (lv_at hl 6 rfl) ?_
              refine r_iadd C dX4_readNumbers_85 ?_
              refine lv_iload C.1 C.2.1 dX4_readNumbers_86 (lv_at hl 0 rfl) ?_
              obtain ⟨hi5, hf⟩ := ck_o hf
              refine a_iast C S ar_5 hi5 dX4_readNumbers_88 (fun H locs S => ?_)
              obtain ⟨σ6, S, hf⟩ := wr_s S hf
              exact b_X4_readNumbers_5_z2_z3_b89 C hend hk23 v6 v7 S (lv_sub hl [1, 2, 3, 4, 5, 6] rfl) hf
            · replace hf := if_f hf h7
              exact b_X4_readNumbers_5_z2_z3_b89 C hend hk23 v6 v7 S (lv_sub hl [1, 2, 3, 4, 5, 6] rfl) hf
        · replace hf := if_f hf h9
          cases hf
          exact hend _ _ _ _ S dX4_readNumbers_95
      · replace hf := if_f hf h10
        cases hf
        exact hend _ _ _ _ S dX4_readNumbers_95
    · replace hf := if_f hf h11
      cases hf
      exact hend _ _ _ _ S dX4_readNumbers_95
set_option maxRecDepth 100000 in
set_option maxHeartbeats 4000000 in
theorem b_X4_readNumbers_5_z2_z3_b20 (C : Cx p s m args c RX4 cX4_readNumbers 9) {q : Sg} (hend : EndR p l e (rmk 3 65) s m args below meth c Q G true τ cX4_readNumbers .return_ [] q) {H : Heap} {locs : List Loc} {ls : Array Slot} {σ : Sg} (v6 : Int) (S : St G true τ σ s H locs) (hl : lv_has ls 9 [(0, .ref (G.1 3)), (3, .ref (G.1 5)), (4, .ref (G.1 72)), (5, .ref (G.1 73)), (6, .int (oI v6))]) (hf : f_X4_readNumbers_5_z2_z3_b20 v6 σ = some q) : W p l e (rmk 3 65) s m args below meth c H locs 0 0 Q (F0 m 20 ls []) := by
  unfold f_X4_readNumbers_5_z2_z3_b20 at hf
  refine r_iconst C dX4_readNumbers_20 ?_
  refine lv_istore C.1 C.2.1 dX4_readNumbers_21 hl (by decide) (lv' := [(7, .int (oI 0)), (0, .ref (G.1 3)), (3, .ref (G.1 5)), (4, .ref (G.1 72)), (5, .ref (G.1 73)), (6, .int (oI v6))]) rfl (fun ls hl => ?_)
  exact b_X4_readNumbers_5_z2_z3_b23 C hend FUEL v6 0 S (lv_sub hl [1, 2, 3, 4, 5, 0] rfl) hf
set_option maxRecDepth 100000 in
set_option maxHeartbeats 4000000 in
theorem ct_X4_readNumbers_5_z2_z3 (l : Launch) (G : Gd) (τ : Sg) {v1 : Int} {v2 : Int} {σ : Sg} {q : Sg} (hf : f_X4_readNumbers_5_z2_z3 v1 v2 σ = some q) : Ctr l yX4_readNumbers cX4_readNumbers 9 none (rmk 3 65) G true τ [.ref (G.1 3), .int (oI v1), .int (oI v2), .ref (G.1 5), .ref (G.1 72), .ref (G.1 73)] σ q none := by
  unfold f_X4_readNumbers_5_z2_z3 at hf
  refine CtrV.of (own := RX4) (plainFor_of_name (by decide)) (Nat.le_of_ble_eq_true rfl) rfl (fun p e s m below meth c Q ls C hl S hend => ?_)
  have hl : lv_has ls 9 [(0, .ref (G.1 3)), (1, .int (oI v1)), (2, .int (oI v2)), (3, .ref (G.1 5)), (4, .ref (G.1 72)), (5, .ref (G.1 73))] := hl
  refine lv_iload_n C.1 C.2.1 dX4_readNumbers_0 rfl (lv_at hl 2 rfl) ?_
  refine lv_aload C.1 C.2.1 dX4_readNumbers_1 (lv_at hl 4 rfl) ?_
  refine z_alen C S (i0 := 2) (by decide) dX4_readNumbers_3 ?_
  refine r_imul C dX4_readNumbers_4 ?_
  refine lv_istore C.1 C.2.1 dX4_readNumbers_5 hl (by decide) (lv' := [(6, .int (oI (v2 * 3))), (0, .ref (G.1 3)), (1, .int (oI v1)), (2, .int (oI v2)), (3, .ref (G.1 5)), (4, .ref (G.1 72)), (5, .ref (G.1 73))]) rfl (fun ls hl => ?_)
  refine lv_iload C.1 C.2.1 dX4_readNumbers_7 (lv_at hl 0 rfl) ?_
  refine lv_aload_n C.1 C.2.1 dX4_readNumbers_9 rfl (lv_at hl 4 rfl) ?_
  refine a_alen C S ar_5 dX4_readNumbers_10 ?_
  refine r_icmp_lt C rfl (show w32 18 = 18 by decide) (tgt := 20) dX4_readNumbers_11 (by decide) (fun h14 => ?_) (fun h14 => ?_)
  · replace hf := if_t hf h14
    exact b_X4_readNumbers_5_z2_z3_b20 C hend (v2 * 3) S (lv_sub hl [1, 4, 5, 6, 0] rfl) hf
  · replace hf := if_f hf h14
    refine lv_aload_n C.1 C.2.1 dX4_readNumbers_14 rfl (lv_at hl 1 rfl) ?_
    refine r_iconst C dX4_readNumbers_15 ?_
    refine lv_iload_n C.1 C.2.1 dX4_readNumbers_16 rfl (lv_at hl 2 rfl) ?_
    obtain ⟨q12, hc13, hf⟩ := bd_o hf
    refine r_callVn C S (As := [.int (oI 2), .int (oI v1)]) (rest := []) (ct_X4_complain l G τ hc13) mi_X4_complain tw_407 mv_X4_complain (rvX4 S) ⟨rfl, rfl⟩ ⟨Nat.le_of_ble_eq_true rfl, Nat.le_of_ble_eq_true rfl⟩ ⟨Nat.zero_le _, Nat.zero_le _⟩ rfl hl.1 rfl (Nat.le_of_ble_eq_true rfl) dX4_readNumbers_17 (fun H locs S => ?_)
    exact b_X4_readNumbers_5_z2_z3_b20 C hend (v2 * 3) S (lv_sub hl [1, 4, 5, 6, 0] rfl) hf
set_option maxRecDepth 100000 in
set_option maxHeartbeats 4000000 in
theorem b_X4_readNumbers_4_z0_z1_b89 (C : Cx p s m args c RX4 cX4_readNumbers 9) {q : Sg} {k23 : Int → Int → Sg → Option (Sg)} (hend : EndR p l e (rmk 3 65) s m args below meth c Q G true τ cX4_readNumbers .return_ [] q) (hk23 : ∀ {H : Heap} {locs : List Loc} {ls : Array Slot} {σ : Sg} (v6 : Int) (v7 : Int), St G true τ σ s H locs → lv_has ls 9 [(0, .ref (G.1 3)), (3, .ref (G.1 4)), (4, .ref (G.1 70)), (5, .ref (G.1 71)), (6, .int (oI v6)), (7, .int (oI v7))] → k23 v6 v7 σ = some q → W p l e (rmk 3 65) s m args below meth c H locs 0 0 Q (F0 m 23 ls [])) {H : Heap} {locs : List Loc} {ls : Array Slot} {σ : Sg} (v6 : Int) (v7 : Int) (S : St G true τ σ s H locs) (hl : lv_has ls 9 [(0, .ref (G.1 3)), (3, .ref (G.1 4)), (4, .ref (G.1 70)), (5, .ref (G.1 71)), (6, .int (oI v6)), (7, .int (oI v7))]) (hf : f_X4_readNumbers_4_z0_z1_b89 k23 v6 v7 σ = some q) : W p l e (rmk 3 65) s m args below meth c H locs 0 0 Q (F0 m 89 ls []) := by
  unfold f_X4_readNumbers_4_z0_z1_b89 at hf
  refine r_iinc C dX4_readNumbers_89 hl (k := 5) rfl (by decide) (lv' := [(7, .int (oI (v7 + 1))), (0, .ref (G.1 3)), (3, .ref (G.1 4)), (4, .ref (G.1 70)), (5, .ref (G.1 71)), (6, .int (oI v6))]) rfl (fun ls hl => ?_)
  refine lv_goto C.1 C.2.1 (tgt := 23) dX4_readNumbers_92 (by decide) ?_
  exact hk23 v6 (v7 + 1) S (lv_sub hl [1, 2, 3, 4, 5, 0] rfl) hf
set_option maxRecDepth 100000 in
set_option maxHeartbeats 4000000 in
theorem b_X4_readNumbers_4_z0_z1_b23 (C : Cx p s m args c RX4 cX4_readNumbers 9) {q : Sg} (hend : EndR p l e (rmk 3 65) s m args below meth c Q G true τ cX4_readNumbers .return_ [] q) : ∀ (n : Nat) {H : Heap} {locs : List Loc} {ls : Array Slot} {σ : Sg} (v6 : Int) (v7 : Int) (S : St G true τ σ s H locs) (hl : lv_has ls 9 [(0, .ref (G.1 3)), (3, .ref (G.1 4)), (4, .ref (G.1 70)), (5, .ref (G.1 71)), (6, .int (oI v6)), (7, .int (oI v7))]) (hf : f_X4_readNumbers_4_z0_z1_b23 n v6 v7 σ = some q), W p l e (rmk 3 65) s m args below meth c H locs 0 0 Q (F0 m 23 ls []) := by
  intro n
  induction n with
  | zero => intro H locs ls σ v6 v7 S hl hf; cases hf
  | succ n ih =>
    intro H locs ls σ v6 v7 S hl hf
    have hk23 := @ih
    rw [f_X4_readNumbers_4_z0_z1_b23] at hf
    refine lv_iload C.1 C.2.1 dX4_readNumbers_23 (lv_at hl 5 rfl) ?_
    refine lv_aload C.1 C.2.1 dX4_readNumbers_25 (lv_at hl 2 rfl) ?_
    refine z_alen C S (i0 := 0) (by decide) dX4_readNumbers_27 ?_
    refine r_icmp_ge C rfl (show w32 4 = 4 by decide) (tgt := 95) dX4_readNumbers_28 (by decide) (fun h11 => ?_) (fun h11 => ?_)
    · replace hf := if_t hf h11
      refine lv_iload C.1 C.2.1 dX4_readNumbers_31 (lv_at hl 5 rfl) ?_
      refine lv_aload C.1 C.2.1 dX4_readNumbers_33 (lv_at hl 3 rfl) ?_
      refine z_alen C S (i0 := 1) (by decide) dX4_readNumbers_35 ?_
      refine r_icmp_ge C rfl (show w32 4 = 4 by decide) (tgt := 95) dX4_readNumbers_36 (by decide) (fun h10 => ?_) (fun h10 => ?_)
      · replace hf := if_t hf h10
        refine lv_aload_n C.1 C.2.1 dX4_readNumbers_39 rfl (lv_at hl 0 rfl) ?_
        refine g4_fault C S tw_62 dX4_readNumbers_40 ?_
        refine r_if_ne C rfl (tgt := 95) dX4_readNumbers_43 (by decide) (fun h9 => ?_) (fun h9 => ?_)
        · replace hf := if_t hf h9
          refine lv_aload_n C.1 C.2.1 dX4_readNumbers_46 rfl (lv_at hl 0 rfl) ?_
          refine lv_aload C.1 C.2.1 dX4_readNumbers_47 (lv_at hl 2 rfl) ?_
          refine lv_iload C.1 C.2.1 dX4_readNumbers_49 (lv_at hl 5 rfl) ?_
          obtain ⟨hi1, hf⟩ := ck_o hf
          refine z_iald C S (i0 := 0) (by decide) hi1 dX4_readNumbers_51 ?_
          refine lv_aload C.1 C.2.1 dX4_readNumbers_52 (lv_at hl 3 rfl) ?_
          refine lv_iload C.1 C.2.1 dX4_readNumbers_54 (lv_at hl 5 rfl) ?_
          obtain ⟨hi2, hf⟩ := ck_o hf
          refine z_iald C S (i0 := 1) (by decide) hi2 dX4_readNumbers_56 ?_
          obtain ⟨q3, hc4, hf⟩ := bd_o hf
          refine r_callVv C S (As := [.int (oI ((zTabs 0).2.2 (v7).toNat)), .int (oI ((zTabs 1).2.2 (v7).toNat))]) (rest := []) (ct_X4_readNumber l G τ hc4) mi_X4_readNumber tw_411 mv_X4_readNumber (rvX4 S) ⟨rfl, rfl⟩ ⟨Nat.le_of_ble_eq_true rfl, Nat.le_of_ble_eq_true rfl⟩ ⟨Nat.zero_le _, Nat.zero_le _⟩ rfl hl.1 rfl (Nat.le_of_ble_eq_true rfl) dX4_readNumbers_57 (fun H locs S => ?_)
          refine lv_istore C.1 C.2.1 dX4_readNumbers_60 hl (by decide) (lv' := [(8, .int (oI q3.1)), (0, .ref (G.1 3)), (3, .ref (G.1 4)), (4, .ref (G.1 70)), (5, .ref (G.1 71)), (6, .int (oI v6)), (7, .int (oI v7))]) rfl (fun ls hl => ?_)
          refine lv_iload C.1 C.2.1 dX4_readNumbers_62 (lv_at hl 5 rfl) ?_
          refine lv_iload C.1 C.2.1 dX4_readNumbers_64 (lv_at hl 6 rfl) ?_
          refine r_iadd C dX4_readNumbers_66 ?_
          refine r_if_lt C rfl (tgt := 89) dX4_readNumbers_67 (by decide) (fun h8 => ?_) (fun h8 => ?_)
          · replace hf := if_t hf h8
            exact b_X4_readNumbers_4_z0_z1_b89 C hend hk23 v6 v7 S (lv_sub hl [1, 2, 3, 4, 5, 6] rfl) hf
          · replace hf := if_f hf h8
            refine lv_iload C.1 C.2.1 dX4_readNumbers_70 (lv_at hl 5 rfl) ?_
            refine lv_iload C.1 C.2.1 dX4_readNumbers_72 (lv_at hl 6 rfl) ?_
            refine r_iadd C dX4_readNumbers_74 ?_
            refine lv_aload_n C.1 C.2.1 dX4_readNumbers_75 rfl (lv_at hl 2 rfl) ?_
            refine a_alen C S ar_4 dX4_readNumbers_76 ?_
            refine r_icmp_ge C rfl (show w32 96 = 96 by decide) (tgt := 89) dX4_readNumbers_77 (by decide) (fun h7 => ?_) (fun h7 => ?_)
            · replace hf := if_t hf h7
              refine lv_aload_n C.1 C.2.1 dX4_readNumbers_80 rfl (lv_at hl 2 rfl) ?_
              refine lv_iload C.1 C.2.1 dX4_readNumbers_81 (lv_at hl 5 rfl) ?_
              refine lv_iload C.1 C.2.1 dX4_readNumbers_83 (lv_at hl 6 rfl) ?_
              refine r_iadd C dX4_readNumbers_85 ?_
              refine lv_iload C.1 C.2.1 dX4_readNumbers_86 (lv_at hl 0 rfl) ?_
              obtain ⟨hi5, hf⟩ := ck_o hf
              refine a_iast C S ar_4 hi5 dX4_readNumbers_88 (fun H locs S => ?_)
              obtain ⟨σ6, S, hf⟩ := wr_s S hf
              exact b_X4_readNumbers_4_z0_z1_b89 C hend hk23 v6 v7 S (lv_sub hl [1, 2, 3, 4, 5, 6] rfl) hf
            · replace hf := if_f hf h7
              exact b_X4_readNumbers_4_z0_z1_b89 C hend hk23 v6 v7 S (lv_sub hl [1, 2, 3, 4, 5, 6] rfl) hf
        · replace hf := if_f hf h9
          cases hf
          exact hend _ _ _ _ S dX4_readNumbers_95
      · replace hf := if_f hf h10
        cases hf
        exact hend _ _ _ _ S dX4_readNumbers_95
    · replace hf := if_f hf h11
      cases hf
      exact hend _ _ _ _ S dX4_readNumbers_95
set_option maxRecDepth 100000 in
set_option maxHeartbeats 4000000 in
theorem b_X4_readNumbers_4_z0_z1_b20 (C : Cx p s m args c RX4 cX4_readNumbers 9) {q : Sg} (hend : EndR p l e (rmk 3 65) s m args below meth c Q G true τ cX4_readNumbers .return_ [] q) {H : Heap} {locs : List Loc} {ls : Array Slot} {σ : Sg} (v6 : Int) (S : St G true τ σ s H locs) (hl : lv_has ls 9 [(0, .ref (G.1 3)), (3, .ref (G.1 4)), (4, .ref (G.1 70)), (5, .ref (G.1 71)), (6, .int (oI v6))]) (hf : f_X4_readNumbers_4_z0_z1_b20 v6 σ = some q) : W p l e (rmk 3 65) s m args below meth c H locs 0 0 Q (F0 m 20 ls []) := by
  unfold f_X4_readNumbers_4_z0_z1_b20 at hf
  refine r_iconst C dX4_readNumbers_20 ?_
  refine lv_istore C.1 C.2.1 dX4_readNumbers_21 hl (by decide) (lv' := [(7, .int (oI 0)), (0, .ref (G.1 3)), (3, .ref (G.1 4)), (4, .ref (G.1 70)), (5, .ref (G.1 71)), (6, .int (oI v6))]) rfl (fun ls hl => ?_)
  exact b_X4_readNumbers_4_z0_z1_b23 C hend FUEL v6 0 S (lv_sub hl [1, 2, 3, 4, 5, 0] rfl) hf
set_option maxRecDepth 100000 in
set_option maxHeartbeats 4000000 in
theorem ct_X4_readNumbers_4_z0_z1 (l : Launch) (G : Gd) (τ : Sg) {v1 : Int} {v2 : Int} {σ : Sg} {q : Sg} (hf : f_X4_readNumbers_4_z0_z1 v1 v2 σ = some q) : Ctr l yX4_readNumbers cX4_readNumbers 9 none (rmk 3 65) G true τ [.ref (G.1 3), .int (oI v1), .int (oI v2), .ref (G.1 4), .ref (G.1 70), .ref (G.1 71)] σ q none := by
  unfold f_X4_readNumbers_4_z0_z1 at hf
  refine CtrV.of (own := RX4) (plainFor_of_name (by decide)) (Nat.le_of_ble_eq_true rfl) rfl (fun p e s m below meth c Q ls C hl S hend => ?_)
  have hl : lv_has ls 9 [(0, .ref (G.1 3)), (1, .int (oI v1)), (2, .int (oI v2)), (3, .ref (G.1 4)), (4, .ref (G.1 70)), (5, .ref (G.1 71))] := hl
  refine lv_iload_n C.1 C.2.1 dX4_readNumbers_0 rfl (lv_at hl 2 rfl) ?_
  refine lv_aload C.1 C.2.1 dX4_readNumbers_1 (lv_at hl 4 rfl) ?_
  refine z_alen C S (i0 := 0) (by decide) dX4_readNumbers_3 ?_
  refine r_imul C dX4_readNumbers_4 ?_
  refine lv_istore C.1 C.2.1 dX4_readNumbers_5 hl (by decide) (lv' := [(6, .int (oI (v2 * 4))), (0, .ref (G.1 3)), (1, .int (oI v1)), (2, .int (oI v2)), (3, .ref (G.1 4)), (4, .ref (G.1 70)), (5, .ref (G.1 71))]) rfl (fun ls hl => ?_)
  refine lv_iload C.1 C.2.1 dX4_readNumbers_7 (lv_at hl 0 rfl) ?_
  refine lv_aload_n C.1 C.2.1 dX4_readNumbers_9 rfl (lv_at hl 4 rfl) ?_
  refine a_alen C S ar_4 dX4_readNumbers_10 ?_
  refine r_icmp_lt C rfl (show w32 96 = 96 by decide) (tgt := 20) dX4_readNumbers_11 (by decide) (fun h14 => ?_) (fun h14 => ?_)
  · replace hf := if_t hf h14
    exact b_X4_readNumbers_4_z0_z1_b20 C hend (v2 * 4) S (lv_sub hl [1, 4, 5, 6, 0] rfl) hf
  · replace hf := if_f hf h14
    refine lv_aload_n C.1 C.2.1 dX4_readNumbers_14 rfl (lv_at hl 1 rfl) ?_
    refine r_iconst C dX4_readNumbers_15 ?_
    refine lv_iload_n C.1 C.2.1 dX4_readNumbers_16 rfl (lv_at hl 2 rfl) ?_
    obtain ⟨q12, hc13, hf⟩ := bd_o hf
    refine r_callVn C S (As := [.int (oI 2), .int (oI v1)]) (rest := []) (ct_X4_complain l G τ hc13) mi_X4_complain tw_407 mv_X4_complain (rvX4 S) ⟨rfl, rfl⟩ ⟨Nat.le_of_ble_eq_true rfl, Nat.le_of_ble_eq_true rfl⟩ ⟨Nat.zero_le _, Nat.zero_le _⟩ rfl hl.1 rfl (Nat.le_of_ble_eq_true rfl) dX4_readNumbers_17 (fun H locs S => ?_)
    exact b_X4_readNumbers_4_z0_z1_b20 C hend (v2 * 4) S (lv_sub hl [1, 4, 5, 6, 0] rfl) hf
set_option maxRecDepth 100000 in
set_option maxHeartbeats 4000000 in
theorem b_X4_readLine_b99 (C : Cx p s m args c RX4 cX4_readLine 2) {q : Sg} (hend : EndR p l e (rmk 5 108) s m args below meth c Q G true τ cX4_readLine .return_ [] q) {H : Heap} {locs : List Loc} {ls : Array Slot} {σ : Sg} (S : St G true τ σ s H locs) (hl : lv_has ls 2 [(0, .ref (G.1 3))]) (hf : f_X4_readLine_b99 σ = some q) : W p l e (rmk 5 108) s m args below meth c H locs 0 0 Q (F0 m 99 ls []) := by
  unfold f_X4_readLine_b99 at hf
  refine lv_aload_n C.1 C.2.1 dX4_readLine_99 rfl (lv_at hl 0 rfl) ?_
  obtain ⟨q9, hc10, hf⟩ := bd_o hf
  refine r_callVn C S (As := []) (rest := []) (ct_X4_readEnd l G τ hc10) mi_X4_readEnd tw_427 mv_X4_readEnd (rvX4 S) ⟨rfl, rfl⟩ ⟨Nat.le_of_ble_eq_true rfl, Nat.le_of_ble_eq_true rfl⟩ ⟨Nat.zero_le _, Nat.zero_le _⟩ rfl hl.1 rfl (Nat.le_of_ble_eq_true rfl) dX4_readLine_100 (fun H locs S => ?_)
  cases hf
  exact hend _ _ _ _ S dX4_readLine_103
set_option maxRecDepth 100000 in
set_option maxHeartbeats 4000000 in
theorem ct_X4_readLine (l : Launch) (G : Gd) (τ : Sg) {σ : Sg} {q : Sg} (hf : f_X4_readLine σ = some q) : Ctr l yX4_readLine cX4_readLine 2 none (rmk 5 108) G true τ [.ref (G.1 3)] σ q none := by
  unfold f_X4_readLine at hf
  refine CtrV.of (own := RX4) (plainFor_of_name (by decide)) (Nat.le_of_ble_eq_true rfl) rfl (fun p e s m below meth c Q ls C hl S hend => ?_)
  have hl : lv_has ls 2 [(0, .ref (G.1 3))] := hl
  refine lv_aload_n C.1 C.2.1 dX4_readLine_0 rfl (lv_at hl 0 rfl) ?_
  refine g4_at C S tw_57 dX4_readLine_1 ?_
  refine lv_istore_n C.1 C.2.1 dX4_readLine_4 rfl hl (by decide) (lv' := [(1, .int (oI (σ 3 4))), (0, .ref (G.1 3))]) rfl (fun ls hl => ?_)
  refine lv_aload_n C.1 C.2.1 dX4_readLine_5 rfl (lv_at hl 1 rfl) ?_
  obtain ⟨q1, hc2, hf⟩ := bd_o hf
  refine r_callVn C S (As := []) (rest := []) (ct_X4_passWord l G τ hc2) mi_X4_passWord tw_342 mv_X4_passWord (rvX4 S) ⟨rfl, rfl⟩ ⟨Nat.le_of_ble_eq_true rfl, Nat.le_of_ble_eq_true rfl⟩ ⟨Nat.zero_le _, Nat.zero_le _⟩ rfl hl.1 rfl (Nat.le_of_ble_eq_true rfl) dX4_readLine_6 (fun H locs S => ?_)
  refine lv_aload_n C.1 C.2.1 dX4_readLine_9 rfl (lv_at hl 1 rfl) ?_
  refine lv_iload_n C.1 C.2.1 dX4_readLine_10 rfl (lv_at hl 0 rfl) ?_
  refine s_ldc C S (i0 := 0) (by decide) rfl dX4_readLine_11 ?_
  obtain ⟨q3, hc4, hf⟩ := bd_o hf
  refine r_callVv C S (As := [.int (oI (σ 3 4)), .ref (G.1 80)]) (rest := []) (ct_X4_spells_s0 l G τ hc4) mi_X4_spells tw_347 mv_X4_spells (rvX4 S) ⟨rfl, rfl⟩ ⟨Nat.le_of_ble_eq_true rfl, Nat.le_of_ble_eq_true rfl⟩ ⟨Nat.zero_le _, Nat.zero_le _⟩ rfl hl.1 rfl (Nat.le_of_ble_eq_true rfl) dX4_readLine_13 (fun H locs S => ?_)
  refine r_if_eq C rfl (tgt := 51) dX4_readLine_16 (by decide) (fun h18 => ?_) (fun h18 => ?_)
  · replace hf := if_t hf h18
    refine lv_aload_n C.1 C.2.1 dX4_readLine_51 rfl (lv_at hl 1 rfl) ?_
    refine lv_iload_n C.1 C.2.1 dX4_readLine_52 rfl (lv_at hl 0 rfl) ?_
    refine s_ldc C S (i0 := 1) (by decide) rfl dX4_readLine_53 ?_
    obtain ⟨q5, hc6, hf⟩ := bd_o hf
    refine r_callVv C S (As := [.int (oI (σ 3 4)), .ref (G.1 81)]) (rest := []) (ct_X4_spells_s1 l G τ hc6) mi_X4_spells tw_347 mv_X4_spells (rvX4 S) ⟨rfl, rfl⟩ ⟨Nat.le_of_ble_eq_true rfl, Nat.le_of_ble_eq_true rfl⟩ ⟨Nat.zero_le _, Nat.zero_le _⟩ rfl hl.1 rfl (Nat.le_of_ble_eq_true rfl) dX4_readLine_55 (fun H locs S => ?_)
    refine r_if_eq C rfl (tgt := 93) dX4_readLine_58 (by decide) (fun h14 => ?_) (fun h14 => ?_)
    · replace hf := if_t hf h14
      refine lv_aload_n C.1 C.2.1 dX4_readLine_93 rfl (lv_at hl 1 rfl) ?_
      refine r_iconst C dX4_readLine_94 ?_
      refine lv_iload_n C.1 C.2.1 dX4_readLine_95 rfl (lv_at hl 0 rfl) ?_
      obtain ⟨q7, hc8, hf⟩ := bd_o hf
      refine r_callVn C S (As := [.int (oI 1), .int (oI (σ 3 4))]) (rest := []) (ct_X4_complain l G τ hc8) mi_X4_complain tw_407 mv_X4_complain (rvX4 S) ⟨rfl, rfl⟩ ⟨Nat.le_of_ble_eq_true rfl, Nat.le_of_ble_eq_true rfl⟩ ⟨Nat.zero_le _, Nat.zero_le _⟩ rfl hl.1 rfl (Nat.le_of_ble_eq_true rfl) dX4_readLine_96 (fun H locs S => ?_)
      exact b_X4_readLine_b99 C hend S (lv_sub hl [1] rfl) hf
    · replace hf := if_f hf h14
      refine lv_aload_n C.1 C.2.1 dX4_readLine_61 rfl (lv_at hl 1 rfl) ?_
      refine lv_iload_n C.1 C.2.1 dX4_readLine_62 rfl (lv_at hl 0 rfl) ?_
      refine lv_aload_n C.1 C.2.1 dX4_readLine_63 rfl (lv_at hl 1 rfl) ?_
      refine g4_treaties C S tw_60 dX4_readLine_64 ?_
      refine lv_aload_n C.1 C.2.1 dX4_readLine_67 rfl (lv_at hl 1 rfl) ?_
      refine g4_treatyNumbers C S tw_55 dX4_readLine_68 ?_
      refine z_gets C S (i0 := 2) (by decide) tw_423 dX4_readLine_71 ?_
      refine z_gets C S (i0 := 3) (by decide) tw_425 dX4_readLine_74 ?_
      obtain ⟨q11, hc12, hf⟩ := bd_o hf
      refine r_callVn C S (As := [.int (oI (σ 3 4)), .int (oI (q1 3 6)), .ref (G.1 5), .ref (G.1 72), .ref (G.1 73)]) (rest := []) (ct_X4_readNumbers_5_z2_z3 l G τ hc12) mi_X4_readNumbers tw_403 mv_X4_readNumbers (rvX4 S) ⟨rfl, rfl⟩ ⟨Nat.le_of_ble_eq_true rfl, Nat.le_of_ble_eq_true rfl⟩ ⟨Nat.zero_le _, Nat.zero_le _⟩ rfl hl.1 rfl (Nat.le_of_ble_eq_true rfl) dX4_readLine_77 (fun H locs S => ?_)
      refine lv_aload_n C.1 C.2.1 dX4_readLine_80 rfl (lv_at hl 1 rfl) ?_
      refine lv_dup C.1 C.2.1 dX4_readLine_81 rfl ?_
      refine g4_treaties C S tw_60 dX4_readLine_82 ?_
      refine r_iconst C dX4_readLine_85 ?_
      refine r_iadd C dX4_readLine_86 ?_
      refine p4_treaties C S tw_60 dX4_readLine_87 (fun H locs S => ?_)
      obtain ⟨σ13, S, hf⟩ := wr_s S hf
      refine lv_goto C.1 C.2.1 (tgt := 99) dX4_readLine_90 (by decide) ?_
      exact b_X4_readLine_b99 C hend S (lv_sub hl [1] rfl) hf
  · replace hf := if_f hf h18
    refine lv_aload_n C.1 C.2.1 dX4_readLine_19 rfl (lv_at hl 1 rfl) ?_
    refine lv_iload_n C.1 C.2.1 dX4_readLine_20 rfl (lv_at hl 0 rfl) ?_
    refine lv_aload_n C.1 C.2.1 dX4_readLine_21 rfl (lv_at hl 1 rfl) ?_
    refine g4_policies C S tw_58 dX4_readLine_22 ?_
    refine lv_aload_n C.1 C.2.1 dX4_readLine_25 rfl (lv_at hl 1 rfl) ?_
    refine g4_policyNumbers C S tw_54 dX4_readLine_26 ?_
    refine z_gets C S (i0 := 0) (by decide) tw_399 dX4_readLine_29 ?_
    refine z_gets C S (i0 := 1) (by decide) tw_401 dX4_readLine_32 ?_
    obtain ⟨q15, hc16, hf⟩ := bd_o hf
    refine r_callVn C S (As := [.int (oI (σ 3 4)), .int (oI (q1 3 5)), .ref (G.1 4), .ref (G.1 70), .ref (G.1 71)]) (rest := []) (ct_X4_readNumbers_4_z0_z1 l G τ hc16) mi_X4_readNumbers tw_403 mv_X4_readNumbers (rvX4 S) ⟨rfl, rfl⟩ ⟨Nat.le_of_ble_eq_true rfl, Nat.le_of_ble_eq_true rfl⟩ ⟨Nat.zero_le _, Nat.zero_le _⟩ rfl hl.1 rfl (Nat.le_of_ble_eq_true rfl) dX4_readLine_35 (fun H locs S => ?_)
    refine lv_aload_n C.1 C.2.1 dX4_readLine_38 rfl (lv_at hl 1 rfl) ?_
    refine lv_dup C.1 C.2.1 dX4_readLine_39 rfl ?_
    refine g4_policies C S tw_58 dX4_readLine_40 ?_
    refine r_iconst C dX4_readLine_43 ?_
    refine r_iadd C dX4_readLine_44 ?_
    refine p4_policies C S tw_58 dX4_readLine_45 (fun H locs S => ?_)
    obtain ⟨σ17, S, hf⟩ := wr_s S hf
    refine lv_goto C.1 C.2.1 (tgt := 99) dX4_readLine_48 (by decide) ?_
    exact b_X4_readLine_b99 C hend S (lv_sub hl [1] rfl) hf
set_option maxRecDepth 100000 in
set_option maxHeartbeats 4000000 in
theorem b_X4_read_b36 (C : Cx p s m args c RX4 cX4_read 3) {q : Sg} (hend : EndR p l e (rmk 6 129) s m args below meth c Q G true τ cX4_read .return_ [] q) : ∀ (n : Nat) {H : Heap} {locs : List Loc} {ls : Array Slot} {σ : Sg} (v2 : Int) (S : St G true τ σ s H locs) (hl : lv_has ls 3 [(0, .ref (G.1 3)), (2, .int (oI v2))]) (hf : f_X4_read_b36 n v2 σ = some q), W p l e (rmk 6 129) s m args below meth c H locs 0 0 Q (F0 m 36 ls []) := by
  intro n
  induction n with
  | zero => intro H locs ls σ v2 S hl hf; cases hf
  | succ n ih =>
    intro H locs ls σ v2 S hl hf
    have hk36 := @ih
    rw [f_X4_read_b36] at hf
    refine lv_iload_n C.1 C.2.1 dX4_read_36 rfl (lv_at hl 1 rfl) ?_
    refine r_sipush C dX4_read_37 (by decide) ?_
    refine r_icmp_ge C rfl (show w32 900 = 900 by decide) (tgt := 75) dX4_read_40 (by decide) (fun h15 => ?_) (fun h15 => ?_)
    · replace hf := if_t hf h15
      refine lv_aload_n C.1 C.2.1 dX4_read_43 rfl (lv_at hl 0 rfl) ?_
      refine g4_at C S tw_57 dX4_read_44 ?_
      refine lv_aload_n C.1 C.2.1 dX4_read_47 rfl (lv_at hl 0 rfl) ?_
      refine g4_length C S tw_56 dX4_read_48 ?_
      refine r_icmp_ge C rfl rfl (tgt := 75) dX4_read_51 (by decide) (fun h14 => ?_) (fun h14 => ?_)
      · replace hf := if_t hf h14
        refine lv_aload_n C.1 C.2.1 dX4_read_54 rfl (lv_at hl 0 rfl) ?_
        refine g4_fault C S tw_62 dX4_read_55 ?_
        refine r_if_ne C rfl (tgt := 75) dX4_read_58 (by decide) (fun h13 => ?_) (fun h13 => ?_)
        · replace hf := if_t hf h13
          refine lv_aload_n C.1 C.2.1 dX4_read_61 rfl (lv_at hl 0 rfl) ?_
          obtain ⟨q9, hc10, hf⟩ := bd_o hf
          refine r_callVn C S (As := []) (rest := []) (ct_X4_readLine l G τ hc10) mi_X4_readLine tw_338 mv_X4_readLine (rvX4 S) ⟨rfl, rfl⟩ ⟨Nat.le_of_ble_eq_true rfl, Nat.le_of_ble_eq_true rfl⟩ ⟨Nat.zero_le _, Nat.zero_le _⟩ rfl hl.1 rfl (Nat.le_of_ble_eq_true rfl) dX4_read_62 (fun H locs S => ?_)
          refine lv_aload_n C.1 C.2.1 dX4_read_65 rfl (lv_at hl 0 rfl) ?_
          obtain ⟨q11, hc12, hf⟩ := bd_o hf
          refine r_callVn C S (As := []) (rest := []) (ct_X4_skipBlanks l G τ hc12) mi_X4_skipBlanks tw_330 mv_X4_skipBlanks (rvX4 S) ⟨rfl, rfl⟩ ⟨Nat.le_of_ble_eq_true rfl, Nat.le_of_ble_eq_true rfl⟩ ⟨Nat.zero_le _, Nat.zero_le _⟩ rfl hl.1 rfl (Nat.le_of_ble_eq_true rfl) dX4_read_66 (fun H locs S => ?_)
          refine r_iinc C dX4_read_69 hl (k := 1) rfl (by decide) (lv' := [(2, .int (oI (v2 + 1))), (0, .ref (G.1 3))]) rfl (fun ls hl => ?_)
          refine lv_goto C.1 C.2.1 (tgt := 36) dX4_read_72 (by decide) ?_
          exact hk36 (v2 + 1) S (lv_sub hl [1, 0] rfl) hf
        · replace hf := if_f hf h13
          cases hf
          exact hend _ _ _ _ S dX4_read_75
      · replace hf := if_f hf h14
        cases hf
        exact hend _ _ _ _ S dX4_read_75
    · replace hf := if_f hf h15
      cases hf
      exact hend _ _ _ _ S dX4_read_75
set_option maxRecDepth 100000 in
set_option maxHeartbeats 4000000 in
theorem ct_X4_read (l : Launch) (G : Gd) (τ : Sg) {v1 : Int} {σ : Sg} {q : Sg} (hf : f_X4_read v1 σ = some q) : Ctr l yX4_read cX4_read 3 none (rmk 6 129) G true τ [.ref (G.1 3), .int (oI v1)] σ q none := by
  unfold f_X4_read at hf
  refine CtrV.of (own := RX4) (plainFor_of_name (by decide)) (Nat.le_of_ble_eq_true rfl) rfl (fun p e s m below meth c Q ls C hl S hend => ?_)
  have hl : lv_has ls 3 [(0, .ref (G.1 3)), (1, .int (oI v1))] := hl
  refine lv_aload_n C.1 C.2.1 dX4_read_0 rfl (lv_at hl 0 rfl) ?_
  refine lv_iload_n C.1 C.2.1 dX4_read_1 rfl (lv_at hl 1 rfl) ?_
  refine p4_length C S tw_56 dX4_read_2 (fun H locs S => ?_)
  obtain ⟨σ1, S, hf⟩ := wr_s S hf
  refine lv_aload_n C.1 C.2.1 dX4_read_5 rfl (lv_at hl 0 rfl) ?_
  refine r_iconst C dX4_read_6 ?_
  refine p4_at C S tw_57 dX4_read_7 (fun H locs S => ?_)
  obtain ⟨σ2, S, hf⟩ := wr_s S hf
  refine lv_aload_n C.1 C.2.1 dX4_read_10 rfl (lv_at hl 0 rfl) ?_
  refine r_iconst C dX4_read_11 ?_
  refine p4_policies C S tw_58 dX4_read_12 (fun H locs S => ?_)
  obtain ⟨σ3, S, hf⟩ := wr_s S hf
  refine lv_aload_n C.1 C.2.1 dX4_read_15 rfl (lv_at hl 0 rfl) ?_
  refine r_iconst C dX4_read_16 ?_
  refine p4_treaties C S tw_60 dX4_read_17 (fun H locs S => ?_)
  obtain ⟨σ4, S, hf⟩ := wr_s S hf
  refine lv_aload_n C.1 C.2.1 dX4_read_20 rfl (lv_at hl 0 rfl) ?_
  refine r_iconst C dX4_read_21 ?_
  refine p4_fault C S tw_62 dX4_read_22 (fun H locs S => ?_)
  obtain ⟨σ5, S, hf⟩ := wr_s S hf
  refine lv_aload_n C.1 C.2.1 dX4_read_25 rfl (lv_at hl 0 rfl) ?_
  refine r_iconst C dX4_read_26 ?_
  refine p4_place C S tw_64 dX4_read_27 (fun H locs S => ?_)
  obtain ⟨σ6, S, hf⟩ := wr_s S hf
  refine lv_aload_n C.1 C.2.1 dX4_read_30 rfl (lv_at hl 0 rfl) ?_
  obtain ⟨q7, hc8, hf⟩ := bd_o hf
  refine r_callVn C S (As := []) (rest := []) (ct_X4_skipBlanks l G τ hc8) mi_X4_skipBlanks tw_330 mv_X4_skipBlanks (rvX4 S) ⟨rfl, rfl⟩ ⟨Nat.le_of_ble_eq_true rfl, Nat.le_of_ble_eq_true rfl⟩ ⟨Nat.zero_le _, Nat.zero_le _⟩ rfl hl.1 rfl (Nat.le_of_ble_eq_true rfl) dX4_read_31 (fun H locs S => ?_)
  refine r_iconst C dX4_read_34 ?_
  refine lv_istore_n C.1 C.2.1 dX4_read_35 rfl hl (by decide) (lv' := [(2, .int (oI 0)), (0, .ref (G.1 3)), (1, .int (oI v1))]) rfl (fun ls hl => ?_)
  exact b_X4_read_b36 C hend FUEL 0 S (lv_sub hl [1, 0] rfl) hf
set_option maxRecDepth 100000 in
set_option maxHeartbeats 4000000 in
theorem b_J7_fill_53178_9_b5 (C : Cx p s m args c RJ7 cJ7_fill_53178 4) {q : Sg} (hend : EndR p l e (rmk 0 0) s m args below meth c Q G true τ cJ7_fill_53178 .return_ [] q) : ∀ (n : Nat) {H : Heap} {locs : List Loc} {ls : Array Slot} {σ : Sg} (v1 : Int) (v2 : Int) (v3 : Int) (S : St G true τ σ s H locs) (hl : lv_has ls 4 [(0, .ref (G.1 9)), (1, .int (oI v1)), (2, .int (oI v2)), (3, .int (oI v3))]) (hf : f_J7_fill_53178_9_b5 n v1 v2 v3 σ = some q), W p l e (rmk 0 0) s m args below meth c H locs 0 0 Q (F0 m 5 ls []) := by
  intro n
  induction n with
  | zero => intro H locs ls σ v1 v2 v3 S hl hf; cases hf
  | succ n ih =>
    intro H locs ls σ v1 v2 v3 S hl hf
    have hk5 := @ih
    rw [f_J7_fill_53178_9_b5] at hf
    refine lv_iload_n C.1 C.2.1 dJ7_fill_53178_5 rfl (lv_at hl 2 rfl) ?_
    refine lv_iload_n C.1 C.2.1 dJ7_fill_53178_6 rfl (lv_at hl 3 rfl) ?_
    refine r_icmp_ge C rfl rfl (tgt := 20) dJ7_fill_53178_7 (by decide) (fun h3 => ?_) (fun h3 => ?_)
    · replace hf := if_t hf h3
      refine lv_aload_n C.1 C.2.1 dJ7_fill_53178_10 rfl (lv_at hl 0 rfl) ?_
      refine lv_iload_n C.1 C.2.1 dJ7_fill_53178_11 rfl (lv_at hl 2 rfl) ?_
      refine lv_iload_n C.1 C.2.1 dJ7_fill_53178_12 rfl (lv_at hl 1 rfl) ?_
      obtain ⟨hi1, hf⟩ := ck_o hf
      refine a_iast C S ar_9 hi1 dJ7_fill_53178_13 (fun H locs S => ?_)
      obtain ⟨σ2, S, hf⟩ := wr_s S hf
      refine r_iinc C dJ7_fill_53178_14 hl (k := 2) rfl (by decide) (lv' := [(2, .int (oI (v2 + 1))), (0, .ref (G.1 9)), (1, .int (oI v1)), (3, .int (oI v3))]) rfl (fun ls hl => ?_)
      refine lv_goto C.1 C.2.1 (tgt := 5) dJ7_fill_53178_17 (by decide) ?_
      exact hk5 v1 (v2 + 1) v3 S (lv_sub hl [1, 2, 0, 3] rfl) hf
    · replace hf := if_f hf h3
      cases hf
      exact hend _ _ _ _ S dJ7_fill_53178_20
set_option maxRecDepth 100000 in
set_option maxHeartbeats 4000000 in
theorem ct_J7_fill_53178_9 (l : Launch) (G : Gd) (τ : Sg) {v1 : Int} {σ : Sg} {q : Sg} (hf : f_J7_fill_53178_9 v1 σ = some q) : Ctr l yJ7_fill_53178 cJ7_fill_53178 4 none (rmk 0 0) G true τ [.ref (G.1 9), .int (oI v1)] σ q none := by
  unfold f_J7_fill_53178_9 at hf
  refine CtrV.of (own := RJ7) (plainFor_of_name (by decide)) (Nat.le_of_ble_eq_true rfl) rfl (fun p e s m below meth c Q ls C hl S hend => ?_)
  have hl : lv_has ls 4 [(0, .ref (G.1 9)), (1, .int (oI v1))] := hl
  refine r_iconst C dJ7_fill_53178_0 ?_
  refine lv_istore_n C.1 C.2.1 dJ7_fill_53178_1 rfl hl (by decide) (lv' := [(2, .int (oI 0)), (0, .ref (G.1 9)), (1, .int (oI v1))]) rfl (fun ls hl => ?_)
  refine lv_aload_n C.1 C.2.1 dJ7_fill_53178_2 rfl (lv_at hl 1 rfl) ?_
  refine a_alen C S ar_9 dJ7_fill_53178_3 ?_
  refine lv_istore_n C.1 C.2.1 dJ7_fill_53178_4 rfl hl (by decide) (lv' := [(3, .int (oI 24)), (2, .int (oI 0)), (0, .ref (G.1 9)), (1, .int (oI v1))]) rfl (fun ls hl => ?_)
  exact b_J7_fill_53178_9_b5 C hend FUEL v1 0 24 S (lv_sub hl [2, 3, 1, 0] rfl) hf
set_option maxRecDepth 100000 in
set_option maxHeartbeats 4000000 in
theorem b_J7_fill_53178_11_b5 (C : Cx p s m args c RJ7 cJ7_fill_53178 4) {q : Sg} (hend : EndR p l e (rmk 0 0) s m args below meth c Q G true τ cJ7_fill_53178 .return_ [] q) : ∀ (n : Nat) {H : Heap} {locs : List Loc} {ls : Array Slot} {σ : Sg} (v1 : Int) (v2 : Int) (v3 : Int) (S : St G true τ σ s H locs) (hl : lv_has ls 4 [(0, .ref (G.1 11)), (1, .int (oI v1)), (2, .int (oI v2)), (3, .int (oI v3))]) (hf : f_J7_fill_53178_11_b5 n v1 v2 v3 σ = some q), W p l e (rmk 0 0) s m args below meth c H locs 0 0 Q (F0 m 5 ls []) := by
  intro n
  induction n with
  | zero => intro H locs ls σ v1 v2 v3 S hl hf; cases hf
  | succ n ih =>
    intro H locs ls σ v1 v2 v3 S hl hf
    have hk5 := @ih
    rw [f_J7_fill_53178_11_b5] at hf
    refine lv_iload_n C.1 C.2.1 dJ7_fill_53178_5 rfl (lv_at hl 2 rfl) ?_
    refine lv_iload_n C.1 C.2.1 dJ7_fill_53178_6 rfl (lv_at hl 3 rfl) ?_
    refine r_icmp_ge C rfl rfl (tgt := 20) dJ7_fill_53178_7 (by decide) (fun h3 => ?_) (fun h3 => ?_)
    · replace hf := if_t hf h3
      refine lv_aload_n C.1 C.2.1 dJ7_fill_53178_10 rfl (lv_at hl 0 rfl) ?_
      refine lv_iload_n C.1 C.2.1 dJ7_fill_53178_11 rfl (lv_at hl 2 rfl) ?_
      refine lv_iload_n C.1 C.2.1 dJ7_fill_53178_12 rfl (lv_at hl 1 rfl) ?_
      obtain ⟨hi1, hf⟩ := ck_o hf
      refine a_iast C S ar_11 hi1 dJ7_fill_53178_13 (fun H locs S => ?_)
      obtain ⟨σ2, S, hf⟩ := wr_s S hf
      refine r_iinc C dJ7_fill_53178_14 hl (k := 2) rfl (by decide) (lv' := [(2, .int (oI (v2 + 1))), (0, .ref (G.1 11)), (1, .int (oI v1)), (3, .int (oI v3))]) rfl (fun ls hl => ?_)
      refine lv_goto C.1 C.2.1 (tgt := 5) dJ7_fill_53178_17 (by decide) ?_
      exact hk5 v1 (v2 + 1) v3 S (lv_sub hl [1, 2, 0, 3] rfl) hf
    · replace hf := if_f hf h3
      cases hf
      exact hend _ _ _ _ S dJ7_fill_53178_20
set_option maxRecDepth 100000 in
set_option maxHeartbeats 4000000 in
theorem ct_J7_fill_53178_11 (l : Launch) (G : Gd) (τ : Sg) {v1 : Int} {σ : Sg} {q : Sg} (hf : f_J7_fill_53178_11 v1 σ = some q) : Ctr l yJ7_fill_53178 cJ7_fill_53178 4 none (rmk 0 0) G true τ [.ref (G.1 11), .int (oI v1)] σ q none := by
  unfold f_J7_fill_53178_11 at hf
  refine CtrV.of (own := RJ7) (plainFor_of_name (by decide)) (Nat.le_of_ble_eq_true rfl) rfl (fun p e s m below meth c Q ls C hl S hend => ?_)
  have hl : lv_has ls 4 [(0, .ref (G.1 11)), (1, .int (oI v1))] := hl
  refine r_iconst C dJ7_fill_53178_0 ?_
  refine lv_istore_n C.1 C.2.1 dJ7_fill_53178_1 rfl hl (by decide) (lv' := [(2, .int (oI 0)), (0, .ref (G.1 11)), (1, .int (oI v1))]) rfl (fun ls hl => ?_)
  refine lv_aload_n C.1 C.2.1 dJ7_fill_53178_2 rfl (lv_at hl 1 rfl) ?_
  refine a_alen C S ar_11 dJ7_fill_53178_3 ?_
  refine lv_istore_n C.1 C.2.1 dJ7_fill_53178_4 rfl hl (by decide) (lv' := [(3, .int (oI 768)), (2, .int (oI 0)), (0, .ref (G.1 11)), (1, .int (oI v1))]) rfl (fun ls hl => ?_)
  exact b_J7_fill_53178_11_b5 C hend FUEL v1 0 768 S (lv_sub hl [2, 3, 1, 0] rfl) hf
set_option maxRecDepth 100000 in
set_option maxHeartbeats 4000000 in
theorem ct_X0_clear (l : Launch) (G : Gd) (τ : Sg) {σ : Sg} {q : Sg} (hf : f_X0_clear σ = some q) : Ctr l yX0_clear cX0_clear 1 none (rmk 1 23) G true τ [.ref (G.1 6)] σ q none := by
  unfold f_X0_clear at hf
  refine CtrV.of (own := RX0) (plainFor_of_name (by decide)) (Nat.le_of_ble_eq_true rfl) rfl (fun p e s m below meth c Q ls C hl S hend => ?_)
  have hl : lv_has ls 1 [(0, .ref (G.1 6))] := hl
  refine lv_aload_n C.1 C.2.1 dX0_clear_0 rfl (lv_at hl 0 rfl) ?_
  refine r_iconst C dX0_clear_1 ?_
  refine p0_inForce C S tw_98 dX0_clear_2 (fun H locs S => ?_)
  obtain ⟨σ1, S, hf⟩ := wr_s S hf
  refine lv_aload_n C.1 C.2.1 dX0_clear_5 rfl (lv_at hl 0 rfl) ?_
  refine g0_sum C S tw_95 dX0_clear_6 ?_
  refine r_iconst C dX0_clear_9 ?_
  obtain ⟨q2, hc3, hf⟩ := bd_o hf
  refine r_callSn C S (As := [.ref (G.1 9), .int (oI 0)]) (rest := []) (ct_J7_fill_53178_9 l G τ hc3) mi_J7_fill_53178 tw_439 ms_J7_fill_53178 ⟨rfl, rfl⟩ ⟨Nat.le_of_ble_eq_true rfl, Nat.le_of_ble_eq_true rfl⟩ ⟨Nat.zero_le _, Nat.zero_le _⟩ rfl hl.1 rfl (Nat.le_of_ble_eq_true rfl) dX0_clear_10 (fun H locs S => ?_)
  refine lv_aload_n C.1 C.2.1 dX0_clear_13 rfl (lv_at hl 0 rfl) ?_
  refine g0_groupSums C S tw_97 dX0_clear_14 ?_
  refine r_iconst C dX0_clear_17 ?_
  obtain ⟨q4, hc5, hf⟩ := bd_o hf
  refine r_callSn C S (As := [.ref (G.1 11), .int (oI 0)]) (rest := []) (ct_J7_fill_53178_11 l G τ hc5) mi_J7_fill_53178 tw_439 ms_J7_fill_53178 ⟨rfl, rfl⟩ ⟨Nat.le_of_ble_eq_true rfl, Nat.le_of_ble_eq_true rfl⟩ ⟨Nat.zero_le _, Nat.zero_le _⟩ rfl hl.1 rfl (Nat.le_of_ble_eq_true rfl) dX0_clear_18 (fun H locs S => ?_)
  cases hf
  exact hend _ _ _ _ S dX0_clear_21
set_option maxRecDepth 100000 in
set_option maxHeartbeats 4000000 in
theorem ct_X4_ofPolicy (l : Launch) (G : Gd) (τ : Sg) {v1 : Int} {v2 : Int} {σ : Sg} {q : Int} (hf : f_X4_ofPolicy v1 v2 σ = some q) : Ctr l yX4_ofPolicy cX4_ofPolicy 4 (some .int) (rmk 0 0) G true τ [.ref (G.1 3), .int (oI v1), .int (oI v2)] σ σ (some (.int (oI q))) := by
  unfold f_X4_ofPolicy at hf
  refine CtrI.of (own := RX4) (plainFor_of_name (by decide)) (Nat.le_of_ble_eq_true rfl) rfl (fun p e s m below meth c Q ls C hl S hend => ?_)
  have hl : lv_has ls 4 [(0, .ref (G.1 3)), (1, .int (oI v1)), (2, .int (oI v2))] := hl
  refine lv_iload_n C.1 C.2.1 dX4_ofPolicy_0 rfl (lv_at hl 1 rfl) ?_
  refine r_iconst C dX4_ofPolicy_1 ?_
  refine r_imul C dX4_ofPolicy_2 ?_
  refine lv_iload_n C.1 C.2.1 dX4_ofPolicy_3 rfl (lv_at hl 2 rfl) ?_
  refine r_iadd C dX4_ofPolicy_4 ?_
  refine lv_istore_n C.1 C.2.1 dX4_ofPolicy_5 rfl hl (by decide) (lv' := [(3, .int (oI ((v1 * 4) + v2))), (0, .ref (G.1 3)), (1, .int (oI v1)), (2, .int (oI v2))]) rfl (fun ls hl => ?_)
  refine lv_iload_n C.1 C.2.1 dX4_ofPolicy_6 rfl (lv_at hl 0 rfl) ?_
  refine r_if_lt C rfl (tgt := 28) dX4_ofPolicy_7 (by decide) (fun h3 => ?_) (fun h3 => ?_)
  · replace hf := if_t hf h3
    refine r_iconst C dX4_ofPolicy_28 ?_
    cases hf
    exact hend _ _ _ _ S dX4_ofPolicy_29
  · replace hf := if_f hf h3
    refine lv_iload_n C.1 C.2.1 dX4_ofPolicy_10 rfl (lv_at hl 0 rfl) ?_
    refine lv_aload_n C.1 C.2.1 dX4_ofPolicy_11 rfl (lv_at hl 1 rfl) ?_
    refine g4_policyNumbers C S tw_54 dX4_ofPolicy_12 ?_
    refine a_alen C S ar_4 dX4_ofPolicy_15 ?_
    refine r_icmp_ge C rfl (show w32 96 = 96 by decide) (tgt := 28) dX4_ofPolicy_16 (by decide) (fun h2 => ?_) (fun h2 => ?_)
    · replace hf := if_t hf h2
      refine lv_aload_n C.1 C.2.1 dX4_ofPolicy_19 rfl (lv_at hl 1 rfl) ?_
      refine g4_policyNumbers C S tw_54 dX4_ofPolicy_20 ?_
      refine lv_iload_n C.1 C.2.1 dX4_ofPolicy_23 rfl (lv_at hl 0 rfl) ?_
      obtain ⟨hi1, hf⟩ := ck_o hf
      refine a_iald C S ar_4 hi1 dX4_ofPolicy_24 ?_
      refine lv_goto C.1 C.2.1 (tgt := 29) dX4_ofPolicy_25 (by decide) ?_
      cases hf
      exact hend _ _ _ _ S dX4_ofPolicy_29
    · replace hf := if_f hf h2
      refine r_iconst C dX4_ofPolicy_28 ?_
      cases hf
      exact hend _ _ _ _ S dX4_ofPolicy_29
set_option maxRecDepth 100000 in
set_option maxHeartbeats 4000000 in
theorem ct_X9_isNumber (l : Launch) (G : Gd) (τ : Sg) {v0 : Int} {σ : Sg} {q : Int} (hf : f_X9_isNumber v0 σ = some q) : Ctr l yX9_isNumber cX9_isNumber 1 (some .boolean) (rmk 0 0) G true τ [.int (oI v0)] σ σ (some (.int (oI q))) := by
  unfold f_X9_isNumber at hf
  refine CtrZ.of (own := RX9) (plainFor_of_name (by decide)) (Nat.le_of_ble_eq_true rfl) rfl (fun p e s m below meth c Q ls C hl S hend => ?_)
  have hl : lv_has ls 1 [(0, .int (oI v0))] := hl
  refine lv_iload_n C.1 C.2.1 dX9_isNumber_0 rfl (lv_at hl 0 rfl) ?_
  refine r_if_lt C rfl (tgt := 14) dX9_isNumber_1 (by decide) (fun h2 => ?_) (fun h2 => ?_)
  · replace hf := if_t hf h2
    refine r_iconst C dX9_isNumber_14 ?_
    cases hf
    exact hend (Or.inl rfl) _ _ _ _ S dX9_isNumber_15
  · replace hf := if_f hf h2
    refine lv_iload_n C.1 C.2.1 dX9_isNumber_4 rfl (lv_at hl 0 rfl) ?_
    refine r_bipush C dX9_isNumber_5 (by decide) ?_
    refine r_icmp_ge C rfl (show w32 24 = 24 by decide) (tgt := 14) dX9_isNumber_7 (by decide) (fun h1 => ?_) (fun h1 => ?_)
    · replace hf := if_t hf h1
      refine r_iconst C dX9_isNumber_10 ?_
      refine lv_goto C.1 C.2.1 (tgt := 15) dX9_isNumber_11 (by decide) ?_
      cases hf
      exact hend (Or.inr rfl) _ _ _ _ S dX9_isNumber_15
    · replace hf := if_f hf h1
      refine r_iconst C dX9_isNumber_14 ?_
      cases hf
      exact hend (Or.inl rfl) _ _ _ _ S dX9_isNumber_15
set_option maxRecDepth 100000 in
set_option maxHeartbeats 4000000 in
theorem ct_X0_shift (l : Launch) (G : Gd) (τ : Sg) {v1 : Int} {v2 : Int} {v3 : Int} {σ : Sg} {q : Sg} (hf : f_X0_shift v1 v2 v3 σ = some q) : Ctr l yX0_shift cX0_shift 4 none (rmk 1 20) G true τ [.ref (G.1 6), .int (oI v1), .int (oI v2), .int (oI v3)] σ q none := by
  unfold f_X0_shift at hf
  refine CtrV.of (own := RX0) (plainFor_of_name (by decide)) (Nat.le_of_ble_eq_true rfl) rfl (fun p e s m below meth c Q ls C hl S hend => ?_)
  have hl : lv_has ls 4 [(0, .ref (G.1 6)), (1, .int (oI v1)), (2, .int (oI v2)), (3, .int (oI v3))] := hl
  refine lv_iload_n C.1 C.2.1 dX0_shift_0 rfl (lv_at hl 1 rfl) ?_
  obtain ⟨q1, hc2, hf⟩ := bd_o hf
  refine r_callSNv C S (As := [.int (oI v1)]) (rest := []) (ct_X9_isNumber l G τ hc2) mi_X9_isNumber (nw_450 S.2.2.2) ms_X9_isNumber ⟨rfl, rfl⟩ ⟨Nat.le_of_ble_eq_true rfl, Nat.le_of_ble_eq_true rfl⟩ ⟨Nat.zero_le _, Nat.zero_le _⟩ rfl hl.1 rfl (Nat.le_of_ble_eq_true rfl) dX0_shift_1 (fun H locs S => ?_)
  refine r_if_eq C rfl (tgt := 21) dX0_shift_4 (by decide) (fun h7 => ?_) (fun h7 => ?_)
  · replace hf := if_t hf h7
    cases hf
    exact hend _ _ _ _ S dX0_shift_21
  · replace hf := if_f hf h7
    refine lv_aload_n C.1 C.2.1 dX0_shift_7 rfl (lv_at hl 0 rfl) ?_
    refine g0_x C S tw_91 dX0_shift_8 ?_
    refine lv_iload_n C.1 C.2.1 dX0_shift_11 rfl (lv_at hl 1 rfl) ?_
    refine lv_iload_n C.1 C.2.1 dX0_shift_12 rfl (lv_at hl 2 rfl) ?_
    obtain ⟨hi3, hf⟩ := ck_o hf
    refine a_iast C S ar_7 hi3 dX0_shift_13 (fun H locs S => ?_)
    obtain ⟨σ4, S, hf⟩ := wr_s S hf
    refine lv_aload_n C.1 C.2.1 dX0_shift_14 rfl (lv_at hl 0 rfl) ?_
    refine g0_y C S tw_93 dX0_shift_15 ?_
    refine lv_iload_n C.1 C.2.1 dX0_shift_18 rfl (lv_at hl 1 rfl) ?_
    refine lv_iload_n C.1 C.2.1 dX0_shift_19 rfl (lv_at hl 3 rfl) ?_
    obtain ⟨hi5, hf⟩ := ck_o hf
    refine a_iast C S ar_8 hi5 dX0_shift_20 (fun H locs S => ?_)
    obtain ⟨σ6, S, hf⟩ := wr_s S hf
    cases hf
    exact hend _ _ _ _ S dX0_shift_21
set_option maxRecDepth 100000 in
set_option maxHeartbeats 4000000 in
theorem ct_X9_contains (l : Launch) (G : Gd) (τ : Sg) {v0 : Int} {v1 : Int} {σ : Sg} {q : Int} (hf : f_X9_contains v0 v1 σ = some q) : Ctr l yX9_contains cX9_contains 2 (some .boolean) (rmk 0 0) G true τ [.int (oI v0), .int (oI v1)] σ σ (some (.int (oI q))) := by
  unfold f_X9_contains at hf
  refine CtrZ.of (own := RX9) (plainFor_of_name (by decide)) (Nat.le_of_ble_eq_true rfl) rfl (fun p e s m below meth c Q ls C hl S hend => ?_)
  have hl : lv_has ls 2 [(0, .int (oI v0)), (1, .int (oI v1))] := hl
  refine lv_iload_n C.1 C.2.1 dX9_contains_0 rfl (lv_at hl 0 rfl) ?_
  refine lv_iload_n C.1 C.2.1 dX9_contains_1 rfl (lv_at hl 1 rfl) ?_
  refine r_iushr C (y1 := (u32 v1 % 32)) rfl rfl dX9_contains_2 ?_
  refine r_iconst C dX9_contains_3 ?_
  refine r_iand C (u32_nat (nb_shr (u32_lt _))) (show u32 1 = 1 by decide) dX9_contains_4 ?_
  refine r_if_eq C rfl (tgt := 12) dX9_contains_5 (by decide) (fun h1 => ?_) (fun h1 => ?_)
  · replace hf := if_t hf h1
    refine r_iconst C dX9_contains_12 ?_
    cases hf
    exact hend (Or.inl rfl) _ _ _ _ S dX9_contains_13
  · replace hf := if_f hf h1
    refine r_iconst C dX9_contains_8 ?_
    refine lv_goto C.1 C.2.1 (tgt := 13) dX9_contains_9 (by decide) ?_
    cases hf
    exact hend (Or.inr rfl) _ _ _ _ S dX9_contains_13
set_option maxRecDepth 100000 in
set_option maxHeartbeats 4000000 in
theorem b_X0_weigh_b83 (C : Cx p s m args c RX0 cX0_weigh 6) {q : Sg} {k36 : Int → Int → Int → Int → Sg → Option (Sg)} (hend : EndR p l e (rmk 1 21) s m args below meth c Q G true τ cX0_weigh .return_ [] q) (hk36 : ∀ {H : Heap} {locs : List Loc} {ls : Array Slot} {σ : Sg} (v1 : Int) (v3 : Int) (v4 : Int) (v5 : Int), St G true τ σ s H locs → lv_has ls 6 [(0, .ref (G.1 6)), (1, .int (oI v1)), (3, .int (oI v3)), (4, .int (oI v4)), (5, .int (oI v5))] → k36 v1 v3 v4 v5 σ = some q → W p l e (rmk 1 21) s m args below meth c H locs 0 0 Q (F0 m 36 ls [])) {H : Heap} {locs : List Loc} {ls : Array Slot} {σ : Sg} (v1 : Int) (v3 : Int) (v4 : Int) (v5 : Int) (S : St G true τ σ s H locs) (hl : lv_has ls 6 [(0, .ref (G.1 6)), (1, .int (oI v1)), (3, .int (oI v3)), (4, .int (oI v4)), (5, .int (oI v5))]) (hf : f_X0_weigh_b83 k36 v1 v3 v4 v5 σ = some q) : W p l e (rmk 1 21) s m args below meth c H locs 0 0 Q (F0 m 83 ls []) := by
  unfold f_X0_weigh_b83 at hf
  refine r_iinc C dX0_weigh_83 hl (k := 4) rfl (by decide) (lv' := [(5, .int (oI (v5 + 1))), (0, .ref (G.1 6)), (1, .int (oI v1)), (3, .int (oI v3)), (4, .int (oI v4))]) rfl (fun ls hl => ?_)
  refine lv_goto C.1 C.2.1 (tgt := 36) dX0_weigh_86 (by decide) ?_
  exact hk36 v1 v3 v4 (v5 + 1) S (lv_sub hl [1, 2, 3, 4, 0] rfl) hf
set_option maxRecDepth 100000 in
set_option maxHeartbeats 4000000 in
theorem b_X0_weigh_b36 (C : Cx p s m args c RX0 cX0_weigh 6) {q : Sg} (hend : EndR p l e (rmk 1 21) s m args below meth c Q G true τ cX0_weigh .return_ [] q) : ∀ (n : Nat) {H : Heap} {locs : List Loc} {ls : Array Slot} {σ : Sg} (v1 : Int) (v3 : Int) (v4 : Int) (v5 : Int) (S : St G true τ σ s H locs) (hl : lv_has ls 6 [(0, .ref (G.1 6)), (1, .int (oI v1)), (3, .int (oI v3)), (4, .int (oI v4)), (5, .int (oI v5))]) (hf : f_X0_weigh_b36 n v1 v3 v4 v5 σ = some q), W p l e (rmk 1 21) s m args below meth c H locs 0 0 Q (F0 m 36 ls []) := by
  intro n
  induction n with
  | zero => intro H locs ls σ v1 v3 v4 v5 S hl hf; cases hf
  | succ n ih =>
    intro H locs ls σ v1 v3 v4 v5 S hl hf
    have hk36 := @ih
    rw [f_X0_weigh_b36] at hf
    refine lv_iload C.1 C.2.1 dX0_weigh_36 (lv_at hl 4 rfl) ?_
    refine r_sipush C dX0_weigh_38 (by decide) ?_
    refine r_icmp_ge C rfl (show w32 256 = 256 by decide) (tgt := 89) dX0_weigh_41 (by decide) (fun h13 => ?_) (fun h13 => ?_)
    · replace hf := if_t hf h13
      refine lv_iload C.1 C.2.1 dX0_weigh_44 (lv_at hl 4 rfl) ?_
      refine lv_iload_n C.1 C.2.1 dX0_weigh_46 rfl (lv_at hl 1 rfl) ?_
      refine r_bipush C dX0_weigh_47 (by decide) ?_
      refine r_iand C rfl (show u32 7 = 7 by decide) dX0_weigh_49 ?_
      obtain ⟨q6, hc7, hf⟩ := bd_o hf
      refine r_callSNv C S (As := [.int (oI v5), .int (oI ((((u32 v1) &&& 7 : Nat) : Int)))]) (rest := []) (ct_X9_contains l G τ hc7) mi_X9_contains (nw_461 S.2.2.2) ms_X9_contains ⟨rfl, rfl⟩ ⟨Nat.le_of_ble_eq_true rfl, Nat.le_of_ble_eq_true rfl⟩ ⟨Nat.zero_le _, Nat.zero_le _⟩ rfl hl.1 rfl (Nat.le_of_ble_eq_true rfl) dX0_weigh_50 (fun H locs S => ?_)
      refine r_if_eq C rfl (tgt := 83) dX0_weigh_53 (by decide) (fun h12 => ?_) (fun h12 => ?_)
      · replace hf := if_t hf h12
        exact b_X0_weigh_b83 C hend hk36 v1 v3 v4 v5 S (lv_sub hl [0, 1, 2, 3, 4] rfl) hf
      · replace hf := if_f hf h12
        refine lv_iload C.1 C.2.1 dX0_weigh_56 (lv_at hl 3 rfl) ?_
        refine lv_iload C.1 C.2.1 dX0_weigh_58 (lv_at hl 4 rfl) ?_
        refine r_iadd C dX0_weigh_60 ?_
        refine lv_aload_n C.1 C.2.1 dX0_weigh_61 rfl (lv_at hl 0 rfl) ?_
        refine g0_groupSums C S tw_97 dX0_weigh_62 ?_
        refine a_alen C S ar_11 dX0_weigh_65 ?_
        refine r_icmp_ge C rfl (show w32 768 = 768 by decide) (tgt := 83) dX0_weigh_66 (by decide) (fun h11 => ?_) (fun h11 => ?_)
        · replace hf := if_t hf h11
          refine lv_aload_n C.1 C.2.1 dX0_weigh_69 rfl (lv_at hl 0 rfl) ?_
          refine g0_groupSums C S tw_97 dX0_weigh_70 ?_
          refine lv_iload C.1 C.2.1 dX0_weigh_73 (lv_at hl 3 rfl) ?_
          refine lv_iload C.1 C.2.1 dX0_weigh_75 (lv_at hl 4 rfl) ?_
          refine r_iadd C dX0_weigh_77 ?_
          refine lv_dup2_11 C.1 C.2.1 dX0_weigh_78 rfl rfl ?_
          obtain ⟨hi8, hf⟩ := ck_o hf
          refine a_iald C S ar_11 hi8 dX0_weigh_79 ?_
          refine lv_iload_n C.1 C.2.1 dX0_weigh_80 rfl (lv_at hl 2 rfl) ?_
          refine r_iadd C dX0_weigh_81 ?_
          obtain ⟨hi9, hf⟩ := ck_o hf
          refine a_iast C S ar_11 hi9 dX0_weigh_82 (fun H locs S => ?_)
          obtain ⟨σ10, S, hf⟩ := wr_s S hf
          exact b_X0_weigh_b83 C hend hk36 v1 v3 v4 v5 S (lv_sub hl [0, 1, 2, 3, 4] rfl) hf
        · replace hf := if_f hf h11
          exact b_X0_weigh_b83 C hend hk36 v1 v3 v4 v5 S (lv_sub hl [0, 1, 2, 3, 4] rfl) hf
    · replace hf := if_f hf h13
      cases hf
      exact hend _ _ _ _ S dX0_weigh_89
set_option maxRecDepth 100000 in
set_option maxHeartbeats 4000000 in
theorem ct_X0_weigh (l : Launch) (G : Gd) (τ : Sg) {v1 : Int} {v2 : Int} {σ : Sg} {q : Sg} (hf : f_X0_weigh v1 v2 σ = some q) : Ctr l yX0_weigh cX0_weigh 6 none (rmk 1 21) G true τ [.ref (G.1 6), .int (oI v1), .int (oI v2)] σ q none := by
  unfold f_X0_weigh at hf
  refine CtrV.of (own := RX0) (plainFor_of_name (by decide)) (Nat.le_of_ble_eq_true rfl) rfl (fun p e s m below meth c Q ls C hl S hend => ?_)
  have hl : lv_has ls 6 [(0, .ref (G.1 6)), (1, .int (oI v1)), (2, .int (oI v2))] := hl
  refine lv_iload_n C.1 C.2.1 dX0_weigh_0 rfl (lv_at hl 1 rfl) ?_
  obtain ⟨q1, hc2, hf⟩ := bd_o hf
  refine r_callSNv C S (As := [.int (oI v1)]) (rest := []) (ct_X9_isNumber l G τ hc2) mi_X9_isNumber (nw_450 S.2.2.2) ms_X9_isNumber ⟨rfl, rfl⟩ ⟨Nat.le_of_ble_eq_true rfl, Nat.le_of_ble_eq_true rfl⟩ ⟨Nat.zero_le _, Nat.zero_le _⟩ rfl hl.1 rfl (Nat.le_of_ble_eq_true rfl) dX0_weigh_1 (fun H locs S => ?_)
  refine r_if_ne C rfl (tgt := 8) dX0_weigh_4 (by decide) (fun h14 => ?_) (fun h14 => ?_)
  · replace hf := if_t hf h14
    cases hf
    exact hend _ _ _ _ S dX0_weigh_7
  · replace hf := if_f hf h14
    refine lv_iload_n C.1 C.2.1 dX0_weigh_8 rfl (lv_at hl 2 rfl) ?_
    refine lv_aload_n C.1 C.2.1 dX0_weigh_9 rfl (lv_at hl 0 rfl) ?_
    refine g0_sum C S tw_95 dX0_weigh_10 ?_
    refine lv_iload_n C.1 C.2.1 dX0_weigh_13 rfl (lv_at hl 1 rfl) ?_
    obtain ⟨hi3, hf⟩ := ck_o hf
    refine a_iald C S ar_9 hi3 dX0_weigh_14 ?_
    refine r_isub C dX0_weigh_15 ?_
    refine lv_istore_n C.1 C.2.1 dX0_weigh_16 rfl hl (by decide) (lv' := [(3, .int (oI (v2 - (σ 9 (v1).toNat)))), (0, .ref (G.1 6)), (1, .int (oI v1)), (2, .int (oI v2))]) rfl (fun ls hl => ?_)
    refine lv_iload_n C.1 C.2.1 dX0_weigh_17 rfl (lv_at hl 2 rfl) ?_
    refine r_iconst C dX0_weigh_18 ?_
    refine r_iushr C (y1 := 3) rfl (by decide) dX0_weigh_19 ?_
    refine r_sipush C dX0_weigh_20 (by decide) ?_
    refine r_imul C dX0_weigh_23 ?_
    refine lv_istore C.1 C.2.1 dX0_weigh_24 hl (by decide) (lv' := [(4, .int (oI (((((u32 v1) >>> 3 : Nat) : Int)) * 256))), (3, .int (oI (v2 - (σ 9 (v1).toNat)))), (0, .ref (G.1 6)), (1, .int (oI v1)), (2, .int (oI v2))]) rfl (fun ls hl => ?_)
    refine lv_aload_n C.1 C.2.1 dX0_weigh_26 rfl (lv_at hl 2 rfl) ?_
    refine g0_sum C S tw_95 dX0_weigh_27 ?_
    refine lv_iload_n C.1 C.2.1 dX0_weigh_30 rfl (lv_at hl 3 rfl) ?_
    refine lv_iload_n C.1 C.2.1 dX0_weigh_31 rfl (lv_at hl 4 rfl) ?_
    obtain ⟨hi4, hf⟩ := ck_o hf
    refine a_iast C S ar_9 hi4 dX0_weigh_32 (fun H locs S => ?_)
    obtain ⟨σ5, S, hf⟩ := wr_s S hf
    refine r_iconst C dX0_weigh_33 ?_
    refine lv_istore C.1 C.2.1 dX0_weigh_34 hl (by decide) (lv' := [(5, .int (oI 0)), (4, .int (oI (((((u32 v1) >>> 3 : Nat) : Int)) * 256))), (3, .int (oI (v2 - (σ 9 (v1).toNat)))), (0, .ref (G.1 6)), (1, .int (oI v1)), (2, .int (oI v2))]) rfl (fun ls hl => ?_)
    exact b_X0_weigh_b36 C hend FUEL v1 (v2 - (σ 9 (v1).toNat)) (((((u32 v1) >>> 3 : Nat) : Int)) * 256) 0 S (lv_sub hl [3, 4, 2, 1, 0] rfl) hf
set_option maxRecDepth 100000 in
set_option maxHeartbeats 4000000 in
theorem ct_X0_enter (l : Launch) (G : Gd) (τ : Sg) {v1 : Int} {v2 : Int} {v3 : Int} {v4 : Int} {v5 : Int} {σ : Sg} {q : Sg} (hf : f_X0_enter v1 v2 v3 v4 v5 σ = some q) : Ctr l yX0_enter cX0_enter 6 none (rmk 2 46) G true τ [.ref (G.1 6), .int (oI v1), .int (oI v2), .int (oI v3), .int (oI v4), .int (oI v5)] σ q none := by
  unfold f_X0_enter at hf
  refine CtrV.of (own := RX0) (plainFor_of_name (by decide)) (Nat.le_of_ble_eq_true rfl) rfl (fun p e s m below meth c Q ls C hl S hend => ?_)
  have hl : lv_has ls 6 [(0, .ref (G.1 6)), (1, .int (oI v1)), (2, .int (oI v2)), (3, .int (oI v3)), (4, .int (oI v4)), (5, .int (oI v5))] := hl
  refine lv_iload_n C.1 C.2.1 dX0_enter_0 rfl (lv_at hl 1 rfl) ?_
  obtain ⟨q1, hc2, hf⟩ := bd_o hf
  refine r_callSNv C S (As := [.int (oI v1)]) (rest := []) (ct_X9_isNumber l G τ hc2) mi_X9_isNumber (nw_450 S.2.2.2) ms_X9_isNumber ⟨rfl, rfl⟩ ⟨Nat.le_of_ble_eq_true rfl, Nat.le_of_ble_eq_true rfl⟩ ⟨Nat.zero_le _, Nat.zero_le _⟩ rfl hl.1 rfl (Nat.le_of_ble_eq_true rfl) dX0_enter_1 (fun H locs S => ?_)
  refine r_if_eq C rfl (tgt := 41) dX0_enter_4 (by decide) (fun h10 => ?_) (fun h10 => ?_)
  · replace hf := if_t hf h10
    cases hf
    exact hend _ _ _ _ S dX0_enter_41
  · replace hf := if_f hf h10
    refine lv_aload_n C.1 C.2.1 dX0_enter_7 rfl (lv_at hl 0 rfl) ?_
    refine lv_dup C.1 C.2.1 dX0_enter_8 rfl ?_
    refine g0_inForce C S tw_98 dX0_enter_9 ?_
    refine r_iconst C dX0_enter_12 ?_
    refine lv_iload_n C.1 C.2.1 dX0_enter_13 rfl (lv_at hl 1 rfl) ?_
    refine r_ishl C (y1 := (u32 v1 % 32)) rfl dX0_enter_14 ?_
    refine r_ior C rfl rfl dX0_enter_15 ?_
    refine p0_inForce C S tw_98 dX0_enter_16 (fun H locs S => ?_)
    obtain ⟨σ3, S, hf⟩ := wr_s S hf
    refine lv_aload_n C.1 C.2.1 dX0_enter_19 rfl (lv_at hl 0 rfl) ?_
    refine g0_peril C S tw_96 dX0_enter_20 ?_
    refine lv_iload_n C.1 C.2.1 dX0_enter_23 rfl (lv_at hl 1 rfl) ?_
    refine lv_iload C.1 C.2.1 dX0_enter_24 (lv_at hl 5 rfl) ?_
    obtain ⟨hi4, hf⟩ := ck_o hf
    refine a_iast C S ar_10 hi4 dX0_enter_26 (fun H locs S => ?_)
    obtain ⟨σ5, S, hf⟩ := wr_s S hf
    refine lv_aload_n C.1 C.2.1 dX0_enter_27 rfl (lv_at hl 0 rfl) ?_
    refine lv_iload_n C.1 C.2.1 dX0_enter_28 rfl (lv_at hl 1 rfl) ?_
    refine lv_iload_n C.1 C.2.1 dX0_enter_29 rfl (lv_at hl 2 rfl) ?_
    refine lv_iload_n C.1 C.2.1 dX0_enter_30 rfl (lv_at hl 3 rfl) ?_
    obtain ⟨q6, hc7, hf⟩ := bd_o hf
    refine r_callVn C S (As := [.int (oI v1), .int (oI v2), .int (oI v3)]) (rest := []) (ct_X0_shift l G τ hc7) mi_X0_shift tw_453 mv_X0_shift (rvX0 S) ⟨rfl, rfl⟩ ⟨Nat.le_of_ble_eq_true rfl, Nat.le_of_ble_eq_true rfl⟩ ⟨Nat.zero_le _, Nat.zero_le _⟩ rfl hl.1 rfl (Nat.le_of_ble_eq_true rfl) dX0_enter_31 (fun H locs S => ?_)
    refine lv_aload_n C.1 C.2.1 dX0_enter_34 rfl (lv_at hl 0 rfl) ?_
    refine lv_iload_n C.1 C.2.1 dX0_enter_35 rfl (lv_at hl 1 rfl) ?_
    refine lv_iload C.1 C.2.1 dX0_enter_36 (lv_at hl 4 rfl) ?_
    obtain ⟨q8, hc9, hf⟩ := bd_o hf
    refine r_callVn C S (As := [.int (oI v1), .int (oI v4)]) (rest := []) (ct_X0_weigh l G τ hc9) mi_X0_weigh tw_457 mv_X0_weigh (rvX0 S) ⟨rfl, rfl⟩ ⟨Nat.le_of_ble_eq_true rfl, Nat.le_of_ble_eq_true rfl⟩ ⟨Nat.zero_le _, Nat.zero_le _⟩ rfl hl.1 rfl (Nat.le_of_ble_eq_true rfl) dX0_enter_38 (fun H locs S => ?_)
    cases hf
    exact hend _ _ _ _ S dX0_enter_41
set_option maxRecDepth 100000 in
set_option maxHeartbeats 4000000 in
theorem ct_X4_ofTreaty (l : Launch) (G : Gd) (τ : Sg) {v1 : Int} {v2 : Int} {σ : Sg} {q : Int} (hf : f_X4_ofTreaty v1 v2 σ = some q) : Ctr l yX4_ofTreaty cX4_ofTreaty 4 (some .int) (rmk 0 0) G true τ [.ref (G.1 3), .int (oI v1), .int (oI v2)] σ σ (some (.int (oI q))) := by
  unfold f_X4_ofTreaty at hf
  refine CtrI.of (own := RX4) (plainFor_of_name (by decide)) (Nat.le_of_ble_eq_true rfl) rfl (fun p e s m below meth c Q ls C hl S hend => ?_)
  have hl : lv_has ls 4 [(0, .ref (G.1 3)), (1, .int (oI v1)), (2, .int (oI v2))] := hl
  refine lv_iload_n C.1 C.2.1 dX4_ofTreaty_0 rfl (lv_at hl 1 rfl) ?_
  refine r_iconst C dX4_ofTreaty_1 ?_
  refine r_imul C dX4_ofTreaty_2 ?_
  refine lv_iload_n C.1 C.2.1 dX4_ofTreaty_3 rfl (lv_at hl 2 rfl) ?_
  refine r_iadd C dX4_ofTreaty_4 ?_
  refine lv_istore_n C.1 C.2.1 dX4_ofTreaty_5 rfl hl (by decide) (lv' := [(3, .int (oI ((v1 * 3) + v2))), (0, .ref (G.1 3)), (1, .int (oI v1)), (2, .int (oI v2))]) rfl (fun ls hl => ?_)
  refine lv_iload_n C.1 C.2.1 dX4_ofTreaty_6 rfl (lv_at hl 0 rfl) ?_
  refine r_if_lt C rfl (tgt := 28) dX4_ofTreaty_7 (by decide) (fun h3 => ?_) (fun h3 => ?_)
  · replace hf := if_t hf h3
    refine r_iconst C dX4_ofTreaty_28 ?_
    cases hf
    exact hend _ _ _ _ S dX4_ofTreaty_29
  · replace hf := if_f hf h3
    refine lv_iload_n C.1 C.2.1 dX4_ofTreaty_10 rfl (lv_at hl 0 rfl) ?_
    refine lv_aload_n C.1 C.2.1 dX4_ofTreaty_11 rfl (lv_at hl 1 rfl) ?_
    refine g4_treatyNumbers C S tw_55 dX4_ofTreaty_12 ?_
    refine a_alen C S ar_5 dX4_ofTreaty_15 ?_
    refine r_icmp_ge C rfl (show w32 18 = 18 by decide) (tgt := 28) dX4_ofTreaty_16 (by decide) (fun h2 => ?_) (fun h2 => ?_)
    · replace hf := if_t hf h2
      refine lv_aload_n C.1 C.2.1 dX4_ofTreaty_19 rfl (lv_at hl 1 rfl) ?_
      refine g4_treatyNumbers C S tw_55 dX4_ofTreaty_20 ?_
      refine lv_iload_n C.1 C.2.1 dX4_ofTreaty_23 rfl (lv_at hl 0 rfl) ?_
      obtain ⟨hi1, hf⟩ := ck_o hf
      refine a_iald C S ar_5 hi1 dX4_ofTreaty_24 ?_
      refine lv_goto C.1 C.2.1 (tgt := 29) dX4_ofTreaty_25 (by decide) ?_
      cases hf
      exact hend _ _ _ _ S dX4_ofTreaty_29
    · replace hf := if_f hf h2
      refine r_iconst C dX4_ofTreaty_28 ?_
      cases hf
      exact hend _ _ _ _ S dX4_ofTreaty_29
set_option maxRecDepth 100000 in
set_option maxHeartbeats 4000000 in
theorem ct_X8_agree (l : Launch) (G : Gd) (τ : Sg) {d : Nat} {v1 : Int} {v2 : Int} {v3 : Int} {σ : Sg} {q : Sg} (hf : f_X8_agree d v1 v2 v3 σ = some q) : Ctr l yX8_agree cX8_agree 4 none (rmk 0 0) G true τ [.ref (G.1 (21 + d)), .int (oI v1), .int (oI v2), .int (oI v3)] σ q none := by
  unfold f_X8_agree at hf
  obtain ⟨hd, hf⟩ := ck_o hf
  refine CtrV.of (own := RX8) (plainFor_of_name (by decide)) (Nat.le_of_ble_eq_true rfl) rfl (fun p e s m below meth c Q ls C hl S hend => ?_)
  have hl : lv_has ls 4 [(0, .ref (G.1 (21 + d))), (1, .int (oI v1)), (2, .int (oI v2)), (3, .int (oI v3))] := hl
  refine lv_aload_n C.1 C.2.1 dX8_agree_0 rfl (lv_at hl 0 rfl) ?_
  refine lv_iload_n C.1 C.2.1 dX8_agree_1 rfl (lv_at hl 1 rfl) ?_
  refine p8_perils C (d := d) S (by omega) tw_150 dX8_agree_2 (fun H locs S => ?_)
  obtain ⟨σ1, S, hf⟩ := wr_s S hf
  refine lv_aload_n C.1 C.2.1 dX8_agree_5 rfl (lv_at hl 0 rfl) ?_
  refine lv_iload_n C.1 C.2.1 dX8_agree_6 rfl (lv_at hl 2 rfl) ?_
  refine p8_radius C (d := d) S (by omega) tw_152 dX8_agree_7 (fun H locs S => ?_)
  obtain ⟨σ2, S, hf⟩ := wr_s S hf
  refine lv_aload_n C.1 C.2.1 dX8_agree_10 rfl (lv_at hl 0 rfl) ?_
  refine lv_iload_n C.1 C.2.1 dX8_agree_11 rfl (lv_at hl 3 rfl) ?_
  refine p8_limit C (d := d) S (by omega) tw_154 dX8_agree_12 (fun H locs S => ?_)
  obtain ⟨σ3, S, hf⟩ := wr_s S hf
  refine lv_aload_n C.1 C.2.1 dX8_agree_15 rfl (lv_at hl 0 rfl) ?_
  refine r_bipush C dX8_agree_16 (by decide) ?_
  refine p8_alarm C (d := d) S (by omega) tw_160 dX8_agree_18 (fun H locs S => ?_)
  obtain ⟨σ4, S, hf⟩ := wr_s S hf
  refine lv_aload_n C.1 C.2.1 dX8_agree_21 rfl (lv_at hl 0 rfl) ?_
  refine r_iconst C dX8_agree_22 ?_
  refine p8_alarmsHad C (d := d) S (by omega) tw_162 dX8_agree_23 (fun H locs S => ?_)
  obtain ⟨σ5, S, hf⟩ := wr_s S hf
  cases hf
  exact hend _ _ _ _ S dX8_agree_26
set_option maxRecDepth 100000 in
set_option maxHeartbeats 4000000 in
theorem b_X0_ofPerils_b40 (C : Cx p s m args c RX0 cX0_ofPerils 4) {q : Int} {k4 : Int → Int → Int → Option (Int)} (hend : EndR p l e (rmk 1 21) s m args below meth c Q G true τ cX0_ofPerils .ireturn [.int (oI q)] σ) (hk4 : ∀ {H : Heap} {locs : List Loc} {ls : Array Slot} (v1 : Int) (v2 : Int) (v3 : Int), St G true τ σ s H locs → lv_has ls 4 [(0, .ref (G.1 6)), (1, .int (oI v1)), (2, .int (oI v2)), (3, .int (oI v3))] → k4 v1 v2 v3 = some q → W p l e (rmk 1 21) s m args below meth c H locs 0 0 Q (F0 m 4 ls [])) {H : Heap} {locs : List Loc} {ls : Array Slot} (v1 : Int) (v2 : Int) (v3 : Int) (S : St G true τ σ s H locs) (hl : lv_has ls 4 [(0, .ref (G.1 6)), (1, .int (oI v1)), (2, .int (oI v2)), (3, .int (oI v3))]) (hf : f_X0_ofPerils_b40 σ k4 v1 v2 v3 = some q) : W p l e (rmk 1 21) s m args below meth c H locs 0 0 Q (F0 m 40 ls []) := by
  unfold f_X0_ofPerils_b40 at hf
  refine r_iinc C dX0_ofPerils_40 hl (k := 3) rfl (by decide) (lv' := [(3, .int (oI (v3 + 1))), (0, .ref (G.1 6)), (1, .int (oI v1)), (2, .int (oI v2))]) rfl (fun ls hl => ?_)
  refine lv_goto C.1 C.2.1 (tgt := 4) dX0_ofPerils_43 (by decide) ?_
  exact hk4 v1 v2 (v3 + 1) S (lv_sub hl [1, 2, 3, 0] rfl) hf
set_option maxRecDepth 100000 in
set_option maxHeartbeats 4000000 in
theorem b_X0_ofPerils_b4 (C : Cx p s m args c RX0 cX0_ofPerils 4) {q : Int} (hend : EndR p l e (rmk 1 21) s m args below meth c Q G true τ cX0_ofPerils .ireturn [.int (oI q)] σ) : ∀ (n : Nat) {H : Heap} {locs : List Loc} {ls : Array Slot} (v1 : Int) (v2 : Int) (v3 : Int) (S : St G true τ σ s H locs) (hl : lv_has ls 4 [(0, .ref (G.1 6)), (1, .int (oI v1)), (2, .int (oI v2)), (3, .int (oI v3))]) (hf : f_X0_ofPerils_b4 σ n v1 v2 v3 = some q), W p l e (rmk 1 21) s m args below meth c H locs 0 0 Q (F0 m 4 ls []) := by
  intro n
  induction n with
  | zero => intro H locs ls v1 v2 v3 S hl hf; cases hf
  | succ n ih =>
    intro H locs ls v1 v2 v3 S hl hf
    have hk4 := @ih
    rw [f_X0_ofPerils_b4] at hf
    refine lv_iload_n C.1 C.2.1 dX0_ofPerils_4 rfl (lv_at hl 3 rfl) ?_
    refine r_bipush C dX0_ofPerils_5 (by decide) ?_
    refine r_icmp_ge C rfl (show w32 24 = 24 by decide) (tgt := 46) dX0_ofPerils_7 (by decide) (fun h8 => ?_) (fun h8 => ?_)
    · replace hf := if_t hf h8
      refine lv_aload_n C.1 C.2.1 dX0_ofPerils_10 rfl (lv_at hl 0 rfl) ?_
      refine g0_inForce C S tw_98 dX0_ofPerils_11 ?_
      refine lv_iload_n C.1 C.2.1 dX0_ofPerils_14 rfl (lv_at hl 3 rfl) ?_
      obtain ⟨q1, hc2, hf⟩ := bd_o hf
      refine r_callSNv C S (As := [.int (oI (σ 6 5)), .int (oI v3)]) (rest := []) (ct_X9_contains l G τ hc2) mi_X9_contains (nw_461 S.2.2.2) ms_X9_contains ⟨rfl, rfl⟩ ⟨Nat.le_of_ble_eq_true rfl, Nat.le_of_ble_eq_true rfl⟩ ⟨Nat.zero_le _, Nat.zero_le _⟩ rfl hl.1 rfl (Nat.le_of_ble_eq_true rfl) dX0_ofPerils_15 (fun H locs S => ?_)
      refine r_if_eq C rfl (tgt := 40) dX0_ofPerils_18 (by decide) (fun h7 => ?_) (fun h7 => ?_)
      · replace hf := if_t hf h7
        exact b_X0_ofPerils_b40 C hend hk4 v1 v2 v3 S (lv_sub hl [0, 1, 2, 3] rfl) hf
      · replace hf := if_f hf h7
        refine lv_iload_n C.1 C.2.1 dX0_ofPerils_21 rfl (lv_at hl 1 rfl) ?_
        refine lv_aload_n C.1 C.2.1 dX0_ofPerils_22 rfl (lv_at hl 0 rfl) ?_
        refine g0_peril C S tw_96 dX0_ofPerils_23 ?_
        refine lv_iload_n C.1 C.2.1 dX0_ofPerils_26 rfl (lv_at hl 3 rfl) ?_
        obtain ⟨hi3, hf⟩ := ck_o hf
        refine a_iald C S ar_10 hi3 dX0_ofPerils_27 ?_
        obtain ⟨q4, hc5, hf⟩ := bd_o hf
        refine r_callSNv C S (As := [.int (oI v1), .int (oI (σ 10 (v3).toNat))]) (rest := []) (ct_X9_contains l G τ hc5) mi_X9_contains (nw_461 S.2.2.2) ms_X9_contains ⟨rfl, rfl⟩ ⟨Nat.le_of_ble_eq_true rfl, Nat.le_of_ble_eq_true rfl⟩ ⟨Nat.zero_le _, Nat.zero_le _⟩ rfl hl.1 rfl (Nat.le_of_ble_eq_true rfl) dX0_ofPerils_28 (fun H locs S => ?_)
        refine r_if_eq C rfl (tgt := 40) dX0_ofPerils_31 (by decide) (fun h6 => ?_) (fun h6 => ?_)
        · replace hf := if_t hf h6
          exact b_X0_ofPerils_b40 C hend hk4 v1 v2 v3 S (lv_sub hl [0, 1, 2, 3] rfl) hf
        · replace hf := if_f hf h6
          refine lv_iload_n C.1 C.2.1 dX0_ofPerils_34 rfl (lv_at hl 2 rfl) ?_
          refine r_iconst C dX0_ofPerils_35 ?_
          refine lv_iload_n C.1 C.2.1 dX0_ofPerils_36 rfl (lv_at hl 3 rfl) ?_
          refine r_ishl C (y1 := (u32 v3 % 32)) rfl dX0_ofPerils_37 ?_
          refine r_ior C rfl rfl dX0_ofPerils_38 ?_
          refine lv_istore_n C.1 C.2.1 dX0_ofPerils_39 rfl hl (by decide) (lv' := [(2, .int (oI ((((u32 v2) ||| (u32 (1 * ((2 ^ (u32 v3 % 32) : Nat) : Int))) : Nat) : Int)))), (0, .ref (G.1 6)), (1, .int (oI v1)), (3, .int (oI v3))]) rfl (fun ls hl => ?_)
          exact b_X0_ofPerils_b40 C hend hk4 v1 ((((u32 v2) ||| (u32 (1 * ((2 ^ (u32 v3 % 32) : Nat) : Int))) : Nat) : Int)) v3 S (lv_sub hl [1, 2, 0, 3] rfl) hf
    · replace hf := if_f hf h8
      refine lv_iload_n C.1 C.2.1 dX0_ofPerils_46 rfl (lv_at hl 2 rfl) ?_
      cases hf
      exact hend _ _ _ _ S dX0_ofPerils_47
set_option maxRecDepth 100000 in
set_option maxHeartbeats 4000000 in
theorem ct_X0_ofPerils (l : Launch) (G : Gd) (τ : Sg) {v1 : Int} {σ : Sg} {q : Int} (hf : f_X0_ofPerils v1 σ = some q) : Ctr l yX0_ofPerils cX0_ofPerils 4 (some .int) (rmk 1 21) G true τ [.ref (G.1 6), .int (oI v1)] σ σ (some (.int (oI q))) := by
  unfold f_X0_ofPerils at hf
  refine CtrI.of (own := RX0) (plainFor_of_name (by decide)) (Nat.le_of_ble_eq_true rfl) rfl (fun p e s m below meth c Q ls C hl S hend => ?_)
  have hl : lv_has ls 4 [(0, .ref (G.1 6)), (1, .int (oI v1))] := hl
  refine r_iconst C dX0_ofPerils_0 ?_
  refine lv_istore_n C.1 C.2.1 dX0_ofPerils_1 rfl hl (by decide) (lv' := [(2, .int (oI 0)), (0, .ref (G.1 6)), (1, .int (oI v1))]) rfl (fun ls hl => ?_)
  refine r_iconst C dX0_ofPerils_2 ?_
  refine lv_istore_n C.1 C.2.1 dX0_ofPerils_3 rfl hl (by decide) (lv' := [(3, .int (oI 0)), (2, .int (oI 0)), (0, .ref (G.1 6)), (1, .int (oI v1))]) rfl (fun ls hl => ?_)
  exact b_X0_ofPerils_b4 C hend FUEL v1 0 0 S (lv_sub hl [2, 3, 1, 0] rfl) hf
set_option maxRecDepth 100000 in
set_option maxHeartbeats 4000000 in
theorem b_J7_fill_53178_34_b5 (C : Cx p s m args c RJ7 cJ7_fill_53178 4) {d : Nat} (hd : d < 7) {q : Sg} (hend : EndR p l e (rmk 0 0) s m args below meth c Q G true τ cJ7_fill_53178 .return_ [] q) : ∀ (n : Nat) {H : Heap} {locs : List Loc} {ls : Array Slot} {σ : Sg} (v1 : Int) (v2 : Int) (v3 : Int) (S : St G true τ σ s H locs) (hl : lv_has ls 4 [(0, .ref (G.1 (34 + d))), (1, .int (oI v1)), (2, .int (oI v2)), (3, .int (oI v3))]) (hf : f_J7_fill_53178_34_b5 d n v1 v2 v3 σ = some q), W p l e (rmk 0 0) s m args below meth c H locs 0 0 Q (F0 m 5 ls []) := by
  intro n
  induction n with
  | zero => intro H locs ls σ v1 v2 v3 S hl hf; cases hf
  | succ n ih =>
    intro H locs ls σ v1 v2 v3 S hl hf
    have hk5 := @ih
    rw [f_J7_fill_53178_34_b5] at hf
    refine lv_iload_n C.1 C.2.1 dJ7_fill_53178_5 rfl (lv_at hl 2 rfl) ?_
    refine lv_iload_n C.1 C.2.1 dJ7_fill_53178_6 rfl (lv_at hl 3 rfl) ?_
    refine r_icmp_ge C rfl rfl (tgt := 20) dJ7_fill_53178_7 (by decide) (fun h3 => ?_) (fun h3 => ?_)
    · replace hf := if_t hf h3
      refine lv_aload_n C.1 C.2.1 dJ7_fill_53178_10 rfl (lv_at hl 0 rfl) ?_
      refine lv_iload_n C.1 C.2.1 dJ7_fill_53178_11 rfl (lv_at hl 2 rfl) ?_
      refine lv_iload_n C.1 C.2.1 dJ7_fill_53178_12 rfl (lv_at hl 1 rfl) ?_
      obtain ⟨hi1, hf⟩ := ck_o hf
      refine a_iast C S (ar_34 (d := d) (by omega)) hi1 dJ7_fill_53178_13 (fun H locs S => ?_)
      obtain ⟨σ2, S, hf⟩ := wr_s S hf
      refine r_iinc C dJ7_fill_53178_14 hl (k := 2) rfl (by decide) (lv' := [(2, .int (oI (v2 + 1))), (0, .ref (G.1 (34 + d))), (1, .int (oI v1)), (3, .int (oI v3))]) rfl (fun ls hl => ?_)
      refine lv_goto C.1 C.2.1 (tgt := 5) dJ7_fill_53178_17 (by decide) ?_
      exact hk5 v1 (v2 + 1) v3 S (lv_sub hl [1, 2, 0, 3] rfl) hf
    · replace hf := if_f hf h3
      cases hf
      exact hend _ _ _ _ S dJ7_fill_53178_20
set_option maxRecDepth 100000 in
set_option maxHeartbeats 4000000 in
theorem ct_J7_fill_53178_34 (l : Launch) (G : Gd) (τ : Sg) {d : Nat} {v1 : Int} {σ : Sg} {q : Sg} (hf : f_J7_fill_53178_34 d v1 σ = some q) : Ctr l yJ7_fill_53178 cJ7_fill_53178 4 none (rmk 0 0) G true τ [.ref (G.1 (34 + d)), .int (oI v1)] σ q none := by
  unfold f_J7_fill_53178_34 at hf
  obtain ⟨hd, hf⟩ := ck_o hf
  refine CtrV.of (own := RJ7) (plainFor_of_name (by decide)) (Nat.le_of_ble_eq_true rfl) rfl (fun p e s m below meth c Q ls C hl S hend => ?_)
  have hl : lv_has ls 4 [(0, .ref (G.1 (34 + d))), (1, .int (oI v1))] := hl
  refine r_iconst C dJ7_fill_53178_0 ?_
  refine lv_istore_n C.1 C.2.1 dJ7_fill_53178_1 rfl hl (by decide) (lv' := [(2, .int (oI 0)), (0, .ref (G.1 (34 + d))), (1, .int (oI v1))]) rfl (fun ls hl => ?_)
  refine lv_aload_n C.1 C.2.1 dJ7_fill_53178_2 rfl (lv_at hl 1 rfl) ?_
  refine a_alen C S (ar_34 (d := d) (by omega)) dJ7_fill_53178_3 ?_
  refine lv_istore_n C.1 C.2.1 dJ7_fill_53178_4 rfl hl (by decide) (lv' := [(3, .int (oI 576)), (2, .int (oI 0)), (0, .ref (G.1 (34 + d))), (1, .int (oI v1))]) rfl (fun ls hl => ?_)
  exact b_J7_fill_53178_34_b5 C hd hend FUEL v1 0 576 S (lv_sub hl [2, 3, 1, 0] rfl) hf
set_option maxRecDepth 100000 in
set_option maxHeartbeats 4000000 in
theorem b_X0_within_b73 (C : Cx p s m args c RX0 cX0_within 8) {q : Int} {k6 : Int → Int → Int → Int → Int → Option (Int)} (hend : EndR p l e (rmk 1 21) s m args below meth c Q G true τ cX0_within .ireturn [.int (oI q)] σ) (hk6 : ∀ {H : Heap} {locs : List Loc} {ls : Array Slot} (v1 : Int) (v2 : Int) (v3 : Int) (v4 : Int) (v5 : Int), St G true τ σ s H locs → lv_has ls 8 [(0, .ref (G.1 6)), (1, .int (oI v1)), (2, .int (oI v2)), (3, .int (oI v3)), (4, .int (oI v4)), (5, .int (oI v5))] → k6 v1 v2 v3 v4 v5 = some q → W p l e (rmk 1 21) s m args below meth c H locs 0 0 Q (F0 m 6 ls [])) {H : Heap} {locs : List Loc} {ls : Array Slot} (v1 : Int) (v2 : Int) (v3 : Int) (v4 : Int) (v5 : Int) (S : St G true τ σ s H locs) (hl : lv_has ls 8 [(0, .ref (G.1 6)), (1, .int (oI v1)), (2, .int (oI v2)), (3, .int (oI v3)), (4, .int (oI v4)), (5, .int (oI v5))]) (hf : f_X0_within_b73 σ k6 v1 v2 v3 v4 v5 = some q) : W p l e (rmk 1 21) s m args below meth c H locs 0 0 Q (F0 m 73 ls []) := by
  unfold f_X0_within_b73 at hf
  refine r_iinc C dX0_within_73 hl (k := 5) rfl (by decide) (lv' := [(5, .int (oI (v5 + 1))), (0, .ref (G.1 6)), (1, .int (oI v1)), (2, .int (oI v2)), (3, .int (oI v3)), (4, .int (oI v4))]) rfl (fun ls hl => ?_)
  refine lv_goto C.1 C.2.1 (tgt := 6) dX0_within_76 (by decide) ?_
  exact hk6 v1 v2 v3 v4 (v5 + 1) S (lv_sub hl [1, 2, 3, 4, 5, 0] rfl) hf
set_option maxRecDepth 100000 in
set_option maxHeartbeats 4000000 in
theorem b_X0_within_b6 (C : Cx p s m args c RX0 cX0_within 8) {q : Int} (hend : EndR p l e (rmk 1 21) s m args below meth c Q G true τ cX0_within .ireturn [.int (oI q)] σ) : ∀ (n : Nat) {H : Heap} {locs : List Loc} {ls : Array Slot} (v1 : Int) (v2 : Int) (v3 : Int) (v4 : Int) (v5 : Int) (S : St G true τ σ s H locs) (hl : lv_has ls 8 [(0, .ref (G.1 6)), (1, .int (oI v1)), (2, .int (oI v2)), (3, .int (oI v3)), (4, .int (oI v4)), (5, .int (oI v5))]) (hf : f_X0_within_b6 σ n v1 v2 v3 v4 v5 = some q), W p l e (rmk 1 21) s m args below meth c H locs 0 0 Q (F0 m 6 ls []) := by
  intro n
  induction n with
  | zero => intro H locs ls v1 v2 v3 v4 v5 S hl hf; cases hf
  | succ n ih =>
    intro H locs ls v1 v2 v3 v4 v5 S hl hf
    have hk6 := @ih
    rw [f_X0_within_b6] at hf
    refine lv_iload C.1 C.2.1 dX0_within_6 (lv_at hl 5 rfl) ?_
    refine r_bipush C dX0_within_8 (by decide) ?_
    refine r_icmp_ge C rfl (show w32 24 = 24 by decide) (tgt := 79) dX0_within_10 (by decide) (fun h7 => ?_) (fun h7 => ?_)
    · replace hf := if_t hf h7
      refine lv_aload_n C.1 C.2.1 dX0_within_13 rfl (lv_at hl 0 rfl) ?_
      refine g0_x C S tw_91 dX0_within_14 ?_
      refine lv_iload C.1 C.2.1 dX0_within_17 (lv_at hl 5 rfl) ?_
      obtain ⟨hi1, hf⟩ := ck_o hf
      refine a_iald C S ar_7 hi1 dX0_within_19 ?_
      refine lv_iload_n C.1 C.2.1 dX0_within_20 rfl (lv_at hl 1 rfl) ?_
      refine r_isub C dX0_within_21 ?_
      refine lv_istore C.1 C.2.1 dX0_within_22 hl (by decide) (lv' := [(6, .int (oI ((σ 7 (v5).toNat) - v1))), (0, .ref (G.1 6)), (1, .int (oI v1)), (2, .int (oI v2)), (3, .int (oI v3)), (4, .int (oI v4)), (5, .int (oI v5))]) rfl (fun ls hl => ?_)
      refine lv_aload_n C.1 C.2.1 dX0_within_24 rfl (lv_at hl 1 rfl) ?_
      refine g0_y C S tw_93 dX0_within_25 ?_
      refine lv_iload C.1 C.2.1 dX0_within_28 (lv_at hl 6 rfl) ?_
      obtain ⟨hi2, hf⟩ := ck_o hf
      refine a_iald C S ar_8 hi2 dX0_within_30 ?_
      refine lv_iload_n C.1 C.2.1 dX0_within_31 rfl (lv_at hl 3 rfl) ?_
      refine r_isub C dX0_within_32 ?_
      refine lv_istore C.1 C.2.1 dX0_within_33 hl (by decide) (lv' := [(7, .int (oI ((σ 8 (v5).toNat) - v2))), (6, .int (oI ((σ 7 (v5).toNat) - v1))), (0, .ref (G.1 6)), (1, .int (oI v1)), (2, .int (oI v2)), (3, .int (oI v3)), (4, .int (oI v4)), (5, .int (oI v5))]) rfl (fun ls hl => ?_)
      refine lv_aload_n C.1 C.2.1 dX0_within_35 rfl (lv_at hl 2 rfl) ?_
      refine g0_inForce C S tw_98 dX0_within_36 ?_
      refine lv_iload C.1 C.2.1 dX0_within_39 (lv_at hl 7 rfl) ?_
      obtain ⟨q3, hc4, hf⟩ := bd_o hf
      refine r_callSNv C S (As := [.int (oI (σ 6 5)), .int (oI v5)]) (rest := []) (ct_X9_contains l G τ hc4) mi_X9_contains (nw_461 S.2.2.2) ms_X9_contains ⟨rfl, rfl⟩ ⟨Nat.le_of_ble_eq_true rfl, Nat.le_of_ble_eq_true rfl⟩ ⟨Nat.zero_le _, Nat.zero_le _⟩ rfl hl.1 rfl (Nat.le_of_ble_eq_true rfl) dX0_within_41 (fun H locs S => ?_)
      refine r_if_eq C rfl (tgt := 73) dX0_within_44 (by decide) (fun h6 => ?_) (fun h6 => ?_)
      · replace hf := if_t hf h6
        exact b_X0_within_b73 C hend hk6 v1 v2 v3 v4 v5 S (lv_sub hl [2, 3, 4, 5, 6, 7] rfl) hf
      · replace hf := if_f hf h6
        refine lv_iload C.1 C.2.1 dX0_within_47 (lv_at hl 1 rfl) ?_
        refine lv_iload C.1 C.2.1 dX0_within_49 (lv_at hl 1 rfl) ?_
        refine r_imul C dX0_within_51 ?_
        refine lv_iload C.1 C.2.1 dX0_within_52 (lv_at hl 0 rfl) ?_
        refine lv_iload C.1 C.2.1 dX0_within_54 (lv_at hl 0 rfl) ?_
        refine r_imul C dX0_within_56 ?_
        refine r_iadd C dX0_within_57 ?_
        refine lv_iload_n C.1 C.2.1 dX0_within_58 rfl (lv_at hl 5 rfl) ?_
        refine lv_iload_n C.1 C.2.1 dX0_within_59 rfl (lv_at hl 5 rfl) ?_
        refine r_imul C dX0_within_60 ?_
        refine r_icmp_gt C rfl rfl (tgt := 73) dX0_within_61 (by decide) (fun h5 => ?_) (fun h5 => ?_)
        · replace hf := if_t hf h5
          refine lv_iload C.1 C.2.1 dX0_within_64 (lv_at hl 6 rfl) ?_
          refine r_iconst C dX0_within_66 ?_
          refine lv_iload C.1 C.2.1 dX0_within_67 (lv_at hl 7 rfl) ?_
          refine r_ishl C (y1 := (u32 v5 % 32)) rfl dX0_within_69 ?_
          refine r_ior C rfl rfl dX0_within_70 ?_
          refine lv_istore C.1 C.2.1 dX0_within_71 hl (by decide) (lv' := [(4, .int (oI ((((u32 v4) ||| (u32 (1 * ((2 ^ (u32 v5 % 32) : Nat) : Int))) : Nat) : Int)))), (7, .int (oI ((σ 8 (v5).toNat) - v2))), (6, .int (oI ((σ 7 (v5).toNat) - v1))), (0, .ref (G.1 6)), (1, .int (oI v1)), (2, .int (oI v2)), (3, .int (oI v3)), (5, .int (oI v5))]) rfl (fun ls hl => ?_)
          exact b_X0_within_b73 C hend hk6 v1 v2 v3 ((((u32 v4) ||| (u32 (1 * ((2 ^ (u32 v5 % 32) : Nat) : Int))) : Nat) : Int)) v5 S (lv_sub hl [3, 4, 5, 6, 0, 7] rfl) hf
        · replace hf := if_f hf h5
          exact b_X0_within_b73 C hend hk6 v1 v2 v3 v4 v5 S (lv_sub hl [2, 3, 4, 5, 6, 7] rfl) hf
    · replace hf := if_f hf h7
      refine lv_iload C.1 C.2.1 dX0_within_79 (lv_at hl 4 rfl) ?_
      cases hf
      exact hend _ _ _ _ S dX0_within_81
set_option maxRecDepth 100000 in
set_option maxHeartbeats 4000000 in
theorem ct_X0_within (l : Launch) (G : Gd) (τ : Sg) {v1 : Int} {v2 : Int} {v3 : Int} {σ : Sg} {q : Int} (hf : f_X0_within v1 v2 v3 σ = some q) : Ctr l yX0_within cX0_within 8 (some .int) (rmk 1 21) G true τ [.ref (G.1 6), .int (oI v1), .int (oI v2), .int (oI v3)] σ σ (some (.int (oI q))) := by
  unfold f_X0_within at hf
  refine CtrI.of (own := RX0) (plainFor_of_name (by decide)) (Nat.le_of_ble_eq_true rfl) rfl (fun p e s m below meth c Q ls C hl S hend => ?_)
  have hl : lv_has ls 8 [(0, .ref (G.1 6)), (1, .int (oI v1)), (2, .int (oI v2)), (3, .int (oI v3))] := hl
  refine r_iconst C dX0_within_0 ?_
  refine lv_istore C.1 C.2.1 dX0_within_1 hl (by decide) (lv' := [(4, .int (oI 0)), (0, .ref (G.1 6)), (1, .int (oI v1)), (2, .int (oI v2)), (3, .int (oI v3))]) rfl (fun ls hl => ?_)
  refine r_iconst C dX0_within_3 ?_
  refine lv_istore C.1 C.2.1 dX0_within_4 hl (by decide) (lv' := [(5, .int (oI 0)), (4, .int (oI 0)), (0, .ref (G.1 6)), (1, .int (oI v1)), (2, .int (oI v2)), (3, .int (oI v3))]) rfl (fun ls hl => ?_)
  exact b_X0_within_b6 C hend FUEL v1 v2 v3 0 0 S (lv_sub hl [2, 3, 4, 5, 1, 0] rfl) hf
set_option maxRecDepth 100000 in
set_option maxHeartbeats 4000000 in
theorem b_X9_sides_b64 (C : Cx p s m args c RX9 cX9_sides 15) {q : Int} (hend : EndR p l e (rmk 0 0) s m args below meth c Q G true τ cX9_sides .ireturn [.int (oI q)] σ) {H : Heap} {locs : List Loc} {ls : Array Slot} (v6 : Int) (v10 : Int) (v12 : Int) (w0 : Int) (S : St G true τ σ s H locs) (hl : lv_has ls 15 [(6, .long (oL v6)), (10, .long (oL v10)), (12, .long (oL v12))]) (hf : f_X9_sides_b64 σ v6 v10 v12 w0 = some q) : W p l e (rmk 0 0) s m args below meth c H locs 0 0 Q (F0 m 64 ls [.int (oI w0)]) := by
  unfold f_X9_sides_b64 at hf
  refine lv_istore C.1 C.2.1 dX9_sides_64 hl (by decide) (lv' := [(14, .int (oI w0)), (6, .long (oL v6)), (10, .long (oL v10)), (12, .long (oL v12))]) rfl (fun ls hl => ?_)
  refine lv_lload C.1 C.2.1 dX9_sides_66 (lv_at hl 1 rfl) ?_
  refine r_lconst C (z := 0) dX9_sides_68 (by decide) ?_
  refine r_lcmp_gt C rfl (show w64 0 = 0 by decide) (tgt := 88) dX9_sides_69 dX9_sides_70 (by decide) (fun h3 => ?_) (fun h3 => ?_)
  · replace hf := if_t hf h3
    refine lv_lload C.1 C.2.1 dX9_sides_73 (lv_at hl 2 rfl) ?_
    refine lv_lload C.1 C.2.1 dX9_sides_75 (lv_at hl 3 rfl) ?_
    refine r_lcmp_lt C rfl rfl (tgt := 85) dX9_sides_77 dX9_sides_78 (by decide) (fun h1 => ?_) (fun h1 => ?_)
    · replace hf := if_t hf h1
      refine lv_iload C.1 C.2.1 dX9_sides_85 (lv_at hl 0 rfl) ?_
      cases hf
      exact hend _ _ _ _ S dX9_sides_87
    · replace hf := if_f hf h1
      refine r_iconst C dX9_sides_81 ?_
      refine lv_goto C.1 C.2.1 (tgt := 87) dX9_sides_82 (by decide) ?_
      cases hf
      exact hend _ _ _ _ S dX9_sides_87
  · replace hf := if_f hf h3
    refine lv_lload C.1 C.2.1 dX9_sides_88 (lv_at hl 2 rfl) ?_
    refine lv_lload C.1 C.2.1 dX9_sides_90 (lv_at hl 3 rfl) ?_
    refine r_lcmp_gt C rfl rfl (tgt := 101) dX9_sides_92 dX9_sides_93 (by decide) (fun h2 => ?_) (fun h2 => ?_)
    · replace hf := if_t hf h2
      refine lv_iload C.1 C.2.1 dX9_sides_96 (lv_at hl 0 rfl) ?_
      refine lv_goto C.1 C.2.1 (tgt := 102) dX9_sides_98 (by decide) ?_
      cases hf
      exact hend _ _ _ _ S dX9_sides_102
    · replace hf := if_f hf h2
      refine r_iconst C dX9_sides_101 ?_
      cases hf
      exact hend _ _ _ _ S dX9_sides_102
set_option maxRecDepth 100000 in
set_option maxHeartbeats 4000000 in
theorem ct_X9_sides (l : Launch) (G : Gd) (τ : Sg) {v0 : Int} {v1 : Int} {v2 : Int} {v3 : Int} {v4 : Int} {v5 : Int} {σ : Sg} {q : Int} (hf : f_X9_sides v0 v1 v2 v3 v4 v5 σ = some q) : Ctr l yX9_sides cX9_sides 15 (some .int) (rmk 0 0) G true τ [.int (oI v0), .int (oI v1), .int (oI v2), .int (oI v3), .int (oI v4), .int (oI v5)] σ σ (some (.int (oI q))) := by
  unfold f_X9_sides at hf
  refine CtrI.of (own := RX9) (plainFor_of_name (by decide)) (Nat.le_of_ble_eq_true rfl) rfl (fun p e s m below meth c Q ls C hl S hend => ?_)
  have hl : lv_has ls 15 [(0, .int (oI v0)), (1, .int (oI v1)), (2, .int (oI v2)), (3, .int (oI v3)), (4, .int (oI v4)), (5, .int (oI v5))] := hl
  refine lv_iload_n C.1 C.2.1 dX9_sides_0 rfl (lv_at hl 2 rfl) ?_
  refine r_i2l C dX9_sides_1 ?_
  refine lv_iload_n C.1 C.2.1 dX9_sides_2 rfl (lv_at hl 2 rfl) ?_
  refine lv_iload_n C.1 C.2.1 dX9_sides_3 rfl (lv_at hl 0 rfl) ?_
  refine r_isub C dX9_sides_4 ?_
  refine r_i2l C dX9_sides_5 ?_
  refine r_lmul C dX9_sides_6 ?_
  refine lv_iload_n C.1 C.2.1 dX9_sides_7 rfl (lv_at hl 3 rfl) ?_
  refine r_i2l C dX9_sides_8 ?_
  refine lv_iload_n C.1 C.2.1 dX9_sides_9 rfl (lv_at hl 3 rfl) ?_
  refine lv_iload_n C.1 C.2.1 dX9_sides_10 rfl (lv_at hl 1 rfl) ?_
  refine r_isub C dX9_sides_11 ?_
  refine r_i2l C dX9_sides_12 ?_
  refine r_lmul C dX9_sides_13 ?_
  refine r_ladd C dX9_sides_14 ?_
  refine lv_lstore C.1 C.2.1 dX9_sides_15 hl (by decide) (lv' := [(6, .long (oL (((w32 v2) * (w32 (v2 - v0))) + ((w32 v3) * (w32 (v3 - v1)))))), (0, .int (oI v0)), (1, .int (oI v1)), (2, .int (oI v2)), (3, .int (oI v3)), (4, .int (oI v4)), (5, .int (oI v5))]) rfl (fun ls hl => ?_)
  refine lv_iload_n C.1 C.2.1 dX9_sides_17 rfl (lv_at hl 1 rfl) ?_
  refine r_i2l C dX9_sides_18 ?_
  refine lv_iload_n C.1 C.2.1 dX9_sides_19 rfl (lv_at hl 4 rfl) ?_
  refine r_i2l C dX9_sides_20 ?_
  refine r_lmul C dX9_sides_21 ?_
  refine lv_iload_n C.1 C.2.1 dX9_sides_22 rfl (lv_at hl 2 rfl) ?_
  refine r_i2l C dX9_sides_23 ?_
  refine lv_iload_n C.1 C.2.1 dX9_sides_24 rfl (lv_at hl 3 rfl) ?_
  refine r_i2l C dX9_sides_25 ?_
  refine r_lmul C dX9_sides_26 ?_
  refine r_lsub C dX9_sides_27 ?_
  refine lv_lstore C.1 C.2.1 dX9_sides_28 hl (by decide) (lv' := [(8, .long (oL (((w32 v0) * (w32 v3)) - ((w32 v1) * (w32 v2))))), (6, .long (oL (((w32 v2) * (w32 (v2 - v0))) + ((w32 v3) * (w32 (v3 - v1)))))), (0, .int (oI v0)), (1, .int (oI v1)), (2, .int (oI v2)), (3, .int (oI v3)), (4, .int (oI v4)), (5, .int (oI v5))]) rfl (fun ls hl => ?_)
  refine lv_lload C.1 C.2.1 dX9_sides_30 (lv_at hl 1 rfl) ?_
  refine lv_lload C.1 C.2.1 dX9_sides_32 (lv_at hl 1 rfl) ?_
  refine r_lmul C dX9_sides_34 ?_
  refine lv_iload C.1 C.2.1 dX9_sides_35 (lv_at hl 6 rfl) ?_
  refine r_i2l C dX9_sides_37 ?_
  refine r_lmul C dX9_sides_38 ?_
  refine lv_lstore C.1 C.2.1 dX9_sides_39 hl (by decide) (lv' := [(10, .long (oL (((((w32 v2) * (w32 (v2 - v0))) + ((w32 v3) * (w32 (v3 - v1)))) * (((w32 v2) * (w32 (v2 - v0))) + ((w32 v3) * (w32 (v3 - v1))))) * (w32 v4)))), (8, .long (oL (((w32 v0) * (w32 v3)) - ((w32 v1) * (w32 v2))))), (6, .long (oL (((w32 v2) * (w32 (v2 - v0))) + ((w32 v3) * (w32 (v3 - v1)))))), (0, .int (oI v0)), (1, .int (oI v1)), (2, .int (oI v2)), (3, .int (oI v3)), (4, .int (oI v4)), (5, .int (oI v5))]) rfl (fun ls hl => ?_)
  refine lv_lload C.1 C.2.1 dX9_sides_41 (lv_at hl 1 rfl) ?_
  refine lv_lload C.1 C.2.1 dX9_sides_43 (lv_at hl 1 rfl) ?_
  refine r_lmul C dX9_sides_45 ?_
  refine lv_iload C.1 C.2.1 dX9_sides_46 (lv_at hl 8 rfl) ?_
  refine r_i2l C dX9_sides_48 ?_
  refine r_lmul C dX9_sides_49 ?_
  refine lv_lstore C.1 C.2.1 dX9_sides_50 hl (by decide) (lv' := [(12, .long (oL (((((w32 v0) * (w32 v3)) - ((w32 v1) * (w32 v2))) * (((w32 v0) * (w32 v3)) - ((w32 v1) * (w32 v2)))) * (w32 v5)))), (10, .long (oL (((((w32 v2) * (w32 (v2 - v0))) + ((w32 v3) * (w32 (v3 - v1)))) * (((w32 v2) * (w32 (v2 - v0))) + ((w32 v3) * (w32 (v3 - v1))))) * (w32 v4)))), (8, .long (oL (((w32 v0) * (w32 v3)) - ((w32 v1) * (w32 v2))))), (6, .long (oL (((w32 v2) * (w32 (v2 - v0))) + ((w32 v3) * (w32 (v3 - v1)))))), (0, .int (oI v0)), (1, .int (oI v1)), (2, .int (oI v2)), (3, .int (oI v3)), (4, .int (oI v4)), (5, .int (oI v5))]) rfl (fun ls hl => ?_)
  refine lv_lload C.1 C.2.1 dX9_sides_52 (lv_at hl 2 rfl) ?_
  refine r_lconst C (z := 0) dX9_sides_54 (by decide) ?_
  refine r_lcmp_le C rfl (show w64 0 = 0 by decide) (tgt := 63) dX9_sides_55 dX9_sides_56 (by decide) (fun h4 => ?_) (fun h4 => ?_)
  · replace hf := if_t hf h4
    refine r_iconst C dX9_sides_63 ?_
    exact b_X9_sides_b64 C hend (((w32 v2) * (w32 (v2 - v0))) + ((w32 v3) * (w32 (v3 - v1)))) (((((w32 v2) * (w32 (v2 - v0))) + ((w32 v3) * (w32 (v3 - v1)))) * (((w32 v2) * (w32 (v2 - v0))) + ((w32 v3) * (w32 (v3 - v1))))) * (w32 v4)) (((((w32 v0) * (w32 v3)) - ((w32 v1) * (w32 v2))) * (((w32 v0) * (w32 v3)) - ((w32 v1) * (w32 v2)))) * (w32 v5)) 2 S (lv_sub hl [3, 1, 0] rfl) hf
  · replace hf := if_f hf h4
    refine r_iconst C dX9_sides_59 ?_
    refine lv_goto C.1 C.2.1 (tgt := 64) dX9_sides_60 (by decide) ?_
    exact b_X9_sides_b64 C hend (((w32 v2) * (w32 (v2 - v0))) + ((w32 v3) * (w32 (v3 - v1)))) (((((w32 v2) * (w32 (v2 - v0))) + ((w32 v3) * (w32 (v3 - v1)))) * (((w32 v2) * (w32 (v2 - v0))) + ((w32 v3) * (w32 (v3 - v1))))) * (w32 v4)) (((((w32 v0) * (w32 v3)) - ((w32 v1) * (w32 v2))) * (((w32 v0) * (w32 v3)) - ((w32 v1) * (w32 v2)))) * (w32 v5)) 1 S (lv_sub hl [3, 1, 0] rfl) hf
set_option maxRecDepth 100000 in
set_option maxHeartbeats 4000000 in
theorem ct_X2_sidesAt (l : Launch) (G : Gd) (τ : Sg) {d : Nat} {v1 : Int} {v2 : Int} {v3 : Int} {v4 : Int} {σ : Sg} {q : Int} (hf : f_X2_sidesAt d v1 v2 v3 v4 σ = some q) : Ctr l yX2_sidesAt cX2_sidesAt 9 (some .int) (rmk 1 34) G true τ [.ref (G.1 (27 + d)), .int (oI v1), .int (oI v2), .int (oI v3), .int (oI v4)] σ σ (some (.int (oI q))) := by
  unfold f_X2_sidesAt at hf
  obtain ⟨hd, hf⟩ := ck_o hf
  refine CtrI.of (own := RX2) (plainFor_of_name (by decide)) (Nat.le_of_ble_eq_true rfl) rfl (fun p e s m below meth c Q ls C hl S hend => ?_)
  have hl : lv_has ls 9 [(0, .ref (G.1 (27 + d))), (1, .int (oI v1)), (2, .int (oI v2)), (3, .int (oI v3)), (4, .int (oI v4))] := hl
  refine lv_iload_n C.1 C.2.1 dX2_sidesAt_0 rfl (lv_at hl 1 rfl) ?_
  obtain ⟨q1, hc2, hf⟩ := bd_o hf
  refine r_callSNv C S (As := [.int (oI v1)]) (rest := []) (ct_X9_isNumber l G τ hc2) mi_X9_isNumber (nw_490 S.2.2.2) ms_X9_isNumber ⟨rfl, rfl⟩ ⟨Nat.le_of_ble_eq_true rfl, Nat.le_of_ble_eq_true rfl⟩ ⟨Nat.zero_le _, Nat.zero_le _⟩ rfl hl.1 rfl (Nat.le_of_ble_eq_true rfl) dX2_sidesAt_1 (fun H locs S => ?_)
  refine r_if_eq C rfl (tgt := 14) dX2_sidesAt_4 (by decide) (fun h16 => ?_) (fun h16 => ?_)
  · replace hf := if_t hf h16
    refine r_iconst C dX2_sidesAt_14 ?_
    cases hf
    exact hend _ _ _ _ S dX2_sidesAt_15
  · replace hf := if_f hf h16
    refine lv_iload_n C.1 C.2.1 dX2_sidesAt_7 rfl (lv_at hl 2 rfl) ?_
    obtain ⟨q3, hc4, hf⟩ := bd_o hf
    refine r_callSNv C S (As := [.int (oI v2)]) (rest := []) (ct_X9_isNumber l G τ hc4) mi_X9_isNumber (nw_490 S.2.2.2) ms_X9_isNumber ⟨rfl, rfl⟩ ⟨Nat.le_of_ble_eq_true rfl, Nat.le_of_ble_eq_true rfl⟩ ⟨Nat.zero_le _, Nat.zero_le _⟩ rfl hl.1 rfl (Nat.le_of_ble_eq_true rfl) dX2_sidesAt_8 (fun H locs S => ?_)
    refine r_if_ne C rfl (tgt := 16) dX2_sidesAt_11 (by decide) (fun h15 => ?_) (fun h15 => ?_)
    · replace hf := if_t hf h15
      refine r_iconst C dX2_sidesAt_14 ?_
      cases hf
      exact hend _ _ _ _ S dX2_sidesAt_15
    · replace hf := if_f hf h15
      refine lv_aload_n C.1 C.2.1 dX2_sidesAt_16 rfl (lv_at hl 0 rfl) ?_
      refine g2_book C (d := d) S (by omega) tw_126 dX2_sidesAt_17 ?_
      refine g0_xN C S (nw_92 S.2.2.2) dX2_sidesAt_20 ?_
      refine lv_iload_n C.1 C.2.1 dX2_sidesAt_23 rfl (lv_at hl 2 rfl) ?_
      obtain ⟨hi5, hf⟩ := ck_o hf
      refine a_iald C S ar_7 hi5 dX2_sidesAt_24 ?_
      refine lv_aload_n C.1 C.2.1 dX2_sidesAt_25 rfl (lv_at hl 0 rfl) ?_
      refine g2_book C (d := d) S (by omega) tw_126 dX2_sidesAt_26 ?_
      refine g0_xN C S (nw_92 S.2.2.2) dX2_sidesAt_29 ?_
      refine lv_iload_n C.1 C.2.1 dX2_sidesAt_32 rfl (lv_at hl 1 rfl) ?_
      obtain ⟨hi6, hf⟩ := ck_o hf
      refine a_iald C S ar_7 hi6 dX2_sidesAt_33 ?_
      refine r_isub C dX2_sidesAt_34 ?_
      refine lv_istore C.1 C.2.1 dX2_sidesAt_35 hl (by decide) (lv' := [(5, .int (oI ((σ 7 (v2).toNat) - (σ 7 (v1).toNat)))), (0, .ref (G.1 (27 + d))), (1, .int (oI v1)), (2, .int (oI v2)), (3, .int (oI v3)), (4, .int (oI v4))]) rfl (fun ls hl => ?_)
      refine lv_aload_n C.1 C.2.1 dX2_sidesAt_37 rfl (lv_at hl 1 rfl) ?_
      refine g2_book C (d := d) S (by omega) tw_126 dX2_sidesAt_38 ?_
      refine g0_yN C S (nw_94 S.2.2.2) dX2_sidesAt_41 ?_
      refine lv_iload_n C.1 C.2.1 dX2_sidesAt_44 rfl (lv_at hl 3 rfl) ?_
      obtain ⟨hi7, hf⟩ := ck_o hf
      refine a_iald C S ar_8 hi7 dX2_sidesAt_45 ?_
      refine lv_aload_n C.1 C.2.1 dX2_sidesAt_46 rfl (lv_at hl 1 rfl) ?_
      refine g2_book C (d := d) S (by omega) tw_126 dX2_sidesAt_47 ?_
      refine g0_yN C S (nw_94 S.2.2.2) dX2_sidesAt_50 ?_
      refine lv_iload_n C.1 C.2.1 dX2_sidesAt_53 rfl (lv_at hl 2 rfl) ?_
      obtain ⟨hi8, hf⟩ := ck_o hf
      refine a_iald C S ar_8 hi8 dX2_sidesAt_54 ?_
      refine r_isub C dX2_sidesAt_55 ?_
      refine lv_istore C.1 C.2.1 dX2_sidesAt_56 hl (by decide) (lv' := [(6, .int (oI ((σ 8 (v2).toNat) - (σ 8 (v1).toNat)))), (5, .int (oI ((σ 7 (v2).toNat) - (σ 7 (v1).toNat)))), (0, .ref (G.1 (27 + d))), (1, .int (oI v1)), (2, .int (oI v2)), (3, .int (oI v3)), (4, .int (oI v4))]) rfl (fun ls hl => ?_)
      refine lv_iload C.1 C.2.1 dX2_sidesAt_58 (lv_at hl 1 rfl) ?_
      refine lv_iload C.1 C.2.1 dX2_sidesAt_60 (lv_at hl 1 rfl) ?_
      refine r_imul C dX2_sidesAt_62 ?_
      refine lv_iload C.1 C.2.1 dX2_sidesAt_63 (lv_at hl 0 rfl) ?_
      refine lv_iload C.1 C.2.1 dX2_sidesAt_65 (lv_at hl 0 rfl) ?_
      refine r_imul C dX2_sidesAt_67 ?_
      refine r_iadd C dX2_sidesAt_68 ?_
      refine lv_istore C.1 C.2.1 dX2_sidesAt_69 hl (by decide) (lv' := [(7, .int (oI ((((σ 7 (v2).toNat) - (σ 7 (v1).toNat)) * ((σ 7 (v2).toNat) - (σ 7 (v1).toNat))) + (((σ 8 (v2).toNat) - (σ 8 (v1).toNat)) * ((σ 8 (v2).toNat) - (σ 8 (v1).toNat)))))), (6, .int (oI ((σ 8 (v2).toNat) - (σ 8 (v1).toNat)))), (5, .int (oI ((σ 7 (v2).toNat) - (σ 7 (v1).toNat)))), (0, .ref (G.1 (27 + d))), (1, .int (oI v1)), (2, .int (oI v2)), (3, .int (oI v3)), (4, .int (oI v4))]) rfl (fun ls hl => ?_)
      refine r_iconst C dX2_sidesAt_71 ?_
      refine lv_aload_n C.1 C.2.1 dX2_sidesAt_72 rfl (lv_at hl 3 rfl) ?_
      refine g2_radius C (d := d) S (by omega) tw_128 dX2_sidesAt_73 ?_
      refine r_imul C dX2_sidesAt_76 ?_
      refine lv_aload_n C.1 C.2.1 dX2_sidesAt_77 rfl (lv_at hl 3 rfl) ?_
      refine g2_radius C (d := d) S (by omega) tw_128 dX2_sidesAt_78 ?_
      refine r_imul C dX2_sidesAt_81 ?_
      refine lv_iload C.1 C.2.1 dX2_sidesAt_82 (lv_at hl 0 rfl) ?_
      refine r_isub C dX2_sidesAt_84 ?_
      refine lv_istore C.1 C.2.1 dX2_sidesAt_85 hl (by decide) (lv' := [(8, .int (oI (((4 * (σ (27 + d) 2)) * (σ (27 + d) 2)) - ((((σ 7 (v2).toNat) - (σ 7 (v1).toNat)) * ((σ 7 (v2).toNat) - (σ 7 (v1).toNat))) + (((σ 8 (v2).toNat) - (σ 8 (v1).toNat)) * ((σ 8 (v2).toNat) - (σ 8 (v1).toNat))))))), (7, .int (oI ((((σ 7 (v2).toNat) - (σ 7 (v1).toNat)) * ((σ 7 (v2).toNat) - (σ 7 (v1).toNat))) + (((σ 8 (v2).toNat) - (σ 8 (v1).toNat)) * ((σ 8 (v2).toNat) - (σ 8 (v1).toNat)))))), (6, .int (oI ((σ 8 (v2).toNat) - (σ 8 (v1).toNat)))), (5, .int (oI ((σ 7 (v2).toNat) - (σ 7 (v1).toNat)))), (0, .ref (G.1 (27 + d))), (1, .int (oI v1)), (2, .int (oI v2)), (3, .int (oI v3)), (4, .int (oI v4))]) rfl (fun ls hl => ?_)
      refine lv_iload C.1 C.2.1 dX2_sidesAt_87 (lv_at hl 1 rfl) ?_
      refine r_if_eq C rfl (tgt := 97) dX2_sidesAt_89 (by decide) (fun h14 => ?_) (fun h14 => ?_)
      · replace hf := if_t hf h14
        refine r_iconst C dX2_sidesAt_97 ?_
        cases hf
        exact hend _ _ _ _ S dX2_sidesAt_98
      · replace hf := if_f hf h14
        refine lv_iload C.1 C.2.1 dX2_sidesAt_92 (lv_at hl 0 rfl) ?_
        refine r_if_ge C rfl (tgt := 99) dX2_sidesAt_94 (by decide) (fun h13 => ?_) (fun h13 => ?_)
        · replace hf := if_t hf h13
          refine r_iconst C dX2_sidesAt_97 ?_
          cases hf
          exact hend _ _ _ _ S dX2_sidesAt_98
        · replace hf := if_f hf h13
          refine lv_iload C.1 C.2.1 dX2_sidesAt_99 (lv_at hl 3 rfl) ?_
          refine lv_iload C.1 C.2.1 dX2_sidesAt_101 (lv_at hl 2 rfl) ?_
          refine lv_iload_n C.1 C.2.1 dX2_sidesAt_103 rfl (lv_at hl 7 rfl) ?_
          refine lv_aload_n C.1 C.2.1 dX2_sidesAt_104 rfl (lv_at hl 4 rfl) ?_
          refine g2_book C (d := d) S (by omega) tw_126 dX2_sidesAt_105 ?_
          refine g0_xN C S (nw_92 S.2.2.2) dX2_sidesAt_108 ?_
          refine lv_iload_n C.1 C.2.1 dX2_sidesAt_111 rfl (lv_at hl 5 rfl) ?_
          obtain ⟨hi9, hf⟩ := ck_o hf
          refine a_iald C S ar_7 hi9 dX2_sidesAt_112 ?_
          refine r_isub C dX2_sidesAt_113 ?_
          refine lv_iload C.1 C.2.1 dX2_sidesAt_114 (lv_at hl 8 rfl) ?_
          refine lv_aload_n C.1 C.2.1 dX2_sidesAt_116 rfl (lv_at hl 4 rfl) ?_
          refine g2_book C (d := d) S (by omega) tw_126 dX2_sidesAt_117 ?_
          refine g0_yN C S (nw_94 S.2.2.2) dX2_sidesAt_120 ?_
          refine lv_iload_n C.1 C.2.1 dX2_sidesAt_123 rfl (lv_at hl 5 rfl) ?_
          obtain ⟨hi10, hf⟩ := ck_o hf
          refine a_iald C S ar_8 hi10 dX2_sidesAt_124 ?_
          refine r_isub C dX2_sidesAt_125 ?_
          refine lv_iload C.1 C.2.1 dX2_sidesAt_126 (lv_at hl 1 rfl) ?_
          refine lv_iload C.1 C.2.1 dX2_sidesAt_128 (lv_at hl 0 rfl) ?_
          obtain ⟨q11, hc12, hf⟩ := bd_o hf
          refine r_callSNv C S (As := [.int (oI ((σ 7 (v2).toNat) - (σ 7 (v1).toNat))), .int (oI ((σ 8 (v2).toNat) - (σ 8 (v1).toNat))), .int (oI (v3 - (σ 7 (v1).toNat))), .int (oI (v4 - (σ 8 (v1).toNat))), .int (oI ((((σ 7 (v2).toNat) - (σ 7 (v1).toNat)) * ((σ 7 (v2).toNat) - (σ 7 (v1).toNat))) + (((σ 8 (v2).toNat) - (σ 8 (v1).toNat)) * ((σ 8 (v2).toNat) - (σ 8 (v1).toNat))))), .int (oI (((4 * (σ (27 + d) 2)) * (σ (27 + d) 2)) - ((((σ 7 (v2).toNat) - (σ 7 (v1).toNat)) * ((σ 7 (v2).toNat) - (σ 7 (v1).toNat))) + (((σ 8 (v2).toNat) - (σ 8 (v1).toNat)) * ((σ 8 (v2).toNat) - (σ 8 (v1).toNat))))))]) (rest := []) (ct_X9_sides l G τ hc12) mi_X9_sides (nw_503 S.2.2.2) ms_X9_sides ⟨rfl, rfl⟩ ⟨Nat.le_of_ble_eq_true rfl, Nat.le_of_ble_eq_true rfl⟩ ⟨Nat.zero_le _, Nat.zero_le _⟩ rfl hl.1 rfl (Nat.le_of_ble_eq_true rfl) dX2_sidesAt_130 (fun H locs S => ?_)
          cases hf
          exact hend _ _ _ _ S dX2_sidesAt_133
set_option maxRecDepth 100000 in
set_option maxHeartbeats 4000000 in
theorem b_X2_extend_b141 (C : Cx p s m args c RX2 cX2_extend 6) {d : Nat} (hd : d < 7) {q : Sg} {k10 : Int → Int → Int → Sg → Option (Sg)} {k21 : Int → Int → Int → Int → Sg → Option (Sg)} (hend : EndR p l e (rmk 2 62) s m args below meth c Q G true τ cX2_extend .return_ [] q) (hk10 : ∀ {H : Heap} {locs : List Loc} {ls : Array Slot} {σ : Sg} (v1 : Int) (v2 : Int) (v3 : Int), St G true τ σ s H locs → lv_has ls 6 [(0, .ref (G.1 (27 + d))), (1, .int (oI v1)), (2, .int (oI v2)), (3, .int (oI v3))] → k10 v1 v2 v3 σ = some q → W p l e (rmk 2 62) s m args below meth c H locs 0 0 Q (F0 m 10 ls [])) (hk21 : ∀ {H : Heap} {locs : List Loc} {ls : Array Slot} {σ : Sg} (v1 : Int) (v2 : Int) (v3 : Int) (v4 : Int), St G true τ σ s H locs → lv_has ls 6 [(0, .ref (G.1 (27 + d))), (1, .int (oI v1)), (2, .int (oI v2)), (3, .int (oI v3)), (4, .int (oI v4))] → k21 v1 v2 v3 v4 σ = some q → W p l e (rmk 2 62) s m args below meth c H locs 0 0 Q (F0 m 21 ls [])) {H : Heap} {locs : List Loc} {ls : Array Slot} {σ : Sg} (v1 : Int) (v2 : Int) (v3 : Int) (v4 : Int) (S : St G true τ σ s H locs) (hl : lv_has ls 6 [(0, .ref (G.1 (27 + d))), (1, .int (oI v1)), (2, .int (oI v2)), (3, .int (oI v3)), (4, .int (oI v4))]) (hf : f_X2_extend_b141 d k10 k21 v1 v2 v3 v4 σ = some q) : W p l e (rmk 2 62) s m args below meth c H locs 0 0 Q (F0 m 141 ls []) := by
  unfold f_X2_extend_b141 at hf
  refine r_iinc C dX2_extend_141 hl (k := 4) rfl (by decide) (lv' := [(4, .int (oI (v4 + 1))), (0, .ref (G.1 (27 + d))), (1, .int (oI v1)), (2, .int (oI v2)), (3, .int (oI v3))]) rfl (fun ls hl => ?_)
  refine lv_goto C.1 C.2.1 (tgt := 21) dX2_extend_144 (by decide) ?_
  exact hk21 v1 v2 v3 (v4 + 1) S (lv_sub hl [1, 2, 3, 4, 0] rfl) hf
set_option maxRecDepth 100000 in
set_option maxHeartbeats 4000000 in
theorem b_X2_extend_b139 (C : Cx p s m args c RX2 cX2_extend 6) {d : Nat} (hd : d < 7) {q : Sg} {k10 : Int → Int → Int → Sg → Option (Sg)} {k21 : Int → Int → Int → Int → Sg → Option (Sg)} (hend : EndR p l e (rmk 2 62) s m args below meth c Q G true τ cX2_extend .return_ [] q) (hk10 : ∀ {H : Heap} {locs : List Loc} {ls : Array Slot} {σ : Sg} (v1 : Int) (v2 : Int) (v3 : Int), St G true τ σ s H locs → lv_has ls 6 [(0, .ref (G.1 (27 + d))), (1, .int (oI v1)), (2, .int (oI v2)), (3, .int (oI v3))] → k10 v1 v2 v3 σ = some q → W p l e (rmk 2 62) s m args below meth c H locs 0 0 Q (F0 m 10 ls [])) (hk21 : ∀ {H : Heap} {locs : List Loc} {ls : Array Slot} {σ : Sg} (v1 : Int) (v2 : Int) (v3 : Int) (v4 : Int), St G true τ σ s H locs → lv_has ls 6 [(0, .ref (G.1 (27 + d))), (1, .int (oI v1)), (2, .int (oI v2)), (3, .int (oI v3)), (4, .int (oI v4))] → k21 v1 v2 v3 v4 σ = some q → W p l e (rmk 2 62) s m args below meth c H locs 0 0 Q (F0 m 21 ls [])) {H : Heap} {locs : List Loc} {ls : Array Slot} {σ : Sg} (v1 : Int) (v2 : Int) (v3 : Int) (v4 : Int) (w0 : Int) (w1 : Int) (w2 : Int) (S : St G true τ σ s H locs) (hl : lv_has ls 6 [(0, .ref (G.1 (27 + d))), (1, .int (oI v1)), (2, .int (oI v2)), (3, .int (oI v3)), (4, .int (oI v4))]) (hf : f_X2_extend_b139 d k10 k21 v1 v2 v3 v4 w0 w1 w2 σ = some q) : W p l e (rmk 2 62) s m args below meth c H locs 0 0 Q (F0 m 139 ls [.int (oI w0), .int (oI w1), .int (oI w2), .ref (G.1 (34 + d))]) := by
  unfold f_X2_extend_b139 at hf
  refine r_ior C rfl rfl dX2_extend_139 ?_
  obtain ⟨hi15, hf⟩ := ck_o hf
  refine a_iast C S (ar_34 (d := d) (by omega)) hi15 dX2_extend_140 (fun H locs S => ?_)
  obtain ⟨σ16, S, hf⟩ := wr_s S hf
  exact b_X2_extend_b141 C hd hend hk10 hk21 v1 v2 v3 v4 S (lv_sub hl [0, 1, 2, 3, 4] rfl) hf
set_option maxRecDepth 100000 in
set_option maxHeartbeats 4000000 in
theorem b_X2_extend_b110 (C : Cx p s m args c RX2 cX2_extend 6) {d : Nat} (hd : d < 7) {q : Sg} {k10 : Int → Int → Int → Sg → Option (Sg)} {k21 : Int → Int → Int → Int → Sg → Option (Sg)} (hend : EndR p l e (rmk 2 62) s m args below meth c Q G true τ cX2_extend .return_ [] q) (hk10 : ∀ {H : Heap} {locs : List Loc} {ls : Array Slot} {σ : Sg} (v1 : Int) (v2 : Int) (v3 : Int), St G true τ σ s H locs → lv_has ls 6 [(0, .ref (G.1 (27 + d))), (1, .int (oI v1)), (2, .int (oI v2)), (3, .int (oI v3))] → k10 v1 v2 v3 σ = some q → W p l e (rmk 2 62) s m args below meth c H locs 0 0 Q (F0 m 10 ls [])) (hk21 : ∀ {H : Heap} {locs : List Loc} {ls : Array Slot} {σ : Sg} (v1 : Int) (v2 : Int) (v3 : Int) (v4 : Int), St G true τ σ s H locs → lv_has ls 6 [(0, .ref (G.1 (27 + d))), (1, .int (oI v1)), (2, .int (oI v2)), (3, .int (oI v3)), (4, .int (oI v4))] → k21 v1 v2 v3 v4 σ = some q → W p l e (rmk 2 62) s m args below meth c H locs 0 0 Q (F0 m 21 ls [])) {H : Heap} {locs : List Loc} {ls : Array Slot} {σ : Sg} (v1 : Int) (v2 : Int) (v3 : Int) (v4 : Int) (v5 : Int) (w0 : Int) (w1 : Int) (w2 : Int) (S : St G true τ σ s H locs) (hl : lv_has ls 6 [(0, .ref (G.1 (27 + d))), (1, .int (oI v1)), (2, .int (oI v2)), (3, .int (oI v3)), (4, .int (oI v4)), (5, .int (oI v5))]) (hf : f_X2_extend_b110 d k10 k21 v1 v2 v3 v4 v5 w0 w1 w2 σ = some q) : W p l e (rmk 2 62) s m args below meth c H locs 0 0 Q (F0 m 110 ls [.int (oI w0), .int (oI w1), .int (oI w2), .ref (G.1 (34 + d))]) := by
  unfold f_X2_extend_b110 at hf
  refine r_ior C rfl rfl dX2_extend_110 ?_
  obtain ⟨hi12, hf⟩ := ck_o hf
  refine a_iast C S (ar_34 (d := d) (by omega)) hi12 dX2_extend_111 (fun H locs S => ?_)
  obtain ⟨σ13, S, hf⟩ := wr_s S hf
  refine lv_aload_n C.1 C.2.1 dX2_extend_112 rfl (lv_at hl 0 rfl) ?_
  refine g2_sets C (d := d) S (by omega) tw_127 dX2_extend_113 ?_
  refine lv_iload C.1 C.2.1 dX2_extend_116 (lv_at hl 4 rfl) ?_
  refine r_bipush C dX2_extend_118 (by decide) ?_
  refine r_imul C dX2_extend_120 ?_
  refine lv_iload_n C.1 C.2.1 dX2_extend_121 rfl (lv_at hl 3 rfl) ?_
  refine r_iadd C dX2_extend_122 ?_
  refine lv_dup2_11 C.1 C.2.1 dX2_extend_123 rfl rfl ?_
  obtain ⟨hi14, hf⟩ := ck_o hf
  refine a_iald C S (ar_34 (d := d) (by omega)) hi14 dX2_extend_124 ?_
  refine lv_iload C.1 C.2.1 dX2_extend_125 (lv_at hl 5 rfl) ?_
  refine r_iconst C dX2_extend_127 ?_
  refine r_iand C rfl (show u32 2 = 2 by decide) dX2_extend_128 ?_
  refine r_if_eq C rfl (tgt := 138) dX2_extend_129 (by decide) (fun h17 => ?_) (fun h17 => ?_)
  · replace hf := if_t hf h17
    refine r_iconst C dX2_extend_138 ?_
    exact b_X2_extend_b139 C hd hend hk10 hk21 v1 v2 v3 v4 0 (σ13 (34 + d) ((v4 * 24) + v3).toNat) ((v4 * 24) + v3) S (lv_sub hl [0, 1, 2, 3, 4] rfl) hf
  · replace hf := if_f hf h17
    refine r_iconst C dX2_extend_132 ?_
    refine lv_iload_n C.1 C.2.1 dX2_extend_133 rfl (lv_at hl 1 rfl) ?_
    refine r_ishl C (y1 := (u32 v1 % 32)) rfl dX2_extend_134 ?_
    refine lv_goto C.1 C.2.1 (tgt := 139) dX2_extend_135 (by decide) ?_
    exact b_X2_extend_b139 C hd hend hk10 hk21 v1 v2 v3 v4 (1 * ((2 ^ (u32 v1 % 32) : Nat) : Int)) (σ13 (34 + d) ((v4 * 24) + v3).toNat) ((v4 * 24) + v3) S (lv_sub hl [0, 1, 2, 3, 4] rfl) hf
set_option maxRecDepth 100000 in
set_option maxHeartbeats 4000000 in
theorem b_X2_extend_b147 (C : Cx p s m args c RX2 cX2_extend 6) {d : Nat} (hd : d < 7) {q : Sg} {k10 : Int → Int → Int → Sg → Option (Sg)} (hend : EndR p l e (rmk 2 62) s m args below meth c Q G true τ cX2_extend .return_ [] q) (hk10 : ∀ {H : Heap} {locs : List Loc} {ls : Array Slot} {σ : Sg} (v1 : Int) (v2 : Int) (v3 : Int), St G true τ σ s H locs → lv_has ls 6 [(0, .ref (G.1 (27 + d))), (1, .int (oI v1)), (2, .int (oI v2)), (3, .int (oI v3))] → k10 v1 v2 v3 σ = some q → W p l e (rmk 2 62) s m args below meth c H locs 0 0 Q (F0 m 10 ls [])) {H : Heap} {locs : List Loc} {ls : Array Slot} {σ : Sg} (v1 : Int) (v2 : Int) (v3 : Int) (S : St G true τ σ s H locs) (hl : lv_has ls 6 [(0, .ref (G.1 (27 + d))), (1, .int (oI v1)), (2, .int (oI v2)), (3, .int (oI v3))]) (hf : f_X2_extend_b147 d k10 v1 v2 v3 σ = some q) : W p l e (rmk 2 62) s m args below meth c H locs 0 0 Q (F0 m 147 ls []) := by
  unfold f_X2_extend_b147 at hf
  refine r_iinc C dX2_extend_147 hl (k := 3) rfl (by decide) (lv' := [(3, .int (oI (v3 + 1))), (0, .ref (G.1 (27 + d))), (1, .int (oI v1)), (2, .int (oI v2))]) rfl (fun ls hl => ?_)
  refine lv_goto C.1 C.2.1 (tgt := 10) dX2_extend_150 (by decide) ?_
  exact hk10 v1 v2 (v3 + 1) S (lv_sub hl [1, 2, 3, 0] rfl) hf
set_option maxRecDepth 100000 in
set_option maxHeartbeats 4000000 in
theorem b_X2_extend_b21 (C : Cx p s m args c RX2 cX2_extend 6) {d : Nat} (hd : d < 7) {q : Sg} {k10 : Int → Int → Int → Sg → Option (Sg)} (hend : EndR p l e (rmk 2 62) s m args below meth c Q G true τ cX2_extend .return_ [] q) (hk10 : ∀ {H : Heap} {locs : List Loc} {ls : Array Slot} {σ : Sg} (v1 : Int) (v2 : Int) (v3 : Int), St G true τ σ s H locs → lv_has ls 6 [(0, .ref (G.1 (27 + d))), (1, .int (oI v1)), (2, .int (oI v2)), (3, .int (oI v3))] → k10 v1 v2 v3 σ = some q → W p l e (rmk 2 62) s m args below meth c H locs 0 0 Q (F0 m 10 ls [])) : ∀ (n : Nat) {H : Heap} {locs : List Loc} {ls : Array Slot} {σ : Sg} (v1 : Int) (v2 : Int) (v3 : Int) (v4 : Int) (S : St G true τ σ s H locs) (hl : lv_has ls 6 [(0, .ref (G.1 (27 + d))), (1, .int (oI v1)), (2, .int (oI v2)), (3, .int (oI v3)), (4, .int (oI v4))]) (hf : f_X2_extend_b21 d k10 n v1 v2 v3 v4 σ = some q), W p l e (rmk 2 62) s m args below meth c H locs 0 0 Q (F0 m 21 ls []) := by
  intro n
  induction n with
  | zero => intro H locs ls σ v1 v2 v3 v4 S hl hf; cases hf
  | succ n ih =>
    intro H locs ls σ v1 v2 v3 v4 S hl hf
    have hk21 := @ih
    rw [f_X2_extend_b21] at hf
    refine lv_iload C.1 C.2.1 dX2_extend_21 (lv_at hl 4 rfl) ?_
    refine r_bipush C dX2_extend_23 (by decide) ?_
    refine r_icmp_ge C rfl (show w32 24 = 24 by decide) (tgt := 147) dX2_extend_25 (by decide) (fun h23 => ?_) (fun h23 => ?_)
    · replace hf := if_t hf h23
      refine lv_iload_n C.1 C.2.1 dX2_extend_28 rfl (lv_at hl 2 rfl) ?_
      refine lv_iload_n C.1 C.2.1 dX2_extend_29 rfl (lv_at hl 3 rfl) ?_
      obtain ⟨q3, hc4, hf⟩ := bd_o hf
      refine r_callSNv C S (As := [.int (oI v2), .int (oI v3)]) (rest := []) (ct_X9_contains l G τ hc4) mi_X9_contains (nw_485 S.2.2.2) ms_X9_contains ⟨rfl, rfl⟩ ⟨Nat.le_of_ble_eq_true rfl, Nat.le_of_ble_eq_true rfl⟩ ⟨Nat.zero_le _, Nat.zero_le _⟩ rfl hl.1 rfl (Nat.le_of_ble_eq_true rfl) dX2_extend_30 (fun H locs S => ?_)
      refine r_if_eq C rfl (tgt := 141) dX2_extend_33 (by decide) (fun h22 => ?_) (fun h22 => ?_)
      · replace hf := if_t hf h22
        exact b_X2_extend_b141 C hd hend hk10 hk21 v1 v2 v3 v4 S (lv_sub hl [0, 1, 2, 3, 4] rfl) hf
      · replace hf := if_f hf h22
        refine lv_iload_n C.1 C.2.1 dX2_extend_36 rfl (lv_at hl 2 rfl) ?_
        refine lv_iload C.1 C.2.1 dX2_extend_37 (lv_at hl 4 rfl) ?_
        obtain ⟨q5, hc6, hf⟩ := bd_o hf
        refine r_callSNv C S (As := [.int (oI v2), .int (oI v4)]) (rest := []) (ct_X9_contains l G τ hc6) mi_X9_contains (nw_485 S.2.2.2) ms_X9_contains ⟨rfl, rfl⟩ ⟨Nat.le_of_ble_eq_true rfl, Nat.le_of_ble_eq_true rfl⟩ ⟨Nat.zero_le _, Nat.zero_le _⟩ rfl hl.1 rfl (Nat.le_of_ble_eq_true rfl) dX2_extend_39 (fun H locs S => ?_)
        refine r_if_eq C rfl (tgt := 141) dX2_extend_42 (by decide) (fun h21 => ?_) (fun h21 => ?_)
        · replace hf := if_t hf h21
          exact b_X2_extend_b141 C hd hend hk10 hk21 v1 v2 v3 v4 S (lv_sub hl [0, 1, 2, 3, 4] rfl) hf
        · replace hf := if_f hf h21
          refine lv_iload_n C.1 C.2.1 dX2_extend_45 rfl (lv_at hl 3 rfl) ?_
          refine lv_iload_n C.1 C.2.1 dX2_extend_46 rfl (lv_at hl 1 rfl) ?_
          refine r_icmp_eq C rfl rfl (tgt := 141) dX2_extend_47 (by decide) (fun h20 => ?_) (fun h20 => ?_)
          · replace hf := if_t hf h20
            exact b_X2_extend_b141 C hd hend hk10 hk21 v1 v2 v3 v4 S (lv_sub hl [0, 1, 2, 3, 4] rfl) hf
          · replace hf := if_f hf h20
            refine lv_iload C.1 C.2.1 dX2_extend_50 (lv_at hl 4 rfl) ?_
            refine lv_iload_n C.1 C.2.1 dX2_extend_52 rfl (lv_at hl 1 rfl) ?_
            refine r_icmp_eq C rfl rfl (tgt := 141) dX2_extend_53 (by decide) (fun h19 => ?_) (fun h19 => ?_)
            · replace hf := if_t hf h19
              exact b_X2_extend_b141 C hd hend hk10 hk21 v1 v2 v3 v4 S (lv_sub hl [0, 1, 2, 3, 4] rfl) hf
            · replace hf := if_f hf h19
              refine lv_aload_n C.1 C.2.1 dX2_extend_56 rfl (lv_at hl 0 rfl) ?_
              refine lv_iload_n C.1 C.2.1 dX2_extend_57 rfl (lv_at hl 3 rfl) ?_
              refine lv_iload C.1 C.2.1 dX2_extend_58 (lv_at hl 4 rfl) ?_
              refine lv_aload_n C.1 C.2.1 dX2_extend_60 rfl (lv_at hl 0 rfl) ?_
              refine g2_book C (d := d) S (by omega) tw_126 dX2_extend_61 ?_
              refine g0_xN C S (nw_92 S.2.2.2) dX2_extend_64 ?_
              refine lv_iload_n C.1 C.2.1 dX2_extend_67 rfl (lv_at hl 1 rfl) ?_
              obtain ⟨hi7, hf⟩ := ck_o hf
              refine a_iald C S ar_7 hi7 dX2_extend_68 ?_
              refine lv_aload_n C.1 C.2.1 dX2_extend_69 rfl (lv_at hl 0 rfl) ?_
              refine g2_book C (d := d) S (by omega) tw_126 dX2_extend_70 ?_
              refine g0_yN C S (nw_94 S.2.2.2) dX2_extend_73 ?_
              refine lv_iload_n C.1 C.2.1 dX2_extend_76 rfl (lv_at hl 1 rfl) ?_
              obtain ⟨hi8, hf⟩ := ck_o hf
              refine a_iald C S ar_8 hi8 dX2_extend_77 ?_
              obtain ⟨q9, hc10, hf⟩ := bd_o hf
              refine r_callVv C S (As := [.int (oI v3), .int (oI v4), .int (oI (σ 7 (v1).toNat)), .int (oI (σ 8 (v1).toNat))]) (rest := []) (ct_X2_sidesAt l G τ hc10) mi_X2_sidesAt tw_499 mv_X2_sidesAt (rvX2 S (d := d) (by omega)) ⟨rfl, rfl⟩ ⟨Nat.le_of_ble_eq_true rfl, Nat.le_of_ble_eq_true rfl⟩ ⟨Nat.zero_le _, Nat.zero_le _⟩ rfl hl.1 rfl (Nat.le_of_ble_eq_true rfl) dX2_extend_78 (fun H locs S => ?_)
              refine lv_istore C.1 C.2.1 dX2_extend_81 hl (by decide) (lv' := [(5, .int (oI q9)), (0, .ref (G.1 (27 + d))), (1, .int (oI v1)), (2, .int (oI v2)), (3, .int (oI v3)), (4, .int (oI v4))]) rfl (fun ls hl => ?_)
              refine lv_aload_n C.1 C.2.1 dX2_extend_83 rfl (lv_at hl 1 rfl) ?_
              refine g2_sets C (d := d) S (by omega) tw_127 dX2_extend_84 ?_
              refine lv_iload_n C.1 C.2.1 dX2_extend_87 rfl (lv_at hl 4 rfl) ?_
              refine r_bipush C dX2_extend_88 (by decide) ?_
              refine r_imul C dX2_extend_90 ?_
              refine lv_iload C.1 C.2.1 dX2_extend_91 (lv_at hl 5 rfl) ?_
              refine r_iadd C dX2_extend_93 ?_
              refine lv_dup2_11 C.1 C.2.1 dX2_extend_94 rfl rfl ?_
              obtain ⟨hi11, hf⟩ := ck_o hf
              refine a_iald C S (ar_34 (d := d) (by omega)) hi11 dX2_extend_95 ?_
              refine lv_iload C.1 C.2.1 dX2_extend_96 (lv_at hl 0 rfl) ?_
              refine r_iconst C dX2_extend_98 ?_
              refine r_iand C rfl (show u32 1 = 1 by decide) dX2_extend_99 ?_
              refine r_if_eq C rfl (tgt := 109) dX2_extend_100 (by decide) (fun h18 => ?_) (fun h18 => ?_)
              · replace hf := if_t hf h18
                refine r_iconst C dX2_extend_109 ?_
                exact b_X2_extend_b110 C hd hend hk10 hk21 v1 v2 v3 v4 q9 0 (σ (34 + d) ((v3 * 24) + v4).toNat) ((v3 * 24) + v4) S (lv_sub hl [1, 2, 3, 4, 5, 0] rfl) hf
              · replace hf := if_f hf h18
                refine r_iconst C dX2_extend_103 ?_
                refine lv_iload_n C.1 C.2.1 dX2_extend_104 rfl (lv_at hl 2 rfl) ?_
                refine r_ishl C (y1 := (u32 v1 % 32)) rfl dX2_extend_105 ?_
                refine lv_goto C.1 C.2.1 (tgt := 110) dX2_extend_106 (by decide) ?_
                exact b_X2_extend_b110 C hd hend hk10 hk21 v1 v2 v3 v4 q9 (1 * ((2 ^ (u32 v1 % 32) : Nat) : Int)) (σ (34 + d) ((v3 * 24) + v4).toNat) ((v3 * 24) + v4) S (lv_sub hl [1, 2, 3, 4, 5, 0] rfl) hf
    · replace hf := if_f hf h23
      exact b_X2_extend_b147 C hd hend hk10 v1 v2 v3 S (lv_sub hl [0, 1, 2, 3] rfl) hf
set_option maxRecDepth 100000 in
set_option maxHeartbeats 4000000 in
theorem b_X2_extend_b10 (C : Cx p s m args c RX2 cX2_extend 6) {d : Nat} (hd : d < 7) {q : Sg} (hend : EndR p l e (rmk 2 62) s m args below meth c Q G true τ cX2_extend .return_ [] q) : ∀ (n : Nat) {H : Heap} {locs : List Loc} {ls : Array Slot} {σ : Sg} (v1 : Int) (v2 : Int) (v3 : Int) (S : St G true τ σ s H locs) (hl : lv_has ls 6 [(0, .ref (G.1 (27 + d))), (1, .int (oI v1)), (2, .int (oI v2)), (3, .int (oI v3))]) (hf : f_X2_extend_b10 d n v1 v2 v3 σ = some q), W p l e (rmk 2 62) s m args below meth c H locs 0 0 Q (F0 m 10 ls []) := by
  intro n
  induction n with
  | zero => intro H locs ls σ v1 v2 v3 S hl hf; cases hf
  | succ n ih =>
    intro H locs ls σ v1 v2 v3 S hl hf
    have hk10 := @ih
    rw [f_X2_extend_b10] at hf
    refine lv_iload_n C.1 C.2.1 dX2_extend_10 rfl (lv_at hl 3 rfl) ?_
    refine r_bipush C dX2_extend_11 (by decide) ?_
    refine r_icmp_ge C rfl (show w32 24 = 24 by decide) (tgt := 153) dX2_extend_13 (by decide) (fun h24 => ?_) (fun h24 => ?_)
    · replace hf := if_t hf h24
      refine lv_iload_n C.1 C.2.1 dX2_extend_16 rfl (lv_at hl 3 rfl) ?_
      refine r_iconst C dX2_extend_17 ?_
      refine r_iadd C dX2_extend_18 ?_
      refine lv_istore C.1 C.2.1 dX2_extend_19 hl (by decide) (lv' := [(4, .int (oI (v3 + 1))), (0, .ref (G.1 (27 + d))), (1, .int (oI v1)), (2, .int (oI v2)), (3, .int (oI v3))]) rfl (fun ls hl => ?_)
      exact b_X2_extend_b21 C hd hend hk10 FUEL v1 v2 v3 (v3 + 1) S (lv_sub hl [1, 2, 3, 4, 0] rfl) hf
    · replace hf := if_f hf h24
      cases hf
      exact hend _ _ _ _ S dX2_extend_153
set_option maxRecDepth 100000 in
set_option maxHeartbeats 4000000 in
theorem ct_X2_extend (l : Launch) (G : Gd) (τ : Sg) {d : Nat} {v1 : Int} {v2 : Int} {σ : Sg} {q : Sg} (hf : f_X2_extend d v1 v2 σ = some q) : Ctr l yX2_extend cX2_extend 6 none (rmk 2 62) G true τ [.ref (G.1 (27 + d)), .int (oI v1), .int (oI v2)] σ q none := by
  unfold f_X2_extend at hf
  obtain ⟨hd, hf⟩ := ck_o hf
  refine CtrV.of (own := RX2) (plainFor_of_name (by decide)) (Nat.le_of_ble_eq_true rfl) rfl (fun p e s m below meth c Q ls C hl S hend => ?_)
  have hl : lv_has ls 6 [(0, .ref (G.1 (27 + d))), (1, .int (oI v1)), (2, .int (oI v2))] := hl
  refine lv_iload_n C.1 C.2.1 dX2_extend_0 rfl (lv_at hl 1 rfl) ?_
  obtain ⟨q1, hc2, hf⟩ := bd_o hf
  refine r_callSNv C S (As := [.int (oI v1)]) (rest := []) (ct_X9_isNumber l G τ hc2) mi_X9_isNumber (nw_490 S.2.2.2) ms_X9_isNumber ⟨rfl, rfl⟩ ⟨Nat.le_of_ble_eq_true rfl, Nat.le_of_ble_eq_true rfl⟩ ⟨Nat.zero_le _, Nat.zero_le _⟩ rfl hl.1 rfl (Nat.le_of_ble_eq_true rfl) dX2_extend_1 (fun H locs S => ?_)
  refine r_if_ne C rfl (tgt := 8) dX2_extend_4 (by decide) (fun h25 => ?_) (fun h25 => ?_)
  · replace hf := if_t hf h25
    cases hf
    exact hend _ _ _ _ S dX2_extend_7
  · replace hf := if_f hf h25
    refine r_iconst C dX2_extend_8 ?_
    refine lv_istore_n C.1 C.2.1 dX2_extend_9 rfl hl (by decide) (lv' := [(3, .int (oI 0)), (0, .ref (G.1 (27 + d))), (1, .int (oI v1)), (2, .int (oI v2))]) rfl (fun ls hl => ?_)
    exact b_X2_extend_b10 C hd hend FUEL v1 v2 0 S (lv_sub hl [1, 2, 3, 0] rfl) hf
set_option maxRecDepth 100000 in
set_option maxHeartbeats 4000000 in
theorem b_X2_holdBoth_b188 (C : Cx p s m args c RX2 cX2_holdBoth 11) {d : Nat} (hd : d < 7) {q : Sg} {k76 : Int → Int → Int → Int → Int → Int → Int → Int → Sg → Option (Sg)} (hend : EndR p l e (rmk 1 34) s m args below meth c Q G true τ cX2_holdBoth .return_ [] q) (hk76 : ∀ {H : Heap} {locs : List Loc} {ls : Array Slot} {σ : Sg} (v1 : Int) (v2 : Int) (v4 : Int) (v5 : Int) (v6 : Int) (v7 : Int) (v8 : Int) (v9 : Int), St G true τ σ s H locs → lv_has ls 11 [(0, .ref (G.1 (27 + d))), (1, .int (oI v1)), (2, .int (oI v2)), (4, .int (oI v4)), (5, .int (oI v5)), (6, .int (oI v6)), (7, .int (oI v7)), (8, .int (oI v8)), (9, .int (oI v9))] → k76 v1 v2 v4 v5 v6 v7 v8 v9 σ = some q → W p l e (rmk 1 34) s m args below meth c H locs 0 0 Q (F0 m 76 ls [])) {H : Heap} {locs : List Loc} {ls : Array Slot} {σ : Sg} (v1 : Int) (v2 : Int) (v4 : Int) (v5 : Int) (v6 : Int) (v7 : Int) (v8 : Int) (v9 : Int) (S : St G true τ σ s H locs) (hl : lv_has ls 11 [(0, .ref (G.1 (27 + d))), (1, .int (oI v1)), (2, .int (oI v2)), (4, .int (oI v4)), (5, .int (oI v5)), (6, .int (oI v6)), (7, .int (oI v7)), (8, .int (oI v8)), (9, .int (oI v9))]) (hf : f_X2_holdBoth_b188 d k76 v1 v2 v4 v5 v6 v7 v8 v9 σ = some q) : W p l e (rmk 1 34) s m args below meth c H locs 0 0 Q (F0 m 188 ls []) := by
  unfold f_X2_holdBoth_b188 at hf
  refine r_iinc C dX2_holdBoth_188 hl (k := 8) rfl (by decide) (lv' := [(9, .int (oI (v9 + 1))), (0, .ref (G.1 (27 + d))), (1, .int (oI v1)), (2, .int (oI v2)), (4, .int (oI v4)), (5, .int (oI v5)), (6, .int (oI v6)), (7, .int (oI v7)), (8, .int (oI v8))]) rfl (fun ls hl => ?_)
  refine lv_goto C.1 C.2.1 (tgt := 76) dX2_holdBoth_191 (by decide) ?_
  exact hk76 v1 v2 v4 v5 v6 v7 v8 (v9 + 1) S (lv_sub hl [1, 2, 3, 4, 5, 6, 7, 8, 0] rfl) hf
set_option maxRecDepth 100000 in
set_option maxHeartbeats 4000000 in
theorem b_X2_holdBoth_b184 (C : Cx p s m args c RX2 cX2_holdBoth 11) {d : Nat} (hd : d < 7) {q : Sg} {k76 : Int → Int → Int → Int → Int → Int → Int → Int → Sg → Option (Sg)} (hend : EndR p l e (rmk 1 34) s m args below meth c Q G true τ cX2_holdBoth .return_ [] q) (hk76 : ∀ {H : Heap} {locs : List Loc} {ls : Array Slot} {σ : Sg} (v1 : Int) (v2 : Int) (v4 : Int) (v5 : Int) (v6 : Int) (v7 : Int) (v8 : Int) (v9 : Int), St G true τ σ s H locs → lv_has ls 11 [(0, .ref (G.1 (27 + d))), (1, .int (oI v1)), (2, .int (oI v2)), (4, .int (oI v4)), (5, .int (oI v5)), (6, .int (oI v6)), (7, .int (oI v7)), (8, .int (oI v8)), (9, .int (oI v9))] → k76 v1 v2 v4 v5 v6 v7 v8 v9 σ = some q → W p l e (rmk 1 34) s m args below meth c H locs 0 0 Q (F0 m 76 ls [])) {H : Heap} {locs : List Loc} {ls : Array Slot} {σ : Sg} (v1 : Int) (v2 : Int) (v4 : Int) (v5 : Int) (v6 : Int) (v7 : Int) (v8 : Int) (v9 : Int) (w0 : Int) (w1 : Int) (S : St G true τ σ s H locs) (hl : lv_has ls 11 [(0, .ref (G.1 (27 + d))), (1, .int (oI v1)), (2, .int (oI v2)), (4, .int (oI v4)), (5, .int (oI v5)), (6, .int (oI v6)), (7, .int (oI v7)), (8, .int (oI v8)), (9, .int (oI v9))]) (hf : f_X2_holdBoth_b184 d k76 v1 v2 v4 v5 v6 v7 v8 v9 w0 w1 σ = some q) : W p l e (rmk 1 34) s m args below meth c H locs 0 0 Q (F0 m 184 ls [.int (oI w0), .int (oI w1), .ref (G.1 (27 + d))]) := by
  unfold f_X2_holdBoth_b184 at hf
  refine r_ior C rfl rfl dX2_holdBoth_184 ?_
  refine p2_right C (d := d) S (by omega) tw_130 dX2_holdBoth_185 (fun H locs S => ?_)
  obtain ⟨σ14, S, hf⟩ := wr_s S hf
  exact b_X2_holdBoth_b188 C hd hend hk76 v1 v2 v4 v5 v6 v7 v8 v9 S (lv_sub hl [0, 1, 2, 3, 4, 5, 6, 7, 8] rfl) hf
set_option maxRecDepth 100000 in
set_option maxHeartbeats 4000000 in
theorem b_X2_holdBoth_b160 (C : Cx p s m args c RX2 cX2_holdBoth 11) {d : Nat} (hd : d < 7) {q : Sg} {k76 : Int → Int → Int → Int → Int → Int → Int → Int → Sg → Option (Sg)} (hend : EndR p l e (rmk 1 34) s m args below meth c Q G true τ cX2_holdBoth .return_ [] q) (hk76 : ∀ {H : Heap} {locs : List Loc} {ls : Array Slot} {σ : Sg} (v1 : Int) (v2 : Int) (v4 : Int) (v5 : Int) (v6 : Int) (v7 : Int) (v8 : Int) (v9 : Int), St G true τ σ s H locs → lv_has ls 11 [(0, .ref (G.1 (27 + d))), (1, .int (oI v1)), (2, .int (oI v2)), (4, .int (oI v4)), (5, .int (oI v5)), (6, .int (oI v6)), (7, .int (oI v7)), (8, .int (oI v8)), (9, .int (oI v9))] → k76 v1 v2 v4 v5 v6 v7 v8 v9 σ = some q → W p l e (rmk 1 34) s m args below meth c H locs 0 0 Q (F0 m 76 ls [])) {H : Heap} {locs : List Loc} {ls : Array Slot} {σ : Sg} (v1 : Int) (v2 : Int) (v4 : Int) (v5 : Int) (v6 : Int) (v7 : Int) (v8 : Int) (v9 : Int) (v10 : Int) (w0 : Int) (w1 : Int) (S : St G true τ σ s H locs) (hl : lv_has ls 11 [(0, .ref (G.1 (27 + d))), (1, .int (oI v1)), (2, .int (oI v2)), (4, .int (oI v4)), (5, .int (oI v5)), (6, .int (oI v6)), (7, .int (oI v7)), (8, .int (oI v8)), (9, .int (oI v9)), (10, .int (oI v10))]) (hf : f_X2_holdBoth_b160 d k76 v1 v2 v4 v5 v6 v7 v8 v9 v10 w0 w1 σ = some q) : W p l e (rmk 1 34) s m args below meth c H locs 0 0 Q (F0 m 160 ls [.int (oI w0), .int (oI w1), .ref (G.1 (27 + d))]) := by
  unfold f_X2_holdBoth_b160 at hf
  refine r_ior C rfl rfl dX2_holdBoth_160 ?_
  refine p2_left C (d := d) S (by omega) tw_129 dX2_holdBoth_161 (fun H locs S => ?_)
  obtain ⟨σ13, S, hf⟩ := wr_s S hf
  refine lv_aload_n C.1 C.2.1 dX2_holdBoth_164 rfl (lv_at hl 0 rfl) ?_
  refine lv_dup C.1 C.2.1 dX2_holdBoth_165 rfl ?_
  refine g2_right C (d := d) S (by omega) tw_130 dX2_holdBoth_166 ?_
  refine lv_iload C.1 C.2.1 dX2_holdBoth_169 (lv_at hl 9 rfl) ?_
  refine r_iconst C dX2_holdBoth_171 ?_
  refine r_iand C rfl (show u32 2 = 2 by decide) dX2_holdBoth_172 ?_
  refine r_if_eq C rfl (tgt := 183) dX2_holdBoth_173 (by decide) (fun h15 => ?_) (fun h15 => ?_)
  · replace hf := if_t hf h15
    refine r_iconst C dX2_holdBoth_183 ?_
    exact b_X2_holdBoth_b184 C hd hend hk76 v1 v2 v4 v5 v6 v7 v8 v9 0 (σ13 (27 + d) 4) S (lv_sub hl [0, 1, 2, 3, 4, 5, 6, 7, 8] rfl) hf
  · replace hf := if_f hf h15
    refine r_iconst C dX2_holdBoth_176 ?_
    refine lv_iload C.1 C.2.1 dX2_holdBoth_177 (lv_at hl 8 rfl) ?_
    refine r_ishl C (y1 := (u32 v9 % 32)) rfl dX2_holdBoth_179 ?_
    refine lv_goto C.1 C.2.1 (tgt := 184) dX2_holdBoth_180 (by decide) ?_
    exact b_X2_holdBoth_b184 C hd hend hk76 v1 v2 v4 v5 v6 v7 v8 v9 (1 * ((2 ^ (u32 v9 % 32) : Nat) : Int)) (σ13 (27 + d) 4) S (lv_sub hl [0, 1, 2, 3, 4, 5, 6, 7, 8] rfl) hf
set_option maxRecDepth 100000 in
set_option maxHeartbeats 4000000 in
theorem b_X2_holdBoth_b76 (C : Cx p s m args c RX2 cX2_holdBoth 11) {d : Nat} (hd : d < 7) {q : Sg} (hend : EndR p l e (rmk 1 34) s m args below meth c Q G true τ cX2_holdBoth .return_ [] q) : ∀ (n : Nat) {H : Heap} {locs : List Loc} {ls : Array Slot} {σ : Sg} (v1 : Int) (v2 : Int) (v4 : Int) (v5 : Int) (v6 : Int) (v7 : Int) (v8 : Int) (v9 : Int) (S : St G true τ σ s H locs) (hl : lv_has ls 11 [(0, .ref (G.1 (27 + d))), (1, .int (oI v1)), (2, .int (oI v2)), (4, .int (oI v4)), (5, .int (oI v5)), (6, .int (oI v6)), (7, .int (oI v7)), (8, .int (oI v8)), (9, .int (oI v9))]) (hf : f_X2_holdBoth_b76 d n v1 v2 v4 v5 v6 v7 v8 v9 σ = some q), W p l e (rmk 1 34) s m args below meth c H locs 0 0 Q (F0 m 76 ls []) := by
  intro n
  induction n with
  | zero => intro H locs ls σ v1 v2 v4 v5 v6 v7 v8 v9 S hl hf; cases hf
  | succ n ih =>
    intro H locs ls σ v1 v2 v4 v5 v6 v7 v8 v9 S hl hf
    have hk76 := @ih
    rw [f_X2_holdBoth_b76] at hf
    refine lv_iload C.1 C.2.1 dX2_holdBoth_76 (lv_at hl 8 rfl) ?_
    refine r_bipush C dX2_holdBoth_78 (by decide) ?_
    refine r_icmp_ge C rfl (show w32 24 = 24 by decide) (tgt := 194) dX2_holdBoth_80 (by decide) (fun h20 => ?_) (fun h20 => ?_)
    · replace hf := if_t hf h20
      refine lv_iload C.1 C.2.1 dX2_holdBoth_83 (lv_at hl 6 rfl) ?_
      refine r_if_le C rfl (tgt := 194) dX2_holdBoth_85 (by decide) (fun h19 => ?_) (fun h19 => ?_)
      · replace hf := if_t hf h19
        cases hf
        exact hend _ _ _ _ S dX2_holdBoth_194
      · replace hf := if_f hf h19
        refine lv_iload C.1 C.2.1 dX2_holdBoth_88 (lv_at hl 7 rfl) ?_
        refine r_if_lt C rfl (tgt := 194) dX2_holdBoth_90 (by decide) (fun h18 => ?_) (fun h18 => ?_)
        · replace hf := if_t hf h18
          cases hf
          exact hend _ _ _ _ S dX2_holdBoth_194
        · replace hf := if_f hf h18
          refine lv_iload C.1 C.2.1 dX2_holdBoth_93 (lv_at hl 3 rfl) ?_
          refine lv_iload C.1 C.2.1 dX2_holdBoth_95 (lv_at hl 8 rfl) ?_
          obtain ⟨q7, hc8, hf⟩ := bd_o hf
          refine r_callSNv C S (As := [.int (oI v4), .int (oI v9)]) (rest := []) (ct_X9_contains l G τ hc8) mi_X9_contains (nw_485 S.2.2.2) ms_X9_contains ⟨rfl, rfl⟩ ⟨Nat.le_of_ble_eq_true rfl, Nat.le_of_ble_eq_true rfl⟩ ⟨Nat.zero_le _, Nat.zero_le _⟩ rfl hl.1 rfl (Nat.le_of_ble_eq_true rfl) dX2_holdBoth_97 (fun H locs S => ?_)
          refine r_if_eq C rfl (tgt := 188) dX2_holdBoth_100 (by decide) (fun h17 => ?_) (fun h17 => ?_)
          · replace hf := if_t hf h17
            exact b_X2_holdBoth_b188 C hd hend hk76 v1 v2 v4 v5 v6 v7 v8 v9 S (lv_sub hl [0, 1, 2, 3, 4, 5, 6, 7, 8] rfl) hf
          · replace hf := if_f hf h17
            refine lv_iload C.1 C.2.1 dX2_holdBoth_103 (lv_at hl 4 rfl) ?_
            refine lv_iload C.1 C.2.1 dX2_holdBoth_105 (lv_at hl 5 rfl) ?_
            refine lv_aload_n C.1 C.2.1 dX2_holdBoth_107 rfl (lv_at hl 0 rfl) ?_
            refine g2_book C (d := d) S (by omega) tw_126 dX2_holdBoth_108 ?_
            refine g0_xN C S (nw_92 S.2.2.2) dX2_holdBoth_111 ?_
            refine lv_iload C.1 C.2.1 dX2_holdBoth_114 (lv_at hl 8 rfl) ?_
            obtain ⟨hi9, hf⟩ := ck_o hf
            refine a_iald C S ar_7 hi9 dX2_holdBoth_116 ?_
            refine lv_iload_n C.1 C.2.1 dX2_holdBoth_117 rfl (lv_at hl 1 rfl) ?_
            refine r_isub C dX2_holdBoth_118 ?_
            refine lv_aload_n C.1 C.2.1 dX2_holdBoth_119 rfl (lv_at hl 0 rfl) ?_
            refine g2_book C (d := d) S (by omega) tw_126 dX2_holdBoth_120 ?_
            refine g0_yN C S (nw_94 S.2.2.2) dX2_holdBoth_123 ?_
            refine lv_iload C.1 C.2.1 dX2_holdBoth_126 (lv_at hl 8 rfl) ?_
            obtain ⟨hi10, hf⟩ := ck_o hf
            refine a_iald C S ar_8 hi10 dX2_holdBoth_128 ?_
            refine lv_iload_n C.1 C.2.1 dX2_holdBoth_129 rfl (lv_at hl 2 rfl) ?_
            refine r_isub C dX2_holdBoth_130 ?_
            refine lv_iload C.1 C.2.1 dX2_holdBoth_131 (lv_at hl 6 rfl) ?_
            refine lv_iload C.1 C.2.1 dX2_holdBoth_133 (lv_at hl 7 rfl) ?_
            obtain ⟨q11, hc12, hf⟩ := bd_o hf
            refine r_callSNv C S (As := [.int (oI v5), .int (oI v6), .int (oI ((σ 7 (v9).toNat) - v1)), .int (oI ((σ 8 (v9).toNat) - v2)), .int (oI v7), .int (oI v8)]) (rest := []) (ct_X9_sides l G τ hc12) mi_X9_sides (nw_503 S.2.2.2) ms_X9_sides ⟨rfl, rfl⟩ ⟨Nat.le_of_ble_eq_true rfl, Nat.le_of_ble_eq_true rfl⟩ ⟨Nat.zero_le _, Nat.zero_le _⟩ rfl hl.1 rfl (Nat.le_of_ble_eq_true rfl) dX2_holdBoth_135 (fun H locs S => ?_)
            refine lv_istore C.1 C.2.1 dX2_holdBoth_138 hl (by decide) (lv' := [(10, .int (oI q11)), (0, .ref (G.1 (27 + d))), (1, .int (oI v1)), (2, .int (oI v2)), (4, .int (oI v4)), (5, .int (oI v5)), (6, .int (oI v6)), (7, .int (oI v7)), (8, .int (oI v8)), (9, .int (oI v9))]) rfl (fun ls hl => ?_)
            refine lv_aload_n C.1 C.2.1 dX2_holdBoth_140 rfl (lv_at hl 1 rfl) ?_
            refine lv_dup C.1 C.2.1 dX2_holdBoth_141 rfl ?_
            refine g2_left C (d := d) S (by omega) tw_129 dX2_holdBoth_142 ?_
            refine lv_iload C.1 C.2.1 dX2_holdBoth_145 (lv_at hl 0 rfl) ?_
            refine r_iconst C dX2_holdBoth_147 ?_
            refine r_iand C rfl (show u32 1 = 1 by decide) dX2_holdBoth_148 ?_
            refine r_if_eq C rfl (tgt := 159) dX2_holdBoth_149 (by decide) (fun h16 => ?_) (fun h16 => ?_)
            · replace hf := if_t hf h16
              refine r_iconst C dX2_holdBoth_159 ?_
              exact b_X2_holdBoth_b160 C hd hend hk76 v1 v2 v4 v5 v6 v7 v8 v9 q11 0 (σ (27 + d) 3) S (lv_sub hl [1, 2, 3, 4, 5, 6, 7, 8, 9, 0] rfl) hf
            · replace hf := if_f hf h16
              refine r_iconst C dX2_holdBoth_152 ?_
              refine lv_iload C.1 C.2.1 dX2_holdBoth_153 (lv_at hl 9 rfl) ?_
              refine r_ishl C (y1 := (u32 v9 % 32)) rfl dX2_holdBoth_155 ?_
              refine lv_goto C.1 C.2.1 (tgt := 160) dX2_holdBoth_156 (by decide) ?_
              exact b_X2_holdBoth_b160 C hd hend hk76 v1 v2 v4 v5 v6 v7 v8 v9 q11 (1 * ((2 ^ (u32 v9 % 32) : Nat) : Int)) (σ (27 + d) 3) S (lv_sub hl [1, 2, 3, 4, 5, 6, 7, 8, 9, 0] rfl) hf
    · replace hf := if_f hf h20
      cases hf
      exact hend _ _ _ _ S dX2_holdBoth_194
set_option maxRecDepth 100000 in
set_option maxHeartbeats 4000000 in
theorem ct_X2_holdBoth (l : Launch) (G : Gd) (τ : Sg) {d : Nat} {v1 : Int} {v2 : Int} {v3 : Int} {v4 : Int} {σ : Sg} {q : Sg} (hf : f_X2_holdBoth d v1 v2 v3 v4 σ = some q) : Ctr l yX2_holdBoth cX2_holdBoth 11 none (rmk 1 34) G true τ [.ref (G.1 (27 + d)), .int (oI v1), .int (oI v2), .int (oI v3), .int (oI v4)] σ q none := by
  unfold f_X2_holdBoth at hf
  obtain ⟨hd, hf⟩ := ck_o hf
  refine CtrV.of (own := RX2) (plainFor_of_name (by decide)) (Nat.le_of_ble_eq_true rfl) rfl (fun p e s m below meth c Q ls C hl S hend => ?_)
  have hl : lv_has ls 11 [(0, .ref (G.1 (27 + d))), (1, .int (oI v1)), (2, .int (oI v2)), (3, .int (oI v3)), (4, .int (oI v4))] := hl
  refine lv_aload_n C.1 C.2.1 dX2_holdBoth_0 rfl (lv_at hl 0 rfl) ?_
  refine r_iconst C dX2_holdBoth_1 ?_
  refine p2_left C (d := d) S (by omega) tw_129 dX2_holdBoth_2 (fun H locs S => ?_)
  obtain ⟨σ1, S, hf⟩ := wr_s S hf
  refine lv_aload_n C.1 C.2.1 dX2_holdBoth_5 rfl (lv_at hl 0 rfl) ?_
  refine r_iconst C dX2_holdBoth_6 ?_
  refine p2_right C (d := d) S (by omega) tw_130 dX2_holdBoth_7 (fun H locs S => ?_)
  obtain ⟨σ2, S, hf⟩ := wr_s S hf
  refine lv_iload_n C.1 C.2.1 dX2_holdBoth_10 rfl (lv_at hl 3 rfl) ?_
  obtain ⟨q3, hc4, hf⟩ := bd_o hf
  refine r_callSNv C S (As := [.int (oI v3)]) (rest := []) (ct_X9_isNumber l G τ hc4) mi_X9_isNumber (nw_490 S.2.2.2) ms_X9_isNumber ⟨rfl, rfl⟩ ⟨Nat.le_of_ble_eq_true rfl, Nat.le_of_ble_eq_true rfl⟩ ⟨Nat.zero_le _, Nat.zero_le _⟩ rfl hl.1 rfl (Nat.le_of_ble_eq_true rfl) dX2_holdBoth_11 (fun H locs S => ?_)
  refine r_if_ne C rfl (tgt := 18) dX2_holdBoth_14 (by decide) (fun h21 => ?_) (fun h21 => ?_)
  · replace hf := if_t hf h21
    cases hf
    exact hend _ _ _ _ S dX2_holdBoth_17
  · replace hf := if_f hf h21
    refine lv_aload_n C.1 C.2.1 dX2_holdBoth_18 rfl (lv_at hl 0 rfl) ?_
    refine g2_book C (d := d) S (by omega) tw_126 dX2_holdBoth_19 ?_
    refine g0_xN C S (nw_92 S.2.2.2) dX2_holdBoth_22 ?_
    refine lv_iload_n C.1 C.2.1 dX2_holdBoth_25 rfl (lv_at hl 3 rfl) ?_
    obtain ⟨hi5, hf⟩ := ck_o hf
    refine a_iald C S ar_7 hi5 dX2_holdBoth_26 ?_
    refine lv_iload_n C.1 C.2.1 dX2_holdBoth_27 rfl (lv_at hl 1 rfl) ?_
    refine r_isub C dX2_holdBoth_28 ?_
    refine lv_istore C.1 C.2.1 dX2_holdBoth_29 hl (by decide) (lv' := [(5, .int (oI ((σ2 7 (v3).toNat) - v1))), (0, .ref (G.1 (27 + d))), (1, .int (oI v1)), (2, .int (oI v2)), (3, .int (oI v3)), (4, .int (oI v4))]) rfl (fun ls hl => ?_)
    refine lv_aload_n C.1 C.2.1 dX2_holdBoth_31 rfl (lv_at hl 1 rfl) ?_
    refine g2_book C (d := d) S (by omega) tw_126 dX2_holdBoth_32 ?_
    refine g0_yN C S (nw_94 S.2.2.2) dX2_holdBoth_35 ?_
    refine lv_iload_n C.1 C.2.1 dX2_holdBoth_38 rfl (lv_at hl 4 rfl) ?_
    obtain ⟨hi6, hf⟩ := ck_o hf
    refine a_iald C S ar_8 hi6 dX2_holdBoth_39 ?_
    refine lv_iload_n C.1 C.2.1 dX2_holdBoth_40 rfl (lv_at hl 3 rfl) ?_
    refine r_isub C dX2_holdBoth_41 ?_
    refine lv_istore C.1 C.2.1 dX2_holdBoth_42 hl (by decide) (lv' := [(6, .int (oI ((σ2 8 (v3).toNat) - v2))), (5, .int (oI ((σ2 7 (v3).toNat) - v1))), (0, .ref (G.1 (27 + d))), (1, .int (oI v1)), (2, .int (oI v2)), (3, .int (oI v3)), (4, .int (oI v4))]) rfl (fun ls hl => ?_)
    refine lv_iload C.1 C.2.1 dX2_holdBoth_44 (lv_at hl 1 rfl) ?_
    refine lv_iload C.1 C.2.1 dX2_holdBoth_46 (lv_at hl 1 rfl) ?_
    refine r_imul C dX2_holdBoth_48 ?_
    refine lv_iload C.1 C.2.1 dX2_holdBoth_49 (lv_at hl 0 rfl) ?_
    refine lv_iload C.1 C.2.1 dX2_holdBoth_51 (lv_at hl 0 rfl) ?_
    refine r_imul C dX2_holdBoth_53 ?_
    refine r_iadd C dX2_holdBoth_54 ?_
    refine lv_istore C.1 C.2.1 dX2_holdBoth_55 hl (by decide) (lv' := [(7, .int (oI ((((σ2 7 (v3).toNat) - v1) * ((σ2 7 (v3).toNat) - v1)) + (((σ2 8 (v3).toNat) - v2) * ((σ2 8 (v3).toNat) - v2))))), (6, .int (oI ((σ2 8 (v3).toNat) - v2))), (5, .int (oI ((σ2 7 (v3).toNat) - v1))), (0, .ref (G.1 (27 + d))), (1, .int (oI v1)), (2, .int (oI v2)), (3, .int (oI v3)), (4, .int (oI v4))]) rfl (fun ls hl => ?_)
    refine r_iconst C dX2_holdBoth_57 ?_
    refine lv_aload_n C.1 C.2.1 dX2_holdBoth_58 rfl (lv_at hl 3 rfl) ?_
    refine g2_radius C (d := d) S (by omega) tw_128 dX2_holdBoth_59 ?_
    refine r_imul C dX2_holdBoth_62 ?_
    refine lv_aload_n C.1 C.2.1 dX2_holdBoth_63 rfl (lv_at hl 3 rfl) ?_
    refine g2_radius C (d := d) S (by omega) tw_128 dX2_holdBoth_64 ?_
    refine r_imul C dX2_holdBoth_67 ?_
    refine lv_iload C.1 C.2.1 dX2_holdBoth_68 (lv_at hl 0 rfl) ?_
    refine r_isub C dX2_holdBoth_70 ?_
    refine lv_istore C.1 C.2.1 dX2_holdBoth_71 hl (by decide) (lv' := [(8, .int (oI (((4 * (σ2 (27 + d) 2)) * (σ2 (27 + d) 2)) - ((((σ2 7 (v3).toNat) - v1) * ((σ2 7 (v3).toNat) - v1)) + (((σ2 8 (v3).toNat) - v2) * ((σ2 8 (v3).toNat) - v2)))))), (7, .int (oI ((((σ2 7 (v3).toNat) - v1) * ((σ2 7 (v3).toNat) - v1)) + (((σ2 8 (v3).toNat) - v2) * ((σ2 8 (v3).toNat) - v2))))), (6, .int (oI ((σ2 8 (v3).toNat) - v2))), (5, .int (oI ((σ2 7 (v3).toNat) - v1))), (0, .ref (G.1 (27 + d))), (1, .int (oI v1)), (2, .int (oI v2)), (3, .int (oI v3)), (4, .int (oI v4))]) rfl (fun ls hl => ?_)
    refine r_iconst C dX2_holdBoth_73 ?_
    refine lv_istore C.1 C.2.1 dX2_holdBoth_74 hl (by decide) (lv' := [(9, .int (oI 0)), (8, .int (oI (((4 * (σ2 (27 + d) 2)) * (σ2 (27 + d) 2)) - ((((σ2 7 (v3).toNat) - v1) * ((σ2 7 (v3).toNat) - v1)) + (((σ2 8 (v3).toNat) - v2) * ((σ2 8 (v3).toNat) - v2)))))), (7, .int (oI ((((σ2 7 (v3).toNat) - v1) * ((σ2 7 (v3).toNat) - v1)) + (((σ2 8 (v3).toNat) - v2) * ((σ2 8 (v3).toNat) - v2))))), (6, .int (oI ((σ2 8 (v3).toNat) - v2))), (5, .int (oI ((σ2 7 (v3).toNat) - v1))), (0, .ref (G.1 (27 + d))), (1, .int (oI v1)), (2, .int (oI v2)), (3, .int (oI v3)), (4, .int (oI v4))]) rfl (fun ls hl => ?_)
    exact b_X2_holdBoth_b76 C hd hend FUEL v1 v2 v4 ((σ2 7 (v3).toNat) - v1) ((σ2 8 (v3).toNat) - v2) ((((σ2 7 (v3).toNat) - v1) * ((σ2 7 (v3).toNat) - v1)) + (((σ2 8 (v3).toNat) - v2) * ((σ2 8 (v3).toNat) - v2))) (((4 * (σ2 (27 + d) 2)) * (σ2 (27 + d) 2)) - ((((σ2 7 (v3).toNat) - v1) * ((σ2 7 (v3).toNat) - v1)) + (((σ2 8 (v3).toNat) - v2) * ((σ2 8 (v3).toNat) - v2)))) 0 S (lv_sub hl [5, 6, 7, 9, 4, 3, 2, 1, 0] rfl) hf
set_option maxRecDepth 100000 in
set_option maxHeartbeats 4000000 in
theorem b_X2_add_b226 (C : Cx p s m args c RX2 cX2_add 5) {d : Nat} (hd : d < 7) {q : Sg} {k101 : Int → Int → Int → Int → Sg → Option (Sg)} (hend : EndR p l e (rmk 3 87) s m args below meth c Q G true τ cX2_add .return_ [] q) (hk101 : ∀ {H : Heap} {locs : List Loc} {ls : Array Slot} {σ : Sg} (v1 : Int) (v2 : Int) (v3 : Int) (v4 : Int), St G true τ σ s H locs → lv_has ls 5 [(0, .ref (G.1 (27 + d))), (1, .int (oI v1)), (2, .int (oI v2)), (3, .int (oI v3)), (4, .int (oI v4))] → k101 v1 v2 v3 v4 σ = some q → W p l e (rmk 3 87) s m args below meth c H locs 0 0 Q (F0 m 101 ls [])) {H : Heap} {locs : List Loc} {ls : Array Slot} {σ : Sg} (v1 : Int) (v2 : Int) (v3 : Int) (v4 : Int) (S : St G true τ σ s H locs) (hl : lv_has ls 5 [(0, .ref (G.1 (27 + d))), (1, .int (oI v1)), (2, .int (oI v2)), (3, .int (oI v3)), (4, .int (oI v4))]) (hf : f_X2_add_b226 d k101 v1 v2 v3 v4 σ = some q) : W p l e (rmk 3 87) s m args below meth c H locs 0 0 Q (F0 m 226 ls []) := by
  unfold f_X2_add_b226 at hf
  refine r_iinc C dX2_add_226 hl (k := 4) rfl (by decide) (lv' := [(4, .int (oI (v4 + 1))), (0, .ref (G.1 (27 + d))), (1, .int (oI v1)), (2, .int (oI v2)), (3, .int (oI v3))]) rfl (fun ls hl => ?_)
  refine lv_goto C.1 C.2.1 (tgt := 101) dX2_add_229 (by decide) ?_
  exact hk101 v1 v2 v3 (v4 + 1) S (lv_sub hl [1, 2, 3, 4, 0] rfl) hf
set_option maxRecDepth 100000 in
set_option maxHeartbeats 4000000 in
theorem b_X2_add_b180 (C : Cx p s m args c RX2 cX2_add 5) {d : Nat} (hd : d < 7) {q : Sg} {k101 : Int → Int → Int → Int → Sg → Option (Sg)} (hend : EndR p l e (rmk 3 87) s m args below meth c Q G true τ cX2_add .return_ [] q) (hk101 : ∀ {H : Heap} {locs : List Loc} {ls : Array Slot} {σ : Sg} (v1 : Int) (v2 : Int) (v3 : Int) (v4 : Int), St G true τ σ s H locs → lv_has ls 5 [(0, .ref (G.1 (27 + d))), (1, .int (oI v1)), (2, .int (oI v2)), (3, .int (oI v3)), (4, .int (oI v4))] → k101 v1 v2 v3 v4 σ = some q → W p l e (rmk 3 87) s m args below meth c H locs 0 0 Q (F0 m 101 ls [])) {H : Heap} {locs : List Loc} {ls : Array Slot} {σ : Sg} (v1 : Int) (v2 : Int) (v3 : Int) (v4 : Int) (S : St G true τ σ s H locs) (hl : lv_has ls 5 [(0, .ref (G.1 (27 + d))), (1, .int (oI v1)), (2, .int (oI v2)), (3, .int (oI v3)), (4, .int (oI v4))]) (hf : f_X2_add_b180 d k101 v1 v2 v3 v4 σ = some q) : W p l e (rmk 3 87) s m args below meth c H locs 0 0 Q (F0 m 180 ls []) := by
  unfold f_X2_add_b180 at hf
  refine lv_iload_n C.1 C.2.1 dX2_add_180 rfl (lv_at hl 3 rfl) ?_
  refine lv_iload C.1 C.2.1 dX2_add_181 (lv_at hl 4 rfl) ?_
  obtain ⟨q16, hc17, hf⟩ := bd_o hf
  refine r_callSNv C S (As := [.int (oI v3), .int (oI v4)]) (rest := []) (ct_X9_contains l G τ hc17) mi_X9_contains (nw_485 S.2.2.2) ms_X9_contains ⟨rfl, rfl⟩ ⟨Nat.le_of_ble_eq_true rfl, Nat.le_of_ble_eq_true rfl⟩ ⟨Nat.zero_le _, Nat.zero_le _⟩ rfl hl.1 rfl (Nat.le_of_ble_eq_true rfl) dX2_add_183 (fun H locs S => ?_)
  refine r_if_eq C rfl (tgt := 226) dX2_add_186 (by decide) (fun h24 => ?_) (fun h24 => ?_)
  · replace hf := if_t hf h24
    exact b_X2_add_b226 C hd hend hk101 v1 v2 v3 v4 S (lv_sub hl [0, 1, 2, 3, 4] rfl) hf
  · replace hf := if_f hf h24
    refine lv_aload_n C.1 C.2.1 dX2_add_189 rfl (lv_at hl 0 rfl) ?_
    refine g2_sets C (d := d) S (by omega) tw_127 dX2_add_190 ?_
    refine lv_iload_n C.1 C.2.1 dX2_add_193 rfl (lv_at hl 1 rfl) ?_
    refine r_bipush C dX2_add_194 (by decide) ?_
    refine r_imul C dX2_add_196 ?_
    refine lv_iload_n C.1 C.2.1 dX2_add_197 rfl (lv_at hl 1 rfl) ?_
    refine r_iadd C dX2_add_198 ?_
    refine lv_dup2_11 C.1 C.2.1 dX2_add_199 rfl rfl ?_
    obtain ⟨hi18, hf⟩ := ck_o hf
    refine a_iald C S (ar_34 (d := d) (by omega)) hi18 dX2_add_200 ?_
    refine r_iconst C dX2_add_201 ?_
    refine lv_iload C.1 C.2.1 dX2_add_202 (lv_at hl 4 rfl) ?_
    refine r_ishl C (y1 := (u32 v4 % 32)) rfl dX2_add_204 ?_
    refine r_ior C rfl rfl dX2_add_205 ?_
    obtain ⟨hi19, hf⟩ := ck_o hf
    refine a_iast C S (ar_34 (d := d) (by omega)) hi19 dX2_add_206 (fun H locs S => ?_)
    obtain ⟨σ20, S, hf⟩ := wr_s S hf
    refine lv_aload_n C.1 C.2.1 dX2_add_207 rfl (lv_at hl 0 rfl) ?_
    refine g2_sets C (d := d) S (by omega) tw_127 dX2_add_208 ?_
    refine lv_iload C.1 C.2.1 dX2_add_211 (lv_at hl 4 rfl) ?_
    refine r_bipush C dX2_add_213 (by decide) ?_
    refine r_imul C dX2_add_215 ?_
    refine lv_iload C.1 C.2.1 dX2_add_216 (lv_at hl 4 rfl) ?_
    refine r_iadd C dX2_add_218 ?_
    refine lv_dup2_11 C.1 C.2.1 dX2_add_219 rfl rfl ?_
    obtain ⟨hi21, hf⟩ := ck_o hf
    refine a_iald C S (ar_34 (d := d) (by omega)) hi21 dX2_add_220 ?_
    refine r_iconst C dX2_add_221 ?_
    refine lv_iload_n C.1 C.2.1 dX2_add_222 rfl (lv_at hl 1 rfl) ?_
    refine r_ishl C (y1 := (u32 v1 % 32)) rfl dX2_add_223 ?_
    refine r_ior C rfl rfl dX2_add_224 ?_
    obtain ⟨hi22, hf⟩ := ck_o hf
    refine a_iast C S (ar_34 (d := d) (by omega)) hi22 dX2_add_225 (fun H locs S => ?_)
    obtain ⟨σ23, S, hf⟩ := wr_s S hf
    exact b_X2_add_b226 C hd hend hk101 v1 v2 v3 v4 S (lv_sub hl [0, 1, 2, 3, 4] rfl) hf
set_option maxRecDepth 100000 in
set_option maxHeartbeats 4000000 in
theorem b_X2_add_b101 (C : Cx p s m args c RX2 cX2_add 5) {d : Nat} (hd : d < 7) {q : Sg} (hend : EndR p l e (rmk 3 87) s m args below meth c Q G true τ cX2_add .return_ [] q) : ∀ (n : Nat) {H : Heap} {locs : List Loc} {ls : Array Slot} {σ : Sg} (v1 : Int) (v2 : Int) (v3 : Int) (v4 : Int) (S : St G true τ σ s H locs) (hl : lv_has ls 5 [(0, .ref (G.1 (27 + d))), (1, .int (oI v1)), (2, .int (oI v2)), (3, .int (oI v3)), (4, .int (oI v4))]) (hf : f_X2_add_b101 d n v1 v2 v3 v4 σ = some q), W p l e (rmk 3 87) s m args below meth c H locs 0 0 Q (F0 m 101 ls []) := by
  intro n
  induction n with
  | zero => intro H locs ls σ v1 v2 v3 v4 S hl hf; cases hf
  | succ n ih =>
    intro H locs ls σ v1 v2 v3 v4 S hl hf
    have hk101 := @ih
    rw [f_X2_add_b101] at hf
    refine lv_iload C.1 C.2.1 dX2_add_101 (lv_at hl 4 rfl) ?_
    refine r_bipush C dX2_add_103 (by decide) ?_
    refine r_icmp_ge C rfl (show w32 24 = 24 by decide) (tgt := 232) dX2_add_105 (by decide) (fun h36 => ?_) (fun h36 => ?_)
    · replace hf := if_t hf h36
      refine lv_iload_n C.1 C.2.1 dX2_add_108 rfl (lv_at hl 2 rfl) ?_
      refine lv_iload C.1 C.2.1 dX2_add_109 (lv_at hl 4 rfl) ?_
      obtain ⟨q14, hc15, hf⟩ := bd_o hf
      refine r_callSNv C S (As := [.int (oI v2), .int (oI v4)]) (rest := []) (ct_X9_contains l G τ hc15) mi_X9_contains (nw_485 S.2.2.2) ms_X9_contains ⟨rfl, rfl⟩ ⟨Nat.le_of_ble_eq_true rfl, Nat.le_of_ble_eq_true rfl⟩ ⟨Nat.zero_le _, Nat.zero_le _⟩ rfl hl.1 rfl (Nat.le_of_ble_eq_true rfl) dX2_add_111 (fun H locs S => ?_)
      refine r_if_eq C rfl (tgt := 180) dX2_add_114 (by decide) (fun h35 => ?_) (fun h35 => ?_)
      · replace hf := if_t hf h35
        exact b_X2_add_b180 C hd hend hk101 v1 v2 v3 v4 S (lv_sub hl [0, 1, 2, 3, 4] rfl) hf
      · replace hf := if_f hf h35
        refine lv_aload_n C.1 C.2.1 dX2_add_117 rfl (lv_at hl 0 rfl) ?_
        refine lv_aload_n C.1 C.2.1 dX2_add_118 rfl (lv_at hl 0 rfl) ?_
        refine g2_book C (d := d) S (by omega) tw_126 dX2_add_119 ?_
        refine g0_xN C S (nw_92 S.2.2.2) dX2_add_122 ?_
        refine lv_iload_n C.1 C.2.1 dX2_add_125 rfl (lv_at hl 1 rfl) ?_
        obtain ⟨hi25, hf⟩ := ck_o hf
        refine a_iald C S ar_7 hi25 dX2_add_126 ?_
        refine lv_aload_n C.1 C.2.1 dX2_add_127 rfl (lv_at hl 0 rfl) ?_
        refine g2_book C (d := d) S (by omega) tw_126 dX2_add_128 ?_
        refine g0_yN C S (nw_94 S.2.2.2) dX2_add_131 ?_
        refine lv_iload_n C.1 C.2.1 dX2_add_134 rfl (lv_at hl 1 rfl) ?_
        obtain ⟨hi26, hf⟩ := ck_o hf
        refine a_iald C S ar_8 hi26 dX2_add_135 ?_
        refine lv_iload C.1 C.2.1 dX2_add_136 (lv_at hl 4 rfl) ?_
        refine lv_iload_n C.1 C.2.1 dX2_add_138 rfl (lv_at hl 2 rfl) ?_
        obtain ⟨q27, hc28, hf⟩ := bd_o hf
        refine r_callVn C S (As := [.int (oI (σ 7 (v1).toNat)), .int (oI (σ 8 (v1).toNat)), .int (oI v4), .int (oI v2)]) (rest := []) (ct_X2_holdBoth l G τ hc28) mi_X2_holdBoth tw_506 mv_X2_holdBoth (rvX2 S (d := d) (by omega)) ⟨rfl, rfl⟩ ⟨Nat.le_of_ble_eq_true rfl, Nat.le_of_ble_eq_true rfl⟩ ⟨Nat.zero_le _, Nat.zero_le _⟩ rfl hl.1 rfl (Nat.le_of_ble_eq_true rfl) dX2_add_139 (fun H locs S => ?_)
        refine lv_aload_n C.1 C.2.1 dX2_add_142 rfl (lv_at hl 0 rfl) ?_
        refine g2_sets C (d := d) S (by omega) tw_127 dX2_add_143 ?_
        refine lv_iload_n C.1 C.2.1 dX2_add_146 rfl (lv_at hl 1 rfl) ?_
        refine r_bipush C dX2_add_147 (by decide) ?_
        refine r_imul C dX2_add_149 ?_
        refine lv_iload C.1 C.2.1 dX2_add_150 (lv_at hl 4 rfl) ?_
        refine r_iadd C dX2_add_152 ?_
        refine lv_dup2_11 C.1 C.2.1 dX2_add_153 rfl rfl ?_
        obtain ⟨hi29, hf⟩ := ck_o hf
        refine a_iald C S (ar_34 (d := d) (by omega)) hi29 dX2_add_154 ?_
        refine lv_aload_n C.1 C.2.1 dX2_add_155 rfl (lv_at hl 0 rfl) ?_
        refine g2_left C (d := d) S (by omega) tw_129 dX2_add_156 ?_
        refine r_ior C rfl rfl dX2_add_159 ?_
        obtain ⟨hi30, hf⟩ := ck_o hf
        refine a_iast C S (ar_34 (d := d) (by omega)) hi30 dX2_add_160 (fun H locs S => ?_)
        obtain ⟨σ31, S, hf⟩ := wr_s S hf
        refine lv_aload_n C.1 C.2.1 dX2_add_161 rfl (lv_at hl 0 rfl) ?_
        refine g2_sets C (d := d) S (by omega) tw_127 dX2_add_162 ?_
        refine lv_iload C.1 C.2.1 dX2_add_165 (lv_at hl 4 rfl) ?_
        refine r_bipush C dX2_add_167 (by decide) ?_
        refine r_imul C dX2_add_169 ?_
        refine lv_iload_n C.1 C.2.1 dX2_add_170 rfl (lv_at hl 1 rfl) ?_
        refine r_iadd C dX2_add_171 ?_
        refine lv_dup2_11 C.1 C.2.1 dX2_add_172 rfl rfl ?_
        obtain ⟨hi32, hf⟩ := ck_o hf
        refine a_iald C S (ar_34 (d := d) (by omega)) hi32 dX2_add_173 ?_
        refine lv_aload_n C.1 C.2.1 dX2_add_174 rfl (lv_at hl 0 rfl) ?_
        refine g2_right C (d := d) S (by omega) tw_130 dX2_add_175 ?_
        refine r_ior C rfl rfl dX2_add_178 ?_
        obtain ⟨hi33, hf⟩ := ck_o hf
        refine a_iast C S (ar_34 (d := d) (by omega)) hi33 dX2_add_179 (fun H locs S => ?_)
        obtain ⟨σ34, S, hf⟩ := wr_s S hf
        exact b_X2_add_b180 C hd hend hk101 v1 v2 v3 v4 S (lv_sub hl [0, 1, 2, 3, 4] rfl) hf
    · replace hf := if_f hf h36
      cases hf
      exact hend _ _ _ _ S dX2_add_232
set_option maxRecDepth 100000 in
set_option maxHeartbeats 4000000 in
theorem ct_X2_add (l : Launch) (G : Gd) (τ : Sg) {d : Nat} {v1 : Int} {σ : Sg} {q : Sg} (hf : f_X2_add d v1 σ = some q) : Ctr l yX2_add cX2_add 5 none (rmk 3 87) G true τ [.ref (G.1 (27 + d)), .int (oI v1)] σ q none := by
  unfold f_X2_add at hf
  obtain ⟨hd, hf⟩ := ck_o hf
  refine CtrV.of (own := RX2) (plainFor_of_name (by decide)) (Nat.le_of_ble_eq_true rfl) rfl (fun p e s m below meth c Q ls C hl S hend => ?_)
  have hl : lv_has ls 5 [(0, .ref (G.1 (27 + d))), (1, .int (oI v1))] := hl
  refine lv_iload_n C.1 C.2.1 dX2_add_0 rfl (lv_at hl 1 rfl) ?_
  obtain ⟨q1, hc2, hf⟩ := bd_o hf
  refine r_callSNv C S (As := [.int (oI v1)]) (rest := []) (ct_X9_isNumber l G τ hc2) mi_X9_isNumber (nw_490 S.2.2.2) ms_X9_isNumber ⟨rfl, rfl⟩ ⟨Nat.le_of_ble_eq_true rfl, Nat.le_of_ble_eq_true rfl⟩ ⟨Nat.zero_le _, Nat.zero_le _⟩ rfl hl.1 rfl (Nat.le_of_ble_eq_true rfl) dX2_add_1 (fun H locs S => ?_)
  refine r_if_ne C rfl (tgt := 8) dX2_add_4 (by decide) (fun h37 => ?_) (fun h37 => ?_)
  · replace hf := if_t hf h37
    cases hf
    exact hend _ _ _ _ S dX2_add_7
  · replace hf := if_f hf h37
    refine lv_aload_n C.1 C.2.1 dX2_add_8 rfl (lv_at hl 0 rfl) ?_
    refine lv_dup C.1 C.2.1 dX2_add_9 rfl ?_
    refine g2_members C (d := d) S (by omega) tw_131 dX2_add_10 ?_
    refine r_iconst C dX2_add_13 ?_
    refine lv_iload_n C.1 C.2.1 dX2_add_14 rfl (lv_at hl 1 rfl) ?_
    refine r_ishl C (y1 := (u32 v1 % 32)) rfl dX2_add_15 ?_
    refine r_ior C rfl rfl dX2_add_16 ?_
    refine p2_members C (d := d) S (by omega) tw_131 dX2_add_17 (fun H locs S => ?_)
    obtain ⟨σ3, S, hf⟩ := wr_s S hf
    refine lv_aload_n C.1 C.2.1 dX2_add_20 rfl (lv_at hl 0 rfl) ?_
    refine g2_members C (d := d) S (by omega) tw_131 dX2_add_21 ?_
    refine lv_aload_n C.1 C.2.1 dX2_add_24 rfl (lv_at hl 0 rfl) ?_
    refine g2_book C (d := d) S (by omega) tw_126 dX2_add_25 ?_
    refine lv_aload_n C.1 C.2.1 dX2_add_28 rfl (lv_at hl 0 rfl) ?_
    refine g2_book C (d := d) S (by omega) tw_126 dX2_add_29 ?_
    refine g0_xN C S (nw_92 S.2.2.2) dX2_add_32 ?_
    refine lv_iload_n C.1 C.2.1 dX2_add_35 rfl (lv_at hl 1 rfl) ?_
    obtain ⟨hi4, hf⟩ := ck_o hf
    refine a_iald C S ar_7 hi4 dX2_add_36 ?_
    refine lv_aload_n C.1 C.2.1 dX2_add_37 rfl (lv_at hl 0 rfl) ?_
    refine g2_book C (d := d) S (by omega) tw_126 dX2_add_38 ?_
    refine g0_yN C S (nw_94 S.2.2.2) dX2_add_41 ?_
    refine lv_iload_n C.1 C.2.1 dX2_add_44 rfl (lv_at hl 1 rfl) ?_
    obtain ⟨hi5, hf⟩ := ck_o hf
    refine a_iald C S ar_8 hi5 dX2_add_45 ?_
    refine r_iconst C dX2_add_46 ?_
    refine lv_aload_n C.1 C.2.1 dX2_add_47 rfl (lv_at hl 0 rfl) ?_
    refine g2_radius C (d := d) S (by omega) tw_128 dX2_add_48 ?_
    refine r_imul C dX2_add_51 ?_
    obtain ⟨q6, hc7, hf⟩ := bd_o hf
    refine r_callVv C S (As := [.int (oI (σ3 7 (v1).toNat)), .int (oI (σ3 8 (v1).toNat)), .int (oI (2 * (σ3 (27 + d) 2)))]) (rest := [.int (oI (σ3 (27 + d) 5))]) (ct_X0_within l G τ hc7) mi_X0_within tw_491 mv_X0_within (rvX0 S) ⟨rfl, rfl⟩ ⟨Nat.le_of_ble_eq_true rfl, Nat.le_of_ble_eq_true rfl⟩ ⟨Nat.zero_le _, Nat.zero_le _⟩ rfl hl.1 rfl (Nat.le_of_ble_eq_true rfl) dX2_add_52 (fun H locs S => ?_)
    refine r_iand C rfl rfl dX2_add_55 ?_
    refine lv_istore_n C.1 C.2.1 dX2_add_56 rfl hl (by decide) (lv' := [(2, .int (oI ((((u32 (σ3 (27 + d) 5)) &&& (u32 q6) : Nat) : Int)))), (0, .ref (G.1 (27 + d))), (1, .int (oI v1))]) rfl (fun ls hl => ?_)
    refine lv_aload_n C.1 C.2.1 dX2_add_57 rfl (lv_at hl 1 rfl) ?_
    refine g2_members C (d := d) S (by omega) tw_131 dX2_add_58 ?_
    refine lv_aload_n C.1 C.2.1 dX2_add_61 rfl (lv_at hl 1 rfl) ?_
    refine g2_book C (d := d) S (by omega) tw_126 dX2_add_62 ?_
    refine lv_aload_n C.1 C.2.1 dX2_add_65 rfl (lv_at hl 1 rfl) ?_
    refine g2_book C (d := d) S (by omega) tw_126 dX2_add_66 ?_
    refine g0_xN C S (nw_92 S.2.2.2) dX2_add_69 ?_
    refine lv_iload_n C.1 C.2.1 dX2_add_72 rfl (lv_at hl 2 rfl) ?_
    obtain ⟨hi8, hf⟩ := ck_o hf
    refine a_iald C S ar_7 hi8 dX2_add_73 ?_
    refine lv_aload_n C.1 C.2.1 dX2_add_74 rfl (lv_at hl 1 rfl) ?_
    refine g2_book C (d := d) S (by omega) tw_126 dX2_add_75 ?_
    refine g0_yN C S (nw_94 S.2.2.2) dX2_add_78 ?_
    refine lv_iload_n C.1 C.2.1 dX2_add_81 rfl (lv_at hl 2 rfl) ?_
    obtain ⟨hi9, hf⟩ := ck_o hf
    refine a_iald C S ar_8 hi9 dX2_add_82 ?_
    refine lv_aload_n C.1 C.2.1 dX2_add_83 rfl (lv_at hl 1 rfl) ?_
    refine g2_radius C (d := d) S (by omega) tw_128 dX2_add_84 ?_
    obtain ⟨q10, hc11, hf⟩ := bd_o hf
    refine r_callVv C S (As := [.int (oI (σ3 7 (v1).toNat)), .int (oI (σ3 8 (v1).toNat)), .int (oI (σ3 (27 + d) 2))]) (rest := [.int (oI (σ3 (27 + d) 5))]) (ct_X0_within l G τ hc11) mi_X0_within tw_491 mv_X0_within (rvX0 S) ⟨rfl, rfl⟩ ⟨Nat.le_of_ble_eq_true rfl, Nat.le_of_ble_eq_true rfl⟩ ⟨Nat.zero_le _, Nat.zero_le _⟩ rfl hl.1 rfl (Nat.le_of_ble_eq_true rfl) dX2_add_87 (fun H locs S => ?_)
    refine r_iand C rfl rfl dX2_add_90 ?_
    refine lv_istore_n C.1 C.2.1 dX2_add_91 rfl hl (by decide) (lv' := [(3, .int (oI ((((u32 (σ3 (27 + d) 5)) &&& (u32 q10) : Nat) : Int)))), (2, .int (oI ((((u32 (σ3 (27 + d) 5)) &&& (u32 q6) : Nat) : Int)))), (0, .ref (G.1 (27 + d))), (1, .int (oI v1))]) rfl (fun ls hl => ?_)
    refine lv_aload_n C.1 C.2.1 dX2_add_92 rfl (lv_at hl 2 rfl) ?_
    refine lv_iload_n C.1 C.2.1 dX2_add_93 rfl (lv_at hl 3 rfl) ?_
    refine lv_iload_n C.1 C.2.1 dX2_add_94 rfl (lv_at hl 1 rfl) ?_
    obtain ⟨q12, hc13, hf⟩ := bd_o hf
    refine r_callVn C S (As := [.int (oI v1), .int (oI ((((u32 (σ3 (27 + d) 5)) &&& (u32 q6) : Nat) : Int)))]) (rest := []) (ct_X2_extend l G τ hc13) mi_X2_extend tw_495 mv_X2_extend (rvX2 S (d := d) (by omega)) ⟨rfl, rfl⟩ ⟨Nat.le_of_ble_eq_true rfl, Nat.le_of_ble_eq_true rfl⟩ ⟨Nat.zero_le _, Nat.zero_le _⟩ rfl hl.1 rfl (Nat.le_of_ble_eq_true rfl) dX2_add_95 (fun H locs S => ?_)
    refine r_iconst C dX2_add_98 ?_
    refine lv_istore C.1 C.2.1 dX2_add_99 hl (by decide) (lv' := [(4, .int (oI 0)), (3, .int (oI ((((u32 (σ3 (27 + d) 5)) &&& (u32 q10) : Nat) : Int)))), (2, .int (oI ((((u32 (σ3 (27 + d) 5)) &&& (u32 q6) : Nat) : Int)))), (0, .ref (G.1 (27 + d))), (1, .int (oI v1))]) rfl (fun ls hl => ?_)
    exact b_X2_add_b101 C hd hend FUEL v1 ((((u32 (σ3 (27 + d) 5)) &&& (u32 q6) : Nat) : Int)) ((((u32 (σ3 (27 + d) 5)) &&& (u32 q10) : Nat) : Int)) 0 S (lv_sub hl [3, 4, 2, 1, 0] rfl) hf
end WK
