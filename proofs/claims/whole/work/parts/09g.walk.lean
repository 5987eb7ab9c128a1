section WK
variable {p : Program} {l : Launch} {e : Env} {s : State} {m : MethodId} {args : Array Value} {below : List Frame} {meth : Method} {c : Code} {Q : State → Prop} {G : Gd} {b : Bool} {τ σ : Sg}
set_option maxRecDepth 100000 in
set_option maxHeartbeats 4000000 in
theorem b_X10_ring_b83 (C : Cx p s m args c RX10 cX10_ring 4) {q : Int × Sg} (hend : EndR p l e (rmk 4 119) s m args below meth c Q G false τ cX10_ring .lreturn [.long (oL q.1)] q.2) {H : Heap} {locs : List Loc} {ls : Array Slot} {σ : Sg} (v2 : Int) (S : St G false τ σ s H locs) (hl : lv_has ls 4 [(0, .ref (G.1 41)), (2, .int (oI v2))]) (hf : f_X10_ring_b83 v2 σ = some q) : W p l e (rmk 4 119) s m args below meth c H locs 0 0 Q (F0 m 83 ls []) := by
  unfold f_X10_ring_b83 at hf
  refine lv_aload_n C.1 C.2.1 dX10_ring_83 rfl (lv_at hl 0 rfl) ?_
  refine g10_circle C S tw_1099 dX10_ring_84 ?_
  refine lv_iload_n C.1 C.2.1 dX10_ring_87 rfl (lv_at hl 1 rfl) ?_
  obtain ⟨hi12, hf⟩ := ck_o hf
  refine a_lald C S ar_58 hi12 dX10_ring_88 ?_
  cases hf
  exact hend _ _ _ _ S dX10_ring_89
set_option maxRecDepth 100000 in
set_option maxHeartbeats 4000000 in
theorem ct_X10_ring (l : Launch) (G : Gd) (τ : Sg) {v1 : Int} {v2 : Int} {σ : Sg} {q : Int × Sg} (hf : f_X10_ring v1 v2 σ = some q) : Ctr l yX10_ring cX10_ring 4 (some .long) (rmk 4 119) G false τ [.ref (G.1 41), .int (oI v1), .int (oI v2)] σ q.2 (some (.long (oL q.1))) := by
  unfold f_X10_ring at hf
  refine CtrJ.of (own := RX10) (plainFor_of_name (by decide)) (Nat.le_of_ble_eq_true rfl) rfl (fun p e s m below meth c Q ls C hl S hend => ?_)
  have hl : lv_has ls 4 [(0, .ref (G.1 41)), (1, .int (oI v1)), (2, .int (oI v2))] := hl
  refine lv_aload_n C.1 C.2.1 dX10_ring_0 rfl (lv_at hl 0 rfl) ?_
  refine r_iconst C dX10_ring_1 ?_
  refine p10_thrown C S tw_1061 dX10_ring_2 (fun H locs S => ?_)
  obtain ⟨σ1, S, hf⟩ := wr_s S hf
  refine lv_aload_n C.1 C.2.1 dX10_ring_5 rfl (lv_at hl 0 rfl) ?_
  refine lv_iload_n C.1 C.2.1 dX10_ring_6 rfl (lv_at hl 1 rfl) ?_
  obtain ⟨q2, hc3, hf⟩ := bd_o hf
  refine r_callVv C S (As := [.int (oI v1)]) (rest := []) (ct_X10_isTreaty l G τ hc3) mi_X10_isTreaty tw_1373 mv_X10_isTreaty (rvX10 S) ⟨rfl, rfl⟩ ⟨Nat.le_of_ble_eq_true rfl, Nat.le_of_ble_eq_true rfl⟩ ⟨Nat.zero_le _, Nat.zero_le _⟩ rfl hl.1 rfl (Nat.le_of_ble_eq_true rfl) dX10_ring_7 (fun H locs S => ?_)
  refine r_if_eq C rfl (tgt := 22) dX10_ring_10 (by decide) (fun h22 => ?_) (fun h22 => ?_)
  · replace hf := if_t hf h22
    refine r_ldc2 C tw_1421 dX10_ring_22 ?_
    cases hf
    exact hend _ _ _ _ S dX10_ring_25
  · replace hf := if_f hf h22
    refine lv_iload_n C.1 C.2.1 dX10_ring_13 rfl (lv_at hl 2 rfl) ?_
    refine r_if_lt C rfl (tgt := 22) dX10_ring_14 (by decide) (fun h21 => ?_) (fun h21 => ?_)
    · replace hf := if_t hf h21
      refine r_ldc2 C tw_1421 dX10_ring_22 ?_
      cases hf
      exact hend _ _ _ _ S dX10_ring_25
    · replace hf := if_f hf h21
      refine lv_iload_n C.1 C.2.1 dX10_ring_17 rfl (lv_at hl 2 rfl) ?_
      refine r_iconst C dX10_ring_18 ?_
      refine r_icmp_le C rfl (show w32 4 = 4 by decide) (tgt := 26) dX10_ring_19 (by decide) (fun h20 => ?_) (fun h20 => ?_)
      · replace hf := if_t hf h20
        refine lv_aload_n C.1 C.2.1 dX10_ring_26 rfl (lv_at hl 0 rfl) ?_
        refine lv_iload_n C.1 C.2.1 dX10_ring_27 rfl (lv_at hl 1 rfl) ?_
        obtain ⟨q4, hc5, hf⟩ := bd_o hf
        refine r_callVv C S (As := [.int (oI v1)]) (rest := []) (ct_X10_worstOf l G τ hc5) mi_X10_worstOf tw_1273 mv_X10_worstOf (rvX10 S) ⟨rfl, rfl⟩ ⟨Nat.le_of_ble_eq_true rfl, Nat.le_of_ble_eq_true rfl⟩ ⟨Nat.zero_le _, Nat.zero_le _⟩ rfl hl.1 rfl (Nat.le_of_ble_eq_true rfl) dX10_ring_28 (fun H locs S => ?_)
        refine lv_pop C.1 C.2.1 dX10_ring_31 rfl ?_
        refine lv_aload_n C.1 C.2.1 dX10_ring_32 rfl (lv_at hl 0 rfl) ?_
        refine g10_bestSet C S tw_1098 dX10_ring_33 ?_
        refine lv_istore_n C.1 C.2.1 dX10_ring_36 rfl hl (by decide) (lv' := [(3, .int (oI (q4.2 41 37))), (0, .ref (G.1 41)), (1, .int (oI v1)), (2, .int (oI v2))]) rfl (fun ls hl => ?_)
        refine lv_iload_n C.1 C.2.1 dX10_ring_37 rfl (lv_at hl 0 rfl) ?_
        refine r_if_ne C rfl (tgt := 45) dX10_ring_38 (by decide) (fun h19 => ?_) (fun h19 => ?_)
        · replace hf := if_t hf h19
          refine r_ldc2 C tw_1422 dX10_ring_41 ?_
          cases hf
          exact hend _ _ _ _ S dX10_ring_44
        · replace hf := if_f hf h19
          refine lv_aload_n C.1 C.2.1 dX10_ring_45 rfl (lv_at hl 1 rfl) ?_
          refine lv_iload_n C.1 C.2.1 dX10_ring_46 rfl (lv_at hl 0 rfl) ?_
          obtain ⟨q6, hc7, hf⟩ := bd_o hf
          refine r_callVv C S (As := [.int (oI (q4.2 41 37))]) (rest := []) (ct_X10_isOnePlace l G τ hc7) mi_X10_isOnePlace tw_1423 mv_X10_isOnePlace (rvX10 S) ⟨rfl, rfl⟩ ⟨Nat.le_of_ble_eq_true rfl, Nat.le_of_ble_eq_true rfl⟩ ⟨Nat.zero_le _, Nat.zero_le _⟩ rfl hl.1 rfl (Nat.le_of_ble_eq_true rfl) dX10_ring_47 (fun H locs S => ?_)
          refine r_if_eq C rfl (tgt := 70) dX10_ring_50 (by decide) (fun h18 => ?_) (fun h18 => ?_)
          · replace hf := if_t hf h18
            refine lv_aload_n C.1 C.2.1 dX10_ring_70 rfl (lv_at hl 1 rfl) ?_
            refine lv_iload_n C.1 C.2.1 dX10_ring_71 rfl (lv_at hl 0 rfl) ?_
            obtain ⟨q8, hc9, hf⟩ := bd_o hf
            refine r_callVv C S (As := [.int (oI (q4.2 41 37))]) (rest := []) (ct_X10_isTwo l G τ hc9) mi_X10_isTwo tw_1437 mv_X10_isTwo (rvX10 S) ⟨rfl, rfl⟩ ⟨Nat.le_of_ble_eq_true rfl, Nat.le_of_ble_eq_true rfl⟩ ⟨Nat.zero_le _, Nat.zero_le _⟩ rfl hl.1 rfl (Nat.le_of_ble_eq_true rfl) dX10_ring_72 (fun H locs S => ?_)
            refine r_if_ne C rfl (tgt := 83) dX10_ring_75 (by decide) (fun h13 => ?_) (fun h13 => ?_)
            · replace hf := if_t hf h13
              refine lv_aload_n C.1 C.2.1 dX10_ring_78 rfl (lv_at hl 1 rfl) ?_
              refine lv_iload_n C.1 C.2.1 dX10_ring_79 rfl (lv_at hl 0 rfl) ?_
              obtain ⟨q10, hc11, hf⟩ := bd_o hf
              refine r_callVn C S (As := [.int (oI (q4.2 41 37))]) (rest := []) (ct_X10_isThree l G τ hc11) mi_X10_isThree tw_1445 mv_X10_isThree (rvX10 S) ⟨rfl, rfl⟩ ⟨Nat.le_of_ble_eq_true rfl, Nat.le_of_ble_eq_true rfl⟩ ⟨Nat.zero_le _, Nat.zero_le _⟩ rfl hl.1 rfl (Nat.le_of_ble_eq_true rfl) dX10_ring_80 (fun H locs S => ?_)
              exact b_X10_ring_b83 C hend v2 S (lv_sub hl [1, 3] rfl) hf
            · replace hf := if_f hf h13
              exact b_X10_ring_b83 C hend v2 S (lv_sub hl [1, 3] rfl) hf
          · replace hf := if_f hf h18
            refine lv_aload_n C.1 C.2.1 dX10_ring_53 rfl (lv_at hl 1 rfl) ?_
            refine r_lconst C (z := 0) dX10_ring_54 (by decide) ?_
            refine r_lconst C (z := 1) dX10_ring_55 (by decide) ?_
            refine lv_iload_n C.1 C.2.1 dX10_ring_56 rfl (lv_at hl 0 rfl) ?_
            obtain ⟨q14, hc15, hf⟩ := bd_o hf
            refine r_callSv C S (As := [.int (oI (q4.2 41 37))]) (rest := [.long (oL 1), .long (oL 0), .ref (G.1 41)]) (ct_X10_lowest l G τ hc15) mi_X10_lowest tw_1427 ms_X10_lowest ⟨rfl, rfl⟩ ⟨Nat.le_of_ble_eq_true rfl, Nat.le_of_ble_eq_true rfl⟩ ⟨Nat.zero_le _, Nat.zero_le _⟩ rfl hl.1 rfl (Nat.le_of_ble_eq_true rfl) dX10_ring_57 (fun H locs S => ?_)
            refine r_bipush C dX10_ring_60 (by decide) ?_
            refine r_bipush C dX10_ring_62 (by decide) ?_
            obtain ⟨q16, hc17, hf⟩ := bd_o hf
            refine r_callVn C S (As := [.long (oL 0), .long (oL 1), .int (oI q14), .int (oI ((-2))), .int (oI ((-2)))]) (rest := []) (ct_X10_isRing l G τ hc17) mi_X10_isRing tw_1430 mv_X10_isRing (rvX10 S) ⟨rfl, rfl⟩ ⟨Nat.le_of_ble_eq_true rfl, Nat.le_of_ble_eq_true rfl⟩ ⟨Nat.zero_le _, Nat.zero_le _⟩ rfl hl.1 rfl (Nat.le_of_ble_eq_true rfl) dX10_ring_64 (fun H locs S => ?_)
            refine lv_goto C.1 C.2.1 (tgt := 83) dX10_ring_67 (by decide) ?_
            exact b_X10_ring_b83 C hend v2 S (lv_sub hl [1, 3] rfl) hf
      · replace hf := if_f hf h20
        refine r_ldc2 C tw_1421 dX10_ring_22 ?_
        cases hf
        exact hend _ _ _ _ S dX10_ring_25
set_option maxRecDepth 100000 in
set_option maxHeartbeats 4000000 in
theorem ct_X10_part (l : Launch) (G : Gd) (τ : Sg) {v1 : Int} {v2 : Int} {σ : Sg} {q : Int × Sg} (hf : f_X10_part v1 v2 σ = some q) : Ctr l yX10_part cX10_part 5 (some .int) (rmk 4 119) G false τ [.ref (G.1 41), .int (oI v1), .int (oI v2)] σ q.2 (some (.int (oI q.1))) := by
  unfold f_X10_part at hf
  refine CtrI.of (own := RX10) (plainFor_of_name (by decide)) (Nat.le_of_ble_eq_true rfl) rfl (fun p e s m below meth c Q ls C hl S hend => ?_)
  have hl : lv_has ls 5 [(0, .ref (G.1 41)), (1, .int (oI v1)), (2, .int (oI v2))] := hl
  refine lv_aload_n C.1 C.2.1 dX10_part_0 rfl (lv_at hl 0 rfl) ?_
  refine r_iconst C dX10_part_1 ?_
  refine p10_thrown C S tw_1061 dX10_part_2 (fun H locs S => ?_)
  obtain ⟨σ1, S, hf⟩ := wr_s S hf
  refine lv_aload_n C.1 C.2.1 dX10_part_5 rfl (lv_at hl 0 rfl) ?_
  refine lv_iload_n C.1 C.2.1 dX10_part_6 rfl (lv_at hl 1 rfl) ?_
  obtain ⟨q2, hc3, hf⟩ := bd_o hf
  refine r_callVv C S (As := [.int (oI v1)]) (rest := []) (ct_X10_isTreaty l G τ hc3) mi_X10_isTreaty tw_1373 mv_X10_isTreaty (rvX10 S) ⟨rfl, rfl⟩ ⟨Nat.le_of_ble_eq_true rfl, Nat.le_of_ble_eq_true rfl⟩ ⟨Nat.zero_le _, Nat.zero_le _⟩ rfl hl.1 rfl (Nat.le_of_ble_eq_true rfl) dX10_part_7 (fun H locs S => ?_)
  refine r_if_eq C rfl (tgt := 21) dX10_part_10 (by decide) (fun h14 => ?_) (fun h14 => ?_)
  · replace hf := if_t hf h14
    refine r_iconst C dX10_part_21 ?_
    cases hf
    exact hend _ _ _ _ S dX10_part_22
  · replace hf := if_f hf h14
    refine lv_aload_n C.1 C.2.1 dX10_part_13 rfl (lv_at hl 0 rfl) ?_
    refine lv_iload_n C.1 C.2.1 dX10_part_14 rfl (lv_at hl 2 rfl) ?_
    obtain ⟨q4, hc5, hf⟩ := bd_o hf
    refine r_callVv C S (As := [.int (oI v2)]) (rest := []) (ct_X10_isPolicy l G τ hc5) mi_X10_isPolicy tw_1347 mv_X10_isPolicy (rvX10 S) ⟨rfl, rfl⟩ ⟨Nat.le_of_ble_eq_true rfl, Nat.le_of_ble_eq_true rfl⟩ ⟨Nat.zero_le _, Nat.zero_le _⟩ rfl hl.1 rfl (Nat.le_of_ble_eq_true rfl) dX10_part_15 (fun H locs S => ?_)
    refine r_if_ne C rfl (tgt := 23) dX10_part_18 (by decide) (fun h13 => ?_) (fun h13 => ?_)
    · replace hf := if_t hf h13
      refine r_iconst C dX10_part_21 ?_
      cases hf
      exact hend _ _ _ _ S dX10_part_22
    · replace hf := if_f hf h13
      refine lv_aload_n C.1 C.2.1 dX10_part_23 rfl (lv_at hl 0 rfl) ?_
      refine lv_iload_n C.1 C.2.1 dX10_part_24 rfl (lv_at hl 1 rfl) ?_
      obtain ⟨q6, hc7, hf⟩ := bd_o hf
      refine r_callVv C S (As := [.int (oI v1)]) (rest := []) (ct_X10_ofTreaty l G τ hc7) mi_X10_ofTreaty tw_1277 mv_X10_ofTreaty (rvX10 S) ⟨rfl, rfl⟩ ⟨Nat.le_of_ble_eq_true rfl, Nat.le_of_ble_eq_true rfl⟩ ⟨Nat.zero_le _, Nat.zero_le _⟩ rfl hl.1 rfl (Nat.le_of_ble_eq_true rfl) dX10_part_25 (fun H locs S => ?_)
      refine lv_istore_n C.1 C.2.1 dX10_part_28 rfl hl (by decide) (lv' := [(3, .int (oI q6)), (0, .ref (G.1 41)), (1, .int (oI v1)), (2, .int (oI v2))]) rfl (fun ls hl => ?_)
      refine lv_aload_n C.1 C.2.1 dX10_part_29 rfl (lv_at hl 1 rfl) ?_
      refine lv_iload_n C.1 C.2.1 dX10_part_30 rfl (lv_at hl 2 rfl) ?_
      obtain ⟨q8, hc9, hf⟩ := bd_o hf
      refine r_callVv C S (As := [.int (oI v1)]) (rest := []) (ct_X10_worstOf l G τ hc9) mi_X10_worstOf tw_1273 mv_X10_worstOf (rvX10 S) ⟨rfl, rfl⟩ ⟨Nat.le_of_ble_eq_true rfl, Nat.le_of_ble_eq_true rfl⟩ ⟨Nat.zero_le _, Nat.zero_le _⟩ rfl hl.1 rfl (Nat.le_of_ble_eq_true rfl) dX10_part_31 (fun H locs S => ?_)
      refine lv_istore C.1 C.2.1 dX10_part_34 hl (by decide) (lv' := [(4, .int (oI q8.1)), (3, .int (oI q6)), (0, .ref (G.1 41)), (1, .int (oI v1)), (2, .int (oI v2))]) rfl (fun ls hl => ?_)
      refine lv_aload_n C.1 C.2.1 dX10_part_36 rfl (lv_at hl 2 rfl) ?_
      refine lv_iload_n C.1 C.2.1 dX10_part_37 rfl (lv_at hl 1 rfl) ?_
      refine r_iconst C dX10_part_38 ?_
      refine lv_iload_n C.1 C.2.1 dX10_part_39 rfl (lv_at hl 4 rfl) ?_
      refine r_ishl C (y1 := (u32 v2 % 32)) rfl dX10_part_40 ?_
      refine r_iconst C dX10_part_41 ?_
      refine r_ixor C rfl (show u32 (-1) = 4294967295 by decide) dX10_part_42 ?_
      refine r_iand C rfl (u32_nat (nb_xor (u32_lt _) (show 4294967295 < 4294967296 by decide))) dX10_part_43 ?_
      refine lv_aload_n C.1 C.2.1 dX10_part_44 rfl (lv_at hl 2 rfl) ?_
      refine g10_radius C S tw_1084 dX10_part_45 ?_
      refine lv_iload_n C.1 C.2.1 dX10_part_48 rfl (lv_at hl 3 rfl) ?_
      obtain ⟨hi10, hf⟩ := ck_o hf
      refine a_iald C S ar_51 hi10 dX10_part_49 ?_
      refine r_iconst C dX10_part_50 ?_
      obtain ⟨q11, hc12, hf⟩ := bd_o hf
      refine r_callVn C S (As := [.int (oI ((((u32 q6) &&& ((u32 (1 * ((2 ^ (u32 v2 % 32) : Nat) : Int))) ^^^ 4294967295) : Nat) : Int))), .int (oI (q8.2 51 (v1).toNat)), .int (oI ((-1)))]) (rest := []) (ct_X10_weighs l G τ hc12) mi_X10_weighs tw_1288 mv_X10_weighs (rvX10 S) ⟨rfl, rfl⟩ ⟨Nat.le_of_ble_eq_true rfl, Nat.le_of_ble_eq_true rfl⟩ ⟨Nat.zero_le _, Nat.zero_le _⟩ rfl hl.1 rfl (Nat.le_of_ble_eq_true rfl) dX10_part_51 (fun H locs S => ?_)
      refine lv_iload C.1 C.2.1 dX10_part_54 (lv_at hl 0 rfl) ?_
      refine lv_aload_n C.1 C.2.1 dX10_part_56 rfl (lv_at hl 2 rfl) ?_
      refine g10_bestSum C S tw_1097 dX10_part_57 ?_
      refine r_isub C dX10_part_60 ?_
      cases hf
      exact hend _ _ _ _ S dX10_part_61
set_option maxRecDepth 100000 in
set_option maxHeartbeats 4000000 in
theorem ct_X10_second (l : Launch) (G : Gd) (τ : Sg) {v1 : Int} {σ : Sg} {q : Int × Sg} (hf : f_X10_second v1 σ = some q) : Ctr l yX10_second cX10_second 2 (some .int) (rmk 4 119) G false τ [.ref (G.1 41), .int (oI v1)] σ q.2 (some (.int (oI q.1))) := by
  unfold f_X10_second at hf
  refine CtrI.of (own := RX10) (plainFor_of_name (by decide)) (Nat.le_of_ble_eq_true rfl) rfl (fun p e s m below meth c Q ls C hl S hend => ?_)
  have hl : lv_has ls 2 [(0, .ref (G.1 41)), (1, .int (oI v1))] := hl
  refine lv_aload_n C.1 C.2.1 dX10_second_0 rfl (lv_at hl 0 rfl) ?_
  refine r_iconst C dX10_second_1 ?_
  refine p10_thrown C S tw_1061 dX10_second_2 (fun H locs S => ?_)
  obtain ⟨σ1, S, hf⟩ := wr_s S hf
  refine lv_aload_n C.1 C.2.1 dX10_second_5 rfl (lv_at hl 0 rfl) ?_
  refine lv_iload_n C.1 C.2.1 dX10_second_6 rfl (lv_at hl 1 rfl) ?_
  obtain ⟨q2, hc3, hf⟩ := bd_o hf
  refine r_callVv C S (As := [.int (oI v1)]) (rest := []) (ct_X10_isTreaty l G τ hc3) mi_X10_isTreaty tw_1373 mv_X10_isTreaty (rvX10 S) ⟨rfl, rfl⟩ ⟨Nat.le_of_ble_eq_true rfl, Nat.le_of_ble_eq_true rfl⟩ ⟨Nat.zero_le _, Nat.zero_le _⟩ rfl hl.1 rfl (Nat.le_of_ble_eq_true rfl) dX10_second_7 (fun H locs S => ?_)
  refine r_if_ne C rfl (tgt := 15) dX10_second_10 (by decide) (fun h11 => ?_) (fun h11 => ?_)
  · replace hf := if_t hf h11
    refine r_iconst C dX10_second_13 ?_
    cases hf
    exact hend _ _ _ _ S dX10_second_14
  · replace hf := if_f hf h11
    refine lv_aload_n C.1 C.2.1 dX10_second_15 rfl (lv_at hl 0 rfl) ?_
    refine lv_iload_n C.1 C.2.1 dX10_second_16 rfl (lv_at hl 1 rfl) ?_
    obtain ⟨q4, hc5, hf⟩ := bd_o hf
    refine r_callVv C S (As := [.int (oI v1)]) (rest := []) (ct_X10_worstOf l G τ hc5) mi_X10_worstOf tw_1273 mv_X10_worstOf (rvX10 S) ⟨rfl, rfl⟩ ⟨Nat.le_of_ble_eq_true rfl, Nat.le_of_ble_eq_true rfl⟩ ⟨Nat.zero_le _, Nat.zero_le _⟩ rfl hl.1 rfl (Nat.le_of_ble_eq_true rfl) dX10_second_17 (fun H locs S => ?_)
    refine lv_pop C.1 C.2.1 dX10_second_20 rfl ?_
    refine lv_aload_n C.1 C.2.1 dX10_second_21 rfl (lv_at hl 0 rfl) ?_
    refine lv_aload_n C.1 C.2.1 dX10_second_22 rfl (lv_at hl 0 rfl) ?_
    refine lv_iload_n C.1 C.2.1 dX10_second_23 rfl (lv_at hl 1 rfl) ?_
    obtain ⟨q6, hc7, hf⟩ := bd_o hf
    refine r_callVv C S (As := [.int (oI v1)]) (rest := [.ref (G.1 41)]) (ct_X10_ofTreaty l G τ hc7) mi_X10_ofTreaty tw_1277 mv_X10_ofTreaty (rvX10 S) ⟨rfl, rfl⟩ ⟨Nat.le_of_ble_eq_true rfl, Nat.le_of_ble_eq_true rfl⟩ ⟨Nat.zero_le _, Nat.zero_le _⟩ rfl hl.1 rfl (Nat.le_of_ble_eq_true rfl) dX10_second_24 (fun H locs S => ?_)
    refine lv_aload_n C.1 C.2.1 dX10_second_27 rfl (lv_at hl 0 rfl) ?_
    refine g10_bestSet C S tw_1098 dX10_second_28 ?_
    refine r_iconst C dX10_second_31 ?_
    refine r_ixor C rfl (show u32 (-1) = 4294967295 by decide) dX10_second_32 ?_
    refine r_iand C rfl (u32_nat (nb_xor (u32_lt _) (show 4294967295 < 4294967296 by decide))) dX10_second_33 ?_
    refine lv_aload_n C.1 C.2.1 dX10_second_34 rfl (lv_at hl 0 rfl) ?_
    refine g10_radius C S tw_1084 dX10_second_35 ?_
    refine lv_iload_n C.1 C.2.1 dX10_second_38 rfl (lv_at hl 1 rfl) ?_
    obtain ⟨hi8, hf⟩ := ck_o hf
    refine a_iald C S ar_51 hi8 dX10_second_39 ?_
    refine r_iconst C dX10_second_40 ?_
    obtain ⟨q9, hc10, hf⟩ := bd_o hf
    refine r_callVn C S (As := [.int (oI ((((u32 q6) &&& ((u32 (q4.2 41 37)) ^^^ 4294967295) : Nat) : Int))), .int (oI (q4.2 51 (v1).toNat)), .int (oI ((-1)))]) (rest := []) (ct_X10_weighs l G τ hc10) mi_X10_weighs tw_1288 mv_X10_weighs (rvX10 S) ⟨rfl, rfl⟩ ⟨Nat.le_of_ble_eq_true rfl, Nat.le_of_ble_eq_true rfl⟩ ⟨Nat.zero_le _, Nat.zero_le _⟩ rfl hl.1 rfl (Nat.le_of_ble_eq_true rfl) dX10_second_41 (fun H locs S => ?_)
    refine lv_aload_n C.1 C.2.1 dX10_second_44 rfl (lv_at hl 0 rfl) ?_
    refine g10_bestSum C S tw_1097 dX10_second_45 ?_
    cases hf
    exact hend _ _ _ _ S dX10_second_48
set_option maxRecDepth 100000 in
set_option maxHeartbeats 4000000 in
theorem b_X10_chainOf_b69 (C : Cx p s m args c RX10 cX10_chainOf 7) {q : Int × Sg} {k8 : Int → Int → Int → Int → Sg → Option (Int × Sg)} {k22 : Int → Int → Int → Int → Int → Sg → Option (Int × Sg)} (hend : EndR p l e (rmk 2 47) s m args below meth c Q G false τ cX10_chainOf .ireturn [.int (oI q.1)] q.2) (hk8 : ∀ {H : Heap} {locs : List Loc} {ls : Array Slot} {σ : Sg} (v2 : Int) (v3 : Int) (v4 : Int) (v5 : Int), St G false τ σ s H locs → lv_has ls 7 [(0, .ref (G.1 41)), (2, .int (oI v2)), (3, .int (oI v3)), (4, .int (oI v4)), (5, .int (oI v5))] → k8 v2 v3 v4 v5 σ = some q → W p l e (rmk 2 47) s m args below meth c H locs 0 0 Q (F0 m 8 ls [])) (hk22 : ∀ {H : Heap} {locs : List Loc} {ls : Array Slot} {σ : Sg} (v2 : Int) (v3 : Int) (v4 : Int) (v5 : Int) (v6 : Int), St G false τ σ s H locs → lv_has ls 7 [(0, .ref (G.1 41)), (2, .int (oI v2)), (3, .int (oI v3)), (4, .int (oI v4)), (5, .int (oI v5)), (6, .int (oI v6))] → k22 v2 v3 v4 v5 v6 σ = some q → W p l e (rmk 2 47) s m args below meth c H locs 0 0 Q (F0 m 22 ls [])) {H : Heap} {locs : List Loc} {ls : Array Slot} {σ : Sg} (v2 : Int) (v3 : Int) (v4 : Int) (v5 : Int) (v6 : Int) (S : St G false τ σ s H locs) (hl : lv_has ls 7 [(0, .ref (G.1 41)), (2, .int (oI v2)), (3, .int (oI v3)), (4, .int (oI v4)), (5, .int (oI v5)), (6, .int (oI v6))]) (hf : f_X10_chainOf_b69 k8 k22 v2 v3 v4 v5 v6 σ = some q) : W p l e (rmk 2 47) s m args below meth c H locs 0 0 Q (F0 m 69 ls []) := by
  unfold f_X10_chainOf_b69 at hf
  refine r_iinc C dX10_chainOf_69 hl (k := 5) rfl (by decide) (lv' := [(6, .int (oI (v6 + 1))), (0, .ref (G.1 41)), (2, .int (oI v2)), (3, .int (oI v3)), (4, .int (oI v4)), (5, .int (oI v5))]) rfl (fun ls hl => ?_)
  refine lv_goto C.1 C.2.1 (tgt := 22) dX10_chainOf_72 (by decide) ?_
  exact hk22 v2 v3 v4 v5 (v6 + 1) S (lv_sub hl [1, 2, 3, 4, 5, 0] rfl) hf
set_option maxRecDepth 100000 in
set_option maxHeartbeats 4000000 in
theorem b_X10_chainOf_b75 (C : Cx p s m args c RX10 cX10_chainOf 7) {q : Int × Sg} {k8 : Int → Int → Int → Int → Sg → Option (Int × Sg)} (hend : EndR p l e (rmk 2 47) s m args below meth c Q G false τ cX10_chainOf .ireturn [.int (oI q.1)] q.2) (hk8 : ∀ {H : Heap} {locs : List Loc} {ls : Array Slot} {σ : Sg} (v2 : Int) (v3 : Int) (v4 : Int) (v5 : Int), St G false τ σ s H locs → lv_has ls 7 [(0, .ref (G.1 41)), (2, .int (oI v2)), (3, .int (oI v3)), (4, .int (oI v4)), (5, .int (oI v5))] → k8 v2 v3 v4 v5 σ = some q → W p l e (rmk 2 47) s m args below meth c H locs 0 0 Q (F0 m 8 ls [])) {H : Heap} {locs : List Loc} {ls : Array Slot} {σ : Sg} (v2 : Int) (v3 : Int) (v4 : Int) (v5 : Int) (S : St G false τ σ s H locs) (hl : lv_has ls 7 [(0, .ref (G.1 41)), (2, .int (oI v2)), (3, .int (oI v3)), (4, .int (oI v4)), (5, .int (oI v5))]) (hf : f_X10_chainOf_b75 k8 v2 v3 v4 v5 σ = some q) : W p l e (rmk 2 47) s m args below meth c H locs 0 0 Q (F0 m 75 ls []) := by
  unfold f_X10_chainOf_b75 at hf
  refine lv_goto C.1 C.2.1 (tgt := 8) dX10_chainOf_75 (by decide) ?_
  exact hk8 v2 v3 v4 v5 S (lv_sub hl [0, 1, 2, 3, 4] rfl) hf
set_option maxRecDepth 100000 in
set_option maxHeartbeats 4000000 in
theorem b_X10_chainOf_b22 (C : Cx p s m args c RX10 cX10_chainOf 7) {q : Int × Sg} {k8 : Int → Int → Int → Int → Sg → Option (Int × Sg)} (hend : EndR p l e (rmk 2 47) s m args below meth c Q G false τ cX10_chainOf .ireturn [.int (oI q.1)] q.2) (hk8 : ∀ {H : Heap} {locs : List Loc} {ls : Array Slot} {σ : Sg} (v2 : Int) (v3 : Int) (v4 : Int) (v5 : Int), St G false τ σ s H locs → lv_has ls 7 [(0, .ref (G.1 41)), (2, .int (oI v2)), (3, .int (oI v3)), (4, .int (oI v4)), (5, .int (oI v5))] → k8 v2 v3 v4 v5 σ = some q → W p l e (rmk 2 47) s m args below meth c H locs 0 0 Q (F0 m 8 ls [])) : ∀ (n : Nat) {H : Heap} {locs : List Loc} {ls : Array Slot} {σ : Sg} (v2 : Int) (v3 : Int) (v4 : Int) (v5 : Int) (v6 : Int) (S : St G false τ σ s H locs) (hl : lv_has ls 7 [(0, .ref (G.1 41)), (2, .int (oI v2)), (3, .int (oI v3)), (4, .int (oI v4)), (5, .int (oI v5)), (6, .int (oI v6))]) (hf : f_X10_chainOf_b22 k8 n v2 v3 v4 v5 v6 σ = some q), W p l e (rmk 2 47) s m args below meth c H locs 0 0 Q (F0 m 22 ls []) := by
  intro n
  induction n with
  | zero => intro H locs ls σ v2 v3 v4 v5 v6 S hl hf; cases hf
  | succ n ih =>
    intro H locs ls σ v2 v3 v4 v5 v6 S hl hf
    have hk22 := @ih
    rw [f_X10_chainOf_b22] at hf
    refine lv_iload C.1 C.2.1 dX10_chainOf_22 (lv_at hl 5 rfl) ?_
    refine r_bipush C dX10_chainOf_24 (by decide) ?_
    refine r_icmp_ge C rfl (show w32 24 = 24 by decide) (tgt := 75) dX10_chainOf_26 (by decide) (fun h10 => ?_) (fun h10 => ?_)
    · replace hf := if_t hf h10
      refine lv_iload_n C.1 C.2.1 dX10_chainOf_29 rfl (lv_at hl 1 rfl) ?_
      refine lv_iload C.1 C.2.1 dX10_chainOf_30 (lv_at hl 5 rfl) ?_
      obtain ⟨q1, hc2, hf⟩ := bd_o hf
      refine r_callSv C S (As := [.int (oI v2), .int (oI v6)]) (rest := []) (ct_X10_has l G τ hc2) mi_X10_has tw_1285 ms_X10_has ⟨rfl, rfl⟩ ⟨Nat.le_of_ble_eq_true rfl, Nat.le_of_ble_eq_true rfl⟩ ⟨Nat.zero_le _, Nat.zero_le _⟩ rfl hl.1 rfl (Nat.le_of_ble_eq_true rfl) dX10_chainOf_32 (fun H locs S => ?_)
      refine r_if_eq C rfl (tgt := 69) dX10_chainOf_35 (by decide) (fun h9 => ?_) (fun h9 => ?_)
      · replace hf := if_t hf h9
        exact b_X10_chainOf_b69 C hend hk8 hk22 v2 v3 v4 v5 v6 S (lv_sub hl [0, 1, 2, 3, 4, 5] rfl) hf
      · replace hf := if_f hf h9
        refine lv_iload C.1 C.2.1 dX10_chainOf_38 (lv_at hl 3 rfl) ?_
        refine lv_iload C.1 C.2.1 dX10_chainOf_40 (lv_at hl 5 rfl) ?_
        obtain ⟨q3, hc4, hf⟩ := bd_o hf
        refine r_callSv C S (As := [.int (oI v4), .int (oI v6)]) (rest := []) (ct_X10_has l G τ hc4) mi_X10_has tw_1285 ms_X10_has ⟨rfl, rfl⟩ ⟨Nat.le_of_ble_eq_true rfl, Nat.le_of_ble_eq_true rfl⟩ ⟨Nat.zero_le _, Nat.zero_le _⟩ rfl hl.1 rfl (Nat.le_of_ble_eq_true rfl) dX10_chainOf_42 (fun H locs S => ?_)
        refine r_if_ne C rfl (tgt := 69) dX10_chainOf_45 (by decide) (fun h8 => ?_) (fun h8 => ?_)
        · replace hf := if_t hf h8
          refine lv_aload_n C.1 C.2.1 dX10_chainOf_48 rfl (lv_at hl 0 rfl) ?_
          refine lv_iload C.1 C.2.1 dX10_chainOf_49 (lv_at hl 5 rfl) ?_
          refine lv_iload C.1 C.2.1 dX10_chainOf_51 (lv_at hl 3 rfl) ?_
          refine lv_iload_n C.1 C.2.1 dX10_chainOf_53 rfl (lv_at hl 2 rfl) ?_
          obtain ⟨q5, hc6, hf⟩ := bd_o hf
          refine r_callVv C S (As := [.int (oI v6), .int (oI v4), .int (oI v3)]) (rest := []) (ct_X10_around l G τ hc6) mi_X10_around tw_1293 mv_X10_around (rvX10 S) ⟨rfl, rfl⟩ ⟨Nat.le_of_ble_eq_true rfl, Nat.le_of_ble_eq_true rfl⟩ ⟨Nat.zero_le _, Nat.zero_le _⟩ rfl hl.1 rfl (Nat.le_of_ble_eq_true rfl) dX10_chainOf_54 (fun H locs S => ?_)
          refine r_if_eq C rfl (tgt := 69) dX10_chainOf_57 (by decide) (fun h7 => ?_) (fun h7 => ?_)
          · replace hf := if_t hf h7
            exact b_X10_chainOf_b69 C hend hk8 hk22 v2 v3 v4 v5 v6 S (lv_sub hl [0, 1, 2, 3, 4, 5] rfl) hf
          · replace hf := if_f hf h7
            refine lv_iload C.1 C.2.1 dX10_chainOf_60 (lv_at hl 3 rfl) ?_
            refine r_iconst C dX10_chainOf_62 ?_
            refine lv_iload C.1 C.2.1 dX10_chainOf_63 (lv_at hl 5 rfl) ?_
            refine r_ishl C (y1 := (u32 v6 % 32)) rfl dX10_chainOf_65 ?_
            refine r_ior C rfl rfl dX10_chainOf_66 ?_
            refine lv_istore C.1 C.2.1 dX10_chainOf_67 hl (by decide) (lv' := [(4, .int (oI ((((u32 v4) ||| (u32 (1 * ((2 ^ (u32 v6 % 32) : Nat) : Int))) : Nat) : Int)))), (0, .ref (G.1 41)), (2, .int (oI v2)), (3, .int (oI v3)), (5, .int (oI v5)), (6, .int (oI v6))]) rfl (fun ls hl => ?_)
            exact b_X10_chainOf_b69 C hend hk8 hk22 v2 v3 ((((u32 v4) ||| (u32 (1 * ((2 ^ (u32 v6 % 32) : Nat) : Int))) : Nat) : Int)) v5 v6 S (lv_sub hl [1, 2, 3, 0, 4, 5] rfl) hf
        · replace hf := if_f hf h8
          exact b_X10_chainOf_b69 C hend hk8 hk22 v2 v3 v4 v5 v6 S (lv_sub hl [0, 1, 2, 3, 4, 5] rfl) hf
    · replace hf := if_f hf h10
      exact b_X10_chainOf_b75 C hend hk8 v2 v3 v4 v5 S (lv_sub hl [0, 1, 2, 3, 4] rfl) hf
set_option maxRecDepth 100000 in
set_option maxHeartbeats 4000000 in
theorem b_X10_chainOf_b8 (C : Cx p s m args c RX10 cX10_chainOf 7) {q : Int × Sg} (hend : EndR p l e (rmk 2 47) s m args below meth c Q G false τ cX10_chainOf .ireturn [.int (oI q.1)] q.2) : ∀ (n : Nat) {H : Heap} {locs : List Loc} {ls : Array Slot} {σ : Sg} (v2 : Int) (v3 : Int) (v4 : Int) (v5 : Int) (S : St G false τ σ s H locs) (hl : lv_has ls 7 [(0, .ref (G.1 41)), (2, .int (oI v2)), (3, .int (oI v3)), (4, .int (oI v4)), (5, .int (oI v5))]) (hf : f_X10_chainOf_b8 n v2 v3 v4 v5 σ = some q), W p l e (rmk 2 47) s m args below meth c H locs 0 0 Q (F0 m 8 ls []) := by
  intro n
  induction n with
  | zero => intro H locs ls σ v2 v3 v4 v5 S hl hf; cases hf
  | succ n ih =>
    intro H locs ls σ v2 v3 v4 v5 S hl hf
    have hk8 := @ih
    rw [f_X10_chainOf_b8] at hf
    refine lv_iload C.1 C.2.1 dX10_chainOf_8 (lv_at hl 4 rfl) ?_
    refine lv_iload C.1 C.2.1 dX10_chainOf_10 (lv_at hl 3 rfl) ?_
    refine r_icmp_eq C rfl rfl (tgt := 78) dX10_chainOf_12 (by decide) (fun h11 => ?_) (fun h11 => ?_)
    · replace hf := if_t hf h11
      refine lv_iload C.1 C.2.1 dX10_chainOf_78 (lv_at hl 3 rfl) ?_
      cases hf
      exact hend _ _ _ _ S dX10_chainOf_80
    · replace hf := if_f hf h11
      refine lv_iload C.1 C.2.1 dX10_chainOf_15 (lv_at hl 3 rfl) ?_
      refine lv_istore C.1 C.2.1 dX10_chainOf_17 hl (by decide) (lv' := [(5, .int (oI v4)), (0, .ref (G.1 41)), (2, .int (oI v2)), (3, .int (oI v3)), (4, .int (oI v4))]) rfl (fun ls hl => ?_)
      refine r_iconst C dX10_chainOf_19 ?_
      refine lv_istore C.1 C.2.1 dX10_chainOf_20 hl (by decide) (lv' := [(6, .int (oI 0)), (5, .int (oI v4)), (0, .ref (G.1 41)), (2, .int (oI v2)), (3, .int (oI v3)), (4, .int (oI v4))]) rfl (fun ls hl => ?_)
      exact b_X10_chainOf_b22 C hend hk8 FUEL v2 v3 v4 v4 0 S (lv_sub hl [2, 3, 4, 5, 1, 0] rfl) hf
set_option maxRecDepth 100000 in
set_option maxHeartbeats 4000000 in
theorem ct_X10_chainOf (l : Launch) (G : Gd) (τ : Sg) {v1 : Int} {v2 : Int} {v3 : Int} {σ : Sg} {q : Int × Sg} (hf : f_X10_chainOf v1 v2 v3 σ = some q) : Ctr l yX10_chainOf cX10_chainOf 7 (some .int) (rmk 2 47) G false τ [.ref (G.1 41), .int (oI v1), .int (oI v2), .int (oI v3)] σ q.2 (some (.int (oI q.1))) := by
  unfold f_X10_chainOf at hf
  refine CtrI.of (own := RX10) (plainFor_of_name (by decide)) (Nat.le_of_ble_eq_true rfl) rfl (fun p e s m below meth c Q ls C hl S hend => ?_)
  have hl : lv_has ls 7 [(0, .ref (G.1 41)), (1, .int (oI v1)), (2, .int (oI v2)), (3, .int (oI v3))] := hl
  refine r_iconst C dX10_chainOf_0 ?_
  refine lv_iload_n C.1 C.2.1 dX10_chainOf_1 rfl (lv_at hl 1 rfl) ?_
  refine r_ishl C (y1 := (u32 v1 % 32)) rfl dX10_chainOf_2 ?_
  refine lv_istore C.1 C.2.1 dX10_chainOf_3 hl (by decide) (lv' := [(4, .int (oI (1 * ((2 ^ (u32 v1 % 32) : Nat) : Int)))), (0, .ref (G.1 41)), (1, .int (oI v1)), (2, .int (oI v2)), (3, .int (oI v3))]) rfl (fun ls hl => ?_)
  refine r_iconst C dX10_chainOf_5 ?_
  refine lv_istore C.1 C.2.1 dX10_chainOf_6 hl (by decide) (lv' := [(5, .int (oI 0)), (4, .int (oI (1 * ((2 ^ (u32 v1 % 32) : Nat) : Int)))), (0, .ref (G.1 41)), (1, .int (oI v1)), (2, .int (oI v2)), (3, .int (oI v3))]) rfl (fun ls hl => ?_)
  exact b_X10_chainOf_b8 C hend FUEL v2 v3 (1 * ((2 ^ (u32 v1 % 32) : Nat) : Int)) 0 S (lv_sub hl [2, 4, 5, 1, 0] rfl) hf
set_option maxRecDepth 100000 in
set_option maxHeartbeats 4000000 in
theorem b_X10_chains_b134 (C : Cx p s m args c RX10 cX10_chains 10) {q : Int × Sg} (hend : EndR p l e (rmk 3 73) s m args below meth c Q G false τ cX10_chains .ireturn [.int (oI q.1)] q.2) {H : Heap} {locs : List Loc} {ls : Array Slot} {σ : Sg} (v3 : Int) (v6 : Int) (v7 : Int) (v8 : Int) (S : St G false τ σ s H locs) (hl : lv_has ls 10 [(0, .ref (G.1 41)), (3, .int (oI v3)), (6, .int (oI v6)), (7, .int (oI v7)), (8, .int (oI v8))]) (hf : f_X10_chains_b134 v3 v6 v7 v8 σ = some q) : W p l e (rmk 3 73) s m args below meth c H locs 0 0 Q (F0 m 134 ls []) := by
  unfold f_X10_chains_b134 at hf
  refine lv_iload_n C.1 C.2.1 dX10_chains_134 rfl (lv_at hl 1 rfl) ?_
  refine r_if_ne C rfl (tgt := 143) dX10_chains_135 (by decide) (fun h10 => ?_) (fun h10 => ?_)
  · replace hf := if_t hf h10
    refine lv_iload C.1 C.2.1 dX10_chains_138 (lv_at hl 2 rfl) ?_
    refine lv_goto C.1 C.2.1 (tgt := 169) dX10_chains_140 (by decide) ?_
    cases hf
    exact hend _ _ _ _ S dX10_chains_169
  · replace hf := if_f hf h10
    refine lv_iload_n C.1 C.2.1 dX10_chains_143 rfl (lv_at hl 1 rfl) ?_
    refine r_iconst C dX10_chains_144 ?_
    refine r_icmp_ne C rfl (show w32 1 = 1 by decide) (tgt := 153) dX10_chains_145 (by decide) (fun h9 => ?_) (fun h9 => ?_)
    · replace hf := if_t hf h9
      refine lv_iload C.1 C.2.1 dX10_chains_148 (lv_at hl 3 rfl) ?_
      refine lv_goto C.1 C.2.1 (tgt := 169) dX10_chains_150 (by decide) ?_
      cases hf
      exact hend _ _ _ _ S dX10_chains_169
    · replace hf := if_f hf h9
      refine lv_iload_n C.1 C.2.1 dX10_chains_153 rfl (lv_at hl 1 rfl) ?_
      refine r_iconst C dX10_chains_154 ?_
      refine r_icmp_ne C rfl (show w32 2 = 2 by decide) (tgt := 167) dX10_chains_155 (by decide) (fun h8 => ?_) (fun h8 => ?_)
      · replace hf := if_t hf h8
        refine lv_aload_n C.1 C.2.1 dX10_chains_158 rfl (lv_at hl 0 rfl) ?_
        refine lv_iload C.1 C.2.1 dX10_chains_159 (lv_at hl 4 rfl) ?_
        obtain ⟨q6, hc7, hf⟩ := bd_o hf
        refine r_callVv C S (As := [.int (oI v8)]) (rest := []) (ct_X10_sumOf l G τ hc7) mi_X10_sumOf tw_1392 mv_X10_sumOf (rvX10 S) ⟨rfl, rfl⟩ ⟨Nat.le_of_ble_eq_true rfl, Nat.le_of_ble_eq_true rfl⟩ ⟨Nat.zero_le _, Nat.zero_le _⟩ rfl hl.1 rfl (Nat.le_of_ble_eq_true rfl) dX10_chains_161 (fun H locs S => ?_)
        refine lv_goto C.1 C.2.1 (tgt := 169) dX10_chains_164 (by decide) ?_
        cases hf
        exact hend _ _ _ _ S dX10_chains_169
      · replace hf := if_f hf h8
        refine lv_iload C.1 C.2.1 dX10_chains_167 (lv_at hl 4 rfl) ?_
        cases hf
        exact hend _ _ _ _ S dX10_chains_169
set_option maxRecDepth 100000 in
set_option maxHeartbeats 4000000 in
theorem b_X10_chains_b129 (C : Cx p s m args c RX10 cX10_chains 10) {q : Int × Sg} {k54 : Int → Int → Int → Int → Int → Int → Int → Sg → Option (Int × Sg)} (hend : EndR p l e (rmk 3 73) s m args below meth c Q G false τ cX10_chains .ireturn [.int (oI q.1)] q.2) (hk54 : ∀ {H : Heap} {locs : List Loc} {ls : Array Slot} {σ : Sg} (v2 : Int) (v3 : Int) (v4 : Int) (v5 : Int) (v6 : Int) (v7 : Int) (v8 : Int), St G false τ σ s H locs → lv_has ls 10 [(0, .ref (G.1 41)), (2, .int (oI v2)), (3, .int (oI v3)), (4, .int (oI v4)), (5, .int (oI v5)), (6, .int (oI v6)), (7, .int (oI v7)), (8, .int (oI v8))] → k54 v2 v3 v4 v5 v6 v7 v8 σ = some q → W p l e (rmk 3 73) s m args below meth c H locs 0 0 Q (F0 m 54 ls [])) {H : Heap} {locs : List Loc} {ls : Array Slot} {σ : Sg} (v2 : Int) (v3 : Int) (v4 : Int) (v5 : Int) (v6 : Int) (v7 : Int) (w0 : Int) (S : St G false τ σ s H locs) (hl : lv_has ls 10 [(0, .ref (G.1 41)), (2, .int (oI v2)), (3, .int (oI v3)), (4, .int (oI v4)), (5, .int (oI v5)), (6, .int (oI v6)), (7, .int (oI v7))]) (hf : f_X10_chains_b129 k54 v2 v3 v4 v5 v6 v7 w0 σ = some q) : W p l e (rmk 3 73) s m args below meth c H locs 0 0 Q (F0 m 129 ls [.int (oI w0)]) := by
  unfold f_X10_chains_b129 at hf
  refine lv_istore C.1 C.2.1 dX10_chains_129 hl (by decide) (lv' := [(8, .int (oI w0)), (0, .ref (G.1 41)), (2, .int (oI v2)), (3, .int (oI v3)), (4, .int (oI v4)), (5, .int (oI v5)), (6, .int (oI v6)), (7, .int (oI v7))]) rfl (fun ls hl => ?_)
  refine lv_goto C.1 C.2.1 (tgt := 54) dX10_chains_131 (by decide) ?_
  exact hk54 v2 v3 v4 v5 v6 v7 w0 S (lv_sub hl [1, 2, 3, 4, 5, 6, 7, 0] rfl) hf
set_option maxRecDepth 100000 in
set_option maxHeartbeats 4000000 in
theorem b_X10_chains_b105 (C : Cx p s m args c RX10 cX10_chains 10) {q : Int × Sg} {k54 : Int → Int → Int → Int → Int → Int → Int → Sg → Option (Int × Sg)} (hend : EndR p l e (rmk 3 73) s m args below meth c Q G false τ cX10_chains .ireturn [.int (oI q.1)] q.2) (hk54 : ∀ {H : Heap} {locs : List Loc} {ls : Array Slot} {σ : Sg} (v2 : Int) (v3 : Int) (v4 : Int) (v5 : Int) (v6 : Int) (v7 : Int) (v8 : Int), St G false τ σ s H locs → lv_has ls 10 [(0, .ref (G.1 41)), (2, .int (oI v2)), (3, .int (oI v3)), (4, .int (oI v4)), (5, .int (oI v5)), (6, .int (oI v6)), (7, .int (oI v7)), (8, .int (oI v8))] → k54 v2 v3 v4 v5 v6 v7 v8 σ = some q → W p l e (rmk 3 73) s m args below meth c H locs 0 0 Q (F0 m 54 ls [])) {H : Heap} {locs : List Loc} {ls : Array Slot} {σ : Sg} (v2 : Int) (v3 : Int) (v4 : Int) (v5 : Int) (v6 : Int) (v8 : Int) (v9 : Int) (w0 : Int) (S : St G false τ σ s H locs) (hl : lv_has ls 10 [(0, .ref (G.1 41)), (2, .int (oI v2)), (3, .int (oI v3)), (4, .int (oI v4)), (5, .int (oI v5)), (6, .int (oI v6)), (8, .int (oI v8)), (9, .int (oI v9))]) (hf : f_X10_chains_b105 k54 v2 v3 v4 v5 v6 v8 v9 w0 σ = some q) : W p l e (rmk 3 73) s m args below meth c H locs 0 0 Q (F0 m 105 ls [.int (oI w0)]) := by
  unfold f_X10_chains_b105 at hf
  refine lv_istore C.1 C.2.1 dX10_chains_105 hl (by decide) (lv' := [(7, .int (oI w0)), (0, .ref (G.1 41)), (2, .int (oI v2)), (3, .int (oI v3)), (4, .int (oI v4)), (5, .int (oI v5)), (6, .int (oI v6)), (8, .int (oI v8)), (9, .int (oI v9))]) rfl (fun ls hl => ?_)
  refine lv_aload_n C.1 C.2.1 dX10_chains_107 rfl (lv_at hl 1 rfl) ?_
  refine lv_iload C.1 C.2.1 dX10_chains_108 (lv_at hl 8 rfl) ?_
  obtain ⟨q17, hc18, hf⟩ := bd_o hf
  refine r_callVv C S (As := [.int (oI v9)]) (rest := []) (ct_X10_sumOf l G τ hc18) mi_X10_sumOf tw_1392 mv_X10_sumOf (rvX10 S) ⟨rfl, rfl⟩ ⟨Nat.le_of_ble_eq_true rfl, Nat.le_of_ble_eq_true rfl⟩ ⟨Nat.zero_le _, Nat.zero_le _⟩ rfl hl.1 rfl (Nat.le_of_ble_eq_true rfl) dX10_chains_110 (fun H locs S => ?_)
  refine lv_aload_n C.1 C.2.1 dX10_chains_113 rfl (lv_at hl 1 rfl) ?_
  refine lv_iload C.1 C.2.1 dX10_chains_114 (lv_at hl 7 rfl) ?_
  obtain ⟨q19, hc20, hf⟩ := bd_o hf
  refine r_callVv C S (As := [.int (oI v8)]) (rest := [.int (oI q17)]) (ct_X10_sumOf l G τ hc20) mi_X10_sumOf tw_1392 mv_X10_sumOf (rvX10 S) ⟨rfl, rfl⟩ ⟨Nat.le_of_ble_eq_true rfl, Nat.le_of_ble_eq_true rfl⟩ ⟨Nat.zero_le _, Nat.zero_le _⟩ rfl hl.1 rfl (Nat.le_of_ble_eq_true rfl) dX10_chains_116 (fun H locs S => ?_)
  refine r_icmp_le C rfl rfl (tgt := 127) dX10_chains_119 (by decide) (fun h21 => ?_) (fun h21 => ?_)
  · replace hf := if_t hf h21
    refine lv_iload C.1 C.2.1 dX10_chains_127 (lv_at hl 7 rfl) ?_
    exact b_X10_chains_b129 C hend hk54 v2 v3 v4 v5 v6 w0 v8 S (lv_sub hl [1, 2, 3, 4, 5, 6, 0] rfl) hf
  · replace hf := if_f hf h21
    refine lv_iload C.1 C.2.1 dX10_chains_122 (lv_at hl 8 rfl) ?_
    refine lv_goto C.1 C.2.1 (tgt := 129) dX10_chains_124 (by decide) ?_
    exact b_X10_chains_b129 C hend hk54 v2 v3 v4 v5 v6 w0 v9 S (lv_sub hl [1, 2, 3, 4, 5, 6, 0] rfl) hf
set_option maxRecDepth 100000 in
set_option maxHeartbeats 4000000 in
theorem b_X10_chains_b54 (C : Cx p s m args c RX10 cX10_chains 10) {q : Int × Sg} (hend : EndR p l e (rmk 3 73) s m args below meth c Q G false τ cX10_chains .ireturn [.int (oI q.1)] q.2) : ∀ (n : Nat) {H : Heap} {locs : List Loc} {ls : Array Slot} {σ : Sg} (v2 : Int) (v3 : Int) (v4 : Int) (v5 : Int) (v6 : Int) (v7 : Int) (v8 : Int) (S : St G false τ σ s H locs) (hl : lv_has ls 10 [(0, .ref (G.1 41)), (2, .int (oI v2)), (3, .int (oI v3)), (4, .int (oI v4)), (5, .int (oI v5)), (6, .int (oI v6)), (7, .int (oI v7)), (8, .int (oI v8))]) (hf : f_X10_chains_b54 n v2 v3 v4 v5 v6 v7 v8 σ = some q), W p l e (rmk 3 73) s m args below meth c H locs 0 0 Q (F0 m 54 ls []) := by
  intro n
  induction n with
  | zero => intro H locs ls σ v2 v3 v4 v5 v6 v7 v8 S hl hf; cases hf
  | succ n ih =>
    intro H locs ls σ v2 v3 v4 v5 v6 v7 v8 S hl hf
    have hk54 := @ih
    rw [f_X10_chains_b54] at hf
    refine lv_iload C.1 C.2.1 dX10_chains_54 (lv_at hl 4 rfl) ?_
    refine r_if_eq C rfl (tgt := 134) dX10_chains_56 (by decide) (fun h25 => ?_) (fun h25 => ?_)
    · replace hf := if_t hf h25
      exact b_X10_chains_b134 C hend v3 v6 v7 v8 S (lv_sub hl [0, 2, 5, 6, 7] rfl) hf
    · replace hf := if_f hf h25
      refine lv_aload_n C.1 C.2.1 dX10_chains_59 rfl (lv_at hl 0 rfl) ?_
      refine lv_iload C.1 C.2.1 dX10_chains_60 (lv_at hl 4 rfl) ?_
      obtain ⟨q11, hc12, hf⟩ := bd_o hf
      refine r_callSv C S (As := [.int (oI v5)]) (rest := [.ref (G.1 41)]) (ct_X10_lowest l G τ hc12) mi_X10_lowest tw_1427 ms_X10_lowest ⟨rfl, rfl⟩ ⟨Nat.le_of_ble_eq_true rfl, Nat.le_of_ble_eq_true rfl⟩ ⟨Nat.zero_le _, Nat.zero_le _⟩ rfl hl.1 rfl (Nat.le_of_ble_eq_true rfl) dX10_chains_62 (fun H locs S => ?_)
      refine lv_iload C.1 C.2.1 dX10_chains_65 (lv_at hl 3 rfl) ?_
      refine lv_iload_n C.1 C.2.1 dX10_chains_67 rfl (lv_at hl 1 rfl) ?_
      obtain ⟨q13, hc14, hf⟩ := bd_o hf
      refine r_callVv C S (As := [.int (oI q11), .int (oI v4), .int (oI v2)]) (rest := []) (ct_X10_chainOf l G τ hc14) mi_X10_chainOf tw_1477 mv_X10_chainOf (rvX10 S) ⟨rfl, rfl⟩ ⟨Nat.le_of_ble_eq_true rfl, Nat.le_of_ble_eq_true rfl⟩ ⟨Nat.zero_le _, Nat.zero_le _⟩ rfl hl.1 rfl (Nat.le_of_ble_eq_true rfl) dX10_chains_68 (fun H locs S => ?_)
      refine lv_istore C.1 C.2.1 dX10_chains_71 hl (by decide) (lv' := [(9, .int (oI q13.1)), (0, .ref (G.1 41)), (2, .int (oI v2)), (3, .int (oI v3)), (4, .int (oI v4)), (5, .int (oI v5)), (6, .int (oI v6)), (7, .int (oI v7)), (8, .int (oI v8))]) rfl (fun ls hl => ?_)
      refine lv_iload C.1 C.2.1 dX10_chains_73 (lv_at hl 5 rfl) ?_
      refine lv_iload C.1 C.2.1 dX10_chains_75 (lv_at hl 0 rfl) ?_
      refine r_iconst C dX10_chains_77 ?_
      refine r_ixor C rfl (show u32 (-1) = 4294967295 by decide) dX10_chains_78 ?_
      refine r_iand C rfl (u32_nat (nb_xor (u32_lt _) (show 4294967295 < 4294967296 by decide))) dX10_chains_79 ?_
      refine lv_istore C.1 C.2.1 dX10_chains_80 hl (by decide) (lv' := [(5, .int (oI ((((u32 v5) &&& ((u32 q13.1) ^^^ 4294967295) : Nat) : Int)))), (9, .int (oI q13.1)), (0, .ref (G.1 41)), (2, .int (oI v2)), (3, .int (oI v3)), (4, .int (oI v4)), (6, .int (oI v6)), (7, .int (oI v7)), (8, .int (oI v8))]) rfl (fun ls hl => ?_)
      refine r_iinc C dX10_chains_82 hl (k := 6) rfl (by decide) (lv' := [(6, .int (oI (v6 + 1))), (5, .int (oI ((((u32 v5) &&& ((u32 q13.1) ^^^ 4294967295) : Nat) : Int)))), (9, .int (oI q13.1)), (0, .ref (G.1 41)), (2, .int (oI v2)), (3, .int (oI v3)), (4, .int (oI v4)), (7, .int (oI v7)), (8, .int (oI v8))]) rfl (fun ls hl => ?_)
      refine lv_iload C.1 C.2.1 dX10_chains_85 (lv_at hl 2 rfl) ?_
      obtain ⟨q15, hc16, hf⟩ := bd_o hf
      refine r_callSv C S (As := [.int (oI q13.1)]) (rest := []) (ct_X10_bits l G τ hc16) mi_X10_bits tw_1389 ms_X10_bits ⟨rfl, rfl⟩ ⟨Nat.le_of_ble_eq_true rfl, Nat.le_of_ble_eq_true rfl⟩ ⟨Nat.zero_le _, Nat.zero_le _⟩ rfl hl.1 rfl (Nat.le_of_ble_eq_true rfl) dX10_chains_87 (fun H locs S => ?_)
      refine lv_iload C.1 C.2.1 dX10_chains_90 (lv_at hl 7 rfl) ?_
      refine r_icmp_le C rfl rfl (tgt := 103) dX10_chains_92 (by decide) (fun h24 => ?_) (fun h24 => ?_)
      · replace hf := if_t hf h24
        refine lv_iload C.1 C.2.1 dX10_chains_103 (lv_at hl 7 rfl) ?_
        exact b_X10_chains_b105 C hend hk54 v2 v3 v4 ((((u32 v5) &&& ((u32 q13.1) ^^^ 4294967295) : Nat) : Int)) (v6 + 1) v8 q13.1 v7 S (lv_sub hl [3, 4, 5, 6, 1, 0, 8, 2] rfl) hf
      · replace hf := if_f hf h24
        refine lv_iload C.1 C.2.1 dX10_chains_95 (lv_at hl 2 rfl) ?_
        obtain ⟨q22, hc23, hf⟩ := bd_o hf
        refine r_callSv C S (As := [.int (oI q13.1)]) (rest := []) (ct_X10_bits l G τ hc23) mi_X10_bits tw_1389 ms_X10_bits ⟨rfl, rfl⟩ ⟨Nat.le_of_ble_eq_true rfl, Nat.le_of_ble_eq_true rfl⟩ ⟨Nat.zero_le _, Nat.zero_le _⟩ rfl hl.1 rfl (Nat.le_of_ble_eq_true rfl) dX10_chains_97 (fun H locs S => ?_)
        refine lv_goto C.1 C.2.1 (tgt := 105) dX10_chains_100 (by decide) ?_
        exact b_X10_chains_b105 C hend hk54 v2 v3 v4 ((((u32 v5) &&& ((u32 q13.1) ^^^ 4294967295) : Nat) : Int)) (v6 + 1) v8 q13.1 q22 S (lv_sub hl [3, 4, 5, 6, 1, 0, 8, 2] rfl) hf
set_option maxRecDepth 100000 in
set_option maxHeartbeats 4000000 in
theorem ct_X10_chains (l : Launch) (G : Gd) (τ : Sg) {v1 : Int} {v2 : Int} {v3 : Int} {σ : Sg} {q : Int × Sg} (hf : f_X10_chains v1 v2 v3 σ = some q) : Ctr l yX10_chains cX10_chains 10 (some .int) (rmk 3 73) G false τ [.ref (G.1 41), .int (oI v1), .int (oI v2), .int (oI v3)] σ q.2 (some (.int (oI q.1))) := by
  unfold f_X10_chains at hf
  refine CtrI.of (own := RX10) (plainFor_of_name (by decide)) (Nat.le_of_ble_eq_true rfl) rfl (fun p e s m below meth c Q ls C hl S hend => ?_)
  have hl : lv_has ls 10 [(0, .ref (G.1 41)), (1, .int (oI v1)), (2, .int (oI v2)), (3, .int (oI v3))] := hl
  refine lv_aload_n C.1 C.2.1 dX10_chains_0 rfl (lv_at hl 0 rfl) ?_
  refine r_iconst C dX10_chains_1 ?_
  refine p10_thrown C S tw_1061 dX10_chains_2 (fun H locs S => ?_)
  obtain ⟨σ1, S, hf⟩ := wr_s S hf
  refine lv_iload_n C.1 C.2.1 dX10_chains_5 rfl (lv_at hl 1 rfl) ?_
  obtain ⟨q2, hc3, hf⟩ := bd_o hf
  refine r_callSv C S (As := [.int (oI v1)]) (rest := []) (ct_X10_arePerils l G τ hc3) mi_X10_arePerils tw_1363 ms_X10_arePerils ⟨rfl, rfl⟩ ⟨Nat.le_of_ble_eq_true rfl, Nat.le_of_ble_eq_true rfl⟩ ⟨Nat.zero_le _, Nat.zero_le _⟩ rfl hl.1 rfl (Nat.le_of_ble_eq_true rfl) dX10_chains_6 (fun H locs S => ?_)
  refine r_if_eq C rfl (tgt := 32) dX10_chains_9 (by decide) (fun h30 => ?_) (fun h30 => ?_)
  · replace hf := if_t hf h30
    refine r_iconst C dX10_chains_32 ?_
    cases hf
    exact hend _ _ _ _ S dX10_chains_33
  · replace hf := if_f hf h30
    refine lv_iload_n C.1 C.2.1 dX10_chains_12 rfl (lv_at hl 2 rfl) ?_
    refine r_if_lt C rfl (tgt := 32) dX10_chains_13 (by decide) (fun h29 => ?_) (fun h29 => ?_)
    · replace hf := if_t hf h29
      refine r_iconst C dX10_chains_32 ?_
      cases hf
      exact hend _ _ _ _ S dX10_chains_33
    · replace hf := if_f hf h29
      refine lv_iload_n C.1 C.2.1 dX10_chains_16 rfl (lv_at hl 2 rfl) ?_
      refine r_sipush C dX10_chains_17 (by decide) ?_
      refine r_icmp_gt C rfl (show w32 300 = 300 by decide) (tgt := 32) dX10_chains_20 (by decide) (fun h28 => ?_) (fun h28 => ?_)
      · replace hf := if_t hf h28
        refine lv_iload_n C.1 C.2.1 dX10_chains_23 rfl (lv_at hl 3 rfl) ?_
        refine r_if_lt C rfl (tgt := 32) dX10_chains_24 (by decide) (fun h27 => ?_) (fun h27 => ?_)
        · replace hf := if_t hf h27
          refine r_iconst C dX10_chains_32 ?_
          cases hf
          exact hend _ _ _ _ S dX10_chains_33
        · replace hf := if_f hf h27
          refine lv_iload_n C.1 C.2.1 dX10_chains_27 rfl (lv_at hl 3 rfl) ?_
          refine r_iconst C dX10_chains_28 ?_
          refine r_icmp_le C rfl (show w32 3 = 3 by decide) (tgt := 34) dX10_chains_29 (by decide) (fun h26 => ?_) (fun h26 => ?_)
          · replace hf := if_t hf h26
            refine lv_aload_n C.1 C.2.1 dX10_chains_34 rfl (lv_at hl 0 rfl) ?_
            refine lv_iload_n C.1 C.2.1 dX10_chains_35 rfl (lv_at hl 1 rfl) ?_
            obtain ⟨q4, hc5, hf⟩ := bd_o hf
            refine r_callVv C S (As := [.int (oI v1)]) (rest := []) (ct_X10_ofPerils l G τ hc5) mi_X10_ofPerils tw_1281 mv_X10_ofPerils (rvX10 S) ⟨rfl, rfl⟩ ⟨Nat.le_of_ble_eq_true rfl, Nat.le_of_ble_eq_true rfl⟩ ⟨Nat.zero_le _, Nat.zero_le _⟩ rfl hl.1 rfl (Nat.le_of_ble_eq_true rfl) dX10_chains_36 (fun H locs S => ?_)
            refine lv_istore C.1 C.2.1 dX10_chains_39 hl (by decide) (lv' := [(4, .int (oI q4)), (0, .ref (G.1 41)), (1, .int (oI v1)), (2, .int (oI v2)), (3, .int (oI v3))]) rfl (fun ls hl => ?_)
            refine lv_iload C.1 C.2.1 dX10_chains_41 (lv_at hl 0 rfl) ?_
            refine lv_istore C.1 C.2.1 dX10_chains_43 hl (by decide) (lv' := [(5, .int (oI q4)), (4, .int (oI q4)), (0, .ref (G.1 41)), (1, .int (oI v1)), (2, .int (oI v2)), (3, .int (oI v3))]) rfl (fun ls hl => ?_)
            refine r_iconst C dX10_chains_45 ?_
            refine lv_istore C.1 C.2.1 dX10_chains_46 hl (by decide) (lv' := [(6, .int (oI 0)), (5, .int (oI q4)), (4, .int (oI q4)), (0, .ref (G.1 41)), (1, .int (oI v1)), (2, .int (oI v2)), (3, .int (oI v3))]) rfl (fun ls hl => ?_)
            refine r_iconst C dX10_chains_48 ?_
            refine lv_istore C.1 C.2.1 dX10_chains_49 hl (by decide) (lv' := [(7, .int (oI 0)), (6, .int (oI 0)), (5, .int (oI q4)), (4, .int (oI q4)), (0, .ref (G.1 41)), (1, .int (oI v1)), (2, .int (oI v2)), (3, .int (oI v3))]) rfl (fun ls hl => ?_)
            refine r_iconst C dX10_chains_51 ?_
            refine lv_istore C.1 C.2.1 dX10_chains_52 hl (by decide) (lv' := [(8, .int (oI 0)), (7, .int (oI 0)), (6, .int (oI 0)), (5, .int (oI q4)), (4, .int (oI q4)), (0, .ref (G.1 41)), (1, .int (oI v1)), (2, .int (oI v2)), (3, .int (oI v3))]) rfl (fun ls hl => ?_)
            exact b_X10_chains_b54 C hend FUEL v2 v3 q4 q4 0 0 0 S (lv_sub hl [5, 7, 8, 4, 3, 2, 1, 0] rfl) hf
          · replace hf := if_f hf h26
            refine r_iconst C dX10_chains_32 ?_
            cases hf
            exact hend _ _ _ _ S dX10_chains_33
      · replace hf := if_f hf h28
        refine r_iconst C dX10_chains_32 ?_
        cases hf
        exact hend _ _ _ _ S dX10_chains_33
set_option maxRecDepth 100000 in
set_option maxHeartbeats 4000000 in
theorem b_X10_adds_b27 (C : Cx p s m args c RX10 cX10_adds 3) {q : Sg} (hend : EndR p l e (rmk 0 0) s m args below meth c Q G false τ cX10_adds .return_ [] q) {H : Heap} {locs : List Loc} {ls : Array Slot} {σ : Sg} (v1 : Int) (S : St G false τ σ s H locs) (hl : lv_has ls 3 [(0, .ref (G.1 41)), (1, .int (oI v1))]) (hf : f_X10_adds_b27 v1 σ = some q) : W p l e (rmk 0 0) s m args below meth c H locs 0 0 Q (F0 m 27 ls []) := by
  unfold f_X10_adds_b27 at hf
  refine lv_aload_n C.1 C.2.1 dX10_adds_27 rfl (lv_at hl 0 rfl) ?_
  refine g10_disc C S tw_1100 dX10_adds_28 ?_
  refine lv_aload_n C.1 C.2.1 dX10_adds_31 rfl (lv_at hl 0 rfl) ?_
  refine g10_discs C S tw_1101 dX10_adds_32 ?_
  refine lv_iload_n C.1 C.2.1 dX10_adds_35 rfl (lv_at hl 1 rfl) ?_
  obtain ⟨hi3, hf⟩ := ck_o hf
  refine a_iast C S ar_59 hi3 dX10_adds_36 (fun H locs S => ?_)
  obtain ⟨σ4, S, hf⟩ := wr_s S hf
  refine lv_aload_n C.1 C.2.1 dX10_adds_37 rfl (lv_at hl 0 rfl) ?_
  refine lv_dup C.1 C.2.1 dX10_adds_38 rfl ?_
  refine g10_discs C S tw_1101 dX10_adds_39 ?_
  refine r_iconst C dX10_adds_42 ?_
  refine r_iadd C dX10_adds_43 ?_
  refine p10_discs C S tw_1101 dX10_adds_44 (fun H locs S => ?_)
  obtain ⟨σ5, S, hf⟩ := wr_s S hf
  cases hf
  exact hend _ _ _ _ S dX10_adds_47
set_option maxRecDepth 100000 in
set_option maxHeartbeats 4000000 in
theorem b_X10_adds_b2 (C : Cx p s m args c RX10 cX10_adds 3) {q : Sg} (hend : EndR p l e (rmk 0 0) s m args below meth c Q G false τ cX10_adds .return_ [] q) : ∀ (n : Nat) {H : Heap} {locs : List Loc} {ls : Array Slot} {σ : Sg} (v1 : Int) (v2 : Int) (S : St G false τ σ s H locs) (hl : lv_has ls 3 [(0, .ref (G.1 41)), (1, .int (oI v1)), (2, .int (oI v2))]) (hf : f_X10_adds_b2 n v1 v2 σ = some q), W p l e (rmk 0 0) s m args below meth c H locs 0 0 Q (F0 m 2 ls []) := by
  intro n
  induction n with
  | zero => intro H locs ls σ v1 v2 S hl hf; cases hf
  | succ n ih =>
    intro H locs ls σ v1 v2 S hl hf
    have hk2 := @ih
    rw [f_X10_adds_b2] at hf
    refine lv_iload_n C.1 C.2.1 dX10_adds_2 rfl (lv_at hl 2 rfl) ?_
    refine lv_aload_n C.1 C.2.1 dX10_adds_3 rfl (lv_at hl 0 rfl) ?_
    refine g10_discs C S tw_1101 dX10_adds_4 ?_
    refine r_icmp_ge C rfl rfl (tgt := 27) dX10_adds_7 (by decide) (fun h6 => ?_) (fun h6 => ?_)
    · replace hf := if_t hf h6
      refine lv_aload_n C.1 C.2.1 dX10_adds_10 rfl (lv_at hl 0 rfl) ?_
      refine g10_disc C S tw_1100 dX10_adds_11 ?_
      refine lv_iload_n C.1 C.2.1 dX10_adds_14 rfl (lv_at hl 2 rfl) ?_
      obtain ⟨hi1, hf⟩ := ck_o hf
      refine a_iald C S ar_59 hi1 dX10_adds_15 ?_
      refine lv_iload_n C.1 C.2.1 dX10_adds_16 rfl (lv_at hl 1 rfl) ?_
      refine r_icmp_ne C rfl rfl (tgt := 21) dX10_adds_17 (by decide) (fun h2 => ?_) (fun h2 => ?_)
      · replace hf := if_t hf h2
        cases hf
        exact hend _ _ _ _ S dX10_adds_20
      · replace hf := if_f hf h2
        refine r_iinc C dX10_adds_21 hl (k := 2) rfl (by decide) (lv' := [(2, .int (oI (v2 + 1))), (0, .ref (G.1 41)), (1, .int (oI v1))]) rfl (fun ls hl => ?_)
        refine lv_goto C.1 C.2.1 (tgt := 2) dX10_adds_24 (by decide) ?_
        exact hk2 v1 (v2 + 1) S (lv_sub hl [1, 2, 0] rfl) hf
    · replace hf := if_f hf h6
      exact b_X10_adds_b27 C hend v1 S (lv_sub hl [0, 1] rfl) hf
set_option maxRecDepth 100000 in
set_option maxHeartbeats 4000000 in
theorem ct_X10_adds (l : Launch) (G : Gd) (τ : Sg) {v1 : Int} {σ : Sg} {q : Sg} (hf : f_X10_adds v1 σ = some q) : Ctr l yX10_adds cX10_adds 3 none (rmk 0 0) G false τ [.ref (G.1 41), .int (oI v1)] σ q none := by
  unfold f_X10_adds at hf
  refine CtrV.of (own := RX10) (plainFor_of_name (by decide)) (Nat.le_of_ble_eq_true rfl) rfl (fun p e s m below meth c Q ls C hl S hend => ?_)
  have hl : lv_has ls 3 [(0, .ref (G.1 41)), (1, .int (oI v1))] := hl
  refine r_iconst C dX10_adds_0 ?_
  refine lv_istore_n C.1 C.2.1 dX10_adds_1 rfl hl (by decide) (lv' := [(2, .int (oI 0)), (0, .ref (G.1 41)), (1, .int (oI v1))]) rfl (fun ls hl => ?_)
  exact b_X10_adds_b2 C hend FUEL v1 0 S (lv_sub hl [1, 2, 0] rfl) hf
set_option maxRecDepth 100000 in
set_option maxHeartbeats 4000000 in
theorem b_X10_findsDiscs_b104 (C : Cx p s m args c RX10 cX10_findsDiscs 5) {q : Sg} {k7 : Int → Int → Int → Sg → Option (Sg)} (hend : EndR p l e (rmk 2 72) s m args below meth c Q G false τ cX10_findsDiscs .return_ [] q) (hk7 : ∀ {H : Heap} {locs : List Loc} {ls : Array Slot} {σ : Sg} (v1 : Int) (v2 : Int) (v3 : Int), St G false τ σ s H locs → lv_has ls 5 [(0, .ref (G.1 41)), (1, .int (oI v1)), (2, .int (oI v2)), (3, .int (oI v3))] → k7 v1 v2 v3 σ = some q → W p l e (rmk 2 72) s m args below meth c H locs 0 0 Q (F0 m 7 ls [])) {H : Heap} {locs : List Loc} {ls : Array Slot} {σ : Sg} (v1 : Int) (v2 : Int) (v3 : Int) (S : St G false τ σ s H locs) (hl : lv_has ls 5 [(0, .ref (G.1 41)), (1, .int (oI v1)), (2, .int (oI v2)), (3, .int (oI v3))]) (hf : f_X10_findsDiscs_b104 k7 v1 v2 v3 σ = some q) : W p l e (rmk 2 72) s m args below meth c H locs 0 0 Q (F0 m 104 ls []) := by
  unfold f_X10_findsDiscs_b104 at hf
  refine r_iinc C dX10_findsDiscs_104 hl (k := 3) rfl (by decide) (lv' := [(3, .int (oI (v3 + 1))), (0, .ref (G.1 41)), (1, .int (oI v1)), (2, .int (oI v2))]) rfl (fun ls hl => ?_)
  refine lv_goto C.1 C.2.1 (tgt := 7) dX10_findsDiscs_107 (by decide) ?_
  exact hk7 v1 v2 (v3 + 1) S (lv_sub hl [1, 2, 3, 0] rfl) hf
set_option maxRecDepth 100000 in
set_option maxHeartbeats 4000000 in
theorem b_X10_findsDiscs_b98 (C : Cx p s m args c RX10 cX10_findsDiscs 5) {q : Sg} {k7 : Int → Int → Int → Sg → Option (Sg)} {k40 : Int → Int → Int → Int → Sg → Option (Sg)} (hend : EndR p l e (rmk 2 72) s m args below meth c Q G false τ cX10_findsDiscs .return_ [] q) (hk7 : ∀ {H : Heap} {locs : List Loc} {ls : Array Slot} {σ : Sg} (v1 : Int) (v2 : Int) (v3 : Int), St G false τ σ s H locs → lv_has ls 5 [(0, .ref (G.1 41)), (1, .int (oI v1)), (2, .int (oI v2)), (3, .int (oI v3))] → k7 v1 v2 v3 σ = some q → W p l e (rmk 2 72) s m args below meth c H locs 0 0 Q (F0 m 7 ls [])) (hk40 : ∀ {H : Heap} {locs : List Loc} {ls : Array Slot} {σ : Sg} (v1 : Int) (v2 : Int) (v3 : Int) (v4 : Int), St G false τ σ s H locs → lv_has ls 5 [(0, .ref (G.1 41)), (1, .int (oI v1)), (2, .int (oI v2)), (3, .int (oI v3)), (4, .int (oI v4))] → k40 v1 v2 v3 v4 σ = some q → W p l e (rmk 2 72) s m args below meth c H locs 0 0 Q (F0 m 40 ls [])) {H : Heap} {locs : List Loc} {ls : Array Slot} {σ : Sg} (v1 : Int) (v2 : Int) (v3 : Int) (v4 : Int) (S : St G false τ σ s H locs) (hl : lv_has ls 5 [(0, .ref (G.1 41)), (1, .int (oI v1)), (2, .int (oI v2)), (3, .int (oI v3)), (4, .int (oI v4))]) (hf : f_X10_findsDiscs_b98 k7 k40 v1 v2 v3 v4 σ = some q) : W p l e (rmk 2 72) s m args below meth c H locs 0 0 Q (F0 m 98 ls []) := by
  unfold f_X10_findsDiscs_b98 at hf
  refine r_iinc C dX10_findsDiscs_98 hl (k := 4) rfl (by decide) (lv' := [(4, .int (oI (v4 + 1))), (0, .ref (G.1 41)), (1, .int (oI v1)), (2, .int (oI v2)), (3, .int (oI v3))]) rfl (fun ls hl => ?_)
  refine lv_goto C.1 C.2.1 (tgt := 40) dX10_findsDiscs_101 (by decide) ?_
  exact hk40 v1 v2 v3 (v4 + 1) S (lv_sub hl [1, 2, 3, 4, 0] rfl) hf
set_option maxRecDepth 100000 in
set_option maxHeartbeats 4000000 in
theorem b_X10_findsDiscs_b40 (C : Cx p s m args c RX10 cX10_findsDiscs 5) {q : Sg} {k7 : Int → Int → Int → Sg → Option (Sg)} (hend : EndR p l e (rmk 2 72) s m args below meth c Q G false τ cX10_findsDiscs .return_ [] q) (hk7 : ∀ {H : Heap} {locs : List Loc} {ls : Array Slot} {σ : Sg} (v1 : Int) (v2 : Int) (v3 : Int), St G false τ σ s H locs → lv_has ls 5 [(0, .ref (G.1 41)), (1, .int (oI v1)), (2, .int (oI v2)), (3, .int (oI v3))] → k7 v1 v2 v3 σ = some q → W p l e (rmk 2 72) s m args below meth c H locs 0 0 Q (F0 m 7 ls [])) : ∀ (n : Nat) {H : Heap} {locs : List Loc} {ls : Array Slot} {σ : Sg} (v1 : Int) (v2 : Int) (v3 : Int) (v4 : Int) (S : St G false τ σ s H locs) (hl : lv_has ls 5 [(0, .ref (G.1 41)), (1, .int (oI v1)), (2, .int (oI v2)), (3, .int (oI v3)), (4, .int (oI v4))]) (hf : f_X10_findsDiscs_b40 k7 n v1 v2 v3 v4 σ = some q), W p l e (rmk 2 72) s m args below meth c H locs 0 0 Q (F0 m 40 ls []) := by
  intro n
  induction n with
  | zero => intro H locs ls σ v1 v2 v3 v4 S hl hf; cases hf
  | succ n ih =>
    intro H locs ls σ v1 v2 v3 v4 S hl hf
    have hk40 := @ih
    rw [f_X10_findsDiscs_b40] at hf
    refine lv_iload C.1 C.2.1 dX10_findsDiscs_40 (lv_at hl 4 rfl) ?_
    refine r_bipush C dX10_findsDiscs_42 (by decide) ?_
    refine r_icmp_ge C rfl (show w32 24 = 24 by decide) (tgt := 104) dX10_findsDiscs_44 (by decide) (fun h22 => ?_) (fun h22 => ?_)
    · replace hf := if_t hf h22
      refine lv_iload_n C.1 C.2.1 dX10_findsDiscs_47 rfl (lv_at hl 1 rfl) ?_
      refine lv_iload C.1 C.2.1 dX10_findsDiscs_48 (lv_at hl 4 rfl) ?_
      obtain ⟨q8, hc9, hf⟩ := bd_o hf
      refine r_callSv C S (As := [.int (oI v1), .int (oI v4)]) (rest := []) (ct_X10_has l G τ hc9) mi_X10_has tw_1285 ms_X10_has ⟨rfl, rfl⟩ ⟨Nat.le_of_ble_eq_true rfl, Nat.le_of_ble_eq_true rfl⟩ ⟨Nat.zero_le _, Nat.zero_le _⟩ rfl hl.1 rfl (Nat.le_of_ble_eq_true rfl) dX10_findsDiscs_50 (fun H locs S => ?_)
      refine r_if_eq C rfl (tgt := 98) dX10_findsDiscs_53 (by decide) (fun h21 => ?_) (fun h21 => ?_)
      · replace hf := if_t hf h21
        exact b_X10_findsDiscs_b98 C hend hk7 hk40 v1 v2 v3 v4 S (lv_sub hl [0, 1, 2, 3, 4] rfl) hf
      · replace hf := if_f hf h21
        refine lv_aload_n C.1 C.2.1 dX10_findsDiscs_56 rfl (lv_at hl 0 rfl) ?_
        refine lv_iload_n C.1 C.2.1 dX10_findsDiscs_57 rfl (lv_at hl 3 rfl) ?_
        refine lv_iload C.1 C.2.1 dX10_findsDiscs_58 (lv_at hl 4 rfl) ?_
        refine lv_iload_n C.1 C.2.1 dX10_findsDiscs_60 rfl (lv_at hl 2 rfl) ?_
        obtain ⟨q10, hc11, hf⟩ := bd_o hf
        refine r_callVv C S (As := [.int (oI v3), .int (oI v4), .int (oI v2)]) (rest := []) (ct_X10_canBeRim l G τ hc11) mi_X10_canBeRim tw_1305 mv_X10_canBeRim (rvX10 S) ⟨rfl, rfl⟩ ⟨Nat.le_of_ble_eq_true rfl, Nat.le_of_ble_eq_true rfl⟩ ⟨Nat.zero_le _, Nat.zero_le _⟩ rfl hl.1 rfl (Nat.le_of_ble_eq_true rfl) dX10_findsDiscs_61 (fun H locs S => ?_)
        refine r_if_ne C rfl (tgt := 70) dX10_findsDiscs_64 (by decide) (fun h20 => ?_) (fun h20 => ?_)
        · replace hf := if_t hf h20
          refine lv_goto C.1 C.2.1 (tgt := 98) dX10_findsDiscs_67 (by decide) ?_
          exact b_X10_findsDiscs_b98 C hend hk7 hk40 v1 v2 v3 v4 S (lv_sub hl [0, 1, 2, 3, 4] rfl) hf
        · replace hf := if_f hf h20
          refine lv_aload_n C.1 C.2.1 dX10_findsDiscs_70 rfl (lv_at hl 0 rfl) ?_
          refine lv_aload_n C.1 C.2.1 dX10_findsDiscs_71 rfl (lv_at hl 0 rfl) ?_
          refine lv_iload_n C.1 C.2.1 dX10_findsDiscs_72 rfl (lv_at hl 3 rfl) ?_
          refine lv_iload C.1 C.2.1 dX10_findsDiscs_73 (lv_at hl 4 rfl) ?_
          refine r_iconst C dX10_findsDiscs_75 ?_
          refine lv_iload_n C.1 C.2.1 dX10_findsDiscs_76 rfl (lv_at hl 1 rfl) ?_
          refine lv_iload_n C.1 C.2.1 dX10_findsDiscs_77 rfl (lv_at hl 2 rfl) ?_
          obtain ⟨q12, hc13, hf⟩ := bd_o hf
          refine r_callVv C S (As := [.int (oI v3), .int (oI v4), .int (oI 0), .int (oI v1), .int (oI v2)]) (rest := [.ref (G.1 41)]) (ct_X10_onRim l G τ hc13) mi_X10_onRim tw_1309 mv_X10_onRim (rvX10 S) ⟨rfl, rfl⟩ ⟨Nat.le_of_ble_eq_true rfl, Nat.le_of_ble_eq_true rfl⟩ ⟨Nat.zero_le _, Nat.zero_le _⟩ rfl hl.1 rfl (Nat.le_of_ble_eq_true rfl) dX10_findsDiscs_78 (fun H locs S => ?_)
          obtain ⟨q14, hc15, hf⟩ := bd_o hf
          refine r_callVn C S (As := [.int (oI q12.1)]) (rest := []) (ct_X10_adds l G τ hc15) mi_X10_adds tw_1489 mv_X10_adds (rvX10 S) ⟨rfl, rfl⟩ ⟨Nat.le_of_ble_eq_true rfl, Nat.le_of_ble_eq_true rfl⟩ ⟨Nat.zero_le _, Nat.zero_le _⟩ rfl hl.1 rfl (Nat.le_of_ble_eq_true rfl) dX10_findsDiscs_81 (fun H locs S => ?_)
          refine lv_aload_n C.1 C.2.1 dX10_findsDiscs_84 rfl (lv_at hl 0 rfl) ?_
          refine lv_aload_n C.1 C.2.1 dX10_findsDiscs_85 rfl (lv_at hl 0 rfl) ?_
          refine lv_iload_n C.1 C.2.1 dX10_findsDiscs_86 rfl (lv_at hl 3 rfl) ?_
          refine lv_iload C.1 C.2.1 dX10_findsDiscs_87 (lv_at hl 4 rfl) ?_
          refine r_iconst C dX10_findsDiscs_89 ?_
          refine lv_iload_n C.1 C.2.1 dX10_findsDiscs_90 rfl (lv_at hl 1 rfl) ?_
          refine lv_iload_n C.1 C.2.1 dX10_findsDiscs_91 rfl (lv_at hl 2 rfl) ?_
          obtain ⟨q16, hc17, hf⟩ := bd_o hf
          refine r_callVv C S (As := [.int (oI v3), .int (oI v4), .int (oI 1), .int (oI v1), .int (oI v2)]) (rest := [.ref (G.1 41)]) (ct_X10_onRim l G τ hc17) mi_X10_onRim tw_1309 mv_X10_onRim (rvX10 S) ⟨rfl, rfl⟩ ⟨Nat.le_of_ble_eq_true rfl, Nat.le_of_ble_eq_true rfl⟩ ⟨Nat.zero_le _, Nat.zero_le _⟩ rfl hl.1 rfl (Nat.le_of_ble_eq_true rfl) dX10_findsDiscs_92 (fun H locs S => ?_)
          obtain ⟨q18, hc19, hf⟩ := bd_o hf
          refine r_callVn C S (As := [.int (oI q16.1)]) (rest := []) (ct_X10_adds l G τ hc19) mi_X10_adds tw_1489 mv_X10_adds (rvX10 S) ⟨rfl, rfl⟩ ⟨Nat.le_of_ble_eq_true rfl, Nat.le_of_ble_eq_true rfl⟩ ⟨Nat.zero_le _, Nat.zero_le _⟩ rfl hl.1 rfl (Nat.le_of_ble_eq_true rfl) dX10_findsDiscs_95 (fun H locs S => ?_)
          exact b_X10_findsDiscs_b98 C hend hk7 hk40 v1 v2 v3 v4 S (lv_sub hl [0, 1, 2, 3, 4] rfl) hf
    · replace hf := if_f hf h22
      exact b_X10_findsDiscs_b104 C hend hk7 v1 v2 v3 S (lv_sub hl [0, 1, 2, 3] rfl) hf
set_option maxRecDepth 100000 in
set_option maxHeartbeats 4000000 in
theorem b_X10_findsDiscs_b7 (C : Cx p s m args c RX10 cX10_findsDiscs 5) {q : Sg} (hend : EndR p l e (rmk 2 72) s m args below meth c Q G false τ cX10_findsDiscs .return_ [] q) : ∀ (n : Nat) {H : Heap} {locs : List Loc} {ls : Array Slot} {σ : Sg} (v1 : Int) (v2 : Int) (v3 : Int) (S : St G false τ σ s H locs) (hl : lv_has ls 5 [(0, .ref (G.1 41)), (1, .int (oI v1)), (2, .int (oI v2)), (3, .int (oI v3))]) (hf : f_X10_findsDiscs_b7 n v1 v2 v3 σ = some q), W p l e (rmk 2 72) s m args below meth c H locs 0 0 Q (F0 m 7 ls []) := by
  intro n
  induction n with
  | zero => intro H locs ls σ v1 v2 v3 S hl hf; cases hf
  | succ n ih =>
    intro H locs ls σ v1 v2 v3 S hl hf
    have hk7 := @ih
    rw [f_X10_findsDiscs_b7] at hf
    refine lv_iload_n C.1 C.2.1 dX10_findsDiscs_7 rfl (lv_at hl 3 rfl) ?_
    refine r_bipush C dX10_findsDiscs_8 (by decide) ?_
    refine r_icmp_ge C rfl (show w32 24 = 24 by decide) (tgt := 110) dX10_findsDiscs_10 (by decide) (fun h24 => ?_) (fun h24 => ?_)
    · replace hf := if_t hf h24
      refine lv_iload_n C.1 C.2.1 dX10_findsDiscs_13 rfl (lv_at hl 1 rfl) ?_
      refine lv_iload_n C.1 C.2.1 dX10_findsDiscs_14 rfl (lv_at hl 3 rfl) ?_
      obtain ⟨q2, hc3, hf⟩ := bd_o hf
      refine r_callSv C S (As := [.int (oI v1), .int (oI v3)]) (rest := []) (ct_X10_has l G τ hc3) mi_X10_has tw_1285 ms_X10_has ⟨rfl, rfl⟩ ⟨Nat.le_of_ble_eq_true rfl, Nat.le_of_ble_eq_true rfl⟩ ⟨Nat.zero_le _, Nat.zero_le _⟩ rfl hl.1 rfl (Nat.le_of_ble_eq_true rfl) dX10_findsDiscs_15 (fun H locs S => ?_)
      refine r_if_ne C rfl (tgt := 24) dX10_findsDiscs_18 (by decide) (fun h23 => ?_) (fun h23 => ?_)
      · replace hf := if_t hf h23
        refine lv_goto C.1 C.2.1 (tgt := 104) dX10_findsDiscs_21 (by decide) ?_
        exact b_X10_findsDiscs_b104 C hend hk7 v1 v2 v3 S (lv_sub hl [0, 1, 2, 3] rfl) hf
      · replace hf := if_f hf h23
        refine lv_aload_n C.1 C.2.1 dX10_findsDiscs_24 rfl (lv_at hl 0 rfl) ?_
        refine lv_aload_n C.1 C.2.1 dX10_findsDiscs_25 rfl (lv_at hl 0 rfl) ?_
        refine lv_iload_n C.1 C.2.1 dX10_findsDiscs_26 rfl (lv_at hl 3 rfl) ?_
        refine lv_iload_n C.1 C.2.1 dX10_findsDiscs_27 rfl (lv_at hl 1 rfl) ?_
        refine lv_iload_n C.1 C.2.1 dX10_findsDiscs_28 rfl (lv_at hl 2 rfl) ?_
        obtain ⟨q4, hc5, hf⟩ := bd_o hf
        refine r_callVv C S (As := [.int (oI v3), .int (oI v1), .int (oI v2)]) (rest := [.ref (G.1 41)]) (ct_X10_around l G τ hc5) mi_X10_around tw_1293 mv_X10_around (rvX10 S) ⟨rfl, rfl⟩ ⟨Nat.le_of_ble_eq_true rfl, Nat.le_of_ble_eq_true rfl⟩ ⟨Nat.zero_le _, Nat.zero_le _⟩ rfl hl.1 rfl (Nat.le_of_ble_eq_true rfl) dX10_findsDiscs_29 (fun H locs S => ?_)
        obtain ⟨q6, hc7, hf⟩ := bd_o hf
        refine r_callVn C S (As := [.int (oI q4.1)]) (rest := []) (ct_X10_adds l G τ hc7) mi_X10_adds tw_1489 mv_X10_adds (rvX10 S) ⟨rfl, rfl⟩ ⟨Nat.le_of_ble_eq_true rfl, Nat.le_of_ble_eq_true rfl⟩ ⟨Nat.zero_le _, Nat.zero_le _⟩ rfl hl.1 rfl (Nat.le_of_ble_eq_true rfl) dX10_findsDiscs_32 (fun H locs S => ?_)
        refine lv_iload_n C.1 C.2.1 dX10_findsDiscs_35 rfl (lv_at hl 3 rfl) ?_
        refine r_iconst C dX10_findsDiscs_36 ?_
        refine r_iadd C dX10_findsDiscs_37 ?_
        refine lv_istore C.1 C.2.1 dX10_findsDiscs_38 hl (by decide) (lv' := [(4, .int (oI (v3 + 1))), (0, .ref (G.1 41)), (1, .int (oI v1)), (2, .int (oI v2)), (3, .int (oI v3))]) rfl (fun ls hl => ?_)
        exact b_X10_findsDiscs_b40 C hend hk7 FUEL v1 v2 v3 (v3 + 1) S (lv_sub hl [1, 2, 3, 4, 0] rfl) hf
    · replace hf := if_f hf h24
      cases hf
      exact hend _ _ _ _ S dX10_findsDiscs_110
set_option maxRecDepth 100000 in
set_option maxHeartbeats 4000000 in
theorem ct_X10_findsDiscs (l : Launch) (G : Gd) (τ : Sg) {v1 : Int} {v2 : Int} {σ : Sg} {q : Sg} (hf : f_X10_findsDiscs v1 v2 σ = some q) : Ctr l yX10_findsDiscs cX10_findsDiscs 5 none (rmk 2 72) G false τ [.ref (G.1 41), .int (oI v1), .int (oI v2)] σ q none := by
  unfold f_X10_findsDiscs at hf
  refine CtrV.of (own := RX10) (plainFor_of_name (by decide)) (Nat.le_of_ble_eq_true rfl) rfl (fun p e s m below meth c Q ls C hl S hend => ?_)
  have hl : lv_has ls 5 [(0, .ref (G.1 41)), (1, .int (oI v1)), (2, .int (oI v2))] := hl
  refine lv_aload_n C.1 C.2.1 dX10_findsDiscs_0 rfl (lv_at hl 0 rfl) ?_
  refine r_iconst C dX10_findsDiscs_1 ?_
  refine p10_discs C S tw_1101 dX10_findsDiscs_2 (fun H locs S => ?_)
  obtain ⟨σ1, S, hf⟩ := wr_s S hf
  refine r_iconst C dX10_findsDiscs_5 ?_
  refine lv_istore_n C.1 C.2.1 dX10_findsDiscs_6 rfl hl (by decide) (lv' := [(3, .int (oI 0)), (0, .ref (G.1 41)), (1, .int (oI v1)), (2, .int (oI v2))]) rfl (fun ls hl => ?_)
  exact b_X10_findsDiscs_b7 C hend FUEL v1 v2 0 S (lv_sub hl [1, 2, 3, 0] rfl) hf
set_option maxRecDepth 100000 in
set_option maxHeartbeats 4000000 in
theorem b_X10_two_b142 (C : Cx p s m args c RX10 cX10_two 8) {q : Int × Sg} {k53 : Int → Int → Sg → Option (Int × Sg)} {k66 : Int → Int → Int → Sg → Option (Int × Sg)} (hend : EndR p l e (rmk 3 96) s m args below meth c Q G false τ cX10_two .ireturn [.int (oI q.1)] q.2) (hk53 : ∀ {H : Heap} {locs : List Loc} {ls : Array Slot} {σ : Sg} (v3 : Int) (v4 : Int), St G false τ σ s H locs → lv_has ls 8 [(0, .ref (G.1 41)), (3, .int (oI v3)), (4, .int (oI v4))] → k53 v3 v4 σ = some q → W p l e (rmk 3 96) s m args below meth c H locs 0 0 Q (F0 m 53 ls [])) (hk66 : ∀ {H : Heap} {locs : List Loc} {ls : Array Slot} {σ : Sg} (v3 : Int) (v4 : Int) (v5 : Int), St G false τ σ s H locs → lv_has ls 8 [(0, .ref (G.1 41)), (3, .int (oI v3)), (4, .int (oI v4)), (5, .int (oI v5))] → k66 v3 v4 v5 σ = some q → W p l e (rmk 3 96) s m args below meth c H locs 0 0 Q (F0 m 66 ls [])) {H : Heap} {locs : List Loc} {ls : Array Slot} {σ : Sg} (v3 : Int) (v4 : Int) (v5 : Int) (S : St G false τ σ s H locs) (hl : lv_has ls 8 [(0, .ref (G.1 41)), (3, .int (oI v3)), (4, .int (oI v4)), (5, .int (oI v5))]) (hf : f_X10_two_b142 k53 k66 v3 v4 v5 σ = some q) : W p l e (rmk 3 96) s m args below meth c H locs 0 0 Q (F0 m 142 ls []) := by
  unfold f_X10_two_b142 at hf
  refine r_iinc C dX10_two_142 hl (k := 3) rfl (by decide) (lv' := [(5, .int (oI (v5 + 1))), (0, .ref (G.1 41)), (3, .int (oI v3)), (4, .int (oI v4))]) rfl (fun ls hl => ?_)
  refine lv_goto C.1 C.2.1 (tgt := 66) dX10_two_145 (by decide) ?_
  exact hk66 v3 v4 (v5 + 1) S (lv_sub hl [1, 2, 3, 0] rfl) hf
set_option maxRecDepth 100000 in
set_option maxHeartbeats 4000000 in
theorem b_X10_two_b130 (C : Cx p s m args c RX10 cX10_two 8) {q : Int × Sg} {k53 : Int → Int → Sg → Option (Int × Sg)} {k66 : Int → Int → Int → Sg → Option (Int × Sg)} (hend : EndR p l e (rmk 3 96) s m args below meth c Q G false τ cX10_two .ireturn [.int (oI q.1)] q.2) (hk53 : ∀ {H : Heap} {locs : List Loc} {ls : Array Slot} {σ : Sg} (v3 : Int) (v4 : Int), St G false τ σ s H locs → lv_has ls 8 [(0, .ref (G.1 41)), (3, .int (oI v3)), (4, .int (oI v4))] → k53 v3 v4 σ = some q → W p l e (rmk 3 96) s m args below meth c H locs 0 0 Q (F0 m 53 ls [])) (hk66 : ∀ {H : Heap} {locs : List Loc} {ls : Array Slot} {σ : Sg} (v3 : Int) (v4 : Int) (v5 : Int), St G false τ σ s H locs → lv_has ls 8 [(0, .ref (G.1 41)), (3, .int (oI v3)), (4, .int (oI v4)), (5, .int (oI v5))] → k66 v3 v4 v5 σ = some q → W p l e (rmk 3 96) s m args below meth c H locs 0 0 Q (F0 m 66 ls [])) {H : Heap} {locs : List Loc} {ls : Array Slot} {σ : Sg} (v3 : Int) (v4 : Int) (v5 : Int) (v6 : Int) (v7 : Int) (S : St G false τ σ s H locs) (hl : lv_has ls 8 [(0, .ref (G.1 41)), (3, .int (oI v3)), (4, .int (oI v4)), (5, .int (oI v5)), (6, .int (oI v6)), (7, .int (oI v7))]) (hf : f_X10_two_b130 k53 k66 v3 v4 v5 v6 v7 σ = some q) : W p l e (rmk 3 96) s m args below meth c H locs 0 0 Q (F0 m 130 ls []) := by
  unfold f_X10_two_b130 at hf
  refine lv_aload_n C.1 C.2.1 dX10_two_130 rfl (lv_at hl 0 rfl) ?_
  refine lv_iload C.1 C.2.1 dX10_two_131 (lv_at hl 5 rfl) ?_
  refine p10_bestSum C S tw_1097 dX10_two_133 (fun H locs S => ?_)
  obtain ⟨σ16, S, hf⟩ := wr_s S hf
  refine lv_aload_n C.1 C.2.1 dX10_two_136 rfl (lv_at hl 0 rfl) ?_
  refine lv_iload C.1 C.2.1 dX10_two_137 (lv_at hl 4 rfl) ?_
  refine p10_bestSet C S tw_1098 dX10_two_139 (fun H locs S => ?_)
  obtain ⟨σ17, S, hf⟩ := wr_s S hf
  exact b_X10_two_b142 C hend hk53 hk66 v3 v4 v5 S (lv_sub hl [0, 1, 2, 3] rfl) hf
set_option maxRecDepth 100000 in
set_option maxHeartbeats 4000000 in
theorem b_X10_two_b148 (C : Cx p s m args c RX10 cX10_two 8) {q : Int × Sg} {k53 : Int → Int → Sg → Option (Int × Sg)} (hend : EndR p l e (rmk 3 96) s m args below meth c Q G false τ cX10_two .ireturn [.int (oI q.1)] q.2) (hk53 : ∀ {H : Heap} {locs : List Loc} {ls : Array Slot} {σ : Sg} (v3 : Int) (v4 : Int), St G false τ σ s H locs → lv_has ls 8 [(0, .ref (G.1 41)), (3, .int (oI v3)), (4, .int (oI v4))] → k53 v3 v4 σ = some q → W p l e (rmk 3 96) s m args below meth c H locs 0 0 Q (F0 m 53 ls [])) {H : Heap} {locs : List Loc} {ls : Array Slot} {σ : Sg} (v3 : Int) (v4 : Int) (S : St G false τ σ s H locs) (hl : lv_has ls 8 [(0, .ref (G.1 41)), (3, .int (oI v3)), (4, .int (oI v4))]) (hf : f_X10_two_b148 k53 v3 v4 σ = some q) : W p l e (rmk 3 96) s m args below meth c H locs 0 0 Q (F0 m 148 ls []) := by
  unfold f_X10_two_b148 at hf
  refine r_iinc C dX10_two_148 hl (k := 2) rfl (by decide) (lv' := [(4, .int (oI (v4 + 1))), (0, .ref (G.1 41)), (3, .int (oI v3))]) rfl (fun ls hl => ?_)
  refine lv_goto C.1 C.2.1 (tgt := 53) dX10_two_151 (by decide) ?_
  exact hk53 v3 (v4 + 1) S (lv_sub hl [1, 2, 0] rfl) hf
set_option maxRecDepth 100000 in
set_option maxHeartbeats 4000000 in
theorem b_X10_two_b66 (C : Cx p s m args c RX10 cX10_two 8) {q : Int × Sg} {k53 : Int → Int → Sg → Option (Int × Sg)} (hend : EndR p l e (rmk 3 96) s m args below meth c Q G false τ cX10_two .ireturn [.int (oI q.1)] q.2) (hk53 : ∀ {H : Heap} {locs : List Loc} {ls : Array Slot} {σ : Sg} (v3 : Int) (v4 : Int), St G false τ σ s H locs → lv_has ls 8 [(0, .ref (G.1 41)), (3, .int (oI v3)), (4, .int (oI v4))] → k53 v3 v4 σ = some q → W p l e (rmk 3 96) s m args below meth c H locs 0 0 Q (F0 m 53 ls [])) : ∀ (n : Nat) {H : Heap} {locs : List Loc} {ls : Array Slot} {σ : Sg} (v3 : Int) (v4 : Int) (v5 : Int) (S : St G false τ σ s H locs) (hl : lv_has ls 8 [(0, .ref (G.1 41)), (3, .int (oI v3)), (4, .int (oI v4)), (5, .int (oI v5))]) (hf : f_X10_two_b66 k53 n v3 v4 v5 σ = some q), W p l e (rmk 3 96) s m args below meth c H locs 0 0 Q (F0 m 66 ls []) := by
  intro n
  induction n with
  | zero => intro H locs ls σ v3 v4 v5 S hl hf; cases hf
  | succ n ih =>
    intro H locs ls σ v3 v4 v5 S hl hf
    have hk66 := @ih
    rw [f_X10_two_b66] at hf
    refine lv_iload C.1 C.2.1 dX10_two_66 (lv_at hl 3 rfl) ?_
    refine lv_aload_n C.1 C.2.1 dX10_two_68 rfl (lv_at hl 0 rfl) ?_
    refine g10_discs C S tw_1101 dX10_two_69 ?_
    refine r_icmp_ge C rfl rfl (tgt := 148) dX10_two_72 (by decide) (fun h21 => ?_) (fun h21 => ?_)
    · replace hf := if_t hf h21
      refine lv_aload_n C.1 C.2.1 dX10_two_75 rfl (lv_at hl 0 rfl) ?_
      refine g10_disc C S tw_1100 dX10_two_76 ?_
      refine lv_iload C.1 C.2.1 dX10_two_79 (lv_at hl 2 rfl) ?_
      obtain ⟨hi12, hf⟩ := ck_o hf
      refine a_iald C S ar_59 hi12 dX10_two_81 ?_
      refine lv_aload_n C.1 C.2.1 dX10_two_82 rfl (lv_at hl 0 rfl) ?_
      refine g10_disc C S tw_1100 dX10_two_83 ?_
      refine lv_iload C.1 C.2.1 dX10_two_86 (lv_at hl 3 rfl) ?_
      obtain ⟨hi13, hf⟩ := ck_o hf
      refine a_iald C S ar_59 hi13 dX10_two_88 ?_
      refine r_ior C rfl rfl dX10_two_89 ?_
      refine lv_istore C.1 C.2.1 dX10_two_90 hl (by decide) (lv' := [(6, .int (oI ((((u32 (σ 59 (v4).toNat)) ||| (u32 (σ 59 (v5).toNat)) : Nat) : Int)))), (0, .ref (G.1 41)), (3, .int (oI v3)), (4, .int (oI v4)), (5, .int (oI v5))]) rfl (fun ls hl => ?_)
      refine lv_aload_n C.1 C.2.1 dX10_two_92 rfl (lv_at hl 1 rfl) ?_
      refine lv_iload C.1 C.2.1 dX10_two_93 (lv_at hl 0 rfl) ?_
      obtain ⟨q14, hc15, hf⟩ := bd_o hf
      refine r_callVv C S (As := [.int (oI ((((u32 (σ 59 (v4).toNat)) ||| (u32 (σ 59 (v5).toNat)) : Nat) : Int)))]) (rest := []) (ct_X10_sumOf l G τ hc15) mi_X10_sumOf tw_1392 mv_X10_sumOf (rvX10 S) ⟨rfl, rfl⟩ ⟨Nat.le_of_ble_eq_true rfl, Nat.le_of_ble_eq_true rfl⟩ ⟨Nat.zero_le _, Nat.zero_le _⟩ rfl hl.1 rfl (Nat.le_of_ble_eq_true rfl) dX10_two_95 (fun H locs S => ?_)
      refine lv_istore C.1 C.2.1 dX10_two_98 hl (by decide) (lv' := [(7, .int (oI q14)), (6, .int (oI ((((u32 (σ 59 (v4).toNat)) ||| (u32 (σ 59 (v5).toNat)) : Nat) : Int)))), (0, .ref (G.1 41)), (3, .int (oI v3)), (4, .int (oI v4)), (5, .int (oI v5))]) rfl (fun ls hl => ?_)
      refine lv_iload C.1 C.2.1 dX10_two_100 (lv_at hl 0 rfl) ?_
      refine lv_aload_n C.1 C.2.1 dX10_two_102 rfl (lv_at hl 2 rfl) ?_
      refine g10_bestSum C S tw_1097 dX10_two_103 ?_
      refine r_icmp_lt C rfl rfl (tgt := 142) dX10_two_106 (by decide) (fun h20 => ?_) (fun h20 => ?_)
      · replace hf := if_t hf h20
        exact b_X10_two_b142 C hend hk53 hk66 v3 v4 v5 S (lv_sub hl [2, 3, 4, 5] rfl) hf
      · replace hf := if_f hf h20
        refine lv_iload C.1 C.2.1 dX10_two_109 (lv_at hl 0 rfl) ?_
        refine lv_aload_n C.1 C.2.1 dX10_two_111 rfl (lv_at hl 2 rfl) ?_
        refine g10_bestSum C S tw_1097 dX10_two_112 ?_
        refine r_icmp_ne C rfl rfl (tgt := 130) dX10_two_115 (by decide) (fun h19 => ?_) (fun h19 => ?_)
        · replace hf := if_t hf h19
          refine lv_iload C.1 C.2.1 dX10_two_118 (lv_at hl 1 rfl) ?_
          refine lv_aload_n C.1 C.2.1 dX10_two_120 rfl (lv_at hl 2 rfl) ?_
          refine g10_bestSet C S tw_1098 dX10_two_121 ?_
          refine r_icmp_lt C rfl rfl (tgt := 130) dX10_two_124 (by decide) (fun h18 => ?_) (fun h18 => ?_)
          · replace hf := if_t hf h18
            exact b_X10_two_b130 C hend hk53 hk66 v3 v4 v5 ((((u32 (σ 59 (v4).toNat)) ||| (u32 (σ 59 (v5).toNat)) : Nat) : Int)) q14 S (lv_sub hl [2, 3, 4, 5, 1, 0] rfl) hf
          · replace hf := if_f hf h18
            refine lv_goto C.1 C.2.1 (tgt := 142) dX10_two_127 (by decide) ?_
            exact b_X10_two_b142 C hend hk53 hk66 v3 v4 v5 S (lv_sub hl [2, 3, 4, 5] rfl) hf
        · replace hf := if_f hf h19
          exact b_X10_two_b130 C hend hk53 hk66 v3 v4 v5 ((((u32 (σ 59 (v4).toNat)) ||| (u32 (σ 59 (v5).toNat)) : Nat) : Int)) q14 S (lv_sub hl [2, 3, 4, 5, 1, 0] rfl) hf
    · replace hf := if_f hf h21
      exact b_X10_two_b148 C hend hk53 v3 v4 S (lv_sub hl [0, 1, 2] rfl) hf
set_option maxRecDepth 100000 in
set_option maxHeartbeats 4000000 in
theorem b_X10_two_b154 (C : Cx p s m args c RX10 cX10_two 8) {q : Int × Sg} (hend : EndR p l e (rmk 3 96) s m args below meth c Q G false τ cX10_two .ireturn [.int (oI q.1)] q.2) {H : Heap} {locs : List Loc} {ls : Array Slot} {σ : Sg} (v3 : Int) (S : St G false τ σ s H locs) (hl : lv_has ls 8 [(0, .ref (G.1 41)), (3, .int (oI v3))]) (hf : f_X10_two_b154 v3 σ = some q) : W p l e (rmk 3 96) s m args below meth c H locs 0 0 Q (F0 m 154 ls []) := by
  unfold f_X10_two_b154 at hf
  refine lv_iload_n C.1 C.2.1 dX10_two_154 rfl (lv_at hl 1 rfl) ?_
  refine r_if_ne C rfl (tgt := 165) dX10_two_155 (by decide) (fun h22 => ?_) (fun h22 => ?_)
  · replace hf := if_t hf h22
    refine lv_aload_n C.1 C.2.1 dX10_two_158 rfl (lv_at hl 0 rfl) ?_
    refine g10_bestSum C S tw_1097 dX10_two_159 ?_
    refine lv_goto C.1 C.2.1 (tgt := 169) dX10_two_162 (by decide) ?_
    cases hf
    exact hend _ _ _ _ S dX10_two_169
  · replace hf := if_f hf h22
    refine lv_aload_n C.1 C.2.1 dX10_two_165 rfl (lv_at hl 0 rfl) ?_
    refine g10_bestSet C S tw_1098 dX10_two_166 ?_
    cases hf
    exact hend _ _ _ _ S dX10_two_169
set_option maxRecDepth 100000 in
set_option maxHeartbeats 4000000 in
theorem b_X10_two_b53 (C : Cx p s m args c RX10 cX10_two 8) {q : Int × Sg} (hend : EndR p l e (rmk 3 96) s m args below meth c Q G false τ cX10_two .ireturn [.int (oI q.1)] q.2) : ∀ (n : Nat) {H : Heap} {locs : List Loc} {ls : Array Slot} {σ : Sg} (v3 : Int) (v4 : Int) (S : St G false τ σ s H locs) (hl : lv_has ls 8 [(0, .ref (G.1 41)), (3, .int (oI v3)), (4, .int (oI v4))]) (hf : f_X10_two_b53 n v3 v4 σ = some q), W p l e (rmk 3 96) s m args below meth c H locs 0 0 Q (F0 m 53 ls []) := by
  intro n
  induction n with
  | zero => intro H locs ls σ v3 v4 S hl hf; cases hf
  | succ n ih =>
    intro H locs ls σ v3 v4 S hl hf
    have hk53 := @ih
    rw [f_X10_two_b53] at hf
    refine lv_iload C.1 C.2.1 dX10_two_53 (lv_at hl 2 rfl) ?_
    refine lv_aload_n C.1 C.2.1 dX10_two_55 rfl (lv_at hl 0 rfl) ?_
    refine g10_discs C S tw_1101 dX10_two_56 ?_
    refine r_icmp_ge C rfl rfl (tgt := 154) dX10_two_59 (by decide) (fun h23 => ?_) (fun h23 => ?_)
    · replace hf := if_t hf h23
      refine lv_iload C.1 C.2.1 dX10_two_62 (lv_at hl 2 rfl) ?_
      refine lv_istore C.1 C.2.1 dX10_two_64 hl (by decide) (lv' := [(5, .int (oI v4)), (0, .ref (G.1 41)), (3, .int (oI v3)), (4, .int (oI v4))]) rfl (fun ls hl => ?_)
      exact b_X10_two_b66 C hend hk53 FUEL v3 v4 v4 S (lv_sub hl [1, 2, 3, 0] rfl) hf
    · replace hf := if_f hf h23
      exact b_X10_two_b154 C hend v3 S (lv_sub hl [0, 1] rfl) hf
set_option maxRecDepth 100000 in
set_option maxHeartbeats 4000000 in
theorem ct_X10_two (l : Launch) (G : Gd) (τ : Sg) {v1 : Int} {v2 : Int} {v3 : Int} {σ : Sg} {q : Int × Sg} (hf : f_X10_two v1 v2 v3 σ = some q) : Ctr l yX10_two cX10_two 8 (some .int) (rmk 3 96) G false τ [.ref (G.1 41), .int (oI v1), .int (oI v2), .int (oI v3)] σ q.2 (some (.int (oI q.1))) := by
  unfold f_X10_two at hf
  refine CtrI.of (own := RX10) (plainFor_of_name (by decide)) (Nat.le_of_ble_eq_true rfl) rfl (fun p e s m below meth c Q ls C hl S hend => ?_)
  have hl : lv_has ls 8 [(0, .ref (G.1 41)), (1, .int (oI v1)), (2, .int (oI v2)), (3, .int (oI v3))] := hl
  refine lv_aload_n C.1 C.2.1 dX10_two_0 rfl (lv_at hl 0 rfl) ?_
  refine r_iconst C dX10_two_1 ?_
  refine p10_thrown C S tw_1061 dX10_two_2 (fun H locs S => ?_)
  obtain ⟨σ1, S, hf⟩ := wr_s S hf
  refine lv_iload_n C.1 C.2.1 dX10_two_5 rfl (lv_at hl 1 rfl) ?_
  obtain ⟨q2, hc3, hf⟩ := bd_o hf
  refine r_callSv C S (As := [.int (oI v1)]) (rest := []) (ct_X10_arePerils l G τ hc3) mi_X10_arePerils tw_1363 ms_X10_arePerils ⟨rfl, rfl⟩ ⟨Nat.le_of_ble_eq_true rfl, Nat.le_of_ble_eq_true rfl⟩ ⟨Nat.zero_le _, Nat.zero_le _⟩ rfl hl.1 rfl (Nat.le_of_ble_eq_true rfl) dX10_two_6 (fun H locs S => ?_)
  refine r_if_eq C rfl (tgt := 28) dX10_two_9 (by decide) (fun h27 => ?_) (fun h27 => ?_)
  · replace hf := if_t hf h27
    refine r_iconst C dX10_two_28 ?_
    cases hf
    exact hend _ _ _ _ S dX10_two_29
  · replace hf := if_f hf h27
    refine lv_iload_n C.1 C.2.1 dX10_two_12 rfl (lv_at hl 2 rfl) ?_
    obtain ⟨q4, hc5, hf⟩ := bd_o hf
    refine r_callSv C S (As := [.int (oI v2)]) (rest := []) (ct_X10_isRadius l G τ hc5) mi_X10_isRadius tw_1366 ms_X10_isRadius ⟨rfl, rfl⟩ ⟨Nat.le_of_ble_eq_true rfl, Nat.le_of_ble_eq_true rfl⟩ ⟨Nat.zero_le _, Nat.zero_le _⟩ rfl hl.1 rfl (Nat.le_of_ble_eq_true rfl) dX10_two_13 (fun H locs S => ?_)
    refine r_if_eq C rfl (tgt := 28) dX10_two_16 (by decide) (fun h26 => ?_) (fun h26 => ?_)
    · replace hf := if_t hf h26
      refine r_iconst C dX10_two_28 ?_
      cases hf
      exact hend _ _ _ _ S dX10_two_29
    · replace hf := if_f hf h26
      refine lv_iload_n C.1 C.2.1 dX10_two_19 rfl (lv_at hl 3 rfl) ?_
      refine r_if_lt C rfl (tgt := 28) dX10_two_20 (by decide) (fun h25 => ?_) (fun h25 => ?_)
      · replace hf := if_t hf h25
        refine r_iconst C dX10_two_28 ?_
        cases hf
        exact hend _ _ _ _ S dX10_two_29
      · replace hf := if_f hf h25
        refine lv_iload_n C.1 C.2.1 dX10_two_23 rfl (lv_at hl 3 rfl) ?_
        refine r_iconst C dX10_two_24 ?_
        refine r_icmp_le C rfl (show w32 1 = 1 by decide) (tgt := 30) dX10_two_25 (by decide) (fun h24 => ?_) (fun h24 => ?_)
        · replace hf := if_t hf h24
          refine lv_aload_n C.1 C.2.1 dX10_two_30 rfl (lv_at hl 0 rfl) ?_
          refine lv_aload_n C.1 C.2.1 dX10_two_31 rfl (lv_at hl 0 rfl) ?_
          refine lv_iload_n C.1 C.2.1 dX10_two_32 rfl (lv_at hl 1 rfl) ?_
          obtain ⟨q6, hc7, hf⟩ := bd_o hf
          refine r_callVv C S (As := [.int (oI v1)]) (rest := [.ref (G.1 41)]) (ct_X10_ofPerils l G τ hc7) mi_X10_ofPerils tw_1281 mv_X10_ofPerils (rvX10 S) ⟨rfl, rfl⟩ ⟨Nat.le_of_ble_eq_true rfl, Nat.le_of_ble_eq_true rfl⟩ ⟨Nat.zero_le _, Nat.zero_le _⟩ rfl hl.1 rfl (Nat.le_of_ble_eq_true rfl) dX10_two_33 (fun H locs S => ?_)
          refine lv_iload_n C.1 C.2.1 dX10_two_36 rfl (lv_at hl 2 rfl) ?_
          obtain ⟨q8, hc9, hf⟩ := bd_o hf
          refine r_callVn C S (As := [.int (oI q6), .int (oI v2)]) (rest := []) (ct_X10_findsDiscs l G τ hc9) mi_X10_findsDiscs tw_1485 mv_X10_findsDiscs (rvX10 S) ⟨rfl, rfl⟩ ⟨Nat.le_of_ble_eq_true rfl, Nat.le_of_ble_eq_true rfl⟩ ⟨Nat.zero_le _, Nat.zero_le _⟩ rfl hl.1 rfl (Nat.le_of_ble_eq_true rfl) dX10_two_37 (fun H locs S => ?_)
          refine lv_aload_n C.1 C.2.1 dX10_two_40 rfl (lv_at hl 0 rfl) ?_
          refine r_iconst C dX10_two_41 ?_
          refine p10_bestSum C S tw_1097 dX10_two_42 (fun H locs S => ?_)
          obtain ⟨σ10, S, hf⟩ := wr_s S hf
          refine lv_aload_n C.1 C.2.1 dX10_two_45 rfl (lv_at hl 0 rfl) ?_
          refine r_iconst C dX10_two_46 ?_
          refine p10_bestSet C S tw_1098 dX10_two_47 (fun H locs S => ?_)
          obtain ⟨σ11, S, hf⟩ := wr_s S hf
          refine r_iconst C dX10_two_50 ?_
          refine lv_istore C.1 C.2.1 dX10_two_51 hl (by decide) (lv' := [(4, .int (oI 0)), (0, .ref (G.1 41)), (1, .int (oI v1)), (2, .int (oI v2)), (3, .int (oI v3))]) rfl (fun ls hl => ?_)
          exact b_X10_two_b53 C hend FUEL v3 0 S (lv_sub hl [1, 4, 0] rfl) hf
        · replace hf := if_f hf h24
          refine r_iconst C dX10_two_28 ?_
          cases hf
          exact hend _ _ _ _ S dX10_two_29
set_option maxRecDepth 100000 in
set_option maxHeartbeats 4000000 in
theorem b_X10_isCovered_l0_b66 (C : Cx p s m args c RX10 cX10_isCovered 5) {q : Int} {k20 : Int → Int → Int → Int → Option (Int)} (hend : (q = 0 ∨ q = 1) → EndR p l e (rmk 2 42) s m args below meth c Q G false τ cX10_isCovered .ireturn [.int (oI q)] σ) (hk20 : ∀ {H : Heap} {locs : List Loc} {ls : Array Slot} (v1 : Int) (v2 : Int) (v3 : Int) (v4 : Int), St G false τ σ s H locs → lv_has ls 5 [(0, .ref (G.1 41)), (1, .int (oI v1)), (2, .int (oI v2)), (3, .int (oI v3)), (4, .int (oI v4))] → k20 v1 v2 v3 v4 = some q → W p l e (rmk 2 42) s m args below meth c H locs 0 0 Q (F0 m 20 ls [])) {H : Heap} {locs : List Loc} {ls : Array Slot} (v1 : Int) (v2 : Int) (v3 : Int) (v4 : Int) (S : St G false τ σ s H locs) (hl : lv_has ls 5 [(0, .ref (G.1 41)), (1, .int (oI v1)), (2, .int (oI v2)), (3, .int (oI v3)), (4, .int (oI v4))]) (hf : f_X10_isCovered_l0_b66 σ k20 v1 v2 v3 v4 = some q) : W p l e (rmk 2 42) s m args below meth c H locs 0 0 Q (F0 m 66 ls []) := by
  unfold f_X10_isCovered_l0_b66 at hf
  refine r_iinc C dX10_isCovered_66 hl (k := 4) rfl (by decide) (lv' := [(4, .int (oI (v4 + 1))), (0, .ref (G.1 41)), (1, .int (oI v1)), (2, .int (oI v2)), (3, .int (oI v3))]) rfl (fun ls hl => ?_)
  refine lv_goto C.1 C.2.1 (tgt := 20) dX10_isCovered_69 (by decide) ?_
  exact hk20 v1 v2 v3 (v4 + 1) S (lv_sub hl [1, 2, 3, 4, 0] rfl) hf
set_option maxRecDepth 100000 in
set_option maxHeartbeats 4000000 in
theorem b_X10_isCovered_l0_b20 (C : Cx p s m args c RX10 cX10_isCovered 5) {q : Int} (hend : (q = 0 ∨ q = 1) → EndR p l e (rmk 2 42) s m args below meth c Q G false τ cX10_isCovered .ireturn [.int (oI q)] σ) : ∀ (n : Nat) {H : Heap} {locs : List Loc} {ls : Array Slot} (v1 : Int) (v2 : Int) (v3 : Int) (v4 : Int) (S : St G false τ σ s H locs) (hl : lv_has ls 5 [(0, .ref (G.1 41)), (1, .int (oI v1)), (2, .int (oI v2)), (3, .int (oI v3)), (4, .int (oI v4))]) (hf : f_X10_isCovered_l0_b20 σ n v1 v2 v3 v4 = some q), W p l e (rmk 2 42) s m args below meth c H locs 0 0 Q (F0 m 20 ls []) := by
  intro n
  induction n with
  | zero => intro H locs ls v1 v2 v3 v4 S hl hf; cases hf
  | succ n ih =>
    intro H locs ls v1 v2 v3 v4 S hl hf
    have hk20 := @ih
    rw [f_X10_isCovered_l0_b20] at hf
    refine lv_iload C.1 C.2.1 dX10_isCovered_20 (lv_at hl 4 rfl) ?_
    refine lv_aload_n C.1 C.2.1 dX10_isCovered_22 rfl (lv_at hl 0 rfl) ?_
    refine g10_discs C S tw_1101 dX10_isCovered_23 ?_
    refine r_icmp_ge C rfl rfl (tgt := 72) dX10_isCovered_26 (by decide) (fun h8 => ?_) (fun h8 => ?_)
    · replace hf := if_t hf h8
      refine lv_aload_n C.1 C.2.1 dX10_isCovered_29 rfl (lv_at hl 0 rfl) ?_
      refine g10_disc C S tw_1100 dX10_isCovered_30 ?_
      refine lv_iload C.1 C.2.1 dX10_isCovered_33 (lv_at hl 4 rfl) ?_
      obtain ⟨hi3, hf⟩ := ck_o hf
      refine a_iald C S ar_59 hi3 dX10_isCovered_35 ?_
      refine lv_iload_n C.1 C.2.1 dX10_isCovered_36 rfl (lv_at hl 3 rfl) ?_
      obtain ⟨q4, hc5, hf⟩ := bd_o hf
      refine r_callSv C S (As := [.int (oI (σ 59 (v4).toNat)), .int (oI v3)]) (rest := []) (ct_X10_has l G τ hc5) mi_X10_has tw_1285 ms_X10_has ⟨rfl, rfl⟩ ⟨Nat.le_of_ble_eq_true rfl, Nat.le_of_ble_eq_true rfl⟩ ⟨Nat.zero_le _, Nat.zero_le _⟩ rfl hl.1 rfl (Nat.le_of_ble_eq_true rfl) dX10_isCovered_37 (fun H locs S => ?_)
      refine r_if_eq C rfl (tgt := 66) dX10_isCovered_40 (by decide) (fun h7 => ?_) (fun h7 => ?_)
      · replace hf := if_t hf h7
        exact b_X10_isCovered_l0_b66 C hend hk20 v1 v2 v3 v4 S (lv_sub hl [0, 1, 2, 3, 4] rfl) hf
      · replace hf := if_f hf h7
        refine lv_aload_n C.1 C.2.1 dX10_isCovered_43 rfl (lv_at hl 0 rfl) ?_
        refine lv_iload_n C.1 C.2.1 dX10_isCovered_44 rfl (lv_at hl 1 rfl) ?_
        refine lv_aload_n C.1 C.2.1 dX10_isCovered_45 rfl (lv_at hl 0 rfl) ?_
        refine g10_disc C S tw_1100 dX10_isCovered_46 ?_
        refine lv_iload C.1 C.2.1 dX10_isCovered_49 (lv_at hl 4 rfl) ?_
        obtain ⟨hi6, hf⟩ := ck_o hf
        refine a_iald C S ar_59 hi6 dX10_isCovered_51 ?_
        refine r_iconst C dX10_isCovered_52 ?_
        refine r_ixor C rfl (show u32 (-1) = 4294967295 by decide) dX10_isCovered_53 ?_
        refine r_iand C rfl (u32_nat (nb_xor (u32_lt _) (show 4294967295 < 4294967296 by decide))) dX10_isCovered_54 ?_
        refine lv_iload_n C.1 C.2.1 dX10_isCovered_55 rfl (lv_at hl 2 rfl) ?_
        refine r_iconst C dX10_isCovered_56 ?_
        refine r_isub C dX10_isCovered_57 ?_
        exact absurd hf (by intro h; cases h)
    · replace hf := if_f hf h8
      refine r_iconst C dX10_isCovered_72 ?_
      cases hf
      exact hend (Or.inl rfl) _ _ _ _ S dX10_isCovered_73
set_option maxRecDepth 100000 in
set_option maxHeartbeats 4000000 in
theorem ct_X10_isCovered_l0 (l : Launch) (G : Gd) (τ : Sg) {v1 : Int} {v2 : Int} {σ : Sg} {q : Int} (hf : f_X10_isCovered_l0 v1 v2 σ = some q) : Ctr l yX10_isCovered cX10_isCovered 5 (some .boolean) (rmk 2 42) G false τ [.ref (G.1 41), .int (oI v1), .int (oI v2)] σ σ (some (.int (oI q))) := by
  unfold f_X10_isCovered_l0 at hf
  refine CtrZ.of (own := RX10) (plainFor_of_name (by decide)) (Nat.le_of_ble_eq_true rfl) rfl (fun p e s m below meth c Q ls C hl S hend => ?_)
  have hl : lv_has ls 5 [(0, .ref (G.1 41)), (1, .int (oI v1)), (2, .int (oI v2))] := hl
  refine lv_iload_n C.1 C.2.1 dX10_isCovered_0 rfl (lv_at hl 1 rfl) ?_
  refine r_if_ne C rfl (tgt := 6) dX10_isCovered_1 (by decide) (fun h10 => ?_) (fun h10 => ?_)
  · replace hf := if_t hf h10
    refine r_iconst C dX10_isCovered_4 ?_
    cases hf
    exact hend (Or.inr rfl) _ _ _ _ S dX10_isCovered_5
  · replace hf := if_f hf h10
    refine lv_iload_n C.1 C.2.1 dX10_isCovered_6 rfl (lv_at hl 2 rfl) ?_
    refine r_if_ne C rfl (tgt := 12) dX10_isCovered_7 (by decide) (fun h9 => ?_) (fun h9 => ?_)
    · replace hf := if_t hf h9
      refine r_iconst C dX10_isCovered_10 ?_
      cases hf
      exact hend (Or.inl rfl) _ _ _ _ S dX10_isCovered_11
    · replace hf := if_f hf h9
      refine lv_iload_n C.1 C.2.1 dX10_isCovered_12 rfl (lv_at hl 1 rfl) ?_
      obtain ⟨q1, hc2, hf⟩ := bd_o hf
      refine r_callSv C S (As := [.int (oI v1)]) (rest := []) (ct_X10_lowest l G τ hc2) mi_X10_lowest tw_1427 ms_X10_lowest ⟨rfl, rfl⟩ ⟨Nat.le_of_ble_eq_true rfl, Nat.le_of_ble_eq_true rfl⟩ ⟨Nat.zero_le _, Nat.zero_le _⟩ rfl hl.1 rfl (Nat.le_of_ble_eq_true rfl) dX10_isCovered_13 (fun H locs S => ?_)
      refine lv_istore_n C.1 C.2.1 dX10_isCovered_16 rfl hl (by decide) (lv' := [(3, .int (oI q1)), (0, .ref (G.1 41)), (1, .int (oI v1)), (2, .int (oI v2))]) rfl (fun ls hl => ?_)
      refine r_iconst C dX10_isCovered_17 ?_
      refine lv_istore C.1 C.2.1 dX10_isCovered_18 hl (by decide) (lv' := [(4, .int (oI 0)), (3, .int (oI q1)), (0, .ref (G.1 41)), (1, .int (oI v1)), (2, .int (oI v2))]) rfl (fun ls hl => ?_)
      exact b_X10_isCovered_l0_b20 C hend FUEL v1 v2 q1 0 S (lv_sub hl [2, 3, 4, 1, 0] rfl) hf
set_option maxRecDepth 100000 in
set_option maxHeartbeats 4000000 in
theorem b_X10_isCovered_l1_b66 (C : Cx p s m args c RX10 cX10_isCovered 5) {q : Int} {k20 : Int → Int → Int → Int → Option (Int)} (hend : (q = 0 ∨ q = 1) → EndR p l e (rmk 3 66) s m args below meth c Q G false τ cX10_isCovered .ireturn [.int (oI q)] σ) (hk20 : ∀ {H : Heap} {locs : List Loc} {ls : Array Slot} (v1 : Int) (v2 : Int) (v3 : Int) (v4 : Int), St G false τ σ s H locs → lv_has ls 5 [(0, .ref (G.1 41)), (1, .int (oI v1)), (2, .int (oI v2)), (3, .int (oI v3)), (4, .int (oI v4))] → k20 v1 v2 v3 v4 = some q → W p l e (rmk 3 66) s m args below meth c H locs 0 0 Q (F0 m 20 ls [])) {H : Heap} {locs : List Loc} {ls : Array Slot} (v1 : Int) (v2 : Int) (v3 : Int) (v4 : Int) (S : St G false τ σ s H locs) (hl : lv_has ls 5 [(0, .ref (G.1 41)), (1, .int (oI v1)), (2, .int (oI v2)), (3, .int (oI v3)), (4, .int (oI v4))]) (hf : f_X10_isCovered_l1_b66 σ k20 v1 v2 v3 v4 = some q) : W p l e (rmk 3 66) s m args below meth c H locs 0 0 Q (F0 m 66 ls []) := by
  unfold f_X10_isCovered_l1_b66 at hf
  refine r_iinc C dX10_isCovered_66 hl (k := 4) rfl (by decide) (lv' := [(4, .int (oI (v4 + 1))), (0, .ref (G.1 41)), (1, .int (oI v1)), (2, .int (oI v2)), (3, .int (oI v3))]) rfl (fun ls hl => ?_)
  refine lv_goto C.1 C.2.1 (tgt := 20) dX10_isCovered_69 (by decide) ?_
  exact hk20 v1 v2 v3 (v4 + 1) S (lv_sub hl [1, 2, 3, 4, 0] rfl) hf
set_option maxRecDepth 100000 in
set_option maxHeartbeats 4000000 in
theorem b_X10_isCovered_l1_b20 (C : Cx p s m args c RX10 cX10_isCovered 5) {q : Int} (hend : (q = 0 ∨ q = 1) → EndR p l e (rmk 3 66) s m args below meth c Q G false τ cX10_isCovered .ireturn [.int (oI q)] σ) : ∀ (n : Nat) {H : Heap} {locs : List Loc} {ls : Array Slot} (v1 : Int) (v2 : Int) (v3 : Int) (v4 : Int) (S : St G false τ σ s H locs) (hl : lv_has ls 5 [(0, .ref (G.1 41)), (1, .int (oI v1)), (2, .int (oI v2)), (3, .int (oI v3)), (4, .int (oI v4))]) (hf : f_X10_isCovered_l1_b20 σ n v1 v2 v3 v4 = some q), W p l e (rmk 3 66) s m args below meth c H locs 0 0 Q (F0 m 20 ls []) := by
  intro n
  induction n with
  | zero => intro H locs ls v1 v2 v3 v4 S hl hf; cases hf
  | succ n ih =>
    intro H locs ls v1 v2 v3 v4 S hl hf
    have hk20 := @ih
    rw [f_X10_isCovered_l1_b20] at hf
    refine lv_iload C.1 C.2.1 dX10_isCovered_20 (lv_at hl 4 rfl) ?_
    refine lv_aload_n C.1 C.2.1 dX10_isCovered_22 rfl (lv_at hl 0 rfl) ?_
    refine g10_discs C S tw_1101 dX10_isCovered_23 ?_
    refine r_icmp_ge C rfl rfl (tgt := 72) dX10_isCovered_26 (by decide) (fun h11 => ?_) (fun h11 => ?_)
    · replace hf := if_t hf h11
      refine lv_aload_n C.1 C.2.1 dX10_isCovered_29 rfl (lv_at hl 0 rfl) ?_
      refine g10_disc C S tw_1100 dX10_isCovered_30 ?_
      refine lv_iload C.1 C.2.1 dX10_isCovered_33 (lv_at hl 4 rfl) ?_
      obtain ⟨hi3, hf⟩ := ck_o hf
      refine a_iald C S ar_59 hi3 dX10_isCovered_35 ?_
      refine lv_iload_n C.1 C.2.1 dX10_isCovered_36 rfl (lv_at hl 3 rfl) ?_
      obtain ⟨q4, hc5, hf⟩ := bd_o hf
      refine r_callSv C S (As := [.int (oI (σ 59 (v4).toNat)), .int (oI v3)]) (rest := []) (ct_X10_has l G τ hc5) mi_X10_has tw_1285 ms_X10_has ⟨rfl, rfl⟩ ⟨Nat.le_of_ble_eq_true rfl, Nat.le_of_ble_eq_true rfl⟩ ⟨Nat.zero_le _, Nat.zero_le _⟩ rfl hl.1 rfl (Nat.le_of_ble_eq_true rfl) dX10_isCovered_37 (fun H locs S => ?_)
      refine r_if_eq C rfl (tgt := 66) dX10_isCovered_40 (by decide) (fun h10 => ?_) (fun h10 => ?_)
      · replace hf := if_t hf h10
        exact b_X10_isCovered_l1_b66 C hend hk20 v1 v2 v3 v4 S (lv_sub hl [0, 1, 2, 3, 4] rfl) hf
      · replace hf := if_f hf h10
        refine lv_aload_n C.1 C.2.1 dX10_isCovered_43 rfl (lv_at hl 0 rfl) ?_
        refine lv_iload_n C.1 C.2.1 dX10_isCovered_44 rfl (lv_at hl 1 rfl) ?_
        refine lv_aload_n C.1 C.2.1 dX10_isCovered_45 rfl (lv_at hl 0 rfl) ?_
        refine g10_disc C S tw_1100 dX10_isCovered_46 ?_
        refine lv_iload C.1 C.2.1 dX10_isCovered_49 (lv_at hl 4 rfl) ?_
        obtain ⟨hi6, hf⟩ := ck_o hf
        refine a_iald C S ar_59 hi6 dX10_isCovered_51 ?_
        refine r_iconst C dX10_isCovered_52 ?_
        refine r_ixor C rfl (show u32 (-1) = 4294967295 by decide) dX10_isCovered_53 ?_
        refine r_iand C rfl (u32_nat (nb_xor (u32_lt _) (show 4294967295 < 4294967296 by decide))) dX10_isCovered_54 ?_
        refine lv_iload_n C.1 C.2.1 dX10_isCovered_55 rfl (lv_at hl 2 rfl) ?_
        refine r_iconst C dX10_isCovered_56 ?_
        refine r_isub C dX10_isCovered_57 ?_
        obtain ⟨q7, hc8, hf⟩ := bd_o hf
        refine r_callVv C S (As := [.int (oI ((((u32 v1) &&& ((u32 (σ 59 (v4).toNat)) ^^^ 4294967295) : Nat) : Int))), .int (oI (v2 - 1))]) (rest := []) (ct_X10_isCovered_l0 l G τ hc8) mi_X10_isCovered tw_1497 mv_X10_isCovered (rvX10 S) ⟨rfl, rfl⟩ ⟨Nat.le_of_ble_eq_true rfl, Nat.le_of_ble_eq_true rfl⟩ ⟨Nat.zero_le _, Nat.zero_le _⟩ rfl hl.1 rfl (Nat.le_of_ble_eq_true rfl) dX10_isCovered_58 (fun H locs S => ?_)
        refine r_if_eq C rfl (tgt := 66) dX10_isCovered_61 (by decide) (fun h9 => ?_) (fun h9 => ?_)
        · replace hf := if_t hf h9
          exact b_X10_isCovered_l1_b66 C hend hk20 v1 v2 v3 v4 S (lv_sub hl [0, 1, 2, 3, 4] rfl) hf
        · replace hf := if_f hf h9
          refine r_iconst C dX10_isCovered_64 ?_
          cases hf
          exact hend (Or.inr rfl) _ _ _ _ S dX10_isCovered_65
    · replace hf := if_f hf h11
      refine r_iconst C dX10_isCovered_72 ?_
      cases hf
      exact hend (Or.inl rfl) _ _ _ _ S dX10_isCovered_73
set_option maxRecDepth 100000 in
set_option maxHeartbeats 4000000 in
theorem ct_X10_isCovered_l1 (l : Launch) (G : Gd) (τ : Sg) {v1 : Int} {v2 : Int} {σ : Sg} {q : Int} (hf : f_X10_isCovered_l1 v1 v2 σ = some q) : Ctr l yX10_isCovered cX10_isCovered 5 (some .boolean) (rmk 3 66) G false τ [.ref (G.1 41), .int (oI v1), .int (oI v2)] σ σ (some (.int (oI q))) := by
  unfold f_X10_isCovered_l1 at hf
  refine CtrZ.of (own := RX10) (plainFor_of_name (by decide)) (Nat.le_of_ble_eq_true rfl) rfl (fun p e s m below meth c Q ls C hl S hend => ?_)
  have hl : lv_has ls 5 [(0, .ref (G.1 41)), (1, .int (oI v1)), (2, .int (oI v2))] := hl
  refine lv_iload_n C.1 C.2.1 dX10_isCovered_0 rfl (lv_at hl 1 rfl) ?_
  refine r_if_ne C rfl (tgt := 6) dX10_isCovered_1 (by decide) (fun h13 => ?_) (fun h13 => ?_)
  · replace hf := if_t hf h13
    refine r_iconst C dX10_isCovered_4 ?_
    cases hf
    exact hend (Or.inr rfl) _ _ _ _ S dX10_isCovered_5
  · replace hf := if_f hf h13
    refine lv_iload_n C.1 C.2.1 dX10_isCovered_6 rfl (lv_at hl 2 rfl) ?_
    refine r_if_ne C rfl (tgt := 12) dX10_isCovered_7 (by decide) (fun h12 => ?_) (fun h12 => ?_)
    · replace hf := if_t hf h12
      refine r_iconst C dX10_isCovered_10 ?_
      cases hf
      exact hend (Or.inl rfl) _ _ _ _ S dX10_isCovered_11
    · replace hf := if_f hf h12
      refine lv_iload_n C.1 C.2.1 dX10_isCovered_12 rfl (lv_at hl 1 rfl) ?_
      obtain ⟨q1, hc2, hf⟩ := bd_o hf
      refine r_callSv C S (As := [.int (oI v1)]) (rest := []) (ct_X10_lowest l G τ hc2) mi_X10_lowest tw_1427 ms_X10_lowest ⟨rfl, rfl⟩ ⟨Nat.le_of_ble_eq_true rfl, Nat.le_of_ble_eq_true rfl⟩ ⟨Nat.zero_le _, Nat.zero_le _⟩ rfl hl.1 rfl (Nat.le_of_ble_eq_true rfl) dX10_isCovered_13 (fun H locs S => ?_)
      refine lv_istore_n C.1 C.2.1 dX10_isCovered_16 rfl hl (by decide) (lv' := [(3, .int (oI q1)), (0, .ref (G.1 41)), (1, .int (oI v1)), (2, .int (oI v2))]) rfl (fun ls hl => ?_)
      refine r_iconst C dX10_isCovered_17 ?_
      refine lv_istore C.1 C.2.1 dX10_isCovered_18 hl (by decide) (lv' := [(4, .int (oI 0)), (3, .int (oI q1)), (0, .ref (G.1 41)), (1, .int (oI v1)), (2, .int (oI v2))]) rfl (fun ls hl => ?_)
      exact b_X10_isCovered_l1_b20 C hend FUEL v1 v2 q1 0 S (lv_sub hl [2, 3, 4, 1, 0] rfl) hf
set_option maxRecDepth 100000 in
set_option maxHeartbeats 4000000 in
theorem b_X10_isCovered_l2_b66 (C : Cx p s m args c RX10 cX10_isCovered 5) {q : Int} {k20 : Int → Int → Int → Int → Option (Int)} (hend : (q = 0 ∨ q = 1) → EndR p l e (rmk 4 90) s m args below meth c Q G false τ cX10_isCovered .ireturn [.int (oI q)] σ) (hk20 : ∀ {H : Heap} {locs : List Loc} {ls : Array Slot} (v1 : Int) (v2 : Int) (v3 : Int) (v4 : Int), St G false τ σ s H locs → lv_has ls 5 [(0, .ref (G.1 41)), (1, .int (oI v1)), (2, .int (oI v2)), (3, .int (oI v3)), (4, .int (oI v4))] → k20 v1 v2 v3 v4 = some q → W p l e (rmk 4 90) s m args below meth c H locs 0 0 Q (F0 m 20 ls [])) {H : Heap} {locs : List Loc} {ls : Array Slot} (v1 : Int) (v2 : Int) (v3 : Int) (v4 : Int) (S : St G false τ σ s H locs) (hl : lv_has ls 5 [(0, .ref (G.1 41)), (1, .int (oI v1)), (2, .int (oI v2)), (3, .int (oI v3)), (4, .int (oI v4))]) (hf : f_X10_isCovered_l2_b66 σ k20 v1 v2 v3 v4 = some q) : W p l e (rmk 4 90) s m args below meth c H locs 0 0 Q (F0 m 66 ls []) := by
  unfold f_X10_isCovered_l2_b66 at hf
  refine r_iinc C dX10_isCovered_66 hl (k := 4) rfl (by decide) (lv' := [(4, .int (oI (v4 + 1))), (0, .ref (G.1 41)), (1, .int (oI v1)), (2, .int (oI v2)), (3, .int (oI v3))]) rfl (fun ls hl => ?_)
  refine lv_goto C.1 C.2.1 (tgt := 20) dX10_isCovered_69 (by decide) ?_
  exact hk20 v1 v2 v3 (v4 + 1) S (lv_sub hl [1, 2, 3, 4, 0] rfl) hf
set_option maxRecDepth 100000 in
set_option maxHeartbeats 4000000 in
theorem b_X10_isCovered_l2_b20 (C : Cx p s m args c RX10 cX10_isCovered 5) {q : Int} (hend : (q = 0 ∨ q = 1) → EndR p l e (rmk 4 90) s m args below meth c Q G false τ cX10_isCovered .ireturn [.int (oI q)] σ) : ∀ (n : Nat) {H : Heap} {locs : List Loc} {ls : Array Slot} (v1 : Int) (v2 : Int) (v3 : Int) (v4 : Int) (S : St G false τ σ s H locs) (hl : lv_has ls 5 [(0, .ref (G.1 41)), (1, .int (oI v1)), (2, .int (oI v2)), (3, .int (oI v3)), (4, .int (oI v4))]) (hf : f_X10_isCovered_l2_b20 σ n v1 v2 v3 v4 = some q), W p l e (rmk 4 90) s m args below meth c H locs 0 0 Q (F0 m 20 ls []) := by
  intro n
  induction n with
  | zero => intro H locs ls v1 v2 v3 v4 S hl hf; cases hf
  | succ n ih =>
    intro H locs ls v1 v2 v3 v4 S hl hf
    have hk20 := @ih
    rw [f_X10_isCovered_l2_b20] at hf
    refine lv_iload C.1 C.2.1 dX10_isCovered_20 (lv_at hl 4 rfl) ?_
    refine lv_aload_n C.1 C.2.1 dX10_isCovered_22 rfl (lv_at hl 0 rfl) ?_
    refine g10_discs C S tw_1101 dX10_isCovered_23 ?_
    refine r_icmp_ge C rfl rfl (tgt := 72) dX10_isCovered_26 (by decide) (fun h11 => ?_) (fun h11 => ?_)
    · replace hf := if_t hf h11
      refine lv_aload_n C.1 C.2.1 dX10_isCovered_29 rfl (lv_at hl 0 rfl) ?_
      refine g10_disc C S tw_1100 dX10_isCovered_30 ?_
      refine lv_iload C.1 C.2.1 dX10_isCovered_33 (lv_at hl 4 rfl) ?_
      obtain ⟨hi3, hf⟩ := ck_o hf
      refine a_iald C S ar_59 hi3 dX10_isCovered_35 ?_
      refine lv_iload_n C.1 C.2.1 dX10_isCovered_36 rfl (lv_at hl 3 rfl) ?_
      obtain ⟨q4, hc5, hf⟩ := bd_o hf
      refine r_callSv C S (As := [.int (oI (σ 59 (v4).toNat)), .int (oI v3)]) (rest := []) (ct_X10_has l G τ hc5) mi_X10_has tw_1285 ms_X10_has ⟨rfl, rfl⟩ ⟨Nat.le_of_ble_eq_true rfl, Nat.le_of_ble_eq_true rfl⟩ ⟨Nat.zero_le _, Nat.zero_le _⟩ rfl hl.1 rfl (Nat.le_of_ble_eq_true rfl) dX10_isCovered_37 (fun H locs S => ?_)
      refine r_if_eq C rfl (tgt := 66) dX10_isCovered_40 (by decide) (fun h10 => ?_) (fun h10 => ?_)
      · replace hf := if_t hf h10
        exact b_X10_isCovered_l2_b66 C hend hk20 v1 v2 v3 v4 S (lv_sub hl [0, 1, 2, 3, 4] rfl) hf
      · replace hf := if_f hf h10
        refine lv_aload_n C.1 C.2.1 dX10_isCovered_43 rfl (lv_at hl 0 rfl) ?_
        refine lv_iload_n C.1 C.2.1 dX10_isCovered_44 rfl (lv_at hl 1 rfl) ?_
        refine lv_aload_n C.1 C.2.1 dX10_isCovered_45 rfl (lv_at hl 0 rfl) ?_
        refine g10_disc C S tw_1100 dX10_isCovered_46 ?_
        refine lv_iload C.1 C.2.1 dX10_isCovered_49 (lv_at hl 4 rfl) ?_
        obtain ⟨hi6, hf⟩ := ck_o hf
        refine a_iald C S ar_59 hi6 dX10_isCovered_51 ?_
        refine r_iconst C dX10_isCovered_52 ?_
        refine r_ixor C rfl (show u32 (-1) = 4294967295 by decide) dX10_isCovered_53 ?_
        refine r_iand C rfl (u32_nat (nb_xor (u32_lt _) (show 4294967295 < 4294967296 by decide))) dX10_isCovered_54 ?_
        refine lv_iload_n C.1 C.2.1 dX10_isCovered_55 rfl (lv_at hl 2 rfl) ?_
        refine r_iconst C dX10_isCovered_56 ?_
        refine r_isub C dX10_isCovered_57 ?_
        obtain ⟨q7, hc8, hf⟩ := bd_o hf
        refine r_callVv C S (As := [.int (oI ((((u32 v1) &&& ((u32 (σ 59 (v4).toNat)) ^^^ 4294967295) : Nat) : Int))), .int (oI (v2 - 1))]) (rest := []) (ct_X10_isCovered_l1 l G τ hc8) mi_X10_isCovered tw_1497 mv_X10_isCovered (rvX10 S) ⟨rfl, rfl⟩ ⟨Nat.le_of_ble_eq_true rfl, Nat.le_of_ble_eq_true rfl⟩ ⟨Nat.zero_le _, Nat.zero_le _⟩ rfl hl.1 rfl (Nat.le_of_ble_eq_true rfl) dX10_isCovered_58 (fun H locs S => ?_)
        refine r_if_eq C rfl (tgt := 66) dX10_isCovered_61 (by decide) (fun h9 => ?_) (fun h9 => ?_)
        · replace hf := if_t hf h9
          exact b_X10_isCovered_l2_b66 C hend hk20 v1 v2 v3 v4 S (lv_sub hl [0, 1, 2, 3, 4] rfl) hf
        · replace hf := if_f hf h9
          refine r_iconst C dX10_isCovered_64 ?_
          cases hf
          exact hend (Or.inr rfl) _ _ _ _ S dX10_isCovered_65
    · replace hf := if_f hf h11
      refine r_iconst C dX10_isCovered_72 ?_
      cases hf
      exact hend (Or.inl rfl) _ _ _ _ S dX10_isCovered_73
set_option maxRecDepth 100000 in
set_option maxHeartbeats 4000000 in
theorem ct_X10_isCovered_l2 (l : Launch) (G : Gd) (τ : Sg) {v1 : Int} {v2 : Int} {σ : Sg} {q : Int} (hf : f_X10_isCovered_l2 v1 v2 σ = some q) : Ctr l yX10_isCovered cX10_isCovered 5 (some .boolean) (rmk 4 90) G false τ [.ref (G.1 41), .int (oI v1), .int (oI v2)] σ σ (some (.int (oI q))) := by
  unfold f_X10_isCovered_l2 at hf
  refine CtrZ.of (own := RX10) (plainFor_of_name (by decide)) (Nat.le_of_ble_eq_true rfl) rfl (fun p e s m below meth c Q ls C hl S hend => ?_)
  have hl : lv_has ls 5 [(0, .ref (G.1 41)), (1, .int (oI v1)), (2, .int (oI v2))] := hl
  refine lv_iload_n C.1 C.2.1 dX10_isCovered_0 rfl (lv_at hl 1 rfl) ?_
  refine r_if_ne C rfl (tgt := 6) dX10_isCovered_1 (by decide) (fun h13 => ?_) (fun h13 => ?_)
  · replace hf := if_t hf h13
    refine r_iconst C dX10_isCovered_4 ?_
    cases hf
    exact hend (Or.inr rfl) _ _ _ _ S dX10_isCovered_5
  · replace hf := if_f hf h13
    refine lv_iload_n C.1 C.2.1 dX10_isCovered_6 rfl (lv_at hl 2 rfl) ?_
    refine r_if_ne C rfl (tgt := 12) dX10_isCovered_7 (by decide) (fun h12 => ?_) (fun h12 => ?_)
    · replace hf := if_t hf h12
      refine r_iconst C dX10_isCovered_10 ?_
      cases hf
      exact hend (Or.inl rfl) _ _ _ _ S dX10_isCovered_11
    · replace hf := if_f hf h12
      refine lv_iload_n C.1 C.2.1 dX10_isCovered_12 rfl (lv_at hl 1 rfl) ?_
      obtain ⟨q1, hc2, hf⟩ := bd_o hf
      refine r_callSv C S (As := [.int (oI v1)]) (rest := []) (ct_X10_lowest l G τ hc2) mi_X10_lowest tw_1427 ms_X10_lowest ⟨rfl, rfl⟩ ⟨Nat.le_of_ble_eq_true rfl, Nat.le_of_ble_eq_true rfl⟩ ⟨Nat.zero_le _, Nat.zero_le _⟩ rfl hl.1 rfl (Nat.le_of_ble_eq_true rfl) dX10_isCovered_13 (fun H locs S => ?_)
      refine lv_istore_n C.1 C.2.1 dX10_isCovered_16 rfl hl (by decide) (lv' := [(3, .int (oI q1)), (0, .ref (G.1 41)), (1, .int (oI v1)), (2, .int (oI v2))]) rfl (fun ls hl => ?_)
      refine r_iconst C dX10_isCovered_17 ?_
      refine lv_istore C.1 C.2.1 dX10_isCovered_18 hl (by decide) (lv' := [(4, .int (oI 0)), (3, .int (oI q1)), (0, .ref (G.1 41)), (1, .int (oI v1)), (2, .int (oI v2))]) rfl (fun ls hl => ?_)
      exact b_X10_isCovered_l2_b20 C hend FUEL v1 v2 q1 0 S (lv_sub hl [2, 3, 4, 1, 0] rfl) hf
set_option maxRecDepth 100000 in
set_option maxHeartbeats 4000000 in
theorem b_X10_isCovered_l3_b66 (C : Cx p s m args c RX10 cX10_isCovered 5) {q : Int} {k20 : Int → Int → Int → Int → Option (Int)} (hend : (q = 0 ∨ q = 1) → EndR p l e (rmk 5 114) s m args below meth c Q G false τ cX10_isCovered .ireturn [.int (oI q)] σ) (hk20 : ∀ {H : Heap} {locs : List Loc} {ls : Array Slot} (v1 : Int) (v2 : Int) (v3 : Int) (v4 : Int), St G false τ σ s H locs → lv_has ls 5 [(0, .ref (G.1 41)), (1, .int (oI v1)), (2, .int (oI v2)), (3, .int (oI v3)), (4, .int (oI v4))] → k20 v1 v2 v3 v4 = some q → W p l e (rmk 5 114) s m args below meth c H locs 0 0 Q (F0 m 20 ls [])) {H : Heap} {locs : List Loc} {ls : Array Slot} (v1 : Int) (v2 : Int) (v3 : Int) (v4 : Int) (S : St G false τ σ s H locs) (hl : lv_has ls 5 [(0, .ref (G.1 41)), (1, .int (oI v1)), (2, .int (oI v2)), (3, .int (oI v3)), (4, .int (oI v4))]) (hf : f_X10_isCovered_l3_b66 σ k20 v1 v2 v3 v4 = some q) : W p l e (rmk 5 114) s m args below meth c H locs 0 0 Q (F0 m 66 ls []) := by
  unfold f_X10_isCovered_l3_b66 at hf
  refine r_iinc C dX10_isCovered_66 hl (k := 4) rfl (by decide) (lv' := [(4, .int (oI (v4 + 1))), (0, .ref (G.1 41)), (1, .int (oI v1)), (2, .int (oI v2)), (3, .int (oI v3))]) rfl (fun ls hl => ?_)
  refine lv_goto C.1 C.2.1 (tgt := 20) dX10_isCovered_69 (by decide) ?_
  exact hk20 v1 v2 v3 (v4 + 1) S (lv_sub hl [1, 2, 3, 4, 0] rfl) hf
set_option maxRecDepth 100000 in
set_option maxHeartbeats 4000000 in
theorem b_X10_isCovered_l3_b20 (C : Cx p s m args c RX10 cX10_isCovered 5) {q : Int} (hend : (q = 0 ∨ q = 1) → EndR p l e (rmk 5 114) s m args below meth c Q G false τ cX10_isCovered .ireturn [.int (oI q)] σ) : ∀ (n : Nat) {H : Heap} {locs : List Loc} {ls : Array Slot} (v1 : Int) (v2 : Int) (v3 : Int) (v4 : Int) (S : St G false τ σ s H locs) (hl : lv_has ls 5 [(0, .ref (G.1 41)), (1, .int (oI v1)), (2, .int (oI v2)), (3, .int (oI v3)), (4, .int (oI v4))]) (hf : f_X10_isCovered_l3_b20 σ n v1 v2 v3 v4 = some q), W p l e (rmk 5 114) s m args below meth c H locs 0 0 Q (F0 m 20 ls []) := by
  intro n
  induction n with
  | zero => intro H locs ls v1 v2 v3 v4 S hl hf; cases hf
  | succ n ih =>
    intro H locs ls v1 v2 v3 v4 S hl hf
    have hk20 := @ih
    rw [f_X10_isCovered_l3_b20] at hf
    refine lv_iload C.1 C.2.1 dX10_isCovered_20 (lv_at hl 4 rfl) ?_
    refine lv_aload_n C.1 C.2.1 dX10_isCovered_22 rfl (lv_at hl 0 rfl) ?_
    refine g10_discs C S tw_1101 dX10_isCovered_23 ?_
    refine r_icmp_ge C rfl rfl (tgt := 72) dX10_isCovered_26 (by decide) (fun h11 => ?_) (fun h11 => ?_)
    · replace hf := if_t hf h11
      refine lv_aload_n C.1 C.2.1 dX10_isCovered_29 rfl (lv_at hl 0 rfl) ?_
      refine g10_disc C S tw_1100 dX10_isCovered_30 ?_
      refine lv_iload C.1 C.2.1 dX10_isCovered_33 (lv_at hl 4 rfl) ?_
      obtain ⟨hi3, hf⟩ := ck_o hf
      refine a_iald C S ar_59 hi3 dX10_isCovered_35 ?_
      refine lv_iload_n C.1 C.2.1 dX10_isCovered_36 rfl (lv_at hl 3 rfl) ?_
      obtain ⟨q4, hc5, hf⟩ := bd_o hf
      refine r_callSv C S (As := [.int (oI (σ 59 (v4).toNat)), .int (oI v3)]) (rest := []) (ct_X10_has l G τ hc5) mi_X10_has tw_1285 ms_X10_has ⟨rfl, rfl⟩ ⟨Nat.le_of_ble_eq_true rfl, Nat.le_of_ble_eq_true rfl⟩ ⟨Nat.zero_le _, Nat.zero_le _⟩ rfl hl.1 rfl (Nat.le_of_ble_eq_true rfl) dX10_isCovered_37 (fun H locs S => ?_)
      refine r_if_eq C rfl (tgt := 66) dX10_isCovered_40 (by decide) (fun h10 => ?_) (fun h10 => ?_)
      · replace hf := if_t hf h10
        exact b_X10_isCovered_l3_b66 C hend hk20 v1 v2 v3 v4 S (lv_sub hl [0, 1, 2, 3, 4] rfl) hf
      · replace hf := if_f hf h10
        refine lv_aload_n C.1 C.2.1 dX10_isCovered_43 rfl (lv_at hl 0 rfl) ?_
        refine lv_iload_n C.1 C.2.1 dX10_isCovered_44 rfl (lv_at hl 1 rfl) ?_
        refine lv_aload_n C.1 C.2.1 dX10_isCovered_45 rfl (lv_at hl 0 rfl) ?_
        refine g10_disc C S tw_1100 dX10_isCovered_46 ?_
        refine lv_iload C.1 C.2.1 dX10_isCovered_49 (lv_at hl 4 rfl) ?_
        obtain ⟨hi6, hf⟩ := ck_o hf
        refine a_iald C S ar_59 hi6 dX10_isCovered_51 ?_
        refine r_iconst C dX10_isCovered_52 ?_
        refine r_ixor C rfl (show u32 (-1) = 4294967295 by decide) dX10_isCovered_53 ?_
        refine r_iand C rfl (u32_nat (nb_xor (u32_lt _) (show 4294967295 < 4294967296 by decide))) dX10_isCovered_54 ?_
        refine lv_iload_n C.1 C.2.1 dX10_isCovered_55 rfl (lv_at hl 2 rfl) ?_
        refine r_iconst C dX10_isCovered_56 ?_
        refine r_isub C dX10_isCovered_57 ?_
        obtain ⟨q7, hc8, hf⟩ := bd_o hf
        refine r_callVv C S (As := [.int (oI ((((u32 v1) &&& ((u32 (σ 59 (v4).toNat)) ^^^ 4294967295) : Nat) : Int))), .int (oI (v2 - 1))]) (rest := []) (ct_X10_isCovered_l2 l G τ hc8) mi_X10_isCovered tw_1497 mv_X10_isCovered (rvX10 S) ⟨rfl, rfl⟩ ⟨Nat.le_of_ble_eq_true rfl, Nat.le_of_ble_eq_true rfl⟩ ⟨Nat.zero_le _, Nat.zero_le _⟩ rfl hl.1 rfl (Nat.le_of_ble_eq_true rfl) dX10_isCovered_58 (fun H locs S => ?_)
        refine r_if_eq C rfl (tgt := 66) dX10_isCovered_61 (by decide) (fun h9 => ?_) (fun h9 => ?_)
        · replace hf := if_t hf h9
          exact b_X10_isCovered_l3_b66 C hend hk20 v1 v2 v3 v4 S (lv_sub hl [0, 1, 2, 3, 4] rfl) hf
        · replace hf := if_f hf h9
          refine r_iconst C dX10_isCovered_64 ?_
          cases hf
          exact hend (Or.inr rfl) _ _ _ _ S dX10_isCovered_65
    · replace hf := if_f hf h11
      refine r_iconst C dX10_isCovered_72 ?_
      cases hf
      exact hend (Or.inl rfl) _ _ _ _ S dX10_isCovered_73
set_option maxRecDepth 100000 in
set_option maxHeartbeats 4000000 in
theorem ct_X10_isCovered_l3 (l : Launch) (G : Gd) (τ : Sg) {v1 : Int} {v2 : Int} {σ : Sg} {q : Int} (hf : f_X10_isCovered_l3 v1 v2 σ = some q) : Ctr l yX10_isCovered cX10_isCovered 5 (some .boolean) (rmk 5 114) G false τ [.ref (G.1 41), .int (oI v1), .int (oI v2)] σ σ (some (.int (oI q))) := by
  unfold f_X10_isCovered_l3 at hf
  refine CtrZ.of (own := RX10) (plainFor_of_name (by decide)) (Nat.le_of_ble_eq_true rfl) rfl (fun p e s m below meth c Q ls C hl S hend => ?_)
  have hl : lv_has ls 5 [(0, .ref (G.1 41)), (1, .int (oI v1)), (2, .int (oI v2))] := hl
  refine lv_iload_n C.1 C.2.1 dX10_isCovered_0 rfl (lv_at hl 1 rfl) ?_
  refine r_if_ne C rfl (tgt := 6) dX10_isCovered_1 (by decide) (fun h13 => ?_) (fun h13 => ?_)
  · replace hf := if_t hf h13
    refine r_iconst C dX10_isCovered_4 ?_
    cases hf
    exact hend (Or.inr rfl) _ _ _ _ S dX10_isCovered_5
  · replace hf := if_f hf h13
    refine lv_iload_n C.1 C.2.1 dX10_isCovered_6 rfl (lv_at hl 2 rfl) ?_
    refine r_if_ne C rfl (tgt := 12) dX10_isCovered_7 (by decide) (fun h12 => ?_) (fun h12 => ?_)
    · replace hf := if_t hf h12
      refine r_iconst C dX10_isCovered_10 ?_
      cases hf
      exact hend (Or.inl rfl) _ _ _ _ S dX10_isCovered_11
    · replace hf := if_f hf h12
      refine lv_iload_n C.1 C.2.1 dX10_isCovered_12 rfl (lv_at hl 1 rfl) ?_
      obtain ⟨q1, hc2, hf⟩ := bd_o hf
      refine r_callSv C S (As := [.int (oI v1)]) (rest := []) (ct_X10_lowest l G τ hc2) mi_X10_lowest tw_1427 ms_X10_lowest ⟨rfl, rfl⟩ ⟨Nat.le_of_ble_eq_true rfl, Nat.le_of_ble_eq_true rfl⟩ ⟨Nat.zero_le _, Nat.zero_le _⟩ rfl hl.1 rfl (Nat.le_of_ble_eq_true rfl) dX10_isCovered_13 (fun H locs S => ?_)
      refine lv_istore_n C.1 C.2.1 dX10_isCovered_16 rfl hl (by decide) (lv' := [(3, .int (oI q1)), (0, .ref (G.1 41)), (1, .int (oI v1)), (2, .int (oI v2))]) rfl (fun ls hl => ?_)
      refine r_iconst C dX10_isCovered_17 ?_
      refine lv_istore C.1 C.2.1 dX10_isCovered_18 hl (by decide) (lv' := [(4, .int (oI 0)), (3, .int (oI q1)), (0, .ref (G.1 41)), (1, .int (oI v1)), (2, .int (oI v2))]) rfl (fun ls hl => ?_)
      exact b_X10_isCovered_l3_b20 C hend FUEL v1 v2 q1 0 S (lv_sub hl [2, 3, 4, 1, 0] rfl) hf
set_option maxRecDepth 100000 in
set_option maxHeartbeats 4000000 in
theorem b_X10_cover_b36 (C : Cx p s m args c RX10 cX10_cover 5) {q : Int × Sg} (hend : EndR p l e (rmk 6 138) s m args below meth c Q G false τ cX10_cover .ireturn [.int (oI q.1)] q.2) : ∀ (n : Nat) {H : Heap} {locs : List Loc} {ls : Array Slot} {σ : Sg} (v3 : Int) (v4 : Int) (S : St G false τ σ s H locs) (hl : lv_has ls 5 [(0, .ref (G.1 41)), (3, .int (oI v3)), (4, .int (oI v4))]) (hf : f_X10_cover_b36 n v3 v4 σ = some q), W p l e (rmk 6 138) s m args below meth c H locs 0 0 Q (F0 m 36 ls []) := by
  intro n
  induction n with
  | zero => intro H locs ls σ v3 v4 S hl hf; cases hf
  | succ n ih =>
    intro H locs ls σ v3 v4 S hl hf
    have hk36 := @ih
    rw [f_X10_cover_b36] at hf
    refine lv_iload C.1 C.2.1 dX10_cover_36 (lv_at hl 2 rfl) ?_
    refine r_iconst C dX10_cover_38 ?_
    refine r_icmp_gt C rfl (show w32 3 = 3 by decide) (tgt := 61) dX10_cover_39 (by decide) (fun h13 => ?_) (fun h13 => ?_)
    · replace hf := if_t hf h13
      refine lv_aload_n C.1 C.2.1 dX10_cover_42 rfl (lv_at hl 0 rfl) ?_
      refine lv_iload_n C.1 C.2.1 dX10_cover_43 rfl (lv_at hl 1 rfl) ?_
      refine lv_iload C.1 C.2.1 dX10_cover_44 (lv_at hl 2 rfl) ?_
      obtain ⟨q10, hc11, hf⟩ := bd_o hf
      refine r_callVv C S (As := [.int (oI v3), .int (oI v4)]) (rest := []) (ct_X10_isCovered_l3 l G τ hc11) mi_X10_isCovered tw_1497 mv_X10_isCovered (rvX10 S) ⟨rfl, rfl⟩ ⟨Nat.le_of_ble_eq_true rfl, Nat.le_of_ble_eq_true rfl⟩ ⟨Nat.zero_le _, Nat.zero_le _⟩ rfl hl.1 rfl (Nat.le_of_ble_eq_true rfl) dX10_cover_46 (fun H locs S => ?_)
      refine r_if_eq C rfl (tgt := 55) dX10_cover_49 (by decide) (fun h12 => ?_) (fun h12 => ?_)
      · replace hf := if_t hf h12
        refine r_iinc C dX10_cover_55 hl (k := 2) rfl (by decide) (lv' := [(4, .int (oI (v4 + 1))), (0, .ref (G.1 41)), (3, .int (oI v3))]) rfl (fun ls hl => ?_)
        refine lv_goto C.1 C.2.1 (tgt := 36) dX10_cover_58 (by decide) ?_
        exact hk36 v3 (v4 + 1) S (lv_sub hl [1, 2, 0] rfl) hf
      · replace hf := if_f hf h12
        refine lv_iload C.1 C.2.1 dX10_cover_52 (lv_at hl 2 rfl) ?_
        cases hf
        exact hend _ _ _ _ S dX10_cover_54
    · replace hf := if_f hf h13
      refine r_bipush C dX10_cover_61 (by decide) ?_
      cases hf
      exact hend _ _ _ _ S dX10_cover_63
set_option maxRecDepth 100000 in
set_option maxHeartbeats 4000000 in
theorem ct_X10_cover (l : Launch) (G : Gd) (τ : Sg) {v1 : Int} {v2 : Int} {σ : Sg} {q : Int × Sg} (hf : f_X10_cover v1 v2 σ = some q) : Ctr l yX10_cover cX10_cover 5 (some .int) (rmk 6 138) G false τ [.ref (G.1 41), .int (oI v1), .int (oI v2)] σ q.2 (some (.int (oI q.1))) := by
  unfold f_X10_cover at hf
  refine CtrI.of (own := RX10) (plainFor_of_name (by decide)) (Nat.le_of_ble_eq_true rfl) rfl (fun p e s m below meth c Q ls C hl S hend => ?_)
  have hl : lv_has ls 5 [(0, .ref (G.1 41)), (1, .int (oI v1)), (2, .int (oI v2))] := hl
  refine lv_aload_n C.1 C.2.1 dX10_cover_0 rfl (lv_at hl 0 rfl) ?_
  refine r_iconst C dX10_cover_1 ?_
  refine p10_thrown C S tw_1061 dX10_cover_2 (fun H locs S => ?_)
  obtain ⟨σ1, S, hf⟩ := wr_s S hf
  refine lv_iload_n C.1 C.2.1 dX10_cover_5 rfl (lv_at hl 1 rfl) ?_
  obtain ⟨q2, hc3, hf⟩ := bd_o hf
  refine r_callSv C S (As := [.int (oI v1)]) (rest := []) (ct_X10_arePerils l G τ hc3) mi_X10_arePerils tw_1363 ms_X10_arePerils ⟨rfl, rfl⟩ ⟨Nat.le_of_ble_eq_true rfl, Nat.le_of_ble_eq_true rfl⟩ ⟨Nat.zero_le _, Nat.zero_le _⟩ rfl hl.1 rfl (Nat.le_of_ble_eq_true rfl) dX10_cover_6 (fun H locs S => ?_)
  refine r_if_eq C rfl (tgt := 19) dX10_cover_9 (by decide) (fun h15 => ?_) (fun h15 => ?_)
  · replace hf := if_t hf h15
    refine r_iconst C dX10_cover_19 ?_
    cases hf
    exact hend _ _ _ _ S dX10_cover_20
  · replace hf := if_f hf h15
    refine lv_iload_n C.1 C.2.1 dX10_cover_12 rfl (lv_at hl 2 rfl) ?_
    obtain ⟨q4, hc5, hf⟩ := bd_o hf
    refine r_callSv C S (As := [.int (oI v2)]) (rest := []) (ct_X10_isRadius l G τ hc5) mi_X10_isRadius tw_1366 ms_X10_isRadius ⟨rfl, rfl⟩ ⟨Nat.le_of_ble_eq_true rfl, Nat.le_of_ble_eq_true rfl⟩ ⟨Nat.zero_le _, Nat.zero_le _⟩ rfl hl.1 rfl (Nat.le_of_ble_eq_true rfl) dX10_cover_13 (fun H locs S => ?_)
    refine r_if_ne C rfl (tgt := 21) dX10_cover_16 (by decide) (fun h14 => ?_) (fun h14 => ?_)
    · replace hf := if_t hf h14
      refine r_iconst C dX10_cover_19 ?_
      cases hf
      exact hend _ _ _ _ S dX10_cover_20
    · replace hf := if_f hf h14
      refine lv_aload_n C.1 C.2.1 dX10_cover_21 rfl (lv_at hl 0 rfl) ?_
      refine lv_iload_n C.1 C.2.1 dX10_cover_22 rfl (lv_at hl 1 rfl) ?_
      obtain ⟨q6, hc7, hf⟩ := bd_o hf
      refine r_callVv C S (As := [.int (oI v1)]) (rest := []) (ct_X10_ofPerils l G τ hc7) mi_X10_ofPerils tw_1281 mv_X10_ofPerils (rvX10 S) ⟨rfl, rfl⟩ ⟨Nat.le_of_ble_eq_true rfl, Nat.le_of_ble_eq_true rfl⟩ ⟨Nat.zero_le _, Nat.zero_le _⟩ rfl hl.1 rfl (Nat.le_of_ble_eq_true rfl) dX10_cover_23 (fun H locs S => ?_)
      refine lv_istore_n C.1 C.2.1 dX10_cover_26 rfl hl (by decide) (lv' := [(3, .int (oI q6)), (0, .ref (G.1 41)), (1, .int (oI v1)), (2, .int (oI v2))]) rfl (fun ls hl => ?_)
      refine lv_aload_n C.1 C.2.1 dX10_cover_27 rfl (lv_at hl 1 rfl) ?_
      refine lv_iload_n C.1 C.2.1 dX10_cover_28 rfl (lv_at hl 0 rfl) ?_
      refine lv_iload_n C.1 C.2.1 dX10_cover_29 rfl (lv_at hl 3 rfl) ?_
      obtain ⟨q8, hc9, hf⟩ := bd_o hf
      refine r_callVn C S (As := [.int (oI q6), .int (oI v2)]) (rest := []) (ct_X10_findsDiscs l G τ hc9) mi_X10_findsDiscs tw_1485 mv_X10_findsDiscs (rvX10 S) ⟨rfl, rfl⟩ ⟨Nat.le_of_ble_eq_true rfl, Nat.le_of_ble_eq_true rfl⟩ ⟨Nat.zero_le _, Nat.zero_le _⟩ rfl hl.1 rfl (Nat.le_of_ble_eq_true rfl) dX10_cover_30 (fun H locs S => ?_)
      refine r_iconst C dX10_cover_33 ?_
      refine lv_istore C.1 C.2.1 dX10_cover_34 hl (by decide) (lv' := [(4, .int (oI 0)), (3, .int (oI q6)), (0, .ref (G.1 41)), (1, .int (oI v1)), (2, .int (oI v2))]) rfl (fun ls hl => ?_)
      exact b_X10_cover_b36 C hend FUEL q6 0 S (lv_sub hl [2, 1, 0] rfl) hf
set_option maxRecDepth 100000 in
set_option maxHeartbeats 4000000 in
theorem b_X10_squareAt_b97 (C : Cx p s m args c RX10 cX10_squareAt 8) {q : Int} {k6 : Int → Int → Int → Int → Int → Int → Option (Int)} (hend : EndR p l e (rmk 1 21) s m args below meth c Q G false τ cX10_squareAt .ireturn [.int (oI q)] σ) (hk6 : ∀ {H : Heap} {locs : List Loc} {ls : Array Slot} (v1 : Int) (v2 : Int) (v3 : Int) (v4 : Int) (v5 : Int) (v6 : Int), St G false τ σ s H locs → lv_has ls 8 [(0, .ref (G.1 41)), (1, .int (oI v1)), (2, .int (oI v2)), (3, .int (oI v3)), (4, .int (oI v4)), (5, .int (oI v5)), (6, .int (oI v6))] → k6 v1 v2 v3 v4 v5 v6 = some q → W p l e (rmk 1 21) s m args below meth c H locs 0 0 Q (F0 m 6 ls [])) {H : Heap} {locs : List Loc} {ls : Array Slot} (v1 : Int) (v2 : Int) (v3 : Int) (v4 : Int) (v6 : Int) (w0 : Int) (w1 : Int) (S : St G false τ σ s H locs) (hl : lv_has ls 8 [(0, .ref (G.1 41)), (1, .int (oI v1)), (2, .int (oI v2)), (3, .int (oI v3)), (4, .int (oI v4)), (6, .int (oI v6))]) (hf : f_X10_squareAt_b97 σ k6 v1 v2 v3 v4 v6 w0 w1 = some q) : W p l e (rmk 1 21) s m args below meth c H locs 0 0 Q (F0 m 97 ls [.int (oI w0), .int (oI w1)]) := by
  unfold f_X10_squareAt_b97 at hf
  refine r_iadd C dX10_squareAt_97 ?_
  refine lv_istore C.1 C.2.1 dX10_squareAt_98 hl (by decide) (lv' := [(5, .int (oI (w1 + w0))), (0, .ref (G.1 41)), (1, .int (oI v1)), (2, .int (oI v2)), (3, .int (oI v3)), (4, .int (oI v4)), (6, .int (oI v6))]) rfl (fun ls hl => ?_)
  refine r_iinc C dX10_squareAt_100 hl (k := 6) rfl (by decide) (lv' := [(6, .int (oI (v6 + 1))), (5, .int (oI (w1 + w0))), (0, .ref (G.1 41)), (1, .int (oI v1)), (2, .int (oI v2)), (3, .int (oI v3)), (4, .int (oI v4))]) rfl (fun ls hl => ?_)
  refine lv_goto C.1 C.2.1 (tgt := 6) dX10_squareAt_103 (by decide) ?_
  exact hk6 v1 v2 v3 v4 (w1 + w0) (v6 + 1) S (lv_sub hl [2, 3, 4, 5, 6, 1, 0] rfl) hf
set_option maxRecDepth 100000 in
set_option maxHeartbeats 4000000 in
theorem b_X10_squareAt_b77 (C : Cx p s m args c RX10 cX10_squareAt 8) {q : Int} {k6 : Int → Int → Int → Int → Int → Int → Option (Int)} (hend : EndR p l e (rmk 1 21) s m args below meth c Q G false τ cX10_squareAt .ireturn [.int (oI q)] σ) (hk6 : ∀ {H : Heap} {locs : List Loc} {ls : Array Slot} (v1 : Int) (v2 : Int) (v3 : Int) (v4 : Int) (v5 : Int) (v6 : Int), St G false τ σ s H locs → lv_has ls 8 [(0, .ref (G.1 41)), (1, .int (oI v1)), (2, .int (oI v2)), (3, .int (oI v3)), (4, .int (oI v4)), (5, .int (oI v5)), (6, .int (oI v6))] → k6 v1 v2 v3 v4 v5 v6 = some q → W p l e (rmk 1 21) s m args below meth c H locs 0 0 Q (F0 m 6 ls [])) {H : Heap} {locs : List Loc} {ls : Array Slot} (v1 : Int) (v2 : Int) (v3 : Int) (v4 : Int) (v5 : Int) (v6 : Int) (w0 : Int) (S : St G false τ σ s H locs) (hl : lv_has ls 8 [(0, .ref (G.1 41)), (1, .int (oI v1)), (2, .int (oI v2)), (3, .int (oI v3)), (4, .int (oI v4)), (5, .int (oI v5)), (6, .int (oI v6))]) (hf : f_X10_squareAt_b77 σ k6 v1 v2 v3 v4 v5 v6 w0 = some q) : W p l e (rmk 1 21) s m args below meth c H locs 0 0 Q (F0 m 77 ls [.int (oI w0)]) := by
  unfold f_X10_squareAt_b77 at hf
  refine lv_istore C.1 C.2.1 dX10_squareAt_77 hl (by decide) (lv' := [(7, .int (oI w0)), (0, .ref (G.1 41)), (1, .int (oI v1)), (2, .int (oI v2)), (3, .int (oI v3)), (4, .int (oI v4)), (5, .int (oI v5)), (6, .int (oI v6))]) rfl (fun ls hl => ?_)
  refine lv_iload C.1 C.2.1 dX10_squareAt_79 (lv_at hl 6 rfl) ?_
  refine lv_iload C.1 C.2.1 dX10_squareAt_81 (lv_at hl 0 rfl) ?_
  refine r_if_eq C rfl (tgt := 96) dX10_squareAt_83 (by decide) (fun h4 => ?_) (fun h4 => ?_)
  · replace hf := if_t hf h4
    refine r_iconst C dX10_squareAt_96 ?_
    exact b_X10_squareAt_b97 C hend hk6 v1 v2 v3 v4 v6 0 v5 S (lv_sub hl [1, 2, 3, 4, 5, 7] rfl) hf
  · replace hf := if_f hf h4
    refine lv_aload_n C.1 C.2.1 dX10_squareAt_86 rfl (lv_at hl 1 rfl) ?_
    refine g10_sum C S tw_1080 dX10_squareAt_87 ?_
    refine lv_iload C.1 C.2.1 dX10_squareAt_90 (lv_at hl 7 rfl) ?_
    obtain ⟨hi3, hf⟩ := ck_o hf
    refine a_iald C S ar_47 hi3 dX10_squareAt_92 ?_
    refine lv_goto C.1 C.2.1 (tgt := 97) dX10_squareAt_93 (by decide) ?_
    exact b_X10_squareAt_b97 C hend hk6 v1 v2 v3 v4 v6 (σ 47 (v6).toNat) v5 S (lv_sub hl [1, 2, 3, 4, 5, 7] rfl) hf
set_option maxRecDepth 100000 in
set_option maxHeartbeats 4000000 in
theorem b_X10_squareAt_b76 (C : Cx p s m args c RX10 cX10_squareAt 8) {q : Int} {k6 : Int → Int → Int → Int → Int → Int → Option (Int)} (hend : EndR p l e (rmk 1 21) s m args below meth c Q G false τ cX10_squareAt .ireturn [.int (oI q)] σ) (hk6 : ∀ {H : Heap} {locs : List Loc} {ls : Array Slot} (v1 : Int) (v2 : Int) (v3 : Int) (v4 : Int) (v5 : Int) (v6 : Int), St G false τ σ s H locs → lv_has ls 8 [(0, .ref (G.1 41)), (1, .int (oI v1)), (2, .int (oI v2)), (3, .int (oI v3)), (4, .int (oI v4)), (5, .int (oI v5)), (6, .int (oI v6))] → k6 v1 v2 v3 v4 v5 v6 = some q → W p l e (rmk 1 21) s m args below meth c H locs 0 0 Q (F0 m 6 ls [])) {H : Heap} {locs : List Loc} {ls : Array Slot} (v1 : Int) (v2 : Int) (v3 : Int) (v4 : Int) (v5 : Int) (v6 : Int) (S : St G false τ σ s H locs) (hl : lv_has ls 8 [(0, .ref (G.1 41)), (1, .int (oI v1)), (2, .int (oI v2)), (3, .int (oI v3)), (4, .int (oI v4)), (5, .int (oI v5)), (6, .int (oI v6))]) (hf : f_X10_squareAt_b76 σ k6 v1 v2 v3 v4 v5 v6 = some q) : W p l e (rmk 1 21) s m args below meth c H locs 0 0 Q (F0 m 76 ls []) := by
  unfold f_X10_squareAt_b76 at hf
  refine r_iconst C dX10_squareAt_76 ?_
  exact b_X10_squareAt_b77 C hend hk6 v1 v2 v3 v4 v5 v6 0 S (lv_sub hl [0, 1, 2, 3, 4, 5, 6] rfl) hf
set_option maxRecDepth 100000 in
set_option maxHeartbeats 4000000 in
theorem b_X10_squareAt_b6 (C : Cx p s m args c RX10 cX10_squareAt 8) {q : Int} (hend : EndR p l e (rmk 1 21) s m args below meth c Q G false τ cX10_squareAt .ireturn [.int (oI q)] σ) : ∀ (n : Nat) {H : Heap} {locs : List Loc} {ls : Array Slot} (v1 : Int) (v2 : Int) (v3 : Int) (v4 : Int) (v5 : Int) (v6 : Int) (S : St G false τ σ s H locs) (hl : lv_has ls 8 [(0, .ref (G.1 41)), (1, .int (oI v1)), (2, .int (oI v2)), (3, .int (oI v3)), (4, .int (oI v4)), (5, .int (oI v5)), (6, .int (oI v6))]) (hf : f_X10_squareAt_b6 σ n v1 v2 v3 v4 v5 v6 = some q), W p l e (rmk 1 21) s m args below meth c H locs 0 0 Q (F0 m 6 ls []) := by
  intro n
  induction n with
  | zero => intro H locs ls v1 v2 v3 v4 v5 v6 S hl hf; cases hf
  | succ n ih =>
    intro H locs ls v1 v2 v3 v4 v5 v6 S hl hf
    have hk6 := @ih
    rw [f_X10_squareAt_b6] at hf
    refine lv_iload C.1 C.2.1 dX10_squareAt_6 (lv_at hl 6 rfl) ?_
    refine r_bipush C dX10_squareAt_8 (by decide) ?_
    refine r_icmp_ge C rfl (show w32 24 = 24 by decide) (tgt := 106) dX10_squareAt_10 (by decide) (fun h14 => ?_) (fun h14 => ?_)
    · replace hf := if_t hf h14
      refine lv_iload_n C.1 C.2.1 dX10_squareAt_13 rfl (lv_at hl 1 rfl) ?_
      refine lv_iload C.1 C.2.1 dX10_squareAt_14 (lv_at hl 6 rfl) ?_
      obtain ⟨q1, hc2, hf⟩ := bd_o hf
      refine r_callSv C S (As := [.int (oI v1), .int (oI v6)]) (rest := []) (ct_X10_has l G τ hc2) mi_X10_has tw_1285 ms_X10_has ⟨rfl, rfl⟩ ⟨Nat.le_of_ble_eq_true rfl, Nat.le_of_ble_eq_true rfl⟩ ⟨Nat.zero_le _, Nat.zero_le _⟩ rfl hl.1 rfl (Nat.le_of_ble_eq_true rfl) dX10_squareAt_16 (fun H locs S => ?_)
      refine r_if_eq C rfl (tgt := 76) dX10_squareAt_19 (by decide) (fun h13 => ?_) (fun h13 => ?_)
      · replace hf := if_t hf h13
        exact b_X10_squareAt_b76 C hend hk6 v1 v2 v3 v4 v5 v6 S (lv_sub hl [0, 1, 2, 3, 4, 5, 6] rfl) hf
      · replace hf := if_f hf h13
        refine lv_aload_n C.1 C.2.1 dX10_squareAt_22 rfl (lv_at hl 0 rfl) ?_
        refine g10_x C S tw_1078 dX10_squareAt_23 ?_
        refine lv_iload C.1 C.2.1 dX10_squareAt_26 (lv_at hl 6 rfl) ?_
        obtain ⟨hi5, hf⟩ := ck_o hf
        refine a_iald C S ar_45 hi5 dX10_squareAt_28 ?_
        refine lv_iload_n C.1 C.2.1 dX10_squareAt_29 rfl (lv_at hl 2 rfl) ?_
        refine r_icmp_lt C rfl rfl (tgt := 76) dX10_squareAt_30 (by decide) (fun h12 => ?_) (fun h12 => ?_)
        · replace hf := if_t hf h12
          exact b_X10_squareAt_b76 C hend hk6 v1 v2 v3 v4 v5 v6 S (lv_sub hl [0, 1, 2, 3, 4, 5, 6] rfl) hf
        · replace hf := if_f hf h12
          refine lv_aload_n C.1 C.2.1 dX10_squareAt_33 rfl (lv_at hl 0 rfl) ?_
          refine g10_x C S tw_1078 dX10_squareAt_34 ?_
          refine lv_iload C.1 C.2.1 dX10_squareAt_37 (lv_at hl 6 rfl) ?_
          obtain ⟨hi6, hf⟩ := ck_o hf
          refine a_iald C S ar_45 hi6 dX10_squareAt_39 ?_
          refine lv_iload_n C.1 C.2.1 dX10_squareAt_40 rfl (lv_at hl 2 rfl) ?_
          refine lv_iload C.1 C.2.1 dX10_squareAt_41 (lv_at hl 4 rfl) ?_
          refine r_iadd C dX10_squareAt_43 ?_
          refine r_icmp_gt C rfl rfl (tgt := 76) dX10_squareAt_44 (by decide) (fun h11 => ?_) (fun h11 => ?_)
          · replace hf := if_t hf h11
            refine lv_aload_n C.1 C.2.1 dX10_squareAt_47 rfl (lv_at hl 0 rfl) ?_
            refine g10_y C S tw_1079 dX10_squareAt_48 ?_
            refine lv_iload C.1 C.2.1 dX10_squareAt_51 (lv_at hl 6 rfl) ?_
            obtain ⟨hi7, hf⟩ := ck_o hf
            refine a_iald C S ar_46 hi7 dX10_squareAt_53 ?_
            refine lv_iload_n C.1 C.2.1 dX10_squareAt_54 rfl (lv_at hl 3 rfl) ?_
            refine r_icmp_lt C rfl rfl (tgt := 76) dX10_squareAt_55 (by decide) (fun h10 => ?_) (fun h10 => ?_)
            · replace hf := if_t hf h10
              exact b_X10_squareAt_b76 C hend hk6 v1 v2 v3 v4 v5 v6 S (lv_sub hl [0, 1, 2, 3, 4, 5, 6] rfl) hf
            · replace hf := if_f hf h10
              refine lv_aload_n C.1 C.2.1 dX10_squareAt_58 rfl (lv_at hl 0 rfl) ?_
              refine g10_y C S tw_1079 dX10_squareAt_59 ?_
              refine lv_iload C.1 C.2.1 dX10_squareAt_62 (lv_at hl 6 rfl) ?_
              obtain ⟨hi8, hf⟩ := ck_o hf
              refine a_iald C S ar_46 hi8 dX10_squareAt_64 ?_
              refine lv_iload_n C.1 C.2.1 dX10_squareAt_65 rfl (lv_at hl 3 rfl) ?_
              refine lv_iload C.1 C.2.1 dX10_squareAt_66 (lv_at hl 4 rfl) ?_
              refine r_iadd C dX10_squareAt_68 ?_
              refine r_icmp_gt C rfl rfl (tgt := 76) dX10_squareAt_69 (by decide) (fun h9 => ?_) (fun h9 => ?_)
              · replace hf := if_t hf h9
                refine r_iconst C dX10_squareAt_72 ?_
                refine lv_goto C.1 C.2.1 (tgt := 77) dX10_squareAt_73 (by decide) ?_
                exact b_X10_squareAt_b77 C hend hk6 v1 v2 v3 v4 v5 v6 1 S (lv_sub hl [0, 1, 2, 3, 4, 5, 6] rfl) hf
              · replace hf := if_f hf h9
                exact b_X10_squareAt_b76 C hend hk6 v1 v2 v3 v4 v5 v6 S (lv_sub hl [0, 1, 2, 3, 4, 5, 6] rfl) hf
          · replace hf := if_f hf h11
            exact b_X10_squareAt_b76 C hend hk6 v1 v2 v3 v4 v5 v6 S (lv_sub hl [0, 1, 2, 3, 4, 5, 6] rfl) hf
    · replace hf := if_f hf h14
      refine lv_iload C.1 C.2.1 dX10_squareAt_106 (lv_at hl 5 rfl) ?_
      cases hf
      exact hend _ _ _ _ S dX10_squareAt_108
set_option maxRecDepth 100000 in
set_option maxHeartbeats 4000000 in
theorem ct_X10_squareAt (l : Launch) (G : Gd) (τ : Sg) {v1 : Int} {v2 : Int} {v3 : Int} {v4 : Int} {σ : Sg} {q : Int} (hf : f_X10_squareAt v1 v2 v3 v4 σ = some q) : Ctr l yX10_squareAt cX10_squareAt 8 (some .int) (rmk 1 21) G false τ [.ref (G.1 41), .int (oI v1), .int (oI v2), .int (oI v3), .int (oI v4)] σ σ (some (.int (oI q))) := by
  unfold f_X10_squareAt at hf
  refine CtrI.of (own := RX10) (plainFor_of_name (by decide)) (Nat.le_of_ble_eq_true rfl) rfl (fun p e s m below meth c Q ls C hl S hend => ?_)
  have hl : lv_has ls 8 [(0, .ref (G.1 41)), (1, .int (oI v1)), (2, .int (oI v2)), (3, .int (oI v3)), (4, .int (oI v4))] := hl
  refine r_iconst C dX10_squareAt_0 ?_
  refine lv_istore C.1 C.2.1 dX10_squareAt_1 hl (by decide) (lv' := [(5, .int (oI 0)), (0, .ref (G.1 41)), (1, .int (oI v1)), (2, .int (oI v2)), (3, .int (oI v3)), (4, .int (oI v4))]) rfl (fun ls hl => ?_)
  refine r_iconst C dX10_squareAt_3 ?_
  refine lv_istore C.1 C.2.1 dX10_squareAt_4 hl (by decide) (lv' := [(6, .int (oI 0)), (5, .int (oI 0)), (0, .ref (G.1 41)), (1, .int (oI v1)), (2, .int (oI v2)), (3, .int (oI v3)), (4, .int (oI v4))]) rfl (fun ls hl => ?_)
  exact b_X10_squareAt_b6 C hend FUEL v1 v2 v3 v4 0 0 S (lv_sub hl [2, 3, 4, 5, 6, 1, 0] rfl) hf
set_option maxRecDepth 100000 in
set_option maxHeartbeats 4000000 in
theorem b_X10_square_b193 (C : Cx p s m args c RX10 cX10_square 11) {q : Int × Sg} {k55 : Int → Int → Int → Int → Int → Int → Int → Sg → Option (Int × Sg)} {k65 : Int → Int → Int → Int → Int → Int → Int → Int → Sg → Option (Int × Sg)} (hend : EndR p l e (rmk 2 48) s m args below meth c Q G false τ cX10_square .ireturn [.int (oI q.1)] q.2) (hk55 : ∀ {H : Heap} {locs : List Loc} {ls : Array Slot} {σ : Sg} (v2 : Int) (v3 : Int) (v4 : Int) (v5 : Int) (v6 : Int) (v7 : Int) (v8 : Int), St G false τ σ s H locs → lv_has ls 11 [(0, .ref (G.1 41)), (2, .int (oI v2)), (3, .int (oI v3)), (4, .int (oI v4)), (5, .int (oI v5)), (6, .int (oI v6)), (7, .int (oI v7)), (8, .int (oI v8))] → k55 v2 v3 v4 v5 v6 v7 v8 σ = some q → W p l e (rmk 2 48) s m args below meth c H locs 0 0 Q (F0 m 55 ls [])) (hk65 : ∀ {H : Heap} {locs : List Loc} {ls : Array Slot} {σ : Sg} (v2 : Int) (v3 : Int) (v4 : Int) (v5 : Int) (v6 : Int) (v7 : Int) (v8 : Int) (v9 : Int), St G false τ σ s H locs → lv_has ls 11 [(0, .ref (G.1 41)), (2, .int (oI v2)), (3, .int (oI v3)), (4, .int (oI v4)), (5, .int (oI v5)), (6, .int (oI v6)), (7, .int (oI v7)), (8, .int (oI v8)), (9, .int (oI v9))] → k65 v2 v3 v4 v5 v6 v7 v8 v9 σ = some q → W p l e (rmk 2 48) s m args below meth c H locs 0 0 Q (F0 m 65 ls [])) {H : Heap} {locs : List Loc} {ls : Array Slot} {σ : Sg} (v2 : Int) (v3 : Int) (v4 : Int) (v5 : Int) (v6 : Int) (v7 : Int) (v8 : Int) (v9 : Int) (S : St G false τ σ s H locs) (hl : lv_has ls 11 [(0, .ref (G.1 41)), (2, .int (oI v2)), (3, .int (oI v3)), (4, .int (oI v4)), (5, .int (oI v5)), (6, .int (oI v6)), (7, .int (oI v7)), (8, .int (oI v8)), (9, .int (oI v9))]) (hf : f_X10_square_b193 k55 k65 v2 v3 v4 v5 v6 v7 v8 v9 σ = some q) : W p l e (rmk 2 48) s m args below meth c H locs 0 0 Q (F0 m 193 ls []) := by
  unfold f_X10_square_b193 at hf
  refine r_iinc C dX10_square_193 hl (k := 8) rfl (by decide) (lv' := [(9, .int (oI (v9 + 1))), (0, .ref (G.1 41)), (2, .int (oI v2)), (3, .int (oI v3)), (4, .int (oI v4)), (5, .int (oI v5)), (6, .int (oI v6)), (7, .int (oI v7)), (8, .int (oI v8))]) rfl (fun ls hl => ?_)
  refine lv_goto C.1 C.2.1 (tgt := 65) dX10_square_196 (by decide) ?_
  exact hk65 v2 v3 v4 v5 v6 v7 v8 (v9 + 1) S (lv_sub hl [1, 2, 3, 4, 5, 6, 7, 8, 0] rfl) hf
set_option maxRecDepth 100000 in
set_option maxHeartbeats 4000000 in
theorem b_X10_square_b171 (C : Cx p s m args c RX10 cX10_square 11) {q : Int × Sg} {k55 : Int → Int → Int → Int → Int → Int → Int → Sg → Option (Int × Sg)} {k65 : Int → Int → Int → Int → Int → Int → Int → Int → Sg → Option (Int × Sg)} (hend : EndR p l e (rmk 2 48) s m args below meth c Q G false τ cX10_square .ireturn [.int (oI q.1)] q.2) (hk55 : ∀ {H : Heap} {locs : List Loc} {ls : Array Slot} {σ : Sg} (v2 : Int) (v3 : Int) (v4 : Int) (v5 : Int) (v6 : Int) (v7 : Int) (v8 : Int), St G false τ σ s H locs → lv_has ls 11 [(0, .ref (G.1 41)), (2, .int (oI v2)), (3, .int (oI v3)), (4, .int (oI v4)), (5, .int (oI v5)), (6, .int (oI v6)), (7, .int (oI v7)), (8, .int (oI v8))] → k55 v2 v3 v4 v5 v6 v7 v8 σ = some q → W p l e (rmk 2 48) s m args below meth c H locs 0 0 Q (F0 m 55 ls [])) (hk65 : ∀ {H : Heap} {locs : List Loc} {ls : Array Slot} {σ : Sg} (v2 : Int) (v3 : Int) (v4 : Int) (v5 : Int) (v6 : Int) (v7 : Int) (v8 : Int) (v9 : Int), St G false τ σ s H locs → lv_has ls 11 [(0, .ref (G.1 41)), (2, .int (oI v2)), (3, .int (oI v3)), (4, .int (oI v4)), (5, .int (oI v5)), (6, .int (oI v6)), (7, .int (oI v7)), (8, .int (oI v8)), (9, .int (oI v9))] → k65 v2 v3 v4 v5 v6 v7 v8 v9 σ = some q → W p l e (rmk 2 48) s m args below meth c H locs 0 0 Q (F0 m 65 ls [])) {H : Heap} {locs : List Loc} {ls : Array Slot} {σ : Sg} (v2 : Int) (v3 : Int) (v4 : Int) (v8 : Int) (v9 : Int) (v10 : Int) (S : St G false τ σ s H locs) (hl : lv_has ls 11 [(0, .ref (G.1 41)), (2, .int (oI v2)), (3, .int (oI v3)), (4, .int (oI v4)), (8, .int (oI v8)), (9, .int (oI v9)), (10, .int (oI v10))]) (hf : f_X10_square_b171 k55 k65 v2 v3 v4 v8 v9 v10 σ = some q) : W p l e (rmk 2 48) s m args below meth c H locs 0 0 Q (F0 m 171 ls []) := by
  unfold f_X10_square_b171 at hf
  refine lv_iload C.1 C.2.1 dX10_square_171 (lv_at hl 6 rfl) ?_
  refine lv_istore C.1 C.2.1 dX10_square_173 hl (by decide) (lv' := [(5, .int (oI v10)), (0, .ref (G.1 41)), (2, .int (oI v2)), (3, .int (oI v3)), (4, .int (oI v4)), (8, .int (oI v8)), (9, .int (oI v9)), (10, .int (oI v10))]) rfl (fun ls hl => ?_)
  refine lv_aload_n C.1 C.2.1 dX10_square_175 rfl (lv_at hl 1 rfl) ?_
  refine g10_x C S tw_1078 dX10_square_176 ?_
  refine lv_iload C.1 C.2.1 dX10_square_179 (lv_at hl 5 rfl) ?_
  obtain ⟨hi17, hf⟩ := ck_o hf
  refine a_iald C S ar_45 hi17 dX10_square_181 ?_
  refine lv_istore C.1 C.2.1 dX10_square_182 hl (by decide) (lv' := [(6, .int (oI (σ 45 (v8).toNat))), (5, .int (oI v10)), (0, .ref (G.1 41)), (2, .int (oI v2)), (3, .int (oI v3)), (4, .int (oI v4)), (8, .int (oI v8)), (9, .int (oI v9)), (10, .int (oI v10))]) rfl (fun ls hl => ?_)
  refine lv_aload_n C.1 C.2.1 dX10_square_184 rfl (lv_at hl 2 rfl) ?_
  refine g10_y C S tw_1079 dX10_square_185 ?_
  refine lv_iload C.1 C.2.1 dX10_square_188 (lv_at hl 7 rfl) ?_
  obtain ⟨hi18, hf⟩ := ck_o hf
  refine a_iald C S ar_46 hi18 dX10_square_190 ?_
  refine lv_istore C.1 C.2.1 dX10_square_191 hl (by decide) (lv' := [(7, .int (oI (σ 46 (v9).toNat))), (6, .int (oI (σ 45 (v8).toNat))), (5, .int (oI v10)), (0, .ref (G.1 41)), (2, .int (oI v2)), (3, .int (oI v3)), (4, .int (oI v4)), (8, .int (oI v8)), (9, .int (oI v9)), (10, .int (oI v10))]) rfl (fun ls hl => ?_)
  exact b_X10_square_b193 C hend hk55 hk65 v2 v3 v4 v10 (σ 45 (v8).toNat) (σ 46 (v9).toNat) v8 v9 S (lv_sub hl [3, 4, 5, 6, 2, 1, 0, 7, 8] rfl) hf
set_option maxRecDepth 100000 in
set_option maxHeartbeats 4000000 in
theorem b_X10_square_b199 (C : Cx p s m args c RX10 cX10_square 11) {q : Int × Sg} {k55 : Int → Int → Int → Int → Int → Int → Int → Sg → Option (Int × Sg)} (hend : EndR p l e (rmk 2 48) s m args below meth c Q G false τ cX10_square .ireturn [.int (oI q.1)] q.2) (hk55 : ∀ {H : Heap} {locs : List Loc} {ls : Array Slot} {σ : Sg} (v2 : Int) (v3 : Int) (v4 : Int) (v5 : Int) (v6 : Int) (v7 : Int) (v8 : Int), St G false τ σ s H locs → lv_has ls 11 [(0, .ref (G.1 41)), (2, .int (oI v2)), (3, .int (oI v3)), (4, .int (oI v4)), (5, .int (oI v5)), (6, .int (oI v6)), (7, .int (oI v7)), (8, .int (oI v8))] → k55 v2 v3 v4 v5 v6 v7 v8 σ = some q → W p l e (rmk 2 48) s m args below meth c H locs 0 0 Q (F0 m 55 ls [])) {H : Heap} {locs : List Loc} {ls : Array Slot} {σ : Sg} (v2 : Int) (v3 : Int) (v4 : Int) (v5 : Int) (v6 : Int) (v7 : Int) (v8 : Int) (S : St G false τ σ s H locs) (hl : lv_has ls 11 [(0, .ref (G.1 41)), (2, .int (oI v2)), (3, .int (oI v3)), (4, .int (oI v4)), (5, .int (oI v5)), (6, .int (oI v6)), (7, .int (oI v7)), (8, .int (oI v8))]) (hf : f_X10_square_b199 k55 v2 v3 v4 v5 v6 v7 v8 σ = some q) : W p l e (rmk 2 48) s m args below meth c H locs 0 0 Q (F0 m 199 ls []) := by
  unfold f_X10_square_b199 at hf
  refine r_iinc C dX10_square_199 hl (k := 7) rfl (by decide) (lv' := [(8, .int (oI (v8 + 1))), (0, .ref (G.1 41)), (2, .int (oI v2)), (3, .int (oI v3)), (4, .int (oI v4)), (5, .int (oI v5)), (6, .int (oI v6)), (7, .int (oI v7))]) rfl (fun ls hl => ?_)
  refine lv_goto C.1 C.2.1 (tgt := 55) dX10_square_202 (by decide) ?_
  exact hk55 v2 v3 v4 v5 v6 v7 (v8 + 1) S (lv_sub hl [1, 2, 3, 4, 5, 6, 7, 0] rfl) hf
set_option maxRecDepth 100000 in
set_option maxHeartbeats 4000000 in
theorem b_X10_square_b65 (C : Cx p s m args c RX10 cX10_square 11) {q : Int × Sg} {k55 : Int → Int → Int → Int → Int → Int → Int → Sg → Option (Int × Sg)} (hend : EndR p l e (rmk 2 48) s m args below meth c Q G false τ cX10_square .ireturn [.int (oI q.1)] q.2) (hk55 : ∀ {H : Heap} {locs : List Loc} {ls : Array Slot} {σ : Sg} (v2 : Int) (v3 : Int) (v4 : Int) (v5 : Int) (v6 : Int) (v7 : Int) (v8 : Int), St G false τ σ s H locs → lv_has ls 11 [(0, .ref (G.1 41)), (2, .int (oI v2)), (3, .int (oI v3)), (4, .int (oI v4)), (5, .int (oI v5)), (6, .int (oI v6)), (7, .int (oI v7)), (8, .int (oI v8))] → k55 v2 v3 v4 v5 v6 v7 v8 σ = some q → W p l e (rmk 2 48) s m args below meth c H locs 0 0 Q (F0 m 55 ls [])) : ∀ (n : Nat) {H : Heap} {locs : List Loc} {ls : Array Slot} {σ : Sg} (v2 : Int) (v3 : Int) (v4 : Int) (v5 : Int) (v6 : Int) (v7 : Int) (v8 : Int) (v9 : Int) (S : St G false τ σ s H locs) (hl : lv_has ls 11 [(0, .ref (G.1 41)), (2, .int (oI v2)), (3, .int (oI v3)), (4, .int (oI v4)), (5, .int (oI v5)), (6, .int (oI v6)), (7, .int (oI v7)), (8, .int (oI v8)), (9, .int (oI v9))]) (hf : f_X10_square_b65 k55 n v2 v3 v4 v5 v6 v7 v8 v9 σ = some q), W p l e (rmk 2 48) s m args below meth c H locs 0 0 Q (F0 m 65 ls []) := by
  intro n
  induction n with
  | zero => intro H locs ls σ v2 v3 v4 v5 v6 v7 v8 v9 S hl hf; cases hf
  | succ n ih =>
    intro H locs ls σ v2 v3 v4 v5 v6 v7 v8 v9 S hl hf
    have hk65 := @ih
    rw [f_X10_square_b65] at hf
    refine lv_iload C.1 C.2.1 dX10_square_65 (lv_at hl 8 rfl) ?_
    refine r_bipush C dX10_square_67 (by decide) ?_
    refine r_icmp_ge C rfl (show w32 24 = 24 by decide) (tgt := 199) dX10_square_69 (by decide) (fun h26 => ?_) (fun h26 => ?_)
    · replace hf := if_t hf h26
      refine lv_iload C.1 C.2.1 dX10_square_72 (lv_at hl 3 rfl) ?_
      refine lv_iload C.1 C.2.1 dX10_square_74 (lv_at hl 7 rfl) ?_
      obtain ⟨q6, hc7, hf⟩ := bd_o hf
      refine r_callSv C S (As := [.int (oI v4), .int (oI v8)]) (rest := []) (ct_X10_has l G τ hc7) mi_X10_has tw_1285 ms_X10_has ⟨rfl, rfl⟩ ⟨Nat.le_of_ble_eq_true rfl, Nat.le_of_ble_eq_true rfl⟩ ⟨Nat.zero_le _, Nat.zero_le _⟩ rfl hl.1 rfl (Nat.le_of_ble_eq_true rfl) dX10_square_76 (fun H locs S => ?_)
      refine r_if_eq C rfl (tgt := 193) dX10_square_79 (by decide) (fun h25 => ?_) (fun h25 => ?_)
      · replace hf := if_t hf h25
        exact b_X10_square_b193 C hend hk55 hk65 v2 v3 v4 v5 v6 v7 v8 v9 S (lv_sub hl [0, 1, 2, 3, 4, 5, 6, 7, 8] rfl) hf
      · replace hf := if_f hf h25
        refine lv_iload C.1 C.2.1 dX10_square_82 (lv_at hl 3 rfl) ?_
        refine lv_iload C.1 C.2.1 dX10_square_84 (lv_at hl 8 rfl) ?_
        obtain ⟨q8, hc9, hf⟩ := bd_o hf
        refine r_callSv C S (As := [.int (oI v4), .int (oI v9)]) (rest := []) (ct_X10_has l G τ hc9) mi_X10_has tw_1285 ms_X10_has ⟨rfl, rfl⟩ ⟨Nat.le_of_ble_eq_true rfl, Nat.le_of_ble_eq_true rfl⟩ ⟨Nat.zero_le _, Nat.zero_le _⟩ rfl hl.1 rfl (Nat.le_of_ble_eq_true rfl) dX10_square_86 (fun H locs S => ?_)
        refine r_if_ne C rfl (tgt := 95) dX10_square_89 (by decide) (fun h24 => ?_) (fun h24 => ?_)
        · replace hf := if_t hf h24
          refine lv_goto C.1 C.2.1 (tgt := 193) dX10_square_92 (by decide) ?_
          exact b_X10_square_b193 C hend hk55 hk65 v2 v3 v4 v5 v6 v7 v8 v9 S (lv_sub hl [0, 1, 2, 3, 4, 5, 6, 7, 8] rfl) hf
        · replace hf := if_f hf h24
          refine lv_aload_n C.1 C.2.1 dX10_square_95 rfl (lv_at hl 0 rfl) ?_
          refine lv_iload C.1 C.2.1 dX10_square_96 (lv_at hl 3 rfl) ?_
          refine lv_aload_n C.1 C.2.1 dX10_square_98 rfl (lv_at hl 0 rfl) ?_
          refine g10_x C S tw_1078 dX10_square_99 ?_
          refine lv_iload C.1 C.2.1 dX10_square_102 (lv_at hl 7 rfl) ?_
          obtain ⟨hi10, hf⟩ := ck_o hf
          refine a_iald C S ar_45 hi10 dX10_square_104 ?_
          refine lv_aload_n C.1 C.2.1 dX10_square_105 rfl (lv_at hl 0 rfl) ?_
          refine g10_y C S tw_1079 dX10_square_106 ?_
          refine lv_iload C.1 C.2.1 dX10_square_109 (lv_at hl 8 rfl) ?_
          obtain ⟨hi11, hf⟩ := ck_o hf
          refine a_iald C S ar_46 hi11 dX10_square_111 ?_
          refine lv_iload_n C.1 C.2.1 dX10_square_112 rfl (lv_at hl 1 rfl) ?_
          obtain ⟨q12, hc13, hf⟩ := bd_o hf
          refine r_callVv C S (As := [.int (oI v4), .int (oI (σ 45 (v8).toNat)), .int (oI (σ 46 (v9).toNat)), .int (oI v2)]) (rest := []) (ct_X10_squareAt l G τ hc13) mi_X10_squareAt tw_1505 mv_X10_squareAt (rvX10 S) ⟨rfl, rfl⟩ ⟨Nat.le_of_ble_eq_true rfl, Nat.le_of_ble_eq_true rfl⟩ ⟨Nat.zero_le _, Nat.zero_le _⟩ rfl hl.1 rfl (Nat.le_of_ble_eq_true rfl) dX10_square_113 (fun H locs S => ?_)
          refine lv_istore C.1 C.2.1 dX10_square_116 hl (by decide) (lv' := [(10, .int (oI q12)), (0, .ref (G.1 41)), (2, .int (oI v2)), (3, .int (oI v3)), (4, .int (oI v4)), (5, .int (oI v5)), (6, .int (oI v6)), (7, .int (oI v7)), (8, .int (oI v8)), (9, .int (oI v9))]) rfl (fun ls hl => ?_)
          refine lv_iload C.1 C.2.1 dX10_square_118 (lv_at hl 0 rfl) ?_
          refine lv_iload C.1 C.2.1 dX10_square_120 (lv_at hl 5 rfl) ?_
          refine r_icmp_lt C rfl rfl (tgt := 193) dX10_square_122 (by decide) (fun h23 => ?_) (fun h23 => ?_)
          · replace hf := if_t hf h23
            exact b_X10_square_b193 C hend hk55 hk65 v2 v3 v4 v5 v6 v7 v8 v9 S (lv_sub hl [1, 2, 3, 4, 5, 6, 7, 8, 9] rfl) hf
          · replace hf := if_f hf h23
            refine lv_iload C.1 C.2.1 dX10_square_125 (lv_at hl 0 rfl) ?_
            refine lv_iload C.1 C.2.1 dX10_square_127 (lv_at hl 5 rfl) ?_
            refine r_icmp_ne C rfl rfl (tgt := 171) dX10_square_129 (by decide) (fun h22 => ?_) (fun h22 => ?_)
            · replace hf := if_t hf h22
              refine lv_aload_n C.1 C.2.1 dX10_square_132 rfl (lv_at hl 1 rfl) ?_
              refine g10_x C S tw_1078 dX10_square_133 ?_
              refine lv_iload C.1 C.2.1 dX10_square_136 (lv_at hl 8 rfl) ?_
              obtain ⟨hi14, hf⟩ := ck_o hf
              refine a_iald C S ar_45 hi14 dX10_square_138 ?_
              refine lv_iload C.1 C.2.1 dX10_square_139 (lv_at hl 6 rfl) ?_
              refine r_icmp_gt C rfl rfl (tgt := 193) dX10_square_141 (by decide) (fun h21 => ?_) (fun h21 => ?_)
              · replace hf := if_t hf h21
                refine lv_aload_n C.1 C.2.1 dX10_square_144 rfl (lv_at hl 1 rfl) ?_
                refine g10_x C S tw_1078 dX10_square_145 ?_
                refine lv_iload C.1 C.2.1 dX10_square_148 (lv_at hl 8 rfl) ?_
                obtain ⟨hi15, hf⟩ := ck_o hf
                refine a_iald C S ar_45 hi15 dX10_square_150 ?_
                refine lv_iload C.1 C.2.1 dX10_square_151 (lv_at hl 6 rfl) ?_
                refine r_icmp_ne C rfl rfl (tgt := 171) dX10_square_153 (by decide) (fun h20 => ?_) (fun h20 => ?_)
                · replace hf := if_t hf h20
                  refine lv_aload_n C.1 C.2.1 dX10_square_156 rfl (lv_at hl 1 rfl) ?_
                  refine g10_y C S tw_1079 dX10_square_157 ?_
                  refine lv_iload C.1 C.2.1 dX10_square_160 (lv_at hl 9 rfl) ?_
                  obtain ⟨hi16, hf⟩ := ck_o hf
                  refine a_iald C S ar_46 hi16 dX10_square_162 ?_
                  refine lv_iload C.1 C.2.1 dX10_square_163 (lv_at hl 7 rfl) ?_
                  refine r_icmp_lt C rfl rfl (tgt := 171) dX10_square_165 (by decide) (fun h19 => ?_) (fun h19 => ?_)
                  · replace hf := if_t hf h19
                    exact b_X10_square_b171 C hend hk55 hk65 v2 v3 v4 v8 v9 q12 S (lv_sub hl [1, 2, 3, 4, 8, 9, 0] rfl) hf
                  · replace hf := if_f hf h19
                    refine lv_goto C.1 C.2.1 (tgt := 193) dX10_square_168 (by decide) ?_
                    exact b_X10_square_b193 C hend hk55 hk65 v2 v3 v4 v5 v6 v7 v8 v9 S (lv_sub hl [1, 2, 3, 4, 5, 6, 7, 8, 9] rfl) hf
                · replace hf := if_f hf h20
                  exact b_X10_square_b171 C hend hk55 hk65 v2 v3 v4 v8 v9 q12 S (lv_sub hl [1, 2, 3, 4, 8, 9, 0] rfl) hf
              · replace hf := if_f hf h21
                exact b_X10_square_b193 C hend hk55 hk65 v2 v3 v4 v5 v6 v7 v8 v9 S (lv_sub hl [1, 2, 3, 4, 5, 6, 7, 8, 9] rfl) hf
            · replace hf := if_f hf h22
              exact b_X10_square_b171 C hend hk55 hk65 v2 v3 v4 v8 v9 q12 S (lv_sub hl [1, 2, 3, 4, 8, 9, 0] rfl) hf
    · replace hf := if_f hf h26
      exact b_X10_square_b199 C hend hk55 v2 v3 v4 v5 v6 v7 v8 S (lv_sub hl [0, 1, 2, 3, 4, 5, 6, 7] rfl) hf
set_option maxRecDepth 100000 in
set_option maxHeartbeats 4000000 in
theorem b_X10_square_b205 (C : Cx p s m args c RX10 cX10_square 11) {q : Int × Sg} (hend : EndR p l e (rmk 2 48) s m args below meth c Q G false τ cX10_square .ireturn [.int (oI q.1)] q.2) {H : Heap} {locs : List Loc} {ls : Array Slot} {σ : Sg} (v3 : Int) (v5 : Int) (v6 : Int) (v7 : Int) (S : St G false τ σ s H locs) (hl : lv_has ls 11 [(3, .int (oI v3)), (5, .int (oI v5)), (6, .int (oI v6)), (7, .int (oI v7))]) (hf : f_X10_square_b205 v3 v5 v6 v7 σ = some q) : W p l e (rmk 2 48) s m args below meth c H locs 0 0 Q (F0 m 205 ls []) := by
  unfold f_X10_square_b205 at hf
  refine lv_iload_n C.1 C.2.1 dX10_square_205 rfl (lv_at hl 0 rfl) ?_
  refine r_if_ne C rfl (tgt := 214) dX10_square_206 (by decide) (fun h28 => ?_) (fun h28 => ?_)
  · replace hf := if_t hf h28
    refine lv_iload C.1 C.2.1 dX10_square_209 (lv_at hl 1 rfl) ?_
    refine lv_goto C.1 C.2.1 (tgt := 226) dX10_square_211 (by decide) ?_
    cases hf
    exact hend _ _ _ _ S dX10_square_226
  · replace hf := if_f hf h28
    refine lv_iload_n C.1 C.2.1 dX10_square_214 rfl (lv_at hl 0 rfl) ?_
    refine r_iconst C dX10_square_215 ?_
    refine r_icmp_ne C rfl (show w32 1 = 1 by decide) (tgt := 224) dX10_square_216 (by decide) (fun h27 => ?_) (fun h27 => ?_)
    · replace hf := if_t hf h27
      refine lv_iload C.1 C.2.1 dX10_square_219 (lv_at hl 2 rfl) ?_
      refine lv_goto C.1 C.2.1 (tgt := 226) dX10_square_221 (by decide) ?_
      cases hf
      exact hend _ _ _ _ S dX10_square_226
    · replace hf := if_f hf h27
      refine lv_iload C.1 C.2.1 dX10_square_224 (lv_at hl 3 rfl) ?_
      cases hf
      exact hend _ _ _ _ S dX10_square_226
set_option maxRecDepth 100000 in
set_option maxHeartbeats 4000000 in
theorem b_X10_square_b55 (C : Cx p s m args c RX10 cX10_square 11) {q : Int × Sg} (hend : EndR p l e (rmk 2 48) s m args below meth c Q G false τ cX10_square .ireturn [.int (oI q.1)] q.2) : ∀ (n : Nat) {H : Heap} {locs : List Loc} {ls : Array Slot} {σ : Sg} (v2 : Int) (v3 : Int) (v4 : Int) (v5 : Int) (v6 : Int) (v7 : Int) (v8 : Int) (S : St G false τ σ s H locs) (hl : lv_has ls 11 [(0, .ref (G.1 41)), (2, .int (oI v2)), (3, .int (oI v3)), (4, .int (oI v4)), (5, .int (oI v5)), (6, .int (oI v6)), (7, .int (oI v7)), (8, .int (oI v8))]) (hf : f_X10_square_b55 n v2 v3 v4 v5 v6 v7 v8 σ = some q), W p l e (rmk 2 48) s m args below meth c H locs 0 0 Q (F0 m 55 ls []) := by
  intro n
  induction n with
  | zero => intro H locs ls σ v2 v3 v4 v5 v6 v7 v8 S hl hf; cases hf
  | succ n ih =>
    intro H locs ls σ v2 v3 v4 v5 v6 v7 v8 S hl hf
    have hk55 := @ih
    rw [f_X10_square_b55] at hf
    refine lv_iload C.1 C.2.1 dX10_square_55 (lv_at hl 7 rfl) ?_
    refine r_bipush C dX10_square_57 (by decide) ?_
    refine r_icmp_ge C rfl (show w32 24 = 24 by decide) (tgt := 205) dX10_square_59 (by decide) (fun h29 => ?_) (fun h29 => ?_)
    · replace hf := if_t hf h29
      refine r_iconst C dX10_square_62 ?_
      refine lv_istore C.1 C.2.1 dX10_square_63 hl (by decide) (lv' := [(9, .int (oI 0)), (0, .ref (G.1 41)), (2, .int (oI v2)), (3, .int (oI v3)), (4, .int (oI v4)), (5, .int (oI v5)), (6, .int (oI v6)), (7, .int (oI v7)), (8, .int (oI v8))]) rfl (fun ls hl => ?_)
      exact b_X10_square_b65 C hend hk55 FUEL v2 v3 v4 v5 v6 v7 v8 0 S (lv_sub hl [1, 2, 3, 4, 5, 6, 7, 8, 0] rfl) hf
    · replace hf := if_f hf h29
      exact b_X10_square_b205 C hend v3 v5 v6 v7 S (lv_sub hl [2, 4, 5, 6] rfl) hf
set_option maxRecDepth 100000 in
set_option maxHeartbeats 4000000 in
theorem ct_X10_square (l : Launch) (G : Gd) (τ : Sg) {v1 : Int} {v2 : Int} {v3 : Int} {σ : Sg} {q : Int × Sg} (hf : f_X10_square v1 v2 v3 σ = some q) : Ctr l yX10_square cX10_square 11 (some .int) (rmk 2 48) G false τ [.ref (G.1 41), .int (oI v1), .int (oI v2), .int (oI v3)] σ q.2 (some (.int (oI q.1))) := by
  unfold f_X10_square at hf
  refine CtrI.of (own := RX10) (plainFor_of_name (by decide)) (Nat.le_of_ble_eq_true rfl) rfl (fun p e s m below meth c Q ls C hl S hend => ?_)
  have hl : lv_has ls 11 [(0, .ref (G.1 41)), (1, .int (oI v1)), (2, .int (oI v2)), (3, .int (oI v3))] := hl
  refine lv_aload_n C.1 C.2.1 dX10_square_0 rfl (lv_at hl 0 rfl) ?_
  refine r_iconst C dX10_square_1 ?_
  refine p10_thrown C S tw_1061 dX10_square_2 (fun H locs S => ?_)
  obtain ⟨σ1, S, hf⟩ := wr_s S hf
  refine lv_iload_n C.1 C.2.1 dX10_square_5 rfl (lv_at hl 1 rfl) ?_
  obtain ⟨q2, hc3, hf⟩ := bd_o hf
  refine r_callSv C S (As := [.int (oI v1)]) (rest := []) (ct_X10_arePerils l G τ hc3) mi_X10_arePerils tw_1363 ms_X10_arePerils ⟨rfl, rfl⟩ ⟨Nat.le_of_ble_eq_true rfl, Nat.le_of_ble_eq_true rfl⟩ ⟨Nat.zero_le _, Nat.zero_le _⟩ rfl hl.1 rfl (Nat.le_of_ble_eq_true rfl) dX10_square_6 (fun H locs S => ?_)
  refine r_if_eq C rfl (tgt := 32) dX10_square_9 (by decide) (fun h34 => ?_) (fun h34 => ?_)
  · replace hf := if_t hf h34
    refine r_iconst C dX10_square_32 ?_
    cases hf
    exact hend _ _ _ _ S dX10_square_33
  · replace hf := if_f hf h34
    refine lv_iload_n C.1 C.2.1 dX10_square_12 rfl (lv_at hl 2 rfl) ?_
    refine r_if_lt C rfl (tgt := 32) dX10_square_13 (by decide) (fun h33 => ?_) (fun h33 => ?_)
    · replace hf := if_t hf h33
      refine r_iconst C dX10_square_32 ?_
      cases hf
      exact hend _ _ _ _ S dX10_square_33
    · replace hf := if_f hf h33
      refine lv_iload_n C.1 C.2.1 dX10_square_16 rfl (lv_at hl 2 rfl) ?_
      refine r_sipush C dX10_square_17 (by decide) ?_
      refine r_icmp_gt C rfl (show w32 299 = 299 by decide) (tgt := 32) dX10_square_20 (by decide) (fun h32 => ?_) (fun h32 => ?_)
      · replace hf := if_t hf h32
        refine lv_iload_n C.1 C.2.1 dX10_square_23 rfl (lv_at hl 3 rfl) ?_
        refine r_if_lt C rfl (tgt := 32) dX10_square_24 (by decide) (fun h31 => ?_) (fun h31 => ?_)
        · replace hf := if_t hf h31
          refine r_iconst C dX10_square_32 ?_
          cases hf
          exact hend _ _ _ _ S dX10_square_33
        · replace hf := if_f hf h31
          refine lv_iload_n C.1 C.2.1 dX10_square_27 rfl (lv_at hl 3 rfl) ?_
          refine r_iconst C dX10_square_28 ?_
          refine r_icmp_le C rfl (show w32 2 = 2 by decide) (tgt := 34) dX10_square_29 (by decide) (fun h30 => ?_) (fun h30 => ?_)
          · replace hf := if_t hf h30
            refine lv_aload_n C.1 C.2.1 dX10_square_34 rfl (lv_at hl 0 rfl) ?_
            refine lv_iload_n C.1 C.2.1 dX10_square_35 rfl (lv_at hl 1 rfl) ?_
            obtain ⟨q4, hc5, hf⟩ := bd_o hf
            refine r_callVv C S (As := [.int (oI v1)]) (rest := []) (ct_X10_ofPerils l G τ hc5) mi_X10_ofPerils tw_1281 mv_X10_ofPerils (rvX10 S) ⟨rfl, rfl⟩ ⟨Nat.le_of_ble_eq_true rfl, Nat.le_of_ble_eq_true rfl⟩ ⟨Nat.zero_le _, Nat.zero_le _⟩ rfl hl.1 rfl (Nat.le_of_ble_eq_true rfl) dX10_square_36 (fun H locs S => ?_)
            refine lv_istore C.1 C.2.1 dX10_square_39 hl (by decide) (lv' := [(4, .int (oI q4)), (0, .ref (G.1 41)), (1, .int (oI v1)), (2, .int (oI v2)), (3, .int (oI v3))]) rfl (fun ls hl => ?_)
            refine r_iconst C dX10_square_41 ?_
            refine lv_istore C.1 C.2.1 dX10_square_42 hl (by decide) (lv' := [(5, .int (oI 0)), (4, .int (oI q4)), (0, .ref (G.1 41)), (1, .int (oI v1)), (2, .int (oI v2)), (3, .int (oI v3))]) rfl (fun ls hl => ?_)
            refine r_bipush C dX10_square_44 (by decide) ?_
            refine lv_istore C.1 C.2.1 dX10_square_46 hl (by decide) (lv' := [(6, .int (oI ((-2)))), (5, .int (oI 0)), (4, .int (oI q4)), (0, .ref (G.1 41)), (1, .int (oI v1)), (2, .int (oI v2)), (3, .int (oI v3))]) rfl (fun ls hl => ?_)
            refine r_bipush C dX10_square_48 (by decide) ?_
            refine lv_istore C.1 C.2.1 dX10_square_50 hl (by decide) (lv' := [(7, .int (oI ((-2)))), (6, .int (oI ((-2)))), (5, .int (oI 0)), (4, .int (oI q4)), (0, .ref (G.1 41)), (1, .int (oI v1)), (2, .int (oI v2)), (3, .int (oI v3))]) rfl (fun ls hl => ?_)
            refine r_iconst C dX10_square_52 ?_
            refine lv_istore C.1 C.2.1 dX10_square_53 hl (by decide) (lv' := [(8, .int (oI 0)), (7, .int (oI ((-2)))), (6, .int (oI ((-2)))), (5, .int (oI 0)), (4, .int (oI q4)), (0, .ref (G.1 41)), (1, .int (oI v1)), (2, .int (oI v2)), (3, .int (oI v3))]) rfl (fun ls hl => ?_)
            exact b_X10_square_b55 C hend FUEL v2 v3 q4 0 ((-2)) ((-2)) 0 S (lv_sub hl [5, 7, 8, 4, 3, 2, 1, 0] rfl) hf
          · replace hf := if_f hf h30
            refine r_iconst C dX10_square_32 ?_
            cases hf
            exact hend _ _ _ _ S dX10_square_33
      · replace hf := if_f hf h32
        refine r_iconst C dX10_square_32 ?_
        cases hf
        exact hend _ _ _ _ S dX10_square_33
set_option maxRecDepth 100000 in
set_option maxHeartbeats 4000000 in
theorem ct_X10_alarm (l : Launch) (G : Gd) (τ : Sg) {v1 : Int} {v2 : Int} {σ : Sg} {q : Int × Sg} (hf : f_X10_alarm v1 v2 σ = some q) : Ctr l yX10_alarm cX10_alarm 3 (some .int) (rmk 0 0) G false τ [.ref (G.1 41), .int (oI v1), .int (oI v2)] σ q.2 (some (.int (oI q.1))) := by
  unfold f_X10_alarm at hf
  refine CtrI.of (own := RX10) (plainFor_of_name (by decide)) (Nat.le_of_ble_eq_true rfl) rfl (fun p e s m below meth c Q ls C hl S hend => ?_)
  have hl : lv_has ls 3 [(0, .ref (G.1 41)), (1, .int (oI v1)), (2, .int (oI v2))] := hl
  refine lv_aload_n C.1 C.2.1 dX10_alarm_0 rfl (lv_at hl 0 rfl) ?_
  refine r_iconst C dX10_alarm_1 ?_
  refine p10_thrown C S tw_1061 dX10_alarm_2 (fun H locs S => ?_)
  obtain ⟨σ1, S, hf⟩ := wr_s S hf
  refine lv_iload_n C.1 C.2.1 dX10_alarm_5 rfl (lv_at hl 1 rfl) ?_
  refine r_if_lt C rfl (tgt := 18) dX10_alarm_6 (by decide) (fun h6 => ?_) (fun h6 => ?_)
  · replace hf := if_t hf h6
    refine r_iconst C dX10_alarm_18 ?_
    cases hf
    exact hend _ _ _ _ S dX10_alarm_19
  · replace hf := if_f hf h6
    refine lv_iload_n C.1 C.2.1 dX10_alarm_9 rfl (lv_at hl 2 rfl) ?_
    refine r_if_lt C rfl (tgt := 18) dX10_alarm_10 (by decide) (fun h5 => ?_) (fun h5 => ?_)
    · replace hf := if_t hf h5
      refine r_iconst C dX10_alarm_18 ?_
      cases hf
      exact hend _ _ _ _ S dX10_alarm_19
    · replace hf := if_f hf h5
      refine lv_iload_n C.1 C.2.1 dX10_alarm_13 rfl (lv_at hl 2 rfl) ?_
      refine r_iconst C dX10_alarm_14 ?_
      refine r_icmp_le C rfl (show w32 2 = 2 by decide) (tgt := 20) dX10_alarm_15 (by decide) (fun h4 => ?_) (fun h4 => ?_)
      · replace hf := if_t hf h4
        refine lv_iload_n C.1 C.2.1 dX10_alarm_20 rfl (lv_at hl 1 rfl) ?_
        refine lv_aload_n C.1 C.2.1 dX10_alarm_21 rfl (lv_at hl 0 rfl) ?_
        refine g10_alarmsLogged C S tw_1093 dX10_alarm_22 ?_
        refine r_icmp_ge C rfl rfl (tgt := 41) dX10_alarm_25 (by decide) (fun h3 => ?_) (fun h3 => ?_)
        · replace hf := if_t hf h3
          refine lv_aload_n C.1 C.2.1 dX10_alarm_28 rfl (lv_at hl 0 rfl) ?_
          refine g10_alarmLog C S tw_1092 dX10_alarm_29 ?_
          refine r_iconst C dX10_alarm_32 ?_
          refine lv_iload_n C.1 C.2.1 dX10_alarm_33 rfl (lv_at hl 1 rfl) ?_
          refine r_imul C dX10_alarm_34 ?_
          refine lv_iload_n C.1 C.2.1 dX10_alarm_35 rfl (lv_at hl 2 rfl) ?_
          refine r_iadd C dX10_alarm_36 ?_
          obtain ⟨hi2, hf⟩ := ck_o hf
          refine a_iald C S ar_56 hi2 dX10_alarm_37 ?_
          refine lv_goto C.1 C.2.1 (tgt := 43) dX10_alarm_38 (by decide) ?_
          cases hf
          exact hend _ _ _ _ S dX10_alarm_43
        · replace hf := if_f hf h3
          refine r_bipush C dX10_alarm_41 (by decide) ?_
          cases hf
          exact hend _ _ _ _ S dX10_alarm_43
      · replace hf := if_f hf h4
        refine r_iconst C dX10_alarm_18 ?_
        cases hf
        exact hend _ _ _ _ S dX10_alarm_19
set_option maxRecDepth 100000 in
set_option maxHeartbeats 4000000 in
theorem ct_X10_act (l : Launch) (G : Gd) (τ : Sg) {v1 : Int} {v2 : Int} {σ : Sg} {q : Int × Sg} (hf : f_X10_act v1 v2 σ = some q) : Ctr l yX10_act cX10_act 3 (some .int) (rmk 0 0) G false τ [.ref (G.1 41), .int (oI v1), .int (oI v2)] σ q.2 (some (.int (oI q.1))) := by
  unfold f_X10_act at hf
  refine CtrI.of (own := RX10) (plainFor_of_name (by decide)) (Nat.le_of_ble_eq_true rfl) rfl (fun p e s m below meth c Q ls C hl S hend => ?_)
  have hl : lv_has ls 3 [(0, .ref (G.1 41)), (1, .int (oI v1)), (2, .int (oI v2))] := hl
  refine lv_aload_n C.1 C.2.1 dX10_act_0 rfl (lv_at hl 0 rfl) ?_
  refine r_iconst C dX10_act_1 ?_
  refine p10_thrown C S tw_1061 dX10_act_2 (fun H locs S => ?_)
  obtain ⟨σ1, S, hf⟩ := wr_s S hf
  refine lv_iload_n C.1 C.2.1 dX10_act_5 rfl (lv_at hl 1 rfl) ?_
  refine r_if_lt C rfl (tgt := 39) dX10_act_6 (by decide) (fun h6 => ?_) (fun h6 => ?_)
  · replace hf := if_t hf h6
    refine r_ldcw C tw_1400 dX10_act_39 ?_
    cases hf
    exact hend _ _ _ _ S dX10_act_42
  · replace hf := if_f hf h6
    refine lv_iload_n C.1 C.2.1 dX10_act_9 rfl (lv_at hl 1 rfl) ?_
    refine lv_aload_n C.1 C.2.1 dX10_act_10 rfl (lv_at hl 0 rfl) ?_
    refine g10_actsLogged C S tw_1095 dX10_act_11 ?_
    refine r_icmp_ge C rfl rfl (tgt := 39) dX10_act_14 (by decide) (fun h5 => ?_) (fun h5 => ?_)
    · replace hf := if_t hf h5
      refine lv_iload_n C.1 C.2.1 dX10_act_17 rfl (lv_at hl 2 rfl) ?_
      refine r_if_lt C rfl (tgt := 39) dX10_act_18 (by decide) (fun h4 => ?_) (fun h4 => ?_)
      · replace hf := if_t hf h4
        refine r_ldcw C tw_1400 dX10_act_39 ?_
        cases hf
        exact hend _ _ _ _ S dX10_act_42
      · replace hf := if_f hf h4
        refine lv_iload_n C.1 C.2.1 dX10_act_21 rfl (lv_at hl 2 rfl) ?_
        refine r_iconst C dX10_act_22 ?_
        refine r_icmp_gt C rfl (show w32 2 = 2 by decide) (tgt := 39) dX10_act_23 (by decide) (fun h3 => ?_) (fun h3 => ?_)
        · replace hf := if_t hf h3
          refine lv_aload_n C.1 C.2.1 dX10_act_26 rfl (lv_at hl 0 rfl) ?_
          refine g10_actLog C S tw_1094 dX10_act_27 ?_
          refine r_iconst C dX10_act_30 ?_
          refine lv_iload_n C.1 C.2.1 dX10_act_31 rfl (lv_at hl 1 rfl) ?_
          refine r_imul C dX10_act_32 ?_
          refine lv_iload_n C.1 C.2.1 dX10_act_33 rfl (lv_at hl 2 rfl) ?_
          refine r_iadd C dX10_act_34 ?_
          obtain ⟨hi2, hf⟩ := ck_o hf
          refine a_iald C S ar_57 hi2 dX10_act_35 ?_
          refine lv_goto C.1 C.2.1 (tgt := 42) dX10_act_36 (by decide) ?_
          cases hf
          exact hend _ _ _ _ S dX10_act_42
        · replace hf := if_f hf h3
          refine r_ldcw C tw_1400 dX10_act_39 ?_
          cases hf
          exact hend _ _ _ _ S dX10_act_42
    · replace hf := if_f hf h5
      refine r_ldcw C tw_1400 dX10_act_39 ?_
      cases hf
      exact hend _ _ _ _ S dX10_act_42
set_option maxRecDepth 100000 in
set_option maxHeartbeats 4000000 in
theorem b_X10_tightest_b78 (C : Cx p s m args c RX10 cX10_tightest 9) {q : Int × Sg} {k16 : Int → Int → Int → Int → Sg → Option (Int × Sg)} (hend : EndR p l e (rmk 4 119) s m args below meth c Q G false τ cX10_tightest .ireturn [.int (oI q.1)] q.2) (hk16 : ∀ {H : Heap} {locs : List Loc} {ls : Array Slot} {σ : Sg} (v1 : Int) (v2 : Int) (v4 : Int) (v6 : Int), St G false τ σ s H locs → lv_has ls 9 [(0, .ref (G.1 41)), (1, .int (oI v1)), (2, .long (oL v2)), (4, .long (oL v4)), (6, .int (oI v6))] → k16 v1 v2 v4 v6 σ = some q → W p l e (rmk 4 119) s m args below meth c H locs 0 0 Q (F0 m 16 ls [])) {H : Heap} {locs : List Loc} {ls : Array Slot} {σ : Sg} (v1 : Int) (v2 : Int) (v4 : Int) (v6 : Int) (S : St G false τ σ s H locs) (hl : lv_has ls 9 [(0, .ref (G.1 41)), (1, .int (oI v1)), (2, .long (oL v2)), (4, .long (oL v4)), (6, .int (oI v6))]) (hf : f_X10_tightest_b78 k16 v1 v2 v4 v6 σ = some q) : W p l e (rmk 4 119) s m args below meth c H locs 0 0 Q (F0 m 78 ls []) := by
  unfold f_X10_tightest_b78 at hf
  refine r_iinc C dX10_tightest_78 hl (k := 4) rfl (by decide) (lv' := [(6, .int (oI (v6 + 1))), (0, .ref (G.1 41)), (1, .int (oI v1)), (2, .long (oL v2)), (4, .long (oL v4))]) rfl (fun ls hl => ?_)
  refine lv_goto C.1 C.2.1 (tgt := 16) dX10_tightest_81 (by decide) ?_
  exact hk16 v1 v2 v4 (v6 + 1) S (lv_sub hl [1, 2, 3, 4, 0] rfl) hf
set_option maxRecDepth 100000 in
set_option maxHeartbeats 4000000 in
theorem b_X10_tightest_b62 (C : Cx p s m args c RX10 cX10_tightest 9) {q : Int × Sg} {k16 : Int → Int → Int → Int → Sg → Option (Int × Sg)} (hend : EndR p l e (rmk 4 119) s m args below meth c Q G false τ cX10_tightest .ireturn [.int (oI q.1)] q.2) (hk16 : ∀ {H : Heap} {locs : List Loc} {ls : Array Slot} {σ : Sg} (v1 : Int) (v2 : Int) (v4 : Int) (v6 : Int), St G false τ σ s H locs → lv_has ls 9 [(0, .ref (G.1 41)), (1, .int (oI v1)), (2, .long (oL v2)), (4, .long (oL v4)), (6, .int (oI v6))] → k16 v1 v2 v4 v6 σ = some q → W p l e (rmk 4 119) s m args below meth c H locs 0 0 Q (F0 m 16 ls [])) {H : Heap} {locs : List Loc} {ls : Array Slot} {σ : Sg} (v6 : Int) (v7 : Int) (S : St G false τ σ s H locs) (hl : lv_has ls 9 [(0, .ref (G.1 41)), (6, .int (oI v6)), (7, .long (oL v7))]) (hf : f_X10_tightest_b62 k16 v6 v7 σ = some q) : W p l e (rmk 4 119) s m args below meth c H locs 0 0 Q (F0 m 62 ls []) := by
  unfold f_X10_tightest_b62 at hf
  refine lv_iload C.1 C.2.1 dX10_tightest_62 (lv_at hl 1 rfl) ?_
  refine lv_istore_n C.1 C.2.1 dX10_tightest_64 rfl hl (by decide) (lv' := [(1, .int (oI v6)), (0, .ref (G.1 41)), (6, .int (oI v6)), (7, .long (oL v7))]) rfl (fun ls hl => ?_)
  refine lv_lload C.1 C.2.1 dX10_tightest_65 (lv_at hl 3 rfl) ?_
  refine lv_lstore_n C.1 C.2.1 dX10_tightest_67 rfl hl (by decide) (lv' := [(2, .long (oL v7)), (1, .int (oI v6)), (0, .ref (G.1 41)), (6, .int (oI v6)), (7, .long (oL v7))]) rfl (fun ls hl => ?_)
  refine lv_aload_n C.1 C.2.1 dX10_tightest_68 rfl (lv_at hl 2 rfl) ?_
  refine g10_limit C S tw_1085 dX10_tightest_69 ?_
  refine lv_iload C.1 C.2.1 dX10_tightest_72 (lv_at hl 3 rfl) ?_
  obtain ⟨hi4, hf⟩ := ck_o hf
  refine a_iald C S ar_52 hi4 dX10_tightest_74 ?_
  refine r_i2l C dX10_tightest_75 ?_
  refine lv_lstore C.1 C.2.1 dX10_tightest_76 hl (by decide) (lv' := [(4, .long (oL (w32 (σ 52 (v6).toNat)))), (2, .long (oL v7)), (1, .int (oI v6)), (0, .ref (G.1 41)), (6, .int (oI v6)), (7, .long (oL v7))]) rfl (fun ls hl => ?_)
  exact b_X10_tightest_b78 C hend hk16 v6 v7 (w32 (σ 52 (v6).toNat)) v6 S (lv_sub hl [3, 2, 1, 0, 4] rfl) hf
set_option maxRecDepth 100000 in
set_option maxHeartbeats 4000000 in
theorem b_X10_tightest_b16 (C : Cx p s m args c RX10 cX10_tightest 9) {q : Int × Sg} (hend : EndR p l e (rmk 4 119) s m args below meth c Q G false τ cX10_tightest .ireturn [.int (oI q.1)] q.2) : ∀ (n : Nat) {H : Heap} {locs : List Loc} {ls : Array Slot} {σ : Sg} (v1 : Int) (v2 : Int) (v4 : Int) (v6 : Int) (S : St G false τ σ s H locs) (hl : lv_has ls 9 [(0, .ref (G.1 41)), (1, .int (oI v1)), (2, .long (oL v2)), (4, .long (oL v4)), (6, .int (oI v6))]) (hf : f_X10_tightest_b16 n v1 v2 v4 v6 σ = some q), W p l e (rmk 4 119) s m args below meth c H locs 0 0 Q (F0 m 16 ls []) := by
  intro n
  induction n with
  | zero => intro H locs ls σ v1 v2 v4 v6 S hl hf; cases hf
  | succ n ih =>
    intro H locs ls σ v1 v2 v4 v6 S hl hf
    have hk16 := @ih
    rw [f_X10_tightest_b16] at hf
    refine lv_iload C.1 C.2.1 dX10_tightest_16 (lv_at hl 4 rfl) ?_
    refine lv_aload_n C.1 C.2.1 dX10_tightest_18 rfl (lv_at hl 0 rfl) ?_
    refine g10_treaties C S tw_1088 dX10_tightest_19 ?_
    refine r_icmp_ge C rfl rfl (tgt := 84) dX10_tightest_22 (by decide) (fun h8 => ?_) (fun h8 => ?_)
    · replace hf := if_t hf h8
      refine lv_aload_n C.1 C.2.1 dX10_tightest_25 rfl (lv_at hl 0 rfl) ?_
      refine lv_iload C.1 C.2.1 dX10_tightest_26 (lv_at hl 4 rfl) ?_
      obtain ⟨q2, hc3, hf⟩ := bd_o hf
      refine r_callVv C S (As := [.int (oI v6)]) (rest := []) (ct_X10_worstOf l G τ hc3) mi_X10_worstOf tw_1273 mv_X10_worstOf (rvX10 S) ⟨rfl, rfl⟩ ⟨Nat.le_of_ble_eq_true rfl, Nat.le_of_ble_eq_true rfl⟩ ⟨Nat.zero_le _, Nat.zero_le _⟩ rfl hl.1 rfl (Nat.le_of_ble_eq_true rfl) dX10_tightest_28 (fun H locs S => ?_)
      refine r_i2l C dX10_tightest_31 ?_
      refine lv_lstore C.1 C.2.1 dX10_tightest_32 hl (by decide) (lv' := [(7, .long (oL (w32 q2.1))), (0, .ref (G.1 41)), (1, .int (oI v1)), (2, .long (oL v2)), (4, .long (oL v4)), (6, .int (oI v6))]) rfl (fun ls hl => ?_)
      refine lv_iload_n C.1 C.2.1 dX10_tightest_34 rfl (lv_at hl 2 rfl) ?_
      refine r_bipush C dX10_tightest_35 (by decide) ?_
      refine r_icmp_eq C rfl (show w32 (-2) = (-2) by decide) (tgt := 62) dX10_tightest_37 (by decide) (fun h7 => ?_) (fun h7 => ?_)
      · replace hf := if_t hf h7
        exact b_X10_tightest_b62 C hend hk16 v6 (w32 q2.1) S (lv_sub hl [1, 5, 0] rfl) hf
      · replace hf := if_f hf h7
        refine lv_lload C.1 C.2.1 dX10_tightest_40 (lv_at hl 0 rfl) ?_
        refine lv_lload C.1 C.2.1 dX10_tightest_42 (lv_at hl 4 rfl) ?_
        refine r_lmul C dX10_tightest_44 ?_
        refine lv_lload_n C.1 C.2.1 dX10_tightest_45 rfl (lv_at hl 3 rfl) ?_
        refine lv_aload_n C.1 C.2.1 dX10_tightest_46 rfl (lv_at hl 1 rfl) ?_
        refine g10_limit C S tw_1085 dX10_tightest_47 ?_
        refine lv_iload C.1 C.2.1 dX10_tightest_50 (lv_at hl 5 rfl) ?_
        obtain ⟨hi5, hf⟩ := ck_o hf
        refine a_iald C S ar_52 hi5 dX10_tightest_52 ?_
        refine r_i2l C dX10_tightest_53 ?_
        refine r_lmul C dX10_tightest_54 ?_
        refine r_lcmp_gt C rfl rfl (tgt := 62) dX10_tightest_55 dX10_tightest_56 (by decide) (fun h6 => ?_) (fun h6 => ?_)
        · replace hf := if_t hf h6
          refine lv_goto C.1 C.2.1 (tgt := 78) dX10_tightest_59 (by decide) ?_
          exact b_X10_tightest_b78 C hend hk16 v1 v2 v4 v6 S (lv_sub hl [1, 2, 3, 4, 5] rfl) hf
        · replace hf := if_f hf h6
          exact b_X10_tightest_b62 C hend hk16 v6 (w32 q2.1) S (lv_sub hl [1, 5, 0] rfl) hf
    · replace hf := if_f hf h8
      refine lv_iload_n C.1 C.2.1 dX10_tightest_84 rfl (lv_at hl 1 rfl) ?_
      cases hf
      exact hend _ _ _ _ S dX10_tightest_85
set_option maxRecDepth 100000 in
set_option maxHeartbeats 4000000 in
theorem ct_X10_tightest (l : Launch) (G : Gd) (τ : Sg) {σ : Sg} {q : Int × Sg} (hf : f_X10_tightest σ = some q) : Ctr l yX10_tightest cX10_tightest 9 (some .int) (rmk 4 119) G false τ [.ref (G.1 41)] σ q.2 (some (.int (oI q.1))) := by
  unfold f_X10_tightest at hf
  refine CtrI.of (own := RX10) (plainFor_of_name (by decide)) (Nat.le_of_ble_eq_true rfl) rfl (fun p e s m below meth c Q ls C hl S hend => ?_)
  have hl : lv_has ls 9 [(0, .ref (G.1 41))] := hl
  refine lv_aload_n C.1 C.2.1 dX10_tightest_0 rfl (lv_at hl 0 rfl) ?_
  refine r_iconst C dX10_tightest_1 ?_
  refine p10_thrown C S tw_1061 dX10_tightest_2 (fun H locs S => ?_)
  obtain ⟨σ1, S, hf⟩ := wr_s S hf
  refine r_bipush C dX10_tightest_5 (by decide) ?_
  refine lv_istore_n C.1 C.2.1 dX10_tightest_7 rfl hl (by decide) (lv' := [(1, .int (oI ((-2)))), (0, .ref (G.1 41))]) rfl (fun ls hl => ?_)
  refine r_lconst C (z := 0) dX10_tightest_8 (by decide) ?_
  refine lv_lstore_n C.1 C.2.1 dX10_tightest_9 rfl hl (by decide) (lv' := [(2, .long (oL 0)), (1, .int (oI ((-2)))), (0, .ref (G.1 41))]) rfl (fun ls hl => ?_)
  refine r_lconst C (z := 1) dX10_tightest_10 (by decide) ?_
  refine lv_lstore C.1 C.2.1 dX10_tightest_11 hl (by decide) (lv' := [(4, .long (oL 1)), (2, .long (oL 0)), (1, .int (oI ((-2)))), (0, .ref (G.1 41))]) rfl (fun ls hl => ?_)
  refine r_iconst C dX10_tightest_13 ?_
  refine lv_istore C.1 C.2.1 dX10_tightest_14 hl (by decide) (lv' := [(6, .int (oI 0)), (4, .long (oL 1)), (2, .long (oL 0)), (1, .int (oI ((-2)))), (0, .ref (G.1 41))]) rfl (fun ls hl => ?_)
  exact b_X10_tightest_b16 C hend FUEL ((-2)) 0 1 0 S (lv_sub hl [4, 3, 2, 1, 0] rfl) hf
set_option maxRecDepth 100000 in
set_option maxHeartbeats 4000000 in
theorem ct_X10_together (l : Launch) (G : Gd) (τ : Sg) {v1 : Int} {v2 : Int} {v3 : Int} {σ : Sg} {q : Int × Sg} (hf : f_X10_together v1 v2 v3 σ = some q) : Ctr l yX10_together cX10_together 4 (some .int) (rmk 1 22) G false τ [.ref (G.1 41), .int (oI v1), .int (oI v2), .int (oI v3)] σ q.2 (some (.int (oI q.1))) := by
  unfold f_X10_together at hf
  refine CtrI.of (own := RX10) (plainFor_of_name (by decide)) (Nat.le_of_ble_eq_true rfl) rfl (fun p e s m below meth c Q ls C hl S hend => ?_)
  have hl : lv_has ls 4 [(0, .ref (G.1 41)), (1, .int (oI v1)), (2, .int (oI v2)), (3, .int (oI v3))] := hl
  refine lv_aload_n C.1 C.2.1 dX10_together_0 rfl (lv_at hl 0 rfl) ?_
  refine r_iconst C dX10_together_1 ?_
  refine p10_thrown C S tw_1061 dX10_together_2 (fun H locs S => ?_)
  obtain ⟨σ1, S, hf⟩ := wr_s S hf
  refine lv_aload_n C.1 C.2.1 dX10_together_5 rfl (lv_at hl 0 rfl) ?_
  refine lv_iload_n C.1 C.2.1 dX10_together_6 rfl (lv_at hl 1 rfl) ?_
  obtain ⟨q2, hc3, hf⟩ := bd_o hf
  refine r_callVv C S (As := [.int (oI v1)]) (rest := []) (ct_X10_isPolicy l G τ hc3) mi_X10_isPolicy tw_1347 mv_X10_isPolicy (rvX10 S) ⟨rfl, rfl⟩ ⟨Nat.le_of_ble_eq_true rfl, Nat.le_of_ble_eq_true rfl⟩ ⟨Nat.zero_le _, Nat.zero_le _⟩ rfl hl.1 rfl (Nat.le_of_ble_eq_true rfl) dX10_together_7 (fun H locs S => ?_)
  refine r_if_eq C rfl (tgt := 33) dX10_together_10 (by decide) (fun h14 => ?_) (fun h14 => ?_)
  · replace hf := if_t hf h14
    refine r_iconst C dX10_together_33 ?_
    cases hf
    exact hend _ _ _ _ S dX10_together_34
  · replace hf := if_f hf h14
    refine lv_aload_n C.1 C.2.1 dX10_together_13 rfl (lv_at hl 0 rfl) ?_
    refine lv_iload_n C.1 C.2.1 dX10_together_14 rfl (lv_at hl 2 rfl) ?_
    obtain ⟨q4, hc5, hf⟩ := bd_o hf
    refine r_callVv C S (As := [.int (oI v2)]) (rest := []) (ct_X10_isPolicy l G τ hc5) mi_X10_isPolicy tw_1347 mv_X10_isPolicy (rvX10 S) ⟨rfl, rfl⟩ ⟨Nat.le_of_ble_eq_true rfl, Nat.le_of_ble_eq_true rfl⟩ ⟨Nat.zero_le _, Nat.zero_le _⟩ rfl hl.1 rfl (Nat.le_of_ble_eq_true rfl) dX10_together_15 (fun H locs S => ?_)
    refine r_if_eq C rfl (tgt := 33) dX10_together_18 (by decide) (fun h13 => ?_) (fun h13 => ?_)
    · replace hf := if_t hf h13
      refine r_iconst C dX10_together_33 ?_
      cases hf
      exact hend _ _ _ _ S dX10_together_34
    · replace hf := if_f hf h13
      refine lv_iload_n C.1 C.2.1 dX10_together_21 rfl (lv_at hl 1 rfl) ?_
      refine lv_iload_n C.1 C.2.1 dX10_together_22 rfl (lv_at hl 2 rfl) ?_
      refine r_icmp_eq C rfl rfl (tgt := 33) dX10_together_23 (by decide) (fun h12 => ?_) (fun h12 => ?_)
      · replace hf := if_t hf h12
        refine r_iconst C dX10_together_33 ?_
        cases hf
        exact hend _ _ _ _ S dX10_together_34
      · replace hf := if_f hf h12
        refine lv_iload_n C.1 C.2.1 dX10_together_26 rfl (lv_at hl 3 rfl) ?_
        obtain ⟨q6, hc7, hf⟩ := bd_o hf
        refine r_callSv C S (As := [.int (oI v3)]) (rest := []) (ct_X10_isRadius l G τ hc7) mi_X10_isRadius tw_1366 ms_X10_isRadius ⟨rfl, rfl⟩ ⟨Nat.le_of_ble_eq_true rfl, Nat.le_of_ble_eq_true rfl⟩ ⟨Nat.zero_le _, Nat.zero_le _⟩ rfl hl.1 rfl (Nat.le_of_ble_eq_true rfl) dX10_together_27 (fun H locs S => ?_)
        refine r_if_ne C rfl (tgt := 35) dX10_together_30 (by decide) (fun h11 => ?_) (fun h11 => ?_)
        · replace hf := if_t hf h11
          refine r_iconst C dX10_together_33 ?_
          cases hf
          exact hend _ _ _ _ S dX10_together_34
        · replace hf := if_f hf h11
          refine lv_aload_n C.1 C.2.1 dX10_together_35 rfl (lv_at hl 0 rfl) ?_
          refine lv_iload_n C.1 C.2.1 dX10_together_36 rfl (lv_at hl 1 rfl) ?_
          refine lv_iload_n C.1 C.2.1 dX10_together_37 rfl (lv_at hl 2 rfl) ?_
          obtain ⟨q8, hc9, hf⟩ := bd_o hf
          refine r_callVv C S (As := [.int (oI v1), .int (oI v2)]) (rest := []) (ct_X10_distance l G τ hc9) mi_X10_distance tw_1297 mv_X10_distance (rvX10 S) ⟨rfl, rfl⟩ ⟨Nat.le_of_ble_eq_true rfl, Nat.le_of_ble_eq_true rfl⟩ ⟨Nat.zero_le _, Nat.zero_le _⟩ rfl hl.1 rfl (Nat.le_of_ble_eq_true rfl) dX10_together_38 (fun H locs S => ?_)
          refine r_iconst C dX10_together_41 ?_
          refine lv_iload_n C.1 C.2.1 dX10_together_42 rfl (lv_at hl 3 rfl) ?_
          refine r_imul C dX10_together_43 ?_
          refine lv_iload_n C.1 C.2.1 dX10_together_44 rfl (lv_at hl 3 rfl) ?_
          refine r_imul C dX10_together_45 ?_
          refine r_icmp_gt C rfl rfl (tgt := 53) dX10_together_46 (by decide) (fun h10 => ?_) (fun h10 => ?_)
          · replace hf := if_t hf h10
            refine r_iconst C dX10_together_49 ?_
            refine lv_goto C.1 C.2.1 (tgt := 54) dX10_together_50 (by decide) ?_
            cases hf
            exact hend _ _ _ _ S dX10_together_54
          · replace hf := if_f hf h10
            refine r_iconst C dX10_together_53 ?_
            cases hf
            exact hend _ _ _ _ S dX10_together_54
set_option maxRecDepth 100000 in
set_option maxHeartbeats 4000000 in
theorem ct_X10_heaviest (l : Launch) (G : Gd) (τ : Sg) {v1 : Int} {v2 : Int} {σ : Sg} {q : Int × Sg} (hf : f_X10_heaviest v1 v2 σ = some q) : Ctr l yX10_heaviest cX10_heaviest 3 (some .int) (rmk 3 98) G false τ [.ref (G.1 41), .int (oI v1), .int (oI v2)] σ q.2 (some (.int (oI q.1))) := by
  unfold f_X10_heaviest at hf
  refine CtrI.of (own := RX10) (plainFor_of_name (by decide)) (Nat.le_of_ble_eq_true rfl) rfl (fun p e s m below meth c Q ls C hl S hend => ?_)
  have hl : lv_has ls 3 [(0, .ref (G.1 41)), (1, .int (oI v1)), (2, .int (oI v2))] := hl
  refine lv_aload_n C.1 C.2.1 dX10_heaviest_0 rfl (lv_at hl 0 rfl) ?_
  refine r_iconst C dX10_heaviest_1 ?_
  refine p10_thrown C S tw_1061 dX10_heaviest_2 (fun H locs S => ?_)
  obtain ⟨σ1, S, hf⟩ := wr_s S hf
  refine lv_iload_n C.1 C.2.1 dX10_heaviest_5 rfl (lv_at hl 1 rfl) ?_
  obtain ⟨q2, hc3, hf⟩ := bd_o hf
  refine r_callSv C S (As := [.int (oI v1)]) (rest := []) (ct_X10_arePerils l G τ hc3) mi_X10_arePerils tw_1363 ms_X10_arePerils ⟨rfl, rfl⟩ ⟨Nat.le_of_ble_eq_true rfl, Nat.le_of_ble_eq_true rfl⟩ ⟨Nat.zero_le _, Nat.zero_le _⟩ rfl hl.1 rfl (Nat.le_of_ble_eq_true rfl) dX10_heaviest_6 (fun H locs S => ?_)
  refine r_if_eq C rfl (tgt := 19) dX10_heaviest_9 (by decide) (fun h11 => ?_) (fun h11 => ?_)
  · replace hf := if_t hf h11
    refine r_iconst C dX10_heaviest_19 ?_
    cases hf
    exact hend _ _ _ _ S dX10_heaviest_20
  · replace hf := if_f hf h11
    refine lv_iload_n C.1 C.2.1 dX10_heaviest_12 rfl (lv_at hl 2 rfl) ?_
    obtain ⟨q4, hc5, hf⟩ := bd_o hf
    refine r_callSv C S (As := [.int (oI v2)]) (rest := []) (ct_X10_isRadius l G τ hc5) mi_X10_isRadius tw_1366 ms_X10_isRadius ⟨rfl, rfl⟩ ⟨Nat.le_of_ble_eq_true rfl, Nat.le_of_ble_eq_true rfl⟩ ⟨Nat.zero_le _, Nat.zero_le _⟩ rfl hl.1 rfl (Nat.le_of_ble_eq_true rfl) dX10_heaviest_13 (fun H locs S => ?_)
    refine r_if_ne C rfl (tgt := 21) dX10_heaviest_16 (by decide) (fun h10 => ?_) (fun h10 => ?_)
    · replace hf := if_t hf h10
      refine r_iconst C dX10_heaviest_19 ?_
      cases hf
      exact hend _ _ _ _ S dX10_heaviest_20
    · replace hf := if_f hf h10
      refine lv_aload_n C.1 C.2.1 dX10_heaviest_21 rfl (lv_at hl 0 rfl) ?_
      refine lv_aload_n C.1 C.2.1 dX10_heaviest_22 rfl (lv_at hl 0 rfl) ?_
      refine lv_iload_n C.1 C.2.1 dX10_heaviest_23 rfl (lv_at hl 1 rfl) ?_
      obtain ⟨q6, hc7, hf⟩ := bd_o hf
      refine r_callVv C S (As := [.int (oI v1)]) (rest := [.ref (G.1 41)]) (ct_X10_ofPerils l G τ hc7) mi_X10_ofPerils tw_1281 mv_X10_ofPerils (rvX10 S) ⟨rfl, rfl⟩ ⟨Nat.le_of_ble_eq_true rfl, Nat.le_of_ble_eq_true rfl⟩ ⟨Nat.zero_le _, Nat.zero_le _⟩ rfl hl.1 rfl (Nat.le_of_ble_eq_true rfl) dX10_heaviest_24 (fun H locs S => ?_)
      refine lv_iload_n C.1 C.2.1 dX10_heaviest_27 rfl (lv_at hl 2 rfl) ?_
      refine r_iconst C dX10_heaviest_28 ?_
      obtain ⟨q8, hc9, hf⟩ := bd_o hf
      refine r_callVn C S (As := [.int (oI q6), .int (oI v2), .int (oI ((-1)))]) (rest := []) (ct_X10_weighs l G τ hc9) mi_X10_weighs tw_1288 mv_X10_weighs (rvX10 S) ⟨rfl, rfl⟩ ⟨Nat.le_of_ble_eq_true rfl, Nat.le_of_ble_eq_true rfl⟩ ⟨Nat.zero_le _, Nat.zero_le _⟩ rfl hl.1 rfl (Nat.le_of_ble_eq_true rfl) dX10_heaviest_29 (fun H locs S => ?_)
      refine lv_aload_n C.1 C.2.1 dX10_heaviest_32 rfl (lv_at hl 0 rfl) ?_
      refine g10_bestSum C S tw_1097 dX10_heaviest_33 ?_
      cases hf
      exact hend _ _ _ _ S dX10_heaviest_36
set_option maxRecDepth 100000 in
set_option maxHeartbeats 4000000 in
theorem ct_X10_heaviestSet (l : Launch) (G : Gd) (τ : Sg) {v1 : Int} {v2 : Int} {σ : Sg} {q : Int × Sg} (hf : f_X10_heaviestSet v1 v2 σ = some q) : Ctr l yX10_heaviestSet cX10_heaviestSet 3 (some .int) (rmk 3 98) G false τ [.ref (G.1 41), .int (oI v1), .int (oI v2)] σ q.2 (some (.int (oI q.1))) := by
  unfold f_X10_heaviestSet at hf
  refine CtrI.of (own := RX10) (plainFor_of_name (by decide)) (Nat.le_of_ble_eq_true rfl) rfl (fun p e s m below meth c Q ls C hl S hend => ?_)
  have hl : lv_has ls 3 [(0, .ref (G.1 41)), (1, .int (oI v1)), (2, .int (oI v2))] := hl
  refine lv_aload_n C.1 C.2.1 dX10_heaviestSet_0 rfl (lv_at hl 0 rfl) ?_
  refine r_iconst C dX10_heaviestSet_1 ?_
  refine p10_thrown C S tw_1061 dX10_heaviestSet_2 (fun H locs S => ?_)
  obtain ⟨σ1, S, hf⟩ := wr_s S hf
  refine lv_iload_n C.1 C.2.1 dX10_heaviestSet_5 rfl (lv_at hl 1 rfl) ?_
  obtain ⟨q2, hc3, hf⟩ := bd_o hf
  refine r_callSv C S (As := [.int (oI v1)]) (rest := []) (ct_X10_arePerils l G τ hc3) mi_X10_arePerils tw_1363 ms_X10_arePerils ⟨rfl, rfl⟩ ⟨Nat.le_of_ble_eq_true rfl, Nat.le_of_ble_eq_true rfl⟩ ⟨Nat.zero_le _, Nat.zero_le _⟩ rfl hl.1 rfl (Nat.le_of_ble_eq_true rfl) dX10_heaviestSet_6 (fun H locs S => ?_)
  refine r_if_eq C rfl (tgt := 19) dX10_heaviestSet_9 (by decide) (fun h11 => ?_) (fun h11 => ?_)
  · replace hf := if_t hf h11
    refine r_iconst C dX10_heaviestSet_19 ?_
    cases hf
    exact hend _ _ _ _ S dX10_heaviestSet_20
  · replace hf := if_f hf h11
    refine lv_iload_n C.1 C.2.1 dX10_heaviestSet_12 rfl (lv_at hl 2 rfl) ?_
    obtain ⟨q4, hc5, hf⟩ := bd_o hf
    refine r_callSv C S (As := [.int (oI v2)]) (rest := []) (ct_X10_isRadius l G τ hc5) mi_X10_isRadius tw_1366 ms_X10_isRadius ⟨rfl, rfl⟩ ⟨Nat.le_of_ble_eq_true rfl, Nat.le_of_ble_eq_true rfl⟩ ⟨Nat.zero_le _, Nat.zero_le _⟩ rfl hl.1 rfl (Nat.le_of_ble_eq_true rfl) dX10_heaviestSet_13 (fun H locs S => ?_)
    refine r_if_ne C rfl (tgt := 21) dX10_heaviestSet_16 (by decide) (fun h10 => ?_) (fun h10 => ?_)
    · replace hf := if_t hf h10
      refine r_iconst C dX10_heaviestSet_19 ?_
      cases hf
      exact hend _ _ _ _ S dX10_heaviestSet_20
    · replace hf := if_f hf h10
      refine lv_aload_n C.1 C.2.1 dX10_heaviestSet_21 rfl (lv_at hl 0 rfl) ?_
      refine lv_aload_n C.1 C.2.1 dX10_heaviestSet_22 rfl (lv_at hl 0 rfl) ?_
      refine lv_iload_n C.1 C.2.1 dX10_heaviestSet_23 rfl (lv_at hl 1 rfl) ?_
      obtain ⟨q6, hc7, hf⟩ := bd_o hf
      refine r_callVv C S (As := [.int (oI v1)]) (rest := [.ref (G.1 41)]) (ct_X10_ofPerils l G τ hc7) mi_X10_ofPerils tw_1281 mv_X10_ofPerils (rvX10 S) ⟨rfl, rfl⟩ ⟨Nat.le_of_ble_eq_true rfl, Nat.le_of_ble_eq_true rfl⟩ ⟨Nat.zero_le _, Nat.zero_le _⟩ rfl hl.1 rfl (Nat.le_of_ble_eq_true rfl) dX10_heaviestSet_24 (fun H locs S => ?_)
      refine lv_iload_n C.1 C.2.1 dX10_heaviestSet_27 rfl (lv_at hl 2 rfl) ?_
      refine r_iconst C dX10_heaviestSet_28 ?_
      obtain ⟨q8, hc9, hf⟩ := bd_o hf
      refine r_callVn C S (As := [.int (oI q6), .int (oI v2), .int (oI ((-1)))]) (rest := []) (ct_X10_weighs l G τ hc9) mi_X10_weighs tw_1288 mv_X10_weighs (rvX10 S) ⟨rfl, rfl⟩ ⟨Nat.le_of_ble_eq_true rfl, Nat.le_of_ble_eq_true rfl⟩ ⟨Nat.zero_le _, Nat.zero_le _⟩ rfl hl.1 rfl (Nat.le_of_ble_eq_true rfl) dX10_heaviestSet_29 (fun H locs S => ?_)
      refine lv_aload_n C.1 C.2.1 dX10_heaviestSet_32 rfl (lv_at hl 0 rfl) ?_
      refine g10_bestSet C S tw_1098 dX10_heaviestSet_33 ?_
      cases hf
      exact hend _ _ _ _ S dX10_heaviestSet_36
set_option maxRecDepth 100000 in
set_option maxHeartbeats 4000000 in
theorem b_X10_radiusFor_b72 (C : Cx p s m args c RX10 cX10_radiusFor 6) {q : Int × Sg} {k26 : Int → Int → Int → Int → Sg → Option (Int × Sg)} (hend : EndR p l e (rmk 3 98) s m args below meth c Q G false τ cX10_radiusFor .ireturn [.int (oI q.1)] q.2) (hk26 : ∀ {H : Heap} {locs : List Loc} {ls : Array Slot} {σ : Sg} (v1 : Int) (v2 : Int) (v3 : Int) (v4 : Int), St G false τ σ s H locs → lv_has ls 6 [(0, .ref (G.1 41)), (1, .int (oI v1)), (2, .int (oI v2)), (3, .int (oI v3)), (4, .int (oI v4))] → k26 v1 v2 v3 v4 σ = some q → W p l e (rmk 3 98) s m args below meth c H locs 0 0 Q (F0 m 26 ls [])) {H : Heap} {locs : List Loc} {ls : Array Slot} {σ : Sg} (v1 : Int) (v2 : Int) (v3 : Int) (v4 : Int) (S : St G false τ σ s H locs) (hl : lv_has ls 6 [(0, .ref (G.1 41)), (1, .int (oI v1)), (2, .int (oI v2)), (3, .int (oI v3)), (4, .int (oI v4))]) (hf : f_X10_radiusFor_b72 k26 v1 v2 v3 v4 σ = some q) : W p l e (rmk 3 98) s m args below meth c H locs 0 0 Q (F0 m 72 ls []) := by
  unfold f_X10_radiusFor_b72 at hf
  refine lv_iload_n C.1 C.2.1 dX10_radiusFor_72 rfl (lv_at hl 3 rfl) ?_
  refine r_sipush C dX10_radiusFor_73 (by decide) ?_
  refine r_icmp_ne C rfl (show w32 301 = 301 by decide) (tgt := 82) dX10_radiusFor_76 (by decide) (fun h9 => ?_) (fun h9 => ?_)
  · replace hf := if_t hf h9
    refine r_bipush C dX10_radiusFor_79 (by decide) ?_
    cases hf
    exact hend _ _ _ _ S dX10_radiusFor_81
  · replace hf := if_f hf h9
    refine lv_goto C.1 C.2.1 (tgt := 26) dX10_radiusFor_82 (by decide) ?_
    exact hk26 v1 v2 v3 v4 S (lv_sub hl [0, 1, 2, 3, 4] rfl) hf
set_option maxRecDepth 100000 in
set_option maxHeartbeats 4000000 in
theorem b_X10_radiusFor_b85 (C : Cx p s m args c RX10 cX10_radiusFor 6) {q : Int × Sg} (hend : EndR p l e (rmk 3 98) s m args below meth c Q G false τ cX10_radiusFor .ireturn [.int (oI q.1)] q.2) {H : Heap} {locs : List Loc} {ls : Array Slot} {σ : Sg} (v1 : Int) (v2 : Int) (v3 : Int) (S : St G false τ σ s H locs) (hl : lv_has ls 6 [(0, .ref (G.1 41)), (1, .int (oI v1)), (2, .int (oI v2)), (3, .int (oI v3))]) (hf : f_X10_radiusFor_b85 v1 v2 v3 σ = some q) : W p l e (rmk 3 98) s m args below meth c H locs 0 0 Q (F0 m 85 ls []) := by
  unfold f_X10_radiusFor_b85 at hf
  refine lv_aload_n C.1 C.2.1 dX10_radiusFor_85 rfl (lv_at hl 0 rfl) ?_
  refine lv_aload_n C.1 C.2.1 dX10_radiusFor_86 rfl (lv_at hl 0 rfl) ?_
  refine lv_iload_n C.1 C.2.1 dX10_radiusFor_87 rfl (lv_at hl 1 rfl) ?_
  obtain ⟨q11, hc12, hf⟩ := bd_o hf
  refine r_callVv C S (As := [.int (oI v1)]) (rest := [.ref (G.1 41)]) (ct_X10_ofPerils l G τ hc12) mi_X10_ofPerils tw_1281 mv_X10_ofPerils (rvX10 S) ⟨rfl, rfl⟩ ⟨Nat.le_of_ble_eq_true rfl, Nat.le_of_ble_eq_true rfl⟩ ⟨Nat.zero_le _, Nat.zero_le _⟩ rfl hl.1 rfl (Nat.le_of_ble_eq_true rfl) dX10_radiusFor_88 (fun H locs S => ?_)
  refine lv_iload_n C.1 C.2.1 dX10_radiusFor_91 rfl (lv_at hl 3 rfl) ?_
  refine r_iconst C dX10_radiusFor_92 ?_
  obtain ⟨q13, hc14, hf⟩ := bd_o hf
  refine r_callVn C S (As := [.int (oI q11), .int (oI v3), .int (oI ((-1)))]) (rest := []) (ct_X10_weighs l G τ hc14) mi_X10_weighs tw_1288 mv_X10_weighs (rvX10 S) ⟨rfl, rfl⟩ ⟨Nat.le_of_ble_eq_true rfl, Nat.le_of_ble_eq_true rfl⟩ ⟨Nat.zero_le _, Nat.zero_le _⟩ rfl hl.1 rfl (Nat.le_of_ble_eq_true rfl) dX10_radiusFor_93 (fun H locs S => ?_)
  refine lv_aload_n C.1 C.2.1 dX10_radiusFor_96 rfl (lv_at hl 0 rfl) ?_
  refine g10_bestSum C S tw_1097 dX10_radiusFor_97 ?_
  refine lv_iload_n C.1 C.2.1 dX10_radiusFor_100 rfl (lv_at hl 2 rfl) ?_
  refine r_icmp_lt C rfl rfl (tgt := 108) dX10_radiusFor_101 (by decide) (fun h15 => ?_) (fun h15 => ?_)
  · replace hf := if_t hf h15
    refine r_bipush C dX10_radiusFor_108 (by decide) ?_
    cases hf
    exact hend _ _ _ _ S dX10_radiusFor_110
  · replace hf := if_f hf h15
    refine lv_iload_n C.1 C.2.1 dX10_radiusFor_104 rfl (lv_at hl 3 rfl) ?_
    refine lv_goto C.1 C.2.1 (tgt := 110) dX10_radiusFor_105 (by decide) ?_
    cases hf
    exact hend _ _ _ _ S dX10_radiusFor_110
set_option maxRecDepth 100000 in
set_option maxHeartbeats 4000000 in
theorem b_X10_radiusFor_b26 (C : Cx p s m args c RX10 cX10_radiusFor 6) {q : Int × Sg} (hend : EndR p l e (rmk 3 98) s m args below meth c Q G false τ cX10_radiusFor .ireturn [.int (oI q.1)] q.2) : ∀ (n : Nat) {H : Heap} {locs : List Loc} {ls : Array Slot} {σ : Sg} (v1 : Int) (v2 : Int) (v3 : Int) (v4 : Int) (S : St G false τ σ s H locs) (hl : lv_has ls 6 [(0, .ref (G.1 41)), (1, .int (oI v1)), (2, .int (oI v2)), (3, .int (oI v3)), (4, .int (oI v4))]) (hf : f_X10_radiusFor_b26 n v1 v2 v3 v4 σ = some q), W p l e (rmk 3 98) s m args below meth c H locs 0 0 Q (F0 m 26 ls []) := by
  intro n
  induction n with
  | zero => intro H locs ls σ v1 v2 v3 v4 S hl hf; cases hf
  | succ n ih =>
    intro H locs ls σ v1 v2 v3 v4 S hl hf
    have hk26 := @ih
    rw [f_X10_radiusFor_b26] at hf
    refine lv_iload_n C.1 C.2.1 dX10_radiusFor_26 rfl (lv_at hl 3 rfl) ?_
    refine lv_iload C.1 C.2.1 dX10_radiusFor_27 (lv_at hl 4 rfl) ?_
    refine r_icmp_ge C rfl rfl (tgt := 85) dX10_radiusFor_29 (by decide) (fun h16 => ?_) (fun h16 => ?_)
    · replace hf := if_t hf h16
      refine lv_iload_n C.1 C.2.1 dX10_radiusFor_32 rfl (lv_at hl 3 rfl) ?_
      refine lv_iload C.1 C.2.1 dX10_radiusFor_33 (lv_at hl 4 rfl) ?_
      refine r_iadd C dX10_radiusFor_35 ?_
      refine r_iconst C dX10_radiusFor_36 ?_
      obtain ⟨hz4, hf⟩ := ck_o hf
      refine r_idiv C hz4 dX10_radiusFor_37 ?_
      refine lv_istore C.1 C.2.1 dX10_radiusFor_38 hl (by decide) (lv' := [(5, .int (oI ((w32 (v3 + v4)).tdiv (w32 2)))), (0, .ref (G.1 41)), (1, .int (oI v1)), (2, .int (oI v2)), (3, .int (oI v3)), (4, .int (oI v4))]) rfl (fun ls hl => ?_)
      refine lv_aload_n C.1 C.2.1 dX10_radiusFor_40 rfl (lv_at hl 1 rfl) ?_
      refine lv_aload_n C.1 C.2.1 dX10_radiusFor_41 rfl (lv_at hl 1 rfl) ?_
      refine lv_iload_n C.1 C.2.1 dX10_radiusFor_42 rfl (lv_at hl 2 rfl) ?_
      obtain ⟨q5, hc6, hf⟩ := bd_o hf
      refine r_callVv C S (As := [.int (oI v1)]) (rest := [.ref (G.1 41)]) (ct_X10_ofPerils l G τ hc6) mi_X10_ofPerils tw_1281 mv_X10_ofPerils (rvX10 S) ⟨rfl, rfl⟩ ⟨Nat.le_of_ble_eq_true rfl, Nat.le_of_ble_eq_true rfl⟩ ⟨Nat.zero_le _, Nat.zero_le _⟩ rfl hl.1 rfl (Nat.le_of_ble_eq_true rfl) dX10_radiusFor_43 (fun H locs S => ?_)
      refine lv_iload C.1 C.2.1 dX10_radiusFor_46 (lv_at hl 0 rfl) ?_
      refine r_iconst C dX10_radiusFor_48 ?_
      obtain ⟨q7, hc8, hf⟩ := bd_o hf
      refine r_callVn C S (As := [.int (oI q5), .int (oI ((w32 (v3 + v4)).tdiv (w32 2))), .int (oI ((-1)))]) (rest := []) (ct_X10_weighs l G τ hc8) mi_X10_weighs tw_1288 mv_X10_weighs (rvX10 S) ⟨rfl, rfl⟩ ⟨Nat.le_of_ble_eq_true rfl, Nat.le_of_ble_eq_true rfl⟩ ⟨Nat.zero_le _, Nat.zero_le _⟩ rfl hl.1 rfl (Nat.le_of_ble_eq_true rfl) dX10_radiusFor_49 (fun H locs S => ?_)
      refine lv_aload_n C.1 C.2.1 dX10_radiusFor_52 rfl (lv_at hl 1 rfl) ?_
      refine g10_bestSum C S tw_1097 dX10_radiusFor_53 ?_
      refine lv_iload_n C.1 C.2.1 dX10_radiusFor_56 rfl (lv_at hl 3 rfl) ?_
      refine r_icmp_lt C rfl rfl (tgt := 67) dX10_radiusFor_57 (by decide) (fun h10 => ?_) (fun h10 => ?_)
      · replace hf := if_t hf h10
        refine lv_iload C.1 C.2.1 dX10_radiusFor_67 (lv_at hl 0 rfl) ?_
        refine r_iconst C dX10_radiusFor_69 ?_
        refine r_iadd C dX10_radiusFor_70 ?_
        refine lv_istore_n C.1 C.2.1 dX10_radiusFor_71 rfl hl (by decide) (lv' := [(3, .int (oI (((w32 (v3 + v4)).tdiv (w32 2)) + 1))), (5, .int (oI ((w32 (v3 + v4)).tdiv (w32 2)))), (0, .ref (G.1 41)), (1, .int (oI v1)), (2, .int (oI v2)), (4, .int (oI v4))]) rfl (fun ls hl => ?_)
        exact b_X10_radiusFor_b72 C hend hk26 v1 v2 (((w32 (v3 + v4)).tdiv (w32 2)) + 1) v4 S (lv_sub hl [2, 3, 4, 0, 5] rfl) hf
      · replace hf := if_f hf h10
        refine lv_iload C.1 C.2.1 dX10_radiusFor_60 (lv_at hl 0 rfl) ?_
        refine lv_istore C.1 C.2.1 dX10_radiusFor_62 hl (by decide) (lv' := [(4, .int (oI ((w32 (v3 + v4)).tdiv (w32 2)))), (5, .int (oI ((w32 (v3 + v4)).tdiv (w32 2)))), (0, .ref (G.1 41)), (1, .int (oI v1)), (2, .int (oI v2)), (3, .int (oI v3))]) rfl (fun ls hl => ?_)
        refine lv_goto C.1 C.2.1 (tgt := 72) dX10_radiusFor_64 (by decide) ?_
        exact b_X10_radiusFor_b72 C hend hk26 v1 v2 v3 ((w32 (v3 + v4)).tdiv (w32 2)) S (lv_sub hl [2, 3, 4, 5, 0] rfl) hf
    · replace hf := if_f hf h16
      exact b_X10_radiusFor_b85 C hend v1 v2 v3 S (lv_sub hl [0, 1, 2, 3] rfl) hf
set_option maxRecDepth 100000 in
set_option maxHeartbeats 4000000 in
theorem ct_X10_radiusFor (l : Launch) (G : Gd) (τ : Sg) {v1 : Int} {v2 : Int} {σ : Sg} {q : Int × Sg} (hf : f_X10_radiusFor v1 v2 σ = some q) : Ctr l yX10_radiusFor cX10_radiusFor 6 (some .int) (rmk 3 98) G false τ [.ref (G.1 41), .int (oI v1), .int (oI v2)] σ q.2 (some (.int (oI q.1))) := by
  unfold f_X10_radiusFor at hf
  refine CtrI.of (own := RX10) (plainFor_of_name (by decide)) (Nat.le_of_ble_eq_true rfl) rfl (fun p e s m below meth c Q ls C hl S hend => ?_)
  have hl : lv_has ls 6 [(0, .ref (G.1 41)), (1, .int (oI v1)), (2, .int (oI v2))] := hl
  refine lv_aload_n C.1 C.2.1 dX10_radiusFor_0 rfl (lv_at hl 0 rfl) ?_
  refine r_iconst C dX10_radiusFor_1 ?_
  refine p10_thrown C S tw_1061 dX10_radiusFor_2 (fun H locs S => ?_)
  obtain ⟨σ1, S, hf⟩ := wr_s S hf
  refine lv_iload_n C.1 C.2.1 dX10_radiusFor_5 rfl (lv_at hl 1 rfl) ?_
  obtain ⟨q2, hc3, hf⟩ := bd_o hf
  refine r_callSv C S (As := [.int (oI v1)]) (rest := []) (ct_X10_arePerils l G τ hc3) mi_X10_arePerils tw_1363 ms_X10_arePerils ⟨rfl, rfl⟩ ⟨Nat.le_of_ble_eq_true rfl, Nat.le_of_ble_eq_true rfl⟩ ⟨Nat.zero_le _, Nat.zero_le _⟩ rfl hl.1 rfl (Nat.le_of_ble_eq_true rfl) dX10_radiusFor_6 (fun H locs S => ?_)
  refine r_if_eq C rfl (tgt := 17) dX10_radiusFor_9 (by decide) (fun h18 => ?_) (fun h18 => ?_)
  · replace hf := if_t hf h18
    refine r_iconst C dX10_radiusFor_17 ?_
    cases hf
    exact hend _ _ _ _ S dX10_radiusFor_18
  · replace hf := if_f hf h18
    refine lv_iload_n C.1 C.2.1 dX10_radiusFor_12 rfl (lv_at hl 2 rfl) ?_
    refine r_iconst C dX10_radiusFor_13 ?_
    refine r_icmp_ge C rfl (show w32 1 = 1 by decide) (tgt := 19) dX10_radiusFor_14 (by decide) (fun h17 => ?_) (fun h17 => ?_)
    · replace hf := if_t hf h17
      refine r_iconst C dX10_radiusFor_17 ?_
      cases hf
      exact hend _ _ _ _ S dX10_radiusFor_18
    · replace hf := if_f hf h17
      refine r_iconst C dX10_radiusFor_19 ?_
      refine lv_istore_n C.1 C.2.1 dX10_radiusFor_20 rfl hl (by decide) (lv' := [(3, .int (oI 1)), (0, .ref (G.1 41)), (1, .int (oI v1)), (2, .int (oI v2))]) rfl (fun ls hl => ?_)
      refine r_sipush C dX10_radiusFor_21 (by decide) ?_
      refine lv_istore C.1 C.2.1 dX10_radiusFor_24 hl (by decide) (lv' := [(4, .int (oI 301)), (3, .int (oI 1)), (0, .ref (G.1 41)), (1, .int (oI v1)), (2, .int (oI v2))]) rfl (fun ls hl => ?_)
      exact b_X10_radiusFor_b26 C hend FUEL v1 v2 1 301 S (lv_sub hl [2, 3, 4, 1, 0] rfl) hf
set_option maxRecDepth 100000 in
set_option maxHeartbeats 4000000 in
theorem b_X10_ifWritten_b80 (C : Cx p s m args c RX10 cX10_ifWritten 7) {q : Int × Sg} (hend : EndR p l e (rmk 3 98) s m args below meth c Q G false τ cX10_ifWritten .ireturn [.int (oI q.1)] q.2) {H : Heap} {locs : List Loc} {ls : Array Slot} {σ : Sg} (v1 : Int) (v6 : Int) (S : St G false τ σ s H locs) (hl : lv_has ls 7 [(0, .ref (G.1 41)), (1, .int (oI v1)), (6, .int (oI v6))]) (hf : f_X10_ifWritten_b80 v1 v6 σ = some q) : W p l e (rmk 3 98) s m args below meth c H locs 0 0 Q (F0 m 80 ls []) := by
  unfold f_X10_ifWritten_b80 at hf
  refine lv_aload_n C.1 C.2.1 dX10_ifWritten_80 rfl (lv_at hl 0 rfl) ?_
  refine lv_iload C.1 C.2.1 dX10_ifWritten_81 (lv_at hl 2 rfl) ?_
  refine lv_aload_n C.1 C.2.1 dX10_ifWritten_83 rfl (lv_at hl 0 rfl) ?_
  refine g10_radius C S tw_1084 dX10_ifWritten_84 ?_
  refine lv_iload_n C.1 C.2.1 dX10_ifWritten_87 rfl (lv_at hl 1 rfl) ?_
  obtain ⟨hi17, hf⟩ := ck_o hf
  refine a_iald C S ar_51 hi17 dX10_ifWritten_88 ?_
  refine r_iconst C dX10_ifWritten_89 ?_
  obtain ⟨q18, hc19, hf⟩ := bd_o hf
  refine r_callVn C S (As := [.int (oI v6), .int (oI (σ 51 (v1).toNat)), .int (oI ((-1)))]) (rest := []) (ct_X10_weighs l G τ hc19) mi_X10_weighs tw_1288 mv_X10_weighs (rvX10 S) ⟨rfl, rfl⟩ ⟨Nat.le_of_ble_eq_true rfl, Nat.le_of_ble_eq_true rfl⟩ ⟨Nat.zero_le _, Nat.zero_le _⟩ rfl hl.1 rfl (Nat.le_of_ble_eq_true rfl) dX10_ifWritten_90 (fun H locs S => ?_)
  refine lv_aload_n C.1 C.2.1 dX10_ifWritten_93 rfl (lv_at hl 0 rfl) ?_
  refine g10_bestSum C S tw_1097 dX10_ifWritten_94 ?_
  cases hf
  exact hend _ _ _ _ S dX10_ifWritten_97
set_option maxRecDepth 100000 in
set_option maxHeartbeats 4000000 in
theorem ct_X10_ifWritten (l : Launch) (G : Gd) (τ : Sg) {v1 : Int} {v2 : Int} {v3 : Int} {v4 : Int} {v5 : Int} {σ : Sg} {q : Int × Sg} (hf : f_X10_ifWritten v1 v2 v3 v4 v5 σ = some q) : Ctr l yX10_ifWritten cX10_ifWritten 7 (some .int) (rmk 3 98) G false τ [.ref (G.1 41), .int (oI v1), .int (oI v2), .int (oI v3), .int (oI v4), .int (oI v5)] σ q.2 (some (.int (oI q.1))) := by
  unfold f_X10_ifWritten at hf
  refine CtrI.of (own := RX10) (plainFor_of_name (by decide)) (Nat.le_of_ble_eq_true rfl) rfl (fun p e s m below meth c Q ls C hl S hend => ?_)
  have hl : lv_has ls 7 [(0, .ref (G.1 41)), (1, .int (oI v1)), (2, .int (oI v2)), (3, .int (oI v3)), (4, .int (oI v4)), (5, .int (oI v5))] := hl
  refine lv_aload_n C.1 C.2.1 dX10_ifWritten_0 rfl (lv_at hl 0 rfl) ?_
  refine r_iconst C dX10_ifWritten_1 ?_
  refine p10_thrown C S tw_1061 dX10_ifWritten_2 (fun H locs S => ?_)
  obtain ⟨σ1, S, hf⟩ := wr_s S hf
  refine lv_aload_n C.1 C.2.1 dX10_ifWritten_5 rfl (lv_at hl 0 rfl) ?_
  refine lv_iload_n C.1 C.2.1 dX10_ifWritten_6 rfl (lv_at hl 1 rfl) ?_
  obtain ⟨q2, hc3, hf⟩ := bd_o hf
  refine r_callVv C S (As := [.int (oI v1)]) (rest := []) (ct_X10_isTreaty l G τ hc3) mi_X10_isTreaty tw_1373 mv_X10_isTreaty (rvX10 S) ⟨rfl, rfl⟩ ⟨Nat.le_of_ble_eq_true rfl, Nat.le_of_ble_eq_true rfl⟩ ⟨Nat.zero_le _, Nat.zero_le _⟩ rfl hl.1 rfl (Nat.le_of_ble_eq_true rfl) dX10_ifWritten_7 (fun H locs S => ?_)
  refine r_if_eq C rfl (tgt := 37) dX10_ifWritten_10 (by decide) (fun h24 => ?_) (fun h24 => ?_)
  · replace hf := if_t hf h24
    refine r_iconst C dX10_ifWritten_37 ?_
    cases hf
    exact hend _ _ _ _ S dX10_ifWritten_38
  · replace hf := if_f hf h24
    refine lv_iload_n C.1 C.2.1 dX10_ifWritten_13 rfl (lv_at hl 2 rfl) ?_
    refine lv_iload_n C.1 C.2.1 dX10_ifWritten_14 rfl (lv_at hl 3 rfl) ?_
    obtain ⟨q4, hc5, hf⟩ := bd_o hf
    refine r_callSv C S (As := [.int (oI v2), .int (oI v3)]) (rest := []) (ct_X10_isPlace l G τ hc5) mi_X10_isPlace tw_1330 ms_X10_isPlace ⟨rfl, rfl⟩ ⟨Nat.le_of_ble_eq_true rfl, Nat.le_of_ble_eq_true rfl⟩ ⟨Nat.zero_le _, Nat.zero_le _⟩ rfl hl.1 rfl (Nat.le_of_ble_eq_true rfl) dX10_ifWritten_15 (fun H locs S => ?_)
    refine r_if_eq C rfl (tgt := 37) dX10_ifWritten_18 (by decide) (fun h23 => ?_) (fun h23 => ?_)
    · replace hf := if_t hf h23
      refine r_iconst C dX10_ifWritten_37 ?_
      cases hf
      exact hend _ _ _ _ S dX10_ifWritten_38
    · replace hf := if_f hf h23
      refine lv_iload C.1 C.2.1 dX10_ifWritten_21 (lv_at hl 4 rfl) ?_
      obtain ⟨q6, hc7, hf⟩ := bd_o hf
      refine r_callSv C S (As := [.int (oI v4)]) (rest := []) (ct_X10_isSum l G τ hc7) mi_X10_isSum tw_1333 ms_X10_isSum ⟨rfl, rfl⟩ ⟨Nat.le_of_ble_eq_true rfl, Nat.le_of_ble_eq_true rfl⟩ ⟨Nat.zero_le _, Nat.zero_le _⟩ rfl hl.1 rfl (Nat.le_of_ble_eq_true rfl) dX10_ifWritten_23 (fun H locs S => ?_)
      refine r_if_eq C rfl (tgt := 37) dX10_ifWritten_26 (by decide) (fun h22 => ?_) (fun h22 => ?_)
      · replace hf := if_t hf h22
        refine r_iconst C dX10_ifWritten_37 ?_
        cases hf
        exact hend _ _ _ _ S dX10_ifWritten_38
      · replace hf := if_f hf h22
        refine lv_iload C.1 C.2.1 dX10_ifWritten_29 (lv_at hl 5 rfl) ?_
        obtain ⟨q8, hc9, hf⟩ := bd_o hf
        refine r_callSv C S (As := [.int (oI v5)]) (rest := []) (ct_X10_isPeril l G τ hc9) mi_X10_isPeril tw_1336 ms_X10_isPeril ⟨rfl, rfl⟩ ⟨Nat.le_of_ble_eq_true rfl, Nat.le_of_ble_eq_true rfl⟩ ⟨Nat.zero_le _, Nat.zero_le _⟩ rfl hl.1 rfl (Nat.le_of_ble_eq_true rfl) dX10_ifWritten_31 (fun H locs S => ?_)
        refine r_if_ne C rfl (tgt := 39) dX10_ifWritten_34 (by decide) (fun h21 => ?_) (fun h21 => ?_)
        · replace hf := if_t hf h21
          refine r_iconst C dX10_ifWritten_37 ?_
          cases hf
          exact hend _ _ _ _ S dX10_ifWritten_38
        · replace hf := if_f hf h21
          refine lv_aload_n C.1 C.2.1 dX10_ifWritten_39 rfl (lv_at hl 0 rfl) ?_
          refine lv_iload_n C.1 C.2.1 dX10_ifWritten_40 rfl (lv_at hl 1 rfl) ?_
          obtain ⟨q10, hc11, hf⟩ := bd_o hf
          refine r_callVv C S (As := [.int (oI v1)]) (rest := []) (ct_X10_ofTreaty l G τ hc11) mi_X10_ofTreaty tw_1277 mv_X10_ofTreaty (rvX10 S) ⟨rfl, rfl⟩ ⟨Nat.le_of_ble_eq_true rfl, Nat.le_of_ble_eq_true rfl⟩ ⟨Nat.zero_le _, Nat.zero_le _⟩ rfl hl.1 rfl (Nat.le_of_ble_eq_true rfl) dX10_ifWritten_41 (fun H locs S => ?_)
          refine lv_istore C.1 C.2.1 dX10_ifWritten_44 hl (by decide) (lv' := [(6, .int (oI q10)), (0, .ref (G.1 41)), (1, .int (oI v1)), (2, .int (oI v2)), (3, .int (oI v3)), (4, .int (oI v4)), (5, .int (oI v5))]) rfl (fun ls hl => ?_)
          refine lv_aload_n C.1 C.2.1 dX10_ifWritten_46 rfl (lv_at hl 1 rfl) ?_
          refine r_bipush C dX10_ifWritten_47 (by decide) ?_
          refine lv_iload_n C.1 C.2.1 dX10_ifWritten_49 rfl (lv_at hl 3 rfl) ?_
          refine lv_iload_n C.1 C.2.1 dX10_ifWritten_50 rfl (lv_at hl 4 rfl) ?_
          refine lv_iload C.1 C.2.1 dX10_ifWritten_51 (lv_at hl 5 rfl) ?_
          refine lv_iload C.1 C.2.1 dX10_ifWritten_53 (lv_at hl 6 rfl) ?_
          obtain ⟨q12, hc13, hf⟩ := bd_o hf
          refine r_callVn C S (As := [.int (oI 24), .int (oI v2), .int (oI v3), .int (oI v4), .int (oI v5)]) (rest := []) (ct_X10_puts l G τ hc13) mi_X10_puts tw_1257 mv_X10_puts (rvX10 S) ⟨rfl, rfl⟩ ⟨Nat.le_of_ble_eq_true rfl, Nat.le_of_ble_eq_true rfl⟩ ⟨Nat.zero_le _, Nat.zero_le _⟩ rfl hl.1 rfl (Nat.le_of_ble_eq_true rfl) dX10_ifWritten_55 (fun H locs S => ?_)
          refine lv_aload_n C.1 C.2.1 dX10_ifWritten_58 rfl (lv_at hl 1 rfl) ?_
          refine g10_perils C S tw_1083 dX10_ifWritten_59 ?_
          refine lv_iload_n C.1 C.2.1 dX10_ifWritten_62 rfl (lv_at hl 2 rfl) ?_
          obtain ⟨hi14, hf⟩ := ck_o hf
          refine a_iald C S ar_50 hi14 dX10_ifWritten_63 ?_
          refine lv_iload C.1 C.2.1 dX10_ifWritten_64 (lv_at hl 6 rfl) ?_
          obtain ⟨q15, hc16, hf⟩ := bd_o hf
          refine r_callSv C S (As := [.int (oI (q12 50 (v1).toNat)), .int (oI v5)]) (rest := []) (ct_X10_has l G τ hc16) mi_X10_has tw_1285 ms_X10_has ⟨rfl, rfl⟩ ⟨Nat.le_of_ble_eq_true rfl, Nat.le_of_ble_eq_true rfl⟩ ⟨Nat.zero_le _, Nat.zero_le _⟩ rfl hl.1 rfl (Nat.le_of_ble_eq_true rfl) dX10_ifWritten_66 (fun H locs S => ?_)
          refine r_if_eq C rfl (tgt := 80) dX10_ifWritten_69 (by decide) (fun h20 => ?_) (fun h20 => ?_)
          · replace hf := if_t hf h20
            exact b_X10_ifWritten_b80 C hend v1 q10 S (lv_sub hl [1, 2, 0] rfl) hf
          · replace hf := if_f hf h20
            refine lv_iload C.1 C.2.1 dX10_ifWritten_72 (lv_at hl 0 rfl) ?_
            refine r_ldcw C tw_1541 dX10_ifWritten_74 ?_
            refine r_ior C rfl (show u32 16777216 = 16777216 by decide) dX10_ifWritten_77 ?_
            refine lv_istore C.1 C.2.1 dX10_ifWritten_78 hl (by decide) (lv' := [(6, .int (oI ((((u32 q10) ||| 16777216 : Nat) : Int)))), (0, .ref (G.1 41)), (1, .int (oI v1)), (2, .int (oI v2)), (3, .int (oI v3)), (4, .int (oI v4)), (5, .int (oI v5))]) rfl (fun ls hl => ?_)
            exact b_X10_ifWritten_b80 C hend v1 ((((u32 q10) ||| 16777216 : Nat) : Int)) S (lv_sub hl [1, 2, 0] rfl) hf
set_option maxRecDepth 100000 in
set_option maxHeartbeats 4000000 in
theorem ct_X10_withPlace (l : Launch) (G : Gd) (τ : Sg) {v1 : Int} {v2 : Int} {v3 : Int} {σ : Sg} {q : Int × Sg} (hf : f_X10_withPlace v1 v2 v3 σ = some q) : Ctr l yX10_withPlace cX10_withPlace 4 (some .int) (rmk 3 98) G false τ [.ref (G.1 41), .int (oI v1), .int (oI v2), .int (oI v3)] σ q.2 (some (.int (oI q.1))) := by
  unfold f_X10_withPlace at hf
  refine CtrI.of (own := RX10) (plainFor_of_name (by decide)) (Nat.le_of_ble_eq_true rfl) rfl (fun p e s m below meth c Q ls C hl S hend => ?_)
  have hl : lv_has ls 4 [(0, .ref (G.1 41)), (1, .int (oI v1)), (2, .int (oI v2)), (3, .int (oI v3))] := hl
  refine lv_aload_n C.1 C.2.1 dX10_withPlace_0 rfl (lv_at hl 0 rfl) ?_
  refine r_bipush C dX10_withPlace_1 (by decide) ?_
  refine lv_iload_n C.1 C.2.1 dX10_withPlace_3 rfl (lv_at hl 2 rfl) ?_
  refine lv_iload_n C.1 C.2.1 dX10_withPlace_4 rfl (lv_at hl 3 rfl) ?_
  refine r_iconst C dX10_withPlace_5 ?_
  refine r_iconst C dX10_withPlace_6 ?_
  obtain ⟨q1, hc2, hf⟩ := bd_o hf
  refine r_callVn C S (As := [.int (oI 24), .int (oI v2), .int (oI v3), .int (oI 0), .int (oI 0)]) (rest := []) (ct_X10_puts l G τ hc2) mi_X10_puts tw_1257 mv_X10_puts (rvX10 S) ⟨rfl, rfl⟩ ⟨Nat.le_of_ble_eq_true rfl, Nat.le_of_ble_eq_true rfl⟩ ⟨Nat.zero_le _, Nat.zero_le _⟩ rfl hl.1 rfl (Nat.le_of_ble_eq_true rfl) dX10_withPlace_7 (fun H locs S => ?_)
  refine lv_aload_n C.1 C.2.1 dX10_withPlace_10 rfl (lv_at hl 0 rfl) ?_
  refine lv_aload_n C.1 C.2.1 dX10_withPlace_11 rfl (lv_at hl 0 rfl) ?_
  refine lv_iload_n C.1 C.2.1 dX10_withPlace_12 rfl (lv_at hl 1 rfl) ?_
  obtain ⟨q3, hc4, hf⟩ := bd_o hf
  refine r_callVv C S (As := [.int (oI v1)]) (rest := [.ref (G.1 41)]) (ct_X10_ofTreaty l G τ hc4) mi_X10_ofTreaty tw_1277 mv_X10_ofTreaty (rvX10 S) ⟨rfl, rfl⟩ ⟨Nat.le_of_ble_eq_true rfl, Nat.le_of_ble_eq_true rfl⟩ ⟨Nat.zero_le _, Nat.zero_le _⟩ rfl hl.1 rfl (Nat.le_of_ble_eq_true rfl) dX10_withPlace_13 (fun H locs S => ?_)
  refine lv_aload_n C.1 C.2.1 dX10_withPlace_16 rfl (lv_at hl 0 rfl) ?_
  refine g10_radius C S tw_1084 dX10_withPlace_17 ?_
  refine lv_iload_n C.1 C.2.1 dX10_withPlace_20 rfl (lv_at hl 1 rfl) ?_
  obtain ⟨hi5, hf⟩ := ck_o hf
  refine a_iald C S ar_51 hi5 dX10_withPlace_21 ?_
  refine r_bipush C dX10_withPlace_22 (by decide) ?_
  obtain ⟨q6, hc7, hf⟩ := bd_o hf
  refine r_callVn C S (As := [.int (oI q3), .int (oI (q1 51 (v1).toNat)), .int (oI 24)]) (rest := []) (ct_X10_weighs l G τ hc7) mi_X10_weighs tw_1288 mv_X10_weighs (rvX10 S) ⟨rfl, rfl⟩ ⟨Nat.le_of_ble_eq_true rfl, Nat.le_of_ble_eq_true rfl⟩ ⟨Nat.zero_le _, Nat.zero_le _⟩ rfl hl.1 rfl (Nat.le_of_ble_eq_true rfl) dX10_withPlace_24 (fun H locs S => ?_)
  refine lv_aload_n C.1 C.2.1 dX10_withPlace_27 rfl (lv_at hl 0 rfl) ?_
  refine g10_bestSum C S tw_1097 dX10_withPlace_28 ?_
  cases hf
  exact hend _ _ _ _ S dX10_withPlace_31
set_option maxRecDepth 100000 in
set_option maxHeartbeats 4000000 in
theorem ct_X10_about (l : Launch) (G : Gd) (τ : Sg) {v1 : Int} {v2 : Int} {v3 : Int} {σ : Sg} {q : Int × Sg} (hf : f_X10_about v1 v2 v3 σ = some q) : Ctr l yX10_about cX10_about 4 (some .int) (rmk 4 121) G false τ [.ref (G.1 41), .int (oI v1), .int (oI v2), .int (oI v3)] σ q.2 (some (.int (oI q.1))) := by
  unfold f_X10_about at hf
  refine CtrI.of (own := RX10) (plainFor_of_name (by decide)) (Nat.le_of_ble_eq_true rfl) rfl (fun p e s m below meth c Q ls C hl S hend => ?_)
  have hl : lv_has ls 4 [(0, .ref (G.1 41)), (1, .int (oI v1)), (2, .int (oI v2)), (3, .int (oI v3))] := hl
  refine lv_aload_n C.1 C.2.1 dX10_about_0 rfl (lv_at hl 0 rfl) ?_
  refine r_iconst C dX10_about_1 ?_
  refine p10_thrown C S tw_1061 dX10_about_2 (fun H locs S => ?_)
  obtain ⟨σ1, S, hf⟩ := wr_s S hf
  refine lv_aload_n C.1 C.2.1 dX10_about_5 rfl (lv_at hl 0 rfl) ?_
  refine lv_iload_n C.1 C.2.1 dX10_about_6 rfl (lv_at hl 1 rfl) ?_
  obtain ⟨q2, hc3, hf⟩ := bd_o hf
  refine r_callVv C S (As := [.int (oI v1)]) (rest := []) (ct_X10_isTreaty l G τ hc3) mi_X10_isTreaty tw_1373 mv_X10_isTreaty (rvX10 S) ⟨rfl, rfl⟩ ⟨Nat.le_of_ble_eq_true rfl, Nat.le_of_ble_eq_true rfl⟩ ⟨Nat.zero_le _, Nat.zero_le _⟩ rfl hl.1 rfl (Nat.le_of_ble_eq_true rfl) dX10_about_7 (fun H locs S => ?_)
  refine r_if_eq C rfl (tgt := 31) dX10_about_10 (by decide) (fun h9 => ?_) (fun h9 => ?_)
  · replace hf := if_t hf h9
    refine r_iconst C dX10_about_31 ?_
    cases hf
    exact hend _ _ _ _ S dX10_about_32
  · replace hf := if_f hf h9
    refine lv_iload_n C.1 C.2.1 dX10_about_13 rfl (lv_at hl 2 rfl) ?_
    refine lv_iload_n C.1 C.2.1 dX10_about_14 rfl (lv_at hl 3 rfl) ?_
    obtain ⟨q4, hc5, hf⟩ := bd_o hf
    refine r_callSv C S (As := [.int (oI v2), .int (oI v3)]) (rest := []) (ct_X10_isPlace l G τ hc5) mi_X10_isPlace tw_1330 ms_X10_isPlace ⟨rfl, rfl⟩ ⟨Nat.le_of_ble_eq_true rfl, Nat.le_of_ble_eq_true rfl⟩ ⟨Nat.zero_le _, Nat.zero_le _⟩ rfl hl.1 rfl (Nat.le_of_ble_eq_true rfl) dX10_about_15 (fun H locs S => ?_)
    refine r_if_eq C rfl (tgt := 31) dX10_about_18 (by decide) (fun h8 => ?_) (fun h8 => ?_)
    · replace hf := if_t hf h8
      refine r_iconst C dX10_about_31 ?_
      cases hf
      exact hend _ _ _ _ S dX10_about_32
    · replace hf := if_f hf h8
      refine lv_aload_n C.1 C.2.1 dX10_about_21 rfl (lv_at hl 0 rfl) ?_
      refine lv_iload_n C.1 C.2.1 dX10_about_22 rfl (lv_at hl 1 rfl) ?_
      refine lv_iload_n C.1 C.2.1 dX10_about_23 rfl (lv_at hl 2 rfl) ?_
      refine lv_iload_n C.1 C.2.1 dX10_about_24 rfl (lv_at hl 3 rfl) ?_
      obtain ⟨q6, hc7, hf⟩ := bd_o hf
      refine r_callVv C S (As := [.int (oI v1), .int (oI v2), .int (oI v3)]) (rest := []) (ct_X10_withPlace l G τ hc7) mi_X10_withPlace tw_1546 mv_X10_withPlace (rvX10 S) ⟨rfl, rfl⟩ ⟨Nat.le_of_ble_eq_true rfl, Nat.le_of_ble_eq_true rfl⟩ ⟨Nat.zero_le _, Nat.zero_le _⟩ rfl hl.1 rfl (Nat.le_of_ble_eq_true rfl) dX10_about_25 (fun H locs S => ?_)
      refine lv_goto C.1 C.2.1 (tgt := 32) dX10_about_28 (by decide) ?_
      cases hf
      exact hend _ _ _ _ S dX10_about_32
set_option maxRecDepth 100000 in
set_option maxHeartbeats 4000000 in
theorem b_X10_roomAt_b107 (C : Cx p s m args c RX10 cX10_roomAt 7) {q : Int × Sg} {k7 : Int → Int → Int → Int → Int → Sg → Option (Int × Sg)} (hend : EndR p l e (rmk 4 121) s m args below meth c Q G false τ cX10_roomAt .ireturn [.int (oI q.1)] q.2) (hk7 : ∀ {H : Heap} {locs : List Loc} {ls : Array Slot} {σ : Sg} (v1 : Int) (v2 : Int) (v3 : Int) (v4 : Int) (v5 : Int), St G false τ σ s H locs → lv_has ls 7 [(0, .ref (G.1 41)), (1, .int (oI v1)), (2, .int (oI v2)), (3, .int (oI v3)), (4, .int (oI v4)), (5, .int (oI v5))] → k7 v1 v2 v3 v4 v5 σ = some q → W p l e (rmk 4 121) s m args below meth c H locs 0 0 Q (F0 m 7 ls [])) {H : Heap} {locs : List Loc} {ls : Array Slot} {σ : Sg} (v1 : Int) (v2 : Int) (v3 : Int) (v4 : Int) (v5 : Int) (S : St G false τ σ s H locs) (hl : lv_has ls 7 [(0, .ref (G.1 41)), (1, .int (oI v1)), (2, .int (oI v2)), (3, .int (oI v3)), (4, .int (oI v4)), (5, .int (oI v5))]) (hf : f_X10_roomAt_b107 k7 v1 v2 v3 v4 v5 σ = some q) : W p l e (rmk 4 121) s m args below meth c H locs 0 0 Q (F0 m 107 ls []) := by
  unfold f_X10_roomAt_b107 at hf
  refine r_iinc C dX10_roomAt_107 hl (k := 5) rfl (by decide) (lv' := [(5, .int (oI (v5 + 1))), (0, .ref (G.1 41)), (1, .int (oI v1)), (2, .int (oI v2)), (3, .int (oI v3)), (4, .int (oI v4))]) rfl (fun ls hl => ?_)
  refine lv_goto C.1 C.2.1 (tgt := 7) dX10_roomAt_110 (by decide) ?_
  exact hk7 v1 v2 v3 v4 (v5 + 1) S (lv_sub hl [1, 2, 3, 4, 5, 0] rfl) hf
set_option maxRecDepth 100000 in
set_option maxHeartbeats 4000000 in
theorem b_X10_roomAt_b105 (C : Cx p s m args c RX10 cX10_roomAt 7) {q : Int × Sg} {k7 : Int → Int → Int → Int → Int → Sg → Option (Int × Sg)} (hend : EndR p l e (rmk 4 121) s m args below meth c Q G false τ cX10_roomAt .ireturn [.int (oI q.1)] q.2) (hk7 : ∀ {H : Heap} {locs : List Loc} {ls : Array Slot} {σ : Sg} (v1 : Int) (v2 : Int) (v3 : Int) (v4 : Int) (v5 : Int), St G false τ σ s H locs → lv_has ls 7 [(0, .ref (G.1 41)), (1, .int (oI v1)), (2, .int (oI v2)), (3, .int (oI v3)), (4, .int (oI v4)), (5, .int (oI v5))] → k7 v1 v2 v3 v4 v5 σ = some q → W p l e (rmk 4 121) s m args below meth c H locs 0 0 Q (F0 m 7 ls [])) {H : Heap} {locs : List Loc} {ls : Array Slot} {σ : Sg} (v1 : Int) (v2 : Int) (v3 : Int) (v5 : Int) (w0 : Int) (S : St G false τ σ s H locs) (hl : lv_has ls 7 [(0, .ref (G.1 41)), (1, .int (oI v1)), (2, .int (oI v2)), (3, .int (oI v3)), (5, .int (oI v5))]) (hf : f_X10_roomAt_b105 k7 v1 v2 v3 v5 w0 σ = some q) : W p l e (rmk 4 121) s m args below meth c H locs 0 0 Q (F0 m 105 ls [.int (oI w0)]) := by
  unfold f_X10_roomAt_b105 at hf
  refine lv_istore C.1 C.2.1 dX10_roomAt_105 hl (by decide) (lv' := [(4, .int (oI w0)), (0, .ref (G.1 41)), (1, .int (oI v1)), (2, .int (oI v2)), (3, .int (oI v3)), (5, .int (oI v5))]) rfl (fun ls hl => ?_)
  exact b_X10_roomAt_b107 C hend hk7 v1 v2 v3 w0 v5 S (lv_sub hl [1, 2, 3, 4, 0, 5] rfl) hf
set_option maxRecDepth 100000 in
set_option maxHeartbeats 4000000 in
theorem b_X10_roomAt_b7 (C : Cx p s m args c RX10 cX10_roomAt 7) {q : Int × Sg} (hend : EndR p l e (rmk 4 121) s m args below meth c Q G false τ cX10_roomAt .ireturn [.int (oI q.1)] q.2) : ∀ (n : Nat) {H : Heap} {locs : List Loc} {ls : Array Slot} {σ : Sg} (v1 : Int) (v2 : Int) (v3 : Int) (v4 : Int) (v5 : Int) (S : St G false τ σ s H locs) (hl : lv_has ls 7 [(0, .ref (G.1 41)), (1, .int (oI v1)), (2, .int (oI v2)), (3, .int (oI v3)), (4, .int (oI v4)), (5, .int (oI v5))]) (hf : f_X10_roomAt_b7 n v1 v2 v3 v4 v5 σ = some q), W p l e (rmk 4 121) s m args below meth c H locs 0 0 Q (F0 m 7 ls []) := by
  intro n
  induction n with
  | zero => intro H locs ls σ v1 v2 v3 v4 v5 S hl hf; cases hf
  | succ n ih =>
    intro H locs ls σ v1 v2 v3 v4 v5 S hl hf
    have hk7 := @ih
    rw [f_X10_roomAt_b7] at hf
    refine lv_iload C.1 C.2.1 dX10_roomAt_7 (lv_at hl 5 rfl) ?_
    refine lv_aload_n C.1 C.2.1 dX10_roomAt_9 rfl (lv_at hl 0 rfl) ?_
    refine g10_treaties C S tw_1088 dX10_roomAt_10 ?_
    refine r_icmp_ge C rfl rfl (tgt := 113) dX10_roomAt_13 (by decide) (fun h17 => ?_) (fun h17 => ?_)
    · replace hf := if_t hf h17
      refine lv_aload_n C.1 C.2.1 dX10_roomAt_16 rfl (lv_at hl 0 rfl) ?_
      refine g10_perils C S tw_1083 dX10_roomAt_17 ?_
      refine lv_iload C.1 C.2.1 dX10_roomAt_20 (lv_at hl 5 rfl) ?_
      obtain ⟨hi1, hf⟩ := ck_o hf
      refine a_iald C S ar_50 hi1 dX10_roomAt_22 ?_
      refine lv_iload_n C.1 C.2.1 dX10_roomAt_23 rfl (lv_at hl 3 rfl) ?_
      obtain ⟨q2, hc3, hf⟩ := bd_o hf
      refine r_callSv C S (As := [.int (oI (σ 50 (v5).toNat)), .int (oI v3)]) (rest := []) (ct_X10_has l G τ hc3) mi_X10_has tw_1285 ms_X10_has ⟨rfl, rfl⟩ ⟨Nat.le_of_ble_eq_true rfl, Nat.le_of_ble_eq_true rfl⟩ ⟨Nat.zero_le _, Nat.zero_le _⟩ rfl hl.1 rfl (Nat.le_of_ble_eq_true rfl) dX10_roomAt_24 (fun H locs S => ?_)
      refine r_if_ne C rfl (tgt := 33) dX10_roomAt_27 (by decide) (fun h16 => ?_) (fun h16 => ?_)
      · replace hf := if_t hf h16
        refine lv_goto C.1 C.2.1 (tgt := 107) dX10_roomAt_30 (by decide) ?_
        exact b_X10_roomAt_b107 C hend hk7 v1 v2 v3 v4 v5 S (lv_sub hl [0, 1, 2, 3, 4, 5] rfl) hf
      · replace hf := if_f hf h16
        refine lv_aload_n C.1 C.2.1 dX10_roomAt_33 rfl (lv_at hl 0 rfl) ?_
        refine g10_alarm C S tw_1086 dX10_roomAt_34 ?_
        refine lv_iload C.1 C.2.1 dX10_roomAt_37 (lv_at hl 5 rfl) ?_
        obtain ⟨hi4, hf⟩ := ck_o hf
        refine a_iald C S ar_53 hi4 dX10_roomAt_39 ?_
        refine r_bipush C dX10_roomAt_40 (by decide) ?_
        refine r_icmp_eq C rfl (show w32 (-2) = (-2) by decide) (tgt := 47) dX10_roomAt_42 (by decide) (fun h15 => ?_) (fun h15 => ?_)
        · replace hf := if_t hf h15
          refine lv_aload_n C.1 C.2.1 dX10_roomAt_47 rfl (lv_at hl 0 rfl) ?_
          refine g10_limit C S tw_1085 dX10_roomAt_48 ?_
          refine lv_iload C.1 C.2.1 dX10_roomAt_51 (lv_at hl 5 rfl) ?_
          obtain ⟨hi5, hf⟩ := ck_o hf
          refine a_iald C S ar_52 hi5 dX10_roomAt_53 ?_
          refine lv_aload_n C.1 C.2.1 dX10_roomAt_54 rfl (lv_at hl 0 rfl) ?_
          refine lv_aload_n C.1 C.2.1 dX10_roomAt_55 rfl (lv_at hl 0 rfl) ?_
          refine lv_iload C.1 C.2.1 dX10_roomAt_56 (lv_at hl 5 rfl) ?_
          obtain ⟨q6, hc7, hf⟩ := bd_o hf
          refine r_callVv C S (As := [.int (oI v5)]) (rest := [.ref (G.1 41), .int (oI (σ 52 (v5).toNat))]) (ct_X10_ofTreaty l G τ hc7) mi_X10_ofTreaty tw_1277 mv_X10_ofTreaty (rvX10 S) ⟨rfl, rfl⟩ ⟨Nat.le_of_ble_eq_true rfl, Nat.le_of_ble_eq_true rfl⟩ ⟨Nat.zero_le _, Nat.zero_le _⟩ rfl hl.1 rfl (Nat.le_of_ble_eq_true rfl) dX10_roomAt_58 (fun H locs S => ?_)
          obtain ⟨q8, hc9, hf⟩ := bd_o hf
          refine r_callVv C S (As := [.int (oI q6)]) (rest := [.int (oI (σ 52 (v5).toNat))]) (ct_X10_sumOf l G τ hc9) mi_X10_sumOf tw_1392 mv_X10_sumOf (rvX10 S) ⟨rfl, rfl⟩ ⟨Nat.le_of_ble_eq_true rfl, Nat.le_of_ble_eq_true rfl⟩ ⟨Nat.zero_le _, Nat.zero_le _⟩ rfl hl.1 rfl (Nat.le_of_ble_eq_true rfl) dX10_roomAt_61 (fun H locs S => ?_)
          refine r_isub C dX10_roomAt_64 ?_
          refine lv_iload C.1 C.2.1 dX10_roomAt_65 (lv_at hl 4 rfl) ?_
          refine r_icmp_lt C rfl rfl (tgt := 73) dX10_roomAt_67 (by decide) (fun h14 => ?_) (fun h14 => ?_)
          · replace hf := if_t hf h14
            refine lv_aload_n C.1 C.2.1 dX10_roomAt_73 rfl (lv_at hl 0 rfl) ?_
            refine g10_limit C S tw_1085 dX10_roomAt_74 ?_
            refine lv_iload C.1 C.2.1 dX10_roomAt_77 (lv_at hl 5 rfl) ?_
            obtain ⟨hi10, hf⟩ := ck_o hf
            refine a_iald C S ar_52 hi10 dX10_roomAt_79 ?_
            refine lv_aload_n C.1 C.2.1 dX10_roomAt_80 rfl (lv_at hl 0 rfl) ?_
            refine lv_iload C.1 C.2.1 dX10_roomAt_81 (lv_at hl 5 rfl) ?_
            refine lv_iload_n C.1 C.2.1 dX10_roomAt_83 rfl (lv_at hl 1 rfl) ?_
            refine lv_iload_n C.1 C.2.1 dX10_roomAt_84 rfl (lv_at hl 2 rfl) ?_
            obtain ⟨q11, hc12, hf⟩ := bd_o hf
            refine r_callVv C S (As := [.int (oI v5), .int (oI v1), .int (oI v2)]) (rest := [.int (oI (σ 52 (v5).toNat))]) (ct_X10_withPlace l G τ hc12) mi_X10_withPlace tw_1546 mv_X10_withPlace (rvX10 S) ⟨rfl, rfl⟩ ⟨Nat.le_of_ble_eq_true rfl, Nat.le_of_ble_eq_true rfl⟩ ⟨Nat.zero_le _, Nat.zero_le _⟩ rfl hl.1 rfl (Nat.le_of_ble_eq_true rfl) dX10_roomAt_85 (fun H locs S => ?_)
            refine r_isub C dX10_roomAt_88 ?_
            refine lv_istore C.1 C.2.1 dX10_roomAt_89 hl (by decide) (lv' := [(6, .int (oI ((σ 52 (v5).toNat) - q11.1))), (0, .ref (G.1 41)), (1, .int (oI v1)), (2, .int (oI v2)), (3, .int (oI v3)), (4, .int (oI v4)), (5, .int (oI v5))]) rfl (fun ls hl => ?_)
            refine lv_iload C.1 C.2.1 dX10_roomAt_91 (lv_at hl 0 rfl) ?_
            refine lv_iload C.1 C.2.1 dX10_roomAt_93 (lv_at hl 5 rfl) ?_
            refine r_icmp_ge C rfl rfl (tgt := 103) dX10_roomAt_95 (by decide) (fun h13 => ?_) (fun h13 => ?_)
            · replace hf := if_t hf h13
              refine lv_iload C.1 C.2.1 dX10_roomAt_98 (lv_at hl 0 rfl) ?_
              refine lv_goto C.1 C.2.1 (tgt := 105) dX10_roomAt_100 (by decide) ?_
              exact b_X10_roomAt_b105 C hend hk7 v1 v2 v3 v5 ((σ 52 (v5).toNat) - q11.1) S (lv_sub hl [1, 2, 3, 4, 6] rfl) hf
            · replace hf := if_f hf h13
              refine lv_iload C.1 C.2.1 dX10_roomAt_103 (lv_at hl 5 rfl) ?_
              exact b_X10_roomAt_b105 C hend hk7 v1 v2 v3 v5 v4 S (lv_sub hl [1, 2, 3, 4, 6] rfl) hf
          · replace hf := if_f hf h14
            refine lv_goto C.1 C.2.1 (tgt := 107) dX10_roomAt_70 (by decide) ?_
            exact b_X10_roomAt_b107 C hend hk7 v1 v2 v3 v4 v5 S (lv_sub hl [0, 1, 2, 3, 4, 5] rfl) hf
        · replace hf := if_f hf h15
          refine r_iconst C dX10_roomAt_45 ?_
          cases hf
          exact hend _ _ _ _ S dX10_roomAt_46
    · replace hf := if_f hf h17
      refine lv_iload C.1 C.2.1 dX10_roomAt_113 (lv_at hl 4 rfl) ?_
      cases hf
      exact hend _ _ _ _ S dX10_roomAt_115
set_option maxRecDepth 100000 in
set_option maxHeartbeats 4000000 in
theorem ct_X10_roomAt (l : Launch) (G : Gd) (τ : Sg) {v1 : Int} {v2 : Int} {v3 : Int} {σ : Sg} {q : Int × Sg} (hf : f_X10_roomAt v1 v2 v3 σ = some q) : Ctr l yX10_roomAt cX10_roomAt 7 (some .int) (rmk 4 121) G false τ [.ref (G.1 41), .int (oI v1), .int (oI v2), .int (oI v3)] σ q.2 (some (.int (oI q.1))) := by
  unfold f_X10_roomAt at hf
  refine CtrI.of (own := RX10) (plainFor_of_name (by decide)) (Nat.le_of_ble_eq_true rfl) rfl (fun p e s m below meth c Q ls C hl S hend => ?_)
  have hl : lv_has ls 7 [(0, .ref (G.1 41)), (1, .int (oI v1)), (2, .int (oI v2)), (3, .int (oI v3))] := hl
  refine r_ldc C tw_1248 dX10_roomAt_0 ?_
  refine lv_istore C.1 C.2.1 dX10_roomAt_2 hl (by decide) (lv' := [(4, .int (oI 99999)), (0, .ref (G.1 41)), (1, .int (oI v1)), (2, .int (oI v2)), (3, .int (oI v3))]) rfl (fun ls hl => ?_)
  refine r_iconst C dX10_roomAt_4 ?_
  refine lv_istore C.1 C.2.1 dX10_roomAt_5 hl (by decide) (lv' := [(5, .int (oI 0)), (4, .int (oI 99999)), (0, .ref (G.1 41)), (1, .int (oI v1)), (2, .int (oI v2)), (3, .int (oI v3))]) rfl (fun ls hl => ?_)
  exact b_X10_roomAt_b7 C hend FUEL v1 v2 v3 99999 0 S (lv_sub hl [2, 3, 4, 5, 1, 0] rfl) hf
set_option maxRecDepth 100000 in
set_option maxHeartbeats 4000000 in
theorem ct_X10_most (l : Launch) (G : Gd) (τ : Sg) {v1 : Int} {v2 : Int} {v3 : Int} {σ : Sg} {q : Int × Sg} (hf : f_X10_most v1 v2 v3 σ = some q) : Ctr l yX10_most cX10_most 5 (some .int) (rmk 5 147) G false τ [.ref (G.1 41), .int (oI v1), .int (oI v2), .int (oI v3)] σ q.2 (some (.int (oI q.1))) := by
  unfold f_X10_most at hf
  refine CtrI.of (own := RX10) (plainFor_of_name (by decide)) (Nat.le_of_ble_eq_true rfl) rfl (fun p e s m below meth c Q ls C hl S hend => ?_)
  have hl : lv_has ls 5 [(0, .ref (G.1 41)), (1, .int (oI v1)), (2, .int (oI v2)), (3, .int (oI v3))] := hl
  refine lv_aload_n C.1 C.2.1 dX10_most_0 rfl (lv_at hl 0 rfl) ?_
  refine r_iconst C dX10_most_1 ?_
  refine p10_thrown C S tw_1061 dX10_most_2 (fun H locs S => ?_)
  obtain ⟨σ1, S, hf⟩ := wr_s S hf
  refine lv_iload_n C.1 C.2.1 dX10_most_5 rfl (lv_at hl 1 rfl) ?_
  refine lv_iload_n C.1 C.2.1 dX10_most_6 rfl (lv_at hl 2 rfl) ?_
  obtain ⟨q2, hc3, hf⟩ := bd_o hf
  refine r_callSv C S (As := [.int (oI v1), .int (oI v2)]) (rest := []) (ct_X10_isPlace l G τ hc3) mi_X10_isPlace tw_1330 ms_X10_isPlace ⟨rfl, rfl⟩ ⟨Nat.le_of_ble_eq_true rfl, Nat.le_of_ble_eq_true rfl⟩ ⟨Nat.zero_le _, Nat.zero_le _⟩ rfl hl.1 rfl (Nat.le_of_ble_eq_true rfl) dX10_most_7 (fun H locs S => ?_)
  refine r_if_eq C rfl (tgt := 20) dX10_most_10 (by decide) (fun h10 => ?_) (fun h10 => ?_)
  · replace hf := if_t hf h10
    refine r_iconst C dX10_most_20 ?_
    cases hf
    exact hend _ _ _ _ S dX10_most_21
  · replace hf := if_f hf h10
    refine lv_iload_n C.1 C.2.1 dX10_most_13 rfl (lv_at hl 3 rfl) ?_
    obtain ⟨q4, hc5, hf⟩ := bd_o hf
    refine r_callSv C S (As := [.int (oI v3)]) (rest := []) (ct_X10_isPeril l G τ hc5) mi_X10_isPeril tw_1336 ms_X10_isPeril ⟨rfl, rfl⟩ ⟨Nat.le_of_ble_eq_true rfl, Nat.le_of_ble_eq_true rfl⟩ ⟨Nat.zero_le _, Nat.zero_le _⟩ rfl hl.1 rfl (Nat.le_of_ble_eq_true rfl) dX10_most_14 (fun H locs S => ?_)
    refine r_if_ne C rfl (tgt := 22) dX10_most_17 (by decide) (fun h9 => ?_) (fun h9 => ?_)
    · replace hf := if_t hf h9
      refine r_iconst C dX10_most_20 ?_
      cases hf
      exact hend _ _ _ _ S dX10_most_21
    · replace hf := if_f hf h9
      refine lv_aload_n C.1 C.2.1 dX10_most_22 rfl (lv_at hl 0 rfl) ?_
      refine lv_iload_n C.1 C.2.1 dX10_most_23 rfl (lv_at hl 1 rfl) ?_
      refine lv_iload_n C.1 C.2.1 dX10_most_24 rfl (lv_at hl 2 rfl) ?_
      refine lv_iload_n C.1 C.2.1 dX10_most_25 rfl (lv_at hl 3 rfl) ?_
      obtain ⟨q6, hc7, hf⟩ := bd_o hf
      refine r_callVv C S (As := [.int (oI v1), .int (oI v2), .int (oI v3)]) (rest := []) (ct_X10_roomAt l G τ hc7) mi_X10_roomAt tw_1554 mv_X10_roomAt (rvX10 S) ⟨rfl, rfl⟩ ⟨Nat.le_of_ble_eq_true rfl, Nat.le_of_ble_eq_true rfl⟩ ⟨Nat.zero_le _, Nat.zero_le _⟩ rfl hl.1 rfl (Nat.le_of_ble_eq_true rfl) dX10_most_26 (fun H locs S => ?_)
      refine lv_istore C.1 C.2.1 dX10_most_29 hl (by decide) (lv' := [(4, .int (oI q6.1)), (0, .ref (G.1 41)), (1, .int (oI v1)), (2, .int (oI v2)), (3, .int (oI v3))]) rfl (fun ls hl => ?_)
      refine lv_iload C.1 C.2.1 dX10_most_31 (lv_at hl 0 rfl) ?_
      refine r_if_ge C rfl (tgt := 40) dX10_most_33 (by decide) (fun h8 => ?_) (fun h8 => ?_)
      · replace hf := if_t hf h8
        refine r_iconst C dX10_most_36 ?_
        refine lv_goto C.1 C.2.1 (tgt := 42) dX10_most_37 (by decide) ?_
        cases hf
        exact hend _ _ _ _ S dX10_most_42
      · replace hf := if_f hf h8
        refine lv_iload C.1 C.2.1 dX10_most_40 (lv_at hl 0 rfl) ?_
        cases hf
        exact hend _ _ _ _ S dX10_most_42
set_option maxRecDepth 100000 in
set_option maxHeartbeats 4000000 in
theorem b_X10_places_b64 (C : Cx p s m args c RX10 cX10_places 5) {q : Int × Sg} {k26 : Int → Int → Int → Int → Sg → Option (Int × Sg)} (hend : EndR p l e (rmk 5 147) s m args below meth c Q G false τ cX10_places .ireturn [.int (oI q.1)] q.2) (hk26 : ∀ {H : Heap} {locs : List Loc} {ls : Array Slot} {σ : Sg} (v1 : Int) (v2 : Int) (v3 : Int) (v4 : Int), St G false τ σ s H locs → lv_has ls 5 [(0, .ref (G.1 41)), (1, .int (oI v1)), (2, .int (oI v2)), (3, .int (oI v3)), (4, .int (oI v4))] → k26 v1 v2 v3 v4 σ = some q → W p l e (rmk 5 147) s m args below meth c H locs 0 0 Q (F0 m 26 ls [])) {H : Heap} {locs : List Loc} {ls : Array Slot} {σ : Sg} (v1 : Int) (v2 : Int) (v4 : Int) (w0 : Int) (w1 : Int) (S : St G false τ σ s H locs) (hl : lv_has ls 5 [(0, .ref (G.1 41)), (1, .int (oI v1)), (2, .int (oI v2)), (4, .int (oI v4))]) (hf : f_X10_places_b64 k26 v1 v2 v4 w0 w1 σ = some q) : W p l e (rmk 5 147) s m args below meth c H locs 0 0 Q (F0 m 64 ls [.int (oI w0), .int (oI w1)]) := by
  unfold f_X10_places_b64 at hf
  refine r_iadd C dX10_places_64 ?_
  refine lv_istore_n C.1 C.2.1 dX10_places_65 rfl hl (by decide) (lv' := [(3, .int (oI (w1 + w0))), (0, .ref (G.1 41)), (1, .int (oI v1)), (2, .int (oI v2)), (4, .int (oI v4))]) rfl (fun ls hl => ?_)
  refine r_iinc C dX10_places_66 hl (k := 4) rfl (by decide) (lv' := [(4, .int (oI (v4 + 1))), (3, .int (oI (w1 + w0))), (0, .ref (G.1 41)), (1, .int (oI v1)), (2, .int (oI v2))]) rfl (fun ls hl => ?_)
  refine lv_goto C.1 C.2.1 (tgt := 26) dX10_places_69 (by decide) ?_
  exact hk26 v1 v2 (w1 + w0) (v4 + 1) S (lv_sub hl [2, 3, 4, 1, 0] rfl) hf
set_option maxRecDepth 100000 in
set_option maxHeartbeats 4000000 in
theorem b_X10_places_b26 (C : Cx p s m args c RX10 cX10_places 5) {q : Int × Sg} (hend : EndR p l e (rmk 5 147) s m args below meth c Q G false τ cX10_places .ireturn [.int (oI q.1)] q.2) : ∀ (n : Nat) {H : Heap} {locs : List Loc} {ls : Array Slot} {σ : Sg} (v1 : Int) (v2 : Int) (v3 : Int) (v4 : Int) (S : St G false τ σ s H locs) (hl : lv_has ls 5 [(0, .ref (G.1 41)), (1, .int (oI v1)), (2, .int (oI v2)), (3, .int (oI v3)), (4, .int (oI v4))]) (hf : f_X10_places_b26 n v1 v2 v3 v4 σ = some q), W p l e (rmk 5 147) s m args below meth c H locs 0 0 Q (F0 m 26 ls []) := by
  intro n
  induction n with
  | zero => intro H locs ls σ v1 v2 v3 v4 S hl hf; cases hf
  | succ n ih =>
    intro H locs ls σ v1 v2 v3 v4 S hl hf
    have hk26 := @ih
    rw [f_X10_places_b26] at hf
    refine lv_iload C.1 C.2.1 dX10_places_26 (lv_at hl 4 rfl) ?_
    refine r_bipush C dX10_places_28 (by decide) ?_
    refine r_icmp_ge C rfl (show w32 100 = 100 by decide) (tgt := 72) dX10_places_30 (by decide) (fun h11 => ?_) (fun h11 => ?_)
    · replace hf := if_t hf h11
      refine lv_iload_n C.1 C.2.1 dX10_places_33 rfl (lv_at hl 3 rfl) ?_
      refine lv_aload_n C.1 C.2.1 dX10_places_34 rfl (lv_at hl 0 rfl) ?_
      refine r_bipush C dX10_places_35 (by decide) ?_
      refine lv_iload C.1 C.2.1 dX10_places_37 (lv_at hl 4 rfl) ?_
      refine r_bipush C dX10_places_39 (by decide) ?_
      obtain ⟨hz6, hf⟩ := ck_o hf
      refine r_idiv C hz6 dX10_places_41 ?_
      refine r_imul C dX10_places_42 ?_
      refine r_bipush C dX10_places_43 (by decide) ?_
      refine lv_iload C.1 C.2.1 dX10_places_45 (lv_at hl 4 rfl) ?_
      refine r_bipush C dX10_places_47 (by decide) ?_
      obtain ⟨hz7, hf⟩ := ck_o hf
      refine r_irem C hz7 dX10_places_49 ?_
      refine r_imul C dX10_places_50 ?_
      refine lv_iload_n C.1 C.2.1 dX10_places_51 rfl (lv_at hl 2 rfl) ?_
      obtain ⟨q8, hc9, hf⟩ := bd_o hf
      refine r_callVv C S (As := [.int (oI (30 * ((w32 v4).tdiv (w32 10)))), .int (oI (30 * ((w32 v4).tmod (w32 10)))), .int (oI v2)]) (rest := [.int (oI v3)]) (ct_X10_roomAt l G τ hc9) mi_X10_roomAt tw_1554 mv_X10_roomAt (rvX10 S) ⟨rfl, rfl⟩ ⟨Nat.le_of_ble_eq_true rfl, Nat.le_of_ble_eq_true rfl⟩ ⟨Nat.zero_le _, Nat.zero_le _⟩ rfl hl.1 rfl (Nat.le_of_ble_eq_true rfl) dX10_places_52 (fun H locs S => ?_)
      refine lv_iload_n C.1 C.2.1 dX10_places_55 rfl (lv_at hl 1 rfl) ?_
      refine r_icmp_lt C rfl rfl (tgt := 63) dX10_places_56 (by decide) (fun h10 => ?_) (fun h10 => ?_)
      · replace hf := if_t hf h10
        refine r_iconst C dX10_places_63 ?_
        exact b_X10_places_b64 C hend hk26 v1 v2 v4 0 v3 S (lv_sub hl [0, 1, 2, 4] rfl) hf
      · replace hf := if_f hf h10
        refine r_iconst C dX10_places_59 ?_
        refine lv_goto C.1 C.2.1 (tgt := 64) dX10_places_60 (by decide) ?_
        exact b_X10_places_b64 C hend hk26 v1 v2 v4 1 v3 S (lv_sub hl [0, 1, 2, 4] rfl) hf
    · replace hf := if_f hf h11
      refine lv_iload_n C.1 C.2.1 dX10_places_72 rfl (lv_at hl 3 rfl) ?_
      cases hf
      exact hend _ _ _ _ S dX10_places_73
set_option maxRecDepth 100000 in
set_option maxHeartbeats 4000000 in
theorem ct_X10_places (l : Launch) (G : Gd) (τ : Sg) {v1 : Int} {v2 : Int} {σ : Sg} {q : Int × Sg} (hf : f_X10_places v1 v2 σ = some q) : Ctr l yX10_places cX10_places 5 (some .int) (rmk 5 147) G false τ [.ref (G.1 41), .int (oI v1), .int (oI v2)] σ q.2 (some (.int (oI q.1))) := by
  unfold f_X10_places at hf
  refine CtrI.of (own := RX10) (plainFor_of_name (by decide)) (Nat.le_of_ble_eq_true rfl) rfl (fun p e s m below meth c Q ls C hl S hend => ?_)
  have hl : lv_has ls 5 [(0, .ref (G.1 41)), (1, .int (oI v1)), (2, .int (oI v2))] := hl
  refine lv_aload_n C.1 C.2.1 dX10_places_0 rfl (lv_at hl 0 rfl) ?_
  refine r_iconst C dX10_places_1 ?_
  refine p10_thrown C S tw_1061 dX10_places_2 (fun H locs S => ?_)
  obtain ⟨σ1, S, hf⟩ := wr_s S hf
  refine lv_iload_n C.1 C.2.1 dX10_places_5 rfl (lv_at hl 1 rfl) ?_
  obtain ⟨q2, hc3, hf⟩ := bd_o hf
  refine r_callSv C S (As := [.int (oI v1)]) (rest := []) (ct_X10_isSum l G τ hc3) mi_X10_isSum tw_1333 ms_X10_isSum ⟨rfl, rfl⟩ ⟨Nat.le_of_ble_eq_true rfl, Nat.le_of_ble_eq_true rfl⟩ ⟨Nat.zero_le _, Nat.zero_le _⟩ rfl hl.1 rfl (Nat.le_of_ble_eq_true rfl) dX10_places_6 (fun H locs S => ?_)
  refine r_if_eq C rfl (tgt := 19) dX10_places_9 (by decide) (fun h13 => ?_) (fun h13 => ?_)
  · replace hf := if_t hf h13
    refine r_iconst C dX10_places_19 ?_
    cases hf
    exact hend _ _ _ _ S dX10_places_20
  · replace hf := if_f hf h13
    refine lv_iload_n C.1 C.2.1 dX10_places_12 rfl (lv_at hl 2 rfl) ?_
    obtain ⟨q4, hc5, hf⟩ := bd_o hf
    refine r_callSv C S (As := [.int (oI v2)]) (rest := []) (ct_X10_isPeril l G τ hc5) mi_X10_isPeril tw_1336 ms_X10_isPeril ⟨rfl, rfl⟩ ⟨Nat.le_of_ble_eq_true rfl, Nat.le_of_ble_eq_true rfl⟩ ⟨Nat.zero_le _, Nat.zero_le _⟩ rfl hl.1 rfl (Nat.le_of_ble_eq_true rfl) dX10_places_13 (fun H locs S => ?_)
    refine r_if_ne C rfl (tgt := 21) dX10_places_16 (by decide) (fun h12 => ?_) (fun h12 => ?_)
    · replace hf := if_t hf h12
      refine r_iconst C dX10_places_19 ?_
      cases hf
      exact hend _ _ _ _ S dX10_places_20
    · replace hf := if_f hf h12
      refine r_iconst C dX10_places_21 ?_
      refine lv_istore_n C.1 C.2.1 dX10_places_22 rfl hl (by decide) (lv' := [(3, .int (oI 0)), (0, .ref (G.1 41)), (1, .int (oI v1)), (2, .int (oI v2))]) rfl (fun ls hl => ?_)
      refine r_iconst C dX10_places_23 ?_
      refine lv_istore C.1 C.2.1 dX10_places_24 hl (by decide) (lv' := [(4, .int (oI 0)), (3, .int (oI 0)), (0, .ref (G.1 41)), (1, .int (oI v1)), (2, .int (oI v2))]) rfl (fun ls hl => ?_)
      exact b_X10_places_b26 C hend FUEL v1 v2 0 0 S (lv_sub hl [2, 3, 4, 1, 0] rfl) hf
set_option maxRecDepth 100000 in
set_option maxHeartbeats 4000000 in
theorem b_X10_relief_b121 (C : Cx p s m args c RX10 cX10_relief 8) {q : Int × Sg} {k53 : Int → Int → Int → Int → Int → Int → Int → Sg → Option (Int × Sg)} (hend : EndR p l e (rmk 4 119) s m args below meth c Q G false τ cX10_relief .ireturn [.int (oI q.1)] q.2) (hk53 : ∀ {H : Heap} {locs : List Loc} {ls : Array Slot} {σ : Sg} (v1 : Int) (v2 : Int) (v3 : Int) (v4 : Int) (v5 : Int) (v6 : Int) (v7 : Int), St G false τ σ s H locs → lv_has ls 8 [(0, .ref (G.1 41)), (1, .int (oI v1)), (2, .int (oI v2)), (3, .int (oI v3)), (4, .int (oI v4)), (5, .int (oI v5)), (6, .int (oI v6)), (7, .int (oI v7))] → k53 v1 v2 v3 v4 v5 v6 v7 σ = some q → W p l e (rmk 4 119) s m args below meth c H locs 0 0 Q (F0 m 53 ls [])) {H : Heap} {locs : List Loc} {ls : Array Slot} {σ : Sg} (v1 : Int) (v2 : Int) (v3 : Int) (v4 : Int) (v5 : Int) (v6 : Int) (v7 : Int) (S : St G false τ σ s H locs) (hl : lv_has ls 8 [(0, .ref (G.1 41)), (1, .int (oI v1)), (2, .int (oI v2)), (3, .int (oI v3)), (4, .int (oI v4)), (5, .int (oI v5)), (6, .int (oI v6)), (7, .int (oI v7))]) (hf : f_X10_relief_b121 k53 v1 v2 v3 v4 v5 v6 v7 σ = some q) : W p l e (rmk 4 119) s m args below meth c H locs 0 0 Q (F0 m 121 ls []) := by
  unfold f_X10_relief_b121 at hf
  refine r_iinc C dX10_relief_121 hl (k := 7) rfl (by decide) (lv' := [(7, .int (oI (v7 + 1))), (0, .ref (G.1 41)), (1, .int (oI v1)), (2, .int (oI v2)), (3, .int (oI v3)), (4, .int (oI v4)), (5, .int (oI v5)), (6, .int (oI v6))]) rfl (fun ls hl => ?_)
  refine lv_goto C.1 C.2.1 (tgt := 53) dX10_relief_124 (by decide) ?_
  exact hk53 v1 v2 v3 v4 v5 v6 (v7 + 1) S (lv_sub hl [1, 2, 3, 4, 5, 6, 7, 0] rfl) hf
set_option maxRecDepth 100000 in
set_option maxHeartbeats 4000000 in
theorem b_X10_relief_b111 (C : Cx p s m args c RX10 cX10_relief 8) {q : Int × Sg} {k53 : Int → Int → Int → Int → Int → Int → Int → Sg → Option (Int × Sg)} (hend : EndR p l e (rmk 4 119) s m args below meth c Q G false τ cX10_relief .ireturn [.int (oI q.1)] q.2) (hk53 : ∀ {H : Heap} {locs : List Loc} {ls : Array Slot} {σ : Sg} (v1 : Int) (v2 : Int) (v3 : Int) (v4 : Int) (v5 : Int) (v6 : Int) (v7 : Int), St G false τ σ s H locs → lv_has ls 8 [(0, .ref (G.1 41)), (1, .int (oI v1)), (2, .int (oI v2)), (3, .int (oI v3)), (4, .int (oI v4)), (5, .int (oI v5)), (6, .int (oI v6)), (7, .int (oI v7))] → k53 v1 v2 v3 v4 v5 v6 v7 σ = some q → W p l e (rmk 4 119) s m args below meth c H locs 0 0 Q (F0 m 53 ls [])) {H : Heap} {locs : List Loc} {ls : Array Slot} {σ : Sg} (v1 : Int) (v2 : Int) (v3 : Int) (v4 : Int) (v7 : Int) (S : St G false τ σ s H locs) (hl : lv_has ls 8 [(0, .ref (G.1 41)), (1, .int (oI v1)), (2, .int (oI v2)), (3, .int (oI v3)), (4, .int (oI v4)), (7, .int (oI v7))]) (hf : f_X10_relief_b111 k53 v1 v2 v3 v4 v7 σ = some q) : W p l e (rmk 4 119) s m args below meth c H locs 0 0 Q (F0 m 111 ls []) := by
  unfold f_X10_relief_b111 at hf
  refine lv_iload C.1 C.2.1 dX10_relief_111 (lv_at hl 5 rfl) ?_
  refine lv_istore C.1 C.2.1 dX10_relief_113 hl (by decide) (lv' := [(5, .int (oI v7)), (0, .ref (G.1 41)), (1, .int (oI v1)), (2, .int (oI v2)), (3, .int (oI v3)), (4, .int (oI v4)), (7, .int (oI v7))]) rfl (fun ls hl => ?_)
  refine lv_aload_n C.1 C.2.1 dX10_relief_115 rfl (lv_at hl 1 rfl) ?_
  refine g10_bestSum C S tw_1097 dX10_relief_116 ?_
  refine lv_istore C.1 C.2.1 dX10_relief_119 hl (by decide) (lv' := [(6, .int (oI (σ 41 36))), (5, .int (oI v7)), (0, .ref (G.1 41)), (1, .int (oI v1)), (2, .int (oI v2)), (3, .int (oI v3)), (4, .int (oI v4)), (7, .int (oI v7))]) rfl (fun ls hl => ?_)
  exact b_X10_relief_b121 C hend hk53 v1 v2 v3 v4 v7 (σ 41 36) v7 S (lv_sub hl [2, 3, 4, 5, 6, 1, 0, 7] rfl) hf
set_option maxRecDepth 100000 in
set_option maxHeartbeats 4000000 in
theorem b_X10_relief_b127 (C : Cx p s m args c RX10 cX10_relief 8) {q : Int × Sg} (hend : EndR p l e (rmk 4 119) s m args below meth c Q G false τ cX10_relief .ireturn [.int (oI q.1)] q.2) {H : Heap} {locs : List Loc} {ls : Array Slot} {σ : Sg} (v2 : Int) (v5 : Int) (v6 : Int) (S : St G false τ σ s H locs) (hl : lv_has ls 8 [(2, .int (oI v2)), (5, .int (oI v5)), (6, .int (oI v6))]) (hf : f_X10_relief_b127 v2 v5 v6 σ = some q) : W p l e (rmk 4 119) s m args below meth c H locs 0 0 Q (F0 m 127 ls []) := by
  unfold f_X10_relief_b127 at hf
  refine lv_iload_n C.1 C.2.1 dX10_relief_127 rfl (lv_at hl 0 rfl) ?_
  refine r_if_ne C rfl (tgt := 136) dX10_relief_128 (by decide) (fun h16 => ?_) (fun h16 => ?_)
  · replace hf := if_t hf h16
    refine lv_iload C.1 C.2.1 dX10_relief_131 (lv_at hl 1 rfl) ?_
    refine lv_goto C.1 C.2.1 (tgt := 138) dX10_relief_133 (by decide) ?_
    cases hf
    exact hend _ _ _ _ S dX10_relief_138
  · replace hf := if_f hf h16
    refine lv_iload C.1 C.2.1 dX10_relief_136 (lv_at hl 2 rfl) ?_
    cases hf
    exact hend _ _ _ _ S dX10_relief_138
set_option maxRecDepth 100000 in
set_option maxHeartbeats 4000000 in
theorem b_X10_relief_b53 (C : Cx p s m args c RX10 cX10_relief 8) {q : Int × Sg} (hend : EndR p l e (rmk 4 119) s m args below meth c Q G false τ cX10_relief .ireturn [.int (oI q.1)] q.2) : ∀ (n : Nat) {H : Heap} {locs : List Loc} {ls : Array Slot} {σ : Sg} (v1 : Int) (v2 : Int) (v3 : Int) (v4 : Int) (v5 : Int) (v6 : Int) (v7 : Int) (S : St G false τ σ s H locs) (hl : lv_has ls 8 [(0, .ref (G.1 41)), (1, .int (oI v1)), (2, .int (oI v2)), (3, .int (oI v3)), (4, .int (oI v4)), (5, .int (oI v5)), (6, .int (oI v6)), (7, .int (oI v7))]) (hf : f_X10_relief_b53 n v1 v2 v3 v4 v5 v6 v7 σ = some q), W p l e (rmk 4 119) s m args below meth c H locs 0 0 Q (F0 m 53 ls []) := by
  intro n
  induction n with
  | zero => intro H locs ls σ v1 v2 v3 v4 v5 v6 v7 S hl hf; cases hf
  | succ n ih =>
    intro H locs ls σ v1 v2 v3 v4 v5 v6 v7 S hl hf
    have hk53 := @ih
    rw [f_X10_relief_b53] at hf
    refine lv_iload C.1 C.2.1 dX10_relief_53 (lv_at hl 7 rfl) ?_
    refine r_bipush C dX10_relief_55 (by decide) ?_
    refine r_icmp_ge C rfl (show w32 24 = 24 by decide) (tgt := 127) dX10_relief_57 (by decide) (fun h17 => ?_) (fun h17 => ?_)
    · replace hf := if_t hf h17
      refine lv_iload_n C.1 C.2.1 dX10_relief_60 rfl (lv_at hl 3 rfl) ?_
      refine lv_iload C.1 C.2.1 dX10_relief_61 (lv_at hl 7 rfl) ?_
      obtain ⟨q8, hc9, hf⟩ := bd_o hf
      refine r_callSv C S (As := [.int (oI v3), .int (oI v7)]) (rest := []) (ct_X10_has l G τ hc9) mi_X10_has tw_1285 ms_X10_has ⟨rfl, rfl⟩ ⟨Nat.le_of_ble_eq_true rfl, Nat.le_of_ble_eq_true rfl⟩ ⟨Nat.zero_le _, Nat.zero_le _⟩ rfl hl.1 rfl (Nat.le_of_ble_eq_true rfl) dX10_relief_63 (fun H locs S => ?_)
      refine r_if_ne C rfl (tgt := 72) dX10_relief_66 (by decide) (fun h15 => ?_) (fun h15 => ?_)
      · replace hf := if_t hf h15
        refine lv_goto C.1 C.2.1 (tgt := 121) dX10_relief_69 (by decide) ?_
        exact b_X10_relief_b121 C hend hk53 v1 v2 v3 v4 v5 v6 v7 S (lv_sub hl [0, 1, 2, 3, 4, 5, 6, 7] rfl) hf
      · replace hf := if_f hf h15
        refine lv_aload_n C.1 C.2.1 dX10_relief_72 rfl (lv_at hl 0 rfl) ?_
        refine lv_iload C.1 C.2.1 dX10_relief_73 (lv_at hl 4 rfl) ?_
        refine r_iconst C dX10_relief_75 ?_
        refine lv_iload C.1 C.2.1 dX10_relief_76 (lv_at hl 7 rfl) ?_
        refine r_ishl C (y1 := (u32 v7 % 32)) rfl dX10_relief_78 ?_
        refine r_iconst C dX10_relief_79 ?_
        refine r_ixor C rfl (show u32 (-1) = 4294967295 by decide) dX10_relief_80 ?_
        refine r_iand C rfl (u32_nat (nb_xor (u32_lt _) (show 4294967295 < 4294967296 by decide))) dX10_relief_81 ?_
        refine lv_aload_n C.1 C.2.1 dX10_relief_82 rfl (lv_at hl 0 rfl) ?_
        refine g10_radius C S tw_1084 dX10_relief_83 ?_
        refine lv_iload_n C.1 C.2.1 dX10_relief_86 rfl (lv_at hl 1 rfl) ?_
        obtain ⟨hi10, hf⟩ := ck_o hf
        refine a_iald C S ar_51 hi10 dX10_relief_87 ?_
        refine r_iconst C dX10_relief_88 ?_
        obtain ⟨q11, hc12, hf⟩ := bd_o hf
        refine r_callVn C S (As := [.int (oI ((((u32 v4) &&& ((u32 (1 * ((2 ^ (u32 v7 % 32) : Nat) : Int))) ^^^ 4294967295) : Nat) : Int))), .int (oI (σ 51 (v1).toNat)), .int (oI ((-1)))]) (rest := []) (ct_X10_weighs l G τ hc12) mi_X10_weighs tw_1288 mv_X10_weighs (rvX10 S) ⟨rfl, rfl⟩ ⟨Nat.le_of_ble_eq_true rfl, Nat.le_of_ble_eq_true rfl⟩ ⟨Nat.zero_le _, Nat.zero_le _⟩ rfl hl.1 rfl (Nat.le_of_ble_eq_true rfl) dX10_relief_89 (fun H locs S => ?_)
        refine lv_iload C.1 C.2.1 dX10_relief_92 (lv_at hl 5 rfl) ?_
        refine r_bipush C dX10_relief_94 (by decide) ?_
        refine r_icmp_eq C rfl (show w32 (-2) = (-2) by decide) (tgt := 111) dX10_relief_96 (by decide) (fun h14 => ?_) (fun h14 => ?_)
        · replace hf := if_t hf h14
          exact b_X10_relief_b111 C hend hk53 v1 v2 v3 v4 v7 S (lv_sub hl [0, 1, 2, 3, 4, 7] rfl) hf
        · replace hf := if_f hf h14
          refine lv_aload_n C.1 C.2.1 dX10_relief_99 rfl (lv_at hl 0 rfl) ?_
          refine g10_bestSum C S tw_1097 dX10_relief_100 ?_
          refine lv_iload C.1 C.2.1 dX10_relief_103 (lv_at hl 6 rfl) ?_
          refine r_icmp_lt C rfl rfl (tgt := 111) dX10_relief_105 (by decide) (fun h13 => ?_) (fun h13 => ?_)
          · replace hf := if_t hf h13
            exact b_X10_relief_b111 C hend hk53 v1 v2 v3 v4 v7 S (lv_sub hl [0, 1, 2, 3, 4, 7] rfl) hf
          · replace hf := if_f hf h13
            refine lv_goto C.1 C.2.1 (tgt := 121) dX10_relief_108 (by decide) ?_
            exact b_X10_relief_b121 C hend hk53 v1 v2 v3 v4 v5 v6 v7 S (lv_sub hl [0, 1, 2, 3, 4, 5, 6, 7] rfl) hf
    · replace hf := if_f hf h17
      exact b_X10_relief_b127 C hend v2 v5 v6 S (lv_sub hl [2, 5, 6] rfl) hf
set_option maxRecDepth 100000 in
set_option maxHeartbeats 4000000 in
theorem ct_X10_relief (l : Launch) (G : Gd) (τ : Sg) {v1 : Int} {v2 : Int} {σ : Sg} {q : Int × Sg} (hf : f_X10_relief v1 v2 σ = some q) : Ctr l yX10_relief cX10_relief 8 (some .int) (rmk 4 119) G false τ [.ref (G.1 41), .int (oI v1), .int (oI v2)] σ q.2 (some (.int (oI q.1))) := by
  unfold f_X10_relief at hf
  refine CtrI.of (own := RX10) (plainFor_of_name (by decide)) (Nat.le_of_ble_eq_true rfl) rfl (fun p e s m below meth c Q ls C hl S hend => ?_)
  have hl : lv_has ls 8 [(0, .ref (G.1 41)), (1, .int (oI v1)), (2, .int (oI v2))] := hl
  refine lv_aload_n C.1 C.2.1 dX10_relief_0 rfl (lv_at hl 0 rfl) ?_
  refine r_iconst C dX10_relief_1 ?_
  refine p10_thrown C S tw_1061 dX10_relief_2 (fun H locs S => ?_)
  obtain ⟨σ1, S, hf⟩ := wr_s S hf
  refine lv_aload_n C.1 C.2.1 dX10_relief_5 rfl (lv_at hl 0 rfl) ?_
  refine lv_iload_n C.1 C.2.1 dX10_relief_6 rfl (lv_at hl 1 rfl) ?_
  obtain ⟨q2, hc3, hf⟩ := bd_o hf
  refine r_callVv C S (As := [.int (oI v1)]) (rest := []) (ct_X10_isTreaty l G τ hc3) mi_X10_isTreaty tw_1373 mv_X10_isTreaty (rvX10 S) ⟨rfl, rfl⟩ ⟨Nat.le_of_ble_eq_true rfl, Nat.le_of_ble_eq_true rfl⟩ ⟨Nat.zero_le _, Nat.zero_le _⟩ rfl hl.1 rfl (Nat.le_of_ble_eq_true rfl) dX10_relief_7 (fun H locs S => ?_)
  refine r_if_eq C rfl (tgt := 22) dX10_relief_10 (by decide) (fun h20 => ?_) (fun h20 => ?_)
  · replace hf := if_t hf h20
    refine r_iconst C dX10_relief_22 ?_
    cases hf
    exact hend _ _ _ _ S dX10_relief_23
  · replace hf := if_f hf h20
    refine lv_iload_n C.1 C.2.1 dX10_relief_13 rfl (lv_at hl 2 rfl) ?_
    refine r_if_lt C rfl (tgt := 22) dX10_relief_14 (by decide) (fun h19 => ?_) (fun h19 => ?_)
    · replace hf := if_t hf h19
      refine r_iconst C dX10_relief_22 ?_
      cases hf
      exact hend _ _ _ _ S dX10_relief_23
    · replace hf := if_f hf h19
      refine lv_iload_n C.1 C.2.1 dX10_relief_17 rfl (lv_at hl 2 rfl) ?_
      refine r_iconst C dX10_relief_18 ?_
      refine r_icmp_le C rfl (show w32 1 = 1 by decide) (tgt := 24) dX10_relief_19 (by decide) (fun h18 => ?_) (fun h18 => ?_)
      · replace hf := if_t hf h18
        refine lv_aload_n C.1 C.2.1 dX10_relief_24 rfl (lv_at hl 0 rfl) ?_
        refine lv_iload_n C.1 C.2.1 dX10_relief_25 rfl (lv_at hl 1 rfl) ?_
        obtain ⟨q4, hc5, hf⟩ := bd_o hf
        refine r_callVv C S (As := [.int (oI v1)]) (rest := []) (ct_X10_worstOf l G τ hc5) mi_X10_worstOf tw_1273 mv_X10_worstOf (rvX10 S) ⟨rfl, rfl⟩ ⟨Nat.le_of_ble_eq_true rfl, Nat.le_of_ble_eq_true rfl⟩ ⟨Nat.zero_le _, Nat.zero_le _⟩ rfl hl.1 rfl (Nat.le_of_ble_eq_true rfl) dX10_relief_26 (fun H locs S => ?_)
        refine lv_pop C.1 C.2.1 dX10_relief_29 rfl ?_
        refine lv_aload_n C.1 C.2.1 dX10_relief_30 rfl (lv_at hl 0 rfl) ?_
        refine g10_bestSet C S tw_1098 dX10_relief_31 ?_
        refine lv_istore_n C.1 C.2.1 dX10_relief_34 rfl hl (by decide) (lv' := [(3, .int (oI (q4.2 41 37))), (0, .ref (G.1 41)), (1, .int (oI v1)), (2, .int (oI v2))]) rfl (fun ls hl => ?_)
        refine lv_aload_n C.1 C.2.1 dX10_relief_35 rfl (lv_at hl 1 rfl) ?_
        refine lv_iload_n C.1 C.2.1 dX10_relief_36 rfl (lv_at hl 2 rfl) ?_
        obtain ⟨q6, hc7, hf⟩ := bd_o hf
        refine r_callVv C S (As := [.int (oI v1)]) (rest := []) (ct_X10_ofTreaty l G τ hc7) mi_X10_ofTreaty tw_1277 mv_X10_ofTreaty (rvX10 S) ⟨rfl, rfl⟩ ⟨Nat.le_of_ble_eq_true rfl, Nat.le_of_ble_eq_true rfl⟩ ⟨Nat.zero_le _, Nat.zero_le _⟩ rfl hl.1 rfl (Nat.le_of_ble_eq_true rfl) dX10_relief_37 (fun H locs S => ?_)
        refine lv_istore C.1 C.2.1 dX10_relief_40 hl (by decide) (lv' := [(4, .int (oI q6)), (3, .int (oI (q4.2 41 37))), (0, .ref (G.1 41)), (1, .int (oI v1)), (2, .int (oI v2))]) rfl (fun ls hl => ?_)
        refine r_bipush C dX10_relief_42 (by decide) ?_
        refine lv_istore C.1 C.2.1 dX10_relief_44 hl (by decide) (lv' := [(5, .int (oI ((-2)))), (4, .int (oI q6)), (3, .int (oI (q4.2 41 37))), (0, .ref (G.1 41)), (1, .int (oI v1)), (2, .int (oI v2))]) rfl (fun ls hl => ?_)
        refine r_bipush C dX10_relief_46 (by decide) ?_
        refine lv_istore C.1 C.2.1 dX10_relief_48 hl (by decide) (lv' := [(6, .int (oI ((-2)))), (5, .int (oI ((-2)))), (4, .int (oI q6)), (3, .int (oI (q4.2 41 37))), (0, .ref (G.1 41)), (1, .int (oI v1)), (2, .int (oI v2))]) rfl (fun ls hl => ?_)
        refine r_iconst C dX10_relief_50 ?_
        refine lv_istore C.1 C.2.1 dX10_relief_51 hl (by decide) (lv' := [(7, .int (oI 0)), (6, .int (oI ((-2)))), (5, .int (oI ((-2)))), (4, .int (oI q6)), (3, .int (oI (q4.2 41 37))), (0, .ref (G.1 41)), (1, .int (oI v1)), (2, .int (oI v2))]) rfl (fun ls hl => ?_)
        exact b_X10_relief_b53 C hend FUEL v1 v2 (q4.2 41 37) q6 ((-2)) ((-2)) 0 S (lv_sub hl [5, 6, 7, 4, 3, 2, 1, 0] rfl) hf
      · replace hf := if_f hf h18
        refine r_iconst C dX10_relief_22 ?_
        cases hf
        exact hend _ _ _ _ S dX10_relief_23
end WK
