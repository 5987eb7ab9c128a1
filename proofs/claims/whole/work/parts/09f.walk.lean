section WK
variable {p : Program} {l : Launch} {e : Env} {s : State} {m : MethodId} {args : Array Value} {below : List Frame} {meth : Method} {c : Code} {Q : State → Prop} {G : Gd} {b : Bool} {τ σ : Sg}
set_option maxRecDepth 100000 in
set_option maxHeartbeats 4000000 in
theorem b_X10_sumOf_b29 (C : Cx p s m args c RX10 cX10_sumOf 4) {q : Int} {k4 : Int → Int → Int → Option (Int)} (hend : EndR p l e (rmk 1 21) s m args below meth c Q G false τ cX10_sumOf .ireturn [.int (oI q)] σ) (hk4 : ∀ {H : Heap} {locs : List Loc} {ls : Array Slot} (v1 : Int) (v2 : Int) (v3 : Int), St G false τ σ s H locs → lv_has ls 4 [(0, .ref (G.1 41)), (1, .int (oI v1)), (2, .int (oI v2)), (3, .int (oI v3))] → k4 v1 v2 v3 = some q → W p l e (rmk 1 21) s m args below meth c H locs 0 0 Q (F0 m 4 ls [])) {H : Heap} {locs : List Loc} {ls : Array Slot} (v1 : Int) (v3 : Int) (w0 : Int) (w1 : Int) (S : St G false τ σ s H locs) (hl : lv_has ls 4 [(0, .ref (G.1 41)), (1, .int (oI v1)), (3, .int (oI v3))]) (hf : f_X10_sumOf_b29 σ k4 v1 v3 w0 w1 = some q) : W p l e (rmk 1 21) s m args below meth c H locs 0 0 Q (F0 m 29 ls [.int (oI w0), .int (oI w1)]) := by
  unfold f_X10_sumOf_b29 at hf
  refine r_iadd C dX10_sumOf_29 ?_
  refine lv_istore_n C.1 C.2.1 dX10_sumOf_30 rfl hl (by decide) (lv' := [(2, .int (oI (w1 + w0))), (0, .ref (G.1 41)), (1, .int (oI v1)), (3, .int (oI v3))]) rfl (fun ls hl => ?_)
  refine r_iinc C dX10_sumOf_31 hl (k := 3) rfl (by decide) (lv' := [(3, .int (oI (v3 + 1))), (2, .int (oI (w1 + w0))), (0, .ref (G.1 41)), (1, .int (oI v1))]) rfl (fun ls hl => ?_)
  refine lv_goto C.1 C.2.1 (tgt := 4) dX10_sumOf_34 (by decide) ?_
  exact hk4 v1 (w1 + w0) (v3 + 1) S (lv_sub hl [2, 3, 1, 0] rfl) hf
set_option maxRecDepth 100000 in
set_option maxHeartbeats 4000000 in
theorem b_X10_sumOf_b4 (C : Cx p s m args c RX10 cX10_sumOf 4) {q : Int} (hend : EndR p l e (rmk 1 21) s m args below meth c Q G false τ cX10_sumOf .ireturn [.int (oI q)] σ) : ∀ (n : Nat) {H : Heap} {locs : List Loc} {ls : Array Slot} (v1 : Int) (v2 : Int) (v3 : Int) (S : St G false τ σ s H locs) (hl : lv_has ls 4 [(0, .ref (G.1 41)), (1, .int (oI v1)), (2, .int (oI v2)), (3, .int (oI v3))]) (hf : f_X10_sumOf_b4 σ n v1 v2 v3 = some q), W p l e (rmk 1 21) s m args below meth c H locs 0 0 Q (F0 m 4 ls []) := by
  intro n
  induction n with
  | zero => intro H locs ls v1 v2 v3 S hl hf; cases hf
  | succ n ih =>
    intro H locs ls v1 v2 v3 S hl hf
    have hk4 := @ih
    rw [f_X10_sumOf_b4] at hf
    refine lv_iload_n C.1 C.2.1 dX10_sumOf_4 rfl (lv_at hl 3 rfl) ?_
    refine r_bipush C dX10_sumOf_5 (by decide) ?_
    refine r_icmp_gt C rfl (show w32 24 = 24 by decide) (tgt := 37) dX10_sumOf_7 (by decide) (fun h5 => ?_) (fun h5 => ?_)
    · replace hf := if_t hf h5
      refine lv_iload_n C.1 C.2.1 dX10_sumOf_10 rfl (lv_at hl 2 rfl) ?_
      refine lv_iload_n C.1 C.2.1 dX10_sumOf_11 rfl (lv_at hl 1 rfl) ?_
      refine lv_iload_n C.1 C.2.1 dX10_sumOf_12 rfl (lv_at hl 3 rfl) ?_
      obtain ⟨q1, hc2, hf⟩ := bd_o hf
      refine r_callSv C S (As := [.int (oI v1), .int (oI v3)]) (rest := [.int (oI v2)]) (ct_X10_has l G τ hc2) mi_X10_has tw_1285 ms_X10_has ⟨rfl, rfl⟩ ⟨Nat.le_of_ble_eq_true rfl, Nat.le_of_ble_eq_true rfl⟩ ⟨Nat.zero_le _, Nat.zero_le _⟩ rfl hl.1 rfl (Nat.le_of_ble_eq_true rfl) dX10_sumOf_13 (fun H locs S => ?_)
      refine r_if_eq C rfl (tgt := 28) dX10_sumOf_16 (by decide) (fun h4 => ?_) (fun h4 => ?_)
      · replace hf := if_t hf h4
        refine r_iconst C dX10_sumOf_28 ?_
        exact b_X10_sumOf_b29 C hend hk4 v1 v3 0 v2 S (lv_sub hl [0, 1, 3] rfl) hf
      · replace hf := if_f hf h4
        refine lv_aload_n C.1 C.2.1 dX10_sumOf_19 rfl (lv_at hl 0 rfl) ?_
        refine g10_sum C S tw_1080 dX10_sumOf_20 ?_
        refine lv_iload_n C.1 C.2.1 dX10_sumOf_23 rfl (lv_at hl 3 rfl) ?_
        obtain ⟨hi3, hf⟩ := ck_o hf
        refine a_iald C S ar_47 hi3 dX10_sumOf_24 ?_
        refine lv_goto C.1 C.2.1 (tgt := 29) dX10_sumOf_25 (by decide) ?_
        exact b_X10_sumOf_b29 C hend hk4 v1 v3 (σ 47 (v3).toNat) v2 S (lv_sub hl [0, 1, 3] rfl) hf
    · replace hf := if_f hf h5
      refine lv_iload_n C.1 C.2.1 dX10_sumOf_37 rfl (lv_at hl 2 rfl) ?_
      cases hf
      exact hend _ _ _ _ S dX10_sumOf_38
set_option maxRecDepth 100000 in
set_option maxHeartbeats 4000000 in
theorem ct_X10_sumOf (l : Launch) (G : Gd) (τ : Sg) {v1 : Int} {σ : Sg} {q : Int} (hf : f_X10_sumOf v1 σ = some q) : Ctr l yX10_sumOf cX10_sumOf 4 (some .int) (rmk 1 21) G false τ [.ref (G.1 41), .int (oI v1)] σ σ (some (.int (oI q))) := by
  unfold f_X10_sumOf at hf
  refine CtrI.of (own := RX10) (plainFor_of_name (by decide)) (Nat.le_of_ble_eq_true rfl) rfl (fun p e s m below meth c Q ls C hl S hend => ?_)
  have hl : lv_has ls 4 [(0, .ref (G.1 41)), (1, .int (oI v1))] := hl
  refine r_iconst C dX10_sumOf_0 ?_
  refine lv_istore_n C.1 C.2.1 dX10_sumOf_1 rfl hl (by decide) (lv' := [(2, .int (oI 0)), (0, .ref (G.1 41)), (1, .int (oI v1))]) rfl (fun ls hl => ?_)
  refine r_iconst C dX10_sumOf_2 ?_
  refine lv_istore_n C.1 C.2.1 dX10_sumOf_3 rfl hl (by decide) (lv' := [(3, .int (oI 0)), (2, .int (oI 0)), (0, .ref (G.1 41)), (1, .int (oI v1))]) rfl (fun ls hl => ?_)
  exact b_X10_sumOf_b4 C hend FUEL v1 0 0 S (lv_sub hl [2, 3, 1, 0] rfl) hf
set_option maxRecDepth 100000 in
set_option maxHeartbeats 4000000 in
theorem b_X10_notes_57_b26 (C : Cx p s m args c RX10 cX10_notes 5) {q : Sg} (hend : EndR p l e (rmk 0 0) s m args below meth c Q G false τ cX10_notes .return_ [] q) {H : Heap} {locs : List Loc} {ls : Array Slot} {σ : Sg} (v1 : Int) (v2 : Int) (v3 : Int) (S : St G false τ σ s H locs) (hl : lv_has ls 5 [(0, .ref (G.1 57)), (1, .int (oI v1)), (2, .int (oI v2)), (3, .int (oI v3))]) (hf : f_X10_notes_57_b26 v1 v2 v3 σ = some q) : W p l e (rmk 0 0) s m args below meth c H locs 0 0 Q (F0 m 26 ls []) := by
  unfold f_X10_notes_57_b26 at hf
  refine lv_aload_n C.1 C.2.1 dX10_notes_26 rfl (lv_at hl 0 rfl) ?_
  refine r_iconst C dX10_notes_27 ?_
  refine lv_iload_n C.1 C.2.1 dX10_notes_28 rfl (lv_at hl 1 rfl) ?_
  refine a_iast C S ar_57 (by decide) dX10_notes_29 (fun H locs S => ?_)
  obtain ⟨σ1, S, hf⟩ := wr_s S hf
  refine lv_aload_n C.1 C.2.1 dX10_notes_30 rfl (lv_at hl 0 rfl) ?_
  refine r_iconst C dX10_notes_31 ?_
  refine lv_iload_n C.1 C.2.1 dX10_notes_32 rfl (lv_at hl 2 rfl) ?_
  refine a_iast C S ar_57 (by decide) dX10_notes_33 (fun H locs S => ?_)
  obtain ⟨σ2, S, hf⟩ := wr_s S hf
  refine lv_aload_n C.1 C.2.1 dX10_notes_34 rfl (lv_at hl 0 rfl) ?_
  refine r_iconst C dX10_notes_35 ?_
  refine lv_iload_n C.1 C.2.1 dX10_notes_36 rfl (lv_at hl 3 rfl) ?_
  refine a_iast C S ar_57 (by decide) dX10_notes_37 (fun H locs S => ?_)
  obtain ⟨σ3, S, hf⟩ := wr_s S hf
  cases hf
  exact hend _ _ _ _ S dX10_notes_38
set_option maxRecDepth 100000 in
set_option maxHeartbeats 4000000 in
theorem b_X10_notes_57_b4 (C : Cx p s m args c RX10 cX10_notes 5) {q : Sg} (hend : EndR p l e (rmk 0 0) s m args below meth c Q G false τ cX10_notes .return_ [] q) : ∀ (n : Nat) {H : Heap} {locs : List Loc} {ls : Array Slot} {σ : Sg} (v1 : Int) (v2 : Int) (v3 : Int) (v4 : Int) (S : St G false τ σ s H locs) (hl : lv_has ls 5 [(0, .ref (G.1 57)), (1, .int (oI v1)), (2, .int (oI v2)), (3, .int (oI v3)), (4, .int (oI v4))]) (hf : f_X10_notes_57_b4 n v1 v2 v3 v4 σ = some q), W p l e (rmk 0 0) s m args below meth c H locs 0 0 Q (F0 m 4 ls []) := by
  intro n
  induction n with
  | zero => intro H locs ls σ v1 v2 v3 v4 S hl hf; cases hf
  | succ n ih =>
    intro H locs ls σ v1 v2 v3 v4 S hl hf
    have hk4 := @ih
    rw [f_X10_notes_57_b4] at hf
    refine lv_iload C.1 C.2.1 dX10_notes_4 (lv_at hl 4 rfl) ?_
    refine r_iconst C dX10_notes_6 ?_
    refine r_icmp_lt C rfl (show w32 3 = 3 by decide) (tgt := 26) dX10_notes_7 (by decide) (fun h7 => ?_) (fun h7 => ?_)
    · replace hf := if_t hf h7
      exact b_X10_notes_57_b26 C hend v1 v2 v3 S (lv_sub hl [0, 1, 2, 3] rfl) hf
    · replace hf := if_f hf h7
      refine lv_aload_n C.1 C.2.1 dX10_notes_10 rfl (lv_at hl 0 rfl) ?_
      refine lv_iload C.1 C.2.1 dX10_notes_11 (lv_at hl 4 rfl) ?_
      refine lv_aload_n C.1 C.2.1 dX10_notes_13 rfl (lv_at hl 0 rfl) ?_
      refine lv_iload C.1 C.2.1 dX10_notes_14 (lv_at hl 4 rfl) ?_
      refine r_iconst C dX10_notes_16 ?_
      refine r_isub C dX10_notes_17 ?_
      obtain ⟨hi4, hf⟩ := ck_o hf
      refine a_iald C S ar_57 hi4 dX10_notes_18 ?_
      obtain ⟨hi5, hf⟩ := ck_o hf
      refine a_iast C S ar_57 hi5 dX10_notes_19 (fun H locs S => ?_)
      obtain ⟨σ6, S, hf⟩ := wr_s S hf
      refine r_iinc C dX10_notes_20 hl (k := 4) rfl (by decide) (lv' := [(4, .int (oI (v4 + (-1)))), (0, .ref (G.1 57)), (1, .int (oI v1)), (2, .int (oI v2)), (3, .int (oI v3))]) rfl (fun ls hl => ?_)
      refine lv_goto C.1 C.2.1 (tgt := 4) dX10_notes_23 (by decide) ?_
      exact hk4 v1 v2 v3 (v4 + (-1)) S (lv_sub hl [1, 2, 3, 4, 0] rfl) hf
set_option maxRecDepth 100000 in
set_option maxHeartbeats 4000000 in
theorem ct_X10_notes_57 (l : Launch) (G : Gd) (τ : Sg) {v1 : Int} {v2 : Int} {v3 : Int} {σ : Sg} {q : Sg} (hf : f_X10_notes_57 v1 v2 v3 σ = some q) : Ctr l yX10_notes cX10_notes 5 none (rmk 0 0) G false τ [.ref (G.1 57), .int (oI v1), .int (oI v2), .int (oI v3)] σ q none := by
  unfold f_X10_notes_57 at hf
  refine CtrV.of (own := RX10) (plainFor_of_name (by decide)) (Nat.le_of_ble_eq_true rfl) rfl (fun p e s m below meth c Q ls C hl S hend => ?_)
  have hl : lv_has ls 5 [(0, .ref (G.1 57)), (1, .int (oI v1)), (2, .int (oI v2)), (3, .int (oI v3))] := hl
  refine r_bipush C dX10_notes_0 (by decide) ?_
  refine lv_istore C.1 C.2.1 dX10_notes_2 hl (by decide) (lv' := [(4, .int (oI 89)), (0, .ref (G.1 57)), (1, .int (oI v1)), (2, .int (oI v2)), (3, .int (oI v3))]) rfl (fun ls hl => ?_)
  exact b_X10_notes_57_b4 C hend FUEL v1 v2 v3 89 S (lv_sub hl [1, 2, 3, 4, 0] rfl) hf
set_option maxRecDepth 100000 in
set_option maxHeartbeats 4000000 in
theorem b_X10_acted_b41 (C : Cx p s m args c RX10 cX10_acted 4) {q : Sg} (hend : EndR p l e (rmk 6 162) s m args below meth c Q G false τ cX10_acted .return_ [] q) {H : Heap} {locs : List Loc} {ls : Array Slot} {σ : Sg} (w0 : Int) (S : St G false τ σ s H locs) (hl : lv_has ls 4 [(0, .ref (G.1 41))]) (hf : f_X10_acted_b41 w0 σ = some q) : W p l e (rmk 6 162) s m args below meth c H locs 0 0 Q (F0 m 41 ls [.int (oI w0), .ref (G.1 41)]) := by
  unfold f_X10_acted_b41 at hf
  refine p10_actsLogged C S tw_1095 dX10_acted_41 (fun H locs S => ?_)
  obtain ⟨σ4, S, hf⟩ := wr_s S hf
  refine lv_aload_n C.1 C.2.1 dX10_acted_44 rfl (lv_at hl 0 rfl) ?_
  obtain ⟨q5, hc6, hf⟩ := bd_o hf
  refine r_callVn C S (As := []) (rest := []) (ct_X10_looks l G τ hc6) mi_X10_looks tw_1265 mv_X10_looks (rvX10 S) ⟨rfl, rfl⟩ ⟨Nat.le_of_ble_eq_true rfl, Nat.le_of_ble_eq_true rfl⟩ ⟨Nat.zero_le _, Nat.zero_le _⟩ rfl hl.1 rfl (Nat.le_of_ble_eq_true rfl) dX10_acted_45 (fun H locs S => ?_)
  cases hf
  exact hend _ _ _ _ S dX10_acted_48
set_option maxRecDepth 100000 in
set_option maxHeartbeats 4000000 in
theorem ct_X10_acted (l : Launch) (G : Gd) (τ : Sg) {v1 : Int} {v2 : Int} {v3 : Int} {σ : Sg} {q : Sg} (hf : f_X10_acted v1 v2 v3 σ = some q) : Ctr l yX10_acted cX10_acted 4 none (rmk 6 162) G false τ [.ref (G.1 41), .int (oI v1), .int (oI v2), .int (oI v3)] σ q none := by
  unfold f_X10_acted at hf
  refine CtrV.of (own := RX10) (plainFor_of_name (by decide)) (Nat.le_of_ble_eq_true rfl) rfl (fun p e s m below meth c Q ls C hl S hend => ?_)
  have hl : lv_has ls 4 [(0, .ref (G.1 41)), (1, .int (oI v1)), (2, .int (oI v2)), (3, .int (oI v3))] := hl
  refine lv_aload_n C.1 C.2.1 dX10_acted_0 rfl (lv_at hl 0 rfl) ?_
  refine lv_dup C.1 C.2.1 dX10_acted_1 rfl ?_
  refine g10_acts C S tw_1089 dX10_acted_2 ?_
  refine r_iconst C dX10_acted_5 ?_
  refine r_iadd C dX10_acted_6 ?_
  refine p10_acts C S tw_1089 dX10_acted_7 (fun H locs S => ?_)
  obtain ⟨σ1, S, hf⟩ := wr_s S hf
  refine lv_aload_n C.1 C.2.1 dX10_acted_10 rfl (lv_at hl 0 rfl) ?_
  refine g10_actLog C S tw_1094 dX10_acted_11 ?_
  refine lv_iload_n C.1 C.2.1 dX10_acted_14 rfl (lv_at hl 1 rfl) ?_
  refine lv_iload_n C.1 C.2.1 dX10_acted_15 rfl (lv_at hl 2 rfl) ?_
  refine lv_iload_n C.1 C.2.1 dX10_acted_16 rfl (lv_at hl 3 rfl) ?_
  obtain ⟨q2, hc3, hf⟩ := bd_o hf
  refine r_callSn C S (As := [.ref (G.1 57), .int (oI v1), .int (oI v2), .int (oI v3)]) (rest := []) (ct_X10_notes_57 l G τ hc3) mi_X10_notes tw_1319 ms_X10_notes ⟨rfl, rfl⟩ ⟨Nat.le_of_ble_eq_true rfl, Nat.le_of_ble_eq_true rfl⟩ ⟨Nat.zero_le _, Nat.zero_le _⟩ rfl hl.1 rfl (Nat.le_of_ble_eq_true rfl) dX10_acted_17 (fun H locs S => ?_)
  refine lv_aload_n C.1 C.2.1 dX10_acted_20 rfl (lv_at hl 0 rfl) ?_
  refine lv_aload_n C.1 C.2.1 dX10_acted_21 rfl (lv_at hl 0 rfl) ?_
  refine g10_actsLogged C S tw_1095 dX10_acted_22 ?_
  refine r_bipush C dX10_acted_25 (by decide) ?_
  refine r_icmp_ge C rfl (show w32 30 = 30 by decide) (tgt := 39) dX10_acted_27 (by decide) (fun h7 => ?_) (fun h7 => ?_)
  · replace hf := if_t hf h7
    refine lv_aload_n C.1 C.2.1 dX10_acted_30 rfl (lv_at hl 0 rfl) ?_
    refine g10_actsLogged C S tw_1095 dX10_acted_31 ?_
    refine r_iconst C dX10_acted_34 ?_
    refine r_iadd C dX10_acted_35 ?_
    refine lv_goto C.1 C.2.1 (tgt := 41) dX10_acted_36 (by decide) ?_
    exact b_X10_acted_b41 C hend ((q2 41 34) + 1) S (lv_sub hl [0] rfl) hf
  · replace hf := if_f hf h7
    refine r_bipush C dX10_acted_39 (by decide) ?_
    exact b_X10_acted_b41 C hend 30 S (lv_sub hl [0] rfl) hf
set_option maxRecDepth 100000 in
set_option maxHeartbeats 4000000 in
theorem ct_X10_isPolicy (l : Launch) (G : Gd) (τ : Sg) {v1 : Int} {σ : Sg} {q : Int} (hf : f_X10_isPolicy v1 σ = some q) : Ctr l yX10_isPolicy cX10_isPolicy 2 (some .boolean) (rmk 0 0) G false τ [.ref (G.1 41), .int (oI v1)] σ σ (some (.int (oI q))) := by
  unfold f_X10_isPolicy at hf
  refine CtrZ.of (own := RX10) (plainFor_of_name (by decide)) (Nat.le_of_ble_eq_true rfl) rfl (fun p e s m below meth c Q ls C hl S hend => ?_)
  have hl : lv_has ls 2 [(0, .ref (G.1 41)), (1, .int (oI v1))] := hl
  refine lv_iload_n C.1 C.2.1 dX10_isPolicy_0 rfl (lv_at hl 1 rfl) ?_
  refine r_if_lt C rfl (tgt := 23) dX10_isPolicy_1 (by decide) (fun h4 => ?_) (fun h4 => ?_)
  · replace hf := if_t hf h4
    refine r_iconst C dX10_isPolicy_23 ?_
    cases hf
    exact hend (Or.inl rfl) _ _ _ _ S dX10_isPolicy_24
  · replace hf := if_f hf h4
    refine lv_iload_n C.1 C.2.1 dX10_isPolicy_4 rfl (lv_at hl 1 rfl) ?_
    refine r_bipush C dX10_isPolicy_5 (by decide) ?_
    refine r_icmp_ge C rfl (show w32 24 = 24 by decide) (tgt := 23) dX10_isPolicy_7 (by decide) (fun h3 => ?_) (fun h3 => ?_)
    · replace hf := if_t hf h3
      refine lv_aload_n C.1 C.2.1 dX10_isPolicy_10 rfl (lv_at hl 0 rfl) ?_
      refine g10_isThere C S tw_1082 dX10_isPolicy_11 ?_
      refine lv_iload_n C.1 C.2.1 dX10_isPolicy_14 rfl (lv_at hl 1 rfl) ?_
      obtain ⟨hi1, hf⟩ := ck_o hf
      refine a_zald C S ar_49 hi1 dX10_isPolicy_15 ?_
      refine r_if_eq C rfl (tgt := 23) dX10_isPolicy_16 (by decide) (fun h2 => ?_) (fun h2 => ?_)
      · replace hf := if_t hf h2
        refine r_iconst C dX10_isPolicy_23 ?_
        cases hf
        exact hend (Or.inl rfl) _ _ _ _ S dX10_isPolicy_24
      · replace hf := if_f hf h2
        refine r_iconst C dX10_isPolicy_19 ?_
        refine lv_goto C.1 C.2.1 (tgt := 24) dX10_isPolicy_20 (by decide) ?_
        cases hf
        exact hend (Or.inr rfl) _ _ _ _ S dX10_isPolicy_24
    · replace hf := if_f hf h3
      refine r_iconst C dX10_isPolicy_23 ?_
      cases hf
      exact hend (Or.inl rfl) _ _ _ _ S dX10_isPolicy_24
set_option maxRecDepth 100000 in
set_option maxHeartbeats 4000000 in
theorem ct_X10_isTreaty (l : Launch) (G : Gd) (τ : Sg) {v1 : Int} {σ : Sg} {q : Int} (hf : f_X10_isTreaty v1 σ = some q) : Ctr l yX10_isTreaty cX10_isTreaty 2 (some .boolean) (rmk 0 0) G false τ [.ref (G.1 41), .int (oI v1)] σ σ (some (.int (oI q))) := by
  unfold f_X10_isTreaty at hf
  refine CtrZ.of (own := RX10) (plainFor_of_name (by decide)) (Nat.le_of_ble_eq_true rfl) rfl (fun p e s m below meth c Q ls C hl S hend => ?_)
  have hl : lv_has ls 2 [(0, .ref (G.1 41)), (1, .int (oI v1))] := hl
  refine lv_iload_n C.1 C.2.1 dX10_isTreaty_0 rfl (lv_at hl 1 rfl) ?_
  refine r_if_lt C rfl (tgt := 16) dX10_isTreaty_1 (by decide) (fun h2 => ?_) (fun h2 => ?_)
  · replace hf := if_t hf h2
    refine r_iconst C dX10_isTreaty_16 ?_
    cases hf
    exact hend (Or.inl rfl) _ _ _ _ S dX10_isTreaty_17
  · replace hf := if_f hf h2
    refine lv_iload_n C.1 C.2.1 dX10_isTreaty_4 rfl (lv_at hl 1 rfl) ?_
    refine lv_aload_n C.1 C.2.1 dX10_isTreaty_5 rfl (lv_at hl 0 rfl) ?_
    refine g10_treaties C S tw_1088 dX10_isTreaty_6 ?_
    refine r_icmp_ge C rfl rfl (tgt := 16) dX10_isTreaty_9 (by decide) (fun h1 => ?_) (fun h1 => ?_)
    · replace hf := if_t hf h1
      refine r_iconst C dX10_isTreaty_12 ?_
      refine lv_goto C.1 C.2.1 (tgt := 17) dX10_isTreaty_13 (by decide) ?_
      cases hf
      exact hend (Or.inr rfl) _ _ _ _ S dX10_isTreaty_17
    · replace hf := if_f hf h1
      refine r_iconst C dX10_isTreaty_16 ?_
      cases hf
      exact hend (Or.inl rfl) _ _ _ _ S dX10_isTreaty_17
set_option maxRecDepth 100000 in
set_option maxHeartbeats 4000000 in
theorem ct_X10_isPlace (l : Launch) (G : Gd) (τ : Sg) {v0 : Int} {v1 : Int} {σ : Sg} {q : Int} (hf : f_X10_isPlace v0 v1 σ = some q) : Ctr l yX10_isPlace cX10_isPlace 2 (some .boolean) (rmk 0 0) G false τ [.int (oI v0), .int (oI v1)] σ σ (some (.int (oI q))) := by
  unfold f_X10_isPlace at hf
  refine CtrZ.of (own := RX10) (plainFor_of_name (by decide)) (Nat.le_of_ble_eq_true rfl) rfl (fun p e s m below meth c Q ls C hl S hend => ?_)
  have hl : lv_has ls 2 [(0, .int (oI v0)), (1, .int (oI v1))] := hl
  refine lv_iload_n C.1 C.2.1 dX10_isPlace_0 rfl (lv_at hl 0 rfl) ?_
  refine r_if_lt C rfl (tgt := 26) dX10_isPlace_1 (by decide) (fun h4 => ?_) (fun h4 => ?_)
  · replace hf := if_t hf h4
    refine r_iconst C dX10_isPlace_26 ?_
    cases hf
    exact hend (Or.inl rfl) _ _ _ _ S dX10_isPlace_27
  · replace hf := if_f hf h4
    refine lv_iload_n C.1 C.2.1 dX10_isPlace_4 rfl (lv_at hl 0 rfl) ?_
    refine r_sipush C dX10_isPlace_5 (by decide) ?_
    refine r_icmp_gt C rfl (show w32 299 = 299 by decide) (tgt := 26) dX10_isPlace_8 (by decide) (fun h3 => ?_) (fun h3 => ?_)
    · replace hf := if_t hf h3
      refine lv_iload_n C.1 C.2.1 dX10_isPlace_11 rfl (lv_at hl 1 rfl) ?_
      refine r_if_lt C rfl (tgt := 26) dX10_isPlace_12 (by decide) (fun h2 => ?_) (fun h2 => ?_)
      · replace hf := if_t hf h2
        refine r_iconst C dX10_isPlace_26 ?_
        cases hf
        exact hend (Or.inl rfl) _ _ _ _ S dX10_isPlace_27
      · replace hf := if_f hf h2
        refine lv_iload_n C.1 C.2.1 dX10_isPlace_15 rfl (lv_at hl 1 rfl) ?_
        refine r_sipush C dX10_isPlace_16 (by decide) ?_
        refine r_icmp_gt C rfl (show w32 299 = 299 by decide) (tgt := 26) dX10_isPlace_19 (by decide) (fun h1 => ?_) (fun h1 => ?_)
        · replace hf := if_t hf h1
          refine r_iconst C dX10_isPlace_22 ?_
          refine lv_goto C.1 C.2.1 (tgt := 27) dX10_isPlace_23 (by decide) ?_
          cases hf
          exact hend (Or.inr rfl) _ _ _ _ S dX10_isPlace_27
        · replace hf := if_f hf h1
          refine r_iconst C dX10_isPlace_26 ?_
          cases hf
          exact hend (Or.inl rfl) _ _ _ _ S dX10_isPlace_27
    · replace hf := if_f hf h3
      refine r_iconst C dX10_isPlace_26 ?_
      cases hf
      exact hend (Or.inl rfl) _ _ _ _ S dX10_isPlace_27
set_option maxRecDepth 100000 in
set_option maxHeartbeats 4000000 in
theorem ct_X10_isSum (l : Launch) (G : Gd) (τ : Sg) {v0 : Int} {σ : Sg} {q : Int} (hf : f_X10_isSum v0 σ = some q) : Ctr l yX10_isSum cX10_isSum 1 (some .boolean) (rmk 0 0) G false τ [.int (oI v0)] σ σ (some (.int (oI q))) := by
  unfold f_X10_isSum at hf
  refine CtrZ.of (own := RX10) (plainFor_of_name (by decide)) (Nat.le_of_ble_eq_true rfl) rfl (fun p e s m below meth c Q ls C hl S hend => ?_)
  have hl : lv_has ls 1 [(0, .int (oI v0))] := hl
  refine lv_iload_n C.1 C.2.1 dX10_isSum_0 rfl (lv_at hl 0 rfl) ?_
  refine r_iconst C dX10_isSum_1 ?_
  refine r_icmp_lt C rfl (show w32 1 = 1 by decide) (tgt := 15) dX10_isSum_2 (by decide) (fun h2 => ?_) (fun h2 => ?_)
  · replace hf := if_t hf h2
    refine r_iconst C dX10_isSum_15 ?_
    cases hf
    exact hend (Or.inl rfl) _ _ _ _ S dX10_isSum_16
  · replace hf := if_f hf h2
    refine lv_iload_n C.1 C.2.1 dX10_isSum_5 rfl (lv_at hl 0 rfl) ?_
    refine r_ldc C tw_1248 dX10_isSum_6 ?_
    refine r_icmp_gt C rfl (show w32 99999 = 99999 by decide) (tgt := 15) dX10_isSum_8 (by decide) (fun h1 => ?_) (fun h1 => ?_)
    · replace hf := if_t hf h1
      refine r_iconst C dX10_isSum_11 ?_
      refine lv_goto C.1 C.2.1 (tgt := 16) dX10_isSum_12 (by decide) ?_
      cases hf
      exact hend (Or.inr rfl) _ _ _ _ S dX10_isSum_16
    · replace hf := if_f hf h1
      refine r_iconst C dX10_isSum_15 ?_
      cases hf
      exact hend (Or.inl rfl) _ _ _ _ S dX10_isSum_16
set_option maxRecDepth 100000 in
set_option maxHeartbeats 4000000 in
theorem ct_X10_isPeril (l : Launch) (G : Gd) (τ : Sg) {v0 : Int} {σ : Sg} {q : Int} (hf : f_X10_isPeril v0 σ = some q) : Ctr l yX10_isPeril cX10_isPeril 1 (some .boolean) (rmk 0 0) G false τ [.int (oI v0)] σ σ (some (.int (oI q))) := by
  unfold f_X10_isPeril at hf
  refine CtrZ.of (own := RX10) (plainFor_of_name (by decide)) (Nat.le_of_ble_eq_true rfl) rfl (fun p e s m below meth c Q ls C hl S hend => ?_)
  have hl : lv_has ls 1 [(0, .int (oI v0))] := hl
  refine lv_iload_n C.1 C.2.1 dX10_isPeril_0 rfl (lv_at hl 0 rfl) ?_
  refine r_if_lt C rfl (tgt := 13) dX10_isPeril_1 (by decide) (fun h2 => ?_) (fun h2 => ?_)
  · replace hf := if_t hf h2
    refine r_iconst C dX10_isPeril_13 ?_
    cases hf
    exact hend (Or.inl rfl) _ _ _ _ S dX10_isPeril_14
  · replace hf := if_f hf h2
    refine lv_iload_n C.1 C.2.1 dX10_isPeril_4 rfl (lv_at hl 0 rfl) ?_
    refine r_iconst C dX10_isPeril_5 ?_
    refine r_icmp_gt C rfl (show w32 3 = 3 by decide) (tgt := 13) dX10_isPeril_6 (by decide) (fun h1 => ?_) (fun h1 => ?_)
    · replace hf := if_t hf h1
      refine r_iconst C dX10_isPeril_9 ?_
      refine lv_goto C.1 C.2.1 (tgt := 14) dX10_isPeril_10 (by decide) ?_
      cases hf
      exact hend (Or.inr rfl) _ _ _ _ S dX10_isPeril_14
    · replace hf := if_f hf h1
      refine r_iconst C dX10_isPeril_13 ?_
      cases hf
      exact hend (Or.inl rfl) _ _ _ _ S dX10_isPeril_14
set_option maxRecDepth 100000 in
set_option maxHeartbeats 4000000 in
theorem ct_X10_arePerils (l : Launch) (G : Gd) (τ : Sg) {v0 : Int} {σ : Sg} {q : Int} (hf : f_X10_arePerils v0 σ = some q) : Ctr l yX10_arePerils cX10_arePerils 1 (some .boolean) (rmk 0 0) G false τ [.int (oI v0)] σ σ (some (.int (oI q))) := by
  unfold f_X10_arePerils at hf
  refine CtrZ.of (own := RX10) (plainFor_of_name (by decide)) (Nat.le_of_ble_eq_true rfl) rfl (fun p e s m below meth c Q ls C hl S hend => ?_)
  have hl : lv_has ls 1 [(0, .int (oI v0))] := hl
  refine lv_iload_n C.1 C.2.1 dX10_arePerils_0 rfl (lv_at hl 0 rfl) ?_
  refine r_iconst C dX10_arePerils_1 ?_
  refine r_icmp_lt C rfl (show w32 1 = 1 by decide) (tgt := 15) dX10_arePerils_2 (by decide) (fun h2 => ?_) (fun h2 => ?_)
  · replace hf := if_t hf h2
    refine r_iconst C dX10_arePerils_15 ?_
    cases hf
    exact hend (Or.inl rfl) _ _ _ _ S dX10_arePerils_16
  · replace hf := if_f hf h2
    refine lv_iload_n C.1 C.2.1 dX10_arePerils_5 rfl (lv_at hl 0 rfl) ?_
    refine r_bipush C dX10_arePerils_6 (by decide) ?_
    refine r_icmp_gt C rfl (show w32 15 = 15 by decide) (tgt := 15) dX10_arePerils_8 (by decide) (fun h1 => ?_) (fun h1 => ?_)
    · replace hf := if_t hf h1
      refine r_iconst C dX10_arePerils_11 ?_
      refine lv_goto C.1 C.2.1 (tgt := 16) dX10_arePerils_12 (by decide) ?_
      cases hf
      exact hend (Or.inr rfl) _ _ _ _ S dX10_arePerils_16
    · replace hf := if_f hf h1
      refine r_iconst C dX10_arePerils_15 ?_
      cases hf
      exact hend (Or.inl rfl) _ _ _ _ S dX10_arePerils_16
set_option maxRecDepth 100000 in
set_option maxHeartbeats 4000000 in
theorem ct_X10_isRadius (l : Launch) (G : Gd) (τ : Sg) {v0 : Int} {σ : Sg} {q : Int} (hf : f_X10_isRadius v0 σ = some q) : Ctr l yX10_isRadius cX10_isRadius 1 (some .boolean) (rmk 0 0) G false τ [.int (oI v0)] σ σ (some (.int (oI q))) := by
  unfold f_X10_isRadius at hf
  refine CtrZ.of (own := RX10) (plainFor_of_name (by decide)) (Nat.le_of_ble_eq_true rfl) rfl (fun p e s m below meth c Q ls C hl S hend => ?_)
  have hl : lv_has ls 1 [(0, .int (oI v0))] := hl
  refine lv_iload_n C.1 C.2.1 dX10_isRadius_0 rfl (lv_at hl 0 rfl) ?_
  refine r_iconst C dX10_isRadius_1 ?_
  refine r_icmp_lt C rfl (show w32 1 = 1 by decide) (tgt := 16) dX10_isRadius_2 (by decide) (fun h2 => ?_) (fun h2 => ?_)
  · replace hf := if_t hf h2
    refine r_iconst C dX10_isRadius_16 ?_
    cases hf
    exact hend (Or.inl rfl) _ _ _ _ S dX10_isRadius_17
  · replace hf := if_f hf h2
    refine lv_iload_n C.1 C.2.1 dX10_isRadius_5 rfl (lv_at hl 0 rfl) ?_
    refine r_sipush C dX10_isRadius_6 (by decide) ?_
    refine r_icmp_gt C rfl (show w32 300 = 300 by decide) (tgt := 16) dX10_isRadius_9 (by decide) (fun h1 => ?_) (fun h1 => ?_)
    · replace hf := if_t hf h1
      refine r_iconst C dX10_isRadius_12 ?_
      refine lv_goto C.1 C.2.1 (tgt := 17) dX10_isRadius_13 (by decide) ?_
      cases hf
      exact hend (Or.inr rfl) _ _ _ _ S dX10_isRadius_17
    · replace hf := if_f hf h1
      refine r_iconst C dX10_isRadius_16 ?_
      cases hf
      exact hend (Or.inl rfl) _ _ _ _ S dX10_isRadius_17
set_option maxRecDepth 100000 in
set_option maxHeartbeats 4000000 in
theorem b_X10_write_b56 (C : Cx p s m args c RX10 cX10_write 6) {q : Int × Sg} (hend : EndR p l e (rmk 7 185) s m args below meth c Q G false τ cX10_write .ireturn [.int (oI q.1)] q.2) {H : Heap} {locs : List Loc} {ls : Array Slot} {σ : Sg} (v1 : Int) (v2 : Int) (v3 : Int) (v4 : Int) (v5 : Int) (S : St G false τ σ s H locs) (hl : lv_has ls 6 [(0, .ref (G.1 41)), (1, .int (oI v1)), (2, .int (oI v2)), (3, .int (oI v3)), (4, .int (oI v4)), (5, .int (oI v5))]) (hf : f_X10_write_b56 v1 v2 v3 v4 v5 σ = some q) : W p l e (rmk 7 185) s m args below meth c H locs 0 0 Q (F0 m 56 ls []) := by
  unfold f_X10_write_b56 at hf
  refine lv_iload C.1 C.2.1 dX10_write_56 (lv_at hl 5 rfl) ?_
  refine r_bipush C dX10_write_58 (by decide) ?_
  refine r_icmp_ne C rfl (show w32 24 = 24 by decide) (tgt := 66) dX10_write_60 (by decide) (fun h15 => ?_) (fun h15 => ?_)
  · replace hf := if_t hf h15
    refine r_bipush C dX10_write_63 (by decide) ?_
    cases hf
    exact hend _ _ _ _ S dX10_write_65
  · replace hf := if_f hf h15
    refine lv_aload_n C.1 C.2.1 dX10_write_66 rfl (lv_at hl 0 rfl) ?_
    refine lv_iload C.1 C.2.1 dX10_write_67 (lv_at hl 5 rfl) ?_
    refine lv_iload_n C.1 C.2.1 dX10_write_69 rfl (lv_at hl 1 rfl) ?_
    refine lv_iload_n C.1 C.2.1 dX10_write_70 rfl (lv_at hl 2 rfl) ?_
    refine lv_iload_n C.1 C.2.1 dX10_write_71 rfl (lv_at hl 3 rfl) ?_
    refine lv_iload C.1 C.2.1 dX10_write_72 (lv_at hl 4 rfl) ?_
    obtain ⟨q9, hc10, hf⟩ := bd_o hf
    refine r_callVn C S (As := [.int (oI v5), .int (oI v1), .int (oI v2), .int (oI v3), .int (oI v4)]) (rest := []) (ct_X10_puts l G τ hc10) mi_X10_puts tw_1257 mv_X10_puts (rvX10 S) ⟨rfl, rfl⟩ ⟨Nat.le_of_ble_eq_true rfl, Nat.le_of_ble_eq_true rfl⟩ ⟨Nat.zero_le _, Nat.zero_le _⟩ rfl hl.1 rfl (Nat.le_of_ble_eq_true rfl) dX10_write_74 (fun H locs S => ?_)
    refine lv_aload_n C.1 C.2.1 dX10_write_77 rfl (lv_at hl 0 rfl) ?_
    refine g10_isThere C S tw_1082 dX10_write_78 ?_
    refine lv_iload C.1 C.2.1 dX10_write_81 (lv_at hl 5 rfl) ?_
    refine r_iconst C dX10_write_83 ?_
    obtain ⟨hi11, hf⟩ := ck_o hf
    refine a_zast C S ar_49 hi11 (by decide) dX10_write_84 (fun H locs S => ?_)
    obtain ⟨σ12, S, hf⟩ := wr_s S hf
    refine lv_aload_n C.1 C.2.1 dX10_write_85 rfl (lv_at hl 0 rfl) ?_
    refine r_iconst C dX10_write_86 ?_
    refine lv_iload C.1 C.2.1 dX10_write_87 (lv_at hl 5 rfl) ?_
    refine lv_iload_n C.1 C.2.1 dX10_write_89 rfl (lv_at hl 3 rfl) ?_
    obtain ⟨q13, hc14, hf⟩ := bd_o hf
    refine r_callVn C S (As := [.int (oI 0), .int (oI v5), .int (oI v3)]) (rest := []) (ct_X10_acted l G τ hc14) mi_X10_acted tw_1339 mv_X10_acted (rvX10 S) ⟨rfl, rfl⟩ ⟨Nat.le_of_ble_eq_true rfl, Nat.le_of_ble_eq_true rfl⟩ ⟨Nat.zero_le _, Nat.zero_le _⟩ rfl hl.1 rfl (Nat.le_of_ble_eq_true rfl) dX10_write_90 (fun H locs S => ?_)
    refine lv_iload C.1 C.2.1 dX10_write_93 (lv_at hl 5 rfl) ?_
    cases hf
    exact hend _ _ _ _ S dX10_write_95
set_option maxRecDepth 100000 in
set_option maxHeartbeats 4000000 in
theorem b_X10_write_b33 (C : Cx p s m args c RX10 cX10_write 6) {q : Int × Sg} (hend : EndR p l e (rmk 7 185) s m args below meth c Q G false τ cX10_write .ireturn [.int (oI q.1)] q.2) : ∀ (n : Nat) {H : Heap} {locs : List Loc} {ls : Array Slot} {σ : Sg} (v1 : Int) (v2 : Int) (v3 : Int) (v4 : Int) (v5 : Int) (S : St G false τ σ s H locs) (hl : lv_has ls 6 [(0, .ref (G.1 41)), (1, .int (oI v1)), (2, .int (oI v2)), (3, .int (oI v3)), (4, .int (oI v4)), (5, .int (oI v5))]) (hf : f_X10_write_b33 n v1 v2 v3 v4 v5 σ = some q), W p l e (rmk 7 185) s m args below meth c H locs 0 0 Q (F0 m 33 ls []) := by
  intro n
  induction n with
  | zero => intro H locs ls σ v1 v2 v3 v4 v5 S hl hf; cases hf
  | succ n ih =>
    intro H locs ls σ v1 v2 v3 v4 v5 S hl hf
    have hk33 := @ih
    rw [f_X10_write_b33] at hf
    refine lv_iload C.1 C.2.1 dX10_write_33 (lv_at hl 5 rfl) ?_
    refine r_bipush C dX10_write_35 (by decide) ?_
    refine r_icmp_ge C rfl (show w32 24 = 24 by decide) (tgt := 56) dX10_write_37 (by decide) (fun h17 => ?_) (fun h17 => ?_)
    · replace hf := if_t hf h17
      refine lv_aload_n C.1 C.2.1 dX10_write_40 rfl (lv_at hl 0 rfl) ?_
      refine g10_isThere C S tw_1082 dX10_write_41 ?_
      refine lv_iload C.1 C.2.1 dX10_write_44 (lv_at hl 5 rfl) ?_
      obtain ⟨hi8, hf⟩ := ck_o hf
      refine a_zald C S ar_49 hi8 dX10_write_46 ?_
      refine r_if_eq C rfl (tgt := 56) dX10_write_47 (by decide) (fun h16 => ?_) (fun h16 => ?_)
      · replace hf := if_t hf h16
        exact b_X10_write_b56 C hend v1 v2 v3 v4 v5 S (lv_sub hl [0, 1, 2, 3, 4, 5] rfl) hf
      · replace hf := if_f hf h16
        refine r_iinc C dX10_write_50 hl (k := 5) rfl (by decide) (lv' := [(5, .int (oI (v5 + 1))), (0, .ref (G.1 41)), (1, .int (oI v1)), (2, .int (oI v2)), (3, .int (oI v3)), (4, .int (oI v4))]) rfl (fun ls hl => ?_)
        refine lv_goto C.1 C.2.1 (tgt := 33) dX10_write_53 (by decide) ?_
        exact hk33 v1 v2 v3 v4 (v5 + 1) S (lv_sub hl [1, 2, 3, 4, 5, 0] rfl) hf
    · replace hf := if_f hf h17
      exact b_X10_write_b56 C hend v1 v2 v3 v4 v5 S (lv_sub hl [0, 1, 2, 3, 4, 5] rfl) hf
set_option maxRecDepth 100000 in
set_option maxHeartbeats 4000000 in
theorem ct_X10_write (l : Launch) (G : Gd) (τ : Sg) {v1 : Int} {v2 : Int} {v3 : Int} {v4 : Int} {σ : Sg} {q : Int × Sg} (hf : f_X10_write v1 v2 v3 v4 σ = some q) : Ctr l yX10_write cX10_write 6 (some .int) (rmk 7 185) G false τ [.ref (G.1 41), .int (oI v1), .int (oI v2), .int (oI v3), .int (oI v4)] σ q.2 (some (.int (oI q.1))) := by
  unfold f_X10_write at hf
  refine CtrI.of (own := RX10) (plainFor_of_name (by decide)) (Nat.le_of_ble_eq_true rfl) rfl (fun p e s m below meth c Q ls C hl S hend => ?_)
  have hl : lv_has ls 6 [(0, .ref (G.1 41)), (1, .int (oI v1)), (2, .int (oI v2)), (3, .int (oI v3)), (4, .int (oI v4))] := hl
  refine lv_aload_n C.1 C.2.1 dX10_write_0 rfl (lv_at hl 0 rfl) ?_
  refine r_iconst C dX10_write_1 ?_
  refine p10_thrown C S tw_1061 dX10_write_2 (fun H locs S => ?_)
  obtain ⟨σ1, S, hf⟩ := wr_s S hf
  refine lv_iload_n C.1 C.2.1 dX10_write_5 rfl (lv_at hl 1 rfl) ?_
  refine lv_iload_n C.1 C.2.1 dX10_write_6 rfl (lv_at hl 2 rfl) ?_
  obtain ⟨q2, hc3, hf⟩ := bd_o hf
  refine r_callSv C S (As := [.int (oI v1), .int (oI v2)]) (rest := []) (ct_X10_isPlace l G τ hc3) mi_X10_isPlace tw_1330 ms_X10_isPlace ⟨rfl, rfl⟩ ⟨Nat.le_of_ble_eq_true rfl, Nat.le_of_ble_eq_true rfl⟩ ⟨Nat.zero_le _, Nat.zero_le _⟩ rfl hl.1 rfl (Nat.le_of_ble_eq_true rfl) dX10_write_7 (fun H locs S => ?_)
  refine r_if_eq C rfl (tgt := 28) dX10_write_10 (by decide) (fun h20 => ?_) (fun h20 => ?_)
  · replace hf := if_t hf h20
    refine r_iconst C dX10_write_28 ?_
    cases hf
    exact hend _ _ _ _ S dX10_write_29
  · replace hf := if_f hf h20
    refine lv_iload_n C.1 C.2.1 dX10_write_13 rfl (lv_at hl 3 rfl) ?_
    obtain ⟨q4, hc5, hf⟩ := bd_o hf
    refine r_callSv C S (As := [.int (oI v3)]) (rest := []) (ct_X10_isSum l G τ hc5) mi_X10_isSum tw_1333 ms_X10_isSum ⟨rfl, rfl⟩ ⟨Nat.le_of_ble_eq_true rfl, Nat.le_of_ble_eq_true rfl⟩ ⟨Nat.zero_le _, Nat.zero_le _⟩ rfl hl.1 rfl (Nat.le_of_ble_eq_true rfl) dX10_write_14 (fun H locs S => ?_)
    refine r_if_eq C rfl (tgt := 28) dX10_write_17 (by decide) (fun h19 => ?_) (fun h19 => ?_)
    · replace hf := if_t hf h19
      refine r_iconst C dX10_write_28 ?_
      cases hf
      exact hend _ _ _ _ S dX10_write_29
    · replace hf := if_f hf h19
      refine lv_iload C.1 C.2.1 dX10_write_20 (lv_at hl 4 rfl) ?_
      obtain ⟨q6, hc7, hf⟩ := bd_o hf
      refine r_callSv C S (As := [.int (oI v4)]) (rest := []) (ct_X10_isPeril l G τ hc7) mi_X10_isPeril tw_1336 ms_X10_isPeril ⟨rfl, rfl⟩ ⟨Nat.le_of_ble_eq_true rfl, Nat.le_of_ble_eq_true rfl⟩ ⟨Nat.zero_le _, Nat.zero_le _⟩ rfl hl.1 rfl (Nat.le_of_ble_eq_true rfl) dX10_write_22 (fun H locs S => ?_)
      refine r_if_ne C rfl (tgt := 30) dX10_write_25 (by decide) (fun h18 => ?_) (fun h18 => ?_)
      · replace hf := if_t hf h18
        refine r_iconst C dX10_write_28 ?_
        cases hf
        exact hend _ _ _ _ S dX10_write_29
      · replace hf := if_f hf h18
        refine r_iconst C dX10_write_30 ?_
        refine lv_istore C.1 C.2.1 dX10_write_31 hl (by decide) (lv' := [(5, .int (oI 0)), (0, .ref (G.1 41)), (1, .int (oI v1)), (2, .int (oI v2)), (3, .int (oI v3)), (4, .int (oI v4))]) rfl (fun ls hl => ?_)
        exact b_X10_write_b33 C hend FUEL v1 v2 v3 v4 0 S (lv_sub hl [1, 2, 3, 4, 5, 0] rfl) hf
set_option maxRecDepth 100000 in
set_option maxHeartbeats 4000000 in
theorem ct_X10_move (l : Launch) (G : Gd) (τ : Sg) {v1 : Int} {v2 : Int} {v3 : Int} {σ : Sg} {q : Int × Sg} (hf : f_X10_move v1 v2 v3 σ = some q) : Ctr l yX10_move cX10_move 5 (some .int) (rmk 7 185) G false τ [.ref (G.1 41), .int (oI v1), .int (oI v2), .int (oI v3)] σ q.2 (some (.int (oI q.1))) := by
  unfold f_X10_move at hf
  refine CtrI.of (own := RX10) (plainFor_of_name (by decide)) (Nat.le_of_ble_eq_true rfl) rfl (fun p e s m below meth c Q ls C hl S hend => ?_)
  have hl : lv_has ls 5 [(0, .ref (G.1 41)), (1, .int (oI v1)), (2, .int (oI v2)), (3, .int (oI v3))] := hl
  refine lv_aload_n C.1 C.2.1 dX10_move_0 rfl (lv_at hl 0 rfl) ?_
  refine r_iconst C dX10_move_1 ?_
  refine p10_thrown C S tw_1061 dX10_move_2 (fun H locs S => ?_)
  obtain ⟨σ1, S, hf⟩ := wr_s S hf
  refine lv_aload_n C.1 C.2.1 dX10_move_5 rfl (lv_at hl 0 rfl) ?_
  refine lv_iload_n C.1 C.2.1 dX10_move_6 rfl (lv_at hl 1 rfl) ?_
  obtain ⟨q2, hc3, hf⟩ := bd_o hf
  refine r_callVv C S (As := [.int (oI v1)]) (rest := []) (ct_X10_isPolicy l G τ hc3) mi_X10_isPolicy tw_1347 mv_X10_isPolicy (rvX10 S) ⟨rfl, rfl⟩ ⟨Nat.le_of_ble_eq_true rfl, Nat.le_of_ble_eq_true rfl⟩ ⟨Nat.zero_le _, Nat.zero_le _⟩ rfl hl.1 rfl (Nat.le_of_ble_eq_true rfl) dX10_move_7 (fun H locs S => ?_)
  refine r_if_eq C rfl (tgt := 21) dX10_move_10 (by decide) (fun h17 => ?_) (fun h17 => ?_)
  · replace hf := if_t hf h17
    refine r_iconst C dX10_move_21 ?_
    cases hf
    exact hend _ _ _ _ S dX10_move_22
  · replace hf := if_f hf h17
    refine lv_iload_n C.1 C.2.1 dX10_move_13 rfl (lv_at hl 2 rfl) ?_
    refine lv_iload_n C.1 C.2.1 dX10_move_14 rfl (lv_at hl 3 rfl) ?_
    obtain ⟨q4, hc5, hf⟩ := bd_o hf
    refine r_callSv C S (As := [.int (oI v2), .int (oI v3)]) (rest := []) (ct_X10_isPlace l G τ hc5) mi_X10_isPlace tw_1330 ms_X10_isPlace ⟨rfl, rfl⟩ ⟨Nat.le_of_ble_eq_true rfl, Nat.le_of_ble_eq_true rfl⟩ ⟨Nat.zero_le _, Nat.zero_le _⟩ rfl hl.1 rfl (Nat.le_of_ble_eq_true rfl) dX10_move_15 (fun H locs S => ?_)
    refine r_if_ne C rfl (tgt := 23) dX10_move_18 (by decide) (fun h16 => ?_) (fun h16 => ?_)
    · replace hf := if_t hf h16
      refine r_iconst C dX10_move_21 ?_
      cases hf
      exact hend _ _ _ _ S dX10_move_22
    · replace hf := if_f hf h16
      refine lv_aload_n C.1 C.2.1 dX10_move_23 rfl (lv_at hl 0 rfl) ?_
      refine g10_x C S tw_1078 dX10_move_24 ?_
      refine lv_iload_n C.1 C.2.1 dX10_move_27 rfl (lv_at hl 1 rfl) ?_
      obtain ⟨hi6, hf⟩ := ck_o hf
      refine a_iald C S ar_45 hi6 dX10_move_28 ?_
      refine lv_iload_n C.1 C.2.1 dX10_move_29 rfl (lv_at hl 2 rfl) ?_
      refine r_isub C dX10_move_30 ?_
      refine lv_aload_n C.1 C.2.1 dX10_move_31 rfl (lv_at hl 0 rfl) ?_
      refine g10_x C S tw_1078 dX10_move_32 ?_
      refine lv_iload_n C.1 C.2.1 dX10_move_35 rfl (lv_at hl 1 rfl) ?_
      obtain ⟨hi7, hf⟩ := ck_o hf
      refine a_iald C S ar_45 hi7 dX10_move_36 ?_
      refine lv_iload_n C.1 C.2.1 dX10_move_37 rfl (lv_at hl 2 rfl) ?_
      refine r_isub C dX10_move_38 ?_
      refine r_imul C dX10_move_39 ?_
      refine lv_aload_n C.1 C.2.1 dX10_move_40 rfl (lv_at hl 0 rfl) ?_
      refine g10_y C S tw_1079 dX10_move_41 ?_
      refine lv_iload_n C.1 C.2.1 dX10_move_44 rfl (lv_at hl 1 rfl) ?_
      obtain ⟨hi8, hf⟩ := ck_o hf
      refine a_iald C S ar_46 hi8 dX10_move_45 ?_
      refine lv_iload_n C.1 C.2.1 dX10_move_46 rfl (lv_at hl 3 rfl) ?_
      refine r_isub C dX10_move_47 ?_
      refine lv_aload_n C.1 C.2.1 dX10_move_48 rfl (lv_at hl 0 rfl) ?_
      refine g10_y C S tw_1079 dX10_move_49 ?_
      refine lv_iload_n C.1 C.2.1 dX10_move_52 rfl (lv_at hl 1 rfl) ?_
      obtain ⟨hi9, hf⟩ := ck_o hf
      refine a_iald C S ar_46 hi9 dX10_move_53 ?_
      refine lv_iload_n C.1 C.2.1 dX10_move_54 rfl (lv_at hl 3 rfl) ?_
      refine r_isub C dX10_move_55 ?_
      refine r_imul C dX10_move_56 ?_
      refine r_iadd C dX10_move_57 ?_
      refine lv_istore C.1 C.2.1 dX10_move_58 hl (by decide) (lv' := [(4, .int (oI ((((σ1 45 (v1).toNat) - v2) * ((σ1 45 (v1).toNat) - v2)) + (((σ1 46 (v1).toNat) - v3) * ((σ1 46 (v1).toNat) - v3))))), (0, .ref (G.1 41)), (1, .int (oI v1)), (2, .int (oI v2)), (3, .int (oI v3))]) rfl (fun ls hl => ?_)
      refine lv_aload_n C.1 C.2.1 dX10_move_60 rfl (lv_at hl 1 rfl) ?_
      refine g10_x C S tw_1078 dX10_move_61 ?_
      refine lv_iload_n C.1 C.2.1 dX10_move_64 rfl (lv_at hl 2 rfl) ?_
      refine lv_iload_n C.1 C.2.1 dX10_move_65 rfl (lv_at hl 3 rfl) ?_
      obtain ⟨hi10, hf⟩ := ck_o hf
      refine a_iast C S ar_45 hi10 dX10_move_66 (fun H locs S => ?_)
      obtain ⟨σ11, S, hf⟩ := wr_s S hf
      refine lv_aload_n C.1 C.2.1 dX10_move_67 rfl (lv_at hl 1 rfl) ?_
      refine g10_y C S tw_1079 dX10_move_68 ?_
      refine lv_iload_n C.1 C.2.1 dX10_move_71 rfl (lv_at hl 2 rfl) ?_
      refine lv_iload_n C.1 C.2.1 dX10_move_72 rfl (lv_at hl 4 rfl) ?_
      obtain ⟨hi12, hf⟩ := ck_o hf
      refine a_iast C S ar_46 hi12 dX10_move_73 (fun H locs S => ?_)
      obtain ⟨σ13, S, hf⟩ := wr_s S hf
      refine lv_aload_n C.1 C.2.1 dX10_move_74 rfl (lv_at hl 1 rfl) ?_
      refine r_iconst C dX10_move_75 ?_
      refine lv_iload_n C.1 C.2.1 dX10_move_76 rfl (lv_at hl 2 rfl) ?_
      refine r_iconst C dX10_move_77 ?_
      obtain ⟨q14, hc15, hf⟩ := bd_o hf
      refine r_callVn C S (As := [.int (oI 1), .int (oI v1), .int (oI 0)]) (rest := []) (ct_X10_acted l G τ hc15) mi_X10_acted tw_1339 mv_X10_acted (rvX10 S) ⟨rfl, rfl⟩ ⟨Nat.le_of_ble_eq_true rfl, Nat.le_of_ble_eq_true rfl⟩ ⟨Nat.zero_le _, Nat.zero_le _⟩ rfl hl.1 rfl (Nat.le_of_ble_eq_true rfl) dX10_move_78 (fun H locs S => ?_)
      refine lv_iload C.1 C.2.1 dX10_move_81 (lv_at hl 0 rfl) ?_
      cases hf
      exact hend _ _ _ _ S dX10_move_83
set_option maxRecDepth 100000 in
set_option maxHeartbeats 4000000 in
theorem ct_X10_change (l : Launch) (G : Gd) (τ : Sg) {v1 : Int} {v2 : Int} {σ : Sg} {q : Int × Sg} (hf : f_X10_change v1 v2 σ = some q) : Ctr l yX10_change cX10_change 4 (some .int) (rmk 7 185) G false τ [.ref (G.1 41), .int (oI v1), .int (oI v2)] σ q.2 (some (.int (oI q.1))) := by
  unfold f_X10_change at hf
  refine CtrI.of (own := RX10) (plainFor_of_name (by decide)) (Nat.le_of_ble_eq_true rfl) rfl (fun p e s m below meth c Q ls C hl S hend => ?_)
  have hl : lv_has ls 4 [(0, .ref (G.1 41)), (1, .int (oI v1)), (2, .int (oI v2))] := hl
  refine lv_aload_n C.1 C.2.1 dX10_change_0 rfl (lv_at hl 0 rfl) ?_
  refine r_iconst C dX10_change_1 ?_
  refine p10_thrown C S tw_1061 dX10_change_2 (fun H locs S => ?_)
  obtain ⟨σ1, S, hf⟩ := wr_s S hf
  refine lv_aload_n C.1 C.2.1 dX10_change_5 rfl (lv_at hl 0 rfl) ?_
  refine lv_iload_n C.1 C.2.1 dX10_change_6 rfl (lv_at hl 1 rfl) ?_
  obtain ⟨q2, hc3, hf⟩ := bd_o hf
  refine r_callVv C S (As := [.int (oI v1)]) (rest := []) (ct_X10_isPolicy l G τ hc3) mi_X10_isPolicy tw_1347 mv_X10_isPolicy (rvX10 S) ⟨rfl, rfl⟩ ⟨Nat.le_of_ble_eq_true rfl, Nat.le_of_ble_eq_true rfl⟩ ⟨Nat.zero_le _, Nat.zero_le _⟩ rfl hl.1 rfl (Nat.le_of_ble_eq_true rfl) dX10_change_7 (fun H locs S => ?_)
  refine r_if_eq C rfl (tgt := 20) dX10_change_10 (by decide) (fun h12 => ?_) (fun h12 => ?_)
  · replace hf := if_t hf h12
    refine r_iconst C dX10_change_20 ?_
    cases hf
    exact hend _ _ _ _ S dX10_change_21
  · replace hf := if_f hf h12
    refine lv_iload_n C.1 C.2.1 dX10_change_13 rfl (lv_at hl 2 rfl) ?_
    obtain ⟨q4, hc5, hf⟩ := bd_o hf
    refine r_callSv C S (As := [.int (oI v2)]) (rest := []) (ct_X10_isSum l G τ hc5) mi_X10_isSum tw_1333 ms_X10_isSum ⟨rfl, rfl⟩ ⟨Nat.le_of_ble_eq_true rfl, Nat.le_of_ble_eq_true rfl⟩ ⟨Nat.zero_le _, Nat.zero_le _⟩ rfl hl.1 rfl (Nat.le_of_ble_eq_true rfl) dX10_change_14 (fun H locs S => ?_)
    refine r_if_ne C rfl (tgt := 22) dX10_change_17 (by decide) (fun h11 => ?_) (fun h11 => ?_)
    · replace hf := if_t hf h11
      refine r_iconst C dX10_change_20 ?_
      cases hf
      exact hend _ _ _ _ S dX10_change_21
    · replace hf := if_f hf h11
      refine lv_aload_n C.1 C.2.1 dX10_change_22 rfl (lv_at hl 0 rfl) ?_
      refine g10_sum C S tw_1080 dX10_change_23 ?_
      refine lv_iload_n C.1 C.2.1 dX10_change_26 rfl (lv_at hl 1 rfl) ?_
      obtain ⟨hi6, hf⟩ := ck_o hf
      refine a_iald C S ar_47 hi6 dX10_change_27 ?_
      refine lv_istore_n C.1 C.2.1 dX10_change_28 rfl hl (by decide) (lv' := [(3, .int (oI (σ1 47 (v1).toNat))), (0, .ref (G.1 41)), (1, .int (oI v1)), (2, .int (oI v2))]) rfl (fun ls hl => ?_)
      refine lv_aload_n C.1 C.2.1 dX10_change_29 rfl (lv_at hl 1 rfl) ?_
      refine g10_sum C S tw_1080 dX10_change_30 ?_
      refine lv_iload_n C.1 C.2.1 dX10_change_33 rfl (lv_at hl 2 rfl) ?_
      refine lv_iload_n C.1 C.2.1 dX10_change_34 rfl (lv_at hl 3 rfl) ?_
      obtain ⟨hi7, hf⟩ := ck_o hf
      refine a_iast C S ar_47 hi7 dX10_change_35 (fun H locs S => ?_)
      obtain ⟨σ8, S, hf⟩ := wr_s S hf
      refine lv_aload_n C.1 C.2.1 dX10_change_36 rfl (lv_at hl 1 rfl) ?_
      refine r_iconst C dX10_change_37 ?_
      refine lv_iload_n C.1 C.2.1 dX10_change_38 rfl (lv_at hl 2 rfl) ?_
      refine lv_iload_n C.1 C.2.1 dX10_change_39 rfl (lv_at hl 3 rfl) ?_
      refine lv_iload_n C.1 C.2.1 dX10_change_40 rfl (lv_at hl 0 rfl) ?_
      refine r_isub C dX10_change_41 ?_
      obtain ⟨q9, hc10, hf⟩ := bd_o hf
      refine r_callVn C S (As := [.int (oI 2), .int (oI v1), .int (oI (v2 - (σ1 47 (v1).toNat)))]) (rest := []) (ct_X10_acted l G τ hc10) mi_X10_acted tw_1339 mv_X10_acted (rvX10 S) ⟨rfl, rfl⟩ ⟨Nat.le_of_ble_eq_true rfl, Nat.le_of_ble_eq_true rfl⟩ ⟨Nat.zero_le _, Nat.zero_le _⟩ rfl hl.1 rfl (Nat.le_of_ble_eq_true rfl) dX10_change_42 (fun H locs S => ?_)
      refine lv_iload_n C.1 C.2.1 dX10_change_45 rfl (lv_at hl 0 rfl) ?_
      cases hf
      exact hend _ _ _ _ S dX10_change_46
set_option maxRecDepth 100000 in
set_option maxHeartbeats 4000000 in
theorem ct_X10_lapse (l : Launch) (G : Gd) (τ : Sg) {v1 : Int} {σ : Sg} {q : Int × Sg} (hf : f_X10_lapse v1 σ = some q) : Ctr l yX10_lapse cX10_lapse 2 (some .int) (rmk 7 185) G false τ [.ref (G.1 41), .int (oI v1)] σ q.2 (some (.int (oI q.1))) := by
  unfold f_X10_lapse at hf
  refine CtrI.of (own := RX10) (plainFor_of_name (by decide)) (Nat.le_of_ble_eq_true rfl) rfl (fun p e s m below meth c Q ls C hl S hend => ?_)
  have hl : lv_has ls 2 [(0, .ref (G.1 41)), (1, .int (oI v1))] := hl
  refine lv_aload_n C.1 C.2.1 dX10_lapse_0 rfl (lv_at hl 0 rfl) ?_
  refine r_iconst C dX10_lapse_1 ?_
  refine p10_thrown C S tw_1061 dX10_lapse_2 (fun H locs S => ?_)
  obtain ⟨σ1, S, hf⟩ := wr_s S hf
  refine lv_aload_n C.1 C.2.1 dX10_lapse_5 rfl (lv_at hl 0 rfl) ?_
  refine lv_iload_n C.1 C.2.1 dX10_lapse_6 rfl (lv_at hl 1 rfl) ?_
  obtain ⟨q2, hc3, hf⟩ := bd_o hf
  refine r_callVv C S (As := [.int (oI v1)]) (rest := []) (ct_X10_isPolicy l G τ hc3) mi_X10_isPolicy tw_1347 mv_X10_isPolicy (rvX10 S) ⟨rfl, rfl⟩ ⟨Nat.le_of_ble_eq_true rfl, Nat.le_of_ble_eq_true rfl⟩ ⟨Nat.zero_le _, Nat.zero_le _⟩ rfl hl.1 rfl (Nat.le_of_ble_eq_true rfl) dX10_lapse_7 (fun H locs S => ?_)
  refine r_if_ne C rfl (tgt := 15) dX10_lapse_10 (by decide) (fun h10 => ?_) (fun h10 => ?_)
  · replace hf := if_t hf h10
    refine r_iconst C dX10_lapse_13 ?_
    cases hf
    exact hend _ _ _ _ S dX10_lapse_14
  · replace hf := if_f hf h10
    refine lv_aload_n C.1 C.2.1 dX10_lapse_15 rfl (lv_at hl 0 rfl) ?_
    refine g10_isThere C S tw_1082 dX10_lapse_16 ?_
    refine lv_iload_n C.1 C.2.1 dX10_lapse_19 rfl (lv_at hl 1 rfl) ?_
    refine r_iconst C dX10_lapse_20 ?_
    obtain ⟨hi4, hf⟩ := ck_o hf
    refine a_zast C S ar_49 hi4 (by decide) dX10_lapse_21 (fun H locs S => ?_)
    obtain ⟨σ5, S, hf⟩ := wr_s S hf
    refine lv_aload_n C.1 C.2.1 dX10_lapse_22 rfl (lv_at hl 0 rfl) ?_
    refine r_iconst C dX10_lapse_23 ?_
    refine lv_iload_n C.1 C.2.1 dX10_lapse_24 rfl (lv_at hl 1 rfl) ?_
    refine lv_aload_n C.1 C.2.1 dX10_lapse_25 rfl (lv_at hl 0 rfl) ?_
    refine g10_sum C S tw_1080 dX10_lapse_26 ?_
    refine lv_iload_n C.1 C.2.1 dX10_lapse_29 rfl (lv_at hl 1 rfl) ?_
    obtain ⟨hi6, hf⟩ := ck_o hf
    refine a_iald C S ar_47 hi6 dX10_lapse_30 ?_
    refine r_ineg C dX10_lapse_31 ?_
    obtain ⟨q7, hc8, hf⟩ := bd_o hf
    refine r_callVn C S (As := [.int (oI 3), .int (oI v1), .int (oI (-(σ5 47 (v1).toNat)))]) (rest := []) (ct_X10_acted l G τ hc8) mi_X10_acted tw_1339 mv_X10_acted (rvX10 S) ⟨rfl, rfl⟩ ⟨Nat.le_of_ble_eq_true rfl, Nat.le_of_ble_eq_true rfl⟩ ⟨Nat.zero_le _, Nat.zero_le _⟩ rfl hl.1 rfl (Nat.le_of_ble_eq_true rfl) dX10_lapse_32 (fun H locs S => ?_)
    refine lv_aload_n C.1 C.2.1 dX10_lapse_35 rfl (lv_at hl 0 rfl) ?_
    refine g10_sum C S tw_1080 dX10_lapse_36 ?_
    refine lv_iload_n C.1 C.2.1 dX10_lapse_39 rfl (lv_at hl 1 rfl) ?_
    obtain ⟨hi9, hf⟩ := ck_o hf
    refine a_iald C S ar_47 hi9 dX10_lapse_40 ?_
    cases hf
    exact hend _ _ _ _ S dX10_lapse_41
set_option maxRecDepth 100000 in
set_option maxHeartbeats 4000000 in
theorem ct_X10_treaty (l : Launch) (G : Gd) (τ : Sg) {v1 : Int} {v2 : Int} {v3 : Int} {σ : Sg} {q : Int × Sg} (hf : f_X10_treaty v1 v2 v3 σ = some q) : Ctr l yX10_treaty cX10_treaty 4 (some .int) (rmk 6 162) G false τ [.ref (G.1 41), .int (oI v1), .int (oI v2), .int (oI v3)] σ q.2 (some (.int (oI q.1))) := by
  unfold f_X10_treaty at hf
  refine CtrI.of (own := RX10) (plainFor_of_name (by decide)) (Nat.le_of_ble_eq_true rfl) rfl (fun p e s m below meth c Q ls C hl S hend => ?_)
  have hl : lv_has ls 4 [(0, .ref (G.1 41)), (1, .int (oI v1)), (2, .int (oI v2)), (3, .int (oI v3))] := hl
  refine lv_aload_n C.1 C.2.1 dX10_treaty_0 rfl (lv_at hl 0 rfl) ?_
  refine r_iconst C dX10_treaty_1 ?_
  refine p10_thrown C S tw_1061 dX10_treaty_2 (fun H locs S => ?_)
  obtain ⟨σ1, S, hf⟩ := wr_s S hf
  refine lv_iload_n C.1 C.2.1 dX10_treaty_5 rfl (lv_at hl 1 rfl) ?_
  obtain ⟨q2, hc3, hf⟩ := bd_o hf
  refine r_callSv C S (As := [.int (oI v1)]) (rest := []) (ct_X10_arePerils l G τ hc3) mi_X10_arePerils tw_1363 ms_X10_arePerils ⟨rfl, rfl⟩ ⟨Nat.le_of_ble_eq_true rfl, Nat.le_of_ble_eq_true rfl⟩ ⟨Nat.zero_le _, Nat.zero_le _⟩ rfl hl.1 rfl (Nat.le_of_ble_eq_true rfl) dX10_treaty_6 (fun H locs S => ?_)
  refine r_if_eq C rfl (tgt := 30) dX10_treaty_9 (by decide) (fun h15 => ?_) (fun h15 => ?_)
  · replace hf := if_t hf h15
    refine r_iconst C dX10_treaty_30 ?_
    cases hf
    exact hend _ _ _ _ S dX10_treaty_31
  · replace hf := if_f hf h15
    refine lv_iload_n C.1 C.2.1 dX10_treaty_12 rfl (lv_at hl 2 rfl) ?_
    obtain ⟨q4, hc5, hf⟩ := bd_o hf
    refine r_callSv C S (As := [.int (oI v2)]) (rest := []) (ct_X10_isRadius l G τ hc5) mi_X10_isRadius tw_1366 ms_X10_isRadius ⟨rfl, rfl⟩ ⟨Nat.le_of_ble_eq_true rfl, Nat.le_of_ble_eq_true rfl⟩ ⟨Nat.zero_le _, Nat.zero_le _⟩ rfl hl.1 rfl (Nat.le_of_ble_eq_true rfl) dX10_treaty_13 (fun H locs S => ?_)
    refine r_if_eq C rfl (tgt := 30) dX10_treaty_16 (by decide) (fun h14 => ?_) (fun h14 => ?_)
    · replace hf := if_t hf h14
      refine r_iconst C dX10_treaty_30 ?_
      cases hf
      exact hend _ _ _ _ S dX10_treaty_31
    · replace hf := if_f hf h14
      refine lv_iload_n C.1 C.2.1 dX10_treaty_19 rfl (lv_at hl 3 rfl) ?_
      refine r_iconst C dX10_treaty_20 ?_
      refine r_icmp_lt C rfl (show w32 1 = 1 by decide) (tgt := 30) dX10_treaty_21 (by decide) (fun h13 => ?_) (fun h13 => ?_)
      · replace hf := if_t hf h13
        refine r_iconst C dX10_treaty_30 ?_
        cases hf
        exact hend _ _ _ _ S dX10_treaty_31
      · replace hf := if_f hf h13
        refine lv_iload_n C.1 C.2.1 dX10_treaty_24 rfl (lv_at hl 3 rfl) ?_
        refine r_ldc C tw_1227 dX10_treaty_25 ?_
        refine r_icmp_le C rfl (show w32 9999999 = 9999999 by decide) (tgt := 32) dX10_treaty_27 (by decide) (fun h12 => ?_) (fun h12 => ?_)
        · replace hf := if_t hf h12
          refine lv_aload_n C.1 C.2.1 dX10_treaty_32 rfl (lv_at hl 0 rfl) ?_
          refine g10_treaties C S tw_1088 dX10_treaty_33 ?_
          refine r_bipush C dX10_treaty_36 (by decide) ?_
          refine r_icmp_ne C rfl (show w32 6 = 6 by decide) (tgt := 44) dX10_treaty_38 (by decide) (fun h11 => ?_) (fun h11 => ?_)
          · replace hf := if_t hf h11
            refine r_bipush C dX10_treaty_41 (by decide) ?_
            cases hf
            exact hend _ _ _ _ S dX10_treaty_43
          · replace hf := if_f hf h11
            refine lv_aload_n C.1 C.2.1 dX10_treaty_44 rfl (lv_at hl 0 rfl) ?_
            refine lv_aload_n C.1 C.2.1 dX10_treaty_45 rfl (lv_at hl 0 rfl) ?_
            refine g10_treaties C S tw_1088 dX10_treaty_46 ?_
            refine lv_iload_n C.1 C.2.1 dX10_treaty_49 rfl (lv_at hl 1 rfl) ?_
            refine lv_iload_n C.1 C.2.1 dX10_treaty_50 rfl (lv_at hl 2 rfl) ?_
            refine lv_iload_n C.1 C.2.1 dX10_treaty_51 rfl (lv_at hl 3 rfl) ?_
            obtain ⟨q6, hc7, hf⟩ := bd_o hf
            refine r_callVn C S (As := [.int (oI (σ1 41 27)), .int (oI v1), .int (oI v2), .int (oI v3)]) (rest := []) (ct_X10_begins l G τ hc7) mi_X10_begins tw_1261 mv_X10_begins (rvX10 S) ⟨rfl, rfl⟩ ⟨Nat.le_of_ble_eq_true rfl, Nat.le_of_ble_eq_true rfl⟩ ⟨Nat.zero_le _, Nat.zero_le _⟩ rfl hl.1 rfl (Nat.le_of_ble_eq_true rfl) dX10_treaty_52 (fun H locs S => ?_)
            refine lv_aload_n C.1 C.2.1 dX10_treaty_55 rfl (lv_at hl 0 rfl) ?_
            refine lv_dup C.1 C.2.1 dX10_treaty_56 rfl ?_
            refine g10_treaties C S tw_1088 dX10_treaty_57 ?_
            refine r_iconst C dX10_treaty_60 ?_
            refine r_iadd C dX10_treaty_61 ?_
            refine p10_treaties C S tw_1088 dX10_treaty_62 (fun H locs S => ?_)
            obtain ⟨σ8, S, hf⟩ := wr_s S hf
            refine lv_aload_n C.1 C.2.1 dX10_treaty_65 rfl (lv_at hl 0 rfl) ?_
            obtain ⟨q9, hc10, hf⟩ := bd_o hf
            refine r_callVn C S (As := []) (rest := []) (ct_X10_looks l G τ hc10) mi_X10_looks tw_1265 mv_X10_looks (rvX10 S) ⟨rfl, rfl⟩ ⟨Nat.le_of_ble_eq_true rfl, Nat.le_of_ble_eq_true rfl⟩ ⟨Nat.zero_le _, Nat.zero_le _⟩ rfl hl.1 rfl (Nat.le_of_ble_eq_true rfl) dX10_treaty_66 (fun H locs S => ?_)
            refine lv_aload_n C.1 C.2.1 dX10_treaty_69 rfl (lv_at hl 0 rfl) ?_
            refine g10_treaties C S tw_1088 dX10_treaty_70 ?_
            refine r_iconst C dX10_treaty_73 ?_
            refine r_isub C dX10_treaty_74 ?_
            cases hf
            exact hend _ _ _ _ S dX10_treaty_75
        · replace hf := if_f hf h12
          refine r_iconst C dX10_treaty_30 ?_
          cases hf
          exact hend _ _ _ _ S dX10_treaty_31
set_option maxRecDepth 100000 in
set_option maxHeartbeats 4000000 in
theorem ct_X10_limit (l : Launch) (G : Gd) (τ : Sg) {v1 : Int} {v2 : Int} {σ : Sg} {q : Int × Sg} (hf : f_X10_limit v1 v2 σ = some q) : Ctr l yX10_limit cX10_limit 4 (some .int) (rmk 6 162) G false τ [.ref (G.1 41), .int (oI v1), .int (oI v2)] σ q.2 (some (.int (oI q.1))) := by
  unfold f_X10_limit at hf
  refine CtrI.of (own := RX10) (plainFor_of_name (by decide)) (Nat.le_of_ble_eq_true rfl) rfl (fun p e s m below meth c Q ls C hl S hend => ?_)
  have hl : lv_has ls 4 [(0, .ref (G.1 41)), (1, .int (oI v1)), (2, .int (oI v2))] := hl
  refine lv_aload_n C.1 C.2.1 dX10_limit_0 rfl (lv_at hl 0 rfl) ?_
  refine r_iconst C dX10_limit_1 ?_
  refine p10_thrown C S tw_1061 dX10_limit_2 (fun H locs S => ?_)
  obtain ⟨σ1, S, hf⟩ := wr_s S hf
  refine lv_aload_n C.1 C.2.1 dX10_limit_5 rfl (lv_at hl 0 rfl) ?_
  refine lv_iload_n C.1 C.2.1 dX10_limit_6 rfl (lv_at hl 1 rfl) ?_
  obtain ⟨q2, hc3, hf⟩ := bd_o hf
  refine r_callVv C S (As := [.int (oI v1)]) (rest := []) (ct_X10_isTreaty l G τ hc3) mi_X10_isTreaty tw_1373 mv_X10_isTreaty (rvX10 S) ⟨rfl, rfl⟩ ⟨Nat.le_of_ble_eq_true rfl, Nat.le_of_ble_eq_true rfl⟩ ⟨Nat.zero_le _, Nat.zero_le _⟩ rfl hl.1 rfl (Nat.le_of_ble_eq_true rfl) dX10_limit_7 (fun H locs S => ?_)
  refine r_if_eq C rfl (tgt := 24) dX10_limit_10 (by decide) (fun h11 => ?_) (fun h11 => ?_)
  · replace hf := if_t hf h11
    refine r_iconst C dX10_limit_24 ?_
    cases hf
    exact hend _ _ _ _ S dX10_limit_25
  · replace hf := if_f hf h11
    refine lv_iload_n C.1 C.2.1 dX10_limit_13 rfl (lv_at hl 2 rfl) ?_
    refine r_iconst C dX10_limit_14 ?_
    refine r_icmp_lt C rfl (show w32 1 = 1 by decide) (tgt := 24) dX10_limit_15 (by decide) (fun h10 => ?_) (fun h10 => ?_)
    · replace hf := if_t hf h10
      refine r_iconst C dX10_limit_24 ?_
      cases hf
      exact hend _ _ _ _ S dX10_limit_25
    · replace hf := if_f hf h10
      refine lv_iload_n C.1 C.2.1 dX10_limit_18 rfl (lv_at hl 2 rfl) ?_
      refine r_ldc C tw_1227 dX10_limit_19 ?_
      refine r_icmp_le C rfl (show w32 9999999 = 9999999 by decide) (tgt := 26) dX10_limit_21 (by decide) (fun h9 => ?_) (fun h9 => ?_)
      · replace hf := if_t hf h9
        refine lv_aload_n C.1 C.2.1 dX10_limit_26 rfl (lv_at hl 0 rfl) ?_
        refine g10_limit C S tw_1085 dX10_limit_27 ?_
        refine lv_iload_n C.1 C.2.1 dX10_limit_30 rfl (lv_at hl 1 rfl) ?_
        obtain ⟨hi4, hf⟩ := ck_o hf
        refine a_iald C S ar_52 hi4 dX10_limit_31 ?_
        refine lv_istore_n C.1 C.2.1 dX10_limit_32 rfl hl (by decide) (lv' := [(3, .int (oI (σ1 52 (v1).toNat))), (0, .ref (G.1 41)), (1, .int (oI v1)), (2, .int (oI v2))]) rfl (fun ls hl => ?_)
        refine lv_aload_n C.1 C.2.1 dX10_limit_33 rfl (lv_at hl 1 rfl) ?_
        refine g10_limit C S tw_1085 dX10_limit_34 ?_
        refine lv_iload_n C.1 C.2.1 dX10_limit_37 rfl (lv_at hl 2 rfl) ?_
        refine lv_iload_n C.1 C.2.1 dX10_limit_38 rfl (lv_at hl 3 rfl) ?_
        obtain ⟨hi5, hf⟩ := ck_o hf
        refine a_iast C S ar_52 hi5 dX10_limit_39 (fun H locs S => ?_)
        obtain ⟨σ6, S, hf⟩ := wr_s S hf
        refine lv_aload_n C.1 C.2.1 dX10_limit_40 rfl (lv_at hl 1 rfl) ?_
        obtain ⟨q7, hc8, hf⟩ := bd_o hf
        refine r_callVn C S (As := []) (rest := []) (ct_X10_looks l G τ hc8) mi_X10_looks tw_1265 mv_X10_looks (rvX10 S) ⟨rfl, rfl⟩ ⟨Nat.le_of_ble_eq_true rfl, Nat.le_of_ble_eq_true rfl⟩ ⟨Nat.zero_le _, Nat.zero_le _⟩ rfl hl.1 rfl (Nat.le_of_ble_eq_true rfl) dX10_limit_41 (fun H locs S => ?_)
        refine lv_iload_n C.1 C.2.1 dX10_limit_44 rfl (lv_at hl 0 rfl) ?_
        cases hf
        exact hend _ _ _ _ S dX10_limit_45
      · replace hf := if_f hf h9
        refine r_iconst C dX10_limit_24 ?_
        cases hf
        exact hend _ _ _ _ S dX10_limit_25
set_option maxRecDepth 100000 in
set_option maxHeartbeats 4000000 in
theorem b_X10_atPlaceOf_b39 (C : Cx p s m args c RX10 cX10_atPlaceOf 4) {q : Int} {k4 : Int → Int → Int → Option (Int)} (hend : EndR p l e (rmk 1 22) s m args below meth c Q G false τ cX10_atPlaceOf .ireturn [.int (oI q)] σ) (hk4 : ∀ {H : Heap} {locs : List Loc} {ls : Array Slot} (v1 : Int) (v2 : Int) (v3 : Int), St G false τ σ s H locs → lv_has ls 4 [(0, .ref (G.1 41)), (1, .int (oI v1)), (2, .int (oI v2)), (3, .int (oI v3))] → k4 v1 v2 v3 = some q → W p l e (rmk 1 22) s m args below meth c H locs 0 0 Q (F0 m 4 ls [])) {H : Heap} {locs : List Loc} {ls : Array Slot} (v1 : Int) (v3 : Int) (w0 : Int) (w1 : Int) (S : St G false τ σ s H locs) (hl : lv_has ls 4 [(0, .ref (G.1 41)), (1, .int (oI v1)), (3, .int (oI v3))]) (hf : f_X10_atPlaceOf_b39 σ k4 v1 v3 w0 w1 = some q) : W p l e (rmk 1 22) s m args below meth c H locs 0 0 Q (F0 m 39 ls [.int (oI w0), .int (oI w1)]) := by
  unfold f_X10_atPlaceOf_b39 at hf
  refine r_iadd C dX10_atPlaceOf_39 ?_
  refine lv_istore_n C.1 C.2.1 dX10_atPlaceOf_40 rfl hl (by decide) (lv' := [(2, .int (oI (w1 + w0))), (0, .ref (G.1 41)), (1, .int (oI v1)), (3, .int (oI v3))]) rfl (fun ls hl => ?_)
  refine r_iinc C dX10_atPlaceOf_41 hl (k := 3) rfl (by decide) (lv' := [(3, .int (oI (v3 + 1))), (2, .int (oI (w1 + w0))), (0, .ref (G.1 41)), (1, .int (oI v1))]) rfl (fun ls hl => ?_)
  refine lv_goto C.1 C.2.1 (tgt := 4) dX10_atPlaceOf_44 (by decide) ?_
  exact hk4 v1 (w1 + w0) (v3 + 1) S (lv_sub hl [2, 3, 1, 0] rfl) hf
set_option maxRecDepth 100000 in
set_option maxHeartbeats 4000000 in
theorem b_X10_atPlaceOf_b38 (C : Cx p s m args c RX10 cX10_atPlaceOf 4) {q : Int} {k4 : Int → Int → Int → Option (Int)} (hend : EndR p l e (rmk 1 22) s m args below meth c Q G false τ cX10_atPlaceOf .ireturn [.int (oI q)] σ) (hk4 : ∀ {H : Heap} {locs : List Loc} {ls : Array Slot} (v1 : Int) (v2 : Int) (v3 : Int), St G false τ σ s H locs → lv_has ls 4 [(0, .ref (G.1 41)), (1, .int (oI v1)), (2, .int (oI v2)), (3, .int (oI v3))] → k4 v1 v2 v3 = some q → W p l e (rmk 1 22) s m args below meth c H locs 0 0 Q (F0 m 4 ls [])) {H : Heap} {locs : List Loc} {ls : Array Slot} (v1 : Int) (v3 : Int) (w0 : Int) (S : St G false τ σ s H locs) (hl : lv_has ls 4 [(0, .ref (G.1 41)), (1, .int (oI v1)), (3, .int (oI v3))]) (hf : f_X10_atPlaceOf_b38 σ k4 v1 v3 w0 = some q) : W p l e (rmk 1 22) s m args below meth c H locs 0 0 Q (F0 m 38 ls [.int (oI w0)]) := by
  unfold f_X10_atPlaceOf_b38 at hf
  refine r_iconst C dX10_atPlaceOf_38 ?_
  exact b_X10_atPlaceOf_b39 C hend hk4 v1 v3 0 w0 S (lv_sub hl [0, 1, 2] rfl) hf
set_option maxRecDepth 100000 in
set_option maxHeartbeats 4000000 in
theorem b_X10_atPlaceOf_b4 (C : Cx p s m args c RX10 cX10_atPlaceOf 4) {q : Int} (hend : EndR p l e (rmk 1 22) s m args below meth c Q G false τ cX10_atPlaceOf .ireturn [.int (oI q)] σ) : ∀ (n : Nat) {H : Heap} {locs : List Loc} {ls : Array Slot} (v1 : Int) (v2 : Int) (v3 : Int) (S : St G false τ σ s H locs) (hl : lv_has ls 4 [(0, .ref (G.1 41)), (1, .int (oI v1)), (2, .int (oI v2)), (3, .int (oI v3))]) (hf : f_X10_atPlaceOf_b4 σ n v1 v2 v3 = some q), W p l e (rmk 1 22) s m args below meth c H locs 0 0 Q (F0 m 4 ls []) := by
  intro n
  induction n with
  | zero => intro H locs ls v1 v2 v3 S hl hf; cases hf
  | succ n ih =>
    intro H locs ls v1 v2 v3 S hl hf
    have hk4 := @ih
    rw [f_X10_atPlaceOf_b4] at hf
    refine lv_iload_n C.1 C.2.1 dX10_atPlaceOf_4 rfl (lv_at hl 3 rfl) ?_
    refine r_bipush C dX10_atPlaceOf_5 (by decide) ?_
    refine r_icmp_ge C rfl (show w32 24 = 24 by decide) (tgt := 47) dX10_atPlaceOf_7 (by decide) (fun h7 => ?_) (fun h7 => ?_)
    · replace hf := if_t hf h7
      refine lv_iload_n C.1 C.2.1 dX10_atPlaceOf_10 rfl (lv_at hl 2 rfl) ?_
      refine lv_aload_n C.1 C.2.1 dX10_atPlaceOf_11 rfl (lv_at hl 0 rfl) ?_
      refine g10_isThere C S tw_1082 dX10_atPlaceOf_12 ?_
      refine lv_iload_n C.1 C.2.1 dX10_atPlaceOf_15 rfl (lv_at hl 3 rfl) ?_
      obtain ⟨hi1, hf⟩ := ck_o hf
      refine a_zald C S ar_49 hi1 dX10_atPlaceOf_16 ?_
      refine r_if_eq C rfl (tgt := 38) dX10_atPlaceOf_17 (by decide) (fun h6 => ?_) (fun h6 => ?_)
      · replace hf := if_t hf h6
        exact b_X10_atPlaceOf_b38 C hend hk4 v1 v3 v2 S (lv_sub hl [0, 1, 3] rfl) hf
      · replace hf := if_f hf h6
        refine lv_iload_n C.1 C.2.1 dX10_atPlaceOf_20 rfl (lv_at hl 3 rfl) ?_
        refine lv_iload_n C.1 C.2.1 dX10_atPlaceOf_21 rfl (lv_at hl 1 rfl) ?_
        refine r_icmp_eq C rfl rfl (tgt := 38) dX10_atPlaceOf_22 (by decide) (fun h5 => ?_) (fun h5 => ?_)
        · replace hf := if_t hf h5
          exact b_X10_atPlaceOf_b38 C hend hk4 v1 v3 v2 S (lv_sub hl [0, 1, 3] rfl) hf
        · replace hf := if_f hf h5
          refine lv_aload_n C.1 C.2.1 dX10_atPlaceOf_25 rfl (lv_at hl 0 rfl) ?_
          refine lv_iload_n C.1 C.2.1 dX10_atPlaceOf_26 rfl (lv_at hl 1 rfl) ?_
          refine lv_iload_n C.1 C.2.1 dX10_atPlaceOf_27 rfl (lv_at hl 3 rfl) ?_
          obtain ⟨q2, hc3, hf⟩ := bd_o hf
          refine r_callVv C S (As := [.int (oI v1), .int (oI v3)]) (rest := [.int (oI v2)]) (ct_X10_distance l G τ hc3) mi_X10_distance tw_1297 mv_X10_distance (rvX10 S) ⟨rfl, rfl⟩ ⟨Nat.le_of_ble_eq_true rfl, Nat.le_of_ble_eq_true rfl⟩ ⟨Nat.zero_le _, Nat.zero_le _⟩ rfl hl.1 rfl (Nat.le_of_ble_eq_true rfl) dX10_atPlaceOf_28 (fun H locs S => ?_)
          refine r_if_ne C rfl (tgt := 38) dX10_atPlaceOf_31 (by decide) (fun h4 => ?_) (fun h4 => ?_)
          · replace hf := if_t hf h4
            refine r_iconst C dX10_atPlaceOf_34 ?_
            refine lv_goto C.1 C.2.1 (tgt := 39) dX10_atPlaceOf_35 (by decide) ?_
            exact b_X10_atPlaceOf_b39 C hend hk4 v1 v3 1 v2 S (lv_sub hl [0, 1, 3] rfl) hf
          · replace hf := if_f hf h4
            exact b_X10_atPlaceOf_b38 C hend hk4 v1 v3 v2 S (lv_sub hl [0, 1, 3] rfl) hf
    · replace hf := if_f hf h7
      refine lv_iload_n C.1 C.2.1 dX10_atPlaceOf_47 rfl (lv_at hl 2 rfl) ?_
      cases hf
      exact hend _ _ _ _ S dX10_atPlaceOf_48
set_option maxRecDepth 100000 in
set_option maxHeartbeats 4000000 in
theorem ct_X10_atPlaceOf (l : Launch) (G : Gd) (τ : Sg) {v1 : Int} {σ : Sg} {q : Int} (hf : f_X10_atPlaceOf v1 σ = some q) : Ctr l yX10_atPlaceOf cX10_atPlaceOf 4 (some .int) (rmk 1 22) G false τ [.ref (G.1 41), .int (oI v1)] σ σ (some (.int (oI q))) := by
  unfold f_X10_atPlaceOf at hf
  refine CtrI.of (own := RX10) (plainFor_of_name (by decide)) (Nat.le_of_ble_eq_true rfl) rfl (fun p e s m below meth c Q ls C hl S hend => ?_)
  have hl : lv_has ls 4 [(0, .ref (G.1 41)), (1, .int (oI v1))] := hl
  refine r_iconst C dX10_atPlaceOf_0 ?_
  refine lv_istore_n C.1 C.2.1 dX10_atPlaceOf_1 rfl hl (by decide) (lv' := [(2, .int (oI 0)), (0, .ref (G.1 41)), (1, .int (oI v1))]) rfl (fun ls hl => ?_)
  refine r_iconst C dX10_atPlaceOf_2 ?_
  refine lv_istore_n C.1 C.2.1 dX10_atPlaceOf_3 rfl hl (by decide) (lv' := [(3, .int (oI 0)), (2, .int (oI 0)), (0, .ref (G.1 41)), (1, .int (oI v1))]) rfl (fun ls hl => ?_)
  exact b_X10_atPlaceOf_b4 C hend FUEL v1 0 0 S (lv_sub hl [2, 3, 1, 0] rfl) hf
set_option maxRecDepth 100000 in
set_option maxHeartbeats 4000000 in
theorem ct_X10_policy (l : Launch) (G : Gd) (τ : Sg) {v1 : Int} {v2 : Int} {σ : Sg} {q : Int × Sg} (hf : f_X10_policy v1 v2 σ = some q) : Ctr l yX10_policy cX10_policy 3 (some .int) (rmk 2 45) G false τ [.ref (G.1 41), .int (oI v1), .int (oI v2)] σ q.2 (some (.int (oI q.1))) := by
  unfold f_X10_policy at hf
  refine CtrI.of (own := RX10) (plainFor_of_name (by decide)) (Nat.le_of_ble_eq_true rfl) rfl (fun p e s m below meth c Q ls C hl S hend => ?_)
  have hl : lv_has ls 3 [(0, .ref (G.1 41)), (1, .int (oI v1)), (2, .int (oI v2))] := hl
  refine lv_aload_n C.1 C.2.1 dX10_policy_0 rfl (lv_at hl 0 rfl) ?_
  refine r_iconst C dX10_policy_1 ?_
  refine p10_thrown C S tw_1061 dX10_policy_2 (fun H locs S => ?_)
  obtain ⟨σ1, S, hf⟩ := wr_s S hf
  refine lv_aload_n C.1 C.2.1 dX10_policy_5 rfl (lv_at hl 0 rfl) ?_
  refine lv_iload_n C.1 C.2.1 dX10_policy_6 rfl (lv_at hl 1 rfl) ?_
  obtain ⟨q2, hc3, hf⟩ := bd_o hf
  refine r_callVv C S (As := [.int (oI v1)]) (rest := []) (ct_X10_isPolicy l G τ hc3) mi_X10_isPolicy tw_1347 mv_X10_isPolicy (rvX10 S) ⟨rfl, rfl⟩ ⟨Nat.le_of_ble_eq_true rfl, Nat.le_of_ble_eq_true rfl⟩ ⟨Nat.zero_le _, Nat.zero_le _⟩ rfl hl.1 rfl (Nat.le_of_ble_eq_true rfl) dX10_policy_7 (fun H locs S => ?_)
  refine r_if_ne C rfl (tgt := 20) dX10_policy_10 (by decide) (fun h12 => ?_) (fun h12 => ?_)
  · replace hf := if_t hf h12
    refine lv_aload_n C.1 C.2.1 dX10_policy_13 rfl (lv_at hl 0 rfl) ?_
    refine r_iconst C dX10_policy_14 ?_
    refine p10_thrown C S tw_1061 dX10_policy_15 (fun H locs S => ?_)
    obtain ⟨σ4, S, hf⟩ := wr_s S hf
    refine r_iconst C dX10_policy_18 ?_
    cases hf
    exact hend _ _ _ _ S dX10_policy_19
  · replace hf := if_f hf h12
    refine lv_iload_n C.1 C.2.1 dX10_policy_20 rfl (lv_at hl 2 rfl) ?_
    by_cases hs0 : w32 v2 = 0
    · replace hf := if_t hf hs0
      refine r_tabIn C (tgt := 56) (v := 0) dX10_policy_21 hs0 (by decide) (by decide) rfl (by decide) ?_
      refine lv_aload_n C.1 C.2.1 dX10_policy_56 rfl (lv_at hl 0 rfl) ?_
      refine g10_x C S tw_1078 dX10_policy_57 ?_
      refine lv_iload_n C.1 C.2.1 dX10_policy_60 rfl (lv_at hl 1 rfl) ?_
      obtain ⟨hi5, hf⟩ := ck_o hf
      refine a_iald C S ar_45 hi5 dX10_policy_61 ?_
      cases hf
      exact hend _ _ _ _ S dX10_policy_62
    · replace hf := if_f hf hs0
      by_cases hs1 : w32 v2 = 1
      · replace hf := if_t hf hs1
        refine r_tabIn C (tgt := 63) (v := 1) dX10_policy_21 hs1 (by decide) (by decide) rfl (by decide) ?_
        refine lv_aload_n C.1 C.2.1 dX10_policy_63 rfl (lv_at hl 0 rfl) ?_
        refine g10_y C S tw_1079 dX10_policy_64 ?_
        refine lv_iload_n C.1 C.2.1 dX10_policy_67 rfl (lv_at hl 1 rfl) ?_
        obtain ⟨hi6, hf⟩ := ck_o hf
        refine a_iald C S ar_46 hi6 dX10_policy_68 ?_
        cases hf
        exact hend _ _ _ _ S dX10_policy_69
      · replace hf := if_f hf hs1
        by_cases hs2 : w32 v2 = 2
        · replace hf := if_t hf hs2
          refine r_tabIn C (tgt := 70) (v := 2) dX10_policy_21 hs2 (by decide) (by decide) rfl (by decide) ?_
          refine lv_aload_n C.1 C.2.1 dX10_policy_70 rfl (lv_at hl 0 rfl) ?_
          refine g10_sum C S tw_1080 dX10_policy_71 ?_
          refine lv_iload_n C.1 C.2.1 dX10_policy_74 rfl (lv_at hl 1 rfl) ?_
          obtain ⟨hi7, hf⟩ := ck_o hf
          refine a_iald C S ar_47 hi7 dX10_policy_75 ?_
          cases hf
          exact hend _ _ _ _ S dX10_policy_76
        · replace hf := if_f hf hs2
          by_cases hs3 : w32 v2 = 3
          · replace hf := if_t hf hs3
            refine r_tabIn C (tgt := 77) (v := 3) dX10_policy_21 hs3 (by decide) (by decide) rfl (by decide) ?_
            refine lv_aload_n C.1 C.2.1 dX10_policy_77 rfl (lv_at hl 0 rfl) ?_
            refine g10_peril C S tw_1081 dX10_policy_78 ?_
            refine lv_iload_n C.1 C.2.1 dX10_policy_81 rfl (lv_at hl 1 rfl) ?_
            obtain ⟨hi8, hf⟩ := ck_o hf
            refine a_iald C S ar_48 hi8 dX10_policy_82 ?_
            cases hf
            exact hend _ _ _ _ S dX10_policy_83
          · replace hf := if_f hf hs3
            by_cases hs4 : w32 v2 = 4
            · replace hf := if_t hf hs4
              refine r_tabIn C (tgt := 84) (v := 4) dX10_policy_21 hs4 (by decide) (by decide) rfl (by decide) ?_
              refine lv_aload_n C.1 C.2.1 dX10_policy_84 rfl (lv_at hl 0 rfl) ?_
              refine lv_iload_n C.1 C.2.1 dX10_policy_85 rfl (lv_at hl 1 rfl) ?_
              obtain ⟨q9, hc10, hf⟩ := bd_o hf
              refine r_callVv C S (As := [.int (oI v1)]) (rest := []) (ct_X10_atPlaceOf l G τ hc10) mi_X10_atPlaceOf tw_1381 mv_X10_atPlaceOf (rvX10 S) ⟨rfl, rfl⟩ ⟨Nat.le_of_ble_eq_true rfl, Nat.le_of_ble_eq_true rfl⟩ ⟨Nat.zero_le _, Nat.zero_le _⟩ rfl hl.1 rfl (Nat.le_of_ble_eq_true rfl) dX10_policy_86 (fun H locs S => ?_)
              cases hf
              exact hend _ _ _ _ S dX10_policy_89
            · replace hf := if_f hf hs4
              refine r_tabOut C (tgt := 90) dX10_policy_21 (by omega) (by decide) ?_
              refine lv_aload_n C.1 C.2.1 dX10_policy_90 rfl (lv_at hl 0 rfl) ?_
              refine r_iconst C dX10_policy_91 ?_
              refine p10_thrown C S tw_1061 dX10_policy_92 (fun H locs S => ?_)
              obtain ⟨σ11, S, hf⟩ := wr_s S hf
              refine r_iconst C dX10_policy_95 ?_
              cases hf
              exact hend _ _ _ _ S dX10_policy_96
set_option maxRecDepth 100000 in
set_option maxHeartbeats 4000000 in
theorem b_X10_bits_b4 (C : Cx p s m args c RX10 cX10_bits 3) {q : Int} (hend : EndR p l e (rmk 0 0) s m args below meth c Q G false τ cX10_bits .ireturn [.int (oI q)] σ) : ∀ (n : Nat) {H : Heap} {locs : List Loc} {ls : Array Slot} (v0 : Int) (v1 : Int) (v2 : Int) (S : St G false τ σ s H locs) (hl : lv_has ls 3 [(0, .int (oI v0)), (1, .int (oI v1)), (2, .int (oI v2))]) (hf : f_X10_bits_b4 σ n v0 v1 v2 = some q), W p l e (rmk 0 0) s m args below meth c H locs 0 0 Q (F0 m 4 ls []) := by
  intro n
  induction n with
  | zero => intro H locs ls v0 v1 v2 S hl hf; cases hf
  | succ n ih =>
    intro H locs ls v0 v1 v2 S hl hf
    have hk4 := @ih
    rw [f_X10_bits_b4] at hf
    refine lv_iload_n C.1 C.2.1 dX10_bits_4 rfl (lv_at hl 2 rfl) ?_
    refine r_bipush C dX10_bits_5 (by decide) ?_
    refine r_icmp_gt C rfl (show w32 24 = 24 by decide) (tgt := 24) dX10_bits_7 (by decide) (fun h1 => ?_) (fun h1 => ?_)
    · replace hf := if_t hf h1
      refine lv_iload_n C.1 C.2.1 dX10_bits_10 rfl (lv_at hl 1 rfl) ?_
      refine lv_iload_n C.1 C.2.1 dX10_bits_11 rfl (lv_at hl 0 rfl) ?_
      refine lv_iload_n C.1 C.2.1 dX10_bits_12 rfl (lv_at hl 2 rfl) ?_
      refine r_ishr C (y1 := (u32 v2 % 32)) rfl dX10_bits_13 ?_
      refine r_iconst C dX10_bits_14 ?_
      refine r_iand C rfl (show u32 1 = 1 by decide) dX10_bits_15 ?_
      refine r_iadd C dX10_bits_16 ?_
      refine lv_istore_n C.1 C.2.1 dX10_bits_17 rfl hl (by decide) (lv' := [(1, .int (oI (v1 + ((((u32 (w32 v0 >>> (u32 v2 % 32))) &&& 1 : Nat) : Int))))), (0, .int (oI v0)), (2, .int (oI v2))]) rfl (fun ls hl => ?_)
      refine r_iinc C dX10_bits_18 hl (k := 2) rfl (by decide) (lv' := [(2, .int (oI (v2 + 1))), (1, .int (oI (v1 + ((((u32 (w32 v0 >>> (u32 v2 % 32))) &&& 1 : Nat) : Int))))), (0, .int (oI v0))]) rfl (fun ls hl => ?_)
      refine lv_goto C.1 C.2.1 (tgt := 4) dX10_bits_21 (by decide) ?_
      exact hk4 v0 (v1 + ((((u32 (w32 v0 >>> (u32 v2 % 32))) &&& 1 : Nat) : Int))) (v2 + 1) S (lv_sub hl [2, 1, 0] rfl) hf
    · replace hf := if_f hf h1
      refine lv_iload_n C.1 C.2.1 dX10_bits_24 rfl (lv_at hl 1 rfl) ?_
      cases hf
      exact hend _ _ _ _ S dX10_bits_25
set_option maxRecDepth 100000 in
set_option maxHeartbeats 4000000 in
theorem ct_X10_bits (l : Launch) (G : Gd) (τ : Sg) {v0 : Int} {σ : Sg} {q : Int} (hf : f_X10_bits v0 σ = some q) : Ctr l yX10_bits cX10_bits 3 (some .int) (rmk 0 0) G false τ [.int (oI v0)] σ σ (some (.int (oI q))) := by
  unfold f_X10_bits at hf
  refine CtrI.of (own := RX10) (plainFor_of_name (by decide)) (Nat.le_of_ble_eq_true rfl) rfl (fun p e s m below meth c Q ls C hl S hend => ?_)
  have hl : lv_has ls 3 [(0, .int (oI v0))] := hl
  refine r_iconst C dX10_bits_0 ?_
  refine lv_istore_n C.1 C.2.1 dX10_bits_1 rfl hl (by decide) (lv' := [(1, .int (oI 0)), (0, .int (oI v0))]) rfl (fun ls hl => ?_)
  refine r_iconst C dX10_bits_2 ?_
  refine lv_istore_n C.1 C.2.1 dX10_bits_3 rfl hl (by decide) (lv' := [(2, .int (oI 0)), (1, .int (oI 0)), (0, .int (oI v0))]) rfl (fun ls hl => ?_)
  exact b_X10_bits_b4 C hend FUEL v0 0 0 S (lv_sub hl [2, 1, 0] rfl) hf
set_option maxRecDepth 100000 in
set_option maxHeartbeats 4000000 in
theorem ct_X10_its (l : Launch) (G : Gd) (τ : Sg) {v1 : Int} {v2 : Int} {σ : Sg} {q : Int × Sg} (hf : f_X10_its v1 v2 σ = some q) : Ctr l yX10_its cX10_its 3 (some .int) (rmk 5 140) G false τ [.ref (G.1 41), .int (oI v1), .int (oI v2)] σ q.2 (some (.int (oI q.1))) := by
  unfold f_X10_its at hf
  refine CtrI.of (own := RX10) (plainFor_of_name (by decide)) (Nat.le_of_ble_eq_true rfl) rfl (fun p e s m below meth c Q ls C hl S hend => ?_)
  have hl : lv_has ls 3 [(0, .ref (G.1 41)), (1, .int (oI v1)), (2, .int (oI v2))] := hl
  refine lv_aload_n C.1 C.2.1 dX10_its_0 rfl (lv_at hl 0 rfl) ?_
  refine r_iconst C dX10_its_1 ?_
  refine p10_thrown C S tw_1061 dX10_its_2 (fun H locs S => ?_)
  obtain ⟨σ1, S, hf⟩ := wr_s S hf
  refine lv_aload_n C.1 C.2.1 dX10_its_5 rfl (lv_at hl 0 rfl) ?_
  refine lv_iload_n C.1 C.2.1 dX10_its_6 rfl (lv_at hl 1 rfl) ?_
  obtain ⟨q2, hc3, hf⟩ := bd_o hf
  refine r_callVv C S (As := [.int (oI v1)]) (rest := []) (ct_X10_isTreaty l G τ hc3) mi_X10_isTreaty tw_1373 mv_X10_isTreaty (rvX10 S) ⟨rfl, rfl⟩ ⟨Nat.le_of_ble_eq_true rfl, Nat.le_of_ble_eq_true rfl⟩ ⟨Nat.zero_le _, Nat.zero_le _⟩ rfl hl.1 rfl (Nat.le_of_ble_eq_true rfl) dX10_its_7 (fun H locs S => ?_)
  refine r_if_ne C rfl (tgt := 15) dX10_its_10 (by decide) (fun h20 => ?_) (fun h20 => ?_)
  · replace hf := if_t hf h20
    refine r_iconst C dX10_its_13 ?_
    cases hf
    exact hend _ _ _ _ S dX10_its_14
  · replace hf := if_f hf h20
    refine lv_iload_n C.1 C.2.1 dX10_its_15 rfl (lv_at hl 2 rfl) ?_
    by_cases hs0 : w32 v2 = 0
    · replace hf := if_t hf hs0
      refine r_tabIn C (tgt := 64) (v := 0) dX10_its_16 hs0 (by decide) (by decide) rfl (by decide) ?_
      refine lv_aload_n C.1 C.2.1 dX10_its_64 rfl (lv_at hl 0 rfl) ?_
      refine g10_perils C S tw_1083 dX10_its_65 ?_
      refine lv_iload_n C.1 C.2.1 dX10_its_68 rfl (lv_at hl 1 rfl) ?_
      obtain ⟨hi4, hf⟩ := ck_o hf
      refine a_iald C S ar_50 hi4 dX10_its_69 ?_
      cases hf
      exact hend _ _ _ _ S dX10_its_70
    · replace hf := if_f hf hs0
      by_cases hs1 : w32 v2 = 1
      · replace hf := if_t hf hs1
        refine r_tabIn C (tgt := 71) (v := 1) dX10_its_16 hs1 (by decide) (by decide) rfl (by decide) ?_
        refine lv_aload_n C.1 C.2.1 dX10_its_71 rfl (lv_at hl 0 rfl) ?_
        refine g10_radius C S tw_1084 dX10_its_72 ?_
        refine lv_iload_n C.1 C.2.1 dX10_its_75 rfl (lv_at hl 1 rfl) ?_
        obtain ⟨hi5, hf⟩ := ck_o hf
        refine a_iald C S ar_51 hi5 dX10_its_76 ?_
        cases hf
        exact hend _ _ _ _ S dX10_its_77
      · replace hf := if_f hf hs1
        by_cases hs2 : w32 v2 = 2
        · replace hf := if_t hf hs2
          refine r_tabIn C (tgt := 78) (v := 2) dX10_its_16 hs2 (by decide) (by decide) rfl (by decide) ?_
          refine lv_aload_n C.1 C.2.1 dX10_its_78 rfl (lv_at hl 0 rfl) ?_
          refine g10_limit C S tw_1085 dX10_its_79 ?_
          refine lv_iload_n C.1 C.2.1 dX10_its_82 rfl (lv_at hl 1 rfl) ?_
          obtain ⟨hi6, hf⟩ := ck_o hf
          refine a_iald C S ar_52 hi6 dX10_its_83 ?_
          cases hf
          exact hend _ _ _ _ S dX10_its_84
        · replace hf := if_f hf hs2
          by_cases hs3 : w32 v2 = 3
          · replace hf := if_t hf hs3
            refine r_tabIn C (tgt := 85) (v := 3) dX10_its_16 hs3 (by decide) (by decide) rfl (by decide) ?_
            refine lv_aload_n C.1 C.2.1 dX10_its_85 rfl (lv_at hl 0 rfl) ?_
            refine lv_iload_n C.1 C.2.1 dX10_its_86 rfl (lv_at hl 1 rfl) ?_
            obtain ⟨q7, hc8, hf⟩ := bd_o hf
            refine r_callVv C S (As := [.int (oI v1)]) (rest := []) (ct_X10_ofTreaty l G τ hc8) mi_X10_ofTreaty tw_1277 mv_X10_ofTreaty (rvX10 S) ⟨rfl, rfl⟩ ⟨Nat.le_of_ble_eq_true rfl, Nat.le_of_ble_eq_true rfl⟩ ⟨Nat.zero_le _, Nat.zero_le _⟩ rfl hl.1 rfl (Nat.le_of_ble_eq_true rfl) dX10_its_87 (fun H locs S => ?_)
            obtain ⟨q9, hc10, hf⟩ := bd_o hf
            refine r_callSv C S (As := [.int (oI q7)]) (rest := []) (ct_X10_bits l G τ hc10) mi_X10_bits tw_1389 ms_X10_bits ⟨rfl, rfl⟩ ⟨Nat.le_of_ble_eq_true rfl, Nat.le_of_ble_eq_true rfl⟩ ⟨Nat.zero_le _, Nat.zero_le _⟩ rfl hl.1 rfl (Nat.le_of_ble_eq_true rfl) dX10_its_90 (fun H locs S => ?_)
            cases hf
            exact hend _ _ _ _ S dX10_its_93
          · replace hf := if_f hf hs3
            by_cases hs4 : w32 v2 = 4
            · replace hf := if_t hf hs4
              refine r_tabIn C (tgt := 94) (v := 4) dX10_its_16 hs4 (by decide) (by decide) rfl (by decide) ?_
              refine lv_aload_n C.1 C.2.1 dX10_its_94 rfl (lv_at hl 0 rfl) ?_
              refine lv_aload_n C.1 C.2.1 dX10_its_95 rfl (lv_at hl 0 rfl) ?_
              refine lv_iload_n C.1 C.2.1 dX10_its_96 rfl (lv_at hl 1 rfl) ?_
              obtain ⟨q11, hc12, hf⟩ := bd_o hf
              refine r_callVv C S (As := [.int (oI v1)]) (rest := [.ref (G.1 41)]) (ct_X10_ofTreaty l G τ hc12) mi_X10_ofTreaty tw_1277 mv_X10_ofTreaty (rvX10 S) ⟨rfl, rfl⟩ ⟨Nat.le_of_ble_eq_true rfl, Nat.le_of_ble_eq_true rfl⟩ ⟨Nat.zero_le _, Nat.zero_le _⟩ rfl hl.1 rfl (Nat.le_of_ble_eq_true rfl) dX10_its_97 (fun H locs S => ?_)
              obtain ⟨q13, hc14, hf⟩ := bd_o hf
              refine r_callVv C S (As := [.int (oI q11)]) (rest := []) (ct_X10_sumOf l G τ hc14) mi_X10_sumOf tw_1392 mv_X10_sumOf (rvX10 S) ⟨rfl, rfl⟩ ⟨Nat.le_of_ble_eq_true rfl, Nat.le_of_ble_eq_true rfl⟩ ⟨Nat.zero_le _, Nat.zero_le _⟩ rfl hl.1 rfl (Nat.le_of_ble_eq_true rfl) dX10_its_100 (fun H locs S => ?_)
              cases hf
              exact hend _ _ _ _ S dX10_its_103
            · replace hf := if_f hf hs4
              by_cases hs5 : w32 v2 = 5
              · replace hf := if_t hf hs5
                refine r_tabIn C (tgt := 104) (v := 5) dX10_its_16 hs5 (by decide) (by decide) rfl (by decide) ?_
                refine lv_aload_n C.1 C.2.1 dX10_its_104 rfl (lv_at hl 0 rfl) ?_
                refine lv_iload_n C.1 C.2.1 dX10_its_105 rfl (lv_at hl 1 rfl) ?_
                obtain ⟨q15, hc16, hf⟩ := bd_o hf
                refine r_callVv C S (As := [.int (oI v1)]) (rest := []) (ct_X10_isPassed l G τ hc16) mi_X10_isPassed tw_1269 mv_X10_isPassed (rvX10 S) ⟨rfl, rfl⟩ ⟨Nat.le_of_ble_eq_true rfl, Nat.le_of_ble_eq_true rfl⟩ ⟨Nat.zero_le _, Nat.zero_le _⟩ rfl hl.1 rfl (Nat.le_of_ble_eq_true rfl) dX10_its_106 (fun H locs S => ?_)
                refine r_if_eq C rfl (tgt := 116) dX10_its_109 (by decide) (fun h17 => ?_) (fun h17 => ?_)
                · replace hf := if_t hf h17
                  refine r_iconst C dX10_its_116 ?_
                  cases hf
                  exact hend _ _ _ _ S dX10_its_117
                · replace hf := if_f hf h17
                  refine r_iconst C dX10_its_112 ?_
                  refine lv_goto C.1 C.2.1 (tgt := 117) dX10_its_113 (by decide) ?_
                  cases hf
                  exact hend _ _ _ _ S dX10_its_117
              · replace hf := if_f hf hs5
                by_cases hs6 : w32 v2 = 6
                · replace hf := if_t hf hs6
                  refine r_tabIn C (tgt := 118) (v := 6) dX10_its_16 hs6 (by decide) (by decide) rfl (by decide) ?_
                  refine lv_aload_n C.1 C.2.1 dX10_its_118 rfl (lv_at hl 0 rfl) ?_
                  refine g10_alarm C S tw_1086 dX10_its_119 ?_
                  refine lv_iload_n C.1 C.2.1 dX10_its_122 rfl (lv_at hl 1 rfl) ?_
                  obtain ⟨hi18, hf⟩ := ck_o hf
                  refine a_iald C S ar_53 hi18 dX10_its_123 ?_
                  cases hf
                  exact hend _ _ _ _ S dX10_its_124
                · replace hf := if_f hf hs6
                  by_cases hs7 : w32 v2 = 7
                  · replace hf := if_t hf hs7
                    refine r_tabIn C (tgt := 125) (v := 7) dX10_its_16 hs7 (by decide) (by decide) rfl (by decide) ?_
                    refine lv_aload_n C.1 C.2.1 dX10_its_125 rfl (lv_at hl 0 rfl) ?_
                    refine g10_alarms C S tw_1087 dX10_its_126 ?_
                    refine lv_iload_n C.1 C.2.1 dX10_its_129 rfl (lv_at hl 1 rfl) ?_
                    obtain ⟨hi19, hf⟩ := ck_o hf
                    refine a_iald C S ar_54 hi19 dX10_its_130 ?_
                    cases hf
                    exact hend _ _ _ _ S dX10_its_131
                  · replace hf := if_f hf hs7
                    refine r_tabOut C (tgt := 132) dX10_its_16 (by omega) (by decide) ?_
                    refine r_iconst C dX10_its_132 ?_
                    cases hf
                    exact hend _ _ _ _ S dX10_its_133
set_option maxRecDepth 100000 in
set_option maxHeartbeats 4000000 in
theorem ct_X10_worst (l : Launch) (G : Gd) (τ : Sg) {v1 : Int} {v2 : Int} {σ : Sg} {q : Int × Sg} (hf : f_X10_worst v1 v2 σ = some q) : Ctr l yX10_worst cX10_worst 4 (some .int) (rmk 4 119) G false τ [.ref (G.1 41), .int (oI v1), .int (oI v2)] σ q.2 (some (.int (oI q.1))) := by
  unfold f_X10_worst at hf
  refine CtrI.of (own := RX10) (plainFor_of_name (by decide)) (Nat.le_of_ble_eq_true rfl) rfl (fun p e s m below meth c Q ls C hl S hend => ?_)
  have hl : lv_has ls 4 [(0, .ref (G.1 41)), (1, .int (oI v1)), (2, .int (oI v2))] := hl
  refine lv_aload_n C.1 C.2.1 dX10_worst_0 rfl (lv_at hl 0 rfl) ?_
  refine r_iconst C dX10_worst_1 ?_
  refine p10_thrown C S tw_1061 dX10_worst_2 (fun H locs S => ?_)
  obtain ⟨σ1, S, hf⟩ := wr_s S hf
  refine lv_aload_n C.1 C.2.1 dX10_worst_5 rfl (lv_at hl 0 rfl) ?_
  refine lv_iload_n C.1 C.2.1 dX10_worst_6 rfl (lv_at hl 1 rfl) ?_
  obtain ⟨q2, hc3, hf⟩ := bd_o hf
  refine r_callVv C S (As := [.int (oI v1)]) (rest := []) (ct_X10_isTreaty l G τ hc3) mi_X10_isTreaty tw_1373 mv_X10_isTreaty (rvX10 S) ⟨rfl, rfl⟩ ⟨Nat.le_of_ble_eq_true rfl, Nat.le_of_ble_eq_true rfl⟩ ⟨Nat.zero_le _, Nat.zero_le _⟩ rfl hl.1 rfl (Nat.le_of_ble_eq_true rfl) dX10_worst_7 (fun H locs S => ?_)
  refine r_if_eq C rfl (tgt := 22) dX10_worst_10 (by decide) (fun h13 => ?_) (fun h13 => ?_)
  · replace hf := if_t hf h13
    refine r_ldcw C tw_1400 dX10_worst_22 ?_
    cases hf
    exact hend _ _ _ _ S dX10_worst_25
  · replace hf := if_f hf h13
    refine lv_iload_n C.1 C.2.1 dX10_worst_13 rfl (lv_at hl 2 rfl) ?_
    refine r_if_lt C rfl (tgt := 22) dX10_worst_14 (by decide) (fun h12 => ?_) (fun h12 => ?_)
    · replace hf := if_t hf h12
      refine r_ldcw C tw_1400 dX10_worst_22 ?_
      cases hf
      exact hend _ _ _ _ S dX10_worst_25
    · replace hf := if_f hf h12
      refine lv_iload_n C.1 C.2.1 dX10_worst_17 rfl (lv_at hl 2 rfl) ?_
      refine r_iconst C dX10_worst_18 ?_
      refine r_icmp_le C rfl (show w32 2 = 2 by decide) (tgt := 26) dX10_worst_19 (by decide) (fun h11 => ?_) (fun h11 => ?_)
      · replace hf := if_t hf h11
        refine lv_aload_n C.1 C.2.1 dX10_worst_26 rfl (lv_at hl 0 rfl) ?_
        refine lv_iload_n C.1 C.2.1 dX10_worst_27 rfl (lv_at hl 1 rfl) ?_
        obtain ⟨q4, hc5, hf⟩ := bd_o hf
        refine r_callVv C S (As := [.int (oI v1)]) (rest := []) (ct_X10_worstOf l G τ hc5) mi_X10_worstOf tw_1273 mv_X10_worstOf (rvX10 S) ⟨rfl, rfl⟩ ⟨Nat.le_of_ble_eq_true rfl, Nat.le_of_ble_eq_true rfl⟩ ⟨Nat.zero_le _, Nat.zero_le _⟩ rfl hl.1 rfl (Nat.le_of_ble_eq_true rfl) dX10_worst_28 (fun H locs S => ?_)
        refine lv_istore_n C.1 C.2.1 dX10_worst_31 rfl hl (by decide) (lv' := [(3, .int (oI q4.1)), (0, .ref (G.1 41)), (1, .int (oI v1)), (2, .int (oI v2))]) rfl (fun ls hl => ?_)
        refine lv_iload_n C.1 C.2.1 dX10_worst_32 rfl (lv_at hl 3 rfl) ?_
        refine r_if_ne C rfl (tgt := 40) dX10_worst_33 (by decide) (fun h10 => ?_) (fun h10 => ?_)
        · replace hf := if_t hf h10
          refine lv_iload_n C.1 C.2.1 dX10_worst_36 rfl (lv_at hl 0 rfl) ?_
          refine lv_goto C.1 C.2.1 (tgt := 63) dX10_worst_37 (by decide) ?_
          cases hf
          exact hend _ _ _ _ S dX10_worst_63
        · replace hf := if_f hf h10
          refine lv_iload_n C.1 C.2.1 dX10_worst_40 rfl (lv_at hl 3 rfl) ?_
          refine r_iconst C dX10_worst_41 ?_
          refine r_icmp_ne C rfl (show w32 1 = 1 by decide) (tgt := 55) dX10_worst_42 (by decide) (fun h9 => ?_) (fun h9 => ?_)
          · replace hf := if_t hf h9
            refine lv_aload_n C.1 C.2.1 dX10_worst_45 rfl (lv_at hl 1 rfl) ?_
            refine g10_bestSet C S tw_1098 dX10_worst_46 ?_
            obtain ⟨q6, hc7, hf⟩ := bd_o hf
            refine r_callSv C S (As := [.int (oI (q4.2 41 37))]) (rest := []) (ct_X10_bits l G τ hc7) mi_X10_bits tw_1389 ms_X10_bits ⟨rfl, rfl⟩ ⟨Nat.le_of_ble_eq_true rfl, Nat.le_of_ble_eq_true rfl⟩ ⟨Nat.zero_le _, Nat.zero_le _⟩ rfl hl.1 rfl (Nat.le_of_ble_eq_true rfl) dX10_worst_49 (fun H locs S => ?_)
            refine lv_goto C.1 C.2.1 (tgt := 63) dX10_worst_52 (by decide) ?_
            cases hf
            exact hend _ _ _ _ S dX10_worst_63
          · replace hf := if_f hf h9
            refine lv_aload_n C.1 C.2.1 dX10_worst_55 rfl (lv_at hl 1 rfl) ?_
            refine g10_limit C S tw_1085 dX10_worst_56 ?_
            refine lv_iload_n C.1 C.2.1 dX10_worst_59 rfl (lv_at hl 2 rfl) ?_
            obtain ⟨hi8, hf⟩ := ck_o hf
            refine a_iald C S ar_52 hi8 dX10_worst_60 ?_
            refine lv_iload_n C.1 C.2.1 dX10_worst_61 rfl (lv_at hl 0 rfl) ?_
            refine r_isub C dX10_worst_62 ?_
            cases hf
            exact hend _ _ _ _ S dX10_worst_63
      · replace hf := if_f hf h11
        refine r_ldcw C tw_1400 dX10_worst_22 ?_
        cases hf
        exact hend _ _ _ _ S dX10_worst_25
set_option maxRecDepth 100000 in
set_option maxHeartbeats 4000000 in
theorem b_X10_inWorst_b62 (C : Cx p s m args c RX10 cX10_inWorst 5) {q : Int × Sg} {k30 : Int → Int → Sg → Option (Int × Sg)} (hend : EndR p l e (rmk 4 119) s m args below meth c Q G false τ cX10_inWorst .ireturn [.int (oI q.1)] q.2) (hk30 : ∀ {H : Heap} {locs : List Loc} {ls : Array Slot} {σ : Sg} (v3 : Int) (v4 : Int), St G false τ σ s H locs → lv_has ls 5 [(0, .ref (G.1 41)), (3, .int (oI v3)), (4, .int (oI v4))] → k30 v3 v4 σ = some q → W p l e (rmk 4 119) s m args below meth c H locs 0 0 Q (F0 m 30 ls [])) {H : Heap} {locs : List Loc} {ls : Array Slot} {σ : Sg} (v3 : Int) (v4 : Int) (S : St G false τ σ s H locs) (hl : lv_has ls 5 [(0, .ref (G.1 41)), (3, .int (oI v3)), (4, .int (oI v4))]) (hf : f_X10_inWorst_b62 k30 v3 v4 σ = some q) : W p l e (rmk 4 119) s m args below meth c H locs 0 0 Q (F0 m 62 ls []) := by
  unfold f_X10_inWorst_b62 at hf
  refine r_iinc C dX10_inWorst_62 hl (k := 2) rfl (by decide) (lv' := [(4, .int (oI (v4 + 1))), (0, .ref (G.1 41)), (3, .int (oI v3))]) rfl (fun ls hl => ?_)
  refine lv_goto C.1 C.2.1 (tgt := 30) dX10_inWorst_65 (by decide) ?_
  exact hk30 v3 (v4 + 1) S (lv_sub hl [1, 2, 0] rfl) hf
set_option maxRecDepth 100000 in
set_option maxHeartbeats 4000000 in
theorem b_X10_inWorst_b30 (C : Cx p s m args c RX10 cX10_inWorst 5) {q : Int × Sg} (hend : EndR p l e (rmk 4 119) s m args below meth c Q G false τ cX10_inWorst .ireturn [.int (oI q.1)] q.2) : ∀ (n : Nat) {H : Heap} {locs : List Loc} {ls : Array Slot} {σ : Sg} (v3 : Int) (v4 : Int) (S : St G false τ σ s H locs) (hl : lv_has ls 5 [(0, .ref (G.1 41)), (3, .int (oI v3)), (4, .int (oI v4))]) (hf : f_X10_inWorst_b30 n v3 v4 σ = some q), W p l e (rmk 4 119) s m args below meth c H locs 0 0 Q (F0 m 30 ls []) := by
  intro n
  induction n with
  | zero => intro H locs ls σ v3 v4 S hl hf; cases hf
  | succ n ih =>
    intro H locs ls σ v3 v4 S hl hf
    have hk30 := @ih
    rw [f_X10_inWorst_b30] at hf
    refine lv_iload C.1 C.2.1 dX10_inWorst_30 (lv_at hl 2 rfl) ?_
    refine r_bipush C dX10_inWorst_32 (by decide) ?_
    refine r_icmp_ge C rfl (show w32 24 = 24 by decide) (tgt := 68) dX10_inWorst_34 (by decide) (fun h10 => ?_) (fun h10 => ?_)
    · replace hf := if_t hf h10
      refine lv_aload_n C.1 C.2.1 dX10_inWorst_37 rfl (lv_at hl 0 rfl) ?_
      refine g10_bestSet C S tw_1098 dX10_inWorst_38 ?_
      refine lv_iload C.1 C.2.1 dX10_inWorst_41 (lv_at hl 2 rfl) ?_
      obtain ⟨q6, hc7, hf⟩ := bd_o hf
      refine r_callSv C S (As := [.int (oI (σ 41 37)), .int (oI v4)]) (rest := []) (ct_X10_has l G τ hc7) mi_X10_has tw_1285 ms_X10_has ⟨rfl, rfl⟩ ⟨Nat.le_of_ble_eq_true rfl, Nat.le_of_ble_eq_true rfl⟩ ⟨Nat.zero_le _, Nat.zero_le _⟩ rfl hl.1 rfl (Nat.le_of_ble_eq_true rfl) dX10_inWorst_43 (fun H locs S => ?_)
      refine r_if_ne C rfl (tgt := 52) dX10_inWorst_46 (by decide) (fun h9 => ?_) (fun h9 => ?_)
      · replace hf := if_t hf h9
        refine lv_goto C.1 C.2.1 (tgt := 62) dX10_inWorst_49 (by decide) ?_
        exact b_X10_inWorst_b62 C hend hk30 v3 v4 S (lv_sub hl [0, 1, 2] rfl) hf
      · replace hf := if_f hf h9
        refine lv_iload_n C.1 C.2.1 dX10_inWorst_52 rfl (lv_at hl 1 rfl) ?_
        refine r_if_ne C rfl (tgt := 59) dX10_inWorst_53 (by decide) (fun h8 => ?_) (fun h8 => ?_)
        · replace hf := if_t hf h8
          refine lv_iload C.1 C.2.1 dX10_inWorst_56 (lv_at hl 2 rfl) ?_
          cases hf
          exact hend _ _ _ _ S dX10_inWorst_58
        · replace hf := if_f hf h8
          refine r_iinc C dX10_inWorst_59 hl (k := 1) rfl (by decide) (lv' := [(3, .int (oI (v3 + (-1)))), (0, .ref (G.1 41)), (4, .int (oI v4))]) rfl (fun ls hl => ?_)
          exact b_X10_inWorst_b62 C hend hk30 (v3 + (-1)) v4 S (lv_sub hl [1, 0, 2] rfl) hf
    · replace hf := if_f hf h10
      refine r_bipush C dX10_inWorst_68 (by decide) ?_
      cases hf
      exact hend _ _ _ _ S dX10_inWorst_70
set_option maxRecDepth 100000 in
set_option maxHeartbeats 4000000 in
theorem ct_X10_inWorst (l : Launch) (G : Gd) (τ : Sg) {v1 : Int} {v2 : Int} {σ : Sg} {q : Int × Sg} (hf : f_X10_inWorst v1 v2 σ = some q) : Ctr l yX10_inWorst cX10_inWorst 5 (some .int) (rmk 4 119) G false τ [.ref (G.1 41), .int (oI v1), .int (oI v2)] σ q.2 (some (.int (oI q.1))) := by
  unfold f_X10_inWorst at hf
  refine CtrI.of (own := RX10) (plainFor_of_name (by decide)) (Nat.le_of_ble_eq_true rfl) rfl (fun p e s m below meth c Q ls C hl S hend => ?_)
  have hl : lv_has ls 5 [(0, .ref (G.1 41)), (1, .int (oI v1)), (2, .int (oI v2))] := hl
  refine lv_aload_n C.1 C.2.1 dX10_inWorst_0 rfl (lv_at hl 0 rfl) ?_
  refine r_iconst C dX10_inWorst_1 ?_
  refine p10_thrown C S tw_1061 dX10_inWorst_2 (fun H locs S => ?_)
  obtain ⟨σ1, S, hf⟩ := wr_s S hf
  refine lv_aload_n C.1 C.2.1 dX10_inWorst_5 rfl (lv_at hl 0 rfl) ?_
  refine lv_iload_n C.1 C.2.1 dX10_inWorst_6 rfl (lv_at hl 1 rfl) ?_
  obtain ⟨q2, hc3, hf⟩ := bd_o hf
  refine r_callVv C S (As := [.int (oI v1)]) (rest := []) (ct_X10_isTreaty l G τ hc3) mi_X10_isTreaty tw_1373 mv_X10_isTreaty (rvX10 S) ⟨rfl, rfl⟩ ⟨Nat.le_of_ble_eq_true rfl, Nat.le_of_ble_eq_true rfl⟩ ⟨Nat.zero_le _, Nat.zero_le _⟩ rfl hl.1 rfl (Nat.le_of_ble_eq_true rfl) dX10_inWorst_7 (fun H locs S => ?_)
  refine r_if_eq C rfl (tgt := 17) dX10_inWorst_10 (by decide) (fun h12 => ?_) (fun h12 => ?_)
  · replace hf := if_t hf h12
    refine r_iconst C dX10_inWorst_17 ?_
    cases hf
    exact hend _ _ _ _ S dX10_inWorst_18
  · replace hf := if_f hf h12
    refine lv_iload_n C.1 C.2.1 dX10_inWorst_13 rfl (lv_at hl 2 rfl) ?_
    refine r_if_ge C rfl (tgt := 19) dX10_inWorst_14 (by decide) (fun h11 => ?_) (fun h11 => ?_)
    · replace hf := if_t hf h11
      refine r_iconst C dX10_inWorst_17 ?_
      cases hf
      exact hend _ _ _ _ S dX10_inWorst_18
    · replace hf := if_f hf h11
      refine lv_aload_n C.1 C.2.1 dX10_inWorst_19 rfl (lv_at hl 0 rfl) ?_
      refine lv_iload_n C.1 C.2.1 dX10_inWorst_20 rfl (lv_at hl 1 rfl) ?_
      obtain ⟨q4, hc5, hf⟩ := bd_o hf
      refine r_callVv C S (As := [.int (oI v1)]) (rest := []) (ct_X10_worstOf l G τ hc5) mi_X10_worstOf tw_1273 mv_X10_worstOf (rvX10 S) ⟨rfl, rfl⟩ ⟨Nat.le_of_ble_eq_true rfl, Nat.le_of_ble_eq_true rfl⟩ ⟨Nat.zero_le _, Nat.zero_le _⟩ rfl hl.1 rfl (Nat.le_of_ble_eq_true rfl) dX10_inWorst_21 (fun H locs S => ?_)
      refine lv_pop C.1 C.2.1 dX10_inWorst_24 rfl ?_
      refine lv_iload_n C.1 C.2.1 dX10_inWorst_25 rfl (lv_at hl 2 rfl) ?_
      refine lv_istore_n C.1 C.2.1 dX10_inWorst_26 rfl hl (by decide) (lv' := [(3, .int (oI v2)), (0, .ref (G.1 41)), (1, .int (oI v1)), (2, .int (oI v2))]) rfl (fun ls hl => ?_)
      refine r_iconst C dX10_inWorst_27 ?_
      refine lv_istore C.1 C.2.1 dX10_inWorst_28 hl (by decide) (lv' := [(4, .int (oI 0)), (3, .int (oI v2)), (0, .ref (G.1 41)), (1, .int (oI v1)), (2, .int (oI v2))]) rfl (fun ls hl => ?_)
      exact b_X10_inWorst_b30 C hend FUEL v2 0 S (lv_sub hl [2, 1, 0] rfl) hf
set_option maxRecDepth 100000 in
set_option maxHeartbeats 4000000 in
theorem b_X10_boundOf_b54 (C : Cx p s m args c RX10 cX10_boundOf 8) {q : Int × Sg} {k3 : Int → Int → Int → Int → Int → Sg → Option (Int × Sg)} (hend : EndR p l e (rmk 2 72) s m args below meth c Q G false τ cX10_boundOf .ireturn [.int (oI q.1)] q.2) (hk3 : ∀ {H : Heap} {locs : List Loc} {ls : Array Slot} {σ : Sg} (v1 : Int) (v2 : Int) (v3 : Int) (v4 : Int) (v5 : Int), St G false τ σ s H locs → lv_has ls 8 [(0, .ref (G.1 41)), (1, .int (oI v1)), (2, .int (oI v2)), (3, .int (oI v3)), (4, .int (oI v4)), (5, .int (oI v5))] → k3 v1 v2 v3 v4 v5 σ = some q → W p l e (rmk 2 72) s m args below meth c H locs 0 0 Q (F0 m 3 ls [])) {H : Heap} {locs : List Loc} {ls : Array Slot} {σ : Sg} (v1 : Int) (v2 : Int) (v3 : Int) (v4 : Int) (v5 : Int) (S : St G false τ σ s H locs) (hl : lv_has ls 8 [(0, .ref (G.1 41)), (1, .int (oI v1)), (2, .int (oI v2)), (3, .int (oI v3)), (4, .int (oI v4)), (5, .int (oI v5))]) (hf : f_X10_boundOf_b54 k3 v1 v2 v3 v4 v5 σ = some q) : W p l e (rmk 2 72) s m args below meth c H locs 0 0 Q (F0 m 54 ls []) := by
  unfold f_X10_boundOf_b54 at hf
  refine r_iinc C dX10_boundOf_54 hl (k := 5) rfl (by decide) (lv' := [(5, .int (oI (v5 + 1))), (0, .ref (G.1 41)), (1, .int (oI v1)), (2, .int (oI v2)), (3, .int (oI v3)), (4, .int (oI v4))]) rfl (fun ls hl => ?_)
  refine lv_goto C.1 C.2.1 (tgt := 3) dX10_boundOf_57 (by decide) ?_
  exact hk3 v1 v2 v3 v4 (v5 + 1) S (lv_sub hl [1, 2, 3, 4, 5, 0] rfl) hf
set_option maxRecDepth 100000 in
set_option maxHeartbeats 4000000 in
theorem b_X10_boundOf_b31 (C : Cx p s m args c RX10 cX10_boundOf 8) {q : Int × Sg} (hend : EndR p l e (rmk 2 72) s m args below meth c Q G false τ cX10_boundOf .ireturn [.int (oI q.1)] q.2) {H : Heap} {locs : List Loc} {ls : Array Slot} {σ : Sg} (v4 : Int) (v5 : Int) (S : St G false τ σ s H locs) (hl : lv_has ls 8 [(4, .int (oI v4)), (5, .int (oI v5))]) (hf : f_X10_boundOf_b31 v4 v5 σ = some q) : W p l e (rmk 2 72) s m args below meth c H locs 0 0 Q (F0 m 31 ls []) := by
  unfold f_X10_boundOf_b31 at hf
  refine lv_iload C.1 C.2.1 dX10_boundOf_31 (lv_at hl 0 rfl) ?_
  refine r_if_ne C rfl (tgt := 41) dX10_boundOf_33 (by decide) (fun h6 => ?_) (fun h6 => ?_)
  · replace hf := if_t hf h6
    refine lv_iload C.1 C.2.1 dX10_boundOf_36 (lv_at hl 1 rfl) ?_
    refine lv_goto C.1 C.2.1 (tgt := 53) dX10_boundOf_38 (by decide) ?_
    cases hf
    exact hend _ _ _ _ S dX10_boundOf_53
  · replace hf := if_f hf h6
    refine lv_iload C.1 C.2.1 dX10_boundOf_41 (lv_at hl 0 rfl) ?_
    refine r_iconst C dX10_boundOf_43 ?_
    refine r_icmp_ne C rfl (show w32 1 = 1 by decide) (tgt := 52) dX10_boundOf_44 (by decide) (fun h5 => ?_) (fun h5 => ?_)
    · replace hf := if_t hf h5
      refine r_bipush C dX10_boundOf_47 (by decide) ?_
      refine lv_goto C.1 C.2.1 (tgt := 53) dX10_boundOf_49 (by decide) ?_
      cases hf
      exact hend _ _ _ _ S dX10_boundOf_53
    · replace hf := if_f hf h5
      refine r_iconst C dX10_boundOf_52 ?_
      cases hf
      exact hend _ _ _ _ S dX10_boundOf_53
set_option maxRecDepth 100000 in
set_option maxHeartbeats 4000000 in
theorem b_X10_boundOf_b171 (C : Cx p s m args c RX10 cX10_boundOf 8) {q : Int × Sg} {k63 : Int → Int → Int → Int → Int → Sg → Option (Int × Sg)} {k76 : Int → Int → Int → Int → Int → Int → Sg → Option (Int × Sg)} (hend : EndR p l e (rmk 2 72) s m args below meth c Q G false τ cX10_boundOf .ireturn [.int (oI q.1)] q.2) (hk63 : ∀ {H : Heap} {locs : List Loc} {ls : Array Slot} {σ : Sg} (v1 : Int) (v2 : Int) (v3 : Int) (v4 : Int) (v5 : Int), St G false τ σ s H locs → lv_has ls 8 [(0, .ref (G.1 41)), (1, .int (oI v1)), (2, .int (oI v2)), (3, .int (oI v3)), (4, .int (oI v4)), (5, .int (oI v5))] → k63 v1 v2 v3 v4 v5 σ = some q → W p l e (rmk 2 72) s m args below meth c H locs 0 0 Q (F0 m 63 ls [])) (hk76 : ∀ {H : Heap} {locs : List Loc} {ls : Array Slot} {σ : Sg} (v1 : Int) (v2 : Int) (v3 : Int) (v4 : Int) (v5 : Int) (v6 : Int), St G false τ σ s H locs → lv_has ls 8 [(0, .ref (G.1 41)), (1, .int (oI v1)), (2, .int (oI v2)), (3, .int (oI v3)), (4, .int (oI v4)), (5, .int (oI v5)), (6, .int (oI v6))] → k76 v1 v2 v3 v4 v5 v6 σ = some q → W p l e (rmk 2 72) s m args below meth c H locs 0 0 Q (F0 m 76 ls [])) {H : Heap} {locs : List Loc} {ls : Array Slot} {σ : Sg} (v1 : Int) (v2 : Int) (v3 : Int) (v4 : Int) (v5 : Int) (v6 : Int) (S : St G false τ σ s H locs) (hl : lv_has ls 8 [(0, .ref (G.1 41)), (1, .int (oI v1)), (2, .int (oI v2)), (3, .int (oI v3)), (4, .int (oI v4)), (5, .int (oI v5)), (6, .int (oI v6))]) (hf : f_X10_boundOf_b171 k63 k76 v1 v2 v3 v4 v5 v6 σ = some q) : W p l e (rmk 2 72) s m args below meth c H locs 0 0 Q (F0 m 171 ls []) := by
  unfold f_X10_boundOf_b171 at hf
  refine r_iinc C dX10_boundOf_171 hl (k := 6) rfl (by decide) (lv' := [(6, .int (oI (v6 + 1))), (0, .ref (G.1 41)), (1, .int (oI v1)), (2, .int (oI v2)), (3, .int (oI v3)), (4, .int (oI v4)), (5, .int (oI v5))]) rfl (fun ls hl => ?_)
  refine lv_goto C.1 C.2.1 (tgt := 76) dX10_boundOf_174 (by decide) ?_
  exact hk76 v1 v2 v3 v4 v5 (v6 + 1) S (lv_sub hl [1, 2, 3, 4, 5, 6, 0] rfl) hf
set_option maxRecDepth 100000 in
set_option maxHeartbeats 4000000 in
theorem b_X10_boundOf_b141 (C : Cx p s m args c RX10 cX10_boundOf 8) {q : Int × Sg} (hend : EndR p l e (rmk 2 72) s m args below meth c Q G false τ cX10_boundOf .ireturn [.int (oI q.1)] q.2) {H : Heap} {locs : List Loc} {ls : Array Slot} {σ : Sg} (v4 : Int) (v5 : Int) (v6 : Int) (v7 : Int) (S : St G false τ σ s H locs) (hl : lv_has ls 8 [(4, .int (oI v4)), (5, .int (oI v5)), (6, .int (oI v6)), (7, .int (oI v7))]) (hf : f_X10_boundOf_b141 v4 v5 v6 v7 σ = some q) : W p l e (rmk 2 72) s m args below meth c H locs 0 0 Q (F0 m 141 ls []) := by
  unfold f_X10_boundOf_b141 at hf
  refine lv_iload C.1 C.2.1 dX10_boundOf_141 (lv_at hl 0 rfl) ?_
  refine r_if_ne C rfl (tgt := 151) dX10_boundOf_143 (by decide) (fun h18 => ?_) (fun h18 => ?_)
  · replace hf := if_t hf h18
    refine lv_iload C.1 C.2.1 dX10_boundOf_146 (lv_at hl 1 rfl) ?_
    refine lv_goto C.1 C.2.1 (tgt := 164) dX10_boundOf_148 (by decide) ?_
    cases hf
    exact hend _ _ _ _ S dX10_boundOf_164
  · replace hf := if_f hf h18
    refine lv_iload C.1 C.2.1 dX10_boundOf_151 (lv_at hl 0 rfl) ?_
    refine r_iconst C dX10_boundOf_153 ?_
    refine r_icmp_ne C rfl (show w32 1 = 1 by decide) (tgt := 162) dX10_boundOf_154 (by decide) (fun h17 => ?_) (fun h17 => ?_)
    · replace hf := if_t hf h17
      refine lv_iload C.1 C.2.1 dX10_boundOf_157 (lv_at hl 2 rfl) ?_
      refine lv_goto C.1 C.2.1 (tgt := 164) dX10_boundOf_159 (by decide) ?_
      cases hf
      exact hend _ _ _ _ S dX10_boundOf_164
    · replace hf := if_f hf h17
      refine lv_iload C.1 C.2.1 dX10_boundOf_162 (lv_at hl 3 rfl) ?_
      cases hf
      exact hend _ _ _ _ S dX10_boundOf_164
set_option maxRecDepth 100000 in
set_option maxHeartbeats 4000000 in
theorem b_X10_boundOf_b119 (C : Cx p s m args c RX10 cX10_boundOf 8) {q : Int × Sg} {k63 : Int → Int → Int → Int → Int → Sg → Option (Int × Sg)} {k76 : Int → Int → Int → Int → Int → Int → Sg → Option (Int × Sg)} (hend : EndR p l e (rmk 2 72) s m args below meth c Q G false τ cX10_boundOf .ireturn [.int (oI q.1)] q.2) (hk63 : ∀ {H : Heap} {locs : List Loc} {ls : Array Slot} {σ : Sg} (v1 : Int) (v2 : Int) (v3 : Int) (v4 : Int) (v5 : Int), St G false τ σ s H locs → lv_has ls 8 [(0, .ref (G.1 41)), (1, .int (oI v1)), (2, .int (oI v2)), (3, .int (oI v3)), (4, .int (oI v4)), (5, .int (oI v5))] → k63 v1 v2 v3 v4 v5 σ = some q → W p l e (rmk 2 72) s m args below meth c H locs 0 0 Q (F0 m 63 ls [])) (hk76 : ∀ {H : Heap} {locs : List Loc} {ls : Array Slot} {σ : Sg} (v1 : Int) (v2 : Int) (v3 : Int) (v4 : Int) (v5 : Int) (v6 : Int), St G false τ σ s H locs → lv_has ls 8 [(0, .ref (G.1 41)), (1, .int (oI v1)), (2, .int (oI v2)), (3, .int (oI v3)), (4, .int (oI v4)), (5, .int (oI v5)), (6, .int (oI v6))] → k76 v1 v2 v3 v4 v5 v6 σ = some q → W p l e (rmk 2 72) s m args below meth c H locs 0 0 Q (F0 m 76 ls [])) : ∀ (n : Nat) {H : Heap} {locs : List Loc} {ls : Array Slot} {σ : Sg} (v1 : Int) (v2 : Int) (v3 : Int) (v4 : Int) (v5 : Int) (v6 : Int) (v7 : Int) (S : St G false τ σ s H locs) (hl : lv_has ls 8 [(0, .ref (G.1 41)), (1, .int (oI v1)), (2, .int (oI v2)), (3, .int (oI v3)), (4, .int (oI v4)), (5, .int (oI v5)), (6, .int (oI v6)), (7, .int (oI v7))]) (hf : f_X10_boundOf_b119 k63 k76 n v1 v2 v3 v4 v5 v6 v7 σ = some q), W p l e (rmk 2 72) s m args below meth c H locs 0 0 Q (F0 m 119 ls []) := by
  intro n
  induction n with
  | zero => intro H locs ls σ v1 v2 v3 v4 v5 v6 v7 S hl hf; cases hf
  | succ n ih =>
    intro H locs ls σ v1 v2 v3 v4 v5 v6 v7 S hl hf
    have hk119 := @ih
    rw [f_X10_boundOf_b119] at hf
    refine lv_iload C.1 C.2.1 dX10_boundOf_119 (lv_at hl 7 rfl) ?_
    refine r_iconst C dX10_boundOf_121 ?_
    refine r_icmp_ge C rfl (show w32 2 = 2 by decide) (tgt := 171) dX10_boundOf_122 (by decide) (fun h20 => ?_) (fun h20 => ?_)
    · replace hf := if_t hf h20
      refine lv_aload_n C.1 C.2.1 dX10_boundOf_125 rfl (lv_at hl 0 rfl) ?_
      refine lv_iload C.1 C.2.1 dX10_boundOf_126 (lv_at hl 5 rfl) ?_
      refine lv_iload C.1 C.2.1 dX10_boundOf_128 (lv_at hl 6 rfl) ?_
      refine lv_iload C.1 C.2.1 dX10_boundOf_130 (lv_at hl 7 rfl) ?_
      refine lv_iload_n C.1 C.2.1 dX10_boundOf_132 rfl (lv_at hl 1 rfl) ?_
      refine lv_iload_n C.1 C.2.1 dX10_boundOf_133 rfl (lv_at hl 3 rfl) ?_
      obtain ⟨q15, hc16, hf⟩ := bd_o hf
      refine r_callVv C S (As := [.int (oI v5), .int (oI v6), .int (oI v7), .int (oI v1), .int (oI v3)]) (rest := []) (ct_X10_onRim l G τ hc16) mi_X10_onRim tw_1309 mv_X10_onRim (rvX10 S) ⟨rfl, rfl⟩ ⟨Nat.le_of_ble_eq_true rfl, Nat.le_of_ble_eq_true rfl⟩ ⟨Nat.zero_le _, Nat.zero_le _⟩ rfl hl.1 rfl (Nat.le_of_ble_eq_true rfl) dX10_boundOf_134 (fun H locs S => ?_)
      refine lv_iload_n C.1 C.2.1 dX10_boundOf_137 rfl (lv_at hl 2 rfl) ?_
      refine r_icmp_ne C rfl rfl (tgt := 165) dX10_boundOf_138 (by decide) (fun h19 => ?_) (fun h19 => ?_)
      · replace hf := if_t hf h19
        exact b_X10_boundOf_b141 C hend v4 v5 v6 v7 S (lv_sub hl [4, 5, 6, 7] rfl) hf
      · replace hf := if_f hf h19
        refine r_iinc C dX10_boundOf_165 hl (k := 7) rfl (by decide) (lv' := [(7, .int (oI (v7 + 1))), (0, .ref (G.1 41)), (1, .int (oI v1)), (2, .int (oI v2)), (3, .int (oI v3)), (4, .int (oI v4)), (5, .int (oI v5)), (6, .int (oI v6))]) rfl (fun ls hl => ?_)
        refine lv_goto C.1 C.2.1 (tgt := 119) dX10_boundOf_168 (by decide) ?_
        exact hk119 v1 v2 v3 v4 v5 v6 (v7 + 1) S (lv_sub hl [1, 2, 3, 4, 5, 6, 7, 0] rfl) hf
    · replace hf := if_f hf h20
      exact b_X10_boundOf_b171 C hend hk63 hk76 v1 v2 v3 v4 v5 v6 S (lv_sub hl [0, 1, 2, 3, 4, 5, 6] rfl) hf
set_option maxRecDepth 100000 in
set_option maxHeartbeats 4000000 in
theorem b_X10_boundOf_b177 (C : Cx p s m args c RX10 cX10_boundOf 8) {q : Int × Sg} {k63 : Int → Int → Int → Int → Int → Sg → Option (Int × Sg)} (hend : EndR p l e (rmk 2 72) s m args below meth c Q G false τ cX10_boundOf .ireturn [.int (oI q.1)] q.2) (hk63 : ∀ {H : Heap} {locs : List Loc} {ls : Array Slot} {σ : Sg} (v1 : Int) (v2 : Int) (v3 : Int) (v4 : Int) (v5 : Int), St G false τ σ s H locs → lv_has ls 8 [(0, .ref (G.1 41)), (1, .int (oI v1)), (2, .int (oI v2)), (3, .int (oI v3)), (4, .int (oI v4)), (5, .int (oI v5))] → k63 v1 v2 v3 v4 v5 σ = some q → W p l e (rmk 2 72) s m args below meth c H locs 0 0 Q (F0 m 63 ls [])) {H : Heap} {locs : List Loc} {ls : Array Slot} {σ : Sg} (v1 : Int) (v2 : Int) (v3 : Int) (v4 : Int) (v5 : Int) (S : St G false τ σ s H locs) (hl : lv_has ls 8 [(0, .ref (G.1 41)), (1, .int (oI v1)), (2, .int (oI v2)), (3, .int (oI v3)), (4, .int (oI v4)), (5, .int (oI v5))]) (hf : f_X10_boundOf_b177 k63 v1 v2 v3 v4 v5 σ = some q) : W p l e (rmk 2 72) s m args below meth c H locs 0 0 Q (F0 m 177 ls []) := by
  unfold f_X10_boundOf_b177 at hf
  refine r_iinc C dX10_boundOf_177 hl (k := 5) rfl (by decide) (lv' := [(5, .int (oI (v5 + 1))), (0, .ref (G.1 41)), (1, .int (oI v1)), (2, .int (oI v2)), (3, .int (oI v3)), (4, .int (oI v4))]) rfl (fun ls hl => ?_)
  refine lv_goto C.1 C.2.1 (tgt := 63) dX10_boundOf_180 (by decide) ?_
  exact hk63 v1 v2 v3 v4 (v5 + 1) S (lv_sub hl [1, 2, 3, 4, 5, 0] rfl) hf
set_option maxRecDepth 100000 in
set_option maxHeartbeats 4000000 in
theorem b_X10_boundOf_b76 (C : Cx p s m args c RX10 cX10_boundOf 8) {q : Int × Sg} {k63 : Int → Int → Int → Int → Int → Sg → Option (Int × Sg)} (hend : EndR p l e (rmk 2 72) s m args below meth c Q G false τ cX10_boundOf .ireturn [.int (oI q.1)] q.2) (hk63 : ∀ {H : Heap} {locs : List Loc} {ls : Array Slot} {σ : Sg} (v1 : Int) (v2 : Int) (v3 : Int) (v4 : Int) (v5 : Int), St G false τ σ s H locs → lv_has ls 8 [(0, .ref (G.1 41)), (1, .int (oI v1)), (2, .int (oI v2)), (3, .int (oI v3)), (4, .int (oI v4)), (5, .int (oI v5))] → k63 v1 v2 v3 v4 v5 σ = some q → W p l e (rmk 2 72) s m args below meth c H locs 0 0 Q (F0 m 63 ls [])) : ∀ (n : Nat) {H : Heap} {locs : List Loc} {ls : Array Slot} {σ : Sg} (v1 : Int) (v2 : Int) (v3 : Int) (v4 : Int) (v5 : Int) (v6 : Int) (S : St G false τ σ s H locs) (hl : lv_has ls 8 [(0, .ref (G.1 41)), (1, .int (oI v1)), (2, .int (oI v2)), (3, .int (oI v3)), (4, .int (oI v4)), (5, .int (oI v5)), (6, .int (oI v6))]) (hf : f_X10_boundOf_b76 k63 n v1 v2 v3 v4 v5 v6 σ = some q), W p l e (rmk 2 72) s m args below meth c H locs 0 0 Q (F0 m 76 ls []) := by
  intro n
  induction n with
  | zero => intro H locs ls σ v1 v2 v3 v4 v5 v6 S hl hf; cases hf
  | succ n ih =>
    intro H locs ls σ v1 v2 v3 v4 v5 v6 S hl hf
    have hk76 := @ih
    rw [f_X10_boundOf_b76] at hf
    refine lv_iload C.1 C.2.1 dX10_boundOf_76 (lv_at hl 6 rfl) ?_
    refine r_bipush C dX10_boundOf_78 (by decide) ?_
    refine r_icmp_ge C rfl (show w32 24 = 24 by decide) (tgt := 177) dX10_boundOf_80 (by decide) (fun h24 => ?_) (fun h24 => ?_)
    · replace hf := if_t hf h24
      refine lv_iload_n C.1 C.2.1 dX10_boundOf_83 rfl (lv_at hl 2 rfl) ?_
      refine lv_iload C.1 C.2.1 dX10_boundOf_84 (lv_at hl 5 rfl) ?_
      obtain ⟨q9, hc10, hf⟩ := bd_o hf
      refine r_callSv C S (As := [.int (oI v2), .int (oI v5)]) (rest := []) (ct_X10_has l G τ hc10) mi_X10_has tw_1285 ms_X10_has ⟨rfl, rfl⟩ ⟨Nat.le_of_ble_eq_true rfl, Nat.le_of_ble_eq_true rfl⟩ ⟨Nat.zero_le _, Nat.zero_le _⟩ rfl hl.1 rfl (Nat.le_of_ble_eq_true rfl) dX10_boundOf_86 (fun H locs S => ?_)
      refine r_if_eq C rfl (tgt := 171) dX10_boundOf_89 (by decide) (fun h23 => ?_) (fun h23 => ?_)
      · replace hf := if_t hf h23
        exact b_X10_boundOf_b171 C hend hk63 hk76 v1 v2 v3 v4 v5 v6 S (lv_sub hl [0, 1, 2, 3, 4, 5, 6] rfl) hf
      · replace hf := if_f hf h23
        refine lv_iload_n C.1 C.2.1 dX10_boundOf_92 rfl (lv_at hl 2 rfl) ?_
        refine lv_iload C.1 C.2.1 dX10_boundOf_93 (lv_at hl 6 rfl) ?_
        obtain ⟨q11, hc12, hf⟩ := bd_o hf
        refine r_callSv C S (As := [.int (oI v2), .int (oI v6)]) (rest := []) (ct_X10_has l G τ hc12) mi_X10_has tw_1285 ms_X10_has ⟨rfl, rfl⟩ ⟨Nat.le_of_ble_eq_true rfl, Nat.le_of_ble_eq_true rfl⟩ ⟨Nat.zero_le _, Nat.zero_le _⟩ rfl hl.1 rfl (Nat.le_of_ble_eq_true rfl) dX10_boundOf_95 (fun H locs S => ?_)
        refine r_if_eq C rfl (tgt := 171) dX10_boundOf_98 (by decide) (fun h22 => ?_) (fun h22 => ?_)
        · replace hf := if_t hf h22
          exact b_X10_boundOf_b171 C hend hk63 hk76 v1 v2 v3 v4 v5 v6 S (lv_sub hl [0, 1, 2, 3, 4, 5, 6] rfl) hf
        · replace hf := if_f hf h22
          refine lv_aload_n C.1 C.2.1 dX10_boundOf_101 rfl (lv_at hl 0 rfl) ?_
          refine lv_iload C.1 C.2.1 dX10_boundOf_102 (lv_at hl 5 rfl) ?_
          refine lv_iload C.1 C.2.1 dX10_boundOf_104 (lv_at hl 6 rfl) ?_
          refine lv_iload_n C.1 C.2.1 dX10_boundOf_106 rfl (lv_at hl 3 rfl) ?_
          obtain ⟨q13, hc14, hf⟩ := bd_o hf
          refine r_callVv C S (As := [.int (oI v5), .int (oI v6), .int (oI v3)]) (rest := []) (ct_X10_canBeRim l G τ hc14) mi_X10_canBeRim tw_1305 mv_X10_canBeRim (rvX10 S) ⟨rfl, rfl⟩ ⟨Nat.le_of_ble_eq_true rfl, Nat.le_of_ble_eq_true rfl⟩ ⟨Nat.zero_le _, Nat.zero_le _⟩ rfl hl.1 rfl (Nat.le_of_ble_eq_true rfl) dX10_boundOf_107 (fun H locs S => ?_)
          refine r_if_ne C rfl (tgt := 116) dX10_boundOf_110 (by decide) (fun h21 => ?_) (fun h21 => ?_)
          · replace hf := if_t hf h21
            refine lv_goto C.1 C.2.1 (tgt := 171) dX10_boundOf_113 (by decide) ?_
            exact b_X10_boundOf_b171 C hend hk63 hk76 v1 v2 v3 v4 v5 v6 S (lv_sub hl [0, 1, 2, 3, 4, 5, 6] rfl) hf
          · replace hf := if_f hf h21
            refine r_iconst C dX10_boundOf_116 ?_
            refine lv_istore C.1 C.2.1 dX10_boundOf_117 hl (by decide) (lv' := [(7, .int (oI 0)), (0, .ref (G.1 41)), (1, .int (oI v1)), (2, .int (oI v2)), (3, .int (oI v3)), (4, .int (oI v4)), (5, .int (oI v5)), (6, .int (oI v6))]) rfl (fun ls hl => ?_)
            exact b_X10_boundOf_b119 C hend hk63 hk76 FUEL v1 v2 v3 v4 v5 v6 0 S (lv_sub hl [1, 2, 3, 4, 5, 6, 7, 0] rfl) hf
    · replace hf := if_f hf h24
      exact b_X10_boundOf_b177 C hend hk63 v1 v2 v3 v4 v5 S (lv_sub hl [0, 1, 2, 3, 4, 5] rfl) hf
set_option maxRecDepth 100000 in
set_option maxHeartbeats 4000000 in
theorem b_X10_boundOf_b63 (C : Cx p s m args c RX10 cX10_boundOf 8) {q : Int × Sg} (hend : EndR p l e (rmk 2 72) s m args below meth c Q G false τ cX10_boundOf .ireturn [.int (oI q.1)] q.2) : ∀ (n : Nat) {H : Heap} {locs : List Loc} {ls : Array Slot} {σ : Sg} (v1 : Int) (v2 : Int) (v3 : Int) (v4 : Int) (v5 : Int) (S : St G false τ σ s H locs) (hl : lv_has ls 8 [(0, .ref (G.1 41)), (1, .int (oI v1)), (2, .int (oI v2)), (3, .int (oI v3)), (4, .int (oI v4)), (5, .int (oI v5))]) (hf : f_X10_boundOf_b63 n v1 v2 v3 v4 v5 σ = some q), W p l e (rmk 2 72) s m args below meth c H locs 0 0 Q (F0 m 63 ls []) := by
  intro n
  induction n with
  | zero => intro H locs ls σ v1 v2 v3 v4 v5 S hl hf; cases hf
  | succ n ih =>
    intro H locs ls σ v1 v2 v3 v4 v5 S hl hf
    have hk63 := @ih
    rw [f_X10_boundOf_b63] at hf
    refine lv_iload C.1 C.2.1 dX10_boundOf_63 (lv_at hl 5 rfl) ?_
    refine r_bipush C dX10_boundOf_65 (by decide) ?_
    refine r_icmp_ge C rfl (show w32 24 = 24 by decide) (tgt := 183) dX10_boundOf_67 (by decide) (fun h25 => ?_) (fun h25 => ?_)
    · replace hf := if_t hf h25
      refine lv_iload C.1 C.2.1 dX10_boundOf_70 (lv_at hl 5 rfl) ?_
      refine r_iconst C dX10_boundOf_72 ?_
      refine r_iadd C dX10_boundOf_73 ?_
      refine lv_istore C.1 C.2.1 dX10_boundOf_74 hl (by decide) (lv' := [(6, .int (oI (v5 + 1))), (0, .ref (G.1 41)), (1, .int (oI v1)), (2, .int (oI v2)), (3, .int (oI v3)), (4, .int (oI v4)), (5, .int (oI v5))]) rfl (fun ls hl => ?_)
      exact b_X10_boundOf_b76 C hend hk63 FUEL v1 v2 v3 v4 v5 (v5 + 1) S (lv_sub hl [1, 2, 3, 4, 5, 6, 0] rfl) hf
    · replace hf := if_f hf h25
      refine r_bipush C dX10_boundOf_183 (by decide) ?_
      cases hf
      exact hend _ _ _ _ S dX10_boundOf_185
set_option maxRecDepth 100000 in
set_option maxHeartbeats 4000000 in
theorem b_X10_boundOf_b60 (C : Cx p s m args c RX10 cX10_boundOf 8) {q : Int × Sg} (hend : EndR p l e (rmk 2 72) s m args below meth c Q G false τ cX10_boundOf .ireturn [.int (oI q.1)] q.2) {H : Heap} {locs : List Loc} {ls : Array Slot} {σ : Sg} (v1 : Int) (v2 : Int) (v3 : Int) (v4 : Int) (S : St G false τ σ s H locs) (hl : lv_has ls 8 [(0, .ref (G.1 41)), (1, .int (oI v1)), (2, .int (oI v2)), (3, .int (oI v3)), (4, .int (oI v4))]) (hf : f_X10_boundOf_b60 v1 v2 v3 v4 σ = some q) : W p l e (rmk 2 72) s m args below meth c H locs 0 0 Q (F0 m 60 ls []) := by
  unfold f_X10_boundOf_b60 at hf
  refine r_iconst C dX10_boundOf_60 ?_
  refine lv_istore C.1 C.2.1 dX10_boundOf_61 hl (by decide) (lv' := [(5, .int (oI 0)), (0, .ref (G.1 41)), (1, .int (oI v1)), (2, .int (oI v2)), (3, .int (oI v3)), (4, .int (oI v4))]) rfl (fun ls hl => ?_)
  exact b_X10_boundOf_b63 C hend FUEL v1 v2 v3 v4 0 S (lv_sub hl [1, 2, 3, 4, 5, 0] rfl) hf
set_option maxRecDepth 100000 in
set_option maxHeartbeats 4000000 in
theorem b_X10_boundOf_b3 (C : Cx p s m args c RX10 cX10_boundOf 8) {q : Int × Sg} (hend : EndR p l e (rmk 2 72) s m args below meth c Q G false τ cX10_boundOf .ireturn [.int (oI q.1)] q.2) : ∀ (n : Nat) {H : Heap} {locs : List Loc} {ls : Array Slot} {σ : Sg} (v1 : Int) (v2 : Int) (v3 : Int) (v4 : Int) (v5 : Int) (S : St G false τ σ s H locs) (hl : lv_has ls 8 [(0, .ref (G.1 41)), (1, .int (oI v1)), (2, .int (oI v2)), (3, .int (oI v3)), (4, .int (oI v4)), (5, .int (oI v5))]) (hf : f_X10_boundOf_b3 n v1 v2 v3 v4 v5 σ = some q), W p l e (rmk 2 72) s m args below meth c H locs 0 0 Q (F0 m 3 ls []) := by
  intro n
  induction n with
  | zero => intro H locs ls σ v1 v2 v3 v4 v5 S hl hf; cases hf
  | succ n ih =>
    intro H locs ls σ v1 v2 v3 v4 v5 S hl hf
    have hk3 := @ih
    rw [f_X10_boundOf_b3] at hf
    refine lv_iload C.1 C.2.1 dX10_boundOf_3 (lv_at hl 5 rfl) ?_
    refine r_bipush C dX10_boundOf_5 (by decide) ?_
    refine r_icmp_ge C rfl (show w32 24 = 24 by decide) (tgt := 60) dX10_boundOf_7 (by decide) (fun h26 => ?_) (fun h26 => ?_)
    · replace hf := if_t hf h26
      refine lv_iload_n C.1 C.2.1 dX10_boundOf_10 rfl (lv_at hl 2 rfl) ?_
      refine lv_iload C.1 C.2.1 dX10_boundOf_11 (lv_at hl 5 rfl) ?_
      obtain ⟨q1, hc2, hf⟩ := bd_o hf
      refine r_callSv C S (As := [.int (oI v2), .int (oI v5)]) (rest := []) (ct_X10_has l G τ hc2) mi_X10_has tw_1285 ms_X10_has ⟨rfl, rfl⟩ ⟨Nat.le_of_ble_eq_true rfl, Nat.le_of_ble_eq_true rfl⟩ ⟨Nat.zero_le _, Nat.zero_le _⟩ rfl hl.1 rfl (Nat.le_of_ble_eq_true rfl) dX10_boundOf_13 (fun H locs S => ?_)
      refine r_if_eq C rfl (tgt := 54) dX10_boundOf_16 (by decide) (fun h8 => ?_) (fun h8 => ?_)
      · replace hf := if_t hf h8
        exact b_X10_boundOf_b54 C hend hk3 v1 v2 v3 v4 v5 S (lv_sub hl [0, 1, 2, 3, 4, 5] rfl) hf
      · replace hf := if_f hf h8
        refine lv_aload_n C.1 C.2.1 dX10_boundOf_19 rfl (lv_at hl 0 rfl) ?_
        refine lv_iload C.1 C.2.1 dX10_boundOf_20 (lv_at hl 5 rfl) ?_
        refine lv_iload_n C.1 C.2.1 dX10_boundOf_22 rfl (lv_at hl 1 rfl) ?_
        refine lv_iload_n C.1 C.2.1 dX10_boundOf_23 rfl (lv_at hl 3 rfl) ?_
        obtain ⟨q3, hc4, hf⟩ := bd_o hf
        refine r_callVv C S (As := [.int (oI v5), .int (oI v1), .int (oI v3)]) (rest := []) (ct_X10_around l G τ hc4) mi_X10_around tw_1293 mv_X10_around (rvX10 S) ⟨rfl, rfl⟩ ⟨Nat.le_of_ble_eq_true rfl, Nat.le_of_ble_eq_true rfl⟩ ⟨Nat.zero_le _, Nat.zero_le _⟩ rfl hl.1 rfl (Nat.le_of_ble_eq_true rfl) dX10_boundOf_24 (fun H locs S => ?_)
        refine lv_iload_n C.1 C.2.1 dX10_boundOf_27 rfl (lv_at hl 2 rfl) ?_
        refine r_icmp_ne C rfl rfl (tgt := 54) dX10_boundOf_28 (by decide) (fun h7 => ?_) (fun h7 => ?_)
        · replace hf := if_t hf h7
          exact b_X10_boundOf_b31 C hend v4 v5 S (lv_sub hl [4, 5] rfl) hf
        · replace hf := if_f hf h7
          exact b_X10_boundOf_b54 C hend hk3 v1 v2 v3 v4 v5 S (lv_sub hl [0, 1, 2, 3, 4, 5] rfl) hf
    · replace hf := if_f hf h26
      exact b_X10_boundOf_b60 C hend v1 v2 v3 v4 S (lv_sub hl [0, 1, 2, 3, 4] rfl) hf
set_option maxRecDepth 100000 in
set_option maxHeartbeats 4000000 in
theorem ct_X10_boundOf (l : Launch) (G : Gd) (τ : Sg) {v1 : Int} {v2 : Int} {v3 : Int} {v4 : Int} {σ : Sg} {q : Int × Sg} (hf : f_X10_boundOf v1 v2 v3 v4 σ = some q) : Ctr l yX10_boundOf cX10_boundOf 8 (some .int) (rmk 2 72) G false τ [.ref (G.1 41), .int (oI v1), .int (oI v2), .int (oI v3), .int (oI v4)] σ q.2 (some (.int (oI q.1))) := by
  unfold f_X10_boundOf at hf
  refine CtrI.of (own := RX10) (plainFor_of_name (by decide)) (Nat.le_of_ble_eq_true rfl) rfl (fun p e s m below meth c Q ls C hl S hend => ?_)
  have hl : lv_has ls 8 [(0, .ref (G.1 41)), (1, .int (oI v1)), (2, .int (oI v2)), (3, .int (oI v3)), (4, .int (oI v4))] := hl
  refine r_iconst C dX10_boundOf_0 ?_
  refine lv_istore C.1 C.2.1 dX10_boundOf_1 hl (by decide) (lv' := [(5, .int (oI 0)), (0, .ref (G.1 41)), (1, .int (oI v1)), (2, .int (oI v2)), (3, .int (oI v3)), (4, .int (oI v4))]) rfl (fun ls hl => ?_)
  exact b_X10_boundOf_b3 C hend FUEL v1 v2 v3 v4 0 S (lv_sub hl [1, 2, 3, 4, 5, 0] rfl) hf
set_option maxRecDepth 100000 in
set_option maxHeartbeats 4000000 in
theorem ct_X10_bound (l : Launch) (G : Gd) (τ : Sg) {v1 : Int} {v2 : Int} {σ : Sg} {q : Int × Sg} (hf : f_X10_bound v1 v2 σ = some q) : Ctr l yX10_bound cX10_bound 3 (some .int) (rmk 4 119) G false τ [.ref (G.1 41), .int (oI v1), .int (oI v2)] σ q.2 (some (.int (oI q.1))) := by
  unfold f_X10_bound at hf
  refine CtrI.of (own := RX10) (plainFor_of_name (by decide)) (Nat.le_of_ble_eq_true rfl) rfl (fun p e s m below meth c Q ls C hl S hend => ?_)
  have hl : lv_has ls 3 [(0, .ref (G.1 41)), (1, .int (oI v1)), (2, .int (oI v2))] := hl
  refine lv_aload_n C.1 C.2.1 dX10_bound_0 rfl (lv_at hl 0 rfl) ?_
  refine r_iconst C dX10_bound_1 ?_
  refine p10_thrown C S tw_1061 dX10_bound_2 (fun H locs S => ?_)
  obtain ⟨σ1, S, hf⟩ := wr_s S hf
  refine lv_aload_n C.1 C.2.1 dX10_bound_5 rfl (lv_at hl 0 rfl) ?_
  refine lv_iload_n C.1 C.2.1 dX10_bound_6 rfl (lv_at hl 1 rfl) ?_
  obtain ⟨q2, hc3, hf⟩ := bd_o hf
  refine r_callVv C S (As := [.int (oI v1)]) (rest := []) (ct_X10_isTreaty l G τ hc3) mi_X10_isTreaty tw_1373 mv_X10_isTreaty (rvX10 S) ⟨rfl, rfl⟩ ⟨Nat.le_of_ble_eq_true rfl, Nat.le_of_ble_eq_true rfl⟩ ⟨Nat.zero_le _, Nat.zero_le _⟩ rfl hl.1 rfl (Nat.le_of_ble_eq_true rfl) dX10_bound_7 (fun H locs S => ?_)
  refine r_if_eq C rfl (tgt := 22) dX10_bound_10 (by decide) (fun h14 => ?_) (fun h14 => ?_)
  · replace hf := if_t hf h14
    refine r_iconst C dX10_bound_22 ?_
    cases hf
    exact hend _ _ _ _ S dX10_bound_23
  · replace hf := if_f hf h14
    refine lv_iload_n C.1 C.2.1 dX10_bound_13 rfl (lv_at hl 2 rfl) ?_
    refine r_if_lt C rfl (tgt := 22) dX10_bound_14 (by decide) (fun h13 => ?_) (fun h13 => ?_)
    · replace hf := if_t hf h13
      refine r_iconst C dX10_bound_22 ?_
      cases hf
      exact hend _ _ _ _ S dX10_bound_23
    · replace hf := if_f hf h13
      refine lv_iload_n C.1 C.2.1 dX10_bound_17 rfl (lv_at hl 2 rfl) ?_
      refine r_iconst C dX10_bound_18 ?_
      refine r_icmp_le C rfl (show w32 2 = 2 by decide) (tgt := 24) dX10_bound_19 (by decide) (fun h12 => ?_) (fun h12 => ?_)
      · replace hf := if_t hf h12
        refine lv_aload_n C.1 C.2.1 dX10_bound_24 rfl (lv_at hl 0 rfl) ?_
        refine lv_iload_n C.1 C.2.1 dX10_bound_25 rfl (lv_at hl 1 rfl) ?_
        obtain ⟨q4, hc5, hf⟩ := bd_o hf
        refine r_callVv C S (As := [.int (oI v1)]) (rest := []) (ct_X10_worstOf l G τ hc5) mi_X10_worstOf tw_1273 mv_X10_worstOf (rvX10 S) ⟨rfl, rfl⟩ ⟨Nat.le_of_ble_eq_true rfl, Nat.le_of_ble_eq_true rfl⟩ ⟨Nat.zero_le _, Nat.zero_le _⟩ rfl hl.1 rfl (Nat.le_of_ble_eq_true rfl) dX10_bound_26 (fun H locs S => ?_)
        refine lv_pop C.1 C.2.1 dX10_bound_29 rfl ?_
        refine lv_aload_n C.1 C.2.1 dX10_bound_30 rfl (lv_at hl 0 rfl) ?_
        refine g10_bestSet C S tw_1098 dX10_bound_31 ?_
        refine r_if_ne C rfl (tgt := 42) dX10_bound_34 (by decide) (fun h11 => ?_) (fun h11 => ?_)
        · replace hf := if_t hf h11
          refine r_bipush C dX10_bound_37 (by decide) ?_
          refine lv_goto C.1 C.2.1 (tgt := 62) dX10_bound_39 (by decide) ?_
          cases hf
          exact hend _ _ _ _ S dX10_bound_62
        · replace hf := if_f hf h11
          refine lv_aload_n C.1 C.2.1 dX10_bound_42 rfl (lv_at hl 0 rfl) ?_
          refine lv_aload_n C.1 C.2.1 dX10_bound_43 rfl (lv_at hl 0 rfl) ?_
          refine lv_iload_n C.1 C.2.1 dX10_bound_44 rfl (lv_at hl 1 rfl) ?_
          obtain ⟨q6, hc7, hf⟩ := bd_o hf
          refine r_callVv C S (As := [.int (oI v1)]) (rest := [.ref (G.1 41)]) (ct_X10_ofTreaty l G τ hc7) mi_X10_ofTreaty tw_1277 mv_X10_ofTreaty (rvX10 S) ⟨rfl, rfl⟩ ⟨Nat.le_of_ble_eq_true rfl, Nat.le_of_ble_eq_true rfl⟩ ⟨Nat.zero_le _, Nat.zero_le _⟩ rfl hl.1 rfl (Nat.le_of_ble_eq_true rfl) dX10_bound_45 (fun H locs S => ?_)
          refine lv_aload_n C.1 C.2.1 dX10_bound_48 rfl (lv_at hl 0 rfl) ?_
          refine g10_bestSet C S tw_1098 dX10_bound_49 ?_
          refine lv_aload_n C.1 C.2.1 dX10_bound_52 rfl (lv_at hl 0 rfl) ?_
          refine g10_radius C S tw_1084 dX10_bound_53 ?_
          refine lv_iload_n C.1 C.2.1 dX10_bound_56 rfl (lv_at hl 1 rfl) ?_
          obtain ⟨hi8, hf⟩ := ck_o hf
          refine a_iald C S ar_51 hi8 dX10_bound_57 ?_
          refine lv_iload_n C.1 C.2.1 dX10_bound_58 rfl (lv_at hl 2 rfl) ?_
          obtain ⟨q9, hc10, hf⟩ := bd_o hf
          refine r_callVv C S (As := [.int (oI q6), .int (oI (q4.2 41 37)), .int (oI (q4.2 51 (v1).toNat)), .int (oI v2)]) (rest := []) (ct_X10_boundOf l G τ hc10) mi_X10_boundOf tw_1409 mv_X10_boundOf (rvX10 S) ⟨rfl, rfl⟩ ⟨Nat.le_of_ble_eq_true rfl, Nat.le_of_ble_eq_true rfl⟩ ⟨Nat.zero_le _, Nat.zero_le _⟩ rfl hl.1 rfl (Nat.le_of_ble_eq_true rfl) dX10_bound_59 (fun H locs S => ?_)
          cases hf
          exact hend _ _ _ _ S dX10_bound_62
      · replace hf := if_f hf h12
        refine r_iconst C dX10_bound_22 ?_
        cases hf
        exact hend _ _ _ _ S dX10_bound_23
set_option maxRecDepth 100000 in
set_option maxHeartbeats 4000000 in
theorem b_X10_spread_b84 (C : Cx p s m args c RX10 cX10_spread 5) {q : Int × Sg} {k26 : Int → Int → Sg → Option (Int × Sg)} {k35 : Int → Int → Int → Sg → Option (Int × Sg)} (hend : EndR p l e (rmk 4 119) s m args below meth c Q G false τ cX10_spread .ireturn [.int (oI q.1)] q.2) (hk26 : ∀ {H : Heap} {locs : List Loc} {ls : Array Slot} {σ : Sg} (v2 : Int) (v3 : Int), St G false τ σ s H locs → lv_has ls 5 [(0, .ref (G.1 41)), (2, .int (oI v2)), (3, .int (oI v3))] → k26 v2 v3 σ = some q → W p l e (rmk 4 119) s m args below meth c H locs 0 0 Q (F0 m 26 ls [])) (hk35 : ∀ {H : Heap} {locs : List Loc} {ls : Array Slot} {σ : Sg} (v2 : Int) (v3 : Int) (v4 : Int), St G false τ σ s H locs → lv_has ls 5 [(0, .ref (G.1 41)), (2, .int (oI v2)), (3, .int (oI v3)), (4, .int (oI v4))] → k35 v2 v3 v4 σ = some q → W p l e (rmk 4 119) s m args below meth c H locs 0 0 Q (F0 m 35 ls [])) {H : Heap} {locs : List Loc} {ls : Array Slot} {σ : Sg} (v2 : Int) (v3 : Int) (v4 : Int) (S : St G false τ σ s H locs) (hl : lv_has ls 5 [(0, .ref (G.1 41)), (2, .int (oI v2)), (3, .int (oI v3)), (4, .int (oI v4))]) (hf : f_X10_spread_b84 k26 k35 v2 v3 v4 σ = some q) : W p l e (rmk 4 119) s m args below meth c H locs 0 0 Q (F0 m 84 ls []) := by
  unfold f_X10_spread_b84 at hf
  refine r_iinc C dX10_spread_84 hl (k := 3) rfl (by decide) (lv' := [(4, .int (oI (v4 + 1))), (0, .ref (G.1 41)), (2, .int (oI v2)), (3, .int (oI v3))]) rfl (fun ls hl => ?_)
  refine lv_goto C.1 C.2.1 (tgt := 35) dX10_spread_87 (by decide) ?_
  exact hk35 v2 v3 (v4 + 1) S (lv_sub hl [1, 2, 3, 0] rfl) hf
set_option maxRecDepth 100000 in
set_option maxHeartbeats 4000000 in
theorem b_X10_spread_b90 (C : Cx p s m args c RX10 cX10_spread 5) {q : Int × Sg} {k26 : Int → Int → Sg → Option (Int × Sg)} (hend : EndR p l e (rmk 4 119) s m args below meth c Q G false τ cX10_spread .ireturn [.int (oI q.1)] q.2) (hk26 : ∀ {H : Heap} {locs : List Loc} {ls : Array Slot} {σ : Sg} (v2 : Int) (v3 : Int), St G false τ σ s H locs → lv_has ls 5 [(0, .ref (G.1 41)), (2, .int (oI v2)), (3, .int (oI v3))] → k26 v2 v3 σ = some q → W p l e (rmk 4 119) s m args below meth c H locs 0 0 Q (F0 m 26 ls [])) {H : Heap} {locs : List Loc} {ls : Array Slot} {σ : Sg} (v2 : Int) (v3 : Int) (S : St G false τ σ s H locs) (hl : lv_has ls 5 [(0, .ref (G.1 41)), (2, .int (oI v2)), (3, .int (oI v3))]) (hf : f_X10_spread_b90 k26 v2 v3 σ = some q) : W p l e (rmk 4 119) s m args below meth c H locs 0 0 Q (F0 m 90 ls []) := by
  unfold f_X10_spread_b90 at hf
  refine r_iinc C dX10_spread_90 hl (k := 2) rfl (by decide) (lv' := [(3, .int (oI (v3 + 1))), (0, .ref (G.1 41)), (2, .int (oI v2))]) rfl (fun ls hl => ?_)
  refine lv_goto C.1 C.2.1 (tgt := 26) dX10_spread_93 (by decide) ?_
  exact hk26 v2 (v3 + 1) S (lv_sub hl [1, 2, 0] rfl) hf
set_option maxRecDepth 100000 in
set_option maxHeartbeats 4000000 in
theorem b_X10_spread_b35 (C : Cx p s m args c RX10 cX10_spread 5) {q : Int × Sg} {k26 : Int → Int → Sg → Option (Int × Sg)} (hend : EndR p l e (rmk 4 119) s m args below meth c Q G false τ cX10_spread .ireturn [.int (oI q.1)] q.2) (hk26 : ∀ {H : Heap} {locs : List Loc} {ls : Array Slot} {σ : Sg} (v2 : Int) (v3 : Int), St G false τ σ s H locs → lv_has ls 5 [(0, .ref (G.1 41)), (2, .int (oI v2)), (3, .int (oI v3))] → k26 v2 v3 σ = some q → W p l e (rmk 4 119) s m args below meth c H locs 0 0 Q (F0 m 26 ls [])) : ∀ (n : Nat) {H : Heap} {locs : List Loc} {ls : Array Slot} {σ : Sg} (v2 : Int) (v3 : Int) (v4 : Int) (S : St G false τ σ s H locs) (hl : lv_has ls 5 [(0, .ref (G.1 41)), (2, .int (oI v2)), (3, .int (oI v3)), (4, .int (oI v4))]) (hf : f_X10_spread_b35 k26 n v2 v3 v4 σ = some q), W p l e (rmk 4 119) s m args below meth c H locs 0 0 Q (F0 m 35 ls []) := by
  intro n
  induction n with
  | zero => intro H locs ls σ v2 v3 v4 S hl hf; cases hf
  | succ n ih =>
    intro H locs ls σ v2 v3 v4 S hl hf
    have hk35 := @ih
    rw [f_X10_spread_b35] at hf
    refine lv_iload C.1 C.2.1 dX10_spread_35 (lv_at hl 3 rfl) ?_
    refine r_bipush C dX10_spread_37 (by decide) ?_
    refine r_icmp_ge C rfl (show w32 24 = 24 by decide) (tgt := 90) dX10_spread_39 (by decide) (fun h17 => ?_) (fun h17 => ?_)
    · replace hf := if_t hf h17
      refine lv_aload_n C.1 C.2.1 dX10_spread_42 rfl (lv_at hl 0 rfl) ?_
      refine g10_bestSet C S tw_1098 dX10_spread_43 ?_
      refine lv_iload_n C.1 C.2.1 dX10_spread_46 rfl (lv_at hl 2 rfl) ?_
      obtain ⟨q6, hc7, hf⟩ := bd_o hf
      refine r_callSv C S (As := [.int (oI (σ 41 37)), .int (oI v3)]) (rest := []) (ct_X10_has l G τ hc7) mi_X10_has tw_1285 ms_X10_has ⟨rfl, rfl⟩ ⟨Nat.le_of_ble_eq_true rfl, Nat.le_of_ble_eq_true rfl⟩ ⟨Nat.zero_le _, Nat.zero_le _⟩ rfl hl.1 rfl (Nat.le_of_ble_eq_true rfl) dX10_spread_47 (fun H locs S => ?_)
      refine r_if_eq C rfl (tgt := 84) dX10_spread_50 (by decide) (fun h16 => ?_) (fun h16 => ?_)
      · replace hf := if_t hf h16
        exact b_X10_spread_b84 C hend hk26 hk35 v2 v3 v4 S (lv_sub hl [0, 1, 2, 3] rfl) hf
      · replace hf := if_f hf h16
        refine lv_aload_n C.1 C.2.1 dX10_spread_53 rfl (lv_at hl 0 rfl) ?_
        refine g10_bestSet C S tw_1098 dX10_spread_54 ?_
        refine lv_iload C.1 C.2.1 dX10_spread_57 (lv_at hl 3 rfl) ?_
        obtain ⟨q8, hc9, hf⟩ := bd_o hf
        refine r_callSv C S (As := [.int (oI (σ 41 37)), .int (oI v4)]) (rest := []) (ct_X10_has l G τ hc9) mi_X10_has tw_1285 ms_X10_has ⟨rfl, rfl⟩ ⟨Nat.le_of_ble_eq_true rfl, Nat.le_of_ble_eq_true rfl⟩ ⟨Nat.zero_le _, Nat.zero_le _⟩ rfl hl.1 rfl (Nat.le_of_ble_eq_true rfl) dX10_spread_59 (fun H locs S => ?_)
        refine r_if_eq C rfl (tgt := 84) dX10_spread_62 (by decide) (fun h15 => ?_) (fun h15 => ?_)
        · replace hf := if_t hf h15
          exact b_X10_spread_b84 C hend hk26 hk35 v2 v3 v4 S (lv_sub hl [0, 1, 2, 3] rfl) hf
        · replace hf := if_f hf h15
          refine lv_aload_n C.1 C.2.1 dX10_spread_65 rfl (lv_at hl 0 rfl) ?_
          refine lv_iload_n C.1 C.2.1 dX10_spread_66 rfl (lv_at hl 2 rfl) ?_
          refine lv_iload C.1 C.2.1 dX10_spread_67 (lv_at hl 3 rfl) ?_
          obtain ⟨q10, hc11, hf⟩ := bd_o hf
          refine r_callVv C S (As := [.int (oI v3), .int (oI v4)]) (rest := []) (ct_X10_distance l G τ hc11) mi_X10_distance tw_1297 mv_X10_distance (rvX10 S) ⟨rfl, rfl⟩ ⟨Nat.le_of_ble_eq_true rfl, Nat.le_of_ble_eq_true rfl⟩ ⟨Nat.zero_le _, Nat.zero_le _⟩ rfl hl.1 rfl (Nat.le_of_ble_eq_true rfl) dX10_spread_69 (fun H locs S => ?_)
          refine lv_iload_n C.1 C.2.1 dX10_spread_72 rfl (lv_at hl 1 rfl) ?_
          refine r_icmp_le C rfl rfl (tgt := 84) dX10_spread_73 (by decide) (fun h14 => ?_) (fun h14 => ?_)
          · replace hf := if_t hf h14
            exact b_X10_spread_b84 C hend hk26 hk35 v2 v3 v4 S (lv_sub hl [0, 1, 2, 3] rfl) hf
          · replace hf := if_f hf h14
            refine lv_aload_n C.1 C.2.1 dX10_spread_76 rfl (lv_at hl 0 rfl) ?_
            refine lv_iload_n C.1 C.2.1 dX10_spread_77 rfl (lv_at hl 2 rfl) ?_
            refine lv_iload C.1 C.2.1 dX10_spread_78 (lv_at hl 3 rfl) ?_
            obtain ⟨q12, hc13, hf⟩ := bd_o hf
            refine r_callVv C S (As := [.int (oI v3), .int (oI v4)]) (rest := []) (ct_X10_distance l G τ hc13) mi_X10_distance tw_1297 mv_X10_distance (rvX10 S) ⟨rfl, rfl⟩ ⟨Nat.le_of_ble_eq_true rfl, Nat.le_of_ble_eq_true rfl⟩ ⟨Nat.zero_le _, Nat.zero_le _⟩ rfl hl.1 rfl (Nat.le_of_ble_eq_true rfl) dX10_spread_80 (fun H locs S => ?_)
            refine lv_istore_n C.1 C.2.1 dX10_spread_83 rfl hl (by decide) (lv' := [(2, .int (oI q12)), (0, .ref (G.1 41)), (3, .int (oI v3)), (4, .int (oI v4))]) rfl (fun ls hl => ?_)
            exact b_X10_spread_b84 C hend hk26 hk35 q12 v3 v4 S (lv_sub hl [1, 0, 2, 3] rfl) hf
    · replace hf := if_f hf h17
      exact b_X10_spread_b90 C hend hk26 v2 v3 S (lv_sub hl [0, 1, 2] rfl) hf
set_option maxRecDepth 100000 in
set_option maxHeartbeats 4000000 in
theorem b_X10_spread_b26 (C : Cx p s m args c RX10 cX10_spread 5) {q : Int × Sg} (hend : EndR p l e (rmk 4 119) s m args below meth c Q G false τ cX10_spread .ireturn [.int (oI q.1)] q.2) : ∀ (n : Nat) {H : Heap} {locs : List Loc} {ls : Array Slot} {σ : Sg} (v2 : Int) (v3 : Int) (S : St G false τ σ s H locs) (hl : lv_has ls 5 [(0, .ref (G.1 41)), (2, .int (oI v2)), (3, .int (oI v3))]) (hf : f_X10_spread_b26 n v2 v3 σ = some q), W p l e (rmk 4 119) s m args below meth c H locs 0 0 Q (F0 m 26 ls []) := by
  intro n
  induction n with
  | zero => intro H locs ls σ v2 v3 S hl hf; cases hf
  | succ n ih =>
    intro H locs ls σ v2 v3 S hl hf
    have hk26 := @ih
    rw [f_X10_spread_b26] at hf
    refine lv_iload_n C.1 C.2.1 dX10_spread_26 rfl (lv_at hl 2 rfl) ?_
    refine r_bipush C dX10_spread_27 (by decide) ?_
    refine r_icmp_ge C rfl (show w32 24 = 24 by decide) (tgt := 96) dX10_spread_29 (by decide) (fun h18 => ?_) (fun h18 => ?_)
    · replace hf := if_t hf h18
      refine lv_iload_n C.1 C.2.1 dX10_spread_32 rfl (lv_at hl 2 rfl) ?_
      refine lv_istore C.1 C.2.1 dX10_spread_33 hl (by decide) (lv' := [(4, .int (oI v3)), (0, .ref (G.1 41)), (2, .int (oI v2)), (3, .int (oI v3))]) rfl (fun ls hl => ?_)
      exact b_X10_spread_b35 C hend hk26 FUEL v2 v3 v3 S (lv_sub hl [1, 2, 3, 0] rfl) hf
    · replace hf := if_f hf h18
      refine lv_iload_n C.1 C.2.1 dX10_spread_96 rfl (lv_at hl 1 rfl) ?_
      cases hf
      exact hend _ _ _ _ S dX10_spread_97
set_option maxRecDepth 100000 in
set_option maxHeartbeats 4000000 in
theorem ct_X10_spread (l : Launch) (G : Gd) (τ : Sg) {v1 : Int} {σ : Sg} {q : Int × Sg} (hf : f_X10_spread v1 σ = some q) : Ctr l yX10_spread cX10_spread 5 (some .int) (rmk 4 119) G false τ [.ref (G.1 41), .int (oI v1)] σ q.2 (some (.int (oI q.1))) := by
  unfold f_X10_spread at hf
  refine CtrI.of (own := RX10) (plainFor_of_name (by decide)) (Nat.le_of_ble_eq_true rfl) rfl (fun p e s m below meth c Q ls C hl S hend => ?_)
  have hl : lv_has ls 5 [(0, .ref (G.1 41)), (1, .int (oI v1))] := hl
  refine lv_aload_n C.1 C.2.1 dX10_spread_0 rfl (lv_at hl 0 rfl) ?_
  refine r_iconst C dX10_spread_1 ?_
  refine p10_thrown C S tw_1061 dX10_spread_2 (fun H locs S => ?_)
  obtain ⟨σ1, S, hf⟩ := wr_s S hf
  refine lv_aload_n C.1 C.2.1 dX10_spread_5 rfl (lv_at hl 0 rfl) ?_
  refine lv_iload_n C.1 C.2.1 dX10_spread_6 rfl (lv_at hl 1 rfl) ?_
  obtain ⟨q2, hc3, hf⟩ := bd_o hf
  refine r_callVv C S (As := [.int (oI v1)]) (rest := []) (ct_X10_isTreaty l G τ hc3) mi_X10_isTreaty tw_1373 mv_X10_isTreaty (rvX10 S) ⟨rfl, rfl⟩ ⟨Nat.le_of_ble_eq_true rfl, Nat.le_of_ble_eq_true rfl⟩ ⟨Nat.zero_le _, Nat.zero_le _⟩ rfl hl.1 rfl (Nat.le_of_ble_eq_true rfl) dX10_spread_7 (fun H locs S => ?_)
  refine r_if_ne C rfl (tgt := 15) dX10_spread_10 (by decide) (fun h19 => ?_) (fun h19 => ?_)
  · replace hf := if_t hf h19
    refine r_iconst C dX10_spread_13 ?_
    cases hf
    exact hend _ _ _ _ S dX10_spread_14
  · replace hf := if_f hf h19
    refine lv_aload_n C.1 C.2.1 dX10_spread_15 rfl (lv_at hl 0 rfl) ?_
    refine lv_iload_n C.1 C.2.1 dX10_spread_16 rfl (lv_at hl 1 rfl) ?_
    obtain ⟨q4, hc5, hf⟩ := bd_o hf
    refine r_callVv C S (As := [.int (oI v1)]) (rest := []) (ct_X10_worstOf l G τ hc5) mi_X10_worstOf tw_1273 mv_X10_worstOf (rvX10 S) ⟨rfl, rfl⟩ ⟨Nat.le_of_ble_eq_true rfl, Nat.le_of_ble_eq_true rfl⟩ ⟨Nat.zero_le _, Nat.zero_le _⟩ rfl hl.1 rfl (Nat.le_of_ble_eq_true rfl) dX10_spread_17 (fun H locs S => ?_)
    refine lv_pop C.1 C.2.1 dX10_spread_20 rfl ?_
    refine r_bipush C dX10_spread_21 (by decide) ?_
    refine lv_istore_n C.1 C.2.1 dX10_spread_23 rfl hl (by decide) (lv' := [(2, .int (oI ((-2)))), (0, .ref (G.1 41)), (1, .int (oI v1))]) rfl (fun ls hl => ?_)
    refine r_iconst C dX10_spread_24 ?_
    refine lv_istore_n C.1 C.2.1 dX10_spread_25 rfl hl (by decide) (lv' := [(3, .int (oI 0)), (2, .int (oI ((-2)))), (0, .ref (G.1 41)), (1, .int (oI v1))]) rfl (fun ls hl => ?_)
    exact b_X10_spread_b26 C hend FUEL ((-2)) 0 S (lv_sub hl [2, 1, 0] rfl) hf
set_option maxRecDepth 100000 in
set_option maxHeartbeats 4000000 in
theorem b_X10_common_b6 (C : Cx p s m args c RX10 cX10_common 10) {q : Int} (hend : EndR p l e (rmk 0 0) s m args below meth c Q G false τ cX10_common .lreturn [.long (oL q)] σ) : ∀ (n : Nat) {H : Heap} {locs : List Loc} {ls : Array Slot} (v4 : Int) (v6 : Int) (S : St G false τ σ s H locs) (hl : lv_has ls 10 [(4, .long (oL v4)), (6, .long (oL v6))]) (hf : f_X10_common_b6 σ n v4 v6 = some q), W p l e (rmk 0 0) s m args below meth c H locs 0 0 Q (F0 m 6 ls []) := by
  intro n
  induction n with
  | zero => intro H locs ls v4 v6 S hl hf; cases hf
  | succ n ih =>
    intro H locs ls v4 v6 S hl hf
    have hk6 := @ih
    rw [f_X10_common_b6] at hf
    refine lv_lload C.1 C.2.1 dX10_common_6 (lv_at hl 1 rfl) ?_
    refine r_lconst C (z := 0) dX10_common_8 (by decide) ?_
    refine r_lcmp_eq C rfl (show w64 0 = 0 by decide) (tgt := 31) dX10_common_9 dX10_common_10 (by decide) (fun h2 => ?_) (fun h2 => ?_)
    · replace hf := if_t hf h2
      refine lv_lload C.1 C.2.1 dX10_common_31 (lv_at hl 0 rfl) ?_
      cases hf
      exact hend _ _ _ _ S dX10_common_33
    · replace hf := if_f hf h2
      refine lv_lload C.1 C.2.1 dX10_common_13 (lv_at hl 0 rfl) ?_
      refine lv_lload C.1 C.2.1 dX10_common_15 (lv_at hl 1 rfl) ?_
      obtain ⟨hz1, hf⟩ := ck_o hf
      refine r_lrem C hz1 dX10_common_17 ?_
      refine lv_lstore C.1 C.2.1 dX10_common_18 hl (by decide) (lv' := [(8, .long (oL ((w64 v4).tmod (w64 v6)))), (4, .long (oL v4)), (6, .long (oL v6))]) rfl (fun ls hl => ?_)
      refine lv_lload C.1 C.2.1 dX10_common_20 (lv_at hl 2 rfl) ?_
      refine lv_lstore C.1 C.2.1 dX10_common_22 hl (by decide) (lv' := [(4, .long (oL v6)), (8, .long (oL ((w64 v4).tmod (w64 v6)))), (6, .long (oL v6))]) rfl (fun ls hl => ?_)
      refine lv_lload C.1 C.2.1 dX10_common_24 (lv_at hl 1 rfl) ?_
      refine lv_lstore C.1 C.2.1 dX10_common_26 hl (by decide) (lv' := [(6, .long (oL ((w64 v4).tmod (w64 v6)))), (4, .long (oL v6)), (8, .long (oL ((w64 v4).tmod (w64 v6))))]) rfl (fun ls hl => ?_)
      refine lv_goto C.1 C.2.1 (tgt := 6) dX10_common_28 (by decide) ?_
      exact hk6 v6 ((w64 v4).tmod (w64 v6)) S (lv_sub hl [1, 0] rfl) hf
set_option maxRecDepth 100000 in
set_option maxHeartbeats 4000000 in
theorem ct_X10_common (l : Launch) (G : Gd) (τ : Sg) {v0 : Int} {v2 : Int} {σ : Sg} {q : Int} (hf : f_X10_common v0 v2 σ = some q) : Ctr l yX10_common cX10_common 10 (some .long) (rmk 0 0) G false τ [.long (oL v0), .long (oL v2)] σ σ (some (.long (oL q))) := by
  unfold f_X10_common at hf
  refine CtrJ.of (own := RX10) (plainFor_of_name (by decide)) (Nat.le_of_ble_eq_true rfl) rfl (fun p e s m below meth c Q ls C hl S hend => ?_)
  have hl : lv_has ls 10 [(0, .long (oL v0)), (2, .long (oL v2))] := hl
  refine lv_lload_n C.1 C.2.1 dX10_common_0 rfl (lv_at hl 0 rfl) ?_
  refine lv_lstore C.1 C.2.1 dX10_common_1 hl (by decide) (lv' := [(4, .long (oL v0)), (0, .long (oL v0)), (2, .long (oL v2))]) rfl (fun ls hl => ?_)
  refine lv_lload_n C.1 C.2.1 dX10_common_3 rfl (lv_at hl 2 rfl) ?_
  refine lv_lstore C.1 C.2.1 dX10_common_4 hl (by decide) (lv' := [(6, .long (oL v2)), (4, .long (oL v0)), (0, .long (oL v0)), (2, .long (oL v2))]) rfl (fun ls hl => ?_)
  exact b_X10_common_b6 C hend FUEL v0 v2 S (lv_sub hl [1, 0] rfl) hf
set_option maxRecDepth 100000 in
set_option maxHeartbeats 4000000 in
theorem ct_X10_turn (l : Launch) (G : Gd) (τ : Sg) {v1 : Int} {v2 : Int} {v3 : Int} {σ : Sg} {q : Int} (hf : f_X10_turn v1 v2 v3 σ = some q) : Ctr l yX10_turn cX10_turn 4 (some .long) (rmk 0 0) G false τ [.ref (G.1 41), .int (oI v1), .int (oI v2), .int (oI v3)] σ σ (some (.long (oL q))) := by
  unfold f_X10_turn at hf
  refine CtrJ.of (own := RX10) (plainFor_of_name (by decide)) (Nat.le_of_ble_eq_true rfl) rfl (fun p e s m below meth c Q ls C hl S hend => ?_)
  have hl : lv_has ls 4 [(0, .ref (G.1 41)), (1, .int (oI v1)), (2, .int (oI v2)), (3, .int (oI v3))] := hl
  refine lv_aload_n C.1 C.2.1 dX10_turn_0 rfl (lv_at hl 0 rfl) ?_
  refine g10_x C S tw_1078 dX10_turn_1 ?_
  refine lv_iload_n C.1 C.2.1 dX10_turn_4 rfl (lv_at hl 2 rfl) ?_
  obtain ⟨hi1, hf⟩ := ck_o hf
  refine a_iald C S ar_45 hi1 dX10_turn_5 ?_
  refine lv_aload_n C.1 C.2.1 dX10_turn_6 rfl (lv_at hl 0 rfl) ?_
  refine g10_x C S tw_1078 dX10_turn_7 ?_
  refine lv_iload_n C.1 C.2.1 dX10_turn_10 rfl (lv_at hl 1 rfl) ?_
  obtain ⟨hi2, hf⟩ := ck_o hf
  refine a_iald C S ar_45 hi2 dX10_turn_11 ?_
  refine r_isub C dX10_turn_12 ?_
  refine r_i2l C dX10_turn_13 ?_
  refine lv_aload_n C.1 C.2.1 dX10_turn_14 rfl (lv_at hl 0 rfl) ?_
  refine g10_y C S tw_1079 dX10_turn_15 ?_
  refine lv_iload_n C.1 C.2.1 dX10_turn_18 rfl (lv_at hl 3 rfl) ?_
  obtain ⟨hi3, hf⟩ := ck_o hf
  refine a_iald C S ar_46 hi3 dX10_turn_19 ?_
  refine lv_aload_n C.1 C.2.1 dX10_turn_20 rfl (lv_at hl 0 rfl) ?_
  refine g10_y C S tw_1079 dX10_turn_21 ?_
  refine lv_iload_n C.1 C.2.1 dX10_turn_24 rfl (lv_at hl 1 rfl) ?_
  obtain ⟨hi4, hf⟩ := ck_o hf
  refine a_iald C S ar_46 hi4 dX10_turn_25 ?_
  refine r_isub C dX10_turn_26 ?_
  refine r_i2l C dX10_turn_27 ?_
  refine r_lmul C dX10_turn_28 ?_
  refine lv_aload_n C.1 C.2.1 dX10_turn_29 rfl (lv_at hl 0 rfl) ?_
  refine g10_y C S tw_1079 dX10_turn_30 ?_
  refine lv_iload_n C.1 C.2.1 dX10_turn_33 rfl (lv_at hl 2 rfl) ?_
  obtain ⟨hi5, hf⟩ := ck_o hf
  refine a_iald C S ar_46 hi5 dX10_turn_34 ?_
  refine lv_aload_n C.1 C.2.1 dX10_turn_35 rfl (lv_at hl 0 rfl) ?_
  refine g10_y C S tw_1079 dX10_turn_36 ?_
  refine lv_iload_n C.1 C.2.1 dX10_turn_39 rfl (lv_at hl 1 rfl) ?_
  obtain ⟨hi6, hf⟩ := ck_o hf
  refine a_iald C S ar_46 hi6 dX10_turn_40 ?_
  refine r_isub C dX10_turn_41 ?_
  refine r_i2l C dX10_turn_42 ?_
  refine lv_aload_n C.1 C.2.1 dX10_turn_43 rfl (lv_at hl 0 rfl) ?_
  refine g10_x C S tw_1078 dX10_turn_44 ?_
  refine lv_iload_n C.1 C.2.1 dX10_turn_47 rfl (lv_at hl 3 rfl) ?_
  obtain ⟨hi7, hf⟩ := ck_o hf
  refine a_iald C S ar_45 hi7 dX10_turn_48 ?_
  refine lv_aload_n C.1 C.2.1 dX10_turn_49 rfl (lv_at hl 0 rfl) ?_
  refine g10_x C S tw_1078 dX10_turn_50 ?_
  refine lv_iload_n C.1 C.2.1 dX10_turn_53 rfl (lv_at hl 1 rfl) ?_
  obtain ⟨hi8, hf⟩ := ck_o hf
  refine a_iald C S ar_45 hi8 dX10_turn_54 ?_
  refine r_isub C dX10_turn_55 ?_
  refine r_i2l C dX10_turn_56 ?_
  refine r_lmul C dX10_turn_57 ?_
  refine r_lsub C dX10_turn_58 ?_
  cases hf
  exact hend _ _ _ _ S dX10_turn_59
set_option maxRecDepth 100000 in
set_option maxHeartbeats 4000000 in
theorem b_X10_isWidth_b83 (C : Cx p s m args c RX10 cX10_isWidth 5) {q : Int} {k3 : Int → Int → Int → Int → Option (Int)} (hend : (q = 0 ∨ q = 1) → EndR p l e (rmk 1 21) s m args below meth c Q G false τ cX10_isWidth .ireturn [.int (oI q)] σ) (hk3 : ∀ {H : Heap} {locs : List Loc} {ls : Array Slot} (v1 : Int) (v2 : Int) (v3 : Int) (v4 : Int), St G false τ σ s H locs → lv_has ls 5 [(0, .ref (G.1 41)), (1, .int (oI v1)), (2, .int (oI v2)), (3, .int (oI v3)), (4, .int (oI v4))] → k3 v1 v2 v3 v4 = some q → W p l e (rmk 1 21) s m args below meth c H locs 0 0 Q (F0 m 3 ls [])) {H : Heap} {locs : List Loc} {ls : Array Slot} (v1 : Int) (v2 : Int) (v3 : Int) (v4 : Int) (S : St G false τ σ s H locs) (hl : lv_has ls 5 [(0, .ref (G.1 41)), (1, .int (oI v1)), (2, .int (oI v2)), (3, .int (oI v3)), (4, .int (oI v4))]) (hf : f_X10_isWidth_b83 σ k3 v1 v2 v3 v4 = some q) : W p l e (rmk 1 21) s m args below meth c H locs 0 0 Q (F0 m 83 ls []) := by
  unfold f_X10_isWidth_b83 at hf
  refine r_iinc C dX10_isWidth_83 hl (k := 4) rfl (by decide) (lv' := [(4, .int (oI (v4 + 1))), (0, .ref (G.1 41)), (1, .int (oI v1)), (2, .int (oI v2)), (3, .int (oI v3))]) rfl (fun ls hl => ?_)
  refine lv_goto C.1 C.2.1 (tgt := 3) dX10_isWidth_86 (by decide) ?_
  exact hk3 v1 v2 v3 (v4 + 1) S (lv_sub hl [1, 2, 3, 4, 0] rfl) hf
set_option maxRecDepth 100000 in
set_option maxHeartbeats 4000000 in
theorem b_X10_isWidth_b3 (C : Cx p s m args c RX10 cX10_isWidth 5) {q : Int} (hend : (q = 0 ∨ q = 1) → EndR p l e (rmk 1 21) s m args below meth c Q G false τ cX10_isWidth .ireturn [.int (oI q)] σ) : ∀ (n : Nat) {H : Heap} {locs : List Loc} {ls : Array Slot} (v1 : Int) (v2 : Int) (v3 : Int) (v4 : Int) (S : St G false τ σ s H locs) (hl : lv_has ls 5 [(0, .ref (G.1 41)), (1, .int (oI v1)), (2, .int (oI v2)), (3, .int (oI v3)), (4, .int (oI v4))]) (hf : f_X10_isWidth_b3 σ n v1 v2 v3 v4 = some q), W p l e (rmk 1 21) s m args below meth c H locs 0 0 Q (F0 m 3 ls []) := by
  intro n
  induction n with
  | zero => intro H locs ls v1 v2 v3 v4 S hl hf; cases hf
  | succ n ih =>
    intro H locs ls v1 v2 v3 v4 S hl hf
    have hk3 := @ih
    rw [f_X10_isWidth_b3] at hf
    refine lv_iload C.1 C.2.1 dX10_isWidth_3 (lv_at hl 4 rfl) ?_
    refine r_bipush C dX10_isWidth_5 (by decide) ?_
    refine r_icmp_ge C rfl (show w32 24 = 24 by decide) (tgt := 89) dX10_isWidth_7 (by decide) (fun h13 => ?_) (fun h13 => ?_)
    · replace hf := if_t hf h13
      refine lv_iload_n C.1 C.2.1 dX10_isWidth_10 rfl (lv_at hl 1 rfl) ?_
      refine lv_iload C.1 C.2.1 dX10_isWidth_11 (lv_at hl 4 rfl) ?_
      obtain ⟨q1, hc2, hf⟩ := bd_o hf
      refine r_callSv C S (As := [.int (oI v1), .int (oI v4)]) (rest := []) (ct_X10_has l G τ hc2) mi_X10_has tw_1285 ms_X10_has ⟨rfl, rfl⟩ ⟨Nat.le_of_ble_eq_true rfl, Nat.le_of_ble_eq_true rfl⟩ ⟨Nat.zero_le _, Nat.zero_le _⟩ rfl hl.1 rfl (Nat.le_of_ble_eq_true rfl) dX10_isWidth_13 (fun H locs S => ?_)
      refine r_if_eq C rfl (tgt := 83) dX10_isWidth_16 (by decide) (fun h12 => ?_) (fun h12 => ?_)
      · replace hf := if_t hf h12
        exact b_X10_isWidth_b83 C hend hk3 v1 v2 v3 v4 S (lv_sub hl [0, 1, 2, 3, 4] rfl) hf
      · replace hf := if_f hf h12
        refine lv_aload_n C.1 C.2.1 dX10_isWidth_19 rfl (lv_at hl 0 rfl) ?_
        refine g10_x C S tw_1078 dX10_isWidth_20 ?_
        refine lv_iload C.1 C.2.1 dX10_isWidth_23 (lv_at hl 4 rfl) ?_
        obtain ⟨hi3, hf⟩ := ck_o hf
        refine a_iald C S ar_45 hi3 dX10_isWidth_25 ?_
        refine lv_aload_n C.1 C.2.1 dX10_isWidth_26 rfl (lv_at hl 0 rfl) ?_
        refine g10_x C S tw_1078 dX10_isWidth_27 ?_
        refine lv_iload_n C.1 C.2.1 dX10_isWidth_30 rfl (lv_at hl 2 rfl) ?_
        obtain ⟨hi4, hf⟩ := ck_o hf
        refine a_iald C S ar_45 hi4 dX10_isWidth_31 ?_
        refine r_isub C dX10_isWidth_32 ?_
        refine lv_aload_n C.1 C.2.1 dX10_isWidth_33 rfl (lv_at hl 0 rfl) ?_
        refine g10_x C S tw_1078 dX10_isWidth_34 ?_
        refine lv_iload C.1 C.2.1 dX10_isWidth_37 (lv_at hl 4 rfl) ?_
        obtain ⟨hi5, hf⟩ := ck_o hf
        refine a_iald C S ar_45 hi5 dX10_isWidth_39 ?_
        refine lv_aload_n C.1 C.2.1 dX10_isWidth_40 rfl (lv_at hl 0 rfl) ?_
        refine g10_x C S tw_1078 dX10_isWidth_41 ?_
        refine lv_iload_n C.1 C.2.1 dX10_isWidth_44 rfl (lv_at hl 3 rfl) ?_
        obtain ⟨hi6, hf⟩ := ck_o hf
        refine a_iald C S ar_45 hi6 dX10_isWidth_45 ?_
        refine r_isub C dX10_isWidth_46 ?_
        refine r_imul C dX10_isWidth_47 ?_
        refine lv_aload_n C.1 C.2.1 dX10_isWidth_48 rfl (lv_at hl 0 rfl) ?_
        refine g10_y C S tw_1079 dX10_isWidth_49 ?_
        refine lv_iload C.1 C.2.1 dX10_isWidth_52 (lv_at hl 4 rfl) ?_
        obtain ⟨hi7, hf⟩ := ck_o hf
        refine a_iald C S ar_46 hi7 dX10_isWidth_54 ?_
        refine lv_aload_n C.1 C.2.1 dX10_isWidth_55 rfl (lv_at hl 0 rfl) ?_
        refine g10_y C S tw_1079 dX10_isWidth_56 ?_
        refine lv_iload_n C.1 C.2.1 dX10_isWidth_59 rfl (lv_at hl 2 rfl) ?_
        obtain ⟨hi8, hf⟩ := ck_o hf
        refine a_iald C S ar_46 hi8 dX10_isWidth_60 ?_
        refine r_isub C dX10_isWidth_61 ?_
        refine lv_aload_n C.1 C.2.1 dX10_isWidth_62 rfl (lv_at hl 0 rfl) ?_
        refine g10_y C S tw_1079 dX10_isWidth_63 ?_
        refine lv_iload C.1 C.2.1 dX10_isWidth_66 (lv_at hl 4 rfl) ?_
        obtain ⟨hi9, hf⟩ := ck_o hf
        refine a_iald C S ar_46 hi9 dX10_isWidth_68 ?_
        refine lv_aload_n C.1 C.2.1 dX10_isWidth_69 rfl (lv_at hl 0 rfl) ?_
        refine g10_y C S tw_1079 dX10_isWidth_70 ?_
        refine lv_iload_n C.1 C.2.1 dX10_isWidth_73 rfl (lv_at hl 3 rfl) ?_
        obtain ⟨hi10, hf⟩ := ck_o hf
        refine a_iald C S ar_46 hi10 dX10_isWidth_74 ?_
        refine r_isub C dX10_isWidth_75 ?_
        refine r_imul C dX10_isWidth_76 ?_
        refine r_iadd C dX10_isWidth_77 ?_
        refine r_if_le C rfl (tgt := 83) dX10_isWidth_78 (by decide) (fun h11 => ?_) (fun h11 => ?_)
        · replace hf := if_t hf h11
          exact b_X10_isWidth_b83 C hend hk3 v1 v2 v3 v4 S (lv_sub hl [0, 1, 2, 3, 4] rfl) hf
        · replace hf := if_f hf h11
          refine r_iconst C dX10_isWidth_81 ?_
          cases hf
          exact hend (Or.inl rfl) _ _ _ _ S dX10_isWidth_82
    · replace hf := if_f hf h13
      refine r_iconst C dX10_isWidth_89 ?_
      cases hf
      exact hend (Or.inr rfl) _ _ _ _ S dX10_isWidth_90
set_option maxRecDepth 100000 in
set_option maxHeartbeats 4000000 in
theorem ct_X10_isWidth (l : Launch) (G : Gd) (τ : Sg) {v1 : Int} {v2 : Int} {v3 : Int} {σ : Sg} {q : Int} (hf : f_X10_isWidth v1 v2 v3 σ = some q) : Ctr l yX10_isWidth cX10_isWidth 5 (some .boolean) (rmk 1 21) G false τ [.ref (G.1 41), .int (oI v1), .int (oI v2), .int (oI v3)] σ σ (some (.int (oI q))) := by
  unfold f_X10_isWidth at hf
  refine CtrZ.of (own := RX10) (plainFor_of_name (by decide)) (Nat.le_of_ble_eq_true rfl) rfl (fun p e s m below meth c Q ls C hl S hend => ?_)
  have hl : lv_has ls 5 [(0, .ref (G.1 41)), (1, .int (oI v1)), (2, .int (oI v2)), (3, .int (oI v3))] := hl
  refine r_iconst C dX10_isWidth_0 ?_
  refine lv_istore C.1 C.2.1 dX10_isWidth_1 hl (by decide) (lv' := [(4, .int (oI 0)), (0, .ref (G.1 41)), (1, .int (oI v1)), (2, .int (oI v2)), (3, .int (oI v3))]) rfl (fun ls hl => ?_)
  exact b_X10_isWidth_b3 C hend FUEL v1 v2 v3 0 S (lv_sub hl [1, 2, 3, 4, 0] rfl) hf
set_option maxRecDepth 100000 in
set_option maxHeartbeats 4000000 in
theorem ct_X10_isSharp (l : Launch) (G : Gd) (τ : Sg) {v1 : Int} {v2 : Int} {v3 : Int} {σ : Sg} {q : Int} (hf : f_X10_isSharp v1 v2 v3 σ = some q) : Ctr l yX10_isSharp cX10_isSharp 7 (some .boolean) (rmk 1 23) G false τ [.ref (G.1 41), .int (oI v1), .int (oI v2), .int (oI v3)] σ σ (some (.int (oI q))) := by
  unfold f_X10_isSharp at hf
  refine CtrZ.of (own := RX10) (plainFor_of_name (by decide)) (Nat.le_of_ble_eq_true rfl) rfl (fun p e s m below meth c Q ls C hl S hend => ?_)
  have hl : lv_has ls 7 [(0, .ref (G.1 41)), (1, .int (oI v1)), (2, .int (oI v2)), (3, .int (oI v3))] := hl
  refine lv_aload_n C.1 C.2.1 dX10_isSharp_0 rfl (lv_at hl 0 rfl) ?_
  refine lv_iload_n C.1 C.2.1 dX10_isSharp_1 rfl (lv_at hl 1 rfl) ?_
  refine lv_iload_n C.1 C.2.1 dX10_isSharp_2 rfl (lv_at hl 2 rfl) ?_
  obtain ⟨q1, hc2, hf⟩ := bd_o hf
  refine r_callVv C S (As := [.int (oI v1), .int (oI v2)]) (rest := []) (ct_X10_distance l G τ hc2) mi_X10_distance tw_1297 mv_X10_distance (rvX10 S) ⟨rfl, rfl⟩ ⟨Nat.le_of_ble_eq_true rfl, Nat.le_of_ble_eq_true rfl⟩ ⟨Nat.zero_le _, Nat.zero_le _⟩ rfl hl.1 rfl (Nat.le_of_ble_eq_true rfl) dX10_isSharp_3 (fun H locs S => ?_)
  refine lv_istore C.1 C.2.1 dX10_isSharp_6 hl (by decide) (lv' := [(4, .int (oI q1)), (0, .ref (G.1 41)), (1, .int (oI v1)), (2, .int (oI v2)), (3, .int (oI v3))]) rfl (fun ls hl => ?_)
  refine lv_aload_n C.1 C.2.1 dX10_isSharp_8 rfl (lv_at hl 1 rfl) ?_
  refine lv_iload_n C.1 C.2.1 dX10_isSharp_9 rfl (lv_at hl 3 rfl) ?_
  refine lv_iload_n C.1 C.2.1 dX10_isSharp_10 rfl (lv_at hl 4 rfl) ?_
  obtain ⟨q3, hc4, hf⟩ := bd_o hf
  refine r_callVv C S (As := [.int (oI v2), .int (oI v3)]) (rest := []) (ct_X10_distance l G τ hc4) mi_X10_distance tw_1297 mv_X10_distance (rvX10 S) ⟨rfl, rfl⟩ ⟨Nat.le_of_ble_eq_true rfl, Nat.le_of_ble_eq_true rfl⟩ ⟨Nat.zero_le _, Nat.zero_le _⟩ rfl hl.1 rfl (Nat.le_of_ble_eq_true rfl) dX10_isSharp_11 (fun H locs S => ?_)
  refine lv_istore C.1 C.2.1 dX10_isSharp_14 hl (by decide) (lv' := [(5, .int (oI q3)), (4, .int (oI q1)), (0, .ref (G.1 41)), (1, .int (oI v1)), (2, .int (oI v2)), (3, .int (oI v3))]) rfl (fun ls hl => ?_)
  refine lv_aload_n C.1 C.2.1 dX10_isSharp_16 rfl (lv_at hl 2 rfl) ?_
  refine lv_iload_n C.1 C.2.1 dX10_isSharp_17 rfl (lv_at hl 5 rfl) ?_
  refine lv_iload_n C.1 C.2.1 dX10_isSharp_18 rfl (lv_at hl 3 rfl) ?_
  obtain ⟨q5, hc6, hf⟩ := bd_o hf
  refine r_callVv C S (As := [.int (oI v3), .int (oI v1)]) (rest := []) (ct_X10_distance l G τ hc6) mi_X10_distance tw_1297 mv_X10_distance (rvX10 S) ⟨rfl, rfl⟩ ⟨Nat.le_of_ble_eq_true rfl, Nat.le_of_ble_eq_true rfl⟩ ⟨Nat.zero_le _, Nat.zero_le _⟩ rfl hl.1 rfl (Nat.le_of_ble_eq_true rfl) dX10_isSharp_19 (fun H locs S => ?_)
  refine lv_istore C.1 C.2.1 dX10_isSharp_22 hl (by decide) (lv' := [(6, .int (oI q5)), (5, .int (oI q3)), (4, .int (oI q1)), (0, .ref (G.1 41)), (1, .int (oI v1)), (2, .int (oI v2)), (3, .int (oI v3))]) rfl (fun ls hl => ?_)
  refine lv_iload C.1 C.2.1 dX10_isSharp_24 (lv_at hl 2 rfl) ?_
  refine lv_iload C.1 C.2.1 dX10_isSharp_26 (lv_at hl 1 rfl) ?_
  refine lv_iload C.1 C.2.1 dX10_isSharp_28 (lv_at hl 0 rfl) ?_
  refine r_iadd C dX10_isSharp_30 ?_
  refine r_icmp_ge C rfl rfl (tgt := 70) dX10_isSharp_31 (by decide) (fun h12 => ?_) (fun h12 => ?_)
  · replace hf := if_t hf h12
    refine lv_iload C.1 C.2.1 dX10_isSharp_34 (lv_at hl 1 rfl) ?_
    refine lv_iload C.1 C.2.1 dX10_isSharp_36 (lv_at hl 2 rfl) ?_
    refine lv_iload C.1 C.2.1 dX10_isSharp_38 (lv_at hl 0 rfl) ?_
    refine r_iadd C dX10_isSharp_40 ?_
    refine r_icmp_ge C rfl rfl (tgt := 70) dX10_isSharp_41 (by decide) (fun h11 => ?_) (fun h11 => ?_)
    · replace hf := if_t hf h11
      refine lv_iload C.1 C.2.1 dX10_isSharp_44 (lv_at hl 0 rfl) ?_
      refine lv_iload C.1 C.2.1 dX10_isSharp_46 (lv_at hl 2 rfl) ?_
      refine lv_iload C.1 C.2.1 dX10_isSharp_48 (lv_at hl 1 rfl) ?_
      refine r_iadd C dX10_isSharp_50 ?_
      refine r_icmp_ge C rfl rfl (tgt := 70) dX10_isSharp_51 (by decide) (fun h10 => ?_) (fun h10 => ?_)
      · replace hf := if_t hf h10
        refine lv_aload_n C.1 C.2.1 dX10_isSharp_54 rfl (lv_at hl 3 rfl) ?_
        refine lv_iload_n C.1 C.2.1 dX10_isSharp_55 rfl (lv_at hl 4 rfl) ?_
        refine lv_iload_n C.1 C.2.1 dX10_isSharp_56 rfl (lv_at hl 5 rfl) ?_
        refine lv_iload_n C.1 C.2.1 dX10_isSharp_57 rfl (lv_at hl 6 rfl) ?_
        obtain ⟨q7, hc8, hf⟩ := bd_o hf
        refine r_callVv C S (As := [.int (oI v1), .int (oI v2), .int (oI v3)]) (rest := []) (ct_X10_turn l G τ hc8) mi_X10_turn tw_1453 mv_X10_turn (rvX10 S) ⟨rfl, rfl⟩ ⟨Nat.le_of_ble_eq_true rfl, Nat.le_of_ble_eq_true rfl⟩ ⟨Nat.zero_le _, Nat.zero_le _⟩ rfl hl.1 rfl (Nat.le_of_ble_eq_true rfl) dX10_isSharp_58 (fun H locs S => ?_)
        refine r_lconst C (z := 0) dX10_isSharp_61 (by decide) ?_
        refine r_lcmp_eq C rfl (show w64 0 = 0 by decide) (tgt := 70) dX10_isSharp_62 dX10_isSharp_63 (by decide) (fun h9 => ?_) (fun h9 => ?_)
        · replace hf := if_t hf h9
          refine r_iconst C dX10_isSharp_70 ?_
          cases hf
          exact hend (Or.inl rfl) _ _ _ _ S dX10_isSharp_71
        · replace hf := if_f hf h9
          refine r_iconst C dX10_isSharp_66 ?_
          refine lv_goto C.1 C.2.1 (tgt := 71) dX10_isSharp_67 (by decide) ?_
          cases hf
          exact hend (Or.inr rfl) _ _ _ _ S dX10_isSharp_71
      · replace hf := if_f hf h10
        refine r_iconst C dX10_isSharp_70 ?_
        cases hf
        exact hend (Or.inl rfl) _ _ _ _ S dX10_isSharp_71
    · replace hf := if_f hf h11
      refine r_iconst C dX10_isSharp_70 ?_
      cases hf
      exact hend (Or.inl rfl) _ _ _ _ S dX10_isSharp_71
  · replace hf := if_f hf h12
    refine r_iconst C dX10_isSharp_70 ?_
    cases hf
    exact hend (Or.inl rfl) _ _ _ _ S dX10_isSharp_71
set_option maxRecDepth 100000 in
set_option maxHeartbeats 4000000 in
theorem ct_X10_isWithin (l : Launch) (G : Gd) (τ : Sg) {v1 : Int} {v2 : Int} {v3 : Int} {v4 : Int} {σ : Sg} {q : Int} (hf : f_X10_isWithin v1 v2 v3 v4 σ = some q) : Ctr l yX10_isWithin cX10_isWithin 19 (some .boolean) (rmk 1 23) G false τ [.ref (G.1 41), .int (oI v1), .int (oI v2), .int (oI v3), .int (oI v4)] σ σ (some (.int (oI q))) := by
  unfold f_X10_isWithin at hf
  refine CtrZ.of (own := RX10) (plainFor_of_name (by decide)) (Nat.le_of_ble_eq_true rfl) rfl (fun p e s m below meth c Q ls C hl S hend => ?_)
  have hl : lv_has ls 19 [(0, .ref (G.1 41)), (1, .int (oI v1)), (2, .int (oI v2)), (3, .int (oI v3)), (4, .int (oI v4))] := hl
  refine lv_aload_n C.1 C.2.1 dX10_isWithin_0 rfl (lv_at hl 0 rfl) ?_
  refine g10_x C S tw_1078 dX10_isWithin_1 ?_
  refine lv_iload_n C.1 C.2.1 dX10_isWithin_4 rfl (lv_at hl 1 rfl) ?_
  obtain ⟨hi1, hf⟩ := ck_o hf
  refine a_iald C S ar_45 hi1 dX10_isWithin_5 ?_
  refine lv_aload_n C.1 C.2.1 dX10_isWithin_6 rfl (lv_at hl 0 rfl) ?_
  refine g10_x C S tw_1078 dX10_isWithin_7 ?_
  refine lv_iload C.1 C.2.1 dX10_isWithin_10 (lv_at hl 4 rfl) ?_
  obtain ⟨hi2, hf⟩ := ck_o hf
  refine a_iald C S ar_45 hi2 dX10_isWithin_12 ?_
  refine r_isub C dX10_isWithin_13 ?_
  refine r_i2l C dX10_isWithin_14 ?_
  refine lv_lstore C.1 C.2.1 dX10_isWithin_15 hl (by decide) (lv' := [(5, .long (oL (w32 ((σ 45 (v1).toNat) - (σ 45 (v4).toNat))))), (0, .ref (G.1 41)), (1, .int (oI v1)), (2, .int (oI v2)), (3, .int (oI v3)), (4, .int (oI v4))]) rfl (fun ls hl => ?_)
  refine lv_aload_n C.1 C.2.1 dX10_isWithin_17 rfl (lv_at hl 1 rfl) ?_
  refine g10_y C S tw_1079 dX10_isWithin_18 ?_
  refine lv_iload_n C.1 C.2.1 dX10_isWithin_21 rfl (lv_at hl 2 rfl) ?_
  obtain ⟨hi3, hf⟩ := ck_o hf
  refine a_iald C S ar_46 hi3 dX10_isWithin_22 ?_
  refine lv_aload_n C.1 C.2.1 dX10_isWithin_23 rfl (lv_at hl 1 rfl) ?_
  refine g10_y C S tw_1079 dX10_isWithin_24 ?_
  refine lv_iload C.1 C.2.1 dX10_isWithin_27 (lv_at hl 5 rfl) ?_
  obtain ⟨hi4, hf⟩ := ck_o hf
  refine a_iald C S ar_46 hi4 dX10_isWithin_29 ?_
  refine r_isub C dX10_isWithin_30 ?_
  refine r_i2l C dX10_isWithin_31 ?_
  refine lv_lstore C.1 C.2.1 dX10_isWithin_32 hl (by decide) (lv' := [(7, .long (oL (w32 ((σ 46 (v1).toNat) - (σ 46 (v4).toNat))))), (5, .long (oL (w32 ((σ 45 (v1).toNat) - (σ 45 (v4).toNat))))), (0, .ref (G.1 41)), (1, .int (oI v1)), (2, .int (oI v2)), (3, .int (oI v3)), (4, .int (oI v4))]) rfl (fun ls hl => ?_)
  refine lv_aload_n C.1 C.2.1 dX10_isWithin_34 rfl (lv_at hl 2 rfl) ?_
  refine g10_x C S tw_1078 dX10_isWithin_35 ?_
  refine lv_iload_n C.1 C.2.1 dX10_isWithin_38 rfl (lv_at hl 4 rfl) ?_
  obtain ⟨hi5, hf⟩ := ck_o hf
  refine a_iald C S ar_45 hi5 dX10_isWithin_39 ?_
  refine lv_aload_n C.1 C.2.1 dX10_isWithin_40 rfl (lv_at hl 2 rfl) ?_
  refine g10_x C S tw_1078 dX10_isWithin_41 ?_
  refine lv_iload C.1 C.2.1 dX10_isWithin_44 (lv_at hl 6 rfl) ?_
  obtain ⟨hi6, hf⟩ := ck_o hf
  refine a_iald C S ar_45 hi6 dX10_isWithin_46 ?_
  refine r_isub C dX10_isWithin_47 ?_
  refine r_i2l C dX10_isWithin_48 ?_
  refine lv_lstore C.1 C.2.1 dX10_isWithin_49 hl (by decide) (lv' := [(9, .long (oL (w32 ((σ 45 (v2).toNat) - (σ 45 (v4).toNat))))), (7, .long (oL (w32 ((σ 46 (v1).toNat) - (σ 46 (v4).toNat))))), (5, .long (oL (w32 ((σ 45 (v1).toNat) - (σ 45 (v4).toNat))))), (0, .ref (G.1 41)), (1, .int (oI v1)), (2, .int (oI v2)), (3, .int (oI v3)), (4, .int (oI v4))]) rfl (fun ls hl => ?_)
  refine lv_aload_n C.1 C.2.1 dX10_isWithin_51 rfl (lv_at hl 3 rfl) ?_
  refine g10_y C S tw_1079 dX10_isWithin_52 ?_
  refine lv_iload_n C.1 C.2.1 dX10_isWithin_55 rfl (lv_at hl 5 rfl) ?_
  obtain ⟨hi7, hf⟩ := ck_o hf
  refine a_iald C S ar_46 hi7 dX10_isWithin_56 ?_
  refine lv_aload_n C.1 C.2.1 dX10_isWithin_57 rfl (lv_at hl 3 rfl) ?_
  refine g10_y C S tw_1079 dX10_isWithin_58 ?_
  refine lv_iload C.1 C.2.1 dX10_isWithin_61 (lv_at hl 7 rfl) ?_
  obtain ⟨hi8, hf⟩ := ck_o hf
  refine a_iald C S ar_46 hi8 dX10_isWithin_63 ?_
  refine r_isub C dX10_isWithin_64 ?_
  refine r_i2l C dX10_isWithin_65 ?_
  refine lv_lstore C.1 C.2.1 dX10_isWithin_66 hl (by decide) (lv' := [(11, .long (oL (w32 ((σ 46 (v2).toNat) - (σ 46 (v4).toNat))))), (9, .long (oL (w32 ((σ 45 (v2).toNat) - (σ 45 (v4).toNat))))), (7, .long (oL (w32 ((σ 46 (v1).toNat) - (σ 46 (v4).toNat))))), (5, .long (oL (w32 ((σ 45 (v1).toNat) - (σ 45 (v4).toNat))))), (0, .ref (G.1 41)), (1, .int (oI v1)), (2, .int (oI v2)), (3, .int (oI v3)), (4, .int (oI v4))]) rfl (fun ls hl => ?_)
  refine lv_aload_n C.1 C.2.1 dX10_isWithin_68 rfl (lv_at hl 4 rfl) ?_
  refine g10_x C S tw_1078 dX10_isWithin_69 ?_
  refine lv_iload_n C.1 C.2.1 dX10_isWithin_72 rfl (lv_at hl 7 rfl) ?_
  obtain ⟨hi9, hf⟩ := ck_o hf
  refine a_iald C S ar_45 hi9 dX10_isWithin_73 ?_
  refine lv_aload_n C.1 C.2.1 dX10_isWithin_74 rfl (lv_at hl 4 rfl) ?_
  refine g10_x C S tw_1078 dX10_isWithin_75 ?_
  refine lv_iload C.1 C.2.1 dX10_isWithin_78 (lv_at hl 8 rfl) ?_
  obtain ⟨hi10, hf⟩ := ck_o hf
  refine a_iald C S ar_45 hi10 dX10_isWithin_80 ?_
  refine r_isub C dX10_isWithin_81 ?_
  refine r_i2l C dX10_isWithin_82 ?_
  refine lv_lstore C.1 C.2.1 dX10_isWithin_83 hl (by decide) (lv' := [(13, .long (oL (w32 ((σ 45 (v3).toNat) - (σ 45 (v4).toNat))))), (11, .long (oL (w32 ((σ 46 (v2).toNat) - (σ 46 (v4).toNat))))), (9, .long (oL (w32 ((σ 45 (v2).toNat) - (σ 45 (v4).toNat))))), (7, .long (oL (w32 ((σ 46 (v1).toNat) - (σ 46 (v4).toNat))))), (5, .long (oL (w32 ((σ 45 (v1).toNat) - (σ 45 (v4).toNat))))), (0, .ref (G.1 41)), (1, .int (oI v1)), (2, .int (oI v2)), (3, .int (oI v3)), (4, .int (oI v4))]) rfl (fun ls hl => ?_)
  refine lv_aload_n C.1 C.2.1 dX10_isWithin_85 rfl (lv_at hl 5 rfl) ?_
  refine g10_y C S tw_1079 dX10_isWithin_86 ?_
  refine lv_iload_n C.1 C.2.1 dX10_isWithin_89 rfl (lv_at hl 8 rfl) ?_
  obtain ⟨hi11, hf⟩ := ck_o hf
  refine a_iald C S ar_46 hi11 dX10_isWithin_90 ?_
  refine lv_aload_n C.1 C.2.1 dX10_isWithin_91 rfl (lv_at hl 5 rfl) ?_
  refine g10_y C S tw_1079 dX10_isWithin_92 ?_
  refine lv_iload C.1 C.2.1 dX10_isWithin_95 (lv_at hl 9 rfl) ?_
  obtain ⟨hi12, hf⟩ := ck_o hf
  refine a_iald C S ar_46 hi12 dX10_isWithin_97 ?_
  refine r_isub C dX10_isWithin_98 ?_
  refine r_i2l C dX10_isWithin_99 ?_
  refine lv_lstore C.1 C.2.1 dX10_isWithin_100 hl (by decide) (lv' := [(15, .long (oL (w32 ((σ 46 (v3).toNat) - (σ 46 (v4).toNat))))), (13, .long (oL (w32 ((σ 45 (v3).toNat) - (σ 45 (v4).toNat))))), (11, .long (oL (w32 ((σ 46 (v2).toNat) - (σ 46 (v4).toNat))))), (9, .long (oL (w32 ((σ 45 (v2).toNat) - (σ 45 (v4).toNat))))), (7, .long (oL (w32 ((σ 46 (v1).toNat) - (σ 46 (v4).toNat))))), (5, .long (oL (w32 ((σ 45 (v1).toNat) - (σ 45 (v4).toNat))))), (0, .ref (G.1 41)), (1, .int (oI v1)), (2, .int (oI v2)), (3, .int (oI v3)), (4, .int (oI v4))]) rfl (fun ls hl => ?_)
  refine lv_lload C.1 C.2.1 dX10_isWithin_102 (lv_at hl 5 rfl) ?_
  refine lv_lload C.1 C.2.1 dX10_isWithin_104 (lv_at hl 5 rfl) ?_
  refine r_lmul C dX10_isWithin_106 ?_
  refine lv_lload C.1 C.2.1 dX10_isWithin_107 (lv_at hl 4 rfl) ?_
  refine lv_lload C.1 C.2.1 dX10_isWithin_109 (lv_at hl 4 rfl) ?_
  refine r_lmul C dX10_isWithin_111 ?_
  refine r_ladd C dX10_isWithin_112 ?_
  refine lv_lload C.1 C.2.1 dX10_isWithin_113 (lv_at hl 3 rfl) ?_
  refine lv_lload C.1 C.2.1 dX10_isWithin_115 (lv_at hl 0 rfl) ?_
  refine r_lmul C dX10_isWithin_117 ?_
  refine lv_lload C.1 C.2.1 dX10_isWithin_118 (lv_at hl 2 rfl) ?_
  refine lv_lload C.1 C.2.1 dX10_isWithin_120 (lv_at hl 1 rfl) ?_
  refine r_lmul C dX10_isWithin_122 ?_
  refine r_lsub C dX10_isWithin_123 ?_
  refine r_lmul C dX10_isWithin_124 ?_
  refine lv_lload C.1 C.2.1 dX10_isWithin_125 (lv_at hl 3 rfl) ?_
  refine lv_lload C.1 C.2.1 dX10_isWithin_127 (lv_at hl 3 rfl) ?_
  refine r_lmul C dX10_isWithin_129 ?_
  refine lv_lload C.1 C.2.1 dX10_isWithin_130 (lv_at hl 2 rfl) ?_
  refine lv_lload C.1 C.2.1 dX10_isWithin_132 (lv_at hl 2 rfl) ?_
  refine r_lmul C dX10_isWithin_134 ?_
  refine r_ladd C dX10_isWithin_135 ?_
  refine lv_lload C.1 C.2.1 dX10_isWithin_136 (lv_at hl 5 rfl) ?_
  refine lv_lload C.1 C.2.1 dX10_isWithin_138 (lv_at hl 0 rfl) ?_
  refine r_lmul C dX10_isWithin_140 ?_
  refine lv_lload C.1 C.2.1 dX10_isWithin_141 (lv_at hl 4 rfl) ?_
  refine lv_lload C.1 C.2.1 dX10_isWithin_143 (lv_at hl 1 rfl) ?_
  refine r_lmul C dX10_isWithin_145 ?_
  refine r_lsub C dX10_isWithin_146 ?_
  refine r_lmul C dX10_isWithin_147 ?_
  refine r_lsub C dX10_isWithin_148 ?_
  refine lv_lload C.1 C.2.1 dX10_isWithin_149 (lv_at hl 1 rfl) ?_
  refine lv_lload C.1 C.2.1 dX10_isWithin_151 (lv_at hl 1 rfl) ?_
  refine r_lmul C dX10_isWithin_153 ?_
  refine lv_lload C.1 C.2.1 dX10_isWithin_154 (lv_at hl 0 rfl) ?_
  refine lv_lload C.1 C.2.1 dX10_isWithin_156 (lv_at hl 0 rfl) ?_
  refine r_lmul C dX10_isWithin_158 ?_
  refine r_ladd C dX10_isWithin_159 ?_
  refine lv_lload C.1 C.2.1 dX10_isWithin_160 (lv_at hl 5 rfl) ?_
  refine lv_lload C.1 C.2.1 dX10_isWithin_162 (lv_at hl 2 rfl) ?_
  refine r_lmul C dX10_isWithin_164 ?_
  refine lv_lload C.1 C.2.1 dX10_isWithin_165 (lv_at hl 4 rfl) ?_
  refine lv_lload C.1 C.2.1 dX10_isWithin_167 (lv_at hl 3 rfl) ?_
  refine r_lmul C dX10_isWithin_169 ?_
  refine r_lsub C dX10_isWithin_170 ?_
  refine r_lmul C dX10_isWithin_171 ?_
  refine r_ladd C dX10_isWithin_172 ?_
  refine lv_lstore C.1 C.2.1 dX10_isWithin_173 hl (by decide) (lv' := [(17, .long (oL ((((((w32 ((σ 45 (v1).toNat) - (σ 45 (v4).toNat))) * (w32 ((σ 45 (v1).toNat) - (σ 45 (v4).toNat)))) + ((w32 ((σ 46 (v1).toNat) - (σ 46 (v4).toNat))) * (w32 ((σ 46 (v1).toNat) - (σ 46 (v4).toNat))))) * (((w32 ((σ 45 (v2).toNat) - (σ 45 (v4).toNat))) * (w32 ((σ 46 (v3).toNat) - (σ 46 (v4).toNat)))) - ((w32 ((σ 46 (v2).toNat) - (σ 46 (v4).toNat))) * (w32 ((σ 45 (v3).toNat) - (σ 45 (v4).toNat)))))) - ((((w32 ((σ 45 (v2).toNat) - (σ 45 (v4).toNat))) * (w32 ((σ 45 (v2).toNat) - (σ 45 (v4).toNat)))) + ((w32 ((σ 46 (v2).toNat) - (σ 46 (v4).toNat))) * (w32 ((σ 46 (v2).toNat) - (σ 46 (v4).toNat))))) * (((w32 ((σ 45 (v1).toNat) - (σ 45 (v4).toNat))) * (w32 ((σ 46 (v3).toNat) - (σ 46 (v4).toNat)))) - ((w32 ((σ 46 (v1).toNat) - (σ 46 (v4).toNat))) * (w32 ((σ 45 (v3).toNat) - (σ 45 (v4).toNat))))))) + ((((w32 ((σ 45 (v3).toNat) - (σ 45 (v4).toNat))) * (w32 ((σ 45 (v3).toNat) - (σ 45 (v4).toNat)))) + ((w32 ((σ 46 (v3).toNat) - (σ 46 (v4).toNat))) * (w32 ((σ 46 (v3).toNat) - (σ 46 (v4).toNat))))) * (((w32 ((σ 45 (v1).toNat) - (σ 45 (v4).toNat))) * (w32 ((σ 46 (v2).toNat) - (σ 46 (v4).toNat)))) - ((w32 ((σ 46 (v1).toNat) - (σ 46 (v4).toNat))) * (w32 ((σ 45 (v2).toNat) - (σ 45 (v4).toNat))))))))), (15, .long (oL (w32 ((σ 46 (v3).toNat) - (σ 46 (v4).toNat))))), (13, .long (oL (w32 ((σ 45 (v3).toNat) - (σ 45 (v4).toNat))))), (11, .long (oL (w32 ((σ 46 (v2).toNat) - (σ 46 (v4).toNat))))), (9, .long (oL (w32 ((σ 45 (v2).toNat) - (σ 45 (v4).toNat))))), (7, .long (oL (w32 ((σ 46 (v1).toNat) - (σ 46 (v4).toNat))))), (5, .long (oL (w32 ((σ 45 (v1).toNat) - (σ 45 (v4).toNat))))), (0, .ref (G.1 41)), (1, .int (oI v1)), (2, .int (oI v2)), (3, .int (oI v3)), (4, .int (oI v4))]) rfl (fun ls hl => ?_)
  refine lv_aload_n C.1 C.2.1 dX10_isWithin_175 rfl (lv_at hl 7 rfl) ?_
  refine lv_iload_n C.1 C.2.1 dX10_isWithin_176 rfl (lv_at hl 8 rfl) ?_
  refine lv_iload_n C.1 C.2.1 dX10_isWithin_177 rfl (lv_at hl 9 rfl) ?_
  refine lv_iload_n C.1 C.2.1 dX10_isWithin_178 rfl (lv_at hl 10 rfl) ?_
  obtain ⟨q13, hc14, hf⟩ := bd_o hf
  refine r_callVv C S (As := [.int (oI v1), .int (oI v2), .int (oI v3)]) (rest := []) (ct_X10_turn l G τ hc14) mi_X10_turn tw_1453 mv_X10_turn (rvX10 S) ⟨rfl, rfl⟩ ⟨Nat.le_of_ble_eq_true rfl, Nat.le_of_ble_eq_true rfl⟩ ⟨Nat.zero_le _, Nat.zero_le _⟩ rfl hl.1 rfl (Nat.le_of_ble_eq_true rfl) dX10_isWithin_179 (fun H locs S => ?_)
  refine r_lconst C (z := 0) dX10_isWithin_182 (by decide) ?_
  refine r_lcmp_le C rfl (show w64 0 = 0 by decide) (tgt := 202) dX10_isWithin_183 dX10_isWithin_184 (by decide) (fun h17 => ?_) (fun h17 => ?_)
  · replace hf := if_t hf h17
    refine lv_lload C.1 C.2.1 dX10_isWithin_202 (lv_at hl 0 rfl) ?_
    refine r_lconst C (z := 0) dX10_isWithin_204 (by decide) ?_
    refine r_lcmp_gt C rfl (show w64 0 = 0 by decide) (tgt := 213) dX10_isWithin_205 dX10_isWithin_206 (by decide) (fun h15 => ?_) (fun h15 => ?_)
    · replace hf := if_t hf h15
      refine r_iconst C dX10_isWithin_209 ?_
      refine lv_goto C.1 C.2.1 (tgt := 214) dX10_isWithin_210 (by decide) ?_
      cases hf
      exact hend (Or.inr rfl) _ _ _ _ S dX10_isWithin_214
    · replace hf := if_f hf h15
      refine r_iconst C dX10_isWithin_213 ?_
      cases hf
      exact hend (Or.inl rfl) _ _ _ _ S dX10_isWithin_214
  · replace hf := if_f hf h17
    refine lv_lload C.1 C.2.1 dX10_isWithin_187 (lv_at hl 0 rfl) ?_
    refine r_lconst C (z := 0) dX10_isWithin_189 (by decide) ?_
    refine r_lcmp_lt C rfl (show w64 0 = 0 by decide) (tgt := 198) dX10_isWithin_190 dX10_isWithin_191 (by decide) (fun h16 => ?_) (fun h16 => ?_)
    · replace hf := if_t hf h16
      refine r_iconst C dX10_isWithin_198 ?_
      refine lv_goto C.1 C.2.1 (tgt := 214) dX10_isWithin_199 (by decide) ?_
      cases hf
      exact hend (Or.inl rfl) _ _ _ _ S dX10_isWithin_214
    · replace hf := if_f hf h16
      refine r_iconst C dX10_isWithin_194 ?_
      refine lv_goto C.1 C.2.1 (tgt := 214) dX10_isWithin_195 (by decide) ?_
      cases hf
      exact hend (Or.inr rfl) _ _ _ _ S dX10_isWithin_214
set_option maxRecDepth 100000 in
set_option maxHeartbeats 4000000 in
theorem b_X10_isCircle_b34 (C : Cx p s m args c RX10 cX10_isCircle 6) {q : Int} {k3 : Int → Int → Int → Int → Int → Option (Int)} (hend : (q = 0 ∨ q = 1) → EndR p l e (rmk 2 61) s m args below meth c Q G false τ cX10_isCircle .ireturn [.int (oI q)] σ) (hk3 : ∀ {H : Heap} {locs : List Loc} {ls : Array Slot} (v1 : Int) (v2 : Int) (v3 : Int) (v4 : Int) (v5 : Int), St G false τ σ s H locs → lv_has ls 6 [(0, .ref (G.1 41)), (1, .int (oI v1)), (2, .int (oI v2)), (3, .int (oI v3)), (4, .int (oI v4)), (5, .int (oI v5))] → k3 v1 v2 v3 v4 v5 = some q → W p l e (rmk 2 61) s m args below meth c H locs 0 0 Q (F0 m 3 ls [])) {H : Heap} {locs : List Loc} {ls : Array Slot} (v1 : Int) (v2 : Int) (v3 : Int) (v4 : Int) (v5 : Int) (S : St G false τ σ s H locs) (hl : lv_has ls 6 [(0, .ref (G.1 41)), (1, .int (oI v1)), (2, .int (oI v2)), (3, .int (oI v3)), (4, .int (oI v4)), (5, .int (oI v5))]) (hf : f_X10_isCircle_b34 σ k3 v1 v2 v3 v4 v5 = some q) : W p l e (rmk 2 61) s m args below meth c H locs 0 0 Q (F0 m 34 ls []) := by
  unfold f_X10_isCircle_b34 at hf
  refine r_iinc C dX10_isCircle_34 hl (k := 5) rfl (by decide) (lv' := [(5, .int (oI (v5 + 1))), (0, .ref (G.1 41)), (1, .int (oI v1)), (2, .int (oI v2)), (3, .int (oI v3)), (4, .int (oI v4))]) rfl (fun ls hl => ?_)
  refine lv_goto C.1 C.2.1 (tgt := 3) dX10_isCircle_37 (by decide) ?_
  exact hk3 v1 v2 v3 v4 (v5 + 1) S (lv_sub hl [1, 2, 3, 4, 5, 0] rfl) hf
set_option maxRecDepth 100000 in
set_option maxHeartbeats 4000000 in
theorem b_X10_isCircle_b3 (C : Cx p s m args c RX10 cX10_isCircle 6) {q : Int} (hend : (q = 0 ∨ q = 1) → EndR p l e (rmk 2 61) s m args below meth c Q G false τ cX10_isCircle .ireturn [.int (oI q)] σ) : ∀ (n : Nat) {H : Heap} {locs : List Loc} {ls : Array Slot} (v1 : Int) (v2 : Int) (v3 : Int) (v4 : Int) (v5 : Int) (S : St G false τ σ s H locs) (hl : lv_has ls 6 [(0, .ref (G.1 41)), (1, .int (oI v1)), (2, .int (oI v2)), (3, .int (oI v3)), (4, .int (oI v4)), (5, .int (oI v5))]) (hf : f_X10_isCircle_b3 σ n v1 v2 v3 v4 v5 = some q), W p l e (rmk 2 61) s m args below meth c H locs 0 0 Q (F0 m 3 ls []) := by
  intro n
  induction n with
  | zero => intro H locs ls v1 v2 v3 v4 v5 S hl hf; cases hf
  | succ n ih =>
    intro H locs ls v1 v2 v3 v4 v5 S hl hf
    have hk3 := @ih
    rw [f_X10_isCircle_b3] at hf
    refine lv_iload C.1 C.2.1 dX10_isCircle_3 (lv_at hl 5 rfl) ?_
    refine r_bipush C dX10_isCircle_5 (by decide) ?_
    refine r_icmp_ge C rfl (show w32 24 = 24 by decide) (tgt := 40) dX10_isCircle_7 (by decide) (fun h7 => ?_) (fun h7 => ?_)
    · replace hf := if_t hf h7
      refine lv_iload_n C.1 C.2.1 dX10_isCircle_10 rfl (lv_at hl 1 rfl) ?_
      refine lv_iload C.1 C.2.1 dX10_isCircle_11 (lv_at hl 5 rfl) ?_
      obtain ⟨q1, hc2, hf⟩ := bd_o hf
      refine r_callSv C S (As := [.int (oI v1), .int (oI v5)]) (rest := []) (ct_X10_has l G τ hc2) mi_X10_has tw_1285 ms_X10_has ⟨rfl, rfl⟩ ⟨Nat.le_of_ble_eq_true rfl, Nat.le_of_ble_eq_true rfl⟩ ⟨Nat.zero_le _, Nat.zero_le _⟩ rfl hl.1 rfl (Nat.le_of_ble_eq_true rfl) dX10_isCircle_13 (fun H locs S => ?_)
      refine r_if_eq C rfl (tgt := 34) dX10_isCircle_16 (by decide) (fun h6 => ?_) (fun h6 => ?_)
      · replace hf := if_t hf h6
        exact b_X10_isCircle_b34 C hend hk3 v1 v2 v3 v4 v5 S (lv_sub hl [0, 1, 2, 3, 4, 5] rfl) hf
      · replace hf := if_f hf h6
        refine lv_aload_n C.1 C.2.1 dX10_isCircle_19 rfl (lv_at hl 0 rfl) ?_
        refine lv_iload_n C.1 C.2.1 dX10_isCircle_20 rfl (lv_at hl 2 rfl) ?_
        refine lv_iload_n C.1 C.2.1 dX10_isCircle_21 rfl (lv_at hl 3 rfl) ?_
        refine lv_iload C.1 C.2.1 dX10_isCircle_22 (lv_at hl 4 rfl) ?_
        refine lv_iload C.1 C.2.1 dX10_isCircle_24 (lv_at hl 5 rfl) ?_
        obtain ⟨q3, hc4, hf⟩ := bd_o hf
        refine r_callVv C S (As := [.int (oI v2), .int (oI v3), .int (oI v4), .int (oI v5)]) (rest := []) (ct_X10_isWithin l G τ hc4) mi_X10_isWithin tw_1461 mv_X10_isWithin (rvX10 S) ⟨rfl, rfl⟩ ⟨Nat.le_of_ble_eq_true rfl, Nat.le_of_ble_eq_true rfl⟩ ⟨Nat.zero_le _, Nat.zero_le _⟩ rfl hl.1 rfl (Nat.le_of_ble_eq_true rfl) dX10_isCircle_26 (fun H locs S => ?_)
        refine r_if_ne C rfl (tgt := 34) dX10_isCircle_29 (by decide) (fun h5 => ?_) (fun h5 => ?_)
        · replace hf := if_t hf h5
          refine r_iconst C dX10_isCircle_32 ?_
          cases hf
          exact hend (Or.inl rfl) _ _ _ _ S dX10_isCircle_33
        · replace hf := if_f hf h5
          exact b_X10_isCircle_b34 C hend hk3 v1 v2 v3 v4 v5 S (lv_sub hl [0, 1, 2, 3, 4, 5] rfl) hf
    · replace hf := if_f hf h7
      refine r_iconst C dX10_isCircle_40 ?_
      cases hf
      exact hend (Or.inr rfl) _ _ _ _ S dX10_isCircle_41
set_option maxRecDepth 100000 in
set_option maxHeartbeats 4000000 in
theorem ct_X10_isCircle (l : Launch) (G : Gd) (τ : Sg) {v1 : Int} {v2 : Int} {v3 : Int} {v4 : Int} {σ : Sg} {q : Int} (hf : f_X10_isCircle v1 v2 v3 v4 σ = some q) : Ctr l yX10_isCircle cX10_isCircle 6 (some .boolean) (rmk 2 61) G false τ [.ref (G.1 41), .int (oI v1), .int (oI v2), .int (oI v3), .int (oI v4)] σ σ (some (.int (oI q))) := by
  unfold f_X10_isCircle at hf
  refine CtrZ.of (own := RX10) (plainFor_of_name (by decide)) (Nat.le_of_ble_eq_true rfl) rfl (fun p e s m below meth c Q ls C hl S hend => ?_)
  have hl : lv_has ls 6 [(0, .ref (G.1 41)), (1, .int (oI v1)), (2, .int (oI v2)), (3, .int (oI v3)), (4, .int (oI v4))] := hl
  refine r_iconst C dX10_isCircle_0 ?_
  refine lv_istore C.1 C.2.1 dX10_isCircle_1 hl (by decide) (lv' := [(5, .int (oI 0)), (0, .ref (G.1 41)), (1, .int (oI v1)), (2, .int (oI v2)), (3, .int (oI v3)), (4, .int (oI v4))]) rfl (fun ls hl => ?_)
  exact b_X10_isCircle_b3 C hend FUEL v1 v2 v3 v4 0 S (lv_sub hl [1, 2, 3, 4, 5, 0] rfl) hf
set_option maxRecDepth 100000 in
set_option maxHeartbeats 4000000 in
theorem ct_X10_isRing (l : Launch) (G : Gd) (τ : Sg) {v1 : Int} {v3 : Int} {v5 : Int} {v6 : Int} {v7 : Int} {σ : Sg} {q : Sg} (hf : f_X10_isRing v1 v3 v5 v6 v7 σ = some q) : Ctr l yX10_isRing cX10_isRing 10 none (rmk 1 29) G false τ [.ref (G.1 41), .long (oL v1), .long (oL v3), .int (oI v5), .int (oI v6), .int (oI v7)] σ q none := by
  unfold f_X10_isRing at hf
  refine CtrV.of (own := RX10) (plainFor_of_name (by decide)) (Nat.le_of_ble_eq_true rfl) rfl (fun p e s m below meth c Q ls C hl S hend => ?_)
  have hl : lv_has ls 10 [(0, .ref (G.1 41)), (1, .long (oL v1)), (3, .long (oL v3)), (5, .int (oI v5)), (6, .int (oI v6)), (7, .int (oI v7))] := hl
  refine lv_lload_n C.1 C.2.1 dX10_isRing_0 rfl (lv_at hl 2 rfl) ?_
  refine lv_lload_n C.1 C.2.1 dX10_isRing_1 rfl (lv_at hl 1 rfl) ?_
  obtain ⟨q1, hc2, hf⟩ := bd_o hf
  refine r_callSv C S (As := [.long (oL v3), .long (oL v1)]) (rest := []) (ct_X10_common l G τ hc2) mi_X10_common tw_1434 ms_X10_common ⟨rfl, rfl⟩ ⟨Nat.le_of_ble_eq_true rfl, Nat.le_of_ble_eq_true rfl⟩ ⟨Nat.zero_le _, Nat.zero_le _⟩ rfl hl.1 rfl (Nat.le_of_ble_eq_true rfl) dX10_isRing_2 (fun H locs S => ?_)
  refine lv_lstore C.1 C.2.1 dX10_isRing_5 hl (by decide) (lv' := [(8, .long (oL q1)), (0, .ref (G.1 41)), (1, .long (oL v1)), (3, .long (oL v3)), (5, .int (oI v5)), (6, .int (oI v6)), (7, .int (oI v7))]) rfl (fun ls hl => ?_)
  refine lv_aload_n C.1 C.2.1 dX10_isRing_7 rfl (lv_at hl 1 rfl) ?_
  refine g10_circle C S tw_1099 dX10_isRing_8 ?_
  refine r_iconst C dX10_isRing_11 ?_
  refine lv_lload_n C.1 C.2.1 dX10_isRing_12 rfl (lv_at hl 2 rfl) ?_
  refine lv_lload C.1 C.2.1 dX10_isRing_13 (lv_at hl 0 rfl) ?_
  obtain ⟨hz3, hf⟩ := ck_o hf
  refine r_ldiv C hz3 dX10_isRing_15 ?_
  refine a_last C S ar_58 (by decide) dX10_isRing_16 (fun H locs S => ?_)
  obtain ⟨σ4, S, hf⟩ := wr_s S hf
  refine lv_aload_n C.1 C.2.1 dX10_isRing_17 rfl (lv_at hl 1 rfl) ?_
  refine g10_circle C S tw_1099 dX10_isRing_18 ?_
  refine r_iconst C dX10_isRing_21 ?_
  refine lv_lload_n C.1 C.2.1 dX10_isRing_22 rfl (lv_at hl 3 rfl) ?_
  refine lv_lload C.1 C.2.1 dX10_isRing_23 (lv_at hl 0 rfl) ?_
  obtain ⟨hz5, hf⟩ := ck_o hf
  refine r_ldiv C hz5 dX10_isRing_25 ?_
  refine a_last C S ar_58 (by decide) dX10_isRing_26 (fun H locs S => ?_)
  obtain ⟨σ6, S, hf⟩ := wr_s S hf
  refine lv_aload_n C.1 C.2.1 dX10_isRing_27 rfl (lv_at hl 1 rfl) ?_
  refine g10_circle C S tw_1099 dX10_isRing_28 ?_
  refine r_iconst C dX10_isRing_31 ?_
  refine lv_iload C.1 C.2.1 dX10_isRing_32 (lv_at hl 4 rfl) ?_
  refine r_i2l C dX10_isRing_34 ?_
  refine a_last C S ar_58 (by decide) dX10_isRing_35 (fun H locs S => ?_)
  obtain ⟨σ7, S, hf⟩ := wr_s S hf
  refine lv_aload_n C.1 C.2.1 dX10_isRing_36 rfl (lv_at hl 1 rfl) ?_
  refine g10_circle C S tw_1099 dX10_isRing_37 ?_
  refine r_iconst C dX10_isRing_40 ?_
  refine lv_iload C.1 C.2.1 dX10_isRing_41 (lv_at hl 5 rfl) ?_
  refine r_i2l C dX10_isRing_43 ?_
  refine a_last C S ar_58 (by decide) dX10_isRing_44 (fun H locs S => ?_)
  obtain ⟨σ8, S, hf⟩ := wr_s S hf
  refine lv_aload_n C.1 C.2.1 dX10_isRing_45 rfl (lv_at hl 1 rfl) ?_
  refine g10_circle C S tw_1099 dX10_isRing_46 ?_
  refine r_iconst C dX10_isRing_49 ?_
  refine lv_iload C.1 C.2.1 dX10_isRing_50 (lv_at hl 6 rfl) ?_
  refine r_i2l C dX10_isRing_52 ?_
  refine a_last C S ar_58 (by decide) dX10_isRing_53 (fun H locs S => ?_)
  obtain ⟨σ9, S, hf⟩ := wr_s S hf
  cases hf
  exact hend _ _ _ _ S dX10_isRing_54
set_option maxRecDepth 100000 in
set_option maxHeartbeats 4000000 in
theorem b_X10_isTwo_b76 (C : Cx p s m args c RX10 cX10_isTwo 4) {q : Int × Sg} {k2 : Int → Int → Sg → Option (Int × Sg)} {k12 : Int → Int → Int → Sg → Option (Int × Sg)} (hend : (q.1 = 0 ∨ q.1 = 1) → EndR p l e (rmk 2 58) s m args below meth c Q G false τ cX10_isTwo .ireturn [.int (oI q.1)] q.2) (hk2 : ∀ {H : Heap} {locs : List Loc} {ls : Array Slot} {σ : Sg} (v1 : Int) (v2 : Int), St G false τ σ s H locs → lv_has ls 4 [(0, .ref (G.1 41)), (1, .int (oI v1)), (2, .int (oI v2))] → k2 v1 v2 σ = some q → W p l e (rmk 2 58) s m args below meth c H locs 0 0 Q (F0 m 2 ls [])) (hk12 : ∀ {H : Heap} {locs : List Loc} {ls : Array Slot} {σ : Sg} (v1 : Int) (v2 : Int) (v3 : Int), St G false τ σ s H locs → lv_has ls 4 [(0, .ref (G.1 41)), (1, .int (oI v1)), (2, .int (oI v2)), (3, .int (oI v3))] → k12 v1 v2 v3 σ = some q → W p l e (rmk 2 58) s m args below meth c H locs 0 0 Q (F0 m 12 ls [])) {H : Heap} {locs : List Loc} {ls : Array Slot} {σ : Sg} (v1 : Int) (v2 : Int) (v3 : Int) (S : St G false τ σ s H locs) (hl : lv_has ls 4 [(0, .ref (G.1 41)), (1, .int (oI v1)), (2, .int (oI v2)), (3, .int (oI v3))]) (hf : f_X10_isTwo_b76 k2 k12 v1 v2 v3 σ = some q) : W p l e (rmk 2 58) s m args below meth c H locs 0 0 Q (F0 m 76 ls []) := by
  unfold f_X10_isTwo_b76 at hf
  refine r_iinc C dX10_isTwo_76 hl (k := 3) rfl (by decide) (lv' := [(3, .int (oI (v3 + 1))), (0, .ref (G.1 41)), (1, .int (oI v1)), (2, .int (oI v2))]) rfl (fun ls hl => ?_)
  refine lv_goto C.1 C.2.1 (tgt := 12) dX10_isTwo_79 (by decide) ?_
  exact hk12 v1 v2 (v3 + 1) S (lv_sub hl [1, 2, 3, 0] rfl) hf
set_option maxRecDepth 100000 in
set_option maxHeartbeats 4000000 in
theorem b_X10_isTwo_b56 (C : Cx p s m args c RX10 cX10_isTwo 4) {q : Int × Sg} (hend : (q.1 = 0 ∨ q.1 = 1) → EndR p l e (rmk 2 58) s m args below meth c Q G false τ cX10_isTwo .ireturn [.int (oI q.1)] q.2) {H : Heap} {locs : List Loc} {ls : Array Slot} {σ : Sg} (v2 : Int) (v3 : Int) (S : St G false τ σ s H locs) (hl : lv_has ls 4 [(0, .ref (G.1 41)), (2, .int (oI v2)), (3, .int (oI v3))]) (hf : f_X10_isTwo_b56 v2 v3 σ = some q) : W p l e (rmk 2 58) s m args below meth c H locs 0 0 Q (F0 m 56 ls []) := by
  unfold f_X10_isTwo_b56 at hf
  refine lv_aload_n C.1 C.2.1 dX10_isTwo_56 rfl (lv_at hl 0 rfl) ?_
  refine lv_aload_n C.1 C.2.1 dX10_isTwo_57 rfl (lv_at hl 0 rfl) ?_
  refine lv_iload_n C.1 C.2.1 dX10_isTwo_58 rfl (lv_at hl 1 rfl) ?_
  refine lv_iload_n C.1 C.2.1 dX10_isTwo_59 rfl (lv_at hl 2 rfl) ?_
  obtain ⟨q9, hc10, hf⟩ := bd_o hf
  refine r_callVv C S (As := [.int (oI v2), .int (oI v3)]) (rest := [.ref (G.1 41)]) (ct_X10_distance l G τ hc10) mi_X10_distance tw_1297 mv_X10_distance (rvX10 S) ⟨rfl, rfl⟩ ⟨Nat.le_of_ble_eq_true rfl, Nat.le_of_ble_eq_true rfl⟩ ⟨Nat.zero_le _, Nat.zero_le _⟩ rfl hl.1 rfl (Nat.le_of_ble_eq_true rfl) dX10_isTwo_60 (fun H locs S => ?_)
  refine r_i2l C dX10_isTwo_63 ?_
  refine r_ldc2 C tw_1318 dX10_isTwo_64 ?_
  refine lv_iload_n C.1 C.2.1 dX10_isTwo_67 rfl (lv_at hl 1 rfl) ?_
  refine lv_iload_n C.1 C.2.1 dX10_isTwo_68 rfl (lv_at hl 2 rfl) ?_
  refine r_bipush C dX10_isTwo_69 (by decide) ?_
  obtain ⟨q11, hc12, hf⟩ := bd_o hf
  refine r_callVn C S (As := [.long (oL (w32 q9)), .long (oL 4), .int (oI v2), .int (oI v3), .int (oI ((-2)))]) (rest := []) (ct_X10_isRing l G τ hc12) mi_X10_isRing tw_1430 mv_X10_isRing (rvX10 S) ⟨rfl, rfl⟩ ⟨Nat.le_of_ble_eq_true rfl, Nat.le_of_ble_eq_true rfl⟩ ⟨Nat.zero_le _, Nat.zero_le _⟩ rfl hl.1 rfl (Nat.le_of_ble_eq_true rfl) dX10_isTwo_71 (fun H locs S => ?_)
  refine r_iconst C dX10_isTwo_74 ?_
  cases hf
  exact hend (Or.inr rfl) _ _ _ _ S dX10_isTwo_75
set_option maxRecDepth 100000 in
set_option maxHeartbeats 4000000 in
theorem b_X10_isTwo_b82 (C : Cx p s m args c RX10 cX10_isTwo 4) {q : Int × Sg} {k2 : Int → Int → Sg → Option (Int × Sg)} (hend : (q.1 = 0 ∨ q.1 = 1) → EndR p l e (rmk 2 58) s m args below meth c Q G false τ cX10_isTwo .ireturn [.int (oI q.1)] q.2) (hk2 : ∀ {H : Heap} {locs : List Loc} {ls : Array Slot} {σ : Sg} (v1 : Int) (v2 : Int), St G false τ σ s H locs → lv_has ls 4 [(0, .ref (G.1 41)), (1, .int (oI v1)), (2, .int (oI v2))] → k2 v1 v2 σ = some q → W p l e (rmk 2 58) s m args below meth c H locs 0 0 Q (F0 m 2 ls [])) {H : Heap} {locs : List Loc} {ls : Array Slot} {σ : Sg} (v1 : Int) (v2 : Int) (S : St G false τ σ s H locs) (hl : lv_has ls 4 [(0, .ref (G.1 41)), (1, .int (oI v1)), (2, .int (oI v2))]) (hf : f_X10_isTwo_b82 k2 v1 v2 σ = some q) : W p l e (rmk 2 58) s m args below meth c H locs 0 0 Q (F0 m 82 ls []) := by
  unfold f_X10_isTwo_b82 at hf
  refine r_iinc C dX10_isTwo_82 hl (k := 2) rfl (by decide) (lv' := [(2, .int (oI (v2 + 1))), (0, .ref (G.1 41)), (1, .int (oI v1))]) rfl (fun ls hl => ?_)
  refine lv_goto C.1 C.2.1 (tgt := 2) dX10_isTwo_85 (by decide) ?_
  exact hk2 v1 (v2 + 1) S (lv_sub hl [1, 2, 0] rfl) hf
set_option maxRecDepth 100000 in
set_option maxHeartbeats 4000000 in
theorem b_X10_isTwo_b12 (C : Cx p s m args c RX10 cX10_isTwo 4) {q : Int × Sg} {k2 : Int → Int → Sg → Option (Int × Sg)} (hend : (q.1 = 0 ∨ q.1 = 1) → EndR p l e (rmk 2 58) s m args below meth c Q G false τ cX10_isTwo .ireturn [.int (oI q.1)] q.2) (hk2 : ∀ {H : Heap} {locs : List Loc} {ls : Array Slot} {σ : Sg} (v1 : Int) (v2 : Int), St G false τ σ s H locs → lv_has ls 4 [(0, .ref (G.1 41)), (1, .int (oI v1)), (2, .int (oI v2))] → k2 v1 v2 σ = some q → W p l e (rmk 2 58) s m args below meth c H locs 0 0 Q (F0 m 2 ls [])) : ∀ (n : Nat) {H : Heap} {locs : List Loc} {ls : Array Slot} {σ : Sg} (v1 : Int) (v2 : Int) (v3 : Int) (S : St G false τ σ s H locs) (hl : lv_has ls 4 [(0, .ref (G.1 41)), (1, .int (oI v1)), (2, .int (oI v2)), (3, .int (oI v3))]) (hf : f_X10_isTwo_b12 k2 n v1 v2 v3 σ = some q), W p l e (rmk 2 58) s m args below meth c H locs 0 0 Q (F0 m 12 ls []) := by
  intro n
  induction n with
  | zero => intro H locs ls σ v1 v2 v3 S hl hf; cases hf
  | succ n ih =>
    intro H locs ls σ v1 v2 v3 S hl hf
    have hk12 := @ih
    rw [f_X10_isTwo_b12] at hf
    refine lv_iload_n C.1 C.2.1 dX10_isTwo_12 rfl (lv_at hl 3 rfl) ?_
    refine r_bipush C dX10_isTwo_13 (by decide) ?_
    refine r_icmp_ge C rfl (show w32 24 = 24 by decide) (tgt := 82) dX10_isTwo_15 (by decide) (fun h17 => ?_) (fun h17 => ?_)
    · replace hf := if_t hf h17
      refine lv_iload_n C.1 C.2.1 dX10_isTwo_18 rfl (lv_at hl 1 rfl) ?_
      refine lv_iload_n C.1 C.2.1 dX10_isTwo_19 rfl (lv_at hl 2 rfl) ?_
      obtain ⟨q1, hc2, hf⟩ := bd_o hf
      refine r_callSv C S (As := [.int (oI v1), .int (oI v2)]) (rest := []) (ct_X10_has l G τ hc2) mi_X10_has tw_1285 ms_X10_has ⟨rfl, rfl⟩ ⟨Nat.le_of_ble_eq_true rfl, Nat.le_of_ble_eq_true rfl⟩ ⟨Nat.zero_le _, Nat.zero_le _⟩ rfl hl.1 rfl (Nat.le_of_ble_eq_true rfl) dX10_isTwo_20 (fun H locs S => ?_)
      refine r_if_eq C rfl (tgt := 76) dX10_isTwo_23 (by decide) (fun h16 => ?_) (fun h16 => ?_)
      · replace hf := if_t hf h16
        exact b_X10_isTwo_b76 C hend hk2 hk12 v1 v2 v3 S (lv_sub hl [0, 1, 2, 3] rfl) hf
      · replace hf := if_f hf h16
        refine lv_iload_n C.1 C.2.1 dX10_isTwo_26 rfl (lv_at hl 1 rfl) ?_
        refine lv_iload_n C.1 C.2.1 dX10_isTwo_27 rfl (lv_at hl 3 rfl) ?_
        obtain ⟨q3, hc4, hf⟩ := bd_o hf
        refine r_callSv C S (As := [.int (oI v1), .int (oI v3)]) (rest := []) (ct_X10_has l G τ hc4) mi_X10_has tw_1285 ms_X10_has ⟨rfl, rfl⟩ ⟨Nat.le_of_ble_eq_true rfl, Nat.le_of_ble_eq_true rfl⟩ ⟨Nat.zero_le _, Nat.zero_le _⟩ rfl hl.1 rfl (Nat.le_of_ble_eq_true rfl) dX10_isTwo_28 (fun H locs S => ?_)
        refine r_if_eq C rfl (tgt := 76) dX10_isTwo_31 (by decide) (fun h15 => ?_) (fun h15 => ?_)
        · replace hf := if_t hf h15
          exact b_X10_isTwo_b76 C hend hk2 hk12 v1 v2 v3 S (lv_sub hl [0, 1, 2, 3] rfl) hf
        · replace hf := if_f hf h15
          refine lv_aload_n C.1 C.2.1 dX10_isTwo_34 rfl (lv_at hl 0 rfl) ?_
          refine lv_iload_n C.1 C.2.1 dX10_isTwo_35 rfl (lv_at hl 2 rfl) ?_
          refine lv_iload_n C.1 C.2.1 dX10_isTwo_36 rfl (lv_at hl 3 rfl) ?_
          obtain ⟨q5, hc6, hf⟩ := bd_o hf
          refine r_callVv C S (As := [.int (oI v2), .int (oI v3)]) (rest := []) (ct_X10_distance l G τ hc6) mi_X10_distance tw_1297 mv_X10_distance (rvX10 S) ⟨rfl, rfl⟩ ⟨Nat.le_of_ble_eq_true rfl, Nat.le_of_ble_eq_true rfl⟩ ⟨Nat.zero_le _, Nat.zero_le _⟩ rfl hl.1 rfl (Nat.le_of_ble_eq_true rfl) dX10_isTwo_37 (fun H locs S => ?_)
          refine r_if_eq C rfl (tgt := 76) dX10_isTwo_40 (by decide) (fun h14 => ?_) (fun h14 => ?_)
          · replace hf := if_t hf h14
            exact b_X10_isTwo_b76 C hend hk2 hk12 v1 v2 v3 S (lv_sub hl [0, 1, 2, 3] rfl) hf
          · replace hf := if_f hf h14
            refine lv_aload_n C.1 C.2.1 dX10_isTwo_43 rfl (lv_at hl 0 rfl) ?_
            refine lv_iload_n C.1 C.2.1 dX10_isTwo_44 rfl (lv_at hl 1 rfl) ?_
            refine lv_iload_n C.1 C.2.1 dX10_isTwo_45 rfl (lv_at hl 2 rfl) ?_
            refine lv_iload_n C.1 C.2.1 dX10_isTwo_46 rfl (lv_at hl 3 rfl) ?_
            obtain ⟨q7, hc8, hf⟩ := bd_o hf
            refine r_callVv C S (As := [.int (oI v1), .int (oI v2), .int (oI v3)]) (rest := []) (ct_X10_isWidth l G τ hc8) mi_X10_isWidth tw_1441 mv_X10_isWidth (rvX10 S) ⟨rfl, rfl⟩ ⟨Nat.le_of_ble_eq_true rfl, Nat.le_of_ble_eq_true rfl⟩ ⟨Nat.zero_le _, Nat.zero_le _⟩ rfl hl.1 rfl (Nat.le_of_ble_eq_true rfl) dX10_isTwo_47 (fun H locs S => ?_)
            refine r_if_ne C rfl (tgt := 56) dX10_isTwo_50 (by decide) (fun h13 => ?_) (fun h13 => ?_)
            · replace hf := if_t hf h13
              refine lv_goto C.1 C.2.1 (tgt := 76) dX10_isTwo_53 (by decide) ?_
              exact b_X10_isTwo_b76 C hend hk2 hk12 v1 v2 v3 S (lv_sub hl [0, 1, 2, 3] rfl) hf
            · replace hf := if_f hf h13
              exact b_X10_isTwo_b56 C hend v2 v3 S (lv_sub hl [0, 2, 3] rfl) hf
    · replace hf := if_f hf h17
      exact b_X10_isTwo_b82 C hend hk2 v1 v2 S (lv_sub hl [0, 1, 2] rfl) hf
set_option maxRecDepth 100000 in
set_option maxHeartbeats 4000000 in
theorem b_X10_isTwo_b2 (C : Cx p s m args c RX10 cX10_isTwo 4) {q : Int × Sg} (hend : (q.1 = 0 ∨ q.1 = 1) → EndR p l e (rmk 2 58) s m args below meth c Q G false τ cX10_isTwo .ireturn [.int (oI q.1)] q.2) : ∀ (n : Nat) {H : Heap} {locs : List Loc} {ls : Array Slot} {σ : Sg} (v1 : Int) (v2 : Int) (S : St G false τ σ s H locs) (hl : lv_has ls 4 [(0, .ref (G.1 41)), (1, .int (oI v1)), (2, .int (oI v2))]) (hf : f_X10_isTwo_b2 n v1 v2 σ = some q), W p l e (rmk 2 58) s m args below meth c H locs 0 0 Q (F0 m 2 ls []) := by
  intro n
  induction n with
  | zero => intro H locs ls σ v1 v2 S hl hf; cases hf
  | succ n ih =>
    intro H locs ls σ v1 v2 S hl hf
    have hk2 := @ih
    rw [f_X10_isTwo_b2] at hf
    refine lv_iload_n C.1 C.2.1 dX10_isTwo_2 rfl (lv_at hl 2 rfl) ?_
    refine r_bipush C dX10_isTwo_3 (by decide) ?_
    refine r_icmp_ge C rfl (show w32 24 = 24 by decide) (tgt := 88) dX10_isTwo_5 (by decide) (fun h18 => ?_) (fun h18 => ?_)
    · replace hf := if_t hf h18
      refine lv_iload_n C.1 C.2.1 dX10_isTwo_8 rfl (lv_at hl 2 rfl) ?_
      refine r_iconst C dX10_isTwo_9 ?_
      refine r_iadd C dX10_isTwo_10 ?_
      refine lv_istore_n C.1 C.2.1 dX10_isTwo_11 rfl hl (by decide) (lv' := [(3, .int (oI (v2 + 1))), (0, .ref (G.1 41)), (1, .int (oI v1)), (2, .int (oI v2))]) rfl (fun ls hl => ?_)
      exact b_X10_isTwo_b12 C hend hk2 FUEL v1 v2 (v2 + 1) S (lv_sub hl [1, 2, 3, 0] rfl) hf
    · replace hf := if_f hf h18
      refine r_iconst C dX10_isTwo_88 ?_
      cases hf
      exact hend (Or.inl rfl) _ _ _ _ S dX10_isTwo_89
set_option maxRecDepth 100000 in
set_option maxHeartbeats 4000000 in
theorem ct_X10_isTwo (l : Launch) (G : Gd) (τ : Sg) {v1 : Int} {σ : Sg} {q : Int × Sg} (hf : f_X10_isTwo v1 σ = some q) : Ctr l yX10_isTwo cX10_isTwo 4 (some .boolean) (rmk 2 58) G false τ [.ref (G.1 41), .int (oI v1)] σ q.2 (some (.int (oI q.1))) := by
  unfold f_X10_isTwo at hf
  refine CtrZ.of (own := RX10) (plainFor_of_name (by decide)) (Nat.le_of_ble_eq_true rfl) rfl (fun p e s m below meth c Q ls C hl S hend => ?_)
  have hl : lv_has ls 4 [(0, .ref (G.1 41)), (1, .int (oI v1))] := hl
  refine r_iconst C dX10_isTwo_0 ?_
  refine lv_istore_n C.1 C.2.1 dX10_isTwo_1 rfl hl (by decide) (lv' := [(2, .int (oI 0)), (0, .ref (G.1 41)), (1, .int (oI v1))]) rfl (fun ls hl => ?_)
  exact b_X10_isTwo_b2 C hend FUEL v1 0 S (lv_sub hl [1, 2, 0] rfl) hf
set_option maxRecDepth 100000 in
set_option maxHeartbeats 4000000 in
theorem b_X10_isThree_b134 (C : Cx p s m args c RX10 cX10_isThree 7) {q : Sg} {k2 : Int → Int → Sg → Option (Sg)} {k12 : Int → Int → Int → Sg → Option (Sg)} {k23 : Int → Int → Int → Int → Sg → Option (Sg)} (hend : EndR p l e (rmk 3 86) s m args below meth c Q G false τ cX10_isThree .return_ [] q) (hk2 : ∀ {H : Heap} {locs : List Loc} {ls : Array Slot} {σ : Sg} (v1 : Int) (v2 : Int), St G false τ σ s H locs → lv_has ls 7 [(0, .ref (G.1 41)), (1, .int (oI v1)), (2, .int (oI v2))] → k2 v1 v2 σ = some q → W p l e (rmk 3 86) s m args below meth c H locs 0 0 Q (F0 m 2 ls [])) (hk12 : ∀ {H : Heap} {locs : List Loc} {ls : Array Slot} {σ : Sg} (v1 : Int) (v2 : Int) (v3 : Int), St G false τ σ s H locs → lv_has ls 7 [(0, .ref (G.1 41)), (1, .int (oI v1)), (2, .int (oI v2)), (3, .int (oI v3))] → k12 v1 v2 v3 σ = some q → W p l e (rmk 3 86) s m args below meth c H locs 0 0 Q (F0 m 12 ls [])) (hk23 : ∀ {H : Heap} {locs : List Loc} {ls : Array Slot} {σ : Sg} (v1 : Int) (v2 : Int) (v3 : Int) (v4 : Int), St G false τ σ s H locs → lv_has ls 7 [(0, .ref (G.1 41)), (1, .int (oI v1)), (2, .int (oI v2)), (3, .int (oI v3)), (4, .int (oI v4))] → k23 v1 v2 v3 v4 σ = some q → W p l e (rmk 3 86) s m args below meth c H locs 0 0 Q (F0 m 23 ls [])) {H : Heap} {locs : List Loc} {ls : Array Slot} {σ : Sg} (v1 : Int) (v2 : Int) (v3 : Int) (v4 : Int) (S : St G false τ σ s H locs) (hl : lv_has ls 7 [(0, .ref (G.1 41)), (1, .int (oI v1)), (2, .int (oI v2)), (3, .int (oI v3)), (4, .int (oI v4))]) (hf : f_X10_isThree_b134 k2 k12 k23 v1 v2 v3 v4 σ = some q) : W p l e (rmk 3 86) s m args below meth c H locs 0 0 Q (F0 m 134 ls []) := by
  unfold f_X10_isThree_b134 at hf
  refine r_iinc C dX10_isThree_134 hl (k := 4) rfl (by decide) (lv' := [(4, .int (oI (v4 + 1))), (0, .ref (G.1 41)), (1, .int (oI v1)), (2, .int (oI v2)), (3, .int (oI v3))]) rfl (fun ls hl => ?_)
  refine lv_goto C.1 C.2.1 (tgt := 23) dX10_isThree_137 (by decide) ?_
  exact hk23 v1 v2 v3 (v4 + 1) S (lv_sub hl [1, 2, 3, 4, 0] rfl) hf
set_option maxRecDepth 100000 in
set_option maxHeartbeats 4000000 in
theorem b_X10_isThree_b81 (C : Cx p s m args c RX10 cX10_isThree 7) {q : Sg} (hend : EndR p l e (rmk 3 86) s m args below meth c Q G false τ cX10_isThree .return_ [] q) {H : Heap} {locs : List Loc} {ls : Array Slot} {σ : Sg} (v2 : Int) (v3 : Int) (v4 : Int) (S : St G false τ σ s H locs) (hl : lv_has ls 7 [(0, .ref (G.1 41)), (2, .int (oI v2)), (3, .int (oI v3)), (4, .int (oI v4))]) (hf : f_X10_isThree_b81 v2 v3 v4 σ = some q) : W p l e (rmk 3 86) s m args below meth c H locs 0 0 Q (F0 m 81 ls []) := by
  unfold f_X10_isThree_b81 at hf
  refine lv_aload_n C.1 C.2.1 dX10_isThree_81 rfl (lv_at hl 0 rfl) ?_
  refine lv_iload_n C.1 C.2.1 dX10_isThree_82 rfl (lv_at hl 1 rfl) ?_
  refine lv_iload_n C.1 C.2.1 dX10_isThree_83 rfl (lv_at hl 2 rfl) ?_
  refine lv_iload C.1 C.2.1 dX10_isThree_84 (lv_at hl 3 rfl) ?_
  obtain ⟨q11, hc12, hf⟩ := bd_o hf
  refine r_callVv C S (As := [.int (oI v2), .int (oI v3), .int (oI v4)]) (rest := []) (ct_X10_turn l G τ hc12) mi_X10_turn tw_1453 mv_X10_turn (rvX10 S) ⟨rfl, rfl⟩ ⟨Nat.le_of_ble_eq_true rfl, Nat.le_of_ble_eq_true rfl⟩ ⟨Nat.zero_le _, Nat.zero_le _⟩ rfl hl.1 rfl (Nat.le_of_ble_eq_true rfl) dX10_isThree_86 (fun H locs S => ?_)
  refine lv_lstore C.1 C.2.1 dX10_isThree_89 hl (by decide) (lv' := [(5, .long (oL q11)), (0, .ref (G.1 41)), (2, .int (oI v2)), (3, .int (oI v3)), (4, .int (oI v4))]) rfl (fun ls hl => ?_)
  refine lv_aload_n C.1 C.2.1 dX10_isThree_91 rfl (lv_at hl 1 rfl) ?_
  refine lv_aload_n C.1 C.2.1 dX10_isThree_92 rfl (lv_at hl 1 rfl) ?_
  refine lv_iload_n C.1 C.2.1 dX10_isThree_93 rfl (lv_at hl 2 rfl) ?_
  refine lv_iload_n C.1 C.2.1 dX10_isThree_94 rfl (lv_at hl 3 rfl) ?_
  obtain ⟨q13, hc14, hf⟩ := bd_o hf
  refine r_callVv C S (As := [.int (oI v2), .int (oI v3)]) (rest := [.ref (G.1 41)]) (ct_X10_distance l G τ hc14) mi_X10_distance tw_1297 mv_X10_distance (rvX10 S) ⟨rfl, rfl⟩ ⟨Nat.le_of_ble_eq_true rfl, Nat.le_of_ble_eq_true rfl⟩ ⟨Nat.zero_le _, Nat.zero_le _⟩ rfl hl.1 rfl (Nat.le_of_ble_eq_true rfl) dX10_isThree_95 (fun H locs S => ?_)
  refine r_i2l C dX10_isThree_98 ?_
  refine lv_aload_n C.1 C.2.1 dX10_isThree_99 rfl (lv_at hl 1 rfl) ?_
  refine lv_iload_n C.1 C.2.1 dX10_isThree_100 rfl (lv_at hl 3 rfl) ?_
  refine lv_iload C.1 C.2.1 dX10_isThree_101 (lv_at hl 4 rfl) ?_
  obtain ⟨q15, hc16, hf⟩ := bd_o hf
  refine r_callVv C S (As := [.int (oI v3), .int (oI v4)]) (rest := [.long (oL (w32 q13)), .ref (G.1 41)]) (ct_X10_distance l G τ hc16) mi_X10_distance tw_1297 mv_X10_distance (rvX10 S) ⟨rfl, rfl⟩ ⟨Nat.le_of_ble_eq_true rfl, Nat.le_of_ble_eq_true rfl⟩ ⟨Nat.zero_le _, Nat.zero_le _⟩ rfl hl.1 rfl (Nat.le_of_ble_eq_true rfl) dX10_isThree_103 (fun H locs S => ?_)
  refine r_i2l C dX10_isThree_106 ?_
  refine r_lmul C dX10_isThree_107 ?_
  refine lv_aload_n C.1 C.2.1 dX10_isThree_108 rfl (lv_at hl 1 rfl) ?_
  refine lv_iload C.1 C.2.1 dX10_isThree_109 (lv_at hl 4 rfl) ?_
  refine lv_iload_n C.1 C.2.1 dX10_isThree_111 rfl (lv_at hl 2 rfl) ?_
  obtain ⟨q17, hc18, hf⟩ := bd_o hf
  refine r_callVv C S (As := [.int (oI v4), .int (oI v2)]) (rest := [.long (oL ((w32 q13) * (w32 q15))), .ref (G.1 41)]) (ct_X10_distance l G τ hc18) mi_X10_distance tw_1297 mv_X10_distance (rvX10 S) ⟨rfl, rfl⟩ ⟨Nat.le_of_ble_eq_true rfl, Nat.le_of_ble_eq_true rfl⟩ ⟨Nat.zero_le _, Nat.zero_le _⟩ rfl hl.1 rfl (Nat.le_of_ble_eq_true rfl) dX10_isThree_112 (fun H locs S => ?_)
  refine r_i2l C dX10_isThree_115 ?_
  refine r_lmul C dX10_isThree_116 ?_
  refine r_ldc2 C tw_1318 dX10_isThree_117 ?_
  refine lv_lload C.1 C.2.1 dX10_isThree_120 (lv_at hl 0 rfl) ?_
  refine r_lmul C dX10_isThree_122 ?_
  refine lv_lload C.1 C.2.1 dX10_isThree_123 (lv_at hl 0 rfl) ?_
  refine r_lmul C dX10_isThree_125 ?_
  refine lv_iload_n C.1 C.2.1 dX10_isThree_126 rfl (lv_at hl 2 rfl) ?_
  refine lv_iload_n C.1 C.2.1 dX10_isThree_127 rfl (lv_at hl 3 rfl) ?_
  refine lv_iload C.1 C.2.1 dX10_isThree_128 (lv_at hl 4 rfl) ?_
  obtain ⟨q19, hc20, hf⟩ := bd_o hf
  refine r_callVn C S (As := [.long (oL (((w32 q13) * (w32 q15)) * (w32 q17))), .long (oL ((4 * q11) * q11)), .int (oI v2), .int (oI v3), .int (oI v4)]) (rest := []) (ct_X10_isRing l G τ hc20) mi_X10_isRing tw_1430 mv_X10_isRing (rvX10 S) ⟨rfl, rfl⟩ ⟨Nat.le_of_ble_eq_true rfl, Nat.le_of_ble_eq_true rfl⟩ ⟨Nat.zero_le _, Nat.zero_le _⟩ rfl hl.1 rfl (Nat.le_of_ble_eq_true rfl) dX10_isThree_130 (fun H locs S => ?_)
  cases hf
  exact hend _ _ _ _ S dX10_isThree_133
set_option maxRecDepth 100000 in
set_option maxHeartbeats 4000000 in
theorem b_X10_isThree_b140 (C : Cx p s m args c RX10 cX10_isThree 7) {q : Sg} {k2 : Int → Int → Sg → Option (Sg)} {k12 : Int → Int → Int → Sg → Option (Sg)} (hend : EndR p l e (rmk 3 86) s m args below meth c Q G false τ cX10_isThree .return_ [] q) (hk2 : ∀ {H : Heap} {locs : List Loc} {ls : Array Slot} {σ : Sg} (v1 : Int) (v2 : Int), St G false τ σ s H locs → lv_has ls 7 [(0, .ref (G.1 41)), (1, .int (oI v1)), (2, .int (oI v2))] → k2 v1 v2 σ = some q → W p l e (rmk 3 86) s m args below meth c H locs 0 0 Q (F0 m 2 ls [])) (hk12 : ∀ {H : Heap} {locs : List Loc} {ls : Array Slot} {σ : Sg} (v1 : Int) (v2 : Int) (v3 : Int), St G false τ σ s H locs → lv_has ls 7 [(0, .ref (G.1 41)), (1, .int (oI v1)), (2, .int (oI v2)), (3, .int (oI v3))] → k12 v1 v2 v3 σ = some q → W p l e (rmk 3 86) s m args below meth c H locs 0 0 Q (F0 m 12 ls [])) {H : Heap} {locs : List Loc} {ls : Array Slot} {σ : Sg} (v1 : Int) (v2 : Int) (v3 : Int) (S : St G false τ σ s H locs) (hl : lv_has ls 7 [(0, .ref (G.1 41)), (1, .int (oI v1)), (2, .int (oI v2)), (3, .int (oI v3))]) (hf : f_X10_isThree_b140 k2 k12 v1 v2 v3 σ = some q) : W p l e (rmk 3 86) s m args below meth c H locs 0 0 Q (F0 m 140 ls []) := by
  unfold f_X10_isThree_b140 at hf
  refine r_iinc C dX10_isThree_140 hl (k := 3) rfl (by decide) (lv' := [(3, .int (oI (v3 + 1))), (0, .ref (G.1 41)), (1, .int (oI v1)), (2, .int (oI v2))]) rfl (fun ls hl => ?_)
  refine lv_goto C.1 C.2.1 (tgt := 12) dX10_isThree_143 (by decide) ?_
  exact hk12 v1 v2 (v3 + 1) S (lv_sub hl [1, 2, 3, 0] rfl) hf
set_option maxRecDepth 100000 in
set_option maxHeartbeats 4000000 in
theorem b_X10_isThree_b23 (C : Cx p s m args c RX10 cX10_isThree 7) {q : Sg} {k2 : Int → Int → Sg → Option (Sg)} {k12 : Int → Int → Int → Sg → Option (Sg)} (hend : EndR p l e (rmk 3 86) s m args below meth c Q G false τ cX10_isThree .return_ [] q) (hk2 : ∀ {H : Heap} {locs : List Loc} {ls : Array Slot} {σ : Sg} (v1 : Int) (v2 : Int), St G false τ σ s H locs → lv_has ls 7 [(0, .ref (G.1 41)), (1, .int (oI v1)), (2, .int (oI v2))] → k2 v1 v2 σ = some q → W p l e (rmk 3 86) s m args below meth c H locs 0 0 Q (F0 m 2 ls [])) (hk12 : ∀ {H : Heap} {locs : List Loc} {ls : Array Slot} {σ : Sg} (v1 : Int) (v2 : Int) (v3 : Int), St G false τ σ s H locs → lv_has ls 7 [(0, .ref (G.1 41)), (1, .int (oI v1)), (2, .int (oI v2)), (3, .int (oI v3))] → k12 v1 v2 v3 σ = some q → W p l e (rmk 3 86) s m args below meth c H locs 0 0 Q (F0 m 12 ls [])) : ∀ (n : Nat) {H : Heap} {locs : List Loc} {ls : Array Slot} {σ : Sg} (v1 : Int) (v2 : Int) (v3 : Int) (v4 : Int) (S : St G false τ σ s H locs) (hl : lv_has ls 7 [(0, .ref (G.1 41)), (1, .int (oI v1)), (2, .int (oI v2)), (3, .int (oI v3)), (4, .int (oI v4))]) (hf : f_X10_isThree_b23 k2 k12 n v1 v2 v3 v4 σ = some q), W p l e (rmk 3 86) s m args below meth c H locs 0 0 Q (F0 m 23 ls []) := by
  intro n
  induction n with
  | zero => intro H locs ls σ v1 v2 v3 v4 S hl hf; cases hf
  | succ n ih =>
    intro H locs ls σ v1 v2 v3 v4 S hl hf
    have hk23 := @ih
    rw [f_X10_isThree_b23] at hf
    refine lv_iload C.1 C.2.1 dX10_isThree_23 (lv_at hl 4 rfl) ?_
    refine r_bipush C dX10_isThree_25 (by decide) ?_
    refine r_icmp_ge C rfl (show w32 24 = 24 by decide) (tgt := 140) dX10_isThree_27 (by decide) (fun h26 => ?_) (fun h26 => ?_)
    · replace hf := if_t hf h26
      refine lv_iload_n C.1 C.2.1 dX10_isThree_30 rfl (lv_at hl 1 rfl) ?_
      refine lv_iload_n C.1 C.2.1 dX10_isThree_31 rfl (lv_at hl 2 rfl) ?_
      obtain ⟨q1, hc2, hf⟩ := bd_o hf
      refine r_callSv C S (As := [.int (oI v1), .int (oI v2)]) (rest := []) (ct_X10_has l G τ hc2) mi_X10_has tw_1285 ms_X10_has ⟨rfl, rfl⟩ ⟨Nat.le_of_ble_eq_true rfl, Nat.le_of_ble_eq_true rfl⟩ ⟨Nat.zero_le _, Nat.zero_le _⟩ rfl hl.1 rfl (Nat.le_of_ble_eq_true rfl) dX10_isThree_32 (fun H locs S => ?_)
      refine r_if_eq C rfl (tgt := 134) dX10_isThree_35 (by decide) (fun h25 => ?_) (fun h25 => ?_)
      · replace hf := if_t hf h25
        exact b_X10_isThree_b134 C hend hk2 hk12 hk23 v1 v2 v3 v4 S (lv_sub hl [0, 1, 2, 3, 4] rfl) hf
      · replace hf := if_f hf h25
        refine lv_iload_n C.1 C.2.1 dX10_isThree_38 rfl (lv_at hl 1 rfl) ?_
        refine lv_iload_n C.1 C.2.1 dX10_isThree_39 rfl (lv_at hl 3 rfl) ?_
        obtain ⟨q3, hc4, hf⟩ := bd_o hf
        refine r_callSv C S (As := [.int (oI v1), .int (oI v3)]) (rest := []) (ct_X10_has l G τ hc4) mi_X10_has tw_1285 ms_X10_has ⟨rfl, rfl⟩ ⟨Nat.le_of_ble_eq_true rfl, Nat.le_of_ble_eq_true rfl⟩ ⟨Nat.zero_le _, Nat.zero_le _⟩ rfl hl.1 rfl (Nat.le_of_ble_eq_true rfl) dX10_isThree_40 (fun H locs S => ?_)
        refine r_if_eq C rfl (tgt := 134) dX10_isThree_43 (by decide) (fun h24 => ?_) (fun h24 => ?_)
        · replace hf := if_t hf h24
          exact b_X10_isThree_b134 C hend hk2 hk12 hk23 v1 v2 v3 v4 S (lv_sub hl [0, 1, 2, 3, 4] rfl) hf
        · replace hf := if_f hf h24
          refine lv_iload_n C.1 C.2.1 dX10_isThree_46 rfl (lv_at hl 1 rfl) ?_
          refine lv_iload C.1 C.2.1 dX10_isThree_47 (lv_at hl 4 rfl) ?_
          obtain ⟨q5, hc6, hf⟩ := bd_o hf
          refine r_callSv C S (As := [.int (oI v1), .int (oI v4)]) (rest := []) (ct_X10_has l G τ hc6) mi_X10_has tw_1285 ms_X10_has ⟨rfl, rfl⟩ ⟨Nat.le_of_ble_eq_true rfl, Nat.le_of_ble_eq_true rfl⟩ ⟨Nat.zero_le _, Nat.zero_le _⟩ rfl hl.1 rfl (Nat.le_of_ble_eq_true rfl) dX10_isThree_49 (fun H locs S => ?_)
          refine r_if_eq C rfl (tgt := 134) dX10_isThree_52 (by decide) (fun h23 => ?_) (fun h23 => ?_)
          · replace hf := if_t hf h23
            exact b_X10_isThree_b134 C hend hk2 hk12 hk23 v1 v2 v3 v4 S (lv_sub hl [0, 1, 2, 3, 4] rfl) hf
          · replace hf := if_f hf h23
            refine lv_aload_n C.1 C.2.1 dX10_isThree_55 rfl (lv_at hl 0 rfl) ?_
            refine lv_iload_n C.1 C.2.1 dX10_isThree_56 rfl (lv_at hl 2 rfl) ?_
            refine lv_iload_n C.1 C.2.1 dX10_isThree_57 rfl (lv_at hl 3 rfl) ?_
            refine lv_iload C.1 C.2.1 dX10_isThree_58 (lv_at hl 4 rfl) ?_
            obtain ⟨q7, hc8, hf⟩ := bd_o hf
            refine r_callVv C S (As := [.int (oI v2), .int (oI v3), .int (oI v4)]) (rest := []) (ct_X10_isSharp l G τ hc8) mi_X10_isSharp tw_1449 mv_X10_isSharp (rvX10 S) ⟨rfl, rfl⟩ ⟨Nat.le_of_ble_eq_true rfl, Nat.le_of_ble_eq_true rfl⟩ ⟨Nat.zero_le _, Nat.zero_le _⟩ rfl hl.1 rfl (Nat.le_of_ble_eq_true rfl) dX10_isThree_60 (fun H locs S => ?_)
            refine r_if_eq C rfl (tgt := 134) dX10_isThree_63 (by decide) (fun h22 => ?_) (fun h22 => ?_)
            · replace hf := if_t hf h22
              exact b_X10_isThree_b134 C hend hk2 hk12 hk23 v1 v2 v3 v4 S (lv_sub hl [0, 1, 2, 3, 4] rfl) hf
            · replace hf := if_f hf h22
              refine lv_aload_n C.1 C.2.1 dX10_isThree_66 rfl (lv_at hl 0 rfl) ?_
              refine lv_iload_n C.1 C.2.1 dX10_isThree_67 rfl (lv_at hl 1 rfl) ?_
              refine lv_iload_n C.1 C.2.1 dX10_isThree_68 rfl (lv_at hl 2 rfl) ?_
              refine lv_iload_n C.1 C.2.1 dX10_isThree_69 rfl (lv_at hl 3 rfl) ?_
              refine lv_iload C.1 C.2.1 dX10_isThree_70 (lv_at hl 4 rfl) ?_
              obtain ⟨q9, hc10, hf⟩ := bd_o hf
              refine r_callVv C S (As := [.int (oI v1), .int (oI v2), .int (oI v3), .int (oI v4)]) (rest := []) (ct_X10_isCircle l G τ hc10) mi_X10_isCircle tw_1457 mv_X10_isCircle (rvX10 S) ⟨rfl, rfl⟩ ⟨Nat.le_of_ble_eq_true rfl, Nat.le_of_ble_eq_true rfl⟩ ⟨Nat.zero_le _, Nat.zero_le _⟩ rfl hl.1 rfl (Nat.le_of_ble_eq_true rfl) dX10_isThree_72 (fun H locs S => ?_)
              refine r_if_ne C rfl (tgt := 81) dX10_isThree_75 (by decide) (fun h21 => ?_) (fun h21 => ?_)
              · replace hf := if_t hf h21
                refine lv_goto C.1 C.2.1 (tgt := 134) dX10_isThree_78 (by decide) ?_
                exact b_X10_isThree_b134 C hend hk2 hk12 hk23 v1 v2 v3 v4 S (lv_sub hl [0, 1, 2, 3, 4] rfl) hf
              · replace hf := if_f hf h21
                exact b_X10_isThree_b81 C hend v2 v3 v4 S (lv_sub hl [0, 2, 3, 4] rfl) hf
    · replace hf := if_f hf h26
      exact b_X10_isThree_b140 C hend hk2 hk12 v1 v2 v3 S (lv_sub hl [0, 1, 2, 3] rfl) hf
set_option maxRecDepth 100000 in
set_option maxHeartbeats 4000000 in
theorem b_X10_isThree_b146 (C : Cx p s m args c RX10 cX10_isThree 7) {q : Sg} {k2 : Int → Int → Sg → Option (Sg)} (hend : EndR p l e (rmk 3 86) s m args below meth c Q G false τ cX10_isThree .return_ [] q) (hk2 : ∀ {H : Heap} {locs : List Loc} {ls : Array Slot} {σ : Sg} (v1 : Int) (v2 : Int), St G false τ σ s H locs → lv_has ls 7 [(0, .ref (G.1 41)), (1, .int (oI v1)), (2, .int (oI v2))] → k2 v1 v2 σ = some q → W p l e (rmk 3 86) s m args below meth c H locs 0 0 Q (F0 m 2 ls [])) {H : Heap} {locs : List Loc} {ls : Array Slot} {σ : Sg} (v1 : Int) (v2 : Int) (S : St G false τ σ s H locs) (hl : lv_has ls 7 [(0, .ref (G.1 41)), (1, .int (oI v1)), (2, .int (oI v2))]) (hf : f_X10_isThree_b146 k2 v1 v2 σ = some q) : W p l e (rmk 3 86) s m args below meth c H locs 0 0 Q (F0 m 146 ls []) := by
  unfold f_X10_isThree_b146 at hf
  refine r_iinc C dX10_isThree_146 hl (k := 2) rfl (by decide) (lv' := [(2, .int (oI (v2 + 1))), (0, .ref (G.1 41)), (1, .int (oI v1))]) rfl (fun ls hl => ?_)
  refine lv_goto C.1 C.2.1 (tgt := 2) dX10_isThree_149 (by decide) ?_
  exact hk2 v1 (v2 + 1) S (lv_sub hl [1, 2, 0] rfl) hf
set_option maxRecDepth 100000 in
set_option maxHeartbeats 4000000 in
theorem b_X10_isThree_b12 (C : Cx p s m args c RX10 cX10_isThree 7) {q : Sg} {k2 : Int → Int → Sg → Option (Sg)} (hend : EndR p l e (rmk 3 86) s m args below meth c Q G false τ cX10_isThree .return_ [] q) (hk2 : ∀ {H : Heap} {locs : List Loc} {ls : Array Slot} {σ : Sg} (v1 : Int) (v2 : Int), St G false τ σ s H locs → lv_has ls 7 [(0, .ref (G.1 41)), (1, .int (oI v1)), (2, .int (oI v2))] → k2 v1 v2 σ = some q → W p l e (rmk 3 86) s m args below meth c H locs 0 0 Q (F0 m 2 ls [])) : ∀ (n : Nat) {H : Heap} {locs : List Loc} {ls : Array Slot} {σ : Sg} (v1 : Int) (v2 : Int) (v3 : Int) (S : St G false τ σ s H locs) (hl : lv_has ls 7 [(0, .ref (G.1 41)), (1, .int (oI v1)), (2, .int (oI v2)), (3, .int (oI v3))]) (hf : f_X10_isThree_b12 k2 n v1 v2 v3 σ = some q), W p l e (rmk 3 86) s m args below meth c H locs 0 0 Q (F0 m 12 ls []) := by
  intro n
  induction n with
  | zero => intro H locs ls σ v1 v2 v3 S hl hf; cases hf
  | succ n ih =>
    intro H locs ls σ v1 v2 v3 S hl hf
    have hk12 := @ih
    rw [f_X10_isThree_b12] at hf
    refine lv_iload_n C.1 C.2.1 dX10_isThree_12 rfl (lv_at hl 3 rfl) ?_
    refine r_bipush C dX10_isThree_13 (by decide) ?_
    refine r_icmp_ge C rfl (show w32 24 = 24 by decide) (tgt := 146) dX10_isThree_15 (by decide) (fun h27 => ?_) (fun h27 => ?_)
    · replace hf := if_t hf h27
      refine lv_iload_n C.1 C.2.1 dX10_isThree_18 rfl (lv_at hl 3 rfl) ?_
      refine r_iconst C dX10_isThree_19 ?_
      refine r_iadd C dX10_isThree_20 ?_
      refine lv_istore C.1 C.2.1 dX10_isThree_21 hl (by decide) (lv' := [(4, .int (oI (v3 + 1))), (0, .ref (G.1 41)), (1, .int (oI v1)), (2, .int (oI v2)), (3, .int (oI v3))]) rfl (fun ls hl => ?_)
      exact b_X10_isThree_b23 C hend hk2 hk12 FUEL v1 v2 v3 (v3 + 1) S (lv_sub hl [1, 2, 3, 4, 0] rfl) hf
    · replace hf := if_f hf h27
      exact b_X10_isThree_b146 C hend hk2 v1 v2 S (lv_sub hl [0, 1, 2] rfl) hf
set_option maxRecDepth 100000 in
set_option maxHeartbeats 4000000 in
theorem b_X10_isThree_b2 (C : Cx p s m args c RX10 cX10_isThree 7) {q : Sg} (hend : EndR p l e (rmk 3 86) s m args below meth c Q G false τ cX10_isThree .return_ [] q) : ∀ (n : Nat) {H : Heap} {locs : List Loc} {ls : Array Slot} {σ : Sg} (v1 : Int) (v2 : Int) (S : St G false τ σ s H locs) (hl : lv_has ls 7 [(0, .ref (G.1 41)), (1, .int (oI v1)), (2, .int (oI v2))]) (hf : f_X10_isThree_b2 n v1 v2 σ = some q), W p l e (rmk 3 86) s m args below meth c H locs 0 0 Q (F0 m 2 ls []) := by
  intro n
  induction n with
  | zero => intro H locs ls σ v1 v2 S hl hf; cases hf
  | succ n ih =>
    intro H locs ls σ v1 v2 S hl hf
    have hk2 := @ih
    rw [f_X10_isThree_b2] at hf
    refine lv_iload_n C.1 C.2.1 dX10_isThree_2 rfl (lv_at hl 2 rfl) ?_
    refine r_bipush C dX10_isThree_3 (by decide) ?_
    refine r_icmp_ge C rfl (show w32 24 = 24 by decide) (tgt := 152) dX10_isThree_5 (by decide) (fun h28 => ?_) (fun h28 => ?_)
    · replace hf := if_t hf h28
      refine lv_iload_n C.1 C.2.1 dX10_isThree_8 rfl (lv_at hl 2 rfl) ?_
      refine r_iconst C dX10_isThree_9 ?_
      refine r_iadd C dX10_isThree_10 ?_
      refine lv_istore_n C.1 C.2.1 dX10_isThree_11 rfl hl (by decide) (lv' := [(3, .int (oI (v2 + 1))), (0, .ref (G.1 41)), (1, .int (oI v1)), (2, .int (oI v2))]) rfl (fun ls hl => ?_)
      exact b_X10_isThree_b12 C hend hk2 FUEL v1 v2 (v2 + 1) S (lv_sub hl [1, 2, 3, 0] rfl) hf
    · replace hf := if_f hf h28
      cases hf
      exact hend _ _ _ _ S dX10_isThree_152
set_option maxRecDepth 100000 in
set_option maxHeartbeats 4000000 in
theorem ct_X10_isThree (l : Launch) (G : Gd) (τ : Sg) {v1 : Int} {σ : Sg} {q : Sg} (hf : f_X10_isThree v1 σ = some q) : Ctr l yX10_isThree cX10_isThree 7 none (rmk 3 86) G false τ [.ref (G.1 41), .int (oI v1)] σ q none := by
  unfold f_X10_isThree at hf
  refine CtrV.of (own := RX10) (plainFor_of_name (by decide)) (Nat.le_of_ble_eq_true rfl) rfl (fun p e s m below meth c Q ls C hl S hend => ?_)
  have hl : lv_has ls 7 [(0, .ref (G.1 41)), (1, .int (oI v1))] := hl
  refine r_iconst C dX10_isThree_0 ?_
  refine lv_istore_n C.1 C.2.1 dX10_isThree_1 rfl hl (by decide) (lv' := [(2, .int (oI 0)), (0, .ref (G.1 41)), (1, .int (oI v1))]) rfl (fun ls hl => ?_)
  exact b_X10_isThree_b2 C hend FUEL v1 0 S (lv_sub hl [1, 2, 0] rfl) hf
set_option maxRecDepth 100000 in
set_option maxHeartbeats 4000000 in
theorem b_X10_lowest_b2 (C : Cx p s m args c RX10 cX10_lowest 2) {q : Int} (hend : EndR p l e (rmk 1 21) s m args below meth c Q G false τ cX10_lowest .ireturn [.int (oI q)] σ) : ∀ (n : Nat) {H : Heap} {locs : List Loc} {ls : Array Slot} (v0 : Int) (v1 : Int) (S : St G false τ σ s H locs) (hl : lv_has ls 2 [(0, .int (oI v0)), (1, .int (oI v1))]) (hf : f_X10_lowest_b2 σ n v0 v1 = some q), W p l e (rmk 1 21) s m args below meth c H locs 0 0 Q (F0 m 2 ls []) := by
  intro n
  induction n with
  | zero => intro H locs ls v0 v1 S hl hf; cases hf
  | succ n ih =>
    intro H locs ls v0 v1 S hl hf
    have hk2 := @ih
    rw [f_X10_lowest_b2] at hf
    refine lv_iload_n C.1 C.2.1 dX10_lowest_2 rfl (lv_at hl 0 rfl) ?_
    refine lv_iload_n C.1 C.2.1 dX10_lowest_3 rfl (lv_at hl 1 rfl) ?_
    obtain ⟨q1, hc2, hf⟩ := bd_o hf
    refine r_callSv C S (As := [.int (oI v0), .int (oI v1)]) (rest := []) (ct_X10_has l G τ hc2) mi_X10_has tw_1285 ms_X10_has ⟨rfl, rfl⟩ ⟨Nat.le_of_ble_eq_true rfl, Nat.le_of_ble_eq_true rfl⟩ ⟨Nat.zero_le _, Nat.zero_le _⟩ rfl hl.1 rfl (Nat.le_of_ble_eq_true rfl) dX10_lowest_4 (fun H locs S => ?_)
    refine r_if_ne C rfl (tgt := 16) dX10_lowest_7 (by decide) (fun h3 => ?_) (fun h3 => ?_)
    · replace hf := if_t hf h3
      refine r_iinc C dX10_lowest_10 hl (k := 1) rfl (by decide) (lv' := [(1, .int (oI (v1 + 1))), (0, .int (oI v0))]) rfl (fun ls hl => ?_)
      refine lv_goto C.1 C.2.1 (tgt := 2) dX10_lowest_13 (by decide) ?_
      exact hk2 v0 (v1 + 1) S (lv_sub hl [1, 0] rfl) hf
    · replace hf := if_f hf h3
      refine lv_iload_n C.1 C.2.1 dX10_lowest_16 rfl (lv_at hl 1 rfl) ?_
      cases hf
      exact hend _ _ _ _ S dX10_lowest_17
set_option maxRecDepth 100000 in
set_option maxHeartbeats 4000000 in
theorem ct_X10_lowest (l : Launch) (G : Gd) (τ : Sg) {v0 : Int} {σ : Sg} {q : Int} (hf : f_X10_lowest v0 σ = some q) : Ctr l yX10_lowest cX10_lowest 2 (some .int) (rmk 1 21) G false τ [.int (oI v0)] σ σ (some (.int (oI q))) := by
  unfold f_X10_lowest at hf
  refine CtrI.of (own := RX10) (plainFor_of_name (by decide)) (Nat.le_of_ble_eq_true rfl) rfl (fun p e s m below meth c Q ls C hl S hend => ?_)
  have hl : lv_has ls 2 [(0, .int (oI v0))] := hl
  refine r_iconst C dX10_lowest_0 ?_
  refine lv_istore_n C.1 C.2.1 dX10_lowest_1 rfl hl (by decide) (lv' := [(1, .int (oI 0)), (0, .int (oI v0))]) rfl (fun ls hl => ?_)
  exact b_X10_lowest_b2 C hend FUEL v0 0 S (lv_sub hl [1, 0] rfl) hf
set_option maxRecDepth 100000 in
set_option maxHeartbeats 4000000 in
theorem b_X10_isOnePlace_b32 (C : Cx p s m args c RX10 cX10_isOnePlace 4) {q : Int} {k7 : Int → Int → Int → Option (Int)} (hend : (q = 0 ∨ q = 1) → EndR p l e (rmk 2 42) s m args below meth c Q G false τ cX10_isOnePlace .ireturn [.int (oI q)] σ) (hk7 : ∀ {H : Heap} {locs : List Loc} {ls : Array Slot} (v1 : Int) (v2 : Int) (v3 : Int), St G false τ σ s H locs → lv_has ls 4 [(0, .ref (G.1 41)), (1, .int (oI v1)), (2, .int (oI v2)), (3, .int (oI v3))] → k7 v1 v2 v3 = some q → W p l e (rmk 2 42) s m args below meth c H locs 0 0 Q (F0 m 7 ls [])) {H : Heap} {locs : List Loc} {ls : Array Slot} (v1 : Int) (v2 : Int) (v3 : Int) (S : St G false τ σ s H locs) (hl : lv_has ls 4 [(0, .ref (G.1 41)), (1, .int (oI v1)), (2, .int (oI v2)), (3, .int (oI v3))]) (hf : f_X10_isOnePlace_b32 σ k7 v1 v2 v3 = some q) : W p l e (rmk 2 42) s m args below meth c H locs 0 0 Q (F0 m 32 ls []) := by
  unfold f_X10_isOnePlace_b32 at hf
  refine r_iinc C dX10_isOnePlace_32 hl (k := 3) rfl (by decide) (lv' := [(3, .int (oI (v3 + 1))), (0, .ref (G.1 41)), (1, .int (oI v1)), (2, .int (oI v2))]) rfl (fun ls hl => ?_)
  refine lv_goto C.1 C.2.1 (tgt := 7) dX10_isOnePlace_35 (by decide) ?_
  exact hk7 v1 v2 (v3 + 1) S (lv_sub hl [1, 2, 3, 0] rfl) hf
set_option maxRecDepth 100000 in
set_option maxHeartbeats 4000000 in
theorem b_X10_isOnePlace_b7 (C : Cx p s m args c RX10 cX10_isOnePlace 4) {q : Int} (hend : (q = 0 ∨ q = 1) → EndR p l e (rmk 2 42) s m args below meth c Q G false τ cX10_isOnePlace .ireturn [.int (oI q)] σ) : ∀ (n : Nat) {H : Heap} {locs : List Loc} {ls : Array Slot} (v1 : Int) (v2 : Int) (v3 : Int) (S : St G false τ σ s H locs) (hl : lv_has ls 4 [(0, .ref (G.1 41)), (1, .int (oI v1)), (2, .int (oI v2)), (3, .int (oI v3))]) (hf : f_X10_isOnePlace_b7 σ n v1 v2 v3 = some q), W p l e (rmk 2 42) s m args below meth c H locs 0 0 Q (F0 m 7 ls []) := by
  intro n
  induction n with
  | zero => intro H locs ls v1 v2 v3 S hl hf; cases hf
  | succ n ih =>
    intro H locs ls v1 v2 v3 S hl hf
    have hk7 := @ih
    rw [f_X10_isOnePlace_b7] at hf
    refine lv_iload_n C.1 C.2.1 dX10_isOnePlace_7 rfl (lv_at hl 3 rfl) ?_
    refine r_bipush C dX10_isOnePlace_8 (by decide) ?_
    refine r_icmp_ge C rfl (show w32 24 = 24 by decide) (tgt := 38) dX10_isOnePlace_10 (by decide) (fun h9 => ?_) (fun h9 => ?_)
    · replace hf := if_t hf h9
      refine lv_iload_n C.1 C.2.1 dX10_isOnePlace_13 rfl (lv_at hl 1 rfl) ?_
      refine lv_iload_n C.1 C.2.1 dX10_isOnePlace_14 rfl (lv_at hl 3 rfl) ?_
      obtain ⟨q3, hc4, hf⟩ := bd_o hf
      refine r_callSv C S (As := [.int (oI v1), .int (oI v3)]) (rest := []) (ct_X10_has l G τ hc4) mi_X10_has tw_1285 ms_X10_has ⟨rfl, rfl⟩ ⟨Nat.le_of_ble_eq_true rfl, Nat.le_of_ble_eq_true rfl⟩ ⟨Nat.zero_le _, Nat.zero_le _⟩ rfl hl.1 rfl (Nat.le_of_ble_eq_true rfl) dX10_isOnePlace_15 (fun H locs S => ?_)
      refine r_if_eq C rfl (tgt := 32) dX10_isOnePlace_18 (by decide) (fun h8 => ?_) (fun h8 => ?_)
      · replace hf := if_t hf h8
        exact b_X10_isOnePlace_b32 C hend hk7 v1 v2 v3 S (lv_sub hl [0, 1, 2, 3] rfl) hf
      · replace hf := if_f hf h8
        refine lv_aload_n C.1 C.2.1 dX10_isOnePlace_21 rfl (lv_at hl 0 rfl) ?_
        refine lv_iload_n C.1 C.2.1 dX10_isOnePlace_22 rfl (lv_at hl 2 rfl) ?_
        refine lv_iload_n C.1 C.2.1 dX10_isOnePlace_23 rfl (lv_at hl 3 rfl) ?_
        obtain ⟨q5, hc6, hf⟩ := bd_o hf
        refine r_callVv C S (As := [.int (oI v2), .int (oI v3)]) (rest := []) (ct_X10_distance l G τ hc6) mi_X10_distance tw_1297 mv_X10_distance (rvX10 S) ⟨rfl, rfl⟩ ⟨Nat.le_of_ble_eq_true rfl, Nat.le_of_ble_eq_true rfl⟩ ⟨Nat.zero_le _, Nat.zero_le _⟩ rfl hl.1 rfl (Nat.le_of_ble_eq_true rfl) dX10_isOnePlace_24 (fun H locs S => ?_)
        refine r_if_le C rfl (tgt := 32) dX10_isOnePlace_27 (by decide) (fun h7 => ?_) (fun h7 => ?_)
        · replace hf := if_t hf h7
          exact b_X10_isOnePlace_b32 C hend hk7 v1 v2 v3 S (lv_sub hl [0, 1, 2, 3] rfl) hf
        · replace hf := if_f hf h7
          refine r_iconst C dX10_isOnePlace_30 ?_
          cases hf
          exact hend (Or.inl rfl) _ _ _ _ S dX10_isOnePlace_31
    · replace hf := if_f hf h9
      refine r_iconst C dX10_isOnePlace_38 ?_
      cases hf
      exact hend (Or.inr rfl) _ _ _ _ S dX10_isOnePlace_39
set_option maxRecDepth 100000 in
set_option maxHeartbeats 4000000 in
theorem ct_X10_isOnePlace (l : Launch) (G : Gd) (τ : Sg) {v1 : Int} {σ : Sg} {q : Int} (hf : f_X10_isOnePlace v1 σ = some q) : Ctr l yX10_isOnePlace cX10_isOnePlace 4 (some .boolean) (rmk 2 42) G false τ [.ref (G.1 41), .int (oI v1)] σ σ (some (.int (oI q))) := by
  unfold f_X10_isOnePlace at hf
  refine CtrZ.of (own := RX10) (plainFor_of_name (by decide)) (Nat.le_of_ble_eq_true rfl) rfl (fun p e s m below meth c Q ls C hl S hend => ?_)
  have hl : lv_has ls 4 [(0, .ref (G.1 41)), (1, .int (oI v1))] := hl
  refine lv_iload_n C.1 C.2.1 dX10_isOnePlace_0 rfl (lv_at hl 1 rfl) ?_
  obtain ⟨q1, hc2, hf⟩ := bd_o hf
  refine r_callSv C S (As := [.int (oI v1)]) (rest := []) (ct_X10_lowest l G τ hc2) mi_X10_lowest tw_1427 ms_X10_lowest ⟨rfl, rfl⟩ ⟨Nat.le_of_ble_eq_true rfl, Nat.le_of_ble_eq_true rfl⟩ ⟨Nat.zero_le _, Nat.zero_le _⟩ rfl hl.1 rfl (Nat.le_of_ble_eq_true rfl) dX10_isOnePlace_1 (fun H locs S => ?_)
  refine lv_istore_n C.1 C.2.1 dX10_isOnePlace_4 rfl hl (by decide) (lv' := [(2, .int (oI q1)), (0, .ref (G.1 41)), (1, .int (oI v1))]) rfl (fun ls hl => ?_)
  refine lv_iload_n C.1 C.2.1 dX10_isOnePlace_5 rfl (lv_at hl 0 rfl) ?_
  refine lv_istore_n C.1 C.2.1 dX10_isOnePlace_6 rfl hl (by decide) (lv' := [(3, .int (oI q1)), (2, .int (oI q1)), (0, .ref (G.1 41)), (1, .int (oI v1))]) rfl (fun ls hl => ?_)
  exact b_X10_isOnePlace_b7 C hend FUEL v1 q1 q1 S (lv_sub hl [2, 3, 1, 0] rfl) hf
end WK
