section WK
variable {p : Program} {l : Launch} {e : Env} {s : State} {m : MethodId} {args : Array Value} {below : List Frame} {meth : Method} {c : Code} {Q : State → Prop} {G : Gd} {τ σ : Sg}
set_option maxRecDepth 100000 in
set_option maxHeartbeats 4000000 in
theorem b_X2_remove_b52 (C : Cx p s m args c RX2 cX2_remove 3) {d : Nat} (hd : d < 7) {q : Sg} (hend : EndR p l e (rmk 1 20) s m args below meth c Q G true τ cX2_remove .return_ [] q) : ∀ (n : Nat) {H : Heap} {locs : List Loc} {ls : Array Slot} {σ : Sg} (v1 : Int) (v2 : Int) (S : St G true τ σ s H locs) (hl : lv_has ls 3 [(0, .ref (G.1 (27 + d))), (1, .int (oI v1)), (2, .int (oI v2))]) (hf : f_X2_remove_b52 d n v1 v2 σ = some q), W p l e (rmk 1 20) s m args below meth c H locs 0 0 Q (F0 m 52 ls []) := by
  intro n
  induction n with
  | zero => intro H locs ls σ v1 v2 S hl hf; cases hf
  | succ n ih =>
    intro H locs ls σ v1 v2 S hl hf
    have hk52 := @ih
    rw [f_X2_remove_b52] at hf
    refine lv_iload_n C.1 C.2.1 dX2_remove_52 rfl (lv_at hl 2 rfl) ?_
    refine r_bipush C dX2_remove_53 (by decide) ?_
    refine r_icmp_ge C rfl (show w32 24 = 24 by decide) (tgt := 88) dX2_remove_55 (by decide) (fun h11 => ?_) (fun h11 => ?_)
    · replace hf := if_t hf h11
      refine lv_aload_n C.1 C.2.1 dX2_remove_58 rfl (lv_at hl 0 rfl) ?_
      refine g2_sets C (d := d) S (by omega) tw_127 dX2_remove_59 ?_
      refine lv_iload_n C.1 C.2.1 dX2_remove_62 rfl (lv_at hl 1 rfl) ?_
      refine r_bipush C dX2_remove_63 (by decide) ?_
      refine r_imul C dX2_remove_65 ?_
      refine lv_iload_n C.1 C.2.1 dX2_remove_66 rfl (lv_at hl 2 rfl) ?_
      refine r_iadd C dX2_remove_67 ?_
      refine r_iconst C dX2_remove_68 ?_
      obtain ⟨hi7, hf⟩ := ck_o hf
      refine a_iast C S (ar_34 (d := d) (by omega)) hi7 dX2_remove_69 (fun H locs S => ?_)
      obtain ⟨σ8, S, hf⟩ := wr_s S hf
      refine lv_aload_n C.1 C.2.1 dX2_remove_70 rfl (lv_at hl 0 rfl) ?_
      refine g2_sets C (d := d) S (by omega) tw_127 dX2_remove_71 ?_
      refine lv_iload_n C.1 C.2.1 dX2_remove_74 rfl (lv_at hl 2 rfl) ?_
      refine r_bipush C dX2_remove_75 (by decide) ?_
      refine r_imul C dX2_remove_77 ?_
      refine lv_iload_n C.1 C.2.1 dX2_remove_78 rfl (lv_at hl 1 rfl) ?_
      refine r_iadd C dX2_remove_79 ?_
      refine r_iconst C dX2_remove_80 ?_
      obtain ⟨hi9, hf⟩ := ck_o hf
      refine a_iast C S (ar_34 (d := d) (by omega)) hi9 dX2_remove_81 (fun H locs S => ?_)
      obtain ⟨σ10, S, hf⟩ := wr_s S hf
      refine r_iinc C dX2_remove_82 hl (k := 2) rfl (by decide) (lv' := [(2, .int (oI (v2 + 1))), (0, .ref (G.1 (27 + d))), (1, .int (oI v1))]) rfl (fun ls hl => ?_)
      refine lv_goto C.1 C.2.1 (tgt := 52) dX2_remove_85 (by decide) ?_
      exact hk52 v1 (v2 + 1) S (lv_sub hl [1, 2, 0] rfl) hf
    · replace hf := if_f hf h11
      cases hf
      exact hend _ _ _ _ S dX2_remove_88
set_option maxRecDepth 100000 in
set_option maxHeartbeats 4000000 in
theorem b_X2_remove_b50 (C : Cx p s m args c RX2 cX2_remove 3) {d : Nat} (hd : d < 7) {q : Sg} (hend : EndR p l e (rmk 1 20) s m args below meth c Q G true τ cX2_remove .return_ [] q) {H : Heap} {locs : List Loc} {ls : Array Slot} {σ : Sg} (v1 : Int) (S : St G true τ σ s H locs) (hl : lv_has ls 3 [(0, .ref (G.1 (27 + d))), (1, .int (oI v1))]) (hf : f_X2_remove_b50 d v1 σ = some q) : W p l e (rmk 1 20) s m args below meth c H locs 0 0 Q (F0 m 50 ls []) := by
  unfold f_X2_remove_b50 at hf
  refine r_iconst C dX2_remove_50 ?_
  refine lv_istore_n C.1 C.2.1 dX2_remove_51 rfl hl (by decide) (lv' := [(2, .int (oI 0)), (0, .ref (G.1 (27 + d))), (1, .int (oI v1))]) rfl (fun ls hl => ?_)
  exact b_X2_remove_b52 C hd hend FUEL v1 0 S (lv_sub hl [1, 2, 0] rfl) hf
set_option maxRecDepth 100000 in
set_option maxHeartbeats 4000000 in
theorem b_X2_remove_b24 (C : Cx p s m args c RX2 cX2_remove 3) {d : Nat} (hd : d < 7) {q : Sg} (hend : EndR p l e (rmk 1 20) s m args below meth c Q G true τ cX2_remove .return_ [] q) : ∀ (n : Nat) {H : Heap} {locs : List Loc} {ls : Array Slot} {σ : Sg} (v1 : Int) (v2 : Int) (S : St G true τ σ s H locs) (hl : lv_has ls 3 [(0, .ref (G.1 (27 + d))), (1, .int (oI v1)), (2, .int (oI v2))]) (hf : f_X2_remove_b24 d n v1 v2 σ = some q), W p l e (rmk 1 20) s m args below meth c H locs 0 0 Q (F0 m 24 ls []) := by
  intro n
  induction n with
  | zero => intro H locs ls σ v1 v2 S hl hf; cases hf
  | succ n ih =>
    intro H locs ls σ v1 v2 S hl hf
    have hk24 := @ih
    rw [f_X2_remove_b24] at hf
    refine lv_iload_n C.1 C.2.1 dX2_remove_24 rfl (lv_at hl 2 rfl) ?_
    refine r_sipush C dX2_remove_25 (by decide) ?_
    refine r_icmp_ge C rfl (show w32 576 = 576 by decide) (tgt := 50) dX2_remove_28 (by decide) (fun h12 => ?_) (fun h12 => ?_)
    · replace hf := if_t hf h12
      refine lv_aload_n C.1 C.2.1 dX2_remove_31 rfl (lv_at hl 0 rfl) ?_
      refine g2_sets C (d := d) S (by omega) tw_127 dX2_remove_32 ?_
      refine lv_iload_n C.1 C.2.1 dX2_remove_35 rfl (lv_at hl 2 rfl) ?_
      refine lv_dup2_11 C.1 C.2.1 dX2_remove_36 rfl rfl ?_
      obtain ⟨hi4, hf⟩ := ck_o hf
      refine a_iald C S (ar_34 (d := d) (by omega)) hi4 dX2_remove_37 ?_
      refine lv_aload_n C.1 C.2.1 dX2_remove_38 rfl (lv_at hl 0 rfl) ?_
      refine g2_members C (d := d) S (by omega) tw_131 dX2_remove_39 ?_
      refine r_iand C rfl rfl dX2_remove_42 ?_
      obtain ⟨hi5, hf⟩ := ck_o hf
      refine a_iast C S (ar_34 (d := d) (by omega)) hi5 dX2_remove_43 (fun H locs S => ?_)
      obtain ⟨σ6, S, hf⟩ := wr_s S hf
      refine r_iinc C dX2_remove_44 hl (k := 2) rfl (by decide) (lv' := [(2, .int (oI (v2 + 1))), (0, .ref (G.1 (27 + d))), (1, .int (oI v1))]) rfl (fun ls hl => ?_)
      refine lv_goto C.1 C.2.1 (tgt := 24) dX2_remove_47 (by decide) ?_
      exact hk24 v1 (v2 + 1) S (lv_sub hl [1, 2, 0] rfl) hf
    · replace hf := if_f hf h12
      exact b_X2_remove_b50 C hd hend v1 S (lv_sub hl [0, 1] rfl) hf
set_option maxRecDepth 100000 in
set_option maxHeartbeats 4000000 in
theorem ct_X2_remove (l : Launch) (G : Gd) (τ : Sg) {d : Nat} {v1 : Int} {σ : Sg} {q : Sg} (hf : f_X2_remove d v1 σ = some q) : Ctr l yX2_remove cX2_remove 3 none (rmk 1 20) G true τ [.ref (G.1 (27 + d)), .int (oI v1)] σ q none := by
  unfold f_X2_remove at hf
  obtain ⟨hd, hf⟩ := ck_o hf
  refine CtrV.of (own := RX2) (plainFor_of_name (by decide)) (Nat.le_of_ble_eq_true rfl) rfl (fun p e s m below meth c Q ls C hl S hend => ?_)
  have hl : lv_has ls 3 [(0, .ref (G.1 (27 + d))), (1, .int (oI v1))] := hl
  refine lv_iload_n C.1 C.2.1 dX2_remove_0 rfl (lv_at hl 1 rfl) ?_
  obtain ⟨q1, hc2, hf⟩ := bd_o hf
  refine r_callSNv C S (rest := []) (ct_X9_isNumber l G τ hc2) mi_X9_isNumber (nw_490 S.2.2.2) ms_X9_isNumber ⟨rfl, rfl⟩ ⟨Nat.le_of_ble_eq_true rfl, Nat.le_of_ble_eq_true rfl⟩ ⟨Nat.zero_le _, Nat.zero_le _⟩ rfl hl.1 rfl (Nat.le_of_ble_eq_true rfl) dX2_remove_1 (fun H locs S => ?_)
  refine r_if_ne C rfl (tgt := 8) dX2_remove_4 (by decide) (fun h13 => ?_) (fun h13 => ?_)
  · replace hf := if_t hf h13
    cases hf
    exact hend _ _ _ _ S dX2_remove_7
  · replace hf := if_f hf h13
    refine lv_aload_n C.1 C.2.1 dX2_remove_8 rfl (lv_at hl 0 rfl) ?_
    refine lv_dup C.1 C.2.1 dX2_remove_9 rfl ?_
    refine g2_members C (d := d) S (by omega) tw_131 dX2_remove_10 ?_
    refine r_iconst C dX2_remove_13 ?_
    refine lv_iload_n C.1 C.2.1 dX2_remove_14 rfl (lv_at hl 1 rfl) ?_
    refine r_ishl C (y1 := (u32 v1 % 32)) rfl dX2_remove_15 ?_
    refine r_iconst C dX2_remove_16 ?_
    refine r_ixor C rfl (show u32 (-1) = 4294967295 by decide) dX2_remove_17 ?_
    refine r_iand C rfl (u32_nat (nb_xor (u32_lt _) (show 4294967295 < 4294967296 by decide))) dX2_remove_18 ?_
    refine p2_members C (d := d) S (by omega) tw_131 dX2_remove_19 (fun H locs S => ?_)
    obtain ⟨σ3, S, hf⟩ := wr_s S hf
    refine r_iconst C dX2_remove_22 ?_
    refine lv_istore_n C.1 C.2.1 dX2_remove_23 rfl hl (by decide) (lv' := [(2, .int (oI 0)), (0, .ref (G.1 (27 + d))), (1, .int (oI v1))]) rfl (fun ls hl => ?_)
    exact b_X2_remove_b24 C hd hend FUEL v1 0 S (lv_sub hl [1, 2, 0] rfl) hf
set_option maxRecDepth 100000 in
set_option maxHeartbeats 4000000 in
theorem b_X9_leaveTreaties_b40 (C : Cx p s m args c RX9 cX9_leaveTreaties 5) {q : Sg} {k2 : Int → Int → Int → Sg → Option (Sg)} (hend : EndR p l e (rmk 2 42) s m args below meth c Q G true τ cX9_leaveTreaties .return_ [] q) (hk2 : ∀ {H : Heap} {locs : List Loc} {ls : Array Slot} {σ : Sg} (v1 : Int) (v2 : Int) (v3 : Int), St G true τ σ s H locs → lv_has ls 5 [(0, .ref (G.1 0)), (1, .int (oI v1)), (2, .int (oI v2)), (3, .int (oI v3))] → k2 v1 v2 v3 σ = some q → W p l e (rmk 2 42) s m args below meth c H locs 0 0 Q (F0 m 2 ls [])) {H : Heap} {locs : List Loc} {ls : Array Slot} {σ : Sg} (v1 : Int) (v2 : Int) (v3 : Int) (S : St G true τ σ s H locs) (hl : lv_has ls 5 [(0, .ref (G.1 0)), (1, .int (oI v1)), (2, .int (oI v2)), (3, .int (oI v3))]) (hf : f_X9_leaveTreaties_b40 k2 v1 v2 v3 σ = some q) : W p l e (rmk 2 42) s m args below meth c H locs 0 0 Q (F0 m 40 ls []) := by
  unfold f_X9_leaveTreaties_b40 at hf
  refine r_iinc C dX9_leaveTreaties_40 hl (k := 3) rfl (by decide) (lv' := [(3, .int (oI (v3 + 1))), (0, .ref (G.1 0)), (1, .int (oI v1)), (2, .int (oI v2))]) rfl (fun ls hl => ?_)
  refine lv_goto C.1 C.2.1 (tgt := 2) dX9_leaveTreaties_43 (by decide) ?_
  exact hk2 v1 v2 (v3 + 1) S (lv_sub hl [1, 2, 3, 0] rfl) hf
set_option maxRecDepth 100000 in
set_option maxHeartbeats 4000000 in
theorem b_X9_leaveTreaties_b2 (C : Cx p s m args c RX9 cX9_leaveTreaties 5) {q : Sg} (hend : EndR p l e (rmk 2 42) s m args below meth c Q G true τ cX9_leaveTreaties .return_ [] q) : ∀ (n : Nat) {H : Heap} {locs : List Loc} {ls : Array Slot} {σ : Sg} (v1 : Int) (v2 : Int) (v3 : Int) (S : St G true τ σ s H locs) (hl : lv_has ls 5 [(0, .ref (G.1 0)), (1, .int (oI v1)), (2, .int (oI v2)), (3, .int (oI v3))]) (hf : f_X9_leaveTreaties_b2 n v1 v2 v3 σ = some q), W p l e (rmk 2 42) s m args below meth c H locs 0 0 Q (F0 m 2 ls []) := by
  intro n
  induction n with
  | zero => intro H locs ls σ v1 v2 v3 S hl hf; cases hf
  | succ n ih =>
    intro H locs ls σ v1 v2 v3 S hl hf
    have hk2 := @ih
    rw [f_X9_leaveTreaties_b2] at hf
    refine lv_iload_n C.1 C.2.1 dX9_leaveTreaties_2 rfl (lv_at hl 3 rfl) ?_
    refine lv_aload_n C.1 C.2.1 dX9_leaveTreaties_3 rfl (lv_at hl 0 rfl) ?_
    refine g9_treatyCount C S tw_284 dX9_leaveTreaties_4 ?_
    refine r_icmp_ge C rfl rfl (tgt := 46) dX9_leaveTreaties_7 (by decide) (fun h9 => ?_) (fun h9 => ?_)
    · replace hf := if_t hf h9
      refine lv_aload_n C.1 C.2.1 dX9_leaveTreaties_10 rfl (lv_at hl 0 rfl) ?_
      refine lv_iload_n C.1 C.2.1 dX9_leaveTreaties_11 rfl (lv_at hl 3 rfl) ?_
      obtain ⟨q1, hc2, hf⟩ := bd_o hf
      refine r_callVv C S (rest := []) (ct_X9_treatyAt l G τ hc2) mi_X9_treatyAt tw_528 mv_X9_treatyAt (rvX9 S) ⟨rfl, rfl⟩ ⟨Nat.le_of_ble_eq_true rfl, Nat.le_of_ble_eq_true rfl⟩ ⟨Nat.zero_le _, Nat.zero_le _⟩ rfl hl.1 rfl (Nat.le_of_ble_eq_true rfl) dX9_leaveTreaties_12 (fun H locs S => ?_)
      rcases q1 with _ | t3
      · replace hf := oT_n hf
        refine lv_astoreN C.1 C.2.1 dX9_leaveTreaties_15 hl (by decide) (lv' := [(4, .null), (0, .ref (G.1 0)), (1, .int (oI v1)), (2, .int (oI v2)), (3, .int (oI v3))]) rfl (fun ls hl => ?_)
        refine lv_aloadN C.1 C.2.1 dX9_leaveTreaties_17 (lv_at hl 0 rfl) ?_
        refine lv_ifnullN C.1 C.2.1 (tgt := 40) dX9_leaveTreaties_19 (by decide) ?_
        exact b_X9_leaveTreaties_b40 C hend hk2 v1 v2 v3 S (lv_sub hl [1, 2, 3, 4] rfl) hf
      · obtain ⟨ht3, hf⟩ := oT_s hf
        refine lv_astore C.1 C.2.1 dX9_leaveTreaties_15 hl (by decide) (lv' := [(4, .ref (G.1 (21 + t3))), (0, .ref (G.1 0)), (1, .int (oI v1)), (2, .int (oI v2)), (3, .int (oI v3))]) rfl (fun ls hl => ?_)
        refine lv_aload C.1 C.2.1 dX9_leaveTreaties_17 (lv_at hl 0 rfl) ?_
        refine lv_ifnull C.1 C.2.1 dX9_leaveTreaties_19 ?_
        refine lv_aload C.1 C.2.1 dX9_leaveTreaties_22 (lv_at hl 0 rfl) ?_
        refine lv_iload_n C.1 C.2.1 dX9_leaveTreaties_24 rfl (lv_at hl 3 rfl) ?_
        obtain ⟨q4, hc5, hf⟩ := bd_o hf
        refine r_callVv C S (rest := []) (ct_X8_takes l G τ hc5) mi_X8_takes tw_567 mv_X8_takes (rvX8 S (d := t3) (by omega)) ⟨rfl, rfl⟩ ⟨Nat.le_of_ble_eq_true rfl, Nat.le_of_ble_eq_true rfl⟩ ⟨Nat.zero_le _, Nat.zero_le _⟩ rfl hl.1 rfl (Nat.le_of_ble_eq_true rfl) dX9_leaveTreaties_25 (fun H locs S => ?_)
        refine r_if_eq C rfl (tgt := 40) dX9_leaveTreaties_28 (by decide) (fun h8 => ?_) (fun h8 => ?_)
        · replace hf := if_t hf h8
          exact b_X9_leaveTreaties_b40 C hend hk2 v1 v2 v3 S (lv_sub hl [1, 2, 3, 4] rfl) hf
        · replace hf := if_f hf h8
          refine lv_aload C.1 C.2.1 dX9_leaveTreaties_31 (lv_at hl 0 rfl) ?_
          refine g8_discs C (d := t3) S (by omega) tw_149 dX9_leaveTreaties_33 ?_
          refine lv_iload_n C.1 C.2.1 dX9_leaveTreaties_36 rfl (lv_at hl 2 rfl) ?_
          obtain ⟨q6, hc7, hf⟩ := bd_o hf
          refine r_callVn C S (rest := []) (ct_X2_remove l G τ hc7) mi_X2_remove tw_605 mv_X2_remove (rvX2 S (d := t3) (by omega)) ⟨rfl, rfl⟩ ⟨Nat.le_of_ble_eq_true rfl, Nat.le_of_ble_eq_true rfl⟩ ⟨Nat.zero_le _, Nat.zero_le _⟩ rfl hl.1 rfl (Nat.le_of_ble_eq_true rfl) dX9_leaveTreaties_37 (fun H locs S => ?_)
          exact b_X9_leaveTreaties_b40 C hend hk2 v1 v2 v3 S (lv_sub hl [1, 2, 3, 4] rfl) hf
    · replace hf := if_f hf h9
      cases hf
      exact hend _ _ _ _ S dX9_leaveTreaties_46
set_option maxRecDepth 100000 in
set_option maxHeartbeats 4000000 in
theorem ct_X9_leaveTreaties (l : Launch) (G : Gd) (τ : Sg) {v1 : Int} {v2 : Int} {σ : Sg} {q : Sg} (hf : f_X9_leaveTreaties v1 v2 σ = some q) : Ctr l yX9_leaveTreaties cX9_leaveTreaties 5 none (rmk 2 42) G true τ [.ref (G.1 0), .int (oI v1), .int (oI v2)] σ q none := by
  unfold f_X9_leaveTreaties at hf
  refine CtrV.of (own := RX9) (plainFor_of_name (by decide)) (Nat.le_of_ble_eq_true rfl) rfl (fun p e s m below meth c Q ls C hl S hend => ?_)
  have hl : lv_has ls 5 [(0, .ref (G.1 0)), (1, .int (oI v1)), (2, .int (oI v2))] := hl
  refine r_iconst C dX9_leaveTreaties_0 ?_
  refine lv_istore_n C.1 C.2.1 dX9_leaveTreaties_1 rfl hl (by decide) (lv' := [(3, .int (oI 0)), (0, .ref (G.1 0)), (1, .int (oI v1)), (2, .int (oI v2))]) rfl (fun ls hl => ?_)
  exact b_X9_leaveTreaties_b2 C hend FUEL v1 v2 0 S (lv_sub hl [1, 2, 3, 0] rfl) hf
set_option maxRecDepth 100000 in
set_option maxHeartbeats 4000000 in
theorem ct_X9_move (l : Launch) (G : Gd) (τ : Sg) {v1 : Int} {v2 : Int} {v3 : Int} {σ : Sg} {q : Int × Sg} (hf : f_X9_move v1 v2 v3 σ = some q) : Ctr l yX9_move cX9_move 6 (some .int) (rmk 5 135) G true τ [.ref (G.1 0), .int (oI v1), .int (oI v2), .int (oI v3)] σ q.2 (some (.int (oI q.1))) := by
  unfold f_X9_move at hf
  refine CtrI.of (own := RX9) (plainFor_of_name (by decide)) (Nat.le_of_ble_eq_true rfl) rfl (fun p e s m below meth c Q ls C hl S hend => ?_)
  have hl : lv_has ls 6 [(0, .ref (G.1 0)), (1, .int (oI v1)), (2, .int (oI v2)), (3, .int (oI v3))] := hl
  refine lv_aload_n C.1 C.2.1 dX9_move_0 rfl (lv_at hl 0 rfl) ?_
  refine g9_book C S tw_282 dX9_move_1 ?_
  refine lv_iload_n C.1 C.2.1 dX9_move_4 rfl (lv_at hl 1 rfl) ?_
  obtain ⟨q1, hc2, hf⟩ := bd_o hf
  refine r_callVv C S (rest := []) (ct_X0_has l G τ hc2) mi_X0_has tw_581 mv_X0_has (rvX0 S) ⟨rfl, rfl⟩ ⟨Nat.le_of_ble_eq_true rfl, Nat.le_of_ble_eq_true rfl⟩ ⟨Nat.zero_le _, Nat.zero_le _⟩ rfl hl.1 rfl (Nat.le_of_ble_eq_true rfl) dX9_move_5 (fun H locs S => ?_)
  refine r_if_eq C rfl (tgt := 19) dX9_move_8 (by decide) (fun h18 => ?_) (fun h18 => ?_)
  · replace hf := if_t hf h18
    refine r_iconst C dX9_move_19 ?_
    cases hf
    exact hend _ _ _ _ S dX9_move_20
  · replace hf := if_f hf h18
    refine lv_iload_n C.1 C.2.1 dX9_move_11 rfl (lv_at hl 2 rfl) ?_
    refine lv_iload_n C.1 C.2.1 dX9_move_12 rfl (lv_at hl 3 rfl) ?_
    obtain ⟨q3, hc4, hf⟩ := bd_o hf
    refine r_callSv C S (rest := []) (ct_X9_isPlace l G τ hc4) mi_X9_isPlace tw_549 ms_X9_isPlace ⟨rfl, rfl⟩ ⟨Nat.le_of_ble_eq_true rfl, Nat.le_of_ble_eq_true rfl⟩ ⟨Nat.zero_le _, Nat.zero_le _⟩ rfl hl.1 rfl (Nat.le_of_ble_eq_true rfl) dX9_move_13 (fun H locs S => ?_)
    refine r_if_ne C rfl (tgt := 21) dX9_move_16 (by decide) (fun h17 => ?_) (fun h17 => ?_)
    · replace hf := if_t hf h17
      refine r_iconst C dX9_move_19 ?_
      cases hf
      exact hend _ _ _ _ S dX9_move_20
    · replace hf := if_f hf h17
      refine lv_aload_n C.1 C.2.1 dX9_move_21 rfl (lv_at hl 0 rfl) ?_
      refine g9_book C S tw_282 dX9_move_22 ?_
      refine lv_iload_n C.1 C.2.1 dX9_move_25 rfl (lv_at hl 1 rfl) ?_
      obtain ⟨q5, hc6, hf⟩ := bd_o hf
      refine r_callVv C S (rest := []) (ct_X0_perilOf l G τ hc6) mi_X0_perilOf tw_585 mv_X0_perilOf (rvX0 S) ⟨rfl, rfl⟩ ⟨Nat.le_of_ble_eq_true rfl, Nat.le_of_ble_eq_true rfl⟩ ⟨Nat.zero_le _, Nat.zero_le _⟩ rfl hl.1 rfl (Nat.le_of_ble_eq_true rfl) dX9_move_26 (fun H locs S => ?_)
      refine lv_istore C.1 C.2.1 dX9_move_29 hl (by decide) (lv' := [(4, .int (oI q5)), (0, .ref (G.1 0)), (1, .int (oI v1)), (2, .int (oI v2)), (3, .int (oI v3))]) rfl (fun ls hl => ?_)
      refine lv_aload_n C.1 C.2.1 dX9_move_31 rfl (lv_at hl 1 rfl) ?_
      refine g9_book C S tw_282 dX9_move_32 ?_
      refine lv_iload_n C.1 C.2.1 dX9_move_35 rfl (lv_at hl 2 rfl) ?_
      refine lv_iload_n C.1 C.2.1 dX9_move_36 rfl (lv_at hl 3 rfl) ?_
      refine lv_iload_n C.1 C.2.1 dX9_move_37 rfl (lv_at hl 4 rfl) ?_
      obtain ⟨q7, hc8, hf⟩ := bd_o hf
      refine r_callVv C S (rest := []) (ct_X0_apart l G τ hc8) mi_X0_apart tw_589 mv_X0_apart (rvX0 S) ⟨rfl, rfl⟩ ⟨Nat.le_of_ble_eq_true rfl, Nat.le_of_ble_eq_true rfl⟩ ⟨Nat.zero_le _, Nat.zero_le _⟩ rfl hl.1 rfl (Nat.le_of_ble_eq_true rfl) dX9_move_38 (fun H locs S => ?_)
      refine lv_istore C.1 C.2.1 dX9_move_41 hl (by decide) (lv' := [(5, .int (oI q7)), (4, .int (oI q5)), (0, .ref (G.1 0)), (1, .int (oI v1)), (2, .int (oI v2)), (3, .int (oI v3))]) rfl (fun ls hl => ?_)
      refine lv_aload_n C.1 C.2.1 dX9_move_43 rfl (lv_at hl 2 rfl) ?_
      refine lv_iload_n C.1 C.2.1 dX9_move_44 rfl (lv_at hl 3 rfl) ?_
      refine lv_iload C.1 C.2.1 dX9_move_45 (lv_at hl 1 rfl) ?_
      obtain ⟨q9, hc10, hf⟩ := bd_o hf
      refine r_callVn C S (rest := []) (ct_X9_leaveTreaties l G τ hc10) mi_X9_leaveTreaties tw_601 mv_X9_leaveTreaties (rvX9 S) ⟨rfl, rfl⟩ ⟨Nat.le_of_ble_eq_true rfl, Nat.le_of_ble_eq_true rfl⟩ ⟨Nat.zero_le _, Nat.zero_le _⟩ rfl hl.1 rfl (Nat.le_of_ble_eq_true rfl) dX9_move_47 (fun H locs S => ?_)
      refine lv_aload_n C.1 C.2.1 dX9_move_50 rfl (lv_at hl 2 rfl) ?_
      refine g9_book C S tw_282 dX9_move_51 ?_
      refine lv_iload_n C.1 C.2.1 dX9_move_54 rfl (lv_at hl 3 rfl) ?_
      refine lv_iload_n C.1 C.2.1 dX9_move_55 rfl (lv_at hl 4 rfl) ?_
      refine lv_iload_n C.1 C.2.1 dX9_move_56 rfl (lv_at hl 5 rfl) ?_
      obtain ⟨q11, hc12, hf⟩ := bd_o hf
      refine r_callVn C S (rest := []) (ct_X0_shift l G τ hc12) mi_X0_shift tw_609 mv_X0_shift (rvX0 S) ⟨rfl, rfl⟩ ⟨Nat.le_of_ble_eq_true rfl, Nat.le_of_ble_eq_true rfl⟩ ⟨Nat.zero_le _, Nat.zero_le _⟩ rfl hl.1 rfl (Nat.le_of_ble_eq_true rfl) dX9_move_57 (fun H locs S => ?_)
      refine lv_aload_n C.1 C.2.1 dX9_move_60 rfl (lv_at hl 2 rfl) ?_
      refine lv_iload_n C.1 C.2.1 dX9_move_61 rfl (lv_at hl 3 rfl) ?_
      refine lv_iload C.1 C.2.1 dX9_move_62 (lv_at hl 1 rfl) ?_
      obtain ⟨q13, hc14, hf⟩ := bd_o hf
      refine r_callVn C S (rest := []) (ct_X9_joinTreaties l G τ hc14) mi_X9_joinTreaties tw_563 mv_X9_joinTreaties (rvX9 S) ⟨rfl, rfl⟩ ⟨Nat.le_of_ble_eq_true rfl, Nat.le_of_ble_eq_true rfl⟩ ⟨Nat.zero_le _, Nat.zero_le _⟩ rfl hl.1 rfl (Nat.le_of_ble_eq_true rfl) dX9_move_64 (fun H locs S => ?_)
      refine lv_aload_n C.1 C.2.1 dX9_move_67 rfl (lv_at hl 2 rfl) ?_
      refine r_iconst C dX9_move_68 ?_
      refine lv_iload_n C.1 C.2.1 dX9_move_69 rfl (lv_at hl 3 rfl) ?_
      refine r_iconst C dX9_move_70 ?_
      refine lv_iload C.1 C.2.1 dX9_move_71 (lv_at hl 1 rfl) ?_
      obtain ⟨q15, hc16, hf⟩ := bd_o hf
      refine r_callVn C S (rest := []) (ct_X9_tell l G τ hc16) mi_X9_tell tw_573 mv_X9_tell (rvX9 S) ⟨rfl, rfl⟩ ⟨Nat.le_of_ble_eq_true rfl, Nat.le_of_ble_eq_true rfl⟩ ⟨Nat.zero_le _, Nat.zero_le _⟩ rfl hl.1 rfl (Nat.le_of_ble_eq_true rfl) dX9_move_73 (fun H locs S => ?_)
      refine lv_iload C.1 C.2.1 dX9_move_76 (lv_at hl 0 rfl) ?_
      cases hf
      exact hend _ _ _ _ S dX9_move_78
set_option maxRecDepth 100000 in
set_option maxHeartbeats 4000000 in
theorem ct_X0_sumOf (l : Launch) (G : Gd) (τ : Sg) {v1 : Int} {σ : Sg} {q : Int} (hf : f_X0_sumOf v1 σ = some q) : Ctr l yX0_sumOf cX0_sumOf 2 (some .int) (rmk 1 20) G true τ [.ref (G.1 6), .int (oI v1)] σ σ (some (.int (oI q))) := by
  unfold f_X0_sumOf at hf
  refine CtrI.of (own := RX0) (plainFor_of_name (by decide)) (Nat.le_of_ble_eq_true rfl) rfl (fun p e s m below meth c Q ls C hl S hend => ?_)
  have hl : lv_has ls 2 [(0, .ref (G.1 6)), (1, .int (oI v1))] := hl
  refine lv_iload_n C.1 C.2.1 dX0_sumOf_0 rfl (lv_at hl 1 rfl) ?_
  obtain ⟨q1, hc2, hf⟩ := bd_o hf
  refine r_callSNv C S (rest := []) (ct_X9_isNumber l G τ hc2) mi_X9_isNumber (nw_450 S.2.2.2) ms_X9_isNumber ⟨rfl, rfl⟩ ⟨Nat.le_of_ble_eq_true rfl, Nat.le_of_ble_eq_true rfl⟩ ⟨Nat.zero_le _, Nat.zero_le _⟩ rfl hl.1 rfl (Nat.le_of_ble_eq_true rfl) dX0_sumOf_1 (fun H locs S => ?_)
  refine r_if_eq C rfl (tgt := 16) dX0_sumOf_4 (by decide) (fun h4 => ?_) (fun h4 => ?_)
  · replace hf := if_t hf h4
    refine r_iconst C dX0_sumOf_16 ?_
    cases hf
    exact hend _ _ _ _ S dX0_sumOf_17
  · replace hf := if_f hf h4
    refine lv_aload_n C.1 C.2.1 dX0_sumOf_7 rfl (lv_at hl 0 rfl) ?_
    refine g0_sum C S tw_95 dX0_sumOf_8 ?_
    refine lv_iload_n C.1 C.2.1 dX0_sumOf_11 rfl (lv_at hl 1 rfl) ?_
    obtain ⟨hi3, hf⟩ := ck_o hf
    refine a_iald C S ar_9 hi3 dX0_sumOf_12 ?_
    refine lv_goto C.1 C.2.1 (tgt := 17) dX0_sumOf_13 (by decide) ?_
    cases hf
    exact hend _ _ _ _ S dX0_sumOf_17
set_option maxRecDepth 100000 in
set_option maxHeartbeats 4000000 in
theorem ct_X9_change (l : Launch) (G : Gd) (τ : Sg) {v1 : Int} {v2 : Int} {σ : Sg} {q : Int × Sg} (hf : f_X9_change v1 v2 σ = some q) : Ctr l yX9_change cX9_change 4 (some .int) (rmk 4 96) G true τ [.ref (G.1 0), .int (oI v1), .int (oI v2)] σ q.2 (some (.int (oI q.1))) := by
  unfold f_X9_change at hf
  refine CtrI.of (own := RX9) (plainFor_of_name (by decide)) (Nat.le_of_ble_eq_true rfl) rfl (fun p e s m below meth c Q ls C hl S hend => ?_)
  have hl : lv_has ls 4 [(0, .ref (G.1 0)), (1, .int (oI v1)), (2, .int (oI v2))] := hl
  refine lv_aload_n C.1 C.2.1 dX9_change_0 rfl (lv_at hl 0 rfl) ?_
  refine g9_book C S tw_282 dX9_change_1 ?_
  refine lv_iload_n C.1 C.2.1 dX9_change_4 rfl (lv_at hl 1 rfl) ?_
  obtain ⟨q1, hc2, hf⟩ := bd_o hf
  refine r_callVv C S (rest := []) (ct_X0_has l G τ hc2) mi_X0_has tw_581 mv_X0_has (rvX0 S) ⟨rfl, rfl⟩ ⟨Nat.le_of_ble_eq_true rfl, Nat.le_of_ble_eq_true rfl⟩ ⟨Nat.zero_le _, Nat.zero_le _⟩ rfl hl.1 rfl (Nat.le_of_ble_eq_true rfl) dX9_change_5 (fun H locs S => ?_)
  refine r_if_eq C rfl (tgt := 18) dX9_change_8 (by decide) (fun h14 => ?_) (fun h14 => ?_)
  · replace hf := if_t hf h14
    refine r_iconst C dX9_change_18 ?_
    cases hf
    exact hend _ _ _ _ S dX9_change_19
  · replace hf := if_f hf h14
    refine lv_iload_n C.1 C.2.1 dX9_change_11 rfl (lv_at hl 2 rfl) ?_
    obtain ⟨q3, hc4, hf⟩ := bd_o hf
    refine r_callSv C S (rest := []) (ct_X9_isSum l G τ hc4) mi_X9_isSum tw_552 ms_X9_isSum ⟨rfl, rfl⟩ ⟨Nat.le_of_ble_eq_true rfl, Nat.le_of_ble_eq_true rfl⟩ ⟨Nat.zero_le _, Nat.zero_le _⟩ rfl hl.1 rfl (Nat.le_of_ble_eq_true rfl) dX9_change_12 (fun H locs S => ?_)
    refine r_if_ne C rfl (tgt := 20) dX9_change_15 (by decide) (fun h13 => ?_) (fun h13 => ?_)
    · replace hf := if_t hf h13
      refine r_iconst C dX9_change_18 ?_
      cases hf
      exact hend _ _ _ _ S dX9_change_19
    · replace hf := if_f hf h13
      refine lv_aload_n C.1 C.2.1 dX9_change_20 rfl (lv_at hl 0 rfl) ?_
      refine g9_book C S tw_282 dX9_change_21 ?_
      refine lv_iload_n C.1 C.2.1 dX9_change_24 rfl (lv_at hl 1 rfl) ?_
      obtain ⟨q5, hc6, hf⟩ := bd_o hf
      refine r_callVv C S (rest := []) (ct_X0_sumOf l G τ hc6) mi_X0_sumOf tw_614 mv_X0_sumOf (rvX0 S) ⟨rfl, rfl⟩ ⟨Nat.le_of_ble_eq_true rfl, Nat.le_of_ble_eq_true rfl⟩ ⟨Nat.zero_le _, Nat.zero_le _⟩ rfl hl.1 rfl (Nat.le_of_ble_eq_true rfl) dX9_change_25 (fun H locs S => ?_)
      refine lv_istore_n C.1 C.2.1 dX9_change_28 rfl hl (by decide) (lv' := [(3, .int (oI q5)), (0, .ref (G.1 0)), (1, .int (oI v1)), (2, .int (oI v2))]) rfl (fun ls hl => ?_)
      refine lv_aload_n C.1 C.2.1 dX9_change_29 rfl (lv_at hl 1 rfl) ?_
      refine g9_book C S tw_282 dX9_change_30 ?_
      refine lv_iload_n C.1 C.2.1 dX9_change_33 rfl (lv_at hl 2 rfl) ?_
      refine lv_iload_n C.1 C.2.1 dX9_change_34 rfl (lv_at hl 3 rfl) ?_
      obtain ⟨q7, hc8, hf⟩ := bd_o hf
      refine r_callVn C S (rest := []) (ct_X0_weigh l G τ hc8) mi_X0_weigh tw_618 mv_X0_weigh (rvX0 S) ⟨rfl, rfl⟩ ⟨Nat.le_of_ble_eq_true rfl, Nat.le_of_ble_eq_true rfl⟩ ⟨Nat.zero_le _, Nat.zero_le _⟩ rfl hl.1 rfl (Nat.le_of_ble_eq_true rfl) dX9_change_35 (fun H locs S => ?_)
      refine lv_aload_n C.1 C.2.1 dX9_change_38 rfl (lv_at hl 1 rfl) ?_
      refine r_iconst C dX9_change_39 ?_
      refine lv_iload_n C.1 C.2.1 dX9_change_40 rfl (lv_at hl 2 rfl) ?_
      refine lv_iload_n C.1 C.2.1 dX9_change_41 rfl (lv_at hl 3 rfl) ?_
      refine lv_iload_n C.1 C.2.1 dX9_change_42 rfl (lv_at hl 0 rfl) ?_
      refine r_isub C dX9_change_43 ?_
      refine lv_aload_n C.1 C.2.1 dX9_change_44 rfl (lv_at hl 1 rfl) ?_
      refine g9_book C S tw_282 dX9_change_45 ?_
      refine lv_iload_n C.1 C.2.1 dX9_change_48 rfl (lv_at hl 2 rfl) ?_
      obtain ⟨q9, hc10, hf⟩ := bd_o hf
      refine r_callVv C S (rest := [.int (oI (v2 - q5)), .int (oI v1), .int (oI 2), .ref (G.1 0)]) (ct_X0_perilOf l G τ hc10) mi_X0_perilOf tw_585 mv_X0_perilOf (rvX0 S) ⟨rfl, rfl⟩ ⟨Nat.le_of_ble_eq_true rfl, Nat.le_of_ble_eq_true rfl⟩ ⟨Nat.zero_le _, Nat.zero_le _⟩ rfl hl.1 rfl (Nat.le_of_ble_eq_true rfl) dX9_change_49 (fun H locs S => ?_)
      obtain ⟨q11, hc12, hf⟩ := bd_o hf
      refine r_callVn C S (rest := []) (ct_X9_tell l G τ hc12) mi_X9_tell tw_573 mv_X9_tell (rvX9 S) ⟨rfl, rfl⟩ ⟨Nat.le_of_ble_eq_true rfl, Nat.le_of_ble_eq_true rfl⟩ ⟨Nat.zero_le _, Nat.zero_le _⟩ rfl hl.1 rfl (Nat.le_of_ble_eq_true rfl) dX9_change_52 (fun H locs S => ?_)
      refine lv_iload_n C.1 C.2.1 dX9_change_55 rfl (lv_at hl 0 rfl) ?_
      cases hf
      exact hend _ _ _ _ S dX9_change_56
set_option maxRecDepth 100000 in
set_option maxHeartbeats 4000000 in
theorem ct_X0_drop (l : Launch) (G : Gd) (τ : Sg) {v1 : Int} {σ : Sg} {q : Sg} (hf : f_X0_drop v1 σ = some q) : Ctr l yX0_drop cX0_drop 2 none (rmk 2 46) G true τ [.ref (G.1 6), .int (oI v1)] σ q none := by
  unfold f_X0_drop at hf
  refine CtrV.of (own := RX0) (plainFor_of_name (by decide)) (Nat.le_of_ble_eq_true rfl) rfl (fun p e s m below meth c Q ls C hl S hend => ?_)
  have hl : lv_has ls 2 [(0, .ref (G.1 6)), (1, .int (oI v1))] := hl
  refine lv_iload_n C.1 C.2.1 dX0_drop_0 rfl (lv_at hl 1 rfl) ?_
  obtain ⟨q1, hc2, hf⟩ := bd_o hf
  refine r_callSNv C S (rest := []) (ct_X9_isNumber l G τ hc2) mi_X9_isNumber (nw_450 S.2.2.2) ms_X9_isNumber ⟨rfl, rfl⟩ ⟨Nat.le_of_ble_eq_true rfl, Nat.le_of_ble_eq_true rfl⟩ ⟨Nat.zero_le _, Nat.zero_le _⟩ rfl hl.1 rfl (Nat.le_of_ble_eq_true rfl) dX0_drop_1 (fun H locs S => ?_)
  refine r_if_eq C rfl (tgt := 27) dX0_drop_4 (by decide) (fun h6 => ?_) (fun h6 => ?_)
  · replace hf := if_t hf h6
    cases hf
    exact hend _ _ _ _ S dX0_drop_27
  · replace hf := if_f hf h6
    refine lv_aload_n C.1 C.2.1 dX0_drop_7 rfl (lv_at hl 0 rfl) ?_
    refine lv_iload_n C.1 C.2.1 dX0_drop_8 rfl (lv_at hl 1 rfl) ?_
    refine r_iconst C dX0_drop_9 ?_
    obtain ⟨q3, hc4, hf⟩ := bd_o hf
    refine r_callVn C S (rest := []) (ct_X0_weigh l G τ hc4) mi_X0_weigh tw_457 mv_X0_weigh (rvX0 S) ⟨rfl, rfl⟩ ⟨Nat.le_of_ble_eq_true rfl, Nat.le_of_ble_eq_true rfl⟩ ⟨Nat.zero_le _, Nat.zero_le _⟩ rfl hl.1 rfl (Nat.le_of_ble_eq_true rfl) dX0_drop_10 (fun H locs S => ?_)
    refine lv_aload_n C.1 C.2.1 dX0_drop_13 rfl (lv_at hl 0 rfl) ?_
    refine lv_dup C.1 C.2.1 dX0_drop_14 rfl ?_
    refine g0_inForce C S tw_98 dX0_drop_15 ?_
    refine r_iconst C dX0_drop_18 ?_
    refine lv_iload_n C.1 C.2.1 dX0_drop_19 rfl (lv_at hl 1 rfl) ?_
    refine r_ishl C (y1 := (u32 v1 % 32)) rfl dX0_drop_20 ?_
    refine r_iconst C dX0_drop_21 ?_
    refine r_ixor C rfl (show u32 (-1) = 4294967295 by decide) dX0_drop_22 ?_
    refine r_iand C rfl (u32_nat (nb_xor (u32_lt _) (show 4294967295 < 4294967296 by decide))) dX0_drop_23 ?_
    refine p0_inForce C S tw_98 dX0_drop_24 (fun H locs S => ?_)
    obtain ⟨σ5, S, hf⟩ := wr_s S hf
    cases hf
    exact hend _ _ _ _ S dX0_drop_27
set_option maxRecDepth 100000 in
set_option maxHeartbeats 4000000 in
theorem ct_X9_lapse (l : Launch) (G : Gd) (τ : Sg) {v1 : Int} {σ : Sg} {q : Int × Sg} (hf : f_X9_lapse v1 σ = some q) : Ctr l yX9_lapse cX9_lapse 4 (some .int) (rmk 4 96) G true τ [.ref (G.1 0), .int (oI v1)] σ q.2 (some (.int (oI q.1))) := by
  unfold f_X9_lapse at hf
  refine CtrI.of (own := RX9) (plainFor_of_name (by decide)) (Nat.le_of_ble_eq_true rfl) rfl (fun p e s m below meth c Q ls C hl S hend => ?_)
  have hl : lv_has ls 4 [(0, .ref (G.1 0)), (1, .int (oI v1))] := hl
  refine lv_aload_n C.1 C.2.1 dX9_lapse_0 rfl (lv_at hl 0 rfl) ?_
  refine g9_book C S tw_282 dX9_lapse_1 ?_
  refine lv_iload_n C.1 C.2.1 dX9_lapse_4 rfl (lv_at hl 1 rfl) ?_
  obtain ⟨q1, hc2, hf⟩ := bd_o hf
  refine r_callVv C S (rest := []) (ct_X0_has l G τ hc2) mi_X0_has tw_581 mv_X0_has (rvX0 S) ⟨rfl, rfl⟩ ⟨Nat.le_of_ble_eq_true rfl, Nat.le_of_ble_eq_true rfl⟩ ⟨Nat.zero_le _, Nat.zero_le _⟩ rfl hl.1 rfl (Nat.le_of_ble_eq_true rfl) dX9_lapse_5 (fun H locs S => ?_)
  refine r_if_ne C rfl (tgt := 13) dX9_lapse_8 (by decide) (fun h13 => ?_) (fun h13 => ?_)
  · replace hf := if_t hf h13
    refine r_iconst C dX9_lapse_11 ?_
    cases hf
    exact hend _ _ _ _ S dX9_lapse_12
  · replace hf := if_f hf h13
    refine lv_aload_n C.1 C.2.1 dX9_lapse_13 rfl (lv_at hl 0 rfl) ?_
    refine g9_book C S tw_282 dX9_lapse_14 ?_
    refine lv_iload_n C.1 C.2.1 dX9_lapse_17 rfl (lv_at hl 1 rfl) ?_
    obtain ⟨q3, hc4, hf⟩ := bd_o hf
    refine r_callVv C S (rest := []) (ct_X0_sumOf l G τ hc4) mi_X0_sumOf tw_614 mv_X0_sumOf (rvX0 S) ⟨rfl, rfl⟩ ⟨Nat.le_of_ble_eq_true rfl, Nat.le_of_ble_eq_true rfl⟩ ⟨Nat.zero_le _, Nat.zero_le _⟩ rfl hl.1 rfl (Nat.le_of_ble_eq_true rfl) dX9_lapse_18 (fun H locs S => ?_)
    refine lv_istore_n C.1 C.2.1 dX9_lapse_21 rfl hl (by decide) (lv' := [(2, .int (oI q3)), (0, .ref (G.1 0)), (1, .int (oI v1))]) rfl (fun ls hl => ?_)
    refine lv_aload_n C.1 C.2.1 dX9_lapse_22 rfl (lv_at hl 1 rfl) ?_
    refine g9_book C S tw_282 dX9_lapse_23 ?_
    refine lv_iload_n C.1 C.2.1 dX9_lapse_26 rfl (lv_at hl 2 rfl) ?_
    obtain ⟨q5, hc6, hf⟩ := bd_o hf
    refine r_callVv C S (rest := []) (ct_X0_perilOf l G τ hc6) mi_X0_perilOf tw_585 mv_X0_perilOf (rvX0 S) ⟨rfl, rfl⟩ ⟨Nat.le_of_ble_eq_true rfl, Nat.le_of_ble_eq_true rfl⟩ ⟨Nat.zero_le _, Nat.zero_le _⟩ rfl hl.1 rfl (Nat.le_of_ble_eq_true rfl) dX9_lapse_27 (fun H locs S => ?_)
    refine lv_istore_n C.1 C.2.1 dX9_lapse_30 rfl hl (by decide) (lv' := [(3, .int (oI q5)), (2, .int (oI q3)), (0, .ref (G.1 0)), (1, .int (oI v1))]) rfl (fun ls hl => ?_)
    refine lv_aload_n C.1 C.2.1 dX9_lapse_31 rfl (lv_at hl 2 rfl) ?_
    refine lv_iload_n C.1 C.2.1 dX9_lapse_32 rfl (lv_at hl 3 rfl) ?_
    refine lv_iload_n C.1 C.2.1 dX9_lapse_33 rfl (lv_at hl 0 rfl) ?_
    obtain ⟨q7, hc8, hf⟩ := bd_o hf
    refine r_callVn C S (rest := []) (ct_X9_leaveTreaties l G τ hc8) mi_X9_leaveTreaties tw_601 mv_X9_leaveTreaties (rvX9 S) ⟨rfl, rfl⟩ ⟨Nat.le_of_ble_eq_true rfl, Nat.le_of_ble_eq_true rfl⟩ ⟨Nat.zero_le _, Nat.zero_le _⟩ rfl hl.1 rfl (Nat.le_of_ble_eq_true rfl) dX9_lapse_34 (fun H locs S => ?_)
    refine lv_aload_n C.1 C.2.1 dX9_lapse_37 rfl (lv_at hl 2 rfl) ?_
    refine g9_book C S tw_282 dX9_lapse_38 ?_
    refine lv_iload_n C.1 C.2.1 dX9_lapse_41 rfl (lv_at hl 3 rfl) ?_
    obtain ⟨q9, hc10, hf⟩ := bd_o hf
    refine r_callVn C S (rest := []) (ct_X0_drop l G τ hc10) mi_X0_drop tw_623 mv_X0_drop (rvX0 S) ⟨rfl, rfl⟩ ⟨Nat.le_of_ble_eq_true rfl, Nat.le_of_ble_eq_true rfl⟩ ⟨Nat.zero_le _, Nat.zero_le _⟩ rfl hl.1 rfl (Nat.le_of_ble_eq_true rfl) dX9_lapse_42 (fun H locs S => ?_)
    refine lv_aload_n C.1 C.2.1 dX9_lapse_45 rfl (lv_at hl 2 rfl) ?_
    refine r_iconst C dX9_lapse_46 ?_
    refine lv_iload_n C.1 C.2.1 dX9_lapse_47 rfl (lv_at hl 3 rfl) ?_
    refine lv_iload_n C.1 C.2.1 dX9_lapse_48 rfl (lv_at hl 1 rfl) ?_
    refine r_ineg C dX9_lapse_49 ?_
    refine lv_iload_n C.1 C.2.1 dX9_lapse_50 rfl (lv_at hl 0 rfl) ?_
    obtain ⟨q11, hc12, hf⟩ := bd_o hf
    refine r_callVn C S (rest := []) (ct_X9_tell l G τ hc12) mi_X9_tell tw_573 mv_X9_tell (rvX9 S) ⟨rfl, rfl⟩ ⟨Nat.le_of_ble_eq_true rfl, Nat.le_of_ble_eq_true rfl⟩ ⟨Nat.zero_le _, Nat.zero_le _⟩ rfl hl.1 rfl (Nat.le_of_ble_eq_true rfl) dX9_lapse_51 (fun H locs S => ?_)
    refine lv_iload_n C.1 C.2.1 dX9_lapse_54 rfl (lv_at hl 1 rfl) ?_
    cases hf
    exact hend _ _ _ _ S dX9_lapse_55
set_option maxRecDepth 100000 in
set_option maxHeartbeats 4000000 in
theorem ct_X9_arePerils (l : Launch) (G : Gd) (τ : Sg) {v0 : Int} {σ : Sg} {q : Int} (hf : f_X9_arePerils v0 σ = some q) : Ctr l yX9_arePerils cX9_arePerils 1 (some .boolean) (rmk 0 0) G true τ [.int (oI v0)] σ σ (some (.int (oI q))) := by
  unfold f_X9_arePerils at hf
  refine CtrZ.of (own := RX9) (plainFor_of_name (by decide)) (Nat.le_of_ble_eq_true rfl) rfl (fun p e s m below meth c Q ls C hl S hend => ?_)
  have hl : lv_has ls 1 [(0, .int (oI v0))] := hl
  refine lv_iload_n C.1 C.2.1 dX9_arePerils_0 rfl (lv_at hl 0 rfl) ?_
  refine r_iconst C dX9_arePerils_1 ?_
  refine r_icmp_lt C rfl (show w32 1 = 1 by decide) (tgt := 15) dX9_arePerils_2 (by decide) (fun h2 => ?_) (fun h2 => ?_)
  · replace hf := if_t hf h2
    refine r_iconst C dX9_arePerils_15 ?_
    cases hf
    exact hend (Or.inl rfl) _ _ _ _ S dX9_arePerils_16
  · replace hf := if_f hf h2
    refine lv_iload_n C.1 C.2.1 dX9_arePerils_5 rfl (lv_at hl 0 rfl) ?_
    refine r_bipush C dX9_arePerils_6 (by decide) ?_
    refine r_icmp_gt C rfl (show w32 15 = 15 by decide) (tgt := 15) dX9_arePerils_8 (by decide) (fun h1 => ?_) (fun h1 => ?_)
    · replace hf := if_t hf h1
      refine r_iconst C dX9_arePerils_11 ?_
      refine lv_goto C.1 C.2.1 (tgt := 16) dX9_arePerils_12 (by decide) ?_
      cases hf
      exact hend (Or.inr rfl) _ _ _ _ S dX9_arePerils_16
    · replace hf := if_f hf h1
      refine r_iconst C dX9_arePerils_15 ?_
      cases hf
      exact hend (Or.inl rfl) _ _ _ _ S dX9_arePerils_16
set_option maxRecDepth 100000 in
set_option maxHeartbeats 4000000 in
theorem ct_X9_isRadius (l : Launch) (G : Gd) (τ : Sg) {v0 : Int} {σ : Sg} {q : Int} (hf : f_X9_isRadius v0 σ = some q) : Ctr l yX9_isRadius cX9_isRadius 1 (some .boolean) (rmk 0 0) G true τ [.int (oI v0)] σ σ (some (.int (oI q))) := by
  unfold f_X9_isRadius at hf
  refine CtrZ.of (own := RX9) (plainFor_of_name (by decide)) (Nat.le_of_ble_eq_true rfl) rfl (fun p e s m below meth c Q ls C hl S hend => ?_)
  have hl : lv_has ls 1 [(0, .int (oI v0))] := hl
  refine lv_iload_n C.1 C.2.1 dX9_isRadius_0 rfl (lv_at hl 0 rfl) ?_
  refine r_iconst C dX9_isRadius_1 ?_
  refine r_icmp_lt C rfl (show w32 1 = 1 by decide) (tgt := 16) dX9_isRadius_2 (by decide) (fun h2 => ?_) (fun h2 => ?_)
  · replace hf := if_t hf h2
    refine r_iconst C dX9_isRadius_16 ?_
    cases hf
    exact hend (Or.inl rfl) _ _ _ _ S dX9_isRadius_17
  · replace hf := if_f hf h2
    refine lv_iload_n C.1 C.2.1 dX9_isRadius_5 rfl (lv_at hl 0 rfl) ?_
    refine r_sipush C dX9_isRadius_6 (by decide) ?_
    refine r_icmp_gt C rfl (show w32 300 = 300 by decide) (tgt := 16) dX9_isRadius_9 (by decide) (fun h1 => ?_) (fun h1 => ?_)
    · replace hf := if_t hf h1
      refine r_iconst C dX9_isRadius_12 ?_
      refine lv_goto C.1 C.2.1 (tgt := 17) dX9_isRadius_13 (by decide) ?_
      cases hf
      exact hend (Or.inr rfl) _ _ _ _ S dX9_isRadius_17
    · replace hf := if_f hf h1
      refine r_iconst C dX9_isRadius_16 ?_
      cases hf
      exact hend (Or.inl rfl) _ _ _ _ S dX9_isRadius_17
set_option maxRecDepth 100000 in
set_option maxHeartbeats 4000000 in
theorem ct_X9_treaty (l : Launch) (G : Gd) (τ : Sg) {v1 : Int} {v2 : Int} {v3 : Int} {σ : Sg} {q : Int × Sg} (hf : f_X9_treaty v1 v2 v3 σ = some q) : Ctr l yX9_treaty cX9_treaty 4 (some .int) (rmk 6 159) G true τ [.ref (G.1 0), .int (oI v1), .int (oI v2), .int (oI v3)] σ q.2 (some (.int (oI q.1))) := by
  unfold f_X9_treaty at hf
  refine CtrI.of (own := RX9) (plainFor_of_name (by decide)) (Nat.le_of_ble_eq_true rfl) rfl (fun p e s m below meth c Q ls C hl S hend => ?_)
  have hl : lv_has ls 4 [(0, .ref (G.1 0)), (1, .int (oI v1)), (2, .int (oI v2)), (3, .int (oI v3))] := hl
  refine lv_iload_n C.1 C.2.1 dX9_treaty_0 rfl (lv_at hl 1 rfl) ?_
  obtain ⟨q1, hc2, hf⟩ := bd_o hf
  refine r_callSv C S (rest := []) (ct_X9_arePerils l G τ hc2) mi_X9_arePerils tw_631 ms_X9_arePerils ⟨rfl, rfl⟩ ⟨Nat.le_of_ble_eq_true rfl, Nat.le_of_ble_eq_true rfl⟩ ⟨Nat.zero_le _, Nat.zero_le _⟩ rfl hl.1 rfl (Nat.le_of_ble_eq_true rfl) dX9_treaty_1 (fun H locs S => ?_)
  refine r_if_eq C rfl (tgt := 25) dX9_treaty_4 (by decide) (fun h10 => ?_) (fun h10 => ?_)
  · replace hf := if_t hf h10
    refine r_iconst C dX9_treaty_25 ?_
    cases hf
    exact hend _ _ _ _ S dX9_treaty_26
  · replace hf := if_f hf h10
    refine lv_iload_n C.1 C.2.1 dX9_treaty_7 rfl (lv_at hl 2 rfl) ?_
    obtain ⟨q3, hc4, hf⟩ := bd_o hf
    refine r_callSv C S (rest := []) (ct_X9_isRadius l G τ hc4) mi_X9_isRadius tw_634 ms_X9_isRadius ⟨rfl, rfl⟩ ⟨Nat.le_of_ble_eq_true rfl, Nat.le_of_ble_eq_true rfl⟩ ⟨Nat.zero_le _, Nat.zero_le _⟩ rfl hl.1 rfl (Nat.le_of_ble_eq_true rfl) dX9_treaty_8 (fun H locs S => ?_)
    refine r_if_eq C rfl (tgt := 25) dX9_treaty_11 (by decide) (fun h9 => ?_) (fun h9 => ?_)
    · replace hf := if_t hf h9
      refine r_iconst C dX9_treaty_25 ?_
      cases hf
      exact hend _ _ _ _ S dX9_treaty_26
    · replace hf := if_f hf h9
      refine lv_iload_n C.1 C.2.1 dX9_treaty_14 rfl (lv_at hl 3 rfl) ?_
      refine r_iconst C dX9_treaty_15 ?_
      refine r_icmp_lt C rfl (show w32 1 = 1 by decide) (tgt := 25) dX9_treaty_16 (by decide) (fun h8 => ?_) (fun h8 => ?_)
      · replace hf := if_t hf h8
        refine r_iconst C dX9_treaty_25 ?_
        cases hf
        exact hend _ _ _ _ S dX9_treaty_26
      · replace hf := if_f hf h8
        refine lv_iload_n C.1 C.2.1 dX9_treaty_19 rfl (lv_at hl 3 rfl) ?_
        refine r_ldc C tw_637 dX9_treaty_20 ?_
        refine r_icmp_le C rfl (show w32 9999999 = 9999999 by decide) (tgt := 27) dX9_treaty_22 (by decide) (fun h7 => ?_) (fun h7 => ?_)
        · replace hf := if_t hf h7
          refine lv_aload_n C.1 C.2.1 dX9_treaty_27 rfl (lv_at hl 0 rfl) ?_
          refine lv_iload_n C.1 C.2.1 dX9_treaty_28 rfl (lv_at hl 1 rfl) ?_
          refine lv_iload_n C.1 C.2.1 dX9_treaty_29 rfl (lv_at hl 2 rfl) ?_
          refine lv_iload_n C.1 C.2.1 dX9_treaty_30 rfl (lv_at hl 3 rfl) ?_
          obtain ⟨q5, hc6, hf⟩ := bd_o hf
          refine r_callVv C S (rest := []) (ct_X9_openTreaty l G τ hc6) mi_X9_openTreaty tw_468 mv_X9_openTreaty (rvX9 S) ⟨rfl, rfl⟩ ⟨Nat.le_of_ble_eq_true rfl, Nat.le_of_ble_eq_true rfl⟩ ⟨Nat.zero_le _, Nat.zero_le _⟩ rfl hl.1 rfl (Nat.le_of_ble_eq_true rfl) dX9_treaty_31 (fun H locs S => ?_)
          cases hf
          exact hend _ _ _ _ S dX9_treaty_34
        · replace hf := if_f hf h7
          refine r_iconst C dX9_treaty_25 ?_
          cases hf
          exact hend _ _ _ _ S dX9_treaty_26
set_option maxRecDepth 100000 in
set_option maxHeartbeats 4000000 in
theorem ct_X9_limit (l : Launch) (G : Gd) (τ : Sg) {v1 : Int} {v2 : Int} {σ : Sg} {q : Int × Sg} (hf : f_X9_limit v1 v2 σ = some q) : Ctr l yX9_limit cX9_limit 5 (some .int) (rmk 2 46) G true τ [.ref (G.1 0), .int (oI v1), .int (oI v2)] σ q.2 (some (.int (oI q.1))) := by
  unfold f_X9_limit at hf
  refine CtrI.of (own := RX9) (plainFor_of_name (by decide)) (Nat.le_of_ble_eq_true rfl) rfl (fun p e s m below meth c Q ls C hl S hend => ?_)
  have hl : lv_has ls 5 [(0, .ref (G.1 0)), (1, .int (oI v1)), (2, .int (oI v2))] := hl
  refine lv_aload_n C.1 C.2.1 dX9_limit_0 rfl (lv_at hl 0 rfl) ?_
  refine lv_iload_n C.1 C.2.1 dX9_limit_1 rfl (lv_at hl 1 rfl) ?_
  obtain ⟨q1, hc2, hf⟩ := bd_o hf
  refine r_callVv C S (rest := []) (ct_X9_treatyAt l G τ hc2) mi_X9_treatyAt tw_528 mv_X9_treatyAt (rvX9 S) ⟨rfl, rfl⟩ ⟨Nat.le_of_ble_eq_true rfl, Nat.le_of_ble_eq_true rfl⟩ ⟨Nat.zero_le _, Nat.zero_le _⟩ rfl hl.1 rfl (Nat.le_of_ble_eq_true rfl) dX9_limit_2 (fun H locs S => ?_)
  rcases q1 with _ | t3
  · replace hf := oT_n hf
    refine lv_astore_nN C.1 C.2.1 dX9_limit_5 rfl hl (by decide) (lv' := [(3, .null), (0, .ref (G.1 0)), (1, .int (oI v1)), (2, .int (oI v2))]) rfl (fun ls hl => ?_)
    refine lv_aload_nN C.1 C.2.1 dX9_limit_6 rfl (lv_at hl 0 rfl) ?_
    refine lv_ifnullN C.1 C.2.1 (tgt := 21) dX9_limit_7 (by decide) ?_
    refine r_iconst C dX9_limit_21 ?_
    cases hf
    exact hend _ _ _ _ S dX9_limit_22
  · obtain ⟨ht3, hf⟩ := oT_s hf
    refine lv_astore_n C.1 C.2.1 dX9_limit_5 rfl hl (by decide) (lv' := [(3, .ref (G.1 (21 + t3))), (0, .ref (G.1 0)), (1, .int (oI v1)), (2, .int (oI v2))]) rfl (fun ls hl => ?_)
    refine lv_aload_n C.1 C.2.1 dX9_limit_6 rfl (lv_at hl 0 rfl) ?_
    refine lv_ifnull C.1 C.2.1 dX9_limit_7 ?_
    refine lv_iload_n C.1 C.2.1 dX9_limit_10 rfl (lv_at hl 3 rfl) ?_
    refine r_iconst C dX9_limit_11 ?_
    refine r_icmp_lt C rfl (show w32 1 = 1 by decide) (tgt := 21) dX9_limit_12 (by decide) (fun h8 => ?_) (fun h8 => ?_)
    · replace hf := if_t hf h8
      refine r_iconst C dX9_limit_21 ?_
      cases hf
      exact hend _ _ _ _ S dX9_limit_22
    · replace hf := if_f hf h8
      refine lv_iload_n C.1 C.2.1 dX9_limit_15 rfl (lv_at hl 3 rfl) ?_
      refine r_ldc C tw_637 dX9_limit_16 ?_
      refine r_icmp_le C rfl (show w32 9999999 = 9999999 by decide) (tgt := 23) dX9_limit_18 (by decide) (fun h7 => ?_) (fun h7 => ?_)
      · replace hf := if_t hf h7
        refine lv_aload_n C.1 C.2.1 dX9_limit_23 rfl (lv_at hl 0 rfl) ?_
        refine g8_limit C (d := t3) S (by omega) tw_155 dX9_limit_24 ?_
        refine lv_istore C.1 C.2.1 dX9_limit_27 hl (by decide) (lv' := [(4, .int (oI (σ (21 + t3) 4))), (3, .ref (G.1 (21 + t3))), (0, .ref (G.1 0)), (1, .int (oI v1)), (2, .int (oI v2))]) rfl (fun ls hl => ?_)
        refine lv_aload_n C.1 C.2.1 dX9_limit_29 rfl (lv_at hl 1 rfl) ?_
        refine lv_iload_n C.1 C.2.1 dX9_limit_30 rfl (lv_at hl 4 rfl) ?_
        refine p8_limit C (d := t3) S (by omega) tw_155 dX9_limit_31 (fun H locs S => ?_)
        obtain ⟨σ4, S, hf⟩ := wr_s S hf
        refine lv_aload_n C.1 C.2.1 dX9_limit_34 rfl (lv_at hl 2 rfl) ?_
        refine lv_iload_n C.1 C.2.1 dX9_limit_35 rfl (lv_at hl 3 rfl) ?_
        obtain ⟨q5, hc6, hf⟩ := bd_o hf
        refine r_callVn C S (rest := []) (ct_X9_lookAt l G τ hc6) mi_X9_lookAt tw_524 mv_X9_lookAt (rvX9 S) ⟨rfl, rfl⟩ ⟨Nat.le_of_ble_eq_true rfl, Nat.le_of_ble_eq_true rfl⟩ ⟨Nat.zero_le _, Nat.zero_le _⟩ rfl hl.1 rfl (Nat.le_of_ble_eq_true rfl) dX9_limit_36 (fun H locs S => ?_)
        refine lv_iload C.1 C.2.1 dX9_limit_39 (lv_at hl 0 rfl) ?_
        cases hf
        exact hend _ _ _ _ S dX9_limit_41
      · replace hf := if_f hf h7
        refine r_iconst C dX9_limit_21 ?_
        cases hf
        exact hend _ _ _ _ S dX9_limit_22
set_option maxRecDepth 100000 in
set_option maxHeartbeats 4000000 in
theorem ct_J6_bitCount_0f7a4 (l : Launch) (G : Gd) (τ : Sg) {v0 : Int} {σ : Sg} {q : Int} (hf : f_J6_bitCount_0f7a4 v0 σ = some q) : Ctr l yJ6_bitCount_0f7a4 cJ6_bitCount_0f7a4 1 (some .int) (rmk 0 0) G true τ [.int (oI v0)] σ σ (some (.int (oI q))) := by
  unfold f_J6_bitCount_0f7a4 at hf
  refine CtrI.of (own := RJ6) (plainFor_of_name (by decide)) (Nat.le_of_ble_eq_true rfl) rfl (fun p e s m below meth c Q ls C hl S hend => ?_)
  have hl : lv_has ls 1 [(0, .int (oI v0))] := hl
  refine lv_iload_n C.1 C.2.1 dJ6_bitCount_0f7a4_0 rfl (lv_at hl 0 rfl) ?_
  refine lv_iload_n C.1 C.2.1 dJ6_bitCount_0f7a4_1 rfl (lv_at hl 0 rfl) ?_
  refine r_iconst C dJ6_bitCount_0f7a4_2 ?_
  refine r_iushr C (y1 := 1) rfl (by decide) dJ6_bitCount_0f7a4_3 ?_
  refine r_ldcw C tw_649 dJ6_bitCount_0f7a4_4 ?_
  refine r_iand C (u32_nat (nb_shr (u32_lt _))) (show u32 1431655765 = 1431655765 by decide) dJ6_bitCount_0f7a4_7 ?_
  refine r_isub C dJ6_bitCount_0f7a4_8 ?_
  refine lv_istore_n C.1 C.2.1 dJ6_bitCount_0f7a4_9 rfl hl (by decide) (lv' := [(0, .int (oI (v0 - (((((u32 v0) >>> 1) &&& 1431655765 : Nat) : Int)))))]) rfl (fun ls hl => ?_)
  refine lv_iload_n C.1 C.2.1 dJ6_bitCount_0f7a4_10 rfl (lv_at hl 0 rfl) ?_
  refine r_ldcw C tw_650 dJ6_bitCount_0f7a4_11 ?_
  refine r_iand C rfl (show u32 858993459 = 858993459 by decide) dJ6_bitCount_0f7a4_14 ?_
  refine lv_iload_n C.1 C.2.1 dJ6_bitCount_0f7a4_15 rfl (lv_at hl 0 rfl) ?_
  refine r_iconst C dJ6_bitCount_0f7a4_16 ?_
  refine r_iushr C (y1 := 2) rfl (by decide) dJ6_bitCount_0f7a4_17 ?_
  refine r_ldcw C tw_650 dJ6_bitCount_0f7a4_18 ?_
  refine r_iand C (u32_nat (nb_shr (u32_lt _))) (show u32 858993459 = 858993459 by decide) dJ6_bitCount_0f7a4_21 ?_
  refine r_iadd C dJ6_bitCount_0f7a4_22 ?_
  refine lv_istore_n C.1 C.2.1 dJ6_bitCount_0f7a4_23 rfl hl (by decide) (lv' := [(0, .int (oI (((((u32 (v0 - (((((u32 v0) >>> 1) &&& 1431655765 : Nat) : Int)))) &&& 858993459 : Nat) : Int)) + (((((u32 (v0 - (((((u32 v0) >>> 1) &&& 1431655765 : Nat) : Int)))) >>> 2) &&& 858993459 : Nat) : Int)))))]) rfl (fun ls hl => ?_)
  refine lv_iload_n C.1 C.2.1 dJ6_bitCount_0f7a4_24 rfl (lv_at hl 0 rfl) ?_
  refine lv_iload_n C.1 C.2.1 dJ6_bitCount_0f7a4_25 rfl (lv_at hl 0 rfl) ?_
  refine r_iconst C dJ6_bitCount_0f7a4_26 ?_
  refine r_iushr C (y1 := 4) rfl (by decide) dJ6_bitCount_0f7a4_27 ?_
  refine r_iadd C dJ6_bitCount_0f7a4_28 ?_
  refine r_ldcw C tw_651 dJ6_bitCount_0f7a4_29 ?_
  refine r_iand C rfl (show u32 252645135 = 252645135 by decide) dJ6_bitCount_0f7a4_32 ?_
  refine lv_istore_n C.1 C.2.1 dJ6_bitCount_0f7a4_33 rfl hl (by decide) (lv' := [(0, .int (oI ((((u32 ((((((u32 (v0 - (((((u32 v0) >>> 1) &&& 1431655765 : Nat) : Int)))) &&& 858993459 : Nat) : Int)) + (((((u32 (v0 - (((((u32 v0) >>> 1) &&& 1431655765 : Nat) : Int)))) >>> 2) &&& 858993459 : Nat) : Int))) + ((((u32 (((((u32 (v0 - (((((u32 v0) >>> 1) &&& 1431655765 : Nat) : Int)))) &&& 858993459 : Nat) : Int)) + (((((u32 (v0 - (((((u32 v0) >>> 1) &&& 1431655765 : Nat) : Int)))) >>> 2) &&& 858993459 : Nat) : Int)))) >>> 4 : Nat) : Int)))) &&& 252645135 : Nat) : Int))))]) rfl (fun ls hl => ?_)
  refine lv_iload_n C.1 C.2.1 dJ6_bitCount_0f7a4_34 rfl (lv_at hl 0 rfl) ?_
  refine lv_iload_n C.1 C.2.1 dJ6_bitCount_0f7a4_35 rfl (lv_at hl 0 rfl) ?_
  refine r_bipush C dJ6_bitCount_0f7a4_36 (by decide) ?_
  refine r_iushr C (y1 := 8) (u32_nat (nb_and (u32_lt _))) (by decide) dJ6_bitCount_0f7a4_38 ?_
  refine r_iadd C dJ6_bitCount_0f7a4_39 ?_
  refine lv_istore_n C.1 C.2.1 dJ6_bitCount_0f7a4_40 rfl hl (by decide) (lv' := [(0, .int (oI (((((u32 ((((((u32 (v0 - (((((u32 v0) >>> 1) &&& 1431655765 : Nat) : Int)))) &&& 858993459 : Nat) : Int)) + (((((u32 (v0 - (((((u32 v0) >>> 1) &&& 1431655765 : Nat) : Int)))) >>> 2) &&& 858993459 : Nat) : Int))) + ((((u32 (((((u32 (v0 - (((((u32 v0) >>> 1) &&& 1431655765 : Nat) : Int)))) &&& 858993459 : Nat) : Int)) + (((((u32 (v0 - (((((u32 v0) >>> 1) &&& 1431655765 : Nat) : Int)))) >>> 2) &&& 858993459 : Nat) : Int)))) >>> 4 : Nat) : Int)))) &&& 252645135 : Nat) : Int)) + (((((u32 ((((((u32 (v0 - (((((u32 v0) >>> 1) &&& 1431655765 : Nat) : Int)))) &&& 858993459 : Nat) : Int)) + (((((u32 (v0 - (((((u32 v0) >>> 1) &&& 1431655765 : Nat) : Int)))) >>> 2) &&& 858993459 : Nat) : Int))) + ((((u32 (((((u32 (v0 - (((((u32 v0) >>> 1) &&& 1431655765 : Nat) : Int)))) &&& 858993459 : Nat) : Int)) + (((((u32 (v0 - (((((u32 v0) >>> 1) &&& 1431655765 : Nat) : Int)))) >>> 2) &&& 858993459 : Nat) : Int)))) >>> 4 : Nat) : Int)))) &&& 252645135) >>> 8 : Nat) : Int)))))]) rfl (fun ls hl => ?_)
  refine lv_iload_n C.1 C.2.1 dJ6_bitCount_0f7a4_41 rfl (lv_at hl 0 rfl) ?_
  refine lv_iload_n C.1 C.2.1 dJ6_bitCount_0f7a4_42 rfl (lv_at hl 0 rfl) ?_
  refine r_bipush C dJ6_bitCount_0f7a4_43 (by decide) ?_
  refine r_iushr C (y1 := 16) rfl (by decide) dJ6_bitCount_0f7a4_45 ?_
  refine r_iadd C dJ6_bitCount_0f7a4_46 ?_
  refine lv_istore_n C.1 C.2.1 dJ6_bitCount_0f7a4_47 rfl hl (by decide) (lv' := [(0, .int (oI ((((((u32 ((((((u32 (v0 - (((((u32 v0) >>> 1) &&& 1431655765 : Nat) : Int)))) &&& 858993459 : Nat) : Int)) + (((((u32 (v0 - (((((u32 v0) >>> 1) &&& 1431655765 : Nat) : Int)))) >>> 2) &&& 858993459 : Nat) : Int))) + ((((u32 (((((u32 (v0 - (((((u32 v0) >>> 1) &&& 1431655765 : Nat) : Int)))) &&& 858993459 : Nat) : Int)) + (((((u32 (v0 - (((((u32 v0) >>> 1) &&& 1431655765 : Nat) : Int)))) >>> 2) &&& 858993459 : Nat) : Int)))) >>> 4 : Nat) : Int)))) &&& 252645135 : Nat) : Int)) + (((((u32 ((((((u32 (v0 - (((((u32 v0) >>> 1) &&& 1431655765 : Nat) : Int)))) &&& 858993459 : Nat) : Int)) + (((((u32 (v0 - (((((u32 v0) >>> 1) &&& 1431655765 : Nat) : Int)))) >>> 2) &&& 858993459 : Nat) : Int))) + ((((u32 (((((u32 (v0 - (((((u32 v0) >>> 1) &&& 1431655765 : Nat) : Int)))) &&& 858993459 : Nat) : Int)) + (((((u32 (v0 - (((((u32 v0) >>> 1) &&& 1431655765 : Nat) : Int)))) >>> 2) &&& 858993459 : Nat) : Int)))) >>> 4 : Nat) : Int)))) &&& 252645135) >>> 8 : Nat) : Int))) + ((((u32 (((((u32 ((((((u32 (v0 - (((((u32 v0) >>> 1) &&& 1431655765 : Nat) : Int)))) &&& 858993459 : Nat) : Int)) + (((((u32 (v0 - (((((u32 v0) >>> 1) &&& 1431655765 : Nat) : Int)))) >>> 2) &&& 858993459 : Nat) : Int))) + ((((u32 (((((u32 (v0 - (((((u32 v0) >>> 1) &&& 1431655765 : Nat) : Int)))) &&& 858993459 : Nat) : Int)) + (((((u32 (v0 - (((((u32 v0) >>> 1) &&& 1431655765 : Nat) : Int)))) >>> 2) &&& 858993459 : Nat) : Int)))) >>> 4 : Nat) : Int)))) &&& 252645135 : Nat) : Int)) + (((((u32 ((((((u32 (v0 - (((((u32 v0) >>> 1) &&& 1431655765 : Nat) : Int)))) &&& 858993459 : Nat) : Int)) + (((((u32 (v0 - (((((u32 v0) >>> 1) &&& 1431655765 : Nat) : Int)))) >>> 2) &&& 858993459 : Nat) : Int))) + ((((u32 (((((u32 (v0 - (((((u32 v0) >>> 1) &&& 1431655765 : Nat) : Int)))) &&& 858993459 : Nat) : Int)) + (((((u32 (v0 - (((((u32 v0) >>> 1) &&& 1431655765 : Nat) : Int)))) >>> 2) &&& 858993459 : Nat) : Int)))) >>> 4 : Nat) : Int)))) &&& 252645135) >>> 8 : Nat) : Int)))) >>> 16 : Nat) : Int)))))]) rfl (fun ls hl => ?_)
  refine lv_iload_n C.1 C.2.1 dJ6_bitCount_0f7a4_48 rfl (lv_at hl 0 rfl) ?_
  refine r_bipush C dJ6_bitCount_0f7a4_49 (by decide) ?_
  refine r_iand C rfl (show u32 63 = 63 by decide) dJ6_bitCount_0f7a4_51 ?_
  cases hf
  exact hend _ _ _ _ S dJ6_bitCount_0f7a4_52
set_option maxRecDepth 100000 in
set_option maxHeartbeats 4000000 in
theorem ct_X9_its (l : Launch) (G : Gd) (τ : Sg) {v1 : Int} {v2 : Int} {σ : Sg} {q : Int} (hf : f_X9_its v1 v2 σ = some q) : Ctr l yX9_its cX9_its 4 (some .int) (rmk 1 24) G true τ [.ref (G.1 0), .int (oI v1), .int (oI v2)] σ σ (some (.int (oI q))) := by
  unfold f_X9_its at hf
  refine CtrI.of (own := RX9) (plainFor_of_name (by decide)) (Nat.le_of_ble_eq_true rfl) rfl (fun p e s m below meth c Q ls C hl S hend => ?_)
  have hl : lv_has ls 4 [(0, .ref (G.1 0)), (1, .int (oI v1)), (2, .int (oI v2))] := hl
  refine lv_aload_n C.1 C.2.1 dX9_its_0 rfl (lv_at hl 0 rfl) ?_
  refine lv_iload_n C.1 C.2.1 dX9_its_1 rfl (lv_at hl 1 rfl) ?_
  obtain ⟨q1, hc2, hf⟩ := bd_o hf
  refine r_callVv C S (rest := []) (ct_X9_treatyAt l G τ hc2) mi_X9_treatyAt tw_528 mv_X9_treatyAt (rvX9 S) ⟨rfl, rfl⟩ ⟨Nat.le_of_ble_eq_true rfl, Nat.le_of_ble_eq_true rfl⟩ ⟨Nat.zero_le _, Nat.zero_le _⟩ rfl hl.1 rfl (Nat.le_of_ble_eq_true rfl) dX9_its_2 (fun H locs S => ?_)
  rcases q1 with _ | t3
  · replace hf := oT_n hf
    refine lv_astore_nN C.1 C.2.1 dX9_its_5 rfl hl (by decide) (lv' := [(3, .null), (0, .ref (G.1 0)), (1, .int (oI v1)), (2, .int (oI v2))]) rfl (fun ls hl => ?_)
    refine lv_aload_nN C.1 C.2.1 dX9_its_6 rfl (lv_at hl 0 rfl) ?_
    refine lv_ifnonnullN C.1 C.2.1 dX9_its_7 ?_
    refine r_iconst C dX9_its_10 ?_
    cases hf
    exact hend _ _ _ _ S dX9_its_11
  · obtain ⟨ht3, hf⟩ := oT_s hf
    refine lv_astore_n C.1 C.2.1 dX9_its_5 rfl hl (by decide) (lv' := [(3, .ref (G.1 (21 + t3))), (0, .ref (G.1 0)), (1, .int (oI v1)), (2, .int (oI v2))]) rfl (fun ls hl => ?_)
    refine lv_aload_n C.1 C.2.1 dX9_its_6 rfl (lv_at hl 0 rfl) ?_
    refine lv_ifnonnull C.1 C.2.1 (tgt := 12) dX9_its_7 (by decide) ?_
    refine lv_iload_n C.1 C.2.1 dX9_its_12 rfl (lv_at hl 3 rfl) ?_
    by_cases hs0 : w32 v2 = 0
    · replace hf := if_t hf hs0
      refine r_tabIn C (tgt := 60) (v := 0) dX9_its_13 hs0 (by decide) (by decide) rfl (by decide) ?_
      refine lv_aload_n C.1 C.2.1 dX9_its_60 rfl (lv_at hl 0 rfl) ?_
      refine g8_perils C (d := t3) S (by omega) tw_151 dX9_its_61 ?_
      cases hf
      exact hend _ _ _ _ S dX9_its_64
    · replace hf := if_f hf hs0
      by_cases hs1 : w32 v2 = 1
      · replace hf := if_t hf hs1
        refine r_tabIn C (tgt := 65) (v := 1) dX9_its_13 hs1 (by decide) (by decide) rfl (by decide) ?_
        refine lv_aload_n C.1 C.2.1 dX9_its_65 rfl (lv_at hl 0 rfl) ?_
        refine g8_radius C (d := t3) S (by omega) tw_153 dX9_its_66 ?_
        cases hf
        exact hend _ _ _ _ S dX9_its_69
      · replace hf := if_f hf hs1
        by_cases hs2 : w32 v2 = 2
        · replace hf := if_t hf hs2
          refine r_tabIn C (tgt := 70) (v := 2) dX9_its_13 hs2 (by decide) (by decide) rfl (by decide) ?_
          refine lv_aload_n C.1 C.2.1 dX9_its_70 rfl (lv_at hl 0 rfl) ?_
          refine g8_limit C (d := t3) S (by omega) tw_155 dX9_its_71 ?_
          cases hf
          exact hend _ _ _ _ S dX9_its_74
        · replace hf := if_f hf hs2
          by_cases hs3 : w32 v2 = 3
          · replace hf := if_t hf hs3
            refine r_tabIn C (tgt := 75) (v := 3) dX9_its_13 hs3 (by decide) (by decide) rfl (by decide) ?_
            refine lv_aload_n C.1 C.2.1 dX9_its_75 rfl (lv_at hl 0 rfl) ?_
            refine g8_discs C (d := t3) S (by omega) tw_149 dX9_its_76 ?_
            refine g2_members C (d := t3) S (by omega) tw_133 dX9_its_79 ?_
            obtain ⟨q4, hc5, hf⟩ := bd_o hf
            refine r_callSv C S (rest := []) (ct_J6_bitCount_0f7a4 l G τ hc5) mi_J6_bitCount_0f7a4 tw_646 ms_J6_bitCount_0f7a4 ⟨rfl, rfl⟩ ⟨Nat.le_of_ble_eq_true rfl, Nat.le_of_ble_eq_true rfl⟩ ⟨Nat.zero_le _, Nat.zero_le _⟩ rfl hl.1 rfl (Nat.le_of_ble_eq_true rfl) dX9_its_82 (fun H locs S => ?_)
            cases hf
            exact hend _ _ _ _ S dX9_its_85
          · replace hf := if_f hf hs3
            by_cases hs4 : w32 v2 = 4
            · replace hf := if_t hf hs4
              refine r_tabIn C (tgt := 86) (v := 4) dX9_its_13 hs4 (by decide) (by decide) rfl (by decide) ?_
              refine lv_aload_n C.1 C.2.1 dX9_its_86 rfl (lv_at hl 1 rfl) ?_
              refine g9_book C S tw_282 dX9_its_87 ?_
              refine lv_aload_n C.1 C.2.1 dX9_its_90 rfl (lv_at hl 0 rfl) ?_
              refine g8_discs C (d := t3) S (by omega) tw_149 dX9_its_91 ?_
              refine g2_members C (d := t3) S (by omega) tw_133 dX9_its_94 ?_
              obtain ⟨q6, hc7, hf⟩ := bd_o hf
              refine r_callVv C S (rest := []) (ct_X0_sums l G τ hc7) mi_X0_sums tw_652 mv_X0_sums (rvX0 S) ⟨rfl, rfl⟩ ⟨Nat.le_of_ble_eq_true rfl, Nat.le_of_ble_eq_true rfl⟩ ⟨Nat.zero_le _, Nat.zero_le _⟩ rfl hl.1 rfl (Nat.le_of_ble_eq_true rfl) dX9_its_97 (fun H locs S => ?_)
              cases hf
              exact hend _ _ _ _ S dX9_its_100
            · replace hf := if_f hf hs4
              by_cases hs5 : w32 v2 = 5
              · replace hf := if_t hf hs5
                refine r_tabIn C (tgt := 101) (v := 5) dX9_its_13 hs5 (by decide) (by decide) rfl (by decide) ?_
                refine lv_aload_n C.1 C.2.1 dX9_its_101 rfl (lv_at hl 0 rfl) ?_
                obtain ⟨q8, hc9, hf⟩ := bd_o hf
                refine r_callVv C S (rest := []) (ct_X8_isPassed l G τ hc9) mi_X8_isPassed tw_532 mv_X8_isPassed (rvX8 S (d := t3) (by omega)) ⟨rfl, rfl⟩ ⟨Nat.le_of_ble_eq_true rfl, Nat.le_of_ble_eq_true rfl⟩ ⟨Nat.zero_le _, Nat.zero_le _⟩ rfl hl.1 rfl (Nat.le_of_ble_eq_true rfl) dX9_its_102 (fun H locs S => ?_)
                refine r_if_eq C rfl (tgt := 112) dX9_its_105 (by decide) (fun h10 => ?_) (fun h10 => ?_)
                · replace hf := if_t hf h10
                  refine r_iconst C dX9_its_112 ?_
                  cases hf
                  exact hend _ _ _ _ S dX9_its_113
                · replace hf := if_f hf h10
                  refine r_iconst C dX9_its_108 ?_
                  refine lv_goto C.1 C.2.1 (tgt := 113) dX9_its_109 (by decide) ?_
                  cases hf
                  exact hend _ _ _ _ S dX9_its_113
              · replace hf := if_f hf hs5
                by_cases hs6 : w32 v2 = 6
                · replace hf := if_t hf hs6
                  refine r_tabIn C (tgt := 114) (v := 6) dX9_its_13 hs6 (by decide) (by decide) rfl (by decide) ?_
                  refine lv_aload_n C.1 C.2.1 dX9_its_114 rfl (lv_at hl 0 rfl) ?_
                  refine g8_alarm C (d := t3) S (by omega) tw_161 dX9_its_115 ?_
                  cases hf
                  exact hend _ _ _ _ S dX9_its_118
                · replace hf := if_f hf hs6
                  by_cases hs7 : w32 v2 = 7
                  · replace hf := if_t hf hs7
                    refine r_tabIn C (tgt := 119) (v := 7) dX9_its_13 hs7 (by decide) (by decide) rfl (by decide) ?_
                    refine lv_aload_n C.1 C.2.1 dX9_its_119 rfl (lv_at hl 0 rfl) ?_
                    refine g8_alarmsHad C (d := t3) S (by omega) tw_163 dX9_its_120 ?_
                    cases hf
                    exact hend _ _ _ _ S dX9_its_123
                  · replace hf := if_f hf hs7
                    refine r_tabOut C (tgt := 124) dX9_its_13 (by omega) (by decide) ?_
                    refine r_iconst C dX9_its_124 ?_
                    cases hf
                    exact hend _ _ _ _ S dX9_its_125
set_option maxRecDepth 100000 in
set_option maxHeartbeats 4000000 in
theorem ct_X9_worst (l : Launch) (G : Gd) (τ : Sg) {v1 : Int} {v2 : Int} {σ : Sg} {q : Int} (hf : f_X9_worst v1 v2 σ = some q) : Ctr l yX9_worst cX9_worst 4 (some .int) (rmk 1 21) G true τ [.ref (G.1 0), .int (oI v1), .int (oI v2)] σ σ (some (.int (oI q))) := by
  unfold f_X9_worst at hf
  refine CtrI.of (own := RX9) (plainFor_of_name (by decide)) (Nat.le_of_ble_eq_true rfl) rfl (fun p e s m below meth c Q ls C hl S hend => ?_)
  have hl : lv_has ls 4 [(0, .ref (G.1 0)), (1, .int (oI v1)), (2, .int (oI v2))] := hl
  refine lv_aload_n C.1 C.2.1 dX9_worst_0 rfl (lv_at hl 0 rfl) ?_
  refine lv_iload_n C.1 C.2.1 dX9_worst_1 rfl (lv_at hl 1 rfl) ?_
  obtain ⟨q1, hc2, hf⟩ := bd_o hf
  refine r_callVv C S (rest := []) (ct_X9_treatyAt l G τ hc2) mi_X9_treatyAt tw_528 mv_X9_treatyAt (rvX9 S) ⟨rfl, rfl⟩ ⟨Nat.le_of_ble_eq_true rfl, Nat.le_of_ble_eq_true rfl⟩ ⟨Nat.zero_le _, Nat.zero_le _⟩ rfl hl.1 rfl (Nat.le_of_ble_eq_true rfl) dX9_worst_2 (fun H locs S => ?_)
  rcases q1 with _ | t3
  · replace hf := oT_n hf
    refine lv_astore_nN C.1 C.2.1 dX9_worst_5 rfl hl (by decide) (lv' := [(3, .null), (0, .ref (G.1 0)), (1, .int (oI v1)), (2, .int (oI v2))]) rfl (fun ls hl => ?_)
    refine lv_aload_nN C.1 C.2.1 dX9_worst_6 rfl (lv_at hl 0 rfl) ?_
    refine lv_ifnonnullN C.1 C.2.1 dX9_worst_7 ?_
    refine r_ldc C tw_185 dX9_worst_10 ?_
    cases hf
    exact hend _ _ _ _ S dX9_worst_12
  · obtain ⟨ht3, hf⟩ := oT_s hf
    refine lv_astore_n C.1 C.2.1 dX9_worst_5 rfl hl (by decide) (lv' := [(3, .ref (G.1 (21 + t3))), (0, .ref (G.1 0)), (1, .int (oI v1)), (2, .int (oI v2))]) rfl (fun ls hl => ?_)
    refine lv_aload_n C.1 C.2.1 dX9_worst_6 rfl (lv_at hl 0 rfl) ?_
    refine lv_ifnonnull C.1 C.2.1 (tgt := 13) dX9_worst_7 (by decide) ?_
    refine lv_iload_n C.1 C.2.1 dX9_worst_13 rfl (lv_at hl 3 rfl) ?_
    by_cases hs0 : w32 v2 = 0
    · replace hf := if_t hf hs0
      refine r_tabIn C (tgt := 40) (v := 0) dX9_worst_14 hs0 (by decide) (by decide) rfl (by decide) ?_
      refine lv_aload_n C.1 C.2.1 dX9_worst_40 rfl (lv_at hl 0 rfl) ?_
      refine g8_worstSums C (d := t3) S (by omega) tw_159 dX9_worst_41 ?_
      cases hf
      exact hend _ _ _ _ S dX9_worst_44
    · replace hf := if_f hf hs0
      by_cases hs1 : w32 v2 = 1
      · replace hf := if_t hf hs1
        refine r_tabIn C (tgt := 45) (v := 1) dX9_worst_14 hs1 (by decide) (by decide) rfl (by decide) ?_
        refine lv_aload_n C.1 C.2.1 dX9_worst_45 rfl (lv_at hl 0 rfl) ?_
        refine g8_worstSet C (d := t3) S (by omega) tw_157 dX9_worst_46 ?_
        obtain ⟨q4, hc5, hf⟩ := bd_o hf
        refine r_callSv C S (rest := []) (ct_J6_bitCount_0f7a4 l G τ hc5) mi_J6_bitCount_0f7a4 tw_646 ms_J6_bitCount_0f7a4 ⟨rfl, rfl⟩ ⟨Nat.le_of_ble_eq_true rfl, Nat.le_of_ble_eq_true rfl⟩ ⟨Nat.zero_le _, Nat.zero_le _⟩ rfl hl.1 rfl (Nat.le_of_ble_eq_true rfl) dX9_worst_49 (fun H locs S => ?_)
        cases hf
        exact hend _ _ _ _ S dX9_worst_52
      · replace hf := if_f hf hs1
        by_cases hs2 : w32 v2 = 2
        · replace hf := if_t hf hs2
          refine r_tabIn C (tgt := 53) (v := 2) dX9_worst_14 hs2 (by decide) (by decide) rfl (by decide) ?_
          refine lv_aload_n C.1 C.2.1 dX9_worst_53 rfl (lv_at hl 0 rfl) ?_
          refine g8_limit C (d := t3) S (by omega) tw_155 dX9_worst_54 ?_
          refine lv_aload_n C.1 C.2.1 dX9_worst_57 rfl (lv_at hl 0 rfl) ?_
          refine g8_worstSums C (d := t3) S (by omega) tw_159 dX9_worst_58 ?_
          refine r_isub C dX9_worst_61 ?_
          cases hf
          exact hend _ _ _ _ S dX9_worst_62
        · replace hf := if_f hf hs2
          refine r_tabOut C (tgt := 63) dX9_worst_14 (by omega) (by decide) ?_
          refine r_ldc C tw_185 dX9_worst_63 ?_
          cases hf
          exact hend _ _ _ _ S dX9_worst_65
set_option maxRecDepth 100000 in
set_option maxHeartbeats 4000000 in
theorem b_X9_inWorst_b53 (C : Cx p s m args c RX9 cX9_inWorst 6) {q : Int} {k22 : Int → Nat → Int → Int → Option (Int)} (hend : EndR p l e (rmk 1 21) s m args below meth c Q G true τ cX9_inWorst .ireturn [.int (oI q)] σ) (hk22 : ∀ {H : Heap} {locs : List Loc} {ls : Array Slot} (v2 : Int) (t3 : Nat) (v4 : Int) (v5 : Int), t3 < 6 → St G true τ σ s H locs → lv_has ls 6 [(2, .int (oI v2)), (3, .ref (G.1 (21 + t3))), (4, .int (oI v4)), (5, .int (oI v5))] → k22 v2 t3 v4 v5 = some q → W p l e (rmk 1 21) s m args below meth c H locs 0 0 Q (F0 m 22 ls [])) {H : Heap} {locs : List Loc} {ls : Array Slot} (v2 : Int) (t3 : Nat) (v4 : Int) (v5 : Int) (ht3 : t3 < 6) (S : St G true τ σ s H locs) (hl : lv_has ls 6 [(2, .int (oI v2)), (3, .ref (G.1 (21 + t3))), (4, .int (oI v4)), (5, .int (oI v5))]) (hf : f_X9_inWorst_b53 σ k22 v2 t3 v4 v5 = some q) : W p l e (rmk 1 21) s m args below meth c H locs 0 0 Q (F0 m 53 ls []) := by
  unfold f_X9_inWorst_b53 at hf
  refine r_iinc C dX9_inWorst_53 hl (k := 3) rfl (by decide) (lv' := [(5, .int (oI (v5 + 1))), (2, .int (oI v2)), (3, .ref (G.1 (21 + t3))), (4, .int (oI v4))]) rfl (fun ls hl => ?_)
  refine lv_goto C.1 C.2.1 (tgt := 22) dX9_inWorst_56 (by decide) ?_
  exact hk22 v2 t3 v4 (v5 + 1) (by omega) S (lv_sub hl [1, 2, 3, 0] rfl) hf
set_option maxRecDepth 100000 in
set_option maxHeartbeats 4000000 in
theorem b_X9_inWorst_b22 (C : Cx p s m args c RX9 cX9_inWorst 6) {q : Int} (hend : EndR p l e (rmk 1 21) s m args below meth c Q G true τ cX9_inWorst .ireturn [.int (oI q)] σ) : ∀ (n : Nat) {H : Heap} {locs : List Loc} {ls : Array Slot} (v2 : Int) (t3 : Nat) (v4 : Int) (v5 : Int) (ht3 : t3 < 6) (S : St G true τ σ s H locs) (hl : lv_has ls 6 [(2, .int (oI v2)), (3, .ref (G.1 (21 + t3))), (4, .int (oI v4)), (5, .int (oI v5))]) (hf : f_X9_inWorst_b22 σ n v2 t3 v4 v5 = some q), W p l e (rmk 1 21) s m args below meth c H locs 0 0 Q (F0 m 22 ls []) := by
  intro n
  induction n with
  | zero => intro H locs ls v2 t3 v4 v5 ht3 S hl hf; cases hf
  | succ n ih =>
    intro H locs ls v2 t3 v4 v5 ht3 S hl hf
    have hk22 := @ih
    rw [f_X9_inWorst_b22] at hf
    refine lv_iload C.1 C.2.1 dX9_inWorst_22 (lv_at hl 3 rfl) ?_
    refine r_bipush C dX9_inWorst_24 (by decide) ?_
    refine r_icmp_ge C rfl (show w32 24 = 24 by decide) (tgt := 59) dX9_inWorst_26 (by decide) (fun h8 => ?_) (fun h8 => ?_)
    · replace hf := if_t hf h8
      refine lv_aload_n C.1 C.2.1 dX9_inWorst_29 rfl (lv_at hl 1 rfl) ?_
      refine g8_worstSet C (d := t3) S (by omega) tw_157 dX9_inWorst_30 ?_
      refine lv_iload C.1 C.2.1 dX9_inWorst_33 (lv_at hl 3 rfl) ?_
      obtain ⟨q4, hc5, hf⟩ := bd_o hf
      refine r_callSv C S (rest := []) (ct_X9_contains l G τ hc5) mi_X9_contains tw_661 ms_X9_contains ⟨rfl, rfl⟩ ⟨Nat.le_of_ble_eq_true rfl, Nat.le_of_ble_eq_true rfl⟩ ⟨Nat.zero_le _, Nat.zero_le _⟩ rfl hl.1 rfl (Nat.le_of_ble_eq_true rfl) dX9_inWorst_35 (fun H locs S => ?_)
      refine r_if_eq C rfl (tgt := 53) dX9_inWorst_38 (by decide) (fun h7 => ?_) (fun h7 => ?_)
      · replace hf := if_t hf h7
        exact b_X9_inWorst_b53 C hend hk22 v2 t3 v4 v5 (by omega) S (lv_sub hl [0, 1, 2, 3] rfl) hf
      · replace hf := if_f hf h7
        refine lv_iload C.1 C.2.1 dX9_inWorst_41 (lv_at hl 2 rfl) ?_
        refine lv_iload_n C.1 C.2.1 dX9_inWorst_43 rfl (lv_at hl 0 rfl) ?_
        refine r_icmp_ne C rfl rfl (tgt := 50) dX9_inWorst_44 (by decide) (fun h6 => ?_) (fun h6 => ?_)
        · replace hf := if_t hf h6
          refine lv_iload C.1 C.2.1 dX9_inWorst_47 (lv_at hl 3 rfl) ?_
          cases hf
          exact hend _ _ _ _ S dX9_inWorst_49
        · replace hf := if_f hf h6
          refine r_iinc C dX9_inWorst_50 hl (k := 2) rfl (by decide) (lv' := [(4, .int (oI (v4 + 1))), (2, .int (oI v2)), (3, .ref (G.1 (21 + t3))), (5, .int (oI v5))]) rfl (fun ls hl => ?_)
          exact b_X9_inWorst_b53 C hend hk22 v2 t3 (v4 + 1) v5 (by omega) S (lv_sub hl [1, 2, 0, 3] rfl) hf
    · replace hf := if_f hf h8
      refine r_bipush C dX9_inWorst_59 (by decide) ?_
      cases hf
      exact hend _ _ _ _ S dX9_inWorst_61
set_option maxRecDepth 100000 in
set_option maxHeartbeats 4000000 in
theorem ct_X9_inWorst (l : Launch) (G : Gd) (τ : Sg) {v1 : Int} {v2 : Int} {σ : Sg} {q : Int} (hf : f_X9_inWorst v1 v2 σ = some q) : Ctr l yX9_inWorst cX9_inWorst 6 (some .int) (rmk 1 21) G true τ [.ref (G.1 0), .int (oI v1), .int (oI v2)] σ σ (some (.int (oI q))) := by
  unfold f_X9_inWorst at hf
  refine CtrI.of (own := RX9) (plainFor_of_name (by decide)) (Nat.le_of_ble_eq_true rfl) rfl (fun p e s m below meth c Q ls C hl S hend => ?_)
  have hl : lv_has ls 6 [(0, .ref (G.1 0)), (1, .int (oI v1)), (2, .int (oI v2))] := hl
  refine lv_aload_n C.1 C.2.1 dX9_inWorst_0 rfl (lv_at hl 0 rfl) ?_
  refine lv_iload_n C.1 C.2.1 dX9_inWorst_1 rfl (lv_at hl 1 rfl) ?_
  obtain ⟨q1, hc2, hf⟩ := bd_o hf
  refine r_callVv C S (rest := []) (ct_X9_treatyAt l G τ hc2) mi_X9_treatyAt tw_528 mv_X9_treatyAt (rvX9 S) ⟨rfl, rfl⟩ ⟨Nat.le_of_ble_eq_true rfl, Nat.le_of_ble_eq_true rfl⟩ ⟨Nat.zero_le _, Nat.zero_le _⟩ rfl hl.1 rfl (Nat.le_of_ble_eq_true rfl) dX9_inWorst_2 (fun H locs S => ?_)
  rcases q1 with _ | t3
  · replace hf := oT_n hf
    refine lv_astore_nN C.1 C.2.1 dX9_inWorst_5 rfl hl (by decide) (lv' := [(3, .null), (0, .ref (G.1 0)), (1, .int (oI v1)), (2, .int (oI v2))]) rfl (fun ls hl => ?_)
    refine lv_aload_nN C.1 C.2.1 dX9_inWorst_6 rfl (lv_at hl 0 rfl) ?_
    refine lv_ifnullN C.1 C.2.1 (tgt := 14) dX9_inWorst_7 (by decide) ?_
    refine r_iconst C dX9_inWorst_14 ?_
    cases hf
    exact hend _ _ _ _ S dX9_inWorst_15
  · obtain ⟨ht3, hf⟩ := oT_s hf
    refine lv_astore_n C.1 C.2.1 dX9_inWorst_5 rfl hl (by decide) (lv' := [(3, .ref (G.1 (21 + t3))), (0, .ref (G.1 0)), (1, .int (oI v1)), (2, .int (oI v2))]) rfl (fun ls hl => ?_)
    refine lv_aload_n C.1 C.2.1 dX9_inWorst_6 rfl (lv_at hl 0 rfl) ?_
    refine lv_ifnull C.1 C.2.1 dX9_inWorst_7 ?_
    refine lv_iload_n C.1 C.2.1 dX9_inWorst_10 rfl (lv_at hl 3 rfl) ?_
    refine r_if_ge C rfl (tgt := 16) dX9_inWorst_11 (by decide) (fun h9 => ?_) (fun h9 => ?_)
    · replace hf := if_t hf h9
      refine r_iconst C dX9_inWorst_14 ?_
      cases hf
      exact hend _ _ _ _ S dX9_inWorst_15
    · replace hf := if_f hf h9
      refine r_iconst C dX9_inWorst_16 ?_
      refine lv_istore C.1 C.2.1 dX9_inWorst_17 hl (by decide) (lv' := [(4, .int (oI 0)), (3, .ref (G.1 (21 + t3))), (0, .ref (G.1 0)), (1, .int (oI v1)), (2, .int (oI v2))]) rfl (fun ls hl => ?_)
      refine r_iconst C dX9_inWorst_19 ?_
      refine lv_istore C.1 C.2.1 dX9_inWorst_20 hl (by decide) (lv' := [(5, .int (oI 0)), (4, .int (oI 0)), (3, .ref (G.1 (21 + t3))), (0, .ref (G.1 0)), (1, .int (oI v1)), (2, .int (oI v2))]) rfl (fun ls hl => ?_)
      exact b_X9_inWorst_b22 C hend FUEL v2 t3 0 0 (by omega) S (lv_sub hl [5, 2, 1, 0] rfl) hf
set_option maxRecDepth 100000 in
set_option maxHeartbeats 4000000 in
theorem b_X2_bounding_b38 (C : Cx p s m args c RX2 cX2_bounding 4) {d : Nat} (hd : d < 7) {q : Int} {k2 : Int → Int → Option (Int)} (hend : EndR p l e (rmk 1 21) s m args below meth c Q G true τ cX2_bounding .ireturn [.int (oI q)] σ) (hk2 : ∀ {H : Heap} {locs : List Loc} {ls : Array Slot} (v1 : Int) (v2 : Int), St G true τ σ s H locs → lv_has ls 4 [(0, .ref (G.1 (27 + d))), (1, .int (oI v1)), (2, .int (oI v2))] → k2 v1 v2 = some q → W p l e (rmk 1 21) s m args below meth c H locs 0 0 Q (F0 m 2 ls [])) {H : Heap} {locs : List Loc} {ls : Array Slot} (v1 : Int) (v2 : Int) (S : St G true τ σ s H locs) (hl : lv_has ls 4 [(0, .ref (G.1 (27 + d))), (1, .int (oI v1)), (2, .int (oI v2))]) (hf : f_X2_bounding_b38 d σ k2 v1 v2 = some q) : W p l e (rmk 1 21) s m args below meth c H locs 0 0 Q (F0 m 38 ls []) := by
  unfold f_X2_bounding_b38 at hf
  refine r_iinc C dX2_bounding_38 hl (k := 2) rfl (by decide) (lv' := [(2, .int (oI (v2 + 1))), (0, .ref (G.1 (27 + d))), (1, .int (oI v1))]) rfl (fun ls hl => ?_)
  refine lv_goto C.1 C.2.1 (tgt := 2) dX2_bounding_41 (by decide) ?_
  exact hk2 v1 (v2 + 1) S (lv_sub hl [1, 2, 0] rfl) hf
set_option maxRecDepth 100000 in
set_option maxHeartbeats 4000000 in
theorem b_X2_bounding_b31 (C : Cx p s m args c RX2 cX2_bounding 4) {d : Nat} (hd : d < 7) {q : Int} (hend : EndR p l e (rmk 1 21) s m args below meth c Q G true τ cX2_bounding .ireturn [.int (oI q)] σ) {H : Heap} {locs : List Loc} {ls : Array Slot} (v2 : Int) (S : St G true τ σ s H locs) (hl : lv_has ls 4 [(2, .int (oI v2))]) (hf : f_X2_bounding_b31 d σ v2 = some q) : W p l e (rmk 1 21) s m args below meth c H locs 0 0 Q (F0 m 31 ls []) := by
  unfold f_X2_bounding_b31 at hf
  refine lv_iload_n C.1 C.2.1 dX2_bounding_31 rfl (lv_at hl 0 rfl) ?_
  refine r_bipush C dX2_bounding_32 (by decide) ?_
  refine r_imul C dX2_bounding_34 ?_
  refine lv_iload_n C.1 C.2.1 dX2_bounding_35 rfl (lv_at hl 0 rfl) ?_
  refine r_iadd C dX2_bounding_36 ?_
  cases hf
  exact hend _ _ _ _ S dX2_bounding_37
set_option maxRecDepth 100000 in
set_option maxHeartbeats 4000000 in
theorem b_X2_bounding_b122 (C : Cx p s m args c RX2 cX2_bounding 4) {d : Nat} (hd : d < 7) {q : Int} {k46 : Int → Int → Option (Int)} {k56 : Int → Int → Int → Option (Int)} (hend : EndR p l e (rmk 1 21) s m args below meth c Q G true τ cX2_bounding .ireturn [.int (oI q)] σ) (hk46 : ∀ {H : Heap} {locs : List Loc} {ls : Array Slot} (v1 : Int) (v2 : Int), St G true τ σ s H locs → lv_has ls 4 [(0, .ref (G.1 (27 + d))), (1, .int (oI v1)), (2, .int (oI v2))] → k46 v1 v2 = some q → W p l e (rmk 1 21) s m args below meth c H locs 0 0 Q (F0 m 46 ls [])) (hk56 : ∀ {H : Heap} {locs : List Loc} {ls : Array Slot} (v1 : Int) (v2 : Int) (v3 : Int), St G true τ σ s H locs → lv_has ls 4 [(0, .ref (G.1 (27 + d))), (1, .int (oI v1)), (2, .int (oI v2)), (3, .int (oI v3))] → k56 v1 v2 v3 = some q → W p l e (rmk 1 21) s m args below meth c H locs 0 0 Q (F0 m 56 ls [])) {H : Heap} {locs : List Loc} {ls : Array Slot} (v1 : Int) (v2 : Int) (v3 : Int) (S : St G true τ σ s H locs) (hl : lv_has ls 4 [(0, .ref (G.1 (27 + d))), (1, .int (oI v1)), (2, .int (oI v2)), (3, .int (oI v3))]) (hf : f_X2_bounding_b122 d σ k46 k56 v1 v2 v3 = some q) : W p l e (rmk 1 21) s m args below meth c H locs 0 0 Q (F0 m 122 ls []) := by
  unfold f_X2_bounding_b122 at hf
  refine r_iinc C dX2_bounding_122 hl (k := 3) rfl (by decide) (lv' := [(3, .int (oI (v3 + 1))), (0, .ref (G.1 (27 + d))), (1, .int (oI v1)), (2, .int (oI v2))]) rfl (fun ls hl => ?_)
  refine lv_goto C.1 C.2.1 (tgt := 56) dX2_bounding_125 (by decide) ?_
  exact hk56 v1 v2 (v3 + 1) S (lv_sub hl [1, 2, 3, 0] rfl) hf
set_option maxRecDepth 100000 in
set_option maxHeartbeats 4000000 in
theorem b_X2_bounding_b93 (C : Cx p s m args c RX2 cX2_bounding 4) {d : Nat} (hd : d < 7) {q : Int} (hend : EndR p l e (rmk 1 21) s m args below meth c Q G true τ cX2_bounding .ireturn [.int (oI q)] σ) {H : Heap} {locs : List Loc} {ls : Array Slot} (v2 : Int) (v3 : Int) (S : St G true τ σ s H locs) (hl : lv_has ls 4 [(2, .int (oI v2)), (3, .int (oI v3))]) (hf : f_X2_bounding_b93 d σ v2 v3 = some q) : W p l e (rmk 1 21) s m args below meth c H locs 0 0 Q (F0 m 93 ls []) := by
  unfold f_X2_bounding_b93 at hf
  refine lv_iload_n C.1 C.2.1 dX2_bounding_93 rfl (lv_at hl 0 rfl) ?_
  refine r_bipush C dX2_bounding_94 (by decide) ?_
  refine r_imul C dX2_bounding_96 ?_
  refine lv_iload_n C.1 C.2.1 dX2_bounding_97 rfl (lv_at hl 1 rfl) ?_
  refine r_iadd C dX2_bounding_98 ?_
  cases hf
  exact hend _ _ _ _ S dX2_bounding_99
set_option maxRecDepth 100000 in
set_option maxHeartbeats 4000000 in
theorem b_X2_bounding_b115 (C : Cx p s m args c RX2 cX2_bounding 4) {d : Nat} (hd : d < 7) {q : Int} (hend : EndR p l e (rmk 1 21) s m args below meth c Q G true τ cX2_bounding .ireturn [.int (oI q)] σ) {H : Heap} {locs : List Loc} {ls : Array Slot} (v2 : Int) (v3 : Int) (S : St G true τ σ s H locs) (hl : lv_has ls 4 [(2, .int (oI v2)), (3, .int (oI v3))]) (hf : f_X2_bounding_b115 d σ v2 v3 = some q) : W p l e (rmk 1 21) s m args below meth c H locs 0 0 Q (F0 m 115 ls []) := by
  unfold f_X2_bounding_b115 at hf
  refine lv_iload_n C.1 C.2.1 dX2_bounding_115 rfl (lv_at hl 1 rfl) ?_
  refine r_bipush C dX2_bounding_116 (by decide) ?_
  refine r_imul C dX2_bounding_118 ?_
  refine lv_iload_n C.1 C.2.1 dX2_bounding_119 rfl (lv_at hl 0 rfl) ?_
  refine r_iadd C dX2_bounding_120 ?_
  cases hf
  exact hend _ _ _ _ S dX2_bounding_121
set_option maxRecDepth 100000 in
set_option maxHeartbeats 4000000 in
theorem b_X2_bounding_b128 (C : Cx p s m args c RX2 cX2_bounding 4) {d : Nat} (hd : d < 7) {q : Int} {k46 : Int → Int → Option (Int)} (hend : EndR p l e (rmk 1 21) s m args below meth c Q G true τ cX2_bounding .ireturn [.int (oI q)] σ) (hk46 : ∀ {H : Heap} {locs : List Loc} {ls : Array Slot} (v1 : Int) (v2 : Int), St G true τ σ s H locs → lv_has ls 4 [(0, .ref (G.1 (27 + d))), (1, .int (oI v1)), (2, .int (oI v2))] → k46 v1 v2 = some q → W p l e (rmk 1 21) s m args below meth c H locs 0 0 Q (F0 m 46 ls [])) {H : Heap} {locs : List Loc} {ls : Array Slot} (v1 : Int) (v2 : Int) (S : St G true τ σ s H locs) (hl : lv_has ls 4 [(0, .ref (G.1 (27 + d))), (1, .int (oI v1)), (2, .int (oI v2))]) (hf : f_X2_bounding_b128 d σ k46 v1 v2 = some q) : W p l e (rmk 1 21) s m args below meth c H locs 0 0 Q (F0 m 128 ls []) := by
  unfold f_X2_bounding_b128 at hf
  refine r_iinc C dX2_bounding_128 hl (k := 2) rfl (by decide) (lv' := [(2, .int (oI (v2 + 1))), (0, .ref (G.1 (27 + d))), (1, .int (oI v1))]) rfl (fun ls hl => ?_)
  refine lv_goto C.1 C.2.1 (tgt := 46) dX2_bounding_131 (by decide) ?_
  exact hk46 v1 (v2 + 1) S (lv_sub hl [1, 2, 0] rfl) hf
set_option maxRecDepth 100000 in
set_option maxHeartbeats 4000000 in
theorem b_X2_bounding_b56 (C : Cx p s m args c RX2 cX2_bounding 4) {d : Nat} (hd : d < 7) {q : Int} {k46 : Int → Int → Option (Int)} (hend : EndR p l e (rmk 1 21) s m args below meth c Q G true τ cX2_bounding .ireturn [.int (oI q)] σ) (hk46 : ∀ {H : Heap} {locs : List Loc} {ls : Array Slot} (v1 : Int) (v2 : Int), St G true τ σ s H locs → lv_has ls 4 [(0, .ref (G.1 (27 + d))), (1, .int (oI v1)), (2, .int (oI v2))] → k46 v1 v2 = some q → W p l e (rmk 1 21) s m args below meth c H locs 0 0 Q (F0 m 46 ls [])) : ∀ (n : Nat) {H : Heap} {locs : List Loc} {ls : Array Slot} (v1 : Int) (v2 : Int) (v3 : Int) (S : St G true τ σ s H locs) (hl : lv_has ls 4 [(0, .ref (G.1 (27 + d))), (1, .int (oI v1)), (2, .int (oI v2)), (3, .int (oI v3))]) (hf : f_X2_bounding_b56 d σ k46 n v1 v2 v3 = some q), W p l e (rmk 1 21) s m args below meth c H locs 0 0 Q (F0 m 56 ls []) := by
  intro n
  induction n with
  | zero => intro H locs ls v1 v2 v3 S hl hf; cases hf
  | succ n ih =>
    intro H locs ls v1 v2 v3 S hl hf
    have hk56 := @ih
    rw [f_X2_bounding_b56] at hf
    refine lv_iload_n C.1 C.2.1 dX2_bounding_56 rfl (lv_at hl 3 rfl) ?_
    refine r_bipush C dX2_bounding_57 (by decide) ?_
    refine r_icmp_ge C rfl (show w32 24 = 24 by decide) (tgt := 128) dX2_bounding_59 (by decide) (fun h16 => ?_) (fun h16 => ?_)
    · replace hf := if_t hf h16
      refine lv_iload_n C.1 C.2.1 dX2_bounding_62 rfl (lv_at hl 1 rfl) ?_
      refine lv_iload_n C.1 C.2.1 dX2_bounding_63 rfl (lv_at hl 2 rfl) ?_
      obtain ⟨q6, hc7, hf⟩ := bd_o hf
      refine r_callSNv C S (rest := []) (ct_X9_contains l G τ hc7) mi_X9_contains (nw_485 S.2.2.2) ms_X9_contains ⟨rfl, rfl⟩ ⟨Nat.le_of_ble_eq_true rfl, Nat.le_of_ble_eq_true rfl⟩ ⟨Nat.zero_le _, Nat.zero_le _⟩ rfl hl.1 rfl (Nat.le_of_ble_eq_true rfl) dX2_bounding_64 (fun H locs S => ?_)
      refine r_if_eq C rfl (tgt := 122) dX2_bounding_67 (by decide) (fun h15 => ?_) (fun h15 => ?_)
      · replace hf := if_t hf h15
        exact b_X2_bounding_b122 C hd hend hk46 hk56 v1 v2 v3 S (lv_sub hl [0, 1, 2, 3] rfl) hf
      · replace hf := if_f hf h15
        refine lv_iload_n C.1 C.2.1 dX2_bounding_70 rfl (lv_at hl 1 rfl) ?_
        refine lv_iload_n C.1 C.2.1 dX2_bounding_71 rfl (lv_at hl 3 rfl) ?_
        obtain ⟨q8, hc9, hf⟩ := bd_o hf
        refine r_callSNv C S (rest := []) (ct_X9_contains l G τ hc9) mi_X9_contains (nw_485 S.2.2.2) ms_X9_contains ⟨rfl, rfl⟩ ⟨Nat.le_of_ble_eq_true rfl, Nat.le_of_ble_eq_true rfl⟩ ⟨Nat.zero_le _, Nat.zero_le _⟩ rfl hl.1 rfl (Nat.le_of_ble_eq_true rfl) dX2_bounding_72 (fun H locs S => ?_)
        refine r_if_eq C rfl (tgt := 122) dX2_bounding_75 (by decide) (fun h14 => ?_) (fun h14 => ?_)
        · replace hf := if_t hf h14
          exact b_X2_bounding_b122 C hd hend hk46 hk56 v1 v2 v3 S (lv_sub hl [0, 1, 2, 3] rfl) hf
        · replace hf := if_f hf h14
          refine lv_aload_n C.1 C.2.1 dX2_bounding_78 rfl (lv_at hl 0 rfl) ?_
          refine g2_sets C (d := d) S (by omega) tw_127 dX2_bounding_79 ?_
          refine lv_iload_n C.1 C.2.1 dX2_bounding_82 rfl (lv_at hl 2 rfl) ?_
          refine r_bipush C dX2_bounding_83 (by decide) ?_
          refine r_imul C dX2_bounding_85 ?_
          refine lv_iload_n C.1 C.2.1 dX2_bounding_86 rfl (lv_at hl 3 rfl) ?_
          refine r_iadd C dX2_bounding_87 ?_
          obtain ⟨hi10, hf⟩ := ck_o hf
          refine a_iald C S (ar_34 (d := d) (by omega)) hi10 dX2_bounding_88 ?_
          refine lv_iload_n C.1 C.2.1 dX2_bounding_89 rfl (lv_at hl 1 rfl) ?_
          refine r_icmp_ne C rfl rfl (tgt := 100) dX2_bounding_90 (by decide) (fun h13 => ?_) (fun h13 => ?_)
          · replace hf := if_t hf h13
            exact b_X2_bounding_b93 C hd hend v2 v3 S (lv_sub hl [2, 3] rfl) hf
          · replace hf := if_f hf h13
            refine lv_aload_n C.1 C.2.1 dX2_bounding_100 rfl (lv_at hl 0 rfl) ?_
            refine g2_sets C (d := d) S (by omega) tw_127 dX2_bounding_101 ?_
            refine lv_iload_n C.1 C.2.1 dX2_bounding_104 rfl (lv_at hl 3 rfl) ?_
            refine r_bipush C dX2_bounding_105 (by decide) ?_
            refine r_imul C dX2_bounding_107 ?_
            refine lv_iload_n C.1 C.2.1 dX2_bounding_108 rfl (lv_at hl 2 rfl) ?_
            refine r_iadd C dX2_bounding_109 ?_
            obtain ⟨hi11, hf⟩ := ck_o hf
            refine a_iald C S (ar_34 (d := d) (by omega)) hi11 dX2_bounding_110 ?_
            refine lv_iload_n C.1 C.2.1 dX2_bounding_111 rfl (lv_at hl 1 rfl) ?_
            refine r_icmp_ne C rfl rfl (tgt := 122) dX2_bounding_112 (by decide) (fun h12 => ?_) (fun h12 => ?_)
            · replace hf := if_t hf h12
              exact b_X2_bounding_b115 C hd hend v2 v3 S (lv_sub hl [2, 3] rfl) hf
            · replace hf := if_f hf h12
              exact b_X2_bounding_b122 C hd hend hk46 hk56 v1 v2 v3 S (lv_sub hl [0, 1, 2, 3] rfl) hf
    · replace hf := if_f hf h16
      exact b_X2_bounding_b128 C hd hend hk46 v1 v2 S (lv_sub hl [0, 1, 2] rfl) hf
set_option maxRecDepth 100000 in
set_option maxHeartbeats 4000000 in
theorem b_X2_bounding_b46 (C : Cx p s m args c RX2 cX2_bounding 4) {d : Nat} (hd : d < 7) {q : Int} (hend : EndR p l e (rmk 1 21) s m args below meth c Q G true τ cX2_bounding .ireturn [.int (oI q)] σ) : ∀ (n : Nat) {H : Heap} {locs : List Loc} {ls : Array Slot} (v1 : Int) (v2 : Int) (S : St G true τ σ s H locs) (hl : lv_has ls 4 [(0, .ref (G.1 (27 + d))), (1, .int (oI v1)), (2, .int (oI v2))]) (hf : f_X2_bounding_b46 d σ n v1 v2 = some q), W p l e (rmk 1 21) s m args below meth c H locs 0 0 Q (F0 m 46 ls []) := by
  intro n
  induction n with
  | zero => intro H locs ls v1 v2 S hl hf; cases hf
  | succ n ih =>
    intro H locs ls v1 v2 S hl hf
    have hk46 := @ih
    rw [f_X2_bounding_b46] at hf
    refine lv_iload_n C.1 C.2.1 dX2_bounding_46 rfl (lv_at hl 2 rfl) ?_
    refine r_bipush C dX2_bounding_47 (by decide) ?_
    refine r_icmp_ge C rfl (show w32 24 = 24 by decide) (tgt := 134) dX2_bounding_49 (by decide) (fun h17 => ?_) (fun h17 => ?_)
    · replace hf := if_t hf h17
      refine lv_iload_n C.1 C.2.1 dX2_bounding_52 rfl (lv_at hl 2 rfl) ?_
      refine r_iconst C dX2_bounding_53 ?_
      refine r_iadd C dX2_bounding_54 ?_
      refine lv_istore_n C.1 C.2.1 dX2_bounding_55 rfl hl (by decide) (lv' := [(3, .int (oI (v2 + 1))), (0, .ref (G.1 (27 + d))), (1, .int (oI v1)), (2, .int (oI v2))]) rfl (fun ls hl => ?_)
      exact b_X2_bounding_b56 C hd hend hk46 FUEL v1 v2 (v2 + 1) S (lv_sub hl [1, 2, 3, 0] rfl) hf
    · replace hf := if_f hf h17
      refine r_iconst C dX2_bounding_134 ?_
      cases hf
      exact hend _ _ _ _ S dX2_bounding_135
set_option maxRecDepth 100000 in
set_option maxHeartbeats 4000000 in
theorem b_X2_bounding_b44 (C : Cx p s m args c RX2 cX2_bounding 4) {d : Nat} (hd : d < 7) {q : Int} (hend : EndR p l e (rmk 1 21) s m args below meth c Q G true τ cX2_bounding .ireturn [.int (oI q)] σ) {H : Heap} {locs : List Loc} {ls : Array Slot} (v1 : Int) (S : St G true τ σ s H locs) (hl : lv_has ls 4 [(0, .ref (G.1 (27 + d))), (1, .int (oI v1))]) (hf : f_X2_bounding_b44 d σ v1 = some q) : W p l e (rmk 1 21) s m args below meth c H locs 0 0 Q (F0 m 44 ls []) := by
  unfold f_X2_bounding_b44 at hf
  refine r_iconst C dX2_bounding_44 ?_
  refine lv_istore_n C.1 C.2.1 dX2_bounding_45 rfl hl (by decide) (lv' := [(2, .int (oI 0)), (0, .ref (G.1 (27 + d))), (1, .int (oI v1))]) rfl (fun ls hl => ?_)
  exact b_X2_bounding_b46 C hd hend FUEL v1 0 S (lv_sub hl [1, 2, 0] rfl) hf
set_option maxRecDepth 100000 in
set_option maxHeartbeats 4000000 in
theorem b_X2_bounding_b2 (C : Cx p s m args c RX2 cX2_bounding 4) {d : Nat} (hd : d < 7) {q : Int} (hend : EndR p l e (rmk 1 21) s m args below meth c Q G true τ cX2_bounding .ireturn [.int (oI q)] σ) : ∀ (n : Nat) {H : Heap} {locs : List Loc} {ls : Array Slot} (v1 : Int) (v2 : Int) (S : St G true τ σ s H locs) (hl : lv_has ls 4 [(0, .ref (G.1 (27 + d))), (1, .int (oI v1)), (2, .int (oI v2))]) (hf : f_X2_bounding_b2 d σ n v1 v2 = some q), W p l e (rmk 1 21) s m args below meth c H locs 0 0 Q (F0 m 2 ls []) := by
  intro n
  induction n with
  | zero => intro H locs ls v1 v2 S hl hf; cases hf
  | succ n ih =>
    intro H locs ls v1 v2 S hl hf
    have hk2 := @ih
    rw [f_X2_bounding_b2] at hf
    refine lv_iload_n C.1 C.2.1 dX2_bounding_2 rfl (lv_at hl 2 rfl) ?_
    refine r_bipush C dX2_bounding_3 (by decide) ?_
    refine r_icmp_ge C rfl (show w32 24 = 24 by decide) (tgt := 44) dX2_bounding_5 (by decide) (fun h18 => ?_) (fun h18 => ?_)
    · replace hf := if_t hf h18
      refine lv_iload_n C.1 C.2.1 dX2_bounding_8 rfl (lv_at hl 1 rfl) ?_
      refine lv_iload_n C.1 C.2.1 dX2_bounding_9 rfl (lv_at hl 2 rfl) ?_
      obtain ⟨q1, hc2, hf⟩ := bd_o hf
      refine r_callSNv C S (rest := []) (ct_X9_contains l G τ hc2) mi_X9_contains (nw_485 S.2.2.2) ms_X9_contains ⟨rfl, rfl⟩ ⟨Nat.le_of_ble_eq_true rfl, Nat.le_of_ble_eq_true rfl⟩ ⟨Nat.zero_le _, Nat.zero_le _⟩ rfl hl.1 rfl (Nat.le_of_ble_eq_true rfl) dX2_bounding_10 (fun H locs S => ?_)
      refine r_if_eq C rfl (tgt := 38) dX2_bounding_13 (by decide) (fun h5 => ?_) (fun h5 => ?_)
      · replace hf := if_t hf h5
        exact b_X2_bounding_b38 C hd hend hk2 v1 v2 S (lv_sub hl [0, 1, 2] rfl) hf
      · replace hf := if_f hf h5
        refine lv_aload_n C.1 C.2.1 dX2_bounding_16 rfl (lv_at hl 0 rfl) ?_
        refine g2_sets C (d := d) S (by omega) tw_127 dX2_bounding_17 ?_
        refine lv_iload_n C.1 C.2.1 dX2_bounding_20 rfl (lv_at hl 2 rfl) ?_
        refine r_bipush C dX2_bounding_21 (by decide) ?_
        refine r_imul C dX2_bounding_23 ?_
        refine lv_iload_n C.1 C.2.1 dX2_bounding_24 rfl (lv_at hl 2 rfl) ?_
        refine r_iadd C dX2_bounding_25 ?_
        obtain ⟨hi3, hf⟩ := ck_o hf
        refine a_iald C S (ar_34 (d := d) (by omega)) hi3 dX2_bounding_26 ?_
        refine lv_iload_n C.1 C.2.1 dX2_bounding_27 rfl (lv_at hl 1 rfl) ?_
        refine r_icmp_ne C rfl rfl (tgt := 38) dX2_bounding_28 (by decide) (fun h4 => ?_) (fun h4 => ?_)
        · replace hf := if_t hf h4
          exact b_X2_bounding_b31 C hd hend v2 S (lv_sub hl [2] rfl) hf
        · replace hf := if_f hf h4
          exact b_X2_bounding_b38 C hd hend hk2 v1 v2 S (lv_sub hl [0, 1, 2] rfl) hf
    · replace hf := if_f hf h18
      exact b_X2_bounding_b44 C hd hend v1 S (lv_sub hl [0, 1] rfl) hf
set_option maxRecDepth 100000 in
set_option maxHeartbeats 4000000 in
theorem ct_X2_bounding (l : Launch) (G : Gd) (τ : Sg) {d : Nat} {v1 : Int} {σ : Sg} {q : Int} (hf : f_X2_bounding d v1 σ = some q) : Ctr l yX2_bounding cX2_bounding 4 (some .int) (rmk 1 21) G true τ [.ref (G.1 (27 + d)), .int (oI v1)] σ σ (some (.int (oI q))) := by
  unfold f_X2_bounding at hf
  obtain ⟨hd, hf⟩ := ck_o hf
  refine CtrI.of (own := RX2) (plainFor_of_name (by decide)) (Nat.le_of_ble_eq_true rfl) rfl (fun p e s m below meth c Q ls C hl S hend => ?_)
  have hl : lv_has ls 4 [(0, .ref (G.1 (27 + d))), (1, .int (oI v1))] := hl
  refine r_iconst C dX2_bounding_0 ?_
  refine lv_istore_n C.1 C.2.1 dX2_bounding_1 rfl hl (by decide) (lv' := [(2, .int (oI 0)), (0, .ref (G.1 (27 + d))), (1, .int (oI v1))]) rfl (fun ls hl => ?_)
  exact b_X2_bounding_b2 C hd hend FUEL v1 0 S (lv_sub hl [1, 2, 0] rfl) hf
set_option maxRecDepth 100000 in
set_option maxHeartbeats 4000000 in
theorem ct_X9_bound (l : Launch) (G : Gd) (τ : Sg) {v1 : Int} {v2 : Int} {σ : Sg} {q : Int} (hf : f_X9_bound v1 v2 σ = some q) : Ctr l yX9_bound cX9_bound 7 (some .int) (rmk 2 44) G true τ [.ref (G.1 0), .int (oI v1), .int (oI v2)] σ σ (some (.int (oI q))) := by
  unfold f_X9_bound at hf
  refine CtrI.of (own := RX9) (plainFor_of_name (by decide)) (Nat.le_of_ble_eq_true rfl) rfl (fun p e s m below meth c Q ls C hl S hend => ?_)
  have hl : lv_has ls 7 [(0, .ref (G.1 0)), (1, .int (oI v1)), (2, .int (oI v2))] := hl
  refine lv_aload_n C.1 C.2.1 dX9_bound_0 rfl (lv_at hl 0 rfl) ?_
  refine lv_iload_n C.1 C.2.1 dX9_bound_1 rfl (lv_at hl 1 rfl) ?_
  obtain ⟨q1, hc2, hf⟩ := bd_o hf
  refine r_callVv C S (rest := []) (ct_X9_treatyAt l G τ hc2) mi_X9_treatyAt tw_528 mv_X9_treatyAt (rvX9 S) ⟨rfl, rfl⟩ ⟨Nat.le_of_ble_eq_true rfl, Nat.le_of_ble_eq_true rfl⟩ ⟨Nat.zero_le _, Nat.zero_le _⟩ rfl hl.1 rfl (Nat.le_of_ble_eq_true rfl) dX9_bound_2 (fun H locs S => ?_)
  rcases q1 with _ | t3
  · replace hf := oT_n hf
    refine lv_astore_nN C.1 C.2.1 dX9_bound_5 rfl hl (by decide) (lv' := [(3, .null), (0, .ref (G.1 0)), (1, .int (oI v1)), (2, .int (oI v2))]) rfl (fun ls hl => ?_)
    refine lv_aload_nN C.1 C.2.1 dX9_bound_6 rfl (lv_at hl 0 rfl) ?_
    refine lv_ifnullN C.1 C.2.1 (tgt := 19) dX9_bound_7 (by decide) ?_
    refine r_iconst C dX9_bound_19 ?_
    cases hf
    exact hend _ _ _ _ S dX9_bound_20
  · obtain ⟨ht3, hf⟩ := oT_s hf
    refine lv_astore_n C.1 C.2.1 dX9_bound_5 rfl hl (by decide) (lv' := [(3, .ref (G.1 (21 + t3))), (0, .ref (G.1 0)), (1, .int (oI v1)), (2, .int (oI v2))]) rfl (fun ls hl => ?_)
    refine lv_aload_n C.1 C.2.1 dX9_bound_6 rfl (lv_at hl 0 rfl) ?_
    refine lv_ifnull C.1 C.2.1 dX9_bound_7 ?_
    refine lv_iload_n C.1 C.2.1 dX9_bound_10 rfl (lv_at hl 3 rfl) ?_
    refine r_if_lt C rfl (tgt := 19) dX9_bound_11 (by decide) (fun h14 => ?_) (fun h14 => ?_)
    · replace hf := if_t hf h14
      refine r_iconst C dX9_bound_19 ?_
      cases hf
      exact hend _ _ _ _ S dX9_bound_20
    · replace hf := if_f hf h14
      refine lv_iload_n C.1 C.2.1 dX9_bound_14 rfl (lv_at hl 3 rfl) ?_
      refine r_iconst C dX9_bound_15 ?_
      refine r_icmp_le C rfl (show w32 2 = 2 by decide) (tgt := 21) dX9_bound_16 (by decide) (fun h13 => ?_) (fun h13 => ?_)
      · replace hf := if_t hf h13
        refine lv_aload_n C.1 C.2.1 dX9_bound_21 rfl (lv_at hl 0 rfl) ?_
        refine g8_worstSet C (d := t3) S (by omega) tw_157 dX9_bound_22 ?_
        refine r_if_ne C rfl (tgt := 31) dX9_bound_25 (by decide) (fun h12 => ?_) (fun h12 => ?_)
        · replace hf := if_t hf h12
          refine r_bipush C dX9_bound_28 (by decide) ?_
          cases hf
          exact hend _ _ _ _ S dX9_bound_30
        · replace hf := if_f hf h12
          refine lv_aload_n C.1 C.2.1 dX9_bound_31 rfl (lv_at hl 0 rfl) ?_
          refine g8_discs C (d := t3) S (by omega) tw_149 dX9_bound_32 ?_
          refine lv_aload_n C.1 C.2.1 dX9_bound_35 rfl (lv_at hl 0 rfl) ?_
          refine g8_worstSet C (d := t3) S (by omega) tw_157 dX9_bound_36 ?_
          obtain ⟨q4, hc5, hf⟩ := bd_o hf
          refine r_callVv C S (rest := []) (ct_X2_bounding l G τ hc5) mi_X2_bounding tw_666 mv_X2_bounding (rvX2 S (d := t3) (by omega)) ⟨rfl, rfl⟩ ⟨Nat.le_of_ble_eq_true rfl, Nat.le_of_ble_eq_true rfl⟩ ⟨Nat.zero_le _, Nat.zero_le _⟩ rfl hl.1 rfl (Nat.le_of_ble_eq_true rfl) dX9_bound_39 (fun H locs S => ?_)
          refine lv_istore C.1 C.2.1 dX9_bound_42 hl (by decide) (lv' := [(4, .int (oI q4)), (3, .ref (G.1 (21 + t3))), (0, .ref (G.1 0)), (1, .int (oI v1)), (2, .int (oI v2))]) rfl (fun ls hl => ?_)
          refine lv_iload C.1 C.2.1 dX9_bound_44 (lv_at hl 0 rfl) ?_
          refine r_bipush C dX9_bound_46 (by decide) ?_
          obtain ⟨hz6, hf⟩ := ck_o hf
          refine r_idiv C hz6 dX9_bound_48 ?_
          refine lv_istore C.1 C.2.1 dX9_bound_49 hl (by decide) (lv' := [(5, .int (oI ((w32 q4).tdiv (w32 24)))), (4, .int (oI q4)), (3, .ref (G.1 (21 + t3))), (0, .ref (G.1 0)), (1, .int (oI v1)), (2, .int (oI v2))]) rfl (fun ls hl => ?_)
          refine lv_iload C.1 C.2.1 dX9_bound_51 (lv_at hl 1 rfl) ?_
          refine r_bipush C dX9_bound_53 (by decide) ?_
          obtain ⟨hz7, hf⟩ := ck_o hf
          refine r_irem C hz7 dX9_bound_55 ?_
          refine lv_istore C.1 C.2.1 dX9_bound_56 hl (by decide) (lv' := [(6, .int (oI ((w32 q4).tmod (w32 24)))), (5, .int (oI ((w32 q4).tdiv (w32 24)))), (4, .int (oI q4)), (3, .ref (G.1 (21 + t3))), (0, .ref (G.1 0)), (1, .int (oI v1)), (2, .int (oI v2))]) rfl (fun ls hl => ?_)
          refine lv_iload_n C.1 C.2.1 dX9_bound_58 rfl (lv_at hl 6 rfl) ?_
          refine r_if_ne C rfl (tgt := 70) dX9_bound_59 (by decide) (fun h11 => ?_) (fun h11 => ?_)
          · replace hf := if_t hf h11
            refine lv_iload C.1 C.2.1 dX9_bound_62 (lv_at hl 1 rfl) ?_
            refine lv_iload C.1 C.2.1 dX9_bound_64 (lv_at hl 0 rfl) ?_
            refine r_mmin C (hl.1) tw_670 (by decide) (Nat.le_of_ble_eq_true rfl) dX9_bound_66 ?_
            cases hf
            exact hend _ _ _ _ S dX9_bound_69
          · replace hf := if_f hf h11
            refine lv_iload_n C.1 C.2.1 dX9_bound_70 rfl (lv_at hl 6 rfl) ?_
            refine r_iconst C dX9_bound_71 ?_
            refine r_icmp_ne C rfl (show w32 1 = 1 by decide) (tgt := 95) dX9_bound_72 (by decide) (fun h10 => ?_) (fun h10 => ?_)
            · replace hf := if_t hf h10
              refine lv_iload C.1 C.2.1 dX9_bound_75 (lv_at hl 1 rfl) ?_
              refine lv_iload C.1 C.2.1 dX9_bound_77 (lv_at hl 0 rfl) ?_
              refine r_icmp_ne C rfl rfl (tgt := 87) dX9_bound_79 (by decide) (fun h8 => ?_) (fun h8 => ?_)
              · replace hf := if_t hf h8
                refine r_bipush C dX9_bound_82 (by decide) ?_
                refine lv_goto C.1 C.2.1 (tgt := 94) dX9_bound_84 (by decide) ?_
                cases hf
                exact hend _ _ _ _ S dX9_bound_94
              · replace hf := if_f hf h8
                refine lv_iload C.1 C.2.1 dX9_bound_87 (lv_at hl 1 rfl) ?_
                refine lv_iload C.1 C.2.1 dX9_bound_89 (lv_at hl 0 rfl) ?_
                refine r_mmax C (hl.1) tw_671 (by decide) (Nat.le_of_ble_eq_true rfl) dX9_bound_91 ?_
                cases hf
                exact hend _ _ _ _ S dX9_bound_94
            · replace hf := if_f hf h10
              refine lv_iload C.1 C.2.1 dX9_bound_95 (lv_at hl 1 rfl) ?_
              refine lv_iload C.1 C.2.1 dX9_bound_97 (lv_at hl 0 rfl) ?_
              refine r_icmp_le C rfl rfl (tgt := 106) dX9_bound_99 (by decide) (fun h9 => ?_) (fun h9 => ?_)
              · replace hf := if_t hf h9
                refine r_iconst C dX9_bound_106 ?_
                cases hf
                exact hend _ _ _ _ S dX9_bound_107
              · replace hf := if_f hf h9
                refine r_iconst C dX9_bound_102 ?_
                refine lv_goto C.1 C.2.1 (tgt := 107) dX9_bound_103 (by decide) ?_
                cases hf
                exact hend _ _ _ _ S dX9_bound_107
      · replace hf := if_f hf h13
        refine r_iconst C dX9_bound_19 ?_
        cases hf
        exact hend _ _ _ _ S dX9_bound_20
set_option maxRecDepth 100000 in
set_option maxHeartbeats 4000000 in
theorem ct_X0_between (l : Launch) (G : Gd) (τ : Sg) {v1 : Int} {v2 : Int} {σ : Sg} {q : Int} (hf : f_X0_between v1 v2 σ = some q) : Ctr l yX0_between cX0_between 3 (some .int) (rmk 3 66) G true τ [.ref (G.1 6), .int (oI v1), .int (oI v2)] σ σ (some (.int (oI q))) := by
  unfold f_X0_between at hf
  refine CtrI.of (own := RX0) (plainFor_of_name (by decide)) (Nat.le_of_ble_eq_true rfl) rfl (fun p e s m below meth c Q ls C hl S hend => ?_)
  have hl : lv_has ls 3 [(0, .ref (G.1 6)), (1, .int (oI v1)), (2, .int (oI v2))] := hl
  refine lv_aload_n C.1 C.2.1 dX0_between_0 rfl (lv_at hl 0 rfl) ?_
  refine lv_iload_n C.1 C.2.1 dX0_between_1 rfl (lv_at hl 1 rfl) ?_
  refine lv_aload_n C.1 C.2.1 dX0_between_2 rfl (lv_at hl 0 rfl) ?_
  refine lv_iload_n C.1 C.2.1 dX0_between_3 rfl (lv_at hl 2 rfl) ?_
  obtain ⟨q1, hc2, hf⟩ := bd_o hf
  refine r_callVv C S (rest := [.int (oI v1), .ref (G.1 6)]) (ct_X0_xOf l G τ hc2) mi_X0_xOf tw_593 mv_X0_xOf (rvX0 S) ⟨rfl, rfl⟩ ⟨Nat.le_of_ble_eq_true rfl, Nat.le_of_ble_eq_true rfl⟩ ⟨Nat.zero_le _, Nat.zero_le _⟩ rfl hl.1 rfl (Nat.le_of_ble_eq_true rfl) dX0_between_4 (fun H locs S => ?_)
  refine lv_aload_n C.1 C.2.1 dX0_between_7 rfl (lv_at hl 0 rfl) ?_
  refine lv_iload_n C.1 C.2.1 dX0_between_8 rfl (lv_at hl 2 rfl) ?_
  obtain ⟨q3, hc4, hf⟩ := bd_o hf
  refine r_callVv C S (rest := [.int (oI q1), .int (oI v1), .ref (G.1 6)]) (ct_X0_yOf l G τ hc4) mi_X0_yOf tw_597 mv_X0_yOf (rvX0 S) ⟨rfl, rfl⟩ ⟨Nat.le_of_ble_eq_true rfl, Nat.le_of_ble_eq_true rfl⟩ ⟨Nat.zero_le _, Nat.zero_le _⟩ rfl hl.1 rfl (Nat.le_of_ble_eq_true rfl) dX0_between_9 (fun H locs S => ?_)
  obtain ⟨q5, hc6, hf⟩ := bd_o hf
  refine r_callVv C S (rest := []) (ct_X0_apart l G τ hc6) mi_X0_apart tw_682 mv_X0_apart (rvX0 S) ⟨rfl, rfl⟩ ⟨Nat.le_of_ble_eq_true rfl, Nat.le_of_ble_eq_true rfl⟩ ⟨Nat.zero_le _, Nat.zero_le _⟩ rfl hl.1 rfl (Nat.le_of_ble_eq_true rfl) dX0_between_12 (fun H locs S => ?_)
  cases hf
  exact hend _ _ _ _ S dX0_between_15
set_option maxRecDepth 100000 in
set_option maxHeartbeats 4000000 in
theorem b_X9_spread_b87 (C : Cx p s m args c RX9 cX9_spread 6) {q : Int} {k27 : Nat → Int → Int → Option (Int)} {k40 : Nat → Int → Int → Int → Option (Int)} (hend : EndR p l e (rmk 4 88) s m args below meth c Q G true τ cX9_spread .ireturn [.int (oI q)] σ) (hk27 : ∀ {H : Heap} {locs : List Loc} {ls : Array Slot} (t2 : Nat) (v3 : Int) (v4 : Int), t2 < 6 → St G true τ σ s H locs → lv_has ls 6 [(0, .ref (G.1 0)), (2, .ref (G.1 (21 + t2))), (3, .int (oI v3)), (4, .int (oI v4))] → k27 t2 v3 v4 = some q → W p l e (rmk 4 88) s m args below meth c H locs 0 0 Q (F0 m 27 ls [])) (hk40 : ∀ {H : Heap} {locs : List Loc} {ls : Array Slot} (t2 : Nat) (v3 : Int) (v4 : Int) (v5 : Int), t2 < 6 → St G true τ σ s H locs → lv_has ls 6 [(0, .ref (G.1 0)), (2, .ref (G.1 (21 + t2))), (3, .int (oI v3)), (4, .int (oI v4)), (5, .int (oI v5))] → k40 t2 v3 v4 v5 = some q → W p l e (rmk 4 88) s m args below meth c H locs 0 0 Q (F0 m 40 ls [])) {H : Heap} {locs : List Loc} {ls : Array Slot} (t2 : Nat) (v3 : Int) (v4 : Int) (v5 : Int) (ht2 : t2 < 6) (S : St G true τ σ s H locs) (hl : lv_has ls 6 [(0, .ref (G.1 0)), (2, .ref (G.1 (21 + t2))), (3, .int (oI v3)), (4, .int (oI v4)), (5, .int (oI v5))]) (hf : f_X9_spread_b87 σ k27 k40 t2 v3 v4 v5 = some q) : W p l e (rmk 4 88) s m args below meth c H locs 0 0 Q (F0 m 87 ls []) := by
  unfold f_X9_spread_b87 at hf
  refine r_iinc C dX9_spread_87 hl (k := 4) rfl (by decide) (lv' := [(5, .int (oI (v5 + 1))), (0, .ref (G.1 0)), (2, .ref (G.1 (21 + t2))), (3, .int (oI v3)), (4, .int (oI v4))]) rfl (fun ls hl => ?_)
  refine lv_goto C.1 C.2.1 (tgt := 40) dX9_spread_90 (by decide) ?_
  exact hk40 t2 v3 v4 (v5 + 1) (by omega) S (lv_sub hl [1, 2, 3, 4, 0] rfl) hf
set_option maxRecDepth 100000 in
set_option maxHeartbeats 4000000 in
theorem b_X9_spread_b93 (C : Cx p s m args c RX9 cX9_spread 6) {q : Int} {k27 : Nat → Int → Int → Option (Int)} (hend : EndR p l e (rmk 4 88) s m args below meth c Q G true τ cX9_spread .ireturn [.int (oI q)] σ) (hk27 : ∀ {H : Heap} {locs : List Loc} {ls : Array Slot} (t2 : Nat) (v3 : Int) (v4 : Int), t2 < 6 → St G true τ σ s H locs → lv_has ls 6 [(0, .ref (G.1 0)), (2, .ref (G.1 (21 + t2))), (3, .int (oI v3)), (4, .int (oI v4))] → k27 t2 v3 v4 = some q → W p l e (rmk 4 88) s m args below meth c H locs 0 0 Q (F0 m 27 ls [])) {H : Heap} {locs : List Loc} {ls : Array Slot} (t2 : Nat) (v3 : Int) (v4 : Int) (ht2 : t2 < 6) (S : St G true τ σ s H locs) (hl : lv_has ls 6 [(0, .ref (G.1 0)), (2, .ref (G.1 (21 + t2))), (3, .int (oI v3)), (4, .int (oI v4))]) (hf : f_X9_spread_b93 σ k27 t2 v3 v4 = some q) : W p l e (rmk 4 88) s m args below meth c H locs 0 0 Q (F0 m 93 ls []) := by
  unfold f_X9_spread_b93 at hf
  refine r_iinc C dX9_spread_93 hl (k := 3) rfl (by decide) (lv' := [(4, .int (oI (v4 + 1))), (0, .ref (G.1 0)), (2, .ref (G.1 (21 + t2))), (3, .int (oI v3))]) rfl (fun ls hl => ?_)
  refine lv_goto C.1 C.2.1 (tgt := 27) dX9_spread_96 (by decide) ?_
  exact hk27 t2 v3 (v4 + 1) (by omega) S (lv_sub hl [1, 2, 3, 0] rfl) hf
set_option maxRecDepth 100000 in
set_option maxHeartbeats 4000000 in
theorem b_X9_spread_b40 (C : Cx p s m args c RX9 cX9_spread 6) {q : Int} {k27 : Nat → Int → Int → Option (Int)} (hend : EndR p l e (rmk 4 88) s m args below meth c Q G true τ cX9_spread .ireturn [.int (oI q)] σ) (hk27 : ∀ {H : Heap} {locs : List Loc} {ls : Array Slot} (t2 : Nat) (v3 : Int) (v4 : Int), t2 < 6 → St G true τ σ s H locs → lv_has ls 6 [(0, .ref (G.1 0)), (2, .ref (G.1 (21 + t2))), (3, .int (oI v3)), (4, .int (oI v4))] → k27 t2 v3 v4 = some q → W p l e (rmk 4 88) s m args below meth c H locs 0 0 Q (F0 m 27 ls [])) : ∀ (n : Nat) {H : Heap} {locs : List Loc} {ls : Array Slot} (t2 : Nat) (v3 : Int) (v4 : Int) (v5 : Int) (ht2 : t2 < 6) (S : St G true τ σ s H locs) (hl : lv_has ls 6 [(0, .ref (G.1 0)), (2, .ref (G.1 (21 + t2))), (3, .int (oI v3)), (4, .int (oI v4)), (5, .int (oI v5))]) (hf : f_X9_spread_b40 σ k27 n t2 v3 v4 v5 = some q), W p l e (rmk 4 88) s m args below meth c H locs 0 0 Q (F0 m 40 ls []) := by
  intro n
  induction n with
  | zero => intro H locs ls t2 v3 v4 v5 ht2 S hl hf; cases hf
  | succ n ih =>
    intro H locs ls t2 v3 v4 v5 ht2 S hl hf
    have hk40 := @ih
    rw [f_X9_spread_b40] at hf
    refine lv_iload C.1 C.2.1 dX9_spread_40 (lv_at hl 4 rfl) ?_
    refine r_bipush C dX9_spread_42 (by decide) ?_
    refine r_icmp_ge C rfl (show w32 24 = 24 by decide) (tgt := 93) dX9_spread_44 (by decide) (fun h12 => ?_) (fun h12 => ?_)
    · replace hf := if_t hf h12
      refine lv_aload_n C.1 C.2.1 dX9_spread_47 rfl (lv_at hl 1 rfl) ?_
      refine g8_worstSet C (d := t2) S (by omega) tw_157 dX9_spread_48 ?_
      refine lv_iload C.1 C.2.1 dX9_spread_51 (lv_at hl 3 rfl) ?_
      obtain ⟨q4, hc5, hf⟩ := bd_o hf
      refine r_callSv C S (rest := []) (ct_X9_contains l G τ hc5) mi_X9_contains tw_661 ms_X9_contains ⟨rfl, rfl⟩ ⟨Nat.le_of_ble_eq_true rfl, Nat.le_of_ble_eq_true rfl⟩ ⟨Nat.zero_le _, Nat.zero_le _⟩ rfl hl.1 rfl (Nat.le_of_ble_eq_true rfl) dX9_spread_53 (fun H locs S => ?_)
      refine r_if_eq C rfl (tgt := 87) dX9_spread_56 (by decide) (fun h11 => ?_) (fun h11 => ?_)
      · replace hf := if_t hf h11
        exact b_X9_spread_b87 C hend hk27 hk40 t2 v3 v4 v5 (by omega) S (lv_sub hl [0, 1, 2, 3, 4] rfl) hf
      · replace hf := if_f hf h11
        refine lv_aload_n C.1 C.2.1 dX9_spread_59 rfl (lv_at hl 1 rfl) ?_
        refine g8_worstSet C (d := t2) S (by omega) tw_157 dX9_spread_60 ?_
        refine lv_iload C.1 C.2.1 dX9_spread_63 (lv_at hl 4 rfl) ?_
        obtain ⟨q6, hc7, hf⟩ := bd_o hf
        refine r_callSv C S (rest := []) (ct_X9_contains l G τ hc7) mi_X9_contains tw_661 ms_X9_contains ⟨rfl, rfl⟩ ⟨Nat.le_of_ble_eq_true rfl, Nat.le_of_ble_eq_true rfl⟩ ⟨Nat.zero_le _, Nat.zero_le _⟩ rfl hl.1 rfl (Nat.le_of_ble_eq_true rfl) dX9_spread_65 (fun H locs S => ?_)
        refine r_if_eq C rfl (tgt := 87) dX9_spread_68 (by decide) (fun h10 => ?_) (fun h10 => ?_)
        · replace hf := if_t hf h10
          exact b_X9_spread_b87 C hend hk27 hk40 t2 v3 v4 v5 (by omega) S (lv_sub hl [0, 1, 2, 3, 4] rfl) hf
        · replace hf := if_f hf h10
          refine lv_iload_n C.1 C.2.1 dX9_spread_71 rfl (lv_at hl 2 rfl) ?_
          refine lv_aload_n C.1 C.2.1 dX9_spread_72 rfl (lv_at hl 0 rfl) ?_
          refine g9_book C S tw_282 dX9_spread_73 ?_
          refine lv_iload C.1 C.2.1 dX9_spread_76 (lv_at hl 3 rfl) ?_
          refine lv_iload C.1 C.2.1 dX9_spread_78 (lv_at hl 4 rfl) ?_
          obtain ⟨q8, hc9, hf⟩ := bd_o hf
          refine r_callVv C S (rest := [.int (oI v3)]) (ct_X0_between l G τ hc9) mi_X0_between tw_678 mv_X0_between (rvX0 S) ⟨rfl, rfl⟩ ⟨Nat.le_of_ble_eq_true rfl, Nat.le_of_ble_eq_true rfl⟩ ⟨Nat.zero_le _, Nat.zero_le _⟩ rfl hl.1 rfl (Nat.le_of_ble_eq_true rfl) dX9_spread_80 (fun H locs S => ?_)
          refine r_mmax C (hl.1) tw_671 (by decide) (Nat.le_of_ble_eq_true rfl) dX9_spread_83 ?_
          refine lv_istore_n C.1 C.2.1 dX9_spread_86 rfl hl (by decide) (lv' := [(3, .int (oI (mmaxI v3 q8))), (0, .ref (G.1 0)), (2, .ref (G.1 (21 + t2))), (4, .int (oI v4)), (5, .int (oI v5))]) rfl (fun ls hl => ?_)
          exact b_X9_spread_b87 C hend hk27 hk40 t2 (mmaxI v3 q8) v4 v5 (by omega) S (lv_sub hl [1, 2, 0, 3, 4] rfl) hf
    · replace hf := if_f hf h12
      exact b_X9_spread_b93 C hend hk27 t2 v3 v4 (by omega) S (lv_sub hl [0, 1, 2, 3] rfl) hf
set_option maxRecDepth 100000 in
set_option maxHeartbeats 4000000 in
theorem b_X9_spread_b27 (C : Cx p s m args c RX9 cX9_spread 6) {q : Int} (hend : EndR p l e (rmk 4 88) s m args below meth c Q G true τ cX9_spread .ireturn [.int (oI q)] σ) : ∀ (n : Nat) {H : Heap} {locs : List Loc} {ls : Array Slot} (t2 : Nat) (v3 : Int) (v4 : Int) (ht2 : t2 < 6) (S : St G true τ σ s H locs) (hl : lv_has ls 6 [(0, .ref (G.1 0)), (2, .ref (G.1 (21 + t2))), (3, .int (oI v3)), (4, .int (oI v4))]) (hf : f_X9_spread_b27 σ n t2 v3 v4 = some q), W p l e (rmk 4 88) s m args below meth c H locs 0 0 Q (F0 m 27 ls []) := by
  intro n
  induction n with
  | zero => intro H locs ls t2 v3 v4 ht2 S hl hf; cases hf
  | succ n ih =>
    intro H locs ls t2 v3 v4 ht2 S hl hf
    have hk27 := @ih
    rw [f_X9_spread_b27] at hf
    refine lv_iload C.1 C.2.1 dX9_spread_27 (lv_at hl 3 rfl) ?_
    refine r_bipush C dX9_spread_29 (by decide) ?_
    refine r_icmp_ge C rfl (show w32 24 = 24 by decide) (tgt := 99) dX9_spread_31 (by decide) (fun h13 => ?_) (fun h13 => ?_)
    · replace hf := if_t hf h13
      refine lv_iload C.1 C.2.1 dX9_spread_34 (lv_at hl 3 rfl) ?_
      refine r_iconst C dX9_spread_36 ?_
      refine r_iadd C dX9_spread_37 ?_
      refine lv_istore C.1 C.2.1 dX9_spread_38 hl (by decide) (lv' := [(5, .int (oI (v4 + 1))), (0, .ref (G.1 0)), (2, .ref (G.1 (21 + t2))), (3, .int (oI v3)), (4, .int (oI v4))]) rfl (fun ls hl => ?_)
      exact b_X9_spread_b40 C hend hk27 FUEL t2 v3 v4 (v4 + 1) (by omega) S (lv_sub hl [1, 2, 3, 4, 0] rfl) hf
    · replace hf := if_f hf h13
      refine lv_iload_n C.1 C.2.1 dX9_spread_99 rfl (lv_at hl 2 rfl) ?_
      cases hf
      exact hend _ _ _ _ S dX9_spread_100
set_option maxRecDepth 100000 in
set_option maxHeartbeats 4000000 in
theorem ct_X9_spread (l : Launch) (G : Gd) (τ : Sg) {v1 : Int} {σ : Sg} {q : Int} (hf : f_X9_spread v1 σ = some q) : Ctr l yX9_spread cX9_spread 6 (some .int) (rmk 4 88) G true τ [.ref (G.1 0), .int (oI v1)] σ σ (some (.int (oI q))) := by
  unfold f_X9_spread at hf
  refine CtrI.of (own := RX9) (plainFor_of_name (by decide)) (Nat.le_of_ble_eq_true rfl) rfl (fun p e s m below meth c Q ls C hl S hend => ?_)
  have hl : lv_has ls 6 [(0, .ref (G.1 0)), (1, .int (oI v1))] := hl
  refine lv_aload_n C.1 C.2.1 dX9_spread_0 rfl (lv_at hl 0 rfl) ?_
  refine lv_iload_n C.1 C.2.1 dX9_spread_1 rfl (lv_at hl 1 rfl) ?_
  obtain ⟨q1, hc2, hf⟩ := bd_o hf
  refine r_callVv C S (rest := []) (ct_X9_treatyAt l G τ hc2) mi_X9_treatyAt tw_528 mv_X9_treatyAt (rvX9 S) ⟨rfl, rfl⟩ ⟨Nat.le_of_ble_eq_true rfl, Nat.le_of_ble_eq_true rfl⟩ ⟨Nat.zero_le _, Nat.zero_le _⟩ rfl hl.1 rfl (Nat.le_of_ble_eq_true rfl) dX9_spread_2 (fun H locs S => ?_)
  rcases q1 with _ | t3
  · replace hf := oT_n hf
    refine lv_astore_nN C.1 C.2.1 dX9_spread_5 rfl hl (by decide) (lv' := [(2, .null), (0, .ref (G.1 0)), (1, .int (oI v1))]) rfl (fun ls hl => ?_)
    refine lv_aload_nN C.1 C.2.1 dX9_spread_6 rfl (lv_at hl 0 rfl) ?_
    refine lv_ifnonnullN C.1 C.2.1 dX9_spread_7 ?_
    refine r_iconst C dX9_spread_10 ?_
    cases hf
    exact hend _ _ _ _ S dX9_spread_11
  · obtain ⟨ht3, hf⟩ := oT_s hf
    refine lv_astore_n C.1 C.2.1 dX9_spread_5 rfl hl (by decide) (lv' := [(2, .ref (G.1 (21 + t3))), (0, .ref (G.1 0)), (1, .int (oI v1))]) rfl (fun ls hl => ?_)
    refine lv_aload_n C.1 C.2.1 dX9_spread_6 rfl (lv_at hl 0 rfl) ?_
    refine lv_ifnonnull C.1 C.2.1 (tgt := 12) dX9_spread_7 (by decide) ?_
    refine lv_aload_n C.1 C.2.1 dX9_spread_12 rfl (lv_at hl 0 rfl) ?_
    refine g8_worstSet C (d := t3) S (by omega) tw_157 dX9_spread_13 ?_
    refine r_if_ne C rfl (tgt := 22) dX9_spread_16 (by decide) (fun h14 => ?_) (fun h14 => ?_)
    · replace hf := if_t hf h14
      refine r_bipush C dX9_spread_19 (by decide) ?_
      cases hf
      exact hend _ _ _ _ S dX9_spread_21
    · replace hf := if_f hf h14
      refine r_iconst C dX9_spread_22 ?_
      refine lv_istore_n C.1 C.2.1 dX9_spread_23 rfl hl (by decide) (lv' := [(3, .int (oI 0)), (2, .ref (G.1 (21 + t3))), (0, .ref (G.1 0)), (1, .int (oI v1))]) rfl (fun ls hl => ?_)
      refine r_iconst C dX9_spread_24 ?_
      refine lv_istore C.1 C.2.1 dX9_spread_25 hl (by decide) (lv' := [(4, .int (oI 0)), (3, .int (oI 0)), (2, .ref (G.1 (21 + t3))), (0, .ref (G.1 0)), (1, .int (oI v1))]) rfl (fun ls hl => ?_)
      exact b_X9_spread_b27 C hend FUEL t3 0 0 (by omega) S (lv_sub hl [3, 2, 1, 0] rfl) hf
set_option maxRecDepth 100000 in
set_option maxHeartbeats 4000000 in
theorem b_X1_isPoint_b68 (C : Cx p s m args c RX1 cX1_isPoint 3) {q : Int × Sg} {k2 : Int → Int → Sg → Option (Int × Sg)} (hend : (q.1 = 0 ∨ q.1 = 1) → EndR p l e (rmk 2 48) s m args below meth c Q G true τ cX1_isPoint .ireturn [.int (oI q.1)] q.2) (hk2 : ∀ {H : Heap} {locs : List Loc} {ls : Array Slot} {σ : Sg} (v1 : Int) (v2 : Int), St G true τ σ s H locs → lv_has ls 3 [(0, .ref (G.1 20)), (1, .int (oI v1)), (2, .int (oI v2))] → k2 v1 v2 σ = some q → W p l e (rmk 2 48) s m args below meth c H locs 0 0 Q (F0 m 2 ls [])) {H : Heap} {locs : List Loc} {ls : Array Slot} {σ : Sg} (v1 : Int) (v2 : Int) (S : St G true τ σ s H locs) (hl : lv_has ls 3 [(0, .ref (G.1 20)), (1, .int (oI v1)), (2, .int (oI v2))]) (hf : f_X1_isPoint_b68 k2 v1 v2 σ = some q) : W p l e (rmk 2 48) s m args below meth c H locs 0 0 Q (F0 m 68 ls []) := by
  unfold f_X1_isPoint_b68 at hf
  refine r_iinc C dX1_isPoint_68 hl (k := 2) rfl (by decide) (lv' := [(2, .int (oI (v2 + 1))), (0, .ref (G.1 20)), (1, .int (oI v1))]) rfl (fun ls hl => ?_)
  refine lv_goto C.1 C.2.1 (tgt := 2) dX1_isPoint_71 (by decide) ?_
  exact hk2 v1 (v2 + 1) S (lv_sub hl [1, 2, 0] rfl) hf
set_option maxRecDepth 100000 in
set_option maxHeartbeats 4000000 in
theorem b_X1_isPoint_b65 (C : Cx p s m args c RX1 cX1_isPoint 3) {q : Int × Sg} {k2 : Int → Int → Sg → Option (Int × Sg)} (hend : (q.1 = 0 ∨ q.1 = 1) → EndR p l e (rmk 2 48) s m args below meth c Q G true τ cX1_isPoint .ireturn [.int (oI q.1)] q.2) (hk2 : ∀ {H : Heap} {locs : List Loc} {ls : Array Slot} {σ : Sg} (v1 : Int) (v2 : Int), St G true τ σ s H locs → lv_has ls 3 [(0, .ref (G.1 20)), (1, .int (oI v1)), (2, .int (oI v2))] → k2 v1 v2 σ = some q → W p l e (rmk 2 48) s m args below meth c H locs 0 0 Q (F0 m 2 ls [])) {H : Heap} {locs : List Loc} {ls : Array Slot} {σ : Sg} (v1 : Int) (v2 : Int) (w0 : Int) (S : St G true τ σ s H locs) (hl : lv_has ls 3 [(0, .ref (G.1 20)), (1, .int (oI v1)), (2, .int (oI v2))]) (hf : f_X1_isPoint_b65 k2 v1 v2 w0 σ = some q) : W p l e (rmk 2 48) s m args below meth c H locs 0 0 Q (F0 m 65 ls [.int (oI w0), .ref (G.1 20)]) := by
  unfold f_X1_isPoint_b65 at hf
  refine p1_first C S tw_261 dX1_isPoint_65 (fun H locs S => ?_)
  obtain ⟨σ9, S, hf⟩ := wr_s S hf
  exact b_X1_isPoint_b68 C hend hk2 v1 v2 S (lv_sub hl [0, 1, 2] rfl) hf
set_option maxRecDepth 100000 in
set_option maxHeartbeats 4000000 in
theorem b_X1_isPoint_b74 (C : Cx p s m args c RX1 cX1_isPoint 3) {q : Int × Sg} (hend : (q.1 = 0 ∨ q.1 = 1) → EndR p l e (rmk 2 48) s m args below meth c Q G true τ cX1_isPoint .ireturn [.int (oI q.1)] q.2) {H : Heap} {locs : List Loc} {ls : Array Slot} {σ : Sg} (S : St G true τ σ s H locs) (hl : lv_has ls 3 [(0, .ref (G.1 20))]) (hf : f_X1_isPoint_b74 σ = some q) : W p l e (rmk 2 48) s m args below meth c H locs 0 0 Q (F0 m 74 ls []) := by
  unfold f_X1_isPoint_b74 at hf
  refine lv_aload_n C.1 C.2.1 dX1_isPoint_74 rfl (lv_at hl 0 rfl) ?_
  refine r_lconst C (z := 0) dX1_isPoint_75 (by decide) ?_
  refine p1_above C S tw_257 dX1_isPoint_76 (fun H locs S => ?_)
  obtain ⟨σ13, S, hf⟩ := wr_s S hf
  refine lv_aload_n C.1 C.2.1 dX1_isPoint_79 rfl (lv_at hl 0 rfl) ?_
  refine r_lconst C (z := 1) dX1_isPoint_80 (by decide) ?_
  refine p1_below C S tw_259 dX1_isPoint_81 (fun H locs S => ?_)
  obtain ⟨σ14, S, hf⟩ := wr_s S hf
  refine r_iconst C dX1_isPoint_84 ?_
  cases hf
  exact hend (Or.inr rfl) _ _ _ _ S dX1_isPoint_85
set_option maxRecDepth 100000 in
set_option maxHeartbeats 4000000 in
theorem b_X1_isPoint_b2 (C : Cx p s m args c RX1 cX1_isPoint 3) {q : Int × Sg} (hend : (q.1 = 0 ∨ q.1 = 1) → EndR p l e (rmk 2 48) s m args below meth c Q G true τ cX1_isPoint .ireturn [.int (oI q.1)] q.2) : ∀ (n : Nat) {H : Heap} {locs : List Loc} {ls : Array Slot} {σ : Sg} (v1 : Int) (v2 : Int) (S : St G true τ σ s H locs) (hl : lv_has ls 3 [(0, .ref (G.1 20)), (1, .int (oI v1)), (2, .int (oI v2))]) (hf : f_X1_isPoint_b2 n v1 v2 σ = some q), W p l e (rmk 2 48) s m args below meth c H locs 0 0 Q (F0 m 2 ls []) := by
  intro n
  induction n with
  | zero => intro H locs ls σ v1 v2 S hl hf; cases hf
  | succ n ih =>
    intro H locs ls σ v1 v2 S hl hf
    have hk2 := @ih
    rw [f_X1_isPoint_b2] at hf
    refine lv_iload_n C.1 C.2.1 dX1_isPoint_2 rfl (lv_at hl 2 rfl) ?_
    refine r_bipush C dX1_isPoint_3 (by decide) ?_
    refine r_icmp_ge C rfl (show w32 24 = 24 by decide) (tgt := 74) dX1_isPoint_5 (by decide) (fun h15 => ?_) (fun h15 => ?_)
    · replace hf := if_t hf h15
      refine lv_iload_n C.1 C.2.1 dX1_isPoint_8 rfl (lv_at hl 1 rfl) ?_
      refine lv_iload_n C.1 C.2.1 dX1_isPoint_9 rfl (lv_at hl 2 rfl) ?_
      obtain ⟨q1, hc2, hf⟩ := bd_o hf
      refine r_callSNv C S (rest := []) (ct_X9_contains l G τ hc2) mi_X9_contains (nw_697 S.2.2.2) ms_X9_contains ⟨rfl, rfl⟩ ⟨Nat.le_of_ble_eq_true rfl, Nat.le_of_ble_eq_true rfl⟩ ⟨Nat.zero_le _, Nat.zero_le _⟩ rfl hl.1 rfl (Nat.le_of_ble_eq_true rfl) dX1_isPoint_10 (fun H locs S => ?_)
      refine r_if_eq C rfl (tgt := 68) dX1_isPoint_13 (by decide) (fun h12 => ?_) (fun h12 => ?_)
      · replace hf := if_t hf h12
        exact b_X1_isPoint_b68 C hend hk2 v1 v2 S (lv_sub hl [0, 1, 2] rfl) hf
      · replace hf := if_f hf h12
        refine lv_iload_n C.1 C.2.1 dX1_isPoint_16 rfl (lv_at hl 1 rfl) ?_
        refine lv_aload_n C.1 C.2.1 dX1_isPoint_17 rfl (lv_at hl 0 rfl) ?_
        refine g1_book C S tw_256 dX1_isPoint_18 ?_
        refine lv_aload_n C.1 C.2.1 dX1_isPoint_21 rfl (lv_at hl 0 rfl) ?_
        refine g1_book C S tw_256 dX1_isPoint_22 ?_
        refine lv_iload_n C.1 C.2.1 dX1_isPoint_25 rfl (lv_at hl 2 rfl) ?_
        obtain ⟨q3, hc4, hf⟩ := bd_o hf
        refine r_callVv C S (rest := [.ref (G.1 6), .int (oI v1)]) (ct_X0_xOf l G τ hc4) mi_X0_xOf tw_698 mv_X0_xOf (rvX0 S) ⟨rfl, rfl⟩ ⟨Nat.le_of_ble_eq_true rfl, Nat.le_of_ble_eq_true rfl⟩ ⟨Nat.zero_le _, Nat.zero_le _⟩ rfl hl.1 rfl (Nat.le_of_ble_eq_true rfl) dX1_isPoint_26 (fun H locs S => ?_)
        refine lv_aload_n C.1 C.2.1 dX1_isPoint_29 rfl (lv_at hl 0 rfl) ?_
        refine g1_book C S tw_256 dX1_isPoint_30 ?_
        refine lv_iload_n C.1 C.2.1 dX1_isPoint_33 rfl (lv_at hl 2 rfl) ?_
        obtain ⟨q5, hc6, hf⟩ := bd_o hf
        refine r_callVv C S (rest := [.int (oI q3), .ref (G.1 6), .int (oI v1)]) (ct_X0_yOf l G τ hc6) mi_X0_yOf tw_699 mv_X0_yOf (rvX0 S) ⟨rfl, rfl⟩ ⟨Nat.le_of_ble_eq_true rfl, Nat.le_of_ble_eq_true rfl⟩ ⟨Nat.zero_le _, Nat.zero_le _⟩ rfl hl.1 rfl (Nat.le_of_ble_eq_true rfl) dX1_isPoint_34 (fun H locs S => ?_)
        refine r_iconst C dX1_isPoint_37 ?_
        obtain ⟨q7, hc8, hf⟩ := bd_o hf
        refine r_callVv C S (rest := [.int (oI v1)]) (ct_X0_within l G τ hc8) mi_X0_within tw_700 mv_X0_within (rvX0 S) ⟨rfl, rfl⟩ ⟨Nat.le_of_ble_eq_true rfl, Nat.le_of_ble_eq_true rfl⟩ ⟨Nat.zero_le _, Nat.zero_le _⟩ rfl hl.1 rfl (Nat.le_of_ble_eq_true rfl) dX1_isPoint_38 (fun H locs S => ?_)
        refine r_iconst C dX1_isPoint_41 ?_
        refine r_ixor C rfl (show u32 (-1) = 4294967295 by decide) dX1_isPoint_42 ?_
        refine r_iand C rfl (u32_nat (nb_xor (u32_lt _) (show 4294967295 < 4294967296 by decide))) dX1_isPoint_43 ?_
        refine r_if_eq C rfl (tgt := 49) dX1_isPoint_44 (by decide) (fun h11 => ?_) (fun h11 => ?_)
        · replace hf := if_t hf h11
          refine lv_aload_n C.1 C.2.1 dX1_isPoint_49 rfl (lv_at hl 0 rfl) ?_
          refine lv_aload_n C.1 C.2.1 dX1_isPoint_50 rfl (lv_at hl 0 rfl) ?_
          refine g1_first C S tw_261 dX1_isPoint_51 ?_
          refine r_if_ge C rfl (tgt := 61) dX1_isPoint_54 (by decide) (fun h10 => ?_) (fun h10 => ?_)
          · replace hf := if_t hf h10
            refine lv_iload_n C.1 C.2.1 dX1_isPoint_57 rfl (lv_at hl 2 rfl) ?_
            refine lv_goto C.1 C.2.1 (tgt := 65) dX1_isPoint_58 (by decide) ?_
            exact b_X1_isPoint_b65 C hend hk2 v1 v2 v2 S (lv_sub hl [0, 1, 2] rfl) hf
          · replace hf := if_f hf h10
            refine lv_aload_n C.1 C.2.1 dX1_isPoint_61 rfl (lv_at hl 0 rfl) ?_
            refine g1_first C S tw_261 dX1_isPoint_62 ?_
            exact b_X1_isPoint_b65 C hend hk2 v1 v2 (σ 20 3) S (lv_sub hl [0, 1, 2] rfl) hf
        · replace hf := if_f hf h11
          refine r_iconst C dX1_isPoint_47 ?_
          cases hf
          exact hend (Or.inl rfl) _ _ _ _ S dX1_isPoint_48
    · replace hf := if_f hf h15
      exact b_X1_isPoint_b74 C hend S (lv_sub hl [0] rfl) hf
set_option maxRecDepth 100000 in
set_option maxHeartbeats 4000000 in
theorem ct_X1_isPoint (l : Launch) (G : Gd) (τ : Sg) {v1 : Int} {σ : Sg} {q : Int × Sg} (hf : f_X1_isPoint v1 σ = some q) : Ctr l yX1_isPoint cX1_isPoint 3 (some .boolean) (rmk 2 48) G true τ [.ref (G.1 20), .int (oI v1)] σ q.2 (some (.int (oI q.1))) := by
  unfold f_X1_isPoint at hf
  refine CtrZ.of (own := RX1) (plainFor_of_name (by decide)) (Nat.le_of_ble_eq_true rfl) rfl (fun p e s m below meth c Q ls C hl S hend => ?_)
  have hl : lv_has ls 3 [(0, .ref (G.1 20)), (1, .int (oI v1))] := hl
  refine r_iconst C dX1_isPoint_0 ?_
  refine lv_istore_n C.1 C.2.1 dX1_isPoint_1 rfl hl (by decide) (lv' := [(2, .int (oI 0)), (0, .ref (G.1 20)), (1, .int (oI v1))]) rfl (fun ls hl => ?_)
  exact b_X1_isPoint_b2 C hend FUEL v1 0 S (lv_sub hl [1, 2, 0] rfl) hf
set_option maxRecDepth 100000 in
set_option maxHeartbeats 4000000 in
theorem ct_X1_corner (l : Launch) (G : Gd) (τ : Sg) {v1 : Int} {v2 : Int} {v3 : Int} {σ : Sg} {q : Int} (hf : f_X1_corner v1 v2 v3 σ = some q) : Ctr l yX1_corner cX1_corner 4 (some .int) (rmk 2 41) G true τ [.ref (G.1 20), .int (oI v1), .int (oI v2), .int (oI v3)] σ σ (some (.int (oI q))) := by
  unfold f_X1_corner at hf
  refine CtrI.of (own := RX1) (plainFor_of_name (by decide)) (Nat.le_of_ble_eq_true rfl) rfl (fun p e s m below meth c Q ls C hl S hend => ?_)
  have hl : lv_has ls 4 [(0, .ref (G.1 20)), (1, .int (oI v1)), (2, .int (oI v2)), (3, .int (oI v3))] := hl
  refine lv_aload_n C.1 C.2.1 dX1_corner_0 rfl (lv_at hl 0 rfl) ?_
  refine g1_book C S tw_256 dX1_corner_1 ?_
  refine lv_iload_n C.1 C.2.1 dX1_corner_4 rfl (lv_at hl 2 rfl) ?_
  obtain ⟨q1, hc2, hf⟩ := bd_o hf
  refine r_callVv C S (rest := []) (ct_X0_xOf l G τ hc2) mi_X0_xOf tw_698 mv_X0_xOf (rvX0 S) ⟨rfl, rfl⟩ ⟨Nat.le_of_ble_eq_true rfl, Nat.le_of_ble_eq_true rfl⟩ ⟨Nat.zero_le _, Nat.zero_le _⟩ rfl hl.1 rfl (Nat.le_of_ble_eq_true rfl) dX1_corner_5 (fun H locs S => ?_)
  refine lv_aload_n C.1 C.2.1 dX1_corner_8 rfl (lv_at hl 0 rfl) ?_
  refine g1_book C S tw_256 dX1_corner_9 ?_
  refine lv_iload_n C.1 C.2.1 dX1_corner_12 rfl (lv_at hl 1 rfl) ?_
  obtain ⟨q3, hc4, hf⟩ := bd_o hf
  refine r_callVv C S (rest := [.int (oI q1)]) (ct_X0_xOf l G τ hc4) mi_X0_xOf tw_698 mv_X0_xOf (rvX0 S) ⟨rfl, rfl⟩ ⟨Nat.le_of_ble_eq_true rfl, Nat.le_of_ble_eq_true rfl⟩ ⟨Nat.zero_le _, Nat.zero_le _⟩ rfl hl.1 rfl (Nat.le_of_ble_eq_true rfl) dX1_corner_13 (fun H locs S => ?_)
  refine r_isub C dX1_corner_16 ?_
  refine lv_aload_n C.1 C.2.1 dX1_corner_17 rfl (lv_at hl 0 rfl) ?_
  refine g1_book C S tw_256 dX1_corner_18 ?_
  refine lv_iload_n C.1 C.2.1 dX1_corner_21 rfl (lv_at hl 3 rfl) ?_
  obtain ⟨q5, hc6, hf⟩ := bd_o hf
  refine r_callVv C S (rest := [.int (oI (q1 - q3))]) (ct_X0_xOf l G τ hc6) mi_X0_xOf tw_698 mv_X0_xOf (rvX0 S) ⟨rfl, rfl⟩ ⟨Nat.le_of_ble_eq_true rfl, Nat.le_of_ble_eq_true rfl⟩ ⟨Nat.zero_le _, Nat.zero_le _⟩ rfl hl.1 rfl (Nat.le_of_ble_eq_true rfl) dX1_corner_22 (fun H locs S => ?_)
  refine lv_aload_n C.1 C.2.1 dX1_corner_25 rfl (lv_at hl 0 rfl) ?_
  refine g1_book C S tw_256 dX1_corner_26 ?_
  refine lv_iload_n C.1 C.2.1 dX1_corner_29 rfl (lv_at hl 1 rfl) ?_
  obtain ⟨q7, hc8, hf⟩ := bd_o hf
  refine r_callVv C S (rest := [.int (oI q5), .int (oI (q1 - q3))]) (ct_X0_xOf l G τ hc8) mi_X0_xOf tw_698 mv_X0_xOf (rvX0 S) ⟨rfl, rfl⟩ ⟨Nat.le_of_ble_eq_true rfl, Nat.le_of_ble_eq_true rfl⟩ ⟨Nat.zero_le _, Nat.zero_le _⟩ rfl hl.1 rfl (Nat.le_of_ble_eq_true rfl) dX1_corner_30 (fun H locs S => ?_)
  refine r_isub C dX1_corner_33 ?_
  refine r_imul C dX1_corner_34 ?_
  refine lv_aload_n C.1 C.2.1 dX1_corner_35 rfl (lv_at hl 0 rfl) ?_
  refine g1_book C S tw_256 dX1_corner_36 ?_
  refine lv_iload_n C.1 C.2.1 dX1_corner_39 rfl (lv_at hl 2 rfl) ?_
  obtain ⟨q9, hc10, hf⟩ := bd_o hf
  refine r_callVv C S (rest := [.int (oI ((q1 - q3) * (q5 - q7)))]) (ct_X0_yOf l G τ hc10) mi_X0_yOf tw_699 mv_X0_yOf (rvX0 S) ⟨rfl, rfl⟩ ⟨Nat.le_of_ble_eq_true rfl, Nat.le_of_ble_eq_true rfl⟩ ⟨Nat.zero_le _, Nat.zero_le _⟩ rfl hl.1 rfl (Nat.le_of_ble_eq_true rfl) dX1_corner_40 (fun H locs S => ?_)
  refine lv_aload_n C.1 C.2.1 dX1_corner_43 rfl (lv_at hl 0 rfl) ?_
  refine g1_book C S tw_256 dX1_corner_44 ?_
  refine lv_iload_n C.1 C.2.1 dX1_corner_47 rfl (lv_at hl 1 rfl) ?_
  obtain ⟨q11, hc12, hf⟩ := bd_o hf
  refine r_callVv C S (rest := [.int (oI q9), .int (oI ((q1 - q3) * (q5 - q7)))]) (ct_X0_yOf l G τ hc12) mi_X0_yOf tw_699 mv_X0_yOf (rvX0 S) ⟨rfl, rfl⟩ ⟨Nat.le_of_ble_eq_true rfl, Nat.le_of_ble_eq_true rfl⟩ ⟨Nat.zero_le _, Nat.zero_le _⟩ rfl hl.1 rfl (Nat.le_of_ble_eq_true rfl) dX1_corner_48 (fun H locs S => ?_)
  refine r_isub C dX1_corner_51 ?_
  refine lv_aload_n C.1 C.2.1 dX1_corner_52 rfl (lv_at hl 0 rfl) ?_
  refine g1_book C S tw_256 dX1_corner_53 ?_
  refine lv_iload_n C.1 C.2.1 dX1_corner_56 rfl (lv_at hl 3 rfl) ?_
  obtain ⟨q13, hc14, hf⟩ := bd_o hf
  refine r_callVv C S (rest := [.int (oI (q9 - q11)), .int (oI ((q1 - q3) * (q5 - q7)))]) (ct_X0_yOf l G τ hc14) mi_X0_yOf tw_699 mv_X0_yOf (rvX0 S) ⟨rfl, rfl⟩ ⟨Nat.le_of_ble_eq_true rfl, Nat.le_of_ble_eq_true rfl⟩ ⟨Nat.zero_le _, Nat.zero_le _⟩ rfl hl.1 rfl (Nat.le_of_ble_eq_true rfl) dX1_corner_57 (fun H locs S => ?_)
  refine lv_aload_n C.1 C.2.1 dX1_corner_60 rfl (lv_at hl 0 rfl) ?_
  refine g1_book C S tw_256 dX1_corner_61 ?_
  refine lv_iload_n C.1 C.2.1 dX1_corner_64 rfl (lv_at hl 1 rfl) ?_
  obtain ⟨q15, hc16, hf⟩ := bd_o hf
  refine r_callVv C S (rest := [.int (oI q13), .int (oI (q9 - q11)), .int (oI ((q1 - q3) * (q5 - q7)))]) (ct_X0_yOf l G τ hc16) mi_X0_yOf tw_699 mv_X0_yOf (rvX0 S) ⟨rfl, rfl⟩ ⟨Nat.le_of_ble_eq_true rfl, Nat.le_of_ble_eq_true rfl⟩ ⟨Nat.zero_le _, Nat.zero_le _⟩ rfl hl.1 rfl (Nat.le_of_ble_eq_true rfl) dX1_corner_65 (fun H locs S => ?_)
  refine r_isub C dX1_corner_68 ?_
  refine r_imul C dX1_corner_69 ?_
  refine r_iadd C dX1_corner_70 ?_
  cases hf
  exact hend _ _ _ _ S dX1_corner_71
set_option maxRecDepth 100000 in
set_option maxHeartbeats 4000000 in
theorem b_X1_isDiameter_b32 (C : Cx p s m args c RX1 cX1_isDiameter 5) {q : Int} {k3 : Int → Int → Int → Int → Option (Int)} (hend : (q = 0 ∨ q = 1) → EndR p l e (rmk 3 64) s m args below meth c Q G true τ cX1_isDiameter .ireturn [.int (oI q)] σ) (hk3 : ∀ {H : Heap} {locs : List Loc} {ls : Array Slot} (v1 : Int) (v2 : Int) (v3 : Int) (v4 : Int), St G true τ σ s H locs → lv_has ls 5 [(0, .ref (G.1 20)), (1, .int (oI v1)), (2, .int (oI v2)), (3, .int (oI v3)), (4, .int (oI v4))] → k3 v1 v2 v3 v4 = some q → W p l e (rmk 3 64) s m args below meth c H locs 0 0 Q (F0 m 3 ls [])) {H : Heap} {locs : List Loc} {ls : Array Slot} (v1 : Int) (v2 : Int) (v3 : Int) (v4 : Int) (S : St G true τ σ s H locs) (hl : lv_has ls 5 [(0, .ref (G.1 20)), (1, .int (oI v1)), (2, .int (oI v2)), (3, .int (oI v3)), (4, .int (oI v4))]) (hf : f_X1_isDiameter_b32 σ k3 v1 v2 v3 v4 = some q) : W p l e (rmk 3 64) s m args below meth c H locs 0 0 Q (F0 m 32 ls []) := by
  unfold f_X1_isDiameter_b32 at hf
  refine r_iinc C dX1_isDiameter_32 hl (k := 4) rfl (by decide) (lv' := [(4, .int (oI (v4 + 1))), (0, .ref (G.1 20)), (1, .int (oI v1)), (2, .int (oI v2)), (3, .int (oI v3))]) rfl (fun ls hl => ?_)
  refine lv_goto C.1 C.2.1 (tgt := 3) dX1_isDiameter_35 (by decide) ?_
  exact hk3 v1 v2 v3 (v4 + 1) S (lv_sub hl [1, 2, 3, 4, 0] rfl) hf
set_option maxRecDepth 100000 in
set_option maxHeartbeats 4000000 in
theorem b_X1_isDiameter_b3 (C : Cx p s m args c RX1 cX1_isDiameter 5) {q : Int} (hend : (q = 0 ∨ q = 1) → EndR p l e (rmk 3 64) s m args below meth c Q G true τ cX1_isDiameter .ireturn [.int (oI q)] σ) : ∀ (n : Nat) {H : Heap} {locs : List Loc} {ls : Array Slot} (v1 : Int) (v2 : Int) (v3 : Int) (v4 : Int) (S : St G true τ σ s H locs) (hl : lv_has ls 5 [(0, .ref (G.1 20)), (1, .int (oI v1)), (2, .int (oI v2)), (3, .int (oI v3)), (4, .int (oI v4))]) (hf : f_X1_isDiameter_b3 σ n v1 v2 v3 v4 = some q), W p l e (rmk 3 64) s m args below meth c H locs 0 0 Q (F0 m 3 ls []) := by
  intro n
  induction n with
  | zero => intro H locs ls v1 v2 v3 v4 S hl hf; cases hf
  | succ n ih =>
    intro H locs ls v1 v2 v3 v4 S hl hf
    have hk3 := @ih
    rw [f_X1_isDiameter_b3] at hf
    refine lv_iload C.1 C.2.1 dX1_isDiameter_3 (lv_at hl 4 rfl) ?_
    refine r_bipush C dX1_isDiameter_5 (by decide) ?_
    refine r_icmp_ge C rfl (show w32 24 = 24 by decide) (tgt := 38) dX1_isDiameter_7 (by decide) (fun h7 => ?_) (fun h7 => ?_)
    · replace hf := if_t hf h7
      refine lv_iload_n C.1 C.2.1 dX1_isDiameter_10 rfl (lv_at hl 3 rfl) ?_
      refine lv_iload C.1 C.2.1 dX1_isDiameter_11 (lv_at hl 4 rfl) ?_
      obtain ⟨q1, hc2, hf⟩ := bd_o hf
      refine r_callSNv C S (rest := []) (ct_X9_contains l G τ hc2) mi_X9_contains (nw_697 S.2.2.2) ms_X9_contains ⟨rfl, rfl⟩ ⟨Nat.le_of_ble_eq_true rfl, Nat.le_of_ble_eq_true rfl⟩ ⟨Nat.zero_le _, Nat.zero_le _⟩ rfl hl.1 rfl (Nat.le_of_ble_eq_true rfl) dX1_isDiameter_13 (fun H locs S => ?_)
      refine r_if_eq C rfl (tgt := 32) dX1_isDiameter_16 (by decide) (fun h6 => ?_) (fun h6 => ?_)
      · replace hf := if_t hf h6
        exact b_X1_isDiameter_b32 C hend hk3 v1 v2 v3 v4 S (lv_sub hl [0, 1, 2, 3, 4] rfl) hf
      · replace hf := if_f hf h6
        refine lv_aload_n C.1 C.2.1 dX1_isDiameter_19 rfl (lv_at hl 0 rfl) ?_
        refine lv_iload C.1 C.2.1 dX1_isDiameter_20 (lv_at hl 4 rfl) ?_
        refine lv_iload_n C.1 C.2.1 dX1_isDiameter_22 rfl (lv_at hl 1 rfl) ?_
        refine lv_iload_n C.1 C.2.1 dX1_isDiameter_23 rfl (lv_at hl 2 rfl) ?_
        obtain ⟨q3, hc4, hf⟩ := bd_o hf
        refine r_callVv C S (rest := []) (ct_X1_corner l G τ hc4) mi_X1_corner tw_709 mv_X1_corner (rvX1 S) ⟨rfl, rfl⟩ ⟨Nat.le_of_ble_eq_true rfl, Nat.le_of_ble_eq_true rfl⟩ ⟨Nat.zero_le _, Nat.zero_le _⟩ rfl hl.1 rfl (Nat.le_of_ble_eq_true rfl) dX1_isDiameter_24 (fun H locs S => ?_)
        refine r_if_le C rfl (tgt := 32) dX1_isDiameter_27 (by decide) (fun h5 => ?_) (fun h5 => ?_)
        · replace hf := if_t hf h5
          exact b_X1_isDiameter_b32 C hend hk3 v1 v2 v3 v4 S (lv_sub hl [0, 1, 2, 3, 4] rfl) hf
        · replace hf := if_f hf h5
          refine r_iconst C dX1_isDiameter_30 ?_
          cases hf
          exact hend (Or.inl rfl) _ _ _ _ S dX1_isDiameter_31
    · replace hf := if_f hf h7
      refine r_iconst C dX1_isDiameter_38 ?_
      cases hf
      exact hend (Or.inr rfl) _ _ _ _ S dX1_isDiameter_39
set_option maxRecDepth 100000 in
set_option maxHeartbeats 4000000 in
theorem ct_X1_isDiameter (l : Launch) (G : Gd) (τ : Sg) {v1 : Int} {v2 : Int} {v3 : Int} {σ : Sg} {q : Int} (hf : f_X1_isDiameter v1 v2 v3 σ = some q) : Ctr l yX1_isDiameter cX1_isDiameter 5 (some .boolean) (rmk 3 64) G true τ [.ref (G.1 20), .int (oI v1), .int (oI v2), .int (oI v3)] σ σ (some (.int (oI q))) := by
  unfold f_X1_isDiameter at hf
  refine CtrZ.of (own := RX1) (plainFor_of_name (by decide)) (Nat.le_of_ble_eq_true rfl) rfl (fun p e s m below meth c Q ls C hl S hend => ?_)
  have hl : lv_has ls 5 [(0, .ref (G.1 20)), (1, .int (oI v1)), (2, .int (oI v2)), (3, .int (oI v3))] := hl
  refine r_iconst C dX1_isDiameter_0 ?_
  refine lv_istore C.1 C.2.1 dX1_isDiameter_1 hl (by decide) (lv' := [(4, .int (oI 0)), (0, .ref (G.1 20)), (1, .int (oI v1)), (2, .int (oI v2)), (3, .int (oI v3))]) rfl (fun ls hl => ?_)
  exact b_X1_isDiameter_b3 C hend FUEL v1 v2 v3 0 S (lv_sub hl [1, 2, 3, 4, 0] rfl) hf
set_option maxRecDepth 100000 in
set_option maxHeartbeats 4000000 in
theorem b_X1_reduce_b80 (C : Cx p s m args c RX1 cX1_reduce 12) {q : Sg} (hend : EndR p l e (rmk 0 0) s m args below meth c Q G true τ cX1_reduce .return_ [] q) {H : Heap} {locs : List Loc} {ls : Array Slot} {σ : Sg} (w0 : Int) (S : St G true τ σ s H locs) (hl : lv_has ls 12 []) (hf : f_X1_reduce_b80 w0 σ = some q) : W p l e (rmk 0 0) s m args below meth c H locs 0 0 Q (F0 m 80 ls [.long (oL w0), .ref (G.1 20)]) := by
  unfold f_X1_reduce_b80 at hf
  refine p1_below C S tw_259 dX1_reduce_80 (fun H locs S => ?_)
  obtain ⟨σ2, S, hf⟩ := wr_s S hf
  cases hf
  exact hend _ _ _ _ S dX1_reduce_83
set_option maxRecDepth 100000 in
set_option maxHeartbeats 4000000 in
theorem b_X1_reduce_b61 (C : Cx p s m args c RX1 cX1_reduce 12) {q : Sg} (hend : EndR p l e (rmk 0 0) s m args below meth c Q G true τ cX1_reduce .return_ [] q) {H : Heap} {locs : List Loc} {ls : Array Slot} {σ : Sg} (v3 : Int) (v5 : Int) (w0 : Int) (S : St G true τ σ s H locs) (hl : lv_has ls 12 [(0, .ref (G.1 20)), (3, .long (oL v3)), (5, .long (oL v5))]) (hf : f_X1_reduce_b61 v3 v5 w0 σ = some q) : W p l e (rmk 0 0) s m args below meth c H locs 0 0 Q (F0 m 61 ls [.long (oL w0), .ref (G.1 20)]) := by
  unfold f_X1_reduce_b61 at hf
  refine p1_above C S tw_257 dX1_reduce_61 (fun H locs S => ?_)
  obtain ⟨σ1, S, hf⟩ := wr_s S hf
  refine lv_aload_n C.1 C.2.1 dX1_reduce_64 rfl (lv_at hl 0 rfl) ?_
  refine lv_lload C.1 C.2.1 dX1_reduce_65 (lv_at hl 2 rfl) ?_
  refine r_lconst C (z := 0) dX1_reduce_67 (by decide) ?_
  refine r_lcmp_ne C rfl (show w64 0 = 0 by decide) (tgt := 76) dX1_reduce_68 dX1_reduce_69 (by decide) (fun h4 => ?_) (fun h4 => ?_)
  · replace hf := if_t hf h4
    refine lv_lload_n C.1 C.2.1 dX1_reduce_72 rfl (lv_at hl 1 rfl) ?_
    refine lv_goto C.1 C.2.1 (tgt := 80) dX1_reduce_73 (by decide) ?_
    exact b_X1_reduce_b80 C hend v3 S (lv_sub hl [] rfl) hf
  · replace hf := if_f hf h4
    refine lv_lload_n C.1 C.2.1 dX1_reduce_76 rfl (lv_at hl 1 rfl) ?_
    refine lv_lload C.1 C.2.1 dX1_reduce_77 (lv_at hl 2 rfl) ?_
    obtain ⟨hz3, hf⟩ := ck_o hf
    refine r_ldiv C hz3 dX1_reduce_79 ?_
    exact b_X1_reduce_b80 C hend ((w64 v3).tdiv (w64 v5)) S (lv_sub hl [] rfl) hf
set_option maxRecDepth 100000 in
set_option maxHeartbeats 4000000 in
theorem b_X1_reduce_b45 (C : Cx p s m args c RX1 cX1_reduce 12) {q : Sg} (hend : EndR p l e (rmk 0 0) s m args below meth c Q G true τ cX1_reduce .return_ [] q) {H : Heap} {locs : List Loc} {ls : Array Slot} {σ : Sg} (v1 : Int) (v3 : Int) (v5 : Int) (S : St G true τ σ s H locs) (hl : lv_has ls 12 [(0, .ref (G.1 20)), (1, .long (oL v1)), (3, .long (oL v3)), (5, .long (oL v5))]) (hf : f_X1_reduce_b45 v1 v3 v5 σ = some q) : W p l e (rmk 0 0) s m args below meth c H locs 0 0 Q (F0 m 45 ls []) := by
  unfold f_X1_reduce_b45 at hf
  refine lv_aload_n C.1 C.2.1 dX1_reduce_45 rfl (lv_at hl 0 rfl) ?_
  refine lv_lload C.1 C.2.1 dX1_reduce_46 (lv_at hl 3 rfl) ?_
  refine r_lconst C (z := 0) dX1_reduce_48 (by decide) ?_
  refine r_lcmp_ne C rfl (show w64 0 = 0 by decide) (tgt := 57) dX1_reduce_49 dX1_reduce_50 (by decide) (fun h6 => ?_) (fun h6 => ?_)
  · replace hf := if_t hf h6
    refine lv_lload_n C.1 C.2.1 dX1_reduce_53 rfl (lv_at hl 1 rfl) ?_
    refine lv_goto C.1 C.2.1 (tgt := 61) dX1_reduce_54 (by decide) ?_
    exact b_X1_reduce_b61 C hend v3 v5 v1 S (lv_sub hl [0, 2, 3] rfl) hf
  · replace hf := if_f hf h6
    refine lv_lload_n C.1 C.2.1 dX1_reduce_57 rfl (lv_at hl 1 rfl) ?_
    refine lv_lload C.1 C.2.1 dX1_reduce_58 (lv_at hl 3 rfl) ?_
    obtain ⟨hz5, hf⟩ := ck_o hf
    refine r_ldiv C hz5 dX1_reduce_60 ?_
    exact b_X1_reduce_b61 C hend v3 v5 ((w64 v1).tdiv (w64 v5)) S (lv_sub hl [0, 2, 3] rfl) hf
set_option maxRecDepth 100000 in
set_option maxHeartbeats 4000000 in
theorem b_X1_reduce_b9 (C : Cx p s m args c RX1 cX1_reduce 12) {q : Sg} (hend : EndR p l e (rmk 0 0) s m args below meth c Q G true τ cX1_reduce .return_ [] q) : ∀ (n : Nat) {H : Heap} {locs : List Loc} {ls : Array Slot} {σ : Sg} (v1 : Int) (v3 : Int) (v5 : Int) (v7 : Int) (v9 : Int) (S : St G true τ σ s H locs) (hl : lv_has ls 12 [(0, .ref (G.1 20)), (1, .long (oL v1)), (3, .long (oL v3)), (5, .long (oL v5)), (7, .long (oL v7)), (9, .int (oI v9))]) (hf : f_X1_reduce_b9 n v1 v3 v5 v7 v9 σ = some q), W p l e (rmk 0 0) s m args below meth c H locs 0 0 Q (F0 m 9 ls []) := by
  intro n
  induction n with
  | zero => intro H locs ls σ v1 v3 v5 v7 v9 S hl hf; cases hf
  | succ n ih =>
    intro H locs ls σ v1 v3 v5 v7 v9 S hl hf
    have hk9 := @ih
    rw [f_X1_reduce_b9] at hf
    refine lv_iload C.1 C.2.1 dX1_reduce_9 (lv_at hl 5 rfl) ?_
    refine r_sipush C dX1_reduce_11 (by decide) ?_
    refine r_icmp_ge C rfl (show w32 1000 = 1000 by decide) (tgt := 45) dX1_reduce_14 (by decide) (fun h9 => ?_) (fun h9 => ?_)
    · replace hf := if_t hf h9
      refine lv_lload C.1 C.2.1 dX1_reduce_17 (lv_at hl 4 rfl) ?_
      refine r_lconst C (z := 0) dX1_reduce_19 (by decide) ?_
      refine r_lcmp_eq C rfl (show w64 0 = 0 by decide) (tgt := 45) dX1_reduce_20 dX1_reduce_21 (by decide) (fun h8 => ?_) (fun h8 => ?_)
      · replace hf := if_t hf h8
        exact b_X1_reduce_b45 C hend v1 v3 v5 S (lv_sub hl [0, 1, 2, 3] rfl) hf
      · replace hf := if_f hf h8
        refine lv_lload C.1 C.2.1 dX1_reduce_24 (lv_at hl 3 rfl) ?_
        refine lv_lload C.1 C.2.1 dX1_reduce_26 (lv_at hl 4 rfl) ?_
        obtain ⟨hz7, hf⟩ := ck_o hf
        refine r_lrem C hz7 dX1_reduce_28 ?_
        refine lv_lstore C.1 C.2.1 dX1_reduce_29 hl (by decide) (lv' := [(10, .long (oL ((w64 v5).tmod (w64 v7)))), (0, .ref (G.1 20)), (1, .long (oL v1)), (3, .long (oL v3)), (5, .long (oL v5)), (7, .long (oL v7)), (9, .int (oI v9))]) rfl (fun ls hl => ?_)
        refine lv_lload C.1 C.2.1 dX1_reduce_31 (lv_at hl 5 rfl) ?_
        refine lv_lstore C.1 C.2.1 dX1_reduce_33 hl (by decide) (lv' := [(5, .long (oL v7)), (10, .long (oL ((w64 v5).tmod (w64 v7)))), (0, .ref (G.1 20)), (1, .long (oL v1)), (3, .long (oL v3)), (7, .long (oL v7)), (9, .int (oI v9))]) rfl (fun ls hl => ?_)
        refine lv_lload C.1 C.2.1 dX1_reduce_35 (lv_at hl 1 rfl) ?_
        refine lv_lstore C.1 C.2.1 dX1_reduce_37 hl (by decide) (lv' := [(7, .long (oL ((w64 v5).tmod (w64 v7)))), (5, .long (oL v7)), (10, .long (oL ((w64 v5).tmod (w64 v7)))), (0, .ref (G.1 20)), (1, .long (oL v1)), (3, .long (oL v3)), (9, .int (oI v9))]) rfl (fun ls hl => ?_)
        refine r_iinc C dX1_reduce_39 hl (k := 6) rfl (by decide) (lv' := [(9, .int (oI (v9 + 1))), (7, .long (oL ((w64 v5).tmod (w64 v7)))), (5, .long (oL v7)), (10, .long (oL ((w64 v5).tmod (w64 v7)))), (0, .ref (G.1 20)), (1, .long (oL v1)), (3, .long (oL v3))]) rfl (fun ls hl => ?_)
        refine lv_goto C.1 C.2.1 (tgt := 9) dX1_reduce_42 (by decide) ?_
        exact hk9 v1 v3 v7 ((w64 v5).tmod (w64 v7)) (v9 + 1) S (lv_sub hl [4, 5, 6, 2, 1, 0] rfl) hf
    · replace hf := if_f hf h9
      exact b_X1_reduce_b45 C hend v1 v3 v5 S (lv_sub hl [0, 1, 2, 3] rfl) hf
set_option maxRecDepth 100000 in
set_option maxHeartbeats 4000000 in
theorem ct_X1_reduce (l : Launch) (G : Gd) (τ : Sg) {v1 : Int} {v3 : Int} {σ : Sg} {q : Sg} (hf : f_X1_reduce v1 v3 σ = some q) : Ctr l yX1_reduce cX1_reduce 12 none (rmk 0 0) G true τ [.ref (G.1 20), .long (oL v1), .long (oL v3)] σ q none := by
  unfold f_X1_reduce at hf
  refine CtrV.of (own := RX1) (plainFor_of_name (by decide)) (Nat.le_of_ble_eq_true rfl) rfl (fun p e s m below meth c Q ls C hl S hend => ?_)
  have hl : lv_has ls 12 [(0, .ref (G.1 20)), (1, .long (oL v1)), (3, .long (oL v3))] := hl
  refine lv_lload_n C.1 C.2.1 dX1_reduce_0 rfl (lv_at hl 1 rfl) ?_
  refine lv_lstore C.1 C.2.1 dX1_reduce_1 hl (by decide) (lv' := [(5, .long (oL v1)), (0, .ref (G.1 20)), (1, .long (oL v1)), (3, .long (oL v3))]) rfl (fun ls hl => ?_)
  refine lv_lload_n C.1 C.2.1 dX1_reduce_3 rfl (lv_at hl 3 rfl) ?_
  refine lv_lstore C.1 C.2.1 dX1_reduce_4 hl (by decide) (lv' := [(7, .long (oL v3)), (5, .long (oL v1)), (0, .ref (G.1 20)), (1, .long (oL v1)), (3, .long (oL v3))]) rfl (fun ls hl => ?_)
  refine r_iconst C dX1_reduce_6 ?_
  refine lv_istore C.1 C.2.1 dX1_reduce_7 hl (by decide) (lv' := [(9, .int (oI 0)), (7, .long (oL v3)), (5, .long (oL v1)), (0, .ref (G.1 20)), (1, .long (oL v1)), (3, .long (oL v3))]) rfl (fun ls hl => ?_)
  exact b_X1_reduce_b9 C hend FUEL v1 v3 v1 v3 0 S (lv_sub hl [3, 4, 5, 2, 1, 0] rfl) hf
set_option maxRecDepth 100000 in
set_option maxHeartbeats 4000000 in
theorem b_X1_hasDiameter_b73 (C : Cx p s m args c RX1 cX1_hasDiameter 4) {q : Int × Sg} {k2 : Int → Int → Sg → Option (Int × Sg)} {k12 : Int → Int → Int → Sg → Option (Int × Sg)} (hend : (q.1 = 0 ∨ q.1 = 1) → EndR p l e (rmk 4 88) s m args below meth c Q G true τ cX1_hasDiameter .ireturn [.int (oI q.1)] q.2) (hk2 : ∀ {H : Heap} {locs : List Loc} {ls : Array Slot} {σ : Sg} (v1 : Int) (v2 : Int), St G true τ σ s H locs → lv_has ls 4 [(0, .ref (G.1 20)), (1, .int (oI v1)), (2, .int (oI v2))] → k2 v1 v2 σ = some q → W p l e (rmk 4 88) s m args below meth c H locs 0 0 Q (F0 m 2 ls [])) (hk12 : ∀ {H : Heap} {locs : List Loc} {ls : Array Slot} {σ : Sg} (v1 : Int) (v2 : Int) (v3 : Int), St G true τ σ s H locs → lv_has ls 4 [(0, .ref (G.1 20)), (1, .int (oI v1)), (2, .int (oI v2)), (3, .int (oI v3))] → k12 v1 v2 v3 σ = some q → W p l e (rmk 4 88) s m args below meth c H locs 0 0 Q (F0 m 12 ls [])) {H : Heap} {locs : List Loc} {ls : Array Slot} {σ : Sg} (v1 : Int) (v2 : Int) (v3 : Int) (S : St G true τ σ s H locs) (hl : lv_has ls 4 [(0, .ref (G.1 20)), (1, .int (oI v1)), (2, .int (oI v2)), (3, .int (oI v3))]) (hf : f_X1_hasDiameter_b73 k2 k12 v1 v2 v3 σ = some q) : W p l e (rmk 4 88) s m args below meth c H locs 0 0 Q (F0 m 73 ls []) := by
  unfold f_X1_hasDiameter_b73 at hf
  refine r_iinc C dX1_hasDiameter_73 hl (k := 3) rfl (by decide) (lv' := [(3, .int (oI (v3 + 1))), (0, .ref (G.1 20)), (1, .int (oI v1)), (2, .int (oI v2))]) rfl (fun ls hl => ?_)
  refine lv_goto C.1 C.2.1 (tgt := 12) dX1_hasDiameter_76 (by decide) ?_
  exact hk12 v1 v2 (v3 + 1) S (lv_sub hl [1, 2, 3, 0] rfl) hf
set_option maxRecDepth 100000 in
set_option maxHeartbeats 4000000 in
theorem b_X1_hasDiameter_b44 (C : Cx p s m args c RX1 cX1_hasDiameter 4) {q : Int × Sg} (hend : (q.1 = 0 ∨ q.1 = 1) → EndR p l e (rmk 4 88) s m args below meth c Q G true τ cX1_hasDiameter .ireturn [.int (oI q.1)] q.2) {H : Heap} {locs : List Loc} {ls : Array Slot} {σ : Sg} (v2 : Int) (v3 : Int) (S : St G true τ σ s H locs) (hl : lv_has ls 4 [(0, .ref (G.1 20)), (2, .int (oI v2)), (3, .int (oI v3))]) (hf : f_X1_hasDiameter_b44 v2 v3 σ = some q) : W p l e (rmk 4 88) s m args below meth c H locs 0 0 Q (F0 m 44 ls []) := by
  unfold f_X1_hasDiameter_b44 at hf
  refine lv_aload_n C.1 C.2.1 dX1_hasDiameter_44 rfl (lv_at hl 0 rfl) ?_
  refine lv_iload_n C.1 C.2.1 dX1_hasDiameter_45 rfl (lv_at hl 1 rfl) ?_
  refine p1_first C S tw_261 dX1_hasDiameter_46 (fun H locs S => ?_)
  obtain ⟨σ7, S, hf⟩ := wr_s S hf
  refine lv_aload_n C.1 C.2.1 dX1_hasDiameter_49 rfl (lv_at hl 0 rfl) ?_
  refine lv_iload_n C.1 C.2.1 dX1_hasDiameter_50 rfl (lv_at hl 2 rfl) ?_
  refine p1_second C S tw_263 dX1_hasDiameter_51 (fun H locs S => ?_)
  obtain ⟨σ8, S, hf⟩ := wr_s S hf
  refine lv_aload_n C.1 C.2.1 dX1_hasDiameter_54 rfl (lv_at hl 0 rfl) ?_
  refine lv_aload_n C.1 C.2.1 dX1_hasDiameter_55 rfl (lv_at hl 0 rfl) ?_
  refine g1_book C S tw_256 dX1_hasDiameter_56 ?_
  refine lv_iload_n C.1 C.2.1 dX1_hasDiameter_59 rfl (lv_at hl 1 rfl) ?_
  refine lv_iload_n C.1 C.2.1 dX1_hasDiameter_60 rfl (lv_at hl 2 rfl) ?_
  obtain ⟨q9, hc10, hf⟩ := bd_o hf
  refine r_callVv C S (rest := [.ref (G.1 20)]) (ct_X0_between l G τ hc10) mi_X0_between tw_713 mv_X0_between (rvX0 S) ⟨rfl, rfl⟩ ⟨Nat.le_of_ble_eq_true rfl, Nat.le_of_ble_eq_true rfl⟩ ⟨Nat.zero_le _, Nat.zero_le _⟩ rfl hl.1 rfl (Nat.le_of_ble_eq_true rfl) dX1_hasDiameter_61 (fun H locs S => ?_)
  refine r_i2l C dX1_hasDiameter_64 ?_
  refine r_ldc2 C tw_714 dX1_hasDiameter_65 ?_
  obtain ⟨q11, hc12, hf⟩ := bd_o hf
  refine r_callVn C S (rest := []) (ct_X1_reduce l G τ hc12) mi_X1_reduce tw_715 mv_X1_reduce (rvX1 S) ⟨rfl, rfl⟩ ⟨Nat.le_of_ble_eq_true rfl, Nat.le_of_ble_eq_true rfl⟩ ⟨Nat.zero_le _, Nat.zero_le _⟩ rfl hl.1 rfl (Nat.le_of_ble_eq_true rfl) dX1_hasDiameter_68 (fun H locs S => ?_)
  refine r_iconst C dX1_hasDiameter_71 ?_
  cases hf
  exact hend (Or.inr rfl) _ _ _ _ S dX1_hasDiameter_72
set_option maxRecDepth 100000 in
set_option maxHeartbeats 4000000 in
theorem b_X1_hasDiameter_b79 (C : Cx p s m args c RX1 cX1_hasDiameter 4) {q : Int × Sg} {k2 : Int → Int → Sg → Option (Int × Sg)} (hend : (q.1 = 0 ∨ q.1 = 1) → EndR p l e (rmk 4 88) s m args below meth c Q G true τ cX1_hasDiameter .ireturn [.int (oI q.1)] q.2) (hk2 : ∀ {H : Heap} {locs : List Loc} {ls : Array Slot} {σ : Sg} (v1 : Int) (v2 : Int), St G true τ σ s H locs → lv_has ls 4 [(0, .ref (G.1 20)), (1, .int (oI v1)), (2, .int (oI v2))] → k2 v1 v2 σ = some q → W p l e (rmk 4 88) s m args below meth c H locs 0 0 Q (F0 m 2 ls [])) {H : Heap} {locs : List Loc} {ls : Array Slot} {σ : Sg} (v1 : Int) (v2 : Int) (S : St G true τ σ s H locs) (hl : lv_has ls 4 [(0, .ref (G.1 20)), (1, .int (oI v1)), (2, .int (oI v2))]) (hf : f_X1_hasDiameter_b79 k2 v1 v2 σ = some q) : W p l e (rmk 4 88) s m args below meth c H locs 0 0 Q (F0 m 79 ls []) := by
  unfold f_X1_hasDiameter_b79 at hf
  refine r_iinc C dX1_hasDiameter_79 hl (k := 2) rfl (by decide) (lv' := [(2, .int (oI (v2 + 1))), (0, .ref (G.1 20)), (1, .int (oI v1))]) rfl (fun ls hl => ?_)
  refine lv_goto C.1 C.2.1 (tgt := 2) dX1_hasDiameter_82 (by decide) ?_
  exact hk2 v1 (v2 + 1) S (lv_sub hl [1, 2, 0] rfl) hf
set_option maxRecDepth 100000 in
set_option maxHeartbeats 4000000 in
theorem b_X1_hasDiameter_b12 (C : Cx p s m args c RX1 cX1_hasDiameter 4) {q : Int × Sg} {k2 : Int → Int → Sg → Option (Int × Sg)} (hend : (q.1 = 0 ∨ q.1 = 1) → EndR p l e (rmk 4 88) s m args below meth c Q G true τ cX1_hasDiameter .ireturn [.int (oI q.1)] q.2) (hk2 : ∀ {H : Heap} {locs : List Loc} {ls : Array Slot} {σ : Sg} (v1 : Int) (v2 : Int), St G true τ σ s H locs → lv_has ls 4 [(0, .ref (G.1 20)), (1, .int (oI v1)), (2, .int (oI v2))] → k2 v1 v2 σ = some q → W p l e (rmk 4 88) s m args below meth c H locs 0 0 Q (F0 m 2 ls [])) : ∀ (n : Nat) {H : Heap} {locs : List Loc} {ls : Array Slot} {σ : Sg} (v1 : Int) (v2 : Int) (v3 : Int) (S : St G true τ σ s H locs) (hl : lv_has ls 4 [(0, .ref (G.1 20)), (1, .int (oI v1)), (2, .int (oI v2)), (3, .int (oI v3))]) (hf : f_X1_hasDiameter_b12 k2 n v1 v2 v3 σ = some q), W p l e (rmk 4 88) s m args below meth c H locs 0 0 Q (F0 m 12 ls []) := by
  intro n
  induction n with
  | zero => intro H locs ls σ v1 v2 v3 S hl hf; cases hf
  | succ n ih =>
    intro H locs ls σ v1 v2 v3 S hl hf
    have hk12 := @ih
    rw [f_X1_hasDiameter_b12] at hf
    refine lv_iload_n C.1 C.2.1 dX1_hasDiameter_12 rfl (lv_at hl 3 rfl) ?_
    refine r_bipush C dX1_hasDiameter_13 (by decide) ?_
    refine r_icmp_ge C rfl (show w32 24 = 24 by decide) (tgt := 79) dX1_hasDiameter_15 (by decide) (fun h16 => ?_) (fun h16 => ?_)
    · replace hf := if_t hf h16
      refine lv_iload_n C.1 C.2.1 dX1_hasDiameter_18 rfl (lv_at hl 1 rfl) ?_
      refine lv_iload_n C.1 C.2.1 dX1_hasDiameter_19 rfl (lv_at hl 2 rfl) ?_
      obtain ⟨q1, hc2, hf⟩ := bd_o hf
      refine r_callSNv C S (rest := []) (ct_X9_contains l G τ hc2) mi_X9_contains (nw_697 S.2.2.2) ms_X9_contains ⟨rfl, rfl⟩ ⟨Nat.le_of_ble_eq_true rfl, Nat.le_of_ble_eq_true rfl⟩ ⟨Nat.zero_le _, Nat.zero_le _⟩ rfl hl.1 rfl (Nat.le_of_ble_eq_true rfl) dX1_hasDiameter_20 (fun H locs S => ?_)
      refine r_if_eq C rfl (tgt := 73) dX1_hasDiameter_23 (by decide) (fun h15 => ?_) (fun h15 => ?_)
      · replace hf := if_t hf h15
        exact b_X1_hasDiameter_b73 C hend hk2 hk12 v1 v2 v3 S (lv_sub hl [0, 1, 2, 3] rfl) hf
      · replace hf := if_f hf h15
        refine lv_iload_n C.1 C.2.1 dX1_hasDiameter_26 rfl (lv_at hl 1 rfl) ?_
        refine lv_iload_n C.1 C.2.1 dX1_hasDiameter_27 rfl (lv_at hl 3 rfl) ?_
        obtain ⟨q3, hc4, hf⟩ := bd_o hf
        refine r_callSNv C S (rest := []) (ct_X9_contains l G τ hc4) mi_X9_contains (nw_697 S.2.2.2) ms_X9_contains ⟨rfl, rfl⟩ ⟨Nat.le_of_ble_eq_true rfl, Nat.le_of_ble_eq_true rfl⟩ ⟨Nat.zero_le _, Nat.zero_le _⟩ rfl hl.1 rfl (Nat.le_of_ble_eq_true rfl) dX1_hasDiameter_28 (fun H locs S => ?_)
        refine r_if_eq C rfl (tgt := 73) dX1_hasDiameter_31 (by decide) (fun h14 => ?_) (fun h14 => ?_)
        · replace hf := if_t hf h14
          exact b_X1_hasDiameter_b73 C hend hk2 hk12 v1 v2 v3 S (lv_sub hl [0, 1, 2, 3] rfl) hf
        · replace hf := if_f hf h14
          refine lv_aload_n C.1 C.2.1 dX1_hasDiameter_34 rfl (lv_at hl 0 rfl) ?_
          refine lv_iload_n C.1 C.2.1 dX1_hasDiameter_35 rfl (lv_at hl 2 rfl) ?_
          refine lv_iload_n C.1 C.2.1 dX1_hasDiameter_36 rfl (lv_at hl 3 rfl) ?_
          refine lv_iload_n C.1 C.2.1 dX1_hasDiameter_37 rfl (lv_at hl 1 rfl) ?_
          obtain ⟨q5, hc6, hf⟩ := bd_o hf
          refine r_callVv C S (rest := []) (ct_X1_isDiameter l G τ hc6) mi_X1_isDiameter tw_705 mv_X1_isDiameter (rvX1 S) ⟨rfl, rfl⟩ ⟨Nat.le_of_ble_eq_true rfl, Nat.le_of_ble_eq_true rfl⟩ ⟨Nat.zero_le _, Nat.zero_le _⟩ rfl hl.1 rfl (Nat.le_of_ble_eq_true rfl) dX1_hasDiameter_38 (fun H locs S => ?_)
          refine r_if_eq C rfl (tgt := 73) dX1_hasDiameter_41 (by decide) (fun h13 => ?_) (fun h13 => ?_)
          · replace hf := if_t hf h13
            exact b_X1_hasDiameter_b73 C hend hk2 hk12 v1 v2 v3 S (lv_sub hl [0, 1, 2, 3] rfl) hf
          · replace hf := if_f hf h13
            exact b_X1_hasDiameter_b44 C hend v2 v3 S (lv_sub hl [0, 2, 3] rfl) hf
    · replace hf := if_f hf h16
      exact b_X1_hasDiameter_b79 C hend hk2 v1 v2 S (lv_sub hl [0, 1, 2] rfl) hf
set_option maxRecDepth 100000 in
set_option maxHeartbeats 4000000 in
theorem b_X1_hasDiameter_b2 (C : Cx p s m args c RX1 cX1_hasDiameter 4) {q : Int × Sg} (hend : (q.1 = 0 ∨ q.1 = 1) → EndR p l e (rmk 4 88) s m args below meth c Q G true τ cX1_hasDiameter .ireturn [.int (oI q.1)] q.2) : ∀ (n : Nat) {H : Heap} {locs : List Loc} {ls : Array Slot} {σ : Sg} (v1 : Int) (v2 : Int) (S : St G true τ σ s H locs) (hl : lv_has ls 4 [(0, .ref (G.1 20)), (1, .int (oI v1)), (2, .int (oI v2))]) (hf : f_X1_hasDiameter_b2 n v1 v2 σ = some q), W p l e (rmk 4 88) s m args below meth c H locs 0 0 Q (F0 m 2 ls []) := by
  intro n
  induction n with
  | zero => intro H locs ls σ v1 v2 S hl hf; cases hf
  | succ n ih =>
    intro H locs ls σ v1 v2 S hl hf
    have hk2 := @ih
    rw [f_X1_hasDiameter_b2] at hf
    refine lv_iload_n C.1 C.2.1 dX1_hasDiameter_2 rfl (lv_at hl 2 rfl) ?_
    refine r_bipush C dX1_hasDiameter_3 (by decide) ?_
    refine r_icmp_ge C rfl (show w32 24 = 24 by decide) (tgt := 85) dX1_hasDiameter_5 (by decide) (fun h17 => ?_) (fun h17 => ?_)
    · replace hf := if_t hf h17
      refine lv_iload_n C.1 C.2.1 dX1_hasDiameter_8 rfl (lv_at hl 2 rfl) ?_
      refine r_iconst C dX1_hasDiameter_9 ?_
      refine r_iadd C dX1_hasDiameter_10 ?_
      refine lv_istore_n C.1 C.2.1 dX1_hasDiameter_11 rfl hl (by decide) (lv' := [(3, .int (oI (v2 + 1))), (0, .ref (G.1 20)), (1, .int (oI v1)), (2, .int (oI v2))]) rfl (fun ls hl => ?_)
      exact b_X1_hasDiameter_b12 C hend hk2 FUEL v1 v2 (v2 + 1) S (lv_sub hl [1, 2, 3, 0] rfl) hf
    · replace hf := if_f hf h17
      refine r_iconst C dX1_hasDiameter_85 ?_
      cases hf
      exact hend (Or.inl rfl) _ _ _ _ S dX1_hasDiameter_86
set_option maxRecDepth 100000 in
set_option maxHeartbeats 4000000 in
theorem ct_X1_hasDiameter (l : Launch) (G : Gd) (τ : Sg) {v1 : Int} {σ : Sg} {q : Int × Sg} (hf : f_X1_hasDiameter v1 σ = some q) : Ctr l yX1_hasDiameter cX1_hasDiameter 4 (some .boolean) (rmk 4 88) G true τ [.ref (G.1 20), .int (oI v1)] σ q.2 (some (.int (oI q.1))) := by
  unfold f_X1_hasDiameter at hf
  refine CtrZ.of (own := RX1) (plainFor_of_name (by decide)) (Nat.le_of_ble_eq_true rfl) rfl (fun p e s m below meth c Q ls C hl S hend => ?_)
  have hl : lv_has ls 4 [(0, .ref (G.1 20)), (1, .int (oI v1))] := hl
  refine r_iconst C dX1_hasDiameter_0 ?_
  refine lv_istore_n C.1 C.2.1 dX1_hasDiameter_1 rfl hl (by decide) (lv' := [(2, .int (oI 0)), (0, .ref (G.1 20)), (1, .int (oI v1))]) rfl (fun ls hl => ?_)
  exact b_X1_hasDiameter_b2 C hend FUEL v1 0 S (lv_sub hl [1, 2, 0] rfl) hf
set_option maxRecDepth 100000 in
set_option maxHeartbeats 4000000 in
theorem ct_X1_turn (l : Launch) (G : Gd) (τ : Sg) {v1 : Int} {v2 : Int} {v3 : Int} {σ : Sg} {q : Int} (hf : f_X1_turn v1 v2 v3 σ = some q) : Ctr l yX1_turn cX1_turn 4 (some .long) (rmk 2 41) G true τ [.ref (G.1 20), .int (oI v1), .int (oI v2), .int (oI v3)] σ σ (some (.long (oL q))) := by
  unfold f_X1_turn at hf
  refine CtrJ.of (own := RX1) (plainFor_of_name (by decide)) (Nat.le_of_ble_eq_true rfl) rfl (fun p e s m below meth c Q ls C hl S hend => ?_)
  have hl : lv_has ls 4 [(0, .ref (G.1 20)), (1, .int (oI v1)), (2, .int (oI v2)), (3, .int (oI v3))] := hl
  refine lv_aload_n C.1 C.2.1 dX1_turn_0 rfl (lv_at hl 0 rfl) ?_
  refine g1_book C S tw_256 dX1_turn_1 ?_
  refine lv_iload_n C.1 C.2.1 dX1_turn_4 rfl (lv_at hl 2 rfl) ?_
  obtain ⟨q1, hc2, hf⟩ := bd_o hf
  refine r_callVv C S (rest := []) (ct_X0_xOf l G τ hc2) mi_X0_xOf tw_698 mv_X0_xOf (rvX0 S) ⟨rfl, rfl⟩ ⟨Nat.le_of_ble_eq_true rfl, Nat.le_of_ble_eq_true rfl⟩ ⟨Nat.zero_le _, Nat.zero_le _⟩ rfl hl.1 rfl (Nat.le_of_ble_eq_true rfl) dX1_turn_5 (fun H locs S => ?_)
  refine lv_aload_n C.1 C.2.1 dX1_turn_8 rfl (lv_at hl 0 rfl) ?_
  refine g1_book C S tw_256 dX1_turn_9 ?_
  refine lv_iload_n C.1 C.2.1 dX1_turn_12 rfl (lv_at hl 1 rfl) ?_
  obtain ⟨q3, hc4, hf⟩ := bd_o hf
  refine r_callVv C S (rest := [.int (oI q1)]) (ct_X0_xOf l G τ hc4) mi_X0_xOf tw_698 mv_X0_xOf (rvX0 S) ⟨rfl, rfl⟩ ⟨Nat.le_of_ble_eq_true rfl, Nat.le_of_ble_eq_true rfl⟩ ⟨Nat.zero_le _, Nat.zero_le _⟩ rfl hl.1 rfl (Nat.le_of_ble_eq_true rfl) dX1_turn_13 (fun H locs S => ?_)
  refine r_isub C dX1_turn_16 ?_
  refine r_i2l C dX1_turn_17 ?_
  refine lv_aload_n C.1 C.2.1 dX1_turn_18 rfl (lv_at hl 0 rfl) ?_
  refine g1_book C S tw_256 dX1_turn_19 ?_
  refine lv_iload_n C.1 C.2.1 dX1_turn_22 rfl (lv_at hl 3 rfl) ?_
  obtain ⟨q5, hc6, hf⟩ := bd_o hf
  refine r_callVv C S (rest := [.long (oL (w32 (q1 - q3)))]) (ct_X0_yOf l G τ hc6) mi_X0_yOf tw_699 mv_X0_yOf (rvX0 S) ⟨rfl, rfl⟩ ⟨Nat.le_of_ble_eq_true rfl, Nat.le_of_ble_eq_true rfl⟩ ⟨Nat.zero_le _, Nat.zero_le _⟩ rfl hl.1 rfl (Nat.le_of_ble_eq_true rfl) dX1_turn_23 (fun H locs S => ?_)
  refine lv_aload_n C.1 C.2.1 dX1_turn_26 rfl (lv_at hl 0 rfl) ?_
  refine g1_book C S tw_256 dX1_turn_27 ?_
  refine lv_iload_n C.1 C.2.1 dX1_turn_30 rfl (lv_at hl 1 rfl) ?_
  obtain ⟨q7, hc8, hf⟩ := bd_o hf
  refine r_callVv C S (rest := [.int (oI q5), .long (oL (w32 (q1 - q3)))]) (ct_X0_yOf l G τ hc8) mi_X0_yOf tw_699 mv_X0_yOf (rvX0 S) ⟨rfl, rfl⟩ ⟨Nat.le_of_ble_eq_true rfl, Nat.le_of_ble_eq_true rfl⟩ ⟨Nat.zero_le _, Nat.zero_le _⟩ rfl hl.1 rfl (Nat.le_of_ble_eq_true rfl) dX1_turn_31 (fun H locs S => ?_)
  refine r_isub C dX1_turn_34 ?_
  refine r_i2l C dX1_turn_35 ?_
  refine r_lmul C dX1_turn_36 ?_
  refine lv_aload_n C.1 C.2.1 dX1_turn_37 rfl (lv_at hl 0 rfl) ?_
  refine g1_book C S tw_256 dX1_turn_38 ?_
  refine lv_iload_n C.1 C.2.1 dX1_turn_41 rfl (lv_at hl 2 rfl) ?_
  obtain ⟨q9, hc10, hf⟩ := bd_o hf
  refine r_callVv C S (rest := [.long (oL ((w32 (q1 - q3)) * (w32 (q5 - q7))))]) (ct_X0_yOf l G τ hc10) mi_X0_yOf tw_699 mv_X0_yOf (rvX0 S) ⟨rfl, rfl⟩ ⟨Nat.le_of_ble_eq_true rfl, Nat.le_of_ble_eq_true rfl⟩ ⟨Nat.zero_le _, Nat.zero_le _⟩ rfl hl.1 rfl (Nat.le_of_ble_eq_true rfl) dX1_turn_42 (fun H locs S => ?_)
  refine lv_aload_n C.1 C.2.1 dX1_turn_45 rfl (lv_at hl 0 rfl) ?_
  refine g1_book C S tw_256 dX1_turn_46 ?_
  refine lv_iload_n C.1 C.2.1 dX1_turn_49 rfl (lv_at hl 1 rfl) ?_
  obtain ⟨q11, hc12, hf⟩ := bd_o hf
  refine r_callVv C S (rest := [.int (oI q9), .long (oL ((w32 (q1 - q3)) * (w32 (q5 - q7))))]) (ct_X0_yOf l G τ hc12) mi_X0_yOf tw_699 mv_X0_yOf (rvX0 S) ⟨rfl, rfl⟩ ⟨Nat.le_of_ble_eq_true rfl, Nat.le_of_ble_eq_true rfl⟩ ⟨Nat.zero_le _, Nat.zero_le _⟩ rfl hl.1 rfl (Nat.le_of_ble_eq_true rfl) dX1_turn_50 (fun H locs S => ?_)
  refine r_isub C dX1_turn_53 ?_
  refine r_i2l C dX1_turn_54 ?_
  refine lv_aload_n C.1 C.2.1 dX1_turn_55 rfl (lv_at hl 0 rfl) ?_
  refine g1_book C S tw_256 dX1_turn_56 ?_
  refine lv_iload_n C.1 C.2.1 dX1_turn_59 rfl (lv_at hl 3 rfl) ?_
  obtain ⟨q13, hc14, hf⟩ := bd_o hf
  refine r_callVv C S (rest := [.long (oL (w32 (q9 - q11))), .long (oL ((w32 (q1 - q3)) * (w32 (q5 - q7))))]) (ct_X0_xOf l G τ hc14) mi_X0_xOf tw_698 mv_X0_xOf (rvX0 S) ⟨rfl, rfl⟩ ⟨Nat.le_of_ble_eq_true rfl, Nat.le_of_ble_eq_true rfl⟩ ⟨Nat.zero_le _, Nat.zero_le _⟩ rfl hl.1 rfl (Nat.le_of_ble_eq_true rfl) dX1_turn_60 (fun H locs S => ?_)
  refine lv_aload_n C.1 C.2.1 dX1_turn_63 rfl (lv_at hl 0 rfl) ?_
  refine g1_book C S tw_256 dX1_turn_64 ?_
  refine lv_iload_n C.1 C.2.1 dX1_turn_67 rfl (lv_at hl 1 rfl) ?_
  obtain ⟨q15, hc16, hf⟩ := bd_o hf
  refine r_callVv C S (rest := [.int (oI q13), .long (oL (w32 (q9 - q11))), .long (oL ((w32 (q1 - q3)) * (w32 (q5 - q7))))]) (ct_X0_xOf l G τ hc16) mi_X0_xOf tw_698 mv_X0_xOf (rvX0 S) ⟨rfl, rfl⟩ ⟨Nat.le_of_ble_eq_true rfl, Nat.le_of_ble_eq_true rfl⟩ ⟨Nat.zero_le _, Nat.zero_le _⟩ rfl hl.1 rfl (Nat.le_of_ble_eq_true rfl) dX1_turn_68 (fun H locs S => ?_)
  refine r_isub C dX1_turn_71 ?_
  refine r_i2l C dX1_turn_72 ?_
  refine r_lmul C dX1_turn_73 ?_
  refine r_lsub C dX1_turn_74 ?_
  cases hf
  exact hend _ _ _ _ S dX1_turn_75
set_option maxRecDepth 100000 in
set_option maxHeartbeats 4000000 in
theorem ct_X1_isSharp (l : Launch) (G : Gd) (τ : Sg) {v1 : Int} {v2 : Int} {v3 : Int} {σ : Sg} {q : Int} (hf : f_X1_isSharp v1 v2 v3 σ = some q) : Ctr l yX1_isSharp cX1_isSharp 4 (some .boolean) (rmk 3 64) G true τ [.ref (G.1 20), .int (oI v1), .int (oI v2), .int (oI v3)] σ σ (some (.int (oI q))) := by
  unfold f_X1_isSharp at hf
  refine CtrZ.of (own := RX1) (plainFor_of_name (by decide)) (Nat.le_of_ble_eq_true rfl) rfl (fun p e s m below meth c Q ls C hl S hend => ?_)
  have hl : lv_has ls 4 [(0, .ref (G.1 20)), (1, .int (oI v1)), (2, .int (oI v2)), (3, .int (oI v3))] := hl
  refine lv_aload_n C.1 C.2.1 dX1_isSharp_0 rfl (lv_at hl 0 rfl) ?_
  refine lv_iload_n C.1 C.2.1 dX1_isSharp_1 rfl (lv_at hl 1 rfl) ?_
  refine lv_iload_n C.1 C.2.1 dX1_isSharp_2 rfl (lv_at hl 2 rfl) ?_
  refine lv_iload_n C.1 C.2.1 dX1_isSharp_3 rfl (lv_at hl 3 rfl) ?_
  obtain ⟨q1, hc2, hf⟩ := bd_o hf
  refine r_callVv C S (rest := []) (ct_X1_turn l G τ hc2) mi_X1_turn tw_727 mv_X1_turn (rvX1 S) ⟨rfl, rfl⟩ ⟨Nat.le_of_ble_eq_true rfl, Nat.le_of_ble_eq_true rfl⟩ ⟨Nat.zero_le _, Nat.zero_le _⟩ rfl hl.1 rfl (Nat.le_of_ble_eq_true rfl) dX1_isSharp_4 (fun H locs S => ?_)
  refine r_lconst C (z := 0) dX1_isSharp_7 (by decide) ?_
  refine r_lcmp_eq C rfl (show w64 0 = 0 by decide) (tgt := 46) dX1_isSharp_8 dX1_isSharp_9 (by decide) (fun h12 => ?_) (fun h12 => ?_)
  · replace hf := if_t hf h12
    refine r_iconst C dX1_isSharp_46 ?_
    cases hf
    exact hend (Or.inl rfl) _ _ _ _ S dX1_isSharp_47
  · replace hf := if_f hf h12
    refine lv_aload_n C.1 C.2.1 dX1_isSharp_12 rfl (lv_at hl 0 rfl) ?_
    refine lv_iload_n C.1 C.2.1 dX1_isSharp_13 rfl (lv_at hl 1 rfl) ?_
    refine lv_iload_n C.1 C.2.1 dX1_isSharp_14 rfl (lv_at hl 2 rfl) ?_
    refine lv_iload_n C.1 C.2.1 dX1_isSharp_15 rfl (lv_at hl 3 rfl) ?_
    obtain ⟨q3, hc4, hf⟩ := bd_o hf
    refine r_callVv C S (rest := []) (ct_X1_corner l G τ hc4) mi_X1_corner tw_709 mv_X1_corner (rvX1 S) ⟨rfl, rfl⟩ ⟨Nat.le_of_ble_eq_true rfl, Nat.le_of_ble_eq_true rfl⟩ ⟨Nat.zero_le _, Nat.zero_le _⟩ rfl hl.1 rfl (Nat.le_of_ble_eq_true rfl) dX1_isSharp_16 (fun H locs S => ?_)
    refine r_if_le C rfl (tgt := 46) dX1_isSharp_19 (by decide) (fun h11 => ?_) (fun h11 => ?_)
    · replace hf := if_t hf h11
      refine r_iconst C dX1_isSharp_46 ?_
      cases hf
      exact hend (Or.inl rfl) _ _ _ _ S dX1_isSharp_47
    · replace hf := if_f hf h11
      refine lv_aload_n C.1 C.2.1 dX1_isSharp_22 rfl (lv_at hl 0 rfl) ?_
      refine lv_iload_n C.1 C.2.1 dX1_isSharp_23 rfl (lv_at hl 2 rfl) ?_
      refine lv_iload_n C.1 C.2.1 dX1_isSharp_24 rfl (lv_at hl 3 rfl) ?_
      refine lv_iload_n C.1 C.2.1 dX1_isSharp_25 rfl (lv_at hl 1 rfl) ?_
      obtain ⟨q5, hc6, hf⟩ := bd_o hf
      refine r_callVv C S (rest := []) (ct_X1_corner l G τ hc6) mi_X1_corner tw_709 mv_X1_corner (rvX1 S) ⟨rfl, rfl⟩ ⟨Nat.le_of_ble_eq_true rfl, Nat.le_of_ble_eq_true rfl⟩ ⟨Nat.zero_le _, Nat.zero_le _⟩ rfl hl.1 rfl (Nat.le_of_ble_eq_true rfl) dX1_isSharp_26 (fun H locs S => ?_)
      refine r_if_le C rfl (tgt := 46) dX1_isSharp_29 (by decide) (fun h10 => ?_) (fun h10 => ?_)
      · replace hf := if_t hf h10
        refine r_iconst C dX1_isSharp_46 ?_
        cases hf
        exact hend (Or.inl rfl) _ _ _ _ S dX1_isSharp_47
      · replace hf := if_f hf h10
        refine lv_aload_n C.1 C.2.1 dX1_isSharp_32 rfl (lv_at hl 0 rfl) ?_
        refine lv_iload_n C.1 C.2.1 dX1_isSharp_33 rfl (lv_at hl 3 rfl) ?_
        refine lv_iload_n C.1 C.2.1 dX1_isSharp_34 rfl (lv_at hl 1 rfl) ?_
        refine lv_iload_n C.1 C.2.1 dX1_isSharp_35 rfl (lv_at hl 2 rfl) ?_
        obtain ⟨q7, hc8, hf⟩ := bd_o hf
        refine r_callVv C S (rest := []) (ct_X1_corner l G τ hc8) mi_X1_corner tw_709 mv_X1_corner (rvX1 S) ⟨rfl, rfl⟩ ⟨Nat.le_of_ble_eq_true rfl, Nat.le_of_ble_eq_true rfl⟩ ⟨Nat.zero_le _, Nat.zero_le _⟩ rfl hl.1 rfl (Nat.le_of_ble_eq_true rfl) dX1_isSharp_36 (fun H locs S => ?_)
        refine r_if_le C rfl (tgt := 46) dX1_isSharp_39 (by decide) (fun h9 => ?_) (fun h9 => ?_)
        · replace hf := if_t hf h9
          refine r_iconst C dX1_isSharp_46 ?_
          cases hf
          exact hend (Or.inl rfl) _ _ _ _ S dX1_isSharp_47
        · replace hf := if_f hf h9
          refine r_iconst C dX1_isSharp_42 ?_
          refine lv_goto C.1 C.2.1 (tgt := 47) dX1_isSharp_43 (by decide) ?_
          cases hf
          exact hend (Or.inr rfl) _ _ _ _ S dX1_isSharp_47
set_option maxRecDepth 100000 in
set_option maxHeartbeats 4000000 in
theorem b_X1_isAround_b119 (C : Cx p s m args c RX1 cX1_isAround 10) {q : Int} {k12 : Int → Int → Int → Int → Int → Int → Option (Int)} (hend : (q = 0 ∨ q = 1) → EndR p l e (rmk 4 88) s m args below meth c Q G true τ cX1_isAround .ireturn [.int (oI q)] σ) (hk12 : ∀ {H : Heap} {locs : List Loc} {ls : Array Slot} (v1 : Int) (v2 : Int) (v3 : Int) (v4 : Int) (v5 : Int) (v7 : Int), St G true τ σ s H locs → lv_has ls 10 [(0, .ref (G.1 20)), (1, .int (oI v1)), (2, .int (oI v2)), (3, .int (oI v3)), (4, .int (oI v4)), (5, .long (oL v5)), (7, .int (oI v7))] → k12 v1 v2 v3 v4 v5 v7 = some q → W p l e (rmk 4 88) s m args below meth c H locs 0 0 Q (F0 m 12 ls [])) {H : Heap} {locs : List Loc} {ls : Array Slot} (v1 : Int) (v2 : Int) (v3 : Int) (v4 : Int) (v5 : Int) (v7 : Int) (S : St G true τ σ s H locs) (hl : lv_has ls 10 [(0, .ref (G.1 20)), (1, .int (oI v1)), (2, .int (oI v2)), (3, .int (oI v3)), (4, .int (oI v4)), (5, .long (oL v5)), (7, .int (oI v7))]) (hf : f_X1_isAround_b119 σ k12 v1 v2 v3 v4 v5 v7 = some q) : W p l e (rmk 4 88) s m args below meth c H locs 0 0 Q (F0 m 119 ls []) := by
  unfold f_X1_isAround_b119 at hf
  refine r_iinc C dX1_isAround_119 hl (k := 6) rfl (by decide) (lv' := [(7, .int (oI (v7 + 1))), (0, .ref (G.1 20)), (1, .int (oI v1)), (2, .int (oI v2)), (3, .int (oI v3)), (4, .int (oI v4)), (5, .long (oL v5))]) rfl (fun ls hl => ?_)
  refine lv_goto C.1 C.2.1 (tgt := 12) dX1_isAround_122 (by decide) ?_
  exact hk12 v1 v2 v3 v4 v5 (v7 + 1) S (lv_sub hl [1, 2, 3, 4, 5, 6, 0] rfl) hf
set_option maxRecDepth 100000 in
set_option maxHeartbeats 4000000 in
theorem b_X1_isAround_b12 (C : Cx p s m args c RX1 cX1_isAround 10) {q : Int} (hend : (q = 0 ∨ q = 1) → EndR p l e (rmk 4 88) s m args below meth c Q G true τ cX1_isAround .ireturn [.int (oI q)] σ) : ∀ (n : Nat) {H : Heap} {locs : List Loc} {ls : Array Slot} (v1 : Int) (v2 : Int) (v3 : Int) (v4 : Int) (v5 : Int) (v7 : Int) (S : St G true τ σ s H locs) (hl : lv_has ls 10 [(0, .ref (G.1 20)), (1, .int (oI v1)), (2, .int (oI v2)), (3, .int (oI v3)), (4, .int (oI v4)), (5, .long (oL v5)), (7, .int (oI v7))]) (hf : f_X1_isAround_b12 σ n v1 v2 v3 v4 v5 v7 = some q), W p l e (rmk 4 88) s m args below meth c H locs 0 0 Q (F0 m 12 ls []) := by
  intro n
  induction n with
  | zero => intro H locs ls v1 v2 v3 v4 v5 v7 S hl hf; cases hf
  | succ n ih =>
    intro H locs ls v1 v2 v3 v4 v5 v7 S hl hf
    have hk12 := @ih
    rw [f_X1_isAround_b12] at hf
    refine lv_iload C.1 C.2.1 dX1_isAround_12 (lv_at hl 6 rfl) ?_
    refine r_bipush C dX1_isAround_14 (by decide) ?_
    refine r_icmp_ge C rfl (show w32 24 = 24 by decide) (tgt := 125) dX1_isAround_16 (by decide) (fun h21 => ?_) (fun h21 => ?_)
    · replace hf := if_t hf h21
      refine lv_iload C.1 C.2.1 dX1_isAround_19 (lv_at hl 4 rfl) ?_
      refine lv_iload C.1 C.2.1 dX1_isAround_21 (lv_at hl 6 rfl) ?_
      obtain ⟨q3, hc4, hf⟩ := bd_o hf
      refine r_callSNv C S (rest := []) (ct_X9_contains l G τ hc4) mi_X9_contains (nw_697 S.2.2.2) ms_X9_contains ⟨rfl, rfl⟩ ⟨Nat.le_of_ble_eq_true rfl, Nat.le_of_ble_eq_true rfl⟩ ⟨Nat.zero_le _, Nat.zero_le _⟩ rfl hl.1 rfl (Nat.le_of_ble_eq_true rfl) dX1_isAround_23 (fun H locs S => ?_)
      refine r_if_eq C rfl (tgt := 119) dX1_isAround_26 (by decide) (fun h20 => ?_) (fun h20 => ?_)
      · replace hf := if_t hf h20
        exact b_X1_isAround_b119 C hend hk12 v1 v2 v3 v4 v5 v7 S (lv_sub hl [0, 1, 2, 3, 4, 5, 6] rfl) hf
      · replace hf := if_f hf h20
        refine lv_aload_n C.1 C.2.1 dX1_isAround_29 rfl (lv_at hl 0 rfl) ?_
        refine g1_book C S tw_256 dX1_isAround_30 ?_
        refine lv_iload_n C.1 C.2.1 dX1_isAround_33 rfl (lv_at hl 1 rfl) ?_
        refine lv_iload C.1 C.2.1 dX1_isAround_34 (lv_at hl 6 rfl) ?_
        obtain ⟨q5, hc6, hf⟩ := bd_o hf
        refine r_callVv C S (rest := []) (ct_X0_between l G τ hc6) mi_X0_between tw_713 mv_X0_between (rvX0 S) ⟨rfl, rfl⟩ ⟨Nat.le_of_ble_eq_true rfl, Nat.le_of_ble_eq_true rfl⟩ ⟨Nat.zero_le _, Nat.zero_le _⟩ rfl hl.1 rfl (Nat.le_of_ble_eq_true rfl) dX1_isAround_36 (fun H locs S => ?_)
        refine r_i2l C dX1_isAround_39 ?_
        refine lv_aload_n C.1 C.2.1 dX1_isAround_40 rfl (lv_at hl 0 rfl) ?_
        refine lv_iload C.1 C.2.1 dX1_isAround_41 (lv_at hl 6 rfl) ?_
        refine lv_iload_n C.1 C.2.1 dX1_isAround_43 rfl (lv_at hl 2 rfl) ?_
        refine lv_iload_n C.1 C.2.1 dX1_isAround_44 rfl (lv_at hl 3 rfl) ?_
        obtain ⟨q7, hc8, hf⟩ := bd_o hf
        refine r_callVv C S (rest := [.long (oL (w32 q5))]) (ct_X1_turn l G τ hc8) mi_X1_turn tw_727 mv_X1_turn (rvX1 S) ⟨rfl, rfl⟩ ⟨Nat.le_of_ble_eq_true rfl, Nat.le_of_ble_eq_true rfl⟩ ⟨Nat.zero_le _, Nat.zero_le _⟩ rfl hl.1 rfl (Nat.le_of_ble_eq_true rfl) dX1_isAround_45 (fun H locs S => ?_)
        refine r_lmul C dX1_isAround_48 ?_
        refine lv_aload_n C.1 C.2.1 dX1_isAround_49 rfl (lv_at hl 0 rfl) ?_
        refine g1_book C S tw_256 dX1_isAround_50 ?_
        refine lv_iload_n C.1 C.2.1 dX1_isAround_53 rfl (lv_at hl 2 rfl) ?_
        refine lv_iload C.1 C.2.1 dX1_isAround_54 (lv_at hl 6 rfl) ?_
        obtain ⟨q9, hc10, hf⟩ := bd_o hf
        refine r_callVv C S (rest := [.long (oL ((w32 q5) * q7))]) (ct_X0_between l G τ hc10) mi_X0_between tw_713 mv_X0_between (rvX0 S) ⟨rfl, rfl⟩ ⟨Nat.le_of_ble_eq_true rfl, Nat.le_of_ble_eq_true rfl⟩ ⟨Nat.zero_le _, Nat.zero_le _⟩ rfl hl.1 rfl (Nat.le_of_ble_eq_true rfl) dX1_isAround_56 (fun H locs S => ?_)
        refine r_i2l C dX1_isAround_59 ?_
        refine lv_aload_n C.1 C.2.1 dX1_isAround_60 rfl (lv_at hl 0 rfl) ?_
        refine lv_iload C.1 C.2.1 dX1_isAround_61 (lv_at hl 6 rfl) ?_
        refine lv_iload_n C.1 C.2.1 dX1_isAround_63 rfl (lv_at hl 3 rfl) ?_
        refine lv_iload_n C.1 C.2.1 dX1_isAround_64 rfl (lv_at hl 1 rfl) ?_
        obtain ⟨q11, hc12, hf⟩ := bd_o hf
        refine r_callVv C S (rest := [.long (oL (w32 q9)), .long (oL ((w32 q5) * q7))]) (ct_X1_turn l G τ hc12) mi_X1_turn tw_727 mv_X1_turn (rvX1 S) ⟨rfl, rfl⟩ ⟨Nat.le_of_ble_eq_true rfl, Nat.le_of_ble_eq_true rfl⟩ ⟨Nat.zero_le _, Nat.zero_le _⟩ rfl hl.1 rfl (Nat.le_of_ble_eq_true rfl) dX1_isAround_65 (fun H locs S => ?_)
        refine r_lmul C dX1_isAround_68 ?_
        refine r_ladd C dX1_isAround_69 ?_
        refine lv_aload_n C.1 C.2.1 dX1_isAround_70 rfl (lv_at hl 0 rfl) ?_
        refine g1_book C S tw_256 dX1_isAround_71 ?_
        refine lv_iload_n C.1 C.2.1 dX1_isAround_74 rfl (lv_at hl 3 rfl) ?_
        refine lv_iload C.1 C.2.1 dX1_isAround_75 (lv_at hl 6 rfl) ?_
        obtain ⟨q13, hc14, hf⟩ := bd_o hf
        refine r_callVv C S (rest := [.long (oL (((w32 q5) * q7) + ((w32 q9) * q11)))]) (ct_X0_between l G τ hc14) mi_X0_between tw_713 mv_X0_between (rvX0 S) ⟨rfl, rfl⟩ ⟨Nat.le_of_ble_eq_true rfl, Nat.le_of_ble_eq_true rfl⟩ ⟨Nat.zero_le _, Nat.zero_le _⟩ rfl hl.1 rfl (Nat.le_of_ble_eq_true rfl) dX1_isAround_77 (fun H locs S => ?_)
        refine r_i2l C dX1_isAround_80 ?_
        refine lv_aload_n C.1 C.2.1 dX1_isAround_81 rfl (lv_at hl 0 rfl) ?_
        refine lv_iload C.1 C.2.1 dX1_isAround_82 (lv_at hl 6 rfl) ?_
        refine lv_iload_n C.1 C.2.1 dX1_isAround_84 rfl (lv_at hl 1 rfl) ?_
        refine lv_iload_n C.1 C.2.1 dX1_isAround_85 rfl (lv_at hl 2 rfl) ?_
        obtain ⟨q15, hc16, hf⟩ := bd_o hf
        refine r_callVv C S (rest := [.long (oL (w32 q13)), .long (oL (((w32 q5) * q7) + ((w32 q9) * q11)))]) (ct_X1_turn l G τ hc16) mi_X1_turn tw_727 mv_X1_turn (rvX1 S) ⟨rfl, rfl⟩ ⟨Nat.le_of_ble_eq_true rfl, Nat.le_of_ble_eq_true rfl⟩ ⟨Nat.zero_le _, Nat.zero_le _⟩ rfl hl.1 rfl (Nat.le_of_ble_eq_true rfl) dX1_isAround_86 (fun H locs S => ?_)
        refine r_lmul C dX1_isAround_89 ?_
        refine r_ladd C dX1_isAround_90 ?_
        refine lv_lstore C.1 C.2.1 dX1_isAround_91 hl (by decide) (lv' := [(8, .long (oL ((((w32 q5) * q7) + ((w32 q9) * q11)) + ((w32 q13) * q15)))), (0, .ref (G.1 20)), (1, .int (oI v1)), (2, .int (oI v2)), (3, .int (oI v3)), (4, .int (oI v4)), (5, .long (oL v5)), (7, .int (oI v7))]) rfl (fun ls hl => ?_)
        refine lv_lload C.1 C.2.1 dX1_isAround_93 (lv_at hl 6 rfl) ?_
        refine r_lconst C (z := 0) dX1_isAround_95 (by decide) ?_
        refine r_lcmp_le C rfl (show w64 0 = 0 by decide) (tgt := 110) dX1_isAround_96 dX1_isAround_97 (by decide) (fun h19 => ?_) (fun h19 => ?_)
        · replace hf := if_t hf h19
          refine lv_lload C.1 C.2.1 dX1_isAround_110 (lv_at hl 0 rfl) ?_
          refine r_lconst C (z := 0) dX1_isAround_112 (by decide) ?_
          refine r_lcmp_le C rfl (show w64 0 = 0 by decide) (tgt := 119) dX1_isAround_113 dX1_isAround_114 (by decide) (fun h17 => ?_) (fun h17 => ?_)
          · replace hf := if_t hf h17
            exact b_X1_isAround_b119 C hend hk12 v1 v2 v3 v4 v5 v7 S (lv_sub hl [1, 2, 3, 4, 5, 6, 7] rfl) hf
          · replace hf := if_f hf h17
            refine r_iconst C dX1_isAround_117 ?_
            cases hf
            exact hend (Or.inl rfl) _ _ _ _ S dX1_isAround_118
        · replace hf := if_f hf h19
          refine lv_lload C.1 C.2.1 dX1_isAround_100 (lv_at hl 0 rfl) ?_
          refine r_lconst C (z := 0) dX1_isAround_102 (by decide) ?_
          refine r_lcmp_ge C rfl (show w64 0 = 0 by decide) (tgt := 119) dX1_isAround_103 dX1_isAround_104 (by decide) (fun h18 => ?_) (fun h18 => ?_)
          · replace hf := if_t hf h18
            refine lv_goto C.1 C.2.1 (tgt := 117) dX1_isAround_107 (by decide) ?_
            refine r_iconst C dX1_isAround_117 ?_
            cases hf
            exact hend (Or.inl rfl) _ _ _ _ S dX1_isAround_118
          · replace hf := if_f hf h18
            exact b_X1_isAround_b119 C hend hk12 v1 v2 v3 v4 v5 v7 S (lv_sub hl [1, 2, 3, 4, 5, 6, 7] rfl) hf
    · replace hf := if_f hf h21
      refine r_iconst C dX1_isAround_125 ?_
      cases hf
      exact hend (Or.inr rfl) _ _ _ _ S dX1_isAround_126
set_option maxRecDepth 100000 in
set_option maxHeartbeats 4000000 in
theorem ct_X1_isAround (l : Launch) (G : Gd) (τ : Sg) {v1 : Int} {v2 : Int} {v3 : Int} {v4 : Int} {σ : Sg} {q : Int} (hf : f_X1_isAround v1 v2 v3 v4 σ = some q) : Ctr l yX1_isAround cX1_isAround 10 (some .boolean) (rmk 4 88) G true τ [.ref (G.1 20), .int (oI v1), .int (oI v2), .int (oI v3), .int (oI v4)] σ σ (some (.int (oI q))) := by
  unfold f_X1_isAround at hf
  refine CtrZ.of (own := RX1) (plainFor_of_name (by decide)) (Nat.le_of_ble_eq_true rfl) rfl (fun p e s m below meth c Q ls C hl S hend => ?_)
  have hl : lv_has ls 10 [(0, .ref (G.1 20)), (1, .int (oI v1)), (2, .int (oI v2)), (3, .int (oI v3)), (4, .int (oI v4))] := hl
  refine lv_aload_n C.1 C.2.1 dX1_isAround_0 rfl (lv_at hl 0 rfl) ?_
  refine lv_iload_n C.1 C.2.1 dX1_isAround_1 rfl (lv_at hl 1 rfl) ?_
  refine lv_iload_n C.1 C.2.1 dX1_isAround_2 rfl (lv_at hl 2 rfl) ?_
  refine lv_iload_n C.1 C.2.1 dX1_isAround_3 rfl (lv_at hl 3 rfl) ?_
  obtain ⟨q1, hc2, hf⟩ := bd_o hf
  refine r_callVv C S (rest := []) (ct_X1_turn l G τ hc2) mi_X1_turn tw_727 mv_X1_turn (rvX1 S) ⟨rfl, rfl⟩ ⟨Nat.le_of_ble_eq_true rfl, Nat.le_of_ble_eq_true rfl⟩ ⟨Nat.zero_le _, Nat.zero_le _⟩ rfl hl.1 rfl (Nat.le_of_ble_eq_true rfl) dX1_isAround_4 (fun H locs S => ?_)
  refine lv_lstore C.1 C.2.1 dX1_isAround_7 hl (by decide) (lv' := [(5, .long (oL q1)), (0, .ref (G.1 20)), (1, .int (oI v1)), (2, .int (oI v2)), (3, .int (oI v3)), (4, .int (oI v4))]) rfl (fun ls hl => ?_)
  refine r_iconst C dX1_isAround_9 ?_
  refine lv_istore C.1 C.2.1 dX1_isAround_10 hl (by decide) (lv' := [(7, .int (oI 0)), (5, .long (oL q1)), (0, .ref (G.1 20)), (1, .int (oI v1)), (2, .int (oI v2)), (3, .int (oI v3)), (4, .int (oI v4))]) rfl (fun ls hl => ?_)
  exact b_X1_isAround_b12 C hend FUEL v1 v2 v3 v4 q1 0 S (lv_sub hl [2, 3, 4, 5, 6, 1, 0] rfl) hf
set_option maxRecDepth 100000 in
set_option maxHeartbeats 4000000 in
theorem b_X1_findTriangle_b168 (C : Cx p s m args c RX1 cX1_findTriangle 10) {q : Sg} {k2 : Int → Int → Sg → Option (Sg)} {k12 : Int → Int → Int → Sg → Option (Sg)} {k23 : Int → Int → Int → Int → Sg → Option (Sg)} (hend : EndR p l e (rmk 5 117) s m args below meth c Q G true τ cX1_findTriangle .return_ [] q) (hk2 : ∀ {H : Heap} {locs : List Loc} {ls : Array Slot} {σ : Sg} (v1 : Int) (v2 : Int), St G true τ σ s H locs → lv_has ls 10 [(0, .ref (G.1 20)), (1, .int (oI v1)), (2, .int (oI v2))] → k2 v1 v2 σ = some q → W p l e (rmk 5 117) s m args below meth c H locs 0 0 Q (F0 m 2 ls [])) (hk12 : ∀ {H : Heap} {locs : List Loc} {ls : Array Slot} {σ : Sg} (v1 : Int) (v2 : Int) (v3 : Int), St G true τ σ s H locs → lv_has ls 10 [(0, .ref (G.1 20)), (1, .int (oI v1)), (2, .int (oI v2)), (3, .int (oI v3))] → k12 v1 v2 v3 σ = some q → W p l e (rmk 5 117) s m args below meth c H locs 0 0 Q (F0 m 12 ls [])) (hk23 : ∀ {H : Heap} {locs : List Loc} {ls : Array Slot} {σ : Sg} (v1 : Int) (v2 : Int) (v3 : Int) (v4 : Int), St G true τ σ s H locs → lv_has ls 10 [(0, .ref (G.1 20)), (1, .int (oI v1)), (2, .int (oI v2)), (3, .int (oI v3)), (4, .int (oI v4))] → k23 v1 v2 v3 v4 σ = some q → W p l e (rmk 5 117) s m args below meth c H locs 0 0 Q (F0 m 23 ls [])) {H : Heap} {locs : List Loc} {ls : Array Slot} {σ : Sg} (v1 : Int) (v2 : Int) (v3 : Int) (v4 : Int) (S : St G true τ σ s H locs) (hl : lv_has ls 10 [(0, .ref (G.1 20)), (1, .int (oI v1)), (2, .int (oI v2)), (3, .int (oI v3)), (4, .int (oI v4))]) (hf : f_X1_findTriangle_b168 k2 k12 k23 v1 v2 v3 v4 σ = some q) : W p l e (rmk 5 117) s m args below meth c H locs 0 0 Q (F0 m 168 ls []) := by
  unfold f_X1_findTriangle_b168 at hf
  refine r_iinc C dX1_findTriangle_168 hl (k := 4) rfl (by decide) (lv' := [(4, .int (oI (v4 + 1))), (0, .ref (G.1 20)), (1, .int (oI v1)), (2, .int (oI v2)), (3, .int (oI v3))]) rfl (fun ls hl => ?_)
  refine lv_goto C.1 C.2.1 (tgt := 23) dX1_findTriangle_171 (by decide) ?_
  exact hk23 v1 v2 v3 (v4 + 1) S (lv_sub hl [1, 2, 3, 4, 0] rfl) hf
set_option maxRecDepth 100000 in
set_option maxHeartbeats 4000000 in
theorem b_X1_findTriangle_b90 (C : Cx p s m args c RX1 cX1_findTriangle 10) {q : Sg} (hend : EndR p l e (rmk 5 117) s m args below meth c Q G true τ cX1_findTriangle .return_ [] q) {H : Heap} {locs : List Loc} {ls : Array Slot} {σ : Sg} (v2 : Int) (v3 : Int) (v4 : Int) (S : St G true τ σ s H locs) (hl : lv_has ls 10 [(0, .ref (G.1 20)), (2, .int (oI v2)), (3, .int (oI v3)), (4, .int (oI v4))]) (hf : f_X1_findTriangle_b90 v2 v3 v4 σ = some q) : W p l e (rmk 5 117) s m args below meth c H locs 0 0 Q (F0 m 90 ls []) := by
  unfold f_X1_findTriangle_b90 at hf
  refine lv_aload_n C.1 C.2.1 dX1_findTriangle_90 rfl (lv_at hl 0 rfl) ?_
  refine lv_iload_n C.1 C.2.1 dX1_findTriangle_91 rfl (lv_at hl 1 rfl) ?_
  refine p1_first C S tw_261 dX1_findTriangle_92 (fun H locs S => ?_)
  obtain ⟨σ7, S, hf⟩ := wr_s S hf
  refine lv_aload_n C.1 C.2.1 dX1_findTriangle_95 rfl (lv_at hl 0 rfl) ?_
  refine lv_iload_n C.1 C.2.1 dX1_findTriangle_96 rfl (lv_at hl 2 rfl) ?_
  refine p1_second C S tw_263 dX1_findTriangle_97 (fun H locs S => ?_)
  obtain ⟨σ8, S, hf⟩ := wr_s S hf
  refine lv_aload_n C.1 C.2.1 dX1_findTriangle_100 rfl (lv_at hl 0 rfl) ?_
  refine lv_iload C.1 C.2.1 dX1_findTriangle_101 (lv_at hl 3 rfl) ?_
  refine p1_third C S tw_265 dX1_findTriangle_103 (fun H locs S => ?_)
  obtain ⟨σ9, S, hf⟩ := wr_s S hf
  refine lv_aload_n C.1 C.2.1 dX1_findTriangle_106 rfl (lv_at hl 0 rfl) ?_
  refine lv_iload_n C.1 C.2.1 dX1_findTriangle_107 rfl (lv_at hl 1 rfl) ?_
  refine lv_iload_n C.1 C.2.1 dX1_findTriangle_108 rfl (lv_at hl 2 rfl) ?_
  refine lv_iload C.1 C.2.1 dX1_findTriangle_109 (lv_at hl 3 rfl) ?_
  obtain ⟨q10, hc11, hf⟩ := bd_o hf
  refine r_callVv C S (rest := []) (ct_X1_turn l G τ hc11) mi_X1_turn tw_727 mv_X1_turn (rvX1 S) ⟨rfl, rfl⟩ ⟨Nat.le_of_ble_eq_true rfl, Nat.le_of_ble_eq_true rfl⟩ ⟨Nat.zero_le _, Nat.zero_le _⟩ rfl hl.1 rfl (Nat.le_of_ble_eq_true rfl) dX1_findTriangle_111 (fun H locs S => ?_)
  refine lv_lstore C.1 C.2.1 dX1_findTriangle_114 hl (by decide) (lv' := [(6, .long (oL q10)), (0, .ref (G.1 20)), (2, .int (oI v2)), (3, .int (oI v3)), (4, .int (oI v4))]) rfl (fun ls hl => ?_)
  refine lv_aload_n C.1 C.2.1 dX1_findTriangle_116 rfl (lv_at hl 1 rfl) ?_
  refine g1_book C S tw_256 dX1_findTriangle_117 ?_
  refine lv_iload_n C.1 C.2.1 dX1_findTriangle_120 rfl (lv_at hl 2 rfl) ?_
  refine lv_iload_n C.1 C.2.1 dX1_findTriangle_121 rfl (lv_at hl 3 rfl) ?_
  obtain ⟨q12, hc13, hf⟩ := bd_o hf
  refine r_callVv C S (rest := []) (ct_X0_between l G τ hc13) mi_X0_between tw_713 mv_X0_between (rvX0 S) ⟨rfl, rfl⟩ ⟨Nat.le_of_ble_eq_true rfl, Nat.le_of_ble_eq_true rfl⟩ ⟨Nat.zero_le _, Nat.zero_le _⟩ rfl hl.1 rfl (Nat.le_of_ble_eq_true rfl) dX1_findTriangle_122 (fun H locs S => ?_)
  refine r_i2l C dX1_findTriangle_125 ?_
  refine lv_aload_n C.1 C.2.1 dX1_findTriangle_126 rfl (lv_at hl 1 rfl) ?_
  refine g1_book C S tw_256 dX1_findTriangle_127 ?_
  refine lv_iload_n C.1 C.2.1 dX1_findTriangle_130 rfl (lv_at hl 3 rfl) ?_
  refine lv_iload C.1 C.2.1 dX1_findTriangle_131 (lv_at hl 4 rfl) ?_
  obtain ⟨q14, hc15, hf⟩ := bd_o hf
  refine r_callVv C S (rest := [.long (oL (w32 q12))]) (ct_X0_between l G τ hc15) mi_X0_between tw_713 mv_X0_between (rvX0 S) ⟨rfl, rfl⟩ ⟨Nat.le_of_ble_eq_true rfl, Nat.le_of_ble_eq_true rfl⟩ ⟨Nat.zero_le _, Nat.zero_le _⟩ rfl hl.1 rfl (Nat.le_of_ble_eq_true rfl) dX1_findTriangle_133 (fun H locs S => ?_)
  refine r_i2l C dX1_findTriangle_136 ?_
  refine r_lmul C dX1_findTriangle_137 ?_
  refine lv_aload_n C.1 C.2.1 dX1_findTriangle_138 rfl (lv_at hl 1 rfl) ?_
  refine g1_book C S tw_256 dX1_findTriangle_139 ?_
  refine lv_iload C.1 C.2.1 dX1_findTriangle_142 (lv_at hl 4 rfl) ?_
  refine lv_iload_n C.1 C.2.1 dX1_findTriangle_144 rfl (lv_at hl 2 rfl) ?_
  obtain ⟨q16, hc17, hf⟩ := bd_o hf
  refine r_callVv C S (rest := [.long (oL ((w32 q12) * (w32 q14)))]) (ct_X0_between l G τ hc17) mi_X0_between tw_713 mv_X0_between (rvX0 S) ⟨rfl, rfl⟩ ⟨Nat.le_of_ble_eq_true rfl, Nat.le_of_ble_eq_true rfl⟩ ⟨Nat.zero_le _, Nat.zero_le _⟩ rfl hl.1 rfl (Nat.le_of_ble_eq_true rfl) dX1_findTriangle_145 (fun H locs S => ?_)
  refine r_i2l C dX1_findTriangle_148 ?_
  refine r_lmul C dX1_findTriangle_149 ?_
  refine lv_lstore C.1 C.2.1 dX1_findTriangle_150 hl (by decide) (lv' := [(8, .long (oL (((w32 q12) * (w32 q14)) * (w32 q16)))), (6, .long (oL q10)), (0, .ref (G.1 20)), (2, .int (oI v2)), (3, .int (oI v3)), (4, .int (oI v4))]) rfl (fun ls hl => ?_)
  refine lv_aload_n C.1 C.2.1 dX1_findTriangle_152 rfl (lv_at hl 2 rfl) ?_
  refine lv_lload C.1 C.2.1 dX1_findTriangle_153 (lv_at hl 0 rfl) ?_
  refine r_ldc2 C tw_714 dX1_findTriangle_155 ?_
  refine lv_lload C.1 C.2.1 dX1_findTriangle_158 (lv_at hl 1 rfl) ?_
  refine r_lmul C dX1_findTriangle_160 ?_
  refine lv_lload C.1 C.2.1 dX1_findTriangle_161 (lv_at hl 1 rfl) ?_
  refine r_lmul C dX1_findTriangle_163 ?_
  obtain ⟨q18, hc19, hf⟩ := bd_o hf
  refine r_callVn C S (rest := []) (ct_X1_reduce l G τ hc19) mi_X1_reduce tw_715 mv_X1_reduce (rvX1 S) ⟨rfl, rfl⟩ ⟨Nat.le_of_ble_eq_true rfl, Nat.le_of_ble_eq_true rfl⟩ ⟨Nat.zero_le _, Nat.zero_le _⟩ rfl hl.1 rfl (Nat.le_of_ble_eq_true rfl) dX1_findTriangle_164 (fun H locs S => ?_)
  cases hf
  exact hend _ _ _ _ S dX1_findTriangle_167
set_option maxRecDepth 100000 in
set_option maxHeartbeats 4000000 in
theorem b_X1_findTriangle_b60 (C : Cx p s m args c RX1 cX1_findTriangle 10) {q : Sg} {k2 : Int → Int → Sg → Option (Sg)} {k12 : Int → Int → Int → Sg → Option (Sg)} {k23 : Int → Int → Int → Int → Sg → Option (Sg)} (hend : EndR p l e (rmk 5 117) s m args below meth c Q G true τ cX1_findTriangle .return_ [] q) (hk2 : ∀ {H : Heap} {locs : List Loc} {ls : Array Slot} {σ : Sg} (v1 : Int) (v2 : Int), St G true τ σ s H locs → lv_has ls 10 [(0, .ref (G.1 20)), (1, .int (oI v1)), (2, .int (oI v2))] → k2 v1 v2 σ = some q → W p l e (rmk 5 117) s m args below meth c H locs 0 0 Q (F0 m 2 ls [])) (hk12 : ∀ {H : Heap} {locs : List Loc} {ls : Array Slot} {σ : Sg} (v1 : Int) (v2 : Int) (v3 : Int), St G true τ σ s H locs → lv_has ls 10 [(0, .ref (G.1 20)), (1, .int (oI v1)), (2, .int (oI v2)), (3, .int (oI v3))] → k12 v1 v2 v3 σ = some q → W p l e (rmk 5 117) s m args below meth c H locs 0 0 Q (F0 m 12 ls [])) (hk23 : ∀ {H : Heap} {locs : List Loc} {ls : Array Slot} {σ : Sg} (v1 : Int) (v2 : Int) (v3 : Int) (v4 : Int), St G true τ σ s H locs → lv_has ls 10 [(0, .ref (G.1 20)), (1, .int (oI v1)), (2, .int (oI v2)), (3, .int (oI v3)), (4, .int (oI v4))] → k23 v1 v2 v3 v4 σ = some q → W p l e (rmk 5 117) s m args below meth c H locs 0 0 Q (F0 m 23 ls [])) {H : Heap} {locs : List Loc} {ls : Array Slot} {σ : Sg} (v1 : Int) (v2 : Int) (v3 : Int) (v4 : Int) (w0 : Int) (S : St G true τ σ s H locs) (hl : lv_has ls 10 [(0, .ref (G.1 20)), (1, .int (oI v1)), (2, .int (oI v2)), (3, .int (oI v3)), (4, .int (oI v4))]) (hf : f_X1_findTriangle_b60 k2 k12 k23 v1 v2 v3 v4 w0 σ = some q) : W p l e (rmk 5 117) s m args below meth c H locs 0 0 Q (F0 m 60 ls [.int (oI w0)]) := by
  unfold f_X1_findTriangle_b60 at hf
  refine lv_istore C.1 C.2.1 dX1_findTriangle_60 hl (by decide) (lv' := [(5, .int (oI w0)), (0, .ref (G.1 20)), (1, .int (oI v1)), (2, .int (oI v2)), (3, .int (oI v3)), (4, .int (oI v4))]) rfl (fun ls hl => ?_)
  refine lv_iload C.1 C.2.1 dX1_findTriangle_62 (lv_at hl 0 rfl) ?_
  refine r_if_eq C rfl (tgt := 168) dX1_findTriangle_64 (by decide) (fun h22 => ?_) (fun h22 => ?_)
  · replace hf := if_t hf h22
    exact b_X1_findTriangle_b168 C hend hk2 hk12 hk23 v1 v2 v3 v4 S (lv_sub hl [1, 2, 3, 4, 5] rfl) hf
  · replace hf := if_f hf h22
    refine lv_aload_n C.1 C.2.1 dX1_findTriangle_67 rfl (lv_at hl 1 rfl) ?_
    refine lv_iload_n C.1 C.2.1 dX1_findTriangle_68 rfl (lv_at hl 3 rfl) ?_
    refine lv_iload_n C.1 C.2.1 dX1_findTriangle_69 rfl (lv_at hl 4 rfl) ?_
    refine lv_iload C.1 C.2.1 dX1_findTriangle_70 (lv_at hl 5 rfl) ?_
    obtain ⟨q3, hc4, hf⟩ := bd_o hf
    refine r_callVv C S (rest := []) (ct_X1_isSharp l G τ hc4) mi_X1_isSharp tw_723 mv_X1_isSharp (rvX1 S) ⟨rfl, rfl⟩ ⟨Nat.le_of_ble_eq_true rfl, Nat.le_of_ble_eq_true rfl⟩ ⟨Nat.zero_le _, Nat.zero_le _⟩ rfl hl.1 rfl (Nat.le_of_ble_eq_true rfl) dX1_findTriangle_72 (fun H locs S => ?_)
    refine r_if_eq C rfl (tgt := 168) dX1_findTriangle_75 (by decide) (fun h21 => ?_) (fun h21 => ?_)
    · replace hf := if_t hf h21
      exact b_X1_findTriangle_b168 C hend hk2 hk12 hk23 v1 v2 v3 v4 S (lv_sub hl [1, 2, 3, 4, 5] rfl) hf
    · replace hf := if_f hf h21
      refine lv_aload_n C.1 C.2.1 dX1_findTriangle_78 rfl (lv_at hl 1 rfl) ?_
      refine lv_iload_n C.1 C.2.1 dX1_findTriangle_79 rfl (lv_at hl 3 rfl) ?_
      refine lv_iload_n C.1 C.2.1 dX1_findTriangle_80 rfl (lv_at hl 4 rfl) ?_
      refine lv_iload C.1 C.2.1 dX1_findTriangle_81 (lv_at hl 5 rfl) ?_
      refine lv_iload_n C.1 C.2.1 dX1_findTriangle_83 rfl (lv_at hl 2 rfl) ?_
      obtain ⟨q5, hc6, hf⟩ := bd_o hf
      refine r_callVv C S (rest := []) (ct_X1_isAround l G τ hc6) mi_X1_isAround tw_731 mv_X1_isAround (rvX1 S) ⟨rfl, rfl⟩ ⟨Nat.le_of_ble_eq_true rfl, Nat.le_of_ble_eq_true rfl⟩ ⟨Nat.zero_le _, Nat.zero_le _⟩ rfl hl.1 rfl (Nat.le_of_ble_eq_true rfl) dX1_findTriangle_84 (fun H locs S => ?_)
      refine r_if_eq C rfl (tgt := 168) dX1_findTriangle_87 (by decide) (fun h20 => ?_) (fun h20 => ?_)
      · replace hf := if_t hf h20
        exact b_X1_findTriangle_b168 C hend hk2 hk12 hk23 v1 v2 v3 v4 S (lv_sub hl [1, 2, 3, 4, 5] rfl) hf
      · replace hf := if_f hf h20
        exact b_X1_findTriangle_b90 C hend v2 v3 v4 S (lv_sub hl [1, 3, 4, 5] rfl) hf
set_option maxRecDepth 100000 in
set_option maxHeartbeats 4000000 in
theorem b_X1_findTriangle_b59 (C : Cx p s m args c RX1 cX1_findTriangle 10) {q : Sg} {k2 : Int → Int → Sg → Option (Sg)} {k12 : Int → Int → Int → Sg → Option (Sg)} {k23 : Int → Int → Int → Int → Sg → Option (Sg)} (hend : EndR p l e (rmk 5 117) s m args below meth c Q G true τ cX1_findTriangle .return_ [] q) (hk2 : ∀ {H : Heap} {locs : List Loc} {ls : Array Slot} {σ : Sg} (v1 : Int) (v2 : Int), St G true τ σ s H locs → lv_has ls 10 [(0, .ref (G.1 20)), (1, .int (oI v1)), (2, .int (oI v2))] → k2 v1 v2 σ = some q → W p l e (rmk 5 117) s m args below meth c H locs 0 0 Q (F0 m 2 ls [])) (hk12 : ∀ {H : Heap} {locs : List Loc} {ls : Array Slot} {σ : Sg} (v1 : Int) (v2 : Int) (v3 : Int), St G true τ σ s H locs → lv_has ls 10 [(0, .ref (G.1 20)), (1, .int (oI v1)), (2, .int (oI v2)), (3, .int (oI v3))] → k12 v1 v2 v3 σ = some q → W p l e (rmk 5 117) s m args below meth c H locs 0 0 Q (F0 m 12 ls [])) (hk23 : ∀ {H : Heap} {locs : List Loc} {ls : Array Slot} {σ : Sg} (v1 : Int) (v2 : Int) (v3 : Int) (v4 : Int), St G true τ σ s H locs → lv_has ls 10 [(0, .ref (G.1 20)), (1, .int (oI v1)), (2, .int (oI v2)), (3, .int (oI v3)), (4, .int (oI v4))] → k23 v1 v2 v3 v4 σ = some q → W p l e (rmk 5 117) s m args below meth c H locs 0 0 Q (F0 m 23 ls [])) {H : Heap} {locs : List Loc} {ls : Array Slot} {σ : Sg} (v1 : Int) (v2 : Int) (v3 : Int) (v4 : Int) (S : St G true τ σ s H locs) (hl : lv_has ls 10 [(0, .ref (G.1 20)), (1, .int (oI v1)), (2, .int (oI v2)), (3, .int (oI v3)), (4, .int (oI v4))]) (hf : f_X1_findTriangle_b59 k2 k12 k23 v1 v2 v3 v4 σ = some q) : W p l e (rmk 5 117) s m args below meth c H locs 0 0 Q (F0 m 59 ls []) := by
  unfold f_X1_findTriangle_b59 at hf
  refine r_iconst C dX1_findTriangle_59 ?_
  exact b_X1_findTriangle_b60 C hend hk2 hk12 hk23 v1 v2 v3 v4 0 S (lv_sub hl [0, 1, 2, 3, 4] rfl) hf
set_option maxRecDepth 100000 in
set_option maxHeartbeats 4000000 in
theorem b_X1_findTriangle_b174 (C : Cx p s m args c RX1 cX1_findTriangle 10) {q : Sg} {k2 : Int → Int → Sg → Option (Sg)} {k12 : Int → Int → Int → Sg → Option (Sg)} (hend : EndR p l e (rmk 5 117) s m args below meth c Q G true τ cX1_findTriangle .return_ [] q) (hk2 : ∀ {H : Heap} {locs : List Loc} {ls : Array Slot} {σ : Sg} (v1 : Int) (v2 : Int), St G true τ σ s H locs → lv_has ls 10 [(0, .ref (G.1 20)), (1, .int (oI v1)), (2, .int (oI v2))] → k2 v1 v2 σ = some q → W p l e (rmk 5 117) s m args below meth c H locs 0 0 Q (F0 m 2 ls [])) (hk12 : ∀ {H : Heap} {locs : List Loc} {ls : Array Slot} {σ : Sg} (v1 : Int) (v2 : Int) (v3 : Int), St G true τ σ s H locs → lv_has ls 10 [(0, .ref (G.1 20)), (1, .int (oI v1)), (2, .int (oI v2)), (3, .int (oI v3))] → k12 v1 v2 v3 σ = some q → W p l e (rmk 5 117) s m args below meth c H locs 0 0 Q (F0 m 12 ls [])) {H : Heap} {locs : List Loc} {ls : Array Slot} {σ : Sg} (v1 : Int) (v2 : Int) (v3 : Int) (S : St G true τ σ s H locs) (hl : lv_has ls 10 [(0, .ref (G.1 20)), (1, .int (oI v1)), (2, .int (oI v2)), (3, .int (oI v3))]) (hf : f_X1_findTriangle_b174 k2 k12 v1 v2 v3 σ = some q) : W p l e (rmk 5 117) s m args below meth c H locs 0 0 Q (F0 m 174 ls []) := by
  unfold f_X1_findTriangle_b174 at hf
  refine r_iinc C dX1_findTriangle_174 hl (k := 3) rfl (by decide) (lv' := [(3, .int (oI (v3 + 1))), (0, .ref (G.1 20)), (1, .int (oI v1)), (2, .int (oI v2))]) rfl (fun ls hl => ?_)
  refine lv_goto C.1 C.2.1 (tgt := 12) dX1_findTriangle_177 (by decide) ?_
  exact hk12 v1 v2 (v3 + 1) S (lv_sub hl [1, 2, 3, 0] rfl) hf
set_option maxRecDepth 100000 in
set_option maxHeartbeats 4000000 in
theorem b_X1_findTriangle_b23 (C : Cx p s m args c RX1 cX1_findTriangle 10) {q : Sg} {k2 : Int → Int → Sg → Option (Sg)} {k12 : Int → Int → Int → Sg → Option (Sg)} (hend : EndR p l e (rmk 5 117) s m args below meth c Q G true τ cX1_findTriangle .return_ [] q) (hk2 : ∀ {H : Heap} {locs : List Loc} {ls : Array Slot} {σ : Sg} (v1 : Int) (v2 : Int), St G true τ σ s H locs → lv_has ls 10 [(0, .ref (G.1 20)), (1, .int (oI v1)), (2, .int (oI v2))] → k2 v1 v2 σ = some q → W p l e (rmk 5 117) s m args below meth c H locs 0 0 Q (F0 m 2 ls [])) (hk12 : ∀ {H : Heap} {locs : List Loc} {ls : Array Slot} {σ : Sg} (v1 : Int) (v2 : Int) (v3 : Int), St G true τ σ s H locs → lv_has ls 10 [(0, .ref (G.1 20)), (1, .int (oI v1)), (2, .int (oI v2)), (3, .int (oI v3))] → k12 v1 v2 v3 σ = some q → W p l e (rmk 5 117) s m args below meth c H locs 0 0 Q (F0 m 12 ls [])) : ∀ (n : Nat) {H : Heap} {locs : List Loc} {ls : Array Slot} {σ : Sg} (v1 : Int) (v2 : Int) (v3 : Int) (v4 : Int) (S : St G true τ σ s H locs) (hl : lv_has ls 10 [(0, .ref (G.1 20)), (1, .int (oI v1)), (2, .int (oI v2)), (3, .int (oI v3)), (4, .int (oI v4))]) (hf : f_X1_findTriangle_b23 k2 k12 n v1 v2 v3 v4 σ = some q), W p l e (rmk 5 117) s m args below meth c H locs 0 0 Q (F0 m 23 ls []) := by
  intro n
  induction n with
  | zero => intro H locs ls σ v1 v2 v3 v4 S hl hf; cases hf
  | succ n ih =>
    intro H locs ls σ v1 v2 v3 v4 S hl hf
    have hk23 := @ih
    rw [f_X1_findTriangle_b23] at hf
    refine lv_iload C.1 C.2.1 dX1_findTriangle_23 (lv_at hl 4 rfl) ?_
    refine r_bipush C dX1_findTriangle_25 (by decide) ?_
    refine r_icmp_ge C rfl (show w32 24 = 24 by decide) (tgt := 174) dX1_findTriangle_27 (by decide) (fun h30 => ?_) (fun h30 => ?_)
    · replace hf := if_t hf h30
      refine lv_iload_n C.1 C.2.1 dX1_findTriangle_30 rfl (lv_at hl 1 rfl) ?_
      refine lv_iload_n C.1 C.2.1 dX1_findTriangle_31 rfl (lv_at hl 2 rfl) ?_
      obtain ⟨q1, hc2, hf⟩ := bd_o hf
      refine r_callSNv C S (rest := []) (ct_X9_contains l G τ hc2) mi_X9_contains (nw_697 S.2.2.2) ms_X9_contains ⟨rfl, rfl⟩ ⟨Nat.le_of_ble_eq_true rfl, Nat.le_of_ble_eq_true rfl⟩ ⟨Nat.zero_le _, Nat.zero_le _⟩ rfl hl.1 rfl (Nat.le_of_ble_eq_true rfl) dX1_findTriangle_32 (fun H locs S => ?_)
      refine r_if_eq C rfl (tgt := 59) dX1_findTriangle_35 (by decide) (fun h29 => ?_) (fun h29 => ?_)
      · replace hf := if_t hf h29
        exact b_X1_findTriangle_b59 C hend hk2 hk12 hk23 v1 v2 v3 v4 S (lv_sub hl [0, 1, 2, 3, 4] rfl) hf
      · replace hf := if_f hf h29
        refine lv_iload_n C.1 C.2.1 dX1_findTriangle_38 rfl (lv_at hl 1 rfl) ?_
        refine lv_iload_n C.1 C.2.1 dX1_findTriangle_39 rfl (lv_at hl 3 rfl) ?_
        obtain ⟨q23, hc24, hf⟩ := bd_o hf
        refine r_callSNv C S (rest := []) (ct_X9_contains l G τ hc24) mi_X9_contains (nw_697 S.2.2.2) ms_X9_contains ⟨rfl, rfl⟩ ⟨Nat.le_of_ble_eq_true rfl, Nat.le_of_ble_eq_true rfl⟩ ⟨Nat.zero_le _, Nat.zero_le _⟩ rfl hl.1 rfl (Nat.le_of_ble_eq_true rfl) dX1_findTriangle_40 (fun H locs S => ?_)
        refine r_if_eq C rfl (tgt := 59) dX1_findTriangle_43 (by decide) (fun h28 => ?_) (fun h28 => ?_)
        · replace hf := if_t hf h28
          exact b_X1_findTriangle_b59 C hend hk2 hk12 hk23 v1 v2 v3 v4 S (lv_sub hl [0, 1, 2, 3, 4] rfl) hf
        · replace hf := if_f hf h28
          refine lv_iload_n C.1 C.2.1 dX1_findTriangle_46 rfl (lv_at hl 1 rfl) ?_
          refine lv_iload C.1 C.2.1 dX1_findTriangle_47 (lv_at hl 4 rfl) ?_
          obtain ⟨q25, hc26, hf⟩ := bd_o hf
          refine r_callSNv C S (rest := []) (ct_X9_contains l G τ hc26) mi_X9_contains (nw_697 S.2.2.2) ms_X9_contains ⟨rfl, rfl⟩ ⟨Nat.le_of_ble_eq_true rfl, Nat.le_of_ble_eq_true rfl⟩ ⟨Nat.zero_le _, Nat.zero_le _⟩ rfl hl.1 rfl (Nat.le_of_ble_eq_true rfl) dX1_findTriangle_49 (fun H locs S => ?_)
          refine r_if_eq C rfl (tgt := 59) dX1_findTriangle_52 (by decide) (fun h27 => ?_) (fun h27 => ?_)
          · replace hf := if_t hf h27
            exact b_X1_findTriangle_b59 C hend hk2 hk12 hk23 v1 v2 v3 v4 S (lv_sub hl [0, 1, 2, 3, 4] rfl) hf
          · replace hf := if_f hf h27
            refine r_iconst C dX1_findTriangle_55 ?_
            refine lv_goto C.1 C.2.1 (tgt := 60) dX1_findTriangle_56 (by decide) ?_
            exact b_X1_findTriangle_b60 C hend hk2 hk12 hk23 v1 v2 v3 v4 1 S (lv_sub hl [0, 1, 2, 3, 4] rfl) hf
    · replace hf := if_f hf h30
      exact b_X1_findTriangle_b174 C hend hk2 hk12 v1 v2 v3 S (lv_sub hl [0, 1, 2, 3] rfl) hf
set_option maxRecDepth 100000 in
set_option maxHeartbeats 4000000 in
theorem b_X1_findTriangle_b180 (C : Cx p s m args c RX1 cX1_findTriangle 10) {q : Sg} {k2 : Int → Int → Sg → Option (Sg)} (hend : EndR p l e (rmk 5 117) s m args below meth c Q G true τ cX1_findTriangle .return_ [] q) (hk2 : ∀ {H : Heap} {locs : List Loc} {ls : Array Slot} {σ : Sg} (v1 : Int) (v2 : Int), St G true τ σ s H locs → lv_has ls 10 [(0, .ref (G.1 20)), (1, .int (oI v1)), (2, .int (oI v2))] → k2 v1 v2 σ = some q → W p l e (rmk 5 117) s m args below meth c H locs 0 0 Q (F0 m 2 ls [])) {H : Heap} {locs : List Loc} {ls : Array Slot} {σ : Sg} (v1 : Int) (v2 : Int) (S : St G true τ σ s H locs) (hl : lv_has ls 10 [(0, .ref (G.1 20)), (1, .int (oI v1)), (2, .int (oI v2))]) (hf : f_X1_findTriangle_b180 k2 v1 v2 σ = some q) : W p l e (rmk 5 117) s m args below meth c H locs 0 0 Q (F0 m 180 ls []) := by
  unfold f_X1_findTriangle_b180 at hf
  refine r_iinc C dX1_findTriangle_180 hl (k := 2) rfl (by decide) (lv' := [(2, .int (oI (v2 + 1))), (0, .ref (G.1 20)), (1, .int (oI v1))]) rfl (fun ls hl => ?_)
  refine lv_goto C.1 C.2.1 (tgt := 2) dX1_findTriangle_183 (by decide) ?_
  exact hk2 v1 (v2 + 1) S (lv_sub hl [1, 2, 0] rfl) hf
set_option maxRecDepth 100000 in
set_option maxHeartbeats 4000000 in
theorem b_X1_findTriangle_b12 (C : Cx p s m args c RX1 cX1_findTriangle 10) {q : Sg} {k2 : Int → Int → Sg → Option (Sg)} (hend : EndR p l e (rmk 5 117) s m args below meth c Q G true τ cX1_findTriangle .return_ [] q) (hk2 : ∀ {H : Heap} {locs : List Loc} {ls : Array Slot} {σ : Sg} (v1 : Int) (v2 : Int), St G true τ σ s H locs → lv_has ls 10 [(0, .ref (G.1 20)), (1, .int (oI v1)), (2, .int (oI v2))] → k2 v1 v2 σ = some q → W p l e (rmk 5 117) s m args below meth c H locs 0 0 Q (F0 m 2 ls [])) : ∀ (n : Nat) {H : Heap} {locs : List Loc} {ls : Array Slot} {σ : Sg} (v1 : Int) (v2 : Int) (v3 : Int) (S : St G true τ σ s H locs) (hl : lv_has ls 10 [(0, .ref (G.1 20)), (1, .int (oI v1)), (2, .int (oI v2)), (3, .int (oI v3))]) (hf : f_X1_findTriangle_b12 k2 n v1 v2 v3 σ = some q), W p l e (rmk 5 117) s m args below meth c H locs 0 0 Q (F0 m 12 ls []) := by
  intro n
  induction n with
  | zero => intro H locs ls σ v1 v2 v3 S hl hf; cases hf
  | succ n ih =>
    intro H locs ls σ v1 v2 v3 S hl hf
    have hk12 := @ih
    rw [f_X1_findTriangle_b12] at hf
    refine lv_iload_n C.1 C.2.1 dX1_findTriangle_12 rfl (lv_at hl 3 rfl) ?_
    refine r_bipush C dX1_findTriangle_13 (by decide) ?_
    refine r_icmp_ge C rfl (show w32 24 = 24 by decide) (tgt := 180) dX1_findTriangle_15 (by decide) (fun h31 => ?_) (fun h31 => ?_)
    · replace hf := if_t hf h31
      refine lv_iload_n C.1 C.2.1 dX1_findTriangle_18 rfl (lv_at hl 3 rfl) ?_
      refine r_iconst C dX1_findTriangle_19 ?_
      refine r_iadd C dX1_findTriangle_20 ?_
      refine lv_istore C.1 C.2.1 dX1_findTriangle_21 hl (by decide) (lv' := [(4, .int (oI (v3 + 1))), (0, .ref (G.1 20)), (1, .int (oI v1)), (2, .int (oI v2)), (3, .int (oI v3))]) rfl (fun ls hl => ?_)
      exact b_X1_findTriangle_b23 C hend hk2 hk12 FUEL v1 v2 v3 (v3 + 1) S (lv_sub hl [1, 2, 3, 4, 0] rfl) hf
    · replace hf := if_f hf h31
      exact b_X1_findTriangle_b180 C hend hk2 v1 v2 S (lv_sub hl [0, 1, 2] rfl) hf
set_option maxRecDepth 100000 in
set_option maxHeartbeats 4000000 in
theorem b_X1_findTriangle_b2 (C : Cx p s m args c RX1 cX1_findTriangle 10) {q : Sg} (hend : EndR p l e (rmk 5 117) s m args below meth c Q G true τ cX1_findTriangle .return_ [] q) : ∀ (n : Nat) {H : Heap} {locs : List Loc} {ls : Array Slot} {σ : Sg} (v1 : Int) (v2 : Int) (S : St G true τ σ s H locs) (hl : lv_has ls 10 [(0, .ref (G.1 20)), (1, .int (oI v1)), (2, .int (oI v2))]) (hf : f_X1_findTriangle_b2 n v1 v2 σ = some q), W p l e (rmk 5 117) s m args below meth c H locs 0 0 Q (F0 m 2 ls []) := by
  intro n
  induction n with
  | zero => intro H locs ls σ v1 v2 S hl hf; cases hf
  | succ n ih =>
    intro H locs ls σ v1 v2 S hl hf
    have hk2 := @ih
    rw [f_X1_findTriangle_b2] at hf
    refine lv_iload_n C.1 C.2.1 dX1_findTriangle_2 rfl (lv_at hl 2 rfl) ?_
    refine r_bipush C dX1_findTriangle_3 (by decide) ?_
    refine r_icmp_ge C rfl (show w32 24 = 24 by decide) (tgt := 186) dX1_findTriangle_5 (by decide) (fun h32 => ?_) (fun h32 => ?_)
    · replace hf := if_t hf h32
      refine lv_iload_n C.1 C.2.1 dX1_findTriangle_8 rfl (lv_at hl 2 rfl) ?_
      refine r_iconst C dX1_findTriangle_9 ?_
      refine r_iadd C dX1_findTriangle_10 ?_
      refine lv_istore_n C.1 C.2.1 dX1_findTriangle_11 rfl hl (by decide) (lv' := [(3, .int (oI (v2 + 1))), (0, .ref (G.1 20)), (1, .int (oI v1)), (2, .int (oI v2))]) rfl (fun ls hl => ?_)
      exact b_X1_findTriangle_b12 C hend hk2 FUEL v1 v2 (v2 + 1) S (lv_sub hl [1, 2, 3, 0] rfl) hf
    · replace hf := if_f hf h32
      cases hf
      exact hend _ _ _ _ S dX1_findTriangle_186
set_option maxRecDepth 100000 in
set_option maxHeartbeats 4000000 in
theorem ct_X1_findTriangle (l : Launch) (G : Gd) (τ : Sg) {v1 : Int} {σ : Sg} {q : Sg} (hf : f_X1_findTriangle v1 σ = some q) : Ctr l yX1_findTriangle cX1_findTriangle 10 none (rmk 5 117) G true τ [.ref (G.1 20), .int (oI v1)] σ q none := by
  unfold f_X1_findTriangle at hf
  refine CtrV.of (own := RX1) (plainFor_of_name (by decide)) (Nat.le_of_ble_eq_true rfl) rfl (fun p e s m below meth c Q ls C hl S hend => ?_)
  have hl : lv_has ls 10 [(0, .ref (G.1 20)), (1, .int (oI v1))] := hl
  refine r_iconst C dX1_findTriangle_0 ?_
  refine lv_istore_n C.1 C.2.1 dX1_findTriangle_1 rfl hl (by decide) (lv' := [(2, .int (oI 0)), (0, .ref (G.1 20)), (1, .int (oI v1))]) rfl (fun ls hl => ?_)
  exact b_X1_findTriangle_b2 C hend FUEL v1 0 S (lv_sub hl [1, 2, 0] rfl) hf
set_option maxRecDepth 100000 in
set_option maxHeartbeats 4000000 in
theorem ct_X1_close (l : Launch) (G : Gd) (τ : Sg) {v1 : Int} {σ : Sg} {q : Sg} (hf : f_X1_close v1 σ = some q) : Ctr l yX1_close cX1_close 2 none (rmk 6 146) G true τ [.ref (G.1 20), .int (oI v1)] σ q none := by
  unfold f_X1_close at hf
  refine CtrV.of (own := RX1) (plainFor_of_name (by decide)) (Nat.le_of_ble_eq_true rfl) rfl (fun p e s m below meth c Q ls C hl S hend => ?_)
  have hl : lv_has ls 2 [(0, .ref (G.1 20)), (1, .int (oI v1))] := hl
  refine lv_aload_n C.1 C.2.1 dX1_close_0 rfl (lv_at hl 0 rfl) ?_
  refine r_iconst C dX1_close_1 ?_
  refine p1_first C S tw_261 dX1_close_2 (fun H locs S => ?_)
  obtain ⟨σ1, S, hf⟩ := wr_s S hf
  refine lv_aload_n C.1 C.2.1 dX1_close_5 rfl (lv_at hl 0 rfl) ?_
  refine r_bipush C dX1_close_6 (by decide) ?_
  refine p1_second C S tw_263 dX1_close_8 (fun H locs S => ?_)
  obtain ⟨σ2, S, hf⟩ := wr_s S hf
  refine lv_aload_n C.1 C.2.1 dX1_close_11 rfl (lv_at hl 0 rfl) ?_
  refine r_bipush C dX1_close_12 (by decide) ?_
  refine p1_third C S tw_265 dX1_close_14 (fun H locs S => ?_)
  obtain ⟨σ3, S, hf⟩ := wr_s S hf
  refine lv_aload_n C.1 C.2.1 dX1_close_17 rfl (lv_at hl 0 rfl) ?_
  refine lv_iload_n C.1 C.2.1 dX1_close_18 rfl (lv_at hl 1 rfl) ?_
  obtain ⟨q4, hc5, hf⟩ := bd_o hf
  refine r_callVv C S (rest := []) (ct_X1_isPoint l G τ hc5) mi_X1_isPoint tw_693 mv_X1_isPoint (rvX1 S) ⟨rfl, rfl⟩ ⟨Nat.le_of_ble_eq_true rfl, Nat.le_of_ble_eq_true rfl⟩ ⟨Nat.zero_le _, Nat.zero_le _⟩ rfl hl.1 rfl (Nat.le_of_ble_eq_true rfl) dX1_close_19 (fun H locs S => ?_)
  refine r_if_ne C rfl (tgt := 38) dX1_close_22 (by decide) (fun h11 => ?_) (fun h11 => ?_)
  · replace hf := if_t hf h11
    refine lv_aload_n C.1 C.2.1 dX1_close_25 rfl (lv_at hl 0 rfl) ?_
    refine lv_iload_n C.1 C.2.1 dX1_close_26 rfl (lv_at hl 1 rfl) ?_
    obtain ⟨q6, hc7, hf⟩ := bd_o hf
    refine r_callVv C S (rest := []) (ct_X1_hasDiameter l G τ hc7) mi_X1_hasDiameter tw_701 mv_X1_hasDiameter (rvX1 S) ⟨rfl, rfl⟩ ⟨Nat.le_of_ble_eq_true rfl, Nat.le_of_ble_eq_true rfl⟩ ⟨Nat.zero_le _, Nat.zero_le _⟩ rfl hl.1 rfl (Nat.le_of_ble_eq_true rfl) dX1_close_27 (fun H locs S => ?_)
    refine r_if_ne C rfl (tgt := 38) dX1_close_30 (by decide) (fun h10 => ?_) (fun h10 => ?_)
    · replace hf := if_t hf h10
      refine lv_aload_n C.1 C.2.1 dX1_close_33 rfl (lv_at hl 0 rfl) ?_
      refine lv_iload_n C.1 C.2.1 dX1_close_34 rfl (lv_at hl 1 rfl) ?_
      obtain ⟨q8, hc9, hf⟩ := bd_o hf
      refine r_callVn C S (rest := []) (ct_X1_findTriangle l G τ hc9) mi_X1_findTriangle tw_719 mv_X1_findTriangle (rvX1 S) ⟨rfl, rfl⟩ ⟨Nat.le_of_ble_eq_true rfl, Nat.le_of_ble_eq_true rfl⟩ ⟨Nat.zero_le _, Nat.zero_le _⟩ rfl hl.1 rfl (Nat.le_of_ble_eq_true rfl) dX1_close_35 (fun H locs S => ?_)
      cases hf
      exact hend _ _ _ _ S dX1_close_38
    · replace hf := if_f hf h10
      cases hf
      exact hend _ _ _ _ S dX1_close_38
  · replace hf := if_f hf h11
    cases hf
    exact hend _ _ _ _ S dX1_close_38
set_option maxRecDepth 100000 in
set_option maxHeartbeats 4000000 in
theorem ct_X9_ring (l : Launch) (G : Gd) (τ : Sg) {v1 : Int} {v2 : Int} {σ : Sg} {q : Int × Sg} (hf : f_X9_ring v1 v2 σ = some q) : Ctr l yX9_ring cX9_ring 4 (some .long) (rmk 7 167) G true τ [.ref (G.1 0), .int (oI v1), .int (oI v2)] σ q.2 (some (.long (oL q.1))) := by
  unfold f_X9_ring at hf
  refine CtrJ.of (own := RX9) (plainFor_of_name (by decide)) (Nat.le_of_ble_eq_true rfl) rfl (fun p e s m below meth c Q ls C hl S hend => ?_)
  have hl : lv_has ls 4 [(0, .ref (G.1 0)), (1, .int (oI v1)), (2, .int (oI v2))] := hl
  refine lv_aload_n C.1 C.2.1 dX9_ring_0 rfl (lv_at hl 0 rfl) ?_
  refine lv_iload_n C.1 C.2.1 dX9_ring_1 rfl (lv_at hl 1 rfl) ?_
  obtain ⟨q1, hc2, hf⟩ := bd_o hf
  refine r_callVv C S (rest := []) (ct_X9_treatyAt l G τ hc2) mi_X9_treatyAt tw_528 mv_X9_treatyAt (rvX9 S) ⟨rfl, rfl⟩ ⟨Nat.le_of_ble_eq_true rfl, Nat.le_of_ble_eq_true rfl⟩ ⟨Nat.zero_le _, Nat.zero_le _⟩ rfl hl.1 rfl (Nat.le_of_ble_eq_true rfl) dX9_ring_2 (fun H locs S => ?_)
  rcases q1 with _ | t3
  · replace hf := oT_n hf
    refine lv_astore_nN C.1 C.2.1 dX9_ring_5 rfl hl (by decide) (lv' := [(3, .null), (0, .ref (G.1 0)), (1, .int (oI v1)), (2, .int (oI v2))]) rfl (fun ls hl => ?_)
    refine lv_aload_nN C.1 C.2.1 dX9_ring_6 rfl (lv_at hl 0 rfl) ?_
    refine lv_ifnullN C.1 C.2.1 (tgt := 19) dX9_ring_7 (by decide) ?_
    refine r_ldc2 C tw_687 dX9_ring_19 ?_
    cases hf
    exact hend _ _ _ _ S dX9_ring_22
  · obtain ⟨ht3, hf⟩ := oT_s hf
    refine lv_astore_n C.1 C.2.1 dX9_ring_5 rfl hl (by decide) (lv' := [(3, .ref (G.1 (21 + t3))), (0, .ref (G.1 0)), (1, .int (oI v1)), (2, .int (oI v2))]) rfl (fun ls hl => ?_)
    refine lv_aload_n C.1 C.2.1 dX9_ring_6 rfl (lv_at hl 0 rfl) ?_
    refine lv_ifnull C.1 C.2.1 dX9_ring_7 ?_
    refine lv_iload_n C.1 C.2.1 dX9_ring_10 rfl (lv_at hl 3 rfl) ?_
    refine r_if_lt C rfl (tgt := 19) dX9_ring_11 (by decide) (fun h8 => ?_) (fun h8 => ?_)
    · replace hf := if_t hf h8
      refine r_ldc2 C tw_687 dX9_ring_19 ?_
      cases hf
      exact hend _ _ _ _ S dX9_ring_22
    · replace hf := if_f hf h8
      refine lv_iload_n C.1 C.2.1 dX9_ring_14 rfl (lv_at hl 3 rfl) ?_
      refine r_iconst C dX9_ring_15 ?_
      refine r_icmp_le C rfl (show w32 4 = 4 by decide) (tgt := 23) dX9_ring_16 (by decide) (fun h7 => ?_) (fun h7 => ?_)
      · replace hf := if_t hf h7
        refine lv_aload_n C.1 C.2.1 dX9_ring_23 rfl (lv_at hl 0 rfl) ?_
        refine g8_worstSet C (d := t3) S (by omega) tw_157 dX9_ring_24 ?_
        refine r_if_ne C rfl (tgt := 34) dX9_ring_27 (by decide) (fun h6 => ?_) (fun h6 => ?_)
        · replace hf := if_t hf h6
          refine r_ldc2 C tw_688 dX9_ring_30 ?_
          cases hf
          exact hend _ _ _ _ S dX9_ring_33
        · replace hf := if_f hf h6
          refine lv_aload_n C.1 C.2.1 dX9_ring_34 rfl (lv_at hl 1 rfl) ?_
          refine g9_circle C S tw_290 dX9_ring_35 ?_
          refine lv_aload_n C.1 C.2.1 dX9_ring_38 rfl (lv_at hl 0 rfl) ?_
          refine g8_worstSet C (d := t3) S (by omega) tw_157 dX9_ring_39 ?_
          obtain ⟨q4, hc5, hf⟩ := bd_o hf
          refine r_callVn C S (rest := []) (ct_X1_close l G τ hc5) mi_X1_close tw_689 mv_X1_close (rvX1 S) ⟨rfl, rfl⟩ ⟨Nat.le_of_ble_eq_true rfl, Nat.le_of_ble_eq_true rfl⟩ ⟨Nat.zero_le _, Nat.zero_le _⟩ rfl hl.1 rfl (Nat.le_of_ble_eq_true rfl) dX9_ring_42 (fun H locs S => ?_)
          refine lv_iload_n C.1 C.2.1 dX9_ring_45 rfl (lv_at hl 3 rfl) ?_
          by_cases hs0 : w32 v2 = 0
          · replace hf := if_t hf hs0
            refine r_tabIn C (tgt := 76) (v := 0) dX9_ring_46 hs0 (by decide) (by decide) rfl (by decide) ?_
            refine lv_aload_n C.1 C.2.1 dX9_ring_76 rfl (lv_at hl 1 rfl) ?_
            refine g9_circle C S tw_290 dX9_ring_77 ?_
            refine g1_above C S tw_258 dX9_ring_80 ?_
            cases hf
            exact hend _ _ _ _ S dX9_ring_83
          · replace hf := if_f hf hs0
            by_cases hs1 : w32 v2 = 1
            · replace hf := if_t hf hs1
              refine r_tabIn C (tgt := 84) (v := 1) dX9_ring_46 hs1 (by decide) (by decide) rfl (by decide) ?_
              refine lv_aload_n C.1 C.2.1 dX9_ring_84 rfl (lv_at hl 1 rfl) ?_
              refine g9_circle C S tw_290 dX9_ring_85 ?_
              refine g1_below C S tw_260 dX9_ring_88 ?_
              cases hf
              exact hend _ _ _ _ S dX9_ring_91
            · replace hf := if_f hf hs1
              by_cases hs2 : w32 v2 = 2
              · replace hf := if_t hf hs2
                refine r_tabIn C (tgt := 92) (v := 2) dX9_ring_46 hs2 (by decide) (by decide) rfl (by decide) ?_
                refine lv_aload_n C.1 C.2.1 dX9_ring_92 rfl (lv_at hl 1 rfl) ?_
                refine g9_circle C S tw_290 dX9_ring_93 ?_
                refine g1_first C S tw_262 dX9_ring_96 ?_
                refine r_i2l C dX9_ring_99 ?_
                cases hf
                exact hend _ _ _ _ S dX9_ring_100
              · replace hf := if_f hf hs2
                by_cases hs3 : w32 v2 = 3
                · replace hf := if_t hf hs3
                  refine r_tabIn C (tgt := 101) (v := 3) dX9_ring_46 hs3 (by decide) (by decide) rfl (by decide) ?_
                  refine lv_aload_n C.1 C.2.1 dX9_ring_101 rfl (lv_at hl 1 rfl) ?_
                  refine g9_circle C S tw_290 dX9_ring_102 ?_
                  refine g1_second C S tw_264 dX9_ring_105 ?_
                  refine r_i2l C dX9_ring_108 ?_
                  cases hf
                  exact hend _ _ _ _ S dX9_ring_109
                · replace hf := if_f hf hs3
                  refine r_tabOut C (tgt := 110) dX9_ring_46 (by omega) (by decide) ?_
                  refine lv_aload_n C.1 C.2.1 dX9_ring_110 rfl (lv_at hl 1 rfl) ?_
                  refine g9_circle C S tw_290 dX9_ring_111 ?_
                  refine g1_third C S tw_266 dX9_ring_114 ?_
                  refine r_i2l C dX9_ring_117 ?_
                  cases hf
                  exact hend _ _ _ _ S dX9_ring_118
      · replace hf := if_f hf h7
        refine r_ldc2 C tw_687 dX9_ring_19 ?_
        cases hf
        exact hend _ _ _ _ S dX9_ring_22
set_option maxRecDepth 100000 in
set_option maxHeartbeats 4000000 in
theorem ct_X8_worstWithout (l : Launch) (G : Gd) (τ : Sg) {d : Nat} {v1 : Int} {σ : Sg} {q : Int} (hf : f_X8_worstWithout d v1 σ = some q) : Ctr l yX8_worstWithout cX8_worstWithout 2 (some .int) (rmk 2 50) G true τ [.ref (G.1 (21 + d)), .int (oI v1)] σ σ (some (.int (oI q))) := by
  unfold f_X8_worstWithout at hf
  obtain ⟨hd, hf⟩ := ck_o hf
  refine CtrI.of (own := RX8) (plainFor_of_name (by decide)) (Nat.le_of_ble_eq_true rfl) rfl (fun p e s m below meth c Q ls C hl S hend => ?_)
  have hl : lv_has ls 2 [(0, .ref (G.1 (21 + d))), (1, .int (oI v1))] := hl
  refine lv_aload_n C.1 C.2.1 dX8_worstWithout_0 rfl (lv_at hl 0 rfl) ?_
  refine g8_book C (d := d) S (by omega) tw_147 dX8_worstWithout_1 ?_
  refine lv_aload_n C.1 C.2.1 dX8_worstWithout_4 rfl (lv_at hl 0 rfl) ?_
  refine g8_discs C (d := d) S (by omega) tw_148 dX8_worstWithout_5 ?_
  refine r_ldc C tw_514 dX8_worstWithout_8 ?_
  refine lv_iload_n C.1 C.2.1 dX8_worstWithout_10 rfl (lv_at hl 1 rfl) ?_
  refine r_iconst C dX8_worstWithout_11 ?_
  refine r_ixor C rfl (show u32 (-1) = 4294967295 by decide) dX8_worstWithout_12 ?_
  refine r_iand C (show u32 16777215 = 16777215 by decide) (u32_nat (nb_xor (u32_lt _) (show 4294967295 < 4294967296 by decide))) dX8_worstWithout_13 ?_
  obtain ⟨q1, hc2, hf⟩ := bd_o hf
  refine r_callVv C S (rest := [.ref (G.1 6)]) (ct_X2_heaviestAmong l G τ hc2) mi_X2_heaviestAmong tw_515 mv_X2_heaviestAmong (rvX2 S (d := d) (by omega)) ⟨rfl, rfl⟩ ⟨Nat.le_of_ble_eq_true rfl, Nat.le_of_ble_eq_true rfl⟩ ⟨Nat.zero_le _, Nat.zero_le _⟩ rfl hl.1 rfl (Nat.le_of_ble_eq_true rfl) dX8_worstWithout_14 (fun H locs S => ?_)
  obtain ⟨q3, hc4, hf⟩ := bd_o hf
  refine r_callVv C S (rest := []) (ct_X0_sums l G τ hc4) mi_X0_sums tw_523 mv_X0_sums (rvX0 S) ⟨rfl, rfl⟩ ⟨Nat.le_of_ble_eq_true rfl, Nat.le_of_ble_eq_true rfl⟩ ⟨Nat.zero_le _, Nat.zero_le _⟩ rfl hl.1 rfl (Nat.le_of_ble_eq_true rfl) dX8_worstWithout_17 (fun H locs S => ?_)
  cases hf
  exact hend _ _ _ _ S dX8_worstWithout_20
set_option maxRecDepth 100000 in
set_option maxHeartbeats 4000000 in
theorem ct_X9_part (l : Launch) (G : Gd) (τ : Sg) {v1 : Int} {v2 : Int} {σ : Sg} {q : Int} (hf : f_X9_part v1 v2 σ = some q) : Ctr l yX9_part cX9_part 4 (some .int) (rmk 3 71) G true τ [.ref (G.1 0), .int (oI v1), .int (oI v2)] σ σ (some (.int (oI q))) := by
  unfold f_X9_part at hf
  refine CtrI.of (own := RX9) (plainFor_of_name (by decide)) (Nat.le_of_ble_eq_true rfl) rfl (fun p e s m below meth c Q ls C hl S hend => ?_)
  have hl : lv_has ls 4 [(0, .ref (G.1 0)), (1, .int (oI v1)), (2, .int (oI v2))] := hl
  refine lv_aload_n C.1 C.2.1 dX9_part_0 rfl (lv_at hl 0 rfl) ?_
  refine lv_iload_n C.1 C.2.1 dX9_part_1 rfl (lv_at hl 1 rfl) ?_
  obtain ⟨q1, hc2, hf⟩ := bd_o hf
  refine r_callVv C S (rest := []) (ct_X9_treatyAt l G τ hc2) mi_X9_treatyAt tw_528 mv_X9_treatyAt (rvX9 S) ⟨rfl, rfl⟩ ⟨Nat.le_of_ble_eq_true rfl, Nat.le_of_ble_eq_true rfl⟩ ⟨Nat.zero_le _, Nat.zero_le _⟩ rfl hl.1 rfl (Nat.le_of_ble_eq_true rfl) dX9_part_2 (fun H locs S => ?_)
  rcases q1 with _ | t3
  · replace hf := oT_n hf
    refine lv_astore_nN C.1 C.2.1 dX9_part_5 rfl hl (by decide) (lv' := [(3, .null), (0, .ref (G.1 0)), (1, .int (oI v1)), (2, .int (oI v2))]) rfl (fun ls hl => ?_)
    refine lv_aload_nN C.1 C.2.1 dX9_part_6 rfl (lv_at hl 0 rfl) ?_
    refine lv_ifnullN C.1 C.2.1 (tgt := 21) dX9_part_7 (by decide) ?_
    refine r_iconst C dX9_part_21 ?_
    cases hf
    exact hend _ _ _ _ S dX9_part_22
  · obtain ⟨ht3, hf⟩ := oT_s hf
    refine lv_astore_n C.1 C.2.1 dX9_part_5 rfl hl (by decide) (lv' := [(3, .ref (G.1 (21 + t3))), (0, .ref (G.1 0)), (1, .int (oI v1)), (2, .int (oI v2))]) rfl (fun ls hl => ?_)
    refine lv_aload_n C.1 C.2.1 dX9_part_6 rfl (lv_at hl 0 rfl) ?_
    refine lv_ifnull C.1 C.2.1 dX9_part_7 ?_
    refine lv_aload_n C.1 C.2.1 dX9_part_10 rfl (lv_at hl 1 rfl) ?_
    refine g9_book C S tw_282 dX9_part_11 ?_
    refine lv_iload_n C.1 C.2.1 dX9_part_14 rfl (lv_at hl 3 rfl) ?_
    obtain ⟨q4, hc5, hf⟩ := bd_o hf
    refine r_callVv C S (rest := []) (ct_X0_has l G τ hc5) mi_X0_has tw_581 mv_X0_has (rvX0 S) ⟨rfl, rfl⟩ ⟨Nat.le_of_ble_eq_true rfl, Nat.le_of_ble_eq_true rfl⟩ ⟨Nat.zero_le _, Nat.zero_le _⟩ rfl hl.1 rfl (Nat.le_of_ble_eq_true rfl) dX9_part_15 (fun H locs S => ?_)
    refine r_if_ne C rfl (tgt := 23) dX9_part_18 (by decide) (fun h8 => ?_) (fun h8 => ?_)
    · replace hf := if_t hf h8
      refine r_iconst C dX9_part_21 ?_
      cases hf
      exact hend _ _ _ _ S dX9_part_22
    · replace hf := if_f hf h8
      refine lv_aload_n C.1 C.2.1 dX9_part_23 rfl (lv_at hl 0 rfl) ?_
      refine g8_worstSums C (d := t3) S (by omega) tw_159 dX9_part_24 ?_
      refine lv_aload_n C.1 C.2.1 dX9_part_27 rfl (lv_at hl 0 rfl) ?_
      refine r_iconst C dX9_part_28 ?_
      refine lv_iload_n C.1 C.2.1 dX9_part_29 rfl (lv_at hl 3 rfl) ?_
      refine r_ishl C (y1 := (u32 v2 % 32)) rfl dX9_part_30 ?_
      obtain ⟨q6, hc7, hf⟩ := bd_o hf
      refine r_callVv C S (rest := [.int (oI (σ (21 + t3) 6))]) (ct_X8_worstWithout l G τ hc7) mi_X8_worstWithout tw_739 mv_X8_worstWithout (rvX8 S (d := t3) (by omega)) ⟨rfl, rfl⟩ ⟨Nat.le_of_ble_eq_true rfl, Nat.le_of_ble_eq_true rfl⟩ ⟨Nat.zero_le _, Nat.zero_le _⟩ rfl hl.1 rfl (Nat.le_of_ble_eq_true rfl) dX9_part_31 (fun H locs S => ?_)
      refine r_isub C dX9_part_34 ?_
      cases hf
      exact hend _ _ _ _ S dX9_part_35
set_option maxRecDepth 100000 in
set_option maxHeartbeats 4000000 in
theorem ct_X9_second (l : Launch) (G : Gd) (τ : Sg) {v1 : Int} {σ : Sg} {q : Int} (hf : f_X9_second v1 σ = some q) : Ctr l yX9_second cX9_second 3 (some .int) (rmk 3 71) G true τ [.ref (G.1 0), .int (oI v1)] σ σ (some (.int (oI q))) := by
  unfold f_X9_second at hf
  refine CtrI.of (own := RX9) (plainFor_of_name (by decide)) (Nat.le_of_ble_eq_true rfl) rfl (fun p e s m below meth c Q ls C hl S hend => ?_)
  have hl : lv_has ls 3 [(0, .ref (G.1 0)), (1, .int (oI v1))] := hl
  refine lv_aload_n C.1 C.2.1 dX9_second_0 rfl (lv_at hl 0 rfl) ?_
  refine lv_iload_n C.1 C.2.1 dX9_second_1 rfl (lv_at hl 1 rfl) ?_
  obtain ⟨q1, hc2, hf⟩ := bd_o hf
  refine r_callVv C S (rest := []) (ct_X9_treatyAt l G τ hc2) mi_X9_treatyAt tw_528 mv_X9_treatyAt (rvX9 S) ⟨rfl, rfl⟩ ⟨Nat.le_of_ble_eq_true rfl, Nat.le_of_ble_eq_true rfl⟩ ⟨Nat.zero_le _, Nat.zero_le _⟩ rfl hl.1 rfl (Nat.le_of_ble_eq_true rfl) dX9_second_2 (fun H locs S => ?_)
  rcases q1 with _ | t3
  · replace hf := oT_n hf
    refine lv_astore_nN C.1 C.2.1 dX9_second_5 rfl hl (by decide) (lv' := [(2, .null), (0, .ref (G.1 0)), (1, .int (oI v1))]) rfl (fun ls hl => ?_)
    refine lv_aload_nN C.1 C.2.1 dX9_second_6 rfl (lv_at hl 0 rfl) ?_
    refine lv_ifnonnullN C.1 C.2.1 dX9_second_7 ?_
    refine r_iconst C dX9_second_10 ?_
    refine lv_goto C.1 C.2.1 (tgt := 22) dX9_second_11 (by decide) ?_
    cases hf
    exact hend _ _ _ _ S dX9_second_22
  · obtain ⟨ht3, hf⟩ := oT_s hf
    refine lv_astore_n C.1 C.2.1 dX9_second_5 rfl hl (by decide) (lv' := [(2, .ref (G.1 (21 + t3))), (0, .ref (G.1 0)), (1, .int (oI v1))]) rfl (fun ls hl => ?_)
    refine lv_aload_n C.1 C.2.1 dX9_second_6 rfl (lv_at hl 0 rfl) ?_
    refine lv_ifnonnull C.1 C.2.1 (tgt := 14) dX9_second_7 (by decide) ?_
    refine lv_aload_n C.1 C.2.1 dX9_second_14 rfl (lv_at hl 0 rfl) ?_
    refine lv_aload_n C.1 C.2.1 dX9_second_15 rfl (lv_at hl 0 rfl) ?_
    refine g8_worstSet C (d := t3) S (by omega) tw_157 dX9_second_16 ?_
    obtain ⟨q4, hc5, hf⟩ := bd_o hf
    refine r_callVv C S (rest := []) (ct_X8_worstWithout l G τ hc5) mi_X8_worstWithout tw_739 mv_X8_worstWithout (rvX8 S (d := t3) (by omega)) ⟨rfl, rfl⟩ ⟨Nat.le_of_ble_eq_true rfl, Nat.le_of_ble_eq_true rfl⟩ ⟨Nat.zero_le _, Nat.zero_le _⟩ rfl hl.1 rfl (Nat.le_of_ble_eq_true rfl) dX9_second_19 (fun H locs S => ?_)
    cases hf
    exact hend _ _ _ _ S dX9_second_22
set_option maxRecDepth 100000 in
set_option maxHeartbeats 4000000 in
theorem b_X9_tightest_b76 (C : Cx p s m args c RX9 cX9_tightest 8) {q : Int} {k11 : Int → Int → Int → Int → Option (Int)} (hend : EndR p l e (rmk 1 21) s m args below meth c Q G true τ cX9_tightest .ireturn [.int (oI q)] σ) (hk11 : ∀ {H : Heap} {locs : List Loc} {ls : Array Slot} (v1 : Int) (v2 : Int) (v4 : Int) (v6 : Int), St G true τ σ s H locs → lv_has ls 8 [(0, .ref (G.1 0)), (1, .int (oI v1)), (2, .long (oL v2)), (4, .long (oL v4)), (6, .int (oI v6))] → k11 v1 v2 v4 v6 = some q → W p l e (rmk 1 21) s m args below meth c H locs 0 0 Q (F0 m 11 ls [])) {H : Heap} {locs : List Loc} {ls : Array Slot} (v1 : Int) (v2 : Int) (v4 : Int) (v6 : Int) (S : St G true τ σ s H locs) (hl : lv_has ls 8 [(0, .ref (G.1 0)), (1, .int (oI v1)), (2, .long (oL v2)), (4, .long (oL v4)), (6, .int (oI v6))]) (hf : f_X9_tightest_b76 σ k11 v1 v2 v4 v6 = some q) : W p l e (rmk 1 21) s m args below meth c H locs 0 0 Q (F0 m 76 ls []) := by
  unfold f_X9_tightest_b76 at hf
  refine r_iinc C dX9_tightest_76 hl (k := 4) rfl (by decide) (lv' := [(6, .int (oI (v6 + 1))), (0, .ref (G.1 0)), (1, .int (oI v1)), (2, .long (oL v2)), (4, .long (oL v4))]) rfl (fun ls hl => ?_)
  refine lv_goto C.1 C.2.1 (tgt := 11) dX9_tightest_79 (by decide) ?_
  exact hk11 v1 v2 v4 (v6 + 1) S (lv_sub hl [1, 2, 3, 4, 0] rfl) hf
set_option maxRecDepth 100000 in
set_option maxHeartbeats 4000000 in
theorem b_X9_tightest_b58 (C : Cx p s m args c RX9 cX9_tightest 8) {q : Int} {k11 : Int → Int → Int → Int → Option (Int)} (hend : EndR p l e (rmk 1 21) s m args below meth c Q G true τ cX9_tightest .ireturn [.int (oI q)] σ) (hk11 : ∀ {H : Heap} {locs : List Loc} {ls : Array Slot} (v1 : Int) (v2 : Int) (v4 : Int) (v6 : Int), St G true τ σ s H locs → lv_has ls 8 [(0, .ref (G.1 0)), (1, .int (oI v1)), (2, .long (oL v2)), (4, .long (oL v4)), (6, .int (oI v6))] → k11 v1 v2 v4 v6 = some q → W p l e (rmk 1 21) s m args below meth c H locs 0 0 Q (F0 m 11 ls [])) {H : Heap} {locs : List Loc} {ls : Array Slot} (v6 : Int) (t7 : Nat) (ht7 : t7 < 6) (S : St G true τ σ s H locs) (hl : lv_has ls 8 [(0, .ref (G.1 0)), (6, .int (oI v6)), (7, .ref (G.1 (21 + t7)))]) (hf : f_X9_tightest_b58 σ k11 v6 t7 = some q) : W p l e (rmk 1 21) s m args below meth c H locs 0 0 Q (F0 m 58 ls []) := by
  unfold f_X9_tightest_b58 at hf
  refine lv_iload C.1 C.2.1 dX9_tightest_58 (lv_at hl 1 rfl) ?_
  refine lv_istore_n C.1 C.2.1 dX9_tightest_60 rfl hl (by decide) (lv' := [(1, .int (oI v6)), (0, .ref (G.1 0)), (6, .int (oI v6)), (7, .ref (G.1 (21 + t7)))]) rfl (fun ls hl => ?_)
  refine lv_aload C.1 C.2.1 dX9_tightest_61 (lv_at hl 3 rfl) ?_
  refine g8_worstSums C (d := t7) S (by omega) tw_159 dX9_tightest_63 ?_
  refine r_i2l C dX9_tightest_66 ?_
  refine lv_lstore_n C.1 C.2.1 dX9_tightest_67 rfl hl (by decide) (lv' := [(2, .long (oL (w32 (σ (21 + t7) 6)))), (1, .int (oI v6)), (0, .ref (G.1 0)), (6, .int (oI v6)), (7, .ref (G.1 (21 + t7)))]) rfl (fun ls hl => ?_)
  refine lv_aload C.1 C.2.1 dX9_tightest_68 (lv_at hl 4 rfl) ?_
  refine g8_limit C (d := t7) S (by omega) tw_155 dX9_tightest_70 ?_
  refine r_i2l C dX9_tightest_73 ?_
  refine lv_lstore C.1 C.2.1 dX9_tightest_74 hl (by decide) (lv' := [(4, .long (oL (w32 (σ (21 + t7) 4)))), (2, .long (oL (w32 (σ (21 + t7) 6)))), (1, .int (oI v6)), (0, .ref (G.1 0)), (6, .int (oI v6)), (7, .ref (G.1 (21 + t7)))]) rfl (fun ls hl => ?_)
  exact b_X9_tightest_b76 C hend hk11 v6 (w32 (σ (21 + t7) 6)) (w32 (σ (21 + t7) 4)) v6 S (lv_sub hl [3, 2, 1, 0, 4] rfl) hf
set_option maxRecDepth 100000 in
set_option maxHeartbeats 4000000 in
theorem b_X9_tightest_b11 (C : Cx p s m args c RX9 cX9_tightest 8) {q : Int} (hend : EndR p l e (rmk 1 21) s m args below meth c Q G true τ cX9_tightest .ireturn [.int (oI q)] σ) : ∀ (n : Nat) {H : Heap} {locs : List Loc} {ls : Array Slot} (v1 : Int) (v2 : Int) (v4 : Int) (v6 : Int) (S : St G true τ σ s H locs) (hl : lv_has ls 8 [(0, .ref (G.1 0)), (1, .int (oI v1)), (2, .long (oL v2)), (4, .long (oL v4)), (6, .int (oI v6))]) (hf : f_X9_tightest_b11 σ n v1 v2 v4 v6 = some q), W p l e (rmk 1 21) s m args below meth c H locs 0 0 Q (F0 m 11 ls []) := by
  intro n
  induction n with
  | zero => intro H locs ls v1 v2 v4 v6 S hl hf; cases hf
  | succ n ih =>
    intro H locs ls v1 v2 v4 v6 S hl hf
    have hk11 := @ih
    rw [f_X9_tightest_b11] at hf
    refine lv_iload C.1 C.2.1 dX9_tightest_11 (lv_at hl 4 rfl) ?_
    refine lv_aload_n C.1 C.2.1 dX9_tightest_13 rfl (lv_at hl 0 rfl) ?_
    refine g9_treatyCount C S tw_284 dX9_tightest_14 ?_
    refine r_icmp_ge C rfl rfl (tgt := 82) dX9_tightest_17 (by decide) (fun h6 => ?_) (fun h6 => ?_)
    · replace hf := if_t hf h6
      refine lv_aload_n C.1 C.2.1 dX9_tightest_20 rfl (lv_at hl 0 rfl) ?_
      refine lv_iload C.1 C.2.1 dX9_tightest_21 (lv_at hl 4 rfl) ?_
      obtain ⟨q1, hc2, hf⟩ := bd_o hf
      refine r_callVv C S (rest := []) (ct_X9_treatyAt l G τ hc2) mi_X9_treatyAt tw_528 mv_X9_treatyAt (rvX9 S) ⟨rfl, rfl⟩ ⟨Nat.le_of_ble_eq_true rfl, Nat.le_of_ble_eq_true rfl⟩ ⟨Nat.zero_le _, Nat.zero_le _⟩ rfl hl.1 rfl (Nat.le_of_ble_eq_true rfl) dX9_tightest_23 (fun H locs S => ?_)
      rcases q1 with _ | t3
      · replace hf := oT_n hf
        refine lv_astoreN C.1 C.2.1 dX9_tightest_26 hl (by decide) (lv' := [(7, .null), (0, .ref (G.1 0)), (1, .int (oI v1)), (2, .long (oL v2)), (4, .long (oL v4)), (6, .int (oI v6))]) rfl (fun ls hl => ?_)
        refine lv_aloadN C.1 C.2.1 dX9_tightest_28 (lv_at hl 0 rfl) ?_
        refine lv_ifnullN C.1 C.2.1 (tgt := 76) dX9_tightest_30 (by decide) ?_
        exact b_X9_tightest_b76 C hend hk11 v1 v2 v4 v6 S (lv_sub hl [1, 2, 3, 4, 5] rfl) hf
      · obtain ⟨ht3, hf⟩ := oT_s hf
        refine lv_astore C.1 C.2.1 dX9_tightest_26 hl (by decide) (lv' := [(7, .ref (G.1 (21 + t3))), (0, .ref (G.1 0)), (1, .int (oI v1)), (2, .long (oL v2)), (4, .long (oL v4)), (6, .int (oI v6))]) rfl (fun ls hl => ?_)
        refine lv_aload C.1 C.2.1 dX9_tightest_28 (lv_at hl 0 rfl) ?_
        refine lv_ifnull C.1 C.2.1 dX9_tightest_30 ?_
        refine lv_iload_n C.1 C.2.1 dX9_tightest_33 rfl (lv_at hl 2 rfl) ?_
        refine r_if_lt C rfl (tgt := 58) dX9_tightest_34 (by decide) (fun h5 => ?_) (fun h5 => ?_)
        · replace hf := if_t hf h5
          exact b_X9_tightest_b58 C hend hk11 v6 t3 (by omega) S (lv_sub hl [1, 5, 0] rfl) hf
        · replace hf := if_f hf h5
          refine lv_aload C.1 C.2.1 dX9_tightest_37 (lv_at hl 0 rfl) ?_
          refine g8_worstSums C (d := t3) S (by omega) tw_159 dX9_tightest_39 ?_
          refine r_i2l C dX9_tightest_42 ?_
          refine lv_lload C.1 C.2.1 dX9_tightest_43 (lv_at hl 4 rfl) ?_
          refine r_lmul C dX9_tightest_45 ?_
          refine lv_lload_n C.1 C.2.1 dX9_tightest_46 rfl (lv_at hl 3 rfl) ?_
          refine lv_aload C.1 C.2.1 dX9_tightest_47 (lv_at hl 0 rfl) ?_
          refine g8_limit C (d := t3) S (by omega) tw_155 dX9_tightest_49 ?_
          refine r_i2l C dX9_tightest_52 ?_
          refine r_lmul C dX9_tightest_53 ?_
          refine r_lcmp_le C rfl rfl (tgt := 76) dX9_tightest_54 dX9_tightest_55 (by decide) (fun h4 => ?_) (fun h4 => ?_)
          · replace hf := if_t hf h4
            exact b_X9_tightest_b76 C hend hk11 v1 v2 v4 v6 S (lv_sub hl [1, 2, 3, 4, 5] rfl) hf
          · replace hf := if_f hf h4
            exact b_X9_tightest_b58 C hend hk11 v6 t3 (by omega) S (lv_sub hl [1, 5, 0] rfl) hf
    · replace hf := if_f hf h6
      refine lv_iload_n C.1 C.2.1 dX9_tightest_82 rfl (lv_at hl 1 rfl) ?_
      cases hf
      exact hend _ _ _ _ S dX9_tightest_83
set_option maxRecDepth 100000 in
set_option maxHeartbeats 4000000 in
theorem ct_X9_tightest (l : Launch) (G : Gd) (τ : Sg) {σ : Sg} {q : Int} (hf : f_X9_tightest σ = some q) : Ctr l yX9_tightest cX9_tightest 8 (some .int) (rmk 1 21) G true τ [.ref (G.1 0)] σ σ (some (.int (oI q))) := by
  unfold f_X9_tightest at hf
  refine CtrI.of (own := RX9) (plainFor_of_name (by decide)) (Nat.le_of_ble_eq_true rfl) rfl (fun p e s m below meth c Q ls C hl S hend => ?_)
  have hl : lv_has ls 8 [(0, .ref (G.1 0))] := hl
  refine r_bipush C dX9_tightest_0 (by decide) ?_
  refine lv_istore_n C.1 C.2.1 dX9_tightest_2 rfl hl (by decide) (lv' := [(1, .int (oI ((-2)))), (0, .ref (G.1 0))]) rfl (fun ls hl => ?_)
  refine r_lconst C (z := 0) dX9_tightest_3 (by decide) ?_
  refine lv_lstore_n C.1 C.2.1 dX9_tightest_4 rfl hl (by decide) (lv' := [(2, .long (oL 0)), (1, .int (oI ((-2)))), (0, .ref (G.1 0))]) rfl (fun ls hl => ?_)
  refine r_lconst C (z := 1) dX9_tightest_5 (by decide) ?_
  refine lv_lstore C.1 C.2.1 dX9_tightest_6 hl (by decide) (lv' := [(4, .long (oL 1)), (2, .long (oL 0)), (1, .int (oI ((-2)))), (0, .ref (G.1 0))]) rfl (fun ls hl => ?_)
  refine r_iconst C dX9_tightest_8 ?_
  refine lv_istore C.1 C.2.1 dX9_tightest_9 hl (by decide) (lv' := [(6, .int (oI 0)), (4, .long (oL 1)), (2, .long (oL 0)), (1, .int (oI ((-2)))), (0, .ref (G.1 0))]) rfl (fun ls hl => ?_)
  exact b_X9_tightest_b11 C hend FUEL ((-2)) 0 1 0 S (lv_sub hl [4, 3, 2, 1, 0] rfl) hf
set_option maxRecDepth 100000 in
set_option maxHeartbeats 4000000 in
theorem b_X9_relief_b81 (C : Cx p s m args c RX9 cX9_relief 8) {q : Int} {k32 : Int → Nat → Int → Int → Int → Option (Int)} (hend : EndR p l e (rmk 3 71) s m args below meth c Q G true τ cX9_relief .ireturn [.int (oI q)] σ) (hk32 : ∀ {H : Heap} {locs : List Loc} {ls : Array Slot} (v2 : Int) (t3 : Nat) (v4 : Int) (v5 : Int) (v6 : Int), t3 < 6 → St G true τ σ s H locs → lv_has ls 8 [(2, .int (oI v2)), (3, .ref (G.1 (21 + t3))), (4, .int (oI v4)), (5, .int (oI v5)), (6, .int (oI v6))] → k32 v2 t3 v4 v5 v6 = some q → W p l e (rmk 3 71) s m args below meth c H locs 0 0 Q (F0 m 32 ls [])) {H : Heap} {locs : List Loc} {ls : Array Slot} (v2 : Int) (t3 : Nat) (v4 : Int) (v5 : Int) (v6 : Int) (ht3 : t3 < 6) (S : St G true τ σ s H locs) (hl : lv_has ls 8 [(2, .int (oI v2)), (3, .ref (G.1 (21 + t3))), (4, .int (oI v4)), (5, .int (oI v5)), (6, .int (oI v6))]) (hf : f_X9_relief_b81 σ k32 v2 t3 v4 v5 v6 = some q) : W p l e (rmk 3 71) s m args below meth c H locs 0 0 Q (F0 m 81 ls []) := by
  unfold f_X9_relief_b81 at hf
  refine r_iinc C dX9_relief_81 hl (k := 4) rfl (by decide) (lv' := [(6, .int (oI (v6 + 1))), (2, .int (oI v2)), (3, .ref (G.1 (21 + t3))), (4, .int (oI v4)), (5, .int (oI v5))]) rfl (fun ls hl => ?_)
  refine lv_goto C.1 C.2.1 (tgt := 32) dX9_relief_84 (by decide) ?_
  exact hk32 v2 t3 v4 v5 (v6 + 1) (by omega) S (lv_sub hl [1, 2, 3, 4, 0] rfl) hf
set_option maxRecDepth 100000 in
set_option maxHeartbeats 4000000 in
theorem b_X9_relief_b73 (C : Cx p s m args c RX9 cX9_relief 8) {q : Int} {k32 : Int → Nat → Int → Int → Int → Option (Int)} (hend : EndR p l e (rmk 3 71) s m args below meth c Q G true τ cX9_relief .ireturn [.int (oI q)] σ) (hk32 : ∀ {H : Heap} {locs : List Loc} {ls : Array Slot} (v2 : Int) (t3 : Nat) (v4 : Int) (v5 : Int) (v6 : Int), t3 < 6 → St G true τ σ s H locs → lv_has ls 8 [(2, .int (oI v2)), (3, .ref (G.1 (21 + t3))), (4, .int (oI v4)), (5, .int (oI v5)), (6, .int (oI v6))] → k32 v2 t3 v4 v5 v6 = some q → W p l e (rmk 3 71) s m args below meth c H locs 0 0 Q (F0 m 32 ls [])) {H : Heap} {locs : List Loc} {ls : Array Slot} (v2 : Int) (t3 : Nat) (v6 : Int) (v7 : Int) (ht3 : t3 < 6) (S : St G true τ σ s H locs) (hl : lv_has ls 8 [(2, .int (oI v2)), (3, .ref (G.1 (21 + t3))), (6, .int (oI v6)), (7, .int (oI v7))]) (hf : f_X9_relief_b73 σ k32 v2 t3 v6 v7 = some q) : W p l e (rmk 3 71) s m args below meth c H locs 0 0 Q (F0 m 73 ls []) := by
  unfold f_X9_relief_b73 at hf
  refine lv_iload C.1 C.2.1 dX9_relief_73 (lv_at hl 2 rfl) ?_
  refine lv_istore C.1 C.2.1 dX9_relief_75 hl (by decide) (lv' := [(4, .int (oI v6)), (2, .int (oI v2)), (3, .ref (G.1 (21 + t3))), (6, .int (oI v6)), (7, .int (oI v7))]) rfl (fun ls hl => ?_)
  refine lv_iload C.1 C.2.1 dX9_relief_77 (lv_at hl 4 rfl) ?_
  refine lv_istore C.1 C.2.1 dX9_relief_79 hl (by decide) (lv' := [(5, .int (oI v7)), (4, .int (oI v6)), (2, .int (oI v2)), (3, .ref (G.1 (21 + t3))), (6, .int (oI v6)), (7, .int (oI v7))]) rfl (fun ls hl => ?_)
  exact b_X9_relief_b81 C hend hk32 v2 t3 v6 v7 v6 (by omega) S (lv_sub hl [2, 3, 1, 0, 4] rfl) hf
set_option maxRecDepth 100000 in
set_option maxHeartbeats 4000000 in
theorem b_X9_relief_b87 (C : Cx p s m args c RX9 cX9_relief 8) {q : Int} (hend : EndR p l e (rmk 3 71) s m args below meth c Q G true τ cX9_relief .ireturn [.int (oI q)] σ) {H : Heap} {locs : List Loc} {ls : Array Slot} (v2 : Int) (v4 : Int) (v5 : Int) (S : St G true τ σ s H locs) (hl : lv_has ls 8 [(2, .int (oI v2)), (4, .int (oI v4)), (5, .int (oI v5))]) (hf : f_X9_relief_b87 σ v2 v4 v5 = some q) : W p l e (rmk 3 71) s m args below meth c H locs 0 0 Q (F0 m 87 ls []) := by
  unfold f_X9_relief_b87 at hf
  refine lv_iload_n C.1 C.2.1 dX9_relief_87 rfl (lv_at hl 0 rfl) ?_
  refine r_if_ne C rfl (tgt := 96) dX9_relief_88 (by decide) (fun h11 => ?_) (fun h11 => ?_)
  · replace hf := if_t hf h11
    refine lv_iload C.1 C.2.1 dX9_relief_91 (lv_at hl 1 rfl) ?_
    refine lv_goto C.1 C.2.1 (tgt := 98) dX9_relief_93 (by decide) ?_
    cases hf
    exact hend _ _ _ _ S dX9_relief_98
  · replace hf := if_f hf h11
    refine lv_iload C.1 C.2.1 dX9_relief_96 (lv_at hl 2 rfl) ?_
    cases hf
    exact hend _ _ _ _ S dX9_relief_98
set_option maxRecDepth 100000 in
set_option maxHeartbeats 4000000 in
theorem b_X9_relief_b32 (C : Cx p s m args c RX9 cX9_relief 8) {q : Int} (hend : EndR p l e (rmk 3 71) s m args below meth c Q G true τ cX9_relief .ireturn [.int (oI q)] σ) : ∀ (n : Nat) {H : Heap} {locs : List Loc} {ls : Array Slot} (v2 : Int) (t3 : Nat) (v4 : Int) (v5 : Int) (v6 : Int) (ht3 : t3 < 6) (S : St G true τ σ s H locs) (hl : lv_has ls 8 [(2, .int (oI v2)), (3, .ref (G.1 (21 + t3))), (4, .int (oI v4)), (5, .int (oI v5)), (6, .int (oI v6))]) (hf : f_X9_relief_b32 σ n v2 t3 v4 v5 v6 = some q), W p l e (rmk 3 71) s m args below meth c H locs 0 0 Q (F0 m 32 ls []) := by
  intro n
  induction n with
  | zero => intro H locs ls v2 t3 v4 v5 v6 ht3 S hl hf; cases hf
  | succ n ih =>
    intro H locs ls v2 t3 v4 v5 v6 ht3 S hl hf
    have hk32 := @ih
    rw [f_X9_relief_b32] at hf
    refine lv_iload C.1 C.2.1 dX9_relief_32 (lv_at hl 4 rfl) ?_
    refine r_bipush C dX9_relief_34 (by decide) ?_
    refine r_icmp_ge C rfl (show w32 24 = 24 by decide) (tgt := 87) dX9_relief_36 (by decide) (fun h12 => ?_) (fun h12 => ?_)
    · replace hf := if_t hf h12
      refine lv_aload_n C.1 C.2.1 dX9_relief_39 rfl (lv_at hl 1 rfl) ?_
      refine g8_worstSet C (d := t3) S (by omega) tw_157 dX9_relief_40 ?_
      refine lv_iload C.1 C.2.1 dX9_relief_43 (lv_at hl 4 rfl) ?_
      obtain ⟨q4, hc5, hf⟩ := bd_o hf
      refine r_callSv C S (rest := []) (ct_X9_contains l G τ hc5) mi_X9_contains tw_661 ms_X9_contains ⟨rfl, rfl⟩ ⟨Nat.le_of_ble_eq_true rfl, Nat.le_of_ble_eq_true rfl⟩ ⟨Nat.zero_le _, Nat.zero_le _⟩ rfl hl.1 rfl (Nat.le_of_ble_eq_true rfl) dX9_relief_45 (fun H locs S => ?_)
      refine r_if_eq C rfl (tgt := 81) dX9_relief_48 (by decide) (fun h10 => ?_) (fun h10 => ?_)
      · replace hf := if_t hf h10
        exact b_X9_relief_b81 C hend hk32 v2 t3 v4 v5 v6 (by omega) S (lv_sub hl [0, 1, 2, 3, 4] rfl) hf
      · replace hf := if_f hf h10
        refine lv_aload_n C.1 C.2.1 dX9_relief_51 rfl (lv_at hl 1 rfl) ?_
        refine r_iconst C dX9_relief_52 ?_
        refine lv_iload C.1 C.2.1 dX9_relief_53 (lv_at hl 4 rfl) ?_
        refine r_ishl C (y1 := (u32 v6 % 32)) rfl dX9_relief_55 ?_
        obtain ⟨q6, hc7, hf⟩ := bd_o hf
        refine r_callVv C S (rest := []) (ct_X8_worstWithout l G τ hc7) mi_X8_worstWithout tw_739 mv_X8_worstWithout (rvX8 S (d := t3) (by omega)) ⟨rfl, rfl⟩ ⟨Nat.le_of_ble_eq_true rfl, Nat.le_of_ble_eq_true rfl⟩ ⟨Nat.zero_le _, Nat.zero_le _⟩ rfl hl.1 rfl (Nat.le_of_ble_eq_true rfl) dX9_relief_56 (fun H locs S => ?_)
        refine lv_istore C.1 C.2.1 dX9_relief_59 hl (by decide) (lv' := [(7, .int (oI q6)), (2, .int (oI v2)), (3, .ref (G.1 (21 + t3))), (4, .int (oI v4)), (5, .int (oI v5)), (6, .int (oI v6))]) rfl (fun ls hl => ?_)
        refine lv_iload C.1 C.2.1 dX9_relief_61 (lv_at hl 3 rfl) ?_
        refine r_if_lt C rfl (tgt := 73) dX9_relief_63 (by decide) (fun h9 => ?_) (fun h9 => ?_)
        · replace hf := if_t hf h9
          exact b_X9_relief_b73 C hend hk32 v2 t3 v6 q6 (by omega) S (lv_sub hl [1, 2, 5, 0] rfl) hf
        · replace hf := if_f hf h9
          refine lv_iload C.1 C.2.1 dX9_relief_66 (lv_at hl 0 rfl) ?_
          refine lv_iload C.1 C.2.1 dX9_relief_68 (lv_at hl 4 rfl) ?_
          refine r_icmp_ge C rfl rfl (tgt := 81) dX9_relief_70 (by decide) (fun h8 => ?_) (fun h8 => ?_)
          · replace hf := if_t hf h8
            exact b_X9_relief_b73 C hend hk32 v2 t3 v6 q6 (by omega) S (lv_sub hl [1, 2, 5, 0] rfl) hf
          · replace hf := if_f hf h8
            exact b_X9_relief_b81 C hend hk32 v2 t3 v4 v5 v6 (by omega) S (lv_sub hl [1, 2, 3, 4, 5] rfl) hf
    · replace hf := if_f hf h12
      exact b_X9_relief_b87 C hend v2 v4 v5 S (lv_sub hl [0, 2, 3] rfl) hf
set_option maxRecDepth 100000 in
set_option maxHeartbeats 4000000 in
theorem ct_X9_relief (l : Launch) (G : Gd) (τ : Sg) {v1 : Int} {v2 : Int} {σ : Sg} {q : Int} (hf : f_X9_relief v1 v2 σ = some q) : Ctr l yX9_relief cX9_relief 8 (some .int) (rmk 3 71) G true τ [.ref (G.1 0), .int (oI v1), .int (oI v2)] σ σ (some (.int (oI q))) := by
  unfold f_X9_relief at hf
  refine CtrI.of (own := RX9) (plainFor_of_name (by decide)) (Nat.le_of_ble_eq_true rfl) rfl (fun p e s m below meth c Q ls C hl S hend => ?_)
  have hl : lv_has ls 8 [(0, .ref (G.1 0)), (1, .int (oI v1)), (2, .int (oI v2))] := hl
  refine lv_aload_n C.1 C.2.1 dX9_relief_0 rfl (lv_at hl 0 rfl) ?_
  refine lv_iload_n C.1 C.2.1 dX9_relief_1 rfl (lv_at hl 1 rfl) ?_
  obtain ⟨q1, hc2, hf⟩ := bd_o hf
  refine r_callVv C S (rest := []) (ct_X9_treatyAt l G τ hc2) mi_X9_treatyAt tw_528 mv_X9_treatyAt (rvX9 S) ⟨rfl, rfl⟩ ⟨Nat.le_of_ble_eq_true rfl, Nat.le_of_ble_eq_true rfl⟩ ⟨Nat.zero_le _, Nat.zero_le _⟩ rfl hl.1 rfl (Nat.le_of_ble_eq_true rfl) dX9_relief_2 (fun H locs S => ?_)
  rcases q1 with _ | t3
  · replace hf := oT_n hf
    refine lv_astore_nN C.1 C.2.1 dX9_relief_5 rfl hl (by decide) (lv' := [(3, .null), (0, .ref (G.1 0)), (1, .int (oI v1)), (2, .int (oI v2))]) rfl (fun ls hl => ?_)
    refine lv_aload_nN C.1 C.2.1 dX9_relief_6 rfl (lv_at hl 0 rfl) ?_
    refine lv_ifnullN C.1 C.2.1 (tgt := 19) dX9_relief_7 (by decide) ?_
    refine r_iconst C dX9_relief_19 ?_
    cases hf
    exact hend _ _ _ _ S dX9_relief_20
  · obtain ⟨ht3, hf⟩ := oT_s hf
    refine lv_astore_n C.1 C.2.1 dX9_relief_5 rfl hl (by decide) (lv' := [(3, .ref (G.1 (21 + t3))), (0, .ref (G.1 0)), (1, .int (oI v1)), (2, .int (oI v2))]) rfl (fun ls hl => ?_)
    refine lv_aload_n C.1 C.2.1 dX9_relief_6 rfl (lv_at hl 0 rfl) ?_
    refine lv_ifnull C.1 C.2.1 dX9_relief_7 ?_
    refine lv_iload_n C.1 C.2.1 dX9_relief_10 rfl (lv_at hl 3 rfl) ?_
    refine r_if_lt C rfl (tgt := 19) dX9_relief_11 (by decide) (fun h14 => ?_) (fun h14 => ?_)
    · replace hf := if_t hf h14
      refine r_iconst C dX9_relief_19 ?_
      cases hf
      exact hend _ _ _ _ S dX9_relief_20
    · replace hf := if_f hf h14
      refine lv_iload_n C.1 C.2.1 dX9_relief_14 rfl (lv_at hl 3 rfl) ?_
      refine r_iconst C dX9_relief_15 ?_
      refine r_icmp_le C rfl (show w32 1 = 1 by decide) (tgt := 21) dX9_relief_16 (by decide) (fun h13 => ?_) (fun h13 => ?_)
      · replace hf := if_t hf h13
        refine r_bipush C dX9_relief_21 (by decide) ?_
        refine lv_istore C.1 C.2.1 dX9_relief_23 hl (by decide) (lv' := [(4, .int (oI ((-2)))), (3, .ref (G.1 (21 + t3))), (0, .ref (G.1 0)), (1, .int (oI v1)), (2, .int (oI v2))]) rfl (fun ls hl => ?_)
        refine r_bipush C dX9_relief_25 (by decide) ?_
        refine lv_istore C.1 C.2.1 dX9_relief_27 hl (by decide) (lv' := [(5, .int (oI ((-2)))), (4, .int (oI ((-2)))), (3, .ref (G.1 (21 + t3))), (0, .ref (G.1 0)), (1, .int (oI v1)), (2, .int (oI v2))]) rfl (fun ls hl => ?_)
        refine r_iconst C dX9_relief_29 ?_
        refine lv_istore C.1 C.2.1 dX9_relief_30 hl (by decide) (lv' := [(6, .int (oI 0)), (5, .int (oI ((-2)))), (4, .int (oI ((-2)))), (3, .ref (G.1 (21 + t3))), (0, .ref (G.1 0)), (1, .int (oI v1)), (2, .int (oI v2))]) rfl (fun ls hl => ?_)
        exact b_X9_relief_b32 C hend FUEL v2 t3 ((-2)) ((-2)) 0 (by omega) S (lv_sub hl [6, 3, 2, 1, 0] rfl) hf
      · replace hf := if_f hf h13
        refine r_iconst C dX9_relief_19 ?_
        cases hf
        exact hend _ _ _ _ S dX9_relief_20
set_option maxRecDepth 100000 in
set_option maxHeartbeats 4000000 in
theorem b_X2_hasMore_b2 (C : Cx p s m args c RX2 cX2_hasMore 4) {d : Nat} (hd : d < 7) {q : Int} (hend : (q = 0 ∨ q = 1) → EndR p l e (rmk 1 24) s m args below meth c Q G true τ cX2_hasMore .ireturn [.int (oI q)] σ) : ∀ (n : Nat) {H : Heap} {locs : List Loc} {ls : Array Slot} (v1 : Int) (v2 : Int) (v3 : Int) (S : St G true τ σ s H locs) (hl : lv_has ls 4 [(0, .ref (G.1 (27 + d))), (1, .int (oI v1)), (2, .int (oI v2)), (3, .int (oI v3))]) (hf : f_X2_hasMore_b2 d σ n v1 v2 v3 = some q), W p l e (rmk 1 24) s m args below meth c H locs 0 0 Q (F0 m 2 ls []) := by
  intro n
  induction n with
  | zero => intro H locs ls v1 v2 v3 S hl hf; cases hf
  | succ n ih =>
    intro H locs ls v1 v2 v3 S hl hf
    have hk2 := @ih
    rw [f_X2_hasMore_b2] at hf
    refine lv_iload_n C.1 C.2.1 dX2_hasMore_2 rfl (lv_at hl 3 rfl) ?_
    refine r_sipush C dX2_hasMore_3 (by decide) ?_
    refine r_icmp_ge C rfl (show w32 576 = 576 by decide) (tgt := 36) dX2_hasMore_6 (by decide) (fun h5 => ?_) (fun h5 => ?_)
    · replace hf := if_t hf h5
      refine lv_aload_n C.1 C.2.1 dX2_hasMore_9 rfl (lv_at hl 0 rfl) ?_
      refine g2_book C (d := d) S (by omega) tw_126 dX2_hasMore_10 ?_
      refine lv_aload_n C.1 C.2.1 dX2_hasMore_13 rfl (lv_at hl 0 rfl) ?_
      refine g2_sets C (d := d) S (by omega) tw_127 dX2_hasMore_14 ?_
      refine lv_iload_n C.1 C.2.1 dX2_hasMore_17 rfl (lv_at hl 3 rfl) ?_
      obtain ⟨hi1, hf⟩ := ck_o hf
      refine a_iald C S (ar_34 (d := d) (by omega)) hi1 dX2_hasMore_18 ?_
      refine lv_iload_n C.1 C.2.1 dX2_hasMore_19 rfl (lv_at hl 1 rfl) ?_
      refine r_iand C rfl rfl dX2_hasMore_20 ?_
      obtain ⟨q2, hc3, hf⟩ := bd_o hf
      refine r_callVv C S (rest := []) (ct_X0_sums l G τ hc3) mi_X0_sums tw_519 mv_X0_sums (rvX0 S) ⟨rfl, rfl⟩ ⟨Nat.le_of_ble_eq_true rfl, Nat.le_of_ble_eq_true rfl⟩ ⟨Nat.zero_le _, Nat.zero_le _⟩ rfl hl.1 rfl (Nat.le_of_ble_eq_true rfl) dX2_hasMore_21 (fun H locs S => ?_)
      refine lv_iload_n C.1 C.2.1 dX2_hasMore_24 rfl (lv_at hl 2 rfl) ?_
      refine r_icmp_le C rfl rfl (tgt := 30) dX2_hasMore_25 (by decide) (fun h4 => ?_) (fun h4 => ?_)
      · replace hf := if_t hf h4
        refine r_iinc C dX2_hasMore_30 hl (k := 3) rfl (by decide) (lv' := [(3, .int (oI (v3 + 1))), (0, .ref (G.1 (27 + d))), (1, .int (oI v1)), (2, .int (oI v2))]) rfl (fun ls hl => ?_)
        refine lv_goto C.1 C.2.1 (tgt := 2) dX2_hasMore_33 (by decide) ?_
        exact hk2 v1 v2 (v3 + 1) S (lv_sub hl [1, 2, 3, 0] rfl) hf
      · replace hf := if_f hf h4
        refine r_iconst C dX2_hasMore_28 ?_
        cases hf
        exact hend (Or.inr rfl) _ _ _ _ S dX2_hasMore_29
    · replace hf := if_f hf h5
      refine r_iconst C dX2_hasMore_36 ?_
      cases hf
      exact hend (Or.inl rfl) _ _ _ _ S dX2_hasMore_37
set_option maxRecDepth 100000 in
set_option maxHeartbeats 4000000 in
theorem ct_X2_hasMore (l : Launch) (G : Gd) (τ : Sg) {d : Nat} {v1 : Int} {v2 : Int} {σ : Sg} {q : Int} (hf : f_X2_hasMore d v1 v2 σ = some q) : Ctr l yX2_hasMore cX2_hasMore 4 (some .boolean) (rmk 1 24) G true τ [.ref (G.1 (27 + d)), .int (oI v1), .int (oI v2)] σ σ (some (.int (oI q))) := by
  unfold f_X2_hasMore at hf
  obtain ⟨hd, hf⟩ := ck_o hf
  refine CtrZ.of (own := RX2) (plainFor_of_name (by decide)) (Nat.le_of_ble_eq_true rfl) rfl (fun p e s m below meth c Q ls C hl S hend => ?_)
  have hl : lv_has ls 4 [(0, .ref (G.1 (27 + d))), (1, .int (oI v1)), (2, .int (oI v2))] := hl
  refine r_iconst C dX2_hasMore_0 ?_
  refine lv_istore_n C.1 C.2.1 dX2_hasMore_1 rfl hl (by decide) (lv' := [(3, .int (oI 0)), (0, .ref (G.1 (27 + d))), (1, .int (oI v1)), (2, .int (oI v2))]) rfl (fun ls hl => ?_)
  exact b_X2_hasMore_b2 C hd hend FUEL v1 v2 0 S (lv_sub hl [1, 2, 3, 0] rfl) hf
end WK
