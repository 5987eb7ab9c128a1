section WK
variable {p : Program} {l : Launch} {e : Env} {s : State} {m : MethodId} {args : Array Value} {below : List Frame} {meth : Method} {c : Code} {Q : State → Prop} {G : Gd} {b : Bool} {τ σ : Sg}
set_option maxRecDepth 100000 in
set_option maxHeartbeats 4000000 in
theorem b_X2_fill_b39 (C : Cx p s m args c RX2 cX2_fill 4) {d : Nat} (hd : d < 7) {q : Sg} {k20 : Int → Int → Sg → Option (Sg)} (hend : EndR p l e (rmk 4 111) s m args below meth c Q G true τ cX2_fill .return_ [] q) (hk20 : ∀ {H : Heap} {locs : List Loc} {ls : Array Slot} {σ : Sg} (v2 : Int) (v3 : Int), St G true τ σ s H locs → lv_has ls 4 [(0, .ref (G.1 (27 + d))), (2, .int (oI v2)), (3, .int (oI v3))] → k20 v2 v3 σ = some q → W p l e (rmk 4 111) s m args below meth c H locs 0 0 Q (F0 m 20 ls [])) {H : Heap} {locs : List Loc} {ls : Array Slot} {σ : Sg} (v2 : Int) (v3 : Int) (S : St G true τ σ s H locs) (hl : lv_has ls 4 [(0, .ref (G.1 (27 + d))), (2, .int (oI v2)), (3, .int (oI v3))]) (hf : f_X2_fill_b39 d k20 v2 v3 σ = some q) : W p l e (rmk 4 111) s m args below meth c H locs 0 0 Q (F0 m 39 ls []) := by
  unfold f_X2_fill_b39 at hf
  refine r_iinc C dX2_fill_39 hl (k := 2) rfl (by decide) (lv' := [(3, .int (oI (v3 + 1))), (0, .ref (G.1 (27 + d))), (2, .int (oI v2))]) rfl (fun ls hl => ?_)
  refine lv_goto C.1 C.2.1 (tgt := 20) dX2_fill_42 (by decide) ?_
  exact hk20 v2 (v3 + 1) S (lv_sub hl [1, 2, 0] rfl) hf
set_option maxRecDepth 100000 in
set_option maxHeartbeats 4000000 in
theorem b_X2_fill_b20 (C : Cx p s m args c RX2 cX2_fill 4) {d : Nat} (hd : d < 7) {q : Sg} (hend : EndR p l e (rmk 4 111) s m args below meth c Q G true τ cX2_fill .return_ [] q) : ∀ (n : Nat) {H : Heap} {locs : List Loc} {ls : Array Slot} {σ : Sg} (v2 : Int) (v3 : Int) (S : St G true τ σ s H locs) (hl : lv_has ls 4 [(0, .ref (G.1 (27 + d))), (2, .int (oI v2)), (3, .int (oI v3))]) (hf : f_X2_fill_b20 d n v2 v3 σ = some q), W p l e (rmk 4 111) s m args below meth c H locs 0 0 Q (F0 m 20 ls []) := by
  intro n
  induction n with
  | zero => intro H locs ls σ v2 v3 S hl hf; cases hf
  | succ n ih =>
    intro H locs ls σ v2 v3 S hl hf
    have hk20 := @ih
    rw [f_X2_fill_b20] at hf
    refine lv_iload_n C.1 C.2.1 dX2_fill_20 rfl (lv_at hl 2 rfl) ?_
    refine r_bipush C dX2_fill_21 (by decide) ?_
    refine r_icmp_ge C rfl (show w32 24 = 24 by decide) (tgt := 45) dX2_fill_23 (by decide) (fun h10 => ?_) (fun h10 => ?_)
    · replace hf := if_t hf h10
      refine lv_iload_n C.1 C.2.1 dX2_fill_26 rfl (lv_at hl 1 rfl) ?_
      refine lv_iload_n C.1 C.2.1 dX2_fill_27 rfl (lv_at hl 2 rfl) ?_
      obtain ⟨q5, hc6, hf⟩ := bd_o hf
      refine r_callSNv C S (As := [.int (oI v2), .int (oI v3)]) (rest := []) (ct_X9_contains l G τ hc6) mi_X9_contains (nw_485 S.2.2.2) ms_X9_contains ⟨rfl, rfl⟩ ⟨Nat.le_of_ble_eq_true rfl, Nat.le_of_ble_eq_true rfl⟩ ⟨Nat.zero_le _, Nat.zero_le _⟩ rfl hl.1 rfl (Nat.le_of_ble_eq_true rfl) dX2_fill_28 (fun H locs S => ?_)
      refine r_if_eq C rfl (tgt := 39) dX2_fill_31 (by decide) (fun h9 => ?_) (fun h9 => ?_)
      · replace hf := if_t hf h9
        exact b_X2_fill_b39 C hd hend hk20 v2 v3 S (lv_sub hl [0, 1, 2] rfl) hf
      · replace hf := if_f hf h9
        refine lv_aload_n C.1 C.2.1 dX2_fill_34 rfl (lv_at hl 0 rfl) ?_
        refine lv_iload_n C.1 C.2.1 dX2_fill_35 rfl (lv_at hl 2 rfl) ?_
        obtain ⟨q7, hc8, hf⟩ := bd_o hf
        refine r_callVn C S (As := [.int (oI v3)]) (rest := []) (ct_X2_add l G τ hc8) mi_X2_add tw_486 mv_X2_add (rvX2 S (d := d) (by omega)) ⟨rfl, rfl⟩ ⟨Nat.le_of_ble_eq_true rfl, Nat.le_of_ble_eq_true rfl⟩ ⟨Nat.zero_le _, Nat.zero_le _⟩ rfl hl.1 rfl (Nat.le_of_ble_eq_true rfl) dX2_fill_36 (fun H locs S => ?_)
        exact b_X2_fill_b39 C hd hend hk20 v2 v3 S (lv_sub hl [0, 1, 2] rfl) hf
    · replace hf := if_f hf h10
      cases hf
      exact hend _ _ _ _ S dX2_fill_45
set_option maxRecDepth 100000 in
set_option maxHeartbeats 4000000 in
theorem ct_X2_fill (l : Launch) (G : Gd) (τ : Sg) {d : Nat} {v1 : Int} {v2 : Int} {σ : Sg} {q : Sg} (hf : f_X2_fill d v1 v2 σ = some q) : Ctr l yX2_fill cX2_fill 4 none (rmk 4 111) G true τ [.ref (G.1 (27 + d)), .int (oI v1), .int (oI v2)] σ q none := by
  unfold f_X2_fill at hf
  obtain ⟨hd, hf⟩ := ck_o hf
  refine CtrV.of (own := RX2) (plainFor_of_name (by decide)) (Nat.le_of_ble_eq_true rfl) rfl (fun p e s m below meth c Q ls C hl S hend => ?_)
  have hl : lv_has ls 4 [(0, .ref (G.1 (27 + d))), (1, .int (oI v1)), (2, .int (oI v2))] := hl
  refine lv_aload_n C.1 C.2.1 dX2_fill_0 rfl (lv_at hl 0 rfl) ?_
  refine lv_iload_n C.1 C.2.1 dX2_fill_1 rfl (lv_at hl 1 rfl) ?_
  refine p2_radius C (d := d) S (by omega) tw_128 dX2_fill_2 (fun H locs S => ?_)
  obtain ⟨σ1, S, hf⟩ := wr_s S hf
  refine lv_aload_n C.1 C.2.1 dX2_fill_5 rfl (lv_at hl 0 rfl) ?_
  refine r_iconst C dX2_fill_6 ?_
  refine p2_members C (d := d) S (by omega) tw_131 dX2_fill_7 (fun H locs S => ?_)
  obtain ⟨σ2, S, hf⟩ := wr_s S hf
  refine lv_aload_n C.1 C.2.1 dX2_fill_10 rfl (lv_at hl 0 rfl) ?_
  refine g2_sets C (d := d) S (by omega) tw_127 dX2_fill_11 ?_
  refine r_iconst C dX2_fill_14 ?_
  obtain ⟨q3, hc4, hf⟩ := bd_o hf
  refine r_callSn C S (As := [.ref (G.1 (34 + d)), .int (oI 0)]) (rest := []) (ct_J7_fill_53178_34 l G τ hc4) mi_J7_fill_53178 tw_484 ms_J7_fill_53178 ⟨rfl, rfl⟩ ⟨Nat.le_of_ble_eq_true rfl, Nat.le_of_ble_eq_true rfl⟩ ⟨Nat.zero_le _, Nat.zero_le _⟩ rfl hl.1 rfl (Nat.le_of_ble_eq_true rfl) dX2_fill_15 (fun H locs S => ?_)
  refine r_iconst C dX2_fill_18 ?_
  refine lv_istore_n C.1 C.2.1 dX2_fill_19 rfl hl (by decide) (lv' := [(3, .int (oI 0)), (0, .ref (G.1 (27 + d))), (1, .int (oI v1)), (2, .int (oI v2))]) rfl (fun ls hl => ?_)
  exact b_X2_fill_b20 C hd hend FUEL v2 0 S (lv_sub hl [1, 3, 0] rfl) hf
set_option maxRecDepth 100000 in
set_option maxHeartbeats 4000000 in
theorem ct_X0_sums (l : Launch) (G : Gd) (τ : Sg) {v1 : Int} {σ : Sg} {q : Int} (hf : f_X0_sums v1 σ = some q) : Ctr l yX0_sums cX0_sums 5 (some .int) (rmk 0 0) G true τ [.ref (G.1 6), .int (oI v1)] σ σ (some (.int (oI q))) := by
  unfold f_X0_sums at hf
  refine CtrI.of (own := RX0) (plainFor_of_name (by decide)) (Nat.le_of_ble_eq_true rfl) rfl (fun p e s m below meth c Q ls C hl S hend => ?_)
  have hl : lv_has ls 5 [(0, .ref (G.1 6)), (1, .int (oI v1))] := hl
  refine lv_iload_n C.1 C.2.1 dX0_sums_0 rfl (lv_at hl 1 rfl) ?_
  refine r_sipush C dX0_sums_1 (by decide) ?_
  refine r_iand C rfl (show u32 255 = 255 by decide) dX0_sums_4 ?_
  refine lv_istore_n C.1 C.2.1 dX0_sums_5 rfl hl (by decide) (lv' := [(2, .int (oI ((((u32 v1) &&& 255 : Nat) : Int)))), (0, .ref (G.1 6)), (1, .int (oI v1))]) rfl (fun ls hl => ?_)
  refine r_sipush C dX0_sums_6 (by decide) ?_
  refine lv_iload_n C.1 C.2.1 dX0_sums_9 rfl (lv_at hl 2 rfl) ?_
  refine r_bipush C dX0_sums_10 (by decide) ?_
  refine r_iushr C (y1 := 8) rfl (by decide) dX0_sums_12 ?_
  refine r_sipush C dX0_sums_13 (by decide) ?_
  refine r_iand C (u32_nat (nb_shr (u32_lt _))) (show u32 255 = 255 by decide) dX0_sums_16 ?_
  refine r_iadd C dX0_sums_17 ?_
  refine lv_istore_n C.1 C.2.1 dX0_sums_18 rfl hl (by decide) (lv' := [(3, .int (oI (256 + (((((u32 v1) >>> 8) &&& 255 : Nat) : Int))))), (2, .int (oI ((((u32 v1) &&& 255 : Nat) : Int)))), (0, .ref (G.1 6)), (1, .int (oI v1))]) rfl (fun ls hl => ?_)
  refine r_sipush C dX0_sums_19 (by decide) ?_
  refine lv_iload_n C.1 C.2.1 dX0_sums_22 rfl (lv_at hl 3 rfl) ?_
  refine r_bipush C dX0_sums_23 (by decide) ?_
  refine r_iushr C (y1 := 16) rfl (by decide) dX0_sums_25 ?_
  refine r_sipush C dX0_sums_26 (by decide) ?_
  refine r_iand C (u32_nat (nb_shr (u32_lt _))) (show u32 255 = 255 by decide) dX0_sums_29 ?_
  refine r_iadd C dX0_sums_30 ?_
  refine lv_istore C.1 C.2.1 dX0_sums_31 hl (by decide) (lv' := [(4, .int (oI (512 + (((((u32 v1) >>> 16) &&& 255 : Nat) : Int))))), (3, .int (oI (256 + (((((u32 v1) >>> 8) &&& 255 : Nat) : Int))))), (2, .int (oI ((((u32 v1) &&& 255 : Nat) : Int)))), (0, .ref (G.1 6)), (1, .int (oI v1))]) rfl (fun ls hl => ?_)
  refine lv_iload C.1 C.2.1 dX0_sums_33 (lv_at hl 0 rfl) ?_
  refine lv_aload_n C.1 C.2.1 dX0_sums_35 rfl (lv_at hl 3 rfl) ?_
  refine g0_groupSums C S tw_97 dX0_sums_36 ?_
  refine a_alen C S ar_11 dX0_sums_39 ?_
  refine r_icmp_lt C rfl (show w32 768 = 768 by decide) (tgt := 45) dX0_sums_40 (by decide) (fun h4 => ?_) (fun h4 => ?_)
  · replace hf := if_t hf h4
    refine lv_aload_n C.1 C.2.1 dX0_sums_45 rfl (lv_at hl 3 rfl) ?_
    refine g0_groupSums C S tw_97 dX0_sums_46 ?_
    refine lv_iload_n C.1 C.2.1 dX0_sums_49 rfl (lv_at hl 2 rfl) ?_
    obtain ⟨hi1, hf⟩ := ck_o hf
    refine a_iald C S ar_11 hi1 dX0_sums_50 ?_
    refine lv_aload_n C.1 C.2.1 dX0_sums_51 rfl (lv_at hl 3 rfl) ?_
    refine g0_groupSums C S tw_97 dX0_sums_52 ?_
    refine lv_iload_n C.1 C.2.1 dX0_sums_55 rfl (lv_at hl 1 rfl) ?_
    obtain ⟨hi2, hf⟩ := ck_o hf
    refine a_iald C S ar_11 hi2 dX0_sums_56 ?_
    refine r_iadd C dX0_sums_57 ?_
    refine lv_aload_n C.1 C.2.1 dX0_sums_58 rfl (lv_at hl 3 rfl) ?_
    refine g0_groupSums C S tw_97 dX0_sums_59 ?_
    refine lv_iload C.1 C.2.1 dX0_sums_62 (lv_at hl 0 rfl) ?_
    obtain ⟨hi3, hf⟩ := ck_o hf
    refine a_iald C S ar_11 hi3 dX0_sums_64 ?_
    refine r_iadd C dX0_sums_65 ?_
    cases hf
    exact hend _ _ _ _ S dX0_sums_66
  · replace hf := if_f hf h4
    refine r_iconst C dX0_sums_43 ?_
    cases hf
    exact hend _ _ _ _ S dX0_sums_44
set_option maxRecDepth 100000 in
set_option maxHeartbeats 4000000 in
theorem b_X2_heaviestAmong_b66 (C : Cx p s m args c RX2 cX2_heaviestAmong 7) {d : Nat} (hd : d < 7) {q : Int} {k7 : Int → Int → Int → Int → Option (Int)} (hend : EndR p l e (rmk 1 24) s m args below meth c Q G true τ cX2_heaviestAmong .ireturn [.int (oI q)] σ) (hk7 : ∀ {H : Heap} {locs : List Loc} {ls : Array Slot} (v1 : Int) (v2 : Int) (v3 : Int) (v4 : Int), St G true τ σ s H locs → lv_has ls 7 [(0, .ref (G.1 (27 + d))), (1, .int (oI v1)), (2, .int (oI v2)), (3, .int (oI v3)), (4, .int (oI v4))] → k7 v1 v2 v3 v4 = some q → W p l e (rmk 1 24) s m args below meth c H locs 0 0 Q (F0 m 7 ls [])) {H : Heap} {locs : List Loc} {ls : Array Slot} (v1 : Int) (v2 : Int) (v3 : Int) (v4 : Int) (S : St G true τ σ s H locs) (hl : lv_has ls 7 [(0, .ref (G.1 (27 + d))), (1, .int (oI v1)), (2, .int (oI v2)), (3, .int (oI v3)), (4, .int (oI v4))]) (hf : f_X2_heaviestAmong_b66 d σ k7 v1 v2 v3 v4 = some q) : W p l e (rmk 1 24) s m args below meth c H locs 0 0 Q (F0 m 66 ls []) := by
  unfold f_X2_heaviestAmong_b66 at hf
  refine r_iinc C dX2_heaviestAmong_66 hl (k := 4) rfl (by decide) (lv' := [(4, .int (oI (v4 + 1))), (0, .ref (G.1 (27 + d))), (1, .int (oI v1)), (2, .int (oI v2)), (3, .int (oI v3))]) rfl (fun ls hl => ?_)
  refine lv_goto C.1 C.2.1 (tgt := 7) dX2_heaviestAmong_69 (by decide) ?_
  exact hk7 v1 v2 v3 (v4 + 1) S (lv_sub hl [1, 2, 3, 4, 0] rfl) hf
set_option maxRecDepth 100000 in
set_option maxHeartbeats 4000000 in
theorem b_X2_heaviestAmong_b60 (C : Cx p s m args c RX2 cX2_heaviestAmong 7) {d : Nat} (hd : d < 7) {q : Int} {k7 : Int → Int → Int → Int → Option (Int)} (hend : EndR p l e (rmk 1 24) s m args below meth c Q G true τ cX2_heaviestAmong .ireturn [.int (oI q)] σ) (hk7 : ∀ {H : Heap} {locs : List Loc} {ls : Array Slot} (v1 : Int) (v2 : Int) (v3 : Int) (v4 : Int), St G true τ σ s H locs → lv_has ls 7 [(0, .ref (G.1 (27 + d))), (1, .int (oI v1)), (2, .int (oI v2)), (3, .int (oI v3)), (4, .int (oI v4))] → k7 v1 v2 v3 v4 = some q → W p l e (rmk 1 24) s m args below meth c H locs 0 0 Q (F0 m 7 ls [])) {H : Heap} {locs : List Loc} {ls : Array Slot} (v1 : Int) (v4 : Int) (v5 : Int) (v6 : Int) (S : St G true τ σ s H locs) (hl : lv_has ls 7 [(0, .ref (G.1 (27 + d))), (1, .int (oI v1)), (4, .int (oI v4)), (5, .int (oI v5)), (6, .int (oI v6))]) (hf : f_X2_heaviestAmong_b60 d σ k7 v1 v4 v5 v6 = some q) : W p l e (rmk 1 24) s m args below meth c H locs 0 0 Q (F0 m 60 ls []) := by
  unfold f_X2_heaviestAmong_b60 at hf
  refine lv_iload C.1 C.2.1 dX2_heaviestAmong_60 (lv_at hl 3 rfl) ?_
  refine lv_istore_n C.1 C.2.1 dX2_heaviestAmong_62 rfl hl (by decide) (lv' := [(2, .int (oI v5)), (0, .ref (G.1 (27 + d))), (1, .int (oI v1)), (4, .int (oI v4)), (5, .int (oI v5)), (6, .int (oI v6))]) rfl (fun ls hl => ?_)
  refine lv_iload C.1 C.2.1 dX2_heaviestAmong_63 (lv_at hl 5 rfl) ?_
  refine lv_istore_n C.1 C.2.1 dX2_heaviestAmong_65 rfl hl (by decide) (lv' := [(3, .int (oI v6)), (2, .int (oI v5)), (0, .ref (G.1 (27 + d))), (1, .int (oI v1)), (4, .int (oI v4)), (5, .int (oI v5)), (6, .int (oI v6))]) rfl (fun ls hl => ?_)
  exact b_X2_heaviestAmong_b66 C hd hend hk7 v1 v5 v6 v4 S (lv_sub hl [2, 3, 1, 0, 4] rfl) hf
set_option maxRecDepth 100000 in
set_option maxHeartbeats 4000000 in
theorem b_X2_heaviestAmong_b7 (C : Cx p s m args c RX2 cX2_heaviestAmong 7) {d : Nat} (hd : d < 7) {q : Int} (hend : EndR p l e (rmk 1 24) s m args below meth c Q G true τ cX2_heaviestAmong .ireturn [.int (oI q)] σ) : ∀ (n : Nat) {H : Heap} {locs : List Loc} {ls : Array Slot} (v1 : Int) (v2 : Int) (v3 : Int) (v4 : Int) (S : St G true τ σ s H locs) (hl : lv_has ls 7 [(0, .ref (G.1 (27 + d))), (1, .int (oI v1)), (2, .int (oI v2)), (3, .int (oI v3)), (4, .int (oI v4))]) (hf : f_X2_heaviestAmong_b7 d σ n v1 v2 v3 v4 = some q), W p l e (rmk 1 24) s m args below meth c H locs 0 0 Q (F0 m 7 ls []) := by
  intro n
  induction n with
  | zero => intro H locs ls v1 v2 v3 v4 S hl hf; cases hf
  | succ n ih =>
    intro H locs ls v1 v2 v3 v4 S hl hf
    have hk7 := @ih
    rw [f_X2_heaviestAmong_b7] at hf
    refine lv_iload C.1 C.2.1 dX2_heaviestAmong_7 (lv_at hl 4 rfl) ?_
    refine r_sipush C dX2_heaviestAmong_9 (by decide) ?_
    refine r_icmp_ge C rfl (show w32 576 = 576 by decide) (tgt := 72) dX2_heaviestAmong_12 (by decide) (fun h8 => ?_) (fun h8 => ?_)
    · replace hf := if_t hf h8
      refine lv_aload_n C.1 C.2.1 dX2_heaviestAmong_15 rfl (lv_at hl 0 rfl) ?_
      refine g2_sets C (d := d) S (by omega) tw_127 dX2_heaviestAmong_16 ?_
      refine lv_iload C.1 C.2.1 dX2_heaviestAmong_19 (lv_at hl 4 rfl) ?_
      obtain ⟨hi1, hf⟩ := ck_o hf
      refine a_iald C S (ar_34 (d := d) (by omega)) hi1 dX2_heaviestAmong_21 ?_
      refine lv_iload_n C.1 C.2.1 dX2_heaviestAmong_22 rfl (lv_at hl 1 rfl) ?_
      refine r_iand C rfl rfl dX2_heaviestAmong_23 ?_
      refine lv_istore C.1 C.2.1 dX2_heaviestAmong_24 hl (by decide) (lv' := [(5, .int (oI ((((u32 (σ (34 + d) (v4).toNat)) &&& (u32 v1) : Nat) : Int)))), (0, .ref (G.1 (27 + d))), (1, .int (oI v1)), (2, .int (oI v2)), (3, .int (oI v3)), (4, .int (oI v4))]) rfl (fun ls hl => ?_)
      refine lv_iload C.1 C.2.1 dX2_heaviestAmong_26 (lv_at hl 0 rfl) ?_
      refine r_if_eq C rfl (tgt := 66) dX2_heaviestAmong_28 (by decide) (fun h7 => ?_) (fun h7 => ?_)
      · replace hf := if_t hf h7
        exact b_X2_heaviestAmong_b66 C hd hend hk7 v1 v2 v3 v4 S (lv_sub hl [1, 2, 3, 4, 5] rfl) hf
      · replace hf := if_f hf h7
        refine lv_aload_n C.1 C.2.1 dX2_heaviestAmong_31 rfl (lv_at hl 1 rfl) ?_
        refine g2_book C (d := d) S (by omega) tw_126 dX2_heaviestAmong_32 ?_
        refine lv_iload C.1 C.2.1 dX2_heaviestAmong_35 (lv_at hl 0 rfl) ?_
        obtain ⟨q2, hc3, hf⟩ := bd_o hf
        refine r_callVv C S (As := [.int (oI ((((u32 (σ (34 + d) (v4).toNat)) &&& (u32 v1) : Nat) : Int)))]) (rest := []) (ct_X0_sums l G τ hc3) mi_X0_sums tw_519 mv_X0_sums (rvX0 S) ⟨rfl, rfl⟩ ⟨Nat.le_of_ble_eq_true rfl, Nat.le_of_ble_eq_true rfl⟩ ⟨Nat.zero_le _, Nat.zero_le _⟩ rfl hl.1 rfl (Nat.le_of_ble_eq_true rfl) dX2_heaviestAmong_37 (fun H locs S => ?_)
        refine lv_istore C.1 C.2.1 dX2_heaviestAmong_40 hl (by decide) (lv' := [(6, .int (oI q2)), (5, .int (oI ((((u32 (σ (34 + d) (v4).toNat)) &&& (u32 v1) : Nat) : Int)))), (0, .ref (G.1 (27 + d))), (1, .int (oI v1)), (2, .int (oI v2)), (3, .int (oI v3)), (4, .int (oI v4))]) rfl (fun ls hl => ?_)
        refine lv_iload C.1 C.2.1 dX2_heaviestAmong_42 (lv_at hl 0 rfl) ?_
        refine lv_iload_n C.1 C.2.1 dX2_heaviestAmong_44 rfl (lv_at hl 5 rfl) ?_
        refine r_icmp_gt C rfl rfl (tgt := 60) dX2_heaviestAmong_45 (by decide) (fun h6 => ?_) (fun h6 => ?_)
        · replace hf := if_t hf h6
          refine lv_iload C.1 C.2.1 dX2_heaviestAmong_48 (lv_at hl 0 rfl) ?_
          refine lv_iload_n C.1 C.2.1 dX2_heaviestAmong_50 rfl (lv_at hl 5 rfl) ?_
          refine r_icmp_ne C rfl rfl (tgt := 66) dX2_heaviestAmong_51 (by decide) (fun h5 => ?_) (fun h5 => ?_)
          · replace hf := if_t hf h5
            refine lv_iload C.1 C.2.1 dX2_heaviestAmong_54 (lv_at hl 1 rfl) ?_
            refine lv_iload_n C.1 C.2.1 dX2_heaviestAmong_56 rfl (lv_at hl 4 rfl) ?_
            refine r_icmp_ge C rfl rfl (tgt := 66) dX2_heaviestAmong_57 (by decide) (fun h4 => ?_) (fun h4 => ?_)
            · replace hf := if_t hf h4
              exact b_X2_heaviestAmong_b60 C hd hend hk7 v1 v4 ((((u32 (σ (34 + d) (v4).toNat)) &&& (u32 v1) : Nat) : Int)) q2 S (lv_sub hl [2, 3, 6, 1, 0] rfl) hf
            · replace hf := if_f hf h4
              exact b_X2_heaviestAmong_b66 C hd hend hk7 v1 v2 v3 v4 S (lv_sub hl [2, 3, 4, 5, 6] rfl) hf
          · replace hf := if_f hf h5
            exact b_X2_heaviestAmong_b66 C hd hend hk7 v1 v2 v3 v4 S (lv_sub hl [2, 3, 4, 5, 6] rfl) hf
        · replace hf := if_f hf h6
          exact b_X2_heaviestAmong_b60 C hd hend hk7 v1 v4 ((((u32 (σ (34 + d) (v4).toNat)) &&& (u32 v1) : Nat) : Int)) q2 S (lv_sub hl [2, 3, 6, 1, 0] rfl) hf
    · replace hf := if_f hf h8
      refine lv_iload_n C.1 C.2.1 dX2_heaviestAmong_72 rfl (lv_at hl 2 rfl) ?_
      cases hf
      exact hend _ _ _ _ S dX2_heaviestAmong_73
set_option maxRecDepth 100000 in
set_option maxHeartbeats 4000000 in
theorem ct_X2_heaviestAmong (l : Launch) (G : Gd) (τ : Sg) {d : Nat} {v1 : Int} {σ : Sg} {q : Int} (hf : f_X2_heaviestAmong d v1 σ = some q) : Ctr l yX2_heaviestAmong cX2_heaviestAmong 7 (some .int) (rmk 1 24) G true τ [.ref (G.1 (27 + d)), .int (oI v1)] σ σ (some (.int (oI q))) := by
  unfold f_X2_heaviestAmong at hf
  obtain ⟨hd, hf⟩ := ck_o hf
  refine CtrI.of (own := RX2) (plainFor_of_name (by decide)) (Nat.le_of_ble_eq_true rfl) rfl (fun p e s m below meth c Q ls C hl S hend => ?_)
  have hl : lv_has ls 7 [(0, .ref (G.1 (27 + d))), (1, .int (oI v1))] := hl
  refine r_iconst C dX2_heaviestAmong_0 ?_
  refine lv_istore_n C.1 C.2.1 dX2_heaviestAmong_1 rfl hl (by decide) (lv' := [(2, .int (oI 0)), (0, .ref (G.1 (27 + d))), (1, .int (oI v1))]) rfl (fun ls hl => ?_)
  refine r_iconst C dX2_heaviestAmong_2 ?_
  refine lv_istore_n C.1 C.2.1 dX2_heaviestAmong_3 rfl hl (by decide) (lv' := [(3, .int (oI 0)), (2, .int (oI 0)), (0, .ref (G.1 (27 + d))), (1, .int (oI v1))]) rfl (fun ls hl => ?_)
  refine r_iconst C dX2_heaviestAmong_4 ?_
  refine lv_istore C.1 C.2.1 dX2_heaviestAmong_5 hl (by decide) (lv' := [(4, .int (oI 0)), (3, .int (oI 0)), (2, .int (oI 0)), (0, .ref (G.1 (27 + d))), (1, .int (oI v1))]) rfl (fun ls hl => ?_)
  exact b_X2_heaviestAmong_b7 C hd hend FUEL v1 0 0 0 S (lv_sub hl [3, 4, 2, 1, 0] rfl) hf
set_option maxRecDepth 100000 in
set_option maxHeartbeats 4000000 in
theorem ct_X8_findWorst (l : Launch) (G : Gd) (τ : Sg) {d : Nat} {σ : Sg} {q : Sg} (hf : f_X8_findWorst d σ = some q) : Ctr l yX8_findWorst cX8_findWorst 1 none (rmk 2 50) G true τ [.ref (G.1 (21 + d))] σ q none := by
  unfold f_X8_findWorst at hf
  obtain ⟨hd, hf⟩ := ck_o hf
  refine CtrV.of (own := RX8) (plainFor_of_name (by decide)) (Nat.le_of_ble_eq_true rfl) rfl (fun p e s m below meth c Q ls C hl S hend => ?_)
  have hl : lv_has ls 1 [(0, .ref (G.1 (21 + d)))] := hl
  refine lv_aload_n C.1 C.2.1 dX8_findWorst_0 rfl (lv_at hl 0 rfl) ?_
  refine lv_aload_n C.1 C.2.1 dX8_findWorst_1 rfl (lv_at hl 0 rfl) ?_
  refine g8_discs C (d := d) S (by omega) tw_148 dX8_findWorst_2 ?_
  refine r_ldc C tw_514 dX8_findWorst_5 ?_
  obtain ⟨q1, hc2, hf⟩ := bd_o hf
  refine r_callVv C S (As := [.int (oI 16777215)]) (rest := [.ref (G.1 (21 + d))]) (ct_X2_heaviestAmong l G τ hc2) mi_X2_heaviestAmong tw_515 mv_X2_heaviestAmong (rvX2 S (d := d) (by omega)) ⟨rfl, rfl⟩ ⟨Nat.le_of_ble_eq_true rfl, Nat.le_of_ble_eq_true rfl⟩ ⟨Nat.zero_le _, Nat.zero_le _⟩ rfl hl.1 rfl (Nat.le_of_ble_eq_true rfl) dX8_findWorst_7 (fun H locs S => ?_)
  refine p8_worstSet C (d := d) S (by omega) tw_156 dX8_findWorst_10 (fun H locs S => ?_)
  obtain ⟨σ3, S, hf⟩ := wr_s S hf
  refine lv_aload_n C.1 C.2.1 dX8_findWorst_13 rfl (lv_at hl 0 rfl) ?_
  refine lv_aload_n C.1 C.2.1 dX8_findWorst_14 rfl (lv_at hl 0 rfl) ?_
  refine g8_book C (d := d) S (by omega) tw_147 dX8_findWorst_15 ?_
  refine lv_aload_n C.1 C.2.1 dX8_findWorst_18 rfl (lv_at hl 0 rfl) ?_
  refine g8_worstSet C (d := d) S (by omega) tw_156 dX8_findWorst_19 ?_
  obtain ⟨q4, hc5, hf⟩ := bd_o hf
  refine r_callVv C S (As := [.int (oI (σ3 (21 + d) 5))]) (rest := [.ref (G.1 (21 + d))]) (ct_X0_sums l G τ hc5) mi_X0_sums tw_523 mv_X0_sums (rvX0 S) ⟨rfl, rfl⟩ ⟨Nat.le_of_ble_eq_true rfl, Nat.le_of_ble_eq_true rfl⟩ ⟨Nat.zero_le _, Nat.zero_le _⟩ rfl hl.1 rfl (Nat.le_of_ble_eq_true rfl) dX8_findWorst_22 (fun H locs S => ?_)
  refine p8_worstSums C (d := d) S (by omega) tw_158 dX8_findWorst_25 (fun H locs S => ?_)
  obtain ⟨σ6, S, hf⟩ := wr_s S hf
  cases hf
  exact hend _ _ _ _ S dX8_findWorst_28
set_option maxRecDepth 100000 in
set_option maxHeartbeats 4000000 in
theorem b_X9_treatyAt_b30 (C : Cx p s m args c RX9 cX9_treatyAt 2) {q : Option Nat} (hend : EndR p l e (rmk 0 0) s m args below meth c Q G true τ cX9_treatyAt .areturn [rvT G q] σ) {H : Heap} {locs : List Loc} {ls : Array Slot} (S : St G true τ σ s H locs) (hl : lv_has ls 2 []) (hf : f_X9_treatyAt_b30 σ = some q) : W p l e (rmk 0 0) s m args below meth c H locs 0 0 Q (F0 m 30 ls []) := by
  unfold f_X9_treatyAt_b30 at hf
  refine lv_null C.1 C.2.1 dX9_treatyAt_30 ?_
  cases hf
  exact hend _ _ _ _ S dX9_treatyAt_31
set_option maxRecDepth 100000 in
set_option maxHeartbeats 4000000 in
theorem ct_X9_treatyAt (l : Launch) (G : Gd) (τ : Sg) {v1 : Int} {σ : Sg} {q : Option Nat} (hf : f_X9_treatyAt v1 σ = some q) : Ctr l yX9_treatyAt cX9_treatyAt 2 (some (.object "RiskDesk$Treaty")) (rmk 0 0) G true τ [.ref (G.1 0), .int (oI v1)] σ σ (some (rvT G q)) := by
  unfold f_X9_treatyAt at hf
  refine CtrA.of (own := RX9) (plainFor_of_name (by decide)) (Nat.le_of_ble_eq_true rfl) rfl (fun p e s m below meth c Q ls C hl S hend => ?_)
  have hl : lv_has ls 2 [(0, .ref (G.1 0)), (1, .int (oI v1))] := hl
  refine lv_iload_n C.1 C.2.1 dX9_treatyAt_0 rfl (lv_at hl 1 rfl) ?_
  refine r_if_lt C rfl (tgt := 30) dX9_treatyAt_1 (by decide) (fun h6 => ?_) (fun h6 => ?_)
  · replace hf := if_t hf h6
    exact b_X9_treatyAt_b30 C hend S (lv_sub hl [] rfl) hf
  · replace hf := if_f hf h6
    refine lv_iload_n C.1 C.2.1 dX9_treatyAt_4 rfl (lv_at hl 1 rfl) ?_
    refine lv_aload_n C.1 C.2.1 dX9_treatyAt_5 rfl (lv_at hl 0 rfl) ?_
    refine g9_treatyCount C S tw_284 dX9_treatyAt_6 ?_
    refine r_icmp_ge C rfl rfl (tgt := 30) dX9_treatyAt_9 (by decide) (fun h5 => ?_) (fun h5 => ?_)
    · replace hf := if_t hf h5
      refine lv_iload_n C.1 C.2.1 dX9_treatyAt_12 rfl (lv_at hl 1 rfl) ?_
      refine lv_aload_n C.1 C.2.1 dX9_treatyAt_13 rfl (lv_at hl 0 rfl) ?_
      refine g9_treaties C S tw_283 dX9_treatyAt_14 ?_
      refine r_alen C S 12 (t0 := 3) (by decide) rfl rfl dX9_treatyAt_17 ?_
      refine r_icmp_ge C rfl (show w32 6 = 6 by decide) (tgt := 30) dX9_treatyAt_18 (by decide) (fun h4 => ?_) (fun h4 => ?_)
      · replace hf := if_t hf h4
        refine lv_aload_n C.1 C.2.1 dX9_treatyAt_21 rfl (lv_at hl 0 rfl) ?_
        refine g9_treaties C S tw_283 dX9_treatyAt_22 ?_
        refine lv_iload_n C.1 C.2.1 dX9_treatyAt_25 rfl (lv_at hl 1 rfl) ?_
        obtain ⟨hi1, hf⟩ := ck_o hf
        refine r_tald C S hi1 dX9_treatyAt_26 ?_
        obtain ⟨t2, ht3, hf⟩ := nm_o hf
        rw [ht3]
        have ht2 : t2 < 6 := by omega
        refine lv_goto C.1 C.2.1 (tgt := 31) dX9_treatyAt_27 (by decide) ?_
        cases hf
        exact hend _ _ _ _ S dX9_treatyAt_31
      · replace hf := if_f hf h4
        exact b_X9_treatyAt_b30 C hend S (lv_sub hl [] rfl) hf
    · replace hf := if_f hf h5
      exact b_X9_treatyAt_b30 C hend S (lv_sub hl [] rfl) hf
set_option maxRecDepth 100000 in
set_option maxHeartbeats 4000000 in
theorem ct_X8_isPassed (l : Launch) (G : Gd) (τ : Sg) {d : Nat} {σ : Sg} {q : Int} (hf : f_X8_isPassed d σ = some q) : Ctr l yX8_isPassed cX8_isPassed 1 (some .boolean) (rmk 0 0) G true τ [.ref (G.1 (21 + d))] σ σ (some (.int (oI q))) := by
  unfold f_X8_isPassed at hf
  obtain ⟨hd, hf⟩ := ck_o hf
  refine CtrZ.of (own := RX8) (plainFor_of_name (by decide)) (Nat.le_of_ble_eq_true rfl) rfl (fun p e s m below meth c Q ls C hl S hend => ?_)
  have hl : lv_has ls 1 [(0, .ref (G.1 (21 + d)))] := hl
  refine lv_aload_n C.1 C.2.1 dX8_isPassed_0 rfl (lv_at hl 0 rfl) ?_
  refine g8_worstSums C (d := d) S (by omega) tw_158 dX8_isPassed_1 ?_
  refine lv_aload_n C.1 C.2.1 dX8_isPassed_4 rfl (lv_at hl 0 rfl) ?_
  refine g8_limit C (d := d) S (by omega) tw_154 dX8_isPassed_5 ?_
  refine r_icmp_le C rfl rfl (tgt := 15) dX8_isPassed_8 (by decide) (fun h1 => ?_) (fun h1 => ?_)
  · replace hf := if_t hf h1
    refine r_iconst C dX8_isPassed_15 ?_
    cases hf
    exact hend (Or.inl rfl) _ _ _ _ S dX8_isPassed_16
  · replace hf := if_f hf h1
    refine r_iconst C dX8_isPassed_11 ?_
    refine lv_goto C.1 C.2.1 (tgt := 16) dX8_isPassed_12 (by decide) ?_
    cases hf
    exact hend (Or.inr rfl) _ _ _ _ S dX8_isPassed_16
set_option maxRecDepth 100000 in
set_option maxHeartbeats 4000000 in
theorem ct_X5_note (l : Launch) (G : Gd) (τ : Sg) {d : Nat} {v1 : Int} {v2 : Int} {v3 : Int} {σ : Sg} {q : Sg} (hf : f_X5_note d v1 v2 v3 σ = some q) : Ctr l yX5_note cX5_note 5 none (rmk 0 0) G true τ [.ref (G.1 (13 + 2 * d)), .int (oI v1), .int (oI v2), .int (oI v3)] σ q none := by
  unfold f_X5_note at hf
  obtain ⟨hd, hf⟩ := ck_o hf
  refine CtrV.of (own := RX5) (plainFor_of_name (by decide)) (Nat.le_of_ble_eq_true rfl) rfl (fun p e s m below meth c Q ls C hl S hend => ?_)
  have hl : lv_has ls 5 [(0, .ref (G.1 (13 + 2 * d))), (1, .int (oI v1)), (2, .int (oI v2)), (3, .int (oI v3))] := hl
  refine lv_aload_n C.1 C.2.1 dX5_note_0 rfl (lv_at hl 0 rfl) ?_
  refine g5_count C (d := d) S (by omega) tw_192 dX5_note_1 ?_
  refine r_bipush C dX5_note_4 (by decide) ?_
  obtain ⟨hz1, hf⟩ := ck_o hf
  refine r_irem C hz1 dX5_note_6 ?_
  refine r_iconst C dX5_note_7 ?_
  refine r_imul C dX5_note_8 ?_
  refine lv_istore C.1 C.2.1 dX5_note_9 hl (by decide) (lv' := [(4, .int (oI (((w32 (σ (13 + 2 * d) 2)).tmod (w32 30)) * 3))), (0, .ref (G.1 (13 + 2 * d))), (1, .int (oI v1)), (2, .int (oI v2)), (3, .int (oI v3))]) rfl (fun ls hl => ?_)
  refine lv_iload C.1 C.2.1 dX5_note_11 (lv_at hl 0 rfl) ?_
  refine r_if_lt C rfl (tgt := 66) dX5_note_13 (by decide) (fun h10 => ?_) (fun h10 => ?_)
  · replace hf := if_t hf h10
    cases hf
    exact hend _ _ _ _ S dX5_note_66
  · replace hf := if_f hf h10
    refine lv_iload C.1 C.2.1 dX5_note_16 (lv_at hl 0 rfl) ?_
    refine r_iconst C dX5_note_18 ?_
    refine r_iadd C dX5_note_19 ?_
    refine lv_aload_n C.1 C.2.1 dX5_note_20 rfl (lv_at hl 1 rfl) ?_
    refine g5_parts C (d := d) S (by omega) tw_190 dX5_note_21 ?_
    refine a_alen C S (ar_14 (d := d) (by omega)) dX5_note_24 ?_
    refine r_icmp_ge C rfl (show w32 90 = 90 by decide) (tgt := 66) dX5_note_25 (by decide) (fun h9 => ?_) (fun h9 => ?_)
    · replace hf := if_t hf h9
      refine lv_aload_n C.1 C.2.1 dX5_note_28 rfl (lv_at hl 1 rfl) ?_
      refine g5_parts C (d := d) S (by omega) tw_190 dX5_note_29 ?_
      refine lv_iload C.1 C.2.1 dX5_note_32 (lv_at hl 0 rfl) ?_
      refine lv_iload_n C.1 C.2.1 dX5_note_34 rfl (lv_at hl 2 rfl) ?_
      obtain ⟨hi2, hf⟩ := ck_o hf
      refine a_iast C S (ar_14 (d := d) (by omega)) hi2 dX5_note_35 (fun H locs S => ?_)
      obtain ⟨σ3, S, hf⟩ := wr_s S hf
      refine lv_aload_n C.1 C.2.1 dX5_note_36 rfl (lv_at hl 1 rfl) ?_
      refine g5_parts C (d := d) S (by omega) tw_190 dX5_note_37 ?_
      refine lv_iload C.1 C.2.1 dX5_note_40 (lv_at hl 0 rfl) ?_
      refine r_iconst C dX5_note_42 ?_
      refine r_iadd C dX5_note_43 ?_
      refine lv_iload_n C.1 C.2.1 dX5_note_44 rfl (lv_at hl 3 rfl) ?_
      obtain ⟨hi4, hf⟩ := ck_o hf
      refine a_iast C S (ar_14 (d := d) (by omega)) hi4 dX5_note_45 (fun H locs S => ?_)
      obtain ⟨σ5, S, hf⟩ := wr_s S hf
      refine lv_aload_n C.1 C.2.1 dX5_note_46 rfl (lv_at hl 1 rfl) ?_
      refine g5_parts C (d := d) S (by omega) tw_190 dX5_note_47 ?_
      refine lv_iload C.1 C.2.1 dX5_note_50 (lv_at hl 0 rfl) ?_
      refine r_iconst C dX5_note_52 ?_
      refine r_iadd C dX5_note_53 ?_
      refine lv_iload_n C.1 C.2.1 dX5_note_54 rfl (lv_at hl 4 rfl) ?_
      obtain ⟨hi6, hf⟩ := ck_o hf
      refine a_iast C S (ar_14 (d := d) (by omega)) hi6 dX5_note_55 (fun H locs S => ?_)
      obtain ⟨σ7, S, hf⟩ := wr_s S hf
      refine lv_aload_n C.1 C.2.1 dX5_note_56 rfl (lv_at hl 1 rfl) ?_
      refine lv_dup C.1 C.2.1 dX5_note_57 rfl ?_
      refine g5_count C (d := d) S (by omega) tw_192 dX5_note_58 ?_
      refine r_iconst C dX5_note_61 ?_
      refine r_iadd C dX5_note_62 ?_
      refine p5_count C (d := d) S (by omega) tw_192 dX5_note_63 (fun H locs S => ?_)
      obtain ⟨σ8, S, hf⟩ := wr_s S hf
      cases hf
      exact hend _ _ _ _ S dX5_note_66
    · replace hf := if_f hf h9
      cases hf
      exact hend _ _ _ _ S dX5_note_66
set_option maxRecDepth 100000 in
set_option maxHeartbeats 4000000 in
theorem ct_X9_lookAt (l : Launch) (G : Gd) (τ : Sg) {v1 : Int} {σ : Sg} {q : Sg} (hf : f_X9_lookAt v1 σ = some q) : Ctr l yX9_lookAt cX9_lookAt 3 none (rmk 1 24) G true τ [.ref (G.1 0), .int (oI v1)] σ q none := by
  unfold f_X9_lookAt at hf
  refine CtrV.of (own := RX9) (plainFor_of_name (by decide)) (Nat.le_of_ble_eq_true rfl) rfl (fun p e s m below meth c Q ls C hl S hend => ?_)
  have hl : lv_has ls 3 [(0, .ref (G.1 0)), (1, .int (oI v1))] := hl
  refine lv_aload_n C.1 C.2.1 dX9_lookAt_0 rfl (lv_at hl 0 rfl) ?_
  refine lv_iload_n C.1 C.2.1 dX9_lookAt_1 rfl (lv_at hl 1 rfl) ?_
  obtain ⟨q1, hc2, hf⟩ := bd_o hf
  refine r_callVv C S (As := [.int (oI v1)]) (rest := []) (ct_X9_treatyAt l G τ hc2) mi_X9_treatyAt tw_528 mv_X9_treatyAt (rvX9 S) ⟨rfl, rfl⟩ ⟨Nat.le_of_ble_eq_true rfl, Nat.le_of_ble_eq_true rfl⟩ ⟨Nat.zero_le _, Nat.zero_le _⟩ rfl hl.1 rfl (Nat.le_of_ble_eq_true rfl) dX9_lookAt_2 (fun H locs S => ?_)
  rcases q1 with _ | t3
  · replace hf := oT_n hf
    refine lv_astore_nN C.1 C.2.1 dX9_lookAt_5 rfl hl (by decide) (lv' := [(2, .null), (0, .ref (G.1 0)), (1, .int (oI v1))]) rfl (fun ls hl => ?_)
    refine lv_aload_nN C.1 C.2.1 dX9_lookAt_6 rfl (lv_at hl 0 rfl) ?_
    refine lv_ifnonnullN C.1 C.2.1 dX9_lookAt_7 ?_
    cases hf
    exact hend _ _ _ _ S dX9_lookAt_10
  · obtain ⟨ht3, hf⟩ := oT_s hf
    refine lv_astore_n C.1 C.2.1 dX9_lookAt_5 rfl hl (by decide) (lv' := [(2, .ref (G.1 (21 + t3))), (0, .ref (G.1 0)), (1, .int (oI v1))]) rfl (fun ls hl => ?_)
    refine lv_aload_n C.1 C.2.1 dX9_lookAt_6 rfl (lv_at hl 0 rfl) ?_
    refine lv_ifnonnull C.1 C.2.1 (tgt := 11) dX9_lookAt_7 (by decide) ?_
    refine lv_aload_n C.1 C.2.1 dX9_lookAt_11 rfl (lv_at hl 0 rfl) ?_
    obtain ⟨q4, hc5, hf⟩ := bd_o hf
    refine r_callVv C S (As := []) (rest := []) (ct_X8_isPassed l G τ hc5) mi_X8_isPassed tw_532 mv_X8_isPassed (rvX8 S (d := t3) (by omega)) ⟨rfl, rfl⟩ ⟨Nat.le_of_ble_eq_true rfl, Nat.le_of_ble_eq_true rfl⟩ ⟨Nat.zero_le _, Nat.zero_le _⟩ rfl hl.1 rfl (Nat.le_of_ble_eq_true rfl) dX9_lookAt_12 (fun H locs S => ?_)
    refine r_if_ne C rfl (tgt := 27) dX9_lookAt_15 (by decide) (fun h12 => ?_) (fun h12 => ?_)
    · replace hf := if_t hf h12
      refine lv_aload_n C.1 C.2.1 dX9_lookAt_18 rfl (lv_at hl 0 rfl) ?_
      refine r_bipush C dX9_lookAt_19 (by decide) ?_
      refine p8_alarm C (d := t3) S (by omega) tw_161 dX9_lookAt_21 (fun H locs S => ?_)
      obtain ⟨σ6, S, hf⟩ := wr_s S hf
      refine lv_goto C.1 C.2.1 (tgt := 76) dX9_lookAt_24 (by decide) ?_
      cases hf
      exact hend _ _ _ _ S dX9_lookAt_76
    · replace hf := if_f hf h12
      refine lv_aload_n C.1 C.2.1 dX9_lookAt_27 rfl (lv_at hl 0 rfl) ?_
      refine g8_alarm C (d := t3) S (by omega) tw_161 dX9_lookAt_28 ?_
      refine r_bipush C dX9_lookAt_31 (by decide) ?_
      refine r_icmp_ne C rfl (show w32 (-2) = (-2) by decide) (tgt := 76) dX9_lookAt_33 (by decide) (fun h11 => ?_) (fun h11 => ?_)
      · replace hf := if_t hf h11
        refine lv_aload_n C.1 C.2.1 dX9_lookAt_36 rfl (lv_at hl 0 rfl) ?_
        refine lv_aload_n C.1 C.2.1 dX9_lookAt_37 rfl (lv_at hl 1 rfl) ?_
        refine g9_acts C S tw_285 dX9_lookAt_38 ?_
        refine g5_count C (d := 0) S (by decide) tw_193 dX9_lookAt_41 ?_
        refine p8_alarm C (d := t3) S (by omega) tw_161 dX9_lookAt_44 (fun H locs S => ?_)
        obtain ⟨σ7, S, hf⟩ := wr_s S hf
        refine lv_aload_n C.1 C.2.1 dX9_lookAt_47 rfl (lv_at hl 0 rfl) ?_
        refine lv_dup C.1 C.2.1 dX9_lookAt_48 rfl ?_
        refine g8_alarmsHad C (d := t3) S (by omega) tw_163 dX9_lookAt_49 ?_
        refine r_iconst C dX9_lookAt_52 ?_
        refine r_iadd C dX9_lookAt_53 ?_
        refine p8_alarmsHad C (d := t3) S (by omega) tw_163 dX9_lookAt_54 (fun H locs S => ?_)
        obtain ⟨σ8, S, hf⟩ := wr_s S hf
        refine lv_aload_n C.1 C.2.1 dX9_lookAt_57 rfl (lv_at hl 1 rfl) ?_
        refine g9_alarms C S tw_286 dX9_lookAt_58 ?_
        refine lv_iload_n C.1 C.2.1 dX9_lookAt_61 rfl (lv_at hl 2 rfl) ?_
        refine lv_aload_n C.1 C.2.1 dX9_lookAt_62 rfl (lv_at hl 1 rfl) ?_
        refine g9_acts C S tw_285 dX9_lookAt_63 ?_
        refine g5_count C (d := 0) S (by decide) tw_193 dX9_lookAt_66 ?_
        refine lv_aload_n C.1 C.2.1 dX9_lookAt_69 rfl (lv_at hl 0 rfl) ?_
        refine g8_worstSums C (d := t3) S (by omega) tw_159 dX9_lookAt_70 ?_
        obtain ⟨q9, hc10, hf⟩ := bd_o hf
        refine r_callVn C S (As := [.int (oI v1), .int (oI (σ8 (13 + 2 * 0) 2)), .int (oI (σ8 (21 + t3) 6))]) (rest := []) (ct_X5_note l G τ hc10) mi_X5_note tw_536 mv_X5_note (rvX5 S (d := 1) (by decide)) ⟨rfl, rfl⟩ ⟨Nat.le_of_ble_eq_true rfl, Nat.le_of_ble_eq_true rfl⟩ ⟨Nat.zero_le _, Nat.zero_le _⟩ rfl hl.1 rfl (Nat.le_of_ble_eq_true rfl) dX9_lookAt_73 (fun H locs S => ?_)
        cases hf
        exact hend _ _ _ _ S dX9_lookAt_76
      · replace hf := if_f hf h11
        cases hf
        exact hend _ _ _ _ S dX9_lookAt_76
set_option maxRecDepth 100000 in
set_option maxHeartbeats 4000000 in
theorem ct_X9_openTreaty (l : Launch) (G : Gd) (τ : Sg) {v1 : Int} {v2 : Int} {v3 : Int} {σ : Sg} {q : Int × Sg} (hf : f_X9_openTreaty v1 v2 v3 σ = some q) : Ctr l yX9_openTreaty cX9_openTreaty 6 (some .int) (rmk 5 134) G true τ [.ref (G.1 0), .int (oI v1), .int (oI v2), .int (oI v3)] σ q.2 (some (.int (oI q.1))) := by
  unfold f_X9_openTreaty at hf
  refine CtrI.of (own := RX9) (plainFor_of_name (by decide)) (Nat.le_of_ble_eq_true rfl) rfl (fun p e s m below meth c Q ls C hl S hend => ?_)
  have hl : lv_has ls 6 [(0, .ref (G.1 0)), (1, .int (oI v1)), (2, .int (oI v2)), (3, .int (oI v3))] := hl
  refine lv_aload_n C.1 C.2.1 dX9_openTreaty_0 rfl (lv_at hl 0 rfl) ?_
  refine g9_treatyCount C S tw_284 dX9_openTreaty_1 ?_
  refine lv_istore C.1 C.2.1 dX9_openTreaty_4 hl (by decide) (lv' := [(4, .int (oI (σ 0 4))), (0, .ref (G.1 0)), (1, .int (oI v1)), (2, .int (oI v2)), (3, .int (oI v3))]) rfl (fun ls hl => ?_)
  refine lv_iload C.1 C.2.1 dX9_openTreaty_6 (lv_at hl 0 rfl) ?_
  refine r_if_lt C rfl (tgt := 21) dX9_openTreaty_8 (by decide) (fun h16 => ?_) (fun h16 => ?_)
  · replace hf := if_t hf h16
    refine r_bipush C dX9_openTreaty_21 (by decide) ?_
    cases hf
    exact hend _ _ _ _ S dX9_openTreaty_23
  · replace hf := if_f hf h16
    refine lv_iload C.1 C.2.1 dX9_openTreaty_11 (lv_at hl 0 rfl) ?_
    refine lv_aload_n C.1 C.2.1 dX9_openTreaty_13 rfl (lv_at hl 1 rfl) ?_
    refine g9_treaties C S tw_283 dX9_openTreaty_14 ?_
    refine r_alen C S 12 (t0 := 3) (by decide) rfl rfl dX9_openTreaty_17 ?_
    refine r_icmp_lt C rfl (show w32 6 = 6 by decide) (tgt := 24) dX9_openTreaty_18 (by decide) (fun h15 => ?_) (fun h15 => ?_)
    · replace hf := if_t hf h15
      refine lv_aload_n C.1 C.2.1 dX9_openTreaty_24 rfl (lv_at hl 1 rfl) ?_
      refine g9_treaties C S tw_283 dX9_openTreaty_25 ?_
      refine lv_iload C.1 C.2.1 dX9_openTreaty_28 (lv_at hl 0 rfl) ?_
      obtain ⟨hi1, hf⟩ := ck_o hf
      refine r_tald C S hi1 dX9_openTreaty_30 ?_
      obtain ⟨t2, ht3, hf⟩ := nm_o hf
      rw [ht3]
      have ht2 : t2 < 6 := by omega
      refine lv_astore C.1 C.2.1 dX9_openTreaty_31 hl (by decide) (lv' := [(5, .ref (G.1 (21 + t2))), (4, .int (oI (σ 0 4))), (0, .ref (G.1 0)), (1, .int (oI v1)), (2, .int (oI v2)), (3, .int (oI v3))]) rfl (fun ls hl => ?_)
      refine lv_aload C.1 C.2.1 dX9_openTreaty_33 (lv_at hl 0 rfl) ?_
      refine lv_ifnonnull C.1 C.2.1 (tgt := 41) dX9_openTreaty_35 (by decide) ?_
      refine lv_aload_n C.1 C.2.1 dX9_openTreaty_41 rfl (lv_at hl 2 rfl) ?_
      refine lv_dup C.1 C.2.1 dX9_openTreaty_42 rfl ?_
      refine g9_treatyCount C S tw_284 dX9_openTreaty_43 ?_
      refine r_iconst C dX9_openTreaty_46 ?_
      refine r_iadd C dX9_openTreaty_47 ?_
      refine p9_treatyCount C S tw_284 dX9_openTreaty_48 (fun H locs S => ?_)
      obtain ⟨σ4, S, hf⟩ := wr_s S hf
      refine lv_aload C.1 C.2.1 dX9_openTreaty_51 (lv_at hl 0 rfl) ?_
      refine lv_iload_n C.1 C.2.1 dX9_openTreaty_53 rfl (lv_at hl 3 rfl) ?_
      refine lv_iload_n C.1 C.2.1 dX9_openTreaty_54 rfl (lv_at hl 4 rfl) ?_
      refine lv_iload_n C.1 C.2.1 dX9_openTreaty_55 rfl (lv_at hl 5 rfl) ?_
      obtain ⟨q5, hc6, hf⟩ := bd_o hf
      refine r_callVn C S (As := [.int (oI v1), .int (oI v2), .int (oI v3)]) (rest := []) (ct_X8_agree l G τ hc6) mi_X8_agree tw_472 mv_X8_agree (rvX8 S (d := t2) (by omega)) ⟨rfl, rfl⟩ ⟨Nat.le_of_ble_eq_true rfl, Nat.le_of_ble_eq_true rfl⟩ ⟨Nat.zero_le _, Nat.zero_le _⟩ rfl hl.1 rfl (Nat.le_of_ble_eq_true rfl) dX9_openTreaty_56 (fun H locs S => ?_)
      refine lv_aload C.1 C.2.1 dX9_openTreaty_59 (lv_at hl 0 rfl) ?_
      refine g8_discs C (d := t2) S (by omega) tw_149 dX9_openTreaty_61 ?_
      refine lv_iload_n C.1 C.2.1 dX9_openTreaty_64 rfl (lv_at hl 4 rfl) ?_
      refine lv_aload_n C.1 C.2.1 dX9_openTreaty_65 rfl (lv_at hl 2 rfl) ?_
      refine g9_book C S tw_282 dX9_openTreaty_66 ?_
      refine lv_iload_n C.1 C.2.1 dX9_openTreaty_69 rfl (lv_at hl 3 rfl) ?_
      obtain ⟨q7, hc8, hf⟩ := bd_o hf
      refine r_callVv C S (As := [.int (oI v1)]) (rest := [.int (oI v2), .ref (G.1 (27 + t2))]) (ct_X0_ofPerils l G τ hc8) mi_X0_ofPerils tw_476 mv_X0_ofPerils (rvX0 S) ⟨rfl, rfl⟩ ⟨Nat.le_of_ble_eq_true rfl, Nat.le_of_ble_eq_true rfl⟩ ⟨Nat.zero_le _, Nat.zero_le _⟩ rfl hl.1 rfl (Nat.le_of_ble_eq_true rfl) dX9_openTreaty_70 (fun H locs S => ?_)
      obtain ⟨q9, hc10, hf⟩ := bd_o hf
      refine r_callVn C S (As := [.int (oI v2), .int (oI q7)]) (rest := []) (ct_X2_fill l G τ hc10) mi_X2_fill tw_480 mv_X2_fill (rvX2 S (d := t2) (by omega)) ⟨rfl, rfl⟩ ⟨Nat.le_of_ble_eq_true rfl, Nat.le_of_ble_eq_true rfl⟩ ⟨Nat.zero_le _, Nat.zero_le _⟩ rfl hl.1 rfl (Nat.le_of_ble_eq_true rfl) dX9_openTreaty_73 (fun H locs S => ?_)
      refine lv_aload C.1 C.2.1 dX9_openTreaty_76 (lv_at hl 0 rfl) ?_
      obtain ⟨q11, hc12, hf⟩ := bd_o hf
      refine r_callVn C S (As := []) (rest := []) (ct_X8_findWorst l G τ hc12) mi_X8_findWorst tw_510 mv_X8_findWorst (rvX8 S (d := t2) (by omega)) ⟨rfl, rfl⟩ ⟨Nat.le_of_ble_eq_true rfl, Nat.le_of_ble_eq_true rfl⟩ ⟨Nat.zero_le _, Nat.zero_le _⟩ rfl hl.1 rfl (Nat.le_of_ble_eq_true rfl) dX9_openTreaty_78 (fun H locs S => ?_)
      refine lv_aload_n C.1 C.2.1 dX9_openTreaty_81 rfl (lv_at hl 2 rfl) ?_
      refine lv_iload C.1 C.2.1 dX9_openTreaty_82 (lv_at hl 1 rfl) ?_
      obtain ⟨q13, hc14, hf⟩ := bd_o hf
      refine r_callVn C S (As := [.int (oI (σ 0 4))]) (rest := []) (ct_X9_lookAt l G τ hc14) mi_X9_lookAt tw_524 mv_X9_lookAt (rvX9 S) ⟨rfl, rfl⟩ ⟨Nat.le_of_ble_eq_true rfl, Nat.le_of_ble_eq_true rfl⟩ ⟨Nat.zero_le _, Nat.zero_le _⟩ rfl hl.1 rfl (Nat.le_of_ble_eq_true rfl) dX9_openTreaty_84 (fun H locs S => ?_)
      refine lv_iload C.1 C.2.1 dX9_openTreaty_87 (lv_at hl 1 rfl) ?_
      cases hf
      exact hend _ _ _ _ S dX9_openTreaty_89
    · replace hf := if_f hf h15
      refine r_bipush C dX9_openTreaty_21 (by decide) ?_
      cases hf
      exact hend _ _ _ _ S dX9_openTreaty_23
set_option maxRecDepth 100000 in
set_option maxHeartbeats 4000000 in
theorem b_X9_beginAnew_b101 (C : Cx p s m args c RX9 cX9_beginAnew 2) {q : Sg} (hend : EndR p l e (rmk 6 159) s m args below meth c Q G true τ cX9_beginAnew .return_ [] q) : ∀ (n : Nat) {H : Heap} {locs : List Loc} {ls : Array Slot} {σ : Sg} (v1 : Int) (S : St G true τ σ s H locs) (hl : lv_has ls 2 [(0, .ref (G.1 0)), (1, .int (oI v1))]) (hf : f_X9_beginAnew_b101 n v1 σ = some q), W p l e (rmk 6 159) s m args below meth c H locs 0 0 Q (F0 m 101 ls []) := by
  intro n
  induction n with
  | zero => intro H locs ls σ v1 S hl hf; cases hf
  | succ n ih =>
    intro H locs ls σ v1 S hl hf
    have hk101 := @ih
    rw [f_X9_beginAnew_b101] at hf
    refine lv_iload_n C.1 C.2.1 dX9_beginAnew_101 rfl (lv_at hl 1 rfl) ?_
    refine lv_aload_n C.1 C.2.1 dX9_beginAnew_102 rfl (lv_at hl 0 rfl) ?_
    refine g9_reader C S tw_281 dX9_beginAnew_103 ?_
    refine g4_treaties C S tw_61 dX9_beginAnew_106 ?_
    refine r_icmp_ge C rfl rfl (tgt := 150) dX9_beginAnew_109 (by decide) (fun h25 => ?_) (fun h25 => ?_)
    · replace hf := if_t hf h25
      refine lv_aload_n C.1 C.2.1 dX9_beginAnew_112 rfl (lv_at hl 0 rfl) ?_
      refine lv_aload_n C.1 C.2.1 dX9_beginAnew_113 rfl (lv_at hl 0 rfl) ?_
      refine g9_reader C S tw_281 dX9_beginAnew_114 ?_
      refine lv_iload_n C.1 C.2.1 dX9_beginAnew_117 rfl (lv_at hl 1 rfl) ?_
      refine r_iconst C dX9_beginAnew_118 ?_
      obtain ⟨q17, hc18, hf⟩ := bd_o hf
      refine r_callVv C S (As := [.int (oI v1), .int (oI 0)]) (rest := [.ref (G.1 0)]) (ct_X4_ofTreaty l G τ hc18) mi_X4_ofTreaty tw_464 mv_X4_ofTreaty (rvX4 S) ⟨rfl, rfl⟩ ⟨Nat.le_of_ble_eq_true rfl, Nat.le_of_ble_eq_true rfl⟩ ⟨Nat.zero_le _, Nat.zero_le _⟩ rfl hl.1 rfl (Nat.le_of_ble_eq_true rfl) dX9_beginAnew_119 (fun H locs S => ?_)
      refine lv_aload_n C.1 C.2.1 dX9_beginAnew_122 rfl (lv_at hl 0 rfl) ?_
      refine g9_reader C S tw_281 dX9_beginAnew_123 ?_
      refine lv_iload_n C.1 C.2.1 dX9_beginAnew_126 rfl (lv_at hl 1 rfl) ?_
      refine r_iconst C dX9_beginAnew_127 ?_
      obtain ⟨q19, hc20, hf⟩ := bd_o hf
      refine r_callVv C S (As := [.int (oI v1), .int (oI 1)]) (rest := [.int (oI q17), .ref (G.1 0)]) (ct_X4_ofTreaty l G τ hc20) mi_X4_ofTreaty tw_464 mv_X4_ofTreaty (rvX4 S) ⟨rfl, rfl⟩ ⟨Nat.le_of_ble_eq_true rfl, Nat.le_of_ble_eq_true rfl⟩ ⟨Nat.zero_le _, Nat.zero_le _⟩ rfl hl.1 rfl (Nat.le_of_ble_eq_true rfl) dX9_beginAnew_128 (fun H locs S => ?_)
      refine lv_aload_n C.1 C.2.1 dX9_beginAnew_131 rfl (lv_at hl 0 rfl) ?_
      refine g9_reader C S tw_281 dX9_beginAnew_132 ?_
      refine lv_iload_n C.1 C.2.1 dX9_beginAnew_135 rfl (lv_at hl 1 rfl) ?_
      refine r_iconst C dX9_beginAnew_136 ?_
      obtain ⟨q21, hc22, hf⟩ := bd_o hf
      refine r_callVv C S (As := [.int (oI v1), .int (oI 2)]) (rest := [.int (oI q19), .int (oI q17), .ref (G.1 0)]) (ct_X4_ofTreaty l G τ hc22) mi_X4_ofTreaty tw_464 mv_X4_ofTreaty (rvX4 S) ⟨rfl, rfl⟩ ⟨Nat.le_of_ble_eq_true rfl, Nat.le_of_ble_eq_true rfl⟩ ⟨Nat.zero_le _, Nat.zero_le _⟩ rfl hl.1 rfl (Nat.le_of_ble_eq_true rfl) dX9_beginAnew_137 (fun H locs S => ?_)
      obtain ⟨q23, hc24, hf⟩ := bd_o hf
      refine r_callVv C S (As := [.int (oI q17), .int (oI q19), .int (oI q21)]) (rest := []) (ct_X9_openTreaty l G τ hc24) mi_X9_openTreaty tw_468 mv_X9_openTreaty (rvX9 S) ⟨rfl, rfl⟩ ⟨Nat.le_of_ble_eq_true rfl, Nat.le_of_ble_eq_true rfl⟩ ⟨Nat.zero_le _, Nat.zero_le _⟩ rfl hl.1 rfl (Nat.le_of_ble_eq_true rfl) dX9_beginAnew_140 (fun H locs S => ?_)
      refine lv_pop C.1 C.2.1 dX9_beginAnew_143 rfl ?_
      refine r_iinc C dX9_beginAnew_144 hl (k := 1) rfl (by decide) (lv' := [(1, .int (oI (v1 + 1))), (0, .ref (G.1 0))]) rfl (fun ls hl => ?_)
      refine lv_goto C.1 C.2.1 (tgt := 101) dX9_beginAnew_147 (by decide) ?_
      exact hk101 (v1 + 1) S (lv_sub hl [1, 0] rfl) hf
    · replace hf := if_f hf h25
      cases hf
      exact hend _ _ _ _ S dX9_beginAnew_150
set_option maxRecDepth 100000 in
set_option maxHeartbeats 4000000 in
theorem b_X9_beginAnew_b99 (C : Cx p s m args c RX9 cX9_beginAnew 2) {q : Sg} (hend : EndR p l e (rmk 6 159) s m args below meth c Q G true τ cX9_beginAnew .return_ [] q) {H : Heap} {locs : List Loc} {ls : Array Slot} {σ : Sg} (S : St G true τ σ s H locs) (hl : lv_has ls 2 [(0, .ref (G.1 0))]) (hf : f_X9_beginAnew_b99 σ = some q) : W p l e (rmk 6 159) s m args below meth c H locs 0 0 Q (F0 m 99 ls []) := by
  unfold f_X9_beginAnew_b99 at hf
  refine r_iconst C dX9_beginAnew_99 ?_
  refine lv_istore_n C.1 C.2.1 dX9_beginAnew_100 rfl hl (by decide) (lv' := [(1, .int (oI 0)), (0, .ref (G.1 0))]) rfl (fun ls hl => ?_)
  exact b_X9_beginAnew_b101 C hend FUEL 0 S (lv_sub hl [1, 0] rfl) hf
set_option maxRecDepth 100000 in
set_option maxHeartbeats 4000000 in
theorem b_X9_beginAnew_b38 (C : Cx p s m args c RX9 cX9_beginAnew 2) {q : Sg} (hend : EndR p l e (rmk 6 159) s m args below meth c Q G true τ cX9_beginAnew .return_ [] q) : ∀ (n : Nat) {H : Heap} {locs : List Loc} {ls : Array Slot} {σ : Sg} (v1 : Int) (S : St G true τ σ s H locs) (hl : lv_has ls 2 [(0, .ref (G.1 0)), (1, .int (oI v1))]) (hf : f_X9_beginAnew_b38 n v1 σ = some q), W p l e (rmk 6 159) s m args below meth c H locs 0 0 Q (F0 m 38 ls []) := by
  intro n
  induction n with
  | zero => intro H locs ls σ v1 S hl hf; cases hf
  | succ n ih =>
    intro H locs ls σ v1 S hl hf
    have hk38 := @ih
    rw [f_X9_beginAnew_b38] at hf
    refine lv_iload_n C.1 C.2.1 dX9_beginAnew_38 rfl (lv_at hl 1 rfl) ?_
    refine lv_aload_n C.1 C.2.1 dX9_beginAnew_39 rfl (lv_at hl 0 rfl) ?_
    refine g9_reader C S tw_281 dX9_beginAnew_40 ?_
    refine g4_policies C S tw_59 dX9_beginAnew_43 ?_
    refine r_icmp_ge C rfl rfl (tgt := 99) dX9_beginAnew_46 (by decide) (fun h26 => ?_) (fun h26 => ?_)
    · replace hf := if_t hf h26
      refine lv_aload_n C.1 C.2.1 dX9_beginAnew_49 rfl (lv_at hl 0 rfl) ?_
      refine g9_book C S tw_282 dX9_beginAnew_50 ?_
      refine lv_iload_n C.1 C.2.1 dX9_beginAnew_53 rfl (lv_at hl 1 rfl) ?_
      refine lv_aload_n C.1 C.2.1 dX9_beginAnew_54 rfl (lv_at hl 0 rfl) ?_
      refine g9_reader C S tw_281 dX9_beginAnew_55 ?_
      refine lv_iload_n C.1 C.2.1 dX9_beginAnew_58 rfl (lv_at hl 1 rfl) ?_
      refine r_iconst C dX9_beginAnew_59 ?_
      obtain ⟨q7, hc8, hf⟩ := bd_o hf
      refine r_callVv C S (As := [.int (oI v1), .int (oI 0)]) (rest := [.int (oI v1), .ref (G.1 6)]) (ct_X4_ofPolicy l G τ hc8) mi_X4_ofPolicy tw_442 mv_X4_ofPolicy (rvX4 S) ⟨rfl, rfl⟩ ⟨Nat.le_of_ble_eq_true rfl, Nat.le_of_ble_eq_true rfl⟩ ⟨Nat.zero_le _, Nat.zero_le _⟩ rfl hl.1 rfl (Nat.le_of_ble_eq_true rfl) dX9_beginAnew_60 (fun H locs S => ?_)
      refine lv_aload_n C.1 C.2.1 dX9_beginAnew_63 rfl (lv_at hl 0 rfl) ?_
      refine g9_reader C S tw_281 dX9_beginAnew_64 ?_
      refine lv_iload_n C.1 C.2.1 dX9_beginAnew_67 rfl (lv_at hl 1 rfl) ?_
      refine r_iconst C dX9_beginAnew_68 ?_
      obtain ⟨q9, hc10, hf⟩ := bd_o hf
      refine r_callVv C S (As := [.int (oI v1), .int (oI 1)]) (rest := [.int (oI q7), .int (oI v1), .ref (G.1 6)]) (ct_X4_ofPolicy l G τ hc10) mi_X4_ofPolicy tw_442 mv_X4_ofPolicy (rvX4 S) ⟨rfl, rfl⟩ ⟨Nat.le_of_ble_eq_true rfl, Nat.le_of_ble_eq_true rfl⟩ ⟨Nat.zero_le _, Nat.zero_le _⟩ rfl hl.1 rfl (Nat.le_of_ble_eq_true rfl) dX9_beginAnew_69 (fun H locs S => ?_)
      refine lv_aload_n C.1 C.2.1 dX9_beginAnew_72 rfl (lv_at hl 0 rfl) ?_
      refine g9_reader C S tw_281 dX9_beginAnew_73 ?_
      refine lv_iload_n C.1 C.2.1 dX9_beginAnew_76 rfl (lv_at hl 1 rfl) ?_
      refine r_iconst C dX9_beginAnew_77 ?_
      obtain ⟨q11, hc12, hf⟩ := bd_o hf
      refine r_callVv C S (As := [.int (oI v1), .int (oI 2)]) (rest := [.int (oI q9), .int (oI q7), .int (oI v1), .ref (G.1 6)]) (ct_X4_ofPolicy l G τ hc12) mi_X4_ofPolicy tw_442 mv_X4_ofPolicy (rvX4 S) ⟨rfl, rfl⟩ ⟨Nat.le_of_ble_eq_true rfl, Nat.le_of_ble_eq_true rfl⟩ ⟨Nat.zero_le _, Nat.zero_le _⟩ rfl hl.1 rfl (Nat.le_of_ble_eq_true rfl) dX9_beginAnew_78 (fun H locs S => ?_)
      refine lv_aload_n C.1 C.2.1 dX9_beginAnew_81 rfl (lv_at hl 0 rfl) ?_
      refine g9_reader C S tw_281 dX9_beginAnew_82 ?_
      refine lv_iload_n C.1 C.2.1 dX9_beginAnew_85 rfl (lv_at hl 1 rfl) ?_
      refine r_iconst C dX9_beginAnew_86 ?_
      obtain ⟨q13, hc14, hf⟩ := bd_o hf
      refine r_callVv C S (As := [.int (oI v1), .int (oI 3)]) (rest := [.int (oI q11), .int (oI q9), .int (oI q7), .int (oI v1), .ref (G.1 6)]) (ct_X4_ofPolicy l G τ hc14) mi_X4_ofPolicy tw_442 mv_X4_ofPolicy (rvX4 S) ⟨rfl, rfl⟩ ⟨Nat.le_of_ble_eq_true rfl, Nat.le_of_ble_eq_true rfl⟩ ⟨Nat.zero_le _, Nat.zero_le _⟩ rfl hl.1 rfl (Nat.le_of_ble_eq_true rfl) dX9_beginAnew_87 (fun H locs S => ?_)
      obtain ⟨q15, hc16, hf⟩ := bd_o hf
      refine r_callVn C S (As := [.int (oI v1), .int (oI q7), .int (oI q9), .int (oI q11), .int (oI q13)]) (rest := []) (ct_X0_enter l G τ hc16) mi_X0_enter tw_446 mv_X0_enter (rvX0 S) ⟨rfl, rfl⟩ ⟨Nat.le_of_ble_eq_true rfl, Nat.le_of_ble_eq_true rfl⟩ ⟨Nat.zero_le _, Nat.zero_le _⟩ rfl hl.1 rfl (Nat.le_of_ble_eq_true rfl) dX9_beginAnew_90 (fun H locs S => ?_)
      refine r_iinc C dX9_beginAnew_93 hl (k := 1) rfl (by decide) (lv' := [(1, .int (oI (v1 + 1))), (0, .ref (G.1 0))]) rfl (fun ls hl => ?_)
      refine lv_goto C.1 C.2.1 (tgt := 38) dX9_beginAnew_96 (by decide) ?_
      exact hk38 (v1 + 1) S (lv_sub hl [1, 0] rfl) hf
    · replace hf := if_f hf h26
      exact b_X9_beginAnew_b99 C hend S (lv_sub hl [0] rfl) hf
set_option maxRecDepth 100000 in
set_option maxHeartbeats 4000000 in
theorem ct_X9_beginAnew (l : Launch) (G : Gd) (τ : Sg) {σ : Sg} {q : Sg} (hf : f_X9_beginAnew σ = some q) : Ctr l yX9_beginAnew cX9_beginAnew 2 none (rmk 6 159) G true τ [.ref (G.1 0)] σ q none := by
  unfold f_X9_beginAnew at hf
  refine CtrV.of (own := RX9) (plainFor_of_name (by decide)) (Nat.le_of_ble_eq_true rfl) rfl (fun p e s m below meth c Q ls C hl S hend => ?_)
  have hl : lv_has ls 2 [(0, .ref (G.1 0))] := hl
  refine lv_aload_n C.1 C.2.1 dX9_beginAnew_0 rfl (lv_at hl 0 rfl) ?_
  refine g9_book C S tw_282 dX9_beginAnew_1 ?_
  obtain ⟨q1, hc2, hf⟩ := bd_o hf
  refine r_callVn C S (As := []) (rest := []) (ct_X0_clear l G τ hc2) mi_X0_clear tw_435 mv_X0_clear (rvX0 S) ⟨rfl, rfl⟩ ⟨Nat.le_of_ble_eq_true rfl, Nat.le_of_ble_eq_true rfl⟩ ⟨Nat.zero_le _, Nat.zero_le _⟩ rfl hl.1 rfl (Nat.le_of_ble_eq_true rfl) dX9_beginAnew_4 (fun H locs S => ?_)
  refine lv_aload_n C.1 C.2.1 dX9_beginAnew_7 rfl (lv_at hl 0 rfl) ?_
  refine g9_acts C S tw_285 dX9_beginAnew_8 ?_
  refine r_iconst C dX9_beginAnew_11 ?_
  refine p5_count C (d := 0) S (by decide) tw_193 dX9_beginAnew_12 (fun H locs S => ?_)
  obtain ⟨σ3, S, hf⟩ := wr_s S hf
  refine lv_aload_n C.1 C.2.1 dX9_beginAnew_15 rfl (lv_at hl 0 rfl) ?_
  refine g9_alarms C S tw_286 dX9_beginAnew_16 ?_
  refine r_iconst C dX9_beginAnew_19 ?_
  refine p5_count C (d := 1) S (by decide) tw_193 dX9_beginAnew_20 (fun H locs S => ?_)
  obtain ⟨σ4, S, hf⟩ := wr_s S hf
  refine lv_aload_n C.1 C.2.1 dX9_beginAnew_23 rfl (lv_at hl 0 rfl) ?_
  refine g9_track C S tw_287 dX9_beginAnew_24 ?_
  refine r_iconst C dX9_beginAnew_27 ?_
  refine p7_told C S tw_207 (by decide) dX9_beginAnew_28 (fun H locs S => ?_)
  obtain ⟨σ5, S, hf⟩ := wr_s S hf
  refine lv_aload_n C.1 C.2.1 dX9_beginAnew_31 rfl (lv_at hl 0 rfl) ?_
  refine r_iconst C dX9_beginAnew_32 ?_
  refine p9_treatyCount C S tw_284 dX9_beginAnew_33 (fun H locs S => ?_)
  obtain ⟨σ6, S, hf⟩ := wr_s S hf
  refine r_iconst C dX9_beginAnew_36 ?_
  refine lv_istore_n C.1 C.2.1 dX9_beginAnew_37 rfl hl (by decide) (lv' := [(1, .int (oI 0)), (0, .ref (G.1 0))]) rfl (fun ls hl => ?_)
  exact b_X9_beginAnew_b38 C hend FUEL 0 S (lv_sub hl [1, 0] rfl) hf
set_option maxRecDepth 100000 in
set_option maxHeartbeats 4000000 in
theorem ct_X9_text (l : Launch) (G : Gd) (τ : Sg) {v1 : Int} {σ : Sg} {q : Int × Sg} (hf : f_X9_text v1 σ = some q) : Ctr l yX9_text cX9_text 2 (some .int) (rmk 7 180) G true τ [.ref (G.1 0), .int (oI v1)] σ q.2 (some (.int (oI q.1))) := by
  unfold f_X9_text at hf
  refine CtrI.of (own := RX9) (plainFor_of_name (by decide)) (Nat.le_of_ble_eq_true rfl) rfl (fun p e s m below meth c Q ls C hl S hend => ?_)
  have hl : lv_has ls 2 [(0, .ref (G.1 0)), (1, .int (oI v1))] := hl
  refine lv_iload_n C.1 C.2.1 dX9_text_0 rfl (lv_at hl 1 rfl) ?_
  refine r_if_lt C rfl (tgt := 15) dX9_text_1 (by decide) (fun h8 => ?_) (fun h8 => ?_)
  · replace hf := if_t hf h8
    refine r_bipush C dX9_text_15 (by decide) ?_
    cases hf
    exact hend _ _ _ _ S dX9_text_17
  · replace hf := if_f hf h8
    refine lv_iload_n C.1 C.2.1 dX9_text_4 rfl (lv_at hl 1 rfl) ?_
    refine lv_aload_n C.1 C.2.1 dX9_text_5 rfl (lv_at hl 0 rfl) ?_
    refine g9_tape C S tw_280 dX9_text_6 ?_
    refine g6_length C S tw_39 dX9_text_9 ?_
    refine r_icmp_le C rfl rfl (tgt := 18) dX9_text_12 (by decide) (fun h7 => ?_) (fun h7 => ?_)
    · replace hf := if_t hf h7
      refine lv_aload_n C.1 C.2.1 dX9_text_18 rfl (lv_at hl 0 rfl) ?_
      refine g9_reader C S tw_281 dX9_text_19 ?_
      refine lv_iload_n C.1 C.2.1 dX9_text_22 rfl (lv_at hl 1 rfl) ?_
      obtain ⟨q1, hc2, hf⟩ := bd_o hf
      refine r_callVn C S (As := [.int (oI v1)]) (rest := []) (ct_X4_read l G τ hc2) mi_X4_read tw_326 mv_X4_read (rvX4 S) ⟨rfl, rfl⟩ ⟨Nat.le_of_ble_eq_true rfl, Nat.le_of_ble_eq_true rfl⟩ ⟨Nat.zero_le _, Nat.zero_le _⟩ rfl hl.1 rfl (Nat.le_of_ble_eq_true rfl) dX9_text_23 (fun H locs S => ?_)
      refine lv_aload_n C.1 C.2.1 dX9_text_26 rfl (lv_at hl 0 rfl) ?_
      refine g9_tape C S tw_280 dX9_text_27 ?_
      refine r_iconst C dX9_text_30 ?_
      refine p6_length C S tw_39 dX9_text_31 (fun H locs S => ?_)
      obtain ⟨σ3, S, hf⟩ := wr_s S hf
      refine lv_aload_n C.1 C.2.1 dX9_text_34 rfl (lv_at hl 0 rfl) ?_
      refine g9_reader C S tw_281 dX9_text_35 ?_
      refine g4_fault C S tw_63 dX9_text_38 ?_
      refine r_if_eq C rfl (tgt := 46) dX9_text_41 (by decide) (fun h6 => ?_) (fun h6 => ?_)
      · replace hf := if_t hf h6
        refine lv_aload_n C.1 C.2.1 dX9_text_46 rfl (lv_at hl 0 rfl) ?_
        obtain ⟨q4, hc5, hf⟩ := bd_o hf
        refine r_callVn C S (As := []) (rest := []) (ct_X9_beginAnew l G τ hc5) mi_X9_beginAnew tw_431 mv_X9_beginAnew (rvX9 S) ⟨rfl, rfl⟩ ⟨Nat.le_of_ble_eq_true rfl, Nat.le_of_ble_eq_true rfl⟩ ⟨Nat.zero_le _, Nat.zero_le _⟩ rfl hl.1 rfl (Nat.le_of_ble_eq_true rfl) dX9_text_47 (fun H locs S => ?_)
        refine lv_aload_n C.1 C.2.1 dX9_text_50 rfl (lv_at hl 0 rfl) ?_
        refine g9_reader C S tw_281 dX9_text_51 ?_
        refine g4_policies C S tw_59 dX9_text_54 ?_
        refine lv_aload_n C.1 C.2.1 dX9_text_57 rfl (lv_at hl 0 rfl) ?_
        refine g9_reader C S tw_281 dX9_text_58 ?_
        refine g4_treaties C S tw_61 dX9_text_61 ?_
        refine r_iadd C dX9_text_64 ?_
        cases hf
        exact hend _ _ _ _ S dX9_text_65
      · replace hf := if_f hf h6
        refine r_iconst C dX9_text_44 ?_
        cases hf
        exact hend _ _ _ _ S dX9_text_45
    · replace hf := if_f hf h7
      refine r_bipush C dX9_text_15 (by decide) ?_
      cases hf
      exact hend _ _ _ _ S dX9_text_17
set_option maxRecDepth 100000 in
set_option maxHeartbeats 4000000 in
theorem ct_X9_fault (l : Launch) (G : Gd) (τ : Sg) {v1 : Int} {σ : Sg} {q : Int} (hf : f_X9_fault v1 σ = some q) : Ctr l yX9_fault cX9_fault 2 (some .int) (rmk 0 0) G true τ [.ref (G.1 0), .int (oI v1)] σ σ (some (.int (oI q))) := by
  unfold f_X9_fault at hf
  refine CtrI.of (own := RX9) (plainFor_of_name (by decide)) (Nat.le_of_ble_eq_true rfl) rfl (fun p e s m below meth c Q ls C hl S hend => ?_)
  have hl : lv_has ls 2 [(0, .ref (G.1 0)), (1, .int (oI v1))] := hl
  refine lv_iload_n C.1 C.2.1 dX9_fault_0 rfl (lv_at hl 1 rfl) ?_
  refine r_if_ne C rfl (tgt := 12) dX9_fault_1 (by decide) (fun h2 => ?_) (fun h2 => ?_)
  · replace hf := if_t hf h2
    refine lv_aload_n C.1 C.2.1 dX9_fault_4 rfl (lv_at hl 0 rfl) ?_
    refine g9_reader C S tw_281 dX9_fault_5 ?_
    refine g4_fault C S tw_63 dX9_fault_8 ?_
    cases hf
    exact hend _ _ _ _ S dX9_fault_11
  · replace hf := if_f hf h2
    refine lv_iload_n C.1 C.2.1 dX9_fault_12 rfl (lv_at hl 1 rfl) ?_
    refine r_iconst C dX9_fault_13 ?_
    refine r_icmp_ne C rfl (show w32 1 = 1 by decide) (tgt := 27) dX9_fault_14 (by decide) (fun h1 => ?_) (fun h1 => ?_)
    · replace hf := if_t hf h1
      refine lv_aload_n C.1 C.2.1 dX9_fault_17 rfl (lv_at hl 0 rfl) ?_
      refine g9_reader C S tw_281 dX9_fault_18 ?_
      refine g4_place C S tw_65 dX9_fault_21 ?_
      refine lv_goto C.1 C.2.1 (tgt := 28) dX9_fault_24 (by decide) ?_
      cases hf
      exact hend _ _ _ _ S dX9_fault_28
    · replace hf := if_f hf h1
      refine r_iconst C dX9_fault_27 ?_
      cases hf
      exact hend _ _ _ _ S dX9_fault_28
set_option maxRecDepth 100000 in
set_option maxHeartbeats 4000000 in
theorem ct_X9_isPlace (l : Launch) (G : Gd) (τ : Sg) {v0 : Int} {v1 : Int} {σ : Sg} {q : Int} (hf : f_X9_isPlace v0 v1 σ = some q) : Ctr l yX9_isPlace cX9_isPlace 2 (some .boolean) (rmk 0 0) G true τ [.int (oI v0), .int (oI v1)] σ σ (some (.int (oI q))) := by
  unfold f_X9_isPlace at hf
  refine CtrZ.of (own := RX9) (plainFor_of_name (by decide)) (Nat.le_of_ble_eq_true rfl) rfl (fun p e s m below meth c Q ls C hl S hend => ?_)
  have hl : lv_has ls 2 [(0, .int (oI v0)), (1, .int (oI v1))] := hl
  refine lv_iload_n C.1 C.2.1 dX9_isPlace_0 rfl (lv_at hl 0 rfl) ?_
  refine r_if_lt C rfl (tgt := 26) dX9_isPlace_1 (by decide) (fun h4 => ?_) (fun h4 => ?_)
  · replace hf := if_t hf h4
    refine r_iconst C dX9_isPlace_26 ?_
    cases hf
    exact hend (Or.inl rfl) _ _ _ _ S dX9_isPlace_27
  · replace hf := if_f hf h4
    refine lv_iload_n C.1 C.2.1 dX9_isPlace_4 rfl (lv_at hl 0 rfl) ?_
    refine r_sipush C dX9_isPlace_5 (by decide) ?_
    refine r_icmp_ge C rfl (show w32 300 = 300 by decide) (tgt := 26) dX9_isPlace_8 (by decide) (fun h3 => ?_) (fun h3 => ?_)
    · replace hf := if_t hf h3
      refine lv_iload_n C.1 C.2.1 dX9_isPlace_11 rfl (lv_at hl 1 rfl) ?_
      refine r_if_lt C rfl (tgt := 26) dX9_isPlace_12 (by decide) (fun h2 => ?_) (fun h2 => ?_)
      · replace hf := if_t hf h2
        refine r_iconst C dX9_isPlace_26 ?_
        cases hf
        exact hend (Or.inl rfl) _ _ _ _ S dX9_isPlace_27
      · replace hf := if_f hf h2
        refine lv_iload_n C.1 C.2.1 dX9_isPlace_15 rfl (lv_at hl 1 rfl) ?_
        refine r_sipush C dX9_isPlace_16 (by decide) ?_
        refine r_icmp_ge C rfl (show w32 300 = 300 by decide) (tgt := 26) dX9_isPlace_19 (by decide) (fun h1 => ?_) (fun h1 => ?_)
        · replace hf := if_t hf h1
          refine r_iconst C dX9_isPlace_22 ?_
          refine lv_goto C.1 C.2.1 (tgt := 27) dX9_isPlace_23 (by decide) ?_
          cases hf
          exact hend (Or.inr rfl) _ _ _ _ S dX9_isPlace_27
        · replace hf := if_f hf h1
          refine r_iconst C dX9_isPlace_26 ?_
          cases hf
          exact hend (Or.inl rfl) _ _ _ _ S dX9_isPlace_27
    · replace hf := if_f hf h3
      refine r_iconst C dX9_isPlace_26 ?_
      cases hf
      exact hend (Or.inl rfl) _ _ _ _ S dX9_isPlace_27
set_option maxRecDepth 100000 in
set_option maxHeartbeats 4000000 in
theorem ct_X9_isSum (l : Launch) (G : Gd) (τ : Sg) {v0 : Int} {σ : Sg} {q : Int} (hf : f_X9_isSum v0 σ = some q) : Ctr l yX9_isSum cX9_isSum 1 (some .boolean) (rmk 0 0) G true τ [.int (oI v0)] σ σ (some (.int (oI q))) := by
  unfold f_X9_isSum at hf
  refine CtrZ.of (own := RX9) (plainFor_of_name (by decide)) (Nat.le_of_ble_eq_true rfl) rfl (fun p e s m below meth c Q ls C hl S hend => ?_)
  have hl : lv_has ls 1 [(0, .int (oI v0))] := hl
  refine lv_iload_n C.1 C.2.1 dX9_isSum_0 rfl (lv_at hl 0 rfl) ?_
  refine r_iconst C dX9_isSum_1 ?_
  refine r_icmp_lt C rfl (show w32 1 = 1 by decide) (tgt := 16) dX9_isSum_2 (by decide) (fun h2 => ?_) (fun h2 => ?_)
  · replace hf := if_t hf h2
    refine r_iconst C dX9_isSum_16 ?_
    cases hf
    exact hend (Or.inl rfl) _ _ _ _ S dX9_isSum_17
  · replace hf := if_f hf h2
    refine lv_iload_n C.1 C.2.1 dX9_isSum_5 rfl (lv_at hl 0 rfl) ?_
    refine r_ldcw C tw_555 dX9_isSum_6 ?_
    refine r_icmp_gt C rfl (show w32 99999 = 99999 by decide) (tgt := 16) dX9_isSum_9 (by decide) (fun h1 => ?_) (fun h1 => ?_)
    · replace hf := if_t hf h1
      refine r_iconst C dX9_isSum_12 ?_
      refine lv_goto C.1 C.2.1 (tgt := 17) dX9_isSum_13 (by decide) ?_
      cases hf
      exact hend (Or.inr rfl) _ _ _ _ S dX9_isSum_17
    · replace hf := if_f hf h1
      refine r_iconst C dX9_isSum_16 ?_
      cases hf
      exact hend (Or.inl rfl) _ _ _ _ S dX9_isSum_17
set_option maxRecDepth 100000 in
set_option maxHeartbeats 4000000 in
theorem ct_X9_isPeril (l : Launch) (G : Gd) (τ : Sg) {v0 : Int} {σ : Sg} {q : Int} (hf : f_X9_isPeril v0 σ = some q) : Ctr l yX9_isPeril cX9_isPeril 1 (some .boolean) (rmk 0 0) G true τ [.int (oI v0)] σ σ (some (.int (oI q))) := by
  unfold f_X9_isPeril at hf
  refine CtrZ.of (own := RX9) (plainFor_of_name (by decide)) (Nat.le_of_ble_eq_true rfl) rfl (fun p e s m below meth c Q ls C hl S hend => ?_)
  have hl : lv_has ls 1 [(0, .int (oI v0))] := hl
  refine lv_iload_n C.1 C.2.1 dX9_isPeril_0 rfl (lv_at hl 0 rfl) ?_
  refine r_if_lt C rfl (tgt := 13) dX9_isPeril_1 (by decide) (fun h2 => ?_) (fun h2 => ?_)
  · replace hf := if_t hf h2
    refine r_iconst C dX9_isPeril_13 ?_
    cases hf
    exact hend (Or.inl rfl) _ _ _ _ S dX9_isPeril_14
  · replace hf := if_f hf h2
    refine lv_iload_n C.1 C.2.1 dX9_isPeril_4 rfl (lv_at hl 0 rfl) ?_
    refine r_iconst C dX9_isPeril_5 ?_
    refine r_icmp_ge C rfl (show w32 4 = 4 by decide) (tgt := 13) dX9_isPeril_6 (by decide) (fun h1 => ?_) (fun h1 => ?_)
    · replace hf := if_t hf h1
      refine r_iconst C dX9_isPeril_9 ?_
      refine lv_goto C.1 C.2.1 (tgt := 14) dX9_isPeril_10 (by decide) ?_
      cases hf
      exact hend (Or.inr rfl) _ _ _ _ S dX9_isPeril_14
    · replace hf := if_f hf h1
      refine r_iconst C dX9_isPeril_13 ?_
      cases hf
      exact hend (Or.inl rfl) _ _ _ _ S dX9_isPeril_14
set_option maxRecDepth 100000 in
set_option maxHeartbeats 4000000 in
theorem b_X0_leastFree_b2 (C : Cx p s m args c RX0 cX0_leastFree 2) {q : Int} (hend : EndR p l e (rmk 1 21) s m args below meth c Q G true τ cX0_leastFree .ireturn [.int (oI q)] σ) : ∀ (n : Nat) {H : Heap} {locs : List Loc} {ls : Array Slot} (v1 : Int) (S : St G true τ σ s H locs) (hl : lv_has ls 2 [(0, .ref (G.1 6)), (1, .int (oI v1))]) (hf : f_X0_leastFree_b2 σ n v1 = some q), W p l e (rmk 1 21) s m args below meth c H locs 0 0 Q (F0 m 2 ls []) := by
  intro n
  induction n with
  | zero => intro H locs ls v1 S hl hf; cases hf
  | succ n ih =>
    intro H locs ls v1 S hl hf
    have hk2 := @ih
    rw [f_X0_leastFree_b2] at hf
    refine lv_iload_n C.1 C.2.1 dX0_leastFree_2 rfl (lv_at hl 1 rfl) ?_
    refine r_bipush C dX0_leastFree_3 (by decide) ?_
    refine r_icmp_ge C rfl (show w32 24 = 24 by decide) (tgt := 27) dX0_leastFree_5 (by decide) (fun h4 => ?_) (fun h4 => ?_)
    · replace hf := if_t hf h4
      refine lv_aload_n C.1 C.2.1 dX0_leastFree_8 rfl (lv_at hl 0 rfl) ?_
      refine g0_inForce C S tw_98 dX0_leastFree_9 ?_
      refine lv_iload_n C.1 C.2.1 dX0_leastFree_12 rfl (lv_at hl 1 rfl) ?_
      obtain ⟨q1, hc2, hf⟩ := bd_o hf
      refine r_callSNv C S (As := [.int (oI (σ 6 5)), .int (oI v1)]) (rest := []) (ct_X9_contains l G τ hc2) mi_X9_contains (nw_461 S.2.2.2) ms_X9_contains ⟨rfl, rfl⟩ ⟨Nat.le_of_ble_eq_true rfl, Nat.le_of_ble_eq_true rfl⟩ ⟨Nat.zero_le _, Nat.zero_le _⟩ rfl hl.1 rfl (Nat.le_of_ble_eq_true rfl) dX0_leastFree_13 (fun H locs S => ?_)
      refine r_if_ne C rfl (tgt := 21) dX0_leastFree_16 (by decide) (fun h3 => ?_) (fun h3 => ?_)
      · replace hf := if_t hf h3
        refine lv_iload_n C.1 C.2.1 dX0_leastFree_19 rfl (lv_at hl 1 rfl) ?_
        cases hf
        exact hend _ _ _ _ S dX0_leastFree_20
      · replace hf := if_f hf h3
        refine r_iinc C dX0_leastFree_21 hl (k := 1) rfl (by decide) (lv' := [(1, .int (oI (v1 + 1))), (0, .ref (G.1 6))]) rfl (fun ls hl => ?_)
        refine lv_goto C.1 C.2.1 (tgt := 2) dX0_leastFree_24 (by decide) ?_
        exact hk2 (v1 + 1) S (lv_sub hl [1, 0] rfl) hf
    · replace hf := if_f hf h4
      refine r_iconst C dX0_leastFree_27 ?_
      cases hf
      exact hend _ _ _ _ S dX0_leastFree_28
set_option maxRecDepth 100000 in
set_option maxHeartbeats 4000000 in
theorem ct_X0_leastFree (l : Launch) (G : Gd) (τ : Sg) {σ : Sg} {q : Int} (hf : f_X0_leastFree σ = some q) : Ctr l yX0_leastFree cX0_leastFree 2 (some .int) (rmk 1 21) G true τ [.ref (G.1 6)] σ σ (some (.int (oI q))) := by
  unfold f_X0_leastFree at hf
  refine CtrI.of (own := RX0) (plainFor_of_name (by decide)) (Nat.le_of_ble_eq_true rfl) rfl (fun p e s m below meth c Q ls C hl S hend => ?_)
  have hl : lv_has ls 2 [(0, .ref (G.1 6))] := hl
  refine r_iconst C dX0_leastFree_0 ?_
  refine lv_istore_n C.1 C.2.1 dX0_leastFree_1 rfl hl (by decide) (lv' := [(1, .int (oI 0)), (0, .ref (G.1 6))]) rfl (fun ls hl => ?_)
  exact b_X0_leastFree_b2 C hend FUEL 0 S (lv_sub hl [1, 0] rfl) hf
set_option maxRecDepth 100000 in
set_option maxHeartbeats 4000000 in
theorem ct_X8_takes (l : Launch) (G : Gd) (τ : Sg) {d : Nat} {v1 : Int} {σ : Sg} {q : Int} (hf : f_X8_takes d v1 σ = some q) : Ctr l yX8_takes cX8_takes 2 (some .boolean) (rmk 1 21) G true τ [.ref (G.1 (21 + d)), .int (oI v1)] σ σ (some (.int (oI q))) := by
  unfold f_X8_takes at hf
  obtain ⟨hd, hf⟩ := ck_o hf
  refine CtrZ.of (own := RX8) (plainFor_of_name (by decide)) (Nat.le_of_ble_eq_true rfl) rfl (fun p e s m below meth c Q ls C hl S hend => ?_)
  have hl : lv_has ls 2 [(0, .ref (G.1 (21 + d))), (1, .int (oI v1))] := hl
  refine lv_aload_n C.1 C.2.1 dX8_takes_0 rfl (lv_at hl 0 rfl) ?_
  refine g8_perils C (d := d) S (by omega) tw_150 dX8_takes_1 ?_
  refine lv_iload_n C.1 C.2.1 dX8_takes_4 rfl (lv_at hl 1 rfl) ?_
  obtain ⟨q1, hc2, hf⟩ := bd_o hf
  refine r_callSNv C S (As := [.int (oI (σ (21 + d) 2)), .int (oI v1)]) (rest := []) (ct_X9_contains l G τ hc2) mi_X9_contains (nw_571 S.2.2.2) ms_X9_contains ⟨rfl, rfl⟩ ⟨Nat.le_of_ble_eq_true rfl, Nat.le_of_ble_eq_true rfl⟩ ⟨Nat.zero_le _, Nat.zero_le _⟩ rfl hl.1 rfl (Nat.le_of_ble_eq_true rfl) dX8_takes_5 (fun H locs S => ?_)
  obtain ⟨hb3, hf⟩ := ck_o hf
  cases hf
  exact hend hb3 _ _ _ _ S dX8_takes_8
set_option maxRecDepth 100000 in
set_option maxHeartbeats 4000000 in
theorem b_X9_joinTreaties_b40 (C : Cx p s m args c RX9 cX9_joinTreaties 5) {q : Sg} {k2 : Int → Int → Int → Sg → Option (Sg)} (hend : EndR p l e (rmk 4 111) s m args below meth c Q G true τ cX9_joinTreaties .return_ [] q) (hk2 : ∀ {H : Heap} {locs : List Loc} {ls : Array Slot} {σ : Sg} (v1 : Int) (v2 : Int) (v3 : Int), St G true τ σ s H locs → lv_has ls 5 [(0, .ref (G.1 0)), (1, .int (oI v1)), (2, .int (oI v2)), (3, .int (oI v3))] → k2 v1 v2 v3 σ = some q → W p l e (rmk 4 111) s m args below meth c H locs 0 0 Q (F0 m 2 ls [])) {H : Heap} {locs : List Loc} {ls : Array Slot} {σ : Sg} (v1 : Int) (v2 : Int) (v3 : Int) (S : St G true τ σ s H locs) (hl : lv_has ls 5 [(0, .ref (G.1 0)), (1, .int (oI v1)), (2, .int (oI v2)), (3, .int (oI v3))]) (hf : f_X9_joinTreaties_b40 k2 v1 v2 v3 σ = some q) : W p l e (rmk 4 111) s m args below meth c H locs 0 0 Q (F0 m 40 ls []) := by
  unfold f_X9_joinTreaties_b40 at hf
  refine r_iinc C dX9_joinTreaties_40 hl (k := 3) rfl (by decide) (lv' := [(3, .int (oI (v3 + 1))), (0, .ref (G.1 0)), (1, .int (oI v1)), (2, .int (oI v2))]) rfl (fun ls hl => ?_)
  refine lv_goto C.1 C.2.1 (tgt := 2) dX9_joinTreaties_43 (by decide) ?_
  exact hk2 v1 v2 (v3 + 1) S (lv_sub hl [1, 2, 3, 0] rfl) hf
set_option maxRecDepth 100000 in
set_option maxHeartbeats 4000000 in
theorem b_X9_joinTreaties_b2 (C : Cx p s m args c RX9 cX9_joinTreaties 5) {q : Sg} (hend : EndR p l e (rmk 4 111) s m args below meth c Q G true τ cX9_joinTreaties .return_ [] q) : ∀ (n : Nat) {H : Heap} {locs : List Loc} {ls : Array Slot} {σ : Sg} (v1 : Int) (v2 : Int) (v3 : Int) (S : St G true τ σ s H locs) (hl : lv_has ls 5 [(0, .ref (G.1 0)), (1, .int (oI v1)), (2, .int (oI v2)), (3, .int (oI v3))]) (hf : f_X9_joinTreaties_b2 n v1 v2 v3 σ = some q), W p l e (rmk 4 111) s m args below meth c H locs 0 0 Q (F0 m 2 ls []) := by
  intro n
  induction n with
  | zero => intro H locs ls σ v1 v2 v3 S hl hf; cases hf
  | succ n ih =>
    intro H locs ls σ v1 v2 v3 S hl hf
    have hk2 := @ih
    rw [f_X9_joinTreaties_b2] at hf
    refine lv_iload_n C.1 C.2.1 dX9_joinTreaties_2 rfl (lv_at hl 3 rfl) ?_
    refine lv_aload_n C.1 C.2.1 dX9_joinTreaties_3 rfl (lv_at hl 0 rfl) ?_
    refine g9_treatyCount C S tw_284 dX9_joinTreaties_4 ?_
    refine r_icmp_ge C rfl rfl (tgt := 46) dX9_joinTreaties_7 (by decide) (fun h9 => ?_) (fun h9 => ?_)
    · replace hf := if_t hf h9
      refine lv_aload_n C.1 C.2.1 dX9_joinTreaties_10 rfl (lv_at hl 0 rfl) ?_
      refine lv_iload_n C.1 C.2.1 dX9_joinTreaties_11 rfl (lv_at hl 3 rfl) ?_
      obtain ⟨q1, hc2, hf⟩ := bd_o hf
      refine r_callVv C S (As := [.int (oI v3)]) (rest := []) (ct_X9_treatyAt l G τ hc2) mi_X9_treatyAt tw_528 mv_X9_treatyAt (rvX9 S) ⟨rfl, rfl⟩ ⟨Nat.le_of_ble_eq_true rfl, Nat.le_of_ble_eq_true rfl⟩ ⟨Nat.zero_le _, Nat.zero_le _⟩ rfl hl.1 rfl (Nat.le_of_ble_eq_true rfl) dX9_joinTreaties_12 (fun H locs S => ?_)
      rcases q1 with _ | t3
      · replace hf := oT_n hf
        refine lv_astoreN C.1 C.2.1 dX9_joinTreaties_15 hl (by decide) (lv' := [(4, .null), (0, .ref (G.1 0)), (1, .int (oI v1)), (2, .int (oI v2)), (3, .int (oI v3))]) rfl (fun ls hl => ?_)
        refine lv_aloadN C.1 C.2.1 dX9_joinTreaties_17 (lv_at hl 0 rfl) ?_
        refine lv_ifnullN C.1 C.2.1 (tgt := 40) dX9_joinTreaties_19 (by decide) ?_
        exact b_X9_joinTreaties_b40 C hend hk2 v1 v2 v3 S (lv_sub hl [1, 2, 3, 4] rfl) hf
      · obtain ⟨ht3, hf⟩ := oT_s hf
        refine lv_astore C.1 C.2.1 dX9_joinTreaties_15 hl (by decide) (lv' := [(4, .ref (G.1 (21 + t3))), (0, .ref (G.1 0)), (1, .int (oI v1)), (2, .int (oI v2)), (3, .int (oI v3))]) rfl (fun ls hl => ?_)
        refine lv_aload C.1 C.2.1 dX9_joinTreaties_17 (lv_at hl 0 rfl) ?_
        refine lv_ifnull C.1 C.2.1 dX9_joinTreaties_19 ?_
        refine lv_aload C.1 C.2.1 dX9_joinTreaties_22 (lv_at hl 0 rfl) ?_
        refine lv_iload_n C.1 C.2.1 dX9_joinTreaties_24 rfl (lv_at hl 3 rfl) ?_
        obtain ⟨q4, hc5, hf⟩ := bd_o hf
        refine r_callVv C S (As := [.int (oI v2)]) (rest := []) (ct_X8_takes l G τ hc5) mi_X8_takes tw_567 mv_X8_takes (rvX8 S (d := t3) (by omega)) ⟨rfl, rfl⟩ ⟨Nat.le_of_ble_eq_true rfl, Nat.le_of_ble_eq_true rfl⟩ ⟨Nat.zero_le _, Nat.zero_le _⟩ rfl hl.1 rfl (Nat.le_of_ble_eq_true rfl) dX9_joinTreaties_25 (fun H locs S => ?_)
        refine r_if_eq C rfl (tgt := 40) dX9_joinTreaties_28 (by decide) (fun h8 => ?_) (fun h8 => ?_)
        · replace hf := if_t hf h8
          exact b_X9_joinTreaties_b40 C hend hk2 v1 v2 v3 S (lv_sub hl [1, 2, 3, 4] rfl) hf
        · replace hf := if_f hf h8
          refine lv_aload C.1 C.2.1 dX9_joinTreaties_31 (lv_at hl 0 rfl) ?_
          refine g8_discs C (d := t3) S (by omega) tw_149 dX9_joinTreaties_33 ?_
          refine lv_iload_n C.1 C.2.1 dX9_joinTreaties_36 rfl (lv_at hl 2 rfl) ?_
          obtain ⟨q6, hc7, hf⟩ := bd_o hf
          refine r_callVn C S (As := [.int (oI v1)]) (rest := []) (ct_X2_add l G τ hc7) mi_X2_add tw_572 mv_X2_add (rvX2 S (d := t3) (by omega)) ⟨rfl, rfl⟩ ⟨Nat.le_of_ble_eq_true rfl, Nat.le_of_ble_eq_true rfl⟩ ⟨Nat.zero_le _, Nat.zero_le _⟩ rfl hl.1 rfl (Nat.le_of_ble_eq_true rfl) dX9_joinTreaties_37 (fun H locs S => ?_)
          exact b_X9_joinTreaties_b40 C hend hk2 v1 v2 v3 S (lv_sub hl [1, 2, 3, 4] rfl) hf
    · replace hf := if_f hf h9
      cases hf
      exact hend _ _ _ _ S dX9_joinTreaties_46
set_option maxRecDepth 100000 in
set_option maxHeartbeats 4000000 in
theorem ct_X9_joinTreaties (l : Launch) (G : Gd) (τ : Sg) {v1 : Int} {v2 : Int} {σ : Sg} {q : Sg} (hf : f_X9_joinTreaties v1 v2 σ = some q) : Ctr l yX9_joinTreaties cX9_joinTreaties 5 none (rmk 4 111) G true τ [.ref (G.1 0), .int (oI v1), .int (oI v2)] σ q none := by
  unfold f_X9_joinTreaties at hf
  refine CtrV.of (own := RX9) (plainFor_of_name (by decide)) (Nat.le_of_ble_eq_true rfl) rfl (fun p e s m below meth c Q ls C hl S hend => ?_)
  have hl : lv_has ls 5 [(0, .ref (G.1 0)), (1, .int (oI v1)), (2, .int (oI v2))] := hl
  refine r_iconst C dX9_joinTreaties_0 ?_
  refine lv_istore_n C.1 C.2.1 dX9_joinTreaties_1 rfl hl (by decide) (lv' := [(3, .int (oI 0)), (0, .ref (G.1 0)), (1, .int (oI v1)), (2, .int (oI v2))]) rfl (fun ls hl => ?_)
  exact b_X9_joinTreaties_b2 C hend FUEL v1 v2 0 S (lv_sub hl [1, 2, 3, 0] rfl) hf
set_option maxRecDepth 100000 in
set_option maxHeartbeats 4000000 in
theorem b_X9_tell_b56 (C : Cx p s m args c RX9 cX9_tell 7) {q : Sg} {k13 : Int → Int → Sg → Option (Sg)} (hend : EndR p l e (rmk 3 70) s m args below meth c Q G true τ cX9_tell .return_ [] q) (hk13 : ∀ {H : Heap} {locs : List Loc} {ls : Array Slot} {σ : Sg} (v4 : Int) (v5 : Int), St G true τ σ s H locs → lv_has ls 7 [(0, .ref (G.1 0)), (4, .int (oI v4)), (5, .int (oI v5))] → k13 v4 v5 σ = some q → W p l e (rmk 3 70) s m args below meth c H locs 0 0 Q (F0 m 13 ls [])) {H : Heap} {locs : List Loc} {ls : Array Slot} {σ : Sg} (v4 : Int) (v5 : Int) (S : St G true τ σ s H locs) (hl : lv_has ls 7 [(0, .ref (G.1 0)), (4, .int (oI v4)), (5, .int (oI v5))]) (hf : f_X9_tell_b56 k13 v4 v5 σ = some q) : W p l e (rmk 3 70) s m args below meth c H locs 0 0 Q (F0 m 56 ls []) := by
  unfold f_X9_tell_b56 at hf
  refine r_iinc C dX9_tell_56 hl (k := 2) rfl (by decide) (lv' := [(5, .int (oI (v5 + 1))), (0, .ref (G.1 0)), (4, .int (oI v4))]) rfl (fun ls hl => ?_)
  refine lv_goto C.1 C.2.1 (tgt := 13) dX9_tell_59 (by decide) ?_
  exact hk13 v4 (v5 + 1) S (lv_sub hl [1, 2, 0] rfl) hf
set_option maxRecDepth 100000 in
set_option maxHeartbeats 4000000 in
theorem b_X9_tell_b13 (C : Cx p s m args c RX9 cX9_tell 7) {q : Sg} (hend : EndR p l e (rmk 3 70) s m args below meth c Q G true τ cX9_tell .return_ [] q) : ∀ (n : Nat) {H : Heap} {locs : List Loc} {ls : Array Slot} {σ : Sg} (v4 : Int) (v5 : Int) (S : St G true τ σ s H locs) (hl : lv_has ls 7 [(0, .ref (G.1 0)), (4, .int (oI v4)), (5, .int (oI v5))]) (hf : f_X9_tell_b13 n v4 v5 σ = some q), W p l e (rmk 3 70) s m args below meth c H locs 0 0 Q (F0 m 13 ls []) := by
  intro n
  induction n with
  | zero => intro H locs ls σ v4 v5 S hl hf; cases hf
  | succ n ih =>
    intro H locs ls σ v4 v5 S hl hf
    have hk13 := @ih
    rw [f_X9_tell_b13] at hf
    refine lv_iload C.1 C.2.1 dX9_tell_13 (lv_at hl 2 rfl) ?_
    refine lv_aload_n C.1 C.2.1 dX9_tell_15 rfl (lv_at hl 0 rfl) ?_
    refine g9_treatyCount C S tw_284 dX9_tell_16 ?_
    refine r_icmp_ge C rfl rfl (tgt := 62) dX9_tell_19 (by decide) (fun h13 => ?_) (fun h13 => ?_)
    · replace hf := if_t hf h13
      refine lv_aload_n C.1 C.2.1 dX9_tell_22 rfl (lv_at hl 0 rfl) ?_
      refine lv_iload C.1 C.2.1 dX9_tell_23 (lv_at hl 2 rfl) ?_
      obtain ⟨q3, hc4, hf⟩ := bd_o hf
      refine r_callVv C S (As := [.int (oI v5)]) (rest := []) (ct_X9_treatyAt l G τ hc4) mi_X9_treatyAt tw_528 mv_X9_treatyAt (rvX9 S) ⟨rfl, rfl⟩ ⟨Nat.le_of_ble_eq_true rfl, Nat.le_of_ble_eq_true rfl⟩ ⟨Nat.zero_le _, Nat.zero_le _⟩ rfl hl.1 rfl (Nat.le_of_ble_eq_true rfl) dX9_tell_25 (fun H locs S => ?_)
      rcases q3 with _ | t5
      · replace hf := oT_n hf
        refine lv_astoreN C.1 C.2.1 dX9_tell_28 hl (by decide) (lv' := [(6, .null), (0, .ref (G.1 0)), (4, .int (oI v4)), (5, .int (oI v5))]) rfl (fun ls hl => ?_)
        refine lv_aloadN C.1 C.2.1 dX9_tell_30 (lv_at hl 0 rfl) ?_
        refine lv_ifnullN C.1 C.2.1 (tgt := 56) dX9_tell_32 (by decide) ?_
        exact b_X9_tell_b56 C hend hk13 v4 v5 S (lv_sub hl [1, 2, 3] rfl) hf
      · obtain ⟨ht5, hf⟩ := oT_s hf
        refine lv_astore C.1 C.2.1 dX9_tell_28 hl (by decide) (lv' := [(6, .ref (G.1 (21 + t5))), (0, .ref (G.1 0)), (4, .int (oI v4)), (5, .int (oI v5))]) rfl (fun ls hl => ?_)
        refine lv_aload C.1 C.2.1 dX9_tell_30 (lv_at hl 0 rfl) ?_
        refine lv_ifnull C.1 C.2.1 dX9_tell_32 ?_
        refine lv_aload C.1 C.2.1 dX9_tell_35 (lv_at hl 0 rfl) ?_
        refine lv_iload C.1 C.2.1 dX9_tell_37 (lv_at hl 2 rfl) ?_
        obtain ⟨q6, hc7, hf⟩ := bd_o hf
        refine r_callVv C S (As := [.int (oI v4)]) (rest := []) (ct_X8_takes l G τ hc7) mi_X8_takes tw_567 mv_X8_takes (rvX8 S (d := t5) (by omega)) ⟨rfl, rfl⟩ ⟨Nat.le_of_ble_eq_true rfl, Nat.le_of_ble_eq_true rfl⟩ ⟨Nat.zero_le _, Nat.zero_le _⟩ rfl hl.1 rfl (Nat.le_of_ble_eq_true rfl) dX9_tell_39 (fun H locs S => ?_)
        refine r_if_eq C rfl (tgt := 56) dX9_tell_42 (by decide) (fun h12 => ?_) (fun h12 => ?_)
        · replace hf := if_t hf h12
          exact b_X9_tell_b56 C hend hk13 v4 v5 S (lv_sub hl [1, 2, 3] rfl) hf
        · replace hf := if_f hf h12
          refine lv_aload C.1 C.2.1 dX9_tell_45 (lv_at hl 0 rfl) ?_
          obtain ⟨q8, hc9, hf⟩ := bd_o hf
          refine r_callVn C S (As := []) (rest := []) (ct_X8_findWorst l G τ hc9) mi_X8_findWorst tw_510 mv_X8_findWorst (rvX8 S (d := t5) (by omega)) ⟨rfl, rfl⟩ ⟨Nat.le_of_ble_eq_true rfl, Nat.le_of_ble_eq_true rfl⟩ ⟨Nat.zero_le _, Nat.zero_le _⟩ rfl hl.1 rfl (Nat.le_of_ble_eq_true rfl) dX9_tell_47 (fun H locs S => ?_)
          refine lv_aload_n C.1 C.2.1 dX9_tell_50 rfl (lv_at hl 1 rfl) ?_
          refine lv_iload C.1 C.2.1 dX9_tell_51 (lv_at hl 3 rfl) ?_
          obtain ⟨q10, hc11, hf⟩ := bd_o hf
          refine r_callVn C S (As := [.int (oI v5)]) (rest := []) (ct_X9_lookAt l G τ hc11) mi_X9_lookAt tw_524 mv_X9_lookAt (rvX9 S) ⟨rfl, rfl⟩ ⟨Nat.le_of_ble_eq_true rfl, Nat.le_of_ble_eq_true rfl⟩ ⟨Nat.zero_le _, Nat.zero_le _⟩ rfl hl.1 rfl (Nat.le_of_ble_eq_true rfl) dX9_tell_53 (fun H locs S => ?_)
          exact b_X9_tell_b56 C hend hk13 v4 v5 S (lv_sub hl [1, 2, 3] rfl) hf
    · replace hf := if_f hf h13
      cases hf
      exact hend _ _ _ _ S dX9_tell_62
set_option maxRecDepth 100000 in
set_option maxHeartbeats 4000000 in
theorem ct_X9_tell (l : Launch) (G : Gd) (τ : Sg) {v1 : Int} {v2 : Int} {v3 : Int} {v4 : Int} {σ : Sg} {q : Sg} (hf : f_X9_tell v1 v2 v3 v4 σ = some q) : Ctr l yX9_tell cX9_tell 7 none (rmk 3 70) G true τ [.ref (G.1 0), .int (oI v1), .int (oI v2), .int (oI v3), .int (oI v4)] σ q none := by
  unfold f_X9_tell at hf
  refine CtrV.of (own := RX9) (plainFor_of_name (by decide)) (Nat.le_of_ble_eq_true rfl) rfl (fun p e s m below meth c Q ls C hl S hend => ?_)
  have hl : lv_has ls 7 [(0, .ref (G.1 0)), (1, .int (oI v1)), (2, .int (oI v2)), (3, .int (oI v3)), (4, .int (oI v4))] := hl
  refine lv_aload_n C.1 C.2.1 dX9_tell_0 rfl (lv_at hl 0 rfl) ?_
  refine g9_acts C S tw_285 dX9_tell_1 ?_
  refine lv_iload_n C.1 C.2.1 dX9_tell_4 rfl (lv_at hl 1 rfl) ?_
  refine lv_iload_n C.1 C.2.1 dX9_tell_5 rfl (lv_at hl 2 rfl) ?_
  refine lv_iload_n C.1 C.2.1 dX9_tell_6 rfl (lv_at hl 3 rfl) ?_
  obtain ⟨q1, hc2, hf⟩ := bd_o hf
  refine r_callVn C S (As := [.int (oI v1), .int (oI v2), .int (oI v3)]) (rest := []) (ct_X5_note l G τ hc2) mi_X5_note tw_536 mv_X5_note (rvX5 S (d := 0) (by decide)) ⟨rfl, rfl⟩ ⟨Nat.le_of_ble_eq_true rfl, Nat.le_of_ble_eq_true rfl⟩ ⟨Nat.zero_le _, Nat.zero_le _⟩ rfl hl.1 rfl (Nat.le_of_ble_eq_true rfl) dX9_tell_7 (fun H locs S => ?_)
  refine r_iconst C dX9_tell_10 ?_
  refine lv_istore C.1 C.2.1 dX9_tell_11 hl (by decide) (lv' := [(5, .int (oI 0)), (0, .ref (G.1 0)), (1, .int (oI v1)), (2, .int (oI v2)), (3, .int (oI v3)), (4, .int (oI v4))]) rfl (fun ls hl => ?_)
  exact b_X9_tell_b13 C hend FUEL v4 0 S (lv_sub hl [1, 5, 0] rfl) hf
set_option maxRecDepth 100000 in
set_option maxHeartbeats 4000000 in
theorem ct_X9_write (l : Launch) (G : Gd) (τ : Sg) {v1 : Int} {v2 : Int} {v3 : Int} {v4 : Int} {σ : Sg} {q : Int × Sg} (hf : f_X9_write v1 v2 v3 v4 σ = some q) : Ctr l yX9_write cX9_write 6 (some .int) (rmk 5 135) G true τ [.ref (G.1 0), .int (oI v1), .int (oI v2), .int (oI v3), .int (oI v4)] σ q.2 (some (.int (oI q.1))) := by
  unfold f_X9_write at hf
  refine CtrI.of (own := RX9) (plainFor_of_name (by decide)) (Nat.le_of_ble_eq_true rfl) rfl (fun p e s m below meth c Q ls C hl S hend => ?_)
  have hl : lv_has ls 6 [(0, .ref (G.1 0)), (1, .int (oI v1)), (2, .int (oI v2)), (3, .int (oI v3)), (4, .int (oI v4))] := hl
  refine lv_iload_n C.1 C.2.1 dX9_write_0 rfl (lv_at hl 1 rfl) ?_
  refine lv_iload_n C.1 C.2.1 dX9_write_1 rfl (lv_at hl 2 rfl) ?_
  obtain ⟨q1, hc2, hf⟩ := bd_o hf
  refine r_callSv C S (As := [.int (oI v1), .int (oI v2)]) (rest := []) (ct_X9_isPlace l G τ hc2) mi_X9_isPlace tw_549 ms_X9_isPlace ⟨rfl, rfl⟩ ⟨Nat.le_of_ble_eq_true rfl, Nat.le_of_ble_eq_true rfl⟩ ⟨Nat.zero_le _, Nat.zero_le _⟩ rfl hl.1 rfl (Nat.le_of_ble_eq_true rfl) dX9_write_2 (fun H locs S => ?_)
  refine r_if_eq C rfl (tgt := 23) dX9_write_5 (by decide) (fun h18 => ?_) (fun h18 => ?_)
  · replace hf := if_t hf h18
    refine r_iconst C dX9_write_23 ?_
    cases hf
    exact hend _ _ _ _ S dX9_write_24
  · replace hf := if_f hf h18
    refine lv_iload_n C.1 C.2.1 dX9_write_8 rfl (lv_at hl 3 rfl) ?_
    obtain ⟨q3, hc4, hf⟩ := bd_o hf
    refine r_callSv C S (As := [.int (oI v3)]) (rest := []) (ct_X9_isSum l G τ hc4) mi_X9_isSum tw_552 ms_X9_isSum ⟨rfl, rfl⟩ ⟨Nat.le_of_ble_eq_true rfl, Nat.le_of_ble_eq_true rfl⟩ ⟨Nat.zero_le _, Nat.zero_le _⟩ rfl hl.1 rfl (Nat.le_of_ble_eq_true rfl) dX9_write_9 (fun H locs S => ?_)
    refine r_if_eq C rfl (tgt := 23) dX9_write_12 (by decide) (fun h17 => ?_) (fun h17 => ?_)
    · replace hf := if_t hf h17
      refine r_iconst C dX9_write_23 ?_
      cases hf
      exact hend _ _ _ _ S dX9_write_24
    · replace hf := if_f hf h17
      refine lv_iload C.1 C.2.1 dX9_write_15 (lv_at hl 4 rfl) ?_
      obtain ⟨q5, hc6, hf⟩ := bd_o hf
      refine r_callSv C S (As := [.int (oI v4)]) (rest := []) (ct_X9_isPeril l G τ hc6) mi_X9_isPeril tw_556 ms_X9_isPeril ⟨rfl, rfl⟩ ⟨Nat.le_of_ble_eq_true rfl, Nat.le_of_ble_eq_true rfl⟩ ⟨Nat.zero_le _, Nat.zero_le _⟩ rfl hl.1 rfl (Nat.le_of_ble_eq_true rfl) dX9_write_17 (fun H locs S => ?_)
      refine r_if_ne C rfl (tgt := 25) dX9_write_20 (by decide) (fun h16 => ?_) (fun h16 => ?_)
      · replace hf := if_t hf h16
        refine r_iconst C dX9_write_23 ?_
        cases hf
        exact hend _ _ _ _ S dX9_write_24
      · replace hf := if_f hf h16
        refine lv_aload_n C.1 C.2.1 dX9_write_25 rfl (lv_at hl 0 rfl) ?_
        refine g9_book C S tw_282 dX9_write_26 ?_
        obtain ⟨q7, hc8, hf⟩ := bd_o hf
        refine r_callVv C S (As := []) (rest := []) (ct_X0_leastFree l G τ hc8) mi_X0_leastFree tw_559 mv_X0_leastFree (rvX0 S) ⟨rfl, rfl⟩ ⟨Nat.le_of_ble_eq_true rfl, Nat.le_of_ble_eq_true rfl⟩ ⟨Nat.zero_le _, Nat.zero_le _⟩ rfl hl.1 rfl (Nat.le_of_ble_eq_true rfl) dX9_write_29 (fun H locs S => ?_)
        refine lv_istore C.1 C.2.1 dX9_write_32 hl (by decide) (lv' := [(5, .int (oI q7)), (0, .ref (G.1 0)), (1, .int (oI v1)), (2, .int (oI v2)), (3, .int (oI v3)), (4, .int (oI v4))]) rfl (fun ls hl => ?_)
        refine lv_iload C.1 C.2.1 dX9_write_34 (lv_at hl 0 rfl) ?_
        refine r_if_ge C rfl (tgt := 42) dX9_write_36 (by decide) (fun h15 => ?_) (fun h15 => ?_)
        · replace hf := if_t hf h15
          refine r_bipush C dX9_write_39 (by decide) ?_
          cases hf
          exact hend _ _ _ _ S dX9_write_41
        · replace hf := if_f hf h15
          refine lv_aload_n C.1 C.2.1 dX9_write_42 rfl (lv_at hl 1 rfl) ?_
          refine g9_book C S tw_282 dX9_write_43 ?_
          refine lv_iload C.1 C.2.1 dX9_write_46 (lv_at hl 0 rfl) ?_
          refine lv_iload_n C.1 C.2.1 dX9_write_48 rfl (lv_at hl 2 rfl) ?_
          refine lv_iload_n C.1 C.2.1 dX9_write_49 rfl (lv_at hl 3 rfl) ?_
          refine lv_iload_n C.1 C.2.1 dX9_write_50 rfl (lv_at hl 4 rfl) ?_
          refine lv_iload C.1 C.2.1 dX9_write_51 (lv_at hl 5 rfl) ?_
          obtain ⟨q9, hc10, hf⟩ := bd_o hf
          refine r_callVn C S (As := [.int (oI q7), .int (oI v1), .int (oI v2), .int (oI v3), .int (oI v4)]) (rest := []) (ct_X0_enter l G τ hc10) mi_X0_enter tw_446 mv_X0_enter (rvX0 S) ⟨rfl, rfl⟩ ⟨Nat.le_of_ble_eq_true rfl, Nat.le_of_ble_eq_true rfl⟩ ⟨Nat.zero_le _, Nat.zero_le _⟩ rfl hl.1 rfl (Nat.le_of_ble_eq_true rfl) dX9_write_53 (fun H locs S => ?_)
          refine lv_aload_n C.1 C.2.1 dX9_write_56 rfl (lv_at hl 1 rfl) ?_
          refine lv_iload C.1 C.2.1 dX9_write_57 (lv_at hl 0 rfl) ?_
          refine lv_iload C.1 C.2.1 dX9_write_59 (lv_at hl 5 rfl) ?_
          obtain ⟨q11, hc12, hf⟩ := bd_o hf
          refine r_callVn C S (As := [.int (oI q7), .int (oI v4)]) (rest := []) (ct_X9_joinTreaties l G τ hc12) mi_X9_joinTreaties tw_563 mv_X9_joinTreaties (rvX9 S) ⟨rfl, rfl⟩ ⟨Nat.le_of_ble_eq_true rfl, Nat.le_of_ble_eq_true rfl⟩ ⟨Nat.zero_le _, Nat.zero_le _⟩ rfl hl.1 rfl (Nat.le_of_ble_eq_true rfl) dX9_write_61 (fun H locs S => ?_)
          refine lv_aload_n C.1 C.2.1 dX9_write_64 rfl (lv_at hl 1 rfl) ?_
          refine r_iconst C dX9_write_65 ?_
          refine lv_iload C.1 C.2.1 dX9_write_66 (lv_at hl 0 rfl) ?_
          refine lv_iload_n C.1 C.2.1 dX9_write_68 rfl (lv_at hl 4 rfl) ?_
          refine lv_iload C.1 C.2.1 dX9_write_69 (lv_at hl 5 rfl) ?_
          obtain ⟨q13, hc14, hf⟩ := bd_o hf
          refine r_callVn C S (As := [.int (oI 0), .int (oI q7), .int (oI v3), .int (oI v4)]) (rest := []) (ct_X9_tell l G τ hc14) mi_X9_tell tw_573 mv_X9_tell (rvX9 S) ⟨rfl, rfl⟩ ⟨Nat.le_of_ble_eq_true rfl, Nat.le_of_ble_eq_true rfl⟩ ⟨Nat.zero_le _, Nat.zero_le _⟩ rfl hl.1 rfl (Nat.le_of_ble_eq_true rfl) dX9_write_71 (fun H locs S => ?_)
          refine lv_iload C.1 C.2.1 dX9_write_74 (lv_at hl 0 rfl) ?_
          cases hf
          exact hend _ _ _ _ S dX9_write_76
set_option maxRecDepth 100000 in
set_option maxHeartbeats 4000000 in
theorem ct_X0_has (l : Launch) (G : Gd) (τ : Sg) {v1 : Int} {σ : Sg} {q : Int} (hf : f_X0_has v1 σ = some q) : Ctr l yX0_has cX0_has 2 (some .boolean) (rmk 1 21) G true τ [.ref (G.1 6), .int (oI v1)] σ σ (some (.int (oI q))) := by
  unfold f_X0_has at hf
  refine CtrZ.of (own := RX0) (plainFor_of_name (by decide)) (Nat.le_of_ble_eq_true rfl) rfl (fun p e s m below meth c Q ls C hl S hend => ?_)
  have hl : lv_has ls 2 [(0, .ref (G.1 6)), (1, .int (oI v1))] := hl
  refine lv_iload_n C.1 C.2.1 dX0_has_0 rfl (lv_at hl 1 rfl) ?_
  obtain ⟨q1, hc2, hf⟩ := bd_o hf
  refine r_callSNv C S (As := [.int (oI v1)]) (rest := []) (ct_X9_isNumber l G τ hc2) mi_X9_isNumber (nw_450 S.2.2.2) ms_X9_isNumber ⟨rfl, rfl⟩ ⟨Nat.le_of_ble_eq_true rfl, Nat.le_of_ble_eq_true rfl⟩ ⟨Nat.zero_le _, Nat.zero_le _⟩ rfl hl.1 rfl (Nat.le_of_ble_eq_true rfl) dX0_has_1 (fun H locs S => ?_)
  refine r_if_eq C rfl (tgt := 22) dX0_has_4 (by decide) (fun h6 => ?_) (fun h6 => ?_)
  · replace hf := if_t hf h6
    refine r_iconst C dX0_has_22 ?_
    cases hf
    exact hend (Or.inl rfl) _ _ _ _ S dX0_has_23
  · replace hf := if_f hf h6
    refine lv_aload_n C.1 C.2.1 dX0_has_7 rfl (lv_at hl 0 rfl) ?_
    refine g0_inForce C S tw_98 dX0_has_8 ?_
    refine lv_iload_n C.1 C.2.1 dX0_has_11 rfl (lv_at hl 1 rfl) ?_
    obtain ⟨q3, hc4, hf⟩ := bd_o hf
    refine r_callSNv C S (As := [.int (oI (σ 6 5)), .int (oI v1)]) (rest := []) (ct_X9_contains l G τ hc4) mi_X9_contains (nw_461 S.2.2.2) ms_X9_contains ⟨rfl, rfl⟩ ⟨Nat.le_of_ble_eq_true rfl, Nat.le_of_ble_eq_true rfl⟩ ⟨Nat.zero_le _, Nat.zero_le _⟩ rfl hl.1 rfl (Nat.le_of_ble_eq_true rfl) dX0_has_12 (fun H locs S => ?_)
    refine r_if_eq C rfl (tgt := 22) dX0_has_15 (by decide) (fun h5 => ?_) (fun h5 => ?_)
    · replace hf := if_t hf h5
      refine r_iconst C dX0_has_22 ?_
      cases hf
      exact hend (Or.inl rfl) _ _ _ _ S dX0_has_23
    · replace hf := if_f hf h5
      refine r_iconst C dX0_has_18 ?_
      refine lv_goto C.1 C.2.1 (tgt := 23) dX0_has_19 (by decide) ?_
      cases hf
      exact hend (Or.inr rfl) _ _ _ _ S dX0_has_23
set_option maxRecDepth 100000 in
set_option maxHeartbeats 4000000 in
theorem ct_X0_perilOf (l : Launch) (G : Gd) (τ : Sg) {v1 : Int} {σ : Sg} {q : Int} (hf : f_X0_perilOf v1 σ = some q) : Ctr l yX0_perilOf cX0_perilOf 2 (some .int) (rmk 1 20) G true τ [.ref (G.1 6), .int (oI v1)] σ σ (some (.int (oI q))) := by
  unfold f_X0_perilOf at hf
  refine CtrI.of (own := RX0) (plainFor_of_name (by decide)) (Nat.le_of_ble_eq_true rfl) rfl (fun p e s m below meth c Q ls C hl S hend => ?_)
  have hl : lv_has ls 2 [(0, .ref (G.1 6)), (1, .int (oI v1))] := hl
  refine lv_iload_n C.1 C.2.1 dX0_perilOf_0 rfl (lv_at hl 1 rfl) ?_
  obtain ⟨q1, hc2, hf⟩ := bd_o hf
  refine r_callSNv C S (As := [.int (oI v1)]) (rest := []) (ct_X9_isNumber l G τ hc2) mi_X9_isNumber (nw_450 S.2.2.2) ms_X9_isNumber ⟨rfl, rfl⟩ ⟨Nat.le_of_ble_eq_true rfl, Nat.le_of_ble_eq_true rfl⟩ ⟨Nat.zero_le _, Nat.zero_le _⟩ rfl hl.1 rfl (Nat.le_of_ble_eq_true rfl) dX0_perilOf_1 (fun H locs S => ?_)
  refine r_if_eq C rfl (tgt := 16) dX0_perilOf_4 (by decide) (fun h4 => ?_) (fun h4 => ?_)
  · replace hf := if_t hf h4
    refine r_iconst C dX0_perilOf_16 ?_
    cases hf
    exact hend _ _ _ _ S dX0_perilOf_17
  · replace hf := if_f hf h4
    refine lv_aload_n C.1 C.2.1 dX0_perilOf_7 rfl (lv_at hl 0 rfl) ?_
    refine g0_peril C S tw_96 dX0_perilOf_8 ?_
    refine lv_iload_n C.1 C.2.1 dX0_perilOf_11 rfl (lv_at hl 1 rfl) ?_
    obtain ⟨hi3, hf⟩ := ck_o hf
    refine a_iald C S ar_10 hi3 dX0_perilOf_12 ?_
    refine lv_goto C.1 C.2.1 (tgt := 17) dX0_perilOf_13 (by decide) ?_
    cases hf
    exact hend _ _ _ _ S dX0_perilOf_17
set_option maxRecDepth 100000 in
set_option maxHeartbeats 4000000 in
theorem ct_X0_xOf (l : Launch) (G : Gd) (τ : Sg) {v1 : Int} {σ : Sg} {q : Int} (hf : f_X0_xOf v1 σ = some q) : Ctr l yX0_xOf cX0_xOf 2 (some .int) (rmk 1 20) G true τ [.ref (G.1 6), .int (oI v1)] σ σ (some (.int (oI q))) := by
  unfold f_X0_xOf at hf
  refine CtrI.of (own := RX0) (plainFor_of_name (by decide)) (Nat.le_of_ble_eq_true rfl) rfl (fun p e s m below meth c Q ls C hl S hend => ?_)
  have hl : lv_has ls 2 [(0, .ref (G.1 6)), (1, .int (oI v1))] := hl
  refine lv_iload_n C.1 C.2.1 dX0_xOf_0 rfl (lv_at hl 1 rfl) ?_
  obtain ⟨q1, hc2, hf⟩ := bd_o hf
  refine r_callSNv C S (As := [.int (oI v1)]) (rest := []) (ct_X9_isNumber l G τ hc2) mi_X9_isNumber (nw_450 S.2.2.2) ms_X9_isNumber ⟨rfl, rfl⟩ ⟨Nat.le_of_ble_eq_true rfl, Nat.le_of_ble_eq_true rfl⟩ ⟨Nat.zero_le _, Nat.zero_le _⟩ rfl hl.1 rfl (Nat.le_of_ble_eq_true rfl) dX0_xOf_1 (fun H locs S => ?_)
  refine r_if_eq C rfl (tgt := 16) dX0_xOf_4 (by decide) (fun h4 => ?_) (fun h4 => ?_)
  · replace hf := if_t hf h4
    refine r_iconst C dX0_xOf_16 ?_
    cases hf
    exact hend _ _ _ _ S dX0_xOf_17
  · replace hf := if_f hf h4
    refine lv_aload_n C.1 C.2.1 dX0_xOf_7 rfl (lv_at hl 0 rfl) ?_
    refine g0_x C S tw_91 dX0_xOf_8 ?_
    refine lv_iload_n C.1 C.2.1 dX0_xOf_11 rfl (lv_at hl 1 rfl) ?_
    obtain ⟨hi3, hf⟩ := ck_o hf
    refine a_iald C S ar_7 hi3 dX0_xOf_12 ?_
    refine lv_goto C.1 C.2.1 (tgt := 17) dX0_xOf_13 (by decide) ?_
    cases hf
    exact hend _ _ _ _ S dX0_xOf_17
set_option maxRecDepth 100000 in
set_option maxHeartbeats 4000000 in
theorem ct_X0_yOf (l : Launch) (G : Gd) (τ : Sg) {v1 : Int} {σ : Sg} {q : Int} (hf : f_X0_yOf v1 σ = some q) : Ctr l yX0_yOf cX0_yOf 2 (some .int) (rmk 1 20) G true τ [.ref (G.1 6), .int (oI v1)] σ σ (some (.int (oI q))) := by
  unfold f_X0_yOf at hf
  refine CtrI.of (own := RX0) (plainFor_of_name (by decide)) (Nat.le_of_ble_eq_true rfl) rfl (fun p e s m below meth c Q ls C hl S hend => ?_)
  have hl : lv_has ls 2 [(0, .ref (G.1 6)), (1, .int (oI v1))] := hl
  refine lv_iload_n C.1 C.2.1 dX0_yOf_0 rfl (lv_at hl 1 rfl) ?_
  obtain ⟨q1, hc2, hf⟩ := bd_o hf
  refine r_callSNv C S (As := [.int (oI v1)]) (rest := []) (ct_X9_isNumber l G τ hc2) mi_X9_isNumber (nw_450 S.2.2.2) ms_X9_isNumber ⟨rfl, rfl⟩ ⟨Nat.le_of_ble_eq_true rfl, Nat.le_of_ble_eq_true rfl⟩ ⟨Nat.zero_le _, Nat.zero_le _⟩ rfl hl.1 rfl (Nat.le_of_ble_eq_true rfl) dX0_yOf_1 (fun H locs S => ?_)
  refine r_if_eq C rfl (tgt := 16) dX0_yOf_4 (by decide) (fun h4 => ?_) (fun h4 => ?_)
  · replace hf := if_t hf h4
    refine r_iconst C dX0_yOf_16 ?_
    cases hf
    exact hend _ _ _ _ S dX0_yOf_17
  · replace hf := if_f hf h4
    refine lv_aload_n C.1 C.2.1 dX0_yOf_7 rfl (lv_at hl 0 rfl) ?_
    refine g0_y C S tw_93 dX0_yOf_8 ?_
    refine lv_iload_n C.1 C.2.1 dX0_yOf_11 rfl (lv_at hl 1 rfl) ?_
    obtain ⟨hi3, hf⟩ := ck_o hf
    refine a_iald C S ar_8 hi3 dX0_yOf_12 ?_
    refine lv_goto C.1 C.2.1 (tgt := 17) dX0_yOf_13 (by decide) ?_
    cases hf
    exact hend _ _ _ _ S dX0_yOf_17
set_option maxRecDepth 100000 in
set_option maxHeartbeats 4000000 in
theorem ct_X0_apart (l : Launch) (G : Gd) (τ : Sg) {v1 : Int} {v2 : Int} {v3 : Int} {σ : Sg} {q : Int} (hf : f_X0_apart v1 v2 v3 σ = some q) : Ctr l yX0_apart cX0_apart 6 (some .int) (rmk 2 41) G true τ [.ref (G.1 6), .int (oI v1), .int (oI v2), .int (oI v3)] σ σ (some (.int (oI q))) := by
  unfold f_X0_apart at hf
  refine CtrI.of (own := RX0) (plainFor_of_name (by decide)) (Nat.le_of_ble_eq_true rfl) rfl (fun p e s m below meth c Q ls C hl S hend => ?_)
  have hl : lv_has ls 6 [(0, .ref (G.1 6)), (1, .int (oI v1)), (2, .int (oI v2)), (3, .int (oI v3))] := hl
  refine lv_aload_n C.1 C.2.1 dX0_apart_0 rfl (lv_at hl 0 rfl) ?_
  refine lv_iload_n C.1 C.2.1 dX0_apart_1 rfl (lv_at hl 1 rfl) ?_
  obtain ⟨q1, hc2, hf⟩ := bd_o hf
  refine r_callVv C S (As := [.int (oI v1)]) (rest := []) (ct_X0_xOf l G τ hc2) mi_X0_xOf tw_593 mv_X0_xOf (rvX0 S) ⟨rfl, rfl⟩ ⟨Nat.le_of_ble_eq_true rfl, Nat.le_of_ble_eq_true rfl⟩ ⟨Nat.zero_le _, Nat.zero_le _⟩ rfl hl.1 rfl (Nat.le_of_ble_eq_true rfl) dX0_apart_2 (fun H locs S => ?_)
  refine lv_iload_n C.1 C.2.1 dX0_apart_5 rfl (lv_at hl 2 rfl) ?_
  refine r_isub C dX0_apart_6 ?_
  refine lv_istore C.1 C.2.1 dX0_apart_7 hl (by decide) (lv' := [(4, .int (oI (q1 - v2))), (0, .ref (G.1 6)), (1, .int (oI v1)), (2, .int (oI v2)), (3, .int (oI v3))]) rfl (fun ls hl => ?_)
  refine lv_aload_n C.1 C.2.1 dX0_apart_9 rfl (lv_at hl 1 rfl) ?_
  refine lv_iload_n C.1 C.2.1 dX0_apart_10 rfl (lv_at hl 2 rfl) ?_
  obtain ⟨q3, hc4, hf⟩ := bd_o hf
  refine r_callVv C S (As := [.int (oI v1)]) (rest := []) (ct_X0_yOf l G τ hc4) mi_X0_yOf tw_597 mv_X0_yOf (rvX0 S) ⟨rfl, rfl⟩ ⟨Nat.le_of_ble_eq_true rfl, Nat.le_of_ble_eq_true rfl⟩ ⟨Nat.zero_le _, Nat.zero_le _⟩ rfl hl.1 rfl (Nat.le_of_ble_eq_true rfl) dX0_apart_11 (fun H locs S => ?_)
  refine lv_iload_n C.1 C.2.1 dX0_apart_14 rfl (lv_at hl 4 rfl) ?_
  refine r_isub C dX0_apart_15 ?_
  refine lv_istore C.1 C.2.1 dX0_apart_16 hl (by decide) (lv' := [(5, .int (oI (q3 - v3))), (4, .int (oI (q1 - v2))), (0, .ref (G.1 6)), (1, .int (oI v1)), (2, .int (oI v2)), (3, .int (oI v3))]) rfl (fun ls hl => ?_)
  refine lv_iload C.1 C.2.1 dX0_apart_18 (lv_at hl 1 rfl) ?_
  refine lv_iload C.1 C.2.1 dX0_apart_20 (lv_at hl 1 rfl) ?_
  refine r_imul C dX0_apart_22 ?_
  refine lv_iload C.1 C.2.1 dX0_apart_23 (lv_at hl 0 rfl) ?_
  refine lv_iload C.1 C.2.1 dX0_apart_25 (lv_at hl 0 rfl) ?_
  refine r_imul C dX0_apart_27 ?_
  refine r_iadd C dX0_apart_28 ?_
  cases hf
  exact hend _ _ _ _ S dX0_apart_29
set_option maxRecDepth 100000 in
set_option maxHeartbeats 4000000 in
theorem b_X2_remove_b52 (C : Cx p s m args c RX2 cX2_remove 3) {d : Nat} (hd : d < 7) {q : Sg} (hend : EndR p l e (rmk 1 20) s m args below meth c Q G true τ cX2_remove .return_ [] q) : ∀ (n : Nat) {H : Heap} {locs : List Loc} {ls : Array Slot} {σ : Sg} (v1 : Int) (v2 : Int) (S : St G true τ σ s H locs) (hl : lv_has ls 3 [(0, .ref (G.1 (27 + d))), (1, .int (oI v1)), (2, .int (oI v2))]) (hf : f_X2_remove_b52 d n v1 v2 σ = some q), W p l e (rmk 1 20) s m args below meth c H locs 0 0 Q (F0 m 52 ls []) := by
  intro n
  induction n with
  | zero => intro H locs ls σ v1 v2 S hl hf; cases hf
  | succ n ih =>
    intro H locs ls σ v1 v2 S hl hf
    have hk52 := @ih
    rw [f_X2_remove_b52] at hf
    refine lv_iload_n C.1 C.2.1 dX2_remove_52 rfl (lv_at hl 2 rfl) ?_
    refine r_bipush C dX2_remove_53 (by decide) ?_
    refine r_icmp_ge C rfl (show w32 24 = 24 by decide) (tgt := 88) dX2_remove_55 (by decide) (fun h11 => ?_) (fun h11 => ?_)
    · replace hf := if_t hf h11
      refine lv_aload_n C.1 C.2.1 dX2_remove_58 rfl (lv_at hl 0 rfl) ?_
      refine g2_sets C (d := d) S (by omega) tw_127 dX2_remove_59 ?_
      refine lv_iload_n C.1 C.2.1 dX2_remove_62 rfl (lv_at hl 1 rfl) ?_
      refine r_bipush C dX2_remove_63 (by decide) ?_
      refine r_imul C dX2_remove_65 ?_
      refine lv_iload_n C.1 C.2.1 dX2_remove_66 rfl (lv_at hl 2 rfl) ?_
      refine r_iadd C dX2_remove_67 ?_
      refine r_iconst C dX2_remove_68 ?_
      obtain ⟨hi7, hf⟩ := ck_o hf
      refine a_iast C S (ar_34 (d := d) (by omega)) hi7 dX2_remove_69 (fun H locs S => ?_)
      obtain ⟨σ8, S, hf⟩ := wr_s S hf
      refine lv_aload_n C.1 C.2.1 dX2_remove_70 rfl (lv_at hl 0 rfl) ?_
      refine g2_sets C (d := d) S (by omega) tw_127 dX2_remove_71 ?_
      refine lv_iload_n C.1 C.2.1 dX2_remove_74 rfl (lv_at hl 2 rfl) ?_
      refine r_bipush C dX2_remove_75 (by decide) ?_
      refine r_imul C dX2_remove_77 ?_
      refine lv_iload_n C.1 C.2.1 dX2_remove_78 rfl (lv_at hl 1 rfl) ?_
      refine r_iadd C dX2_remove_79 ?_
      refine r_iconst C dX2_remove_80 ?_
      obtain ⟨hi9, hf⟩ := ck_o hf
      refine a_iast C S (ar_34 (d := d) (by omega)) hi9 dX2_remove_81 (fun H locs S => ?_)
      obtain ⟨σ10, S, hf⟩ := wr_s S hf
      refine r_iinc C dX2_remove_82 hl (k := 2) rfl (by decide) (lv' := [(2, .int (oI (v2 + 1))), (0, .ref (G.1 (27 + d))), (1, .int (oI v1))]) rfl (fun ls hl => ?_)
      refine lv_goto C.1 C.2.1 (tgt := 52) dX2_remove_85 (by decide) ?_
      exact hk52 v1 (v2 + 1) S (lv_sub hl [1, 2, 0] rfl) hf
    · replace hf := if_f hf h11
      cases hf
      exact hend _ _ _ _ S dX2_remove_88
set_option maxRecDepth 100000 in
set_option maxHeartbeats 4000000 in
theorem b_X2_remove_b50 (C : Cx p s m args c RX2 cX2_remove 3) {d : Nat} (hd : d < 7) {q : Sg} (hend : EndR p l e (rmk 1 20) s m args below meth c Q G true τ cX2_remove .return_ [] q) {H : Heap} {locs : List Loc} {ls : Array Slot} {σ : Sg} (v1 : Int) (S : St G true τ σ s H locs) (hl : lv_has ls 3 [(0, .ref (G.1 (27 + d))), (1, .int (oI v1))]) (hf : f_X2_remove_b50 d v1 σ = some q) : W p l e (rmk 1 20) s m args below meth c H locs 0 0 Q (F0 m 50 ls []) := by
  unfold f_X2_remove_b50 at hf
  refine r_iconst C dX2_remove_50 ?_
  refine lv_istore_n C.1 C.2.1 dX2_remove_51 rfl hl (by decide) (lv' := [(2, .int (oI 0)), (0, .ref (G.1 (27 + d))), (1, .int (oI v1))]) rfl (fun ls hl => ?_)
  exact b_X2_remove_b52 C hd hend FUEL v1 0 S (lv_sub hl [1, 2, 0] rfl) hf
set_option maxRecDepth 100000 in
set_option maxHeartbeats 4000000 in
theorem b_X2_remove_b24 (C : Cx p s m args c RX2 cX2_remove 3) {d : Nat} (hd : d < 7) {q : Sg} (hend : EndR p l e (rmk 1 20) s m args below meth c Q G true τ cX2_remove .return_ [] q) : ∀ (n : Nat) {H : Heap} {locs : List Loc} {ls : Array Slot} {σ : Sg} (v1 : Int) (v2 : Int) (S : St G true τ σ s H locs) (hl : lv_has ls 3 [(0, .ref (G.1 (27 + d))), (1, .int (oI v1)), (2, .int (oI v2))]) (hf : f_X2_remove_b24 d n v1 v2 σ = some q), W p l e (rmk 1 20) s m args below meth c H locs 0 0 Q (F0 m 24 ls []) := by
  intro n
  induction n with
  | zero => intro H locs ls σ v1 v2 S hl hf; cases hf
  | succ n ih =>
    intro H locs ls σ v1 v2 S hl hf
    have hk24 := @ih
    rw [f_X2_remove_b24] at hf
    refine lv_iload_n C.1 C.2.1 dX2_remove_24 rfl (lv_at hl 2 rfl) ?_
    refine r_sipush C dX2_remove_25 (by decide) ?_
    refine r_icmp_ge C rfl (show w32 576 = 576 by decide) (tgt := 50) dX2_remove_28 (by decide) (fun h12 => ?_) (fun h12 => ?_)
    · replace hf := if_t hf h12
      refine lv_aload_n C.1 C.2.1 dX2_remove_31 rfl (lv_at hl 0 rfl) ?_
      refine g2_sets C (d := d) S (by omega) tw_127 dX2_remove_32 ?_
      refine lv_iload_n C.1 C.2.1 dX2_remove_35 rfl (lv_at hl 2 rfl) ?_
      refine lv_dup2_11 C.1 C.2.1 dX2_remove_36 rfl rfl ?_
      obtain ⟨hi4, hf⟩ := ck_o hf
      refine a_iald C S (ar_34 (d := d) (by omega)) hi4 dX2_remove_37 ?_
      refine lv_aload_n C.1 C.2.1 dX2_remove_38 rfl (lv_at hl 0 rfl) ?_
      refine g2_members C (d := d) S (by omega) tw_131 dX2_remove_39 ?_
      refine r_iand C rfl rfl dX2_remove_42 ?_
      obtain ⟨hi5, hf⟩ := ck_o hf
      refine a_iast C S (ar_34 (d := d) (by omega)) hi5 dX2_remove_43 (fun H locs S => ?_)
      obtain ⟨σ6, S, hf⟩ := wr_s S hf
      refine r_iinc C dX2_remove_44 hl (k := 2) rfl (by decide) (lv' := [(2, .int (oI (v2 + 1))), (0, .ref (G.1 (27 + d))), (1, .int (oI v1))]) rfl (fun ls hl => ?_)
      refine lv_goto C.1 C.2.1 (tgt := 24) dX2_remove_47 (by decide) ?_
      exact hk24 v1 (v2 + 1) S (lv_sub hl [1, 2, 0] rfl) hf
    · replace hf := if_f hf h12
      exact b_X2_remove_b50 C hd hend v1 S (lv_sub hl [0, 1] rfl) hf
set_option maxRecDepth 100000 in
set_option maxHeartbeats 4000000 in
theorem ct_X2_remove (l : Launch) (G : Gd) (τ : Sg) {d : Nat} {v1 : Int} {σ : Sg} {q : Sg} (hf : f_X2_remove d v1 σ = some q) : Ctr l yX2_remove cX2_remove 3 none (rmk 1 20) G true τ [.ref (G.1 (27 + d)), .int (oI v1)] σ q none := by
  unfold f_X2_remove at hf
  obtain ⟨hd, hf⟩ := ck_o hf
  refine CtrV.of (own := RX2) (plainFor_of_name (by decide)) (Nat.le_of_ble_eq_true rfl) rfl (fun p e s m below meth c Q ls C hl S hend => ?_)
  have hl : lv_has ls 3 [(0, .ref (G.1 (27 + d))), (1, .int (oI v1))] := hl
  refine lv_iload_n C.1 C.2.1 dX2_remove_0 rfl (lv_at hl 1 rfl) ?_
  obtain ⟨q1, hc2, hf⟩ := bd_o hf
  refine r_callSNv C S (As := [.int (oI v1)]) (rest := []) (ct_X9_isNumber l G τ hc2) mi_X9_isNumber (nw_490 S.2.2.2) ms_X9_isNumber ⟨rfl, rfl⟩ ⟨Nat.le_of_ble_eq_true rfl, Nat.le_of_ble_eq_true rfl⟩ ⟨Nat.zero_le _, Nat.zero_le _⟩ rfl hl.1 rfl (Nat.le_of_ble_eq_true rfl) dX2_remove_1 (fun H locs S => ?_)
  refine r_if_ne C rfl (tgt := 8) dX2_remove_4 (by decide) (fun h13 => ?_) (fun h13 => ?_)
  · replace hf := if_t hf h13
    cases hf
    exact hend _ _ _ _ S dX2_remove_7
  · replace hf := if_f hf h13
    refine lv_aload_n C.1 C.2.1 dX2_remove_8 rfl (lv_at hl 0 rfl) ?_
    refine lv_dup C.1 C.2.1 dX2_remove_9 rfl ?_
    refine g2_members C (d := d) S (by omega) tw_131 dX2_remove_10 ?_
    refine r_iconst C dX2_remove_13 ?_
    refine lv_iload_n C.1 C.2.1 dX2_remove_14 rfl (lv_at hl 1 rfl) ?_
    refine r_ishl C (y1 := (u32 v1 % 32)) rfl dX2_remove_15 ?_
    refine r_iconst C dX2_remove_16 ?_
    refine r_ixor C rfl (show u32 (-1) = 4294967295 by decide) dX2_remove_17 ?_
    refine r_iand C rfl (u32_nat (nb_xor (u32_lt _) (show 4294967295 < 4294967296 by decide))) dX2_remove_18 ?_
    refine p2_members C (d := d) S (by omega) tw_131 dX2_remove_19 (fun H locs S => ?_)
    obtain ⟨σ3, S, hf⟩ := wr_s S hf
    refine r_iconst C dX2_remove_22 ?_
    refine lv_istore_n C.1 C.2.1 dX2_remove_23 rfl hl (by decide) (lv' := [(2, .int (oI 0)), (0, .ref (G.1 (27 + d))), (1, .int (oI v1))]) rfl (fun ls hl => ?_)
    exact b_X2_remove_b24 C hd hend FUEL v1 0 S (lv_sub hl [1, 2, 0] rfl) hf
set_option maxRecDepth 100000 in
set_option maxHeartbeats 4000000 in
theorem b_X9_leaveTreaties_b40 (C : Cx p s m args c RX9 cX9_leaveTreaties 5) {q : Sg} {k2 : Int → Int → Int → Sg → Option (Sg)} (hend : EndR p l e (rmk 2 42) s m args below meth c Q G true τ cX9_leaveTreaties .return_ [] q) (hk2 : ∀ {H : Heap} {locs : List Loc} {ls : Array Slot} {σ : Sg} (v1 : Int) (v2 : Int) (v3 : Int), St G true τ σ s H locs → lv_has ls 5 [(0, .ref (G.1 0)), (1, .int (oI v1)), (2, .int (oI v2)), (3, .int (oI v3))] → k2 v1 v2 v3 σ = some q → W p l e (rmk 2 42) s m args below meth c H locs 0 0 Q (F0 m 2 ls [])) {H : Heap} {locs : List Loc} {ls : Array Slot} {σ : Sg} (v1 : Int) (v2 : Int) (v3 : Int) (S : St G true τ σ s H locs) (hl : lv_has ls 5 [(0, .ref (G.1 0)), (1, .int (oI v1)), (2, .int (oI v2)), (3, .int (oI v3))]) (hf : f_X9_leaveTreaties_b40 k2 v1 v2 v3 σ = some q) : W p l e (rmk 2 42) s m args below meth c H locs 0 0 Q (F0 m 40 ls []) := by
  unfold f_X9_leaveTreaties_b40 at hf
  refine r_iinc C dX9_leaveTreaties_40 hl (k := 3) rfl (by decide) (lv' := [(3, .int (oI (v3 + 1))), (0, .ref (G.1 0)), (1, .int (oI v1)), (2, .int (oI v2))]) rfl (fun ls hl => ?_)
  refine lv_goto C.1 C.2.1 (tgt := 2) dX9_leaveTreaties_43 (by decide) ?_
  exact hk2 v1 v2 (v3 + 1) S (lv_sub hl [1, 2, 3, 0] rfl) hf
set_option maxRecDepth 100000 in
set_option maxHeartbeats 4000000 in
theorem b_X9_leaveTreaties_b2 (C : Cx p s m args c RX9 cX9_leaveTreaties 5) {q : Sg} (hend : EndR p l e (rmk 2 42) s m args below meth c Q G true τ cX9_leaveTreaties .return_ [] q) : ∀ (n : Nat) {H : Heap} {locs : List Loc} {ls : Array Slot} {σ : Sg} (v1 : Int) (v2 : Int) (v3 : Int) (S : St G true τ σ s H locs) (hl : lv_has ls 5 [(0, .ref (G.1 0)), (1, .int (oI v1)), (2, .int (oI v2)), (3, .int (oI v3))]) (hf : f_X9_leaveTreaties_b2 n v1 v2 v3 σ = some q), W p l e (rmk 2 42) s m args below meth c H locs 0 0 Q (F0 m 2 ls []) := by
  intro n
  induction n with
  | zero => intro H locs ls σ v1 v2 v3 S hl hf; cases hf
  | succ n ih =>
    intro H locs ls σ v1 v2 v3 S hl hf
    have hk2 := @ih
    rw [f_X9_leaveTreaties_b2] at hf
    refine lv_iload_n C.1 C.2.1 dX9_leaveTreaties_2 rfl (lv_at hl 3 rfl) ?_
    refine lv_aload_n C.1 C.2.1 dX9_leaveTreaties_3 rfl (lv_at hl 0 rfl) ?_
    refine g9_treatyCount C S tw_284 dX9_leaveTreaties_4 ?_
    refine r_icmp_ge C rfl rfl (tgt := 46) dX9_leaveTreaties_7 (by decide) (fun h9 => ?_) (fun h9 => ?_)
    · replace hf := if_t hf h9
      refine lv_aload_n C.1 C.2.1 dX9_leaveTreaties_10 rfl (lv_at hl 0 rfl) ?_
      refine lv_iload_n C.1 C.2.1 dX9_leaveTreaties_11 rfl (lv_at hl 3 rfl) ?_
      obtain ⟨q1, hc2, hf⟩ := bd_o hf
      refine r_callVv C S (As := [.int (oI v3)]) (rest := []) (ct_X9_treatyAt l G τ hc2) mi_X9_treatyAt tw_528 mv_X9_treatyAt (rvX9 S) ⟨rfl, rfl⟩ ⟨Nat.le_of_ble_eq_true rfl, Nat.le_of_ble_eq_true rfl⟩ ⟨Nat.zero_le _, Nat.zero_le _⟩ rfl hl.1 rfl (Nat.le_of_ble_eq_true rfl) dX9_leaveTreaties_12 (fun H locs S => ?_)
      rcases q1 with _ | t3
      · replace hf := oT_n hf
        refine lv_astoreN C.1 C.2.1 dX9_leaveTreaties_15 hl (by decide) (lv' := [(4, .null), (0, .ref (G.1 0)), (1, .int (oI v1)), (2, .int (oI v2)), (3, .int (oI v3))]) rfl (fun ls hl => ?_)
        refine lv_aloadN C.1 C.2.1 dX9_leaveTreaties_17 (lv_at hl 0 rfl) ?_
        refine lv_ifnullN C.1 C.2.1 (tgt := 40) dX9_leaveTreaties_19 (by decide) ?_
        exact b_X9_leaveTreaties_b40 C hend hk2 v1 v2 v3 S (lv_sub hl [1, 2, 3, 4] rfl) hf
      · obtain ⟨ht3, hf⟩ := oT_s hf
        refine lv_astore C.1 C.2.1 dX9_leaveTreaties_15 hl (by decide) (lv' := [(4, .ref (G.1 (21 + t3))), (0, .ref (G.1 0)), (1, .int (oI v1)), (2, .int (oI v2)), (3, .int (oI v3))]) rfl (fun ls hl => ?_)
        refine lv_aload C.1 C.2.1 dX9_leaveTreaties_17 (lv_at hl 0 rfl) ?_
        refine lv_ifnull C.1 C.2.1 dX9_leaveTreaties_19 ?_
        refine lv_aload C.1 C.2.1 dX9_leaveTreaties_22 (lv_at hl 0 rfl) ?_
        refine lv_iload_n C.1 C.2.1 dX9_leaveTreaties_24 rfl (lv_at hl 3 rfl) ?_
        obtain ⟨q4, hc5, hf⟩ := bd_o hf
        refine r_callVv C S (As := [.int (oI v2)]) (rest := []) (ct_X8_takes l G τ hc5) mi_X8_takes tw_567 mv_X8_takes (rvX8 S (d := t3) (by omega)) ⟨rfl, rfl⟩ ⟨Nat.le_of_ble_eq_true rfl, Nat.le_of_ble_eq_true rfl⟩ ⟨Nat.zero_le _, Nat.zero_le _⟩ rfl hl.1 rfl (Nat.le_of_ble_eq_true rfl) dX9_leaveTreaties_25 (fun H locs S => ?_)
        refine r_if_eq C rfl (tgt := 40) dX9_leaveTreaties_28 (by decide) (fun h8 => ?_) (fun h8 => ?_)
        · replace hf := if_t hf h8
          exact b_X9_leaveTreaties_b40 C hend hk2 v1 v2 v3 S (lv_sub hl [1, 2, 3, 4] rfl) hf
        · replace hf := if_f hf h8
          refine lv_aload C.1 C.2.1 dX9_leaveTreaties_31 (lv_at hl 0 rfl) ?_
          refine g8_discs C (d := t3) S (by omega) tw_149 dX9_leaveTreaties_33 ?_
          refine lv_iload_n C.1 C.2.1 dX9_leaveTreaties_36 rfl (lv_at hl 2 rfl) ?_
          obtain ⟨q6, hc7, hf⟩ := bd_o hf
          refine r_callVn C S (As := [.int (oI v1)]) (rest := []) (ct_X2_remove l G τ hc7) mi_X2_remove tw_605 mv_X2_remove (rvX2 S (d := t3) (by omega)) ⟨rfl, rfl⟩ ⟨Nat.le_of_ble_eq_true rfl, Nat.le_of_ble_eq_true rfl⟩ ⟨Nat.zero_le _, Nat.zero_le _⟩ rfl hl.1 rfl (Nat.le_of_ble_eq_true rfl) dX9_leaveTreaties_37 (fun H locs S => ?_)
          exact b_X9_leaveTreaties_b40 C hend hk2 v1 v2 v3 S (lv_sub hl [1, 2, 3, 4] rfl) hf
    · replace hf := if_f hf h9
      cases hf
      exact hend _ _ _ _ S dX9_leaveTreaties_46
set_option maxRecDepth 100000 in
set_option maxHeartbeats 4000000 in
theorem ct_X9_leaveTreaties (l : Launch) (G : Gd) (τ : Sg) {v1 : Int} {v2 : Int} {σ : Sg} {q : Sg} (hf : f_X9_leaveTreaties v1 v2 σ = some q) : Ctr l yX9_leaveTreaties cX9_leaveTreaties 5 none (rmk 2 42) G true τ [.ref (G.1 0), .int (oI v1), .int (oI v2)] σ q none := by
  unfold f_X9_leaveTreaties at hf
  refine CtrV.of (own := RX9) (plainFor_of_name (by decide)) (Nat.le_of_ble_eq_true rfl) rfl (fun p e s m below meth c Q ls C hl S hend => ?_)
  have hl : lv_has ls 5 [(0, .ref (G.1 0)), (1, .int (oI v1)), (2, .int (oI v2))] := hl
  refine r_iconst C dX9_leaveTreaties_0 ?_
  refine lv_istore_n C.1 C.2.1 dX9_leaveTreaties_1 rfl hl (by decide) (lv' := [(3, .int (oI 0)), (0, .ref (G.1 0)), (1, .int (oI v1)), (2, .int (oI v2))]) rfl (fun ls hl => ?_)
  exact b_X9_leaveTreaties_b2 C hend FUEL v1 v2 0 S (lv_sub hl [1, 2, 3, 0] rfl) hf
set_option maxRecDepth 100000 in
set_option maxHeartbeats 4000000 in
theorem ct_X9_move (l : Launch) (G : Gd) (τ : Sg) {v1 : Int} {v2 : Int} {v3 : Int} {σ : Sg} {q : Int × Sg} (hf : f_X9_move v1 v2 v3 σ = some q) : Ctr l yX9_move cX9_move 6 (some .int) (rmk 5 135) G true τ [.ref (G.1 0), .int (oI v1), .int (oI v2), .int (oI v3)] σ q.2 (some (.int (oI q.1))) := by
  unfold f_X9_move at hf
  refine CtrI.of (own := RX9) (plainFor_of_name (by decide)) (Nat.le_of_ble_eq_true rfl) rfl (fun p e s m below meth c Q ls C hl S hend => ?_)
  have hl : lv_has ls 6 [(0, .ref (G.1 0)), (1, .int (oI v1)), (2, .int (oI v2)), (3, .int (oI v3))] := hl
  refine lv_aload_n C.1 C.2.1 dX9_move_0 rfl (lv_at hl 0 rfl) ?_
  refine g9_book C S tw_282 dX9_move_1 ?_
  refine lv_iload_n C.1 C.2.1 dX9_move_4 rfl (lv_at hl 1 rfl) ?_
  obtain ⟨q1, hc2, hf⟩ := bd_o hf
  refine r_callVv C S (As := [.int (oI v1)]) (rest := []) (ct_X0_has l G τ hc2) mi_X0_has tw_581 mv_X0_has (rvX0 S) ⟨rfl, rfl⟩ ⟨Nat.le_of_ble_eq_true rfl, Nat.le_of_ble_eq_true rfl⟩ ⟨Nat.zero_le _, Nat.zero_le _⟩ rfl hl.1 rfl (Nat.le_of_ble_eq_true rfl) dX9_move_5 (fun H locs S => ?_)
  refine r_if_eq C rfl (tgt := 19) dX9_move_8 (by decide) (fun h18 => ?_) (fun h18 => ?_)
  · replace hf := if_t hf h18
    refine r_iconst C dX9_move_19 ?_
    cases hf
    exact hend _ _ _ _ S dX9_move_20
  · replace hf := if_f hf h18
    refine lv_iload_n C.1 C.2.1 dX9_move_11 rfl (lv_at hl 2 rfl) ?_
    refine lv_iload_n C.1 C.2.1 dX9_move_12 rfl (lv_at hl 3 rfl) ?_
    obtain ⟨q3, hc4, hf⟩ := bd_o hf
    refine r_callSv C S (As := [.int (oI v2), .int (oI v3)]) (rest := []) (ct_X9_isPlace l G τ hc4) mi_X9_isPlace tw_549 ms_X9_isPlace ⟨rfl, rfl⟩ ⟨Nat.le_of_ble_eq_true rfl, Nat.le_of_ble_eq_true rfl⟩ ⟨Nat.zero_le _, Nat.zero_le _⟩ rfl hl.1 rfl (Nat.le_of_ble_eq_true rfl) dX9_move_13 (fun H locs S => ?_)
    refine r_if_ne C rfl (tgt := 21) dX9_move_16 (by decide) (fun h17 => ?_) (fun h17 => ?_)
    · replace hf := if_t hf h17
      refine r_iconst C dX9_move_19 ?_
      cases hf
      exact hend _ _ _ _ S dX9_move_20
    · replace hf := if_f hf h17
      refine lv_aload_n C.1 C.2.1 dX9_move_21 rfl (lv_at hl 0 rfl) ?_
      refine g9_book C S tw_282 dX9_move_22 ?_
      refine lv_iload_n C.1 C.2.1 dX9_move_25 rfl (lv_at hl 1 rfl) ?_
      obtain ⟨q5, hc6, hf⟩ := bd_o hf
      refine r_callVv C S (As := [.int (oI v1)]) (rest := []) (ct_X0_perilOf l G τ hc6) mi_X0_perilOf tw_585 mv_X0_perilOf (rvX0 S) ⟨rfl, rfl⟩ ⟨Nat.le_of_ble_eq_true rfl, Nat.le_of_ble_eq_true rfl⟩ ⟨Nat.zero_le _, Nat.zero_le _⟩ rfl hl.1 rfl (Nat.le_of_ble_eq_true rfl) dX9_move_26 (fun H locs S => ?_)
      refine lv_istore C.1 C.2.1 dX9_move_29 hl (by decide) (lv' := [(4, .int (oI q5)), (0, .ref (G.1 0)), (1, .int (oI v1)), (2, .int (oI v2)), (3, .int (oI v3))]) rfl (fun ls hl => ?_)
      refine lv_aload_n C.1 C.2.1 dX9_move_31 rfl (lv_at hl 1 rfl) ?_
      refine g9_book C S tw_282 dX9_move_32 ?_
      refine lv_iload_n C.1 C.2.1 dX9_move_35 rfl (lv_at hl 2 rfl) ?_
      refine lv_iload_n C.1 C.2.1 dX9_move_36 rfl (lv_at hl 3 rfl) ?_
      refine lv_iload_n C.1 C.2.1 dX9_move_37 rfl (lv_at hl 4 rfl) ?_
      obtain ⟨q7, hc8, hf⟩ := bd_o hf
      refine r_callVv C S (As := [.int (oI v1), .int (oI v2), .int (oI v3)]) (rest := []) (ct_X0_apart l G τ hc8) mi_X0_apart tw_589 mv_X0_apart (rvX0 S) ⟨rfl, rfl⟩ ⟨Nat.le_of_ble_eq_true rfl, Nat.le_of_ble_eq_true rfl⟩ ⟨Nat.zero_le _, Nat.zero_le _⟩ rfl hl.1 rfl (Nat.le_of_ble_eq_true rfl) dX9_move_38 (fun H locs S => ?_)
      refine lv_istore C.1 C.2.1 dX9_move_41 hl (by decide) (lv' := [(5, .int (oI q7)), (4, .int (oI q5)), (0, .ref (G.1 0)), (1, .int (oI v1)), (2, .int (oI v2)), (3, .int (oI v3))]) rfl (fun ls hl => ?_)
      refine lv_aload_n C.1 C.2.1 dX9_move_43 rfl (lv_at hl 2 rfl) ?_
      refine lv_iload_n C.1 C.2.1 dX9_move_44 rfl (lv_at hl 3 rfl) ?_
      refine lv_iload C.1 C.2.1 dX9_move_45 (lv_at hl 1 rfl) ?_
      obtain ⟨q9, hc10, hf⟩ := bd_o hf
      refine r_callVn C S (As := [.int (oI v1), .int (oI q5)]) (rest := []) (ct_X9_leaveTreaties l G τ hc10) mi_X9_leaveTreaties tw_601 mv_X9_leaveTreaties (rvX9 S) ⟨rfl, rfl⟩ ⟨Nat.le_of_ble_eq_true rfl, Nat.le_of_ble_eq_true rfl⟩ ⟨Nat.zero_le _, Nat.zero_le _⟩ rfl hl.1 rfl (Nat.le_of_ble_eq_true rfl) dX9_move_47 (fun H locs S => ?_)
      refine lv_aload_n C.1 C.2.1 dX9_move_50 rfl (lv_at hl 2 rfl) ?_
      refine g9_book C S tw_282 dX9_move_51 ?_
      refine lv_iload_n C.1 C.2.1 dX9_move_54 rfl (lv_at hl 3 rfl) ?_
      refine lv_iload_n C.1 C.2.1 dX9_move_55 rfl (lv_at hl 4 rfl) ?_
      refine lv_iload_n C.1 C.2.1 dX9_move_56 rfl (lv_at hl 5 rfl) ?_
      obtain ⟨q11, hc12, hf⟩ := bd_o hf
      refine r_callVn C S (As := [.int (oI v1), .int (oI v2), .int (oI v3)]) (rest := []) (ct_X0_shift l G τ hc12) mi_X0_shift tw_609 mv_X0_shift (rvX0 S) ⟨rfl, rfl⟩ ⟨Nat.le_of_ble_eq_true rfl, Nat.le_of_ble_eq_true rfl⟩ ⟨Nat.zero_le _, Nat.zero_le _⟩ rfl hl.1 rfl (Nat.le_of_ble_eq_true rfl) dX9_move_57 (fun H locs S => ?_)
      refine lv_aload_n C.1 C.2.1 dX9_move_60 rfl (lv_at hl 2 rfl) ?_
      refine lv_iload_n C.1 C.2.1 dX9_move_61 rfl (lv_at hl 3 rfl) ?_
      refine lv_iload C.1 C.2.1 dX9_move_62 (lv_at hl 1 rfl) ?_
      obtain ⟨q13, hc14, hf⟩ := bd_o hf
      refine r_callVn C S (As := [.int (oI v1), .int (oI q5)]) (rest := []) (ct_X9_joinTreaties l G τ hc14) mi_X9_joinTreaties tw_563 mv_X9_joinTreaties (rvX9 S) ⟨rfl, rfl⟩ ⟨Nat.le_of_ble_eq_true rfl, Nat.le_of_ble_eq_true rfl⟩ ⟨Nat.zero_le _, Nat.zero_le _⟩ rfl hl.1 rfl (Nat.le_of_ble_eq_true rfl) dX9_move_64 (fun H locs S => ?_)
      refine lv_aload_n C.1 C.2.1 dX9_move_67 rfl (lv_at hl 2 rfl) ?_
      refine r_iconst C dX9_move_68 ?_
      refine lv_iload_n C.1 C.2.1 dX9_move_69 rfl (lv_at hl 3 rfl) ?_
      refine r_iconst C dX9_move_70 ?_
      refine lv_iload C.1 C.2.1 dX9_move_71 (lv_at hl 1 rfl) ?_
      obtain ⟨q15, hc16, hf⟩ := bd_o hf
      refine r_callVn C S (As := [.int (oI 1), .int (oI v1), .int (oI 0), .int (oI q5)]) (rest := []) (ct_X9_tell l G τ hc16) mi_X9_tell tw_573 mv_X9_tell (rvX9 S) ⟨rfl, rfl⟩ ⟨Nat.le_of_ble_eq_true rfl, Nat.le_of_ble_eq_true rfl⟩ ⟨Nat.zero_le _, Nat.zero_le _⟩ rfl hl.1 rfl (Nat.le_of_ble_eq_true rfl) dX9_move_73 (fun H locs S => ?_)
      refine lv_iload C.1 C.2.1 dX9_move_76 (lv_at hl 0 rfl) ?_
      cases hf
      exact hend _ _ _ _ S dX9_move_78
set_option maxRecDepth 100000 in
set_option maxHeartbeats 4000000 in
theorem ct_X0_sumOf (l : Launch) (G : Gd) (τ : Sg) {v1 : Int} {σ : Sg} {q : Int} (hf : f_X0_sumOf v1 σ = some q) : Ctr l yX0_sumOf cX0_sumOf 2 (some .int) (rmk 1 20) G true τ [.ref (G.1 6), .int (oI v1)] σ σ (some (.int (oI q))) := by
  unfold f_X0_sumOf at hf
  refine CtrI.of (own := RX0) (plainFor_of_name (by decide)) (Nat.le_of_ble_eq_true rfl) rfl (fun p e s m below meth c Q ls C hl S hend => ?_)
  have hl : lv_has ls 2 [(0, .ref (G.1 6)), (1, .int (oI v1))] := hl
  refine lv_iload_n C.1 C.2.1 dX0_sumOf_0 rfl (lv_at hl 1 rfl) ?_
  obtain ⟨q1, hc2, hf⟩ := bd_o hf
  refine r_callSNv C S (As := [.int (oI v1)]) (rest := []) (ct_X9_isNumber l G τ hc2) mi_X9_isNumber (nw_450 S.2.2.2) ms_X9_isNumber ⟨rfl, rfl⟩ ⟨Nat.le_of_ble_eq_true rfl, Nat.le_of_ble_eq_true rfl⟩ ⟨Nat.zero_le _, Nat.zero_le _⟩ rfl hl.1 rfl (Nat.le_of_ble_eq_true rfl) dX0_sumOf_1 (fun H locs S => ?_)
  refine r_if_eq C rfl (tgt := 16) dX0_sumOf_4 (by decide) (fun h4 => ?_) (fun h4 => ?_)
  · replace hf := if_t hf h4
    refine r_iconst C dX0_sumOf_16 ?_
    cases hf
    exact hend _ _ _ _ S dX0_sumOf_17
  · replace hf := if_f hf h4
    refine lv_aload_n C.1 C.2.1 dX0_sumOf_7 rfl (lv_at hl 0 rfl) ?_
    refine g0_sum C S tw_95 dX0_sumOf_8 ?_
    refine lv_iload_n C.1 C.2.1 dX0_sumOf_11 rfl (lv_at hl 1 rfl) ?_
    obtain ⟨hi3, hf⟩ := ck_o hf
    refine a_iald C S ar_9 hi3 dX0_sumOf_12 ?_
    refine lv_goto C.1 C.2.1 (tgt := 17) dX0_sumOf_13 (by decide) ?_
    cases hf
    exact hend _ _ _ _ S dX0_sumOf_17
set_option maxRecDepth 100000 in
set_option maxHeartbeats 4000000 in
theorem ct_X9_change (l : Launch) (G : Gd) (τ : Sg) {v1 : Int} {v2 : Int} {σ : Sg} {q : Int × Sg} (hf : f_X9_change v1 v2 σ = some q) : Ctr l yX9_change cX9_change 4 (some .int) (rmk 4 96) G true τ [.ref (G.1 0), .int (oI v1), .int (oI v2)] σ q.2 (some (.int (oI q.1))) := by
  unfold f_X9_change at hf
  refine CtrI.of (own := RX9) (plainFor_of_name (by decide)) (Nat.le_of_ble_eq_true rfl) rfl (fun p e s m below meth c Q ls C hl S hend => ?_)
  have hl : lv_has ls 4 [(0, .ref (G.1 0)), (1, .int (oI v1)), (2, .int (oI v2))] := hl
  refine lv_aload_n C.1 C.2.1 dX9_change_0 rfl (lv_at hl 0 rfl) ?_
  refine g9_book C S tw_282 dX9_change_1 ?_
  refine lv_iload_n C.1 C.2.1 dX9_change_4 rfl (lv_at hl 1 rfl) ?_
  obtain ⟨q1, hc2, hf⟩ := bd_o hf
  refine r_callVv C S (As := [.int (oI v1)]) (rest := []) (ct_X0_has l G τ hc2) mi_X0_has tw_581 mv_X0_has (rvX0 S) ⟨rfl, rfl⟩ ⟨Nat.le_of_ble_eq_true rfl, Nat.le_of_ble_eq_true rfl⟩ ⟨Nat.zero_le _, Nat.zero_le _⟩ rfl hl.1 rfl (Nat.le_of_ble_eq_true rfl) dX9_change_5 (fun H locs S => ?_)
  refine r_if_eq C rfl (tgt := 18) dX9_change_8 (by decide) (fun h14 => ?_) (fun h14 => ?_)
  · replace hf := if_t hf h14
    refine r_iconst C dX9_change_18 ?_
    cases hf
    exact hend _ _ _ _ S dX9_change_19
  · replace hf := if_f hf h14
    refine lv_iload_n C.1 C.2.1 dX9_change_11 rfl (lv_at hl 2 rfl) ?_
    obtain ⟨q3, hc4, hf⟩ := bd_o hf
    refine r_callSv C S (As := [.int (oI v2)]) (rest := []) (ct_X9_isSum l G τ hc4) mi_X9_isSum tw_552 ms_X9_isSum ⟨rfl, rfl⟩ ⟨Nat.le_of_ble_eq_true rfl, Nat.le_of_ble_eq_true rfl⟩ ⟨Nat.zero_le _, Nat.zero_le _⟩ rfl hl.1 rfl (Nat.le_of_ble_eq_true rfl) dX9_change_12 (fun H locs S => ?_)
    refine r_if_ne C rfl (tgt := 20) dX9_change_15 (by decide) (fun h13 => ?_) (fun h13 => ?_)
    · replace hf := if_t hf h13
      refine r_iconst C dX9_change_18 ?_
      cases hf
      exact hend _ _ _ _ S dX9_change_19
    · replace hf := if_f hf h13
      refine lv_aload_n C.1 C.2.1 dX9_change_20 rfl (lv_at hl 0 rfl) ?_
      refine g9_book C S tw_282 dX9_change_21 ?_
      refine lv_iload_n C.1 C.2.1 dX9_change_24 rfl (lv_at hl 1 rfl) ?_
      obtain ⟨q5, hc6, hf⟩ := bd_o hf
      refine r_callVv C S (As := [.int (oI v1)]) (rest := []) (ct_X0_sumOf l G τ hc6) mi_X0_sumOf tw_614 mv_X0_sumOf (rvX0 S) ⟨rfl, rfl⟩ ⟨Nat.le_of_ble_eq_true rfl, Nat.le_of_ble_eq_true rfl⟩ ⟨Nat.zero_le _, Nat.zero_le _⟩ rfl hl.1 rfl (Nat.le_of_ble_eq_true rfl) dX9_change_25 (fun H locs S => ?_)
      refine lv_istore_n C.1 C.2.1 dX9_change_28 rfl hl (by decide) (lv' := [(3, .int (oI q5)), (0, .ref (G.1 0)), (1, .int (oI v1)), (2, .int (oI v2))]) rfl (fun ls hl => ?_)
      refine lv_aload_n C.1 C.2.1 dX9_change_29 rfl (lv_at hl 1 rfl) ?_
      refine g9_book C S tw_282 dX9_change_30 ?_
      refine lv_iload_n C.1 C.2.1 dX9_change_33 rfl (lv_at hl 2 rfl) ?_
      refine lv_iload_n C.1 C.2.1 dX9_change_34 rfl (lv_at hl 3 rfl) ?_
      obtain ⟨q7, hc8, hf⟩ := bd_o hf
      refine r_callVn C S (As := [.int (oI v1), .int (oI v2)]) (rest := []) (ct_X0_weigh l G τ hc8) mi_X0_weigh tw_618 mv_X0_weigh (rvX0 S) ⟨rfl, rfl⟩ ⟨Nat.le_of_ble_eq_true rfl, Nat.le_of_ble_eq_true rfl⟩ ⟨Nat.zero_le _, Nat.zero_le _⟩ rfl hl.1 rfl (Nat.le_of_ble_eq_true rfl) dX9_change_35 (fun H locs S => ?_)
      refine lv_aload_n C.1 C.2.1 dX9_change_38 rfl (lv_at hl 1 rfl) ?_
      refine r_iconst C dX9_change_39 ?_
      refine lv_iload_n C.1 C.2.1 dX9_change_40 rfl (lv_at hl 2 rfl) ?_
      refine lv_iload_n C.1 C.2.1 dX9_change_41 rfl (lv_at hl 3 rfl) ?_
      refine lv_iload_n C.1 C.2.1 dX9_change_42 rfl (lv_at hl 0 rfl) ?_
      refine r_isub C dX9_change_43 ?_
      refine lv_aload_n C.1 C.2.1 dX9_change_44 rfl (lv_at hl 1 rfl) ?_
      refine g9_book C S tw_282 dX9_change_45 ?_
      refine lv_iload_n C.1 C.2.1 dX9_change_48 rfl (lv_at hl 2 rfl) ?_
      obtain ⟨q9, hc10, hf⟩ := bd_o hf
      refine r_callVv C S (As := [.int (oI v1)]) (rest := [.int (oI (v2 - q5)), .int (oI v1), .int (oI 2), .ref (G.1 0)]) (ct_X0_perilOf l G τ hc10) mi_X0_perilOf tw_585 mv_X0_perilOf (rvX0 S) ⟨rfl, rfl⟩ ⟨Nat.le_of_ble_eq_true rfl, Nat.le_of_ble_eq_true rfl⟩ ⟨Nat.zero_le _, Nat.zero_le _⟩ rfl hl.1 rfl (Nat.le_of_ble_eq_true rfl) dX9_change_49 (fun H locs S => ?_)
      obtain ⟨q11, hc12, hf⟩ := bd_o hf
      refine r_callVn C S (As := [.int (oI 2), .int (oI v1), .int (oI (v2 - q5)), .int (oI q9)]) (rest := []) (ct_X9_tell l G τ hc12) mi_X9_tell tw_573 mv_X9_tell (rvX9 S) ⟨rfl, rfl⟩ ⟨Nat.le_of_ble_eq_true rfl, Nat.le_of_ble_eq_true rfl⟩ ⟨Nat.zero_le _, Nat.zero_le _⟩ rfl hl.1 rfl (Nat.le_of_ble_eq_true rfl) dX9_change_52 (fun H locs S => ?_)
      refine lv_iload_n C.1 C.2.1 dX9_change_55 rfl (lv_at hl 0 rfl) ?_
      cases hf
      exact hend _ _ _ _ S dX9_change_56
set_option maxRecDepth 100000 in
set_option maxHeartbeats 4000000 in
theorem ct_X0_drop (l : Launch) (G : Gd) (τ : Sg) {v1 : Int} {σ : Sg} {q : Sg} (hf : f_X0_drop v1 σ = some q) : Ctr l yX0_drop cX0_drop 2 none (rmk 2 46) G true τ [.ref (G.1 6), .int (oI v1)] σ q none := by
  unfold f_X0_drop at hf
  refine CtrV.of (own := RX0) (plainFor_of_name (by decide)) (Nat.le_of_ble_eq_true rfl) rfl (fun p e s m below meth c Q ls C hl S hend => ?_)
  have hl : lv_has ls 2 [(0, .ref (G.1 6)), (1, .int (oI v1))] := hl
  refine lv_iload_n C.1 C.2.1 dX0_drop_0 rfl (lv_at hl 1 rfl) ?_
  obtain ⟨q1, hc2, hf⟩ := bd_o hf
  refine r_callSNv C S (As := [.int (oI v1)]) (rest := []) (ct_X9_isNumber l G τ hc2) mi_X9_isNumber (nw_450 S.2.2.2) ms_X9_isNumber ⟨rfl, rfl⟩ ⟨Nat.le_of_ble_eq_true rfl, Nat.le_of_ble_eq_true rfl⟩ ⟨Nat.zero_le _, Nat.zero_le _⟩ rfl hl.1 rfl (Nat.le_of_ble_eq_true rfl) dX0_drop_1 (fun H locs S => ?_)
  refine r_if_eq C rfl (tgt := 27) dX0_drop_4 (by decide) (fun h6 => ?_) (fun h6 => ?_)
  · replace hf := if_t hf h6
    cases hf
    exact hend _ _ _ _ S dX0_drop_27
  · replace hf := if_f hf h6
    refine lv_aload_n C.1 C.2.1 dX0_drop_7 rfl (lv_at hl 0 rfl) ?_
    refine lv_iload_n C.1 C.2.1 dX0_drop_8 rfl (lv_at hl 1 rfl) ?_
    refine r_iconst C dX0_drop_9 ?_
    obtain ⟨q3, hc4, hf⟩ := bd_o hf
    refine r_callVn C S (As := [.int (oI v1), .int (oI 0)]) (rest := []) (ct_X0_weigh l G τ hc4) mi_X0_weigh tw_457 mv_X0_weigh (rvX0 S) ⟨rfl, rfl⟩ ⟨Nat.le_of_ble_eq_true rfl, Nat.le_of_ble_eq_true rfl⟩ ⟨Nat.zero_le _, Nat.zero_le _⟩ rfl hl.1 rfl (Nat.le_of_ble_eq_true rfl) dX0_drop_10 (fun H locs S => ?_)
    refine lv_aload_n C.1 C.2.1 dX0_drop_13 rfl (lv_at hl 0 rfl) ?_
    refine lv_dup C.1 C.2.1 dX0_drop_14 rfl ?_
    refine g0_inForce C S tw_98 dX0_drop_15 ?_
    refine r_iconst C dX0_drop_18 ?_
    refine lv_iload_n C.1 C.2.1 dX0_drop_19 rfl (lv_at hl 1 rfl) ?_
    refine r_ishl C (y1 := (u32 v1 % 32)) rfl dX0_drop_20 ?_
    refine r_iconst C dX0_drop_21 ?_
    refine r_ixor C rfl (show u32 (-1) = 4294967295 by decide) dX0_drop_22 ?_
    refine r_iand C rfl (u32_nat (nb_xor (u32_lt _) (show 4294967295 < 4294967296 by decide))) dX0_drop_23 ?_
    refine p0_inForce C S tw_98 dX0_drop_24 (fun H locs S => ?_)
    obtain ⟨σ5, S, hf⟩ := wr_s S hf
    cases hf
    exact hend _ _ _ _ S dX0_drop_27
set_option maxRecDepth 100000 in
set_option maxHeartbeats 4000000 in
theorem ct_X9_lapse (l : Launch) (G : Gd) (τ : Sg) {v1 : Int} {σ : Sg} {q : Int × Sg} (hf : f_X9_lapse v1 σ = some q) : Ctr l yX9_lapse cX9_lapse 4 (some .int) (rmk 4 96) G true τ [.ref (G.1 0), .int (oI v1)] σ q.2 (some (.int (oI q.1))) := by
  unfold f_X9_lapse at hf
  refine CtrI.of (own := RX9) (plainFor_of_name (by decide)) (Nat.le_of_ble_eq_true rfl) rfl (fun p e s m below meth c Q ls C hl S hend => ?_)
  have hl : lv_has ls 4 [(0, .ref (G.1 0)), (1, .int (oI v1))] := hl
  refine lv_aload_n C.1 C.2.1 dX9_lapse_0 rfl (lv_at hl 0 rfl) ?_
  refine g9_book C S tw_282 dX9_lapse_1 ?_
  refine lv_iload_n C.1 C.2.1 dX9_lapse_4 rfl (lv_at hl 1 rfl) ?_
  obtain ⟨q1, hc2, hf⟩ := bd_o hf
  refine r_callVv C S (As := [.int (oI v1)]) (rest := []) (ct_X0_has l G τ hc2) mi_X0_has tw_581 mv_X0_has (rvX0 S) ⟨rfl, rfl⟩ ⟨Nat.le_of_ble_eq_true rfl, Nat.le_of_ble_eq_true rfl⟩ ⟨Nat.zero_le _, Nat.zero_le _⟩ rfl hl.1 rfl (Nat.le_of_ble_eq_true rfl) dX9_lapse_5 (fun H locs S => ?_)
  refine r_if_ne C rfl (tgt := 13) dX9_lapse_8 (by decide) (fun h13 => ?_) (fun h13 => ?_)
  · replace hf := if_t hf h13
    refine r_iconst C dX9_lapse_11 ?_
    cases hf
    exact hend _ _ _ _ S dX9_lapse_12
  · replace hf := if_f hf h13
    refine lv_aload_n C.1 C.2.1 dX9_lapse_13 rfl (lv_at hl 0 rfl) ?_
    refine g9_book C S tw_282 dX9_lapse_14 ?_
    refine lv_iload_n C.1 C.2.1 dX9_lapse_17 rfl (lv_at hl 1 rfl) ?_
    obtain ⟨q3, hc4, hf⟩ := bd_o hf
    refine r_callVv C S (As := [.int (oI v1)]) (rest := []) (ct_X0_sumOf l G τ hc4) mi_X0_sumOf tw_614 mv_X0_sumOf (rvX0 S) ⟨rfl, rfl⟩ ⟨Nat.le_of_ble_eq_true rfl, Nat.le_of_ble_eq_true rfl⟩ ⟨Nat.zero_le _, Nat.zero_le _⟩ rfl hl.1 rfl (Nat.le_of_ble_eq_true rfl) dX9_lapse_18 (fun H locs S => ?_)
    refine lv_istore_n C.1 C.2.1 dX9_lapse_21 rfl hl (by decide) (lv' := [(2, .int (oI q3)), (0, .ref (G.1 0)), (1, .int (oI v1))]) rfl (fun ls hl => ?_)
    refine lv_aload_n C.1 C.2.1 dX9_lapse_22 rfl (lv_at hl 1 rfl) ?_
    refine g9_book C S tw_282 dX9_lapse_23 ?_
    refine lv_iload_n C.1 C.2.1 dX9_lapse_26 rfl (lv_at hl 2 rfl) ?_
    obtain ⟨q5, hc6, hf⟩ := bd_o hf
    refine r_callVv C S (As := [.int (oI v1)]) (rest := []) (ct_X0_perilOf l G τ hc6) mi_X0_perilOf tw_585 mv_X0_perilOf (rvX0 S) ⟨rfl, rfl⟩ ⟨Nat.le_of_ble_eq_true rfl, Nat.le_of_ble_eq_true rfl⟩ ⟨Nat.zero_le _, Nat.zero_le _⟩ rfl hl.1 rfl (Nat.le_of_ble_eq_true rfl) dX9_lapse_27 (fun H locs S => ?_)
    refine lv_istore_n C.1 C.2.1 dX9_lapse_30 rfl hl (by decide) (lv' := [(3, .int (oI q5)), (2, .int (oI q3)), (0, .ref (G.1 0)), (1, .int (oI v1))]) rfl (fun ls hl => ?_)
    refine lv_aload_n C.1 C.2.1 dX9_lapse_31 rfl (lv_at hl 2 rfl) ?_
    refine lv_iload_n C.1 C.2.1 dX9_lapse_32 rfl (lv_at hl 3 rfl) ?_
    refine lv_iload_n C.1 C.2.1 dX9_lapse_33 rfl (lv_at hl 0 rfl) ?_
    obtain ⟨q7, hc8, hf⟩ := bd_o hf
    refine r_callVn C S (As := [.int (oI v1), .int (oI q5)]) (rest := []) (ct_X9_leaveTreaties l G τ hc8) mi_X9_leaveTreaties tw_601 mv_X9_leaveTreaties (rvX9 S) ⟨rfl, rfl⟩ ⟨Nat.le_of_ble_eq_true rfl, Nat.le_of_ble_eq_true rfl⟩ ⟨Nat.zero_le _, Nat.zero_le _⟩ rfl hl.1 rfl (Nat.le_of_ble_eq_true rfl) dX9_lapse_34 (fun H locs S => ?_)
    refine lv_aload_n C.1 C.2.1 dX9_lapse_37 rfl (lv_at hl 2 rfl) ?_
    refine g9_book C S tw_282 dX9_lapse_38 ?_
    refine lv_iload_n C.1 C.2.1 dX9_lapse_41 rfl (lv_at hl 3 rfl) ?_
    obtain ⟨q9, hc10, hf⟩ := bd_o hf
    refine r_callVn C S (As := [.int (oI v1)]) (rest := []) (ct_X0_drop l G τ hc10) mi_X0_drop tw_623 mv_X0_drop (rvX0 S) ⟨rfl, rfl⟩ ⟨Nat.le_of_ble_eq_true rfl, Nat.le_of_ble_eq_true rfl⟩ ⟨Nat.zero_le _, Nat.zero_le _⟩ rfl hl.1 rfl (Nat.le_of_ble_eq_true rfl) dX9_lapse_42 (fun H locs S => ?_)
    refine lv_aload_n C.1 C.2.1 dX9_lapse_45 rfl (lv_at hl 2 rfl) ?_
    refine r_iconst C dX9_lapse_46 ?_
    refine lv_iload_n C.1 C.2.1 dX9_lapse_47 rfl (lv_at hl 3 rfl) ?_
    refine lv_iload_n C.1 C.2.1 dX9_lapse_48 rfl (lv_at hl 1 rfl) ?_
    refine r_ineg C dX9_lapse_49 ?_
    refine lv_iload_n C.1 C.2.1 dX9_lapse_50 rfl (lv_at hl 0 rfl) ?_
    obtain ⟨q11, hc12, hf⟩ := bd_o hf
    refine r_callVn C S (As := [.int (oI 3), .int (oI v1), .int (oI (-q3)), .int (oI q5)]) (rest := []) (ct_X9_tell l G τ hc12) mi_X9_tell tw_573 mv_X9_tell (rvX9 S) ⟨rfl, rfl⟩ ⟨Nat.le_of_ble_eq_true rfl, Nat.le_of_ble_eq_true rfl⟩ ⟨Nat.zero_le _, Nat.zero_le _⟩ rfl hl.1 rfl (Nat.le_of_ble_eq_true rfl) dX9_lapse_51 (fun H locs S => ?_)
    refine lv_iload_n C.1 C.2.1 dX9_lapse_54 rfl (lv_at hl 1 rfl) ?_
    cases hf
    exact hend _ _ _ _ S dX9_lapse_55
set_option maxRecDepth 100000 in
set_option maxHeartbeats 4000000 in
theorem ct_X9_arePerils (l : Launch) (G : Gd) (τ : Sg) {v0 : Int} {σ : Sg} {q : Int} (hf : f_X9_arePerils v0 σ = some q) : Ctr l yX9_arePerils cX9_arePerils 1 (some .boolean) (rmk 0 0) G true τ [.int (oI v0)] σ σ (some (.int (oI q))) := by
  unfold f_X9_arePerils at hf
  refine CtrZ.of (own := RX9) (plainFor_of_name (by decide)) (Nat.le_of_ble_eq_true rfl) rfl (fun p e s m below meth c Q ls C hl S hend => ?_)
  have hl : lv_has ls 1 [(0, .int (oI v0))] := hl
  refine lv_iload_n C.1 C.2.1 dX9_arePerils_0 rfl (lv_at hl 0 rfl) ?_
  refine r_iconst C dX9_arePerils_1 ?_
  refine r_icmp_lt C rfl (show w32 1 = 1 by decide) (tgt := 15) dX9_arePerils_2 (by decide) (fun h2 => ?_) (fun h2 => ?_)
  · replace hf := if_t hf h2
    refine r_iconst C dX9_arePerils_15 ?_
    cases hf
    exact hend (Or.inl rfl) _ _ _ _ S dX9_arePerils_16
  · replace hf := if_f hf h2
    refine lv_iload_n C.1 C.2.1 dX9_arePerils_5 rfl (lv_at hl 0 rfl) ?_
    refine r_bipush C dX9_arePerils_6 (by decide) ?_
    refine r_icmp_gt C rfl (show w32 15 = 15 by decide) (tgt := 15) dX9_arePerils_8 (by decide) (fun h1 => ?_) (fun h1 => ?_)
    · replace hf := if_t hf h1
      refine r_iconst C dX9_arePerils_11 ?_
      refine lv_goto C.1 C.2.1 (tgt := 16) dX9_arePerils_12 (by decide) ?_
      cases hf
      exact hend (Or.inr rfl) _ _ _ _ S dX9_arePerils_16
    · replace hf := if_f hf h1
      refine r_iconst C dX9_arePerils_15 ?_
      cases hf
      exact hend (Or.inl rfl) _ _ _ _ S dX9_arePerils_16
set_option maxRecDepth 100000 in
set_option maxHeartbeats 4000000 in
theorem ct_X9_isRadius (l : Launch) (G : Gd) (τ : Sg) {v0 : Int} {σ : Sg} {q : Int} (hf : f_X9_isRadius v0 σ = some q) : Ctr l yX9_isRadius cX9_isRadius 1 (some .boolean) (rmk 0 0) G true τ [.int (oI v0)] σ σ (some (.int (oI q))) := by
  unfold f_X9_isRadius at hf
  refine CtrZ.of (own := RX9) (plainFor_of_name (by decide)) (Nat.le_of_ble_eq_true rfl) rfl (fun p e s m below meth c Q ls C hl S hend => ?_)
  have hl : lv_has ls 1 [(0, .int (oI v0))] := hl
  refine lv_iload_n C.1 C.2.1 dX9_isRadius_0 rfl (lv_at hl 0 rfl) ?_
  refine r_iconst C dX9_isRadius_1 ?_
  refine r_icmp_lt C rfl (show w32 1 = 1 by decide) (tgt := 16) dX9_isRadius_2 (by decide) (fun h2 => ?_) (fun h2 => ?_)
  · replace hf := if_t hf h2
    refine r_iconst C dX9_isRadius_16 ?_
    cases hf
    exact hend (Or.inl rfl) _ _ _ _ S dX9_isRadius_17
  · replace hf := if_f hf h2
    refine lv_iload_n C.1 C.2.1 dX9_isRadius_5 rfl (lv_at hl 0 rfl) ?_
    refine r_sipush C dX9_isRadius_6 (by decide) ?_
    refine r_icmp_gt C rfl (show w32 300 = 300 by decide) (tgt := 16) dX9_isRadius_9 (by decide) (fun h1 => ?_) (fun h1 => ?_)
    · replace hf := if_t hf h1
      refine r_iconst C dX9_isRadius_12 ?_
      refine lv_goto C.1 C.2.1 (tgt := 17) dX9_isRadius_13 (by decide) ?_
      cases hf
      exact hend (Or.inr rfl) _ _ _ _ S dX9_isRadius_17
    · replace hf := if_f hf h1
      refine r_iconst C dX9_isRadius_16 ?_
      cases hf
      exact hend (Or.inl rfl) _ _ _ _ S dX9_isRadius_17
set_option maxRecDepth 100000 in
set_option maxHeartbeats 4000000 in
theorem ct_X9_treaty (l : Launch) (G : Gd) (τ : Sg) {v1 : Int} {v2 : Int} {v3 : Int} {σ : Sg} {q : Int × Sg} (hf : f_X9_treaty v1 v2 v3 σ = some q) : Ctr l yX9_treaty cX9_treaty 4 (some .int) (rmk 6 159) G true τ [.ref (G.1 0), .int (oI v1), .int (oI v2), .int (oI v3)] σ q.2 (some (.int (oI q.1))) := by
  unfold f_X9_treaty at hf
  refine CtrI.of (own := RX9) (plainFor_of_name (by decide)) (Nat.le_of_ble_eq_true rfl) rfl (fun p e s m below meth c Q ls C hl S hend => ?_)
  have hl : lv_has ls 4 [(0, .ref (G.1 0)), (1, .int (oI v1)), (2, .int (oI v2)), (3, .int (oI v3))] := hl
  refine lv_iload_n C.1 C.2.1 dX9_treaty_0 rfl (lv_at hl 1 rfl) ?_
  obtain ⟨q1, hc2, hf⟩ := bd_o hf
  refine r_callSv C S (As := [.int (oI v1)]) (rest := []) (ct_X9_arePerils l G τ hc2) mi_X9_arePerils tw_631 ms_X9_arePerils ⟨rfl, rfl⟩ ⟨Nat.le_of_ble_eq_true rfl, Nat.le_of_ble_eq_true rfl⟩ ⟨Nat.zero_le _, Nat.zero_le _⟩ rfl hl.1 rfl (Nat.le_of_ble_eq_true rfl) dX9_treaty_1 (fun H locs S => ?_)
  refine r_if_eq C rfl (tgt := 25) dX9_treaty_4 (by decide) (fun h10 => ?_) (fun h10 => ?_)
  · replace hf := if_t hf h10
    refine r_iconst C dX9_treaty_25 ?_
    cases hf
    exact hend _ _ _ _ S dX9_treaty_26
  · replace hf := if_f hf h10
    refine lv_iload_n C.1 C.2.1 dX9_treaty_7 rfl (lv_at hl 2 rfl) ?_
    obtain ⟨q3, hc4, hf⟩ := bd_o hf
    refine r_callSv C S (As := [.int (oI v2)]) (rest := []) (ct_X9_isRadius l G τ hc4) mi_X9_isRadius tw_634 ms_X9_isRadius ⟨rfl, rfl⟩ ⟨Nat.le_of_ble_eq_true rfl, Nat.le_of_ble_eq_true rfl⟩ ⟨Nat.zero_le _, Nat.zero_le _⟩ rfl hl.1 rfl (Nat.le_of_ble_eq_true rfl) dX9_treaty_8 (fun H locs S => ?_)
    refine r_if_eq C rfl (tgt := 25) dX9_treaty_11 (by decide) (fun h9 => ?_) (fun h9 => ?_)
    · replace hf := if_t hf h9
      refine r_iconst C dX9_treaty_25 ?_
      cases hf
      exact hend _ _ _ _ S dX9_treaty_26
    · replace hf := if_f hf h9
      refine lv_iload_n C.1 C.2.1 dX9_treaty_14 rfl (lv_at hl 3 rfl) ?_
      refine r_iconst C dX9_treaty_15 ?_
      refine r_icmp_lt C rfl (show w32 1 = 1 by decide) (tgt := 25) dX9_treaty_16 (by decide) (fun h8 => ?_) (fun h8 => ?_)
      · replace hf := if_t hf h8
        refine r_iconst C dX9_treaty_25 ?_
        cases hf
        exact hend _ _ _ _ S dX9_treaty_26
      · replace hf := if_f hf h8
        refine lv_iload_n C.1 C.2.1 dX9_treaty_19 rfl (lv_at hl 3 rfl) ?_
        refine r_ldc C tw_637 dX9_treaty_20 ?_
        refine r_icmp_le C rfl (show w32 9999999 = 9999999 by decide) (tgt := 27) dX9_treaty_22 (by decide) (fun h7 => ?_) (fun h7 => ?_)
        · replace hf := if_t hf h7
          refine lv_aload_n C.1 C.2.1 dX9_treaty_27 rfl (lv_at hl 0 rfl) ?_
          refine lv_iload_n C.1 C.2.1 dX9_treaty_28 rfl (lv_at hl 1 rfl) ?_
          refine lv_iload_n C.1 C.2.1 dX9_treaty_29 rfl (lv_at hl 2 rfl) ?_
          refine lv_iload_n C.1 C.2.1 dX9_treaty_30 rfl (lv_at hl 3 rfl) ?_
          obtain ⟨q5, hc6, hf⟩ := bd_o hf
          refine r_callVv C S (As := [.int (oI v1), .int (oI v2), .int (oI v3)]) (rest := []) (ct_X9_openTreaty l G τ hc6) mi_X9_openTreaty tw_468 mv_X9_openTreaty (rvX9 S) ⟨rfl, rfl⟩ ⟨Nat.le_of_ble_eq_true rfl, Nat.le_of_ble_eq_true rfl⟩ ⟨Nat.zero_le _, Nat.zero_le _⟩ rfl hl.1 rfl (Nat.le_of_ble_eq_true rfl) dX9_treaty_31 (fun H locs S => ?_)
          cases hf
          exact hend _ _ _ _ S dX9_treaty_34
        · replace hf := if_f hf h7
          refine r_iconst C dX9_treaty_25 ?_
          cases hf
          exact hend _ _ _ _ S dX9_treaty_26
set_option maxRecDepth 100000 in
set_option maxHeartbeats 4000000 in
theorem ct_X9_limit (l : Launch) (G : Gd) (τ : Sg) {v1 : Int} {v2 : Int} {σ : Sg} {q : Int × Sg} (hf : f_X9_limit v1 v2 σ = some q) : Ctr l yX9_limit cX9_limit 5 (some .int) (rmk 2 46) G true τ [.ref (G.1 0), .int (oI v1), .int (oI v2)] σ q.2 (some (.int (oI q.1))) := by
  unfold f_X9_limit at hf
  refine CtrI.of (own := RX9) (plainFor_of_name (by decide)) (Nat.le_of_ble_eq_true rfl) rfl (fun p e s m below meth c Q ls C hl S hend => ?_)
  have hl : lv_has ls 5 [(0, .ref (G.1 0)), (1, .int (oI v1)), (2, .int (oI v2))] := hl
  refine lv_aload_n C.1 C.2.1 dX9_limit_0 rfl (lv_at hl 0 rfl) ?_
  refine lv_iload_n C.1 C.2.1 dX9_limit_1 rfl (lv_at hl 1 rfl) ?_
  obtain ⟨q1, hc2, hf⟩ := bd_o hf
  refine r_callVv C S (As := [.int (oI v1)]) (rest := []) (ct_X9_treatyAt l G τ hc2) mi_X9_treatyAt tw_528 mv_X9_treatyAt (rvX9 S) ⟨rfl, rfl⟩ ⟨Nat.le_of_ble_eq_true rfl, Nat.le_of_ble_eq_true rfl⟩ ⟨Nat.zero_le _, Nat.zero_le _⟩ rfl hl.1 rfl (Nat.le_of_ble_eq_true rfl) dX9_limit_2 (fun H locs S => ?_)
  rcases q1 with _ | t3
  · replace hf := oT_n hf
    refine lv_astore_nN C.1 C.2.1 dX9_limit_5 rfl hl (by decide) (lv' := [(3, .null), (0, .ref (G.1 0)), (1, .int (oI v1)), (2, .int (oI v2))]) rfl (fun ls hl => ?_)
    refine lv_aload_nN C.1 C.2.1 dX9_limit_6 rfl (lv_at hl 0 rfl) ?_
    refine lv_ifnullN C.1 C.2.1 (tgt := 21) dX9_limit_7 (by decide) ?_
    refine r_iconst C dX9_limit_21 ?_
    cases hf
    exact hend _ _ _ _ S dX9_limit_22
  · obtain ⟨ht3, hf⟩ := oT_s hf
    refine lv_astore_n C.1 C.2.1 dX9_limit_5 rfl hl (by decide) (lv' := [(3, .ref (G.1 (21 + t3))), (0, .ref (G.1 0)), (1, .int (oI v1)), (2, .int (oI v2))]) rfl (fun ls hl => ?_)
    refine lv_aload_n C.1 C.2.1 dX9_limit_6 rfl (lv_at hl 0 rfl) ?_
    refine lv_ifnull C.1 C.2.1 dX9_limit_7 ?_
    refine lv_iload_n C.1 C.2.1 dX9_limit_10 rfl (lv_at hl 3 rfl) ?_
    refine r_iconst C dX9_limit_11 ?_
    refine r_icmp_lt C rfl (show w32 1 = 1 by decide) (tgt := 21) dX9_limit_12 (by decide) (fun h8 => ?_) (fun h8 => ?_)
    · replace hf := if_t hf h8
      refine r_iconst C dX9_limit_21 ?_
      cases hf
      exact hend _ _ _ _ S dX9_limit_22
    · replace hf := if_f hf h8
      refine lv_iload_n C.1 C.2.1 dX9_limit_15 rfl (lv_at hl 3 rfl) ?_
      refine r_ldc C tw_637 dX9_limit_16 ?_
      refine r_icmp_le C rfl (show w32 9999999 = 9999999 by decide) (tgt := 23) dX9_limit_18 (by decide) (fun h7 => ?_) (fun h7 => ?_)
      · replace hf := if_t hf h7
        refine lv_aload_n C.1 C.2.1 dX9_limit_23 rfl (lv_at hl 0 rfl) ?_
        refine g8_limit C (d := t3) S (by omega) tw_155 dX9_limit_24 ?_
        refine lv_istore C.1 C.2.1 dX9_limit_27 hl (by decide) (lv' := [(4, .int (oI (σ (21 + t3) 4))), (3, .ref (G.1 (21 + t3))), (0, .ref (G.1 0)), (1, .int (oI v1)), (2, .int (oI v2))]) rfl (fun ls hl => ?_)
        refine lv_aload_n C.1 C.2.1 dX9_limit_29 rfl (lv_at hl 1 rfl) ?_
        refine lv_iload_n C.1 C.2.1 dX9_limit_30 rfl (lv_at hl 4 rfl) ?_
        refine p8_limit C (d := t3) S (by omega) tw_155 dX9_limit_31 (fun H locs S => ?_)
        obtain ⟨σ4, S, hf⟩ := wr_s S hf
        refine lv_aload_n C.1 C.2.1 dX9_limit_34 rfl (lv_at hl 2 rfl) ?_
        refine lv_iload_n C.1 C.2.1 dX9_limit_35 rfl (lv_at hl 3 rfl) ?_
        obtain ⟨q5, hc6, hf⟩ := bd_o hf
        refine r_callVn C S (As := [.int (oI v1)]) (rest := []) (ct_X9_lookAt l G τ hc6) mi_X9_lookAt tw_524 mv_X9_lookAt (rvX9 S) ⟨rfl, rfl⟩ ⟨Nat.le_of_ble_eq_true rfl, Nat.le_of_ble_eq_true rfl⟩ ⟨Nat.zero_le _, Nat.zero_le _⟩ rfl hl.1 rfl (Nat.le_of_ble_eq_true rfl) dX9_limit_36 (fun H locs S => ?_)
        refine lv_iload C.1 C.2.1 dX9_limit_39 (lv_at hl 0 rfl) ?_
        cases hf
        exact hend _ _ _ _ S dX9_limit_41
      · replace hf := if_f hf h7
        refine r_iconst C dX9_limit_21 ?_
        cases hf
        exact hend _ _ _ _ S dX9_limit_22
set_option maxRecDepth 100000 in
set_option maxHeartbeats 4000000 in
theorem ct_J6_bitCount_0f7a4 (l : Launch) (G : Gd) (τ : Sg) {b : Bool} {v0 : Int} {σ : Sg} {q : Int} (hf : f_J6_bitCount_0f7a4 v0 σ = some q) : Ctr l yJ6_bitCount_0f7a4 cJ6_bitCount_0f7a4 1 (some .int) (rmk 0 0) G b τ [.int (oI v0)] σ σ (some (.int (oI q))) := by
  unfold f_J6_bitCount_0f7a4 at hf
  refine CtrI.of (own := RJ6) (plainFor_of_name (by decide)) (Nat.le_of_ble_eq_true rfl) rfl (fun p e s m below meth c Q ls C hl S hend => ?_)
  have hl : lv_has ls 1 [(0, .int (oI v0))] := hl
  refine lv_iload_n C.1 C.2.1 dJ6_bitCount_0f7a4_0 rfl (lv_at hl 0 rfl) ?_
  refine lv_iload_n C.1 C.2.1 dJ6_bitCount_0f7a4_1 rfl (lv_at hl 0 rfl) ?_
  refine r_iconst C dJ6_bitCount_0f7a4_2 ?_
  refine r_iushr C (y1 := 1) rfl (by decide) dJ6_bitCount_0f7a4_3 ?_
  refine r_ldcw C tw_649 dJ6_bitCount_0f7a4_4 ?_
  refine r_iand C (u32_nat (nb_shr (u32_lt _))) (show u32 1431655765 = 1431655765 by decide) dJ6_bitCount_0f7a4_7 ?_
  refine r_isub C dJ6_bitCount_0f7a4_8 ?_
  refine lv_istore_n C.1 C.2.1 dJ6_bitCount_0f7a4_9 rfl hl (by decide) (lv' := [(0, .int (oI (v0 - (((((u32 v0) >>> 1) &&& 1431655765 : Nat) : Int)))))]) rfl (fun ls hl => ?_)
  refine lv_iload_n C.1 C.2.1 dJ6_bitCount_0f7a4_10 rfl (lv_at hl 0 rfl) ?_
  refine r_ldcw C tw_650 dJ6_bitCount_0f7a4_11 ?_
  refine r_iand C rfl (show u32 858993459 = 858993459 by decide) dJ6_bitCount_0f7a4_14 ?_
  refine lv_iload_n C.1 C.2.1 dJ6_bitCount_0f7a4_15 rfl (lv_at hl 0 rfl) ?_
  refine r_iconst C dJ6_bitCount_0f7a4_16 ?_
  refine r_iushr C (y1 := 2) rfl (by decide) dJ6_bitCount_0f7a4_17 ?_
  refine r_ldcw C tw_650 dJ6_bitCount_0f7a4_18 ?_
  refine r_iand C (u32_nat (nb_shr (u32_lt _))) (show u32 858993459 = 858993459 by decide) dJ6_bitCount_0f7a4_21 ?_
  refine r_iadd C dJ6_bitCount_0f7a4_22 ?_
  refine lv_istore_n C.1 C.2.1 dJ6_bitCount_0f7a4_23 rfl hl (by decide) (lv' := [(0, .int (oI (((((u32 (v0 - (((((u32 v0) >>> 1) &&& 1431655765 : Nat) : Int)))) &&& 858993459 : Nat) : Int)) + (((((u32 (v0 - (((((u32 v0) >>> 1) &&& 1431655765 : Nat) : Int)))) >>> 2) &&& 858993459 : Nat) : Int)))))]) rfl (fun ls hl => ?_)
  refine lv_iload_n C.1 C.2.1 dJ6_bitCount_0f7a4_24 rfl (lv_at hl 0 rfl) ?_
  refine lv_iload_n C.1 C.2.1 dJ6_bitCount_0f7a4_25 rfl (lv_at hl 0 rfl) ?_
  refine r_iconst C dJ6_bitCount_0f7a4_26 ?_
  refine r_iushr C (y1 := 4) rfl (by decide) dJ6_bitCount_0f7a4_27 ?_
  refine r_iadd C dJ6_bitCount_0f7a4_28 ?_
  refine r_ldcw C tw_651 dJ6_bitCount_0f7a4_29 ?_
  refine r_iand C rfl (show u32 252645135 = 252645135 by decide) dJ6_bitCount_0f7a4_32 ?_
  refine lv_istore_n C.1 C.2.1 dJ6_bitCount_0f7a4_33 rfl hl (by decide) (lv' := [(0, .int (oI ((((u32 ((((((u32 (v0 - (((((u32 v0) >>> 1) &&& 1431655765 : Nat) : Int)))) &&& 858993459 : Nat) : Int)) + (((((u32 (v0 - (((((u32 v0) >>> 1) &&& 1431655765 : Nat) : Int)))) >>> 2) &&& 858993459 : Nat) : Int))) + ((((u32 (((((u32 (v0 - (((((u32 v0) >>> 1) &&& 1431655765 : Nat) : Int)))) &&& 858993459 : Nat) : Int)) + (((((u32 (v0 - (((((u32 v0) >>> 1) &&& 1431655765 : Nat) : Int)))) >>> 2) &&& 858993459 : Nat) : Int)))) >>> 4 : Nat) : Int)))) &&& 252645135 : Nat) : Int))))]) rfl (fun ls hl => ?_)
  refine lv_iload_n C.1 C.2.1 dJ6_bitCount_0f7a4_34 rfl (lv_at hl 0 rfl) ?_
  refine lv_iload_n C.1 C.2.1 dJ6_bitCount_0f7a4_35 rfl (lv_at hl 0 rfl) ?_
  refine r_bipush C dJ6_bitCount_0f7a4_36 (by decide) ?_
  refine r_iushr C (y1 := 8) (u32_nat (nb_and (u32_lt _))) (by decide) dJ6_bitCount_0f7a4_38 ?_
  refine r_iadd C dJ6_bitCount_0f7a4_39 ?_
  refine lv_istore_n C.1 C.2.1 dJ6_bitCount_0f7a4_40 rfl hl (by decide) (lv' := [(0, .int (oI (((((u32 ((((((u32 (v0 - (((((u32 v0) >>> 1) &&& 1431655765 : Nat) : Int)))) &&& 858993459 : Nat) : Int)) + (((((u32 (v0 - (((((u32 v0) >>> 1) &&& 1431655765 : Nat) : Int)))) >>> 2) &&& 858993459 : Nat) : Int))) + ((((u32 (((((u32 (v0 - (((((u32 v0) >>> 1) &&& 1431655765 : Nat) : Int)))) &&& 858993459 : Nat) : Int)) + (((((u32 (v0 - (((((u32 v0) >>> 1) &&& 1431655765 : Nat) : Int)))) >>> 2) &&& 858993459 : Nat) : Int)))) >>> 4 : Nat) : Int)))) &&& 252645135 : Nat) : Int)) + (((((u32 ((((((u32 (v0 - (((((u32 v0) >>> 1) &&& 1431655765 : Nat) : Int)))) &&& 858993459 : Nat) : Int)) + (((((u32 (v0 - (((((u32 v0) >>> 1) &&& 1431655765 : Nat) : Int)))) >>> 2) &&& 858993459 : Nat) : Int))) + ((((u32 (((((u32 (v0 - (((((u32 v0) >>> 1) &&& 1431655765 : Nat) : Int)))) &&& 858993459 : Nat) : Int)) + (((((u32 (v0 - (((((u32 v0) >>> 1) &&& 1431655765 : Nat) : Int)))) >>> 2) &&& 858993459 : Nat) : Int)))) >>> 4 : Nat) : Int)))) &&& 252645135) >>> 8 : Nat) : Int)))))]) rfl (fun ls hl => ?_)
  refine lv_iload_n C.1 C.2.1 dJ6_bitCount_0f7a4_41 rfl (lv_at hl 0 rfl) ?_
  refine lv_iload_n C.1 C.2.1 dJ6_bitCount_0f7a4_42 rfl (lv_at hl 0 rfl) ?_
  refine r_bipush C dJ6_bitCount_0f7a4_43 (by decide) ?_
  refine r_iushr C (y1 := 16) rfl (by decide) dJ6_bitCount_0f7a4_45 ?_
  refine r_iadd C dJ6_bitCount_0f7a4_46 ?_
  refine lv_istore_n C.1 C.2.1 dJ6_bitCount_0f7a4_47 rfl hl (by decide) (lv' := [(0, .int (oI ((((((u32 ((((((u32 (v0 - (((((u32 v0) >>> 1) &&& 1431655765 : Nat) : Int)))) &&& 858993459 : Nat) : Int)) + (((((u32 (v0 - (((((u32 v0) >>> 1) &&& 1431655765 : Nat) : Int)))) >>> 2) &&& 858993459 : Nat) : Int))) + ((((u32 (((((u32 (v0 - (((((u32 v0) >>> 1) &&& 1431655765 : Nat) : Int)))) &&& 858993459 : Nat) : Int)) + (((((u32 (v0 - (((((u32 v0) >>> 1) &&& 1431655765 : Nat) : Int)))) >>> 2) &&& 858993459 : Nat) : Int)))) >>> 4 : Nat) : Int)))) &&& 252645135 : Nat) : Int)) + (((((u32 ((((((u32 (v0 - (((((u32 v0) >>> 1) &&& 1431655765 : Nat) : Int)))) &&& 858993459 : Nat) : Int)) + (((((u32 (v0 - (((((u32 v0) >>> 1) &&& 1431655765 : Nat) : Int)))) >>> 2) &&& 858993459 : Nat) : Int))) + ((((u32 (((((u32 (v0 - (((((u32 v0) >>> 1) &&& 1431655765 : Nat) : Int)))) &&& 858993459 : Nat) : Int)) + (((((u32 (v0 - (((((u32 v0) >>> 1) &&& 1431655765 : Nat) : Int)))) >>> 2) &&& 858993459 : Nat) : Int)))) >>> 4 : Nat) : Int)))) &&& 252645135) >>> 8 : Nat) : Int))) + ((((u32 (((((u32 ((((((u32 (v0 - (((((u32 v0) >>> 1) &&& 1431655765 : Nat) : Int)))) &&& 858993459 : Nat) : Int)) + (((((u32 (v0 - (((((u32 v0) >>> 1) &&& 1431655765 : Nat) : Int)))) >>> 2) &&& 858993459 : Nat) : Int))) + ((((u32 (((((u32 (v0 - (((((u32 v0) >>> 1) &&& 1431655765 : Nat) : Int)))) &&& 858993459 : Nat) : Int)) + (((((u32 (v0 - (((((u32 v0) >>> 1) &&& 1431655765 : Nat) : Int)))) >>> 2) &&& 858993459 : Nat) : Int)))) >>> 4 : Nat) : Int)))) &&& 252645135 : Nat) : Int)) + (((((u32 ((((((u32 (v0 - (((((u32 v0) >>> 1) &&& 1431655765 : Nat) : Int)))) &&& 858993459 : Nat) : Int)) + (((((u32 (v0 - (((((u32 v0) >>> 1) &&& 1431655765 : Nat) : Int)))) >>> 2) &&& 858993459 : Nat) : Int))) + ((((u32 (((((u32 (v0 - (((((u32 v0) >>> 1) &&& 1431655765 : Nat) : Int)))) &&& 858993459 : Nat) : Int)) + (((((u32 (v0 - (((((u32 v0) >>> 1) &&& 1431655765 : Nat) : Int)))) >>> 2) &&& 858993459 : Nat) : Int)))) >>> 4 : Nat) : Int)))) &&& 252645135) >>> 8 : Nat) : Int)))) >>> 16 : Nat) : Int)))))]) rfl (fun ls hl => ?_)
  refine lv_iload_n C.1 C.2.1 dJ6_bitCount_0f7a4_48 rfl (lv_at hl 0 rfl) ?_
  refine r_bipush C dJ6_bitCount_0f7a4_49 (by decide) ?_
  refine r_iand C rfl (show u32 63 = 63 by decide) dJ6_bitCount_0f7a4_51 ?_
  cases hf
  exact hend _ _ _ _ S dJ6_bitCount_0f7a4_52
set_option maxRecDepth 100000 in
set_option maxHeartbeats 4000000 in
theorem ct_X9_its (l : Launch) (G : Gd) (τ : Sg) {v1 : Int} {v2 : Int} {σ : Sg} {q : Int} (hf : f_X9_its v1 v2 σ = some q) : Ctr l yX9_its cX9_its 4 (some .int) (rmk 1 24) G true τ [.ref (G.1 0), .int (oI v1), .int (oI v2)] σ σ (some (.int (oI q))) := by
  unfold f_X9_its at hf
  refine CtrI.of (own := RX9) (plainFor_of_name (by decide)) (Nat.le_of_ble_eq_true rfl) rfl (fun p e s m below meth c Q ls C hl S hend => ?_)
  have hl : lv_has ls 4 [(0, .ref (G.1 0)), (1, .int (oI v1)), (2, .int (oI v2))] := hl
  refine lv_aload_n C.1 C.2.1 dX9_its_0 rfl (lv_at hl 0 rfl) ?_
  refine lv_iload_n C.1 C.2.1 dX9_its_1 rfl (lv_at hl 1 rfl) ?_
  obtain ⟨q1, hc2, hf⟩ := bd_o hf
  refine r_callVv C S (As := [.int (oI v1)]) (rest := []) (ct_X9_treatyAt l G τ hc2) mi_X9_treatyAt tw_528 mv_X9_treatyAt (rvX9 S) ⟨rfl, rfl⟩ ⟨Nat.le_of_ble_eq_true rfl, Nat.le_of_ble_eq_true rfl⟩ ⟨Nat.zero_le _, Nat.zero_le _⟩ rfl hl.1 rfl (Nat.le_of_ble_eq_true rfl) dX9_its_2 (fun H locs S => ?_)
  rcases q1 with _ | t3
  · replace hf := oT_n hf
    refine lv_astore_nN C.1 C.2.1 dX9_its_5 rfl hl (by decide) (lv' := [(3, .null), (0, .ref (G.1 0)), (1, .int (oI v1)), (2, .int (oI v2))]) rfl (fun ls hl => ?_)
    refine lv_aload_nN C.1 C.2.1 dX9_its_6 rfl (lv_at hl 0 rfl) ?_
    refine lv_ifnonnullN C.1 C.2.1 dX9_its_7 ?_
    refine r_iconst C dX9_its_10 ?_
    cases hf
    exact hend _ _ _ _ S dX9_its_11
  · obtain ⟨ht3, hf⟩ := oT_s hf
    refine lv_astore_n C.1 C.2.1 dX9_its_5 rfl hl (by decide) (lv' := [(3, .ref (G.1 (21 + t3))), (0, .ref (G.1 0)), (1, .int (oI v1)), (2, .int (oI v2))]) rfl (fun ls hl => ?_)
    refine lv_aload_n C.1 C.2.1 dX9_its_6 rfl (lv_at hl 0 rfl) ?_
    refine lv_ifnonnull C.1 C.2.1 (tgt := 12) dX9_its_7 (by decide) ?_
    refine lv_iload_n C.1 C.2.1 dX9_its_12 rfl (lv_at hl 3 rfl) ?_
    by_cases hs0 : w32 v2 = 0
    · replace hf := if_t hf hs0
      refine r_tabIn C (tgt := 60) (v := 0) dX9_its_13 hs0 (by decide) (by decide) rfl (by decide) ?_
      refine lv_aload_n C.1 C.2.1 dX9_its_60 rfl (lv_at hl 0 rfl) ?_
      refine g8_perils C (d := t3) S (by omega) tw_151 dX9_its_61 ?_
      cases hf
      exact hend _ _ _ _ S dX9_its_64
    · replace hf := if_f hf hs0
      by_cases hs1 : w32 v2 = 1
      · replace hf := if_t hf hs1
        refine r_tabIn C (tgt := 65) (v := 1) dX9_its_13 hs1 (by decide) (by decide) rfl (by decide) ?_
        refine lv_aload_n C.1 C.2.1 dX9_its_65 rfl (lv_at hl 0 rfl) ?_
        refine g8_radius C (d := t3) S (by omega) tw_153 dX9_its_66 ?_
        cases hf
        exact hend _ _ _ _ S dX9_its_69
      · replace hf := if_f hf hs1
        by_cases hs2 : w32 v2 = 2
        · replace hf := if_t hf hs2
          refine r_tabIn C (tgt := 70) (v := 2) dX9_its_13 hs2 (by decide) (by decide) rfl (by decide) ?_
          refine lv_aload_n C.1 C.2.1 dX9_its_70 rfl (lv_at hl 0 rfl) ?_
          refine g8_limit C (d := t3) S (by omega) tw_155 dX9_its_71 ?_
          cases hf
          exact hend _ _ _ _ S dX9_its_74
        · replace hf := if_f hf hs2
          by_cases hs3 : w32 v2 = 3
          · replace hf := if_t hf hs3
            refine r_tabIn C (tgt := 75) (v := 3) dX9_its_13 hs3 (by decide) (by decide) rfl (by decide) ?_
            refine lv_aload_n C.1 C.2.1 dX9_its_75 rfl (lv_at hl 0 rfl) ?_
            refine g8_discs C (d := t3) S (by omega) tw_149 dX9_its_76 ?_
            refine g2_members C (d := t3) S (by omega) tw_133 dX9_its_79 ?_
            obtain ⟨q4, hc5, hf⟩ := bd_o hf
            refine r_callSv C S (As := [.int (oI (σ (27 + t3) 5))]) (rest := []) (ct_J6_bitCount_0f7a4 l G τ hc5) mi_J6_bitCount_0f7a4 tw_646 ms_J6_bitCount_0f7a4 ⟨rfl, rfl⟩ ⟨Nat.le_of_ble_eq_true rfl, Nat.le_of_ble_eq_true rfl⟩ ⟨Nat.zero_le _, Nat.zero_le _⟩ rfl hl.1 rfl (Nat.le_of_ble_eq_true rfl) dX9_its_82 (fun H locs S => ?_)
            cases hf
            exact hend _ _ _ _ S dX9_its_85
          · replace hf := if_f hf hs3
            by_cases hs4 : w32 v2 = 4
            · replace hf := if_t hf hs4
              refine r_tabIn C (tgt := 86) (v := 4) dX9_its_13 hs4 (by decide) (by decide) rfl (by decide) ?_
              refine lv_aload_n C.1 C.2.1 dX9_its_86 rfl (lv_at hl 1 rfl) ?_
              refine g9_book C S tw_282 dX9_its_87 ?_
              refine lv_aload_n C.1 C.2.1 dX9_its_90 rfl (lv_at hl 0 rfl) ?_
              refine g8_discs C (d := t3) S (by omega) tw_149 dX9_its_91 ?_
              refine g2_members C (d := t3) S (by omega) tw_133 dX9_its_94 ?_
              obtain ⟨q6, hc7, hf⟩ := bd_o hf
              refine r_callVv C S (As := [.int (oI (σ (27 + t3) 5))]) (rest := []) (ct_X0_sums l G τ hc7) mi_X0_sums tw_652 mv_X0_sums (rvX0 S) ⟨rfl, rfl⟩ ⟨Nat.le_of_ble_eq_true rfl, Nat.le_of_ble_eq_true rfl⟩ ⟨Nat.zero_le _, Nat.zero_le _⟩ rfl hl.1 rfl (Nat.le_of_ble_eq_true rfl) dX9_its_97 (fun H locs S => ?_)
              cases hf
              exact hend _ _ _ _ S dX9_its_100
            · replace hf := if_f hf hs4
              by_cases hs5 : w32 v2 = 5
              · replace hf := if_t hf hs5
                refine r_tabIn C (tgt := 101) (v := 5) dX9_its_13 hs5 (by decide) (by decide) rfl (by decide) ?_
                refine lv_aload_n C.1 C.2.1 dX9_its_101 rfl (lv_at hl 0 rfl) ?_
                obtain ⟨q8, hc9, hf⟩ := bd_o hf
                refine r_callVv C S (As := []) (rest := []) (ct_X8_isPassed l G τ hc9) mi_X8_isPassed tw_532 mv_X8_isPassed (rvX8 S (d := t3) (by omega)) ⟨rfl, rfl⟩ ⟨Nat.le_of_ble_eq_true rfl, Nat.le_of_ble_eq_true rfl⟩ ⟨Nat.zero_le _, Nat.zero_le _⟩ rfl hl.1 rfl (Nat.le_of_ble_eq_true rfl) dX9_its_102 (fun H locs S => ?_)
                refine r_if_eq C rfl (tgt := 112) dX9_its_105 (by decide) (fun h10 => ?_) (fun h10 => ?_)
                · replace hf := if_t hf h10
                  refine r_iconst C dX9_its_112 ?_
                  cases hf
                  exact hend _ _ _ _ S dX9_its_113
                · replace hf := if_f hf h10
                  refine r_iconst C dX9_its_108 ?_
                  refine lv_goto C.1 C.2.1 (tgt := 113) dX9_its_109 (by decide) ?_
                  cases hf
                  exact hend _ _ _ _ S dX9_its_113
              · replace hf := if_f hf hs5
                by_cases hs6 : w32 v2 = 6
                · replace hf := if_t hf hs6
                  refine r_tabIn C (tgt := 114) (v := 6) dX9_its_13 hs6 (by decide) (by decide) rfl (by decide) ?_
                  refine lv_aload_n C.1 C.2.1 dX9_its_114 rfl (lv_at hl 0 rfl) ?_
                  refine g8_alarm C (d := t3) S (by omega) tw_161 dX9_its_115 ?_
                  cases hf
                  exact hend _ _ _ _ S dX9_its_118
                · replace hf := if_f hf hs6
                  by_cases hs7 : w32 v2 = 7
                  · replace hf := if_t hf hs7
                    refine r_tabIn C (tgt := 119) (v := 7) dX9_its_13 hs7 (by decide) (by decide) rfl (by decide) ?_
                    refine lv_aload_n C.1 C.2.1 dX9_its_119 rfl (lv_at hl 0 rfl) ?_
                    refine g8_alarmsHad C (d := t3) S (by omega) tw_163 dX9_its_120 ?_
                    cases hf
                    exact hend _ _ _ _ S dX9_its_123
                  · replace hf := if_f hf hs7
                    refine r_tabOut C (tgt := 124) dX9_its_13 (by omega) (by decide) ?_
                    refine r_iconst C dX9_its_124 ?_
                    cases hf
                    exact hend _ _ _ _ S dX9_its_125
set_option maxRecDepth 100000 in
set_option maxHeartbeats 4000000 in
theorem ct_X9_worst (l : Launch) (G : Gd) (τ : Sg) {v1 : Int} {v2 : Int} {σ : Sg} {q : Int} (hf : f_X9_worst v1 v2 σ = some q) : Ctr l yX9_worst cX9_worst 4 (some .int) (rmk 1 21) G true τ [.ref (G.1 0), .int (oI v1), .int (oI v2)] σ σ (some (.int (oI q))) := by
  unfold f_X9_worst at hf
  refine CtrI.of (own := RX9) (plainFor_of_name (by decide)) (Nat.le_of_ble_eq_true rfl) rfl (fun p e s m below meth c Q ls C hl S hend => ?_)
  have hl : lv_has ls 4 [(0, .ref (G.1 0)), (1, .int (oI v1)), (2, .int (oI v2))] := hl
  refine lv_aload_n C.1 C.2.1 dX9_worst_0 rfl (lv_at hl 0 rfl) ?_
  refine lv_iload_n C.1 C.2.1 dX9_worst_1 rfl (lv_at hl 1 rfl) ?_
  obtain ⟨q1, hc2, hf⟩ := bd_o hf
  refine r_callVv C S (As := [.int (oI v1)]) (rest := []) (ct_X9_treatyAt l G τ hc2) mi_X9_treatyAt tw_528 mv_X9_treatyAt (rvX9 S) ⟨rfl, rfl⟩ ⟨Nat.le_of_ble_eq_true rfl, Nat.le_of_ble_eq_true rfl⟩ ⟨Nat.zero_le _, Nat.zero_le _⟩ rfl hl.1 rfl (Nat.le_of_ble_eq_true rfl) dX9_worst_2 (fun H locs S => ?_)
  rcases q1 with _ | t3
  · replace hf := oT_n hf
    refine lv_astore_nN C.1 C.2.1 dX9_worst_5 rfl hl (by decide) (lv' := [(3, .null), (0, .ref (G.1 0)), (1, .int (oI v1)), (2, .int (oI v2))]) rfl (fun ls hl => ?_)
    refine lv_aload_nN C.1 C.2.1 dX9_worst_6 rfl (lv_at hl 0 rfl) ?_
    refine lv_ifnonnullN C.1 C.2.1 dX9_worst_7 ?_
    refine r_ldc C tw_185 dX9_worst_10 ?_
    cases hf
    exact hend _ _ _ _ S dX9_worst_12
  · obtain ⟨ht3, hf⟩ := oT_s hf
    refine lv_astore_n C.1 C.2.1 dX9_worst_5 rfl hl (by decide) (lv' := [(3, .ref (G.1 (21 + t3))), (0, .ref (G.1 0)), (1, .int (oI v1)), (2, .int (oI v2))]) rfl (fun ls hl => ?_)
    refine lv_aload_n C.1 C.2.1 dX9_worst_6 rfl (lv_at hl 0 rfl) ?_
    refine lv_ifnonnull C.1 C.2.1 (tgt := 13) dX9_worst_7 (by decide) ?_
    refine lv_iload_n C.1 C.2.1 dX9_worst_13 rfl (lv_at hl 3 rfl) ?_
    by_cases hs0 : w32 v2 = 0
    · replace hf := if_t hf hs0
      refine r_tabIn C (tgt := 40) (v := 0) dX9_worst_14 hs0 (by decide) (by decide) rfl (by decide) ?_
      refine lv_aload_n C.1 C.2.1 dX9_worst_40 rfl (lv_at hl 0 rfl) ?_
      refine g8_worstSums C (d := t3) S (by omega) tw_159 dX9_worst_41 ?_
      cases hf
      exact hend _ _ _ _ S dX9_worst_44
    · replace hf := if_f hf hs0
      by_cases hs1 : w32 v2 = 1
      · replace hf := if_t hf hs1
        refine r_tabIn C (tgt := 45) (v := 1) dX9_worst_14 hs1 (by decide) (by decide) rfl (by decide) ?_
        refine lv_aload_n C.1 C.2.1 dX9_worst_45 rfl (lv_at hl 0 rfl) ?_
        refine g8_worstSet C (d := t3) S (by omega) tw_157 dX9_worst_46 ?_
        obtain ⟨q4, hc5, hf⟩ := bd_o hf
        refine r_callSv C S (As := [.int (oI (σ (21 + t3) 5))]) (rest := []) (ct_J6_bitCount_0f7a4 l G τ hc5) mi_J6_bitCount_0f7a4 tw_646 ms_J6_bitCount_0f7a4 ⟨rfl, rfl⟩ ⟨Nat.le_of_ble_eq_true rfl, Nat.le_of_ble_eq_true rfl⟩ ⟨Nat.zero_le _, Nat.zero_le _⟩ rfl hl.1 rfl (Nat.le_of_ble_eq_true rfl) dX9_worst_49 (fun H locs S => ?_)
        cases hf
        exact hend _ _ _ _ S dX9_worst_52
      · replace hf := if_f hf hs1
        by_cases hs2 : w32 v2 = 2
        · replace hf := if_t hf hs2
          refine r_tabIn C (tgt := 53) (v := 2) dX9_worst_14 hs2 (by decide) (by decide) rfl (by decide) ?_
          refine lv_aload_n C.1 C.2.1 dX9_worst_53 rfl (lv_at hl 0 rfl) ?_
          refine g8_limit C (d := t3) S (by omega) tw_155 dX9_worst_54 ?_
          refine lv_aload_n C.1 C.2.1 dX9_worst_57 rfl (lv_at hl 0 rfl) ?_
          refine g8_worstSums C (d := t3) S (by omega) tw_159 dX9_worst_58 ?_
          refine r_isub C dX9_worst_61 ?_
          cases hf
          exact hend _ _ _ _ S dX9_worst_62
        · replace hf := if_f hf hs2
          refine r_tabOut C (tgt := 63) dX9_worst_14 (by omega) (by decide) ?_
          refine r_ldc C tw_185 dX9_worst_63 ?_
          cases hf
          exact hend _ _ _ _ S dX9_worst_65
set_option maxRecDepth 100000 in
set_option maxHeartbeats 4000000 in
theorem b_X9_inWorst_b53 (C : Cx p s m args c RX9 cX9_inWorst 6) {q : Int} {k22 : Int → Nat → Int → Int → Option (Int)} (hend : EndR p l e (rmk 1 21) s m args below meth c Q G true τ cX9_inWorst .ireturn [.int (oI q)] σ) (hk22 : ∀ {H : Heap} {locs : List Loc} {ls : Array Slot} (v2 : Int) (t3 : Nat) (v4 : Int) (v5 : Int), t3 < 6 → St G true τ σ s H locs → lv_has ls 6 [(2, .int (oI v2)), (3, .ref (G.1 (21 + t3))), (4, .int (oI v4)), (5, .int (oI v5))] → k22 v2 t3 v4 v5 = some q → W p l e (rmk 1 21) s m args below meth c H locs 0 0 Q (F0 m 22 ls [])) {H : Heap} {locs : List Loc} {ls : Array Slot} (v2 : Int) (t3 : Nat) (v4 : Int) (v5 : Int) (ht3 : t3 < 6) (S : St G true τ σ s H locs) (hl : lv_has ls 6 [(2, .int (oI v2)), (3, .ref (G.1 (21 + t3))), (4, .int (oI v4)), (5, .int (oI v5))]) (hf : f_X9_inWorst_b53 σ k22 v2 t3 v4 v5 = some q) : W p l e (rmk 1 21) s m args below meth c H locs 0 0 Q (F0 m 53 ls []) := by
  unfold f_X9_inWorst_b53 at hf
  refine r_iinc C dX9_inWorst_53 hl (k := 3) rfl (by decide) (lv' := [(5, .int (oI (v5 + 1))), (2, .int (oI v2)), (3, .ref (G.1 (21 + t3))), (4, .int (oI v4))]) rfl (fun ls hl => ?_)
  refine lv_goto C.1 C.2.1 (tgt := 22) dX9_inWorst_56 (by decide) ?_
  exact hk22 v2 t3 v4 (v5 + 1) (by omega) S (lv_sub hl [1, 2, 3, 0] rfl) hf
set_option maxRecDepth 100000 in
set_option maxHeartbeats 4000000 in
theorem b_X9_inWorst_b22 (C : Cx p s m args c RX9 cX9_inWorst 6) {q : Int} (hend : EndR p l e (rmk 1 21) s m args below meth c Q G true τ cX9_inWorst .ireturn [.int (oI q)] σ) : ∀ (n : Nat) {H : Heap} {locs : List Loc} {ls : Array Slot} (v2 : Int) (t3 : Nat) (v4 : Int) (v5 : Int) (ht3 : t3 < 6) (S : St G true τ σ s H locs) (hl : lv_has ls 6 [(2, .int (oI v2)), (3, .ref (G.1 (21 + t3))), (4, .int (oI v4)), (5, .int (oI v5))]) (hf : f_X9_inWorst_b22 σ n v2 t3 v4 v5 = some q), W p l e (rmk 1 21) s m args below meth c H locs 0 0 Q (F0 m 22 ls []) := by
  intro n
  induction n with
  | zero => intro H locs ls v2 t3 v4 v5 ht3 S hl hf; cases hf
  | succ n ih =>
    intro H locs ls v2 t3 v4 v5 ht3 S hl hf
    have hk22 := @ih
    rw [f_X9_inWorst_b22] at hf
    refine lv_iload C.1 C.2.1 dX9_inWorst_22 (lv_at hl 3 rfl) ?_
    refine r_bipush C dX9_inWorst_24 (by decide) ?_
    refine r_icmp_ge C rfl (show w32 24 = 24 by decide) (tgt := 59) dX9_inWorst_26 (by decide) (fun h8 => ?_) (fun h8 => ?_)
    · replace hf := if_t hf h8
      refine lv_aload_n C.1 C.2.1 dX9_inWorst_29 rfl (lv_at hl 1 rfl) ?_
      refine g8_worstSet C (d := t3) S (by omega) tw_157 dX9_inWorst_30 ?_
      refine lv_iload C.1 C.2.1 dX9_inWorst_33 (lv_at hl 3 rfl) ?_
      obtain ⟨q4, hc5, hf⟩ := bd_o hf
      refine r_callSv C S (As := [.int (oI (σ (21 + t3) 5)), .int (oI v5)]) (rest := []) (ct_X9_contains l G τ hc5) mi_X9_contains tw_661 ms_X9_contains ⟨rfl, rfl⟩ ⟨Nat.le_of_ble_eq_true rfl, Nat.le_of_ble_eq_true rfl⟩ ⟨Nat.zero_le _, Nat.zero_le _⟩ rfl hl.1 rfl (Nat.le_of_ble_eq_true rfl) dX9_inWorst_35 (fun H locs S => ?_)
      refine r_if_eq C rfl (tgt := 53) dX9_inWorst_38 (by decide) (fun h7 => ?_) (fun h7 => ?_)
      · replace hf := if_t hf h7
        exact b_X9_inWorst_b53 C hend hk22 v2 t3 v4 v5 (by omega) S (lv_sub hl [0, 1, 2, 3] rfl) hf
      · replace hf := if_f hf h7
        refine lv_iload C.1 C.2.1 dX9_inWorst_41 (lv_at hl 2 rfl) ?_
        refine lv_iload_n C.1 C.2.1 dX9_inWorst_43 rfl (lv_at hl 0 rfl) ?_
        refine r_icmp_ne C rfl rfl (tgt := 50) dX9_inWorst_44 (by decide) (fun h6 => ?_) (fun h6 => ?_)
        · replace hf := if_t hf h6
          refine lv_iload C.1 C.2.1 dX9_inWorst_47 (lv_at hl 3 rfl) ?_
          cases hf
          exact hend _ _ _ _ S dX9_inWorst_49
        · replace hf := if_f hf h6
          refine r_iinc C dX9_inWorst_50 hl (k := 2) rfl (by decide) (lv' := [(4, .int (oI (v4 + 1))), (2, .int (oI v2)), (3, .ref (G.1 (21 + t3))), (5, .int (oI v5))]) rfl (fun ls hl => ?_)
          exact b_X9_inWorst_b53 C hend hk22 v2 t3 (v4 + 1) v5 (by omega) S (lv_sub hl [1, 2, 0, 3] rfl) hf
    · replace hf := if_f hf h8
      refine r_bipush C dX9_inWorst_59 (by decide) ?_
      cases hf
      exact hend _ _ _ _ S dX9_inWorst_61
set_option maxRecDepth 100000 in
set_option maxHeartbeats 4000000 in
theorem ct_X9_inWorst (l : Launch) (G : Gd) (τ : Sg) {v1 : Int} {v2 : Int} {σ : Sg} {q : Int} (hf : f_X9_inWorst v1 v2 σ = some q) : Ctr l yX9_inWorst cX9_inWorst 6 (some .int) (rmk 1 21) G true τ [.ref (G.1 0), .int (oI v1), .int (oI v2)] σ σ (some (.int (oI q))) := by
  unfold f_X9_inWorst at hf
  refine CtrI.of (own := RX9) (plainFor_of_name (by decide)) (Nat.le_of_ble_eq_true rfl) rfl (fun p e s m below meth c Q ls C hl S hend => ?_)
  have hl : lv_has ls 6 [(0, .ref (G.1 0)), (1, .int (oI v1)), (2, .int (oI v2))] := hl
  refine lv_aload_n C.1 C.2.1 dX9_inWorst_0 rfl (lv_at hl 0 rfl) ?_
  refine lv_iload_n C.1 C.2.1 dX9_inWorst_1 rfl (lv_at hl 1 rfl) ?_
  obtain ⟨q1, hc2, hf⟩ := bd_o hf
  refine r_callVv C S (As := [.int (oI v1)]) (rest := []) (ct_X9_treatyAt l G τ hc2) mi_X9_treatyAt tw_528 mv_X9_treatyAt (rvX9 S) ⟨rfl, rfl⟩ ⟨Nat.le_of_ble_eq_true rfl, Nat.le_of_ble_eq_true rfl⟩ ⟨Nat.zero_le _, Nat.zero_le _⟩ rfl hl.1 rfl (Nat.le_of_ble_eq_true rfl) dX9_inWorst_2 (fun H locs S => ?_)
  rcases q1 with _ | t3
  · replace hf := oT_n hf
    refine lv_astore_nN C.1 C.2.1 dX9_inWorst_5 rfl hl (by decide) (lv' := [(3, .null), (0, .ref (G.1 0)), (1, .int (oI v1)), (2, .int (oI v2))]) rfl (fun ls hl => ?_)
    refine lv_aload_nN C.1 C.2.1 dX9_inWorst_6 rfl (lv_at hl 0 rfl) ?_
    refine lv_ifnullN C.1 C.2.1 (tgt := 14) dX9_inWorst_7 (by decide) ?_
    refine r_iconst C dX9_inWorst_14 ?_
    cases hf
    exact hend _ _ _ _ S dX9_inWorst_15
  · obtain ⟨ht3, hf⟩ := oT_s hf
    refine lv_astore_n C.1 C.2.1 dX9_inWorst_5 rfl hl (by decide) (lv' := [(3, .ref (G.1 (21 + t3))), (0, .ref (G.1 0)), (1, .int (oI v1)), (2, .int (oI v2))]) rfl (fun ls hl => ?_)
    refine lv_aload_n C.1 C.2.1 dX9_inWorst_6 rfl (lv_at hl 0 rfl) ?_
    refine lv_ifnull C.1 C.2.1 dX9_inWorst_7 ?_
    refine lv_iload_n C.1 C.2.1 dX9_inWorst_10 rfl (lv_at hl 3 rfl) ?_
    refine r_if_ge C rfl (tgt := 16) dX9_inWorst_11 (by decide) (fun h9 => ?_) (fun h9 => ?_)
    · replace hf := if_t hf h9
      refine r_iconst C dX9_inWorst_14 ?_
      cases hf
      exact hend _ _ _ _ S dX9_inWorst_15
    · replace hf := if_f hf h9
      refine r_iconst C dX9_inWorst_16 ?_
      refine lv_istore C.1 C.2.1 dX9_inWorst_17 hl (by decide) (lv' := [(4, .int (oI 0)), (3, .ref (G.1 (21 + t3))), (0, .ref (G.1 0)), (1, .int (oI v1)), (2, .int (oI v2))]) rfl (fun ls hl => ?_)
      refine r_iconst C dX9_inWorst_19 ?_
      refine lv_istore C.1 C.2.1 dX9_inWorst_20 hl (by decide) (lv' := [(5, .int (oI 0)), (4, .int (oI 0)), (3, .ref (G.1 (21 + t3))), (0, .ref (G.1 0)), (1, .int (oI v1)), (2, .int (oI v2))]) rfl (fun ls hl => ?_)
      exact b_X9_inWorst_b22 C hend FUEL v2 t3 0 0 (by omega) S (lv_sub hl [5, 2, 1, 0] rfl) hf
set_option maxRecDepth 100000 in
set_option maxHeartbeats 4000000 in
theorem b_X2_bounding_b38 (C : Cx p s m args c RX2 cX2_bounding 4) {d : Nat} (hd : d < 7) {q : Int} {k2 : Int → Int → Option (Int)} (hend : EndR p l e (rmk 1 21) s m args below meth c Q G true τ cX2_bounding .ireturn [.int (oI q)] σ) (hk2 : ∀ {H : Heap} {locs : List Loc} {ls : Array Slot} (v1 : Int) (v2 : Int), St G true τ σ s H locs → lv_has ls 4 [(0, .ref (G.1 (27 + d))), (1, .int (oI v1)), (2, .int (oI v2))] → k2 v1 v2 = some q → W p l e (rmk 1 21) s m args below meth c H locs 0 0 Q (F0 m 2 ls [])) {H : Heap} {locs : List Loc} {ls : Array Slot} (v1 : Int) (v2 : Int) (S : St G true τ σ s H locs) (hl : lv_has ls 4 [(0, .ref (G.1 (27 + d))), (1, .int (oI v1)), (2, .int (oI v2))]) (hf : f_X2_bounding_b38 d σ k2 v1 v2 = some q) : W p l e (rmk 1 21) s m args below meth c H locs 0 0 Q (F0 m 38 ls []) := by
  unfold f_X2_bounding_b38 at hf
  refine r_iinc C dX2_bounding_38 hl (k := 2) rfl (by decide) (lv' := [(2, .int (oI (v2 + 1))), (0, .ref (G.1 (27 + d))), (1, .int (oI v1))]) rfl (fun ls hl => ?_)
  refine lv_goto C.1 C.2.1 (tgt := 2) dX2_bounding_41 (by decide) ?_
  exact hk2 v1 (v2 + 1) S (lv_sub hl [1, 2, 0] rfl) hf
set_option maxRecDepth 100000 in
set_option maxHeartbeats 4000000 in
theorem b_X2_bounding_b31 (C : Cx p s m args c RX2 cX2_bounding 4) {d : Nat} (hd : d < 7) {q : Int} (hend : EndR p l e (rmk 1 21) s m args below meth c Q G true τ cX2_bounding .ireturn [.int (oI q)] σ) {H : Heap} {locs : List Loc} {ls : Array Slot} (v2 : Int) (S : St G true τ σ s H locs) (hl : lv_has ls 4 [(2, .int (oI v2))]) (hf : f_X2_bounding_b31 d σ v2 = some q) : W p l e (rmk 1 21) s m args below meth c H locs 0 0 Q (F0 m 31 ls []) := by
  unfold f_X2_bounding_b31 at hf
  refine lv_iload_n C.1 C.2.1 dX2_bounding_31 rfl (lv_at hl 0 rfl) ?_
  refine r_bipush C dX2_bounding_32 (by decide) ?_
  refine r_imul C dX2_bounding_34 ?_
  refine lv_iload_n C.1 C.2.1 dX2_bounding_35 rfl (lv_at hl 0 rfl) ?_
  refine r_iadd C dX2_bounding_36 ?_
  cases hf
  exact hend _ _ _ _ S dX2_bounding_37
set_option maxRecDepth 100000 in
set_option maxHeartbeats 4000000 in
theorem b_X2_bounding_b122 (C : Cx p s m args c RX2 cX2_bounding 4) {d : Nat} (hd : d < 7) {q : Int} {k46 : Int → Int → Option (Int)} {k56 : Int → Int → Int → Option (Int)} (hend : EndR p l e (rmk 1 21) s m args below meth c Q G true τ cX2_bounding .ireturn [.int (oI q)] σ) (hk46 : ∀ {H : Heap} {locs : List Loc} {ls : Array Slot} (v1 : Int) (v2 : Int), St G true τ σ s H locs → lv_has ls 4 [(0, .ref (G.1 (27 + d))), (1, .int (oI v1)), (2, .int (oI v2))] → k46 v1 v2 = some q → W p l e (rmk 1 21) s m args below meth c H locs 0 0 Q (F0 m 46 ls [])) (hk56 : ∀ {H : Heap} {locs : List Loc} {ls : Array Slot} (v1 : Int) (v2 : Int) (v3 : Int), St G true τ σ s H locs → lv_has ls 4 [(0, .ref (G.1 (27 + d))), (1, .int (oI v1)), (2, .int (oI v2)), (3, .int (oI v3))] → k56 v1 v2 v3 = some q → W p l e (rmk 1 21) s m args below meth c H locs 0 0 Q (F0 m 56 ls [])) {H : Heap} {locs : List Loc} {ls : Array Slot} (v1 : Int) (v2 : Int) (v3 : Int) (S : St G true τ σ s H locs) (hl : lv_has ls 4 [(0, .ref (G.1 (27 + d))), (1, .int (oI v1)), (2, .int (oI v2)), (3, .int (oI v3))]) (hf : f_X2_bounding_b122 d σ k46 k56 v1 v2 v3 = some q) : W p l e (rmk 1 21) s m args below meth c H locs 0 0 Q (F0 m 122 ls []) := by
  unfold f_X2_bounding_b122 at hf
  refine r_iinc C dX2_bounding_122 hl (k := 3) rfl (by decide) (lv' := [(3, .int (oI (v3 + 1))), (0, .ref (G.1 (27 + d))), (1, .int (oI v1)), (2, .int (oI v2))]) rfl (fun ls hl => ?_)
  refine lv_goto C.1 C.2.1 (tgt := 56) dX2_bounding_125 (by decide) ?_
  exact hk56 v1 v2 (v3 + 1) S (lv_sub hl [1, 2, 3, 0] rfl) hf
set_option maxRecDepth 100000 in
set_option maxHeartbeats 4000000 in
theorem b_X2_bounding_b93 (C : Cx p s m args c RX2 cX2_bounding 4) {d : Nat} (hd : d < 7) {q : Int} (hend : EndR p l e (rmk 1 21) s m args below meth c Q G true τ cX2_bounding .ireturn [.int (oI q)] σ) {H : Heap} {locs : List Loc} {ls : Array Slot} (v2 : Int) (v3 : Int) (S : St G true τ σ s H locs) (hl : lv_has ls 4 [(2, .int (oI v2)), (3, .int (oI v3))]) (hf : f_X2_bounding_b93 d σ v2 v3 = some q) : W p l e (rmk 1 21) s m args below meth c H locs 0 0 Q (F0 m 93 ls []) := by
  unfold f_X2_bounding_b93 at hf
  refine lv_iload_n C.1 C.2.1 dX2_bounding_93 rfl (lv_at hl 0 rfl) ?_
  refine r_bipush C dX2_bounding_94 (by decide) ?_
  refine r_imul C dX2_bounding_96 ?_
  refine lv_iload_n C.1 C.2.1 dX2_bounding_97 rfl (lv_at hl 1 rfl) ?_
  refine r_iadd C dX2_bounding_98 ?_
  cases hf
  exact hend _ _ _ _ S dX2_bounding_99
set_option maxRecDepth 100000 in
set_option maxHeartbeats 4000000 in
theorem b_X2_bounding_b115 (C : Cx p s m args c RX2 cX2_bounding 4) {d : Nat} (hd : d < 7) {q : Int} (hend : EndR p l e (rmk 1 21) s m args below meth c Q G true τ cX2_bounding .ireturn [.int (oI q)] σ) {H : Heap} {locs : List Loc} {ls : Array Slot} (v2 : Int) (v3 : Int) (S : St G true τ σ s H locs) (hl : lv_has ls 4 [(2, .int (oI v2)), (3, .int (oI v3))]) (hf : f_X2_bounding_b115 d σ v2 v3 = some q) : W p l e (rmk 1 21) s m args below meth c H locs 0 0 Q (F0 m 115 ls []) := by
  unfold f_X2_bounding_b115 at hf
  refine lv_iload_n C.1 C.2.1 dX2_bounding_115 rfl (lv_at hl 1 rfl) ?_
  refine r_bipush C dX2_bounding_116 (by decide) ?_
  refine r_imul C dX2_bounding_118 ?_
  refine lv_iload_n C.1 C.2.1 dX2_bounding_119 rfl (lv_at hl 0 rfl) ?_
  refine r_iadd C dX2_bounding_120 ?_
  cases hf
  exact hend _ _ _ _ S dX2_bounding_121
set_option maxRecDepth 100000 in
set_option maxHeartbeats 4000000 in
theorem b_X2_bounding_b128 (C : Cx p s m args c RX2 cX2_bounding 4) {d : Nat} (hd : d < 7) {q : Int} {k46 : Int → Int → Option (Int)} (hend : EndR p l e (rmk 1 21) s m args below meth c Q G true τ cX2_bounding .ireturn [.int (oI q)] σ) (hk46 : ∀ {H : Heap} {locs : List Loc} {ls : Array Slot} (v1 : Int) (v2 : Int), St G true τ σ s H locs → lv_has ls 4 [(0, .ref (G.1 (27 + d))), (1, .int (oI v1)), (2, .int (oI v2))] → k46 v1 v2 = some q → W p l e (rmk 1 21) s m args below meth c H locs 0 0 Q (F0 m 46 ls [])) {H : Heap} {locs : List Loc} {ls : Array Slot} (v1 : Int) (v2 : Int) (S : St G true τ σ s H locs) (hl : lv_has ls 4 [(0, .ref (G.1 (27 + d))), (1, .int (oI v1)), (2, .int (oI v2))]) (hf : f_X2_bounding_b128 d σ k46 v1 v2 = some q) : W p l e (rmk 1 21) s m args below meth c H locs 0 0 Q (F0 m 128 ls []) := by
  unfold f_X2_bounding_b128 at hf
  refine r_iinc C dX2_bounding_128 hl (k := 2) rfl (by decide) (lv' := [(2, .int (oI (v2 + 1))), (0, .ref (G.1 (27 + d))), (1, .int (oI v1))]) rfl (fun ls hl => ?_)
  refine lv_goto C.1 C.2.1 (tgt := 46) dX2_bounding_131 (by decide) ?_
  exact hk46 v1 (v2 + 1) S (lv_sub hl [1, 2, 0] rfl) hf
set_option maxRecDepth 100000 in
set_option maxHeartbeats 4000000 in
theorem b_X2_bounding_b56 (C : Cx p s m args c RX2 cX2_bounding 4) {d : Nat} (hd : d < 7) {q : Int} {k46 : Int → Int → Option (Int)} (hend : EndR p l e (rmk 1 21) s m args below meth c Q G true τ cX2_bounding .ireturn [.int (oI q)] σ) (hk46 : ∀ {H : Heap} {locs : List Loc} {ls : Array Slot} (v1 : Int) (v2 : Int), St G true τ σ s H locs → lv_has ls 4 [(0, .ref (G.1 (27 + d))), (1, .int (oI v1)), (2, .int (oI v2))] → k46 v1 v2 = some q → W p l e (rmk 1 21) s m args below meth c H locs 0 0 Q (F0 m 46 ls [])) : ∀ (n : Nat) {H : Heap} {locs : List Loc} {ls : Array Slot} (v1 : Int) (v2 : Int) (v3 : Int) (S : St G true τ σ s H locs) (hl : lv_has ls 4 [(0, .ref (G.1 (27 + d))), (1, .int (oI v1)), (2, .int (oI v2)), (3, .int (oI v3))]) (hf : f_X2_bounding_b56 d σ k46 n v1 v2 v3 = some q), W p l e (rmk 1 21) s m args below meth c H locs 0 0 Q (F0 m 56 ls []) := by
  intro n
  induction n with
  | zero => intro H locs ls v1 v2 v3 S hl hf; cases hf
  | succ n ih =>
    intro H locs ls v1 v2 v3 S hl hf
    have hk56 := @ih
    rw [f_X2_bounding_b56] at hf
    refine lv_iload_n C.1 C.2.1 dX2_bounding_56 rfl (lv_at hl 3 rfl) ?_
    refine r_bipush C dX2_bounding_57 (by decide) ?_
    refine r_icmp_ge C rfl (show w32 24 = 24 by decide) (tgt := 128) dX2_bounding_59 (by decide) (fun h16 => ?_) (fun h16 => ?_)
    · replace hf := if_t hf h16
      refine lv_iload_n C.1 C.2.1 dX2_bounding_62 rfl (lv_at hl 1 rfl) ?_
      refine lv_iload_n C.1 C.2.1 dX2_bounding_63 rfl (lv_at hl 2 rfl) ?_
      obtain ⟨q6, hc7, hf⟩ := bd_o hf
      refine r_callSNv C S (As := [.int (oI v1), .int (oI v2)]) (rest := []) (ct_X9_contains l G τ hc7) mi_X9_contains (nw_485 S.2.2.2) ms_X9_contains ⟨rfl, rfl⟩ ⟨Nat.le_of_ble_eq_true rfl, Nat.le_of_ble_eq_true rfl⟩ ⟨Nat.zero_le _, Nat.zero_le _⟩ rfl hl.1 rfl (Nat.le_of_ble_eq_true rfl) dX2_bounding_64 (fun H locs S => ?_)
      refine r_if_eq C rfl (tgt := 122) dX2_bounding_67 (by decide) (fun h15 => ?_) (fun h15 => ?_)
      · replace hf := if_t hf h15
        exact b_X2_bounding_b122 C hd hend hk46 hk56 v1 v2 v3 S (lv_sub hl [0, 1, 2, 3] rfl) hf
      · replace hf := if_f hf h15
        refine lv_iload_n C.1 C.2.1 dX2_bounding_70 rfl (lv_at hl 1 rfl) ?_
        refine lv_iload_n C.1 C.2.1 dX2_bounding_71 rfl (lv_at hl 3 rfl) ?_
        obtain ⟨q8, hc9, hf⟩ := bd_o hf
        refine r_callSNv C S (As := [.int (oI v1), .int (oI v3)]) (rest := []) (ct_X9_contains l G τ hc9) mi_X9_contains (nw_485 S.2.2.2) ms_X9_contains ⟨rfl, rfl⟩ ⟨Nat.le_of_ble_eq_true rfl, Nat.le_of_ble_eq_true rfl⟩ ⟨Nat.zero_le _, Nat.zero_le _⟩ rfl hl.1 rfl (Nat.le_of_ble_eq_true rfl) dX2_bounding_72 (fun H locs S => ?_)
        refine r_if_eq C rfl (tgt := 122) dX2_bounding_75 (by decide) (fun h14 => ?_) (fun h14 => ?_)
        · replace hf := if_t hf h14
          exact b_X2_bounding_b122 C hd hend hk46 hk56 v1 v2 v3 S (lv_sub hl [0, 1, 2, 3] rfl) hf
        · replace hf := if_f hf h14
          refine lv_aload_n C.1 C.2.1 dX2_bounding_78 rfl (lv_at hl 0 rfl) ?_
          refine g2_sets C (d := d) S (by omega) tw_127 dX2_bounding_79 ?_
          refine lv_iload_n C.1 C.2.1 dX2_bounding_82 rfl (lv_at hl 2 rfl) ?_
          refine r_bipush C dX2_bounding_83 (by decide) ?_
          refine r_imul C dX2_bounding_85 ?_
          refine lv_iload_n C.1 C.2.1 dX2_bounding_86 rfl (lv_at hl 3 rfl) ?_
          refine r_iadd C dX2_bounding_87 ?_
          obtain ⟨hi10, hf⟩ := ck_o hf
          refine a_iald C S (ar_34 (d := d) (by omega)) hi10 dX2_bounding_88 ?_
          refine lv_iload_n C.1 C.2.1 dX2_bounding_89 rfl (lv_at hl 1 rfl) ?_
          refine r_icmp_ne C rfl rfl (tgt := 100) dX2_bounding_90 (by decide) (fun h13 => ?_) (fun h13 => ?_)
          · replace hf := if_t hf h13
            exact b_X2_bounding_b93 C hd hend v2 v3 S (lv_sub hl [2, 3] rfl) hf
          · replace hf := if_f hf h13
            refine lv_aload_n C.1 C.2.1 dX2_bounding_100 rfl (lv_at hl 0 rfl) ?_
            refine g2_sets C (d := d) S (by omega) tw_127 dX2_bounding_101 ?_
            refine lv_iload_n C.1 C.2.1 dX2_bounding_104 rfl (lv_at hl 3 rfl) ?_
            refine r_bipush C dX2_bounding_105 (by decide) ?_
            refine r_imul C dX2_bounding_107 ?_
            refine lv_iload_n C.1 C.2.1 dX2_bounding_108 rfl (lv_at hl 2 rfl) ?_
            refine r_iadd C dX2_bounding_109 ?_
            obtain ⟨hi11, hf⟩ := ck_o hf
            refine a_iald C S (ar_34 (d := d) (by omega)) hi11 dX2_bounding_110 ?_
            refine lv_iload_n C.1 C.2.1 dX2_bounding_111 rfl (lv_at hl 1 rfl) ?_
            refine r_icmp_ne C rfl rfl (tgt := 122) dX2_bounding_112 (by decide) (fun h12 => ?_) (fun h12 => ?_)
            · replace hf := if_t hf h12
              exact b_X2_bounding_b115 C hd hend v2 v3 S (lv_sub hl [2, 3] rfl) hf
            · replace hf := if_f hf h12
              exact b_X2_bounding_b122 C hd hend hk46 hk56 v1 v2 v3 S (lv_sub hl [0, 1, 2, 3] rfl) hf
    · replace hf := if_f hf h16
      exact b_X2_bounding_b128 C hd hend hk46 v1 v2 S (lv_sub hl [0, 1, 2] rfl) hf
set_option maxRecDepth 100000 in
set_option maxHeartbeats 4000000 in
theorem b_X2_bounding_b46 (C : Cx p s m args c RX2 cX2_bounding 4) {d : Nat} (hd : d < 7) {q : Int} (hend : EndR p l e (rmk 1 21) s m args below meth c Q G true τ cX2_bounding .ireturn [.int (oI q)] σ) : ∀ (n : Nat) {H : Heap} {locs : List Loc} {ls : Array Slot} (v1 : Int) (v2 : Int) (S : St G true τ σ s H locs) (hl : lv_has ls 4 [(0, .ref (G.1 (27 + d))), (1, .int (oI v1)), (2, .int (oI v2))]) (hf : f_X2_bounding_b46 d σ n v1 v2 = some q), W p l e (rmk 1 21) s m args below meth c H locs 0 0 Q (F0 m 46 ls []) := by
  intro n
  induction n with
  | zero => intro H locs ls v1 v2 S hl hf; cases hf
  | succ n ih =>
    intro H locs ls v1 v2 S hl hf
    have hk46 := @ih
    rw [f_X2_bounding_b46] at hf
    refine lv_iload_n C.1 C.2.1 dX2_bounding_46 rfl (lv_at hl 2 rfl) ?_
    refine r_bipush C dX2_bounding_47 (by decide) ?_
    refine r_icmp_ge C rfl (show w32 24 = 24 by decide) (tgt := 134) dX2_bounding_49 (by decide) (fun h17 => ?_) (fun h17 => ?_)
    · replace hf := if_t hf h17
      refine lv_iload_n C.1 C.2.1 dX2_bounding_52 rfl (lv_at hl 2 rfl) ?_
      refine r_iconst C dX2_bounding_53 ?_
      refine r_iadd C dX2_bounding_54 ?_
      refine lv_istore_n C.1 C.2.1 dX2_bounding_55 rfl hl (by decide) (lv' := [(3, .int (oI (v2 + 1))), (0, .ref (G.1 (27 + d))), (1, .int (oI v1)), (2, .int (oI v2))]) rfl (fun ls hl => ?_)
      exact b_X2_bounding_b56 C hd hend hk46 FUEL v1 v2 (v2 + 1) S (lv_sub hl [1, 2, 3, 0] rfl) hf
    · replace hf := if_f hf h17
      refine r_iconst C dX2_bounding_134 ?_
      cases hf
      exact hend _ _ _ _ S dX2_bounding_135
set_option maxRecDepth 100000 in
set_option maxHeartbeats 4000000 in
theorem b_X2_bounding_b44 (C : Cx p s m args c RX2 cX2_bounding 4) {d : Nat} (hd : d < 7) {q : Int} (hend : EndR p l e (rmk 1 21) s m args below meth c Q G true τ cX2_bounding .ireturn [.int (oI q)] σ) {H : Heap} {locs : List Loc} {ls : Array Slot} (v1 : Int) (S : St G true τ σ s H locs) (hl : lv_has ls 4 [(0, .ref (G.1 (27 + d))), (1, .int (oI v1))]) (hf : f_X2_bounding_b44 d σ v1 = some q) : W p l e (rmk 1 21) s m args below meth c H locs 0 0 Q (F0 m 44 ls []) := by
  unfold f_X2_bounding_b44 at hf
  refine r_iconst C dX2_bounding_44 ?_
  refine lv_istore_n C.1 C.2.1 dX2_bounding_45 rfl hl (by decide) (lv' := [(2, .int (oI 0)), (0, .ref (G.1 (27 + d))), (1, .int (oI v1))]) rfl (fun ls hl => ?_)
  exact b_X2_bounding_b46 C hd hend FUEL v1 0 S (lv_sub hl [1, 2, 0] rfl) hf
set_option maxRecDepth 100000 in
set_option maxHeartbeats 4000000 in
theorem b_X2_bounding_b2 (C : Cx p s m args c RX2 cX2_bounding 4) {d : Nat} (hd : d < 7) {q : Int} (hend : EndR p l e (rmk 1 21) s m args below meth c Q G true τ cX2_bounding .ireturn [.int (oI q)] σ) : ∀ (n : Nat) {H : Heap} {locs : List Loc} {ls : Array Slot} (v1 : Int) (v2 : Int) (S : St G true τ σ s H locs) (hl : lv_has ls 4 [(0, .ref (G.1 (27 + d))), (1, .int (oI v1)), (2, .int (oI v2))]) (hf : f_X2_bounding_b2 d σ n v1 v2 = some q), W p l e (rmk 1 21) s m args below meth c H locs 0 0 Q (F0 m 2 ls []) := by
  intro n
  induction n with
  | zero => intro H locs ls v1 v2 S hl hf; cases hf
  | succ n ih =>
    intro H locs ls v1 v2 S hl hf
    have hk2 := @ih
    rw [f_X2_bounding_b2] at hf
    refine lv_iload_n C.1 C.2.1 dX2_bounding_2 rfl (lv_at hl 2 rfl) ?_
    refine r_bipush C dX2_bounding_3 (by decide) ?_
    refine r_icmp_ge C rfl (show w32 24 = 24 by decide) (tgt := 44) dX2_bounding_5 (by decide) (fun h18 => ?_) (fun h18 => ?_)
    · replace hf := if_t hf h18
      refine lv_iload_n C.1 C.2.1 dX2_bounding_8 rfl (lv_at hl 1 rfl) ?_
      refine lv_iload_n C.1 C.2.1 dX2_bounding_9 rfl (lv_at hl 2 rfl) ?_
      obtain ⟨q1, hc2, hf⟩ := bd_o hf
      refine r_callSNv C S (As := [.int (oI v1), .int (oI v2)]) (rest := []) (ct_X9_contains l G τ hc2) mi_X9_contains (nw_485 S.2.2.2) ms_X9_contains ⟨rfl, rfl⟩ ⟨Nat.le_of_ble_eq_true rfl, Nat.le_of_ble_eq_true rfl⟩ ⟨Nat.zero_le _, Nat.zero_le _⟩ rfl hl.1 rfl (Nat.le_of_ble_eq_true rfl) dX2_bounding_10 (fun H locs S => ?_)
      refine r_if_eq C rfl (tgt := 38) dX2_bounding_13 (by decide) (fun h5 => ?_) (fun h5 => ?_)
      · replace hf := if_t hf h5
        exact b_X2_bounding_b38 C hd hend hk2 v1 v2 S (lv_sub hl [0, 1, 2] rfl) hf
      · replace hf := if_f hf h5
        refine lv_aload_n C.1 C.2.1 dX2_bounding_16 rfl (lv_at hl 0 rfl) ?_
        refine g2_sets C (d := d) S (by omega) tw_127 dX2_bounding_17 ?_
        refine lv_iload_n C.1 C.2.1 dX2_bounding_20 rfl (lv_at hl 2 rfl) ?_
        refine r_bipush C dX2_bounding_21 (by decide) ?_
        refine r_imul C dX2_bounding_23 ?_
        refine lv_iload_n C.1 C.2.1 dX2_bounding_24 rfl (lv_at hl 2 rfl) ?_
        refine r_iadd C dX2_bounding_25 ?_
        obtain ⟨hi3, hf⟩ := ck_o hf
        refine a_iald C S (ar_34 (d := d) (by omega)) hi3 dX2_bounding_26 ?_
        refine lv_iload_n C.1 C.2.1 dX2_bounding_27 rfl (lv_at hl 1 rfl) ?_
        refine r_icmp_ne C rfl rfl (tgt := 38) dX2_bounding_28 (by decide) (fun h4 => ?_) (fun h4 => ?_)
        · replace hf := if_t hf h4
          exact b_X2_bounding_b31 C hd hend v2 S (lv_sub hl [2] rfl) hf
        · replace hf := if_f hf h4
          exact b_X2_bounding_b38 C hd hend hk2 v1 v2 S (lv_sub hl [0, 1, 2] rfl) hf
    · replace hf := if_f hf h18
      exact b_X2_bounding_b44 C hd hend v1 S (lv_sub hl [0, 1] rfl) hf
set_option maxRecDepth 100000 in
set_option maxHeartbeats 4000000 in
theorem ct_X2_bounding (l : Launch) (G : Gd) (τ : Sg) {d : Nat} {v1 : Int} {σ : Sg} {q : Int} (hf : f_X2_bounding d v1 σ = some q) : Ctr l yX2_bounding cX2_bounding 4 (some .int) (rmk 1 21) G true τ [.ref (G.1 (27 + d)), .int (oI v1)] σ σ (some (.int (oI q))) := by
  unfold f_X2_bounding at hf
  obtain ⟨hd, hf⟩ := ck_o hf
  refine CtrI.of (own := RX2) (plainFor_of_name (by decide)) (Nat.le_of_ble_eq_true rfl) rfl (fun p e s m below meth c Q ls C hl S hend => ?_)
  have hl : lv_has ls 4 [(0, .ref (G.1 (27 + d))), (1, .int (oI v1))] := hl
  refine r_iconst C dX2_bounding_0 ?_
  refine lv_istore_n C.1 C.2.1 dX2_bounding_1 rfl hl (by decide) (lv' := [(2, .int (oI 0)), (0, .ref (G.1 (27 + d))), (1, .int (oI v1))]) rfl (fun ls hl => ?_)
  exact b_X2_bounding_b2 C hd hend FUEL v1 0 S (lv_sub hl [1, 2, 0] rfl) hf
set_option maxRecDepth 100000 in
set_option maxHeartbeats 4000000 in
theorem ct_X9_bound (l : Launch) (G : Gd) (τ : Sg) {v1 : Int} {v2 : Int} {σ : Sg} {q : Int} (hf : f_X9_bound v1 v2 σ = some q) : Ctr l yX9_bound cX9_bound 7 (some .int) (rmk 2 44) G true τ [.ref (G.1 0), .int (oI v1), .int (oI v2)] σ σ (some (.int (oI q))) := by
  unfold f_X9_bound at hf
  refine CtrI.of (own := RX9) (plainFor_of_name (by decide)) (Nat.le_of_ble_eq_true rfl) rfl (fun p e s m below meth c Q ls C hl S hend => ?_)
  have hl : lv_has ls 7 [(0, .ref (G.1 0)), (1, .int (oI v1)), (2, .int (oI v2))] := hl
  refine lv_aload_n C.1 C.2.1 dX9_bound_0 rfl (lv_at hl 0 rfl) ?_
  refine lv_iload_n C.1 C.2.1 dX9_bound_1 rfl (lv_at hl 1 rfl) ?_
  obtain ⟨q1, hc2, hf⟩ := bd_o hf
  refine r_callVv C S (As := [.int (oI v1)]) (rest := []) (ct_X9_treatyAt l G τ hc2) mi_X9_treatyAt tw_528 mv_X9_treatyAt (rvX9 S) ⟨rfl, rfl⟩ ⟨Nat.le_of_ble_eq_true rfl, Nat.le_of_ble_eq_true rfl⟩ ⟨Nat.zero_le _, Nat.zero_le _⟩ rfl hl.1 rfl (Nat.le_of_ble_eq_true rfl) dX9_bound_2 (fun H locs S => ?_)
  rcases q1 with _ | t3
  · replace hf := oT_n hf
    refine lv_astore_nN C.1 C.2.1 dX9_bound_5 rfl hl (by decide) (lv' := [(3, .null), (0, .ref (G.1 0)), (1, .int (oI v1)), (2, .int (oI v2))]) rfl (fun ls hl => ?_)
    refine lv_aload_nN C.1 C.2.1 dX9_bound_6 rfl (lv_at hl 0 rfl) ?_
    refine lv_ifnullN C.1 C.2.1 (tgt := 19) dX9_bound_7 (by decide) ?_
    refine r_iconst C dX9_bound_19 ?_
    cases hf
    exact hend _ _ _ _ S dX9_bound_20
  · obtain ⟨ht3, hf⟩ := oT_s hf
    refine lv_astore_n C.1 C.2.1 dX9_bound_5 rfl hl (by decide) (lv' := [(3, .ref (G.1 (21 + t3))), (0, .ref (G.1 0)), (1, .int (oI v1)), (2, .int (oI v2))]) rfl (fun ls hl => ?_)
    refine lv_aload_n C.1 C.2.1 dX9_bound_6 rfl (lv_at hl 0 rfl) ?_
    refine lv_ifnull C.1 C.2.1 dX9_bound_7 ?_
    refine lv_iload_n C.1 C.2.1 dX9_bound_10 rfl (lv_at hl 3 rfl) ?_
    refine r_if_lt C rfl (tgt := 19) dX9_bound_11 (by decide) (fun h14 => ?_) (fun h14 => ?_)
    · replace hf := if_t hf h14
      refine r_iconst C dX9_bound_19 ?_
      cases hf
      exact hend _ _ _ _ S dX9_bound_20
    · replace hf := if_f hf h14
      refine lv_iload_n C.1 C.2.1 dX9_bound_14 rfl (lv_at hl 3 rfl) ?_
      refine r_iconst C dX9_bound_15 ?_
      refine r_icmp_le C rfl (show w32 2 = 2 by decide) (tgt := 21) dX9_bound_16 (by decide) (fun h13 => ?_) (fun h13 => ?_)
      · replace hf := if_t hf h13
        refine lv_aload_n C.1 C.2.1 dX9_bound_21 rfl (lv_at hl 0 rfl) ?_
        refine g8_worstSet C (d := t3) S (by omega) tw_157 dX9_bound_22 ?_
        refine r_if_ne C rfl (tgt := 31) dX9_bound_25 (by decide) (fun h12 => ?_) (fun h12 => ?_)
        · replace hf := if_t hf h12
          refine r_bipush C dX9_bound_28 (by decide) ?_
          cases hf
          exact hend _ _ _ _ S dX9_bound_30
        · replace hf := if_f hf h12
          refine lv_aload_n C.1 C.2.1 dX9_bound_31 rfl (lv_at hl 0 rfl) ?_
          refine g8_discs C (d := t3) S (by omega) tw_149 dX9_bound_32 ?_
          refine lv_aload_n C.1 C.2.1 dX9_bound_35 rfl (lv_at hl 0 rfl) ?_
          refine g8_worstSet C (d := t3) S (by omega) tw_157 dX9_bound_36 ?_
          obtain ⟨q4, hc5, hf⟩ := bd_o hf
          refine r_callVv C S (As := [.int (oI (σ (21 + t3) 5))]) (rest := []) (ct_X2_bounding l G τ hc5) mi_X2_bounding tw_666 mv_X2_bounding (rvX2 S (d := t3) (by omega)) ⟨rfl, rfl⟩ ⟨Nat.le_of_ble_eq_true rfl, Nat.le_of_ble_eq_true rfl⟩ ⟨Nat.zero_le _, Nat.zero_le _⟩ rfl hl.1 rfl (Nat.le_of_ble_eq_true rfl) dX9_bound_39 (fun H locs S => ?_)
          refine lv_istore C.1 C.2.1 dX9_bound_42 hl (by decide) (lv' := [(4, .int (oI q4)), (3, .ref (G.1 (21 + t3))), (0, .ref (G.1 0)), (1, .int (oI v1)), (2, .int (oI v2))]) rfl (fun ls hl => ?_)
          refine lv_iload C.1 C.2.1 dX9_bound_44 (lv_at hl 0 rfl) ?_
          refine r_bipush C dX9_bound_46 (by decide) ?_
          obtain ⟨hz6, hf⟩ := ck_o hf
          refine r_idiv C hz6 dX9_bound_48 ?_
          refine lv_istore C.1 C.2.1 dX9_bound_49 hl (by decide) (lv' := [(5, .int (oI ((w32 q4).tdiv (w32 24)))), (4, .int (oI q4)), (3, .ref (G.1 (21 + t3))), (0, .ref (G.1 0)), (1, .int (oI v1)), (2, .int (oI v2))]) rfl (fun ls hl => ?_)
          refine lv_iload C.1 C.2.1 dX9_bound_51 (lv_at hl 1 rfl) ?_
          refine r_bipush C dX9_bound_53 (by decide) ?_
          obtain ⟨hz7, hf⟩ := ck_o hf
          refine r_irem C hz7 dX9_bound_55 ?_
          refine lv_istore C.1 C.2.1 dX9_bound_56 hl (by decide) (lv' := [(6, .int (oI ((w32 q4).tmod (w32 24)))), (5, .int (oI ((w32 q4).tdiv (w32 24)))), (4, .int (oI q4)), (3, .ref (G.1 (21 + t3))), (0, .ref (G.1 0)), (1, .int (oI v1)), (2, .int (oI v2))]) rfl (fun ls hl => ?_)
          refine lv_iload_n C.1 C.2.1 dX9_bound_58 rfl (lv_at hl 6 rfl) ?_
          refine r_if_ne C rfl (tgt := 70) dX9_bound_59 (by decide) (fun h11 => ?_) (fun h11 => ?_)
          · replace hf := if_t hf h11
            refine lv_iload C.1 C.2.1 dX9_bound_62 (lv_at hl 1 rfl) ?_
            refine lv_iload C.1 C.2.1 dX9_bound_64 (lv_at hl 0 rfl) ?_
            refine r_mmin C (hl.1) tw_670 (by decide) (Nat.le_of_ble_eq_true rfl) dX9_bound_66 ?_
            cases hf
            exact hend _ _ _ _ S dX9_bound_69
          · replace hf := if_f hf h11
            refine lv_iload_n C.1 C.2.1 dX9_bound_70 rfl (lv_at hl 6 rfl) ?_
            refine r_iconst C dX9_bound_71 ?_
            refine r_icmp_ne C rfl (show w32 1 = 1 by decide) (tgt := 95) dX9_bound_72 (by decide) (fun h10 => ?_) (fun h10 => ?_)
            · replace hf := if_t hf h10
              refine lv_iload C.1 C.2.1 dX9_bound_75 (lv_at hl 1 rfl) ?_
              refine lv_iload C.1 C.2.1 dX9_bound_77 (lv_at hl 0 rfl) ?_
              refine r_icmp_ne C rfl rfl (tgt := 87) dX9_bound_79 (by decide) (fun h8 => ?_) (fun h8 => ?_)
              · replace hf := if_t hf h8
                refine r_bipush C dX9_bound_82 (by decide) ?_
                refine lv_goto C.1 C.2.1 (tgt := 94) dX9_bound_84 (by decide) ?_
                cases hf
                exact hend _ _ _ _ S dX9_bound_94
              · replace hf := if_f hf h8
                refine lv_iload C.1 C.2.1 dX9_bound_87 (lv_at hl 1 rfl) ?_
                refine lv_iload C.1 C.2.1 dX9_bound_89 (lv_at hl 0 rfl) ?_
                refine r_mmax C (hl.1) tw_671 (by decide) (Nat.le_of_ble_eq_true rfl) dX9_bound_91 ?_
                cases hf
                exact hend _ _ _ _ S dX9_bound_94
            · replace hf := if_f hf h10
              refine lv_iload C.1 C.2.1 dX9_bound_95 (lv_at hl 1 rfl) ?_
              refine lv_iload C.1 C.2.1 dX9_bound_97 (lv_at hl 0 rfl) ?_
              refine r_icmp_le C rfl rfl (tgt := 106) dX9_bound_99 (by decide) (fun h9 => ?_) (fun h9 => ?_)
              · replace hf := if_t hf h9
                refine r_iconst C dX9_bound_106 ?_
                cases hf
                exact hend _ _ _ _ S dX9_bound_107
              · replace hf := if_f hf h9
                refine r_iconst C dX9_bound_102 ?_
                refine lv_goto C.1 C.2.1 (tgt := 107) dX9_bound_103 (by decide) ?_
                cases hf
                exact hend _ _ _ _ S dX9_bound_107
      · replace hf := if_f hf h13
        refine r_iconst C dX9_bound_19 ?_
        cases hf
        exact hend _ _ _ _ S dX9_bound_20
set_option maxRecDepth 100000 in
set_option maxHeartbeats 4000000 in
theorem ct_X0_between (l : Launch) (G : Gd) (τ : Sg) {v1 : Int} {v2 : Int} {σ : Sg} {q : Int} (hf : f_X0_between v1 v2 σ = some q) : Ctr l yX0_between cX0_between 3 (some .int) (rmk 3 66) G true τ [.ref (G.1 6), .int (oI v1), .int (oI v2)] σ σ (some (.int (oI q))) := by
  unfold f_X0_between at hf
  refine CtrI.of (own := RX0) (plainFor_of_name (by decide)) (Nat.le_of_ble_eq_true rfl) rfl (fun p e s m below meth c Q ls C hl S hend => ?_)
  have hl : lv_has ls 3 [(0, .ref (G.1 6)), (1, .int (oI v1)), (2, .int (oI v2))] := hl
  refine lv_aload_n C.1 C.2.1 dX0_between_0 rfl (lv_at hl 0 rfl) ?_
  refine lv_iload_n C.1 C.2.1 dX0_between_1 rfl (lv_at hl 1 rfl) ?_
  refine lv_aload_n C.1 C.2.1 dX0_between_2 rfl (lv_at hl 0 rfl) ?_
  refine lv_iload_n C.1 C.2.1 dX0_between_3 rfl (lv_at hl 2 rfl) ?_
  obtain ⟨q1, hc2, hf⟩ := bd_o hf
  refine r_callVv C S (As := [.int (oI v2)]) (rest := [.int (oI v1), .ref (G.1 6)]) (ct_X0_xOf l G τ hc2) mi_X0_xOf tw_593 mv_X0_xOf (rvX0 S) ⟨rfl, rfl⟩ ⟨Nat.le_of_ble_eq_true rfl, Nat.le_of_ble_eq_true rfl⟩ ⟨Nat.zero_le _, Nat.zero_le _⟩ rfl hl.1 rfl (Nat.le_of_ble_eq_true rfl) dX0_between_4 (fun H locs S => ?_)
  refine lv_aload_n C.1 C.2.1 dX0_between_7 rfl (lv_at hl 0 rfl) ?_
  refine lv_iload_n C.1 C.2.1 dX0_between_8 rfl (lv_at hl 2 rfl) ?_
  obtain ⟨q3, hc4, hf⟩ := bd_o hf
  refine r_callVv C S (As := [.int (oI v2)]) (rest := [.int (oI q1), .int (oI v1), .ref (G.1 6)]) (ct_X0_yOf l G τ hc4) mi_X0_yOf tw_597 mv_X0_yOf (rvX0 S) ⟨rfl, rfl⟩ ⟨Nat.le_of_ble_eq_true rfl, Nat.le_of_ble_eq_true rfl⟩ ⟨Nat.zero_le _, Nat.zero_le _⟩ rfl hl.1 rfl (Nat.le_of_ble_eq_true rfl) dX0_between_9 (fun H locs S => ?_)
  obtain ⟨q5, hc6, hf⟩ := bd_o hf
  refine r_callVv C S (As := [.int (oI v1), .int (oI q1), .int (oI q3)]) (rest := []) (ct_X0_apart l G τ hc6) mi_X0_apart tw_682 mv_X0_apart (rvX0 S) ⟨rfl, rfl⟩ ⟨Nat.le_of_ble_eq_true rfl, Nat.le_of_ble_eq_true rfl⟩ ⟨Nat.zero_le _, Nat.zero_le _⟩ rfl hl.1 rfl (Nat.le_of_ble_eq_true rfl) dX0_between_12 (fun H locs S => ?_)
  cases hf
  exact hend _ _ _ _ S dX0_between_15
set_option maxRecDepth 100000 in
set_option maxHeartbeats 4000000 in
theorem b_X9_spread_b87 (C : Cx p s m args c RX9 cX9_spread 6) {q : Int} {k27 : Nat → Int → Int → Option (Int)} {k40 : Nat → Int → Int → Int → Option (Int)} (hend : EndR p l e (rmk 4 88) s m args below meth c Q G true τ cX9_spread .ireturn [.int (oI q)] σ) (hk27 : ∀ {H : Heap} {locs : List Loc} {ls : Array Slot} (t2 : Nat) (v3 : Int) (v4 : Int), t2 < 6 → St G true τ σ s H locs → lv_has ls 6 [(0, .ref (G.1 0)), (2, .ref (G.1 (21 + t2))), (3, .int (oI v3)), (4, .int (oI v4))] → k27 t2 v3 v4 = some q → W p l e (rmk 4 88) s m args below meth c H locs 0 0 Q (F0 m 27 ls [])) (hk40 : ∀ {H : Heap} {locs : List Loc} {ls : Array Slot} (t2 : Nat) (v3 : Int) (v4 : Int) (v5 : Int), t2 < 6 → St G true τ σ s H locs → lv_has ls 6 [(0, .ref (G.1 0)), (2, .ref (G.1 (21 + t2))), (3, .int (oI v3)), (4, .int (oI v4)), (5, .int (oI v5))] → k40 t2 v3 v4 v5 = some q → W p l e (rmk 4 88) s m args below meth c H locs 0 0 Q (F0 m 40 ls [])) {H : Heap} {locs : List Loc} {ls : Array Slot} (t2 : Nat) (v3 : Int) (v4 : Int) (v5 : Int) (ht2 : t2 < 6) (S : St G true τ σ s H locs) (hl : lv_has ls 6 [(0, .ref (G.1 0)), (2, .ref (G.1 (21 + t2))), (3, .int (oI v3)), (4, .int (oI v4)), (5, .int (oI v5))]) (hf : f_X9_spread_b87 σ k27 k40 t2 v3 v4 v5 = some q) : W p l e (rmk 4 88) s m args below meth c H locs 0 0 Q (F0 m 87 ls []) := by
  unfold f_X9_spread_b87 at hf
  refine r_iinc C dX9_spread_87 hl (k := 4) rfl (by decide) (lv' := [(5, .int (oI (v5 + 1))), (0, .ref (G.1 0)), (2, .ref (G.1 (21 + t2))), (3, .int (oI v3)), (4, .int (oI v4))]) rfl (fun ls hl => ?_)
  refine lv_goto C.1 C.2.1 (tgt := 40) dX9_spread_90 (by decide) ?_
  exact hk40 t2 v3 v4 (v5 + 1) (by omega) S (lv_sub hl [1, 2, 3, 4, 0] rfl) hf
set_option maxRecDepth 100000 in
set_option maxHeartbeats 4000000 in
theorem b_X9_spread_b93 (C : Cx p s m args c RX9 cX9_spread 6) {q : Int} {k27 : Nat → Int → Int → Option (Int)} (hend : EndR p l e (rmk 4 88) s m args below meth c Q G true τ cX9_spread .ireturn [.int (oI q)] σ) (hk27 : ∀ {H : Heap} {locs : List Loc} {ls : Array Slot} (t2 : Nat) (v3 : Int) (v4 : Int), t2 < 6 → St G true τ σ s H locs → lv_has ls 6 [(0, .ref (G.1 0)), (2, .ref (G.1 (21 + t2))), (3, .int (oI v3)), (4, .int (oI v4))] → k27 t2 v3 v4 = some q → W p l e (rmk 4 88) s m args below meth c H locs 0 0 Q (F0 m 27 ls [])) {H : Heap} {locs : List Loc} {ls : Array Slot} (t2 : Nat) (v3 : Int) (v4 : Int) (ht2 : t2 < 6) (S : St G true τ σ s H locs) (hl : lv_has ls 6 [(0, .ref (G.1 0)), (2, .ref (G.1 (21 + t2))), (3, .int (oI v3)), (4, .int (oI v4))]) (hf : f_X9_spread_b93 σ k27 t2 v3 v4 = some q) : W p l e (rmk 4 88) s m args below meth c H locs 0 0 Q (F0 m 93 ls []) := by
  unfold f_X9_spread_b93 at hf
  refine r_iinc C dX9_spread_93 hl (k := 3) rfl (by decide) (lv' := [(4, .int (oI (v4 + 1))), (0, .ref (G.1 0)), (2, .ref (G.1 (21 + t2))), (3, .int (oI v3))]) rfl (fun ls hl => ?_)
  refine lv_goto C.1 C.2.1 (tgt := 27) dX9_spread_96 (by decide) ?_
  exact hk27 t2 v3 (v4 + 1) (by omega) S (lv_sub hl [1, 2, 3, 0] rfl) hf
set_option maxRecDepth 100000 in
set_option maxHeartbeats 4000000 in
theorem b_X9_spread_b40 (C : Cx p s m args c RX9 cX9_spread 6) {q : Int} {k27 : Nat → Int → Int → Option (Int)} (hend : EndR p l e (rmk 4 88) s m args below meth c Q G true τ cX9_spread .ireturn [.int (oI q)] σ) (hk27 : ∀ {H : Heap} {locs : List Loc} {ls : Array Slot} (t2 : Nat) (v3 : Int) (v4 : Int), t2 < 6 → St G true τ σ s H locs → lv_has ls 6 [(0, .ref (G.1 0)), (2, .ref (G.1 (21 + t2))), (3, .int (oI v3)), (4, .int (oI v4))] → k27 t2 v3 v4 = some q → W p l e (rmk 4 88) s m args below meth c H locs 0 0 Q (F0 m 27 ls [])) : ∀ (n : Nat) {H : Heap} {locs : List Loc} {ls : Array Slot} (t2 : Nat) (v3 : Int) (v4 : Int) (v5 : Int) (ht2 : t2 < 6) (S : St G true τ σ s H locs) (hl : lv_has ls 6 [(0, .ref (G.1 0)), (2, .ref (G.1 (21 + t2))), (3, .int (oI v3)), (4, .int (oI v4)), (5, .int (oI v5))]) (hf : f_X9_spread_b40 σ k27 n t2 v3 v4 v5 = some q), W p l e (rmk 4 88) s m args below meth c H locs 0 0 Q (F0 m 40 ls []) := by
  intro n
  induction n with
  | zero => intro H locs ls t2 v3 v4 v5 ht2 S hl hf; cases hf
  | succ n ih =>
    intro H locs ls t2 v3 v4 v5 ht2 S hl hf
    have hk40 := @ih
    rw [f_X9_spread_b40] at hf
    refine lv_iload C.1 C.2.1 dX9_spread_40 (lv_at hl 4 rfl) ?_
    refine r_bipush C dX9_spread_42 (by decide) ?_
    refine r_icmp_ge C rfl (show w32 24 = 24 by decide) (tgt := 93) dX9_spread_44 (by decide) (fun h12 => ?_) (fun h12 => ?_)
    · replace hf := if_t hf h12
      refine lv_aload_n C.1 C.2.1 dX9_spread_47 rfl (lv_at hl 1 rfl) ?_
      refine g8_worstSet C (d := t2) S (by omega) tw_157 dX9_spread_48 ?_
      refine lv_iload C.1 C.2.1 dX9_spread_51 (lv_at hl 3 rfl) ?_
      obtain ⟨q4, hc5, hf⟩ := bd_o hf
      refine r_callSv C S (As := [.int (oI (σ (21 + t2) 5)), .int (oI v4)]) (rest := []) (ct_X9_contains l G τ hc5) mi_X9_contains tw_661 ms_X9_contains ⟨rfl, rfl⟩ ⟨Nat.le_of_ble_eq_true rfl, Nat.le_of_ble_eq_true rfl⟩ ⟨Nat.zero_le _, Nat.zero_le _⟩ rfl hl.1 rfl (Nat.le_of_ble_eq_true rfl) dX9_spread_53 (fun H locs S => ?_)
      refine r_if_eq C rfl (tgt := 87) dX9_spread_56 (by decide) (fun h11 => ?_) (fun h11 => ?_)
      · replace hf := if_t hf h11
        exact b_X9_spread_b87 C hend hk27 hk40 t2 v3 v4 v5 (by omega) S (lv_sub hl [0, 1, 2, 3, 4] rfl) hf
      · replace hf := if_f hf h11
        refine lv_aload_n C.1 C.2.1 dX9_spread_59 rfl (lv_at hl 1 rfl) ?_
        refine g8_worstSet C (d := t2) S (by omega) tw_157 dX9_spread_60 ?_
        refine lv_iload C.1 C.2.1 dX9_spread_63 (lv_at hl 4 rfl) ?_
        obtain ⟨q6, hc7, hf⟩ := bd_o hf
        refine r_callSv C S (As := [.int (oI (σ (21 + t2) 5)), .int (oI v5)]) (rest := []) (ct_X9_contains l G τ hc7) mi_X9_contains tw_661 ms_X9_contains ⟨rfl, rfl⟩ ⟨Nat.le_of_ble_eq_true rfl, Nat.le_of_ble_eq_true rfl⟩ ⟨Nat.zero_le _, Nat.zero_le _⟩ rfl hl.1 rfl (Nat.le_of_ble_eq_true rfl) dX9_spread_65 (fun H locs S => ?_)
        refine r_if_eq C rfl (tgt := 87) dX9_spread_68 (by decide) (fun h10 => ?_) (fun h10 => ?_)
        · replace hf := if_t hf h10
          exact b_X9_spread_b87 C hend hk27 hk40 t2 v3 v4 v5 (by omega) S (lv_sub hl [0, 1, 2, 3, 4] rfl) hf
        · replace hf := if_f hf h10
          refine lv_iload_n C.1 C.2.1 dX9_spread_71 rfl (lv_at hl 2 rfl) ?_
          refine lv_aload_n C.1 C.2.1 dX9_spread_72 rfl (lv_at hl 0 rfl) ?_
          refine g9_book C S tw_282 dX9_spread_73 ?_
          refine lv_iload C.1 C.2.1 dX9_spread_76 (lv_at hl 3 rfl) ?_
          refine lv_iload C.1 C.2.1 dX9_spread_78 (lv_at hl 4 rfl) ?_
          obtain ⟨q8, hc9, hf⟩ := bd_o hf
          refine r_callVv C S (As := [.int (oI v4), .int (oI v5)]) (rest := [.int (oI v3)]) (ct_X0_between l G τ hc9) mi_X0_between tw_678 mv_X0_between (rvX0 S) ⟨rfl, rfl⟩ ⟨Nat.le_of_ble_eq_true rfl, Nat.le_of_ble_eq_true rfl⟩ ⟨Nat.zero_le _, Nat.zero_le _⟩ rfl hl.1 rfl (Nat.le_of_ble_eq_true rfl) dX9_spread_80 (fun H locs S => ?_)
          refine r_mmax C (hl.1) tw_671 (by decide) (Nat.le_of_ble_eq_true rfl) dX9_spread_83 ?_
          refine lv_istore_n C.1 C.2.1 dX9_spread_86 rfl hl (by decide) (lv' := [(3, .int (oI (mmaxI v3 q8))), (0, .ref (G.1 0)), (2, .ref (G.1 (21 + t2))), (4, .int (oI v4)), (5, .int (oI v5))]) rfl (fun ls hl => ?_)
          exact b_X9_spread_b87 C hend hk27 hk40 t2 (mmaxI v3 q8) v4 v5 (by omega) S (lv_sub hl [1, 2, 0, 3, 4] rfl) hf
    · replace hf := if_f hf h12
      exact b_X9_spread_b93 C hend hk27 t2 v3 v4 (by omega) S (lv_sub hl [0, 1, 2, 3] rfl) hf
set_option maxRecDepth 100000 in
set_option maxHeartbeats 4000000 in
theorem b_X9_spread_b27 (C : Cx p s m args c RX9 cX9_spread 6) {q : Int} (hend : EndR p l e (rmk 4 88) s m args below meth c Q G true τ cX9_spread .ireturn [.int (oI q)] σ) : ∀ (n : Nat) {H : Heap} {locs : List Loc} {ls : Array Slot} (t2 : Nat) (v3 : Int) (v4 : Int) (ht2 : t2 < 6) (S : St G true τ σ s H locs) (hl : lv_has ls 6 [(0, .ref (G.1 0)), (2, .ref (G.1 (21 + t2))), (3, .int (oI v3)), (4, .int (oI v4))]) (hf : f_X9_spread_b27 σ n t2 v3 v4 = some q), W p l e (rmk 4 88) s m args below meth c H locs 0 0 Q (F0 m 27 ls []) := by
  intro n
  induction n with
  | zero => intro H locs ls t2 v3 v4 ht2 S hl hf; cases hf
  | succ n ih =>
    intro H locs ls t2 v3 v4 ht2 S hl hf
    have hk27 := @ih
    rw [f_X9_spread_b27] at hf
    refine lv_iload C.1 C.2.1 dX9_spread_27 (lv_at hl 3 rfl) ?_
    refine r_bipush C dX9_spread_29 (by decide) ?_
    refine r_icmp_ge C rfl (show w32 24 = 24 by decide) (tgt := 99) dX9_spread_31 (by decide) (fun h13 => ?_) (fun h13 => ?_)
    · replace hf := if_t hf h13
      refine lv_iload C.1 C.2.1 dX9_spread_34 (lv_at hl 3 rfl) ?_
      refine r_iconst C dX9_spread_36 ?_
      refine r_iadd C dX9_spread_37 ?_
      refine lv_istore C.1 C.2.1 dX9_spread_38 hl (by decide) (lv' := [(5, .int (oI (v4 + 1))), (0, .ref (G.1 0)), (2, .ref (G.1 (21 + t2))), (3, .int (oI v3)), (4, .int (oI v4))]) rfl (fun ls hl => ?_)
      exact b_X9_spread_b40 C hend hk27 FUEL t2 v3 v4 (v4 + 1) (by omega) S (lv_sub hl [1, 2, 3, 4, 0] rfl) hf
    · replace hf := if_f hf h13
      refine lv_iload_n C.1 C.2.1 dX9_spread_99 rfl (lv_at hl 2 rfl) ?_
      cases hf
      exact hend _ _ _ _ S dX9_spread_100
set_option maxRecDepth 100000 in
set_option maxHeartbeats 4000000 in
theorem ct_X9_spread (l : Launch) (G : Gd) (τ : Sg) {v1 : Int} {σ : Sg} {q : Int} (hf : f_X9_spread v1 σ = some q) : Ctr l yX9_spread cX9_spread 6 (some .int) (rmk 4 88) G true τ [.ref (G.1 0), .int (oI v1)] σ σ (some (.int (oI q))) := by
  unfold f_X9_spread at hf
  refine CtrI.of (own := RX9) (plainFor_of_name (by decide)) (Nat.le_of_ble_eq_true rfl) rfl (fun p e s m below meth c Q ls C hl S hend => ?_)
  have hl : lv_has ls 6 [(0, .ref (G.1 0)), (1, .int (oI v1))] := hl
  refine lv_aload_n C.1 C.2.1 dX9_spread_0 rfl (lv_at hl 0 rfl) ?_
  refine lv_iload_n C.1 C.2.1 dX9_spread_1 rfl (lv_at hl 1 rfl) ?_
  obtain ⟨q1, hc2, hf⟩ := bd_o hf
  refine r_callVv C S (As := [.int (oI v1)]) (rest := []) (ct_X9_treatyAt l G τ hc2) mi_X9_treatyAt tw_528 mv_X9_treatyAt (rvX9 S) ⟨rfl, rfl⟩ ⟨Nat.le_of_ble_eq_true rfl, Nat.le_of_ble_eq_true rfl⟩ ⟨Nat.zero_le _, Nat.zero_le _⟩ rfl hl.1 rfl (Nat.le_of_ble_eq_true rfl) dX9_spread_2 (fun H locs S => ?_)
  rcases q1 with _ | t3
  · replace hf := oT_n hf
    refine lv_astore_nN C.1 C.2.1 dX9_spread_5 rfl hl (by decide) (lv' := [(2, .null), (0, .ref (G.1 0)), (1, .int (oI v1))]) rfl (fun ls hl => ?_)
    refine lv_aload_nN C.1 C.2.1 dX9_spread_6 rfl (lv_at hl 0 rfl) ?_
    refine lv_ifnonnullN C.1 C.2.1 dX9_spread_7 ?_
    refine r_iconst C dX9_spread_10 ?_
    cases hf
    exact hend _ _ _ _ S dX9_spread_11
  · obtain ⟨ht3, hf⟩ := oT_s hf
    refine lv_astore_n C.1 C.2.1 dX9_spread_5 rfl hl (by decide) (lv' := [(2, .ref (G.1 (21 + t3))), (0, .ref (G.1 0)), (1, .int (oI v1))]) rfl (fun ls hl => ?_)
    refine lv_aload_n C.1 C.2.1 dX9_spread_6 rfl (lv_at hl 0 rfl) ?_
    refine lv_ifnonnull C.1 C.2.1 (tgt := 12) dX9_spread_7 (by decide) ?_
    refine lv_aload_n C.1 C.2.1 dX9_spread_12 rfl (lv_at hl 0 rfl) ?_
    refine g8_worstSet C (d := t3) S (by omega) tw_157 dX9_spread_13 ?_
    refine r_if_ne C rfl (tgt := 22) dX9_spread_16 (by decide) (fun h14 => ?_) (fun h14 => ?_)
    · replace hf := if_t hf h14
      refine r_bipush C dX9_spread_19 (by decide) ?_
      cases hf
      exact hend _ _ _ _ S dX9_spread_21
    · replace hf := if_f hf h14
      refine r_iconst C dX9_spread_22 ?_
      refine lv_istore_n C.1 C.2.1 dX9_spread_23 rfl hl (by decide) (lv' := [(3, .int (oI 0)), (2, .ref (G.1 (21 + t3))), (0, .ref (G.1 0)), (1, .int (oI v1))]) rfl (fun ls hl => ?_)
      refine r_iconst C dX9_spread_24 ?_
      refine lv_istore C.1 C.2.1 dX9_spread_25 hl (by decide) (lv' := [(4, .int (oI 0)), (3, .int (oI 0)), (2, .ref (G.1 (21 + t3))), (0, .ref (G.1 0)), (1, .int (oI v1))]) rfl (fun ls hl => ?_)
      exact b_X9_spread_b27 C hend FUEL t3 0 0 (by omega) S (lv_sub hl [3, 2, 1, 0] rfl) hf
set_option maxRecDepth 100000 in
set_option maxHeartbeats 4000000 in
theorem b_X1_isPoint_b68 (C : Cx p s m args c RX1 cX1_isPoint 3) {q : Int × Sg} {k2 : Int → Int → Sg → Option (Int × Sg)} (hend : (q.1 = 0 ∨ q.1 = 1) → EndR p l e (rmk 2 48) s m args below meth c Q G true τ cX1_isPoint .ireturn [.int (oI q.1)] q.2) (hk2 : ∀ {H : Heap} {locs : List Loc} {ls : Array Slot} {σ : Sg} (v1 : Int) (v2 : Int), St G true τ σ s H locs → lv_has ls 3 [(0, .ref (G.1 20)), (1, .int (oI v1)), (2, .int (oI v2))] → k2 v1 v2 σ = some q → W p l e (rmk 2 48) s m args below meth c H locs 0 0 Q (F0 m 2 ls [])) {H : Heap} {locs : List Loc} {ls : Array Slot} {σ : Sg} (v1 : Int) (v2 : Int) (S : St G true τ σ s H locs) (hl : lv_has ls 3 [(0, .ref (G.1 20)), (1, .int (oI v1)), (2, .int (oI v2))]) (hf : f_X1_isPoint_b68 k2 v1 v2 σ = some q) : W p l e (rmk 2 48) s m args below meth c H locs 0 0 Q (F0 m 68 ls []) := by
  unfold f_X1_isPoint_b68 at hf
  refine r_iinc C dX1_isPoint_68 hl (k := 2) rfl (by decide) (lv' := [(2, .int (oI (v2 + 1))), (0, .ref (G.1 20)), (1, .int (oI v1))]) rfl (fun ls hl => ?_)
  refine lv_goto C.1 C.2.1 (tgt := 2) dX1_isPoint_71 (by decide) ?_
  exact hk2 v1 (v2 + 1) S (lv_sub hl [1, 2, 0] rfl) hf
set_option maxRecDepth 100000 in
set_option maxHeartbeats 4000000 in
theorem b_X1_isPoint_b65 (C : Cx p s m args c RX1 cX1_isPoint 3) {q : Int × Sg} {k2 : Int → Int → Sg → Option (Int × Sg)} (hend : (q.1 = 0 ∨ q.1 = 1) → EndR p l e (rmk 2 48) s m args below meth c Q G true τ cX1_isPoint .ireturn [.int (oI q.1)] q.2) (hk2 : ∀ {H : Heap} {locs : List Loc} {ls : Array Slot} {σ : Sg} (v1 : Int) (v2 : Int), St G true τ σ s H locs → lv_has ls 3 [(0, .ref (G.1 20)), (1, .int (oI v1)), (2, .int (oI v2))] → k2 v1 v2 σ = some q → W p l e (rmk 2 48) s m args below meth c H locs 0 0 Q (F0 m 2 ls [])) {H : Heap} {locs : List Loc} {ls : Array Slot} {σ : Sg} (v1 : Int) (v2 : Int) (w0 : Int) (S : St G true τ σ s H locs) (hl : lv_has ls 3 [(0, .ref (G.1 20)), (1, .int (oI v1)), (2, .int (oI v2))]) (hf : f_X1_isPoint_b65 k2 v1 v2 w0 σ = some q) : W p l e (rmk 2 48) s m args below meth c H locs 0 0 Q (F0 m 65 ls [.int (oI w0), .ref (G.1 20)]) := by
  unfold f_X1_isPoint_b65 at hf
  refine p1_first C S tw_261 dX1_isPoint_65 (fun H locs S => ?_)
  obtain ⟨σ9, S, hf⟩ := wr_s S hf
  exact b_X1_isPoint_b68 C hend hk2 v1 v2 S (lv_sub hl [0, 1, 2] rfl) hf
set_option maxRecDepth 100000 in
set_option maxHeartbeats 4000000 in
theorem b_X1_isPoint_b74 (C : Cx p s m args c RX1 cX1_isPoint 3) {q : Int × Sg} (hend : (q.1 = 0 ∨ q.1 = 1) → EndR p l e (rmk 2 48) s m args below meth c Q G true τ cX1_isPoint .ireturn [.int (oI q.1)] q.2) {H : Heap} {locs : List Loc} {ls : Array Slot} {σ : Sg} (S : St G true τ σ s H locs) (hl : lv_has ls 3 [(0, .ref (G.1 20))]) (hf : f_X1_isPoint_b74 σ = some q) : W p l e (rmk 2 48) s m args below meth c H locs 0 0 Q (F0 m 74 ls []) := by
  unfold f_X1_isPoint_b74 at hf
  refine lv_aload_n C.1 C.2.1 dX1_isPoint_74 rfl (lv_at hl 0 rfl) ?_
  refine r_lconst C (z := 0) dX1_isPoint_75 (by decide) ?_
  refine p1_above C S tw_257 dX1_isPoint_76 (fun H locs S => ?_)
  obtain ⟨σ13, S, hf⟩ := wr_s S hf
  refine lv_aload_n C.1 C.2.1 dX1_isPoint_79 rfl (lv_at hl 0 rfl) ?_
  refine r_lconst C (z := 1) dX1_isPoint_80 (by decide) ?_
  refine p1_below C S tw_259 dX1_isPoint_81 (fun H locs S => ?_)
  obtain ⟨σ14, S, hf⟩ := wr_s S hf
  refine r_iconst C dX1_isPoint_84 ?_
  cases hf
  exact hend (Or.inr rfl) _ _ _ _ S dX1_isPoint_85
set_option maxRecDepth 100000 in
set_option maxHeartbeats 4000000 in
theorem b_X1_isPoint_b2 (C : Cx p s m args c RX1 cX1_isPoint 3) {q : Int × Sg} (hend : (q.1 = 0 ∨ q.1 = 1) → EndR p l e (rmk 2 48) s m args below meth c Q G true τ cX1_isPoint .ireturn [.int (oI q.1)] q.2) : ∀ (n : Nat) {H : Heap} {locs : List Loc} {ls : Array Slot} {σ : Sg} (v1 : Int) (v2 : Int) (S : St G true τ σ s H locs) (hl : lv_has ls 3 [(0, .ref (G.1 20)), (1, .int (oI v1)), (2, .int (oI v2))]) (hf : f_X1_isPoint_b2 n v1 v2 σ = some q), W p l e (rmk 2 48) s m args below meth c H locs 0 0 Q (F0 m 2 ls []) := by
  intro n
  induction n with
  | zero => intro H locs ls σ v1 v2 S hl hf; cases hf
  | succ n ih =>
    intro H locs ls σ v1 v2 S hl hf
    have hk2 := @ih
    rw [f_X1_isPoint_b2] at hf
    refine lv_iload_n C.1 C.2.1 dX1_isPoint_2 rfl (lv_at hl 2 rfl) ?_
    refine r_bipush C dX1_isPoint_3 (by decide) ?_
    refine r_icmp_ge C rfl (show w32 24 = 24 by decide) (tgt := 74) dX1_isPoint_5 (by decide) (fun h15 => ?_) (fun h15 => ?_)
    · replace hf := if_t hf h15
      refine lv_iload_n C.1 C.2.1 dX1_isPoint_8 rfl (lv_at hl 1 rfl) ?_
      refine lv_iload_n C.1 C.2.1 dX1_isPoint_9 rfl (lv_at hl 2 rfl) ?_
      obtain ⟨q1, hc2, hf⟩ := bd_o hf
      refine r_callSNv C S (As := [.int (oI v1), .int (oI v2)]) (rest := []) (ct_X9_contains l G τ hc2) mi_X9_contains (nw_697 S.2.2.2) ms_X9_contains ⟨rfl, rfl⟩ ⟨Nat.le_of_ble_eq_true rfl, Nat.le_of_ble_eq_true rfl⟩ ⟨Nat.zero_le _, Nat.zero_le _⟩ rfl hl.1 rfl (Nat.le_of_ble_eq_true rfl) dX1_isPoint_10 (fun H locs S => ?_)
      refine r_if_eq C rfl (tgt := 68) dX1_isPoint_13 (by decide) (fun h12 => ?_) (fun h12 => ?_)
      · replace hf := if_t hf h12
        exact b_X1_isPoint_b68 C hend hk2 v1 v2 S (lv_sub hl [0, 1, 2] rfl) hf
      · replace hf := if_f hf h12
        refine lv_iload_n C.1 C.2.1 dX1_isPoint_16 rfl (lv_at hl 1 rfl) ?_
        refine lv_aload_n C.1 C.2.1 dX1_isPoint_17 rfl (lv_at hl 0 rfl) ?_
        refine g1_book C S tw_256 dX1_isPoint_18 ?_
        refine lv_aload_n C.1 C.2.1 dX1_isPoint_21 rfl (lv_at hl 0 rfl) ?_
        refine g1_book C S tw_256 dX1_isPoint_22 ?_
        refine lv_iload_n C.1 C.2.1 dX1_isPoint_25 rfl (lv_at hl 2 rfl) ?_
        obtain ⟨q3, hc4, hf⟩ := bd_o hf
        refine r_callVv C S (As := [.int (oI v2)]) (rest := [.ref (G.1 6), .int (oI v1)]) (ct_X0_xOf l G τ hc4) mi_X0_xOf tw_698 mv_X0_xOf (rvX0 S) ⟨rfl, rfl⟩ ⟨Nat.le_of_ble_eq_true rfl, Nat.le_of_ble_eq_true rfl⟩ ⟨Nat.zero_le _, Nat.zero_le _⟩ rfl hl.1 rfl (Nat.le_of_ble_eq_true rfl) dX1_isPoint_26 (fun H locs S => ?_)
        refine lv_aload_n C.1 C.2.1 dX1_isPoint_29 rfl (lv_at hl 0 rfl) ?_
        refine g1_book C S tw_256 dX1_isPoint_30 ?_
        refine lv_iload_n C.1 C.2.1 dX1_isPoint_33 rfl (lv_at hl 2 rfl) ?_
        obtain ⟨q5, hc6, hf⟩ := bd_o hf
        refine r_callVv C S (As := [.int (oI v2)]) (rest := [.int (oI q3), .ref (G.1 6), .int (oI v1)]) (ct_X0_yOf l G τ hc6) mi_X0_yOf tw_699 mv_X0_yOf (rvX0 S) ⟨rfl, rfl⟩ ⟨Nat.le_of_ble_eq_true rfl, Nat.le_of_ble_eq_true rfl⟩ ⟨Nat.zero_le _, Nat.zero_le _⟩ rfl hl.1 rfl (Nat.le_of_ble_eq_true rfl) dX1_isPoint_34 (fun H locs S => ?_)
        refine r_iconst C dX1_isPoint_37 ?_
        obtain ⟨q7, hc8, hf⟩ := bd_o hf
        refine r_callVv C S (As := [.int (oI q3), .int (oI q5), .int (oI 0)]) (rest := [.int (oI v1)]) (ct_X0_within l G τ hc8) mi_X0_within tw_700 mv_X0_within (rvX0 S) ⟨rfl, rfl⟩ ⟨Nat.le_of_ble_eq_true rfl, Nat.le_of_ble_eq_true rfl⟩ ⟨Nat.zero_le _, Nat.zero_le _⟩ rfl hl.1 rfl (Nat.le_of_ble_eq_true rfl) dX1_isPoint_38 (fun H locs S => ?_)
        refine r_iconst C dX1_isPoint_41 ?_
        refine r_ixor C rfl (show u32 (-1) = 4294967295 by decide) dX1_isPoint_42 ?_
        refine r_iand C rfl (u32_nat (nb_xor (u32_lt _) (show 4294967295 < 4294967296 by decide))) dX1_isPoint_43 ?_
        refine r_if_eq C rfl (tgt := 49) dX1_isPoint_44 (by decide) (fun h11 => ?_) (fun h11 => ?_)
        · replace hf := if_t hf h11
          refine lv_aload_n C.1 C.2.1 dX1_isPoint_49 rfl (lv_at hl 0 rfl) ?_
          refine lv_aload_n C.1 C.2.1 dX1_isPoint_50 rfl (lv_at hl 0 rfl) ?_
          refine g1_first C S tw_261 dX1_isPoint_51 ?_
          refine r_if_ge C rfl (tgt := 61) dX1_isPoint_54 (by decide) (fun h10 => ?_) (fun h10 => ?_)
          · replace hf := if_t hf h10
            refine lv_iload_n C.1 C.2.1 dX1_isPoint_57 rfl (lv_at hl 2 rfl) ?_
            refine lv_goto C.1 C.2.1 (tgt := 65) dX1_isPoint_58 (by decide) ?_
            exact b_X1_isPoint_b65 C hend hk2 v1 v2 v2 S (lv_sub hl [0, 1, 2] rfl) hf
          · replace hf := if_f hf h10
            refine lv_aload_n C.1 C.2.1 dX1_isPoint_61 rfl (lv_at hl 0 rfl) ?_
            refine g1_first C S tw_261 dX1_isPoint_62 ?_
            exact b_X1_isPoint_b65 C hend hk2 v1 v2 (σ 20 3) S (lv_sub hl [0, 1, 2] rfl) hf
        · replace hf := if_f hf h11
          refine r_iconst C dX1_isPoint_47 ?_
          cases hf
          exact hend (Or.inl rfl) _ _ _ _ S dX1_isPoint_48
    · replace hf := if_f hf h15
      exact b_X1_isPoint_b74 C hend S (lv_sub hl [0] rfl) hf
set_option maxRecDepth 100000 in
set_option maxHeartbeats 4000000 in
theorem ct_X1_isPoint (l : Launch) (G : Gd) (τ : Sg) {v1 : Int} {σ : Sg} {q : Int × Sg} (hf : f_X1_isPoint v1 σ = some q) : Ctr l yX1_isPoint cX1_isPoint 3 (some .boolean) (rmk 2 48) G true τ [.ref (G.1 20), .int (oI v1)] σ q.2 (some (.int (oI q.1))) := by
  unfold f_X1_isPoint at hf
  refine CtrZ.of (own := RX1) (plainFor_of_name (by decide)) (Nat.le_of_ble_eq_true rfl) rfl (fun p e s m below meth c Q ls C hl S hend => ?_)
  have hl : lv_has ls 3 [(0, .ref (G.1 20)), (1, .int (oI v1))] := hl
  refine r_iconst C dX1_isPoint_0 ?_
  refine lv_istore_n C.1 C.2.1 dX1_isPoint_1 rfl hl (by decide) (lv' := [(2, .int (oI 0)), (0, .ref (G.1 20)), (1, .int (oI v1))]) rfl (fun ls hl => ?_)
  exact b_X1_isPoint_b2 C hend FUEL v1 0 S (lv_sub hl [1, 2, 0] rfl) hf
set_option maxRecDepth 100000 in
set_option maxHeartbeats 4000000 in
theorem ct_X1_corner (l : Launch) (G : Gd) (τ : Sg) {v1 : Int} {v2 : Int} {v3 : Int} {σ : Sg} {q : Int} (hf : f_X1_corner v1 v2 v3 σ = some q) : Ctr l yX1_corner cX1_corner 4 (some .int) (rmk 2 41) G true τ [.ref (G.1 20), .int (oI v1), .int (oI v2), .int (oI v3)] σ σ (some (.int (oI q))) := by
  unfold f_X1_corner at hf
  refine CtrI.of (own := RX1) (plainFor_of_name (by decide)) (Nat.le_of_ble_eq_true rfl) rfl (fun p e s m below meth c Q ls C hl S hend => ?_)
  have hl : lv_has ls 4 [(0, .ref (G.1 20)), (1, .int (oI v1)), (2, .int (oI v2)), (3, .int (oI v3))] := hl
  refine lv_aload_n C.1 C.2.1 dX1_corner_0 rfl (lv_at hl 0 rfl) ?_
  refine g1_book C S tw_256 dX1_corner_1 ?_
  refine lv_iload_n C.1 C.2.1 dX1_corner_4 rfl (lv_at hl 2 rfl) ?_
  obtain ⟨q1, hc2, hf⟩ := bd_o hf
  refine r_callVv C S (As := [.int (oI v2)]) (rest := []) (ct_X0_xOf l G τ hc2) mi_X0_xOf tw_698 mv_X0_xOf (rvX0 S) ⟨rfl, rfl⟩ ⟨Nat.le_of_ble_eq_true rfl, Nat.le_of_ble_eq_true rfl⟩ ⟨Nat.zero_le _, Nat.zero_le _⟩ rfl hl.1 rfl (Nat.le_of_ble_eq_true rfl) dX1_corner_5 (fun H locs S => ?_)
  refine lv_aload_n C.1 C.2.1 dX1_corner_8 rfl (lv_at hl 0 rfl) ?_
  refine g1_book C S tw_256 dX1_corner_9 ?_
  refine lv_iload_n C.1 C.2.1 dX1_corner_12 rfl (lv_at hl 1 rfl) ?_
  obtain ⟨q3, hc4, hf⟩ := bd_o hf
  refine r_callVv C S (As := [.int (oI v1)]) (rest := [.int (oI q1)]) (ct_X0_xOf l G τ hc4) mi_X0_xOf tw_698 mv_X0_xOf (rvX0 S) ⟨rfl, rfl⟩ ⟨Nat.le_of_ble_eq_true rfl, Nat.le_of_ble_eq_true rfl⟩ ⟨Nat.zero_le _, Nat.zero_le _⟩ rfl hl.1 rfl (Nat.le_of_ble_eq_true rfl) dX1_corner_13 (fun H locs S => ?_)
  refine r_isub C dX1_corner_16 ?_
  refine lv_aload_n C.1 C.2.1 dX1_corner_17 rfl (lv_at hl 0 rfl) ?_
  refine g1_book C S tw_256 dX1_corner_18 ?_
  refine lv_iload_n C.1 C.2.1 dX1_corner_21 rfl (lv_at hl 3 rfl) ?_
  obtain ⟨q5, hc6, hf⟩ := bd_o hf
  refine r_callVv C S (As := [.int (oI v3)]) (rest := [.int (oI (q1 - q3))]) (ct_X0_xOf l G τ hc6) mi_X0_xOf tw_698 mv_X0_xOf (rvX0 S) ⟨rfl, rfl⟩ ⟨Nat.le_of_ble_eq_true rfl, Nat.le_of_ble_eq_true rfl⟩ ⟨Nat.zero_le _, Nat.zero_le _⟩ rfl hl.1 rfl (Nat.le_of_ble_eq_true rfl) dX1_corner_22 (fun H locs S => ?_)
  refine lv_aload_n C.1 C.2.1 dX1_corner_25 rfl (lv_at hl 0 rfl) ?_
  refine g1_book C S tw_256 dX1_corner_26 ?_
  refine lv_iload_n C.1 C.2.1 dX1_corner_29 rfl (lv_at hl 1 rfl) ?_
  obtain ⟨q7, hc8, hf⟩ := bd_o hf
  refine r_callVv C S (As := [.int (oI v1)]) (rest := [.int (oI q5), .int (oI (q1 - q3))]) (ct_X0_xOf l G τ hc8) mi_X0_xOf tw_698 mv_X0_xOf (rvX0 S) ⟨rfl, rfl⟩ ⟨Nat.le_of_ble_eq_true rfl, Nat.le_of_ble_eq_true rfl⟩ ⟨Nat.zero_le _, Nat.zero_le _⟩ rfl hl.1 rfl (Nat.le_of_ble_eq_true rfl) dX1_corner_30 (fun H locs S => ?_)
  refine r_isub C dX1_corner_33 ?_
  refine r_imul C dX1_corner_34 ?_
  refine lv_aload_n C.1 C.2.1 dX1_corner_35 rfl (lv_at hl 0 rfl) ?_
  refine g1_book C S tw_256 dX1_corner_36 ?_
  refine lv_iload_n C.1 C.2.1 dX1_corner_39 rfl (lv_at hl 2 rfl) ?_
  obtain ⟨q9, hc10, hf⟩ := bd_o hf
  refine r_callVv C S (As := [.int (oI v2)]) (rest := [.int (oI ((q1 - q3) * (q5 - q7)))]) (ct_X0_yOf l G τ hc10) mi_X0_yOf tw_699 mv_X0_yOf (rvX0 S) ⟨rfl, rfl⟩ ⟨Nat.le_of_ble_eq_true rfl, Nat.le_of_ble_eq_true rfl⟩ ⟨Nat.zero_le _, Nat.zero_le _⟩ rfl hl.1 rfl (Nat.le_of_ble_eq_true rfl) dX1_corner_40 (fun H locs S => ?_)
  refine lv_aload_n C.1 C.2.1 dX1_corner_43 rfl (lv_at hl 0 rfl) ?_
  refine g1_book C S tw_256 dX1_corner_44 ?_
  refine lv_iload_n C.1 C.2.1 dX1_corner_47 rfl (lv_at hl 1 rfl) ?_
  obtain ⟨q11, hc12, hf⟩ := bd_o hf
  refine r_callVv C S (As := [.int (oI v1)]) (rest := [.int (oI q9), .int (oI ((q1 - q3) * (q5 - q7)))]) (ct_X0_yOf l G τ hc12) mi_X0_yOf tw_699 mv_X0_yOf (rvX0 S) ⟨rfl, rfl⟩ ⟨Nat.le_of_ble_eq_true rfl, Nat.le_of_ble_eq_true rfl⟩ ⟨Nat.zero_le _, Nat.zero_le _⟩ rfl hl.1 rfl (Nat.le_of_ble_eq_true rfl) dX1_corner_48 (fun H locs S => ?_)
  refine r_isub C dX1_corner_51 ?_
  refine lv_aload_n C.1 C.2.1 dX1_corner_52 rfl (lv_at hl 0 rfl) ?_
  refine g1_book C S tw_256 dX1_corner_53 ?_
  refine lv_iload_n C.1 C.2.1 dX1_corner_56 rfl (lv_at hl 3 rfl) ?_
  obtain ⟨q13, hc14, hf⟩ := bd_o hf
  refine r_callVv C S (As := [.int (oI v3)]) (rest := [.int (oI (q9 - q11)), .int (oI ((q1 - q3) * (q5 - q7)))]) (ct_X0_yOf l G τ hc14) mi_X0_yOf tw_699 mv_X0_yOf (rvX0 S) ⟨rfl, rfl⟩ ⟨Nat.le_of_ble_eq_true rfl, Nat.le_of_ble_eq_true rfl⟩ ⟨Nat.zero_le _, Nat.zero_le _⟩ rfl hl.1 rfl (Nat.le_of_ble_eq_true rfl) dX1_corner_57 (fun H locs S => ?_)
  refine lv_aload_n C.1 C.2.1 dX1_corner_60 rfl (lv_at hl 0 rfl) ?_
  refine g1_book C S tw_256 dX1_corner_61 ?_
  refine lv_iload_n C.1 C.2.1 dX1_corner_64 rfl (lv_at hl 1 rfl) ?_
  obtain ⟨q15, hc16, hf⟩ := bd_o hf
  refine r_callVv C S (As := [.int (oI v1)]) (rest := [.int (oI q13), .int (oI (q9 - q11)), .int (oI ((q1 - q3) * (q5 - q7)))]) (ct_X0_yOf l G τ hc16) mi_X0_yOf tw_699 mv_X0_yOf (rvX0 S) ⟨rfl, rfl⟩ ⟨Nat.le_of_ble_eq_true rfl, Nat.le_of_ble_eq_true rfl⟩ ⟨Nat.zero_le _, Nat.zero_le _⟩ rfl hl.1 rfl (Nat.le_of_ble_eq_true rfl) dX1_corner_65 (fun H locs S => ?_)
  refine r_isub C dX1_corner_68 ?_
  refine r_imul C dX1_corner_69 ?_
  refine r_iadd C dX1_corner_70 ?_
  cases hf
  exact hend _ _ _ _ S dX1_corner_71
end WK
