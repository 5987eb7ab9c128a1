section WK
variable {p : Program} {l : Launch} {e : Env} {s : State} {m : MethodId} {args : Array Value} {below : List Frame} {meth : Method} {c : Code} {Q : State → Prop} {G : Gd} {b : Bool} {τ σ : Sg}
set_option maxRecDepth 100000 in
set_option maxHeartbeats 4000000 in
theorem ct_X10_isPassedBy (l : Launch) (G : Gd) (τ : Sg) {v1 : Int} {v2 : Int} {σ : Sg} {q : Int × Sg} (hf : f_X10_isPassedBy v1 v2 σ = some q) : Ctr l yX10_isPassedBy cX10_isPassedBy 3 (some .boolean) (rmk 3 98) G false τ [.ref (G.1 41), .int (oI v1), .int (oI v2)] σ q.2 (some (.int (oI q.1))) := by
  unfold f_X10_isPassedBy at hf
  refine CtrZ.of (own := RX10) (plainFor_of_name (by decide)) (Nat.le_of_ble_eq_true rfl) rfl (fun p e s m below meth c Q ls C hl S hend => ?_)
  have hl : lv_has ls 3 [(0, .ref (G.1 41)), (1, .int (oI v1)), (2, .int (oI v2))] := hl
  refine lv_aload_n C.1 C.2.1 dX10_isPassedBy_0 rfl (lv_at hl 0 rfl) ?_
  refine lv_iload_n C.1 C.2.1 dX10_isPassedBy_1 rfl (lv_at hl 2 rfl) ?_
  refine lv_aload_n C.1 C.2.1 dX10_isPassedBy_2 rfl (lv_at hl 0 rfl) ?_
  refine g10_radius C S tw_1084 dX10_isPassedBy_3 ?_
  refine lv_iload_n C.1 C.2.1 dX10_isPassedBy_6 rfl (lv_at hl 1 rfl) ?_
  obtain ⟨hi1, hf⟩ := ck_o hf
  refine a_iald C S ar_51 hi1 dX10_isPassedBy_7 ?_
  refine r_iconst C dX10_isPassedBy_8 ?_
  obtain ⟨q2, hc3, hf⟩ := bd_o hf
  refine r_callVn C S (As := [.int (oI v2), .int (oI (σ 51 (v1).toNat)), .int (oI ((-1)))]) (rest := []) (ct_X10_weighs l G τ hc3) mi_X10_weighs tw_1288 mv_X10_weighs (rvX10 S) ⟨rfl, rfl⟩ ⟨Nat.le_of_ble_eq_true rfl, Nat.le_of_ble_eq_true rfl⟩ ⟨Nat.zero_le _, Nat.zero_le _⟩ rfl hl.1 rfl (Nat.le_of_ble_eq_true rfl) dX10_isPassedBy_9 (fun H locs S => ?_)
  refine lv_aload_n C.1 C.2.1 dX10_isPassedBy_12 rfl (lv_at hl 0 rfl) ?_
  refine g10_bestSum C S tw_1097 dX10_isPassedBy_13 ?_
  refine lv_aload_n C.1 C.2.1 dX10_isPassedBy_16 rfl (lv_at hl 0 rfl) ?_
  refine g10_limit C S tw_1085 dX10_isPassedBy_17 ?_
  refine lv_iload_n C.1 C.2.1 dX10_isPassedBy_20 rfl (lv_at hl 1 rfl) ?_
  obtain ⟨hi4, hf⟩ := ck_o hf
  refine a_iald C S ar_52 hi4 dX10_isPassedBy_21 ?_
  refine r_icmp_le C rfl rfl (tgt := 29) dX10_isPassedBy_22 (by decide) (fun h5 => ?_) (fun h5 => ?_)
  · replace hf := if_t hf h5
    refine r_iconst C dX10_isPassedBy_29 ?_
    cases hf
    exact hend (Or.inl rfl) _ _ _ _ S dX10_isPassedBy_30
  · replace hf := if_f hf h5
    refine r_iconst C dX10_isPassedBy_25 ?_
    refine lv_goto C.1 C.2.1 (tgt := 30) dX10_isPassedBy_26 (by decide) ?_
    cases hf
    exact hend (Or.inr rfl) _ _ _ _ S dX10_isPassedBy_30
set_option maxRecDepth 100000 in
set_option maxHeartbeats 4000000 in
theorem b_X10_greatestOf_b51 (C : Cx p s m args c RX10 cX10_greatestOf 5) {q : Int} {k5 : Int → Int → Int → Int → Option (Int)} (hend : EndR p l e (rmk 1 21) s m args below meth c Q G false τ cX10_greatestOf .ireturn [.int (oI q)] σ) (hk5 : ∀ {H : Heap} {locs : List Loc} {ls : Array Slot} (v1 : Int) (v2 : Int) (v3 : Int) (v4 : Int), St G false τ σ s H locs → lv_has ls 5 [(0, .ref (G.1 41)), (1, .int (oI v1)), (2, .int (oI v2)), (3, .int (oI v3)), (4, .int (oI v4))] → k5 v1 v2 v3 v4 = some q → W p l e (rmk 1 21) s m args below meth c H locs 0 0 Q (F0 m 5 ls [])) {H : Heap} {locs : List Loc} {ls : Array Slot} (v1 : Int) (v2 : Int) (v3 : Int) (v4 : Int) (S : St G false τ σ s H locs) (hl : lv_has ls 5 [(0, .ref (G.1 41)), (1, .int (oI v1)), (2, .int (oI v2)), (3, .int (oI v3)), (4, .int (oI v4))]) (hf : f_X10_greatestOf_b51 σ k5 v1 v2 v3 v4 = some q) : W p l e (rmk 1 21) s m args below meth c H locs 0 0 Q (F0 m 51 ls []) := by
  unfold f_X10_greatestOf_b51 at hf
  refine r_iinc C dX10_greatestOf_51 hl (k := 4) rfl (by decide) (lv' := [(4, .int (oI (v4 + 1))), (0, .ref (G.1 41)), (1, .int (oI v1)), (2, .int (oI v2)), (3, .int (oI v3))]) rfl (fun ls hl => ?_)
  refine lv_goto C.1 C.2.1 (tgt := 5) dX10_greatestOf_54 (by decide) ?_
  exact hk5 v1 v2 v3 (v4 + 1) S (lv_sub hl [1, 2, 3, 4, 0] rfl) hf
set_option maxRecDepth 100000 in
set_option maxHeartbeats 4000000 in
theorem b_X10_greatestOf_b48 (C : Cx p s m args c RX10 cX10_greatestOf 5) {q : Int} {k5 : Int → Int → Int → Int → Option (Int)} (hend : EndR p l e (rmk 1 21) s m args below meth c Q G false τ cX10_greatestOf .ireturn [.int (oI q)] σ) (hk5 : ∀ {H : Heap} {locs : List Loc} {ls : Array Slot} (v1 : Int) (v2 : Int) (v3 : Int) (v4 : Int), St G false τ σ s H locs → lv_has ls 5 [(0, .ref (G.1 41)), (1, .int (oI v1)), (2, .int (oI v2)), (3, .int (oI v3)), (4, .int (oI v4))] → k5 v1 v2 v3 v4 = some q → W p l e (rmk 1 21) s m args below meth c H locs 0 0 Q (F0 m 5 ls [])) {H : Heap} {locs : List Loc} {ls : Array Slot} (v1 : Int) (v2 : Int) (v4 : Int) (S : St G false τ σ s H locs) (hl : lv_has ls 5 [(0, .ref (G.1 41)), (1, .int (oI v1)), (2, .int (oI v2)), (4, .int (oI v4))]) (hf : f_X10_greatestOf_b48 σ k5 v1 v2 v4 = some q) : W p l e (rmk 1 21) s m args below meth c H locs 0 0 Q (F0 m 48 ls []) := by
  unfold f_X10_greatestOf_b48 at hf
  refine lv_iload C.1 C.2.1 dX10_greatestOf_48 (lv_at hl 3 rfl) ?_
  refine lv_istore_n C.1 C.2.1 dX10_greatestOf_50 rfl hl (by decide) (lv' := [(3, .int (oI v4)), (0, .ref (G.1 41)), (1, .int (oI v1)), (2, .int (oI v2)), (4, .int (oI v4))]) rfl (fun ls hl => ?_)
  exact b_X10_greatestOf_b51 C hend hk5 v1 v2 v4 v4 S (lv_sub hl [1, 2, 3, 0, 4] rfl) hf
set_option maxRecDepth 100000 in
set_option maxHeartbeats 4000000 in
theorem b_X10_greatestOf_b5 (C : Cx p s m args c RX10 cX10_greatestOf 5) {q : Int} (hend : EndR p l e (rmk 1 21) s m args below meth c Q G false τ cX10_greatestOf .ireturn [.int (oI q)] σ) : ∀ (n : Nat) {H : Heap} {locs : List Loc} {ls : Array Slot} (v1 : Int) (v2 : Int) (v3 : Int) (v4 : Int) (S : St G false τ σ s H locs) (hl : lv_has ls 5 [(0, .ref (G.1 41)), (1, .int (oI v1)), (2, .int (oI v2)), (3, .int (oI v3)), (4, .int (oI v4))]) (hf : f_X10_greatestOf_b5 σ n v1 v2 v3 v4 = some q), W p l e (rmk 1 21) s m args below meth c H locs 0 0 Q (F0 m 5 ls []) := by
  intro n
  induction n with
  | zero => intro H locs ls v1 v2 v3 v4 S hl hf; cases hf
  | succ n ih =>
    intro H locs ls v1 v2 v3 v4 S hl hf
    have hk5 := @ih
    rw [f_X10_greatestOf_b5] at hf
    refine lv_iload C.1 C.2.1 dX10_greatestOf_5 (lv_at hl 4 rfl) ?_
    refine r_bipush C dX10_greatestOf_7 (by decide) ?_
    refine r_icmp_ge C rfl (show w32 24 = 24 by decide) (tgt := 57) dX10_greatestOf_9 (by decide) (fun h9 => ?_) (fun h9 => ?_)
    · replace hf := if_t hf h9
      refine lv_iload_n C.1 C.2.1 dX10_greatestOf_12 rfl (lv_at hl 1 rfl) ?_
      refine lv_iload C.1 C.2.1 dX10_greatestOf_13 (lv_at hl 4 rfl) ?_
      obtain ⟨q1, hc2, hf⟩ := bd_o hf
      refine r_callSv C S (As := [.int (oI v1), .int (oI v4)]) (rest := []) (ct_X10_has l G τ hc2) mi_X10_has tw_1285 ms_X10_has ⟨rfl, rfl⟩ ⟨Nat.le_of_ble_eq_true rfl, Nat.le_of_ble_eq_true rfl⟩ ⟨Nat.zero_le _, Nat.zero_le _⟩ rfl hl.1 rfl (Nat.le_of_ble_eq_true rfl) dX10_greatestOf_15 (fun H locs S => ?_)
      refine r_if_eq C rfl (tgt := 51) dX10_greatestOf_18 (by decide) (fun h8 => ?_) (fun h8 => ?_)
      · replace hf := if_t hf h8
        exact b_X10_greatestOf_b51 C hend hk5 v1 v2 v3 v4 S (lv_sub hl [0, 1, 2, 3, 4] rfl) hf
      · replace hf := if_f hf h8
        refine lv_iload C.1 C.2.1 dX10_greatestOf_21 (lv_at hl 4 rfl) ?_
        refine lv_iload_n C.1 C.2.1 dX10_greatestOf_23 rfl (lv_at hl 2 rfl) ?_
        refine r_icmp_eq C rfl rfl (tgt := 51) dX10_greatestOf_24 (by decide) (fun h7 => ?_) (fun h7 => ?_)
        · replace hf := if_t hf h7
          exact b_X10_greatestOf_b51 C hend hk5 v1 v2 v3 v4 S (lv_sub hl [0, 1, 2, 3, 4] rfl) hf
        · replace hf := if_f hf h7
          refine lv_iload_n C.1 C.2.1 dX10_greatestOf_27 rfl (lv_at hl 3 rfl) ?_
          refine r_iconst C dX10_greatestOf_28 ?_
          refine r_icmp_eq C rfl (show w32 (-1) = (-1) by decide) (tgt := 48) dX10_greatestOf_29 (by decide) (fun h6 => ?_) (fun h6 => ?_)
          · replace hf := if_t hf h6
            exact b_X10_greatestOf_b48 C hend hk5 v1 v2 v4 S (lv_sub hl [0, 1, 2, 4] rfl) hf
          · replace hf := if_f hf h6
            refine lv_aload_n C.1 C.2.1 dX10_greatestOf_32 rfl (lv_at hl 0 rfl) ?_
            refine g10_sum C S tw_1080 dX10_greatestOf_33 ?_
            refine lv_iload C.1 C.2.1 dX10_greatestOf_36 (lv_at hl 4 rfl) ?_
            obtain ⟨hi3, hf⟩ := ck_o hf
            refine a_iald C S ar_47 hi3 dX10_greatestOf_38 ?_
            refine lv_aload_n C.1 C.2.1 dX10_greatestOf_39 rfl (lv_at hl 0 rfl) ?_
            refine g10_sum C S tw_1080 dX10_greatestOf_40 ?_
            refine lv_iload_n C.1 C.2.1 dX10_greatestOf_43 rfl (lv_at hl 3 rfl) ?_
            obtain ⟨hi4, hf⟩ := ck_o hf
            refine a_iald C S ar_47 hi4 dX10_greatestOf_44 ?_
            refine r_icmp_le C rfl rfl (tgt := 51) dX10_greatestOf_45 (by decide) (fun h5 => ?_) (fun h5 => ?_)
            · replace hf := if_t hf h5
              exact b_X10_greatestOf_b51 C hend hk5 v1 v2 v3 v4 S (lv_sub hl [0, 1, 2, 3, 4] rfl) hf
            · replace hf := if_f hf h5
              exact b_X10_greatestOf_b48 C hend hk5 v1 v2 v4 S (lv_sub hl [0, 1, 2, 4] rfl) hf
    · replace hf := if_f hf h9
      refine lv_iload_n C.1 C.2.1 dX10_greatestOf_57 rfl (lv_at hl 3 rfl) ?_
      cases hf
      exact hend _ _ _ _ S dX10_greatestOf_58
set_option maxRecDepth 100000 in
set_option maxHeartbeats 4000000 in
theorem ct_X10_greatestOf (l : Launch) (G : Gd) (τ : Sg) {v1 : Int} {v2 : Int} {σ : Sg} {q : Int} (hf : f_X10_greatestOf v1 v2 σ = some q) : Ctr l yX10_greatestOf cX10_greatestOf 5 (some .int) (rmk 1 21) G false τ [.ref (G.1 41), .int (oI v1), .int (oI v2)] σ σ (some (.int (oI q))) := by
  unfold f_X10_greatestOf at hf
  refine CtrI.of (own := RX10) (plainFor_of_name (by decide)) (Nat.le_of_ble_eq_true rfl) rfl (fun p e s m below meth c Q ls C hl S hend => ?_)
  have hl : lv_has ls 5 [(0, .ref (G.1 41)), (1, .int (oI v1)), (2, .int (oI v2))] := hl
  refine r_iconst C dX10_greatestOf_0 ?_
  refine lv_istore_n C.1 C.2.1 dX10_greatestOf_1 rfl hl (by decide) (lv' := [(3, .int (oI ((-1)))), (0, .ref (G.1 41)), (1, .int (oI v1)), (2, .int (oI v2))]) rfl (fun ls hl => ?_)
  refine r_iconst C dX10_greatestOf_2 ?_
  refine lv_istore C.1 C.2.1 dX10_greatestOf_3 hl (by decide) (lv' := [(4, .int (oI 0)), (3, .int (oI ((-1)))), (0, .ref (G.1 41)), (1, .int (oI v1)), (2, .int (oI v2))]) rfl (fun ls hl => ?_)
  exact b_X10_greatestOf_b5 C hend FUEL v1 v2 ((-1)) 0 S (lv_sub hl [2, 3, 4, 1, 0] rfl) hf
set_option maxRecDepth 100000 in
set_option maxHeartbeats 4000000 in
theorem b_X10_isByOneMore_b54 (C : Cx p s m args c RX10 cX10_isByOneMore 5) {q : Int × Sg} {k20 : Int → Int → Int → Int → Sg → Option (Int × Sg)} (hend : (q.1 = 0 ∨ q.1 = 1) → EndR p l e (rmk 4 120) s m args below meth c Q G false τ cX10_isByOneMore .ireturn [.int (oI q.1)] q.2) (hk20 : ∀ {H : Heap} {locs : List Loc} {ls : Array Slot} {σ : Sg} (v1 : Int) (v2 : Int) (v3 : Int) (v4 : Int), St G false τ σ s H locs → lv_has ls 5 [(0, .ref (G.1 41)), (1, .int (oI v1)), (2, .int (oI v2)), (3, .int (oI v3)), (4, .int (oI v4))] → k20 v1 v2 v3 v4 σ = some q → W p l e (rmk 4 120) s m args below meth c H locs 0 0 Q (F0 m 20 ls [])) {H : Heap} {locs : List Loc} {ls : Array Slot} {σ : Sg} (v1 : Int) (v2 : Int) (v3 : Int) (v4 : Int) (S : St G false τ σ s H locs) (hl : lv_has ls 5 [(0, .ref (G.1 41)), (1, .int (oI v1)), (2, .int (oI v2)), (3, .int (oI v3)), (4, .int (oI v4))]) (hf : f_X10_isByOneMore_b54 k20 v1 v2 v3 v4 σ = some q) : W p l e (rmk 4 120) s m args below meth c H locs 0 0 Q (F0 m 54 ls []) := by
  unfold f_X10_isByOneMore_b54 at hf
  refine r_iinc C dX10_isByOneMore_54 hl (k := 4) rfl (by decide) (lv' := [(4, .int (oI (v4 + 1))), (0, .ref (G.1 41)), (1, .int (oI v1)), (2, .int (oI v2)), (3, .int (oI v3))]) rfl (fun ls hl => ?_)
  refine lv_goto C.1 C.2.1 (tgt := 20) dX10_isByOneMore_57 (by decide) ?_
  exact hk20 v1 v2 v3 (v4 + 1) S (lv_sub hl [1, 2, 3, 4, 0] rfl) hf
set_option maxRecDepth 100000 in
set_option maxHeartbeats 4000000 in
theorem b_X10_isByOneMore_b20 (C : Cx p s m args c RX10 cX10_isByOneMore 5) {q : Int × Sg} (hend : (q.1 = 0 ∨ q.1 = 1) → EndR p l e (rmk 4 120) s m args below meth c Q G false τ cX10_isByOneMore .ireturn [.int (oI q.1)] q.2) : ∀ (n : Nat) {H : Heap} {locs : List Loc} {ls : Array Slot} {σ : Sg} (v1 : Int) (v2 : Int) (v3 : Int) (v4 : Int) (S : St G false τ σ s H locs) (hl : lv_has ls 5 [(0, .ref (G.1 41)), (1, .int (oI v1)), (2, .int (oI v2)), (3, .int (oI v3)), (4, .int (oI v4))]) (hf : f_X10_isByOneMore_b20 n v1 v2 v3 v4 σ = some q), W p l e (rmk 4 120) s m args below meth c H locs 0 0 Q (F0 m 20 ls []) := by
  intro n
  induction n with
  | zero => intro H locs ls σ v1 v2 v3 v4 S hl hf; cases hf
  | succ n ih =>
    intro H locs ls σ v1 v2 v3 v4 S hl hf
    have hk20 := @ih
    rw [f_X10_isByOneMore_b20] at hf
    refine lv_iload C.1 C.2.1 dX10_isByOneMore_20 (lv_at hl 4 rfl) ?_
    refine r_bipush C dX10_isByOneMore_22 (by decide) ?_
    refine r_icmp_ge C rfl (show w32 24 = 24 by decide) (tgt := 60) dX10_isByOneMore_24 (by decide) (fun h10 => ?_) (fun h10 => ?_)
    · replace hf := if_t hf h10
      refine lv_iload_n C.1 C.2.1 dX10_isByOneMore_27 rfl (lv_at hl 3 rfl) ?_
      refine lv_iload C.1 C.2.1 dX10_isByOneMore_28 (lv_at hl 4 rfl) ?_
      obtain ⟨q4, hc5, hf⟩ := bd_o hf
      refine r_callSv C S (As := [.int (oI v3), .int (oI v4)]) (rest := []) (ct_X10_has l G τ hc5) mi_X10_has tw_1285 ms_X10_has ⟨rfl, rfl⟩ ⟨Nat.le_of_ble_eq_true rfl, Nat.le_of_ble_eq_true rfl⟩ ⟨Nat.zero_le _, Nat.zero_le _⟩ rfl hl.1 rfl (Nat.le_of_ble_eq_true rfl) dX10_isByOneMore_30 (fun H locs S => ?_)
      refine r_if_eq C rfl (tgt := 54) dX10_isByOneMore_33 (by decide) (fun h9 => ?_) (fun h9 => ?_)
      · replace hf := if_t hf h9
        exact b_X10_isByOneMore_b54 C hend hk20 v1 v2 v3 v4 S (lv_sub hl [0, 1, 2, 3, 4] rfl) hf
      · replace hf := if_f hf h9
        refine lv_aload_n C.1 C.2.1 dX10_isByOneMore_36 rfl (lv_at hl 0 rfl) ?_
        refine lv_iload_n C.1 C.2.1 dX10_isByOneMore_37 rfl (lv_at hl 1 rfl) ?_
        refine lv_iload_n C.1 C.2.1 dX10_isByOneMore_38 rfl (lv_at hl 2 rfl) ?_
        refine r_iconst C dX10_isByOneMore_39 ?_
        refine lv_iload C.1 C.2.1 dX10_isByOneMore_40 (lv_at hl 4 rfl) ?_
        refine r_ishl C (y1 := (u32 v4 % 32)) rfl dX10_isByOneMore_42 ?_
        refine r_iconst C dX10_isByOneMore_43 ?_
        refine r_ixor C rfl (show u32 (-1) = 4294967295 by decide) dX10_isByOneMore_44 ?_
        refine r_iand C rfl (u32_nat (nb_xor (u32_lt _) (show 4294967295 < 4294967296 by decide))) dX10_isByOneMore_45 ?_
        obtain ⟨q6, hc7, hf⟩ := bd_o hf
        refine r_callVv C S (As := [.int (oI v1), .int (oI ((((u32 v2) &&& ((u32 (1 * ((2 ^ (u32 v4 % 32) : Nat) : Int))) ^^^ 4294967295) : Nat) : Int)))]) (rest := []) (ct_X10_isPassedBy l G τ hc7) mi_X10_isPassedBy tw_1570 mv_X10_isPassedBy (rvX10 S) ⟨rfl, rfl⟩ ⟨Nat.le_of_ble_eq_true rfl, Nat.le_of_ble_eq_true rfl⟩ ⟨Nat.zero_le _, Nat.zero_le _⟩ rfl hl.1 rfl (Nat.le_of_ble_eq_true rfl) dX10_isByOneMore_46 (fun H locs S => ?_)
        refine r_if_ne C rfl (tgt := 54) dX10_isByOneMore_49 (by decide) (fun h8 => ?_) (fun h8 => ?_)
        · replace hf := if_t hf h8
          refine r_iconst C dX10_isByOneMore_52 ?_
          cases hf
          exact hend (Or.inr rfl) _ _ _ _ S dX10_isByOneMore_53
        · replace hf := if_f hf h8
          exact b_X10_isByOneMore_b54 C hend hk20 v1 v2 v3 v4 S (lv_sub hl [0, 1, 2, 3, 4] rfl) hf
    · replace hf := if_f hf h10
      refine r_iconst C dX10_isByOneMore_60 ?_
      cases hf
      exact hend (Or.inl rfl) _ _ _ _ S dX10_isByOneMore_61
set_option maxRecDepth 100000 in
set_option maxHeartbeats 4000000 in
theorem ct_X10_isByOneMore (l : Launch) (G : Gd) (τ : Sg) {v1 : Int} {v2 : Int} {σ : Sg} {q : Int × Sg} (hf : f_X10_isByOneMore v1 v2 σ = some q) : Ctr l yX10_isByOneMore cX10_isByOneMore 5 (some .boolean) (rmk 4 120) G false τ [.ref (G.1 41), .int (oI v1), .int (oI v2)] σ q.2 (some (.int (oI q.1))) := by
  unfold f_X10_isByOneMore at hf
  refine CtrZ.of (own := RX10) (plainFor_of_name (by decide)) (Nat.le_of_ble_eq_true rfl) rfl (fun p e s m below meth c Q ls C hl S hend => ?_)
  have hl : lv_has ls 5 [(0, .ref (G.1 41)), (1, .int (oI v1)), (2, .int (oI v2))] := hl
  refine lv_aload_n C.1 C.2.1 dX10_isByOneMore_0 rfl (lv_at hl 0 rfl) ?_
  refine lv_iload_n C.1 C.2.1 dX10_isByOneMore_1 rfl (lv_at hl 2 rfl) ?_
  refine lv_aload_n C.1 C.2.1 dX10_isByOneMore_2 rfl (lv_at hl 0 rfl) ?_
  refine g10_radius C S tw_1084 dX10_isByOneMore_3 ?_
  refine lv_iload_n C.1 C.2.1 dX10_isByOneMore_6 rfl (lv_at hl 1 rfl) ?_
  obtain ⟨hi1, hf⟩ := ck_o hf
  refine a_iald C S ar_51 hi1 dX10_isByOneMore_7 ?_
  refine r_iconst C dX10_isByOneMore_8 ?_
  obtain ⟨q2, hc3, hf⟩ := bd_o hf
  refine r_callVn C S (As := [.int (oI v2), .int (oI (σ 51 (v1).toNat)), .int (oI ((-1)))]) (rest := []) (ct_X10_weighs l G τ hc3) mi_X10_weighs tw_1288 mv_X10_weighs (rvX10 S) ⟨rfl, rfl⟩ ⟨Nat.le_of_ble_eq_true rfl, Nat.le_of_ble_eq_true rfl⟩ ⟨Nat.zero_le _, Nat.zero_le _⟩ rfl hl.1 rfl (Nat.le_of_ble_eq_true rfl) dX10_isByOneMore_9 (fun H locs S => ?_)
  refine lv_aload_n C.1 C.2.1 dX10_isByOneMore_12 rfl (lv_at hl 0 rfl) ?_
  refine g10_bestSet C S tw_1098 dX10_isByOneMore_13 ?_
  refine lv_istore_n C.1 C.2.1 dX10_isByOneMore_16 rfl hl (by decide) (lv' := [(3, .int (oI (q2 41 37))), (0, .ref (G.1 41)), (1, .int (oI v1)), (2, .int (oI v2))]) rfl (fun ls hl => ?_)
  refine r_iconst C dX10_isByOneMore_17 ?_
  refine lv_istore C.1 C.2.1 dX10_isByOneMore_18 hl (by decide) (lv' := [(4, .int (oI 0)), (3, .int (oI (q2 41 37))), (0, .ref (G.1 41)), (1, .int (oI v1)), (2, .int (oI v2))]) rfl (fun ls hl => ?_)
  exact b_X10_isByOneMore_b20 C hend FUEL v1 v2 (q2 41 37) 0 S (lv_sub hl [2, 3, 4, 1, 0] rfl) hf
set_option maxRecDepth 100000 in
set_option maxHeartbeats 4000000 in
theorem b_X10_fewest_b116 (C : Cx p s m args c RX10 cX10_fewest 8) {q : Int × Sg} {k82 : Int → Int → Int → Int → Int → Int → Int → Sg → Option (Int × Sg)} (hend : EndR p l e (rmk 5 144) s m args below meth c Q G false τ cX10_fewest .ireturn [.int (oI q.1)] q.2) (hk82 : ∀ {H : Heap} {locs : List Loc} {ls : Array Slot} {σ : Sg} (v1 : Int) (v2 : Int) (v3 : Int) (v4 : Int) (v5 : Int) (v6 : Int) (v7 : Int), St G false τ σ s H locs → lv_has ls 8 [(0, .ref (G.1 41)), (1, .int (oI v1)), (2, .int (oI v2)), (3, .int (oI v3)), (4, .int (oI v4)), (5, .int (oI v5)), (6, .int (oI v6)), (7, .int (oI v7))] → k82 v1 v2 v3 v4 v5 v6 v7 σ = some q → W p l e (rmk 5 144) s m args below meth c H locs 0 0 Q (F0 m 82 ls [])) {H : Heap} {locs : List Loc} {ls : Array Slot} {σ : Sg} (v1 : Int) (v2 : Int) (v3 : Int) (v4 : Int) (v5 : Int) (v6 : Int) (v7 : Int) (S : St G false τ σ s H locs) (hl : lv_has ls 8 [(0, .ref (G.1 41)), (1, .int (oI v1)), (2, .int (oI v2)), (3, .int (oI v3)), (4, .int (oI v4)), (5, .int (oI v5)), (6, .int (oI v6)), (7, .int (oI v7))]) (hf : f_X10_fewest_b116 k82 v1 v2 v3 v4 v5 v6 v7 σ = some q) : W p l e (rmk 5 144) s m args below meth c H locs 0 0 Q (F0 m 116 ls []) := by
  unfold f_X10_fewest_b116 at hf
  refine r_iinc C dX10_fewest_116 hl (k := 7) rfl (by decide) (lv' := [(7, .int (oI (v7 + 1))), (0, .ref (G.1 41)), (1, .int (oI v1)), (2, .int (oI v2)), (3, .int (oI v3)), (4, .int (oI v4)), (5, .int (oI v5)), (6, .int (oI v6))]) rfl (fun ls hl => ?_)
  refine lv_goto C.1 C.2.1 (tgt := 82) dX10_fewest_119 (by decide) ?_
  exact hk82 v1 v2 v3 v4 v5 v6 (v7 + 1) S (lv_sub hl [1, 2, 3, 4, 5, 6, 7, 0] rfl) hf
set_option maxRecDepth 100000 in
set_option maxHeartbeats 4000000 in
theorem b_X10_fewest_b195 (C : Cx p s m args c RX10 cX10_fewest 8) {q : Int × Sg} {k161 : Int → Int → Int → Int → Sg → Option (Int × Sg)} (hend : EndR p l e (rmk 5 144) s m args below meth c Q G false τ cX10_fewest .ireturn [.int (oI q.1)] q.2) (hk161 : ∀ {H : Heap} {locs : List Loc} {ls : Array Slot} {σ : Sg} (v1 : Int) (v2 : Int) (v3 : Int) (v7 : Int), St G false τ σ s H locs → lv_has ls 8 [(0, .ref (G.1 41)), (1, .int (oI v1)), (2, .int (oI v2)), (3, .int (oI v3)), (7, .int (oI v7))] → k161 v1 v2 v3 v7 σ = some q → W p l e (rmk 5 144) s m args below meth c H locs 0 0 Q (F0 m 161 ls [])) {H : Heap} {locs : List Loc} {ls : Array Slot} {σ : Sg} (v1 : Int) (v2 : Int) (v3 : Int) (v7 : Int) (S : St G false τ σ s H locs) (hl : lv_has ls 8 [(0, .ref (G.1 41)), (1, .int (oI v1)), (2, .int (oI v2)), (3, .int (oI v3)), (7, .int (oI v7))]) (hf : f_X10_fewest_b195 k161 v1 v2 v3 v7 σ = some q) : W p l e (rmk 5 144) s m args below meth c H locs 0 0 Q (F0 m 195 ls []) := by
  unfold f_X10_fewest_b195 at hf
  refine r_iinc C dX10_fewest_195 hl (k := 4) rfl (by decide) (lv' := [(7, .int (oI (v7 + 1))), (0, .ref (G.1 41)), (1, .int (oI v1)), (2, .int (oI v2)), (3, .int (oI v3))]) rfl (fun ls hl => ?_)
  refine lv_goto C.1 C.2.1 (tgt := 161) dX10_fewest_198 (by decide) ?_
  exact hk161 v1 v2 v3 (v7 + 1) S (lv_sub hl [1, 2, 3, 4, 0] rfl) hf
set_option maxRecDepth 100000 in
set_option maxHeartbeats 4000000 in
theorem b_X10_fewest_b161 (C : Cx p s m args c RX10 cX10_fewest 8) {q : Int × Sg} (hend : EndR p l e (rmk 5 144) s m args below meth c Q G false τ cX10_fewest .ireturn [.int (oI q.1)] q.2) : ∀ (n : Nat) {H : Heap} {locs : List Loc} {ls : Array Slot} {σ : Sg} (v1 : Int) (v2 : Int) (v3 : Int) (v7 : Int) (S : St G false τ σ s H locs) (hl : lv_has ls 8 [(0, .ref (G.1 41)), (1, .int (oI v1)), (2, .int (oI v2)), (3, .int (oI v3)), (7, .int (oI v7))]) (hf : f_X10_fewest_b161 n v1 v2 v3 v7 σ = some q), W p l e (rmk 5 144) s m args below meth c H locs 0 0 Q (F0 m 161 ls []) := by
  intro n
  induction n with
  | zero => intro H locs ls σ v1 v2 v3 v7 S hl hf; cases hf
  | succ n ih =>
    intro H locs ls σ v1 v2 v3 v7 S hl hf
    have hk161 := @ih
    rw [f_X10_fewest_b161] at hf
    refine lv_iload C.1 C.2.1 dX10_fewest_161 (lv_at hl 4 rfl) ?_
    refine r_bipush C dX10_fewest_163 (by decide) ?_
    refine r_icmp_ge C rfl (show w32 24 = 24 by decide) (tgt := 201) dX10_fewest_165 (by decide) (fun h26 => ?_) (fun h26 => ?_)
    · replace hf := if_t hf h26
      refine lv_iload_n C.1 C.2.1 dX10_fewest_168 rfl (lv_at hl 3 rfl) ?_
      refine lv_iload C.1 C.2.1 dX10_fewest_169 (lv_at hl 4 rfl) ?_
      obtain ⟨q20, hc21, hf⟩ := bd_o hf
      refine r_callSv C S (As := [.int (oI v3), .int (oI v7)]) (rest := []) (ct_X10_has l G τ hc21) mi_X10_has tw_1285 ms_X10_has ⟨rfl, rfl⟩ ⟨Nat.le_of_ble_eq_true rfl, Nat.le_of_ble_eq_true rfl⟩ ⟨Nat.zero_le _, Nat.zero_le _⟩ rfl hl.1 rfl (Nat.le_of_ble_eq_true rfl) dX10_fewest_171 (fun H locs S => ?_)
      refine r_if_eq C rfl (tgt := 195) dX10_fewest_174 (by decide) (fun h25 => ?_) (fun h25 => ?_)
      · replace hf := if_t hf h25
        exact b_X10_fewest_b195 C hend hk161 v1 v2 v3 v7 S (lv_sub hl [0, 1, 2, 3, 4] rfl) hf
      · replace hf := if_f hf h25
        refine lv_aload_n C.1 C.2.1 dX10_fewest_177 rfl (lv_at hl 0 rfl) ?_
        refine lv_iload_n C.1 C.2.1 dX10_fewest_178 rfl (lv_at hl 1 rfl) ?_
        refine lv_iload_n C.1 C.2.1 dX10_fewest_179 rfl (lv_at hl 2 rfl) ?_
        refine r_iconst C dX10_fewest_180 ?_
        refine lv_iload C.1 C.2.1 dX10_fewest_181 (lv_at hl 4 rfl) ?_
        refine r_ishl C (y1 := (u32 v7 % 32)) rfl dX10_fewest_183 ?_
        refine r_iconst C dX10_fewest_184 ?_
        refine r_ixor C rfl (show u32 (-1) = 4294967295 by decide) dX10_fewest_185 ?_
        refine r_iand C rfl (u32_nat (nb_xor (u32_lt _) (show 4294967295 < 4294967296 by decide))) dX10_fewest_186 ?_
        obtain ⟨q22, hc23, hf⟩ := bd_o hf
        refine r_callVv C S (As := [.int (oI v1), .int (oI ((((u32 v2) &&& ((u32 (1 * ((2 ^ (u32 v7 % 32) : Nat) : Int))) ^^^ 4294967295) : Nat) : Int)))]) (rest := []) (ct_X10_isByOneMore l G τ hc23) mi_X10_isByOneMore tw_1578 mv_X10_isByOneMore (rvX10 S) ⟨rfl, rfl⟩ ⟨Nat.le_of_ble_eq_true rfl, Nat.le_of_ble_eq_true rfl⟩ ⟨Nat.zero_le _, Nat.zero_le _⟩ rfl hl.1 rfl (Nat.le_of_ble_eq_true rfl) dX10_fewest_187 (fun H locs S => ?_)
        refine r_if_eq C rfl (tgt := 195) dX10_fewest_190 (by decide) (fun h24 => ?_) (fun h24 => ?_)
        · replace hf := if_t hf h24
          exact b_X10_fewest_b195 C hend hk161 v1 v2 v3 v7 S (lv_sub hl [0, 1, 2, 3, 4] rfl) hf
        · replace hf := if_f hf h24
          refine r_iconst C dX10_fewest_193 ?_
          cases hf
          exact hend _ _ _ _ S dX10_fewest_194
    · replace hf := if_f hf h26
      refine r_bipush C dX10_fewest_201 (by decide) ?_
      cases hf
      exact hend _ _ _ _ S dX10_fewest_203
set_option maxRecDepth 100000 in
set_option maxHeartbeats 4000000 in
theorem b_X10_fewest_b158 (C : Cx p s m args c RX10 cX10_fewest 8) {q : Int × Sg} (hend : EndR p l e (rmk 5 144) s m args below meth c Q G false τ cX10_fewest .ireturn [.int (oI q.1)] q.2) {H : Heap} {locs : List Loc} {ls : Array Slot} {σ : Sg} (v1 : Int) (v2 : Int) (v3 : Int) (S : St G false τ σ s H locs) (hl : lv_has ls 8 [(0, .ref (G.1 41)), (1, .int (oI v1)), (2, .int (oI v2)), (3, .int (oI v3))]) (hf : f_X10_fewest_b158 v1 v2 v3 σ = some q) : W p l e (rmk 5 144) s m args below meth c H locs 0 0 Q (F0 m 158 ls []) := by
  unfold f_X10_fewest_b158 at hf
  refine r_iconst C dX10_fewest_158 ?_
  refine lv_istore C.1 C.2.1 dX10_fewest_159 hl (by decide) (lv' := [(7, .int (oI 0)), (0, .ref (G.1 41)), (1, .int (oI v1)), (2, .int (oI v2)), (3, .int (oI v3))]) rfl (fun ls hl => ?_)
  exact b_X10_fewest_b161 C hend FUEL v1 v2 v3 0 S (lv_sub hl [1, 2, 3, 4, 0] rfl) hf
set_option maxRecDepth 100000 in
set_option maxHeartbeats 4000000 in
theorem b_X10_fewest_b122 (C : Cx p s m args c RX10 cX10_fewest 8) {q : Int × Sg} (hend : EndR p l e (rmk 5 144) s m args below meth c Q G false τ cX10_fewest .ireturn [.int (oI q.1)] q.2) {H : Heap} {locs : List Loc} {ls : Array Slot} {σ : Sg} (v1 : Int) (v2 : Int) (v3 : Int) (v4 : Int) (v5 : Int) (v6 : Int) (S : St G false τ σ s H locs) (hl : lv_has ls 8 [(0, .ref (G.1 41)), (1, .int (oI v1)), (2, .int (oI v2)), (3, .int (oI v3)), (4, .int (oI v4)), (5, .int (oI v5)), (6, .int (oI v6))]) (hf : f_X10_fewest_b122 v1 v2 v3 v4 v5 v6 σ = some q) : W p l e (rmk 5 144) s m args below meth c H locs 0 0 Q (F0 m 122 ls []) := by
  unfold f_X10_fewest_b122 at hf
  refine lv_iload C.1 C.2.1 dX10_fewest_122 (lv_at hl 6 rfl) ?_
  refine r_iconst C dX10_fewest_124 ?_
  refine r_icmp_eq C rfl (show w32 (-1) = (-1) by decide) (tgt := 158) dX10_fewest_125 (by decide) (fun h31 => ?_) (fun h31 => ?_)
  · replace hf := if_t hf h31
    exact b_X10_fewest_b158 C hend v1 v2 v3 S (lv_sub hl [0, 1, 2, 3] rfl) hf
  · replace hf := if_f hf h31
    refine lv_iload C.1 C.2.1 dX10_fewest_128 (lv_at hl 4 rfl) ?_
    refine lv_aload_n C.1 C.2.1 dX10_fewest_130 rfl (lv_at hl 0 rfl) ?_
    refine g10_sum C S tw_1080 dX10_fewest_131 ?_
    refine lv_iload C.1 C.2.1 dX10_fewest_134 (lv_at hl 5 rfl) ?_
    obtain ⟨hi27, hf⟩ := ck_o hf
    refine a_iald C S ar_47 hi27 dX10_fewest_136 ?_
    refine r_isub C dX10_fewest_137 ?_
    refine lv_aload_n C.1 C.2.1 dX10_fewest_138 rfl (lv_at hl 0 rfl) ?_
    refine g10_sum C S tw_1080 dX10_fewest_139 ?_
    refine lv_iload C.1 C.2.1 dX10_fewest_142 (lv_at hl 6 rfl) ?_
    obtain ⟨hi28, hf⟩ := ck_o hf
    refine a_iald C S ar_47 hi28 dX10_fewest_144 ?_
    refine r_isub C dX10_fewest_145 ?_
    refine lv_aload_n C.1 C.2.1 dX10_fewest_146 rfl (lv_at hl 0 rfl) ?_
    refine g10_limit C S tw_1085 dX10_fewest_147 ?_
    refine lv_iload_n C.1 C.2.1 dX10_fewest_150 rfl (lv_at hl 1 rfl) ?_
    obtain ⟨hi29, hf⟩ := ck_o hf
    refine a_iald C S ar_52 hi29 dX10_fewest_151 ?_
    refine r_icmp_le C rfl rfl (tgt := 158) dX10_fewest_152 (by decide) (fun h30 => ?_) (fun h30 => ?_)
    · replace hf := if_t hf h30
      exact b_X10_fewest_b158 C hend v1 v2 v3 S (lv_sub hl [0, 1, 2, 3] rfl) hf
    · replace hf := if_f hf h30
      refine r_bipush C dX10_fewest_155 (by decide) ?_
      cases hf
      exact hend _ _ _ _ S dX10_fewest_157
set_option maxRecDepth 100000 in
set_option maxHeartbeats 4000000 in
theorem b_X10_fewest_b82 (C : Cx p s m args c RX10 cX10_fewest 8) {q : Int × Sg} (hend : EndR p l e (rmk 5 144) s m args below meth c Q G false τ cX10_fewest .ireturn [.int (oI q.1)] q.2) : ∀ (n : Nat) {H : Heap} {locs : List Loc} {ls : Array Slot} {σ : Sg} (v1 : Int) (v2 : Int) (v3 : Int) (v4 : Int) (v5 : Int) (v6 : Int) (v7 : Int) (S : St G false τ σ s H locs) (hl : lv_has ls 8 [(0, .ref (G.1 41)), (1, .int (oI v1)), (2, .int (oI v2)), (3, .int (oI v3)), (4, .int (oI v4)), (5, .int (oI v5)), (6, .int (oI v6)), (7, .int (oI v7))]) (hf : f_X10_fewest_b82 n v1 v2 v3 v4 v5 v6 v7 σ = some q), W p l e (rmk 5 144) s m args below meth c H locs 0 0 Q (F0 m 82 ls []) := by
  intro n
  induction n with
  | zero => intro H locs ls σ v1 v2 v3 v4 v5 v6 v7 S hl hf; cases hf
  | succ n ih =>
    intro H locs ls σ v1 v2 v3 v4 v5 v6 v7 S hl hf
    have hk82 := @ih
    rw [f_X10_fewest_b82] at hf
    refine lv_iload C.1 C.2.1 dX10_fewest_82 (lv_at hl 7 rfl) ?_
    refine r_bipush C dX10_fewest_84 (by decide) ?_
    refine r_icmp_ge C rfl (show w32 24 = 24 by decide) (tgt := 122) dX10_fewest_86 (by decide) (fun h32 => ?_) (fun h32 => ?_)
    · replace hf := if_t hf h32
      refine lv_iload_n C.1 C.2.1 dX10_fewest_89 rfl (lv_at hl 3 rfl) ?_
      refine lv_iload C.1 C.2.1 dX10_fewest_90 (lv_at hl 7 rfl) ?_
      obtain ⟨q14, hc15, hf⟩ := bd_o hf
      refine r_callSv C S (As := [.int (oI v3), .int (oI v7)]) (rest := []) (ct_X10_has l G τ hc15) mi_X10_has tw_1285 ms_X10_has ⟨rfl, rfl⟩ ⟨Nat.le_of_ble_eq_true rfl, Nat.le_of_ble_eq_true rfl⟩ ⟨Nat.zero_le _, Nat.zero_le _⟩ rfl hl.1 rfl (Nat.le_of_ble_eq_true rfl) dX10_fewest_92 (fun H locs S => ?_)
      refine r_if_eq C rfl (tgt := 116) dX10_fewest_95 (by decide) (fun h19 => ?_) (fun h19 => ?_)
      · replace hf := if_t hf h19
        exact b_X10_fewest_b116 C hend hk82 v1 v2 v3 v4 v5 v6 v7 S (lv_sub hl [0, 1, 2, 3, 4, 5, 6, 7] rfl) hf
      · replace hf := if_f hf h19
        refine lv_aload_n C.1 C.2.1 dX10_fewest_98 rfl (lv_at hl 0 rfl) ?_
        refine lv_iload_n C.1 C.2.1 dX10_fewest_99 rfl (lv_at hl 1 rfl) ?_
        refine lv_iload_n C.1 C.2.1 dX10_fewest_100 rfl (lv_at hl 2 rfl) ?_
        refine r_iconst C dX10_fewest_101 ?_
        refine lv_iload C.1 C.2.1 dX10_fewest_102 (lv_at hl 7 rfl) ?_
        refine r_ishl C (y1 := (u32 v7 % 32)) rfl dX10_fewest_104 ?_
        refine r_iconst C dX10_fewest_105 ?_
        refine r_ixor C rfl (show u32 (-1) = 4294967295 by decide) dX10_fewest_106 ?_
        refine r_iand C rfl (u32_nat (nb_xor (u32_lt _) (show 4294967295 < 4294967296 by decide))) dX10_fewest_107 ?_
        obtain ⟨q16, hc17, hf⟩ := bd_o hf
        refine r_callVv C S (As := [.int (oI v1), .int (oI ((((u32 v2) &&& ((u32 (1 * ((2 ^ (u32 v7 % 32) : Nat) : Int))) ^^^ 4294967295) : Nat) : Int)))]) (rest := []) (ct_X10_isPassedBy l G τ hc17) mi_X10_isPassedBy tw_1570 mv_X10_isPassedBy (rvX10 S) ⟨rfl, rfl⟩ ⟨Nat.le_of_ble_eq_true rfl, Nat.le_of_ble_eq_true rfl⟩ ⟨Nat.zero_le _, Nat.zero_le _⟩ rfl hl.1 rfl (Nat.le_of_ble_eq_true rfl) dX10_fewest_108 (fun H locs S => ?_)
        refine r_if_ne C rfl (tgt := 116) dX10_fewest_111 (by decide) (fun h18 => ?_) (fun h18 => ?_)
        · replace hf := if_t hf h18
          refine r_iconst C dX10_fewest_114 ?_
          cases hf
          exact hend _ _ _ _ S dX10_fewest_115
        · replace hf := if_f hf h18
          exact b_X10_fewest_b116 C hend hk82 v1 v2 v3 v4 v5 v6 v7 S (lv_sub hl [0, 1, 2, 3, 4, 5, 6, 7] rfl) hf
    · replace hf := if_f hf h32
      exact b_X10_fewest_b122 C hend v1 v2 v3 v4 v5 v6 S (lv_sub hl [0, 1, 2, 3, 4, 5, 6] rfl) hf
set_option maxRecDepth 100000 in
set_option maxHeartbeats 4000000 in
theorem ct_X10_fewest (l : Launch) (G : Gd) (τ : Sg) {v1 : Int} {σ : Sg} {q : Int × Sg} (hf : f_X10_fewest v1 σ = some q) : Ctr l yX10_fewest cX10_fewest 8 (some .int) (rmk 5 144) G false τ [.ref (G.1 41), .int (oI v1)] σ q.2 (some (.int (oI q.1))) := by
  unfold f_X10_fewest at hf
  refine CtrI.of (own := RX10) (plainFor_of_name (by decide)) (Nat.le_of_ble_eq_true rfl) rfl (fun p e s m below meth c Q ls C hl S hend => ?_)
  have hl : lv_has ls 8 [(0, .ref (G.1 41)), (1, .int (oI v1))] := hl
  refine lv_aload_n C.1 C.2.1 dX10_fewest_0 rfl (lv_at hl 0 rfl) ?_
  refine r_iconst C dX10_fewest_1 ?_
  refine p10_thrown C S tw_1061 dX10_fewest_2 (fun H locs S => ?_)
  obtain ⟨σ1, S, hf⟩ := wr_s S hf
  refine lv_aload_n C.1 C.2.1 dX10_fewest_5 rfl (lv_at hl 0 rfl) ?_
  refine lv_iload_n C.1 C.2.1 dX10_fewest_6 rfl (lv_at hl 1 rfl) ?_
  obtain ⟨q2, hc3, hf⟩ := bd_o hf
  refine r_callVv C S (As := [.int (oI v1)]) (rest := []) (ct_X10_isTreaty l G τ hc3) mi_X10_isTreaty tw_1373 mv_X10_isTreaty (rvX10 S) ⟨rfl, rfl⟩ ⟨Nat.le_of_ble_eq_true rfl, Nat.le_of_ble_eq_true rfl⟩ ⟨Nat.zero_le _, Nat.zero_le _⟩ rfl hl.1 rfl (Nat.le_of_ble_eq_true rfl) dX10_fewest_7 (fun H locs S => ?_)
  refine r_if_ne C rfl (tgt := 15) dX10_fewest_10 (by decide) (fun h35 => ?_) (fun h35 => ?_)
  · replace hf := if_t hf h35
    refine r_iconst C dX10_fewest_13 ?_
    cases hf
    exact hend _ _ _ _ S dX10_fewest_14
  · replace hf := if_f hf h35
    refine lv_aload_n C.1 C.2.1 dX10_fewest_15 rfl (lv_at hl 0 rfl) ?_
    refine lv_iload_n C.1 C.2.1 dX10_fewest_16 rfl (lv_at hl 1 rfl) ?_
    obtain ⟨q4, hc5, hf⟩ := bd_o hf
    refine r_callVv C S (As := [.int (oI v1)]) (rest := []) (ct_X10_ofTreaty l G τ hc5) mi_X10_ofTreaty tw_1277 mv_X10_ofTreaty (rvX10 S) ⟨rfl, rfl⟩ ⟨Nat.le_of_ble_eq_true rfl, Nat.le_of_ble_eq_true rfl⟩ ⟨Nat.zero_le _, Nat.zero_le _⟩ rfl hl.1 rfl (Nat.le_of_ble_eq_true rfl) dX10_fewest_17 (fun H locs S => ?_)
    refine lv_istore_n C.1 C.2.1 dX10_fewest_20 rfl hl (by decide) (lv' := [(2, .int (oI q4)), (0, .ref (G.1 41)), (1, .int (oI v1))]) rfl (fun ls hl => ?_)
    refine lv_aload_n C.1 C.2.1 dX10_fewest_21 rfl (lv_at hl 1 rfl) ?_
    refine lv_iload_n C.1 C.2.1 dX10_fewest_22 rfl (lv_at hl 2 rfl) ?_
    refine lv_iload_n C.1 C.2.1 dX10_fewest_23 rfl (lv_at hl 0 rfl) ?_
    obtain ⟨q6, hc7, hf⟩ := bd_o hf
    refine r_callVv C S (As := [.int (oI v1), .int (oI q4)]) (rest := []) (ct_X10_isPassedBy l G τ hc7) mi_X10_isPassedBy tw_1570 mv_X10_isPassedBy (rvX10 S) ⟨rfl, rfl⟩ ⟨Nat.le_of_ble_eq_true rfl, Nat.le_of_ble_eq_true rfl⟩ ⟨Nat.zero_le _, Nat.zero_le _⟩ rfl hl.1 rfl (Nat.le_of_ble_eq_true rfl) dX10_fewest_24 (fun H locs S => ?_)
    refine r_if_ne C rfl (tgt := 32) dX10_fewest_27 (by decide) (fun h34 => ?_) (fun h34 => ?_)
    · replace hf := if_t hf h34
      refine r_iconst C dX10_fewest_30 ?_
      cases hf
      exact hend _ _ _ _ S dX10_fewest_31
    · replace hf := if_f hf h34
      refine lv_aload_n C.1 C.2.1 dX10_fewest_32 rfl (lv_at hl 1 rfl) ?_
      refine g10_bestSet C S tw_1098 dX10_fewest_33 ?_
      refine lv_istore_n C.1 C.2.1 dX10_fewest_36 rfl hl (by decide) (lv' := [(3, .int (oI (q6.2 41 37))), (2, .int (oI q4)), (0, .ref (G.1 41)), (1, .int (oI v1))]) rfl (fun ls hl => ?_)
      refine lv_aload_n C.1 C.2.1 dX10_fewest_37 rfl (lv_at hl 2 rfl) ?_
      refine g10_bestSum C S tw_1097 dX10_fewest_38 ?_
      refine lv_istore C.1 C.2.1 dX10_fewest_41 hl (by decide) (lv' := [(4, .int (oI (q6.2 41 36))), (3, .int (oI (q6.2 41 37))), (2, .int (oI q4)), (0, .ref (G.1 41)), (1, .int (oI v1))]) rfl (fun ls hl => ?_)
      refine lv_aload_n C.1 C.2.1 dX10_fewest_43 rfl (lv_at hl 3 rfl) ?_
      refine lv_iload_n C.1 C.2.1 dX10_fewest_44 rfl (lv_at hl 1 rfl) ?_
      refine r_iconst C dX10_fewest_45 ?_
      obtain ⟨q8, hc9, hf⟩ := bd_o hf
      refine r_callVv C S (As := [.int (oI (q6.2 41 37)), .int (oI ((-1)))]) (rest := []) (ct_X10_greatestOf l G τ hc9) mi_X10_greatestOf tw_1574 mv_X10_greatestOf (rvX10 S) ⟨rfl, rfl⟩ ⟨Nat.le_of_ble_eq_true rfl, Nat.le_of_ble_eq_true rfl⟩ ⟨Nat.zero_le _, Nat.zero_le _⟩ rfl hl.1 rfl (Nat.le_of_ble_eq_true rfl) dX10_fewest_46 (fun H locs S => ?_)
      refine lv_istore C.1 C.2.1 dX10_fewest_49 hl (by decide) (lv' := [(5, .int (oI q8)), (4, .int (oI (q6.2 41 36))), (3, .int (oI (q6.2 41 37))), (2, .int (oI q4)), (0, .ref (G.1 41)), (1, .int (oI v1))]) rfl (fun ls hl => ?_)
      refine lv_aload_n C.1 C.2.1 dX10_fewest_51 rfl (lv_at hl 4 rfl) ?_
      refine lv_iload_n C.1 C.2.1 dX10_fewest_52 rfl (lv_at hl 2 rfl) ?_
      refine lv_iload C.1 C.2.1 dX10_fewest_53 (lv_at hl 0 rfl) ?_
      obtain ⟨q10, hc11, hf⟩ := bd_o hf
      refine r_callVv C S (As := [.int (oI (q6.2 41 37)), .int (oI q8)]) (rest := []) (ct_X10_greatestOf l G τ hc11) mi_X10_greatestOf tw_1574 mv_X10_greatestOf (rvX10 S) ⟨rfl, rfl⟩ ⟨Nat.le_of_ble_eq_true rfl, Nat.le_of_ble_eq_true rfl⟩ ⟨Nat.zero_le _, Nat.zero_le _⟩ rfl hl.1 rfl (Nat.le_of_ble_eq_true rfl) dX10_fewest_55 (fun H locs S => ?_)
      refine lv_istore C.1 C.2.1 dX10_fewest_58 hl (by decide) (lv' := [(6, .int (oI q10)), (5, .int (oI q8)), (4, .int (oI (q6.2 41 36))), (3, .int (oI (q6.2 41 37))), (2, .int (oI q4)), (0, .ref (G.1 41)), (1, .int (oI v1))]) rfl (fun ls hl => ?_)
      refine lv_iload C.1 C.2.1 dX10_fewest_60 (lv_at hl 2 rfl) ?_
      refine lv_aload_n C.1 C.2.1 dX10_fewest_62 rfl (lv_at hl 5 rfl) ?_
      refine g10_sum C S tw_1080 dX10_fewest_63 ?_
      refine lv_iload C.1 C.2.1 dX10_fewest_66 (lv_at hl 1 rfl) ?_
      obtain ⟨hi12, hf⟩ := ck_o hf
      refine a_iald C S ar_47 hi12 dX10_fewest_68 ?_
      refine r_isub C dX10_fewest_69 ?_
      refine lv_aload_n C.1 C.2.1 dX10_fewest_70 rfl (lv_at hl 5 rfl) ?_
      refine g10_limit C S tw_1085 dX10_fewest_71 ?_
      refine lv_iload_n C.1 C.2.1 dX10_fewest_74 rfl (lv_at hl 6 rfl) ?_
      obtain ⟨hi13, hf⟩ := ck_o hf
      refine a_iald C S ar_52 hi13 dX10_fewest_75 ?_
      refine r_icmp_gt C rfl rfl (tgt := 122) dX10_fewest_76 (by decide) (fun h33 => ?_) (fun h33 => ?_)
      · replace hf := if_t hf h33
        refine r_iconst C dX10_fewest_79 ?_
        refine lv_istore C.1 C.2.1 dX10_fewest_80 hl (by decide) (lv' := [(7, .int (oI 0)), (6, .int (oI q10)), (5, .int (oI q8)), (4, .int (oI (q6.2 41 36))), (3, .int (oI (q6.2 41 37))), (2, .int (oI q4)), (0, .ref (G.1 41)), (1, .int (oI v1))]) rfl (fun ls hl => ?_)
        exact b_X10_fewest_b82 C hend FUEL v1 q4 (q6.2 41 37) (q6.2 41 36) q8 q10 0 S (lv_sub hl [6, 7, 5, 4, 3, 2, 1, 0] rfl) hf
      · replace hf := if_f hf h33
        exact b_X10_fewest_b122 C hend v1 q4 (q6.2 41 37) (q6.2 41 36) q8 q10 S (lv_sub hl [5, 6, 4, 3, 2, 1, 0] rfl) hf
set_option maxRecDepth 100000 in
set_option maxHeartbeats 4000000 in
theorem b_X10_nearest_b66 (C : Cx p s m args c RX10 cX10_nearest 4) {q : Int × Sg} {k20 : Int → Int → Int → Sg → Option (Int × Sg)} (hend : EndR p l e (rmk 1 22) s m args below meth c Q G false τ cX10_nearest .ireturn [.int (oI q.1)] q.2) (hk20 : ∀ {H : Heap} {locs : List Loc} {ls : Array Slot} {σ : Sg} (v1 : Int) (v2 : Int) (v3 : Int), St G false τ σ s H locs → lv_has ls 4 [(0, .ref (G.1 41)), (1, .int (oI v1)), (2, .int (oI v2)), (3, .int (oI v3))] → k20 v1 v2 v3 σ = some q → W p l e (rmk 1 22) s m args below meth c H locs 0 0 Q (F0 m 20 ls [])) {H : Heap} {locs : List Loc} {ls : Array Slot} {σ : Sg} (v1 : Int) (v2 : Int) (v3 : Int) (S : St G false τ σ s H locs) (hl : lv_has ls 4 [(0, .ref (G.1 41)), (1, .int (oI v1)), (2, .int (oI v2)), (3, .int (oI v3))]) (hf : f_X10_nearest_b66 k20 v1 v2 v3 σ = some q) : W p l e (rmk 1 22) s m args below meth c H locs 0 0 Q (F0 m 66 ls []) := by
  unfold f_X10_nearest_b66 at hf
  refine r_iinc C dX10_nearest_66 hl (k := 3) rfl (by decide) (lv' := [(3, .int (oI (v3 + 1))), (0, .ref (G.1 41)), (1, .int (oI v1)), (2, .int (oI v2))]) rfl (fun ls hl => ?_)
  refine lv_goto C.1 C.2.1 (tgt := 20) dX10_nearest_69 (by decide) ?_
  exact hk20 v1 v2 (v3 + 1) S (lv_sub hl [1, 2, 3, 0] rfl) hf
set_option maxRecDepth 100000 in
set_option maxHeartbeats 4000000 in
theorem b_X10_nearest_b64 (C : Cx p s m args c RX10 cX10_nearest 4) {q : Int × Sg} {k20 : Int → Int → Int → Sg → Option (Int × Sg)} (hend : EndR p l e (rmk 1 22) s m args below meth c Q G false τ cX10_nearest .ireturn [.int (oI q.1)] q.2) (hk20 : ∀ {H : Heap} {locs : List Loc} {ls : Array Slot} {σ : Sg} (v1 : Int) (v2 : Int) (v3 : Int), St G false τ σ s H locs → lv_has ls 4 [(0, .ref (G.1 41)), (1, .int (oI v1)), (2, .int (oI v2)), (3, .int (oI v3))] → k20 v1 v2 v3 σ = some q → W p l e (rmk 1 22) s m args below meth c H locs 0 0 Q (F0 m 20 ls [])) {H : Heap} {locs : List Loc} {ls : Array Slot} {σ : Sg} (v1 : Int) (v3 : Int) (S : St G false τ σ s H locs) (hl : lv_has ls 4 [(0, .ref (G.1 41)), (1, .int (oI v1)), (3, .int (oI v3))]) (hf : f_X10_nearest_b64 k20 v1 v3 σ = some q) : W p l e (rmk 1 22) s m args below meth c H locs 0 0 Q (F0 m 64 ls []) := by
  unfold f_X10_nearest_b64 at hf
  refine lv_iload_n C.1 C.2.1 dX10_nearest_64 rfl (lv_at hl 2 rfl) ?_
  refine lv_istore_n C.1 C.2.1 dX10_nearest_65 rfl hl (by decide) (lv' := [(2, .int (oI v3)), (0, .ref (G.1 41)), (1, .int (oI v1)), (3, .int (oI v3))]) rfl (fun ls hl => ?_)
  exact b_X10_nearest_b66 C hend hk20 v1 v3 v3 S (lv_sub hl [1, 2, 0, 3] rfl) hf
set_option maxRecDepth 100000 in
set_option maxHeartbeats 4000000 in
theorem b_X10_nearest_b20 (C : Cx p s m args c RX10 cX10_nearest 4) {q : Int × Sg} (hend : EndR p l e (rmk 1 22) s m args below meth c Q G false τ cX10_nearest .ireturn [.int (oI q.1)] q.2) : ∀ (n : Nat) {H : Heap} {locs : List Loc} {ls : Array Slot} {σ : Sg} (v1 : Int) (v2 : Int) (v3 : Int) (S : St G false τ σ s H locs) (hl : lv_has ls 4 [(0, .ref (G.1 41)), (1, .int (oI v1)), (2, .int (oI v2)), (3, .int (oI v3))]) (hf : f_X10_nearest_b20 n v1 v2 v3 σ = some q), W p l e (rmk 1 22) s m args below meth c H locs 0 0 Q (F0 m 20 ls []) := by
  intro n
  induction n with
  | zero => intro H locs ls σ v1 v2 v3 S hl hf; cases hf
  | succ n ih =>
    intro H locs ls σ v1 v2 v3 S hl hf
    have hk20 := @ih
    rw [f_X10_nearest_b20] at hf
    refine lv_iload_n C.1 C.2.1 dX10_nearest_20 rfl (lv_at hl 3 rfl) ?_
    refine r_bipush C dX10_nearest_21 (by decide) ?_
    refine r_icmp_ge C rfl (show w32 24 = 24 by decide) (tgt := 72) dX10_nearest_23 (by decide) (fun h13 => ?_) (fun h13 => ?_)
    · replace hf := if_t hf h13
      refine lv_aload_n C.1 C.2.1 dX10_nearest_26 rfl (lv_at hl 0 rfl) ?_
      refine g10_isThere C S tw_1082 dX10_nearest_27 ?_
      refine lv_iload_n C.1 C.2.1 dX10_nearest_30 rfl (lv_at hl 3 rfl) ?_
      obtain ⟨hi4, hf⟩ := ck_o hf
      refine a_zald C S ar_49 hi4 dX10_nearest_31 ?_
      refine r_if_eq C rfl (tgt := 66) dX10_nearest_32 (by decide) (fun h12 => ?_) (fun h12 => ?_)
      · replace hf := if_t hf h12
        exact b_X10_nearest_b66 C hend hk20 v1 v2 v3 S (lv_sub hl [0, 1, 2, 3] rfl) hf
      · replace hf := if_f hf h12
        refine lv_iload_n C.1 C.2.1 dX10_nearest_35 rfl (lv_at hl 3 rfl) ?_
        refine lv_iload_n C.1 C.2.1 dX10_nearest_36 rfl (lv_at hl 1 rfl) ?_
        refine r_icmp_ne C rfl rfl (tgt := 43) dX10_nearest_37 (by decide) (fun h11 => ?_) (fun h11 => ?_)
        · replace hf := if_t hf h11
          refine lv_goto C.1 C.2.1 (tgt := 66) dX10_nearest_40 (by decide) ?_
          exact b_X10_nearest_b66 C hend hk20 v1 v2 v3 S (lv_sub hl [0, 1, 2, 3] rfl) hf
        · replace hf := if_f hf h11
          refine lv_iload_n C.1 C.2.1 dX10_nearest_43 rfl (lv_at hl 2 rfl) ?_
          refine r_bipush C dX10_nearest_44 (by decide) ?_
          refine r_icmp_eq C rfl (show w32 (-2) = (-2) by decide) (tgt := 64) dX10_nearest_46 (by decide) (fun h10 => ?_) (fun h10 => ?_)
          · replace hf := if_t hf h10
            exact b_X10_nearest_b64 C hend hk20 v1 v3 S (lv_sub hl [0, 1, 3] rfl) hf
          · replace hf := if_f hf h10
            refine lv_aload_n C.1 C.2.1 dX10_nearest_49 rfl (lv_at hl 0 rfl) ?_
            refine lv_iload_n C.1 C.2.1 dX10_nearest_50 rfl (lv_at hl 1 rfl) ?_
            refine lv_iload_n C.1 C.2.1 dX10_nearest_51 rfl (lv_at hl 3 rfl) ?_
            obtain ⟨q5, hc6, hf⟩ := bd_o hf
            refine r_callVv C S (As := [.int (oI v1), .int (oI v3)]) (rest := []) (ct_X10_distance l G τ hc6) mi_X10_distance tw_1297 mv_X10_distance (rvX10 S) ⟨rfl, rfl⟩ ⟨Nat.le_of_ble_eq_true rfl, Nat.le_of_ble_eq_true rfl⟩ ⟨Nat.zero_le _, Nat.zero_le _⟩ rfl hl.1 rfl (Nat.le_of_ble_eq_true rfl) dX10_nearest_52 (fun H locs S => ?_)
            refine lv_aload_n C.1 C.2.1 dX10_nearest_55 rfl (lv_at hl 0 rfl) ?_
            refine lv_iload_n C.1 C.2.1 dX10_nearest_56 rfl (lv_at hl 1 rfl) ?_
            refine lv_iload_n C.1 C.2.1 dX10_nearest_57 rfl (lv_at hl 2 rfl) ?_
            obtain ⟨q7, hc8, hf⟩ := bd_o hf
            refine r_callVv C S (As := [.int (oI v1), .int (oI v2)]) (rest := [.int (oI q5)]) (ct_X10_distance l G τ hc8) mi_X10_distance tw_1297 mv_X10_distance (rvX10 S) ⟨rfl, rfl⟩ ⟨Nat.le_of_ble_eq_true rfl, Nat.le_of_ble_eq_true rfl⟩ ⟨Nat.zero_le _, Nat.zero_le _⟩ rfl hl.1 rfl (Nat.le_of_ble_eq_true rfl) dX10_nearest_58 (fun H locs S => ?_)
            refine r_icmp_ge C rfl rfl (tgt := 66) dX10_nearest_61 (by decide) (fun h9 => ?_) (fun h9 => ?_)
            · replace hf := if_t hf h9
              exact b_X10_nearest_b64 C hend hk20 v1 v3 S (lv_sub hl [0, 1, 3] rfl) hf
            · replace hf := if_f hf h9
              exact b_X10_nearest_b66 C hend hk20 v1 v2 v3 S (lv_sub hl [0, 1, 2, 3] rfl) hf
    · replace hf := if_f hf h13
      refine lv_iload_n C.1 C.2.1 dX10_nearest_72 rfl (lv_at hl 2 rfl) ?_
      cases hf
      exact hend _ _ _ _ S dX10_nearest_73
set_option maxRecDepth 100000 in
set_option maxHeartbeats 4000000 in
theorem ct_X10_nearest (l : Launch) (G : Gd) (τ : Sg) {v1 : Int} {σ : Sg} {q : Int × Sg} (hf : f_X10_nearest v1 σ = some q) : Ctr l yX10_nearest cX10_nearest 4 (some .int) (rmk 1 22) G false τ [.ref (G.1 41), .int (oI v1)] σ q.2 (some (.int (oI q.1))) := by
  unfold f_X10_nearest at hf
  refine CtrI.of (own := RX10) (plainFor_of_name (by decide)) (Nat.le_of_ble_eq_true rfl) rfl (fun p e s m below meth c Q ls C hl S hend => ?_)
  have hl : lv_has ls 4 [(0, .ref (G.1 41)), (1, .int (oI v1))] := hl
  refine lv_aload_n C.1 C.2.1 dX10_nearest_0 rfl (lv_at hl 0 rfl) ?_
  refine r_iconst C dX10_nearest_1 ?_
  refine p10_thrown C S tw_1061 dX10_nearest_2 (fun H locs S => ?_)
  obtain ⟨σ1, S, hf⟩ := wr_s S hf
  refine lv_aload_n C.1 C.2.1 dX10_nearest_5 rfl (lv_at hl 0 rfl) ?_
  refine lv_iload_n C.1 C.2.1 dX10_nearest_6 rfl (lv_at hl 1 rfl) ?_
  obtain ⟨q2, hc3, hf⟩ := bd_o hf
  refine r_callVv C S (As := [.int (oI v1)]) (rest := []) (ct_X10_isPolicy l G τ hc3) mi_X10_isPolicy tw_1347 mv_X10_isPolicy (rvX10 S) ⟨rfl, rfl⟩ ⟨Nat.le_of_ble_eq_true rfl, Nat.le_of_ble_eq_true rfl⟩ ⟨Nat.zero_le _, Nat.zero_le _⟩ rfl hl.1 rfl (Nat.le_of_ble_eq_true rfl) dX10_nearest_7 (fun H locs S => ?_)
  refine r_if_ne C rfl (tgt := 15) dX10_nearest_10 (by decide) (fun h14 => ?_) (fun h14 => ?_)
  · replace hf := if_t hf h14
    refine r_iconst C dX10_nearest_13 ?_
    cases hf
    exact hend _ _ _ _ S dX10_nearest_14
  · replace hf := if_f hf h14
    refine r_bipush C dX10_nearest_15 (by decide) ?_
    refine lv_istore_n C.1 C.2.1 dX10_nearest_17 rfl hl (by decide) (lv' := [(2, .int (oI ((-2)))), (0, .ref (G.1 41)), (1, .int (oI v1))]) rfl (fun ls hl => ?_)
    refine r_iconst C dX10_nearest_18 ?_
    refine lv_istore_n C.1 C.2.1 dX10_nearest_19 rfl hl (by decide) (lv' := [(3, .int (oI 0)), (2, .int (oI ((-2)))), (0, .ref (G.1 41)), (1, .int (oI v1))]) rfl (fun ls hl => ?_)
    exact b_X10_nearest_b20 C hend FUEL v1 ((-2)) 0 S (lv_sub hl [2, 3, 1, 0] rfl) hf
set_option maxRecDepth 100000 in
set_option maxHeartbeats 4000000 in
theorem b_X10_couples_b78 (C : Cx p s m args c RX10 cX10_couples 5) {q : Int × Sg} {k22 : Int → Int → Int → Sg → Option (Int × Sg)} {k33 : Int → Int → Int → Int → Sg → Option (Int × Sg)} (hend : EndR p l e (rmk 1 22) s m args below meth c Q G false τ cX10_couples .ireturn [.int (oI q.1)] q.2) (hk22 : ∀ {H : Heap} {locs : List Loc} {ls : Array Slot} {σ : Sg} (v1 : Int) (v2 : Int) (v3 : Int), St G false τ σ s H locs → lv_has ls 5 [(0, .ref (G.1 41)), (1, .int (oI v1)), (2, .int (oI v2)), (3, .int (oI v3))] → k22 v1 v2 v3 σ = some q → W p l e (rmk 1 22) s m args below meth c H locs 0 0 Q (F0 m 22 ls [])) (hk33 : ∀ {H : Heap} {locs : List Loc} {ls : Array Slot} {σ : Sg} (v1 : Int) (v2 : Int) (v3 : Int) (v4 : Int), St G false τ σ s H locs → lv_has ls 5 [(0, .ref (G.1 41)), (1, .int (oI v1)), (2, .int (oI v2)), (3, .int (oI v3)), (4, .int (oI v4))] → k33 v1 v2 v3 v4 σ = some q → W p l e (rmk 1 22) s m args below meth c H locs 0 0 Q (F0 m 33 ls [])) {H : Heap} {locs : List Loc} {ls : Array Slot} {σ : Sg} (v1 : Int) (v3 : Int) (v4 : Int) (w0 : Int) (w1 : Int) (S : St G false τ σ s H locs) (hl : lv_has ls 5 [(0, .ref (G.1 41)), (1, .int (oI v1)), (3, .int (oI v3)), (4, .int (oI v4))]) (hf : f_X10_couples_b78 k22 k33 v1 v3 v4 w0 w1 σ = some q) : W p l e (rmk 1 22) s m args below meth c H locs 0 0 Q (F0 m 78 ls [.int (oI w0), .int (oI w1)]) := by
  unfold f_X10_couples_b78 at hf
  refine r_iadd C dX10_couples_78 ?_
  refine lv_istore_n C.1 C.2.1 dX10_couples_79 rfl hl (by decide) (lv' := [(2, .int (oI (w1 + w0))), (0, .ref (G.1 41)), (1, .int (oI v1)), (3, .int (oI v3)), (4, .int (oI v4))]) rfl (fun ls hl => ?_)
  refine r_iinc C dX10_couples_80 hl (k := 4) rfl (by decide) (lv' := [(4, .int (oI (v4 + 1))), (2, .int (oI (w1 + w0))), (0, .ref (G.1 41)), (1, .int (oI v1)), (3, .int (oI v3))]) rfl (fun ls hl => ?_)
  refine lv_goto C.1 C.2.1 (tgt := 33) dX10_couples_83 (by decide) ?_
  exact hk33 v1 (w1 + w0) v3 (v4 + 1) S (lv_sub hl [2, 3, 1, 4, 0] rfl) hf
set_option maxRecDepth 100000 in
set_option maxHeartbeats 4000000 in
theorem b_X10_couples_b77 (C : Cx p s m args c RX10 cX10_couples 5) {q : Int × Sg} {k22 : Int → Int → Int → Sg → Option (Int × Sg)} {k33 : Int → Int → Int → Int → Sg → Option (Int × Sg)} (hend : EndR p l e (rmk 1 22) s m args below meth c Q G false τ cX10_couples .ireturn [.int (oI q.1)] q.2) (hk22 : ∀ {H : Heap} {locs : List Loc} {ls : Array Slot} {σ : Sg} (v1 : Int) (v2 : Int) (v3 : Int), St G false τ σ s H locs → lv_has ls 5 [(0, .ref (G.1 41)), (1, .int (oI v1)), (2, .int (oI v2)), (3, .int (oI v3))] → k22 v1 v2 v3 σ = some q → W p l e (rmk 1 22) s m args below meth c H locs 0 0 Q (F0 m 22 ls [])) (hk33 : ∀ {H : Heap} {locs : List Loc} {ls : Array Slot} {σ : Sg} (v1 : Int) (v2 : Int) (v3 : Int) (v4 : Int), St G false τ σ s H locs → lv_has ls 5 [(0, .ref (G.1 41)), (1, .int (oI v1)), (2, .int (oI v2)), (3, .int (oI v3)), (4, .int (oI v4))] → k33 v1 v2 v3 v4 σ = some q → W p l e (rmk 1 22) s m args below meth c H locs 0 0 Q (F0 m 33 ls [])) {H : Heap} {locs : List Loc} {ls : Array Slot} {σ : Sg} (v1 : Int) (v3 : Int) (v4 : Int) (w0 : Int) (S : St G false τ σ s H locs) (hl : lv_has ls 5 [(0, .ref (G.1 41)), (1, .int (oI v1)), (3, .int (oI v3)), (4, .int (oI v4))]) (hf : f_X10_couples_b77 k22 k33 v1 v3 v4 w0 σ = some q) : W p l e (rmk 1 22) s m args below meth c H locs 0 0 Q (F0 m 77 ls [.int (oI w0)]) := by
  unfold f_X10_couples_b77 at hf
  refine r_iconst C dX10_couples_77 ?_
  exact b_X10_couples_b78 C hend hk22 hk33 v1 v3 v4 0 w0 S (lv_sub hl [0, 1, 2, 3] rfl) hf
set_option maxRecDepth 100000 in
set_option maxHeartbeats 4000000 in
theorem b_X10_couples_b86 (C : Cx p s m args c RX10 cX10_couples 5) {q : Int × Sg} {k22 : Int → Int → Int → Sg → Option (Int × Sg)} (hend : EndR p l e (rmk 1 22) s m args below meth c Q G false τ cX10_couples .ireturn [.int (oI q.1)] q.2) (hk22 : ∀ {H : Heap} {locs : List Loc} {ls : Array Slot} {σ : Sg} (v1 : Int) (v2 : Int) (v3 : Int), St G false τ σ s H locs → lv_has ls 5 [(0, .ref (G.1 41)), (1, .int (oI v1)), (2, .int (oI v2)), (3, .int (oI v3))] → k22 v1 v2 v3 σ = some q → W p l e (rmk 1 22) s m args below meth c H locs 0 0 Q (F0 m 22 ls [])) {H : Heap} {locs : List Loc} {ls : Array Slot} {σ : Sg} (v1 : Int) (v2 : Int) (v3 : Int) (S : St G false τ σ s H locs) (hl : lv_has ls 5 [(0, .ref (G.1 41)), (1, .int (oI v1)), (2, .int (oI v2)), (3, .int (oI v3))]) (hf : f_X10_couples_b86 k22 v1 v2 v3 σ = some q) : W p l e (rmk 1 22) s m args below meth c H locs 0 0 Q (F0 m 86 ls []) := by
  unfold f_X10_couples_b86 at hf
  refine r_iinc C dX10_couples_86 hl (k := 3) rfl (by decide) (lv' := [(3, .int (oI (v3 + 1))), (0, .ref (G.1 41)), (1, .int (oI v1)), (2, .int (oI v2))]) rfl (fun ls hl => ?_)
  refine lv_goto C.1 C.2.1 (tgt := 22) dX10_couples_89 (by decide) ?_
  exact hk22 v1 v2 (v3 + 1) S (lv_sub hl [1, 2, 3, 0] rfl) hf
set_option maxRecDepth 100000 in
set_option maxHeartbeats 4000000 in
theorem b_X10_couples_b33 (C : Cx p s m args c RX10 cX10_couples 5) {q : Int × Sg} {k22 : Int → Int → Int → Sg → Option (Int × Sg)} (hend : EndR p l e (rmk 1 22) s m args below meth c Q G false τ cX10_couples .ireturn [.int (oI q.1)] q.2) (hk22 : ∀ {H : Heap} {locs : List Loc} {ls : Array Slot} {σ : Sg} (v1 : Int) (v2 : Int) (v3 : Int), St G false τ σ s H locs → lv_has ls 5 [(0, .ref (G.1 41)), (1, .int (oI v1)), (2, .int (oI v2)), (3, .int (oI v3))] → k22 v1 v2 v3 σ = some q → W p l e (rmk 1 22) s m args below meth c H locs 0 0 Q (F0 m 22 ls [])) : ∀ (n : Nat) {H : Heap} {locs : List Loc} {ls : Array Slot} {σ : Sg} (v1 : Int) (v2 : Int) (v3 : Int) (v4 : Int) (S : St G false τ σ s H locs) (hl : lv_has ls 5 [(0, .ref (G.1 41)), (1, .int (oI v1)), (2, .int (oI v2)), (3, .int (oI v3)), (4, .int (oI v4))]) (hf : f_X10_couples_b33 k22 n v1 v2 v3 v4 σ = some q), W p l e (rmk 1 22) s m args below meth c H locs 0 0 Q (F0 m 33 ls []) := by
  intro n
  induction n with
  | zero => intro H locs ls σ v1 v2 v3 v4 S hl hf; cases hf
  | succ n ih =>
    intro H locs ls σ v1 v2 v3 v4 S hl hf
    have hk33 := @ih
    rw [f_X10_couples_b33] at hf
    refine lv_iload C.1 C.2.1 dX10_couples_33 (lv_at hl 4 rfl) ?_
    refine r_bipush C dX10_couples_35 (by decide) ?_
    refine r_icmp_ge C rfl (show w32 24 = 24 by decide) (tgt := 86) dX10_couples_37 (by decide) (fun h9 => ?_) (fun h9 => ?_)
    · replace hf := if_t hf h9
      refine lv_iload_n C.1 C.2.1 dX10_couples_40 rfl (lv_at hl 2 rfl) ?_
      refine lv_aload_n C.1 C.2.1 dX10_couples_41 rfl (lv_at hl 0 rfl) ?_
      refine g10_isThere C S tw_1082 dX10_couples_42 ?_
      refine lv_iload_n C.1 C.2.1 dX10_couples_45 rfl (lv_at hl 3 rfl) ?_
      obtain ⟨hi2, hf⟩ := ck_o hf
      refine a_zald C S ar_49 hi2 dX10_couples_46 ?_
      refine r_if_eq C rfl (tgt := 77) dX10_couples_47 (by decide) (fun h8 => ?_) (fun h8 => ?_)
      · replace hf := if_t hf h8
        exact b_X10_couples_b77 C hend hk22 hk33 v1 v3 v4 v2 S (lv_sub hl [0, 1, 3, 4] rfl) hf
      · replace hf := if_f hf h8
        refine lv_aload_n C.1 C.2.1 dX10_couples_50 rfl (lv_at hl 0 rfl) ?_
        refine g10_isThere C S tw_1082 dX10_couples_51 ?_
        refine lv_iload C.1 C.2.1 dX10_couples_54 (lv_at hl 4 rfl) ?_
        obtain ⟨hi3, hf⟩ := ck_o hf
        refine a_zald C S ar_49 hi3 dX10_couples_56 ?_
        refine r_if_eq C rfl (tgt := 77) dX10_couples_57 (by decide) (fun h7 => ?_) (fun h7 => ?_)
        · replace hf := if_t hf h7
          exact b_X10_couples_b77 C hend hk22 hk33 v1 v3 v4 v2 S (lv_sub hl [0, 1, 3, 4] rfl) hf
        · replace hf := if_f hf h7
          refine lv_aload_n C.1 C.2.1 dX10_couples_60 rfl (lv_at hl 0 rfl) ?_
          refine lv_iload_n C.1 C.2.1 dX10_couples_61 rfl (lv_at hl 3 rfl) ?_
          refine lv_iload C.1 C.2.1 dX10_couples_62 (lv_at hl 4 rfl) ?_
          obtain ⟨q4, hc5, hf⟩ := bd_o hf
          refine r_callVv C S (As := [.int (oI v3), .int (oI v4)]) (rest := [.int (oI v2)]) (ct_X10_distance l G τ hc5) mi_X10_distance tw_1297 mv_X10_distance (rvX10 S) ⟨rfl, rfl⟩ ⟨Nat.le_of_ble_eq_true rfl, Nat.le_of_ble_eq_true rfl⟩ ⟨Nat.zero_le _, Nat.zero_le _⟩ rfl hl.1 rfl (Nat.le_of_ble_eq_true rfl) dX10_couples_64 (fun H locs S => ?_)
          refine lv_iload_n C.1 C.2.1 dX10_couples_67 rfl (lv_at hl 1 rfl) ?_
          refine lv_iload_n C.1 C.2.1 dX10_couples_68 rfl (lv_at hl 1 rfl) ?_
          refine r_imul C dX10_couples_69 ?_
          refine r_icmp_gt C rfl rfl (tgt := 77) dX10_couples_70 (by decide) (fun h6 => ?_) (fun h6 => ?_)
          · replace hf := if_t hf h6
            refine r_iconst C dX10_couples_73 ?_
            refine lv_goto C.1 C.2.1 (tgt := 78) dX10_couples_74 (by decide) ?_
            exact b_X10_couples_b78 C hend hk22 hk33 v1 v3 v4 1 v2 S (lv_sub hl [0, 1, 3, 4] rfl) hf
          · replace hf := if_f hf h6
            exact b_X10_couples_b77 C hend hk22 hk33 v1 v3 v4 v2 S (lv_sub hl [0, 1, 3, 4] rfl) hf
    · replace hf := if_f hf h9
      exact b_X10_couples_b86 C hend hk22 v1 v2 v3 S (lv_sub hl [0, 1, 2, 3] rfl) hf
set_option maxRecDepth 100000 in
set_option maxHeartbeats 4000000 in
theorem b_X10_couples_b22 (C : Cx p s m args c RX10 cX10_couples 5) {q : Int × Sg} (hend : EndR p l e (rmk 1 22) s m args below meth c Q G false τ cX10_couples .ireturn [.int (oI q.1)] q.2) : ∀ (n : Nat) {H : Heap} {locs : List Loc} {ls : Array Slot} {σ : Sg} (v1 : Int) (v2 : Int) (v3 : Int) (S : St G false τ σ s H locs) (hl : lv_has ls 5 [(0, .ref (G.1 41)), (1, .int (oI v1)), (2, .int (oI v2)), (3, .int (oI v3))]) (hf : f_X10_couples_b22 n v1 v2 v3 σ = some q), W p l e (rmk 1 22) s m args below meth c H locs 0 0 Q (F0 m 22 ls []) := by
  intro n
  induction n with
  | zero => intro H locs ls σ v1 v2 v3 S hl hf; cases hf
  | succ n ih =>
    intro H locs ls σ v1 v2 v3 S hl hf
    have hk22 := @ih
    rw [f_X10_couples_b22] at hf
    refine lv_iload_n C.1 C.2.1 dX10_couples_22 rfl (lv_at hl 3 rfl) ?_
    refine r_bipush C dX10_couples_23 (by decide) ?_
    refine r_icmp_ge C rfl (show w32 24 = 24 by decide) (tgt := 92) dX10_couples_25 (by decide) (fun h10 => ?_) (fun h10 => ?_)
    · replace hf := if_t hf h10
      refine lv_iload_n C.1 C.2.1 dX10_couples_28 rfl (lv_at hl 3 rfl) ?_
      refine r_iconst C dX10_couples_29 ?_
      refine r_iadd C dX10_couples_30 ?_
      refine lv_istore C.1 C.2.1 dX10_couples_31 hl (by decide) (lv' := [(4, .int (oI (v3 + 1))), (0, .ref (G.1 41)), (1, .int (oI v1)), (2, .int (oI v2)), (3, .int (oI v3))]) rfl (fun ls hl => ?_)
      exact b_X10_couples_b33 C hend hk22 FUEL v1 v2 v3 (v3 + 1) S (lv_sub hl [1, 2, 3, 4, 0] rfl) hf
    · replace hf := if_f hf h10
      refine lv_iload_n C.1 C.2.1 dX10_couples_92 rfl (lv_at hl 2 rfl) ?_
      cases hf
      exact hend _ _ _ _ S dX10_couples_93
set_option maxRecDepth 100000 in
set_option maxHeartbeats 4000000 in
theorem ct_X10_couples (l : Launch) (G : Gd) (τ : Sg) {v1 : Int} {σ : Sg} {q : Int × Sg} (hf : f_X10_couples v1 σ = some q) : Ctr l yX10_couples cX10_couples 5 (some .int) (rmk 1 22) G false τ [.ref (G.1 41), .int (oI v1)] σ q.2 (some (.int (oI q.1))) := by
  unfold f_X10_couples at hf
  refine CtrI.of (own := RX10) (plainFor_of_name (by decide)) (Nat.le_of_ble_eq_true rfl) rfl (fun p e s m below meth c Q ls C hl S hend => ?_)
  have hl : lv_has ls 5 [(0, .ref (G.1 41)), (1, .int (oI v1))] := hl
  refine lv_aload_n C.1 C.2.1 dX10_couples_0 rfl (lv_at hl 0 rfl) ?_
  refine r_iconst C dX10_couples_1 ?_
  refine p10_thrown C S tw_1061 dX10_couples_2 (fun H locs S => ?_)
  obtain ⟨σ1, S, hf⟩ := wr_s S hf
  refine lv_iload_n C.1 C.2.1 dX10_couples_5 rfl (lv_at hl 1 rfl) ?_
  refine r_if_lt C rfl (tgt := 16) dX10_couples_6 (by decide) (fun h12 => ?_) (fun h12 => ?_)
  · replace hf := if_t hf h12
    refine r_iconst C dX10_couples_16 ?_
    cases hf
    exact hend _ _ _ _ S dX10_couples_17
  · replace hf := if_f hf h12
    refine lv_iload_n C.1 C.2.1 dX10_couples_9 rfl (lv_at hl 1 rfl) ?_
    refine r_sipush C dX10_couples_10 (by decide) ?_
    refine r_icmp_le C rfl (show w32 300 = 300 by decide) (tgt := 18) dX10_couples_13 (by decide) (fun h11 => ?_) (fun h11 => ?_)
    · replace hf := if_t hf h11
      refine r_iconst C dX10_couples_18 ?_
      refine lv_istore_n C.1 C.2.1 dX10_couples_19 rfl hl (by decide) (lv' := [(2, .int (oI 0)), (0, .ref (G.1 41)), (1, .int (oI v1))]) rfl (fun ls hl => ?_)
      refine r_iconst C dX10_couples_20 ?_
      refine lv_istore_n C.1 C.2.1 dX10_couples_21 rfl hl (by decide) (lv' := [(3, .int (oI 0)), (2, .int (oI 0)), (0, .ref (G.1 41)), (1, .int (oI v1))]) rfl (fun ls hl => ?_)
      exact b_X10_couples_b22 C hend FUEL v1 0 0 S (lv_sub hl [2, 3, 1, 0] rfl) hf
    · replace hf := if_f hf h11
      refine r_iconst C dX10_couples_16 ?_
      cases hf
      exact hend _ _ _ _ S dX10_couples_17
set_option maxRecDepth 100000 in
set_option maxHeartbeats 4000000 in
theorem ct_X10_onWay (l : Launch) (G : Gd) (τ : Sg) {v0 : Int} {v1 : Int} {v2 : Int} {v3 : Int} {σ : Sg} {q : Int} (hf : f_X10_onWay v0 v1 v2 v3 σ = some q) : Ctr l yX10_onWay cX10_onWay 6 (some .int) (rmk 0 0) G false τ [.int (oI v0), .int (oI v1), .int (oI v2), .int (oI v3)] σ σ (some (.int (oI q))) := by
  unfold f_X10_onWay at hf
  refine CtrI.of (own := RX10) (plainFor_of_name (by decide)) (Nat.le_of_ble_eq_true rfl) rfl (fun p e s m below meth c Q ls C hl S hend => ?_)
  have hl : lv_has ls 6 [(0, .int (oI v0)), (1, .int (oI v1)), (2, .int (oI v2)), (3, .int (oI v3))] := hl
  refine lv_iload_n C.1 C.2.1 dX10_onWay_0 rfl (lv_at hl 2 rfl) ?_
  refine lv_iload_n C.1 C.2.1 dX10_onWay_1 rfl (lv_at hl 1 rfl) ?_
  refine lv_iload_n C.1 C.2.1 dX10_onWay_2 rfl (lv_at hl 0 rfl) ?_
  refine r_isub C dX10_onWay_3 ?_
  refine r_imul C dX10_onWay_4 ?_
  refine lv_istore C.1 C.2.1 dX10_onWay_5 hl (by decide) (lv' := [(4, .int (oI (v2 * (v1 - v0)))), (0, .int (oI v0)), (1, .int (oI v1)), (2, .int (oI v2)), (3, .int (oI v3))]) rfl (fun ls hl => ?_)
  refine lv_iload C.1 C.2.1 dX10_onWay_7 (lv_at hl 0 rfl) ?_
  refine lv_iload_n C.1 C.2.1 dX10_onWay_9 rfl (lv_at hl 4 rfl) ?_
  obtain ⟨hz1, hf⟩ := ck_o hf
  refine r_idiv C hz1 dX10_onWay_10 ?_
  refine lv_istore C.1 C.2.1 dX10_onWay_11 hl (by decide) (lv' := [(5, .int (oI ((w32 (v2 * (v1 - v0))).tdiv (w32 v3)))), (4, .int (oI (v2 * (v1 - v0)))), (0, .int (oI v0)), (1, .int (oI v1)), (2, .int (oI v2)), (3, .int (oI v3))]) rfl (fun ls hl => ?_)
  refine lv_iload_n C.1 C.2.1 dX10_onWay_13 rfl (lv_at hl 2 rfl) ?_
  refine lv_iload C.1 C.2.1 dX10_onWay_14 (lv_at hl 0 rfl) ?_
  refine lv_iload_n C.1 C.2.1 dX10_onWay_16 rfl (lv_at hl 5 rfl) ?_
  refine r_imul C dX10_onWay_17 ?_
  refine lv_iload C.1 C.2.1 dX10_onWay_18 (lv_at hl 1 rfl) ?_
  refine r_icmp_le C rfl rfl (tgt := 30) dX10_onWay_20 (by decide) (fun h2 => ?_) (fun h2 => ?_)
  · replace hf := if_t hf h2
    refine lv_iload C.1 C.2.1 dX10_onWay_30 (lv_at hl 0 rfl) ?_
    refine r_iadd C dX10_onWay_32 ?_
    cases hf
    exact hend _ _ _ _ S dX10_onWay_33
  · replace hf := if_f hf h2
    refine lv_iload C.1 C.2.1 dX10_onWay_23 (lv_at hl 0 rfl) ?_
    refine r_iconst C dX10_onWay_25 ?_
    refine r_isub C dX10_onWay_26 ?_
    refine lv_goto C.1 C.2.1 (tgt := 32) dX10_onWay_27 (by decide) ?_
    refine r_iadd C dX10_onWay_32 ?_
    cases hf
    exact hend _ _ _ _ S dX10_onWay_33
set_option maxRecDepth 100000 in
set_option maxHeartbeats 4000000 in
theorem b_X10_along_b167 (C : Cx p s m args c RX10 cX10_along 13) {q : Int × Sg} {k82 : Int → Int → Int → Int → Int → Int → Int → Int → Int → Int → Int → Sg → Option (Int × Sg)} (hend : EndR p l e (rmk 4 119) s m args below meth c Q G false τ cX10_along .ireturn [.int (oI q.1)] q.2) (hk82 : ∀ {H : Heap} {locs : List Loc} {ls : Array Slot} {σ : Sg} (v1 : Int) (v2 : Int) (v3 : Int) (v4 : Int) (v5 : Int) (v6 : Int) (v7 : Int) (v8 : Int) (v9 : Int) (v10 : Int) (v11 : Int), St G false τ σ s H locs → lv_has ls 13 [(0, .ref (G.1 41)), (1, .int (oI v1)), (2, .int (oI v2)), (3, .int (oI v3)), (4, .int (oI v4)), (5, .int (oI v5)), (6, .int (oI v6)), (7, .int (oI v7)), (8, .int (oI v8)), (9, .int (oI v9)), (10, .int (oI v10)), (11, .int (oI v11))] → k82 v1 v2 v3 v4 v5 v6 v7 v8 v9 v10 v11 σ = some q → W p l e (rmk 4 119) s m args below meth c H locs 0 0 Q (F0 m 82 ls [])) {H : Heap} {locs : List Loc} {ls : Array Slot} {σ : Sg} (v1 : Int) (v2 : Int) (v3 : Int) (v4 : Int) (v5 : Int) (v6 : Int) (v7 : Int) (v8 : Int) (v9 : Int) (v10 : Int) (v11 : Int) (S : St G false τ σ s H locs) (hl : lv_has ls 13 [(0, .ref (G.1 41)), (1, .int (oI v1)), (2, .int (oI v2)), (3, .int (oI v3)), (4, .int (oI v4)), (5, .int (oI v5)), (6, .int (oI v6)), (7, .int (oI v7)), (8, .int (oI v8)), (9, .int (oI v9)), (10, .int (oI v10)), (11, .int (oI v11))]) (hf : f_X10_along_b167 k82 v1 v2 v3 v4 v5 v6 v7 v8 v9 v10 v11 σ = some q) : W p l e (rmk 4 119) s m args below meth c H locs 0 0 Q (F0 m 167 ls []) := by
  unfold f_X10_along_b167 at hf
  refine r_iinc C dX10_along_167 hl (k := 11) rfl (by decide) (lv' := [(11, .int (oI (v11 + 1))), (0, .ref (G.1 41)), (1, .int (oI v1)), (2, .int (oI v2)), (3, .int (oI v3)), (4, .int (oI v4)), (5, .int (oI v5)), (6, .int (oI v6)), (7, .int (oI v7)), (8, .int (oI v8)), (9, .int (oI v9)), (10, .int (oI v10))]) rfl (fun ls hl => ?_)
  refine lv_goto C.1 C.2.1 (tgt := 82) dX10_along_170 (by decide) ?_
  exact hk82 v1 v2 v3 v4 v5 v6 v7 v8 v9 v10 (v11 + 1) S (lv_sub hl [1, 2, 3, 4, 5, 6, 7, 8, 9, 10, 11, 0] rfl) hf
set_option maxRecDepth 100000 in
set_option maxHeartbeats 4000000 in
theorem b_X10_along_b143 (C : Cx p s m args c RX10 cX10_along 13) {q : Int × Sg} {k82 : Int → Int → Int → Int → Int → Int → Int → Int → Int → Int → Int → Sg → Option (Int × Sg)} (hend : EndR p l e (rmk 4 119) s m args below meth c Q G false τ cX10_along .ireturn [.int (oI q.1)] q.2) (hk82 : ∀ {H : Heap} {locs : List Loc} {ls : Array Slot} {σ : Sg} (v1 : Int) (v2 : Int) (v3 : Int) (v4 : Int) (v5 : Int) (v6 : Int) (v7 : Int) (v8 : Int) (v9 : Int) (v10 : Int) (v11 : Int), St G false τ σ s H locs → lv_has ls 13 [(0, .ref (G.1 41)), (1, .int (oI v1)), (2, .int (oI v2)), (3, .int (oI v3)), (4, .int (oI v4)), (5, .int (oI v5)), (6, .int (oI v6)), (7, .int (oI v7)), (8, .int (oI v8)), (9, .int (oI v9)), (10, .int (oI v10)), (11, .int (oI v11))] → k82 v1 v2 v3 v4 v5 v6 v7 v8 v9 v10 v11 σ = some q → W p l e (rmk 4 119) s m args below meth c H locs 0 0 Q (F0 m 82 ls [])) {H : Heap} {locs : List Loc} {ls : Array Slot} {σ : Sg} (v1 : Int) (v2 : Int) (v3 : Int) (v4 : Int) (v5 : Int) (v6 : Int) (v7 : Int) (v8 : Int) (v10 : Int) (v11 : Int) (v12 : Int) (w0 : Int) (S : St G false τ σ s H locs) (hl : lv_has ls 13 [(0, .ref (G.1 41)), (1, .int (oI v1)), (2, .int (oI v2)), (3, .int (oI v3)), (4, .int (oI v4)), (5, .int (oI v5)), (6, .int (oI v6)), (7, .int (oI v7)), (8, .int (oI v8)), (10, .int (oI v10)), (11, .int (oI v11)), (12, .int (oI v12))]) (hf : f_X10_along_b143 k82 v1 v2 v3 v4 v5 v6 v7 v8 v10 v11 v12 w0 σ = some q) : W p l e (rmk 4 119) s m args below meth c H locs 0 0 Q (F0 m 143 ls [.int (oI w0)]) := by
  unfold f_X10_along_b143 at hf
  refine lv_istore C.1 C.2.1 dX10_along_143 hl (by decide) (lv' := [(9, .int (oI w0)), (0, .ref (G.1 41)), (1, .int (oI v1)), (2, .int (oI v2)), (3, .int (oI v3)), (4, .int (oI v4)), (5, .int (oI v5)), (6, .int (oI v6)), (7, .int (oI v7)), (8, .int (oI v8)), (10, .int (oI v10)), (11, .int (oI v11)), (12, .int (oI v12))]) rfl (fun ls hl => ?_)
  refine lv_iload C.1 C.2.1 dX10_along_145 (lv_at hl 10 rfl) ?_
  refine r_bipush C dX10_along_147 (by decide) ?_
  refine r_icmp_ne C rfl (show w32 (-2) = (-2) by decide) (tgt := 167) dX10_along_149 (by decide) (fun h22 => ?_) (fun h22 => ?_)
  · replace hf := if_t hf h22
    refine lv_iload C.1 C.2.1 dX10_along_152 (lv_at hl 12 rfl) ?_
    refine lv_aload_n C.1 C.2.1 dX10_along_154 rfl (lv_at hl 1 rfl) ?_
    refine g10_limit C S tw_1085 dX10_along_155 ?_
    refine lv_iload_n C.1 C.2.1 dX10_along_158 rfl (lv_at hl 2 rfl) ?_
    obtain ⟨hi20, hf⟩ := ck_o hf
    refine a_iald C S ar_52 hi20 dX10_along_159 ?_
    refine r_icmp_le C rfl rfl (tgt := 167) dX10_along_160 (by decide) (fun h21 => ?_) (fun h21 => ?_)
    · replace hf := if_t hf h21
      exact b_X10_along_b167 C hend hk82 v1 v2 v3 v4 v5 v6 v7 v8 w0 v10 v11 S (lv_sub hl [1, 2, 3, 4, 5, 6, 7, 8, 9, 0, 10, 11] rfl) hf
    · replace hf := if_f hf h21
      refine lv_iload C.1 C.2.1 dX10_along_163 (lv_at hl 11 rfl) ?_
      refine lv_istore C.1 C.2.1 dX10_along_165 hl (by decide) (lv' := [(10, .int (oI v11)), (9, .int (oI w0)), (0, .ref (G.1 41)), (1, .int (oI v1)), (2, .int (oI v2)), (3, .int (oI v3)), (4, .int (oI v4)), (5, .int (oI v5)), (6, .int (oI v6)), (7, .int (oI v7)), (8, .int (oI v8)), (11, .int (oI v11)), (12, .int (oI v12))]) rfl (fun ls hl => ?_)
      exact b_X10_along_b167 C hend hk82 v1 v2 v3 v4 v5 v6 v7 v8 w0 v11 v11 S (lv_sub hl [2, 3, 4, 5, 6, 7, 8, 9, 10, 1, 0, 11] rfl) hf
  · replace hf := if_f hf h22
    exact b_X10_along_b167 C hend hk82 v1 v2 v3 v4 v5 v6 v7 v8 w0 v10 v11 S (lv_sub hl [1, 2, 3, 4, 5, 6, 7, 8, 9, 0, 10, 11] rfl) hf
set_option maxRecDepth 100000 in
set_option maxHeartbeats 4000000 in
theorem b_X10_along_b173 (C : Cx p s m args c RX10 cX10_along 13) {q : Int × Sg} (hend : EndR p l e (rmk 4 119) s m args below meth c Q G false τ cX10_along .ireturn [.int (oI q.1)] q.2) {H : Heap} {locs : List Loc} {ls : Array Slot} {σ : Sg} (v2 : Int) (v6 : Int) (v7 : Int) (v8 : Int) (v9 : Int) (v10 : Int) (S : St G false τ σ s H locs) (hl : lv_has ls 13 [(0, .ref (G.1 41)), (2, .int (oI v2)), (6, .int (oI v6)), (7, .int (oI v7)), (8, .int (oI v8)), (9, .int (oI v9)), (10, .int (oI v10))]) (hf : f_X10_along_b173 v2 v6 v7 v8 v9 v10 σ = some q) : W p l e (rmk 4 119) s m args below meth c H locs 0 0 Q (F0 m 173 ls []) := by
  unfold f_X10_along_b173 at hf
  refine lv_aload_n C.1 C.2.1 dX10_along_173 rfl (lv_at hl 0 rfl) ?_
  refine g10_x C S tw_1078 dX10_along_174 ?_
  refine lv_iload_n C.1 C.2.1 dX10_along_177 rfl (lv_at hl 1 rfl) ?_
  refine lv_iload C.1 C.2.1 dX10_along_178 (lv_at hl 3 rfl) ?_
  obtain ⟨hi24, hf⟩ := ck_o hf
  refine a_iast C S ar_45 hi24 dX10_along_180 (fun H locs S => ?_)
  obtain ⟨σ25, S, hf⟩ := wr_s S hf
  refine lv_aload_n C.1 C.2.1 dX10_along_181 rfl (lv_at hl 0 rfl) ?_
  refine g10_y C S tw_1079 dX10_along_182 ?_
  refine lv_iload_n C.1 C.2.1 dX10_along_185 rfl (lv_at hl 1 rfl) ?_
  refine lv_iload C.1 C.2.1 dX10_along_186 (lv_at hl 4 rfl) ?_
  obtain ⟨hi26, hf⟩ := ck_o hf
  refine a_iast C S ar_46 hi26 dX10_along_188 (fun H locs S => ?_)
  obtain ⟨σ27, S, hf⟩ := wr_s S hf
  refine lv_iload C.1 C.2.1 dX10_along_189 (lv_at hl 2 rfl) ?_
  refine r_if_ne C rfl (tgt := 199) dX10_along_191 (by decide) (fun h28 => ?_) (fun h28 => ?_)
  · replace hf := if_t hf h28
    refine lv_iload C.1 C.2.1 dX10_along_194 (lv_at hl 5 rfl) ?_
    refine lv_goto C.1 C.2.1 (tgt := 201) dX10_along_196 (by decide) ?_
    cases hf
    exact hend _ _ _ _ S dX10_along_201
  · replace hf := if_f hf h28
    refine lv_iload C.1 C.2.1 dX10_along_199 (lv_at hl 6 rfl) ?_
    cases hf
    exact hend _ _ _ _ S dX10_along_201
set_option maxRecDepth 100000 in
set_option maxHeartbeats 4000000 in
theorem b_X10_along_b82 (C : Cx p s m args c RX10 cX10_along 13) {q : Int × Sg} (hend : EndR p l e (rmk 4 119) s m args below meth c Q G false τ cX10_along .ireturn [.int (oI q.1)] q.2) : ∀ (n : Nat) {H : Heap} {locs : List Loc} {ls : Array Slot} {σ : Sg} (v1 : Int) (v2 : Int) (v3 : Int) (v4 : Int) (v5 : Int) (v6 : Int) (v7 : Int) (v8 : Int) (v9 : Int) (v10 : Int) (v11 : Int) (S : St G false τ σ s H locs) (hl : lv_has ls 13 [(0, .ref (G.1 41)), (1, .int (oI v1)), (2, .int (oI v2)), (3, .int (oI v3)), (4, .int (oI v4)), (5, .int (oI v5)), (6, .int (oI v6)), (7, .int (oI v7)), (8, .int (oI v8)), (9, .int (oI v9)), (10, .int (oI v10)), (11, .int (oI v11))]) (hf : f_X10_along_b82 n v1 v2 v3 v4 v5 v6 v7 v8 v9 v10 v11 σ = some q), W p l e (rmk 4 119) s m args below meth c H locs 0 0 Q (F0 m 82 ls []) := by
  intro n
  induction n with
  | zero => intro H locs ls σ v1 v2 v3 v4 v5 v6 v7 v8 v9 v10 v11 S hl hf; cases hf
  | succ n ih =>
    intro H locs ls σ v1 v2 v3 v4 v5 v6 v7 v8 v9 v10 v11 S hl hf
    have hk82 := @ih
    rw [f_X10_along_b82] at hf
    refine lv_iload C.1 C.2.1 dX10_along_82 (lv_at hl 11 rfl) ?_
    refine lv_iload C.1 C.2.1 dX10_along_84 (lv_at hl 5 rfl) ?_
    refine r_icmp_gt C rfl rfl (tgt := 173) dX10_along_86 (by decide) (fun h29 => ?_) (fun h29 => ?_)
    · replace hf := if_t hf h29
      refine lv_aload_n C.1 C.2.1 dX10_along_89 rfl (lv_at hl 0 rfl) ?_
      refine g10_x C S tw_1078 dX10_along_90 ?_
      refine lv_iload_n C.1 C.2.1 dX10_along_93 rfl (lv_at hl 2 rfl) ?_
      refine lv_iload C.1 C.2.1 dX10_along_94 (lv_at hl 7 rfl) ?_
      refine lv_iload_n C.1 C.2.1 dX10_along_96 rfl (lv_at hl 3 rfl) ?_
      refine lv_iload C.1 C.2.1 dX10_along_97 (lv_at hl 11 rfl) ?_
      refine lv_iload C.1 C.2.1 dX10_along_99 (lv_at hl 5 rfl) ?_
      obtain ⟨q10, hc11, hf⟩ := bd_o hf
      refine r_callSv C S (As := [.int (oI v7), .int (oI v3), .int (oI v11), .int (oI v5)]) (rest := [.int (oI v2), .ref (G.1 45)]) (ct_X10_onWay l G τ hc11) mi_X10_onWay tw_1594 ms_X10_onWay ⟨rfl, rfl⟩ ⟨Nat.le_of_ble_eq_true rfl, Nat.le_of_ble_eq_true rfl⟩ ⟨Nat.zero_le _, Nat.zero_le _⟩ rfl hl.1 rfl (Nat.le_of_ble_eq_true rfl) dX10_along_101 (fun H locs S => ?_)
      obtain ⟨hi12, hf⟩ := ck_o hf
      refine a_iast C S ar_45 hi12 dX10_along_104 (fun H locs S => ?_)
      obtain ⟨σ13, S, hf⟩ := wr_s S hf
      refine lv_aload_n C.1 C.2.1 dX10_along_105 rfl (lv_at hl 0 rfl) ?_
      refine g10_y C S tw_1079 dX10_along_106 ?_
      refine lv_iload_n C.1 C.2.1 dX10_along_109 rfl (lv_at hl 2 rfl) ?_
      refine lv_iload C.1 C.2.1 dX10_along_110 (lv_at hl 8 rfl) ?_
      refine lv_iload C.1 C.2.1 dX10_along_112 (lv_at hl 4 rfl) ?_
      refine lv_iload C.1 C.2.1 dX10_along_114 (lv_at hl 11 rfl) ?_
      refine lv_iload C.1 C.2.1 dX10_along_116 (lv_at hl 5 rfl) ?_
      obtain ⟨q14, hc15, hf⟩ := bd_o hf
      refine r_callSv C S (As := [.int (oI v8), .int (oI v4), .int (oI v11), .int (oI v5)]) (rest := [.int (oI v2), .ref (G.1 46)]) (ct_X10_onWay l G τ hc15) mi_X10_onWay tw_1594 ms_X10_onWay ⟨rfl, rfl⟩ ⟨Nat.le_of_ble_eq_true rfl, Nat.le_of_ble_eq_true rfl⟩ ⟨Nat.zero_le _, Nat.zero_le _⟩ rfl hl.1 rfl (Nat.le_of_ble_eq_true rfl) dX10_along_118 (fun H locs S => ?_)
      obtain ⟨hi16, hf⟩ := ck_o hf
      refine a_iast C S ar_46 hi16 dX10_along_121 (fun H locs S => ?_)
      obtain ⟨σ17, S, hf⟩ := wr_s S hf
      refine lv_aload_n C.1 C.2.1 dX10_along_122 rfl (lv_at hl 0 rfl) ?_
      refine lv_iload_n C.1 C.2.1 dX10_along_123 rfl (lv_at hl 1 rfl) ?_
      obtain ⟨q18, hc19, hf⟩ := bd_o hf
      refine r_callVv C S (As := [.int (oI v1)]) (rest := []) (ct_X10_worstOf l G τ hc19) mi_X10_worstOf tw_1273 mv_X10_worstOf (rvX10 S) ⟨rfl, rfl⟩ ⟨Nat.le_of_ble_eq_true rfl, Nat.le_of_ble_eq_true rfl⟩ ⟨Nat.zero_le _, Nat.zero_le _⟩ rfl hl.1 rfl (Nat.le_of_ble_eq_true rfl) dX10_along_124 (fun H locs S => ?_)
      refine lv_istore C.1 C.2.1 dX10_along_127 hl (by decide) (lv' := [(12, .int (oI q18.1)), (0, .ref (G.1 41)), (1, .int (oI v1)), (2, .int (oI v2)), (3, .int (oI v3)), (4, .int (oI v4)), (5, .int (oI v5)), (6, .int (oI v6)), (7, .int (oI v7)), (8, .int (oI v8)), (9, .int (oI v9)), (10, .int (oI v10)), (11, .int (oI v11))]) rfl (fun ls hl => ?_)
      refine lv_iload C.1 C.2.1 dX10_along_129 (lv_at hl 0 rfl) ?_
      refine lv_iload C.1 C.2.1 dX10_along_131 (lv_at hl 10 rfl) ?_
      refine r_icmp_le C rfl rfl (tgt := 141) dX10_along_133 (by decide) (fun h23 => ?_) (fun h23 => ?_)
      · replace hf := if_t hf h23
        refine lv_iload C.1 C.2.1 dX10_along_141 (lv_at hl 10 rfl) ?_
        exact b_X10_along_b143 C hend hk82 v1 v2 v3 v4 v5 v6 v7 v8 v10 v11 q18.1 v9 S (lv_sub hl [1, 2, 3, 4, 5, 6, 7, 8, 9, 11, 12, 0] rfl) hf
      · replace hf := if_f hf h23
        refine lv_iload C.1 C.2.1 dX10_along_136 (lv_at hl 0 rfl) ?_
        refine lv_goto C.1 C.2.1 (tgt := 143) dX10_along_138 (by decide) ?_
        exact b_X10_along_b143 C hend hk82 v1 v2 v3 v4 v5 v6 v7 v8 v10 v11 q18.1 q18.1 S (lv_sub hl [1, 2, 3, 4, 5, 6, 7, 8, 9, 11, 12, 0] rfl) hf
    · replace hf := if_f hf h29
      exact b_X10_along_b173 C hend v2 v6 v7 v8 v9 v10 S (lv_sub hl [0, 2, 6, 7, 8, 9, 10] rfl) hf
set_option maxRecDepth 100000 in
set_option maxHeartbeats 4000000 in
theorem ct_X10_along (l : Launch) (G : Gd) (τ : Sg) {v1 : Int} {v2 : Int} {v3 : Int} {v4 : Int} {v5 : Int} {v6 : Int} {σ : Sg} {q : Int × Sg} (hf : f_X10_along v1 v2 v3 v4 v5 v6 σ = some q) : Ctr l yX10_along cX10_along 13 (some .int) (rmk 4 119) G false τ [.ref (G.1 41), .int (oI v1), .int (oI v2), .int (oI v3), .int (oI v4), .int (oI v5), .int (oI v6)] σ q.2 (some (.int (oI q.1))) := by
  unfold f_X10_along at hf
  refine CtrI.of (own := RX10) (plainFor_of_name (by decide)) (Nat.le_of_ble_eq_true rfl) rfl (fun p e s m below meth c Q ls C hl S hend => ?_)
  have hl : lv_has ls 13 [(0, .ref (G.1 41)), (1, .int (oI v1)), (2, .int (oI v2)), (3, .int (oI v3)), (4, .int (oI v4)), (5, .int (oI v5)), (6, .int (oI v6))] := hl
  refine lv_aload_n C.1 C.2.1 dX10_along_0 rfl (lv_at hl 0 rfl) ?_
  refine r_iconst C dX10_along_1 ?_
  refine p10_thrown C S tw_1061 dX10_along_2 (fun H locs S => ?_)
  obtain ⟨σ1, S, hf⟩ := wr_s S hf
  refine lv_aload_n C.1 C.2.1 dX10_along_5 rfl (lv_at hl 0 rfl) ?_
  refine lv_iload_n C.1 C.2.1 dX10_along_6 rfl (lv_at hl 1 rfl) ?_
  obtain ⟨q2, hc3, hf⟩ := bd_o hf
  refine r_callVv C S (As := [.int (oI v1)]) (rest := []) (ct_X10_isTreaty l G τ hc3) mi_X10_isTreaty tw_1373 mv_X10_isTreaty (rvX10 S) ⟨rfl, rfl⟩ ⟨Nat.le_of_ble_eq_true rfl, Nat.le_of_ble_eq_true rfl⟩ ⟨Nat.zero_le _, Nat.zero_le _⟩ rfl hl.1 rfl (Nat.le_of_ble_eq_true rfl) dX10_along_7 (fun H locs S => ?_)
  refine r_if_eq C rfl (tgt := 54) dX10_along_10 (by decide) (fun h36 => ?_) (fun h36 => ?_)
  · replace hf := if_t hf h36
    refine r_iconst C dX10_along_54 ?_
    cases hf
    exact hend _ _ _ _ S dX10_along_55
  · replace hf := if_f hf h36
    refine lv_aload_n C.1 C.2.1 dX10_along_13 rfl (lv_at hl 0 rfl) ?_
    refine lv_iload_n C.1 C.2.1 dX10_along_14 rfl (lv_at hl 2 rfl) ?_
    obtain ⟨q4, hc5, hf⟩ := bd_o hf
    refine r_callVv C S (As := [.int (oI v2)]) (rest := []) (ct_X10_isPolicy l G τ hc5) mi_X10_isPolicy tw_1347 mv_X10_isPolicy (rvX10 S) ⟨rfl, rfl⟩ ⟨Nat.le_of_ble_eq_true rfl, Nat.le_of_ble_eq_true rfl⟩ ⟨Nat.zero_le _, Nat.zero_le _⟩ rfl hl.1 rfl (Nat.le_of_ble_eq_true rfl) dX10_along_15 (fun H locs S => ?_)
    refine r_if_eq C rfl (tgt := 54) dX10_along_18 (by decide) (fun h35 => ?_) (fun h35 => ?_)
    · replace hf := if_t hf h35
      refine r_iconst C dX10_along_54 ?_
      cases hf
      exact hend _ _ _ _ S dX10_along_55
    · replace hf := if_f hf h35
      refine lv_iload_n C.1 C.2.1 dX10_along_21 rfl (lv_at hl 3 rfl) ?_
      refine lv_iload C.1 C.2.1 dX10_along_22 (lv_at hl 4 rfl) ?_
      obtain ⟨q6, hc7, hf⟩ := bd_o hf
      refine r_callSv C S (As := [.int (oI v3), .int (oI v4)]) (rest := []) (ct_X10_isPlace l G τ hc7) mi_X10_isPlace tw_1330 ms_X10_isPlace ⟨rfl, rfl⟩ ⟨Nat.le_of_ble_eq_true rfl, Nat.le_of_ble_eq_true rfl⟩ ⟨Nat.zero_le _, Nat.zero_le _⟩ rfl hl.1 rfl (Nat.le_of_ble_eq_true rfl) dX10_along_24 (fun H locs S => ?_)
      refine r_if_eq C rfl (tgt := 54) dX10_along_27 (by decide) (fun h34 => ?_) (fun h34 => ?_)
      · replace hf := if_t hf h34
        refine r_iconst C dX10_along_54 ?_
        cases hf
        exact hend _ _ _ _ S dX10_along_55
      · replace hf := if_f hf h34
        refine lv_iload C.1 C.2.1 dX10_along_30 (lv_at hl 5 rfl) ?_
        refine r_iconst C dX10_along_32 ?_
        refine r_icmp_lt C rfl (show w32 1 = 1 by decide) (tgt := 54) dX10_along_33 (by decide) (fun h33 => ?_) (fun h33 => ?_)
        · replace hf := if_t hf h33
          refine r_iconst C dX10_along_54 ?_
          cases hf
          exact hend _ _ _ _ S dX10_along_55
        · replace hf := if_f hf h33
          refine lv_iload C.1 C.2.1 dX10_along_36 (lv_at hl 5 rfl) ?_
          refine r_bipush C dX10_along_38 (by decide) ?_
          refine r_icmp_gt C rfl (show w32 20 = 20 by decide) (tgt := 54) dX10_along_40 (by decide) (fun h32 => ?_) (fun h32 => ?_)
          · replace hf := if_t hf h32
            refine lv_iload C.1 C.2.1 dX10_along_43 (lv_at hl 6 rfl) ?_
            refine r_if_lt C rfl (tgt := 54) dX10_along_45 (by decide) (fun h31 => ?_) (fun h31 => ?_)
            · replace hf := if_t hf h31
              refine r_iconst C dX10_along_54 ?_
              cases hf
              exact hend _ _ _ _ S dX10_along_55
            · replace hf := if_f hf h31
              refine lv_iload C.1 C.2.1 dX10_along_48 (lv_at hl 6 rfl) ?_
              refine r_iconst C dX10_along_50 ?_
              refine r_icmp_le C rfl (show w32 1 = 1 by decide) (tgt := 56) dX10_along_51 (by decide) (fun h30 => ?_) (fun h30 => ?_)
              · replace hf := if_t hf h30
                refine lv_aload_n C.1 C.2.1 dX10_along_56 rfl (lv_at hl 0 rfl) ?_
                refine g10_x C S tw_1078 dX10_along_57 ?_
                refine lv_iload_n C.1 C.2.1 dX10_along_60 rfl (lv_at hl 2 rfl) ?_
                obtain ⟨hi8, hf⟩ := ck_o hf
                refine a_iald C S ar_45 hi8 dX10_along_61 ?_
                refine lv_istore C.1 C.2.1 dX10_along_62 hl (by decide) (lv' := [(7, .int (oI (σ1 45 (v2).toNat))), (0, .ref (G.1 41)), (1, .int (oI v1)), (2, .int (oI v2)), (3, .int (oI v3)), (4, .int (oI v4)), (5, .int (oI v5)), (6, .int (oI v6))]) rfl (fun ls hl => ?_)
                refine lv_aload_n C.1 C.2.1 dX10_along_64 rfl (lv_at hl 1 rfl) ?_
                refine g10_y C S tw_1079 dX10_along_65 ?_
                refine lv_iload_n C.1 C.2.1 dX10_along_68 rfl (lv_at hl 3 rfl) ?_
                obtain ⟨hi9, hf⟩ := ck_o hf
                refine a_iald C S ar_46 hi9 dX10_along_69 ?_
                refine lv_istore C.1 C.2.1 dX10_along_70 hl (by decide) (lv' := [(8, .int (oI (σ1 46 (v2).toNat))), (7, .int (oI (σ1 45 (v2).toNat))), (0, .ref (G.1 41)), (1, .int (oI v1)), (2, .int (oI v2)), (3, .int (oI v3)), (4, .int (oI v4)), (5, .int (oI v5)), (6, .int (oI v6))]) rfl (fun ls hl => ?_)
                refine r_iconst C dX10_along_72 ?_
                refine lv_istore C.1 C.2.1 dX10_along_73 hl (by decide) (lv' := [(9, .int (oI ((-1)))), (8, .int (oI (σ1 46 (v2).toNat))), (7, .int (oI (σ1 45 (v2).toNat))), (0, .ref (G.1 41)), (1, .int (oI v1)), (2, .int (oI v2)), (3, .int (oI v3)), (4, .int (oI v4)), (5, .int (oI v5)), (6, .int (oI v6))]) rfl (fun ls hl => ?_)
                refine r_bipush C dX10_along_75 (by decide) ?_
                refine lv_istore C.1 C.2.1 dX10_along_77 hl (by decide) (lv' := [(10, .int (oI ((-2)))), (9, .int (oI ((-1)))), (8, .int (oI (σ1 46 (v2).toNat))), (7, .int (oI (σ1 45 (v2).toNat))), (0, .ref (G.1 41)), (1, .int (oI v1)), (2, .int (oI v2)), (3, .int (oI v3)), (4, .int (oI v4)), (5, .int (oI v5)), (6, .int (oI v6))]) rfl (fun ls hl => ?_)
                refine r_iconst C dX10_along_79 ?_
                refine lv_istore C.1 C.2.1 dX10_along_80 hl (by decide) (lv' := [(11, .int (oI 0)), (10, .int (oI ((-2)))), (9, .int (oI ((-1)))), (8, .int (oI (σ1 46 (v2).toNat))), (7, .int (oI (σ1 45 (v2).toNat))), (0, .ref (G.1 41)), (1, .int (oI v1)), (2, .int (oI v2)), (3, .int (oI v3)), (4, .int (oI v4)), (5, .int (oI v5)), (6, .int (oI v6))]) rfl (fun ls hl => ?_)
                exact b_X10_along_b82 C hend FUEL v1 v2 v3 v4 v5 v6 (σ1 45 (v2).toNat) (σ1 46 (v2).toNat) ((-1)) ((-2)) 0 S (lv_sub hl [5, 6, 7, 8, 9, 10, 11, 4, 3, 2, 1, 0] rfl) hf
              · replace hf := if_f hf h30
                refine r_iconst C dX10_along_54 ?_
                cases hf
                exact hend _ _ _ _ S dX10_along_55
          · replace hf := if_f hf h32
            refine r_iconst C dX10_along_54 ?_
            cases hf
            exact hend _ _ _ _ S dX10_along_55
set_option maxRecDepth 100000 in
set_option maxHeartbeats 4000000 in
theorem ct_X10_aboutPlace (l : Launch) (G : Gd) (τ : Sg) {v1 : Int} {v2 : Int} {v3 : Int} {σ : Sg} {q : Int × Sg} (hf : f_X10_aboutPlace v1 v2 v3 σ = some q) : Ctr l yX10_aboutPlace cX10_aboutPlace 4 (some .int) (rmk 2 47) G false τ [.ref (G.1 41), .int (oI v1), .int (oI v2), .int (oI v3)] σ q.2 (some (.int (oI q.1))) := by
  unfold f_X10_aboutPlace at hf
  refine CtrI.of (own := RX10) (plainFor_of_name (by decide)) (Nat.le_of_ble_eq_true rfl) rfl (fun p e s m below meth c Q ls C hl S hend => ?_)
  have hl : lv_has ls 4 [(0, .ref (G.1 41)), (1, .int (oI v1)), (2, .int (oI v2)), (3, .int (oI v3))] := hl
  refine lv_aload_n C.1 C.2.1 dX10_aboutPlace_0 rfl (lv_at hl 0 rfl) ?_
  refine r_bipush C dX10_aboutPlace_1 (by decide) ?_
  refine lv_iload_n C.1 C.2.1 dX10_aboutPlace_3 rfl (lv_at hl 1 rfl) ?_
  refine lv_iload_n C.1 C.2.1 dX10_aboutPlace_4 rfl (lv_at hl 2 rfl) ?_
  refine r_iconst C dX10_aboutPlace_5 ?_
  refine r_iconst C dX10_aboutPlace_6 ?_
  obtain ⟨q1, hc2, hf⟩ := bd_o hf
  refine r_callVn C S (As := [.int (oI 24), .int (oI v1), .int (oI v2), .int (oI 0), .int (oI 0)]) (rest := []) (ct_X10_puts l G τ hc2) mi_X10_puts tw_1257 mv_X10_puts (rvX10 S) ⟨rfl, rfl⟩ ⟨Nat.le_of_ble_eq_true rfl, Nat.le_of_ble_eq_true rfl⟩ ⟨Nat.zero_le _, Nat.zero_le _⟩ rfl hl.1 rfl (Nat.le_of_ble_eq_true rfl) dX10_aboutPlace_7 (fun H locs S => ?_)
  refine lv_aload_n C.1 C.2.1 dX10_aboutPlace_10 rfl (lv_at hl 0 rfl) ?_
  refine r_bipush C dX10_aboutPlace_11 (by decide) ?_
  refine lv_aload_n C.1 C.2.1 dX10_aboutPlace_13 rfl (lv_at hl 0 rfl) ?_
  refine r_bipush C dX10_aboutPlace_14 (by decide) ?_
  obtain ⟨q3, hc4, hf⟩ := bd_o hf
  refine r_callVv C S (As := [.int (oI 15)]) (rest := [.int (oI 24), .ref (G.1 41)]) (ct_X10_ofPerils l G τ hc4) mi_X10_ofPerils tw_1281 mv_X10_ofPerils (rvX10 S) ⟨rfl, rfl⟩ ⟨Nat.le_of_ble_eq_true rfl, Nat.le_of_ble_eq_true rfl⟩ ⟨Nat.zero_le _, Nat.zero_le _⟩ rfl hl.1 rfl (Nat.le_of_ble_eq_true rfl) dX10_aboutPlace_16 (fun H locs S => ?_)
  refine lv_iload_n C.1 C.2.1 dX10_aboutPlace_19 rfl (lv_at hl 3 rfl) ?_
  obtain ⟨q5, hc6, hf⟩ := bd_o hf
  refine r_callVv C S (As := [.int (oI 24), .int (oI q3), .int (oI v3)]) (rest := []) (ct_X10_around l G τ hc6) mi_X10_around tw_1293 mv_X10_around (rvX10 S) ⟨rfl, rfl⟩ ⟨Nat.le_of_ble_eq_true rfl, Nat.le_of_ble_eq_true rfl⟩ ⟨Nat.zero_le _, Nat.zero_le _⟩ rfl hl.1 rfl (Nat.le_of_ble_eq_true rfl) dX10_aboutPlace_20 (fun H locs S => ?_)
  cases hf
  exact hend _ _ _ _ S dX10_aboutPlace_23
set_option maxRecDepth 100000 in
set_option maxHeartbeats 4000000 in
theorem ct_X10_hitAt (l : Launch) (G : Gd) (τ : Sg) {v1 : Int} {σ : Sg} {q : Int × Sg} (hf : f_X10_hitAt v1 σ = some q) : Ctr l yX10_hitAt cX10_hitAt 2 (some .int) (rmk 3 70) G false τ [.ref (G.1 41), .int (oI v1)] σ q.2 (some (.int (oI q.1))) := by
  unfold f_X10_hitAt at hf
  refine CtrI.of (own := RX10) (plainFor_of_name (by decide)) (Nat.le_of_ble_eq_true rfl) rfl (fun p e s m below meth c Q ls C hl S hend => ?_)
  have hl : lv_has ls 2 [(0, .ref (G.1 41)), (1, .int (oI v1))] := hl
  refine lv_aload_n C.1 C.2.1 dX10_hitAt_0 rfl (lv_at hl 0 rfl) ?_
  refine lv_aload_n C.1 C.2.1 dX10_hitAt_1 rfl (lv_at hl 0 rfl) ?_
  refine g10_storm C S tw_1090 dX10_hitAt_2 ?_
  refine r_iconst C dX10_hitAt_5 ?_
  refine a_iald C S ar_55 (by decide) dX10_hitAt_6 ?_
  refine lv_aload_n C.1 C.2.1 dX10_hitAt_7 rfl (lv_at hl 0 rfl) ?_
  refine g10_storm C S tw_1090 dX10_hitAt_8 ?_
  refine r_iconst C dX10_hitAt_11 ?_
  refine a_iald C S ar_55 (by decide) dX10_hitAt_12 ?_
  refine lv_iload_n C.1 C.2.1 dX10_hitAt_13 rfl (lv_at hl 1 rfl) ?_
  refine lv_aload_n C.1 C.2.1 dX10_hitAt_14 rfl (lv_at hl 0 rfl) ?_
  refine g10_storm C S tw_1090 dX10_hitAt_15 ?_
  refine r_iconst C dX10_hitAt_18 ?_
  refine a_iald C S ar_55 (by decide) dX10_hitAt_19 ?_
  obtain ⟨q1, hc2, hf⟩ := bd_o hf
  refine r_callSv C S (As := [.int (oI (σ 55 1)), .int (oI (σ 55 3)), .int (oI v1), .int (oI (σ 55 5))]) (rest := [.ref (G.1 41)]) (ct_X10_onWay l G τ hc2) mi_X10_onWay tw_1594 ms_X10_onWay ⟨rfl, rfl⟩ ⟨Nat.le_of_ble_eq_true rfl, Nat.le_of_ble_eq_true rfl⟩ ⟨Nat.zero_le _, Nat.zero_le _⟩ rfl hl.1 rfl (Nat.le_of_ble_eq_true rfl) dX10_hitAt_20 (fun H locs S => ?_)
  refine lv_aload_n C.1 C.2.1 dX10_hitAt_23 rfl (lv_at hl 0 rfl) ?_
  refine g10_storm C S tw_1090 dX10_hitAt_24 ?_
  refine r_iconst C dX10_hitAt_27 ?_
  refine a_iald C S ar_55 (by decide) dX10_hitAt_28 ?_
  refine lv_aload_n C.1 C.2.1 dX10_hitAt_29 rfl (lv_at hl 0 rfl) ?_
  refine g10_storm C S tw_1090 dX10_hitAt_30 ?_
  refine r_iconst C dX10_hitAt_33 ?_
  refine a_iald C S ar_55 (by decide) dX10_hitAt_34 ?_
  refine lv_iload_n C.1 C.2.1 dX10_hitAt_35 rfl (lv_at hl 1 rfl) ?_
  refine lv_aload_n C.1 C.2.1 dX10_hitAt_36 rfl (lv_at hl 0 rfl) ?_
  refine g10_storm C S tw_1090 dX10_hitAt_37 ?_
  refine r_iconst C dX10_hitAt_40 ?_
  refine a_iald C S ar_55 (by decide) dX10_hitAt_41 ?_
  obtain ⟨q3, hc4, hf⟩ := bd_o hf
  refine r_callSv C S (As := [.int (oI (σ 55 2)), .int (oI (σ 55 4)), .int (oI v1), .int (oI (σ 55 5))]) (rest := [.int (oI q1), .ref (G.1 41)]) (ct_X10_onWay l G τ hc4) mi_X10_onWay tw_1594 ms_X10_onWay ⟨rfl, rfl⟩ ⟨Nat.le_of_ble_eq_true rfl, Nat.le_of_ble_eq_true rfl⟩ ⟨Nat.zero_le _, Nat.zero_le _⟩ rfl hl.1 rfl (Nat.le_of_ble_eq_true rfl) dX10_hitAt_42 (fun H locs S => ?_)
  refine lv_aload_n C.1 C.2.1 dX10_hitAt_45 rfl (lv_at hl 0 rfl) ?_
  refine g10_storm C S tw_1090 dX10_hitAt_46 ?_
  refine r_iconst C dX10_hitAt_49 ?_
  refine a_iald C S ar_55 (by decide) dX10_hitAt_50 ?_
  obtain ⟨q5, hc6, hf⟩ := bd_o hf
  refine r_callVv C S (As := [.int (oI q1), .int (oI q3), .int (oI (σ 55 0))]) (rest := []) (ct_X10_aboutPlace l G τ hc6) mi_X10_aboutPlace tw_1609 mv_X10_aboutPlace (rvX10 S) ⟨rfl, rfl⟩ ⟨Nat.le_of_ble_eq_true rfl, Nat.le_of_ble_eq_true rfl⟩ ⟨Nat.zero_le _, Nat.zero_le _⟩ rfl hl.1 rfl (Nat.le_of_ble_eq_true rfl) dX10_hitAt_51 (fun H locs S => ?_)
  cases hf
  exact hend _ _ _ _ S dX10_hitAt_54
set_option maxRecDepth 100000 in
set_option maxHeartbeats 4000000 in
theorem b_X10_allHit_b4 (C : Cx p s m args c RX10 cX10_allHit 3) {q : Int × Sg} (hend : EndR p l e (rmk 4 91) s m args below meth c Q G false τ cX10_allHit .ireturn [.int (oI q.1)] q.2) : ∀ (n : Nat) {H : Heap} {locs : List Loc} {ls : Array Slot} {σ : Sg} (v1 : Int) (v2 : Int) (S : St G false τ σ s H locs) (hl : lv_has ls 3 [(0, .ref (G.1 41)), (1, .int (oI v1)), (2, .int (oI v2))]) (hf : f_X10_allHit_b4 n v1 v2 σ = some q), W p l e (rmk 4 91) s m args below meth c H locs 0 0 Q (F0 m 4 ls []) := by
  intro n
  induction n with
  | zero => intro H locs ls σ v1 v2 S hl hf; cases hf
  | succ n ih =>
    intro H locs ls σ v1 v2 S hl hf
    have hk4 := @ih
    rw [f_X10_allHit_b4] at hf
    refine lv_iload_n C.1 C.2.1 dX10_allHit_4 rfl (lv_at hl 2 rfl) ?_
    refine lv_aload_n C.1 C.2.1 dX10_allHit_5 rfl (lv_at hl 0 rfl) ?_
    refine g10_storm C S tw_1090 dX10_allHit_6 ?_
    refine r_iconst C dX10_allHit_9 ?_
    refine a_iald C S ar_55 (by decide) dX10_allHit_10 ?_
    refine r_icmp_gt C rfl rfl (tgt := 28) dX10_allHit_11 (by decide) (fun h3 => ?_) (fun h3 => ?_)
    · replace hf := if_t hf h3
      refine lv_iload_n C.1 C.2.1 dX10_allHit_14 rfl (lv_at hl 1 rfl) ?_
      refine lv_aload_n C.1 C.2.1 dX10_allHit_15 rfl (lv_at hl 0 rfl) ?_
      refine lv_iload_n C.1 C.2.1 dX10_allHit_16 rfl (lv_at hl 2 rfl) ?_
      obtain ⟨q1, hc2, hf⟩ := bd_o hf
      refine r_callVv C S (As := [.int (oI v2)]) (rest := [.int (oI v1)]) (ct_X10_hitAt l G τ hc2) mi_X10_hitAt tw_1605 mv_X10_hitAt (rvX10 S) ⟨rfl, rfl⟩ ⟨Nat.le_of_ble_eq_true rfl, Nat.le_of_ble_eq_true rfl⟩ ⟨Nat.zero_le _, Nat.zero_le _⟩ rfl hl.1 rfl (Nat.le_of_ble_eq_true rfl) dX10_allHit_17 (fun H locs S => ?_)
      refine r_ior C rfl rfl dX10_allHit_20 ?_
      refine lv_istore_n C.1 C.2.1 dX10_allHit_21 rfl hl (by decide) (lv' := [(1, .int (oI ((((u32 v1) ||| (u32 q1.1) : Nat) : Int)))), (0, .ref (G.1 41)), (2, .int (oI v2))]) rfl (fun ls hl => ?_)
      refine r_iinc C dX10_allHit_22 hl (k := 2) rfl (by decide) (lv' := [(2, .int (oI (v2 + 1))), (1, .int (oI ((((u32 v1) ||| (u32 q1.1) : Nat) : Int)))), (0, .ref (G.1 41))]) rfl (fun ls hl => ?_)
      refine lv_goto C.1 C.2.1 (tgt := 4) dX10_allHit_25 (by decide) ?_
      exact hk4 ((((u32 v1) ||| (u32 q1.1) : Nat) : Int)) (v2 + 1) S (lv_sub hl [2, 1, 0] rfl) hf
    · replace hf := if_f hf h3
      refine lv_iload_n C.1 C.2.1 dX10_allHit_28 rfl (lv_at hl 1 rfl) ?_
      cases hf
      exact hend _ _ _ _ S dX10_allHit_29
set_option maxRecDepth 100000 in
set_option maxHeartbeats 4000000 in
theorem ct_X10_allHit (l : Launch) (G : Gd) (τ : Sg) {σ : Sg} {q : Int × Sg} (hf : f_X10_allHit σ = some q) : Ctr l yX10_allHit cX10_allHit 3 (some .int) (rmk 4 91) G false τ [.ref (G.1 41)] σ q.2 (some (.int (oI q.1))) := by
  unfold f_X10_allHit at hf
  refine CtrI.of (own := RX10) (plainFor_of_name (by decide)) (Nat.le_of_ble_eq_true rfl) rfl (fun p e s m below meth c Q ls C hl S hend => ?_)
  have hl : lv_has ls 3 [(0, .ref (G.1 41))] := hl
  refine r_iconst C dX10_allHit_0 ?_
  refine lv_istore_n C.1 C.2.1 dX10_allHit_1 rfl hl (by decide) (lv' := [(1, .int (oI 0)), (0, .ref (G.1 41))]) rfl (fun ls hl => ?_)
  refine r_iconst C dX10_allHit_2 ?_
  refine lv_istore_n C.1 C.2.1 dX10_allHit_3 rfl hl (by decide) (lv' := [(2, .int (oI 0)), (1, .int (oI 0)), (0, .ref (G.1 41))]) rfl (fun ls hl => ?_)
  exact b_X10_allHit_b4 C hend FUEL 0 0 S (lv_sub hl [2, 1, 0] rfl) hf
set_option maxRecDepth 100000 in
set_option maxHeartbeats 4000000 in
theorem ct_X10_storm (l : Launch) (G : Gd) (τ : Sg) {v1 : Int} {v2 : Int} {v3 : Int} {v4 : Int} {v5 : Int} {v6 : Int} {σ : Sg} {q : Int × Sg} (hf : f_X10_storm v1 v2 v3 v4 v5 v6 σ = some q) : Ctr l yX10_storm cX10_storm 7 (some .int) (rmk 5 113) G false τ [.ref (G.1 41), .int (oI v1), .int (oI v2), .int (oI v3), .int (oI v4), .int (oI v5), .int (oI v6)] σ q.2 (some (.int (oI q.1))) := by
  unfold f_X10_storm at hf
  refine CtrI.of (own := RX10) (plainFor_of_name (by decide)) (Nat.le_of_ble_eq_true rfl) rfl (fun p e s m below meth c Q ls C hl S hend => ?_)
  have hl : lv_has ls 7 [(0, .ref (G.1 41)), (1, .int (oI v1)), (2, .int (oI v2)), (3, .int (oI v3)), (4, .int (oI v4)), (5, .int (oI v5)), (6, .int (oI v6))] := hl
  refine lv_aload_n C.1 C.2.1 dX10_storm_0 rfl (lv_at hl 0 rfl) ?_
  refine r_iconst C dX10_storm_1 ?_
  refine p10_thrown C S tw_1061 dX10_storm_2 (fun H locs S => ?_)
  obtain ⟨σ1, S, hf⟩ := wr_s S hf
  refine lv_iload_n C.1 C.2.1 dX10_storm_5 rfl (lv_at hl 1 rfl) ?_
  refine r_if_lt C rfl (tgt := 47) dX10_storm_6 (by decide) (fun h22 => ?_) (fun h22 => ?_)
  · replace hf := if_t hf h22
    refine r_iconst C dX10_storm_47 ?_
    cases hf
    exact hend _ _ _ _ S dX10_storm_48
  · replace hf := if_f hf h22
    refine lv_iload_n C.1 C.2.1 dX10_storm_9 rfl (lv_at hl 1 rfl) ?_
    refine r_sipush C dX10_storm_10 (by decide) ?_
    refine r_icmp_gt C rfl (show w32 300 = 300 by decide) (tgt := 47) dX10_storm_13 (by decide) (fun h21 => ?_) (fun h21 => ?_)
    · replace hf := if_t hf h21
      refine lv_iload_n C.1 C.2.1 dX10_storm_16 rfl (lv_at hl 2 rfl) ?_
      refine lv_iload_n C.1 C.2.1 dX10_storm_17 rfl (lv_at hl 3 rfl) ?_
      obtain ⟨q2, hc3, hf⟩ := bd_o hf
      refine r_callSv C S (As := [.int (oI v2), .int (oI v3)]) (rest := []) (ct_X10_isPlace l G τ hc3) mi_X10_isPlace tw_1330 ms_X10_isPlace ⟨rfl, rfl⟩ ⟨Nat.le_of_ble_eq_true rfl, Nat.le_of_ble_eq_true rfl⟩ ⟨Nat.zero_le _, Nat.zero_le _⟩ rfl hl.1 rfl (Nat.le_of_ble_eq_true rfl) dX10_storm_18 (fun H locs S => ?_)
      refine r_if_eq C rfl (tgt := 47) dX10_storm_21 (by decide) (fun h20 => ?_) (fun h20 => ?_)
      · replace hf := if_t hf h20
        refine r_iconst C dX10_storm_47 ?_
        cases hf
        exact hend _ _ _ _ S dX10_storm_48
      · replace hf := if_f hf h20
        refine lv_iload C.1 C.2.1 dX10_storm_24 (lv_at hl 4 rfl) ?_
        refine lv_iload C.1 C.2.1 dX10_storm_26 (lv_at hl 5 rfl) ?_
        obtain ⟨q4, hc5, hf⟩ := bd_o hf
        refine r_callSv C S (As := [.int (oI v4), .int (oI v5)]) (rest := []) (ct_X10_isPlace l G τ hc5) mi_X10_isPlace tw_1330 ms_X10_isPlace ⟨rfl, rfl⟩ ⟨Nat.le_of_ble_eq_true rfl, Nat.le_of_ble_eq_true rfl⟩ ⟨Nat.zero_le _, Nat.zero_le _⟩ rfl hl.1 rfl (Nat.le_of_ble_eq_true rfl) dX10_storm_28 (fun H locs S => ?_)
        refine r_if_eq C rfl (tgt := 47) dX10_storm_31 (by decide) (fun h19 => ?_) (fun h19 => ?_)
        · replace hf := if_t hf h19
          refine r_iconst C dX10_storm_47 ?_
          cases hf
          exact hend _ _ _ _ S dX10_storm_48
        · replace hf := if_f hf h19
          refine lv_iload C.1 C.2.1 dX10_storm_34 (lv_at hl 6 rfl) ?_
          refine r_iconst C dX10_storm_36 ?_
          refine r_icmp_lt C rfl (show w32 1 = 1 by decide) (tgt := 47) dX10_storm_37 (by decide) (fun h18 => ?_) (fun h18 => ?_)
          · replace hf := if_t hf h18
            refine r_iconst C dX10_storm_47 ?_
            cases hf
            exact hend _ _ _ _ S dX10_storm_48
          · replace hf := if_f hf h18
            refine lv_iload C.1 C.2.1 dX10_storm_40 (lv_at hl 6 rfl) ?_
            refine r_bipush C dX10_storm_42 (by decide) ?_
            refine r_icmp_le C rfl (show w32 100 = 100 by decide) (tgt := 49) dX10_storm_44 (by decide) (fun h17 => ?_) (fun h17 => ?_)
            · replace hf := if_t hf h17
              refine lv_aload_n C.1 C.2.1 dX10_storm_49 rfl (lv_at hl 0 rfl) ?_
              refine g10_storm C S tw_1090 dX10_storm_50 ?_
              refine r_iconst C dX10_storm_53 ?_
              refine lv_iload_n C.1 C.2.1 dX10_storm_54 rfl (lv_at hl 1 rfl) ?_
              refine a_iast C S ar_55 (by decide) dX10_storm_55 (fun H locs S => ?_)
              obtain ⟨σ6, S, hf⟩ := wr_s S hf
              refine lv_aload_n C.1 C.2.1 dX10_storm_56 rfl (lv_at hl 0 rfl) ?_
              refine g10_storm C S tw_1090 dX10_storm_57 ?_
              refine r_iconst C dX10_storm_60 ?_
              refine lv_iload_n C.1 C.2.1 dX10_storm_61 rfl (lv_at hl 2 rfl) ?_
              refine a_iast C S ar_55 (by decide) dX10_storm_62 (fun H locs S => ?_)
              obtain ⟨σ7, S, hf⟩ := wr_s S hf
              refine lv_aload_n C.1 C.2.1 dX10_storm_63 rfl (lv_at hl 0 rfl) ?_
              refine g10_storm C S tw_1090 dX10_storm_64 ?_
              refine r_iconst C dX10_storm_67 ?_
              refine lv_iload_n C.1 C.2.1 dX10_storm_68 rfl (lv_at hl 3 rfl) ?_
              refine a_iast C S ar_55 (by decide) dX10_storm_69 (fun H locs S => ?_)
              obtain ⟨σ8, S, hf⟩ := wr_s S hf
              refine lv_aload_n C.1 C.2.1 dX10_storm_70 rfl (lv_at hl 0 rfl) ?_
              refine g10_storm C S tw_1090 dX10_storm_71 ?_
              refine r_iconst C dX10_storm_74 ?_
              refine lv_iload C.1 C.2.1 dX10_storm_75 (lv_at hl 4 rfl) ?_
              refine a_iast C S ar_55 (by decide) dX10_storm_77 (fun H locs S => ?_)
              obtain ⟨σ9, S, hf⟩ := wr_s S hf
              refine lv_aload_n C.1 C.2.1 dX10_storm_78 rfl (lv_at hl 0 rfl) ?_
              refine g10_storm C S tw_1090 dX10_storm_79 ?_
              refine r_iconst C dX10_storm_82 ?_
              refine lv_iload C.1 C.2.1 dX10_storm_83 (lv_at hl 5 rfl) ?_
              refine a_iast C S ar_55 (by decide) dX10_storm_85 (fun H locs S => ?_)
              obtain ⟨σ10, S, hf⟩ := wr_s S hf
              refine lv_aload_n C.1 C.2.1 dX10_storm_86 rfl (lv_at hl 0 rfl) ?_
              refine g10_storm C S tw_1090 dX10_storm_87 ?_
              refine r_iconst C dX10_storm_90 ?_
              refine lv_iload C.1 C.2.1 dX10_storm_91 (lv_at hl 6 rfl) ?_
              refine a_iast C S ar_55 (by decide) dX10_storm_93 (fun H locs S => ?_)
              obtain ⟨σ11, S, hf⟩ := wr_s S hf
              refine lv_aload_n C.1 C.2.1 dX10_storm_94 rfl (lv_at hl 0 rfl) ?_
              refine r_iconst C dX10_storm_95 ?_
              refine p10_isStorm C S tw_1091 (by decide) dX10_storm_96 (fun H locs S => ?_)
              obtain ⟨σ12, S, hf⟩ := wr_s S hf
              refine lv_aload_n C.1 C.2.1 dX10_storm_99 rfl (lv_at hl 0 rfl) ?_
              obtain ⟨q13, hc14, hf⟩ := bd_o hf
              refine r_callVv C S (As := []) (rest := []) (ct_X10_allHit l G τ hc14) mi_X10_allHit tw_1601 mv_X10_allHit (rvX10 S) ⟨rfl, rfl⟩ ⟨Nat.le_of_ble_eq_true rfl, Nat.le_of_ble_eq_true rfl⟩ ⟨Nat.zero_le _, Nat.zero_le _⟩ rfl hl.1 rfl (Nat.le_of_ble_eq_true rfl) dX10_storm_100 (fun H locs S => ?_)
              obtain ⟨q15, hc16, hf⟩ := bd_o hf
              refine r_callSv C S (As := [.int (oI q13.1)]) (rest := []) (ct_X10_bits l G τ hc16) mi_X10_bits tw_1389 ms_X10_bits ⟨rfl, rfl⟩ ⟨Nat.le_of_ble_eq_true rfl, Nat.le_of_ble_eq_true rfl⟩ ⟨Nat.zero_le _, Nat.zero_le _⟩ rfl hl.1 rfl (Nat.le_of_ble_eq_true rfl) dX10_storm_103 (fun H locs S => ?_)
              cases hf
              exact hend _ _ _ _ S dX10_storm_106
            · replace hf := if_f hf h17
              refine r_iconst C dX10_storm_47 ?_
              cases hf
              exact hend _ _ _ _ S dX10_storm_48
    · replace hf := if_f hf h21
      refine r_iconst C dX10_storm_47 ?_
      cases hf
      exact hend _ _ _ _ S dX10_storm_48
set_option maxRecDepth 100000 in
set_option maxHeartbeats 4000000 in
theorem b_X10_hit_b94 (C : Cx p s m args c RX10 cX10_hit 6) {q : Int × Sg} {k56 : Int → Int → Int → Int → Sg → Option (Int × Sg)} (hend : EndR p l e (rmk 5 113) s m args below meth c Q G false τ cX10_hit .ireturn [.int (oI q.1)] q.2) (hk56 : ∀ {H : Heap} {locs : List Loc} {ls : Array Slot} {σ : Sg} (v1 : Int) (v2 : Int) (v3 : Int) (v4 : Int), St G false τ σ s H locs → lv_has ls 6 [(0, .ref (G.1 41)), (1, .int (oI v1)), (2, .int (oI v2)), (3, .int (oI v3)), (4, .int (oI v4))] → k56 v1 v2 v3 v4 σ = some q → W p l e (rmk 5 113) s m args below meth c H locs 0 0 Q (F0 m 56 ls [])) {H : Heap} {locs : List Loc} {ls : Array Slot} {σ : Sg} (v1 : Int) (v2 : Int) (v3 : Int) (v4 : Int) (S : St G false τ σ s H locs) (hl : lv_has ls 6 [(0, .ref (G.1 41)), (1, .int (oI v1)), (2, .int (oI v2)), (3, .int (oI v3)), (4, .int (oI v4))]) (hf : f_X10_hit_b94 k56 v1 v2 v3 v4 σ = some q) : W p l e (rmk 5 113) s m args below meth c H locs 0 0 Q (F0 m 94 ls []) := by
  unfold f_X10_hit_b94 at hf
  refine r_iinc C dX10_hit_94 hl (k := 4) rfl (by decide) (lv' := [(4, .int (oI (v4 + 1))), (0, .ref (G.1 41)), (1, .int (oI v1)), (2, .int (oI v2)), (3, .int (oI v3))]) rfl (fun ls hl => ?_)
  refine lv_goto C.1 C.2.1 (tgt := 56) dX10_hit_97 (by decide) ?_
  exact hk56 v1 v2 v3 (v4 + 1) S (lv_sub hl [1, 2, 3, 4, 0] rfl) hf
set_option maxRecDepth 100000 in
set_option maxHeartbeats 4000000 in
theorem b_X10_hit_b100 (C : Cx p s m args c RX10 cX10_hit 6) {q : Int × Sg} (hend : EndR p l e (rmk 5 113) s m args below meth c Q G false τ cX10_hit .ireturn [.int (oI q.1)] q.2) {H : Heap} {locs : List Loc} {ls : Array Slot} {σ : Sg} (v1 : Int) (v2 : Int) (v3 : Int) (S : St G false τ σ s H locs) (hl : lv_has ls 6 [(1, .int (oI v1)), (2, .int (oI v2)), (3, .int (oI v3))]) (hf : f_X10_hit_b100 v1 v2 v3 σ = some q) : W p l e (rmk 5 113) s m args below meth c H locs 0 0 Q (F0 m 100 ls []) := by
  unfold f_X10_hit_b100 at hf
  refine lv_iload_n C.1 C.2.1 dX10_hit_100 rfl (lv_at hl 0 rfl) ?_
  refine r_iconst C dX10_hit_101 ?_
  refine r_icmp_ne C rfl (show w32 2 = 2 by decide) (tgt := 109) dX10_hit_102 (by decide) (fun h13 => ?_) (fun h13 => ?_)
  · replace hf := if_t hf h13
    refine lv_iload_n C.1 C.2.1 dX10_hit_105 rfl (lv_at hl 1 rfl) ?_
    refine lv_goto C.1 C.2.1 (tgt := 110) dX10_hit_106 (by decide) ?_
    cases hf
    exact hend _ _ _ _ S dX10_hit_110
  · replace hf := if_f hf h13
    refine lv_iload_n C.1 C.2.1 dX10_hit_109 rfl (lv_at hl 2 rfl) ?_
    cases hf
    exact hend _ _ _ _ S dX10_hit_110
set_option maxRecDepth 100000 in
set_option maxHeartbeats 4000000 in
theorem b_X10_hit_b56 (C : Cx p s m args c RX10 cX10_hit 6) {q : Int × Sg} (hend : EndR p l e (rmk 5 113) s m args below meth c Q G false τ cX10_hit .ireturn [.int (oI q.1)] q.2) : ∀ (n : Nat) {H : Heap} {locs : List Loc} {ls : Array Slot} {σ : Sg} (v1 : Int) (v2 : Int) (v3 : Int) (v4 : Int) (S : St G false τ σ s H locs) (hl : lv_has ls 6 [(0, .ref (G.1 41)), (1, .int (oI v1)), (2, .int (oI v2)), (3, .int (oI v3)), (4, .int (oI v4))]) (hf : f_X10_hit_b56 n v1 v2 v3 v4 σ = some q), W p l e (rmk 5 113) s m args below meth c H locs 0 0 Q (F0 m 56 ls []) := by
  intro n
  induction n with
  | zero => intro H locs ls σ v1 v2 v3 v4 S hl hf; cases hf
  | succ n ih =>
    intro H locs ls σ v1 v2 v3 v4 S hl hf
    have hk56 := @ih
    rw [f_X10_hit_b56] at hf
    refine lv_iload C.1 C.2.1 dX10_hit_56 (lv_at hl 4 rfl) ?_
    refine lv_aload_n C.1 C.2.1 dX10_hit_58 rfl (lv_at hl 0 rfl) ?_
    refine g10_storm C S tw_1090 dX10_hit_59 ?_
    refine r_iconst C dX10_hit_62 ?_
    refine a_iald C S ar_55 (by decide) dX10_hit_63 ?_
    refine r_icmp_gt C rfl rfl (tgt := 100) dX10_hit_64 (by decide) (fun h14 => ?_) (fun h14 => ?_)
    · replace hf := if_t hf h14
      refine lv_aload_n C.1 C.2.1 dX10_hit_67 rfl (lv_at hl 0 rfl) ?_
      refine lv_aload_n C.1 C.2.1 dX10_hit_68 rfl (lv_at hl 0 rfl) ?_
      refine lv_iload C.1 C.2.1 dX10_hit_69 (lv_at hl 4 rfl) ?_
      obtain ⟨q8, hc9, hf⟩ := bd_o hf
      refine r_callVv C S (As := [.int (oI v4)]) (rest := [.ref (G.1 41)]) (ct_X10_hitAt l G τ hc9) mi_X10_hitAt tw_1605 mv_X10_hitAt (rvX10 S) ⟨rfl, rfl⟩ ⟨Nat.le_of_ble_eq_true rfl, Nat.le_of_ble_eq_true rfl⟩ ⟨Nat.zero_le _, Nat.zero_le _⟩ rfl hl.1 rfl (Nat.le_of_ble_eq_true rfl) dX10_hit_71 (fun H locs S => ?_)
      obtain ⟨q10, hc11, hf⟩ := bd_o hf
      refine r_callVv C S (As := [.int (oI q8.1)]) (rest := []) (ct_X10_sumOf l G τ hc11) mi_X10_sumOf tw_1392 mv_X10_sumOf (rvX10 S) ⟨rfl, rfl⟩ ⟨Nat.le_of_ble_eq_true rfl, Nat.le_of_ble_eq_true rfl⟩ ⟨Nat.zero_le _, Nat.zero_le _⟩ rfl hl.1 rfl (Nat.le_of_ble_eq_true rfl) dX10_hit_74 (fun H locs S => ?_)
      refine lv_istore C.1 C.2.1 dX10_hit_77 hl (by decide) (lv' := [(5, .int (oI q10)), (0, .ref (G.1 41)), (1, .int (oI v1)), (2, .int (oI v2)), (3, .int (oI v3)), (4, .int (oI v4))]) rfl (fun ls hl => ?_)
      refine lv_iload C.1 C.2.1 dX10_hit_79 (lv_at hl 0 rfl) ?_
      refine lv_iload_n C.1 C.2.1 dX10_hit_81 rfl (lv_at hl 4 rfl) ?_
      refine r_icmp_gt C rfl rfl (tgt := 88) dX10_hit_82 (by decide) (fun h12 => ?_) (fun h12 => ?_)
      · replace hf := if_t hf h12
        refine lv_goto C.1 C.2.1 (tgt := 94) dX10_hit_85 (by decide) ?_
        exact b_X10_hit_b94 C hend hk56 v1 v2 v3 v4 S (lv_sub hl [1, 2, 3, 4, 5] rfl) hf
      · replace hf := if_f hf h12
        refine lv_iload C.1 C.2.1 dX10_hit_88 (lv_at hl 5 rfl) ?_
        refine lv_istore_n C.1 C.2.1 dX10_hit_90 rfl hl (by decide) (lv' := [(2, .int (oI v4)), (5, .int (oI q10)), (0, .ref (G.1 41)), (1, .int (oI v1)), (3, .int (oI v3)), (4, .int (oI v4))]) rfl (fun ls hl => ?_)
        refine lv_iload C.1 C.2.1 dX10_hit_91 (lv_at hl 1 rfl) ?_
        refine lv_istore_n C.1 C.2.1 dX10_hit_93 rfl hl (by decide) (lv' := [(3, .int (oI q10)), (2, .int (oI v4)), (5, .int (oI q10)), (0, .ref (G.1 41)), (1, .int (oI v1)), (4, .int (oI v4))]) rfl (fun ls hl => ?_)
        exact b_X10_hit_b94 C hend hk56 v1 v4 q10 v4 S (lv_sub hl [3, 4, 1, 0, 5] rfl) hf
    · replace hf := if_f hf h14
      exact b_X10_hit_b100 C hend v1 v2 v3 S (lv_sub hl [1, 2, 3] rfl) hf
set_option maxRecDepth 100000 in
set_option maxHeartbeats 4000000 in
theorem ct_X10_hit (l : Launch) (G : Gd) (τ : Sg) {v1 : Int} {σ : Sg} {q : Int × Sg} (hf : f_X10_hit v1 σ = some q) : Ctr l yX10_hit cX10_hit 6 (some .int) (rmk 5 113) G false τ [.ref (G.1 41), .int (oI v1)] σ q.2 (some (.int (oI q.1))) := by
  unfold f_X10_hit at hf
  refine CtrI.of (own := RX10) (plainFor_of_name (by decide)) (Nat.le_of_ble_eq_true rfl) rfl (fun p e s m below meth c Q ls C hl S hend => ?_)
  have hl : lv_has ls 6 [(0, .ref (G.1 41)), (1, .int (oI v1))] := hl
  refine lv_aload_n C.1 C.2.1 dX10_hit_0 rfl (lv_at hl 0 rfl) ?_
  refine r_iconst C dX10_hit_1 ?_
  refine p10_thrown C S tw_1061 dX10_hit_2 (fun H locs S => ?_)
  obtain ⟨σ1, S, hf⟩ := wr_s S hf
  refine lv_iload_n C.1 C.2.1 dX10_hit_5 rfl (lv_at hl 1 rfl) ?_
  refine r_if_lt C rfl (tgt := 14) dX10_hit_6 (by decide) (fun h19 => ?_) (fun h19 => ?_)
  · replace hf := if_t hf h19
    refine r_iconst C dX10_hit_14 ?_
    cases hf
    exact hend _ _ _ _ S dX10_hit_15
  · replace hf := if_f hf h19
    refine lv_iload_n C.1 C.2.1 dX10_hit_9 rfl (lv_at hl 1 rfl) ?_
    refine r_iconst C dX10_hit_10 ?_
    refine r_icmp_le C rfl (show w32 3 = 3 by decide) (tgt := 16) dX10_hit_11 (by decide) (fun h18 => ?_) (fun h18 => ?_)
    · replace hf := if_t hf h18
      refine lv_aload_n C.1 C.2.1 dX10_hit_16 rfl (lv_at hl 0 rfl) ?_
      refine g10_isStorm C S tw_1091 dX10_hit_17 ?_
      refine r_if_ne C rfl (tgt := 26) dX10_hit_20 (by decide) (fun h17 => ?_) (fun h17 => ?_)
      · replace hf := if_t hf h17
        refine r_bipush C dX10_hit_23 (by decide) ?_
        cases hf
        exact hend _ _ _ _ S dX10_hit_25
      · replace hf := if_f hf h17
        refine lv_iload_n C.1 C.2.1 dX10_hit_26 rfl (lv_at hl 1 rfl) ?_
        refine r_if_ne C rfl (tgt := 35) dX10_hit_27 (by decide) (fun h16 => ?_) (fun h16 => ?_)
        · replace hf := if_t hf h16
          refine lv_aload_n C.1 C.2.1 dX10_hit_30 rfl (lv_at hl 0 rfl) ?_
          obtain ⟨q2, hc3, hf⟩ := bd_o hf
          refine r_callVv C S (As := []) (rest := []) (ct_X10_allHit l G τ hc3) mi_X10_allHit tw_1601 mv_X10_allHit (rvX10 S) ⟨rfl, rfl⟩ ⟨Nat.le_of_ble_eq_true rfl, Nat.le_of_ble_eq_true rfl⟩ ⟨Nat.zero_le _, Nat.zero_le _⟩ rfl hl.1 rfl (Nat.le_of_ble_eq_true rfl) dX10_hit_31 (fun H locs S => ?_)
          cases hf
          exact hend _ _ _ _ S dX10_hit_34
        · replace hf := if_f hf h16
          refine lv_iload_n C.1 C.2.1 dX10_hit_35 rfl (lv_at hl 1 rfl) ?_
          refine r_iconst C dX10_hit_36 ?_
          refine r_icmp_ne C rfl (show w32 1 = 1 by decide) (tgt := 49) dX10_hit_37 (by decide) (fun h15 => ?_) (fun h15 => ?_)
          · replace hf := if_t hf h15
            refine lv_aload_n C.1 C.2.1 dX10_hit_40 rfl (lv_at hl 0 rfl) ?_
            refine lv_aload_n C.1 C.2.1 dX10_hit_41 rfl (lv_at hl 0 rfl) ?_
            obtain ⟨q4, hc5, hf⟩ := bd_o hf
            refine r_callVv C S (As := []) (rest := [.ref (G.1 41)]) (ct_X10_allHit l G τ hc5) mi_X10_allHit tw_1601 mv_X10_allHit (rvX10 S) ⟨rfl, rfl⟩ ⟨Nat.le_of_ble_eq_true rfl, Nat.le_of_ble_eq_true rfl⟩ ⟨Nat.zero_le _, Nat.zero_le _⟩ rfl hl.1 rfl (Nat.le_of_ble_eq_true rfl) dX10_hit_42 (fun H locs S => ?_)
            obtain ⟨q6, hc7, hf⟩ := bd_o hf
            refine r_callVv C S (As := [.int (oI q4.1)]) (rest := []) (ct_X10_sumOf l G τ hc7) mi_X10_sumOf tw_1392 mv_X10_sumOf (rvX10 S) ⟨rfl, rfl⟩ ⟨Nat.le_of_ble_eq_true rfl, Nat.le_of_ble_eq_true rfl⟩ ⟨Nat.zero_le _, Nat.zero_le _⟩ rfl hl.1 rfl (Nat.le_of_ble_eq_true rfl) dX10_hit_45 (fun H locs S => ?_)
            cases hf
            exact hend _ _ _ _ S dX10_hit_48
          · replace hf := if_f hf h15
            refine r_iconst C dX10_hit_49 ?_
            refine lv_istore_n C.1 C.2.1 dX10_hit_50 rfl hl (by decide) (lv' := [(2, .int (oI 0)), (0, .ref (G.1 41)), (1, .int (oI v1))]) rfl (fun ls hl => ?_)
            refine r_iconst C dX10_hit_51 ?_
            refine lv_istore_n C.1 C.2.1 dX10_hit_52 rfl hl (by decide) (lv' := [(3, .int (oI ((-1)))), (2, .int (oI 0)), (0, .ref (G.1 41)), (1, .int (oI v1))]) rfl (fun ls hl => ?_)
            refine r_iconst C dX10_hit_53 ?_
            refine lv_istore C.1 C.2.1 dX10_hit_54 hl (by decide) (lv' := [(4, .int (oI 0)), (3, .int (oI ((-1)))), (2, .int (oI 0)), (0, .ref (G.1 41)), (1, .int (oI v1))]) rfl (fun ls hl => ?_)
            exact b_X10_hit_b56 C hend FUEL v1 0 ((-1)) 0 S (lv_sub hl [3, 4, 2, 1, 0] rfl) hf
    · replace hf := if_f hf h18
      refine r_iconst C dX10_hit_14 ?_
      cases hf
      exact hend _ _ _ _ S dX10_hit_15
set_option maxRecDepth 100000 in
set_option maxHeartbeats 4000000 in
theorem ct_X10_pays (l : Launch) (G : Gd) (τ : Sg) {v1 : Int} {σ : Sg} {q : Int × Sg} (hf : f_X10_pays v1 σ = some q) : Ctr l yX10_pays cX10_pays 3 (some .int) (rmk 5 113) G false τ [.ref (G.1 41), .int (oI v1)] σ q.2 (some (.int (oI q.1))) := by
  unfold f_X10_pays at hf
  refine CtrI.of (own := RX10) (plainFor_of_name (by decide)) (Nat.le_of_ble_eq_true rfl) rfl (fun p e s m below meth c Q ls C hl S hend => ?_)
  have hl : lv_has ls 3 [(0, .ref (G.1 41)), (1, .int (oI v1))] := hl
  refine lv_aload_n C.1 C.2.1 dX10_pays_0 rfl (lv_at hl 0 rfl) ?_
  refine r_iconst C dX10_pays_1 ?_
  refine p10_thrown C S tw_1061 dX10_pays_2 (fun H locs S => ?_)
  obtain ⟨σ1, S, hf⟩ := wr_s S hf
  refine lv_aload_n C.1 C.2.1 dX10_pays_5 rfl (lv_at hl 0 rfl) ?_
  refine lv_iload_n C.1 C.2.1 dX10_pays_6 rfl (lv_at hl 1 rfl) ?_
  obtain ⟨q2, hc3, hf⟩ := bd_o hf
  refine r_callVv C S (As := [.int (oI v1)]) (rest := []) (ct_X10_isTreaty l G τ hc3) mi_X10_isTreaty tw_1373 mv_X10_isTreaty (rvX10 S) ⟨rfl, rfl⟩ ⟨Nat.le_of_ble_eq_true rfl, Nat.le_of_ble_eq_true rfl⟩ ⟨Nat.zero_le _, Nat.zero_le _⟩ rfl hl.1 rfl (Nat.le_of_ble_eq_true rfl) dX10_pays_7 (fun H locs S => ?_)
  refine r_if_ne C rfl (tgt := 15) dX10_pays_10 (by decide) (fun h13 => ?_) (fun h13 => ?_)
  · replace hf := if_t hf h13
    refine r_iconst C dX10_pays_13 ?_
    cases hf
    exact hend _ _ _ _ S dX10_pays_14
  · replace hf := if_f hf h13
    refine lv_aload_n C.1 C.2.1 dX10_pays_15 rfl (lv_at hl 0 rfl) ?_
    refine g10_isStorm C S tw_1091 dX10_pays_16 ?_
    refine r_if_ne C rfl (tgt := 25) dX10_pays_19 (by decide) (fun h12 => ?_) (fun h12 => ?_)
    · replace hf := if_t hf h12
      refine r_bipush C dX10_pays_22 (by decide) ?_
      cases hf
      exact hend _ _ _ _ S dX10_pays_24
    · replace hf := if_f hf h12
      refine lv_aload_n C.1 C.2.1 dX10_pays_25 rfl (lv_at hl 0 rfl) ?_
      refine lv_aload_n C.1 C.2.1 dX10_pays_26 rfl (lv_at hl 0 rfl) ?_
      obtain ⟨q4, hc5, hf⟩ := bd_o hf
      refine r_callVv C S (As := []) (rest := [.ref (G.1 41)]) (ct_X10_allHit l G τ hc5) mi_X10_allHit tw_1601 mv_X10_allHit (rvX10 S) ⟨rfl, rfl⟩ ⟨Nat.le_of_ble_eq_true rfl, Nat.le_of_ble_eq_true rfl⟩ ⟨Nat.zero_le _, Nat.zero_le _⟩ rfl hl.1 rfl (Nat.le_of_ble_eq_true rfl) dX10_pays_27 (fun H locs S => ?_)
      refine lv_aload_n C.1 C.2.1 dX10_pays_30 rfl (lv_at hl 0 rfl) ?_
      refine lv_iload_n C.1 C.2.1 dX10_pays_31 rfl (lv_at hl 1 rfl) ?_
      obtain ⟨q6, hc7, hf⟩ := bd_o hf
      refine r_callVv C S (As := [.int (oI v1)]) (rest := [.int (oI q4.1), .ref (G.1 41)]) (ct_X10_ofTreaty l G τ hc7) mi_X10_ofTreaty tw_1277 mv_X10_ofTreaty (rvX10 S) ⟨rfl, rfl⟩ ⟨Nat.le_of_ble_eq_true rfl, Nat.le_of_ble_eq_true rfl⟩ ⟨Nat.zero_le _, Nat.zero_le _⟩ rfl hl.1 rfl (Nat.le_of_ble_eq_true rfl) dX10_pays_32 (fun H locs S => ?_)
      refine r_iand C rfl rfl dX10_pays_35 ?_
      obtain ⟨q8, hc9, hf⟩ := bd_o hf
      refine r_callVv C S (As := [.int (oI ((((u32 q4.1) &&& (u32 q6) : Nat) : Int)))]) (rest := []) (ct_X10_sumOf l G τ hc9) mi_X10_sumOf tw_1392 mv_X10_sumOf (rvX10 S) ⟨rfl, rfl⟩ ⟨Nat.le_of_ble_eq_true rfl, Nat.le_of_ble_eq_true rfl⟩ ⟨Nat.zero_le _, Nat.zero_le _⟩ rfl hl.1 rfl (Nat.le_of_ble_eq_true rfl) dX10_pays_36 (fun H locs S => ?_)
      refine lv_aload_n C.1 C.2.1 dX10_pays_39 rfl (lv_at hl 0 rfl) ?_
      refine g10_limit C S tw_1085 dX10_pays_40 ?_
      refine lv_iload_n C.1 C.2.1 dX10_pays_43 rfl (lv_at hl 1 rfl) ?_
      obtain ⟨hi10, hf⟩ := ck_o hf
      refine a_iald C S ar_52 hi10 dX10_pays_44 ?_
      refine r_isub C dX10_pays_45 ?_
      refine lv_istore_n C.1 C.2.1 dX10_pays_46 rfl hl (by decide) (lv' := [(2, .int (oI (q8 - (q4.2 52 (v1).toNat)))), (0, .ref (G.1 41)), (1, .int (oI v1))]) rfl (fun ls hl => ?_)
      refine lv_iload_n C.1 C.2.1 dX10_pays_47 rfl (lv_at hl 0 rfl) ?_
      refine r_if_ge C rfl (tgt := 55) dX10_pays_48 (by decide) (fun h11 => ?_) (fun h11 => ?_)
      · replace hf := if_t hf h11
        refine r_iconst C dX10_pays_51 ?_
        refine lv_goto C.1 C.2.1 (tgt := 56) dX10_pays_52 (by decide) ?_
        cases hf
        exact hend _ _ _ _ S dX10_pays_56
      · replace hf := if_f hf h11
        refine lv_iload_n C.1 C.2.1 dX10_pays_55 rfl (lv_at hl 0 rfl) ?_
        cases hf
        exact hend _ _ _ _ S dX10_pays_56
set_option maxRecDepth 100000 in
set_option maxHeartbeats 4000000 in
theorem ct_X10_draws (l : Launch) (G : Gd) (τ : Sg) {v1 : Int} {σ : Sg} {q : Int × Sg} (hf : f_X10_draws v1 σ = some q) : Ctr l yX10_draws cX10_draws 2 (some .int) (rmk 0 0) G false τ [.ref (G.1 41), .int (oI v1)] σ q.2 (some (.int (oI q.1))) := by
  unfold f_X10_draws at hf
  refine CtrI.of (own := RX10) (plainFor_of_name (by decide)) (Nat.le_of_ble_eq_true rfl) rfl (fun p e s m below meth c Q ls C hl S hend => ?_)
  have hl : lv_has ls 2 [(0, .ref (G.1 41)), (1, .int (oI v1))] := hl
  refine lv_aload_n C.1 C.2.1 dX10_draws_0 rfl (lv_at hl 0 rfl) ?_
  refine lv_aload_n C.1 C.2.1 dX10_draws_1 rfl (lv_at hl 0 rfl) ?_
  refine g10_drawing C S tw_1102 dX10_draws_2 ?_
  refine r_ldc2 C tw_1629 dX10_draws_5 ?_
  refine r_lmul C dX10_draws_8 ?_
  refine r_ldc2 C tw_1630 dX10_draws_9 ?_
  refine r_ladd C dX10_draws_12 ?_
  refine r_ldc2 C tw_1631 dX10_draws_13 ?_
  obtain ⟨hz1, hf⟩ := ck_o hf
  refine r_lrem C hz1 dX10_draws_16 ?_
  refine p10_drawing C S tw_1102 dX10_draws_17 (fun H locs S => ?_)
  obtain ⟨σ2, S, hf⟩ := wr_s S hf
  refine lv_aload_n C.1 C.2.1 dX10_draws_20 rfl (lv_at hl 0 rfl) ?_
  refine g10_drawing C S tw_1102 dX10_draws_21 ?_
  refine r_ldc2 C tw_1632 dX10_draws_24 ?_
  obtain ⟨hz3, hf⟩ := ck_o hf
  refine r_ldiv C hz3 dX10_draws_27 ?_
  refine lv_iload_n C.1 C.2.1 dX10_draws_28 rfl (lv_at hl 1 rfl) ?_
  refine r_i2l C dX10_draws_29 ?_
  obtain ⟨hz4, hf⟩ := ck_o hf
  refine r_lrem C hz4 dX10_draws_30 ?_
  refine r_l2i C dX10_draws_31 ?_
  cases hf
  exact hend _ _ _ _ S dX10_draws_32
set_option maxRecDepth 100000 in
set_option maxHeartbeats 4000000 in
theorem b_X10_drawn_b158 (C : Cx p s m args c RX10 cX10_drawn 13) {q : Int × Sg} {k62 : Int → Int → Int → Int → Int → Int → Int → Int → Sg → Option (Int × Sg)} (hend : EndR p l e (rmk 3 70) s m args below meth c Q G false τ cX10_drawn .ireturn [.int (oI q.1)] q.2) (hk62 : ∀ {H : Heap} {locs : List Loc} {ls : Array Slot} {σ : Sg} (v1 : Int) (v3 : Int) (v4 : Int) (v5 : Int) (v6 : Int) (v7 : Int) (v8 : Int) (v9 : Int), St G false τ σ s H locs → lv_has ls 13 [(0, .ref (G.1 41)), (1, .int (oI v1)), (3, .int (oI v3)), (4, .int (oI v4)), (5, .int (oI v5)), (6, .int (oI v6)), (7, .int (oI v7)), (8, .int (oI v8)), (9, .int (oI v9))] → k62 v1 v3 v4 v5 v6 v7 v8 v9 σ = some q → W p l e (rmk 3 70) s m args below meth c H locs 0 0 Q (F0 m 62 ls [])) {H : Heap} {locs : List Loc} {ls : Array Slot} {σ : Sg} (v1 : Int) (v3 : Int) (v4 : Int) (v5 : Int) (v6 : Int) (v7 : Int) (v8 : Int) (v9 : Int) (S : St G false τ σ s H locs) (hl : lv_has ls 13 [(0, .ref (G.1 41)), (1, .int (oI v1)), (3, .int (oI v3)), (4, .int (oI v4)), (5, .int (oI v5)), (6, .int (oI v6)), (7, .int (oI v7)), (8, .int (oI v8)), (9, .int (oI v9))]) (hf : f_X10_drawn_b158 k62 v1 v3 v4 v5 v6 v7 v8 v9 σ = some q) : W p l e (rmk 3 70) s m args below meth c H locs 0 0 Q (F0 m 158 ls []) := by
  unfold f_X10_drawn_b158 at hf
  refine r_iinc C dX10_drawn_158 hl (k := 8) rfl (by decide) (lv' := [(9, .int (oI (v9 + 1))), (0, .ref (G.1 41)), (1, .int (oI v1)), (3, .int (oI v3)), (4, .int (oI v4)), (5, .int (oI v5)), (6, .int (oI v6)), (7, .int (oI v7)), (8, .int (oI v8))]) rfl (fun ls hl => ?_)
  refine lv_goto C.1 C.2.1 (tgt := 62) dX10_drawn_161 (by decide) ?_
  exact hk62 v1 v3 v4 v5 v6 v7 v8 (v9 + 1) S (lv_sub hl [1, 2, 3, 4, 5, 6, 7, 8, 0] rfl) hf
set_option maxRecDepth 100000 in
set_option maxHeartbeats 4000000 in
theorem b_X10_drawn_b130 (C : Cx p s m args c RX10 cX10_drawn 13) {q : Int × Sg} {k62 : Int → Int → Int → Int → Int → Int → Int → Int → Sg → Option (Int × Sg)} (hend : EndR p l e (rmk 3 70) s m args below meth c Q G false τ cX10_drawn .ireturn [.int (oI q.1)] q.2) (hk62 : ∀ {H : Heap} {locs : List Loc} {ls : Array Slot} {σ : Sg} (v1 : Int) (v3 : Int) (v4 : Int) (v5 : Int) (v6 : Int) (v7 : Int) (v8 : Int) (v9 : Int), St G false τ σ s H locs → lv_has ls 13 [(0, .ref (G.1 41)), (1, .int (oI v1)), (3, .int (oI v3)), (4, .int (oI v4)), (5, .int (oI v5)), (6, .int (oI v6)), (7, .int (oI v7)), (8, .int (oI v8)), (9, .int (oI v9))] → k62 v1 v3 v4 v5 v6 v7 v8 v9 σ = some q → W p l e (rmk 3 70) s m args below meth c H locs 0 0 Q (F0 m 62 ls [])) {H : Heap} {locs : List Loc} {ls : Array Slot} {σ : Sg} (v1 : Int) (v3 : Int) (v4 : Int) (v5 : Int) (v6 : Int) (v8 : Int) (v9 : Int) (v12 : Int) (w0 : Int) (w1 : Int) (S : St G false τ σ s H locs) (hl : lv_has ls 13 [(0, .ref (G.1 41)), (1, .int (oI v1)), (3, .int (oI v3)), (4, .int (oI v4)), (5, .int (oI v5)), (6, .int (oI v6)), (8, .int (oI v8)), (9, .int (oI v9)), (12, .int (oI v12))]) (hf : f_X10_drawn_b130 k62 v1 v3 v4 v5 v6 v8 v9 v12 w0 w1 σ = some q) : W p l e (rmk 3 70) s m args below meth c H locs 0 0 Q (F0 m 130 ls [.int (oI w0), .int (oI w1)]) := by
  unfold f_X10_drawn_b130 at hf
  refine r_iadd C dX10_drawn_130 ?_
  refine lv_istore C.1 C.2.1 dX10_drawn_131 hl (by decide) (lv' := [(7, .int (oI (w1 + w0))), (0, .ref (G.1 41)), (1, .int (oI v1)), (3, .int (oI v3)), (4, .int (oI v4)), (5, .int (oI v5)), (6, .int (oI v6)), (8, .int (oI v8)), (9, .int (oI v9)), (12, .int (oI v12))]) rfl (fun ls hl => ?_)
  refine lv_iload C.1 C.2.1 dX10_drawn_133 (lv_at hl 7 rfl) ?_
  refine lv_iload C.1 C.2.1 dX10_drawn_135 (lv_at hl 9 rfl) ?_
  refine r_iadd C dX10_drawn_137 ?_
  refine lv_istore C.1 C.2.1 dX10_drawn_138 hl (by decide) (lv' := [(8, .int (oI (v8 + v12))), (7, .int (oI (w1 + w0))), (0, .ref (G.1 41)), (1, .int (oI v1)), (3, .int (oI v3)), (4, .int (oI v4)), (5, .int (oI v5)), (6, .int (oI v6)), (9, .int (oI v9)), (12, .int (oI v12))]) rfl (fun ls hl => ?_)
  refine lv_iload C.1 C.2.1 dX10_drawn_140 (lv_at hl 9 rfl) ?_
  refine lv_iload C.1 C.2.1 dX10_drawn_142 (lv_at hl 7 rfl) ?_
  refine r_icmp_gt C rfl rfl (tgt := 150) dX10_drawn_144 (by decide) (fun h17 => ?_) (fun h17 => ?_)
  · replace hf := if_t hf h17
    refine lv_goto C.1 C.2.1 (tgt := 158) dX10_drawn_147 (by decide) ?_
    exact b_X10_drawn_b158 C hend hk62 v1 v3 v4 v5 v6 (w1 + w0) (v8 + v12) v9 S (lv_sub hl [2, 3, 4, 5, 6, 7, 1, 0, 8] rfl) hf
  · replace hf := if_f hf h17
    refine lv_iload C.1 C.2.1 dX10_drawn_150 (lv_at hl 8 rfl) ?_
    refine lv_istore C.1 C.2.1 dX10_drawn_152 hl (by decide) (lv' := [(5, .int (oI v9)), (8, .int (oI (v8 + v12))), (7, .int (oI (w1 + w0))), (0, .ref (G.1 41)), (1, .int (oI v1)), (3, .int (oI v3)), (4, .int (oI v4)), (6, .int (oI v6)), (9, .int (oI v9)), (12, .int (oI v12))]) rfl (fun ls hl => ?_)
    refine lv_iload C.1 C.2.1 dX10_drawn_154 (lv_at hl 9 rfl) ?_
    refine lv_istore C.1 C.2.1 dX10_drawn_156 hl (by decide) (lv' := [(6, .int (oI v12)), (5, .int (oI v9)), (8, .int (oI (v8 + v12))), (7, .int (oI (w1 + w0))), (0, .ref (G.1 41)), (1, .int (oI v1)), (3, .int (oI v3)), (4, .int (oI v4)), (9, .int (oI v9)), (12, .int (oI v12))]) rfl (fun ls hl => ?_)
    exact b_X10_drawn_b158 C hend hk62 v1 v3 v4 v9 v12 (w1 + w0) (v8 + v12) v9 S (lv_sub hl [4, 5, 6, 7, 1, 0, 3, 2, 8] rfl) hf
set_option maxRecDepth 100000 in
set_option maxHeartbeats 4000000 in
theorem b_X10_drawn_b164 (C : Cx p s m args c RX10 cX10_drawn 13) {q : Int × Sg} (hend : EndR p l e (rmk 3 70) s m args below meth c Q G false τ cX10_drawn .ireturn [.int (oI q.1)] q.2) {H : Heap} {locs : List Loc} {ls : Array Slot} {σ : Sg} (v4 : Int) (v5 : Int) (v6 : Int) (v7 : Int) (v8 : Int) (S : St G false τ σ s H locs) (hl : lv_has ls 13 [(4, .int (oI v4)), (5, .int (oI v5)), (6, .int (oI v6)), (7, .int (oI v7)), (8, .int (oI v8))]) (hf : f_X10_drawn_b164 v4 v5 v6 v7 v8 σ = some q) : W p l e (rmk 3 70) s m args below meth c H locs 0 0 Q (F0 m 164 ls []) := by
  unfold f_X10_drawn_b164 at hf
  refine lv_iload C.1 C.2.1 dX10_drawn_164 (lv_at hl 0 rfl) ?_
  refine r_if_ne C rfl (tgt := 174) dX10_drawn_166 (by decide) (fun h21 => ?_) (fun h21 => ?_)
  · replace hf := if_t hf h21
    refine lv_iload C.1 C.2.1 dX10_drawn_169 (lv_at hl 2 rfl) ?_
    refine lv_goto C.1 C.2.1 (tgt := 198) dX10_drawn_171 (by decide) ?_
    cases hf
    exact hend _ _ _ _ S dX10_drawn_198
  · replace hf := if_f hf h21
    refine lv_iload C.1 C.2.1 dX10_drawn_174 (lv_at hl 0 rfl) ?_
    refine r_iconst C dX10_drawn_176 ?_
    refine r_icmp_ne C rfl (show w32 1 = 1 by decide) (tgt := 185) dX10_drawn_177 (by decide) (fun h20 => ?_) (fun h20 => ?_)
    · replace hf := if_t hf h20
      refine lv_iload C.1 C.2.1 dX10_drawn_180 (lv_at hl 1 rfl) ?_
      refine lv_goto C.1 C.2.1 (tgt := 198) dX10_drawn_182 (by decide) ?_
      cases hf
      exact hend _ _ _ _ S dX10_drawn_198
    · replace hf := if_f hf h20
      refine lv_iload C.1 C.2.1 dX10_drawn_185 (lv_at hl 0 rfl) ?_
      refine r_iconst C dX10_drawn_187 ?_
      refine r_icmp_ne C rfl (show w32 2 = 2 by decide) (tgt := 196) dX10_drawn_188 (by decide) (fun h19 => ?_) (fun h19 => ?_)
      · replace hf := if_t hf h19
        refine lv_iload C.1 C.2.1 dX10_drawn_191 (lv_at hl 3 rfl) ?_
        refine lv_goto C.1 C.2.1 (tgt := 198) dX10_drawn_193 (by decide) ?_
        cases hf
        exact hend _ _ _ _ S dX10_drawn_198
      · replace hf := if_f hf h19
        refine lv_iload C.1 C.2.1 dX10_drawn_196 (lv_at hl 4 rfl) ?_
        cases hf
        exact hend _ _ _ _ S dX10_drawn_198
set_option maxRecDepth 100000 in
set_option maxHeartbeats 4000000 in
theorem b_X10_drawn_b62 (C : Cx p s m args c RX10 cX10_drawn 13) {q : Int × Sg} (hend : EndR p l e (rmk 3 70) s m args below meth c Q G false τ cX10_drawn .ireturn [.int (oI q.1)] q.2) : ∀ (n : Nat) {H : Heap} {locs : List Loc} {ls : Array Slot} {σ : Sg} (v1 : Int) (v3 : Int) (v4 : Int) (v5 : Int) (v6 : Int) (v7 : Int) (v8 : Int) (v9 : Int) (S : St G false τ σ s H locs) (hl : lv_has ls 13 [(0, .ref (G.1 41)), (1, .int (oI v1)), (3, .int (oI v3)), (4, .int (oI v4)), (5, .int (oI v5)), (6, .int (oI v6)), (7, .int (oI v7)), (8, .int (oI v8)), (9, .int (oI v9))]) (hf : f_X10_drawn_b62 n v1 v3 v4 v5 v6 v7 v8 v9 σ = some q), W p l e (rmk 3 70) s m args below meth c H locs 0 0 Q (F0 m 62 ls []) := by
  intro n
  induction n with
  | zero => intro H locs ls σ v1 v3 v4 v5 v6 v7 v8 v9 S hl hf; cases hf
  | succ n ih =>
    intro H locs ls σ v1 v3 v4 v5 v6 v7 v8 v9 S hl hf
    have hk62 := @ih
    rw [f_X10_drawn_b62] at hf
    refine lv_iload C.1 C.2.1 dX10_drawn_62 (lv_at hl 8 rfl) ?_
    refine lv_iload_n C.1 C.2.1 dX10_drawn_64 rfl (lv_at hl 2 rfl) ?_
    refine r_icmp_ge C rfl rfl (tgt := 164) dX10_drawn_65 (by decide) (fun h22 => ?_) (fun h22 => ?_)
    · replace hf := if_t hf h22
      refine lv_aload_n C.1 C.2.1 dX10_drawn_68 rfl (lv_at hl 0 rfl) ?_
      refine r_sipush C dX10_drawn_69 (by decide) ?_
      obtain ⟨q5, hc6, hf⟩ := bd_o hf
      refine r_callVv C S (As := [.int (oI 300)]) (rest := []) (ct_X10_draws l G τ hc6) mi_X10_draws tw_1625 mv_X10_draws (rvX10 S) ⟨rfl, rfl⟩ ⟨Nat.le_of_ble_eq_true rfl, Nat.le_of_ble_eq_true rfl⟩ ⟨Nat.zero_le _, Nat.zero_le _⟩ rfl hl.1 rfl (Nat.le_of_ble_eq_true rfl) dX10_drawn_72 (fun H locs S => ?_)
      refine lv_istore C.1 C.2.1 dX10_drawn_75 hl (by decide) (lv' := [(10, .int (oI q5.1)), (0, .ref (G.1 41)), (1, .int (oI v1)), (3, .int (oI v3)), (4, .int (oI v4)), (5, .int (oI v5)), (6, .int (oI v6)), (7, .int (oI v7)), (8, .int (oI v8)), (9, .int (oI v9))]) rfl (fun ls hl => ?_)
      refine lv_aload_n C.1 C.2.1 dX10_drawn_77 rfl (lv_at hl 1 rfl) ?_
      refine r_sipush C dX10_drawn_78 (by decide) ?_
      obtain ⟨q7, hc8, hf⟩ := bd_o hf
      refine r_callVv C S (As := [.int (oI 300)]) (rest := []) (ct_X10_draws l G τ hc8) mi_X10_draws tw_1625 mv_X10_draws (rvX10 S) ⟨rfl, rfl⟩ ⟨Nat.le_of_ble_eq_true rfl, Nat.le_of_ble_eq_true rfl⟩ ⟨Nat.zero_le _, Nat.zero_le _⟩ rfl hl.1 rfl (Nat.le_of_ble_eq_true rfl) dX10_drawn_81 (fun H locs S => ?_)
      refine lv_istore C.1 C.2.1 dX10_drawn_84 hl (by decide) (lv' := [(11, .int (oI q7.1)), (10, .int (oI q5.1)), (0, .ref (G.1 41)), (1, .int (oI v1)), (3, .int (oI v3)), (4, .int (oI v4)), (5, .int (oI v5)), (6, .int (oI v6)), (7, .int (oI v7)), (8, .int (oI v8)), (9, .int (oI v9))]) rfl (fun ls hl => ?_)
      refine lv_aload_n C.1 C.2.1 dX10_drawn_86 rfl (lv_at hl 2 rfl) ?_
      refine lv_aload_n C.1 C.2.1 dX10_drawn_87 rfl (lv_at hl 2 rfl) ?_
      refine lv_iload C.1 C.2.1 dX10_drawn_88 (lv_at hl 1 rfl) ?_
      refine lv_iload C.1 C.2.1 dX10_drawn_90 (lv_at hl 0 rfl) ?_
      refine lv_aload_n C.1 C.2.1 dX10_drawn_92 rfl (lv_at hl 2 rfl) ?_
      refine g10_radius C S tw_1084 dX10_drawn_93 ?_
      refine lv_iload_n C.1 C.2.1 dX10_drawn_96 rfl (lv_at hl 3 rfl) ?_
      obtain ⟨hi9, hf⟩ := ck_o hf
      refine a_iald C S ar_51 hi9 dX10_drawn_97 ?_
      obtain ⟨q10, hc11, hf⟩ := bd_o hf
      refine r_callVv C S (As := [.int (oI q5.1), .int (oI q7.1), .int (oI (q7.2 51 (v1).toNat))]) (rest := [.ref (G.1 41)]) (ct_X10_aboutPlace l G τ hc11) mi_X10_aboutPlace tw_1609 mv_X10_aboutPlace (rvX10 S) ⟨rfl, rfl⟩ ⟨Nat.le_of_ble_eq_true rfl, Nat.le_of_ble_eq_true rfl⟩ ⟨Nat.zero_le _, Nat.zero_le _⟩ rfl hl.1 rfl (Nat.le_of_ble_eq_true rfl) dX10_drawn_98 (fun H locs S => ?_)
      refine lv_aload_n C.1 C.2.1 dX10_drawn_101 rfl (lv_at hl 2 rfl) ?_
      refine lv_iload_n C.1 C.2.1 dX10_drawn_102 rfl (lv_at hl 3 rfl) ?_
      obtain ⟨q12, hc13, hf⟩ := bd_o hf
      refine r_callVv C S (As := [.int (oI v1)]) (rest := [.int (oI q10.1), .ref (G.1 41)]) (ct_X10_ofTreaty l G τ hc13) mi_X10_ofTreaty tw_1277 mv_X10_ofTreaty (rvX10 S) ⟨rfl, rfl⟩ ⟨Nat.le_of_ble_eq_true rfl, Nat.le_of_ble_eq_true rfl⟩ ⟨Nat.zero_le _, Nat.zero_le _⟩ rfl hl.1 rfl (Nat.le_of_ble_eq_true rfl) dX10_drawn_103 (fun H locs S => ?_)
      refine r_iand C rfl rfl dX10_drawn_106 ?_
      obtain ⟨q14, hc15, hf⟩ := bd_o hf
      refine r_callVv C S (As := [.int (oI ((((u32 q10.1) &&& (u32 q12) : Nat) : Int)))]) (rest := []) (ct_X10_sumOf l G τ hc15) mi_X10_sumOf tw_1392 mv_X10_sumOf (rvX10 S) ⟨rfl, rfl⟩ ⟨Nat.le_of_ble_eq_true rfl, Nat.le_of_ble_eq_true rfl⟩ ⟨Nat.zero_le _, Nat.zero_le _⟩ rfl hl.1 rfl (Nat.le_of_ble_eq_true rfl) dX10_drawn_107 (fun H locs S => ?_)
      refine lv_istore C.1 C.2.1 dX10_drawn_110 hl (by decide) (lv' := [(12, .int (oI q14)), (11, .int (oI q7.1)), (10, .int (oI q5.1)), (0, .ref (G.1 41)), (1, .int (oI v1)), (3, .int (oI v3)), (4, .int (oI v4)), (5, .int (oI v5)), (6, .int (oI v6)), (7, .int (oI v7)), (8, .int (oI v8)), (9, .int (oI v9))]) rfl (fun ls hl => ?_)
      refine lv_iload C.1 C.2.1 dX10_drawn_112 (lv_at hl 9 rfl) ?_
      refine lv_iload C.1 C.2.1 dX10_drawn_114 (lv_at hl 0 rfl) ?_
      refine lv_aload_n C.1 C.2.1 dX10_drawn_116 rfl (lv_at hl 3 rfl) ?_
      refine g10_limit C S tw_1085 dX10_drawn_117 ?_
      refine lv_iload_n C.1 C.2.1 dX10_drawn_120 rfl (lv_at hl 4 rfl) ?_
      obtain ⟨hi16, hf⟩ := ck_o hf
      refine a_iald C S ar_52 hi16 dX10_drawn_121 ?_
      refine r_icmp_le C rfl rfl (tgt := 129) dX10_drawn_122 (by decide) (fun h18 => ?_) (fun h18 => ?_)
      · replace hf := if_t hf h18
        refine r_iconst C dX10_drawn_129 ?_
        exact b_X10_drawn_b130 C hend hk62 v1 v3 v4 v5 v6 v8 v9 q14 0 v7 S (lv_sub hl [3, 4, 5, 6, 7, 8, 10, 11, 0] rfl) hf
      · replace hf := if_f hf h18
        refine r_iconst C dX10_drawn_125 ?_
        refine lv_goto C.1 C.2.1 (tgt := 130) dX10_drawn_126 (by decide) ?_
        exact b_X10_drawn_b130 C hend hk62 v1 v3 v4 v5 v6 v8 v9 q14 1 v7 S (lv_sub hl [3, 4, 5, 6, 7, 8, 10, 11, 0] rfl) hf
    · replace hf := if_f hf h22
      exact b_X10_drawn_b164 C hend v4 v5 v6 v7 v8 S (lv_sub hl [3, 4, 5, 6, 7] rfl) hf
set_option maxRecDepth 100000 in
set_option maxHeartbeats 4000000 in
theorem ct_X10_drawn (l : Launch) (G : Gd) (τ : Sg) {v1 : Int} {v2 : Int} {v3 : Int} {v4 : Int} {σ : Sg} {q : Int × Sg} (hf : f_X10_drawn v1 v2 v3 v4 σ = some q) : Ctr l yX10_drawn cX10_drawn 13 (some .int) (rmk 3 70) G false τ [.ref (G.1 41), .int (oI v1), .int (oI v2), .int (oI v3), .int (oI v4)] σ q.2 (some (.int (oI q.1))) := by
  unfold f_X10_drawn at hf
  refine CtrI.of (own := RX10) (plainFor_of_name (by decide)) (Nat.le_of_ble_eq_true rfl) rfl (fun p e s m below meth c Q ls C hl S hend => ?_)
  have hl : lv_has ls 13 [(0, .ref (G.1 41)), (1, .int (oI v1)), (2, .int (oI v2)), (3, .int (oI v3)), (4, .int (oI v4))] := hl
  refine lv_aload_n C.1 C.2.1 dX10_drawn_0 rfl (lv_at hl 0 rfl) ?_
  refine r_iconst C dX10_drawn_1 ?_
  refine p10_thrown C S tw_1061 dX10_drawn_2 (fun H locs S => ?_)
  obtain ⟨σ1, S, hf⟩ := wr_s S hf
  refine lv_aload_n C.1 C.2.1 dX10_drawn_5 rfl (lv_at hl 0 rfl) ?_
  refine lv_iload_n C.1 C.2.1 dX10_drawn_6 rfl (lv_at hl 1 rfl) ?_
  obtain ⟨q2, hc3, hf⟩ := bd_o hf
  refine r_callVv C S (As := [.int (oI v1)]) (rest := []) (ct_X10_isTreaty l G τ hc3) mi_X10_isTreaty tw_1373 mv_X10_isTreaty (rvX10 S) ⟨rfl, rfl⟩ ⟨Nat.le_of_ble_eq_true rfl, Nat.le_of_ble_eq_true rfl⟩ ⟨Nat.zero_le _, Nat.zero_le _⟩ rfl hl.1 rfl (Nat.le_of_ble_eq_true rfl) dX10_drawn_7 (fun H locs S => ?_)
  refine r_if_eq C rfl (tgt := 39) dX10_drawn_10 (by decide) (fun h28 => ?_) (fun h28 => ?_)
  · replace hf := if_t hf h28
    refine r_iconst C dX10_drawn_39 ?_
    cases hf
    exact hend _ _ _ _ S dX10_drawn_40
  · replace hf := if_f hf h28
    refine lv_iload_n C.1 C.2.1 dX10_drawn_13 rfl (lv_at hl 2 rfl) ?_
    refine r_if_lt C rfl (tgt := 39) dX10_drawn_14 (by decide) (fun h27 => ?_) (fun h27 => ?_)
    · replace hf := if_t hf h27
      refine r_iconst C dX10_drawn_39 ?_
      cases hf
      exact hend _ _ _ _ S dX10_drawn_40
    · replace hf := if_f hf h27
      refine lv_iload_n C.1 C.2.1 dX10_drawn_17 rfl (lv_at hl 3 rfl) ?_
      refine r_iconst C dX10_drawn_18 ?_
      refine r_icmp_lt C rfl (show w32 1 = 1 by decide) (tgt := 39) dX10_drawn_19 (by decide) (fun h26 => ?_) (fun h26 => ?_)
      · replace hf := if_t hf h26
        refine r_iconst C dX10_drawn_39 ?_
        cases hf
        exact hend _ _ _ _ S dX10_drawn_40
      · replace hf := if_f hf h26
        refine lv_iload_n C.1 C.2.1 dX10_drawn_22 rfl (lv_at hl 3 rfl) ?_
        refine r_bipush C dX10_drawn_23 (by decide) ?_
        refine r_icmp_gt C rfl (show w32 100 = 100 by decide) (tgt := 39) dX10_drawn_25 (by decide) (fun h25 => ?_) (fun h25 => ?_)
        · replace hf := if_t hf h25
          refine lv_iload C.1 C.2.1 dX10_drawn_28 (lv_at hl 4 rfl) ?_
          refine r_if_lt C rfl (tgt := 39) dX10_drawn_30 (by decide) (fun h24 => ?_) (fun h24 => ?_)
          · replace hf := if_t hf h24
            refine r_iconst C dX10_drawn_39 ?_
            cases hf
            exact hend _ _ _ _ S dX10_drawn_40
          · replace hf := if_f hf h24
            refine lv_iload C.1 C.2.1 dX10_drawn_33 (lv_at hl 4 rfl) ?_
            refine r_iconst C dX10_drawn_35 ?_
            refine r_icmp_le C rfl (show w32 3 = 3 by decide) (tgt := 41) dX10_drawn_36 (by decide) (fun h23 => ?_) (fun h23 => ?_)
            · replace hf := if_t hf h23
              refine lv_aload_n C.1 C.2.1 dX10_drawn_41 rfl (lv_at hl 0 rfl) ?_
              refine lv_iload_n C.1 C.2.1 dX10_drawn_42 rfl (lv_at hl 2 rfl) ?_
              refine r_i2l C dX10_drawn_43 ?_
              refine p10_drawing C S tw_1102 dX10_drawn_44 (fun H locs S => ?_)
              obtain ⟨σ4, S, hf⟩ := wr_s S hf
              refine r_iconst C dX10_drawn_47 ?_
              refine lv_istore C.1 C.2.1 dX10_drawn_48 hl (by decide) (lv' := [(5, .int (oI 0)), (0, .ref (G.1 41)), (1, .int (oI v1)), (2, .int (oI v2)), (3, .int (oI v3)), (4, .int (oI v4))]) rfl (fun ls hl => ?_)
              refine r_iconst C dX10_drawn_50 ?_
              refine lv_istore C.1 C.2.1 dX10_drawn_51 hl (by decide) (lv' := [(6, .int (oI ((-1)))), (5, .int (oI 0)), (0, .ref (G.1 41)), (1, .int (oI v1)), (2, .int (oI v2)), (3, .int (oI v3)), (4, .int (oI v4))]) rfl (fun ls hl => ?_)
              refine r_iconst C dX10_drawn_53 ?_
              refine lv_istore C.1 C.2.1 dX10_drawn_54 hl (by decide) (lv' := [(7, .int (oI 0)), (6, .int (oI ((-1)))), (5, .int (oI 0)), (0, .ref (G.1 41)), (1, .int (oI v1)), (2, .int (oI v2)), (3, .int (oI v3)), (4, .int (oI v4))]) rfl (fun ls hl => ?_)
              refine r_iconst C dX10_drawn_56 ?_
              refine lv_istore C.1 C.2.1 dX10_drawn_57 hl (by decide) (lv' := [(8, .int (oI 0)), (7, .int (oI 0)), (6, .int (oI ((-1)))), (5, .int (oI 0)), (0, .ref (G.1 41)), (1, .int (oI v1)), (2, .int (oI v2)), (3, .int (oI v3)), (4, .int (oI v4))]) rfl (fun ls hl => ?_)
              refine r_iconst C dX10_drawn_59 ?_
              refine lv_istore C.1 C.2.1 dX10_drawn_60 hl (by decide) (lv' := [(9, .int (oI 0)), (8, .int (oI 0)), (7, .int (oI 0)), (6, .int (oI ((-1)))), (5, .int (oI 0)), (0, .ref (G.1 41)), (1, .int (oI v1)), (2, .int (oI v2)), (3, .int (oI v3)), (4, .int (oI v4))]) rfl (fun ls hl => ?_)
              exact b_X10_drawn_b62 C hend FUEL v1 v3 v4 0 ((-1)) 0 0 0 S (lv_sub hl [5, 6, 8, 9, 4, 3, 2, 1, 0] rfl) hf
            · replace hf := if_f hf h23
              refine r_iconst C dX10_drawn_39 ?_
              cases hf
              exact hend _ _ _ _ S dX10_drawn_40
        · replace hf := if_f hf h25
          refine r_iconst C dX10_drawn_39 ?_
          cases hf
          exact hend _ _ _ _ S dX10_drawn_40
set_option maxRecDepth 100000 in
set_option maxHeartbeats 4000000 in
theorem b_X10_unlikePlaces_b72 (C : Cx p s m args c RX10 cX10_unlikePlaces 5) {q : Int} {k4 : Int → Int → Option (Int)} (hend : EndR p l e (rmk 1 22) s m args below meth c Q G false τ cX10_unlikePlaces .ireturn [.int (oI q)] σ) (hk4 : ∀ {H : Heap} {locs : List Loc} {ls : Array Slot} (v1 : Int) (v2 : Int), St G false τ σ s H locs → lv_has ls 5 [(0, .ref (G.1 41)), (1, .int (oI v1)), (2, .int (oI v2))] → k4 v1 v2 = some q → W p l e (rmk 1 22) s m args below meth c H locs 0 0 Q (F0 m 4 ls [])) {H : Heap} {locs : List Loc} {ls : Array Slot} (v2 : Int) (w0 : Int) (w1 : Int) (S : St G false τ σ s H locs) (hl : lv_has ls 5 [(0, .ref (G.1 41)), (2, .int (oI v2))]) (hf : f_X10_unlikePlaces_b72 σ k4 v2 w0 w1 = some q) : W p l e (rmk 1 22) s m args below meth c H locs 0 0 Q (F0 m 72 ls [.int (oI w0), .int (oI w1)]) := by
  unfold f_X10_unlikePlaces_b72 at hf
  refine r_iadd C dX10_unlikePlaces_72 ?_
  refine lv_istore_n C.1 C.2.1 dX10_unlikePlaces_73 rfl hl (by decide) (lv' := [(1, .int (oI (w1 + w0))), (0, .ref (G.1 41)), (2, .int (oI v2))]) rfl (fun ls hl => ?_)
  refine r_iinc C dX10_unlikePlaces_74 hl (k := 2) rfl (by decide) (lv' := [(2, .int (oI (v2 + 1))), (1, .int (oI (w1 + w0))), (0, .ref (G.1 41))]) rfl (fun ls hl => ?_)
  refine lv_goto C.1 C.2.1 (tgt := 4) dX10_unlikePlaces_77 (by decide) ?_
  exact hk4 (w1 + w0) (v2 + 1) S (lv_sub hl [2, 1, 0] rfl) hf
set_option maxRecDepth 100000 in
set_option maxHeartbeats 4000000 in
theorem b_X10_unlikePlaces_b62 (C : Cx p s m args c RX10 cX10_unlikePlaces 5) {q : Int} {k4 : Int → Int → Option (Int)} (hend : EndR p l e (rmk 1 22) s m args below meth c Q G false τ cX10_unlikePlaces .ireturn [.int (oI q)] σ) (hk4 : ∀ {H : Heap} {locs : List Loc} {ls : Array Slot} (v1 : Int) (v2 : Int), St G false τ σ s H locs → lv_has ls 5 [(0, .ref (G.1 41)), (1, .int (oI v1)), (2, .int (oI v2))] → k4 v1 v2 = some q → W p l e (rmk 1 22) s m args below meth c H locs 0 0 Q (F0 m 4 ls [])) {H : Heap} {locs : List Loc} {ls : Array Slot} (v1 : Int) (v2 : Int) (v3 : Int) (S : St G false τ σ s H locs) (hl : lv_has ls 5 [(0, .ref (G.1 41)), (1, .int (oI v1)), (2, .int (oI v2)), (3, .int (oI v3))]) (hf : f_X10_unlikePlaces_b62 σ k4 v1 v2 v3 = some q) : W p l e (rmk 1 22) s m args below meth c H locs 0 0 Q (F0 m 62 ls []) := by
  unfold f_X10_unlikePlaces_b62 at hf
  refine lv_iload_n C.1 C.2.1 dX10_unlikePlaces_62 rfl (lv_at hl 1 rfl) ?_
  refine lv_iload_n C.1 C.2.1 dX10_unlikePlaces_63 rfl (lv_at hl 3 rfl) ?_
  refine r_if_eq C rfl (tgt := 71) dX10_unlikePlaces_64 (by decide) (fun h2 => ?_) (fun h2 => ?_)
  · replace hf := if_t hf h2
    refine r_iconst C dX10_unlikePlaces_71 ?_
    exact b_X10_unlikePlaces_b72 C hend hk4 v2 0 v1 S (lv_sub hl [0, 2] rfl) hf
  · replace hf := if_f hf h2
    refine r_iconst C dX10_unlikePlaces_67 ?_
    refine lv_goto C.1 C.2.1 (tgt := 72) dX10_unlikePlaces_68 (by decide) ?_
    exact b_X10_unlikePlaces_b72 C hend hk4 v2 1 v1 S (lv_sub hl [0, 2] rfl) hf
set_option maxRecDepth 100000 in
set_option maxHeartbeats 4000000 in
theorem b_X10_unlikePlaces_b55 (C : Cx p s m args c RX10 cX10_unlikePlaces 5) {q : Int} {k4 : Int → Int → Option (Int)} {k20 : Int → Int → Int → Int → Option (Int)} (hend : EndR p l e (rmk 1 22) s m args below meth c Q G false τ cX10_unlikePlaces .ireturn [.int (oI q)] σ) (hk4 : ∀ {H : Heap} {locs : List Loc} {ls : Array Slot} (v1 : Int) (v2 : Int), St G false τ σ s H locs → lv_has ls 5 [(0, .ref (G.1 41)), (1, .int (oI v1)), (2, .int (oI v2))] → k4 v1 v2 = some q → W p l e (rmk 1 22) s m args below meth c H locs 0 0 Q (F0 m 4 ls [])) (hk20 : ∀ {H : Heap} {locs : List Loc} {ls : Array Slot} (v1 : Int) (v2 : Int) (v3 : Int) (v4 : Int), St G false τ σ s H locs → lv_has ls 5 [(0, .ref (G.1 41)), (1, .int (oI v1)), (2, .int (oI v2)), (3, .int (oI v3)), (4, .int (oI v4))] → k20 v1 v2 v3 v4 = some q → W p l e (rmk 1 22) s m args below meth c H locs 0 0 Q (F0 m 20 ls [])) {H : Heap} {locs : List Loc} {ls : Array Slot} (v1 : Int) (v2 : Int) (v4 : Int) (w0 : Int) (S : St G false τ σ s H locs) (hl : lv_has ls 5 [(0, .ref (G.1 41)), (1, .int (oI v1)), (2, .int (oI v2)), (4, .int (oI v4))]) (hf : f_X10_unlikePlaces_b55 σ k4 k20 v1 v2 v4 w0 = some q) : W p l e (rmk 1 22) s m args below meth c H locs 0 0 Q (F0 m 55 ls [.int (oI w0)]) := by
  unfold f_X10_unlikePlaces_b55 at hf
  refine lv_istore_n C.1 C.2.1 dX10_unlikePlaces_55 rfl hl (by decide) (lv' := [(3, .int (oI w0)), (0, .ref (G.1 41)), (1, .int (oI v1)), (2, .int (oI v2)), (4, .int (oI v4))]) rfl (fun ls hl => ?_)
  refine r_iinc C dX10_unlikePlaces_56 hl (k := 4) rfl (by decide) (lv' := [(4, .int (oI (v4 + 1))), (3, .int (oI w0)), (0, .ref (G.1 41)), (1, .int (oI v1)), (2, .int (oI v2))]) rfl (fun ls hl => ?_)
  refine lv_goto C.1 C.2.1 (tgt := 20) dX10_unlikePlaces_59 (by decide) ?_
  exact hk20 v1 v2 w0 (v4 + 1) S (lv_sub hl [2, 3, 4, 1, 0] rfl) hf
set_option maxRecDepth 100000 in
set_option maxHeartbeats 4000000 in
theorem b_X10_unlikePlaces_b50 (C : Cx p s m args c RX10 cX10_unlikePlaces 5) {q : Int} {k4 : Int → Int → Option (Int)} {k20 : Int → Int → Int → Int → Option (Int)} (hend : EndR p l e (rmk 1 22) s m args below meth c Q G false τ cX10_unlikePlaces .ireturn [.int (oI q)] σ) (hk4 : ∀ {H : Heap} {locs : List Loc} {ls : Array Slot} (v1 : Int) (v2 : Int), St G false τ σ s H locs → lv_has ls 5 [(0, .ref (G.1 41)), (1, .int (oI v1)), (2, .int (oI v2))] → k4 v1 v2 = some q → W p l e (rmk 1 22) s m args below meth c H locs 0 0 Q (F0 m 4 ls [])) (hk20 : ∀ {H : Heap} {locs : List Loc} {ls : Array Slot} (v1 : Int) (v2 : Int) (v3 : Int) (v4 : Int), St G false τ σ s H locs → lv_has ls 5 [(0, .ref (G.1 41)), (1, .int (oI v1)), (2, .int (oI v2)), (3, .int (oI v3)), (4, .int (oI v4))] → k20 v1 v2 v3 v4 = some q → W p l e (rmk 1 22) s m args below meth c H locs 0 0 Q (F0 m 20 ls [])) {H : Heap} {locs : List Loc} {ls : Array Slot} (v1 : Int) (v2 : Int) (v4 : Int) (S : St G false τ σ s H locs) (hl : lv_has ls 5 [(0, .ref (G.1 41)), (1, .int (oI v1)), (2, .int (oI v2)), (4, .int (oI v4))]) (hf : f_X10_unlikePlaces_b50 σ k4 k20 v1 v2 v4 = some q) : W p l e (rmk 1 22) s m args below meth c H locs 0 0 Q (F0 m 50 ls []) := by
  unfold f_X10_unlikePlaces_b50 at hf
  refine r_iconst C dX10_unlikePlaces_50 ?_
  refine lv_goto C.1 C.2.1 (tgt := 55) dX10_unlikePlaces_51 (by decide) ?_
  exact b_X10_unlikePlaces_b55 C hend hk4 hk20 v1 v2 v4 1 S (lv_sub hl [0, 1, 2, 3] rfl) hf
set_option maxRecDepth 100000 in
set_option maxHeartbeats 4000000 in
theorem b_X10_unlikePlaces_b20 (C : Cx p s m args c RX10 cX10_unlikePlaces 5) {q : Int} {k4 : Int → Int → Option (Int)} (hend : EndR p l e (rmk 1 22) s m args below meth c Q G false τ cX10_unlikePlaces .ireturn [.int (oI q)] σ) (hk4 : ∀ {H : Heap} {locs : List Loc} {ls : Array Slot} (v1 : Int) (v2 : Int), St G false τ σ s H locs → lv_has ls 5 [(0, .ref (G.1 41)), (1, .int (oI v1)), (2, .int (oI v2))] → k4 v1 v2 = some q → W p l e (rmk 1 22) s m args below meth c H locs 0 0 Q (F0 m 4 ls [])) : ∀ (n : Nat) {H : Heap} {locs : List Loc} {ls : Array Slot} (v1 : Int) (v2 : Int) (v3 : Int) (v4 : Int) (S : St G false τ σ s H locs) (hl : lv_has ls 5 [(0, .ref (G.1 41)), (1, .int (oI v1)), (2, .int (oI v2)), (3, .int (oI v3)), (4, .int (oI v4))]) (hf : f_X10_unlikePlaces_b20 σ k4 n v1 v2 v3 v4 = some q), W p l e (rmk 1 22) s m args below meth c H locs 0 0 Q (F0 m 20 ls []) := by
  intro n
  induction n with
  | zero => intro H locs ls v1 v2 v3 v4 S hl hf; cases hf
  | succ n ih =>
    intro H locs ls v1 v2 v3 v4 S hl hf
    have hk20 := @ih
    rw [f_X10_unlikePlaces_b20] at hf
    refine lv_iload C.1 C.2.1 dX10_unlikePlaces_20 (lv_at hl 4 rfl) ?_
    refine lv_iload_n C.1 C.2.1 dX10_unlikePlaces_22 rfl (lv_at hl 2 rfl) ?_
    refine r_icmp_ge C rfl rfl (tgt := 62) dX10_unlikePlaces_23 (by decide) (fun h9 => ?_) (fun h9 => ?_)
    · replace hf := if_t hf h9
      refine lv_iload_n C.1 C.2.1 dX10_unlikePlaces_26 rfl (lv_at hl 3 rfl) ?_
      refine r_if_eq C rfl (tgt := 62) dX10_unlikePlaces_27 (by decide) (fun h8 => ?_) (fun h8 => ?_)
      · replace hf := if_t hf h8
        exact b_X10_unlikePlaces_b62 C hend hk4 v1 v2 v3 S (lv_sub hl [0, 1, 2, 3] rfl) hf
      · replace hf := if_f hf h8
        refine lv_aload_n C.1 C.2.1 dX10_unlikePlaces_30 rfl (lv_at hl 0 rfl) ?_
        refine g10_isThere C S tw_1082 dX10_unlikePlaces_31 ?_
        refine lv_iload C.1 C.2.1 dX10_unlikePlaces_34 (lv_at hl 4 rfl) ?_
        obtain ⟨hi3, hf⟩ := ck_o hf
        refine a_zald C S ar_49 hi3 dX10_unlikePlaces_36 ?_
        refine r_if_eq C rfl (tgt := 50) dX10_unlikePlaces_37 (by decide) (fun h7 => ?_) (fun h7 => ?_)
        · replace hf := if_t hf h7
          exact b_X10_unlikePlaces_b50 C hend hk4 hk20 v1 v2 v4 S (lv_sub hl [0, 1, 2, 4] rfl) hf
        · replace hf := if_f hf h7
          refine lv_aload_n C.1 C.2.1 dX10_unlikePlaces_40 rfl (lv_at hl 0 rfl) ?_
          refine lv_iload_n C.1 C.2.1 dX10_unlikePlaces_41 rfl (lv_at hl 2 rfl) ?_
          refine lv_iload C.1 C.2.1 dX10_unlikePlaces_42 (lv_at hl 4 rfl) ?_
          obtain ⟨q4, hc5, hf⟩ := bd_o hf
          refine r_callVv C S (As := [.int (oI v2), .int (oI v4)]) (rest := []) (ct_X10_distance l G τ hc5) mi_X10_distance tw_1297 mv_X10_distance (rvX10 S) ⟨rfl, rfl⟩ ⟨Nat.le_of_ble_eq_true rfl, Nat.le_of_ble_eq_true rfl⟩ ⟨Nat.zero_le _, Nat.zero_le _⟩ rfl hl.1 rfl (Nat.le_of_ble_eq_true rfl) dX10_unlikePlaces_44 (fun H locs S => ?_)
          refine r_if_le C rfl (tgt := 54) dX10_unlikePlaces_47 (by decide) (fun h6 => ?_) (fun h6 => ?_)
          · replace hf := if_t hf h6
            refine r_iconst C dX10_unlikePlaces_54 ?_
            exact b_X10_unlikePlaces_b55 C hend hk4 hk20 v1 v2 v4 0 S (lv_sub hl [0, 1, 2, 4] rfl) hf
          · replace hf := if_f hf h6
            exact b_X10_unlikePlaces_b50 C hend hk4 hk20 v1 v2 v4 S (lv_sub hl [0, 1, 2, 4] rfl) hf
    · replace hf := if_f hf h9
      exact b_X10_unlikePlaces_b62 C hend hk4 v1 v2 v3 S (lv_sub hl [0, 1, 2, 3] rfl) hf
set_option maxRecDepth 100000 in
set_option maxHeartbeats 4000000 in
theorem b_X10_unlikePlaces_b4 (C : Cx p s m args c RX10 cX10_unlikePlaces 5) {q : Int} (hend : EndR p l e (rmk 1 22) s m args below meth c Q G false τ cX10_unlikePlaces .ireturn [.int (oI q)] σ) : ∀ (n : Nat) {H : Heap} {locs : List Loc} {ls : Array Slot} (v1 : Int) (v2 : Int) (S : St G false τ σ s H locs) (hl : lv_has ls 5 [(0, .ref (G.1 41)), (1, .int (oI v1)), (2, .int (oI v2))]) (hf : f_X10_unlikePlaces_b4 σ n v1 v2 = some q), W p l e (rmk 1 22) s m args below meth c H locs 0 0 Q (F0 m 4 ls []) := by
  intro n
  induction n with
  | zero => intro H locs ls v1 v2 S hl hf; cases hf
  | succ n ih =>
    intro H locs ls v1 v2 S hl hf
    have hk4 := @ih
    rw [f_X10_unlikePlaces_b4] at hf
    refine lv_iload_n C.1 C.2.1 dX10_unlikePlaces_4 rfl (lv_at hl 2 rfl) ?_
    refine r_bipush C dX10_unlikePlaces_5 (by decide) ?_
    refine r_icmp_ge C rfl (show w32 24 = 24 by decide) (tgt := 80) dX10_unlikePlaces_7 (by decide) (fun h10 => ?_) (fun h10 => ?_)
    · replace hf := if_t hf h10
      refine lv_aload_n C.1 C.2.1 dX10_unlikePlaces_10 rfl (lv_at hl 0 rfl) ?_
      refine g10_isThere C S tw_1082 dX10_unlikePlaces_11 ?_
      refine lv_iload_n C.1 C.2.1 dX10_unlikePlaces_14 rfl (lv_at hl 2 rfl) ?_
      obtain ⟨hi1, hf⟩ := ck_o hf
      refine a_zald C S ar_49 hi1 dX10_unlikePlaces_15 ?_
      refine lv_istore_n C.1 C.2.1 dX10_unlikePlaces_16 rfl hl (by decide) (lv' := [(3, .int (oI (σ 49 (v2).toNat))), (0, .ref (G.1 41)), (1, .int (oI v1)), (2, .int (oI v2))]) rfl (fun ls hl => ?_)
      refine r_iconst C dX10_unlikePlaces_17 ?_
      refine lv_istore C.1 C.2.1 dX10_unlikePlaces_18 hl (by decide) (lv' := [(4, .int (oI 0)), (3, .int (oI (σ 49 (v2).toNat))), (0, .ref (G.1 41)), (1, .int (oI v1)), (2, .int (oI v2))]) rfl (fun ls hl => ?_)
      exact b_X10_unlikePlaces_b20 C hend hk4 FUEL v1 v2 (σ 49 (v2).toNat) 0 S (lv_sub hl [2, 3, 4, 1, 0] rfl) hf
    · replace hf := if_f hf h10
      refine lv_iload_n C.1 C.2.1 dX10_unlikePlaces_80 rfl (lv_at hl 1 rfl) ?_
      cases hf
      exact hend _ _ _ _ S dX10_unlikePlaces_81
set_option maxRecDepth 100000 in
set_option maxHeartbeats 4000000 in
theorem ct_X10_unlikePlaces (l : Launch) (G : Gd) (τ : Sg) {σ : Sg} {q : Int} (hf : f_X10_unlikePlaces σ = some q) : Ctr l yX10_unlikePlaces cX10_unlikePlaces 5 (some .int) (rmk 1 22) G false τ [.ref (G.1 41)] σ σ (some (.int (oI q))) := by
  unfold f_X10_unlikePlaces at hf
  refine CtrI.of (own := RX10) (plainFor_of_name (by decide)) (Nat.le_of_ble_eq_true rfl) rfl (fun p e s m below meth c Q ls C hl S hend => ?_)
  have hl : lv_has ls 5 [(0, .ref (G.1 41))] := hl
  refine r_iconst C dX10_unlikePlaces_0 ?_
  refine lv_istore_n C.1 C.2.1 dX10_unlikePlaces_1 rfl hl (by decide) (lv' := [(1, .int (oI 0)), (0, .ref (G.1 41))]) rfl (fun ls hl => ?_)
  refine r_iconst C dX10_unlikePlaces_2 ?_
  refine lv_istore_n C.1 C.2.1 dX10_unlikePlaces_3 rfl hl (by decide) (lv' := [(2, .int (oI 0)), (1, .int (oI 0)), (0, .ref (G.1 41))]) rfl (fun ls hl => ?_)
  exact b_X10_unlikePlaces_b4 C hend FUEL 0 0 S (lv_sub hl [2, 1, 0] rfl) hf
set_option maxRecDepth 100000 in
set_option maxHeartbeats 4000000 in
theorem b_X10_passedOnes_b26 (C : Cx p s m args c RX10 cX10_passedOnes 3) {q : Int × Sg} {k4 : Int → Int → Sg → Option (Int × Sg)} (hend : EndR p l e (rmk 5 140) s m args below meth c Q G false τ cX10_passedOnes .ireturn [.int (oI q.1)] q.2) (hk4 : ∀ {H : Heap} {locs : List Loc} {ls : Array Slot} {σ : Sg} (v1 : Int) (v2 : Int), St G false τ σ s H locs → lv_has ls 3 [(0, .ref (G.1 41)), (1, .int (oI v1)), (2, .int (oI v2))] → k4 v1 v2 σ = some q → W p l e (rmk 5 140) s m args below meth c H locs 0 0 Q (F0 m 4 ls [])) {H : Heap} {locs : List Loc} {ls : Array Slot} {σ : Sg} (v2 : Int) (w0 : Int) (w1 : Int) (S : St G false τ σ s H locs) (hl : lv_has ls 3 [(0, .ref (G.1 41)), (2, .int (oI v2))]) (hf : f_X10_passedOnes_b26 k4 v2 w0 w1 σ = some q) : W p l e (rmk 5 140) s m args below meth c H locs 0 0 Q (F0 m 26 ls [.int (oI w0), .int (oI w1)]) := by
  unfold f_X10_passedOnes_b26 at hf
  refine r_iadd C dX10_passedOnes_26 ?_
  refine lv_istore_n C.1 C.2.1 dX10_passedOnes_27 rfl hl (by decide) (lv' := [(1, .int (oI (w1 + w0))), (0, .ref (G.1 41)), (2, .int (oI v2))]) rfl (fun ls hl => ?_)
  refine r_iinc C dX10_passedOnes_28 hl (k := 2) rfl (by decide) (lv' := [(2, .int (oI (v2 + 1))), (1, .int (oI (w1 + w0))), (0, .ref (G.1 41))]) rfl (fun ls hl => ?_)
  refine lv_goto C.1 C.2.1 (tgt := 4) dX10_passedOnes_31 (by decide) ?_
  exact hk4 (w1 + w0) (v2 + 1) S (lv_sub hl [2, 1, 0] rfl) hf
set_option maxRecDepth 100000 in
set_option maxHeartbeats 4000000 in
theorem b_X10_passedOnes_b4 (C : Cx p s m args c RX10 cX10_passedOnes 3) {q : Int × Sg} (hend : EndR p l e (rmk 5 140) s m args below meth c Q G false τ cX10_passedOnes .ireturn [.int (oI q.1)] q.2) : ∀ (n : Nat) {H : Heap} {locs : List Loc} {ls : Array Slot} {σ : Sg} (v1 : Int) (v2 : Int) (S : St G false τ σ s H locs) (hl : lv_has ls 3 [(0, .ref (G.1 41)), (1, .int (oI v1)), (2, .int (oI v2))]) (hf : f_X10_passedOnes_b4 n v1 v2 σ = some q), W p l e (rmk 5 140) s m args below meth c H locs 0 0 Q (F0 m 4 ls []) := by
  intro n
  induction n with
  | zero => intro H locs ls σ v1 v2 S hl hf; cases hf
  | succ n ih =>
    intro H locs ls σ v1 v2 S hl hf
    have hk4 := @ih
    rw [f_X10_passedOnes_b4] at hf
    refine lv_iload_n C.1 C.2.1 dX10_passedOnes_4 rfl (lv_at hl 2 rfl) ?_
    refine lv_aload_n C.1 C.2.1 dX10_passedOnes_5 rfl (lv_at hl 0 rfl) ?_
    refine g10_treaties C S tw_1088 dX10_passedOnes_6 ?_
    refine r_icmp_ge C rfl rfl (tgt := 34) dX10_passedOnes_9 (by decide) (fun h4 => ?_) (fun h4 => ?_)
    · replace hf := if_t hf h4
      refine lv_iload_n C.1 C.2.1 dX10_passedOnes_12 rfl (lv_at hl 1 rfl) ?_
      refine lv_aload_n C.1 C.2.1 dX10_passedOnes_13 rfl (lv_at hl 0 rfl) ?_
      refine lv_iload_n C.1 C.2.1 dX10_passedOnes_14 rfl (lv_at hl 2 rfl) ?_
      obtain ⟨q1, hc2, hf⟩ := bd_o hf
      refine r_callVv C S (As := [.int (oI v2)]) (rest := [.int (oI v1)]) (ct_X10_isPassed l G τ hc2) mi_X10_isPassed tw_1269 mv_X10_isPassed (rvX10 S) ⟨rfl, rfl⟩ ⟨Nat.le_of_ble_eq_true rfl, Nat.le_of_ble_eq_true rfl⟩ ⟨Nat.zero_le _, Nat.zero_le _⟩ rfl hl.1 rfl (Nat.le_of_ble_eq_true rfl) dX10_passedOnes_15 (fun H locs S => ?_)
      refine r_if_eq C rfl (tgt := 25) dX10_passedOnes_18 (by decide) (fun h3 => ?_) (fun h3 => ?_)
      · replace hf := if_t hf h3
        refine r_iconst C dX10_passedOnes_25 ?_
        exact b_X10_passedOnes_b26 C hend hk4 v2 0 v1 S (lv_sub hl [0, 2] rfl) hf
      · replace hf := if_f hf h3
        refine r_iconst C dX10_passedOnes_21 ?_
        refine lv_goto C.1 C.2.1 (tgt := 26) dX10_passedOnes_22 (by decide) ?_
        exact b_X10_passedOnes_b26 C hend hk4 v2 1 v1 S (lv_sub hl [0, 2] rfl) hf
    · replace hf := if_f hf h4
      refine lv_iload_n C.1 C.2.1 dX10_passedOnes_34 rfl (lv_at hl 1 rfl) ?_
      cases hf
      exact hend _ _ _ _ S dX10_passedOnes_35
set_option maxRecDepth 100000 in
set_option maxHeartbeats 4000000 in
theorem ct_X10_passedOnes (l : Launch) (G : Gd) (τ : Sg) {σ : Sg} {q : Int × Sg} (hf : f_X10_passedOnes σ = some q) : Ctr l yX10_passedOnes cX10_passedOnes 3 (some .int) (rmk 5 140) G false τ [.ref (G.1 41)] σ q.2 (some (.int (oI q.1))) := by
  unfold f_X10_passedOnes at hf
  refine CtrI.of (own := RX10) (plainFor_of_name (by decide)) (Nat.le_of_ble_eq_true rfl) rfl (fun p e s m below meth c Q ls C hl S hend => ?_)
  have hl : lv_has ls 3 [(0, .ref (G.1 41))] := hl
  refine r_iconst C dX10_passedOnes_0 ?_
  refine lv_istore_n C.1 C.2.1 dX10_passedOnes_1 rfl hl (by decide) (lv' := [(1, .int (oI 0)), (0, .ref (G.1 41))]) rfl (fun ls hl => ?_)
  refine r_iconst C dX10_passedOnes_2 ?_
  refine lv_istore_n C.1 C.2.1 dX10_passedOnes_3 rfl hl (by decide) (lv' := [(2, .int (oI 0)), (1, .int (oI 0)), (0, .ref (G.1 41))]) rfl (fun ls hl => ?_)
  exact b_X10_passedOnes_b4 C hend FUEL 0 0 S (lv_sub hl [2, 1, 0] rfl) hf
set_option maxRecDepth 100000 in
set_option maxHeartbeats 4000000 in
theorem ct_X10_count (l : Launch) (G : Gd) (τ : Sg) {v1 : Int} {σ : Sg} {q : Int × Sg} (hf : f_X10_count v1 σ = some q) : Ctr l yX10_count cX10_count 2 (some .int) (rmk 6 162) G false τ [.ref (G.1 41), .int (oI v1)] σ q.2 (some (.int (oI q.1))) := by
  unfold f_X10_count at hf
  refine CtrI.of (own := RX10) (plainFor_of_name (by decide)) (Nat.le_of_ble_eq_true rfl) rfl (fun p e s m below meth c Q ls C hl S hend => ?_)
  have hl : lv_has ls 2 [(0, .ref (G.1 41)), (1, .int (oI v1))] := hl
  refine lv_aload_n C.1 C.2.1 dX10_count_0 rfl (lv_at hl 0 rfl) ?_
  refine r_iconst C dX10_count_1 ?_
  refine p10_thrown C S tw_1061 dX10_count_2 (fun H locs S => ?_)
  obtain ⟨σ1, S, hf⟩ := wr_s S hf
  refine lv_iload_n C.1 C.2.1 dX10_count_5 rfl (lv_at hl 1 rfl) ?_
  by_cases hs0 : w32 v1 = 0
  · replace hf := if_t hf hs0
    refine r_tabIn C (tgt := 48) (v := 0) dX10_count_6 hs0 (by decide) (by decide) rfl (by decide) ?_
    refine lv_aload_n C.1 C.2.1 dX10_count_48 rfl (lv_at hl 0 rfl) ?_
    refine r_bipush C dX10_count_49 (by decide) ?_
    obtain ⟨q2, hc3, hf⟩ := bd_o hf
    refine r_callVv C S (As := [.int (oI 15)]) (rest := []) (ct_X10_ofPerils l G τ hc3) mi_X10_ofPerils tw_1281 mv_X10_ofPerils (rvX10 S) ⟨rfl, rfl⟩ ⟨Nat.le_of_ble_eq_true rfl, Nat.le_of_ble_eq_true rfl⟩ ⟨Nat.zero_le _, Nat.zero_le _⟩ rfl hl.1 rfl (Nat.le_of_ble_eq_true rfl) dX10_count_51 (fun H locs S => ?_)
    obtain ⟨q4, hc5, hf⟩ := bd_o hf
    refine r_callSv C S (As := [.int (oI q2)]) (rest := []) (ct_X10_bits l G τ hc5) mi_X10_bits tw_1389 ms_X10_bits ⟨rfl, rfl⟩ ⟨Nat.le_of_ble_eq_true rfl, Nat.le_of_ble_eq_true rfl⟩ ⟨Nat.zero_le _, Nat.zero_le _⟩ rfl hl.1 rfl (Nat.le_of_ble_eq_true rfl) dX10_count_54 (fun H locs S => ?_)
    cases hf
    exact hend _ _ _ _ S dX10_count_57
  · replace hf := if_f hf hs0
    by_cases hs1 : w32 v1 = 1
    · replace hf := if_t hf hs1
      refine r_tabIn C (tgt := 58) (v := 1) dX10_count_6 hs1 (by decide) (by decide) rfl (by decide) ?_
      refine lv_aload_n C.1 C.2.1 dX10_count_58 rfl (lv_at hl 0 rfl) ?_
      refine g10_treaties C S tw_1088 dX10_count_59 ?_
      cases hf
      exact hend _ _ _ _ S dX10_count_62
    · replace hf := if_f hf hs1
      by_cases hs2 : w32 v1 = 2
      · replace hf := if_t hf hs2
        refine r_tabIn C (tgt := 63) (v := 2) dX10_count_6 hs2 (by decide) (by decide) rfl (by decide) ?_
        refine lv_aload_n C.1 C.2.1 dX10_count_63 rfl (lv_at hl 0 rfl) ?_
        refine lv_aload_n C.1 C.2.1 dX10_count_64 rfl (lv_at hl 0 rfl) ?_
        refine r_bipush C dX10_count_65 (by decide) ?_
        obtain ⟨q6, hc7, hf⟩ := bd_o hf
        refine r_callVv C S (As := [.int (oI 15)]) (rest := [.ref (G.1 41)]) (ct_X10_ofPerils l G τ hc7) mi_X10_ofPerils tw_1281 mv_X10_ofPerils (rvX10 S) ⟨rfl, rfl⟩ ⟨Nat.le_of_ble_eq_true rfl, Nat.le_of_ble_eq_true rfl⟩ ⟨Nat.zero_le _, Nat.zero_le _⟩ rfl hl.1 rfl (Nat.le_of_ble_eq_true rfl) dX10_count_67 (fun H locs S => ?_)
        obtain ⟨q8, hc9, hf⟩ := bd_o hf
        refine r_callVv C S (As := [.int (oI q6)]) (rest := []) (ct_X10_sumOf l G τ hc9) mi_X10_sumOf tw_1392 mv_X10_sumOf (rvX10 S) ⟨rfl, rfl⟩ ⟨Nat.le_of_ble_eq_true rfl, Nat.le_of_ble_eq_true rfl⟩ ⟨Nat.zero_le _, Nat.zero_le _⟩ rfl hl.1 rfl (Nat.le_of_ble_eq_true rfl) dX10_count_70 (fun H locs S => ?_)
        cases hf
        exact hend _ _ _ _ S dX10_count_73
      · replace hf := if_f hf hs2
        by_cases hs3 : w32 v1 = 3
        · replace hf := if_t hf hs3
          refine r_tabIn C (tgt := 74) (v := 3) dX10_count_6 hs3 (by decide) (by decide) rfl (by decide) ?_
          refine lv_aload_n C.1 C.2.1 dX10_count_74 rfl (lv_at hl 0 rfl) ?_
          obtain ⟨q10, hc11, hf⟩ := bd_o hf
          refine r_callVv C S (As := []) (rest := []) (ct_X10_passedOnes l G τ hc11) mi_X10_passedOnes tw_1637 mv_X10_passedOnes (rvX10 S) ⟨rfl, rfl⟩ ⟨Nat.le_of_ble_eq_true rfl, Nat.le_of_ble_eq_true rfl⟩ ⟨Nat.zero_le _, Nat.zero_le _⟩ rfl hl.1 rfl (Nat.le_of_ble_eq_true rfl) dX10_count_75 (fun H locs S => ?_)
          cases hf
          exact hend _ _ _ _ S dX10_count_78
        · replace hf := if_f hf hs3
          by_cases hs4 : w32 v1 = 4
          · replace hf := if_t hf hs4
            refine r_tabIn C (tgt := 79) (v := 4) dX10_count_6 hs4 (by decide) (by decide) rfl (by decide) ?_
            refine lv_aload_n C.1 C.2.1 dX10_count_79 rfl (lv_at hl 0 rfl) ?_
            refine g10_acts C S tw_1089 dX10_count_80 ?_
            cases hf
            exact hend _ _ _ _ S dX10_count_83
          · replace hf := if_f hf hs4
            by_cases hs5 : w32 v1 = 5
            · replace hf := if_t hf hs5
              refine r_tabIn C (tgt := 84) (v := 5) dX10_count_6 hs5 (by decide) (by decide) rfl (by decide) ?_
              refine lv_aload_n C.1 C.2.1 dX10_count_84 rfl (lv_at hl 0 rfl) ?_
              obtain ⟨q12, hc13, hf⟩ := bd_o hf
              refine r_callVv C S (As := []) (rest := []) (ct_X10_unlikePlaces l G τ hc13) mi_X10_unlikePlaces tw_1641 mv_X10_unlikePlaces (rvX10 S) ⟨rfl, rfl⟩ ⟨Nat.le_of_ble_eq_true rfl, Nat.le_of_ble_eq_true rfl⟩ ⟨Nat.zero_le _, Nat.zero_le _⟩ rfl hl.1 rfl (Nat.le_of_ble_eq_true rfl) dX10_count_85 (fun H locs S => ?_)
              cases hf
              exact hend _ _ _ _ S dX10_count_88
            · replace hf := if_f hf hs5
              by_cases hs6 : w32 v1 = 6
              · replace hf := if_t hf hs6
                refine r_tabIn C (tgt := 89) (v := 6) dX10_count_6 hs6 (by decide) (by decide) rfl (by decide) ?_
                refine lv_aload_n C.1 C.2.1 dX10_count_89 rfl (lv_at hl 0 rfl) ?_
                refine g10_taped C S tw_1063 dX10_count_90 ?_
                cases hf
                exact hend _ _ _ _ S dX10_count_93
              · replace hf := if_f hf hs6
                refine r_tabOut C (tgt := 94) dX10_count_6 (by omega) (by decide) ?_
                refine r_iconst C dX10_count_94 ?_
                cases hf
                exact hend _ _ _ _ S dX10_count_95
end WK
