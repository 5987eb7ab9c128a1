section WK
variable {p : Program} {l : Launch} {e : Env} {s : State} {m : MethodId} {args : Array Value} {below : List Frame} {meth : Method} {c : Code} {Q : State → Prop} {G : Gd} {b : Bool} {τ σ : Sg}
set_option maxRecDepth 100000 in
set_option maxHeartbeats 4000000 in
theorem b_X1_isDiameter_b32 (C : Cx p s m args c RX1 cX1_isDiameter 5) {q : Int} {k3 : Int → Int → Int → Int → Option (Int)} (hend : (q = 0 ∨ q = 1) → EndR p l e (rmk 3 64) s m args below meth c Q G true τ cX1_isDiameter .ireturn [.int (oI q)] σ) (hk3 : ∀ {H : Heap} {locs : List Loc} {ls : Array Slot} (v1 : Int) (v2 : Int) (v3 : Int) (v4 : Int), St G true τ σ s H locs → lv_has ls 5 [(0, .ref (G.1 20)), (1, .int (oI v1)), (2, .int (oI v2)), (3, .int (oI v3)), (4, .int (oI v4))] → k3 v1 v2 v3 v4 = some q → W p l e (rmk 3 64) s m args below meth c H locs 0 0 Q (F0 m 3 ls [])) {H : Heap} {locs : List Loc} {ls : Array Slot} (v1 : Int) (v2 : Int) (v3 : Int) (v4 : Int) (S : St G true τ σ s H locs) (hl : lv_has ls 5 [(0, .ref (G.1 20)), (1, .int (oI v1)), (2, .int (oI v2)), (3, .int (oI v3)), (4, .int (oI v4))]) (hf : f_X1_isDiameter_b32 σ k3 v1 v2 v3 v4 = some q) : W p l e (rmk 3 64) s m args below meth c H locs 0 0 Q (F0 m 32 ls []) := by
  unfold f_X1_isDiameter_b32 at hf
  refine r_iinc C dX1_isDiameter_32 hl (k := 4) rfl (by decide) (lv' := [(4, .int (oI (v4 + 1))), (0, .ref (G.1 20)), (1, .int (oI v1)), (2, .int (oI v2)), (3, .int (oI v3))]) rfl (fun ls hl => ?_)
  refine lv_goto C.1 C.2.1 (tgt := 3) dX1_isDiameter_35 (by decide) ?_
  exact hk3 v1 v2 v3 (v4 + 1) S (lv_sub hl [1, 2, 3, 4, 0] rfl) hf
set_option maxRecDepth 100000 in
set_option maxHeartbeats 4000000 in
theorem b_X1_isDiameter_b3 (C : Cx p s m args c RX1 cX1_isDiameter 5) {q : Int} (hend : (q = 0 ∨ q = 1) → EndR p l e (rmk 3 64) s m args below meth c Q G true τ cX1_isDiameter .ireturn [.int (oI q)] σ) : ∀ (n : Nat) {H : Heap} {locs : List Loc} {ls : Array Slot} (v1 : Int) (v2 : Int) (v3 : Int) (v4 : Int) (S : St G true τ σ s H locs) (hl : lv_has ls 5 [(0, .ref (G.1 20)), (1, .int (oI v1)), (2, .int (oI v2)), (3, .int (oI v3)), (4, .int (oI v4))]) (hf : f_X1_isDiameter_b3 σ n v1 v2 v3 v4 = some q), W p l e (rmk 3 64) s m args below meth c H locs 0 0 Q (F0 m 3 ls []) := by
  intro n
  induction n with
  | zero => intro H locs ls v1 v2 v3 v4 S hl hf; cases hf
  | succ n ih =>
    intro H locs ls v1 v2 v3 v4 S hl hf
    have hk3 := @ih
    rw [f_X1_isDiameter_b3] at hf
    refine lv_iload C.1 C.2.1 dX1_isDiameter_3 (lv_at hl 4 rfl) ?_
    refine r_bipush C dX1_isDiameter_5 (by decide) ?_
    refine r_icmp_ge C rfl (show w32 24 = 24 by decide) (tgt := 38) dX1_isDiameter_7 (by decide) (fun h7 => ?_) (fun h7 => ?_)
    · replace hf := if_t hf h7
      refine lv_iload_n C.1 C.2.1 dX1_isDiameter_10 rfl (lv_at hl 3 rfl) ?_
      refine lv_iload C.1 C.2.1 dX1_isDiameter_11 (lv_at hl 4 rfl) ?_
      obtain ⟨q1, hc2, hf⟩ := bd_o hf
      refine r_callSNv C S (As := [.int (oI v3), .int (oI v4)]) (rest := []) (ct_X9_contains l G τ hc2) mi_X9_contains (nw_697 S.2.2.2) ms_X9_contains ⟨rfl, rfl⟩ ⟨Nat.le_of_ble_eq_true rfl, Nat.le_of_ble_eq_true rfl⟩ ⟨Nat.zero_le _, Nat.zero_le _⟩ rfl hl.1 rfl (Nat.le_of_ble_eq_true rfl) dX1_isDiameter_13 (fun H locs S => ?_)
      refine r_if_eq C rfl (tgt := 32) dX1_isDiameter_16 (by decide) (fun h6 => ?_) (fun h6 => ?_)
      · replace hf := if_t hf h6
        exact b_X1_isDiameter_b32 C hend hk3 v1 v2 v3 v4 S (lv_sub hl [0, 1, 2, 3, 4] rfl) hf
      · replace hf := if_f hf h6
        refine lv_aload_n C.1 C.2.1 dX1_isDiameter_19 rfl (lv_at hl 0 rfl) ?_
        refine lv_iload C.1 C.2.1 dX1_isDiameter_20 (lv_at hl 4 rfl) ?_
        refine lv_iload_n C.1 C.2.1 dX1_isDiameter_22 rfl (lv_at hl 1 rfl) ?_
        refine lv_iload_n C.1 C.2.1 dX1_isDiameter_23 rfl (lv_at hl 2 rfl) ?_
        obtain ⟨q3, hc4, hf⟩ := bd_o hf
        refine r_callVv C S (As := [.int (oI v4), .int (oI v1), .int (oI v2)]) (rest := []) (ct_X1_corner l G τ hc4) mi_X1_corner tw_709 mv_X1_corner (rvX1 S) ⟨rfl, rfl⟩ ⟨Nat.le_of_ble_eq_true rfl, Nat.le_of_ble_eq_true rfl⟩ ⟨Nat.zero_le _, Nat.zero_le _⟩ rfl hl.1 rfl (Nat.le_of_ble_eq_true rfl) dX1_isDiameter_24 (fun H locs S => ?_)
        refine r_if_le C rfl (tgt := 32) dX1_isDiameter_27 (by decide) (fun h5 => ?_) (fun h5 => ?_)
        · replace hf := if_t hf h5
          exact b_X1_isDiameter_b32 C hend hk3 v1 v2 v3 v4 S (lv_sub hl [0, 1, 2, 3, 4] rfl) hf
        · replace hf := if_f hf h5
          refine r_iconst C dX1_isDiameter_30 ?_
          cases hf
          exact hend (Or.inl rfl) _ _ _ _ S dX1_isDiameter_31
    · replace hf := if_f hf h7
      refine r_iconst C dX1_isDiameter_38 ?_
      cases hf
      exact hend (Or.inr rfl) _ _ _ _ S dX1_isDiameter_39
set_option maxRecDepth 100000 in
set_option maxHeartbeats 4000000 in
theorem ct_X1_isDiameter (l : Launch) (G : Gd) (τ : Sg) {v1 : Int} {v2 : Int} {v3 : Int} {σ : Sg} {q : Int} (hf : f_X1_isDiameter v1 v2 v3 σ = some q) : Ctr l yX1_isDiameter cX1_isDiameter 5 (some .boolean) (rmk 3 64) G true τ [.ref (G.1 20), .int (oI v1), .int (oI v2), .int (oI v3)] σ σ (some (.int (oI q))) := by
  unfold f_X1_isDiameter at hf
  refine CtrZ.of (own := RX1) (plainFor_of_name (by decide)) (Nat.le_of_ble_eq_true rfl) rfl (fun p e s m below meth c Q ls C hl S hend => ?_)
  have hl : lv_has ls 5 [(0, .ref (G.1 20)), (1, .int (oI v1)), (2, .int (oI v2)), (3, .int (oI v3))] := hl
  refine r_iconst C dX1_isDiameter_0 ?_
  refine lv_istore C.1 C.2.1 dX1_isDiameter_1 hl (by decide) (lv' := [(4, .int (oI 0)), (0, .ref (G.1 20)), (1, .int (oI v1)), (2, .int (oI v2)), (3, .int (oI v3))]) rfl (fun ls hl => ?_)
  exact b_X1_isDiameter_b3 C hend FUEL v1 v2 v3 0 S (lv_sub hl [1, 2, 3, 4, 0] rfl) hf
set_option maxRecDepth 100000 in
set_option maxHeartbeats 4000000 in
theorem b_X1_reduce_b80 (C : Cx p s m args c RX1 cX1_reduce 12) {q : Sg} (hend : EndR p l e (rmk 0 0) s m args below meth c Q G true τ cX1_reduce .return_ [] q) {H : Heap} {locs : List Loc} {ls : Array Slot} {σ : Sg} (w0 : Int) (S : St G true τ σ s H locs) (hl : lv_has ls 12 []) (hf : f_X1_reduce_b80 w0 σ = some q) : W p l e (rmk 0 0) s m args below meth c H locs 0 0 Q (F0 m 80 ls [.long (oL w0), .ref (G.1 20)]) := by
  unfold f_X1_reduce_b80 at hf
  refine p1_below C S tw_259 dX1_reduce_80 (fun H locs S => ?_)
  obtain ⟨σ2, S, hf⟩ := wr_s S hf
  cases hf
  exact hend _ _ _ _ S dX1_reduce_83
set_option maxRecDepth 100000 in
set_option maxHeartbeats 4000000 in
theorem b_X1_reduce_b61 (C : Cx p s m args c RX1 cX1_reduce 12) {q : Sg} (hend : EndR p l e (rmk 0 0) s m args below meth c Q G true τ cX1_reduce .return_ [] q) {H : Heap} {locs : List Loc} {ls : Array Slot} {σ : Sg} (v3 : Int) (v5 : Int) (w0 : Int) (S : St G true τ σ s H locs) (hl : lv_has ls 12 [(0, .ref (G.1 20)), (3, .long (oL v3)), (5, .long (oL v5))]) (hf : f_X1_reduce_b61 v3 v5 w0 σ = some q) : W p l e (rmk 0 0) s m args below meth c H locs 0 0 Q (F0 m 61 ls [.long (oL w0), .ref (G.1 20)]) := by
  unfold f_X1_reduce_b61 at hf
  refine p1_above C S tw_257 dX1_reduce_61 (fun H locs S => ?_)
  obtain ⟨σ1, S, hf⟩ := wr_s S hf
  refine lv_aload_n C.1 C.2.1 dX1_reduce_64 rfl (lv_at hl 0 rfl) ?_
  refine lv_lload C.1 C.2.1 dX1_reduce_65 (lv_at hl 2 rfl) ?_
  refine r_lconst C (z := 0) dX1_reduce_67 (by decide) ?_
  refine r_lcmp_ne C rfl (show w64 0 = 0 by decide) (tgt := 76) dX1_reduce_68 dX1_reduce_69 (by decide) (fun h4 => ?_) (fun h4 => ?_)
  · replace hf := if_t hf h4
    refine lv_lload_n C.1 C.2.1 dX1_reduce_72 rfl (lv_at hl 1 rfl) ?_
    refine lv_goto C.1 C.2.1 (tgt := 80) dX1_reduce_73 (by decide) ?_
    exact b_X1_reduce_b80 C hend v3 S (lv_sub hl [] rfl) hf
  · replace hf := if_f hf h4
    refine lv_lload_n C.1 C.2.1 dX1_reduce_76 rfl (lv_at hl 1 rfl) ?_
    refine lv_lload C.1 C.2.1 dX1_reduce_77 (lv_at hl 2 rfl) ?_
    obtain ⟨hz3, hf⟩ := ck_o hf
    refine r_ldiv C hz3 dX1_reduce_79 ?_
    exact b_X1_reduce_b80 C hend ((w64 v3).tdiv (w64 v5)) S (lv_sub hl [] rfl) hf
set_option maxRecDepth 100000 in
set_option maxHeartbeats 4000000 in
theorem b_X1_reduce_b45 (C : Cx p s m args c RX1 cX1_reduce 12) {q : Sg} (hend : EndR p l e (rmk 0 0) s m args below meth c Q G true τ cX1_reduce .return_ [] q) {H : Heap} {locs : List Loc} {ls : Array Slot} {σ : Sg} (v1 : Int) (v3 : Int) (v5 : Int) (S : St G true τ σ s H locs) (hl : lv_has ls 12 [(0, .ref (G.1 20)), (1, .long (oL v1)), (3, .long (oL v3)), (5, .long (oL v5))]) (hf : f_X1_reduce_b45 v1 v3 v5 σ = some q) : W p l e (rmk 0 0) s m args below meth c H locs 0 0 Q (F0 m 45 ls []) := by
  unfold f_X1_reduce_b45 at hf
  refine lv_aload_n C.1 C.2.1 dX1_reduce_45 rfl (lv_at hl 0 rfl) ?_
  refine lv_lload C.1 C.2.1 dX1_reduce_46 (lv_at hl 3 rfl) ?_
  refine r_lconst C (z := 0) dX1_reduce_48 (by decide) ?_
  refine r_lcmp_ne C rfl (show w64 0 = 0 by decide) (tgt := 57) dX1_reduce_49 dX1_reduce_50 (by decide) (fun h6 => ?_) (fun h6 => ?_)
  · replace hf := if_t hf h6
    refine lv_lload_n C.1 C.2.1 dX1_reduce_53 rfl (lv_at hl 1 rfl) ?_
    refine lv_goto C.1 C.2.1 (tgt := 61) dX1_reduce_54 (by decide) ?_
    exact b_X1_reduce_b61 C hend v3 v5 v1 S (lv_sub hl [0, 2, 3] rfl) hf
  · replace hf := if_f hf h6
    refine lv_lload_n C.1 C.2.1 dX1_reduce_57 rfl (lv_at hl 1 rfl) ?_
    refine lv_lload C.1 C.2.1 dX1_reduce_58 (lv_at hl 3 rfl) ?_
    obtain ⟨hz5, hf⟩ := ck_o hf
    refine r_ldiv C hz5 dX1_reduce_60 ?_
    exact b_X1_reduce_b61 C hend v3 v5 ((w64 v1).tdiv (w64 v5)) S (lv_sub hl [0, 2, 3] rfl) hf
set_option maxRecDepth 100000 in
set_option maxHeartbeats 4000000 in
theorem b_X1_reduce_b9 (C : Cx p s m args c RX1 cX1_reduce 12) {q : Sg} (hend : EndR p l e (rmk 0 0) s m args below meth c Q G true τ cX1_reduce .return_ [] q) : ∀ (n : Nat) {H : Heap} {locs : List Loc} {ls : Array Slot} {σ : Sg} (v1 : Int) (v3 : Int) (v5 : Int) (v7 : Int) (v9 : Int) (S : St G true τ σ s H locs) (hl : lv_has ls 12 [(0, .ref (G.1 20)), (1, .long (oL v1)), (3, .long (oL v3)), (5, .long (oL v5)), (7, .long (oL v7)), (9, .int (oI v9))]) (hf : f_X1_reduce_b9 n v1 v3 v5 v7 v9 σ = some q), W p l e (rmk 0 0) s m args below meth c H locs 0 0 Q (F0 m 9 ls []) := by
  intro n
  induction n with
  | zero => intro H locs ls σ v1 v3 v5 v7 v9 S hl hf; cases hf
  | succ n ih =>
    intro H locs ls σ v1 v3 v5 v7 v9 S hl hf
    have hk9 := @ih
    rw [f_X1_reduce_b9] at hf
    refine lv_iload C.1 C.2.1 dX1_reduce_9 (lv_at hl 5 rfl) ?_
    refine r_sipush C dX1_reduce_11 (by decide) ?_
    refine r_icmp_ge C rfl (show w32 1000 = 1000 by decide) (tgt := 45) dX1_reduce_14 (by decide) (fun h9 => ?_) (fun h9 => ?_)
    · replace hf := if_t hf h9
      refine lv_lload C.1 C.2.1 dX1_reduce_17 (lv_at hl 4 rfl) ?_
      refine r_lconst C (z := 0) dX1_reduce_19 (by decide) ?_
      refine r_lcmp_eq C rfl (show w64 0 = 0 by decide) (tgt := 45) dX1_reduce_20 dX1_reduce_21 (by decide) (fun h8 => ?_) (fun h8 => ?_)
      · replace hf := if_t hf h8
        exact b_X1_reduce_b45 C hend v1 v3 v5 S (lv_sub hl [0, 1, 2, 3] rfl) hf
      · replace hf := if_f hf h8
        refine lv_lload C.1 C.2.1 dX1_reduce_24 (lv_at hl 3 rfl) ?_
        refine lv_lload C.1 C.2.1 dX1_reduce_26 (lv_at hl 4 rfl) ?_
        obtain ⟨hz7, hf⟩ := ck_o hf
        refine r_lrem C hz7 dX1_reduce_28 ?_
        refine lv_lstore C.1 C.2.1 dX1_reduce_29 hl (by decide) (lv' := [(10, .long (oL ((w64 v5).tmod (w64 v7)))), (0, .ref (G.1 20)), (1, .long (oL v1)), (3, .long (oL v3)), (5, .long (oL v5)), (7, .long (oL v7)), (9, .int (oI v9))]) rfl (fun ls hl => ?_)
        refine lv_lload C.1 C.2.1 dX1_reduce_31 (lv_at hl 5 rfl) ?_
        refine lv_lstore C.1 C.2.1 dX1_reduce_33 hl (by decide) (lv' := [(5, .long (oL v7)), (10, .long (oL ((w64 v5).tmod (w64 v7)))), (0, .ref (G.1 20)), (1, .long (oL v1)), (3, .long (oL v3)), (7, .long (oL v7)), (9, .int (oI v9))]) rfl (fun ls hl => ?_)
        refine lv_lload C.1 C.2.1 dX1_reduce_35 (lv_at hl 1 rfl) ?_
        refine lv_lstore C.1 C.2.1 dX1_reduce_37 hl (by decide) (lv' := [(7, .long (oL ((w64 v5).tmod (w64 v7)))), (5, .long (oL v7)), (10, .long (oL ((w64 v5).tmod (w64 v7)))), (0, .ref (G.1 20)), (1, .long (oL v1)), (3, .long (oL v3)), (9, .int (oI v9))]) rfl (fun ls hl => ?_)
        refine r_iinc C dX1_reduce_39 hl (k := 6) rfl (by decide) (lv' := [(9, .int (oI (v9 + 1))), (7, .long (oL ((w64 v5).tmod (w64 v7)))), (5, .long (oL v7)), (10, .long (oL ((w64 v5).tmod (w64 v7)))), (0, .ref (G.1 20)), (1, .long (oL v1)), (3, .long (oL v3))]) rfl (fun ls hl => ?_)
        refine lv_goto C.1 C.2.1 (tgt := 9) dX1_reduce_42 (by decide) ?_
        exact hk9 v1 v3 v7 ((w64 v5).tmod (w64 v7)) (v9 + 1) S (lv_sub hl [4, 5, 6, 2, 1, 0] rfl) hf
    · replace hf := if_f hf h9
      exact b_X1_reduce_b45 C hend v1 v3 v5 S (lv_sub hl [0, 1, 2, 3] rfl) hf
set_option maxRecDepth 100000 in
set_option maxHeartbeats 4000000 in
theorem ct_X1_reduce (l : Launch) (G : Gd) (τ : Sg) {v1 : Int} {v3 : Int} {σ : Sg} {q : Sg} (hf : f_X1_reduce v1 v3 σ = some q) : Ctr l yX1_reduce cX1_reduce 12 none (rmk 0 0) G true τ [.ref (G.1 20), .long (oL v1), .long (oL v3)] σ q none := by
  unfold f_X1_reduce at hf
  refine CtrV.of (own := RX1) (plainFor_of_name (by decide)) (Nat.le_of_ble_eq_true rfl) rfl (fun p e s m below meth c Q ls C hl S hend => ?_)
  have hl : lv_has ls 12 [(0, .ref (G.1 20)), (1, .long (oL v1)), (3, .long (oL v3))] := hl
  refine lv_lload_n C.1 C.2.1 dX1_reduce_0 rfl (lv_at hl 1 rfl) ?_
  refine lv_lstore C.1 C.2.1 dX1_reduce_1 hl (by decide) (lv' := [(5, .long (oL v1)), (0, .ref (G.1 20)), (1, .long (oL v1)), (3, .long (oL v3))]) rfl (fun ls hl => ?_)
  refine lv_lload_n C.1 C.2.1 dX1_reduce_3 rfl (lv_at hl 3 rfl) ?_
  refine lv_lstore C.1 C.2.1 dX1_reduce_4 hl (by decide) (lv' := [(7, .long (oL v3)), (5, .long (oL v1)), (0, .ref (G.1 20)), (1, .long (oL v1)), (3, .long (oL v3))]) rfl (fun ls hl => ?_)
  refine r_iconst C dX1_reduce_6 ?_
  refine lv_istore C.1 C.2.1 dX1_reduce_7 hl (by decide) (lv' := [(9, .int (oI 0)), (7, .long (oL v3)), (5, .long (oL v1)), (0, .ref (G.1 20)), (1, .long (oL v1)), (3, .long (oL v3))]) rfl (fun ls hl => ?_)
  exact b_X1_reduce_b9 C hend FUEL v1 v3 v1 v3 0 S (lv_sub hl [3, 4, 5, 2, 1, 0] rfl) hf
set_option maxRecDepth 100000 in
set_option maxHeartbeats 4000000 in
theorem b_X1_hasDiameter_b73 (C : Cx p s m args c RX1 cX1_hasDiameter 4) {q : Int × Sg} {k2 : Int → Int → Sg → Option (Int × Sg)} {k12 : Int → Int → Int → Sg → Option (Int × Sg)} (hend : (q.1 = 0 ∨ q.1 = 1) → EndR p l e (rmk 4 88) s m args below meth c Q G true τ cX1_hasDiameter .ireturn [.int (oI q.1)] q.2) (hk2 : ∀ {H : Heap} {locs : List Loc} {ls : Array Slot} {σ : Sg} (v1 : Int) (v2 : Int), St G true τ σ s H locs → lv_has ls 4 [(0, .ref (G.1 20)), (1, .int (oI v1)), (2, .int (oI v2))] → k2 v1 v2 σ = some q → W p l e (rmk 4 88) s m args below meth c H locs 0 0 Q (F0 m 2 ls [])) (hk12 : ∀ {H : Heap} {locs : List Loc} {ls : Array Slot} {σ : Sg} (v1 : Int) (v2 : Int) (v3 : Int), St G true τ σ s H locs → lv_has ls 4 [(0, .ref (G.1 20)), (1, .int (oI v1)), (2, .int (oI v2)), (3, .int (oI v3))] → k12 v1 v2 v3 σ = some q → W p l e (rmk 4 88) s m args below meth c H locs 0 0 Q (F0 m 12 ls [])) {H : Heap} {locs : List Loc} {ls : Array Slot} {σ : Sg} (v1 : Int) (v2 : Int) (v3 : Int) (S : St G true τ σ s H locs) (hl : lv_has ls 4 [(0, .ref (G.1 20)), (1, .int (oI v1)), (2, .int (oI v2)), (3, .int (oI v3))]) (hf : f_X1_hasDiameter_b73 k2 k12 v1 v2 v3 σ = some q) : W p l e (rmk 4 88) s m args below meth c H locs 0 0 Q (F0 m 73 ls []) := by
  unfold f_X1_hasDiameter_b73 at hf
  refine r_iinc C dX1_hasDiameter_73 hl (k := 3) rfl (by decide) (lv' := [(3, .int (oI (v3 + 1))), (0, .ref (G.1 20)), (1, .int (oI v1)), (2, .int (oI v2))]) rfl (fun ls hl => ?_)
  refine lv_goto C.1 C.2.1 (tgt := 12) dX1_hasDiameter_76 (by decide) ?_
  exact hk12 v1 v2 (v3 + 1) S (lv_sub hl [1, 2, 3, 0] rfl) hf
set_option maxRecDepth 100000 in
set_option maxHeartbeats 4000000 in
theorem b_X1_hasDiameter_b44 (C : Cx p s m args c RX1 cX1_hasDiameter 4) {q : Int × Sg} (hend : (q.1 = 0 ∨ q.1 = 1) → EndR p l e (rmk 4 88) s m args below meth c Q G true τ cX1_hasDiameter .ireturn [.int (oI q.1)] q.2) {H : Heap} {locs : List Loc} {ls : Array Slot} {σ : Sg} (v2 : Int) (v3 : Int) (S : St G true τ σ s H locs) (hl : lv_has ls 4 [(0, .ref (G.1 20)), (2, .int (oI v2)), (3, .int (oI v3))]) (hf : f_X1_hasDiameter_b44 v2 v3 σ = some q) : W p l e (rmk 4 88) s m args below meth c H locs 0 0 Q (F0 m 44 ls []) := by
  unfold f_X1_hasDiameter_b44 at hf
  refine lv_aload_n C.1 C.2.1 dX1_hasDiameter_44 rfl (lv_at hl 0 rfl) ?_
  refine lv_iload_n C.1 C.2.1 dX1_hasDiameter_45 rfl (lv_at hl 1 rfl) ?_
  refine p1_first C S tw_261 dX1_hasDiameter_46 (fun H locs S => ?_)
  obtain ⟨σ7, S, hf⟩ := wr_s S hf
  refine lv_aload_n C.1 C.2.1 dX1_hasDiameter_49 rfl (lv_at hl 0 rfl) ?_
  refine lv_iload_n C.1 C.2.1 dX1_hasDiameter_50 rfl (lv_at hl 2 rfl) ?_
  refine p1_second C S tw_263 dX1_hasDiameter_51 (fun H locs S => ?_)
  obtain ⟨σ8, S, hf⟩ := wr_s S hf
  refine lv_aload_n C.1 C.2.1 dX1_hasDiameter_54 rfl (lv_at hl 0 rfl) ?_
  refine lv_aload_n C.1 C.2.1 dX1_hasDiameter_55 rfl (lv_at hl 0 rfl) ?_
  refine g1_book C S tw_256 dX1_hasDiameter_56 ?_
  refine lv_iload_n C.1 C.2.1 dX1_hasDiameter_59 rfl (lv_at hl 1 rfl) ?_
  refine lv_iload_n C.1 C.2.1 dX1_hasDiameter_60 rfl (lv_at hl 2 rfl) ?_
  obtain ⟨q9, hc10, hf⟩ := bd_o hf
  refine r_callVv C S (As := [.int (oI v2), .int (oI v3)]) (rest := [.ref (G.1 20)]) (ct_X0_between l G τ hc10) mi_X0_between tw_713 mv_X0_between (rvX0 S) ⟨rfl, rfl⟩ ⟨Nat.le_of_ble_eq_true rfl, Nat.le_of_ble_eq_true rfl⟩ ⟨Nat.zero_le _, Nat.zero_le _⟩ rfl hl.1 rfl (Nat.le_of_ble_eq_true rfl) dX1_hasDiameter_61 (fun H locs S => ?_)
  refine r_i2l C dX1_hasDiameter_64 ?_
  refine r_ldc2 C tw_714 dX1_hasDiameter_65 ?_
  obtain ⟨q11, hc12, hf⟩ := bd_o hf
  refine r_callVn C S (As := [.long (oL (w32 q9)), .long (oL 4)]) (rest := []) (ct_X1_reduce l G τ hc12) mi_X1_reduce tw_715 mv_X1_reduce (rvX1 S) ⟨rfl, rfl⟩ ⟨Nat.le_of_ble_eq_true rfl, Nat.le_of_ble_eq_true rfl⟩ ⟨Nat.zero_le _, Nat.zero_le _⟩ rfl hl.1 rfl (Nat.le_of_ble_eq_true rfl) dX1_hasDiameter_68 (fun H locs S => ?_)
  refine r_iconst C dX1_hasDiameter_71 ?_
  cases hf
  exact hend (Or.inr rfl) _ _ _ _ S dX1_hasDiameter_72
set_option maxRecDepth 100000 in
set_option maxHeartbeats 4000000 in
theorem b_X1_hasDiameter_b79 (C : Cx p s m args c RX1 cX1_hasDiameter 4) {q : Int × Sg} {k2 : Int → Int → Sg → Option (Int × Sg)} (hend : (q.1 = 0 ∨ q.1 = 1) → EndR p l e (rmk 4 88) s m args below meth c Q G true τ cX1_hasDiameter .ireturn [.int (oI q.1)] q.2) (hk2 : ∀ {H : Heap} {locs : List Loc} {ls : Array Slot} {σ : Sg} (v1 : Int) (v2 : Int), St G true τ σ s H locs → lv_has ls 4 [(0, .ref (G.1 20)), (1, .int (oI v1)), (2, .int (oI v2))] → k2 v1 v2 σ = some q → W p l e (rmk 4 88) s m args below meth c H locs 0 0 Q (F0 m 2 ls [])) {H : Heap} {locs : List Loc} {ls : Array Slot} {σ : Sg} (v1 : Int) (v2 : Int) (S : St G true τ σ s H locs) (hl : lv_has ls 4 [(0, .ref (G.1 20)), (1, .int (oI v1)), (2, .int (oI v2))]) (hf : f_X1_hasDiameter_b79 k2 v1 v2 σ = some q) : W p l e (rmk 4 88) s m args below meth c H locs 0 0 Q (F0 m 79 ls []) := by
  unfold f_X1_hasDiameter_b79 at hf
  refine r_iinc C dX1_hasDiameter_79 hl (k := 2) rfl (by decide) (lv' := [(2, .int (oI (v2 + 1))), (0, .ref (G.1 20)), (1, .int (oI v1))]) rfl (fun ls hl => ?_)
  refine lv_goto C.1 C.2.1 (tgt := 2) dX1_hasDiameter_82 (by decide) ?_
  exact hk2 v1 (v2 + 1) S (lv_sub hl [1, 2, 0] rfl) hf
set_option maxRecDepth 100000 in
set_option maxHeartbeats 4000000 in
theorem b_X1_hasDiameter_b12 (C : Cx p s m args c RX1 cX1_hasDiameter 4) {q : Int × Sg} {k2 : Int → Int → Sg → Option (Int × Sg)} (hend : (q.1 = 0 ∨ q.1 = 1) → EndR p l e (rmk 4 88) s m args below meth c Q G true τ cX1_hasDiameter .ireturn [.int (oI q.1)] q.2) (hk2 : ∀ {H : Heap} {locs : List Loc} {ls : Array Slot} {σ : Sg} (v1 : Int) (v2 : Int), St G true τ σ s H locs → lv_has ls 4 [(0, .ref (G.1 20)), (1, .int (oI v1)), (2, .int (oI v2))] → k2 v1 v2 σ = some q → W p l e (rmk 4 88) s m args below meth c H locs 0 0 Q (F0 m 2 ls [])) : ∀ (n : Nat) {H : Heap} {locs : List Loc} {ls : Array Slot} {σ : Sg} (v1 : Int) (v2 : Int) (v3 : Int) (S : St G true τ σ s H locs) (hl : lv_has ls 4 [(0, .ref (G.1 20)), (1, .int (oI v1)), (2, .int (oI v2)), (3, .int (oI v3))]) (hf : f_X1_hasDiameter_b12 k2 n v1 v2 v3 σ = some q), W p l e (rmk 4 88) s m args below meth c H locs 0 0 Q (F0 m 12 ls []) := by
  intro n
  induction n with
  | zero => intro H locs ls σ v1 v2 v3 S hl hf; cases hf
  | succ n ih =>
    intro H locs ls σ v1 v2 v3 S hl hf
    have hk12 := @ih
    rw [f_X1_hasDiameter_b12] at hf
    refine lv_iload_n C.1 C.2.1 dX1_hasDiameter_12 rfl (lv_at hl 3 rfl) ?_
    refine r_bipush C dX1_hasDiameter_13 (by decide) ?_
    refine r_icmp_ge C rfl (show w32 24 = 24 by decide) (tgt := 79) dX1_hasDiameter_15 (by decide) (fun h16 => ?_) (fun h16 => ?_)
    · replace hf := if_t hf h16
      refine lv_iload_n C.1 C.2.1 dX1_hasDiameter_18 rfl (lv_at hl 1 rfl) ?_
      refine lv_iload_n C.1 C.2.1 dX1_hasDiameter_19 rfl (lv_at hl 2 rfl) ?_
      obtain ⟨q1, hc2, hf⟩ := bd_o hf
      refine r_callSNv C S (As := [.int (oI v1), .int (oI v2)]) (rest := []) (ct_X9_contains l G τ hc2) mi_X9_contains (nw_697 S.2.2.2) ms_X9_contains ⟨rfl, rfl⟩ ⟨Nat.le_of_ble_eq_true rfl, Nat.le_of_ble_eq_true rfl⟩ ⟨Nat.zero_le _, Nat.zero_le _⟩ rfl hl.1 rfl (Nat.le_of_ble_eq_true rfl) dX1_hasDiameter_20 (fun H locs S => ?_)
      refine r_if_eq C rfl (tgt := 73) dX1_hasDiameter_23 (by decide) (fun h15 => ?_) (fun h15 => ?_)
      · replace hf := if_t hf h15
        exact b_X1_hasDiameter_b73 C hend hk2 hk12 v1 v2 v3 S (lv_sub hl [0, 1, 2, 3] rfl) hf
      · replace hf := if_f hf h15
        refine lv_iload_n C.1 C.2.1 dX1_hasDiameter_26 rfl (lv_at hl 1 rfl) ?_
        refine lv_iload_n C.1 C.2.1 dX1_hasDiameter_27 rfl (lv_at hl 3 rfl) ?_
        obtain ⟨q3, hc4, hf⟩ := bd_o hf
        refine r_callSNv C S (As := [.int (oI v1), .int (oI v3)]) (rest := []) (ct_X9_contains l G τ hc4) mi_X9_contains (nw_697 S.2.2.2) ms_X9_contains ⟨rfl, rfl⟩ ⟨Nat.le_of_ble_eq_true rfl, Nat.le_of_ble_eq_true rfl⟩ ⟨Nat.zero_le _, Nat.zero_le _⟩ rfl hl.1 rfl (Nat.le_of_ble_eq_true rfl) dX1_hasDiameter_28 (fun H locs S => ?_)
        refine r_if_eq C rfl (tgt := 73) dX1_hasDiameter_31 (by decide) (fun h14 => ?_) (fun h14 => ?_)
        · replace hf := if_t hf h14
          exact b_X1_hasDiameter_b73 C hend hk2 hk12 v1 v2 v3 S (lv_sub hl [0, 1, 2, 3] rfl) hf
        · replace hf := if_f hf h14
          refine lv_aload_n C.1 C.2.1 dX1_hasDiameter_34 rfl (lv_at hl 0 rfl) ?_
          refine lv_iload_n C.1 C.2.1 dX1_hasDiameter_35 rfl (lv_at hl 2 rfl) ?_
          refine lv_iload_n C.1 C.2.1 dX1_hasDiameter_36 rfl (lv_at hl 3 rfl) ?_
          refine lv_iload_n C.1 C.2.1 dX1_hasDiameter_37 rfl (lv_at hl 1 rfl) ?_
          obtain ⟨q5, hc6, hf⟩ := bd_o hf
          refine r_callVv C S (As := [.int (oI v2), .int (oI v3), .int (oI v1)]) (rest := []) (ct_X1_isDiameter l G τ hc6) mi_X1_isDiameter tw_705 mv_X1_isDiameter (rvX1 S) ⟨rfl, rfl⟩ ⟨Nat.le_of_ble_eq_true rfl, Nat.le_of_ble_eq_true rfl⟩ ⟨Nat.zero_le _, Nat.zero_le _⟩ rfl hl.1 rfl (Nat.le_of_ble_eq_true rfl) dX1_hasDiameter_38 (fun H locs S => ?_)
          refine r_if_eq C rfl (tgt := 73) dX1_hasDiameter_41 (by decide) (fun h13 => ?_) (fun h13 => ?_)
          · replace hf := if_t hf h13
            exact b_X1_hasDiameter_b73 C hend hk2 hk12 v1 v2 v3 S (lv_sub hl [0, 1, 2, 3] rfl) hf
          · replace hf := if_f hf h13
            exact b_X1_hasDiameter_b44 C hend v2 v3 S (lv_sub hl [0, 2, 3] rfl) hf
    · replace hf := if_f hf h16
      exact b_X1_hasDiameter_b79 C hend hk2 v1 v2 S (lv_sub hl [0, 1, 2] rfl) hf
set_option maxRecDepth 100000 in
set_option maxHeartbeats 4000000 in
theorem b_X1_hasDiameter_b2 (C : Cx p s m args c RX1 cX1_hasDiameter 4) {q : Int × Sg} (hend : (q.1 = 0 ∨ q.1 = 1) → EndR p l e (rmk 4 88) s m args below meth c Q G true τ cX1_hasDiameter .ireturn [.int (oI q.1)] q.2) : ∀ (n : Nat) {H : Heap} {locs : List Loc} {ls : Array Slot} {σ : Sg} (v1 : Int) (v2 : Int) (S : St G true τ σ s H locs) (hl : lv_has ls 4 [(0, .ref (G.1 20)), (1, .int (oI v1)), (2, .int (oI v2))]) (hf : f_X1_hasDiameter_b2 n v1 v2 σ = some q), W p l e (rmk 4 88) s m args below meth c H locs 0 0 Q (F0 m 2 ls []) := by
  intro n
  induction n with
  | zero => intro H locs ls σ v1 v2 S hl hf; cases hf
  | succ n ih =>
    intro H locs ls σ v1 v2 S hl hf
    have hk2 := @ih
    rw [f_X1_hasDiameter_b2] at hf
    refine lv_iload_n C.1 C.2.1 dX1_hasDiameter_2 rfl (lv_at hl 2 rfl) ?_
    refine r_bipush C dX1_hasDiameter_3 (by decide) ?_
    refine r_icmp_ge C rfl (show w32 24 = 24 by decide) (tgt := 85) dX1_hasDiameter_5 (by decide) (fun h17 => ?_) (fun h17 => ?_)
    · replace hf := if_t hf h17
      refine lv_iload_n C.1 C.2.1 dX1_hasDiameter_8 rfl (lv_at hl 2 rfl) ?_
      refine r_iconst C dX1_hasDiameter_9 ?_
      refine r_iadd C dX1_hasDiameter_10 ?_
      refine lv_istore_n C.1 C.2.1 dX1_hasDiameter_11 rfl hl (by decide) (lv' := [(3, .int (oI (v2 + 1))), (0, .ref (G.1 20)), (1, .int (oI v1)), (2, .int (oI v2))]) rfl (fun ls hl => ?_)
      exact b_X1_hasDiameter_b12 C hend hk2 FUEL v1 v2 (v2 + 1) S (lv_sub hl [1, 2, 3, 0] rfl) hf
    · replace hf := if_f hf h17
      refine r_iconst C dX1_hasDiameter_85 ?_
      cases hf
      exact hend (Or.inl rfl) _ _ _ _ S dX1_hasDiameter_86
set_option maxRecDepth 100000 in
set_option maxHeartbeats 4000000 in
theorem ct_X1_hasDiameter (l : Launch) (G : Gd) (τ : Sg) {v1 : Int} {σ : Sg} {q : Int × Sg} (hf : f_X1_hasDiameter v1 σ = some q) : Ctr l yX1_hasDiameter cX1_hasDiameter 4 (some .boolean) (rmk 4 88) G true τ [.ref (G.1 20), .int (oI v1)] σ q.2 (some (.int (oI q.1))) := by
  unfold f_X1_hasDiameter at hf
  refine CtrZ.of (own := RX1) (plainFor_of_name (by decide)) (Nat.le_of_ble_eq_true rfl) rfl (fun p e s m below meth c Q ls C hl S hend => ?_)
  have hl : lv_has ls 4 [(0, .ref (G.1 20)), (1, .int (oI v1))] := hl
  refine r_iconst C dX1_hasDiameter_0 ?_
  refine lv_istore_n C.1 C.2.1 dX1_hasDiameter_1 rfl hl (by decide) (lv' := [(2, .int (oI 0)), (0, .ref (G.1 20)), (1, .int (oI v1))]) rfl (fun ls hl => ?_)
  exact b_X1_hasDiameter_b2 C hend FUEL v1 0 S (lv_sub hl [1, 2, 0] rfl) hf
set_option maxRecDepth 100000 in
set_option maxHeartbeats 4000000 in
theorem ct_X1_turn (l : Launch) (G : Gd) (τ : Sg) {v1 : Int} {v2 : Int} {v3 : Int} {σ : Sg} {q : Int} (hf : f_X1_turn v1 v2 v3 σ = some q) : Ctr l yX1_turn cX1_turn 4 (some .long) (rmk 2 41) G true τ [.ref (G.1 20), .int (oI v1), .int (oI v2), .int (oI v3)] σ σ (some (.long (oL q))) := by
  unfold f_X1_turn at hf
  refine CtrJ.of (own := RX1) (plainFor_of_name (by decide)) (Nat.le_of_ble_eq_true rfl) rfl (fun p e s m below meth c Q ls C hl S hend => ?_)
  have hl : lv_has ls 4 [(0, .ref (G.1 20)), (1, .int (oI v1)), (2, .int (oI v2)), (3, .int (oI v3))] := hl
  refine lv_aload_n C.1 C.2.1 dX1_turn_0 rfl (lv_at hl 0 rfl) ?_
  refine g1_book C S tw_256 dX1_turn_1 ?_
  refine lv_iload_n C.1 C.2.1 dX1_turn_4 rfl (lv_at hl 2 rfl) ?_
  obtain ⟨q1, hc2, hf⟩ := bd_o hf
  refine r_callVv C S (As := [.int (oI v2)]) (rest := []) (ct_X0_xOf l G τ hc2) mi_X0_xOf tw_698 mv_X0_xOf (rvX0 S) ⟨rfl, rfl⟩ ⟨Nat.le_of_ble_eq_true rfl, Nat.le_of_ble_eq_true rfl⟩ ⟨Nat.zero_le _, Nat.zero_le _⟩ rfl hl.1 rfl (Nat.le_of_ble_eq_true rfl) dX1_turn_5 (fun H locs S => ?_)
  refine lv_aload_n C.1 C.2.1 dX1_turn_8 rfl (lv_at hl 0 rfl) ?_
  refine g1_book C S tw_256 dX1_turn_9 ?_
  refine lv_iload_n C.1 C.2.1 dX1_turn_12 rfl (lv_at hl 1 rfl) ?_
  obtain ⟨q3, hc4, hf⟩ := bd_o hf
  refine r_callVv C S (As := [.int (oI v1)]) (rest := [.int (oI q1)]) (ct_X0_xOf l G τ hc4) mi_X0_xOf tw_698 mv_X0_xOf (rvX0 S) ⟨rfl, rfl⟩ ⟨Nat.le_of_ble_eq_true rfl, Nat.le_of_ble_eq_true rfl⟩ ⟨Nat.zero_le _, Nat.zero_le _⟩ rfl hl.1 rfl (Nat.le_of_ble_eq_true rfl) dX1_turn_13 (fun H locs S => ?_)
  refine r_isub C dX1_turn_16 ?_
  refine r_i2l C dX1_turn_17 ?_
  refine lv_aload_n C.1 C.2.1 dX1_turn_18 rfl (lv_at hl 0 rfl) ?_
  refine g1_book C S tw_256 dX1_turn_19 ?_
  refine lv_iload_n C.1 C.2.1 dX1_turn_22 rfl (lv_at hl 3 rfl) ?_
  obtain ⟨q5, hc6, hf⟩ := bd_o hf
  refine r_callVv C S (As := [.int (oI v3)]) (rest := [.long (oL (w32 (q1 - q3)))]) (ct_X0_yOf l G τ hc6) mi_X0_yOf tw_699 mv_X0_yOf (rvX0 S) ⟨rfl, rfl⟩ ⟨Nat.le_of_ble_eq_true rfl, Nat.le_of_ble_eq_true rfl⟩ ⟨Nat.zero_le _, Nat.zero_le _⟩ rfl hl.1 rfl (Nat.le_of_ble_eq_true rfl) dX1_turn_23 (fun H locs S => ?_)
  refine lv_aload_n C.1 C.2.1 dX1_turn_26 rfl (lv_at hl 0 rfl) ?_
  refine g1_book C S tw_256 dX1_turn_27 ?_
  refine lv_iload_n C.1 C.2.1 dX1_turn_30 rfl (lv_at hl 1 rfl) ?_
  obtain ⟨q7, hc8, hf⟩ := bd_o hf
  refine r_callVv C S (As := [.int (oI v1)]) (rest := [.int (oI q5), .long (oL (w32 (q1 - q3)))]) (ct_X0_yOf l G τ hc8) mi_X0_yOf tw_699 mv_X0_yOf (rvX0 S) ⟨rfl, rfl⟩ ⟨Nat.le_of_ble_eq_true rfl, Nat.le_of_ble_eq_true rfl⟩ ⟨Nat.zero_le _, Nat.zero_le _⟩ rfl hl.1 rfl (Nat.le_of_ble_eq_true rfl) dX1_turn_31 (fun H locs S => ?_)
  refine r_isub C dX1_turn_34 ?_
  refine r_i2l C dX1_turn_35 ?_
  refine r_lmul C dX1_turn_36 ?_
  refine lv_aload_n C.1 C.2.1 dX1_turn_37 rfl (lv_at hl 0 rfl) ?_
  refine g1_book C S tw_256 dX1_turn_38 ?_
  refine lv_iload_n C.1 C.2.1 dX1_turn_41 rfl (lv_at hl 2 rfl) ?_
  obtain ⟨q9, hc10, hf⟩ := bd_o hf
  refine r_callVv C S (As := [.int (oI v2)]) (rest := [.long (oL ((w32 (q1 - q3)) * (w32 (q5 - q7))))]) (ct_X0_yOf l G τ hc10) mi_X0_yOf tw_699 mv_X0_yOf (rvX0 S) ⟨rfl, rfl⟩ ⟨Nat.le_of_ble_eq_true rfl, Nat.le_of_ble_eq_true rfl⟩ ⟨Nat.zero_le _, Nat.zero_le _⟩ rfl hl.1 rfl (Nat.le_of_ble_eq_true rfl) dX1_turn_42 (fun H locs S => ?_)
  refine lv_aload_n C.1 C.2.1 dX1_turn_45 rfl (lv_at hl 0 rfl) ?_
  refine g1_book C S tw_256 dX1_turn_46 ?_
  refine lv_iload_n C.1 C.2.1 dX1_turn_49 rfl (lv_at hl 1 rfl) ?_
  obtain ⟨q11, hc12, hf⟩ := bd_o hf
  refine r_callVv C S (As := [.int (oI v1)]) (rest := [.int (oI q9), .long (oL ((w32 (q1 - q3)) * (w32 (q5 - q7))))]) (ct_X0_yOf l G τ hc12) mi_X0_yOf tw_699 mv_X0_yOf (rvX0 S) ⟨rfl, rfl⟩ ⟨Nat.le_of_ble_eq_true rfl, Nat.le_of_ble_eq_true rfl⟩ ⟨Nat.zero_le _, Nat.zero_le _⟩ rfl hl.1 rfl (Nat.le_of_ble_eq_true rfl) dX1_turn_50 (fun H locs S => ?_)
  refine r_isub C dX1_turn_53 ?_
  refine r_i2l C dX1_turn_54 ?_
  refine lv_aload_n C.1 C.2.1 dX1_turn_55 rfl (lv_at hl 0 rfl) ?_
  refine g1_book C S tw_256 dX1_turn_56 ?_
  refine lv_iload_n C.1 C.2.1 dX1_turn_59 rfl (lv_at hl 3 rfl) ?_
  obtain ⟨q13, hc14, hf⟩ := bd_o hf
  refine r_callVv C S (As := [.int (oI v3)]) (rest := [.long (oL (w32 (q9 - q11))), .long (oL ((w32 (q1 - q3)) * (w32 (q5 - q7))))]) (ct_X0_xOf l G τ hc14) mi_X0_xOf tw_698 mv_X0_xOf (rvX0 S) ⟨rfl, rfl⟩ ⟨Nat.le_of_ble_eq_true rfl, Nat.le_of_ble_eq_true rfl⟩ ⟨Nat.zero_le _, Nat.zero_le _⟩ rfl hl.1 rfl (Nat.le_of_ble_eq_true rfl) dX1_turn_60 (fun H locs S => ?_)
  refine lv_aload_n C.1 C.2.1 dX1_turn_63 rfl (lv_at hl 0 rfl) ?_
  refine g1_book C S tw_256 dX1_turn_64 ?_
  refine lv_iload_n C.1 C.2.1 dX1_turn_67 rfl (lv_at hl 1 rfl) ?_
  obtain ⟨q15, hc16, hf⟩ := bd_o hf
  refine r_callVv C S (As := [.int (oI v1)]) (rest := [.int (oI q13), .long (oL (w32 (q9 - q11))), .long (oL ((w32 (q1 - q3)) * (w32 (q5 - q7))))]) (ct_X0_xOf l G τ hc16) mi_X0_xOf tw_698 mv_X0_xOf (rvX0 S) ⟨rfl, rfl⟩ ⟨Nat.le_of_ble_eq_true rfl, Nat.le_of_ble_eq_true rfl⟩ ⟨Nat.zero_le _, Nat.zero_le _⟩ rfl hl.1 rfl (Nat.le_of_ble_eq_true rfl) dX1_turn_68 (fun H locs S => ?_)
  refine r_isub C dX1_turn_71 ?_
  refine r_i2l C dX1_turn_72 ?_
  refine r_lmul C dX1_turn_73 ?_
  refine r_lsub C dX1_turn_74 ?_
  cases hf
  exact hend _ _ _ _ S dX1_turn_75
set_option maxRecDepth 100000 in
set_option maxHeartbeats 4000000 in
theorem ct_X1_isSharp (l : Launch) (G : Gd) (τ : Sg) {v1 : Int} {v2 : Int} {v3 : Int} {σ : Sg} {q : Int} (hf : f_X1_isSharp v1 v2 v3 σ = some q) : Ctr l yX1_isSharp cX1_isSharp 4 (some .boolean) (rmk 3 64) G true τ [.ref (G.1 20), .int (oI v1), .int (oI v2), .int (oI v3)] σ σ (some (.int (oI q))) := by
  unfold f_X1_isSharp at hf
  refine CtrZ.of (own := RX1) (plainFor_of_name (by decide)) (Nat.le_of_ble_eq_true rfl) rfl (fun p e s m below meth c Q ls C hl S hend => ?_)
  have hl : lv_has ls 4 [(0, .ref (G.1 20)), (1, .int (oI v1)), (2, .int (oI v2)), (3, .int (oI v3))] := hl
  refine lv_aload_n C.1 C.2.1 dX1_isSharp_0 rfl (lv_at hl 0 rfl) ?_
  refine lv_iload_n C.1 C.2.1 dX1_isSharp_1 rfl (lv_at hl 1 rfl) ?_
  refine lv_iload_n C.1 C.2.1 dX1_isSharp_2 rfl (lv_at hl 2 rfl) ?_
  refine lv_iload_n C.1 C.2.1 dX1_isSharp_3 rfl (lv_at hl 3 rfl) ?_
  obtain ⟨q1, hc2, hf⟩ := bd_o hf
  refine r_callVv C S (As := [.int (oI v1), .int (oI v2), .int (oI v3)]) (rest := []) (ct_X1_turn l G τ hc2) mi_X1_turn tw_727 mv_X1_turn (rvX1 S) ⟨rfl, rfl⟩ ⟨Nat.le_of_ble_eq_true rfl, Nat.le_of_ble_eq_true rfl⟩ ⟨Nat.zero_le _, Nat.zero_le _⟩ rfl hl.1 rfl (Nat.le_of_ble_eq_true rfl) dX1_isSharp_4 (fun H locs S => ?_)
  refine r_lconst C (z := 0) dX1_isSharp_7 (by decide) ?_
  refine r_lcmp_eq C rfl (show w64 0 = 0 by decide) (tgt := 46) dX1_isSharp_8 dX1_isSharp_9 (by decide) (fun h12 => ?_) (fun h12 => ?_)
  · replace hf := if_t hf h12
    refine r_iconst C dX1_isSharp_46 ?_
    cases hf
    exact hend (Or.inl rfl) _ _ _ _ S dX1_isSharp_47
  · replace hf := if_f hf h12
    refine lv_aload_n C.1 C.2.1 dX1_isSharp_12 rfl (lv_at hl 0 rfl) ?_
    refine lv_iload_n C.1 C.2.1 dX1_isSharp_13 rfl (lv_at hl 1 rfl) ?_
    refine lv_iload_n C.1 C.2.1 dX1_isSharp_14 rfl (lv_at hl 2 rfl) ?_
    refine lv_iload_n C.1 C.2.1 dX1_isSharp_15 rfl (lv_at hl 3 rfl) ?_
    obtain ⟨q3, hc4, hf⟩ := bd_o hf
    refine r_callVv C S (As := [.int (oI v1), .int (oI v2), .int (oI v3)]) (rest := []) (ct_X1_corner l G τ hc4) mi_X1_corner tw_709 mv_X1_corner (rvX1 S) ⟨rfl, rfl⟩ ⟨Nat.le_of_ble_eq_true rfl, Nat.le_of_ble_eq_true rfl⟩ ⟨Nat.zero_le _, Nat.zero_le _⟩ rfl hl.1 rfl (Nat.le_of_ble_eq_true rfl) dX1_isSharp_16 (fun H locs S => ?_)
    refine r_if_le C rfl (tgt := 46) dX1_isSharp_19 (by decide) (fun h11 => ?_) (fun h11 => ?_)
    · replace hf := if_t hf h11
      refine r_iconst C dX1_isSharp_46 ?_
      cases hf
      exact hend (Or.inl rfl) _ _ _ _ S dX1_isSharp_47
    · replace hf := if_f hf h11
      refine lv_aload_n C.1 C.2.1 dX1_isSharp_22 rfl (lv_at hl 0 rfl) ?_
      refine lv_iload_n C.1 C.2.1 dX1_isSharp_23 rfl (lv_at hl 2 rfl) ?_
      refine lv_iload_n C.1 C.2.1 dX1_isSharp_24 rfl (lv_at hl 3 rfl) ?_
      refine lv_iload_n C.1 C.2.1 dX1_isSharp_25 rfl (lv_at hl 1 rfl) ?_
      obtain ⟨q5, hc6, hf⟩ := bd_o hf
      refine r_callVv C S (As := [.int (oI v2), .int (oI v3), .int (oI v1)]) (rest := []) (ct_X1_corner l G τ hc6) mi_X1_corner tw_709 mv_X1_corner (rvX1 S) ⟨rfl, rfl⟩ ⟨Nat.le_of_ble_eq_true rfl, Nat.le_of_ble_eq_true rfl⟩ ⟨Nat.zero_le _, Nat.zero_le _⟩ rfl hl.1 rfl (Nat.le_of_ble_eq_true rfl) dX1_isSharp_26 (fun H locs S => ?_)
      refine r_if_le C rfl (tgt := 46) dX1_isSharp_29 (by decide) (fun h10 => ?_) (fun h10 => ?_)
      · replace hf := if_t hf h10
        refine r_iconst C dX1_isSharp_46 ?_
        cases hf
        exact hend (Or.inl rfl) _ _ _ _ S dX1_isSharp_47
      · replace hf := if_f hf h10
        refine lv_aload_n C.1 C.2.1 dX1_isSharp_32 rfl (lv_at hl 0 rfl) ?_
        refine lv_iload_n C.1 C.2.1 dX1_isSharp_33 rfl (lv_at hl 3 rfl) ?_
        refine lv_iload_n C.1 C.2.1 dX1_isSharp_34 rfl (lv_at hl 1 rfl) ?_
        refine lv_iload_n C.1 C.2.1 dX1_isSharp_35 rfl (lv_at hl 2 rfl) ?_
        obtain ⟨q7, hc8, hf⟩ := bd_o hf
        refine r_callVv C S (As := [.int (oI v3), .int (oI v1), .int (oI v2)]) (rest := []) (ct_X1_corner l G τ hc8) mi_X1_corner tw_709 mv_X1_corner (rvX1 S) ⟨rfl, rfl⟩ ⟨Nat.le_of_ble_eq_true rfl, Nat.le_of_ble_eq_true rfl⟩ ⟨Nat.zero_le _, Nat.zero_le _⟩ rfl hl.1 rfl (Nat.le_of_ble_eq_true rfl) dX1_isSharp_36 (fun H locs S => ?_)
        refine r_if_le C rfl (tgt := 46) dX1_isSharp_39 (by decide) (fun h9 => ?_) (fun h9 => ?_)
        · replace hf := if_t hf h9
          refine r_iconst C dX1_isSharp_46 ?_
          cases hf
          exact hend (Or.inl rfl) _ _ _ _ S dX1_isSharp_47
        · replace hf := if_f hf h9
          refine r_iconst C dX1_isSharp_42 ?_
          refine lv_goto C.1 C.2.1 (tgt := 47) dX1_isSharp_43 (by decide) ?_
          cases hf
          exact hend (Or.inr rfl) _ _ _ _ S dX1_isSharp_47
set_option maxRecDepth 100000 in
set_option maxHeartbeats 4000000 in
theorem b_X1_isAround_b119 (C : Cx p s m args c RX1 cX1_isAround 10) {q : Int} {k12 : Int → Int → Int → Int → Int → Int → Option (Int)} (hend : (q = 0 ∨ q = 1) → EndR p l e (rmk 4 88) s m args below meth c Q G true τ cX1_isAround .ireturn [.int (oI q)] σ) (hk12 : ∀ {H : Heap} {locs : List Loc} {ls : Array Slot} (v1 : Int) (v2 : Int) (v3 : Int) (v4 : Int) (v5 : Int) (v7 : Int), St G true τ σ s H locs → lv_has ls 10 [(0, .ref (G.1 20)), (1, .int (oI v1)), (2, .int (oI v2)), (3, .int (oI v3)), (4, .int (oI v4)), (5, .long (oL v5)), (7, .int (oI v7))] → k12 v1 v2 v3 v4 v5 v7 = some q → W p l e (rmk 4 88) s m args below meth c H locs 0 0 Q (F0 m 12 ls [])) {H : Heap} {locs : List Loc} {ls : Array Slot} (v1 : Int) (v2 : Int) (v3 : Int) (v4 : Int) (v5 : Int) (v7 : Int) (S : St G true τ σ s H locs) (hl : lv_has ls 10 [(0, .ref (G.1 20)), (1, .int (oI v1)), (2, .int (oI v2)), (3, .int (oI v3)), (4, .int (oI v4)), (5, .long (oL v5)), (7, .int (oI v7))]) (hf : f_X1_isAround_b119 σ k12 v1 v2 v3 v4 v5 v7 = some q) : W p l e (rmk 4 88) s m args below meth c H locs 0 0 Q (F0 m 119 ls []) := by
  unfold f_X1_isAround_b119 at hf
  refine r_iinc C dX1_isAround_119 hl (k := 6) rfl (by decide) (lv' := [(7, .int (oI (v7 + 1))), (0, .ref (G.1 20)), (1, .int (oI v1)), (2, .int (oI v2)), (3, .int (oI v3)), (4, .int (oI v4)), (5, .long (oL v5))]) rfl (fun ls hl => ?_)
  refine lv_goto C.1 C.2.1 (tgt := 12) dX1_isAround_122 (by decide) ?_
  exact hk12 v1 v2 v3 v4 v5 (v7 + 1) S (lv_sub hl [1, 2, 3, 4, 5, 6, 0] rfl) hf
set_option maxRecDepth 100000 in
set_option maxHeartbeats 4000000 in
theorem b_X1_isAround_b12 (C : Cx p s m args c RX1 cX1_isAround 10) {q : Int} (hend : (q = 0 ∨ q = 1) → EndR p l e (rmk 4 88) s m args below meth c Q G true τ cX1_isAround .ireturn [.int (oI q)] σ) : ∀ (n : Nat) {H : Heap} {locs : List Loc} {ls : Array Slot} (v1 : Int) (v2 : Int) (v3 : Int) (v4 : Int) (v5 : Int) (v7 : Int) (S : St G true τ σ s H locs) (hl : lv_has ls 10 [(0, .ref (G.1 20)), (1, .int (oI v1)), (2, .int (oI v2)), (3, .int (oI v3)), (4, .int (oI v4)), (5, .long (oL v5)), (7, .int (oI v7))]) (hf : f_X1_isAround_b12 σ n v1 v2 v3 v4 v5 v7 = some q), W p l e (rmk 4 88) s m args below meth c H locs 0 0 Q (F0 m 12 ls []) := by
  intro n
  induction n with
  | zero => intro H locs ls v1 v2 v3 v4 v5 v7 S hl hf; cases hf
  | succ n ih =>
    intro H locs ls v1 v2 v3 v4 v5 v7 S hl hf
    have hk12 := @ih
    rw [f_X1_isAround_b12] at hf
    refine lv_iload C.1 C.2.1 dX1_isAround_12 (lv_at hl 6 rfl) ?_
    refine r_bipush C dX1_isAround_14 (by decide) ?_
    refine r_icmp_ge C rfl (show w32 24 = 24 by decide) (tgt := 125) dX1_isAround_16 (by decide) (fun h21 => ?_) (fun h21 => ?_)
    · replace hf := if_t hf h21
      refine lv_iload C.1 C.2.1 dX1_isAround_19 (lv_at hl 4 rfl) ?_
      refine lv_iload C.1 C.2.1 dX1_isAround_21 (lv_at hl 6 rfl) ?_
      obtain ⟨q3, hc4, hf⟩ := bd_o hf
      refine r_callSNv C S (As := [.int (oI v4), .int (oI v7)]) (rest := []) (ct_X9_contains l G τ hc4) mi_X9_contains (nw_697 S.2.2.2) ms_X9_contains ⟨rfl, rfl⟩ ⟨Nat.le_of_ble_eq_true rfl, Nat.le_of_ble_eq_true rfl⟩ ⟨Nat.zero_le _, Nat.zero_le _⟩ rfl hl.1 rfl (Nat.le_of_ble_eq_true rfl) dX1_isAround_23 (fun H locs S => ?_)
      refine r_if_eq C rfl (tgt := 119) dX1_isAround_26 (by decide) (fun h20 => ?_) (fun h20 => ?_)
      · replace hf := if_t hf h20
        exact b_X1_isAround_b119 C hend hk12 v1 v2 v3 v4 v5 v7 S (lv_sub hl [0, 1, 2, 3, 4, 5, 6] rfl) hf
      · replace hf := if_f hf h20
        refine lv_aload_n C.1 C.2.1 dX1_isAround_29 rfl (lv_at hl 0 rfl) ?_
        refine g1_book C S tw_256 dX1_isAround_30 ?_
        refine lv_iload_n C.1 C.2.1 dX1_isAround_33 rfl (lv_at hl 1 rfl) ?_
        refine lv_iload C.1 C.2.1 dX1_isAround_34 (lv_at hl 6 rfl) ?_
        obtain ⟨q5, hc6, hf⟩ := bd_o hf
        refine r_callVv C S (As := [.int (oI v1), .int (oI v7)]) (rest := []) (ct_X0_between l G τ hc6) mi_X0_between tw_713 mv_X0_between (rvX0 S) ⟨rfl, rfl⟩ ⟨Nat.le_of_ble_eq_true rfl, Nat.le_of_ble_eq_true rfl⟩ ⟨Nat.zero_le _, Nat.zero_le _⟩ rfl hl.1 rfl (Nat.le_of_ble_eq_true rfl) dX1_isAround_36 (fun H locs S => ?_)
        refine r_i2l C dX1_isAround_39 ?_
        refine lv_aload_n C.1 C.2.1 dX1_isAround_40 rfl (lv_at hl 0 rfl) ?_
        refine lv_iload C.1 C.2.1 dX1_isAround_41 (lv_at hl 6 rfl) ?_
        refine lv_iload_n C.1 C.2.1 dX1_isAround_43 rfl (lv_at hl 2 rfl) ?_
        refine lv_iload_n C.1 C.2.1 dX1_isAround_44 rfl (lv_at hl 3 rfl) ?_
        obtain ⟨q7, hc8, hf⟩ := bd_o hf
        refine r_callVv C S (As := [.int (oI v7), .int (oI v2), .int (oI v3)]) (rest := [.long (oL (w32 q5))]) (ct_X1_turn l G τ hc8) mi_X1_turn tw_727 mv_X1_turn (rvX1 S) ⟨rfl, rfl⟩ ⟨Nat.le_of_ble_eq_true rfl, Nat.le_of_ble_eq_true rfl⟩ ⟨Nat.zero_le _, Nat.zero_le _⟩ rfl hl.1 rfl (Nat.le_of_ble_eq_true rfl) dX1_isAround_45 (fun H locs S => ?_)
        refine r_lmul C dX1_isAround_48 ?_
        refine lv_aload_n C.1 C.2.1 dX1_isAround_49 rfl (lv_at hl 0 rfl) ?_
        refine g1_book C S tw_256 dX1_isAround_50 ?_
        refine lv_iload_n C.1 C.2.1 dX1_isAround_53 rfl (lv_at hl 2 rfl) ?_
        refine lv_iload C.1 C.2.1 dX1_isAround_54 (lv_at hl 6 rfl) ?_
        obtain ⟨q9, hc10, hf⟩ := bd_o hf
        refine r_callVv C S (As := [.int (oI v2), .int (oI v7)]) (rest := [.long (oL ((w32 q5) * q7))]) (ct_X0_between l G τ hc10) mi_X0_between tw_713 mv_X0_between (rvX0 S) ⟨rfl, rfl⟩ ⟨Nat.le_of_ble_eq_true rfl, Nat.le_of_ble_eq_true rfl⟩ ⟨Nat.zero_le _, Nat.zero_le _⟩ rfl hl.1 rfl (Nat.le_of_ble_eq_true rfl) dX1_isAround_56 (fun H locs S => ?_)
        refine r_i2l C dX1_isAround_59 ?_
        refine lv_aload_n C.1 C.2.1 dX1_isAround_60 rfl (lv_at hl 0 rfl) ?_
        refine lv_iload C.1 C.2.1 dX1_isAround_61 (lv_at hl 6 rfl) ?_
        refine lv_iload_n C.1 C.2.1 dX1_isAround_63 rfl (lv_at hl 3 rfl) ?_
        refine lv_iload_n C.1 C.2.1 dX1_isAround_64 rfl (lv_at hl 1 rfl) ?_
        obtain ⟨q11, hc12, hf⟩ := bd_o hf
        refine r_callVv C S (As := [.int (oI v7), .int (oI v3), .int (oI v1)]) (rest := [.long (oL (w32 q9)), .long (oL ((w32 q5) * q7))]) (ct_X1_turn l G τ hc12) mi_X1_turn tw_727 mv_X1_turn (rvX1 S) ⟨rfl, rfl⟩ ⟨Nat.le_of_ble_eq_true rfl, Nat.le_of_ble_eq_true rfl⟩ ⟨Nat.zero_le _, Nat.zero_le _⟩ rfl hl.1 rfl (Nat.le_of_ble_eq_true rfl) dX1_isAround_65 (fun H locs S => ?_)
        refine r_lmul C dX1_isAround_68 ?_
        refine r_ladd C dX1_isAround_69 ?_
        refine lv_aload_n C.1 C.2.1 dX1_isAround_70 rfl (lv_at hl 0 rfl) ?_
        refine g1_book C S tw_256 dX1_isAround_71 ?_
        refine lv_iload_n C.1 C.2.1 dX1_isAround_74 rfl (lv_at hl 3 rfl) ?_
        refine lv_iload C.1 C.2.1 dX1_isAround_75 (lv_at hl 6 rfl) ?_
        obtain ⟨q13, hc14, hf⟩ := bd_o hf
        refine r_callVv C S (As := [.int (oI v3), .int (oI v7)]) (rest := [.long (oL (((w32 q5) * q7) + ((w32 q9) * q11)))]) (ct_X0_between l G τ hc14) mi_X0_between tw_713 mv_X0_between (rvX0 S) ⟨rfl, rfl⟩ ⟨Nat.le_of_ble_eq_true rfl, Nat.le_of_ble_eq_true rfl⟩ ⟨Nat.zero_le _, Nat.zero_le _⟩ rfl hl.1 rfl (Nat.le_of_ble_eq_true rfl) dX1_isAround_77 (fun H locs S => ?_)
        refine r_i2l C dX1_isAround_80 ?_
        refine lv_aload_n C.1 C.2.1 dX1_isAround_81 rfl (lv_at hl 0 rfl) ?_
        refine lv_iload C.1 C.2.1 dX1_isAround_82 (lv_at hl 6 rfl) ?_
        refine lv_iload_n C.1 C.2.1 dX1_isAround_84 rfl (lv_at hl 1 rfl) ?_
        refine lv_iload_n C.1 C.2.1 dX1_isAround_85 rfl (lv_at hl 2 rfl) ?_
        obtain ⟨q15, hc16, hf⟩ := bd_o hf
        refine r_callVv C S (As := [.int (oI v7), .int (oI v1), .int (oI v2)]) (rest := [.long (oL (w32 q13)), .long (oL (((w32 q5) * q7) + ((w32 q9) * q11)))]) (ct_X1_turn l G τ hc16) mi_X1_turn tw_727 mv_X1_turn (rvX1 S) ⟨rfl, rfl⟩ ⟨Nat.le_of_ble_eq_true rfl, Nat.le_of_ble_eq_true rfl⟩ ⟨Nat.zero_le _, Nat.zero_le _⟩ rfl hl.1 rfl (Nat.le_of_ble_eq_true rfl) dX1_isAround_86 (fun H locs S => ?_)
        refine r_lmul C dX1_isAround_89 ?_
        refine r_ladd C dX1_isAround_90 ?_
        refine lv_lstore C.1 C.2.1 dX1_isAround_91 hl (by decide) (lv' := [(8, .long (oL ((((w32 q5) * q7) + ((w32 q9) * q11)) + ((w32 q13) * q15)))), (0, .ref (G.1 20)), (1, .int (oI v1)), (2, .int (oI v2)), (3, .int (oI v3)), (4, .int (oI v4)), (5, .long (oL v5)), (7, .int (oI v7))]) rfl (fun ls hl => ?_)
        refine lv_lload C.1 C.2.1 dX1_isAround_93 (lv_at hl 6 rfl) ?_
        refine r_lconst C (z := 0) dX1_isAround_95 (by decide) ?_
        refine r_lcmp_le C rfl (show w64 0 = 0 by decide) (tgt := 110) dX1_isAround_96 dX1_isAround_97 (by decide) (fun h19 => ?_) (fun h19 => ?_)
        · replace hf := if_t hf h19
          refine lv_lload C.1 C.2.1 dX1_isAround_110 (lv_at hl 0 rfl) ?_
          refine r_lconst C (z := 0) dX1_isAround_112 (by decide) ?_
          refine r_lcmp_le C rfl (show w64 0 = 0 by decide) (tgt := 119) dX1_isAround_113 dX1_isAround_114 (by decide) (fun h17 => ?_) (fun h17 => ?_)
          · replace hf := if_t hf h17
            exact b_X1_isAround_b119 C hend hk12 v1 v2 v3 v4 v5 v7 S (lv_sub hl [1, 2, 3, 4, 5, 6, 7] rfl) hf
          · replace hf := if_f hf h17
            refine r_iconst C dX1_isAround_117 ?_
            cases hf
            exact hend (Or.inl rfl) _ _ _ _ S dX1_isAround_118
        · replace hf := if_f hf h19
          refine lv_lload C.1 C.2.1 dX1_isAround_100 (lv_at hl 0 rfl) ?_
          refine r_lconst C (z := 0) dX1_isAround_102 (by decide) ?_
          refine r_lcmp_ge C rfl (show w64 0 = 0 by decide) (tgt := 119) dX1_isAround_103 dX1_isAround_104 (by decide) (fun h18 => ?_) (fun h18 => ?_)
          · replace hf := if_t hf h18
            refine lv_goto C.1 C.2.1 (tgt := 117) dX1_isAround_107 (by decide) ?_
            refine r_iconst C dX1_isAround_117 ?_
            cases hf
            exact hend (Or.inl rfl) _ _ _ _ S dX1_isAround_118
          · replace hf := if_f hf h18
            exact b_X1_isAround_b119 C hend hk12 v1 v2 v3 v4 v5 v7 S (lv_sub hl [1, 2, 3, 4, 5, 6, 7] rfl) hf
    · replace hf := if_f hf h21
      refine r_iconst C dX1_isAround_125 ?_
      cases hf
      exact hend (Or.inr rfl) _ _ _ _ S dX1_isAround_126
set_option maxRecDepth 100000 in
set_option maxHeartbeats 4000000 in
theorem ct_X1_isAround (l : Launch) (G : Gd) (τ : Sg) {v1 : Int} {v2 : Int} {v3 : Int} {v4 : Int} {σ : Sg} {q : Int} (hf : f_X1_isAround v1 v2 v3 v4 σ = some q) : Ctr l yX1_isAround cX1_isAround 10 (some .boolean) (rmk 4 88) G true τ [.ref (G.1 20), .int (oI v1), .int (oI v2), .int (oI v3), .int (oI v4)] σ σ (some (.int (oI q))) := by
  unfold f_X1_isAround at hf
  refine CtrZ.of (own := RX1) (plainFor_of_name (by decide)) (Nat.le_of_ble_eq_true rfl) rfl (fun p e s m below meth c Q ls C hl S hend => ?_)
  have hl : lv_has ls 10 [(0, .ref (G.1 20)), (1, .int (oI v1)), (2, .int (oI v2)), (3, .int (oI v3)), (4, .int (oI v4))] := hl
  refine lv_aload_n C.1 C.2.1 dX1_isAround_0 rfl (lv_at hl 0 rfl) ?_
  refine lv_iload_n C.1 C.2.1 dX1_isAround_1 rfl (lv_at hl 1 rfl) ?_
  refine lv_iload_n C.1 C.2.1 dX1_isAround_2 rfl (lv_at hl 2 rfl) ?_
  refine lv_iload_n C.1 C.2.1 dX1_isAround_3 rfl (lv_at hl 3 rfl) ?_
  obtain ⟨q1, hc2, hf⟩ := bd_o hf
  refine r_callVv C S (As := [.int (oI v1), .int (oI v2), .int (oI v3)]) (rest := []) (ct_X1_turn l G τ hc2) mi_X1_turn tw_727 mv_X1_turn (rvX1 S) ⟨rfl, rfl⟩ ⟨Nat.le_of_ble_eq_true rfl, Nat.le_of_ble_eq_true rfl⟩ ⟨Nat.zero_le _, Nat.zero_le _⟩ rfl hl.1 rfl (Nat.le_of_ble_eq_true rfl) dX1_isAround_4 (fun H locs S => ?_)
  refine lv_lstore C.1 C.2.1 dX1_isAround_7 hl (by decide) (lv' := [(5, .long (oL q1)), (0, .ref (G.1 20)), (1, .int (oI v1)), (2, .int (oI v2)), (3, .int (oI v3)), (4, .int (oI v4))]) rfl (fun ls hl => ?_)
  refine r_iconst C dX1_isAround_9 ?_
  refine lv_istore C.1 C.2.1 dX1_isAround_10 hl (by decide) (lv' := [(7, .int (oI 0)), (5, .long (oL q1)), (0, .ref (G.1 20)), (1, .int (oI v1)), (2, .int (oI v2)), (3, .int (oI v3)), (4, .int (oI v4))]) rfl (fun ls hl => ?_)
  exact b_X1_isAround_b12 C hend FUEL v1 v2 v3 v4 q1 0 S (lv_sub hl [2, 3, 4, 5, 6, 1, 0] rfl) hf
set_option maxRecDepth 100000 in
set_option maxHeartbeats 4000000 in
theorem b_X1_findTriangle_b168 (C : Cx p s m args c RX1 cX1_findTriangle 10) {q : Sg} {k2 : Int → Int → Sg → Option (Sg)} {k12 : Int → Int → Int → Sg → Option (Sg)} {k23 : Int → Int → Int → Int → Sg → Option (Sg)} (hend : EndR p l e (rmk 5 117) s m args below meth c Q G true τ cX1_findTriangle .return_ [] q) (hk2 : ∀ {H : Heap} {locs : List Loc} {ls : Array Slot} {σ : Sg} (v1 : Int) (v2 : Int), St G true τ σ s H locs → lv_has ls 10 [(0, .ref (G.1 20)), (1, .int (oI v1)), (2, .int (oI v2))] → k2 v1 v2 σ = some q → W p l e (rmk 5 117) s m args below meth c H locs 0 0 Q (F0 m 2 ls [])) (hk12 : ∀ {H : Heap} {locs : List Loc} {ls : Array Slot} {σ : Sg} (v1 : Int) (v2 : Int) (v3 : Int), St G true τ σ s H locs → lv_has ls 10 [(0, .ref (G.1 20)), (1, .int (oI v1)), (2, .int (oI v2)), (3, .int (oI v3))] → k12 v1 v2 v3 σ = some q → W p l e (rmk 5 117) s m args below meth c H locs 0 0 Q (F0 m 12 ls [])) (hk23 : ∀ {H : Heap} {locs : List Loc} {ls : Array Slot} {σ : Sg} (v1 : Int) (v2 : Int) (v3 : Int) (v4 : Int), St G true τ σ s H locs → lv_has ls 10 [(0, .ref (G.1 20)), (1, .int (oI v1)), (2, .int (oI v2)), (3, .int (oI v3)), (4, .int (oI v4))] → k23 v1 v2 v3 v4 σ = some q → W p l e (rmk 5 117) s m args below meth c H locs 0 0 Q (F0 m 23 ls [])) {H : Heap} {locs : List Loc} {ls : Array Slot} {σ : Sg} (v1 : Int) (v2 : Int) (v3 : Int) (v4 : Int) (S : St G true τ σ s H locs) (hl : lv_has ls 10 [(0, .ref (G.1 20)), (1, .int (oI v1)), (2, .int (oI v2)), (3, .int (oI v3)), (4, .int (oI v4))]) (hf : f_X1_findTriangle_b168 k2 k12 k23 v1 v2 v3 v4 σ = some q) : W p l e (rmk 5 117) s m args below meth c H locs 0 0 Q (F0 m 168 ls []) := by
  unfold f_X1_findTriangle_b168 at hf
  refine r_iinc C dX1_findTriangle_168 hl (k := 4) rfl (by decide) (lv' := [(4, .int (oI (v4 + 1))), (0, .ref (G.1 20)), (1, .int (oI v1)), (2, .int (oI v2)), (3, .int (oI v3))]) rfl (fun ls hl => ?_)
  refine lv_goto C.1 C.2.1 (tgt := 23) dX1_findTriangle_171 (by decide) ?_
  exact hk23 v1 v2 v3 (v4 + 1) S (lv_sub hl [1, 2, 3, 4, 0] rfl) hf
set_option maxRecDepth 100000 in
set_option maxHeartbeats 4000000 in
theorem b_X1_findTriangle_b90 (C : Cx p s m args c RX1 cX1_findTriangle 10) {q : Sg} (hend : EndR p l e (rmk 5 117) s m args below meth c Q G true τ cX1_findTriangle .return_ [] q) {H : Heap} {locs : List Loc} {ls : Array Slot} {σ : Sg} (v2 : Int) (v3 : Int) (v4 : Int) (S : St G true τ σ s H locs) (hl : lv_has ls 10 [(0, .ref (G.1 20)), (2, .int (oI v2)), (3, .int (oI v3)), (4, .int (oI v4))]) (hf : f_X1_findTriangle_b90 v2 v3 v4 σ = some q) : W p l e (rmk 5 117) s m args below meth c H locs 0 0 Q (F0 m 90 ls []) := by
  unfold f_X1_findTriangle_b90 at hf
  refine lv_aload_n C.1 C.2.1 dX1_findTriangle_90 rfl (lv_at hl 0 rfl) ?_
  refine lv_iload_n C.1 C.2.1 dX1_findTriangle_91 rfl (lv_at hl 1 rfl) ?_
  refine p1_first C S tw_261 dX1_findTriangle_92 (fun H locs S => ?_)
  obtain ⟨σ7, S, hf⟩ := wr_s S hf
  refine lv_aload_n C.1 C.2.1 dX1_findTriangle_95 rfl (lv_at hl 0 rfl) ?_
  refine lv_iload_n C.1 C.2.1 dX1_findTriangle_96 rfl (lv_at hl 2 rfl) ?_
  refine p1_second C S tw_263 dX1_findTriangle_97 (fun H locs S => ?_)
  obtain ⟨σ8, S, hf⟩ := wr_s S hf
  refine lv_aload_n C.1 C.2.1 dX1_findTriangle_100 rfl (lv_at hl 0 rfl) ?_
  refine lv_iload C.1 C.2.1 dX1_findTriangle_101 (lv_at hl 3 rfl) ?_
  refine p1_third C S tw_265 dX1_findTriangle_103 (fun H locs S => ?_)
  obtain ⟨σ9, S, hf⟩ := wr_s S hf
  refine lv_aload_n C.1 C.2.1 dX1_findTriangle_106 rfl (lv_at hl 0 rfl) ?_
  refine lv_iload_n C.1 C.2.1 dX1_findTriangle_107 rfl (lv_at hl 1 rfl) ?_
  refine lv_iload_n C.1 C.2.1 dX1_findTriangle_108 rfl (lv_at hl 2 rfl) ?_
  refine lv_iload C.1 C.2.1 dX1_findTriangle_109 (lv_at hl 3 rfl) ?_
  obtain ⟨q10, hc11, hf⟩ := bd_o hf
  refine r_callVv C S (As := [.int (oI v2), .int (oI v3), .int (oI v4)]) (rest := []) (ct_X1_turn l G τ hc11) mi_X1_turn tw_727 mv_X1_turn (rvX1 S) ⟨rfl, rfl⟩ ⟨Nat.le_of_ble_eq_true rfl, Nat.le_of_ble_eq_true rfl⟩ ⟨Nat.zero_le _, Nat.zero_le _⟩ rfl hl.1 rfl (Nat.le_of_ble_eq_true rfl) dX1_findTriangle_111 (fun H locs S => ?_)
  refine lv_lstore C.1 C.2.1 dX1_findTriangle_114 hl (by decide) (lv' := [(6, .long (oL q10)), (0, .ref (G.1 20)), (2, .int (oI v2)), (3, .int (oI v3)), (4, .int (oI v4))]) rfl (fun ls hl => ?_)
  refine lv_aload_n C.1 C.2.1 dX1_findTriangle_116 rfl (lv_at hl 1 rfl) ?_
  refine g1_book C S tw_256 dX1_findTriangle_117 ?_
  refine lv_iload_n C.1 C.2.1 dX1_findTriangle_120 rfl (lv_at hl 2 rfl) ?_
  refine lv_iload_n C.1 C.2.1 dX1_findTriangle_121 rfl (lv_at hl 3 rfl) ?_
  obtain ⟨q12, hc13, hf⟩ := bd_o hf
  refine r_callVv C S (As := [.int (oI v2), .int (oI v3)]) (rest := []) (ct_X0_between l G τ hc13) mi_X0_between tw_713 mv_X0_between (rvX0 S) ⟨rfl, rfl⟩ ⟨Nat.le_of_ble_eq_true rfl, Nat.le_of_ble_eq_true rfl⟩ ⟨Nat.zero_le _, Nat.zero_le _⟩ rfl hl.1 rfl (Nat.le_of_ble_eq_true rfl) dX1_findTriangle_122 (fun H locs S => ?_)
  refine r_i2l C dX1_findTriangle_125 ?_
  refine lv_aload_n C.1 C.2.1 dX1_findTriangle_126 rfl (lv_at hl 1 rfl) ?_
  refine g1_book C S tw_256 dX1_findTriangle_127 ?_
  refine lv_iload_n C.1 C.2.1 dX1_findTriangle_130 rfl (lv_at hl 3 rfl) ?_
  refine lv_iload C.1 C.2.1 dX1_findTriangle_131 (lv_at hl 4 rfl) ?_
  obtain ⟨q14, hc15, hf⟩ := bd_o hf
  refine r_callVv C S (As := [.int (oI v3), .int (oI v4)]) (rest := [.long (oL (w32 q12))]) (ct_X0_between l G τ hc15) mi_X0_between tw_713 mv_X0_between (rvX0 S) ⟨rfl, rfl⟩ ⟨Nat.le_of_ble_eq_true rfl, Nat.le_of_ble_eq_true rfl⟩ ⟨Nat.zero_le _, Nat.zero_le _⟩ rfl hl.1 rfl (Nat.le_of_ble_eq_true rfl) dX1_findTriangle_133 (fun H locs S => ?_)
  refine r_i2l C dX1_findTriangle_136 ?_
  refine r_lmul C dX1_findTriangle_137 ?_
  refine lv_aload_n C.1 C.2.1 dX1_findTriangle_138 rfl (lv_at hl 1 rfl) ?_
  refine g1_book C S tw_256 dX1_findTriangle_139 ?_
  refine lv_iload C.1 C.2.1 dX1_findTriangle_142 (lv_at hl 4 rfl) ?_
  refine lv_iload_n C.1 C.2.1 dX1_findTriangle_144 rfl (lv_at hl 2 rfl) ?_
  obtain ⟨q16, hc17, hf⟩ := bd_o hf
  refine r_callVv C S (As := [.int (oI v4), .int (oI v2)]) (rest := [.long (oL ((w32 q12) * (w32 q14)))]) (ct_X0_between l G τ hc17) mi_X0_between tw_713 mv_X0_between (rvX0 S) ⟨rfl, rfl⟩ ⟨Nat.le_of_ble_eq_true rfl, Nat.le_of_ble_eq_true rfl⟩ ⟨Nat.zero_le _, Nat.zero_le _⟩ rfl hl.1 rfl (Nat.le_of_ble_eq_true rfl) dX1_findTriangle_145 (fun H locs S => ?_)
  refine r_i2l C dX1_findTriangle_148 ?_
  refine r_lmul C dX1_findTriangle_149 ?_
  refine lv_lstore C.1 C.2.1 dX1_findTriangle_150 hl (by decide) (lv' := [(8, .long (oL (((w32 q12) * (w32 q14)) * (w32 q16)))), (6, .long (oL q10)), (0, .ref (G.1 20)), (2, .int (oI v2)), (3, .int (oI v3)), (4, .int (oI v4))]) rfl (fun ls hl => ?_)
  refine lv_aload_n C.1 C.2.1 dX1_findTriangle_152 rfl (lv_at hl 2 rfl) ?_
  refine lv_lload C.1 C.2.1 dX1_findTriangle_153 (lv_at hl 0 rfl) ?_
  refine r_ldc2 C tw_714 dX1_findTriangle_155 ?_
  refine lv_lload C.1 C.2.1 dX1_findTriangle_158 (lv_at hl 1 rfl) ?_
  refine r_lmul C dX1_findTriangle_160 ?_
  refine lv_lload C.1 C.2.1 dX1_findTriangle_161 (lv_at hl 1 rfl) ?_
  refine r_lmul C dX1_findTriangle_163 ?_
  obtain ⟨q18, hc19, hf⟩ := bd_o hf
  refine r_callVn C S (As := [.long (oL (((w32 q12) * (w32 q14)) * (w32 q16))), .long (oL ((4 * q10) * q10))]) (rest := []) (ct_X1_reduce l G τ hc19) mi_X1_reduce tw_715 mv_X1_reduce (rvX1 S) ⟨rfl, rfl⟩ ⟨Nat.le_of_ble_eq_true rfl, Nat.le_of_ble_eq_true rfl⟩ ⟨Nat.zero_le _, Nat.zero_le _⟩ rfl hl.1 rfl (Nat.le_of_ble_eq_true rfl) dX1_findTriangle_164 (fun H locs S => ?_)
  cases hf
  exact hend _ _ _ _ S dX1_findTriangle_167
set_option maxRecDepth 100000 in
set_option maxHeartbeats 4000000 in
theorem b_X1_findTriangle_b60 (C : Cx p s m args c RX1 cX1_findTriangle 10) {q : Sg} {k2 : Int → Int → Sg → Option (Sg)} {k12 : Int → Int → Int → Sg → Option (Sg)} {k23 : Int → Int → Int → Int → Sg → Option (Sg)} (hend : EndR p l e (rmk 5 117) s m args below meth c Q G true τ cX1_findTriangle .return_ [] q) (hk2 : ∀ {H : Heap} {locs : List Loc} {ls : Array Slot} {σ : Sg} (v1 : Int) (v2 : Int), St G true τ σ s H locs → lv_has ls 10 [(0, .ref (G.1 20)), (1, .int (oI v1)), (2, .int (oI v2))] → k2 v1 v2 σ = some q → W p l e (rmk 5 117) s m args below meth c H locs 0 0 Q (F0 m 2 ls [])) (hk12 : ∀ {H : Heap} {locs : List Loc} {ls : Array Slot} {σ : Sg} (v1 : Int) (v2 : Int) (v3 : Int), St G true τ σ s H locs → lv_has ls 10 [(0, .ref (G.1 20)), (1, .int (oI v1)), (2, .int (oI v2)), (3, .int (oI v3))] → k12 v1 v2 v3 σ = some q → W p l e (rmk 5 117) s m args below meth c H locs 0 0 Q (F0 m 12 ls [])) (hk23 : ∀ {H : Heap} {locs : List Loc} {ls : Array Slot} {σ : Sg} (v1 : Int) (v2 : Int) (v3 : Int) (v4 : Int), St G true τ σ s H locs → lv_has ls 10 [(0, .ref (G.1 20)), (1, .int (oI v1)), (2, .int (oI v2)), (3, .int (oI v3)), (4, .int (oI v4))] → k23 v1 v2 v3 v4 σ = some q → W p l e (rmk 5 117) s m args below meth c H locs 0 0 Q (F0 m 23 ls [])) {H : Heap} {locs : List Loc} {ls : Array Slot} {σ : Sg} (v1 : Int) (v2 : Int) (v3 : Int) (v4 : Int) (w0 : Int) (S : St G true τ σ s H locs) (hl : lv_has ls 10 [(0, .ref (G.1 20)), (1, .int (oI v1)), (2, .int (oI v2)), (3, .int (oI v3)), (4, .int (oI v4))]) (hf : f_X1_findTriangle_b60 k2 k12 k23 v1 v2 v3 v4 w0 σ = some q) : W p l e (rmk 5 117) s m args below meth c H locs 0 0 Q (F0 m 60 ls [.int (oI w0)]) := by
  unfold f_X1_findTriangle_b60 at hf
  refine lv_istore C.1 C.2.1 dX1_findTriangle_60 hl (by decide) (lv' := [(5, .int (oI w0)), (0, .ref (G.1 20)), (1, .int (oI v1)), (2, .int (oI v2)), (3, .int (oI v3)), (4, .int (oI v4))]) rfl (fun ls hl => ?_)
  refine lv_iload C.1 C.2.1 dX1_findTriangle_62 (lv_at hl 0 rfl) ?_
  refine r_if_eq C rfl (tgt := 168) dX1_findTriangle_64 (by decide) (fun h22 => ?_) (fun h22 => ?_)
  · replace hf := if_t hf h22
    exact b_X1_findTriangle_b168 C hend hk2 hk12 hk23 v1 v2 v3 v4 S (lv_sub hl [1, 2, 3, 4, 5] rfl) hf
  · replace hf := if_f hf h22
    refine lv_aload_n C.1 C.2.1 dX1_findTriangle_67 rfl (lv_at hl 1 rfl) ?_
    refine lv_iload_n C.1 C.2.1 dX1_findTriangle_68 rfl (lv_at hl 3 rfl) ?_
    refine lv_iload_n C.1 C.2.1 dX1_findTriangle_69 rfl (lv_at hl 4 rfl) ?_
    refine lv_iload C.1 C.2.1 dX1_findTriangle_70 (lv_at hl 5 rfl) ?_
    obtain ⟨q3, hc4, hf⟩ := bd_o hf
    refine r_callVv C S (As := [.int (oI v2), .int (oI v3), .int (oI v4)]) (rest := []) (ct_X1_isSharp l G τ hc4) mi_X1_isSharp tw_723 mv_X1_isSharp (rvX1 S) ⟨rfl, rfl⟩ ⟨Nat.le_of_ble_eq_true rfl, Nat.le_of_ble_eq_true rfl⟩ ⟨Nat.zero_le _, Nat.zero_le _⟩ rfl hl.1 rfl (Nat.le_of_ble_eq_true rfl) dX1_findTriangle_72 (fun H locs S => ?_)
    refine r_if_eq C rfl (tgt := 168) dX1_findTriangle_75 (by decide) (fun h21 => ?_) (fun h21 => ?_)
    · replace hf := if_t hf h21
      exact b_X1_findTriangle_b168 C hend hk2 hk12 hk23 v1 v2 v3 v4 S (lv_sub hl [1, 2, 3, 4, 5] rfl) hf
    · replace hf := if_f hf h21
      refine lv_aload_n C.1 C.2.1 dX1_findTriangle_78 rfl (lv_at hl 1 rfl) ?_
      refine lv_iload_n C.1 C.2.1 dX1_findTriangle_79 rfl (lv_at hl 3 rfl) ?_
      refine lv_iload_n C.1 C.2.1 dX1_findTriangle_80 rfl (lv_at hl 4 rfl) ?_
      refine lv_iload C.1 C.2.1 dX1_findTriangle_81 (lv_at hl 5 rfl) ?_
      refine lv_iload_n C.1 C.2.1 dX1_findTriangle_83 rfl (lv_at hl 2 rfl) ?_
      obtain ⟨q5, hc6, hf⟩ := bd_o hf
      refine r_callVv C S (As := [.int (oI v2), .int (oI v3), .int (oI v4), .int (oI v1)]) (rest := []) (ct_X1_isAround l G τ hc6) mi_X1_isAround tw_731 mv_X1_isAround (rvX1 S) ⟨rfl, rfl⟩ ⟨Nat.le_of_ble_eq_true rfl, Nat.le_of_ble_eq_true rfl⟩ ⟨Nat.zero_le _, Nat.zero_le _⟩ rfl hl.1 rfl (Nat.le_of_ble_eq_true rfl) dX1_findTriangle_84 (fun H locs S => ?_)
      refine r_if_eq C rfl (tgt := 168) dX1_findTriangle_87 (by decide) (fun h20 => ?_) (fun h20 => ?_)
      · replace hf := if_t hf h20
        exact b_X1_findTriangle_b168 C hend hk2 hk12 hk23 v1 v2 v3 v4 S (lv_sub hl [1, 2, 3, 4, 5] rfl) hf
      · replace hf := if_f hf h20
        exact b_X1_findTriangle_b90 C hend v2 v3 v4 S (lv_sub hl [1, 3, 4, 5] rfl) hf
set_option maxRecDepth 100000 in
set_option maxHeartbeats 4000000 in
theorem b_X1_findTriangle_b59 (C : Cx p s m args c RX1 cX1_findTriangle 10) {q : Sg} {k2 : Int → Int → Sg → Option (Sg)} {k12 : Int → Int → Int → Sg → Option (Sg)} {k23 : Int → Int → Int → Int → Sg → Option (Sg)} (hend : EndR p l e (rmk 5 117) s m args below meth c Q G true τ cX1_findTriangle .return_ [] q) (hk2 : ∀ {H : Heap} {locs : List Loc} {ls : Array Slot} {σ : Sg} (v1 : Int) (v2 : Int), St G true τ σ s H locs → lv_has ls 10 [(0, .ref (G.1 20)), (1, .int (oI v1)), (2, .int (oI v2))] → k2 v1 v2 σ = some q → W p l e (rmk 5 117) s m args below meth c H locs 0 0 Q (F0 m 2 ls [])) (hk12 : ∀ {H : Heap} {locs : List Loc} {ls : Array Slot} {σ : Sg} (v1 : Int) (v2 : Int) (v3 : Int), St G true τ σ s H locs → lv_has ls 10 [(0, .ref (G.1 20)), (1, .int (oI v1)), (2, .int (oI v2)), (3, .int (oI v3))] → k12 v1 v2 v3 σ = some q → W p l e (rmk 5 117) s m args below meth c H locs 0 0 Q (F0 m 12 ls [])) (hk23 : ∀ {H : Heap} {locs : List Loc} {ls : Array Slot} {σ : Sg} (v1 : Int) (v2 : Int) (v3 : Int) (v4 : Int), St G true τ σ s H locs → lv_has ls 10 [(0, .ref (G.1 20)), (1, .int (oI v1)), (2, .int (oI v2)), (3, .int (oI v3)), (4, .int (oI v4))] → k23 v1 v2 v3 v4 σ = some q → W p l e (rmk 5 117) s m args below meth c H locs 0 0 Q (F0 m 23 ls [])) {H : Heap} {locs : List Loc} {ls : Array Slot} {σ : Sg} (v1 : Int) (v2 : Int) (v3 : Int) (v4 : Int) (S : St G true τ σ s H locs) (hl : lv_has ls 10 [(0, .ref (G.1 20)), (1, .int (oI v1)), (2, .int (oI v2)), (3, .int (oI v3)), (4, .int (oI v4))]) (hf : f_X1_findTriangle_b59 k2 k12 k23 v1 v2 v3 v4 σ = some q) : W p l e (rmk 5 117) s m args below meth c H locs 0 0 Q (F0 m 59 ls []) := by
  unfold f_X1_findTriangle_b59 at hf
  refine r_iconst C dX1_findTriangle_59 ?_
  exact b_X1_findTriangle_b60 C hend hk2 hk12 hk23 v1 v2 v3 v4 0 S (lv_sub hl [0, 1, 2, 3, 4] rfl) hf
set_option maxRecDepth 100000 in
set_option maxHeartbeats 4000000 in
theorem b_X1_findTriangle_b174 (C : Cx p s m args c RX1 cX1_findTriangle 10) {q : Sg} {k2 : Int → Int → Sg → Option (Sg)} {k12 : Int → Int → Int → Sg → Option (Sg)} (hend : EndR p l e (rmk 5 117) s m args below meth c Q G true τ cX1_findTriangle .return_ [] q) (hk2 : ∀ {H : Heap} {locs : List Loc} {ls : Array Slot} {σ : Sg} (v1 : Int) (v2 : Int), St G true τ σ s H locs → lv_has ls 10 [(0, .ref (G.1 20)), (1, .int (oI v1)), (2, .int (oI v2))] → k2 v1 v2 σ = some q → W p l e (rmk 5 117) s m args below meth c H locs 0 0 Q (F0 m 2 ls [])) (hk12 : ∀ {H : Heap} {locs : List Loc} {ls : Array Slot} {σ : Sg} (v1 : Int) (v2 : Int) (v3 : Int), St G true τ σ s H locs → lv_has ls 10 [(0, .ref (G.1 20)), (1, .int (oI v1)), (2, .int (oI v2)), (3, .int (oI v3))] → k12 v1 v2 v3 σ = some q → W p l e (rmk 5 117) s m args below meth c H locs 0 0 Q (F0 m 12 ls [])) {H : Heap} {locs : List Loc} {ls : Array Slot} {σ : Sg} (v1 : Int) (v2 : Int) (v3 : Int) (S : St G true τ σ s H locs) (hl : lv_has ls 10 [(0, .ref (G.1 20)), (1, .int (oI v1)), (2, .int (oI v2)), (3, .int (oI v3))]) (hf : f_X1_findTriangle_b174 k2 k12 v1 v2 v3 σ = some q) : W p l e (rmk 5 117) s m args below meth c H locs 0 0 Q (F0 m 174 ls []) := by
  unfold f_X1_findTriangle_b174 at hf
  refine r_iinc C dX1_findTriangle_174 hl (k := 3) rfl (by decide) (lv' := [(3, .int (oI (v3 + 1))), (0, .ref (G.1 20)), (1, .int (oI v1)), (2, .int (oI v2))]) rfl (fun ls hl => ?_)
  refine lv_goto C.1 C.2.1 (tgt := 12) dX1_findTriangle_177 (by decide) ?_
  exact hk12 v1 v2 (v3 + 1) S (lv_sub hl [1, 2, 3, 0] rfl) hf
set_option maxRecDepth 100000 in
set_option maxHeartbeats 4000000 in
theorem b_X1_findTriangle_b23 (C : Cx p s m args c RX1 cX1_findTriangle 10) {q : Sg} {k2 : Int → Int → Sg → Option (Sg)} {k12 : Int → Int → Int → Sg → Option (Sg)} (hend : EndR p l e (rmk 5 117) s m args below meth c Q G true τ cX1_findTriangle .return_ [] q) (hk2 : ∀ {H : Heap} {locs : List Loc} {ls : Array Slot} {σ : Sg} (v1 : Int) (v2 : Int), St G true τ σ s H locs → lv_has ls 10 [(0, .ref (G.1 20)), (1, .int (oI v1)), (2, .int (oI v2))] → k2 v1 v2 σ = some q → W p l e (rmk 5 117) s m args below meth c H locs 0 0 Q (F0 m 2 ls [])) (hk12 : ∀ {H : Heap} {locs : List Loc} {ls : Array Slot} {σ : Sg} (v1 : Int) (v2 : Int) (v3 : Int), St G true τ σ s H locs → lv_has ls 10 [(0, .ref (G.1 20)), (1, .int (oI v1)), (2, .int (oI v2)), (3, .int (oI v3))] → k12 v1 v2 v3 σ = some q → W p l e (rmk 5 117) s m args below meth c H locs 0 0 Q (F0 m 12 ls [])) : ∀ (n : Nat) {H : Heap} {locs : List Loc} {ls : Array Slot} {σ : Sg} (v1 : Int) (v2 : Int) (v3 : Int) (v4 : Int) (S : St G true τ σ s H locs) (hl : lv_has ls 10 [(0, .ref (G.1 20)), (1, .int (oI v1)), (2, .int (oI v2)), (3, .int (oI v3)), (4, .int (oI v4))]) (hf : f_X1_findTriangle_b23 k2 k12 n v1 v2 v3 v4 σ = some q), W p l e (rmk 5 117) s m args below meth c H locs 0 0 Q (F0 m 23 ls []) := by
  intro n
  induction n with
  | zero => intro H locs ls σ v1 v2 v3 v4 S hl hf; cases hf
  | succ n ih =>
    intro H locs ls σ v1 v2 v3 v4 S hl hf
    have hk23 := @ih
    rw [f_X1_findTriangle_b23] at hf
    refine lv_iload C.1 C.2.1 dX1_findTriangle_23 (lv_at hl 4 rfl) ?_
    refine r_bipush C dX1_findTriangle_25 (by decide) ?_
    refine r_icmp_ge C rfl (show w32 24 = 24 by decide) (tgt := 174) dX1_findTriangle_27 (by decide) (fun h30 => ?_) (fun h30 => ?_)
    · replace hf := if_t hf h30
      refine lv_iload_n C.1 C.2.1 dX1_findTriangle_30 rfl (lv_at hl 1 rfl) ?_
      refine lv_iload_n C.1 C.2.1 dX1_findTriangle_31 rfl (lv_at hl 2 rfl) ?_
      obtain ⟨q1, hc2, hf⟩ := bd_o hf
      refine r_callSNv C S (As := [.int (oI v1), .int (oI v2)]) (rest := []) (ct_X9_contains l G τ hc2) mi_X9_contains (nw_697 S.2.2.2) ms_X9_contains ⟨rfl, rfl⟩ ⟨Nat.le_of_ble_eq_true rfl, Nat.le_of_ble_eq_true rfl⟩ ⟨Nat.zero_le _, Nat.zero_le _⟩ rfl hl.1 rfl (Nat.le_of_ble_eq_true rfl) dX1_findTriangle_32 (fun H locs S => ?_)
      refine r_if_eq C rfl (tgt := 59) dX1_findTriangle_35 (by decide) (fun h29 => ?_) (fun h29 => ?_)
      · replace hf := if_t hf h29
        exact b_X1_findTriangle_b59 C hend hk2 hk12 hk23 v1 v2 v3 v4 S (lv_sub hl [0, 1, 2, 3, 4] rfl) hf
      · replace hf := if_f hf h29
        refine lv_iload_n C.1 C.2.1 dX1_findTriangle_38 rfl (lv_at hl 1 rfl) ?_
        refine lv_iload_n C.1 C.2.1 dX1_findTriangle_39 rfl (lv_at hl 3 rfl) ?_
        obtain ⟨q23, hc24, hf⟩ := bd_o hf
        refine r_callSNv C S (As := [.int (oI v1), .int (oI v3)]) (rest := []) (ct_X9_contains l G τ hc24) mi_X9_contains (nw_697 S.2.2.2) ms_X9_contains ⟨rfl, rfl⟩ ⟨Nat.le_of_ble_eq_true rfl, Nat.le_of_ble_eq_true rfl⟩ ⟨Nat.zero_le _, Nat.zero_le _⟩ rfl hl.1 rfl (Nat.le_of_ble_eq_true rfl) dX1_findTriangle_40 (fun H locs S => ?_)
        refine r_if_eq C rfl (tgt := 59) dX1_findTriangle_43 (by decide) (fun h28 => ?_) (fun h28 => ?_)
        · replace hf := if_t hf h28
          exact b_X1_findTriangle_b59 C hend hk2 hk12 hk23 v1 v2 v3 v4 S (lv_sub hl [0, 1, 2, 3, 4] rfl) hf
        · replace hf := if_f hf h28
          refine lv_iload_n C.1 C.2.1 dX1_findTriangle_46 rfl (lv_at hl 1 rfl) ?_
          refine lv_iload C.1 C.2.1 dX1_findTriangle_47 (lv_at hl 4 rfl) ?_
          obtain ⟨q25, hc26, hf⟩ := bd_o hf
          refine r_callSNv C S (As := [.int (oI v1), .int (oI v4)]) (rest := []) (ct_X9_contains l G τ hc26) mi_X9_contains (nw_697 S.2.2.2) ms_X9_contains ⟨rfl, rfl⟩ ⟨Nat.le_of_ble_eq_true rfl, Nat.le_of_ble_eq_true rfl⟩ ⟨Nat.zero_le _, Nat.zero_le _⟩ rfl hl.1 rfl (Nat.le_of_ble_eq_true rfl) dX1_findTriangle_49 (fun H locs S => ?_)
          refine r_if_eq C rfl (tgt := 59) dX1_findTriangle_52 (by decide) (fun h27 => ?_) (fun h27 => ?_)
          · replace hf := if_t hf h27
            exact b_X1_findTriangle_b59 C hend hk2 hk12 hk23 v1 v2 v3 v4 S (lv_sub hl [0, 1, 2, 3, 4] rfl) hf
          · replace hf := if_f hf h27
            refine r_iconst C dX1_findTriangle_55 ?_
            refine lv_goto C.1 C.2.1 (tgt := 60) dX1_findTriangle_56 (by decide) ?_
            exact b_X1_findTriangle_b60 C hend hk2 hk12 hk23 v1 v2 v3 v4 1 S (lv_sub hl [0, 1, 2, 3, 4] rfl) hf
    · replace hf := if_f hf h30
      exact b_X1_findTriangle_b174 C hend hk2 hk12 v1 v2 v3 S (lv_sub hl [0, 1, 2, 3] rfl) hf
set_option maxRecDepth 100000 in
set_option maxHeartbeats 4000000 in
theorem b_X1_findTriangle_b180 (C : Cx p s m args c RX1 cX1_findTriangle 10) {q : Sg} {k2 : Int → Int → Sg → Option (Sg)} (hend : EndR p l e (rmk 5 117) s m args below meth c Q G true τ cX1_findTriangle .return_ [] q) (hk2 : ∀ {H : Heap} {locs : List Loc} {ls : Array Slot} {σ : Sg} (v1 : Int) (v2 : Int), St G true τ σ s H locs → lv_has ls 10 [(0, .ref (G.1 20)), (1, .int (oI v1)), (2, .int (oI v2))] → k2 v1 v2 σ = some q → W p l e (rmk 5 117) s m args below meth c H locs 0 0 Q (F0 m 2 ls [])) {H : Heap} {locs : List Loc} {ls : Array Slot} {σ : Sg} (v1 : Int) (v2 : Int) (S : St G true τ σ s H locs) (hl : lv_has ls 10 [(0, .ref (G.1 20)), (1, .int (oI v1)), (2, .int (oI v2))]) (hf : f_X1_findTriangle_b180 k2 v1 v2 σ = some q) : W p l e (rmk 5 117) s m args below meth c H locs 0 0 Q (F0 m 180 ls []) := by
  unfold f_X1_findTriangle_b180 at hf
  refine r_iinc C dX1_findTriangle_180 hl (k := 2) rfl (by decide) (lv' := [(2, .int (oI (v2 + 1))), (0, .ref (G.1 20)), (1, .int (oI v1))]) rfl (fun ls hl => ?_)
  refine lv_goto C.1 C.2.1 (tgt := 2) dX1_findTriangle_183 (by decide) ?_
  exact hk2 v1 (v2 + 1) S (lv_sub hl [1, 2, 0] rfl) hf
set_option maxRecDepth 100000 in
set_option maxHeartbeats 4000000 in
theorem b_X1_findTriangle_b12 (C : Cx p s m args c RX1 cX1_findTriangle 10) {q : Sg} {k2 : Int → Int → Sg → Option (Sg)} (hend : EndR p l e (rmk 5 117) s m args below meth c Q G true τ cX1_findTriangle .return_ [] q) (hk2 : ∀ {H : Heap} {locs : List Loc} {ls : Array Slot} {σ : Sg} (v1 : Int) (v2 : Int), St G true τ σ s H locs → lv_has ls 10 [(0, .ref (G.1 20)), (1, .int (oI v1)), (2, .int (oI v2))] → k2 v1 v2 σ = some q → W p l e (rmk 5 117) s m args below meth c H locs 0 0 Q (F0 m 2 ls [])) : ∀ (n : Nat) {H : Heap} {locs : List Loc} {ls : Array Slot} {σ : Sg} (v1 : Int) (v2 : Int) (v3 : Int) (S : St G true τ σ s H locs) (hl : lv_has ls 10 [(0, .ref (G.1 20)), (1, .int (oI v1)), (2, .int (oI v2)), (3, .int (oI v3))]) (hf : f_X1_findTriangle_b12 k2 n v1 v2 v3 σ = some q), W p l e (rmk 5 117) s m args below meth c H locs 0 0 Q (F0 m 12 ls []) := by
  intro n
  induction n with
  | zero => intro H locs ls σ v1 v2 v3 S hl hf; cases hf
  | succ n ih =>
    intro H locs ls σ v1 v2 v3 S hl hf
    have hk12 := @ih
    rw [f_X1_findTriangle_b12] at hf
    refine lv_iload_n C.1 C.2.1 dX1_findTriangle_12 rfl (lv_at hl 3 rfl) ?_
    refine r_bipush C dX1_findTriangle_13 (by decide) ?_
    refine r_icmp_ge C rfl (show w32 24 = 24 by decide) (tgt := 180) dX1_findTriangle_15 (by decide) (fun h31 => ?_) (fun h31 => ?_)
    · replace hf := if_t hf h31
      refine lv_iload_n C.1 C.2.1 dX1_findTriangle_18 rfl (lv_at hl 3 rfl) ?_
      refine r_iconst C dX1_findTriangle_19 ?_
      refine r_iadd C dX1_findTriangle_20 ?_
      refine lv_istore C.1 C.2.1 dX1_findTriangle_21 hl (by decide) (lv' := [(4, .int (oI (v3 + 1))), (0, .ref (G.1 20)), (1, .int (oI v1)), (2, .int (oI v2)), (3, .int (oI v3))]) rfl (fun ls hl => ?_)
      exact b_X1_findTriangle_b23 C hend hk2 hk12 FUEL v1 v2 v3 (v3 + 1) S (lv_sub hl [1, 2, 3, 4, 0] rfl) hf
    · replace hf := if_f hf h31
      exact b_X1_findTriangle_b180 C hend hk2 v1 v2 S (lv_sub hl [0, 1, 2] rfl) hf
set_option maxRecDepth 100000 in
set_option maxHeartbeats 4000000 in
theorem b_X1_findTriangle_b2 (C : Cx p s m args c RX1 cX1_findTriangle 10) {q : Sg} (hend : EndR p l e (rmk 5 117) s m args below meth c Q G true τ cX1_findTriangle .return_ [] q) : ∀ (n : Nat) {H : Heap} {locs : List Loc} {ls : Array Slot} {σ : Sg} (v1 : Int) (v2 : Int) (S : St G true τ σ s H locs) (hl : lv_has ls 10 [(0, .ref (G.1 20)), (1, .int (oI v1)), (2, .int (oI v2))]) (hf : f_X1_findTriangle_b2 n v1 v2 σ = some q), W p l e (rmk 5 117) s m args below meth c H locs 0 0 Q (F0 m 2 ls []) := by
  intro n
  induction n with
  | zero => intro H locs ls σ v1 v2 S hl hf; cases hf
  | succ n ih =>
    intro H locs ls σ v1 v2 S hl hf
    have hk2 := @ih
    rw [f_X1_findTriangle_b2] at hf
    refine lv_iload_n C.1 C.2.1 dX1_findTriangle_2 rfl (lv_at hl 2 rfl) ?_
    refine r_bipush C dX1_findTriangle_3 (by decide) ?_
    refine r_icmp_ge C rfl (show w32 24 = 24 by decide) (tgt := 186) dX1_findTriangle_5 (by decide) (fun h32 => ?_) (fun h32 => ?_)
    · replace hf := if_t hf h32
      refine lv_iload_n C.1 C.2.1 dX1_findTriangle_8 rfl (lv_at hl 2 rfl) ?_
      refine r_iconst C dX1_findTriangle_9 ?_
      refine r_iadd C dX1_findTriangle_10 ?_
      refine lv_istore_n C.1 C.2.1 dX1_findTriangle_11 rfl hl (by decide) (lv' := [(3, .int (oI (v2 + 1))), (0, .ref (G.1 20)), (1, .int (oI v1)), (2, .int (oI v2))]) rfl (fun ls hl => ?_)
      exact b_X1_findTriangle_b12 C hend hk2 FUEL v1 v2 (v2 + 1) S (lv_sub hl [1, 2, 3, 0] rfl) hf
    · replace hf := if_f hf h32
      cases hf
      exact hend _ _ _ _ S dX1_findTriangle_186
set_option maxRecDepth 100000 in
set_option maxHeartbeats 4000000 in
theorem ct_X1_findTriangle (l : Launch) (G : Gd) (τ : Sg) {v1 : Int} {σ : Sg} {q : Sg} (hf : f_X1_findTriangle v1 σ = some q) : Ctr l yX1_findTriangle cX1_findTriangle 10 none (rmk 5 117) G true τ [.ref (G.1 20), .int (oI v1)] σ q none := by
  unfold f_X1_findTriangle at hf
  refine CtrV.of (own := RX1) (plainFor_of_name (by decide)) (Nat.le_of_ble_eq_true rfl) rfl (fun p e s m below meth c Q ls C hl S hend => ?_)
  have hl : lv_has ls 10 [(0, .ref (G.1 20)), (1, .int (oI v1))] := hl
  refine r_iconst C dX1_findTriangle_0 ?_
  refine lv_istore_n C.1 C.2.1 dX1_findTriangle_1 rfl hl (by decide) (lv' := [(2, .int (oI 0)), (0, .ref (G.1 20)), (1, .int (oI v1))]) rfl (fun ls hl => ?_)
  exact b_X1_findTriangle_b2 C hend FUEL v1 0 S (lv_sub hl [1, 2, 0] rfl) hf
set_option maxRecDepth 100000 in
set_option maxHeartbeats 4000000 in
theorem ct_X1_close (l : Launch) (G : Gd) (τ : Sg) {v1 : Int} {σ : Sg} {q : Sg} (hf : f_X1_close v1 σ = some q) : Ctr l yX1_close cX1_close 2 none (rmk 6 146) G true τ [.ref (G.1 20), .int (oI v1)] σ q none := by
  unfold f_X1_close at hf
  refine CtrV.of (own := RX1) (plainFor_of_name (by decide)) (Nat.le_of_ble_eq_true rfl) rfl (fun p e s m below meth c Q ls C hl S hend => ?_)
  have hl : lv_has ls 2 [(0, .ref (G.1 20)), (1, .int (oI v1))] := hl
  refine lv_aload_n C.1 C.2.1 dX1_close_0 rfl (lv_at hl 0 rfl) ?_
  refine r_iconst C dX1_close_1 ?_
  refine p1_first C S tw_261 dX1_close_2 (fun H locs S => ?_)
  obtain ⟨σ1, S, hf⟩ := wr_s S hf
  refine lv_aload_n C.1 C.2.1 dX1_close_5 rfl (lv_at hl 0 rfl) ?_
  refine r_bipush C dX1_close_6 (by decide) ?_
  refine p1_second C S tw_263 dX1_close_8 (fun H locs S => ?_)
  obtain ⟨σ2, S, hf⟩ := wr_s S hf
  refine lv_aload_n C.1 C.2.1 dX1_close_11 rfl (lv_at hl 0 rfl) ?_
  refine r_bipush C dX1_close_12 (by decide) ?_
  refine p1_third C S tw_265 dX1_close_14 (fun H locs S => ?_)
  obtain ⟨σ3, S, hf⟩ := wr_s S hf
  refine lv_aload_n C.1 C.2.1 dX1_close_17 rfl (lv_at hl 0 rfl) ?_
  refine lv_iload_n C.1 C.2.1 dX1_close_18 rfl (lv_at hl 1 rfl) ?_
  obtain ⟨q4, hc5, hf⟩ := bd_o hf
  refine r_callVv C S (As := [.int (oI v1)]) (rest := []) (ct_X1_isPoint l G τ hc5) mi_X1_isPoint tw_693 mv_X1_isPoint (rvX1 S) ⟨rfl, rfl⟩ ⟨Nat.le_of_ble_eq_true rfl, Nat.le_of_ble_eq_true rfl⟩ ⟨Nat.zero_le _, Nat.zero_le _⟩ rfl hl.1 rfl (Nat.le_of_ble_eq_true rfl) dX1_close_19 (fun H locs S => ?_)
  refine r_if_ne C rfl (tgt := 38) dX1_close_22 (by decide) (fun h11 => ?_) (fun h11 => ?_)
  · replace hf := if_t hf h11
    refine lv_aload_n C.1 C.2.1 dX1_close_25 rfl (lv_at hl 0 rfl) ?_
    refine lv_iload_n C.1 C.2.1 dX1_close_26 rfl (lv_at hl 1 rfl) ?_
    obtain ⟨q6, hc7, hf⟩ := bd_o hf
    refine r_callVv C S (As := [.int (oI v1)]) (rest := []) (ct_X1_hasDiameter l G τ hc7) mi_X1_hasDiameter tw_701 mv_X1_hasDiameter (rvX1 S) ⟨rfl, rfl⟩ ⟨Nat.le_of_ble_eq_true rfl, Nat.le_of_ble_eq_true rfl⟩ ⟨Nat.zero_le _, Nat.zero_le _⟩ rfl hl.1 rfl (Nat.le_of_ble_eq_true rfl) dX1_close_27 (fun H locs S => ?_)
    refine r_if_ne C rfl (tgt := 38) dX1_close_30 (by decide) (fun h10 => ?_) (fun h10 => ?_)
    · replace hf := if_t hf h10
      refine lv_aload_n C.1 C.2.1 dX1_close_33 rfl (lv_at hl 0 rfl) ?_
      refine lv_iload_n C.1 C.2.1 dX1_close_34 rfl (lv_at hl 1 rfl) ?_
      obtain ⟨q8, hc9, hf⟩ := bd_o hf
      refine r_callVn C S (As := [.int (oI v1)]) (rest := []) (ct_X1_findTriangle l G τ hc9) mi_X1_findTriangle tw_719 mv_X1_findTriangle (rvX1 S) ⟨rfl, rfl⟩ ⟨Nat.le_of_ble_eq_true rfl, Nat.le_of_ble_eq_true rfl⟩ ⟨Nat.zero_le _, Nat.zero_le _⟩ rfl hl.1 rfl (Nat.le_of_ble_eq_true rfl) dX1_close_35 (fun H locs S => ?_)
      cases hf
      exact hend _ _ _ _ S dX1_close_38
    · replace hf := if_f hf h10
      cases hf
      exact hend _ _ _ _ S dX1_close_38
  · replace hf := if_f hf h11
    cases hf
    exact hend _ _ _ _ S dX1_close_38
set_option maxRecDepth 100000 in
set_option maxHeartbeats 4000000 in
theorem ct_X9_ring (l : Launch) (G : Gd) (τ : Sg) {v1 : Int} {v2 : Int} {σ : Sg} {q : Int × Sg} (hf : f_X9_ring v1 v2 σ = some q) : Ctr l yX9_ring cX9_ring 4 (some .long) (rmk 7 167) G true τ [.ref (G.1 0), .int (oI v1), .int (oI v2)] σ q.2 (some (.long (oL q.1))) := by
  unfold f_X9_ring at hf
  refine CtrJ.of (own := RX9) (plainFor_of_name (by decide)) (Nat.le_of_ble_eq_true rfl) rfl (fun p e s m below meth c Q ls C hl S hend => ?_)
  have hl : lv_has ls 4 [(0, .ref (G.1 0)), (1, .int (oI v1)), (2, .int (oI v2))] := hl
  refine lv_aload_n C.1 C.2.1 dX9_ring_0 rfl (lv_at hl 0 rfl) ?_
  refine lv_iload_n C.1 C.2.1 dX9_ring_1 rfl (lv_at hl 1 rfl) ?_
  obtain ⟨q1, hc2, hf⟩ := bd_o hf
  refine r_callVv C S (As := [.int (oI v1)]) (rest := []) (ct_X9_treatyAt l G τ hc2) mi_X9_treatyAt tw_528 mv_X9_treatyAt (rvX9 S) ⟨rfl, rfl⟩ ⟨Nat.le_of_ble_eq_true rfl, Nat.le_of_ble_eq_true rfl⟩ ⟨Nat.zero_le _, Nat.zero_le _⟩ rfl hl.1 rfl (Nat.le_of_ble_eq_true rfl) dX9_ring_2 (fun H locs S => ?_)
  rcases q1 with _ | t3
  · replace hf := oT_n hf
    refine lv_astore_nN C.1 C.2.1 dX9_ring_5 rfl hl (by decide) (lv' := [(3, .null), (0, .ref (G.1 0)), (1, .int (oI v1)), (2, .int (oI v2))]) rfl (fun ls hl => ?_)
    refine lv_aload_nN C.1 C.2.1 dX9_ring_6 rfl (lv_at hl 0 rfl) ?_
    refine lv_ifnullN C.1 C.2.1 (tgt := 19) dX9_ring_7 (by decide) ?_
    refine r_ldc2 C tw_687 dX9_ring_19 ?_
    cases hf
    exact hend _ _ _ _ S dX9_ring_22
  · obtain ⟨ht3, hf⟩ := oT_s hf
    refine lv_astore_n C.1 C.2.1 dX9_ring_5 rfl hl (by decide) (lv' := [(3, .ref (G.1 (21 + t3))), (0, .ref (G.1 0)), (1, .int (oI v1)), (2, .int (oI v2))]) rfl (fun ls hl => ?_)
    refine lv_aload_n C.1 C.2.1 dX9_ring_6 rfl (lv_at hl 0 rfl) ?_
    refine lv_ifnull C.1 C.2.1 dX9_ring_7 ?_
    refine lv_iload_n C.1 C.2.1 dX9_ring_10 rfl (lv_at hl 3 rfl) ?_
    refine r_if_lt C rfl (tgt := 19) dX9_ring_11 (by decide) (fun h8 => ?_) (fun h8 => ?_)
    · replace hf := if_t hf h8
      refine r_ldc2 C tw_687 dX9_ring_19 ?_
      cases hf
      exact hend _ _ _ _ S dX9_ring_22
    · replace hf := if_f hf h8
      refine lv_iload_n C.1 C.2.1 dX9_ring_14 rfl (lv_at hl 3 rfl) ?_
      refine r_iconst C dX9_ring_15 ?_
      refine r_icmp_le C rfl (show w32 4 = 4 by decide) (tgt := 23) dX9_ring_16 (by decide) (fun h7 => ?_) (fun h7 => ?_)
      · replace hf := if_t hf h7
        refine lv_aload_n C.1 C.2.1 dX9_ring_23 rfl (lv_at hl 0 rfl) ?_
        refine g8_worstSet C (d := t3) S (by omega) tw_157 dX9_ring_24 ?_
        refine r_if_ne C rfl (tgt := 34) dX9_ring_27 (by decide) (fun h6 => ?_) (fun h6 => ?_)
        · replace hf := if_t hf h6
          refine r_ldc2 C tw_688 dX9_ring_30 ?_
          cases hf
          exact hend _ _ _ _ S dX9_ring_33
        · replace hf := if_f hf h6
          refine lv_aload_n C.1 C.2.1 dX9_ring_34 rfl (lv_at hl 1 rfl) ?_
          refine g9_circle C S tw_290 dX9_ring_35 ?_
          refine lv_aload_n C.1 C.2.1 dX9_ring_38 rfl (lv_at hl 0 rfl) ?_
          refine g8_worstSet C (d := t3) S (by omega) tw_157 dX9_ring_39 ?_
          obtain ⟨q4, hc5, hf⟩ := bd_o hf
          refine r_callVn C S (As := [.int (oI (σ (21 + t3) 5))]) (rest := []) (ct_X1_close l G τ hc5) mi_X1_close tw_689 mv_X1_close (rvX1 S) ⟨rfl, rfl⟩ ⟨Nat.le_of_ble_eq_true rfl, Nat.le_of_ble_eq_true rfl⟩ ⟨Nat.zero_le _, Nat.zero_le _⟩ rfl hl.1 rfl (Nat.le_of_ble_eq_true rfl) dX9_ring_42 (fun H locs S => ?_)
          refine lv_iload_n C.1 C.2.1 dX9_ring_45 rfl (lv_at hl 3 rfl) ?_
          by_cases hs0 : w32 v2 = 0
          · replace hf := if_t hf hs0
            refine r_tabIn C (tgt := 76) (v := 0) dX9_ring_46 hs0 (by decide) (by decide) rfl (by decide) ?_
            refine lv_aload_n C.1 C.2.1 dX9_ring_76 rfl (lv_at hl 1 rfl) ?_
            refine g9_circle C S tw_290 dX9_ring_77 ?_
            refine g1_above C S tw_258 dX9_ring_80 ?_
            cases hf
            exact hend _ _ _ _ S dX9_ring_83
          · replace hf := if_f hf hs0
            by_cases hs1 : w32 v2 = 1
            · replace hf := if_t hf hs1
              refine r_tabIn C (tgt := 84) (v := 1) dX9_ring_46 hs1 (by decide) (by decide) rfl (by decide) ?_
              refine lv_aload_n C.1 C.2.1 dX9_ring_84 rfl (lv_at hl 1 rfl) ?_
              refine g9_circle C S tw_290 dX9_ring_85 ?_
              refine g1_below C S tw_260 dX9_ring_88 ?_
              cases hf
              exact hend _ _ _ _ S dX9_ring_91
            · replace hf := if_f hf hs1
              by_cases hs2 : w32 v2 = 2
              · replace hf := if_t hf hs2
                refine r_tabIn C (tgt := 92) (v := 2) dX9_ring_46 hs2 (by decide) (by decide) rfl (by decide) ?_
                refine lv_aload_n C.1 C.2.1 dX9_ring_92 rfl (lv_at hl 1 rfl) ?_
                refine g9_circle C S tw_290 dX9_ring_93 ?_
                refine g1_first C S tw_262 dX9_ring_96 ?_
                refine r_i2l C dX9_ring_99 ?_
                cases hf
                exact hend _ _ _ _ S dX9_ring_100
              · replace hf := if_f hf hs2
                by_cases hs3 : w32 v2 = 3
                · replace hf := if_t hf hs3
                  refine r_tabIn C (tgt := 101) (v := 3) dX9_ring_46 hs3 (by decide) (by decide) rfl (by decide) ?_
                  refine lv_aload_n C.1 C.2.1 dX9_ring_101 rfl (lv_at hl 1 rfl) ?_
                  refine g9_circle C S tw_290 dX9_ring_102 ?_
                  refine g1_second C S tw_264 dX9_ring_105 ?_
                  refine r_i2l C dX9_ring_108 ?_
                  cases hf
                  exact hend _ _ _ _ S dX9_ring_109
                · replace hf := if_f hf hs3
                  refine r_tabOut C (tgt := 110) dX9_ring_46 (by omega) (by decide) ?_
                  refine lv_aload_n C.1 C.2.1 dX9_ring_110 rfl (lv_at hl 1 rfl) ?_
                  refine g9_circle C S tw_290 dX9_ring_111 ?_
                  refine g1_third C S tw_266 dX9_ring_114 ?_
                  refine r_i2l C dX9_ring_117 ?_
                  cases hf
                  exact hend _ _ _ _ S dX9_ring_118
      · replace hf := if_f hf h7
        refine r_ldc2 C tw_687 dX9_ring_19 ?_
        cases hf
        exact hend _ _ _ _ S dX9_ring_22
set_option maxRecDepth 100000 in
set_option maxHeartbeats 4000000 in
theorem ct_X8_worstWithout (l : Launch) (G : Gd) (τ : Sg) {d : Nat} {v1 : Int} {σ : Sg} {q : Int} (hf : f_X8_worstWithout d v1 σ = some q) : Ctr l yX8_worstWithout cX8_worstWithout 2 (some .int) (rmk 2 50) G true τ [.ref (G.1 (21 + d)), .int (oI v1)] σ σ (some (.int (oI q))) := by
  unfold f_X8_worstWithout at hf
  obtain ⟨hd, hf⟩ := ck_o hf
  refine CtrI.of (own := RX8) (plainFor_of_name (by decide)) (Nat.le_of_ble_eq_true rfl) rfl (fun p e s m below meth c Q ls C hl S hend => ?_)
  have hl : lv_has ls 2 [(0, .ref (G.1 (21 + d))), (1, .int (oI v1))] := hl
  refine lv_aload_n C.1 C.2.1 dX8_worstWithout_0 rfl (lv_at hl 0 rfl) ?_
  refine g8_book C (d := d) S (by omega) tw_147 dX8_worstWithout_1 ?_
  refine lv_aload_n C.1 C.2.1 dX8_worstWithout_4 rfl (lv_at hl 0 rfl) ?_
  refine g8_discs C (d := d) S (by omega) tw_148 dX8_worstWithout_5 ?_
  refine r_ldc C tw_514 dX8_worstWithout_8 ?_
  refine lv_iload_n C.1 C.2.1 dX8_worstWithout_10 rfl (lv_at hl 1 rfl) ?_
  refine r_iconst C dX8_worstWithout_11 ?_
  refine r_ixor C rfl (show u32 (-1) = 4294967295 by decide) dX8_worstWithout_12 ?_
  refine r_iand C (show u32 16777215 = 16777215 by decide) (u32_nat (nb_xor (u32_lt _) (show 4294967295 < 4294967296 by decide))) dX8_worstWithout_13 ?_
  obtain ⟨q1, hc2, hf⟩ := bd_o hf
  refine r_callVv C S (As := [.int (oI (((16777215 &&& ((u32 v1) ^^^ 4294967295) : Nat) : Int)))]) (rest := [.ref (G.1 6)]) (ct_X2_heaviestAmong l G τ hc2) mi_X2_heaviestAmong tw_515 mv_X2_heaviestAmong (rvX2 S (d := d) (by omega)) ⟨rfl, rfl⟩ ⟨Nat.le_of_ble_eq_true rfl, Nat.le_of_ble_eq_true rfl⟩ ⟨Nat.zero_le _, Nat.zero_le _⟩ rfl hl.1 rfl (Nat.le_of_ble_eq_true rfl) dX8_worstWithout_14 (fun H locs S => ?_)
  obtain ⟨q3, hc4, hf⟩ := bd_o hf
  refine r_callVv C S (As := [.int (oI q1)]) (rest := []) (ct_X0_sums l G τ hc4) mi_X0_sums tw_523 mv_X0_sums (rvX0 S) ⟨rfl, rfl⟩ ⟨Nat.le_of_ble_eq_true rfl, Nat.le_of_ble_eq_true rfl⟩ ⟨Nat.zero_le _, Nat.zero_le _⟩ rfl hl.1 rfl (Nat.le_of_ble_eq_true rfl) dX8_worstWithout_17 (fun H locs S => ?_)
  cases hf
  exact hend _ _ _ _ S dX8_worstWithout_20
set_option maxRecDepth 100000 in
set_option maxHeartbeats 4000000 in
theorem ct_X9_part (l : Launch) (G : Gd) (τ : Sg) {v1 : Int} {v2 : Int} {σ : Sg} {q : Int} (hf : f_X9_part v1 v2 σ = some q) : Ctr l yX9_part cX9_part 4 (some .int) (rmk 3 71) G true τ [.ref (G.1 0), .int (oI v1), .int (oI v2)] σ σ (some (.int (oI q))) := by
  unfold f_X9_part at hf
  refine CtrI.of (own := RX9) (plainFor_of_name (by decide)) (Nat.le_of_ble_eq_true rfl) rfl (fun p e s m below meth c Q ls C hl S hend => ?_)
  have hl : lv_has ls 4 [(0, .ref (G.1 0)), (1, .int (oI v1)), (2, .int (oI v2))] := hl
  refine lv_aload_n C.1 C.2.1 dX9_part_0 rfl (lv_at hl 0 rfl) ?_
  refine lv_iload_n C.1 C.2.1 dX9_part_1 rfl (lv_at hl 1 rfl) ?_
  obtain ⟨q1, hc2, hf⟩ := bd_o hf
  refine r_callVv C S (As := [.int (oI v1)]) (rest := []) (ct_X9_treatyAt l G τ hc2) mi_X9_treatyAt tw_528 mv_X9_treatyAt (rvX9 S) ⟨rfl, rfl⟩ ⟨Nat.le_of_ble_eq_true rfl, Nat.le_of_ble_eq_true rfl⟩ ⟨Nat.zero_le _, Nat.zero_le _⟩ rfl hl.1 rfl (Nat.le_of_ble_eq_true rfl) dX9_part_2 (fun H locs S => ?_)
  rcases q1 with _ | t3
  · replace hf := oT_n hf
    refine lv_astore_nN C.1 C.2.1 dX9_part_5 rfl hl (by decide) (lv' := [(3, .null), (0, .ref (G.1 0)), (1, .int (oI v1)), (2, .int (oI v2))]) rfl (fun ls hl => ?_)
    refine lv_aload_nN C.1 C.2.1 dX9_part_6 rfl (lv_at hl 0 rfl) ?_
    refine lv_ifnullN C.1 C.2.1 (tgt := 21) dX9_part_7 (by decide) ?_
    refine r_iconst C dX9_part_21 ?_
    cases hf
    exact hend _ _ _ _ S dX9_part_22
  · obtain ⟨ht3, hf⟩ := oT_s hf
    refine lv_astore_n C.1 C.2.1 dX9_part_5 rfl hl (by decide) (lv' := [(3, .ref (G.1 (21 + t3))), (0, .ref (G.1 0)), (1, .int (oI v1)), (2, .int (oI v2))]) rfl (fun ls hl => ?_)
    refine lv_aload_n C.1 C.2.1 dX9_part_6 rfl (lv_at hl 0 rfl) ?_
    refine lv_ifnull C.1 C.2.1 dX9_part_7 ?_
    refine lv_aload_n C.1 C.2.1 dX9_part_10 rfl (lv_at hl 1 rfl) ?_
    refine g9_book C S tw_282 dX9_part_11 ?_
    refine lv_iload_n C.1 C.2.1 dX9_part_14 rfl (lv_at hl 3 rfl) ?_
    obtain ⟨q4, hc5, hf⟩ := bd_o hf
    refine r_callVv C S (As := [.int (oI v2)]) (rest := []) (ct_X0_has l G τ hc5) mi_X0_has tw_581 mv_X0_has (rvX0 S) ⟨rfl, rfl⟩ ⟨Nat.le_of_ble_eq_true rfl, Nat.le_of_ble_eq_true rfl⟩ ⟨Nat.zero_le _, Nat.zero_le _⟩ rfl hl.1 rfl (Nat.le_of_ble_eq_true rfl) dX9_part_15 (fun H locs S => ?_)
    refine r_if_ne C rfl (tgt := 23) dX9_part_18 (by decide) (fun h8 => ?_) (fun h8 => ?_)
    · replace hf := if_t hf h8
      refine r_iconst C dX9_part_21 ?_
      cases hf
      exact hend _ _ _ _ S dX9_part_22
    · replace hf := if_f hf h8
      refine lv_aload_n C.1 C.2.1 dX9_part_23 rfl (lv_at hl 0 rfl) ?_
      refine g8_worstSums C (d := t3) S (by omega) tw_159 dX9_part_24 ?_
      refine lv_aload_n C.1 C.2.1 dX9_part_27 rfl (lv_at hl 0 rfl) ?_
      refine r_iconst C dX9_part_28 ?_
      refine lv_iload_n C.1 C.2.1 dX9_part_29 rfl (lv_at hl 3 rfl) ?_
      refine r_ishl C (y1 := (u32 v2 % 32)) rfl dX9_part_30 ?_
      obtain ⟨q6, hc7, hf⟩ := bd_o hf
      refine r_callVv C S (As := [.int (oI (1 * ((2 ^ (u32 v2 % 32) : Nat) : Int)))]) (rest := [.int (oI (σ (21 + t3) 6))]) (ct_X8_worstWithout l G τ hc7) mi_X8_worstWithout tw_739 mv_X8_worstWithout (rvX8 S (d := t3) (by omega)) ⟨rfl, rfl⟩ ⟨Nat.le_of_ble_eq_true rfl, Nat.le_of_ble_eq_true rfl⟩ ⟨Nat.zero_le _, Nat.zero_le _⟩ rfl hl.1 rfl (Nat.le_of_ble_eq_true rfl) dX9_part_31 (fun H locs S => ?_)
      refine r_isub C dX9_part_34 ?_
      cases hf
      exact hend _ _ _ _ S dX9_part_35
set_option maxRecDepth 100000 in
set_option maxHeartbeats 4000000 in
theorem ct_X9_second (l : Launch) (G : Gd) (τ : Sg) {v1 : Int} {σ : Sg} {q : Int} (hf : f_X9_second v1 σ = some q) : Ctr l yX9_second cX9_second 3 (some .int) (rmk 3 71) G true τ [.ref (G.1 0), .int (oI v1)] σ σ (some (.int (oI q))) := by
  unfold f_X9_second at hf
  refine CtrI.of (own := RX9) (plainFor_of_name (by decide)) (Nat.le_of_ble_eq_true rfl) rfl (fun p e s m below meth c Q ls C hl S hend => ?_)
  have hl : lv_has ls 3 [(0, .ref (G.1 0)), (1, .int (oI v1))] := hl
  refine lv_aload_n C.1 C.2.1 dX9_second_0 rfl (lv_at hl 0 rfl) ?_
  refine lv_iload_n C.1 C.2.1 dX9_second_1 rfl (lv_at hl 1 rfl) ?_
  obtain ⟨q1, hc2, hf⟩ := bd_o hf
  refine r_callVv C S (As := [.int (oI v1)]) (rest := []) (ct_X9_treatyAt l G τ hc2) mi_X9_treatyAt tw_528 mv_X9_treatyAt (rvX9 S) ⟨rfl, rfl⟩ ⟨Nat.le_of_ble_eq_true rfl, Nat.le_of_ble_eq_true rfl⟩ ⟨Nat.zero_le _, Nat.zero_le _⟩ rfl hl.1 rfl (Nat.le_of_ble_eq_true rfl) dX9_second_2 (fun H locs S => ?_)
  rcases q1 with _ | t3
  · replace hf := oT_n hf
    refine lv_astore_nN C.1 C.2.1 dX9_second_5 rfl hl (by decide) (lv' := [(2, .null), (0, .ref (G.1 0)), (1, .int (oI v1))]) rfl (fun ls hl => ?_)
    refine lv_aload_nN C.1 C.2.1 dX9_second_6 rfl (lv_at hl 0 rfl) ?_
    refine lv_ifnonnullN C.1 C.2.1 dX9_second_7 ?_
    refine r_iconst C dX9_second_10 ?_
    refine lv_goto C.1 C.2.1 (tgt := 22) dX9_second_11 (by decide) ?_
    cases hf
    exact hend _ _ _ _ S dX9_second_22
  · obtain ⟨ht3, hf⟩ := oT_s hf
    refine lv_astore_n C.1 C.2.1 dX9_second_5 rfl hl (by decide) (lv' := [(2, .ref (G.1 (21 + t3))), (0, .ref (G.1 0)), (1, .int (oI v1))]) rfl (fun ls hl => ?_)
    refine lv_aload_n C.1 C.2.1 dX9_second_6 rfl (lv_at hl 0 rfl) ?_
    refine lv_ifnonnull C.1 C.2.1 (tgt := 14) dX9_second_7 (by decide) ?_
    refine lv_aload_n C.1 C.2.1 dX9_second_14 rfl (lv_at hl 0 rfl) ?_
    refine lv_aload_n C.1 C.2.1 dX9_second_15 rfl (lv_at hl 0 rfl) ?_
    refine g8_worstSet C (d := t3) S (by omega) tw_157 dX9_second_16 ?_
    obtain ⟨q4, hc5, hf⟩ := bd_o hf
    refine r_callVv C S (As := [.int (oI (σ (21 + t3) 5))]) (rest := []) (ct_X8_worstWithout l G τ hc5) mi_X8_worstWithout tw_739 mv_X8_worstWithout (rvX8 S (d := t3) (by omega)) ⟨rfl, rfl⟩ ⟨Nat.le_of_ble_eq_true rfl, Nat.le_of_ble_eq_true rfl⟩ ⟨Nat.zero_le _, Nat.zero_le _⟩ rfl hl.1 rfl (Nat.le_of_ble_eq_true rfl) dX9_second_19 (fun H locs S => ?_)
    cases hf
    exact hend _ _ _ _ S dX9_second_22
set_option maxRecDepth 100000 in
set_option maxHeartbeats 4000000 in
theorem b_X9_tightest_b76 (C : Cx p s m args c RX9 cX9_tightest 8) {q : Int} {k11 : Int → Int → Int → Int → Option (Int)} (hend : EndR p l e (rmk 1 21) s m args below meth c Q G true τ cX9_tightest .ireturn [.int (oI q)] σ) (hk11 : ∀ {H : Heap} {locs : List Loc} {ls : Array Slot} (v1 : Int) (v2 : Int) (v4 : Int) (v6 : Int), St G true τ σ s H locs → lv_has ls 8 [(0, .ref (G.1 0)), (1, .int (oI v1)), (2, .long (oL v2)), (4, .long (oL v4)), (6, .int (oI v6))] → k11 v1 v2 v4 v6 = some q → W p l e (rmk 1 21) s m args below meth c H locs 0 0 Q (F0 m 11 ls [])) {H : Heap} {locs : List Loc} {ls : Array Slot} (v1 : Int) (v2 : Int) (v4 : Int) (v6 : Int) (S : St G true τ σ s H locs) (hl : lv_has ls 8 [(0, .ref (G.1 0)), (1, .int (oI v1)), (2, .long (oL v2)), (4, .long (oL v4)), (6, .int (oI v6))]) (hf : f_X9_tightest_b76 σ k11 v1 v2 v4 v6 = some q) : W p l e (rmk 1 21) s m args below meth c H locs 0 0 Q (F0 m 76 ls []) := by
  unfold f_X9_tightest_b76 at hf
  refine r_iinc C dX9_tightest_76 hl (k := 4) rfl (by decide) (lv' := [(6, .int (oI (v6 + 1))), (0, .ref (G.1 0)), (1, .int (oI v1)), (2, .long (oL v2)), (4, .long (oL v4))]) rfl (fun ls hl => ?_)
  refine lv_goto C.1 C.2.1 (tgt := 11) dX9_tightest_79 (by decide) ?_
  exact hk11 v1 v2 v4 (v6 + 1) S (lv_sub hl [1, 2, 3, 4, 0] rfl) hf
set_option maxRecDepth 100000 in
set_option maxHeartbeats 4000000 in
theorem b_X9_tightest_b58 (C : Cx p s m args c RX9 cX9_tightest 8) {q : Int} {k11 : Int → Int → Int → Int → Option (Int)} (hend : EndR p l e (rmk 1 21) s m args below meth c Q G true τ cX9_tightest .ireturn [.int (oI q)] σ) (hk11 : ∀ {H : Heap} {locs : List Loc} {ls : Array Slot} (v1 : Int) (v2 : Int) (v4 : Int) (v6 : Int), St G true τ σ s H locs → lv_has ls 8 [(0, .ref (G.1 0)), (1, .int (oI v1)), (2, .long (oL v2)), (4, .long (oL v4)), (6, .int (oI v6))] → k11 v1 v2 v4 v6 = some q → W p l e (rmk 1 21) s m args below meth c H locs 0 0 Q (F0 m 11 ls [])) {H : Heap} {locs : List Loc} {ls : Array Slot} (v6 : Int) (t7 : Nat) (ht7 : t7 < 6) (S : St G true τ σ s H locs) (hl : lv_has ls 8 [(0, .ref (G.1 0)), (6, .int (oI v6)), (7, .ref (G.1 (21 + t7)))]) (hf : f_X9_tightest_b58 σ k11 v6 t7 = some q) : W p l e (rmk 1 21) s m args below meth c H locs 0 0 Q (F0 m 58 ls []) := by
  unfold f_X9_tightest_b58 at hf
  refine lv_iload C.1 C.2.1 dX9_tightest_58 (lv_at hl 1 rfl) ?_
  refine lv_istore_n C.1 C.2.1 dX9_tightest_60 rfl hl (by decide) (lv' := [(1, .int (oI v6)), (0, .ref (G.1 0)), (6, .int (oI v6)), (7, .ref (G.1 (21 + t7)))]) rfl (fun ls hl => ?_)
  refine lv_aload C.1 C.2.1 dX9_tightest_61 (lv_at hl 3 rfl) ?_
  refine g8_worstSums C (d := t7) S (by omega) tw_159 dX9_tightest_63 ?_
  refine r_i2l C dX9_tightest_66 ?_
  refine lv_lstore_n C.1 C.2.1 dX9_tightest_67 rfl hl (by decide) (lv' := [(2, .long (oL (w32 (σ (21 + t7) 6)))), (1, .int (oI v6)), (0, .ref (G.1 0)), (6, .int (oI v6)), (7, .ref (G.1 (21 + t7)))]) rfl (fun ls hl => ?_)
  refine lv_aload C.1 C.2.1 dX9_tightest_68 (lv_at hl 4 rfl) ?_
  refine g8_limit C (d := t7) S (by omega) tw_155 dX9_tightest_70 ?_
  refine r_i2l C dX9_tightest_73 ?_
  refine lv_lstore C.1 C.2.1 dX9_tightest_74 hl (by decide) (lv' := [(4, .long (oL (w32 (σ (21 + t7) 4)))), (2, .long (oL (w32 (σ (21 + t7) 6)))), (1, .int (oI v6)), (0, .ref (G.1 0)), (6, .int (oI v6)), (7, .ref (G.1 (21 + t7)))]) rfl (fun ls hl => ?_)
  exact b_X9_tightest_b76 C hend hk11 v6 (w32 (σ (21 + t7) 6)) (w32 (σ (21 + t7) 4)) v6 S (lv_sub hl [3, 2, 1, 0, 4] rfl) hf
set_option maxRecDepth 100000 in
set_option maxHeartbeats 4000000 in
theorem b_X9_tightest_b11 (C : Cx p s m args c RX9 cX9_tightest 8) {q : Int} (hend : EndR p l e (rmk 1 21) s m args below meth c Q G true τ cX9_tightest .ireturn [.int (oI q)] σ) : ∀ (n : Nat) {H : Heap} {locs : List Loc} {ls : Array Slot} (v1 : Int) (v2 : Int) (v4 : Int) (v6 : Int) (S : St G true τ σ s H locs) (hl : lv_has ls 8 [(0, .ref (G.1 0)), (1, .int (oI v1)), (2, .long (oL v2)), (4, .long (oL v4)), (6, .int (oI v6))]) (hf : f_X9_tightest_b11 σ n v1 v2 v4 v6 = some q), W p l e (rmk 1 21) s m args below meth c H locs 0 0 Q (F0 m 11 ls []) := by
  intro n
  induction n with
  | zero => intro H locs ls v1 v2 v4 v6 S hl hf; cases hf
  | succ n ih =>
    intro H locs ls v1 v2 v4 v6 S hl hf
    have hk11 := @ih
    rw [f_X9_tightest_b11] at hf
    refine lv_iload C.1 C.2.1 dX9_tightest_11 (lv_at hl 4 rfl) ?_
    refine lv_aload_n C.1 C.2.1 dX9_tightest_13 rfl (lv_at hl 0 rfl) ?_
    refine g9_treatyCount C S tw_284 dX9_tightest_14 ?_
    refine r_icmp_ge C rfl rfl (tgt := 82) dX9_tightest_17 (by decide) (fun h6 => ?_) (fun h6 => ?_)
    · replace hf := if_t hf h6
      refine lv_aload_n C.1 C.2.1 dX9_tightest_20 rfl (lv_at hl 0 rfl) ?_
      refine lv_iload C.1 C.2.1 dX9_tightest_21 (lv_at hl 4 rfl) ?_
      obtain ⟨q1, hc2, hf⟩ := bd_o hf
      refine r_callVv C S (As := [.int (oI v6)]) (rest := []) (ct_X9_treatyAt l G τ hc2) mi_X9_treatyAt tw_528 mv_X9_treatyAt (rvX9 S) ⟨rfl, rfl⟩ ⟨Nat.le_of_ble_eq_true rfl, Nat.le_of_ble_eq_true rfl⟩ ⟨Nat.zero_le _, Nat.zero_le _⟩ rfl hl.1 rfl (Nat.le_of_ble_eq_true rfl) dX9_tightest_23 (fun H locs S => ?_)
      rcases q1 with _ | t3
      · replace hf := oT_n hf
        refine lv_astoreN C.1 C.2.1 dX9_tightest_26 hl (by decide) (lv' := [(7, .null), (0, .ref (G.1 0)), (1, .int (oI v1)), (2, .long (oL v2)), (4, .long (oL v4)), (6, .int (oI v6))]) rfl (fun ls hl => ?_)
        refine lv_aloadN C.1 C.2.1 dX9_tightest_28 (lv_at hl 0 rfl) ?_
        refine lv_ifnullN C.1 C.2.1 (tgt := 76) dX9_tightest_30 (by decide) ?_
        exact b_X9_tightest_b76 C hend hk11 v1 v2 v4 v6 S (lv_sub hl [1, 2, 3, 4, 5] rfl) hf
      · obtain ⟨ht3, hf⟩ := oT_s hf
        refine lv_astore C.1 C.2.1 dX9_tightest_26 hl (by decide) (lv' := [(7, .ref (G.1 (21 + t3))), (0, .ref (G.1 0)), (1, .int (oI v1)), (2, .long (oL v2)), (4, .long (oL v4)), (6, .int (oI v6))]) rfl (fun ls hl => ?_)
        refine lv_aload C.1 C.2.1 dX9_tightest_28 (lv_at hl 0 rfl) ?_
        refine lv_ifnull C.1 C.2.1 dX9_tightest_30 ?_
        refine lv_iload_n C.1 C.2.1 dX9_tightest_33 rfl (lv_at hl 2 rfl) ?_
        refine r_if_lt C rfl (tgt := 58) dX9_tightest_34 (by decide) (fun h5 => ?_) (fun h5 => ?_)
        · replace hf := if_t hf h5
          exact b_X9_tightest_b58 C hend hk11 v6 t3 (by omega) S (lv_sub hl [1, 5, 0] rfl) hf
        · replace hf := if_f hf h5
          refine lv_aload C.1 C.2.1 dX9_tightest_37 (lv_at hl 0 rfl) ?_
          refine g8_worstSums C (d := t3) S (by omega) tw_159 dX9_tightest_39 ?_
          refine r_i2l C dX9_tightest_42 ?_
          refine lv_lload C.1 C.2.1 dX9_tightest_43 (lv_at hl 4 rfl) ?_
          refine r_lmul C dX9_tightest_45 ?_
          refine lv_lload_n C.1 C.2.1 dX9_tightest_46 rfl (lv_at hl 3 rfl) ?_
          refine lv_aload C.1 C.2.1 dX9_tightest_47 (lv_at hl 0 rfl) ?_
          refine g8_limit C (d := t3) S (by omega) tw_155 dX9_tightest_49 ?_
          refine r_i2l C dX9_tightest_52 ?_
          refine r_lmul C dX9_tightest_53 ?_
          refine r_lcmp_le C rfl rfl (tgt := 76) dX9_tightest_54 dX9_tightest_55 (by decide) (fun h4 => ?_) (fun h4 => ?_)
          · replace hf := if_t hf h4
            exact b_X9_tightest_b76 C hend hk11 v1 v2 v4 v6 S (lv_sub hl [1, 2, 3, 4, 5] rfl) hf
          · replace hf := if_f hf h4
            exact b_X9_tightest_b58 C hend hk11 v6 t3 (by omega) S (lv_sub hl [1, 5, 0] rfl) hf
    · replace hf := if_f hf h6
      refine lv_iload_n C.1 C.2.1 dX9_tightest_82 rfl (lv_at hl 1 rfl) ?_
      cases hf
      exact hend _ _ _ _ S dX9_tightest_83
set_option maxRecDepth 100000 in
set_option maxHeartbeats 4000000 in
theorem ct_X9_tightest (l : Launch) (G : Gd) (τ : Sg) {σ : Sg} {q : Int} (hf : f_X9_tightest σ = some q) : Ctr l yX9_tightest cX9_tightest 8 (some .int) (rmk 1 21) G true τ [.ref (G.1 0)] σ σ (some (.int (oI q))) := by
  unfold f_X9_tightest at hf
  refine CtrI.of (own := RX9) (plainFor_of_name (by decide)) (Nat.le_of_ble_eq_true rfl) rfl (fun p e s m below meth c Q ls C hl S hend => ?_)
  have hl : lv_has ls 8 [(0, .ref (G.1 0))] := hl
  refine r_bipush C dX9_tightest_0 (by decide) ?_
  refine lv_istore_n C.1 C.2.1 dX9_tightest_2 rfl hl (by decide) (lv' := [(1, .int (oI ((-2)))), (0, .ref (G.1 0))]) rfl (fun ls hl => ?_)
  refine r_lconst C (z := 0) dX9_tightest_3 (by decide) ?_
  refine lv_lstore_n C.1 C.2.1 dX9_tightest_4 rfl hl (by decide) (lv' := [(2, .long (oL 0)), (1, .int (oI ((-2)))), (0, .ref (G.1 0))]) rfl (fun ls hl => ?_)
  refine r_lconst C (z := 1) dX9_tightest_5 (by decide) ?_
  refine lv_lstore C.1 C.2.1 dX9_tightest_6 hl (by decide) (lv' := [(4, .long (oL 1)), (2, .long (oL 0)), (1, .int (oI ((-2)))), (0, .ref (G.1 0))]) rfl (fun ls hl => ?_)
  refine r_iconst C dX9_tightest_8 ?_
  refine lv_istore C.1 C.2.1 dX9_tightest_9 hl (by decide) (lv' := [(6, .int (oI 0)), (4, .long (oL 1)), (2, .long (oL 0)), (1, .int (oI ((-2)))), (0, .ref (G.1 0))]) rfl (fun ls hl => ?_)
  exact b_X9_tightest_b11 C hend FUEL ((-2)) 0 1 0 S (lv_sub hl [4, 3, 2, 1, 0] rfl) hf
set_option maxRecDepth 100000 in
set_option maxHeartbeats 4000000 in
theorem b_X9_relief_b81 (C : Cx p s m args c RX9 cX9_relief 8) {q : Int} {k32 : Int → Nat → Int → Int → Int → Option (Int)} (hend : EndR p l e (rmk 3 71) s m args below meth c Q G true τ cX9_relief .ireturn [.int (oI q)] σ) (hk32 : ∀ {H : Heap} {locs : List Loc} {ls : Array Slot} (v2 : Int) (t3 : Nat) (v4 : Int) (v5 : Int) (v6 : Int), t3 < 6 → St G true τ σ s H locs → lv_has ls 8 [(2, .int (oI v2)), (3, .ref (G.1 (21 + t3))), (4, .int (oI v4)), (5, .int (oI v5)), (6, .int (oI v6))] → k32 v2 t3 v4 v5 v6 = some q → W p l e (rmk 3 71) s m args below meth c H locs 0 0 Q (F0 m 32 ls [])) {H : Heap} {locs : List Loc} {ls : Array Slot} (v2 : Int) (t3 : Nat) (v4 : Int) (v5 : Int) (v6 : Int) (ht3 : t3 < 6) (S : St G true τ σ s H locs) (hl : lv_has ls 8 [(2, .int (oI v2)), (3, .ref (G.1 (21 + t3))), (4, .int (oI v4)), (5, .int (oI v5)), (6, .int (oI v6))]) (hf : f_X9_relief_b81 σ k32 v2 t3 v4 v5 v6 = some q) : W p l e (rmk 3 71) s m args below meth c H locs 0 0 Q (F0 m 81 ls []) := by
  unfold f_X9_relief_b81 at hf
  refine r_iinc C dX9_relief_81 hl (k := 4) rfl (by decide) (lv' := [(6, .int (oI (v6 + 1))), (2, .int (oI v2)), (3, .ref (G.1 (21 + t3))), (4, .int (oI v4)), (5, .int (oI v5))]) rfl (fun ls hl => ?_)
  refine lv_goto C.1 C.2.1 (tgt := 32) dX9_relief_84 (by decide) ?_
  exact hk32 v2 t3 v4 v5 (v6 + 1) (by omega) S (lv_sub hl [1, 2, 3, 4, 0] rfl) hf
set_option maxRecDepth 100000 in
set_option maxHeartbeats 4000000 in
theorem b_X9_relief_b73 (C : Cx p s m args c RX9 cX9_relief 8) {q : Int} {k32 : Int → Nat → Int → Int → Int → Option (Int)} (hend : EndR p l e (rmk 3 71) s m args below meth c Q G true τ cX9_relief .ireturn [.int (oI q)] σ) (hk32 : ∀ {H : Heap} {locs : List Loc} {ls : Array Slot} (v2 : Int) (t3 : Nat) (v4 : Int) (v5 : Int) (v6 : Int), t3 < 6 → St G true τ σ s H locs → lv_has ls 8 [(2, .int (oI v2)), (3, .ref (G.1 (21 + t3))), (4, .int (oI v4)), (5, .int (oI v5)), (6, .int (oI v6))] → k32 v2 t3 v4 v5 v6 = some q → W p l e (rmk 3 71) s m args below meth c H locs 0 0 Q (F0 m 32 ls [])) {H : Heap} {locs : List Loc} {ls : Array Slot} (v2 : Int) (t3 : Nat) (v6 : Int) (v7 : Int) (ht3 : t3 < 6) (S : St G true τ σ s H locs) (hl : lv_has ls 8 [(2, .int (oI v2)), (3, .ref (G.1 (21 + t3))), (6, .int (oI v6)), (7, .int (oI v7))]) (hf : f_X9_relief_b73 σ k32 v2 t3 v6 v7 = some q) : W p l e (rmk 3 71) s m args below meth c H locs 0 0 Q (F0 m 73 ls []) := by
  unfold f_X9_relief_b73 at hf
  refine lv_iload C.1 C.2.1 dX9_relief_73 (lv_at hl 2 rfl) ?_
  refine lv_istore C.1 C.2.1 dX9_relief_75 hl (by decide) (lv' := [(4, .int (oI v6)), (2, .int (oI v2)), (3, .ref (G.1 (21 + t3))), (6, .int (oI v6)), (7, .int (oI v7))]) rfl (fun ls hl => ?_)
  refine lv_iload C.1 C.2.1 dX9_relief_77 (lv_at hl 4 rfl) ?_
  refine lv_istore C.1 C.2.1 dX9_relief_79 hl (by decide) (lv' := [(5, .int (oI v7)), (4, .int (oI v6)), (2, .int (oI v2)), (3, .ref (G.1 (21 + t3))), (6, .int (oI v6)), (7, .int (oI v7))]) rfl (fun ls hl => ?_)
  exact b_X9_relief_b81 C hend hk32 v2 t3 v6 v7 v6 (by omega) S (lv_sub hl [2, 3, 1, 0, 4] rfl) hf
set_option maxRecDepth 100000 in
set_option maxHeartbeats 4000000 in
theorem b_X9_relief_b87 (C : Cx p s m args c RX9 cX9_relief 8) {q : Int} (hend : EndR p l e (rmk 3 71) s m args below meth c Q G true τ cX9_relief .ireturn [.int (oI q)] σ) {H : Heap} {locs : List Loc} {ls : Array Slot} (v2 : Int) (v4 : Int) (v5 : Int) (S : St G true τ σ s H locs) (hl : lv_has ls 8 [(2, .int (oI v2)), (4, .int (oI v4)), (5, .int (oI v5))]) (hf : f_X9_relief_b87 σ v2 v4 v5 = some q) : W p l e (rmk 3 71) s m args below meth c H locs 0 0 Q (F0 m 87 ls []) := by
  unfold f_X9_relief_b87 at hf
  refine lv_iload_n C.1 C.2.1 dX9_relief_87 rfl (lv_at hl 0 rfl) ?_
  refine r_if_ne C rfl (tgt := 96) dX9_relief_88 (by decide) (fun h11 => ?_) (fun h11 => ?_)
  · replace hf := if_t hf h11
    refine lv_iload C.1 C.2.1 dX9_relief_91 (lv_at hl 1 rfl) ?_
    refine lv_goto C.1 C.2.1 (tgt := 98) dX9_relief_93 (by decide) ?_
    cases hf
    exact hend _ _ _ _ S dX9_relief_98
  · replace hf := if_f hf h11
    refine lv_iload C.1 C.2.1 dX9_relief_96 (lv_at hl 2 rfl) ?_
    cases hf
    exact hend _ _ _ _ S dX9_relief_98
set_option maxRecDepth 100000 in
set_option maxHeartbeats 4000000 in
theorem b_X9_relief_b32 (C : Cx p s m args c RX9 cX9_relief 8) {q : Int} (hend : EndR p l e (rmk 3 71) s m args below meth c Q G true τ cX9_relief .ireturn [.int (oI q)] σ) : ∀ (n : Nat) {H : Heap} {locs : List Loc} {ls : Array Slot} (v2 : Int) (t3 : Nat) (v4 : Int) (v5 : Int) (v6 : Int) (ht3 : t3 < 6) (S : St G true τ σ s H locs) (hl : lv_has ls 8 [(2, .int (oI v2)), (3, .ref (G.1 (21 + t3))), (4, .int (oI v4)), (5, .int (oI v5)), (6, .int (oI v6))]) (hf : f_X9_relief_b32 σ n v2 t3 v4 v5 v6 = some q), W p l e (rmk 3 71) s m args below meth c H locs 0 0 Q (F0 m 32 ls []) := by
  intro n
  induction n with
  | zero => intro H locs ls v2 t3 v4 v5 v6 ht3 S hl hf; cases hf
  | succ n ih =>
    intro H locs ls v2 t3 v4 v5 v6 ht3 S hl hf
    have hk32 := @ih
    rw [f_X9_relief_b32] at hf
    refine lv_iload C.1 C.2.1 dX9_relief_32 (lv_at hl 4 rfl) ?_
    refine r_bipush C dX9_relief_34 (by decide) ?_
    refine r_icmp_ge C rfl (show w32 24 = 24 by decide) (tgt := 87) dX9_relief_36 (by decide) (fun h12 => ?_) (fun h12 => ?_)
    · replace hf := if_t hf h12
      refine lv_aload_n C.1 C.2.1 dX9_relief_39 rfl (lv_at hl 1 rfl) ?_
      refine g8_worstSet C (d := t3) S (by omega) tw_157 dX9_relief_40 ?_
      refine lv_iload C.1 C.2.1 dX9_relief_43 (lv_at hl 4 rfl) ?_
      obtain ⟨q4, hc5, hf⟩ := bd_o hf
      refine r_callSv C S (As := [.int (oI (σ (21 + t3) 5)), .int (oI v6)]) (rest := []) (ct_X9_contains l G τ hc5) mi_X9_contains tw_661 ms_X9_contains ⟨rfl, rfl⟩ ⟨Nat.le_of_ble_eq_true rfl, Nat.le_of_ble_eq_true rfl⟩ ⟨Nat.zero_le _, Nat.zero_le _⟩ rfl hl.1 rfl (Nat.le_of_ble_eq_true rfl) dX9_relief_45 (fun H locs S => ?_)
      refine r_if_eq C rfl (tgt := 81) dX9_relief_48 (by decide) (fun h10 => ?_) (fun h10 => ?_)
      · replace hf := if_t hf h10
        exact b_X9_relief_b81 C hend hk32 v2 t3 v4 v5 v6 (by omega) S (lv_sub hl [0, 1, 2, 3, 4] rfl) hf
      · replace hf := if_f hf h10
        refine lv_aload_n C.1 C.2.1 dX9_relief_51 rfl (lv_at hl 1 rfl) ?_
        refine r_iconst C dX9_relief_52 ?_
        refine lv_iload C.1 C.2.1 dX9_relief_53 (lv_at hl 4 rfl) ?_
        refine r_ishl C (y1 := (u32 v6 % 32)) rfl dX9_relief_55 ?_
        obtain ⟨q6, hc7, hf⟩ := bd_o hf
        refine r_callVv C S (As := [.int (oI (1 * ((2 ^ (u32 v6 % 32) : Nat) : Int)))]) (rest := []) (ct_X8_worstWithout l G τ hc7) mi_X8_worstWithout tw_739 mv_X8_worstWithout (rvX8 S (d := t3) (by omega)) ⟨rfl, rfl⟩ ⟨Nat.le_of_ble_eq_true rfl, Nat.le_of_ble_eq_true rfl⟩ ⟨Nat.zero_le _, Nat.zero_le _⟩ rfl hl.1 rfl (Nat.le_of_ble_eq_true rfl) dX9_relief_56 (fun H locs S => ?_)
        refine lv_istore C.1 C.2.1 dX9_relief_59 hl (by decide) (lv' := [(7, .int (oI q6)), (2, .int (oI v2)), (3, .ref (G.1 (21 + t3))), (4, .int (oI v4)), (5, .int (oI v5)), (6, .int (oI v6))]) rfl (fun ls hl => ?_)
        refine lv_iload C.1 C.2.1 dX9_relief_61 (lv_at hl 3 rfl) ?_
        refine r_if_lt C rfl (tgt := 73) dX9_relief_63 (by decide) (fun h9 => ?_) (fun h9 => ?_)
        · replace hf := if_t hf h9
          exact b_X9_relief_b73 C hend hk32 v2 t3 v6 q6 (by omega) S (lv_sub hl [1, 2, 5, 0] rfl) hf
        · replace hf := if_f hf h9
          refine lv_iload C.1 C.2.1 dX9_relief_66 (lv_at hl 0 rfl) ?_
          refine lv_iload C.1 C.2.1 dX9_relief_68 (lv_at hl 4 rfl) ?_
          refine r_icmp_ge C rfl rfl (tgt := 81) dX9_relief_70 (by decide) (fun h8 => ?_) (fun h8 => ?_)
          · replace hf := if_t hf h8
            exact b_X9_relief_b73 C hend hk32 v2 t3 v6 q6 (by omega) S (lv_sub hl [1, 2, 5, 0] rfl) hf
          · replace hf := if_f hf h8
            exact b_X9_relief_b81 C hend hk32 v2 t3 v4 v5 v6 (by omega) S (lv_sub hl [1, 2, 3, 4, 5] rfl) hf
    · replace hf := if_f hf h12
      exact b_X9_relief_b87 C hend v2 v4 v5 S (lv_sub hl [0, 2, 3] rfl) hf
set_option maxRecDepth 100000 in
set_option maxHeartbeats 4000000 in
theorem ct_X9_relief (l : Launch) (G : Gd) (τ : Sg) {v1 : Int} {v2 : Int} {σ : Sg} {q : Int} (hf : f_X9_relief v1 v2 σ = some q) : Ctr l yX9_relief cX9_relief 8 (some .int) (rmk 3 71) G true τ [.ref (G.1 0), .int (oI v1), .int (oI v2)] σ σ (some (.int (oI q))) := by
  unfold f_X9_relief at hf
  refine CtrI.of (own := RX9) (plainFor_of_name (by decide)) (Nat.le_of_ble_eq_true rfl) rfl (fun p e s m below meth c Q ls C hl S hend => ?_)
  have hl : lv_has ls 8 [(0, .ref (G.1 0)), (1, .int (oI v1)), (2, .int (oI v2))] := hl
  refine lv_aload_n C.1 C.2.1 dX9_relief_0 rfl (lv_at hl 0 rfl) ?_
  refine lv_iload_n C.1 C.2.1 dX9_relief_1 rfl (lv_at hl 1 rfl) ?_
  obtain ⟨q1, hc2, hf⟩ := bd_o hf
  refine r_callVv C S (As := [.int (oI v1)]) (rest := []) (ct_X9_treatyAt l G τ hc2) mi_X9_treatyAt tw_528 mv_X9_treatyAt (rvX9 S) ⟨rfl, rfl⟩ ⟨Nat.le_of_ble_eq_true rfl, Nat.le_of_ble_eq_true rfl⟩ ⟨Nat.zero_le _, Nat.zero_le _⟩ rfl hl.1 rfl (Nat.le_of_ble_eq_true rfl) dX9_relief_2 (fun H locs S => ?_)
  rcases q1 with _ | t3
  · replace hf := oT_n hf
    refine lv_astore_nN C.1 C.2.1 dX9_relief_5 rfl hl (by decide) (lv' := [(3, .null), (0, .ref (G.1 0)), (1, .int (oI v1)), (2, .int (oI v2))]) rfl (fun ls hl => ?_)
    refine lv_aload_nN C.1 C.2.1 dX9_relief_6 rfl (lv_at hl 0 rfl) ?_
    refine lv_ifnullN C.1 C.2.1 (tgt := 19) dX9_relief_7 (by decide) ?_
    refine r_iconst C dX9_relief_19 ?_
    cases hf
    exact hend _ _ _ _ S dX9_relief_20
  · obtain ⟨ht3, hf⟩ := oT_s hf
    refine lv_astore_n C.1 C.2.1 dX9_relief_5 rfl hl (by decide) (lv' := [(3, .ref (G.1 (21 + t3))), (0, .ref (G.1 0)), (1, .int (oI v1)), (2, .int (oI v2))]) rfl (fun ls hl => ?_)
    refine lv_aload_n C.1 C.2.1 dX9_relief_6 rfl (lv_at hl 0 rfl) ?_
    refine lv_ifnull C.1 C.2.1 dX9_relief_7 ?_
    refine lv_iload_n C.1 C.2.1 dX9_relief_10 rfl (lv_at hl 3 rfl) ?_
    refine r_if_lt C rfl (tgt := 19) dX9_relief_11 (by decide) (fun h14 => ?_) (fun h14 => ?_)
    · replace hf := if_t hf h14
      refine r_iconst C dX9_relief_19 ?_
      cases hf
      exact hend _ _ _ _ S dX9_relief_20
    · replace hf := if_f hf h14
      refine lv_iload_n C.1 C.2.1 dX9_relief_14 rfl (lv_at hl 3 rfl) ?_
      refine r_iconst C dX9_relief_15 ?_
      refine r_icmp_le C rfl (show w32 1 = 1 by decide) (tgt := 21) dX9_relief_16 (by decide) (fun h13 => ?_) (fun h13 => ?_)
      · replace hf := if_t hf h13
        refine r_bipush C dX9_relief_21 (by decide) ?_
        refine lv_istore C.1 C.2.1 dX9_relief_23 hl (by decide) (lv' := [(4, .int (oI ((-2)))), (3, .ref (G.1 (21 + t3))), (0, .ref (G.1 0)), (1, .int (oI v1)), (2, .int (oI v2))]) rfl (fun ls hl => ?_)
        refine r_bipush C dX9_relief_25 (by decide) ?_
        refine lv_istore C.1 C.2.1 dX9_relief_27 hl (by decide) (lv' := [(5, .int (oI ((-2)))), (4, .int (oI ((-2)))), (3, .ref (G.1 (21 + t3))), (0, .ref (G.1 0)), (1, .int (oI v1)), (2, .int (oI v2))]) rfl (fun ls hl => ?_)
        refine r_iconst C dX9_relief_29 ?_
        refine lv_istore C.1 C.2.1 dX9_relief_30 hl (by decide) (lv' := [(6, .int (oI 0)), (5, .int (oI ((-2)))), (4, .int (oI ((-2)))), (3, .ref (G.1 (21 + t3))), (0, .ref (G.1 0)), (1, .int (oI v1)), (2, .int (oI v2))]) rfl (fun ls hl => ?_)
        exact b_X9_relief_b32 C hend FUEL v2 t3 ((-2)) ((-2)) 0 (by omega) S (lv_sub hl [6, 3, 2, 1, 0] rfl) hf
      · replace hf := if_f hf h13
        refine r_iconst C dX9_relief_19 ?_
        cases hf
        exact hend _ _ _ _ S dX9_relief_20
set_option maxRecDepth 100000 in
set_option maxHeartbeats 4000000 in
theorem b_X2_hasMore_b2 (C : Cx p s m args c RX2 cX2_hasMore 4) {d : Nat} (hd : d < 7) {q : Int} (hend : (q = 0 ∨ q = 1) → EndR p l e (rmk 1 24) s m args below meth c Q G true τ cX2_hasMore .ireturn [.int (oI q)] σ) : ∀ (n : Nat) {H : Heap} {locs : List Loc} {ls : Array Slot} (v1 : Int) (v2 : Int) (v3 : Int) (S : St G true τ σ s H locs) (hl : lv_has ls 4 [(0, .ref (G.1 (27 + d))), (1, .int (oI v1)), (2, .int (oI v2)), (3, .int (oI v3))]) (hf : f_X2_hasMore_b2 d σ n v1 v2 v3 = some q), W p l e (rmk 1 24) s m args below meth c H locs 0 0 Q (F0 m 2 ls []) := by
  intro n
  induction n with
  | zero => intro H locs ls v1 v2 v3 S hl hf; cases hf
  | succ n ih =>
    intro H locs ls v1 v2 v3 S hl hf
    have hk2 := @ih
    rw [f_X2_hasMore_b2] at hf
    refine lv_iload_n C.1 C.2.1 dX2_hasMore_2 rfl (lv_at hl 3 rfl) ?_
    refine r_sipush C dX2_hasMore_3 (by decide) ?_
    refine r_icmp_ge C rfl (show w32 576 = 576 by decide) (tgt := 36) dX2_hasMore_6 (by decide) (fun h5 => ?_) (fun h5 => ?_)
    · replace hf := if_t hf h5
      refine lv_aload_n C.1 C.2.1 dX2_hasMore_9 rfl (lv_at hl 0 rfl) ?_
      refine g2_book C (d := d) S (by omega) tw_126 dX2_hasMore_10 ?_
      refine lv_aload_n C.1 C.2.1 dX2_hasMore_13 rfl (lv_at hl 0 rfl) ?_
      refine g2_sets C (d := d) S (by omega) tw_127 dX2_hasMore_14 ?_
      refine lv_iload_n C.1 C.2.1 dX2_hasMore_17 rfl (lv_at hl 3 rfl) ?_
      obtain ⟨hi1, hf⟩ := ck_o hf
      refine a_iald C S (ar_34 (d := d) (by omega)) hi1 dX2_hasMore_18 ?_
      refine lv_iload_n C.1 C.2.1 dX2_hasMore_19 rfl (lv_at hl 1 rfl) ?_
      refine r_iand C rfl rfl dX2_hasMore_20 ?_
      obtain ⟨q2, hc3, hf⟩ := bd_o hf
      refine r_callVv C S (As := [.int (oI ((((u32 (σ (34 + d) (v3).toNat)) &&& (u32 v1) : Nat) : Int)))]) (rest := []) (ct_X0_sums l G τ hc3) mi_X0_sums tw_519 mv_X0_sums (rvX0 S) ⟨rfl, rfl⟩ ⟨Nat.le_of_ble_eq_true rfl, Nat.le_of_ble_eq_true rfl⟩ ⟨Nat.zero_le _, Nat.zero_le _⟩ rfl hl.1 rfl (Nat.le_of_ble_eq_true rfl) dX2_hasMore_21 (fun H locs S => ?_)
      refine lv_iload_n C.1 C.2.1 dX2_hasMore_24 rfl (lv_at hl 2 rfl) ?_
      refine r_icmp_le C rfl rfl (tgt := 30) dX2_hasMore_25 (by decide) (fun h4 => ?_) (fun h4 => ?_)
      · replace hf := if_t hf h4
        refine r_iinc C dX2_hasMore_30 hl (k := 3) rfl (by decide) (lv' := [(3, .int (oI (v3 + 1))), (0, .ref (G.1 (27 + d))), (1, .int (oI v1)), (2, .int (oI v2))]) rfl (fun ls hl => ?_)
        refine lv_goto C.1 C.2.1 (tgt := 2) dX2_hasMore_33 (by decide) ?_
        exact hk2 v1 v2 (v3 + 1) S (lv_sub hl [1, 2, 3, 0] rfl) hf
      · replace hf := if_f hf h4
        refine r_iconst C dX2_hasMore_28 ?_
        cases hf
        exact hend (Or.inr rfl) _ _ _ _ S dX2_hasMore_29
    · replace hf := if_f hf h5
      refine r_iconst C dX2_hasMore_36 ?_
      cases hf
      exact hend (Or.inl rfl) _ _ _ _ S dX2_hasMore_37
set_option maxRecDepth 100000 in
set_option maxHeartbeats 4000000 in
theorem ct_X2_hasMore (l : Launch) (G : Gd) (τ : Sg) {d : Nat} {v1 : Int} {v2 : Int} {σ : Sg} {q : Int} (hf : f_X2_hasMore d v1 v2 σ = some q) : Ctr l yX2_hasMore cX2_hasMore 4 (some .boolean) (rmk 1 24) G true τ [.ref (G.1 (27 + d)), .int (oI v1), .int (oI v2)] σ σ (some (.int (oI q))) := by
  unfold f_X2_hasMore at hf
  obtain ⟨hd, hf⟩ := ck_o hf
  refine CtrZ.of (own := RX2) (plainFor_of_name (by decide)) (Nat.le_of_ble_eq_true rfl) rfl (fun p e s m below meth c Q ls C hl S hend => ?_)
  have hl : lv_has ls 4 [(0, .ref (G.1 (27 + d))), (1, .int (oI v1)), (2, .int (oI v2))] := hl
  refine r_iconst C dX2_hasMore_0 ?_
  refine lv_istore_n C.1 C.2.1 dX2_hasMore_1 rfl hl (by decide) (lv' := [(3, .int (oI 0)), (0, .ref (G.1 (27 + d))), (1, .int (oI v1)), (2, .int (oI v2))]) rfl (fun ls hl => ?_)
  exact b_X2_hasMore_b2 C hd hend FUEL v1 v2 0 S (lv_sub hl [1, 2, 3, 0] rfl) hf
set_option maxRecDepth 100000 in
set_option maxHeartbeats 4000000 in
theorem ct_X8_staysPassed (l : Launch) (G : Gd) (τ : Sg) {d : Nat} {v1 : Int} {σ : Sg} {q : Int} (hf : f_X8_staysPassed d v1 σ = some q) : Ctr l yX8_staysPassed cX8_staysPassed 2 (some .boolean) (rmk 2 47) G true τ [.ref (G.1 (21 + d)), .int (oI v1)] σ σ (some (.int (oI q))) := by
  unfold f_X8_staysPassed at hf
  obtain ⟨hd, hf⟩ := ck_o hf
  refine CtrZ.of (own := RX8) (plainFor_of_name (by decide)) (Nat.le_of_ble_eq_true rfl) rfl (fun p e s m below meth c Q ls C hl S hend => ?_)
  have hl : lv_has ls 2 [(0, .ref (G.1 (21 + d))), (1, .int (oI v1))] := hl
  refine lv_aload_n C.1 C.2.1 dX8_staysPassed_0 rfl (lv_at hl 0 rfl) ?_
  refine g8_discs C (d := d) S (by omega) tw_148 dX8_staysPassed_1 ?_
  refine r_ldc C tw_514 dX8_staysPassed_4 ?_
  refine lv_iload_n C.1 C.2.1 dX8_staysPassed_6 rfl (lv_at hl 1 rfl) ?_
  refine r_iconst C dX8_staysPassed_7 ?_
  refine r_ixor C rfl (show u32 (-1) = 4294967295 by decide) dX8_staysPassed_8 ?_
  refine r_iand C (show u32 16777215 = 16777215 by decide) (u32_nat (nb_xor (u32_lt _) (show 4294967295 < 4294967296 by decide))) dX8_staysPassed_9 ?_
  refine lv_aload_n C.1 C.2.1 dX8_staysPassed_10 rfl (lv_at hl 0 rfl) ?_
  refine g8_limit C (d := d) S (by omega) tw_154 dX8_staysPassed_11 ?_
  obtain ⟨q1, hc2, hf⟩ := bd_o hf
  refine r_callVv C S (As := [.int (oI (((16777215 &&& ((u32 v1) ^^^ 4294967295) : Nat) : Int))), .int (oI (σ (21 + d) 4))]) (rest := []) (ct_X2_hasMore l G τ hc2) mi_X2_hasMore tw_763 mv_X2_hasMore (rvX2 S (d := d) (by omega)) ⟨rfl, rfl⟩ ⟨Nat.le_of_ble_eq_true rfl, Nat.le_of_ble_eq_true rfl⟩ ⟨Nat.zero_le _, Nat.zero_le _⟩ rfl hl.1 rfl (Nat.le_of_ble_eq_true rfl) dX8_staysPassed_14 (fun H locs S => ?_)
  obtain ⟨hb3, hf⟩ := ck_o hf
  cases hf
  exact hend hb3 _ _ _ _ S dX8_staysPassed_17
set_option maxRecDepth 100000 in
set_option maxHeartbeats 4000000 in
theorem b_X8_isFreedWith_b38 (C : Cx p s m args c RX8 cX8_isFreedWith 3) {d : Nat} (hd : d < 6) {q : Int} {k2 : Int → Int → Option (Int)} (hend : (q = 0 ∨ q = 1) → EndR p l e (rmk 3 68) s m args below meth c Q G true τ cX8_isFreedWith .ireturn [.int (oI q)] σ) (hk2 : ∀ {H : Heap} {locs : List Loc} {ls : Array Slot} (v1 : Int) (v2 : Int), St G true τ σ s H locs → lv_has ls 3 [(0, .ref (G.1 (21 + d))), (1, .int (oI v1)), (2, .int (oI v2))] → k2 v1 v2 = some q → W p l e (rmk 3 68) s m args below meth c H locs 0 0 Q (F0 m 2 ls [])) {H : Heap} {locs : List Loc} {ls : Array Slot} (v1 : Int) (v2 : Int) (S : St G true τ σ s H locs) (hl : lv_has ls 3 [(0, .ref (G.1 (21 + d))), (1, .int (oI v1)), (2, .int (oI v2))]) (hf : f_X8_isFreedWith_b38 d σ k2 v1 v2 = some q) : W p l e (rmk 3 68) s m args below meth c H locs 0 0 Q (F0 m 38 ls []) := by
  unfold f_X8_isFreedWith_b38 at hf
  refine r_iinc C dX8_isFreedWith_38 hl (k := 2) rfl (by decide) (lv' := [(2, .int (oI (v2 + 1))), (0, .ref (G.1 (21 + d))), (1, .int (oI v1))]) rfl (fun ls hl => ?_)
  refine lv_goto C.1 C.2.1 (tgt := 2) dX8_isFreedWith_41 (by decide) ?_
  exact hk2 v1 (v2 + 1) S (lv_sub hl [1, 2, 0] rfl) hf
set_option maxRecDepth 100000 in
set_option maxHeartbeats 4000000 in
theorem b_X8_isFreedWith_b2 (C : Cx p s m args c RX8 cX8_isFreedWith 3) {d : Nat} (hd : d < 6) {q : Int} (hend : (q = 0 ∨ q = 1) → EndR p l e (rmk 3 68) s m args below meth c Q G true τ cX8_isFreedWith .ireturn [.int (oI q)] σ) : ∀ (n : Nat) {H : Heap} {locs : List Loc} {ls : Array Slot} (v1 : Int) (v2 : Int) (S : St G true τ σ s H locs) (hl : lv_has ls 3 [(0, .ref (G.1 (21 + d))), (1, .int (oI v1)), (2, .int (oI v2))]) (hf : f_X8_isFreedWith_b2 d σ n v1 v2 = some q), W p l e (rmk 3 68) s m args below meth c H locs 0 0 Q (F0 m 2 ls []) := by
  intro n
  induction n with
  | zero => intro H locs ls v1 v2 S hl hf; cases hf
  | succ n ih =>
    intro H locs ls v1 v2 S hl hf
    have hk2 := @ih
    rw [f_X8_isFreedWith_b2] at hf
    refine lv_iload_n C.1 C.2.1 dX8_isFreedWith_2 rfl (lv_at hl 2 rfl) ?_
    refine r_bipush C dX8_isFreedWith_3 (by decide) ?_
    refine r_icmp_ge C rfl (show w32 24 = 24 by decide) (tgt := 44) dX8_isFreedWith_5 (by decide) (fun h7 => ?_) (fun h7 => ?_)
    · replace hf := if_t hf h7
      refine lv_aload_n C.1 C.2.1 dX8_isFreedWith_8 rfl (lv_at hl 0 rfl) ?_
      refine g8_discs C (d := d) S (by omega) tw_148 dX8_isFreedWith_9 ?_
      refine g2_members C (d := d) S (by omega) tw_132 dX8_isFreedWith_12 ?_
      refine lv_iload_n C.1 C.2.1 dX8_isFreedWith_15 rfl (lv_at hl 2 rfl) ?_
      obtain ⟨q1, hc2, hf⟩ := bd_o hf
      refine r_callSNv C S (As := [.int (oI (σ (27 + d) 5)), .int (oI v2)]) (rest := []) (ct_X9_contains l G τ hc2) mi_X9_contains (nw_571 S.2.2.2) ms_X9_contains ⟨rfl, rfl⟩ ⟨Nat.le_of_ble_eq_true rfl, Nat.le_of_ble_eq_true rfl⟩ ⟨Nat.zero_le _, Nat.zero_le _⟩ rfl hl.1 rfl (Nat.le_of_ble_eq_true rfl) dX8_isFreedWith_16 (fun H locs S => ?_)
      refine r_if_eq C rfl (tgt := 38) dX8_isFreedWith_19 (by decide) (fun h6 => ?_) (fun h6 => ?_)
      · replace hf := if_t hf h6
        exact b_X8_isFreedWith_b38 C hd hend hk2 v1 v2 S (lv_sub hl [0, 1, 2] rfl) hf
      · replace hf := if_f hf h6
        refine lv_aload_n C.1 C.2.1 dX8_isFreedWith_22 rfl (lv_at hl 0 rfl) ?_
        refine r_iconst C dX8_isFreedWith_23 ?_
        refine lv_iload_n C.1 C.2.1 dX8_isFreedWith_24 rfl (lv_at hl 1 rfl) ?_
        refine r_ishl C (y1 := (u32 v1 % 32)) rfl dX8_isFreedWith_25 ?_
        refine r_iconst C dX8_isFreedWith_26 ?_
        refine lv_iload_n C.1 C.2.1 dX8_isFreedWith_27 rfl (lv_at hl 2 rfl) ?_
        refine r_ishl C (y1 := (u32 v2 % 32)) rfl dX8_isFreedWith_28 ?_
        refine r_ior C rfl rfl dX8_isFreedWith_29 ?_
        obtain ⟨q3, hc4, hf⟩ := bd_o hf
        refine r_callVv C S (As := [.int (oI ((((u32 (1 * ((2 ^ (u32 v1 % 32) : Nat) : Int))) ||| (u32 (1 * ((2 ^ (u32 v2 % 32) : Nat) : Int))) : Nat) : Int)))]) (rest := []) (ct_X8_staysPassed l G τ hc4) mi_X8_staysPassed tw_771 mv_X8_staysPassed (rvX8 S (d := d) (by omega)) ⟨rfl, rfl⟩ ⟨Nat.le_of_ble_eq_true rfl, Nat.le_of_ble_eq_true rfl⟩ ⟨Nat.zero_le _, Nat.zero_le _⟩ rfl hl.1 rfl (Nat.le_of_ble_eq_true rfl) dX8_isFreedWith_30 (fun H locs S => ?_)
        refine r_if_ne C rfl (tgt := 38) dX8_isFreedWith_33 (by decide) (fun h5 => ?_) (fun h5 => ?_)
        · replace hf := if_t hf h5
          refine r_iconst C dX8_isFreedWith_36 ?_
          cases hf
          exact hend (Or.inr rfl) _ _ _ _ S dX8_isFreedWith_37
        · replace hf := if_f hf h5
          exact b_X8_isFreedWith_b38 C hd hend hk2 v1 v2 S (lv_sub hl [0, 1, 2] rfl) hf
    · replace hf := if_f hf h7
      refine r_iconst C dX8_isFreedWith_44 ?_
      cases hf
      exact hend (Or.inl rfl) _ _ _ _ S dX8_isFreedWith_45
set_option maxRecDepth 100000 in
set_option maxHeartbeats 4000000 in
theorem ct_X8_isFreedWith (l : Launch) (G : Gd) (τ : Sg) {d : Nat} {v1 : Int} {σ : Sg} {q : Int} (hf : f_X8_isFreedWith d v1 σ = some q) : Ctr l yX8_isFreedWith cX8_isFreedWith 3 (some .boolean) (rmk 3 68) G true τ [.ref (G.1 (21 + d)), .int (oI v1)] σ σ (some (.int (oI q))) := by
  unfold f_X8_isFreedWith at hf
  obtain ⟨hd, hf⟩ := ck_o hf
  refine CtrZ.of (own := RX8) (plainFor_of_name (by decide)) (Nat.le_of_ble_eq_true rfl) rfl (fun p e s m below meth c Q ls C hl S hend => ?_)
  have hl : lv_has ls 3 [(0, .ref (G.1 (21 + d))), (1, .int (oI v1))] := hl
  refine r_iconst C dX8_isFreedWith_0 ?_
  refine lv_istore_n C.1 C.2.1 dX8_isFreedWith_1 rfl hl (by decide) (lv' := [(2, .int (oI 0)), (0, .ref (G.1 (21 + d))), (1, .int (oI v1))]) rfl (fun ls hl => ?_)
  exact b_X8_isFreedWith_b2 C hd hend FUEL v1 0 S (lv_sub hl [1, 2, 0] rfl) hf
set_option maxRecDepth 100000 in
set_option maxHeartbeats 4000000 in
theorem b_X9_fewest_b52 (C : Cx p s m args c RX9 cX9_fewest 4) {q : Int} {k23 : Nat → Int → Option (Int)} (hend : EndR p l e (rmk 4 90) s m args below meth c Q G true τ cX9_fewest .ireturn [.int (oI q)] σ) (hk23 : ∀ {H : Heap} {locs : List Loc} {ls : Array Slot} (t2 : Nat) (v3 : Int), t2 < 6 → St G true τ σ s H locs → lv_has ls 4 [(2, .ref (G.1 (21 + t2))), (3, .int (oI v3))] → k23 t2 v3 = some q → W p l e (rmk 4 90) s m args below meth c H locs 0 0 Q (F0 m 23 ls [])) {H : Heap} {locs : List Loc} {ls : Array Slot} (t2 : Nat) (v3 : Int) (ht2 : t2 < 6) (S : St G true τ σ s H locs) (hl : lv_has ls 4 [(2, .ref (G.1 (21 + t2))), (3, .int (oI v3))]) (hf : f_X9_fewest_b52 σ k23 t2 v3 = some q) : W p l e (rmk 4 90) s m args below meth c H locs 0 0 Q (F0 m 52 ls []) := by
  unfold f_X9_fewest_b52 at hf
  refine r_iinc C dX9_fewest_52 hl (k := 1) rfl (by decide) (lv' := [(3, .int (oI (v3 + 1))), (2, .ref (G.1 (21 + t2)))]) rfl (fun ls hl => ?_)
  refine lv_goto C.1 C.2.1 (tgt := 23) dX9_fewest_55 (by decide) ?_
  exact hk23 t2 (v3 + 1) (by omega) S (lv_sub hl [1, 0] rfl) hf
set_option maxRecDepth 100000 in
set_option maxHeartbeats 4000000 in
theorem b_X9_fewest_b87 (C : Cx p s m args c RX9 cX9_fewest 4) {q : Int} {k60 : Nat → Int → Option (Int)} (hend : EndR p l e (rmk 4 90) s m args below meth c Q G true τ cX9_fewest .ireturn [.int (oI q)] σ) (hk60 : ∀ {H : Heap} {locs : List Loc} {ls : Array Slot} (t2 : Nat) (v3 : Int), t2 < 6 → St G true τ σ s H locs → lv_has ls 4 [(2, .ref (G.1 (21 + t2))), (3, .int (oI v3))] → k60 t2 v3 = some q → W p l e (rmk 4 90) s m args below meth c H locs 0 0 Q (F0 m 60 ls [])) {H : Heap} {locs : List Loc} {ls : Array Slot} (t2 : Nat) (v3 : Int) (ht2 : t2 < 6) (S : St G true τ σ s H locs) (hl : lv_has ls 4 [(2, .ref (G.1 (21 + t2))), (3, .int (oI v3))]) (hf : f_X9_fewest_b87 σ k60 t2 v3 = some q) : W p l e (rmk 4 90) s m args below meth c H locs 0 0 Q (F0 m 87 ls []) := by
  unfold f_X9_fewest_b87 at hf
  refine r_iinc C dX9_fewest_87 hl (k := 1) rfl (by decide) (lv' := [(3, .int (oI (v3 + 1))), (2, .ref (G.1 (21 + t2)))]) rfl (fun ls hl => ?_)
  refine lv_goto C.1 C.2.1 (tgt := 60) dX9_fewest_90 (by decide) ?_
  exact hk60 t2 (v3 + 1) (by omega) S (lv_sub hl [1, 0] rfl) hf
set_option maxRecDepth 100000 in
set_option maxHeartbeats 4000000 in
theorem b_X9_fewest_b60 (C : Cx p s m args c RX9 cX9_fewest 4) {q : Int} (hend : EndR p l e (rmk 4 90) s m args below meth c Q G true τ cX9_fewest .ireturn [.int (oI q)] σ) : ∀ (n : Nat) {H : Heap} {locs : List Loc} {ls : Array Slot} (t2 : Nat) (v3 : Int) (ht2 : t2 < 6) (S : St G true τ σ s H locs) (hl : lv_has ls 4 [(2, .ref (G.1 (21 + t2))), (3, .int (oI v3))]) (hf : f_X9_fewest_b60 σ n t2 v3 = some q), W p l e (rmk 4 90) s m args below meth c H locs 0 0 Q (F0 m 60 ls []) := by
  intro n
  induction n with
  | zero => intro H locs ls t2 v3 ht2 S hl hf; cases hf
  | succ n ih =>
    intro H locs ls t2 v3 ht2 S hl hf
    have hk60 := @ih
    rw [f_X9_fewest_b60] at hf
    refine lv_iload_n C.1 C.2.1 dX9_fewest_60 rfl (lv_at hl 1 rfl) ?_
    refine r_bipush C dX9_fewest_61 (by decide) ?_
    refine r_icmp_ge C rfl (show w32 24 = 24 by decide) (tgt := 93) dX9_fewest_63 (by decide) (fun h18 => ?_) (fun h18 => ?_)
    · replace hf := if_t hf h18
      refine lv_aload_n C.1 C.2.1 dX9_fewest_66 rfl (lv_at hl 0 rfl) ?_
      refine g8_worstSet C (d := t2) S (by omega) tw_157 dX9_fewest_67 ?_
      refine lv_iload_n C.1 C.2.1 dX9_fewest_70 rfl (lv_at hl 1 rfl) ?_
      obtain ⟨q12, hc13, hf⟩ := bd_o hf
      refine r_callSv C S (As := [.int (oI (σ (21 + t2) 5)), .int (oI v3)]) (rest := []) (ct_X9_contains l G τ hc13) mi_X9_contains tw_661 ms_X9_contains ⟨rfl, rfl⟩ ⟨Nat.le_of_ble_eq_true rfl, Nat.le_of_ble_eq_true rfl⟩ ⟨Nat.zero_le _, Nat.zero_le _⟩ rfl hl.1 rfl (Nat.le_of_ble_eq_true rfl) dX9_fewest_71 (fun H locs S => ?_)
      refine r_if_eq C rfl (tgt := 87) dX9_fewest_74 (by decide) (fun h17 => ?_) (fun h17 => ?_)
      · replace hf := if_t hf h17
        exact b_X9_fewest_b87 C hend hk60 t2 v3 (by omega) S (lv_sub hl [0, 1] rfl) hf
      · replace hf := if_f hf h17
        refine lv_aload_n C.1 C.2.1 dX9_fewest_77 rfl (lv_at hl 0 rfl) ?_
        refine lv_iload_n C.1 C.2.1 dX9_fewest_78 rfl (lv_at hl 1 rfl) ?_
        obtain ⟨q14, hc15, hf⟩ := bd_o hf
        refine r_callVv C S (As := [.int (oI v3)]) (rest := []) (ct_X8_isFreedWith l G τ hc15) mi_X8_isFreedWith tw_767 mv_X8_isFreedWith (rvX8 S (d := t2) (by omega)) ⟨rfl, rfl⟩ ⟨Nat.le_of_ble_eq_true rfl, Nat.le_of_ble_eq_true rfl⟩ ⟨Nat.zero_le _, Nat.zero_le _⟩ rfl hl.1 rfl (Nat.le_of_ble_eq_true rfl) dX9_fewest_79 (fun H locs S => ?_)
        refine r_if_eq C rfl (tgt := 87) dX9_fewest_82 (by decide) (fun h16 => ?_) (fun h16 => ?_)
        · replace hf := if_t hf h16
          exact b_X9_fewest_b87 C hend hk60 t2 v3 (by omega) S (lv_sub hl [0, 1] rfl) hf
        · replace hf := if_f hf h16
          refine r_iconst C dX9_fewest_85 ?_
          cases hf
          exact hend _ _ _ _ S dX9_fewest_86
    · replace hf := if_f hf h18
      refine r_bipush C dX9_fewest_93 (by decide) ?_
      cases hf
      exact hend _ _ _ _ S dX9_fewest_95
set_option maxRecDepth 100000 in
set_option maxHeartbeats 4000000 in
theorem b_X9_fewest_b58 (C : Cx p s m args c RX9 cX9_fewest 4) {q : Int} (hend : EndR p l e (rmk 4 90) s m args below meth c Q G true τ cX9_fewest .ireturn [.int (oI q)] σ) {H : Heap} {locs : List Loc} {ls : Array Slot} (t2 : Nat) (ht2 : t2 < 6) (S : St G true τ σ s H locs) (hl : lv_has ls 4 [(2, .ref (G.1 (21 + t2)))]) (hf : f_X9_fewest_b58 σ t2 = some q) : W p l e (rmk 4 90) s m args below meth c H locs 0 0 Q (F0 m 58 ls []) := by
  unfold f_X9_fewest_b58 at hf
  refine r_iconst C dX9_fewest_58 ?_
  refine lv_istore_n C.1 C.2.1 dX9_fewest_59 rfl hl (by decide) (lv' := [(3, .int (oI 0)), (2, .ref (G.1 (21 + t2)))]) rfl (fun ls hl => ?_)
  exact b_X9_fewest_b60 C hend FUEL t2 0 (by omega) S (lv_sub hl [1, 0] rfl) hf
set_option maxRecDepth 100000 in
set_option maxHeartbeats 4000000 in
theorem b_X9_fewest_b23 (C : Cx p s m args c RX9 cX9_fewest 4) {q : Int} (hend : EndR p l e (rmk 4 90) s m args below meth c Q G true τ cX9_fewest .ireturn [.int (oI q)] σ) : ∀ (n : Nat) {H : Heap} {locs : List Loc} {ls : Array Slot} (t2 : Nat) (v3 : Int) (ht2 : t2 < 6) (S : St G true τ σ s H locs) (hl : lv_has ls 4 [(2, .ref (G.1 (21 + t2))), (3, .int (oI v3))]) (hf : f_X9_fewest_b23 σ n t2 v3 = some q), W p l e (rmk 4 90) s m args below meth c H locs 0 0 Q (F0 m 23 ls []) := by
  intro n
  induction n with
  | zero => intro H locs ls t2 v3 ht2 S hl hf; cases hf
  | succ n ih =>
    intro H locs ls t2 v3 ht2 S hl hf
    have hk23 := @ih
    rw [f_X9_fewest_b23] at hf
    refine lv_iload_n C.1 C.2.1 dX9_fewest_23 rfl (lv_at hl 1 rfl) ?_
    refine r_bipush C dX9_fewest_24 (by decide) ?_
    refine r_icmp_ge C rfl (show w32 24 = 24 by decide) (tgt := 58) dX9_fewest_26 (by decide) (fun h19 => ?_) (fun h19 => ?_)
    · replace hf := if_t hf h19
      refine lv_aload_n C.1 C.2.1 dX9_fewest_29 rfl (lv_at hl 0 rfl) ?_
      refine g8_worstSet C (d := t2) S (by omega) tw_157 dX9_fewest_30 ?_
      refine lv_iload_n C.1 C.2.1 dX9_fewest_33 rfl (lv_at hl 1 rfl) ?_
      obtain ⟨q6, hc7, hf⟩ := bd_o hf
      refine r_callSv C S (As := [.int (oI (σ (21 + t2) 5)), .int (oI v3)]) (rest := []) (ct_X9_contains l G τ hc7) mi_X9_contains tw_661 ms_X9_contains ⟨rfl, rfl⟩ ⟨Nat.le_of_ble_eq_true rfl, Nat.le_of_ble_eq_true rfl⟩ ⟨Nat.zero_le _, Nat.zero_le _⟩ rfl hl.1 rfl (Nat.le_of_ble_eq_true rfl) dX9_fewest_34 (fun H locs S => ?_)
      refine r_if_eq C rfl (tgt := 52) dX9_fewest_37 (by decide) (fun h11 => ?_) (fun h11 => ?_)
      · replace hf := if_t hf h11
        exact b_X9_fewest_b52 C hend hk23 t2 v3 (by omega) S (lv_sub hl [0, 1] rfl) hf
      · replace hf := if_f hf h11
        refine lv_aload_n C.1 C.2.1 dX9_fewest_40 rfl (lv_at hl 0 rfl) ?_
        refine r_iconst C dX9_fewest_41 ?_
        refine lv_iload_n C.1 C.2.1 dX9_fewest_42 rfl (lv_at hl 1 rfl) ?_
        refine r_ishl C (y1 := (u32 v3 % 32)) rfl dX9_fewest_43 ?_
        obtain ⟨q8, hc9, hf⟩ := bd_o hf
        refine r_callVv C S (As := [.int (oI (1 * ((2 ^ (u32 v3 % 32) : Nat) : Int)))]) (rest := []) (ct_X8_staysPassed l G τ hc9) mi_X8_staysPassed tw_759 mv_X8_staysPassed (rvX8 S (d := t2) (by omega)) ⟨rfl, rfl⟩ ⟨Nat.le_of_ble_eq_true rfl, Nat.le_of_ble_eq_true rfl⟩ ⟨Nat.zero_le _, Nat.zero_le _⟩ rfl hl.1 rfl (Nat.le_of_ble_eq_true rfl) dX9_fewest_44 (fun H locs S => ?_)
        refine r_if_ne C rfl (tgt := 52) dX9_fewest_47 (by decide) (fun h10 => ?_) (fun h10 => ?_)
        · replace hf := if_t hf h10
          refine r_iconst C dX9_fewest_50 ?_
          cases hf
          exact hend _ _ _ _ S dX9_fewest_51
        · replace hf := if_f hf h10
          exact b_X9_fewest_b52 C hend hk23 t2 v3 (by omega) S (lv_sub hl [0, 1] rfl) hf
    · replace hf := if_f hf h19
      exact b_X9_fewest_b58 C hend t2 (by omega) S (lv_sub hl [0] rfl) hf
set_option maxRecDepth 100000 in
set_option maxHeartbeats 4000000 in
theorem ct_X9_fewest (l : Launch) (G : Gd) (τ : Sg) {v1 : Int} {σ : Sg} {q : Int} (hf : f_X9_fewest v1 σ = some q) : Ctr l yX9_fewest cX9_fewest 4 (some .int) (rmk 4 90) G true τ [.ref (G.1 0), .int (oI v1)] σ σ (some (.int (oI q))) := by
  unfold f_X9_fewest at hf
  refine CtrI.of (own := RX9) (plainFor_of_name (by decide)) (Nat.le_of_ble_eq_true rfl) rfl (fun p e s m below meth c Q ls C hl S hend => ?_)
  have hl : lv_has ls 4 [(0, .ref (G.1 0)), (1, .int (oI v1))] := hl
  refine lv_aload_n C.1 C.2.1 dX9_fewest_0 rfl (lv_at hl 0 rfl) ?_
  refine lv_iload_n C.1 C.2.1 dX9_fewest_1 rfl (lv_at hl 1 rfl) ?_
  obtain ⟨q1, hc2, hf⟩ := bd_o hf
  refine r_callVv C S (As := [.int (oI v1)]) (rest := []) (ct_X9_treatyAt l G τ hc2) mi_X9_treatyAt tw_528 mv_X9_treatyAt (rvX9 S) ⟨rfl, rfl⟩ ⟨Nat.le_of_ble_eq_true rfl, Nat.le_of_ble_eq_true rfl⟩ ⟨Nat.zero_le _, Nat.zero_le _⟩ rfl hl.1 rfl (Nat.le_of_ble_eq_true rfl) dX9_fewest_2 (fun H locs S => ?_)
  rcases q1 with _ | t3
  · replace hf := oT_n hf
    refine lv_astore_nN C.1 C.2.1 dX9_fewest_5 rfl hl (by decide) (lv' := [(2, .null), (0, .ref (G.1 0)), (1, .int (oI v1))]) rfl (fun ls hl => ?_)
    refine lv_aload_nN C.1 C.2.1 dX9_fewest_6 rfl (lv_at hl 0 rfl) ?_
    refine lv_ifnonnullN C.1 C.2.1 dX9_fewest_7 ?_
    refine r_iconst C dX9_fewest_10 ?_
    cases hf
    exact hend _ _ _ _ S dX9_fewest_11
  · obtain ⟨ht3, hf⟩ := oT_s hf
    refine lv_astore_n C.1 C.2.1 dX9_fewest_5 rfl hl (by decide) (lv' := [(2, .ref (G.1 (21 + t3))), (0, .ref (G.1 0)), (1, .int (oI v1))]) rfl (fun ls hl => ?_)
    refine lv_aload_n C.1 C.2.1 dX9_fewest_6 rfl (lv_at hl 0 rfl) ?_
    refine lv_ifnonnull C.1 C.2.1 (tgt := 12) dX9_fewest_7 (by decide) ?_
    refine lv_aload_n C.1 C.2.1 dX9_fewest_12 rfl (lv_at hl 0 rfl) ?_
    obtain ⟨q4, hc5, hf⟩ := bd_o hf
    refine r_callVv C S (As := []) (rest := []) (ct_X8_isPassed l G τ hc5) mi_X8_isPassed tw_532 mv_X8_isPassed (rvX8 S (d := t3) (by omega)) ⟨rfl, rfl⟩ ⟨Nat.le_of_ble_eq_true rfl, Nat.le_of_ble_eq_true rfl⟩ ⟨Nat.zero_le _, Nat.zero_le _⟩ rfl hl.1 rfl (Nat.le_of_ble_eq_true rfl) dX9_fewest_13 (fun H locs S => ?_)
    refine r_if_ne C rfl (tgt := 21) dX9_fewest_16 (by decide) (fun h20 => ?_) (fun h20 => ?_)
    · replace hf := if_t hf h20
      refine r_iconst C dX9_fewest_19 ?_
      cases hf
      exact hend _ _ _ _ S dX9_fewest_20
    · replace hf := if_f hf h20
      refine r_iconst C dX9_fewest_21 ?_
      refine lv_istore_n C.1 C.2.1 dX9_fewest_22 rfl hl (by decide) (lv' := [(3, .int (oI 0)), (2, .ref (G.1 (21 + t3))), (0, .ref (G.1 0)), (1, .int (oI v1))]) rfl (fun ls hl => ?_)
      exact b_X9_fewest_b23 C hend FUEL t3 0 (by omega) S (lv_sub hl [1, 0] rfl) hf
set_option maxRecDepth 100000 in
set_option maxHeartbeats 4000000 in
theorem b_X2_onOthers_b119 (C : Cx p s m args c RX2 cX2_onOthers 10) {d : Nat} (hd : d < 7) {q : Int} (hend : EndR p l e (rmk 2 62) s m args below meth c Q G true τ cX2_onOthers .ireturn [.int (oI q)] σ) {H : Heap} {locs : List Loc} {ls : Array Slot} (w0 : Int) (w1 : Int) (S : St G true τ σ s H locs) (hl : lv_has ls 10 []) (hf : f_X2_onOthers_b119 d σ w0 w1 = some q) : W p l e (rmk 2 62) s m args below meth c H locs 0 0 Q (F0 m 119 ls [.int (oI w0), .int (oI w1)]) := by
  unfold f_X2_onOthers_b119 at hf
  refine r_mmax C (hl.1) tw_781 (by decide) (Nat.le_of_ble_eq_true rfl) dX2_onOthers_119 ?_
  cases hf
  exact hend _ _ _ _ S dX2_onOthers_122
set_option maxRecDepth 100000 in
set_option maxHeartbeats 4000000 in
theorem b_X2_onOthers_b105 (C : Cx p s m args c RX2 cX2_onOthers 10) {d : Nat} (hd : d < 7) {q : Int} (hend : EndR p l e (rmk 2 62) s m args below meth c Q G true τ cX2_onOthers .ireturn [.int (oI q)] σ) {H : Heap} {locs : List Loc} {ls : Array Slot} (v6 : Int) (v8 : Int) (v9 : Int) (w0 : Int) (S : St G true τ σ s H locs) (hl : lv_has ls 10 [(6, .int (oI v6)), (8, .int (oI v8)), (9, .int (oI v9))]) (hf : f_X2_onOthers_b105 d σ v6 v8 v9 w0 = some q) : W p l e (rmk 2 62) s m args below meth c H locs 0 0 Q (F0 m 105 ls [.int (oI w0)]) := by
  unfold f_X2_onOthers_b105 at hf
  refine lv_iload C.1 C.2.1 dX2_onOthers_105 (lv_at hl 2 rfl) ?_
  refine r_iconst C dX2_onOthers_107 ?_
  refine r_iand C rfl (show u32 2 = 2 by decide) dX2_onOthers_108 ?_
  refine r_if_eq C rfl (tgt := 117) dX2_onOthers_109 (by decide) (fun h13 => ?_) (fun h13 => ?_)
  · replace hf := if_t hf h13
    refine lv_iload C.1 C.2.1 dX2_onOthers_117 (lv_at hl 0 rfl) ?_
    exact b_X2_onOthers_b119 C hd hend v6 w0 S (lv_sub hl [] rfl) hf
  · replace hf := if_f hf h13
    refine lv_iload C.1 C.2.1 dX2_onOthers_112 (lv_at hl 1 rfl) ?_
    refine lv_goto C.1 C.2.1 (tgt := 119) dX2_onOthers_114 (by decide) ?_
    exact b_X2_onOthers_b119 C hd hend v8 w0 S (lv_sub hl [] rfl) hf
set_option maxRecDepth 100000 in
set_option maxHeartbeats 4000000 in
theorem b_X2_onOthers_b80 (C : Cx p s m args c RX2 cX2_onOthers 10) {d : Nat} (hd : d < 7) {q : Int} (hend : EndR p l e (rmk 2 62) s m args below meth c Q G true τ cX2_onOthers .ireturn [.int (oI q)] σ) {H : Heap} {locs : List Loc} {ls : Array Slot} (v1 : Int) (v2 : Int) (v3 : Int) (v4 : Int) (v6 : Int) (v7 : Int) (v8 : Int) (S : St G true τ σ s H locs) (hl : lv_has ls 10 [(0, .ref (G.1 (27 + d))), (1, .int (oI v1)), (2, .int (oI v2)), (3, .int (oI v3)), (4, .int (oI v4)), (6, .int (oI v6)), (7, .int (oI v7)), (8, .int (oI v8))]) (hf : f_X2_onOthers_b80 d σ v1 v2 v3 v4 v6 v7 v8 = some q) : W p l e (rmk 2 62) s m args below meth c H locs 0 0 Q (F0 m 80 ls []) := by
  unfold f_X2_onOthers_b80 at hf
  refine lv_aload_n C.1 C.2.1 dX2_onOthers_80 rfl (lv_at hl 0 rfl) ?_
  refine lv_iload_n C.1 C.2.1 dX2_onOthers_81 rfl (lv_at hl 1 rfl) ?_
  refine lv_iload_n C.1 C.2.1 dX2_onOthers_82 rfl (lv_at hl 2 rfl) ?_
  refine lv_iload_n C.1 C.2.1 dX2_onOthers_83 rfl (lv_at hl 3 rfl) ?_
  refine lv_iload C.1 C.2.1 dX2_onOthers_84 (lv_at hl 4 rfl) ?_
  obtain ⟨q11, hc12, hf⟩ := bd_o hf
  refine r_callVv C S (As := [.int (oI v1), .int (oI v2), .int (oI v3), .int (oI v4)]) (rest := []) (ct_X2_sidesAt l G τ hc12) mi_X2_sidesAt tw_499 mv_X2_sidesAt (rvX2 S (d := d) (by omega)) ⟨rfl, rfl⟩ ⟨Nat.le_of_ble_eq_true rfl, Nat.le_of_ble_eq_true rfl⟩ ⟨Nat.zero_le _, Nat.zero_le _⟩ rfl hl.1 rfl (Nat.le_of_ble_eq_true rfl) dX2_onOthers_86 (fun H locs S => ?_)
  refine lv_istore C.1 C.2.1 dX2_onOthers_89 hl (by decide) (lv' := [(9, .int (oI q11)), (0, .ref (G.1 (27 + d))), (1, .int (oI v1)), (2, .int (oI v2)), (3, .int (oI v3)), (4, .int (oI v4)), (6, .int (oI v6)), (7, .int (oI v7)), (8, .int (oI v8))]) rfl (fun ls hl => ?_)
  refine lv_iload C.1 C.2.1 dX2_onOthers_91 (lv_at hl 0 rfl) ?_
  refine r_iconst C dX2_onOthers_93 ?_
  refine r_iand C rfl (show u32 1 = 1 by decide) dX2_onOthers_94 ?_
  refine r_if_eq C rfl (tgt := 103) dX2_onOthers_95 (by decide) (fun h14 => ?_) (fun h14 => ?_)
  · replace hf := if_t hf h14
    refine lv_iload C.1 C.2.1 dX2_onOthers_103 (lv_at hl 6 rfl) ?_
    exact b_X2_onOthers_b105 C hd hend v6 v8 q11 v6 S (lv_sub hl [6, 8, 0] rfl) hf
  · replace hf := if_f hf h14
    refine lv_iload C.1 C.2.1 dX2_onOthers_98 (lv_at hl 7 rfl) ?_
    refine lv_goto C.1 C.2.1 (tgt := 105) dX2_onOthers_100 (by decide) ?_
    exact b_X2_onOthers_b105 C hd hend v6 v8 q11 v7 S (lv_sub hl [6, 8, 0] rfl) hf
set_option maxRecDepth 100000 in
set_option maxHeartbeats 4000000 in
theorem ct_X2_onOthers (l : Launch) (G : Gd) (τ : Sg) {d : Nat} {v1 : Int} {v2 : Int} {v3 : Int} {v4 : Int} {v5 : Int} {v6 : Int} {σ : Sg} {q : Int} (hf : f_X2_onOthers d v1 v2 v3 v4 v5 v6 σ = some q) : Ctr l yX2_onOthers cX2_onOthers 10 (some .int) (rmk 2 62) G true τ [.ref (G.1 (27 + d)), .int (oI v1), .int (oI v2), .int (oI v3), .int (oI v4), .int (oI v5), .int (oI v6)] σ σ (some (.int (oI q))) := by
  unfold f_X2_onOthers at hf
  obtain ⟨hd, hf⟩ := ck_o hf
  refine CtrI.of (own := RX2) (plainFor_of_name (by decide)) (Nat.le_of_ble_eq_true rfl) rfl (fun p e s m below meth c Q ls C hl S hend => ?_)
  have hl : lv_has ls 10 [(0, .ref (G.1 (27 + d))), (1, .int (oI v1)), (2, .int (oI v2)), (3, .int (oI v3)), (4, .int (oI v4)), (5, .int (oI v5)), (6, .int (oI v6))] := hl
  refine lv_iload_n C.1 C.2.1 dX2_onOthers_0 rfl (lv_at hl 1 rfl) ?_
  obtain ⟨q1, hc2, hf⟩ := bd_o hf
  refine r_callSNv C S (As := [.int (oI v1)]) (rest := []) (ct_X9_isNumber l G τ hc2) mi_X9_isNumber (nw_490 S.2.2.2) ms_X9_isNumber ⟨rfl, rfl⟩ ⟨Nat.le_of_ble_eq_true rfl, Nat.le_of_ble_eq_true rfl⟩ ⟨Nat.zero_le _, Nat.zero_le _⟩ rfl hl.1 rfl (Nat.le_of_ble_eq_true rfl) dX2_onOthers_1 (fun H locs S => ?_)
  refine r_if_eq C rfl (tgt := 14) dX2_onOthers_4 (by decide) (fun h18 => ?_) (fun h18 => ?_)
  · replace hf := if_t hf h18
    refine lv_iload C.1 C.2.1 dX2_onOthers_14 (lv_at hl 6 rfl) ?_
    cases hf
    exact hend _ _ _ _ S dX2_onOthers_16
  · replace hf := if_f hf h18
    refine lv_iload_n C.1 C.2.1 dX2_onOthers_7 rfl (lv_at hl 2 rfl) ?_
    obtain ⟨q3, hc4, hf⟩ := bd_o hf
    refine r_callSNv C S (As := [.int (oI v2)]) (rest := []) (ct_X9_isNumber l G τ hc4) mi_X9_isNumber (nw_490 S.2.2.2) ms_X9_isNumber ⟨rfl, rfl⟩ ⟨Nat.le_of_ble_eq_true rfl, Nat.le_of_ble_eq_true rfl⟩ ⟨Nat.zero_le _, Nat.zero_le _⟩ rfl hl.1 rfl (Nat.le_of_ble_eq_true rfl) dX2_onOthers_8 (fun H locs S => ?_)
    refine r_if_ne C rfl (tgt := 17) dX2_onOthers_11 (by decide) (fun h17 => ?_) (fun h17 => ?_)
    · replace hf := if_t hf h17
      refine lv_iload C.1 C.2.1 dX2_onOthers_14 (lv_at hl 6 rfl) ?_
      cases hf
      exact hend _ _ _ _ S dX2_onOthers_16
    · replace hf := if_f hf h17
      refine lv_aload_n C.1 C.2.1 dX2_onOthers_17 rfl (lv_at hl 0 rfl) ?_
      refine g2_book C (d := d) S (by omega) tw_126 dX2_onOthers_18 ?_
      refine lv_aload_n C.1 C.2.1 dX2_onOthers_21 rfl (lv_at hl 0 rfl) ?_
      refine g2_sets C (d := d) S (by omega) tw_127 dX2_onOthers_22 ?_
      refine lv_iload_n C.1 C.2.1 dX2_onOthers_25 rfl (lv_at hl 1 rfl) ?_
      refine r_bipush C dX2_onOthers_26 (by decide) ?_
      refine r_imul C dX2_onOthers_28 ?_
      refine lv_iload_n C.1 C.2.1 dX2_onOthers_29 rfl (lv_at hl 2 rfl) ?_
      refine r_iadd C dX2_onOthers_30 ?_
      obtain ⟨hi5, hf⟩ := ck_o hf
      refine a_iald C S (ar_34 (d := d) (by omega)) hi5 dX2_onOthers_31 ?_
      refine lv_iload C.1 C.2.1 dX2_onOthers_32 (lv_at hl 5 rfl) ?_
      refine r_iand C rfl rfl dX2_onOthers_34 ?_
      obtain ⟨q6, hc7, hf⟩ := bd_o hf
      refine r_callVv C S (As := [.int (oI ((((u32 (σ (34 + d) ((v1 * 24) + v2).toNat)) &&& (u32 v5) : Nat) : Int)))]) (rest := []) (ct_X0_sums l G τ hc7) mi_X0_sums tw_519 mv_X0_sums (rvX0 S) ⟨rfl, rfl⟩ ⟨Nat.le_of_ble_eq_true rfl, Nat.le_of_ble_eq_true rfl⟩ ⟨Nat.zero_le _, Nat.zero_le _⟩ rfl hl.1 rfl (Nat.le_of_ble_eq_true rfl) dX2_onOthers_35 (fun H locs S => ?_)
      refine lv_istore C.1 C.2.1 dX2_onOthers_38 hl (by decide) (lv' := [(7, .int (oI q6)), (0, .ref (G.1 (27 + d))), (1, .int (oI v1)), (2, .int (oI v2)), (3, .int (oI v3)), (4, .int (oI v4)), (5, .int (oI v5)), (6, .int (oI v6))]) rfl (fun ls hl => ?_)
      refine lv_aload_n C.1 C.2.1 dX2_onOthers_40 rfl (lv_at hl 1 rfl) ?_
      refine g2_book C (d := d) S (by omega) tw_126 dX2_onOthers_41 ?_
      refine lv_aload_n C.1 C.2.1 dX2_onOthers_44 rfl (lv_at hl 1 rfl) ?_
      refine g2_sets C (d := d) S (by omega) tw_127 dX2_onOthers_45 ?_
      refine lv_iload_n C.1 C.2.1 dX2_onOthers_48 rfl (lv_at hl 3 rfl) ?_
      refine r_bipush C dX2_onOthers_49 (by decide) ?_
      refine r_imul C dX2_onOthers_51 ?_
      refine lv_iload_n C.1 C.2.1 dX2_onOthers_52 rfl (lv_at hl 2 rfl) ?_
      refine r_iadd C dX2_onOthers_53 ?_
      obtain ⟨hi8, hf⟩ := ck_o hf
      refine a_iald C S (ar_34 (d := d) (by omega)) hi8 dX2_onOthers_54 ?_
      refine lv_iload C.1 C.2.1 dX2_onOthers_55 (lv_at hl 6 rfl) ?_
      refine r_iand C rfl rfl dX2_onOthers_57 ?_
      obtain ⟨q9, hc10, hf⟩ := bd_o hf
      refine r_callVv C S (As := [.int (oI ((((u32 (σ (34 + d) ((v2 * 24) + v1).toNat)) &&& (u32 v5) : Nat) : Int)))]) (rest := []) (ct_X0_sums l G τ hc10) mi_X0_sums tw_519 mv_X0_sums (rvX0 S) ⟨rfl, rfl⟩ ⟨Nat.le_of_ble_eq_true rfl, Nat.le_of_ble_eq_true rfl⟩ ⟨Nat.zero_le _, Nat.zero_le _⟩ rfl hl.1 rfl (Nat.le_of_ble_eq_true rfl) dX2_onOthers_58 (fun H locs S => ?_)
      refine lv_istore C.1 C.2.1 dX2_onOthers_61 hl (by decide) (lv' := [(8, .int (oI q9)), (7, .int (oI q6)), (0, .ref (G.1 (27 + d))), (1, .int (oI v1)), (2, .int (oI v2)), (3, .int (oI v3)), (4, .int (oI v4)), (5, .int (oI v5)), (6, .int (oI v6))]) rfl (fun ls hl => ?_)
      refine lv_iload C.1 C.2.1 dX2_onOthers_63 (lv_at hl 1 rfl) ?_
      refine lv_iload C.1 C.2.1 dX2_onOthers_65 (lv_at hl 8 rfl) ?_
      refine r_icmp_gt C rfl rfl (tgt := 80) dX2_onOthers_67 (by decide) (fun h16 => ?_) (fun h16 => ?_)
      · replace hf := if_t hf h16
        refine lv_iload C.1 C.2.1 dX2_onOthers_70 (lv_at hl 0 rfl) ?_
        refine lv_iload C.1 C.2.1 dX2_onOthers_72 (lv_at hl 8 rfl) ?_
        refine r_icmp_gt C rfl rfl (tgt := 80) dX2_onOthers_74 (by decide) (fun h15 => ?_) (fun h15 => ?_)
        · replace hf := if_t hf h15
          refine lv_iload C.1 C.2.1 dX2_onOthers_77 (lv_at hl 8 rfl) ?_
          cases hf
          exact hend _ _ _ _ S dX2_onOthers_79
        · replace hf := if_f hf h15
          exact b_X2_onOthers_b80 C hd hend v1 v2 v3 v4 v6 q6 q9 S (lv_sub hl [2, 3, 4, 5, 6, 8, 1, 0] rfl) hf
      · replace hf := if_f hf h16
        exact b_X2_onOthers_b80 C hd hend v1 v2 v3 v4 v6 q6 q9 S (lv_sub hl [2, 3, 4, 5, 6, 8, 1, 0] rfl) hf
set_option maxRecDepth 100000 in
set_option maxHeartbeats 4000000 in
theorem b_X2_joined_b133 (C : Cx p s m args c RX2 cX2_joined 9) {d : Nat} (hd : d < 7) {q : Int × Sg} {k74 : Int → Int → Int → Int → Int → Sg → Option (Int × Sg)} (hend : EndR p l e (rmk 3 91) s m args below meth c Q G true τ cX2_joined .ireturn [.int (oI q.1)] q.2) (hk74 : ∀ {H : Heap} {locs : List Loc} {ls : Array Slot} {σ : Sg} (v1 : Int) (v2 : Int) (v5 : Int) (v6 : Int) (v7 : Int), St G true τ σ s H locs → lv_has ls 9 [(0, .ref (G.1 (27 + d))), (1, .int (oI v1)), (2, .int (oI v2)), (5, .int (oI v5)), (6, .int (oI v6)), (7, .int (oI v7))] → k74 v1 v2 v5 v6 v7 σ = some q → W p l e (rmk 3 91) s m args below meth c H locs 0 0 Q (F0 m 74 ls [])) {H : Heap} {locs : List Loc} {ls : Array Slot} {σ : Sg} (v1 : Int) (v2 : Int) (v5 : Int) (v6 : Int) (v7 : Int) (S : St G true τ σ s H locs) (hl : lv_has ls 9 [(0, .ref (G.1 (27 + d))), (1, .int (oI v1)), (2, .int (oI v2)), (5, .int (oI v5)), (6, .int (oI v6)), (7, .int (oI v7))]) (hf : f_X2_joined_b133 d k74 v1 v2 v5 v6 v7 σ = some q) : W p l e (rmk 3 91) s m args below meth c H locs 0 0 Q (F0 m 133 ls []) := by
  unfold f_X2_joined_b133 at hf
  refine r_iinc C dX2_joined_133 hl (k := 5) rfl (by decide) (lv' := [(7, .int (oI (v7 + 1))), (0, .ref (G.1 (27 + d))), (1, .int (oI v1)), (2, .int (oI v2)), (5, .int (oI v5)), (6, .int (oI v6))]) rfl (fun ls hl => ?_)
  refine lv_goto C.1 C.2.1 (tgt := 74) dX2_joined_136 (by decide) ?_
  exact hk74 v1 v2 v5 v6 (v7 + 1) S (lv_sub hl [1, 2, 3, 4, 5, 0] rfl) hf
set_option maxRecDepth 100000 in
set_option maxHeartbeats 4000000 in
theorem b_X2_joined_b203 (C : Cx p s m args c RX2 cX2_joined 9) {d : Nat} (hd : d < 7) {q : Int × Sg} {k142 : Int → Int → Int → Int → Int → Sg → Option (Int × Sg)} {k155 : Int → Int → Int → Int → Int → Int → Sg → Option (Int × Sg)} (hend : EndR p l e (rmk 3 91) s m args below meth c Q G true τ cX2_joined .ireturn [.int (oI q.1)] q.2) (hk142 : ∀ {H : Heap} {locs : List Loc} {ls : Array Slot} {σ : Sg} (v1 : Int) (v2 : Int) (v5 : Int) (v6 : Int) (v7 : Int), St G true τ σ s H locs → lv_has ls 9 [(0, .ref (G.1 (27 + d))), (1, .int (oI v1)), (2, .int (oI v2)), (5, .int (oI v5)), (6, .int (oI v6)), (7, .int (oI v7))] → k142 v1 v2 v5 v6 v7 σ = some q → W p l e (rmk 3 91) s m args below meth c H locs 0 0 Q (F0 m 142 ls [])) (hk155 : ∀ {H : Heap} {locs : List Loc} {ls : Array Slot} {σ : Sg} (v1 : Int) (v2 : Int) (v5 : Int) (v6 : Int) (v7 : Int) (v8 : Int), St G true τ σ s H locs → lv_has ls 9 [(0, .ref (G.1 (27 + d))), (1, .int (oI v1)), (2, .int (oI v2)), (5, .int (oI v5)), (6, .int (oI v6)), (7, .int (oI v7)), (8, .int (oI v8))] → k155 v1 v2 v5 v6 v7 v8 σ = some q → W p l e (rmk 3 91) s m args below meth c H locs 0 0 Q (F0 m 155 ls [])) {H : Heap} {locs : List Loc} {ls : Array Slot} {σ : Sg} (v1 : Int) (v2 : Int) (v5 : Int) (v6 : Int) (v7 : Int) (v8 : Int) (S : St G true τ σ s H locs) (hl : lv_has ls 9 [(0, .ref (G.1 (27 + d))), (1, .int (oI v1)), (2, .int (oI v2)), (5, .int (oI v5)), (6, .int (oI v6)), (7, .int (oI v7)), (8, .int (oI v8))]) (hf : f_X2_joined_b203 d k142 k155 v1 v2 v5 v6 v7 v8 σ = some q) : W p l e (rmk 3 91) s m args below meth c H locs 0 0 Q (F0 m 203 ls []) := by
  unfold f_X2_joined_b203 at hf
  refine r_iinc C dX2_joined_203 hl (k := 6) rfl (by decide) (lv' := [(8, .int (oI (v8 + 1))), (0, .ref (G.1 (27 + d))), (1, .int (oI v1)), (2, .int (oI v2)), (5, .int (oI v5)), (6, .int (oI v6)), (7, .int (oI v7))]) rfl (fun ls hl => ?_)
  refine lv_goto C.1 C.2.1 (tgt := 155) dX2_joined_206 (by decide) ?_
  exact hk155 v1 v2 v5 v6 v7 (v8 + 1) S (lv_sub hl [1, 2, 3, 4, 5, 6, 0] rfl) hf
set_option maxRecDepth 100000 in
set_option maxHeartbeats 4000000 in
theorem b_X2_joined_b209 (C : Cx p s m args c RX2 cX2_joined 9) {d : Nat} (hd : d < 7) {q : Int × Sg} {k142 : Int → Int → Int → Int → Int → Sg → Option (Int × Sg)} (hend : EndR p l e (rmk 3 91) s m args below meth c Q G true τ cX2_joined .ireturn [.int (oI q.1)] q.2) (hk142 : ∀ {H : Heap} {locs : List Loc} {ls : Array Slot} {σ : Sg} (v1 : Int) (v2 : Int) (v5 : Int) (v6 : Int) (v7 : Int), St G true τ σ s H locs → lv_has ls 9 [(0, .ref (G.1 (27 + d))), (1, .int (oI v1)), (2, .int (oI v2)), (5, .int (oI v5)), (6, .int (oI v6)), (7, .int (oI v7))] → k142 v1 v2 v5 v6 v7 σ = some q → W p l e (rmk 3 91) s m args below meth c H locs 0 0 Q (F0 m 142 ls [])) {H : Heap} {locs : List Loc} {ls : Array Slot} {σ : Sg} (v1 : Int) (v2 : Int) (v5 : Int) (v6 : Int) (v7 : Int) (S : St G true τ σ s H locs) (hl : lv_has ls 9 [(0, .ref (G.1 (27 + d))), (1, .int (oI v1)), (2, .int (oI v2)), (5, .int (oI v5)), (6, .int (oI v6)), (7, .int (oI v7))]) (hf : f_X2_joined_b209 d k142 v1 v2 v5 v6 v7 σ = some q) : W p l e (rmk 3 91) s m args below meth c H locs 0 0 Q (F0 m 209 ls []) := by
  unfold f_X2_joined_b209 at hf
  refine r_iinc C dX2_joined_209 hl (k := 5) rfl (by decide) (lv' := [(7, .int (oI (v7 + 1))), (0, .ref (G.1 (27 + d))), (1, .int (oI v1)), (2, .int (oI v2)), (5, .int (oI v5)), (6, .int (oI v6))]) rfl (fun ls hl => ?_)
  refine lv_goto C.1 C.2.1 (tgt := 142) dX2_joined_212 (by decide) ?_
  exact hk142 v1 v2 v5 v6 (v7 + 1) S (lv_sub hl [1, 2, 3, 4, 5, 0] rfl) hf
set_option maxRecDepth 100000 in
set_option maxHeartbeats 4000000 in
theorem b_X2_joined_b155 (C : Cx p s m args c RX2 cX2_joined 9) {d : Nat} (hd : d < 7) {q : Int × Sg} {k142 : Int → Int → Int → Int → Int → Sg → Option (Int × Sg)} (hend : EndR p l e (rmk 3 91) s m args below meth c Q G true τ cX2_joined .ireturn [.int (oI q.1)] q.2) (hk142 : ∀ {H : Heap} {locs : List Loc} {ls : Array Slot} {σ : Sg} (v1 : Int) (v2 : Int) (v5 : Int) (v6 : Int) (v7 : Int), St G true τ σ s H locs → lv_has ls 9 [(0, .ref (G.1 (27 + d))), (1, .int (oI v1)), (2, .int (oI v2)), (5, .int (oI v5)), (6, .int (oI v6)), (7, .int (oI v7))] → k142 v1 v2 v5 v6 v7 σ = some q → W p l e (rmk 3 91) s m args below meth c H locs 0 0 Q (F0 m 142 ls [])) : ∀ (n : Nat) {H : Heap} {locs : List Loc} {ls : Array Slot} {σ : Sg} (v1 : Int) (v2 : Int) (v5 : Int) (v6 : Int) (v7 : Int) (v8 : Int) (S : St G true τ σ s H locs) (hl : lv_has ls 9 [(0, .ref (G.1 (27 + d))), (1, .int (oI v1)), (2, .int (oI v2)), (5, .int (oI v5)), (6, .int (oI v6)), (7, .int (oI v7)), (8, .int (oI v8))]) (hf : f_X2_joined_b155 d k142 n v1 v2 v5 v6 v7 v8 σ = some q), W p l e (rmk 3 91) s m args below meth c H locs 0 0 Q (F0 m 155 ls []) := by
  intro n
  induction n with
  | zero => intro H locs ls σ v1 v2 v5 v6 v7 v8 S hl hf; cases hf
  | succ n ih =>
    intro H locs ls σ v1 v2 v5 v6 v7 v8 S hl hf
    have hk155 := @ih
    rw [f_X2_joined_b155] at hf
    refine lv_iload C.1 C.2.1 dX2_joined_155 (lv_at hl 6 rfl) ?_
    refine r_bipush C dX2_joined_157 (by decide) ?_
    refine r_icmp_ge C rfl (show w32 24 = 24 by decide) (tgt := 209) dX2_joined_159 (by decide) (fun h26 => ?_) (fun h26 => ?_)
    · replace hf := if_t hf h26
      refine lv_iload C.1 C.2.1 dX2_joined_162 (lv_at hl 3 rfl) ?_
      refine lv_iload C.1 C.2.1 dX2_joined_164 (lv_at hl 5 rfl) ?_
      obtain ⟨q18, hc19, hf⟩ := bd_o hf
      refine r_callSNv C S (As := [.int (oI v5), .int (oI v7)]) (rest := []) (ct_X9_contains l G τ hc19) mi_X9_contains (nw_485 S.2.2.2) ms_X9_contains ⟨rfl, rfl⟩ ⟨Nat.le_of_ble_eq_true rfl, Nat.le_of_ble_eq_true rfl⟩ ⟨Nat.zero_le _, Nat.zero_le _⟩ rfl hl.1 rfl (Nat.le_of_ble_eq_true rfl) dX2_joined_166 (fun H locs S => ?_)
      refine r_if_eq C rfl (tgt := 203) dX2_joined_169 (by decide) (fun h25 => ?_) (fun h25 => ?_)
      · replace hf := if_t hf h25
        exact b_X2_joined_b203 C hd hend hk142 hk155 v1 v2 v5 v6 v7 v8 S (lv_sub hl [0, 1, 2, 3, 4, 5, 6] rfl) hf
      · replace hf := if_f hf h25
        refine lv_iload C.1 C.2.1 dX2_joined_172 (lv_at hl 3 rfl) ?_
        refine lv_iload C.1 C.2.1 dX2_joined_174 (lv_at hl 6 rfl) ?_
        obtain ⟨q20, hc21, hf⟩ := bd_o hf
        refine r_callSNv C S (As := [.int (oI v5), .int (oI v8)]) (rest := []) (ct_X9_contains l G τ hc21) mi_X9_contains (nw_485 S.2.2.2) ms_X9_contains ⟨rfl, rfl⟩ ⟨Nat.le_of_ble_eq_true rfl, Nat.le_of_ble_eq_true rfl⟩ ⟨Nat.zero_le _, Nat.zero_le _⟩ rfl hl.1 rfl (Nat.le_of_ble_eq_true rfl) dX2_joined_176 (fun H locs S => ?_)
        refine r_if_eq C rfl (tgt := 203) dX2_joined_179 (by decide) (fun h24 => ?_) (fun h24 => ?_)
        · replace hf := if_t hf h24
          exact b_X2_joined_b203 C hd hend hk142 hk155 v1 v2 v5 v6 v7 v8 S (lv_sub hl [0, 1, 2, 3, 4, 5, 6] rfl) hf
        · replace hf := if_f hf h24
          refine lv_iload C.1 C.2.1 dX2_joined_182 (lv_at hl 4 rfl) ?_
          refine lv_aload_n C.1 C.2.1 dX2_joined_184 rfl (lv_at hl 0 rfl) ?_
          refine lv_iload C.1 C.2.1 dX2_joined_185 (lv_at hl 5 rfl) ?_
          refine lv_iload C.1 C.2.1 dX2_joined_187 (lv_at hl 6 rfl) ?_
          refine lv_iload_n C.1 C.2.1 dX2_joined_189 rfl (lv_at hl 1 rfl) ?_
          refine lv_iload_n C.1 C.2.1 dX2_joined_190 rfl (lv_at hl 2 rfl) ?_
          refine lv_iload C.1 C.2.1 dX2_joined_191 (lv_at hl 3 rfl) ?_
          refine lv_iload C.1 C.2.1 dX2_joined_193 (lv_at hl 4 rfl) ?_
          obtain ⟨q22, hc23, hf⟩ := bd_o hf
          refine r_callVv C S (As := [.int (oI v7), .int (oI v8), .int (oI v1), .int (oI v2), .int (oI v5), .int (oI v6)]) (rest := [.int (oI v6)]) (ct_X2_onOthers l G τ hc23) mi_X2_onOthers tw_782 mv_X2_onOthers (rvX2 S (d := d) (by omega)) ⟨rfl, rfl⟩ ⟨Nat.le_of_ble_eq_true rfl, Nat.le_of_ble_eq_true rfl⟩ ⟨Nat.zero_le _, Nat.zero_le _⟩ rfl hl.1 rfl (Nat.le_of_ble_eq_true rfl) dX2_joined_195 (fun H locs S => ?_)
          refine r_mmax C (hl.1) tw_781 (by decide) (Nat.le_of_ble_eq_true rfl) dX2_joined_198 ?_
          refine lv_istore C.1 C.2.1 dX2_joined_201 hl (by decide) (lv' := [(6, .int (oI (mmaxI v6 q22))), (0, .ref (G.1 (27 + d))), (1, .int (oI v1)), (2, .int (oI v2)), (5, .int (oI v5)), (7, .int (oI v7)), (8, .int (oI v8))]) rfl (fun ls hl => ?_)
          exact b_X2_joined_b203 C hd hend hk142 hk155 v1 v2 v5 (mmaxI v6 q22) v7 v8 S (lv_sub hl [1, 2, 3, 4, 0, 5, 6] rfl) hf
    · replace hf := if_f hf h26
      exact b_X2_joined_b209 C hd hend hk142 v1 v2 v5 v6 v7 S (lv_sub hl [0, 1, 2, 3, 4, 5] rfl) hf
set_option maxRecDepth 100000 in
set_option maxHeartbeats 4000000 in
theorem b_X2_joined_b142 (C : Cx p s m args c RX2 cX2_joined 9) {d : Nat} (hd : d < 7) {q : Int × Sg} (hend : EndR p l e (rmk 3 91) s m args below meth c Q G true τ cX2_joined .ireturn [.int (oI q.1)] q.2) : ∀ (n : Nat) {H : Heap} {locs : List Loc} {ls : Array Slot} {σ : Sg} (v1 : Int) (v2 : Int) (v5 : Int) (v6 : Int) (v7 : Int) (S : St G true τ σ s H locs) (hl : lv_has ls 9 [(0, .ref (G.1 (27 + d))), (1, .int (oI v1)), (2, .int (oI v2)), (5, .int (oI v5)), (6, .int (oI v6)), (7, .int (oI v7))]) (hf : f_X2_joined_b142 d n v1 v2 v5 v6 v7 σ = some q), W p l e (rmk 3 91) s m args below meth c H locs 0 0 Q (F0 m 142 ls []) := by
  intro n
  induction n with
  | zero => intro H locs ls σ v1 v2 v5 v6 v7 S hl hf; cases hf
  | succ n ih =>
    intro H locs ls σ v1 v2 v5 v6 v7 S hl hf
    have hk142 := @ih
    rw [f_X2_joined_b142] at hf
    refine lv_iload C.1 C.2.1 dX2_joined_142 (lv_at hl 5 rfl) ?_
    refine r_bipush C dX2_joined_144 (by decide) ?_
    refine r_icmp_ge C rfl (show w32 24 = 24 by decide) (tgt := 215) dX2_joined_146 (by decide) (fun h27 => ?_) (fun h27 => ?_)
    · replace hf := if_t hf h27
      refine lv_iload C.1 C.2.1 dX2_joined_149 (lv_at hl 5 rfl) ?_
      refine r_iconst C dX2_joined_151 ?_
      refine r_iadd C dX2_joined_152 ?_
      refine lv_istore C.1 C.2.1 dX2_joined_153 hl (by decide) (lv' := [(8, .int (oI (v7 + 1))), (0, .ref (G.1 (27 + d))), (1, .int (oI v1)), (2, .int (oI v2)), (5, .int (oI v5)), (6, .int (oI v6)), (7, .int (oI v7))]) rfl (fun ls hl => ?_)
      exact b_X2_joined_b155 C hd hend hk142 FUEL v1 v2 v5 v6 v7 (v7 + 1) S (lv_sub hl [1, 2, 3, 4, 5, 6, 0] rfl) hf
    · replace hf := if_f hf h27
      refine lv_iload C.1 C.2.1 dX2_joined_215 (lv_at hl 4 rfl) ?_
      cases hf
      exact hend _ _ _ _ S dX2_joined_217
set_option maxRecDepth 100000 in
set_option maxHeartbeats 4000000 in
theorem b_X2_joined_b139 (C : Cx p s m args c RX2 cX2_joined 9) {d : Nat} (hd : d < 7) {q : Int × Sg} (hend : EndR p l e (rmk 3 91) s m args below meth c Q G true τ cX2_joined .ireturn [.int (oI q.1)] q.2) {H : Heap} {locs : List Loc} {ls : Array Slot} {σ : Sg} (v1 : Int) (v2 : Int) (v5 : Int) (v6 : Int) (S : St G true τ σ s H locs) (hl : lv_has ls 9 [(0, .ref (G.1 (27 + d))), (1, .int (oI v1)), (2, .int (oI v2)), (5, .int (oI v5)), (6, .int (oI v6))]) (hf : f_X2_joined_b139 d v1 v2 v5 v6 σ = some q) : W p l e (rmk 3 91) s m args below meth c H locs 0 0 Q (F0 m 139 ls []) := by
  unfold f_X2_joined_b139 at hf
  refine r_iconst C dX2_joined_139 ?_
  refine lv_istore C.1 C.2.1 dX2_joined_140 hl (by decide) (lv' := [(7, .int (oI 0)), (0, .ref (G.1 (27 + d))), (1, .int (oI v1)), (2, .int (oI v2)), (5, .int (oI v5)), (6, .int (oI v6))]) rfl (fun ls hl => ?_)
  exact b_X2_joined_b142 C hd hend FUEL v1 v2 v5 v6 0 S (lv_sub hl [1, 2, 3, 4, 5, 0] rfl) hf
set_option maxRecDepth 100000 in
set_option maxHeartbeats 4000000 in
theorem b_X2_joined_b74 (C : Cx p s m args c RX2 cX2_joined 9) {d : Nat} (hd : d < 7) {q : Int × Sg} (hend : EndR p l e (rmk 3 91) s m args below meth c Q G true τ cX2_joined .ireturn [.int (oI q.1)] q.2) : ∀ (n : Nat) {H : Heap} {locs : List Loc} {ls : Array Slot} {σ : Sg} (v1 : Int) (v2 : Int) (v5 : Int) (v6 : Int) (v7 : Int) (S : St G true τ σ s H locs) (hl : lv_has ls 9 [(0, .ref (G.1 (27 + d))), (1, .int (oI v1)), (2, .int (oI v2)), (5, .int (oI v5)), (6, .int (oI v6)), (7, .int (oI v7))]) (hf : f_X2_joined_b74 d n v1 v2 v5 v6 v7 σ = some q), W p l e (rmk 3 91) s m args below meth c H locs 0 0 Q (F0 m 74 ls []) := by
  intro n
  induction n with
  | zero => intro H locs ls σ v1 v2 v5 v6 v7 S hl hf; cases hf
  | succ n ih =>
    intro H locs ls σ v1 v2 v5 v6 v7 S hl hf
    have hk74 := @ih
    rw [f_X2_joined_b74] at hf
    refine lv_iload C.1 C.2.1 dX2_joined_74 (lv_at hl 5 rfl) ?_
    refine r_bipush C dX2_joined_76 (by decide) ?_
    refine r_icmp_ge C rfl (show w32 24 = 24 by decide) (tgt := 139) dX2_joined_78 (by decide) (fun h28 => ?_) (fun h28 => ?_)
    · replace hf := if_t hf h28
      refine lv_iload C.1 C.2.1 dX2_joined_81 (lv_at hl 3 rfl) ?_
      refine lv_iload C.1 C.2.1 dX2_joined_83 (lv_at hl 5 rfl) ?_
      obtain ⟨q9, hc10, hf⟩ := bd_o hf
      refine r_callSNv C S (As := [.int (oI v5), .int (oI v7)]) (rest := []) (ct_X9_contains l G τ hc10) mi_X9_contains (nw_485 S.2.2.2) ms_X9_contains ⟨rfl, rfl⟩ ⟨Nat.le_of_ble_eq_true rfl, Nat.le_of_ble_eq_true rfl⟩ ⟨Nat.zero_le _, Nat.zero_le _⟩ rfl hl.1 rfl (Nat.le_of_ble_eq_true rfl) dX2_joined_85 (fun H locs S => ?_)
      refine r_if_eq C rfl (tgt := 133) dX2_joined_88 (by decide) (fun h17 => ?_) (fun h17 => ?_)
      · replace hf := if_t hf h17
        exact b_X2_joined_b133 C hd hend hk74 v1 v2 v5 v6 v7 S (lv_sub hl [0, 1, 2, 3, 4, 5] rfl) hf
      · replace hf := if_f hf h17
        refine lv_aload_n C.1 C.2.1 dX2_joined_91 rfl (lv_at hl 0 rfl) ?_
        refine lv_iload_n C.1 C.2.1 dX2_joined_92 rfl (lv_at hl 1 rfl) ?_
        refine lv_iload_n C.1 C.2.1 dX2_joined_93 rfl (lv_at hl 2 rfl) ?_
        refine lv_iload C.1 C.2.1 dX2_joined_94 (lv_at hl 5 rfl) ?_
        refine lv_iload C.1 C.2.1 dX2_joined_96 (lv_at hl 3 rfl) ?_
        obtain ⟨q11, hc12, hf⟩ := bd_o hf
        refine r_callVn C S (As := [.int (oI v1), .int (oI v2), .int (oI v7), .int (oI v5)]) (rest := []) (ct_X2_holdBoth l G τ hc12) mi_X2_holdBoth tw_506 mv_X2_holdBoth (rvX2 S (d := d) (by omega)) ⟨rfl, rfl⟩ ⟨Nat.le_of_ble_eq_true rfl, Nat.le_of_ble_eq_true rfl⟩ ⟨Nat.zero_le _, Nat.zero_le _⟩ rfl hl.1 rfl (Nat.le_of_ble_eq_true rfl) dX2_joined_98 (fun H locs S => ?_)
        refine lv_iload C.1 C.2.1 dX2_joined_101 (lv_at hl 4 rfl) ?_
        refine lv_aload_n C.1 C.2.1 dX2_joined_103 rfl (lv_at hl 0 rfl) ?_
        refine g2_book C (d := d) S (by omega) tw_126 dX2_joined_104 ?_
        refine lv_aload_n C.1 C.2.1 dX2_joined_107 rfl (lv_at hl 0 rfl) ?_
        refine g2_left C (d := d) S (by omega) tw_129 dX2_joined_108 ?_
        obtain ⟨q13, hc14, hf⟩ := bd_o hf
        refine r_callVv C S (As := [.int (oI (q11 (27 + d) 3))]) (rest := [.int (oI v6)]) (ct_X0_sums l G τ hc14) mi_X0_sums tw_519 mv_X0_sums (rvX0 S) ⟨rfl, rfl⟩ ⟨Nat.le_of_ble_eq_true rfl, Nat.le_of_ble_eq_true rfl⟩ ⟨Nat.zero_le _, Nat.zero_le _⟩ rfl hl.1 rfl (Nat.le_of_ble_eq_true rfl) dX2_joined_111 (fun H locs S => ?_)
        refine lv_aload_n C.1 C.2.1 dX2_joined_114 rfl (lv_at hl 0 rfl) ?_
        refine g2_book C (d := d) S (by omega) tw_126 dX2_joined_115 ?_
        refine lv_aload_n C.1 C.2.1 dX2_joined_118 rfl (lv_at hl 0 rfl) ?_
        refine g2_right C (d := d) S (by omega) tw_130 dX2_joined_119 ?_
        obtain ⟨q15, hc16, hf⟩ := bd_o hf
        refine r_callVv C S (As := [.int (oI (q11 (27 + d) 4))]) (rest := [.int (oI q13), .int (oI v6)]) (ct_X0_sums l G τ hc16) mi_X0_sums tw_519 mv_X0_sums (rvX0 S) ⟨rfl, rfl⟩ ⟨Nat.le_of_ble_eq_true rfl, Nat.le_of_ble_eq_true rfl⟩ ⟨Nat.zero_le _, Nat.zero_le _⟩ rfl hl.1 rfl (Nat.le_of_ble_eq_true rfl) dX2_joined_122 (fun H locs S => ?_)
        refine r_mmax C (hl.1) tw_781 (by decide) (Nat.le_of_ble_eq_true rfl) dX2_joined_125 ?_
        refine r_mmax C (hl.1) tw_781 (by decide) (Nat.le_of_ble_eq_true rfl) dX2_joined_128 ?_
        refine lv_istore C.1 C.2.1 dX2_joined_131 hl (by decide) (lv' := [(6, .int (oI (mmaxI v6 (mmaxI q13 q15)))), (0, .ref (G.1 (27 + d))), (1, .int (oI v1)), (2, .int (oI v2)), (5, .int (oI v5)), (7, .int (oI v7))]) rfl (fun ls hl => ?_)
        exact b_X2_joined_b133 C hd hend hk74 v1 v2 v5 (mmaxI v6 (mmaxI q13 q15)) v7 S (lv_sub hl [1, 2, 3, 4, 0, 5] rfl) hf
    · replace hf := if_f hf h28
      exact b_X2_joined_b139 C hd hend v1 v2 v5 v6 S (lv_sub hl [0, 1, 2, 3, 4] rfl) hf
set_option maxRecDepth 100000 in
set_option maxHeartbeats 4000000 in
theorem ct_X2_joined (l : Launch) (G : Gd) (τ : Sg) {d : Nat} {v1 : Int} {v2 : Int} {v3 : Int} {v4 : Int} {σ : Sg} {q : Int × Sg} (hf : f_X2_joined d v1 v2 v3 v4 σ = some q) : Ctr l yX2_joined cX2_joined 9 (some .int) (rmk 3 91) G true τ [.ref (G.1 (27 + d)), .int (oI v1), .int (oI v2), .int (oI v3), .int (oI v4)] σ q.2 (some (.int (oI q.1))) := by
  unfold f_X2_joined at hf
  obtain ⟨hd, hf⟩ := ck_o hf
  refine CtrI.of (own := RX2) (plainFor_of_name (by decide)) (Nat.le_of_ble_eq_true rfl) rfl (fun p e s m below meth c Q ls C hl S hend => ?_)
  have hl : lv_has ls 9 [(0, .ref (G.1 (27 + d))), (1, .int (oI v1)), (2, .int (oI v2)), (3, .int (oI v3)), (4, .int (oI v4))] := hl
  refine lv_iload_n C.1 C.2.1 dX2_joined_0 rfl (lv_at hl 3 rfl) ?_
  refine lv_aload_n C.1 C.2.1 dX2_joined_1 rfl (lv_at hl 0 rfl) ?_
  refine g2_members C (d := d) S (by omega) tw_131 dX2_joined_2 ?_
  refine r_iand C rfl rfl dX2_joined_5 ?_
  refine lv_aload_n C.1 C.2.1 dX2_joined_6 rfl (lv_at hl 0 rfl) ?_
  refine g2_book C (d := d) S (by omega) tw_126 dX2_joined_7 ?_
  refine lv_iload_n C.1 C.2.1 dX2_joined_10 rfl (lv_at hl 1 rfl) ?_
  refine lv_iload_n C.1 C.2.1 dX2_joined_11 rfl (lv_at hl 2 rfl) ?_
  refine r_iconst C dX2_joined_12 ?_
  refine lv_aload_n C.1 C.2.1 dX2_joined_13 rfl (lv_at hl 0 rfl) ?_
  refine g2_radius C (d := d) S (by omega) tw_128 dX2_joined_14 ?_
  refine r_imul C dX2_joined_17 ?_
  obtain ⟨q1, hc2, hf⟩ := bd_o hf
  refine r_callVv C S (As := [.int (oI v1), .int (oI v2), .int (oI (2 * (σ (27 + d) 2)))]) (rest := [.int (oI ((((u32 v3) &&& (u32 (σ (27 + d) 5)) : Nat) : Int)))]) (ct_X0_within l G τ hc2) mi_X0_within tw_491 mv_X0_within (rvX0 S) ⟨rfl, rfl⟩ ⟨Nat.le_of_ble_eq_true rfl, Nat.le_of_ble_eq_true rfl⟩ ⟨Nat.zero_le _, Nat.zero_le _⟩ rfl hl.1 rfl (Nat.le_of_ble_eq_true rfl) dX2_joined_18 (fun H locs S => ?_)
  refine r_iand C (u32_nat (nb_and (u32_lt _))) rfl dX2_joined_21 ?_
  refine lv_istore C.1 C.2.1 dX2_joined_22 hl (by decide) (lv' := [(5, .int (oI (((((u32 v3) &&& (u32 (σ (27 + d) 5))) &&& (u32 q1) : Nat) : Int)))), (0, .ref (G.1 (27 + d))), (1, .int (oI v1)), (2, .int (oI v2)), (3, .int (oI v3)), (4, .int (oI v4))]) rfl (fun ls hl => ?_)
  refine lv_iload C.1 C.2.1 dX2_joined_24 (lv_at hl 5 rfl) ?_
  refine lv_aload_n C.1 C.2.1 dX2_joined_26 rfl (lv_at hl 1 rfl) ?_
  refine g2_book C (d := d) S (by omega) tw_126 dX2_joined_27 ?_
  refine lv_iload C.1 C.2.1 dX2_joined_30 (lv_at hl 0 rfl) ?_
  refine lv_aload_n C.1 C.2.1 dX2_joined_32 rfl (lv_at hl 1 rfl) ?_
  refine g2_book C (d := d) S (by omega) tw_126 dX2_joined_33 ?_
  refine lv_iload_n C.1 C.2.1 dX2_joined_36 rfl (lv_at hl 2 rfl) ?_
  refine lv_iload_n C.1 C.2.1 dX2_joined_37 rfl (lv_at hl 3 rfl) ?_
  refine lv_aload_n C.1 C.2.1 dX2_joined_38 rfl (lv_at hl 1 rfl) ?_
  refine g2_radius C (d := d) S (by omega) tw_128 dX2_joined_39 ?_
  obtain ⟨q3, hc4, hf⟩ := bd_o hf
  refine r_callVv C S (As := [.int (oI v1), .int (oI v2), .int (oI (σ (27 + d) 2))]) (rest := [.int (oI (((((u32 v3) &&& (u32 (σ (27 + d) 5))) &&& (u32 q1) : Nat) : Int))), .ref (G.1 6), .int (oI v4)]) (ct_X0_within l G τ hc4) mi_X0_within tw_491 mv_X0_within (rvX0 S) ⟨rfl, rfl⟩ ⟨Nat.le_of_ble_eq_true rfl, Nat.le_of_ble_eq_true rfl⟩ ⟨Nat.zero_le _, Nat.zero_le _⟩ rfl hl.1 rfl (Nat.le_of_ble_eq_true rfl) dX2_joined_42 (fun H locs S => ?_)
  refine r_iand C (u32_nat (nb_and (nb_and (u32_lt _)))) rfl dX2_joined_45 ?_
  obtain ⟨q5, hc6, hf⟩ := bd_o hf
  refine r_callVv C S (As := [.int (oI ((((((u32 v3) &&& (u32 (σ (27 + d) 5))) &&& (u32 q1)) &&& (u32 q3) : Nat) : Int)))]) (rest := [.int (oI v4)]) (ct_X0_sums l G τ hc6) mi_X0_sums tw_519 mv_X0_sums (rvX0 S) ⟨rfl, rfl⟩ ⟨Nat.le_of_ble_eq_true rfl, Nat.le_of_ble_eq_true rfl⟩ ⟨Nat.zero_le _, Nat.zero_le _⟩ rfl hl.1 rfl (Nat.le_of_ble_eq_true rfl) dX2_joined_46 (fun H locs S => ?_)
  refine r_mmax C (hl.1) tw_781 (by decide) (Nat.le_of_ble_eq_true rfl) dX2_joined_49 ?_
  refine lv_istore C.1 C.2.1 dX2_joined_52 hl (by decide) (lv' := [(6, .int (oI (mmaxI v4 q5))), (5, .int (oI (((((u32 v3) &&& (u32 (σ (27 + d) 5))) &&& (u32 q1) : Nat) : Int)))), (0, .ref (G.1 (27 + d))), (1, .int (oI v1)), (2, .int (oI v2)), (3, .int (oI v3)), (4, .int (oI v4))]) rfl (fun ls hl => ?_)
  refine lv_aload_n C.1 C.2.1 dX2_joined_54 rfl (lv_at hl 2 rfl) ?_
  refine g2_book C (d := d) S (by omega) tw_126 dX2_joined_55 ?_
  refine lv_iload C.1 C.2.1 dX2_joined_58 (lv_at hl 1 rfl) ?_
  obtain ⟨q7, hc8, hf⟩ := bd_o hf
  refine r_callVv C S (As := [.int (oI (((((u32 v3) &&& (u32 (σ (27 + d) 5))) &&& (u32 q1) : Nat) : Int)))]) (rest := []) (ct_X0_sums l G τ hc8) mi_X0_sums tw_519 mv_X0_sums (rvX0 S) ⟨rfl, rfl⟩ ⟨Nat.le_of_ble_eq_true rfl, Nat.le_of_ble_eq_true rfl⟩ ⟨Nat.zero_le _, Nat.zero_le _⟩ rfl hl.1 rfl (Nat.le_of_ble_eq_true rfl) dX2_joined_60 (fun H locs S => ?_)
  refine lv_iload C.1 C.2.1 dX2_joined_63 (lv_at hl 0 rfl) ?_
  refine r_icmp_gt C rfl rfl (tgt := 71) dX2_joined_65 (by decide) (fun h29 => ?_) (fun h29 => ?_)
  · replace hf := if_t hf h29
    refine lv_iload C.1 C.2.1 dX2_joined_68 (lv_at hl 0 rfl) ?_
    cases hf
    exact hend _ _ _ _ S dX2_joined_70
  · replace hf := if_f hf h29
    refine r_iconst C dX2_joined_71 ?_
    refine lv_istore C.1 C.2.1 dX2_joined_72 hl (by decide) (lv' := [(7, .int (oI 0)), (6, .int (oI (mmaxI v4 q5))), (5, .int (oI (((((u32 v3) &&& (u32 (σ (27 + d) 5))) &&& (u32 q1) : Nat) : Int)))), (0, .ref (G.1 (27 + d))), (1, .int (oI v1)), (2, .int (oI v2)), (3, .int (oI v3)), (4, .int (oI v4))]) rfl (fun ls hl => ?_)
    exact b_X2_joined_b74 C hd hend FUEL v1 v2 (((((u32 v3) &&& (u32 (σ (27 + d) 5))) &&& (u32 q1) : Nat) : Int)) (mmaxI v4 q5) 0 S (lv_sub hl [3, 4, 5, 2, 1, 0] rfl) hf
set_option maxRecDepth 100000 in
set_option maxHeartbeats 4000000 in
theorem ct_X9_ifWritten (l : Launch) (G : Gd) (τ : Sg) {v1 : Int} {v2 : Int} {v3 : Int} {v4 : Int} {v5 : Int} {σ : Sg} {q : Int × Sg} (hf : f_X9_ifWritten v1 v2 v3 v4 v5 σ = some q) : Ctr l yX9_ifWritten cX9_ifWritten 7 (some .int) (rmk 4 119) G true τ [.ref (G.1 0), .int (oI v1), .int (oI v2), .int (oI v3), .int (oI v4), .int (oI v5)] σ q.2 (some (.int (oI q.1))) := by
  unfold f_X9_ifWritten at hf
  refine CtrI.of (own := RX9) (plainFor_of_name (by decide)) (Nat.le_of_ble_eq_true rfl) rfl (fun p e s m below meth c Q ls C hl S hend => ?_)
  have hl : lv_has ls 7 [(0, .ref (G.1 0)), (1, .int (oI v1)), (2, .int (oI v2)), (3, .int (oI v3)), (4, .int (oI v4)), (5, .int (oI v5))] := hl
  refine lv_aload_n C.1 C.2.1 dX9_ifWritten_0 rfl (lv_at hl 0 rfl) ?_
  refine lv_iload_n C.1 C.2.1 dX9_ifWritten_1 rfl (lv_at hl 1 rfl) ?_
  obtain ⟨q1, hc2, hf⟩ := bd_o hf
  refine r_callVv C S (As := [.int (oI v1)]) (rest := []) (ct_X9_treatyAt l G τ hc2) mi_X9_treatyAt tw_528 mv_X9_treatyAt (rvX9 S) ⟨rfl, rfl⟩ ⟨Nat.le_of_ble_eq_true rfl, Nat.le_of_ble_eq_true rfl⟩ ⟨Nat.zero_le _, Nat.zero_le _⟩ rfl hl.1 rfl (Nat.le_of_ble_eq_true rfl) dX9_ifWritten_2 (fun H locs S => ?_)
  rcases q1 with _ | t3
  · replace hf := oT_n hf
    refine lv_astoreN C.1 C.2.1 dX9_ifWritten_5 hl (by decide) (lv' := [(6, .null), (0, .ref (G.1 0)), (1, .int (oI v1)), (2, .int (oI v2)), (3, .int (oI v3)), (4, .int (oI v4)), (5, .int (oI v5))]) rfl (fun ls hl => ?_)
    refine lv_aloadN C.1 C.2.1 dX9_ifWritten_7 (lv_at hl 0 rfl) ?_
    refine lv_ifnullN C.1 C.2.1 (tgt := 36) dX9_ifWritten_9 (by decide) ?_
    refine r_iconst C dX9_ifWritten_36 ?_
    cases hf
    exact hend _ _ _ _ S dX9_ifWritten_37
  · obtain ⟨ht3, hf⟩ := oT_s hf
    refine lv_astore C.1 C.2.1 dX9_ifWritten_5 hl (by decide) (lv' := [(6, .ref (G.1 (21 + t3))), (0, .ref (G.1 0)), (1, .int (oI v1)), (2, .int (oI v2)), (3, .int (oI v3)), (4, .int (oI v4)), (5, .int (oI v5))]) rfl (fun ls hl => ?_)
    refine lv_aload C.1 C.2.1 dX9_ifWritten_7 (lv_at hl 0 rfl) ?_
    refine lv_ifnull C.1 C.2.1 dX9_ifWritten_9 ?_
    refine lv_iload_n C.1 C.2.1 dX9_ifWritten_12 rfl (lv_at hl 3 rfl) ?_
    refine lv_iload_n C.1 C.2.1 dX9_ifWritten_13 rfl (lv_at hl 4 rfl) ?_
    obtain ⟨q4, hc5, hf⟩ := bd_o hf
    refine r_callSv C S (As := [.int (oI v2), .int (oI v3)]) (rest := []) (ct_X9_isPlace l G τ hc5) mi_X9_isPlace tw_549 ms_X9_isPlace ⟨rfl, rfl⟩ ⟨Nat.le_of_ble_eq_true rfl, Nat.le_of_ble_eq_true rfl⟩ ⟨Nat.zero_le _, Nat.zero_le _⟩ rfl hl.1 rfl (Nat.le_of_ble_eq_true rfl) dX9_ifWritten_14 (fun H locs S => ?_)
    refine r_if_eq C rfl (tgt := 36) dX9_ifWritten_17 (by decide) (fun h17 => ?_) (fun h17 => ?_)
    · replace hf := if_t hf h17
      refine r_iconst C dX9_ifWritten_36 ?_
      cases hf
      exact hend _ _ _ _ S dX9_ifWritten_37
    · replace hf := if_f hf h17
      refine lv_iload C.1 C.2.1 dX9_ifWritten_20 (lv_at hl 5 rfl) ?_
      obtain ⟨q6, hc7, hf⟩ := bd_o hf
      refine r_callSv C S (As := [.int (oI v4)]) (rest := []) (ct_X9_isSum l G τ hc7) mi_X9_isSum tw_552 ms_X9_isSum ⟨rfl, rfl⟩ ⟨Nat.le_of_ble_eq_true rfl, Nat.le_of_ble_eq_true rfl⟩ ⟨Nat.zero_le _, Nat.zero_le _⟩ rfl hl.1 rfl (Nat.le_of_ble_eq_true rfl) dX9_ifWritten_22 (fun H locs S => ?_)
      refine r_if_eq C rfl (tgt := 36) dX9_ifWritten_25 (by decide) (fun h16 => ?_) (fun h16 => ?_)
      · replace hf := if_t hf h16
        refine r_iconst C dX9_ifWritten_36 ?_
        cases hf
        exact hend _ _ _ _ S dX9_ifWritten_37
      · replace hf := if_f hf h16
        refine lv_iload C.1 C.2.1 dX9_ifWritten_28 (lv_at hl 6 rfl) ?_
        obtain ⟨q8, hc9, hf⟩ := bd_o hf
        refine r_callSv C S (As := [.int (oI v5)]) (rest := []) (ct_X9_isPeril l G τ hc9) mi_X9_isPeril tw_556 ms_X9_isPeril ⟨rfl, rfl⟩ ⟨Nat.le_of_ble_eq_true rfl, Nat.le_of_ble_eq_true rfl⟩ ⟨Nat.zero_le _, Nat.zero_le _⟩ rfl hl.1 rfl (Nat.le_of_ble_eq_true rfl) dX9_ifWritten_30 (fun H locs S => ?_)
        refine r_if_ne C rfl (tgt := 38) dX9_ifWritten_33 (by decide) (fun h15 => ?_) (fun h15 => ?_)
        · replace hf := if_t hf h15
          refine r_iconst C dX9_ifWritten_36 ?_
          cases hf
          exact hend _ _ _ _ S dX9_ifWritten_37
        · replace hf := if_f hf h15
          refine lv_aload C.1 C.2.1 dX9_ifWritten_38 (lv_at hl 0 rfl) ?_
          refine lv_iload C.1 C.2.1 dX9_ifWritten_40 (lv_at hl 6 rfl) ?_
          obtain ⟨q10, hc11, hf⟩ := bd_o hf
          refine r_callVv C S (As := [.int (oI v5)]) (rest := []) (ct_X8_takes l G τ hc11) mi_X8_takes tw_567 mv_X8_takes (rvX8 S (d := t3) (by omega)) ⟨rfl, rfl⟩ ⟨Nat.le_of_ble_eq_true rfl, Nat.le_of_ble_eq_true rfl⟩ ⟨Nat.zero_le _, Nat.zero_le _⟩ rfl hl.1 rfl (Nat.le_of_ble_eq_true rfl) dX9_ifWritten_42 (fun H locs S => ?_)
          refine r_if_ne C rfl (tgt := 54) dX9_ifWritten_45 (by decide) (fun h14 => ?_) (fun h14 => ?_)
          · replace hf := if_t hf h14
            refine lv_aload C.1 C.2.1 dX9_ifWritten_48 (lv_at hl 0 rfl) ?_
            refine g8_worstSums C (d := t3) S (by omega) tw_159 dX9_ifWritten_50 ?_
            cases hf
            exact hend _ _ _ _ S dX9_ifWritten_53
          · replace hf := if_f hf h14
            refine lv_aload C.1 C.2.1 dX9_ifWritten_54 (lv_at hl 0 rfl) ?_
            refine g8_worstSums C (d := t3) S (by omega) tw_159 dX9_ifWritten_56 ?_
            refine lv_aload C.1 C.2.1 dX9_ifWritten_59 (lv_at hl 0 rfl) ?_
            refine g8_discs C (d := t3) S (by omega) tw_149 dX9_ifWritten_61 ?_
            refine lv_iload_n C.1 C.2.1 dX9_ifWritten_64 rfl (lv_at hl 3 rfl) ?_
            refine lv_iload_n C.1 C.2.1 dX9_ifWritten_65 rfl (lv_at hl 4 rfl) ?_
            refine r_ldcw C tw_776 dX9_ifWritten_66 ?_
            refine r_iconst C dX9_ifWritten_69 ?_
            obtain ⟨q12, hc13, hf⟩ := bd_o hf
            refine r_callVv C S (As := [.int (oI v2), .int (oI v3), .int (oI 16777215), .int (oI 0)]) (rest := [.int (oI (σ (21 + t3) 6))]) (ct_X2_joined l G τ hc13) mi_X2_joined tw_777 mv_X2_joined (rvX2 S (d := t3) (by omega)) ⟨rfl, rfl⟩ ⟨Nat.le_of_ble_eq_true rfl, Nat.le_of_ble_eq_true rfl⟩ ⟨Nat.zero_le _, Nat.zero_le _⟩ rfl hl.1 rfl (Nat.le_of_ble_eq_true rfl) dX9_ifWritten_70 (fun H locs S => ?_)
            refine lv_iload C.1 C.2.1 dX9_ifWritten_73 (lv_at hl 5 rfl) ?_
            refine r_iadd C dX9_ifWritten_75 ?_
            refine r_mmax C (hl.1) tw_671 (by decide) (Nat.le_of_ble_eq_true rfl) dX9_ifWritten_76 ?_
            cases hf
            exact hend _ _ _ _ S dX9_ifWritten_79
set_option maxRecDepth 100000 in
set_option maxHeartbeats 4000000 in
theorem ct_X9_about (l : Launch) (G : Gd) (τ : Sg) {v1 : Int} {v2 : Int} {v3 : Int} {σ : Sg} {q : Int × Sg} (hf : f_X9_about v1 v2 v3 σ = some q) : Ctr l yX9_about cX9_about 5 (some .int) (rmk 4 119) G true τ [.ref (G.1 0), .int (oI v1), .int (oI v2), .int (oI v3)] σ q.2 (some (.int (oI q.1))) := by
  unfold f_X9_about at hf
  refine CtrI.of (own := RX9) (plainFor_of_name (by decide)) (Nat.le_of_ble_eq_true rfl) rfl (fun p e s m below meth c Q ls C hl S hend => ?_)
  have hl : lv_has ls 5 [(0, .ref (G.1 0)), (1, .int (oI v1)), (2, .int (oI v2)), (3, .int (oI v3))] := hl
  refine lv_aload_n C.1 C.2.1 dX9_about_0 rfl (lv_at hl 0 rfl) ?_
  refine lv_iload_n C.1 C.2.1 dX9_about_1 rfl (lv_at hl 1 rfl) ?_
  obtain ⟨q1, hc2, hf⟩ := bd_o hf
  refine r_callVv C S (As := [.int (oI v1)]) (rest := []) (ct_X9_treatyAt l G τ hc2) mi_X9_treatyAt tw_528 mv_X9_treatyAt (rvX9 S) ⟨rfl, rfl⟩ ⟨Nat.le_of_ble_eq_true rfl, Nat.le_of_ble_eq_true rfl⟩ ⟨Nat.zero_le _, Nat.zero_le _⟩ rfl hl.1 rfl (Nat.le_of_ble_eq_true rfl) dX9_about_2 (fun H locs S => ?_)
  rcases q1 with _ | t3
  · replace hf := oT_n hf
    refine lv_astoreN C.1 C.2.1 dX9_about_5 hl (by decide) (lv' := [(4, .null), (0, .ref (G.1 0)), (1, .int (oI v1)), (2, .int (oI v2)), (3, .int (oI v3))]) rfl (fun ls hl => ?_)
    refine lv_aloadN C.1 C.2.1 dX9_about_7 (lv_at hl 0 rfl) ?_
    refine lv_ifnullN C.1 C.2.1 (tgt := 20) dX9_about_9 (by decide) ?_
    refine r_iconst C dX9_about_20 ?_
    refine lv_goto C.1 C.2.1 (tgt := 38) dX9_about_21 (by decide) ?_
    cases hf
    exact hend _ _ _ _ S dX9_about_38
  · obtain ⟨ht3, hf⟩ := oT_s hf
    refine lv_astore C.1 C.2.1 dX9_about_5 hl (by decide) (lv' := [(4, .ref (G.1 (21 + t3))), (0, .ref (G.1 0)), (1, .int (oI v1)), (2, .int (oI v2)), (3, .int (oI v3))]) rfl (fun ls hl => ?_)
    refine lv_aload C.1 C.2.1 dX9_about_7 (lv_at hl 0 rfl) ?_
    refine lv_ifnull C.1 C.2.1 dX9_about_9 ?_
    refine lv_iload_n C.1 C.2.1 dX9_about_12 rfl (lv_at hl 3 rfl) ?_
    refine lv_iload_n C.1 C.2.1 dX9_about_13 rfl (lv_at hl 4 rfl) ?_
    obtain ⟨q4, hc5, hf⟩ := bd_o hf
    refine r_callSv C S (As := [.int (oI v2), .int (oI v3)]) (rest := []) (ct_X9_isPlace l G τ hc5) mi_X9_isPlace tw_549 ms_X9_isPlace ⟨rfl, rfl⟩ ⟨Nat.le_of_ble_eq_true rfl, Nat.le_of_ble_eq_true rfl⟩ ⟨Nat.zero_le _, Nat.zero_le _⟩ rfl hl.1 rfl (Nat.le_of_ble_eq_true rfl) dX9_about_14 (fun H locs S => ?_)
    refine r_if_ne C rfl (tgt := 24) dX9_about_17 (by decide) (fun h8 => ?_) (fun h8 => ?_)
    · replace hf := if_t hf h8
      refine r_iconst C dX9_about_20 ?_
      refine lv_goto C.1 C.2.1 (tgt := 38) dX9_about_21 (by decide) ?_
      cases hf
      exact hend _ _ _ _ S dX9_about_38
    · replace hf := if_f hf h8
      refine lv_aload C.1 C.2.1 dX9_about_24 (lv_at hl 0 rfl) ?_
      refine g8_discs C (d := t3) S (by omega) tw_149 dX9_about_26 ?_
      refine lv_iload_n C.1 C.2.1 dX9_about_29 rfl (lv_at hl 3 rfl) ?_
      refine lv_iload_n C.1 C.2.1 dX9_about_30 rfl (lv_at hl 4 rfl) ?_
      refine r_ldcw C tw_776 dX9_about_31 ?_
      refine r_iconst C dX9_about_34 ?_
      obtain ⟨q6, hc7, hf⟩ := bd_o hf
      refine r_callVv C S (As := [.int (oI v2), .int (oI v3), .int (oI 16777215), .int (oI 0)]) (rest := []) (ct_X2_joined l G τ hc7) mi_X2_joined tw_777 mv_X2_joined (rvX2 S (d := t3) (by omega)) ⟨rfl, rfl⟩ ⟨Nat.le_of_ble_eq_true rfl, Nat.le_of_ble_eq_true rfl⟩ ⟨Nat.zero_le _, Nat.zero_le _⟩ rfl hl.1 rfl (Nat.le_of_ble_eq_true rfl) dX9_about_35 (fun H locs S => ?_)
      cases hf
      exact hend _ _ _ _ S dX9_about_38
set_option maxRecDepth 100000 in
set_option maxHeartbeats 4000000 in
theorem b_X9_most_b93 (C : Cx p s m args c RX9 cX9_most 7) {q : Int × Sg} {k25 : Int → Int → Int → Int → Int → Sg → Option (Int × Sg)} (hend : EndR p l e (rmk 4 119) s m args below meth c Q G true τ cX9_most .ireturn [.int (oI q.1)] q.2) (hk25 : ∀ {H : Heap} {locs : List Loc} {ls : Array Slot} {σ : Sg} (v1 : Int) (v2 : Int) (v3 : Int) (v4 : Int) (v5 : Int), St G true τ σ s H locs → lv_has ls 7 [(0, .ref (G.1 0)), (1, .int (oI v1)), (2, .int (oI v2)), (3, .int (oI v3)), (4, .int (oI v4)), (5, .int (oI v5))] → k25 v1 v2 v3 v4 v5 σ = some q → W p l e (rmk 4 119) s m args below meth c H locs 0 0 Q (F0 m 25 ls [])) {H : Heap} {locs : List Loc} {ls : Array Slot} {σ : Sg} (v1 : Int) (v2 : Int) (v3 : Int) (v4 : Int) (v5 : Int) (S : St G true τ σ s H locs) (hl : lv_has ls 7 [(0, .ref (G.1 0)), (1, .int (oI v1)), (2, .int (oI v2)), (3, .int (oI v3)), (4, .int (oI v4)), (5, .int (oI v5))]) (hf : f_X9_most_b93 k25 v1 v2 v3 v4 v5 σ = some q) : W p l e (rmk 4 119) s m args below meth c H locs 0 0 Q (F0 m 93 ls []) := by
  unfold f_X9_most_b93 at hf
  refine r_iinc C dX9_most_93 hl (k := 5) rfl (by decide) (lv' := [(5, .int (oI (v5 + 1))), (0, .ref (G.1 0)), (1, .int (oI v1)), (2, .int (oI v2)), (3, .int (oI v3)), (4, .int (oI v4))]) rfl (fun ls hl => ?_)
  refine lv_goto C.1 C.2.1 (tgt := 25) dX9_most_96 (by decide) ?_
  exact hk25 v1 v2 v3 v4 (v5 + 1) S (lv_sub hl [1, 2, 3, 4, 5, 0] rfl) hf
set_option maxRecDepth 100000 in
set_option maxHeartbeats 4000000 in
theorem b_X9_most_b25 (C : Cx p s m args c RX9 cX9_most 7) {q : Int × Sg} (hend : EndR p l e (rmk 4 119) s m args below meth c Q G true τ cX9_most .ireturn [.int (oI q.1)] q.2) : ∀ (n : Nat) {H : Heap} {locs : List Loc} {ls : Array Slot} {σ : Sg} (v1 : Int) (v2 : Int) (v3 : Int) (v4 : Int) (v5 : Int) (S : St G true τ σ s H locs) (hl : lv_has ls 7 [(0, .ref (G.1 0)), (1, .int (oI v1)), (2, .int (oI v2)), (3, .int (oI v3)), (4, .int (oI v4)), (5, .int (oI v5))]) (hf : f_X9_most_b25 n v1 v2 v3 v4 v5 σ = some q), W p l e (rmk 4 119) s m args below meth c H locs 0 0 Q (F0 m 25 ls []) := by
  intro n
  induction n with
  | zero => intro H locs ls σ v1 v2 v3 v4 v5 S hl hf; cases hf
  | succ n ih =>
    intro H locs ls σ v1 v2 v3 v4 v5 S hl hf
    have hk25 := @ih
    rw [f_X9_most_b25] at hf
    refine lv_iload C.1 C.2.1 dX9_most_25 (lv_at hl 5 rfl) ?_
    refine lv_aload_n C.1 C.2.1 dX9_most_27 rfl (lv_at hl 0 rfl) ?_
    refine g9_treatyCount C S tw_284 dX9_most_28 ?_
    refine r_icmp_ge C rfl rfl (tgt := 99) dX9_most_31 (by decide) (fun h16 => ?_) (fun h16 => ?_)
    · replace hf := if_t hf h16
      refine lv_aload_n C.1 C.2.1 dX9_most_34 rfl (lv_at hl 0 rfl) ?_
      refine lv_iload C.1 C.2.1 dX9_most_35 (lv_at hl 5 rfl) ?_
      obtain ⟨q5, hc6, hf⟩ := bd_o hf
      refine r_callVv C S (As := [.int (oI v5)]) (rest := []) (ct_X9_treatyAt l G τ hc6) mi_X9_treatyAt tw_528 mv_X9_treatyAt (rvX9 S) ⟨rfl, rfl⟩ ⟨Nat.le_of_ble_eq_true rfl, Nat.le_of_ble_eq_true rfl⟩ ⟨Nat.zero_le _, Nat.zero_le _⟩ rfl hl.1 rfl (Nat.le_of_ble_eq_true rfl) dX9_most_37 (fun H locs S => ?_)
      rcases q5 with _ | t7
      · replace hf := oT_n hf
        refine lv_astoreN C.1 C.2.1 dX9_most_40 hl (by decide) (lv' := [(6, .null), (0, .ref (G.1 0)), (1, .int (oI v1)), (2, .int (oI v2)), (3, .int (oI v3)), (4, .int (oI v4)), (5, .int (oI v5))]) rfl (fun ls hl => ?_)
        refine lv_aloadN C.1 C.2.1 dX9_most_42 (lv_at hl 0 rfl) ?_
        refine lv_ifnullN C.1 C.2.1 (tgt := 93) dX9_most_44 (by decide) ?_
        exact b_X9_most_b93 C hend hk25 v1 v2 v3 v4 v5 S (lv_sub hl [1, 2, 3, 4, 5, 6] rfl) hf
      · obtain ⟨ht7, hf⟩ := oT_s hf
        refine lv_astore C.1 C.2.1 dX9_most_40 hl (by decide) (lv' := [(6, .ref (G.1 (21 + t7))), (0, .ref (G.1 0)), (1, .int (oI v1)), (2, .int (oI v2)), (3, .int (oI v3)), (4, .int (oI v4)), (5, .int (oI v5))]) rfl (fun ls hl => ?_)
        refine lv_aload C.1 C.2.1 dX9_most_42 (lv_at hl 0 rfl) ?_
        refine lv_ifnull C.1 C.2.1 dX9_most_44 ?_
        refine lv_aload C.1 C.2.1 dX9_most_47 (lv_at hl 0 rfl) ?_
        refine lv_iload_n C.1 C.2.1 dX9_most_49 rfl (lv_at hl 4 rfl) ?_
        obtain ⟨q8, hc9, hf⟩ := bd_o hf
        refine r_callVv C S (As := [.int (oI v3)]) (rest := []) (ct_X8_takes l G τ hc9) mi_X8_takes tw_567 mv_X8_takes (rvX8 S (d := t7) (by omega)) ⟨rfl, rfl⟩ ⟨Nat.le_of_ble_eq_true rfl, Nat.le_of_ble_eq_true rfl⟩ ⟨Nat.zero_le _, Nat.zero_le _⟩ rfl hl.1 rfl (Nat.le_of_ble_eq_true rfl) dX9_most_50 (fun H locs S => ?_)
        refine r_if_eq C rfl (tgt := 93) dX9_most_53 (by decide) (fun h15 => ?_) (fun h15 => ?_)
        · replace hf := if_t hf h15
          exact b_X9_most_b93 C hend hk25 v1 v2 v3 v4 v5 S (lv_sub hl [1, 2, 3, 4, 5, 6] rfl) hf
        · replace hf := if_f hf h15
          refine lv_aload C.1 C.2.1 dX9_most_56 (lv_at hl 0 rfl) ?_
          obtain ⟨q10, hc11, hf⟩ := bd_o hf
          refine r_callVv C S (As := []) (rest := []) (ct_X8_isPassed l G τ hc11) mi_X8_isPassed tw_532 mv_X8_isPassed (rvX8 S (d := t7) (by omega)) ⟨rfl, rfl⟩ ⟨Nat.le_of_ble_eq_true rfl, Nat.le_of_ble_eq_true rfl⟩ ⟨Nat.zero_le _, Nat.zero_le _⟩ rfl hl.1 rfl (Nat.le_of_ble_eq_true rfl) dX9_most_58 (fun H locs S => ?_)
          refine r_if_eq C rfl (tgt := 66) dX9_most_61 (by decide) (fun h14 => ?_) (fun h14 => ?_)
          · replace hf := if_t hf h14
            refine lv_iload C.1 C.2.1 dX9_most_66 (lv_at hl 5 rfl) ?_
            refine lv_aload C.1 C.2.1 dX9_most_68 (lv_at hl 0 rfl) ?_
            refine g8_limit C (d := t7) S (by omega) tw_155 dX9_most_70 ?_
            refine lv_aload C.1 C.2.1 dX9_most_73 (lv_at hl 0 rfl) ?_
            refine g8_discs C (d := t7) S (by omega) tw_149 dX9_most_75 ?_
            refine lv_iload_n C.1 C.2.1 dX9_most_78 rfl (lv_at hl 2 rfl) ?_
            refine lv_iload_n C.1 C.2.1 dX9_most_79 rfl (lv_at hl 3 rfl) ?_
            refine r_ldcw C tw_776 dX9_most_80 ?_
            refine r_iconst C dX9_most_83 ?_
            obtain ⟨q12, hc13, hf⟩ := bd_o hf
            refine r_callVv C S (As := [.int (oI v1), .int (oI v2), .int (oI 16777215), .int (oI 0)]) (rest := [.int (oI (σ (21 + t7) 4)), .int (oI v4)]) (ct_X2_joined l G τ hc13) mi_X2_joined tw_777 mv_X2_joined (rvX2 S (d := t7) (by omega)) ⟨rfl, rfl⟩ ⟨Nat.le_of_ble_eq_true rfl, Nat.le_of_ble_eq_true rfl⟩ ⟨Nat.zero_le _, Nat.zero_le _⟩ rfl hl.1 rfl (Nat.le_of_ble_eq_true rfl) dX9_most_84 (fun H locs S => ?_)
            refine r_isub C dX9_most_87 ?_
            refine r_mmin C (hl.1) tw_670 (by decide) (Nat.le_of_ble_eq_true rfl) dX9_most_88 ?_
            refine lv_istore C.1 C.2.1 dX9_most_91 hl (by decide) (lv' := [(4, .int (oI (mminI v4 ((σ (21 + t7) 4) - q12.1)))), (6, .ref (G.1 (21 + t7))), (0, .ref (G.1 0)), (1, .int (oI v1)), (2, .int (oI v2)), (3, .int (oI v3)), (5, .int (oI v5))]) rfl (fun ls hl => ?_)
            exact b_X9_most_b93 C hend hk25 v1 v2 v3 (mminI v4 ((σ (21 + t7) 4) - q12.1)) v5 S (lv_sub hl [2, 3, 4, 5, 0, 6] rfl) hf
          · replace hf := if_f hf h14
            refine r_iconst C dX9_most_64 ?_
            cases hf
            exact hend _ _ _ _ S dX9_most_65
    · replace hf := if_f hf h16
      refine lv_iload C.1 C.2.1 dX9_most_99 (lv_at hl 4 rfl) ?_
      cases hf
      exact hend _ _ _ _ S dX9_most_101
set_option maxRecDepth 100000 in
set_option maxHeartbeats 4000000 in
theorem ct_X9_most (l : Launch) (G : Gd) (τ : Sg) {v1 : Int} {v2 : Int} {v3 : Int} {σ : Sg} {q : Int × Sg} (hf : f_X9_most v1 v2 v3 σ = some q) : Ctr l yX9_most cX9_most 7 (some .int) (rmk 4 119) G true τ [.ref (G.1 0), .int (oI v1), .int (oI v2), .int (oI v3)] σ q.2 (some (.int (oI q.1))) := by
  unfold f_X9_most at hf
  refine CtrI.of (own := RX9) (plainFor_of_name (by decide)) (Nat.le_of_ble_eq_true rfl) rfl (fun p e s m below meth c Q ls C hl S hend => ?_)
  have hl : lv_has ls 7 [(0, .ref (G.1 0)), (1, .int (oI v1)), (2, .int (oI v2)), (3, .int (oI v3))] := hl
  refine lv_iload_n C.1 C.2.1 dX9_most_0 rfl (lv_at hl 1 rfl) ?_
  refine lv_iload_n C.1 C.2.1 dX9_most_1 rfl (lv_at hl 2 rfl) ?_
  obtain ⟨q1, hc2, hf⟩ := bd_o hf
  refine r_callSv C S (As := [.int (oI v1), .int (oI v2)]) (rest := []) (ct_X9_isPlace l G τ hc2) mi_X9_isPlace tw_549 ms_X9_isPlace ⟨rfl, rfl⟩ ⟨Nat.le_of_ble_eq_true rfl, Nat.le_of_ble_eq_true rfl⟩ ⟨Nat.zero_le _, Nat.zero_le _⟩ rfl hl.1 rfl (Nat.le_of_ble_eq_true rfl) dX9_most_2 (fun H locs S => ?_)
  refine r_if_eq C rfl (tgt := 15) dX9_most_5 (by decide) (fun h18 => ?_) (fun h18 => ?_)
  · replace hf := if_t hf h18
    refine r_iconst C dX9_most_15 ?_
    cases hf
    exact hend _ _ _ _ S dX9_most_16
  · replace hf := if_f hf h18
    refine lv_iload_n C.1 C.2.1 dX9_most_8 rfl (lv_at hl 3 rfl) ?_
    obtain ⟨q3, hc4, hf⟩ := bd_o hf
    refine r_callSv C S (As := [.int (oI v3)]) (rest := []) (ct_X9_isPeril l G τ hc4) mi_X9_isPeril tw_556 ms_X9_isPeril ⟨rfl, rfl⟩ ⟨Nat.le_of_ble_eq_true rfl, Nat.le_of_ble_eq_true rfl⟩ ⟨Nat.zero_le _, Nat.zero_le _⟩ rfl hl.1 rfl (Nat.le_of_ble_eq_true rfl) dX9_most_9 (fun H locs S => ?_)
    refine r_if_ne C rfl (tgt := 17) dX9_most_12 (by decide) (fun h17 => ?_) (fun h17 => ?_)
    · replace hf := if_t hf h17
      refine r_iconst C dX9_most_15 ?_
      cases hf
      exact hend _ _ _ _ S dX9_most_16
    · replace hf := if_f hf h17
      refine r_ldcw C tw_555 dX9_most_17 ?_
      refine lv_istore C.1 C.2.1 dX9_most_20 hl (by decide) (lv' := [(4, .int (oI 99999)), (0, .ref (G.1 0)), (1, .int (oI v1)), (2, .int (oI v2)), (3, .int (oI v3))]) rfl (fun ls hl => ?_)
      refine r_iconst C dX9_most_22 ?_
      refine lv_istore C.1 C.2.1 dX9_most_23 hl (by decide) (lv' := [(5, .int (oI 0)), (4, .int (oI 99999)), (0, .ref (G.1 0)), (1, .int (oI v1)), (2, .int (oI v2)), (3, .int (oI v3))]) rfl (fun ls hl => ?_)
      exact b_X9_most_b25 C hend FUEL v1 v2 v3 99999 0 S (lv_sub hl [2, 3, 4, 5, 1, 0] rfl) hf
set_option maxRecDepth 100000 in
set_option maxHeartbeats 4000000 in
theorem b_X9_leavesAll_b74 (C : Cx p s m args c RX9 cX9_leavesAll 8) {q : Int × Sg} {k3 : Int → Int → Int → Int → Int → Sg → Option (Int × Sg)} (hend : (q.1 = 0 ∨ q.1 = 1) → EndR p l e (rmk 4 119) s m args below meth c Q G true τ cX9_leavesAll .ireturn [.int (oI q.1)] q.2) (hk3 : ∀ {H : Heap} {locs : List Loc} {ls : Array Slot} {σ : Sg} (v1 : Int) (v2 : Int) (v3 : Int) (v4 : Int) (v5 : Int), St G true τ σ s H locs → lv_has ls 8 [(0, .ref (G.1 0)), (1, .int (oI v1)), (2, .int (oI v2)), (3, .int (oI v3)), (4, .int (oI v4)), (5, .int (oI v5))] → k3 v1 v2 v3 v4 v5 σ = some q → W p l e (rmk 4 119) s m args below meth c H locs 0 0 Q (F0 m 3 ls [])) {H : Heap} {locs : List Loc} {ls : Array Slot} {σ : Sg} (v1 : Int) (v2 : Int) (v3 : Int) (v4 : Int) (v5 : Int) (S : St G true τ σ s H locs) (hl : lv_has ls 8 [(0, .ref (G.1 0)), (1, .int (oI v1)), (2, .int (oI v2)), (3, .int (oI v3)), (4, .int (oI v4)), (5, .int (oI v5))]) (hf : f_X9_leavesAll_b74 k3 v1 v2 v3 v4 v5 σ = some q) : W p l e (rmk 4 119) s m args below meth c H locs 0 0 Q (F0 m 74 ls []) := by
  unfold f_X9_leavesAll_b74 at hf
  refine r_iinc C dX9_leavesAll_74 hl (k := 5) rfl (by decide) (lv' := [(5, .int (oI (v5 + 1))), (0, .ref (G.1 0)), (1, .int (oI v1)), (2, .int (oI v2)), (3, .int (oI v3)), (4, .int (oI v4))]) rfl (fun ls hl => ?_)
  refine lv_goto C.1 C.2.1 (tgt := 3) dX9_leavesAll_77 (by decide) ?_
  exact hk3 v1 v2 v3 v4 (v5 + 1) S (lv_sub hl [1, 2, 3, 4, 5, 0] rfl) hf
set_option maxRecDepth 100000 in
set_option maxHeartbeats 4000000 in
theorem b_X9_leavesAll_b3 (C : Cx p s m args c RX9 cX9_leavesAll 8) {q : Int × Sg} (hend : (q.1 = 0 ∨ q.1 = 1) → EndR p l e (rmk 4 119) s m args below meth c Q G true τ cX9_leavesAll .ireturn [.int (oI q.1)] q.2) : ∀ (n : Nat) {H : Heap} {locs : List Loc} {ls : Array Slot} {σ : Sg} (v1 : Int) (v2 : Int) (v3 : Int) (v4 : Int) (v5 : Int) (S : St G true τ σ s H locs) (hl : lv_has ls 8 [(0, .ref (G.1 0)), (1, .int (oI v1)), (2, .int (oI v2)), (3, .int (oI v3)), (4, .int (oI v4)), (5, .int (oI v5))]) (hf : f_X9_leavesAll_b3 n v1 v2 v3 v4 v5 σ = some q), W p l e (rmk 4 119) s m args below meth c H locs 0 0 Q (F0 m 3 ls []) := by
  intro n
  induction n with
  | zero => intro H locs ls σ v1 v2 v3 v4 v5 S hl hf; cases hf
  | succ n ih =>
    intro H locs ls σ v1 v2 v3 v4 v5 S hl hf
    have hk3 := @ih
    rw [f_X9_leavesAll_b3] at hf
    refine lv_iload C.1 C.2.1 dX9_leavesAll_3 (lv_at hl 5 rfl) ?_
    refine lv_aload_n C.1 C.2.1 dX9_leavesAll_5 rfl (lv_at hl 0 rfl) ?_
    refine g9_treatyCount C S tw_284 dX9_leavesAll_6 ?_
    refine r_icmp_ge C rfl rfl (tgt := 80) dX9_leavesAll_9 (by decide) (fun h13 => ?_) (fun h13 => ?_)
    · replace hf := if_t hf h13
      refine lv_aload_n C.1 C.2.1 dX9_leavesAll_12 rfl (lv_at hl 0 rfl) ?_
      refine lv_iload C.1 C.2.1 dX9_leavesAll_13 (lv_at hl 5 rfl) ?_
      obtain ⟨q1, hc2, hf⟩ := bd_o hf
      refine r_callVv C S (As := [.int (oI v5)]) (rest := []) (ct_X9_treatyAt l G τ hc2) mi_X9_treatyAt tw_528 mv_X9_treatyAt (rvX9 S) ⟨rfl, rfl⟩ ⟨Nat.le_of_ble_eq_true rfl, Nat.le_of_ble_eq_true rfl⟩ ⟨Nat.zero_le _, Nat.zero_le _⟩ rfl hl.1 rfl (Nat.le_of_ble_eq_true rfl) dX9_leavesAll_15 (fun H locs S => ?_)
      rcases q1 with _ | t3
      · replace hf := oT_n hf
        refine lv_astoreN C.1 C.2.1 dX9_leavesAll_18 hl (by decide) (lv' := [(6, .null), (0, .ref (G.1 0)), (1, .int (oI v1)), (2, .int (oI v2)), (3, .int (oI v3)), (4, .int (oI v4)), (5, .int (oI v5))]) rfl (fun ls hl => ?_)
        refine lv_aloadN C.1 C.2.1 dX9_leavesAll_20 (lv_at hl 0 rfl) ?_
        refine lv_ifnullN C.1 C.2.1 (tgt := 74) dX9_leavesAll_22 (by decide) ?_
        exact b_X9_leavesAll_b74 C hend hk3 v1 v2 v3 v4 v5 S (lv_sub hl [1, 2, 3, 4, 5, 6] rfl) hf
      · obtain ⟨ht3, hf⟩ := oT_s hf
        refine lv_astore C.1 C.2.1 dX9_leavesAll_18 hl (by decide) (lv' := [(6, .ref (G.1 (21 + t3))), (0, .ref (G.1 0)), (1, .int (oI v1)), (2, .int (oI v2)), (3, .int (oI v3)), (4, .int (oI v4)), (5, .int (oI v5))]) rfl (fun ls hl => ?_)
        refine lv_aload C.1 C.2.1 dX9_leavesAll_20 (lv_at hl 0 rfl) ?_
        refine lv_ifnull C.1 C.2.1 dX9_leavesAll_22 ?_
        refine lv_aload C.1 C.2.1 dX9_leavesAll_25 (lv_at hl 0 rfl) ?_
        refine lv_iload C.1 C.2.1 dX9_leavesAll_27 (lv_at hl 5 rfl) ?_
        obtain ⟨q4, hc5, hf⟩ := bd_o hf
        refine r_callVv C S (As := [.int (oI v4)]) (rest := []) (ct_X8_takes l G τ hc5) mi_X8_takes tw_567 mv_X8_takes (rvX8 S (d := t3) (by omega)) ⟨rfl, rfl⟩ ⟨Nat.le_of_ble_eq_true rfl, Nat.le_of_ble_eq_true rfl⟩ ⟨Nat.zero_le _, Nat.zero_le _⟩ rfl hl.1 rfl (Nat.le_of_ble_eq_true rfl) dX9_leavesAll_29 (fun H locs S => ?_)
        refine r_if_eq C rfl (tgt := 74) dX9_leavesAll_32 (by decide) (fun h12 => ?_) (fun h12 => ?_)
        · replace hf := if_t hf h12
          exact b_X9_leavesAll_b74 C hend hk3 v1 v2 v3 v4 v5 S (lv_sub hl [1, 2, 3, 4, 5, 6] rfl) hf
        · replace hf := if_f hf h12
          refine lv_aload C.1 C.2.1 dX9_leavesAll_35 (lv_at hl 0 rfl) ?_
          refine g8_limit C (d := t3) S (by omega) tw_155 dX9_leavesAll_37 ?_
          refine lv_iload_n C.1 C.2.1 dX9_leavesAll_40 rfl (lv_at hl 4 rfl) ?_
          refine r_isub C dX9_leavesAll_41 ?_
          refine lv_istore C.1 C.2.1 dX9_leavesAll_42 hl (by decide) (lv' := [(7, .int (oI ((σ (21 + t3) 4) - v3))), (6, .ref (G.1 (21 + t3))), (0, .ref (G.1 0)), (1, .int (oI v1)), (2, .int (oI v2)), (3, .int (oI v3)), (4, .int (oI v4)), (5, .int (oI v5))]) rfl (fun ls hl => ?_)
          refine lv_aload C.1 C.2.1 dX9_leavesAll_44 (lv_at hl 1 rfl) ?_
          obtain ⟨q6, hc7, hf⟩ := bd_o hf
          refine r_callVv C S (As := []) (rest := []) (ct_X8_isPassed l G τ hc7) mi_X8_isPassed tw_532 mv_X8_isPassed (rvX8 S (d := t3) (by omega)) ⟨rfl, rfl⟩ ⟨Nat.le_of_ble_eq_true rfl, Nat.le_of_ble_eq_true rfl⟩ ⟨Nat.zero_le _, Nat.zero_le _⟩ rfl hl.1 rfl (Nat.le_of_ble_eq_true rfl) dX9_leavesAll_46 (fun H locs S => ?_)
          refine r_if_ne C rfl (tgt := 72) dX9_leavesAll_49 (by decide) (fun h11 => ?_) (fun h11 => ?_)
          · replace hf := if_t hf h11
            refine lv_aload C.1 C.2.1 dX9_leavesAll_52 (lv_at hl 1 rfl) ?_
            refine g8_discs C (d := t3) S (by omega) tw_149 dX9_leavesAll_54 ?_
            refine lv_iload_n C.1 C.2.1 dX9_leavesAll_57 rfl (lv_at hl 3 rfl) ?_
            refine lv_iload_n C.1 C.2.1 dX9_leavesAll_58 rfl (lv_at hl 4 rfl) ?_
            refine r_ldcw C tw_776 dX9_leavesAll_59 ?_
            refine lv_iload C.1 C.2.1 dX9_leavesAll_62 (lv_at hl 0 rfl) ?_
            obtain ⟨q8, hc9, hf⟩ := bd_o hf
            refine r_callVv C S (As := [.int (oI v1), .int (oI v2), .int (oI 16777215), .int (oI ((σ (21 + t3) 4) - v3))]) (rest := []) (ct_X2_joined l G τ hc9) mi_X2_joined tw_777 mv_X2_joined (rvX2 S (d := t3) (by omega)) ⟨rfl, rfl⟩ ⟨Nat.le_of_ble_eq_true rfl, Nat.le_of_ble_eq_true rfl⟩ ⟨Nat.zero_le _, Nat.zero_le _⟩ rfl hl.1 rfl (Nat.le_of_ble_eq_true rfl) dX9_leavesAll_64 (fun H locs S => ?_)
            refine lv_iload C.1 C.2.1 dX9_leavesAll_67 (lv_at hl 0 rfl) ?_
            refine r_icmp_le C rfl rfl (tgt := 74) dX9_leavesAll_69 (by decide) (fun h10 => ?_) (fun h10 => ?_)
            · replace hf := if_t hf h10
              exact b_X9_leavesAll_b74 C hend hk3 v1 v2 v3 v4 v5 S (lv_sub hl [2, 3, 4, 5, 6, 7] rfl) hf
            · replace hf := if_f hf h10
              refine r_iconst C dX9_leavesAll_72 ?_
              cases hf
              exact hend (Or.inl rfl) _ _ _ _ S dX9_leavesAll_73
          · replace hf := if_f hf h11
            refine r_iconst C dX9_leavesAll_72 ?_
            cases hf
            exact hend (Or.inl rfl) _ _ _ _ S dX9_leavesAll_73
    · replace hf := if_f hf h13
      refine r_iconst C dX9_leavesAll_80 ?_
      cases hf
      exact hend (Or.inr rfl) _ _ _ _ S dX9_leavesAll_81
set_option maxRecDepth 100000 in
set_option maxHeartbeats 4000000 in
theorem ct_X9_leavesAll (l : Launch) (G : Gd) (τ : Sg) {v1 : Int} {v2 : Int} {v3 : Int} {v4 : Int} {σ : Sg} {q : Int × Sg} (hf : f_X9_leavesAll v1 v2 v3 v4 σ = some q) : Ctr l yX9_leavesAll cX9_leavesAll 8 (some .boolean) (rmk 4 119) G true τ [.ref (G.1 0), .int (oI v1), .int (oI v2), .int (oI v3), .int (oI v4)] σ q.2 (some (.int (oI q.1))) := by
  unfold f_X9_leavesAll at hf
  refine CtrZ.of (own := RX9) (plainFor_of_name (by decide)) (Nat.le_of_ble_eq_true rfl) rfl (fun p e s m below meth c Q ls C hl S hend => ?_)
  have hl : lv_has ls 8 [(0, .ref (G.1 0)), (1, .int (oI v1)), (2, .int (oI v2)), (3, .int (oI v3)), (4, .int (oI v4))] := hl
  refine r_iconst C dX9_leavesAll_0 ?_
  refine lv_istore C.1 C.2.1 dX9_leavesAll_1 hl (by decide) (lv' := [(5, .int (oI 0)), (0, .ref (G.1 0)), (1, .int (oI v1)), (2, .int (oI v2)), (3, .int (oI v3)), (4, .int (oI v4))]) rfl (fun ls hl => ?_)
  exact b_X9_leavesAll_b3 C hend FUEL v1 v2 v3 v4 0 S (lv_sub hl [1, 2, 3, 4, 5, 0] rfl) hf
set_option maxRecDepth 100000 in
set_option maxHeartbeats 4000000 in
theorem b_X9_places_b56 (C : Cx p s m args c RX9 cX9_places 6) {q : Int × Sg} {k21 : Int → Int → Int → Int → Sg → Option (Int × Sg)} {k32 : Int → Int → Int → Int → Int → Sg → Option (Int × Sg)} (hend : EndR p l e (rmk 5 146) s m args below meth c Q G true τ cX9_places .ireturn [.int (oI q.1)] q.2) (hk21 : ∀ {H : Heap} {locs : List Loc} {ls : Array Slot} {σ : Sg} (v1 : Int) (v2 : Int) (v3 : Int) (v4 : Int), St G true τ σ s H locs → lv_has ls 6 [(0, .ref (G.1 0)), (1, .int (oI v1)), (2, .int (oI v2)), (3, .int (oI v3)), (4, .int (oI v4))] → k21 v1 v2 v3 v4 σ = some q → W p l e (rmk 5 146) s m args below meth c H locs 0 0 Q (F0 m 21 ls [])) (hk32 : ∀ {H : Heap} {locs : List Loc} {ls : Array Slot} {σ : Sg} (v1 : Int) (v2 : Int) (v3 : Int) (v4 : Int) (v5 : Int), St G true τ σ s H locs → lv_has ls 6 [(0, .ref (G.1 0)), (1, .int (oI v1)), (2, .int (oI v2)), (3, .int (oI v3)), (4, .int (oI v4)), (5, .int (oI v5))] → k32 v1 v2 v3 v4 v5 σ = some q → W p l e (rmk 5 146) s m args below meth c H locs 0 0 Q (F0 m 32 ls [])) {H : Heap} {locs : List Loc} {ls : Array Slot} {σ : Sg} (v1 : Int) (v2 : Int) (v3 : Int) (v4 : Int) (v5 : Int) (S : St G true τ σ s H locs) (hl : lv_has ls 6 [(0, .ref (G.1 0)), (1, .int (oI v1)), (2, .int (oI v2)), (3, .int (oI v3)), (4, .int (oI v4)), (5, .int (oI v5))]) (hf : f_X9_places_b56 k21 k32 v1 v2 v3 v4 v5 σ = some q) : W p l e (rmk 5 146) s m args below meth c H locs 0 0 Q (F0 m 56 ls []) := by
  unfold f_X9_places_b56 at hf
  refine r_iinc C dX9_places_56 hl (k := 5) rfl (by decide) (lv' := [(5, .int (oI (v5 + 30))), (0, .ref (G.1 0)), (1, .int (oI v1)), (2, .int (oI v2)), (3, .int (oI v3)), (4, .int (oI v4))]) rfl (fun ls hl => ?_)
  refine lv_goto C.1 C.2.1 (tgt := 32) dX9_places_59 (by decide) ?_
  exact hk32 v1 v2 v3 v4 (v5 + 30) S (lv_sub hl [1, 2, 3, 4, 5, 0] rfl) hf
set_option maxRecDepth 100000 in
set_option maxHeartbeats 4000000 in
theorem b_X9_places_b62 (C : Cx p s m args c RX9 cX9_places 6) {q : Int × Sg} {k21 : Int → Int → Int → Int → Sg → Option (Int × Sg)} (hend : EndR p l e (rmk 5 146) s m args below meth c Q G true τ cX9_places .ireturn [.int (oI q.1)] q.2) (hk21 : ∀ {H : Heap} {locs : List Loc} {ls : Array Slot} {σ : Sg} (v1 : Int) (v2 : Int) (v3 : Int) (v4 : Int), St G true τ σ s H locs → lv_has ls 6 [(0, .ref (G.1 0)), (1, .int (oI v1)), (2, .int (oI v2)), (3, .int (oI v3)), (4, .int (oI v4))] → k21 v1 v2 v3 v4 σ = some q → W p l e (rmk 5 146) s m args below meth c H locs 0 0 Q (F0 m 21 ls [])) {H : Heap} {locs : List Loc} {ls : Array Slot} {σ : Sg} (v1 : Int) (v2 : Int) (v3 : Int) (v4 : Int) (S : St G true τ σ s H locs) (hl : lv_has ls 6 [(0, .ref (G.1 0)), (1, .int (oI v1)), (2, .int (oI v2)), (3, .int (oI v3)), (4, .int (oI v4))]) (hf : f_X9_places_b62 k21 v1 v2 v3 v4 σ = some q) : W p l e (rmk 5 146) s m args below meth c H locs 0 0 Q (F0 m 62 ls []) := by
  unfold f_X9_places_b62 at hf
  refine r_iinc C dX9_places_62 hl (k := 4) rfl (by decide) (lv' := [(4, .int (oI (v4 + 30))), (0, .ref (G.1 0)), (1, .int (oI v1)), (2, .int (oI v2)), (3, .int (oI v3))]) rfl (fun ls hl => ?_)
  refine lv_goto C.1 C.2.1 (tgt := 21) dX9_places_65 (by decide) ?_
  exact hk21 v1 v2 v3 (v4 + 30) S (lv_sub hl [1, 2, 3, 4, 0] rfl) hf
set_option maxRecDepth 100000 in
set_option maxHeartbeats 4000000 in
theorem b_X9_places_b32 (C : Cx p s m args c RX9 cX9_places 6) {q : Int × Sg} {k21 : Int → Int → Int → Int → Sg → Option (Int × Sg)} (hend : EndR p l e (rmk 5 146) s m args below meth c Q G true τ cX9_places .ireturn [.int (oI q.1)] q.2) (hk21 : ∀ {H : Heap} {locs : List Loc} {ls : Array Slot} {σ : Sg} (v1 : Int) (v2 : Int) (v3 : Int) (v4 : Int), St G true τ σ s H locs → lv_has ls 6 [(0, .ref (G.1 0)), (1, .int (oI v1)), (2, .int (oI v2)), (3, .int (oI v3)), (4, .int (oI v4))] → k21 v1 v2 v3 v4 σ = some q → W p l e (rmk 5 146) s m args below meth c H locs 0 0 Q (F0 m 21 ls [])) : ∀ (n : Nat) {H : Heap} {locs : List Loc} {ls : Array Slot} {σ : Sg} (v1 : Int) (v2 : Int) (v3 : Int) (v4 : Int) (v5 : Int) (S : St G true τ σ s H locs) (hl : lv_has ls 6 [(0, .ref (G.1 0)), (1, .int (oI v1)), (2, .int (oI v2)), (3, .int (oI v3)), (4, .int (oI v4)), (5, .int (oI v5))]) (hf : f_X9_places_b32 k21 n v1 v2 v3 v4 v5 σ = some q), W p l e (rmk 5 146) s m args below meth c H locs 0 0 Q (F0 m 32 ls []) := by
  intro n
  induction n with
  | zero => intro H locs ls σ v1 v2 v3 v4 v5 S hl hf; cases hf
  | succ n ih =>
    intro H locs ls σ v1 v2 v3 v4 v5 S hl hf
    have hk32 := @ih
    rw [f_X9_places_b32] at hf
    refine lv_iload C.1 C.2.1 dX9_places_32 (lv_at hl 5 rfl) ?_
    refine r_sipush C dX9_places_34 (by decide) ?_
    refine r_icmp_ge C rfl (show w32 300 = 300 by decide) (tgt := 62) dX9_places_37 (by decide) (fun h8 => ?_) (fun h8 => ?_)
    · replace hf := if_t hf h8
      refine lv_aload_n C.1 C.2.1 dX9_places_40 rfl (lv_at hl 0 rfl) ?_
      refine lv_iload C.1 C.2.1 dX9_places_41 (lv_at hl 4 rfl) ?_
      refine lv_iload C.1 C.2.1 dX9_places_43 (lv_at hl 5 rfl) ?_
      refine lv_iload_n C.1 C.2.1 dX9_places_45 rfl (lv_at hl 1 rfl) ?_
      refine lv_iload_n C.1 C.2.1 dX9_places_46 rfl (lv_at hl 2 rfl) ?_
      obtain ⟨q5, hc6, hf⟩ := bd_o hf
      refine r_callVv C S (As := [.int (oI v4), .int (oI v5), .int (oI v1), .int (oI v2)]) (rest := []) (ct_X9_leavesAll l G τ hc6) mi_X9_leavesAll tw_798 mv_X9_leavesAll (rvX9 S) ⟨rfl, rfl⟩ ⟨Nat.le_of_ble_eq_true rfl, Nat.le_of_ble_eq_true rfl⟩ ⟨Nat.zero_le _, Nat.zero_le _⟩ rfl hl.1 rfl (Nat.le_of_ble_eq_true rfl) dX9_places_47 (fun H locs S => ?_)
      refine r_if_eq C rfl (tgt := 56) dX9_places_50 (by decide) (fun h7 => ?_) (fun h7 => ?_)
      · replace hf := if_t hf h7
        exact b_X9_places_b56 C hend hk21 hk32 v1 v2 v3 v4 v5 S (lv_sub hl [0, 1, 2, 3, 4, 5] rfl) hf
      · replace hf := if_f hf h7
        refine r_iinc C dX9_places_53 hl (k := 3) rfl (by decide) (lv' := [(3, .int (oI (v3 + 1))), (0, .ref (G.1 0)), (1, .int (oI v1)), (2, .int (oI v2)), (4, .int (oI v4)), (5, .int (oI v5))]) rfl (fun ls hl => ?_)
        exact b_X9_places_b56 C hend hk21 hk32 v1 v2 (v3 + 1) v4 v5 S (lv_sub hl [1, 2, 3, 0, 4, 5] rfl) hf
    · replace hf := if_f hf h8
      exact b_X9_places_b62 C hend hk21 v1 v2 v3 v4 S (lv_sub hl [0, 1, 2, 3, 4] rfl) hf
set_option maxRecDepth 100000 in
set_option maxHeartbeats 4000000 in
theorem b_X9_places_b21 (C : Cx p s m args c RX9 cX9_places 6) {q : Int × Sg} (hend : EndR p l e (rmk 5 146) s m args below meth c Q G true τ cX9_places .ireturn [.int (oI q.1)] q.2) : ∀ (n : Nat) {H : Heap} {locs : List Loc} {ls : Array Slot} {σ : Sg} (v1 : Int) (v2 : Int) (v3 : Int) (v4 : Int) (S : St G true τ σ s H locs) (hl : lv_has ls 6 [(0, .ref (G.1 0)), (1, .int (oI v1)), (2, .int (oI v2)), (3, .int (oI v3)), (4, .int (oI v4))]) (hf : f_X9_places_b21 n v1 v2 v3 v4 σ = some q), W p l e (rmk 5 146) s m args below meth c H locs 0 0 Q (F0 m 21 ls []) := by
  intro n
  induction n with
  | zero => intro H locs ls σ v1 v2 v3 v4 S hl hf; cases hf
  | succ n ih =>
    intro H locs ls σ v1 v2 v3 v4 S hl hf
    have hk21 := @ih
    rw [f_X9_places_b21] at hf
    refine lv_iload C.1 C.2.1 dX9_places_21 (lv_at hl 4 rfl) ?_
    refine r_sipush C dX9_places_23 (by decide) ?_
    refine r_icmp_ge C rfl (show w32 300 = 300 by decide) (tgt := 68) dX9_places_26 (by decide) (fun h9 => ?_) (fun h9 => ?_)
    · replace hf := if_t hf h9
      refine r_iconst C dX9_places_29 ?_
      refine lv_istore C.1 C.2.1 dX9_places_30 hl (by decide) (lv' := [(5, .int (oI 0)), (0, .ref (G.1 0)), (1, .int (oI v1)), (2, .int (oI v2)), (3, .int (oI v3)), (4, .int (oI v4))]) rfl (fun ls hl => ?_)
      exact b_X9_places_b32 C hend hk21 FUEL v1 v2 v3 v4 0 S (lv_sub hl [1, 2, 3, 4, 5, 0] rfl) hf
    · replace hf := if_f hf h9
      refine lv_iload_n C.1 C.2.1 dX9_places_68 rfl (lv_at hl 3 rfl) ?_
      cases hf
      exact hend _ _ _ _ S dX9_places_69
set_option maxRecDepth 100000 in
set_option maxHeartbeats 4000000 in
theorem ct_X9_places (l : Launch) (G : Gd) (τ : Sg) {v1 : Int} {v2 : Int} {σ : Sg} {q : Int × Sg} (hf : f_X9_places v1 v2 σ = some q) : Ctr l yX9_places cX9_places 6 (some .int) (rmk 5 146) G true τ [.ref (G.1 0), .int (oI v1), .int (oI v2)] σ q.2 (some (.int (oI q.1))) := by
  unfold f_X9_places at hf
  refine CtrI.of (own := RX9) (plainFor_of_name (by decide)) (Nat.le_of_ble_eq_true rfl) rfl (fun p e s m below meth c Q ls C hl S hend => ?_)
  have hl : lv_has ls 6 [(0, .ref (G.1 0)), (1, .int (oI v1)), (2, .int (oI v2))] := hl
  refine lv_iload_n C.1 C.2.1 dX9_places_0 rfl (lv_at hl 1 rfl) ?_
  obtain ⟨q1, hc2, hf⟩ := bd_o hf
  refine r_callSv C S (As := [.int (oI v1)]) (rest := []) (ct_X9_isSum l G τ hc2) mi_X9_isSum tw_552 ms_X9_isSum ⟨rfl, rfl⟩ ⟨Nat.le_of_ble_eq_true rfl, Nat.le_of_ble_eq_true rfl⟩ ⟨Nat.zero_le _, Nat.zero_le _⟩ rfl hl.1 rfl (Nat.le_of_ble_eq_true rfl) dX9_places_1 (fun H locs S => ?_)
  refine r_if_eq C rfl (tgt := 14) dX9_places_4 (by decide) (fun h11 => ?_) (fun h11 => ?_)
  · replace hf := if_t hf h11
    refine r_iconst C dX9_places_14 ?_
    cases hf
    exact hend _ _ _ _ S dX9_places_15
  · replace hf := if_f hf h11
    refine lv_iload_n C.1 C.2.1 dX9_places_7 rfl (lv_at hl 2 rfl) ?_
    obtain ⟨q3, hc4, hf⟩ := bd_o hf
    refine r_callSv C S (As := [.int (oI v2)]) (rest := []) (ct_X9_isPeril l G τ hc4) mi_X9_isPeril tw_556 ms_X9_isPeril ⟨rfl, rfl⟩ ⟨Nat.le_of_ble_eq_true rfl, Nat.le_of_ble_eq_true rfl⟩ ⟨Nat.zero_le _, Nat.zero_le _⟩ rfl hl.1 rfl (Nat.le_of_ble_eq_true rfl) dX9_places_8 (fun H locs S => ?_)
    refine r_if_ne C rfl (tgt := 16) dX9_places_11 (by decide) (fun h10 => ?_) (fun h10 => ?_)
    · replace hf := if_t hf h10
      refine r_iconst C dX9_places_14 ?_
      cases hf
      exact hend _ _ _ _ S dX9_places_15
    · replace hf := if_f hf h10
      refine r_iconst C dX9_places_16 ?_
      refine lv_istore_n C.1 C.2.1 dX9_places_17 rfl hl (by decide) (lv' := [(3, .int (oI 0)), (0, .ref (G.1 0)), (1, .int (oI v1)), (2, .int (oI v2))]) rfl (fun ls hl => ?_)
      refine r_iconst C dX9_places_18 ?_
      refine lv_istore C.1 C.2.1 dX9_places_19 hl (by decide) (lv' := [(4, .int (oI 0)), (3, .int (oI 0)), (0, .ref (G.1 0)), (1, .int (oI v1)), (2, .int (oI v2))]) rfl (fun ls hl => ?_)
      exact b_X9_places_b21 C hend FUEL v1 v2 0 0 S (lv_sub hl [2, 3, 4, 1, 0] rfl) hf
set_option maxRecDepth 100000 in
set_option maxHeartbeats 4000000 in
theorem ct_J9_floorDiv_7cf53 (l : Launch) (G : Gd) (τ : Sg) {b : Bool} {v0 : Int} {v1 : Int} {σ : Sg} {q : Int} (hf : f_J9_floorDiv_7cf53 v0 v1 σ = some q) : Ctr l yJ9_floorDiv_7cf53 cJ9_floorDiv_7cf53 3 (some .int) (rmk 0 0) G b τ [.int (oI v0), .int (oI v1)] σ σ (some (.int (oI q))) := by
  unfold f_J9_floorDiv_7cf53 at hf
  refine CtrI.of (own := RJ9) (by decide +kernel) (Nat.le_of_ble_eq_true rfl) rfl (fun p e s m below meth c Q ls C hl S hend => ?_)
  have hl : lv_has ls 3 [(0, .int (oI v0)), (1, .int (oI v1))] := hl
  refine lv_iload_n C.1 C.2.1 dJ9_floorDiv_7cf53_0 rfl (lv_at hl 0 rfl) ?_
  refine lv_iload_n C.1 C.2.1 dJ9_floorDiv_7cf53_1 rfl (lv_at hl 1 rfl) ?_
  obtain ⟨hz1, hf⟩ := ck_o hf
  refine r_idiv C hz1 dJ9_floorDiv_7cf53_2 ?_
  refine lv_istore_n C.1 C.2.1 dJ9_floorDiv_7cf53_3 rfl hl (by decide) (lv' := [(2, .int (oI ((w32 v0).tdiv (w32 v1)))), (0, .int (oI v0)), (1, .int (oI v1))]) rfl (fun ls hl => ?_)
  refine lv_iload_n C.1 C.2.1 dJ9_floorDiv_7cf53_4 rfl (lv_at hl 1 rfl) ?_
  refine lv_iload_n C.1 C.2.1 dJ9_floorDiv_7cf53_5 rfl (lv_at hl 2 rfl) ?_
  refine r_ixor C rfl rfl dJ9_floorDiv_7cf53_6 ?_
  refine r_if_ge C rfl (tgt := 21) dJ9_floorDiv_7cf53_7 (by decide) (fun h3 => ?_) (fun h3 => ?_)
  · replace hf := if_t hf h3
    refine lv_iload_n C.1 C.2.1 dJ9_floorDiv_7cf53_10 rfl (lv_at hl 0 rfl) ?_
    refine lv_iload_n C.1 C.2.1 dJ9_floorDiv_7cf53_11 rfl (lv_at hl 2 rfl) ?_
    refine r_imul C dJ9_floorDiv_7cf53_12 ?_
    refine lv_iload_n C.1 C.2.1 dJ9_floorDiv_7cf53_13 rfl (lv_at hl 1 rfl) ?_
    refine r_icmp_eq C rfl rfl (tgt := 21) dJ9_floorDiv_7cf53_14 (by decide) (fun h2 => ?_) (fun h2 => ?_)
    · replace hf := if_t hf h2
      refine lv_iload_n C.1 C.2.1 dJ9_floorDiv_7cf53_21 rfl (lv_at hl 0 rfl) ?_
      cases hf
      exact hend _ _ _ _ S dJ9_floorDiv_7cf53_22
    · replace hf := if_f hf h2
      refine lv_iload_n C.1 C.2.1 dJ9_floorDiv_7cf53_17 rfl (lv_at hl 0 rfl) ?_
      refine r_iconst C dJ9_floorDiv_7cf53_18 ?_
      refine r_isub C dJ9_floorDiv_7cf53_19 ?_
      cases hf
      exact hend _ _ _ _ S dJ9_floorDiv_7cf53_20
  · replace hf := if_f hf h3
    refine lv_iload_n C.1 C.2.1 dJ9_floorDiv_7cf53_21 rfl (lv_at hl 0 rfl) ?_
    cases hf
    exact hend _ _ _ _ S dJ9_floorDiv_7cf53_22
set_option maxRecDepth 100000 in
set_option maxHeartbeats 4000000 in
theorem ct_X9_onWay (l : Launch) (G : Gd) (τ : Sg) {v0 : Int} {v1 : Int} {v2 : Int} {v3 : Int} {σ : Sg} {q : Int} (hf : f_X9_onWay v0 v1 v2 v3 σ = some q) : Ctr l yX9_onWay cX9_onWay 4 (some .int) (rmk 1 22) G true τ [.int (oI v0), .int (oI v1), .int (oI v2), .int (oI v3)] σ σ (some (.int (oI q))) := by
  unfold f_X9_onWay at hf
  refine CtrI.of (own := RX9) (plainFor_of_name (by decide)) (Nat.le_of_ble_eq_true rfl) rfl (fun p e s m below meth c Q ls C hl S hend => ?_)
  have hl : lv_has ls 4 [(0, .int (oI v0)), (1, .int (oI v1)), (2, .int (oI v2)), (3, .int (oI v3))] := hl
  refine lv_iload_n C.1 C.2.1 dX9_onWay_0 rfl (lv_at hl 3 rfl) ?_
  refine r_iconst C dX9_onWay_1 ?_
  refine r_icmp_ge C rfl (show w32 1 = 1 by decide) (tgt := 9) dX9_onWay_2 (by decide) (fun h3 => ?_) (fun h3 => ?_)
  · replace hf := if_t hf h3
    refine lv_iload_n C.1 C.2.1 dX9_onWay_5 rfl (lv_at hl 0 rfl) ?_
    refine lv_goto C.1 C.2.1 (tgt := 20) dX9_onWay_6 (by decide) ?_
    cases hf
    exact hend _ _ _ _ S dX9_onWay_20
  · replace hf := if_f hf h3
    refine lv_iload_n C.1 C.2.1 dX9_onWay_9 rfl (lv_at hl 0 rfl) ?_
    refine lv_iload_n C.1 C.2.1 dX9_onWay_10 rfl (lv_at hl 2 rfl) ?_
    refine lv_iload_n C.1 C.2.1 dX9_onWay_11 rfl (lv_at hl 1 rfl) ?_
    refine lv_iload_n C.1 C.2.1 dX9_onWay_12 rfl (lv_at hl 0 rfl) ?_
    refine r_isub C dX9_onWay_13 ?_
    refine r_imul C dX9_onWay_14 ?_
    refine lv_iload_n C.1 C.2.1 dX9_onWay_15 rfl (lv_at hl 3 rfl) ?_
    obtain ⟨q1, hc2, hf⟩ := bd_o hf
    refine r_callSv C S (As := [.int (oI (v2 * (v1 - v0))), .int (oI v3)]) (rest := [.int (oI v0)]) (ct_J9_floorDiv_7cf53 l G τ hc2) mi_J9_floorDiv_7cf53 tw_810 ms_J9_floorDiv_7cf53 ⟨rfl, rfl⟩ ⟨Nat.le_of_ble_eq_true rfl, Nat.le_of_ble_eq_true rfl⟩ ⟨Nat.zero_le _, Nat.zero_le _⟩ rfl hl.1 rfl (Nat.le_of_ble_eq_true rfl) dX9_onWay_16 (fun H locs S => ?_)
    refine r_iadd C dX9_onWay_19 ?_
    cases hf
    exact hend _ _ _ _ S dX9_onWay_20
set_option maxRecDepth 100000 in
set_option maxHeartbeats 4000000 in
theorem b_X9_along_b219 (C : Cx p s m args c RX9 cX9_along 15) {q : Int × Sg} (hend : EndR p l e (rmk 4 119) s m args below meth c Q G true τ cX9_along .ireturn [.int (oI q.1)] q.2) {H : Heap} {locs : List Loc} {ls : Array Slot} {σ : Sg} (v6 : Int) (v10 : Int) (v11 : Int) (S : St G true τ σ s H locs) (hl : lv_has ls 15 [(6, .int (oI v6)), (10, .int (oI v10)), (11, .int (oI v11))]) (hf : f_X9_along_b219 v6 v10 v11 σ = some q) : W p l e (rmk 4 119) s m args below meth c H locs 0 0 Q (F0 m 219 ls []) := by
  unfold f_X9_along_b219 at hf
  refine lv_iload C.1 C.2.1 dX9_along_219 (lv_at hl 0 rfl) ?_
  refine r_if_ne C rfl (tgt := 229) dX9_along_221 (by decide) (fun h16 => ?_) (fun h16 => ?_)
  · replace hf := if_t hf h16
    refine lv_iload C.1 C.2.1 dX9_along_224 (lv_at hl 1 rfl) ?_
    refine lv_goto C.1 C.2.1 (tgt := 231) dX9_along_226 (by decide) ?_
    cases hf
    exact hend _ _ _ _ S dX9_along_231
  · replace hf := if_f hf h16
    refine lv_iload C.1 C.2.1 dX9_along_229 (lv_at hl 2 rfl) ?_
    cases hf
    exact hend _ _ _ _ S dX9_along_231
set_option maxRecDepth 100000 in
set_option maxHeartbeats 4000000 in
theorem b_X9_along_b213 (C : Cx p s m args c RX9 cX9_along 15) {q : Int × Sg} {k105 : Int → Int → Int → Int → Int → Nat → Int → Int → Int → Int → Int → Sg → Option (Int × Sg)} (hend : EndR p l e (rmk 4 119) s m args below meth c Q G true τ cX9_along .ireturn [.int (oI q.1)] q.2) (hk105 : ∀ {H : Heap} {locs : List Loc} {ls : Array Slot} {σ : Sg} (v2 : Int) (v3 : Int) (v4 : Int) (v5 : Int) (v6 : Int) (t7 : Nat) (v8 : Int) (v9 : Int) (v10 : Int) (v11 : Int) (v12 : Int), t7 < 6 → St G true τ σ s H locs → lv_has ls 15 [(0, .ref (G.1 0)), (2, .int (oI v2)), (3, .int (oI v3)), (4, .int (oI v4)), (5, .int (oI v5)), (6, .int (oI v6)), (7, .ref (G.1 (21 + t7))), (8, .int (oI v8)), (9, .int (oI v9)), (10, .int (oI v10)), (11, .int (oI v11)), (12, .int (oI v12))] → k105 v2 v3 v4 v5 v6 t7 v8 v9 v10 v11 v12 σ = some q → W p l e (rmk 4 119) s m args below meth c H locs 0 0 Q (F0 m 105 ls [])) {H : Heap} {locs : List Loc} {ls : Array Slot} {σ : Sg} (v2 : Int) (v3 : Int) (v4 : Int) (v5 : Int) (v6 : Int) (t7 : Nat) (v8 : Int) (v9 : Int) (v10 : Int) (v11 : Int) (v12 : Int) (ht7 : t7 < 6) (S : St G true τ σ s H locs) (hl : lv_has ls 15 [(0, .ref (G.1 0)), (2, .int (oI v2)), (3, .int (oI v3)), (4, .int (oI v4)), (5, .int (oI v5)), (6, .int (oI v6)), (7, .ref (G.1 (21 + t7))), (8, .int (oI v8)), (9, .int (oI v9)), (10, .int (oI v10)), (11, .int (oI v11)), (12, .int (oI v12))]) (hf : f_X9_along_b213 k105 v2 v3 v4 v5 v6 t7 v8 v9 v10 v11 v12 σ = some q) : W p l e (rmk 4 119) s m args below meth c H locs 0 0 Q (F0 m 213 ls []) := by
  unfold f_X9_along_b213 at hf
  refine r_iinc C dX9_along_213 hl (k := 11) rfl (by decide) (lv' := [(12, .int (oI (v12 + 1))), (0, .ref (G.1 0)), (2, .int (oI v2)), (3, .int (oI v3)), (4, .int (oI v4)), (5, .int (oI v5)), (6, .int (oI v6)), (7, .ref (G.1 (21 + t7))), (8, .int (oI v8)), (9, .int (oI v9)), (10, .int (oI v10)), (11, .int (oI v11))]) rfl (fun ls hl => ?_)
  refine lv_goto C.1 C.2.1 (tgt := 105) dX9_along_216 (by decide) ?_
  exact hk105 v2 v3 v4 v5 v6 t7 v8 v9 v10 v11 (v12 + 1) (by omega) S (lv_sub hl [1, 2, 3, 4, 5, 6, 7, 8, 9, 10, 11, 0] rfl) hf
set_option maxRecDepth 100000 in
set_option maxHeartbeats 4000000 in
theorem b_X9_along_b105 (C : Cx p s m args c RX9 cX9_along 15) {q : Int × Sg} (hend : EndR p l e (rmk 4 119) s m args below meth c Q G true τ cX9_along .ireturn [.int (oI q.1)] q.2) : ∀ (n : Nat) {H : Heap} {locs : List Loc} {ls : Array Slot} {σ : Sg} (v2 : Int) (v3 : Int) (v4 : Int) (v5 : Int) (v6 : Int) (t7 : Nat) (v8 : Int) (v9 : Int) (v10 : Int) (v11 : Int) (v12 : Int) (ht7 : t7 < 6) (S : St G true τ σ s H locs) (hl : lv_has ls 15 [(0, .ref (G.1 0)), (2, .int (oI v2)), (3, .int (oI v3)), (4, .int (oI v4)), (5, .int (oI v5)), (6, .int (oI v6)), (7, .ref (G.1 (21 + t7))), (8, .int (oI v8)), (9, .int (oI v9)), (10, .int (oI v10)), (11, .int (oI v11)), (12, .int (oI v12))]) (hf : f_X9_along_b105 n v2 v3 v4 v5 v6 t7 v8 v9 v10 v11 v12 σ = some q), W p l e (rmk 4 119) s m args below meth c H locs 0 0 Q (F0 m 105 ls []) := by
  intro n
  induction n with
  | zero => intro H locs ls σ v2 v3 v4 v5 v6 t7 v8 v9 v10 v11 v12 ht7 S hl hf; cases hf
  | succ n ih =>
    intro H locs ls σ v2 v3 v4 v5 v6 t7 v8 v9 v10 v11 v12 ht7 S hl hf
    have hk105 := @ih
    rw [f_X9_along_b105] at hf
    refine lv_iload C.1 C.2.1 dX9_along_105 (lv_at hl 11 rfl) ?_
    refine lv_iload C.1 C.2.1 dX9_along_107 (lv_at hl 4 rfl) ?_
    refine r_icmp_gt C rfl rfl (tgt := 219) dX9_along_109 (by decide) (fun h30 => ?_) (fun h30 => ?_)
    · replace hf := if_t hf h30
      refine lv_aload C.1 C.2.1 dX9_along_112 (lv_at hl 6 rfl) ?_
      refine lv_aload_n C.1 C.2.1 dX9_along_114 rfl (lv_at hl 0 rfl) ?_
      refine g9_book C S tw_282 dX9_along_115 ?_
      refine lv_iload_n C.1 C.2.1 dX9_along_118 rfl (lv_at hl 1 rfl) ?_
      obtain ⟨q12, hc13, hf⟩ := bd_o hf
      refine r_callVv C S (As := [.int (oI v2)]) (rest := [.ref (G.1 (21 + t7))]) (ct_X0_perilOf l G τ hc13) mi_X0_perilOf tw_585 mv_X0_perilOf (rvX0 S) ⟨rfl, rfl⟩ ⟨Nat.le_of_ble_eq_true rfl, Nat.le_of_ble_eq_true rfl⟩ ⟨Nat.zero_le _, Nat.zero_le _⟩ rfl hl.1 rfl (Nat.le_of_ble_eq_true rfl) dX9_along_119 (fun H locs S => ?_)
      obtain ⟨q14, hc15, hf⟩ := bd_o hf
      refine r_callVv C S (As := [.int (oI q12)]) (rest := []) (ct_X8_takes l G τ hc15) mi_X8_takes tw_567 mv_X8_takes (rvX8 S (d := t7) (by omega)) ⟨rfl, rfl⟩ ⟨Nat.le_of_ble_eq_true rfl, Nat.le_of_ble_eq_true rfl⟩ ⟨Nat.zero_le _, Nat.zero_le _⟩ rfl hl.1 rfl (Nat.le_of_ble_eq_true rfl) dX9_along_122 (fun H locs S => ?_)
      refine r_if_eq C rfl (tgt := 219) dX9_along_125 (by decide) (fun h29 => ?_) (fun h29 => ?_)
      · replace hf := if_t hf h29
        exact b_X9_along_b219 C hend v6 v10 v11 S (lv_sub hl [5, 9, 10] rfl) hf
      · replace hf := if_f hf h29
        refine lv_aload_n C.1 C.2.1 dX9_along_128 rfl (lv_at hl 0 rfl) ?_
        refine g9_book C S tw_282 dX9_along_129 ?_
        refine lv_iload_n C.1 C.2.1 dX9_along_132 rfl (lv_at hl 1 rfl) ?_
        obtain ⟨q17, hc18, hf⟩ := bd_o hf
        refine r_callVv C S (As := [.int (oI v2)]) (rest := []) (ct_X0_xOf l G τ hc18) mi_X0_xOf tw_806 mv_X0_xOf (rvX0 S) ⟨rfl, rfl⟩ ⟨Nat.le_of_ble_eq_true rfl, Nat.le_of_ble_eq_true rfl⟩ ⟨Nat.zero_le _, Nat.zero_le _⟩ rfl hl.1 rfl (Nat.le_of_ble_eq_true rfl) dX9_along_133 (fun H locs S => ?_)
        refine lv_iload_n C.1 C.2.1 dX9_along_136 rfl (lv_at hl 2 rfl) ?_
        refine lv_iload C.1 C.2.1 dX9_along_137 (lv_at hl 11 rfl) ?_
        refine lv_iload C.1 C.2.1 dX9_along_139 (lv_at hl 4 rfl) ?_
        obtain ⟨q19, hc20, hf⟩ := bd_o hf
        refine r_callSv C S (As := [.int (oI q17), .int (oI v3), .int (oI v12), .int (oI v5)]) (rest := []) (ct_X9_onWay l G τ hc20) mi_X9_onWay tw_807 ms_X9_onWay ⟨rfl, rfl⟩ ⟨Nat.le_of_ble_eq_true rfl, Nat.le_of_ble_eq_true rfl⟩ ⟨Nat.zero_le _, Nat.zero_le _⟩ rfl hl.1 rfl (Nat.le_of_ble_eq_true rfl) dX9_along_141 (fun H locs S => ?_)
        refine lv_istore C.1 C.2.1 dX9_along_144 hl (by decide) (lv' := [(13, .int (oI q19)), (0, .ref (G.1 0)), (2, .int (oI v2)), (3, .int (oI v3)), (4, .int (oI v4)), (5, .int (oI v5)), (6, .int (oI v6)), (7, .ref (G.1 (21 + t7))), (8, .int (oI v8)), (9, .int (oI v9)), (10, .int (oI v10)), (11, .int (oI v11)), (12, .int (oI v12))]) rfl (fun ls hl => ?_)
        refine lv_aload_n C.1 C.2.1 dX9_along_146 rfl (lv_at hl 1 rfl) ?_
        refine g9_book C S tw_282 dX9_along_147 ?_
        refine lv_iload_n C.1 C.2.1 dX9_along_150 rfl (lv_at hl 2 rfl) ?_
        obtain ⟨q21, hc22, hf⟩ := bd_o hf
        refine r_callVv C S (As := [.int (oI v2)]) (rest := []) (ct_X0_yOf l G τ hc22) mi_X0_yOf tw_813 mv_X0_yOf (rvX0 S) ⟨rfl, rfl⟩ ⟨Nat.le_of_ble_eq_true rfl, Nat.le_of_ble_eq_true rfl⟩ ⟨Nat.zero_le _, Nat.zero_le _⟩ rfl hl.1 rfl (Nat.le_of_ble_eq_true rfl) dX9_along_151 (fun H locs S => ?_)
        refine lv_iload C.1 C.2.1 dX9_along_154 (lv_at hl 4 rfl) ?_
        refine lv_iload C.1 C.2.1 dX9_along_156 (lv_at hl 12 rfl) ?_
        refine lv_iload C.1 C.2.1 dX9_along_158 (lv_at hl 5 rfl) ?_
        obtain ⟨q23, hc24, hf⟩ := bd_o hf
        refine r_callSv C S (As := [.int (oI q21), .int (oI v4), .int (oI v12), .int (oI v5)]) (rest := []) (ct_X9_onWay l G τ hc24) mi_X9_onWay tw_807 ms_X9_onWay ⟨rfl, rfl⟩ ⟨Nat.le_of_ble_eq_true rfl, Nat.le_of_ble_eq_true rfl⟩ ⟨Nat.zero_le _, Nat.zero_le _⟩ rfl hl.1 rfl (Nat.le_of_ble_eq_true rfl) dX9_along_160 (fun H locs S => ?_)
        refine lv_istore C.1 C.2.1 dX9_along_163 hl (by decide) (lv' := [(14, .int (oI q23)), (13, .int (oI q19)), (0, .ref (G.1 0)), (2, .int (oI v2)), (3, .int (oI v3)), (4, .int (oI v4)), (5, .int (oI v5)), (6, .int (oI v6)), (7, .ref (G.1 (21 + t7))), (8, .int (oI v8)), (9, .int (oI v9)), (10, .int (oI v10)), (11, .int (oI v11)), (12, .int (oI v12))]) rfl (fun ls hl => ?_)
        refine lv_iload C.1 C.2.1 dX9_along_165 (lv_at hl 11 rfl) ?_
        refine lv_aload C.1 C.2.1 dX9_along_167 (lv_at hl 8 rfl) ?_
        refine g8_discs C (d := t7) S (by omega) tw_149 dX9_along_169 ?_
        refine lv_iload C.1 C.2.1 dX9_along_172 (lv_at hl 1 rfl) ?_
        refine lv_iload C.1 C.2.1 dX9_along_174 (lv_at hl 0 rfl) ?_
        refine lv_iload C.1 C.2.1 dX9_along_176 (lv_at hl 9 rfl) ?_
        refine lv_iload C.1 C.2.1 dX9_along_178 (lv_at hl 11 rfl) ?_
        refine lv_iload C.1 C.2.1 dX9_along_180 (lv_at hl 10 rfl) ?_
        refine r_isub C dX9_along_182 ?_
        obtain ⟨q25, hc26, hf⟩ := bd_o hf
        refine r_callVv C S (As := [.int (oI q19), .int (oI q23), .int (oI v8), .int (oI (v10 - v9))]) (rest := [.int (oI v10)]) (ct_X2_joined l G τ hc26) mi_X2_joined tw_777 mv_X2_joined (rvX2 S (d := t7) (by omega)) ⟨rfl, rfl⟩ ⟨Nat.le_of_ble_eq_true rfl, Nat.le_of_ble_eq_true rfl⟩ ⟨Nat.zero_le _, Nat.zero_le _⟩ rfl hl.1 rfl (Nat.le_of_ble_eq_true rfl) dX9_along_183 (fun H locs S => ?_)
        refine lv_iload C.1 C.2.1 dX9_along_186 (lv_at hl 10 rfl) ?_
        refine r_iadd C dX9_along_188 ?_
        refine r_mmax C (hl.1) tw_671 (by decide) (Nat.le_of_ble_eq_true rfl) dX9_along_189 ?_
        refine lv_istore C.1 C.2.1 dX9_along_192 hl (by decide) (lv' := [(10, .int (oI (mmaxI v10 (q25.1 + v9)))), (14, .int (oI q23)), (13, .int (oI q19)), (0, .ref (G.1 0)), (2, .int (oI v2)), (3, .int (oI v3)), (4, .int (oI v4)), (5, .int (oI v5)), (6, .int (oI v6)), (7, .ref (G.1 (21 + t7))), (8, .int (oI v8)), (9, .int (oI v9)), (11, .int (oI v11)), (12, .int (oI v12))]) rfl (fun ls hl => ?_)
        refine lv_iload C.1 C.2.1 dX9_along_194 (lv_at hl 12 rfl) ?_
        refine r_if_ge C rfl (tgt := 213) dX9_along_196 (by decide) (fun h28 => ?_) (fun h28 => ?_)
        · replace hf := if_t hf h28
          refine lv_iload C.1 C.2.1 dX9_along_199 (lv_at hl 0 rfl) ?_
          refine lv_aload C.1 C.2.1 dX9_along_201 (lv_at hl 9 rfl) ?_
          refine g8_limit C (d := t7) S (by omega) tw_155 dX9_along_203 ?_
          refine r_icmp_le C rfl rfl (tgt := 213) dX9_along_206 (by decide) (fun h27 => ?_) (fun h27 => ?_)
          · replace hf := if_t hf h27
            exact b_X9_along_b213 C hend hk105 v2 v3 v4 v5 v6 t7 v8 v9 (mmaxI v10 (q25.1 + v9)) v11 v12 (by omega) S (lv_sub hl [3, 4, 5, 6, 7, 8, 9, 10, 11, 0, 12, 13] rfl) hf
          · replace hf := if_f hf h27
            refine lv_iload C.1 C.2.1 dX9_along_209 (lv_at hl 13 rfl) ?_
            refine lv_istore C.1 C.2.1 dX9_along_211 hl (by decide) (lv' := [(11, .int (oI v12)), (10, .int (oI (mmaxI v10 (q25.1 + v9)))), (14, .int (oI q23)), (13, .int (oI q19)), (0, .ref (G.1 0)), (2, .int (oI v2)), (3, .int (oI v3)), (4, .int (oI v4)), (5, .int (oI v5)), (6, .int (oI v6)), (7, .ref (G.1 (21 + t7))), (8, .int (oI v8)), (9, .int (oI v9)), (12, .int (oI v12))]) rfl (fun ls hl => ?_)
            exact b_X9_along_b213 C hend hk105 v2 v3 v4 v5 v6 t7 v8 v9 (mmaxI v10 (q25.1 + v9)) v12 v12 (by omega) S (lv_sub hl [4, 5, 6, 7, 8, 9, 10, 11, 12, 1, 0, 13] rfl) hf
        · replace hf := if_f hf h28
          exact b_X9_along_b213 C hend hk105 v2 v3 v4 v5 v6 t7 v8 v9 (mmaxI v10 (q25.1 + v9)) v11 v12 (by omega) S (lv_sub hl [3, 4, 5, 6, 7, 8, 9, 10, 11, 0, 12, 13] rfl) hf
    · replace hf := if_f hf h30
      exact b_X9_along_b219 C hend v6 v10 v11 S (lv_sub hl [5, 9, 10] rfl) hf
set_option maxRecDepth 100000 in
set_option maxHeartbeats 4000000 in
theorem b_X9_along_b100 (C : Cx p s m args c RX9 cX9_along 15) {q : Int × Sg} (hend : EndR p l e (rmk 4 119) s m args below meth c Q G true τ cX9_along .ireturn [.int (oI q.1)] q.2) {H : Heap} {locs : List Loc} {ls : Array Slot} {σ : Sg} (v2 : Int) (v3 : Int) (v4 : Int) (v5 : Int) (v6 : Int) (t7 : Nat) (v8 : Int) (v9 : Int) (v10 : Int) (w0 : Int) (ht7 : t7 < 6) (S : St G true τ σ s H locs) (hl : lv_has ls 15 [(0, .ref (G.1 0)), (2, .int (oI v2)), (3, .int (oI v3)), (4, .int (oI v4)), (5, .int (oI v5)), (6, .int (oI v6)), (7, .ref (G.1 (21 + t7))), (8, .int (oI v8)), (9, .int (oI v9)), (10, .int (oI v10))]) (hf : f_X9_along_b100 v2 v3 v4 v5 v6 t7 v8 v9 v10 w0 σ = some q) : W p l e (rmk 4 119) s m args below meth c H locs 0 0 Q (F0 m 100 ls [.int (oI w0)]) := by
  unfold f_X9_along_b100 at hf
  refine lv_istore C.1 C.2.1 dX9_along_100 hl (by decide) (lv' := [(11, .int (oI w0)), (0, .ref (G.1 0)), (2, .int (oI v2)), (3, .int (oI v3)), (4, .int (oI v4)), (5, .int (oI v5)), (6, .int (oI v6)), (7, .ref (G.1 (21 + t7))), (8, .int (oI v8)), (9, .int (oI v9)), (10, .int (oI v10))]) rfl (fun ls hl => ?_)
  refine r_iconst C dX9_along_102 ?_
  refine lv_istore C.1 C.2.1 dX9_along_103 hl (by decide) (lv' := [(12, .int (oI 1)), (11, .int (oI w0)), (0, .ref (G.1 0)), (2, .int (oI v2)), (3, .int (oI v3)), (4, .int (oI v4)), (5, .int (oI v5)), (6, .int (oI v6)), (7, .ref (G.1 (21 + t7))), (8, .int (oI v8)), (9, .int (oI v9)), (10, .int (oI v10))]) rfl (fun ls hl => ?_)
  exact b_X9_along_b105 C hend FUEL v2 v3 v4 v5 v6 t7 v8 v9 v10 w0 1 (by omega) S (lv_sub hl [2, 3, 4, 5, 6, 7, 8, 9, 10, 11, 1, 0] rfl) hf
set_option maxRecDepth 100000 in
set_option maxHeartbeats 4000000 in
theorem ct_X9_along (l : Launch) (G : Gd) (τ : Sg) {v1 : Int} {v2 : Int} {v3 : Int} {v4 : Int} {v5 : Int} {v6 : Int} {σ : Sg} {q : Int × Sg} (hf : f_X9_along v1 v2 v3 v4 v5 v6 σ = some q) : Ctr l yX9_along cX9_along 15 (some .int) (rmk 4 119) G true τ [.ref (G.1 0), .int (oI v1), .int (oI v2), .int (oI v3), .int (oI v4), .int (oI v5), .int (oI v6)] σ q.2 (some (.int (oI q.1))) := by
  unfold f_X9_along at hf
  refine CtrI.of (own := RX9) (plainFor_of_name (by decide)) (Nat.le_of_ble_eq_true rfl) rfl (fun p e s m below meth c Q ls C hl S hend => ?_)
  have hl : lv_has ls 15 [(0, .ref (G.1 0)), (1, .int (oI v1)), (2, .int (oI v2)), (3, .int (oI v3)), (4, .int (oI v4)), (5, .int (oI v5)), (6, .int (oI v6))] := hl
  refine lv_aload_n C.1 C.2.1 dX9_along_0 rfl (lv_at hl 0 rfl) ?_
  refine lv_iload_n C.1 C.2.1 dX9_along_1 rfl (lv_at hl 1 rfl) ?_
  obtain ⟨q1, hc2, hf⟩ := bd_o hf
  refine r_callVv C S (As := [.int (oI v1)]) (rest := []) (ct_X9_treatyAt l G τ hc2) mi_X9_treatyAt tw_528 mv_X9_treatyAt (rvX9 S) ⟨rfl, rfl⟩ ⟨Nat.le_of_ble_eq_true rfl, Nat.le_of_ble_eq_true rfl⟩ ⟨Nat.zero_le _, Nat.zero_le _⟩ rfl hl.1 rfl (Nat.le_of_ble_eq_true rfl) dX9_along_2 (fun H locs S => ?_)
  rcases q1 with _ | t3
  · replace hf := oT_n hf
    refine lv_astoreN C.1 C.2.1 dX9_along_5 hl (by decide) (lv' := [(7, .null), (0, .ref (G.1 0)), (1, .int (oI v1)), (2, .int (oI v2)), (3, .int (oI v3)), (4, .int (oI v4)), (5, .int (oI v5)), (6, .int (oI v6))]) rfl (fun ls hl => ?_)
    refine lv_aloadN C.1 C.2.1 dX9_along_7 (lv_at hl 0 rfl) ?_
    refine lv_ifnullN C.1 C.2.1 (tgt := 56) dX9_along_9 (by decide) ?_
    refine r_iconst C dX9_along_56 ?_
    cases hf
    exact hend _ _ _ _ S dX9_along_57
  · obtain ⟨ht3, hf⟩ := oT_s hf
    refine lv_astore C.1 C.2.1 dX9_along_5 hl (by decide) (lv' := [(7, .ref (G.1 (21 + t3))), (0, .ref (G.1 0)), (1, .int (oI v1)), (2, .int (oI v2)), (3, .int (oI v3)), (4, .int (oI v4)), (5, .int (oI v5)), (6, .int (oI v6))]) rfl (fun ls hl => ?_)
    refine lv_aload C.1 C.2.1 dX9_along_7 (lv_at hl 0 rfl) ?_
    refine lv_ifnull C.1 C.2.1 dX9_along_9 ?_
    refine lv_aload_n C.1 C.2.1 dX9_along_12 rfl (lv_at hl 1 rfl) ?_
    refine g9_book C S tw_282 dX9_along_13 ?_
    refine lv_iload_n C.1 C.2.1 dX9_along_16 rfl (lv_at hl 3 rfl) ?_
    obtain ⟨q4, hc5, hf⟩ := bd_o hf
    refine r_callVv C S (As := [.int (oI v2)]) (rest := []) (ct_X0_has l G τ hc5) mi_X0_has tw_581 mv_X0_has (rvX0 S) ⟨rfl, rfl⟩ ⟨Nat.le_of_ble_eq_true rfl, Nat.le_of_ble_eq_true rfl⟩ ⟨Nat.zero_le _, Nat.zero_le _⟩ rfl hl.1 rfl (Nat.le_of_ble_eq_true rfl) dX9_along_17 (fun H locs S => ?_)
    refine r_if_eq C rfl (tgt := 56) dX9_along_20 (by decide) (fun h37 => ?_) (fun h37 => ?_)
    · replace hf := if_t hf h37
      refine r_iconst C dX9_along_56 ?_
      cases hf
      exact hend _ _ _ _ S dX9_along_57
    · replace hf := if_f hf h37
      refine lv_iload_n C.1 C.2.1 dX9_along_23 rfl (lv_at hl 4 rfl) ?_
      refine lv_iload C.1 C.2.1 dX9_along_24 (lv_at hl 5 rfl) ?_
      obtain ⟨q6, hc7, hf⟩ := bd_o hf
      refine r_callSv C S (As := [.int (oI v3), .int (oI v4)]) (rest := []) (ct_X9_isPlace l G τ hc7) mi_X9_isPlace tw_549 ms_X9_isPlace ⟨rfl, rfl⟩ ⟨Nat.le_of_ble_eq_true rfl, Nat.le_of_ble_eq_true rfl⟩ ⟨Nat.zero_le _, Nat.zero_le _⟩ rfl hl.1 rfl (Nat.le_of_ble_eq_true rfl) dX9_along_26 (fun H locs S => ?_)
      refine r_if_eq C rfl (tgt := 56) dX9_along_29 (by decide) (fun h36 => ?_) (fun h36 => ?_)
      · replace hf := if_t hf h36
        refine r_iconst C dX9_along_56 ?_
        cases hf
        exact hend _ _ _ _ S dX9_along_57
      · replace hf := if_f hf h36
        refine lv_iload C.1 C.2.1 dX9_along_32 (lv_at hl 6 rfl) ?_
        refine r_iconst C dX9_along_34 ?_
        refine r_icmp_lt C rfl (show w32 1 = 1 by decide) (tgt := 56) dX9_along_35 (by decide) (fun h35 => ?_) (fun h35 => ?_)
        · replace hf := if_t hf h35
          refine r_iconst C dX9_along_56 ?_
          cases hf
          exact hend _ _ _ _ S dX9_along_57
        · replace hf := if_f hf h35
          refine lv_iload C.1 C.2.1 dX9_along_38 (lv_at hl 6 rfl) ?_
          refine r_bipush C dX9_along_40 (by decide) ?_
          refine r_icmp_gt C rfl (show w32 20 = 20 by decide) (tgt := 56) dX9_along_42 (by decide) (fun h34 => ?_) (fun h34 => ?_)
          · replace hf := if_t hf h34
            refine lv_iload C.1 C.2.1 dX9_along_45 (lv_at hl 7 rfl) ?_
            refine r_if_lt C rfl (tgt := 56) dX9_along_47 (by decide) (fun h33 => ?_) (fun h33 => ?_)
            · replace hf := if_t hf h33
              refine r_iconst C dX9_along_56 ?_
              cases hf
              exact hend _ _ _ _ S dX9_along_57
            · replace hf := if_f hf h33
              refine lv_iload C.1 C.2.1 dX9_along_50 (lv_at hl 7 rfl) ?_
              refine r_iconst C dX9_along_52 ?_
              refine r_icmp_le C rfl (show w32 1 = 1 by decide) (tgt := 58) dX9_along_53 (by decide) (fun h32 => ?_) (fun h32 => ?_)
              · replace hf := if_t hf h32
                refine r_ldcw C tw_776 dX9_along_58 ?_
                refine r_iconst C dX9_along_61 ?_
                refine lv_iload_n C.1 C.2.1 dX9_along_62 rfl (lv_at hl 3 rfl) ?_
                refine r_ishl C (y1 := (u32 v2 % 32)) rfl dX9_along_63 ?_
                refine r_iconst C dX9_along_64 ?_
                refine r_ixor C rfl (show u32 (-1) = 4294967295 by decide) dX9_along_65 ?_
                refine r_iand C (show u32 16777215 = 16777215 by decide) (u32_nat (nb_xor (u32_lt _) (show 4294967295 < 4294967296 by decide))) dX9_along_66 ?_
                refine lv_istore C.1 C.2.1 dX9_along_67 hl (by decide) (lv' := [(8, .int (oI (((16777215 &&& ((u32 (1 * ((2 ^ (u32 v2 % 32) : Nat) : Int))) ^^^ 4294967295) : Nat) : Int)))), (7, .ref (G.1 (21 + t3))), (0, .ref (G.1 0)), (1, .int (oI v1)), (2, .int (oI v2)), (3, .int (oI v3)), (4, .int (oI v4)), (5, .int (oI v5)), (6, .int (oI v6))]) rfl (fun ls hl => ?_)
                refine lv_aload_n C.1 C.2.1 dX9_along_69 rfl (lv_at hl 2 rfl) ?_
                refine g9_book C S tw_282 dX9_along_70 ?_
                refine lv_iload_n C.1 C.2.1 dX9_along_73 rfl (lv_at hl 4 rfl) ?_
                obtain ⟨q8, hc9, hf⟩ := bd_o hf
                refine r_callVv C S (As := [.int (oI v2)]) (rest := []) (ct_X0_sumOf l G τ hc9) mi_X0_sumOf tw_614 mv_X0_sumOf (rvX0 S) ⟨rfl, rfl⟩ ⟨Nat.le_of_ble_eq_true rfl, Nat.le_of_ble_eq_true rfl⟩ ⟨Nat.zero_le _, Nat.zero_le _⟩ rfl hl.1 rfl (Nat.le_of_ble_eq_true rfl) dX9_along_74 (fun H locs S => ?_)
                refine lv_istore C.1 C.2.1 dX9_along_77 hl (by decide) (lv' := [(9, .int (oI q8)), (8, .int (oI (((16777215 &&& ((u32 (1 * ((2 ^ (u32 v2 % 32) : Nat) : Int))) ^^^ 4294967295) : Nat) : Int)))), (7, .ref (G.1 (21 + t3))), (0, .ref (G.1 0)), (1, .int (oI v1)), (2, .int (oI v2)), (3, .int (oI v3)), (4, .int (oI v4)), (5, .int (oI v5)), (6, .int (oI v6))]) rfl (fun ls hl => ?_)
                refine lv_aload C.1 C.2.1 dX9_along_79 (lv_at hl 2 rfl) ?_
                refine g8_worstSums C (d := t3) S (by omega) tw_159 dX9_along_81 ?_
                refine lv_istore C.1 C.2.1 dX9_along_84 hl (by decide) (lv' := [(10, .int (oI (σ (21 + t3) 6))), (9, .int (oI q8)), (8, .int (oI (((16777215 &&& ((u32 (1 * ((2 ^ (u32 v2 % 32) : Nat) : Int))) ^^^ 4294967295) : Nat) : Int)))), (7, .ref (G.1 (21 + t3))), (0, .ref (G.1 0)), (1, .int (oI v1)), (2, .int (oI v2)), (3, .int (oI v3)), (4, .int (oI v4)), (5, .int (oI v5)), (6, .int (oI v6))]) rfl (fun ls hl => ?_)
                refine lv_aload C.1 C.2.1 dX9_along_86 (lv_at hl 3 rfl) ?_
                obtain ⟨q10, hc11, hf⟩ := bd_o hf
                refine r_callVv C S (As := []) (rest := []) (ct_X8_isPassed l G τ hc11) mi_X8_isPassed tw_532 mv_X8_isPassed (rvX8 S (d := t3) (by omega)) ⟨rfl, rfl⟩ ⟨Nat.le_of_ble_eq_true rfl, Nat.le_of_ble_eq_true rfl⟩ ⟨Nat.zero_le _, Nat.zero_le _⟩ rfl hl.1 rfl (Nat.le_of_ble_eq_true rfl) dX9_along_88 (fun H locs S => ?_)
                refine r_if_eq C rfl (tgt := 98) dX9_along_91 (by decide) (fun h31 => ?_) (fun h31 => ?_)
                · replace hf := if_t hf h31
                  refine r_bipush C dX9_along_98 (by decide) ?_
                  exact b_X9_along_b100 C hend v2 v3 v4 v5 v6 t3 (((16777215 &&& ((u32 (1 * ((2 ^ (u32 v2 % 32) : Nat) : Int))) ^^^ 4294967295) : Nat) : Int)) q8 (σ (21 + t3) 6) ((-2)) (by omega) S (lv_sub hl [4, 6, 7, 8, 9, 10, 3, 2, 1, 0] rfl) hf
                · replace hf := if_f hf h31
                  refine r_iconst C dX9_along_94 ?_
                  refine lv_goto C.1 C.2.1 (tgt := 100) dX9_along_95 (by decide) ?_
                  exact b_X9_along_b100 C hend v2 v3 v4 v5 v6 t3 (((16777215 &&& ((u32 (1 * ((2 ^ (u32 v2 % 32) : Nat) : Int))) ^^^ 4294967295) : Nat) : Int)) q8 (σ (21 + t3) 6) 0 (by omega) S (lv_sub hl [4, 6, 7, 8, 9, 10, 3, 2, 1, 0] rfl) hf
              · replace hf := if_f hf h32
                refine r_iconst C dX9_along_56 ?_
                cases hf
                exact hend _ _ _ _ S dX9_along_57
          · replace hf := if_f hf h34
            refine r_iconst C dX9_along_56 ?_
            cases hf
            exact hend _ _ _ _ S dX9_along_57
set_option maxRecDepth 100000 in
set_option maxHeartbeats 4000000 in
theorem ct_X9_isReach (l : Launch) (G : Gd) (τ : Sg) {v0 : Int} {σ : Sg} {q : Int} (hf : f_X9_isReach v0 σ = some q) : Ctr l yX9_isReach cX9_isReach 1 (some .boolean) (rmk 0 0) G true τ [.int (oI v0)] σ σ (some (.int (oI q))) := by
  unfold f_X9_isReach at hf
  refine CtrZ.of (own := RX9) (plainFor_of_name (by decide)) (Nat.le_of_ble_eq_true rfl) rfl (fun p e s m below meth c Q ls C hl S hend => ?_)
  have hl : lv_has ls 1 [(0, .int (oI v0))] := hl
  refine lv_iload_n C.1 C.2.1 dX9_isReach_0 rfl (lv_at hl 0 rfl) ?_
  refine r_if_lt C rfl (tgt := 15) dX9_isReach_1 (by decide) (fun h2 => ?_) (fun h2 => ?_)
  · replace hf := if_t hf h2
    refine r_iconst C dX9_isReach_15 ?_
    cases hf
    exact hend (Or.inl rfl) _ _ _ _ S dX9_isReach_16
  · replace hf := if_f hf h2
    refine lv_iload_n C.1 C.2.1 dX9_isReach_4 rfl (lv_at hl 0 rfl) ?_
    refine r_sipush C dX9_isReach_5 (by decide) ?_
    refine r_icmp_gt C rfl (show w32 300 = 300 by decide) (tgt := 15) dX9_isReach_8 (by decide) (fun h1 => ?_) (fun h1 => ?_)
    · replace hf := if_t hf h1
      refine r_iconst C dX9_isReach_11 ?_
      refine lv_goto C.1 C.2.1 (tgt := 16) dX9_isReach_12 (by decide) ?_
      cases hf
      exact hend (Or.inr rfl) _ _ _ _ S dX9_isReach_16
    · replace hf := if_f hf h1
      refine r_iconst C dX9_isReach_15 ?_
      cases hf
      exact hend (Or.inl rfl) _ _ _ _ S dX9_isReach_16
set_option maxRecDepth 100000 in
set_option maxHeartbeats 4000000 in
theorem b_X9_chainFrom_b82 (C : Cx p s m args c RX9 cX9_chainFrom 8) {q : Int} {k11 : Int → Int → Int → Int → Int → Option (Int)} {k32 : Int → Int → Int → Int → Int → Int → Option (Int)} (hend : EndR p l e (rmk 2 48) s m args below meth c Q G true τ cX9_chainFrom .ireturn [.int (oI q)] σ) (hk11 : ∀ {H : Heap} {locs : List Loc} {ls : Array Slot} (v2 : Int) (v3 : Int) (v4 : Int) (v5 : Int) (v6 : Int), St G true τ σ s H locs → lv_has ls 8 [(0, .ref (G.1 0)), (2, .int (oI v2)), (3, .int (oI v3)), (4, .int (oI v4)), (5, .int (oI v5)), (6, .int (oI v6))] → k11 v2 v3 v4 v5 v6 = some q → W p l e (rmk 2 48) s m args below meth c H locs 0 0 Q (F0 m 11 ls [])) (hk32 : ∀ {H : Heap} {locs : List Loc} {ls : Array Slot} (v2 : Int) (v3 : Int) (v4 : Int) (v5 : Int) (v6 : Int) (v7 : Int), St G true τ σ s H locs → lv_has ls 8 [(0, .ref (G.1 0)), (2, .int (oI v2)), (3, .int (oI v3)), (4, .int (oI v4)), (5, .int (oI v5)), (6, .int (oI v6)), (7, .int (oI v7))] → k32 v2 v3 v4 v5 v6 v7 = some q → W p l e (rmk 2 48) s m args below meth c H locs 0 0 Q (F0 m 32 ls [])) {H : Heap} {locs : List Loc} {ls : Array Slot} (v2 : Int) (v3 : Int) (v4 : Int) (v5 : Int) (v6 : Int) (v7 : Int) (S : St G true τ σ s H locs) (hl : lv_has ls 8 [(0, .ref (G.1 0)), (2, .int (oI v2)), (3, .int (oI v3)), (4, .int (oI v4)), (5, .int (oI v5)), (6, .int (oI v6)), (7, .int (oI v7))]) (hf : f_X9_chainFrom_b82 σ k11 k32 v2 v3 v4 v5 v6 v7 = some q) : W p l e (rmk 2 48) s m args below meth c H locs 0 0 Q (F0 m 82 ls []) := by
  unfold f_X9_chainFrom_b82 at hf
  refine r_iinc C dX9_chainFrom_82 hl (k := 6) rfl (by decide) (lv' := [(7, .int (oI (v7 + 1))), (0, .ref (G.1 0)), (2, .int (oI v2)), (3, .int (oI v3)), (4, .int (oI v4)), (5, .int (oI v5)), (6, .int (oI v6))]) rfl (fun ls hl => ?_)
  refine lv_goto C.1 C.2.1 (tgt := 32) dX9_chainFrom_85 (by decide) ?_
  exact hk32 v2 v3 v4 v5 v6 (v7 + 1) S (lv_sub hl [1, 2, 3, 4, 5, 6, 0] rfl) hf
set_option maxRecDepth 100000 in
set_option maxHeartbeats 4000000 in
theorem b_X9_chainFrom_b88 (C : Cx p s m args c RX9 cX9_chainFrom 8) {q : Int} {k11 : Int → Int → Int → Int → Int → Option (Int)} (hend : EndR p l e (rmk 2 48) s m args below meth c Q G true τ cX9_chainFrom .ireturn [.int (oI q)] σ) (hk11 : ∀ {H : Heap} {locs : List Loc} {ls : Array Slot} (v2 : Int) (v3 : Int) (v4 : Int) (v5 : Int) (v6 : Int), St G true τ σ s H locs → lv_has ls 8 [(0, .ref (G.1 0)), (2, .int (oI v2)), (3, .int (oI v3)), (4, .int (oI v4)), (5, .int (oI v5)), (6, .int (oI v6))] → k11 v2 v3 v4 v5 v6 = some q → W p l e (rmk 2 48) s m args below meth c H locs 0 0 Q (F0 m 11 ls [])) {H : Heap} {locs : List Loc} {ls : Array Slot} (v2 : Int) (v3 : Int) (v4 : Int) (v5 : Int) (v6 : Int) (S : St G true τ σ s H locs) (hl : lv_has ls 8 [(0, .ref (G.1 0)), (2, .int (oI v2)), (3, .int (oI v3)), (4, .int (oI v4)), (5, .int (oI v5)), (6, .int (oI v6))]) (hf : f_X9_chainFrom_b88 σ k11 v2 v3 v4 v5 v6 = some q) : W p l e (rmk 2 48) s m args below meth c H locs 0 0 Q (F0 m 88 ls []) := by
  unfold f_X9_chainFrom_b88 at hf
  refine r_iinc C dX9_chainFrom_88 hl (k := 5) rfl (by decide) (lv' := [(6, .int (oI (v6 + 1))), (0, .ref (G.1 0)), (2, .int (oI v2)), (3, .int (oI v3)), (4, .int (oI v4)), (5, .int (oI v5))]) rfl (fun ls hl => ?_)
  refine lv_goto C.1 C.2.1 (tgt := 11) dX9_chainFrom_91 (by decide) ?_
  exact hk11 v2 v3 v4 v5 (v6 + 1) S (lv_sub hl [1, 2, 3, 4, 5, 0] rfl) hf
set_option maxRecDepth 100000 in
set_option maxHeartbeats 4000000 in
theorem b_X9_chainFrom_b32 (C : Cx p s m args c RX9 cX9_chainFrom 8) {q : Int} {k11 : Int → Int → Int → Int → Int → Option (Int)} (hend : EndR p l e (rmk 2 48) s m args below meth c Q G true τ cX9_chainFrom .ireturn [.int (oI q)] σ) (hk11 : ∀ {H : Heap} {locs : List Loc} {ls : Array Slot} (v2 : Int) (v3 : Int) (v4 : Int) (v5 : Int) (v6 : Int), St G true τ σ s H locs → lv_has ls 8 [(0, .ref (G.1 0)), (2, .int (oI v2)), (3, .int (oI v3)), (4, .int (oI v4)), (5, .int (oI v5)), (6, .int (oI v6))] → k11 v2 v3 v4 v5 v6 = some q → W p l e (rmk 2 48) s m args below meth c H locs 0 0 Q (F0 m 11 ls [])) : ∀ (n : Nat) {H : Heap} {locs : List Loc} {ls : Array Slot} (v2 : Int) (v3 : Int) (v4 : Int) (v5 : Int) (v6 : Int) (v7 : Int) (S : St G true τ σ s H locs) (hl : lv_has ls 8 [(0, .ref (G.1 0)), (2, .int (oI v2)), (3, .int (oI v3)), (4, .int (oI v4)), (5, .int (oI v5)), (6, .int (oI v6)), (7, .int (oI v7))]) (hf : f_X9_chainFrom_b32 σ k11 n v2 v3 v4 v5 v6 v7 = some q), W p l e (rmk 2 48) s m args below meth c H locs 0 0 Q (F0 m 32 ls []) := by
  intro n
  induction n with
  | zero => intro H locs ls v2 v3 v4 v5 v6 v7 S hl hf; cases hf
  | succ n ih =>
    intro H locs ls v2 v3 v4 v5 v6 v7 S hl hf
    have hk32 := @ih
    rw [f_X9_chainFrom_b32] at hf
    refine lv_iload C.1 C.2.1 dX9_chainFrom_32 (lv_at hl 6 rfl) ?_
    refine r_bipush C dX9_chainFrom_34 (by decide) ?_
    refine r_icmp_ge C rfl (show w32 24 = 24 by decide) (tgt := 88) dX9_chainFrom_36 (by decide) (fun h10 => ?_) (fun h10 => ?_)
    · replace hf := if_t hf h10
      refine lv_iload C.1 C.2.1 dX9_chainFrom_39 (lv_at hl 3 rfl) ?_
      refine lv_iload C.1 C.2.1 dX9_chainFrom_41 (lv_at hl 6 rfl) ?_
      obtain ⟨q1, hc2, hf⟩ := bd_o hf
      refine r_callSv C S (As := [.int (oI v4), .int (oI v7)]) (rest := []) (ct_X9_contains l G τ hc2) mi_X9_contains tw_661 ms_X9_contains ⟨rfl, rfl⟩ ⟨Nat.le_of_ble_eq_true rfl, Nat.le_of_ble_eq_true rfl⟩ ⟨Nat.zero_le _, Nat.zero_le _⟩ rfl hl.1 rfl (Nat.le_of_ble_eq_true rfl) dX9_chainFrom_43 (fun H locs S => ?_)
      refine r_if_eq C rfl (tgt := 82) dX9_chainFrom_46 (by decide) (fun h9 => ?_) (fun h9 => ?_)
      · replace hf := if_t hf h9
        exact b_X9_chainFrom_b82 C hend hk11 hk32 v2 v3 v4 v5 v6 v7 S (lv_sub hl [0, 1, 2, 3, 4, 5, 6] rfl) hf
      · replace hf := if_f hf h9
        refine lv_iload C.1 C.2.1 dX9_chainFrom_49 (lv_at hl 3 rfl) ?_
        refine lv_iload_n C.1 C.2.1 dX9_chainFrom_51 rfl (lv_at hl 1 rfl) ?_
        refine lv_aload_n C.1 C.2.1 dX9_chainFrom_52 rfl (lv_at hl 0 rfl) ?_
        refine g9_book C S tw_282 dX9_chainFrom_53 ?_
        refine lv_aload_n C.1 C.2.1 dX9_chainFrom_56 rfl (lv_at hl 0 rfl) ?_
        refine g9_book C S tw_282 dX9_chainFrom_57 ?_
        refine lv_iload C.1 C.2.1 dX9_chainFrom_60 (lv_at hl 6 rfl) ?_
        obtain ⟨q3, hc4, hf⟩ := bd_o hf
        refine r_callVv C S (As := [.int (oI v7)]) (rest := [.ref (G.1 6), .int (oI v2), .int (oI v4)]) (ct_X0_xOf l G τ hc4) mi_X0_xOf tw_806 mv_X0_xOf (rvX0 S) ⟨rfl, rfl⟩ ⟨Nat.le_of_ble_eq_true rfl, Nat.le_of_ble_eq_true rfl⟩ ⟨Nat.zero_le _, Nat.zero_le _⟩ rfl hl.1 rfl (Nat.le_of_ble_eq_true rfl) dX9_chainFrom_62 (fun H locs S => ?_)
        refine lv_aload_n C.1 C.2.1 dX9_chainFrom_65 rfl (lv_at hl 0 rfl) ?_
        refine g9_book C S tw_282 dX9_chainFrom_66 ?_
        refine lv_iload C.1 C.2.1 dX9_chainFrom_69 (lv_at hl 6 rfl) ?_
        obtain ⟨q5, hc6, hf⟩ := bd_o hf
        refine r_callVv C S (As := [.int (oI v7)]) (rest := [.int (oI q3), .ref (G.1 6), .int (oI v2), .int (oI v4)]) (ct_X0_yOf l G τ hc6) mi_X0_yOf tw_813 mv_X0_yOf (rvX0 S) ⟨rfl, rfl⟩ ⟨Nat.le_of_ble_eq_true rfl, Nat.le_of_ble_eq_true rfl⟩ ⟨Nat.zero_le _, Nat.zero_le _⟩ rfl hl.1 rfl (Nat.le_of_ble_eq_true rfl) dX9_chainFrom_71 (fun H locs S => ?_)
        refine lv_iload_n C.1 C.2.1 dX9_chainFrom_74 rfl (lv_at hl 2 rfl) ?_
        obtain ⟨q7, hc8, hf⟩ := bd_o hf
        refine r_callVv C S (As := [.int (oI q3), .int (oI q5), .int (oI v3)]) (rest := [.int (oI v2), .int (oI v4)]) (ct_X0_within l G τ hc8) mi_X0_within tw_825 mv_X0_within (rvX0 S) ⟨rfl, rfl⟩ ⟨Nat.le_of_ble_eq_true rfl, Nat.le_of_ble_eq_true rfl⟩ ⟨Nat.zero_le _, Nat.zero_le _⟩ rfl hl.1 rfl (Nat.le_of_ble_eq_true rfl) dX9_chainFrom_75 (fun H locs S => ?_)
        refine r_iand C rfl rfl dX9_chainFrom_78 ?_
        refine r_ior C rfl (u32_nat (nb_and (u32_lt _))) dX9_chainFrom_79 ?_
        refine lv_istore C.1 C.2.1 dX9_chainFrom_80 hl (by decide) (lv' := [(4, .int (oI ((((u32 v4) ||| ((u32 v2) &&& (u32 q7)) : Nat) : Int)))), (0, .ref (G.1 0)), (2, .int (oI v2)), (3, .int (oI v3)), (5, .int (oI v5)), (6, .int (oI v6)), (7, .int (oI v7))]) rfl (fun ls hl => ?_)
        exact b_X9_chainFrom_b82 C hend hk11 hk32 v2 v3 ((((u32 v4) ||| ((u32 v2) &&& (u32 q7)) : Nat) : Int)) v5 v6 v7 S (lv_sub hl [1, 2, 3, 0, 4, 5, 6] rfl) hf
    · replace hf := if_f hf h10
      exact b_X9_chainFrom_b88 C hend hk11 v2 v3 v4 v5 v6 S (lv_sub hl [0, 1, 2, 3, 4, 5] rfl) hf
set_option maxRecDepth 100000 in
set_option maxHeartbeats 4000000 in
theorem b_X9_chainFrom_b11 (C : Cx p s m args c RX9 cX9_chainFrom 8) {q : Int} (hend : EndR p l e (rmk 2 48) s m args below meth c Q G true τ cX9_chainFrom .ireturn [.int (oI q)] σ) : ∀ (n : Nat) {H : Heap} {locs : List Loc} {ls : Array Slot} (v2 : Int) (v3 : Int) (v4 : Int) (v5 : Int) (v6 : Int) (S : St G true τ σ s H locs) (hl : lv_has ls 8 [(0, .ref (G.1 0)), (2, .int (oI v2)), (3, .int (oI v3)), (4, .int (oI v4)), (5, .int (oI v5)), (6, .int (oI v6))]) (hf : f_X9_chainFrom_b11 σ n v2 v3 v4 v5 v6 = some q), W p l e (rmk 2 48) s m args below meth c H locs 0 0 Q (F0 m 11 ls []) := by
  intro n
  induction n with
  | zero => intro H locs ls v2 v3 v4 v5 v6 S hl hf; cases hf
  | succ n ih =>
    intro H locs ls v2 v3 v4 v5 v6 S hl hf
    have hk11 := @ih
    rw [f_X9_chainFrom_b11] at hf
    refine lv_iload C.1 C.2.1 dX9_chainFrom_11 (lv_at hl 5 rfl) ?_
    refine r_bipush C dX9_chainFrom_13 (by decide) ?_
    refine r_icmp_ge C rfl (show w32 24 = 24 by decide) (tgt := 94) dX9_chainFrom_15 (by decide) (fun h12 => ?_) (fun h12 => ?_)
    · replace hf := if_t hf h12
      refine lv_iload C.1 C.2.1 dX9_chainFrom_18 (lv_at hl 3 rfl) ?_
      refine lv_iload C.1 C.2.1 dX9_chainFrom_20 (lv_at hl 4 rfl) ?_
      refine r_icmp_eq C rfl rfl (tgt := 94) dX9_chainFrom_22 (by decide) (fun h11 => ?_) (fun h11 => ?_)
      · replace hf := if_t hf h11
        refine lv_iload C.1 C.2.1 dX9_chainFrom_94 (lv_at hl 3 rfl) ?_
        cases hf
        exact hend _ _ _ _ S dX9_chainFrom_96
      · replace hf := if_f hf h11
        refine lv_iload C.1 C.2.1 dX9_chainFrom_25 (lv_at hl 3 rfl) ?_
        refine lv_istore C.1 C.2.1 dX9_chainFrom_27 hl (by decide) (lv' := [(5, .int (oI v4)), (0, .ref (G.1 0)), (2, .int (oI v2)), (3, .int (oI v3)), (4, .int (oI v4)), (6, .int (oI v6))]) rfl (fun ls hl => ?_)
        refine r_iconst C dX9_chainFrom_29 ?_
        refine lv_istore C.1 C.2.1 dX9_chainFrom_30 hl (by decide) (lv' := [(7, .int (oI 0)), (5, .int (oI v4)), (0, .ref (G.1 0)), (2, .int (oI v2)), (3, .int (oI v3)), (4, .int (oI v4)), (6, .int (oI v6))]) rfl (fun ls hl => ?_)
        exact b_X9_chainFrom_b32 C hend hk11 FUEL v2 v3 v4 v4 v6 0 S (lv_sub hl [2, 3, 4, 5, 1, 6, 0] rfl) hf
    · replace hf := if_f hf h12
      refine lv_iload C.1 C.2.1 dX9_chainFrom_94 (lv_at hl 3 rfl) ?_
      cases hf
      exact hend _ _ _ _ S dX9_chainFrom_96
set_option maxRecDepth 100000 in
set_option maxHeartbeats 4000000 in
theorem ct_X9_chainFrom (l : Launch) (G : Gd) (τ : Sg) {v1 : Int} {v2 : Int} {v3 : Int} {σ : Sg} {q : Int} (hf : f_X9_chainFrom v1 v2 v3 σ = some q) : Ctr l yX9_chainFrom cX9_chainFrom 8 (some .int) (rmk 2 48) G true τ [.ref (G.1 0), .int (oI v1), .int (oI v2), .int (oI v3)] σ σ (some (.int (oI q))) := by
  unfold f_X9_chainFrom at hf
  refine CtrI.of (own := RX9) (plainFor_of_name (by decide)) (Nat.le_of_ble_eq_true rfl) rfl (fun p e s m below meth c Q ls C hl S hend => ?_)
  have hl : lv_has ls 8 [(0, .ref (G.1 0)), (1, .int (oI v1)), (2, .int (oI v2)), (3, .int (oI v3))] := hl
  refine r_iconst C dX9_chainFrom_0 ?_
  refine lv_iload_n C.1 C.2.1 dX9_chainFrom_1 rfl (lv_at hl 1 rfl) ?_
  refine r_ishl C (y1 := (u32 v1 % 32)) rfl dX9_chainFrom_2 ?_
  refine lv_istore C.1 C.2.1 dX9_chainFrom_3 hl (by decide) (lv' := [(4, .int (oI (1 * ((2 ^ (u32 v1 % 32) : Nat) : Int)))), (0, .ref (G.1 0)), (1, .int (oI v1)), (2, .int (oI v2)), (3, .int (oI v3))]) rfl (fun ls hl => ?_)
  refine r_iconst C dX9_chainFrom_5 ?_
  refine lv_istore C.1 C.2.1 dX9_chainFrom_6 hl (by decide) (lv' := [(5, .int (oI 0)), (4, .int (oI (1 * ((2 ^ (u32 v1 % 32) : Nat) : Int)))), (0, .ref (G.1 0)), (1, .int (oI v1)), (2, .int (oI v2)), (3, .int (oI v3))]) rfl (fun ls hl => ?_)
  refine r_iconst C dX9_chainFrom_8 ?_
  refine lv_istore C.1 C.2.1 dX9_chainFrom_9 hl (by decide) (lv' := [(6, .int (oI 0)), (5, .int (oI 0)), (4, .int (oI (1 * ((2 ^ (u32 v1 % 32) : Nat) : Int)))), (0, .ref (G.1 0)), (1, .int (oI v1)), (2, .int (oI v2)), (3, .int (oI v3))]) rfl (fun ls hl => ?_)
  exact b_X9_chainFrom_b11 C hend FUEL v2 v3 (1 * ((2 ^ (u32 v1 % 32) : Nat) : Int)) 0 0 S (lv_sub hl [3, 5, 6, 2, 1, 0] rfl) hf
end WK
