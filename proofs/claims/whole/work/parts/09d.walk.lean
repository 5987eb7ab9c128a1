section WK
variable {p : Program} {l : Launch} {e : Env} {s : State} {m : MethodId} {args : Array Value} {below : List Frame} {meth : Method} {c : Code} {Q : State → Prop} {G : Gd} {b : Bool} {τ σ : Sg}
set_option maxRecDepth 100000 in
set_option maxHeartbeats 4000000 in
theorem b_X9_chains_b124 (C : Cx p s m args c RX9 cX9_chains 10) {q : Int} {k47 : Int → Int → Int → Int → Int → Int → Int → Option (Int)} (hend : EndR p l e (rmk 3 75) s m args below meth c Q G true τ cX9_chains .ireturn [.int (oI q)] σ) (hk47 : ∀ {H : Heap} {locs : List Loc} {ls : Array Slot} (v2 : Int) (v3 : Int) (v4 : Int) (v5 : Int) (v6 : Int) (v7 : Int) (v8 : Int), St G true τ σ s H locs → lv_has ls 10 [(0, .ref (G.1 0)), (2, .int (oI v2)), (3, .int (oI v3)), (4, .int (oI v4)), (5, .int (oI v5)), (6, .int (oI v6)), (7, .int (oI v7)), (8, .int (oI v8))] → k47 v2 v3 v4 v5 v6 v7 v8 = some q → W p l e (rmk 3 75) s m args below meth c H locs 0 0 Q (F0 m 47 ls [])) {H : Heap} {locs : List Loc} {ls : Array Slot} (v2 : Int) (v3 : Int) (v4 : Int) (v5 : Int) (v6 : Int) (v7 : Int) (v8 : Int) (S : St G true τ σ s H locs) (hl : lv_has ls 10 [(0, .ref (G.1 0)), (2, .int (oI v2)), (3, .int (oI v3)), (4, .int (oI v4)), (5, .int (oI v5)), (6, .int (oI v6)), (7, .int (oI v7)), (8, .int (oI v8))]) (hf : f_X9_chains_b124 σ k47 v2 v3 v4 v5 v6 v7 v8 = some q) : W p l e (rmk 3 75) s m args below meth c H locs 0 0 Q (F0 m 124 ls []) := by
  unfold f_X9_chains_b124 at hf
  refine r_iinc C dX9_chains_124 hl (k := 7) rfl (by decide) (lv' := [(8, .int (oI (v8 + 1))), (0, .ref (G.1 0)), (2, .int (oI v2)), (3, .int (oI v3)), (4, .int (oI v4)), (5, .int (oI v5)), (6, .int (oI v6)), (7, .int (oI v7))]) rfl (fun ls hl => ?_)
  refine lv_goto C.1 C.2.1 (tgt := 47) dX9_chains_127 (by decide) ?_
  exact hk47 v2 v3 v4 v5 v6 v7 (v8 + 1) S (lv_sub hl [1, 2, 3, 4, 5, 6, 7, 0] rfl) hf
set_option maxRecDepth 100000 in
set_option maxHeartbeats 4000000 in
theorem b_X9_chains_b130 (C : Cx p s m args c RX9 cX9_chains 10) {q : Int} (hend : EndR p l e (rmk 3 75) s m args below meth c Q G true τ cX9_chains .ireturn [.int (oI q)] σ) {H : Heap} {locs : List Loc} {ls : Array Slot} (v3 : Int) (v5 : Int) (v6 : Int) (v7 : Int) (S : St G true τ σ s H locs) (hl : lv_has ls 10 [(0, .ref (G.1 0)), (3, .int (oI v3)), (5, .int (oI v5)), (6, .int (oI v6)), (7, .int (oI v7))]) (hf : f_X9_chains_b130 σ v3 v5 v6 v7 = some q) : W p l e (rmk 3 75) s m args below meth c H locs 0 0 Q (F0 m 130 ls []) := by
  unfold f_X9_chains_b130 at hf
  refine lv_iload_n C.1 C.2.1 dX9_chains_130 rfl (lv_at hl 1 rfl) ?_
  by_cases hs0 : w32 v3 = 0
  · replace hf := if_t hf hs0
    refine r_tabIn C (tgt := 156) (v := 0) dX9_chains_131 hs0 (by decide) (by decide) rfl (by decide) ?_
    refine lv_iload C.1 C.2.1 dX9_chains_156 (lv_at hl 2 rfl) ?_
    cases hf
    exact hend _ _ _ _ S dX9_chains_158
  · replace hf := if_f hf hs0
    by_cases hs1 : w32 v3 = 1
    · replace hf := if_t hf hs1
      refine r_tabIn C (tgt := 159) (v := 1) dX9_chains_131 hs1 (by decide) (by decide) rfl (by decide) ?_
      refine lv_iload C.1 C.2.1 dX9_chains_159 (lv_at hl 3 rfl) ?_
      cases hf
      exact hend _ _ _ _ S dX9_chains_161
    · replace hf := if_f hf hs1
      by_cases hs2 : w32 v3 = 2
      · replace hf := if_t hf hs2
        refine r_tabIn C (tgt := 162) (v := 2) dX9_chains_131 hs2 (by decide) (by decide) rfl (by decide) ?_
        refine lv_aload_n C.1 C.2.1 dX9_chains_162 rfl (lv_at hl 0 rfl) ?_
        refine g9_book C S tw_282 dX9_chains_163 ?_
        refine lv_iload C.1 C.2.1 dX9_chains_166 (lv_at hl 4 rfl) ?_
        obtain ⟨q19, hc20, hf⟩ := bd_o hf
        refine r_callVv C S (As := [.int (oI v7)]) (rest := []) (ct_X0_sums l G τ hc20) mi_X0_sums tw_652 mv_X0_sums (rvX0 S) ⟨rfl, rfl⟩ ⟨Nat.le_of_ble_eq_true rfl, Nat.le_of_ble_eq_true rfl⟩ ⟨Nat.zero_le _, Nat.zero_le _⟩ rfl hl.1 rfl (Nat.le_of_ble_eq_true rfl) dX9_chains_168 (fun H locs S => ?_)
        cases hf
        exact hend _ _ _ _ S dX9_chains_171
      · replace hf := if_f hf hs2
        refine r_tabOut C (tgt := 172) dX9_chains_131 (by omega) (by decide) ?_
        refine lv_iload C.1 C.2.1 dX9_chains_172 (lv_at hl 4 rfl) ?_
        cases hf
        exact hend _ _ _ _ S dX9_chains_174
set_option maxRecDepth 100000 in
set_option maxHeartbeats 4000000 in
theorem b_X9_chains_b47 (C : Cx p s m args c RX9 cX9_chains 10) {q : Int} (hend : EndR p l e (rmk 3 75) s m args below meth c Q G true τ cX9_chains .ireturn [.int (oI q)] σ) : ∀ (n : Nat) {H : Heap} {locs : List Loc} {ls : Array Slot} (v2 : Int) (v3 : Int) (v4 : Int) (v5 : Int) (v6 : Int) (v7 : Int) (v8 : Int) (S : St G true τ σ s H locs) (hl : lv_has ls 10 [(0, .ref (G.1 0)), (2, .int (oI v2)), (3, .int (oI v3)), (4, .int (oI v4)), (5, .int (oI v5)), (6, .int (oI v6)), (7, .int (oI v7)), (8, .int (oI v8))]) (hf : f_X9_chains_b47 σ n v2 v3 v4 v5 v6 v7 v8 = some q), W p l e (rmk 3 75) s m args below meth c H locs 0 0 Q (F0 m 47 ls []) := by
  intro n
  induction n with
  | zero => intro H locs ls v2 v3 v4 v5 v6 v7 v8 S hl hf; cases hf
  | succ n ih =>
    intro H locs ls v2 v3 v4 v5 v6 v7 v8 S hl hf
    have hk47 := @ih
    rw [f_X9_chains_b47] at hf
    refine lv_iload C.1 C.2.1 dX9_chains_47 (lv_at hl 7 rfl) ?_
    refine r_bipush C dX9_chains_49 (by decide) ?_
    refine r_icmp_ge C rfl (show w32 24 = 24 by decide) (tgt := 130) dX9_chains_51 (by decide) (fun h21 => ?_) (fun h21 => ?_)
    · replace hf := if_t hf h21
      refine lv_iload C.1 C.2.1 dX9_chains_54 (lv_at hl 3 rfl) ?_
      refine lv_iload C.1 C.2.1 dX9_chains_56 (lv_at hl 7 rfl) ?_
      obtain ⟨q7, hc8, hf⟩ := bd_o hf
      refine r_callSv C S (As := [.int (oI v4), .int (oI v8)]) (rest := []) (ct_X9_contains l G τ hc8) mi_X9_contains tw_661 ms_X9_contains ⟨rfl, rfl⟩ ⟨Nat.le_of_ble_eq_true rfl, Nat.le_of_ble_eq_true rfl⟩ ⟨Nat.zero_le _, Nat.zero_le _⟩ rfl hl.1 rfl (Nat.le_of_ble_eq_true rfl) dX9_chains_58 (fun H locs S => ?_)
      refine r_if_eq C rfl (tgt := 124) dX9_chains_61 (by decide) (fun h18 => ?_) (fun h18 => ?_)
      · replace hf := if_t hf h18
        exact b_X9_chains_b124 C hend hk47 v2 v3 v4 v5 v6 v7 v8 S (lv_sub hl [0, 1, 2, 3, 4, 5, 6, 7] rfl) hf
      · replace hf := if_f hf h18
        refine lv_aload_n C.1 C.2.1 dX9_chains_64 rfl (lv_at hl 0 rfl) ?_
        refine lv_iload C.1 C.2.1 dX9_chains_65 (lv_at hl 7 rfl) ?_
        refine lv_iload C.1 C.2.1 dX9_chains_67 (lv_at hl 3 rfl) ?_
        refine lv_iload_n C.1 C.2.1 dX9_chains_69 rfl (lv_at hl 1 rfl) ?_
        obtain ⟨q9, hc10, hf⟩ := bd_o hf
        refine r_callVv C S (As := [.int (oI v8), .int (oI v4), .int (oI v2)]) (rest := []) (ct_X9_chainFrom l G τ hc10) mi_X9_chainFrom tw_821 mv_X9_chainFrom (rvX9 S) ⟨rfl, rfl⟩ ⟨Nat.le_of_ble_eq_true rfl, Nat.le_of_ble_eq_true rfl⟩ ⟨Nat.zero_le _, Nat.zero_le _⟩ rfl hl.1 rfl (Nat.le_of_ble_eq_true rfl) dX9_chains_70 (fun H locs S => ?_)
        refine lv_istore C.1 C.2.1 dX9_chains_73 hl (by decide) (lv' := [(9, .int (oI q9)), (0, .ref (G.1 0)), (2, .int (oI v2)), (3, .int (oI v3)), (4, .int (oI v4)), (5, .int (oI v5)), (6, .int (oI v6)), (7, .int (oI v7)), (8, .int (oI v8))]) rfl (fun ls hl => ?_)
        refine lv_iload C.1 C.2.1 dX9_chains_75 (lv_at hl 4 rfl) ?_
        refine lv_iload C.1 C.2.1 dX9_chains_77 (lv_at hl 0 rfl) ?_
        refine r_iconst C dX9_chains_79 ?_
        refine r_ixor C rfl (show u32 (-1) = 4294967295 by decide) dX9_chains_80 ?_
        refine r_iand C rfl (u32_nat (nb_xor (u32_lt _) (show 4294967295 < 4294967296 by decide))) dX9_chains_81 ?_
        refine lv_istore C.1 C.2.1 dX9_chains_82 hl (by decide) (lv' := [(4, .int (oI ((((u32 v4) &&& ((u32 q9) ^^^ 4294967295) : Nat) : Int)))), (9, .int (oI q9)), (0, .ref (G.1 0)), (2, .int (oI v2)), (3, .int (oI v3)), (5, .int (oI v5)), (6, .int (oI v6)), (7, .int (oI v7)), (8, .int (oI v8))]) rfl (fun ls hl => ?_)
        refine r_iinc C dX9_chains_84 hl (k := 5) rfl (by decide) (lv' := [(5, .int (oI (v5 + 1))), (4, .int (oI ((((u32 v4) &&& ((u32 q9) ^^^ 4294967295) : Nat) : Int)))), (9, .int (oI q9)), (0, .ref (G.1 0)), (2, .int (oI v2)), (3, .int (oI v3)), (6, .int (oI v6)), (7, .int (oI v7)), (8, .int (oI v8))]) rfl (fun ls hl => ?_)
        refine lv_iload C.1 C.2.1 dX9_chains_87 (lv_at hl 6 rfl) ?_
        refine lv_iload C.1 C.2.1 dX9_chains_89 (lv_at hl 2 rfl) ?_
        obtain ⟨q11, hc12, hf⟩ := bd_o hf
        refine r_callSv C S (As := [.int (oI q9)]) (rest := [.int (oI v6)]) (ct_J6_bitCount_0f7a4 l G τ hc12) mi_J6_bitCount_0f7a4 tw_646 ms_J6_bitCount_0f7a4 ⟨rfl, rfl⟩ ⟨Nat.le_of_ble_eq_true rfl, Nat.le_of_ble_eq_true rfl⟩ ⟨Nat.zero_le _, Nat.zero_le _⟩ rfl hl.1 rfl (Nat.le_of_ble_eq_true rfl) dX9_chains_91 (fun H locs S => ?_)
        refine r_mmax C (hl.1) tw_671 (by decide) (Nat.le_of_ble_eq_true rfl) dX9_chains_94 ?_
        refine lv_istore C.1 C.2.1 dX9_chains_97 hl (by decide) (lv' := [(6, .int (oI (mmaxI v6 q11))), (5, .int (oI (v5 + 1))), (4, .int (oI ((((u32 v4) &&& ((u32 q9) ^^^ 4294967295) : Nat) : Int)))), (9, .int (oI q9)), (0, .ref (G.1 0)), (2, .int (oI v2)), (3, .int (oI v3)), (7, .int (oI v7)), (8, .int (oI v8))]) rfl (fun ls hl => ?_)
        refine lv_aload_n C.1 C.2.1 dX9_chains_99 rfl (lv_at hl 4 rfl) ?_
        refine g9_book C S tw_282 dX9_chains_100 ?_
        refine lv_iload C.1 C.2.1 dX9_chains_103 (lv_at hl 3 rfl) ?_
        obtain ⟨q13, hc14, hf⟩ := bd_o hf
        refine r_callVv C S (As := [.int (oI q9)]) (rest := []) (ct_X0_sums l G τ hc14) mi_X0_sums tw_652 mv_X0_sums (rvX0 S) ⟨rfl, rfl⟩ ⟨Nat.le_of_ble_eq_true rfl, Nat.le_of_ble_eq_true rfl⟩ ⟨Nat.zero_le _, Nat.zero_le _⟩ rfl hl.1 rfl (Nat.le_of_ble_eq_true rfl) dX9_chains_105 (fun H locs S => ?_)
        refine lv_aload_n C.1 C.2.1 dX9_chains_108 rfl (lv_at hl 4 rfl) ?_
        refine g9_book C S tw_282 dX9_chains_109 ?_
        refine lv_iload C.1 C.2.1 dX9_chains_112 (lv_at hl 7 rfl) ?_
        obtain ⟨q15, hc16, hf⟩ := bd_o hf
        refine r_callVv C S (As := [.int (oI v7)]) (rest := [.int (oI q13)]) (ct_X0_sums l G τ hc16) mi_X0_sums tw_652 mv_X0_sums (rvX0 S) ⟨rfl, rfl⟩ ⟨Nat.le_of_ble_eq_true rfl, Nat.le_of_ble_eq_true rfl⟩ ⟨Nat.zero_le _, Nat.zero_le _⟩ rfl hl.1 rfl (Nat.le_of_ble_eq_true rfl) dX9_chains_114 (fun H locs S => ?_)
        refine r_icmp_le C rfl rfl (tgt := 124) dX9_chains_117 (by decide) (fun h17 => ?_) (fun h17 => ?_)
        · replace hf := if_t hf h17
          exact b_X9_chains_b124 C hend hk47 v2 v3 ((((u32 v4) &&& ((u32 q9) ^^^ 4294967295) : Nat) : Int)) (v5 + 1) (mmaxI v6 q11) v7 v8 S (lv_sub hl [4, 5, 6, 2, 1, 0, 7, 8] rfl) hf
        · replace hf := if_f hf h17
          refine lv_iload C.1 C.2.1 dX9_chains_120 (lv_at hl 3 rfl) ?_
          refine lv_istore C.1 C.2.1 dX9_chains_122 hl (by decide) (lv' := [(7, .int (oI q9)), (6, .int (oI (mmaxI v6 q11))), (5, .int (oI (v5 + 1))), (4, .int (oI ((((u32 v4) &&& ((u32 q9) ^^^ 4294967295) : Nat) : Int)))), (9, .int (oI q9)), (0, .ref (G.1 0)), (2, .int (oI v2)), (3, .int (oI v3)), (8, .int (oI v8))]) rfl (fun ls hl => ?_)
          exact b_X9_chains_b124 C hend hk47 v2 v3 ((((u32 v4) &&& ((u32 q9) ^^^ 4294967295) : Nat) : Int)) (v5 + 1) (mmaxI v6 q11) q9 v8 S (lv_sub hl [5, 6, 7, 3, 2, 1, 0, 8] rfl) hf
    · replace hf := if_f hf h21
      exact b_X9_chains_b130 C hend v3 v5 v6 v7 S (lv_sub hl [0, 2, 4, 5, 6] rfl) hf
set_option maxRecDepth 100000 in
set_option maxHeartbeats 4000000 in
theorem ct_X9_chains (l : Launch) (G : Gd) (τ : Sg) {v1 : Int} {v2 : Int} {v3 : Int} {σ : Sg} {q : Int} (hf : f_X9_chains v1 v2 v3 σ = some q) : Ctr l yX9_chains cX9_chains 10 (some .int) (rmk 3 75) G true τ [.ref (G.1 0), .int (oI v1), .int (oI v2), .int (oI v3)] σ σ (some (.int (oI q))) := by
  unfold f_X9_chains at hf
  refine CtrI.of (own := RX9) (plainFor_of_name (by decide)) (Nat.le_of_ble_eq_true rfl) rfl (fun p e s m below meth c Q ls C hl S hend => ?_)
  have hl : lv_has ls 10 [(0, .ref (G.1 0)), (1, .int (oI v1)), (2, .int (oI v2)), (3, .int (oI v3))] := hl
  refine lv_iload_n C.1 C.2.1 dX9_chains_0 rfl (lv_at hl 1 rfl) ?_
  obtain ⟨q1, hc2, hf⟩ := bd_o hf
  refine r_callSv C S (As := [.int (oI v1)]) (rest := []) (ct_X9_arePerils l G τ hc2) mi_X9_arePerils tw_631 ms_X9_arePerils ⟨rfl, rfl⟩ ⟨Nat.le_of_ble_eq_true rfl, Nat.le_of_ble_eq_true rfl⟩ ⟨Nat.zero_le _, Nat.zero_le _⟩ rfl hl.1 rfl (Nat.le_of_ble_eq_true rfl) dX9_chains_1 (fun H locs S => ?_)
  refine r_if_eq C rfl (tgt := 23) dX9_chains_4 (by decide) (fun h25 => ?_) (fun h25 => ?_)
  · replace hf := if_t hf h25
    refine r_iconst C dX9_chains_23 ?_
    cases hf
    exact hend _ _ _ _ S dX9_chains_24
  · replace hf := if_f hf h25
    refine lv_iload_n C.1 C.2.1 dX9_chains_7 rfl (lv_at hl 2 rfl) ?_
    obtain ⟨q3, hc4, hf⟩ := bd_o hf
    refine r_callSv C S (As := [.int (oI v2)]) (rest := []) (ct_X9_isReach l G τ hc4) mi_X9_isReach tw_818 ms_X9_isReach ⟨rfl, rfl⟩ ⟨Nat.le_of_ble_eq_true rfl, Nat.le_of_ble_eq_true rfl⟩ ⟨Nat.zero_le _, Nat.zero_le _⟩ rfl hl.1 rfl (Nat.le_of_ble_eq_true rfl) dX9_chains_8 (fun H locs S => ?_)
    refine r_if_eq C rfl (tgt := 23) dX9_chains_11 (by decide) (fun h24 => ?_) (fun h24 => ?_)
    · replace hf := if_t hf h24
      refine r_iconst C dX9_chains_23 ?_
      cases hf
      exact hend _ _ _ _ S dX9_chains_24
    · replace hf := if_f hf h24
      refine lv_iload_n C.1 C.2.1 dX9_chains_14 rfl (lv_at hl 3 rfl) ?_
      refine r_if_lt C rfl (tgt := 23) dX9_chains_15 (by decide) (fun h23 => ?_) (fun h23 => ?_)
      · replace hf := if_t hf h23
        refine r_iconst C dX9_chains_23 ?_
        cases hf
        exact hend _ _ _ _ S dX9_chains_24
      · replace hf := if_f hf h23
        refine lv_iload_n C.1 C.2.1 dX9_chains_18 rfl (lv_at hl 3 rfl) ?_
        refine r_iconst C dX9_chains_19 ?_
        refine r_icmp_le C rfl (show w32 3 = 3 by decide) (tgt := 25) dX9_chains_20 (by decide) (fun h22 => ?_) (fun h22 => ?_)
        · replace hf := if_t hf h22
          refine lv_aload_n C.1 C.2.1 dX9_chains_25 rfl (lv_at hl 0 rfl) ?_
          refine g9_book C S tw_282 dX9_chains_26 ?_
          refine lv_iload_n C.1 C.2.1 dX9_chains_29 rfl (lv_at hl 1 rfl) ?_
          obtain ⟨q5, hc6, hf⟩ := bd_o hf
          refine r_callVv C S (As := [.int (oI v1)]) (rest := []) (ct_X0_ofPerils l G τ hc6) mi_X0_ofPerils tw_476 mv_X0_ofPerils (rvX0 S) ⟨rfl, rfl⟩ ⟨Nat.le_of_ble_eq_true rfl, Nat.le_of_ble_eq_true rfl⟩ ⟨Nat.zero_le _, Nat.zero_le _⟩ rfl hl.1 rfl (Nat.le_of_ble_eq_true rfl) dX9_chains_30 (fun H locs S => ?_)
          refine lv_istore C.1 C.2.1 dX9_chains_33 hl (by decide) (lv' := [(4, .int (oI q5)), (0, .ref (G.1 0)), (1, .int (oI v1)), (2, .int (oI v2)), (3, .int (oI v3))]) rfl (fun ls hl => ?_)
          refine r_iconst C dX9_chains_35 ?_
          refine lv_istore C.1 C.2.1 dX9_chains_36 hl (by decide) (lv' := [(5, .int (oI 0)), (4, .int (oI q5)), (0, .ref (G.1 0)), (1, .int (oI v1)), (2, .int (oI v2)), (3, .int (oI v3))]) rfl (fun ls hl => ?_)
          refine r_iconst C dX9_chains_38 ?_
          refine lv_istore C.1 C.2.1 dX9_chains_39 hl (by decide) (lv' := [(6, .int (oI 0)), (5, .int (oI 0)), (4, .int (oI q5)), (0, .ref (G.1 0)), (1, .int (oI v1)), (2, .int (oI v2)), (3, .int (oI v3))]) rfl (fun ls hl => ?_)
          refine r_iconst C dX9_chains_41 ?_
          refine lv_istore C.1 C.2.1 dX9_chains_42 hl (by decide) (lv' := [(7, .int (oI 0)), (6, .int (oI 0)), (5, .int (oI 0)), (4, .int (oI q5)), (0, .ref (G.1 0)), (1, .int (oI v1)), (2, .int (oI v2)), (3, .int (oI v3))]) rfl (fun ls hl => ?_)
          refine r_iconst C dX9_chains_44 ?_
          refine lv_istore C.1 C.2.1 dX9_chains_45 hl (by decide) (lv' := [(8, .int (oI 0)), (7, .int (oI 0)), (6, .int (oI 0)), (5, .int (oI 0)), (4, .int (oI q5)), (0, .ref (G.1 0)), (1, .int (oI v1)), (2, .int (oI v2)), (3, .int (oI v3))]) rfl (fun ls hl => ?_)
          exact b_X9_chains_b47 C hend FUEL v2 v3 q5 0 0 0 0 S (lv_sub hl [5, 7, 8, 4, 3, 2, 1, 0] rfl) hf
        · replace hf := if_f hf h22
          refine r_iconst C dX9_chains_23 ?_
          cases hf
          exact hend _ _ _ _ S dX9_chains_24
set_option maxRecDepth 100000 in
set_option maxHeartbeats 4000000 in
theorem ct_X9_heaviestOf (l : Launch) (G : Gd) (τ : Sg) {v1 : Int} {v2 : Int} {σ : Sg} {q : Int × Sg} (hf : f_X9_heaviestOf v1 v2 σ = some q) : Ctr l yX9_heaviestOf cX9_heaviestOf 3 (some .int) (rmk 5 134) G true τ [.ref (G.1 0), .int (oI v1), .int (oI v2)] σ q.2 (some (.int (oI q.1))) := by
  unfold f_X9_heaviestOf at hf
  refine CtrI.of (own := RX9) (plainFor_of_name (by decide)) (Nat.le_of_ble_eq_true rfl) rfl (fun p e s m below meth c Q ls C hl S hend => ?_)
  have hl : lv_has ls 3 [(0, .ref (G.1 0)), (1, .int (oI v1)), (2, .int (oI v2))] := hl
  refine lv_aload_n C.1 C.2.1 dX9_heaviestOf_0 rfl (lv_at hl 0 rfl) ?_
  refine g9_discs C S tw_288 dX9_heaviestOf_1 ?_
  refine lv_iload_n C.1 C.2.1 dX9_heaviestOf_4 rfl (lv_at hl 2 rfl) ?_
  refine lv_iload_n C.1 C.2.1 dX9_heaviestOf_5 rfl (lv_at hl 1 rfl) ?_
  obtain ⟨q1, hc2, hf⟩ := bd_o hf
  refine r_callVn C S (As := [.int (oI v2), .int (oI v1)]) (rest := []) (ct_X2_fill l G τ hc2) mi_X2_fill tw_480 mv_X2_fill (rvX2 S (d := 6) (by decide)) ⟨rfl, rfl⟩ ⟨Nat.le_of_ble_eq_true rfl, Nat.le_of_ble_eq_true rfl⟩ ⟨Nat.zero_le _, Nat.zero_le _⟩ rfl hl.1 rfl (Nat.le_of_ble_eq_true rfl) dX9_heaviestOf_6 (fun H locs S => ?_)
  refine lv_aload_n C.1 C.2.1 dX9_heaviestOf_9 rfl (lv_at hl 0 rfl) ?_
  refine g9_discs C S tw_288 dX9_heaviestOf_10 ?_
  refine r_ldcw C tw_776 dX9_heaviestOf_13 ?_
  obtain ⟨q3, hc4, hf⟩ := bd_o hf
  refine r_callVv C S (As := [.int (oI 16777215)]) (rest := []) (ct_X2_heaviestAmong l G τ hc4) mi_X2_heaviestAmong tw_834 mv_X2_heaviestAmong (rvX2 S (d := 6) (by decide)) ⟨rfl, rfl⟩ ⟨Nat.le_of_ble_eq_true rfl, Nat.le_of_ble_eq_true rfl⟩ ⟨Nat.zero_le _, Nat.zero_le _⟩ rfl hl.1 rfl (Nat.le_of_ble_eq_true rfl) dX9_heaviestOf_16 (fun H locs S => ?_)
  cases hf
  exact hend _ _ _ _ S dX9_heaviestOf_19
set_option maxRecDepth 100000 in
set_option maxHeartbeats 4000000 in
theorem ct_X9_heaviest (l : Launch) (G : Gd) (τ : Sg) {v1 : Int} {v2 : Int} {σ : Sg} {q : Int × Sg} (hf : f_X9_heaviest v1 v2 σ = some q) : Ctr l yX9_heaviest cX9_heaviest 3 (some .int) (rmk 6 156) G true τ [.ref (G.1 0), .int (oI v1), .int (oI v2)] σ q.2 (some (.int (oI q.1))) := by
  unfold f_X9_heaviest at hf
  refine CtrI.of (own := RX9) (plainFor_of_name (by decide)) (Nat.le_of_ble_eq_true rfl) rfl (fun p e s m below meth c Q ls C hl S hend => ?_)
  have hl : lv_has ls 3 [(0, .ref (G.1 0)), (1, .int (oI v1)), (2, .int (oI v2))] := hl
  refine lv_iload_n C.1 C.2.1 dX9_heaviest_0 rfl (lv_at hl 1 rfl) ?_
  obtain ⟨q1, hc2, hf⟩ := bd_o hf
  refine r_callSv C S (As := [.int (oI v1)]) (rest := []) (ct_X9_arePerils l G τ hc2) mi_X9_arePerils tw_631 ms_X9_arePerils ⟨rfl, rfl⟩ ⟨Nat.le_of_ble_eq_true rfl, Nat.le_of_ble_eq_true rfl⟩ ⟨Nat.zero_le _, Nat.zero_le _⟩ rfl hl.1 rfl (Nat.le_of_ble_eq_true rfl) dX9_heaviest_1 (fun H locs S => ?_)
  refine r_if_eq C rfl (tgt := 14) dX9_heaviest_4 (by decide) (fun h12 => ?_) (fun h12 => ?_)
  · replace hf := if_t hf h12
    refine r_iconst C dX9_heaviest_14 ?_
    cases hf
    exact hend _ _ _ _ S dX9_heaviest_15
  · replace hf := if_f hf h12
    refine lv_iload_n C.1 C.2.1 dX9_heaviest_7 rfl (lv_at hl 2 rfl) ?_
    obtain ⟨q3, hc4, hf⟩ := bd_o hf
    refine r_callSv C S (As := [.int (oI v2)]) (rest := []) (ct_X9_isRadius l G τ hc4) mi_X9_isRadius tw_634 ms_X9_isRadius ⟨rfl, rfl⟩ ⟨Nat.le_of_ble_eq_true rfl, Nat.le_of_ble_eq_true rfl⟩ ⟨Nat.zero_le _, Nat.zero_le _⟩ rfl hl.1 rfl (Nat.le_of_ble_eq_true rfl) dX9_heaviest_8 (fun H locs S => ?_)
    refine r_if_ne C rfl (tgt := 16) dX9_heaviest_11 (by decide) (fun h11 => ?_) (fun h11 => ?_)
    · replace hf := if_t hf h11
      refine r_iconst C dX9_heaviest_14 ?_
      cases hf
      exact hend _ _ _ _ S dX9_heaviest_15
    · replace hf := if_f hf h11
      refine lv_aload_n C.1 C.2.1 dX9_heaviest_16 rfl (lv_at hl 0 rfl) ?_
      refine g9_book C S tw_282 dX9_heaviest_17 ?_
      refine lv_aload_n C.1 C.2.1 dX9_heaviest_20 rfl (lv_at hl 0 rfl) ?_
      refine lv_aload_n C.1 C.2.1 dX9_heaviest_21 rfl (lv_at hl 0 rfl) ?_
      refine g9_book C S tw_282 dX9_heaviest_22 ?_
      refine lv_iload_n C.1 C.2.1 dX9_heaviest_25 rfl (lv_at hl 1 rfl) ?_
      obtain ⟨q5, hc6, hf⟩ := bd_o hf
      refine r_callVv C S (As := [.int (oI v1)]) (rest := [.ref (G.1 0), .ref (G.1 6)]) (ct_X0_ofPerils l G τ hc6) mi_X0_ofPerils tw_476 mv_X0_ofPerils (rvX0 S) ⟨rfl, rfl⟩ ⟨Nat.le_of_ble_eq_true rfl, Nat.le_of_ble_eq_true rfl⟩ ⟨Nat.zero_le _, Nat.zero_le _⟩ rfl hl.1 rfl (Nat.le_of_ble_eq_true rfl) dX9_heaviest_26 (fun H locs S => ?_)
      refine lv_iload_n C.1 C.2.1 dX9_heaviest_29 rfl (lv_at hl 2 rfl) ?_
      obtain ⟨q7, hc8, hf⟩ := bd_o hf
      refine r_callVv C S (As := [.int (oI q5), .int (oI v2)]) (rest := [.ref (G.1 6)]) (ct_X9_heaviestOf l G τ hc8) mi_X9_heaviestOf tw_830 mv_X9_heaviestOf (rvX9 S) ⟨rfl, rfl⟩ ⟨Nat.le_of_ble_eq_true rfl, Nat.le_of_ble_eq_true rfl⟩ ⟨Nat.zero_le _, Nat.zero_le _⟩ rfl hl.1 rfl (Nat.le_of_ble_eq_true rfl) dX9_heaviest_30 (fun H locs S => ?_)
      obtain ⟨q9, hc10, hf⟩ := bd_o hf
      refine r_callVv C S (As := [.int (oI q7.1)]) (rest := []) (ct_X0_sums l G τ hc10) mi_X0_sums tw_652 mv_X0_sums (rvX0 S) ⟨rfl, rfl⟩ ⟨Nat.le_of_ble_eq_true rfl, Nat.le_of_ble_eq_true rfl⟩ ⟨Nat.zero_le _, Nat.zero_le _⟩ rfl hl.1 rfl (Nat.le_of_ble_eq_true rfl) dX9_heaviest_33 (fun H locs S => ?_)
      cases hf
      exact hend _ _ _ _ S dX9_heaviest_36
set_option maxRecDepth 100000 in
set_option maxHeartbeats 4000000 in
theorem ct_X9_heaviestSet (l : Launch) (G : Gd) (τ : Sg) {v1 : Int} {v2 : Int} {σ : Sg} {q : Int × Sg} (hf : f_X9_heaviestSet v1 v2 σ = some q) : Ctr l yX9_heaviestSet cX9_heaviestSet 3 (some .int) (rmk 6 156) G true τ [.ref (G.1 0), .int (oI v1), .int (oI v2)] σ q.2 (some (.int (oI q.1))) := by
  unfold f_X9_heaviestSet at hf
  refine CtrI.of (own := RX9) (plainFor_of_name (by decide)) (Nat.le_of_ble_eq_true rfl) rfl (fun p e s m below meth c Q ls C hl S hend => ?_)
  have hl : lv_has ls 3 [(0, .ref (G.1 0)), (1, .int (oI v1)), (2, .int (oI v2))] := hl
  refine lv_iload_n C.1 C.2.1 dX9_heaviestSet_0 rfl (lv_at hl 1 rfl) ?_
  obtain ⟨q1, hc2, hf⟩ := bd_o hf
  refine r_callSv C S (As := [.int (oI v1)]) (rest := []) (ct_X9_arePerils l G τ hc2) mi_X9_arePerils tw_631 ms_X9_arePerils ⟨rfl, rfl⟩ ⟨Nat.le_of_ble_eq_true rfl, Nat.le_of_ble_eq_true rfl⟩ ⟨Nat.zero_le _, Nat.zero_le _⟩ rfl hl.1 rfl (Nat.le_of_ble_eq_true rfl) dX9_heaviestSet_1 (fun H locs S => ?_)
  refine r_if_eq C rfl (tgt := 14) dX9_heaviestSet_4 (by decide) (fun h10 => ?_) (fun h10 => ?_)
  · replace hf := if_t hf h10
    refine r_iconst C dX9_heaviestSet_14 ?_
    cases hf
    exact hend _ _ _ _ S dX9_heaviestSet_15
  · replace hf := if_f hf h10
    refine lv_iload_n C.1 C.2.1 dX9_heaviestSet_7 rfl (lv_at hl 2 rfl) ?_
    obtain ⟨q3, hc4, hf⟩ := bd_o hf
    refine r_callSv C S (As := [.int (oI v2)]) (rest := []) (ct_X9_isRadius l G τ hc4) mi_X9_isRadius tw_634 ms_X9_isRadius ⟨rfl, rfl⟩ ⟨Nat.le_of_ble_eq_true rfl, Nat.le_of_ble_eq_true rfl⟩ ⟨Nat.zero_le _, Nat.zero_le _⟩ rfl hl.1 rfl (Nat.le_of_ble_eq_true rfl) dX9_heaviestSet_8 (fun H locs S => ?_)
    refine r_if_ne C rfl (tgt := 16) dX9_heaviestSet_11 (by decide) (fun h9 => ?_) (fun h9 => ?_)
    · replace hf := if_t hf h9
      refine r_iconst C dX9_heaviestSet_14 ?_
      cases hf
      exact hend _ _ _ _ S dX9_heaviestSet_15
    · replace hf := if_f hf h9
      refine lv_aload_n C.1 C.2.1 dX9_heaviestSet_16 rfl (lv_at hl 0 rfl) ?_
      refine lv_aload_n C.1 C.2.1 dX9_heaviestSet_17 rfl (lv_at hl 0 rfl) ?_
      refine g9_book C S tw_282 dX9_heaviestSet_18 ?_
      refine lv_iload_n C.1 C.2.1 dX9_heaviestSet_21 rfl (lv_at hl 1 rfl) ?_
      obtain ⟨q5, hc6, hf⟩ := bd_o hf
      refine r_callVv C S (As := [.int (oI v1)]) (rest := [.ref (G.1 0)]) (ct_X0_ofPerils l G τ hc6) mi_X0_ofPerils tw_476 mv_X0_ofPerils (rvX0 S) ⟨rfl, rfl⟩ ⟨Nat.le_of_ble_eq_true rfl, Nat.le_of_ble_eq_true rfl⟩ ⟨Nat.zero_le _, Nat.zero_le _⟩ rfl hl.1 rfl (Nat.le_of_ble_eq_true rfl) dX9_heaviestSet_22 (fun H locs S => ?_)
      refine lv_iload_n C.1 C.2.1 dX9_heaviestSet_25 rfl (lv_at hl 2 rfl) ?_
      obtain ⟨q7, hc8, hf⟩ := bd_o hf
      refine r_callVv C S (As := [.int (oI q5), .int (oI v2)]) (rest := []) (ct_X9_heaviestOf l G τ hc8) mi_X9_heaviestOf tw_830 mv_X9_heaviestOf (rvX9 S) ⟨rfl, rfl⟩ ⟨Nat.le_of_ble_eq_true rfl, Nat.le_of_ble_eq_true rfl⟩ ⟨Nat.zero_le _, Nat.zero_le _⟩ rfl hl.1 rfl (Nat.le_of_ble_eq_true rfl) dX9_heaviestSet_26 (fun H locs S => ?_)
      cases hf
      exact hend _ _ _ _ S dX9_heaviestSet_29
set_option maxRecDepth 100000 in
set_option maxHeartbeats 4000000 in
theorem ct_X2_at (l : Launch) (G : Gd) (τ : Sg) {d : Nat} {v1 : Int} {σ : Sg} {q : Int} (hf : f_X2_at d v1 σ = some q) : Ctr l yX2_at cX2_at 2 (some .int) (rmk 0 0) G true τ [.ref (G.1 (27 + d)), .int (oI v1)] σ σ (some (.int (oI q))) := by
  unfold f_X2_at at hf
  obtain ⟨hd, hf⟩ := ck_o hf
  refine CtrI.of (own := RX2) (plainFor_of_name (by decide)) (Nat.le_of_ble_eq_true rfl) rfl (fun p e s m below meth c Q ls C hl S hend => ?_)
  have hl : lv_has ls 2 [(0, .ref (G.1 (27 + d))), (1, .int (oI v1))] := hl
  refine lv_iload_n C.1 C.2.1 dX2_at_0 rfl (lv_at hl 1 rfl) ?_
  refine r_if_lt C rfl (tgt := 20) dX2_at_1 (by decide) (fun h3 => ?_) (fun h3 => ?_)
  · replace hf := if_t hf h3
    refine r_iconst C dX2_at_20 ?_
    cases hf
    exact hend _ _ _ _ S dX2_at_21
  · replace hf := if_f hf h3
    refine lv_iload_n C.1 C.2.1 dX2_at_4 rfl (lv_at hl 1 rfl) ?_
    refine r_sipush C dX2_at_5 (by decide) ?_
    refine r_icmp_ge C rfl (show w32 576 = 576 by decide) (tgt := 20) dX2_at_8 (by decide) (fun h2 => ?_) (fun h2 => ?_)
    · replace hf := if_t hf h2
      refine lv_aload_n C.1 C.2.1 dX2_at_11 rfl (lv_at hl 0 rfl) ?_
      refine g2_sets C (d := d) S (by omega) tw_127 dX2_at_12 ?_
      refine lv_iload_n C.1 C.2.1 dX2_at_15 rfl (lv_at hl 1 rfl) ?_
      obtain ⟨hi1, hf⟩ := ck_o hf
      refine a_iald C S (ar_34 (d := d) (by omega)) hi1 dX2_at_16 ?_
      refine lv_goto C.1 C.2.1 (tgt := 21) dX2_at_17 (by decide) ?_
      cases hf
      exact hend _ _ _ _ S dX2_at_21
    · replace hf := if_f hf h2
      refine r_iconst C dX2_at_20 ?_
      cases hf
      exact hend _ _ _ _ S dX2_at_21
set_option maxRecDepth 100000 in
set_option maxHeartbeats 4000000 in
theorem b_X3_keep_b72 (C : Cx p s m args c RX3 cX3_keep 4) {q : Sg} {k4 : Int → Int → Int → Sg → Option (Sg)} (hend : EndR p l e (rmk 0 0) s m args below meth c Q G true τ cX3_keep .return_ [] q) (hk4 : ∀ {H : Heap} {locs : List Loc} {ls : Array Slot} {σ : Sg} (v1 : Int) (v2 : Int) (v3 : Int), St G true τ σ s H locs → lv_has ls 4 [(0, .ref (G.1 18)), (1, .int (oI v1)), (2, .int (oI v2)), (3, .int (oI v3))] → k4 v1 v2 v3 σ = some q → W p l e (rmk 0 0) s m args below meth c H locs 0 0 Q (F0 m 4 ls [])) {H : Heap} {locs : List Loc} {ls : Array Slot} {σ : Sg} (v1 : Int) (v2 : Int) (v3 : Int) (S : St G true τ σ s H locs) (hl : lv_has ls 4 [(0, .ref (G.1 18)), (1, .int (oI v1)), (2, .int (oI v2)), (3, .int (oI v3))]) (hf : f_X3_keep_b72 k4 v1 v2 v3 σ = some q) : W p l e (rmk 0 0) s m args below meth c H locs 0 0 Q (F0 m 72 ls []) := by
  unfold f_X3_keep_b72 at hf
  refine r_iinc C dX3_keep_72 hl (k := 3) rfl (by decide) (lv' := [(3, .int (oI (v3 + 1))), (0, .ref (G.1 18)), (1, .int (oI v1)), (2, .int (oI v2))]) rfl (fun ls hl => ?_)
  refine lv_goto C.1 C.2.1 (tgt := 4) dX3_keep_75 (by decide) ?_
  exact hk4 v1 v2 (v3 + 1) S (lv_sub hl [1, 2, 3, 0] rfl) hf
set_option maxRecDepth 100000 in
set_option maxHeartbeats 4000000 in
theorem b_X3_keep_b97 (C : Cx p s m args c RX3 cX3_keep 4) {q : Sg} (hend : EndR p l e (rmk 0 0) s m args below meth c Q G true τ cX3_keep .return_ [] q) {H : Heap} {locs : List Loc} {ls : Array Slot} {σ : Sg} (v2 : Int) (S : St G true τ σ s H locs) (hl : lv_has ls 4 [(0, .ref (G.1 18)), (2, .int (oI v2))]) (hf : f_X3_keep_b97 v2 σ = some q) : W p l e (rmk 0 0) s m args below meth c H locs 0 0 Q (F0 m 97 ls []) := by
  unfold f_X3_keep_b97 at hf
  refine lv_aload_n C.1 C.2.1 dX3_keep_97 rfl (lv_at hl 0 rfl) ?_
  refine lv_iload_n C.1 C.2.1 dX3_keep_98 rfl (lv_at hl 1 rfl) ?_
  refine p3_size C S tw_244 dX3_keep_99 (fun H locs S => ?_)
  obtain ⟨σ11, S, hf⟩ := wr_s S hf
  cases hf
  exact hend _ _ _ _ S dX3_keep_102
set_option maxRecDepth 100000 in
set_option maxHeartbeats 4000000 in
theorem b_X3_keep_b78 (C : Cx p s m args c RX3 cX3_keep 4) {q : Sg} (hend : EndR p l e (rmk 0 0) s m args below meth c Q G true τ cX3_keep .return_ [] q) {H : Heap} {locs : List Loc} {ls : Array Slot} {σ : Sg} (v1 : Int) (v2 : Int) (S : St G true τ σ s H locs) (hl : lv_has ls 4 [(0, .ref (G.1 18)), (1, .int (oI v1)), (2, .int (oI v2))]) (hf : f_X3_keep_b78 v1 v2 σ = some q) : W p l e (rmk 0 0) s m args below meth c H locs 0 0 Q (F0 m 78 ls []) := by
  unfold f_X3_keep_b78 at hf
  refine lv_iload_n C.1 C.2.1 dX3_keep_78 rfl (lv_at hl 2 rfl) ?_
  refine lv_aload_n C.1 C.2.1 dX3_keep_79 rfl (lv_at hl 0 rfl) ?_
  refine g3_sets C S tw_243 dX3_keep_80 ?_
  refine a_alen C S ar_19 dX3_keep_83 ?_
  refine r_icmp_ge C rfl (show w32 576 = 576 by decide) (tgt := 97) dX3_keep_84 (by decide) (fun h12 => ?_) (fun h12 => ?_)
  · replace hf := if_t hf h12
    refine lv_aload_n C.1 C.2.1 dX3_keep_87 rfl (lv_at hl 0 rfl) ?_
    refine g3_sets C S tw_243 dX3_keep_88 ?_
    refine lv_iload_n C.1 C.2.1 dX3_keep_91 rfl (lv_at hl 2 rfl) ?_
    refine lv_iload_n C.1 C.2.1 dX3_keep_92 rfl (lv_at hl 1 rfl) ?_
    obtain ⟨hi9, hf⟩ := ck_o hf
    refine a_iast C S ar_19 hi9 dX3_keep_93 (fun H locs S => ?_)
    obtain ⟨σ10, S, hf⟩ := wr_s S hf
    refine r_iinc C dX3_keep_94 hl (k := 2) rfl (by decide) (lv' := [(2, .int (oI (v2 + 1))), (0, .ref (G.1 18)), (1, .int (oI v1))]) rfl (fun ls hl => ?_)
    exact b_X3_keep_b97 C hend (v2 + 1) S (lv_sub hl [1, 0] rfl) hf
  · replace hf := if_f hf h12
    exact b_X3_keep_b97 C hend v2 S (lv_sub hl [0, 2] rfl) hf
set_option maxRecDepth 100000 in
set_option maxHeartbeats 4000000 in
theorem b_X3_keep_b4 (C : Cx p s m args c RX3 cX3_keep 4) {q : Sg} (hend : EndR p l e (rmk 0 0) s m args below meth c Q G true τ cX3_keep .return_ [] q) : ∀ (n : Nat) {H : Heap} {locs : List Loc} {ls : Array Slot} {σ : Sg} (v1 : Int) (v2 : Int) (v3 : Int) (S : St G true τ σ s H locs) (hl : lv_has ls 4 [(0, .ref (G.1 18)), (1, .int (oI v1)), (2, .int (oI v2)), (3, .int (oI v3))]) (hf : f_X3_keep_b4 n v1 v2 v3 σ = some q), W p l e (rmk 0 0) s m args below meth c H locs 0 0 Q (F0 m 4 ls []) := by
  intro n
  induction n with
  | zero => intro H locs ls σ v1 v2 v3 S hl hf; cases hf
  | succ n ih =>
    intro H locs ls σ v1 v2 v3 S hl hf
    have hk4 := @ih
    rw [f_X3_keep_b4] at hf
    refine lv_iload_n C.1 C.2.1 dX3_keep_4 rfl (lv_at hl 3 rfl) ?_
    refine lv_aload_n C.1 C.2.1 dX3_keep_5 rfl (lv_at hl 0 rfl) ?_
    refine g3_size C S tw_244 dX3_keep_6 ?_
    refine r_icmp_ge C rfl rfl (tgt := 78) dX3_keep_9 (by decide) (fun h14 => ?_) (fun h14 => ?_)
    · replace hf := if_t hf h14
      refine lv_iload_n C.1 C.2.1 dX3_keep_12 rfl (lv_at hl 3 rfl) ?_
      refine lv_aload_n C.1 C.2.1 dX3_keep_13 rfl (lv_at hl 0 rfl) ?_
      refine g3_sets C S tw_243 dX3_keep_14 ?_
      refine a_alen C S ar_19 dX3_keep_17 ?_
      refine r_icmp_ge C rfl (show w32 576 = 576 by decide) (tgt := 78) dX3_keep_18 (by decide) (fun h13 => ?_) (fun h13 => ?_)
      · replace hf := if_t hf h13
        refine lv_iload_n C.1 C.2.1 dX3_keep_21 rfl (lv_at hl 1 rfl) ?_
        refine lv_aload_n C.1 C.2.1 dX3_keep_22 rfl (lv_at hl 0 rfl) ?_
        refine g3_sets C S tw_243 dX3_keep_23 ?_
        refine lv_iload_n C.1 C.2.1 dX3_keep_26 rfl (lv_at hl 3 rfl) ?_
        obtain ⟨hi1, hf⟩ := ck_o hf
        refine a_iald C S ar_19 hi1 dX3_keep_27 ?_
        refine r_iconst C dX3_keep_28 ?_
        refine r_ixor C rfl (show u32 (-1) = 4294967295 by decide) dX3_keep_29 ?_
        refine r_iand C rfl (u32_nat (nb_xor (u32_lt _) (show 4294967295 < 4294967296 by decide))) dX3_keep_30 ?_
        refine r_if_ne C rfl (tgt := 35) dX3_keep_31 (by decide) (fun h8 => ?_) (fun h8 => ?_)
        · replace hf := if_t hf h8
          cases hf
          exact hend _ _ _ _ S dX3_keep_34
        · replace hf := if_f hf h8
          refine lv_aload_n C.1 C.2.1 dX3_keep_35 rfl (lv_at hl 0 rfl) ?_
          refine g3_sets C S tw_243 dX3_keep_36 ?_
          refine lv_iload_n C.1 C.2.1 dX3_keep_39 rfl (lv_at hl 3 rfl) ?_
          obtain ⟨hi2, hf⟩ := ck_o hf
          refine a_iald C S ar_19 hi2 dX3_keep_40 ?_
          refine lv_iload_n C.1 C.2.1 dX3_keep_41 rfl (lv_at hl 1 rfl) ?_
          refine r_iconst C dX3_keep_42 ?_
          refine r_ixor C rfl (show u32 (-1) = 4294967295 by decide) dX3_keep_43 ?_
          refine r_iand C rfl (u32_nat (nb_xor (u32_lt _) (show 4294967295 < 4294967296 by decide))) dX3_keep_44 ?_
          refine r_if_eq C rfl (tgt := 72) dX3_keep_45 (by decide) (fun h7 => ?_) (fun h7 => ?_)
          · replace hf := if_t hf h7
            exact b_X3_keep_b72 C hend hk4 v1 v2 v3 S (lv_sub hl [0, 1, 2, 3] rfl) hf
          · replace hf := if_f hf h7
            refine lv_iload_n C.1 C.2.1 dX3_keep_48 rfl (lv_at hl 2 rfl) ?_
            refine lv_aload_n C.1 C.2.1 dX3_keep_49 rfl (lv_at hl 0 rfl) ?_
            refine g3_sets C S tw_243 dX3_keep_50 ?_
            refine a_alen C S ar_19 dX3_keep_53 ?_
            refine r_icmp_ge C rfl (show w32 576 = 576 by decide) (tgt := 72) dX3_keep_54 (by decide) (fun h6 => ?_) (fun h6 => ?_)
            · replace hf := if_t hf h6
              refine lv_aload_n C.1 C.2.1 dX3_keep_57 rfl (lv_at hl 0 rfl) ?_
              refine g3_sets C S tw_243 dX3_keep_58 ?_
              refine lv_iload_n C.1 C.2.1 dX3_keep_61 rfl (lv_at hl 2 rfl) ?_
              refine lv_aload_n C.1 C.2.1 dX3_keep_62 rfl (lv_at hl 0 rfl) ?_
              refine g3_sets C S tw_243 dX3_keep_63 ?_
              refine lv_iload_n C.1 C.2.1 dX3_keep_66 rfl (lv_at hl 3 rfl) ?_
              obtain ⟨hi3, hf⟩ := ck_o hf
              refine a_iald C S ar_19 hi3 dX3_keep_67 ?_
              obtain ⟨hi4, hf⟩ := ck_o hf
              refine a_iast C S ar_19 hi4 dX3_keep_68 (fun H locs S => ?_)
              obtain ⟨σ5, S, hf⟩ := wr_s S hf
              refine r_iinc C dX3_keep_69 hl (k := 2) rfl (by decide) (lv' := [(2, .int (oI (v2 + 1))), (0, .ref (G.1 18)), (1, .int (oI v1)), (3, .int (oI v3))]) rfl (fun ls hl => ?_)
              exact b_X3_keep_b72 C hend hk4 v1 (v2 + 1) v3 S (lv_sub hl [1, 2, 0, 3] rfl) hf
            · replace hf := if_f hf h6
              exact b_X3_keep_b72 C hend hk4 v1 v2 v3 S (lv_sub hl [0, 1, 2, 3] rfl) hf
      · replace hf := if_f hf h13
        exact b_X3_keep_b78 C hend v1 v2 S (lv_sub hl [0, 1, 2] rfl) hf
    · replace hf := if_f hf h14
      exact b_X3_keep_b78 C hend v1 v2 S (lv_sub hl [0, 1, 2] rfl) hf
set_option maxRecDepth 100000 in
set_option maxHeartbeats 4000000 in
theorem ct_X3_keep (l : Launch) (G : Gd) (τ : Sg) {v1 : Int} {σ : Sg} {q : Sg} (hf : f_X3_keep v1 σ = some q) : Ctr l yX3_keep cX3_keep 4 none (rmk 0 0) G true τ [.ref (G.1 18), .int (oI v1)] σ q none := by
  unfold f_X3_keep at hf
  refine CtrV.of (own := RX3) (plainFor_of_name (by decide)) (Nat.le_of_ble_eq_true rfl) rfl (fun p e s m below meth c Q ls C hl S hend => ?_)
  have hl : lv_has ls 4 [(0, .ref (G.1 18)), (1, .int (oI v1))] := hl
  refine r_iconst C dX3_keep_0 ?_
  refine lv_istore_n C.1 C.2.1 dX3_keep_1 rfl hl (by decide) (lv' := [(2, .int (oI 0)), (0, .ref (G.1 18)), (1, .int (oI v1))]) rfl (fun ls hl => ?_)
  refine r_iconst C dX3_keep_2 ?_
  refine lv_istore_n C.1 C.2.1 dX3_keep_3 rfl hl (by decide) (lv' := [(3, .int (oI 0)), (2, .int (oI 0)), (0, .ref (G.1 18)), (1, .int (oI v1))]) rfl (fun ls hl => ?_)
  exact b_X3_keep_b4 C hend FUEL v1 0 0 S (lv_sub hl [2, 3, 1, 0] rfl) hf
set_option maxRecDepth 100000 in
set_option maxHeartbeats 4000000 in
theorem b_X3_gather_b33 (C : Cx p s m args c RX3 cX3_gather 3) {q : Sg} {k7 : Nat → Int → Sg → Option (Sg)} (hend : EndR p l e (rmk 1 23) s m args below meth c Q G true τ cX3_gather .return_ [] q) (hk7 : ∀ {H : Heap} {locs : List Loc} {ls : Array Slot} {σ : Sg} (t1 : Nat) (v2 : Int), t1 < 7 → St G true τ σ s H locs → lv_has ls 3 [(0, .ref (G.1 18)), (1, .ref (G.1 (27 + t1))), (2, .int (oI v2))] → k7 t1 v2 σ = some q → W p l e (rmk 1 23) s m args below meth c H locs 0 0 Q (F0 m 7 ls [])) {H : Heap} {locs : List Loc} {ls : Array Slot} {σ : Sg} (t1 : Nat) (v2 : Int) (ht1 : t1 < 7) (S : St G true τ σ s H locs) (hl : lv_has ls 3 [(0, .ref (G.1 18)), (1, .ref (G.1 (27 + t1))), (2, .int (oI v2))]) (hf : f_X3_gather_b33 k7 t1 v2 σ = some q) : W p l e (rmk 1 23) s m args below meth c H locs 0 0 Q (F0 m 33 ls []) := by
  unfold f_X3_gather_b33 at hf
  refine r_iinc C dX3_gather_33 hl (k := 2) rfl (by decide) (lv' := [(2, .int (oI (v2 + 1))), (0, .ref (G.1 18)), (1, .ref (G.1 (27 + t1)))]) rfl (fun ls hl => ?_)
  refine lv_goto C.1 C.2.1 (tgt := 7) dX3_gather_36 (by decide) ?_
  exact hk7 t1 (v2 + 1) (by omega) S (lv_sub hl [1, 2, 0] rfl) hf
set_option maxRecDepth 100000 in
set_option maxHeartbeats 4000000 in
theorem b_X3_gather_b7 (C : Cx p s m args c RX3 cX3_gather 3) {q : Sg} (hend : EndR p l e (rmk 1 23) s m args below meth c Q G true τ cX3_gather .return_ [] q) : ∀ (n : Nat) {H : Heap} {locs : List Loc} {ls : Array Slot} {σ : Sg} (t1 : Nat) (v2 : Int) (ht1 : t1 < 7) (S : St G true τ σ s H locs) (hl : lv_has ls 3 [(0, .ref (G.1 18)), (1, .ref (G.1 (27 + t1))), (2, .int (oI v2))]) (hf : f_X3_gather_b7 n t1 v2 σ = some q), W p l e (rmk 1 23) s m args below meth c H locs 0 0 Q (F0 m 7 ls []) := by
  intro n
  induction n with
  | zero => intro H locs ls σ t1 v2 ht1 S hl hf; cases hf
  | succ n ih =>
    intro H locs ls σ t1 v2 ht1 S hl hf
    have hk7 := @ih
    rw [f_X3_gather_b7] at hf
    refine lv_iload_n C.1 C.2.1 dX3_gather_7 rfl (lv_at hl 2 rfl) ?_
    refine lv_aload_n C.1 C.2.1 dX3_gather_8 rfl (lv_at hl 0 rfl) ?_
    refine g3_sets C S tw_243 dX3_gather_9 ?_
    refine a_alen C S ar_19 dX3_gather_12 ?_
    refine r_icmp_ge C rfl (show w32 576 = 576 by decide) (tgt := 39) dX3_gather_13 (by decide) (fun h9 => ?_) (fun h9 => ?_)
    · replace hf := if_t hf h9
      refine lv_aload_n C.1 C.2.1 dX3_gather_16 rfl (lv_at hl 1 rfl) ?_
      refine lv_iload_n C.1 C.2.1 dX3_gather_17 rfl (lv_at hl 2 rfl) ?_
      obtain ⟨q2, hc3, hf⟩ := bd_o hf
      refine r_callVv C S (As := [.int (oI v2)]) (rest := []) (ct_X2_at l G τ hc3) mi_X2_at tw_847 mv_X2_at (rvX2 S (d := t1) (by omega)) ⟨rfl, rfl⟩ ⟨Nat.le_of_ble_eq_true rfl, Nat.le_of_ble_eq_true rfl⟩ ⟨Nat.zero_le _, Nat.zero_le _⟩ rfl hl.1 rfl (Nat.le_of_ble_eq_true rfl) dX3_gather_18 (fun H locs S => ?_)
      refine r_if_eq C rfl (tgt := 33) dX3_gather_21 (by decide) (fun h8 => ?_) (fun h8 => ?_)
      · replace hf := if_t hf h8
        exact b_X3_gather_b33 C hend hk7 t1 v2 (by omega) S (lv_sub hl [0, 1, 2] rfl) hf
      · replace hf := if_f hf h8
        refine lv_aload_n C.1 C.2.1 dX3_gather_24 rfl (lv_at hl 0 rfl) ?_
        refine lv_aload_n C.1 C.2.1 dX3_gather_25 rfl (lv_at hl 1 rfl) ?_
        refine lv_iload_n C.1 C.2.1 dX3_gather_26 rfl (lv_at hl 2 rfl) ?_
        obtain ⟨q4, hc5, hf⟩ := bd_o hf
        refine r_callVv C S (As := [.int (oI v2)]) (rest := [.ref (G.1 18)]) (ct_X2_at l G τ hc5) mi_X2_at tw_847 mv_X2_at (rvX2 S (d := t1) (by omega)) ⟨rfl, rfl⟩ ⟨Nat.le_of_ble_eq_true rfl, Nat.le_of_ble_eq_true rfl⟩ ⟨Nat.zero_le _, Nat.zero_le _⟩ rfl hl.1 rfl (Nat.le_of_ble_eq_true rfl) dX3_gather_27 (fun H locs S => ?_)
        obtain ⟨q6, hc7, hf⟩ := bd_o hf
        refine r_callVn C S (As := [.int (oI q4)]) (rest := []) (ct_X3_keep l G τ hc7) mi_X3_keep tw_851 mv_X3_keep (rvX3 S) ⟨rfl, rfl⟩ ⟨Nat.le_of_ble_eq_true rfl, Nat.le_of_ble_eq_true rfl⟩ ⟨Nat.zero_le _, Nat.zero_le _⟩ rfl hl.1 rfl (Nat.le_of_ble_eq_true rfl) dX3_gather_30 (fun H locs S => ?_)
        exact b_X3_gather_b33 C hend hk7 t1 v2 (by omega) S (lv_sub hl [0, 1, 2] rfl) hf
    · replace hf := if_f hf h9
      cases hf
      exact hend _ _ _ _ S dX3_gather_39
set_option maxRecDepth 100000 in
set_option maxHeartbeats 4000000 in
theorem ct_X3_gather (l : Launch) (G : Gd) (τ : Sg) {e1 : Nat} {σ : Sg} {q : Sg} (hf : f_X3_gather e1 σ = some q) : Ctr l yX3_gather cX3_gather 3 none (rmk 1 23) G true τ [.ref (G.1 18), .ref (G.1 (27 + e1))] σ q none := by
  unfold f_X3_gather at hf
  obtain ⟨he1, hf⟩ := ck_o hf
  refine CtrV.of (own := RX3) (plainFor_of_name (by decide)) (Nat.le_of_ble_eq_true rfl) rfl (fun p e s m below meth c Q ls C hl S hend => ?_)
  have hl : lv_has ls 3 [(0, .ref (G.1 18)), (1, .ref (G.1 (27 + e1)))] := hl
  refine lv_aload_n C.1 C.2.1 dX3_gather_0 rfl (lv_at hl 0 rfl) ?_
  refine r_iconst C dX3_gather_1 ?_
  refine p3_size C S tw_244 dX3_gather_2 (fun H locs S => ?_)
  obtain ⟨σ1, S, hf⟩ := wr_s S hf
  refine r_iconst C dX3_gather_5 ?_
  refine lv_istore_n C.1 C.2.1 dX3_gather_6 rfl hl (by decide) (lv' := [(2, .int (oI 0)), (0, .ref (G.1 18)), (1, .ref (G.1 (27 + e1)))]) rfl (fun ls hl => ?_)
  exact b_X3_gather_b7 C hend FUEL e1 0 (by omega) S (lv_sub hl [1, 2, 0] rfl) hf
set_option maxRecDepth 100000 in
set_option maxHeartbeats 4000000 in
theorem b_X3_heaviestTwo_b98 (C : Cx p s m args c RX3 cX3_heaviestTwo 8) {q : Int} {k7 : Int → Int → Int → Option (Int)} {k30 : Int → Int → Int → Int → Option (Int)} (hend : EndR p l e (rmk 1 24) s m args below meth c Q G true τ cX3_heaviestTwo .ireturn [.int (oI q)] σ) (hk7 : ∀ {H : Heap} {locs : List Loc} {ls : Array Slot} (v2 : Int) (v3 : Int) (v4 : Int), St G true τ σ s H locs → lv_has ls 8 [(0, .ref (G.1 18)), (1, .ref (G.1 6)), (2, .int (oI v2)), (3, .int (oI v3)), (4, .int (oI v4))] → k7 v2 v3 v4 = some q → W p l e (rmk 1 24) s m args below meth c H locs 0 0 Q (F0 m 7 ls [])) (hk30 : ∀ {H : Heap} {locs : List Loc} {ls : Array Slot} (v2 : Int) (v3 : Int) (v4 : Int) (v5 : Int), St G true τ σ s H locs → lv_has ls 8 [(0, .ref (G.1 18)), (1, .ref (G.1 6)), (2, .int (oI v2)), (3, .int (oI v3)), (4, .int (oI v4)), (5, .int (oI v5))] → k30 v2 v3 v4 v5 = some q → W p l e (rmk 1 24) s m args below meth c H locs 0 0 Q (F0 m 30 ls [])) {H : Heap} {locs : List Loc} {ls : Array Slot} (v2 : Int) (v3 : Int) (v4 : Int) (v5 : Int) (S : St G true τ σ s H locs) (hl : lv_has ls 8 [(0, .ref (G.1 18)), (1, .ref (G.1 6)), (2, .int (oI v2)), (3, .int (oI v3)), (4, .int (oI v4)), (5, .int (oI v5))]) (hf : f_X3_heaviestTwo_b98 σ k7 k30 v2 v3 v4 v5 = some q) : W p l e (rmk 1 24) s m args below meth c H locs 0 0 Q (F0 m 98 ls []) := by
  unfold f_X3_heaviestTwo_b98 at hf
  refine r_iinc C dX3_heaviestTwo_98 hl (k := 5) rfl (by decide) (lv' := [(5, .int (oI (v5 + 1))), (0, .ref (G.1 18)), (1, .ref (G.1 6)), (2, .int (oI v2)), (3, .int (oI v3)), (4, .int (oI v4))]) rfl (fun ls hl => ?_)
  refine lv_goto C.1 C.2.1 (tgt := 30) dX3_heaviestTwo_101 (by decide) ?_
  exact hk30 v2 v3 v4 (v5 + 1) S (lv_sub hl [1, 2, 3, 4, 5, 0] rfl) hf
set_option maxRecDepth 100000 in
set_option maxHeartbeats 4000000 in
theorem b_X3_heaviestTwo_b92 (C : Cx p s m args c RX3 cX3_heaviestTwo 8) {q : Int} {k7 : Int → Int → Int → Option (Int)} {k30 : Int → Int → Int → Int → Option (Int)} (hend : EndR p l e (rmk 1 24) s m args below meth c Q G true τ cX3_heaviestTwo .ireturn [.int (oI q)] σ) (hk7 : ∀ {H : Heap} {locs : List Loc} {ls : Array Slot} (v2 : Int) (v3 : Int) (v4 : Int), St G true τ σ s H locs → lv_has ls 8 [(0, .ref (G.1 18)), (1, .ref (G.1 6)), (2, .int (oI v2)), (3, .int (oI v3)), (4, .int (oI v4))] → k7 v2 v3 v4 = some q → W p l e (rmk 1 24) s m args below meth c H locs 0 0 Q (F0 m 7 ls [])) (hk30 : ∀ {H : Heap} {locs : List Loc} {ls : Array Slot} (v2 : Int) (v3 : Int) (v4 : Int) (v5 : Int), St G true τ σ s H locs → lv_has ls 8 [(0, .ref (G.1 18)), (1, .ref (G.1 6)), (2, .int (oI v2)), (3, .int (oI v3)), (4, .int (oI v4)), (5, .int (oI v5))] → k30 v2 v3 v4 v5 = some q → W p l e (rmk 1 24) s m args below meth c H locs 0 0 Q (F0 m 30 ls [])) {H : Heap} {locs : List Loc} {ls : Array Slot} (v4 : Int) (v5 : Int) (v6 : Int) (v7 : Int) (S : St G true τ σ s H locs) (hl : lv_has ls 8 [(0, .ref (G.1 18)), (1, .ref (G.1 6)), (4, .int (oI v4)), (5, .int (oI v5)), (6, .int (oI v6)), (7, .int (oI v7))]) (hf : f_X3_heaviestTwo_b92 σ k7 k30 v4 v5 v6 v7 = some q) : W p l e (rmk 1 24) s m args below meth c H locs 0 0 Q (F0 m 92 ls []) := by
  unfold f_X3_heaviestTwo_b92 at hf
  refine lv_iload C.1 C.2.1 dX3_heaviestTwo_92 (lv_at hl 4 rfl) ?_
  refine lv_istore_n C.1 C.2.1 dX3_heaviestTwo_94 rfl hl (by decide) (lv' := [(2, .int (oI v6)), (0, .ref (G.1 18)), (1, .ref (G.1 6)), (4, .int (oI v4)), (5, .int (oI v5)), (6, .int (oI v6)), (7, .int (oI v7))]) rfl (fun ls hl => ?_)
  refine lv_iload C.1 C.2.1 dX3_heaviestTwo_95 (lv_at hl 6 rfl) ?_
  refine lv_istore_n C.1 C.2.1 dX3_heaviestTwo_97 rfl hl (by decide) (lv' := [(3, .int (oI v7)), (2, .int (oI v6)), (0, .ref (G.1 18)), (1, .ref (G.1 6)), (4, .int (oI v4)), (5, .int (oI v5)), (6, .int (oI v6)), (7, .int (oI v7))]) rfl (fun ls hl => ?_)
  exact b_X3_heaviestTwo_b98 C hend hk7 hk30 v6 v7 v4 v5 S (lv_sub hl [2, 3, 1, 0, 4, 5] rfl) hf
set_option maxRecDepth 100000 in
set_option maxHeartbeats 4000000 in
theorem b_X3_heaviestTwo_b104 (C : Cx p s m args c RX3 cX3_heaviestTwo 8) {q : Int} {k7 : Int → Int → Int → Option (Int)} (hend : EndR p l e (rmk 1 24) s m args below meth c Q G true τ cX3_heaviestTwo .ireturn [.int (oI q)] σ) (hk7 : ∀ {H : Heap} {locs : List Loc} {ls : Array Slot} (v2 : Int) (v3 : Int) (v4 : Int), St G true τ σ s H locs → lv_has ls 8 [(0, .ref (G.1 18)), (1, .ref (G.1 6)), (2, .int (oI v2)), (3, .int (oI v3)), (4, .int (oI v4))] → k7 v2 v3 v4 = some q → W p l e (rmk 1 24) s m args below meth c H locs 0 0 Q (F0 m 7 ls [])) {H : Heap} {locs : List Loc} {ls : Array Slot} (v2 : Int) (v3 : Int) (v4 : Int) (S : St G true τ σ s H locs) (hl : lv_has ls 8 [(0, .ref (G.1 18)), (1, .ref (G.1 6)), (2, .int (oI v2)), (3, .int (oI v3)), (4, .int (oI v4))]) (hf : f_X3_heaviestTwo_b104 σ k7 v2 v3 v4 = some q) : W p l e (rmk 1 24) s m args below meth c H locs 0 0 Q (F0 m 104 ls []) := by
  unfold f_X3_heaviestTwo_b104 at hf
  refine r_iinc C dX3_heaviestTwo_104 hl (k := 4) rfl (by decide) (lv' := [(4, .int (oI (v4 + 1))), (0, .ref (G.1 18)), (1, .ref (G.1 6)), (2, .int (oI v2)), (3, .int (oI v3))]) rfl (fun ls hl => ?_)
  refine lv_goto C.1 C.2.1 (tgt := 7) dX3_heaviestTwo_107 (by decide) ?_
  exact hk7 v2 v3 (v4 + 1) S (lv_sub hl [1, 2, 3, 4, 0] rfl) hf
set_option maxRecDepth 100000 in
set_option maxHeartbeats 4000000 in
theorem b_X3_heaviestTwo_b30 (C : Cx p s m args c RX3 cX3_heaviestTwo 8) {q : Int} {k7 : Int → Int → Int → Option (Int)} (hend : EndR p l e (rmk 1 24) s m args below meth c Q G true τ cX3_heaviestTwo .ireturn [.int (oI q)] σ) (hk7 : ∀ {H : Heap} {locs : List Loc} {ls : Array Slot} (v2 : Int) (v3 : Int) (v4 : Int), St G true τ σ s H locs → lv_has ls 8 [(0, .ref (G.1 18)), (1, .ref (G.1 6)), (2, .int (oI v2)), (3, .int (oI v3)), (4, .int (oI v4))] → k7 v2 v3 v4 = some q → W p l e (rmk 1 24) s m args below meth c H locs 0 0 Q (F0 m 7 ls [])) : ∀ (n : Nat) {H : Heap} {locs : List Loc} {ls : Array Slot} (v2 : Int) (v3 : Int) (v4 : Int) (v5 : Int) (S : St G true τ σ s H locs) (hl : lv_has ls 8 [(0, .ref (G.1 18)), (1, .ref (G.1 6)), (2, .int (oI v2)), (3, .int (oI v3)), (4, .int (oI v4)), (5, .int (oI v5))]) (hf : f_X3_heaviestTwo_b30 σ k7 n v2 v3 v4 v5 = some q), W p l e (rmk 1 24) s m args below meth c H locs 0 0 Q (F0 m 30 ls []) := by
  intro n
  induction n with
  | zero => intro H locs ls v2 v3 v4 v5 S hl hf; cases hf
  | succ n ih =>
    intro H locs ls v2 v3 v4 v5 S hl hf
    have hk30 := @ih
    rw [f_X3_heaviestTwo_b30] at hf
    refine lv_iload C.1 C.2.1 dX3_heaviestTwo_30 (lv_at hl 5 rfl) ?_
    refine lv_aload_n C.1 C.2.1 dX3_heaviestTwo_32 rfl (lv_at hl 0 rfl) ?_
    refine g3_size C S tw_244 dX3_heaviestTwo_33 ?_
    refine r_icmp_ge C rfl rfl (tgt := 104) dX3_heaviestTwo_36 (by decide) (fun h9 => ?_) (fun h9 => ?_)
    · replace hf := if_t hf h9
      refine lv_iload C.1 C.2.1 dX3_heaviestTwo_39 (lv_at hl 5 rfl) ?_
      refine lv_aload_n C.1 C.2.1 dX3_heaviestTwo_41 rfl (lv_at hl 0 rfl) ?_
      refine g3_sets C S tw_243 dX3_heaviestTwo_42 ?_
      refine a_alen C S ar_19 dX3_heaviestTwo_45 ?_
      refine r_icmp_ge C rfl (show w32 576 = 576 by decide) (tgt := 104) dX3_heaviestTwo_46 (by decide) (fun h8 => ?_) (fun h8 => ?_)
      · replace hf := if_t hf h8
        refine lv_aload_n C.1 C.2.1 dX3_heaviestTwo_49 rfl (lv_at hl 0 rfl) ?_
        refine g3_sets C S tw_243 dX3_heaviestTwo_50 ?_
        refine lv_iload C.1 C.2.1 dX3_heaviestTwo_53 (lv_at hl 4 rfl) ?_
        obtain ⟨hi1, hf⟩ := ck_o hf
        refine a_iald C S ar_19 hi1 dX3_heaviestTwo_55 ?_
        refine lv_aload_n C.1 C.2.1 dX3_heaviestTwo_56 rfl (lv_at hl 0 rfl) ?_
        refine g3_sets C S tw_243 dX3_heaviestTwo_57 ?_
        refine lv_iload C.1 C.2.1 dX3_heaviestTwo_60 (lv_at hl 5 rfl) ?_
        obtain ⟨hi2, hf⟩ := ck_o hf
        refine a_iald C S ar_19 hi2 dX3_heaviestTwo_62 ?_
        refine r_ior C rfl rfl dX3_heaviestTwo_63 ?_
        refine lv_istore C.1 C.2.1 dX3_heaviestTwo_64 hl (by decide) (lv' := [(6, .int (oI ((((u32 (σ 19 (v4).toNat)) ||| (u32 (σ 19 (v5).toNat)) : Nat) : Int)))), (0, .ref (G.1 18)), (1, .ref (G.1 6)), (2, .int (oI v2)), (3, .int (oI v3)), (4, .int (oI v4)), (5, .int (oI v5))]) rfl (fun ls hl => ?_)
        refine lv_aload_n C.1 C.2.1 dX3_heaviestTwo_66 rfl (lv_at hl 2 rfl) ?_
        refine lv_iload C.1 C.2.1 dX3_heaviestTwo_67 (lv_at hl 0 rfl) ?_
        obtain ⟨q3, hc4, hf⟩ := bd_o hf
        refine r_callVv C S (As := [.int (oI ((((u32 (σ 19 (v4).toNat)) ||| (u32 (σ 19 (v5).toNat)) : Nat) : Int)))]) (rest := []) (ct_X0_sums l G τ hc4) mi_X0_sums tw_859 mv_X0_sums (rvX0 S) ⟨rfl, rfl⟩ ⟨Nat.le_of_ble_eq_true rfl, Nat.le_of_ble_eq_true rfl⟩ ⟨Nat.zero_le _, Nat.zero_le _⟩ rfl hl.1 rfl (Nat.le_of_ble_eq_true rfl) dX3_heaviestTwo_69 (fun H locs S => ?_)
        refine lv_istore C.1 C.2.1 dX3_heaviestTwo_72 hl (by decide) (lv' := [(7, .int (oI q3)), (6, .int (oI ((((u32 (σ 19 (v4).toNat)) ||| (u32 (σ 19 (v5).toNat)) : Nat) : Int)))), (0, .ref (G.1 18)), (1, .ref (G.1 6)), (2, .int (oI v2)), (3, .int (oI v3)), (4, .int (oI v4)), (5, .int (oI v5))]) rfl (fun ls hl => ?_)
        refine lv_iload C.1 C.2.1 dX3_heaviestTwo_74 (lv_at hl 0 rfl) ?_
        refine lv_iload_n C.1 C.2.1 dX3_heaviestTwo_76 rfl (lv_at hl 5 rfl) ?_
        refine r_icmp_gt C rfl rfl (tgt := 92) dX3_heaviestTwo_77 (by decide) (fun h7 => ?_) (fun h7 => ?_)
        · replace hf := if_t hf h7
          refine lv_iload C.1 C.2.1 dX3_heaviestTwo_80 (lv_at hl 0 rfl) ?_
          refine lv_iload_n C.1 C.2.1 dX3_heaviestTwo_82 rfl (lv_at hl 5 rfl) ?_
          refine r_icmp_ne C rfl rfl (tgt := 98) dX3_heaviestTwo_83 (by decide) (fun h6 => ?_) (fun h6 => ?_)
          · replace hf := if_t hf h6
            refine lv_iload C.1 C.2.1 dX3_heaviestTwo_86 (lv_at hl 1 rfl) ?_
            refine lv_iload_n C.1 C.2.1 dX3_heaviestTwo_88 rfl (lv_at hl 4 rfl) ?_
            refine r_icmp_ge C rfl rfl (tgt := 98) dX3_heaviestTwo_89 (by decide) (fun h5 => ?_) (fun h5 => ?_)
            · replace hf := if_t hf h5
              exact b_X3_heaviestTwo_b92 C hend hk7 hk30 v4 v5 ((((u32 (σ 19 (v4).toNat)) ||| (u32 (σ 19 (v5).toNat)) : Nat) : Int)) q3 S (lv_sub hl [2, 3, 6, 7, 1, 0] rfl) hf
            · replace hf := if_f hf h5
              exact b_X3_heaviestTwo_b98 C hend hk7 hk30 v2 v3 v4 v5 S (lv_sub hl [2, 3, 4, 5, 6, 7] rfl) hf
          · replace hf := if_f hf h6
            exact b_X3_heaviestTwo_b98 C hend hk7 hk30 v2 v3 v4 v5 S (lv_sub hl [2, 3, 4, 5, 6, 7] rfl) hf
        · replace hf := if_f hf h7
          exact b_X3_heaviestTwo_b92 C hend hk7 hk30 v4 v5 ((((u32 (σ 19 (v4).toNat)) ||| (u32 (σ 19 (v5).toNat)) : Nat) : Int)) q3 S (lv_sub hl [2, 3, 6, 7, 1, 0] rfl) hf
      · replace hf := if_f hf h8
        exact b_X3_heaviestTwo_b104 C hend hk7 v2 v3 v4 S (lv_sub hl [0, 1, 2, 3, 4] rfl) hf
    · replace hf := if_f hf h9
      exact b_X3_heaviestTwo_b104 C hend hk7 v2 v3 v4 S (lv_sub hl [0, 1, 2, 3, 4] rfl) hf
set_option maxRecDepth 100000 in
set_option maxHeartbeats 4000000 in
theorem b_X3_heaviestTwo_b7 (C : Cx p s m args c RX3 cX3_heaviestTwo 8) {q : Int} (hend : EndR p l e (rmk 1 24) s m args below meth c Q G true τ cX3_heaviestTwo .ireturn [.int (oI q)] σ) : ∀ (n : Nat) {H : Heap} {locs : List Loc} {ls : Array Slot} (v2 : Int) (v3 : Int) (v4 : Int) (S : St G true τ σ s H locs) (hl : lv_has ls 8 [(0, .ref (G.1 18)), (1, .ref (G.1 6)), (2, .int (oI v2)), (3, .int (oI v3)), (4, .int (oI v4))]) (hf : f_X3_heaviestTwo_b7 σ n v2 v3 v4 = some q), W p l e (rmk 1 24) s m args below meth c H locs 0 0 Q (F0 m 7 ls []) := by
  intro n
  induction n with
  | zero => intro H locs ls v2 v3 v4 S hl hf; cases hf
  | succ n ih =>
    intro H locs ls v2 v3 v4 S hl hf
    have hk7 := @ih
    rw [f_X3_heaviestTwo_b7] at hf
    refine lv_iload C.1 C.2.1 dX3_heaviestTwo_7 (lv_at hl 4 rfl) ?_
    refine lv_aload_n C.1 C.2.1 dX3_heaviestTwo_9 rfl (lv_at hl 0 rfl) ?_
    refine g3_size C S tw_244 dX3_heaviestTwo_10 ?_
    refine r_icmp_ge C rfl rfl (tgt := 110) dX3_heaviestTwo_13 (by decide) (fun h11 => ?_) (fun h11 => ?_)
    · replace hf := if_t hf h11
      refine lv_iload C.1 C.2.1 dX3_heaviestTwo_16 (lv_at hl 4 rfl) ?_
      refine lv_aload_n C.1 C.2.1 dX3_heaviestTwo_18 rfl (lv_at hl 0 rfl) ?_
      refine g3_sets C S tw_243 dX3_heaviestTwo_19 ?_
      refine a_alen C S ar_19 dX3_heaviestTwo_22 ?_
      refine r_icmp_ge C rfl (show w32 576 = 576 by decide) (tgt := 110) dX3_heaviestTwo_23 (by decide) (fun h10 => ?_) (fun h10 => ?_)
      · replace hf := if_t hf h10
        refine lv_iload C.1 C.2.1 dX3_heaviestTwo_26 (lv_at hl 4 rfl) ?_
        refine lv_istore C.1 C.2.1 dX3_heaviestTwo_28 hl (by decide) (lv' := [(5, .int (oI v4)), (0, .ref (G.1 18)), (1, .ref (G.1 6)), (2, .int (oI v2)), (3, .int (oI v3)), (4, .int (oI v4))]) rfl (fun ls hl => ?_)
        exact b_X3_heaviestTwo_b30 C hend hk7 FUEL v2 v3 v4 v4 S (lv_sub hl [1, 2, 3, 4, 5, 0] rfl) hf
      · replace hf := if_f hf h10
        refine lv_iload_n C.1 C.2.1 dX3_heaviestTwo_110 rfl (lv_at hl 2 rfl) ?_
        cases hf
        exact hend _ _ _ _ S dX3_heaviestTwo_111
    · replace hf := if_f hf h11
      refine lv_iload_n C.1 C.2.1 dX3_heaviestTwo_110 rfl (lv_at hl 2 rfl) ?_
      cases hf
      exact hend _ _ _ _ S dX3_heaviestTwo_111
set_option maxRecDepth 100000 in
set_option maxHeartbeats 4000000 in
theorem ct_X3_heaviestTwo (l : Launch) (G : Gd) (τ : Sg) {σ : Sg} {q : Int} (hf : f_X3_heaviestTwo σ = some q) : Ctr l yX3_heaviestTwo cX3_heaviestTwo 8 (some .int) (rmk 1 24) G true τ [.ref (G.1 18), .ref (G.1 6)] σ σ (some (.int (oI q))) := by
  unfold f_X3_heaviestTwo at hf
  refine CtrI.of (own := RX3) (plainFor_of_name (by decide)) (Nat.le_of_ble_eq_true rfl) rfl (fun p e s m below meth c Q ls C hl S hend => ?_)
  have hl : lv_has ls 8 [(0, .ref (G.1 18)), (1, .ref (G.1 6))] := hl
  refine r_iconst C dX3_heaviestTwo_0 ?_
  refine lv_istore_n C.1 C.2.1 dX3_heaviestTwo_1 rfl hl (by decide) (lv' := [(2, .int (oI 0)), (0, .ref (G.1 18)), (1, .ref (G.1 6))]) rfl (fun ls hl => ?_)
  refine r_iconst C dX3_heaviestTwo_2 ?_
  refine lv_istore_n C.1 C.2.1 dX3_heaviestTwo_3 rfl hl (by decide) (lv' := [(3, .int (oI 0)), (2, .int (oI 0)), (0, .ref (G.1 18)), (1, .ref (G.1 6))]) rfl (fun ls hl => ?_)
  refine r_iconst C dX3_heaviestTwo_4 ?_
  refine lv_istore C.1 C.2.1 dX3_heaviestTwo_5 hl (by decide) (lv' := [(4, .int (oI 0)), (3, .int (oI 0)), (2, .int (oI 0)), (0, .ref (G.1 18)), (1, .ref (G.1 6))]) rfl (fun ls hl => ?_)
  exact b_X3_heaviestTwo_b7 C hend FUEL 0 0 0 S (lv_sub hl [3, 4, 2, 1, 0] rfl) hf
set_option maxRecDepth 100000 in
set_option maxHeartbeats 4000000 in
theorem ct_X9_two (l : Launch) (G : Gd) (τ : Sg) {v1 : Int} {v2 : Int} {v3 : Int} {σ : Sg} {q : Int × Sg} (hf : f_X9_two v1 v2 v3 σ = some q) : Ctr l yX9_two cX9_two 5 (some .int) (rmk 5 134) G true τ [.ref (G.1 0), .int (oI v1), .int (oI v2), .int (oI v3)] σ q.2 (some (.int (oI q.1))) := by
  unfold f_X9_two at hf
  refine CtrI.of (own := RX9) (plainFor_of_name (by decide)) (Nat.le_of_ble_eq_true rfl) rfl (fun p e s m below meth c Q ls C hl S hend => ?_)
  have hl : lv_has ls 5 [(0, .ref (G.1 0)), (1, .int (oI v1)), (2, .int (oI v2)), (3, .int (oI v3))] := hl
  refine lv_iload_n C.1 C.2.1 dX9_two_0 rfl (lv_at hl 1 rfl) ?_
  obtain ⟨q1, hc2, hf⟩ := bd_o hf
  refine r_callSv C S (As := [.int (oI v1)]) (rest := []) (ct_X9_arePerils l G τ hc2) mi_X9_arePerils tw_631 ms_X9_arePerils ⟨rfl, rfl⟩ ⟨Nat.le_of_ble_eq_true rfl, Nat.le_of_ble_eq_true rfl⟩ ⟨Nat.zero_le _, Nat.zero_le _⟩ rfl hl.1 rfl (Nat.le_of_ble_eq_true rfl) dX9_two_1 (fun H locs S => ?_)
  refine r_if_eq C rfl (tgt := 23) dX9_two_4 (by decide) (fun h19 => ?_) (fun h19 => ?_)
  · replace hf := if_t hf h19
    refine r_iconst C dX9_two_23 ?_
    cases hf
    exact hend _ _ _ _ S dX9_two_24
  · replace hf := if_f hf h19
    refine lv_iload_n C.1 C.2.1 dX9_two_7 rfl (lv_at hl 2 rfl) ?_
    obtain ⟨q3, hc4, hf⟩ := bd_o hf
    refine r_callSv C S (As := [.int (oI v2)]) (rest := []) (ct_X9_isRadius l G τ hc4) mi_X9_isRadius tw_634 ms_X9_isRadius ⟨rfl, rfl⟩ ⟨Nat.le_of_ble_eq_true rfl, Nat.le_of_ble_eq_true rfl⟩ ⟨Nat.zero_le _, Nat.zero_le _⟩ rfl hl.1 rfl (Nat.le_of_ble_eq_true rfl) dX9_two_8 (fun H locs S => ?_)
    refine r_if_eq C rfl (tgt := 23) dX9_two_11 (by decide) (fun h18 => ?_) (fun h18 => ?_)
    · replace hf := if_t hf h18
      refine r_iconst C dX9_two_23 ?_
      cases hf
      exact hend _ _ _ _ S dX9_two_24
    · replace hf := if_f hf h18
      refine lv_iload_n C.1 C.2.1 dX9_two_14 rfl (lv_at hl 3 rfl) ?_
      refine r_if_lt C rfl (tgt := 23) dX9_two_15 (by decide) (fun h17 => ?_) (fun h17 => ?_)
      · replace hf := if_t hf h17
        refine r_iconst C dX9_two_23 ?_
        cases hf
        exact hend _ _ _ _ S dX9_two_24
      · replace hf := if_f hf h17
        refine lv_iload_n C.1 C.2.1 dX9_two_18 rfl (lv_at hl 3 rfl) ?_
        refine r_iconst C dX9_two_19 ?_
        refine r_icmp_le C rfl (show w32 1 = 1 by decide) (tgt := 25) dX9_two_20 (by decide) (fun h16 => ?_) (fun h16 => ?_)
        · replace hf := if_t hf h16
          refine lv_aload_n C.1 C.2.1 dX9_two_25 rfl (lv_at hl 0 rfl) ?_
          refine g9_discs C S tw_288 dX9_two_26 ?_
          refine lv_iload_n C.1 C.2.1 dX9_two_29 rfl (lv_at hl 2 rfl) ?_
          refine lv_aload_n C.1 C.2.1 dX9_two_30 rfl (lv_at hl 0 rfl) ?_
          refine g9_book C S tw_282 dX9_two_31 ?_
          refine lv_iload_n C.1 C.2.1 dX9_two_34 rfl (lv_at hl 1 rfl) ?_
          obtain ⟨q5, hc6, hf⟩ := bd_o hf
          refine r_callVv C S (As := [.int (oI v1)]) (rest := [.int (oI v2), .ref (G.1 (27 + 6))]) (ct_X0_ofPerils l G τ hc6) mi_X0_ofPerils tw_476 mv_X0_ofPerils (rvX0 S) ⟨rfl, rfl⟩ ⟨Nat.le_of_ble_eq_true rfl, Nat.le_of_ble_eq_true rfl⟩ ⟨Nat.zero_le _, Nat.zero_le _⟩ rfl hl.1 rfl (Nat.le_of_ble_eq_true rfl) dX9_two_35 (fun H locs S => ?_)
          obtain ⟨q7, hc8, hf⟩ := bd_o hf
          refine r_callVn C S (As := [.int (oI v2), .int (oI q5)]) (rest := []) (ct_X2_fill l G τ hc8) mi_X2_fill tw_480 mv_X2_fill (rvX2 S (d := 6) (by decide)) ⟨rfl, rfl⟩ ⟨Nat.le_of_ble_eq_true rfl, Nat.le_of_ble_eq_true rfl⟩ ⟨Nat.zero_le _, Nat.zero_le _⟩ rfl hl.1 rfl (Nat.le_of_ble_eq_true rfl) dX9_two_38 (fun H locs S => ?_)
          refine lv_aload_n C.1 C.2.1 dX9_two_41 rfl (lv_at hl 0 rfl) ?_
          refine g9_family C S tw_289 dX9_two_42 ?_
          refine lv_aload_n C.1 C.2.1 dX9_two_45 rfl (lv_at hl 0 rfl) ?_
          refine g9_discs C S tw_288 dX9_two_46 ?_
          obtain ⟨q9, hc10, hf⟩ := bd_o hf
          refine r_callVn C S (As := [.ref (G.1 (27 + 6))]) (rest := []) (ct_X3_gather l G τ hc10) mi_X3_gather tw_843 mv_X3_gather (rvX3 S) ⟨rfl, rfl⟩ ⟨Nat.le_of_ble_eq_true rfl, Nat.le_of_ble_eq_true rfl⟩ ⟨Nat.zero_le _, Nat.zero_le _⟩ rfl hl.1 rfl (Nat.le_of_ble_eq_true rfl) dX9_two_49 (fun H locs S => ?_)
          refine lv_aload_n C.1 C.2.1 dX9_two_52 rfl (lv_at hl 0 rfl) ?_
          refine g9_family C S tw_289 dX9_two_53 ?_
          refine lv_aload_n C.1 C.2.1 dX9_two_56 rfl (lv_at hl 0 rfl) ?_
          refine g9_book C S tw_282 dX9_two_57 ?_
          obtain ⟨q11, hc12, hf⟩ := bd_o hf
          refine r_callVv C S (As := [.ref (G.1 6)]) (rest := []) (ct_X3_heaviestTwo l G τ hc12) mi_X3_heaviestTwo tw_855 mv_X3_heaviestTwo (rvX3 S) ⟨rfl, rfl⟩ ⟨Nat.le_of_ble_eq_true rfl, Nat.le_of_ble_eq_true rfl⟩ ⟨Nat.zero_le _, Nat.zero_le _⟩ rfl hl.1 rfl (Nat.le_of_ble_eq_true rfl) dX9_two_60 (fun H locs S => ?_)
          refine lv_istore C.1 C.2.1 dX9_two_63 hl (by decide) (lv' := [(4, .int (oI q11)), (0, .ref (G.1 0)), (1, .int (oI v1)), (2, .int (oI v2)), (3, .int (oI v3))]) rfl (fun ls hl => ?_)
          refine lv_iload_n C.1 C.2.1 dX9_two_65 rfl (lv_at hl 4 rfl) ?_
          refine r_if_ne C rfl (tgt := 81) dX9_two_66 (by decide) (fun h15 => ?_) (fun h15 => ?_)
          · replace hf := if_t hf h15
            refine lv_aload_n C.1 C.2.1 dX9_two_69 rfl (lv_at hl 1 rfl) ?_
            refine g9_book C S tw_282 dX9_two_70 ?_
            refine lv_iload C.1 C.2.1 dX9_two_73 (lv_at hl 0 rfl) ?_
            obtain ⟨q13, hc14, hf⟩ := bd_o hf
            refine r_callVv C S (As := [.int (oI q11)]) (rest := []) (ct_X0_sums l G τ hc14) mi_X0_sums tw_652 mv_X0_sums (rvX0 S) ⟨rfl, rfl⟩ ⟨Nat.le_of_ble_eq_true rfl, Nat.le_of_ble_eq_true rfl⟩ ⟨Nat.zero_le _, Nat.zero_le _⟩ rfl hl.1 rfl (Nat.le_of_ble_eq_true rfl) dX9_two_75 (fun H locs S => ?_)
            refine lv_goto C.1 C.2.1 (tgt := 83) dX9_two_78 (by decide) ?_
            cases hf
            exact hend _ _ _ _ S dX9_two_83
          · replace hf := if_f hf h15
            refine lv_iload C.1 C.2.1 dX9_two_81 (lv_at hl 0 rfl) ?_
            cases hf
            exact hend _ _ _ _ S dX9_two_83
        · replace hf := if_f hf h16
          refine r_iconst C dX9_two_23 ?_
          cases hf
          exact hend _ _ _ _ S dX9_two_24
set_option maxRecDepth 100000 in
set_option maxHeartbeats 4000000 in
theorem b_X3_isOneOver_b2 (C : Cx p s m args c RX3 cX3_isOneOver 3) {q : Int} (hend : (q = 0 ∨ q = 1) → EndR p l e (rmk 0 0) s m args below meth c Q G true τ cX3_isOneOver .ireturn [.int (oI q)] σ) : ∀ (n : Nat) {H : Heap} {locs : List Loc} {ls : Array Slot} (v1 : Int) (v2 : Int) (S : St G true τ σ s H locs) (hl : lv_has ls 3 [(0, .ref (G.1 18)), (1, .int (oI v1)), (2, .int (oI v2))]) (hf : f_X3_isOneOver_b2 σ n v1 v2 = some q), W p l e (rmk 0 0) s m args below meth c H locs 0 0 Q (F0 m 2 ls []) := by
  intro n
  induction n with
  | zero => intro H locs ls v1 v2 S hl hf; cases hf
  | succ n ih =>
    intro H locs ls v1 v2 S hl hf
    have hk2 := @ih
    rw [f_X3_isOneOver_b2] at hf
    refine lv_iload_n C.1 C.2.1 dX3_isOneOver_2 rfl (lv_at hl 2 rfl) ?_
    refine lv_aload_n C.1 C.2.1 dX3_isOneOver_3 rfl (lv_at hl 0 rfl) ?_
    refine g3_size C S tw_244 dX3_isOneOver_4 ?_
    refine r_icmp_ge C rfl rfl (tgt := 40) dX3_isOneOver_7 (by decide) (fun h4 => ?_) (fun h4 => ?_)
    · replace hf := if_t hf h4
      refine lv_iload_n C.1 C.2.1 dX3_isOneOver_10 rfl (lv_at hl 2 rfl) ?_
      refine lv_aload_n C.1 C.2.1 dX3_isOneOver_11 rfl (lv_at hl 0 rfl) ?_
      refine g3_sets C S tw_243 dX3_isOneOver_12 ?_
      refine a_alen C S ar_19 dX3_isOneOver_15 ?_
      refine r_icmp_ge C rfl (show w32 576 = 576 by decide) (tgt := 40) dX3_isOneOver_16 (by decide) (fun h3 => ?_) (fun h3 => ?_)
      · replace hf := if_t hf h3
        refine lv_iload_n C.1 C.2.1 dX3_isOneOver_19 rfl (lv_at hl 1 rfl) ?_
        refine lv_aload_n C.1 C.2.1 dX3_isOneOver_20 rfl (lv_at hl 0 rfl) ?_
        refine g3_sets C S tw_243 dX3_isOneOver_21 ?_
        refine lv_iload_n C.1 C.2.1 dX3_isOneOver_24 rfl (lv_at hl 2 rfl) ?_
        obtain ⟨hi1, hf⟩ := ck_o hf
        refine a_iald C S ar_19 hi1 dX3_isOneOver_25 ?_
        refine r_iconst C dX3_isOneOver_26 ?_
        refine r_ixor C rfl (show u32 (-1) = 4294967295 by decide) dX3_isOneOver_27 ?_
        refine r_iand C rfl (u32_nat (nb_xor (u32_lt _) (show 4294967295 < 4294967296 by decide))) dX3_isOneOver_28 ?_
        refine r_if_ne C rfl (tgt := 34) dX3_isOneOver_29 (by decide) (fun h2 => ?_) (fun h2 => ?_)
        · replace hf := if_t hf h2
          refine r_iconst C dX3_isOneOver_32 ?_
          cases hf
          exact hend (Or.inr rfl) _ _ _ _ S dX3_isOneOver_33
        · replace hf := if_f hf h2
          refine r_iinc C dX3_isOneOver_34 hl (k := 2) rfl (by decide) (lv' := [(2, .int (oI (v2 + 1))), (0, .ref (G.1 18)), (1, .int (oI v1))]) rfl (fun ls hl => ?_)
          refine lv_goto C.1 C.2.1 (tgt := 2) dX3_isOneOver_37 (by decide) ?_
          exact hk2 v1 (v2 + 1) S (lv_sub hl [1, 2, 0] rfl) hf
      · replace hf := if_f hf h3
        refine r_iconst C dX3_isOneOver_40 ?_
        cases hf
        exact hend (Or.inl rfl) _ _ _ _ S dX3_isOneOver_41
    · replace hf := if_f hf h4
      refine r_iconst C dX3_isOneOver_40 ?_
      cases hf
      exact hend (Or.inl rfl) _ _ _ _ S dX3_isOneOver_41
set_option maxRecDepth 100000 in
set_option maxHeartbeats 4000000 in
theorem ct_X3_isOneOver (l : Launch) (G : Gd) (τ : Sg) {v1 : Int} {σ : Sg} {q : Int} (hf : f_X3_isOneOver v1 σ = some q) : Ctr l yX3_isOneOver cX3_isOneOver 3 (some .boolean) (rmk 0 0) G true τ [.ref (G.1 18), .int (oI v1)] σ σ (some (.int (oI q))) := by
  unfold f_X3_isOneOver at hf
  refine CtrZ.of (own := RX3) (plainFor_of_name (by decide)) (Nat.le_of_ble_eq_true rfl) rfl (fun p e s m below meth c Q ls C hl S hend => ?_)
  have hl : lv_has ls 3 [(0, .ref (G.1 18)), (1, .int (oI v1))] := hl
  refine r_iconst C dX3_isOneOver_0 ?_
  refine lv_istore_n C.1 C.2.1 dX3_isOneOver_1 rfl hl (by decide) (lv' := [(2, .int (oI 0)), (0, .ref (G.1 18)), (1, .int (oI v1))]) rfl (fun ls hl => ?_)
  exact b_X3_isOneOver_b2 C hend FUEL v1 0 S (lv_sub hl [1, 2, 0] rfl) hf
set_option maxRecDepth 100000 in
set_option maxHeartbeats 4000000 in
theorem ct_X3_leastOf (l : Launch) (G : Gd) (τ : Sg) {v0 : Int} {σ : Sg} {q : Int} (hf : f_X3_leastOf v0 σ = some q) : Ctr l yX3_leastOf cX3_leastOf 1 (some .int) (rmk 1 20) G true τ [.int (oI v0)] σ σ (some (.int (oI q))) := by
  unfold f_X3_leastOf at hf
  refine CtrI.of (own := RX3) (plainFor_of_name (by decide)) (Nat.le_of_ble_eq_true rfl) rfl (fun p e s m below meth c Q ls C hl S hend => ?_)
  have hl : lv_has ls 1 [(0, .int (oI v0))] := hl
  refine lv_iload_n C.1 C.2.1 dX3_leastOf_0 rfl (lv_at hl 0 rfl) ?_
  refine lv_iload_n C.1 C.2.1 dX3_leastOf_1 rfl (lv_at hl 0 rfl) ?_
  refine r_ineg C dX3_leastOf_2 ?_
  refine r_iand C rfl rfl dX3_leastOf_3 ?_
  refine r_iconst C dX3_leastOf_4 ?_
  refine r_isub C dX3_leastOf_5 ?_
  obtain ⟨q1, hc2, hf⟩ := bd_o hf
  refine r_callSv C S (As := [.int (oI (((((u32 v0) &&& (u32 (-v0)) : Nat) : Int)) - 1))]) (rest := []) (ct_J6_bitCount_0f7a4 l G τ hc2) mi_J6_bitCount_0f7a4 tw_875 ms_J6_bitCount_0f7a4 ⟨rfl, rfl⟩ ⟨Nat.le_of_ble_eq_true rfl, Nat.le_of_ble_eq_true rfl⟩ ⟨Nat.zero_le _, Nat.zero_le _⟩ rfl hl.1 rfl (Nat.le_of_ble_eq_true rfl) dX3_leastOf_6 (fun H locs S => ?_)
  cases hf
  exact hend _ _ _ _ S dX3_leastOf_9
set_option maxRecDepth 100000 in
set_option maxHeartbeats 4000000 in
theorem b_X3_areTwoOver_b54 (C : Cx p s m args c RX3 cX3_areTwoOver 3) {q : Int} {k2 : Int → Int → Option (Int)} (hend : (q = 0 ∨ q = 1) → EndR p l e (rmk 2 40) s m args below meth c Q G true τ cX3_areTwoOver .ireturn [.int (oI q)] σ) (hk2 : ∀ {H : Heap} {locs : List Loc} {ls : Array Slot} (v1 : Int) (v2 : Int), St G true τ σ s H locs → lv_has ls 3 [(0, .ref (G.1 18)), (1, .int (oI v1)), (2, .int (oI v2))] → k2 v1 v2 = some q → W p l e (rmk 2 40) s m args below meth c H locs 0 0 Q (F0 m 2 ls [])) {H : Heap} {locs : List Loc} {ls : Array Slot} (v1 : Int) (v2 : Int) (S : St G true τ σ s H locs) (hl : lv_has ls 3 [(0, .ref (G.1 18)), (1, .int (oI v1)), (2, .int (oI v2))]) (hf : f_X3_areTwoOver_b54 σ k2 v1 v2 = some q) : W p l e (rmk 2 40) s m args below meth c H locs 0 0 Q (F0 m 54 ls []) := by
  unfold f_X3_areTwoOver_b54 at hf
  refine r_iinc C dX3_areTwoOver_54 hl (k := 2) rfl (by decide) (lv' := [(2, .int (oI (v2 + 1))), (0, .ref (G.1 18)), (1, .int (oI v1))]) rfl (fun ls hl => ?_)
  refine lv_goto C.1 C.2.1 (tgt := 2) dX3_areTwoOver_57 (by decide) ?_
  exact hk2 v1 (v2 + 1) S (lv_sub hl [1, 2, 0] rfl) hf
set_option maxRecDepth 100000 in
set_option maxHeartbeats 4000000 in
theorem b_X3_areTwoOver_b2 (C : Cx p s m args c RX3 cX3_areTwoOver 3) {q : Int} (hend : (q = 0 ∨ q = 1) → EndR p l e (rmk 2 40) s m args below meth c Q G true τ cX3_areTwoOver .ireturn [.int (oI q)] σ) : ∀ (n : Nat) {H : Heap} {locs : List Loc} {ls : Array Slot} (v1 : Int) (v2 : Int) (S : St G true τ σ s H locs) (hl : lv_has ls 3 [(0, .ref (G.1 18)), (1, .int (oI v1)), (2, .int (oI v2))]) (hf : f_X3_areTwoOver_b2 σ n v1 v2 = some q), W p l e (rmk 2 40) s m args below meth c H locs 0 0 Q (F0 m 2 ls []) := by
  intro n
  induction n with
  | zero => intro H locs ls v1 v2 S hl hf; cases hf
  | succ n ih =>
    intro H locs ls v1 v2 S hl hf
    have hk2 := @ih
    rw [f_X3_areTwoOver_b2] at hf
    refine lv_iload_n C.1 C.2.1 dX3_areTwoOver_2 rfl (lv_at hl 2 rfl) ?_
    refine lv_aload_n C.1 C.2.1 dX3_areTwoOver_3 rfl (lv_at hl 0 rfl) ?_
    refine g3_size C S tw_244 dX3_areTwoOver_4 ?_
    refine r_icmp_ge C rfl rfl (tgt := 60) dX3_areTwoOver_7 (by decide) (fun h12 => ?_) (fun h12 => ?_)
    · replace hf := if_t hf h12
      refine lv_iload_n C.1 C.2.1 dX3_areTwoOver_10 rfl (lv_at hl 2 rfl) ?_
      refine lv_aload_n C.1 C.2.1 dX3_areTwoOver_11 rfl (lv_at hl 0 rfl) ?_
      refine g3_sets C S tw_243 dX3_areTwoOver_12 ?_
      refine a_alen C S ar_19 dX3_areTwoOver_15 ?_
      refine r_icmp_ge C rfl (show w32 576 = 576 by decide) (tgt := 60) dX3_areTwoOver_16 (by decide) (fun h11 => ?_) (fun h11 => ?_)
      · replace hf := if_t hf h11
        refine lv_aload_n C.1 C.2.1 dX3_areTwoOver_19 rfl (lv_at hl 0 rfl) ?_
        refine g3_sets C S tw_243 dX3_areTwoOver_20 ?_
        refine lv_iload_n C.1 C.2.1 dX3_areTwoOver_23 rfl (lv_at hl 2 rfl) ?_
        obtain ⟨hi1, hf⟩ := ck_o hf
        refine a_iald C S ar_19 hi1 dX3_areTwoOver_24 ?_
        refine lv_iload_n C.1 C.2.1 dX3_areTwoOver_25 rfl (lv_at hl 1 rfl) ?_
        obtain ⟨q2, hc3, hf⟩ := bd_o hf
        refine r_callSv C S (As := [.int (oI v1)]) (rest := [.int (oI (σ 19 (v2).toNat))]) (ct_X3_leastOf l G τ hc3) mi_X3_leastOf tw_872 ms_X3_leastOf ⟨rfl, rfl⟩ ⟨Nat.le_of_ble_eq_true rfl, Nat.le_of_ble_eq_true rfl⟩ ⟨Nat.zero_le _, Nat.zero_le _⟩ rfl hl.1 rfl (Nat.le_of_ble_eq_true rfl) dX3_areTwoOver_26 (fun H locs S => ?_)
        obtain ⟨q4, hc5, hf⟩ := bd_o hf
        refine r_callSNv C S (As := [.int (oI (σ 19 (v2).toNat)), .int (oI q2)]) (rest := []) (ct_X9_contains l G τ hc5) mi_X9_contains (nw_876 S.2.2.2) ms_X9_contains ⟨rfl, rfl⟩ ⟨Nat.le_of_ble_eq_true rfl, Nat.le_of_ble_eq_true rfl⟩ ⟨Nat.zero_le _, Nat.zero_le _⟩ rfl hl.1 rfl (Nat.le_of_ble_eq_true rfl) dX3_areTwoOver_29 (fun H locs S => ?_)
        refine r_if_eq C rfl (tgt := 54) dX3_areTwoOver_32 (by decide) (fun h10 => ?_) (fun h10 => ?_)
        · replace hf := if_t hf h10
          exact b_X3_areTwoOver_b54 C hend hk2 v1 v2 S (lv_sub hl [0, 1, 2] rfl) hf
        · replace hf := if_f hf h10
          refine lv_aload_n C.1 C.2.1 dX3_areTwoOver_35 rfl (lv_at hl 0 rfl) ?_
          refine lv_iload_n C.1 C.2.1 dX3_areTwoOver_36 rfl (lv_at hl 1 rfl) ?_
          refine lv_aload_n C.1 C.2.1 dX3_areTwoOver_37 rfl (lv_at hl 0 rfl) ?_
          refine g3_sets C S tw_243 dX3_areTwoOver_38 ?_
          refine lv_iload_n C.1 C.2.1 dX3_areTwoOver_41 rfl (lv_at hl 2 rfl) ?_
          obtain ⟨hi6, hf⟩ := ck_o hf
          refine a_iald C S ar_19 hi6 dX3_areTwoOver_42 ?_
          refine r_iconst C dX3_areTwoOver_43 ?_
          refine r_ixor C rfl (show u32 (-1) = 4294967295 by decide) dX3_areTwoOver_44 ?_
          refine r_iand C rfl (u32_nat (nb_xor (u32_lt _) (show 4294967295 < 4294967296 by decide))) dX3_areTwoOver_45 ?_
          obtain ⟨q7, hc8, hf⟩ := bd_o hf
          refine r_callVv C S (As := [.int (oI ((((u32 v1) &&& ((u32 (σ 19 (v2).toNat)) ^^^ 4294967295) : Nat) : Int)))]) (rest := []) (ct_X3_isOneOver l G τ hc8) mi_X3_isOneOver tw_868 mv_X3_isOneOver (rvX3 S) ⟨rfl, rfl⟩ ⟨Nat.le_of_ble_eq_true rfl, Nat.le_of_ble_eq_true rfl⟩ ⟨Nat.zero_le _, Nat.zero_le _⟩ rfl hl.1 rfl (Nat.le_of_ble_eq_true rfl) dX3_areTwoOver_46 (fun H locs S => ?_)
          refine r_if_eq C rfl (tgt := 54) dX3_areTwoOver_49 (by decide) (fun h9 => ?_) (fun h9 => ?_)
          · replace hf := if_t hf h9
            exact b_X3_areTwoOver_b54 C hend hk2 v1 v2 S (lv_sub hl [0, 1, 2] rfl) hf
          · replace hf := if_f hf h9
            refine r_iconst C dX3_areTwoOver_52 ?_
            cases hf
            exact hend (Or.inr rfl) _ _ _ _ S dX3_areTwoOver_53
      · replace hf := if_f hf h11
        refine r_iconst C dX3_areTwoOver_60 ?_
        cases hf
        exact hend (Or.inl rfl) _ _ _ _ S dX3_areTwoOver_61
    · replace hf := if_f hf h12
      refine r_iconst C dX3_areTwoOver_60 ?_
      cases hf
      exact hend (Or.inl rfl) _ _ _ _ S dX3_areTwoOver_61
set_option maxRecDepth 100000 in
set_option maxHeartbeats 4000000 in
theorem ct_X3_areTwoOver (l : Launch) (G : Gd) (τ : Sg) {v1 : Int} {σ : Sg} {q : Int} (hf : f_X3_areTwoOver v1 σ = some q) : Ctr l yX3_areTwoOver cX3_areTwoOver 3 (some .boolean) (rmk 2 40) G true τ [.ref (G.1 18), .int (oI v1)] σ σ (some (.int (oI q))) := by
  unfold f_X3_areTwoOver at hf
  refine CtrZ.of (own := RX3) (plainFor_of_name (by decide)) (Nat.le_of_ble_eq_true rfl) rfl (fun p e s m below meth c Q ls C hl S hend => ?_)
  have hl : lv_has ls 3 [(0, .ref (G.1 18)), (1, .int (oI v1))] := hl
  refine r_iconst C dX3_areTwoOver_0 ?_
  refine lv_istore_n C.1 C.2.1 dX3_areTwoOver_1 rfl hl (by decide) (lv' := [(2, .int (oI 0)), (0, .ref (G.1 18)), (1, .int (oI v1))]) rfl (fun ls hl => ?_)
  exact b_X3_areTwoOver_b2 C hend FUEL v1 0 S (lv_sub hl [1, 2, 0] rfl) hf
set_option maxRecDepth 100000 in
set_option maxHeartbeats 4000000 in
theorem b_X3_fewestOver_b64 (C : Cx p s m args c RX3 cX3_fewestOver 3) {q : Int} {k12 : Int → Int → Option (Int)} (hend : EndR p l e (rmk 3 62) s m args below meth c Q G true τ cX3_fewestOver .ireturn [.int (oI q)] σ) (hk12 : ∀ {H : Heap} {locs : List Loc} {ls : Array Slot} (v1 : Int) (v2 : Int), St G true τ σ s H locs → lv_has ls 3 [(0, .ref (G.1 18)), (1, .int (oI v1)), (2, .int (oI v2))] → k12 v1 v2 = some q → W p l e (rmk 3 62) s m args below meth c H locs 0 0 Q (F0 m 12 ls [])) {H : Heap} {locs : List Loc} {ls : Array Slot} (v1 : Int) (v2 : Int) (S : St G true τ σ s H locs) (hl : lv_has ls 3 [(0, .ref (G.1 18)), (1, .int (oI v1)), (2, .int (oI v2))]) (hf : f_X3_fewestOver_b64 σ k12 v1 v2 = some q) : W p l e (rmk 3 62) s m args below meth c H locs 0 0 Q (F0 m 64 ls []) := by
  unfold f_X3_fewestOver_b64 at hf
  refine r_iinc C dX3_fewestOver_64 hl (k := 2) rfl (by decide) (lv' := [(2, .int (oI (v2 + 1))), (0, .ref (G.1 18)), (1, .int (oI v1))]) rfl (fun ls hl => ?_)
  refine lv_goto C.1 C.2.1 (tgt := 12) dX3_fewestOver_67 (by decide) ?_
  exact hk12 v1 (v2 + 1) S (lv_sub hl [1, 2, 0] rfl) hf
set_option maxRecDepth 100000 in
set_option maxHeartbeats 4000000 in
theorem b_X3_fewestOver_b124 (C : Cx p s m args c RX3 cX3_fewestOver 3) {q : Int} {k72 : Int → Int → Option (Int)} (hend : EndR p l e (rmk 3 62) s m args below meth c Q G true τ cX3_fewestOver .ireturn [.int (oI q)] σ) (hk72 : ∀ {H : Heap} {locs : List Loc} {ls : Array Slot} (v1 : Int) (v2 : Int), St G true τ σ s H locs → lv_has ls 3 [(0, .ref (G.1 18)), (1, .int (oI v1)), (2, .int (oI v2))] → k72 v1 v2 = some q → W p l e (rmk 3 62) s m args below meth c H locs 0 0 Q (F0 m 72 ls [])) {H : Heap} {locs : List Loc} {ls : Array Slot} (v1 : Int) (v2 : Int) (S : St G true τ σ s H locs) (hl : lv_has ls 3 [(0, .ref (G.1 18)), (1, .int (oI v1)), (2, .int (oI v2))]) (hf : f_X3_fewestOver_b124 σ k72 v1 v2 = some q) : W p l e (rmk 3 62) s m args below meth c H locs 0 0 Q (F0 m 124 ls []) := by
  unfold f_X3_fewestOver_b124 at hf
  refine r_iinc C dX3_fewestOver_124 hl (k := 2) rfl (by decide) (lv' := [(2, .int (oI (v2 + 1))), (0, .ref (G.1 18)), (1, .int (oI v1))]) rfl (fun ls hl => ?_)
  refine lv_goto C.1 C.2.1 (tgt := 72) dX3_fewestOver_127 (by decide) ?_
  exact hk72 v1 (v2 + 1) S (lv_sub hl [1, 2, 0] rfl) hf
set_option maxRecDepth 100000 in
set_option maxHeartbeats 4000000 in
theorem b_X3_fewestOver_b72 (C : Cx p s m args c RX3 cX3_fewestOver 3) {q : Int} (hend : EndR p l e (rmk 3 62) s m args below meth c Q G true τ cX3_fewestOver .ireturn [.int (oI q)] σ) : ∀ (n : Nat) {H : Heap} {locs : List Loc} {ls : Array Slot} (v1 : Int) (v2 : Int) (S : St G true τ σ s H locs) (hl : lv_has ls 3 [(0, .ref (G.1 18)), (1, .int (oI v1)), (2, .int (oI v2))]) (hf : f_X3_fewestOver_b72 σ n v1 v2 = some q), W p l e (rmk 3 62) s m args below meth c H locs 0 0 Q (F0 m 72 ls []) := by
  intro n
  induction n with
  | zero => intro H locs ls v1 v2 S hl hf; cases hf
  | succ n ih =>
    intro H locs ls v1 v2 S hl hf
    have hk72 := @ih
    rw [f_X3_fewestOver_b72] at hf
    refine lv_iload_n C.1 C.2.1 dX3_fewestOver_72 rfl (lv_at hl 2 rfl) ?_
    refine lv_aload_n C.1 C.2.1 dX3_fewestOver_73 rfl (lv_at hl 0 rfl) ?_
    refine g3_size C S tw_244 dX3_fewestOver_74 ?_
    refine r_icmp_ge C rfl rfl (tgt := 130) dX3_fewestOver_77 (by decide) (fun h24 => ?_) (fun h24 => ?_)
    · replace hf := if_t hf h24
      refine lv_iload_n C.1 C.2.1 dX3_fewestOver_80 rfl (lv_at hl 2 rfl) ?_
      refine lv_aload_n C.1 C.2.1 dX3_fewestOver_81 rfl (lv_at hl 0 rfl) ?_
      refine g3_sets C S tw_243 dX3_fewestOver_82 ?_
      refine a_alen C S ar_19 dX3_fewestOver_85 ?_
      refine r_icmp_ge C rfl (show w32 576 = 576 by decide) (tgt := 130) dX3_fewestOver_86 (by decide) (fun h23 => ?_) (fun h23 => ?_)
      · replace hf := if_t hf h23
        refine lv_aload_n C.1 C.2.1 dX3_fewestOver_89 rfl (lv_at hl 0 rfl) ?_
        refine g3_sets C S tw_243 dX3_fewestOver_90 ?_
        refine lv_iload_n C.1 C.2.1 dX3_fewestOver_93 rfl (lv_at hl 2 rfl) ?_
        obtain ⟨hi13, hf⟩ := ck_o hf
        refine a_iald C S ar_19 hi13 dX3_fewestOver_94 ?_
        refine lv_iload_n C.1 C.2.1 dX3_fewestOver_95 rfl (lv_at hl 1 rfl) ?_
        obtain ⟨q14, hc15, hf⟩ := bd_o hf
        refine r_callSv C S (As := [.int (oI v1)]) (rest := [.int (oI (σ 19 (v2).toNat))]) (ct_X3_leastOf l G τ hc15) mi_X3_leastOf tw_872 ms_X3_leastOf ⟨rfl, rfl⟩ ⟨Nat.le_of_ble_eq_true rfl, Nat.le_of_ble_eq_true rfl⟩ ⟨Nat.zero_le _, Nat.zero_le _⟩ rfl hl.1 rfl (Nat.le_of_ble_eq_true rfl) dX3_fewestOver_96 (fun H locs S => ?_)
        obtain ⟨q16, hc17, hf⟩ := bd_o hf
        refine r_callSNv C S (As := [.int (oI (σ 19 (v2).toNat)), .int (oI q14)]) (rest := []) (ct_X9_contains l G τ hc17) mi_X9_contains (nw_876 S.2.2.2) ms_X9_contains ⟨rfl, rfl⟩ ⟨Nat.le_of_ble_eq_true rfl, Nat.le_of_ble_eq_true rfl⟩ ⟨Nat.zero_le _, Nat.zero_le _⟩ rfl hl.1 rfl (Nat.le_of_ble_eq_true rfl) dX3_fewestOver_99 (fun H locs S => ?_)
        refine r_if_eq C rfl (tgt := 124) dX3_fewestOver_102 (by decide) (fun h22 => ?_) (fun h22 => ?_)
        · replace hf := if_t hf h22
          exact b_X3_fewestOver_b124 C hend hk72 v1 v2 S (lv_sub hl [0, 1, 2] rfl) hf
        · replace hf := if_f hf h22
          refine lv_aload_n C.1 C.2.1 dX3_fewestOver_105 rfl (lv_at hl 0 rfl) ?_
          refine lv_iload_n C.1 C.2.1 dX3_fewestOver_106 rfl (lv_at hl 1 rfl) ?_
          refine lv_aload_n C.1 C.2.1 dX3_fewestOver_107 rfl (lv_at hl 0 rfl) ?_
          refine g3_sets C S tw_243 dX3_fewestOver_108 ?_
          refine lv_iload_n C.1 C.2.1 dX3_fewestOver_111 rfl (lv_at hl 2 rfl) ?_
          obtain ⟨hi18, hf⟩ := ck_o hf
          refine a_iald C S ar_19 hi18 dX3_fewestOver_112 ?_
          refine r_iconst C dX3_fewestOver_113 ?_
          refine r_ixor C rfl (show u32 (-1) = 4294967295 by decide) dX3_fewestOver_114 ?_
          refine r_iand C rfl (u32_nat (nb_xor (u32_lt _) (show 4294967295 < 4294967296 by decide))) dX3_fewestOver_115 ?_
          obtain ⟨q19, hc20, hf⟩ := bd_o hf
          refine r_callVv C S (As := [.int (oI ((((u32 v1) &&& ((u32 (σ 19 (v2).toNat)) ^^^ 4294967295) : Nat) : Int)))]) (rest := []) (ct_X3_areTwoOver l G τ hc20) mi_X3_areTwoOver tw_877 mv_X3_areTwoOver (rvX3 S) ⟨rfl, rfl⟩ ⟨Nat.le_of_ble_eq_true rfl, Nat.le_of_ble_eq_true rfl⟩ ⟨Nat.zero_le _, Nat.zero_le _⟩ rfl hl.1 rfl (Nat.le_of_ble_eq_true rfl) dX3_fewestOver_116 (fun H locs S => ?_)
          refine r_if_eq C rfl (tgt := 124) dX3_fewestOver_119 (by decide) (fun h21 => ?_) (fun h21 => ?_)
          · replace hf := if_t hf h21
            exact b_X3_fewestOver_b124 C hend hk72 v1 v2 S (lv_sub hl [0, 1, 2] rfl) hf
          · replace hf := if_f hf h21
            refine r_iconst C dX3_fewestOver_122 ?_
            cases hf
            exact hend _ _ _ _ S dX3_fewestOver_123
      · replace hf := if_f hf h23
        refine r_bipush C dX3_fewestOver_130 (by decide) ?_
        cases hf
        exact hend _ _ _ _ S dX3_fewestOver_132
    · replace hf := if_f hf h24
      refine r_bipush C dX3_fewestOver_130 (by decide) ?_
      cases hf
      exact hend _ _ _ _ S dX3_fewestOver_132
set_option maxRecDepth 100000 in
set_option maxHeartbeats 4000000 in
theorem b_X3_fewestOver_b70 (C : Cx p s m args c RX3 cX3_fewestOver 3) {q : Int} (hend : EndR p l e (rmk 3 62) s m args below meth c Q G true τ cX3_fewestOver .ireturn [.int (oI q)] σ) {H : Heap} {locs : List Loc} {ls : Array Slot} (v1 : Int) (S : St G true τ σ s H locs) (hl : lv_has ls 3 [(0, .ref (G.1 18)), (1, .int (oI v1))]) (hf : f_X3_fewestOver_b70 σ v1 = some q) : W p l e (rmk 3 62) s m args below meth c H locs 0 0 Q (F0 m 70 ls []) := by
  unfold f_X3_fewestOver_b70 at hf
  refine r_iconst C dX3_fewestOver_70 ?_
  refine lv_istore_n C.1 C.2.1 dX3_fewestOver_71 rfl hl (by decide) (lv' := [(2, .int (oI 0)), (0, .ref (G.1 18)), (1, .int (oI v1))]) rfl (fun ls hl => ?_)
  exact b_X3_fewestOver_b72 C hend FUEL v1 0 S (lv_sub hl [1, 2, 0] rfl) hf
set_option maxRecDepth 100000 in
set_option maxHeartbeats 4000000 in
theorem b_X3_fewestOver_b12 (C : Cx p s m args c RX3 cX3_fewestOver 3) {q : Int} (hend : EndR p l e (rmk 3 62) s m args below meth c Q G true τ cX3_fewestOver .ireturn [.int (oI q)] σ) : ∀ (n : Nat) {H : Heap} {locs : List Loc} {ls : Array Slot} (v1 : Int) (v2 : Int) (S : St G true τ σ s H locs) (hl : lv_has ls 3 [(0, .ref (G.1 18)), (1, .int (oI v1)), (2, .int (oI v2))]) (hf : f_X3_fewestOver_b12 σ n v1 v2 = some q), W p l e (rmk 3 62) s m args below meth c H locs 0 0 Q (F0 m 12 ls []) := by
  intro n
  induction n with
  | zero => intro H locs ls v1 v2 S hl hf; cases hf
  | succ n ih =>
    intro H locs ls v1 v2 S hl hf
    have hk12 := @ih
    rw [f_X3_fewestOver_b12] at hf
    refine lv_iload_n C.1 C.2.1 dX3_fewestOver_12 rfl (lv_at hl 2 rfl) ?_
    refine lv_aload_n C.1 C.2.1 dX3_fewestOver_13 rfl (lv_at hl 0 rfl) ?_
    refine g3_size C S tw_244 dX3_fewestOver_14 ?_
    refine r_icmp_ge C rfl rfl (tgt := 70) dX3_fewestOver_17 (by decide) (fun h26 => ?_) (fun h26 => ?_)
    · replace hf := if_t hf h26
      refine lv_iload_n C.1 C.2.1 dX3_fewestOver_20 rfl (lv_at hl 2 rfl) ?_
      refine lv_aload_n C.1 C.2.1 dX3_fewestOver_21 rfl (lv_at hl 0 rfl) ?_
      refine g3_sets C S tw_243 dX3_fewestOver_22 ?_
      refine a_alen C S ar_19 dX3_fewestOver_25 ?_
      refine r_icmp_ge C rfl (show w32 576 = 576 by decide) (tgt := 70) dX3_fewestOver_26 (by decide) (fun h25 => ?_) (fun h25 => ?_)
      · replace hf := if_t hf h25
        refine lv_aload_n C.1 C.2.1 dX3_fewestOver_29 rfl (lv_at hl 0 rfl) ?_
        refine g3_sets C S tw_243 dX3_fewestOver_30 ?_
        refine lv_iload_n C.1 C.2.1 dX3_fewestOver_33 rfl (lv_at hl 2 rfl) ?_
        obtain ⟨hi3, hf⟩ := ck_o hf
        refine a_iald C S ar_19 hi3 dX3_fewestOver_34 ?_
        refine lv_iload_n C.1 C.2.1 dX3_fewestOver_35 rfl (lv_at hl 1 rfl) ?_
        obtain ⟨q4, hc5, hf⟩ := bd_o hf
        refine r_callSv C S (As := [.int (oI v1)]) (rest := [.int (oI (σ 19 (v2).toNat))]) (ct_X3_leastOf l G τ hc5) mi_X3_leastOf tw_872 ms_X3_leastOf ⟨rfl, rfl⟩ ⟨Nat.le_of_ble_eq_true rfl, Nat.le_of_ble_eq_true rfl⟩ ⟨Nat.zero_le _, Nat.zero_le _⟩ rfl hl.1 rfl (Nat.le_of_ble_eq_true rfl) dX3_fewestOver_36 (fun H locs S => ?_)
        obtain ⟨q6, hc7, hf⟩ := bd_o hf
        refine r_callSNv C S (As := [.int (oI (σ 19 (v2).toNat)), .int (oI q4)]) (rest := []) (ct_X9_contains l G τ hc7) mi_X9_contains (nw_876 S.2.2.2) ms_X9_contains ⟨rfl, rfl⟩ ⟨Nat.le_of_ble_eq_true rfl, Nat.le_of_ble_eq_true rfl⟩ ⟨Nat.zero_le _, Nat.zero_le _⟩ rfl hl.1 rfl (Nat.le_of_ble_eq_true rfl) dX3_fewestOver_39 (fun H locs S => ?_)
        refine r_if_eq C rfl (tgt := 64) dX3_fewestOver_42 (by decide) (fun h12 => ?_) (fun h12 => ?_)
        · replace hf := if_t hf h12
          exact b_X3_fewestOver_b64 C hend hk12 v1 v2 S (lv_sub hl [0, 1, 2] rfl) hf
        · replace hf := if_f hf h12
          refine lv_aload_n C.1 C.2.1 dX3_fewestOver_45 rfl (lv_at hl 0 rfl) ?_
          refine lv_iload_n C.1 C.2.1 dX3_fewestOver_46 rfl (lv_at hl 1 rfl) ?_
          refine lv_aload_n C.1 C.2.1 dX3_fewestOver_47 rfl (lv_at hl 0 rfl) ?_
          refine g3_sets C S tw_243 dX3_fewestOver_48 ?_
          refine lv_iload_n C.1 C.2.1 dX3_fewestOver_51 rfl (lv_at hl 2 rfl) ?_
          obtain ⟨hi8, hf⟩ := ck_o hf
          refine a_iald C S ar_19 hi8 dX3_fewestOver_52 ?_
          refine r_iconst C dX3_fewestOver_53 ?_
          refine r_ixor C rfl (show u32 (-1) = 4294967295 by decide) dX3_fewestOver_54 ?_
          refine r_iand C rfl (u32_nat (nb_xor (u32_lt _) (show 4294967295 < 4294967296 by decide))) dX3_fewestOver_55 ?_
          obtain ⟨q9, hc10, hf⟩ := bd_o hf
          refine r_callVv C S (As := [.int (oI ((((u32 v1) &&& ((u32 (σ 19 (v2).toNat)) ^^^ 4294967295) : Nat) : Int)))]) (rest := []) (ct_X3_isOneOver l G τ hc10) mi_X3_isOneOver tw_868 mv_X3_isOneOver (rvX3 S) ⟨rfl, rfl⟩ ⟨Nat.le_of_ble_eq_true rfl, Nat.le_of_ble_eq_true rfl⟩ ⟨Nat.zero_le _, Nat.zero_le _⟩ rfl hl.1 rfl (Nat.le_of_ble_eq_true rfl) dX3_fewestOver_56 (fun H locs S => ?_)
          refine r_if_eq C rfl (tgt := 64) dX3_fewestOver_59 (by decide) (fun h11 => ?_) (fun h11 => ?_)
          · replace hf := if_t hf h11
            exact b_X3_fewestOver_b64 C hend hk12 v1 v2 S (lv_sub hl [0, 1, 2] rfl) hf
          · replace hf := if_f hf h11
            refine r_iconst C dX3_fewestOver_62 ?_
            cases hf
            exact hend _ _ _ _ S dX3_fewestOver_63
      · replace hf := if_f hf h25
        exact b_X3_fewestOver_b70 C hend v1 S (lv_sub hl [0, 1] rfl) hf
    · replace hf := if_f hf h26
      exact b_X3_fewestOver_b70 C hend v1 S (lv_sub hl [0, 1] rfl) hf
set_option maxRecDepth 100000 in
set_option maxHeartbeats 4000000 in
theorem ct_X3_fewestOver (l : Launch) (G : Gd) (τ : Sg) {v1 : Int} {σ : Sg} {q : Int} (hf : f_X3_fewestOver v1 σ = some q) : Ctr l yX3_fewestOver cX3_fewestOver 3 (some .int) (rmk 3 62) G true τ [.ref (G.1 18), .int (oI v1)] σ σ (some (.int (oI q))) := by
  unfold f_X3_fewestOver at hf
  refine CtrI.of (own := RX3) (plainFor_of_name (by decide)) (Nat.le_of_ble_eq_true rfl) rfl (fun p e s m below meth c Q ls C hl S hend => ?_)
  have hl : lv_has ls 3 [(0, .ref (G.1 18)), (1, .int (oI v1))] := hl
  refine lv_aload_n C.1 C.2.1 dX3_fewestOver_0 rfl (lv_at hl 0 rfl) ?_
  refine lv_iload_n C.1 C.2.1 dX3_fewestOver_1 rfl (lv_at hl 1 rfl) ?_
  obtain ⟨q1, hc2, hf⟩ := bd_o hf
  refine r_callVv C S (As := [.int (oI v1)]) (rest := []) (ct_X3_isOneOver l G τ hc2) mi_X3_isOneOver tw_868 mv_X3_isOneOver (rvX3 S) ⟨rfl, rfl⟩ ⟨Nat.le_of_ble_eq_true rfl, Nat.le_of_ble_eq_true rfl⟩ ⟨Nat.zero_le _, Nat.zero_le _⟩ rfl hl.1 rfl (Nat.le_of_ble_eq_true rfl) dX3_fewestOver_2 (fun H locs S => ?_)
  refine r_if_eq C rfl (tgt := 10) dX3_fewestOver_5 (by decide) (fun h27 => ?_) (fun h27 => ?_)
  · replace hf := if_t hf h27
    refine r_iconst C dX3_fewestOver_10 ?_
    refine lv_istore_n C.1 C.2.1 dX3_fewestOver_11 rfl hl (by decide) (lv' := [(2, .int (oI 0)), (0, .ref (G.1 18)), (1, .int (oI v1))]) rfl (fun ls hl => ?_)
    exact b_X3_fewestOver_b12 C hend FUEL v1 0 S (lv_sub hl [1, 2, 0] rfl) hf
  · replace hf := if_f hf h27
    refine r_iconst C dX3_fewestOver_8 ?_
    cases hf
    exact hend _ _ _ _ S dX3_fewestOver_9
set_option maxRecDepth 100000 in
set_option maxHeartbeats 4000000 in
theorem ct_X9_cover (l : Launch) (G : Gd) (τ : Sg) {v1 : Int} {v2 : Int} {σ : Sg} {q : Int × Sg} (hf : f_X9_cover v1 v2 σ = some q) : Ctr l yX9_cover cX9_cover 4 (some .int) (rmk 5 134) G true τ [.ref (G.1 0), .int (oI v1), .int (oI v2)] σ q.2 (some (.int (oI q.1))) := by
  unfold f_X9_cover at hf
  refine CtrI.of (own := RX9) (plainFor_of_name (by decide)) (Nat.le_of_ble_eq_true rfl) rfl (fun p e s m below meth c Q ls C hl S hend => ?_)
  have hl : lv_has ls 4 [(0, .ref (G.1 0)), (1, .int (oI v1)), (2, .int (oI v2))] := hl
  refine lv_iload_n C.1 C.2.1 dX9_cover_0 rfl (lv_at hl 1 rfl) ?_
  obtain ⟨q1, hc2, hf⟩ := bd_o hf
  refine r_callSv C S (As := [.int (oI v1)]) (rest := []) (ct_X9_arePerils l G τ hc2) mi_X9_arePerils tw_631 ms_X9_arePerils ⟨rfl, rfl⟩ ⟨Nat.le_of_ble_eq_true rfl, Nat.le_of_ble_eq_true rfl⟩ ⟨Nat.zero_le _, Nat.zero_le _⟩ rfl hl.1 rfl (Nat.le_of_ble_eq_true rfl) dX9_cover_1 (fun H locs S => ?_)
  refine r_if_eq C rfl (tgt := 14) dX9_cover_4 (by decide) (fun h15 => ?_) (fun h15 => ?_)
  · replace hf := if_t hf h15
    refine r_iconst C dX9_cover_14 ?_
    cases hf
    exact hend _ _ _ _ S dX9_cover_15
  · replace hf := if_f hf h15
    refine lv_iload_n C.1 C.2.1 dX9_cover_7 rfl (lv_at hl 2 rfl) ?_
    obtain ⟨q3, hc4, hf⟩ := bd_o hf
    refine r_callSv C S (As := [.int (oI v2)]) (rest := []) (ct_X9_isRadius l G τ hc4) mi_X9_isRadius tw_634 ms_X9_isRadius ⟨rfl, rfl⟩ ⟨Nat.le_of_ble_eq_true rfl, Nat.le_of_ble_eq_true rfl⟩ ⟨Nat.zero_le _, Nat.zero_le _⟩ rfl hl.1 rfl (Nat.le_of_ble_eq_true rfl) dX9_cover_8 (fun H locs S => ?_)
    refine r_if_ne C rfl (tgt := 16) dX9_cover_11 (by decide) (fun h14 => ?_) (fun h14 => ?_)
    · replace hf := if_t hf h14
      refine r_iconst C dX9_cover_14 ?_
      cases hf
      exact hend _ _ _ _ S dX9_cover_15
    · replace hf := if_f hf h14
      refine lv_aload_n C.1 C.2.1 dX9_cover_16 rfl (lv_at hl 0 rfl) ?_
      refine g9_book C S tw_282 dX9_cover_17 ?_
      refine lv_iload_n C.1 C.2.1 dX9_cover_20 rfl (lv_at hl 1 rfl) ?_
      obtain ⟨q5, hc6, hf⟩ := bd_o hf
      refine r_callVv C S (As := [.int (oI v1)]) (rest := []) (ct_X0_ofPerils l G τ hc6) mi_X0_ofPerils tw_476 mv_X0_ofPerils (rvX0 S) ⟨rfl, rfl⟩ ⟨Nat.le_of_ble_eq_true rfl, Nat.le_of_ble_eq_true rfl⟩ ⟨Nat.zero_le _, Nat.zero_le _⟩ rfl hl.1 rfl (Nat.le_of_ble_eq_true rfl) dX9_cover_21 (fun H locs S => ?_)
      refine lv_istore_n C.1 C.2.1 dX9_cover_24 rfl hl (by decide) (lv' := [(3, .int (oI q5)), (0, .ref (G.1 0)), (1, .int (oI v1)), (2, .int (oI v2))]) rfl (fun ls hl => ?_)
      refine lv_iload_n C.1 C.2.1 dX9_cover_25 rfl (lv_at hl 0 rfl) ?_
      refine r_if_ne C rfl (tgt := 31) dX9_cover_26 (by decide) (fun h13 => ?_) (fun h13 => ?_)
      · replace hf := if_t hf h13
        refine r_iconst C dX9_cover_29 ?_
        cases hf
        exact hend _ _ _ _ S dX9_cover_30
      · replace hf := if_f hf h13
        refine lv_aload_n C.1 C.2.1 dX9_cover_31 rfl (lv_at hl 1 rfl) ?_
        refine g9_discs C S tw_288 dX9_cover_32 ?_
        refine lv_iload_n C.1 C.2.1 dX9_cover_35 rfl (lv_at hl 3 rfl) ?_
        refine lv_iload_n C.1 C.2.1 dX9_cover_36 rfl (lv_at hl 0 rfl) ?_
        obtain ⟨q7, hc8, hf⟩ := bd_o hf
        refine r_callVn C S (As := [.int (oI v2), .int (oI q5)]) (rest := []) (ct_X2_fill l G τ hc8) mi_X2_fill tw_480 mv_X2_fill (rvX2 S (d := 6) (by decide)) ⟨rfl, rfl⟩ ⟨Nat.le_of_ble_eq_true rfl, Nat.le_of_ble_eq_true rfl⟩ ⟨Nat.zero_le _, Nat.zero_le _⟩ rfl hl.1 rfl (Nat.le_of_ble_eq_true rfl) dX9_cover_37 (fun H locs S => ?_)
        refine lv_aload_n C.1 C.2.1 dX9_cover_40 rfl (lv_at hl 1 rfl) ?_
        refine g9_family C S tw_289 dX9_cover_41 ?_
        refine lv_aload_n C.1 C.2.1 dX9_cover_44 rfl (lv_at hl 1 rfl) ?_
        refine g9_discs C S tw_288 dX9_cover_45 ?_
        obtain ⟨q9, hc10, hf⟩ := bd_o hf
        refine r_callVn C S (As := [.ref (G.1 (27 + 6))]) (rest := []) (ct_X3_gather l G τ hc10) mi_X3_gather tw_843 mv_X3_gather (rvX3 S) ⟨rfl, rfl⟩ ⟨Nat.le_of_ble_eq_true rfl, Nat.le_of_ble_eq_true rfl⟩ ⟨Nat.zero_le _, Nat.zero_le _⟩ rfl hl.1 rfl (Nat.le_of_ble_eq_true rfl) dX9_cover_48 (fun H locs S => ?_)
        refine lv_aload_n C.1 C.2.1 dX9_cover_51 rfl (lv_at hl 1 rfl) ?_
        refine g9_family C S tw_289 dX9_cover_52 ?_
        refine lv_iload_n C.1 C.2.1 dX9_cover_55 rfl (lv_at hl 0 rfl) ?_
        obtain ⟨q11, hc12, hf⟩ := bd_o hf
        refine r_callVv C S (As := [.int (oI q5)]) (rest := []) (ct_X3_fewestOver l G τ hc12) mi_X3_fewestOver tw_864 mv_X3_fewestOver (rvX3 S) ⟨rfl, rfl⟩ ⟨Nat.le_of_ble_eq_true rfl, Nat.le_of_ble_eq_true rfl⟩ ⟨Nat.zero_le _, Nat.zero_le _⟩ rfl hl.1 rfl (Nat.le_of_ble_eq_true rfl) dX9_cover_56 (fun H locs S => ?_)
        cases hf
        exact hend _ _ _ _ S dX9_cover_59
set_option maxRecDepth 100000 in
set_option maxHeartbeats 4000000 in
theorem b_X0_inSquare_b78 (C : Cx p s m args c RX0 cX0_inSquare 8) {q : Int} {k6 : Int → Int → Int → Int → Int → Option (Int)} (hend : EndR p l e (rmk 1 21) s m args below meth c Q G true τ cX0_inSquare .ireturn [.int (oI q)] σ) (hk6 : ∀ {H : Heap} {locs : List Loc} {ls : Array Slot} (v1 : Int) (v2 : Int) (v3 : Int) (v4 : Int) (v5 : Int), St G true τ σ s H locs → lv_has ls 8 [(0, .ref (G.1 6)), (1, .int (oI v1)), (2, .int (oI v2)), (3, .int (oI v3)), (4, .int (oI v4)), (5, .int (oI v5))] → k6 v1 v2 v3 v4 v5 = some q → W p l e (rmk 1 21) s m args below meth c H locs 0 0 Q (F0 m 6 ls [])) {H : Heap} {locs : List Loc} {ls : Array Slot} (v1 : Int) (v2 : Int) (v3 : Int) (v4 : Int) (v5 : Int) (S : St G true τ σ s H locs) (hl : lv_has ls 8 [(0, .ref (G.1 6)), (1, .int (oI v1)), (2, .int (oI v2)), (3, .int (oI v3)), (4, .int (oI v4)), (5, .int (oI v5))]) (hf : f_X0_inSquare_b78 σ k6 v1 v2 v3 v4 v5 = some q) : W p l e (rmk 1 21) s m args below meth c H locs 0 0 Q (F0 m 78 ls []) := by
  unfold f_X0_inSquare_b78 at hf
  refine r_iinc C dX0_inSquare_78 hl (k := 5) rfl (by decide) (lv' := [(5, .int (oI (v5 + 1))), (0, .ref (G.1 6)), (1, .int (oI v1)), (2, .int (oI v2)), (3, .int (oI v3)), (4, .int (oI v4))]) rfl (fun ls hl => ?_)
  refine lv_goto C.1 C.2.1 (tgt := 6) dX0_inSquare_81 (by decide) ?_
  exact hk6 v1 v2 v3 v4 (v5 + 1) S (lv_sub hl [1, 2, 3, 4, 5, 0] rfl) hf
set_option maxRecDepth 100000 in
set_option maxHeartbeats 4000000 in
theorem b_X0_inSquare_b6 (C : Cx p s m args c RX0 cX0_inSquare 8) {q : Int} (hend : EndR p l e (rmk 1 21) s m args below meth c Q G true τ cX0_inSquare .ireturn [.int (oI q)] σ) : ∀ (n : Nat) {H : Heap} {locs : List Loc} {ls : Array Slot} (v1 : Int) (v2 : Int) (v3 : Int) (v4 : Int) (v5 : Int) (S : St G true τ σ s H locs) (hl : lv_has ls 8 [(0, .ref (G.1 6)), (1, .int (oI v1)), (2, .int (oI v2)), (3, .int (oI v3)), (4, .int (oI v4)), (5, .int (oI v5))]) (hf : f_X0_inSquare_b6 σ n v1 v2 v3 v4 v5 = some q), W p l e (rmk 1 21) s m args below meth c H locs 0 0 Q (F0 m 6 ls []) := by
  intro n
  induction n with
  | zero => intro H locs ls v1 v2 v3 v4 v5 S hl hf; cases hf
  | succ n ih =>
    intro H locs ls v1 v2 v3 v4 v5 S hl hf
    have hk6 := @ih
    rw [f_X0_inSquare_b6] at hf
    refine lv_iload C.1 C.2.1 dX0_inSquare_6 (lv_at hl 5 rfl) ?_
    refine r_bipush C dX0_inSquare_8 (by decide) ?_
    refine r_icmp_ge C rfl (show w32 24 = 24 by decide) (tgt := 84) dX0_inSquare_10 (by decide) (fun h10 => ?_) (fun h10 => ?_)
    · replace hf := if_t hf h10
      refine lv_aload_n C.1 C.2.1 dX0_inSquare_13 rfl (lv_at hl 0 rfl) ?_
      refine g0_x C S tw_91 dX0_inSquare_14 ?_
      refine lv_iload C.1 C.2.1 dX0_inSquare_17 (lv_at hl 5 rfl) ?_
      obtain ⟨hi1, hf⟩ := ck_o hf
      refine a_iald C S ar_7 hi1 dX0_inSquare_19 ?_
      refine lv_iload_n C.1 C.2.1 dX0_inSquare_20 rfl (lv_at hl 1 rfl) ?_
      refine r_isub C dX0_inSquare_21 ?_
      refine lv_istore C.1 C.2.1 dX0_inSquare_22 hl (by decide) (lv' := [(6, .int (oI ((σ 7 (v5).toNat) - v1))), (0, .ref (G.1 6)), (1, .int (oI v1)), (2, .int (oI v2)), (3, .int (oI v3)), (4, .int (oI v4)), (5, .int (oI v5))]) rfl (fun ls hl => ?_)
      refine lv_aload_n C.1 C.2.1 dX0_inSquare_24 rfl (lv_at hl 1 rfl) ?_
      refine g0_y C S tw_93 dX0_inSquare_25 ?_
      refine lv_iload C.1 C.2.1 dX0_inSquare_28 (lv_at hl 6 rfl) ?_
      obtain ⟨hi2, hf⟩ := ck_o hf
      refine a_iald C S ar_8 hi2 dX0_inSquare_30 ?_
      refine lv_iload_n C.1 C.2.1 dX0_inSquare_31 rfl (lv_at hl 3 rfl) ?_
      refine r_isub C dX0_inSquare_32 ?_
      refine lv_istore C.1 C.2.1 dX0_inSquare_33 hl (by decide) (lv' := [(7, .int (oI ((σ 8 (v5).toNat) - v2))), (6, .int (oI ((σ 7 (v5).toNat) - v1))), (0, .ref (G.1 6)), (1, .int (oI v1)), (2, .int (oI v2)), (3, .int (oI v3)), (4, .int (oI v4)), (5, .int (oI v5))]) rfl (fun ls hl => ?_)
      refine lv_aload_n C.1 C.2.1 dX0_inSquare_35 rfl (lv_at hl 2 rfl) ?_
      refine g0_inForce C S tw_98 dX0_inSquare_36 ?_
      refine lv_iload C.1 C.2.1 dX0_inSquare_39 (lv_at hl 7 rfl) ?_
      obtain ⟨q3, hc4, hf⟩ := bd_o hf
      refine r_callSNv C S (As := [.int (oI (σ 6 5)), .int (oI v5)]) (rest := []) (ct_X9_contains l G τ hc4) mi_X9_contains (nw_461 S.2.2.2) ms_X9_contains ⟨rfl, rfl⟩ ⟨Nat.le_of_ble_eq_true rfl, Nat.le_of_ble_eq_true rfl⟩ ⟨Nat.zero_le _, Nat.zero_le _⟩ rfl hl.1 rfl (Nat.le_of_ble_eq_true rfl) dX0_inSquare_41 (fun H locs S => ?_)
      refine r_if_eq C rfl (tgt := 78) dX0_inSquare_44 (by decide) (fun h9 => ?_) (fun h9 => ?_)
      · replace hf := if_t hf h9
        exact b_X0_inSquare_b78 C hend hk6 v1 v2 v3 v4 v5 S (lv_sub hl [2, 3, 4, 5, 6, 7] rfl) hf
      · replace hf := if_f hf h9
        refine lv_iload C.1 C.2.1 dX0_inSquare_47 (lv_at hl 1 rfl) ?_
        refine r_if_lt C rfl (tgt := 78) dX0_inSquare_49 (by decide) (fun h8 => ?_) (fun h8 => ?_)
        · replace hf := if_t hf h8
          exact b_X0_inSquare_b78 C hend hk6 v1 v2 v3 v4 v5 S (lv_sub hl [2, 3, 4, 5, 6, 7] rfl) hf
        · replace hf := if_f hf h8
          refine lv_iload C.1 C.2.1 dX0_inSquare_52 (lv_at hl 1 rfl) ?_
          refine lv_iload_n C.1 C.2.1 dX0_inSquare_54 rfl (lv_at hl 5 rfl) ?_
          refine r_icmp_gt C rfl rfl (tgt := 78) dX0_inSquare_55 (by decide) (fun h7 => ?_) (fun h7 => ?_)
          · replace hf := if_t hf h7
            refine lv_iload C.1 C.2.1 dX0_inSquare_58 (lv_at hl 0 rfl) ?_
            refine r_if_lt C rfl (tgt := 78) dX0_inSquare_60 (by decide) (fun h6 => ?_) (fun h6 => ?_)
            · replace hf := if_t hf h6
              exact b_X0_inSquare_b78 C hend hk6 v1 v2 v3 v4 v5 S (lv_sub hl [2, 3, 4, 5, 6, 7] rfl) hf
            · replace hf := if_f hf h6
              refine lv_iload C.1 C.2.1 dX0_inSquare_63 (lv_at hl 0 rfl) ?_
              refine lv_iload_n C.1 C.2.1 dX0_inSquare_65 rfl (lv_at hl 5 rfl) ?_
              refine r_icmp_gt C rfl rfl (tgt := 78) dX0_inSquare_66 (by decide) (fun h5 => ?_) (fun h5 => ?_)
              · replace hf := if_t hf h5
                refine lv_iload C.1 C.2.1 dX0_inSquare_69 (lv_at hl 6 rfl) ?_
                refine r_iconst C dX0_inSquare_71 ?_
                refine lv_iload C.1 C.2.1 dX0_inSquare_72 (lv_at hl 7 rfl) ?_
                refine r_ishl C (y1 := (u32 v5 % 32)) rfl dX0_inSquare_74 ?_
                refine r_ior C rfl rfl dX0_inSquare_75 ?_
                refine lv_istore C.1 C.2.1 dX0_inSquare_76 hl (by decide) (lv' := [(4, .int (oI ((((u32 v4) ||| (u32 (1 * ((2 ^ (u32 v5 % 32) : Nat) : Int))) : Nat) : Int)))), (7, .int (oI ((σ 8 (v5).toNat) - v2))), (6, .int (oI ((σ 7 (v5).toNat) - v1))), (0, .ref (G.1 6)), (1, .int (oI v1)), (2, .int (oI v2)), (3, .int (oI v3)), (5, .int (oI v5))]) rfl (fun ls hl => ?_)
                exact b_X0_inSquare_b78 C hend hk6 v1 v2 v3 ((((u32 v4) ||| (u32 (1 * ((2 ^ (u32 v5 % 32) : Nat) : Int))) : Nat) : Int)) v5 S (lv_sub hl [3, 4, 5, 6, 0, 7] rfl) hf
              · replace hf := if_f hf h5
                exact b_X0_inSquare_b78 C hend hk6 v1 v2 v3 v4 v5 S (lv_sub hl [2, 3, 4, 5, 6, 7] rfl) hf
          · replace hf := if_f hf h7
            exact b_X0_inSquare_b78 C hend hk6 v1 v2 v3 v4 v5 S (lv_sub hl [2, 3, 4, 5, 6, 7] rfl) hf
    · replace hf := if_f hf h10
      refine lv_iload C.1 C.2.1 dX0_inSquare_84 (lv_at hl 4 rfl) ?_
      cases hf
      exact hend _ _ _ _ S dX0_inSquare_86
set_option maxRecDepth 100000 in
set_option maxHeartbeats 4000000 in
theorem ct_X0_inSquare (l : Launch) (G : Gd) (τ : Sg) {v1 : Int} {v2 : Int} {v3 : Int} {σ : Sg} {q : Int} (hf : f_X0_inSquare v1 v2 v3 σ = some q) : Ctr l yX0_inSquare cX0_inSquare 8 (some .int) (rmk 1 21) G true τ [.ref (G.1 6), .int (oI v1), .int (oI v2), .int (oI v3)] σ σ (some (.int (oI q))) := by
  unfold f_X0_inSquare at hf
  refine CtrI.of (own := RX0) (plainFor_of_name (by decide)) (Nat.le_of_ble_eq_true rfl) rfl (fun p e s m below meth c Q ls C hl S hend => ?_)
  have hl : lv_has ls 8 [(0, .ref (G.1 6)), (1, .int (oI v1)), (2, .int (oI v2)), (3, .int (oI v3))] := hl
  refine r_iconst C dX0_inSquare_0 ?_
  refine lv_istore C.1 C.2.1 dX0_inSquare_1 hl (by decide) (lv' := [(4, .int (oI 0)), (0, .ref (G.1 6)), (1, .int (oI v1)), (2, .int (oI v2)), (3, .int (oI v3))]) rfl (fun ls hl => ?_)
  refine r_iconst C dX0_inSquare_3 ?_
  refine lv_istore C.1 C.2.1 dX0_inSquare_4 hl (by decide) (lv' := [(5, .int (oI 0)), (4, .int (oI 0)), (0, .ref (G.1 6)), (1, .int (oI v1)), (2, .int (oI v2)), (3, .int (oI v3))]) rfl (fun ls hl => ?_)
  exact b_X0_inSquare_b6 C hend FUEL v1 v2 v3 0 0 S (lv_sub hl [2, 3, 4, 5, 1, 0] rfl) hf
set_option maxRecDepth 100000 in
set_option maxHeartbeats 4000000 in
theorem b_X9_square_b195 (C : Cx p s m args c RX9 cX9_square 14) {q : Int} {k53 : Int → Int → Int → Int → Int → Int → Int → Option (Int)} {k63 : Int → Int → Int → Int → Int → Int → Int → Int → Option (Int)} (hend : EndR p l e (rmk 2 48) s m args below meth c Q G true τ cX9_square .ireturn [.int (oI q)] σ) (hk53 : ∀ {H : Heap} {locs : List Loc} {ls : Array Slot} (v2 : Int) (v3 : Int) (v4 : Int) (v5 : Int) (v6 : Int) (v7 : Int) (v8 : Int), St G true τ σ s H locs → lv_has ls 14 [(0, .ref (G.1 0)), (2, .int (oI v2)), (3, .int (oI v3)), (4, .int (oI v4)), (5, .int (oI v5)), (6, .int (oI v6)), (7, .int (oI v7)), (8, .int (oI v8))] → k53 v2 v3 v4 v5 v6 v7 v8 = some q → W p l e (rmk 2 48) s m args below meth c H locs 0 0 Q (F0 m 53 ls [])) (hk63 : ∀ {H : Heap} {locs : List Loc} {ls : Array Slot} (v2 : Int) (v3 : Int) (v4 : Int) (v5 : Int) (v6 : Int) (v7 : Int) (v8 : Int) (v9 : Int), St G true τ σ s H locs → lv_has ls 14 [(0, .ref (G.1 0)), (2, .int (oI v2)), (3, .int (oI v3)), (4, .int (oI v4)), (5, .int (oI v5)), (6, .int (oI v6)), (7, .int (oI v7)), (8, .int (oI v8)), (9, .int (oI v9))] → k63 v2 v3 v4 v5 v6 v7 v8 v9 = some q → W p l e (rmk 2 48) s m args below meth c H locs 0 0 Q (F0 m 63 ls [])) {H : Heap} {locs : List Loc} {ls : Array Slot} (v2 : Int) (v3 : Int) (v4 : Int) (v5 : Int) (v6 : Int) (v7 : Int) (v8 : Int) (v9 : Int) (S : St G true τ σ s H locs) (hl : lv_has ls 14 [(0, .ref (G.1 0)), (2, .int (oI v2)), (3, .int (oI v3)), (4, .int (oI v4)), (5, .int (oI v5)), (6, .int (oI v6)), (7, .int (oI v7)), (8, .int (oI v8)), (9, .int (oI v9))]) (hf : f_X9_square_b195 σ k53 k63 v2 v3 v4 v5 v6 v7 v8 v9 = some q) : W p l e (rmk 2 48) s m args below meth c H locs 0 0 Q (F0 m 195 ls []) := by
  unfold f_X9_square_b195 at hf
  refine r_iinc C dX9_square_195 hl (k := 8) rfl (by decide) (lv' := [(9, .int (oI (v9 + 1))), (0, .ref (G.1 0)), (2, .int (oI v2)), (3, .int (oI v3)), (4, .int (oI v4)), (5, .int (oI v5)), (6, .int (oI v6)), (7, .int (oI v7)), (8, .int (oI v8))]) rfl (fun ls hl => ?_)
  refine lv_goto C.1 C.2.1 (tgt := 63) dX9_square_198 (by decide) ?_
  exact hk63 v2 v3 v4 v5 v6 v7 v8 (v9 + 1) S (lv_sub hl [1, 2, 3, 4, 5, 6, 7, 8, 0] rfl) hf
set_option maxRecDepth 100000 in
set_option maxHeartbeats 4000000 in
theorem b_X9_square_b183 (C : Cx p s m args c RX9 cX9_square 14) {q : Int} {k53 : Int → Int → Int → Int → Int → Int → Int → Option (Int)} {k63 : Int → Int → Int → Int → Int → Int → Int → Int → Option (Int)} (hend : EndR p l e (rmk 2 48) s m args below meth c Q G true τ cX9_square .ireturn [.int (oI q)] σ) (hk53 : ∀ {H : Heap} {locs : List Loc} {ls : Array Slot} (v2 : Int) (v3 : Int) (v4 : Int) (v5 : Int) (v6 : Int) (v7 : Int) (v8 : Int), St G true τ σ s H locs → lv_has ls 14 [(0, .ref (G.1 0)), (2, .int (oI v2)), (3, .int (oI v3)), (4, .int (oI v4)), (5, .int (oI v5)), (6, .int (oI v6)), (7, .int (oI v7)), (8, .int (oI v8))] → k53 v2 v3 v4 v5 v6 v7 v8 = some q → W p l e (rmk 2 48) s m args below meth c H locs 0 0 Q (F0 m 53 ls [])) (hk63 : ∀ {H : Heap} {locs : List Loc} {ls : Array Slot} (v2 : Int) (v3 : Int) (v4 : Int) (v5 : Int) (v6 : Int) (v7 : Int) (v8 : Int) (v9 : Int), St G true τ σ s H locs → lv_has ls 14 [(0, .ref (G.1 0)), (2, .int (oI v2)), (3, .int (oI v3)), (4, .int (oI v4)), (5, .int (oI v5)), (6, .int (oI v6)), (7, .int (oI v7)), (8, .int (oI v8)), (9, .int (oI v9))] → k63 v2 v3 v4 v5 v6 v7 v8 v9 = some q → W p l e (rmk 2 48) s m args below meth c H locs 0 0 Q (F0 m 63 ls [])) {H : Heap} {locs : List Loc} {ls : Array Slot} (v2 : Int) (v3 : Int) (v4 : Int) (v8 : Int) (v9 : Int) (v10 : Int) (v11 : Int) (v12 : Int) (S : St G true τ σ s H locs) (hl : lv_has ls 14 [(0, .ref (G.1 0)), (2, .int (oI v2)), (3, .int (oI v3)), (4, .int (oI v4)), (8, .int (oI v8)), (9, .int (oI v9)), (10, .int (oI v10)), (11, .int (oI v11)), (12, .int (oI v12))]) (hf : f_X9_square_b183 σ k53 k63 v2 v3 v4 v8 v9 v10 v11 v12 = some q) : W p l e (rmk 2 48) s m args below meth c H locs 0 0 Q (F0 m 183 ls []) := by
  unfold f_X9_square_b183 at hf
  refine lv_iload C.1 C.2.1 dX9_square_183 (lv_at hl 8 rfl) ?_
  refine lv_istore C.1 C.2.1 dX9_square_185 hl (by decide) (lv' := [(5, .int (oI v12)), (0, .ref (G.1 0)), (2, .int (oI v2)), (3, .int (oI v3)), (4, .int (oI v4)), (8, .int (oI v8)), (9, .int (oI v9)), (10, .int (oI v10)), (11, .int (oI v11)), (12, .int (oI v12))]) rfl (fun ls hl => ?_)
  refine lv_iload C.1 C.2.1 dX9_square_187 (lv_at hl 7 rfl) ?_
  refine lv_istore C.1 C.2.1 dX9_square_189 hl (by decide) (lv' := [(6, .int (oI v10)), (5, .int (oI v12)), (0, .ref (G.1 0)), (2, .int (oI v2)), (3, .int (oI v3)), (4, .int (oI v4)), (8, .int (oI v8)), (9, .int (oI v9)), (10, .int (oI v10)), (11, .int (oI v11)), (12, .int (oI v12))]) rfl (fun ls hl => ?_)
  refine lv_iload C.1 C.2.1 dX9_square_191 (lv_at hl 9 rfl) ?_
  refine lv_istore C.1 C.2.1 dX9_square_193 hl (by decide) (lv' := [(7, .int (oI v11)), (6, .int (oI v10)), (5, .int (oI v12)), (0, .ref (G.1 0)), (2, .int (oI v2)), (3, .int (oI v3)), (4, .int (oI v4)), (8, .int (oI v8)), (9, .int (oI v9)), (10, .int (oI v10)), (11, .int (oI v11)), (12, .int (oI v12))]) rfl (fun ls hl => ?_)
  exact b_X9_square_b195 C hend hk53 hk63 v2 v3 v4 v12 v10 v11 v8 v9 S (lv_sub hl [3, 4, 5, 6, 2, 1, 0, 7, 8] rfl) hf
set_option maxRecDepth 100000 in
set_option maxHeartbeats 4000000 in
theorem b_X9_square_b162 (C : Cx p s m args c RX9 cX9_square 14) {q : Int} {k53 : Int → Int → Int → Int → Int → Int → Int → Option (Int)} {k63 : Int → Int → Int → Int → Int → Int → Int → Int → Option (Int)} (hend : EndR p l e (rmk 2 48) s m args below meth c Q G true τ cX9_square .ireturn [.int (oI q)] σ) (hk53 : ∀ {H : Heap} {locs : List Loc} {ls : Array Slot} (v2 : Int) (v3 : Int) (v4 : Int) (v5 : Int) (v6 : Int) (v7 : Int) (v8 : Int), St G true τ σ s H locs → lv_has ls 14 [(0, .ref (G.1 0)), (2, .int (oI v2)), (3, .int (oI v3)), (4, .int (oI v4)), (5, .int (oI v5)), (6, .int (oI v6)), (7, .int (oI v7)), (8, .int (oI v8))] → k53 v2 v3 v4 v5 v6 v7 v8 = some q → W p l e (rmk 2 48) s m args below meth c H locs 0 0 Q (F0 m 53 ls [])) (hk63 : ∀ {H : Heap} {locs : List Loc} {ls : Array Slot} (v2 : Int) (v3 : Int) (v4 : Int) (v5 : Int) (v6 : Int) (v7 : Int) (v8 : Int) (v9 : Int), St G true τ σ s H locs → lv_has ls 14 [(0, .ref (G.1 0)), (2, .int (oI v2)), (3, .int (oI v3)), (4, .int (oI v4)), (5, .int (oI v5)), (6, .int (oI v6)), (7, .int (oI v7)), (8, .int (oI v8)), (9, .int (oI v9))] → k63 v2 v3 v4 v5 v6 v7 v8 v9 = some q → W p l e (rmk 2 48) s m args below meth c H locs 0 0 Q (F0 m 63 ls [])) {H : Heap} {locs : List Loc} {ls : Array Slot} (v2 : Int) (v3 : Int) (v4 : Int) (v5 : Int) (v6 : Int) (v7 : Int) (v8 : Int) (v9 : Int) (v10 : Int) (v11 : Int) (v12 : Int) (w0 : Int) (S : St G true τ σ s H locs) (hl : lv_has ls 14 [(0, .ref (G.1 0)), (2, .int (oI v2)), (3, .int (oI v3)), (4, .int (oI v4)), (5, .int (oI v5)), (6, .int (oI v6)), (7, .int (oI v7)), (8, .int (oI v8)), (9, .int (oI v9)), (10, .int (oI v10)), (11, .int (oI v11)), (12, .int (oI v12))]) (hf : f_X9_square_b162 σ k53 k63 v2 v3 v4 v5 v6 v7 v8 v9 v10 v11 v12 w0 = some q) : W p l e (rmk 2 48) s m args below meth c H locs 0 0 Q (F0 m 162 ls [.int (oI w0)]) := by
  unfold f_X9_square_b162 at hf
  refine lv_istore C.1 C.2.1 dX9_square_162 hl (by decide) (lv' := [(13, .int (oI w0)), (0, .ref (G.1 0)), (2, .int (oI v2)), (3, .int (oI v3)), (4, .int (oI v4)), (5, .int (oI v5)), (6, .int (oI v6)), (7, .int (oI v7)), (8, .int (oI v8)), (9, .int (oI v9)), (10, .int (oI v10)), (11, .int (oI v11)), (12, .int (oI v12))]) rfl (fun ls hl => ?_)
  refine lv_iload C.1 C.2.1 dX9_square_164 (lv_at hl 12 rfl) ?_
  refine lv_iload C.1 C.2.1 dX9_square_166 (lv_at hl 5 rfl) ?_
  refine r_icmp_gt C rfl rfl (tgt := 183) dX9_square_168 (by decide) (fun h19 => ?_) (fun h19 => ?_)
  · replace hf := if_t hf h19
    refine lv_iload C.1 C.2.1 dX9_square_171 (lv_at hl 12 rfl) ?_
    refine lv_iload C.1 C.2.1 dX9_square_173 (lv_at hl 5 rfl) ?_
    refine r_icmp_ne C rfl rfl (tgt := 195) dX9_square_175 (by decide) (fun h18 => ?_) (fun h18 => ?_)
    · replace hf := if_t hf h18
      refine lv_iload C.1 C.2.1 dX9_square_178 (lv_at hl 0 rfl) ?_
      refine r_if_eq C rfl (tgt := 195) dX9_square_180 (by decide) (fun h17 => ?_) (fun h17 => ?_)
      · replace hf := if_t hf h17
        exact b_X9_square_b195 C hend hk53 hk63 v2 v3 v4 v5 v6 v7 v8 v9 S (lv_sub hl [1, 2, 3, 4, 5, 6, 7, 8, 9] rfl) hf
      · replace hf := if_f hf h17
        exact b_X9_square_b183 C hend hk53 hk63 v2 v3 v4 v8 v9 v10 v11 v12 S (lv_sub hl [1, 2, 3, 4, 8, 9, 10, 11, 12] rfl) hf
    · replace hf := if_f hf h18
      exact b_X9_square_b195 C hend hk53 hk63 v2 v3 v4 v5 v6 v7 v8 v9 S (lv_sub hl [1, 2, 3, 4, 5, 6, 7, 8, 9] rfl) hf
  · replace hf := if_f hf h19
    exact b_X9_square_b183 C hend hk53 hk63 v2 v3 v4 v8 v9 v10 v11 v12 S (lv_sub hl [1, 2, 3, 4, 8, 9, 10, 11, 12] rfl) hf
set_option maxRecDepth 100000 in
set_option maxHeartbeats 4000000 in
theorem b_X9_square_b157 (C : Cx p s m args c RX9 cX9_square 14) {q : Int} {k53 : Int → Int → Int → Int → Int → Int → Int → Option (Int)} {k63 : Int → Int → Int → Int → Int → Int → Int → Int → Option (Int)} (hend : EndR p l e (rmk 2 48) s m args below meth c Q G true τ cX9_square .ireturn [.int (oI q)] σ) (hk53 : ∀ {H : Heap} {locs : List Loc} {ls : Array Slot} (v2 : Int) (v3 : Int) (v4 : Int) (v5 : Int) (v6 : Int) (v7 : Int) (v8 : Int), St G true τ σ s H locs → lv_has ls 14 [(0, .ref (G.1 0)), (2, .int (oI v2)), (3, .int (oI v3)), (4, .int (oI v4)), (5, .int (oI v5)), (6, .int (oI v6)), (7, .int (oI v7)), (8, .int (oI v8))] → k53 v2 v3 v4 v5 v6 v7 v8 = some q → W p l e (rmk 2 48) s m args below meth c H locs 0 0 Q (F0 m 53 ls [])) (hk63 : ∀ {H : Heap} {locs : List Loc} {ls : Array Slot} (v2 : Int) (v3 : Int) (v4 : Int) (v5 : Int) (v6 : Int) (v7 : Int) (v8 : Int) (v9 : Int), St G true τ σ s H locs → lv_has ls 14 [(0, .ref (G.1 0)), (2, .int (oI v2)), (3, .int (oI v3)), (4, .int (oI v4)), (5, .int (oI v5)), (6, .int (oI v6)), (7, .int (oI v7)), (8, .int (oI v8)), (9, .int (oI v9))] → k63 v2 v3 v4 v5 v6 v7 v8 v9 = some q → W p l e (rmk 2 48) s m args below meth c H locs 0 0 Q (F0 m 63 ls [])) {H : Heap} {locs : List Loc} {ls : Array Slot} (v2 : Int) (v3 : Int) (v4 : Int) (v5 : Int) (v6 : Int) (v7 : Int) (v8 : Int) (v9 : Int) (v10 : Int) (v11 : Int) (v12 : Int) (S : St G true τ σ s H locs) (hl : lv_has ls 14 [(0, .ref (G.1 0)), (2, .int (oI v2)), (3, .int (oI v3)), (4, .int (oI v4)), (5, .int (oI v5)), (6, .int (oI v6)), (7, .int (oI v7)), (8, .int (oI v8)), (9, .int (oI v9)), (10, .int (oI v10)), (11, .int (oI v11)), (12, .int (oI v12))]) (hf : f_X9_square_b157 σ k53 k63 v2 v3 v4 v5 v6 v7 v8 v9 v10 v11 v12 = some q) : W p l e (rmk 2 48) s m args below meth c H locs 0 0 Q (F0 m 157 ls []) := by
  unfold f_X9_square_b157 at hf
  refine r_iconst C dX9_square_157 ?_
  refine lv_goto C.1 C.2.1 (tgt := 162) dX9_square_158 (by decide) ?_
  exact b_X9_square_b162 C hend hk53 hk63 v2 v3 v4 v5 v6 v7 v8 v9 v10 v11 v12 1 S (lv_sub hl [0, 1, 2, 3, 4, 5, 6, 7, 8, 9, 10, 11] rfl) hf
set_option maxRecDepth 100000 in
set_option maxHeartbeats 4000000 in
theorem b_X9_square_b161 (C : Cx p s m args c RX9 cX9_square 14) {q : Int} {k53 : Int → Int → Int → Int → Int → Int → Int → Option (Int)} {k63 : Int → Int → Int → Int → Int → Int → Int → Int → Option (Int)} (hend : EndR p l e (rmk 2 48) s m args below meth c Q G true τ cX9_square .ireturn [.int (oI q)] σ) (hk53 : ∀ {H : Heap} {locs : List Loc} {ls : Array Slot} (v2 : Int) (v3 : Int) (v4 : Int) (v5 : Int) (v6 : Int) (v7 : Int) (v8 : Int), St G true τ σ s H locs → lv_has ls 14 [(0, .ref (G.1 0)), (2, .int (oI v2)), (3, .int (oI v3)), (4, .int (oI v4)), (5, .int (oI v5)), (6, .int (oI v6)), (7, .int (oI v7)), (8, .int (oI v8))] → k53 v2 v3 v4 v5 v6 v7 v8 = some q → W p l e (rmk 2 48) s m args below meth c H locs 0 0 Q (F0 m 53 ls [])) (hk63 : ∀ {H : Heap} {locs : List Loc} {ls : Array Slot} (v2 : Int) (v3 : Int) (v4 : Int) (v5 : Int) (v6 : Int) (v7 : Int) (v8 : Int) (v9 : Int), St G true τ σ s H locs → lv_has ls 14 [(0, .ref (G.1 0)), (2, .int (oI v2)), (3, .int (oI v3)), (4, .int (oI v4)), (5, .int (oI v5)), (6, .int (oI v6)), (7, .int (oI v7)), (8, .int (oI v8)), (9, .int (oI v9))] → k63 v2 v3 v4 v5 v6 v7 v8 v9 = some q → W p l e (rmk 2 48) s m args below meth c H locs 0 0 Q (F0 m 63 ls [])) {H : Heap} {locs : List Loc} {ls : Array Slot} (v2 : Int) (v3 : Int) (v4 : Int) (v5 : Int) (v6 : Int) (v7 : Int) (v8 : Int) (v9 : Int) (v10 : Int) (v11 : Int) (v12 : Int) (S : St G true τ σ s H locs) (hl : lv_has ls 14 [(0, .ref (G.1 0)), (2, .int (oI v2)), (3, .int (oI v3)), (4, .int (oI v4)), (5, .int (oI v5)), (6, .int (oI v6)), (7, .int (oI v7)), (8, .int (oI v8)), (9, .int (oI v9)), (10, .int (oI v10)), (11, .int (oI v11)), (12, .int (oI v12))]) (hf : f_X9_square_b161 σ k53 k63 v2 v3 v4 v5 v6 v7 v8 v9 v10 v11 v12 = some q) : W p l e (rmk 2 48) s m args below meth c H locs 0 0 Q (F0 m 161 ls []) := by
  unfold f_X9_square_b161 at hf
  refine r_iconst C dX9_square_161 ?_
  exact b_X9_square_b162 C hend hk53 hk63 v2 v3 v4 v5 v6 v7 v8 v9 v10 v11 v12 0 S (lv_sub hl [0, 1, 2, 3, 4, 5, 6, 7, 8, 9, 10, 11] rfl) hf
set_option maxRecDepth 100000 in
set_option maxHeartbeats 4000000 in
theorem b_X9_square_b201 (C : Cx p s m args c RX9 cX9_square 14) {q : Int} {k53 : Int → Int → Int → Int → Int → Int → Int → Option (Int)} (hend : EndR p l e (rmk 2 48) s m args below meth c Q G true τ cX9_square .ireturn [.int (oI q)] σ) (hk53 : ∀ {H : Heap} {locs : List Loc} {ls : Array Slot} (v2 : Int) (v3 : Int) (v4 : Int) (v5 : Int) (v6 : Int) (v7 : Int) (v8 : Int), St G true τ σ s H locs → lv_has ls 14 [(0, .ref (G.1 0)), (2, .int (oI v2)), (3, .int (oI v3)), (4, .int (oI v4)), (5, .int (oI v5)), (6, .int (oI v6)), (7, .int (oI v7)), (8, .int (oI v8))] → k53 v2 v3 v4 v5 v6 v7 v8 = some q → W p l e (rmk 2 48) s m args below meth c H locs 0 0 Q (F0 m 53 ls [])) {H : Heap} {locs : List Loc} {ls : Array Slot} (v2 : Int) (v3 : Int) (v4 : Int) (v5 : Int) (v6 : Int) (v7 : Int) (v8 : Int) (S : St G true τ σ s H locs) (hl : lv_has ls 14 [(0, .ref (G.1 0)), (2, .int (oI v2)), (3, .int (oI v3)), (4, .int (oI v4)), (5, .int (oI v5)), (6, .int (oI v6)), (7, .int (oI v7)), (8, .int (oI v8))]) (hf : f_X9_square_b201 σ k53 v2 v3 v4 v5 v6 v7 v8 = some q) : W p l e (rmk 2 48) s m args below meth c H locs 0 0 Q (F0 m 201 ls []) := by
  unfold f_X9_square_b201 at hf
  refine r_iinc C dX9_square_201 hl (k := 7) rfl (by decide) (lv' := [(8, .int (oI (v8 + 1))), (0, .ref (G.1 0)), (2, .int (oI v2)), (3, .int (oI v3)), (4, .int (oI v4)), (5, .int (oI v5)), (6, .int (oI v6)), (7, .int (oI v7))]) rfl (fun ls hl => ?_)
  refine lv_goto C.1 C.2.1 (tgt := 53) dX9_square_204 (by decide) ?_
  exact hk53 v2 v3 v4 v5 v6 v7 (v8 + 1) S (lv_sub hl [1, 2, 3, 4, 5, 6, 7, 0] rfl) hf
set_option maxRecDepth 100000 in
set_option maxHeartbeats 4000000 in
theorem b_X9_square_b63 (C : Cx p s m args c RX9 cX9_square 14) {q : Int} {k53 : Int → Int → Int → Int → Int → Int → Int → Option (Int)} (hend : EndR p l e (rmk 2 48) s m args below meth c Q G true τ cX9_square .ireturn [.int (oI q)] σ) (hk53 : ∀ {H : Heap} {locs : List Loc} {ls : Array Slot} (v2 : Int) (v3 : Int) (v4 : Int) (v5 : Int) (v6 : Int) (v7 : Int) (v8 : Int), St G true τ σ s H locs → lv_has ls 14 [(0, .ref (G.1 0)), (2, .int (oI v2)), (3, .int (oI v3)), (4, .int (oI v4)), (5, .int (oI v5)), (6, .int (oI v6)), (7, .int (oI v7)), (8, .int (oI v8))] → k53 v2 v3 v4 v5 v6 v7 v8 = some q → W p l e (rmk 2 48) s m args below meth c H locs 0 0 Q (F0 m 53 ls [])) : ∀ (n : Nat) {H : Heap} {locs : List Loc} {ls : Array Slot} (v2 : Int) (v3 : Int) (v4 : Int) (v5 : Int) (v6 : Int) (v7 : Int) (v8 : Int) (v9 : Int) (S : St G true τ σ s H locs) (hl : lv_has ls 14 [(0, .ref (G.1 0)), (2, .int (oI v2)), (3, .int (oI v3)), (4, .int (oI v4)), (5, .int (oI v5)), (6, .int (oI v6)), (7, .int (oI v7)), (8, .int (oI v8)), (9, .int (oI v9))]) (hf : f_X9_square_b63 σ k53 n v2 v3 v4 v5 v6 v7 v8 v9 = some q), W p l e (rmk 2 48) s m args below meth c H locs 0 0 Q (F0 m 63 ls []) := by
  intro n
  induction n with
  | zero => intro H locs ls v2 v3 v4 v5 v6 v7 v8 v9 S hl hf; cases hf
  | succ n ih =>
    intro H locs ls v2 v3 v4 v5 v6 v7 v8 v9 S hl hf
    have hk63 := @ih
    rw [f_X9_square_b63] at hf
    refine lv_iload C.1 C.2.1 dX9_square_63 (lv_at hl 8 rfl) ?_
    refine r_bipush C dX9_square_65 (by decide) ?_
    refine r_icmp_ge C rfl (show w32 24 = 24 by decide) (tgt := 201) dX9_square_67 (by decide) (fun h25 => ?_) (fun h25 => ?_)
    · replace hf := if_t hf h25
      refine lv_iload C.1 C.2.1 dX9_square_70 (lv_at hl 3 rfl) ?_
      refine lv_iload C.1 C.2.1 dX9_square_72 (lv_at hl 7 rfl) ?_
      obtain ⟨q5, hc6, hf⟩ := bd_o hf
      refine r_callSv C S (As := [.int (oI v4), .int (oI v8)]) (rest := []) (ct_X9_contains l G τ hc6) mi_X9_contains tw_661 ms_X9_contains ⟨rfl, rfl⟩ ⟨Nat.le_of_ble_eq_true rfl, Nat.le_of_ble_eq_true rfl⟩ ⟨Nat.zero_le _, Nat.zero_le _⟩ rfl hl.1 rfl (Nat.le_of_ble_eq_true rfl) dX9_square_74 (fun H locs S => ?_)
      refine r_if_eq C rfl (tgt := 195) dX9_square_77 (by decide) (fun h24 => ?_) (fun h24 => ?_)
      · replace hf := if_t hf h24
        exact b_X9_square_b195 C hend hk53 hk63 v2 v3 v4 v5 v6 v7 v8 v9 S (lv_sub hl [0, 1, 2, 3, 4, 5, 6, 7, 8] rfl) hf
      · replace hf := if_f hf h24
        refine lv_iload C.1 C.2.1 dX9_square_80 (lv_at hl 3 rfl) ?_
        refine lv_iload C.1 C.2.1 dX9_square_82 (lv_at hl 8 rfl) ?_
        obtain ⟨q7, hc8, hf⟩ := bd_o hf
        refine r_callSv C S (As := [.int (oI v4), .int (oI v9)]) (rest := []) (ct_X9_contains l G τ hc8) mi_X9_contains tw_661 ms_X9_contains ⟨rfl, rfl⟩ ⟨Nat.le_of_ble_eq_true rfl, Nat.le_of_ble_eq_true rfl⟩ ⟨Nat.zero_le _, Nat.zero_le _⟩ rfl hl.1 rfl (Nat.le_of_ble_eq_true rfl) dX9_square_84 (fun H locs S => ?_)
        refine r_if_eq C rfl (tgt := 195) dX9_square_87 (by decide) (fun h23 => ?_) (fun h23 => ?_)
        · replace hf := if_t hf h23
          exact b_X9_square_b195 C hend hk53 hk63 v2 v3 v4 v5 v6 v7 v8 v9 S (lv_sub hl [0, 1, 2, 3, 4, 5, 6, 7, 8] rfl) hf
        · replace hf := if_f hf h23
          refine lv_aload_n C.1 C.2.1 dX9_square_90 rfl (lv_at hl 0 rfl) ?_
          refine g9_book C S tw_282 dX9_square_91 ?_
          refine lv_iload C.1 C.2.1 dX9_square_94 (lv_at hl 7 rfl) ?_
          obtain ⟨q9, hc10, hf⟩ := bd_o hf
          refine r_callVv C S (As := [.int (oI v8)]) (rest := []) (ct_X0_xOf l G τ hc10) mi_X0_xOf tw_806 mv_X0_xOf (rvX0 S) ⟨rfl, rfl⟩ ⟨Nat.le_of_ble_eq_true rfl, Nat.le_of_ble_eq_true rfl⟩ ⟨Nat.zero_le _, Nat.zero_le _⟩ rfl hl.1 rfl (Nat.le_of_ble_eq_true rfl) dX9_square_96 (fun H locs S => ?_)
          refine lv_istore C.1 C.2.1 dX9_square_99 hl (by decide) (lv' := [(10, .int (oI q9)), (0, .ref (G.1 0)), (2, .int (oI v2)), (3, .int (oI v3)), (4, .int (oI v4)), (5, .int (oI v5)), (6, .int (oI v6)), (7, .int (oI v7)), (8, .int (oI v8)), (9, .int (oI v9))]) rfl (fun ls hl => ?_)
          refine lv_aload_n C.1 C.2.1 dX9_square_101 rfl (lv_at hl 1 rfl) ?_
          refine g9_book C S tw_282 dX9_square_102 ?_
          refine lv_iload C.1 C.2.1 dX9_square_105 (lv_at hl 9 rfl) ?_
          obtain ⟨q11, hc12, hf⟩ := bd_o hf
          refine r_callVv C S (As := [.int (oI v9)]) (rest := []) (ct_X0_yOf l G τ hc12) mi_X0_yOf tw_813 mv_X0_yOf (rvX0 S) ⟨rfl, rfl⟩ ⟨Nat.le_of_ble_eq_true rfl, Nat.le_of_ble_eq_true rfl⟩ ⟨Nat.zero_le _, Nat.zero_le _⟩ rfl hl.1 rfl (Nat.le_of_ble_eq_true rfl) dX9_square_107 (fun H locs S => ?_)
          refine lv_istore C.1 C.2.1 dX9_square_110 hl (by decide) (lv' := [(11, .int (oI q11)), (10, .int (oI q9)), (0, .ref (G.1 0)), (2, .int (oI v2)), (3, .int (oI v3)), (4, .int (oI v4)), (5, .int (oI v5)), (6, .int (oI v6)), (7, .int (oI v7)), (8, .int (oI v8)), (9, .int (oI v9))]) rfl (fun ls hl => ?_)
          refine lv_aload_n C.1 C.2.1 dX9_square_112 rfl (lv_at hl 2 rfl) ?_
          refine g9_book C S tw_282 dX9_square_113 ?_
          refine lv_iload C.1 C.2.1 dX9_square_116 (lv_at hl 5 rfl) ?_
          refine lv_aload_n C.1 C.2.1 dX9_square_118 rfl (lv_at hl 2 rfl) ?_
          refine g9_book C S tw_282 dX9_square_119 ?_
          refine lv_iload C.1 C.2.1 dX9_square_122 (lv_at hl 1 rfl) ?_
          refine lv_iload C.1 C.2.1 dX9_square_124 (lv_at hl 0 rfl) ?_
          refine lv_iload_n C.1 C.2.1 dX9_square_126 rfl (lv_at hl 3 rfl) ?_
          obtain ⟨q13, hc14, hf⟩ := bd_o hf
          refine r_callVv C S (As := [.int (oI q9), .int (oI q11), .int (oI v2)]) (rest := [.int (oI v4), .ref (G.1 6)]) (ct_X0_inSquare l G τ hc14) mi_X0_inSquare tw_885 mv_X0_inSquare (rvX0 S) ⟨rfl, rfl⟩ ⟨Nat.le_of_ble_eq_true rfl, Nat.le_of_ble_eq_true rfl⟩ ⟨Nat.zero_le _, Nat.zero_le _⟩ rfl hl.1 rfl (Nat.le_of_ble_eq_true rfl) dX9_square_127 (fun H locs S => ?_)
          refine r_iand C rfl rfl dX9_square_130 ?_
          obtain ⟨q15, hc16, hf⟩ := bd_o hf
          refine r_callVv C S (As := [.int (oI ((((u32 v4) &&& (u32 q13) : Nat) : Int)))]) (rest := []) (ct_X0_sums l G τ hc16) mi_X0_sums tw_652 mv_X0_sums (rvX0 S) ⟨rfl, rfl⟩ ⟨Nat.le_of_ble_eq_true rfl, Nat.le_of_ble_eq_true rfl⟩ ⟨Nat.zero_le _, Nat.zero_le _⟩ rfl hl.1 rfl (Nat.le_of_ble_eq_true rfl) dX9_square_131 (fun H locs S => ?_)
          refine lv_istore C.1 C.2.1 dX9_square_134 hl (by decide) (lv' := [(12, .int (oI q15)), (11, .int (oI q11)), (10, .int (oI q9)), (0, .ref (G.1 0)), (2, .int (oI v2)), (3, .int (oI v3)), (4, .int (oI v4)), (5, .int (oI v5)), (6, .int (oI v6)), (7, .int (oI v7)), (8, .int (oI v8)), (9, .int (oI v9))]) rfl (fun ls hl => ?_)
          refine lv_iload C.1 C.2.1 dX9_square_136 (lv_at hl 2 rfl) ?_
          refine lv_iload C.1 C.2.1 dX9_square_138 (lv_at hl 8 rfl) ?_
          refine r_icmp_lt C rfl rfl (tgt := 157) dX9_square_140 (by decide) (fun h22 => ?_) (fun h22 => ?_)
          · replace hf := if_t hf h22
            exact b_X9_square_b157 C hend hk53 hk63 v2 v3 v4 v5 v6 v7 v8 v9 q9 q11 q15 S (lv_sub hl [3, 4, 5, 6, 7, 8, 9, 10, 11, 2, 1, 0] rfl) hf
          · replace hf := if_f hf h22
            refine lv_iload C.1 C.2.1 dX9_square_143 (lv_at hl 2 rfl) ?_
            refine lv_iload C.1 C.2.1 dX9_square_145 (lv_at hl 8 rfl) ?_
            refine r_icmp_ne C rfl rfl (tgt := 161) dX9_square_147 (by decide) (fun h21 => ?_) (fun h21 => ?_)
            · replace hf := if_t hf h21
              refine lv_iload C.1 C.2.1 dX9_square_150 (lv_at hl 1 rfl) ?_
              refine lv_iload C.1 C.2.1 dX9_square_152 (lv_at hl 9 rfl) ?_
              refine r_icmp_ge C rfl rfl (tgt := 161) dX9_square_154 (by decide) (fun h20 => ?_) (fun h20 => ?_)
              · replace hf := if_t hf h20
                exact b_X9_square_b157 C hend hk53 hk63 v2 v3 v4 v5 v6 v7 v8 v9 q9 q11 q15 S (lv_sub hl [3, 4, 5, 6, 7, 8, 9, 10, 11, 2, 1, 0] rfl) hf
              · replace hf := if_f hf h20
                exact b_X9_square_b161 C hend hk53 hk63 v2 v3 v4 v5 v6 v7 v8 v9 q9 q11 q15 S (lv_sub hl [3, 4, 5, 6, 7, 8, 9, 10, 11, 2, 1, 0] rfl) hf
            · replace hf := if_f hf h21
              exact b_X9_square_b161 C hend hk53 hk63 v2 v3 v4 v5 v6 v7 v8 v9 q9 q11 q15 S (lv_sub hl [3, 4, 5, 6, 7, 8, 9, 10, 11, 2, 1, 0] rfl) hf
    · replace hf := if_f hf h25
      exact b_X9_square_b201 C hend hk53 v2 v3 v4 v5 v6 v7 v8 S (lv_sub hl [0, 1, 2, 3, 4, 5, 6, 7] rfl) hf
set_option maxRecDepth 100000 in
set_option maxHeartbeats 4000000 in
theorem b_X9_square_b207 (C : Cx p s m args c RX9 cX9_square 14) {q : Int} (hend : EndR p l e (rmk 2 48) s m args below meth c Q G true τ cX9_square .ireturn [.int (oI q)] σ) {H : Heap} {locs : List Loc} {ls : Array Slot} (v3 : Int) (v5 : Int) (v6 : Int) (v7 : Int) (S : St G true τ σ s H locs) (hl : lv_has ls 14 [(3, .int (oI v3)), (5, .int (oI v5)), (6, .int (oI v6)), (7, .int (oI v7))]) (hf : f_X9_square_b207 σ v3 v5 v6 v7 = some q) : W p l e (rmk 2 48) s m args below meth c H locs 0 0 Q (F0 m 207 ls []) := by
  unfold f_X9_square_b207 at hf
  refine lv_iload_n C.1 C.2.1 dX9_square_207 rfl (lv_at hl 0 rfl) ?_
  refine r_if_ne C rfl (tgt := 216) dX9_square_208 (by decide) (fun h27 => ?_) (fun h27 => ?_)
  · replace hf := if_t hf h27
    refine lv_iload C.1 C.2.1 dX9_square_211 (lv_at hl 1 rfl) ?_
    refine lv_goto C.1 C.2.1 (tgt := 228) dX9_square_213 (by decide) ?_
    cases hf
    exact hend _ _ _ _ S dX9_square_228
  · replace hf := if_f hf h27
    refine lv_iload_n C.1 C.2.1 dX9_square_216 rfl (lv_at hl 0 rfl) ?_
    refine r_iconst C dX9_square_217 ?_
    refine r_icmp_ne C rfl (show w32 1 = 1 by decide) (tgt := 226) dX9_square_218 (by decide) (fun h26 => ?_) (fun h26 => ?_)
    · replace hf := if_t hf h26
      refine lv_iload C.1 C.2.1 dX9_square_221 (lv_at hl 2 rfl) ?_
      refine lv_goto C.1 C.2.1 (tgt := 228) dX9_square_223 (by decide) ?_
      cases hf
      exact hend _ _ _ _ S dX9_square_228
    · replace hf := if_f hf h26
      refine lv_iload C.1 C.2.1 dX9_square_226 (lv_at hl 3 rfl) ?_
      cases hf
      exact hend _ _ _ _ S dX9_square_228
set_option maxRecDepth 100000 in
set_option maxHeartbeats 4000000 in
theorem b_X9_square_b53 (C : Cx p s m args c RX9 cX9_square 14) {q : Int} (hend : EndR p l e (rmk 2 48) s m args below meth c Q G true τ cX9_square .ireturn [.int (oI q)] σ) : ∀ (n : Nat) {H : Heap} {locs : List Loc} {ls : Array Slot} (v2 : Int) (v3 : Int) (v4 : Int) (v5 : Int) (v6 : Int) (v7 : Int) (v8 : Int) (S : St G true τ σ s H locs) (hl : lv_has ls 14 [(0, .ref (G.1 0)), (2, .int (oI v2)), (3, .int (oI v3)), (4, .int (oI v4)), (5, .int (oI v5)), (6, .int (oI v6)), (7, .int (oI v7)), (8, .int (oI v8))]) (hf : f_X9_square_b53 σ n v2 v3 v4 v5 v6 v7 v8 = some q), W p l e (rmk 2 48) s m args below meth c H locs 0 0 Q (F0 m 53 ls []) := by
  intro n
  induction n with
  | zero => intro H locs ls v2 v3 v4 v5 v6 v7 v8 S hl hf; cases hf
  | succ n ih =>
    intro H locs ls v2 v3 v4 v5 v6 v7 v8 S hl hf
    have hk53 := @ih
    rw [f_X9_square_b53] at hf
    refine lv_iload C.1 C.2.1 dX9_square_53 (lv_at hl 7 rfl) ?_
    refine r_bipush C dX9_square_55 (by decide) ?_
    refine r_icmp_ge C rfl (show w32 24 = 24 by decide) (tgt := 207) dX9_square_57 (by decide) (fun h28 => ?_) (fun h28 => ?_)
    · replace hf := if_t hf h28
      refine r_iconst C dX9_square_60 ?_
      refine lv_istore C.1 C.2.1 dX9_square_61 hl (by decide) (lv' := [(9, .int (oI 0)), (0, .ref (G.1 0)), (2, .int (oI v2)), (3, .int (oI v3)), (4, .int (oI v4)), (5, .int (oI v5)), (6, .int (oI v6)), (7, .int (oI v7)), (8, .int (oI v8))]) rfl (fun ls hl => ?_)
      exact b_X9_square_b63 C hend hk53 FUEL v2 v3 v4 v5 v6 v7 v8 0 S (lv_sub hl [1, 2, 3, 4, 5, 6, 7, 8, 0] rfl) hf
    · replace hf := if_f hf h28
      exact b_X9_square_b207 C hend v3 v5 v6 v7 S (lv_sub hl [2, 4, 5, 6] rfl) hf
set_option maxRecDepth 100000 in
set_option maxHeartbeats 4000000 in
theorem ct_X9_square (l : Launch) (G : Gd) (τ : Sg) {v1 : Int} {v2 : Int} {v3 : Int} {σ : Sg} {q : Int} (hf : f_X9_square v1 v2 v3 σ = some q) : Ctr l yX9_square cX9_square 14 (some .int) (rmk 2 48) G true τ [.ref (G.1 0), .int (oI v1), .int (oI v2), .int (oI v3)] σ σ (some (.int (oI q))) := by
  unfold f_X9_square at hf
  refine CtrI.of (own := RX9) (plainFor_of_name (by decide)) (Nat.le_of_ble_eq_true rfl) rfl (fun p e s m below meth c Q ls C hl S hend => ?_)
  have hl : lv_has ls 14 [(0, .ref (G.1 0)), (1, .int (oI v1)), (2, .int (oI v2)), (3, .int (oI v3))] := hl
  refine lv_iload_n C.1 C.2.1 dX9_square_0 rfl (lv_at hl 1 rfl) ?_
  obtain ⟨q1, hc2, hf⟩ := bd_o hf
  refine r_callSv C S (As := [.int (oI v1)]) (rest := []) (ct_X9_arePerils l G τ hc2) mi_X9_arePerils tw_631 ms_X9_arePerils ⟨rfl, rfl⟩ ⟨Nat.le_of_ble_eq_true rfl, Nat.le_of_ble_eq_true rfl⟩ ⟨Nat.zero_le _, Nat.zero_le _⟩ rfl hl.1 rfl (Nat.le_of_ble_eq_true rfl) dX9_square_1 (fun H locs S => ?_)
  refine r_if_eq C rfl (tgt := 27) dX9_square_4 (by decide) (fun h33 => ?_) (fun h33 => ?_)
  · replace hf := if_t hf h33
    refine r_iconst C dX9_square_27 ?_
    cases hf
    exact hend _ _ _ _ S dX9_square_28
  · replace hf := if_f hf h33
    refine lv_iload_n C.1 C.2.1 dX9_square_7 rfl (lv_at hl 2 rfl) ?_
    refine r_if_lt C rfl (tgt := 27) dX9_square_8 (by decide) (fun h32 => ?_) (fun h32 => ?_)
    · replace hf := if_t hf h32
      refine r_iconst C dX9_square_27 ?_
      cases hf
      exact hend _ _ _ _ S dX9_square_28
    · replace hf := if_f hf h32
      refine lv_iload_n C.1 C.2.1 dX9_square_11 rfl (lv_at hl 2 rfl) ?_
      refine r_sipush C dX9_square_12 (by decide) ?_
      refine r_icmp_ge C rfl (show w32 300 = 300 by decide) (tgt := 27) dX9_square_15 (by decide) (fun h31 => ?_) (fun h31 => ?_)
      · replace hf := if_t hf h31
        refine lv_iload_n C.1 C.2.1 dX9_square_18 rfl (lv_at hl 3 rfl) ?_
        refine r_if_lt C rfl (tgt := 27) dX9_square_19 (by decide) (fun h30 => ?_) (fun h30 => ?_)
        · replace hf := if_t hf h30
          refine r_iconst C dX9_square_27 ?_
          cases hf
          exact hend _ _ _ _ S dX9_square_28
        · replace hf := if_f hf h30
          refine lv_iload_n C.1 C.2.1 dX9_square_22 rfl (lv_at hl 3 rfl) ?_
          refine r_iconst C dX9_square_23 ?_
          refine r_icmp_le C rfl (show w32 2 = 2 by decide) (tgt := 29) dX9_square_24 (by decide) (fun h29 => ?_) (fun h29 => ?_)
          · replace hf := if_t hf h29
            refine lv_aload_n C.1 C.2.1 dX9_square_29 rfl (lv_at hl 0 rfl) ?_
            refine g9_book C S tw_282 dX9_square_30 ?_
            refine lv_iload_n C.1 C.2.1 dX9_square_33 rfl (lv_at hl 1 rfl) ?_
            obtain ⟨q3, hc4, hf⟩ := bd_o hf
            refine r_callVv C S (As := [.int (oI v1)]) (rest := []) (ct_X0_ofPerils l G τ hc4) mi_X0_ofPerils tw_476 mv_X0_ofPerils (rvX0 S) ⟨rfl, rfl⟩ ⟨Nat.le_of_ble_eq_true rfl, Nat.le_of_ble_eq_true rfl⟩ ⟨Nat.zero_le _, Nat.zero_le _⟩ rfl hl.1 rfl (Nat.le_of_ble_eq_true rfl) dX9_square_34 (fun H locs S => ?_)
            refine lv_istore C.1 C.2.1 dX9_square_37 hl (by decide) (lv' := [(4, .int (oI q3)), (0, .ref (G.1 0)), (1, .int (oI v1)), (2, .int (oI v2)), (3, .int (oI v3))]) rfl (fun ls hl => ?_)
            refine r_iconst C dX9_square_39 ?_
            refine lv_istore C.1 C.2.1 dX9_square_40 hl (by decide) (lv' := [(5, .int (oI 0)), (4, .int (oI q3)), (0, .ref (G.1 0)), (1, .int (oI v1)), (2, .int (oI v2)), (3, .int (oI v3))]) rfl (fun ls hl => ?_)
            refine r_bipush C dX9_square_42 (by decide) ?_
            refine lv_istore C.1 C.2.1 dX9_square_44 hl (by decide) (lv' := [(6, .int (oI ((-2)))), (5, .int (oI 0)), (4, .int (oI q3)), (0, .ref (G.1 0)), (1, .int (oI v1)), (2, .int (oI v2)), (3, .int (oI v3))]) rfl (fun ls hl => ?_)
            refine r_bipush C dX9_square_46 (by decide) ?_
            refine lv_istore C.1 C.2.1 dX9_square_48 hl (by decide) (lv' := [(7, .int (oI ((-2)))), (6, .int (oI ((-2)))), (5, .int (oI 0)), (4, .int (oI q3)), (0, .ref (G.1 0)), (1, .int (oI v1)), (2, .int (oI v2)), (3, .int (oI v3))]) rfl (fun ls hl => ?_)
            refine r_iconst C dX9_square_50 ?_
            refine lv_istore C.1 C.2.1 dX9_square_51 hl (by decide) (lv' := [(8, .int (oI 0)), (7, .int (oI ((-2)))), (6, .int (oI ((-2)))), (5, .int (oI 0)), (4, .int (oI q3)), (0, .ref (G.1 0)), (1, .int (oI v1)), (2, .int (oI v2)), (3, .int (oI v3))]) rfl (fun ls hl => ?_)
            exact b_X9_square_b53 C hend FUEL v2 v3 q3 0 ((-2)) ((-2)) 0 S (lv_sub hl [5, 7, 8, 4, 3, 2, 1, 0] rfl) hf
          · replace hf := if_f hf h29
            refine r_iconst C dX9_square_27 ?_
            cases hf
            exact hend _ _ _ _ S dX9_square_28
      · replace hf := if_f hf h31
        refine r_iconst C dX9_square_27 ?_
        cases hf
        exact hend _ _ _ _ S dX9_square_28
set_option maxRecDepth 100000 in
set_option maxHeartbeats 4000000 in
theorem b_X9_radiusFor_b123 (C : Cx p s m args c RX9 cX9_radiusFor 8) {q : Int × Sg} {k68 : Int → Int → Int → Int → Int → Sg → Option (Int × Sg)} (hend : EndR p l e (rmk 6 156) s m args below meth c Q G true τ cX9_radiusFor .ireturn [.int (oI q.1)] q.2) (hk68 : ∀ {H : Heap} {locs : List Loc} {ls : Array Slot} {σ : Sg} (v2 : Int) (v3 : Int) (v4 : Int) (v5 : Int) (v6 : Int), St G true τ σ s H locs → lv_has ls 8 [(0, .ref (G.1 0)), (2, .int (oI v2)), (3, .int (oI v3)), (4, .int (oI v4)), (5, .int (oI v5)), (6, .int (oI v6))] → k68 v2 v3 v4 v5 v6 σ = some q → W p l e (rmk 6 156) s m args below meth c H locs 0 0 Q (F0 m 68 ls [])) {H : Heap} {locs : List Loc} {ls : Array Slot} {σ : Sg} (v2 : Int) (v3 : Int) (v4 : Int) (v5 : Int) (v6 : Int) (S : St G true τ σ s H locs) (hl : lv_has ls 8 [(0, .ref (G.1 0)), (2, .int (oI v2)), (3, .int (oI v3)), (4, .int (oI v4)), (5, .int (oI v5)), (6, .int (oI v6))]) (hf : f_X9_radiusFor_b123 k68 v2 v3 v4 v5 v6 σ = some q) : W p l e (rmk 6 156) s m args below meth c H locs 0 0 Q (F0 m 123 ls []) := by
  unfold f_X9_radiusFor_b123 at hf
  refine r_iinc C dX9_radiusFor_123 hl (k := 5) rfl (by decide) (lv' := [(6, .int (oI (v6 + 1))), (0, .ref (G.1 0)), (2, .int (oI v2)), (3, .int (oI v3)), (4, .int (oI v4)), (5, .int (oI v5))]) rfl (fun ls hl => ?_)
  refine lv_goto C.1 C.2.1 (tgt := 68) dX9_radiusFor_126 (by decide) ?_
  exact hk68 v2 v3 v4 v5 (v6 + 1) S (lv_sub hl [1, 2, 3, 4, 5, 0] rfl) hf
set_option maxRecDepth 100000 in
set_option maxHeartbeats 4000000 in
theorem b_X9_radiusFor_b68 (C : Cx p s m args c RX9 cX9_radiusFor 8) {q : Int × Sg} (hend : EndR p l e (rmk 6 156) s m args below meth c Q G true τ cX9_radiusFor .ireturn [.int (oI q.1)] q.2) : ∀ (n : Nat) {H : Heap} {locs : List Loc} {ls : Array Slot} {σ : Sg} (v2 : Int) (v3 : Int) (v4 : Int) (v5 : Int) (v6 : Int) (S : St G true τ σ s H locs) (hl : lv_has ls 8 [(0, .ref (G.1 0)), (2, .int (oI v2)), (3, .int (oI v3)), (4, .int (oI v4)), (5, .int (oI v5)), (6, .int (oI v6))]) (hf : f_X9_radiusFor_b68 n v2 v3 v4 v5 v6 σ = some q), W p l e (rmk 6 156) s m args below meth c H locs 0 0 Q (F0 m 68 ls []) := by
  intro n
  induction n with
  | zero => intro H locs ls σ v2 v3 v4 v5 v6 S hl hf; cases hf
  | succ n ih =>
    intro H locs ls σ v2 v3 v4 v5 v6 S hl hf
    have hk68 := @ih
    rw [f_X9_radiusFor_b68] at hf
    refine lv_iload C.1 C.2.1 dX9_radiusFor_68 (lv_at hl 5 rfl) ?_
    refine r_sipush C dX9_radiusFor_70 (by decide) ?_
    refine r_icmp_ge C rfl (show w32 300 = 300 by decide) (tgt := 129) dX9_radiusFor_73 (by decide) (fun h18 => ?_) (fun h18 => ?_)
    · replace hf := if_t hf h18
      refine lv_iload C.1 C.2.1 dX9_radiusFor_76 (lv_at hl 3 rfl) ?_
      refine lv_iload C.1 C.2.1 dX9_radiusFor_78 (lv_at hl 4 rfl) ?_
      refine r_icmp_ge C rfl rfl (tgt := 129) dX9_radiusFor_80 (by decide) (fun h17 => ?_) (fun h17 => ?_)
      · replace hf := if_t hf h17
        refine lv_iload C.1 C.2.1 dX9_radiusFor_83 (lv_at hl 3 rfl) ?_
        refine lv_iload C.1 C.2.1 dX9_radiusFor_85 (lv_at hl 4 rfl) ?_
        refine r_iadd C dX9_radiusFor_87 ?_
        refine r_iconst C dX9_radiusFor_88 ?_
        obtain ⟨hz11, hf⟩ := ck_o hf
        refine r_idiv C hz11 dX9_radiusFor_89 ?_
        refine lv_istore C.1 C.2.1 dX9_radiusFor_90 hl (by decide) (lv' := [(7, .int (oI ((w32 (v4 + v5)).tdiv (w32 2)))), (0, .ref (G.1 0)), (2, .int (oI v2)), (3, .int (oI v3)), (4, .int (oI v4)), (5, .int (oI v5)), (6, .int (oI v6))]) rfl (fun ls hl => ?_)
        refine lv_aload_n C.1 C.2.1 dX9_radiusFor_92 rfl (lv_at hl 1 rfl) ?_
        refine g9_book C S tw_282 dX9_radiusFor_93 ?_
        refine lv_aload_n C.1 C.2.1 dX9_radiusFor_96 rfl (lv_at hl 1 rfl) ?_
        refine lv_iload_n C.1 C.2.1 dX9_radiusFor_97 rfl (lv_at hl 3 rfl) ?_
        refine lv_iload C.1 C.2.1 dX9_radiusFor_98 (lv_at hl 0 rfl) ?_
        obtain ⟨q12, hc13, hf⟩ := bd_o hf
        refine r_callVv C S (As := [.int (oI v3), .int (oI ((w32 (v4 + v5)).tdiv (w32 2)))]) (rest := [.ref (G.1 6)]) (ct_X9_heaviestOf l G τ hc13) mi_X9_heaviestOf tw_830 mv_X9_heaviestOf (rvX9 S) ⟨rfl, rfl⟩ ⟨Nat.le_of_ble_eq_true rfl, Nat.le_of_ble_eq_true rfl⟩ ⟨Nat.zero_le _, Nat.zero_le _⟩ rfl hl.1 rfl (Nat.le_of_ble_eq_true rfl) dX9_radiusFor_100 (fun H locs S => ?_)
        obtain ⟨q14, hc15, hf⟩ := bd_o hf
        refine r_callVv C S (As := [.int (oI q12.1)]) (rest := []) (ct_X0_sums l G τ hc15) mi_X0_sums tw_652 mv_X0_sums (rvX0 S) ⟨rfl, rfl⟩ ⟨Nat.le_of_ble_eq_true rfl, Nat.le_of_ble_eq_true rfl⟩ ⟨Nat.zero_le _, Nat.zero_le _⟩ rfl hl.1 rfl (Nat.le_of_ble_eq_true rfl) dX9_radiusFor_103 (fun H locs S => ?_)
        refine lv_iload_n C.1 C.2.1 dX9_radiusFor_106 rfl (lv_at hl 2 rfl) ?_
        refine r_icmp_lt C rfl rfl (tgt := 117) dX9_radiusFor_107 (by decide) (fun h16 => ?_) (fun h16 => ?_)
        · replace hf := if_t hf h16
          refine lv_iload C.1 C.2.1 dX9_radiusFor_117 (lv_at hl 0 rfl) ?_
          refine r_iconst C dX9_radiusFor_119 ?_
          refine r_iadd C dX9_radiusFor_120 ?_
          refine lv_istore C.1 C.2.1 dX9_radiusFor_121 hl (by decide) (lv' := [(4, .int (oI (((w32 (v4 + v5)).tdiv (w32 2)) + 1))), (7, .int (oI ((w32 (v4 + v5)).tdiv (w32 2)))), (0, .ref (G.1 0)), (2, .int (oI v2)), (3, .int (oI v3)), (5, .int (oI v5)), (6, .int (oI v6))]) rfl (fun ls hl => ?_)
          exact b_X9_radiusFor_b123 C hend hk68 v2 v3 (((w32 (v4 + v5)).tdiv (w32 2)) + 1) v5 v6 S (lv_sub hl [2, 3, 4, 0, 5, 6] rfl) hf
        · replace hf := if_f hf h16
          refine lv_iload C.1 C.2.1 dX9_radiusFor_110 (lv_at hl 0 rfl) ?_
          refine lv_istore C.1 C.2.1 dX9_radiusFor_112 hl (by decide) (lv' := [(5, .int (oI ((w32 (v4 + v5)).tdiv (w32 2)))), (7, .int (oI ((w32 (v4 + v5)).tdiv (w32 2)))), (0, .ref (G.1 0)), (2, .int (oI v2)), (3, .int (oI v3)), (4, .int (oI v4)), (6, .int (oI v6))]) rfl (fun ls hl => ?_)
          refine lv_goto C.1 C.2.1 (tgt := 123) dX9_radiusFor_114 (by decide) ?_
          exact b_X9_radiusFor_b123 C hend hk68 v2 v3 v4 ((w32 (v4 + v5)).tdiv (w32 2)) v6 S (lv_sub hl [2, 3, 4, 5, 0, 6] rfl) hf
      · replace hf := if_f hf h17
        refine lv_iload C.1 C.2.1 dX9_radiusFor_129 (lv_at hl 3 rfl) ?_
        cases hf
        exact hend _ _ _ _ S dX9_radiusFor_131
    · replace hf := if_f hf h18
      refine lv_iload C.1 C.2.1 dX9_radiusFor_129 (lv_at hl 3 rfl) ?_
      cases hf
      exact hend _ _ _ _ S dX9_radiusFor_131
set_option maxRecDepth 100000 in
set_option maxHeartbeats 4000000 in
theorem ct_X9_radiusFor (l : Launch) (G : Gd) (τ : Sg) {v1 : Int} {v2 : Int} {σ : Sg} {q : Int × Sg} (hf : f_X9_radiusFor v1 v2 σ = some q) : Ctr l yX9_radiusFor cX9_radiusFor 8 (some .int) (rmk 6 156) G true τ [.ref (G.1 0), .int (oI v1), .int (oI v2)] σ q.2 (some (.int (oI q.1))) := by
  unfold f_X9_radiusFor at hf
  refine CtrI.of (own := RX9) (plainFor_of_name (by decide)) (Nat.le_of_ble_eq_true rfl) rfl (fun p e s m below meth c Q ls C hl S hend => ?_)
  have hl : lv_has ls 8 [(0, .ref (G.1 0)), (1, .int (oI v1)), (2, .int (oI v2))] := hl
  refine lv_iload_n C.1 C.2.1 dX9_radiusFor_0 rfl (lv_at hl 1 rfl) ?_
  obtain ⟨q1, hc2, hf⟩ := bd_o hf
  refine r_callSv C S (As := [.int (oI v1)]) (rest := []) (ct_X9_arePerils l G τ hc2) mi_X9_arePerils tw_631 ms_X9_arePerils ⟨rfl, rfl⟩ ⟨Nat.le_of_ble_eq_true rfl, Nat.le_of_ble_eq_true rfl⟩ ⟨Nat.zero_le _, Nat.zero_le _⟩ rfl hl.1 rfl (Nat.le_of_ble_eq_true rfl) dX9_radiusFor_1 (fun H locs S => ?_)
  refine r_if_eq C rfl (tgt := 12) dX9_radiusFor_4 (by decide) (fun h22 => ?_) (fun h22 => ?_)
  · replace hf := if_t hf h22
    refine r_iconst C dX9_radiusFor_12 ?_
    cases hf
    exact hend _ _ _ _ S dX9_radiusFor_13
  · replace hf := if_f hf h22
    refine lv_iload_n C.1 C.2.1 dX9_radiusFor_7 rfl (lv_at hl 2 rfl) ?_
    refine r_iconst C dX9_radiusFor_8 ?_
    refine r_icmp_ge C rfl (show w32 1 = 1 by decide) (tgt := 14) dX9_radiusFor_9 (by decide) (fun h21 => ?_) (fun h21 => ?_)
    · replace hf := if_t hf h21
      refine r_iconst C dX9_radiusFor_12 ?_
      cases hf
      exact hend _ _ _ _ S dX9_radiusFor_13
    · replace hf := if_f hf h21
      refine lv_aload_n C.1 C.2.1 dX9_radiusFor_14 rfl (lv_at hl 0 rfl) ?_
      refine g9_book C S tw_282 dX9_radiusFor_15 ?_
      refine lv_iload_n C.1 C.2.1 dX9_radiusFor_18 rfl (lv_at hl 1 rfl) ?_
      obtain ⟨q3, hc4, hf⟩ := bd_o hf
      refine r_callVv C S (As := [.int (oI v1)]) (rest := []) (ct_X0_ofPerils l G τ hc4) mi_X0_ofPerils tw_476 mv_X0_ofPerils (rvX0 S) ⟨rfl, rfl⟩ ⟨Nat.le_of_ble_eq_true rfl, Nat.le_of_ble_eq_true rfl⟩ ⟨Nat.zero_le _, Nat.zero_le _⟩ rfl hl.1 rfl (Nat.le_of_ble_eq_true rfl) dX9_radiusFor_19 (fun H locs S => ?_)
      refine lv_istore_n C.1 C.2.1 dX9_radiusFor_22 rfl hl (by decide) (lv' := [(3, .int (oI q3)), (0, .ref (G.1 0)), (1, .int (oI v1)), (2, .int (oI v2))]) rfl (fun ls hl => ?_)
      refine lv_aload_n C.1 C.2.1 dX9_radiusFor_23 rfl (lv_at hl 1 rfl) ?_
      refine g9_book C S tw_282 dX9_radiusFor_24 ?_
      refine lv_iload_n C.1 C.2.1 dX9_radiusFor_27 rfl (lv_at hl 0 rfl) ?_
      obtain ⟨q5, hc6, hf⟩ := bd_o hf
      refine r_callVv C S (As := [.int (oI q3)]) (rest := []) (ct_X0_sums l G τ hc6) mi_X0_sums tw_652 mv_X0_sums (rvX0 S) ⟨rfl, rfl⟩ ⟨Nat.le_of_ble_eq_true rfl, Nat.le_of_ble_eq_true rfl⟩ ⟨Nat.zero_le _, Nat.zero_le _⟩ rfl hl.1 rfl (Nat.le_of_ble_eq_true rfl) dX9_radiusFor_28 (fun H locs S => ?_)
      refine lv_iload_n C.1 C.2.1 dX9_radiusFor_31 rfl (lv_at hl 3 rfl) ?_
      refine r_icmp_lt C rfl rfl (tgt := 54) dX9_radiusFor_32 (by decide) (fun h20 => ?_) (fun h20 => ?_)
      · replace hf := if_t hf h20
        refine r_bipush C dX9_radiusFor_54 (by decide) ?_
        cases hf
        exact hend _ _ _ _ S dX9_radiusFor_56
      · replace hf := if_f hf h20
        refine lv_aload_n C.1 C.2.1 dX9_radiusFor_35 rfl (lv_at hl 1 rfl) ?_
        refine g9_book C S tw_282 dX9_radiusFor_36 ?_
        refine lv_aload_n C.1 C.2.1 dX9_radiusFor_39 rfl (lv_at hl 1 rfl) ?_
        refine lv_iload_n C.1 C.2.1 dX9_radiusFor_40 rfl (lv_at hl 0 rfl) ?_
        refine r_sipush C dX9_radiusFor_41 (by decide) ?_
        obtain ⟨q7, hc8, hf⟩ := bd_o hf
        refine r_callVv C S (As := [.int (oI q3), .int (oI 300)]) (rest := [.ref (G.1 6)]) (ct_X9_heaviestOf l G τ hc8) mi_X9_heaviestOf tw_830 mv_X9_heaviestOf (rvX9 S) ⟨rfl, rfl⟩ ⟨Nat.le_of_ble_eq_true rfl, Nat.le_of_ble_eq_true rfl⟩ ⟨Nat.zero_le _, Nat.zero_le _⟩ rfl hl.1 rfl (Nat.le_of_ble_eq_true rfl) dX9_radiusFor_44 (fun H locs S => ?_)
        obtain ⟨q9, hc10, hf⟩ := bd_o hf
        refine r_callVv C S (As := [.int (oI q7.1)]) (rest := []) (ct_X0_sums l G τ hc10) mi_X0_sums tw_652 mv_X0_sums (rvX0 S) ⟨rfl, rfl⟩ ⟨Nat.le_of_ble_eq_true rfl, Nat.le_of_ble_eq_true rfl⟩ ⟨Nat.zero_le _, Nat.zero_le _⟩ rfl hl.1 rfl (Nat.le_of_ble_eq_true rfl) dX9_radiusFor_47 (fun H locs S => ?_)
        refine lv_iload_n C.1 C.2.1 dX9_radiusFor_50 rfl (lv_at hl 3 rfl) ?_
        refine r_icmp_ge C rfl rfl (tgt := 57) dX9_radiusFor_51 (by decide) (fun h19 => ?_) (fun h19 => ?_)
        · replace hf := if_t hf h19
          refine r_bipush C dX9_radiusFor_54 (by decide) ?_
          cases hf
          exact hend _ _ _ _ S dX9_radiusFor_56
        · replace hf := if_f hf h19
          refine r_iconst C dX9_radiusFor_57 ?_
          refine lv_istore C.1 C.2.1 dX9_radiusFor_58 hl (by decide) (lv' := [(4, .int (oI 1)), (3, .int (oI q3)), (0, .ref (G.1 0)), (1, .int (oI v1)), (2, .int (oI v2))]) rfl (fun ls hl => ?_)
          refine r_sipush C dX9_radiusFor_60 (by decide) ?_
          refine lv_istore C.1 C.2.1 dX9_radiusFor_63 hl (by decide) (lv' := [(5, .int (oI 300)), (4, .int (oI 1)), (3, .int (oI q3)), (0, .ref (G.1 0)), (1, .int (oI v1)), (2, .int (oI v2))]) rfl (fun ls hl => ?_)
          refine r_iconst C dX9_radiusFor_65 ?_
          refine lv_istore C.1 C.2.1 dX9_radiusFor_66 hl (by decide) (lv' := [(6, .int (oI 0)), (5, .int (oI 300)), (4, .int (oI 1)), (3, .int (oI q3)), (0, .ref (G.1 0)), (1, .int (oI v1)), (2, .int (oI v2))]) rfl (fun ls hl => ?_)
          exact b_X9_radiusFor_b68 C hend FUEL v2 q3 1 300 0 S (lv_sub hl [4, 6, 3, 2, 1, 0] rfl) hf
set_option maxRecDepth 100000 in
set_option maxHeartbeats 4000000 in
theorem ct_X9_together (l : Launch) (G : Gd) (τ : Sg) {v1 : Int} {v2 : Int} {v3 : Int} {σ : Sg} {q : Int} (hf : f_X9_together v1 v2 v3 σ = some q) : Ctr l yX9_together cX9_together 4 (some .int) (rmk 4 88) G true τ [.ref (G.1 0), .int (oI v1), .int (oI v2), .int (oI v3)] σ σ (some (.int (oI q))) := by
  unfold f_X9_together at hf
  refine CtrI.of (own := RX9) (plainFor_of_name (by decide)) (Nat.le_of_ble_eq_true rfl) rfl (fun p e s m below meth c Q ls C hl S hend => ?_)
  have hl : lv_has ls 4 [(0, .ref (G.1 0)), (1, .int (oI v1)), (2, .int (oI v2)), (3, .int (oI v3))] := hl
  refine lv_aload_n C.1 C.2.1 dX9_together_0 rfl (lv_at hl 0 rfl) ?_
  refine g9_book C S tw_282 dX9_together_1 ?_
  refine lv_iload_n C.1 C.2.1 dX9_together_4 rfl (lv_at hl 1 rfl) ?_
  obtain ⟨q1, hc2, hf⟩ := bd_o hf
  refine r_callVv C S (As := [.int (oI v1)]) (rest := []) (ct_X0_has l G τ hc2) mi_X0_has tw_581 mv_X0_has (rvX0 S) ⟨rfl, rfl⟩ ⟨Nat.le_of_ble_eq_true rfl, Nat.le_of_ble_eq_true rfl⟩ ⟨Nat.zero_le _, Nat.zero_le _⟩ rfl hl.1 rfl (Nat.le_of_ble_eq_true rfl) dX9_together_5 (fun H locs S => ?_)
  refine r_if_eq C rfl (tgt := 34) dX9_together_8 (by decide) (fun h13 => ?_) (fun h13 => ?_)
  · replace hf := if_t hf h13
    refine r_iconst C dX9_together_34 ?_
    cases hf
    exact hend _ _ _ _ S dX9_together_35
  · replace hf := if_f hf h13
    refine lv_aload_n C.1 C.2.1 dX9_together_11 rfl (lv_at hl 0 rfl) ?_
    refine g9_book C S tw_282 dX9_together_12 ?_
    refine lv_iload_n C.1 C.2.1 dX9_together_15 rfl (lv_at hl 2 rfl) ?_
    obtain ⟨q3, hc4, hf⟩ := bd_o hf
    refine r_callVv C S (As := [.int (oI v2)]) (rest := []) (ct_X0_has l G τ hc4) mi_X0_has tw_581 mv_X0_has (rvX0 S) ⟨rfl, rfl⟩ ⟨Nat.le_of_ble_eq_true rfl, Nat.le_of_ble_eq_true rfl⟩ ⟨Nat.zero_le _, Nat.zero_le _⟩ rfl hl.1 rfl (Nat.le_of_ble_eq_true rfl) dX9_together_16 (fun H locs S => ?_)
    refine r_if_eq C rfl (tgt := 34) dX9_together_19 (by decide) (fun h12 => ?_) (fun h12 => ?_)
    · replace hf := if_t hf h12
      refine r_iconst C dX9_together_34 ?_
      cases hf
      exact hend _ _ _ _ S dX9_together_35
    · replace hf := if_f hf h12
      refine lv_iload_n C.1 C.2.1 dX9_together_22 rfl (lv_at hl 1 rfl) ?_
      refine lv_iload_n C.1 C.2.1 dX9_together_23 rfl (lv_at hl 2 rfl) ?_
      refine r_icmp_eq C rfl rfl (tgt := 34) dX9_together_24 (by decide) (fun h11 => ?_) (fun h11 => ?_)
      · replace hf := if_t hf h11
        refine r_iconst C dX9_together_34 ?_
        cases hf
        exact hend _ _ _ _ S dX9_together_35
      · replace hf := if_f hf h11
        refine lv_iload_n C.1 C.2.1 dX9_together_27 rfl (lv_at hl 3 rfl) ?_
        obtain ⟨q5, hc6, hf⟩ := bd_o hf
        refine r_callSv C S (As := [.int (oI v3)]) (rest := []) (ct_X9_isRadius l G τ hc6) mi_X9_isRadius tw_634 ms_X9_isRadius ⟨rfl, rfl⟩ ⟨Nat.le_of_ble_eq_true rfl, Nat.le_of_ble_eq_true rfl⟩ ⟨Nat.zero_le _, Nat.zero_le _⟩ rfl hl.1 rfl (Nat.le_of_ble_eq_true rfl) dX9_together_28 (fun H locs S => ?_)
        refine r_if_ne C rfl (tgt := 36) dX9_together_31 (by decide) (fun h10 => ?_) (fun h10 => ?_)
        · replace hf := if_t hf h10
          refine r_iconst C dX9_together_34 ?_
          cases hf
          exact hend _ _ _ _ S dX9_together_35
        · replace hf := if_f hf h10
          refine lv_aload_n C.1 C.2.1 dX9_together_36 rfl (lv_at hl 0 rfl) ?_
          refine g9_book C S tw_282 dX9_together_37 ?_
          refine lv_iload_n C.1 C.2.1 dX9_together_40 rfl (lv_at hl 1 rfl) ?_
          refine lv_iload_n C.1 C.2.1 dX9_together_41 rfl (lv_at hl 2 rfl) ?_
          obtain ⟨q7, hc8, hf⟩ := bd_o hf
          refine r_callVv C S (As := [.int (oI v1), .int (oI v2)]) (rest := []) (ct_X0_between l G τ hc8) mi_X0_between tw_678 mv_X0_between (rvX0 S) ⟨rfl, rfl⟩ ⟨Nat.le_of_ble_eq_true rfl, Nat.le_of_ble_eq_true rfl⟩ ⟨Nat.zero_le _, Nat.zero_le _⟩ rfl hl.1 rfl (Nat.le_of_ble_eq_true rfl) dX9_together_42 (fun H locs S => ?_)
          refine r_iconst C dX9_together_45 ?_
          refine lv_iload_n C.1 C.2.1 dX9_together_46 rfl (lv_at hl 3 rfl) ?_
          refine r_imul C dX9_together_47 ?_
          refine lv_iload_n C.1 C.2.1 dX9_together_48 rfl (lv_at hl 3 rfl) ?_
          refine r_imul C dX9_together_49 ?_
          refine r_icmp_gt C rfl rfl (tgt := 57) dX9_together_50 (by decide) (fun h9 => ?_) (fun h9 => ?_)
          · replace hf := if_t hf h9
            refine r_iconst C dX9_together_53 ?_
            refine lv_goto C.1 C.2.1 (tgt := 58) dX9_together_54 (by decide) ?_
            cases hf
            exact hend _ _ _ _ S dX9_together_58
          · replace hf := if_f hf h9
            refine r_iconst C dX9_together_57 ?_
            cases hf
            exact hend _ _ _ _ S dX9_together_58
set_option maxRecDepth 100000 in
set_option maxHeartbeats 4000000 in
theorem b_X9_nearest_b74 (C : Cx p s m args c RX9 cX9_nearest 6) {q : Int} {k21 : Int → Int → Int → Int → Option (Int)} (hend : EndR p l e (rmk 4 88) s m args below meth c Q G true τ cX9_nearest .ireturn [.int (oI q)] σ) (hk21 : ∀ {H : Heap} {locs : List Loc} {ls : Array Slot} (v1 : Int) (v2 : Int) (v3 : Int) (v4 : Int), St G true τ σ s H locs → lv_has ls 6 [(0, .ref (G.1 0)), (1, .int (oI v1)), (2, .int (oI v2)), (3, .int (oI v3)), (4, .int (oI v4))] → k21 v1 v2 v3 v4 = some q → W p l e (rmk 4 88) s m args below meth c H locs 0 0 Q (F0 m 21 ls [])) {H : Heap} {locs : List Loc} {ls : Array Slot} (v1 : Int) (v2 : Int) (v3 : Int) (v4 : Int) (S : St G true τ σ s H locs) (hl : lv_has ls 6 [(0, .ref (G.1 0)), (1, .int (oI v1)), (2, .int (oI v2)), (3, .int (oI v3)), (4, .int (oI v4))]) (hf : f_X9_nearest_b74 σ k21 v1 v2 v3 v4 = some q) : W p l e (rmk 4 88) s m args below meth c H locs 0 0 Q (F0 m 74 ls []) := by
  unfold f_X9_nearest_b74 at hf
  refine r_iinc C dX9_nearest_74 hl (k := 4) rfl (by decide) (lv' := [(4, .int (oI (v4 + 1))), (0, .ref (G.1 0)), (1, .int (oI v1)), (2, .int (oI v2)), (3, .int (oI v3))]) rfl (fun ls hl => ?_)
  refine lv_goto C.1 C.2.1 (tgt := 21) dX9_nearest_77 (by decide) ?_
  exact hk21 v1 v2 v3 (v4 + 1) S (lv_sub hl [1, 2, 3, 4, 0] rfl) hf
set_option maxRecDepth 100000 in
set_option maxHeartbeats 4000000 in
theorem b_X9_nearest_b68 (C : Cx p s m args c RX9 cX9_nearest 6) {q : Int} {k21 : Int → Int → Int → Int → Option (Int)} (hend : EndR p l e (rmk 4 88) s m args below meth c Q G true τ cX9_nearest .ireturn [.int (oI q)] σ) (hk21 : ∀ {H : Heap} {locs : List Loc} {ls : Array Slot} (v1 : Int) (v2 : Int) (v3 : Int) (v4 : Int), St G true τ σ s H locs → lv_has ls 6 [(0, .ref (G.1 0)), (1, .int (oI v1)), (2, .int (oI v2)), (3, .int (oI v3)), (4, .int (oI v4))] → k21 v1 v2 v3 v4 = some q → W p l e (rmk 4 88) s m args below meth c H locs 0 0 Q (F0 m 21 ls [])) {H : Heap} {locs : List Loc} {ls : Array Slot} (v1 : Int) (v4 : Int) (v5 : Int) (S : St G true τ σ s H locs) (hl : lv_has ls 6 [(0, .ref (G.1 0)), (1, .int (oI v1)), (4, .int (oI v4)), (5, .int (oI v5))]) (hf : f_X9_nearest_b68 σ k21 v1 v4 v5 = some q) : W p l e (rmk 4 88) s m args below meth c H locs 0 0 Q (F0 m 68 ls []) := by
  unfold f_X9_nearest_b68 at hf
  refine lv_iload C.1 C.2.1 dX9_nearest_68 (lv_at hl 2 rfl) ?_
  refine lv_istore_n C.1 C.2.1 dX9_nearest_70 rfl hl (by decide) (lv' := [(2, .int (oI v4)), (0, .ref (G.1 0)), (1, .int (oI v1)), (4, .int (oI v4)), (5, .int (oI v5))]) rfl (fun ls hl => ?_)
  refine lv_iload C.1 C.2.1 dX9_nearest_71 (lv_at hl 4 rfl) ?_
  refine lv_istore_n C.1 C.2.1 dX9_nearest_73 rfl hl (by decide) (lv' := [(3, .int (oI v5)), (2, .int (oI v4)), (0, .ref (G.1 0)), (1, .int (oI v1)), (4, .int (oI v4)), (5, .int (oI v5))]) rfl (fun ls hl => ?_)
  exact b_X9_nearest_b74 C hend hk21 v1 v4 v5 v4 S (lv_sub hl [2, 3, 1, 0, 4] rfl) hf
set_option maxRecDepth 100000 in
set_option maxHeartbeats 4000000 in
theorem b_X9_nearest_b21 (C : Cx p s m args c RX9 cX9_nearest 6) {q : Int} (hend : EndR p l e (rmk 4 88) s m args below meth c Q G true τ cX9_nearest .ireturn [.int (oI q)] σ) : ∀ (n : Nat) {H : Heap} {locs : List Loc} {ls : Array Slot} (v1 : Int) (v2 : Int) (v3 : Int) (v4 : Int) (S : St G true τ σ s H locs) (hl : lv_has ls 6 [(0, .ref (G.1 0)), (1, .int (oI v1)), (2, .int (oI v2)), (3, .int (oI v3)), (4, .int (oI v4))]) (hf : f_X9_nearest_b21 σ n v1 v2 v3 v4 = some q), W p l e (rmk 4 88) s m args below meth c H locs 0 0 Q (F0 m 21 ls []) := by
  intro n
  induction n with
  | zero => intro H locs ls v1 v2 v3 v4 S hl hf; cases hf
  | succ n ih =>
    intro H locs ls v1 v2 v3 v4 S hl hf
    have hk21 := @ih
    rw [f_X9_nearest_b21] at hf
    refine lv_iload C.1 C.2.1 dX9_nearest_21 (lv_at hl 4 rfl) ?_
    refine r_bipush C dX9_nearest_23 (by decide) ?_
    refine r_icmp_ge C rfl (show w32 24 = 24 by decide) (tgt := 80) dX9_nearest_25 (by decide) (fun h11 => ?_) (fun h11 => ?_)
    · replace hf := if_t hf h11
      refine lv_iload C.1 C.2.1 dX9_nearest_28 (lv_at hl 4 rfl) ?_
      refine lv_iload_n C.1 C.2.1 dX9_nearest_30 rfl (lv_at hl 1 rfl) ?_
      refine r_icmp_eq C rfl rfl (tgt := 74) dX9_nearest_31 (by decide) (fun h10 => ?_) (fun h10 => ?_)
      · replace hf := if_t hf h10
        exact b_X9_nearest_b74 C hend hk21 v1 v2 v3 v4 S (lv_sub hl [0, 1, 2, 3, 4] rfl) hf
      · replace hf := if_f hf h10
        refine lv_aload_n C.1 C.2.1 dX9_nearest_34 rfl (lv_at hl 0 rfl) ?_
        refine g9_book C S tw_282 dX9_nearest_35 ?_
        refine lv_iload C.1 C.2.1 dX9_nearest_38 (lv_at hl 4 rfl) ?_
        obtain ⟨q3, hc4, hf⟩ := bd_o hf
        refine r_callVv C S (As := [.int (oI v4)]) (rest := []) (ct_X0_has l G τ hc4) mi_X0_has tw_581 mv_X0_has (rvX0 S) ⟨rfl, rfl⟩ ⟨Nat.le_of_ble_eq_true rfl, Nat.le_of_ble_eq_true rfl⟩ ⟨Nat.zero_le _, Nat.zero_le _⟩ rfl hl.1 rfl (Nat.le_of_ble_eq_true rfl) dX9_nearest_40 (fun H locs S => ?_)
        refine r_if_eq C rfl (tgt := 74) dX9_nearest_43 (by decide) (fun h9 => ?_) (fun h9 => ?_)
        · replace hf := if_t hf h9
          exact b_X9_nearest_b74 C hend hk21 v1 v2 v3 v4 S (lv_sub hl [0, 1, 2, 3, 4] rfl) hf
        · replace hf := if_f hf h9
          refine lv_aload_n C.1 C.2.1 dX9_nearest_46 rfl (lv_at hl 0 rfl) ?_
          refine g9_book C S tw_282 dX9_nearest_47 ?_
          refine lv_iload_n C.1 C.2.1 dX9_nearest_50 rfl (lv_at hl 1 rfl) ?_
          refine lv_iload C.1 C.2.1 dX9_nearest_51 (lv_at hl 4 rfl) ?_
          obtain ⟨q5, hc6, hf⟩ := bd_o hf
          refine r_callVv C S (As := [.int (oI v1), .int (oI v4)]) (rest := []) (ct_X0_between l G τ hc6) mi_X0_between tw_678 mv_X0_between (rvX0 S) ⟨rfl, rfl⟩ ⟨Nat.le_of_ble_eq_true rfl, Nat.le_of_ble_eq_true rfl⟩ ⟨Nat.zero_le _, Nat.zero_le _⟩ rfl hl.1 rfl (Nat.le_of_ble_eq_true rfl) dX9_nearest_53 (fun H locs S => ?_)
          refine lv_istore C.1 C.2.1 dX9_nearest_56 hl (by decide) (lv' := [(5, .int (oI q5)), (0, .ref (G.1 0)), (1, .int (oI v1)), (2, .int (oI v2)), (3, .int (oI v3)), (4, .int (oI v4))]) rfl (fun ls hl => ?_)
          refine lv_iload_n C.1 C.2.1 dX9_nearest_58 rfl (lv_at hl 3 rfl) ?_
          refine r_if_lt C rfl (tgt := 68) dX9_nearest_59 (by decide) (fun h8 => ?_) (fun h8 => ?_)
          · replace hf := if_t hf h8
            exact b_X9_nearest_b68 C hend hk21 v1 v4 q5 S (lv_sub hl [1, 2, 5, 0] rfl) hf
          · replace hf := if_f hf h8
            refine lv_iload C.1 C.2.1 dX9_nearest_62 (lv_at hl 0 rfl) ?_
            refine lv_iload_n C.1 C.2.1 dX9_nearest_64 rfl (lv_at hl 4 rfl) ?_
            refine r_icmp_ge C rfl rfl (tgt := 74) dX9_nearest_65 (by decide) (fun h7 => ?_) (fun h7 => ?_)
            · replace hf := if_t hf h7
              exact b_X9_nearest_b68 C hend hk21 v1 v4 q5 S (lv_sub hl [1, 2, 5, 0] rfl) hf
            · replace hf := if_f hf h7
              exact b_X9_nearest_b74 C hend hk21 v1 v2 v3 v4 S (lv_sub hl [1, 2, 3, 4, 5] rfl) hf
    · replace hf := if_f hf h11
      refine lv_iload_n C.1 C.2.1 dX9_nearest_80 rfl (lv_at hl 2 rfl) ?_
      cases hf
      exact hend _ _ _ _ S dX9_nearest_81
set_option maxRecDepth 100000 in
set_option maxHeartbeats 4000000 in
theorem ct_X9_nearest (l : Launch) (G : Gd) (τ : Sg) {v1 : Int} {σ : Sg} {q : Int} (hf : f_X9_nearest v1 σ = some q) : Ctr l yX9_nearest cX9_nearest 6 (some .int) (rmk 4 88) G true τ [.ref (G.1 0), .int (oI v1)] σ σ (some (.int (oI q))) := by
  unfold f_X9_nearest at hf
  refine CtrI.of (own := RX9) (plainFor_of_name (by decide)) (Nat.le_of_ble_eq_true rfl) rfl (fun p e s m below meth c Q ls C hl S hend => ?_)
  have hl : lv_has ls 6 [(0, .ref (G.1 0)), (1, .int (oI v1))] := hl
  refine lv_aload_n C.1 C.2.1 dX9_nearest_0 rfl (lv_at hl 0 rfl) ?_
  refine g9_book C S tw_282 dX9_nearest_1 ?_
  refine lv_iload_n C.1 C.2.1 dX9_nearest_4 rfl (lv_at hl 1 rfl) ?_
  obtain ⟨q1, hc2, hf⟩ := bd_o hf
  refine r_callVv C S (As := [.int (oI v1)]) (rest := []) (ct_X0_has l G τ hc2) mi_X0_has tw_581 mv_X0_has (rvX0 S) ⟨rfl, rfl⟩ ⟨Nat.le_of_ble_eq_true rfl, Nat.le_of_ble_eq_true rfl⟩ ⟨Nat.zero_le _, Nat.zero_le _⟩ rfl hl.1 rfl (Nat.le_of_ble_eq_true rfl) dX9_nearest_5 (fun H locs S => ?_)
  refine r_if_ne C rfl (tgt := 13) dX9_nearest_8 (by decide) (fun h12 => ?_) (fun h12 => ?_)
  · replace hf := if_t hf h12
    refine r_iconst C dX9_nearest_11 ?_
    cases hf
    exact hend _ _ _ _ S dX9_nearest_12
  · replace hf := if_f hf h12
    refine r_bipush C dX9_nearest_13 (by decide) ?_
    refine lv_istore_n C.1 C.2.1 dX9_nearest_15 rfl hl (by decide) (lv' := [(2, .int (oI ((-2)))), (0, .ref (G.1 0)), (1, .int (oI v1))]) rfl (fun ls hl => ?_)
    refine r_iconst C dX9_nearest_16 ?_
    refine lv_istore_n C.1 C.2.1 dX9_nearest_17 rfl hl (by decide) (lv' := [(3, .int (oI 0)), (2, .int (oI ((-2)))), (0, .ref (G.1 0)), (1, .int (oI v1))]) rfl (fun ls hl => ?_)
    refine r_iconst C dX9_nearest_18 ?_
    refine lv_istore C.1 C.2.1 dX9_nearest_19 hl (by decide) (lv' := [(4, .int (oI 0)), (3, .int (oI 0)), (2, .int (oI ((-2)))), (0, .ref (G.1 0)), (1, .int (oI v1))]) rfl (fun ls hl => ?_)
    exact b_X9_nearest_b21 C hend FUEL v1 ((-2)) 0 0 S (lv_sub hl [3, 4, 2, 1, 0] rfl) hf
set_option maxRecDepth 100000 in
set_option maxHeartbeats 4000000 in
theorem b_X9_couples_b62 (C : Cx p s m args c RX9 cX9_couples 4) {q : Int} {k13 : Int → Int → Int → Option (Int)} (hend : EndR p l e (rmk 2 48) s m args below meth c Q G true τ cX9_couples .ireturn [.int (oI q)] σ) (hk13 : ∀ {H : Heap} {locs : List Loc} {ls : Array Slot} (v1 : Int) (v2 : Int) (v3 : Int), St G true τ σ s H locs → lv_has ls 4 [(0, .ref (G.1 0)), (1, .int (oI v1)), (2, .int (oI v2)), (3, .int (oI v3))] → k13 v1 v2 v3 = some q → W p l e (rmk 2 48) s m args below meth c H locs 0 0 Q (F0 m 13 ls [])) {H : Heap} {locs : List Loc} {ls : Array Slot} (v1 : Int) (v2 : Int) (v3 : Int) (S : St G true τ σ s H locs) (hl : lv_has ls 4 [(0, .ref (G.1 0)), (1, .int (oI v1)), (2, .int (oI v2)), (3, .int (oI v3))]) (hf : f_X9_couples_b62 σ k13 v1 v2 v3 = some q) : W p l e (rmk 2 48) s m args below meth c H locs 0 0 Q (F0 m 62 ls []) := by
  unfold f_X9_couples_b62 at hf
  refine r_iinc C dX9_couples_62 hl (k := 3) rfl (by decide) (lv' := [(3, .int (oI (v3 + 1))), (0, .ref (G.1 0)), (1, .int (oI v1)), (2, .int (oI v2))]) rfl (fun ls hl => ?_)
  refine lv_goto C.1 C.2.1 (tgt := 13) dX9_couples_65 (by decide) ?_
  exact hk13 v1 v2 (v3 + 1) S (lv_sub hl [1, 2, 3, 0] rfl) hf
set_option maxRecDepth 100000 in
set_option maxHeartbeats 4000000 in
theorem b_X9_couples_b68 (C : Cx p s m args c RX9 cX9_couples 4) {q : Int} (hend : EndR p l e (rmk 2 48) s m args below meth c Q G true τ cX9_couples .ireturn [.int (oI q)] σ) {H : Heap} {locs : List Loc} {ls : Array Slot} (v2 : Int) (S : St G true τ σ s H locs) (hl : lv_has ls 4 [(2, .int (oI v2))]) (hf : f_X9_couples_b68 σ v2 = some q) : W p l e (rmk 2 48) s m args below meth c H locs 0 0 Q (F0 m 68 ls []) := by
  unfold f_X9_couples_b68 at hf
  refine lv_iload_n C.1 C.2.1 dX9_couples_68 rfl (lv_at hl 0 rfl) ?_
  refine r_iconst C dX9_couples_69 ?_
  obtain ⟨hz14, hf⟩ := ck_o hf
  refine r_idiv C hz14 dX9_couples_70 ?_
  cases hf
  exact hend _ _ _ _ S dX9_couples_71
set_option maxRecDepth 100000 in
set_option maxHeartbeats 4000000 in
theorem b_X9_couples_b13 (C : Cx p s m args c RX9 cX9_couples 4) {q : Int} (hend : EndR p l e (rmk 2 48) s m args below meth c Q G true τ cX9_couples .ireturn [.int (oI q)] σ) : ∀ (n : Nat) {H : Heap} {locs : List Loc} {ls : Array Slot} (v1 : Int) (v2 : Int) (v3 : Int) (S : St G true τ σ s H locs) (hl : lv_has ls 4 [(0, .ref (G.1 0)), (1, .int (oI v1)), (2, .int (oI v2)), (3, .int (oI v3))]) (hf : f_X9_couples_b13 σ n v1 v2 v3 = some q), W p l e (rmk 2 48) s m args below meth c H locs 0 0 Q (F0 m 13 ls []) := by
  intro n
  induction n with
  | zero => intro H locs ls v1 v2 v3 S hl hf; cases hf
  | succ n ih =>
    intro H locs ls v1 v2 v3 S hl hf
    have hk13 := @ih
    rw [f_X9_couples_b13] at hf
    refine lv_iload_n C.1 C.2.1 dX9_couples_13 rfl (lv_at hl 3 rfl) ?_
    refine r_bipush C dX9_couples_14 (by decide) ?_
    refine r_icmp_ge C rfl (show w32 24 = 24 by decide) (tgt := 68) dX9_couples_16 (by decide) (fun h15 => ?_) (fun h15 => ?_)
    · replace hf := if_t hf h15
      refine lv_aload_n C.1 C.2.1 dX9_couples_19 rfl (lv_at hl 0 rfl) ?_
      refine g9_book C S tw_282 dX9_couples_20 ?_
      refine lv_iload_n C.1 C.2.1 dX9_couples_23 rfl (lv_at hl 3 rfl) ?_
      obtain ⟨q3, hc4, hf⟩ := bd_o hf
      refine r_callVv C S (As := [.int (oI v3)]) (rest := []) (ct_X0_has l G τ hc4) mi_X0_has tw_581 mv_X0_has (rvX0 S) ⟨rfl, rfl⟩ ⟨Nat.le_of_ble_eq_true rfl, Nat.le_of_ble_eq_true rfl⟩ ⟨Nat.zero_le _, Nat.zero_le _⟩ rfl hl.1 rfl (Nat.le_of_ble_eq_true rfl) dX9_couples_24 (fun H locs S => ?_)
      refine r_if_eq C rfl (tgt := 62) dX9_couples_27 (by decide) (fun h13 => ?_) (fun h13 => ?_)
      · replace hf := if_t hf h13
        exact b_X9_couples_b62 C hend hk13 v1 v2 v3 S (lv_sub hl [0, 1, 2, 3] rfl) hf
      · replace hf := if_f hf h13
        refine lv_iload_n C.1 C.2.1 dX9_couples_30 rfl (lv_at hl 2 rfl) ?_
        refine lv_aload_n C.1 C.2.1 dX9_couples_31 rfl (lv_at hl 0 rfl) ?_
        refine g9_book C S tw_282 dX9_couples_32 ?_
        refine lv_aload_n C.1 C.2.1 dX9_couples_35 rfl (lv_at hl 0 rfl) ?_
        refine g9_book C S tw_282 dX9_couples_36 ?_
        refine lv_iload_n C.1 C.2.1 dX9_couples_39 rfl (lv_at hl 3 rfl) ?_
        obtain ⟨q5, hc6, hf⟩ := bd_o hf
        refine r_callVv C S (As := [.int (oI v3)]) (rest := [.ref (G.1 6), .int (oI v2)]) (ct_X0_xOf l G τ hc6) mi_X0_xOf tw_806 mv_X0_xOf (rvX0 S) ⟨rfl, rfl⟩ ⟨Nat.le_of_ble_eq_true rfl, Nat.le_of_ble_eq_true rfl⟩ ⟨Nat.zero_le _, Nat.zero_le _⟩ rfl hl.1 rfl (Nat.le_of_ble_eq_true rfl) dX9_couples_40 (fun H locs S => ?_)
        refine lv_aload_n C.1 C.2.1 dX9_couples_43 rfl (lv_at hl 0 rfl) ?_
        refine g9_book C S tw_282 dX9_couples_44 ?_
        refine lv_iload_n C.1 C.2.1 dX9_couples_47 rfl (lv_at hl 3 rfl) ?_
        obtain ⟨q7, hc8, hf⟩ := bd_o hf
        refine r_callVv C S (As := [.int (oI v3)]) (rest := [.int (oI q5), .ref (G.1 6), .int (oI v2)]) (ct_X0_yOf l G τ hc8) mi_X0_yOf tw_813 mv_X0_yOf (rvX0 S) ⟨rfl, rfl⟩ ⟨Nat.le_of_ble_eq_true rfl, Nat.le_of_ble_eq_true rfl⟩ ⟨Nat.zero_le _, Nat.zero_le _⟩ rfl hl.1 rfl (Nat.le_of_ble_eq_true rfl) dX9_couples_48 (fun H locs S => ?_)
        refine lv_iload_n C.1 C.2.1 dX9_couples_51 rfl (lv_at hl 1 rfl) ?_
        obtain ⟨q9, hc10, hf⟩ := bd_o hf
        refine r_callVv C S (As := [.int (oI q5), .int (oI q7), .int (oI v1)]) (rest := [.int (oI v2)]) (ct_X0_within l G τ hc10) mi_X0_within tw_825 mv_X0_within (rvX0 S) ⟨rfl, rfl⟩ ⟨Nat.le_of_ble_eq_true rfl, Nat.le_of_ble_eq_true rfl⟩ ⟨Nat.zero_le _, Nat.zero_le _⟩ rfl hl.1 rfl (Nat.le_of_ble_eq_true rfl) dX9_couples_52 (fun H locs S => ?_)
        obtain ⟨q11, hc12, hf⟩ := bd_o hf
        refine r_callSv C S (As := [.int (oI q9)]) (rest := [.int (oI v2)]) (ct_J6_bitCount_0f7a4 l G τ hc12) mi_J6_bitCount_0f7a4 tw_646 ms_J6_bitCount_0f7a4 ⟨rfl, rfl⟩ ⟨Nat.le_of_ble_eq_true rfl, Nat.le_of_ble_eq_true rfl⟩ ⟨Nat.zero_le _, Nat.zero_le _⟩ rfl hl.1 rfl (Nat.le_of_ble_eq_true rfl) dX9_couples_55 (fun H locs S => ?_)
        refine r_iconst C dX9_couples_58 ?_
        refine r_isub C dX9_couples_59 ?_
        refine r_iadd C dX9_couples_60 ?_
        refine lv_istore_n C.1 C.2.1 dX9_couples_61 rfl hl (by decide) (lv' := [(2, .int (oI (v2 + (q11 - 1)))), (0, .ref (G.1 0)), (1, .int (oI v1)), (3, .int (oI v3))]) rfl (fun ls hl => ?_)
        exact b_X9_couples_b62 C hend hk13 v1 (v2 + (q11 - 1)) v3 S (lv_sub hl [1, 2, 0, 3] rfl) hf
    · replace hf := if_f hf h15
      exact b_X9_couples_b68 C hend v2 S (lv_sub hl [2] rfl) hf
set_option maxRecDepth 100000 in
set_option maxHeartbeats 4000000 in
theorem ct_X9_couples (l : Launch) (G : Gd) (τ : Sg) {v1 : Int} {σ : Sg} {q : Int} (hf : f_X9_couples v1 σ = some q) : Ctr l yX9_couples cX9_couples 4 (some .int) (rmk 2 48) G true τ [.ref (G.1 0), .int (oI v1)] σ σ (some (.int (oI q))) := by
  unfold f_X9_couples at hf
  refine CtrI.of (own := RX9) (plainFor_of_name (by decide)) (Nat.le_of_ble_eq_true rfl) rfl (fun p e s m below meth c Q ls C hl S hend => ?_)
  have hl : lv_has ls 4 [(0, .ref (G.1 0)), (1, .int (oI v1))] := hl
  refine lv_iload_n C.1 C.2.1 dX9_couples_0 rfl (lv_at hl 1 rfl) ?_
  obtain ⟨q1, hc2, hf⟩ := bd_o hf
  refine r_callSv C S (As := [.int (oI v1)]) (rest := []) (ct_X9_isReach l G τ hc2) mi_X9_isReach tw_818 ms_X9_isReach ⟨rfl, rfl⟩ ⟨Nat.le_of_ble_eq_true rfl, Nat.le_of_ble_eq_true rfl⟩ ⟨Nat.zero_le _, Nat.zero_le _⟩ rfl hl.1 rfl (Nat.le_of_ble_eq_true rfl) dX9_couples_1 (fun H locs S => ?_)
  refine r_if_ne C rfl (tgt := 9) dX9_couples_4 (by decide) (fun h16 => ?_) (fun h16 => ?_)
  · replace hf := if_t hf h16
    refine r_iconst C dX9_couples_7 ?_
    cases hf
    exact hend _ _ _ _ S dX9_couples_8
  · replace hf := if_f hf h16
    refine r_iconst C dX9_couples_9 ?_
    refine lv_istore_n C.1 C.2.1 dX9_couples_10 rfl hl (by decide) (lv' := [(2, .int (oI 0)), (0, .ref (G.1 0)), (1, .int (oI v1))]) rfl (fun ls hl => ?_)
    refine r_iconst C dX9_couples_11 ?_
    refine lv_istore_n C.1 C.2.1 dX9_couples_12 rfl hl (by decide) (lv' := [(3, .int (oI 0)), (2, .int (oI 0)), (0, .ref (G.1 0)), (1, .int (oI v1))]) rfl (fun ls hl => ?_)
    exact b_X9_couples_b13 C hend FUEL v1 0 0 S (lv_sub hl [2, 3, 1, 0] rfl) hf
set_option maxRecDepth 100000 in
set_option maxHeartbeats 4000000 in
theorem ct_X7_hitAt (l : Launch) (G : Gd) (τ : Sg) {v2 : Int} {σ : Sg} {q : Int} (hf : f_X7_hitAt v2 σ = some q) : Ctr l yX7_hitAt cX7_hitAt 3 (some .int) (rmk 2 48) G true τ [.ref (G.1 17), .ref (G.1 6), .int (oI v2)] σ σ (some (.int (oI q))) := by
  unfold f_X7_hitAt at hf
  refine CtrI.of (own := RX7) (plainFor_of_name (by decide)) (Nat.le_of_ble_eq_true rfl) rfl (fun p e s m below meth c Q ls C hl S hend => ?_)
  have hl : lv_has ls 3 [(0, .ref (G.1 17)), (1, .ref (G.1 6)), (2, .int (oI v2))] := hl
  refine lv_aload_n C.1 C.2.1 dX7_hitAt_0 rfl (lv_at hl 1 rfl) ?_
  refine lv_aload_n C.1 C.2.1 dX7_hitAt_1 rfl (lv_at hl 0 rfl) ?_
  refine g7_x C S tw_210 dX7_hitAt_2 ?_
  refine lv_aload_n C.1 C.2.1 dX7_hitAt_5 rfl (lv_at hl 0 rfl) ?_
  refine g7_toX C S tw_214 dX7_hitAt_6 ?_
  refine lv_iload_n C.1 C.2.1 dX7_hitAt_9 rfl (lv_at hl 2 rfl) ?_
  refine lv_aload_n C.1 C.2.1 dX7_hitAt_10 rfl (lv_at hl 0 rfl) ?_
  refine g7_steps C S tw_218 dX7_hitAt_11 ?_
  obtain ⟨q1, hc2, hf⟩ := bd_o hf
  refine r_callSNv C S (As := [.int (oI (σ 17 2)), .int (oI (σ 17 4)), .int (oI v2), .int (oI (σ 17 6))]) (rest := [.ref (G.1 6)]) (ct_X9_onWay l G τ hc2) mi_X9_onWay (nw_917 S.2.2.2) ms_X9_onWay ⟨rfl, rfl⟩ ⟨Nat.le_of_ble_eq_true rfl, Nat.le_of_ble_eq_true rfl⟩ ⟨Nat.zero_le _, Nat.zero_le _⟩ rfl hl.1 rfl (Nat.le_of_ble_eq_true rfl) dX7_hitAt_14 (fun H locs S => ?_)
  refine lv_aload_n C.1 C.2.1 dX7_hitAt_17 rfl (lv_at hl 0 rfl) ?_
  refine g7_y C S tw_212 dX7_hitAt_18 ?_
  refine lv_aload_n C.1 C.2.1 dX7_hitAt_21 rfl (lv_at hl 0 rfl) ?_
  refine g7_toY C S tw_216 dX7_hitAt_22 ?_
  refine lv_iload_n C.1 C.2.1 dX7_hitAt_25 rfl (lv_at hl 2 rfl) ?_
  refine lv_aload_n C.1 C.2.1 dX7_hitAt_26 rfl (lv_at hl 0 rfl) ?_
  refine g7_steps C S tw_218 dX7_hitAt_27 ?_
  obtain ⟨q3, hc4, hf⟩ := bd_o hf
  refine r_callSNv C S (As := [.int (oI (σ 17 3)), .int (oI (σ 17 5)), .int (oI v2), .int (oI (σ 17 6))]) (rest := [.int (oI q1), .ref (G.1 6)]) (ct_X9_onWay l G τ hc4) mi_X9_onWay (nw_917 S.2.2.2) ms_X9_onWay ⟨rfl, rfl⟩ ⟨Nat.le_of_ble_eq_true rfl, Nat.le_of_ble_eq_true rfl⟩ ⟨Nat.zero_le _, Nat.zero_le _⟩ rfl hl.1 rfl (Nat.le_of_ble_eq_true rfl) dX7_hitAt_30 (fun H locs S => ?_)
  refine lv_aload_n C.1 C.2.1 dX7_hitAt_33 rfl (lv_at hl 0 rfl) ?_
  refine g7_radius C S tw_208 dX7_hitAt_34 ?_
  obtain ⟨q5, hc6, hf⟩ := bd_o hf
  refine r_callVv C S (As := [.int (oI q1), .int (oI q3), .int (oI (σ 17 1))]) (rest := []) (ct_X0_within l G τ hc6) mi_X0_within tw_918 mv_X0_within (rvX0 S) ⟨rfl, rfl⟩ ⟨Nat.le_of_ble_eq_true rfl, Nat.le_of_ble_eq_true rfl⟩ ⟨Nat.zero_le _, Nat.zero_le _⟩ rfl hl.1 rfl (Nat.le_of_ble_eq_true rfl) dX7_hitAt_37 (fun H locs S => ?_)
  cases hf
  exact hend _ _ _ _ S dX7_hitAt_40
set_option maxRecDepth 100000 in
set_option maxHeartbeats 4000000 in
theorem b_X7_hits_b4 (C : Cx p s m args c RX7 cX7_hits 4) {q : Int} (hend : EndR p l e (rmk 3 70) s m args below meth c Q G true τ cX7_hits .ireturn [.int (oI q)] σ) : ∀ (n : Nat) {H : Heap} {locs : List Loc} {ls : Array Slot} (v2 : Int) (v3 : Int) (S : St G true τ σ s H locs) (hl : lv_has ls 4 [(0, .ref (G.1 17)), (1, .ref (G.1 6)), (2, .int (oI v2)), (3, .int (oI v3))]) (hf : f_X7_hits_b4 σ n v2 v3 = some q), W p l e (rmk 3 70) s m args below meth c H locs 0 0 Q (F0 m 4 ls []) := by
  intro n
  induction n with
  | zero => intro H locs ls v2 v3 S hl hf; cases hf
  | succ n ih =>
    intro H locs ls v2 v3 S hl hf
    have hk4 := @ih
    rw [f_X7_hits_b4] at hf
    refine lv_iload_n C.1 C.2.1 dX7_hits_4 rfl (lv_at hl 3 rfl) ?_
    refine lv_aload_n C.1 C.2.1 dX7_hits_5 rfl (lv_at hl 0 rfl) ?_
    refine g7_steps C S tw_218 dX7_hits_6 ?_
    refine r_icmp_gt C rfl rfl (tgt := 27) dX7_hits_9 (by decide) (fun h3 => ?_) (fun h3 => ?_)
    · replace hf := if_t hf h3
      refine lv_iload_n C.1 C.2.1 dX7_hits_12 rfl (lv_at hl 2 rfl) ?_
      refine lv_aload_n C.1 C.2.1 dX7_hits_13 rfl (lv_at hl 0 rfl) ?_
      refine lv_aload_n C.1 C.2.1 dX7_hits_14 rfl (lv_at hl 1 rfl) ?_
      refine lv_iload_n C.1 C.2.1 dX7_hits_15 rfl (lv_at hl 3 rfl) ?_
      obtain ⟨q1, hc2, hf⟩ := bd_o hf
      refine r_callVv C S (As := [.ref (G.1 6), .int (oI v3)]) (rest := [.int (oI v2)]) (ct_X7_hitAt l G τ hc2) mi_X7_hitAt tw_913 mv_X7_hitAt (rvX7 S) ⟨rfl, rfl⟩ ⟨Nat.le_of_ble_eq_true rfl, Nat.le_of_ble_eq_true rfl⟩ ⟨Nat.zero_le _, Nat.zero_le _⟩ rfl hl.1 rfl (Nat.le_of_ble_eq_true rfl) dX7_hits_16 (fun H locs S => ?_)
      refine r_ior C rfl rfl dX7_hits_19 ?_
      refine lv_istore_n C.1 C.2.1 dX7_hits_20 rfl hl (by decide) (lv' := [(2, .int (oI ((((u32 v2) ||| (u32 q1) : Nat) : Int)))), (0, .ref (G.1 17)), (1, .ref (G.1 6)), (3, .int (oI v3))]) rfl (fun ls hl => ?_)
      refine r_iinc C dX7_hits_21 hl (k := 3) rfl (by decide) (lv' := [(3, .int (oI (v3 + 1))), (2, .int (oI ((((u32 v2) ||| (u32 q1) : Nat) : Int)))), (0, .ref (G.1 17)), (1, .ref (G.1 6))]) rfl (fun ls hl => ?_)
      refine lv_goto C.1 C.2.1 (tgt := 4) dX7_hits_24 (by decide) ?_
      exact hk4 ((((u32 v2) ||| (u32 q1) : Nat) : Int)) (v3 + 1) S (lv_sub hl [2, 3, 1, 0] rfl) hf
    · replace hf := if_f hf h3
      refine lv_iload_n C.1 C.2.1 dX7_hits_27 rfl (lv_at hl 2 rfl) ?_
      cases hf
      exact hend _ _ _ _ S dX7_hits_28
set_option maxRecDepth 100000 in
set_option maxHeartbeats 4000000 in
theorem ct_X7_hits (l : Launch) (G : Gd) (τ : Sg) {σ : Sg} {q : Int} (hf : f_X7_hits σ = some q) : Ctr l yX7_hits cX7_hits 4 (some .int) (rmk 3 70) G true τ [.ref (G.1 17), .ref (G.1 6)] σ σ (some (.int (oI q))) := by
  unfold f_X7_hits at hf
  refine CtrI.of (own := RX7) (plainFor_of_name (by decide)) (Nat.le_of_ble_eq_true rfl) rfl (fun p e s m below meth c Q ls C hl S hend => ?_)
  have hl : lv_has ls 4 [(0, .ref (G.1 17)), (1, .ref (G.1 6))] := hl
  refine r_iconst C dX7_hits_0 ?_
  refine lv_istore_n C.1 C.2.1 dX7_hits_1 rfl hl (by decide) (lv' := [(2, .int (oI 0)), (0, .ref (G.1 17)), (1, .ref (G.1 6))]) rfl (fun ls hl => ?_)
  refine r_iconst C dX7_hits_2 ?_
  refine lv_istore_n C.1 C.2.1 dX7_hits_3 rfl hl (by decide) (lv' := [(3, .int (oI 0)), (2, .int (oI 0)), (0, .ref (G.1 17)), (1, .ref (G.1 6))]) rfl (fun ls hl => ?_)
  exact b_X7_hits_b4 C hend FUEL 0 0 S (lv_sub hl [2, 3, 1, 0] rfl) hf
set_option maxRecDepth 100000 in
set_option maxHeartbeats 4000000 in
theorem ct_X9_storm (l : Launch) (G : Gd) (τ : Sg) {v1 : Int} {v2 : Int} {v3 : Int} {v4 : Int} {v5 : Int} {v6 : Int} {σ : Sg} {q : Int × Sg} (hf : f_X9_storm v1 v2 v3 v4 v5 v6 σ = some q) : Ctr l yX9_storm cX9_storm 7 (some .int) (rmk 4 93) G true τ [.ref (G.1 0), .int (oI v1), .int (oI v2), .int (oI v3), .int (oI v4), .int (oI v5), .int (oI v6)] σ q.2 (some (.int (oI q.1))) := by
  unfold f_X9_storm at hf
  refine CtrI.of (own := RX9) (plainFor_of_name (by decide)) (Nat.le_of_ble_eq_true rfl) rfl (fun p e s m below meth c Q ls C hl S hend => ?_)
  have hl : lv_has ls 7 [(0, .ref (G.1 0)), (1, .int (oI v1)), (2, .int (oI v2)), (3, .int (oI v3)), (4, .int (oI v4)), (5, .int (oI v5)), (6, .int (oI v6))] := hl
  refine lv_iload_n C.1 C.2.1 dX9_storm_0 rfl (lv_at hl 1 rfl) ?_
  obtain ⟨q1, hc2, hf⟩ := bd_o hf
  refine r_callSv C S (As := [.int (oI v1)]) (rest := []) (ct_X9_isReach l G τ hc2) mi_X9_isReach tw_818 ms_X9_isReach ⟨rfl, rfl⟩ ⟨Nat.le_of_ble_eq_true rfl, Nat.le_of_ble_eq_true rfl⟩ ⟨Nat.zero_le _, Nat.zero_le _⟩ rfl hl.1 rfl (Nat.le_of_ble_eq_true rfl) dX9_storm_1 (fun H locs S => ?_)
  refine r_if_eq C rfl (tgt := 38) dX9_storm_4 (by decide) (fun h22 => ?_) (fun h22 => ?_)
  · replace hf := if_t hf h22
    refine r_iconst C dX9_storm_38 ?_
    cases hf
    exact hend _ _ _ _ S dX9_storm_39
  · replace hf := if_f hf h22
    refine lv_iload_n C.1 C.2.1 dX9_storm_7 rfl (lv_at hl 2 rfl) ?_
    refine lv_iload_n C.1 C.2.1 dX9_storm_8 rfl (lv_at hl 3 rfl) ?_
    obtain ⟨q3, hc4, hf⟩ := bd_o hf
    refine r_callSv C S (As := [.int (oI v2), .int (oI v3)]) (rest := []) (ct_X9_isPlace l G τ hc4) mi_X9_isPlace tw_549 ms_X9_isPlace ⟨rfl, rfl⟩ ⟨Nat.le_of_ble_eq_true rfl, Nat.le_of_ble_eq_true rfl⟩ ⟨Nat.zero_le _, Nat.zero_le _⟩ rfl hl.1 rfl (Nat.le_of_ble_eq_true rfl) dX9_storm_9 (fun H locs S => ?_)
    refine r_if_eq C rfl (tgt := 38) dX9_storm_12 (by decide) (fun h21 => ?_) (fun h21 => ?_)
    · replace hf := if_t hf h21
      refine r_iconst C dX9_storm_38 ?_
      cases hf
      exact hend _ _ _ _ S dX9_storm_39
    · replace hf := if_f hf h21
      refine lv_iload C.1 C.2.1 dX9_storm_15 (lv_at hl 4 rfl) ?_
      refine lv_iload C.1 C.2.1 dX9_storm_17 (lv_at hl 5 rfl) ?_
      obtain ⟨q5, hc6, hf⟩ := bd_o hf
      refine r_callSv C S (As := [.int (oI v4), .int (oI v5)]) (rest := []) (ct_X9_isPlace l G τ hc6) mi_X9_isPlace tw_549 ms_X9_isPlace ⟨rfl, rfl⟩ ⟨Nat.le_of_ble_eq_true rfl, Nat.le_of_ble_eq_true rfl⟩ ⟨Nat.zero_le _, Nat.zero_le _⟩ rfl hl.1 rfl (Nat.le_of_ble_eq_true rfl) dX9_storm_19 (fun H locs S => ?_)
      refine r_if_eq C rfl (tgt := 38) dX9_storm_22 (by decide) (fun h20 => ?_) (fun h20 => ?_)
      · replace hf := if_t hf h20
        refine r_iconst C dX9_storm_38 ?_
        cases hf
        exact hend _ _ _ _ S dX9_storm_39
      · replace hf := if_f hf h20
        refine lv_iload C.1 C.2.1 dX9_storm_25 (lv_at hl 6 rfl) ?_
        refine r_iconst C dX9_storm_27 ?_
        refine r_icmp_lt C rfl (show w32 1 = 1 by decide) (tgt := 38) dX9_storm_28 (by decide) (fun h19 => ?_) (fun h19 => ?_)
        · replace hf := if_t hf h19
          refine r_iconst C dX9_storm_38 ?_
          cases hf
          exact hend _ _ _ _ S dX9_storm_39
        · replace hf := if_f hf h19
          refine lv_iload C.1 C.2.1 dX9_storm_31 (lv_at hl 6 rfl) ?_
          refine r_bipush C dX9_storm_33 (by decide) ?_
          refine r_icmp_le C rfl (show w32 100 = 100 by decide) (tgt := 40) dX9_storm_35 (by decide) (fun h18 => ?_) (fun h18 => ?_)
          · replace hf := if_t hf h18
            refine lv_aload_n C.1 C.2.1 dX9_storm_40 rfl (lv_at hl 0 rfl) ?_
            refine g9_track C S tw_287 dX9_storm_41 ?_
            refine r_iconst C dX9_storm_44 ?_
            refine p7_told C S tw_207 (by decide) dX9_storm_45 (fun H locs S => ?_)
            obtain ⟨σ7, S, hf⟩ := wr_s S hf
            refine lv_aload_n C.1 C.2.1 dX9_storm_48 rfl (lv_at hl 0 rfl) ?_
            refine g9_track C S tw_287 dX9_storm_49 ?_
            refine lv_iload_n C.1 C.2.1 dX9_storm_52 rfl (lv_at hl 1 rfl) ?_
            refine p7_radius C S tw_209 dX9_storm_53 (fun H locs S => ?_)
            obtain ⟨σ8, S, hf⟩ := wr_s S hf
            refine lv_aload_n C.1 C.2.1 dX9_storm_56 rfl (lv_at hl 0 rfl) ?_
            refine g9_track C S tw_287 dX9_storm_57 ?_
            refine lv_iload_n C.1 C.2.1 dX9_storm_60 rfl (lv_at hl 2 rfl) ?_
            refine p7_x C S tw_211 dX9_storm_61 (fun H locs S => ?_)
            obtain ⟨σ9, S, hf⟩ := wr_s S hf
            refine lv_aload_n C.1 C.2.1 dX9_storm_64 rfl (lv_at hl 0 rfl) ?_
            refine g9_track C S tw_287 dX9_storm_65 ?_
            refine lv_iload_n C.1 C.2.1 dX9_storm_68 rfl (lv_at hl 3 rfl) ?_
            refine p7_y C S tw_213 dX9_storm_69 (fun H locs S => ?_)
            obtain ⟨σ10, S, hf⟩ := wr_s S hf
            refine lv_aload_n C.1 C.2.1 dX9_storm_72 rfl (lv_at hl 0 rfl) ?_
            refine g9_track C S tw_287 dX9_storm_73 ?_
            refine lv_iload C.1 C.2.1 dX9_storm_76 (lv_at hl 4 rfl) ?_
            refine p7_toX C S tw_215 dX9_storm_78 (fun H locs S => ?_)
            obtain ⟨σ11, S, hf⟩ := wr_s S hf
            refine lv_aload_n C.1 C.2.1 dX9_storm_81 rfl (lv_at hl 0 rfl) ?_
            refine g9_track C S tw_287 dX9_storm_82 ?_
            refine lv_iload C.1 C.2.1 dX9_storm_85 (lv_at hl 5 rfl) ?_
            refine p7_toY C S tw_217 dX9_storm_87 (fun H locs S => ?_)
            obtain ⟨σ12, S, hf⟩ := wr_s S hf
            refine lv_aload_n C.1 C.2.1 dX9_storm_90 rfl (lv_at hl 0 rfl) ?_
            refine g9_track C S tw_287 dX9_storm_91 ?_
            refine lv_iload C.1 C.2.1 dX9_storm_94 (lv_at hl 6 rfl) ?_
            refine p7_steps C S tw_219 dX9_storm_96 (fun H locs S => ?_)
            obtain ⟨σ13, S, hf⟩ := wr_s S hf
            refine lv_aload_n C.1 C.2.1 dX9_storm_99 rfl (lv_at hl 0 rfl) ?_
            refine g9_track C S tw_287 dX9_storm_100 ?_
            refine lv_aload_n C.1 C.2.1 dX9_storm_103 rfl (lv_at hl 0 rfl) ?_
            refine g9_book C S tw_282 dX9_storm_104 ?_
            obtain ⟨q14, hc15, hf⟩ := bd_o hf
            refine r_callVv C S (As := [.ref (G.1 6)]) (rest := []) (ct_X7_hits l G τ hc15) mi_X7_hits tw_909 mv_X7_hits (rvX7 S) ⟨rfl, rfl⟩ ⟨Nat.le_of_ble_eq_true rfl, Nat.le_of_ble_eq_true rfl⟩ ⟨Nat.zero_le _, Nat.zero_le _⟩ rfl hl.1 rfl (Nat.le_of_ble_eq_true rfl) dX9_storm_107 (fun H locs S => ?_)
            obtain ⟨q16, hc17, hf⟩ := bd_o hf
            refine r_callSv C S (As := [.int (oI q14)]) (rest := []) (ct_J6_bitCount_0f7a4 l G τ hc17) mi_J6_bitCount_0f7a4 tw_646 ms_J6_bitCount_0f7a4 ⟨rfl, rfl⟩ ⟨Nat.le_of_ble_eq_true rfl, Nat.le_of_ble_eq_true rfl⟩ ⟨Nat.zero_le _, Nat.zero_le _⟩ rfl hl.1 rfl (Nat.le_of_ble_eq_true rfl) dX9_storm_110 (fun H locs S => ?_)
            cases hf
            exact hend _ _ _ _ S dX9_storm_113
          · replace hf := if_f hf h18
            refine r_iconst C dX9_storm_38 ?_
            cases hf
            exact hend _ _ _ _ S dX9_storm_39
set_option maxRecDepth 100000 in
set_option maxHeartbeats 4000000 in
theorem b_X7_fiercest_b41 (C : Cx p s m args c RX7 cX7_fiercest 6) {q : Int} {k7 : Int → Int → Int → Option (Int)} (hend : EndR p l e (rmk 3 70) s m args below meth c Q G true τ cX7_fiercest .ireturn [.int (oI q)] σ) (hk7 : ∀ {H : Heap} {locs : List Loc} {ls : Array Slot} (v2 : Int) (v3 : Int) (v4 : Int), St G true τ σ s H locs → lv_has ls 6 [(0, .ref (G.1 17)), (1, .ref (G.1 6)), (2, .int (oI v2)), (3, .int (oI v3)), (4, .int (oI v4))] → k7 v2 v3 v4 = some q → W p l e (rmk 3 70) s m args below meth c H locs 0 0 Q (F0 m 7 ls [])) {H : Heap} {locs : List Loc} {ls : Array Slot} (v2 : Int) (v3 : Int) (v4 : Int) (S : St G true τ σ s H locs) (hl : lv_has ls 6 [(0, .ref (G.1 17)), (1, .ref (G.1 6)), (2, .int (oI v2)), (3, .int (oI v3)), (4, .int (oI v4))]) (hf : f_X7_fiercest_b41 σ k7 v2 v3 v4 = some q) : W p l e (rmk 3 70) s m args below meth c H locs 0 0 Q (F0 m 41 ls []) := by
  unfold f_X7_fiercest_b41 at hf
  refine r_iinc C dX7_fiercest_41 hl (k := 4) rfl (by decide) (lv' := [(4, .int (oI (v4 + 1))), (0, .ref (G.1 17)), (1, .ref (G.1 6)), (2, .int (oI v2)), (3, .int (oI v3))]) rfl (fun ls hl => ?_)
  refine lv_goto C.1 C.2.1 (tgt := 7) dX7_fiercest_44 (by decide) ?_
  exact hk7 v2 v3 (v4 + 1) S (lv_sub hl [1, 2, 3, 4, 0] rfl) hf
set_option maxRecDepth 100000 in
set_option maxHeartbeats 4000000 in
theorem b_X7_fiercest_b7 (C : Cx p s m args c RX7 cX7_fiercest 6) {q : Int} (hend : EndR p l e (rmk 3 70) s m args below meth c Q G true τ cX7_fiercest .ireturn [.int (oI q)] σ) : ∀ (n : Nat) {H : Heap} {locs : List Loc} {ls : Array Slot} (v2 : Int) (v3 : Int) (v4 : Int) (S : St G true τ σ s H locs) (hl : lv_has ls 6 [(0, .ref (G.1 17)), (1, .ref (G.1 6)), (2, .int (oI v2)), (3, .int (oI v3)), (4, .int (oI v4))]) (hf : f_X7_fiercest_b7 σ n v2 v3 v4 = some q), W p l e (rmk 3 70) s m args below meth c H locs 0 0 Q (F0 m 7 ls []) := by
  intro n
  induction n with
  | zero => intro H locs ls v2 v3 v4 S hl hf; cases hf
  | succ n ih =>
    intro H locs ls v2 v3 v4 S hl hf
    have hk7 := @ih
    rw [f_X7_fiercest_b7] at hf
    refine lv_iload C.1 C.2.1 dX7_fiercest_7 (lv_at hl 4 rfl) ?_
    refine lv_aload_n C.1 C.2.1 dX7_fiercest_9 rfl (lv_at hl 0 rfl) ?_
    refine g7_steps C S tw_218 dX7_fiercest_10 ?_
    refine r_icmp_gt C rfl rfl (tgt := 47) dX7_fiercest_13 (by decide) (fun h6 => ?_) (fun h6 => ?_)
    · replace hf := if_t hf h6
      refine lv_aload_n C.1 C.2.1 dX7_fiercest_16 rfl (lv_at hl 1 rfl) ?_
      refine lv_aload_n C.1 C.2.1 dX7_fiercest_17 rfl (lv_at hl 0 rfl) ?_
      refine lv_aload_n C.1 C.2.1 dX7_fiercest_18 rfl (lv_at hl 1 rfl) ?_
      refine lv_iload C.1 C.2.1 dX7_fiercest_19 (lv_at hl 4 rfl) ?_
      obtain ⟨q1, hc2, hf⟩ := bd_o hf
      refine r_callVv C S (As := [.ref (G.1 6), .int (oI v4)]) (rest := [.ref (G.1 6)]) (ct_X7_hitAt l G τ hc2) mi_X7_hitAt tw_913 mv_X7_hitAt (rvX7 S) ⟨rfl, rfl⟩ ⟨Nat.le_of_ble_eq_true rfl, Nat.le_of_ble_eq_true rfl⟩ ⟨Nat.zero_le _, Nat.zero_le _⟩ rfl hl.1 rfl (Nat.le_of_ble_eq_true rfl) dX7_fiercest_21 (fun H locs S => ?_)
      obtain ⟨q3, hc4, hf⟩ := bd_o hf
      refine r_callVv C S (As := [.int (oI q1)]) (rest := []) (ct_X0_sums l G τ hc4) mi_X0_sums tw_927 mv_X0_sums (rvX0 S) ⟨rfl, rfl⟩ ⟨Nat.le_of_ble_eq_true rfl, Nat.le_of_ble_eq_true rfl⟩ ⟨Nat.zero_le _, Nat.zero_le _⟩ rfl hl.1 rfl (Nat.le_of_ble_eq_true rfl) dX7_fiercest_24 (fun H locs S => ?_)
      refine lv_istore C.1 C.2.1 dX7_fiercest_27 hl (by decide) (lv' := [(5, .int (oI q3)), (0, .ref (G.1 17)), (1, .ref (G.1 6)), (2, .int (oI v2)), (3, .int (oI v3)), (4, .int (oI v4))]) rfl (fun ls hl => ?_)
      refine lv_iload C.1 C.2.1 dX7_fiercest_29 (lv_at hl 0 rfl) ?_
      refine lv_iload_n C.1 C.2.1 dX7_fiercest_31 rfl (lv_at hl 4 rfl) ?_
      refine r_icmp_le C rfl rfl (tgt := 41) dX7_fiercest_32 (by decide) (fun h5 => ?_) (fun h5 => ?_)
      · replace hf := if_t hf h5
        exact b_X7_fiercest_b41 C hend hk7 v2 v3 v4 S (lv_sub hl [1, 2, 3, 4, 5] rfl) hf
      · replace hf := if_f hf h5
        refine lv_iload C.1 C.2.1 dX7_fiercest_35 (lv_at hl 5 rfl) ?_
        refine lv_istore_n C.1 C.2.1 dX7_fiercest_37 rfl hl (by decide) (lv' := [(2, .int (oI v4)), (5, .int (oI q3)), (0, .ref (G.1 17)), (1, .ref (G.1 6)), (3, .int (oI v3)), (4, .int (oI v4))]) rfl (fun ls hl => ?_)
        refine lv_iload C.1 C.2.1 dX7_fiercest_38 (lv_at hl 1 rfl) ?_
        refine lv_istore_n C.1 C.2.1 dX7_fiercest_40 rfl hl (by decide) (lv' := [(3, .int (oI q3)), (2, .int (oI v4)), (5, .int (oI q3)), (0, .ref (G.1 17)), (1, .ref (G.1 6)), (4, .int (oI v4))]) rfl (fun ls hl => ?_)
        exact b_X7_fiercest_b41 C hend hk7 v4 q3 v4 S (lv_sub hl [3, 4, 1, 0, 5] rfl) hf
    · replace hf := if_f hf h6
      refine lv_iload_n C.1 C.2.1 dX7_fiercest_47 rfl (lv_at hl 2 rfl) ?_
      cases hf
      exact hend _ _ _ _ S dX7_fiercest_48
set_option maxRecDepth 100000 in
set_option maxHeartbeats 4000000 in
theorem ct_X7_fiercest (l : Launch) (G : Gd) (τ : Sg) {σ : Sg} {q : Int} (hf : f_X7_fiercest σ = some q) : Ctr l yX7_fiercest cX7_fiercest 6 (some .int) (rmk 3 70) G true τ [.ref (G.1 17), .ref (G.1 6)] σ σ (some (.int (oI q))) := by
  unfold f_X7_fiercest at hf
  refine CtrI.of (own := RX7) (plainFor_of_name (by decide)) (Nat.le_of_ble_eq_true rfl) rfl (fun p e s m below meth c Q ls C hl S hend => ?_)
  have hl : lv_has ls 6 [(0, .ref (G.1 17)), (1, .ref (G.1 6))] := hl
  refine r_iconst C dX7_fiercest_0 ?_
  refine lv_istore_n C.1 C.2.1 dX7_fiercest_1 rfl hl (by decide) (lv' := [(2, .int (oI 0)), (0, .ref (G.1 17)), (1, .ref (G.1 6))]) rfl (fun ls hl => ?_)
  refine r_iconst C dX7_fiercest_2 ?_
  refine lv_istore_n C.1 C.2.1 dX7_fiercest_3 rfl hl (by decide) (lv' := [(3, .int (oI 0)), (2, .int (oI 0)), (0, .ref (G.1 17)), (1, .ref (G.1 6))]) rfl (fun ls hl => ?_)
  refine r_iconst C dX7_fiercest_4 ?_
  refine lv_istore C.1 C.2.1 dX7_fiercest_5 hl (by decide) (lv' := [(4, .int (oI 0)), (3, .int (oI 0)), (2, .int (oI 0)), (0, .ref (G.1 17)), (1, .ref (G.1 6))]) rfl (fun ls hl => ?_)
  exact b_X7_fiercest_b7 C hend FUEL 0 0 0 S (lv_sub hl [3, 4, 2, 1, 0] rfl) hf
set_option maxRecDepth 100000 in
set_option maxHeartbeats 4000000 in
theorem ct_X9_hit (l : Launch) (G : Gd) (τ : Sg) {v1 : Int} {σ : Sg} {q : Int} (hf : f_X9_hit v1 σ = some q) : Ctr l yX9_hit cX9_hit 2 (some .int) (rmk 4 95) G true τ [.ref (G.1 0), .int (oI v1)] σ σ (some (.int (oI q))) := by
  unfold f_X9_hit at hf
  refine CtrI.of (own := RX9) (plainFor_of_name (by decide)) (Nat.le_of_ble_eq_true rfl) rfl (fun p e s m below meth c Q ls C hl S hend => ?_)
  have hl : lv_has ls 2 [(0, .ref (G.1 0)), (1, .int (oI v1))] := hl
  refine lv_iload_n C.1 C.2.1 dX9_hit_0 rfl (lv_at hl 1 rfl) ?_
  refine r_if_lt C rfl (tgt := 9) dX9_hit_1 (by decide) (fun h17 => ?_) (fun h17 => ?_)
  · replace hf := if_t hf h17
    refine r_iconst C dX9_hit_9 ?_
    cases hf
    exact hend _ _ _ _ S dX9_hit_10
  · replace hf := if_f hf h17
    refine lv_iload_n C.1 C.2.1 dX9_hit_4 rfl (lv_at hl 1 rfl) ?_
    refine r_iconst C dX9_hit_5 ?_
    refine r_icmp_le C rfl (show w32 3 = 3 by decide) (tgt := 11) dX9_hit_6 (by decide) (fun h16 => ?_) (fun h16 => ?_)
    · replace hf := if_t hf h16
      refine lv_aload_n C.1 C.2.1 dX9_hit_11 rfl (lv_at hl 0 rfl) ?_
      refine g9_track C S tw_287 dX9_hit_12 ?_
      refine g7_told C S tw_207 dX9_hit_15 ?_
      refine r_if_ne C rfl (tgt := 24) dX9_hit_18 (by decide) (fun h15 => ?_) (fun h15 => ?_)
      · replace hf := if_t hf h15
        refine r_bipush C dX9_hit_21 (by decide) ?_
        cases hf
        exact hend _ _ _ _ S dX9_hit_23
      · replace hf := if_f hf h15
        refine lv_iload_n C.1 C.2.1 dX9_hit_24 rfl (lv_at hl 1 rfl) ?_
        by_cases hs0 : w32 v1 = 0
        · replace hf := if_t hf hs0
          refine r_tabIn C (tgt := 52) (v := 0) dX9_hit_25 hs0 (by decide) (by decide) rfl (by decide) ?_
          refine lv_aload_n C.1 C.2.1 dX9_hit_52 rfl (lv_at hl 0 rfl) ?_
          refine g9_track C S tw_287 dX9_hit_53 ?_
          refine lv_aload_n C.1 C.2.1 dX9_hit_56 rfl (lv_at hl 0 rfl) ?_
          refine g9_book C S tw_282 dX9_hit_57 ?_
          obtain ⟨q1, hc2, hf⟩ := bd_o hf
          refine r_callVv C S (As := [.ref (G.1 6)]) (rest := []) (ct_X7_hits l G τ hc2) mi_X7_hits tw_909 mv_X7_hits (rvX7 S) ⟨rfl, rfl⟩ ⟨Nat.le_of_ble_eq_true rfl, Nat.le_of_ble_eq_true rfl⟩ ⟨Nat.zero_le _, Nat.zero_le _⟩ rfl hl.1 rfl (Nat.le_of_ble_eq_true rfl) dX9_hit_60 (fun H locs S => ?_)
          cases hf
          exact hend _ _ _ _ S dX9_hit_63
        · replace hf := if_f hf hs0
          by_cases hs1 : w32 v1 = 1
          · replace hf := if_t hf hs1
            refine r_tabIn C (tgt := 64) (v := 1) dX9_hit_25 hs1 (by decide) (by decide) rfl (by decide) ?_
            refine lv_aload_n C.1 C.2.1 dX9_hit_64 rfl (lv_at hl 0 rfl) ?_
            refine g9_book C S tw_282 dX9_hit_65 ?_
            refine lv_aload_n C.1 C.2.1 dX9_hit_68 rfl (lv_at hl 0 rfl) ?_
            refine g9_track C S tw_287 dX9_hit_69 ?_
            refine lv_aload_n C.1 C.2.1 dX9_hit_72 rfl (lv_at hl 0 rfl) ?_
            refine g9_book C S tw_282 dX9_hit_73 ?_
            obtain ⟨q3, hc4, hf⟩ := bd_o hf
            refine r_callVv C S (As := [.ref (G.1 6)]) (rest := [.ref (G.1 6)]) (ct_X7_hits l G τ hc4) mi_X7_hits tw_909 mv_X7_hits (rvX7 S) ⟨rfl, rfl⟩ ⟨Nat.le_of_ble_eq_true rfl, Nat.le_of_ble_eq_true rfl⟩ ⟨Nat.zero_le _, Nat.zero_le _⟩ rfl hl.1 rfl (Nat.le_of_ble_eq_true rfl) dX9_hit_76 (fun H locs S => ?_)
            obtain ⟨q5, hc6, hf⟩ := bd_o hf
            refine r_callVv C S (As := [.int (oI q3)]) (rest := []) (ct_X0_sums l G τ hc6) mi_X0_sums tw_652 mv_X0_sums (rvX0 S) ⟨rfl, rfl⟩ ⟨Nat.le_of_ble_eq_true rfl, Nat.le_of_ble_eq_true rfl⟩ ⟨Nat.zero_le _, Nat.zero_le _⟩ rfl hl.1 rfl (Nat.le_of_ble_eq_true rfl) dX9_hit_79 (fun H locs S => ?_)
            cases hf
            exact hend _ _ _ _ S dX9_hit_82
          · replace hf := if_f hf hs1
            by_cases hs2 : w32 v1 = 2
            · replace hf := if_t hf hs2
              refine r_tabIn C (tgt := 83) (v := 2) dX9_hit_25 hs2 (by decide) (by decide) rfl (by decide) ?_
              refine lv_aload_n C.1 C.2.1 dX9_hit_83 rfl (lv_at hl 0 rfl) ?_
              refine g9_track C S tw_287 dX9_hit_84 ?_
              refine lv_aload_n C.1 C.2.1 dX9_hit_87 rfl (lv_at hl 0 rfl) ?_
              refine g9_book C S tw_282 dX9_hit_88 ?_
              obtain ⟨q7, hc8, hf⟩ := bd_o hf
              refine r_callVv C S (As := [.ref (G.1 6)]) (rest := []) (ct_X7_fiercest l G τ hc8) mi_X7_fiercest tw_923 mv_X7_fiercest (rvX7 S) ⟨rfl, rfl⟩ ⟨Nat.le_of_ble_eq_true rfl, Nat.le_of_ble_eq_true rfl⟩ ⟨Nat.zero_le _, Nat.zero_le _⟩ rfl hl.1 rfl (Nat.le_of_ble_eq_true rfl) dX9_hit_91 (fun H locs S => ?_)
              cases hf
              exact hend _ _ _ _ S dX9_hit_94
            · replace hf := if_f hf hs2
              refine r_tabOut C (tgt := 95) dX9_hit_25 (by omega) (by decide) ?_
              refine lv_aload_n C.1 C.2.1 dX9_hit_95 rfl (lv_at hl 0 rfl) ?_
              refine g9_book C S tw_282 dX9_hit_96 ?_
              refine lv_aload_n C.1 C.2.1 dX9_hit_99 rfl (lv_at hl 0 rfl) ?_
              refine g9_track C S tw_287 dX9_hit_100 ?_
              refine lv_aload_n C.1 C.2.1 dX9_hit_103 rfl (lv_at hl 0 rfl) ?_
              refine g9_book C S tw_282 dX9_hit_104 ?_
              refine lv_aload_n C.1 C.2.1 dX9_hit_107 rfl (lv_at hl 0 rfl) ?_
              refine g9_track C S tw_287 dX9_hit_108 ?_
              refine lv_aload_n C.1 C.2.1 dX9_hit_111 rfl (lv_at hl 0 rfl) ?_
              refine g9_book C S tw_282 dX9_hit_112 ?_
              obtain ⟨q9, hc10, hf⟩ := bd_o hf
              refine r_callVv C S (As := [.ref (G.1 6)]) (rest := [.ref (G.1 6), .ref (G.1 17), .ref (G.1 6)]) (ct_X7_fiercest l G τ hc10) mi_X7_fiercest tw_923 mv_X7_fiercest (rvX7 S) ⟨rfl, rfl⟩ ⟨Nat.le_of_ble_eq_true rfl, Nat.le_of_ble_eq_true rfl⟩ ⟨Nat.zero_le _, Nat.zero_le _⟩ rfl hl.1 rfl (Nat.le_of_ble_eq_true rfl) dX9_hit_115 (fun H locs S => ?_)
              obtain ⟨q11, hc12, hf⟩ := bd_o hf
              refine r_callVv C S (As := [.ref (G.1 6), .int (oI q9)]) (rest := [.ref (G.1 6)]) (ct_X7_hitAt l G τ hc12) mi_X7_hitAt tw_928 mv_X7_hitAt (rvX7 S) ⟨rfl, rfl⟩ ⟨Nat.le_of_ble_eq_true rfl, Nat.le_of_ble_eq_true rfl⟩ ⟨Nat.zero_le _, Nat.zero_le _⟩ rfl hl.1 rfl (Nat.le_of_ble_eq_true rfl) dX9_hit_118 (fun H locs S => ?_)
              obtain ⟨q13, hc14, hf⟩ := bd_o hf
              refine r_callVv C S (As := [.int (oI q11)]) (rest := []) (ct_X0_sums l G τ hc14) mi_X0_sums tw_652 mv_X0_sums (rvX0 S) ⟨rfl, rfl⟩ ⟨Nat.le_of_ble_eq_true rfl, Nat.le_of_ble_eq_true rfl⟩ ⟨Nat.zero_le _, Nat.zero_le _⟩ rfl hl.1 rfl (Nat.le_of_ble_eq_true rfl) dX9_hit_121 (fun H locs S => ?_)
              cases hf
              exact hend _ _ _ _ S dX9_hit_124
    · replace hf := if_f hf h16
      refine r_iconst C dX9_hit_9 ?_
      cases hf
      exact hend _ _ _ _ S dX9_hit_10
set_option maxRecDepth 100000 in
set_option maxHeartbeats 4000000 in
theorem ct_X9_pays (l : Launch) (G : Gd) (τ : Sg) {v1 : Int} {σ : Sg} {q : Int} (hf : f_X9_pays v1 σ = some q) : Ctr l yX9_pays cX9_pays 3 (some .int) (rmk 4 93) G true τ [.ref (G.1 0), .int (oI v1)] σ σ (some (.int (oI q))) := by
  unfold f_X9_pays at hf
  refine CtrI.of (own := RX9) (plainFor_of_name (by decide)) (Nat.le_of_ble_eq_true rfl) rfl (fun p e s m below meth c Q ls C hl S hend => ?_)
  have hl : lv_has ls 3 [(0, .ref (G.1 0)), (1, .int (oI v1))] := hl
  refine lv_aload_n C.1 C.2.1 dX9_pays_0 rfl (lv_at hl 0 rfl) ?_
  refine lv_iload_n C.1 C.2.1 dX9_pays_1 rfl (lv_at hl 1 rfl) ?_
  obtain ⟨q1, hc2, hf⟩ := bd_o hf
  refine r_callVv C S (As := [.int (oI v1)]) (rest := []) (ct_X9_treatyAt l G τ hc2) mi_X9_treatyAt tw_528 mv_X9_treatyAt (rvX9 S) ⟨rfl, rfl⟩ ⟨Nat.le_of_ble_eq_true rfl, Nat.le_of_ble_eq_true rfl⟩ ⟨Nat.zero_le _, Nat.zero_le _⟩ rfl hl.1 rfl (Nat.le_of_ble_eq_true rfl) dX9_pays_2 (fun H locs S => ?_)
  rcases q1 with _ | t3
  · replace hf := oT_n hf
    refine lv_astore_nN C.1 C.2.1 dX9_pays_5 rfl hl (by decide) (lv' := [(2, .null), (0, .ref (G.1 0)), (1, .int (oI v1))]) rfl (fun ls hl => ?_)
    refine lv_aload_nN C.1 C.2.1 dX9_pays_6 rfl (lv_at hl 0 rfl) ?_
    refine lv_ifnonnullN C.1 C.2.1 dX9_pays_7 ?_
    refine r_iconst C dX9_pays_10 ?_
    cases hf
    exact hend _ _ _ _ S dX9_pays_11
  · obtain ⟨ht3, hf⟩ := oT_s hf
    refine lv_astore_n C.1 C.2.1 dX9_pays_5 rfl hl (by decide) (lv' := [(2, .ref (G.1 (21 + t3))), (0, .ref (G.1 0)), (1, .int (oI v1))]) rfl (fun ls hl => ?_)
    refine lv_aload_n C.1 C.2.1 dX9_pays_6 rfl (lv_at hl 0 rfl) ?_
    refine lv_ifnonnull C.1 C.2.1 (tgt := 12) dX9_pays_7 (by decide) ?_
    refine lv_aload_n C.1 C.2.1 dX9_pays_12 rfl (lv_at hl 1 rfl) ?_
    refine g9_track C S tw_287 dX9_pays_13 ?_
    refine g7_told C S tw_207 dX9_pays_16 ?_
    refine r_if_ne C rfl (tgt := 25) dX9_pays_19 (by decide) (fun h8 => ?_) (fun h8 => ?_)
    · replace hf := if_t hf h8
      refine r_bipush C dX9_pays_22 (by decide) ?_
      cases hf
      exact hend _ _ _ _ S dX9_pays_24
    · replace hf := if_f hf h8
      refine r_iconst C dX9_pays_25 ?_
      refine lv_aload_n C.1 C.2.1 dX9_pays_26 rfl (lv_at hl 1 rfl) ?_
      refine g9_book C S tw_282 dX9_pays_27 ?_
      refine lv_aload_n C.1 C.2.1 dX9_pays_30 rfl (lv_at hl 0 rfl) ?_
      refine g8_discs C (d := t3) S (by omega) tw_149 dX9_pays_31 ?_
      refine g2_members C (d := t3) S (by omega) tw_133 dX9_pays_34 ?_
      refine lv_aload_n C.1 C.2.1 dX9_pays_37 rfl (lv_at hl 1 rfl) ?_
      refine g9_track C S tw_287 dX9_pays_38 ?_
      refine lv_aload_n C.1 C.2.1 dX9_pays_41 rfl (lv_at hl 1 rfl) ?_
      refine g9_book C S tw_282 dX9_pays_42 ?_
      obtain ⟨q4, hc5, hf⟩ := bd_o hf
      refine r_callVv C S (As := [.ref (G.1 6)]) (rest := [.int (oI (σ (27 + t3) 5)), .ref (G.1 6), .int (oI 0)]) (ct_X7_hits l G τ hc5) mi_X7_hits tw_909 mv_X7_hits (rvX7 S) ⟨rfl, rfl⟩ ⟨Nat.le_of_ble_eq_true rfl, Nat.le_of_ble_eq_true rfl⟩ ⟨Nat.zero_le _, Nat.zero_le _⟩ rfl hl.1 rfl (Nat.le_of_ble_eq_true rfl) dX9_pays_45 (fun H locs S => ?_)
      refine r_iand C rfl rfl dX9_pays_48 ?_
      obtain ⟨q6, hc7, hf⟩ := bd_o hf
      refine r_callVv C S (As := [.int (oI ((((u32 (σ (27 + t3) 5)) &&& (u32 q4) : Nat) : Int)))]) (rest := [.int (oI 0)]) (ct_X0_sums l G τ hc7) mi_X0_sums tw_652 mv_X0_sums (rvX0 S) ⟨rfl, rfl⟩ ⟨Nat.le_of_ble_eq_true rfl, Nat.le_of_ble_eq_true rfl⟩ ⟨Nat.zero_le _, Nat.zero_le _⟩ rfl hl.1 rfl (Nat.le_of_ble_eq_true rfl) dX9_pays_49 (fun H locs S => ?_)
      refine lv_aload_n C.1 C.2.1 dX9_pays_52 rfl (lv_at hl 0 rfl) ?_
      refine g8_limit C (d := t3) S (by omega) tw_155 dX9_pays_53 ?_
      refine r_isub C dX9_pays_56 ?_
      refine r_mmax C (hl.1) tw_671 (by decide) (Nat.le_of_ble_eq_true rfl) dX9_pays_57 ?_
      cases hf
      exact hend _ _ _ _ S dX9_pays_60
set_option maxRecDepth 100000 in
set_option maxHeartbeats 4000000 in
theorem ct_X9_drawnAfter (l : Launch) (G : Gd) (τ : Sg) {v0 : Int} {σ : Sg} {q : Int} (hf : f_X9_drawnAfter v0 σ = some q) : Ctr l yX9_drawnAfter cX9_drawnAfter 1 (some .int) (rmk 0 0) G true τ [.int (oI v0)] σ σ (some (.int (oI q))) := by
  unfold f_X9_drawnAfter at hf
  refine CtrI.of (own := RX9) (plainFor_of_name (by decide)) (Nat.le_of_ble_eq_true rfl) rfl (fun p e s m below meth c Q ls C hl S hend => ?_)
  have hl : lv_has ls 1 [(0, .int (oI v0))] := hl
  refine lv_iload_n C.1 C.2.1 dX9_drawnAfter_0 rfl (lv_at hl 0 rfl) ?_
  refine r_i2l C dX9_drawnAfter_1 ?_
  refine r_ldc2 C tw_940 dX9_drawnAfter_2 ?_
  refine r_lmul C dX9_drawnAfter_5 ?_
  refine r_ldc2 C tw_941 dX9_drawnAfter_6 ?_
  refine r_ladd C dX9_drawnAfter_9 ?_
  refine r_ldc2 C tw_942 dX9_drawnAfter_10 ?_
  refine r_land C dX9_drawnAfter_13 ?_
  refine r_l2i C dX9_drawnAfter_14 ?_
  cases hf
  exact hend _ _ _ _ S dX9_drawnAfter_15
set_option maxRecDepth 100000 in
set_option maxHeartbeats 4000000 in
theorem b_X9_drawn_b164 (C : Cx p s m args c RX9 cX9_drawn 14) {q : Int} {k58 : Int → Int → Nat → Int → Int → Int → Int → Int → Int → Option (Int)} (hend : EndR p l e (rmk 2 48) s m args below meth c Q G true τ cX9_drawn .ireturn [.int (oI q)] σ) (hk58 : ∀ {H : Heap} {locs : List Loc} {ls : Array Slot} (v3 : Int) (v4 : Int) (t5 : Nat) (v6 : Int) (v7 : Int) (v8 : Int) (v9 : Int) (v10 : Int) (v11 : Int), t5 < 6 → St G true τ σ s H locs → lv_has ls 14 [(0, .ref (G.1 0)), (3, .int (oI v3)), (4, .int (oI v4)), (5, .ref (G.1 (21 + t5))), (6, .int (oI v6)), (7, .int (oI v7)), (8, .int (oI v8)), (9, .int (oI v9)), (10, .int (oI v10)), (11, .int (oI v11))] → k58 v3 v4 t5 v6 v7 v8 v9 v10 v11 = some q → W p l e (rmk 2 48) s m args below meth c H locs 0 0 Q (F0 m 58 ls [])) {H : Heap} {locs : List Loc} {ls : Array Slot} (v3 : Int) (v4 : Int) (t5 : Nat) (v6 : Int) (v7 : Int) (v9 : Int) (v10 : Int) (v11 : Int) (v13 : Int) (w0 : Int) (w1 : Int) (ht5 : t5 < 6) (S : St G true τ σ s H locs) (hl : lv_has ls 14 [(0, .ref (G.1 0)), (3, .int (oI v3)), (4, .int (oI v4)), (5, .ref (G.1 (21 + t5))), (6, .int (oI v6)), (7, .int (oI v7)), (9, .int (oI v9)), (10, .int (oI v10)), (11, .int (oI v11)), (13, .int (oI v13))]) (hf : f_X9_drawn_b164 σ k58 v3 v4 t5 v6 v7 v9 v10 v11 v13 w0 w1 = some q) : W p l e (rmk 2 48) s m args below meth c H locs 0 0 Q (F0 m 164 ls [.int (oI w0), .int (oI w1)]) := by
  unfold f_X9_drawn_b164 at hf
  refine r_iadd C dX9_drawn_164 ?_
  refine lv_istore C.1 C.2.1 dX9_drawn_165 hl (by decide) (lv' := [(8, .int (oI (w1 + w0))), (0, .ref (G.1 0)), (3, .int (oI v3)), (4, .int (oI v4)), (5, .ref (G.1 (21 + t5))), (6, .int (oI v6)), (7, .int (oI v7)), (9, .int (oI v9)), (10, .int (oI v10)), (11, .int (oI v11)), (13, .int (oI v13))]) rfl (fun ls hl => ?_)
  refine lv_iload C.1 C.2.1 dX9_drawn_167 (lv_at hl 7 rfl) ?_
  refine lv_iload C.1 C.2.1 dX9_drawn_169 (lv_at hl 10 rfl) ?_
  refine r_iadd C dX9_drawn_171 ?_
  refine lv_istore C.1 C.2.1 dX9_drawn_172 hl (by decide) (lv' := [(9, .int (oI (v9 + v13))), (8, .int (oI (w1 + w0))), (0, .ref (G.1 0)), (3, .int (oI v3)), (4, .int (oI v4)), (5, .ref (G.1 (21 + t5))), (6, .int (oI v6)), (7, .int (oI v7)), (10, .int (oI v10)), (11, .int (oI v11)), (13, .int (oI v13))]) rfl (fun ls hl => ?_)
  refine r_iinc C dX9_drawn_174 hl (k := 9) rfl (by decide) (lv' := [(11, .int (oI (v11 + 1))), (9, .int (oI (v9 + v13))), (8, .int (oI (w1 + w0))), (0, .ref (G.1 0)), (3, .int (oI v3)), (4, .int (oI v4)), (5, .ref (G.1 (21 + t5))), (6, .int (oI v6)), (7, .int (oI v7)), (10, .int (oI v10)), (13, .int (oI v13))]) rfl (fun ls hl => ?_)
  refine lv_goto C.1 C.2.1 (tgt := 58) dX9_drawn_177 (by decide) ?_
  exact hk58 v3 v4 t5 v6 v7 (w1 + w0) (v9 + v13) v10 (v11 + 1) (by omega) S (lv_sub hl [3, 4, 5, 6, 7, 8, 2, 1, 9, 0] rfl) hf
set_option maxRecDepth 100000 in
set_option maxHeartbeats 4000000 in
theorem b_X9_drawn_b147 (C : Cx p s m args c RX9 cX9_drawn 14) {q : Int} {k58 : Int → Int → Nat → Int → Int → Int → Int → Int → Int → Option (Int)} (hend : EndR p l e (rmk 2 48) s m args below meth c Q G true τ cX9_drawn .ireturn [.int (oI q)] σ) (hk58 : ∀ {H : Heap} {locs : List Loc} {ls : Array Slot} (v3 : Int) (v4 : Int) (t5 : Nat) (v6 : Int) (v7 : Int) (v8 : Int) (v9 : Int) (v10 : Int) (v11 : Int), t5 < 6 → St G true τ σ s H locs → lv_has ls 14 [(0, .ref (G.1 0)), (3, .int (oI v3)), (4, .int (oI v4)), (5, .ref (G.1 (21 + t5))), (6, .int (oI v6)), (7, .int (oI v7)), (8, .int (oI v8)), (9, .int (oI v9)), (10, .int (oI v10)), (11, .int (oI v11))] → k58 v3 v4 t5 v6 v7 v8 v9 v10 v11 = some q → W p l e (rmk 2 48) s m args below meth c H locs 0 0 Q (F0 m 58 ls [])) {H : Heap} {locs : List Loc} {ls : Array Slot} (v3 : Int) (v4 : Int) (t5 : Nat) (v6 : Int) (v7 : Int) (v8 : Int) (v9 : Int) (v10 : Int) (v11 : Int) (v13 : Int) (ht5 : t5 < 6) (S : St G true τ σ s H locs) (hl : lv_has ls 14 [(0, .ref (G.1 0)), (3, .int (oI v3)), (4, .int (oI v4)), (5, .ref (G.1 (21 + t5))), (6, .int (oI v6)), (7, .int (oI v7)), (8, .int (oI v8)), (9, .int (oI v9)), (10, .int (oI v10)), (11, .int (oI v11)), (13, .int (oI v13))]) (hf : f_X9_drawn_b147 σ k58 v3 v4 t5 v6 v7 v8 v9 v10 v11 v13 = some q) : W p l e (rmk 2 48) s m args below meth c H locs 0 0 Q (F0 m 147 ls []) := by
  unfold f_X9_drawn_b147 at hf
  refine lv_iload C.1 C.2.1 dX9_drawn_147 (lv_at hl 6 rfl) ?_
  refine lv_iload C.1 C.2.1 dX9_drawn_149 (lv_at hl 10 rfl) ?_
  refine lv_aload C.1 C.2.1 dX9_drawn_151 (lv_at hl 3 rfl) ?_
  refine g8_limit C (d := t5) S (by omega) tw_155 dX9_drawn_153 ?_
  refine r_icmp_le C rfl rfl (tgt := 163) dX9_drawn_156 (by decide) (fun h16 => ?_) (fun h16 => ?_)
  · replace hf := if_t hf h16
    refine r_iconst C dX9_drawn_163 ?_
    exact b_X9_drawn_b164 C hend hk58 v3 v4 t5 v6 v7 v9 v10 v11 v13 0 v8 (by omega) S (lv_sub hl [0, 1, 2, 3, 4, 5, 7, 8, 9, 10] rfl) hf
  · replace hf := if_f hf h16
    refine r_iconst C dX9_drawn_159 ?_
    refine lv_goto C.1 C.2.1 (tgt := 164) dX9_drawn_160 (by decide) ?_
    exact b_X9_drawn_b164 C hend hk58 v3 v4 t5 v6 v7 v9 v10 v11 v13 1 v8 (by omega) S (lv_sub hl [0, 1, 2, 3, 4, 5, 7, 8, 9, 10] rfl) hf
set_option maxRecDepth 100000 in
set_option maxHeartbeats 4000000 in
theorem b_X9_drawn_b180 (C : Cx p s m args c RX9 cX9_drawn 14) {q : Int} (hend : EndR p l e (rmk 2 48) s m args below meth c Q G true τ cX9_drawn .ireturn [.int (oI q)] σ) {H : Heap} {locs : List Loc} {ls : Array Slot} (v4 : Int) (v6 : Int) (v7 : Int) (v8 : Int) (v9 : Int) (S : St G true τ σ s H locs) (hl : lv_has ls 14 [(4, .int (oI v4)), (6, .int (oI v6)), (7, .int (oI v7)), (8, .int (oI v8)), (9, .int (oI v9))]) (hf : f_X9_drawn_b180 σ v4 v6 v7 v8 v9 = some q) : W p l e (rmk 2 48) s m args below meth c H locs 0 0 Q (F0 m 180 ls []) := by
  unfold f_X9_drawn_b180 at hf
  refine lv_iload C.1 C.2.1 dX9_drawn_180 (lv_at hl 0 rfl) ?_
  by_cases hs0 : w32 v4 = 0
  · replace hf := if_t hf hs0
    refine r_tabIn C (tgt := 208) (v := 0) dX9_drawn_182 hs0 (by decide) (by decide) rfl (by decide) ?_
    refine lv_iload C.1 C.2.1 dX9_drawn_208 (lv_at hl 1 rfl) ?_
    cases hf
    exact hend _ _ _ _ S dX9_drawn_210
  · replace hf := if_f hf hs0
    by_cases hs1 : w32 v4 = 1
    · replace hf := if_t hf hs1
      refine r_tabIn C (tgt := 211) (v := 1) dX9_drawn_182 hs1 (by decide) (by decide) rfl (by decide) ?_
      refine lv_iload C.1 C.2.1 dX9_drawn_211 (lv_at hl 2 rfl) ?_
      cases hf
      exact hend _ _ _ _ S dX9_drawn_213
    · replace hf := if_f hf hs1
      by_cases hs2 : w32 v4 = 2
      · replace hf := if_t hf hs2
        refine r_tabIn C (tgt := 214) (v := 2) dX9_drawn_182 hs2 (by decide) (by decide) rfl (by decide) ?_
        refine lv_iload C.1 C.2.1 dX9_drawn_214 (lv_at hl 3 rfl) ?_
        cases hf
        exact hend _ _ _ _ S dX9_drawn_216
      · replace hf := if_f hf hs2
        refine r_tabOut C (tgt := 217) dX9_drawn_182 (by omega) (by decide) ?_
        refine lv_iload C.1 C.2.1 dX9_drawn_217 (lv_at hl 4 rfl) ?_
        cases hf
        exact hend _ _ _ _ S dX9_drawn_219
set_option maxRecDepth 100000 in
set_option maxHeartbeats 4000000 in
theorem b_X9_drawn_b58 (C : Cx p s m args c RX9 cX9_drawn 14) {q : Int} (hend : EndR p l e (rmk 2 48) s m args below meth c Q G true τ cX9_drawn .ireturn [.int (oI q)] σ) : ∀ (n : Nat) {H : Heap} {locs : List Loc} {ls : Array Slot} (v3 : Int) (v4 : Int) (t5 : Nat) (v6 : Int) (v7 : Int) (v8 : Int) (v9 : Int) (v10 : Int) (v11 : Int) (ht5 : t5 < 6) (S : St G true τ σ s H locs) (hl : lv_has ls 14 [(0, .ref (G.1 0)), (3, .int (oI v3)), (4, .int (oI v4)), (5, .ref (G.1 (21 + t5))), (6, .int (oI v6)), (7, .int (oI v7)), (8, .int (oI v8)), (9, .int (oI v9)), (10, .int (oI v10)), (11, .int (oI v11))]) (hf : f_X9_drawn_b58 σ n v3 v4 t5 v6 v7 v8 v9 v10 v11 = some q), W p l e (rmk 2 48) s m args below meth c H locs 0 0 Q (F0 m 58 ls []) := by
  intro n
  induction n with
  | zero => intro H locs ls v3 v4 t5 v6 v7 v8 v9 v10 v11 ht5 S hl hf; cases hf
  | succ n ih =>
    intro H locs ls v3 v4 t5 v6 v7 v8 v9 v10 v11 ht5 S hl hf
    have hk58 := @ih
    rw [f_X9_drawn_b58] at hf
    refine lv_iload C.1 C.2.1 dX9_drawn_58 (lv_at hl 9 rfl) ?_
    refine lv_iload_n C.1 C.2.1 dX9_drawn_60 rfl (lv_at hl 1 rfl) ?_
    refine r_icmp_ge C rfl rfl (tgt := 180) dX9_drawn_61 (by decide) (fun h18 => ?_) (fun h18 => ?_)
    · replace hf := if_t hf h18
      refine lv_iload C.1 C.2.1 dX9_drawn_64 (lv_at hl 8 rfl) ?_
      obtain ⟨q4, hc5, hf⟩ := bd_o hf
      refine r_callSv C S (As := [.int (oI v10)]) (rest := []) (ct_X9_drawnAfter l G τ hc5) mi_X9_drawnAfter tw_937 ms_X9_drawnAfter ⟨rfl, rfl⟩ ⟨Nat.le_of_ble_eq_true rfl, Nat.le_of_ble_eq_true rfl⟩ ⟨Nat.zero_le _, Nat.zero_le _⟩ rfl hl.1 rfl (Nat.le_of_ble_eq_true rfl) dX9_drawn_66 (fun H locs S => ?_)
      refine lv_istore C.1 C.2.1 dX9_drawn_69 hl (by decide) (lv' := [(10, .int (oI q4)), (0, .ref (G.1 0)), (3, .int (oI v3)), (4, .int (oI v4)), (5, .ref (G.1 (21 + t5))), (6, .int (oI v6)), (7, .int (oI v7)), (8, .int (oI v8)), (9, .int (oI v9)), (11, .int (oI v11))]) rfl (fun ls hl => ?_)
      refine lv_iload C.1 C.2.1 dX9_drawn_71 (lv_at hl 0 rfl) ?_
      refine r_ldcw C tw_943 dX9_drawn_73 ?_
      obtain ⟨hz6, hf⟩ := ck_o hf
      refine r_idiv C hz6 dX9_drawn_76 ?_
      refine r_sipush C dX9_drawn_77 (by decide) ?_
      obtain ⟨hz7, hf⟩ := ck_o hf
      refine r_irem C hz7 dX9_drawn_80 ?_
      refine lv_istore C.1 C.2.1 dX9_drawn_81 hl (by decide) (lv' := [(12, .int (oI ((w32 ((w32 q4).tdiv (w32 65536))).tmod (w32 300)))), (10, .int (oI q4)), (0, .ref (G.1 0)), (3, .int (oI v3)), (4, .int (oI v4)), (5, .ref (G.1 (21 + t5))), (6, .int (oI v6)), (7, .int (oI v7)), (8, .int (oI v8)), (9, .int (oI v9)), (11, .int (oI v11))]) rfl (fun ls hl => ?_)
      refine lv_iload C.1 C.2.1 dX9_drawn_83 (lv_at hl 1 rfl) ?_
      obtain ⟨q8, hc9, hf⟩ := bd_o hf
      refine r_callSv C S (As := [.int (oI q4)]) (rest := []) (ct_X9_drawnAfter l G τ hc9) mi_X9_drawnAfter tw_937 ms_X9_drawnAfter ⟨rfl, rfl⟩ ⟨Nat.le_of_ble_eq_true rfl, Nat.le_of_ble_eq_true rfl⟩ ⟨Nat.zero_le _, Nat.zero_le _⟩ rfl hl.1 rfl (Nat.le_of_ble_eq_true rfl) dX9_drawn_85 (fun H locs S => ?_)
      refine lv_istore C.1 C.2.1 dX9_drawn_88 hl (by decide) (lv' := [(10, .int (oI q8)), (12, .int (oI ((w32 ((w32 q4).tdiv (w32 65536))).tmod (w32 300)))), (0, .ref (G.1 0)), (3, .int (oI v3)), (4, .int (oI v4)), (5, .ref (G.1 (21 + t5))), (6, .int (oI v6)), (7, .int (oI v7)), (8, .int (oI v8)), (9, .int (oI v9)), (11, .int (oI v11))]) rfl (fun ls hl => ?_)
      refine lv_aload_n C.1 C.2.1 dX9_drawn_90 rfl (lv_at hl 2 rfl) ?_
      refine g9_book C S tw_282 dX9_drawn_91 ?_
      refine lv_aload C.1 C.2.1 dX9_drawn_94 (lv_at hl 5 rfl) ?_
      refine g8_discs C (d := t5) S (by omega) tw_149 dX9_drawn_96 ?_
      refine g2_members C (d := t5) S (by omega) tw_133 dX9_drawn_99 ?_
      refine lv_aload_n C.1 C.2.1 dX9_drawn_102 rfl (lv_at hl 2 rfl) ?_
      refine g9_book C S tw_282 dX9_drawn_103 ?_
      refine lv_iload C.1 C.2.1 dX9_drawn_106 (lv_at hl 1 rfl) ?_
      refine lv_iload C.1 C.2.1 dX9_drawn_108 (lv_at hl 0 rfl) ?_
      refine r_ldcw C tw_943 dX9_drawn_110 ?_
      obtain ⟨hz10, hf⟩ := ck_o hf
      refine r_idiv C hz10 dX9_drawn_113 ?_
      refine r_sipush C dX9_drawn_114 (by decide) ?_
      obtain ⟨hz11, hf⟩ := ck_o hf
      refine r_irem C hz11 dX9_drawn_117 ?_
      refine lv_aload C.1 C.2.1 dX9_drawn_118 (lv_at hl 5 rfl) ?_
      refine g8_radius C (d := t5) S (by omega) tw_153 dX9_drawn_120 ?_
      obtain ⟨q12, hc13, hf⟩ := bd_o hf
      refine r_callVv C S (As := [.int (oI ((w32 ((w32 q4).tdiv (w32 65536))).tmod (w32 300))), .int (oI ((w32 ((w32 q8).tdiv (w32 65536))).tmod (w32 300))), .int (oI (σ (21 + t5) 3))]) (rest := [.int (oI (σ (27 + t5) 5)), .ref (G.1 6)]) (ct_X0_within l G τ hc13) mi_X0_within tw_825 mv_X0_within (rvX0 S) ⟨rfl, rfl⟩ ⟨Nat.le_of_ble_eq_true rfl, Nat.le_of_ble_eq_true rfl⟩ ⟨Nat.zero_le _, Nat.zero_le _⟩ rfl hl.1 rfl (Nat.le_of_ble_eq_true rfl) dX9_drawn_123 (fun H locs S => ?_)
      refine r_iand C rfl rfl dX9_drawn_126 ?_
      obtain ⟨q14, hc15, hf⟩ := bd_o hf
      refine r_callVv C S (As := [.int (oI ((((u32 (σ (27 + t5) 5)) &&& (u32 q12) : Nat) : Int)))]) (rest := []) (ct_X0_sums l G τ hc15) mi_X0_sums tw_652 mv_X0_sums (rvX0 S) ⟨rfl, rfl⟩ ⟨Nat.le_of_ble_eq_true rfl, Nat.le_of_ble_eq_true rfl⟩ ⟨Nat.zero_le _, Nat.zero_le _⟩ rfl hl.1 rfl (Nat.le_of_ble_eq_true rfl) dX9_drawn_127 (fun H locs S => ?_)
      refine lv_istore C.1 C.2.1 dX9_drawn_130 hl (by decide) (lv' := [(13, .int (oI q14)), (10, .int (oI q8)), (12, .int (oI ((w32 ((w32 q4).tdiv (w32 65536))).tmod (w32 300)))), (0, .ref (G.1 0)), (3, .int (oI v3)), (4, .int (oI v4)), (5, .ref (G.1 (21 + t5))), (6, .int (oI v6)), (7, .int (oI v7)), (8, .int (oI v8)), (9, .int (oI v9)), (11, .int (oI v11))]) rfl (fun ls hl => ?_)
      refine lv_iload C.1 C.2.1 dX9_drawn_132 (lv_at hl 0 rfl) ?_
      refine lv_iload C.1 C.2.1 dX9_drawn_134 (lv_at hl 7 rfl) ?_
      refine r_icmp_le C rfl rfl (tgt := 147) dX9_drawn_136 (by decide) (fun h17 => ?_) (fun h17 => ?_)
      · replace hf := if_t hf h17
        exact b_X9_drawn_b147 C hend hk58 v3 v4 t5 v6 v7 v8 v9 q8 v11 q14 (by omega) S (lv_sub hl [3, 4, 5, 6, 7, 8, 9, 10, 1, 11, 0] rfl) hf
      · replace hf := if_f hf h17
        refine lv_iload C.1 C.2.1 dX9_drawn_139 (lv_at hl 0 rfl) ?_
        refine lv_istore C.1 C.2.1 dX9_drawn_141 hl (by decide) (lv' := [(6, .int (oI q14)), (13, .int (oI q14)), (10, .int (oI q8)), (12, .int (oI ((w32 ((w32 q4).tdiv (w32 65536))).tmod (w32 300)))), (0, .ref (G.1 0)), (3, .int (oI v3)), (4, .int (oI v4)), (5, .ref (G.1 (21 + t5))), (7, .int (oI v7)), (8, .int (oI v8)), (9, .int (oI v9)), (11, .int (oI v11))]) rfl (fun ls hl => ?_)
        refine lv_iload C.1 C.2.1 dX9_drawn_143 (lv_at hl 11 rfl) ?_
        refine lv_istore C.1 C.2.1 dX9_drawn_145 hl (by decide) (lv' := [(7, .int (oI v11)), (6, .int (oI q14)), (13, .int (oI q14)), (10, .int (oI q8)), (12, .int (oI ((w32 ((w32 q4).tdiv (w32 65536))).tmod (w32 300)))), (0, .ref (G.1 0)), (3, .int (oI v3)), (4, .int (oI v4)), (5, .ref (G.1 (21 + t5))), (8, .int (oI v8)), (9, .int (oI v9)), (11, .int (oI v11))]) rfl (fun ls hl => ?_)
        exact b_X9_drawn_b147 C hend hk58 v3 v4 t5 q14 v11 v8 v9 q8 v11 q14 (by omega) S (lv_sub hl [5, 6, 7, 8, 1, 0, 9, 10, 3, 11, 2] rfl) hf
    · replace hf := if_f hf h18
      exact b_X9_drawn_b180 C hend v4 v6 v7 v8 v9 S (lv_sub hl [2, 4, 5, 6, 7] rfl) hf
set_option maxRecDepth 100000 in
set_option maxHeartbeats 4000000 in
theorem ct_X9_drawn (l : Launch) (G : Gd) (τ : Sg) {v1 : Int} {v2 : Int} {v3 : Int} {v4 : Int} {σ : Sg} {q : Int} (hf : f_X9_drawn v1 v2 v3 v4 σ = some q) : Ctr l yX9_drawn cX9_drawn 14 (some .int) (rmk 2 48) G true τ [.ref (G.1 0), .int (oI v1), .int (oI v2), .int (oI v3), .int (oI v4)] σ σ (some (.int (oI q))) := by
  unfold f_X9_drawn at hf
  refine CtrI.of (own := RX9) (plainFor_of_name (by decide)) (Nat.le_of_ble_eq_true rfl) rfl (fun p e s m below meth c Q ls C hl S hend => ?_)
  have hl : lv_has ls 14 [(0, .ref (G.1 0)), (1, .int (oI v1)), (2, .int (oI v2)), (3, .int (oI v3)), (4, .int (oI v4))] := hl
  refine lv_aload_n C.1 C.2.1 dX9_drawn_0 rfl (lv_at hl 0 rfl) ?_
  refine lv_iload_n C.1 C.2.1 dX9_drawn_1 rfl (lv_at hl 1 rfl) ?_
  obtain ⟨q1, hc2, hf⟩ := bd_o hf
  refine r_callVv C S (As := [.int (oI v1)]) (rest := []) (ct_X9_treatyAt l G τ hc2) mi_X9_treatyAt tw_528 mv_X9_treatyAt (rvX9 S) ⟨rfl, rfl⟩ ⟨Nat.le_of_ble_eq_true rfl, Nat.le_of_ble_eq_true rfl⟩ ⟨Nat.zero_le _, Nat.zero_le _⟩ rfl hl.1 rfl (Nat.le_of_ble_eq_true rfl) dX9_drawn_2 (fun H locs S => ?_)
  rcases q1 with _ | t3
  · replace hf := oT_n hf
    refine lv_astoreN C.1 C.2.1 dX9_drawn_5 hl (by decide) (lv' := [(5, .null), (0, .ref (G.1 0)), (1, .int (oI v1)), (2, .int (oI v2)), (3, .int (oI v3)), (4, .int (oI v4))]) rfl (fun ls hl => ?_)
    refine lv_aloadN C.1 C.2.1 dX9_drawn_7 (lv_at hl 0 rfl) ?_
    refine lv_ifnullN C.1 C.2.1 (tgt := 38) dX9_drawn_9 (by decide) ?_
    refine r_iconst C dX9_drawn_38 ?_
    cases hf
    exact hend _ _ _ _ S dX9_drawn_39
  · obtain ⟨ht3, hf⟩ := oT_s hf
    refine lv_astore C.1 C.2.1 dX9_drawn_5 hl (by decide) (lv' := [(5, .ref (G.1 (21 + t3))), (0, .ref (G.1 0)), (1, .int (oI v1)), (2, .int (oI v2)), (3, .int (oI v3)), (4, .int (oI v4))]) rfl (fun ls hl => ?_)
    refine lv_aload C.1 C.2.1 dX9_drawn_7 (lv_at hl 0 rfl) ?_
    refine lv_ifnull C.1 C.2.1 dX9_drawn_9 ?_
    refine lv_iload_n C.1 C.2.1 dX9_drawn_12 rfl (lv_at hl 3 rfl) ?_
    refine r_if_lt C rfl (tgt := 38) dX9_drawn_13 (by decide) (fun h23 => ?_) (fun h23 => ?_)
    · replace hf := if_t hf h23
      refine r_iconst C dX9_drawn_38 ?_
      cases hf
      exact hend _ _ _ _ S dX9_drawn_39
    · replace hf := if_f hf h23
      refine lv_iload_n C.1 C.2.1 dX9_drawn_16 rfl (lv_at hl 4 rfl) ?_
      refine r_iconst C dX9_drawn_17 ?_
      refine r_icmp_lt C rfl (show w32 1 = 1 by decide) (tgt := 38) dX9_drawn_18 (by decide) (fun h22 => ?_) (fun h22 => ?_)
      · replace hf := if_t hf h22
        refine r_iconst C dX9_drawn_38 ?_
        cases hf
        exact hend _ _ _ _ S dX9_drawn_39
      · replace hf := if_f hf h22
        refine lv_iload_n C.1 C.2.1 dX9_drawn_21 rfl (lv_at hl 4 rfl) ?_
        refine r_bipush C dX9_drawn_22 (by decide) ?_
        refine r_icmp_gt C rfl (show w32 100 = 100 by decide) (tgt := 38) dX9_drawn_24 (by decide) (fun h21 => ?_) (fun h21 => ?_)
        · replace hf := if_t hf h21
          refine lv_iload C.1 C.2.1 dX9_drawn_27 (lv_at hl 5 rfl) ?_
          refine r_if_lt C rfl (tgt := 38) dX9_drawn_29 (by decide) (fun h20 => ?_) (fun h20 => ?_)
          · replace hf := if_t hf h20
            refine r_iconst C dX9_drawn_38 ?_
            cases hf
            exact hend _ _ _ _ S dX9_drawn_39
          · replace hf := if_f hf h20
            refine lv_iload C.1 C.2.1 dX9_drawn_32 (lv_at hl 5 rfl) ?_
            refine r_iconst C dX9_drawn_34 ?_
            refine r_icmp_le C rfl (show w32 3 = 3 by decide) (tgt := 40) dX9_drawn_35 (by decide) (fun h19 => ?_) (fun h19 => ?_)
            · replace hf := if_t hf h19
              refine r_iconst C dX9_drawn_40 ?_
              refine lv_istore C.1 C.2.1 dX9_drawn_41 hl (by decide) (lv' := [(6, .int (oI 0)), (5, .ref (G.1 (21 + t3))), (0, .ref (G.1 0)), (1, .int (oI v1)), (2, .int (oI v2)), (3, .int (oI v3)), (4, .int (oI v4))]) rfl (fun ls hl => ?_)
              refine r_iconst C dX9_drawn_43 ?_
              refine lv_istore C.1 C.2.1 dX9_drawn_44 hl (by decide) (lv' := [(7, .int (oI 0)), (6, .int (oI 0)), (5, .ref (G.1 (21 + t3))), (0, .ref (G.1 0)), (1, .int (oI v1)), (2, .int (oI v2)), (3, .int (oI v3)), (4, .int (oI v4))]) rfl (fun ls hl => ?_)
              refine r_iconst C dX9_drawn_46 ?_
              refine lv_istore C.1 C.2.1 dX9_drawn_47 hl (by decide) (lv' := [(8, .int (oI 0)), (7, .int (oI 0)), (6, .int (oI 0)), (5, .ref (G.1 (21 + t3))), (0, .ref (G.1 0)), (1, .int (oI v1)), (2, .int (oI v2)), (3, .int (oI v3)), (4, .int (oI v4))]) rfl (fun ls hl => ?_)
              refine r_iconst C dX9_drawn_49 ?_
              refine lv_istore C.1 C.2.1 dX9_drawn_50 hl (by decide) (lv' := [(9, .int (oI 0)), (8, .int (oI 0)), (7, .int (oI 0)), (6, .int (oI 0)), (5, .ref (G.1 (21 + t3))), (0, .ref (G.1 0)), (1, .int (oI v1)), (2, .int (oI v2)), (3, .int (oI v3)), (4, .int (oI v4))]) rfl (fun ls hl => ?_)
              refine lv_iload_n C.1 C.2.1 dX9_drawn_52 rfl (lv_at hl 7 rfl) ?_
              refine lv_istore C.1 C.2.1 dX9_drawn_53 hl (by decide) (lv' := [(10, .int (oI v2)), (9, .int (oI 0)), (8, .int (oI 0)), (7, .int (oI 0)), (6, .int (oI 0)), (5, .ref (G.1 (21 + t3))), (0, .ref (G.1 0)), (1, .int (oI v1)), (2, .int (oI v2)), (3, .int (oI v3)), (4, .int (oI v4))]) rfl (fun ls hl => ?_)
              refine r_iconst C dX9_drawn_55 ?_
              refine lv_istore C.1 C.2.1 dX9_drawn_56 hl (by decide) (lv' := [(11, .int (oI 0)), (10, .int (oI v2)), (9, .int (oI 0)), (8, .int (oI 0)), (7, .int (oI 0)), (6, .int (oI 0)), (5, .ref (G.1 (21 + t3))), (0, .ref (G.1 0)), (1, .int (oI v1)), (2, .int (oI v2)), (3, .int (oI v3)), (4, .int (oI v4))]) rfl (fun ls hl => ?_)
              exact b_X9_drawn_b58 C hend FUEL v3 v4 t3 0 0 0 0 v2 0 (by omega) S (lv_sub hl [7, 10, 11, 6, 5, 4, 3, 2, 1, 0] rfl) hf
            · replace hf := if_f hf h19
              refine r_iconst C dX9_drawn_38 ?_
              cases hf
              exact hend _ _ _ _ S dX9_drawn_39
        · replace hf := if_f hf h21
          refine r_iconst C dX9_drawn_38 ?_
          cases hf
          exact hend _ _ _ _ S dX9_drawn_39
set_option maxRecDepth 100000 in
set_option maxHeartbeats 4000000 in
theorem ct_X5_latest (l : Launch) (G : Gd) (τ : Sg) {d : Nat} {v1 : Int} {v2 : Int} {σ : Sg} {q : Int} (hf : f_X5_latest d v1 v2 σ = some q) : Ctr l yX5_latest cX5_latest 4 (some .int) (rmk 0 0) G true τ [.ref (G.1 (13 + 2 * d)), .int (oI v1), .int (oI v2)] σ σ (some (.int (oI q))) := by
  unfold f_X5_latest at hf
  obtain ⟨hd, hf⟩ := ck_o hf
  refine CtrI.of (own := RX5) (plainFor_of_name (by decide)) (Nat.le_of_ble_eq_true rfl) rfl (fun p e s m below meth c Q ls C hl S hend => ?_)
  have hl : lv_has ls 4 [(0, .ref (G.1 (13 + 2 * d))), (1, .int (oI v1)), (2, .int (oI v2))] := hl
  refine lv_iload_n C.1 C.2.1 dX5_latest_0 rfl (lv_at hl 1 rfl) ?_
  refine r_if_lt C rfl (tgt := 18) dX5_latest_1 (by decide) (fun h7 => ?_) (fun h7 => ?_)
  · replace hf := if_t hf h7
    refine lv_aload_n C.1 C.2.1 dX5_latest_18 rfl (lv_at hl 0 rfl) ?_
    refine g5_lacking C (d := d) S (by omega) tw_191 dX5_latest_19 ?_
    cases hf
    exact hend _ _ _ _ S dX5_latest_22
  · replace hf := if_f hf h7
    refine lv_iload_n C.1 C.2.1 dX5_latest_4 rfl (lv_at hl 1 rfl) ?_
    refine r_bipush C dX5_latest_5 (by decide) ?_
    refine r_icmp_ge C rfl (show w32 30 = 30 by decide) (tgt := 18) dX5_latest_7 (by decide) (fun h6 => ?_) (fun h6 => ?_)
    · replace hf := if_t hf h6
      refine lv_iload_n C.1 C.2.1 dX5_latest_10 rfl (lv_at hl 1 rfl) ?_
      refine lv_aload_n C.1 C.2.1 dX5_latest_11 rfl (lv_at hl 0 rfl) ?_
      refine g5_count C (d := d) S (by omega) tw_192 dX5_latest_12 ?_
      refine r_icmp_lt C rfl rfl (tgt := 23) dX5_latest_15 (by decide) (fun h5 => ?_) (fun h5 => ?_)
      · replace hf := if_t hf h5
        refine lv_aload_n C.1 C.2.1 dX5_latest_23 rfl (lv_at hl 0 rfl) ?_
        refine g5_count C (d := d) S (by omega) tw_192 dX5_latest_24 ?_
        refine r_iconst C dX5_latest_27 ?_
        refine r_isub C dX5_latest_28 ?_
        refine lv_iload_n C.1 C.2.1 dX5_latest_29 rfl (lv_at hl 1 rfl) ?_
        refine r_isub C dX5_latest_30 ?_
        refine r_bipush C dX5_latest_31 (by decide) ?_
        obtain ⟨hz1, hf⟩ := ck_o hf
        refine r_irem C hz1 dX5_latest_33 ?_
        refine r_iconst C dX5_latest_34 ?_
        refine r_imul C dX5_latest_35 ?_
        refine lv_iload_n C.1 C.2.1 dX5_latest_36 rfl (lv_at hl 2 rfl) ?_
        refine r_iadd C dX5_latest_37 ?_
        refine lv_istore_n C.1 C.2.1 dX5_latest_38 rfl hl (by decide) (lv' := [(3, .int (oI ((((w32 (((σ (13 + 2 * d) 2) - 1) - v1)).tmod (w32 30)) * 3) + v2))), (0, .ref (G.1 (13 + 2 * d))), (1, .int (oI v1)), (2, .int (oI v2))]) rfl (fun ls hl => ?_)
        refine lv_iload_n C.1 C.2.1 dX5_latest_39 rfl (lv_at hl 0 rfl) ?_
        refine r_if_lt C rfl (tgt := 61) dX5_latest_40 (by decide) (fun h4 => ?_) (fun h4 => ?_)
        · replace hf := if_t hf h4
          refine lv_aload_n C.1 C.2.1 dX5_latest_61 rfl (lv_at hl 1 rfl) ?_
          refine g5_lacking C (d := d) S (by omega) tw_191 dX5_latest_62 ?_
          cases hf
          exact hend _ _ _ _ S dX5_latest_65
        · replace hf := if_f hf h4
          refine lv_iload_n C.1 C.2.1 dX5_latest_43 rfl (lv_at hl 0 rfl) ?_
          refine lv_aload_n C.1 C.2.1 dX5_latest_44 rfl (lv_at hl 1 rfl) ?_
          refine g5_parts C (d := d) S (by omega) tw_190 dX5_latest_45 ?_
          refine a_alen C S (ar_14 (d := d) (by omega)) dX5_latest_48 ?_
          refine r_icmp_ge C rfl (show w32 90 = 90 by decide) (tgt := 61) dX5_latest_49 (by decide) (fun h3 => ?_) (fun h3 => ?_)
          · replace hf := if_t hf h3
            refine lv_aload_n C.1 C.2.1 dX5_latest_52 rfl (lv_at hl 1 rfl) ?_
            refine g5_parts C (d := d) S (by omega) tw_190 dX5_latest_53 ?_
            refine lv_iload_n C.1 C.2.1 dX5_latest_56 rfl (lv_at hl 0 rfl) ?_
            obtain ⟨hi2, hf⟩ := ck_o hf
            refine a_iald C S (ar_14 (d := d) (by omega)) hi2 dX5_latest_57 ?_
            refine lv_goto C.1 C.2.1 (tgt := 65) dX5_latest_58 (by decide) ?_
            cases hf
            exact hend _ _ _ _ S dX5_latest_65
          · replace hf := if_f hf h3
            refine lv_aload_n C.1 C.2.1 dX5_latest_61 rfl (lv_at hl 1 rfl) ?_
            refine g5_lacking C (d := d) S (by omega) tw_191 dX5_latest_62 ?_
            cases hf
            exact hend _ _ _ _ S dX5_latest_65
      · replace hf := if_f hf h5
        refine lv_aload_n C.1 C.2.1 dX5_latest_18 rfl (lv_at hl 0 rfl) ?_
        refine g5_lacking C (d := d) S (by omega) tw_191 dX5_latest_19 ?_
        cases hf
        exact hend _ _ _ _ S dX5_latest_22
    · replace hf := if_f hf h6
      refine lv_aload_n C.1 C.2.1 dX5_latest_18 rfl (lv_at hl 0 rfl) ?_
      refine g5_lacking C (d := d) S (by omega) tw_191 dX5_latest_19 ?_
      cases hf
      exact hend _ _ _ _ S dX5_latest_22
set_option maxRecDepth 100000 in
set_option maxHeartbeats 4000000 in
theorem ct_X9_alarm (l : Launch) (G : Gd) (τ : Sg) {v1 : Int} {v2 : Int} {σ : Sg} {q : Int} (hf : f_X9_alarm v1 v2 σ = some q) : Ctr l yX9_alarm cX9_alarm 3 (some .int) (rmk 1 23) G true τ [.ref (G.1 0), .int (oI v1), .int (oI v2)] σ σ (some (.int (oI q))) := by
  unfold f_X9_alarm at hf
  refine CtrI.of (own := RX9) (plainFor_of_name (by decide)) (Nat.le_of_ble_eq_true rfl) rfl (fun p e s m below meth c Q ls C hl S hend => ?_)
  have hl : lv_has ls 3 [(0, .ref (G.1 0)), (1, .int (oI v1)), (2, .int (oI v2))] := hl
  refine lv_iload_n C.1 C.2.1 dX9_alarm_0 rfl (lv_at hl 1 rfl) ?_
  refine r_if_lt C rfl (tgt := 13) dX9_alarm_1 (by decide) (fun h5 => ?_) (fun h5 => ?_)
  · replace hf := if_t hf h5
    refine r_iconst C dX9_alarm_13 ?_
    refine lv_goto C.1 C.2.1 (tgt := 26) dX9_alarm_14 (by decide) ?_
    cases hf
    exact hend _ _ _ _ S dX9_alarm_26
  · replace hf := if_f hf h5
    refine lv_iload_n C.1 C.2.1 dX9_alarm_4 rfl (lv_at hl 2 rfl) ?_
    refine r_if_lt C rfl (tgt := 13) dX9_alarm_5 (by decide) (fun h4 => ?_) (fun h4 => ?_)
    · replace hf := if_t hf h4
      refine r_iconst C dX9_alarm_13 ?_
      refine lv_goto C.1 C.2.1 (tgt := 26) dX9_alarm_14 (by decide) ?_
      cases hf
      exact hend _ _ _ _ S dX9_alarm_26
    · replace hf := if_f hf h4
      refine lv_iload_n C.1 C.2.1 dX9_alarm_8 rfl (lv_at hl 2 rfl) ?_
      refine r_iconst C dX9_alarm_9 ?_
      refine r_icmp_le C rfl (show w32 2 = 2 by decide) (tgt := 17) dX9_alarm_10 (by decide) (fun h3 => ?_) (fun h3 => ?_)
      · replace hf := if_t hf h3
        refine lv_aload_n C.1 C.2.1 dX9_alarm_17 rfl (lv_at hl 0 rfl) ?_
        refine g9_alarms C S tw_286 dX9_alarm_18 ?_
        refine lv_iload_n C.1 C.2.1 dX9_alarm_21 rfl (lv_at hl 1 rfl) ?_
        refine lv_iload_n C.1 C.2.1 dX9_alarm_22 rfl (lv_at hl 2 rfl) ?_
        obtain ⟨q1, hc2, hf⟩ := bd_o hf
        refine r_callVv C S (As := [.int (oI v1), .int (oI v2)]) (rest := []) (ct_X5_latest l G τ hc2) mi_X5_latest tw_948 mv_X5_latest (rvX5 S (d := 1) (by decide)) ⟨rfl, rfl⟩ ⟨Nat.le_of_ble_eq_true rfl, Nat.le_of_ble_eq_true rfl⟩ ⟨Nat.zero_le _, Nat.zero_le _⟩ rfl hl.1 rfl (Nat.le_of_ble_eq_true rfl) dX9_alarm_23 (fun H locs S => ?_)
        cases hf
        exact hend _ _ _ _ S dX9_alarm_26
      · replace hf := if_f hf h3
        refine r_iconst C dX9_alarm_13 ?_
        refine lv_goto C.1 C.2.1 (tgt := 26) dX9_alarm_14 (by decide) ?_
        cases hf
        exact hend _ _ _ _ S dX9_alarm_26
set_option maxRecDepth 100000 in
set_option maxHeartbeats 4000000 in
theorem ct_X9_act (l : Launch) (G : Gd) (τ : Sg) {v1 : Int} {v2 : Int} {σ : Sg} {q : Int} (hf : f_X9_act v1 v2 σ = some q) : Ctr l yX9_act cX9_act 3 (some .int) (rmk 1 23) G true τ [.ref (G.1 0), .int (oI v1), .int (oI v2)] σ σ (some (.int (oI q))) := by
  unfold f_X9_act at hf
  refine CtrI.of (own := RX9) (plainFor_of_name (by decide)) (Nat.le_of_ble_eq_true rfl) rfl (fun p e s m below meth c Q ls C hl S hend => ?_)
  have hl : lv_has ls 3 [(0, .ref (G.1 0)), (1, .int (oI v1)), (2, .int (oI v2))] := hl
  refine lv_iload_n C.1 C.2.1 dX9_act_0 rfl (lv_at hl 1 rfl) ?_
  refine r_if_lt C rfl (tgt := 13) dX9_act_1 (by decide) (fun h5 => ?_) (fun h5 => ?_)
  · replace hf := if_t hf h5
    refine r_ldc C tw_185 dX9_act_13 ?_
    refine lv_goto C.1 C.2.1 (tgt := 27) dX9_act_15 (by decide) ?_
    cases hf
    exact hend _ _ _ _ S dX9_act_27
  · replace hf := if_f hf h5
    refine lv_iload_n C.1 C.2.1 dX9_act_4 rfl (lv_at hl 2 rfl) ?_
    refine r_if_lt C rfl (tgt := 13) dX9_act_5 (by decide) (fun h4 => ?_) (fun h4 => ?_)
    · replace hf := if_t hf h4
      refine r_ldc C tw_185 dX9_act_13 ?_
      refine lv_goto C.1 C.2.1 (tgt := 27) dX9_act_15 (by decide) ?_
      cases hf
      exact hend _ _ _ _ S dX9_act_27
    · replace hf := if_f hf h4
      refine lv_iload_n C.1 C.2.1 dX9_act_8 rfl (lv_at hl 2 rfl) ?_
      refine r_iconst C dX9_act_9 ?_
      refine r_icmp_le C rfl (show w32 2 = 2 by decide) (tgt := 18) dX9_act_10 (by decide) (fun h3 => ?_) (fun h3 => ?_)
      · replace hf := if_t hf h3
        refine lv_aload_n C.1 C.2.1 dX9_act_18 rfl (lv_at hl 0 rfl) ?_
        refine g9_acts C S tw_285 dX9_act_19 ?_
        refine lv_iload_n C.1 C.2.1 dX9_act_22 rfl (lv_at hl 1 rfl) ?_
        refine lv_iload_n C.1 C.2.1 dX9_act_23 rfl (lv_at hl 2 rfl) ?_
        obtain ⟨q1, hc2, hf⟩ := bd_o hf
        refine r_callVv C S (As := [.int (oI v1), .int (oI v2)]) (rest := []) (ct_X5_latest l G τ hc2) mi_X5_latest tw_948 mv_X5_latest (rvX5 S (d := 0) (by decide)) ⟨rfl, rfl⟩ ⟨Nat.le_of_ble_eq_true rfl, Nat.le_of_ble_eq_true rfl⟩ ⟨Nat.zero_le _, Nat.zero_le _⟩ rfl hl.1 rfl (Nat.le_of_ble_eq_true rfl) dX9_act_24 (fun H locs S => ?_)
        cases hf
        exact hend _ _ _ _ S dX9_act_27
      · replace hf := if_f hf h3
        refine r_ldc C tw_185 dX9_act_13 ?_
        refine lv_goto C.1 C.2.1 (tgt := 27) dX9_act_15 (by decide) ?_
        cases hf
        exact hend _ _ _ _ S dX9_act_27
set_option maxRecDepth 100000 in
set_option maxHeartbeats 4000000 in
theorem b_X9_passedTreaties_b32 (C : Cx p s m args c RX9 cX9_passedTreaties 4) {q : Int} {k4 : Int → Int → Option (Int)} (hend : EndR p l e (rmk 1 21) s m args below meth c Q G true τ cX9_passedTreaties .ireturn [.int (oI q)] σ) (hk4 : ∀ {H : Heap} {locs : List Loc} {ls : Array Slot} (v1 : Int) (v2 : Int), St G true τ σ s H locs → lv_has ls 4 [(0, .ref (G.1 0)), (1, .int (oI v1)), (2, .int (oI v2))] → k4 v1 v2 = some q → W p l e (rmk 1 21) s m args below meth c H locs 0 0 Q (F0 m 4 ls [])) {H : Heap} {locs : List Loc} {ls : Array Slot} (v1 : Int) (v2 : Int) (S : St G true τ σ s H locs) (hl : lv_has ls 4 [(0, .ref (G.1 0)), (1, .int (oI v1)), (2, .int (oI v2))]) (hf : f_X9_passedTreaties_b32 σ k4 v1 v2 = some q) : W p l e (rmk 1 21) s m args below meth c H locs 0 0 Q (F0 m 32 ls []) := by
  unfold f_X9_passedTreaties_b32 at hf
  refine r_iinc C dX9_passedTreaties_32 hl (k := 2) rfl (by decide) (lv' := [(2, .int (oI (v2 + 1))), (0, .ref (G.1 0)), (1, .int (oI v1))]) rfl (fun ls hl => ?_)
  refine lv_goto C.1 C.2.1 (tgt := 4) dX9_passedTreaties_35 (by decide) ?_
  exact hk4 v1 (v2 + 1) S (lv_sub hl [1, 2, 0] rfl) hf
set_option maxRecDepth 100000 in
set_option maxHeartbeats 4000000 in
theorem b_X9_passedTreaties_b4 (C : Cx p s m args c RX9 cX9_passedTreaties 4) {q : Int} (hend : EndR p l e (rmk 1 21) s m args below meth c Q G true τ cX9_passedTreaties .ireturn [.int (oI q)] σ) : ∀ (n : Nat) {H : Heap} {locs : List Loc} {ls : Array Slot} (v1 : Int) (v2 : Int) (S : St G true τ σ s H locs) (hl : lv_has ls 4 [(0, .ref (G.1 0)), (1, .int (oI v1)), (2, .int (oI v2))]) (hf : f_X9_passedTreaties_b4 σ n v1 v2 = some q), W p l e (rmk 1 21) s m args below meth c H locs 0 0 Q (F0 m 4 ls []) := by
  intro n
  induction n with
  | zero => intro H locs ls v1 v2 S hl hf; cases hf
  | succ n ih =>
    intro H locs ls v1 v2 S hl hf
    have hk4 := @ih
    rw [f_X9_passedTreaties_b4] at hf
    refine lv_iload_n C.1 C.2.1 dX9_passedTreaties_4 rfl (lv_at hl 2 rfl) ?_
    refine lv_aload_n C.1 C.2.1 dX9_passedTreaties_5 rfl (lv_at hl 0 rfl) ?_
    refine g9_treatyCount C S tw_284 dX9_passedTreaties_6 ?_
    refine r_icmp_ge C rfl rfl (tgt := 38) dX9_passedTreaties_9 (by decide) (fun h7 => ?_) (fun h7 => ?_)
    · replace hf := if_t hf h7
      refine lv_aload_n C.1 C.2.1 dX9_passedTreaties_12 rfl (lv_at hl 0 rfl) ?_
      refine lv_iload_n C.1 C.2.1 dX9_passedTreaties_13 rfl (lv_at hl 2 rfl) ?_
      obtain ⟨q1, hc2, hf⟩ := bd_o hf
      refine r_callVv C S (As := [.int (oI v2)]) (rest := []) (ct_X9_treatyAt l G τ hc2) mi_X9_treatyAt tw_528 mv_X9_treatyAt (rvX9 S) ⟨rfl, rfl⟩ ⟨Nat.le_of_ble_eq_true rfl, Nat.le_of_ble_eq_true rfl⟩ ⟨Nat.zero_le _, Nat.zero_le _⟩ rfl hl.1 rfl (Nat.le_of_ble_eq_true rfl) dX9_passedTreaties_14 (fun H locs S => ?_)
      rcases q1 with _ | t3
      · replace hf := oT_n hf
        refine lv_astore_nN C.1 C.2.1 dX9_passedTreaties_17 rfl hl (by decide) (lv' := [(3, .null), (0, .ref (G.1 0)), (1, .int (oI v1)), (2, .int (oI v2))]) rfl (fun ls hl => ?_)
        refine lv_aload_nN C.1 C.2.1 dX9_passedTreaties_18 rfl (lv_at hl 0 rfl) ?_
        refine lv_ifnullN C.1 C.2.1 (tgt := 32) dX9_passedTreaties_19 (by decide) ?_
        exact b_X9_passedTreaties_b32 C hend hk4 v1 v2 S (lv_sub hl [1, 2, 3] rfl) hf
      · obtain ⟨ht3, hf⟩ := oT_s hf
        refine lv_astore_n C.1 C.2.1 dX9_passedTreaties_17 rfl hl (by decide) (lv' := [(3, .ref (G.1 (21 + t3))), (0, .ref (G.1 0)), (1, .int (oI v1)), (2, .int (oI v2))]) rfl (fun ls hl => ?_)
        refine lv_aload_n C.1 C.2.1 dX9_passedTreaties_18 rfl (lv_at hl 0 rfl) ?_
        refine lv_ifnull C.1 C.2.1 dX9_passedTreaties_19 ?_
        refine lv_aload_n C.1 C.2.1 dX9_passedTreaties_22 rfl (lv_at hl 0 rfl) ?_
        obtain ⟨q4, hc5, hf⟩ := bd_o hf
        refine r_callVv C S (As := []) (rest := []) (ct_X8_isPassed l G τ hc5) mi_X8_isPassed tw_532 mv_X8_isPassed (rvX8 S (d := t3) (by omega)) ⟨rfl, rfl⟩ ⟨Nat.le_of_ble_eq_true rfl, Nat.le_of_ble_eq_true rfl⟩ ⟨Nat.zero_le _, Nat.zero_le _⟩ rfl hl.1 rfl (Nat.le_of_ble_eq_true rfl) dX9_passedTreaties_23 (fun H locs S => ?_)
        refine r_if_eq C rfl (tgt := 32) dX9_passedTreaties_26 (by decide) (fun h6 => ?_) (fun h6 => ?_)
        · replace hf := if_t hf h6
          exact b_X9_passedTreaties_b32 C hend hk4 v1 v2 S (lv_sub hl [1, 2, 3] rfl) hf
        · replace hf := if_f hf h6
          refine r_iinc C dX9_passedTreaties_29 hl (k := 2) rfl (by decide) (lv' := [(1, .int (oI (v1 + 1))), (3, .ref (G.1 (21 + t3))), (0, .ref (G.1 0)), (2, .int (oI v2))]) rfl (fun ls hl => ?_)
          exact b_X9_passedTreaties_b32 C hend hk4 (v1 + 1) v2 S (lv_sub hl [2, 0, 3] rfl) hf
    · replace hf := if_f hf h7
      refine lv_iload_n C.1 C.2.1 dX9_passedTreaties_38 rfl (lv_at hl 1 rfl) ?_
      cases hf
      exact hend _ _ _ _ S dX9_passedTreaties_39
set_option maxRecDepth 100000 in
set_option maxHeartbeats 4000000 in
theorem ct_X9_passedTreaties (l : Launch) (G : Gd) (τ : Sg) {σ : Sg} {q : Int} (hf : f_X9_passedTreaties σ = some q) : Ctr l yX9_passedTreaties cX9_passedTreaties 4 (some .int) (rmk 1 21) G true τ [.ref (G.1 0)] σ σ (some (.int (oI q))) := by
  unfold f_X9_passedTreaties at hf
  refine CtrI.of (own := RX9) (plainFor_of_name (by decide)) (Nat.le_of_ble_eq_true rfl) rfl (fun p e s m below meth c Q ls C hl S hend => ?_)
  have hl : lv_has ls 4 [(0, .ref (G.1 0))] := hl
  refine r_iconst C dX9_passedTreaties_0 ?_
  refine lv_istore_n C.1 C.2.1 dX9_passedTreaties_1 rfl hl (by decide) (lv' := [(1, .int (oI 0)), (0, .ref (G.1 0))]) rfl (fun ls hl => ?_)
  refine r_iconst C dX9_passedTreaties_2 ?_
  refine lv_istore_n C.1 C.2.1 dX9_passedTreaties_3 rfl hl (by decide) (lv' := [(2, .int (oI 0)), (1, .int (oI 0)), (0, .ref (G.1 0))]) rfl (fun ls hl => ?_)
  exact b_X9_passedTreaties_b4 C hend FUEL 0 0 S (lv_sub hl [2, 1, 0] rfl) hf
set_option maxRecDepth 100000 in
set_option maxHeartbeats 4000000 in
theorem b_X0_unlikePlaces_b50 (C : Cx p s m args c RX0 cX0_unlikePlaces 3) {q : Int} {k4 : Int → Int → Option (Int)} (hend : EndR p l e (rmk 2 48) s m args below meth c Q G true τ cX0_unlikePlaces .ireturn [.int (oI q)] σ) (hk4 : ∀ {H : Heap} {locs : List Loc} {ls : Array Slot} (v1 : Int) (v2 : Int), St G true τ σ s H locs → lv_has ls 3 [(0, .ref (G.1 6)), (1, .int (oI v1)), (2, .int (oI v2))] → k4 v1 v2 = some q → W p l e (rmk 2 48) s m args below meth c H locs 0 0 Q (F0 m 4 ls [])) {H : Heap} {locs : List Loc} {ls : Array Slot} (v1 : Int) (v2 : Int) (S : St G true τ σ s H locs) (hl : lv_has ls 3 [(0, .ref (G.1 6)), (1, .int (oI v1)), (2, .int (oI v2))]) (hf : f_X0_unlikePlaces_b50 σ k4 v1 v2 = some q) : W p l e (rmk 2 48) s m args below meth c H locs 0 0 Q (F0 m 50 ls []) := by
  unfold f_X0_unlikePlaces_b50 at hf
  refine r_iinc C dX0_unlikePlaces_50 hl (k := 2) rfl (by decide) (lv' := [(2, .int (oI (v2 + 1))), (0, .ref (G.1 6)), (1, .int (oI v1))]) rfl (fun ls hl => ?_)
  refine lv_goto C.1 C.2.1 (tgt := 4) dX0_unlikePlaces_53 (by decide) ?_
  exact hk4 v1 (v2 + 1) S (lv_sub hl [1, 2, 0] rfl) hf
set_option maxRecDepth 100000 in
set_option maxHeartbeats 4000000 in
theorem b_X0_unlikePlaces_b4 (C : Cx p s m args c RX0 cX0_unlikePlaces 3) {q : Int} (hend : EndR p l e (rmk 2 48) s m args below meth c Q G true τ cX0_unlikePlaces .ireturn [.int (oI q)] σ) : ∀ (n : Nat) {H : Heap} {locs : List Loc} {ls : Array Slot} (v1 : Int) (v2 : Int) (S : St G true τ σ s H locs) (hl : lv_has ls 3 [(0, .ref (G.1 6)), (1, .int (oI v1)), (2, .int (oI v2))]) (hf : f_X0_unlikePlaces_b4 σ n v1 v2 = some q), W p l e (rmk 2 48) s m args below meth c H locs 0 0 Q (F0 m 4 ls []) := by
  intro n
  induction n with
  | zero => intro H locs ls v1 v2 S hl hf; cases hf
  | succ n ih =>
    intro H locs ls v1 v2 S hl hf
    have hk4 := @ih
    rw [f_X0_unlikePlaces_b4] at hf
    refine lv_iload_n C.1 C.2.1 dX0_unlikePlaces_4 rfl (lv_at hl 2 rfl) ?_
    refine r_bipush C dX0_unlikePlaces_5 (by decide) ?_
    refine r_icmp_ge C rfl (show w32 24 = 24 by decide) (tgt := 56) dX0_unlikePlaces_7 (by decide) (fun h9 => ?_) (fun h9 => ?_)
    · replace hf := if_t hf h9
      refine lv_aload_n C.1 C.2.1 dX0_unlikePlaces_10 rfl (lv_at hl 0 rfl) ?_
      refine g0_inForce C S tw_98 dX0_unlikePlaces_11 ?_
      refine lv_iload_n C.1 C.2.1 dX0_unlikePlaces_14 rfl (lv_at hl 2 rfl) ?_
      obtain ⟨q1, hc2, hf⟩ := bd_o hf
      refine r_callSNv C S (As := [.int (oI (σ 6 5)), .int (oI v2)]) (rest := []) (ct_X9_contains l G τ hc2) mi_X9_contains (nw_461 S.2.2.2) ms_X9_contains ⟨rfl, rfl⟩ ⟨Nat.le_of_ble_eq_true rfl, Nat.le_of_ble_eq_true rfl⟩ ⟨Nat.zero_le _, Nat.zero_le _⟩ rfl hl.1 rfl (Nat.le_of_ble_eq_true rfl) dX0_unlikePlaces_15 (fun H locs S => ?_)
      refine r_if_eq C rfl (tgt := 50) dX0_unlikePlaces_18 (by decide) (fun h8 => ?_) (fun h8 => ?_)
      · replace hf := if_t hf h8
        exact b_X0_unlikePlaces_b50 C hend hk4 v1 v2 S (lv_sub hl [0, 1, 2] rfl) hf
      · replace hf := if_f hf h8
        refine lv_aload_n C.1 C.2.1 dX0_unlikePlaces_21 rfl (lv_at hl 0 rfl) ?_
        refine lv_aload_n C.1 C.2.1 dX0_unlikePlaces_22 rfl (lv_at hl 0 rfl) ?_
        refine g0_x C S tw_91 dX0_unlikePlaces_23 ?_
        refine lv_iload_n C.1 C.2.1 dX0_unlikePlaces_26 rfl (lv_at hl 2 rfl) ?_
        obtain ⟨hi3, hf⟩ := ck_o hf
        refine a_iald C S ar_7 hi3 dX0_unlikePlaces_27 ?_
        refine lv_aload_n C.1 C.2.1 dX0_unlikePlaces_28 rfl (lv_at hl 0 rfl) ?_
        refine g0_y C S tw_93 dX0_unlikePlaces_29 ?_
        refine lv_iload_n C.1 C.2.1 dX0_unlikePlaces_32 rfl (lv_at hl 2 rfl) ?_
        obtain ⟨hi4, hf⟩ := ck_o hf
        refine a_iald C S ar_8 hi4 dX0_unlikePlaces_33 ?_
        refine r_iconst C dX0_unlikePlaces_34 ?_
        obtain ⟨q5, hc6, hf⟩ := bd_o hf
        refine r_callVv C S (As := [.int (oI (σ 7 (v2).toNat)), .int (oI (σ 8 (v2).toNat)), .int (oI 0)]) (rest := []) (ct_X0_within l G τ hc6) mi_X0_within tw_968 mv_X0_within (rvX0 S) ⟨rfl, rfl⟩ ⟨Nat.le_of_ble_eq_true rfl, Nat.le_of_ble_eq_true rfl⟩ ⟨Nat.zero_le _, Nat.zero_le _⟩ rfl hl.1 rfl (Nat.le_of_ble_eq_true rfl) dX0_unlikePlaces_35 (fun H locs S => ?_)
        refine r_iconst C dX0_unlikePlaces_38 ?_
        refine lv_iload_n C.1 C.2.1 dX0_unlikePlaces_39 rfl (lv_at hl 2 rfl) ?_
        refine r_ishl C (y1 := (u32 v2 % 32)) rfl dX0_unlikePlaces_40 ?_
        refine r_iconst C dX0_unlikePlaces_41 ?_
        refine r_isub C dX0_unlikePlaces_42 ?_
        refine r_iand C rfl rfl dX0_unlikePlaces_43 ?_
        refine r_if_ne C rfl (tgt := 50) dX0_unlikePlaces_44 (by decide) (fun h7 => ?_) (fun h7 => ?_)
        · replace hf := if_t hf h7
          refine r_iinc C dX0_unlikePlaces_47 hl (k := 1) rfl (by decide) (lv' := [(1, .int (oI (v1 + 1))), (0, .ref (G.1 6)), (2, .int (oI v2))]) rfl (fun ls hl => ?_)
          exact b_X0_unlikePlaces_b50 C hend hk4 (v1 + 1) v2 S (lv_sub hl [1, 0, 2] rfl) hf
        · replace hf := if_f hf h7
          exact b_X0_unlikePlaces_b50 C hend hk4 v1 v2 S (lv_sub hl [0, 1, 2] rfl) hf
    · replace hf := if_f hf h9
      refine lv_iload_n C.1 C.2.1 dX0_unlikePlaces_56 rfl (lv_at hl 1 rfl) ?_
      cases hf
      exact hend _ _ _ _ S dX0_unlikePlaces_57
set_option maxRecDepth 100000 in
set_option maxHeartbeats 4000000 in
theorem ct_X0_unlikePlaces (l : Launch) (G : Gd) (τ : Sg) {σ : Sg} {q : Int} (hf : f_X0_unlikePlaces σ = some q) : Ctr l yX0_unlikePlaces cX0_unlikePlaces 3 (some .int) (rmk 2 48) G true τ [.ref (G.1 6)] σ σ (some (.int (oI q))) := by
  unfold f_X0_unlikePlaces at hf
  refine CtrI.of (own := RX0) (plainFor_of_name (by decide)) (Nat.le_of_ble_eq_true rfl) rfl (fun p e s m below meth c Q ls C hl S hend => ?_)
  have hl : lv_has ls 3 [(0, .ref (G.1 6))] := hl
  refine r_iconst C dX0_unlikePlaces_0 ?_
  refine lv_istore_n C.1 C.2.1 dX0_unlikePlaces_1 rfl hl (by decide) (lv' := [(1, .int (oI 0)), (0, .ref (G.1 6))]) rfl (fun ls hl => ?_)
  refine r_iconst C dX0_unlikePlaces_2 ?_
  refine lv_istore_n C.1 C.2.1 dX0_unlikePlaces_3 rfl hl (by decide) (lv' := [(2, .int (oI 0)), (1, .int (oI 0)), (0, .ref (G.1 6))]) rfl (fun ls hl => ?_)
  exact b_X0_unlikePlaces_b4 C hend FUEL 0 0 S (lv_sub hl [2, 1, 0] rfl) hf
end WK
