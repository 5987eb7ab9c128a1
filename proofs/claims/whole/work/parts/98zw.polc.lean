/-! ===== the method that throws: its contract, the catcher's contract, the law's case ===== -/
set_option maxRecDepth 100000 in
set_option maxHeartbeats 4000000 in
theorem ct_pol (l : Launch) (hst : l.stackTraces = false) (G : Gd) (τ : Sg) {v1 v2 : Int} {σ : Sg} {q : Int ⊕ Nat} (hf : PolR v1 v2 σ = some q) : vx_Met l yX9_policy (Cond.code yX9_policy cX9_policy 3 (some .int) :: GW) rmX (va_Pc [.ref (G.1 0), .int (oI v1), .int (oI v2)] (PreX G (mix true τ σ))) (QX G (mix true τ σ) q) (XX G (mix true τ σ) q) 1 6 (AG G) := by
  unfold PolR at hf
  refine vx_ofW (cc := cX9_policy) (maxL := 3) (ret := some .int) (by decide) rfl ?_
  intro p e s m args below meth c s₁ B hml hno hv
  obtain ⟨rfl, ⟨hW0, hZ0⟩, hX, hZ⟩ := hv
  have hts := atoms_spec (ws := Cond.code yX9_policy cX9_policy 3 (some .int) :: GW) B.pre
  rw [lg_entry_eq]
  have hl := lv_entry [Value.ref (G.1 0), .int (oI v1), .int (oI v2)] (n := 3) (Nat.le_of_ble_eq_true rfl)
  generalize ((lg_sl [Value.ref (G.1 0), .int (oI v1), .int (oI v2)] ++ List.replicate (3 - (lg_sl [Value.ref (G.1 0), .int (oI v1), .int (oI v2)]).length) Slot.unset).toArray) = ls at hl ⊢
  have hl : lv_has ls 3 [(0, .ref (G.1 0)), (1, .int (oI v1)), (2, .int (oI v2))] := hl
  have C : Cx p s m [Value.ref (G.1 0), .int (oI v1), .int (oI v2)].toArray c RX9 cX9_policy 3 := ⟨B.exec, B.bytes, hml, findClass_of_methodNamed B.named, fun w hw => hts w (List.mem_cons_of_mem _ hw)⟩
  have S : St G true τ σ s s.heap [] := ⟨hW0, va_S.rf, hZ0⟩
  show W p l e rmX s m _ below meth c s.heap [] 0 0 _ (F0 m 0 ls [])
  have hend : ∀ (H : Heap) (locs : List Loc) (pc : Nat) (ls : Array Slot) (z : Int), St G true τ σ s H locs → q = Sum.inl z → decode cX9_policy pc = .ok (.ireturn, 1) → W p l e rmX s m [Value.ref (G.1 0), .int (oI v1), .int (oI v2)].toArray below meth c H locs 0 0 (vx_MQ below (QX G (mix true τ σ) q) (XX G (mix true τ σ) q) [Value.ref (G.1 0), .int (oI v1), .int (oI v2)].toArray s 1 6 (AG G)) (F0 m pc ls [.int (oI z)]) := fun H locs pc ls z S hq hdg => W.widen (k := 1) (n := 6) (by decide) (by decide) (vx_ret (W.iret B.exec B.bytes B.returns (fun t ht hW => ⟨⟨z, hq, rfl⟩, by rw [ht]; exact S.1.moved hW.alike, S.2.1.F ht⟩) S.2.1.2.2 hdg B.notSynchronized))
  generalize hQ : vx_MQ below (QX G (mix true τ σ) q) (XX G (mix true τ σ) q) [Value.ref (G.1 0), .int (oI v1), .int (oI v2)].toArray s 1 6 (AG G) = Q at hend ⊢
  refine lv_aload_n C.1 C.2.1 dX9_policy_0 rfl (lv_at hl 0 rfl) ?_
  refine g9_book C S tw_282 dX9_policy_1 ?_
  refine lv_iload_n C.1 C.2.1 dX9_policy_4 rfl (lv_at hl 1 rfl) ?_
  obtain ⟨q1, hc1, hf⟩ := bd_o hf
  refine r_callVv C S (As := [.int (oI v1)]) (rest := []) (ct_X0_has l G τ hc1) mi_X0_has tw_581 mv_X0_has (rvX0 S) ⟨rfl, rfl⟩ ⟨Nat.le_of_ble_eq_true rfl, Nat.le_of_ble_eq_true rfl⟩ ⟨Nat.zero_le _, Nat.zero_le _⟩ rfl hl.1 rfl (Nat.le_of_ble_eq_true rfl) dX9_policy_5 (fun H locs S => ?_)
  refine r_if_ne C rfl (tgt := 19) dX9_policy_8 (by decide) (fun h1 => ?_) (fun h1 => ?_)
  · replace hf := if_t hf h1
    cases hf
    subst hQ
    exact vx_throw0 C.1 C.2.1 hst (names := xUp) (A := AG G) C.2.2.2.1 (by decide) (by decide) (C.2.2.2.2 _ tx_IO) (C.2.2.2.2 _ ti_IO) (xat_IO C hX) ot_IO hZ.1 hZ.2 S.2.1 (hl.1.trans hml.symm) dX9_policy_11 dX9_policy_14 dX9_policy_15 dX9_policy_18 (fun x hx => (hno x hx).elim) (by decide) (by decide) (by decide) (by decide) B.notSynchronized (fun t ha hz hk => ⟨Or.inl ⟨rfl, rfl⟩, S.grow ha hz hk⟩) S.2.1.2.2 (by decide) (by decide)
  · replace hf := if_f hf h1
    refine lv_iload_n C.1 C.2.1 dX9_policy_19 rfl (lv_at hl 2 rfl) ?_
    by_cases hs0 : w32 v2 = 0
    · replace hf := if_t hf hs0
      refine r_tabIn C (tgt := 56) (v := 0) dX9_policy_20 hs0 (by decide) (by decide) rfl (by decide) ?_
      refine lv_aload_n C.1 C.2.1 dX9_policy_56 rfl (lv_at hl 0 rfl) ?_
      refine g9_book C S tw_282 dX9_policy_57 ?_
      refine lv_iload_n C.1 C.2.1 dX9_policy_60 rfl (lv_at hl 1 rfl) ?_
      obtain ⟨q2, hc2, hf⟩ := bd_o hf
      refine r_callVv C S (As := [.int (oI v1)]) (rest := []) (ct_X0_xOf l G τ hc2) mi_X0_xOf tw_806 mv_X0_xOf (rvX0 S) ⟨rfl, rfl⟩ ⟨Nat.le_of_ble_eq_true rfl, Nat.le_of_ble_eq_true rfl⟩ ⟨Nat.zero_le _, Nat.zero_le _⟩ rfl hl.1 rfl (Nat.le_of_ble_eq_true rfl) dX9_policy_61 (fun H locs S => ?_)
      cases hf
      exact hend _ _ _ _ _ S rfl dX9_policy_64
    replace hf := if_f hf hs0
    by_cases hs1 : w32 v2 = 1
    · replace hf := if_t hf hs1
      refine r_tabIn C (tgt := 65) (v := 1) dX9_policy_20 hs1 (by decide) (by decide) rfl (by decide) ?_
      refine lv_aload_n C.1 C.2.1 dX9_policy_65 rfl (lv_at hl 0 rfl) ?_
      refine g9_book C S tw_282 dX9_policy_66 ?_
      refine lv_iload_n C.1 C.2.1 dX9_policy_69 rfl (lv_at hl 1 rfl) ?_
      obtain ⟨q2, hc2, hf⟩ := bd_o hf
      refine r_callVv C S (As := [.int (oI v1)]) (rest := []) (ct_X0_yOf l G τ hc2) mi_X0_yOf tw_813 mv_X0_yOf (rvX0 S) ⟨rfl, rfl⟩ ⟨Nat.le_of_ble_eq_true rfl, Nat.le_of_ble_eq_true rfl⟩ ⟨Nat.zero_le _, Nat.zero_le _⟩ rfl hl.1 rfl (Nat.le_of_ble_eq_true rfl) dX9_policy_70 (fun H locs S => ?_)
      cases hf
      exact hend _ _ _ _ _ S rfl dX9_policy_73
    replace hf := if_f hf hs1
    by_cases hs2 : w32 v2 = 2
    · replace hf := if_t hf hs2
      refine r_tabIn C (tgt := 74) (v := 2) dX9_policy_20 hs2 (by decide) (by decide) rfl (by decide) ?_
      refine lv_aload_n C.1 C.2.1 dX9_policy_74 rfl (lv_at hl 0 rfl) ?_
      refine g9_book C S tw_282 dX9_policy_75 ?_
      refine lv_iload_n C.1 C.2.1 dX9_policy_78 rfl (lv_at hl 1 rfl) ?_
      obtain ⟨q2, hc2, hf⟩ := bd_o hf
      refine r_callVv C S (As := [.int (oI v1)]) (rest := []) (ct_X0_sumOf l G τ hc2) mi_X0_sumOf tw_614 mv_X0_sumOf (rvX0 S) ⟨rfl, rfl⟩ ⟨Nat.le_of_ble_eq_true rfl, Nat.le_of_ble_eq_true rfl⟩ ⟨Nat.zero_le _, Nat.zero_le _⟩ rfl hl.1 rfl (Nat.le_of_ble_eq_true rfl) dX9_policy_79 (fun H locs S => ?_)
      cases hf
      exact hend _ _ _ _ _ S rfl dX9_policy_82
    replace hf := if_f hf hs2
    by_cases hs3 : w32 v2 = 3
    · replace hf := if_t hf hs3
      refine r_tabIn C (tgt := 83) (v := 3) dX9_policy_20 hs3 (by decide) (by decide) rfl (by decide) ?_
      refine lv_aload_n C.1 C.2.1 dX9_policy_83 rfl (lv_at hl 0 rfl) ?_
      refine g9_book C S tw_282 dX9_policy_84 ?_
      refine lv_iload_n C.1 C.2.1 dX9_policy_87 rfl (lv_at hl 1 rfl) ?_
      obtain ⟨q2, hc2, hf⟩ := bd_o hf
      refine r_callVv C S (As := [.int (oI v1)]) (rest := []) (ct_X0_perilOf l G τ hc2) mi_X0_perilOf tw_585 mv_X0_perilOf (rvX0 S) ⟨rfl, rfl⟩ ⟨Nat.le_of_ble_eq_true rfl, Nat.le_of_ble_eq_true rfl⟩ ⟨Nat.zero_le _, Nat.zero_le _⟩ rfl hl.1 rfl (Nat.le_of_ble_eq_true rfl) dX9_policy_88 (fun H locs S => ?_)
      cases hf
      exact hend _ _ _ _ _ S rfl dX9_policy_91
    replace hf := if_f hf hs3
    by_cases hs4 : w32 v2 = 4
    · replace hf := if_t hf hs4
      refine r_tabIn C (tgt := 92) (v := 4) dX9_policy_20 hs4 (by decide) (by decide) rfl (by decide) ?_
      refine lv_aload_n C.1 C.2.1 dX9_policy_92 rfl (lv_at hl 0 rfl) ?_
      refine g9_book C S tw_282 dX9_policy_93 ?_
      refine lv_aload_n C.1 C.2.1 dX9_policy_96 rfl (lv_at hl 0 rfl) ?_
      refine g9_book C S tw_282 dX9_policy_97 ?_
      refine lv_iload_n C.1 C.2.1 dX9_policy_100 rfl (lv_at hl 1 rfl) ?_
      obtain ⟨q2, hc2, hf⟩ := bd_o hf
      refine r_callVv C S (As := [.int (oI v1)]) (rest := [.ref (G.1 6)]) (ct_X0_xOf l G τ hc2) mi_X0_xOf tw_806 mv_X0_xOf (rvX0 S) ⟨rfl, rfl⟩ ⟨Nat.le_of_ble_eq_true rfl, Nat.le_of_ble_eq_true rfl⟩ ⟨Nat.zero_le _, Nat.zero_le _⟩ rfl hl.1 rfl (Nat.le_of_ble_eq_true rfl) dX9_policy_101 (fun H locs S => ?_)
      refine lv_aload_n C.1 C.2.1 dX9_policy_104 rfl (lv_at hl 0 rfl) ?_
      refine g9_book C S tw_282 dX9_policy_105 ?_
      refine lv_iload_n C.1 C.2.1 dX9_policy_108 rfl (lv_at hl 1 rfl) ?_
      obtain ⟨q3, hc3, hf⟩ := bd_o hf
      refine r_callVv C S (As := [.int (oI v1)]) (rest := [.int (oI q2), .ref (G.1 6)]) (ct_X0_yOf l G τ hc3) mi_X0_yOf tw_813 mv_X0_yOf (rvX0 S) ⟨rfl, rfl⟩ ⟨Nat.le_of_ble_eq_true rfl, Nat.le_of_ble_eq_true rfl⟩ ⟨Nat.zero_le _, Nat.zero_le _⟩ rfl hl.1 rfl (Nat.le_of_ble_eq_true rfl) dX9_policy_109 (fun H locs S => ?_)
      refine r_iconst C dX9_policy_112 ?_
      obtain ⟨q4, hc4, hf⟩ := bd_o hf
      refine r_callVv C S (As := [.int (oI q2), .int (oI q3), .int (oI 0)]) (rest := []) (ct_X0_within l G τ hc4) mi_X0_within tw_825 mv_X0_within (rvX0 S) ⟨rfl, rfl⟩ ⟨Nat.le_of_ble_eq_true rfl, Nat.le_of_ble_eq_true rfl⟩ ⟨Nat.zero_le _, Nat.zero_le _⟩ rfl hl.1 rfl (Nat.le_of_ble_eq_true rfl) dX9_policy_113 (fun H locs S => ?_)
      obtain ⟨q5, hc5, hf⟩ := bd_o hf
      refine r_callSv C S (As := [.int (oI q4)]) (rest := []) (ct_J6_bitCount_0f7a4 l G τ hc5) mi_J6_bitCount_0f7a4 tw_646 ms_J6_bitCount_0f7a4 ⟨rfl, rfl⟩ ⟨Nat.le_of_ble_eq_true rfl, Nat.le_of_ble_eq_true rfl⟩ ⟨Nat.zero_le _, Nat.zero_le _⟩ rfl hl.1 rfl (Nat.le_of_ble_eq_true rfl) dX9_policy_116 (fun H locs S => ?_)
      refine r_iconst C dX9_policy_119 ?_
      refine r_isub C dX9_policy_120 ?_
      cases hf
      exact hend _ _ _ _ _ S rfl dX9_policy_121
    · replace hf := if_f hf hs4
      refine r_tabOut C (tgt := 122) dX9_policy_20 (by omega) (by decide) ?_
      cases hf
      subst hQ
      exact vx_throw0 C.1 C.2.1 hst (names := xUp) (A := AG G) C.2.2.2.1 (by decide) (by decide) (C.2.2.2.2 _ tx_NS) (C.2.2.2.2 _ ti_NS) (xat_NS C hX) ot_NS hZ.1 hZ.2 S.2.1 (hl.1.trans hml.symm) dX9_policy_122 dX9_policy_125 dX9_policy_126 dX9_policy_129 (fun x hx => (hno x hx).elim) (by decide) (by decide) (by decide) (by decide) B.notSynchronized (fun t ha hz hk => ⟨Or.inr ⟨rfl, rfl⟩, S.grow ha hz hk⟩) S.2.1.2.2 (by decide) (by decide)
theorem lp_good : GoodIn GW (va_wsS RL 61 yL_policy (Cond.codeWith yL_policy cL_policy 5 (some .int) xTh :: GW)) := fun w hw => by
  have one : ∀ {v : Cond}, v ∈ GW → v ∈ GW ∧ ((v.onTables && v.keeps) = true ∨ ∃ ty, v = .arrayClass ty) := fun h => ⟨h, gw_good h⟩
  unfold va_wsS at hw
  rcases List.mem_append.mp hw with h | h
  · rcases List.mem_cons.mp h with h | h
    · rw [h]; exact one tl_61
    rcases List.mem_cons.mp h with h | h
    · rw [h]; exact one ts_lpol
    rcases List.mem_cons.mp h with h | h
    · rw [h]; exact one ti_RL
    · cases h
  · rcases List.mem_cons.mp h with h | h
    · rw [h]; exact one tc_lpol
    · exact one h
set_option maxRecDepth 100000 in
set_option maxHeartbeats 4000000 in
theorem ct_lpol (l : Launch) (hst : l.stackTraces = false) (G : Gd) (τ : Sg) {v1 v2 : Int} {σ : Sg} {q : Int ⊕ Nat} (hf : PolR v1 v2 σ = some q) : vx_Met l yL_policy (Cond.codeWith yL_policy cL_policy 5 (some .int) xTh :: GW) rmY (va_Pc [.ref (G.1 0), .int (oI v1), .int (oI v2), .ref (G.1 60)] (PreX G (mix true τ σ))) (QL G (mix true (PolS τ q) σ) (PolN q)) (fun _ _ _ => False) 1 6 (AG G) := by
  refine vx_ofWH (cc := cL_policy) (maxL := 5) (ret := some .int) (hh := xTh) (by decide) rfl ?_
  intro p e s m args below meth c s₁ B hml hv
  obtain ⟨rfl, ⟨hW0, hZ0⟩, hX, hZ⟩ := hv
  have hts := atoms_spec (ws := Cond.codeWith yL_policy cL_policy 5 (some .int) xTh :: GW) B.pre
  have htab := vx_table (x := yL_policy) B (hts _ List.mem_cons_self)
  rw [lg_entry_eq]
  have hl := lv_entry [Value.ref (G.1 0), .int (oI v1), .int (oI v2), .ref (G.1 60)] (n := 5) (Nat.le_of_ble_eq_true rfl)
  generalize ((lg_sl [Value.ref (G.1 0), .int (oI v1), .int (oI v2), .ref (G.1 60)] ++ List.replicate (5 - (lg_sl [Value.ref (G.1 0), .int (oI v1), .int (oI v2), .ref (G.1 60)]).length) Slot.unset).toArray) = ls at hl ⊢
  have hl : lv_has ls 5 [(0, .ref (G.1 0)), (1, .int (oI v1)), (2, .int (oI v2)), (3, .ref (G.1 60))] := hl
  have C : Cx p s m [Value.ref (G.1 0), .int (oI v1), .int (oI v2), .ref (G.1 60)].toArray c RL cL_policy 5 := ⟨B.exec, B.bytes, hml, findClass_of_methodNamed B.named, fun w hw => hts w (List.mem_cons_of_mem _ hw)⟩
  have S : St G true τ σ s s.heap [] := ⟨hW0, va_S.rf, hZ0⟩
  show W p l e rmY s m _ below meth c s.heap [] 0 0 _ (F0 m 0 ls [])
  have hend : ∀ (H : Heap) (locs : List Loc) (pc : Nat) (ls : Array Slot), St G true (PolS τ q) σ s H locs → decode cL_policy pc = .ok (.ireturn, 1) → W p l e rmY s m [Value.ref (G.1 0), .int (oI v1), .int (oI v2), .ref (G.1 60)].toArray below meth c H locs 1 6 (vx_MQ below (QL G (mix true (PolS τ q) σ) (PolN q)) (fun _ _ _ => False) [Value.ref (G.1 0), .int (oI v1), .int (oI v2), .ref (G.1 60)].toArray s 1 6 (AG G)) (F0 m pc ls [.int (oI (PolN q))]) := fun H locs pc ls S hdg => vx_ret (W.iret B.exec B.bytes B.returns (fun t ht hW => ⟨rfl, by rw [ht]; exact S.1.moved hW.alike, S.2.1.F ht⟩) S.2.1.2.2 hdg B.notSynchronized)
  generalize vx_MQ below (QL G (mix true (PolS τ q) σ) (PolN q)) (fun _ _ _ => False) [Value.ref (G.1 0), .int (oI v1), .int (oI v2), .ref (G.1 60)].toArray s 1 6 (AG G) = Q at hend ⊢
  refine lv_aload_n C.1 C.2.1 dL_policy_0 rfl (lv_at hl 3 rfl) ?_
  refine r_iconst C dL_policy_1 ?_
  refine lv_aload_n C.1 C.2.1 dL_policy_2 rfl (lv_at hl 0 rfl) ?_
  refine lv_iload_n C.1 C.2.1 dL_policy_3 rfl (lv_at hl 1 rfl) ?_
  refine lv_iload_n C.1 C.2.1 dL_policy_4 rfl (lv_at hl 2 rfl) ?_
  refine r_runX S ⟨_, vx_runV (As := [.int (oI v1), .int (oI v2)]) (rest := [.int (oI 0), .ref (G.1 60)]) C (ct_pol l hst G τ hf) ⟨callB_of 2 C.2.2.2.2 (gi_code mi_X9_policy.1) rfl rfl rfl (C.2.2.2.2 _ mi_X9_policy.2.1) (C.2.2.2.2 _ tl_7) mi_X9_policy.2.2 ⟨Nat.le_of_ble_eq_true rfl, Nat.le_of_ble_eq_true rfl⟩, C.2.2.2.2 _ mv_X9_policy.1, C.2.2.2.2 _ mv_X9_policy.2⟩ ⟨fb_preX, rvX9 S, fun U hU hW => ⟨rfl, S.preX hX hZ hU hW⟩⟩ rfl rfl hl.1 rfl (lv_room (Nat.le_of_ble_eq_true rfl)) dL_policy_5 ⟨by decide, by decide⟩⟩ (fun z H locs hq S => ?_) (fun E ce q9 H locs hE S hce hcv hcl => ?_)
  · subst hq
    refine r_i2l C dL_policy_8 ?_
    refine r_lastG C S.sw 60 1 (by decide) rfl (fun _ => rfl) (by decide) (i := 0) (by decide) dL_policy_9 (fun H locs S => ?_)
    have S := S.ws
    refine lv_goto C.1 C.2.1 (tgt := 21) dL_policy_10 (by decide) ?_
    refine r_iconst C dL_policy_21 ?_
    exact hend _ _ _ _ S dL_policy_22
  · rcases hE with ⟨hq, rfl⟩ | ⟨hq, rfl⟩
    · subst hq
      refine vx_catch (own := RL) (name := xIO) C.2.2.2.1 [] ⟨0, 10, 13, 13⟩ [⟨0, 10, 17, 15⟩] htab (fun z hz => nomatch hz) (by decide) (by decide) (C.2.2.2.2 _ tl_IO) (va_Nw.use rfl hX.2.1) hce hcv hcl ?_
      show W p l e rmY s m _ below meth c H locs _ _ Q (F0 m 13 ls [.ref q9])
      refine lv_astore C.1 C.2.1 dL_policy_13 hl (by decide) rfl (fun ls hl => ?_)
      refine r_iconst C dL_policy_15 ?_
      exact hend _ _ _ _ S dL_policy_16
    · subst hq
      refine vx_catch (own := RL) (name := xNS) C.2.2.2.1 [⟨0, 10, 13, 13⟩] ⟨0, 10, 17, 15⟩ [] htab (fun z hz => by
        rw [List.mem_singleton.mp hz]
        exact Or.inr ⟨by decide, xIO, C.2.2.2.2 _ tl_IO, hX.1⟩) (by decide) (by decide) (C.2.2.2.2 _ tl_NS) (va_Nw.use rfl hX.2.2.1) hce hcv hcl ?_
      show W p l e rmY s m _ below meth c H locs _ _ Q (F0 m 17 ls [.ref q9])
      refine lv_astore C.1 C.2.1 dL_policy_17 hl (by decide) rfl (fun ls hl => ?_)
      refine r_iconst C dL_policy_19 ?_
      exact hend _ _ _ _ S dL_policy_20
theorem polS_R {n : Nat} {z ζ : Sg} {q : Int ⊕ Nat} (h : Rl n z ζ) : Rl n z (PolS ζ q) := by
  cases q with
  | inl v => exact Rl_60 h
  | inr k => exact h
/-- both sides of the question, and what the law compares -/
theorem pol_both {n : Nat} {z ζ : Sg} {a1 a2 : Int} (hR : Rl n z ζ) (ha1 : InR a1) (ha2 : InR a2) : ∃ q q', PolR a1 a2 z = some q ∧ f_X10_policy a1 a2 (PolS ζ q) = some q' ∧ w32 (q'.2 41 0) = w32 (PolN q) ∧ (w32 (PolN q) = 0 → w64 (q'.2 60 0) = w64 (w32 q'.1)) ∧ Rl (n + 1) z q'.2 := by
  obtain ⟨q, -, h1, -⟩ := plc_n hR ha1 ha2
  obtain ⟨q2, q', h2, h3, h4, h5, h6⟩ := plc_n (polS_R (q := q) hR) ha1 ha2
  rw [h1] at h2
  cases h2
  refine ⟨q, q', h1, h3, ?_, ?_, h6⟩
  · rcases h4 with ⟨z, e1, e2, e3⟩ | ⟨k, hk, e1, e2⟩
    · subst e1
      rw [e2]
      rfl
    · subst e1
      rw [e2]
      rfl
  · intro h0
    rcases h4 with ⟨z, e1, e2, e3⟩ | ⟨k, hk, e1, e2⟩
    · subst e1
      rw [h5]
      show w64 (up ζ 60 0 (w32 z) 60 0) = _
      rw [up_s, e3]
    · subst e1
      have h0 : w32 (k : Int) = 0 := h0
      rw [w32_n (by omega)] at h0
      omega
set_option maxRecDepth 100000 in
set_option maxHeartbeats 8000000 in
theorem pol_case {p : Program} {l : Launch} {e : Env} {s : State} {m : MethodId} {below : List Frame} {meth : Method} {c : Code} {G : Gd} {bA L : Nat} {xs : Nat → Int32} (hst : l.stackTraces = false) (hL : L ≤ 3584) (C0 : lw_At p s m meth c bA L xs) (hA : ∀ k, k < NB → s.heap.size ≤ G.1 k) : PolCase p l e s m below meth c G bA L xs Rl := by
  intro n i σd σm H locs ls cells slots S hn hR hc hi hl hk
  have C : Cx p s m #[.ref bA] c RL cL_law 7 := ⟨C0.1, C0.2.1, C0.2.2.2.1, C0.2.2.2.2.1, fun w hw => C0.2.2.2.2.2.1 w (gw_tbl hw)⟩
  obtain ⟨-, -, hr, -, -, hts, hXs, hbl, hlocks, hgv⟩ := id C0
  have hbA : ¬ AG G bA := fun ⟨k, hk, e⟩ => by have := hA k hk; omega
  have hfl := flat_of_before _ hgv
  have tw : ∀ (i : Nat) {w : Cond}, tables_1[i]? = some w → w.before #[Value.ref bA] s = true := fun i w h => hts w (List.mem_append_right _ (List.mem_of_getElem? h))
  have hX : Xw s := ⟨va_Nc.of (hfl (.not (.castable xNS xIO)) (by decide +kernel)), va_Nw.of rfl (tw 980 (w := .castable xIO xIO) (by decide +kernel)), va_Nw.of rfl (tw 1042 (w := .castable xNS xNS) (by decide +kernel)), va_Nw.of rfl (tw 981 (w := .declares (Bundle.init0 "java/lang/RuntimeException")) (by decide +kernel)), va_Nw.of rfl (tw 983 (w := .declares (Bundle.init0 "java/lang/Exception")) (by decide +kernel)), va_Nw.of rfl (tw 985 (w := .declares (Bundle.init0 Bundle.tN)) (by decide +kernel))⟩
  have hnA : ∀ a : Nat, a < s.heap.size → ¬ AG G a := fun a ha ⟨k, hk, e⟩ => by have := hA k hk; omega
  have hiT : (Cond.initialized Bundle.tN).before #[Value.ref bA] s = true := tw 18 (by decide +kernel)
  have hZ : Xz G s s.heap := ⟨vx_Zqof (tw 1005 (w := .laysStatic Bundle.tN "UNASSIGNED_STACK" Bundle.steD) (by decide +kernel)) hiT (hfl (.isRef (.static Bundle.tN "UNASSIGNED_STACK" Bundle.steD)) (by decide +kernel)) hnA, vx_Zqof (tw 1007 (w := .laysStatic Bundle.tN "SUPPRESSED_SENTINEL" Bundle.listD) (by decide +kernel)) hiT (hfl (.isRef (.static Bundle.tN "SUPPRESSED_SENTINEL" Bundle.listD)) (by decide +kernel)) hnA⟩
  obtain ⟨q, q', hd, hm, he, hz, hR'⟩ := pol_both hR (sc_in xs (i + 1)) (sc_in xs (i + 2))
  refine lv_aload_n C.1 C.2.1 dL_law_609 rfl (lv_at hl 1 rfl) ?_
  refine lv_aload_n C.1 C.2.1 dL_law_610 rfl (lv_at hl 0 rfl) ?_
  refine lv_iload C.1 C.2.1 dL_law_611 (lv_at hl 4 rfl) ?_
  refine r_iconst C dL_law_613 ?_
  refine r_iadd C dL_law_614 ?_
  refine law_sld C S hXs hbl hbA hL (i := i + 1) (by omega) dL_law_615 ?_
  refine lv_aload_n C.1 C.2.1 dL_law_616 rfl (lv_at hl 0 rfl) ?_
  refine lv_iload C.1 C.2.1 dL_law_617 (lv_at hl 4 rfl) ?_
  refine r_iconst C dL_law_619 ?_
  refine r_iadd C dL_law_620 ?_
  refine law_sld C S hXs hbl hbA hL (i := i + 2) (by omega) dL_law_621 ?_
  refine lv_aload_n C.1 C.2.1 dL_law_622 rfl (lv_at hl 3 rfl) ?_
  refine r_runL S ⟨_, vx_runSX (As := [.ref (G.1 0), .int (oI (sc xs (i + 1))), .int (oI (sc xs (i + 2))), .ref (G.1 60)]) (rest := []) C (ct_lpol l hst G σm hd) (vx_cwSW 4 C.2.2.2.2 lp_good rfl rfl rfl ⟨by decide +kernel, by decide +kernel, by decide +kernel⟩ ⟨Nat.le_of_ble_eq_true rfl, Nat.le_of_ble_eq_true rfl⟩) ⟨fb_preX, fun U hU hW => ⟨rfl, S.preX hX hZ hU hW⟩⟩ rfl rfl hl.1 rfl (lv_room (Nat.le_of_ble_eq_true rfl)) dL_law_623 ⟨by omega, by omega⟩⟩ (fun H locs S => ?_)
  refine lv_istore C.1 C.2.1 dL_law_626 hl (by decide) (lv' := [(5, .int (oI (PolN q))), (0, .ref bA), (1, .ref (G.1 0)), (2, .ref (G.1 41)), (3, .ref (G.1 60)), (4, .int (oI i))]) rfl (fun ls hl => ?_)
  have S := S.sw
  refine lv_aload_n C.1 C.2.1 dL_law_628 rfl (lv_at hl 3 rfl) ?_
  refine lv_aload_n C.1 C.2.1 dL_law_629 rfl (lv_at hl 1 rfl) ?_
  refine lv_iload C.1 C.2.1 dL_law_630 (lv_at hl 5 rfl) ?_
  refine r_iconst C dL_law_632 ?_
  refine r_iadd C dL_law_633 ?_
  refine law_sld C S hXs hbl hbA hL (i := i + 1) (by omega) dL_law_634 ?_
  refine lv_aload_n C.1 C.2.1 dL_law_635 rfl (lv_at hl 1 rfl) ?_
  refine lv_iload C.1 C.2.1 dL_law_636 (lv_at hl 5 rfl) ?_
  refine r_iconst C dL_law_638 ?_
  refine r_iadd C dL_law_639 ?_
  refine law_sld C S hXs hbl hbA hL (i := i + 2) (by omega) dL_law_640 ?_
  refine r_callVv C S (As := [.int (oI (sc xs (i + 1))), .int (oI (sc xs (i + 2)))]) (rest := []) (ct_X10_policy l G σd hm) mi_X10_policy tl_66 mv_X10_policy (rvX10 S) ⟨rfl, rfl⟩ ⟨Nat.le_of_ble_eq_true rfl, Nat.le_of_ble_eq_true rfl⟩ ⟨by omega, by omega⟩ rfl hl.1 rfl (Nat.le_of_ble_eq_true rfl) dL_law_641 (fun H locs S => ?_)
  refine lv_istore C.1 C.2.1 dL_law_644 hl (by decide) (lv' := [(6, .int (oI q'.1)), (5, .int (oI (PolN q))), (0, .ref bA), (1, .ref (G.1 0)), (2, .ref (G.1 41)), (3, .ref (G.1 60)), (4, .int (oI i))]) rfl (fun ls hl => ?_)
  refine lv_aload_n C.1 C.2.1 dL_law_646 rfl (lv_at hl 4 rfl) ?_
  refine r_callVv C S (As := []) (rest := []) (ct_X10_thrown l G σd (q := q'.2 41 0) rfl) mi_X10_thrown tl_67 mv_X10_thrown (rvX10 S) ⟨rfl, rfl⟩ ⟨Nat.le_of_ble_eq_true rfl, Nat.le_of_ble_eq_true rfl⟩ ⟨by omega, by omega⟩ rfl hl.1 rfl (Nat.le_of_ble_eq_true rfl) dL_law_647 (fun H locs S => ?_)
  refine lv_iload C.1 C.2.1 dL_law_650 (lv_at hl 1 rfl) ?_
  refine r_icmp_eq C rfl rfl (tgt := 657) dL_law_652 (by decide) (fun _ => ?_) (fun h9 => absurd he h9)
  refine lv_iload C.1 C.2.1 dL_law_657 (lv_at hl 1 rfl) ?_
  have fin : W p l e room_1 s m #[.ref bA] below meth c H locs (cells + 1) (slots + 6) (lw_Z below #[Value.ref bA] s) (F0 m 674 ls []) := by
    refine lv_goto C.1 C.2.1 (tgt := 2011) dL_law_674 (by decide) ?_
    exact hk _ _ ls _ _ S.ws hR' (lv_sub hl [2, 3, 4, 5, 6] rfl)
  refine r_if_ne C rfl (tgt := 674) dL_law_659 (by decide) (fun h0 => ?_) (fun _ => fin)
  refine lv_aload_n C.1 C.2.1 dL_law_662 rfl (lv_at hl 5 rfl) ?_
  refine r_iconst C dL_law_663 ?_
  refine r_laldG C S 60 1 (by decide) rfl (fun _ => rfl) (by decide) (i := 0) (by decide) dL_law_664 ?_
  refine lv_iload C.1 C.2.1 dL_law_665 (lv_at hl 0 rfl) ?_
  refine r_i2l C dL_law_667 ?_
  exact r_lcmp_eq C rfl rfl (tgt := 674) dL_law_668 dL_law_669 (by decide) (fun _ => fin) (fun h9 => absurd (hz h0) h9)
