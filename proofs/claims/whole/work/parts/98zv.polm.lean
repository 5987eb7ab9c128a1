/-! ===== the method that throws, and who catches ===== -/
abbrev xIO : String := "java/lang/IndexOutOfBoundsException"
abbrev xNS : String := "java/util/NoSuchElementException"
abbrev xUp : List String := ["java/lang/RuntimeException", "java/lang/Exception"]
abbrev xTh : List (Nat × Nat × Nat × Nat) := [(0, 10, 13, 13), (0, 10, 17, 15)]
def XwB : List Cond := [.castable xIO xIO, .castable xNS xNS, .declares (Bundle.init0 "java/lang/RuntimeException"), .declares (Bundle.init0 "java/lang/Exception"), .declares (Bundle.init0 Bundle.tN)]
def Xw (U : State) : Prop := va_Nc xNS xIO U ∧ va_Nw (.castable xIO xIO) U ∧ va_Nw (.castable xNS xNS) U ∧ va_Nw (.declares (Bundle.init0 "java/lang/RuntimeException")) U ∧ va_Nw (.declares (Bundle.init0 "java/lang/Exception")) U ∧ va_Nw (.declares (Bundle.init0 Bundle.tN)) U
def Xz (G : Gd) (U : State) (H : Heap) : Prop := vx_Zq Bundle.tN "UNASSIGNED_STACK" Bundle.steD (AG G) U H ∧ vx_Zq Bundle.tN "SUPPRESSED_SENTINEL" Bundle.listD (AG G) U H
def PreX (G : Gd) (ρ : Sg) (U : State) : Prop := (Wo G ρ U U.heap ∧ Zs G U U.heap ∧ Ns G U) ∧ Xw U ∧ Xz G U U.heap
def QX (G : Gd) (ρ : Sg) (q : Int ⊕ Nat) : Array Value → State → Outcome → State → Prop := fun _ st o t => (∃ z, q = Sum.inl z ∧ o = .returned (some (.int (oI z)))) ∧ Wo G ρ t t.heap ∧ va_F (AG G) st t
def XX (G : Gd) (ρ : Sg) (q : Int ⊕ Nat) : String → State → State → Prop := fun E st t => (q = Sum.inr 1 ∧ E = xIO ∨ q = Sum.inr 2 ∧ E = xNS) ∧ Wo G ρ t t.heap ∧ va_F (AG G) st t
def QL (G : Gd) (ρ : Sg) (r : Int) : Array Value → State → Outcome → State → Prop := fun _ st o t => o = .returned (some (.int (oI r))) ∧ Wo G ρ t t.heap ∧ va_F (AG G) st t
def PolN : Int ⊕ Nat → Int
  | .inl _ => 0
  | .inr k => (k : Int)
def PolS (τ : Sg) : Int ⊕ Nat → Sg
  | .inl z => up τ 60 0 (w32 z)
  | .inr _ => τ
abbrev rmX : Room := { frames := 6, cells := 1, slots := 6, locals := 81 }
abbrev rmY : Room := { frames := 7, cells := 1, slots := 6, locals := 103 }
theorem Xw.warm {s U : State} (hW : s.WarmedH U.vm) (h : Xw s) : Xw U := ⟨va_Nc.moved hW.alike h.1, va_Nw.warmC hW h.2.1, va_Nw.warmC hW h.2.2.1, va_Nw.warmD hW h.2.2.2.1, va_Nw.warmD hW h.2.2.2.2.1, va_Nw.warmD hW h.2.2.2.2.2⟩
theorem Xw.use {U : State} {A : Array Value} (h : Xw U) : ∀ w ∈ XwB, w.before A U = true := by
  unfold XwB
  exact vx_c (va_Nw.use rfl h.2.1) (vx_c (va_Nw.use rfl h.2.2.1) (vx_c (va_Nw.use rfl h.2.2.2.1) (vx_c (va_Nw.use rfl h.2.2.2.2.1) (vx_c (va_Nw.use rfl h.2.2.2.2.2) vx_n))))
theorem fb_preX {G : Gd} {av : List Value} {ρ : Sg} : FrameBlind (va_Pc av (PreX G ρ)) := fun a U g mk q => by
  obtain ⟨h1, h2, h3, h4⟩ := q
  refine ⟨h1, (fb_pre a U g mk ⟨h1, h2⟩).2, ?_, ?_, ?_⟩
  · exact ⟨va_Nc.moved (u := U) (U := U.calling g mk a) (Vm.Alike.refl U.vm) h3.1, va_Nw.same (u := U) (U := U.calling g mk a) rfl rfl h3.2.1, va_Nw.same (u := U) (U := U.calling g mk a) rfl rfl h3.2.2.1, va_Nw.same (u := U) (U := U.calling g mk a) rfl rfl h3.2.2.2.1, va_Nw.same (u := U) (U := U.calling g mk a) rfl rfl h3.2.2.2.2.1, va_Nw.same (u := U) (U := U.calling g mk a) rfl rfl h3.2.2.2.2.2⟩
  · exact vx_Zq.moved (u := U) (U := U.calling g mk a) (Vm.Alike.refl U.vm) h4.1
  · exact vx_Zq.moved (u := U) (U := U.calling g mk a) (Vm.Alike.refl U.vm) h4.2
set_option maxRecDepth 100000 in
theorem at_IO : ∀ w ∈ (vx_at0 RX9 185 xIO xUp).filter goodWord, w ∈ GW := by
  have e : (vx_at0 RX9 185 xIO xUp).filter goodWord = [18, 1000, 1009, 1012, 1015, 1017, 1001, 1002, 30, 31, 1003, 1008, 1013, 1029, 990, 1030, 992, 1031, 994, 1004, 1006, 996, 1019, 1020, 1021, 1022, 1022, 1023, 1024, 1025, 1025, 1026, 1027, 1001, 1018, 979, 987, 988, 989, 991, 993, 995, 999, 998, 997].filterMap (fun i => tables_1[i]?) := by decide +kernel
  intro w hw
  have hg := (List.mem_filter.mp hw).2
  rw [e] at hw
  obtain ⟨i, -, hi⟩ := List.mem_filterMap.mp hw
  exact tb_t i hi hg
set_option maxRecDepth 100000 in
theorem at_NS : ∀ w ∈ (vx_at0 RX9 202 xNS xUp).filter goodWord, w ∈ GW := by
  have e : (vx_at0 RX9 202 xNS xUp).filter goodWord = [18, 1000, 1009, 1012, 1015, 1017, 1001, 1002, 30, 31, 1003, 1008, 1013, 1029, 990, 1030, 992, 1031, 994, 1004, 1006, 996, 1050, 1051, 1052, 1022, 1022, 1023, 1024, 1025, 1025, 1026, 1027, 1001, 1049, 1041, 1043, 1011, 1044, 1045, 1046, 1047, 999, 998, 1048].filterMap (fun i => tables_1[i]?) := by decide +kernel
  intro w hw
  have hg := (List.mem_filter.mp hw).2
  rw [e] at hw
  obtain ⟨i, -, hi⟩ := List.mem_filterMap.mp hw
  exact tb_t i hi hg
theorem ba_IO : ∀ w ∈ (vx_at0 RX9 185 xIO xUp).filter (fun w => !goodWord w), w ∈ XwB := by decide +kernel
theorem ba_NS : ∀ w ∈ (vx_at0 RX9 202 xNS xUp).filter (fun w => !goodWord w), w ∈ XwB := by decide +kernel
theorem ot_IO : ∀ w ∈ Cond.classLink RX9 183 xIO :: Cond.initialized xIO :: vx_at0 RX9 185 xIO xUp, vx_ot w = true := by decide +kernel
theorem ot_NS : ∀ w ∈ Cond.classLink RX9 200 xNS :: Cond.initialized xNS :: vx_at0 RX9 202 xNS xUp, vx_ot w = true := by decide +kernel
set_option maxRecDepth 100000 in
theorem tx_IO : Cond.classLink RX9 183 xIO ∈ GW := tb_s5 18 rfl rfl
set_option maxRecDepth 100000 in
theorem tx_NS : Cond.classLink RX9 200 xNS ∈ GW := tb_s5 80 rfl rfl
set_option maxRecDepth 100000 in
theorem ti_IO : Cond.initialized xIO ∈ GW := tb_s1 21 rfl rfl
set_option maxRecDepth 100000 in
theorem ti_NS : Cond.initialized xNS ∈ GW := tb_s1 23 rfl rfl
set_option maxRecDepth 100000 in
theorem tl_IO : Cond.classLink RL 13 xIO ∈ GW := tb_s5 12 rfl rfl
set_option maxRecDepth 100000 in
theorem tl_NS : Cond.classLink RL 15 xNS ∈ GW := tb_s5 13 rfl rfl
set_option maxRecDepth 100000 in
theorem mi_X9_policy : MI yX9_policy cX9_policy 3 (some .int) 2 := ⟨tb_s5 17 rfl rfl, tb_s1 1 rfl rfl, by decide +kernel, by decide +kernel, by decide +kernel⟩
set_option maxRecDepth 100000 in
theorem mv_X9_policy : MV yX9_policy := ⟨tb_s5 15 rfl rfl, tb_s5 16 rfl rfl⟩
set_option maxRecDepth 100000 in
theorem tl_7 : Cond.methodLink RL 7 yX9_policy ∈ GW := tb_s5 14 rfl rfl
set_option maxRecDepth 100000 in
theorem mi_X10_policy : MI yX10_policy cX10_policy 3 (some .int) 2 := ⟨tb_s6 180 rfl rfl, tb_s1 11 rfl rfl, by decide +kernel, by decide +kernel, by decide +kernel⟩
set_option maxRecDepth 100000 in
theorem mv_X10_policy : MV yX10_policy := ⟨tb_s6 178 rfl rfl, tb_s6 179 rfl rfl⟩
set_option maxRecDepth 100000 in
theorem tl_66 : Cond.methodLink RL 66 yX10_policy ∈ GW := tb_s6 177 rfl rfl
set_option maxRecDepth 100000 in
theorem mi_X10_thrown : MI yX10_thrown cX10_thrown 1 (some .int) 0 := ⟨tb_s5 233 rfl rfl, tb_s1 11 rfl rfl, by decide +kernel, by decide +kernel, by decide +kernel⟩
set_option maxRecDepth 100000 in
theorem mv_X10_thrown : MV yX10_thrown := ⟨tb_s5 231 rfl rfl, tb_s5 232 rfl rfl⟩
set_option maxRecDepth 100000 in
theorem tl_67 : Cond.methodLink RL 67 yX10_thrown ∈ GW := tb_s5 230 rfl rfl
set_option maxRecDepth 100000 in
theorem tl_61 : Cond.methodLink RL 61 yL_policy ∈ GW := tb_s5 9 rfl rfl
set_option maxRecDepth 100000 in
theorem ts_lpol : Cond.static yL_policy ∈ GW := tb_s5 10 rfl rfl
set_option maxRecDepth 100000 in
theorem ti_RL : Cond.initialized yL_policy.cls ∈ GW := tb_s1 0 rfl rfl
set_option maxRecDepth 100000 in
theorem tc_lpol : Cond.codeWith yL_policy cL_policy 5 (some .int) xTh ∈ GW := tb_s5 11 rfl rfl
section XP
variable {p : Program} {l : Launch} {e : Env} {R : Room} {s : State} {m : MethodId} {args : Array Value} {below : List Frame} {meth : Method} {c : Code} {H : Heap} {locs : List Loc} {cells slots : Nat} {Q : State → Prop} {pc : Nat} {ls : Array Slot} {rest : List Value} {own : String} {cc : ByteArray} {nL : Nat} {G : Gd} {b : Bool} {τ σ : Sg}
theorem xat_IO (C : Cx p s m args c own cc nL) (h : Xw s) : ∀ w ∈ vx_at0 RX9 185 xIO xUp, w.before args s = true := vx_hat (fun w hw => C.2.2.2.2 w (at_IO w hw)) ba_IO h.use
theorem xat_NS (C : Cx p s m args c own cc nL) (h : Xw s) : ∀ w ∈ vx_at0 RX9 202 xNS xUp, w.before args s = true := vx_hat (fun w hw => C.2.2.2.2 w (at_NS w hw)) ba_NS h.use
theorem St.preX (S : St G b τ σ s H locs) (hX : Xw s) (hZ : Xz G s s.heap) {U : State} (hU : U.heap = H) (hW : s.WarmedH U.vm) : PreX G (mix b τ σ) U := by
  refine ⟨S.pre hU hW, hX.warm hW, ?_⟩
  rw [hU]
  exact ⟨vx_Zq.moved hW.alike (hZ.1.kept S.2.1.2.1), vx_Zq.moved hW.alike (hZ.2.kept S.2.1.2.1)⟩
theorem St.grow (S : St G b τ σ s H locs) {t : State} (ha : s.vm.Alike t.vm) (hz : H.size ≤ t.heap.size) (hk : ∀ q : Nat, q < H.size → t.heap[q]? = H[q]?) : Wo G (mix b τ σ) t t.heap ∧ va_F (AG G) s t := by
  refine ⟨Wo.moved ha ⟨va_P.kept S.1.1 (fun k q hq => hk q.1 (vx_lt S.1.1 hq)), S.1.2.1, S.1.2.2⟩, Nat.le_trans S.2.1.1 hz, fun q h1 h2 => ?_⟩
  rw [hk q (Nat.lt_of_lt_of_le h1 S.2.1.1)]
  exact S.2.1.2.1 q h1 h2
theorem St.after (S : St G b τ σ s H locs) {b' : Bool} {τ' σ' : Sg} {st0 t T' : State} {L : List Loc} (h0 : st0.heap = H) (e1 : T'.heap = t.heap) (hal : s.vm.Alike t.vm) (hW : Wo G (mix b' τ' σ') t t.heap) (hF : va_F (AG G) st0 t) (hL : ∀ q ∈ L, AG G q.base) : St G b' τ' σ' s T'.heap (locs ++ L) := by
  obtain ⟨hz, hk⟩ := hF
  rw [h0] at hz hk
  exact ⟨by rw [e1]; exact hW.moved hal.symm, ⟨Nat.le_trans S.2.1.1 (by rw [e1]; exact hz), fun q h1 h2 => by rw [e1, hk q (Nat.lt_of_lt_of_le h1 S.2.1.1) h2]; exact S.2.1.2.1 q h1 h2, fun q hq => by
      rcases List.mem_append.mp hq with h | h
      · exact S.2.1.2.2 q h
      · exact hL q h⟩, S.2.2⟩
theorem r_runX {q : Int ⊕ Nat} {mc ms : Nat} {st0 : List Value} (S : St G b τ σ s H locs) (hr : ∃ a, vx_Run p l e R s m args below meth c H locs cells slots mc ms (F0 m pc ls st0) rest (QX G (mix b τ σ) q a) (XX G (mix b τ σ) q) (AG G))
    (kk : ∀ (z : Int) (H1 : Heap) (locs1 : List Loc), q = Sum.inl z → St G b τ σ s H1 locs1 → W p l e R s m args below meth c H1 locs1 (cells + mc) (slots + ms) Q (F0 m (pc + 3) ls (.int (oI z) :: rest)))
    (kx : ∀ (E : String) (ce : Cell) (q9 : Addr) (H1 : Heap) (locs1 : List Loc), (q = Sum.inr 1 ∧ E = xIO ∨ q = Sum.inr 2 ∧ E = xNS) → St G b τ σ s H1 locs1 → H1[q9]? = some ce → ce.vm = .none → s.vm.findClass E = some ce.cls → vx_W p l e R s m args below meth c H1 locs1 (cells + mc) (slots + ms) Q (F0 m pc ls rest) q9) : W p l e R s m args below meth c H locs cells slots Q (F0 m pc ls st0) := by
  intro T hT X
  obtain ⟨a, hr⟩ := hr
  rcases hr T hT X with ⟨v, st₀, t, T', L, h0, X', hL, e1, e2, ⟨⟨z, hz1, hv⟩, hW, hF⟩, st⟩ | ⟨q9, st₀, t, T', L, E, ce, h0, X', hL, e1, e2, ⟨hE, hW, hF⟩, hce, hcv, hcl, st⟩
  · cases hv
    obtain ⟨t2, a1, b1⟩ := kk z T'.heap (locs ++ L) hz1 (S.after h0 e1 (by rw [← e2]; exact X'.warmed.alike) hW hF hL) T' rfl X'
    exact ⟨t2, st t2 a1, b1⟩
  · obtain ⟨t2, a1, b1⟩ := kx E ce q9 T'.heap (locs ++ L) hE (S.after h0 e1 (by rw [← e2]; exact X'.warmed.alike) hW hF hL) (by rw [e1]; exact hce) hcv hcl T' rfl X'
    exact ⟨t2, st.trans a1, b1⟩
theorem r_runL {r : Int} {b' : Bool} {τ' σ' : Sg} {mc ms : Nat} {st0 : List Value} (S : St G b τ σ s H locs) (hr : ∃ a, vx_Run p l e R s m args below meth c H locs cells slots mc ms (F0 m pc ls st0) rest (QL G (mix b' τ' σ') r a) (fun _ _ _ => False) (AG G))
    (kk : ∀ (H1 : Heap) (locs1 : List Loc), St G b' τ' σ' s H1 locs1 → W p l e R s m args below meth c H1 locs1 (cells + mc) (slots + ms) Q (F0 m (pc + 3) ls (.int (oI r) :: rest))) : W p l e R s m args below meth c H locs cells slots Q (F0 m pc ls st0) := by
  intro T hT X
  obtain ⟨a, hr⟩ := hr
  rcases hr T hT X with ⟨v, st₀, t, T', L, h0, X', hL, e1, e2, ⟨hv, hW, hF⟩, st⟩ | ⟨q9, st₀, t, T', L, E, ce, h0, X', hL, e1, e2, hE, hce, hcv, hcl, st⟩
  · cases hv
    obtain ⟨t2, a1, b1⟩ := kk T'.heap (locs ++ L) (S.after h0 e1 (by rw [← e2]; exact X'.warmed.alike) hW hF hL) T' rfl X'
    exact ⟨t2, st t2 a1, b1⟩
  · exact False.elim hE
theorem r_laldG (C : Cx p s m args c own cc nL) (S : St G b τ σ s H locs) (k n : Nat) (hk : k < NB) (hb : decide (k < 41) = b) (hcell : ∀ r, mkCell G k r = .inl (G.2.2.2 1, n, .inr (.inl fun j => oL (r j)))) (hn : n < 2147483648) {i : Int} (hi : 0 ≤ i ∧ i < (n : Int)) (hdg : decode cc pc = .ok (.laload, 1))
    (kk : W p l e R s m args below meth c H locs cells slots Q (F0 m (pc + 1) ls (.long (oL (σ k i.toNat)) :: rest))) : W p l e R s m args below meth c H locs cells slots Q (F0 m pc ls (.int (oI i) :: .ref (G.1 k) :: rest)) := by
  obtain ⟨h1, h2⟩ := ix_ok hn hi
  refine va_lald C.1 C.2.1 S.1.2.1 S.1.1 k 1 (by rw [ws_at hk, hcell]) rfl h1 hdg ?_
  rw [h2, mix_b hb]
  exact kk
theorem r_lastG (C : Cx p s m args c own cc nL) (S : St G b τ σ s H locs) (k n : Nat) (hk : k < NB) (hb : decide (k < 41) = b) (hcell : ∀ r, mkCell G k r = .inl (G.2.2.2 1, n, .inr (.inl fun j => oL (r j)))) (hn : n < 2147483648) {i z : Int} (hi : 0 ≤ i ∧ i < (n : Int)) (hdg : decode cc pc = .ok (.lastore, 1))
    (kk : ∀ H1 locs1, St G b τ (up σ k i.toNat z) s H1 locs1 → W p l e R s m args below meth c H1 locs1 cells slots Q (F0 m (pc + 1) ls rest)) : W p l e R s m args below meth c H locs cells slots Q (F0 m pc ls (.long (oL z) :: .int (oI i) :: .ref (G.1 k) :: rest)) := by
  obtain ⟨h1, h2⟩ := ix_ok hn hi
  refine va_last C.1 C.2.1 S.1.2.1 S.1.1 S.1.2.2 S.2.1 k 1 (by rw [ws_at hk, hcell]) rfl h1 hdg (fun H1 locs1 hP hD hS => kk H1 locs1 ?_)
  have e : (.inl (G.2.2.2 1, n, .inr (.inl (vp_updL (fun j => oL (mix b τ σ k j)) (oI i).toNatClampNeg (oL z)))) : va_E) = mkCell G k (up (mix b τ σ) k i.toNat z k) := by
    rw [hcell, h2]
    have : vp_updL (fun j => oL (mix b τ σ k j)) i.toNat (oL z) = fun j => oL (up (mix b τ σ) k i.toNat z k j) := by
      funext j
      simp only [vp_updL, up, if_true]
      split <;> rfl
    rw [this]
  rw [e, ws_set, ← mix_up hb] at hP hD
  exact ⟨⟨hP, S.1.2.1, hD⟩, hS, S.2.2⟩
end XP
