set_option maxHeartbeats 16000000 in
set_option maxRecDepth 100000 in
theorem start_of {p : Program} {e : Env} {s : State} {m : MethodId} {below : List Frame} {meth : Method} {c : Code} (l : Launch) {bA L : Nat} {xs : Nat → Int32} {Rel : Nat → Sg → Sg → Prop} (hL : L ≤ 3584) (C0 : lw_At p s m meth c bA L xs) (E : LawEq Rel) (hmono : ∀ j σd σm, Rel j σd σm → Rel (j + 1) σd σm) (hR0 : Rel 0 sg0 sg0) (hpol : ∀ G : Gd, (∀ k, k < NB → s.heap.size ≤ G.1 k) → PolCase p l e s m below meth c G bA L xs Rel) : W p l e room_1 s m #[Value.ref bA] below meth c s.heap [] 0 0 (lw_Z below #[Value.ref bA] s) (entryFrame m ([Value.ref bA] : List Value).toArray 7) := by
  obtain ⟨t0, t1, t2, t3, adK, adV, hz1, hz2, hz3, hz4, hz5⟩ := start_zs C0
  obtain ⟨hx, hb, hr, hml, hown, hts, hX, hbl, hlocks, hgv⟩ := id C0
  have hts0 : ∀ w ∈ GW, w.before #[Value.ref bA] s = true := fun w hw => hts w (gw_tbl hw)
  have hNM : ∀ q ∈ nestM, va_Nw (.methodLinkNest q.1 q.2.1 q.2.2.1 q.2.2.2) s := (List.forall_mem_cons.mpr ⟨va_Nw.of rfl (hts _ (List.mem_append_right _ (List.mem_of_getElem? (i := 34) rfl))), (List.forall_mem_cons.mpr ⟨va_Nw.of rfl (hts _ (List.mem_append_right _ (List.mem_of_getElem? (i := 87) rfl))), (List.forall_mem_cons.mpr ⟨va_Nw.of rfl (hts _ (List.mem_append_right _ (List.mem_of_getElem? (i := 203) rfl))), (List.forall_mem_cons.mpr ⟨va_Nw.of rfl (hts _ (List.mem_append_right _ (List.mem_of_getElem? (i := 239) rfl))), (List.forall_mem_cons.mpr ⟨va_Nw.of rfl (hts _ (List.mem_append_right _ (List.mem_of_getElem? (i := 450) rfl))), (List.forall_mem_cons.mpr ⟨va_Nw.of rfl (hts _ (List.mem_append_right _ (List.mem_of_getElem? (i := 461) rfl))), (List.forall_mem_cons.mpr ⟨va_Nw.of rfl (hts _ (List.mem_append_right _ (List.mem_of_getElem? (i := 485) rfl))), (List.forall_mem_cons.mpr ⟨va_Nw.of rfl (hts _ (List.mem_append_right _ (List.mem_of_getElem? (i := 490) rfl))), (List.forall_mem_cons.mpr ⟨va_Nw.of rfl (hts _ (List.mem_append_right _ (List.mem_of_getElem? (i := 503) rfl))), (List.forall_mem_cons.mpr ⟨va_Nw.of rfl (hts _ (List.mem_append_right _ (List.mem_of_getElem? (i := 571) rfl))), (List.forall_mem_cons.mpr ⟨va_Nw.of rfl (hts _ (List.mem_append_right _ (List.mem_of_getElem? (i := 697) rfl))), (List.forall_mem_cons.mpr ⟨va_Nw.of rfl (hts _ (List.mem_append_right _ (List.mem_of_getElem? (i := 876) rfl))), (List.forall_mem_cons.mpr ⟨va_Nw.of rfl (hts _ (List.mem_append_right _ (List.mem_of_getElem? (i := 917) rfl))), (fun _ h => nomatch h)⟩)⟩)⟩)⟩)⟩)⟩)⟩)⟩)⟩)⟩)⟩)⟩)⟩)
  have hNF : ∀ q ∈ nestF, va_Nw (.fieldLinkNest q.1 q.2.1 q.2.2.1 q.2.2.2.1 q.2.2.2.2.1 q.2.2.2.2.2) s := (List.forall_mem_cons.mpr ⟨va_Nw.of rfl (hts _ (List.mem_append_right _ (List.mem_of_getElem? (i := 92) rfl))), (List.forall_mem_cons.mpr ⟨va_Nw.of rfl (hts _ (List.mem_append_right _ (List.mem_of_getElem? (i := 94) rfl))), (fun _ h => nomatch h)⟩)⟩)
  obtain ⟨k0, iS0, hKn0⟩ := u_known (C := RX0) (T := TX0) (N := 6) (n := 6) hts0 inX0 (hts _ (List.mem_append_right _ (List.mem_of_getElem? (i := 86) rfl)))
  obtain ⟨k1, iS1, hKn1⟩ := u_known (C := RX1) (T := TX1) (N := 6) (n := 6) hts0 inX1 (hts _ (List.mem_append_right _ (List.mem_of_getElem? (i := 251) rfl)))
  obtain ⟨k2, iS2, hKn2⟩ := u_known (C := RX2) (T := TX2) (N := 6) (n := 6) hts0 inX2 (hts _ (List.mem_append_right _ (List.mem_of_getElem? (i := 121) rfl)))
  obtain ⟨k3, iS3, hKn3⟩ := u_known (C := RX3) (T := TX3) (N := 2) (n := 2) hts0 inX3 (hts _ (List.mem_append_right _ (List.mem_of_getElem? (i := 238) rfl)))
  obtain ⟨k4, iS4, hKn4⟩ := u_known (C := RX4) (T := TX4) (N := 9) (n := 9) hts0 inX4 (hts _ (List.mem_append_right _ (List.mem_of_getElem? (i := 48) rfl)))
  obtain ⟨k5, iS5, hKn5⟩ := u_known (C := RX5) (T := TX5) (N := 3) (n := 3) hts0 inX5 (hts _ (List.mem_append_right _ (List.mem_of_getElem? (i := 184) rfl)))
  obtain ⟨k6, iS6, hKn6⟩ := u_known (C := RX6) (T := TX6) (N := 2) (n := 2) hts0 inX6 (hts _ (List.mem_append_right _ (List.mem_of_getElem? (i := 33) rfl)))
  obtain ⟨k7, iS7, hKn7⟩ := u_known (C := RX7) (T := TX7) (N := 7) (n := 7) hts0 inX7 (hts _ (List.mem_append_right _ (List.mem_of_getElem? (i := 202) rfl)))
  obtain ⟨k8, iS8, hKn8⟩ := u_known (C := RX8) (T := TX8) (N := 9) (n := 9) hts0 inX8 (hts _ (List.mem_append_right _ (List.mem_of_getElem? (i := 115) rfl)))
  obtain ⟨k9, iS9, hKn9⟩ := u_known (C := RX9) (T := TX9) (N := 11) (n := 11) hts0 inX9 (hts _ (List.mem_append_right _ (List.mem_of_getElem? (i := 25) rfl)))
  obtain ⟨k10, iS10, hKn10⟩ := u_known (C := RX10) (T := TX10) (N := 42) (n := 42) hts0 inX10 (hts _ (List.mem_append_right _ (List.mem_of_getElem? (i := 1056) rfl)))
  obtain ⟨dC, dI, hKc⟩ : ∃ (dC : Nat → ClassId) (dI : Nat → Nat → Nat), ∀ (k : Nat) (q : vw_C), vwCl[k]? = some q → u_Kn s q.1 q.2.1 q.2.2 (dC k) (dI k) := by
    refine ⟨fun k => [k0, k1, k2, k3, k4, k5, k6, k7, k8, k9, k10].getD k k0, fun k => [iS0, iS1, iS2, iS3, iS4, iS5, iS6, iS7, iS8, iS9, iS10].getD k iS0, ?_⟩
    intro k q hq
    match k, hq with
    | 0, hq => cases hq; exact hKn0
    | 1, hq => cases hq; exact hKn1
    | 2, hq => cases hq; exact hKn2
    | 3, hq => cases hq; exact hKn3
    | 4, hq => cases hq; exact hKn4
    | 5, hq => cases hq; exact hKn5
    | 6, hq => cases hq; exact hKn6
    | 7, hq => cases hq; exact hKn7
    | 8, hq => cases hq; exact hKn8
    | 9, hq => cases hq; exact hKn9
    | 10, hq => cases hq; exact hKn10
    | k + 11, hq => simp [vwCl] at hq
  obtain ⟨A, hAe⟩ : ∃ A : Nat → Prop, A = fun q => s.heap.size ≤ q := ⟨_, rfl⟩
  have hA : ∀ q : Nat, s.heap.size ≤ q → A q := fun q h => by rw [hAe]; exact h
  refine start_walk C0 hNM hKc A hA ?_
  intro q1 q2 q3 q4 q5 q6 q7 q8 q9 q10 q11 q12 q13 q14 q15 q16 q17 q18 q19 q20 q21 q22 q23 q24 q25 q26 q27 q28 q29 q30 q31 q32 q33 q34 q35 q36 q37 q38 q39 q40 q41 q61 q62 q63 q64 q65 q66 q67 q68 q69 q70 q71 q72 q73 q74 q75 q76 q77 q78 q79 q98 c42 c43 c44 c45 c46 c47 c48 c49 c50 c51 c52 c53 c54 c55 c56 c57 c58 c59 c60 c80 c81 c82 c83 c84 c85 c86 c87 c88 c89 c90 c91 c92 c93 c94 c95 c96 c97 c98 H locs ls hK hP hD hS hl
  have e_c43 : c43 = c42 := Option.some.inj ((hK.2 1 _ rfl).2.symm.trans (hK.2 0 _ rfl).2)
  have e_c44 : c44 = c42 := Option.some.inj ((hK.2 2 _ rfl).2.symm.trans (hK.2 0 _ rfl).2)
  have e_c45 : c45 = c42 := Option.some.inj ((hK.2 3 _ rfl).2.symm.trans (hK.2 0 _ rfl).2)
  have e_c46 : c46 = c42 := Option.some.inj ((hK.2 4 _ rfl).2.symm.trans (hK.2 0 _ rfl).2)
  have e_c47 : c47 = c42 := Option.some.inj ((hK.2 5 _ rfl).2.symm.trans (hK.2 0 _ rfl).2)
  have e_c48 : c48 = c42 := Option.some.inj ((hK.2 6 _ rfl).2.symm.trans (hK.2 0 _ rfl).2)
  have e_c49 : c49 = c42 := Option.some.inj ((hK.2 7 _ rfl).2.symm.trans (hK.2 0 _ rfl).2)
  have e_c51 : c51 = c42 := Option.some.inj ((hK.2 9 _ rfl).2.symm.trans (hK.2 0 _ rfl).2)
  have e_c52 : c52 = c42 := Option.some.inj ((hK.2 10 _ rfl).2.symm.trans (hK.2 0 _ rfl).2)
  have e_c53 : c53 = c42 := Option.some.inj ((hK.2 11 _ rfl).2.symm.trans (hK.2 0 _ rfl).2)
  have e_c54 : c54 = c42 := Option.some.inj ((hK.2 12 _ rfl).2.symm.trans (hK.2 0 _ rfl).2)
  have e_c55 : c55 = c42 := Option.some.inj ((hK.2 13 _ rfl).2.symm.trans (hK.2 0 _ rfl).2)
  have e_c56 : c56 = c42 := Option.some.inj ((hK.2 14 _ rfl).2.symm.trans (hK.2 0 _ rfl).2)
  have e_c57 : c57 = c42 := Option.some.inj ((hK.2 15 _ rfl).2.symm.trans (hK.2 0 _ rfl).2)
  have e_c58 : c58 = c42 := Option.some.inj ((hK.2 16 _ rfl).2.symm.trans (hK.2 0 _ rfl).2)
  have e_c59 : c59 = c42 := Option.some.inj ((hK.2 17 _ rfl).2.symm.trans (hK.2 0 _ rfl).2)
  have e_c60 : c60 = c42 := Option.some.inj ((hK.2 18 _ rfl).2.symm.trans (hK.2 0 _ rfl).2)
  have e_c80 : c80 = c42 := Option.some.inj ((hK.2 19 _ rfl).2.symm.trans (hK.2 0 _ rfl).2)
  have e_c81 : c81 = c42 := Option.some.inj ((hK.2 20 _ rfl).2.symm.trans (hK.2 0 _ rfl).2)
  have e_c82 : c82 = c42 := Option.some.inj ((hK.2 21 _ rfl).2.symm.trans (hK.2 0 _ rfl).2)
  have e_c83 : c83 = c42 := Option.some.inj ((hK.2 22 _ rfl).2.symm.trans (hK.2 0 _ rfl).2)
  have e_c84 : c84 = c42 := Option.some.inj ((hK.2 23 _ rfl).2.symm.trans (hK.2 0 _ rfl).2)
  have e_c85 : c85 = c42 := Option.some.inj ((hK.2 24 _ rfl).2.symm.trans (hK.2 0 _ rfl).2)
  have e_c86 : c86 = c42 := Option.some.inj ((hK.2 25 _ rfl).2.symm.trans (hK.2 0 _ rfl).2)
  have e_c88 : c88 = c42 := Option.some.inj ((hK.2 27 _ rfl).2.symm.trans (hK.2 0 _ rfl).2)
  have e_c89 : c89 = c42 := Option.some.inj ((hK.2 28 _ rfl).2.symm.trans (hK.2 0 _ rfl).2)
  have e_c90 : c90 = c42 := Option.some.inj ((hK.2 29 _ rfl).2.symm.trans (hK.2 0 _ rfl).2)
  have e_c91 : c91 = c42 := Option.some.inj ((hK.2 30 _ rfl).2.symm.trans (hK.2 0 _ rfl).2)
  have e_c92 : c92 = c42 := Option.some.inj ((hK.2 31 _ rfl).2.symm.trans (hK.2 0 _ rfl).2)
  have e_c93 : c93 = c42 := Option.some.inj ((hK.2 32 _ rfl).2.symm.trans (hK.2 0 _ rfl).2)
  have e_c94 : c94 = c42 := Option.some.inj ((hK.2 33 _ rfl).2.symm.trans (hK.2 0 _ rfl).2)
  have e_c95 : c95 = c42 := Option.some.inj ((hK.2 34 _ rfl).2.symm.trans (hK.2 0 _ rfl).2)
  have e_c97 : c97 = c42 := Option.some.inj ((hK.2 36 _ rfl).2.symm.trans (hK.2 0 _ rfl).2)
  have e_c98 : c98 = c96 := Option.some.inj ((hK.2 37 _ rfl).2.symm.trans (hK.2 35 _ rfl).2)
  have hKt : va_K (dC, dI) vwCl [(c42, .int), (c96, .long), (c87, .boolean), (c50, .object "RiskDesk$Treaty")] s := hK.sub [0, 35, 26, 8] rfl
  obtain ⟨G, hG⟩ : ∃ G : Gd, G = (fun k => ([q1, q2, q3, q4, q5, q6, q7, q8, q9, q10, q11, q12, q13, q32, q33, q34, q35, q36, q39, q40, q41, q14, q17, q20, q23, q26, q29, q15, q18, q21, q24, q27, q30, q37, q16, q19, q22, q25, q28, q31, q38, q61, q62, q63, q64, q65, q66, q67, q68, q69, q70, q71, q72, q73, q74, q75, q76, q77, q78, q79, q98] ++ (List.replicate 9 0 ++ ([t0, t1, t2, t3] ++ (List.replicate 6 0 ++ ([adK 0, adK 1, adK 2] ++ (List.replicate 7 0 ++ [adV 0, adV 1, adV 2])))))).getD k 0, dC, dI, fun k => [c42, c96, c87, c50].getD k 0) := ⟨_, rfl⟩
  have hTr : (va_up (va_up (va_up (va_up (va_up (va_up (fun _ => none) 0 (some q14)) 1 (some q17)) 2 (some q20)) 3 (some q23)) 4 (some q26)) 5 (some q29)) = fun j => if j < 6 then some (G.1 (21 + j)) else none := by
    subst hG
    funext j
    match j with
    | 0 => rfl
    | 1 => rfl
    | 2 => rfl
    | 3 => rfl
    | 4 => rfl
    | 5 => rfl
    | n + 6 => simp [va_up]
  simp only [e_c43, e_c44, e_c45, e_c46, e_c47, e_c48, e_c49, e_c51, e_c52, e_c53, e_c54, e_c55, e_c56, e_c57, e_c58, e_c59, e_c60, e_c80, e_c81, e_c82, e_c83, e_c84, e_c85, e_c86, e_c88, e_c89, e_c90, e_c91, e_c92, e_c93, e_c94, e_c95, e_c97, e_c98] at hP hD
  rw [hTr] at hP hD
  have hP : va_P (dC, dI) vwCl [(q1, .inr (9, [.ref q2, .ref q4, .ref q7, .ref q13, .int 0, .ref q32, .ref q34, .ref q36, .ref q37, .ref q39, .ref q41])), (q2, .inr (6, [.ref q3, .int 0])), (q3, .inl (c42, 900, .inl fun _ => 0)), (q4, .inr (4, [.ref q2, .ref q5, .ref q6, .int 0, .int 0, .int 0, .int 0, .int 0, .int (-1)])), (q5, .inl (c42, 96, .inl fun _ => 0)), (q6, .inl (c42, 18, .inl fun _ => 0)), (q7, .inr (0, [.ref q8, .ref q9, .ref q10, .ref q11, .ref q12, .int 0])), (q8, .inl (c42, 24, .inl fun _ => 0)), (q9, .inl (c42, 24, .inl fun _ => 0)), (q10, .inl (c42, 24, .inl fun _ => 0)), (q11, .inl (c42, 24, .inl fun _ => 0)), (q12, .inl (c42, 768, .inl fun _ => 0)), (q13, .inl (c50, 6, .inr (.inr (.inr (.inr (fun j => if j < 6 then some (G.1 (21 + j)) else none)))))), (q14, .inr (8, [.ref q7, .ref q15, .int 0, .int 0, .int 0, .int 0, .int 0, .int 0, .int 0])), (q15, .inr (2, [.ref q7, .ref q16, .int 0, .int 0, .int 0, .int 0])), (q16, .inl (c42, 576, .inl fun _ => 0)), (q17, .inr (8, [.ref q7, .ref q18, .int 0, .int 0, .int 0, .int 0, .int 0, .int 0, .int 0])), (q18, .inr (2, [.ref q7, .ref q19, .int 0, .int 0, .int 0, .int 0])), (q19, .inl (c42, 576, .inl fun _ => 0)), (q20, .inr (8, [.ref q7, .ref q21, .int 0, .int 0, .int 0, .int 0, .int 0, .int 0, .int 0])), (q21, .inr (2, [.ref q7, .ref q22, .int 0, .int 0, .int 0, .int 0])), (q22, .inl (c42, 576, .inl fun _ => 0)), (q23, .inr (8, [.ref q7, .ref q24, .int 0, .int 0, .int 0, .int 0, .int 0, .int 0, .int 0])), (q24, .inr (2, [.ref q7, .ref q25, .int 0, .int 0, .int 0, .int 0])), (q25, .inl (c42, 576, .inl fun _ => 0)), (q26, .inr (8, [.ref q7, .ref q27, .int 0, .int 0, .int 0, .int 0, .int 0, .int 0, .int 0])), (q27, .inr (2, [.ref q7, .ref q28, .int 0, .int 0, .int 0, .int 0])), (q28, .inl (c42, 576, .inl fun _ => 0)), (q29, .inr (8, [.ref q7, .ref q30, .int 0, .int 0, .int 0, .int 0, .int 0, .int 0, .int 0])), (q30, .inr (2, [.ref q7, .ref q31, .int 0, .int 0, .int 0, .int 0])), (q31, .inl (c42, 576, .inl fun _ => 0)), (q32, .inr (5, [.ref q33, .int (-2147483648), .int 0])), (q33, .inl (c42, 90, .inl fun _ => 0)), (q34, .inr (5, [.ref q35, .int (-2), .int 0])), (q35, .inl (c42, 90, .inl fun _ => 0)), (q36, .inr (7, [.int 0, .int 0, .int 0, .int 0, .int 0, .int 0, .int 0])), (q37, .inr (2, [.ref q7, .ref q38, .int 0, .int 0, .int 0, .int 0])), (q38, .inl (c42, 576, .inl fun _ => 0)), (q39, .inr (3, [.ref q40, .int 0])), (q40, .inl (c42, 576, .inl fun _ => 0)), (q41, .inr (1, [.ref q7, .long 0, .long 0, .int 0, .int 0, .int 0])), (q61, .inr (10, [.int 0, .ref q62, .int 0, .ref q63, .ref q64, .int 0, .int 0, .int 0, .int 0, .int 0, .int 0, .int 0, .int 0, .int 0, .int 0, .int 0, .int (-1), .ref q65, .ref q66, .ref q67, .ref q68, .ref q69, .ref q70, .ref q71, .ref q72, .ref q73, .ref q74, .int 0, .int 0, .ref q75, .int 0, .ref q76, .int 0, .ref q77, .int 0, .int 0, .int 0, .int 0, .ref q78, .ref q79, .int 0, .long 0])), (q62, .inl (c42, 900, .inl fun _ => 0)), (q63, .inl (c42, 96, .inl fun _ => 0)), (q64, .inl (c42, 18, .inl fun _ => 0)), (q65, .inl (c42, 25, .inl fun _ => 0)), (q66, .inl (c42, 25, .inl fun _ => 0)), (q67, .inl (c42, 25, .inl fun _ => 0)), (q68, .inl (c42, 25, .inl fun _ => 0)), (q69, .inl (c87, 25, .inl fun _ => 0)), (q70, .inl (c42, 6, .inl fun _ => 0)), (q71, .inl (c42, 6, .inl fun _ => 0)), (q72, .inl (c42, 6, .inl fun _ => 0)), (q73, .inl (c42, 6, .inl fun _ => 0)), (q74, .inl (c42, 6, .inl fun _ => 0)), (q75, .inl (c42, 6, .inl fun _ => 0)), (q76, .inl (c42, 90, .inl fun _ => 0)), (q77, .inl (c42, 90, .inl fun _ => 0)), (q78, .inl (c96, 5, .inr (.inl fun _ => 0))), (q79, .inl (c42, 600, .inl fun _ => 0)), (q98, .inl (c96, 1, .inr (.inl fun _ => 0)))] H := hP
  have hD : va_D A [(q1, .inr (9, [.ref q2, .ref q4, .ref q7, .ref q13, .int 0, .ref q32, .ref q34, .ref q36, .ref q37, .ref q39, .ref q41])), (q2, .inr (6, [.ref q3, .int 0])), (q3, .inl (c42, 900, .inl fun _ => 0)), (q4, .inr (4, [.ref q2, .ref q5, .ref q6, .int 0, .int 0, .int 0, .int 0, .int 0, .int (-1)])), (q5, .inl (c42, 96, .inl fun _ => 0)), (q6, .inl (c42, 18, .inl fun _ => 0)), (q7, .inr (0, [.ref q8, .ref q9, .ref q10, .ref q11, .ref q12, .int 0])), (q8, .inl (c42, 24, .inl fun _ => 0)), (q9, .inl (c42, 24, .inl fun _ => 0)), (q10, .inl (c42, 24, .inl fun _ => 0)), (q11, .inl (c42, 24, .inl fun _ => 0)), (q12, .inl (c42, 768, .inl fun _ => 0)), (q13, .inl (c50, 6, .inr (.inr (.inr (.inr (fun j => if j < 6 then some (G.1 (21 + j)) else none)))))), (q14, .inr (8, [.ref q7, .ref q15, .int 0, .int 0, .int 0, .int 0, .int 0, .int 0, .int 0])), (q15, .inr (2, [.ref q7, .ref q16, .int 0, .int 0, .int 0, .int 0])), (q16, .inl (c42, 576, .inl fun _ => 0)), (q17, .inr (8, [.ref q7, .ref q18, .int 0, .int 0, .int 0, .int 0, .int 0, .int 0, .int 0])), (q18, .inr (2, [.ref q7, .ref q19, .int 0, .int 0, .int 0, .int 0])), (q19, .inl (c42, 576, .inl fun _ => 0)), (q20, .inr (8, [.ref q7, .ref q21, .int 0, .int 0, .int 0, .int 0, .int 0, .int 0, .int 0])), (q21, .inr (2, [.ref q7, .ref q22, .int 0, .int 0, .int 0, .int 0])), (q22, .inl (c42, 576, .inl fun _ => 0)), (q23, .inr (8, [.ref q7, .ref q24, .int 0, .int 0, .int 0, .int 0, .int 0, .int 0, .int 0])), (q24, .inr (2, [.ref q7, .ref q25, .int 0, .int 0, .int 0, .int 0])), (q25, .inl (c42, 576, .inl fun _ => 0)), (q26, .inr (8, [.ref q7, .ref q27, .int 0, .int 0, .int 0, .int 0, .int 0, .int 0, .int 0])), (q27, .inr (2, [.ref q7, .ref q28, .int 0, .int 0, .int 0, .int 0])), (q28, .inl (c42, 576, .inl fun _ => 0)), (q29, .inr (8, [.ref q7, .ref q30, .int 0, .int 0, .int 0, .int 0, .int 0, .int 0, .int 0])), (q30, .inr (2, [.ref q7, .ref q31, .int 0, .int 0, .int 0, .int 0])), (q31, .inl (c42, 576, .inl fun _ => 0)), (q32, .inr (5, [.ref q33, .int (-2147483648), .int 0])), (q33, .inl (c42, 90, .inl fun _ => 0)), (q34, .inr (5, [.ref q35, .int (-2), .int 0])), (q35, .inl (c42, 90, .inl fun _ => 0)), (q36, .inr (7, [.int 0, .int 0, .int 0, .int 0, .int 0, .int 0, .int 0])), (q37, .inr (2, [.ref q7, .ref q38, .int 0, .int 0, .int 0, .int 0])), (q38, .inl (c42, 576, .inl fun _ => 0)), (q39, .inr (3, [.ref q40, .int 0])), (q40, .inl (c42, 576, .inl fun _ => 0)), (q41, .inr (1, [.ref q7, .long 0, .long 0, .int 0, .int 0, .int 0])), (q61, .inr (10, [.int 0, .ref q62, .int 0, .ref q63, .ref q64, .int 0, .int 0, .int 0, .int 0, .int 0, .int 0, .int 0, .int 0, .int 0, .int 0, .int 0, .int (-1), .ref q65, .ref q66, .ref q67, .ref q68, .ref q69, .ref q70, .ref q71, .ref q72, .ref q73, .ref q74, .int 0, .int 0, .ref q75, .int 0, .ref q76, .int 0, .ref q77, .int 0, .int 0, .int 0, .int 0, .ref q78, .ref q79, .int 0, .long 0])), (q62, .inl (c42, 900, .inl fun _ => 0)), (q63, .inl (c42, 96, .inl fun _ => 0)), (q64, .inl (c42, 18, .inl fun _ => 0)), (q65, .inl (c42, 25, .inl fun _ => 0)), (q66, .inl (c42, 25, .inl fun _ => 0)), (q67, .inl (c42, 25, .inl fun _ => 0)), (q68, .inl (c42, 25, .inl fun _ => 0)), (q69, .inl (c87, 25, .inl fun _ => 0)), (q70, .inl (c42, 6, .inl fun _ => 0)), (q71, .inl (c42, 6, .inl fun _ => 0)), (q72, .inl (c42, 6, .inl fun _ => 0)), (q73, .inl (c42, 6, .inl fun _ => 0)), (q74, .inl (c42, 6, .inl fun _ => 0)), (q75, .inl (c42, 6, .inl fun _ => 0)), (q76, .inl (c42, 90, .inl fun _ => 0)), (q77, .inl (c42, 90, .inl fun _ => 0)), (q78, .inl (c96, 5, .inr (.inl fun _ => 0))), (q79, .inl (c42, 600, .inl fun _ => 0)), (q98, .inl (c96, 1, .inr (.inl fun _ => 0)))] := hD
  have hP2 : va_P (DG G) vwCl (wsG G (mix true sg0 sg0)) H := by
    have h9 := hP.sub [0, 1, 2, 3, 4, 5, 6, 7, 8, 9, 10, 11, 12, 31, 32, 33, 34, 35, 38, 39, 40, 13, 16, 19, 22, 25, 28, 14, 17, 20, 23, 26, 29, 36, 15, 18, 21, 24, 27, 30, 37, 41, 42, 43, 44, 45, 46, 47, 48, 49, 50, 51, 52, 53, 54, 55, 56, 57, 58, 59, 60] rfl
    subst hG
    exact h9
  have hD2 : va_D A (wsG G (mix true sg0 sg0)) := by
    have h9 := hD.sub (ws' := wsG G (mix true sg0 sg0)) [0, 1, 2, 3, 4, 5, 6, 7, 8, 9, 10, 11, 12, 31, 32, 33, 34, 35, 38, 39, 40, 13, 16, 19, 22, 25, 28, 14, 17, 20, 23, 26, 29, 36, 15, 18, 21, 24, 27, 30, 37, 41, 42, 43, 44, 45, 46, 47, 48, 49, 50, 51, 52, 53, 54, 55, 56, 57, 58, 59, 60] (by decide) (by subst hG; rfl)
    exact h9
  have hAk : ∀ k, k < NB → s.heap.size ≤ G.1 k := fun k hk => by have h9 := hD2.2 k _ (ws_at hk); rw [hAe] at h9; exact h9
  have hsub : ∀ q, AG G q → (fun q => s.heap.size ≤ q) q := fun q ⟨k, hk, e⟩ => by rw [e]; exact hAk k hk
  have C : Cx p s m #[.ref bA] c RL cL_law 7 := ⟨hx, hb, hml, hown, hts0⟩
  refine va_forget (fun q hq => by have h9 := hS.2.2 q hq; rw [hAe] at h9; exact h9) ?_
  have hS2 : va_S (AG G) s.heap H [] := ⟨hS.1, fun q h1 _ => hS.2.1 q h1 (by rw [hAe]; exact Nat.not_le.mpr h1), fun _ h => nomatch h⟩
  have hD3 : va_D (AG G) (wsG G (mix true sg0 sg0)) := ⟨hD2.1, fun k q hk => by
    have hk2 : k < NB := by have h9 := (List.getElem?_eq_some_iff.mp hk).1; unfold wsG at h9; simpa using h9
    rw [ws_at hk2] at hk
    cases hk
    exact ⟨k, hk2, rfl⟩⟩
  have hK3 : va_K (DG G) vwCl (tysG G) s := by subst hG; exact hKt
  have hZ : Zs G s s.heap := by
    refine ⟨fun i hi => ?_, ⟨fun i hi => ?_, fun i j hi hj he => ?_⟩, hz3.narrow hsub, hz4.narrow hsub⟩
    · have h9 := hz1 i hi
      have e : G.1 (70 + i) = [t0, t1, t2, t3].getD i 0 := by subst hG; rcases (show i = 0 ∨ i = 1 ∨ i = 2 ∨ i = 3 by omega) with rfl | rfl | rfl | rfl <;> rfl
      rw [e]
      exact ⟨h9.1.narrow hsub, h9.2.narrow hsub⟩
    · have h9 := (hz2.narrow hsub).1 i hi
      have e : G.1 (80 + i) = adK i := by subst hG; rcases (show i = 0 ∨ i = 1 ∨ i = 2 by omega) with rfl | rfl | rfl <;> rfl
      have e2 : G.1 (90 + i) = adV i := by subst hG; rcases (show i = 0 ∨ i = 1 ∨ i = 2 by omega) with rfl | rfl | rfl <;> rfl
      show va_O "java/lang/String" (G.1 (80 + i)) _ _ _ ∧ va_OF "java/lang/String" "coder" "B" (.int 0) (G.1 (80 + i)) _ _ _ ∧ va_OF "java/lang/String" "value" "[B" (.ref (G.1 (90 + i))) (G.1 (80 + i)) _ _ _ ∧ va_T .byte (G.1 (90 + i)) _ _ _ _ _
      rw [e, e2]
      exact h9
    · have e : ∀ i, i < 3 → G.1 (80 + i) = adK i := fun i hi => by subst hG; rcases (show i = 0 ∨ i = 1 ∨ i = 2 by omega) with rfl | rfl | rfl <;> rfl
      have he : G.1 (80 + i) = G.1 (80 + j) := he
      rw [e i hi, e j hj] at he
      exact hz2.2 i j hi hj he
  have hN : Ns G s := ⟨hNM, hNF, fun i hi => by
    have e : G.1 (80 + i) = adK i := by subst hG; rcases (show i = 0 ∨ i = 1 ∨ i = 2 by omega) with rfl | rfl | rfl <;> rfl
    rw [e]
    exact hz5 i hi⟩
  have S : St G true sg0 sg0 s H [] := ⟨⟨hP2, hK3, hD3⟩, hS2, hZ, hN⟩
  have hl2 : lv_has ls 7 [(0, .ref bA), (1, .ref (G.1 0)), (2, .ref (G.1 41)), (3, .ref (G.1 60)), (4, .int (oI ((7 * 0 : Nat) : Int)))] := by subst hG; exact lv_sub hl [4, 3, 2, 1, 0] rfl
  exact law_loop hL C0 C hAk E hmono (hpol G hAk) 600 0 61 8820 sg0 sg0 H [] ls (by omega) (by omega) (by omega) (by omega) (by omega) S hR0 hl2
