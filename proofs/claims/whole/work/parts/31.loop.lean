def LawEq (Rel : Nat → Sg → Sg → Prop) : Prop := Eq_feed Rel ∧ Eq_text Rel ∧ Eq_fault Rel ∧ Eq_write Rel ∧ Eq_move Rel ∧ Eq_change Rel ∧ Eq_lapse Rel ∧ Eq_treaty Rel ∧ Eq_limit Rel ∧ Eq_its Rel ∧ Eq_worst Rel ∧ Eq_inWorst Rel ∧ Eq_bound Rel ∧ Eq_spread Rel ∧ Eq_ring Rel ∧ Eq_part Rel ∧ Eq_second Rel ∧ Eq_chains Rel ∧ Eq_tightest Rel ∧ Eq_together Rel ∧ Eq_heaviest Rel ∧ Eq_heaviestSet Rel ∧ Eq_two Rel ∧ Eq_cover Rel ∧ Eq_square Rel ∧ Eq_radiusFor Rel ∧ Eq_ifWritten Rel ∧ Eq_about Rel ∧ Eq_most Rel ∧ Eq_places Rel ∧ Eq_relief Rel ∧ Eq_fewest Rel ∧ Eq_nearest Rel ∧ Eq_couples Rel ∧ Eq_along Rel ∧ Eq_storm Rel ∧ Eq_hit Rel ∧ Eq_pays Rel ∧ Eq_drawn Rel ∧ Eq_alarm Rel ∧ Eq_act Rel ∧ Eq_count Rel
theorem rg_tabOut {p : Program} {l : Launch} {e : Env} {R : Room} {s : State} {m : MethodId} {args : Array Value} {below : List Frame} {meth : Method} {c : Code} {H : Heap} {locs : List Loc} {cells slots : Nat} {Q : State → Prop} {pc : Nat} {ls : Array Slot} {rest : List Value} {own : String} {cc : ByteArray} {nL : Nat} (C : Cx p s m args c own cc nL) {dflt lo hi : Int} {offs : Array Int} {len : Nat} {x : Int} {tgt : Nat} (hdg : decode cc pc = .ok (.tableswitch dflt lo hi offs, len)) (h : w32 x < lo ∨ hi < w32 x) (ht : (pc : Int) + dflt = (tgt : Int)) (k : W p l e R s m args below meth c H locs cells slots Q (F0 m tgt ls rest)) : W p l e R s m args below meth c H locs cells slots Q (F0 m pc ls (.int (oI x) :: rest)) :=
  lv_tableOut C.1 C.2.1 hdg h ht k
def PolCase (p : Program) (l : Launch) (e : Env) (s : State) (m : MethodId) (below : List Frame) (meth : Method) (c : Code) (G : Gd) (bA L : Nat) (xs : Nat → Int32) (Rel : Nat → Sg → Sg → Prop) : Prop :=
  ∀ (n : Nat) (i : Int) (σd σm : Sg) (H : Heap) (locs : List Loc) (ls : Array Slot) (cells slots : Nat), St G true σm σd s H locs → n < 512 → Rel n σd σm → cells + 20 ≤ room_1.cells ∧ slots + 200 ≤ room_1.slots → (0 ≤ i ∧ i + 7 ≤ (L : Int)) → lv_has ls 7 [(0, .ref bA), (1, .ref (G.1 0)), (2, .ref (G.1 41)), (3, .ref (G.1 60)), (4, .int (oI i))] →
    (∀ H locs ls (σd σm : Sg), St G true σm σd s H locs → Rel (n + 1) σd σm → lv_has ls 7 [(0, .ref bA), (1, .ref (G.1 0)), (2, .ref (G.1 41)), (3, .ref (G.1 60)), (4, .int (oI i))] → W p l e room_1 s m #[.ref bA] below meth c H locs (cells + 1) (slots + 6) (lw_Z below #[Value.ref bA] s) (F0 m 2011 ls [])) → W p l e room_1 s m #[.ref bA] below meth c H locs cells slots (lw_Z below #[Value.ref bA] s) (F0 m 609 ls [])
set_option maxHeartbeats 8000000 in
set_option maxRecDepth 100000 in
theorem law_loop {p : Program} {l : Launch} {e : Env} {s : State} {m : MethodId} {below : List Frame} {meth : Method} {c : Code} {G : Gd} {bA L : Nat} {xs : Nat → Int32} {Rel : Nat → Sg → Sg → Prop} (hL : L ≤ 3584) (C0 : lw_At p s m meth c bA L xs) (C : Cx p s m #[.ref bA] c RL cL_law 7) (hA : ∀ k, k < NB → s.heap.size ≤ G.1 k) (E : LawEq Rel) (hmono : ∀ j σd σm, Rel j σd σm → Rel (j + 1) σd σm) (hpol : PolCase p l e s m below meth c G bA L xs Rel) :
    ∀ (k j cells slots : Nat) (σd σm : Sg) (H : Heap) (locs : List Loc) (ls : Array Slot), L + 7 < 7 * j + 7 * k → 7 * j ≤ L + 7 → j ≤ 512 → cells ≤ 1000 + j → slots ≤ 100000 + 6 * j → St G true σm σd s H locs → Rel j σd σm → lv_has ls 7 [(0, .ref bA), (1, .ref (G.1 0)), (2, .ref (G.1 41)), (3, .ref (G.1 60)), (4, .int (oI ((7 * j : Nat) : Int)))] → W p l e room_1 s m #[.ref bA] below meth c H locs cells slots (lw_Z below #[Value.ref bA] s) (F0 m 23 ls []) := by
  obtain ⟨-, -, hr, -, -, -, hX, hbl, hlocks, -⟩ := id C0
  have hbA : ¬ AG G bA := fun ⟨k, hk, e⟩ => by have := hA k hk; omega
  intro k
  induction k with
  | zero => intro j cells slots σd σm H locs ls h1 h2; omega
  | succ k ih =>
    intro j cells slots σd σm H locs ls h1 h2 h3 hcc hcs S hR hl
    obtain ⟨i, hi⟩ : ∃ i : Int, i = ((7 * j : Nat) : Int) := ⟨_, rfl⟩
    rw [← hi] at hl
    have hck : cells ≤ 1512 ∧ slots ≤ 103072 := by omega
    have hrm : room_1.cells = 601024 ∧ room_1.slots = 7293034 := ⟨rfl, rfl⟩
    refine lv_iload C.1 C.2.1 dL_law_23 (lv_at hl 4 rfl) ?_
    refine lv_aload_n C.1 C.2.1 dL_law_25 rfl (lv_at hl 0 rfl) ?_
    refine va_slen C.1 C.2.1 hX hbl hbA S.2.1 dL_law_26 ?_
    rw [← oI_nat L]
    refine r_bipush C dL_law_27 (by decide) ?_
    refine r_isub C dL_law_29 ?_
    refine r_icmp_gt C (w32_eq ⟨by omega, by omega⟩) (w32_eq ⟨by omega, by omega⟩) (tgt := 2017) dL_law_30 (by decide) (fun hle => ?_) (fun hgt => ?_)
    case refine_2 =>
      refine r_iconst C dL_law_2017 ?_
      refine va_forget (fun q hq => by obtain ⟨k, hk, e⟩ := S.2.1.2.2 q hq; rw [e]; exact hA k hk) ?_
      refine W.widen (k := 601024) (n := 7293034) (by omega) (by omega) ?_
      exact lw_ret C.1 C.2.1 hr hlocks dL_law_2018
    have hj : j < 512 := by omega
    have hi7 : 0 ≤ i ∧ i + 7 ≤ (L : Int) := by omega
    have hck2 : cells + 0 ≤ room_1.cells ∧ slots + 0 ≤ room_1.slots := by omega
    have hk0 : ∀ H locs ls (σd σm : Sg), St G true σm σd s H locs → Rel (j + 1) σd σm → lv_has ls 7 [(0, .ref bA), (1, .ref (G.1 0)), (2, .ref (G.1 41)), (3, .ref (G.1 60)), (4, .int (oI i))] → W p l e room_1 s m #[.ref bA] below meth c H locs (cells + 1) (slots + 6) (lw_Z below #[Value.ref bA] s) (F0 m 2011 ls []) := by
      intro H locs ls σd σm S hR hl
      refine r_iinc C dL_law_2011 hl (k := 4) rfl (by decide) (lv' := [(4, .int (oI (i + 7))), (0, .ref bA), (1, .ref (G.1 0)), (2, .ref (G.1 41)), (3, .ref (G.1 60))]) rfl (fun ls hl => ?_)
      refine lv_goto C.1 C.2.1 (tgt := 23) dL_law_2014 (by decide) ?_
      have e7 : i + 7 = ((7 * (j + 1) : Nat) : Int) := by omega
      rw [e7] at hl
      exact ih (j + 1) (cells + 1) (slots + 6) σd σm H locs ls (by omega) (by omega) (by omega) (by omega) (by omega) S hR (lv_sub hl [1, 2, 3, 4, 0] rfl)
    have hk : ∀ H locs (σd σm : Sg), St G true σm σd s H locs → Rel (j + 1) σd σm → W p l e room_1 s m #[.ref bA] below meth c H locs cells slots (lw_Z below #[Value.ref bA] s) (F0 m 2011 ls []) := fun H locs σd σm S hR => W.widen (Nat.le_succ _) (Nat.le_add_right _ 6) (hk0 H locs ls σd σm S hR hl)
    refine lv_aload_n C.1 C.2.1 dL_law_33 rfl (lv_at hl 0 rfl) ?_
    refine lv_iload C.1 C.2.1 dL_law_34 (lv_at hl 4 rfl) ?_
    refine law_sld C S hX hbl hbA hL (i := i) (by omega) dL_law_36 ?_
    refine r_bipush C dL_law_37 (by decide) ?_
    refine r_iand C rfl (show u32 63 = 63 by decide) dL_law_39 ?_
    have ht : (u32 (sc xs i) &&& 63) < 64 := Nat.lt_of_le_of_lt Nat.and_le_right (by decide)
    generalize (u32 (sc xs i) &&& 63) = t at ht
    have hw : w32 ((t : Nat) : Int) = (t : Int) := w32_eq ⟨by omega, by omega⟩
    by_cases h0 : t = 0
    · subst h0
      refine r_tabInG C (tgt := 228) (v := 0) dL_law_40 hw (by decide) (by decide) rfl (by decide) ?_
      exact lw_case_feed C S (E.1) hj hR hck2 hi7 hX hbl hbA hL hl hk
    by_cases h1 : t = 1
    · subst h1
      refine r_tabInG C (tgt := 301) (v := 1) dL_law_40 hw (by decide) (by decide) rfl (by decide) ?_
      exact lw_case_text C S (E.2.1) hj hR hck2 hi7 hX hbl hbA hL hl hk
    by_cases h2 : t = 2
    · subst h2
      refine r_tabInG C (tgt := 326) (v := 2) dL_law_40 hw (by decide) (by decide) rfl (by decide) ?_
      exact lw_case_fault C S (E.2.2.1) hj hR hck2 hi7 hX hbl hbA hL hl hk
    by_cases h3 : t = 3
    · subst h3
      refine r_tabInG C (tgt := 351) (v := 3) dL_law_40 hw (by decide) (by decide) rfl (by decide) ?_
      exact lw_case_write C S (E.2.2.2.1) hj hR hck2 hi7 hX hbl hbA hL hl hk
    by_cases h4 : t = 4
    · subst h4
      refine r_tabInG C (tgt := 412) (v := 4) dL_law_40 hw (by decide) (by decide) rfl (by decide) ?_
      exact lw_case_move C S (E.2.2.2.2.1) hj hR hck2 hi7 hX hbl hbA hL hl hk
    by_cases h5 : t = 5
    · subst h5
      refine r_tabInG C (tgt := 461) (v := 5) dL_law_40 hw (by decide) (by decide) rfl (by decide) ?_
      exact lw_case_change C S (E.2.2.2.2.2.1) hj hR hck2 hi7 hX hbl hbA hL hl hk
    by_cases h6 : t = 6
    · subst h6
      refine r_tabInG C (tgt := 498) (v := 6) dL_law_40 hw (by decide) (by decide) rfl (by decide) ?_
      exact lw_case_lapse C S (E.2.2.2.2.2.2.1) hj hR hck2 hi7 hX hbl hbA hL hl hk
    by_cases h7 : t = 7
    · subst h7
      refine r_tabInG C (tgt := 523) (v := 7) dL_law_40 hw (by decide) (by decide) rfl (by decide) ?_
      exact lw_case_treaty C S (E.2.2.2.2.2.2.2.1) hj hR hck2 hi7 hX hbl hbA hL hl hk
    by_cases h8 : t = 8
    · subst h8
      refine r_tabInG C (tgt := 572) (v := 8) dL_law_40 hw (by decide) (by decide) rfl (by decide) ?_
      exact lw_case_limit C S (E.2.2.2.2.2.2.2.2.1) hj hR hck2 hi7 hX hbl hbA hL hl hk
    by_cases h9 : t = 9
    · subst h9
      refine r_tabInG C (tgt := 609) (v := 9) dL_law_40 hw (by decide) (by decide) rfl (by decide) ?_
      exact hpol j i σd σm H locs ls cells slots S hj hR (by omega) hi7 hl hk0
    by_cases h10 : t = 10
    · subst h10
      refine r_tabInG C (tgt := 677) (v := 10) dL_law_40 hw (by decide) (by decide) rfl (by decide) ?_
      exact lw_case_its C S (E.2.2.2.2.2.2.2.2.2.1) hj hR hck2 hi7 hX hbl hbA hL hl hk
    by_cases h11 : t = 11
    · subst h11
      refine r_tabInG C (tgt := 714) (v := 11) dL_law_40 hw (by decide) (by decide) rfl (by decide) ?_
      exact lw_case_worst C S (E.2.2.2.2.2.2.2.2.2.2.1) hj hR hck2 hi7 hX hbl hbA hL hl hk
    by_cases h12 : t = 12
    · subst h12
      refine r_tabInG C (tgt := 751) (v := 12) dL_law_40 hw (by decide) (by decide) rfl (by decide) ?_
      exact lw_case_inWorst C S (E.2.2.2.2.2.2.2.2.2.2.2.1) hj hR hck2 hi7 hX hbl hbA hL hl hk
    by_cases h13 : t = 13
    · subst h13
      refine r_tabInG C (tgt := 788) (v := 13) dL_law_40 hw (by decide) (by decide) rfl (by decide) ?_
      exact lw_case_bound C S (E.2.2.2.2.2.2.2.2.2.2.2.2.1) hj hR hck2 hi7 hX hbl hbA hL hl hk
    by_cases h14 : t = 14
    · subst h14
      refine r_tabInG C (tgt := 825) (v := 14) dL_law_40 hw (by decide) (by decide) rfl (by decide) ?_
      exact lw_case_spread C S (E.2.2.2.2.2.2.2.2.2.2.2.2.2.1) hj hR hck2 hi7 hX hbl hbA hL hl hk
    by_cases h15 : t = 15
    · subst h15
      refine r_tabInG C (tgt := 850) (v := 15) dL_law_40 hw (by decide) (by decide) rfl (by decide) ?_
      exact lw_case_ring C S (E.2.2.2.2.2.2.2.2.2.2.2.2.2.2.1) hj hR hck2 hi7 hX hbl hbA hL hl hk
    by_cases h16 : t = 16
    · subst h16
      refine r_tabInG C (tgt := 888) (v := 16) dL_law_40 hw (by decide) (by decide) rfl (by decide) ?_
      exact lw_case_part C S (E.2.2.2.2.2.2.2.2.2.2.2.2.2.2.2.1) hj hR hck2 hi7 hX hbl hbA hL hl hk
    by_cases h17 : t = 17
    · subst h17
      refine r_tabInG C (tgt := 925) (v := 17) dL_law_40 hw (by decide) (by decide) rfl (by decide) ?_
      exact lw_case_second C S (E.2.2.2.2.2.2.2.2.2.2.2.2.2.2.2.2.1) hj hR hck2 hi7 hX hbl hbA hL hl hk
    by_cases h18 : t = 18
    · subst h18
      refine r_tabInG C (tgt := 950) (v := 18) dL_law_40 hw (by decide) (by decide) rfl (by decide) ?_
      exact lw_case_chains C S (E.2.2.2.2.2.2.2.2.2.2.2.2.2.2.2.2.2.1) hj hR hck2 hi7 hX hbl hbA hL hl hk
    by_cases h19 : t = 19
    · subst h19
      refine r_tabInG C (tgt := 999) (v := 19) dL_law_40 hw (by decide) (by decide) rfl (by decide) ?_
      exact lw_case_tightest C S (E.2.2.2.2.2.2.2.2.2.2.2.2.2.2.2.2.2.2.1) hj hR hck2 hi7 hX hbl hbA hL hl hk
    by_cases h20 : t = 20
    · subst h20
      refine r_tabInG C (tgt := 1012) (v := 20) dL_law_40 hw (by decide) (by decide) rfl (by decide) ?_
      exact lw_case_together C S (E.2.2.2.2.2.2.2.2.2.2.2.2.2.2.2.2.2.2.2.1) hj hR hck2 hi7 hX hbl hbA hL hl hk
    by_cases h21 : t = 21
    · subst h21
      refine r_tabInG C (tgt := 1061) (v := 21) dL_law_40 hw (by decide) (by decide) rfl (by decide) ?_
      exact lw_case_heaviest C S (E.2.2.2.2.2.2.2.2.2.2.2.2.2.2.2.2.2.2.2.2.1) hj hR hck2 hi7 hX hbl hbA hL hl hk
    by_cases h22 : t = 22
    · subst h22
      refine r_tabInG C (tgt := 1098) (v := 22) dL_law_40 hw (by decide) (by decide) rfl (by decide) ?_
      exact lw_case_heaviestSet C S (E.2.2.2.2.2.2.2.2.2.2.2.2.2.2.2.2.2.2.2.2.2.1) hj hR hck2 hi7 hX hbl hbA hL hl hk
    by_cases h23 : t = 23
    · subst h23
      refine r_tabInG C (tgt := 1135) (v := 23) dL_law_40 hw (by decide) (by decide) rfl (by decide) ?_
      exact lw_case_two C S (E.2.2.2.2.2.2.2.2.2.2.2.2.2.2.2.2.2.2.2.2.2.2.1) hj hR hck2 hi7 hX hbl hbA hL hl hk
    by_cases h24 : t = 24
    · subst h24
      refine r_tabInG C (tgt := 1184) (v := 24) dL_law_40 hw (by decide) (by decide) rfl (by decide) ?_
      exact lw_case_cover C S (E.2.2.2.2.2.2.2.2.2.2.2.2.2.2.2.2.2.2.2.2.2.2.2.1) hj hR hck2 hi7 hX hbl hbA hL hl hk
    by_cases h25 : t = 25
    · subst h25
      refine r_tabInG C (tgt := 1221) (v := 25) dL_law_40 hw (by decide) (by decide) rfl (by decide) ?_
      exact lw_case_square C S (E.2.2.2.2.2.2.2.2.2.2.2.2.2.2.2.2.2.2.2.2.2.2.2.2.1) hj hR hck2 hi7 hX hbl hbA hL hl hk
    by_cases h26 : t = 26
    · subst h26
      refine r_tabInG C (tgt := 1270) (v := 26) dL_law_40 hw (by decide) (by decide) rfl (by decide) ?_
      exact lw_case_radiusFor C S (E.2.2.2.2.2.2.2.2.2.2.2.2.2.2.2.2.2.2.2.2.2.2.2.2.2.1) hj hR hck2 hi7 hX hbl hbA hL hl hk
    by_cases h27 : t = 27
    · subst h27
      refine r_tabInG C (tgt := 1307) (v := 27) dL_law_40 hw (by decide) (by decide) rfl (by decide) ?_
      exact lw_case_ifWritten C S (E.2.2.2.2.2.2.2.2.2.2.2.2.2.2.2.2.2.2.2.2.2.2.2.2.2.2.1) hj hR hck2 hi7 hX hbl hbA hL hl hk
    by_cases h28 : t = 28
    · subst h28
      refine r_tabInG C (tgt := 1380) (v := 28) dL_law_40 hw (by decide) (by decide) rfl (by decide) ?_
      exact lw_case_about C S (E.2.2.2.2.2.2.2.2.2.2.2.2.2.2.2.2.2.2.2.2.2.2.2.2.2.2.2.1) hj hR hck2 hi7 hX hbl hbA hL hl hk
    by_cases h29 : t = 29
    · subst h29
      refine r_tabInG C (tgt := 1429) (v := 29) dL_law_40 hw (by decide) (by decide) rfl (by decide) ?_
      exact lw_case_most C S (E.2.2.2.2.2.2.2.2.2.2.2.2.2.2.2.2.2.2.2.2.2.2.2.2.2.2.2.2.1) hj hR hck2 hi7 hX hbl hbA hL hl hk
    by_cases h30 : t = 30
    · subst h30
      refine r_tabInG C (tgt := 1478) (v := 30) dL_law_40 hw (by decide) (by decide) rfl (by decide) ?_
      exact lw_case_places C S (E.2.2.2.2.2.2.2.2.2.2.2.2.2.2.2.2.2.2.2.2.2.2.2.2.2.2.2.2.2.1) hj hR hck2 hi7 hX hbl hbA hL hl hk
    by_cases h31 : t = 31
    · subst h31
      refine r_tabInG C (tgt := 1515) (v := 31) dL_law_40 hw (by decide) (by decide) rfl (by decide) ?_
      exact lw_case_relief C S (E.2.2.2.2.2.2.2.2.2.2.2.2.2.2.2.2.2.2.2.2.2.2.2.2.2.2.2.2.2.2.1) hj hR hck2 hi7 hX hbl hbA hL hl hk
    by_cases h32 : t = 32
    · subst h32
      refine r_tabInG C (tgt := 1552) (v := 32) dL_law_40 hw (by decide) (by decide) rfl (by decide) ?_
      exact lw_case_fewest C S (E.2.2.2.2.2.2.2.2.2.2.2.2.2.2.2.2.2.2.2.2.2.2.2.2.2.2.2.2.2.2.2.1) hj hR hck2 hi7 hX hbl hbA hL hl hk
    by_cases h33 : t = 33
    · subst h33
      refine r_tabInG C (tgt := 1577) (v := 33) dL_law_40 hw (by decide) (by decide) rfl (by decide) ?_
      exact lw_case_nearest C S (E.2.2.2.2.2.2.2.2.2.2.2.2.2.2.2.2.2.2.2.2.2.2.2.2.2.2.2.2.2.2.2.2.1) hj hR hck2 hi7 hX hbl hbA hL hl hk
    by_cases h34 : t = 34
    · subst h34
      refine r_tabInG C (tgt := 1602) (v := 34) dL_law_40 hw (by decide) (by decide) rfl (by decide) ?_
      exact lw_case_couples C S (E.2.2.2.2.2.2.2.2.2.2.2.2.2.2.2.2.2.2.2.2.2.2.2.2.2.2.2.2.2.2.2.2.2.1) hj hR hck2 hi7 hX hbl hbA hL hl hk
    by_cases h35 : t = 35
    · subst h35
      refine r_tabInG C (tgt := 1627) (v := 35) dL_law_40 hw (by decide) (by decide) rfl (by decide) ?_
      exact lw_case_along C S (E.2.2.2.2.2.2.2.2.2.2.2.2.2.2.2.2.2.2.2.2.2.2.2.2.2.2.2.2.2.2.2.2.2.2.1) hj hR hck2 hi7 hX hbl hbA hL hl hk
    by_cases h36 : t = 36
    · subst h36
      refine r_tabInG C (tgt := 1714) (v := 36) dL_law_40 hw (by decide) (by decide) rfl (by decide) ?_
      exact lw_case_storm C S (E.2.2.2.2.2.2.2.2.2.2.2.2.2.2.2.2.2.2.2.2.2.2.2.2.2.2.2.2.2.2.2.2.2.2.2.1) hj hR hck2 hi7 hX hbl hbA hL hl hk
    by_cases h37 : t = 37
    · subst h37
      refine r_tabInG C (tgt := 1801) (v := 37) dL_law_40 hw (by decide) (by decide) rfl (by decide) ?_
      exact lw_case_hit C S (E.2.2.2.2.2.2.2.2.2.2.2.2.2.2.2.2.2.2.2.2.2.2.2.2.2.2.2.2.2.2.2.2.2.2.2.2.1) hj hR hck2 hi7 hX hbl hbA hL hl hk
    by_cases h38 : t = 38
    · subst h38
      refine r_tabInG C (tgt := 1826) (v := 38) dL_law_40 hw (by decide) (by decide) rfl (by decide) ?_
      exact lw_case_pays C S (E.2.2.2.2.2.2.2.2.2.2.2.2.2.2.2.2.2.2.2.2.2.2.2.2.2.2.2.2.2.2.2.2.2.2.2.2.2.1) hj hR hck2 hi7 hX hbl hbA hL hl hk
    by_cases h39 : t = 39
    · subst h39
      refine r_tabInG C (tgt := 1851) (v := 39) dL_law_40 hw (by decide) (by decide) rfl (by decide) ?_
      exact lw_case_drawn C S (E.2.2.2.2.2.2.2.2.2.2.2.2.2.2.2.2.2.2.2.2.2.2.2.2.2.2.2.2.2.2.2.2.2.2.2.2.2.2.1) hj hR hck2 hi7 hX hbl hbA hL hl hk
    by_cases h40 : t = 40
    · subst h40
      refine r_tabInG C (tgt := 1912) (v := 40) dL_law_40 hw (by decide) (by decide) rfl (by decide) ?_
      exact lw_case_alarm C S (E.2.2.2.2.2.2.2.2.2.2.2.2.2.2.2.2.2.2.2.2.2.2.2.2.2.2.2.2.2.2.2.2.2.2.2.2.2.2.2.1) hj hR hck2 hi7 hX hbl hbA hL hl hk
    by_cases h41 : t = 41
    · subst h41
      refine r_tabInG C (tgt := 1949) (v := 41) dL_law_40 hw (by decide) (by decide) rfl (by decide) ?_
      exact lw_case_act C S (E.2.2.2.2.2.2.2.2.2.2.2.2.2.2.2.2.2.2.2.2.2.2.2.2.2.2.2.2.2.2.2.2.2.2.2.2.2.2.2.2.1) hj hR hck2 hi7 hX hbl hbA hL hl hk
    by_cases h42 : t = 42
    · subst h42
      refine r_tabInG C (tgt := 1986) (v := 42) dL_law_40 hw (by decide) (by decide) rfl (by decide) ?_
      exact lw_case_count C S (E.2.2.2.2.2.2.2.2.2.2.2.2.2.2.2.2.2.2.2.2.2.2.2.2.2.2.2.2.2.2.2.2.2.2.2.2.2.2.2.2.2) hj hR hck2 hi7 hX hbl hbA hL hl hk
    refine rg_tabOut C (tgt := 2011) dL_law_40 (by rw [hw]; omega) (by decide) ?_
    exact hk H locs σd σm S (hmono j σd σm hR)
