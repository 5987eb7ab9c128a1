theorem oTs_ {α : Type} {t : Nat} {a : Option α} {F : Nat → Option α} (ht : t < 6) : oT (some t) a F = F t := ck_t ht
theorem oTn_ {α : Type} {a : Option α} {F : Nat → Option α} : oT none a F = a := rfl
/-! ===== pure level: the class looks at a treaty ===== -/
theorem RelB.cg {z ζ z' ζ' : Sg} {F : Nat} (h : RelB z ζ F) (e1 : ∀ k, 6 ≤ k → k ≤ 11 → z' k = z k) (e2 : ∀ k, 45 ≤ k → k ≤ 49 → ζ' k = ζ k) : RelB z' ζ' F := by
  unfold RelB Grp
  rw [e1 6 (by decide) (by decide), e1 7 (by decide) (by decide), e1 8 (by decide) (by decide), e1 9 (by decide) (by decide), e1 10 (by decide) (by decide), e1 11 (by decide) (by decide), e2 45 (by decide) (by decide), e2 46 (by decide) (by decide), e2 47 (by decide) (by decide), e2 48 (by decide) (by decide), e2 49 (by decide) (by decide)]
  exact h
theorem DI.cg {z z' : Sg} {d M : Nat} {R : Int} (h : DI z d R M) (e27 : z' (27 + d) 2 = z (27 + d) 2 ∧ z' (27 + d) 5 = z (27 + d) 5) (e34 : z' (34 + d) = z (34 + d)) (e7 : z' 7 = z 7) (e8 : z' 8 = z 8) : DI z' d R M := by
  unfold DI RowE
  rw [e27.1, e27.2, e34, e7, e8]
  exact h
theorem mbS_cg {ζ ζ' : Sg} {t : Nat} (e : ∀ k, 48 ≤ k → k ≤ 50 → ζ' k = ζ k) : mbS ζ' t = mbS ζ t := by
  unfold mbS
  rw [e 48 (by decide) (by decide), e 49 (by decide) (by decide), e 50 (by decide) (by decide)]
theorem TrD.cg {z ζ z' ζ' : Sg} {t : Nat} (h : TrD z ζ t) (e1 : ∀ j, 2 ≤ j → j ≤ 4 → z' (21 + t) j = z (21 + t) j) (e27 : z' (27 + t) 2 = z (27 + t) 2 ∧ z' (27 + t) 5 = z (27 + t) 5) (e34 : z' (34 + t) = z (34 + t)) (e7 : z' 7 = z 7) (e8 : z' 8 = z 8) (e2 : ∀ k, 48 ≤ k → k ≤ 52 → ζ' k = ζ k) : TrD z' ζ' t := by
  obtain ⟨h1, h2, h3⟩ := h
  refine ⟨?_, h2.cg fun k a b => e2 k (by omega) b, ?_⟩
  · rw [e1 2 (by decide) (by decide), e1 3 (by decide) (by decide), e1 4 (by decide) (by decide), e2 50 (by decide) (by decide), e2 51 (by decide) (by decide), e2 52 (by decide) (by decide)]
    exact h1
  · rw [mbS_cg (fun k a b => e2 k a (by omega)), e2 51 (by decide) (by decide)]
    exact h3.cg e27 e34 e7 e8
theorem RelO.cg {z ζ z' ζ' : Sg} (h : RelO z ζ) (e1 : z' 1 1 = z 1 1) (e2 : z' 2 = z 2) (e3 : z' 3 7 = z 3 7) (e4 : z' 3 8 = z 3 8) (e5 : z' 17 = z 17) (m1 : ζ' 41 2 = ζ 41 2) (m2 : ζ' 42 = ζ 42) (m3 : ζ' 41 15 = ζ 41 15) (m4 : ζ' 41 16 = ζ 41 16) (m5 : ζ' 41 30 = ζ 41 30) (m6 : ζ' 55 = ζ 55) : RelO z' ζ' := by
  unfold RelO
  rw [e1, e2, e3, e4, e5, m1, m2, m3, m4, m5, m6]
  exact h
theorem LgP.mono {cnt lg : Int} {row log : Nat → Int} {nb nb' : Nat} (h : LgP cnt row lg log nb) (hn : nb ≤ nb') : LgP cnt row lg log nb' := by
  obtain ⟨C, h1, h2, h3⟩ := h
  exact ⟨C, h1, by omega, h3⟩
theorem wsM_in {z ζ : Sg} {F t : Nat} (ht : t < 6) (h : RelB z ζ F) (hr : MTr ζ t) : InR (wsM ζ t).1 ∧ InR (wsM ζ t).2 := by
  obtain ⟨_, _, _, _, _, a, b⟩ := worstOf_n ht (MRow.of h) hr
  exact ⟨a, b⟩
def FrL (t : Nat) (z z' : Sg) : Prop := ∀ k j, ¬ (k = 21 + t ∧ (j = 7 ∨ j = 8)) → ¬ (k = 15 ∧ j = 2) → k ≠ 16 → z' k j = z k j
theorem FrL.row {t k : Nat} {z z' : Sg} (h : FrL t z z') (h1 : k ≠ 21 + t) (h2 : k ≠ 15) (h3 : k ≠ 16) : z' k = z k := by
  funext j
  exact h k j (fun q => h1 q.1) (fun q => h2 q.1) h3
theorem look_fr {z z' ζ : Sg} {F N t na nb : Nat} (htN : t < N) (hf : FrL t z z') (hB : RelB z ζ F) (hT : RelT z ζ N na) (hO : RelO z ζ) :
    RelB z' (lookM ζ t) F ∧ RelO z' (lookM ζ t) ∧ (z' 0 4 = (N : Int) ∧ lookM ζ t 41 27 = (N : Int)) ∧ (∀ u, u < N → TrD z' (lookM ζ t) u) ∧ (∀ u, u ≠ t → u < N → TrA z' (lookM ζ t) u na ∧ (TrQ z ζ u → TrQ z' (lookM ζ t) u)) ∧ (TrW z ζ t → TrW z' (lookM ζ t) t) := by
  have hN6 := hT.1
  have mk : ∀ k, 42 ≤ k → k ≤ 55 → k ≠ 53 → k ≠ 54 → lookM ζ t k = ζ k := fun k a b c d => lookM_k (by omega)
  have rw_ : ∀ u, wsM (lookM ζ t) u = wsM ζ u := fun u => wsM_cg fun k a b => mk k (by omega) (by omega) (by omega) (by omega)
  refine ⟨hB.cg (fun k a b => hf.row (by omega) (by omega) (by omega)) (fun k a b => mk k (by omega) (by omega) (by omega) (by omega)), ?_, ⟨?_, ?_⟩, fun u hu => ?_, fun u hu huN => ⟨?_, fun hq => ?_⟩, fun hw => ?_⟩
  · exact hO.cg (hf 1 1 (by omega) (by omega) (by omega)) (hf.row (by omega) (by omega) (by omega)) (hf 3 7 (by omega) (by omega) (by omega)) (hf 3 8 (by omega) (by omega) (by omega)) (hf.row (by omega) (by omega) (by omega)) (lookM_41 (by decide)) (lookM_k (by decide)) (lookM_41 (by decide)) (lookM_41 (by decide)) (lookM_41 (by decide)) (lookM_k (by decide))
  · rw [hf 0 4 (by omega) (by omega) (by omega)]
    exact hT.2.1
  · rw [lookM_41 (by decide)]
    exact hT.2.2.1
  · exact (hT.2.2.2 u hu).1.cg (fun j a b => hf _ _ (by omega) (by omega) (by omega)) ⟨hf _ _ (by omega) (by omega) (by omega), hf _ _ (by omega) (by omega) (by omega)⟩ (hf.row (by omega) (by omega) (by omega)) (hf.row (by omega) (by omega) (by omega)) (hf.row (by omega) (by omega) (by omega)) (fun k a b => mk k (by omega) (by omega) (by omega) (by omega))
  · obtain ⟨a1, a2, a3, a4⟩ := (hT.2.2.2 u huN).2
    have e53 : lookM ζ t 53 u = ζ 53 u := lookM_53 hu
    have e54 : lookM ζ t 54 u = ζ 54 u := by
      unfold lookM lookP soundP
      by_cases hp : psM ζ t
      · rw [if_pos hp]
        by_cases ha : ζ 53 t = -2
        · rw [if_pos ha, up_k (by decide), rwk_k (by decide), up_j hu, up_k (by decide)]
        · rw [if_neg ha]
      · rw [if_neg hp, up_k (by decide)]
    unfold TrA
    rw [hf (21 + u) 7 (by omega) (by omega) (by omega), hf (21 + u) 8 (by omega) (by omega) (by omega), e53, e54]
    exact ⟨a1, a2, a3, a4⟩
  · have e53 : lookM ζ t 53 u = ζ 53 u := lookM_53 hu
    obtain ⟨⟨w1, w2⟩, w3⟩ := hq
    refine ⟨⟨?_, ?_⟩, ?_⟩
    · rw [hf (21 + u) 5 (by omega) (by omega) (by omega), rw_]
      exact w1
    · rw [hf (21 + u) 6 (by omega) (by omega) (by omega), rw_]
      exact w2
    · unfold psM at w3 ⊢
      rw [e53, rw_, mk 52 (by decide) (by decide) (by decide) (by decide)]
      exact w3
  · obtain ⟨w1, w2⟩ := hw
    refine ⟨?_, ?_⟩
    · rw [hf (21 + t) 5 (by omega) (by omega) (by omega), rw_]
      exact w1
    · rw [hf (21 + t) 6 (by omega) (by omega) (by omega), rw_]
      exact w2
theorem lookAt_n {z ζ : Sg} {F N t na nb : Nat} (htN : t < N) (hna : na < 100000) (hnb : nb < 90000) (hB : RelB z ζ F) (hT : RelT z ζ N na) (hL : RelL z ζ na nb) (hO : RelO z ζ) (hW : TrW z ζ t) :
    ∃ z', f_X9_lookAt (t : Int) z = some z' ∧ RelB z' (lookM ζ t) F ∧ RelT z' (lookM ζ t) N na ∧ RelL z' (lookM ζ t) na (nb + 1) ∧ RelO z' (lookM ζ t) ∧ TrQ z' (lookM ζ t) t ∧ ∀ u, u ≠ t → u < N → TrQ z ζ u → TrQ z' (lookM ζ t) u := by
  have hN6 := hT.1
  obtain ⟨hD, hA⟩ := hT.2.2.2 t htN
  obtain ⟨⟨d2_, d3, d4⟩, hM, -⟩ := hD
  obtain ⟨a7, a8, al, ah⟩ := hA
  have hin := wsM_in (by omega) hB hM
  have hlim := hM.2.2
  have w6 := hW.2
  unfold f_X9_lookAt
  rw [treatyAt_t hT.2.1 htN hN6, Option.bind_some, oTs_ (by omega)]
  unfold f_X8_isPassed
  rw [ck_t (by omega), w6, d4, w32_eq hin.1, w32_eq (z := ζ 52 t) ⟨by omega, by omega⟩]
  have rw_ : wsM (lookM ζ t) t = wsM ζ t := wsM_cg fun k a b => lookM_k (by omega)
  have rw52 : lookM ζ t 52 = ζ 52 := lookM_k (by decide)
  by_cases hp : psM ζ t
  · have hp2 : ¬ (wsM ζ t).1 ≤ ζ 52 t := by unfold psM at hp; omega
    rw [if_neg hp2, Option.bind_some, w32_1, if_neg (by decide), a7, w32_eq (z := ζ 53 t) ⟨by omega, by omega⟩]
    by_cases hal : ζ 53 t = -2
    · rw [if_pos hal]
      unfold wr
      dsimp only
      obtain ⟨⟨c1, cL, c3⟩, bL, b3⟩ := hL
      obtain ⟨C, hC, hCn, hC3, hC4⟩ := id bL
      obtain ⟨A, hA1, hA2, -⟩ := id cL
      have s13 : up (up z (21 + t) 7 (z (13 + 2 * 0) 2)) (21 + t) 8 (up z (21 + t) 7 (z (13 + 2 * 0) 2) (21 + t) 8 + 1) (13 + 2 * 0) 2 = ζ 41 28 := by
        rw [up_k (by omega), up_k (by omega)]
        exact c1
      have s6 : up (up z (21 + t) 7 (z (13 + 2 * 0) 2)) (21 + t) 8 (up z (21 + t) 7 (z (13 + 2 * 0) 2) (21 + t) 8 + 1) (21 + t) 6 = (wsM ζ t).1 := by
        rw [up_j (by decide), up_j (by decide)]
        exact w6
      have s15 : up (up z (21 + t) 7 (z (13 + 2 * 0) 2)) (21 + t) 8 (up z (21 + t) 7 (z (13 + 2 * 0) 2) (21 + t) 8 + 1) (13 + 2 * 1) 2 = (C : Int) := by
        rw [up_k (by omega), up_k (by omega)]
        exact hC
      rw [s13, s6]
      obtain ⟨z', e, f1, f2, f3, f4⟩ := note_n (σ := up (up z (21 + t) 7 (z (13 + 2 * 0) 2)) (21 + t) 8 (up z (21 + t) 7 (z (13 + 2 * 0) 2) (21 + t) 8 + 1)) (e := 1) (C := C) (a := (t : Int)) (b := ζ 41 28) (c := (wsM ζ t).1) (by decide) s15 (by omega)
      rw [e, Option.bind_some]
      have hf : FrL t z z' := fun k j h1 h2 h3 => by
        by_cases hk : k = 15
        · subst hk
          rw [f4 j (by omega), up_k (by omega), up_k (by omega)]
        · rw [f1 k (by omega) (by omega)]
          by_cases hk2 : k = 21 + t
          · subst hk2
            rw [up_j (by omega), up_j (by omega)]
          · rw [up_k hk2, up_k hk2]
      obtain ⟨r1, r2, r3, r4, r5, r6⟩ := look_fr (na := na) (nb := nb) htN hf hB hT hO
      have e53 : lookM ζ t 53 t = ζ 41 28 := by
        unfold lookM lookP soundP
        rw [if_pos hp, if_pos hal, up_k (by decide), rwk_k (by decide), up_k (by decide), up_s]
      have e54 : lookM ζ t 54 t = ζ 54 t + 1 := by
        unfold lookM lookP soundP
        rw [if_pos hp, if_pos hal, up_k (by decide), rwk_k (by decide), up_s]
      have e56 : lookM ζ t 56 = noteA (ζ 56) (t : Int) (ζ 41 28) (wsM ζ t).1 := by
        unfold lookM lookP soundP
        rw [if_pos hp, if_pos hal, up_k (by decide), rwk_s]
      have e32 : lookM ζ t 41 32 = if ζ 41 32 < 30 then ζ 41 32 + 1 else 30 := by
        unfold lookM lookP soundP
        rw [if_pos hp, if_pos hal, up_s]
      have z7 : z' (21 + t) 7 = ζ 41 28 := by
        rw [f1 _ (by omega) (by omega), up_j (by decide), up_s]
        exact c1
      have z8 : z' (21 + t) 8 = ζ 54 t + 1 := by
        rw [f1 _ (by omega) (by omega), up_s, up_j (by decide), a8]
      have z15 : z' 15 2 = z 15 2 + 1 := by rw [f3, hC]
      have z16 : z' 16 = nteA (z 16) (C % 30) (t : Int) (ζ 41 28) (wsM ζ t).1 := by
        rw [f2, up_k (by omega), up_k (by omega)]
      refine ⟨z', rfl, r1, ⟨hN6, r3.1, r3.2, fun u hu => ⟨r4 u hu, ?_⟩⟩, ⟨⟨?_, ?_, ?_⟩, ?_, ?_⟩, r2, ⟨r6 hW, ?_⟩, fun u h1 h2 h3 => (r5 u h1 h2).2 h3⟩
      · by_cases hut : u = t
        · subst hut
          refine ⟨z7.trans e53.symm, z8.trans e54.symm, ?_, ?_⟩
          · rw [e53]
            omega
          · rw [e53]
            omega
        · exact (r5 u hut hu).1
      · rw [hf 13 2 (by omega) (by omega) (by omega), lookM_41 (by decide)]
        exact c1
      · rw [hf 13 2 (by omega) (by omega) (by omega), hf.row (k := 14) (by omega) (by omega) (by omega), lookM_41 (by decide), lookM_k (by decide)]
        exact cL
      · rw [hf 13 1 (by omega) (by omega) (by omega)]
        exact c3
      · rw [z15, z16, e32, e56]
        exact bL.note hC
      · rw [hf 15 1 (by omega) (by omega) (by omega)]
        exact b3
      · unfold psM
        rw [e53, rw_, rw52]
        have := hp
        unfold psM at this
        constructor
        · intro q
          omega
        · intro q
          exact absurd this q
    · rw [if_neg hal]
      have el : lookM ζ t = ζ := by
        unfold lookM lookP
        rw [if_pos hp, if_neg hal]
      rw [el]
      refine ⟨z, rfl, hB, hT, ⟨hL.1, hL.2.1.mono (by omega), hL.2.2⟩, hO, ⟨hW, ?_⟩, fun u _ _ h3 => h3⟩
      exact ⟨fun q => absurd q hal, fun q => absurd hp q⟩
  · have hp2 : (wsM ζ t).1 ≤ ζ 52 t := by unfold psM at hp; omega
    rw [if_pos hp2, Option.bind_some, w32_0, if_pos rfl]
    unfold wr
    have hf : FrL t z (up z (21 + t) 7 (-2)) := fun k j h1 h2 h3 => by
      by_cases hk2 : k = 21 + t
      · subst hk2
        rw [up_j (by omega)]
      · rw [up_k hk2]
    obtain ⟨r1, r2, r3, r4, r5, r6⟩ := look_fr (na := na) (nb := nb) htN hf hB hT hO
    have el : lookM ζ t = up ζ 53 t (-2) := by
      unfold lookM lookP
      rw [if_neg hp]
    have e53 : lookM ζ t 53 t = -2 := by rw [el, up_s]
    have e54 : lookM ζ t 54 t = ζ 54 t := by rw [el, up_k (by decide)]
    have e56 : lookM ζ t 56 = ζ 56 := by rw [el, up_k (by decide)]
    have e32 : lookM ζ t 41 = ζ 41 := by rw [el, up_k (by decide)]
    have e57 : lookM ζ t 57 = ζ 57 := lookM_k (by decide)
    refine ⟨_, rfl, r1, ⟨hN6, r3.1, r3.2, fun u hu => ⟨r4 u hu, ?_⟩⟩, ?_, r2, ⟨r6 hW, ?_⟩, fun u h1 h2 h3 => (r5 u h1 h2).2 h3⟩
    · by_cases hut : u = t
      · subst hut
        unfold TrA
        rw [e53, e54, up_s, up_j (by decide)]
        exact ⟨rfl, a8, by omega, by omega⟩
      · exact (r5 u hut hu).1
    · unfold RelL
      rw [hf 13 2 (by omega) (by omega) (by omega), hf.row (k := 14) (by omega) (by omega) (by omega), hf 13 1 (by omega) (by omega) (by omega), show up z (21 + t) 7 (-2) 15 = z 15 from up_k (by omega), show up z (21 + t) 7 (-2) 16 = z 16 from up_k (by omega), e56, e32, e57]
      exact ⟨hL.1, hL.2.1.mono (by omega), hL.2.2⟩
    · unfold psM
      rw [e53, rw_, rw52]
      have := hp
      unfold psM at this
      exact ⟨fun _ => this, fun _ => rfl⟩
