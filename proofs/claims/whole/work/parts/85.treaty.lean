/-! ===== pure level: treaty, limit ===== -/
theorem dOfPerils_n {z ζ : Sg} {F T : Nat} (h : RelB z ζ F) (hT : T < 16) : f_X0_ofPerils (T : Int) z = some ((prS (ζ 49) (ζ 48) T : Nat) : Int) := by
  unfold f_X0_ofPerils
  have hP : ∀ p, p < 24 → (decide (ζ 49 p = 1) && T.testBit (ζ 48 p).toNat) = (F.testBit p && T.testBit (ζ 48 p).toNat) := fun p hp => by
    rw [(h.1.2.2 p hp).1]
    cases F.testBit p <;> rfl
  have hA : prS (ζ 49) (ζ 48) T = mks (fun p => F.testBit p && T.testBit (ζ 48 p).toNat) 24 := mks_congr hP
  rw [hA]
  generalize hQ : (fun p => F.testBit p && T.testBit (ζ 48 p).toNat) = P
  refine loop_at (St := Int) (F := fun n i v => f_X0_ofPerils_b4 z n T v i) 24 (fun i v => v = ((mks P i : Nat) : Int)) (by decide) ?_ ?_ 0 (by decide) 0 rfl
  · intro n i v hi hv
    right
    refine ⟨_, rfl, ?_⟩
    subst hv
    show f_X0_ofPerils_b4 z (n + 1) T ((mks P i : Nat) : Int) (i : Int) = f_X0_ofPerils_b4 z n T ((mks P (i + 1) : Nat) : Int) ((i : Int) + 1)
    obtain ⟨k, hk4, hk, hkz⟩ := peril_k h hi
    have hPi : P i = (F.testBit i && T.testBit k) := by
      rw [← hQ]
      show (F.testBit i && T.testBit (ζ 48 i).toNat) = _
      rw [hk, ntn]
    rw [f_X0_ofPerils_b4, w32_n (by omega), if_pos (by omega), h.1.1, contains_n (by have := h.1.2.1; omega) (by omega), Option.bind_some]
    cases hb : F.testBit i with
    | false =>
      rw [b01_f rfl]
      rw [hb] at hPi
      rw [mks_f hPi]
      rfl
    | true =>
      rw [b01_t rfl, ck_t (by omega), ntn, hkz, contains_n (by omega) (by omega), Option.bind_some]
      rw [hb, Bool.true_and] at hPi
      cases hb2 : T.testBit k with
      | false =>
        rw [b01_f rfl]
        rw [hb2] at hPi
        rw [mks_f hPi]
        rfl
      | true =>
        rw [b01_t rfl]
        rw [hb2] at hPi
        rw [mks_t (by omega) hPi]
        rfl
  · intro n v hv
    subst hv
    show f_X0_ofPerils_b4 z (n + 1) T _ ((24 : Nat) : Int) = _
    rw [f_X0_ofPerils_b4, w32_n (by decide), if_neg (by decide)]
theorem prS_F {z ζ : Sg} {F T : Nat} (h : RelB z ζ F) {q : Nat} (hq : (prS (ζ 49) (ζ 48) T).testBit q = true) : F.testBit q = true := by
  unfold prS at hq
  rw [tb_mks] at hq
  simp only [Bool.and_eq_true, decide_eq_true_eq] at hq
  have := (h.1.2.2 q hq.1).1
  rw [hq.2.1] at this
  cases hb : F.testBit q with
  | true => rfl
  | false =>
    rw [hb, if_neg (by decide)] at this
    omega
theorem looks_one {ζ : Sg} {t N : Nat} (ht : t < N) (h : ∀ u, u < N → u ≠ t → (ζ 53 u = -2 ↔ ¬ psM ζ u)) : looksM ζ N = lookM ζ t := by
  have go : ∀ i, i ≤ N → looksM ζ i = if t < i then lookM ζ t else ζ := by
    intro i
    induction i with
    | zero => exact fun _ => by rw [if_neg (by omega)]; rfl
    | succ i ih =>
      intro hi
      have e := ih (by omega)
      show lookM (looksM ζ i) i = _
      rw [e]
      by_cases h1 : t < i
      · rw [if_pos h1, if_pos (by omega)]
        refine look_id ?_
        have hq := h i (by omega) (by omega)
        unfold psM at hq ⊢
        have rw_ : wsM (lookM ζ t) i = wsM ζ i := wsM_cg fun k _ _ => lookM_k (by omega)
        have r52 : lookM ζ t 52 = ζ 52 := lookM_k (by decide)
        rw [lookM_53 (by omega), rw_, r52]
        exact hq
      · rw [if_neg h1]
        by_cases h2 : t = i
        · subst h2
          rw [if_pos (by omega)]
        · rw [if_neg (by omega)]
          exact look_id (h i (by omega) (by omega))
  have := go N (Nat.le_refl _)
  rw [if_pos ht] at this
  exact this
theorem Eq_limit_n : Eq_limit Rl := by
  intro n σd σm a1 a2 hn hR ha1 ha2
  obtain ⟨F, N, h⟩ := hR
  have h : Rn n σd σm F N := h
  have hs := h.ask (z' := σd) (ζ' := up σm 41 0 0) SD.rf ss0
  have hN6 := h.2.1.1
  have hNm : up σm 41 0 0 41 27 = (N : Int) := by rw [up_j (by decide)]; exact h.2.1.2.2.1
  by_cases c1 : 0 ≤ a1 ∧ a1 < N
  · obtain ⟨t, hte⟩ : ∃ t : Nat, a1 = (t : Int) := ⟨a1.toNat, by omega⟩
    subst hte
    have ht : t < N := by omega
    obtain ⟨⟨d1, d2_, d3⟩, aA⟩ := h.2.1.2.2.2 t ht
    by_cases c2 : 1 ≤ a2 ∧ a2 ≤ 9999999
    · generalize hz : up σd (21 + t) 4 a2 = z1
      generalize hζ : up (up σm 41 0 0) 52 t a2 = ζ2
      have zo : ∀ k j, ¬ (k = 21 + t ∧ j = 4) → z1 k j = σd k j := fun k j q => by
        rw [← hz]
        by_cases e : k = 21 + t
        · subst e
          rw [up_j (by omega)]
        · rw [up_k e]
      have zr : ∀ k, k ≠ 21 + t → z1 k = σd k := fun k q => by
        funext j
        exact zo k j (by omega)
      have z4 : z1 (21 + t) 4 = a2 := by rw [← hz, up_s]
      have m52 : ζ2 52 = updF (σm 52) t a2 := by rw [← hζ, up_updF, up_k (by decide)]
      have mo : ∀ k j, k ≠ 52 → ¬ (k = 41 ∧ j = 0) → ζ2 k j = σm k j := fun k j q1 q3 => by
        rw [← hζ, up_k q1]
        by_cases e : k = 41
        · subst e
          rw [up_j (by omega)]
        · rw [up_k e]
      have mk : ∀ k, k ≠ 52 → k ≠ 41 → ζ2 k = σm k := fun k q1 q2 => by
        funext j
        exact mo k j q1 (by omega)
      have mb : ∀ u, mbS ζ2 u = mbS σm u := fun u => mbS_cg fun k _ _ => mk k (by omega) (by omega)
      have ws : ∀ u, wsM ζ2 u = wsM σm u := fun u => ws_cg (mb u) (by rw [mk 51 (by decide) (by decide)]) (fun q _ => by rw [mk 45 (by decide) (by decide), mk 46 (by decide) (by decide), mk 47 (by decide) (by decide)]; exact ⟨rfl, rfl, rfl⟩)
      have jB : RelB z1 ζ2 F := h.1.cg (fun k _ _ => zr k (by omega)) (fun k _ _ => mk k (by omega) (by omega))
      have jT : RelT z1 ζ2 N n := by
        refine ⟨hN6, by rw [zr 0 (by omega)]; exact h.2.1.2.1, by rw [mo 41 27 (by decide) (by decide)]; exact h.2.1.2.2.1, fun u hu => ?_⟩
        obtain ⟨⟨x1, x2, x3⟩, xA⟩ := h.2.1.2.2.2 u hu
        refine ⟨⟨?_, ?_, ?_⟩, ?_⟩
        · rw [zo _ 2 (by omega), zo _ 3 (by omega), mk 50 (by decide) (by decide), mk 51 (by decide) (by decide), m52]
          refine ⟨x1.1, x1.2.1, ?_⟩
          by_cases e : u = t
          · subst e
            rw [z4, updF_s]
          · rw [zo _ 4 (by omega), updF_o e]
            exact x1.2.2
        · unfold MTr at x2 ⊢
          rw [mk 50 (by decide) (by decide), mk 51 (by decide) (by decide), m52]
          refine ⟨x2.1, x2.2.1, ?_⟩
          by_cases e : u = t
          · subst e
            rw [updF_s]
            exact c2
          · rw [updF_o e]
            exact x2.2.2
        · rw [mb, mk 51 (by decide) (by decide)]
          exact x3.cg ⟨zo _ _ (by omega), zo _ _ (by omega)⟩ (zr _ (by omega)) (zr _ (by omega)) (zr _ (by omega))
        · unfold TrA at xA ⊢
          rw [zo _ 7 (by omega), zo _ 8 (by omega), mk 53 (by decide) (by decide), mk 54 (by decide) (by decide)]
          exact xA
      have jL : RelL z1 ζ2 n (8 * n) := by
        unfold RelL
        rw [zr 13 (by omega), zr 14 (by omega), zr 15 (by omega), zr 16 (by omega), mo 41 28 (by decide) (by decide), mo 41 34 (by decide) (by decide), mo 41 32 (by decide) (by decide), mk 56 (by decide) (by decide), mk 57 (by decide) (by decide)]
        exact h.2.2.1
      have jO : RelO z1 ζ2 := h.2.2.2.1.cg (by rw [zr 1 (by omega)]) (zr _ (by omega)) (by rw [zr 3 (by omega)]) (by rw [zr 3 (by omega)]) (zr _ (by omega)) (mo _ _ (by decide) (by decide)) (mk _ (by decide) (by decide)) (mo _ _ (by decide) (by decide)) (mo _ _ (by decide) (by decide)) (mo _ _ (by decide) (by decide)) (mk _ (by decide) (by decide))
      have jW : ∀ u, u < N → TrW z1 ζ2 u := fun u hu => by
        have := (h.2.2.2.2 u hu).1
        unfold TrW at this ⊢
        rw [ws, zo _ 5 (by omega), zo _ 6 (by omega)]
        exact this
      have jQ : ∀ u, u < N → u ≠ t → TrQ z1 ζ2 u := fun u hu hne => by
        refine ⟨jW u hu, ?_⟩
        have := (h.2.2.2.2 u hu).2
        unfold psM at this ⊢
        rw [ws, mk 53 (by decide) (by decide), m52, updF_o hne]
        exact this
      obtain ⟨z2, e2, lB, lT, lL, lO, lQ, lQ2⟩ := lookAt_n (z := z1) (ζ := ζ2) ht (by omega) (by omega) jB jT jL jO (jW t ht)
      obtain ⟨ζ3, e3, s3⟩ := looks_n (σ := ζ2) (N := N) hN6 jT.2.2.1 (MRow.of jB) (fun u hu => (jT.2.2.2 u hu).1.2.1) (fun u hu => by
        obtain ⟨-, -, x1, x2⟩ := (jT.2.2.2 u hu).2
        exact ⟨by omega, by omega⟩) (by
        obtain ⟨C, -, -, e, -⟩ := jL.2.1
        rw [e]
        split <;> omega)
      rw [looks_one ht (fun u hu hne => (jQ u hu hne).2)] at s3
      refine ⟨(σm 52 t, z2), (σm 52 t, ζ3), ?_, ?_, rfl, Rl.of (F := F) (N := N) (((Rn.mono (m := n + 1) (n := n + 1) ⟨lB, ?_, ⟨⟨lL.1.1, lL.1.2.1.mono (Nat.le_succ n), lL.1.2.2⟩, lL.2.1.mono (by omega), lL.2.2⟩, lO, fun u hu => ?_⟩ (Nat.le_refl _))).ss s3.ss)⟩
      · unfold f_X9_limit wr
        rw [treatyAt_t h.2.1.2.1 ht hN6, Option.bind_some, oTs_ (by omega), w32_eq ha2, if_neg (by omega), if_pos (by omega), hz]
        dsimp only
        rw [e2, Option.bind_some, d1.2.2]
      · unfold f_X10_limit wr
        dsimp only
        rw [isTr_t hNm hN6 ha1, Option.bind_some, c01_t c1, w32_eq ha2, if_neg (by omega), if_pos (by omega), ck_t (by omega), ck_t (by omega), ntn, hζ, e3, Option.bind_some, up_k (by decide : (52 : Nat) ≠ 41)]
      · refine ⟨lT.1, lT.2.1, lT.2.2.1, fun u hu => ?_⟩
        obtain ⟨x, y1, y2, y3, y4⟩ := lT.2.2.2 u hu
        exact ⟨x, y1, y2, y3, by omega⟩
      · by_cases e : u = t
        · subst e
          exact lQ
        · exact lQ2 u e hu (jQ u hu e)
    · refine ⟨(-1, σd), (-1, up σm 41 0 0), ?_, ?_, rfl, hs⟩
      · unfold f_X9_limit
        rw [treatyAt_t h.2.1.2.1 ht hN6, Option.bind_some, oTs_ (by omega), w32_eq ha2]
        by_cases q : a2 < 1
        · rw [if_pos q]
        · rw [if_neg q, if_neg (by omega)]
      · unfold f_X10_limit wr
        dsimp only
        rw [isTr_t hNm hN6 ha1, Option.bind_some, c01_t c1, w32_eq ha2]
        by_cases q : a2 < 1
        · rw [if_pos q]
        · rw [if_neg q, if_neg (by omega)]
  · refine ⟨(-1, σd), (-1, up σm 41 0 0), ?_, ?_, rfl, hs⟩
    · unfold f_X9_limit
      rw [treatyAt_f h.2.1.2.1 ha1 hN6 c1, Option.bind_some]
      rfl
    · unfold f_X10_limit wr
      dsimp only
      rw [isTr_t hNm hN6 ha1, Option.bind_some, c01_f c1]
/-- a treaty more, as the class opens it -/
theorem open_n {z ζ ζ2 : Sg} {F N na nb T : Nat} {R L : Int} (hN : N < 6) (hna : na < 100000) (hnb : nb < 90000) (hT : 1 ≤ T ∧ T ≤ 15) (hR : 1 ≤ R ∧ R ≤ 300) (hL : 1 ≤ L ∧ L ≤ 9999999) (hB : RelB z ζ F) (rT : RelT z ζ N na) (rL : RelL z ζ na nb) (rO : RelO z ζ) (rQ : ∀ t, t < N → TrQ z ζ t)
    (e50 : ζ2 50 = updF (ζ 50) N (T : Int)) (e51 : ζ2 51 = updF (ζ 51) N R) (e52 : ζ2 52 = updF (ζ 52) N L) (e53 : ζ2 53 = updF (ζ 53) N (-2)) (e54 : ζ2 54 = updF (ζ 54) N 0) (e27 : ζ2 41 27 = (N : Int) + 1) (mo : ∀ k j, ¬ (50 ≤ k ∧ k ≤ 54) → ¬ (k = 41 ∧ (j = 27 ∨ j = 0)) → ζ2 k j = ζ k j) :
    ∃ z', f_X9_openTreaty (T : Int) R L z = some ((N : Int), z') ∧ RelB z' (lookM ζ2 N) F ∧ RelT z' (lookM ζ2 N) (N + 1) na ∧ RelL z' (lookM ζ2 N) na (nb + 1) ∧ RelO z' (lookM ζ2 N) ∧ ∀ t, t < N + 1 → TrQ z' (lookM ζ2 N) t := by
  have mk : ∀ k, ¬ (50 ≤ k ∧ k ≤ 54) → k ≠ 41 → ζ2 k = ζ k := fun k q1 q2 => by
    funext j
    exact mo k j q1 (by omega)
  have hF := hB.1.1
  have hFl := hB.1.2.1
  have mb : ∀ u, u ≠ N → mbS ζ2 u = mbS ζ u := fun u hu => by
    unfold mbS
    rw [mk 49 (by decide) (by decide), mk 48 (by decide) (by decide), e50, updF_o hu]
  have mbN : mbS ζ2 N = prS (ζ 49) (ζ 48) T := by
    unfold mbS
    rw [mk 49 (by decide) (by decide), mk 48 (by decide) (by decide), e50, updF_s, ntn]
  have ws : ∀ u, u ≠ N → wsM ζ2 u = wsM ζ u := fun u hu => ws_cg (mb u hu) (by rw [e51, updF_o hu]) (fun q _ => by rw [mk 45 (by decide) (by decide), mk 46 (by decide) (by decide), mk 47 (by decide) (by decide)]; exact ⟨rfl, rfl, rfl⟩)
  unfold f_X9_openTreaty nmN wr
  dsimp only
  rw [rT.2.1, w32_n (by omega), if_neg (by omega), if_pos (by omega), ck_t (by omega), ntn]
  unfold f_X8_agree wr
  dsimp only
  rw [ck_t hN, Option.bind_some]
  generalize hz1 : up (up (up (up (up (up z 0 4 ((N : Int) + 1)) (21 + N) 2 (T : Int)) (21 + N) 3 R) (21 + N) 4 L) (21 + N) 7 (-2)) (21 + N) 8 0 = z1
  have zo : ∀ k j, ¬ (k = 0 ∧ j = 4) → k ≠ 21 + N → z1 k j = z k j := fun k j q1 q2 => by
    rw [← hz1, up_k q2, up_k q2, up_k q2, up_k q2, up_k q2]
    by_cases e : k = 0
    · subst e
      rw [up_j (by omega)]
    · rw [up_k e]
  have zr : ∀ k, k ≠ 0 → k ≠ 21 + N → z1 k = z k := fun k q1 q2 => by
    funext j
    exact zo k j (by omega) q2
  have z04 : z1 0 4 = (N : Int) + 1 := by
    rw [← hz1, up_k (by omega), up_k (by omega), up_k (by omega), up_k (by omega), up_k (by omega), up_s]
  have v2 : z1 (21 + N) 2 = (T : Int) := by rw [← hz1, up_j (by decide), up_j (by decide), up_j (by decide), up_j (by decide), up_s]
  have v3 : z1 (21 + N) 3 = R := by rw [← hz1, up_j (by decide), up_j (by decide), up_j (by decide), up_s]
  have v4 : z1 (21 + N) 4 = L := by rw [← hz1, up_j (by decide), up_j (by decide), up_s]
  have v7 : z1 (21 + N) 7 = -2 := by rw [← hz1, up_j (by decide), up_s]
  have v8 : z1 (21 + N) 8 = 0 := by rw [← hz1, up_s]
  have jB1 : RelB z1 ζ2 F := hB.cg (fun k _ _ => zr k (by omega) (by omega)) (fun k _ _ => mk k (by omega) (by omega))
  rw [dOfPerils_n (T := T) jB1 (by omega), Option.bind_some]
  have ep : prS (ζ2 49) (ζ2 48) T = mbS ζ2 N := by rw [mbN, mk 49 (by decide) (by decide), mk 48 (by decide) (by decide)]
  rw [ep]
  obtain ⟨z2, e2, dz, fz⟩ := fill_n (σ := z1) (d := N) (s := mbS ζ2 N) (F := F) (R := R) (by omega) jB1.1.1 hFl (fun q hq => (mbS_F jB1 hq).1) (by omega) jB1.pl
  rw [e2, Option.bind_some]
  have gr : ∀ k, k ≠ 34 + N → k ≠ 27 + N → z2 k = z1 k := fun k a b => fz.row a b
  have jB2 : RelB z2 ζ2 F := jB1.cg (fun k _ _ => gr k (by omega) (by omega)) (fun _ _ _ => rfl)
  have tD : ∀ t, t < N + 1 → TrD z2 ζ2 t := fun t ht => by
    by_cases e : t = N
    · subst e
      refine ⟨?_, ?_, ?_⟩
      · rw [gr _ (by omega) (by omega), v2, v3, v4, e50, e51, e52, updF_s, updF_s, updF_s]
        exact ⟨rfl, rfl, rfl⟩
      · unfold MTr
        rw [e50, e51, e52, updF_s, updF_s, updF_s]
        omega
      · rw [e51, updF_s]
        exact dz
    · obtain ⟨⟨x1, x2, x3⟩, -⟩ := rT.2.2.2 t (by omega)
      refine ⟨?_, ?_, ?_⟩
      · rw [gr _ (by omega) (by omega), zr _ (by omega) (by omega), e50, e51, e52, updF_o e, updF_o e, updF_o e]
        exact x1
      · unfold MTr at x2 ⊢
        rw [e50, e51, e52, updF_o e, updF_o e, updF_o e]
        exact x2
      · rw [e51, updF_o e, mb t e]
        refine FrD.di (d := N) (by omega) (by omega) e fz ?_
        exact x3.cg ⟨by rw [zr _ (by omega) (by omega)], by rw [zr _ (by omega) (by omega)]⟩ (zr _ (by omega) (by omega)) (zr _ (by omega) (by omega)) (zr _ (by omega) (by omega))
  rw [findWorst_r hN jB2 (tD N (by omega)), Option.bind_some]
  generalize hz3 : up (up z2 (21 + N) 5 (wsM ζ2 N).2) (21 + N) 6 (wsM ζ2 N).1 = z3
  have fr : ∀ k j, ¬ (k = 21 + N ∧ (j = 5 ∨ j = 6)) → z3 k j = z2 k j := fun k j q => by
    rw [← hz3]
    by_cases hk2 : k = 21 + N
    · subst hk2
      rw [up_j (by omega), up_j (by omega)]
    · rw [up_k hk2, up_k hk2]
  have r3 : ∀ k, k ≠ 21 + N → z3 k = z2 k := fun k q => by
    funext j
    exact fr k j (by omega)
  have jB : RelB z3 ζ2 F := jB2.cg (fun k _ _ => r3 k (by omega)) (fun _ _ _ => rfl)
  have jT : RelT z3 ζ2 (N + 1) na := by
    refine ⟨by omega, by rw [r3 0 (by omega), gr 0 (by omega) (by omega), z04]; rfl, by rw [e27]; rfl, fun t ht => ⟨(tD t ht).cg (fun j _ _ => fr _ j (by omega)) ⟨fr _ _ (by omega), fr _ _ (by omega)⟩ (r3 _ (by omega)) (r3 _ (by omega)) (r3 _ (by omega)) (fun _ _ _ => rfl), ?_⟩⟩
    unfold TrA
    rw [fr _ 7 (by omega), fr _ 8 (by omega), gr _ (by omega) (by omega), e53, e54]
    by_cases e : t = N
    · subst e
      rw [v7, v8, updF_s, updF_s]
      exact ⟨rfl, rfl, by omega, by omega⟩
    · have := (rT.2.2.2 t (by omega)).2
      unfold TrA at this
      rw [zr _ (by omega) (by omega), updF_o e, updF_o e]
      exact this
  have zz : ∀ k, k ≠ 0 → k ≠ 21 + N → k ≠ 34 + N → k ≠ 27 + N → z3 k = z k := fun k a b c d => (r3 k b).trans ((gr k c d).trans (zr k a b))
  have jL : RelL z3 ζ2 na nb := by
    unfold RelL
    rw [zz 13 (by omega) (by omega) (by omega) (by omega), zz 14 (by omega) (by omega) (by omega) (by omega), zz 15 (by omega) (by omega) (by omega) (by omega), zz 16 (by omega) (by omega) (by omega) (by omega), mo 41 28 (by decide) (by decide), mo 41 34 (by decide) (by decide), mo 41 32 (by decide) (by decide), mk 56 (by decide) (by decide), mk 57 (by decide) (by decide)]
    exact rL
  have jO : RelO z3 ζ2 := rO.cg (by rw [zz 1 (by omega) (by omega) (by omega) (by omega)]) (zz _ (by omega) (by omega) (by omega) (by omega)) (by rw [zz 3 (by omega) (by omega) (by omega) (by omega)]) (by rw [zz 3 (by omega) (by omega) (by omega) (by omega)]) (zz _ (by omega) (by omega) (by omega) (by omega)) (mo _ _ (by decide) (by decide)) (mk _ (by decide) (by decide)) (mo _ _ (by decide) (by decide)) (mo _ _ (by decide) (by decide)) (mo _ _ (by decide) (by decide)) (mk _ (by decide) (by decide))
  have jW : TrW z3 ζ2 N := by
    unfold TrW
    rw [← hz3]
    exact ⟨by rw [up_j (by decide), up_s], up_s⟩
  obtain ⟨z4, e4, lB, lT, lL, lO, lQ, lQ2⟩ := lookAt_n (z := z3) (ζ := ζ2) (t := N) (N := N + 1) (by omega) hna hnb jB jT jL jO jW
  rw [e4, Option.bind_some]
  refine ⟨z4, rfl, lB, lT, lL, lO, fun t ht => ?_⟩
  by_cases e : t = N
  · subst e
    exact lQ
  · refine lQ2 t e ht ?_
    have := rQ t (by omega)
    unfold TrQ TrW psM at this ⊢
    rw [ws t e, fr _ 5 (by omega), fr _ 6 (by omega), gr _ (by omega) (by omega), zr _ (by omega) (by omega), e53, e52, updF_o e, updF_o e]
    exact this
theorem Eq_treaty_n : Eq_treaty Rl := by
  intro n σd σm a1 a2 a3 hn hR ha1 ha2 ha3
  obtain ⟨F, N, h⟩ := hR
  have h : Rn n σd σm F N := h
  have hs := h.ask (z' := σd) (ζ' := up σm 41 0 0) SD.rf ss0
  have hN6 := h.2.1.1
  have hNm : up σm 41 0 0 41 27 = (N : Int) := by rw [up_j (by decide)]; exact h.2.1.2.2.1
  by_cases c1 : 1 ≤ a1 ∧ a1 ≤ 15
  · by_cases c2 : 1 ≤ a2 ∧ a2 ≤ 300
    · by_cases c3 : 1 ≤ a3 ∧ a3 ≤ 9999999
      · obtain ⟨T, hTe⟩ : ∃ T : Nat, a1 = (T : Int) := ⟨a1.toNat, by omega⟩
        subst hTe
        have hd : f_X9_treaty (T : Int) a2 a3 σd = (f_X9_openTreaty (T : Int) a2 a3 σd).bind fun q5 => some ((q5.1, q5.2)) := by
          unfold f_X9_treaty
          rw [dArePerils_n ha1, Option.bind_some, c01_t c1, dIsRadius_n ha2, Option.bind_some, c01_t c2, w32_eq ha3, if_neg (by omega), if_pos (by omega)]
        by_cases c4 : N = 6
        · subst c4
          refine ⟨(-2, σd), (-2, up σm 41 0 0), ?_, ?_, rfl, hs⟩
          · rw [hd]
            unfold f_X9_openTreaty
            rw [h.2.1.2.1, w32_n (by decide), if_neg (by decide), if_neg (by decide)]
            rfl
          · unfold f_X10_treaty wr
            dsimp only
            rw [mArePerils_n ha1, Option.bind_some, c01_t c1, mIsRadius_n ha2, Option.bind_some, c01_t c2, w32_eq ha3, if_neg (by omega), if_pos (by omega), hNm, w32_n (by decide), if_pos (by decide)]
        · generalize hζ : up (up (up (up (up (up (up σm 41 0 0) 50 N (T : Int)) 51 N a2) 52 N a3) 53 N (-2)) 54 N 0) 41 27 ((N : Int) + 1) = ζ2
          have m50 : ζ2 50 = updF (σm 50) N (T : Int) := by rw [← hζ, up_k (by decide), up_k (by decide), up_k (by decide), up_k (by decide), up_k (by decide), up_updF, up_k (by decide)]
          have m51 : ζ2 51 = updF (σm 51) N a2 := by rw [← hζ, up_k (by decide), up_k (by decide), up_k (by decide), up_k (by decide), up_updF, up_k (by decide), up_k (by decide)]
          have m52 : ζ2 52 = updF (σm 52) N a3 := by rw [← hζ, up_k (by decide), up_k (by decide), up_k (by decide), up_updF, up_k (by decide), up_k (by decide), up_k (by decide)]
          have m53 : ζ2 53 = updF (σm 53) N (-2) := by rw [← hζ, up_k (by decide), up_k (by decide), up_updF, up_k (by decide), up_k (by decide), up_k (by decide), up_k (by decide)]
          have m54 : ζ2 54 = updF (σm 54) N 0 := by rw [← hζ, up_k (by decide), up_updF, up_k (by decide), up_k (by decide), up_k (by decide), up_k (by decide), up_k (by decide)]
          have m27 : ζ2 41 27 = (N : Int) + 1 := by rw [← hζ, up_s]
          have mo : ∀ k j, ¬ (50 ≤ k ∧ k ≤ 54) → ¬ (k = 41 ∧ (j = 27 ∨ j = 0)) → ζ2 k j = σm k j := fun k j q1 q2 => by
            rw [← hζ]
            by_cases e : k = 41
            · subst e
              rw [up_j (by omega), up_k (by decide), up_k (by decide), up_k (by decide), up_k (by decide), up_k (by decide), up_j (by omega)]
            · rw [up_k e, up_k (by omega), up_k (by omega), up_k (by omega), up_k (by omega), up_k (by omega), up_k e]
          obtain ⟨z', e1, lB, lT, lL, lO, lQ⟩ := open_n (ζ2 := ζ2) (T := T) (R := a2) (L := a3) (by omega) (by omega) (by omega) (by omega) c2 c3 h.1 h.2.1 h.2.2.1 h.2.2.2.1 h.2.2.2.2 m50 m51 m52 m53 m54 m27 mo
          have hMR : MRow ζ2 := (MRow.of h.1).cg fun k _ _ => by
            funext j
            exact mo k j (by omega) (by omega)
          have hMT : ∀ t, t < N + 1 → MTr ζ2 t := fun t ht => (lT.2.2.2 t ht).1.2.1.cg fun k _ _ => (lookM_k (by omega)).symm
          obtain ⟨ζ3, e3, s3⟩ := looks_n (σ := ζ2) (N := N + 1) (by omega) (by rw [m27]; rfl) hMR hMT (fun t ht => by
            rw [m53]
            by_cases e : t = N
            · subst e
              rw [updF_s]
              decide
            · rw [updF_o e]
              obtain ⟨-, -, x1, x2⟩ := (h.2.1.2.2.2 t (by omega)).2
              exact ⟨by omega, by omega⟩) (by
            rw [mo 41 32 (by decide) (by decide)]
            obtain ⟨C, -, -, e, -⟩ := h.2.2.1.2.1
            rw [e]
            split <;> omega)
          rw [looks_one (t := N) (by omega) (fun u hu hne => by
            have hq := (h.2.2.2.2 u (by omega)).2
            unfold psM at hq ⊢
            have hw : wsM ζ2 u = wsM σm u := ws_cg (by unfold mbS; rw [show ζ2 49 = σm 49 from funext fun j => mo 49 j (by omega) (by omega), show ζ2 48 = σm 48 from funext fun j => mo 48 j (by omega) (by omega), m50, updF_o hne]) (by rw [m51, updF_o hne]) (fun q _ => ⟨mo 45 q (by omega) (by omega), mo 46 q (by omega) (by omega), mo 47 q (by omega) (by omega)⟩)
            rw [hw, m53, m52, updF_o hne, updF_o hne]
            exact hq)] at s3
          have g27 : ζ3 41 27 = (N : Int) + 1 := by
            rw [s3 41 27 (by omega), lookM_41 (by decide), m27]
          refine ⟨((N : Int), z'), ((N : Int) + 1 - 1, ζ3), ?_, ?_, ?_, Rl.of (F := F) (N := N + 1) (Rn.ss (n := n + 1) ⟨lB, ⟨lT.1, lT.2.1, lT.2.2.1, fun t ht => ?_⟩, ⟨⟨lL.1.1, lL.1.2.1.mono (Nat.le_succ n), lL.1.2.2⟩, lL.2.1.mono (by omega), lL.2.2⟩, lO, lQ⟩ s3.ss)⟩
          · rw [hd, e1]
            rfl
          · unfold f_X10_treaty wr
            dsimp only
            rw [mArePerils_n ha1, Option.bind_some, c01_t c1, mIsRadius_n ha2, Option.bind_some, c01_t c2, w32_eq ha3, if_neg (by omega), if_pos (by omega), hNm, w32_n (by omega), if_neg (by omega)]
            unfold f_X10_begins wr
            dsimp only
            rw [ck_t (by omega), ck_t (by omega), ck_t (by omega), ck_t (by omega), ck_t (by omega), Option.bind_some, ntn]
            have q27 : up (up (up (up (up (up σm 41 0 0) 50 N (T : Int)) 51 N a2) 52 N a3) 53 N (-2)) 54 N 0 41 27 = (N : Int) := by
              rw [up_k (by decide), up_k (by decide), up_k (by decide), up_k (by decide), up_k (by decide)]
              exact hNm
            rw [q27, hζ, e3, Option.bind_some, g27]
          · show w32 _ = w32 _
            congr 1
            omega
          · obtain ⟨x, y1, y2, y3, y4⟩ := lT.2.2.2 t ht
            exact ⟨x, y1, y2, y3, by omega⟩
      · refine ⟨(-1, σd), (-1, up σm 41 0 0), ?_, ?_, rfl, hs⟩
        · unfold f_X9_treaty
          rw [dArePerils_n ha1, Option.bind_some, c01_t c1, dIsRadius_n ha2, Option.bind_some, c01_t c2, w32_eq ha3]
          by_cases q : a3 < 1
          · rw [if_pos q]
          · rw [if_neg q, if_neg (by omega)]
        · unfold f_X10_treaty wr
          dsimp only
          rw [mArePerils_n ha1, Option.bind_some, c01_t c1, mIsRadius_n ha2, Option.bind_some, c01_t c2, w32_eq ha3]
          by_cases q : a3 < 1
          · rw [if_pos q]
          · rw [if_neg q, if_neg (by omega)]
    · refine ⟨(-1, σd), (-1, up σm 41 0 0), ?_, ?_, rfl, hs⟩
      · unfold f_X9_treaty
        rw [dArePerils_n ha1, Option.bind_some, c01_t c1, dIsRadius_n ha2, Option.bind_some, c01_f c2]
      · unfold f_X10_treaty wr
        dsimp only
        rw [mArePerils_n ha1, Option.bind_some, c01_t c1, mIsRadius_n ha2, Option.bind_some, c01_f c2]
  · refine ⟨(-1, σd), (-1, up σm 41 0 0), ?_, ?_, rfl, hs⟩
    · unfold f_X9_treaty
      rw [dArePerils_n ha1, Option.bind_some, c01_f c1]
    · unfold f_X10_treaty wr
      dsimp only
      rw [mArePerils_n ha1, Option.bind_some, c01_f c1]
