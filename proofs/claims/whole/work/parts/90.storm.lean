/-! ===== pure level: storm, hit, pays ===== -/
def SOk (b : Nat → Int) : Prop := (0 ≤ b 0 ∧ b 0 ≤ 300) ∧ (0 ≤ b 1 ∧ b 1 < 300) ∧ (0 ≤ b 2 ∧ b 2 < 300) ∧ (0 ≤ b 3 ∧ b 3 < 300) ∧ (0 ≤ b 4 ∧ b 4 < 300) ∧ (1 ≤ b 5 ∧ b 5 ≤ 100)
/-- what the storm hits at its k-th place -/
def hiS (z ζ : Sg) (F k : Nat) : Nat := abS (z 7) (z 8) F (onw (ζ 55 1) (ζ 55 3) (k : Int) (ζ 55 5)) (onw (ζ 55 2) (ζ 55 4) (k : Int) (ζ 55 5)) (ζ 55 0)
theorem dHit_n {z ζ : Sg} {F k : Nat} (h : RelB z ζ F) (e : ∀ j, j < 6 → z 17 (1 + j) = ζ 55 j) (ok : SOk (ζ 55)) (hk : (k : Int) ≤ ζ 55 5) : f_X7_hitAt (k : Int) z = some ((hiS z ζ F k : Nat) : Int) := by
  obtain ⟨o0, o1, o2, o3, o4, o5⟩ := ok
  have e0 := e 0 (by decide)
  have e1 := e 1 (by decide)
  have e2 := e 2 (by decide)
  have e3 := e 3 (by decide)
  have e4 := e 4 (by decide)
  have e5 := e 5 (by decide)
  unfold f_X7_hitAt
  rw [show z 17 2 = ζ 55 1 from e1, show z 17 4 = ζ 55 3 from e3, show z 17 6 = ζ 55 5 from e5, show z 17 3 = ζ 55 2 from e2, show z 17 5 = ζ 55 4 from e4, show z 17 1 = ζ 55 0 from e0, dOnWay_n o1 o3 o5 ⟨by omega, hk⟩, Option.bind_some, dOnWay_n o2 o4 o5 ⟨by omega, hk⟩, Option.bind_some, dWithin_n h (onw_in o1 o3 o5.1 ⟨by omega, hk⟩) (onw_in o2 o4 o5.1 ⟨by omega, hk⟩) ⟨o0.1, by omega⟩, Option.bind_some]
  rfl
theorem mHit_n {z ζ ζ1 : Sg} {F k : Nat} (h : RelB z ζ1 F) (ok : SOk (ζ 55)) (hk : (k : Int) ≤ ζ 55 5) (s : SS ζ ζ1) : ∃ ζ', f_X10_hitAt (k : Int) ζ1 = some (((hiS z ζ F k : Nat) : Int), ζ') ∧ SS ζ1 ζ' := by
  obtain ⟨o0, o1, o2, o3, o4, o5⟩ := ok
  obtain ⟨ζ', e, s2⟩ := about_n (x := onw (ζ 55 1) (ζ 55 3) (k : Int) (ζ 55 5)) (y := onw (ζ 55 2) (ζ 55 4) (k : Int) (ζ 55 5)) (R := ζ 55 0) h (onw_in o1 o3 o5.1 ⟨by omega, hk⟩) (onw_in o2 o4 o5.1 ⟨by omega, hk⟩) ⟨o0.1, by omega⟩
  refine ⟨ζ', ?_, s2⟩
  unfold f_X10_hitAt
  rw [s.r49 (k := 55) (by omega), mOnWay_n o1 o3 o5 ⟨by omega, hk⟩, Option.bind_some, mOnWay_n o2 o4 o5 ⟨by omega, hk⟩, Option.bind_some, e, Option.bind_some]
  rfl
theorem hiS_24 (z ζ : Sg) (F k : Nat) : hiS z ζ F k < 16777216 := mks_24 _
theorem hiS_F {z ζ : Sg} {F k q : Nat} (h : (hiS z ζ F k).testBit q = true) : F.testBit q = true := abS_F h
def orS (w : Nat → Nat) : Nat → Nat
  | 0 => 0
  | n + 1 => orS w n ||| w n
theorem orS_24 {w : Nat → Nat} (h : ∀ k, w k < 16777216) : ∀ n, orS w n < 16777216
  | 0 => (by decide : (0 : Nat) < 16777216)
  | n + 1 => or_lt24 (orS_24 h n) (h n)
theorem orS_F {w : Nat → Nat} {F q : Nat} (h : ∀ k, (w k).testBit q = true → F.testBit q = true) : ∀ n, (orS w n).testBit q = true → F.testBit q = true
  | 0, hq => by
    rw [orS, Nat.zero_testBit] at hq
    cases hq
  | n + 1, hq => by
    rw [orS, Nat.testBit_or, Bool.or_eq_true] at hq
    exact hq.elim (orS_F h n) (h n)
theorem dHits_n {z ζ : Sg} {F : Nat} (h : RelB z ζ F) (e : ∀ j, j < 6 → z 17 (1 + j) = ζ 55 j) (ok : SOk (ζ 55)) : f_X7_hits z = some ((orS (hiS z ζ F) ((ζ 55 5).toNat + 1) : Nat) : Int) := by
  have o5 := ok.2.2.2.2.2
  have e5 : z 17 6 = ζ 55 5 := e 5 (by decide)
  unfold f_X7_hits
  refine loop_at (St := Int) (F := fun n i v => f_X7_hits_b4 z n v i) ((ζ 55 5).toNat + 1) (fun i v => v = ((orS (hiS z ζ F) i : Nat) : Int)) (by omega) ?_ ?_ 0 (by omega) 0 rfl
  · intro n i v hi hv
    right
    refine ⟨_, rfl, ?_⟩
    subst hv
    show f_X7_hits_b4 z (n + 1) _ (i : Int) = f_X7_hits_b4 z n ((orS (hiS z ζ F) (i + 1) : Nat) : Int) ((i : Int) + 1)
    rw [f_X7_hits_b4, w32_n (by omega), e5, w32_eq (z := ζ 55 5) ⟨by omega, by omega⟩, if_pos (by omega), dHit_n h e ok (by omega), Option.bind_some, or_n (by have := orS_24 (hiS_24 z ζ F) i; omega) (by have := hiS_24 z ζ F i; omega)]
    rfl
  · intro n v hv
    subst hv
    show f_X7_hits_b4 z (n + 1) _ (((ζ 55 5).toNat + 1 : Nat) : Int) = _
    rw [f_X7_hits_b4, w32_n (by omega), e5, w32_eq (z := ζ 55 5) ⟨by omega, by omega⟩, if_neg (by omega)]
theorem mHits_n {z ζ : Sg} {F : Nat} (h : RelB z ζ F) (ok : SOk (ζ 55)) : ∃ ζ', f_X10_allHit ζ = some (((orS (hiS z ζ F) ((ζ 55 5).toNat + 1) : Nat) : Int), ζ') ∧ SS ζ ζ' := by
  have o5 := ok.2.2.2.2.2
  unfold f_X10_allHit
  obtain ⟨u, m, ⟨hu, su⟩, hx⟩ := loop_ex (F := fun n i (u : Int × Sg) => f_X10_allHit_b4 n u.1 i u.2) ((ζ 55 5).toNat + 1) (fun i u => u.1 = ((orS (hiS z ζ F) i : Nat) : Int) ∧ SS ζ u.2) (fun n i u hi hI => by
    obtain ⟨hu, su⟩ := hI
    show ∃ s' : Int × Sg, _ ∧ f_X10_allHit_b4 (n + 1) u.1 (i : Int) u.2 = f_X10_allHit_b4 n s'.1 ((i : Int) + 1) s'.2
    obtain ⟨ζ', e, s2⟩ := mHit_n (k := i) (h.ss su) ok (by omega) su
    rw [f_X10_allHit_b4, w32_n (by omega), su.r49 (k := 55) (by omega), w32_eq (z := ζ 55 5) ⟨by omega, by omega⟩, if_pos (by omega), e, Option.bind_some, hu]
    refine ⟨(((orS (hiS z ζ F) (i + 1) : Nat) : Int), ζ'), ⟨rfl, su.tr s2⟩, ?_⟩
    dsimp only
    rw [or_n (by have := orS_24 (hiS_24 z ζ F) i; omega) (by have := hiS_24 z ζ F i; omega)]
    rfl) ((ζ 55 5).toNat + 1) 0 (0, ζ) FUEL (by omega) ⟨rfl, SS.rf⟩ (fuel_lt (by omega))
  have hx : f_X10_allHit_b4 FUEL 0 0 ζ = f_X10_allHit_b4 (m + 1) u.1 (((ζ 55 5).toNat + 1 : Nat) : Int) u.2 := hx
  refine ⟨u.2, ?_, su⟩
  rw [hx, f_X10_allHit_b4, w32_n (by omega), su.r49 (k := 55) (by omega), w32_eq (z := ζ 55 5) ⟨by omega, by omega⟩, if_neg (by omega), hu]
theorem Eq_storm_n : Eq_storm Rl := by
  intro n σd σm a1 a2 a3 a4 a5 a6 hn hR ha1 ha2 ha3 ha4 ha5 ha6
  obtain ⟨F, N, h⟩ := hR
  have h : Rn n σd σm F N := h
  have h1 := h.m0
  have hs := h.ask (z' := σd) (ζ' := up σm 41 0 0) SD.rf ss0
  unfold f_X9_storm f_X10_storm wr
  dsimp only
  generalize hζ0 : up σm 41 0 0 = ζ at *
  rw [dIsReach_n ha1, Option.bind_some, w32_eq ha1]
  by_cases c1 : 0 ≤ a1 ∧ a1 ≤ 300
  · rw [c01_t c1, if_neg (show ¬ a1 < 0 by omega), if_pos (show a1 ≤ 300 by omega), dIsPlace_n ha2 ha3, Option.bind_some, mIsPlace_n ha2 ha3, Option.bind_some]
    by_cases c2 : (0 ≤ a2 ∧ a2 ≤ 299) ∧ (0 ≤ a3 ∧ a3 ≤ 299)
    · rw [c01_t c2, c01_t c2, dIsPlace_n ha4 ha5, Option.bind_some, mIsPlace_n ha4 ha5, Option.bind_some]
      by_cases c3 : (0 ≤ a4 ∧ a4 ≤ 299) ∧ (0 ≤ a5 ∧ a5 ≤ 299)
      · rw [c01_t c3, c01_t c3, w32_eq ha6]
        by_cases c4 : a6 < 1
        · rw [if_pos c4, if_pos c4]
          exact ⟨_, _, rfl, rfl, rfl, hs⟩
        · rw [if_neg c4, if_neg c4]
          by_cases c5 : a6 ≤ 100
          · rw [if_pos c5, if_pos c5]
            generalize hz : up (up (up (up (up (up (up σd 17 0 1) 17 1 a1) 17 2 a2) 17 3 a3) 17 4 a4) 17 5 a5) 17 6 a6 = z1
            generalize hζ : up (up (up (up (up (up (up ζ 55 0 a1) 55 1 a2) 55 2 a3) 55 3 a4) 55 4 a5) 55 5 a6) 41 30 1 = ζ1
            have zo : ∀ k, k ≠ 17 → z1 k = σd k := fun k q => by rw [← hz, up_k q, up_k q, up_k q, up_k q, up_k q, up_k q, up_k q]
            have mo : ∀ k, k ≠ 55 → k ≠ 41 → ζ1 k = ζ k := fun k q q2 => by rw [← hζ, up_k q2, up_k q, up_k q, up_k q, up_k q, up_k q, up_k q]
            have m41 : ∀ j, j ≠ 30 → ζ1 41 j = ζ 41 j := fun j q => by rw [← hζ, up_j q, up_k (by decide), up_k (by decide), up_k (by decide), up_k (by decide), up_k (by decide), up_k (by decide)]
            have v30 : ζ1 41 30 = 1 := by rw [← hζ, up_s]
            have v0 : ζ1 55 0 = a1 := by rw [← hζ, up_k (by decide), up_j (by decide), up_j (by decide), up_j (by decide), up_j (by decide), up_j (by decide), up_s]
            have v1 : ζ1 55 1 = a2 := by rw [← hζ, up_k (by decide), up_j (by decide), up_j (by decide), up_j (by decide), up_j (by decide), up_s]
            have v2 : ζ1 55 2 = a3 := by rw [← hζ, up_k (by decide), up_j (by decide), up_j (by decide), up_j (by decide), up_s]
            have v3 : ζ1 55 3 = a4 := by rw [← hζ, up_k (by decide), up_j (by decide), up_j (by decide), up_s]
            have v4 : ζ1 55 4 = a5 := by rw [← hζ, up_k (by decide), up_j (by decide), up_s]
            have v5 : ζ1 55 5 = a6 := by rw [← hζ, up_k (by decide), up_s]
            have u0 : z1 17 0 = 1 := by rw [← hz, up_j (by decide), up_j (by decide), up_j (by decide), up_j (by decide), up_j (by decide), up_j (by decide), up_s]
            have u1 : z1 17 1 = a1 := by rw [← hz, up_j (by decide), up_j (by decide), up_j (by decide), up_j (by decide), up_j (by decide), up_s]
            have u2 : z1 17 2 = a2 := by rw [← hz, up_j (by decide), up_j (by decide), up_j (by decide), up_j (by decide), up_s]
            have u3 : z1 17 3 = a3 := by rw [← hz, up_j (by decide), up_j (by decide), up_j (by decide), up_s]
            have u4 : z1 17 4 = a4 := by rw [← hz, up_j (by decide), up_j (by decide), up_s]
            have u5 : z1 17 5 = a5 := by rw [← hz, up_j (by decide), up_s]
            have u6 : z1 17 6 = a6 := by rw [← hz, up_s]
            have ee : ∀ j, j < 6 → z1 17 (1 + j) = ζ1 55 j := fun j hj => by
              rcases (show j = 0 ∨ j = 1 ∨ j = 2 ∨ j = 3 ∨ j = 4 ∨ j = 5 by omega) with rfl | rfl | rfl | rfl | rfl | rfl
              · exact u1.trans v0.symm
              · exact u2.trans v1.symm
              · exact u3.trans v2.symm
              · exact u4.trans v3.symm
              · exact u5.trans v4.symm
              · exact u6.trans v5.symm
            have ok : SOk (ζ1 55) := by
              unfold SOk
              rw [v0, v1, v2, v3, v4, v5]
              omega
            have hB : RelB z1 ζ1 F := h1.1.cg (fun k _ _ => zo k (by omega)) (fun k _ _ => mo k (by omega) (by omega))
            have ws : ∀ t, wsM ζ1 t = wsM ζ t := fun t => wsM_cg fun k _ _ => mo k (by omega) (by omega)
            have hRn : Rn (n + 1) z1 ζ1 F N := by
              obtain ⟨gB, gT, gL, gO, gQ⟩ := h1.mono (Nat.le_succ n)
              refine ⟨hB, ⟨gT.1, by rw [zo 0 (by decide)]; exact gT.2.1, by rw [m41 27 (by decide)]; exact gT.2.2.1, fun t ht => ?_⟩, ?_, ⟨?_, ?_, ?_⟩, fun t ht => ?_⟩
              · have hN6 := gT.1
                obtain ⟨x, y⟩ := gT.2.2.2 t ht
                refine ⟨x.cg (fun j _ _ => by rw [zo _ (by omega)]) ⟨by rw [zo _ (by omega)], by rw [zo _ (by omega)]⟩ (zo _ (by omega)) (zo _ (by omega)) (zo _ (by omega)) (fun k _ _ => mo k (by omega) (by omega)), ?_⟩
                unfold TrA at y ⊢
                rw [zo _ (by omega), mo 53 (by decide) (by decide), mo 54 (by decide) (by decide)]
                exact y
              · unfold RelL
                rw [zo 13 (by decide), zo 14 (by decide), zo 15 (by decide), zo 16 (by decide), m41 28 (by decide), m41 34 (by decide), m41 32 (by decide), mo 56 (by decide) (by decide), mo 57 (by decide) (by decide)]
                exact gL
              · rw [zo 1 (by decide), zo 2 (by decide), m41 2 (by decide), mo 42 (by decide) (by decide)]
                exact gO.1
              · rw [zo 3 (by decide), m41 15 (by decide), m41 16 (by decide)]
                exact gO.2.1
              · unfold StP
                rw [u0, v30]
                exact ⟨rfl, Or.inr ⟨rfl, ee, ok⟩⟩
              · have hN6 := gT.1
                have := gQ t ht
                unfold TrQ TrW psM at this ⊢
                rw [ws, zo _ (by omega), mo 53 (by decide) (by decide), mo 52 (by decide) (by decide)]
                exact this
            obtain ⟨ζ', e2, s2⟩ := mHits_n hB ok
            rw [dHits_n hB ee ok, Option.bind_some, bitc_n (orS_24 (hiS_24 z1 ζ1 F) _), Option.bind_some, e2, Option.bind_some]
            dsimp only
            rw [bits_n (orS_24 (hiS_24 z1 ζ1 F) _), Option.bind_some]
            exact ⟨_, _, rfl, rfl, rfl, Rl.of (hRn.ss s2)⟩
          · rw [if_neg c5, if_neg c5]
            exact ⟨_, _, rfl, rfl, rfl, hs⟩
      · rw [c01_f c3, c01_f c3]
        exact ⟨_, _, rfl, rfl, rfl, hs⟩
    · rw [c01_f c2, c01_f c2]
      exact ⟨_, _, rfl, rfl, rfl, hs⟩
  · rw [c01_f c1]
    by_cases q : a1 < 0
    · rw [if_pos q]
      exact ⟨_, _, rfl, rfl, rfl, hs⟩
    · rw [if_neg q, if_neg (show ¬ a1 ≤ 300 by omega)]
      exact ⟨_, _, rfl, rfl, rfl, hs⟩
theorem Eq_pays_n : Eq_pays Rl := by
  intro n σd σm a1 hn hR ha1
  obtain ⟨F, N, h⟩ := hR
  have h : Rn n σd σm F N := h
  have h1 := h.m0
  have hs := h.ask (z' := σd) (ζ' := up σm 41 0 0) SD.rf ss0
  obtain ⟨hN, hNm, hN6⟩ := h1.nm
  unfold f_X9_pays f_X10_pays wr
  dsimp only
  generalize up σm 41 0 0 = ζ at *
  obtain ⟨st0, st⟩ := h1.2.2.2.1.2.2
  by_cases c1 : 0 ≤ a1 ∧ a1 < N
  · obtain ⟨t, hte⟩ : ∃ t : Nat, a1 = (t : Int) := ⟨a1.toNat, by omega⟩
    subst hte
    have ht : t < N := by omega
    obtain ⟨ht6, hD, hA, hQ⟩ := h1.tr ht
    have hck : 0 ≤ ((t : Nat) : Int) ∧ ((t : Nat) : Int) < 6 := by omega
    rw [treatyAt_t hN ht hN6, Option.bind_some, oTs_ ht6, isTr_t hNm hN6 ha1, Option.bind_some, c01_t c1, st0]
    rcases st with st | ⟨st, ee, ok⟩
    · rw [st, w32_0, if_pos rfl, if_pos rfl]
      exact ⟨_, _, rfl, rfl, rfl, hs⟩
    · obtain ⟨ζ', e2, s2⟩ := mHits_n h1.1 ok
      have hs' := h1.ask (z' := σd) (ζ' := ζ') SD.rf s2
      have hB' := h1.1.ss s2
      have hM' : MTr ζ' t := hD.2.1.cg fun k _ _ => s2.r49 (by omega)
      have ol := orS_24 (hiS_24 σd ζ F) ((ζ 55 5).toNat + 1)
      have eD := dHits_n h1.1 ee ok
      generalize orS (hiS σd ζ F) ((ζ 55 5).toNat + 1) = O at *
      have hsub : ∀ q, (mbS ζ t &&& O).testBit q = true → F.testBit q = true := fun q hq => by
        rw [Nat.testBit_and, Bool.and_eq_true] at hq
        exact (mbS_F h1.1 hq.1).1
      have hsl := sub_24 h1.1.1.2.1 hsub
      have hlim := hD.2.1.2.2
      have e52 : ζ' 52 ((t : Nat) : Int).toNat = ζ 52 t := by
        rw [show ((t : Nat) : Int).toNat = t from Int.toNat_natCast t, s2.r49 (k := 52) (by omega)]
      rw [st, w32_1, if_neg (show ¬ (1 : Int) = 0 by decide), if_neg (show ¬ (1 : Int) = 0 by decide), eD, Option.bind_some, e2, Option.bind_some, hD.2.2.2.1, and_n (by have := mbS_24 ζ t; omega) (by omega), sums_n h1.1.2 hsl, Option.bind_some, hD.1.2.2]
      dsimp only
      rw [ofTr_n ht6 hB' hM', Option.bind_some, s2.mb, and_n (by omega) (by have := mbS_24 ζ t; omega), Nat.and_comm O (mbS ζ t), sumOf_n (by omega), Option.bind_some, hB'.sm hsub]
      rw [ck_t hck]
      have hsin := h1.1.sin (s := mbS ζ t &&& O)
      generalize sumb (σd 9) (mbS ζ t &&& O) 24 = v at *
      have hv := w32_eq (z := v - ζ 52 t) ⟨by omega, by omega⟩
      by_cases q : w32 (v - ζ' 52 ((t : Nat) : Int).toNat) < 0
      · rw [if_pos q]
        rw [e52, hv] at q
        refine ⟨_, _, rfl, rfl, ?_, hs'⟩
        show w32 (mmaxI 0 (v - ζ 52 t)) = w32 0
        unfold mmaxI
        rw [w32_0, hv, if_neg (by omega), w32_0]
      · rw [if_neg q]
        rw [e52, hv] at q
        refine ⟨_, _, rfl, rfl, ?_, hs'⟩
        show w32 (mmaxI 0 (v - ζ 52 t)) = w32 (v - ζ' 52 ((t : Nat) : Int).toNat)
        rw [e52]
        unfold mmaxI
        rw [w32_0, hv]
        by_cases q2 : 0 < v - ζ 52 t
        · rw [if_pos q2, hv]
        · rw [if_neg q2, w32_0]
          omega
  · rw [treatyAt_f hN ha1 hN6 c1, Option.bind_some, isTr_t hNm hN6 ha1, Option.bind_some, c01_f c1]
    exact ⟨_, _, rfl, rfl, rfl, hs⟩
/-- at which place the storm hits most: the first, and how much -/
def fiS (w : Nat → Int) : Nat → Int × Int
  | 0 => (0, 0)
  | n + 1 => if (fiS w n).2 < w n then ((n : Int), w n) else fiS w n
theorem fiS_in {w : Nat → Int} {B : Int} (hB : 0 ≤ B) (h : ∀ k, 0 ≤ w k ∧ w k ≤ B) : ∀ n, (0 ≤ (fiS w n).2 ∧ (fiS w n).2 ≤ B) ∧ ∃ k : Nat, (k < n ∨ k = 0) ∧ (fiS w n).1 = (k : Int) ∧ (0 < n → (fiS w n).2 = w k)
  | 0 => ⟨⟨(by decide : (0 : Int) ≤ 0), hB⟩, 0, Or.inr rfl, rfl, fun h => absurd h (by decide)⟩
  | n + 1 => by
    obtain ⟨h1, k, h2, h3, h4⟩ := fiS_in hB h n
    rw [fiS]
    by_cases c : (fiS w n).2 < w n
    · rw [if_pos c]
      exact ⟨h n, n, Or.inl (by omega), rfl, fun _ => rfl⟩
    · rw [if_neg c]
      refine ⟨h1, k, by omega, h3, fun _ => ?_⟩
      by_cases hn : 0 < n
      · exact h4 hn
      · have e : n = 0 := by omega
        subst e
        have e2 : (fiS w 0).2 = 0 := rfl
        have := h 0
        have hk : k = 0 := by omega
        subst hk
        omega
theorem fierce_n {z ζ : Sg} {F : Nat} (h : RelB z ζ F) (e : ∀ j, j < 6 → z 17 (1 + j) = ζ 55 j) (ok : SOk (ζ 55)) : f_X7_fiercest z = some (fiS (fun k => sumb (z 9) (hiS z ζ F k) 24) ((ζ 55 5).toNat + 1)).1 := by
  have o5 := ok.2.2.2.2.2
  have e5 : z 17 6 = ζ 55 5 := e 5 (by decide)
  have hw : ∀ k, 0 ≤ (fun k => sumb (z 9) (hiS z ζ F k) 24) k ∧ (fun k => sumb (z 9) (hiS z ζ F k) 24) k ≤ 24 * 99999 := fun k => h.sin
  unfold f_X7_fiercest
  obtain ⟨u, m, hu, hx⟩ := loop_ex (F := fun n i (u : Int × Int) => f_X7_fiercest_b7 z n u.1 u.2 i) ((ζ 55 5).toNat + 1) (fun i u => u = fiS (fun k => sumb (z 9) (hiS z ζ F k) 24) i) (fun n i u hi hI => by
    show ∃ s' : Int × Int, _ ∧ f_X7_fiercest_b7 z (n + 1) u.1 u.2 (i : Int) = f_X7_fiercest_b7 z n s'.1 s'.2 ((i : Int) + 1)
    have b := (fiS_in (by decide) hw i).1
    have bi := hw i
    dsimp only at bi
    subst hI
    refine ⟨_, rfl, ?_⟩
    rw [f_X7_fiercest_b7, w32_n (by omega), e5, w32_eq (z := ζ 55 5) ⟨by omega, by omega⟩, if_pos (by omega), dHit_n h e ok (by omega), Option.bind_some, sums_n h.2 (hiS_24 _ _ _ _), Option.bind_some, w32_eq (z := sumb (z 9) (hiS z ζ F i) 24) ⟨by omega, by omega⟩, w32_eq (z := (fiS (fun k => sumb (z 9) (hiS z ζ F k) 24) i).2) ⟨by omega, by omega⟩, fiS]
    by_cases c : (fiS (fun k => sumb (z 9) (hiS z ζ F k) 24) i).2 < sumb (z 9) (hiS z ζ F i) 24
    · rw [if_neg (by omega), if_pos c]
      rfl
    · rw [if_pos (by omega), if_neg c]
      rfl) ((ζ 55 5).toNat + 1) 0 (0, 0) FUEL (by omega) rfl (fuel_lt (by omega))
  have hx : f_X7_fiercest_b7 z FUEL 0 0 0 = f_X7_fiercest_b7 z (m + 1) u.1 u.2 (((ζ 55 5).toNat + 1 : Nat) : Int) := hx
  rw [hx, f_X7_fiercest_b7, w32_n (by omega), e5, w32_eq (z := ζ 55 5) ⟨by omega, by omega⟩, if_neg (by omega), hu]
theorem mHitLoop_n {z ζ : Sg} {F : Nat} {a : Int} (h : RelB z ζ F) (ok : SOk (ζ 55)) : ∃ ζ', f_X10_hit_b56 FUEL a 0 (-1) 0 ζ = f_X10_hit_b100 a (fiS (fun k => sumb (z 9) (hiS z ζ F k) 24) ((ζ 55 5).toNat + 1)).1 (fiS (fun k => sumb (z 9) (hiS z ζ F k) 24) ((ζ 55 5).toNat + 1)).2 ζ' ∧ SS ζ ζ' := by
  have o5 := ok.2.2.2.2.2
  have hw : ∀ k, 0 ≤ (fun k => sumb (z 9) (hiS z ζ F k) 24) k ∧ (fun k => sumb (z 9) (hiS z ζ F k) 24) k ≤ 24 * 99999 := fun k => h.sin
  obtain ⟨u, m, ⟨hu, su⟩, hx⟩ := loop_ex (F := fun n i (u : Int × Int × Sg) => f_X10_hit_b56 n a u.1 u.2.1 i u.2.2) ((ζ 55 5).toNat + 1) (fun i u => ((i = 0 ∧ u.1 = 0 ∧ u.2.1 = -1) ∨ (0 < i ∧ u.1 = (fiS (fun k => sumb (z 9) (hiS z ζ F k) 24) i).1 ∧ u.2.1 = (fiS (fun k => sumb (z 9) (hiS z ζ F k) 24) i).2)) ∧ SS ζ u.2.2) (fun n i u hi hI => by
    obtain ⟨hu, su⟩ := hI
    show ∃ s' : Int × Int × Sg, _ ∧ f_X10_hit_b56 (n + 1) a u.1 u.2.1 (i : Int) u.2.2 = f_X10_hit_b56 n a s'.1 s'.2.1 ((i : Int) + 1) s'.2.2
    have b := (fiS_in (by decide) hw i).1
    have bi := hw i
    dsimp only at bi
    have hB := h.ss su
    obtain ⟨ζ', e, s2⟩ := mHit_n (k := i) hB ok (by omega) su
    have hB' := hB.ss s2
    rw [f_X10_hit_b56, w32_n (by omega), su.r49 (k := 55) (by omega), w32_eq (z := ζ 55 5) ⟨by omega, by omega⟩, if_pos (by omega), e, Option.bind_some]
    dsimp only
    rw [sumOf_n (by have := hiS_24 z ζ F i; omega), Option.bind_some, hB'.sm (fun q hq => hiS_F hq), w32_eq (z := sumb (z 9) (hiS z ζ F i) 24) ⟨by omega, by omega⟩]
    rcases hu with ⟨h0, h1, h2⟩ | ⟨h0, h1, h2⟩
    · subst h0
      rw [h1, h2, w32_m1, if_neg (by omega)]
      refine ⟨((0 : Nat), sumb (z 9) (hiS z ζ F 0) 24, ζ'), ⟨Or.inr ⟨by omega, ?_, ?_⟩, su.tr s2⟩, rfl⟩
      · show ((0 : Nat) : Int) = (fiS _ 1).1
        rw [fiS]
        split <;> rfl
      · show _ = (fiS (fun k => sumb (z 9) (hiS z ζ F k) 24) 1).2
        rw [fiS]
        by_cases c : (fiS (fun k => sumb (z 9) (hiS z ζ F k) 24) 0).2 < sumb (z 9) (hiS z ζ F 0) 24
        · rw [if_pos c]
        · rw [if_neg c]
          have e0 : (fiS (fun k => sumb (z 9) (hiS z ζ F k) 24) 0).2 = 0 := rfl
          rw [e0] at c ⊢
          show sumb (z 9) (hiS z ζ F 0) 24 = 0
          omega
    · rw [h1, h2, w32_eq (z := (fiS (fun k => sumb (z 9) (hiS z ζ F k) 24) i).2) ⟨by omega, by omega⟩]
      refine ⟨((fiS (fun k => sumb (z 9) (hiS z ζ F k) 24) (i + 1)).1, (fiS (fun k => sumb (z 9) (hiS z ζ F k) 24) (i + 1)).2, ζ'), ⟨Or.inr ⟨by omega, rfl, rfl⟩, su.tr s2⟩, ?_⟩
      dsimp only
      rw [fiS]
      by_cases c : (fiS (fun k => sumb (z 9) (hiS z ζ F k) 24) i).2 < sumb (z 9) (hiS z ζ F i) 24
      · rw [if_neg (by omega), if_pos c]
        rfl
      · rw [if_pos (by omega), if_neg c]
        rfl) ((ζ 55 5).toNat + 1) 0 (0, -1, ζ) FUEL (by omega) ⟨Or.inl ⟨rfl, rfl, rfl⟩, SS.rf⟩ (fuel_lt (by omega))
  have hx : f_X10_hit_b56 FUEL a 0 (-1) 0 ζ = f_X10_hit_b56 (m + 1) a u.1 u.2.1 (((ζ 55 5).toNat + 1 : Nat) : Int) u.2.2 := hx
  refine ⟨u.2.2, ?_, su⟩
  rcases hu with ⟨h0, -⟩ | ⟨-, h1, h2⟩
  · omega
  · rw [hx, f_X10_hit_b56, w32_n (by omega), su.r49 (k := 55) (by omega), w32_eq (z := ζ 55 5) ⟨by omega, by omega⟩, if_neg (by omega), h1, h2]
theorem Eq_hit_n : Eq_hit Rl := by
  intro n σd σm a1 hn hR ha1
  obtain ⟨F, N, h⟩ := hR
  have h : Rn n σd σm F N := h
  have h1 := h.m0
  have hs := h.ask (z' := σd) (ζ' := up σm 41 0 0) SD.rf ss0
  unfold f_X9_hit f_X10_hit wr
  dsimp only
  generalize up σm 41 0 0 = ζ at *
  obtain ⟨st0, st⟩ := h1.2.2.2.1.2.2
  rw [w32_eq ha1, st0]
  by_cases c1 : a1 < 0
  · rw [if_pos c1, if_pos c1]
    exact ⟨_, _, rfl, rfl, rfl, hs⟩
  · rw [if_neg c1, if_neg c1]
    by_cases c2 : a1 ≤ 3
    · rw [if_pos c2, if_pos c2]
      rcases st with st | ⟨st, ee, ok⟩
      · rw [st, w32_0, if_pos rfl, if_pos rfl]
        exact ⟨_, _, rfl, rfl, rfl, hs⟩
      · have ol := orS_24 (hiS_24 σd ζ F) ((ζ 55 5).toNat + 1)
        rw [st, w32_1, if_neg (show ¬ (1 : Int) = 0 by decide), if_neg (show ¬ (1 : Int) = 0 by decide)]
        by_cases c3 : a1 = 0
        · obtain ⟨ζ', e2, s2⟩ := mHits_n h1.1 ok
          have hs' := h1.ask (z' := σd) (ζ' := ζ') SD.rf s2
          rw [if_pos c3, if_pos c3, dHits_n h1.1 ee ok, Option.bind_some, e2, Option.bind_some]
          exact ⟨_, _, rfl, rfl, rfl, hs'⟩
        · rw [if_neg c3, if_neg c3]
          by_cases c4 : a1 = 1
          · obtain ⟨ζ', e2, s2⟩ := mHits_n h1.1 ok
            have hs' := h1.ask (z' := σd) (ζ' := ζ') SD.rf s2
            have hB' := h1.1.ss s2
            rw [if_pos c4, if_pos c4, dHits_n h1.1 ee ok, Option.bind_some, e2, Option.bind_some, sums_n h1.1.2 ol, Option.bind_some]
            dsimp only
            rw [sumOf_n (by omega), Option.bind_some, hB'.sm (fun q hq => orS_F (fun k hk => hiS_F hk) _ hq)]
            exact ⟨_, _, rfl, rfl, rfl, hs'⟩
          · obtain ⟨ζ', e2, s2⟩ := mHitLoop_n (a := a1) h1.1 ok
            have hs' := h1.ask (z' := σd) (ζ' := ζ') SD.rf s2
            have hw : ∀ k, 0 ≤ (fun k => sumb (σd 9) (hiS σd ζ F k) 24) k ∧ (fun k => sumb (σd 9) (hiS σd ζ F k) 24) k ≤ 24 * 99999 := fun k => h1.1.sin
            obtain ⟨-, k, k1, k2, k3⟩ := fiS_in (by decide) hw ((ζ 55 5).toNat + 1)
            have o5 := ok.2.2.2.2.2
            rw [if_neg c4, if_neg c4, e2, fierce_n h1.1 ee ok]
            unfold f_X10_hit_b100
            rw [w32_eq ha1]
            by_cases c5 : a1 = 2
            · rw [if_pos c5, if_pos c5, Option.bind_some]
              exact ⟨_, _, rfl, rfl, rfl, hs'⟩
            · rw [if_neg c5, if_neg c5, Option.bind_some, k2, dHit_n h1.1 ee ok (by omega), Option.bind_some, sums_n h1.1.2 (hiS_24 _ _ _ _), Option.bind_some, k3 (by omega)]
              exact ⟨_, _, rfl, rfl, rfl, hs'⟩
    · rw [if_neg c2, if_neg c2]
      exact ⟨_, _, rfl, rfl, rfl, hs⟩
