/-! ===== pure level: count, couples, spread ===== -/
noncomputable def cnP (P : Nat → Prop) : Nat → Int
  | 0 => 0
  | n + 1 => cnP P n + @ite _ (P n) (Classical.propDecidable _) 1 0
theorem cnP_t {P : Nat → Prop} {n : Nat} (h : P n) : cnP P (n + 1) = cnP P n + 1 := by
  rw [cnP]
  exact congrArg _ (@if_pos _ (Classical.propDecidable _) h _ _ _)
theorem cnP_f {P : Nat → Prop} {n : Nat} (h : ¬ P n) : cnP P (n + 1) = cnP P n := by
  rw [cnP]
  have : @ite _ (P n) (Classical.propDecidable _) (1 : Int) 0 = 0 := @if_neg _ (Classical.propDecidable _) h _ _ _
  rw [this, Int.add_zero]
theorem dPassedAll_n {n F N : Nat} {z ζ : Sg} (h : Rn n z ζ F N) : f_X9_passedTreaties z = some (cnP (psM ζ) N) := by
  obtain ⟨hN, hNm, hN6⟩ := h.nm
  unfold f_X9_passedTreaties
  refine loop_at (St := Int) (F := fun n i v => f_X9_passedTreaties_b4 z n v i) N (fun i v => v = cnP (psM ζ) i) (by omega) ?_ ?_ 0 (by omega) 0 rfl
  · intro m i v hi hv
    right
    refine ⟨_, rfl, ?_⟩
    subst hv
    show f_X9_passedTreaties_b4 z (m + 1) (cnP (psM ζ) i) (i : Int) = f_X9_passedTreaties_b4 z m (cnP (psM ζ) (i + 1)) ((i : Int) + 1)
    obtain ⟨ht6, hD, hA, hQ⟩ := h.tr hi
    rw [f_X9_passedTreaties_b4, w32_n (by omega), hN, w32_n (by omega), if_pos (show (i : Int) < (N : Int) by omega), treatyAt_t hN hi hN6, Option.bind_some, oTs_ ht6, dPassed_n ht6 h.1 hD hQ, Option.bind_some]
    by_cases c : psM ζ i
    · rw [c01_t c, cnP_t c]
      rfl
    · rw [c01_f c, cnP_f c]
      rfl
  · intro m v hv
    subst hv
    show f_X9_passedTreaties_b4 z (m + 1) _ (N : Int) = _
    rw [f_X9_passedTreaties_b4, w32_n (by omega), hN, w32_n (by omega), if_neg (by omega)]
theorem mPassedAll_n {n F N : Nat} {z ζ : Sg} (h : Rn n z ζ F N) : ∃ ζ', f_X10_passedOnes ζ = some (cnP (psM ζ) N, ζ') ∧ SS ζ ζ' := by
  obtain ⟨hN, hNm, hN6⟩ := h.nm
  unfold f_X10_passedOnes
  obtain ⟨u, m, ⟨hu, su⟩, hx⟩ := loop_ex (F := fun n i (u : Int × Sg) => f_X10_passedOnes_b4 n u.1 i u.2) N (fun i u => u.1 = cnP (psM ζ) i ∧ SS ζ u.2) (fun m i u hi hI => by
    obtain ⟨hu, su⟩ := hI
    show ∃ s' : Int × Sg, _ ∧ f_X10_passedOnes_b4 (m + 1) u.1 (i : Int) u.2 = f_X10_passedOnes_b4 m s'.1 ((i : Int) + 1) s'.2
    obtain ⟨ht6, hD, hA, hQ⟩ := h.tr hi
    have hB := h.1.ss su
    obtain ⟨v, ζ2, e, s2, hv⟩ := isPassed_n ht6 (MRow.of hB) (hD.ss su).2.1
    have hps : psM u.2 i ↔ psM ζ i := by
      unfold psM
      rw [su.ws, su.r49 (k := 52) (by omega)]
    rw [f_X10_passedOnes_b4, w32_n (by omega), su 41 27 (by unfold Scm; omega), hNm, w32_n (by omega), if_pos (show (i : Int) < (N : Int) by omega), e, Option.bind_some, hu]
    rcases hv with ⟨hp, rfl⟩ | ⟨hp, rfl⟩
    · dsimp only
      rw [w32_1, if_neg (by decide)]
      exact ⟨(cnP (psM ζ) (i + 1), ζ2), ⟨rfl, su.tr s2.ss⟩, by rw [cnP_t (hps.mp hp)]; rfl⟩
    · dsimp only
      rw [w32_0, if_pos rfl]
      exact ⟨(cnP (psM ζ) (i + 1), ζ2), ⟨rfl, su.tr s2.ss⟩, by rw [cnP_f (fun q => hp (hps.mpr q))]; unfold f_X10_passedOnes_b26; rw [Int.add_zero]⟩) N 0 (0, ζ) FUEL (by omega) ⟨rfl, SS.rf⟩ (fuel_lt (by omega))
  have hx : f_X10_passedOnes_b4 FUEL 0 0 ζ = f_X10_passedOnes_b4 (m + 1) u.1 (N : Int) u.2 := hx
  refine ⟨u.2, ?_, su⟩
  rw [hx, f_X10_passedOnes_b4, w32_n (by omega), su 41 27 (by unfold Scm; omega), hNm, w32_n (by omega), if_neg (by omega), hu]
/-- in force, and none ahead of it at its place -/
def ulP (z : Sg) (F p : Nat) : Prop := F.testBit p = true ∧ ∀ q, q < p → F.testBit q = true → 0 < d2 (z 7) (z 8) p q
theorem dUnlike_n {z ζ : Sg} {F : Nat} (h : RelB z ζ F) : f_X0_unlikePlaces z = some (cnP (ulP z F) 24) := by
  unfold f_X0_unlikePlaces
  refine loop_at (St := Int) (F := fun n i v => f_X0_unlikePlaces_b4 z n v i) 24 (fun i v => v = cnP (ulP z F) i) (by omega) ?_ ?_ 0 (by omega) 0 rfl
  · intro m i v hi hv
    right
    refine ⟨_, rfl, ?_⟩
    subst hv
    show f_X0_unlikePlaces_b4 z (m + 1) (cnP (ulP z F) i) (i : Int) = f_X0_unlikePlaces_b4 z m (cnP (ulP z F) (i + 1)) ((i : Int) + 1)
    have hFl := h.1.2.1
    rw [f_X0_unlikePlaces_b4, w32_n (by omega), if_pos (show (i : Int) < 24 by omega), h.1.1, contains_n (by omega) (by omega), Option.bind_some]
    cases hb : F.testBit i with
    | false =>
      rw [b01_f rfl, cnP_f (fun q => by have := q.1; rw [hb] at this; cases this)]
      rfl
    | true =>
      have pl := h.pl i hi
      have al := abS_24 (z 7) (z 8) F (z 7 i) (z 8 i) 0
      have e1 : ((1 : Int) * ((2 ^ (u32 (i : Int) % 32) : Nat) : Int)) - 1 = ((2 ^ i - 1 : Nat) : Int) := by
        rw [one_shl (by omega)]
        have := Nat.two_pow_pos i
        omega
      have pw := pow_24 hi
      rw [b01_t rfl, ck_t (by omega), ck_t (by omega), ntn, dWithin_n h pl.1 pl.2 ⟨by decide, by decide⟩, Option.bind_some, e1, and_n (by omega) (by omega), w32_n (n := abS (z 7) (z 8) F (z 7 i) (z 8 i) 0 &&& (2 ^ i - 1)) (by have := Nat.and_le_left (n := abS (z 7) (z 8) F (z 7 i) (z 8 i) 0) (m := 2 ^ i - 1); omega)]
      have bit : ∀ q, (abS (z 7) (z 8) F (z 7 i) (z 8 i) 0 &&& (2 ^ i - 1)).testBit q = true ↔ (q < i ∧ F.testBit q = true ∧ d2 (z 7) (z 8) i q = 0) := fun q => by
        rw [Nat.testBit_and, Nat.testBit_two_pow_sub_one]
        unfold abS
        rw [tb_mks]
        have e : (z 7 q - z 7 i) * (z 7 q - z 7 i) + (z 8 q - z 8 i) * (z 8 q - z 8 i) = d2 (z 7) (z 8) i q := by unfold d2; grind
        have nn := d2_nn (z 7) (z 8) i q
        rw [e]
        simp only [Bool.and_eq_true, decide_eq_true_eq]
        constructor
        · rintro ⟨⟨a, b, c⟩, d⟩
          exact ⟨d, b, by omega⟩
        · rintro ⟨a, b, c⟩
          exact ⟨⟨by omega, b, by omega⟩, a⟩
      by_cases c : ulP z F i
      · have e0 : abS (z 7) (z 8) F (z 7 i) (z 8 i) 0 &&& (2 ^ i - 1) = 0 := bits_ext fun q => by
          rw [Nat.zero_testBit]
          cases hq : (abS (z 7) (z 8) F (z 7 i) (z 8 i) 0 &&& (2 ^ i - 1)).testBit q with
          | false => rfl
          | true =>
            obtain ⟨q1, q2, q3⟩ := (bit q).mp hq
            have := c.2 q q1 q2
            omega
        rw [e0, if_pos (show ((0 : Nat) : Int) = 0 from rfl), cnP_t c]
        rfl
      · have e0 : abS (z 7) (z 8) F (z 7 i) (z 8 i) 0 &&& (2 ^ i - 1) ≠ 0 := fun e0 => c ⟨hb, fun q q1 q2 => by
          have nn := d2_nn (z 7) (z 8) i q
          refine Classical.byContradiction fun q3 => ?_
          have := (bit q).mpr ⟨q1, q2, by omega⟩
          rw [e0, Nat.zero_testBit] at this
          cases this⟩
        rw [if_neg (by omega), cnP_f c]
        rfl
  · intro m v hv
    subst hv
    show f_X0_unlikePlaces_b4 z (m + 1) _ ((24 : Nat) : Int) = _
    rw [f_X0_unlikePlaces_b4, w32_n (by decide), if_neg (by decide)]
theorem mUnlike_n {z ζ : Sg} {F : Nat} (h : RelB z ζ F) : f_X10_unlikePlaces ζ = some (cnP (ulP z F) 24) := by
  unfold f_X10_unlikePlaces
  refine loop_at (St := Int) (F := fun n i v => f_X10_unlikePlaces_b4 ζ n v i) 24 (fun i v => v = cnP (ulP z F) i) (by omega) ?_ ?_ 0 (by omega) 0 rfl
  · intro m i v hi hv
    right
    refine ⟨_, rfl, ?_⟩
    subst hv
    show f_X10_unlikePlaces_b4 ζ (m + 1) (cnP (ulP z F) i) (i : Int) = f_X10_unlikePlaces_b4 ζ m (cnP (ulP z F) (i + 1)) ((i : Int) + 1)
    have h49 := (h.1.2.2 i hi).1
    rw [f_X10_unlikePlaces_b4, w32_n (by omega), if_pos (show (i : Int) < 24 by omega), ck_t (by omega), ntn, h49]
    have fin : ∀ v3 : Int, (v3 = 1 ∧ ulP z F i) ∨ (v3 = 0 ∧ ¬ ulP z F i) → f_X10_unlikePlaces_b62 ζ (f_X10_unlikePlaces_b4 ζ m) (cnP (ulP z F) i) (i : Int) v3 = f_X10_unlikePlaces_b4 ζ m (cnP (ulP z F) (i + 1)) ((i : Int) + 1) := fun v3 hv => by
      unfold f_X10_unlikePlaces_b62 f_X10_unlikePlaces_b72
      rcases hv with ⟨rfl, c⟩ | ⟨rfl, c⟩
      · rw [w32_1, if_neg (by decide), cnP_t c]
      · rw [w32_0, if_pos rfl, cnP_f c, Int.add_zero]
    refine loop_P (F := fun n j v3 => f_X10_unlikePlaces_b20 ζ (f_X10_unlikePlaces_b4 ζ m) n (cnP (ulP z F) i) (i : Int) v3 j) i (fun j v3 => (v3 = 1 ∧ F.testBit i = true ∧ ∀ q, q < j → F.testBit q = true → 0 < d2 (z 7) (z 8) i q) ∨ (v3 = 0 ∧ ¬ ulP z F i)) (P := fun x => x = f_X10_unlikePlaces_b4 ζ m (cnP (ulP z F) (i + 1)) ((i : Int) + 1)) (by omega) ?_ ?_ 0 (Nat.zero_le _) (if F.testBit i = true then 1 else 0) ?_
    · intro n j v3 hj hI
      have g49 := (h.1.2.2 j (by omega)).1
      rw [f_X10_unlikePlaces_b20, w32_n (n := j) (by omega), w32_n (n := i) (by omega), if_pos (show (j : Int) < (i : Int) by omega)]
      rcases hI with ⟨rfl, hFi, hI⟩ | ⟨rfl, hI⟩
      · right
        rw [w32_1, if_neg (show ¬ (1 : Int) = 0 by decide), ck_t (by omega), ntn, g49]
        cases hb : F.testBit j with
        | false =>
          rw [b01_f rfl]
          refine ⟨1, Or.inl ⟨rfl, hFi, fun q hq hqb => ?_⟩, rfl⟩
          by_cases e : q = j
          · rw [e, hb] at hqb
            cases hqb
          · exact hI q (by omega) hqb
        | true =>
          have dd := d2_bd (h.1.2.2 i hi).2.2.1 (h.1.2.2 j (by omega)).2.2.1
          rw [b01_t rfl, dist_n (by omega) (by omega), Option.bind_some, w32_eq (z := d2 (ζ 45) (ζ 46) i j) ⟨by omega, by omega⟩, ← h.d2 hi (by omega)]
          by_cases c : d2 (z 7) (z 8) i j ≤ 0
          · rw [if_pos c]
            exact ⟨0, Or.inr ⟨rfl, fun q => by have := q.2 j hj hb; omega⟩, rfl⟩
          · rw [if_neg c]
            refine ⟨1, Or.inl ⟨rfl, hFi, fun q hq hqb => ?_⟩, rfl⟩
            by_cases e : q = j
            · rw [e]
              omega
            · exact hI q (by omega) hqb
      · left
        rw [w32_0, if_pos rfl]
        exact fin 0 (Or.inr ⟨rfl, hI⟩)
    · intro n v3 hI
      rw [f_X10_unlikePlaces_b20, w32_n (n := i) (by omega), if_neg (show ¬ (i : Int) < (i : Int) by omega)]
      rcases hI with ⟨rfl, hFi, hI⟩ | ⟨rfl, hI⟩
      · exact fin 1 (Or.inl ⟨rfl, hFi, hI⟩)
      · exact fin 0 (Or.inr ⟨rfl, hI⟩)
    · cases hb : F.testBit i with
      | false => exact Or.inr ⟨rfl, fun q => by have := q.1; rw [hb] at this; cases this⟩
      | true => exact Or.inl ⟨rfl, rfl, fun q hq => absurd hq (Nat.not_lt_zero _)⟩
  · intro m v hv
    subst hv
    show f_X10_unlikePlaces_b4 ζ (m + 1) _ ((24 : Nat) : Int) = _
    rw [f_X10_unlikePlaces_b4, w32_n (by decide), if_neg (by decide)]
theorem Eq_count_n : Eq_count Rl := by
  intro n σd σm a1 hn hR ha1
  obtain ⟨F, N, h⟩ := hR
  have h : Rn n σd σm F N := h
  have h1 := h.m0
  have hs := h.ask (z' := σd) (ζ' := up σm 41 0 0) SD.rf ss0
  obtain ⟨hN, hNm, hN6⟩ := h1.nm
  unfold f_X9_count f_X10_count wr
  dsimp only
  generalize up σm 41 0 0 = ζ at *
  have hFl := h1.1.1.2.1
  have e15 : f_X10_ofPerils 15 ζ = some ((F : Nat) : Int) := by
    have := ofPerils_n (σ := ζ) (T := 15) (by decide) (MRow.of h1.1)
    rw [prS_15 h1.1] at this
    exact this
  by_cases d0 : w32 a1 = 0
  · rw [if_pos d0, if_pos d0, h1.1.1.1, bitc_n hFl, Option.bind_some, e15, Option.bind_some, bits_n hFl, Option.bind_some]
    exact ⟨_, _, rfl, rfl, rfl, hs⟩
  · rw [if_neg d0, if_neg d0]
    by_cases d1 : w32 a1 = 1
    · rw [if_pos d1, if_pos d1]
      exact ⟨_, _, rfl, rfl, by rw [hN, hNm], hs⟩
    · rw [if_neg d1, if_neg d1]
      by_cases d2_ : w32 a1 = 2
      · rw [if_pos d2_, if_pos d2_, h1.1.1.1, sums_n h1.1.2 hFl, Option.bind_some, e15, Option.bind_some, sumOf_n (by omega), Option.bind_some, h1.1.sm (fun q hq => hq)]
        exact ⟨_, _, rfl, rfl, rfl, hs⟩
      · rw [if_neg d2_, if_neg d2_]
        by_cases d3 : w32 a1 = 3
        · obtain ⟨ζ', e, s⟩ := mPassedAll_n h1
          rw [if_pos d3, if_pos d3, dPassedAll_n h1, Option.bind_some, e, Option.bind_some]
          exact ⟨_, _, rfl, rfl, rfl, h1.ask (z' := σd) (ζ' := ζ') SD.rf s⟩
        · rw [if_neg d3, if_neg d3]
          by_cases d4 : w32 a1 = 4
          · rw [if_pos d4, if_pos d4]
            exact ⟨_, _, rfl, rfl, by rw [show σd (13 + 2 * 0) 2 = ζ 41 28 from h1.2.2.1.1.1], hs⟩
          · rw [if_neg d4, if_neg d4]
            by_cases d5 : w32 a1 = 5
            · rw [if_pos d5, if_pos d5, dUnlike_n h1.1, Option.bind_some, mUnlike_n h1.1, Option.bind_some]
              exact ⟨_, _, rfl, rfl, rfl, hs⟩
            · rw [if_neg d5, if_neg d5]
              by_cases d6 : w32 a1 = 6
              · rw [if_pos d6, if_pos d6]
                exact ⟨_, _, rfl, rfl, by rw [show σd 1 1 = ζ 41 2 from h1.2.2.2.1.1.1], hs⟩
              · rw [if_neg d6, if_neg d6]
                exact ⟨_, _, rfl, rfl, rfl, hs⟩
