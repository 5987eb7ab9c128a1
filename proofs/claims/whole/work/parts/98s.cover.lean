/-! ===== pure level: cover, the reference's side ===== -/
def low1 (L q : Nat) : Prop := L.testBit q = true ∧ ∀ r, r < q → L.testBit r = false
theorem low1_ex {L : Nat} (h : L ≠ 0) : ∃ q, low1 L q := by
  obtain ⟨t, ht⟩ := ex_bit h
  have go : ∀ n, (∃ q, q < n ∧ low1 L q) ∨ ∀ r, r < n → L.testBit r = false := fun n => by
    induction n with
    | zero => exact Or.inr fun r hr => by omega
    | succ n ih =>
      rcases ih with ⟨q, q1, q2⟩ | ih
      · exact Or.inl ⟨q, by omega, q2⟩
      · cases hb : L.testBit n with
        | true => exact Or.inl ⟨n, by omega, hb, ih⟩
        | false =>
          refine Or.inr fun r hr => ?_
          rcases Nat.lt_succ_iff_lt_or_eq.1 hr with e | e
          · exact ih r e
          · rw [e]
            exact hb
  rcases go (t + 1) with ⟨q, -, h⟩ | h
  · exact ⟨q, h⟩
  · rw [h t (by omega)] at ht
    cases ht
theorem low1_u {L p q : Nat} (h : low1 L p) (k : low1 L q) : p = q := by
  rcases Nat.lt_trichotomy p q with r | r | r
  · have := k.2 p r
    rw [h.1] at this
    cases this
  · exact r
  · have := h.2 q r
    rw [k.1] at this
    cases this
def Cv (C : Nat → Prop) : Nat → Nat → Prop
  | 0, L => L = 0
  | n + 1, L => L = 0 ∨ ∃ c, C c ∧ (∃ q, low1 L q ∧ c.testBit q = true) ∧ Cv C n (L &&& (c ^^^ 4294967295))
def yn (r : Int) (P : Prop) : Prop := (r = 1 ∧ P) ∨ (r = 0 ∧ ¬ P)
def DLf (σ : Sg) (C : Nat → Prop) (D : Nat) (f : Nat → Nat) : Prop := σ 41 40 = (D : Int) ∧ D ≤ 576 ∧ (∀ k, k < D → σ 59 k = (f k : Int) ∧ C (f k) ∧ f k < 16777216) ∧ ∀ c, C c → ∃ k, k < D ∧ f k = c
theorem cov_l0 {σ : Sg} {L : Nat} {C : Nat → Prop} (hL : L < 16777216) : ∃ r, f_X10_isCovered_l0 (L : Int) ((0 : Nat) : Int) σ = some r ∧ yn r (Cv C 0 L) := by
  unfold f_X10_isCovered_l0
  rw [w32_n (by omega)]
  by_cases c1 : L = 0
  · rw [if_pos (by omega)]
    exact ⟨1, rfl, Or.inl ⟨rfl, c1⟩⟩
  · rw [if_neg (by omega), if_pos (show w32 ((0 : Nat) : Int) = 0 by decide)]
    exact ⟨0, rfl, Or.inr ⟨rfl, c1⟩⟩
theorem cov_l1 {σ : Sg} {L n D : Nat} {C : Nat → Prop} {f : Nat → Nat} (hD : DLf σ C D f) (hn : n ≤ 1) (hL : L < 16777216) : ∃ r, f_X10_isCovered_l1 (L : Int) (n : Int) σ = some r ∧ yn r (Cv C n L) := by
  obtain ⟨d1, d2, d3, d4⟩ := id hD
  unfold f_X10_isCovered_l1
  rw [w32_n (by omega), w32_n (by omega)]
  by_cases c1 : L = 0
  · rw [if_pos (by omega)]
    refine ⟨1, rfl, Or.inl ⟨rfl, ?_⟩⟩
    cases n
    · exact c1
    · exact Or.inl c1
  · rw [if_neg (by omega)]
    by_cases c2 : n = 0
    · subst c2
      rw [if_pos (show ((0 : Nat) : Int) = 0 from rfl)]
      exact ⟨0, rfl, Or.inr ⟨rfl, c1⟩⟩
    · obtain ⟨m, rfl⟩ : ∃ m, n = m + 1 := ⟨n - 1, by omega⟩
      have m0 : m = 0 := by omega
      subst m0
      obtain ⟨q, hq⟩ := low1_ex c1
      have hq24 := bit_lt hL hq.1
      rw [if_neg (by omega), lowest_n hL hq.1 hq.2, Option.bind_some]
      refine loop_P (F := fun x j (_ : Unit) => f_X10_isCovered_l1_b20 σ x (L : Int) ((0 + 1 : Nat) : Int) (q : Int) j) D (fun j _ => ∀ k, k < j → (f k).testBit q = true → ¬ Cv C 0 (L &&& (f k ^^^ 4294967295))) (P := fun x => ∃ r, x = some r ∧ yn r (Cv C (0 + 1) L)) (by omega) ?_ ?_ 0 (by omega) () (fun k hk => by omega)
      · intro x j _ hj hI
        obtain ⟨g1, g2, g3⟩ := d3 j hj
        have st : ((f j).testBit q = true → ¬ Cv C 0 (L &&& (f j ^^^ 4294967295))) → ∀ k, k < j + 1 → (f k).testBit q = true → ¬ Cv C 0 (L &&& (f k ^^^ 4294967295)) := fun h k hk => by
          rcases Nat.lt_succ_iff_lt_or_eq.1 hk with e | e
          · exact hI k e
          · rw [e]
            exact h
        rw [f_X10_isCovered_l1_b20, d1, w32_n (by omega), w32_n (by omega), if_pos (show (j : Int) < (D : Int) by omega), ck_t (by omega), ck_t (by omega), ntn, g1, has_n (by omega) (by omega), Option.bind_some]
        by_cases hb : (f j).testBit q = true
        · obtain ⟨r, e, y⟩ := cov_l0 (σ := σ) (L := L &&& (f j ^^^ 4294967295)) (C := C) (Nat.lt_of_le_of_lt Nat.and_le_left hL)
          rw [b01_t hb, u32_nat (n := L) (by omega), u32_nat (n := f j) (by omega), show ((0 + 1 : Nat) : Int) - 1 = ((0 : Nat) : Int) by omega, e, Option.bind_some]
          rcases y with ⟨y1, y2⟩ | ⟨y1, y2⟩
          · left
            rw [y1, if_neg (show ¬ w32 1 = 0 by decide)]
            exact ⟨1, rfl, Or.inl ⟨rfl, Or.inr ⟨f j, g2, ⟨q, hq, hb⟩, y2⟩⟩⟩
          · right
            rw [y1, if_pos (show w32 0 = 0 by decide)]
            exact ⟨(), st fun _ => y2, rfl⟩
        · right
          rw [b01_f (Bool.eq_false_iff.mpr hb)]
          exact ⟨(), st fun h => absurd h hb, rfl⟩
      · intro x _ hI
        rw [f_X10_isCovered_l1_b20, d1, if_neg (show ¬ w32 (D : Int) < w32 (D : Int) by omega)]
        refine ⟨0, rfl, Or.inr ⟨rfl, fun h => ?_⟩⟩
        rcases h with h | ⟨c, h1, ⟨q', h2, h3⟩, h4⟩
        · exact c1 h
        · obtain ⟨k, k1, k2⟩ := d4 c h1
          subst k2
          rw [low1_u h2 hq] at h3
          exact hI k k1 h3 h4
theorem cov_l2 {σ : Sg} {L n D : Nat} {C : Nat → Prop} {f : Nat → Nat} (hD : DLf σ C D f) (hn : n ≤ 2) (hL : L < 16777216) : ∃ r, f_X10_isCovered_l2 (L : Int) (n : Int) σ = some r ∧ yn r (Cv C n L) := by
  obtain ⟨d1, d2, d3, d4⟩ := id hD
  unfold f_X10_isCovered_l2
  rw [w32_n (by omega), w32_n (by omega)]
  by_cases c1 : L = 0
  · rw [if_pos (by omega)]
    refine ⟨1, rfl, Or.inl ⟨rfl, ?_⟩⟩
    cases n
    · exact c1
    · exact Or.inl c1
  · rw [if_neg (by omega)]
    by_cases c2 : n = 0
    · subst c2
      rw [if_pos (show ((0 : Nat) : Int) = 0 from rfl)]
      exact ⟨0, rfl, Or.inr ⟨rfl, c1⟩⟩
    · obtain ⟨m, rfl⟩ : ∃ m, n = m + 1 := ⟨n - 1, by omega⟩
      obtain ⟨q, hq⟩ := low1_ex c1
      have hq24 := bit_lt hL hq.1
      rw [if_neg (by omega), lowest_n hL hq.1 hq.2, Option.bind_some]
      refine loop_P (F := fun x j (_ : Unit) => f_X10_isCovered_l2_b20 σ x (L : Int) ((m + 1 : Nat) : Int) (q : Int) j) D (fun j _ => ∀ k, k < j → (f k).testBit q = true → ¬ Cv C m (L &&& (f k ^^^ 4294967295))) (P := fun x => ∃ r, x = some r ∧ yn r (Cv C (m + 1) L)) (by omega) ?_ ?_ 0 (by omega) () (fun k hk => by omega)
      · intro x j _ hj hI
        obtain ⟨g1, g2, g3⟩ := d3 j hj
        have st : ((f j).testBit q = true → ¬ Cv C m (L &&& (f j ^^^ 4294967295))) → ∀ k, k < j + 1 → (f k).testBit q = true → ¬ Cv C m (L &&& (f k ^^^ 4294967295)) := fun h k hk => by
          rcases Nat.lt_succ_iff_lt_or_eq.1 hk with e | e
          · exact hI k e
          · rw [e]
            exact h
        rw [f_X10_isCovered_l2_b20, d1, w32_n (by omega), w32_n (by omega), if_pos (show (j : Int) < (D : Int) by omega), ck_t (by omega), ck_t (by omega), ntn, g1, has_n (by omega) (by omega), Option.bind_some]
        by_cases hb : (f j).testBit q = true
        · obtain ⟨r, e, y⟩ := cov_l1 (σ := σ) (L := L &&& (f j ^^^ 4294967295)) (C := C) (n := m) hD (by omega) (Nat.lt_of_le_of_lt Nat.and_le_left hL)
          rw [b01_t hb, u32_nat (n := L) (by omega), u32_nat (n := f j) (by omega), show ((m + 1 : Nat) : Int) - 1 = (m : Int) by omega, e, Option.bind_some]
          rcases y with ⟨y1, y2⟩ | ⟨y1, y2⟩
          · left
            rw [y1, if_neg (show ¬ w32 1 = 0 by decide)]
            exact ⟨1, rfl, Or.inl ⟨rfl, Or.inr ⟨f j, g2, ⟨q, hq, hb⟩, y2⟩⟩⟩
          · right
            rw [y1, if_pos (show w32 0 = 0 by decide)]
            exact ⟨(), st fun _ => y2, rfl⟩
        · right
          rw [b01_f (Bool.eq_false_iff.mpr hb)]
          exact ⟨(), st fun h => absurd h hb, rfl⟩
      · intro x _ hI
        rw [f_X10_isCovered_l2_b20, d1, if_neg (show ¬ w32 (D : Int) < w32 (D : Int) by omega)]
        refine ⟨0, rfl, Or.inr ⟨rfl, fun h => ?_⟩⟩
        rcases h with h | ⟨c, h1, ⟨q', h2, h3⟩, h4⟩
        · exact c1 h
        · obtain ⟨k, k1, k2⟩ := d4 c h1
          subst k2
          rw [low1_u h2 hq] at h3
          exact hI k k1 h3 h4
theorem cov_l3 {σ : Sg} {L n D : Nat} {C : Nat → Prop} {f : Nat → Nat} (hD : DLf σ C D f) (hn : n ≤ 3) (hL : L < 16777216) : ∃ r, f_X10_isCovered_l3 (L : Int) (n : Int) σ = some r ∧ yn r (Cv C n L) := by
  obtain ⟨d1, d2, d3, d4⟩ := id hD
  unfold f_X10_isCovered_l3
  rw [w32_n (by omega), w32_n (by omega)]
  by_cases c1 : L = 0
  · rw [if_pos (by omega)]
    refine ⟨1, rfl, Or.inl ⟨rfl, ?_⟩⟩
    cases n
    · exact c1
    · exact Or.inl c1
  · rw [if_neg (by omega)]
    by_cases c2 : n = 0
    · subst c2
      rw [if_pos (show ((0 : Nat) : Int) = 0 from rfl)]
      exact ⟨0, rfl, Or.inr ⟨rfl, c1⟩⟩
    · obtain ⟨m, rfl⟩ : ∃ m, n = m + 1 := ⟨n - 1, by omega⟩
      obtain ⟨q, hq⟩ := low1_ex c1
      have hq24 := bit_lt hL hq.1
      rw [if_neg (by omega), lowest_n hL hq.1 hq.2, Option.bind_some]
      refine loop_P (F := fun x j (_ : Unit) => f_X10_isCovered_l3_b20 σ x (L : Int) ((m + 1 : Nat) : Int) (q : Int) j) D (fun j _ => ∀ k, k < j → (f k).testBit q = true → ¬ Cv C m (L &&& (f k ^^^ 4294967295))) (P := fun x => ∃ r, x = some r ∧ yn r (Cv C (m + 1) L)) (by omega) ?_ ?_ 0 (by omega) () (fun k hk => by omega)
      · intro x j _ hj hI
        obtain ⟨g1, g2, g3⟩ := d3 j hj
        have st : ((f j).testBit q = true → ¬ Cv C m (L &&& (f j ^^^ 4294967295))) → ∀ k, k < j + 1 → (f k).testBit q = true → ¬ Cv C m (L &&& (f k ^^^ 4294967295)) := fun h k hk => by
          rcases Nat.lt_succ_iff_lt_or_eq.1 hk with e | e
          · exact hI k e
          · rw [e]
            exact h
        rw [f_X10_isCovered_l3_b20, d1, w32_n (by omega), w32_n (by omega), if_pos (show (j : Int) < (D : Int) by omega), ck_t (by omega), ck_t (by omega), ntn, g1, has_n (by omega) (by omega), Option.bind_some]
        by_cases hb : (f j).testBit q = true
        · obtain ⟨r, e, y⟩ := cov_l2 (σ := σ) (L := L &&& (f j ^^^ 4294967295)) (C := C) (n := m) hD (by omega) (Nat.lt_of_le_of_lt Nat.and_le_left hL)
          rw [b01_t hb, u32_nat (n := L) (by omega), u32_nat (n := f j) (by omega), show ((m + 1 : Nat) : Int) - 1 = (m : Int) by omega, e, Option.bind_some]
          rcases y with ⟨y1, y2⟩ | ⟨y1, y2⟩
          · left
            rw [y1, if_neg (show ¬ w32 1 = 0 by decide)]
            exact ⟨1, rfl, Or.inl ⟨rfl, Or.inr ⟨f j, g2, ⟨q, hq, hb⟩, y2⟩⟩⟩
          · right
            rw [y1, if_pos (show w32 0 = 0 by decide)]
            exact ⟨(), st fun _ => y2, rfl⟩
        · right
          rw [b01_f (Bool.eq_false_iff.mpr hb)]
          exact ⟨(), st fun h => absurd h hb, rfl⟩
      · intro x _ hI
        rw [f_X10_isCovered_l3_b20, d1, if_neg (show ¬ w32 (D : Int) < w32 (D : Int) by omega)]
        refine ⟨0, rfl, Or.inr ⟨rfl, fun h => ?_⟩⟩
        rcases h with h | ⟨c, h1, ⟨q', h2, h3⟩, h4⟩
        · exact c1 h
        · obtain ⟨k, k1, k2⟩ := d4 c h1
          subst k2
          rw [low1_u h2 hq] at h3
          exact hI k k1 h3 h4
