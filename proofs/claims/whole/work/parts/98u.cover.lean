/-! ===== pure level: cover ===== -/
def Cw (C : Nat → Prop) : Nat → Nat → Prop
  | 0, L => L = 0
  | n + 1, L => L = 0 ∨ ∃ c, C c ∧ Cw C n (L &&& (c ^^^ 4294967295))
theorem and_24 {L x : Nat} (hL : L < 16777216) : L &&& x < 16777216 := Nat.lt_of_le_of_lt Nat.and_le_left hL
theorem subN_0 {L : Nat} (h : SubN L 0) : L = 0 := Classical.byContradiction fun e => by
  obtain ⟨t, ht⟩ := ex_bit e
  have := h t ht
  rw [Nat.zero_testBit] at this
  cases this
theorem wo_sub {L M c d : Nat} (hL : L < 16777216) (hM : M < 16777216) (h1 : SubN M L) (h2 : SubN c d) : SubN (M &&& (d ^^^ 4294967295)) (L &&& (c ^^^ 4294967295)) := fun q hq => by
  rw [tb_wo hM, Bool.and_eq_true] at hq
  rw [tb_wo hL, h1 q hq.1, Bool.true_and]
  cases hc : c.testBit q with
  | false => rfl
  | true =>
    have := hq.2
    rw [h2 q hc] at this
    cases this
theorem Cw_mono {C K : Nat → Prop} (hCK : ∀ c, C c → ∃ k, K k ∧ SubN c k) : ∀ n L M, L < 16777216 → M < 16777216 → SubN M L → Cw C n L → Cw K n M
  | 0, L, M, _, _, hs, h => by
    have h : L = 0 := h
    subst h
    exact subN_0 hs
  | n + 1, L, M, hL, hM, hs, h => by
    rcases h with h | ⟨c, c1, c2⟩
    · subst h
      exact Or.inl (subN_0 hs)
    · obtain ⟨k, k1, k2⟩ := hCK c c1
      exact Or.inr ⟨k, k1, Cw_mono hCK n _ _ (and_24 hL) (and_24 hM) (wo_sub hL hM hs k2) c2⟩
theorem Cw_q {C : Nat → Prop} : ∀ n L q, L < 16777216 → L.testBit q = true → Cw C (n + 1) L → ∃ c, C c ∧ c.testBit q = true ∧ Cw C n (L &&& (c ^^^ 4294967295))
  | 0, L, q, hL, hq, h => by
    rcases h with h | ⟨c, c1, c2⟩
    · subst h
      rw [Nat.zero_testBit] at hq
      cases hq
    · refine ⟨c, c1, ?_, c2⟩
      have c2 : L &&& (c ^^^ 4294967295) = 0 := c2
      have := tb_wo (m := c) (q := q) hL
      rw [c2, Nat.zero_testBit, hq] at this
      cases hc : c.testBit q with
      | true => rfl
      | false =>
        rw [hc] at this
        cases this
  | n + 1, L, q, hL, hq, h => by
    rcases h with h | ⟨c, c1, c2⟩
    · subst h
      rw [Nat.zero_testBit] at hq
      cases hq
    · cases hc : c.testBit q with
      | true => exact ⟨c, c1, hc, c2⟩
      | false =>
        obtain ⟨d, d1, d2_, d3⟩ := Cw_q n _ q (and_24 hL) (by rw [tb_wo hL, hq, hc]; rfl) c2
        refine ⟨d, d1, d2_, Or.inr ⟨c, c1, ?_⟩⟩
        have e : L &&& (d ^^^ 4294967295) &&& (c ^^^ 4294967295) = L &&& (c ^^^ 4294967295) &&& (d ^^^ 4294967295) := by
          rw [Nat.and_assoc, Nat.and_assoc, Nat.and_comm (d ^^^ 4294967295)]
        rw [e]
        exact d3
theorem Cv_s {C : Nat → Prop} : ∀ n L, L < 16777216 → (Cv C n L ↔ Cw C n L)
  | 0, L, _ => Iff.rfl
  | n + 1, L, hL => by
    constructor
    · rintro (h | ⟨c, c1, -, c3⟩)
      · exact Or.inl h
      · exact Or.inr ⟨c, c1, (Cv_s n _ (and_24 hL)).mp c3⟩
    · intro h
      by_cases h0 : L = 0
      · exact Or.inl h0
      · obtain ⟨q, hq⟩ := low1_ex h0
        obtain ⟨c, c1, c2, c3⟩ := Cw_q n L q hL hq.1 h
        exact Or.inr ⟨c, c1, ⟨q, hq, c2⟩, (Cv_s n _ (and_24 hL)).mpr c3⟩
theorem Cv_CK {C K : Nat → Prop} (h1 : ∀ k, K k → C k) (h2 : ∀ c, C c → ∃ k, K k ∧ SubN c k) {n L : Nat} (hL : L < 16777216) : Cv K n L ↔ Cv C n L := by
  rw [Cv_s n L hL, Cv_s n L hL]
  exact ⟨Cw_mono (fun c hc => ⟨c, h1 c hc, fun _ h => h⟩) n L L hL hL (fun _ h => h), Cw_mono h2 n L L hL hL (fun _ h => h)⟩
theorem Cv_up {C : Nat → Prop} : ∀ n L, Cv C n L → Cv C (n + 1) L
  | 0, L, h => Or.inl h
  | n + 1, L, h => by
    rcases h with h | ⟨c, c1, c2, c3⟩
    · exact Or.inl h
    · exact Or.inr ⟨c, c1, c2, Cv_up n _ c3⟩
abbrev Kf (D : Nat) (f : Nat → Nat) (c : Nat) : Prop := ∃ k, k < D ∧ f k = c
theorem sub_wo0 {L c : Nat} (hL : L < 16777216) : L &&& (c ^^^ 4294967295) = 0 ↔ SubN L c := by
  constructor
  · intro e q hq
    have := tb_wo (m := c) (q := q) hL
    rw [e, Nat.zero_testBit, hq] at this
    cases hc : c.testBit q with
    | true => rfl
    | false =>
      rw [hc] at this
      cases this
  · intro h
    exact bits_ext fun q => by
      rw [tb_wo hL, Nat.zero_testBit]
      cases hq : L.testBit q with
      | false => rfl
      | true => rw [h q hq]; rfl
theorem Cv_1 {D L : Nat} {f : Nat → Nat} (hL : L < 16777216) (hD : 0 < D) : Cv (Kf D f) 1 L ↔ ∃ k, k < D ∧ SubN L (f k) := by
  constructor
  · rintro (h | ⟨c, ⟨k, k1, k2⟩, -, c3⟩)
    · subst h
      exact ⟨0, hD, fun q hq => by rw [Nat.zero_testBit] at hq; cases hq⟩
    · subst k2
      exact ⟨k, k1, (sub_wo0 hL).mp c3⟩
  · rintro ⟨k, k1, k2⟩
    by_cases h0 : L = 0
    · exact Or.inl h0
    · obtain ⟨q, hq⟩ := low1_ex h0
      exact Or.inr ⟨f k, ⟨k, k1, rfl⟩, ⟨q, hq, k2 q hq.1⟩, (sub_wo0 hL).mpr k2⟩
theorem one_n {z : Sg} {D L : Nat} {f : Nat → Nat} (hF : Fam z D f) (hL : L < 16777216) (hD : 0 < D) : ∃ r, f_X3_isOneOver (L : Int) z = some r ∧ yn r (Cv (Kf D f) 1 L) := by
  obtain ⟨h1, h2, h3, h4⟩ := hF
  unfold f_X3_isOneOver
  refine loop_P (F := fun n i (_ : Unit) => f_X3_isOneOver_b2 z n (L : Int) i) D (fun i _ => ∀ k, k < i → ¬ SubN L (f k)) (P := fun x => ∃ r, x = some r ∧ yn r (Cv (Kf D f) 1 L)) (by omega) ?_ ?_ 0 (by omega) () (fun k hk => by omega)
  · intro n i _ hi hI
    have fi := h3 i hi
    rw [f_X3_isOneOver_b2, h1, w32_n (by omega), w32_n (by omega), if_pos (show (i : Int) < (D : Int) by omega), if_pos (show (i : Int) < 576 by omega), ck_t (by omega), ntn, fi.1]
    by_cases c1 : SubN L (f i)
    · left
      rw [if_pos ((sub_0 hL fi.2).mpr c1)]
      exact ⟨1, rfl, Or.inl ⟨rfl, (Cv_1 hL hD).mpr ⟨i, hi, c1⟩⟩⟩
    · right
      rw [if_neg (fun q => c1 ((sub_0 hL fi.2).mp q))]
      refine ⟨(), fun k hk => ?_, rfl⟩
      rcases Nat.lt_succ_iff_lt_or_eq.1 hk with e | e
      · exact hI k e
      · rw [e]
        exact c1
  · intro n _ hI
    rw [f_X3_isOneOver_b2, h1, if_neg (show ¬ w32 (D : Int) < w32 (D : Int) by omega)]
    refine ⟨0, rfl, Or.inr ⟨rfl, fun h => ?_⟩⟩
    obtain ⟨k, k1, k2⟩ := (Cv_1 hL hD).mp h
    exact hI k k1 k2
theorem woE {L x : Nat} (hL : L < 16777216) (hx : x < 16777216) : ((u32 (L : Int)) &&& ((u32 (x : Int)) ^^^ 4294967295) : Nat) = L &&& (x ^^^ 4294967295) := by
  rw [u32_nat (n := L) (by omega), u32_nat (n := x) (by omega)]
theorem twoOver_n {z : Sg} {D L : Nat} {f : Nat → Nat} (hF : Fam z D f) (hL : L < 16777216) (hD : 0 < D) (h0 : L ≠ 0) : ∃ r, f_X3_areTwoOver (L : Int) z = some r ∧ yn r (Cv (Kf D f) 2 L) := by
  have hF' := hF
  obtain ⟨h1, h2, h3, h4⟩ := hF
  obtain ⟨q, hq⟩ := low1_ex h0
  have hq24 := bit_lt hL hq.1
  unfold f_X3_areTwoOver
  refine loop_P (F := fun n i (_ : Unit) => f_X3_areTwoOver_b2 z n (L : Int) i) D (fun i _ => ∀ k, k < i → (f k).testBit q = true → ¬ Cv (Kf D f) 1 (L &&& (f k ^^^ 4294967295))) (P := fun x => ∃ r, x = some r ∧ yn r (Cv (Kf D f) 2 L)) (by omega) ?_ ?_ 0 (by omega) () (fun k hk => by omega)
  · intro n i _ hi hI
    have fi := h3 i hi
    have st : ((f i).testBit q = true → ¬ Cv (Kf D f) 1 (L &&& (f i ^^^ 4294967295))) → ∀ k, k < i + 1 → (f k).testBit q = true → ¬ Cv (Kf D f) 1 (L &&& (f k ^^^ 4294967295)) := fun h k hk => by
      rcases Nat.lt_succ_iff_lt_or_eq.1 hk with e | e
      · exact hI k e
      · rw [e]
        exact h
    rw [f_X3_areTwoOver_b2, h1, w32_n (by omega), w32_n (by omega), if_pos (show (i : Int) < (D : Int) by omega), if_pos (show (i : Int) < 576 by omega), ck_t (by omega), leastOf_n hL hq, Option.bind_some, ck_t (by omega), ntn, fi.1, contains_n (by omega) (by omega), Option.bind_some]
    cases hb : (f i).testBit q with
    | false =>
      right
      rw [b01_f rfl]
      exact ⟨(), st (fun h => by rw [hb] at h; cases h), rfl⟩
    | true =>
      obtain ⟨r, e, y⟩ := one_n hF' (and_24 (x := f i ^^^ 4294967295) hL) hD
      rw [b01_t rfl, woE hL fi.2, e, Option.bind_some]
      rcases y with ⟨y1, y2⟩ | ⟨y1, y2⟩
      · left
        rw [y1, if_neg (show ¬ w32 1 = 0 by decide)]
        exact ⟨1, rfl, Or.inl ⟨rfl, Or.inr ⟨f i, ⟨i, hi, rfl⟩, ⟨q, hq, hb⟩, y2⟩⟩⟩
      · right
        rw [y1, if_pos (show w32 0 = 0 by decide)]
        exact ⟨(), st fun _ => y2, rfl⟩
  · intro n _ hI
    rw [f_X3_areTwoOver_b2, h1, if_neg (show ¬ w32 (D : Int) < w32 (D : Int) by omega)]
    refine ⟨0, rfl, Or.inr ⟨rfl, fun h => ?_⟩⟩
    rcases h with h | ⟨c, ⟨k, k1, k2⟩, ⟨q', t2, t3⟩, t4⟩
    · exact h0 h
    · subst k2
      rw [low1_u t2 hq] at t3
      exact hI k k1 t3 t4
def fwV (C : Nat → Prop) (L : Nat) (r : Int) : Prop := (r = 1 ∧ Cv C 1 L) ∨ (r = 2 ∧ ¬ Cv C 1 L ∧ Cv C 2 L) ∨ (r = 3 ∧ ¬ Cv C 2 L ∧ Cv C 3 L) ∨ (r = -2 ∧ ¬ Cv C 3 L)
theorem fewOver_n {z : Sg} {D L : Nat} {f : Nat → Nat} (hF : Fam z D f) (hL : L < 16777216) (hD : 0 < D) (h0 : L ≠ 0) : ∃ r, f_X3_fewestOver (L : Int) z = some r ∧ fwV (Kf D f) L r := by
  have hF' := hF
  obtain ⟨h1, h2, h3, h4⟩ := hF
  obtain ⟨q, hq⟩ := low1_ex h0
  have hq24 := bit_lt hL hq.1
  obtain ⟨r1, e1, y1⟩ := one_n hF' hL hD
  unfold f_X3_fewestOver
  rw [e1, Option.bind_some]
  rcases y1 with ⟨y1, y2⟩ | ⟨y1, n1⟩
  · rw [y1, if_neg (show ¬ w32 1 = 0 by decide)]
    exact ⟨1, rfl, Or.inl ⟨rfl, y2⟩⟩
  rw [y1, if_pos (show w32 0 = 0 by decide)]
  refine loop_P (F := fun n i (_ : Unit) => f_X3_fewestOver_b12 z n (L : Int) i) D (fun i _ => ∀ k, k < i → (f k).testBit q = true → ¬ Cv (Kf D f) 1 (L &&& (f k ^^^ 4294967295))) (P := fun x => ∃ r, x = some r ∧ fwV (Kf D f) L r) (by omega) ?_ ?_ 0 (by omega) () (fun k hk => by omega)
  · intro n i _ hi hI
    have fi := h3 i hi
    have st : ((f i).testBit q = true → ¬ Cv (Kf D f) 1 (L &&& (f i ^^^ 4294967295))) → ∀ k, k < i + 1 → (f k).testBit q = true → ¬ Cv (Kf D f) 1 (L &&& (f k ^^^ 4294967295)) := fun h k hk => by
      rcases Nat.lt_succ_iff_lt_or_eq.1 hk with e | e
      · exact hI k e
      · rw [e]
        exact h
    rw [f_X3_fewestOver_b12, h1, w32_n (by omega), w32_n (by omega), if_pos (show (i : Int) < (D : Int) by omega), if_pos (show (i : Int) < 576 by omega), ck_t (by omega), leastOf_n hL hq, Option.bind_some, ck_t (by omega), ntn, fi.1, contains_n (by omega) (by omega), Option.bind_some]
    cases hb : (f i).testBit q with
    | false =>
      right
      rw [b01_f rfl]
      exact ⟨(), st (fun h => by rw [hb] at h; cases h), rfl⟩
    | true =>
      obtain ⟨r, e, y⟩ := one_n hF' (and_24 (x := f i ^^^ 4294967295) hL) hD
      rw [b01_t rfl, woE hL fi.2, e, Option.bind_some]
      rcases y with ⟨y1, y2⟩ | ⟨y1, y2⟩
      · left
        rw [y1, if_neg (show ¬ w32 1 = 0 by decide)]
        exact ⟨2, rfl, Or.inr (Or.inl ⟨rfl, n1, Or.inr ⟨f i, ⟨i, hi, rfl⟩, ⟨q, hq, hb⟩, y2⟩⟩)⟩
      · right
        rw [y1, if_pos (show w32 0 = 0 by decide)]
        exact ⟨(), st fun _ => y2, rfl⟩
  · intro n _ hI
    have n2 : ¬ Cv (Kf D f) 2 L := fun h => by
      rcases h with h | ⟨c, ⟨k, k1, k2⟩, ⟨q', t2, t3⟩, t4⟩
      · exact h0 h
      · subst k2
        rw [low1_u t2 hq] at t3
        exact hI k k1 t3 t4
    rw [f_X3_fewestOver_b12, h1, if_neg (show ¬ w32 (D : Int) < w32 (D : Int) by omega)]
    unfold f_X3_fewestOver_b70
    refine loop_P (F := fun n i (_ : Unit) => f_X3_fewestOver_b72 z n (L : Int) i) D (fun i _ => ∀ k, k < i → (f k).testBit q = true → ¬ Cv (Kf D f) 2 (L &&& (f k ^^^ 4294967295))) (P := fun x => ∃ r, x = some r ∧ fwV (Kf D f) L r) (by omega) ?_ ?_ 0 (by omega) () (fun k hk => by omega)
    · intro n i _ hi hI
      have fi := h3 i hi
      have st : ((f i).testBit q = true → ¬ Cv (Kf D f) 2 (L &&& (f i ^^^ 4294967295))) → ∀ k, k < i + 1 → (f k).testBit q = true → ¬ Cv (Kf D f) 2 (L &&& (f k ^^^ 4294967295)) := fun h k hk => by
        rcases Nat.lt_succ_iff_lt_or_eq.1 hk with e | e
        · exact hI k e
        · rw [e]
          exact h
      rw [f_X3_fewestOver_b72, h1, w32_n (by omega), w32_n (by omega), if_pos (show (i : Int) < (D : Int) by omega), if_pos (show (i : Int) < 576 by omega), ck_t (by omega), leastOf_n hL hq, Option.bind_some, ck_t (by omega), ntn, fi.1, contains_n (by omega) (by omega), Option.bind_some]
      cases hb : (f i).testBit q with
      | false =>
        right
        rw [b01_f rfl]
        exact ⟨(), st (fun h => by rw [hb] at h; cases h), rfl⟩
      | true =>
        have hne : L &&& (f i ^^^ 4294967295) ≠ 0 := fun e => n1 ((Cv_1 hL hD).mpr ⟨i, hi, (sub_wo0 hL).mp e⟩)
        obtain ⟨r, e, y⟩ := twoOver_n hF' (and_24 (x := f i ^^^ 4294967295) hL) hD hne
        rw [b01_t rfl, woE hL fi.2, e, Option.bind_some]
        rcases y with ⟨y1, y2⟩ | ⟨y1, y2⟩
        · left
          rw [y1, if_neg (show ¬ w32 1 = 0 by decide)]
          exact ⟨3, rfl, Or.inr (Or.inr (Or.inl ⟨rfl, n2, Or.inr ⟨f i, ⟨i, hi, rfl⟩, ⟨q, hq, hb⟩, y2⟩⟩))⟩
        · right
          rw [y1, if_pos (show w32 0 = 0 by decide)]
          exact ⟨(), st fun _ => y2, rfl⟩
    · intro n _ hI
      rw [f_X3_fewestOver_b72, h1, if_neg (show ¬ w32 (D : Int) < w32 (D : Int) by omega)]
      refine ⟨-2, rfl, Or.inr (Or.inr (Or.inr ⟨rfl, fun h => ?_⟩))⟩
      rcases h with h | ⟨c, ⟨k, k1, k2⟩, ⟨q', t2, t3⟩, t4⟩
      · exact h0 h
      · subst k2
        rw [low1_u t2 hq] at t3
        exact hI k k1 t3 t4
/-- the reference counts on -/
theorem mcov_n {σ : Sg} {C : Nat → Prop} {D L : Nat} {f : Nat → Nat} (hD : DLf σ C D f) (hL : L < 16777216) : ∃ r, f_X10_cover_b36 FUEL (L : Int) 0 σ = some (r, σ) ∧ ((r = 0 ∧ L = 0) ∨ (L ≠ 0 ∧ fwV C L r)) := by
  refine loop_P (F := fun n i (_ : Unit) => f_X10_cover_b36 n (L : Int) i σ) 4 (fun i _ => ∀ k, k < i → ¬ Cv C k L) (P := fun x => ∃ r, x = some (r, σ) ∧ ((r = 0 ∧ L = 0) ∨ (L ≠ 0 ∧ fwV C L r))) (by omega) ?_ ?_ 0 (by omega) () (fun k hk => by omega)
  · intro n i _ hi hI
    obtain ⟨r, e, y⟩ := cov_l3 (n := i) hD (by omega) hL
    rw [f_X10_cover_b36, w32_n (by omega), if_pos (show (i : Int) ≤ 3 by omega), e, Option.bind_some]
    rcases y with ⟨y1, y2⟩ | ⟨y1, y2⟩
    · left
      rw [y1, if_neg (show ¬ w32 1 = 0 by decide)]
      refine ⟨i, rfl, ?_⟩
      rcases (show i = 0 ∨ i = 1 ∨ i = 2 ∨ i = 3 by omega) with rfl | rfl | rfl | rfl
      · exact Or.inl ⟨rfl, y2⟩
      · exact Or.inr ⟨fun e => hI 0 (by omega) e, Or.inl ⟨rfl, y2⟩⟩
      · exact Or.inr ⟨fun e => hI 0 (by omega) e, Or.inr (Or.inl ⟨rfl, hI 1 (by omega), y2⟩)⟩
      · exact Or.inr ⟨fun e => hI 0 (by omega) e, Or.inr (Or.inr (Or.inl ⟨rfl, hI 2 (by omega), y2⟩))⟩
    · right
      rw [y1, if_pos (show w32 0 = 0 by decide)]
      refine ⟨(), fun k hk => ?_, rfl⟩
      rcases Nat.lt_succ_iff_lt_or_eq.1 hk with e | e
      · exact hI k e
      · rw [e]
        exact y2
  · intro n _ hI
    rw [f_X10_cover_b36, if_neg (show ¬ w32 ((4 : Nat) : Int) ≤ 3 by decide)]
    exact ⟨-2, rfl, Or.inr ⟨fun e => hI 0 (by omega) e, Or.inr (Or.inr (Or.inr ⟨rfl, hI 3 (by omega)⟩))⟩⟩
theorem fwV_u {C : Nat → Prop} {L : Nat} {r s : Int} (h : fwV C L r) (k : fwV C L s) : r = s := by
  have u1 : Cv C 1 L → Cv C 2 L := Cv_up 1 L
  have u2 : Cv C 2 L → Cv C 3 L := Cv_up 2 L
  unfold fwV at h k
  by_cases c1 : Cv C 1 L
  · have c2 := u1 c1
    have c3 := u2 c2
    simp only [c1, c2, c3, not_true_eq_false, and_true, and_false, or_false, false_and] at h k
    omega
  · by_cases c2 : Cv C 2 L
    · have c3 := u2 c2
      simp only [c1, c2, c3, not_true_eq_false, not_false_eq_true, and_true, and_false, or_false, false_or, true_and, false_and] at h k
      omega
    · by_cases c3 : Cv C 3 L
      · simp only [c1, c2, c3, not_true_eq_false, not_false_eq_true, and_true, and_false, or_false, false_or, true_and, false_and] at h k
        omega
      · simp only [c1, c2, c3, not_true_eq_false, not_false_eq_true, and_true, and_false, or_false, false_or, true_and, false_and] at h k
        omega
theorem fwV_cg {C K : Nat → Prop} {L : Nat} {r : Int} (h : fwV K L r) (e : ∀ n, Cv K n L ↔ Cv C n L) : fwV C L r := by
  unfold fwV at *
  rw [e 1, e 2, e 3] at h
  exact h
theorem DL.f {σ : Sg} {C : Nat → Prop} (h : DL σ C 576) : ∃ D f, DLf σ C D f := by
  obtain ⟨D, d1, d2_, d3, d4⟩ := h
  have hf : ∀ k, k < D → σ 59 k = (((σ 59 k).toNat : Nat) : Int) ∧ C (σ 59 k).toNat ∧ (σ 59 k).toNat < 16777216 := fun k hk => by
    obtain ⟨c, c1, c2, c3⟩ := d3 k hk
    rw [c1, ntn]
    exact ⟨rfl, c2, c3⟩
  refine ⟨D, fun k => (σ 59 k).toNat, d1, d2_, hf, fun c hc => ?_⟩
  obtain ⟨k, k1, k2⟩ := d4 c hc
  exact ⟨k, k1, by show (σ 59 k).toNat = c; rw [k2, ntn]⟩
theorem Cnd_one {X Y : Nat → Int} {R : Int} {S q : Nat} (hS : S < 16777216) (hq : S.testBit q = true) : Cnd X Y R S 25 (arS X Y R S q) := ⟨q, by have := bit_lt hS hq; omega, hq, Or.inl rfl⟩
theorem Eq_cover_n : Eq_cover Rl := by
  intro n σd σm a1 a2 hn hR ha1 ha2
  obtain ⟨F, N, h⟩ := hR
  have h : Rn n σd σm F N := h
  have h1 := h.m0
  have hs := h.ask (z' := σd) (ζ' := up σm 41 0 0) SD.rf ss0
  unfold f_X9_cover f_X10_cover wr
  dsimp only
  generalize up σm 41 0 0 = ζ at *
  rw [dArePerils_n ha1, Option.bind_some, mArePerils_n ha1, Option.bind_some]
  by_cases c1 : 1 ≤ a1 ∧ a1 ≤ 15
  · rw [c01_t c1, c01_t c1, dIsRadius_n ha2, Option.bind_some, mIsRadius_n ha2, Option.bind_some]
    by_cases c2 : 1 ≤ a2 ∧ a2 ≤ 300
    · rw [c01_t c2, c01_t c2]
      obtain ⟨T, hTe⟩ : ∃ T : Nat, a1 = (T : Int) := ⟨a1.toNat, by omega⟩
      subst hTe
      have hB := h1.1
      rw [dOfPerils_n hB (by omega), Option.bind_some, ofPerils_n (by omega) (MRow.of hB), Option.bind_some]
      have hsF : ∀ q, (prS (ζ 49) (ζ 48) T).testBit q = true → F.testBit q = true := fun q hq => prS_F hB hq
      have hSl := sub_24 hB.1.2.1 hsF
      generalize prS (ζ 49) (ζ 48) T = S at *
      obtain ⟨ζ1, g1, g2, g3⟩ := findsDiscs_n hB hsF c2
      obtain ⟨D2, f2, hDf⟩ := g3.f
      obtain ⟨r2, e2, y2⟩ := mcov_n hDf hSl
      rw [g1, Option.bind_some, e2, w32_n (by omega)]
      by_cases c0 : S = 0
      · rw [if_pos (show (S : Int) = 0 by omega)]
        have hr : r2 = 0 := by
          rcases y2 with ⟨y, -⟩ | ⟨y, -⟩
          · exact y
          · exact absurd c0 y
        subst hr
        exact ⟨_, _, rfl, rfl, rfl, h1.ask (z' := σd) (ζ' := ζ1) SD.rf g2.ss⟩
      · rw [if_neg (show ¬ (S : Int) = 0 by omega)]
        obtain ⟨z1, z2, D, f, e1, e3, hB2, sd, r9, hF, m1, m2⟩ := family_n hB hsF c2
        have hD0 : 0 < D := by
          obtain ⟨q, hq⟩ := ex_bit c0
          obtain ⟨k, k1, -⟩ := m2 _ (Cnd_one hSl hq)
          omega
        obtain ⟨r, e4, y⟩ := fewOver_n hF hSl hD0 c0
        have y3 : fwV (Cnd (ζ 45) (ζ 46) a2 S 25) S r := fwV_cg y fun n => Cv_CK (fun k ⟨j, j1, j2⟩ => by rw [← j2]; exact m1 j j1) (fun c hc => by
          obtain ⟨k, k1, k2⟩ := m2 c hc
          exact ⟨f k, ⟨k, k1, rfl⟩, k2⟩) hSl
        have hr : r = r2 := by
          rcases y2 with ⟨-, y⟩ | ⟨-, y⟩
          · exact absurd y c0
          · exact fwV_u y3 y
        subst hr
        rw [e1, Option.bind_some, e3, Option.bind_some, e4, Option.bind_some]
        exact ⟨_, _, rfl, rfl, rfl, h1.ask (z' := z2) (ζ' := ζ1) sd g2.ss⟩
    · rw [c01_f c2, c01_f c2]
      exact ⟨_, _, rfl, rfl, rfl, hs⟩
  · rw [c01_f c1, c01_f c1]
    exact ⟨_, _, rfl, rfl, rfl, hs⟩
