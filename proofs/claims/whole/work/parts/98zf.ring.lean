/-! ===== pure level: ring, corners and turns ===== -/
def XYz (z : Sg) (X Y : Nat → Int) : Prop := ∀ q, q < 24 → z 7 q = X q ∧ z 8 q = Y q
def PlA (X Y : Nat → Int) : Prop := ∀ q, q < 24 → Pl X Y q
theorem cI_bd {X Y : Nat → Int} {a b c : Nat} (ha : Pl X Y a) (hb : Pl X Y b) (hc : Pl X Y c) : -178802 ≤ cI X Y a b c ∧ cI X Y a b c ≤ 178802 := by
  obtain ⟨h1, h2⟩ := pl_d hb ha
  obtain ⟨h3, h4⟩ := pl_d hc ha
  have m1 := mul_bd h1 h3
  have m2 := mul_bd h2 h4
  unfold cI
  omega
theorem tI_bd {X Y : Nat → Int} {a b c : Nat} (ha : Pl X Y a) (hb : Pl X Y b) (hc : Pl X Y c) : -178802 ≤ tI X Y a b c ∧ tI X Y a b c ≤ 178802 := by
  obtain ⟨h1, h2⟩ := pl_d hb ha
  obtain ⟨h3, h4⟩ := pl_d hc ha
  have m1 := mul_bd h1 h4
  have m2 := mul_bd h2 h3
  unfold tI
  omega
theorem lI_bd {X Y : Nat → Int} {a b c p : Nat} (ha : Pl X Y a) (hb : Pl X Y b) (hc : Pl X Y c) (hp : Pl X Y p) : -(3 * (178802 * 178802)) ≤ lI X Y a b c p ∧ lI X Y a b c p ≤ 3 * (178802 * 178802) := by
  have d1 := d2_bd ha hp
  have d3 := d2_bd hb hp
  have d4 := d2_bd hc hp
  have m1 := mul_bd (x := d2 X Y a p) (y := tI X Y p b c) (A := 178802) (B := 178802) ⟨by omega, by omega⟩ (tI_bd hp hb hc)
  have m2 := mul_bd (x := d2 X Y b p) (y := tI X Y p c a) (A := 178802) (B := 178802) ⟨by omega, by omega⟩ (tI_bd hp hc ha)
  have m3 := mul_bd (x := d2 X Y c p) (y := tI X Y p a b) (A := 178802) (B := 178802) ⟨by omega, by omega⟩ (tI_bd hp ha hb)
  unfold lI
  omega
theorem dCorner_n {z : Sg} {X Y : Nat → Int} {p a b : Nat} (h : XYz z X Y) (hp : p < 24) (ha : a < 24) (hb : b < 24) : f_X1_corner (p : Int) (a : Int) (b : Int) z = some (cI X Y p a b) := by
  unfold f_X1_corner
  rw [xOf_n ha, Option.bind_some, xOf_n hp, Option.bind_some, xOf_n hb, Option.bind_some, Option.bind_some, yOf_n ha, Option.bind_some, yOf_n hp, Option.bind_some, yOf_n hb, Option.bind_some, Option.bind_some, (h p hp).1, (h p hp).2, (h a ha).1, (h a ha).2, (h b hb).1, (h b hb).2]
  rfl
theorem dTurn_n {z : Sg} {X Y : Nat → Int} {a b c : Nat} (h : XYz z X Y) (hP : PlA X Y) (ha : a < 24) (hb : b < 24) (hc : c < 24) : f_X1_turn (a : Int) (b : Int) (c : Int) z = some (tI X Y a b c) := by
  obtain ⟨h1, h2⟩ := pl_d (hP b hb) (hP a ha)
  obtain ⟨h3, h4⟩ := pl_d (hP c hc) (hP a ha)
  unfold f_X1_turn
  rw [xOf_n hb, Option.bind_some, xOf_n ha, Option.bind_some, yOf_n hc, Option.bind_some, yOf_n ha, Option.bind_some, yOf_n hb, Option.bind_some, Option.bind_some, xOf_n hc, Option.bind_some, Option.bind_some, (h a ha).1, (h a ha).2, (h b hb).1, (h b hb).2, (h c hc).1, (h c hc).2, w32_eq (z := X b - X a) ⟨by omega, by omega⟩, w32_eq (z := Y c - Y a) ⟨by omega, by omega⟩, w32_eq (z := Y b - Y a) ⟨by omega, by omega⟩, w32_eq (z := X c - X a) ⟨by omega, by omega⟩]
  rfl
theorem dBetween_n {z : Sg} {X Y : Nat → Int} {a b : Nat} (h : XYz z X Y) (ha : a < 24) (hb : b < 24) : f_X0_between (a : Int) (b : Int) z = some (d2 X Y a b) := by
  rw [between_n ha hb]
  unfold d2
  rw [(h a ha).1, (h a ha).2, (h b hb).1, (h b hb).2]
theorem mTurn_n {ζ : Sg} {a b c : Nat} (hP : PlA (ζ 45) (ζ 46)) (ha : a < 24) (hb : b < 24) (hc : c < 24) : f_X10_turn (a : Int) (b : Int) (c : Int) ζ = some (tI (ζ 45) (ζ 46) a b c) := by
  obtain ⟨h1, h2⟩ := pl_d (hP b hb) (hP a ha)
  obtain ⟨h3, h4⟩ := pl_d (hP c hc) (hP a ha)
  unfold f_X10_turn
  rw [ck_t (by omega), ck_t (by omega), ck_t (by omega), ck_t (by omega), ck_t (by omega), ck_t (by omega), ck_t (by omega), ck_t (by omega), ntn, ntn, ntn, w32_eq (z := ζ 45 b - ζ 45 a) ⟨by omega, by omega⟩, w32_eq (z := ζ 46 c - ζ 46 a) ⟨by omega, by omega⟩, w32_eq (z := ζ 46 b - ζ 46 a) ⟨by omega, by omega⟩, w32_eq (z := ζ 45 c - ζ 45 a) ⟨by omega, by omega⟩]
  rfl
abbrev SHp (X Y : Nat → Int) (a b c : Nat) : Prop := tI X Y a b c ≠ 0 ∧ 0 < cI X Y a b c ∧ 0 < cI X Y b c a ∧ 0 < cI X Y c a b
theorem dSharp_n {z : Sg} {X Y : Nat → Int} {a b c : Nat} (h : XYz z X Y) (hP : PlA X Y) (ha : a < 24) (hb : b < 24) (hc : c < 24) : f_X1_isSharp (a : Int) (b : Int) (c : Int) z = some (if SHp X Y a b c then 1 else 0) := by
  have t0 := tI_bd (hP a ha) (hP b hb) (hP c hc)
  have c1 := cI_bd (hP a ha) (hP b hb) (hP c hc)
  have c2 := cI_bd (hP b hb) (hP c hc) (hP a ha)
  have c3 := cI_bd (hP c hc) (hP a ha) (hP b hb)
  unfold f_X1_isSharp
  rw [dTurn_n h hP ha hb hc, Option.bind_some, dCorner_n h ha hb hc, Option.bind_some, dCorner_n h hb hc ha, Option.bind_some, dCorner_n h hc ha hb, Option.bind_some, w64_eq (z := tI X Y a b c) ⟨by omega, by omega⟩, w32_eq (z := cI X Y a b c) ⟨by omega, by omega⟩, w32_eq (z := cI X Y b c a) ⟨by omega, by omega⟩, w32_eq (z := cI X Y c a b) ⟨by omega, by omega⟩]
  by_cases k0 : tI X Y a b c = 0
  · rw [if_pos k0, if_neg (fun q => q.1 k0)]
  · rw [if_neg k0]
    by_cases k1 : cI X Y a b c ≤ 0
    · rw [if_pos k1, if_neg (fun q => by have := q.2.1; omega)]
    · rw [if_neg k1]
      by_cases k2 : cI X Y b c a ≤ 0
      · rw [if_pos k2, if_neg (fun q => by have := q.2.2.1; omega)]
      · rw [if_neg k2]
        by_cases k3 : cI X Y c a b ≤ 0
        · rw [if_pos k3, if_neg (fun q => by have := q.2.2.2; omega)]
        · rw [if_neg k3, if_pos ⟨k0, by omega, by omega, by omega⟩]
theorem mSharp_n {ζ : Sg} {a b c : Nat} (hP : PlA (ζ 45) (ζ 46)) (ha : a < 24) (hb : b < 24) (hc : c < 24) : f_X10_isSharp (a : Int) (b : Int) (c : Int) ζ = some (if SHp (ζ 45) (ζ 46) a b c then 1 else 0) := by
  have t0 := tI_bd (hP a ha) (hP b hb) (hP c hc)
  have d1 := d2_bd (hP a ha) (hP b hb)
  have d3 := d2_bd (hP b hb) (hP c hc)
  have d4 := d2_bd (hP c hc) (hP a ha)
  have e1 : d2 (ζ 45) (ζ 46) a b + d2 (ζ 45) (ζ 46) c a - d2 (ζ 45) (ζ 46) b c = 2 * cI (ζ 45) (ζ 46) a b c := by unfold d2 cI; grind
  have e2 : d2 (ζ 45) (ζ 46) a b + d2 (ζ 45) (ζ 46) b c - d2 (ζ 45) (ζ 46) c a = 2 * cI (ζ 45) (ζ 46) b c a := by unfold d2 cI; grind
  have e3 : d2 (ζ 45) (ζ 46) b c + d2 (ζ 45) (ζ 46) c a - d2 (ζ 45) (ζ 46) a b = 2 * cI (ζ 45) (ζ 46) c a b := by unfold d2 cI; grind
  unfold f_X10_isSharp
  rw [dist_n (by omega) (by omega), Option.bind_some, dist_n (by omega) (by omega), Option.bind_some, dist_n (by omega) (by omega), Option.bind_some, mTurn_n hP ha hb hc, Option.bind_some, w64_eq (z := tI (ζ 45) (ζ 46) a b c) ⟨by omega, by omega⟩]
  unfold SHp
  generalize d2 (ζ 45) (ζ 46) a b = x1 at *
  generalize d2 (ζ 45) (ζ 46) b c = x2 at *
  generalize d2 (ζ 45) (ζ 46) c a = x3 at *
  generalize tI (ζ 45) (ζ 46) a b c = t at *
  generalize cI (ζ 45) (ζ 46) a b c = y1 at *
  generalize cI (ζ 45) (ζ 46) b c a = y2 at *
  generalize cI (ζ 45) (ζ 46) c a b = y3 at *
  rw [w32_eq (z := x1) ⟨by omega, by omega⟩, w32_eq (z := x2) ⟨by omega, by omega⟩, w32_eq (z := x3) ⟨by omega, by omega⟩, w32_eq (z := x2 + x3) ⟨by omega, by omega⟩, w32_eq (z := x1 + x3) ⟨by omega, by omega⟩, w32_eq (z := x1 + x2) ⟨by omega, by omega⟩]
  by_cases k1 : x1 < x2 + x3
  · rw [if_pos k1]
    by_cases k2 : x2 < x1 + x3
    · rw [if_pos k2]
      by_cases k3 : x3 < x1 + x2
      · rw [if_pos k3]
        by_cases k0 : t = 0
        · rw [if_pos k0, if_neg (fun q => q.1 k0)]
        · rw [if_neg k0, if_pos ⟨k0, by omega, by omega, by omega⟩]
      · rw [if_neg k3, if_neg (fun q => by have := q.2.2.1; omega)]
    · rw [if_neg k2, if_neg (fun q => by have := q.2.1; omega)]
  · rw [if_neg k1, if_neg (fun q => by have := q.2.2.2; omega)]
/-- all of a set lie in the circle through three -/
abbrev ARp (X Y : Nat → Int) (o a b c : Nat) : Prop := ∀ q, o.testBit q = true → 0 ≤ tI X Y a b c * lI X Y a b c q
theorem tl_pos {t l : Int} (h : 0 < t) : 0 ≤ t * l ↔ 0 ≤ l := by
  constructor
  · intro k
    refine Classical.byContradiction fun hn => ?_
    have := Int.mul_pos h (show 0 < -l by omega)
    rw [Int.mul_neg] at this
    omega
  · intro k
    exact Int.mul_nonneg (by omega) k
theorem tl_neg {t l : Int} (h : t < 0) : 0 ≤ t * l ↔ l ≤ 0 := by
  have := tl_pos (t := -t) (l := -l) (by omega)
  rw [Int.neg_mul_neg] at this
  rw [this]
  omega
theorem dAround_n {z : Sg} {X Y : Nat → Int} {a b c o : Nat} (h : XYz z X Y) (hP : PlA X Y) (ha : a < 24) (hb : b < 24) (hc : c < 24) (ho : o < 16777216) (ht : tI X Y a b c ≠ 0) : ∃ r, f_X1_isAround (a : Int) (b : Int) (c : Int) (o : Int) z = some r ∧ yn r (ARp X Y o a b c) := by
  have t0 := tI_bd (hP a ha) (hP b hb) (hP c hc)
  unfold f_X1_isAround
  rw [dTurn_n h hP ha hb hc, Option.bind_some]
  refine loop_P (F := fun n i (_ : Unit) => f_X1_isAround_b12 z n (a : Int) (b : Int) (c : Int) (o : Int) (tI X Y a b c) i) 24 (fun i _ => ∀ q, q < i → o.testBit q = true → 0 ≤ tI X Y a b c * lI X Y a b c q) (P := fun x => ∃ r, x = some r ∧ yn r (ARp X Y o a b c)) (by decide) ?_ ?_ 0 (by decide) () (fun q hq => by omega)
  · intro n i _ hi hI
    have st : (o.testBit i = true → 0 ≤ tI X Y a b c * lI X Y a b c i) → ∀ q, q < i + 1 → o.testBit q = true → 0 ≤ tI X Y a b c * lI X Y a b c q := fun k q hq => by
      rcases Nat.lt_succ_iff_lt_or_eq.1 hq with e | e
      · exact hI q e
      · rw [e]
        exact k
    rw [f_X1_isAround_b12, w32_n (by omega), if_pos (show (i : Int) < 24 by omega), contains_n (by omega) (by omega), Option.bind_some]
    cases hbit : o.testBit i with
    | false =>
      right
      rw [b01_f rfl]
      exact ⟨(), st (fun k => by rw [hbit] at k; cases k), rfl⟩
    | true =>
      have l0 := lI_bd (hP a ha) (hP b hb) (hP c hc) (hP i hi)
      have d1 := d2_bd (hP a ha) (hP i hi)
      have d3 := d2_bd (hP b hb) (hP i hi)
      have d4 := d2_bd (hP c hc) (hP i hi)
      rw [b01_t rfl, dBetween_n h ha hi, Option.bind_some, dTurn_n h hP hi hb hc, Option.bind_some, dBetween_n h hb hi, Option.bind_some, dTurn_n h hP hi hc ha, Option.bind_some, dBetween_n h hc hi, Option.bind_some, dTurn_n h hP hi ha hb, Option.bind_some, w32_eq (z := d2 X Y a i) ⟨by omega, by omega⟩, w32_eq (z := d2 X Y b i) ⟨by omega, by omega⟩, w32_eq (z := d2 X Y c i) ⟨by omega, by omega⟩, w64_eq (z := tI X Y a b c) ⟨by omega, by omega⟩]
      have el : d2 X Y a i * tI X Y i b c + d2 X Y b i * tI X Y i c a + d2 X Y c i * tI X Y i a b = lI X Y a b c i := rfl
      rw [el, w64_eq (z := lI X Y a b c i) ⟨by omega, by omega⟩]
      by_cases k0 : tI X Y a b c ≤ 0
      · have tn := tl_neg (t := tI X Y a b c) (l := lI X Y a b c i) (by omega)
        rw [if_pos k0]
        by_cases k1 : lI X Y a b c i ≤ 0
        · right
          rw [if_pos k1]
          exact ⟨(), st (fun _ => tn.mpr k1), rfl⟩
        · left
          rw [if_neg k1]
          exact ⟨0, rfl, Or.inr ⟨rfl, fun k => k1 (tn.mp (k i hbit))⟩⟩
      · have tp := tl_pos (t := tI X Y a b c) (l := lI X Y a b c i) (by omega)
        rw [if_neg k0]
        by_cases k1 : lI X Y a b c i < 0
        · left
          rw [if_pos k1]
          exact ⟨0, rfl, Or.inr ⟨rfl, fun k => by have := tp.mp (k i hbit); omega⟩⟩
        · right
          rw [if_neg k1]
          exact ⟨(), st (fun _ => tp.mpr (by omega)), rfl⟩
  · intro n _ hI
    rw [f_X1_isAround_b12, w32_n (by decide), if_neg (show ¬ ((24 : Nat) : Int) < 24 by decide)]
    exact ⟨1, rfl, Or.inl ⟨rfl, fun q hq => hI q (bit_lt ho hq) hq⟩⟩
theorem mWithin_n {ζ : Sg} {a b c i : Nat} (hP : PlA (ζ 45) (ζ 46)) (ha : a < 24) (hb : b < 24) (hc : c < 24) (hi : i < 24) (ht : tI (ζ 45) (ζ 46) a b c ≠ 0) : ∃ r, f_X10_isWithin (a : Int) (b : Int) (c : Int) (i : Int) ζ = some r ∧ yn r (0 ≤ tI (ζ 45) (ζ 46) a b c * lI (ζ 45) (ζ 46) a b c i) := by
  have t0 := tI_bd (hP a ha) (hP b hb) (hP c hc)
  have l0 := lI_bd (hP a ha) (hP b hb) (hP c hc) (hP i hi)
  obtain ⟨h1, h2⟩ := pl_d (hP a ha) (hP i hi)
  obtain ⟨h3, h4⟩ := pl_d (hP b hb) (hP i hi)
  obtain ⟨h5, h6⟩ := pl_d (hP c hc) (hP i hi)
  have ka : 0 ≤ ((a : Nat) : Int) ∧ ((a : Nat) : Int) < 25 := by omega
  have kb : 0 ≤ ((b : Nat) : Int) ∧ ((b : Nat) : Int) < 25 := by omega
  have kc : 0 ≤ ((c : Nat) : Int) ∧ ((c : Nat) : Int) < 25 := by omega
  have ki : 0 ≤ ((i : Nat) : Int) ∧ ((i : Nat) : Int) < 25 := by omega
  unfold f_X10_isWithin
  rw [ck_t ka, ck_t ki, ck_t ka, ck_t ki, ck_t kb, ck_t ki, ck_t kb, ck_t ki, ck_t kc, ck_t ki, ck_t kc, ck_t ki, mTurn_n hP ha hb hc, Option.bind_some, ntn, ntn, ntn, ntn, w64_eq (z := tI (ζ 45) (ζ 46) a b c) ⟨by omega, by omega⟩, w32_eq (z := ζ 45 a - ζ 45 i) ⟨by omega, by omega⟩, w32_eq (z := ζ 46 a - ζ 46 i) ⟨by omega, by omega⟩, w32_eq (z := ζ 45 b - ζ 45 i) ⟨by omega, by omega⟩, w32_eq (z := ζ 46 b - ζ 46 i) ⟨by omega, by omega⟩, w32_eq (z := ζ 45 c - ζ 45 i) ⟨by omega, by omega⟩, w32_eq (z := ζ 46 c - ζ 46 i) ⟨by omega, by omega⟩]
  have el : ((ζ 45 a - ζ 45 i) * (ζ 45 a - ζ 45 i) + (ζ 46 a - ζ 46 i) * (ζ 46 a - ζ 46 i)) * ((ζ 45 b - ζ 45 i) * (ζ 46 c - ζ 46 i) - (ζ 46 b - ζ 46 i) * (ζ 45 c - ζ 45 i)) - ((ζ 45 b - ζ 45 i) * (ζ 45 b - ζ 45 i) + (ζ 46 b - ζ 46 i) * (ζ 46 b - ζ 46 i)) * ((ζ 45 a - ζ 45 i) * (ζ 46 c - ζ 46 i) - (ζ 46 a - ζ 46 i) * (ζ 45 c - ζ 45 i)) + ((ζ 45 c - ζ 45 i) * (ζ 45 c - ζ 45 i) + (ζ 46 c - ζ 46 i) * (ζ 46 c - ζ 46 i)) * ((ζ 45 a - ζ 45 i) * (ζ 46 b - ζ 46 i) - (ζ 46 a - ζ 46 i) * (ζ 45 b - ζ 45 i)) = lI (ζ 45) (ζ 46) a b c i := by
    unfold lI d2 tI
    generalize ζ 45 a - ζ 45 i = xa at *
    generalize ζ 46 a - ζ 46 i = ya at *
    generalize ζ 45 b - ζ 45 i = xb at *
    generalize ζ 46 b - ζ 46 i = yb at *
    generalize ζ 45 c - ζ 45 i = xc at *
    generalize ζ 46 c - ζ 46 i = yc at *
    clear t0 l0 h1 h2 h3 h4 h5 h6 ht ka kb kc ki
    grind
  rw [el, w64_eq (z := lI (ζ 45) (ζ 46) a b c i) ⟨by omega, by omega⟩]
  by_cases k0 : tI (ζ 45) (ζ 46) a b c ≤ 0
  · have tn := tl_neg (t := tI (ζ 45) (ζ 46) a b c) (l := lI (ζ 45) (ζ 46) a b c i) (by omega)
    rw [if_pos k0]
    by_cases k1 : lI (ζ 45) (ζ 46) a b c i ≤ 0
    · rw [if_pos k1]
      exact ⟨1, rfl, Or.inl ⟨rfl, tn.mpr k1⟩⟩
    · rw [if_neg k1]
      exact ⟨0, rfl, Or.inr ⟨rfl, fun k => k1 (tn.mp k)⟩⟩
  · have tp := tl_pos (t := tI (ζ 45) (ζ 46) a b c) (l := lI (ζ 45) (ζ 46) a b c i) (by omega)
    rw [if_neg k0]
    by_cases k1 : lI (ζ 45) (ζ 46) a b c i < 0
    · rw [if_pos k1]
      exact ⟨0, rfl, Or.inr ⟨rfl, fun k => by have := tp.mp k; omega⟩⟩
    · rw [if_neg k1]
      exact ⟨1, rfl, Or.inl ⟨rfl, tp.mpr (by omega)⟩⟩
theorem mCircle_n {ζ : Sg} {a b c o : Nat} (hP : PlA (ζ 45) (ζ 46)) (ha : a < 24) (hb : b < 24) (hc : c < 24) (ho : o < 16777216) (ht : tI (ζ 45) (ζ 46) a b c ≠ 0) : ∃ r, f_X10_isCircle (o : Int) (a : Int) (b : Int) (c : Int) ζ = some r ∧ yn r (ARp (ζ 45) (ζ 46) o a b c) := by
  unfold f_X10_isCircle
  refine loop_P (F := fun n i (_ : Unit) => f_X10_isCircle_b3 ζ n (o : Int) (a : Int) (b : Int) (c : Int) i) 24 (fun i _ => ∀ q, q < i → o.testBit q = true → 0 ≤ tI (ζ 45) (ζ 46) a b c * lI (ζ 45) (ζ 46) a b c q) (P := fun x => ∃ r, x = some r ∧ yn r (ARp (ζ 45) (ζ 46) o a b c)) (by decide) ?_ ?_ 0 (by decide) () (fun q hq => by omega)
  · intro n i _ hi hI
    have st : (o.testBit i = true → 0 ≤ tI (ζ 45) (ζ 46) a b c * lI (ζ 45) (ζ 46) a b c i) → ∀ q, q < i + 1 → o.testBit q = true → 0 ≤ tI (ζ 45) (ζ 46) a b c * lI (ζ 45) (ζ 46) a b c q := fun k q hq => by
      rcases Nat.lt_succ_iff_lt_or_eq.1 hq with e | e
      · exact hI q e
      · rw [e]
        exact k
    rw [f_X10_isCircle_b3, w32_n (by omega), if_pos (show (i : Int) < 24 by omega), has_n (by omega) (by omega), Option.bind_some]
    cases hbit : o.testBit i with
    | false =>
      right
      rw [b01_f rfl]
      exact ⟨(), st (fun k => by rw [hbit] at k; cases k), rfl⟩
    | true =>
      obtain ⟨r, e, y⟩ := mWithin_n hP ha hb hc hi ht
      rw [b01_t rfl, e, Option.bind_some]
      rcases y with ⟨y1, y2⟩ | ⟨y1, y2⟩
      · right
        rw [y1, if_neg (show ¬ w32 1 = 0 by decide)]
        exact ⟨(), st (fun _ => y2), rfl⟩
      · left
        rw [y1, if_pos (show w32 0 = 0 by decide)]
        exact ⟨0, rfl, Or.inr ⟨rfl, fun k => y2 (k i hbit)⟩⟩
  · intro n _ hI
    rw [f_X10_isCircle_b3, w32_n (by decide), if_neg (show ¬ ((24 : Nat) : Int) < 24 by decide)]
    exact ⟨1, rfl, Or.inl ⟨rfl, fun q hq => hI q (bit_lt ho hq) hq⟩⟩
/-- all of a set see two at a right angle, or a blunter one -/
abbrev DMp (X Y : Nat → Int) (o a b : Nat) : Prop := ∀ q, o.testBit q = true → cI X Y q a b ≤ 0
theorem dDiam_n {z : Sg} {X Y : Nat → Int} {a b o : Nat} (h : XYz z X Y) (hP : PlA X Y) (ha : a < 24) (hb : b < 24) (ho : o < 16777216) : ∃ r, f_X1_isDiameter (a : Int) (b : Int) (o : Int) z = some r ∧ yn r (DMp X Y o a b) := by
  unfold f_X1_isDiameter
  refine loop_P (F := fun n i (_ : Unit) => f_X1_isDiameter_b3 z n (a : Int) (b : Int) (o : Int) i) 24 (fun i _ => ∀ q, q < i → o.testBit q = true → cI X Y q a b ≤ 0) (P := fun x => ∃ r, x = some r ∧ yn r (DMp X Y o a b)) (by decide) ?_ ?_ 0 (by decide) () (fun q hq => by omega)
  · intro n i _ hi hI
    have st : (o.testBit i = true → cI X Y i a b ≤ 0) → ∀ q, q < i + 1 → o.testBit q = true → cI X Y q a b ≤ 0 := fun k q hq => by
      rcases Nat.lt_succ_iff_lt_or_eq.1 hq with e | e
      · exact hI q e
      · rw [e]
        exact k
    rw [f_X1_isDiameter_b3, w32_n (by omega), if_pos (show (i : Int) < 24 by omega), contains_n (by omega) (by omega), Option.bind_some]
    cases hbit : o.testBit i with
    | false =>
      right
      rw [b01_f rfl]
      exact ⟨(), st (fun k => by rw [hbit] at k; cases k), rfl⟩
    | true =>
      have c0 := cI_bd (hP i hi) (hP a ha) (hP b hb)
      rw [b01_t rfl, dCorner_n h hi ha hb, Option.bind_some, w32_eq (z := cI X Y i a b) ⟨by omega, by omega⟩]
      by_cases k1 : cI X Y i a b ≤ 0
      · right
        rw [if_pos k1]
        exact ⟨(), st (fun _ => k1), rfl⟩
      · left
        rw [if_neg k1]
        exact ⟨0, rfl, Or.inr ⟨rfl, fun k => k1 (k i hbit)⟩⟩
  · intro n _ hI
    rw [f_X1_isDiameter_b3, w32_n (by decide), if_neg (show ¬ ((24 : Nat) : Int) < 24 by decide)]
    exact ⟨1, rfl, Or.inl ⟨rfl, fun q hq => hI q (bit_lt ho hq) hq⟩⟩
theorem mWidth_n {ζ : Sg} {a b o : Nat} (hP : PlA (ζ 45) (ζ 46)) (ha : a < 24) (hb : b < 24) (ho : o < 16777216) : ∃ r, f_X10_isWidth (o : Int) (a : Int) (b : Int) ζ = some r ∧ yn r (DMp (ζ 45) (ζ 46) o a b) := by
  have ka : 0 ≤ ((a : Nat) : Int) ∧ ((a : Nat) : Int) < 25 := by omega
  have kb : 0 ≤ ((b : Nat) : Int) ∧ ((b : Nat) : Int) < 25 := by omega
  unfold f_X10_isWidth
  refine loop_P (F := fun n i (_ : Unit) => f_X10_isWidth_b3 ζ n (o : Int) (a : Int) (b : Int) i) 24 (fun i _ => ∀ q, q < i → o.testBit q = true → cI (ζ 45) (ζ 46) q a b ≤ 0) (P := fun x => ∃ r, x = some r ∧ yn r (DMp (ζ 45) (ζ 46) o a b)) (by decide) ?_ ?_ 0 (by decide) () (fun q hq => by omega)
  · intro n i _ hi hI
    have st : (o.testBit i = true → cI (ζ 45) (ζ 46) i a b ≤ 0) → ∀ q, q < i + 1 → o.testBit q = true → cI (ζ 45) (ζ 46) q a b ≤ 0 := fun k q hq => by
      rcases Nat.lt_succ_iff_lt_or_eq.1 hq with e | e
      · exact hI q e
      · rw [e]
        exact k
    rw [f_X10_isWidth_b3, w32_n (by omega), if_pos (show (i : Int) < 24 by omega), has_n (by omega) (by omega), Option.bind_some]
    cases hbit : o.testBit i with
    | false =>
      right
      rw [b01_f rfl]
      exact ⟨(), st (fun k => by rw [hbit] at k; cases k), rfl⟩
    | true =>
      have ki : 0 ≤ ((i : Nat) : Int) ∧ ((i : Nat) : Int) < 25 := by omega
      have c0 := cI_bd (hP i hi) (hP a ha) (hP b hb)
      have e : (ζ 45 i - ζ 45 a) * (ζ 45 i - ζ 45 b) + (ζ 46 i - ζ 46 a) * (ζ 46 i - ζ 46 b) = cI (ζ 45) (ζ 46) i a b := by unfold cI; grind
      rw [b01_t rfl, ck_t ki, ck_t ka, ck_t ki, ck_t kb, ck_t ki, ck_t ka, ck_t ki, ck_t kb, ntn, ntn, ntn, e, w32_eq (z := cI (ζ 45) (ζ 46) i a b) ⟨by omega, by omega⟩]
      by_cases k1 : cI (ζ 45) (ζ 46) i a b ≤ 0
      · right
        rw [if_pos k1]
        exact ⟨(), st (fun _ => k1), rfl⟩
      · left
        rw [if_neg k1]
        exact ⟨0, rfl, Or.inr ⟨rfl, fun k => k1 (k i hbit)⟩⟩
  · intro n _ hI
    rw [f_X10_isWidth_b3, w32_n (by decide), if_neg (show ¬ ((24 : Nat) : Int) < 24 by decide)]
    exact ⟨1, rfl, Or.inl ⟨rfl, fun q hq => hI q (bit_lt ho hq) hq⟩⟩
