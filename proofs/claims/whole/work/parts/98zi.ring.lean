/-! ===== pure level: ring ===== -/
abbrev One (X Y : Nat → Int) (o : Nat) : Prop := ∀ i j, o.testBit i = true → o.testBit j = true → d2 X Y i j = 0
theorem d2_zz {X Y : Nat → Int} {i j : Nat} : d2 X Y i j = 0 ↔ X i = X j ∧ Y i = Y j := by
  constructor
  · intro h
    unfold d2 at h
    have h1 := sq_nn (X i - X j)
    have h2 := sq_nn (Y i - Y j)
    have z1 := (Int.mul_eq_zero.mp (show (X i - X j) * (X i - X j) = 0 by omega)).elim id id
    have z2 := (Int.mul_eq_zero.mp (show (Y i - Y j) * (Y i - Y j) = 0 by omega)).elim id id
    exact ⟨by omega, by omega⟩
  · rintro ⟨h1, h2⟩
    unfold d2
    rw [h1, h2]
    simp
theorem one_of {X Y : Nat → Int} {o i : Nat} (h : ∀ q, o.testBit q = true → d2 X Y i q = 0) : One X Y o := fun a b ha hb => by
  have h1 := d2_zz.mp (h a ha)
  have h2 := d2_zz.mp (h b hb)
  exact d2_zz.mpr ⟨by omega, by omega⟩
theorem point_n {z : Sg} {F o : Nat} {X Y : Nat → Int} (hF : z 6 5 = (F : Int)) (hFl : F < 16777216) (hX : XYz z X Y) (hP : PlA X Y) (hoF : SubN o F) (ho0 : o ≠ 0) (h3 : z 20 3 = -1) :
    (One X Y o ∧ ∃ p z', low1 o p ∧ f_X1_isPoint (o : Int) z = some (1, z') ∧ Fr20 z z' ∧ C20 z' 0 1 p (z 20 4) (z 20 5)) ∨ (¬ One X Y o ∧ f_X1_isPoint (o : Int) z = some (0, z)) := by
  have ho := sub_24 hFl hoF
  unfold f_X1_isPoint
  refine loop_P (F := fun n i (u : Sg) => f_X1_isPoint_b2 n (o : Int) i u) 24 (fun i u => ((∀ q, q < i → o.testBit q = false) ∧ u = z) ∨ (One X Y o ∧ ∃ p, low1 o p ∧ p < i ∧ u = up z 20 3 p)) (P := fun x => (One X Y o ∧ ∃ p z', low1 o p ∧ x = some (1, z') ∧ Fr20 z z' ∧ C20 z' 0 1 p (z 20 4) (z 20 5)) ∨ (¬ One X Y o ∧ x = some (0, z))) (by decide) ?_ ?_ 0 (by decide) z (Or.inl ⟨fun q hq => by omega, rfl⟩)
  · intro n i u hi hI
    have fu : Fr20 z u := by
      rcases hI with ⟨-, e⟩ | ⟨-, p, -, -, e⟩
      · rw [e]
        exact Fr20.rf
      · rw [e]
        exact Fr20.rf.up
    have u7 : u 7 = z 7 := funext fun j => fu 7 j (by decide)
    have u8 : u 8 = z 8 := funext fun j => fu 8 j (by decide)
    rw [f_X1_isPoint_b2, w32_n (by omega), if_pos (show (i : Int) < 24 by omega), contains_n (by omega) (by omega), Option.bind_some]
    rcases bool_2 (o.testBit i) with ti | ti
    · right
      rw [b01_f ti]
      refine ⟨u, ?_, rfl⟩
      rcases hI with ⟨h1, e⟩ | ⟨h1, p, h2, hp, e⟩
      · refine Or.inl ⟨fun q hq => ?_, e⟩
        rcases Nat.lt_succ_iff_lt_or_eq.1 hq with r | r
        · exact h1 q r
        · rw [r]
          exact ti
      · exact Or.inr ⟨h1, p, h2, by omega, e⟩
    · have hPi := hP i hi
      have e7 : u 7 i = X i := by rw [u7, (hX i hi).1]
      have e8 : u 8 i = Y i := by rw [u8, (hX i hi).2]
      have rg : ∀ p, p < 24 → InR ((u 7 p - X i) * (u 7 p - X i) + (u 8 p - Y i) * (u 8 p - Y i)) := fun p hp => by
        rw [u7, u8, (hX p hp).1, (hX p hp).2]
        exact sq_r (hP p hp).1 (hP p hp).2 hPi.1 hPi.2
      rw [b01_t ti, xOf_n hi, Option.bind_some, yOf_n hi, Option.bind_some, e7, e8, within_n (F := F) (by rw [fu 6 5 (by decide)]; exact hF) hFl (X i) (Y i) 0 rg (by decide), Option.bind_some]
      generalize hW : mks (fun p => F.testBit p && decide ((u 7 p - X i) * (u 7 p - X i) + (u 8 p - Y i) * (u 8 p - Y i) ≤ 0 * 0)) 24 = W
      have Wl : W < 16777216 := by rw [← hW]; exact mks_24 _
      have tW : ∀ q, o.testBit q = true → (W.testBit q = true ↔ d2 X Y i q = 0) := fun q hq => by
        have hq24 := bit_lt ho hq
        have nn := d2_nn X Y i q
        have e : (u 7 q - X i) * (u 7 q - X i) + (u 8 q - Y i) * (u 8 q - Y i) = d2 X Y i q := by
          rw [u7, u8, (hX q hq24).1, (hX q hq24).2]
          unfold d2
          grind
        rw [← hW, tb_mks, decide_eq_true hq24, hoF q hq, Bool.true_and, Bool.true_and, decide_eq_true_iff, e]
        omega
      have sW : SubN o W ↔ One X Y o := by
        constructor
        · intro h
          exact one_of (i := i) fun q hq => (tW q hq).mp (h q hq)
        · intro h q hq
          exact (tW q hq).mpr (h i q ti hq)
      by_cases hO : One X Y o
      · right
        rw [if_pos ((sub_0 ho Wl).mpr (sW.mpr hO))]
        rcases hI with ⟨h1, e⟩ | ⟨h1, p, h2, hp, e⟩
        · subst e
          have hl : low1 o i := ⟨ti, h1⟩
          rw [h3, if_pos (show w32 (-1) < 0 by decide)]
          exact ⟨up u 20 3 i, Or.inr ⟨hO, i, hl, by omega, rfl⟩, rfl⟩
        · subst e
          rw [up_s, w32_n (by omega), if_neg (show ¬ (p : Int) < 0 by omega)]
          refine ⟨up (up z 20 3 p) 20 3 p, Or.inr ⟨hO, p, h2, by omega, up_up⟩, rfl⟩
      · left
        rw [if_neg (fun k => hO (sW.mp ((sub_0 ho Wl).mp k)))]
        rcases hI with ⟨h1, e⟩ | ⟨h1, -⟩
        · rw [e]
          exact Or.inr ⟨hO, rfl⟩
        · exact absurd h1 hO
  · intro n u hI
    rw [f_X1_isPoint_b2, w32_n (by decide), if_neg (show ¬ ((24 : Nat) : Int) < 24 by decide)]
    rcases hI with ⟨h1, -⟩ | ⟨h1, p, h2, hp, e⟩
    · obtain ⟨q, hq⟩ := ex_bit ho0
      rw [h1 q (bit_lt ho hq)] at hq
      cases hq
    · left
      subst e
      refine ⟨h1, p, _, h2, rfl, Fr20.rf.up.up.up, ?_, ?_, ?_, ?_, ?_⟩
      · rw [up_j (by decide), up_s]
      · rw [up_s]
      · rw [up_j (by decide), up_j (by decide), up_s]
      · rw [up_j (by decide), up_j (by decide), up_j (by decide)]
      · rw [up_j (by decide), up_j (by decide), up_j (by decide)]
theorem onePlace_n {ζ : Sg} {o p : Nat} (hP : PlA (ζ 45) (ζ 46)) (ho : o < 16777216) (hp : low1 o p) : ∃ r, f_X10_isOnePlace (o : Int) ζ = some r ∧ yn r (One (ζ 45) (ζ 46) o) := by
  have hp24 := bit_lt ho hp.1
  unfold f_X10_isOnePlace
  rw [lowest_n ho hp.1 hp.2, Option.bind_some]
  refine loop_P (F := fun n i (_ : Unit) => f_X10_isOnePlace_b7 ζ n (o : Int) (p : Int) i) 24 (fun i _ => p ≤ i ∧ ∀ q, q < i → o.testBit q = true → d2 (ζ 45) (ζ 46) p q = 0) (P := fun x => ∃ r, x = some r ∧ yn r (One (ζ 45) (ζ 46) o)) (by decide) ?_ ?_ p (by omega) () ⟨Nat.le_refl p, fun q hq hb => by rw [hp.2 q hq] at hb; cases hb⟩
  · intro n i _ hi hI
    obtain ⟨hpi, hI⟩ := hI
    have st : (o.testBit i = true → d2 (ζ 45) (ζ 46) p i = 0) → p ≤ i + 1 ∧ ∀ q, q < i + 1 → o.testBit q = true → d2 (ζ 45) (ζ 46) p q = 0 := fun k => ⟨by omega, fun q hq => by
      rcases Nat.lt_succ_iff_lt_or_eq.1 hq with e | e
      · exact hI q e
      · rw [e]
        exact k⟩
    rw [f_X10_isOnePlace_b7, w32_n (by omega), if_pos (show (i : Int) < 24 by omega), has_n (by omega) (by omega), Option.bind_some]
    rcases bool_2 (o.testBit i) with ti | ti
    · right
      rw [b01_f ti]
      exact ⟨(), st (fun k => by rw [ti] at k; cases k), rfl⟩
    · have d0 := d2_bd (hP p hp24) (hP i hi)
      rw [b01_t ti, dist_n (by omega) (by omega), Option.bind_some, w32_eq (z := d2 (ζ 45) (ζ 46) p i) ⟨by omega, by omega⟩]
      by_cases k : d2 (ζ 45) (ζ 46) p i ≤ 0
      · right
        rw [if_pos k]
        exact ⟨(), st (fun _ => by omega), rfl⟩
      · left
        rw [if_neg k]
        exact ⟨0, rfl, Or.inr ⟨rfl, fun h => by have := h p i hp.1 ti; omega⟩⟩
  · intro n _ hI
    rw [f_X10_isOnePlace_b7, w32_n (by decide), if_neg (show ¬ ((24 : Nat) : Int) < 24 by decide)]
    exact ⟨1, rfl, Or.inl ⟨rfl, one_of (i := p) fun q hq => hI.2 q (bit_lt ho hq) hq⟩⟩
/-- what both make of the two, and of the three -/
theorem two_b {z ζ : Sg} {a b : Nat} (hX : XYz z (ζ 45) (ζ 46)) (hP : PlA (ζ 45) (ζ 46)) (ha : a < 24) (hb : b < 24) : ∃ z' ζ' A B, f_X1_hasDiameter_b44 (a : Int) (b : Int) z = some (1, z') ∧ f_X10_isTwo_b56 (a : Int) (b : Int) ζ = some (1, ζ') ∧ Fr20 z z' ∧ Fr58 ζ ζ' ∧ C20 z' A B a b (z 20 5) ∧ C58 ζ' A B a b (-2) := by
  have d0 := d2_bd (hP a ha) (hP b hb)
  obtain ⟨D, hD⟩ : ∃ D : Nat, d2 (ζ 45) (ζ 46) a b = (D : Int) := ⟨(d2 (ζ 45) (ζ 46) a b).toNat, by omega⟩
  have hX2 : XYz (up (up z 20 3 a) 20 4 b) (ζ 45) (ζ 46) := fun q hq => by
    rw [up_k (by decide), up_k (by decide), up_k (by decide), up_k (by decide)]
    exact hX q hq
  obtain ⟨z', e1, e2⟩ := reduce_n (z := up (up z 20 3 a) 20 4 b) (a := D) (b := 4) (by omega) (by decide) (by decide)
  obtain ⟨ζ', e3, f3, c3⟩ := isRing_n (ζ := ζ) (a := D) (b := 4) (p := a) (q := b) (r := -2) (by omega) (by decide) (by decide) ⟨by omega, by omega⟩ ⟨by omega, by omega⟩ (by decide)
  have e1 : f_X1_reduce (D : Int) 4 (up (up z 20 3 a) 20 4 b) = some z' := e1
  have e3 : f_X10_isRing (D : Int) 4 a b (-2) ζ = some ζ' := e3
  unfold f_X1_hasDiameter_b44 f_X10_isTwo_b56 wr
  dsimp only
  rw [dBetween_n hX2 ha hb, Option.bind_some, dist_n (by omega) (by omega), Option.bind_some, hD, w32_n (by omega), e1, Option.bind_some, e3, Option.bind_some]
  refine ⟨z', ζ', _, _, rfl, rfl, ?_, f3, ?_, c3⟩
  · rw [e2]
    exact Fr20.rf.up.up.up.up
  · rw [e2]
    refine ⟨?_, ?_, ?_, ?_, ?_⟩
    · rw [up_j (by decide), up_s]
    · rw [up_s]
    · rw [up_j (by decide), up_j (by decide), up_j (by decide), up_s]
    · rw [up_j (by decide), up_j (by decide), up_s]
    · rw [up_j (by decide), up_j (by decide), up_j (by decide), up_j (by decide)]
theorem three_b {z ζ : Sg} {a b c : Nat} (hX : XYz z (ζ 45) (ζ 46)) (hP : PlA (ζ 45) (ζ 46)) (ha : a < 24) (hb : b < 24) (hc : c < 24) (ht : tI (ζ 45) (ζ 46) a b c ≠ 0) : ∃ z' ζ' A B, f_X1_findTriangle_b90 (a : Int) (b : Int) (c : Int) z = some z' ∧ f_X10_isThree_b81 (a : Int) (b : Int) (c : Int) ζ = some ζ' ∧ Fr20 z z' ∧ Fr58 ζ ζ' ∧ C20 z' A B a b c ∧ C58 ζ' A B a b c := by
  have d0 := d2_bd (hP a ha) (hP b hb)
  have d1 := d2_bd (hP b hb) (hP c hc)
  have d3 := d2_bd (hP c hc) (hP a ha)
  have t0 := tI_bd (hP a ha) (hP b hb) (hP c hc)
  have hX2 : XYz (up (up (up z 20 3 a) 20 4 b) 20 5 c) (ζ 45) (ζ 46) := fun q hq => by
    rw [up_k (by decide), up_k (by decide), up_k (by decide), up_k (by decide), up_k (by decide), up_k (by decide)]
    exact hX q hq
  have m1 := mul_bd (x := d2 (ζ 45) (ζ 46) a b) (y := d2 (ζ 45) (ζ 46) b c) (A := 178802) (B := 178802) ⟨by omega, by omega⟩ ⟨by omega, by omega⟩
  have n1 := Int.mul_nonneg d0.1 d1.1
  have m2 := mul_bd (x := d2 (ζ 45) (ζ 46) a b * d2 (ζ 45) (ζ 46) b c) (y := d2 (ζ 45) (ζ 46) c a) (A := 178802 * 178802) (B := 178802) ⟨by omega, by omega⟩ ⟨by omega, by omega⟩
  have n2 := Int.mul_nonneg n1 d3.1
  have m3 := mul_bd (x := tI (ζ 45) (ζ 46) a b c) (y := tI (ζ 45) (ζ 46) a b c) (A := 178802) (B := 178802) ⟨by omega, by omega⟩ ⟨by omega, by omega⟩
  have n3 : 0 < tI (ζ 45) (ζ 46) a b c * tI (ζ 45) (ζ 46) a b c := by
    rcases Int.lt_or_gt_of_ne ht with r | r
    · exact Int.mul_pos_of_neg_of_neg r r
    · exact Int.mul_pos r r
  have e4 : 4 * tI (ζ 45) (ζ 46) a b c * tI (ζ 45) (ζ 46) a b c = 4 * (tI (ζ 45) (ζ 46) a b c * tI (ζ 45) (ζ 46) a b c) := by grind
  obtain ⟨D, hD⟩ : ∃ D : Nat, d2 (ζ 45) (ζ 46) a b * d2 (ζ 45) (ζ 46) b c * d2 (ζ 45) (ζ 46) c a = (D : Int) := ⟨(d2 (ζ 45) (ζ 46) a b * d2 (ζ 45) (ζ 46) b c * d2 (ζ 45) (ζ 46) c a).toNat, by omega⟩
  obtain ⟨E, hE⟩ : ∃ E : Nat, 4 * tI (ζ 45) (ζ 46) a b c * tI (ζ 45) (ζ 46) a b c = (E : Int) := ⟨(4 * tI (ζ 45) (ζ 46) a b c * tI (ζ 45) (ζ 46) a b c).toNat, by omega⟩
  obtain ⟨z', e1, e2⟩ := reduce_n (z := up (up (up z 20 3 a) 20 4 b) 20 5 c) (a := D) (b := E) (by omega) (by omega) (by omega)
  obtain ⟨ζ', e3, f3, c3⟩ := isRing_n (ζ := ζ) (a := D) (b := E) (p := a) (q := b) (r := c) (by omega) (by omega) (by omega) ⟨by omega, by omega⟩ ⟨by omega, by omega⟩ ⟨by omega, by omega⟩
  unfold f_X1_findTriangle_b90 f_X10_isThree_b81 wr
  dsimp only
  rw [dTurn_n hX2 hP ha hb hc, Option.bind_some, dBetween_n hX2 ha hb, Option.bind_some, dBetween_n hX2 hb hc, Option.bind_some, dBetween_n hX2 hc ha, Option.bind_some, mTurn_n hP ha hb hc, Option.bind_some, dist_n (by omega) (by omega), Option.bind_some, dist_n (by omega) (by omega), Option.bind_some, dist_n (by omega) (by omega), Option.bind_some, w32_eq (z := d2 (ζ 45) (ζ 46) a b) ⟨by omega, by omega⟩, w32_eq (z := d2 (ζ 45) (ζ 46) b c) ⟨by omega, by omega⟩, w32_eq (z := d2 (ζ 45) (ζ 46) c a) ⟨by omega, by omega⟩, hD, hE, e1, Option.bind_some, e3, Option.bind_some]
  refine ⟨z', ζ', _, _, rfl, rfl, ?_, f3, ?_, c3⟩
  · rw [e2]
    exact Fr20.rf.up.up.up.up.up
  · rw [e2]
    refine ⟨?_, ?_, ?_, ?_, ?_⟩
    · rw [up_j (by decide), up_s]
    · rw [up_s]
    · rw [up_j (by decide), up_j (by decide), up_j (by decide), up_j (by decide), up_s]
    · rw [up_j (by decide), up_j (by decide), up_j (by decide), up_s]
    · rw [up_j (by decide), up_j (by decide), up_s]
/-- both close the circle alike -/
theorem close_n {z ζ : Sg} {F o : Nat} (hB : RelB z ζ F) (hoF : SubN o F) (ho0 : o ≠ 0) : ∃ z' ζ' A B p q r, f_X1_close (o : Int) z = some z' ∧ Fr20 z z' ∧ SS ζ ζ' ∧ C20 z' A B p q r ∧ C58 ζ' A B p q r ∧ (InR p ∧ InR q ∧ InR r) ∧ ∀ v : Int,
    ((f_X10_isOnePlace (o : Int) ζ).bind fun q6 => if w32 q6 = 0 then (f_X10_isTwo (o : Int) ζ).bind fun q8 => if w32 q8.1 = 0 then (f_X10_isThree (o : Int) q8.2).bind fun q10 => f_X10_ring_b83 v q10 else f_X10_ring_b83 v q8.2 else (f_X10_lowest (o : Int) ζ).bind fun q14 => (f_X10_isRing 0 1 q14 ((-2)) ((-2)) ζ).bind fun q16 => f_X10_ring_b83 v q16) = f_X10_ring_b83 v ζ' := by
  have hFl := hB.1.2.1
  have ho := sub_24 hFl hoF
  have hP : PlA (ζ 45) (ζ 46) := fun q hq => (MRow.of hB q hq).2.2.1
  have hX0 : XYz z (ζ 45) (ζ 46) := fun q hq => by
    obtain ⟨-, ⟨b1, b2, -⟩, -⟩ := hB.1.2.2 q hq
    exact ⟨b1, b2⟩
  obtain ⟨p0, hp0⟩ := low1_ex ho0
  have hp24 := bit_lt ho hp0.1
  obtain ⟨r1, m1, y1⟩ := onePlace_n hP ho hp0
  unfold f_X1_close wr
  dsimp only
  obtain ⟨z3, hz3⟩ : ∃ z3, z3 = up (up (up z 20 3 (-1)) 20 4 (-2)) 20 5 (-2) := ⟨_, rfl⟩
  have f3 : Fr20 z z3 := by rw [hz3]; exact Fr20.rf.up.up.up
  have v3 : z3 20 3 = -1 := by rw [hz3, up_j (by decide), up_j (by decide), up_s]
  have v4 : z3 20 4 = -2 := by rw [hz3, up_j (by decide), up_s]
  have v5 : z3 20 5 = -2 := by rw [hz3, up_s]
  rw [← hz3]
  clear hz3
  have hX : XYz z3 (ζ 45) (ζ 46) := fun q hq => by
    rw [f3 7 q (by decide), f3 8 q (by decide)]
    exact hX0 q hq
  have hF3 : z3 6 5 = (F : Int) := by rw [f3 6 5 (by decide)]; exact hB.1.1
  rcases point_n hF3 hFl hX hP hoF ho0 v3 with ⟨hO, p, z', hp, e1, f1, c1⟩ | ⟨hO, e1⟩
  · have hpp : p = p0 := low1_u hp hp0
    subst hpp
    have r1e : r1 = 1 := y1.elim (fun k => k.1) (fun k => absurd hO k.2)
    obtain ⟨ζ', e2, f2, c2⟩ := isRing_n (ζ := ζ) (a := 0) (b := 1) (p := p) (q := -2) (r := -2) (by decide) (by decide) (by decide) ⟨by omega, by omega⟩ (by decide) (by decide)
    have e2 : f_X10_isRing 0 1 (p : Int) (-2) (-2) ζ = some ζ' := e2
    rw [v4, v5] at c1
    refine ⟨z', ζ', 0, 1, p, -2, -2, ?_, f3.tr f1, f2.ss, c1, c2, ⟨⟨by omega, by omega⟩, by decide, by decide⟩, fun v => ?_⟩
    · rw [e1, Option.bind_some]
      dsimp only
      rw [if_neg (show ¬ w32 1 = 0 by decide)]
    · rw [m1, Option.bind_some, r1e, if_neg (show ¬ w32 1 = 0 by decide), lowest_n ho hp.1 hp.2, Option.bind_some, e2, Option.bind_some]
  · have r1e : r1 = 0 := y1.elim (fun k => absurd k.2 hO) (fun k => k.1)
    have hne : ∃ i j, o.testBit i = true ∧ o.testBit j = true ∧ d2 (ζ 45) (ζ 46) i j ≠ 0 := Classical.byContradiction fun hn => hO fun i j hi hj => Classical.byContradiction fun hd => hn ⟨i, j, hi, hj, hd⟩
    have cl : ∀ X : Option Sg, ((f_X1_isPoint (o : Int) z3).bind fun q4 => if w32 q4.1 = 0 then (f_X1_hasDiameter (o : Int) q4.2).bind fun q6 => if w32 q6.1 = 0 then (f_X1_findTriangle (o : Int) q6.2).bind fun q8 => some q8 else some q6.2 else some q4.2) = X ↔ ((f_X1_hasDiameter (o : Int) z3).bind fun q6 => if w32 q6.1 = 0 then (f_X1_findTriangle (o : Int) q6.2).bind fun q8 => some q8 else some q6.2) = X := fun X => by
      rw [e1, Option.bind_some]
      dsimp only
      rw [if_pos (show w32 0 = 0 by decide)]
    simp only [cl, m1, Option.bind_some, r1e, if_pos (show w32 0 = 0 by decide)]
    rcases find2_n hX hP ho hne with ⟨a, b, ⟨hab, ta, tb, -, -⟩, k1, k2⟩ | ⟨k1, k2, k3⟩
    · obtain ⟨z', ζ', A, B, e3, e4, f4, f5, c4, c5⟩ := two_b hX hP (bit_lt ho ta) (bit_lt ho tb)
      have ha := bit_lt ho ta
      have hb := bit_lt ho tb
      rw [v5] at c4
      rw [k1, k2, e3, e4, Option.bind_some]
      refine ⟨z', ζ', A, B, a, b, -2, ?_, f3.tr f4, f5.ss, c4, c5, ⟨⟨by omega, by omega⟩, ⟨by omega, by omega⟩, by decide⟩, fun v => ?_⟩
      · dsimp only
        rw [if_neg (show ¬ w32 1 = 0 by decide)]
      · rw [Option.bind_some]
        dsimp only
        rw [if_neg (show ¬ w32 1 = 0 by decide)]
    · rw [k1, k2, Option.bind_some]
      dsimp only
      rw [if_pos (show w32 0 = 0 by decide)]
      rcases find3_n hX hP ho with ⟨a, b, c, ⟨-, -, ⟨ta, tb, tc⟩, hS, -⟩, k4, k5⟩ | k4
      · have ha := bit_lt ho ta
        have hb := bit_lt ho tb
        have hc := bit_lt ho tc
        obtain ⟨z', ζ', A, B, e3, e4, f4, f5, c4, c5⟩ := three_b hX hP ha hb hc hS.1
        rw [k4, e3, Option.bind_some]
        refine ⟨z', ζ', A, B, a, b, c, rfl, f3.tr f4, f5.ss, c4, c5, ⟨⟨by omega, by omega⟩, ⟨by omega, by omega⟩, ⟨by omega, by omega⟩⟩, fun v => ?_⟩
        rw [Option.bind_some]
        dsimp only
        rw [if_pos (show w32 0 = 0 by decide), k5, e4, Option.bind_some]
      · exfalso
        rcases mec_i ho hne with ⟨i, j, hij, ti, tj, hd, hD⟩ | ⟨i, j, k, hij, hjk, hT⟩
        · exact k3 i j hij ti tj ⟨hd, hD⟩
        · obtain ⟨t1, t2, ⟨t3, t4, t5⟩, t6⟩ := hT
          exact k4 i j k hij hjk ⟨t1, ⟨t2, t3, t4, t5⟩, t6⟩
theorem Eq_ring_n : Eq_ring Rl := by
  intro n σd σm a1 a2 hn hR ha1 ha2
  obtain ⟨F, N, h⟩ := hR
  have h : Rn n σd σm F N := h
  have h1 := h.m0
  have hs := h.ask (z' := σd) (ζ' := up σm 41 0 0) SD.rf ss0
  obtain ⟨hN, hNm, hN6⟩ := h1.nm
  unfold f_X9_ring f_X10_ring wr
  dsimp only
  generalize up σm 41 0 0 = ζ at *
  by_cases c1 : 0 ≤ a1 ∧ a1 < N
  · obtain ⟨t, hte⟩ : ∃ t : Nat, a1 = (t : Int) := ⟨a1.toNat, by omega⟩
    subst hte
    have ht : t < N := by omega
    obtain ⟨ht6, hD, hA, hQ⟩ := h1.tr ht
    rw [treatyAt_t hN ht hN6, Option.bind_some, oTs_ ht6, isTr_t hNm hN6 ha1, Option.bind_some, c01_t c1, w32_eq ha2]
    by_cases c2 : a2 < 0
    · rw [if_pos c2, if_pos c2]
      exact ⟨_, _, rfl, rfl, rfl, hs⟩
    rw [if_neg c2, if_neg c2]
    by_cases c3 : a2 ≤ 4
    · rw [if_pos c3, if_pos c3]
      obtain ⟨ζ', e, s, e36, e37, i1, i2⟩ := worstOf_n ht6 (MRow.of h1.1) hD.2.1
      obtain ⟨o, ol, ow, osub⟩ := ws_o ht6 h1.1 hD
      have hs' := h1.ask (z' := σd) (ζ' := ζ') SD.rf s.ss
      rw [ow] at e37
      have e37 : ζ' 41 37 = (o : Int) := e37
      have z5 : σd (21 + t) 5 = (o : Int) := by rw [hQ.1.1, ow]
      rw [e, Option.bind_some, z5]
      dsimp only
      simp only [e37]
      rw [w32_n (by omega)]
      by_cases c4 : o = 0
      · rw [if_pos (show (o : Int) = 0 by omega), if_pos (show (o : Int) = 0 by omega)]
        exact ⟨_, _, rfl, rfl, rfl, hs'⟩
      · rw [if_neg (show ¬ (o : Int) = 0 by omega), if_neg (show ¬ (o : Int) = 0 by omega)]
        have hoF : SubN o F := fun q hq => (mbS_F h1.1 (osub q hq)).1
        obtain ⟨z', ζ2, A, B, p, q, r, k1, k2, k3, k4, k5, ⟨k6, k7, k8⟩, k9⟩ := close_n (h1.1.ss s.ss) hoF c4
        obtain ⟨x1, x2, x3, x4, x5⟩ := k4
        obtain ⟨y1, y2, y3, y4, y5⟩ := k5
        have hs2 := h1.ask (z' := z') (ζ' := ζ2) k2.sd (s.ss.tr k3)
        rw [k1, Option.bind_some, k9 a2, x1, x2, x3, x4, x5, w32_eq k6, w32_eq k7, w32_eq k8]
        unfold f_X10_ring_b83
        rw [ck_t (by omega)]
        rcases (show a2 = 0 ∨ a2 = 1 ∨ a2 = 2 ∨ a2 = 3 ∨ a2 = 4 by omega) with e | e | e | e | e
        · subst e
          rw [if_pos rfl]
          exact ⟨_, _, rfl, rfl, by rw [← y1]; rfl, hs2⟩
        · subst e
          rw [if_neg (by decide), if_pos rfl]
          exact ⟨_, _, rfl, rfl, by rw [← y2]; rfl, hs2⟩
        · subst e
          rw [if_neg (by decide), if_neg (by decide), if_pos rfl]
          exact ⟨_, _, rfl, rfl, by rw [← y3]; rfl, hs2⟩
        · subst e
          rw [if_neg (by decide), if_neg (by decide), if_neg (by decide), if_pos rfl]
          exact ⟨_, _, rfl, rfl, by rw [← y4]; rfl, hs2⟩
        · subst e
          rw [if_neg (by decide), if_neg (by decide), if_neg (by decide), if_neg (by decide)]
          exact ⟨_, _, rfl, rfl, by rw [← y5]; rfl, hs2⟩
    · rw [if_neg c3, if_neg c3]
      exact ⟨_, _, rfl, rfl, rfl, hs⟩
  · rw [treatyAt_f hN ha1 hN6 c1, Option.bind_some, isTr_t hNm hN6 ha1, Option.bind_some, c01_f c1]
    exact ⟨_, _, rfl, rfl, rfl, hs⟩
