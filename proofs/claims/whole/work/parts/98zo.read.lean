/-! ===== pure level: text, the readers side by side ===== -/
def RowsR (z ζ : Sg) (row mrow K a b k : Nat) : Prop := ∀ i, i < k → ∀ j, j < K → z row (K * i + j) = ζ mrow (K * i + j) ∧ Rng a b j (ζ mrow (K * i + j))
/-- both stand at the same line -/
def LnS (z ζ : Sg) (B : Nat → Int) (n k1 k2 p : Nat) : Prop := DOk B n z ∧ MOk B n ζ ∧ z 3 4 = (p : Int) ∧ TokAt ζ B n p ∧ (z 3 5 = (k1 : Int) ∧ ζ 41 5 = (k1 : Int) ∧ k1 ≤ 24) ∧ (z 3 6 = (k2 : Int) ∧ ζ 41 6 = (k2 : Int) ∧ k2 ≤ 6) ∧ ζ 41 7 = (k1 : Int) + k2 ∧ (z 3 7 = 0 ∧ z 3 8 = -1) ∧ ζ 41 13 = 0 ∧ RowsR z ζ 4 43 4 0 1 k1 ∧ RowsR z ζ 5 44 3 2 3 k2
def FrZ (z z' : Sg) : Prop := ∀ k j, ¬ (k = 3 ∧ 4 ≤ j ∧ j ≤ 8) → k ≠ 4 → k ≠ 5 → z' k j = z k j
def FrM (ζ ζ' : Sg) : Prop := ∀ k j, ¬ (k = 41 ∧ ((5 ≤ j ∧ j ≤ 7) ∨ (9 ≤ j ∧ j ≤ 14))) → k ≠ 43 → k ≠ 44 → ζ' k j = ζ k j
theorem FrZ.rf {z : Sg} : FrZ z z := fun _ _ _ _ _ => rfl
theorem FrM.rf {z : Sg} : FrM z z := fun _ _ _ _ _ => rfl
theorem FrZ.tr {z w v : Sg} (h : FrZ z w) (h2 : FrZ w v) : FrZ z v := fun k j q1 q2 q3 => (h2 k j q1 q2 q3).trans (h k j q1 q2 q3)
theorem FrM.tr {z w v : Sg} (h : FrM z w) (h2 : FrM w v) : FrM z v := fun k j q1 q2 q3 => (h2 k j q1 q2 q3).trans (h k j q1 q2 q3)
theorem FrP.z {z w : Sg} (h : FrP z w) : FrZ z w := fun k j q1 q2 q3 => h k j (by omega) q2 q3
theorem FrC.z {z w : Sg} (h : FrC z w) : FrZ z w := h.p.z
theorem FrQ.m {z w : Sg} (h : FrQ z w) : FrM z w := fun k j q1 q2 q3 => h k j (by omega) q2 q3
theorem FrE.m {z w : Sg} (h : FrE z w) : FrM z w := fun k j q1 _ _ => h k j (by omega)
theorem FrZ.up3 {z w : Sg} {j : Nat} {v : Int} (h : FrZ z w) (hj : 4 ≤ j ∧ j ≤ 8) : FrZ z (up w 3 j v) := fun k i q1 q2 q3 => by
  by_cases e : k = 3
  · subst e
    rw [up_j (by omega)]
    exact h 3 i q1 q2 q3
  · rw [up_k e]
    exact h k i q1 q2 q3
theorem FrZ.dok {z z' : Sg} {B : Nat → Int} {n : Nat} (h : FrZ z z') (k : DOk B n z) : DOk B n z' := ⟨by rw [h 3 3 (by omega) (by decide) (by decide)]; exact k.1, fun j hj => by rw [h 2 j (by omega) (by decide) (by decide)]; exact k.2 j hj⟩
theorem FrM.mok {z z' : Sg} {B : Nat → Int} {n : Nat} (h : FrM z z') (k : MOk B n z) : MOk B n z' := ⟨by rw [h 41 8 (by omega) (by decide) (by decide)]; exact k.1, fun j hj => by rw [h 42 j (by omega) (by decide) (by decide)]; exact k.2 j hj⟩
/-- what a line leaves -/
def LnO (z ζ z' ζ' : Sg) (B : Nat → Int) (n p : Nat) : Prop := FrZ z z' ∧ FrM ζ ζ' ∧ (Flt z' ζ' n ∨ ∃ k1 k2 a p' : Nat, z' 3 4 = (a : Int) ∧ Adv isBl B n a p' ∧ p < p' ∧ LnS (up z' 3 4 (p' : Int)) ζ' B n k1 k2 p')
/-- the end of a line behind its numbers -/
theorem tail_n {z ζ w υ : Sg} {B : Nat → Int} {n p k1 k2 : Nat} (hn : n ≤ 900) (hB : ByP B) (hz : DOk B n z) (fz : FrZ z w) (fm : FrM ζ υ) (h : Flt w υ n ∨ (Go w υ B n p ∧ w 3 5 = (k1 : Int) ∧ w 3 6 = (k2 : Int) ∧ (υ 41 5 = (k1 : Int) ∧ k1 ≤ 24) ∧ (υ 41 6 = (k2 : Int) ∧ k2 ≤ 6) ∧ υ 41 7 + 1 = (k1 : Int) + k2 ∧ RowsR w υ 4 43 4 0 1 k1 ∧ RowsR w υ 5 44 3 2 3 k2)) :
    ∃ z' ζ', f_X4_readLine_b99 w = some z' ∧ f_X10_readLine_b33 υ = some ζ' ∧ LnO z ζ z' ζ' B n p := by
  rcases h with h | ⟨hG, h5, h6, ⟨m5, k15⟩, ⟨m6, k26⟩, m7, r4, r5⟩
  · obtain ⟨b, hb, e1, e2⟩ := end_f hn hB (fz.dok hz) h
    refine ⟨up w 3 4 (b : Int), _, e1, e2, fz.up3 (by decide), fm.tr ?_, Or.inl ⟨by rw [up_j (by decide), up_j (by decide)]; exact h.1, by rw [up_j (by decide), up_j (by decide)]; exact h.2.1, by rw [up_j (by decide)]; exact h.2.2.1, by rw [up_j (by decide)]; exact h.2.2.2.1, b, up_s, hb⟩⟩
    exact ((FrN.rf (z := υ)).e.up7).m
  · obtain ⟨g1, g2, g3, g4, g5, a, q, g6, g7, g8, g9⟩ := hG
    obtain ⟨z', ζ', e1, e2, f1, f2, f7, k⟩ := end_n hn hB g4 g5 g6 g7 g9 g1 g3
    refine ⟨z', ζ', e1, e2, fz.tr f1.z, fm.tr f2.m, ?_⟩
    rcases k with ⟨q1, q2, q3, a', p', q4, q5, q6, q7⟩ | k
    · right
      have hap : p < p' := by
        have := g7.1
        have := q5.1
        omega
      have rw_ : ∀ (row mrow K a b c : Nat), row ≠ 3 → mrow ≠ 41 → RowsR w υ row mrow K a b c → RowsR (up z' 3 4 (p' : Int)) ζ' row mrow K a b c := fun row mrow K a b c n1 n2 h i hi j hj => by
        rw [up_k n1, f1 row _ (by omega), f2 mrow _ (by omega)]
        exact h i hi j hj
      refine ⟨k1, k2, a', p', q4, q5, hap, (f1.dok g4).up4, f2.m.mok g5, up_s, q7, ⟨?_, ?_, k15⟩, ⟨?_, ?_, k26⟩, by rw [f7]; exact m7, ⟨?_, ?_⟩, q3, rw_ 4 43 4 0 1 k1 (by decide) (by decide) r4, rw_ 5 44 3 2 3 k2 (by decide) (by decide) r5⟩
      · rw [up_j (by decide), f1 3 5 (by omega)]
        exact h5
      · rw [f2 41 5 (by omega)]
        exact m5
      · rw [up_j (by decide), f1 3 6 (by omega)]
        exact h6
      · rw [f2 41 6 (by omega)]
        exact m6
      · rw [up_j (by decide)]
        exact q1
      · rw [up_j (by decide), q2]
        exact g2
    · exact Or.inl k
theorem line_n {z ζ : Sg} {B : Nat → Int} {n k1 k2 p : Nat} (hn : n ≤ 900) (hB : ByP B) (h : LnS z ζ B n k1 k2 p) (hp : p < n) : ∃ z' ζ', f_X4_readLine z = some z' ∧ f_X10_readLine ζ = some ζ' ∧ LnO z ζ z' ζ' B n p := by
  obtain ⟨hz, hM, h4, hT, ⟨z5, m5, k15⟩, ⟨z6, m6, k26⟩, m7, ⟨z7, z8⟩, m13, r4, r5⟩ := h
  obtain ⟨e, hAe⟩ := Adv.ex (P := isSm) (B := B) (n := n) (p := p) (by omega)
  have hpe := hAe.1
  have hen := hAe.2.1
  unfold f_X4_readLine
  rw [dPass_n hn hB hz h4 hAe, Option.bind_some, h4]
  obtain ⟨w, hw⟩ : ∃ w, w = up z 3 4 (e : Int) := ⟨_, rfl⟩
  rw [← hw]
  have fw : FrZ z w := by rw [hw]; exact FrZ.rf.up3 (by decide)
  have w4 : w 3 4 = (e : Int) := by rw [hw, up_s]
  have wz : DOk B n w := fw.dok hz
  have w7 : w 3 7 = 0 := by rw [hw, up_j (by decide)]; exact z7
  have w8 : w 3 8 = -1 := by rw [hw, up_j (by decide)]; exact z8
  have w5 : w 3 5 = (k1 : Int) := by rw [hw, up_j (by decide)]; exact z5
  have w6 : w 3 6 = (k2 : Int) := by rw [hw, up_j (by decide)]; exact z6
  have wr4 : w 4 = z 4 := by rw [hw, up_k (by decide)]
  have wr5 : w 5 = z 5 := by rw [hw, up_k (by decide)]
  clear hw
  obtain ⟨x, s1, y1⟩ := dSpell0_n hB wz.2 w4 hpe (by omega)
  obtain ⟨y, s2, y2⟩ := dSpell1_n hB wz.2 w4 hpe (by omega)
  obtain ⟨t10, -, -, tc⟩ := hT
  -- the model's token in words
  have tok : (Sp wPol B p e ∧ ζ 41 11 = 0 ∧ ζ 41 12 = 0 ∧ ζ 41 9 = (e : Int) ∧ p < e) ∨ (¬ Sp wPol B p e ∧ Sp wTre B p e ∧ ζ 41 11 = 0 ∧ ζ 41 12 = 1 ∧ ζ 41 9 = (e : Int) ∧ p < e) ∨ (¬ Sp wPol B p e ∧ ¬ Sp wTre B p e ∧ ζ 41 11 ≠ 0 ∧ (0 ≤ ζ 41 11 ∧ ζ 41 11 ≤ 4)) := by
    have nos : ¬ isSm (B p) → ¬ Sp wPol B p e ∧ ¬ Sp wTre B p e := fun hs => by
      have hpp : e = p := hAe.u ⟨Nat.le_refl _, by omega, fun j q1 q2 => by omega, fun _ => hs⟩
      exact ⟨fun q => by have := q.1; omega, fun q => by have := q.1; omega⟩
    rcases tc with ⟨q1, q2⟩ | ⟨q1, q2, e', q3, q4, q5⟩ | ⟨q1, q2, e', -, -, q3, -⟩ | ⟨q1, q2, q3, q4⟩ | ⟨q1, q2, q3, q4, q5⟩
    · omega
    · have ee := q3.u hAe
      subst ee
      rcases q5 with ⟨a1, a2, a3⟩ | ⟨a1, a2, a3, a4⟩ | ⟨a1, a2, a3⟩
      · exact Or.inl ⟨a3, a1, a2, q4, by have := a3.1; omega⟩
      · exact Or.inr (Or.inl ⟨a3, a4, a1, a2, q4, by have := a4.1; omega⟩)
      · exact Or.inr (Or.inr ⟨a2, a3, by omega, by omega⟩)
    · have := nos (fun q => by unfold isSm at q; unfold isDg at q2; omega)
      exact Or.inr (Or.inr ⟨this.1, this.2, by omega, by omega⟩)
    · have := nos (fun q => by unfold isSm at q; omega)
      exact Or.inr (Or.inr ⟨this.1, this.2, by omega, by omega⟩)
    · have := nos q2
      exact Or.inr (Or.inr ⟨this.1, this.2, by omega, by omega⟩)
  unfold f_X10_readLine
  rw [s1, Option.bind_some]
  rcases tok with ⟨c1, c2, c3, c4, c5⟩ | ⟨c0, c1, c2, c3, c4, c5⟩ | ⟨c0, c1, c2, c3⟩
  · -- a policy
    have x1 : x = 1 := y1.elim (fun q => q.1) (fun q => absurd c1 q.2)
    rw [x1, if_neg (show ¬ w32 1 = 0 by decide), w5, c2, if_pos (show w32 0 = 0 by decide), c3, if_pos (show w32 0 = 0 by decide)]
    obtain ⟨z1, ζ1, e1, e2, f1, f2, rr, ⟨o1, o2, o3⟩, k⟩ := pol_n hn hB wz hM w4 c4 t10 c5 hen w7 w8 m13 m5 k15
    rw [e1, Option.bind_some, e2, Option.bind_some]
    unfold wr
    have v5 : z1 3 5 = (k1 : Int) := by rw [f1 3 5 (by omega) (by decide) (by decide)]; exact w5
    have v6 : z1 3 6 = (k2 : Int) := by rw [f1 3 6 (by omega) (by decide) (by decide)]; exact w6
    have v7 : ζ1 41 7 = (k1 : Int) + k2 := by rw [f2 41 7 (by omega) (by decide) (by decide)]; exact m7
    rw [v5]
    have fz : FrZ z (up z1 3 5 ((k1 : Int) + 1)) := (fw.tr f1.z).up3 (by decide)
    refine tail_n (k1 := k1 + 1) (k2 := k2) hn hB hz fz f2.m ?_
    rcases k with ⟨q1, q2, q3, q4⟩ | q
    · right
      obtain ⟨g1, g2, g3, g4, g5, a, q, g6, g7, g8, g9⟩ := q3
      refine ⟨⟨by rw [up_j (by decide)]; exact g1, by rw [up_j (by decide)]; exact g2, g3, ⟨by rw [up_j (by decide)]; exact g4.1, fun j hj => by rw [up_k (by decide)]; exact g4.2 j hj⟩, g5, a, q, by rw [up_j (by decide)]; exact g6, g7, g8, g9⟩, by rw [up_s]; rfl, by rw [up_j (by decide)]; exact v6, ⟨by rw [q2]; rfl, by omega⟩, ⟨by rw [o3]; exact m6, k26⟩, by rw [v7]; omega, fun i hi j hj => ?_, fun i hi j hj => ?_⟩
      · rw [up_k (by decide)]
        rcases Nat.lt_succ_iff_lt_or_eq.1 hi with r | r
        · have := r4 i r j hj
          obtain ⟨b1, b2⟩ := rr (4 * i + j) (by omega)
          rw [b1, b2, wr4]
          exact this
        · rw [r]
          exact q4 j hj
      · rw [up_k (by decide), o1, o2, wr5]
        exact r5 i hi j hj
    · left
      obtain ⟨a, g4, g5⟩ := q.2.2.2.2
      refine ⟨by rw [up_j (by decide)]; exact q.1, by rw [up_j (by decide)]; exact q.2.1, by rw [up_j (by decide)]; exact q.2.2.1, by rw [up_j (by decide)]; exact q.2.2.2.1, a, by rw [up_j (by decide)]; exact g4, g5⟩
  · -- a treaty
    have x0 : x = 0 := y1.elim (fun q => absurd q.2 c0) (fun q => q.1)
    have y1' : y = 1 := y2.elim (fun q => q.1) (fun q => absurd c1 q.2)
    rw [x0, if_pos (show w32 0 = 0 by decide), s2, Option.bind_some, y1', if_neg (show ¬ w32 1 = 0 by decide), w6, c2, if_pos (show w32 0 = 0 by decide), c3, if_neg (show ¬ w32 1 = 0 by decide)]
    obtain ⟨z1, ζ1, e1, e2, f1, f2, rr, ⟨o1, o2, o3⟩, k⟩ := tre_n hn hB wz hM w4 c4 t10 c5 hen w7 w8 m13 m6 k26
    rw [e1, Option.bind_some, e2, Option.bind_some]
    unfold wr
    have v5 : z1 3 5 = (k1 : Int) := by rw [f1 3 5 (by omega) (by decide) (by decide)]; exact w5
    have v6 : z1 3 6 = (k2 : Int) := by rw [f1 3 6 (by omega) (by decide) (by decide)]; exact w6
    have v7 : ζ1 41 7 = (k1 : Int) + k2 := by rw [f2 41 7 (by omega) (by decide) (by decide)]; exact m7
    rw [v6]
    have fz : FrZ z (up z1 3 6 ((k2 : Int) + 1)) := (fw.tr f1.z).up3 (by decide)
    refine tail_n (k1 := k1) (k2 := k2 + 1) hn hB hz fz f2.m ?_
    rcases k with ⟨q1, q2, q3, q4⟩ | q
    · right
      obtain ⟨g1, g2, g3, g4, g5, a, q, g6, g7, g8, g9⟩ := q3
      refine ⟨⟨by rw [up_j (by decide)]; exact g1, by rw [up_j (by decide)]; exact g2, g3, ⟨by rw [up_j (by decide)]; exact g4.1, fun j hj => by rw [up_k (by decide)]; exact g4.2 j hj⟩, g5, a, q, by rw [up_j (by decide)]; exact g6, g7, g8, g9⟩, by rw [up_j (by decide)]; exact v5, by rw [up_s]; rfl, ⟨by rw [o3]; exact m5, k15⟩, ⟨by rw [q2]; rfl, by omega⟩, by rw [v7]; omega, fun i hi j hj => ?_, fun i hi j hj => ?_⟩
      · rw [up_k (by decide), o1, o2, wr4]
        exact r4 i hi j hj
      · rw [up_k (by decide)]
        rcases Nat.lt_succ_iff_lt_or_eq.1 hi with r | r
        · have := r5 i r j hj
          obtain ⟨b1, b2⟩ := rr (3 * i + j) (by omega)
          rw [b1, b2, wr5]
          exact this
        · rw [r]
          exact q4 j hj
    · left
      obtain ⟨a, g4, g5⟩ := q.2.2.2.2
      refine ⟨by rw [up_j (by decide)]; exact q.1, by rw [up_j (by decide)]; exact q.2.1, by rw [up_j (by decide)]; exact q.2.2.1, by rw [up_j (by decide)]; exact q.2.2.2.1, a, by rw [up_j (by decide)]; exact g4, g5⟩
  · -- neither
    have x0 : x = 0 := y1.elim (fun q => absurd q.2 c0) (fun q => q.1)
    have y0 : y = 0 := y2.elim (fun q => absurd q.2 c1) (fun q => q.1)
    rw [x0, if_pos (show w32 0 = 0 by decide), s2, Option.bind_some, y0, if_pos (show w32 0 = 0 by decide), complain_n w7, Option.bind_some, w32_eq (z := ζ 41 11) ⟨by omega, by omega⟩, if_neg c2, wrong_n m13, Option.bind_some]
    have g13 : up (up ζ 41 13 1) 41 14 (ζ 41 10) 41 13 = 1 := by rw [up_j (by decide), up_s]
    refine tail_n (k1 := k1) (k2 := k2) hn hB hz (fw.tr ((FrC.rf.up (Or.inr (Or.inl rfl))).up (Or.inr (Or.inr rfl))).z) ((FrN.rf.up (j := 13) (by decide)).up (by decide)).q.m (Or.inl ⟨?_, ?_, ?_, ?_, e, ?_, hen⟩)
    · rw [g13, up_j (by decide), up_s]
    · rw [up_s, up_s, t10]
    · rw [up_j (by decide), up_s]
      exact Or.inl rfl
    · rw [up_s]
      omega
    · rw [up_j (by decide), up_j (by decide)]
      exact w4
/-- the lines, one by one -/
theorem lines_n {B : Nat → Int} {n : Nat} (hn : n ≤ 900) (hB : ByP B) : ∀ (r : Nat) (z ζ : Sg) (k1 k2 p i m m' : Nat), n - p ≤ r → p ≤ n → i ≤ p → r + 1 < m → r + 1 < m' → LnS z ζ B n k1 k2 p → ∃ z' ζ', f_X4_read_b36 m (i : Int) z = some z' ∧ f_X10_readText_b34 m' ζ = some ζ' ∧ FrZ z z' ∧ FrM ζ ζ' ∧ (Flt z' ζ' n ∨ ∃ k1 k2 p, LnS z' ζ' B n k1 k2 p) := by
  intro r
  induction r with
  | zero =>
    intro z ζ k1 k2 p i m m' hr hpn hi hm hm' h
    obtain ⟨m, rfl⟩ : ∃ q, m = q + 1 := ⟨m - 1, by omega⟩
    obtain ⟨m', rfl⟩ : ∃ q, m' = q + 1 := ⟨m' - 1, by omega⟩
    have hp : p = n := by omega
    have h' := h
    obtain ⟨hz, hM, h4, ⟨-, -, -, tc⟩, -, -, -, ⟨z7, -⟩, m13, -⟩ := h
    have h11 : ζ 41 11 = 3 := by
      rcases tc with ⟨-, q⟩ | ⟨q, -⟩ | ⟨q, -⟩ | ⟨q, -⟩ | ⟨q, -⟩
      · exact q
      · omega
      · omega
      · omega
      · omega
    refine ⟨z, ζ, ?_, ?_, FrZ.rf, FrM.rf, Or.inr ⟨k1, k2, p, h'⟩⟩
    · rw [f_X4_read_b36, h4, hz.1, hp, if_neg (Int.lt_irrefl (w32 (n : Int)))]
      by_cases c : w32 (i : Int) < 900
      · rw [if_pos c]
      · rw [if_neg c]
    · rw [f_X10_readText_b34, m13, if_pos (show w32 0 = 0 by decide), h11, if_pos (show w32 3 = 3 by decide)]
  | succ r ih =>
    intro z ζ k1 k2 p i m m' hr hpn hi hm hm' h
    obtain ⟨m, rfl⟩ : ∃ q, m = q + 1 := ⟨m - 1, by omega⟩
    obtain ⟨m', rfl⟩ : ∃ q, m' = q + 1 := ⟨m' - 1, by omega⟩
    have h' := h
    obtain ⟨hz, hM, h4, ⟨t10, tb, tn, tc⟩, c5, c6, m7, ⟨z7, z8⟩, m13, r4, r5⟩ := h
    by_cases hp : p = n
    · have h11 : ζ 41 11 = 3 := by
        rcases tc with ⟨-, q⟩ | ⟨q, -⟩ | ⟨q, -⟩ | ⟨q, -⟩ | ⟨q, -⟩
        · exact q
        · omega
        · omega
        · omega
        · omega
      refine ⟨z, ζ, ?_, ?_, FrZ.rf, FrM.rf, Or.inr ⟨k1, k2, p, h'⟩⟩
      · rw [f_X4_read_b36, h4, hz.1, hp, if_neg (Int.lt_irrefl (w32 (n : Int)))]
        by_cases c : w32 (i : Int) < 900
        · rw [if_pos c]
        · rw [if_neg c]
      · rw [f_X10_readText_b34, m13, if_pos (show w32 0 = 0 by decide), h11, if_pos (show w32 3 = 3 by decide)]
    · have hpl : p < n := by omega
      have h11 : ζ 41 11 ≠ 3 ∧ (0 ≤ ζ 41 11 ∧ ζ 41 11 ≤ 4) := by
        rcases tc with ⟨q, -⟩ | ⟨q, -, e, -, -, q2⟩ | ⟨q, -, e, -, -, q2, -⟩ | ⟨q, -, q2, -⟩ | ⟨q, -, -, -, q2⟩
        · omega
        · omega
        · omega
        · omega
        · omega
      clear tc
      obtain ⟨z1, ζ1, e1, e2, f1, f2, k⟩ := line_n hn hB h' hpl
      rw [f_X4_read_b36, h4, hz.1, w32_n (by omega), w32_n (by omega), w32_n (by omega), if_pos (show (i : Int) < 900 by omega), if_pos (show (p : Int) < (n : Int) by omega), z7, if_pos (show w32 0 = 0 by decide), e1, Option.bind_some, f_X10_readText_b34, m13, if_pos (show w32 0 = 0 by decide), w32_eq (z := ζ 41 11) ⟨by omega, by omega⟩, if_neg h11.1, e2, Option.bind_some]
      rcases k with k | ⟨j1, j2, a, p', q1, q2, q3, q4⟩
      · obtain ⟨a, g4, g5⟩ := k.2.2.2.2
        obtain ⟨b, hb⟩ := Adv.ex (P := isBl) (B := B) (n := n) (p := a) g5
        rw [dSkip_n hn hB (f1.dok hz) g4 hb, Option.bind_some]
        obtain ⟨m, rfl⟩ : ∃ q, m = q + 1 := ⟨m - 1, by omega⟩
        obtain ⟨m', rfl⟩ : ∃ q, m' = q + 1 := ⟨m' - 1, by omega⟩
        refine ⟨up z1 3 4 (b : Int), ζ1, ?_, ?_, f1.up3 (by decide), f2, Or.inl ⟨by rw [up_j (by decide)]; exact k.1, by rw [up_j (by decide)]; exact k.2.1, by rw [up_j (by decide)]; exact k.2.2.1, by rw [up_j (by decide)]; exact k.2.2.2.1, b, up_s, hb.2.1⟩⟩
        · rw [f_X4_read_b36, up_j (by decide : (7 : Nat) ≠ 4), if_neg (flt_ne k.2.2.1)]
          by_cases c : w32 ((i : Int) + 1) < 900
          · rw [if_pos c]
            by_cases c2 : w32 (up z1 3 4 (b : Int) 3 4) < w32 (up z1 3 4 (b : Int) 3 3)
            · rw [if_pos c2]
            · rw [if_neg c2]
          · rw [if_neg c]
        · rw [f_X10_readText_b34, if_neg (flt_ne k.m)]
      · rw [dSkip_n hn hB (f1.dok hz) q1 q2, Option.bind_some]
        have hp'n := q2.2.1
        obtain ⟨z', ζ', e3, e4, f3, f4, k⟩ := ih (up z1 3 4 (p' : Int)) ζ1 j1 j2 p' (i + 1) m m' (by omega) hp'n (by omega) (by omega) (by omega) q4
        exact ⟨z', ζ', e3, e4, (f1.up3 (by decide)).tr f3, f2.tr f4, k⟩
