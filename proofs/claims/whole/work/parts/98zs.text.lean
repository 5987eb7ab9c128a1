/-! ===== pure level: text ===== -/
theorem LgP.z {row log : Nat → Int} : LgP 0 row 0 log 0 := ⟨0, rfl, Nat.le_refl 0, rfl, fun i j _ h _ => by omega⟩
/-- a text without a fault: all anew on both sides -/
theorem anew_n {n : Nat} {z ζ : Sg} {F N k1 k2 : Nat} (h : Rn n z ζ F N) (h5 : z 3 5 = (k1 : Int)) (m5 : ζ 41 5 = (k1 : Int)) (hk1 : k1 ≤ 24) (h6 : z 3 6 = (k2 : Int)) (m6 : ζ 41 6 = (k2 : Int)) (hk2 : k2 ≤ 6) (r4 : RowsR z ζ 4 43 4 0 1 k1) (r5 : RowsR z ζ 5 44 3 2 3 k2) :
    ∃ z' ζ', f_X9_beginAnew z = some z' ∧ f_X10_lays ζ = some ζ' ∧ Rl (n + 1) z' ζ' ∧ z' 3 = z 3 ∧ ζ' 41 7 = ζ 41 7 := by
  obtain ⟨hB, hT, hL, hO, hQ⟩ := h
  -- the class
  unfold f_X9_beginAnew wr
  obtain ⟨z1, e1, f1, v65, v9, g1⟩ := clear_n (σ := z)
  rw [e1, Option.bind_some]
  dsimp only
  obtain ⟨z2, hz2⟩ : ∃ z2, z2 = up (up (up (up z1 (13 + 2 * 0) 2 0) (13 + 2 * 1) 2 0) 17 0 0) 0 4 0 := ⟨_, rfl⟩
  rw [← hz2]
  have z2r : ∀ k, k ≠ 13 → k ≠ 15 → k ≠ 17 → k ≠ 0 → z2 k = z1 k := fun k a b c d => by rw [hz2, up_k d, up_k c, up_k (by omega), up_k (by omega)]
  have z2_132 : z2 13 2 = 0 := by rw [hz2, up_k (by decide), up_k (by decide), up_k (by decide), up_s]
  have z2_131 : z2 13 1 = z1 13 1 := by rw [hz2, up_k (by decide), up_k (by decide), up_k (by decide), up_j (by decide)]
  have z2_152 : z2 15 2 = 0 := by rw [hz2, up_k (by decide), up_k (by decide), up_s]
  have z2_151 : z2 15 1 = z1 15 1 := by rw [hz2, up_k (by decide), up_k (by decide), up_j (by decide), up_k (by decide)]
  have z2_17 : z2 17 0 = 0 := by rw [hz2, up_k (by decide), up_s]
  have z2_04 : z2 0 4 = 0 := by rw [hz2, up_s]
  clear hz2
  have z3r : ∀ k, 1 ≤ k → k ≤ 5 → z2 k = z k := fun k a b => by rw [z2r k (by omega) (by omega) (by omega) (by omega), f1 k (by omega) (by omega) (by omega)]
  obtain ⟨z3, e3, f3, w65, g3, rr⟩ := dPols_n (z := z2) hk1 (by rw [z3r 3 (by decide) (by decide)]; exact h5) (by rw [z2r 6 (by decide) (by decide) (by decide) (by decide)]; exact v65) (by
    rw [z2r 9 (by decide) (by decide) (by decide) (by decide)]
    exact g1.row (z2r 11 (by decide) (by decide) (by decide) (by decide)))
  rw [e3]
  -- the reference
  unfold f_X10_lays
  obtain ⟨ζ1, l1, p1, q1⟩ := mPols_n (ζ := ζ) hk1 m5
  rw [l1]
  unfold f_X10_lays_b85 wr
  dsimp only
  have m61 : ζ1 41 6 = (k2 : Int) := by rw [p1 41 (by decide)]; exact m6
  rw [m61]
  obtain ⟨ζ2, l2, p2, q2⟩ := mBegs_n (ζ := up ζ1 41 27 (k2 : Int)) hk2 up_s
  rw [l2]
  unfold f_X10_lays_b142 wr
  dsimp only
  obtain ⟨A, hA⟩ : ∃ A, A = up (up (up (up ζ2 41 28 0) 41 30 0) 41 32 0) 41 34 0 := ⟨_, rfl⟩
  rw [← hA]
  obtain ⟨W0, hW⟩ : ∃ W0, W0 = up (up (up (up (up ζ1 41 27 0) 41 28 0) 41 30 0) 41 32 0) 41 34 0 := ⟨_, rfl⟩
  have Ao : ∀ k, k ≠ 41 → A k = ζ2 k := fun k a => by rw [hA, up_k a, up_k a, up_k a, up_k a]
  have Wo : ∀ k, k ≠ 41 → W0 k = ζ1 k := fun k a => by rw [hW, up_k a, up_k a, up_k a, up_k a, up_k a]
  have A41 : ∀ j, j ≠ 27 → j ≠ 28 → j ≠ 30 → j ≠ 32 → j ≠ 34 → A 41 j = ζ 41 j := fun j a b c d e => by
    rw [hA, up_j e, up_j d, up_j c, up_j b, p2 41 (by decide), up_j a, p1 41 (by decide)]
  have W41 : ∀ j, j ≠ 27 → j ≠ 28 → j ≠ 30 → j ≠ 32 → j ≠ 34 → W0 41 j = ζ 41 j := fun j a b c d e => by
    rw [hW, up_j e, up_j d, up_j c, up_j b, up_j a, p1 41 (by decide)]
  have a27 : A 41 27 = (k2 : Int) := by rw [hA, up_j (by decide), up_j (by decide), up_j (by decide), up_j (by decide), p2 41 (by decide), up_s]
  have a28 : A 41 28 = 0 := by rw [hA, up_j (by decide), up_j (by decide), up_j (by decide), up_s]
  have a30 : A 41 30 = 0 := by rw [hA, up_j (by decide), up_j (by decide), up_s]
  have a32 : A 41 32 = 0 := by rw [hA, up_j (by decide), up_s]
  have a34 : A 41 34 = 0 := by rw [hA, up_s]
  have w27 : W0 41 27 = 0 := by rw [hW, up_j (by decide), up_j (by decide), up_j (by decide), up_j (by decide), up_s]
  have w28 : W0 41 28 = 0 := by rw [hW, up_j (by decide), up_j (by decide), up_j (by decide), up_s]
  have w30 : W0 41 30 = 0 := by rw [hW, up_j (by decide), up_j (by decide), up_s]
  have w32_ : W0 41 32 = 0 := by rw [hW, up_j (by decide), up_s]
  have w34 : W0 41 34 = 0 := by rw [hW, up_s]
  clear hA hW
  have z24 : z2 4 = z 4 := z3r 4 (by decide) (by decide)
  -- the policies
  have jB : RelB z3 W0 (Fk k1) := by
    refine ⟨⟨w65, Fk_24 k1, fun q hq => ?_⟩, g3⟩
    obtain ⟨s7, s8, s9, s10⟩ := rr q
    obtain ⟨t9, t5, t6, t7, t8⟩ := q1 q hq
    obtain ⟨b1, ⟨b2, b3, b4, b5⟩, b6, b7, b8, b9⟩ := hB.1.2.2 q hq
    have o7 : z2 7 q = z 7 q := by rw [z2r 7 (by decide) (by decide) (by decide) (by decide), f1 7 (by decide) (by decide) (by decide)]
    have o8 : z2 8 q = z 8 q := by rw [z2r 8 (by decide) (by decide) (by decide) (by decide), f1 8 (by decide) (by decide) (by decide)]
    have o10 : z2 10 q = z 10 q := by rw [z2r 10 (by decide) (by decide) (by decide) (by decide), f1 10 (by decide) (by decide) (by decide)]
    have o9 : z2 9 q = 0 := by rw [z2r 9 (by decide) (by decide) (by decide) (by decide)]; exact v9 q hq
    rw [Wo 49 (by decide), Wo 45 (by decide), Wo 46 (by decide), Wo 47 (by decide), Wo 48 (by decide), tb_Fk hk1, s7, s8, s9, s10, t9, o7, o8, o9, o10, z24]
    unfold Pl
    rw [t5, t6, t7, t8]
    by_cases c : q < k1
    · obtain ⟨x0, y0⟩ := r4 q c 0 (by decide)
      obtain ⟨x1, y1⟩ := r4 q c 1 (by decide)
      obtain ⟨x2, y2⟩ := r4 q c 2 (by decide)
      obtain ⟨x3, y3⟩ := r4 q c 3 (by decide)
      have y0 : 0 ≤ ζ 43 (4 * q + 0) ∧ ζ 43 (4 * q + 0) ≤ 299 := y0
      have y1 : 0 ≤ ζ 43 (4 * q + 1) ∧ ζ 43 (4 * q + 1) ≤ 299 := y1
      have y2 : 1 ≤ ζ 43 (4 * q + 2) ∧ ζ 43 (4 * q + 2) ≤ 99999 := y2
      have y3 : 0 ≤ ζ 43 (4 * q + 3) ∧ ζ 43 (4 * q + 3) ≤ 3 := y3
      rw [decide_eq_true c]
      simp only [c, if_true, x0, x1, x2, x3]
      exact ⟨trivial, ⟨trivial, trivial, trivial, trivial⟩, ⟨⟨by omega, by omega⟩, by omega, by omega⟩, y3, ⟨by omega, y2.2⟩, fun _ => y2.1⟩
    · rw [decide_eq_false c]
      simp only [c, if_false, Bool.false_eq_true]
      exact ⟨trivial, ⟨b2, b3, b4, trivial⟩, b6, b7, b8, fun e => False.elim e⟩
  have z3o : ∀ k, ¬ (6 ≤ k ∧ k ≤ 11) → z3 k = z2 k := f3
  have jT : RelT z3 W0 0 0 := ⟨by omega, by rw [z3o 0 (by omega)]; exact z2_04, w27, fun t ht => by omega⟩
  have z1o : ∀ k, ¬ (6 ≤ k ∧ k ≤ 11) → z1 k = z k := fun k a => f1 k (by omega) (by omega) (by omega)
  have jL : RelL z3 W0 0 0 := by
    unfold RelL
    rw [z3o 13 (by omega), z3o 14 (by omega), z3o 15 (by omega), z3o 16 (by omega), z2_132, z2_131, z2_152, z2_151, w28, w32_, w34, z1o 13 (by omega), z1o 15 (by omega)]
    exact ⟨⟨rfl, LgP.z, hL.1.2.2⟩, LgP.z, hL.2.2⟩
  have jO : RelO z3 W0 := by
    obtain ⟨o1, o2, o3⟩ := hO
    have x1 : z3 1 = z 1 := by rw [z3o 1 (by omega), z3r 1 (by decide) (by decide)]
    have x2 : z3 2 = z 2 := by rw [z3o 2 (by omega), z3r 2 (by decide) (by decide)]
    have x3 : z3 3 = z 3 := by rw [z3o 3 (by omega), z3r 3 (by decide) (by decide)]
    unfold RelO
    rw [x1, x2, x3, W41 2 (by decide) (by decide) (by decide) (by decide) (by decide), W41 15 (by decide) (by decide) (by decide) (by decide) (by decide), W41 16 (by decide) (by decide) (by decide) (by decide) (by decide), Wo 42 (by decide), p1 42 (by decide), w30]
    exact ⟨o1, o2, by rw [z3o 17 (by omega)]; exact z2_17, Or.inl rfl⟩
  have z33 : z3 3 = z 3 := by rw [z3o 3 (by omega), z3r 3 (by decide) (by decide)]
  have z35 : z3 5 = z 5 := by rw [z3o 5 (by omega), z3r 5 (by decide) (by decide)]
  obtain ⟨z', e4, iB, iT, iL, iO, iQ, i3⟩ := dTreats_n (z := z3) hk2 jB jT jL jO (by rw [z33]; exact h6) (fun t ht j hj => by
    obtain ⟨x, y⟩ := r5 t ht j hj
    rw [z35, x]
    exact y)
  rw [z35] at iB iT iL iO iQ
  -- both looks are the same
  have p44 : ζ1 44 = ζ 44 := p1 44 (by decide)
  have hAW : looksM A k2 = Wk W0 (z 5) k2 := by
    refine looks_Wk (fun k j c1 c2 => ?_) (fun t ht => ?_) (fun x j c1 c2 c3 => ?_) w27 a27
    · by_cases e : k = 41
      · subst e
        by_cases c28 : j = 28
        · rw [c28, a28, w28]
        by_cases c30 : j = 30
        · rw [c30, a30, w30]
        by_cases c32 : j = 32
        · rw [c32, a32, w32_]
        by_cases c34 : j = 34
        · rw [c34, a34, w34]
        rw [A41 j (by omega) c28 c30 c32 c34, W41 j (by omega) c28 c30 c32 c34]
      · rw [Ao k e, Wo k e, p2 k (by omega), up_k e]
    · obtain ⟨x50, x51, x52, x53, x54⟩ := q2 t
      obtain ⟨y0, -⟩ := r5 t ht 0 (by decide)
      obtain ⟨y1, -⟩ := r5 t ht 1 (by decide)
      obtain ⟨y2, -⟩ := r5 t ht 2 (by decide)
      rw [Ao 50 (by decide), Ao 51 (by decide), Ao 52 (by decide), Ao 53 (by decide), Ao 54 (by decide), x50, x51, x52, x53, x54, if_pos ht, if_pos ht, if_pos ht, if_pos ht, if_pos ht, up_k (by decide : (44 : Nat) ≠ 41), p44, y0, y1, y2]
      exact ⟨rfl, rfl, rfl, rfl, rfl⟩
    · obtain ⟨x50, x51, x52, x53, x54⟩ := q2 j
      have nj : ¬ j < k2 := by omega
      rw [if_neg nj] at x50 x51 x52 x53 x54
      rw [Ao x (by omega), Wo x (by omega)]
      rcases (show x = 50 ∨ x = 51 ∨ x = 52 ∨ x = 53 ∨ x = 54 by omega) with e | e | e | e | e
      · rw [e, x50, up_k (by decide)]
      · rw [e, x51, up_k (by decide)]
      · rw [e, x52, up_k (by decide)]
      · rw [e, x53, up_k (by decide)]
      · rw [e, x54, up_k (by decide)]
  have mA : MRow A := (MRow.of jB).cg fun k a b => by rw [Ao k (by omega), Wo k (by omega), p2 k (by omega), up_k (by omega)]
  obtain ⟨ζ', e5, s5⟩ := looks_n (σ := A) (N := k2) hk2 a27 mA (fun t ht => by
    have := (iT.2.2.2 t ht).1.2.1
    rw [← hAW] at this
    exact this.cg fun k a b => (looksM_k (by omega) k2).symm) (fun t ht => by
    rw [Ao 53 (by decide), (q2 t).2.2.2.1, if_pos ht]
    decide) (by rw [a32]; decide)
  rw [hAW] at s5
  rw [e4, e5, Option.bind_some]
  refine ⟨z', ζ', rfl, rfl, Rl.of (F := Fk k1) (N := k2) (Rn.ss (n := n + 1) ⟨iB, ⟨iT.1, iT.2.1, iT.2.2.1, fun t ht => ?_⟩, ⟨⟨iL.1.1, iL.1.2.1.mono (by omega), iL.1.2.2⟩, iL.2.1.mono (by omega), iL.2.2⟩, iO, iQ⟩ s5.ss), i3.trans z33, ?_⟩
  · obtain ⟨x, y1, y2, y3, y4⟩ := iT.2.2.2 t ht
    exact ⟨x, y1, y2, y3, by omega⟩
  · rw [s5 41 7 (by omega), ← hAW, looksM_41 (by decide), A41 7 (by decide) (by decide) (by decide) (by decide) (by decide)]
theorem Eq_text_n : Eq_text Rl := by
  intro n σd σm a1 hn hR ha1
  obtain ⟨F, N, h⟩ := hR
  have h : Rn n σd σm F N := h
  have h1 := h.m0
  have hs := h.ask (z' := σd) (ζ' := up σm 41 0 0) SD.rf ss0
  unfold f_X9_text f_X10_text wr
  dsimp only
  generalize up σm 41 0 0 = ζ at *
  obtain ⟨⟨tl, tb, tB⟩, tf, tst⟩ := h1.2.2.2.1
  rw [← tl, w32_eq (z := a1) ha1, w32_eq (z := σd 1 1) ⟨by omega, by omega⟩]
  by_cases c1 : a1 < 0
  · rw [if_pos c1, if_pos c1]
    exact ⟨_, _, rfl, rfl, rfl, hs⟩
  rw [if_neg c1, if_neg c1]
  by_cases c2 : a1 ≤ σd 1 1
  · rw [if_pos c2, if_pos c2]
    obtain ⟨m, hme⟩ : ∃ m : Nat, a1 = (m : Int) := ⟨a1.toNat, by omega⟩
    subst hme
    obtain ⟨z', ζ', e1, e2, f1, f2, k⟩ := read_n (z := σd) (ζ := ζ) (B := ζ 42) (n := m) (by omega) (fun j hj => (tB j hj).2) (fun j hj => (tB j hj).1) (fun j hj => rfl)
    rw [e1, Option.bind_some, e2, Option.bind_some]
    have zr : ∀ k, k ≠ 1 → k ≠ 3 → k ≠ 4 → k ≠ 5 → up z' 1 1 0 k = σd k := fun k q1 q2 q3 q4 => by
      rw [up_k q1]
      funext j
      exact f1 k j (by omega) q3 q4
    have z2' : z' 2 = σd 2 := funext fun j => f1 2 j (by omega) (by decide) (by decide)
    have z17' : z' 17 = σd 17 := funext fun j => f1 17 j (by omega) (by decide) (by decide)
    have m42 : ζ' 42 = ζ 42 := funext fun j => f2 42 j (by omega) (by decide) (by decide)
    have m55 : ζ' 55 = ζ 55 := funext fun j => f2 55 j (by omega) (by decide) (by decide)
    have m30 : ζ' 41 30 = ζ 41 30 := f2 41 30 (by omega) (by decide) (by decide)
    have rel : ∀ u : Sg, (∀ k j, ¬ (k = 41 ∧ (j = 2 ∨ j = 15 ∨ j = 16)) → u k j = ζ' k j) → u 41 2 = 0 → up z' 1 1 0 3 7 = u 41 15 → up z' 1 1 0 3 8 = u 41 16 → Rn n (up z' 1 1 0) u F N := fun u hu h2 h15 h16 => by
      refine h1.io zr (fun k j q1 q2 q3 => ?_) ⟨⟨?_, ?_, fun j hj => ?_⟩, ⟨h15, h16⟩, ?_⟩
      · rw [hu k j (by omega), f2 k j (by omega) q2 q3]
      · rw [up_s, h2]
      · rw [up_s]
        decide
      · rw [up_k (by decide), z2', show u 42 = ζ 42 from funext fun j => (hu 42 j (by omega)).trans (congrFun m42 j)]
        exact tB j hj
      · rw [up_k (by decide), z17', hu 41 30 (by omega), m30, show u 55 = ζ 55 from funext fun j => (hu 55 j (by omega)).trans (congrFun m55 j)]
        exact tst
    have u13 : ∀ v : Int, up (up ζ' 41 2 0) 41 15 v 41 13 = ζ' 41 13 := fun v => by rw [up_j (by decide), up_j (by decide)]
    have u14 : ∀ v : Int, up (up ζ' 41 2 0) 41 15 v 41 14 = ζ' 41 14 := fun v => by rw [up_j (by decide), up_j (by decide)]
    have s13 : up ζ' 41 2 0 41 13 = ζ' 41 13 := by rw [up_j (by decide)]
    have z37 : up z' 1 1 0 3 = z' 3 := up_k (by decide)
    rw [s13, u13, u14, z37]
    unfold f_X10_text_b54 wr
    dsimp only
    have v13 : ∀ v w : Int, up (up (up ζ' 41 2 0) 41 15 v) 41 16 w 41 13 = ζ' 41 13 := fun v w => by rw [up_j (by decide), up_j (by decide), up_j (by decide)]
    have fr : ∀ v w : Int, ∀ k j, ¬ (k = 41 ∧ (j = 2 ∨ j = 15 ∨ j = 16)) → up (up (up ζ' 41 2 0) 41 15 v) 41 16 w k j = ζ' k j := fun v w k j q => by
      by_cases e : k = 41
      · subst e
        rw [up_j (by omega), up_j (by omega), up_j (by omega)]
      · rw [up_k e, up_k e, up_k e]
    have g2 : ∀ v w : Int, up (up (up ζ' 41 2 0) 41 15 v) 41 16 w 41 2 = 0 := fun v w => by rw [up_j (by decide), up_j (by decide), up_s]
    have g15 : ∀ v w : Int, up (up (up ζ' 41 2 0) 41 15 v) 41 16 w 41 15 = v := fun v w => by rw [up_j (by decide), up_s]
    rw [v13, v13]
    rcases k with k | ⟨k1, k2, p, dz, mz, h4, hT, ⟨z5, m5, k15⟩, ⟨z6, m6, k26⟩, m7, ⟨z7, z8⟩, m13, r4, r5⟩
    · have n7 := flt_ne k.2.2.1
      have n13 := flt_ne k.m
      rw [if_neg n7, if_neg n13, if_neg n13]
      refine ⟨_, _, rfl, rfl, rfl, Rl.of ((rel _ (fr _ _) (g2 _ _) ?_ ?_).mono (Nat.le_succ n))⟩
      · rw [z37, g15]
        exact k.1
      · rw [z37, up_s]
        exact k.2.1
    · rw [z7, m13, if_pos (show w32 0 = 0 by decide), if_pos (show w32 0 = 0 by decide), if_pos (show w32 0 = 0 by decide)]
      have hR := rel _ (fr 0 (-1)) (g2 0 (-1)) (by rw [z37, g15]; exact z7) (by rw [z37, up_s]; exact z8)
      have fu := fr 0 (-1)
      generalize up (up (up ζ' 41 2 0) 41 15 0) 41 16 (-1) = u at *
      have u43 : u 43 = ζ' 43 := funext fun j => fu 43 j (by omega)
      have u44 : u 44 = ζ' 44 := funext fun j => fu 44 j (by omega)
      obtain ⟨z2, ζ2, e3, e4, hl, y3, y7⟩ := anew_n hR (by rw [z37]; exact z5) (by rw [fu 41 5 (by omega)]; exact m5) k15 (by rw [z37]; exact z6) (by rw [fu 41 6 (by omega)]; exact m6) k26 (fun i hi j hj => by rw [up_k (by decide), u43]; exact r4 i hi j hj) (fun i hi j hj => by rw [up_k (by decide), u44]; exact r5 i hi j hj)
      rw [e3, Option.bind_some, e4, Option.bind_some]
      refine ⟨_, _, rfl, rfl, ?_, hl⟩
      dsimp only
      rw [y3, z37, z5, z6, y7, fu 41 7 (by omega), m7]
  · rw [if_neg c2, if_neg c2]
    exact ⟨_, _, rfl, rfl, rfl, hs⟩
