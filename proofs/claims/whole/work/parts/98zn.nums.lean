/-! ===== pure level: text, a line's numbers side by side ===== -/
theorem tab0 : ∀ i, i < 4 → 0 ≤ (zTabs 0).2.2 i ∧ (zTabs 0).2.2 i ≤ (zTabs 1).2.2 i ∧ (zTabs 1).2.2 i ≤ 9999999 := by decide
theorem tab2 : ∀ i, i < 3 → 0 ≤ (zTabs 2).2.2 i ∧ (zTabs 2).2.2 i ≤ (zTabs 3).2.2 i ∧ (zTabs 3).2.2 i ≤ 9999999 := by decide
def Rng (a b i : Nat) (v : Int) : Prop := (zTabs a).2.2 i ≤ v ∧ v ≤ (zTabs b).2.2 i
theorem pol_n {z ζ : Sg} {B : Nat → Int} {n e p k : Nat} (hn : n ≤ 900) (hB : ByP B) (hz : DOk B n z) (hM : MOk B n ζ) (h4 : z 3 4 = (e : Int)) (h9 : ζ 41 9 = (e : Int)) (h10 : ζ 41 10 = (p : Int)) (hpe : p < e) (hen : e ≤ n) (z7 : z 3 7 = 0) (z8 : z 3 8 = -1) (m13 : ζ 41 13 = 0) (mk : ζ 41 5 = (k : Int)) (hk : k ≤ 24) :
    ∃ z' ζ', f_X4_readNumbers_4_z0_z1 (p : Int) (k : Int) z = some z' ∧ f_X10_readOne ζ = some ζ' ∧ FrP z z' ∧ FrQ ζ ζ' ∧ (∀ j, ¬ (4 * k ≤ j ∧ j < 4 * k + 4) → z' 4 j = z 4 j ∧ ζ' 43 j = ζ 43 j) ∧ (z' 5 = z 5 ∧ ζ' 44 = ζ 44 ∧ ζ' 41 6 = ζ 41 6) ∧
      ((k < 24 ∧ ζ' 41 5 = (k : Int) + 1 ∧ Go z' ζ' B n p ∧ ∀ j, j < 4 → z' 4 (4 * k + j) = ζ' 43 (4 * k + j) ∧ Rng 0 1 j (ζ' 43 (4 * k + j))) ∨ (Flt z' ζ' n)) := by
  unfold f_X4_readNumbers_4_z0_z1 f_X10_readOne
  rw [mk, w32_n (by omega), w32_eq (z := (k : Int) * 4) ⟨by omega, by omega⟩]
  by_cases c : k = 24
  · have g13 : up (up ζ 41 13 2) 41 14 (ζ 41 10) 41 13 = 2 := by rw [up_j (by decide), up_s]
    rw [if_neg (show ¬ (k : Int) * 4 < 96 by omega), complain_n z7, Option.bind_some, if_pos (show (k : Int) = 24 by omega), wrong_n m13, Option.bind_some]
    unfold f_X4_readNumbers_4_z0_z1_b20 f_X10_readOne_b14
    have q7 : up (up z 3 7 2) 3 8 (p : Int) 3 7 = 2 := by rw [up_j (by decide), up_s]
    have e0 : f_X4_readNumbers_4_z0_z1_b23 FUEL ((k : Int) * 4) 0 (up (up z 3 7 2) 3 8 (p : Int)) = some (up (up z 3 7 2) 3 8 (p : Int)) := d4_f (m := 999999) (i := 0) (by decide) (Or.inl (Or.inr q7))
    rw [e0, goOn_f (Or.inr g13), Option.bind_some]
    rw [numeral_f (Or.inr g13), Option.bind_some]
    dsimp only
    rw [numeral_f (Or.inr g13), Option.bind_some]
    dsimp only
    rw [numeral_f (Or.inr g13), Option.bind_some]
    dsimp only
    rw [numeral_f (Or.inr g13), Option.bind_some]
    dsimp only
    rw [if_neg (flt_ne (Or.inr g13))]
    refine ⟨_, _, rfl, rfl, ((FrC.rf.up (Or.inr (Or.inl rfl))).up (Or.inr (Or.inr rfl))).p, ((FrN.rf.up (j := 13) (by decide)).up (by decide)).q, fun j _ => ⟨by rw [up_k (by decide), up_k (by decide)], by rw [up_k (by decide), up_k (by decide)]⟩, ⟨by rw [up_k (by decide), up_k (by decide)], by rw [up_k (by decide), up_k (by decide)], by rw [up_j (by decide), up_j (by decide)]⟩, Or.inr ⟨?_, ?_, ?_, ?_, e, ?_, hen⟩⟩
    · rw [q7, g13]
    · rw [up_s, up_s, h10]
    · exact Or.inr q7
    · rw [up_s]
      omega
    · rw [up_j (by decide), up_j (by decide)]
      exact h4
  rw [if_pos (show (k : Int) * 4 < 96 by omega), if_neg (show ¬ (k : Int) = 24 by omega)]
  unfold f_X4_readNumbers_4_z0_z1_b20 f_X10_readOne_b14
  obtain ⟨p1, ζ0, g1, g2, g3, g4⟩ := goOn_n hn hB hM m13 h9 hen
  have G0 : Go z ζ0 B n p := ⟨z7, z8, by rw [g2 41 13 (by omega)]; exact m13, hz, g2.n.mok hM, e, p1, h4, g3, hpe, g4⟩
  rw [g1, Option.bind_some]
  have f0 : FrN ζ ζ0 := g2.n
  have p0 : FrP z z := fun _ _ _ _ _ => rfl
  have ix : ∀ i : Nat, ((k : Int) * 4 + (i : Int)).toNat = 4 * k + i := fun i => by omega
  -- both have complained: nothing more is read
  have stop : ∀ (m i : Nat) (u : Sg), i ≤ 4 → (u 3 7 = 1 ∨ u 3 7 = 2) → f_X4_readNumbers_4_z0_z1_b23 (m + 1) ((k : Int) * 4) (i : Int) u = some u := fun m i u hi h => d4_f hi (Or.inl h)
  have s0 : ∀ m, f_X4_readNumbers_4_z0_z1_b23 (m + 1) ((k : Int) * 4) 0 z = f_X4_readNumbers_4_z0_z1_b23 (m + 1) ((k : Int) * 4) ((0 : Nat) : Int) z := fun m => rfl
  have r0 : ∀ j, ¬ (4 * k ≤ j ∧ j < 4 * k + 4) → z 4 j = z 4 j := fun _ _ => rfl
  obtain ⟨c0, y0, v0, x0, a0, b0, fc0, fn0, k0⟩ := num_s (least := 0) (most := 299) hn hB G0 (by decide) (by decide)
  have a0 : f_X4_readNumber ((zTabs 0).2.2 0) ((zTabs 1).2.2 0) z = some (c0, y0) := a0
  have e0 : f_X4_readNumbers_4_z0_z1_b23 1000000 ((k : Int) * 4) ((0 : Nat) : Int) z = f_X4_readNumbers_4_z0_z1_b23 999999 ((k : Int) * 4) ((1 : Nat) : Int) (up y0 4 (4 * k + 0) c0) := by
    have := d4_st (m := 999999) (i := 0) (v6 := (k : Int) * 4) (by decide) ⟨by omega, by omega⟩ G0.1 a0
    rw [ix 0] at this
    exact this
  have p1_ : FrP z (up y0 4 (4 * k + 0) c0) := (p0.tr fc0.p).up4
  have f1 : FrN ζ x0 := f0.tr fn0
  have r1 : ∀ j, ¬ (4 * k ≤ j ∧ j < 4 * k + 4) → up y0 4 (4 * k + 0) c0 4 j = z 4 j := fun j hj => by
    rw [up_j (by omega), fc0 4 j (by omega)]
  have o1 : up y0 4 (4 * k + 0) c0 5 = z 5 := by
    rw [up_k (by decide)]
    funext j
    rw [fc0 5 j (by omega)]
  rcases k0.symm with hf | ⟨hcv0, hr0, G1_⟩
  · have hf2 : Flt (up y0 4 (4 * k + 0) c0) x0 n := hf.cg up4_3 rfl rfl
    have ed : f_X4_readNumbers_4_z0_z1_b23 FUEL ((k : Int) * 4) 0 z = some (up y0 4 (4 * k + 0) c0) := by
      show f_X4_readNumbers_4_z0_z1_b23 1000000 ((k : Int) * 4) ((0 : Nat) : Int) z = _
      rw [e0]
      exact stop 999998 1 _ (by decide) hf2.2.2.1
    rw [ed, b0, Option.bind_some]
    dsimp only
    rw [numeral_f hf2.m, Option.bind_some]
    dsimp only
    rw [numeral_f hf2.m, Option.bind_some]
    dsimp only
    rw [numeral_f hf2.m, Option.bind_some]
    dsimp only
    rw [if_neg (flt_ne hf2.m)]
    exact ⟨_, _, rfl, rfl, p1_, f1.q, fun j hj => ⟨r1 j hj, f1 43 j (by omega)⟩, ⟨o1, funext fun j => f1 44 j (by omega), f1 41 6 (by omega)⟩, Or.inr hf2⟩
  have G1 : Go (up y0 4 (4 * k + 0) c0) x0 B n p := G1_.cg up4_3 (up_k (by decide)) (fun _ _ _ => rfl) rfl
  obtain ⟨c1, y1, v1, x1, a1, b1, fc1, fn1, k1⟩ := num_s (least := 0) (most := 299) hn hB G1 (by decide) (by decide)
  have a1 : f_X4_readNumber ((zTabs 0).2.2 1) ((zTabs 1).2.2 1) (up y0 4 (4 * k + 0) c0) = some (c1, y1) := a1
  have e1 : f_X4_readNumbers_4_z0_z1_b23 999999 ((k : Int) * 4) ((1 : Nat) : Int) (up y0 4 (4 * k + 0) c0) = f_X4_readNumbers_4_z0_z1_b23 999998 ((k : Int) * 4) ((2 : Nat) : Int) (up y1 4 (4 * k + 1) c1) := by
    have := d4_st (m := 999998) (i := 1) (v6 := (k : Int) * 4) (by decide) ⟨by omega, by omega⟩ G1.1 a1
    rw [ix 1] at this
    exact this
  have p2_ : FrP z (up y1 4 (4 * k + 1) c1) := (p1_.tr fc1.p).up4
  have f2 : FrN ζ x1 := f1.tr fn1
  have r2 : ∀ j, ¬ (4 * k ≤ j ∧ j < 4 * k + 4) → up y1 4 (4 * k + 1) c1 4 j = z 4 j := fun j hj => by
    rw [up_j (by omega), fc1 4 j (by omega)]
    exact r1 j hj
  have o2 : up y1 4 (4 * k + 1) c1 5 = z 5 := by
    rw [up_k (by decide)]
    funext j
    rw [fc1 5 j (by omega)]
    rw [o1]
  rcases k1.symm with hf | ⟨hcv1, hr1, G2_⟩
  · have hf2 : Flt (up y1 4 (4 * k + 1) c1) x1 n := hf.cg up4_3 rfl rfl
    have ed : f_X4_readNumbers_4_z0_z1_b23 FUEL ((k : Int) * 4) 0 z = some (up y1 4 (4 * k + 1) c1) := by
      show f_X4_readNumbers_4_z0_z1_b23 1000000 ((k : Int) * 4) ((0 : Nat) : Int) z = _
      rw [e0, e1]
      exact stop 999997 2 _ (by decide) hf2.2.2.1
    rw [ed, b0, Option.bind_some, b1, Option.bind_some]
    dsimp only
    rw [numeral_f hf2.m, Option.bind_some]
    dsimp only
    rw [numeral_f hf2.m, Option.bind_some]
    dsimp only
    rw [if_neg (flt_ne hf2.m)]
    exact ⟨_, _, rfl, rfl, p2_, f2.q, fun j hj => ⟨r2 j hj, f2 43 j (by omega)⟩, ⟨o2, funext fun j => f2 44 j (by omega), f2 41 6 (by omega)⟩, Or.inr hf2⟩
  have G2 : Go (up y1 4 (4 * k + 1) c1) x1 B n p := G2_.cg up4_3 (up_k (by decide)) (fun _ _ _ => rfl) rfl
  obtain ⟨c2, y2, v2, x2, a2, b2, fc2, fn2, k2⟩ := num_s (least := 1) (most := 99999) hn hB G2 (by decide) (by decide)
  have a2 : f_X4_readNumber ((zTabs 0).2.2 2) ((zTabs 1).2.2 2) (up y1 4 (4 * k + 1) c1) = some (c2, y2) := a2
  have e2 : f_X4_readNumbers_4_z0_z1_b23 999998 ((k : Int) * 4) ((2 : Nat) : Int) (up y1 4 (4 * k + 1) c1) = f_X4_readNumbers_4_z0_z1_b23 999997 ((k : Int) * 4) ((3 : Nat) : Int) (up y2 4 (4 * k + 2) c2) := by
    have := d4_st (m := 999997) (i := 2) (v6 := (k : Int) * 4) (by decide) ⟨by omega, by omega⟩ G2.1 a2
    rw [ix 2] at this
    exact this
  have p3_ : FrP z (up y2 4 (4 * k + 2) c2) := (p2_.tr fc2.p).up4
  have f3 : FrN ζ x2 := f2.tr fn2
  have r3 : ∀ j, ¬ (4 * k ≤ j ∧ j < 4 * k + 4) → up y2 4 (4 * k + 2) c2 4 j = z 4 j := fun j hj => by
    rw [up_j (by omega), fc2 4 j (by omega)]
    exact r2 j hj
  have o3 : up y2 4 (4 * k + 2) c2 5 = z 5 := by
    rw [up_k (by decide)]
    funext j
    rw [fc2 5 j (by omega)]
    rw [o2]
  rcases k2.symm with hf | ⟨hcv2, hr2, G3_⟩
  · have hf2 : Flt (up y2 4 (4 * k + 2) c2) x2 n := hf.cg up4_3 rfl rfl
    have ed : f_X4_readNumbers_4_z0_z1_b23 FUEL ((k : Int) * 4) 0 z = some (up y2 4 (4 * k + 2) c2) := by
      show f_X4_readNumbers_4_z0_z1_b23 1000000 ((k : Int) * 4) ((0 : Nat) : Int) z = _
      rw [e0, e1, e2]
      exact stop 999996 3 _ (by decide) hf2.2.2.1
    rw [ed, b0, Option.bind_some, b1, Option.bind_some, b2, Option.bind_some]
    dsimp only
    rw [numeral_f hf2.m, Option.bind_some]
    dsimp only
    rw [if_neg (flt_ne hf2.m)]
    exact ⟨_, _, rfl, rfl, p3_, f3.q, fun j hj => ⟨r3 j hj, f3 43 j (by omega)⟩, ⟨o3, funext fun j => f3 44 j (by omega), f3 41 6 (by omega)⟩, Or.inr hf2⟩
  have G3 : Go (up y2 4 (4 * k + 2) c2) x2 B n p := G3_.cg up4_3 (up_k (by decide)) (fun _ _ _ => rfl) rfl
  obtain ⟨c3, y3, v3, x3, a3, b3, fc3, fn3, k3⟩ := num_s (least := 0) (most := 3) hn hB G3 (by decide) (by decide)
  have a3 : f_X4_readNumber ((zTabs 0).2.2 3) ((zTabs 1).2.2 3) (up y2 4 (4 * k + 2) c2) = some (c3, y3) := a3
  have e3 : f_X4_readNumbers_4_z0_z1_b23 999997 ((k : Int) * 4) ((3 : Nat) : Int) (up y2 4 (4 * k + 2) c2) = f_X4_readNumbers_4_z0_z1_b23 999996 ((k : Int) * 4) ((4 : Nat) : Int) (up y3 4 (4 * k + 3) c3) := by
    have := d4_st (m := 999996) (i := 3) (v6 := (k : Int) * 4) (by decide) ⟨by omega, by omega⟩ G3.1 a3
    rw [ix 3] at this
    exact this
  have p4_ : FrP z (up y3 4 (4 * k + 3) c3) := (p3_.tr fc3.p).up4
  have f4 : FrN ζ x3 := f3.tr fn3
  have r4 : ∀ j, ¬ (4 * k ≤ j ∧ j < 4 * k + 4) → up y3 4 (4 * k + 3) c3 4 j = z 4 j := fun j hj => by
    rw [up_j (by omega), fc3 4 j (by omega)]
    exact r3 j hj
  have o4 : up y3 4 (4 * k + 3) c3 5 = z 5 := by
    rw [up_k (by decide)]
    funext j
    rw [fc3 5 j (by omega)]
    rw [o3]
  rcases k3.symm with hf | ⟨hcv3, hr3, G4_⟩
  · have hf2 : Flt (up y3 4 (4 * k + 3) c3) x3 n := hf.cg up4_3 rfl rfl
    have ed : f_X4_readNumbers_4_z0_z1_b23 FUEL ((k : Int) * 4) 0 z = some (up y3 4 (4 * k + 3) c3) := by
      show f_X4_readNumbers_4_z0_z1_b23 1000000 ((k : Int) * 4) ((0 : Nat) : Int) z = _
      rw [e0, e1, e2, e3]
      exact stop 999995 4 _ (by decide) hf2.2.2.1
    rw [ed, b0, Option.bind_some, b1, Option.bind_some, b2, Option.bind_some, b3, Option.bind_some]
    dsimp only
    rw [if_neg (flt_ne hf2.m)]
    exact ⟨_, _, rfl, rfl, p4_, f4.q, fun j hj => ⟨r4 j hj, f4 43 j (by omega)⟩, ⟨o4, funext fun j => f4 44 j (by omega), f4 41 6 (by omega)⟩, Or.inr hf2⟩
  have G4 : Go (up y3 4 (4 * k + 3) c3) x3 B n p := G4_.cg up4_3 (up_k (by decide)) (fun _ _ _ => rfl) rfl
  have ed : f_X4_readNumbers_4_z0_z1_b23 FUEL ((k : Int) * 4) 0 z = some (up y3 4 (4 * k + 3) c3) := by
    show f_X4_readNumbers_4_z0_z1_b23 1000000 ((k : Int) * 4) ((0 : Nat) : Int) z = _
    rw [e0, e1, e2, e3]
    exact d4_f (m := 999995) (i := 4) (by decide) (Or.inr rfl)
  rw [ed, b0, Option.bind_some, b1, Option.bind_some, b2, Option.bind_some, b3, Option.bind_some]
  dsimp only
  have m5 : x3 41 5 = (k : Int) := by rw [f4 41 5 (by omega)]; exact mk
  have h130 : w32 (x3 41 13) = 0 := by
    rw [G4.2.2.1]
    decide
  rw [if_pos h130]
  simp only [m5]
  rw [ck_t (by omega)]
  unfold wr
  dsimp only
  rw [ck_t (by omega)]
  rw [ck_t (by omega)]
  rw [ck_t (by omega)]
  have t0 : (4 * (k : Int)).toNat = 4 * k := by omega
  have t1 : (4 * (k : Int) + 1).toNat = 4 * k + 1 := by omega
  have t2 : (4 * (k : Int) + 2).toNat = 4 * k + 2 := by omega
  have t3 : (4 * (k : Int) + 3).toNat = 4 * k + 3 := by omega
  rw [t0, t1, t2, t3]
  obtain ⟨w1, hw1⟩ : ∃ w1, w1 = up (up (up (up x3 43 (4 * k) v0) 43 (4 * k + 1) v1) 43 (4 * k + 2) v2) 43 (4 * k + 3) v3 := ⟨_, rfl⟩
  rw [← hw1]
  have w41 : w1 41 = x3 41 := by rw [hw1, up_k (by decide), up_k (by decide), up_k (by decide), up_k (by decide)]
  have wo : ∀ j, ¬ (4 * k ≤ j ∧ j < 4 * k + 4) → w1 43 j = ζ 43 j := fun j hj => by
    rw [hw1, up_j (by omega), up_j (by omega), up_j (by omega), up_j (by omega)]
    exact f4 43 j (by omega)
  have w_0 : w1 43 (4 * k + 0) = v0 := by
    rw [hw1, up_j (by omega), up_j (by omega), up_j (by omega)]
    exact up_s
  have w_1 : w1 43 (4 * k + 1) = v1 := by
    rw [hw1, up_j (by omega), up_j (by omega)]
    exact up_s
  have w_2 : w1 43 (4 * k + 2) = v2 := by
    rw [hw1, up_j (by omega)]
    exact up_s
  have w_3 : w1 43 (4 * k + 3) = v3 := by
    rw [hw1]
    exact up_s
  have d_0 : (up y3 4 (4 * k + 3) c3) 4 (4 * k + 0) = c0 := by
    rw [up_j (by omega), fc3 4 _ (by omega), up_j (by omega), fc2 4 _ (by omega), up_j (by omega), fc1 4 _ (by omega)]
    exact up_s
  have d_1 : (up y3 4 (4 * k + 3) c3) 4 (4 * k + 1) = c1 := by
    rw [up_j (by omega), fc3 4 _ (by omega), up_j (by omega), fc2 4 _ (by omega)]
    exact up_s
  have d_2 : (up y3 4 (4 * k + 3) c3) 4 (4 * k + 2) = c2 := by
    rw [up_j (by omega), fc3 4 _ (by omega)]
    exact up_s
  have d_3 : (up y3 4 (4 * k + 3) c3) 4 (4 * k + 3) = c3 := by
    exact up_s
  have fq : FrQ ζ w1 := by
    rw [hw1]
    exact f4.q.up43.up43.up43.up43
  have h43 : w1 41 5 = (k : Int) := by rw [w41]; exact m5
  rw [h43]
  refine ⟨_, _, rfl, rfl, p4_, fq.up41 (by decide), fun j hj => ⟨r4 j hj, by rw [up_k (by decide)]; exact wo j hj⟩, ⟨o4, ?_, ?_⟩, Or.inl ⟨by omega, up_s, G4.cg rfl rfl (fun j _ _ => by rw [up_j (by omega), w41]) ?_, fun j hj => ?_⟩⟩
  · rw [up_k (by decide), hw1, up_k (by decide), up_k (by decide), up_k (by decide), up_k (by decide)]
    funext j
    exact f4 44 j (by omega)
  · rw [up_j (by decide), w41]
    exact f4 41 6 (by omega)
  · rw [up_k (by decide), hw1, up_k (by decide), up_k (by decide), up_k (by decide), up_k (by decide)]
  · rw [up_k (by decide : (43 : Nat) ≠ 41)]
    rcases (show j = 0 ∨ j = 1 ∨ j = 2 ∨ j = 3 by omega) with rfl | rfl | rfl | rfl
    · rw [d_0, w_0, ← hcv0]
      exact ⟨rfl, hr0⟩
    · rw [d_1, w_1, ← hcv1]
      exact ⟨rfl, hr1⟩
    · rw [d_2, w_2, ← hcv2]
      exact ⟨rfl, hr2⟩
    · rw [d_3, w_3, ← hcv3]
      exact ⟨rfl, hr3⟩
theorem tre_n {z ζ : Sg} {B : Nat → Int} {n e p k : Nat} (hn : n ≤ 900) (hB : ByP B) (hz : DOk B n z) (hM : MOk B n ζ) (h4 : z 3 4 = (e : Int)) (h9 : ζ 41 9 = (e : Int)) (h10 : ζ 41 10 = (p : Int)) (hpe : p < e) (hen : e ≤ n) (z7 : z 3 7 = 0) (z8 : z 3 8 = -1) (m13 : ζ 41 13 = 0) (mk : ζ 41 6 = (k : Int)) (hk : k ≤ 6) :
    ∃ z' ζ', f_X4_readNumbers_5_z2_z3 (p : Int) (k : Int) z = some z' ∧ f_X10_readOther ζ = some ζ' ∧ FrP z z' ∧ FrQ ζ ζ' ∧ (∀ j, ¬ (3 * k ≤ j ∧ j < 3 * k + 3) → z' 5 j = z 5 j ∧ ζ' 44 j = ζ 44 j) ∧ (z' 4 = z 4 ∧ ζ' 43 = ζ 43 ∧ ζ' 41 5 = ζ 41 5) ∧
      ((k < 6 ∧ ζ' 41 6 = (k : Int) + 1 ∧ Go z' ζ' B n p ∧ ∀ j, j < 3 → z' 5 (3 * k + j) = ζ' 44 (3 * k + j) ∧ Rng 2 3 j (ζ' 44 (3 * k + j))) ∨ (Flt z' ζ' n)) := by
  unfold f_X4_readNumbers_5_z2_z3 f_X10_readOther
  rw [mk, w32_n (by omega), w32_eq (z := (k : Int) * 3) ⟨by omega, by omega⟩]
  by_cases c : k = 6
  · have g13 : up (up ζ 41 13 2) 41 14 (ζ 41 10) 41 13 = 2 := by rw [up_j (by decide), up_s]
    rw [if_neg (show ¬ (k : Int) * 3 < 18 by omega), complain_n z7, Option.bind_some, if_pos (show (k : Int) = 6 by omega), wrong_n m13, Option.bind_some]
    unfold f_X4_readNumbers_5_z2_z3_b20 f_X10_readOther_b14
    have q7 : up (up z 3 7 2) 3 8 (p : Int) 3 7 = 2 := by rw [up_j (by decide), up_s]
    have e0 : f_X4_readNumbers_5_z2_z3_b23 FUEL ((k : Int) * 3) 0 (up (up z 3 7 2) 3 8 (p : Int)) = some (up (up z 3 7 2) 3 8 (p : Int)) := d3_f (m := 999999) (i := 0) (by decide) (Or.inl (Or.inr q7))
    rw [e0, goOn_f (Or.inr g13), Option.bind_some]
    rw [numeral_f (Or.inr g13), Option.bind_some]
    dsimp only
    rw [numeral_f (Or.inr g13), Option.bind_some]
    dsimp only
    rw [numeral_f (Or.inr g13), Option.bind_some]
    dsimp only
    rw [if_neg (flt_ne (Or.inr g13))]
    refine ⟨_, _, rfl, rfl, ((FrC.rf.up (Or.inr (Or.inl rfl))).up (Or.inr (Or.inr rfl))).p, ((FrN.rf.up (j := 13) (by decide)).up (by decide)).q, fun j _ => ⟨by rw [up_k (by decide), up_k (by decide)], by rw [up_k (by decide), up_k (by decide)]⟩, ⟨by rw [up_k (by decide), up_k (by decide)], by rw [up_k (by decide), up_k (by decide)], by rw [up_j (by decide), up_j (by decide)]⟩, Or.inr ⟨?_, ?_, ?_, ?_, e, ?_, hen⟩⟩
    · rw [q7, g13]
    · rw [up_s, up_s, h10]
    · exact Or.inr q7
    · rw [up_s]
      omega
    · rw [up_j (by decide), up_j (by decide)]
      exact h4
  rw [if_pos (show (k : Int) * 3 < 18 by omega), if_neg (show ¬ (k : Int) = 6 by omega)]
  unfold f_X4_readNumbers_5_z2_z3_b20 f_X10_readOther_b14
  obtain ⟨p1, ζ0, g1, g2, g3, g4⟩ := goOn_n hn hB hM m13 h9 hen
  have G0 : Go z ζ0 B n p := ⟨z7, z8, by rw [g2 41 13 (by omega)]; exact m13, hz, g2.n.mok hM, e, p1, h4, g3, hpe, g4⟩
  rw [g1, Option.bind_some]
  have f0 : FrN ζ ζ0 := g2.n
  have p0 : FrP z z := fun _ _ _ _ _ => rfl
  have ix : ∀ i : Nat, ((k : Int) * 3 + (i : Int)).toNat = 3 * k + i := fun i => by omega
  -- both have complained: nothing more is read
  have stop : ∀ (m i : Nat) (u : Sg), i ≤ 3 → (u 3 7 = 1 ∨ u 3 7 = 2) → f_X4_readNumbers_5_z2_z3_b23 (m + 1) ((k : Int) * 3) (i : Int) u = some u := fun m i u hi h => d3_f hi (Or.inl h)
  have s0 : ∀ m, f_X4_readNumbers_5_z2_z3_b23 (m + 1) ((k : Int) * 3) 0 z = f_X4_readNumbers_5_z2_z3_b23 (m + 1) ((k : Int) * 3) ((0 : Nat) : Int) z := fun m => rfl
  have r0 : ∀ j, ¬ (3 * k ≤ j ∧ j < 3 * k + 3) → z 5 j = z 5 j := fun _ _ => rfl
  obtain ⟨c0, y0, v0, x0, a0, b0, fc0, fn0, k0⟩ := num_s (least := 1) (most := 15) hn hB G0 (by decide) (by decide)
  have a0 : f_X4_readNumber ((zTabs 2).2.2 0) ((zTabs 3).2.2 0) z = some (c0, y0) := a0
  have e0 : f_X4_readNumbers_5_z2_z3_b23 1000000 ((k : Int) * 3) ((0 : Nat) : Int) z = f_X4_readNumbers_5_z2_z3_b23 999999 ((k : Int) * 3) ((1 : Nat) : Int) (up y0 5 (3 * k + 0) c0) := by
    have := d3_st (m := 999999) (i := 0) (v6 := (k : Int) * 3) (by decide) ⟨by omega, by omega⟩ G0.1 a0
    rw [ix 0] at this
    exact this
  have p1_ : FrP z (up y0 5 (3 * k + 0) c0) := (p0.tr fc0.p).up5
  have f1 : FrN ζ x0 := f0.tr fn0
  have r1 : ∀ j, ¬ (3 * k ≤ j ∧ j < 3 * k + 3) → up y0 5 (3 * k + 0) c0 5 j = z 5 j := fun j hj => by
    rw [up_j (by omega), fc0 5 j (by omega)]
  have o1 : up y0 5 (3 * k + 0) c0 4 = z 4 := by
    rw [up_k (by decide)]
    funext j
    rw [fc0 4 j (by omega)]
  rcases k0.symm with hf | ⟨hcv0, hr0, G1_⟩
  · have hf2 : Flt (up y0 5 (3 * k + 0) c0) x0 n := hf.cg up5_3 rfl rfl
    have ed : f_X4_readNumbers_5_z2_z3_b23 FUEL ((k : Int) * 3) 0 z = some (up y0 5 (3 * k + 0) c0) := by
      show f_X4_readNumbers_5_z2_z3_b23 1000000 ((k : Int) * 3) ((0 : Nat) : Int) z = _
      rw [e0]
      exact stop 999998 1 _ (by decide) hf2.2.2.1
    rw [ed, b0, Option.bind_some]
    dsimp only
    rw [numeral_f hf2.m, Option.bind_some]
    dsimp only
    rw [numeral_f hf2.m, Option.bind_some]
    dsimp only
    rw [if_neg (flt_ne hf2.m)]
    exact ⟨_, _, rfl, rfl, p1_, f1.q, fun j hj => ⟨r1 j hj, f1 44 j (by omega)⟩, ⟨o1, funext fun j => f1 43 j (by omega), f1 41 5 (by omega)⟩, Or.inr hf2⟩
  have G1 : Go (up y0 5 (3 * k + 0) c0) x0 B n p := G1_.cg up5_3 (up_k (by decide)) (fun _ _ _ => rfl) rfl
  obtain ⟨c1, y1, v1, x1, a1, b1, fc1, fn1, k1⟩ := num_s (least := 1) (most := 300) hn hB G1 (by decide) (by decide)
  have a1 : f_X4_readNumber ((zTabs 2).2.2 1) ((zTabs 3).2.2 1) (up y0 5 (3 * k + 0) c0) = some (c1, y1) := a1
  have e1 : f_X4_readNumbers_5_z2_z3_b23 999999 ((k : Int) * 3) ((1 : Nat) : Int) (up y0 5 (3 * k + 0) c0) = f_X4_readNumbers_5_z2_z3_b23 999998 ((k : Int) * 3) ((2 : Nat) : Int) (up y1 5 (3 * k + 1) c1) := by
    have := d3_st (m := 999998) (i := 1) (v6 := (k : Int) * 3) (by decide) ⟨by omega, by omega⟩ G1.1 a1
    rw [ix 1] at this
    exact this
  have p2_ : FrP z (up y1 5 (3 * k + 1) c1) := (p1_.tr fc1.p).up5
  have f2 : FrN ζ x1 := f1.tr fn1
  have r2 : ∀ j, ¬ (3 * k ≤ j ∧ j < 3 * k + 3) → up y1 5 (3 * k + 1) c1 5 j = z 5 j := fun j hj => by
    rw [up_j (by omega), fc1 5 j (by omega)]
    exact r1 j hj
  have o2 : up y1 5 (3 * k + 1) c1 4 = z 4 := by
    rw [up_k (by decide)]
    funext j
    rw [fc1 4 j (by omega)]
    rw [o1]
  rcases k1.symm with hf | ⟨hcv1, hr1, G2_⟩
  · have hf2 : Flt (up y1 5 (3 * k + 1) c1) x1 n := hf.cg up5_3 rfl rfl
    have ed : f_X4_readNumbers_5_z2_z3_b23 FUEL ((k : Int) * 3) 0 z = some (up y1 5 (3 * k + 1) c1) := by
      show f_X4_readNumbers_5_z2_z3_b23 1000000 ((k : Int) * 3) ((0 : Nat) : Int) z = _
      rw [e0, e1]
      exact stop 999997 2 _ (by decide) hf2.2.2.1
    rw [ed, b0, Option.bind_some, b1, Option.bind_some]
    dsimp only
    rw [numeral_f hf2.m, Option.bind_some]
    dsimp only
    rw [if_neg (flt_ne hf2.m)]
    exact ⟨_, _, rfl, rfl, p2_, f2.q, fun j hj => ⟨r2 j hj, f2 44 j (by omega)⟩, ⟨o2, funext fun j => f2 43 j (by omega), f2 41 5 (by omega)⟩, Or.inr hf2⟩
  have G2 : Go (up y1 5 (3 * k + 1) c1) x1 B n p := G2_.cg up5_3 (up_k (by decide)) (fun _ _ _ => rfl) rfl
  obtain ⟨c2, y2, v2, x2, a2, b2, fc2, fn2, k2⟩ := num_s (least := 1) (most := 9999999) hn hB G2 (by decide) (by decide)
  have a2 : f_X4_readNumber ((zTabs 2).2.2 2) ((zTabs 3).2.2 2) (up y1 5 (3 * k + 1) c1) = some (c2, y2) := a2
  have e2 : f_X4_readNumbers_5_z2_z3_b23 999998 ((k : Int) * 3) ((2 : Nat) : Int) (up y1 5 (3 * k + 1) c1) = f_X4_readNumbers_5_z2_z3_b23 999997 ((k : Int) * 3) ((3 : Nat) : Int) (up y2 5 (3 * k + 2) c2) := by
    have := d3_st (m := 999997) (i := 2) (v6 := (k : Int) * 3) (by decide) ⟨by omega, by omega⟩ G2.1 a2
    rw [ix 2] at this
    exact this
  have p3_ : FrP z (up y2 5 (3 * k + 2) c2) := (p2_.tr fc2.p).up5
  have f3 : FrN ζ x2 := f2.tr fn2
  have r3 : ∀ j, ¬ (3 * k ≤ j ∧ j < 3 * k + 3) → up y2 5 (3 * k + 2) c2 5 j = z 5 j := fun j hj => by
    rw [up_j (by omega), fc2 5 j (by omega)]
    exact r2 j hj
  have o3 : up y2 5 (3 * k + 2) c2 4 = z 4 := by
    rw [up_k (by decide)]
    funext j
    rw [fc2 4 j (by omega)]
    rw [o2]
  rcases k2.symm with hf | ⟨hcv2, hr2, G3_⟩
  · have hf2 : Flt (up y2 5 (3 * k + 2) c2) x2 n := hf.cg up5_3 rfl rfl
    have ed : f_X4_readNumbers_5_z2_z3_b23 FUEL ((k : Int) * 3) 0 z = some (up y2 5 (3 * k + 2) c2) := by
      show f_X4_readNumbers_5_z2_z3_b23 1000000 ((k : Int) * 3) ((0 : Nat) : Int) z = _
      rw [e0, e1, e2]
      exact stop 999996 3 _ (by decide) hf2.2.2.1
    rw [ed, b0, Option.bind_some, b1, Option.bind_some, b2, Option.bind_some]
    dsimp only
    rw [if_neg (flt_ne hf2.m)]
    exact ⟨_, _, rfl, rfl, p3_, f3.q, fun j hj => ⟨r3 j hj, f3 44 j (by omega)⟩, ⟨o3, funext fun j => f3 43 j (by omega), f3 41 5 (by omega)⟩, Or.inr hf2⟩
  have G3 : Go (up y2 5 (3 * k + 2) c2) x2 B n p := G3_.cg up5_3 (up_k (by decide)) (fun _ _ _ => rfl) rfl
  have ed : f_X4_readNumbers_5_z2_z3_b23 FUEL ((k : Int) * 3) 0 z = some (up y2 5 (3 * k + 2) c2) := by
    show f_X4_readNumbers_5_z2_z3_b23 1000000 ((k : Int) * 3) ((0 : Nat) : Int) z = _
    rw [e0, e1, e2]
    exact d3_f (m := 999996) (i := 3) (by decide) (Or.inr rfl)
  rw [ed, b0, Option.bind_some, b1, Option.bind_some, b2, Option.bind_some]
  dsimp only
  have m5 : x2 41 6 = (k : Int) := by rw [f3 41 6 (by omega)]; exact mk
  have h130 : w32 (x2 41 13) = 0 := by
    rw [G3.2.2.1]
    decide
  rw [if_pos h130]
  simp only [m5]
  rw [ck_t (by omega)]
  unfold wr
  dsimp only
  rw [ck_t (by omega)]
  rw [ck_t (by omega)]
  have t0 : (3 * (k : Int)).toNat = 3 * k := by omega
  have t1 : (3 * (k : Int) + 1).toNat = 3 * k + 1 := by omega
  have t2 : (3 * (k : Int) + 2).toNat = 3 * k + 2 := by omega
  rw [t0, t1, t2]
  obtain ⟨w1, hw1⟩ : ∃ w1, w1 = up (up (up x2 44 (3 * k) v0) 44 (3 * k + 1) v1) 44 (3 * k + 2) v2 := ⟨_, rfl⟩
  rw [← hw1]
  have w41 : w1 41 = x2 41 := by rw [hw1, up_k (by decide), up_k (by decide), up_k (by decide)]
  have wo : ∀ j, ¬ (3 * k ≤ j ∧ j < 3 * k + 3) → w1 44 j = ζ 44 j := fun j hj => by
    rw [hw1, up_j (by omega), up_j (by omega), up_j (by omega)]
    exact f3 44 j (by omega)
  have w_0 : w1 44 (3 * k + 0) = v0 := by
    rw [hw1, up_j (by omega), up_j (by omega)]
    exact up_s
  have w_1 : w1 44 (3 * k + 1) = v1 := by
    rw [hw1, up_j (by omega)]
    exact up_s
  have w_2 : w1 44 (3 * k + 2) = v2 := by
    rw [hw1]
    exact up_s
  have d_0 : (up y2 5 (3 * k + 2) c2) 5 (3 * k + 0) = c0 := by
    rw [up_j (by omega), fc2 5 _ (by omega), up_j (by omega), fc1 5 _ (by omega)]
    exact up_s
  have d_1 : (up y2 5 (3 * k + 2) c2) 5 (3 * k + 1) = c1 := by
    rw [up_j (by omega), fc2 5 _ (by omega)]
    exact up_s
  have d_2 : (up y2 5 (3 * k + 2) c2) 5 (3 * k + 2) = c2 := by
    exact up_s
  have fq : FrQ ζ w1 := by
    rw [hw1]
    exact f3.q.up44.up44.up44
  have h43 : w1 41 6 = (k : Int) := by rw [w41]; exact m5
  rw [h43]
  refine ⟨_, _, rfl, rfl, p3_, fq.up41 (by decide), fun j hj => ⟨r3 j hj, by rw [up_k (by decide)]; exact wo j hj⟩, ⟨o3, ?_, ?_⟩, Or.inl ⟨by omega, up_s, G3.cg rfl rfl (fun j _ _ => by rw [up_j (by omega), w41]) ?_, fun j hj => ?_⟩⟩
  · rw [up_k (by decide), hw1, up_k (by decide), up_k (by decide), up_k (by decide)]
    funext j
    exact f3 43 j (by omega)
  · rw [up_j (by decide), w41]
    exact f3 41 5 (by omega)
  · rw [up_k (by decide), hw1, up_k (by decide), up_k (by decide), up_k (by decide)]
  · rw [up_k (by decide : (44 : Nat) ≠ 41)]
    rcases (show j = 0 ∨ j = 1 ∨ j = 2 by omega) with rfl | rfl | rfl
    · rw [d_0, w_0, ← hcv0]
      exact ⟨rfl, hr0⟩
    · rw [d_1, w_1, ← hcv1]
      exact ⟨rfl, hr1⟩
    · rw [d_2, w_2, ← hcv2]
      exact ⟨rfl, hr2⟩
