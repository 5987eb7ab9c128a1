/-! ===== pure level: what a policy's question answers, and what it throws ===== -/
def PolR (v1 v2 : Int) (σ : Sg) : Option (Int ⊕ Nat) :=
  (f_X0_has v1 σ).bind fun q1 => if w32 q1 = 0 then some (Sum.inr 1) else if w32 v2 = 0 then (f_X0_xOf v1 σ).bind fun q => some (Sum.inl q) else if w32 v2 = 1 then (f_X0_yOf v1 σ).bind fun q => some (Sum.inl q) else if w32 v2 = 2 then (f_X0_sumOf v1 σ).bind fun q => some (Sum.inl q) else if w32 v2 = 3 then (f_X0_perilOf v1 σ).bind fun q => some (Sum.inl q) else if w32 v2 = 4 then (f_X0_xOf v1 σ).bind fun a => (f_X0_yOf v1 σ).bind fun b => (f_X0_within a b 0 σ).bind fun w => (f_J6_bitCount_0f7a4 w σ).bind fun z => some (Sum.inl (z - 1)) else some (Sum.inr 2)
def PolP (q : Int ⊕ Nat) (q' : Int × Sg) : Prop := (∃ z, q = Sum.inl z ∧ q'.2 41 0 = 0 ∧ w32 z = w32 q'.1) ∨ ∃ k : Nat, (k = 1 ∨ k = 2) ∧ q = Sum.inr k ∧ q'.2 41 0 = (k : Int)
theorem smm_out (f : Nat → Int) (p : Nat) : ∀ n, smm f n = smm (fun q => if q = p then 0 else f q) n + (if p < n then f p else 0)
  | 0 => by
    rw [if_neg (by omega)]
    rfl
  | n + 1 => by
    rw [smm_s, smm_s, smm_out f p n]
    by_cases e : n = p
    · subst e
      rw [if_neg (by omega), if_pos rfl, if_pos (by omega)]
    · rw [if_neg e]
      by_cases c : p < n
      · rw [if_pos c, if_pos (by omega)]
        omega
      · rw [if_neg c, if_neg (by omega)]
        omega
theorem Rl_60 {n : Nat} {z ζ : Sg} {j : Nat} {v : Int} (h : Rl n z ζ) : Rl n z (up ζ 60 j v) := by
  have e : ∀ k, k ≠ 60 → up ζ 60 j v k = ζ k := fun k hk => up_k hk
  generalize up ζ 60 j v = ξ at e
  unfold Rl RelB RelT TrD TrA TrQ TrW psM mbS wsM MTr RelL RelO at *
  rw [e 41 (by decide), e 42 (by decide), e 45 (by decide), e 46 (by decide), e 47 (by decide), e 48 (by decide), e 49 (by decide), e 50 (by decide), e 51 (by decide), e 52 (by decide), e 53 (by decide), e 54 (by decide), e 55 (by decide), e 56 (by decide), e 57 (by decide)]
  exact h
theorem atPlace_n {z ζ : Sg} {F p : Nat} (hB : RelB z ζ F) (hp : p < 24) : f_X10_atPlaceOf (p : Int) ζ = some (smm (fun q => if q = p then 0 else if F.testBit q = true ∧ d2 (ζ 45) (ζ 46) p q = 0 then 1 else 0) 24) := by
  have hM := MRow.of hB
  unfold f_X10_atPlaceOf
  generalize hg : (fun q => if q = p then (0 : Int) else if F.testBit q = true ∧ d2 (ζ 45) (ζ 46) p q = 0 then 1 else 0) = g
  have gb : ∀ q, g q = if q = p then (0 : Int) else if F.testBit q = true ∧ d2 (ζ 45) (ζ 46) p q = 0 then 1 else 0 := fun q => by rw [← hg]
  refine loop_at (St := Int) (F := fun n i v => f_X10_atPlaceOf_b4 ζ n (p : Int) v i) 24 (fun i v => v = smm g i) (by decide) ?_ ?_ 0 (by decide) 0 rfl
  · intro m i v hi hv
    right
    refine ⟨smm g (i + 1), rfl, ?_⟩
    subst hv
    rw [smm_s g i]
    generalize smm g i = v
    show f_X10_atPlaceOf_b4 ζ (m + 1) (p : Int) v (i : Int) = f_X10_atPlaceOf_b4 ζ m (p : Int) (v + g i) ((i : Int) + 1)
    have kz : f_X10_atPlaceOf_b38 ζ (f_X10_atPlaceOf_b4 ζ m) (p : Int) (i : Int) v = f_X10_atPlaceOf_b4 ζ m (p : Int) (v + 0) ((i : Int) + 1) := rfl
    have k1 : f_X10_atPlaceOf_b39 ζ (f_X10_atPlaceOf_b4 ζ m) (p : Int) (i : Int) 1 v = f_X10_atPlaceOf_b4 ζ m (p : Int) (v + 1) ((i : Int) + 1) := rfl
    rw [f_X10_atPlaceOf_b4, w32_n (by omega), w32_n (n := p) (by omega), if_pos (show (i : Int) < 24 by omega), ck_t (by omega), ntn, (hB.1.2.2 i hi).1, kz, k1, gb i]
    by_cases e : i = p
    · subst e
      rw [if_pos rfl, if_pos rfl]
      rcases bool_2 (F.testBit i) with t | t
      · rw [b01_f t]
      · rw [b01_t t]
    · rw [if_neg e, if_neg (show ¬ (i : Int) = (p : Int) by omega)]
      rcases (bool_2 (F.testBit i)).symm with t | t
      · have hd := d2_bd (hM p hp).2.2.1 (hM i hi).2.2.1
        rw [b01_t t, dist_n (by omega) (by omega), Option.bind_some, w32_eq (z := d2 (ζ 45) (ζ 46) p i) ⟨by omega, by omega⟩]
        by_cases c : d2 (ζ 45) (ζ 46) p i = 0
        · rw [if_pos c, if_pos ⟨t, c⟩]
        · rw [if_neg c, if_neg (fun q => c q.2)]
      · rw [b01_f t, if_neg (fun q => by rw [t] at q; exact absurd q.1 (by decide))]
  · intro m v hv
    subst hv
    show f_X10_atPlaceOf_b4 ζ (m + 1) (p : Int) _ ((24 : Nat) : Int) = _
    rw [f_X10_atPlaceOf_b4, w32_n (by decide), if_neg (show ¬ ((24 : Nat) : Int) < 24 by decide)]
theorem plc_n {n : Nat} {z ζ : Sg} {a1 a2 : Int} (hR : Rl n z ζ) (ha1 : InR a1) (ha2 : InR a2) : ∃ q q', PolR a1 a2 z = some q ∧ f_X10_policy a1 a2 ζ = some q' ∧ PolP q q' ∧ q'.2 60 = ζ 60 ∧ Rl (n + 1) z q'.2 := by
  obtain ⟨F, N, h⟩ := hR
  have h : Rn n z ζ F N := h
  have h1 := h.m0
  have hs := h.ask (z' := z) (ζ' := up ζ 41 0 0) SD.rf ss0
  have hs1 := h.ask (z' := z) (ζ' := up (up ζ 41 0 0) 41 0 1) SD.rf (SS.up ss0 (by unfold Scm; omega))
  have hs2 := h.ask (z' := z) (ζ' := up (up ζ 41 0 0) 41 0 2) SD.rf (SS.up ss0 (by unfold Scm; omega))
  have e60 : up ζ 41 0 0 60 = ζ 60 := up_k (by decide)
  have e41 : up ζ 41 0 0 41 0 = 0 := up_s
  unfold PolR f_X10_policy wr
  dsimp only
  generalize up ζ 41 0 0 = ξ at *
  have hB := h1.1
  rw [has_t h1.1.1.1 h1.1.1.2.1 ha1, Option.bind_some, isPol_t h1.1 ha1, Option.bind_some]
  by_cases c1 : 0 ≤ a1 ∧ a1 < 24 ∧ F.testBit a1.toNat = true
  · obtain ⟨p, hpe⟩ : ∃ p : Nat, a1 = (p : Int) := ⟨a1.toNat, by omega⟩
    subst hpe
    rw [c01_t c1, c01_t c1]
    have hp : p < 24 := by omega
    have hF : F.testBit p = true := c1.2.2
    obtain ⟨t9, ⟨b1, b2, b3, b4⟩, -⟩ := hB.1.2.2 p hp
    rw [if_pos hF] at b4
    have kp : 0 ≤ (p : Int) ∧ (p : Int) < 25 := by omega
    by_cases c2 : w32 a2 = 0
    · rw [if_pos c2, if_pos c2, xOf_n hp, Option.bind_some, ck_t kp, ntn]
      exact ⟨_, _, rfl, rfl, Or.inl ⟨_, rfl, e41, by rw [b1]⟩, e60, hs⟩
    rw [if_neg c2, if_neg c2]
    by_cases c3 : w32 a2 = 1
    · rw [if_pos c3, if_pos c3, yOf_n hp, Option.bind_some, ck_t kp, ntn]
      exact ⟨_, _, rfl, rfl, Or.inl ⟨_, rfl, e41, by rw [b2]⟩, e60, hs⟩
    rw [if_neg c3, if_neg c3]
    by_cases c4 : w32 a2 = 2
    · rw [if_pos c4, if_pos c4, dSumOf_n hp, Option.bind_some, ck_t kp, ntn]
      exact ⟨_, _, rfl, rfl, Or.inl ⟨_, rfl, e41, by rw [b4]⟩, e60, hs⟩
    rw [if_neg c4, if_neg c4]
    by_cases c5 : w32 a2 = 3
    · rw [if_pos c5, if_pos c5, perilOf_n hp, Option.bind_some, ck_t kp, ntn]
      exact ⟨_, _, rfl, rfl, Or.inl ⟨_, rfl, e41, by rw [b3]⟩, e60, hs⟩
    rw [if_neg c5, if_neg c5]
    by_cases c6 : w32 a2 = 4
    · obtain ⟨g1, g2⟩ := hB.pl p hp
      rw [if_pos c6, if_pos c6, xOf_n hp, Option.bind_some, yOf_n hp, Option.bind_some, dWithin_n (R := 0) hB g1 g2 ⟨by omega, by omega⟩, Option.bind_some, bitc_n (abS_24 _ _ _ _ _ _), Option.bind_some, atPlace_n hB hp, Option.bind_some]
      have e : sumb (fun _ => 1) (abS (z 7) (z 8) F (z 7 p) (z 8 p) 0) 24 = smm (fun q => if F.testBit q = true ∧ d2 (ξ 45) (ξ 46) p q = 0 then 1 else 0) 24 := by
        unfold abS
        rw [sumb_smm 24 (by decide)]
        refine smm_cg 24 fun q hq => ?_
        obtain ⟨-, ⟨r1, r2, -⟩, -⟩ := hB.1.2.2 q hq
        rw [b1, b2, r1, r2]
        have e1 : (ξ 45 q - ξ 45 p) * (ξ 45 q - ξ 45 p) + (ξ 46 q - ξ 46 p) * (ξ 46 q - ξ 46 p) = d2 (ξ 45) (ξ 46) p q := by
          unfold d2
          grind
        have e2 : 0 ≤ d2 (ξ 45) (ξ 46) p q := by
          have a := sq_nn (ξ 45 p - ξ 45 q)
          have b := sq_nn (ξ 46 p - ξ 46 q)
          unfold d2
          omega
        rw [e1]
        by_cases c : F.testBit q = true ∧ d2 (ξ 45) (ξ 46) p q = 0
        · rw [if_pos c, if_pos (by rw [c.1, c.2]; decide)]
        · rw [if_neg c, if_neg (fun k => c (by rw [Bool.and_eq_true, decide_eq_true_eq] at k; exact ⟨k.1, by omega⟩))]
      have e3 := smm_out (fun q => if F.testBit q = true ∧ d2 (ξ 45) (ξ 46) p q = 0 then (1 : Int) else 0) p 24
      rw [if_pos hp, if_pos ⟨hF, d2_self _ _ _⟩] at e3
      rw [e, e3]
      exact ⟨_, _, rfl, rfl, Or.inl ⟨_, rfl, e41, by rw [show ∀ a : Int, a + 1 - 1 = a from fun a => by omega]⟩, e60, hs⟩
    · rw [if_neg c6, if_neg c6]
      exact ⟨_, _, rfl, rfl, Or.inr ⟨2, Or.inr rfl, rfl, (show up ξ 41 0 2 41 0 = 2 from up_s)⟩, (show up ξ 41 0 2 60 = ζ 60 by rw [up_k (by decide)]; exact e60), hs2⟩
  · rw [c01_f c1, c01_f c1]
    exact ⟨_, _, rfl, rfl, Or.inr ⟨1, Or.inl rfl, rfl, (show up ξ 41 0 1 41 0 = 1 from up_s)⟩, (show up ξ 41 0 1 60 = ζ 60 by rw [up_k (by decide)]; exact e60), hs1⟩
