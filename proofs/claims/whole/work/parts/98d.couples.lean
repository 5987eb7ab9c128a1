/-! ===== pure level: couples ===== -/
def smm (f : Nat → Int) : Nat → Int
  | 0 => 0
  | n + 1 => smm f n + f n
theorem smm_cg {f g : Nat → Int} : ∀ n, (∀ i, i < n → f i = g i) → smm f n = smm g n
  | 0, _ => rfl
  | n + 1, h => by rw [smm, smm, smm_cg n (fun i hi => h i (by omega)), h n (by omega)]
theorem smm_ad (f g : Nat → Int) : ∀ n, smm (fun i => f i + g i) n = smm f n + smm g n
  | 0 => rfl
  | n + 1 => by rw [smm, smm, smm, smm_ad f g n]; omega
theorem smm_0 : ∀ n, smm (fun _ => 0) n = 0
  | 0 => rfl
  | n + 1 => by rw [smm, smm_0 n]; rfl
theorem smm_bd {f : Nat → Int} {A B : Int} : ∀ n : Nat, (∀ i, i < n → A ≤ f i ∧ f i ≤ B) → (n : Int) * A ≤ smm f n ∧ smm f n ≤ (n : Int) * B
  | 0, _ => by simp [smm]
  | n + 1, h => by
    have h1 := smm_bd n (fun i hi => h i (by omega))
    have h2 := h n (by omega)
    rw [smm, ncast_s, Int.add_mul, Int.add_mul, Int.one_mul, Int.one_mul]
    omega
theorem smm_s (f : Nat → Int) (n : Nat) : smm f (n + 1) = smm f n + f n := rfl
theorem smm_dbl {c : Nat → Nat → Int} (sy : ∀ p q, c p q = c q p) : ∀ n, smm (fun p => smm (c p) n - c p p) n = 2 * smm (fun p => smm (c p) n - smm (c p) (p + 1)) n
  | 0 => rfl
  | n + 1 => by
    have h := smm_dbl sy n
    rw [smm_s (fun p => smm (c p) (n + 1) - c p p) n, smm_s (fun p => smm (c p) (n + 1) - smm (c p) (p + 1)) n]
    have e1 : smm (fun p => smm (c p) (n + 1) - c p p) n = smm (fun p => (smm (c p) n - c p p) + c p n) n := smm_cg n fun i _ => by
      rw [smm]
      omega
    have e2 : smm (fun p => smm (c p) (n + 1) - smm (c p) (p + 1)) n = smm (fun p => (smm (c p) n - smm (c p) (p + 1)) + c p n) n := smm_cg n fun i _ => by
      rw [smm]
      omega
    have e3 : smm (fun p => c p n) n = smm (c n) n := smm_cg n fun i _ => sy i n
    rw [e1, e2, smm_ad, smm_ad, h, e3, smm_s (c n) n]
    omega
theorem sumb_smm {P : Nat → Bool} : ∀ n, n ≤ 24 → sumb (fun _ => 1) (mks P 24) n = smm (fun q => if P q = true then 1 else 0) n
  | 0, _ => rfl
  | n + 1, h => by rw [sumb_mks (by omega), sumb_smm n (by omega), smm]
/-- whether two policies stand close -/
def cpl (X Y : Nat → Int) (F : Nat) (R : Int) (p q : Nat) : Int := if (F.testBit p && F.testBit q && decide (d2 X Y p q ≤ R * R)) = true then 1 else 0
theorem cpl_sy (X Y : Nat → Int) (F : Nat) (R : Int) (p q : Nat) : cpl X Y F R p q = cpl X Y F R q p := by
  unfold cpl
  rw [d2_sym X Y p q, Bool.and_comm (F.testBit p)]
theorem cpl_bd (X Y : Nat → Int) (F : Nat) (R : Int) (p q : Nat) : 0 ≤ cpl X Y F R p q ∧ cpl X Y F R p q ≤ 1 := by
  unfold cpl
  split <;> omega
def cpN (X Y : Nat → Int) (F : Nat) (R : Int) : Int := smm (fun p => smm (cpl X Y F R p) 24 - smm (cpl X Y F R p) (p + 1)) 24
theorem dCouples_n {z ζ : Sg} {F : Nat} {R : Int} (h : RelB z ζ F) (hR : 0 ≤ R ∧ R ≤ 300) : f_X9_couples_b13 z FUEL R 0 0 = some (cpN (ζ 45) (ζ 46) F R) := by
  have hFl := h.1.2.1
  have eq1 : ∀ p, p < 24 → z 7 p = ζ 45 p ∧ z 8 p = ζ 46 p := fun p hp => by
    obtain ⟨-, ⟨b1, b2, -⟩, -⟩ := h.1.2.2 p hp
    exact ⟨b1, b2⟩
  generalize hc : cpl (ζ 45) (ζ 46) F R = c at *
  have cb : ∀ p q, 0 ≤ c p q ∧ c p q ≤ 1 := fun p q => by rw [← hc]; exact cpl_bd _ _ _ _ _ _
  have cs : ∀ p q, c p q = c q p := fun p q => by rw [← hc]; exact cpl_sy _ _ _ _ _ _
  have cN : cpN (ζ 45) (ζ 46) F R = smm (fun p => smm (c p) 24 - smm (c p) (p + 1)) 24 := by rw [← hc]; rfl
  rw [cN]
  refine loop_at (St := Int) (F := fun n i v => f_X9_couples_b13 z n R v i) 24 (fun i v => v = smm (fun p => smm (c p) 24 - c p p) i) (by decide) ?_ ?_ 0 (by decide) 0 rfl
  · intro n i v hi hv
    right
    refine ⟨_, rfl, ?_⟩
    subst hv
    show f_X9_couples_b13 z (n + 1) R (smm (fun p => smm (c p) 24 - c p p) i) (i : Int) = f_X9_couples_b13 z n R (smm (fun p => smm (c p) 24 - c p p) (i + 1)) ((i : Int) + 1)
    rw [f_X9_couples_b13, w32_n (by omega), if_pos (show (i : Int) < 24 by omega), has_t h.1.1 hFl ⟨by omega, by omega⟩, Option.bind_some, smm]
    generalize smm (fun p => smm (c p) 24 - c p p) i = v
    obtain ⟨g1, g2⟩ := h.pl i hi
    cases hb : F.testBit i with
    | false =>
      rw [c01_f (fun q => by rw [ntn, hb] at q; exact absurd q.2.2 (by decide))]
      have e : ∀ q, c i q = 0 := fun q => by
        rw [← hc]
        unfold cpl
        rw [hb, Bool.false_and, Bool.false_and, if_neg (by decide)]
      have e2 : smm (c i) 24 = 0 := by
        rw [smm_cg (g := fun _ => 0) 24 (fun q _ => e q), smm_0]
      rw [e2, e i]
      show f_X9_couples_b13 z n R v ((i : Int) + 1) = f_X9_couples_b13 z n R (v + (0 - 0)) ((i : Int) + 1)
      rw [show v + (0 - 0) = v by omega]
    | true =>
      rw [c01_t ⟨by omega, by omega, by rw [ntn]; exact hb⟩, xOf_n hi, Option.bind_some, yOf_n hi, Option.bind_some, dWithin_n h g1 g2 ⟨by omega, by omega⟩, Option.bind_some, bitc_n (abS_24 _ _ _ _ _ _), Option.bind_some]
      have e : sumb (fun _ => 1) (abS (z 7) (z 8) F (z 7 i) (z 8 i) R) 24 = smm (c i) 24 := by
        unfold abS
        rw [sumb_smm 24 (by decide)]
        refine smm_cg 24 fun q hq => ?_
        rw [← hc]
        unfold cpl
        rw [hb, Bool.true_and, (eq1 i hi).1, (eq1 i hi).2, (eq1 q hq).1, (eq1 q hq).2]
        have : (ζ 45 q - ζ 45 i) * (ζ 45 q - ζ 45 i) + (ζ 46 q - ζ 46 i) * (ζ 46 q - ζ 46 i) = d2 (ζ 45) (ζ 46) i q := by
          unfold d2
          grind
        rw [this]
      have e3 : c i i = 1 := by
        rw [← hc]
        unfold cpl
        rw [hb, d2_self, decide_eq_true (sq_nn R)]
        rfl
      rw [e, e3]
      rfl
  · intro n v hv
    subst hv
    show f_X9_couples_b13 z (n + 1) R _ ((24 : Nat) : Int) = _
    rw [f_X9_couples_b13, w32_n (by decide), if_neg (show ¬ ((24 : Nat) : Int) < 24 by decide)]
    unfold f_X9_couples_b68
    have b := smm_bd (f := fun p => smm (c p) 24 - c p p) (A := -1) (B := 24) 24 (fun i _ => by
      have b1 := smm_bd (f := c i) (A := 0) (B := 1) 24 (fun q _ => cb i q)
      have b2 := cb i i
      show -1 ≤ smm (c i) 24 - c i i ∧ smm (c i) 24 - c i i ≤ 24
      omega)
    rw [ck_t (by decide), w32_eq (z := smm (fun p => smm (c p) 24 - c p p) 24) ⟨by omega, by omega⟩, smm_dbl cs, show w32 2 = 2 by decide, Int.mul_tdiv_cancel_left _ (by decide)]
theorem Eq_couples_n : Eq_couples Rl := by
  intro n σd σm a1 hn hR ha1
  obtain ⟨F, N, h⟩ := hR
  have h : Rn n σd σm F N := h
  have h1 := h.m0
  have hs := h.ask (z' := σd) (ζ' := up σm 41 0 0) SD.rf ss0
  unfold f_X9_couples f_X10_couples wr
  dsimp only
  generalize up σm 41 0 0 = ζ at *
  have hB := h1.1
  have hM := MRow.of hB
  rw [dIsReach_n ha1, Option.bind_some, w32_eq ha1]
  by_cases c1 : 0 ≤ a1 ∧ a1 ≤ 300
  · rw [c01_t c1, if_neg (show ¬ a1 < 0 by omega), if_pos c1.2, dCouples_n hB c1]
    have hRR := sq_R (R := a1) ⟨c1.1, by omega⟩
    have main : f_X10_couples_b22 FUEL a1 0 0 ζ = some (cpN (ζ 45) (ζ 46) F a1, ζ) := by
      unfold cpN
      generalize hc : cpl (ζ 45) (ζ 46) F a1 = c at *
      refine loop_at (St := Int) (F := fun n i v => f_X10_couples_b22 n a1 v i ζ) 24 (fun i v => v = smm (fun p => smm (c p) 24 - smm (c p) (p + 1)) i) (by decide) ?_ ?_ 0 (by decide) 0 rfl
      · intro m i v hi hv
        right
        refine ⟨_, rfl, ?_⟩
        subst hv
        show f_X10_couples_b22 (m + 1) a1 (smm (fun p => smm (c p) 24 - smm (c p) (p + 1)) i) (i : Int) ζ = f_X10_couples_b22 m a1 (smm (fun p => smm (c p) 24 - smm (c p) (p + 1)) (i + 1)) ((i : Int) + 1) ζ
        rw [f_X10_couples_b22, w32_n (by omega), if_pos (show (i : Int) < 24 by omega), smm]
        generalize smm (fun p => smm (c p) 24 - smm (c p) (p + 1)) i = v
        rw [← ncast_s i]
        have t9 : ∀ q, q < 24 → ζ 49 q = if F.testBit q = true then 1 else 0 := fun q hq => (hB.1.2.2 q hq).1
        refine loop_at (St := Int) (F := fun n j w => f_X10_couples_b33 (f_X10_couples_b22 m) n a1 w i j ζ) 24 (fun j w => w = v + (smm (c i) j - smm (c i) (i + 1))) (by decide) ?_ ?_ (i + 1) (by omega) v (by omega)
        · intro x j w hj hw
          right
          refine ⟨v + (smm (c i) (j + 1) - smm (c i) (i + 1)), rfl, ?_⟩
          subst hw
          rw [smm_s (c i) j]
          have k0 : v + (smm (c i) j - smm (c i) (i + 1)) + c i j = v + (smm (c i) j + c i j - smm (c i) (i + 1)) := by omega
          rw [← k0]
          generalize v + (smm (c i) j - smm (c i) (i + 1)) = w
          show f_X10_couples_b33 (f_X10_couples_b22 m) (x + 1) a1 w i j ζ = f_X10_couples_b33 (f_X10_couples_b22 m) x a1 (w + c i j) i (j + 1) ζ
          have kk : ∀ e : Int, f_X10_couples_b78 (f_X10_couples_b22 m) (f_X10_couples_b33 (f_X10_couples_b22 m) x) a1 i j e w ζ = f_X10_couples_b33 (f_X10_couples_b22 m) x a1 (w + e) i (j + 1) ζ := fun _ => rfl
          have kz : f_X10_couples_b77 (f_X10_couples_b22 m) (f_X10_couples_b33 (f_X10_couples_b22 m) x) a1 i j w ζ = f_X10_couples_b33 (f_X10_couples_b22 m) x a1 (w + 0) i (j + 1) ζ := rfl
          have hd := d2_bd (hM i hi).2.2.1 (hM j hj).2.2.1
          have ec : c i j = if (F.testBit i && F.testBit j && decide (d2 (ζ 45) (ζ 46) i j ≤ a1 * a1)) = true then 1 else 0 := by rw [← hc]; rfl
          rw [f_X10_couples_b33, w32_n (by omega), if_pos (show (j : Int) < 24 by omega), ck_t (by omega), ck_t (by omega), ntn, ntn, t9 i hi, t9 j hj, dist_n (by omega) (by omega), Option.bind_some, w32_eq (z := d2 (ζ 45) (ζ 46) i j) ⟨by omega, by omega⟩, w32_eq hRR, kk, kz, ec]
          cases hb : F.testBit i with
          | false =>
            rw [b01_f rfl]
            rfl
          | true =>
            rw [b01_t rfl]
            cases hb2 : F.testBit j with
            | false =>
              rw [b01_f rfl]
              rfl
            | true =>
              rw [b01_t rfl]
              by_cases c2 : d2 (ζ 45) (ζ 46) i j ≤ a1 * a1
              · rw [if_pos c2, decide_eq_true c2]
                rfl
              · rw [if_neg c2, decide_eq_false c2]
                rfl
        · intro x w hw
          subst hw
          show f_X10_couples_b33 (f_X10_couples_b22 m) (x + 1) a1 _ i ((24 : Nat) : Int) ζ = _
          rw [f_X10_couples_b33, w32_n (by decide), if_neg (show ¬ ((24 : Nat) : Int) < 24 by decide)]
          rfl
      · intro m v hv
        subst hv
        show f_X10_couples_b22 (m + 1) a1 _ ((24 : Nat) : Int) ζ = _
        rw [f_X10_couples_b22, w32_n (by decide), if_neg (show ¬ ((24 : Nat) : Int) < 24 by decide)]
    rw [main]
    exact ⟨_, _, rfl, rfl, rfl, hs⟩
  · rw [c01_f c1]
    by_cases c2 : a1 < 0
    · rw [if_pos c2]
      exact ⟨_, _, rfl, rfl, rfl, hs⟩
    · rw [if_neg c2, if_neg (show ¬ a1 ≤ 300 by omega)]
      exact ⟨_, _, rfl, rfl, rfl, hs⟩
