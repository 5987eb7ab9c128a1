/-! ===== pure level: cover, the least of a set ===== -/
theorem neg_and {L q : Nat} (hL : L < 16777216) (h : low1 L q) : L &&& (4294967296 - L) = 2 ^ q := by
  have hq := bit_lt hL h.1
  have h0 : L % 2 ^ q = 0 := bits_ext fun i => by
    rw [Nat.testBit_mod_two_pow, Nat.zero_testBit]
    by_cases hi : i < q
    · rw [h.2 i hi, Bool.and_false]
    · rw [decide_eq_false hi, Bool.false_and]
  have e1 : L = 2 ^ q * (L / 2 ^ q) := by
    have := Nat.div_add_mod L (2 ^ q)
    omega
  have hodd : (L / 2 ^ q) % 2 = 1 := by
    have := h.1
    rw [Nat.testBit_eq_decide_div_mod_eq, decide_eq_true_iff] at this
    exact this
  obtain ⟨m, hm⟩ : ∃ m, L / 2 ^ q = 2 * m + 1 := ⟨L / 2 ^ q / 2, by omega⟩
  have hp := Nat.two_pow_pos q
  have e2 : L = 2 ^ q * (2 * m) + (2 ^ q - 1) + 1 := by
    rw [hm, Nat.mul_add, Nat.mul_one] at e1
    omega
  have hx : 2 ^ q * (2 * m) + (2 ^ q - 1) < 2 ^ 32 := by omega
  refine bits_ext fun i => ?_
  have e3 : (4294967296 - L).testBit i = (decide (i < 32) && !(2 ^ q * (2 * m) + (2 ^ q - 1)).testBit i) := by
    rw [e2]
    exact Nat.testBit_two_pow_sub_succ hx i
  rw [Nat.testBit_and, e3, Nat.testBit_two_pow_mul_add _ (show 2 ^ q - 1 < 2 ^ q by omega), tb_pow]
  by_cases hi : i < q
  · rw [h.2 i hi, Bool.false_and]
    exact (beq_false_of_ne (by omega)).symm
  · rw [if_neg hi]
    by_cases hiq : i = q
    · subst hiq
      rw [h.1, Nat.sub_self, decide_eq_true (by omega), beq_self_eq_true]
      simp
    · have : L.testBit i = (2 * m).testBit (i - q) := by
        rw [e1, hm, show 2 ^ q * (2 * m + 1) = 2 ^ q * (2 * m + 1) + 0 from rfl, Nat.testBit_two_pow_mul_add _ hp, if_neg hi]
        obtain ⟨t, ht⟩ : ∃ t, i - q = t + 1 := ⟨i - q - 1, by omega⟩
        rw [ht, Nat.testBit_succ, Nat.testBit_succ, show (2 * m + 1) / 2 = 2 * m / 2 by omega]
      rw [this, beq_false_of_ne hiq]
      cases (2 * m).testBit (i - q) <;> simp
theorem cnt_pow : ∀ q : Nat, q < 24 → sumb (fun _ => 1) (2 ^ q - 1) 24 = (q : Int) := by decide +kernel
theorem leastOf_n {σ : Sg} {L q : Nat} (hL : L < 16777216) (h : low1 L q) : f_X3_leastOf (L : Int) σ = some (q : Int) := by
  have hq := bit_lt hL h.1
  have hp := Nat.two_pow_pos q
  have hp2 := pow_24 hq
  have hL0 : 0 < L := by
    refine Nat.pos_of_ne_zero fun e => ?_
    have := h.1
    rw [e, Nat.zero_testBit] at this
    cases this
  unfold f_X3_leastOf
  have en : u32 (-(L : Int)) = 4294967296 - L := by
    rw [u32_mod]
    omega
  rw [en, u32_nat (n := L) (by omega), neg_and hL h, show ((2 ^ q : Nat) : Int) - 1 = ((2 ^ q - 1 : Nat) : Int) by omega, bitc_n (by omega), Option.bind_some, cnt_pow q hq]
