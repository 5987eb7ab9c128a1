/-! ===== pure level: what the reference asks of its words ===== -/
theorem mIsPlace_n {σ : Sg} {a b : Int} (ha : InR a) (hb : InR b) : f_X10_isPlace a b σ = some (if (0 ≤ a ∧ a ≤ 299) ∧ (0 ≤ b ∧ b ≤ 299) then 1 else 0) := by
  unfold f_X10_isPlace
  rw [w32_eq ha, w32_eq hb]
  by_cases h1 : a < 0
  · rw [if_pos h1, if_neg (by omega)]
  · by_cases h2 : a ≤ 299
    · by_cases h3 : b < 0
      · rw [if_neg h1, if_pos h2, if_pos h3, if_neg (by omega)]
      · by_cases h4 : b ≤ 299
        · rw [if_neg h1, if_pos h2, if_neg h3, if_pos h4, if_pos (by omega)]
        · rw [if_neg h1, if_pos h2, if_neg h3, if_neg h4, if_neg (by omega)]
    · rw [if_neg h1, if_neg h2, if_neg (by omega)]
theorem mIsSum_n {σ : Sg} {a : Int} (ha : InR a) : f_X10_isSum a σ = some (if 1 ≤ a ∧ a ≤ 99999 then 1 else 0) := by
  unfold f_X10_isSum
  rw [w32_eq ha]
  by_cases h1 : a < 1
  · rw [if_pos h1, if_neg (by omega)]
  · by_cases h2 : a ≤ 99999
    · rw [if_neg h1, if_pos h2, if_pos (by omega)]
    · rw [if_neg h1, if_neg h2, if_neg (by omega)]
theorem mIsPeril_n {σ : Sg} {a : Int} (ha : InR a) : f_X10_isPeril a σ = some (if 0 ≤ a ∧ a ≤ 3 then 1 else 0) := by
  unfold f_X10_isPeril
  rw [w32_eq ha]
  by_cases h1 : a < 0
  · rw [if_pos h1, if_neg (by omega)]
  · by_cases h2 : a ≤ 3
    · rw [if_neg h1, if_pos h2, if_pos (by omega)]
    · rw [if_neg h1, if_neg h2, if_neg (by omega)]
theorem mArePerils_n {σ : Sg} {a : Int} (ha : InR a) : f_X10_arePerils a σ = some (if 1 ≤ a ∧ a ≤ 15 then 1 else 0) := by
  unfold f_X10_arePerils
  rw [w32_eq ha]
  by_cases h1 : a < 1
  · rw [if_pos h1, if_neg (by omega)]
  · by_cases h2 : a ≤ 15
    · rw [if_neg h1, if_pos h2, if_pos (by omega)]
    · rw [if_neg h1, if_neg h2, if_neg (by omega)]
theorem mIsRadius_n {σ : Sg} {a : Int} (ha : InR a) : f_X10_isRadius a σ = some (if 1 ≤ a ∧ a ≤ 300 then 1 else 0) := by
  unfold f_X10_isRadius
  rw [w32_eq ha]
  by_cases h1 : a < 1
  · rw [if_pos h1, if_neg (by omega)]
  · by_cases h2 : a ≤ 300
    · rw [if_neg h1, if_pos h2, if_pos (by omega)]
    · rw [if_neg h1, if_neg h2, if_neg (by omega)]
