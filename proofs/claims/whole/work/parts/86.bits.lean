/-! ===== pure level: how many bits ===== -/
theorem and_b {k m r M R : Nat} (hr : r < 2 ^ k) (hR : R < 2 ^ k) : (2 ^ k * m + r) &&& (2 ^ k * M + R) = 2 ^ k * (m &&& M) + (r &&& R) := bits_ext fun i => by
  rw [Nat.testBit_and, Nat.testBit_two_pow_mul_add _ hr, Nat.testBit_two_pow_mul_add _ hR, Nat.testBit_two_pow_mul_add _ (Nat.lt_of_le_of_lt Nat.and_le_left hr)]
  by_cases h : i < k
  · rw [if_pos h, if_pos h, if_pos h, Nat.testBit_and]
  · rw [if_neg h, if_neg h, if_neg h, Nat.testBit_and]
theorem dk1 : ∀ t, t < 2 → ∀ r, r < 256 → (128 * t + r / 2) &&& 85 = (r / 2) &&& 85 := by decide +kernel
theorem dk2 : ∀ t, t < 4 → ∀ r, r < 256 → (64 * t + r / 4) &&& 51 = (r / 4) &&& 51 := by decide +kernel
theorem dk4 : ∀ t, t < 8 → ∀ r, r < 72 → (r + r / 16 + 16 * t) &&& 15 = (r + r / 16) &&& 15 := by decide +kernel
theorem and_b8 {m r M R : Nat} (hr : r < 256) (hR : R < 256) : (256 * m + r) &&& (256 * M + R) = 256 * (m &&& M) + (r &&& R) := and_b (k := 8) hr hR
theorem stA {m r M : Nat} (hr : r < 256) : ((256 * m + r) / 2) &&& (256 * M + 85) = 256 * ((m / 2) &&& M) + ((r / 2) &&& 85) := by
  have e : (256 * m + r) / 2 = 256 * (m / 2) + (128 * (m % 2) + r / 2) := by omega
  rw [e, and_b8 (by omega) (by omega), dk1 _ (by omega) _ hr]
theorem stB {m r M : Nat} (hr : r < 256) : ((256 * m + r) / 4) &&& (256 * M + 51) = 256 * ((m / 4) &&& M) + ((r / 4) &&& 51) := by
  have e : (256 * m + r) / 4 = 256 * (m / 4) + (64 * (m % 4) + r / 4) := by omega
  rw [e, and_b8 (by omega) (by omega), dk2 _ (by omega) _ hr]
theorem stC {m r M : Nat} (hr : r < 72) (hm : m % 16 < 8) : (256 * m + r + (256 * m + r) / 16) &&& (256 * M + 15) = 256 * ((m + m / 16) &&& M) + ((r + r / 16) &&& 15) := by
  have e : 256 * m + r + (256 * m + r) / 16 = 256 * (m + m / 16) + (r + r / 16 + 16 * (m % 16)) := by omega
  rw [e, and_b8 (by omega) (by omega), dk4 _ hm _ hr]
def A8 (r : Nat) : Nat := r - ((r / 2) &&& 85)
def B8 (r : Nat) : Nat := (r &&& 51) + ((r / 4) &&& 51)
def C8 (r : Nat) : Nat := (r + r / 16) &&& 15
theorem pop8 : ∀ r, r < 256 → (r / 2) &&& 85 ≤ r ∧ A8 r < 256 ∧ B8 (A8 r) < 72 ∧ B8 (A8 r) % 16 < 8 ∧ C8 (B8 (A8 r)) ≤ 8 ∧ (C8 (B8 (A8 r)) : Int) = sumb (fun _ => 1) r 8 := by decide +kernel
theorem shr_d {a k : Nat} : a >>> k = a / 2 ^ k := Nat.shiftRight_eq_div_pow a k
theorem bitc_n {σ : Sg} {s : Nat} (hs : s < 16777216) : f_J6_bitCount_0f7a4 (s : Int) σ = some (sumb (fun _ => 1) s 24) := by
  obtain ⟨a, b, c, ha, hb, hc, es⟩ : ∃ a b c : Nat, a < 256 ∧ b < 256 ∧ c < 256 ∧ s = 256 * (256 * c + b) + a := ⟨s % 256, s / 256 % 256, s / 65536, by omega, by omega, by omega, by omega⟩
  obtain ⟨pa1, pa2, pa3, pa4, pa5, pa6⟩ := pop8 a ha
  obtain ⟨pb1, pb2, pb3, pb4, pb5, pb6⟩ := pop8 b hb
  obtain ⟨pc1, pc2, pc3, pc4, pc5, pc6⟩ := pop8 c hc
  have eA : (s / 2) &&& 1431655765 = 256 * (256 * ((c / 2) &&& 85) + ((b / 2) &&& 85)) + ((a / 2) &&& 85) := by
    rw [es, show (1431655765 : Nat) = 256 * (256 * 21845 + 85) + 85 from rfl, stA ha, stA hb]
    have : ∀ c, c < 256 → (c / 2) &&& 21845 = (c / 2) &&& 85 := by decide +kernel
    rw [this c hc]
  have v1 : ((s : Int) - ((((u32 (s : Int)) >>> 1) &&& 1431655765 : Nat) : Int)) = ((256 * (256 * A8 c + A8 b) + A8 a : Nat) : Int) := by
    rw [u32_nat (by omega), shr_d, show 2 ^ 1 = 2 from rfl, eA]
    unfold A8
    omega
  have eB1 : (256 * (256 * A8 c + A8 b) + A8 a) &&& 858993459 = 256 * (256 * (A8 c &&& 51) + (A8 b &&& 51)) + (A8 a &&& 51) := by
    rw [show (858993459 : Nat) = 256 * (256 * 13107 + 51) + 51 from rfl, and_b8 pa2 (by decide), and_b8 pb2 (by decide)]
    have : A8 c &&& 13107 = A8 c &&& 51 := by
      generalize A8 c = x at pc2
      revert x
      decide +kernel
    rw [this]
  have eB2 : ((256 * (256 * A8 c + A8 b) + A8 a) / 4) &&& 858993459 = 256 * (256 * ((A8 c / 4) &&& 51) + ((A8 b / 4) &&& 51)) + ((A8 a / 4) &&& 51) := by
    rw [show (858993459 : Nat) = 256 * (256 * 13107 + 51) + 51 from rfl, stB pa2, stB pb2]
    have : (A8 c / 4) &&& 13107 = (A8 c / 4) &&& 51 := by
      generalize A8 c = x at pc2
      revert x
      decide +kernel
    rw [this]
  have v2 : ((((u32 ((256 * (256 * A8 c + A8 b) + A8 a : Nat) : Int)) &&& 858993459 : Nat) : Int)) + (((((u32 ((256 * (256 * A8 c + A8 b) + A8 a : Nat) : Int)) >>> 2) &&& 858993459 : Nat) : Int)) = ((256 * (256 * B8 (A8 c) + B8 (A8 b)) + B8 (A8 a) : Nat) : Int) := by
    rw [u32_nat (by omega), shr_d, show 2 ^ 2 = 4 from rfl, eB1, eB2]
    unfold B8
    omega
  have eC : (256 * (256 * B8 (A8 c) + B8 (A8 b)) + B8 (A8 a) + (256 * (256 * B8 (A8 c) + B8 (A8 b)) + B8 (A8 a)) / 16) &&& 252645135 = 256 * (256 * C8 (B8 (A8 c)) + C8 (B8 (A8 b))) + C8 (B8 (A8 a)) := by
    rw [show (252645135 : Nat) = 256 * (256 * 3855 + 15) + 15 from rfl, stC pa3 (by omega), stC pb3 (by omega)]
    have : (B8 (A8 c) + B8 (A8 c) / 16) &&& 3855 = (B8 (A8 c) + B8 (A8 c) / 16) &&& 15 := by
      generalize B8 (A8 c) = x at pc3
      clear eA v1 eB1 eB2 v2 pc4 pc5 pc6
      revert x
      decide +kernel
    rw [this]
    rfl
  have v3 : ((u32 ((((256 * (256 * B8 (A8 c) + B8 (A8 b)) + B8 (A8 a) : Nat) : Int)) + ((((u32 ((256 * (256 * B8 (A8 c) + B8 (A8 b)) + B8 (A8 a) : Nat) : Int)) >>> 4 : Nat) : Int))) &&& 252645135 : Nat)) = 256 * (256 * C8 (B8 (A8 c)) + C8 (B8 (A8 b))) + C8 (B8 (A8 a)) := by
    rw [u32_nat (n := 256 * (256 * B8 (A8 c) + B8 (A8 b)) + B8 (A8 a)) (by omega), shr_d, show 2 ^ 4 = 16 from rfl, ← eC]
    congr 1
    have e : (((256 * (256 * B8 (A8 c) + B8 (A8 b)) + B8 (A8 a) : Nat) : Int)) + (((256 * (256 * B8 (A8 c) + B8 (A8 b)) + B8 (A8 a)) / 16 : Nat) : Int) = ((256 * (256 * B8 (A8 c) + B8 (A8 b)) + B8 (A8 a) + (256 * (256 * B8 (A8 c) + B8 (A8 b)) + B8 (A8 a)) / 16 : Nat) : Int) := by omega
    rw [e, u32_nat (by omega)]
  unfold f_J6_bitCount_0f7a4
  rw [v1, v2, v3]
  have es8 : sumb (fun _ => 1) s 24 = ((C8 (B8 (A8 a)) + C8 (B8 (A8 b)) + C8 (B8 (A8 c)) : Nat) : Int) := by
    rw [show (24 : Nat) = 8 + 8 + 8 from rfl, sumb_add (n := 8 + 8), sumb_add (n := 8)]
    have x1 : sumb (fun _ => 1) s 8 = sumb (fun _ => 1) a 8 := sumb_bits fun i hi => by
      rw [es, show (256 : Nat) = 2 ^ 8 from rfl, Nat.testBit_two_pow_mul_add _ ha, if_pos hi]
    have x2 : sumb (fun _ => 1) (s >>> 8) 8 = sumb (fun _ => 1) b 8 := sumb_bits fun i hi => by
      have : s >>> 8 = 2 ^ 8 * c + b := by rw [shr_d]; omega
      rw [this, Nat.testBit_two_pow_mul_add _ hb, if_pos hi]
    have x3 : s >>> (8 + 8) = c := by rw [shr_d]; omega
    rw [x1, x2, x3, ← pa6, ← pb6, ← pc6]
    omega
  rw [es8]
  generalize C8 (B8 (A8 a)) = x at *
  generalize C8 (B8 (A8 b)) = y at *
  generalize C8 (B8 (A8 c)) = w at *
  clear v1 v2 v3 eA eB1 eB2 eC
  have s8 : (256 * (256 * w + y) + x) >>> 8 = 256 * w + y := by rw [shr_d]; omega
  have d : ((256 * (256 * w + y) + x : Nat) : Int) + ((256 * w + y : Nat) : Int) = ((256 * (256 * w + (y + w)) + (x + y) : Nat) : Int) := by omega
  have s16 : (256 * (256 * w + (y + w)) + (x + y)) >>> 16 = w := by rw [shr_d]; omega
  rw [s8, d, u32_nat (n := 256 * (256 * w + (y + w)) + (x + y)) (by omega), s16]
  have d2_ : ((256 * (256 * w + (y + w)) + (x + y) : Nat) : Int) + (w : Int) = ((256 * (256 * w + (y + w)) + (x + y + w) : Nat) : Int) := by omega
  rw [d2_, u32_nat (by omega), show (63 : Nat) = 2 ^ 6 - 1 from rfl, Nat.and_two_pow_sub_one_eq_mod]
  congr 2
  omega
theorem bits_n {σ : Sg} {s : Nat} (hs : s < 16777216) : f_X10_bits (s : Int) σ = some (sumb (fun _ => 1) s 24) := by
  rw [← sumb_25 hs]
  unfold f_X10_bits
  refine loop_at (St := Int) (F := fun n i v => f_X10_bits_b4 σ n s v i) 25 (fun i v => v = sumb (fun _ => 1) s i) (by decide) ?_ ?_ 0 (by decide) 0 rfl
  · intro n i v hi hv
    right
    refine ⟨_, rfl, ?_⟩
    subst hv
    show f_X10_bits_b4 σ (n + 1) s (sumb (fun _ => 1) s i) (i : Int) = f_X10_bits_b4 σ n s (sumb (fun _ => 1) s (i + 1)) ((i : Int) + 1)
    have e : (s : Int) >>> i = ((s >>> i : Nat) : Int) := rfl
    rw [f_X10_bits_b4, w32_n (by omega), if_pos (by omega), w32_n (by omega), u32_p (by omega), e, u32_nat (nb_shr (by omega)), and_one, sumb]
    cases s.testBit i <;> rfl
  · intro n v hv
    subst hv
    show f_X10_bits_b4 σ (n + 1) s _ ((25 : Nat) : Int) = _
    rw [f_X10_bits_b4, w32_n (by decide), if_neg (by decide)]
