/-! ===== pure level: numbers, loops, sets as bits ===== -/
theorem w32_n {n : Nat} (h : n < 2147483648) : w32 (n : Int) = n := w32_eq ⟨by omega, by omega⟩
theorem fuel_lt {k : Nat} (h : k < 1000000) : k < FUEL := h
theorem ncast_s (i : Nat) : ((i + 1 : Nat) : Int) = (i : Int) + 1 := rfl
theorem loop_to {α St : Type} {F : Nat → Int → St → Option α} (N : Nat) (I : Nat → St → Prop) {r : Option α}
    (hs : ∀ n i s, i < N → I i s → F (n + 1) (i : Int) s = r ∨ ∃ s', I (i + 1) s' ∧ F (n + 1) (i : Int) s = F n ((i : Int) + 1) s')
    (hx : ∀ n s, I N s → F (n + 1) (N : Int) s = r) : ∀ (k i : Nat) (s : St) (n : Nat), i + k = N → I i s → k < n → F n (i : Int) s = r := by
  intro k
  induction k with
  | zero =>
    intro i s n hi h hn
    obtain ⟨n, rfl⟩ : ∃ m, n = m + 1 := ⟨n - 1, by omega⟩
    have hi : i = N := by omega
    subst hi
    exact hx n s h
  | succ k ih =>
    intro i s n hi h hn
    obtain ⟨n, rfl⟩ : ∃ m, n = m + 1 := ⟨n - 1, by omega⟩
    rcases hs n i s (by omega) h with h1 | ⟨s', h1, h2⟩
    · exact h1
    · rw [h2, ← ncast_s]
      exact ih (i + 1) s' n (by omega) h1 (by omega)
/-- the same, from i on, with fuel enough -/
theorem loop_at {α St : Type} {F : Nat → Int → St → Option α} (N : Nat) (I : Nat → St → Prop) {r : Option α} (hN : N < 900000)
    (hs : ∀ n i s, i < N → I i s → F (n + 1) (i : Int) s = r ∨ ∃ s', I (i + 1) s' ∧ F (n + 1) (i : Int) s = F n ((i : Int) + 1) s')
    (hx : ∀ n s, I N s → F (n + 1) (N : Int) s = r) (i : Nat) (hi : i ≤ N) (s : St) (h : I i s) : F FUEL (i : Int) s = r :=
  loop_to N I hs hx (N - i) i s FUEL (by omega) h (fuel_lt (by omega))
def mks (P : Nat → Bool) : Nat → Nat
  | 0 => 0
  | n + 1 => mks P n ||| (if P n then 2 ^ n else 0)
theorem tb_mks (P : Nat → Bool) (n i : Nat) : (mks P n).testBit i = (decide (i < n) && P i) := by
  induction n with
  | zero => simp [mks]
  | succ n ih =>
    rw [mks, Nat.testBit_or, ih]
    by_cases h : P n
    · rw [if_pos h, Nat.testBit_two_pow]
      by_cases hi : i = n
      · subst hi
        simp [h]
      · have : ¬ n = i := fun e => hi e.symm
        simp only [this, decide_false, Bool.or_false]
        congr 1
        rw [decide_eq_decide]
        omega
    · rw [if_neg h, Nat.zero_testBit, Bool.or_false]
      by_cases hi : i = n
      · subst hi
        simp [h]
      · congr 1
        rw [decide_eq_decide]
        omega
theorem mks_lt (P : Nat → Bool) (n : Nat) : mks P n < 2 ^ n := by
  apply Nat.lt_pow_two_of_testBit
  intro i hi
  rw [tb_mks]
  simp
  omega
theorem mks_24 (P : Nat → Bool) : mks P 24 < 16777216 := mks_lt P 24
theorem mks_25 (P : Nat → Bool) : mks P 25 < 33554432 := mks_lt P 25
theorem tb_big {s n i : Nat} (h : s < 2 ^ n) (hi : n ≤ i) : s.testBit i = false := Nat.testBit_lt_two_pow (Nat.lt_of_lt_of_le h (Nat.pow_le_pow_right (by decide) hi))
theorem tb_24 {s i : Nat} (h : s < 16777216) (hi : 24 ≤ i) : s.testBit i = false := tb_big (n := 24) h hi
theorem bit_lt {s i : Nat} (h : s < 16777216) (hi : s.testBit i = true) : i < 24 := by
  rcases Nat.lt_or_ge i 24 with q | q
  · exact q
  · rw [tb_24 h q] at hi
    cases hi
theorem bits_ext {a b : Nat} (h : ∀ i, a.testBit i = b.testBit i) : a = b := Nat.eq_of_testBit_eq h
theorem pow_lt {p : Nat} (hp : p < 32) : 2 ^ p < 4294967296 := Nat.pow_lt_pow_right (by decide) hp
theorem pow_24 {p : Nat} (hp : p < 24) : 2 ^ p < 16777216 := Nat.pow_lt_pow_right (a := 2) (by decide) hp
theorem u32_p {p : Nat} (hp : p < 32) : u32 (p : Int) % 32 = p := by rw [u32_nat (by omega)]; omega
theorem one_shl {p : Nat} (hp : p < 32) : ((1 : Int) * ((2 ^ (u32 (p : Int) % 32) : Nat) : Int)) = ((2 ^ p : Nat) : Int) := by rw [u32_p hp, Int.one_mul]
theorem and_one (s p : Nat) : (s >>> p) &&& 1 = if s.testBit p then 1 else 0 := by
  rw [Nat.testBit, Nat.and_comm]
  have h : 1 &&& (s >>> p) < 2 := Nat.lt_of_le_of_lt Nat.and_le_left (by decide)
  generalize 1 &&& (s >>> p) = x at h
  rcases (show x = 0 ∨ x = 1 by omega) with rfl | rfl <;> rfl
theorem cond01 {c : Bool} : ((if c then 1 else 0 : Nat) : Int) = if c then 1 else 0 := by cases c <;> rfl
theorem contains_n {σ : Sg} {s p : Nat} (hs : s < 4294967296) (hp : p < 32) : f_X9_contains (s : Int) (p : Int) σ = some (if s.testBit p then 1 else 0) := by
  unfold f_X9_contains
  rw [u32_nat hs, u32_p hp, and_one]
  cases s.testBit p <;> rfl
theorem has_n {σ : Sg} {s p : Nat} (hs : s < 2147483648) (hp : p < 32) : f_X10_has (s : Int) (p : Int) σ = some (if s.testBit p then 1 else 0) := by
  unfold f_X10_has
  rw [w32_n hs, u32_p hp]
  have e : (s : Int) >>> p = ((s >>> p : Nat) : Int) := rfl
  rw [e, u32_nat (nb_shr (by omega)), and_one]
  cases s.testBit p <;> rfl
theorem isNumber_n {σ : Sg} {p : Int} (hp : InR p) : f_X9_isNumber p σ = some (if 0 ≤ p ∧ p < 24 then 1 else 0) := by
  unfold f_X9_isNumber
  rw [w32_eq hp]
  by_cases h : p < 0
  · rw [if_pos h, if_neg (by omega)]
  · rw [if_neg h]
    by_cases h2 : p < 24
    · rw [if_pos h2, if_pos (by omega)]
    · rw [if_neg h2, if_neg (by omega)]
/-- what a bit more makes of a set that is made bit by bit -/
theorem mks_step {P : Nat → Bool} {i : Nat} (hi : i < 31) (b : Bool) (h : P i = b) : (if b then ((u32 ((mks P i : Nat) : Int) ||| u32 ((1 : Int) * ((2 ^ (u32 (i : Int) % 32) : Nat) : Int)) : Nat) : Int) else ((mks P i : Nat) : Int)) = ((mks P (i + 1) : Nat) : Int) := by
  have hl : mks P i < 4294967296 := Nat.lt_trans (mks_lt P i) (pow_lt (by omega))
  rw [one_shl (by omega), u32_nat hl, u32_nat (pow_lt (by omega)), mks, h]
  cases b <;> simp
/-- sums of a set: of the first n -/
def sumb (S : Nat → Int) (s : Nat) : Nat → Int
  | 0 => 0
  | n + 1 => sumb S s n + (if s.testBit n then S n else 0)
theorem sumb_congr {S T : Nat → Int} {s : Nat} : ∀ {n : Nat}, (∀ i, i < n → s.testBit i = true → S i = T i) → sumb S s n = sumb T s n
  | 0, _ => rfl
  | n + 1, h => by
    rw [sumb, sumb, sumb_congr (n := n) (fun i hi => h i (by omega))]
    by_cases hb : s.testBit n = true
    · rw [if_pos hb, if_pos hb, h n (by omega) hb]
    · rw [if_neg hb, if_neg hb]
theorem sumb_bound {S : Nat → Int} {s : Nat} {B : Int} (hB : 0 ≤ B) : ∀ {n : Nat}, (∀ i, i < n → s.testBit i = true → 0 ≤ S i ∧ S i ≤ B) → 0 ≤ sumb S s n ∧ sumb S s n ≤ n * B
  | 0, _ => by simp [sumb]
  | n + 1, h => by
    have h1 := sumb_bound (n := n) hB (fun i hi => h i (by omega))
    rw [sumb, ncast_s, Int.add_mul]
    by_cases hb : s.testBit n = true
    · rw [if_pos hb]
      have := h n (by omega) hb
      omega
    · rw [if_neg hb]
      omega
theorem sumb_mono {S : Nat → Int} {s t : Nat} : ∀ {n : Nat}, (∀ i, i < n → s.testBit i = true → t.testBit i = true) → (∀ i, i < n → t.testBit i = true → 0 ≤ S i) → sumb S s n ≤ sumb S t n
  | 0, _, _ => by simp [sumb]
  | n + 1, h, h0 => by
    have h1 := sumb_mono (n := n) (fun i hi => h i (by omega)) (fun i hi => h0 i (by omega))
    rw [sumb, sumb]
    by_cases hb : s.testBit n = true
    · rw [if_pos hb, if_pos (h n (by omega) hb)]
      omega
    · rw [if_neg hb]
      by_cases ht : t.testBit n = true
      · rw [if_pos ht]
        have := h0 n (by omega) ht
        omega
      · rw [if_neg ht]
        omega
theorem sumb_lt {S : Nat → Int} {s t k : Nat} : ∀ {n : Nat}, (∀ i, i < n → s.testBit i = true → t.testBit i = true) → (∀ i, i < n → t.testBit i = true → 0 < S i) → k < n → t.testBit k = true → s.testBit k = false → sumb S s n < sumb S t n
  | 0, _, _, hk, _, _ => by omega
  | n + 1, h, h0, hk, ht, hs => by
    rw [sumb, sumb]
    by_cases hkn : k = n
    · subst hkn
      have h1 := sumb_mono (S := S) (s := s) (t := t) (n := k) (fun i hi => h i (by omega)) (fun i hi q => Int.le_of_lt (h0 i (by omega) q))
      rw [ht, hs]
      have := h0 k (by omega) ht
      simp
      omega
    · have h1 := sumb_lt (n := n) (fun i hi => h i (by omega)) (fun i hi => h0 i (by omega)) (by omega) ht hs
      by_cases hb : s.testBit n = true
      · rw [if_pos hb, if_pos (h n (by omega) hb)]
        omega
      · rw [if_neg hb]
        by_cases htn : t.testBit n = true
        · rw [if_pos htn]
          have := h0 n (by omega) htn
          omega
        · rw [if_neg htn]
          omega
