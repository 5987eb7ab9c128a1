/-! ===== pure level: ring, lowest terms ===== -/
theorem inL_n {n : Nat} (h : n < 4611686018427387904) : InL (n : Int) := ⟨by omega, by omega⟩
theorem w64_n {n : Nat} (h : n < 4611686018427387904) : w64 (n : Int) = n := w64_eq (inL_n h)
theorem mod_half {b r : Nat} (hr : r < b) : r = 0 ∨ 2 * (b % r) < b := by
  rcases Nat.eq_zero_or_pos r with h | h
  · exact Or.inl h
  · right
    have h1 := Nat.mod_lt b h
    have h2 := Nat.div_add_mod b r
    have h3 : 1 ≤ b / r := (Nat.le_div_iff_mul_le h).mpr (by omega)
    have h4 := Nat.mul_le_mul_left r h3
    omega
theorem gcd_st (a b : Nat) : Nat.gcd b a = Nat.gcd (a % b) b := Nat.gcd_rec b a
theorem red_n {σ : Sg} {v1 v3 : Int} : ∀ (k a b i n : Nat), b < 2 ^ k → 2 * k + i < 1000 → 2 * k < n → a < 4611686018427387904 → b < 4611686018427387904 → f_X1_reduce_b9 n v1 v3 (a : Int) (b : Int) (i : Int) σ = f_X1_reduce_b45 v1 v3 ((Nat.gcd b a : Nat) : Int) σ := by
  intro k
  induction k with
  | zero =>
    intro a b i n hb hi hn ha _
    have hb : b = 0 := by omega
    subst hb
    obtain ⟨n, rfl⟩ : ∃ m, n = m + 1 := ⟨n - 1, by omega⟩
    rw [f_X1_reduce_b9, w32_n (by omega), if_pos (show (i : Int) < 1000 by omega), if_pos (show w64 ((0 : Nat) : Int) = 0 by decide), Nat.gcd_zero_left]
  | succ k ih =>
    intro a b i n hb hi hn ha hb2
    obtain ⟨n, rfl⟩ : ∃ m, n = m + 1 := ⟨n - 1, by omega⟩
    rw [f_X1_reduce_b9, w32_n (by omega), if_pos (show (i : Int) < 1000 by omega), w64_n hb2, w64_n ha]
    by_cases h0 : b = 0
    · subst h0
      rw [if_pos (show ((0 : Nat) : Int) = 0 from rfl), Nat.gcd_zero_left]
    · have hm := Nat.mod_lt a (Nat.pos_of_ne_zero h0)
      rw [if_neg (show ¬ (b : Int) = 0 by omega), ck_t (by omega), ← Int.ofNat_tmod, gcd_st a b]
      generalize hr : a % b = r at *
      obtain ⟨n, rfl⟩ : ∃ m, n = m + 1 := ⟨n - 1, by omega⟩
      rw [← ncast_s, f_X1_reduce_b9, w32_n (by omega), if_pos (show ((i + 1 : Nat) : Int) < 1000 by omega), w64_n (n := r) (by omega), w64_n hb2]
      by_cases h1 : r = 0
      · subst h1
        rw [if_pos (show ((0 : Nat) : Int) = 0 from rfl), Nat.gcd_zero_left]
      · have h2 := (mod_half hm).resolve_left h1
        rw [if_neg (show ¬ (r : Int) = 0 by omega), ck_t (by omega), ← Int.ofNat_tmod, gcd_st b r, ← ncast_s]
        rw [Nat.pow_succ] at hb
        exact ih r (b % r) (i + 1 + 1) n (by omega) (by omega) (by omega) (by omega) (by omega)
theorem com_n {σ : Sg} : ∀ (k a b n : Nat), b < 2 ^ k → 2 * k < n → a < 4611686018427387904 → b < 4611686018427387904 → f_X10_common_b6 σ n (a : Int) (b : Int) = some ((Nat.gcd b a : Nat) : Int) := by
  intro k
  induction k with
  | zero =>
    intro a b n hb hn ha _
    have hb : b = 0 := by omega
    subst hb
    obtain ⟨n, rfl⟩ : ∃ m, n = m + 1 := ⟨n - 1, by omega⟩
    rw [f_X10_common_b6, if_pos (show w64 ((0 : Nat) : Int) = 0 by decide), Nat.gcd_zero_left]
  | succ k ih =>
    intro a b n hb hn ha hb2
    obtain ⟨n, rfl⟩ : ∃ m, n = m + 1 := ⟨n - 1, by omega⟩
    rw [f_X10_common_b6, w64_n hb2, w64_n ha]
    by_cases h0 : b = 0
    · subst h0
      rw [if_pos (show ((0 : Nat) : Int) = 0 from rfl), Nat.gcd_zero_left]
    · have hm := Nat.mod_lt a (Nat.pos_of_ne_zero h0)
      rw [if_neg (show ¬ (b : Int) = 0 by omega), ck_t (by omega), ← Int.ofNat_tmod, gcd_st a b]
      generalize hr : a % b = r at *
      obtain ⟨n, rfl⟩ : ∃ m, n = m + 1 := ⟨n - 1, by omega⟩
      rw [f_X10_common_b6, w64_n (n := r) (by omega), w64_n hb2]
      by_cases h1 : r = 0
      · subst h1
        rw [if_pos (show ((0 : Nat) : Int) = 0 from rfl), Nat.gcd_zero_left]
      · have h2 := (mod_half hm).resolve_left h1
        rw [if_neg (show ¬ (r : Int) = 0 by omega), ck_t (by omega), ← Int.ofNat_tmod, gcd_st b r]
        rw [Nat.pow_succ] at hb
        exact ih r (b % r) n (by omega) (by omega) (by omega) (by omega)
/-- the five numbers of a circle -/
def C20 (z : Sg) (A B p q r : Int) : Prop := z 20 1 = A ∧ z 20 2 = B ∧ z 20 3 = p ∧ z 20 4 = q ∧ z 20 5 = r
def C58 (ζ : Sg) (A B p q r : Int) : Prop := ζ 58 0 = A ∧ ζ 58 1 = B ∧ ζ 58 2 = p ∧ ζ 58 3 = q ∧ ζ 58 4 = r
def Fr20 (z z' : Sg) : Prop := ∀ k j, k ≠ 20 → z' k j = z k j
theorem Fr20.sd {z z' : Sg} (h : Fr20 z z') : SD z z' := fun k j hk => h k j (fun e => hk (by unfold DSc; omega))
theorem Fr20.tr {z w v : Sg} (h : Fr20 z w) (h2 : Fr20 w v) : Fr20 z v := fun k j hk => (h2 k j hk).trans (h k j hk)
theorem Fr20.up {z w : Sg} {j : Nat} {v : Int} (h : Fr20 z w) : Fr20 z (up w 20 j v) := fun k i hk => by rw [up_k hk]; exact h k i hk
theorem Fr20.rf {z : Sg} : Fr20 z z := fun _ _ _ => rfl
def Fr58 (z z' : Sg) : Prop := ∀ k j, k ≠ 58 → z' k j = z k j
theorem Fr58.ss {z z' : Sg} (h : Fr58 z z') : SS z z' := fun k j hk => h k j (fun e => hk (by unfold Scm; omega))
theorem reduce_n {z : Sg} {a b : Nat} (ha : a < 4611686018427387904) (hb : b < 4611686018427387904) (h0 : 0 < b) : ∃ z', f_X1_reduce (a : Int) (b : Int) z = some z' ∧ z' = up (up z 20 1 (((a : Int)).tdiv ((Nat.gcd a b : Nat) : Int))) 20 2 (((b : Int)).tdiv ((Nat.gcd a b : Nat) : Int)) := by
  have g0 : 0 < Nat.gcd a b := Nat.gcd_pos_of_pos_right a h0
  have gl : Nat.gcd a b < 4611686018427387904 := Nat.lt_of_le_of_lt (Nat.gcd_le_right a h0) hb
  unfold f_X1_reduce
  have e := red_n (σ := z) (v1 := (a : Int)) (v3 := (b : Int)) 62 a b 0 FUEL (by omega) (by decide) (by decide) ha hb
  rw [Nat.gcd_comm b a] at e
  rw [show f_X1_reduce_b9 FUEL (a : Int) (b : Int) (a : Int) (b : Int) 0 z = _ from e]
  unfold f_X1_reduce_b45 f_X1_reduce_b61 f_X1_reduce_b80 wr
  dsimp only
  generalize Nat.gcd a b = g at *
  rw [w64_n gl, if_neg (show ¬ (g : Int) = 0 by omega), ck_t (by omega), if_neg (show ¬ (g : Int) = 0 by omega), ck_t (by omega), w64_n ha, w64_n hb]
  exact ⟨_, rfl, rfl⟩
theorem isRing_n {ζ : Sg} {a b : Nat} {p q r : Int} (ha : a < 4611686018427387904) (hb : b < 4611686018427387904) (h0 : 0 < b) (hp : InR p) (hq : InR q) (hr : InR r) : ∃ ζ', f_X10_isRing (a : Int) (b : Int) p q r ζ = some ζ' ∧ Fr58 ζ ζ' ∧ C58 ζ' (((a : Int)).tdiv ((Nat.gcd a b : Nat) : Int)) (((b : Int)).tdiv ((Nat.gcd a b : Nat) : Int)) p q r := by
  have g0 : 0 < Nat.gcd a b := Nat.gcd_pos_of_pos_right a h0
  have gl : Nat.gcd a b < 4611686018427387904 := Nat.lt_of_le_of_lt (Nat.gcd_le_right a h0) hb
  unfold f_X10_isRing f_X10_common
  rw [com_n (σ := ζ) 62 b a FUEL (by omega) (by decide) hb ha, Option.bind_some]
  generalize Nat.gcd a b = g at *
  rw [w64_n gl, ck_t (by omega)]
  unfold wr
  dsimp only
  rw [ck_t (by omega), w64_n ha, w64_n hb, w32_eq hp, w32_eq hq, w32_eq hr]
  refine ⟨_, rfl, fun k j hk => ?_, ?_, ?_, ?_, ?_, ?_⟩
  · rw [up_k hk, up_k hk, up_k hk, up_k hk, up_k hk]
  · rw [up_j (by decide), up_j (by decide), up_j (by decide), up_j (by decide), up_s]
  · rw [up_j (by decide), up_j (by decide), up_j (by decide), up_s]
  · rw [up_j (by decide), up_j (by decide), up_s]
  · rw [up_j (by decide), up_s]
  · rw [up_s]
