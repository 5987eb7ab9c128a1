/-! ===== numbers: an int of the machine is oI z, a long oL z, z an Int ===== -/
abbrev oI (z : Int) : Int32 := Int32.ofInt z
abbrev oL (z : Int) : Int64 := Int64.ofInt z
def w32 (z : Int) : Int := (Int32.ofInt z).toInt
def w64 (z : Int) : Int := (Int64.ofInt z).toInt
def u32 (z : Int) : Nat := (Int32.ofInt z).toBitVec.toNat
abbrev InR (z : Int) : Prop := -2147483648 ≤ z ∧ z < 2147483648
abbrev InL (z : Int) : Prop := -9223372036854775808 ≤ z ∧ z < 9223372036854775808
theorem w32_eq {z : Int} (h : InR z) : w32 z = z := Int32.toInt_ofInt_of_le (by have := h.1; omega) (by have := h.2; omega)
theorem w64_eq {z : Int} (h : InL z) : w64 z = z := Int64.toInt_ofInt_of_le (by have := h.1; omega) (by have := h.2; omega)
theorem oI_w (z : Int) : oI (w32 z) = oI z := Int32.ofInt_toInt _
theorem oL_w (z : Int) : oL (w64 z) = oL z := Int64.ofInt_toInt _
theorem w32_in (z : Int) : InR (w32 z) := ⟨by have := Int32.le_toInt (Int32.ofInt z); unfold w32; omega, by have := Int32.toInt_lt (Int32.ofInt z); unfold w32; omega⟩
theorem oI_add (a b : Int) : oI (a + b) = oI a + oI b := Int32.ofInt_add a b
theorem oI_sub (a b : Int) : oI (a - b) = oI a - oI b := Int32.ofInt_sub a b
theorem oI_mul (a b : Int) : oI (a * b) = oI a * oI b := Int32.ofInt_mul a b
theorem oI_neg (a : Int) : oI (-a) = -oI a := Int32.ofInt_neg a
theorem oL_add (a b : Int) : oL (a + b) = oL a + oL b := Int64.ofInt_add a b
theorem oL_sub (a b : Int) : oL (a - b) = oL a - oL b := Int64.ofInt_sub a b
theorem oL_mul (a b : Int) : oL (a * b) = oL a * oL b := Int64.ofInt_mul a b
theorem oL_neg (a : Int) : oL (-a) = -oL a := Int64.ofInt_neg a
theorem w32_oI (x : Int32) : w32 x.toInt = x.toInt := by unfold w32; rw [Int32.ofInt_toInt]
theorem oI_lt {a b : Int} : oI a < oI b ↔ w32 a < w32 b := Int32.lt_iff_toInt_lt
theorem oI_le {a b : Int} : oI a ≤ oI b ↔ w32 a ≤ w32 b := Int32.le_iff_toInt_le
theorem oI_eq {a b : Int} : oI a = oI b ↔ w32 a = w32 b := Int32.toInt_inj.symm
theorem oL_lt {a b : Int} : oL a < oL b ↔ w64 a < w64 b := Int64.lt_iff_toInt_lt
theorem oL_le {a b : Int} : oL a ≤ oL b ↔ w64 a ≤ w64 b := Int64.le_iff_toInt_le
theorem oL_eq {a b : Int} : oL a = oL b ↔ w64 a = w64 b := Int64.toInt_inj.symm
theorem w32_0 : w32 0 = 0 := by decide
theorem w64_0 : w64 0 = 0 := by decide
theorem u32_mod (z : Int) : u32 z = (z % 4294967296).toNat := by
  unfold u32
  rw [Int32.toBitVec_ofInt, BitVec.toNat_ofInt]
  rfl
theorem u32_lt (z : Int) : u32 z < 4294967296 := (Int32.ofInt z).toBitVec.isLt
theorem u32_eq {z : Int} (h : 0 ≤ z ∧ z < 4294967296) : u32 z = z.toNat := by
  rw [u32_mod, Int.emod_eq_of_lt h.1 h.2]
theorem u32_nat {n : Nat} (h : n < 4294967296) : u32 (n : Int) = n := by
  rw [u32_eq ⟨by omega, by omega⟩]
  omega
theorem oI_u (z : Int) : oI ((u32 z : Nat) : Int) = oI z := by
  apply Int32.toBitVec_inj.1
  apply BitVec.eq_of_toNat_eq
  rw [Int32.toBitVec_ofInt, BitVec.toNat_ofInt]
  have := u32_lt z
  show ((u32 z : Int) % 4294967296).toNat = u32 z
  omega
theorem oI_nat (n : Nat) : oI (n : Int) = Int32.ofNat n := Int32.ofInt_eq_ofNat
theorem oI_tn (n : Nat) : (oI (n : Int)).toBitVec.toNat = n % 4294967296 := by
  show u32 (n : Int) = _
  rw [u32_mod]
  omega
theorem oI_ext {x : Int32} {n : Nat} (h : x.toBitVec.toNat = n % 4294967296) : x = oI (n : Int) := by
  apply Int32.toBitVec_inj.1
  apply BitVec.eq_of_toNat_eq
  rw [h, oI_tn]
theorem oI_and (a b : Int) : oI a &&& oI b = oI ((u32 a &&& u32 b : Nat) : Int) := by
  apply oI_ext
  rw [Int32.toBitVec_and, BitVec.toNat_and]
  show u32 a &&& u32 b = _
  rw [Nat.mod_eq_of_lt]
  exact Nat.lt_of_le_of_lt Nat.and_le_left (u32_lt a)
theorem oI_or (a b : Int) : oI a ||| oI b = oI ((u32 a ||| u32 b : Nat) : Int) := by
  apply oI_ext
  rw [Int32.toBitVec_or, BitVec.toNat_or]
  show u32 a ||| u32 b = _
  rw [Nat.mod_eq_of_lt]
  exact Nat.or_lt_two_pow (n := 32) (u32_lt a) (u32_lt b)
theorem oI_xor (a b : Int) : oI a ^^^ oI b = oI ((u32 a ^^^ u32 b : Nat) : Int) := by
  apply oI_ext
  rw [Int32.toBitVec_xor, BitVec.toNat_xor]
  show u32 a ^^^ u32 b = _
  rw [Nat.mod_eq_of_lt]
  exact Nat.xor_lt_two_pow (n := 32) (u32_lt a) (u32_lt b)
theorem sh_s : ∀ n, n < 32 → ((Int32.ofNat n).toBitVec.smod 32).toNat = n := by decide +kernel
theorem sh_u : ∀ n, n < 32 → (((Int32.ofNat n).toUInt32 &&& Int32.toUInt32 31).toBitVec % 32).toNat = n := by decide +kernel
theorem oI_m31 (k : Int) : oI k &&& 31 = Int32.ofNat (u32 k % 32) := pk_and (oI k) (m := 31) 5 (by decide)
theorem oI_shl (a k : Int) : oI a <<< (oI k &&& 31) = oI (a * ((2 ^ (u32 k % 32) : Nat) : Int)) := by
  have hk : u32 k % 32 < 32 := Nat.mod_lt _ (by decide)
  rw [oI_m31]
  have h := pk_shl (oI a) (Int32.ofNat (u32 k % 32)) _ (sh_s _ hk)
  have e : oI (a * ((2 ^ (u32 k % 32) : Nat) : Int)) = oI (((u32 a * 2 ^ (u32 k % 32) : Nat) : Nat) : Int) := by
    rw [Int.natCast_mul, oI_mul, oI_mul, oI_u]
  rw [e]
  apply oI_ext
  rw [h]
  rfl
theorem oI_ushr (a k : Int) : ((oI a).toUInt32 >>> ((oI k).toUInt32 &&& Int32.toUInt32 31)).toInt32 = oI ((u32 a >>> (u32 k % 32) : Nat) : Int) := by
  have hk : u32 k % 32 < 32 := Nat.mod_lt _ (by decide)
  have hs : (((oI k).toUInt32 &&& Int32.toUInt32 31).toBitVec % 32).toNat = u32 k % 32 := by
    have h1 : ((oI k).toUInt32 &&& Int32.toUInt32 31).toBitVec = (oI k &&& 31).toBitVec := rfl
    rw [h1, oI_m31]
    have h2 := sh_u _ hk
    have h3 : ((Int32.ofNat (u32 k % 32)).toUInt32 &&& Int32.toUInt32 31).toBitVec = (Int32.ofNat (u32 k % 32) &&& 31).toBitVec := rfl
    have h4 : Int32.ofNat (u32 k % 32) &&& 31 = Int32.ofNat (u32 k % 32) := by
      generalize u32 k % 32 = n at hk
      revert n
      decide +kernel
    rw [h3, h4] at h2
    exact h2
  have h := pk_ushr (oI a) (oI k) _ hs
  apply oI_ext
  rw [h, Nat.shiftRight_eq_div_pow]
  exact (Nat.mod_eq_of_lt (Nat.lt_of_le_of_lt (Nat.div_le_self _ _) (u32_lt a))).symm
theorem oI_shr (a k : Int) : oI a >>> (oI k &&& 31) = oI (w32 a >>> (u32 k % 32)) := by
  have hk : u32 k % 32 < 32 := Nat.mod_lt _ (by decide)
  rw [oI_m31]
  have h := pk_shr (oI a) (Int32.ofNat (u32 k % 32)) _ (sh_s _ hk)
  apply Int32.toInt_inj.1
  rw [h]
  show w32 a >>> _ = w32 _
  refine (w32_eq ?_).symm
  have := w32_in a
  rw [Int.shiftRight_eq_div_pow]
  have h2 : (0 : Int) < ((2 ^ (u32 k % 32) : Nat) : Int) := by exact_mod_cast Nat.two_pow_pos _
  generalize ((2 ^ (u32 k % 32) : Nat) : Int) = d at h2 ⊢
  generalize w32 a = x at this ⊢
  constructor
  · apply Int.le_ediv_of_mul_le h2
    omega
  · apply Int.ediv_lt_of_lt_mul h2
    omega
theorem oI_div (a b : Int) : oI a / oI b = oI ((w32 a).tdiv (w32 b)) := by
  apply Int32.toInt_inj.1
  rw [Int32.toInt_div]
  exact (Int32.toInt_ofInt).symm
theorem oI_rem (a b : Int) : oI a - oI a / oI b * oI b = oI ((w32 a).tmod (w32 b)) := by
  rw [oI_div, Int.tmod_def, oI_sub, oI_mul, oI_w, oI_w, Int32.mul_comm]
theorem oL_div (a b : Int) : oL a / oL b = oL ((w64 a).tdiv (w64 b)) := by
  apply Int64.toInt_inj.1
  rw [Int64.toInt_div]
  exact (Int64.toInt_ofInt).symm
theorem oL_rem (a b : Int) : oL a - oL a / oL b * oL b = oL ((w64 a).tmod (w64 b)) := by
  rw [oL_div, Int.tmod_def, oL_sub, oL_mul, oL_w, oL_w, Int64.mul_comm]
theorem oI_l (z : Int) : (oI z).toInt64 = oL (w32 z) := (Int64.ofInt_int32ToInt _).symm
theorem oL_i (z : Int) : (oL z).toInt32 = oI z := Int64.toInt32_ofInt
theorem oI_ne0 {z : Int} (h : ¬ w32 z = 0) : ¬ oI z = 0 := fun e => h (by have : oI z = oI 0 := e; rw [oI_eq, w32_0] at this; exact this)
theorem oL_ne0 {z : Int} (h : ¬ w64 z = 0) : ¬ oL z = 0 := fun e => h (by have : oL z = oL 0 := e; rw [oL_eq, w64_0] at this; exact this)
/-- the long that a land leaves -/
def u64 (z : Int) : Nat := (Int64.ofInt z).toBitVec.toNat
theorem oL_and (a b : Int) : oL a &&& oL b = oL ((u64 a &&& u64 b : Nat) : Int) := by
  apply Int64.toBitVec_inj.1
  apply BitVec.eq_of_toNat_eq
  rw [Int64.toBitVec_and, BitVec.toNat_and, Int64.toBitVec_ofInt, BitVec.toNat_ofInt]
  show u64 a &&& u64 b = _
  have h : u64 a &&& u64 b < 18446744073709551616 := Nat.lt_of_le_of_lt Nat.and_le_left (Int64.ofInt a).toBitVec.isLt
  show _ = (((u64 a &&& u64 b : Nat) : Int) % 18446744073709551616).toNat
  omega
def ck {α : Type} (c : Prop) [Decidable c] (x : Option α) : Option α := if c then x else none
theorem ck_t {α : Type} {c : Prop} [Decidable c] {x : Option α} (h : c) : ck c x = x := if_pos h
theorem ck_o {α : Type} {c : Prop} [Decidable c] {x : Option α} {r : α} (h : ck c x = some r) : c ∧ x = some r := by
  unfold ck at h
  split at h
  · rename_i hc; exact ⟨hc, h⟩
  · cases h
theorem bd_o {α β : Type} {x : Option α} {f : α → Option β} {r : β} (h : x.bind f = some r) : ∃ q, x = some q ∧ f q = some r := by
  cases x with
  | none => cases h
  | some q => exact ⟨q, rfl, h⟩
theorem if_t {α : Type} {c : Prop} [Decidable c] {x y : Option α} {r : α} (h : (if c then x else y) = some r) (hc : c) : x = some r := by rw [if_pos hc] at h; exact h
theorem if_f {α : Type} {c : Prop} [Decidable c] {x y : Option α} {r : α} (h : (if c then x else y) = some r) (hc : ¬ c) : y = some r := by rw [if_neg hc] at h; exact h
theorem nb_and {a b : Nat} (h : a < 4294967296) : a &&& b < 4294967296 := Nat.lt_of_le_of_lt Nat.and_le_left h
theorem nb_or {a b : Nat} (h : a < 4294967296) (h2 : b < 4294967296) : a ||| b < 4294967296 := Nat.or_lt_two_pow (n := 32) h h2
theorem nb_xor {a b : Nat} (h : a < 4294967296) (h2 : b < 4294967296) : a ^^^ b < 4294967296 := Nat.xor_lt_two_pow (n := 32) h h2
theorem nb_shr {a k : Nat} (h : a < 4294967296) : a >>> k < 4294967296 := by
  rw [Nat.shiftRight_eq_div_pow]
  exact Nat.lt_of_le_of_lt (Nat.div_le_self _ _) h
