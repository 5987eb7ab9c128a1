/-! ===== pure level: places, discs, the first readers ===== -/
theorem w32_1 : w32 1 = 1 := by decide
theorem b01_t {α : Type} {x y : α} {b : Bool} (h : b = true) : (if w32 (if b = true then 1 else 0) = 0 then x else y) = y := by
  rw [if_pos h, w32_1, if_neg (by decide)]
theorem b01_f {α : Type} {x y : α} {b : Bool} (h : b = false) : (if w32 (if b = true then 1 else 0) = 0 then x else y) = x := by
  subst h
  rw [show (if false = true then (1 : Int) else 0) = 0 from rfl, w32_0, if_pos rfl]
theorem mks_t {P : Nat → Bool} {i : Nat} (hi : i < 31) (h : P i = true) : ((u32 ((mks P i : Nat) : Int) ||| u32 ((1 : Int) * ((2 ^ (u32 (i : Int) % 32) : Nat) : Int)) : Nat) : Int) = ((mks P (i + 1) : Nat) : Int) := by
  have e := mks_step (P := P) hi true h
  rwa [if_pos rfl] at e
theorem mks_f {P : Nat → Bool} {i : Nat} (h : P i = false) : mks P (i + 1) = mks P i := by
  rw [mks, if_neg (by rw [h]; decide), Nat.or_zero]
theorem mks_0 (P : Nat → Bool) : ((mks P 0 : Nat) : Int) = 0 := rfl
theorem mks_congr {P Q : Nat → Bool} : ∀ {n : Nat}, (∀ i, i < n → P i = Q i) → mks P n = mks Q n
  | 0, _ => rfl
  | n + 1, h => by rw [mks, mks, mks_congr (n := n) (fun i hi => h i (by omega)), h n (by omega)]
theorem ntn (i : Nat) : ((i : Nat) : Int).toNat = i := Int.toNat_natCast i
theorem within_n {σ : Sg} {F : Nat} (hF : σ 6 5 = (F : Int)) (hFl : F < 16777216) (mx my R : Int) (hr : ∀ p, p < 24 → InR ((σ 7 p - mx) * (σ 7 p - mx) + (σ 8 p - my) * (σ 8 p - my))) (hR : InR (R * R)) :
    f_X0_within mx my R σ = some ((mks (fun p => F.testBit p && decide ((σ 7 p - mx) * (σ 7 p - mx) + (σ 8 p - my) * (σ 8 p - my) ≤ R * R)) 24 : Nat) : Int) := by
  unfold f_X0_within
  generalize hP : (fun p => F.testBit p && decide ((σ 7 p - mx) * (σ 7 p - mx) + (σ 8 p - my) * (σ 8 p - my) ≤ R * R)) = P
  refine loop_at (St := Int) (F := fun n i v4 => f_X0_within_b6 σ n mx my R v4 i) 24 (fun i s => s = ((mks P i : Nat) : Int)) (by decide) ?_ ?_ 0 (by decide) 0 rfl
  · intro n i s hi h
    right
    refine ⟨((mks P (i + 1) : Nat) : Int), rfl, ?_⟩
    subst h
    show f_X0_within_b6 σ (n + 1) mx my R _ (i : Int) = f_X0_within_b6 σ n mx my R _ ((i : Int) + 1)
    rw [f_X0_within_b6, w32_n (by omega), if_pos (by omega), ck_t (by omega), ck_t (by omega), hF, contains_n (by omega) (by omega), Option.bind_some, ntn]
    have hPi : P i = (F.testBit i && decide ((σ 7 i - mx) * (σ 7 i - mx) + (σ 8 i - my) * (σ 8 i - my) ≤ R * R)) := by rw [← hP]
    cases hb : F.testBit i with
    | false =>
      rw [b01_f rfl]
      rw [hb, Bool.false_and] at hPi
      rw [mks_f hPi]
      rfl
    | true =>
      rw [b01_t rfl, w32_eq (hr i hi), w32_eq hR]
      rw [hb, Bool.true_and] at hPi
      by_cases hd : (σ 7 i - mx) * (σ 7 i - mx) + (σ 8 i - my) * (σ 8 i - my) ≤ R * R
      · rw [if_pos hd, mks_t (by omega) (by rw [hPi]; exact decide_eq_true hd)]
        rfl
      · rw [if_neg hd, mks_f (by rw [hPi]; exact decide_eq_false hd)]
        rfl
  · intro n s h
    subst h
    show f_X0_within_b6 σ (n + 1) mx my R _ ((24 : Nat) : Int) = _
    rw [f_X0_within_b6, w32_n (by decide), if_neg (by decide)]
theorem sumb_bits {S : Nat → Int} {s t : Nat} : ∀ {n : Nat}, (∀ i, i < n → s.testBit i = t.testBit i) → sumb S s n = sumb S t n
  | 0, _ => rfl
  | n + 1, h => by rw [sumb, sumb, sumb_bits (n := n) (fun i hi => h i (by omega)), h n (by omega)]
theorem sumb_add {S : Nat → Int} {s n : Nat} : ∀ (m : Nat), sumb S s (n + m) = sumb S s n + sumb (fun k => S (n + k)) (s >>> n) m
  | 0 => by simp [sumb]
  | m + 1 => by
    rw [← Nat.add_assoc, sumb, sumb_add m, sumb, Nat.testBit_shiftRight]
    omega
/-- the sums of eight at once, as the class keeps them -/
def Grp (σ : Sg) (S : Nat → Int) : Prop := ∀ g i, g < 3 → i < 256 → σ 11 (256 * g + i) = sumb (fun k => S (8 * g + k)) i 8
theorem and255 (s : Nat) : s &&& 255 < 256 := Nat.lt_of_le_of_lt Nat.and_le_right (by decide)
theorem tb255 {s i : Nat} (hi : i < 8) : (s &&& 255).testBit i = s.testBit i := by
  rw [Nat.testBit_and]
  have : (255 : Nat).testBit i = true := by
    rcases (show i = 0 ∨ i = 1 ∨ i = 2 ∨ i = 3 ∨ i = 4 ∨ i = 5 ∨ i = 6 ∨ i = 7 by omega) with rfl | rfl | rfl | rfl | rfl | rfl | rfl | rfl <;> decide
  rw [this, Bool.and_true]
theorem sums_n {σ : Sg} {S : Nat → Int} (hg : Grp σ S) {s : Nat} (hs : s < 16777216) : f_X0_sums (s : Int) σ = some (sumb S s 24) := by
  unfold f_X0_sums
  rw [u32_nat (by omega)]
  have ha := and255 s
  have hb := and255 (s >>> 8)
  have hc := and255 (s >>> 16)
  have e0 := hg 0 (s &&& 255) (by decide) ha
  have e1 := hg 1 ((s >>> 8) &&& 255) (by decide) hb
  have e2 := hg 2 ((s >>> 16) &&& 255) (by decide) hc
  rw [sumb_bits (fun i hi => tb255 hi)] at e0 e1 e2
  have hsum : sumb S s 24 = sumb S s 8 + sumb (fun k => S (8 + k)) (s >>> 8) 8 + sumb (fun k => S (16 + k)) (s >>> 16) 8 := by
    rw [show (24 : Nat) = 8 + 8 + 8 from rfl, sumb_add (n := 8 + 8), sumb_add (n := 8)]
  generalize s &&& 255 = a at ha e0 ⊢
  generalize (s >>> 8) &&& 255 = b at hb e1 ⊢
  generalize (s >>> 16) &&& 255 = c at hc e2 ⊢
  rw [w32_eq ⟨by omega, by omega⟩, if_pos (by omega), ck_t (by omega), ck_t (by omega), ck_t (by omega)]
  have t0 : ((a : Int)).toNat = 256 * 0 + a := by omega
  have t1 : (((256 : Nat) : Int) + (b : Int)).toNat = 256 * 1 + b := by omega
  have t2 : (((512 : Nat) : Int) + (c : Int)).toNat = 256 * 2 + c := by omega
  rw [t0, t1, t2, e0, e1, e2, hsum]
  simp only [Nat.mul_zero, Nat.zero_add, Nat.mul_one]
