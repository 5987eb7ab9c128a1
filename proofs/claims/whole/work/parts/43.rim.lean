/-! ===== pure level: which places lie in a disc with two on its rim ===== -/
theorem mul_bd {x y A B : Int} (hx : -A ≤ x ∧ x ≤ A) (hy : -B ≤ y ∧ y ≤ B) : -(A * B) ≤ x * y ∧ x * y ≤ A * B := by
  have h1 : x.natAbs ≤ A.natAbs := by omega
  have h2 : y.natAbs ≤ B.natAbs := by omega
  have h3 := Nat.mul_le_mul h1 h2
  rw [← Int.natAbs_mul, ← Int.natAbs_mul] at h3
  have hA : 0 ≤ A := by omega
  have hB : 0 ≤ B := by omega
  have h4 := Int.mul_nonneg hA hB
  omega
def dotp (X Y : Nat → Int) (a b q : Nat) : Int := (X q - X a) * (X q - X b) + (Y q - Y a) * (Y q - Y b)
def crs (X Y : Nat → Int) (a b q : Nat) : Int := (X b - X a) * (Y q - Y a) - (Y b - Y a) * (X q - X a)
/-- in the disc whose midst is to the left, told by dot, cross, how far the two are (squared), and what 4 times the radius squared is more -/
def inS (dot cross far k : Int) : Bool := if dot ≤ 0 then decide (0 ≤ cross ∨ cross * cross * k ≤ dot * dot * far) else decide (0 < cross ∧ dot * dot * far ≤ cross * cross * k)
def inD (X Y : Nat → Int) (R : Int) (a b : Nat) (side : Bool) (q : Nat) : Bool := inS (dotp X Y a b q) (if side then -crs X Y a b q else crs X Y a b q) (d2 X Y a b) (4 * R * R - d2 X Y a b)
def Pl (X Y : Nat → Int) (p : Nat) : Prop := (0 ≤ X p ∧ X p < 300) ∧ (0 ≤ Y p ∧ Y p < 300)
theorem sq_nn (x : Int) : 0 ≤ x * x := by
  rcases Int.le_total 0 x with h | h
  · exact Int.mul_nonneg h h
  · exact Int.mul_nonneg_of_nonpos_of_nonpos h h
theorem d2_bd {X Y : Nat → Int} {p q : Nat} (hp : Pl X Y p) (hq : Pl X Y q) : 0 ≤ d2 X Y p q ∧ d2 X Y p q ≤ 178802 := by
  obtain ⟨⟨a1, a2⟩, a3, a4⟩ := hp
  obtain ⟨⟨b1, b2⟩, b3, b4⟩ := hq
  have h1 := mul_bd (x := X p - X q) (y := X p - X q) (A := 299) (B := 299) ⟨by omega, by omega⟩ ⟨by omega, by omega⟩
  have h2 := mul_bd (x := Y p - Y q) (y := Y p - Y q) (A := 299) (B := 299) ⟨by omega, by omega⟩ ⟨by omega, by omega⟩
  have h3 := sq_nn (X p - X q)
  have h4 := sq_nn (Y p - Y q)
  unfold d2
  omega
theorem dotp_bd {X Y : Nat → Int} {p q r : Nat} (hp : Pl X Y p) (hq : Pl X Y q) (hr : Pl X Y r) : -178802 ≤ dotp X Y p q r ∧ dotp X Y p q r ≤ 178802 := by
  obtain ⟨⟨a1, a2⟩, a3, a4⟩ := hp
  obtain ⟨⟨b1, b2⟩, b3, b4⟩ := hq
  obtain ⟨⟨c1, c2⟩, c3, c4⟩ := hr
  have h1 := mul_bd (x := X r - X p) (y := X r - X q) (A := 299) (B := 299) ⟨by omega, by omega⟩ ⟨by omega, by omega⟩
  have h2 := mul_bd (x := Y r - Y p) (y := Y r - Y q) (A := 299) (B := 299) ⟨by omega, by omega⟩ ⟨by omega, by omega⟩
  unfold dotp
  omega
theorem crs_bd {X Y : Nat → Int} {p q r : Nat} (hp : Pl X Y p) (hq : Pl X Y q) (hr : Pl X Y r) : -178802 ≤ crs X Y p q r ∧ crs X Y p q r ≤ 178802 := by
  obtain ⟨⟨a1, a2⟩, a3, a4⟩ := hp
  obtain ⟨⟨b1, b2⟩, b3, b4⟩ := hq
  obtain ⟨⟨c1, c2⟩, c3, c4⟩ := hr
  have h1 := mul_bd (x := X q - X p) (y := Y r - Y p) (A := 299) (B := 299) ⟨by omega, by omega⟩ ⟨by omega, by omega⟩
  have h2 := mul_bd (x := Y q - Y p) (y := X r - X p) (A := 299) (B := 299) ⟨by omega, by omega⟩ ⟨by omega, by omega⟩
  unfold crs
  omega
/-- products of three, as the tests have them -/
theorem tri_bd {x y D A B : Int} (hx : -A ≤ x ∧ x ≤ A) (hy : -B ≤ y ∧ y ≤ B) : -(A * A * B) ≤ x * x * y ∧ x * x * y ≤ A * A * B := mul_bd (mul_bd hx hx) hy
/-- the reference's test of one, out of its numbers -/
theorem b150_n {σ : Sg} {R D dot cross : Int} (hR : 0 ≤ R ∧ R ≤ 300) (hD : 0 ≤ D ∧ D ≤ 178802) (hd : -178802 ≤ dot ∧ dot ≤ 178802) (hc : -178802 ≤ cross ∧ cross ≤ 178802) (hD0 : 0 < D) (hDR : D ≤ 4 * R * R) :
    f_X10_isIn_b150 σ R D (4 * dot) (2 * cross) = some (if inS dot cross D (4 * R * R - D) then 1 else 0) := by
  have hRR := mul_bd (x := 4 * R) (y := R) (A := 1200) (B := 300) ⟨by omega, by omega⟩ ⟨by omega, by omega⟩
  have hRR0 : 0 ≤ 4 * R * R := Int.mul_nonneg (by omega) hR.1
  obtain ⟨k, hk⟩ : ∃ k, k = 4 * R * R - D := ⟨_, rfl⟩
  have hkb : -400000 ≤ k ∧ k ≤ 400000 := by omega
  have t1 := tri_bd (x := dot) (y := D) (D := 0) (A := 178802) (B := 178802) hd ⟨by omega, by omega⟩
  have t2 := tri_bd (x := cross) (y := k) (D := 0) (A := 178802) (B := 400000) hc hkb
  have e1 : 4 * dot * (4 * dot) * D = 16 * (dot * dot * D) := by grind
  have e2 : 4 * (2 * cross) * (2 * cross) * k = 16 * (cross * cross * k) := by grind
  have e3 : -(4 * dot) * (4 * dot) * D = -(16 * (dot * dot * D)) := by grind
  have s1 : 0 ≤ dot * dot * D := Int.mul_nonneg (sq_nn dot) hD.1
  unfold f_X10_isIn_b150
  rw [w32_eq (z := R) ⟨by omega, by omega⟩, ← hk, w64_eq (z := 4 * dot) ⟨by omega, by omega⟩]
  have main : ∀ L : Int, (L = if dot < 0 then -(16 * (dot * dot * D)) else 16 * (dot * dot * D)) → f_X10_isIn_b195 σ (2 * cross) k L = some (if inS dot cross D k then 1 else 0) := by
    intro L hL
    unfold f_X10_isIn_b195 f_X10_isIn_b228
    rw [w64_eq (z := 2 * cross) ⟨by omega, by omega⟩, e2]
    have hLr : InL L := by
      rw [hL]
      split <;> exact ⟨by omega, by omega⟩
    rw [w64_eq hLr, w64_eq (z := 16 * (cross * cross * k)) ⟨by omega, by omega⟩, w64_eq (z := -(16 * (cross * cross * k))) ⟨by omega, by omega⟩, hL]
    unfold inS
    have d0 : 0 < dot → 0 < dot * dot * D := fun h => Int.mul_pos (Int.mul_pos h h) hD0
    have dn : dot < 0 → 0 < dot * dot * D := fun h => Int.mul_pos (Int.mul_pos_of_neg_of_neg h h) hD0
    have dz : dot = 0 → dot * dot * D = 0 := fun h => by rw [h]; simp
    have cz : cross = 0 → cross * cross * k = 0 := fun h => by rw [h]; simp
    have vn : 0 ≤ cross * cross * k := Int.mul_nonneg (sq_nn cross) (by omega)
    generalize dot * dot * D = u at *
    generalize cross * cross * k = v at *
    by_cases h1 : dot ≤ 0
    · rw [if_pos h1]
      by_cases h2 : cross < 0
      · rw [if_pos (show 2 * cross < 0 by omega)]
        by_cases h3 : v ≤ u
        · rw [if_pos (by split <;> omega), decide_eq_true (Or.inr h3)]
          rfl
        · rw [if_neg (by split <;> omega), decide_eq_false (by omega)]
          rfl
      · rw [if_neg (show ¬ 2 * cross < 0 by omega), if_pos (by split <;> omega), decide_eq_true (Or.inl (by omega))]
        rfl
    · rw [if_neg h1]
      by_cases h2 : cross < 0
      · rw [if_pos (show 2 * cross < 0 by omega), if_neg (by split <;> omega), decide_eq_false (by omega)]
        rfl
      · rw [if_neg (show ¬ 2 * cross < 0 by omega)]
        by_cases h3 : u ≤ v
        · rw [if_pos (by split <;> omega), decide_eq_true ⟨by omega, h3⟩]
          rfl
        · rw [if_neg (by split <;> omega), decide_eq_false (by omega)]
          rfl
  by_cases hn : dot < 0
  · rw [if_pos (by omega), e3]
    exact main _ (by rw [if_pos hn])
  · rw [if_neg (by omega), e1]
    exact main _ (by rw [if_neg hn])
theorem w32_pl {X Y : Nat → Int} {p : Nat} (h : Pl X Y p) : w32 (X p) = X p ∧ w32 (Y p) = Y p := ⟨w32_eq ⟨by have := h.1; omega, by have := h.1; omega⟩, w32_eq ⟨by have := h.2; omega, by have := h.2; omega⟩⟩
theorem isIn_n {σ : Sg} {p q r : Nat} {side : Bool} {R : Int} (hp : p < 25) (hq : q < 25) (hr : r < 25) (Pp : Pl (σ 45) (σ 46) p) (Pq : Pl (σ 45) (σ 46) q) (Pr : Pl (σ 45) (σ 46) r) (hR : 0 ≤ R ∧ R ≤ 300) (h0 : 0 < d2 (σ 45) (σ 46) p q) (hDR : d2 (σ 45) (σ 46) p q ≤ 4 * R * R) :
    f_X10_isIn (p : Int) (q : Int) (if side then 1 else 0) R (r : Int) σ = some (if inD (σ 45) (σ 46) R p q side r then 1 else 0) := by
  unfold f_X10_isIn
  rw [ck_t (by omega), ck_t (by omega), ck_t (by omega), ck_t (by omega), ck_t (by omega), ck_t (by omega), ck_t (by omega), ck_t (by omega), ck_t (by omega), ck_t (by omega), ntn, ntn, ntn]
  have hd := dotp_bd Pp Pq Pr
  have hc := crs_bd Pp Pq Pr
  have hD := d2_bd Pp Pq
  rw [(w32_pl Pp).1, (w32_pl Pp).2, (w32_pl Pq).1, (w32_pl Pq).2, (w32_pl Pr).1, (w32_pl Pr).2]
  unfold Pl at Pp Pq Pr
  rw [w32_eq (z := σ 45 q - σ 45 p) ⟨by omega, by omega⟩, w32_eq (z := σ 46 q - σ 46 p) ⟨by omega, by omega⟩]
  have eD : (σ 45 q - σ 45 p) * (σ 45 q - σ 45 p) + (σ 46 q - σ 46 p) * (σ 46 q - σ 46 p) = d2 (σ 45) (σ 46) p q := by unfold d2; grind
  have ea : (2 * σ 45 r - σ 45 p - σ 45 q) * (2 * σ 45 r - σ 45 p - σ 45 q) + (2 * σ 46 r - σ 46 p - σ 46 q) * (2 * σ 46 r - σ 46 p - σ 46 q) - d2 (σ 45) (σ 46) p q = 4 * dotp (σ 45) (σ 46) p q r := by unfold d2 dotp; grind
  have eb : (2 * σ 46 r - σ 46 p - σ 46 q) * (σ 45 q - σ 45 p) - (2 * σ 45 r - σ 45 p - σ 45 q) * (σ 46 q - σ 46 p) = 2 * crs (σ 45) (σ 46) p q r := by unfold crs; grind
  have ec : (2 * σ 45 r - σ 45 p - σ 45 q) * (σ 46 q - σ 46 p) - (2 * σ 46 r - σ 46 p - σ 46 q) * (σ 45 q - σ 45 p) = 2 * -crs (σ 45) (σ 46) p q r := by unfold crs; grind
  rw [eD, ea, eb, ec]
  unfold inD
  cases side with
  | false =>
    rw [if_neg (by decide : ¬ false = true), if_neg (by decide : ¬ false = true), w32_0, if_pos rfl]
    exact b150_n hR hD hd hc h0 hDR
  | true =>
    rw [if_pos rfl, if_pos rfl, w32_1, if_neg (by decide)]
    exact b150_n hR hD hd (by omega) h0 hDR
