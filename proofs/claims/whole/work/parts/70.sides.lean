/-! ===== pure level: the class's discs ===== -/
def sdv (l r : Bool) : Int := (if l then 1 else 0) + (if r then 2 else 0)
theorem sides_n {σ : Sg} {dx dy x y D K : Int} (hx : -299 ≤ x ∧ x ≤ 299) (hy : -299 ≤ y ∧ y ≤ 299) (hdx : -299 ≤ dx ∧ dx ≤ 299) (hdy : -299 ≤ dy ∧ dy ≤ 299) (hqx : -299 ≤ x - dx ∧ x - dx ≤ 299) (hqy : -299 ≤ y - dy ∧ y - dy ≤ 299) (hD : 0 < D ∧ D ≤ 178802) (hK : 0 ≤ K ∧ K ≤ 360000) :
    f_X9_sides dx dy x y D K σ = some (sdv (inS (x * (x - dx) + y * (y - dy)) (dx * y - dy * x) D K) (inS (x * (x - dx) + y * (y - dy)) (-(dx * y - dy * x)) D K)) := by
  have b1 := mul_bd hx hqx
  have b2 := mul_bd hy hqy
  have b3 := mul_bd hdx hy
  have b4 := mul_bd hdy hx
  unfold f_X9_sides f_X9_sides_b64
  rw [w32_eq (z := x) ⟨by omega, by omega⟩, w32_eq (z := y) ⟨by omega, by omega⟩, w32_eq (z := dx) ⟨by omega, by omega⟩, w32_eq (z := dy) ⟨by omega, by omega⟩, w32_eq (z := x - dx) ⟨by omega, by omega⟩, w32_eq (z := y - dy) ⟨by omega, by omega⟩, w32_eq (z := D) ⟨by omega, by omega⟩, w32_eq (z := K) ⟨by omega, by omega⟩]
  generalize hdot : x * (x - dx) + y * (y - dy) = dot
  generalize hcr : dx * y - dy * x = cr
  have hd : -178802 ≤ dot ∧ dot ≤ 178802 := by omega
  have hc : -178802 ≤ cr ∧ cr ≤ 178802 := by omega
  have t1 := tri_bd (x := dot) (y := D) (D := 0) (A := 178802) (B := 178802) hd ⟨by omega, by omega⟩
  have t2 := tri_bd (x := cr) (y := K) (D := 0) (A := 178802) (B := 360000) hc ⟨by omega, by omega⟩
  have e3 : -cr * -cr * K = cr * cr * K := by grind
  have d0 : dot ≠ 0 → 0 < dot * dot * D := fun h => by
    rcases Int.lt_or_gt_of_ne h with h | h
    · exact Int.mul_pos (Int.mul_pos_of_neg_of_neg h h) hD.1
    · exact Int.mul_pos (Int.mul_pos h h) hD.1
  have c0 : cr = 0 → cr * cr * K = 0 := fun h => by rw [h]; simp
  have vn : 0 ≤ cr * cr * K := Int.mul_nonneg (sq_nn cr) hK.1
  have un : 0 ≤ dot * dot * D := Int.mul_nonneg (sq_nn dot) (by omega)
  rw [w64_eq (z := dot) ⟨by omega, by omega⟩, w64_eq (z := cr) ⟨by omega, by omega⟩]
  unfold inS
  rw [e3]
  generalize hu : dot * dot * D = u at *
  generalize hv : cr * cr * K = v at *
  rw [w64_eq (z := u) ⟨by omega, by omega⟩, w64_eq (z := v) ⟨by omega, by omega⟩]
  by_cases h3 : cr ≤ 0
  · rw [if_pos h3]
    by_cases h1 : dot ≤ 0
    · simp only [if_pos h1]
      by_cases h4 : u < v
      · have : cr ≠ 0 := fun h => by have := c0 h; omega
        rw [if_pos h4, decide_eq_false (p := 0 ≤ cr ∨ v ≤ u) (by omega), decide_eq_true (p := 0 ≤ -cr ∨ v ≤ u) (by omega)]
        rfl
      · rw [if_neg h4, decide_eq_true (p := 0 ≤ cr ∨ v ≤ u) (by omega), decide_eq_true (p := 0 ≤ -cr ∨ v ≤ u) (by omega)]
        rfl
    · have d0 := d0 (by omega)
      simp only [if_neg h1]
      by_cases h4 : u ≤ v
      · have : cr ≠ 0 := fun h => by have := c0 h; omega
        rw [if_pos h4, decide_eq_false (p := 0 < cr ∧ u ≤ v) (by omega), decide_eq_true (p := 0 < -cr ∧ u ≤ v) (by omega)]
        rfl
      · rw [if_neg h4, decide_eq_false (p := 0 < cr ∧ u ≤ v) (by omega), decide_eq_false (p := 0 < -cr ∧ u ≤ v) (by omega)]
        rfl
  · rw [if_neg h3]
    by_cases h1 : dot ≤ 0
    · simp only [if_pos h1]
      by_cases h4 : u < v
      · rw [if_pos h4, decide_eq_true (p := 0 ≤ cr ∨ v ≤ u) (by omega), decide_eq_false (p := 0 ≤ -cr ∨ v ≤ u) (by omega)]
        rfl
      · rw [if_neg h4, decide_eq_true (p := 0 ≤ cr ∨ v ≤ u) (by omega), decide_eq_true (p := 0 ≤ -cr ∨ v ≤ u) (by omega)]
        rfl
    · simp only [if_neg h1]
      by_cases h4 : u ≤ v
      · rw [if_pos h4, decide_eq_true (p := 0 < cr ∧ u ≤ v) (by omega), decide_eq_false (p := 0 < -cr ∧ u ≤ v) (by omega)]
        rfl
      · rw [if_neg h4, decide_eq_false (p := 0 < cr ∧ u ≤ v) (by omega), decide_eq_false (p := 0 < -cr ∧ u ≤ v) (by omega)]
        rfl
theorem sdv_in (l r : Bool) : 0 ≤ sdv l r ∧ sdv l r < 4 := by cases l <;> cases r <;> decide
theorem sdv_1 (l r : Bool) : ((((u32 (sdv l r)) &&& 1 : Nat) : Int)) = if l then 1 else 0 := by cases l <;> cases r <;> decide
theorem sdv_2 (l r : Bool) : ((((u32 (sdv l r)) &&& 2 : Nat) : Int)) = if r then 2 else 0 := by cases l <;> cases r <;> decide
theorem w32_2 : w32 2 = 2 := by decide
/-- a disc whose rim bears a holds none farther from a than twice its radius -/
theorem inS_near {Dq m cr D K : Int} (hD : 0 < D) (hK : 0 ≤ K) (e : Dq * D = m * m + cr * cr) (h : inS (Dq - m) cr D K = true) (hq : 0 ≤ Dq) : Dq ≤ D + K := by
  refine Classical.byContradiction fun hn => ?_
  unfold inS at h
  have hc := sq_nn cr
  by_cases h1 : Dq - m ≤ 0
  · have p1 := Int.mul_nonneg (show 0 ≤ m - Dq by omega) (show 0 ≤ m + Dq by omega)
    have p2 := Int.mul_pos (show 0 < Dq by omega) (show 0 < Dq - D by omega)
    grind
  · rw [if_neg h1, decide_eq_true_iff] at h
    obtain ⟨-, h⟩ := h
    by_cases hK0 : K = 0
    · subst hK0
      have p2 := Int.mul_pos (Int.mul_pos (show 0 < Dq - m by omega) (show 0 < Dq - m by omega)) hD
      rw [Int.mul_zero] at h
      omega
    · have p1 := Int.mul_pos (Int.mul_pos (Int.mul_pos (show 0 < D by omega) (show 0 < Dq by omega)) (show 0 < K by omega)) (show 0 < Dq - (D + K) by omega)
      have p2 := sq_nn ((D + K) * m - Dq * D)
      have e2 : cr * cr = Dq * D - m * m := by omega
      rw [e2] at h
      have p3 := Int.mul_nonneg (show 0 ≤ D + K by omega) (show 0 ≤ (Dq * D - m * m) * K - (Dq - m) * (Dq - m) * D by omega)
      grind
theorem inD_near {X Y : Nat → Int} {R : Int} {a b q : Nat} {side : Bool} (hr : rimOk X Y R a b) (h : inD X Y R a b side q = true) : d2 X Y a q ≤ 4 * R * R := by
  unfold inD at h
  obtain ⟨h1, h2⟩ := hr
  have e0 : dotp X Y a b q = d2 X Y a q - ((X q - X a) * (X b - X a) + (Y q - Y a) * (Y b - Y a)) := by unfold dotp d2; grind
  rw [e0] at h
  have := inS_near (Dq := d2 X Y a q) (m := (X q - X a) * (X b - X a) + (Y q - Y a) * (Y b - Y a)) (D := d2 X Y a b) (K := 4 * R * R - d2 X Y a b) h1 (by omega) (by
    have e1 : (if side = true then -crs X Y a b q else crs X Y a b q) * (if side = true then -crs X Y a b q else crs X Y a b q) = crs X Y a b q * crs X Y a b q := by
      cases side
      · rfl
      · show -crs X Y a b q * -crs X Y a b q = _
        grind
    rw [e1]
    unfold d2 crs
    grind) h (d2_nn X Y a q)
  omega
theorem d2_sym (X Y : Nat → Int) (a b : Nat) : d2 X Y a b = d2 X Y b a := by unfold d2; grind
theorem rim_sym {X Y : Nat → Int} {R : Int} {a b : Nat} : rimOk X Y R a b ↔ rimOk X Y R b a := by unfold rimOk; rw [d2_sym X Y a b]
theorem inD_sym (X Y : Nat → Int) (R : Int) (a b : Nat) (side : Bool) (q : Nat) : inD X Y R a b side q = inD X Y R b a (!side) q := by
  unfold inD
  have e1 : dotp X Y a b q = dotp X Y b a q := by unfold dotp; grind
  have e2 : crs X Y a b q = -crs X Y b a q := by unfold crs; grind
  rw [d2_sym X Y a b, e1, e2]
  cases side <;> simp
theorem inD_a (X Y : Nat → Int) (R : Int) (a b : Nat) (side : Bool) : inD X Y R a b side a = true := by
  unfold inD inS
  have e1 : dotp X Y a b a = 0 := by unfold dotp; grind
  have e2 : crs X Y a b a = 0 := by unfold crs; grind
  rw [e1, e2]
  cases side <;> rfl
theorem inD_b (X Y : Nat → Int) (R : Int) (a b : Nat) (side : Bool) : inD X Y R a b side b = true := by
  rw [inD_sym]
  exact inD_a _ _ _ _ _ _
