/-! ===== pure level: the reference's distances and discs ===== -/
abbrev d2 (X Y : Nat → Int) (p q : Nat) : Int := (X p - X q) * (X p - X q) + (Y p - Y q) * (Y p - Y q)
theorem up_up {σ : Sg} {k j : Nat} {a b : Int} : up (up σ k j a) k j b = up σ k j b := by
  funext x y
  by_cases hx : x = k
  · by_cases hy : y = j <;> simp [up, hx, hy]
  · simp [up, hx]
theorem dist_n {σ : Sg} {p q : Nat} (hp : p < 25) (hq : q < 25) : f_X10_distance (p : Int) (q : Int) σ = some (d2 (σ 45) (σ 46) p q) := by
  unfold f_X10_distance
  rw [ck_t (by omega), ck_t (by omega), ck_t (by omega), ck_t (by omega), ck_t (by omega), ck_t (by omega), ck_t (by omega), ck_t (by omega), ntn, ntn]
/-- what of a set lies in the disc about p -/
def arS (X Y : Nat → Int) (R : Int) (s p : Nat) : Nat := mks (fun q => s.testBit q && decide (d2 X Y p q ≤ R * R)) 25
theorem sumb_mks {S : Nat → Int} {P : Nat → Bool} {n i : Nat} (hi : i < n) : sumb S (mks P n) (i + 1) = sumb S (mks P n) i + (if P i then S i else 0) := by
  rw [sumb, tb_mks, decide_eq_true hi, Bool.true_and]
theorem around_n {σ : Sg} {p s : Nat} (hp : p < 25) (hs : s < 33554432) {R : Int} (hR : InR (R * R)) (hr : ∀ q, q < 25 → s.testBit q = true → InR (d2 (σ 45) (σ 46) p q)) :
    f_X10_around (p : Int) (s : Int) R σ = some (((arS (σ 45) (σ 46) R s p : Nat) : Int), up σ 41 35 (sumb (σ 47) (arS (σ 45) (σ 46) R s p) 25)) := by
  unfold f_X10_around wr
  generalize hP : (fun q => s.testBit q && decide (d2 (σ 45) (σ 46) p q ≤ R * R)) = P
  have hA : arS (σ 45) (σ 46) R s p = mks P 25 := by rw [← hP]; rfl
  rw [hA]
  refine loop_at (St := Int × Sg) (F := fun n i z => f_X10_around_b11 n p s R z.1 i z.2) 25 (fun i z => z = (((mks P i : Nat) : Int), up σ 41 35 (sumb (σ 47) (mks P 25) i))) (by decide) ?_ ?_ 0 (by decide) (0, up σ 41 35 0) rfl
  · intro n i z hi h
    right
    refine ⟨_, rfl, ?_⟩
    subst h
    show f_X10_around_b11 (n + 1) p s R ((mks P i : Nat) : Int) (i : Int) (up σ 41 35 (sumb (σ 47) (mks P 25) i)) = f_X10_around_b11 n p s R ((mks P (i + 1) : Nat) : Int) ((i : Int) + 1) (up σ 41 35 (sumb (σ 47) (mks P 25) (i + 1)))
    rw [f_X10_around_b11, w32_n (by omega), if_pos (by omega), has_n (by omega) (by omega), Option.bind_some, sumb_mks hi]
    have hPi : P i = (s.testBit i && decide (d2 (σ 45) (σ 46) p i ≤ R * R)) := by rw [← hP]
    cases hb : s.testBit i with
    | false =>
      rw [b01_f rfl]
      rw [hb, Bool.false_and] at hPi
      rw [mks_f hPi, hPi, if_neg (by decide), Int.add_zero]
      rfl
    | true =>
      rw [b01_t rfl, dist_n hp (by omega), Option.bind_some]
      rw [hb, Bool.true_and] at hPi
      have e5 : up σ 41 35 (sumb (σ 47) (mks P 25) i) 45 = σ 45 := up_k (by decide)
      have e6 : up σ 41 35 (sumb (σ 47) (mks P 25) i) 46 = σ 46 := up_k (by decide)
      have e7 : up σ 41 35 (sumb (σ 47) (mks P 25) i) 47 = σ 47 := up_k (by decide)
      rw [e5, e6, w32_eq (hr i (by omega) hb), w32_eq hR]
      by_cases hd : d2 (σ 45) (σ 46) p i ≤ R * R
      · rw [if_pos hd, ck_t (by omega), ntn, e7, up_s]
        unfold wr
        rw [up_up]
        have hPt : P i = true := by rw [hPi]; exact decide_eq_true hd
        rw [mks_t (by omega) hPt, hPt, if_pos rfl]
        rfl
      · rw [if_neg hd]
        have hPf : P i = false := by rw [hPi]; exact decide_eq_false hd
        rw [mks_f hPf, hPf, if_neg (by decide), Int.add_zero]
        rfl
  · intro n z h
    subst h
    show f_X10_around_b11 (n + 1) p s R _ ((25 : Nat) : Int) _ = _
    rw [f_X10_around_b11, w32_n (by decide), if_neg (by decide)]
