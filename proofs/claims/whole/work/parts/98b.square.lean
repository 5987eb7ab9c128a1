/-! ===== pure level: square ===== -/
def inq (X Y : Nat → Int) (x y s : Int) (p : Nat) : Bool := decide ((x ≤ X p ∧ X p ≤ x + s) ∧ y ≤ Y p ∧ Y p ≤ y + s)
theorem inq_t {X Y : Nat → Int} {x y s : Int} {p : Nat} (h : (x ≤ X p ∧ X p ≤ x + s) ∧ y ≤ Y p ∧ Y p ≤ y + s) : inq X Y x y s p = true := decide_eq_true h
theorem inq_f {X Y : Nat → Int} {x y s : Int} {p : Nat} (h : ¬ ((x ≤ X p ∧ X p ≤ x + s) ∧ y ≤ Y p ∧ Y p ≤ y + s)) : inq X Y x y s p = false := decide_eq_false h
def sqS (X Y : Nat → Int) (F : Nat) (x y s : Int) : Nat := mks (fun p => F.testBit p && inq X Y x y s p) 24
theorem inSquare_n {σ : Sg} {F : Nat} {x y s : Int} (hF : σ 6 5 = (F : Int)) (hFl : F < 16777216) (hr : ∀ p, p < 24 → Pl (σ 7) (σ 8) p) (hx : 0 ≤ x ∧ x < 300) (hy : 0 ≤ y ∧ y < 300) (hs : 0 ≤ s ∧ s < 300) :
    f_X0_inSquare x y s σ = some ((sqS (σ 7) (σ 8) F x y s : Nat) : Int) := by
  unfold f_X0_inSquare sqS
  generalize hP : (fun p => F.testBit p && inq (σ 7) (σ 8) x y s p) = P
  refine loop_at (St := Int) (F := fun n i v4 => f_X0_inSquare_b6 σ n x y s v4 i) 24 (fun i s => s = ((mks P i : Nat) : Int)) (by decide) ?_ ?_ 0 (by decide) 0 rfl
  · intro n i v hi h
    right
    refine ⟨((mks P (i + 1) : Nat) : Int), rfl, ?_⟩
    subst h
    obtain ⟨g1, g2⟩ := hr i hi
    show f_X0_inSquare_b6 σ (n + 1) x y s _ (i : Int) = f_X0_inSquare_b6 σ n x y s _ ((i : Int) + 1)
    rw [f_X0_inSquare_b6, w32_n (by omega), if_pos (show (i : Int) < 24 by omega), ck_t (by omega), ck_t (by omega), hF, contains_n (by omega) (by omega), Option.bind_some, ntn]
    have hPi : P i = (F.testBit i && inq (σ 7) (σ 8) x y s i) := by rw [← hP]
    have kp : P i = false → f_X0_inSquare_b78 σ (f_X0_inSquare_b6 σ n) x y s ((mks P i : Nat) : Int) i = f_X0_inSquare_b6 σ n x y s ((mks P (i + 1) : Nat) : Int) ((i : Int) + 1) := fun e => by
      rw [mks_f e]
      rfl
    cases hb : F.testBit i with
    | false =>
      rw [hb, Bool.false_and] at hPi
      rw [b01_f rfl]
      exact kp hPi
    | true =>
      rw [hb, Bool.true_and] at hPi
      rw [b01_t rfl, w32_eq (z := σ 7 i - x) ⟨by omega, by omega⟩, w32_eq (z := σ 8 i - y) ⟨by omega, by omega⟩, w32_eq (z := s) ⟨by omega, by omega⟩]
      have no : ¬ ((x ≤ σ 7 i ∧ σ 7 i ≤ x + s) ∧ y ≤ σ 8 i ∧ σ 8 i ≤ y + s) → P i = false := fun q => by rw [hPi]; exact inq_f q
      by_cases c1 : σ 7 i - x < 0
      · rw [if_pos c1]
        exact kp (no fun q => by have := q.1.1; omega)
      · rw [if_neg c1]
        by_cases c2 : σ 7 i - x ≤ s
        · rw [if_pos c2]
          by_cases c3 : σ 8 i - y < 0
          · rw [if_pos c3]
            exact kp (no fun q => by have := q.2.1; omega)
          · rw [if_neg c3]
            by_cases c4 : σ 8 i - y ≤ s
            · rw [if_pos c4, mks_t (by omega) (by rw [hPi]; exact inq_t ⟨⟨by omega, by omega⟩, by omega, by omega⟩)]
              rfl
            · rw [if_neg c4]
              exact kp (no fun q => by have := q.2.2; omega)
        · rw [if_neg c2]
          exact kp (no fun q => by have := q.1.2; omega)
  · intro n v h
    subst h
    show f_X0_inSquare_b6 σ (n + 1) x y s _ ((24 : Nat) : Int) = _
    rw [f_X0_inSquare_b6, w32_n (by decide), if_neg (by decide)]
theorem squareAt_n {σ : Sg} {S : Nat} {x y s : Int} (hS : S < 16777216) (hr : ∀ p, p < 24 → Pl (σ 45) (σ 46) p) (hx : 0 ≤ x ∧ x < 300) (hy : 0 ≤ y ∧ y < 300) (hs : 0 ≤ s ∧ s < 300) :
    f_X10_squareAt (S : Int) x y s σ = some (sumb (σ 47) (sqS (σ 45) (σ 46) S x y s) 24) := by
  unfold f_X10_squareAt sqS
  generalize hP : (fun p => S.testBit p && inq (σ 45) (σ 46) x y s p) = P
  refine loop_at (St := Int) (F := fun n i v4 => f_X10_squareAt_b6 σ n S x y s v4 i) 24 (fun i v => v = sumb (σ 47) (mks P 24) i) (by decide) ?_ ?_ 0 (by decide) 0 rfl
  · intro n i v hi h
    right
    refine ⟨sumb (σ 47) (mks P 24) (i + 1), rfl, ?_⟩
    subst h
    obtain ⟨g1, g2⟩ := hr i hi
    show f_X10_squareAt_b6 σ (n + 1) S x y s _ (i : Int) = f_X10_squareAt_b6 σ n S x y s _ ((i : Int) + 1)
    rw [f_X10_squareAt_b6, w32_n (by omega), if_pos (show (i : Int) < 24 by omega), ck_t (by omega), ck_t (by omega), ck_t (by omega), ck_t (by omega), has_n (by omega) (by omega), Option.bind_some, ntn, sumb_mks hi]
    have hPi : P i = (S.testBit i && inq (σ 45) (σ 46) x y s i) := by rw [← hP]
    generalize sumb (σ 47) (mks P 24) i = v
    have kp : P i = false → f_X10_squareAt_b76 σ (f_X10_squareAt_b6 σ n) S x y s v i = f_X10_squareAt_b6 σ n S x y s (v + (if P i = true then σ 47 i else 0)) ((i : Int) + 1) := fun e => by
      rw [e]
      unfold f_X10_squareAt_b76 f_X10_squareAt_b77 f_X10_squareAt_b97
      rw [w32_0, if_pos rfl]
      rfl
    cases hb : S.testBit i with
    | false =>
      rw [hb, Bool.false_and] at hPi
      rw [b01_f rfl]
      exact kp hPi
    | true =>
      rw [hb, Bool.true_and] at hPi
      rw [b01_t rfl, w32_eq (z := σ 45 i) ⟨by omega, by omega⟩, w32_eq (z := σ 46 i) ⟨by omega, by omega⟩, w32_eq (z := x) ⟨by omega, by omega⟩, w32_eq (z := y) ⟨by omega, by omega⟩, w32_eq (z := x + s) ⟨by omega, by omega⟩, w32_eq (z := y + s) ⟨by omega, by omega⟩]
      have no : ¬ ((x ≤ σ 45 i ∧ σ 45 i ≤ x + s) ∧ y ≤ σ 46 i ∧ σ 46 i ≤ y + s) → P i = false := fun q => by rw [hPi]; exact inq_f q
      by_cases c1 : σ 45 i < x
      · rw [if_pos c1]
        exact kp (no fun q => by have := q.1.1; omega)
      · rw [if_neg c1]
        by_cases c2 : σ 45 i ≤ x + s
        · rw [if_pos c2]
          by_cases c3 : σ 46 i < y
          · rw [if_pos c3]
            exact kp (no fun q => by have := q.2.1; omega)
          · rw [if_neg c3]
            by_cases c4 : σ 46 i ≤ y + s
            · have e : P i = true := by rw [hPi]; exact inq_t ⟨⟨by omega, by omega⟩, by omega, by omega⟩
              rw [if_pos c4, e]
              unfold f_X10_squareAt_b77 f_X10_squareAt_b97
              rw [w32_1, if_neg (by decide), ck_t (by omega), ntn, if_pos rfl]
            · rw [if_neg c4]
              exact kp (no fun q => by have := q.2.2; omega)
        · rw [if_neg c2]
          exact kp (no fun q => by have := q.1.2; omega)
  · intro n v h
    subst h
    show f_X10_squareAt_b6 σ (n + 1) S x y s _ ((24 : Nat) : Int) = _
    rw [f_X10_squareAt_b6, w32_n (by decide), if_neg (by decide)]
