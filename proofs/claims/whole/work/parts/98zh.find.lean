/-! ===== pure level: ring, the two, the three ===== -/
theorem bool_2 (b : Bool) : b = false ∨ b = true := by cases b <;> simp
theorem find2_n {z ζ : Sg} {o : Nat} (hX : XYz z (ζ 45) (ζ 46)) (hP : PlA (ζ 45) (ζ 46)) (ho : o < 16777216) (hne : ∃ i j, o.testBit i = true ∧ o.testBit j = true ∧ d2 (ζ 45) (ζ 46) i j ≠ 0) :
    (∃ a b, (a < b ∧ o.testBit a = true ∧ o.testBit b = true ∧ d2 (ζ 45) (ζ 46) a b ≠ 0 ∧ DMp (ζ 45) (ζ 46) o a b) ∧ f_X1_hasDiameter (o : Int) z = f_X1_hasDiameter_b44 (a : Int) (b : Int) z ∧ f_X10_isTwo (o : Int) ζ = f_X10_isTwo_b56 (a : Int) (b : Int) ζ) ∨ (f_X1_hasDiameter (o : Int) z = some (0, z) ∧ f_X10_isTwo (o : Int) ζ = some (0, ζ) ∧ ∀ a b, a < b → o.testBit a = true → o.testBit b = true → ¬ (d2 (ζ 45) (ζ 46) a b ≠ 0 ∧ DMp (ζ 45) (ζ 46) o a b)) := by
  -- two at one place see some other one
  have same : ∀ a b, d2 (ζ 45) (ζ 46) a b = 0 → ¬ DMp (ζ 45) (ζ 46) o a b := fun a b h0 hD => by
    obtain ⟨i, j, ti, tj, hd⟩ := hne
    have sq0 : ∀ x y : Int, x * x + y * y ≤ 0 → x = 0 ∧ y = 0 := fun x y h => by
      have h1 := sq_nn x
      have h2 := sq_nn y
      exact ⟨(Int.mul_eq_zero.mp (show x * x = 0 by omega)).elim id id, (Int.mul_eq_zero.mp (show y * y = 0 by omega)).elim id id⟩
    obtain ⟨e1, e2⟩ := sq0 (ζ 45 a - ζ 45 b) (ζ 46 a - ζ 46 b) (by unfold d2 at h0; omega)
    have at_ : ∀ q, o.testBit q = true → ζ 45 q = ζ 45 a ∧ ζ 46 q = ζ 46 a := fun q hq => by
      have h := hD q hq
      unfold cI at h
      have hb : ζ 45 b = ζ 45 a ∧ ζ 46 b = ζ 46 a := ⟨by omega, by omega⟩
      rw [hb.1, hb.2] at h
      obtain ⟨z1, z2⟩ := sq0 _ _ h
      exact ⟨by omega, by omega⟩
    apply hd
    unfold d2
    rw [(at_ i ti).1, (at_ i ti).2, (at_ j tj).1, (at_ j tj).2]
    simp
  unfold f_X1_hasDiameter f_X10_isTwo
  refine loop_two (F := fun n i (_ : Unit) => f_X1_hasDiameter_b2 n (o : Int) i z) (G := fun n i (_ : Unit) => f_X10_isTwo_b2 n (o : Int) i ζ) 24 (fun i _ _ => ∀ a b, a < i → a < b → o.testBit a = true → o.testBit b = true → ¬ (d2 (ζ 45) (ζ 46) a b ≠ 0 ∧ DMp (ζ 45) (ζ 46) o a b))
    (P := fun x y => (∃ a b, (a < b ∧ o.testBit a = true ∧ o.testBit b = true ∧ d2 (ζ 45) (ζ 46) a b ≠ 0 ∧ DMp (ζ 45) (ζ 46) o a b) ∧ x = f_X1_hasDiameter_b44 (a : Int) (b : Int) z ∧ y = f_X10_isTwo_b56 (a : Int) (b : Int) ζ) ∨ (x = some (0, z) ∧ y = some (0, ζ) ∧ ∀ a b, a < b → o.testBit a = true → o.testBit b = true → ¬ (d2 (ζ 45) (ζ 46) a b ≠ 0 ∧ DMp (ζ 45) (ζ 46) o a b))) (by decide) ?_ ?_ 0 (by decide) () () (fun a b ha => by omega)
  · intro n m i _ _ hi hI
    rw [f_X1_hasDiameter_b2, f_X10_isTwo_b2, w32_n (by omega), if_pos (show (i : Int) < 24 by omega), if_pos (show (i : Int) < 24 by omega), ← ncast_s]
    have Q := loop_two (F := fun r j (_ : Unit) => f_X1_hasDiameter_b12 (f_X1_hasDiameter_b2 n) r (o : Int) (i : Int) j z) (G := fun r j (_ : Unit) => f_X10_isTwo_b12 (f_X10_isTwo_b2 m) r (o : Int) (i : Int) j ζ) 24 (fun j _ _ => i < j ∧ ∀ b, i < b → b < j → o.testBit i = true → o.testBit b = true → ¬ (d2 (ζ 45) (ζ 46) i b ≠ 0 ∧ DMp (ζ 45) (ζ 46) o i b))
      (P := fun x y => (∃ b, (i < b ∧ o.testBit i = true ∧ o.testBit b = true ∧ d2 (ζ 45) (ζ 46) i b ≠ 0 ∧ DMp (ζ 45) (ζ 46) o i b) ∧ x = f_X1_hasDiameter_b44 (i : Int) (b : Int) z ∧ y = f_X10_isTwo_b56 (i : Int) (b : Int) ζ) ∨ (x = f_X1_hasDiameter_b2 n (o : Int) (((i + 1 : Nat) : Nat) : Int) z ∧ y = f_X10_isTwo_b2 m (o : Int) (((i + 1 : Nat) : Nat) : Int) ζ ∧ ∀ b, i < b → o.testBit i = true → o.testBit b = true → ¬ (d2 (ζ 45) (ζ 46) i b ≠ 0 ∧ DMp (ζ 45) (ζ 46) o i b))) (by decide) ?_ ?_ (i + 1) (by omega) () () ⟨by omega, fun b h1 h2 => by omega⟩
    · rcases Q with ⟨b, h1, h2, h3⟩ | ⟨h1, h2, h3⟩
      · exact Or.inl (Or.inl ⟨i, b, h1, h2, h3⟩)
      · refine Or.inr ⟨(), (), fun a b ha => ?_, h1, h2⟩
        rcases Nat.lt_succ_iff_lt_or_eq.1 ha with e | e
        · exact hI a b e
        · rw [e]
          exact h3 b
    · intro r s j _ _ hj hI
      obtain ⟨hij, hI⟩ := hI
      have st : (o.testBit i = true → o.testBit j = true → ¬ (d2 (ζ 45) (ζ 46) i j ≠ 0 ∧ DMp (ζ 45) (ζ 46) o i j)) → (i < j + 1 ∧ ∀ b, i < b → b < j + 1 → o.testBit i = true → o.testBit b = true → ¬ (d2 (ζ 45) (ζ 46) i b ≠ 0 ∧ DMp (ζ 45) (ζ 46) o i b)) := fun k => ⟨by omega, fun b h1 h2 => by
        rcases Nat.lt_succ_iff_lt_or_eq.1 h2 with e | e
        · exact hI b h1 e
        · rw [e]
          exact k⟩
      rw [f_X1_hasDiameter_b12, f_X10_isTwo_b12, w32_n (by omega), if_pos (show (j : Int) < 24 by omega), if_pos (show (j : Int) < 24 by omega), contains_n (by omega) (by omega), Option.bind_some, has_n (by omega) (by omega), Option.bind_some]
      rcases bool_2 (o.testBit i) with ti | ti
      · right
        rw [b01_f ti, b01_f ti]
        exact ⟨(), (), st (fun k => by rw [ti] at k; cases k), rfl, rfl⟩
      · rw [b01_t ti, b01_t ti, contains_n (by omega) (by omega), Option.bind_some, has_n (by omega) (by omega), Option.bind_some]
        rcases bool_2 (o.testBit j) with tj | tj
        · right
          rw [b01_f tj, b01_f tj]
          exact ⟨(), (), st (fun _ k => by rw [tj] at k; cases k), rfl, rfl⟩
        · have d0 := d2_bd (hP i hi) (hP j hj)
          obtain ⟨x, e1, y1⟩ := dDiam_n hX hP hi hj ho
          obtain ⟨y, e2, y2⟩ := mWidth_n hP hi hj ho
          rw [b01_t tj, b01_t tj, e1, Option.bind_some, dist_n (by omega) (by omega), Option.bind_some, e2, Option.bind_some, w32_eq (z := d2 (ζ 45) (ζ 46) i j) ⟨by omega, by omega⟩]
          by_cases hD : DMp (ζ 45) (ζ 46) o i j
          · have x1 : x = 1 := y1.elim (fun k => k.1) (fun k => absurd hD k.2)
            have y1' : y = 1 := y2.elim (fun k => k.1) (fun k => absurd hD k.2)
            have hd : d2 (ζ 45) (ζ 46) i j ≠ 0 := fun e => same i j e hD
            left
            left
            rw [x1, y1', if_neg (show ¬ w32 1 = 0 by decide), if_neg hd, if_neg (show ¬ w32 1 = 0 by decide)]
            exact ⟨j, ⟨hij, ti, tj, hd, hD⟩, rfl, rfl⟩
          · have x1 : x = 0 := y1.elim (fun k => absurd k.2 hD) (fun k => k.1)
            have y1' : y = 0 := y2.elim (fun k => absurd k.2 hD) (fun k => k.1)
            right
            rw [x1, y1', if_pos (show w32 0 = 0 by decide), if_pos (show w32 0 = 0 by decide)]
            refine ⟨(), (), st (fun _ _ k => hD k.2), rfl, ?_⟩
            by_cases hd : d2 (ζ 45) (ζ 46) i j = 0
            · rw [if_pos hd]
              rfl
            · rw [if_neg hd]
              rfl
    · intro r s _ _ hI
      obtain ⟨hij, hI⟩ := hI
      rw [f_X1_hasDiameter_b12, f_X10_isTwo_b12, w32_n (by decide), if_neg (show ¬ ((24 : Nat) : Int) < 24 by decide), if_neg (show ¬ ((24 : Nat) : Int) < 24 by decide)]
      right
      exact ⟨rfl, rfl, fun b h1 h2 h3 => hI b h1 (bit_lt ho h3) h2 h3⟩
  · intro n m _ _ hI
    rw [f_X1_hasDiameter_b2, f_X10_isTwo_b2, w32_n (by decide), if_neg (show ¬ ((24 : Nat) : Int) < 24 by decide), if_neg (show ¬ ((24 : Nat) : Int) < 24 by decide)]
    right
    exact ⟨rfl, rfl, fun a b h1 h2 => hI a b (bit_lt ho h2) h1 h2⟩
abbrev T3 (X Y : Nat → Int) (o a b c : Nat) : Prop := (o.testBit a = true ∧ o.testBit b = true ∧ o.testBit c = true) ∧ SHp X Y a b c ∧ ARp X Y o a b c
theorem find3_n {z ζ : Sg} {o : Nat} (hX : XYz z (ζ 45) (ζ 46)) (hP : PlA (ζ 45) (ζ 46)) (ho : o < 16777216) :
    (∃ a b c, (a < b ∧ b < c ∧ T3 (ζ 45) (ζ 46) o a b c) ∧ f_X1_findTriangle (o : Int) z = f_X1_findTriangle_b90 (a : Int) (b : Int) (c : Int) z ∧ f_X10_isThree (o : Int) ζ = f_X10_isThree_b81 (a : Int) (b : Int) (c : Int) ζ) ∨ ∀ a b c, a < b → b < c → ¬ T3 (ζ 45) (ζ 46) o a b c := by
  unfold f_X1_findTriangle f_X10_isThree
  refine loop_two (F := fun n i (_ : Unit) => f_X1_findTriangle_b2 n (o : Int) i z) (G := fun n i (_ : Unit) => f_X10_isThree_b2 n (o : Int) i ζ) 24 (fun i _ _ => ∀ a b c, a < i → a < b → b < c → ¬ T3 (ζ 45) (ζ 46) o a b c)
    (P := fun x y => (∃ a b c, (a < b ∧ b < c ∧ T3 (ζ 45) (ζ 46) o a b c) ∧ x = f_X1_findTriangle_b90 (a : Int) (b : Int) (c : Int) z ∧ y = f_X10_isThree_b81 (a : Int) (b : Int) (c : Int) ζ) ∨ ∀ a b c, a < b → b < c → ¬ T3 (ζ 45) (ζ 46) o a b c) (by decide) ?_ ?_ 0 (by decide) () () (fun a b c ha => by omega)
  · intro n m i _ _ hi hI
    rw [f_X1_findTriangle_b2, f_X10_isThree_b2, w32_n (by omega), if_pos (show (i : Int) < 24 by omega), if_pos (show (i : Int) < 24 by omega), ← ncast_s]
    have Q := loop_two (F := fun r j (_ : Unit) => f_X1_findTriangle_b12 (f_X1_findTriangle_b2 n) r (o : Int) (i : Int) j z) (G := fun r j (_ : Unit) => f_X10_isThree_b12 (f_X10_isThree_b2 m) r (o : Int) (i : Int) j ζ) 24 (fun j _ _ => i < j ∧ ∀ b c, b < j → i < b → b < c → ¬ T3 (ζ 45) (ζ 46) o i b c)
      (P := fun x y => (∃ b c, (i < b ∧ b < c ∧ T3 (ζ 45) (ζ 46) o i b c) ∧ x = f_X1_findTriangle_b90 (i : Int) (b : Int) (c : Int) z ∧ y = f_X10_isThree_b81 (i : Int) (b : Int) (c : Int) ζ) ∨ (x = f_X1_findTriangle_b2 n (o : Int) (((i + 1 : Nat) : Nat) : Int) z ∧ y = f_X10_isThree_b2 m (o : Int) (((i + 1 : Nat) : Nat) : Int) ζ ∧ ∀ b c, i < b → b < c → ¬ T3 (ζ 45) (ζ 46) o i b c)) (by decide) ?_ ?_ (i + 1) (by omega) () () ⟨by omega, fun b c h1 h2 => by omega⟩
    · rcases Q with ⟨b, c, ⟨h1, h2, h3⟩, h4, h5⟩ | ⟨h1, h2, h3⟩
      · exact Or.inl (Or.inl ⟨i, b, c, ⟨h1, h2, h3⟩, h4, h5⟩)
      · refine Or.inr ⟨(), (), fun a b c ha => ?_, h1, h2⟩
        rcases Nat.lt_succ_iff_lt_or_eq.1 ha with e | e
        · exact hI a b c e
        · rw [e]
          exact h3 b c
    · intro r s j _ _ hj hI
      obtain ⟨hij, hI⟩ := hI
      rw [f_X1_findTriangle_b12, f_X10_isThree_b12, w32_n (by omega), if_pos (show (j : Int) < 24 by omega), if_pos (show (j : Int) < 24 by omega), ← ncast_s]
      have Q3 := loop_two (F := fun u l (_ : Unit) => f_X1_findTriangle_b23 (f_X1_findTriangle_b2 n) (f_X1_findTriangle_b12 (f_X1_findTriangle_b2 n) r) u (o : Int) (i : Int) (j : Int) l z) (G := fun u l (_ : Unit) => f_X10_isThree_b23 (f_X10_isThree_b2 m) (f_X10_isThree_b12 (f_X10_isThree_b2 m) s) u (o : Int) (i : Int) (j : Int) l ζ) 24 (fun l _ _ => j < l ∧ ∀ c, c < l → j < c → ¬ T3 (ζ 45) (ζ 46) o i j c)
        (P := fun x y => (∃ c, (j < c ∧ T3 (ζ 45) (ζ 46) o i j c) ∧ x = f_X1_findTriangle_b90 (i : Int) (j : Int) (c : Int) z ∧ y = f_X10_isThree_b81 (i : Int) (j : Int) (c : Int) ζ) ∨ (x = f_X1_findTriangle_b12 (f_X1_findTriangle_b2 n) r (o : Int) (i : Int) (((j + 1 : Nat) : Nat) : Int) z ∧ y = f_X10_isThree_b12 (f_X10_isThree_b2 m) s (o : Int) (i : Int) (((j + 1 : Nat) : Nat) : Int) ζ ∧ ∀ c, j < c → ¬ T3 (ζ 45) (ζ 46) o i j c)) (by decide) ?_ ?_ (j + 1) (by omega) () () ⟨by omega, fun c h1 h2 => by omega⟩
      · rcases Q3 with ⟨c, ⟨h2, h3⟩, h4, h5⟩ | ⟨h1, h2, h3⟩
        · exact Or.inl (Or.inl ⟨j, c, ⟨hij, h2, h3⟩, h4, h5⟩)
        · refine Or.inr ⟨(), (), ⟨by omega, fun b c hb => ?_⟩, h1, h2⟩
          rcases Nat.lt_succ_iff_lt_or_eq.1 hb with e | e
          · exact hI b c e
          · rw [e]
            exact fun _ => h3 c
      · intro u v l _ _ hl hI
        obtain ⟨hjl, hI⟩ := hI
        have st : ¬ T3 (ζ 45) (ζ 46) o i j l → (j < l + 1 ∧ ∀ c, c < l + 1 → j < c → ¬ T3 (ζ 45) (ζ 46) o i j c) := fun k => ⟨by omega, fun c h1 h2 => by
          rcases Nat.lt_succ_iff_lt_or_eq.1 h1 with e | e
          · exact hI c e h2
          · rw [e]
            exact k⟩
        have no : ∀ w0 : Int, w32 w0 = 0 → f_X1_findTriangle_b60 (f_X1_findTriangle_b2 n) (f_X1_findTriangle_b12 (f_X1_findTriangle_b2 n) r) (f_X1_findTriangle_b23 (f_X1_findTriangle_b2 n) (f_X1_findTriangle_b12 (f_X1_findTriangle_b2 n) r) u) (o : Int) (i : Int) (j : Int) (l : Int) w0 z = f_X1_findTriangle_b23 (f_X1_findTriangle_b2 n) (f_X1_findTriangle_b12 (f_X1_findTriangle_b2 n) r) u (o : Int) (i : Int) (j : Int) ((l : Int) + 1) z := fun w0 h => by
          unfold f_X1_findTriangle_b60
          rw [if_pos h]
          rfl
        rw [f_X1_findTriangle_b23, f_X10_isThree_b23, w32_n (by omega), if_pos (show (l : Int) < 24 by omega), if_pos (show (l : Int) < 24 by omega), contains_n (by omega) (by omega), Option.bind_some, has_n (by omega) (by omega), Option.bind_some]
        cases ti : o.testBit i with
        | false =>
          right
          rw [b01_f rfl, b01_f rfl]
          exact ⟨(), (), st (fun k => by have := k.1.1; rw [ti] at this; cases this), no 0 (by decide), rfl⟩
        | true =>
          rw [b01_t rfl, b01_t rfl, contains_n (by omega) (by omega), Option.bind_some, has_n (by omega) (by omega), Option.bind_some]
          cases tj : o.testBit j with
          | false =>
            right
            rw [b01_f rfl, b01_f rfl]
            exact ⟨(), (), st (fun k => by have := k.1.2.1; rw [tj] at this; cases this), no 0 (by decide), rfl⟩
          | true =>
            rw [b01_t rfl, b01_t rfl, contains_n (by omega) (by omega), Option.bind_some, has_n (by omega) (by omega), Option.bind_some]
            cases tl : o.testBit l with
            | false =>
              right
              rw [b01_f rfl, b01_f rfl]
              exact ⟨(), (), st (fun k => by have := k.1.2.2; rw [tl] at this; cases this), no 0 (by decide), rfl⟩
            | true =>
              rw [b01_t rfl, b01_t rfl]
              unfold f_X1_findTriangle_b60
              rw [if_neg (show ¬ w32 1 = 0 by decide), dSharp_n hX hP hi hj hl, Option.bind_some, mSharp_n hP hi hj hl, Option.bind_some]
              by_cases hS : SHp (ζ 45) (ζ 46) i j l
              · obtain ⟨x, e1, y1⟩ := dAround_n hX hP hi hj hl ho hS.1
                obtain ⟨y, e2, y2⟩ := mCircle_n hP hi hj hl ho hS.1
                rw [c01_t hS, c01_t hS, e1, Option.bind_some, e2, Option.bind_some]
                by_cases hA : ARp (ζ 45) (ζ 46) o i j l
                · have x1 : x = 1 := y1.elim (fun k => k.1) (fun k => absurd hA k.2)
                  have y1' : y = 1 := y2.elim (fun k => k.1) (fun k => absurd hA k.2)
                  left
                  left
                  rw [x1, y1', if_neg (show ¬ w32 1 = 0 by decide), if_neg (show ¬ w32 1 = 0 by decide)]
                  exact ⟨l, ⟨hjl, ⟨ti, tj, tl⟩, hS, hA⟩, rfl, rfl⟩
                · have x1 : x = 0 := y1.elim (fun k => absurd k.2 hA) (fun k => k.1)
                  have y1' : y = 0 := y2.elim (fun k => absurd k.2 hA) (fun k => k.1)
                  right
                  rw [x1, y1', if_pos (show w32 0 = 0 by decide), if_pos (show w32 0 = 0 by decide)]
                  exact ⟨(), (), st (fun k => hA k.2.2), rfl, rfl⟩
              · right
                rw [c01_f hS, c01_f hS]
                exact ⟨(), (), st (fun k => hS k.2.1), rfl, rfl⟩
      · intro u v _ _ hI
        obtain ⟨hjl, hI⟩ := hI
        rw [f_X1_findTriangle_b23, f_X10_isThree_b23, w32_n (by decide), if_neg (show ¬ ((24 : Nat) : Int) < 24 by decide), if_neg (show ¬ ((24 : Nat) : Int) < 24 by decide)]
        right
        exact ⟨rfl, rfl, fun c h1 h2 => hI c (bit_lt ho h2.1.2.2) h1 h2⟩
    · intro r s _ _ hI
      obtain ⟨hij, hI⟩ := hI
      rw [f_X1_findTriangle_b12, f_X10_isThree_b12, w32_n (by decide), if_neg (show ¬ ((24 : Nat) : Int) < 24 by decide), if_neg (show ¬ ((24 : Nat) : Int) < 24 by decide)]
      right
      exact ⟨rfl, rfl, fun b c h1 h2 h3 => hI b c (bit_lt ho h3.1.2.1) h1 h2 h3⟩
  · intro n m _ _ hI
    right
    exact fun a b c h1 h2 h3 => hI a b c (bit_lt ho h3.1.1) h1 h2 h3
