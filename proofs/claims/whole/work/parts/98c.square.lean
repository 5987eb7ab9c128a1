/-! ===== pure level: square, the question ===== -/
theorem sqS_24 {X Y : Nat → Int} {F : Nat} {x y s : Int} : sqS X Y F x y s < 16777216 := mks_24 _
theorem Eq_square_n : Eq_square Rl := by
  intro n σd σm a1 a2 a3 hn hR ha1 ha2 ha3
  obtain ⟨F, N, h⟩ := hR
  have h : Rn n σd σm F N := h
  have h1 := h.m0
  have hs := h.ask (z' := σd) (ζ' := up σm 41 0 0) SD.rf ss0
  unfold f_X9_square f_X10_square wr
  dsimp only
  generalize up σm 41 0 0 = ζ at *
  rw [dArePerils_n ha1, Option.bind_some, mArePerils_n ha1, Option.bind_some, w32_eq ha2, w32_eq ha3]
  by_cases c1 : 1 ≤ a1 ∧ a1 ≤ 15
  · rw [c01_t c1, c01_t c1]
    by_cases c2 : a2 < 0
    · rw [if_pos c2, if_pos c2]
      exact ⟨_, _, rfl, rfl, rfl, hs⟩
    rw [if_neg c2, if_neg c2]
    by_cases c3 : a2 < 300
    · rw [if_pos c3, if_pos (show a2 ≤ 299 by omega)]
      by_cases c4 : a3 < 0
      · rw [if_pos c4, if_pos c4]
        exact ⟨_, _, rfl, rfl, rfl, hs⟩
      rw [if_neg c4, if_neg c4]
      by_cases c5 : a3 ≤ 2
      · rw [if_pos c5, if_pos c5]
        obtain ⟨T, hTe⟩ : ∃ T : Nat, a1 = (T : Int) := ⟨a1.toNat, by omega⟩
        subst hTe
        have hB := h1.1
        rw [dOfPerils_n hB (by omega), Option.bind_some, ofPerils_n (by omega) (MRow.of hB), Option.bind_some]
        have hsF : ∀ q, (prS (ζ 49) (ζ 48) T).testBit q = true → F.testBit q = true := fun q hq => prS_F hB hq
        have hSl := sub_24 hB.1.2.1 hsF
        generalize prS (ζ 49) (ζ 48) T = S at *
        have hFl := hB.1.2.1
        have pm : ∀ p, p < 24 → Pl (ζ 45) (ζ 46) p := fun p hp => (MRow.of hB p hp).2.2.1
        have eq1 : ∀ p, p < 24 → σd 7 p = ζ 45 p ∧ σd 8 p = ζ 46 p := fun p hp => by
          obtain ⟨-, ⟨b1, b2, -⟩, -⟩ := hB.1.2.2 p hp
          exact ⟨b1, b2⟩
        have es : ∀ x y : Int, S &&& sqS (σd 7) (σd 8) F x y a2 = sqS (ζ 45) (ζ 46) S x y a2 := fun x y => bits_ext fun q => by
          unfold sqS
          rw [Nat.testBit_and, tb_mks, tb_mks]
          by_cases hq : q < 24
          · have e : inq (σd 7) (σd 8) x y a2 q = inq (ζ 45) (ζ 46) x y a2 q := by
              unfold inq
              rw [(eq1 q hq).1, (eq1 q hq).2]
            rw [e, decide_eq_true hq]
            cases hb : S.testBit q with
            | false => rfl
            | true => rw [hsF q hb]; rfl
          · rw [decide_eq_false hq, Bool.false_and, Bool.false_and, Bool.and_false]
        have em : ∀ x y : Int, sumb (σd 9) (sqS (ζ 45) (ζ 46) S x y a2) 24 = sumb (ζ 47) (sqS (ζ 45) (ζ 46) S x y a2) 24 := fun x y => by
          rw [← hB.sm (s := sqS (ζ 45) (ζ 46) S x y a2) (fun q hq => by
            unfold sqS at hq
            rw [tb_mks] at hq
            simp only [Bool.and_eq_true] at hq
            exact hsF q hq.2.1), sumb_25 sqS_24]
        refine loop_two (F := fun n i (a : Int × Int × Int) => f_X9_square_b53 σd n a2 a3 S a.1 a.2.1 a.2.2 i) (G := fun n i (u : Int × Int × Int) => f_X10_square_b55 n a2 a3 S u.1 u.2.1 u.2.2 i ζ) 24 (fun i a u => a = u) (P := fun x y => ∃ q q', x = some q ∧ y = some q' ∧ w32 q = w32 q'.1 ∧ Rl (n + 1) σd q'.2) (by decide) ?_ ?_ 0 (by decide) (0, -2, -2) (0, -2, -2) rfl
        · intro n' m i a u hi hI
          subst hI
          right
          show ∃ (s' u' : Int × Int × Int), s' = u' ∧ f_X9_square_b53 σd (n' + 1) a2 a3 S a.1 a.2.1 a.2.2 i = f_X9_square_b53 σd n' a2 a3 S s'.1 s'.2.1 s'.2.2 (i + 1) ∧ f_X10_square_b55 (m + 1) a2 a3 S a.1 a.2.1 a.2.2 i ζ = f_X10_square_b55 m a2 a3 S u'.1 u'.2.1 u'.2.2 (i + 1) ζ
          rw [f_X9_square_b53, f_X10_square_b55, w32_n (by omega), if_pos (show (i : Int) < 24 by omega), if_pos (show (i : Int) < 24 by omega)]
          have R := loop_two (F := fun n (j : Int) (a : Int × Int × Int) => f_X9_square_b63 σd (f_X9_square_b53 σd n') n a2 a3 S a.1 a.2.1 a.2.2 i j) (G := fun n (j : Int) (u : Int × Int × Int) => f_X10_square_b65 (f_X10_square_b55 m) n a2 a3 S u.1 u.2.1 u.2.2 i j ζ) 24 (fun j a u => a = u) (P := fun x y => ∃ a : Int × Int × Int, x = f_X9_square_b53 σd n' a2 a3 S a.1 a.2.1 a.2.2 ((i : Int) + 1) ∧ y = f_X10_square_b55 m a2 a3 S a.1 a.2.1 a.2.2 ((i : Int) + 1) ζ) (by decide) ?_ ?_ 0 (by decide) a a rfl
          · obtain ⟨b, x1, x2⟩ := R
            exact ⟨b, b, rfl, x1, x2⟩
          · intro x1 x2 j b v hj hI
            subst hI
            right
            obtain ⟨b1, b2, b3⟩ := b
            show ∃ (s' u' : Int × Int × Int), s' = u' ∧ f_X9_square_b63 σd (f_X9_square_b53 σd n') (x1 + 1) a2 a3 S b1 b2 b3 i j = f_X9_square_b63 σd (f_X9_square_b53 σd n') x1 a2 a3 S s'.1 s'.2.1 s'.2.2 i (j + 1) ∧ f_X10_square_b65 (f_X10_square_b55 m) (x2 + 1) a2 a3 S b1 b2 b3 i j ζ = f_X10_square_b65 (f_X10_square_b55 m) x2 a2 a3 S u'.1 u'.2.1 u'.2.2 i (j + 1) ζ
            have k0 : ∀ p q : Option Int, ∀ p' q' : Option (Int × Sg), p = f_X9_square_b63 σd (f_X9_square_b53 σd n') x1 a2 a3 S b1 b2 b3 i (j + 1) → p' = f_X10_square_b65 (f_X10_square_b55 m) x2 a2 a3 S b1 b2 b3 i (j + 1) ζ → ∃ (s' u' : Int × Int × Int), s' = u' ∧ p = f_X9_square_b63 σd (f_X9_square_b53 σd n') x1 a2 a3 S s'.1 s'.2.1 s'.2.2 i (j + 1) ∧ p' = f_X10_square_b65 (f_X10_square_b55 m) x2 a2 a3 S u'.1 u'.2.1 u'.2.2 i (j + 1) ζ := fun _ _ _ _ e1 e2 => ⟨(b1, b2, b3), (b1, b2, b3), rfl, e1, e2⟩
            rw [f_X9_square_b63, f_X10_square_b65, w32_n (by omega), if_pos (show (j : Int) < 24 by omega), if_pos (show (j : Int) < 24 by omega), contains_n (by omega) (by omega), Option.bind_some, contains_n (by omega) (by omega), Option.bind_some, has_n (by omega) (by omega), Option.bind_some, has_n (by omega) (by omega), Option.bind_some]
            cases hb : S.testBit i with
            | false =>
              rw [b01_f rfl, b01_f rfl]
              exact ⟨(b1, b2, b3), (b1, b2, b3), rfl, rfl, rfl⟩
            | true =>
              rw [b01_t rfl, b01_t rfl]
              cases hc : S.testBit j with
              | false =>
                rw [b01_f rfl, b01_f rfl]
                exact ⟨(b1, b2, b3), (b1, b2, b3), rfl, rfl, rfl⟩
              | true =>
                obtain ⟨g1, g2⟩ := pm i hi
                obtain ⟨g3, g4⟩ := pm j hj
                rw [b01_t rfl, b01_t rfl, xOf_n hi, Option.bind_some, yOf_n hj, Option.bind_some, ck_t (by omega), ck_t (by omega), ntn, ntn, (eq1 i hi).1, (eq1 j hj).2, inSquare_n hB.1.1 hFl hB.pl g1 g4 ⟨by omega, by omega⟩, Option.bind_some, u32_nat (n := S) (by omega), u32_nat (n := sqS (σd 7) (σd 8) F (ζ 45 i) (ζ 46 j) a2) (Nat.lt_trans sqS_24 (by decide)), es, sums_n hB.2 sqS_24, Option.bind_some, em, squareAt_n hSl pm g1 g4 ⟨by omega, by omega⟩, Option.bind_some]
                generalize sumb (ζ 47) (sqS (ζ 45) (ζ 46) S (ζ 45 i) (ζ 46 j) a2) 24 = v
                have km : f_X10_square_b171 (f_X10_square_b55 m) (f_X10_square_b65 (f_X10_square_b55 m) x2) a2 a3 S i j v ζ = f_X10_square_b65 (f_X10_square_b55 m) x2 a2 a3 S v (ζ 45 i) (ζ 46 j) i (j + 1) ζ := by
                  unfold f_X10_square_b171
                  rw [ck_t (by omega), ck_t (by omega), ntn, ntn]
                  rfl
                have km2 : f_X10_square_b193 (f_X10_square_b55 m) (f_X10_square_b65 (f_X10_square_b55 m) x2) a2 a3 S b1 b2 b3 i j ζ = f_X10_square_b65 (f_X10_square_b55 m) x2 a2 a3 S b1 b2 b3 i (j + 1) ζ := rfl
                rw [km, km2]
                have kd : ∀ w : Int, f_X9_square_b162 σd (f_X9_square_b53 σd n') (f_X9_square_b63 σd (f_X9_square_b53 σd n') x1) a2 a3 S b1 b2 b3 i j (ζ 45 i) (ζ 46 j) v w = if w32 v ≤ w32 b1 then if w32 v = w32 b1 then if w32 w = 0 then f_X9_square_b63 σd (f_X9_square_b53 σd n') x1 a2 a3 S b1 b2 b3 i (j + 1) else f_X9_square_b63 σd (f_X9_square_b53 σd n') x1 a2 a3 S v (ζ 45 i) (ζ 46 j) i (j + 1) else f_X9_square_b63 σd (f_X9_square_b53 σd n') x1 a2 a3 S b1 b2 b3 i (j + 1) else f_X9_square_b63 σd (f_X9_square_b53 σd n') x1 a2 a3 S v (ζ 45 i) (ζ 46 j) i (j + 1) := fun _ => rfl
                have k1 : f_X9_square_b157 σd (f_X9_square_b53 σd n') (f_X9_square_b63 σd (f_X9_square_b53 σd n') x1) a2 a3 S b1 b2 b3 i j (ζ 45 i) (ζ 46 j) v = _ := kd 1
                have k2 : f_X9_square_b161 σd (f_X9_square_b53 σd n') (f_X9_square_b63 σd (f_X9_square_b53 σd n') x1) a2 a3 S b1 b2 b3 i j (ζ 45 i) (ζ 46 j) v = _ := kd 0
                rw [k1, k2, w32_1, w32_0, if_neg (show ¬ (1 : Int) = 0 by decide), if_pos (show (0 : Int) = 0 from rfl), ck_t (by omega), ck_t (by omega), ck_t (by omega)]
                clear kd k1 k2 km km2 k0
                generalize f_X9_square_b63 σd (f_X9_square_b53 σd n') x1 a2 a3 S = fd at *
                generalize f_X10_square_b65 (f_X10_square_b55 m) x2 a2 a3 S = fm at *
                generalize ζ 45 i = x at *
                generalize ζ 46 j = y at *
                have keep : ∃ (s' u' : Int × Int × Int), s' = u' ∧ fd b1 b2 b3 i (j + 1) = fd s'.1 s'.2.1 s'.2.2 i (j + 1) ∧ fm b1 b2 b3 i (j + 1) ζ = fm u'.1 u'.2.1 u'.2.2 i (j + 1) ζ := ⟨(b1, b2, b3), (b1, b2, b3), rfl, rfl, rfl⟩
                have set : ∃ (s' u' : Int × Int × Int), s' = u' ∧ fd v x y i (j + 1) = fd s'.1 s'.2.1 s'.2.2 i (j + 1) ∧ fm v x y i (j + 1) ζ = fm u'.1 u'.2.1 u'.2.2 i (j + 1) ζ := ⟨(v, x, y), (v, x, y), rfl, rfl, rfl⟩
                by_cases D : w32 v ≤ w32 b1
                · by_cases E : w32 v = w32 b1
                  · rw [if_pos D, if_pos E, if_pos D, if_pos E, if_neg (show ¬ w32 v < w32 b1 by omega), if_pos E]
                    by_cases A : w32 x < w32 b2
                    · rw [if_pos A, if_pos (show w32 x ≤ w32 b2 by omega), if_neg (show ¬ w32 x = w32 b2 by omega)]
                      exact set
                    · rw [if_neg A]
                      by_cases B : w32 x = w32 b2
                      · rw [if_pos B, if_pos (show w32 x ≤ w32 b2 by omega), if_pos B]
                        by_cases C : w32 y < w32 b3
                        · rw [if_pos C, if_pos C]
                          exact set
                        · rw [if_neg C, if_neg C]
                          exact keep
                      · rw [if_neg B, if_neg (show ¬ w32 x ≤ w32 b2 by omega)]
                        exact keep
                  · rw [if_pos D, if_neg E, if_pos D, if_neg E, if_pos (show w32 v < w32 b1 by omega)]
                    have e : (if w32 x < w32 b2 then fd b1 b2 b3 (i : Int) ((j : Int) + 1) else if w32 x = w32 b2 then if w32 y < w32 b3 then fd b1 b2 b3 i (j + 1) else fd b1 b2 b3 i (j + 1) else fd b1 b2 b3 i (j + 1)) = fd b1 b2 b3 i (j + 1) := by
                      split
                      · rfl
                      · split
                        · split <;> rfl
                        · rfl
                    rw [e]
                    exact keep
                · rw [if_neg D, if_neg D, if_neg (show ¬ w32 v < w32 b1 by omega), if_neg (show ¬ w32 v = w32 b1 by omega)]
                  have e : (if w32 x < w32 b2 then fd v x y (i : Int) ((j : Int) + 1) else if w32 x = w32 b2 then if w32 y < w32 b3 then fd v x y i (j + 1) else fd v x y i (j + 1) else fd v x y i (j + 1)) = fd v x y i (j + 1) := by
                    split
                    · rfl
                    · split
                      · split <;> rfl
                      · rfl
                  rw [e]
                  exact set
          · intro x1 x2 b v hI
            subst hI
            rw [f_X9_square_b63, f_X10_square_b65, w32_n (by decide), if_neg (show ¬ ((24 : Nat) : Int) < 24 by decide), if_neg (show ¬ ((24 : Nat) : Int) < 24 by decide)]
            exact ⟨b, rfl, rfl⟩
        · intro n' m a u hI
          subst hI
          rw [f_X9_square_b53, f_X10_square_b55, w32_n (by decide), if_neg (show ¬ ((24 : Nat) : Int) < 24 by decide), if_neg (show ¬ ((24 : Nat) : Int) < 24 by decide)]
          unfold f_X9_square_b207 f_X10_square_b205
          by_cases d1 : w32 a3 = 0
          · rw [if_pos d1, if_pos d1]
            exact ⟨_, _, rfl, rfl, rfl, hs⟩
          · rw [if_neg d1, if_neg d1]
            by_cases d2 : w32 a3 = 1
            · rw [if_pos d2, if_pos d2]
              exact ⟨_, _, rfl, rfl, rfl, hs⟩
            · rw [if_neg d2, if_neg d2]
              exact ⟨_, _, rfl, rfl, rfl, hs⟩
      · rw [if_neg c5, if_neg c5]
        exact ⟨_, _, rfl, rfl, rfl, hs⟩
    · rw [if_neg c3, if_neg (show ¬ a2 ≤ 299 by omega)]
      exact ⟨_, _, rfl, rfl, rfl, hs⟩
  · rw [c01_f c1, c01_f c1]
    exact ⟨_, _, rfl, rfl, rfl, hs⟩
