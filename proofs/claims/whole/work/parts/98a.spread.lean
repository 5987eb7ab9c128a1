/-! ===== pure level: spread ===== -/
theorem loop_two2 {α β St Su : Type} {F : Nat → Int → St → Option α} {G : Nat → Int → Su → Option β} (N : Nat) (I : Nat → St → Su → Prop) {P : Option α → Option β → Prop} {n0 m0 : Nat} (hn0 : N < n0) (hm0 : N < m0)
    (hs : ∀ n m i s u, i < N → I i s u → P (F (n + 1) (i : Int) s) (G (m + 1) (i : Int) u) ∨ ∃ s' u', I (i + 1) s' u' ∧ F (n + 1) (i : Int) s = F n ((i : Int) + 1) s' ∧ G (m + 1) (i : Int) u = G m ((i : Int) + 1) u')
    (hx : ∀ n m s u, I N s u → P (F (n + 1) (N : Int) s) (G (m + 1) (N : Int) u)) (i : Nat) (hi : i ≤ N) (s : St) (u : Su) (h : I i s u) : P (F n0 (i : Int) s) (G m0 (i : Int) u) := by
  have go : ∀ k i s u n m, i + k = N → I i s u → k < n → k < m → P (F n (i : Int) s) (G m (i : Int) u) := by
    intro k
    induction k with
    | zero =>
      intro i s u n m hi h hn hm
      obtain ⟨n, rfl⟩ : ∃ x, n = x + 1 := ⟨n - 1, by omega⟩
      obtain ⟨m, rfl⟩ : ∃ x, m = x + 1 := ⟨m - 1, by omega⟩
      have hi : i = N := by omega
      subst hi
      exact hx n m s u h
    | succ k ih =>
      intro i s u n m hi h hn hm
      obtain ⟨n, rfl⟩ : ∃ x, n = x + 1 := ⟨n - 1, by omega⟩
      obtain ⟨m, rfl⟩ : ∃ x, m = x + 1 := ⟨m - 1, by omega⟩
      rcases hs n m i s u (by omega) h with h1 | ⟨s', u', h1, h2, h3⟩
      · exact h1
      · rw [h2, h3, ← ncast_s]
        exact ih (i + 1) s' u' n m (by omega) h1 (by omega) (by omega)
  exact go (N - i) i s u n0 m0 (by omega) h (by omega) (by omega)
theorem Eq_spread_n : Eq_spread Rl := by
  intro n σd σm a1 hn hR ha1
  obtain ⟨F, N, h⟩ := hR
  have h : Rn n σd σm F N := h
  have h1 := h.m0
  have hs := h.ask (z' := σd) (ζ' := up σm 41 0 0) SD.rf ss0
  obtain ⟨hN, hNm, hN6⟩ := h1.nm
  unfold f_X9_spread f_X10_spread wr
  dsimp only
  generalize up σm 41 0 0 = ζ at *
  by_cases c1 : 0 ≤ a1 ∧ a1 < N
  · obtain ⟨t, hte⟩ : ∃ t : Nat, a1 = (t : Int) := ⟨a1.toNat, by omega⟩
    subst hte
    have ht : t < N := by omega
    obtain ⟨ht6, hD, hA, hQ⟩ := h1.tr ht
    obtain ⟨ζ', e, s, e36, e37, i1, i2⟩ := worstOf_n ht6 (MRow.of h1.1) hD.2.1
    obtain ⟨o, ol, ow, -⟩ := ws_o ht6 h1.1 hD
    have hs' := h1.ask (z' := σd) (ζ' := ζ') SD.rf s.ss
    rw [ow] at e37
    have z5 : σd (21 + t) 5 = (o : Int) := by rw [hQ.1.1, ow]
    have r45 : ζ' 45 = ζ 45 := s.row (by decide)
    have r46 : ζ' 46 = ζ 46 := s.row (by decide)
    have hM := MRow.of h1.1
    rw [treatyAt_t hN ht hN6, Option.bind_some, oTs_ ht6, isTr_t hNm hN6 ha1, Option.bind_some, c01_t c1, e, Option.bind_some, z5, w32_n (by omega)]
    dsimp only
    by_cases c2 : o = 0
    · subst c2
      rw [if_pos (show ((0 : Nat) : Int) = 0 from rfl)]
      refine loop_two (F := fun _ _ (_ : Unit) => (some (-2) : Option Int)) (G := fun n i (u : Int) => f_X10_spread_b26 n u i ζ') 24 (fun i a u => u = -2) (P := fun x y => ∃ q q', x = some q ∧ y = some q' ∧ w32 q = w32 q'.1 ∧ Rl (n + 1) σd q'.2) (by decide) ?_ ?_ 0 (by decide) () (-2) rfl
      · intro n' m i a u hi hu
        subst hu
        right
        rw [f_X10_spread_b26, w32_n (by omega), if_pos (show (i : Int) < 24 by omega)]
        refine ⟨(), -2, rfl, rfl, ?_⟩
        refine loop_two (F := fun _ _ (_ : Unit) => (none : Option Int)) (G := fun n j (u : Int) => f_X10_spread_b35 (f_X10_spread_b26 m) n u i j ζ') 24 (fun j a u => u = -2) (P := fun _ y => y = f_X10_spread_b26 m (-2) ((i : Int) + 1) ζ') (by decide) ?_ ?_ i (by omega) () (-2) rfl
        · intro n' m' j a u hj hu
          subst hu
          right
          refine ⟨(), -2, rfl, rfl, ?_⟩
          show f_X10_spread_b35 (f_X10_spread_b26 m) (m' + 1) (-2) i j ζ' = f_X10_spread_b35 (f_X10_spread_b26 m) m' (-2) i (j + 1) ζ'
          rw [f_X10_spread_b35, w32_n (by omega), if_pos (show (j : Int) < 24 by omega), e37, has_n (by omega) (by omega), Option.bind_some, Nat.zero_testBit]
          rfl
        · intro n' m' a u hu
          subst hu
          show f_X10_spread_b35 (f_X10_spread_b26 m) (m' + 1) (-2) i ((24 : Nat) : Int) ζ' = _
          rw [f_X10_spread_b35, w32_n (by decide), if_neg (show ¬ ((24 : Nat) : Int) < 24 by decide)]
          rfl
      · intro n' m a u hu
        subst hu
        rw [f_X10_spread_b26, w32_n (by decide), if_neg (show ¬ ((24 : Nat) : Int) < 24 by decide)]
        exact ⟨_, _, rfl, rfl, rfl, hs'⟩
    · rw [if_neg (show ¬ (o : Int) = 0 by omega)]
      have dd : ∀ p q, p < 24 → q < 24 → w32 (d2 (ζ 45) (ζ 46) p q) = d2 (ζ 45) (ζ 46) p q ∧ 0 ≤ d2 (ζ 45) (ζ 46) p q ∧ d2 (ζ 45) (ζ 46) p q ≤ 178802 := by
        intro p q hp hq
        have := d2_bd (hM p hp).2.2.1 (hM q hq).2.2.1
        exact ⟨w32_eq ⟨by omega, by omega⟩, this⟩
      refine loop_two (F := fun n i a => f_X9_spread_b27 σd n t a i) (G := fun n i (u : Int) => f_X10_spread_b26 n u i ζ') 24 (fun i a u => 0 ≤ a ∧ a ≤ 178802 ∧ (u = a ∨ (u = -2 ∧ a = 0 ∧ ∀ k : Nat, k < i → o.testBit k = false))) (P := fun x y => ∃ q q', x = some q ∧ y = some q' ∧ w32 q = w32 q'.1 ∧ Rl (n + 1) σd q'.2) (by decide) ?_ ?_ 0 (by decide) 0 (-2) ⟨by omega, by omega, Or.inr ⟨rfl, rfl, fun k hk => by omega⟩⟩
      · intro n' m i a u hi hI
        obtain ⟨j0, j1, j2⟩ := hI
        right
        show ∃ (s' u' : Int), _ ∧ f_X9_spread_b27 σd (n' + 1) t a i = f_X9_spread_b27 σd n' t s' (i + 1) ∧ f_X10_spread_b26 (m + 1) u i ζ' = f_X10_spread_b26 m u' (i + 1) ζ'
        rw [f_X9_spread_b27, f_X10_spread_b26, w32_n (by omega), if_pos (show (i : Int) < 24 by omega), if_pos (show (i : Int) < 24 by omega)]
        have k1 : ∀ N' v (j : Int), f_X10_spread_b84 (f_X10_spread_b26 m) (f_X10_spread_b35 (f_X10_spread_b26 m) N') v i j ζ' = f_X10_spread_b35 (f_X10_spread_b26 m) N' v i (j + 1) ζ' := fun _ _ _ => rfl
        have k2 : ∀ N' v (j : Int), f_X9_spread_b87 σd (f_X9_spread_b27 σd n') (f_X9_spread_b40 σd (f_X9_spread_b27 σd n') N') t v i j = f_X9_spread_b40 σd (f_X9_spread_b27 σd n') N' t v i (j + 1) := fun _ _ _ => rfl
        have k3 : ∀ v : Int, f_X10_spread_b90 (f_X10_spread_b26 m) v i ζ' = f_X10_spread_b26 m v (i + 1) ζ' := fun _ => rfl
        have k4 : ∀ v : Int, f_X9_spread_b93 σd (f_X9_spread_b27 σd n') t v i = f_X9_spread_b27 σd n' t v (i + 1) := fun _ => rfl
        cases hb : o.testBit i with
        | false =>
          refine ⟨a, u, ⟨j0, j1, ?_⟩, ?_, ?_⟩
          · rcases j2 with j2 | ⟨q1, q2, q3⟩
            · exact Or.inl j2
            · refine Or.inr ⟨q1, q2, fun k hk => ?_⟩
              rcases Nat.lt_succ_iff_lt_or_eq.1 hk with hk | hk
              · exact q3 k hk
              · rw [hk, hb]
          · rw [← ncast_s i]
            refine loop_two (F := fun n (j : Int) (_ : Unit) => f_X9_spread_b40 σd (f_X9_spread_b27 σd n') n t a i j) (G := fun _ _ (_ : Unit) => (none : Option Int)) 24 (fun j _ _ => True) (P := fun x _ => x = f_X9_spread_b27 σd n' t a ((i : Int) + 1)) (by decide) ?_ ?_ (i + 1) (by omega) () () trivial
            · intro x1 x2 j _ _ hj _
              right
              refine ⟨(), (), trivial, ?_, rfl⟩
              rw [f_X9_spread_b40, w32_n (by omega), if_pos (show (j : Int) < 24 by omega), z5, contains_n (by omega) (by omega), Option.bind_some, hb, b01_f rfl, k2]
            · intro x1 x2 _ _ _
              rw [f_X9_spread_b40, w32_n (by decide), if_neg (show ¬ ((24 : Nat) : Int) < 24 by decide), k4]
          · refine loop_two (F := fun n (j : Int) (_ : Unit) => f_X10_spread_b35 (f_X10_spread_b26 m) n u i j ζ') (G := fun _ _ (_ : Unit) => (none : Option Int)) 24 (fun j _ _ => True) (P := fun x _ => x = f_X10_spread_b26 m u ((i : Int) + 1) ζ') (by decide) ?_ ?_ i (by omega) () () trivial
            · intro x1 x2 j _ _ hj _
              right
              refine ⟨(), (), trivial, ?_, rfl⟩
              rw [f_X10_spread_b35, w32_n (by omega), if_pos (show (j : Int) < 24 by omega), e37, has_n (by omega) (by omega), Option.bind_some, hb, b01_f rfl, k1]
            · intro x1 x2 _ _ _
              rw [f_X10_spread_b35, w32_n (by decide), if_neg (show ¬ ((24 : Nat) : Int) < 24 by decide), k3]
        | true =>
          have first : ∀ x, f_X10_spread_b35 (f_X10_spread_b26 m) (x + 1) u i i ζ' = f_X10_spread_b35 (f_X10_spread_b26 m) x a i (i + 1) ζ' := by
            intro x
            rw [f_X10_spread_b35, w32_n (by omega), if_pos (show (i : Int) < 24 by omega), e37, has_n (by omega) (by omega), Option.bind_some, hb, b01_t rfl, Option.bind_some, b01_t rfl, dist_n (by omega) (by omega), Option.bind_some, Option.bind_some, r45, r46, d2_self, k1, k1]
            rcases j2 with j2 | ⟨q1, q2, q3⟩
            · subst j2
              rw [w32_eq (z := u) ⟨by omega, by omega⟩, if_pos (show w32 0 ≤ u from j0)]
            · subst q1
              subst q2
              rfl
          have R := loop_two2 (n0 := FUEL) (m0 := FUEL - 1) (F := fun n (j : Int) a => f_X9_spread_b40 σd (f_X9_spread_b27 σd n') n t a i j) (G := fun n (j : Int) (u : Int) => f_X10_spread_b35 (f_X10_spread_b26 m) n u i j ζ') 24 (fun j a u => u = a ∧ 0 ≤ a ∧ a ≤ 178802) (P := fun x y => ∃ a : Int, 0 ≤ a ∧ a ≤ 178802 ∧ x = f_X9_spread_b27 σd n' t a ((i : Int) + 1) ∧ y = f_X10_spread_b26 m a ((i : Int) + 1) ζ') (fuel_lt (by decide)) (by have := fuel_lt (k := 25) (by decide); omega) ?_ ?_ (i + 1) (by omega) a a ⟨rfl, j0, j1⟩
          · obtain ⟨b, b0, b1, x1, x2⟩ := R
            refine ⟨b, b, ⟨b0, b1, Or.inl rfl⟩, ?_, ?_⟩
            · rw [← ncast_s i]
              exact x1
            · rw [← ncast_s i] at x2
              exact (first (FUEL - 1)).trans x2
          · intro x1 x2 j b v hj hI
            obtain ⟨y0, y1, y2⟩ := hI
            subst y0
            right
            obtain ⟨w1, w2, w3⟩ := dd i j hi hj
            rw [f_X9_spread_b40, f_X10_spread_b35, w32_n (by omega), if_pos (show (j : Int) < 24 by omega), if_pos (show (j : Int) < 24 by omega), z5, contains_n (by omega) (by omega), Option.bind_some, hb, b01_t rfl, contains_n (by omega) (by omega), Option.bind_some, e37, has_n (by omega) (by omega), Option.bind_some, hb, b01_t rfl, has_n (by omega) (by omega), Option.bind_some]
            cases hc : o.testBit j with
            | false =>
              rw [b01_f rfl, b01_f rfl, k1, k2]
              exact ⟨v, v, ⟨rfl, y1, y2⟩, rfl, rfl⟩
            | true =>
              rw [b01_t rfl, b01_t rfl, between_n hi hj, Option.bind_some, h1.1.d2 hi hj, dist_n (by omega) (by omega), Option.bind_some, Option.bind_some, r45, r46, w1, k2, k1, k1, w32_eq (z := v) ⟨by omega, by omega⟩]
              refine ⟨mmaxI v (d2 (ζ 45) (ζ 46) i j), _, ⟨rfl, ?_⟩, rfl, ?_⟩
              · unfold mmaxI
                split <;> omega
              · unfold mmaxI
                rw [w1, w32_eq (z := v) ⟨by omega, by omega⟩]
                by_cases c3 : d2 (ζ 45) (ζ 46) i j ≤ v
                · rw [if_pos c3, if_neg (show ¬ v < d2 (ζ 45) (ζ 46) i j by omega)]
                · rw [if_neg c3, if_pos (show v < d2 (ζ 45) (ζ 46) i j by omega)]
          · intro x1 x2 b v hI
            obtain ⟨y0, y1, y2⟩ := hI
            subst y0
            rw [f_X9_spread_b40, f_X10_spread_b35, w32_n (by decide), if_neg (show ¬ ((24 : Nat) : Int) < 24 by decide), if_neg (show ¬ ((24 : Nat) : Int) < 24 by decide), k3, k4]
            exact ⟨v, y1, y2, rfl, rfl⟩
      · intro n' m a u hI
        obtain ⟨j0, j1, j2⟩ := hI
        rw [f_X9_spread_b27, f_X10_spread_b26, w32_n (by decide), if_neg (show ¬ ((24 : Nat) : Int) < 24 by decide), if_neg (show ¬ ((24 : Nat) : Int) < 24 by decide)]
        refine ⟨_, _, rfl, rfl, ?_, hs'⟩
        rcases j2 with j2 | ⟨q1, q2, q3⟩
        · rw [j2]
        · exfalso
          apply c2
          apply Nat.eq_of_testBit_eq
          intro k
          rw [Nat.zero_testBit]
          by_cases hk : k < 24
          · exact q3 k hk
          · exact tb_24 ol (by omega)
  · rw [treatyAt_f hN ha1 hN6 c1, Option.bind_some, isTr_t hNm hN6 ha1, Option.bind_some, c01_f c1]
    exact ⟨_, _, rfl, rfl, rfl, hs⟩
