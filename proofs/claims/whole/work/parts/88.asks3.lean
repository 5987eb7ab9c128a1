/-! ===== pure level: two loops side by side; questions ===== -/
theorem loop_two {α β St Su : Type} {F : Nat → Int → St → Option α} {G : Nat → Int → Su → Option β} (N : Nat) (I : Nat → St → Su → Prop) {P : Option α → Option β → Prop} (hN : N < 900000)
    (hs : ∀ n m i s u, i < N → I i s u → P (F (n + 1) (i : Int) s) (G (m + 1) (i : Int) u) ∨ ∃ s' u', I (i + 1) s' u' ∧ F (n + 1) (i : Int) s = F n ((i : Int) + 1) s' ∧ G (m + 1) (i : Int) u = G m ((i : Int) + 1) u')
    (hx : ∀ n m s u, I N s u → P (F (n + 1) (N : Int) s) (G (m + 1) (N : Int) u)) (i : Nat) (hi : i ≤ N) (s : St) (u : Su) (h : I i s u) : P (F FUEL (i : Int) s) (G FUEL (i : Int) u) := by
  have go : ∀ k i s u n m, i + k = N → I i s u → k < n → k < m → P (F n (i : Int) s) (G m (i : Int) u) := by
    intro k
    induction k with
    | zero =>
      intro i s u n m hi h hn hm
      obtain ⟨n, rfl⟩ : ∃ x, n = x + 1 := ⟨n - 1, by omega⟩
      obtain ⟨m, rfl⟩ : ∃ x, m = x + 1 := ⟨m - 1, by omega⟩
      have hi : i = N := by omega
      subst hi
      exact hx n m s u h
    | succ k ih =>
      intro i s u n m hi h hn hm
      obtain ⟨n, rfl⟩ : ∃ x, n = x + 1 := ⟨n - 1, by omega⟩
      obtain ⟨m, rfl⟩ : ∃ x, m = x + 1 := ⟨m - 1, by omega⟩
      rcases hs n m i s u (by omega) h with h1 | ⟨s', u', h1, h2, h3⟩
      · exact h1
      · rw [h2, h3, ← ncast_s]
        exact ih (i + 1) s' u' n m (by omega) h1 (by omega) (by omega)
  exact go (N - i) i s u FUEL FUEL (by omega) h (fuel_lt (by omega)) (fuel_lt (by omega))
theorem Eq_inWorst_n : Eq_inWorst Rl := by
  intro n σd σm a1 a2 hn hR ha1 ha2
  obtain ⟨F, N, h⟩ := hR
  have h : Rn n σd σm F N := h
  have h1 := h.m0
  have hs := h.ask (z' := σd) (ζ' := up σm 41 0 0) SD.rf ss0
  obtain ⟨hN, hNm, hN6⟩ := h1.nm
  unfold f_X9_inWorst f_X10_inWorst wr
  dsimp only
  generalize up σm 41 0 0 = ζ at *
  by_cases c1 : 0 ≤ a1 ∧ a1 < N
  · obtain ⟨t, hte⟩ : ∃ t : Nat, a1 = (t : Int) := ⟨a1.toNat, by omega⟩
    subst hte
    have ht : t < N := by omega
    obtain ⟨ht6, hD, hA, hQ⟩ := h1.tr ht
    rw [treatyAt_t hN ht hN6, Option.bind_some, oTs_ ht6, isTr_t hNm hN6 ha1, Option.bind_some, c01_t c1, w32_eq ha2]
    by_cases c2 : a2 < 0
    · rw [if_pos c2, if_pos c2]
      exact ⟨_, _, rfl, rfl, rfl, hs⟩
    · obtain ⟨ζ', e, s, e36, e37, i1, i2⟩ := worstOf_n ht6 (MRow.of h1.1) hD.2.1
      obtain ⟨o, ol, ow, -⟩ := ws_o ht6 h1.1 hD
      have hs' := h1.ask (z' := σd) (ζ' := ζ') SD.rf s.ss
      rw [ow] at e37
      rw [if_neg c2, if_neg c2, e, Option.bind_some]
      have z5 : σd (21 + t) 5 = (o : Int) := by rw [hQ.1.1, ow]
      refine loop_two (F := fun n i a => f_X9_inWorst_b22 σd n a2 t a i) (G := fun n i (u : Int) => f_X10_inWorst_b30 n u i ζ') 24 (fun i a u => u = a2 - a ∧ 0 ≤ a ∧ a ≤ i ∧ a ≤ a2) (P := fun x y => ∃ q q', x = some q ∧ y = some q' ∧ w32 q = w32 q'.1 ∧ Rl (n + 1) σd q'.2) (by decide) ?_ ?_ 0 (by decide) 0 a2 ⟨by omega, by omega, by omega, by omega⟩
      · intro n' m i a u hi hI
        obtain ⟨j1, j2, j3, j4⟩ := hI
        rw [f_X9_inWorst_b22, f_X10_inWorst_b30, w32_n (by omega), if_pos (show (i : Int) < 24 by omega), if_pos (show (i : Int) < 24 by omega), z5, contains_n (by omega) (by omega), Option.bind_some, e37, has_n (by omega) (by omega), Option.bind_some]
        cases hb : o.testBit i with
        | false =>
          right
          rw [b01_f rfl, b01_f rfl]
          exact ⟨a, u, ⟨j1, j2, by omega, j4⟩, rfl, rfl⟩
        | true =>
          rw [b01_t rfl, b01_t rfl, w32_eq (z := a) ⟨by omega, by omega⟩, w32_eq (z := a2) ha2, w32_eq (z := u) ⟨by omega, by omega⟩]
          by_cases c3 : a = a2
          · left
            rw [if_pos c3, if_pos (by omega)]
            exact ⟨_, _, rfl, rfl, rfl, hs'⟩
          · right
            rw [if_neg c3, if_neg (by omega)]
            exact ⟨a + 1, u + (-1), ⟨by omega, by omega, by omega, by omega⟩, rfl, rfl⟩
      · intro n' m a u _
        rw [f_X9_inWorst_b22, f_X10_inWorst_b30, w32_n (by decide), if_neg (show ¬ ((24 : Nat) : Int) < 24 by decide), if_neg (show ¬ ((24 : Nat) : Int) < 24 by decide)]
        exact ⟨_, _, rfl, rfl, rfl, hs'⟩
  · rw [treatyAt_f hN ha1 hN6 c1, Option.bind_some, isTr_t hNm hN6 ha1, Option.bind_some, c01_f c1]
    exact ⟨_, _, rfl, rfl, rfl, hs⟩
theorem latest_n {z : Sg} {e nb : Nat} {lg : Int} {log : Nat → Int} {i j : Int} (he : e < 2) (hnb : nb < 100000) (h : LgP (z (13 + 2 * e) 2) (z (14 + 2 * e)) lg log nb) (hi : 0 ≤ i ∧ i < 2147483648) (hj : 0 ≤ j ∧ j ≤ 2) :
    f_X5_latest e i j z = some (if i < lg then log (3 * i + j).toNat else z (13 + 2 * e) 1) := by
  obtain ⟨C, h1, h2, h3, h4⟩ := h
  unfold f_X5_latest
  rw [ck_t he, w32_eq (z := i) ⟨by omega, by omega⟩, if_neg (by omega), h1, w32_n (by omega), w32_30]
  by_cases c1 : i < 30
  · rw [if_pos c1]
    by_cases c2 : i < C
    · have hm : ((C : Int) - 1 - i).tmod 30 = (((C - 1 - i.toNat) % 30 : Nat) : Int) := by
        rw [show (C : Int) - 1 - i = ((C - 1 - i.toNat : Nat) : Int) by omega]
        exact (Int.ofNat_tmod _ 30).symm
      rw [if_pos c2, ck_t (by decide), w32_eq (z := (C : Int) - 1 - i) ⟨by omega, by omega⟩, hm]
      have hq : (C - 1 - i.toNat) % 30 < 30 := Nat.mod_lt _ (by decide)
      rw [w32_eq ⟨by omega, by omega⟩, if_neg (by omega), if_pos (by omega), ck_t (by omega), if_pos (by rw [h3]; split <;> omega)]
      have := h4 i.toNat j.toNat (by omega) (by omega) (by omega)
      rw [show ((((C - 1 - i.toNat) % 30 : Nat) : Int) * 3 + j).toNat = (C - 1 - i.toNat) % 30 * 3 + j.toNat by omega, show (3 * i + j).toNat = 3 * i.toNat + j.toNat by omega, this]
    · rw [if_neg c2, if_neg (by rw [h3]; split <;> omega)]
  · rw [if_neg c1, if_neg (by rw [h3]; split <;> omega)]
theorem lg_30 {cnt lg : Int} {row log : Nat → Int} {nb : Nat} (h : LgP cnt row lg log nb) : 0 ≤ lg ∧ lg ≤ 30 := by
  obtain ⟨C, h1, h2, h3, h4⟩ := h
  rw [h3]
  split <;> omega
theorem Eq_alarm_n : Eq_alarm Rl := by
  intro n σd σm a1 a2 hn hR ha1 ha2
  obtain ⟨F, N, h⟩ := hR
  have h : Rn n σd σm F N := h
  have h1 := h.m0
  have hs := h.ask (z' := σd) (ζ' := up σm 41 0 0) SD.rf ss0
  unfold f_X9_alarm f_X10_alarm wr
  dsimp only
  generalize up σm 41 0 0 = ζ at *
  obtain ⟨-, hL, h15⟩ := h1.2.2.1
  have l30 := lg_30 hL
  rw [w32_eq ha1, w32_eq ha2]
  by_cases c1 : a1 < 0
  · rw [if_pos c1, if_pos c1]
    exact ⟨_, _, rfl, rfl, rfl, hs⟩
  · rw [if_neg c1, if_neg c1]
    by_cases c2 : a2 < 0
    · rw [if_pos c2, if_pos c2]
      exact ⟨_, _, rfl, rfl, rfl, hs⟩
    · rw [if_neg c2, if_neg c2]
      by_cases c3 : a2 ≤ 2
      · rw [if_pos c3, if_pos c3, latest_n (e := 1) (nb := 8 * n) (by decide) (by omega) hL ⟨by omega, ha1.2⟩ ⟨by omega, c3⟩, Option.bind_some, w32_eq (z := ζ 41 32) ⟨by omega, by omega⟩]
        by_cases c4 : a1 < ζ 41 32
        · rw [if_pos c4, if_pos c4, ck_t (by omega)]
          exact ⟨_, _, rfl, rfl, rfl, hs⟩
        · rw [if_neg c4, if_neg c4]
          exact ⟨_, _, rfl, rfl, by rw [show σd (13 + 2 * 1) 1 = -2 from h15], hs⟩
      · rw [if_neg c3, if_neg c3]
        exact ⟨_, _, rfl, rfl, rfl, hs⟩
theorem Eq_act_n : Eq_act Rl := by
  intro n σd σm a1 a2 hn hR ha1 ha2
  obtain ⟨F, N, h⟩ := hR
  have h : Rn n σd σm F N := h
  have h1 := h.m0
  have hs := h.ask (z' := σd) (ζ' := up σm 41 0 0) SD.rf ss0
  unfold f_X9_act f_X10_act wr
  dsimp only
  generalize up σm 41 0 0 = ζ at *
  obtain ⟨⟨-, hL, h13⟩, -⟩ := h1.2.2.1
  have l30 := lg_30 hL
  rw [w32_eq ha1, w32_eq ha2, w32_eq (z := ζ 41 34) ⟨by omega, by omega⟩]
  by_cases c1 : a1 < 0
  · rw [if_pos c1, if_pos c1]
    exact ⟨_, _, rfl, rfl, rfl, hs⟩
  · rw [if_neg c1, if_neg c1]
    by_cases c4 : a1 < ζ 41 34
    · rw [if_pos c4]
      by_cases c2 : a2 < 0
      · rw [if_pos c2, if_pos c2]
        exact ⟨_, _, rfl, rfl, rfl, hs⟩
      · rw [if_neg c2, if_neg c2]
        by_cases c3 : a2 ≤ 2
        · rw [if_pos c3, if_pos c3, latest_n (e := 0) (nb := n) (by decide) (by omega) hL ⟨by omega, ha1.2⟩ ⟨by omega, c3⟩, Option.bind_some, if_pos c4, ck_t (by omega)]
          exact ⟨_, _, rfl, rfl, rfl, hs⟩
        · rw [if_neg c3, if_neg c3]
          exact ⟨_, _, rfl, rfl, rfl, hs⟩
    · rw [if_neg c4]
      by_cases c2 : a2 < 0
      · rw [if_pos c2]
        exact ⟨_, _, rfl, rfl, rfl, hs⟩
      · rw [if_neg c2]
        by_cases c3 : a2 ≤ 2
        · rw [if_pos c3, latest_n (e := 0) (nb := n) (by decide) (by omega) hL ⟨by omega, ha1.2⟩ ⟨by omega, c3⟩, Option.bind_some, if_neg c4]
          exact ⟨_, _, rfl, rfl, by rw [show σd (13 + 2 * 0) 1 = -2147483648 from h13], hs⟩
        · rw [if_neg c3]
          exact ⟨_, _, rfl, rfl, rfl, hs⟩
theorem between_n {z : Sg} {p q : Nat} (hp : p < 24) (hq : q < 24) : f_X0_between (p : Int) (q : Int) z = some (d2 (z 7) (z 8) p q) := by
  unfold f_X0_between
  rw [xOf_n hq, Option.bind_some, yOf_n hq, Option.bind_some, apart_n hp, Option.bind_some]
theorem RelB.d2 {z ζ : Sg} {F p q : Nat} (h : RelB z ζ F) (hp : p < 24) (hq : q < 24) : d2 (z 7) (z 8) p q = d2 (ζ 45) (ζ 46) p q := by
  obtain ⟨-, ⟨a1, a2, -⟩, -⟩ := h.1.2.2 p hp
  obtain ⟨-, ⟨b1, b2, -⟩, -⟩ := h.1.2.2 q hq
  show (z 7 p - z 7 q) * (z 7 p - z 7 q) + (z 8 p - z 8 q) * (z 8 p - z 8 q) = (ζ 45 p - ζ 45 q) * (ζ 45 p - ζ 45 q) + (ζ 46 p - ζ 46 q) * (ζ 46 p - ζ 46 q)
  rw [a1, a2, b1, b2]
theorem Eq_together_n : Eq_together Rl := by
  intro n σd σm a1 a2 a3 hn hR ha1 ha2 ha3
  obtain ⟨F, N, h⟩ := hR
  have h : Rn n σd σm F N := h
  have h1 := h.m0
  have hs := h.ask (z' := σd) (ζ' := up σm 41 0 0) SD.rf ss0
  unfold f_X9_together f_X10_together wr
  dsimp only
  generalize up σm 41 0 0 = ζ at *
  rw [has_t h1.1.1.1 h1.1.1.2.1 ha1, Option.bind_some, isPol_t h1.1 ha1, Option.bind_some]
  by_cases c1 : 0 ≤ a1 ∧ a1 < 24 ∧ F.testBit a1.toNat = true
  · rw [c01_t c1, c01_t c1, has_t h1.1.1.1 h1.1.1.2.1 ha2, Option.bind_some, isPol_t h1.1 ha2, Option.bind_some]
    by_cases c2 : 0 ≤ a2 ∧ a2 < 24 ∧ F.testBit a2.toNat = true
    · rw [c01_t c2, c01_t c2]
      by_cases c3 : w32 a1 = w32 a2
      · rw [if_pos c3, if_pos c3]
        exact ⟨_, _, rfl, rfl, rfl, hs⟩
      · rw [if_neg c3, if_neg c3, dIsRadius_n ha3, Option.bind_some, mIsRadius_n ha3, Option.bind_some]
        by_cases c4 : 1 ≤ a3 ∧ a3 ≤ 300
        · obtain ⟨p, hpe⟩ : ∃ p : Nat, a1 = (p : Int) := ⟨a1.toNat, by omega⟩
          obtain ⟨q, hqe⟩ : ∃ q : Nat, a2 = (q : Int) := ⟨a2.toNat, by omega⟩
          subst hpe
          subst hqe
          rw [c01_t c4, c01_t c4, between_n (by omega) (by omega), Option.bind_some, dist_n (by omega) (by omega), Option.bind_some, h1.1.d2 (by omega) (by omega)]
          by_cases c5 : w32 (d2 (ζ 45) (ζ 46) p q) ≤ w32 (4 * a3 * a3)
          · rw [if_pos c5, if_pos c5]
            exact ⟨_, _, rfl, rfl, rfl, hs⟩
          · rw [if_neg c5, if_neg c5]
            exact ⟨_, _, rfl, rfl, rfl, hs⟩
        · rw [c01_f c4, c01_f c4]
          exact ⟨_, _, rfl, rfl, rfl, hs⟩
    · rw [c01_f c2, c01_f c2]
      exact ⟨_, _, rfl, rfl, rfl, hs⟩
  · rw [c01_f c1, c01_f c1]
    exact ⟨_, _, rfl, rfl, rfl, hs⟩
theorem Eq_nearest_n : Eq_nearest Rl := by
  intro n σd σm a1 hn hR ha1
  obtain ⟨F, N, h⟩ := hR
  have h : Rn n σd σm F N := h
  have h1 := h.m0
  have hs := h.ask (z' := σd) (ζ' := up σm 41 0 0) SD.rf ss0
  unfold f_X9_nearest f_X10_nearest wr
  dsimp only
  generalize up σm 41 0 0 = ζ at *
  rw [has_t h1.1.1.1 h1.1.1.2.1 ha1, Option.bind_some, isPol_t h1.1 ha1, Option.bind_some]
  by_cases c1 : 0 ≤ a1 ∧ a1 < 24 ∧ F.testBit a1.toNat = true
  · obtain ⟨p, hpe⟩ : ∃ p : Nat, a1 = (p : Int) := ⟨a1.toNat, by omega⟩
    subst hpe
    rw [c01_t c1, c01_t c1]
    refine loop_two (F := fun n i (a : Int × Int) => f_X9_nearest_b21 σd n (p : Int) a.1 a.2 i) (G := fun n i (u : Int) => f_X10_nearest_b20 n (p : Int) u i ζ) 24 (fun i a u => a.1 = u ∧ ((u = -2) ∨ ∃ k : Nat, k < i ∧ u = (k : Int) ∧ a.2 = d2 (ζ 45) (ζ 46) p k)) (P := fun x y => ∃ q q', x = some q ∧ y = some q' ∧ w32 q = w32 q'.1 ∧ Rl (n + 1) σd q'.2) (by decide) ?_ ?_ 0 (by decide) (-2, 0) (-2) ⟨rfl, Or.inl rfl⟩
    · intro n' m i a u hi hI
      obtain ⟨j1, j2⟩ := hI
      right
      have h49 := (h1.1.1.2.2 i hi).1
      rw [f_X9_nearest_b21, f_X10_nearest_b20, w32_n (by omega), if_pos (show (i : Int) < 24 by omega), if_pos (show (i : Int) < 24 by omega), ck_t (by omega), ntn, has_t h1.1.1.1 h1.1.1.2.1 ⟨by omega, by omega⟩, Option.bind_some, h49, ntn, j1]
      have keep : ((u = -2) ∨ ∃ k : Nat, k < i + 1 ∧ u = (k : Int) ∧ a.2 = d2 (ζ 45) (ζ 46) p k) := j2.imp id (fun ⟨k, q1, q2⟩ => ⟨k, by omega, q2⟩)
      by_cases c2 : (i : Int) = w32 (p : Int)
      · rw [if_pos c2, if_pos c2]
        cases hb : F.testBit i with
        | false =>
          rw [b01_f rfl]
          exact ⟨(u, a.2), u, ⟨rfl, keep⟩, rfl, rfl⟩
        | true =>
          rw [b01_t rfl]
          exact ⟨(u, a.2), u, ⟨rfl, keep⟩, rfl, rfl⟩
      · rw [if_neg c2, if_neg c2]
        cases hb : F.testBit i with
        | false =>
          rw [b01_f rfl, c01_f (fun q => by cases q.2.2)]
          exact ⟨(u, a.2), u, ⟨rfl, keep⟩, rfl, rfl⟩
        | true =>
          rw [b01_t rfl, c01_t ⟨by omega, by omega, rfl⟩, between_n (by omega) hi, Option.bind_some, h1.1.d2 (by omega) hi]
          rcases j2 with j2 | ⟨k, hk, j2, j3⟩
          · rw [if_pos (show w32 u = -2 by rw [j2]; decide), if_pos (show w32 u < 0 by rw [j2]; decide)]
            exact ⟨((i : Int), d2 (ζ 45) (ζ 46) p i), (i : Int), ⟨rfl, Or.inr ⟨i, by omega, rfl, rfl⟩⟩, rfl, rfl⟩
          · have hw : w32 u = (k : Int) := by rw [j2, w32_n (by omega)]
            rw [if_neg (show ¬ w32 u < 0 by omega), if_neg (show ¬ w32 u = -2 by omega), dist_n (by omega) (by omega), Option.bind_some, j2, dist_n (by omega) (by omega), Option.bind_some, j3]
            by_cases c3 : w32 (d2 (ζ 45) (ζ 46) p i) < w32 (d2 (ζ 45) (ζ 46) p k)
            · rw [if_pos c3, if_pos c3]
              exact ⟨((i : Int), d2 (ζ 45) (ζ 46) p i), (i : Int), ⟨rfl, Or.inr ⟨i, by omega, rfl, rfl⟩⟩, rfl, rfl⟩
            · rw [if_neg c3, if_neg c3]
              exact ⟨((k : Int), d2 (ζ 45) (ζ 46) p k), (k : Int), ⟨rfl, Or.inr ⟨k, by omega, rfl, rfl⟩⟩, rfl, rfl⟩
    · intro n' m a u hI
      rw [f_X9_nearest_b21, f_X10_nearest_b20, w32_n (by decide), if_neg (show ¬ ((24 : Nat) : Int) < 24 by decide), if_neg (show ¬ ((24 : Nat) : Int) < 24 by decide), hI.1]
      exact ⟨_, _, rfl, rfl, rfl, hs⟩
  · rw [c01_f c1, c01_f c1]
    exact ⟨_, _, rfl, rfl, rfl, hs⟩
