/-! ===== pure level: fewest, the reference's side ===== -/
theorem loop_P {α St : Type} {F : Nat → Int → St → Option α} (N : Nat) (I : Nat → St → Prop) {P : Option α → Prop} (hN : N < 900000)
    (hs : ∀ n i s, i < N → I i s → P (F (n + 1) (i : Int) s) ∨ ∃ s', I (i + 1) s' ∧ F (n + 1) (i : Int) s = F n ((i : Int) + 1) s')
    (hx : ∀ n s, I N s → P (F (n + 1) (N : Int) s)) (i : Nat) (hi : i ≤ N) (s : St) (h : I i s) : P (F FUEL (i : Int) s) :=
  loop_two (F := F) (G := fun _ _ (_ : Unit) => some ()) N (fun i s _ => I i s) (P := fun x _ => P x) hN (fun n _ i s _ hi h => (hs n i s hi h).imp id (fun ⟨s', a, b⟩ => ⟨s', (), a, b, rfl⟩)) (fun n _ s _ h => hx n s h) i hi s () h
theorem passedBy_n {z ζ ζ1 : Sg} {F t s : Nat} (ht : t < 6) (h : RelB z ζ F) (hD : TrD z ζ t) (s1 : SS ζ ζ1) (hs : s < 16777216) :
    ∃ (v : Int) (ζ2 : Sg), f_X10_isPassedBy (t : Int) (s : Int) ζ1 = some (v, ζ2) ∧ SS ζ ζ2 ∧ ζ2 41 36 = (hvS (ζ 45) (ζ 46) (ζ 47) (ζ 51 t) none s).1 ∧ ζ2 41 37 = (hvS (ζ 45) (ζ 46) (ζ 47) (ζ 51 t) none s).2 ∧ ((v = 1 ∧ ζ 52 t < (hvS (ζ 45) (ζ 46) (ζ 47) (ζ 51 t) none s).1) ∨ (v = 0 ∧ ¬ ζ 52 t < (hvS (ζ 45) (ζ 46) (ζ 47) (ζ 51 t) none s).1)) := by
  have hlim := hD.2.1.2.2
  have hck : 0 ≤ ((t : Nat) : Int) ∧ ((t : Nat) : Int) < 6 := by omega
  obtain ⟨ζ2, x1, x2, x3, x4, x5, x6⟩ := weighs_r (s := s) (R := ζ 51 t) (h.ss s1) hs (by have := hD.2.1.2.1; omega)
  have s2 := s1.tr x2.ss
  have ehv : hvS (ζ1 45) (ζ1 46) (ζ1 47) (ζ 51 t) none s = hvS (ζ 45) (ζ 46) (ζ 47) (ζ 51 t) none s := hvS_cg fun q hq => by
    have hq := bit_lt hs hq
    exact ⟨s1 45 q (by unfold Scm; omega), s1 46 q (by unfold Scm; omega), s1 47 q (by unfold Scm; omega)⟩
  rw [ehv] at x3 x4
  have e52 : ζ2 52 ((t : Nat) : Int).toNat = ζ 52 t := by
    rw [show ((t : Nat) : Int).toNat = t from Int.toNat_natCast t, s2.r49 (k := 52) (by omega)]
  have e : f_X10_isPassedBy (t : Int) (s : Int) ζ1 = if (hvS (ζ 45) (ζ 46) (ζ 47) (ζ 51 t) none s).1 ≤ ζ 52 t then some (0, ζ2) else some (1, ζ2) := by
    unfold f_X10_isPassedBy
    rw [ck_t hck, show ((t : Nat) : Int).toNat = t from Int.toNat_natCast t, s1.r49 (k := 51) (by omega), x1, Option.bind_some, ck_t hck]
    rw [show ((t : Nat) : Int).toNat = t from Int.toNat_natCast t] at e52
    rw [e52, w32_eq x5, x3, w32_eq (z := ζ 52 t) ⟨by omega, by omega⟩]
  by_cases c : (hvS (ζ 45) (ζ 46) (ζ 47) (ζ 51 t) none s).1 ≤ ζ 52 t
  · rw [if_pos c] at e
    exact ⟨0, ζ2, e, s2, x3, x4, Or.inr ⟨rfl, by omega⟩⟩
  · rw [if_neg c] at e
    exact ⟨1, ζ2, e, s2, x3, x4, Or.inl ⟨rfl, by omega⟩⟩
theorem greatest_n {ζ : Sg} {o : Nat} {but : Int} (ol : o < 16777216) (hb : InR but) (hS : ∀ p, p < 24 → 0 ≤ ζ 47 p ∧ ζ 47 p ≤ 99999) :
    ∃ k : Int, f_X10_greatestOf (o : Int) but ζ = some k ∧ ((k = -1 ∧ ∀ p, p < 24 → o.testBit p = true → (p : Int) = but) ∨ ∃ b : Nat, k = (b : Int) ∧ b < 24 ∧ o.testBit b = true ∧ (b : Int) ≠ but ∧ ∀ p, p < 24 → o.testBit p = true → (p : Int) ≠ but → ζ 47 p ≤ ζ 47 b) := by
  unfold f_X10_greatestOf
  refine loop_P (F := fun n i k => f_X10_greatestOf_b5 ζ n (o : Int) but k i) 24 (fun i k => (k = -1 ∧ ∀ p, p < i → o.testBit p = true → (p : Int) = but) ∨ ∃ b : Nat, k = (b : Int) ∧ b < i ∧ o.testBit b = true ∧ (b : Int) ≠ but ∧ ∀ p, p < i → o.testBit p = true → (p : Int) ≠ but → ζ 47 p ≤ ζ 47 b) (P := fun x => ∃ k : Int, x = some k ∧ ((k = -1 ∧ ∀ p, p < 24 → o.testBit p = true → (p : Int) = but) ∨ ∃ b : Nat, k = (b : Int) ∧ b < 24 ∧ o.testBit b = true ∧ (b : Int) ≠ but ∧ ∀ p, p < 24 → o.testBit p = true → (p : Int) ≠ but → ζ 47 p ≤ ζ 47 b)) (by decide) ?_ ?_ 0 (by decide) (-1) (Or.inl ⟨rfl, fun p hp => absurd hp (Nat.not_lt_zero _)⟩)
  · intro n i k hi hI
    right
    have skip : (o.testBit i = true → (i : Int) = but) → ((k = -1 ∧ ∀ p, p < i + 1 → o.testBit p = true → (p : Int) = but) ∨ ∃ b : Nat, k = (b : Int) ∧ b < i + 1 ∧ o.testBit b = true ∧ (b : Int) ≠ but ∧ ∀ p, p < i + 1 → o.testBit p = true → (p : Int) ≠ but → ζ 47 p ≤ ζ 47 b) := fun hs => by
      rcases hI with ⟨h1, h2⟩ | ⟨b, h1, h2, h3, h4, h5⟩
      · refine Or.inl ⟨h1, fun p hp hpb => ?_⟩
        by_cases e : p = i
        · subst e
          exact hs hpb
        · exact h2 p (by omega) hpb
      · refine Or.inr ⟨b, h1, by omega, h3, h4, fun p hp hpb hne => ?_⟩
        by_cases e : p = i
        · subst e
          exact absurd (hs hpb) hne
        · exact h5 p (by omega) hpb hne
    rw [f_X10_greatestOf_b5, w32_n (by omega), if_pos (show (i : Int) < 24 by omega), has_n (by omega) (by omega), Option.bind_some]
    cases hbi : o.testBit i with
    | false =>
      rw [b01_f rfl]
      exact ⟨k, skip (fun q => by rw [hbi] at q; cases q), rfl⟩
    | true =>
      rw [b01_t rfl, w32_eq hb]
      by_cases c1 : (i : Int) = but
      · rw [if_pos c1]
        exact ⟨k, skip (fun _ => c1), rfl⟩
      · rw [if_neg c1]
        rcases hI with ⟨h1, h2⟩ | ⟨b, h1, h2, h3, h4, h5⟩
        · rw [if_pos (show w32 k = -1 by rw [h1]; decide)]
          refine ⟨(i : Int), Or.inr ⟨i, rfl, by omega, hbi, c1, fun p hp hpb hne => ?_⟩, rfl⟩
          by_cases e : p = i
          · rw [e]
            exact Int.le_refl _
          · exact absurd (h2 p (by omega) hpb) hne
        · have hk : w32 k = (b : Int) := by rw [h1, w32_n (by omega)]
          have s1 := hS i hi
          have s2 := hS b (by omega)
          rw [if_neg (show ¬ w32 k = -1 by omega), ck_t (by omega), ck_t (by omega), h1, show ((i : Nat) : Int).toNat = i from Int.toNat_natCast i, show ((b : Nat) : Int).toNat = b from Int.toNat_natCast b, w32_eq (z := ζ 47 i) ⟨by omega, by omega⟩, w32_eq (z := ζ 47 b) ⟨by omega, by omega⟩]
          by_cases c2 : ζ 47 i ≤ ζ 47 b
          · rw [if_pos c2]
            refine ⟨(b : Int), Or.inr ⟨b, rfl, by omega, h3, h4, fun p hp hpb hne => ?_⟩, rfl⟩
            by_cases e : p = i
            · rw [e]
              exact c2
            · exact h5 p (by omega) hpb hne
          · rw [if_neg c2]
            refine ⟨(i : Int), Or.inr ⟨i, rfl, by omega, hbi, c1, fun p hp hpb hne => ?_⟩, rfl⟩
            by_cases e : p = i
            · rw [e]
              exact Int.le_refl _
            · have := h5 p (by omega) hpb hne
              omega
  · intro n k hI
    refine ⟨k, ?_, hI⟩
    rw [f_X10_greatestOf_b5, w32_n (by decide), if_neg (by decide)]
theorem sumb_del {S : Nat → Int} {o p : Nat} (ol : o < 16777216) (hp : o.testBit p = true) : ∀ n, p < n → sumb S (o &&& (2 ^ p ^^^ 4294967295)) n = sumb S o n - S p := by
  have lo : ∀ n, n ≤ p → sumb S (o &&& (2 ^ p ^^^ 4294967295)) n = sumb S o n := fun n hn => sumb_bits fun i hi => by
    rw [tb_clr ol]
    have : (i == p) = false := by simp; omega
    rw [this]
    simp
  intro n
  induction n with
  | zero => intro h; omega
  | succ n ih =>
    intro h
    rw [sumb, sumb, tb_clr ol]
    by_cases e : n = p
    · subst e
      rw [lo n (Nat.le_refl _), hp, if_pos rfl, if_neg (by simp)]
      omega
    · have : (n == p) = false := by simp; omega
      rw [this, ih (by omega), Bool.not_false, Bool.and_true]
      omega
theorem clr_or {M p q : Nat} (hM : M < 16777216) : (M &&& (2 ^ p ^^^ 4294967295)) &&& (2 ^ q ^^^ 4294967295) = M &&& ((2 ^ p ||| 2 ^ q) ^^^ 4294967295) := bits_ext fun i => by
  rw [tb_wo hM, tb_clr (clr_lt hM), tb_clr hM, Nat.testBit_or, tb_pow, tb_pow]
  cases M.testBit i <;> cases i == p <;> cases i == q <;> rfl
theorem byOne_n {z ζ ζ1 : Sg} {F t p : Nat} (ht : t < 6) (hp : p < 24) (h : RelB z ζ F) (hD : TrD z ζ t) (s1 : SS ζ ζ1) (hlt : ζ 52 t < woV ζ t (2 ^ p)) :
    ∃ (v : Int) (ζ2 : Sg), f_X10_isByOneMore (t : Int) ((mbS ζ t &&& (2 ^ p ^^^ 4294967295) : Nat) : Int) ζ1 = some (v, ζ2) ∧ SS ζ ζ2 ∧ ((v = 1 ∧ ∃ q, q < 24 ∧ (mbS ζ t).testBit q = true ∧ ¬ ζ 52 t < woV ζ t (2 ^ p ||| 2 ^ q)) ∨ (v = 0 ∧ ∀ q, q < 24 → (mbS ζ t).testBit q = true → ζ 52 t < woV ζ t (2 ^ p ||| 2 ^ q))) := by
  have hck : 0 ≤ ((t : Nat) : Int) ∧ ((t : Nat) : Int) < 6 := by omega
  have hMl := mbS_24 ζ t
  obtain ⟨o, ol, ev, es, ej, -⟩ := wo_hv (m := 2 ^ p) ht h hD
  have hlt2 : ζ 52 t < sumb (z 9) o 24 := by
    have : woV ζ t (2 ^ p) = sumb (z 9) o 24 := by unfold woV; rw [ev]
    omega
  have hlim := hD.2.1.2.2
  have o0 : o ≠ 0 := fun e => by
    rw [e, sumb_0] at hlt2
    omega
  obtain ⟨j, hj, ej⟩ := ej.resolve_left o0
  have notin : ∀ q, q < 24 → (mbS ζ t).testBit q = true → o.testBit q = false → ζ 52 t < woV ζ t (2 ^ p ||| 2 ^ q) := fun q hq _ hoq => by
    obtain ⟨o2, -, ev2, -, -, mx⟩ := wo_hv (m := 2 ^ p ||| 2 ^ q) ht h hD
    have := mx j o hj (fun i hi => ⟨ej i hi, by
      rw [← clr_or hMl, tb_clr (clr_lt hMl), es i hi]
      have : i ≠ q := fun e => by rw [e, hoq] at hi; cases hi
      simp [this]⟩)
    have e2 : woV ζ t (2 ^ p ||| 2 ^ q) = sumb (z 9) o2 24 := by unfold woV; rw [ev2]
    omega
  obtain ⟨ζ2, x1, x2, x3, x4, x5, x6⟩ := weighs_r (s := mbS ζ t &&& (2 ^ p ^^^ 4294967295)) (R := ζ 51 t) (h.ss s1) (clr_lt hMl) (by have := hD.2.1.2.1; omega)
  have s2 := s1.tr x2.ss
  have ehv : hvS (ζ1 45) (ζ1 46) (ζ1 47) (ζ 51 t) none (mbS ζ t &&& (2 ^ p ^^^ 4294967295)) = hvS (ζ 45) (ζ 46) (ζ 47) (ζ 51 t) none (mbS ζ t &&& (2 ^ p ^^^ 4294967295)) := hvS_cg fun q hq => by
    have hq := bit_lt (clr_lt hMl) hq
    exact ⟨s1 45 q (by unfold Scm; omega), s1 46 q (by unfold Scm; omega), s1 47 q (by unfold Scm; omega)⟩
  rw [ehv, ev] at x4
  unfold f_X10_isByOneMore
  rw [ck_t hck, show ((t : Nat) : Int).toNat = t from Int.toNat_natCast t, s1.r49 (k := 51) (by omega), x1, Option.bind_some, x4]
  have two : ∀ q : Nat, q < 24 → ((((u32 ((mbS ζ t &&& (2 ^ p ^^^ 4294967295) : Nat) : Int)) &&& ((u32 (1 * ((2 ^ (u32 (q : Int) % 32) : Nat) : Int))) ^^^ 4294967295) : Nat) : Int)) = ((mbS ζ t &&& ((2 ^ p ||| 2 ^ q) ^^^ 4294967295) : Nat) : Int) := fun q hq => by
    rw [one_shl (by omega), u32_nat (pow_lt (by omega)), u32_nat (by have := clr_lt (p := p) hMl; omega), clr_or hMl]
  refine loop_P (F := fun n i ζ' => f_X10_isByOneMore_b20 n (t : Int) ((mbS ζ t &&& (2 ^ p ^^^ 4294967295) : Nat) : Int) (o : Int) i ζ') 24 (fun i ζ' => SS ζ ζ' ∧ ∀ q, q < i → o.testBit q = true → ζ 52 t < woV ζ t (2 ^ p ||| 2 ^ q)) (P := fun x => ∃ (v : Int) (ζ2 : Sg), x = some (v, ζ2) ∧ SS ζ ζ2 ∧ ((v = 1 ∧ ∃ q, q < 24 ∧ (mbS ζ t).testBit q = true ∧ ¬ ζ 52 t < woV ζ t (2 ^ p ||| 2 ^ q)) ∨ (v = 0 ∧ ∀ q, q < 24 → (mbS ζ t).testBit q = true → ζ 52 t < woV ζ t (2 ^ p ||| 2 ^ q)))) (by decide) ?_ ?_ 0 (by decide) ζ2 ⟨s2, fun q hq => absurd hq (Nat.not_lt_zero _)⟩
  · intro n i ζ' hi hI
    obtain ⟨s', hI⟩ := hI
    rw [f_X10_isByOneMore_b20, w32_n (by omega), if_pos (show (i : Int) < 24 by omega), has_n (by omega) (by omega), Option.bind_some]
    cases hb : o.testBit i with
    | false =>
      right
      rw [b01_f rfl]
      refine ⟨ζ', ⟨s', fun q hq hqb => ?_⟩, rfl⟩
      by_cases e : q = i
      · rw [e, hb] at hqb
        cases hqb
      · exact hI q (by omega) hqb
    | true =>
      obtain ⟨v, ζ3, e3, s3, -, -, hv⟩ := passedBy_n (s := mbS ζ t &&& ((2 ^ p ||| 2 ^ i) ^^^ 4294967295)) ht h hD s' (Nat.lt_of_le_of_lt Nat.and_le_left hMl)
      have hmi : (mbS ζ t).testBit i = true := by
        have := es i hb
        rw [Nat.testBit_and, Bool.and_eq_true] at this
        exact this.1
      rw [b01_t rfl, two i hi, e3, Option.bind_some]
      rcases hv with ⟨rfl, hv⟩ | ⟨rfl, hv⟩
      · right
        dsimp only
        rw [w32_1, if_neg (by decide)]
        refine ⟨ζ3, ⟨s3, fun q hq hqb => ?_⟩, rfl⟩
        by_cases e : q = i
        · rw [e]
          exact hv
        · exact hI q (by omega) hqb
      · left
        dsimp only
        rw [w32_0, if_pos rfl]
        exact ⟨1, ζ3, rfl, s3, Or.inl ⟨rfl, i, hi, hmi, hv⟩⟩
  · intro n ζ' hI
    obtain ⟨s', hI⟩ := hI
    rw [f_X10_isByOneMore_b20, w32_n (by decide), if_neg (show ¬ ((24 : Nat) : Int) < 24 by decide)]
    refine ⟨0, ζ', rfl, s', Or.inr ⟨rfl, fun q hq hqb => ?_⟩⟩
    cases hoq : o.testBit q with
    | true => exact hI q hq hoq
    | false => exact notin q hq hqb hoq
theorem mFew2_n {z ζ ζ1 : Sg} {F t o : Nat} (ht : t < 6) (h : RelB z ζ F) (hD : TrD z ζ t) (s1 : SS ζ ζ1) (ol : o < 16777216) (hall : ∀ p, p < 24 → o.testBit p = true → ζ 52 t < woV ζ t (2 ^ p)) :
    ∃ (v : Int) (ζ2 : Sg), f_X10_fewest_b158 (t : Int) ((mbS ζ t : Nat) : Int) (o : Int) ζ1 = some (v, ζ2) ∧ SS ζ ζ2 ∧ ((v = 2 ∧ ∃ p, p < 24 ∧ o.testBit p = true ∧ ∃ q, q < 24 ∧ (mbS ζ t).testBit q = true ∧ ¬ ζ 52 t < woV ζ t (2 ^ p ||| 2 ^ q)) ∨ (v = -2 ∧ ∀ p, p < 24 → o.testBit p = true → ∀ q, q < 24 → (mbS ζ t).testBit q = true → ζ 52 t < woV ζ t (2 ^ p ||| 2 ^ q))) := by
  have hMl := mbS_24 ζ t
  unfold f_X10_fewest_b158
  refine loop_P (F := fun n i ζ' => f_X10_fewest_b161 n (t : Int) ((mbS ζ t : Nat) : Int) (o : Int) i ζ') 24 (fun i ζ' => SS ζ ζ' ∧ ∀ p, p < i → o.testBit p = true → ∀ q, q < 24 → (mbS ζ t).testBit q = true → ζ 52 t < woV ζ t (2 ^ p ||| 2 ^ q)) (P := fun x => ∃ (v : Int) (ζ2 : Sg), x = some (v, ζ2) ∧ SS ζ ζ2 ∧ ((v = 2 ∧ ∃ p, p < 24 ∧ o.testBit p = true ∧ ∃ q, q < 24 ∧ (mbS ζ t).testBit q = true ∧ ¬ ζ 52 t < woV ζ t (2 ^ p ||| 2 ^ q)) ∨ (v = -2 ∧ ∀ p, p < 24 → o.testBit p = true → ∀ q, q < 24 → (mbS ζ t).testBit q = true → ζ 52 t < woV ζ t (2 ^ p ||| 2 ^ q)))) (by decide) ?_ ?_ 0 (by decide) ζ1 ⟨s1, fun p hp => absurd hp (Nat.not_lt_zero _)⟩
  · intro n i ζ' hi hI
    obtain ⟨s', hI⟩ := hI
    rw [f_X10_fewest_b161, w32_n (by omega), if_pos (show (i : Int) < 24 by omega), has_n (by omega) (by omega), Option.bind_some]
    cases hb : o.testBit i with
    | false =>
      right
      rw [b01_f rfl]
      refine ⟨ζ', ⟨s', fun p hp hpb => ?_⟩, rfl⟩
      by_cases e : p = i
      · rw [e, hb] at hpb
        cases hpb
      · exact hI p (by omega) hpb
    | true =>
      obtain ⟨v, ζ3, e3, s3, hv⟩ := byOne_n (p := i) ht hi h hD s' (hall i hi hb)
      rw [b01_t rfl, one_shl (by omega), u32_nat (pow_lt (by omega)), u32_nat (by omega), e3, Option.bind_some]
      rcases hv with ⟨rfl, hv⟩ | ⟨rfl, hv⟩
      · left
        dsimp only
        rw [w32_1, if_neg (by decide)]
        exact ⟨2, ζ3, rfl, s3, Or.inl ⟨rfl, i, hi, hb, hv⟩⟩
      · right
        dsimp only
        rw [w32_0, if_pos rfl]
        refine ⟨ζ3, ⟨s3, fun p hp hpb => ?_⟩, rfl⟩
        by_cases e : p = i
        · rw [e]
          exact hv
        · exact hI p (by omega) hpb
  · intro n ζ' hI
    rw [f_X10_fewest_b161, w32_n (by decide), if_neg (show ¬ ((24 : Nat) : Int) < 24 by decide)]
    exact ⟨-2, ζ', rfl, hI.1, Or.inr ⟨rfl, hI.2⟩⟩
theorem mFew1_n {z ζ ζ1 : Sg} {F t o : Nat} {its a b : Int} (ht : t < 6) (h : RelB z ζ F) (hD : TrD z ζ t) (s1 : SS ζ ζ1) (ol : o < 16777216) :
    ∃ ζ2 : Sg, SS ζ ζ2 ∧ ((f_X10_fewest_b82 FUEL (t : Int) ((mbS ζ t : Nat) : Int) (o : Int) its a b 0 ζ1 = some (1, ζ2) ∧ ∃ p, p < 24 ∧ o.testBit p = true ∧ ¬ ζ 52 t < woV ζ t (2 ^ p)) ∨ (f_X10_fewest_b82 FUEL (t : Int) ((mbS ζ t : Nat) : Int) (o : Int) its a b 0 ζ1 = f_X10_fewest_b122 (t : Int) ((mbS ζ t : Nat) : Int) (o : Int) its a b ζ2 ∧ ∀ p, p < 24 → o.testBit p = true → ζ 52 t < woV ζ t (2 ^ p))) := by
  have hMl := mbS_24 ζ t
  refine loop_P (F := fun n i ζ' => f_X10_fewest_b82 n (t : Int) ((mbS ζ t : Nat) : Int) (o : Int) its a b i ζ') 24 (fun i ζ' => SS ζ ζ' ∧ ∀ p, p < i → o.testBit p = true → ζ 52 t < woV ζ t (2 ^ p)) (P := fun x => ∃ ζ2 : Sg, SS ζ ζ2 ∧ ((x = some (1, ζ2) ∧ ∃ p, p < 24 ∧ o.testBit p = true ∧ ¬ ζ 52 t < woV ζ t (2 ^ p)) ∨ (x = f_X10_fewest_b122 (t : Int) ((mbS ζ t : Nat) : Int) (o : Int) its a b ζ2 ∧ ∀ p, p < 24 → o.testBit p = true → ζ 52 t < woV ζ t (2 ^ p)))) (by decide) ?_ ?_ 0 (by decide) ζ1 ⟨s1, fun p hp => absurd hp (Nat.not_lt_zero _)⟩
  · intro n i ζ' hi hI
    obtain ⟨s', hI⟩ := hI
    rw [f_X10_fewest_b82, w32_n (by omega), if_pos (show (i : Int) < 24 by omega), has_n (by omega) (by omega), Option.bind_some]
    cases hb : o.testBit i with
    | false =>
      right
      rw [b01_f rfl]
      refine ⟨ζ', ⟨s', fun p hp hpb => ?_⟩, rfl⟩
      by_cases e : p = i
      · rw [e, hb] at hpb
        cases hpb
      · exact hI p (by omega) hpb
    | true =>
      obtain ⟨v, ζ3, e3, s3, -, -, hv⟩ := passedBy_n (s := mbS ζ t &&& (2 ^ i ^^^ 4294967295)) ht h hD s' (clr_lt hMl)
      rw [b01_t rfl, one_shl (by omega), u32_nat (pow_lt (by omega)), u32_nat (by omega), e3, Option.bind_some]
      rcases hv with ⟨rfl, hv⟩ | ⟨rfl, hv⟩
      · right
        dsimp only
        rw [w32_1, if_neg (by decide)]
        refine ⟨ζ3, ⟨s3, fun p hp hpb => ?_⟩, rfl⟩
        by_cases e : p = i
        · rw [e]
          exact hv
        · exact hI p (by omega) hpb
      · left
        dsimp only
        rw [w32_0, if_pos rfl]
        exact ⟨ζ3, s3, Or.inl ⟨rfl, i, hi, hb, hv⟩⟩
  · intro n ζ' hI
    rw [f_X10_fewest_b82, w32_n (by decide), if_neg (show ¬ ((24 : Nat) : Int) < 24 by decide)]
    exact ⟨ζ', hI.1, Or.inr ⟨rfl, hI.2⟩⟩
