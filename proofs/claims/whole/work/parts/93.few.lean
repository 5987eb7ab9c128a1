/-! ===== pure level: fewest ===== -/
theorem tb_wo {M m q : Nat} (hM : M < 16777216) : (M &&& (m ^^^ 4294967295)).testBit q = (M.testBit q && !(m.testBit q)) := by
  rw [Nat.testBit_and, Nat.testBit_xor, show (4294967295 : Nat) = 2 ^ 32 - 1 from rfl, Nat.testBit_two_pow_sub_one]
  by_cases hq : q < 24
  · rw [decide_eq_true (by omega)]
    cases m.testBit q <;> simp
  · rw [tb_24 hM (by omega)]
    simp
/-- the heaviest without some: whose it is, and what it weighs at least -/
theorem wo_hv {z ζ : Sg} {F t m : Nat} (ht : t < 6) (h : RelB z ζ F) (hD : TrD z ζ t) :
    ∃ o : Nat, o < 16777216 ∧ hvS (ζ 45) (ζ 46) (ζ 47) (ζ 51 t) none (mbS ζ t &&& (m ^^^ 4294967295)) = (sumb (z 9) o 24, (o : Int)) ∧ (∀ q, o.testBit q = true → (mbS ζ t &&& (m ^^^ 4294967295)).testBit q = true) ∧ (o = 0 ∨ ∃ j, j < 576 ∧ ∀ q, o.testBit q = true → (esN (z 7) (z 8) (ζ 51 t) (mbS ζ t) j).testBit q = true) ∧
    ∀ j o', j < 576 → (∀ q, o'.testBit q = true → (esN (z 7) (z 8) (ζ 51 t) (mbS ζ t) j).testBit q = true ∧ (mbS ζ t &&& (m ^^^ 4294967295)).testBit q = true) → sumb (z 9) o' 24 ≤ sumb (z 9) o 24 := by
  have e1 : mbS ζ t &&& (16777215 &&& (m ^^^ 4294967295)) = mbS ζ t &&& (m ^^^ 4294967295) := by rw [← Nat.and_assoc, and_all (mbS_24 ζ t)]
  obtain ⟨o, e, ol, ev, es, hI⟩ := heav_hv (s := 16777215 &&& (m ^^^ 4294967295)) (d := t) (by omega) (Nat.lt_of_le_of_lt Nat.and_le_left (by decide)) (mbS_24 ζ t) (sqR hD.2.1.2.1) hD.2.2 h.2 h.s1
  rw [e1] at ev es hI
  rw [h.hv (fun q hq => by rw [Nat.testBit_and, Bool.and_eq_true] at hq; exact (mbS_F h hq.1).1)] at ev
  have pos : ∀ q, o.testBit q = true → 0 < z 9 q := fun q hq => by
    have := es q hq
    rw [Nat.testBit_and, Bool.and_eq_true] at this
    have := h.s1 q this.1
    omega
  refine ⟨o, ol, ev, es, ?_, fun j o' hj ho' => ?_⟩
  · rcases hI with ⟨h0, -⟩ | ⟨-, ⟨j, hj, h2⟩, -⟩
    · exact Or.inl h0
    · right
      refine ⟨j, hj, fun q hq => ?_⟩
      have h2 : o = esN (z 7) (z 8) (ζ 51 t) (mbS ζ t) j &&& (mbS ζ t &&& (m ^^^ 4294967295)) := h2
      rw [h2, Nat.testBit_and, Bool.and_eq_true] at hq
      exact hq.1
  · have sub : ∀ q, o'.testBit q = true → (esN (z 7) (z 8) (ζ 51 t) (mbS ζ t) j &&& (mbS ζ t &&& (m ^^^ 4294967295))).testBit q = true := fun q hq => by
      rw [Nat.testBit_and, (ho' q hq).1, (ho' q hq).2]
      rfl
    have le1 : sumb (z 9) o' 24 ≤ sumb (z 9) (esN (z 7) (z 8) (ζ 51 t) (mbS ζ t) j &&& (mbS ζ t &&& (m ^^^ 4294967295))) 24 := sumb_mono (fun q _ hq => sub q hq) (fun q _ hq => by
      rw [Nat.testBit_and, Bool.and_eq_true, Nat.testBit_and, Bool.and_eq_true] at hq
      have := h.s1 q hq.2.1
      omega)
    have bo := h.sin (s := o)
    rcases hI with ⟨h0, h1⟩ | ⟨h0, -, h1⟩
    · have e0 : esN (z 7) (z 8) (ζ 51 t) (mbS ζ t) j &&& (mbS ζ t &&& (m ^^^ 4294967295)) = 0 := h1 j hj
      rw [e0, sumb_0] at le1
      omega
    · by_cases e0 : esN (z 7) (z 8) (ζ 51 t) (mbS ζ t) j &&& (mbS ζ t &&& (m ^^^ 4294967295)) = 0
      · rw [e0, sumb_0] at le1
        omega
      · have := h1 j hj e0
        dsimp only at this
        omega
theorem stays_n {z ζ : Sg} {F t m : Nat} (ht : t < 6) (h : RelB z ζ F) (hD : TrD z ζ t) (hm : m < 16777216) : f_X8_staysPassed t (m : Int) z = some (if ζ 52 t < woV ζ t m then 1 else 0) := by
  have e1 : mbS ζ t &&& (16777215 &&& (m ^^^ 4294967295)) = mbS ζ t &&& (m ^^^ 4294967295) := by rw [← Nat.and_assoc, and_all (mbS_24 ζ t)]
  have hlim := hD.2.1.2.2
  have := hasMore_n (s := 16777215 &&& (m ^^^ 4294967295)) (d := t) (lim := ζ 52 t) (by omega) (Nat.lt_of_le_of_lt Nat.and_le_left (by decide)) (mbS_24 ζ t) (sqR hD.2.1.2.1) ⟨by omega, by omega⟩ hD.2.2 h.2 h.s1
  rw [e1, h.hv (fun q hq => by rw [Nat.testBit_and, Bool.and_eq_true] at hq; exact (mbS_F h hq.1).1)] at this
  unfold f_X8_staysPassed
  rw [ck_t ht, u32_nat (by omega), hD.1.2.2, this, Option.bind_some]
  show ck _ (some (if ζ 52 t < woV ζ t m then 1 else 0)) = _
  by_cases c : ζ 52 t < woV ζ t m
  · have c' : ζ 52 t < (hvS (ζ 45) (ζ 46) (ζ 47) (ζ 51 t) none (mbS ζ t &&& (m ^^^ 4294967295))).1 := c
    rw [if_pos c']
    exact ck_t (Or.inr rfl)
  · have c' : ¬ ζ 52 t < (hvS (ζ 45) (ζ 46) (ζ 47) (ζ 51 t) none (mbS ζ t &&& (m ^^^ 4294967295))).1 := c
    rw [if_neg c']
    exact ck_t (Or.inl rfl)
theorem freed_n {z ζ : Sg} {F t p : Nat} (ht : t < 6) (hp : p < 24) (h : RelB z ζ F) (hD : TrD z ζ t) :
    ∃ v : Int, f_X8_isFreedWith t (p : Int) z = some v ∧ ((v = 1 ∧ ∃ q, q < 24 ∧ (mbS ζ t).testBit q = true ∧ ¬ ζ 52 t < woV ζ t (2 ^ p ||| 2 ^ q)) ∨ (v = 0 ∧ ∀ q, q < 24 → (mbS ζ t).testBit q = true → ζ 52 t < woV ζ t (2 ^ p ||| 2 ^ q))) := by
  have step : ∀ n (i : Nat), i < 24 → f_X8_isFreedWith_b2 t z (n + 1) (p : Int) (i : Int) = if (mbS ζ t).testBit i = true ∧ ¬ ζ 52 t < woV ζ t (2 ^ p ||| 2 ^ i) then some 1 else f_X8_isFreedWith_b2 t z n (p : Int) ((i : Int) + 1) := fun n i hi => by
    rw [f_X8_isFreedWith_b2, w32_n (by omega), if_pos (by omega), hD.2.2.2.1, contains_n (by have := mbS_24 ζ t; omega) (by omega), Option.bind_some]
    cases hb : (mbS ζ t).testBit i with
    | false =>
      rw [b01_f rfl, if_neg (fun a => by cases a.1)]
      rfl
    | true =>
      rw [b01_t rfl, one_shl (by omega), one_shl (by omega), or_n (by have := pow_24 hp; omega) (by have := pow_24 hi; omega), stays_n ht h hD (or_lt24 (pow_24 hp) (pow_24 hi)), Option.bind_some]
      by_cases c : ζ 52 t < woV ζ t (2 ^ p ||| 2 ^ i)
      · rw [c01_t c, if_neg (fun a => a.2 c)]
        rfl
      · rw [c01_f c, if_pos ⟨rfl, c⟩]
  unfold f_X8_isFreedWith
  rw [ck_t ht]
  by_cases hE : ∃ q, q < 24 ∧ (mbS ζ t).testBit q = true ∧ ¬ ζ 52 t < woV ζ t (2 ^ p ||| 2 ^ q)
  · refine ⟨1, ?_, Or.inl ⟨rfl, hE⟩⟩
    refine loop_at (St := Unit) (F := fun n i _ => f_X8_isFreedWith_b2 t z n (p : Int) i) 24 (fun i _ => ∀ q, q < i → ¬ ((mbS ζ t).testBit q = true ∧ ¬ ζ 52 t < woV ζ t (2 ^ p ||| 2 ^ q))) (by decide) ?_ ?_ 0 (by decide) () (fun q hq => absurd hq (Nat.not_lt_zero _))
    · intro n i _ hi hI
      show f_X8_isFreedWith_b2 t z (n + 1) (p : Int) (i : Int) = _ ∨ ∃ s', _ ∧ f_X8_isFreedWith_b2 t z (n + 1) (p : Int) (i : Int) = f_X8_isFreedWith_b2 t z n (p : Int) ((i : Int) + 1)
      rw [step n i hi]
      by_cases c : (mbS ζ t).testBit i = true ∧ ¬ ζ 52 t < woV ζ t (2 ^ p ||| 2 ^ i)
      · left
        rw [if_pos c]
      · right
        rw [if_neg c]
        refine ⟨(), fun q hq => ?_, rfl⟩
        by_cases e : q = i
        · rw [e]
          exact c
        · exact hI q (by omega)
    · intro n _ hI
      obtain ⟨q, q1, q2, q3⟩ := hE
      exact absurd ⟨q2, q3⟩ (hI q q1)
  · have hE2 : ∀ q, q < 24 → (mbS ζ t).testBit q = true → ζ 52 t < woV ζ t (2 ^ p ||| 2 ^ q) := fun q q1 q2 => Classical.byContradiction fun q3 => hE ⟨q, q1, q2, q3⟩
    refine ⟨0, ?_, Or.inr ⟨rfl, hE2⟩⟩
    refine loop_at (St := Unit) (F := fun n i _ => f_X8_isFreedWith_b2 t z n (p : Int) i) 24 (fun i _ => True) (by decide) ?_ ?_ 0 (by decide) () trivial
    · intro n i _ hi hI
      right
      refine ⟨(), trivial, ?_⟩
      show f_X8_isFreedWith_b2 t z (n + 1) (p : Int) (i : Int) = f_X8_isFreedWith_b2 t z n (p : Int) ((i : Int) + 1)
      rw [step n i hi, if_neg (fun a => a.2 (hE2 i hi a.1))]
    · intro n _ _
      show f_X8_isFreedWith_b2 t z (n + 1) (p : Int) ((24 : Nat) : Int) = _
      rw [f_X8_isFreedWith_b2, w32_n (by decide), if_neg (by decide)]
theorem dFew1_n {z ζ : Sg} {F t o : Nat} (ht : t < 6) (h : RelB z ζ F) (hD : TrD z ζ t) (ol : o < 16777216) (z5 : z (21 + t) 5 = (o : Int)) :
    ((∃ p, p < 24 ∧ o.testBit p = true ∧ ¬ ζ 52 t < woV ζ t (2 ^ p)) → f_X9_fewest_b23 z FUEL t 0 = some 1) ∧ ((∀ p, p < 24 → o.testBit p = true → ζ 52 t < woV ζ t (2 ^ p)) → f_X9_fewest_b23 z FUEL t 0 = f_X9_fewest_b58 z t) := by
  have step : ∀ n (i : Nat), i < 24 → f_X9_fewest_b23 z (n + 1) t (i : Int) = if o.testBit i = true ∧ ¬ ζ 52 t < woV ζ t (2 ^ i) then some 1 else f_X9_fewest_b23 z n t ((i : Int) + 1) := fun n i hi => by
    rw [f_X9_fewest_b23, w32_n (by omega), if_pos (by omega), z5, contains_n (by omega) (by omega), Option.bind_some]
    cases hb : o.testBit i with
    | false =>
      rw [b01_f rfl, if_neg (fun a => by cases a.1)]
      rfl
    | true =>
      rw [b01_t rfl, one_shl (by omega), stays_n ht h hD (pow_24 hi), Option.bind_some]
      by_cases c : ζ 52 t < woV ζ t (2 ^ i)
      · rw [c01_t c, if_neg (fun a => a.2 c)]
        rfl
      · rw [c01_f c, if_pos ⟨rfl, c⟩]
  constructor
  · intro hE
    refine loop_at (St := Unit) (F := fun n i _ => f_X9_fewest_b23 z n t i) 24 (fun i _ => ∀ q, q < i → ¬ (o.testBit q = true ∧ ¬ ζ 52 t < woV ζ t (2 ^ q))) (by decide) ?_ ?_ 0 (by decide) () (fun q hq => absurd hq (Nat.not_lt_zero _))
    · intro n i _ hi hI
      show f_X9_fewest_b23 z (n + 1) t (i : Int) = _ ∨ ∃ s', _ ∧ f_X9_fewest_b23 z (n + 1) t (i : Int) = f_X9_fewest_b23 z n t ((i : Int) + 1)
      rw [step n i hi]
      by_cases c : o.testBit i = true ∧ ¬ ζ 52 t < woV ζ t (2 ^ i)
      · left
        rw [if_pos c]
      · right
        rw [if_neg c]
        refine ⟨(), fun q hq => ?_, rfl⟩
        by_cases e : q = i
        · rw [e]
          exact c
        · exact hI q (by omega)
    · intro n _ hI
      obtain ⟨q, q1, q2, q3⟩ := hE
      exact absurd ⟨q2, q3⟩ (hI q q1)
  · intro hE
    refine loop_at (St := Unit) (F := fun n i _ => f_X9_fewest_b23 z n t i) 24 (fun i _ => True) (by decide) ?_ ?_ 0 (by decide) () trivial
    · intro n i _ hi hI
      right
      refine ⟨(), trivial, ?_⟩
      show f_X9_fewest_b23 z (n + 1) t (i : Int) = f_X9_fewest_b23 z n t ((i : Int) + 1)
      rw [step n i hi, if_neg (fun a => a.2 (hE i hi a.1))]
    · intro n _ _
      show f_X9_fewest_b23 z (n + 1) t ((24 : Nat) : Int) = _
      rw [f_X9_fewest_b23, w32_n (by decide), if_neg (by decide)]
theorem dFew2_n {z ζ : Sg} {F t o : Nat} (ht : t < 6) (h : RelB z ζ F) (hD : TrD z ζ t) (ol : o < 16777216) (z5 : z (21 + t) 5 = (o : Int)) :
    ((∃ p, p < 24 ∧ o.testBit p = true ∧ ∃ q, q < 24 ∧ (mbS ζ t).testBit q = true ∧ ¬ ζ 52 t < woV ζ t (2 ^ p ||| 2 ^ q)) → f_X9_fewest_b58 z t = some 2) ∧ ((∀ p, p < 24 → o.testBit p = true → ∀ q, q < 24 → (mbS ζ t).testBit q = true → ζ 52 t < woV ζ t (2 ^ p ||| 2 ^ q)) → f_X9_fewest_b58 z t = some (-2)) := by
  unfold f_X9_fewest_b58
  have stepT : ∀ n (i : Nat), i < 24 → o.testBit i = true → (∃ q, q < 24 ∧ (mbS ζ t).testBit q = true ∧ ¬ ζ 52 t < woV ζ t (2 ^ i ||| 2 ^ q)) → f_X9_fewest_b60 z (n + 1) t (i : Int) = some 2 := fun n i hi hb hE => by
    obtain ⟨v, e, hv⟩ := freed_n (p := i) ht hi h hD
    rw [f_X9_fewest_b60, w32_n (by omega), if_pos (by omega), z5, contains_n (by omega) (by omega), Option.bind_some, hb, b01_t rfl, e, Option.bind_some]
    rcases hv with ⟨rfl, -⟩ | ⟨-, hv⟩
    · rw [w32_1, if_neg (by decide)]
    · obtain ⟨q, q1, q2, q3⟩ := hE
      exact absurd (hv q q1 q2) q3
  have stepF : ∀ n (i : Nat), i < 24 → (o.testBit i = true → ∀ q, q < 24 → (mbS ζ t).testBit q = true → ζ 52 t < woV ζ t (2 ^ i ||| 2 ^ q)) → f_X9_fewest_b60 z (n + 1) t (i : Int) = f_X9_fewest_b60 z n t ((i : Int) + 1) := fun n i hi hE => by
    rw [f_X9_fewest_b60, w32_n (by omega), if_pos (by omega), z5, contains_n (by omega) (by omega), Option.bind_some]
    cases hb : o.testBit i with
    | false =>
      rw [b01_f rfl]
      rfl
    | true =>
      obtain ⟨v, e, hv⟩ := freed_n (p := i) ht hi h hD
      rw [b01_t rfl, e, Option.bind_some]
      rcases hv with ⟨-, q, q1, q2, q3⟩ | ⟨rfl, -⟩
      · exact absurd (hE hb q q1 q2) q3
      · rw [w32_0, if_pos rfl]
        rfl
  constructor
  · intro hE
    refine loop_at (St := Unit) (F := fun n i _ => f_X9_fewest_b60 z n t i) 24 (fun i _ => ∀ p, p < i → ¬ (o.testBit p = true ∧ ∃ q, q < 24 ∧ (mbS ζ t).testBit q = true ∧ ¬ ζ 52 t < woV ζ t (2 ^ p ||| 2 ^ q))) (by decide) ?_ ?_ 0 (by decide) () (fun q hq => absurd hq (Nat.not_lt_zero _))
    · intro n i _ hi hI
      show f_X9_fewest_b60 z (n + 1) t (i : Int) = _ ∨ ∃ s', _ ∧ f_X9_fewest_b60 z (n + 1) t (i : Int) = f_X9_fewest_b60 z n t ((i : Int) + 1)
      by_cases c : o.testBit i = true ∧ ∃ q, q < 24 ∧ (mbS ζ t).testBit q = true ∧ ¬ ζ 52 t < woV ζ t (2 ^ i ||| 2 ^ q)
      · exact Or.inl (stepT n i hi c.1 c.2)
      · right
        refine ⟨(), fun q hq => ?_, stepF n i hi (fun hb q q1 q2 => Classical.byContradiction fun q3 => c ⟨hb, q, q1, q2, q3⟩)⟩
        by_cases e : q = i
        · rw [e]
          exact c
        · exact hI q (by omega)
    · intro n _ hI
      obtain ⟨p, p1, p2, p3⟩ := hE
      exact absurd ⟨p2, p3⟩ (hI p p1)
  · intro hE
    refine loop_at (St := Unit) (F := fun n i _ => f_X9_fewest_b60 z n t i) 24 (fun i _ => True) (by decide) ?_ ?_ 0 (by decide) () trivial
    · intro n i _ hi hI
      right
      exact ⟨(), trivial, stepF n i hi (hE i hi)⟩
    · intro n _ _
      show f_X9_fewest_b60 z (n + 1) t ((24 : Nat) : Int) = _
      rw [f_X9_fewest_b60, w32_n (by decide), if_neg (by decide)]
