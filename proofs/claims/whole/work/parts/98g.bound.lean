/-! ===== pure level: bound, what the rows hold ===== -/
theorem row_a {X Y : Nat → Int} {R : Int} {M a : Nat} (hM : M < 16777216) (ha : M.testBit a = true) : mks (esS X Y R M a a) 24 = arS X Y R M a := bits_ext fun q => by
  unfold arS esS
  rw [tb_mks, tb_mks, if_pos rfl, ha]
  by_cases hq : q < 24
  · rw [decide_eq_true hq, decide_eq_true (show q < 25 by omega)]
    simp
  · rw [tb_24 hM (by omega)]
    simp
theorem row_n {X Y : Nat → Int} {R : Int} {M a b : Nat} (hab : a ≠ b) (hok : ¬ rimOk X Y R a b) : mks (esS X Y R M a b) 24 = 0 := mks_ff fun q _ => by
  unfold esS
  rw [if_neg hab]
  have : rimD X Y R a b false q = false := by
    cases h : rimD X Y R a b false q with
    | false => rfl
    | true => exact absurd (rimD_iff.mp h).1 hok
  rw [this, Bool.and_false]
theorem row_f {X Y : Nat → Int} {R : Int} {M a b : Nat} (hM : M < 16777216) (ha : M.testBit a = true) (hb : M.testBit b = true) (hab : a ≠ b) (hok : rimOk X Y R a b) : mks (esS X Y R M a b) 24 = rmS X Y R M a b false := bits_ext fun q => by
  unfold rmS esS
  rw [tb_mks, tb_mks, if_neg hab, ha, hb]
  by_cases hq : q < 24
  · rw [decide_eq_true hq, decide_eq_true (show q < 25 by omega)]
    unfold rimD
    unfold rimOk at hok
    rw [decide_eq_true hok]
    by_cases e1 : q = a
    · subst e1
      rw [inD_a]
      simp
    · by_cases e2 : q = b
      · subst e2
        rw [inD_b]
        simp
      · have f1 : (q == a) = false := beq_false_of_ne e1
        have f2 : (q == b) = false := beq_false_of_ne e2
        rw [f1, f2]
        simp
  · rw [tb_24 hM (by omega)]
    simp
theorem rmS_sym {X Y : Nat → Int} {R : Int} {M a b : Nat} {side : Bool} : rmS X Y R M b a side = rmS X Y R M a b (!side) := bits_ext fun q => by
  unfold rmS
  rw [tb_mks, tb_mks, inD_sym, Bool.or_comm (q == b) (q == a)]
theorem hv_cnd {X Y S : Nat → Int} {R : Int} {s o : Nat} {v : Int} (hsl : s < 16777216) (hS : ∀ q, s.testBit q = true → 0 < S q) (h : hvS X Y S R none s = (v, (o : Int))) (h0 : o ≠ 0) : Cnd X Y R s 25 o ∧ ∀ q, o.testBit q = true → s.testBit q = true := by
  obtain ⟨u, hu⟩ := HvI_ex S (fun j => esN X Y R s j &&& s) 576
  have e := hv_of hsl (fun q h => h) (sq_nn R) hS hu
  rw [h] at e
  have e2 : (o : Int) = (u : Int) := (Prod.mk.inj e).2
  have e2 : o = u := by omega
  subst e2
  rcases hu with ⟨h1, -⟩ | ⟨h1, ⟨j, hj, h2⟩, h3⟩
  · exact absurd h1 h0
  · have h2 : o = esN X Y R s j &&& s := h2
    have oe : ∀ q, o.testBit q = true → s.testBit q = true ∧ (esN X Y R s j).testBit q = true := fun q hq => by
      rw [h2, Nat.testBit_and, Bool.and_eq_true] at hq
      exact ⟨hq.2, hq.1⟩
    obtain ⟨c, hc, hoc⟩ := cnd_cov hsl (fun q h => h) hj (sq_nn R) h1 oe
    obtain ⟨cl, c0, k, hk, e⟩ := cnd_esN hsl (fun q h => h) hc (sq_nn R)
    have cs : ∀ q, c.testBit q = true → s.testBit q = true := fun q hq => by
      rw [e, Nat.testBit_and, Bool.and_eq_true] at hq
      exact hq.2
    have hle := h3 k hk (fun q => c0 (e.trans q))
    have e' : (fun j => esN X Y R s j &&& s) k = c := e.symm
    rw [e'] at hle
    have eco : o = c := bits_ext fun q => by
      cases ho : o.testBit q with
      | true => exact (hoc q ho).symm
      | false =>
        cases hcq : c.testBit q with
        | false => rfl
        | true =>
          have := sumb_lt (S := S) (s := o) (t := c) (k := q) (n := 24) (fun i _ hi => hoc i hi) (fun i _ hi => hS i (cs i hi)) (bit_lt cl hcq) hcq ho
          omega
    exact ⟨by rw [eco]; exact hc, fun q hq => (oe q hq).1⟩
theorem arS_a {X Y : Nat → Int} {R : Int} {M a : Nat} (hM : M < 16777216) (ha : M.testBit a = true) : (arS X Y R M a).testBit a = true := by
  unfold arS
  rw [tb_mks, decide_eq_true (by have := bit_lt hM ha; omega), ha, d2_self, decide_eq_true (sq_nn R)]
  rfl
theorem rmS_ab {X Y : Nat → Int} {R : Int} {M a b : Nat} {side : Bool} (hM : M < 16777216) (ha : M.testBit a = true) (hb : M.testBit b = true) : (rmS X Y R M a b side).testBit a = true ∧ (rmS X Y R M a b side).testBit b = true := by
  unfold rmS
  rw [tb_mks, tb_mks, decide_eq_true (by have := bit_lt hM ha; omega), decide_eq_true (by have := bit_lt hM hb; omega), ha, hb]
  simp
