/-! ===== pure level: text, numerals side by side ===== -/
def FrC (z z' : Sg) : Prop := ∀ k j, ¬ (k = 3 ∧ (j = 4 ∨ j = 7 ∨ j = 8)) → z' k j = z k j
def FrN (ζ ζ' : Sg) : Prop := ∀ k j, ¬ (k = 41 ∧ 9 ≤ j ∧ j ≤ 14) → ζ' k j = ζ k j
theorem FrC.rf {z : Sg} : FrC z z := fun _ _ _ => rfl
theorem FrN.rf {z : Sg} : FrN z z := fun _ _ _ => rfl
theorem FrC.tr {z w v : Sg} (h : FrC z w) (h2 : FrC w v) : FrC z v := fun k j q => (h2 k j q).trans (h k j q)
theorem FrN.tr {z w v : Sg} (h : FrN z w) (h2 : FrN w v) : FrN z v := fun k j q => (h2 k j q).trans (h k j q)
theorem FrC.up {z w : Sg} {j : Nat} {v : Int} (h : FrC z w) (hj : j = 4 ∨ j = 7 ∨ j = 8) : FrC z (up w 3 j v) := fun k i q => by
  by_cases e : k = 3
  · subst e
    rw [up_j (by omega)]
    exact h 3 i q
  · rw [up_k e]
    exact h k i q
theorem FrN.up {z w : Sg} {j : Nat} {v : Int} (h : FrN z w) (hj : 9 ≤ j ∧ j ≤ 14) : FrN z (up w 41 j v) := fun k i q => by
  by_cases e : k = 41
  · subst e
    rw [up_j (by omega)]
    exact h 41 i q
  · rw [up_k e]
    exact h k i q
theorem FrK.n {ζ ζ' : Sg} (h : FrK ζ ζ') : FrN ζ ζ' := fun k j q => h k j (fun e => q ⟨e.1, e.2.1, by omega⟩)
theorem FrC.dok {z z' : Sg} {B : Nat → Int} {n : Nat} (h : FrC z z') (k : DOk B n z) : DOk B n z' := ⟨by rw [h 3 3 (by omega)]; exact k.1, fun j hj => by rw [h 2 j (by omega)]; exact k.2 j hj⟩
theorem FrN.mok {z z' : Sg} {B : Nat → Int} {n : Nat} (h : FrN z z') (k : MOk B n z) : MOk B n z' := ⟨by rw [h 41 8 (by omega)]; exact k.1, fun j hj => by rw [h 42 j (by omega)]; exact k.2 j hj⟩
def Flt (z ζ : Sg) (n : Nat) : Prop := z 3 7 = ζ 41 13 ∧ z 3 8 = ζ 41 14 ∧ (z 3 7 = 1 ∨ z 3 7 = 2) ∧ (0 ≤ z 3 8 ∧ z 3 8 ≤ n) ∧ ∃ a : Nat, z 3 4 = (a : Int) ∧ a ≤ n
theorem complain_n {z : Sg} {f q : Int} (h : z 3 7 = 0) : f_X4_complain f q z = some (up (up z 3 7 f) 3 8 q) := by
  unfold f_X4_complain wr
  rw [h, if_pos (show w32 0 = 0 by decide)]
theorem wrong_n {ζ : Sg} {f : Int} (h : ζ 41 13 = 0) : f_X10_wrong f ζ = some (up (up ζ 41 13 f) 41 14 (ζ 41 10)) := by
  unfold f_X10_wrong wr
  rw [h, if_pos (show w32 0 = 0 by decide)]
  dsimp only
  rw [up_j (by decide : (10 : Nat) ≠ 13)]
theorem flt_ne {f : Int} (h : f = 1 ∨ f = 2) : ¬ w32 f = 0 := by
  rcases h with h | h <;> rw [h] <;> decide
theorem goOn_f {ζ : Sg} (h : ζ 41 13 = 1 ∨ ζ 41 13 = 2) : f_X10_goOn ζ = some ζ := by
  unfold f_X10_goOn
  rw [if_neg (flt_ne h)]
theorem goOn_n {ζ : Sg} {B : Nat → Int} {n a : Nat} (hn : n ≤ 900) (hB : ByP B) (hM : MOk B n ζ) (h13 : ζ 41 13 = 0) (h9 : ζ 41 9 = (a : Int)) (ha : a ≤ n) : ∃ p ζ', f_X10_goOn ζ = some ζ' ∧ FrK ζ ζ' ∧ Adv isBl B n a p ∧ TokAt ζ' B n p := by
  obtain ⟨p, hp⟩ := Adv.ex (P := isBl) (B := B) (n := n) (p := a) ha
  obtain ⟨ζ', e, f, t⟩ := token_n hn hB hM h9 hp
  unfold f_X10_goOn
  rw [h13, if_pos (show w32 0 = 0 by decide), e, Option.bind_some]
  exact ⟨p, ζ', rfl, f, hp, t⟩
theorem numeral_f {ζ : Sg} {least most : Int} (h : ζ 41 13 = 1 ∨ ζ 41 13 = 2) : f_X10_numeral least most ζ = some (least, ζ) := by
  unfold f_X10_numeral
  rw [if_neg (flt_ne h)]
theorem dnum_lp {z : Sg} {B : Nat → Int} {n p e : Nat} {least most : Int} (hn : n ≤ 900) (hB : ByP B) (hz : DOk B n z) (hA : Adv isDg B n p e) : ∀ r k m, p + k + r = e → r < m → f_X4_readNumber_b12 m least most (p : Int) (cv B p k) (up z 3 4 ((p + k : Nat) : Int)) = f_X4_readNumber_b80 least most (p : Int) (cv B p (e - p)) (up z 3 4 (e : Int)) := by
  obtain ⟨a1, a2, a3, a4⟩ := hA
  intro r
  induction r with
  | zero =>
    intro k m hr hm
    obtain ⟨m, rfl⟩ : ∃ q, m = q + 1 := ⟨m - 1, by omega⟩
    have hpk : p + k = e := by omega
    rw [f_X4_readNumber_b12, up_s, up_j (by decide : (3 : Nat) ≠ 4), hz.1, w32_n (by omega), w32_n (by omega), hpk, show e - p = k by omega]
    by_cases c : e < n
    · have hb := hB e (by omega)
      rw [if_pos (show (e : Int) < (n : Int) by omega), dAt_n (by omega), Option.bind_some, up_k (by decide : (2 : Nat) ≠ 3), hz.2 e (by omega), (dDigit_n (b := B e) ⟨by omega, by omega⟩).2 (a4 c), Option.bind_some, if_pos (show w32 0 = 0 by decide)]
    · rw [if_neg (show ¬ (e : Int) < (n : Int) by omega)]
  | succ r ih =>
    intro k m hr hm
    obtain ⟨m, rfl⟩ : ∃ q, m = q + 1 := ⟨m - 1, by omega⟩
    have hd := a3 (p + k) (by omega) (by omega)
    have hb := hB (p + k) (by omega)
    have bd := mv_cv (B := B) (p := p) k (fun j h1 h2 => a3 j h1 (by omega))
    have bd2 : 0 ≤ cv B p k ∧ cv B p k ≤ 100000000 := by omega
    rw [f_X4_readNumber_b12, up_s, up_j (by decide : (3 : Nat) ≠ 4), hz.1, w32_n (by omega), w32_n (by omega), if_pos (show ((p + k : Nat) : Int) < (n : Int) by omega), dAt_n (by omega), Option.bind_some, up_k (by decide : (2 : Nat) ≠ 3), hz.2 (p + k) (by omega), (dDigit_n (b := B (p + k)) ⟨by omega, by omega⟩).1 hd, Option.bind_some, if_neg (show ¬ w32 1 = 0 by decide), Option.bind_some]
    unfold wr
    unfold isDg at hd
    rw [up_up, mmin_i (a := 100000000) (b := cv B p k * 10 + (B (p + k) - 48)) (by decide) ⟨by omega, by omega⟩]
    exact ih (k + 1) m (by omega) (by omega)
theorem num_n {z ζ : Sg} {B : Nat → Int} {n a p : Nat} {least most : Int} (hn : n ≤ 900) (hB : ByP B) (hz : DOk B n z) (hM : MOk B n ζ) (h4 : z 3 4 = (a : Int)) (hA : Adv isBl B n a p) (hT : TokAt ζ B n p) (z7 : z 3 7 = 0) (m13 : ζ 41 13 = 0) (hl : 0 ≤ least) (hm : least ≤ most ∧ most ≤ 9999999) :
    ∃ c z' v ζ', f_X4_readNumber least most z = some (c, z') ∧ f_X10_numeral least most ζ = some (v, ζ') ∧ FrC z z' ∧ FrN ζ ζ' ∧
      ((c = v ∧ (least ≤ c ∧ c ≤ most) ∧ z' 3 7 = 0 ∧ z' 3 8 = z 3 8 ∧ ζ' 41 13 = 0 ∧ ∃ a' p' : Nat, z' 3 4 = (a' : Int) ∧ Adv isBl B n a' p' ∧ p < a' ∧ TokAt ζ' B n p') ∨ Flt z' ζ' n) := by
  have hpn := hA.2.1
  have hz2 : DOk B n (up z 3 4 (p : Int)) := hz.up4
  unfold f_X4_readNumber
  rw [dSkip_n hn hB hz h4 hA, Option.bind_some, up_s]
  -- the class's digits
  have dd : ∀ e, Adv isDg B n p e → f_X4_readNumber_b12 FUEL least most (p : Int) 0 (up z 3 4 (p : Int)) = f_X4_readNumber_b80 least most (p : Int) (cv B p (e - p)) (up z 3 4 (e : Int)) := fun e he => dnum_lp hn hB hz he (e - p) 0 FUEL (by have := he.1; omega) (fuel_lt (by have := he.2.1; omega))
  obtain ⟨t10, -, -, tc⟩ := hT
  -- both complain at p
  have bad : ∀ (f : Int) (e : Nat) (vc : Int), e ≤ n → (f = 1 ∨ f = 2) → f_X4_readNumber_b80 least most (p : Int) vc (up z 3 4 (e : Int)) = (f_X4_complain f (p : Int) (up z 3 4 (e : Int))).bind (fun q => some (vc, q)) → f_X10_numeral least most ζ = (f_X10_wrong f ζ).bind (fun q => f_X10_numeral_b46 least q) → ∃ c z' v ζ', f_X4_readNumber_b80 least most (p : Int) vc (up z 3 4 (e : Int)) = some (c, z') ∧ f_X10_numeral least most ζ = some (v, ζ') ∧ FrC z z' ∧ FrN ζ ζ' ∧
      ((c = v ∧ (least ≤ c ∧ c ≤ most) ∧ z' 3 7 = 0 ∧ z' 3 8 = z 3 8 ∧ ζ' 41 13 = 0 ∧ ∃ a' p' : Nat, z' 3 4 = (a' : Int) ∧ Adv isBl B n a' p' ∧ p < a' ∧ TokAt ζ' B n p') ∨ Flt z' ζ' n) := by
    intro f e vc he hf e1 e2
    rw [complain_n (by rw [up_j (by decide)]; exact z7), Option.bind_some] at e1
    rw [wrong_n m13, Option.bind_some] at e2
    have g13 : up (up ζ 41 13 f) 41 14 (ζ 41 10) 41 13 = f := by rw [up_j (by decide), up_s]
    have e3 : f_X10_numeral_b46 least (up (up ζ 41 13 f) 41 14 (ζ 41 10)) = some (least, up (up ζ 41 13 f) 41 14 (ζ 41 10)) := by
      unfold f_X10_numeral_b46 f_X10_numeral_b61
      rw [g13, if_neg (flt_ne hf), goOn_f (by rw [g13]; exact hf), Option.bind_some]
    rw [e3] at e2
    refine ⟨vc, _, least, _, e1, e2, ((FrC.rf.up (Or.inl rfl)).up (Or.inr (Or.inl rfl))).up (Or.inr (Or.inr rfl)), (FrN.rf.up (by decide)).up (by decide), Or.inr ⟨?_, ?_, ?_, ?_, e, ?_, he⟩⟩
    · rw [g13, up_j (by decide), up_s]
    · rw [up_s, up_s, t10]
    · rw [up_j (by decide), up_s]
      exact hf
    · rw [up_s]
      omega
    · rw [up_j (by decide), up_j (by decide), up_s]
  have nodig : (p < n → ¬ isDg (B p)) → ¬ ζ 41 11 = 1 → (ζ 41 11 = 0 ∨ ζ 41 11 = 2 ∨ ζ 41 11 = 3 ∨ ζ 41 11 = 4) → ∃ c z' v ζ', f_X4_readNumber_b12 FUEL least most (p : Int) 0 (up z 3 4 (p : Int)) = some (c, z') ∧ f_X10_numeral least most ζ = some (v, ζ') ∧ FrC z z' ∧ FrN ζ ζ' ∧
      ((c = v ∧ (least ≤ c ∧ c ≤ most) ∧ z' 3 7 = 0 ∧ z' 3 8 = z 3 8 ∧ ζ' 41 13 = 0 ∧ ∃ a' p' : Nat, z' 3 4 = (a' : Int) ∧ Adv isBl B n a' p' ∧ p < a' ∧ TokAt ζ' B n p') ∨ Flt z' ζ' n) := fun hd hs hs2 => by
    rw [dd p ⟨Nat.le_refl _, hpn, fun j h1 h2 => by omega, hd⟩]
    refine bad 1 p _ hpn (Or.inl rfl) ?_ ?_
    · unfold f_X4_readNumber_b80
      rw [up_s, if_pos rfl]
    · unfold f_X10_numeral
      rw [m13, if_pos (show w32 0 = 0 by decide), w32_eq (z := ζ 41 11) ⟨by omega, by omega⟩, if_neg hs]
  rcases tc with ⟨h1, h2⟩ | ⟨h1, h2, e, -, -, h3⟩ | ⟨h1, h2, e, he, h9, h11, h12⟩ | ⟨h1, h2, h3, -⟩ | ⟨h1, h2, h3, h4_, h5⟩
  · exact nodig (fun q => by omega) (by omega) (Or.inr (Or.inr (Or.inl h2)))
  · refine nodig (fun _ q => ?_) (by omega) (by omega)
    unfold isSm at h2
    unfold isDg at q
    omega
  · have hep : p < e := by
      rcases Nat.lt_or_ge p e with q | q
      · exact q
      · have := he.1
        have hpe : e = p := by omega
        rw [hpe] at he
        exact absurd h2 (he.2.2.2 h1)
    have hen := he.2.1
    rw [dd e he]
    have bd := mv_cv (B := B) (p := p) (e - p) (fun j q1 q2 => he.2.2.1 j q1 (by omega))
    generalize cv B p (e - p) = V at *
    have i12 : InR (ζ 41 12) := by
      rw [h12]
      exact ⟨by omega, by omega⟩
    rw [← h12] at bd
    generalize hW : ζ 41 12 = W at *
    have b80 : ∀ X : Option (Int × Sg), f_X4_readNumber_b80 least most (p : Int) V (up z 3 4 (e : Int)) = X ↔ (if V < least then f_X4_readNumber_b109 (p : Int) V (up z 3 4 (e : Int)) else if V ≤ most then some (V, up z 3 4 (e : Int)) else f_X4_readNumber_b109 (p : Int) V (up z 3 4 (e : Int))) = X := fun X => by
      unfold f_X4_readNumber_b80
      rw [up_s, w32_n (by omega), w32_n (by omega), if_neg (show ¬ (e : Int) = (p : Int) by omega), w32_eq (z := V) ⟨by omega, by omega⟩, w32_eq (z := least) ⟨by omega, by omega⟩, w32_eq (z := most) ⟨by omega, by omega⟩]
    have nm : ∀ X : Option (Int × Sg), f_X10_numeral least most ζ = X ↔ (if W < least then f_X10_numeral_b41 least ζ else if W ≤ most then f_X10_numeral_b46 least ζ else f_X10_numeral_b41 least ζ) = X := fun X => by
      unfold f_X10_numeral
      rw [m13, if_pos (show w32 0 = 0 by decide), h11, if_pos (show w32 1 = 1 by decide), hW, w32_eq i12, w32_eq (z := least) ⟨by omega, by omega⟩, w32_eq (z := most) ⟨by omega, by omega⟩]
    by_cases ok : least ≤ W ∧ W ≤ most
    · have hVW : W = V := by omega
      subst hVW
      obtain ⟨p', ζ', g1, g2, g3, g4⟩ := goOn_n hn hB hM m13 h9 hen
      refine ⟨W, up z 3 4 (e : Int), W, ζ', ?_, ?_, FrC.rf.up (Or.inl rfl), g2.n, Or.inl ⟨rfl, ok, ?_, ?_, ?_, e, p', up_s, g3, hep, g4⟩⟩
      · rw [b80, if_neg (by omega), if_pos ok.2]
      · rw [nm, if_neg (by omega), if_pos ok.2]
        unfold f_X10_numeral_b46 f_X10_numeral_b61
        rw [m13, if_pos (show w32 0 = 0 by decide), g1, Option.bind_some, hW]
      · rw [up_j (by decide)]
        exact z7
      · rw [up_j (by decide)]
      · rw [g2 41 13 (by omega)]
        exact m13
    · refine bad 2 e V hen (Or.inr rfl) ?_ ?_
      · rw [b80]
        unfold f_X4_readNumber_b109
        by_cases q : V < least
        · rw [if_pos q]
        · rw [if_neg q, if_neg (by omega)]
      · rw [nm]
        unfold f_X10_numeral_b41
        by_cases q : W < least
        · rw [if_pos q]
        · rw [if_neg q, if_neg (by omega)]
  · refine nodig (fun _ q => ?_) (by omega) (by omega)
    unfold isDg at q
    omega
  · exact nodig (fun _ => h3) (by omega) (by omega)
