/-! ===== pure level: text, lines side by side ===== -/
theorem Flt.cg {z ζ z' ζ' : Sg} {n : Nat} (h : Flt z ζ n) (e1 : z' 3 = z 3) (e2 : ζ' 41 13 = ζ 41 13) (e3 : ζ' 41 14 = ζ 41 14) : Flt z' ζ' n := by
  unfold Flt
  rw [e1, e2, e3]
  exact h
theorem Flt.m {z ζ : Sg} {n : Nat} (h : Flt z ζ n) : ζ 41 13 = 1 ∨ ζ 41 13 = 2 := by
  have := h.2.2.1
  rw [h.1] at this
  exact this
def FrE (ζ ζ' : Sg) : Prop := ∀ k j, ¬ (k = 41 ∧ (j = 7 ∨ (9 ≤ j ∧ j ≤ 14))) → ζ' k j = ζ k j
theorem FrN.e {ζ ζ' : Sg} (h : FrN ζ ζ') : FrE ζ ζ' := fun k j q => h k j (fun e => q ⟨e.1, Or.inr e.2⟩)
theorem FrE.tr {z w v : Sg} (h : FrE z w) (h2 : FrE w v) : FrE z v := fun k j q => (h2 k j q).trans (h k j q)
theorem FrE.up7 {ζ u : Sg} {v : Int} (h : FrE ζ u) : FrE ζ (up u 41 7 v) := fun k i q => by
  by_cases e : k = 41
  · subst e
    rw [up_j (by omega)]
    exact h 41 i q
  · rw [up_k e]
    exact h k i q
theorem TokAt.cg {ζ ζ' : Sg} {B : Nat → Int} {n p : Nat} (h : TokAt ζ B n p) (e : ∀ j, 9 ≤ j → j ≤ 12 → ζ' 41 j = ζ 41 j) : TokAt ζ' B n p := by
  unfold TokAt
  rw [e 9 (by decide) (by decide), e 10 (by decide) (by decide), e 11 (by decide) (by decide), e 12 (by decide) (by decide)]
  exact h
/-- the end of a line -/
theorem end_n {z ζ : Sg} {B : Nat → Int} {n a p : Nat} (hn : n ≤ 900) (hB : ByP B) (hz : DOk B n z) (hM : MOk B n ζ) (h4 : z 3 4 = (a : Int)) (hA : Adv isBl B n a p) (hT : TokAt ζ B n p) (z7 : z 3 7 = 0) (m13 : ζ 41 13 = 0) :
    ∃ z' ζ', f_X4_readLine_b99 z = some z' ∧ f_X10_readLine_b33 ζ = some ζ' ∧ FrC z z' ∧ FrE ζ ζ' ∧ ζ' 41 7 = ζ 41 7 + 1 ∧
      ((z' 3 7 = 0 ∧ z' 3 8 = z 3 8 ∧ ζ' 41 13 = 0 ∧ ∃ a' p' : Nat, z' 3 4 = (a' : Int) ∧ Adv isBl B n a' p' ∧ p < a' ∧ TokAt ζ' B n p') ∨ Flt z' ζ' n) := by
  have hpn := hA.2.1
  obtain ⟨t10, -, -, tc⟩ := hT
  unfold f_X4_readLine_b99 f_X4_readEnd
  rw [dSkip_n hn hB hz h4 hA, Option.bind_some, up_s, up_j (by decide : (3 : Nat) ≠ 4), hz.1, w32_n (by omega), w32_n (by omega)]
  unfold f_X10_readLine_b33
  rw [m13, if_pos (show w32 0 = 0 by decide)]
  by_cases c : p < n ∧ B p = 59
  · have hs : ζ 41 11 = 2 ∧ ζ 41 9 = (p : Int) + 1 := by
      rcases tc with ⟨h1, h2⟩ | ⟨h1, h2, -⟩ | ⟨h1, h2, -⟩ | ⟨h1, h2, h3, h4⟩ | ⟨h1, h2, h3, h4_, h5⟩
      · omega
      · unfold isSm at h2
        omega
      · unfold isDg at h2
        omega
      · exact ⟨h3, h4⟩
      · exact absurd c.2 h4_
    have hs9 : ζ 41 9 = ((p + 1 : Nat) : Int) := hs.2
    obtain ⟨p', ζ', g1, g2, g3, g4⟩ := goOn_n hn hB hM m13 hs9 (by omega)
    rw [if_pos (show (p : Int) < (n : Int) by omega), dAt_n (by omega), Option.bind_some, up_k (by decide : (2 : Nat) ≠ 3), hz.2 p (by omega), c.2, if_pos (show w32 59 = 59 by decide), hs.1, if_pos (show w32 2 = 2 by decide)]
    unfold f_X10_readLine_b53 wr
    rw [g1, Option.bind_some, up_up]
    refine ⟨_, _, rfl, rfl, FrC.rf.up (Or.inl rfl), g2.n.e.up7, ?_, Or.inl ⟨?_, ?_, ?_, p + 1, p', ?_, g3, by omega, g4.cg fun j _ _ => up_j (by omega)⟩⟩
    · rw [up_s, g2 41 7 (by omega)]
    · rw [up_j (by decide)]
      exact z7
    · rw [up_j (by decide)]
    · rw [up_j (by decide), g2 41 13 (by omega)]
      exact m13
    · rw [up_s]
      rfl
  · have hs : ζ 41 11 ≠ 2 ∧ (0 ≤ ζ 41 11 ∧ ζ 41 11 ≤ 4) := by
      rcases tc with ⟨h1, h2⟩ | ⟨h1, h2, e, -, -, h3⟩ | ⟨h1, h2, e, -, -, h3, -⟩ | ⟨h1, h2, h3, h4⟩ | ⟨h1, h2, h3, h4_, h5⟩
      · omega
      · omega
      · omega
      · exact absurd ⟨h1, h2⟩ c
      · omega
    have ed : ∀ X : Option Sg, ((if (p : Int) < (n : Int) then (f_X6_at (p : Int) (up z 3 4 (p : Int))).bind fun q3 => if w32 q3 = 59 then wr (up z 3 4 (p : Int)) 3 4 ((p : Int) + 1) fun σ5 => some σ5 else f_X4_readEnd_b44 (up z 3 4 (p : Int)) else f_X4_readEnd_b44 (up z 3 4 (p : Int))).bind fun q9 => some q9) = X ↔ ((f_X4_readEnd_b44 (up z 3 4 (p : Int))).bind fun q9 => some q9) = X := fun X => by
      by_cases c2 : p < n
      · have hb := hB p (by omega)
        have h59 : ¬ B p = 59 := fun e => c ⟨c2, e⟩
        rw [if_pos (show (p : Int) < (n : Int) by omega), dAt_n (by omega), Option.bind_some, up_k (by decide : (2 : Nat) ≠ 3), hz.2 p (by omega), w32_eq (z := B p) ⟨by omega, by omega⟩, if_neg h59]
      · rw [if_neg (show ¬ (p : Int) < (n : Int) by omega)]
    rw [w32_eq (z := ζ 41 11) ⟨by omega, by omega⟩, if_neg hs.1, wrong_n m13, Option.bind_some]
    have g13 : up (up ζ 41 13 1) 41 14 (ζ 41 10) 41 13 = 1 := by rw [up_j (by decide), up_s]
    unfold f_X10_readLine_b53 wr
    rw [goOn_f (Or.inl g13), Option.bind_some]
    refine ⟨up (up (up z 3 4 (p : Int)) 3 7 1) 3 8 (p : Int), _, ?_, rfl, ((FrC.rf.up (Or.inl rfl)).up (Or.inr (Or.inl rfl))).up (Or.inr (Or.inr rfl)), ((((FrN.rf.up (j := 13) (by decide)).up (by decide)).e).up7), ?_, Or.inr ⟨?_, ?_, ?_, ?_, p, ?_, hpn⟩⟩
    · refine (ed _).mpr ?_
      unfold f_X4_readEnd_b44
      rw [complain_n (by rw [up_j (by decide)]; exact z7), up_s, Option.bind_some, Option.bind_some]
    · rw [up_s, up_j (by decide), up_j (by decide)]
    · rw [up_j (by decide), up_s, up_j (by decide), up_j (by decide), up_s]
    · rw [up_s, up_j (by decide), up_s, t10]
    · rw [up_j (by decide), up_s]
      exact Or.inl rfl
    · rw [up_s]
      omega
    · rw [up_j (by decide), up_j (by decide), up_s]
theorem end_f {z ζ : Sg} {B : Nat → Int} {n : Nat} (hn : n ≤ 900) (hB : ByP B) (hz : DOk B n z) (h : Flt z ζ n) : ∃ b : Nat, b ≤ n ∧ f_X4_readLine_b99 z = some (up z 3 4 (b : Int)) ∧ f_X10_readLine_b33 ζ = some (up ζ 41 7 (ζ 41 7 + 1)) := by
  have e2 : f_X10_readLine_b33 ζ = some (up ζ 41 7 (ζ 41 7 + 1)) := by
    unfold f_X10_readLine_b33 f_X10_readLine_b53 wr
    rw [if_neg (flt_ne h.m), goOn_f h.m, Option.bind_some]
  obtain ⟨a, g4, g5⟩ := h.2.2.2.2
  obtain ⟨b, hb⟩ := Adv.ex (P := isBl) (B := B) (n := n) (p := a) g5
  have hbn := hb.2.1
  have ec : f_X4_readEnd_b44 (up z 3 4 (b : Int)) = some (up z 3 4 (b : Int)) := by
    unfold f_X4_readEnd_b44 f_X4_complain
    rw [up_j (by decide : (7 : Nat) ≠ 4), if_neg (flt_ne h.2.2.1), Option.bind_some]
  unfold f_X4_readLine_b99 f_X4_readEnd
  rw [dSkip_n hn hB hz g4 hb, Option.bind_some, up_s, up_j (by decide : (3 : Nat) ≠ 4), hz.1, w32_n (by omega), w32_n (by omega)]
  by_cases c : b < n
  · rw [if_pos (show (b : Int) < (n : Int) by omega), dAt_n (by omega), Option.bind_some, up_k (by decide : (2 : Nat) ≠ 3), hz.2 b (by omega)]
    by_cases c2 : w32 (B b) = 59
    · rw [if_pos c2]
      unfold wr
      rw [up_up, Option.bind_some]
      exact ⟨b + 1, by omega, rfl, e2⟩
    · rw [if_neg c2, ec, Option.bind_some]
      exact ⟨b, hbn, rfl, e2⟩
  · rw [if_neg (show ¬ (b : Int) < (n : Int) by omega), ec, Option.bind_some]
    exact ⟨b, hbn, rfl, e2⟩
/-- the class's numbers of a line -/
theorem d4_st {z z' : Sg} {m i : Nat} {v6 c : Int} (hi : i < 4) (h6 : 0 ≤ v6 ∧ v6 + i < 96) (z7 : z 3 7 = 0) (h : f_X4_readNumber ((zTabs 0).2.2 i) ((zTabs 1).2.2 i) z = some (c, z')) : f_X4_readNumbers_4_z0_z1_b23 (m + 1) v6 (i : Int) z = f_X4_readNumbers_4_z0_z1_b23 m v6 ((i : Int) + 1) (up z' 4 (v6 + i).toNat c) := by
  rw [f_X4_readNumbers_4_z0_z1_b23, w32_n (by omega), if_pos (show (i : Int) < 4 by omega), if_pos (show (i : Int) < 4 by omega), z7, if_pos (show w32 0 = 0 by decide), ck_t (by omega), ck_t (by omega), ntn, h, Option.bind_some, w32_eq (z := v6 + i) ⟨by omega, by omega⟩, if_neg (by omega), if_pos h6.2, ck_t (by omega)]
  rfl
theorem d4_f {z : Sg} {m i : Nat} {v6 : Int} (hi : i ≤ 4) (h : (z 3 7 = 1 ∨ z 3 7 = 2) ∨ i = 4) : f_X4_readNumbers_4_z0_z1_b23 (m + 1) v6 (i : Int) z = some z := by
  rw [f_X4_readNumbers_4_z0_z1_b23, w32_n (by omega)]
  by_cases c : i < 4
  · rw [if_pos (show (i : Int) < 4 by omega), if_pos (show (i : Int) < 4 by omega), if_neg (flt_ne (h.resolve_right (by omega)))]
  · rw [if_neg (show ¬ (i : Int) < 4 by omega)]
theorem d3_st {z z' : Sg} {m i : Nat} {v6 c : Int} (hi : i < 3) (h6 : 0 ≤ v6 ∧ v6 + i < 18) (z7 : z 3 7 = 0) (h : f_X4_readNumber ((zTabs 2).2.2 i) ((zTabs 3).2.2 i) z = some (c, z')) : f_X4_readNumbers_5_z2_z3_b23 (m + 1) v6 (i : Int) z = f_X4_readNumbers_5_z2_z3_b23 m v6 ((i : Int) + 1) (up z' 5 (v6 + i).toNat c) := by
  rw [f_X4_readNumbers_5_z2_z3_b23, w32_n (by omega), if_pos (show (i : Int) < 3 by omega), if_pos (show (i : Int) < 3 by omega), z7, if_pos (show w32 0 = 0 by decide), ck_t (by omega), ck_t (by omega), ntn, h, Option.bind_some, w32_eq (z := v6 + i) ⟨by omega, by omega⟩, if_neg (by omega), if_pos h6.2, ck_t (by omega)]
  rfl
theorem d3_f {z : Sg} {m i : Nat} {v6 : Int} (hi : i ≤ 3) (h : (z 3 7 = 1 ∨ z 3 7 = 2) ∨ i = 3) : f_X4_readNumbers_5_z2_z3_b23 (m + 1) v6 (i : Int) z = some z := by
  rw [f_X4_readNumbers_5_z2_z3_b23, w32_n (by omega)]
  by_cases c : i < 3
  · rw [if_pos (show (i : Int) < 3 by omega), if_pos (show (i : Int) < 3 by omega), if_neg (flt_ne (h.resolve_right (by omega)))]
  · rw [if_neg (show ¬ (i : Int) < 3 by omega)]
/-- what stands while a line's numbers are read: both go on at a, or both have complained -/
def Go (z ζ : Sg) (B : Nat → Int) (n e : Nat) : Prop := z 3 7 = 0 ∧ z 3 8 = -1 ∧ ζ 41 13 = 0 ∧ DOk B n z ∧ MOk B n ζ ∧ ∃ a p : Nat, z 3 4 = (a : Int) ∧ Adv isBl B n a p ∧ e < a ∧ TokAt ζ B n p
theorem Go.cg {z ζ z' ζ' : Sg} {B : Nat → Int} {n e : Nat} (h : Go z ζ B n e) (e1 : z' 3 = z 3) (e2 : z' 2 = z 2) (e3 : ∀ j, 8 ≤ j → j ≤ 13 → ζ' 41 j = ζ 41 j) (e4 : ζ' 42 = ζ 42) : Go z' ζ' B n e := by
  obtain ⟨h1, h2, h3, h4, h5, a, p, h6, h7, h8, h9⟩ := h
  unfold Go DOk MOk
  rw [e1, e2, e3 8 (by decide) (by decide), e3 13 (by decide) (by decide), e4]
  exact ⟨h1, h2, h3, h4, h5, a, p, h6, h7, h8, h9.cg fun j q1 q2 => e3 j (by omega) (by omega)⟩
theorem num_s {z ζ : Sg} {B : Nat → Int} {n e : Nat} {least most : Int} (hn : n ≤ 900) (hB : ByP B) (h : Go z ζ B n e) (hl : 0 ≤ least) (hm : least ≤ most ∧ most ≤ 9999999) : ∃ c z' v ζ', f_X4_readNumber least most z = some (c, z') ∧ f_X10_numeral least most ζ = some (v, ζ') ∧ FrC z z' ∧ FrN ζ ζ' ∧ ((c = v ∧ (least ≤ c ∧ c ≤ most) ∧ Go z' ζ' B n e) ∨ Flt z' ζ' n) := by
  obtain ⟨h1, h2, h3, h4, h5, a, p, h6, h7, h8, h9⟩ := h
  obtain ⟨c, z', v, ζ', e1, e2, f1, f2, k⟩ := num_n hn hB h4 h5 h6 h7 h9 h1 h3 hl hm
  refine ⟨c, z', v, ζ', e1, e2, f1, f2, k.imp (fun ⟨q1, q2, q3, q4, q5, a', p', q6, q7, q8, q9⟩ => ⟨q1, q2, q3, q4.trans h2, q5, f1.dok h4, f2.mok h5, a', p', q6, q7, ?_, q9⟩) id⟩
  have := h7.1
  omega
theorem up4_3 {z : Sg} {j : Nat} {v : Int} : up z 4 j v 3 = z 3 := up_k (by decide)
theorem up5_3 {z : Sg} {j : Nat} {v : Int} : up z 5 j v 3 = z 3 := up_k (by decide)
def FrP (z z' : Sg) : Prop := ∀ k j, ¬ (k = 3 ∧ (j = 4 ∨ j = 7 ∨ j = 8)) → k ≠ 4 → k ≠ 5 → z' k j = z k j
theorem FrC.p {z z' : Sg} (h : FrC z z') : FrP z z' := fun k j q _ _ => h k j q
theorem FrP.tr {z w v : Sg} (h : FrP z w) (h2 : FrP w v) : FrP z v := fun k j q1 q2 q3 => (h2 k j q1 q2 q3).trans (h k j q1 q2 q3)
theorem FrP.up4 {z w : Sg} {j : Nat} {v : Int} (h : FrP z w) : FrP z (up w 4 j v) := fun k i q1 q2 q3 => by
  rw [up_k q2]
  exact h k i q1 q2 q3
theorem FrP.up5 {z w : Sg} {j : Nat} {v : Int} (h : FrP z w) : FrP z (up w 5 j v) := fun k i q1 q2 q3 => by
  rw [up_k q3]
  exact h k i q1 q2 q3
def FrQ (ζ ζ' : Sg) : Prop := ∀ k j, ¬ (k = 41 ∧ (j = 5 ∨ j = 6 ∨ (9 ≤ j ∧ j ≤ 14))) → k ≠ 43 → k ≠ 44 → ζ' k j = ζ k j
theorem FrN.q {z z' : Sg} (h : FrN z z') : FrQ z z' := fun k j q _ _ => h k j (fun e => q ⟨e.1, Or.inr (Or.inr e.2)⟩)
theorem FrQ.tr {z w v : Sg} (h : FrQ z w) (h2 : FrQ w v) : FrQ z v := fun k j q1 q2 q3 => (h2 k j q1 q2 q3).trans (h k j q1 q2 q3)
theorem FrQ.up43 {z w : Sg} {j : Nat} {v : Int} (h : FrQ z w) : FrQ z (up w 43 j v) := fun k i q1 q2 q3 => by
  rw [up_k q2]
  exact h k i q1 q2 q3
theorem FrQ.up44 {z w : Sg} {j : Nat} {v : Int} (h : FrQ z w) : FrQ z (up w 44 j v) := fun k i q1 q2 q3 => by
  rw [up_k q3]
  exact h k i q1 q2 q3
theorem FrQ.up41 {z w : Sg} {j : Nat} {v : Int} (h : FrQ z w) (hj : j = 5 ∨ j = 6) : FrQ z (up w 41 j v) := fun k i q1 q2 q3 => by
  by_cases e : k = 41
  · subst e
    rw [up_j (by omega)]
    exact h 41 i q1 q2 q3
  · rw [up_k e]
    exact h k i q1 q2 q3
