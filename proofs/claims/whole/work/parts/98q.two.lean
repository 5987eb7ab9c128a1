/-! ===== pure level: two ===== -/
theorem two_n {z ζ u0 : Sg} {F : Nat} {C : Nat → Prop} {what : Int} (h : RelB z ζ F) (s0 : Dsr ζ u0) (hL : DL u0 C 576) (hCF : ∀ c, C c → ∀ q, c.testBit q = true → F.testBit q = true) :
    ∃ (b : Nat) (ζ' : Sg), f_X10_two_b53 FUEL what 0 (up (up u0 41 36 0) 41 37 0) = some (if w32 what = 0 then sumb (z 9) b 24 else (b : Int), ζ') ∧ SS ζ ζ' ∧ b < 16777216 ∧ TB (z 9) (fun u => ∃ a c, C a ∧ C c ∧ u = a ||| c) b := by
  obtain ⟨D, d1, d2, d3, d4⟩ := hL
  have sr : ∀ s, InR (sumb (z 9) s 24) := fun s => by
    have := h.sin (s := s)
    exact ⟨by omega, by omega⟩
  obtain ⟨f, hf⟩ : ∃ f : Nat → Nat, ∀ k, k < D → u0 59 k = (f k : Int) ∧ C (f k) ∧ f k < 16777216 := by
    refine ⟨fun k => (u0 59 k).toNat, fun k hk => ?_⟩
    obtain ⟨c, c1, c2, c3⟩ := d3 k hk
    show u0 59 k = (((u0 59 k).toNat : Nat) : Int) ∧ C (u0 59 k).toNat ∧ (u0 59 k).toNat < 16777216
    rw [c1, ntn]
    exact ⟨rfl, c2, c3⟩
  have hcov : ∀ c, C c → ∃ k, k < D ∧ f k = c := fun c hc => by
    obtain ⟨k, k1, k2⟩ := d4 c hc
    exact ⟨k, k1, by have := (hf k k1).1; omega⟩
  let G : Sg → Nat → Prop := fun u b => SS ζ u ∧ u 59 = u0 59 ∧ u 47 = ζ 47 ∧ u 41 40 = (D : Int) ∧ u 41 36 = sumb (z 9) b 24 ∧ u 41 37 = (b : Int) ∧ b < 16777216
  have G0 : G (up (up u0 41 36 0) 41 37 0) 0 := ⟨(s0.ss.up (by unfold Scm; omega)).up (by unfold Scm; omega), by rw [up_k (by decide), up_k (by decide)], by rw [up_k (by decide), up_k (by decide)]; exact s0.row (by decide) (by decide), by rw [up_j (by decide), up_j (by decide)]; exact d1, by rw [up_j (by decide), up_s, sumb_0], by rw [up_s]; rfl, by decide⟩
  generalize up (up u0 41 36 0) 41 37 0 = u1 at *
  refine loop_P (F := fun n i (u : Sg) => f_X10_two_b53 n what i u) D (fun i u => ∃ b : Nat, G u b ∧ TB (z 9) (fun u => ∃ a c, a < i ∧ a ≤ c ∧ c < D ∧ u = f a ||| f c) b) (P := fun x => ∃ (b : Nat) (ζ' : Sg), x = some (if w32 what = 0 then sumb (z 9) b 24 else (b : Int), ζ') ∧ SS ζ ζ' ∧ b < 16777216 ∧ TB (z 9) (fun u => ∃ a c, C a ∧ C c ∧ u = a ||| c) b) (by omega) ?_ ?_ 0 (by omega) u1 ⟨0, G0, Or.inl rfl, fun u ⟨a, c, ha, _⟩ => by omega⟩
  · intro n i u hi hI
    obtain ⟨b, hG, hT⟩ := hI
    right
    rw [f_X10_two_b53, hG.2.2.2.1, w32_n (by omega), w32_n (by omega), if_pos (show (i : Int) < (D : Int) by omega)]
    have Q := loop_P (F := fun x j (u : Sg) => f_X10_two_b66 (f_X10_two_b53 n) x what i j u) D (fun j u => i ≤ j ∧ ∃ b : Nat, G u b ∧ TB (z 9) (fun u => (∃ a c, a < i ∧ a ≤ c ∧ c < D ∧ u = f a ||| f c) ∨ ∃ c, i ≤ c ∧ c < j ∧ u = f i ||| f c) b) (P := fun x => ∃ (b : Nat) (u : Sg), G u b ∧ TB (z 9) (fun u => ∃ a c, a < i + 1 ∧ a ≤ c ∧ c < D ∧ u = f a ||| f c) b ∧ x = f_X10_two_b53 n what ((i : Int) + 1) u) (by omega) ?_ ?_ i (by omega) u ⟨Nat.le_refl i, b, hG, hT.cg fun u => ⟨Or.inl, fun k => k.elim id (fun ⟨c, c1, c2, _⟩ => by omega)⟩⟩
    · obtain ⟨b', u', hG', hT', ex⟩ := Q
      exact ⟨u', ⟨b', hG', hT'⟩, ex⟩
    · intro x j u hj hI
      obtain ⟨hij, b, hG, hT⟩ := hI
      right
      obtain ⟨g1, g2, g3, g4, g5, g6, g7⟩ := hG
      have fi := hf i hi
      have fj := hf j hj
      have ul := or_lt24 fi.2.2 fj.2.2
      have uF : ∀ q, (f i ||| f j).testBit q = true → F.testBit q = true := fun q hq => by
        rw [Nat.testBit_or, Bool.or_eq_true] at hq
        rcases hq with r | r
        · exact hCF _ fi.2.1 q r
        · exact hCF _ fj.2.1 q r
      have cg : ∀ u, ((∃ a c, a < i ∧ a ≤ c ∧ c < D ∧ u = f a ||| f c) ∨ ∃ c, i ≤ c ∧ c < j ∧ u = f i ||| f c) ∨ u = f i ||| f j ↔ (∃ a c, a < i ∧ a ≤ c ∧ c < D ∧ u = f a ||| f c) ∨ ∃ c, i ≤ c ∧ c < j + 1 ∧ u = f i ||| f c := fun u => by
        constructor
        · rintro ((k | ⟨c, c1, c2, c3⟩) | k)
          · exact Or.inl k
          · exact Or.inr ⟨c, c1, by omega, c3⟩
          · exact Or.inr ⟨j, hij, by omega, k⟩
        · rintro (k | ⟨c, c1, c2, c3⟩)
          · exact Or.inl (Or.inl k)
          · rcases Nat.lt_succ_iff_lt_or_eq.1 c2 with r | r
            · exact Or.inl (Or.inr ⟨c, c1, r, c3⟩)
            · rw [r] at c3
              exact Or.inr c3
      have keep : ∀ t, G u b → TB (z 9) (fun u => (∃ a c, a < i ∧ a ≤ c ∧ c < D ∧ u = f a ||| f c) ∨ ∃ c, i ≤ c ∧ c < j + 1 ∧ u = f i ||| f c) b → t = f_X10_two_b66 (f_X10_two_b53 n) x what i ((j : Int) + 1) u → ∃ s' : Sg, (i ≤ j + 1 ∧ ∃ b : Nat, G s' b ∧ TB (z 9) (fun u => (∃ a c, a < i ∧ a ≤ c ∧ c < D ∧ u = f a ||| f c) ∨ ∃ c, i ≤ c ∧ c < j + 1 ∧ u = f i ||| f c) b) ∧ t = f_X10_two_b66 (f_X10_two_b53 n) x what i ((j : Int) + 1) s' := fun t q1 q2 q3 => ⟨u, ⟨by omega, b, q1, q2⟩, q3⟩
      have G2 : G (up (up u 41 36 (sumb (z 9) (f i ||| f j) 24)) 41 37 ((f i ||| f j : Nat) : Int)) (f i ||| f j) := ⟨(g1.up (by unfold Scm; omega)).up (by unfold Scm; omega), by rw [up_k (by decide), up_k (by decide)]; exact g2, by rw [up_k (by decide), up_k (by decide)]; exact g3, by rw [up_j (by decide), up_j (by decide)]; exact g4, by rw [up_j (by decide), up_s], by rw [up_s], ul⟩
      have hG : G u b := ⟨g1, g2, g3, g4, g5, g6, g7⟩
      have take : sumb (z 9) b 24 < sumb (z 9) (f i ||| f j) 24 ∨ (sumb (z 9) (f i ||| f j) 24 = sumb (z 9) b 24 ∧ (f i ||| f j) < b) → ∃ s' : Sg, (i ≤ j + 1 ∧ ∃ b : Nat, G s' b ∧ TB (z 9) (fun u => (∃ a c, a < i ∧ a ≤ c ∧ c < D ∧ u = f a ||| f c) ∨ ∃ c, i ≤ c ∧ c < j + 1 ∧ u = f i ||| f c) b) ∧ f_X10_two_b130 (f_X10_two_b53 n) (f_X10_two_b66 (f_X10_two_b53 n) x) what i j ((f i ||| f j : Nat) : Int) (sumb (z 9) (f i ||| f j) 24) u = f_X10_two_b66 (f_X10_two_b53 n) x what i ((j : Int) + 1) s' := fun q => ⟨_, ⟨by omega, f i ||| f j, G2, (hT.take q).cg cg⟩, rfl⟩
      rw [f_X10_two_b66, g4, w32_n (by omega), w32_n (by omega), if_pos (show (j : Int) < (D : Int) by omega), ck_t (by omega), ck_t (by omega), ntn, ntn, g2, fi.1, fj.1, u32_nat (n := f i) (by omega), u32_nat (n := f j) (by omega), sumOf_n (by omega), Option.bind_some, g3, h.sm uF, g5, g6, w32_eq (sr _), w32_eq (sr _), w32_n (by omega), w32_n (by omega)]
      by_cases c1 : sumb (z 9) (f i ||| f j) 24 < sumb (z 9) b 24
      · rw [if_pos c1]
        exact keep _ hG ((hT.keep (by omega)).cg cg) rfl
      · rw [if_neg c1]
        by_cases c2 : sumb (z 9) (f i ||| f j) 24 = sumb (z 9) b 24
        · rw [if_pos c2]
          by_cases c3 : ((f i ||| f j : Nat) : Int) < (b : Int)
          · rw [if_pos c3]
            exact take (Or.inr ⟨c2, by omega⟩)
          · rw [if_neg c3]
            exact keep _ hG ((hT.keep (by omega)).cg cg) rfl
        · rw [if_neg c2]
          exact take (Or.inl (by omega))
    · intro x u hI
      obtain ⟨-, b, hG, hT⟩ := hI
      rw [f_X10_two_b66, hG.2.2.2.1, if_neg (show ¬ w32 (D : Int) < w32 (D : Int) by omega)]
      refine ⟨b, u, hG, hT.cg fun u => ⟨fun k => ?_, fun k => ?_⟩, rfl⟩
      · rcases k with ⟨a, c, a1, a2⟩ | ⟨c, c1, c2, c3⟩
        · exact ⟨a, c, by omega, a2⟩
        · exact ⟨i, c, by omega, c1, c2, c3⟩
      · obtain ⟨a, c, a1, a2, a3, a4⟩ := k
        rcases Nat.lt_succ_iff_lt_or_eq.1 a1 with r | r
        · exact Or.inl ⟨a, c, r, a2, a3, a4⟩
        · subst r
          exact Or.inr ⟨c, a2, a3, a4⟩
  · intro n u hI
    obtain ⟨b, hG, hT⟩ := hI
    obtain ⟨g1, g2, g3, g4, g5, g6, g7⟩ := hG
    rw [f_X10_two_b53, g4, if_neg (show ¬ w32 (D : Int) < w32 (D : Int) by omega)]
    unfold f_X10_two_b154
    rw [g5, g6]
    refine ⟨b, u, ?_, g1, g7, hT.cg fun u => ⟨fun ⟨a, c, a1, a2, a3, a4⟩ => ⟨f a, f c, (hf a (by omega)).2.1, (hf c a3).2.1, a4⟩, fun ⟨a, c, ha, hc, e⟩ => ?_⟩⟩
    · by_cases q : w32 what = 0
      · rw [if_pos q, if_pos q]
      · rw [if_neg q, if_neg q]
    · obtain ⟨k, k1, k2⟩ := hcov a ha
      obtain ⟨l, l1, l2⟩ := hcov c hc
      rcases Nat.le_total k l with r | r
      · exact ⟨k, l, k1, r, l1, by rw [k2, l2]; exact e⟩
      · exact ⟨l, k, l1, r, k1, by rw [k2, l2, e, Nat.or_comm]⟩
