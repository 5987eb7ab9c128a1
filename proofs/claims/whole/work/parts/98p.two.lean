/-! ===== pure level: the heaviest two, the class's side ===== -/
def TB (S : Nat → Int) (P : Nat → Prop) (b : Nat) : Prop := (b = 0 ∨ P b) ∧ ∀ u, P u → sumb S u 24 < sumb S b 24 ∨ (sumb S u 24 = sumb S b 24 ∧ b ≤ u)
theorem TB.cg {S : Nat → Int} {P Q : Nat → Prop} {b : Nat} (h : TB S P b) (e : ∀ u, P u ↔ Q u) : TB S Q b := ⟨h.1.imp id (e b).mp, fun u hu => h.2 u ((e u).mpr hu)⟩
theorem TB.take {S : Nat → Int} {P : Nat → Prop} {b u : Nat} (h : TB S P b) (hu : sumb S b 24 < sumb S u 24 ∨ (sumb S u 24 = sumb S b 24 ∧ u < b)) : TB S (fun x => P x ∨ x = u) u := by
  refine ⟨Or.inr (Or.inr rfl), fun x hx => ?_⟩
  rcases hx with hx | hx
  · have := h.2 x hx
    omega
  · rw [hx]
    exact Or.inr ⟨rfl, Nat.le_refl _⟩
theorem TB.keep {S : Nat → Int} {P : Nat → Prop} {b u : Nat} (h : TB S P b) (hu : ¬ (sumb S b 24 < sumb S u 24 ∨ (sumb S u 24 = sumb S b 24 ∧ u < b))) : TB S (fun x => P x ∨ x = u) b := by
  refine ⟨h.1.imp id Or.inl, fun x hx => ?_⟩
  rcases hx with hx | hx
  · exact h.2 x hx
  · rw [hx]
    omega
theorem TB.u {S : Nat → Int} {P Q : Nat → Prop} {b c : Nat} (h : TB S P b) (k : TB S Q c) (hPQ : ∀ u, P u → Q u) (hQP : ∀ u, Q u → ∃ v, P v ∧ SubN u v) (hl : ∀ u, Q u → u < 16777216 ∧ u ≠ 0 ∧ ∀ q, u.testBit q = true → 0 < S q) : b = c := by
  have pos : ∀ u, Q u → 0 < sumb S u 24 := fun u hu => sumb_pos (hl u hu).1 (hl u hu).2.1 (hl u hu).2.2
  rcases k.1 with k0 | k1
  · subst k0
    rcases h.1 with h0 | h1
    · exact h0
    · have := k.2 b (hPQ b h1)
      have := pos b (hPQ b h1)
      rw [sumb_0] at *
      omega
  · obtain ⟨v, v1, v2⟩ := hQP c k1
    have hv := hl v (hPQ v v1)
    have e1 := k.2 v (hPQ v v1)
    have e2 : sumb S c 24 ≤ sumb S v 24 := sumb_mono (fun i _ hi => v2 i hi) (fun i _ hi => Int.le_of_lt (hv.2.2 i hi))
    have ecv : c = v := Classical.byContradiction fun q => by
      obtain ⟨t, t1, t2⟩ := ne_bit q v2
      have := sumb_lt (S := S) (n := 24) (fun i _ hi => v2 i hi) (fun i _ hi => hv.2.2 i hi) (bit_lt hv.1 t1) t1 t2
      omega
    subst ecv
    have e3 := h.2 c v1
    rcases h.1 with h0 | h1
    · subst h0
      have := pos c k1
      rw [sumb_0] at e3
      omega
    · have e4 := k.2 b (hPQ b h1)
      omega
theorem heaviestTwo_n {z ζ : Sg} {F D : Nat} {f : Nat → Nat} (h : RelB z ζ F) (hF : Fam z D f) :
    ∃ b : Nat, f_X3_heaviestTwo z = some (b : Int) ∧ b < 16777216 ∧ TB (z 9) (fun u => ∃ a c, a < D ∧ a ≤ c ∧ c < D ∧ u = f a ||| f c) b := by
  obtain ⟨h1, h2, h3, h4⟩ := hF
  have sr : ∀ s, InR (sumb (z 9) s 24) := fun s => by
    have := h.sin (s := s)
    exact ⟨by omega, by omega⟩
  unfold f_X3_heaviestTwo
  refine loop_P (F := fun n i (u : Int × Int) => f_X3_heaviestTwo_b7 z n u.1 u.2 i) D (fun i u => ∃ b : Nat, u = ((b : Int), sumb (z 9) b 24) ∧ b < 16777216 ∧ TB (z 9) (fun u => ∃ a c, a < i ∧ a ≤ c ∧ c < D ∧ u = f a ||| f c) b) (P := fun x => ∃ b : Nat, x = some (b : Int) ∧ b < 16777216 ∧ TB (z 9) (fun u => ∃ a c, a < D ∧ a ≤ c ∧ c < D ∧ u = f a ||| f c) b) (by omega) ?_ ?_ 0 (by omega) (0, 0) ⟨0, by rw [sumb_0]; rfl, by decide, Or.inl rfl, fun u ⟨a, c, ha, _⟩ => by omega⟩
  · intro n i u hi hI
    obtain ⟨b, rfl, bl, hT⟩ := hI
    right
    show ∃ s' : Int × Int, _ ∧ f_X3_heaviestTwo_b7 z (n + 1) (b : Int) (sumb (z 9) b 24) i = f_X3_heaviestTwo_b7 z n s'.1 s'.2 ((i : Int) + 1)
    rw [f_X3_heaviestTwo_b7, h1, w32_n (by omega), w32_n (by omega), if_pos (show (i : Int) < (D : Int) by omega), if_pos (show (i : Int) < 576 by omega)]
    have Q := loop_P (F := fun x j (u : Int × Int) => f_X3_heaviestTwo_b30 z (f_X3_heaviestTwo_b7 z n) x u.1 u.2 i j) D (fun j u => i ≤ j ∧ ∃ b : Nat, u = ((b : Int), sumb (z 9) b 24) ∧ b < 16777216 ∧ TB (z 9) (fun u => (∃ a c, a < i ∧ a ≤ c ∧ c < D ∧ u = f a ||| f c) ∨ ∃ c, i ≤ c ∧ c < j ∧ u = f i ||| f c) b) (P := fun x => ∃ b : Nat, b < 16777216 ∧ TB (z 9) (fun u => ∃ a c, a < i + 1 ∧ a ≤ c ∧ c < D ∧ u = f a ||| f c) b ∧ x = f_X3_heaviestTwo_b7 z n (b : Int) (sumb (z 9) b 24) ((i : Int) + 1)) (by omega) ?_ ?_ i (by omega) ((b : Int), sumb (z 9) b 24) ⟨Nat.le_refl i, b, rfl, bl, hT.cg fun u => ⟨Or.inl, fun k => k.elim id (fun ⟨c, c1, c2, _⟩ => by omega)⟩⟩
    · obtain ⟨b', bl', hT', ex⟩ := Q
      exact ⟨((b' : Int), sumb (z 9) b' 24), ⟨b', rfl, bl', hT'⟩, ex⟩
    · intro x j u hj hI
      obtain ⟨hij, b, rfl, bl, hT⟩ := hI
      · right
        have fi := h3 i hi
        have fj := h3 j hj
        have ul := or_lt24 fi.2 fj.2
        show ∃ s' : Int × Int, _ ∧ f_X3_heaviestTwo_b30 z (f_X3_heaviestTwo_b7 z n) (x + 1) (b : Int) (sumb (z 9) b 24) i j = f_X3_heaviestTwo_b30 z (f_X3_heaviestTwo_b7 z n) x s'.1 s'.2 i ((j : Int) + 1)
        have cg : ∀ u, ((∃ a c, a < i ∧ a ≤ c ∧ c < D ∧ u = f a ||| f c) ∨ ∃ c, i ≤ c ∧ c < j ∧ u = f i ||| f c) ∨ u = f i ||| f j ↔ (∃ a c, a < i ∧ a ≤ c ∧ c < D ∧ u = f a ||| f c) ∨ ∃ c, i ≤ c ∧ c < j + 1 ∧ u = f i ||| f c := fun u => by
          constructor
          · rintro ((k | ⟨c, c1, c2, c3⟩) | k)
            · exact Or.inl k
            · exact Or.inr ⟨c, c1, by omega, c3⟩
            · exact Or.inr ⟨j, hij, by omega, k⟩
          · rintro (k | ⟨c, c1, c2, c3⟩)
            · exact Or.inl (Or.inl k)
            · rcases Nat.lt_succ_iff_lt_or_eq.1 c2 with r | r
              · exact Or.inl (Or.inr ⟨c, c1, r, c3⟩)
              · rw [r] at c3
                exact Or.inr c3
        rw [f_X3_heaviestTwo_b30, h1, w32_n (by omega), w32_n (by omega), if_pos (show (j : Int) < (D : Int) by omega), if_pos (show (j : Int) < 576 by omega), ck_t (by omega), ck_t (by omega), ntn, ntn, fi.1, fj.1, u32_nat (n := f i) (by omega), u32_nat (n := f j) (by omega), sums_n h.2 ul, Option.bind_some, w32_eq (sr _), w32_eq (sr _), w32_n (by omega), w32_n (by omega)]
        by_cases c1 : sumb (z 9) (f i ||| f j) 24 ≤ sumb (z 9) b 24
        · rw [if_pos c1]
          by_cases c2 : sumb (z 9) (f i ||| f j) 24 = sumb (z 9) b 24
          · rw [if_pos c2]
            by_cases c3 : ((f i ||| f j : Nat) : Int) < (b : Int)
            · rw [if_pos c3]
              exact ⟨_, ⟨by omega, f i ||| f j, rfl, ul, (hT.take (Or.inr ⟨c2, by omega⟩)).cg cg⟩, rfl⟩
            · rw [if_neg c3]
              exact ⟨_, ⟨by omega, b, rfl, bl, (hT.keep (by omega)).cg cg⟩, rfl⟩
          · rw [if_neg c2]
            exact ⟨_, ⟨by omega, b, rfl, bl, (hT.keep (by omega)).cg cg⟩, rfl⟩
        · rw [if_neg c1]
          exact ⟨_, ⟨by omega, f i ||| f j, rfl, ul, (hT.take (Or.inl (by omega))).cg cg⟩, rfl⟩
    · intro x u hI
      obtain ⟨-, b, rfl, bl, hT⟩ := hI
      show ∃ b' : Nat, _ ∧ _ ∧ f_X3_heaviestTwo_b30 z (f_X3_heaviestTwo_b7 z n) (x + 1) (b : Int) (sumb (z 9) b 24) i (D : Int) = _
      rw [f_X3_heaviestTwo_b30, h1, if_neg (show ¬ w32 (D : Int) < w32 (D : Int) by omega)]
      refine ⟨b, bl, hT.cg fun u => ⟨fun k => ?_, fun k => ?_⟩, rfl⟩
      · rcases k with ⟨a, c, a1, a2⟩ | ⟨c, c1, c2, c3⟩
        · exact ⟨a, c, by omega, a2⟩
        · exact ⟨i, c, by omega, c1, c2, c3⟩
      · obtain ⟨a, c, a1, a2, a3, a4⟩ := k
        rcases Nat.lt_succ_iff_lt_or_eq.1 a1 with r | r
        · exact Or.inl ⟨a, c, r, a2, a3, a4⟩
        · subst r
          exact Or.inr ⟨c, a2, a3, a4⟩
  · intro n u hI
    obtain ⟨b, rfl, bl, hT⟩ := hI
    show ∃ b' : Nat, f_X3_heaviestTwo_b7 z (n + 1) (b : Int) (sumb (z 9) b 24) (D : Int) = some (b' : Int) ∧ _
    rw [f_X3_heaviestTwo_b7, h1, if_neg (show ¬ w32 (D : Int) < w32 (D : Int) by omega)]
    exact ⟨b, rfl, bl, hT⟩
