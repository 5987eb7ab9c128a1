/-! ===== pure level: chains, the reference's chain ===== -/
theorem chainOf_n {z ζ u0 : Sg} {F s p : Nat} {R : Int} (h : RelB z ζ F) (sc : Scr ζ u0) (hs : ∀ q, s.testBit q = true → F.testBit q = true) (hp : s.testBit p = true) (hR : 0 ≤ R ∧ R ≤ 300) :
    ∃ (c : Nat) (u : Sg), f_X10_chainOf (p : Int) (s : Int) R u0 = some ((c : Int), u) ∧ Scr ζ u ∧ c < 16777216 ∧ IsC (ζ 45) (ζ 46) R s p c := by
  have hFl := h.1.2.1
  have hsl := sub_24 hFl hs
  have hp24 := bit_lt hsl hp
  have hMr := MRow.of h
  have pl : ∀ {u : Sg}, Scr ζ u → ∀ q, q < 24 → Pl (u 45) (u 46) q := fun {u} s q hq => by
    rw [s.row (by decide : 45 ≠ 41), s.row (by decide : 46 ≠ 41)]
    exact (hMr q hq).2.2.1
  have av : ∀ {u : Sg} (a c : Nat), Scr ζ u → a < 24 → c < 16777216 → ∃ u', f_X10_around (a : Int) (c : Int) R u = some (((arS (ζ 45) (ζ 46) R c a : Nat) : Int), u') ∧ Scr ζ u' := fun {u} a c s ha hc => by
    refine ⟨_, ?_, s.tr (Scr.up (j := 35) (v := sumb (u 47) (arS (u 45) (u 46) R c a) 25) (by decide))⟩
    have e := around_n (σ := u) (p := a) (s := c) (R := R) (by omega) (by omega) (sq_R ⟨by omega, by omega⟩) (fun q _ hb => by
      have := d2_bd (pl s a ha) (pl s q (bit_lt hc hb))
      exact ⟨by omega, by omega⟩)
    rw [e, s.row (by decide : 45 ≠ 41), s.row (by decide : 46 ≠ 41)]
  have az : ∀ (a c : Nat), c < 16777216 → (arS (ζ 45) (ζ 46) R c a = 0 ↔ ∀ b, c.testBit b = true → ¬ d2 (ζ 45) (ζ 46) b a ≤ R * R) := fun a c hc => by
    constructor
    · intro e b hb hd
      have : (arS (ζ 45) (ζ 46) R c a).testBit b = true := by
        unfold arS
        rw [tb_mks, decide_eq_true (by have := bit_lt hc hb; omega), hb, d2_sym, decide_eq_true hd]
        rfl
      rw [e, Nat.zero_testBit] at this
      cases this
    · intro k
      refine Classical.byContradiction fun e => ?_
      obtain ⟨b, hb⟩ := ex_bit e
      unfold arS at hb
      rw [tb_mks, Bool.and_eq_true, Bool.and_eq_true, decide_eq_true_iff, decide_eq_true_iff] at hb
      exact k b hb.2.1 (by rw [d2_sym]; exact hb.2.2)
  unfold f_X10_chainOf
  rw [one_shl (by omega)]
  let K : Nat → Prop := fun c => (c < 16777216 ∧ c.testBit p = true) ∧ ∀ T : Nat → Prop, T p → (∀ a b, T a → s.testBit b = true → d2 (ζ 45) (ζ 46) a b ≤ R * R → T b) → ∀ q, c.testBit q = true → T q
  refine loop_P (F := fun n _ (u : Int × Int × Sg) => f_X10_chainOf_b8 n (s : Int) R u.1 u.2.1 u.2.2) 26 (fun i u => ∃ (c w : Nat) (v : Sg), u = ((c : Int), (w : Int), v) ∧ Scr ζ v ∧ K c ∧ w < 16777216 ∧ (w = c → ∀ a b, c.testBit a = true → s.testBit b = true → d2 (ζ 45) (ζ 46) a b ≤ R * R → c.testBit b = true) ∧ (w ≠ c → (i : Int) ≤ cdn c)) (P := fun x => ∃ (c : Nat) (u : Sg), x = some ((c : Int), u) ∧ Scr ζ u ∧ c < 16777216 ∧ IsC (ζ 45) (ζ 46) R s p c) (by decide) ?_ ?_ 0 (by decide) (((2 ^ p : Nat) : Int), 0, u0) ?_
  · intro n i u hi hI
    obtain ⟨c0, w0, v, rfl, sv, hK, hwl, hcl, hcd⟩ := hI
    show (∃ (c : Nat) (u : Sg), f_X10_chainOf_b8 (n + 1) (s : Int) R (c0 : Int) (w0 : Int) v = some ((c : Int), u) ∧ _) ∨ ∃ s' : Int × Int × Sg, _ ∧ f_X10_chainOf_b8 (n + 1) (s : Int) R (c0 : Int) (w0 : Int) v = f_X10_chainOf_b8 n (s : Int) R s'.1 s'.2.1 s'.2.2
    have hc0 := hK.1.1
    rw [f_X10_chainOf_b8, w32_n (by omega), w32_n (by omega)]
    by_cases hw : w0 = c0
    · left
      rw [if_pos (by omega)]
      exact ⟨c0, v, rfl, sv, hc0, hK.1.2, hcl hw, hK.2⟩
    · right
      rw [if_neg (by omega)]
      have Q := loop_P (F := fun x j (u : Int × Sg) => f_X10_chainOf_b22 (f_X10_chainOf_b8 n) x (s : Int) R u.1 (c0 : Int) j u.2) 24 (fun j u => ∃ (c : Nat) (v : Sg), u = ((c : Int), v) ∧ Scr ζ v ∧ K c ∧ (∀ q, c0.testBit q = true → c.testBit q = true) ∧ (c = c0 → ∀ q, q < j → s.testBit q = true → c0.testBit q = false → ∀ a, c0.testBit a = true → ¬ d2 (ζ 45) (ζ 46) a q ≤ R * R)) (P := fun x => ∃ (c : Nat) (v : Sg), Scr ζ v ∧ K c ∧ (∀ q, c0.testBit q = true → c.testBit q = true) ∧ (c = c0 → ∀ q, s.testBit q = true → c0.testBit q = false → ∀ a, c0.testBit a = true → ¬ d2 (ζ 45) (ζ 46) a q ≤ R * R) ∧ x = f_X10_chainOf_b8 n (s : Int) R (c : Int) (c0 : Int) v) (by decide) ?_ ?_ 0 (by decide) ((c0 : Int), v) ⟨c0, v, rfl, sv, hK, fun q k => k, fun _ q hq => by omega⟩
      · obtain ⟨c, v', sv', hK', hsub, hno, ex⟩ := Q
        have ex : f_X10_chainOf_b22 (f_X10_chainOf_b8 n) FUEL (s : Int) R (c0 : Int) (c0 : Int) 0 v = _ := ex
        rw [ex]
        refine ⟨((c : Int), (c0 : Int), v'), ⟨c, c0, v', rfl, sv', hK', hc0, fun e a b ha hb hd => ?_, fun e => ?_⟩, rfl⟩
        · subst e
          cases hcb : c0.testBit b with
          | true => rfl
          | false => exact absurd hd (hno rfl b hb hcb a ha)
        · obtain ⟨k, k1, k2⟩ := ne_bit e hsub
          have := cdn_lt hsub hK'.1.1 k1 k2
          have := hcd hw
          omega
      · intro x j u hj hI
        obtain ⟨c, v, rfl, sv, hK', hsub, hno⟩ := hI
        right
        have hcl := hK'.1.1
        show ∃ s' : Int × Sg, _ ∧ f_X10_chainOf_b22 (f_X10_chainOf_b8 n) (x + 1) (s : Int) R (c : Int) (c0 : Int) j v = f_X10_chainOf_b22 (f_X10_chainOf_b8 n) x (s : Int) R s'.1 (c0 : Int) ((j : Int) + 1) s'.2
        have st : ∀ v', Scr ζ v' → (c = c0 → s.testBit j = true → c0.testBit j = false → ∀ a, c0.testBit a = true → ¬ d2 (ζ 45) (ζ 46) a j ≤ R * R) → ∃ s' : Int × Sg, (∃ (c : Nat) (v : Sg), s' = ((c : Int), v) ∧ Scr ζ v ∧ K c ∧ (∀ q, c0.testBit q = true → c.testBit q = true) ∧ (c = c0 → ∀ q, q < j + 1 → s.testBit q = true → c0.testBit q = false → ∀ a, c0.testBit a = true → ¬ d2 (ζ 45) (ζ 46) a q ≤ R * R)) ∧ f_X10_chainOf_b69 (f_X10_chainOf_b8 n) (f_X10_chainOf_b22 (f_X10_chainOf_b8 n) x) (s : Int) R (c : Int) (c0 : Int) j v' = f_X10_chainOf_b22 (f_X10_chainOf_b8 n) x (s : Int) R s'.1 (c0 : Int) ((j : Int) + 1) s'.2 := fun v' sv' k => by
          refine ⟨((c : Int), v'), ⟨c, v', rfl, sv', hK', hsub, fun e q hq h1 h2 => ?_⟩, rfl⟩
          rcases Nat.lt_succ_iff_lt_or_eq.1 hq with r | r
          · exact hno e q r h1 h2
          · subst r
            exact k e h1 h2
        rw [f_X10_chainOf_b22, w32_n (by omega), if_pos (show (j : Int) < 24 by omega), has_n (by omega) (by omega), Option.bind_some]
        by_cases hb : s.testBit j = true
        · rw [b01_t hb, has_n (by omega) (by omega), Option.bind_some]
          by_cases hc : c.testBit j = true
          · have nz : ¬ w32 (if c.testBit j = true then 1 else 0) = 0 := by
              rw [if_pos hc, w32_1]
              decide
            rw [if_neg nz]
            exact st v sv fun e _ h2 => by
              rw [e, h2] at hc
              cases hc
          · have hcf : c.testBit j = false := Bool.eq_false_iff.mpr hc
            obtain ⟨u', e, su'⟩ := av j c sv hj hcl
            rw [b01_f hcf, e, Option.bind_some]
            dsimp only
            by_cases hz : arS (ζ 45) (ζ 46) R c j = 0
            · rw [if_pos (show w32 ((arS (ζ 45) (ζ 46) R c j : Nat) : Int) = 0 by rw [hz]; decide)]
              exact st u' su' fun e _ _ => by
                subst e
                exact (az j c hK'.1.1).mp hz
            · rw [if_neg (show ¬ w32 ((arS (ζ 45) (ζ 46) R c j : Nat) : Int) = 0 by rw [w32_n (by have := ar_lt (ζ 45) (ζ 46) R c j; omega)]; omega), one_shl (by omega), u32_nat (n := c) (by omega), u32_nat (pow_lt (by omega))]
              obtain ⟨a, ha, had⟩ : ∃ a, c.testBit a = true ∧ d2 (ζ 45) (ζ 46) a j ≤ R * R := Classical.byContradiction fun hn => hz ((az j c hcl).mpr fun b hb hd => hn ⟨b, hb, hd⟩)
              have cb : ∀ q, (c ||| 2 ^ j).testBit q = true ↔ (c.testBit q = true ∨ q = j) := fun q => tb_or_pow
              refine ⟨(((c ||| 2 ^ j : Nat) : Int), u'), ⟨c ||| 2 ^ j, u', rfl, su', ⟨⟨or_lt24 hcl (pow_24 hj), (cb p).mpr (Or.inl hK'.1.2)⟩, fun T hT hcT q hq => ?_⟩, fun q hq => (cb q).mpr (Or.inl (hsub q hq)), fun e => ?_⟩, rfl⟩
              · rcases (cb q).mp hq with k | k
                · exact hK'.2 T hT hcT q k
                · rw [k]
                  exact hcT a j (hK'.2 T hT hcT a ha) hb had
              · exfalso
                have h1 := (cb j).mpr (Or.inr rfl)
                rw [e] at h1
                rw [hsub j h1] at hcf
                cases hcf
        · have hbf : s.testBit j = false := Bool.eq_false_iff.mpr hb
          rw [b01_f hbf]
          exact st v sv fun _ h1 => absurd h1 hb
      · intro x u hI
        obtain ⟨c, v, rfl, sv, hK', hsub, hno⟩ := hI
        show ∃ (c' : Nat) (v' : Sg), _ ∧ _ ∧ _ ∧ _ ∧ f_X10_chainOf_b22 (f_X10_chainOf_b8 n) (x + 1) (s : Int) R (c : Int) (c0 : Int) ((24 : Nat) : Int) v = _
        rw [f_X10_chainOf_b22, w32_n (by decide), if_neg (show ¬ ((24 : Nat) : Int) < 24 by decide)]
        exact ⟨c, v, sv, hK', hsub, fun e q h1 => hno e q (bit_lt hsl h1) h1, rfl⟩
  · intro n u hI
    obtain ⟨c, w, v, rfl, sv, hK, hwl, hcl, hcd⟩ := hI
    show ∃ (c' : Nat) (u : Sg), f_X10_chainOf_b8 (n + 1) (s : Int) R (c : Int) (w : Int) v = some ((c' : Int), u) ∧ _
    have hc0 := hK.1.1
    by_cases hw : w = c
    · rw [f_X10_chainOf_b8, w32_n (by omega), w32_n (by omega), if_pos (by omega)]
      exact ⟨c, v, rfl, sv, hc0, hK.1.2, hcl hw, hK.2⟩
    · exfalso
      have h1 := hcd hw
      have h2 := cdn_b c
      omega
  · refine ⟨2 ^ p, 0, u0, rfl, sc, ⟨⟨pow_24 hp24, by rw [tb_pow]; exact beq_self_eq_true p⟩, fun T hT _ q hq => ?_⟩, by decide, fun e => ?_, fun _ => (cdn_b _).1⟩
    · rw [tb_pow, beq_iff_eq] at hq
      rw [hq]
      exact hT
    · have := Nat.two_pow_pos p
      omega
