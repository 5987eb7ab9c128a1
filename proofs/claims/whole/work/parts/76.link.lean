/-! ===== pure level: the class's heaviest is the reference's ===== -/
theorem sumb_25 {S : Nat → Int} {c : Nat} (h : c < 16777216) : sumb S c 25 = sumb S c 24 := by
  rw [show (25 : Nat) = 24 + 1 from rfl, sumb, tb_24 h (Nat.le_refl _)]
  simp
theorem cnd_esN {X Y : Nat → Int} {R : Int} {M s c : Nat} (hM : M < 16777216) (hs : ∀ q, s.testBit q = true → M.testBit q = true) (h : Cnd X Y R s 25 c) (hRR : 0 ≤ R * R) : c < 16777216 ∧ c ≠ 0 ∧ ∃ j, j < 576 ∧ c = esN X Y R M j &&& s := by
  have hsl := sub_24 hM hs
  obtain ⟨a, ha, hab, hc⟩ := h
  have ha := bit_lt hsl hab
  have gen : ∀ b, b < 24 → s.testBit b = true → (∀ q, q < 24 → s.testBit q = true → (c.testBit q = esS X Y R M a b q)) → c < 33554432 → (∀ q, c.testBit q = true → s.testBit q = true) → c.testBit a = true → c < 16777216 ∧ c ≠ 0 ∧ ∃ j, j < 576 ∧ c = esN X Y R M j &&& s := by
    intro b hb hbb h1 h2 h3 h4
    refine ⟨sub_24 hsl h3, fun e => ?_, a * 24 + b, by omega, bits_ext fun q => ?_⟩
    · rw [e, Nat.zero_testBit] at h4
      cases h4
    · unfold esN
      rw [show (a * 24 + b) / 24 = a by omega, show (a * 24 + b) % 24 = b by omega, Nat.testBit_and, tb_mks]
      cases hq : s.testBit q with
      | false =>
        rw [Bool.and_false]
        cases hcq : c.testBit q with
        | false => rfl
        | true =>
          have := h3 q hcq
          rw [hq] at this
          cases this
      | true =>
        have hq24 := bit_lt hsl hq
        rw [Bool.and_true, decide_eq_true hq24, Bool.true_and]
        exact h1 q hq24 hq
  rcases hc with rfl | ⟨b, hb, hlt, hbb, hok, side, rfl⟩
  · refine gen a ha hab (fun q hq hqs => ?_) (ar_lt X Y R s a) (fun q hq => ?_) ?_
    · unfold arS esS
      rw [tb_mks, decide_eq_true (by omega), hqs, hs a hab, hs q hqs, if_pos rfl]
      simp
    · unfold arS at hq
      rw [tb_mks] at hq
      simp at hq
      exact hq.2.1
    · unfold arS
      rw [tb_mks, decide_eq_true (by omega), hab, d2_self, decide_eq_true hRR]
      rfl
  · have hb := bit_lt hsl hbb
    cases side with
    | false =>
      refine gen b hb hbb (fun q hq hqs => ?_) (rm_lt X Y R s a b false) (fun q hq => ?_) ?_
      · unfold rmS esS
        rw [tb_mks, decide_eq_true (by omega), hqs, hs a hab, hs b hbb, hs q hqs, if_neg (by omega)]
        unfold rimD
        unfold rimOk at hok
        rw [decide_eq_true hok]
        by_cases e1 : q = a
        · subst e1
          rw [inD_a]
          simp
        · by_cases e2 : q = b
          · subst e2
            rw [inD_b]
            simp
          · simp [e1, e2]
      · unfold rmS at hq
        rw [tb_mks] at hq
        simp at hq
        exact hq.2.1
      · unfold rmS
        rw [tb_mks, decide_eq_true (by omega), hab]
        simp
    | true =>
      refine (fun g : rmS X Y R s a b true < 16777216 ∧ rmS X Y R s a b true ≠ 0 ∧ ∃ j, j < 576 ∧ rmS X Y R s a b true = esN X Y R M j &&& s => g) ?_
      have h3 : ∀ q, (rmS X Y R s a b true).testBit q = true → s.testBit q = true := fun q hq => by
        unfold rmS at hq
        rw [tb_mks] at hq
        simp at hq
        exact hq.2.1
      refine ⟨sub_24 hsl h3, fun e => ?_, b * 24 + a, by omega, bits_ext fun q => ?_⟩
      · have h4 : (rmS X Y R s a b true).testBit a = true := by
          unfold rmS
          rw [tb_mks, decide_eq_true (by omega), hab]
          simp
        rw [e, Nat.zero_testBit] at h4
        cases h4
      · unfold esN
        rw [show (b * 24 + a) / 24 = b by omega, show (b * 24 + a) % 24 = a by omega, Nat.testBit_and, tb_mks]
        cases hq : s.testBit q with
        | false =>
          rw [Bool.and_false]
          cases hcq : (rmS X Y R s a b true).testBit q with
          | false => rfl
          | true =>
            have := h3 q hcq
            rw [hq] at this
            cases this
        | true =>
          have hq24 := bit_lt hsl hq
          rw [Bool.and_true, decide_eq_true hq24, Bool.true_and]
          unfold rmS esS
          rw [tb_mks, decide_eq_true (by omega), hq, hs a hab, hs b hbb, hs q hq, if_neg (by omega), rimD_sym]
          unfold rimD
          unfold rimOk at hok
          rw [decide_eq_true hok]
          by_cases e1 : q = a
          · subst e1
            rw [Bool.not_false, inD_a]
            simp
          · by_cases e2 : q = b
            · subst e2
              rw [Bool.not_false, inD_b]
              simp
            · simp [e1, e2]
/-- what lies in a disc of all lies, as far as it is of some, in a disc of these -/
theorem cnd_cov {X Y : Nat → Int} {R : Int} {M s j o : Nat} (hM : M < 16777216) (hs : ∀ q, s.testBit q = true → M.testBit q = true) (hj : j < 576) (hRR : 0 ≤ R * R) (ho : o ≠ 0) (hos : ∀ q, o.testBit q = true → s.testBit q = true ∧ (esN X Y R M j).testBit q = true) :
    ∃ c, Cnd X Y R s 25 c ∧ ∀ q, o.testBit q = true → c.testBit q = true := by
  have hsl := sub_24 hM hs
  have ho24 : ∀ q, o.testBit q = true → q < 24 := fun q hq => bit_lt hsl (hos q hq).1
  have mem : ∀ q, q ∈ (List.range 24).filter (fun q => o.testBit q) ↔ o.testBit q = true := fun q => by
    rw [List.mem_filter, List.mem_range]
    exact ⟨fun h => h.2, fun h => ⟨ho24 q h, h⟩⟩
  by_cases hu : ∃ p, p ∈ (List.range 24).filter (fun q => o.testBit q) ∧ ∃ q, q ∈ (List.range 24).filter (fun q => o.testBit q) ∧ d2 X Y p q ≠ 0
  · have hc : (∃ a, ∀ q, q ∈ (List.range 24).filter (fun q => o.testBit q) → d2 X Y a q ≤ R * R) ∨ ∃ a b side, rimOk X Y R a b ∧ ∀ q, q ∈ (List.range 24).filter (fun q => o.testBit q) → inD X Y R a b side q = true := by
      have hq : ∀ q, o.testBit q = true → (if j / 24 = j % 24 then decide (d2 X Y (j / 24) q ≤ R * R) else rimD X Y R (j / 24) (j % 24) false q) = true := fun q hq => by
        have := (hos q hq).2
        unfold esN at this
        rw [tb_mks] at this
        unfold esS at this
        rw [Bool.and_eq_true, Bool.and_eq_true] at this
        exact this.2.2
      by_cases hab : j / 24 = j % 24
      · left
        refine ⟨j / 24, fun q hm => ?_⟩
        have := hq q ((mem q).mp hm)
        rw [if_pos hab, decide_eq_true_iff] at this
        exact this
      · right
        obtain ⟨q0, h0⟩ := ex_bit ho
        have h1 := hq q0 h0
        rw [if_neg hab, rimD_iff] at h1
        refine ⟨j / 24, j % 24, false, h1.1, fun q hm => ?_⟩
        have := hq q ((mem q).mp hm)
        rw [if_neg hab, rimD_iff] at this
        exact this.2
    obtain ⟨a, ha, b, hb, hok, side, hin⟩ := geo_pair hc hu
    have ha := (mem a).mp ha
    have hb := (mem b).mp hb
    have hne : a ≠ b := fun e => by
      have := hok.1
      rw [e, d2_self] at this
      omega
    have fin : ∀ a b side, o.testBit a = true → o.testBit b = true → a < b → rimOk X Y R a b → (∀ q, o.testBit q = true → inD X Y R a b side q = true) → ∃ c, Cnd X Y R s 25 c ∧ ∀ q, o.testBit q = true → c.testBit q = true := by
      intro a b side ha hb hlt hok hin
      refine ⟨rmS X Y R s a b side, ⟨a, by have := ho24 a ha; omega, (hos a ha).1, Or.inr ⟨b, by have := ho24 b hb; omega, hlt, (hos b hb).1, hok, side, rfl⟩⟩, fun q hq => ?_⟩
      unfold rmS
      rw [tb_mks, decide_eq_true (by have := ho24 q hq; omega), (hos q hq).1, hin q hq]
      simp
    rcases Nat.lt_or_gt_of_ne hne with h | h
    · exact fin a b side ha hb h hok (fun q hq => hin q ((mem q).mpr hq))
    · exact fin b a (!side) hb ha h (rim_sym.mp hok) (fun q hq => by rw [← inD_sym]; exact hin q ((mem q).mpr hq))
  · obtain ⟨p, hp⟩ := ex_bit ho
    refine ⟨arS X Y R s p, ⟨p, by have := ho24 p hp; omega, (hos p hp).1, Or.inl rfl⟩, fun q hq => ?_⟩
    have h0 : d2 X Y p q = 0 := Classical.byContradiction fun h => hu ⟨p, (mem p).mpr hp, q, (mem q).mpr hq, h⟩
    unfold arS
    rw [tb_mks, decide_eq_true (by have := ho24 q hq; omega), (hos q hq).1, h0, decide_eq_true hRR]
    rfl
theorem hv_of {X Y S : Nat → Int} {R : Int} {M s o : Nat} (hM : M < 16777216) (hs : ∀ q, s.testBit q = true → M.testBit q = true) (hRR : 0 ≤ R * R) (hS : ∀ q, s.testBit q = true → 0 < S q) (h : HvI S (fun j => esN X Y R M j &&& s) 576 o) :
    hvS X Y S R none s = (sumb S o 24, (o : Int)) := by
  have hsl := sub_24 hM hs
  unfold hvS
  by_cases h0 : s = 0
  · rw [if_pos h0]
    have : o = 0 := by
      rcases h with ⟨h1, -⟩ | ⟨h1, ⟨j, -, h2⟩, -⟩
      · exact h1
      · rw [h2, h0]
        exact Nat.and_zero _
    rw [this, sumb_0]
    rfl
  · rw [if_neg h0]
    obtain ⟨p, hp⟩ := ex_bit h0
    have hne : ∃ c, Cnd X Y R s 25 c := ⟨arS X Y R s p, p, by have := bit_lt hsl hp; omega, hp, Or.inl rfl⟩
    rcases h with ⟨-, h1⟩ | ⟨h1, ⟨j, hj, h2⟩, h3⟩
    · obtain ⟨c, hc⟩ := hne
      obtain ⟨-, c0, j, hj, e⟩ := cnd_esN hM hs hc hRR
      exact absurd (e.trans (h1 j hj)) c0
    · have h2 : o = esN X Y R M j &&& s := h2
      have oe : ∀ q, o.testBit q = true → s.testBit q = true ∧ (esN X Y R M j).testBit q = true := fun q hq => by
        rw [h2, Nat.testBit_and, Bool.and_eq_true] at hq
        exact ⟨hq.2, hq.1⟩
      have ol : o < 16777216 := sub_24 hsl (fun q hq => (oe q hq).1)
      obtain ⟨c, hc, hoc⟩ := cnd_cov hM hs hj hRR h1 oe
      obtain ⟨cl, c0, k, hk, e⟩ := cnd_esN hM hs hc hRR
      have cs : ∀ q, c.testBit q = true → s.testBit q = true := fun q hq => by
        rw [e, Nat.testBit_and, Bool.and_eq_true] at hq
        exact hq.2
      have eco : o = c := by
        have hle := h3 k hk (fun q => c0 (e.trans q))
        have hle : sumb S c 24 ≤ sumb S o 24 := by
          have e' : (fun j => esN X Y R M j &&& s) k = c := e.symm
          rw [e'] at hle
          omega
        refine bits_ext fun q => ?_
        cases ho : o.testBit q with
        | true => exact (hoc q ho).symm
        | false =>
          cases hcq : c.testBit q with
          | false => rfl
          | true =>
            have := sumb_lt (S := S) (s := o) (t := c) (k := q) (n := 24) (fun i _ hi => hoc i hi) (fun i _ hi => hS i (cs i hi)) (bit_lt cl hcq) hcq ho
            omega
      have hB : BestOf (Ofd S none (Cnd X Y R s 25)) (sumb S o 24) (o : Int) := by
        right
        refine ⟨o, rfl, ⟨o, by rw [eco]; exact hc, (sumb_25 ol).symm, rfl⟩, ?_⟩
        rintro x y ⟨c', hc', hx, hy⟩
        have hy : y = c' := hy
        obtain ⟨cl', c0', k', hk', e'⟩ := cnd_esN hM hs hc' hRR
        have := h3 k' hk' (fun q => c0' (e'.trans q))
        have e2 : (fun j => esN X Y R M j &&& s) k' = c' := e'.symm
        rw [e2] at this
        rw [sumb_25 cl'] at hx
        subst hx
        subst hy
        exact this
      obtain ⟨v1, v2⟩ := hB.v
      rw [v1, v2]
