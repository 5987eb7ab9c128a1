/-! ===== pure level: two, the question ===== -/
theorem esN_cg {z ζ : Sg} {F j S : Nat} {R : Int} (h : RelB z ζ F) (hj : j < 576) : esN (z 7) (z 8) R S j = esN (ζ 45) (ζ 46) R S j := mks_congr fun q hq => by
  obtain ⟨-, ⟨a1, a2, -⟩, -⟩ := h.1.2.2 (j / 24) (by omega)
  obtain ⟨-, ⟨b1, b2, -⟩, -⟩ := h.1.2.2 (j % 24) (by omega)
  obtain ⟨-, ⟨q1, q2, -⟩, -⟩ := h.1.2.2 q hq
  unfold esS rimD inD dotp crs d2
  rw [a1, a2, b1, b2, q1, q2]
/-- the class's family for some of the policies -/
theorem family_n {z ζ : Sg} {F S : Nat} {R : Int} (h : RelB z ζ F) (hs : ∀ q, S.testBit q = true → F.testBit q = true) (hR : 1 ≤ R ∧ R ≤ 300) :
    ∃ (z1 z2 : Sg) (D : Nat) (f : Nat → Nat), f_X2_fill 6 R (S : Int) z = some z1 ∧ f_X3_gather 6 z1 = some z2 ∧ RelB z2 ζ F ∧ SD z z2 ∧ z2 9 = z 9 ∧ Fam z2 D f ∧ (∀ k, k < D → Cnd (ζ 45) (ζ 46) R S 25 (f k)) ∧ ∀ c, Cnd (ζ 45) (ζ 46) R S 25 c → ∃ k, k < D ∧ SubN c (f k) := by
  obtain ⟨z1, e, hD, hf⟩ := fill_n (σ := z) (d := 6) (s := S) (F := F) (R := R) (by decide) h.1.1 h.1.2.1 hs (by omega) h.pl
  have hB1 : RelB z1 ζ F := h.cg (fun k _ _ => hf.row (by omega) (by omega)) (fun _ _ _ => rfl)
  obtain ⟨z2, D, f, e2, fr, hF, c1, c2⟩ := gather_n hD
  have hB2 : RelB z2 ζ F := hB1.cg (fun k _ _ => funext fun j => fr k j (by omega) (by omega)) (fun _ _ _ => rfl)
  have c1' : ∀ j, j < 576 → esN (ζ 45) (ζ 46) R S j ≠ 0 → ∃ k, k < D ∧ SubN (esN (ζ 45) (ζ 46) R S j) (f k) := fun j hj hne => by
    have := c1 j hj
    rw [esN_cg hB1 hj] at this
    exact this hne
  have c2' : ∀ k, k < D → ∃ j, j < 576 ∧ f k = esN (ζ 45) (ζ 46) R S j ∧ f k ≠ 0 := fun k hk => by
    obtain ⟨j, hj, q1, q2⟩ := c2 k hk
    rw [esN_cg hB1 hj] at q1
    exact ⟨j, hj, q1, q2⟩
  obtain ⟨m1, m2⟩ := fam_cnd (sub_24 h.1.2.1 hs) hF c1' c2'
  refine ⟨z1, z2, D, f, e, e2, hB2, hf.sd6.tr (fun k j hk => fr k j (fun q => hk (by unfold DSc; omega)) (fun q => hk (by unfold DSc; omega))), ?_, hF, m1, m2⟩
  have r9 : z1 9 = z 9 := hf.row (by decide) (by decide)
  rw [← r9]
  exact funext fun j => fr 9 j (by decide) (by decide)
theorem cnd_sub2 {X Y : Nat → Int} {R : Int} {S c : Nat} (hS : S < 16777216) (h : Cnd X Y R S 25 c) : c < 16777216 ∧ c ≠ 0 ∧ ∀ q, c.testBit q = true → S.testBit q = true := by
  obtain ⟨cl, c0, j, -, e⟩ := cnd_esN hS (fun q h => h) h (sq_nn R)
  refine ⟨cl, c0, fun q hq => ?_⟩
  rw [e, Nat.testBit_and, Bool.and_eq_true] at hq
  exact hq.2
theorem Eq_two_n : Eq_two Rl := by
  intro n σd σm a1 a2 a3 hn hR ha1 ha2 ha3
  obtain ⟨F, N, h⟩ := hR
  have h : Rn n σd σm F N := h
  have h1 := h.m0
  have hs := h.ask (z' := σd) (ζ' := up σm 41 0 0) SD.rf ss0
  unfold f_X9_two f_X10_two wr
  dsimp only
  generalize up σm 41 0 0 = ζ at *
  rw [dArePerils_n ha1, Option.bind_some, mArePerils_n ha1, Option.bind_some]
  by_cases c1 : 1 ≤ a1 ∧ a1 ≤ 15
  · rw [c01_t c1, c01_t c1, dIsRadius_n ha2, Option.bind_some, mIsRadius_n ha2, Option.bind_some]
    by_cases c2 : 1 ≤ a2 ∧ a2 ≤ 300
    · rw [c01_t c2, c01_t c2, w32_eq ha3]
      by_cases c4 : a3 < 0
      · rw [if_pos c4, if_pos c4]
        exact ⟨_, _, rfl, rfl, rfl, hs⟩
      rw [if_neg c4, if_neg c4]
      by_cases c5 : a3 ≤ 1
      · rw [if_pos c5, if_pos c5]
        obtain ⟨T, hTe⟩ : ∃ T : Nat, a1 = (T : Int) := ⟨a1.toNat, by omega⟩
        subst hTe
        have hB := h1.1
        rw [dOfPerils_n hB (by omega), Option.bind_some, ofPerils_n (by omega) (MRow.of hB), Option.bind_some]
        have hsF : ∀ q, (prS (ζ 49) (ζ 48) T).testBit q = true → F.testBit q = true := fun q hq => prS_F hB hq
        have hSl := sub_24 hB.1.2.1 hsF
        generalize prS (ζ 49) (ζ 48) T = S at *
        obtain ⟨z1, z2, D, f, e1, e2, hB2, sd, r9, hF, m1, m2⟩ := family_n hB hsF c2
        obtain ⟨b, e3, bl, hT⟩ := heaviestTwo_n hB2 hF
        obtain ⟨ζ1, g1, g2, g3⟩ := findsDiscs_n hB hsF c2
        obtain ⟨b', ζ2, k1, k2, k3, k4⟩ := two_n (what := a3) hB2 g2 g3 (fun c hc q hq => hsF q ((cnd_sub2 hSl hc).2.2 q hq))
        have ebb : b = b' := by
          refine hT.u k4 (fun u ⟨a, c, a1, a2, a3, a4⟩ => ⟨f a, f c, m1 a (by omega), m1 c a3, a4⟩) (fun u ⟨a, c, ha, hc, e⟩ => ?_) (fun u ⟨a, c, ha, hc, e⟩ => ?_)
          · obtain ⟨k, k1, k2⟩ := m2 a ha
            obtain ⟨l, l1, l2⟩ := m2 c hc
            have un : SubN u (f k ||| f l) := fun q hq => by
              rw [e, Nat.testBit_or, Bool.or_eq_true] at hq
              rw [Nat.testBit_or, Bool.or_eq_true]
              exact hq.imp (k2 q) (l2 q)
            rcases Nat.le_total k l with r | r
            · exact ⟨_, ⟨k, l, k1, r, l1, rfl⟩, un⟩
            · exact ⟨_, ⟨l, k, l1, r, k1, Nat.or_comm _ _⟩, un⟩
          · have ca := cnd_sub2 hSl ha
            have cc := cnd_sub2 hSl hc
            refine ⟨by rw [e]; exact or_lt24 ca.1 cc.1, fun q => ?_, fun q hq => ?_⟩
            · obtain ⟨t, ht⟩ := ex_bit ca.2.1
              have : u.testBit t = true := by rw [e, Nat.testBit_or, ht]; rfl
              rw [q, Nat.zero_testBit] at this
              cases this
            · rw [e, Nat.testBit_or, Bool.or_eq_true] at hq
              have hS : S.testBit q = true := hq.elim (ca.2.2 q) (cc.2.2 q)
              have hFq := hsF q hS
              obtain ⟨-, ⟨-, -, -, h4⟩, -, -, -, h6⟩ := hB2.1.2.2 q (bit_lt hB2.1.2.1 hFq)
              rw [if_pos hFq] at h4
              have := h6 hFq
              omega
        subst ebb
        rw [e1, Option.bind_some, e2, Option.bind_some, e3, Option.bind_some, g1, Option.bind_some, k1, sums_n hB2.2 bl, Option.bind_some]
        have hs2 := h1.ask (z' := z2) (ζ' := ζ2) sd k2
        by_cases c6 : a3 = 0
        · have c6' : w32 a3 = 0 := by rw [w32_eq ha3]; exact c6
          rw [if_pos c6, if_pos c6']
          exact ⟨_, _, rfl, rfl, rfl, hs2⟩
        · have c6' : ¬ w32 a3 = 0 := by rw [w32_eq ha3]; exact c6
          rw [if_neg c6, if_neg c6']
          exact ⟨_, _, rfl, rfl, rfl, hs2⟩
      · rw [if_neg c5, if_neg c5]
        exact ⟨_, _, rfl, rfl, rfl, hs⟩
    · rw [c01_f c2, c01_f c2]
      exact ⟨_, _, rfl, rfl, rfl, hs⟩
  · rw [c01_f c1, c01_f c1]
    exact ⟨_, _, rfl, rfl, rfl, hs⟩
