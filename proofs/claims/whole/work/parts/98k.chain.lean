/-! ===== pure level: chains, the question ===== -/
theorem lowest_n {σ : Sg} {L i : Nat} (hL : L < 16777216) (h : L.testBit i = true) (hn : ∀ q, q < i → L.testBit q = false) : f_X10_lowest (L : Int) σ = some (i : Int) := by
  have hi := bit_lt hL h
  unfold f_X10_lowest
  refine loop_at (St := Unit) (F := fun n j _ => f_X10_lowest_b2 σ n (L : Int) j) i (fun _ _ => True) (by omega) ?_ ?_ 0 (by omega) () trivial
  · intro n j _ hj _
    right
    refine ⟨(), trivial, ?_⟩
    rw [f_X10_lowest_b2, has_n (by omega) (by omega), Option.bind_some, b01_f (hn j hj)]
  · intro n _ _
    rw [f_X10_lowest_b2, has_n (by omega) (by omega), Option.bind_some, b01_t h]
theorem Eq_chains_n : Eq_chains Rl := by
  intro n σd σm a1 a2 a3 hn hR ha1 ha2 ha3
  obtain ⟨F, N, h⟩ := hR
  have h : Rn n σd σm F N := h
  have h1 := h.m0
  have hs := h.ask (z' := σd) (ζ' := up σm 41 0 0) SD.rf ss0
  unfold f_X9_chains f_X10_chains wr
  dsimp only
  generalize up σm 41 0 0 = ζ at *
  rw [dArePerils_n ha1, Option.bind_some, mArePerils_n ha1, Option.bind_some]
  by_cases c1 : 1 ≤ a1 ∧ a1 ≤ 15
  · rw [c01_t c1, c01_t c1, dIsReach_n ha2, Option.bind_some, w32_eq ha2, w32_eq ha3]
    by_cases c2 : 0 ≤ a2 ∧ a2 ≤ 300
    · rw [c01_t c2, if_neg (show ¬ a2 < 0 by omega), if_pos c2.2]
      by_cases c4 : a3 < 0
      · rw [if_pos c4, if_pos c4]
        exact ⟨_, _, rfl, rfl, rfl, hs⟩
      rw [if_neg c4, if_neg c4]
      by_cases c5 : a3 ≤ 3
      · rw [if_pos c5, if_pos c5]
        obtain ⟨T, hTe⟩ : ∃ T : Nat, a1 = (T : Int) := ⟨a1.toNat, by omega⟩
        subst hTe
        have hB := h1.1
        rw [dOfPerils_n hB (by omega), Option.bind_some, ofPerils_n (by omega) (MRow.of hB), Option.bind_some]
        have hsF : ∀ q, (prS (ζ 49) (ζ 48) T).testBit q = true → F.testBit q = true := fun q hq => prS_F hB hq
        have hSl := sub_24 hB.1.2.1 hsF
        generalize prS (ζ 49) (ζ 48) T = S at *
        refine loop_P (F := fun n i (u : Int × Int × Int × Int) => f_X9_chains_b47 σd n a2 a3 u.1 u.2.1 u.2.2.1 u.2.2.2 i) 24 (fun i u => ∃ (L H m : Nat) (cn lo : Int) (v : Sg), u = ((L : Int), cn, lo, (H : Int)) ∧ 30 ≤ m + i ∧ Scr ζ v ∧ f_X10_chains_b54 FUEL a2 a3 S S 0 0 0 ζ = f_X10_chains_b54 m a2 a3 S L cn lo H v ∧ (∀ q, L.testBit q = true → S.testBit q = true) ∧ (∀ q, H.testBit q = true → F.testBit q = true) ∧ (∀ q, q < i → L.testBit q = false) ∧ ∀ a b, L.testBit a = true → S.testBit b = true → d2 (ζ 45) (ζ 46) a b ≤ a2 * a2 → L.testBit b = true) (P := fun x => ∃ q q', x = some q ∧ f_X10_chains_b54 FUEL a2 a3 S S 0 0 0 ζ = some q' ∧ w32 q = w32 q'.1 ∧ Rl (n + 1) σd q'.2) (by decide) ?_ ?_ 0 (by decide) ((S : Int), 0, 0, 0) ⟨S, 0, FUEL, 0, 0, ζ, rfl, by have := fuel_lt (k := 30) (by decide); omega, Scr.rf, rfl, fun q k => k, (fun q k => by rw [Nat.zero_testBit] at k; cases k), (fun q hq => by omega), fun a b _ hb _ => hb⟩
        · intro n' i u hi hI
          obtain ⟨L, H, m, cn, lo, v, rfl, hm, sv, em, hLS, hHF, hno, hcl⟩ := hI
          right
          have hLl := sub_24 hSl hLS
          have hHl := sub_24 hB.1.2.1 hHF
          show ∃ s' : Int × Int × Int × Int, _ ∧ f_X9_chains_b47 σd (n' + 1) a2 a3 L cn lo H i = f_X9_chains_b47 σd n' a2 a3 s'.1 s'.2.1 s'.2.2.1 s'.2.2.2 ((i : Int) + 1)
          rw [f_X9_chains_b47, w32_n (by omega), if_pos (show (i : Int) < 24 by omega), contains_n (by omega) (by omega), Option.bind_some]
          by_cases hb : L.testBit i = true
          · obtain ⟨ch, e1, cl, hC⟩ := chainFrom_n (R := a2) hB (fun q hq => hsF q (hLS q hq)) hb c2
            have hC2 := hC.up hb hLS hcl
            obtain ⟨ch2, v2, e2, sv2, cl2, hC3⟩ := chainOf_n (s := S) (p := i) (R := a2) hB sv hsF (hLS i hb) c2
            have ech := hC3.u hC2
            subst ech
            have hcS := hC3.sub (hLS i hb)
            have hcF : ∀ q, ch2.testBit q = true → F.testBit q = true := fun q hq => hsF q (hcS q hq)
            obtain ⟨m, rfl⟩ : ∃ k, m = k + 1 := ⟨m - 1, by omega⟩
            have hL0 : ¬ w32 (L : Int) = 0 := by
              rw [w32_n (by omega)]
              intro e
              have : L = 0 := by omega
              rw [this, Nat.zero_testBit] at hb
              cases hb
            have r47 : v2 47 = σm 47 ∨ v2 47 = ζ 47 := Or.inr (sv2.row (by decide))
            have w47 : v2 47 = ζ 47 := sv2.row (by decide)
            have tl : ∀ q, (L &&& (ch2 ^^^ 4294967295)).testBit q = (L.testBit q && !(ch2.testBit q)) := fun q => tb_wo hLl
            have tl' : ∀ q, (L &&& (ch2 ^^^ 4294967295)).testBit q = true ↔ (L.testBit q = true ∧ ch2.testBit q = false) := fun q => by
              rw [tl, Bool.and_eq_true, Bool.not_eq_true']
            rw [b01_t hb, e1, Option.bind_some, bitc_n cl, Option.bind_some, sums_n hB.2 cl, Option.bind_some, sums_n hB.2 hHl, Option.bind_some, u32_nat (n := L) (by omega), u32_nat (n := ch2) (by omega)]
            rw [f_X10_chains_b54, if_neg hL0, lowest_n hLl hb hno, Option.bind_some, e2, Option.bind_some] at em
            dsimp only at em
            rw [bits_n cl, Option.bind_some, u32_nat (n := L) (by omega), u32_nat (n := ch2) (by omega)] at em
            have em2 : f_X10_chains_b54 FUEL a2 a3 S S 0 0 0 ζ = f_X10_chains_b105 (f_X10_chains_b54 m) a2 a3 S (((L &&& (ch2 ^^^ 4294967295) : Nat) : Int)) (cn + 1) H ch2 (mmaxI lo (sumb (fun _ => 1) ch2 24)) v2 := by
              rw [em]
              unfold mmaxI
              by_cases q : w32 (sumb (fun _ => 1) ch2 24) ≤ w32 lo
              · rw [if_pos q, if_neg (show ¬ w32 lo < w32 (sumb (fun _ => 1) ch2 24) by omega)]
              · rw [if_neg q, if_pos (show w32 lo < w32 (sumb (fun _ => 1) ch2 24) by omega), Option.bind_some]
            unfold f_X10_chains_b105 f_X10_chains_b129 at em2
            rw [sumOf_n (by omega), Option.bind_some, sumOf_n (by omega), Option.bind_some, w47, hB.sm hcF, hB.sm hHF] at em2
            have rest : ∀ G : Nat, (∀ q, G.testBit q = true → F.testBit q = true) → f_X10_chains_b54 FUEL a2 a3 S S 0 0 0 ζ = f_X10_chains_b54 m a2 a3 S (((L &&& (ch2 ^^^ 4294967295) : Nat) : Int)) (cn + 1) (mmaxI lo (sumb (fun _ => 1) ch2 24)) G v2 → ∃ s' : Int × Int × Int × Int, (∃ (L H m : Nat) (cn lo : Int) (v : Sg), s' = ((L : Int), cn, lo, (H : Int)) ∧ 30 ≤ m + (i + 1) ∧ Scr ζ v ∧ f_X10_chains_b54 FUEL a2 a3 S S 0 0 0 ζ = f_X10_chains_b54 m a2 a3 S L cn lo H v ∧ (∀ q, L.testBit q = true → S.testBit q = true) ∧ (∀ q, H.testBit q = true → F.testBit q = true) ∧ (∀ q, q < i + 1 → L.testBit q = false) ∧ ∀ a b, L.testBit a = true → S.testBit b = true → d2 (ζ 45) (ζ 46) a b ≤ a2 * a2 → L.testBit b = true) ∧ f_X9_chains_b124 σd (f_X9_chains_b47 σd n') a2 a3 (((L &&& (ch2 ^^^ 4294967295) : Nat) : Int)) (cn + 1) (mmaxI lo (sumb (fun _ => 1) ch2 24)) (G : Int) i = f_X9_chains_b47 σd n' a2 a3 s'.1 s'.2.1 s'.2.2.1 s'.2.2.2 ((i : Int) + 1) := fun G hG eG => by
              refine ⟨_, ⟨L &&& (ch2 ^^^ 4294967295), G, m, cn + 1, _, v2, rfl, by omega, sv2, eG, fun q hq => hLS q ((tl' q).mp hq).1, hG, fun q hq => ?_, fun a b ha hb2 hd => ?_⟩, rfl⟩
              · rw [tl]
                rcases Nat.lt_succ_iff_lt_or_eq.1 hq with k | k
                · rw [hno q k]
                  rfl
                · subst k
                  rw [hC3.1]
                  simp
              · obtain ⟨k1, k2⟩ := (tl' a).mp ha
                refine (tl' b).mpr ⟨hcl a b k1 hb2 hd, ?_⟩
                cases hq : ch2.testBit b with
                | false => rfl
                | true =>
                  have := hC3.2.1 b a hq (hLS a k1) (by rw [d2_sym]; exact hd)
                  rw [k2] at this
                  cases this
            by_cases c6 : w32 (sumb (σd 9) ch2 24) ≤ w32 (sumb (σd 9) H 24)
            · rw [if_pos c6] at em2
              rw [if_pos c6]
              exact rest H hHF em2
            · rw [if_neg c6] at em2
              rw [if_neg c6]
              exact rest ch2 hcF em2
          · have hbf : L.testBit i = false := Bool.eq_false_iff.mpr hb
            rw [b01_f hbf]
            refine ⟨((L : Int), cn, lo, (H : Int)), ⟨L, H, m, cn, lo, v, rfl, by omega, sv, em, hLS, hHF, fun q hq => ?_, hcl⟩, rfl⟩
            rcases Nat.lt_succ_iff_lt_or_eq.1 hq with k | k
            · exact hno q k
            · rw [k]
              exact hbf
        · intro n' u hI
          obtain ⟨L, H, m, cn, lo, v, rfl, hm, sv, em, hLS, hHF, hno, hcl⟩ := hI
          have hLl := sub_24 hSl hLS
          have hHl := sub_24 hB.1.2.1 hHF
          have hL0 : L = 0 := bits_ext fun q => by
            rw [Nat.zero_testBit]
            by_cases hq : q < 24
            · exact hno q hq
            · exact tb_24 hLl (by omega)
          subst hL0
          obtain ⟨m, rfl⟩ : ∃ k, m = k + 1 := ⟨m - 1, by omega⟩
          have hs' := h1.ask (z' := σd) (ζ' := v) SD.rf sv.ss
          have w47 : v 47 = ζ 47 := sv.row (by decide)
          rw [f_X10_chains_b54, if_pos (show w32 ((0 : Nat) : Int) = 0 by decide)] at em
          unfold f_X10_chains_b134 at em
          rw [sumOf_n (by omega), Option.bind_some, w47, hB.sm hHF] at em
          show ∃ q q', f_X9_chains_b47 σd (n' + 1) a2 a3 ((0 : Nat) : Int) cn lo H ((24 : Nat) : Int) = some q ∧ _
          rw [f_X9_chains_b47, w32_n (by decide), if_neg (show ¬ ((24 : Nat) : Int) < 24 by decide), em]
          unfold f_X9_chains_b130
          rw [sums_n hB.2 hHl, Option.bind_some]
          by_cases d0 : w32 a3 = 0
          · rw [if_pos d0, if_pos d0]
            exact ⟨_, _, rfl, rfl, rfl, hs'⟩
          · rw [if_neg d0, if_neg d0]
            by_cases d1 : w32 a3 = 1
            · rw [if_pos d1, if_pos d1]
              exact ⟨_, _, rfl, rfl, rfl, hs'⟩
            · rw [if_neg d1, if_neg d1]
              by_cases d2 : w32 a3 = 2
              · rw [if_pos d2, if_pos d2]
                exact ⟨_, _, rfl, rfl, rfl, hs'⟩
              · rw [if_neg d2, if_neg d2]
                exact ⟨_, _, rfl, rfl, rfl, hs'⟩
      · rw [if_neg c5, if_neg c5]
        exact ⟨_, _, rfl, rfl, rfl, hs⟩
    · rw [c01_f c2]
      by_cases c3 : a2 < 0
      · rw [if_pos c3]
        exact ⟨_, _, rfl, rfl, rfl, hs⟩
      · rw [if_neg c3, if_neg (show ¬ a2 ≤ 300 by omega)]
        exact ⟨_, _, rfl, rfl, rfl, hs⟩
  · rw [c01_f c1, c01_f c1]
    exact ⟨_, _, rfl, rfl, rfl, hs⟩
