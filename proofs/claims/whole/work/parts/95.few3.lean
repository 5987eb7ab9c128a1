/-! ===== pure level: fewest, both sides ===== -/
theorem clr_0 {M : Nat} (hM : M < 16777216) : M &&& (0 ^^^ 4294967295) = M := bits_ext fun i => by
  rw [tb_wo hM, Nat.zero_testBit]
  simp
theorem Eq_fewest_n : Eq_fewest Rl := by
  intro n σd σm a1 hn hR ha1
  obtain ⟨F, N, h⟩ := hR
  have h : Rn n σd σm F N := h
  have h1 := h.m0
  have hs := h.ask (z' := σd) (ζ' := up σm 41 0 0) SD.rf ss0
  obtain ⟨hN, hNm, hN6⟩ := h1.nm
  unfold f_X9_fewest f_X10_fewest wr
  dsimp only
  generalize up σm 41 0 0 = ζ at *
  by_cases c1 : 0 ≤ a1 ∧ a1 < N
  · obtain ⟨t, hte⟩ : ∃ t : Nat, a1 = (t : Int) := ⟨a1.toNat, by omega⟩
    subst hte
    have ht : t < N := by omega
    obtain ⟨ht6, hD, hA, hQ⟩ := h1.tr ht
    have hck : 0 ≤ ((t : Nat) : Int) ∧ ((t : Nat) : Int) < 6 := by omega
    have hlim := hD.2.1.2.2
    have hMl := mbS_24 ζ t
    obtain ⟨v, ζ1, e1, s1, v36, v37, hv⟩ := passedBy_n (s := mbS ζ t) ht6 h1.1 hD SS.rf hMl
    have hvw : hvS (ζ 45) (ζ 46) (ζ 47) (ζ 51 t) none (mbS ζ t) = wsM ζ t := rfl
    rw [hvw] at v36 v37 hv
    have hB1 := h1.1.ss s1
    rw [treatyAt_t hN ht hN6, Option.bind_some, oTs_ ht6, isTr_t hNm hN6 ha1, Option.bind_some, c01_t c1, ofTr_n ht6 h1.1 hD.2.1, Option.bind_some, e1, Option.bind_some, dPassed_n ht6 h1.1 hD hQ, Option.bind_some]
    rcases hv with ⟨rfl, hv⟩ | ⟨rfl, hv⟩
    · have hp : psM ζ t := hv
      rw [c01_t hp]
      obtain ⟨o, ol, ow, es⟩ := ws_o ht6 h1.1 hD
      have z5 : σd (21 + t) 5 = (o : Int) := by rw [hQ.1.1, ow]
      obtain ⟨o', ol', ev, es', ej, -⟩ := wo_hv (m := 0) ht6 h1.1 hD
      rw [clr_0 hMl, hvw, ow] at ev
      have eoo : o' = o := by have := congrArg Prod.snd ev; dsimp only at this; omega
      subst eoo
      have hps : ζ 52 t < sumb (σd 9) o' 24 := by
        unfold psM at hp
        rw [ow] at hp
        exact hp
      have o0 : o' ≠ 0 := fun e => by
        rw [e, sumb_0] at hps
        omega
      obtain ⟨j, hj, ej⟩ := ej.resolve_left o0
      have hin := h1.1.sin (s := o')
      have hS : ∀ p, p < 24 → 0 ≤ ζ1 47 p ∧ ζ1 47 p ≤ 99999 := fun p hp => (hB1.1.2.2 p hp).2.2.2.2.1
      have oF : ∀ p, o'.testBit p = true → F.testBit p = true := fun p hp => (mbS_F h1.1 (es p hp)).1
      have s9 : ∀ p, p < 24 → o'.testBit p = true → ζ1 47 p = σd 9 p := fun p hp hb => by
        obtain ⟨-, ⟨-, -, -, x⟩, -⟩ := hB1.1.2.2 p hp
        rw [x, if_pos (oF p hb)]
      obtain ⟨k1, g1, hk1⟩ := greatest_n (ζ := ζ1) (but := -1) ol (by decide) hS
      have hk1r : InR k1 := by
        rcases hk1 with ⟨rfl, -⟩ | ⟨b, rfl, hb, -⟩
        · decide
        · exact ⟨by omega, by omega⟩
      obtain ⟨k2, g2, hk2⟩ := greatest_n (ζ := ζ1) (but := k1) ol hk1r hS
      rcases hk1 with ⟨-, hk1⟩ | ⟨b1, hb1, b1l, b1o, -, b1m⟩
      · exfalso
        obtain ⟨q, hq⟩ := ex_bit o0
        have := hk1 q (bit_lt ol hq) hq
        omega
      · subst hb1
        have w1 : ∀ p, p < 24 → o'.testBit p = true → sumb (σd 9) o' 24 - σd 9 p ≤ woV ζ t (2 ^ p) := fun p hp hb => by
          obtain ⟨o2, -, ev2, -, -, mx⟩ := wo_hv (m := 2 ^ p) ht6 h1.1 hD
          have := mx j (o' &&& (2 ^ p ^^^ 4294967295)) hj (fun i hi => by
            rw [tb_clr ol, Bool.and_eq_true] at hi
            exact ⟨ej i hi.1, by rw [tb_clr hMl, es i hi.1, Bool.true_and]; exact hi.2⟩)
          rw [sumb_del ol hb 24 hp] at this
          have e2 : woV ζ t (2 ^ p) = sumb (σd 9) o2 24 := by unfold woV; rw [ev2]
          omega
        have w2 : ∀ p, p < 24 → o'.testBit p = true → ∀ q, q < 24 → q ≠ p → o'.testBit q = true → sumb (σd 9) o' 24 - σd 9 p - σd 9 q ≤ woV ζ t (2 ^ p ||| 2 ^ q) := fun p hp hb q hq hne hqb => by
          obtain ⟨o2, -, ev2, -, -, mx⟩ := wo_hv (m := 2 ^ p ||| 2 ^ q) ht6 h1.1 hD
          have hq2 : (o' &&& (2 ^ p ^^^ 4294967295)).testBit q = true := by
            rw [tb_clr ol, hqb]
            simp [hne]
          have := mx j ((o' &&& (2 ^ p ^^^ 4294967295)) &&& (2 ^ q ^^^ 4294967295)) hj (fun i hi => by
            rw [tb_clr (clr_lt ol), tb_clr ol, Bool.and_eq_true, Bool.and_eq_true] at hi
            exact ⟨ej i hi.1.1, by rw [← clr_or hMl, tb_clr (clr_lt hMl), tb_clr hMl, es i hi.1.1, Bool.true_and, Bool.and_eq_true]; exact ⟨hi.1.2, hi.2⟩⟩)
          rw [sumb_del (clr_lt ol) hq2 24 hq, sumb_del ol hb 24 hp] at this
          have e2 : woV ζ t (2 ^ p ||| 2 ^ q) = sumb (σd 9) o2 24 := by unfold woV; rw [ev2]
          omega
        have w3 : ∀ p, p < 24 → o'.testBit p = true → ∀ q, q < 24 → o'.testBit q = false → sumb (σd 9) o' 24 - σd 9 p ≤ woV ζ t (2 ^ p ||| 2 ^ q) := fun p hp hb q hq hqb => by
          obtain ⟨o2, -, ev2, -, -, mx⟩ := wo_hv (m := 2 ^ p ||| 2 ^ q) ht6 h1.1 hD
          have := mx j (o' &&& (2 ^ p ^^^ 4294967295)) hj (fun i hi => by
            rw [tb_clr ol, Bool.and_eq_true] at hi
            refine ⟨ej i hi.1, ?_⟩
            rw [← clr_or hMl, tb_clr (clr_lt hMl), tb_clr hMl, es i hi.1, Bool.true_and, Bool.and_eq_true]
            refine ⟨hi.2, ?_⟩
            have : i ≠ q := fun e => by rw [e, hqb] at hi; cases hi.1
            simp [this])
          rw [sumb_del ol hb 24 hp] at this
          have e2 : woV ζ t (2 ^ p ||| 2 ^ q) = sumb (σd 9) o2 24 := by unfold woV; rw [ev2]
          omega
        have pos9 : ∀ p, p < 24 → o'.testBit p = true → 1 ≤ σd 9 p ∧ σd 9 p ≤ 99999 := fun p _ hb => h1.1.s1 p (es p hb)
        have top1 : ∀ p, p < 24 → o'.testBit p = true → σd 9 p ≤ σd 9 b1 := fun p hp hb => by
          have := b1m p hp hb (by omega)
          rw [s9 p hp hb, s9 b1 b1l b1o] at this
          exact this
        obtain ⟨D1, D1'⟩ := dFew1_n ht6 h1.1 hD ol z5
        obtain ⟨D2, D2'⟩ := dFew2_n ht6 h1.1 hD ol z5
        have e52 : ζ1 52 ((t : Nat) : Int).toNat = ζ 52 t := by
          rw [show ((t : Nat) : Int).toNat = t from Int.toNat_natCast t, s1.r49 (k := 52) (by omega)]
        have e47 : ζ1 47 ((b1 : Nat) : Int).toNat = σd 9 b1 := by
          rw [show ((b1 : Nat) : Int).toNat = b1 from Int.toNat_natCast b1, s9 b1 b1l b1o]
        have p1 := pos9 b1 b1l b1o
        rw [ow] at v36 v37
        dsimp only at v36 v37
        -- what the reference does behind the first search
        have rest : ∀ ζ2, SS ζ ζ2 → (∀ p, p < 24 → o'.testBit p = true → ζ 52 t < woV ζ t (2 ^ p)) → ∃ q q', f_X9_fewest_b58 σd t = some q ∧ f_X10_fewest_b122 (t : Int) ((mbS ζ t : Nat) : Int) (o' : Int) (sumb (σd 9) o' 24) (b1 : Int) k2 ζ2 = some q' ∧ w32 q = w32 q'.1 ∧ Rl (n + 1) σd q'.2 := fun ζ2 s2 hall => by
          have hB2 := h1.1.ss s2
          have fin : ∃ q q', f_X9_fewest_b58 σd t = some q ∧ f_X10_fewest_b158 (t : Int) ((mbS ζ t : Nat) : Int) (o' : Int) ζ2 = some q' ∧ w32 q = w32 q'.1 ∧ Rl (n + 1) σd q'.2 := by
            obtain ⟨v, ζ3, e3, s3, hv3⟩ := mFew2_n ht6 h1.1 hD s2 ol hall
            have hs' := h1.ask (z' := σd) (ζ' := ζ3) SD.rf s3
            rcases hv3 with ⟨rfl, hE⟩ | ⟨rfl, hE⟩
            · exact ⟨2, _, D2 hE, e3, rfl, hs'⟩
            · exact ⟨-2, _, D2' hE, e3, rfl, hs'⟩
          rcases hk2 with ⟨hk2, -⟩ | ⟨b2, hk2, b2l, b2o, b2n, b2m⟩
          · unfold f_X10_fewest_b122
            rw [if_pos (show w32 k2 = -1 by rw [hk2]; decide)]
            exact fin
          · have hne : b2 ≠ b1 := fun e => b2n (by rw [e])
            have p2 := pos9 b2 b2l b2o
            have f47a : ζ2 47 ((b1 : Nat) : Int).toNat = σd 9 b1 := by
              obtain ⟨-, ⟨-, -, -, x⟩, -⟩ := hB2.1.2.2 b1 b1l
              rw [show ((b1 : Nat) : Int).toNat = b1 from Int.toNat_natCast b1, x, if_pos (oF b1 b1o)]
            have f47b : ζ2 47 ((b2 : Nat) : Int).toNat = σd 9 b2 := by
              obtain ⟨-, ⟨-, -, -, x⟩, -⟩ := hB2.1.2.2 b2 b2l
              rw [show ((b2 : Nat) : Int).toNat = b2 from Int.toNat_natCast b2, x, if_pos (oF b2 b2o)]
            have f52 : ζ2 52 ((t : Nat) : Int).toNat = ζ 52 t := by
              rw [show ((t : Nat) : Int).toNat = t from Int.toNat_natCast t, s2.r49 (k := 52) (by omega)]
            have top2 : ∀ p, p < 24 → o'.testBit p = true → p ≠ b1 → σd 9 p ≤ σd 9 b2 := fun p hp hb hn => by
              have := b2m p hp hb (by omega)
              rw [s9 p hp hb, s9 b2 b2l b2o] at this
              exact this
            have eb : f_X10_fewest_b122 (t : Int) ((mbS ζ t : Nat) : Int) (o' : Int) (sumb (σd 9) o' 24) (b1 : Int) k2 ζ2 = if sumb (σd 9) o' 24 - σd 9 b1 - σd 9 b2 ≤ ζ 52 t then f_X10_fewest_b158 (t : Int) ((mbS ζ t : Nat) : Int) (o' : Int) ζ2 else some (-2, ζ2) := by
              unfold f_X10_fewest_b122
              rw [hk2, w32_n (n := b2) (by omega), if_neg (by omega), ck_t (by omega), ck_t (by omega), ck_t hck, f47a, f47b, f52, w32_eq (z := sumb (σd 9) o' 24 - σd 9 b1 - σd 9 b2) ⟨by omega, by omega⟩, w32_eq (z := ζ 52 t) ⟨by omega, by omega⟩]
            rw [eb]
            by_cases c : sumb (σd 9) o' 24 - σd 9 b1 - σd 9 b2 ≤ ζ 52 t
            · rw [if_pos c]
              exact fin
            · rw [if_neg c]
              refine ⟨-2, _, D2' (fun p hp hb q hq hqm => ?_), rfl, rfl, h1.ask (z' := σd) (ζ' := ζ2) SD.rf s2⟩
              have t1 := top1 p hp hb
              have pp := pos9 p hp hb
              cases hqb : o'.testBit q with
              | false =>
                have := w3 p hp hb q hq hqb
                omega
              | true =>
                by_cases hqp : q = p
                · subst hqp
                  have hh := hall q hq hb
                  rw [Nat.or_self]
                  exact hh
                · have := w2 p hp hb q hq hqp hqb
                  have t1q := top1 q hq hqb
                  by_cases hp1 : p = b1
                  · have t2 := top2 q hq hqb (fun e => hqp (by omega))
                    subst hp1
                    omega
                  · have t2 := top2 p hp hb hp1
                    omega
        have em : ((if w32 1 = 0 then some (0, ζ1) else (f_X10_greatestOf (ζ1 41 37) (-1) ζ1).bind fun q8 => (f_X10_greatestOf (ζ1 41 37) q8 ζ1).bind fun q10 => ck (0 ≤ q8 ∧ q8 < 25) <| ck (0 ≤ (t : Int) ∧ (t : Int) < 6) <| if w32 ((ζ1 41 36) - (ζ1 47 (q8).toNat)) ≤ w32 (ζ1 52 ((t : Nat) : Int).toNat) then f_X10_fewest_b82 FUEL (t : Int) ((mbS ζ t : Nat) : Int) (ζ1 41 37) (ζ1 41 36) q8 q10 0 ζ1 else f_X10_fewest_b122 (t : Int) ((mbS ζ t : Nat) : Int) (ζ1 41 37) (ζ1 41 36) q8 q10 ζ1) : Option (Int × Sg)) = if sumb (σd 9) o' 24 - σd 9 b1 ≤ ζ 52 t then f_X10_fewest_b82 FUEL (t : Int) ((mbS ζ t : Nat) : Int) (o' : Int) (sumb (σd 9) o' 24) (b1 : Int) k2 0 ζ1 else f_X10_fewest_b122 (t : Int) ((mbS ζ t : Nat) : Int) (o' : Int) (sumb (σd 9) o' 24) (b1 : Int) k2 ζ1 := by
          rw [w32_1, if_neg (by decide), v37, v36, g1, Option.bind_some, g2, Option.bind_some, ck_t (by omega), ck_t hck, e47, e52, w32_eq (z := sumb (σd 9) o' 24 - σd 9 b1) ⟨by omega, by omega⟩, w32_eq (z := ζ 52 t) ⟨by omega, by omega⟩]
        refine (fun g : ∃ q q', f_X9_fewest_b23 σd FUEL t 0 = some q ∧ (if sumb (σd 9) o' 24 - σd 9 b1 ≤ ζ 52 t then f_X10_fewest_b82 FUEL (t : Int) ((mbS ζ t : Nat) : Int) (o' : Int) (sumb (σd 9) o' 24) (b1 : Int) k2 0 ζ1 else f_X10_fewest_b122 (t : Int) ((mbS ζ t : Nat) : Int) (o' : Int) (sumb (σd 9) o' 24) (b1 : Int) k2 ζ1) = some q' ∧ w32 q = w32 q'.1 ∧ Rl (n + 1) σd q'.2 => by
          obtain ⟨q, q', x1, x2, x3⟩ := g
          exact ⟨q, q', x1, em.trans x2, x3⟩) ?_
        by_cases c : sumb (σd 9) o' 24 - σd 9 b1 ≤ ζ 52 t
        · rw [if_pos c]
          obtain ⟨ζ2, s2, hx⟩ := mFew1_n (its := sumb (σd 9) o' 24) (a := (b1 : Int)) (b := k2) ht6 h1.1 hD s1 ol
          rcases hx with ⟨x1, hE⟩ | ⟨x1, hE⟩
          · exact ⟨1, _, D1 hE, x1, rfl, h1.ask (z' := σd) (ζ' := ζ2) SD.rf s2⟩
          · rw [x1, D1' hE]
            exact rest ζ2 s2 hE
        · rw [if_neg c]
          have hall : ∀ p, p < 24 → o'.testBit p = true → ζ 52 t < woV ζ t (2 ^ p) := fun p hp hb => by
            have := w1 p hp hb
            have := top1 p hp hb
            omega
          rw [D1' hall]
          exact rest ζ1 s1 hall
    · have hp : ¬ psM ζ t := hv
      rw [c01_f hp]
      dsimp only
      rw [w32_0, if_pos rfl]
      exact ⟨_, _, rfl, rfl, rfl, h1.ask (z' := σd) (ζ' := ζ1) SD.rf s1⟩
  · rw [treatyAt_f hN ha1 hN6 c1, Option.bind_some, isTr_t hNm hN6 ha1, Option.bind_some, c01_f c1]
    exact ⟨_, _, rfl, rfl, rfl, hs⟩
