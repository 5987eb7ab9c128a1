/-! ===== pure level: questions of a treaty ===== -/
theorem Rn.m0 {n F N : Nat} {z ζ : Sg} (h : Rn n z ζ F N) : Rn n z (up ζ 41 0 0) F N := h.ss ss0
theorem ofTr_n {z ζ : Sg} {F t : Nat} (ht : t < 6) (h : RelB z ζ F) (hr : MTr ζ t) : f_X10_ofTreaty (t : Int) ζ = some ((mbS ζ t : Nat) : Int) := by
  obtain ⟨k, hk⟩ : ∃ k : Nat, ζ 50 t = (k : Int) := ⟨(ζ 50 t).toNat, by have := hr.1; omega⟩
  unfold f_X10_ofTreaty
  rw [ck_t (by omega), ntn, hk, ofPerils_n (by have := hr.1; omega) (MRow.of h), Option.bind_some]
  unfold mbS
  rw [hk, ntn]
theorem WOk.of {z ζ : Sg} {F s : Nat} (h : RelB z ζ F) (hs : s < 16777216) : WOk ζ s := ⟨by omega, fun q _ hb => by
  have hq := bit_lt hs hb
  obtain ⟨-, -, h1, -, h2, -⟩ := h.1.2.2 q hq
  exact ⟨h1, h2⟩⟩
theorem weighs_r {z ζ : Sg} {F s : Nat} {R : Int} (h : RelB z ζ F) (hs : s < 16777216) (hR : 0 ≤ R ∧ R ≤ 300) :
    ∃ ζ', f_X10_weighs (s : Int) R (-1) ζ = some ζ' ∧ Scr ζ ζ' ∧ ζ' 41 36 = (hvS (ζ 45) (ζ 46) (ζ 47) R none s).1 ∧ ζ' 41 37 = (hvS (ζ 45) (ζ 46) (ζ 47) R none s).2 ∧ InR (ζ' 41 36) ∧ InR (ζ' 41 37) :=
  weighs_v (must := none) (by omega) (WOk.of h hs) hR (fun m q => nomatch q)
theorem ws_o {z ζ : Sg} {F t : Nat} (ht : t < 6) (h : RelB z ζ F) (hD : TrD z ζ t) : ∃ o : Nat, o < 16777216 ∧ wsM ζ t = (sumb (z 9) o 24, (o : Int)) ∧ ∀ q, o.testBit q = true → (mbS ζ t).testBit q = true := by
  obtain ⟨o, -, ol, ev, es, -⟩ := heav_hv (s := 16777215) (d := t) (by omega) (by decide) (mbS_24 ζ t) (sqR hD.2.1.2.1) hD.2.2 h.2 h.s1
  rw [and_all (mbS_24 ζ t), h.worst] at ev
  rw [and_all (mbS_24 ζ t)] at es
  exact ⟨o, ol, ev, es⟩
theorem RelB.sm {z ζ : Sg} {F s : Nat} (h : RelB z ζ F) (hs : ∀ q, s.testBit q = true → F.testBit q = true) : sumb (ζ 47) s 25 = sumb (z 9) s 24 := by
  rw [sumb_25 (sub_24 h.1.2.1 hs)]
  exact sumb_congr fun q hq hb => by
    obtain ⟨-, ⟨-, -, -, h4⟩, -⟩ := h.1.2.2 q hq
    rw [h4, if_pos (hs q hb)]
theorem RelB.sin {z ζ : Sg} {F s : Nat} (h : RelB z ζ F) : 0 ≤ sumb (z 9) s 24 ∧ sumb (z 9) s 24 ≤ 24 * 99999 := sumb_bound (by decide) fun q hq hb => by
  obtain ⟨-, ⟨-, -, -, h4⟩, -, -, h5, -⟩ := h.1.2.2 q hq
  rw [h4]
  split <;> omega
theorem without_n {z ζ : Sg} {F t m : Nat} (ht : t < 6) (h : RelB z ζ F) (hD : TrD z ζ t) (hm : m < 16777216) : f_X8_worstWithout t (m : Int) z = some (hvS (ζ 45) (ζ 46) (ζ 47) (ζ 51 t) none (mbS ζ t &&& (m ^^^ 4294967295))).1 := by
  have e1 : mbS ζ t &&& (16777215 &&& (m ^^^ 4294967295)) = mbS ζ t &&& (m ^^^ 4294967295) := by rw [← Nat.and_assoc, and_all (mbS_24 ζ t)]
  obtain ⟨o, e, ol, ev, es, -⟩ := heav_hv (s := 16777215 &&& (m ^^^ 4294967295)) (d := t) (by omega) (Nat.lt_of_le_of_lt Nat.and_le_left (by decide)) (mbS_24 ζ t) (sqR hD.2.1.2.1) hD.2.2 h.2 h.s1
  rw [e1, h.hv (fun q hq => by rw [Nat.testBit_and, Bool.and_eq_true] at hq; exact (mbS_F h hq.1).1)] at ev
  unfold f_X8_worstWithout
  rw [ck_t ht, u32_nat (by omega), e, Option.bind_some, sums_n h.2 ol, Option.bind_some, ev]
theorem dPassed_n {z ζ : Sg} {F t : Nat} (ht : t < 6) (h : RelB z ζ F) (hD : TrD z ζ t) (hQ : TrQ z ζ t) : f_X8_isPassed t z = some (if psM ζ t then 1 else 0) := by
  have hin := wsM_in ht h hD.2.1
  have hlim := hD.2.1.2.2
  unfold f_X8_isPassed psM
  rw [ck_t ht, hQ.1.2, hD.1.2.2, w32_eq hin.1, w32_eq ⟨by omega, by omega⟩]
  by_cases hp : (wsM ζ t).1 ≤ ζ 52 t
  · rw [if_pos hp, if_neg (by omega)]
  · rw [if_neg hp, if_pos (by omega)]
theorem Eq_fault_n : Eq_fault Rl := by
  intro n σd σm a1 hn hR ha1
  obtain ⟨F, N, h⟩ := hR
  have h : Rn n σd σm F N := h
  have hs := h.ask (z' := σd) (ζ' := up σm 41 0 0) SD.rf ss0
  obtain ⟨e1, e2⟩ := h.2.2.2.1.2.1
  unfold f_X9_fault f_X10_fault wr
  dsimp only
  by_cases c1 : w32 a1 = 0
  · rw [if_pos c1, if_pos c1, up_j (by decide)]
    exact ⟨_, _, rfl, rfl, by rw [e1], hs⟩
  · rw [if_neg c1, if_neg c1]
    by_cases c2 : w32 a1 = 1
    · rw [if_pos c2, if_pos c2, up_j (by decide)]
      exact ⟨_, _, rfl, rfl, by rw [e2], hs⟩
    · rw [if_neg c2, if_neg c2]
      exact ⟨_, _, rfl, rfl, rfl, hs⟩
theorem Rn.tr {n F N t : Nat} {z ζ : Sg} (h : Rn n z ζ F N) (ht : t < N) : t < 6 ∧ TrD z ζ t ∧ TrA z ζ t n ∧ TrQ z ζ t := ⟨by have := h.2.1.1; omega, (h.2.1.2.2.2 t ht).1, (h.2.1.2.2.2 t ht).2, h.2.2.2.2 t ht⟩
theorem Rn.nm {n F N : Nat} {z ζ : Sg} (h : Rn n z ζ F N) : z 0 4 = (N : Int) ∧ ζ 41 27 = (N : Int) ∧ N ≤ 6 := ⟨h.2.1.2.1, h.2.1.2.2.1, h.2.1.1⟩
theorem Eq_its_n : Eq_its Rl := by
  intro n σd σm a1 a2 hn hR ha1 ha2
  obtain ⟨F, N, h⟩ := hR
  have h : Rn n σd σm F N := h
  have h1 := h.m0
  have hs := h.ask (z' := σd) (ζ' := up σm 41 0 0) SD.rf ss0
  obtain ⟨hN, hNm, hN6⟩ := h1.nm
  unfold f_X9_its f_X10_its wr
  dsimp only
  generalize up σm 41 0 0 = ζ at *
  by_cases c1 : 0 ≤ a1 ∧ a1 < N
  · obtain ⟨t, hte⟩ : ∃ t : Nat, a1 = (t : Int) := ⟨a1.toNat, by omega⟩
    subst hte
    have ht : t < N := by omega
    obtain ⟨ht6, hD, hA, hQ⟩ := h1.tr ht
    rw [treatyAt_t hN ht hN6, Option.bind_some, oTs_ ht6, isTr_t hNm hN6 ha1, Option.bind_some, c01_t c1, w32_eq ha2, ntn]
    by_cases d0 : a2 = 0
    · rw [if_pos d0, if_pos d0, ck_t (by omega)]
      exact ⟨_, _, rfl, rfl, by rw [hD.1.1], hs⟩
    · rw [if_neg d0, if_neg d0]
      by_cases d1 : a2 = 1
      · rw [if_pos d1, if_pos d1, ck_t (by omega)]
        exact ⟨_, _, rfl, rfl, by rw [hD.1.2.1], hs⟩
      · rw [if_neg d1, if_neg d1]
        by_cases d2_ : a2 = 2
        · rw [if_pos d2_, if_pos d2_, ck_t (by omega)]
          exact ⟨_, _, rfl, rfl, by rw [hD.1.2.2], hs⟩
        · rw [if_neg d2_, if_neg d2_]
          by_cases d3 : a2 = 3
          · rw [if_pos d3, if_pos d3, hD.2.2.2.1, bitc_n (mbS_24 _ _), Option.bind_some, ofTr_n ht6 h1.1 hD.2.1, Option.bind_some, bits_n (mbS_24 _ _), Option.bind_some]
            exact ⟨_, _, rfl, rfl, rfl, hs⟩
          · rw [if_neg d3, if_neg d3]
            by_cases d4 : a2 = 4
            · rw [if_pos d4, if_pos d4, hD.2.2.2.1, sums_n h1.1.2 (mbS_24 _ _), Option.bind_some, ofTr_n ht6 h1.1 hD.2.1, Option.bind_some, sumOf_n (Nat.lt_trans (mbS_24 _ _) (by decide)), Option.bind_some]
              exact ⟨_, _, rfl, rfl, by rw [h1.1.sm (fun q hq => (mbS_F h1.1 hq).1)], hs⟩
            · rw [if_neg d4, if_neg d4]
              by_cases d5 : a2 = 5
              · obtain ⟨v, ζ', e, s, hv⟩ := isPassed_n ht6 (MRow.of h1.1) hD.2.1
                rw [if_pos d5, if_pos d5, dPassed_n ht6 h1.1 hD hQ, Option.bind_some, e, Option.bind_some]
                have hs' := h1.ask (z' := σd) (ζ' := ζ') SD.rf s.ss
                rcases hv with ⟨hp, rfl⟩ | ⟨hp, rfl⟩
                · rw [c01_t hp]
                  dsimp only
                  rw [w32_1, if_neg (by decide)]
                  exact ⟨_, _, rfl, rfl, rfl, hs'⟩
                · rw [c01_f hp]
                  dsimp only
                  rw [w32_0, if_pos rfl]
                  exact ⟨_, _, rfl, rfl, rfl, hs'⟩
              · rw [if_neg d5, if_neg d5]
                by_cases d6 : a2 = 6
                · rw [if_pos d6, if_pos d6, ck_t (by omega)]
                  exact ⟨_, _, rfl, rfl, by rw [hA.1], hs⟩
                · rw [if_neg d6, if_neg d6]
                  by_cases d7 : a2 = 7
                  · rw [if_pos d7, if_pos d7, ck_t (by omega)]
                    exact ⟨_, _, rfl, rfl, by rw [hA.2.1], hs⟩
                  · rw [if_neg d7, if_neg d7]
                    exact ⟨_, _, rfl, rfl, rfl, hs⟩
  · rw [treatyAt_f hN ha1 hN6 c1, Option.bind_some, isTr_t hNm hN6 ha1, Option.bind_some, c01_f c1]
    exact ⟨_, _, rfl, rfl, rfl, hs⟩
theorem Eq_worst_n : Eq_worst Rl := by
  intro n σd σm a1 a2 hn hR ha1 ha2
  obtain ⟨F, N, h⟩ := hR
  have h : Rn n σd σm F N := h
  have h1 := h.m0
  have hs := h.ask (z' := σd) (ζ' := up σm 41 0 0) SD.rf ss0
  obtain ⟨hN, hNm, hN6⟩ := h1.nm
  unfold f_X9_worst f_X10_worst wr
  dsimp only
  generalize up σm 41 0 0 = ζ at *
  by_cases c1 : 0 ≤ a1 ∧ a1 < N
  · obtain ⟨t, hte⟩ : ∃ t : Nat, a1 = (t : Int) := ⟨a1.toNat, by omega⟩
    subst hte
    have ht : t < N := by omega
    obtain ⟨ht6, hD, hA, hQ⟩ := h1.tr ht
    obtain ⟨ζ', e, s, e36, e37, i1, i2⟩ := worstOf_n ht6 (MRow.of h1.1) hD.2.1
    obtain ⟨o, ol, ow, -⟩ := ws_o ht6 h1.1 hD
    have hs' := h1.ask (z' := σd) (ζ' := ζ') SD.rf s.ss
    rw [treatyAt_t hN ht hN6, Option.bind_some, oTs_ ht6, isTr_t hNm hN6 ha1, Option.bind_some, c01_t c1, w32_eq ha2, e, ntn]
    by_cases d0 : a2 = 0
    · rw [if_pos d0, if_neg (by omega), if_pos (by omega), Option.bind_some, if_pos d0]
      exact ⟨_, _, rfl, rfl, by rw [hQ.1.2], hs'⟩
    · rw [if_neg d0]
      by_cases d1 : a2 = 1
      · rw [if_pos d1, if_neg (by omega), if_pos (by omega), Option.bind_some, if_neg d0, if_pos d1]
        dsimp only
        rw [e37, hQ.1.1, ow]
        dsimp only
        rw [bitc_n ol, Option.bind_some, bits_n ol, Option.bind_some]
        exact ⟨_, _, rfl, rfl, rfl, hs'⟩
      · rw [if_neg d1]
        by_cases d2_ : a2 = 2
        · rw [if_pos d2_, if_neg (by omega), if_pos (by omega), Option.bind_some, if_neg d0, if_neg d1, ck_t (by omega)]
          exact ⟨_, _, rfl, rfl, by show w32 _ = w32 (ζ' 52 t - (wsM ζ t).1); rw [hQ.1.2, hD.1.2.2, s.row (by decide : 52 ≠ 41)], hs'⟩
        · rw [if_neg d2_]
          by_cases q : a2 < 0
          · rw [if_pos q]
            exact ⟨_, _, rfl, rfl, rfl, hs⟩
          · rw [if_neg q, if_neg (by omega)]
            exact ⟨_, _, rfl, rfl, rfl, hs⟩
  · rw [treatyAt_f hN ha1 hN6 c1, Option.bind_some, isTr_t hNm hN6 ha1, Option.bind_some, c01_f c1]
    exact ⟨_, _, rfl, rfl, rfl, hs⟩
theorem clr_and {M m : Nat} : ∀ q, (M &&& (m ^^^ 4294967295)).testBit q = true → M.testBit q = true := fun q hq => by
  rw [Nat.testBit_and, Bool.and_eq_true] at hq
  exact hq.1
theorem Eq_part_n : Eq_part Rl := by
  intro n σd σm a1 a2 hn hR ha1 ha2
  obtain ⟨F, N, h⟩ := hR
  have h : Rn n σd σm F N := h
  have h1 := h.m0
  have hs := h.ask (z' := σd) (ζ' := up σm 41 0 0) SD.rf ss0
  obtain ⟨hN, hNm, hN6⟩ := h1.nm
  unfold f_X9_part f_X10_part wr
  dsimp only
  generalize up σm 41 0 0 = ζ at *
  by_cases c1 : 0 ≤ a1 ∧ a1 < N
  · obtain ⟨t, hte⟩ : ∃ t : Nat, a1 = (t : Int) := ⟨a1.toNat, by omega⟩
    subst hte
    have ht : t < N := by omega
    obtain ⟨ht6, hD, hA, hQ⟩ := h1.tr ht
    rw [treatyAt_t hN ht hN6, Option.bind_some, oTs_ ht6, isTr_t hNm hN6 ha1, Option.bind_some, c01_t c1, has_t h1.1.1.1 h1.1.1.2.1 ha2, Option.bind_some, isPol_t h1.1 ha2, Option.bind_some]
    by_cases c2 : 0 ≤ a2 ∧ a2 < 24 ∧ F.testBit a2.toNat = true
    · obtain ⟨p, hpe⟩ : ∃ p : Nat, a2 = (p : Int) := ⟨a2.toNat, by omega⟩
      subst hpe
      have hp : p < 24 := by omega
      obtain ⟨ζ', e, s, e36, e37, i1, i2⟩ := worstOf_n ht6 (MRow.of h1.1) hD.2.1
      have hB' := h1.1.ss s.ss
      obtain ⟨ζ2, x1, x2, x3, x4, x5, x6⟩ := weighs_r (s := mbS ζ t &&& (2 ^ p ^^^ 4294967295)) (R := ζ' 51 t) hB' (clr_lt (mbS_24 _ _)) (by rw [s.row (by decide : 51 ≠ 41)]; have := hD.2.1.2.1; omega)
      have hs' := h1.ask (z' := σd) (ζ' := ζ2) SD.rf (s.tr x2).ss
      rw [c01_t c2, c01_t c2, one_shl (by omega), without_n ht6 h1.1 hD (pow_24 hp), Option.bind_some, ofTr_n ht6 h1.1 hD.2.1, Option.bind_some, e, Option.bind_some, ck_t (by omega), ntn, u32_nat (pow_lt (by omega)), u32_nat (by have := mbS_24 ζ t; omega)]
      dsimp only
      rw [x1, Option.bind_some, x3, s.row (by decide : 45 ≠ 41), s.row (by decide : 46 ≠ 41), s.row (by decide : 47 ≠ 41), s.row (by decide : 51 ≠ 41)]
      exact ⟨_, _, rfl, rfl, by rw [hQ.1.2], hs'⟩
    · rw [c01_f c2, c01_f c2]
      exact ⟨_, _, rfl, rfl, rfl, hs⟩
  · rw [treatyAt_f hN ha1 hN6 c1, Option.bind_some, isTr_t hNm hN6 ha1, Option.bind_some, c01_f c1]
    exact ⟨_, _, rfl, rfl, rfl, hs⟩
theorem Eq_second_n : Eq_second Rl := by
  intro n σd σm a1 hn hR ha1
  obtain ⟨F, N, h⟩ := hR
  have h : Rn n σd σm F N := h
  have h1 := h.m0
  have hs := h.ask (z' := σd) (ζ' := up σm 41 0 0) SD.rf ss0
  obtain ⟨hN, hNm, hN6⟩ := h1.nm
  unfold f_X9_second f_X10_second wr
  dsimp only
  generalize up σm 41 0 0 = ζ at *
  by_cases c1 : 0 ≤ a1 ∧ a1 < N
  · obtain ⟨t, hte⟩ : ∃ t : Nat, a1 = (t : Int) := ⟨a1.toNat, by omega⟩
    subst hte
    have ht : t < N := by omega
    obtain ⟨ht6, hD, hA, hQ⟩ := h1.tr ht
    obtain ⟨ζ', e, s, e36, e37, i1, i2⟩ := worstOf_n ht6 (MRow.of h1.1) hD.2.1
    obtain ⟨o, ol, ow, -⟩ := ws_o ht6 h1.1 hD
    have hB' := h1.1.ss s.ss
    have hM' : MTr ζ' t := hD.2.1.cg fun k _ _ => s.row (by omega)
    have mb : mbS ζ' t = mbS ζ t := s.ss.mb t
    obtain ⟨ζ2, x1, x2, x3, x4, x5, x6⟩ := weighs_r (s := mbS ζ t &&& (o ^^^ 4294967295)) (R := ζ' 51 t) hB' (Nat.lt_of_le_of_lt Nat.and_le_left (mbS_24 _ _)) (by have := hM'.2.1; omega)
    have hs' := h1.ask (z' := σd) (ζ' := ζ2) SD.rf (s.tr x2).ss
    rw [treatyAt_t hN ht hN6, Option.bind_some, oTs_ ht6, isTr_t hNm hN6 ha1, Option.bind_some, c01_t c1, hQ.1.1, e, Option.bind_some]
    dsimp only
    rw [ofTr_n ht6 hB' hM', Option.bind_some, e37, ow]
    dsimp only
    rw [without_n ht6 h1.1 hD ol, Option.bind_some, ck_t (by omega), ntn, mb, u32_nat (by have := mbS_24 ζ t; omega), u32_nat (n := o) (by omega), x1, Option.bind_some, x3, s.row (by decide : 45 ≠ 41), s.row (by decide : 46 ≠ 41), s.row (by decide : 47 ≠ 41), s.row (by decide : 51 ≠ 41)]
    exact ⟨_, _, rfl, rfl, rfl, hs'⟩
  · rw [treatyAt_f hN ha1 hN6 c1, Option.bind_some, isTr_t hNm hN6 ha1, Option.bind_some, c01_f c1]
    exact ⟨_, _, rfl, rfl, rfl, hs⟩
/-- the desk's own discs -/
theorem FrD.sd6 {z z' : Sg} (h : FrD 6 z z') : SD z z' := fun k j hk => h k j (fun e => hk (by unfold DSc; omega)) (fun e => hk (by unfold DSc; omega))
theorem heavOf_n {z ζ : Sg} {F s : Nat} {R : Int} (h : RelB z ζ F) (hs : ∀ q, s.testBit q = true → F.testBit q = true) (hR : 1 ≤ R ∧ R ≤ 300) :
    ∃ (o : Nat) (z' : Sg), f_X9_heaviestOf (s : Int) R z = some ((o : Int), z') ∧ SD z z' ∧ o < 16777216 ∧ hvS (ζ 45) (ζ 46) (ζ 47) R none s = (sumb (z 9) o 24, (o : Int)) ∧ RelB z' ζ F ∧ z' 9 = z 9 := by
  obtain ⟨z', e, hD, hf⟩ := fill_n (σ := z) (d := 6) (s := s) (F := F) (R := R) (by decide) h.1.1 h.1.2.1 hs (by omega) h.pl
  have r9 : z' 9 = z 9 := hf.row (by decide) (by decide)
  have hB' : RelB z' ζ F := h.cg (fun k _ _ => hf.row (by omega) (by omega)) (fun _ _ _ => rfl)
  have hsl := sub_24 h.1.2.1 hs
  obtain ⟨o, e2, ol, ev, -, -⟩ := heav_hv (s := 16777215) (d := 6) (σ := z') (by decide) (by decide) hsl (sqR hR) hD hB'.2 (fun q hq => by
    have hF := hs q hq
    obtain ⟨-, ⟨-, -, -, h4⟩, -, -, h5, h6⟩ := hB'.1.2.2 q (bit_lt h.1.2.1 hF)
    rw [h4, if_pos hF]
    exact ⟨h6 hF, h5.2⟩)
  rw [and_all hsl, hB'.hv hs, r9] at ev
  refine ⟨o, z', ?_, hf.sd6, ol, ev, hB', r9⟩
  have e2 : f_X2_heaviestAmong 6 16777215 z' = some (o : Int) := e2
  unfold f_X9_heaviestOf
  rw [e, Option.bind_some, e2, Option.bind_some]
theorem Eq_heaviest_n : Eq_heaviest Rl := by
  intro n σd σm a1 a2 hn hR ha1 ha2
  obtain ⟨F, N, h⟩ := hR
  have h : Rn n σd σm F N := h
  have h1 := h.m0
  have hs := h.ask (z' := σd) (ζ' := up σm 41 0 0) SD.rf ss0
  unfold f_X9_heaviest f_X10_heaviest wr
  dsimp only
  generalize up σm 41 0 0 = ζ at *
  rw [dArePerils_n ha1, Option.bind_some, mArePerils_n ha1, Option.bind_some]
  by_cases c1 : 1 ≤ a1 ∧ a1 ≤ 15
  · rw [c01_t c1, c01_t c1, dIsRadius_n ha2, Option.bind_some, mIsRadius_n ha2, Option.bind_some]
    by_cases c2 : 1 ≤ a2 ∧ a2 ≤ 300
    · obtain ⟨T, hTe⟩ : ∃ T : Nat, a1 = (T : Int) := ⟨a1.toNat, by omega⟩
      subst hTe
      have hsF : ∀ q, (prS (ζ 49) (ζ 48) T).testBit q = true → F.testBit q = true := fun q hq => prS_F h1.1 hq
      obtain ⟨o, z', e, sd, ol, ev, hB', r9⟩ := heavOf_n (s := prS (ζ 49) (ζ 48) T) (R := a2) h1.1 hsF c2
      obtain ⟨ζ2, x1, x2, x3, x4, x5, x6⟩ := weighs_r (s := prS (ζ 49) (ζ 48) T) (R := a2) h1.1 (sub_24 h1.1.1.2.1 hsF) (by omega)
      have hs' := h1.ask (z' := z') (ζ' := ζ2) sd x2.ss
      rw [c01_t c2, c01_t c2, dOfPerils_n h1.1 (by omega), Option.bind_some, e, Option.bind_some, ofPerils_n (by omega) (MRow.of h1.1), Option.bind_some, x1, Option.bind_some, x3, ev]
      dsimp only
      rw [sums_n hB'.2 ol, Option.bind_some, r9]
      exact ⟨_, _, rfl, rfl, rfl, hs'⟩
    · rw [c01_f c2, c01_f c2]
      exact ⟨_, _, rfl, rfl, rfl, hs⟩
  · rw [c01_f c1, c01_f c1]
    exact ⟨_, _, rfl, rfl, rfl, hs⟩
theorem Eq_heaviestSet_n : Eq_heaviestSet Rl := by
  intro n σd σm a1 a2 hn hR ha1 ha2
  obtain ⟨F, N, h⟩ := hR
  have h : Rn n σd σm F N := h
  have h1 := h.m0
  have hs := h.ask (z' := σd) (ζ' := up σm 41 0 0) SD.rf ss0
  unfold f_X9_heaviestSet f_X10_heaviestSet wr
  dsimp only
  generalize up σm 41 0 0 = ζ at *
  rw [dArePerils_n ha1, Option.bind_some, mArePerils_n ha1, Option.bind_some]
  by_cases c1 : 1 ≤ a1 ∧ a1 ≤ 15
  · rw [c01_t c1, c01_t c1, dIsRadius_n ha2, Option.bind_some, mIsRadius_n ha2, Option.bind_some]
    by_cases c2 : 1 ≤ a2 ∧ a2 ≤ 300
    · obtain ⟨T, hTe⟩ : ∃ T : Nat, a1 = (T : Int) := ⟨a1.toNat, by omega⟩
      subst hTe
      have hsF : ∀ q, (prS (ζ 49) (ζ 48) T).testBit q = true → F.testBit q = true := fun q hq => prS_F h1.1 hq
      obtain ⟨o, z', e, sd, ol, ev, hB', r9⟩ := heavOf_n (s := prS (ζ 49) (ζ 48) T) (R := a2) h1.1 hsF c2
      obtain ⟨ζ2, x1, x2, x3, x4, x5, x6⟩ := weighs_r (s := prS (ζ 49) (ζ 48) T) (R := a2) h1.1 (sub_24 h1.1.1.2.1 hsF) (by omega)
      have hs' := h1.ask (z' := z') (ζ' := ζ2) sd x2.ss
      rw [c01_t c2, c01_t c2, dOfPerils_n h1.1 (by omega), Option.bind_some, e, Option.bind_some, ofPerils_n (by omega) (MRow.of h1.1), Option.bind_some, x1, Option.bind_some, x4, ev]
      exact ⟨_, _, rfl, rfl, rfl, hs'⟩
    · rw [c01_f c2, c01_f c2]
      exact ⟨_, _, rfl, rfl, rfl, hs⟩
  · rw [c01_f c1, c01_f c1]
    exact ⟨_, _, rfl, rfl, rfl, hs⟩
