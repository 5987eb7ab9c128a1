/-! ===== pure level: tightest, relief ===== -/
theorem ws_in {z ζ : Sg} {F t : Nat} (ht : t < 6) (h : RelB z ζ F) (hD : TrD z ζ t) : 0 ≤ (wsM ζ t).1 ∧ (wsM ζ t).1 ≤ 24 * 99999 := by
  obtain ⟨o, ol, ow, -⟩ := ws_o ht h hD
  rw [ow]
  exact h.sin
theorem TrD.ss {z ζ ζ' : Sg} {t : Nat} (h : TrD z ζ t) (s : SS ζ ζ') : TrD z ζ' t := by
  obtain ⟨a1, a2, a3⟩ := h
  refine ⟨?_, ?_, ?_⟩
  · rw [s.r49 (k := 50) (by omega), s.r49 (k := 51) (by omega), s.r49 (k := 52) (by omega)]
    exact a1
  · exact a2.cg fun k _ _ => s.r49 (by omega)
  · rw [s.mb, s.r49 (k := 51) (by omega)]
    exact a3
theorem Eq_tightest_n : Eq_tightest Rl := by
  intro n σd σm hn hR
  obtain ⟨F, N, h⟩ := hR
  have h : Rn n σd σm F N := h
  have h1 := h.m0
  obtain ⟨hN, hNm, hN6⟩ := h1.nm
  unfold f_X9_tightest f_X10_tightest wr
  dsimp only
  generalize up σm 41 0 0 = ζ at *
  have key := loop_two (F := fun n i (a : Int × Int × Int) => f_X9_tightest_b11 σd n a.1 a.2.1 a.2.2 i) (G := fun n i (u : Int × Int × Int × Sg) => f_X10_tightest_b16 n u.1 u.2.1 u.2.2.1 i u.2.2.2) N (fun i a u => SS ζ u.2.2.2 ∧ u.1 = a.1 ∧ u.2.1 = a.2.1 ∧ u.2.2.1 = a.2.2 ∧ (a.1 = -2 ∨ (0 ≤ a.1 ∧ a.1 < 6)) ∧ (0 ≤ a.2.1 ∧ a.2.1 ≤ 24 * 99999) ∧ (1 ≤ a.2.2 ∧ a.2.2 ≤ 9999999)) (P := fun x y => ∃ q q', x = some q ∧ y = some q' ∧ w32 q = w32 q'.1 ∧ Rl (n + 1) σd q'.2) (by omega) (by
    intro n' m i a u hi hI
    obtain ⟨b, s, l⟩ := a
    obtain ⟨b', s', l', ζ1⟩ := u
    obtain ⟨s1, j1, j2, j3, j4, j5, j6⟩ := hI
    dsimp only at s1 j1 j2 j3 j4 j5 j6
    have j1 := j1.symm
    have j2 := j2.symm
    have j3 := j3.symm
    subst j1
    subst j2
    subst j3
    right
    obtain ⟨ht6, hD, hA, hQ⟩ := h1.tr hi
    have hB1 := h1.1.ss s1
    have hM1 : MTr ζ1 i := (hD.ss s1).2.1
    have hck : 0 ≤ ((i : Nat) : Int) ∧ ((i : Nat) : Int) < 6 := by omega
    have hlim := hD.2.1.2.2
    have hw := ws_in ht6 h1.1 hD
    obtain ⟨ζ2, e2, c2, -, -, -, -⟩ := worstOf_n ht6 (MRow.of hB1) hM1
    rw [s1.ws] at e2
    have s2 := s1.tr c2.ss
    have d1 : f_X9_tightest_b11 σd (n' + 1) b s l (i : Int) = if w32 b < 0 then f_X9_tightest_b58 σd (f_X9_tightest_b11 σd n') (i : Int) i else if (wsM ζ i).1 * l ≤ s * ζ 52 i then f_X9_tightest_b76 σd (f_X9_tightest_b11 σd n') b s l (i : Int) else f_X9_tightest_b58 σd (f_X9_tightest_b11 σd n') (i : Int) i := by
      have p1 := mul_bd (x := (wsM ζ i).1) (y := l) (A := 24 * 99999) (B := 9999999) ⟨by omega, by omega⟩ ⟨by omega, by omega⟩
      have p2 := mul_bd (x := s) (y := ζ 52 i) (A := 24 * 99999) (B := 9999999) ⟨by omega, by omega⟩ ⟨by omega, by omega⟩
      rw [f_X9_tightest_b11, w32_n (n := i) (by omega), hN, w32_n (n := N) (by omega), if_pos (show (i : Int) < (N : Int) by omega), treatyAt_t hN hi hN6, Option.bind_some, oTs_ ht6, hQ.1.2, hD.1.2.2, w32_eq (z := (wsM ζ i).1) ⟨by omega, by omega⟩, w32_eq (z := ζ 52 i) ⟨by omega, by omega⟩, w64_eq (z := (wsM ζ i).1 * l) ⟨by omega, by omega⟩, w64_eq (z := s * ζ 52 i) ⟨by omega, by omega⟩]
    have e52 : ζ2 52 ((i : Nat) : Int).toNat = ζ 52 i := by
      rw [show ((i : Nat) : Int).toNat = i from Int.toNat_natCast i, s2.r49 (k := 52) (by omega)]
    have d2_ : f_X10_tightest_b16 (m + 1) b s l (i : Int) ζ1 = if w32 b = -2 then f_X10_tightest_b62 (f_X10_tightest_b16 m) (i : Int) (wsM ζ i).1 ζ2 else if (wsM ζ i).1 * l ≤ s * ζ 52 i then f_X10_tightest_b78 (f_X10_tightest_b16 m) b s l (i : Int) ζ2 else f_X10_tightest_b62 (f_X10_tightest_b16 m) (i : Int) (wsM ζ i).1 ζ2 := by
      have p1 := mul_bd (x := (wsM ζ i).1) (y := l) (A := 24 * 99999) (B := 9999999) ⟨by omega, by omega⟩ ⟨by omega, by omega⟩
      have p2 := mul_bd (x := s) (y := ζ 52 i) (A := 24 * 99999) (B := 9999999) ⟨by omega, by omega⟩ ⟨by omega, by omega⟩
      rw [f_X10_tightest_b16, w32_n (n := i) (by omega), s1 41 27 (by unfold Scm; omega), hNm, w32_n (n := N) (by omega), if_pos (show (i : Int) < (N : Int) by omega), e2, Option.bind_some]
      show (if w32 b = -2 then f_X10_tightest_b62 (f_X10_tightest_b16 m) (i : Int) (w32 (wsM ζ i).1) ζ2 else ck (0 ≤ (i : Int) ∧ (i : Int) < 6) (if w64 (w32 (wsM ζ i).1 * l) ≤ w64 (s * w32 (ζ2 52 ((i : Nat) : Int).toNat)) then f_X10_tightest_b78 (f_X10_tightest_b16 m) b s l (i : Int) ζ2 else f_X10_tightest_b62 (f_X10_tightest_b16 m) (i : Int) (w32 (wsM ζ i).1) ζ2)) = _
      rw [ck_t hck, e52, w32_eq (z := (wsM ζ i).1) ⟨by omega, by omega⟩, w32_eq (z := ζ 52 i) ⟨by omega, by omega⟩, w64_eq (z := (wsM ζ i).1 * l) ⟨by omega, by omega⟩, w64_eq (z := s * ζ 52 i) ⟨by omega, by omega⟩]
    have t1 : f_X9_tightest_b58 σd (f_X9_tightest_b11 σd n') (i : Int) i = f_X9_tightest_b11 σd n' (i : Int) (wsM ζ i).1 (ζ 52 i) ((i : Int) + 1) := by
      unfold f_X9_tightest_b58 f_X9_tightest_b76
      rw [hQ.1.2, hD.1.2.2, w32_eq (z := (wsM ζ i).1) ⟨by omega, by omega⟩, w32_eq (z := ζ 52 i) ⟨by omega, by omega⟩]
    have t2 : f_X10_tightest_b62 (f_X10_tightest_b16 m) (i : Int) (wsM ζ i).1 ζ2 = f_X10_tightest_b16 m (i : Int) (wsM ζ i).1 (ζ 52 i) ((i : Int) + 1) ζ2 := by
      unfold f_X10_tightest_b62 f_X10_tightest_b78
      rw [ck_t hck, e52, w32_eq (z := ζ 52 i) ⟨by omega, by omega⟩]
    dsimp only
    rw [d1, d2_, t1, t2]
    rcases j4 with j4 | j4
    · rw [if_pos (show w32 b < 0 by rw [j4]; decide), if_pos (show w32 b = -2 by rw [j4]; decide)]
      exact ⟨((i : Int), (wsM ζ i).1, ζ 52 i), ((i : Int), (wsM ζ i).1, ζ 52 i, ζ2), ⟨s2, rfl, rfl, rfl, Or.inr hck, hw, hlim⟩, rfl, rfl⟩
    · have hb := w32_eq (z := b) ⟨by omega, by omega⟩
      rw [if_neg (show ¬ w32 b < 0 by omega), if_neg (show ¬ w32 b = -2 by omega)]
      by_cases q : (wsM ζ i).1 * l ≤ s * ζ 52 i
      · rw [if_pos q, if_pos q]
        exact ⟨(b, s, l), (b, s, l, ζ2), ⟨s2, rfl, rfl, rfl, Or.inr j4, j5, j6⟩, rfl, rfl⟩
      · rw [if_neg q, if_neg q]
        exact ⟨((i : Int), (wsM ζ i).1, ζ 52 i), ((i : Int), (wsM ζ i).1, ζ 52 i, ζ2), ⟨s2, rfl, rfl, rfl, Or.inr hck, hw, hlim⟩, rfl, rfl⟩) (by
    intro n' m a u hI
    obtain ⟨b, s, l⟩ := a
    obtain ⟨b', s', l', ζ1⟩ := u
    obtain ⟨s1, j1, -⟩ := hI
    dsimp only at s1 j1
    have hs' := h1.ask (z' := σd) (ζ' := ζ1) SD.rf s1
    dsimp only
    rw [f_X9_tightest_b11, f_X10_tightest_b16, w32_n (n := N) (by omega), hN, s1 41 27 (by unfold Scm; omega), hNm, w32_n (n := N) (by omega), if_neg (show ¬ (N : Int) < (N : Int) by omega), if_neg (show ¬ (N : Int) < (N : Int) by omega), j1]
    exact ⟨_, _, rfl, rfl, rfl, hs'⟩) 0 (Nat.zero_le _) (-2, 0, 1) (-2, 0, 1, ζ) ⟨SS.rf, rfl, rfl, rfl, Or.inl rfl, ⟨(by decide : (0 : Int) ≤ 0), (by decide : (0 : Int) ≤ 24 * 99999)⟩, ⟨(by decide : (1 : Int) ≤ 1), (by decide : (1 : Int) ≤ 9999999)⟩⟩
  exact key
/-- the heaviest of a treaty's without some -/
noncomputable def woV (ζ : Sg) (t m : Nat) : Int := (hvS (ζ 45) (ζ 46) (ζ 47) (ζ 51 t) none (mbS ζ t &&& (m ^^^ 4294967295))).1
theorem woV_in {z ζ : Sg} {F t m : Nat} (ht : t < 6) (h : RelB z ζ F) (hD : TrD z ζ t) : 0 ≤ woV ζ t m ∧ woV ζ t m ≤ 24 * 99999 := by
  have e1 : mbS ζ t &&& (16777215 &&& (m ^^^ 4294967295)) = mbS ζ t &&& (m ^^^ 4294967295) := by rw [← Nat.and_assoc, and_all (mbS_24 ζ t)]
  obtain ⟨o, e, ol, ev, es, -⟩ := heav_hv (s := 16777215 &&& (m ^^^ 4294967295)) (d := t) (by omega) (Nat.lt_of_le_of_lt Nat.and_le_left (by decide)) (mbS_24 ζ t) (sqR hD.2.1.2.1) hD.2.2 h.2 h.s1
  rw [e1, h.hv (fun q hq => by rw [Nat.testBit_and, Bool.and_eq_true] at hq; exact (mbS_F h hq.1).1)] at ev
  unfold woV
  rw [ev]
  exact h.sin
theorem weighsWo_n {z ζ ζ1 : Sg} {F t p : Nat} (ht : t < 6) (hp : p < 24) (h : RelB z ζ F) (hD : TrD z ζ t) (s1 : SS ζ ζ1) :
    ∃ ζ2, f_X10_weighs ((((u32 ((mbS ζ t : Nat) : Int)) &&& ((u32 (1 * ((2 ^ (u32 (p : Int) % 32) : Nat) : Int))) ^^^ 4294967295) : Nat) : Int)) (ζ1 51 ((t : Nat) : Int).toNat) (-1) ζ1 = some ζ2 ∧ SS ζ ζ2 ∧ ζ2 41 36 = woV ζ t (2 ^ p) := by
  have hB1 := h.ss s1
  obtain ⟨ζ2, x1, x2, x3, x4, x5, x6⟩ := weighs_r (s := mbS ζ t &&& (2 ^ p ^^^ 4294967295)) (R := ζ 51 t) hB1 (clr_lt (mbS_24 _ _)) (by have := hD.2.1.2.1; omega)
  refine ⟨ζ2, ?_, s1.tr x2.ss, ?_⟩
  · rw [one_shl (by omega), u32_nat (pow_lt (by omega)), u32_nat (by have := mbS_24 ζ t; omega), show ((t : Nat) : Int).toNat = t from Int.toNat_natCast t, s1.r49 (k := 51) (by omega)]
    exact x1
  · rw [x3]
    unfold woV
    rw [hvS_cg (fun q hq => by
      have hq := bit_lt (clr_lt (p := p) (mbS_24 ζ t)) hq
      exact ⟨s1 45 q (by unfold Scm; omega), s1 46 q (by unfold Scm; omega), s1 47 q (by unfold Scm; omega)⟩)]
theorem Eq_relief_n : Eq_relief Rl := by
  intro n σd σm a1 a2 hn hR ha1 ha2
  obtain ⟨F, N, h⟩ := hR
  have h : Rn n σd σm F N := h
  have h1 := h.m0
  have hs := h.ask (z' := σd) (ζ' := up σm 41 0 0) SD.rf ss0
  obtain ⟨hN, hNm, hN6⟩ := h1.nm
  unfold f_X9_relief f_X10_relief wr
  dsimp only
  generalize up σm 41 0 0 = ζ at *
  by_cases c1 : 0 ≤ a1 ∧ a1 < N
  · obtain ⟨t, hte⟩ : ∃ t : Nat, a1 = (t : Int) := ⟨a1.toNat, by omega⟩
    subst hte
    have ht : t < N := by omega
    obtain ⟨ht6, hD, hA, hQ⟩ := h1.tr ht
    have hck : 0 ≤ ((t : Nat) : Int) ∧ ((t : Nat) : Int) < 6 := by omega
    rw [treatyAt_t hN ht hN6, Option.bind_some, oTs_ ht6, isTr_t hNm hN6 ha1, Option.bind_some, c01_t c1, w32_eq ha2]
    by_cases c2 : a2 < 0
    · rw [if_pos c2, if_pos c2]
      exact ⟨_, _, rfl, rfl, rfl, hs⟩
    · rw [if_neg c2, if_neg c2]
      by_cases c3 : a2 ≤ 1
      · rw [if_pos c3, if_pos c3]
        obtain ⟨ζ', e, s, e36, e37, i1, i2⟩ := worstOf_n ht6 (MRow.of h1.1) hD.2.1
        obtain ⟨o, ol, ow, -⟩ := ws_o ht6 h1.1 hD
        have z5 : σd (21 + t) 5 = (o : Int) := by rw [hQ.1.1, ow]
        have o37 : ζ' 41 37 = (o : Int) := by rw [e37, ow]
        have hD' := hD.ss s.ss
        have hB' := h1.1.ss s.ss
        rw [e, Option.bind_some]
        show ∃ q q', f_X9_relief_b32 σd FUEL a2 t (-2) (-2) 0 = some q ∧ ((f_X10_ofTreaty (t : Int) ζ').bind fun q6 => f_X10_relief_b53 FUEL (t : Int) a2 (ζ' 41 37) q6 (-2) (-2) 0 ζ') = some q' ∧ _
        rw [ofTr_n ht6 hB' hD'.2.1, Option.bind_some, s.ss.mb, o37]
        have key := loop_two (F := fun n i (a : Int × Int) => f_X9_relief_b32 σd n a2 t a.1 a.2 i) (G := fun n i (u : Int × Int × Sg) => f_X10_relief_b53 n (t : Int) a2 (o : Int) ((mbS ζ t : Nat) : Int) u.1 u.2.1 i u.2.2) 24 (fun i a u => SS ζ u.2.2 ∧ u.1 = a.1 ∧ u.2.1 = a.2 ∧ (a.1 = -2 ∨ (0 ≤ a.1 ∧ a.1 < 24))) (P := fun x y => ∃ q q', x = some q ∧ y = some q' ∧ w32 q = w32 q'.1 ∧ Rl (n + 1) σd q'.2) (by decide) (by
          intro n' m i a u hi hI
          obtain ⟨b, l⟩ := a
          obtain ⟨b', l', ζ1⟩ := u
          obtain ⟨s1, j1, j2, j4⟩ := hI
          dsimp only at s1 j1 j2 j4
          have j1 := j1.symm
          have j2 := j2.symm
          subst j1
          subst j2
          right
          dsimp only
          rw [f_X9_relief_b32, f_X10_relief_b53, w32_n (n := i) (by omega), if_pos (show (i : Int) < 24 by omega), if_pos (show (i : Int) < 24 by omega), z5, contains_n (by omega) (by omega), Option.bind_some, has_n (by omega) (by omega), Option.bind_some]
          cases hb : o.testBit i with
          | false =>
            rw [b01_f rfl, b01_f rfl]
            exact ⟨(b, l), (b, l, ζ1), ⟨s1, rfl, rfl, j4⟩, rfl, rfl⟩
          | true =>
            obtain ⟨ζ2, x1, s2, x3⟩ := weighsWo_n (p := i) ht6 hi h1.1 hD s1
            have hw := woV_in (m := 2 ^ i) ht6 h1.1 hD
            rw [b01_t rfl, b01_t rfl, ck_t hck, x1, Option.bind_some, one_shl (by omega), without_n ht6 h1.1 hD (pow_24 hi), Option.bind_some]
            show ∃ s' u', _ ∧ (if w32 b < 0 then f_X9_relief_b73 σd (f_X9_relief_b32 σd n') a2 t (i : Int) (woV ζ t (2 ^ i)) else if w32 (woV ζ t (2 ^ i)) < w32 l then f_X9_relief_b73 σd (f_X9_relief_b32 σd n') a2 t (i : Int) (woV ζ t (2 ^ i)) else f_X9_relief_b81 σd (f_X9_relief_b32 σd n') a2 t b l (i : Int)) = _ ∧ _
            rw [x3]
            have take : f_X10_relief_b111 (f_X10_relief_b53 m) (t : Int) a2 (o : Int) ((mbS ζ t : Nat) : Int) (i : Int) ζ2 = f_X10_relief_b53 m (t : Int) a2 (o : Int) ((mbS ζ t : Nat) : Int) (i : Int) (woV ζ t (2 ^ i)) ((i : Int) + 1) ζ2 := by
              unfold f_X10_relief_b111 f_X10_relief_b121
              rw [x3]
            rw [take]
            rcases j4 with j4 | j4
            · rw [if_pos (show w32 b < 0 by rw [j4]; decide), if_pos (show w32 b = -2 by rw [j4]; decide)]
              exact ⟨((i : Int), woV ζ t (2 ^ i)), ((i : Int), woV ζ t (2 ^ i), ζ2), ⟨s2, rfl, rfl, Or.inr ⟨by dsimp only; omega, by dsimp only; omega⟩⟩, rfl, rfl⟩
            · have hbb := w32_eq (z := b) ⟨by omega, by omega⟩
              rw [if_neg (show ¬ w32 b < 0 by omega), if_neg (show ¬ w32 b = -2 by omega)]
              by_cases q : w32 (woV ζ t (2 ^ i)) < w32 l
              · rw [if_pos q, if_pos q]
                exact ⟨((i : Int), woV ζ t (2 ^ i)), ((i : Int), woV ζ t (2 ^ i), ζ2), ⟨s2, rfl, rfl, Or.inr ⟨by dsimp only; omega, by dsimp only; omega⟩⟩, rfl, rfl⟩
              · rw [if_neg q, if_neg q]
                exact ⟨(b, l), (b, l, ζ2), ⟨s2, rfl, rfl, Or.inr j4⟩, rfl, rfl⟩) (by
          intro n' m a u hI
          obtain ⟨b, l⟩ := a
          obtain ⟨b', l', ζ1⟩ := u
          obtain ⟨s1, j1, j2, -⟩ := hI
          dsimp only at s1 j1 j2
          have hs' := h1.ask (z' := σd) (ζ' := ζ1) SD.rf s1
          dsimp only
          rw [f_X9_relief_b32, f_X10_relief_b53, w32_n (n := 24) (by decide), if_neg (show ¬ ((24 : Nat) : Int) < 24 by decide), if_neg (show ¬ ((24 : Nat) : Int) < 24 by decide), j1, j2]
          unfold f_X9_relief_b87 f_X10_relief_b127
          by_cases q : w32 a2 = 0
          · rw [if_pos q, if_pos q]
            exact ⟨_, _, rfl, rfl, rfl, hs'⟩
          · rw [if_neg q, if_neg q]
            exact ⟨_, _, rfl, rfl, rfl, hs'⟩) 0 (by decide) (-2, -2) (-2, -2, ζ') ⟨s.ss, rfl, rfl, Or.inl rfl⟩
        exact key
      · rw [if_neg c3, if_neg c3]
        exact ⟨_, _, rfl, rfl, rfl, hs⟩
  · rw [treatyAt_f hN ha1 hN6 c1, Option.bind_some, isTr_t hNm hN6 ha1, Option.bind_some, c01_f c1]
    exact ⟨_, _, rfl, rfl, rfl, hs⟩
