/-! ===== pure level: how great one more may be ===== -/
def Jt (z ζ : Sg) (x y : Int) (t : Nat) (j : Int) : Prop := HM (JS (pX (ζ 45) 24 x) (pX (ζ 46) 24 y) (ζ 51 t) (mbS ζ t) 24) (fun o => sumb (z 9) o 24) j
def Rm (z ζ : Sg) (x y : Int) (q N : Nat) (r : Int) : Prop := (r = 99999 ∨ ∃ t j, t < N ∧ tkB ζ t q = true ∧ Jt z ζ x y t j ∧ r = ζ 52 t - j) ∧ r ≤ 99999 ∧ ∀ t j, t < N → tkB ζ t q = true → Jt z ζ x y t j → r ≤ ζ 52 t - j
theorem Rm.u {z ζ : Sg} {x y : Int} {q N : Nat} {r s : Int} (h : Rm z ζ x y q N r) (k : Rm z ζ x y q N s) : r = s := by
  obtain ⟨h1, h2, h3⟩ := h
  obtain ⟨k1, k2, k3⟩ := k
  have a : s ≤ r := by
    rcases h1 with e | ⟨t, j, t1, t2, t3, t4⟩
    · omega
    · have := k3 t j t1 t2 t3
      omega
  have b : r ≤ s := by
    rcases k1 with e | ⟨t, j, t1, t2, t3, t4⟩
    · omega
    · have := h3 t j t1 t2 t3
      omega
  omega
theorem Rm.skip {z ζ : Sg} {x y : Int} {q N : Nat} {r : Int} (h : Rm z ζ x y q N r) (k : ∀ j, tkB ζ N q = true → Jt z ζ x y N j → r ≤ ζ 52 N - j) : Rm z ζ x y q (N + 1) r := by
  obtain ⟨h1, h2, h3⟩ := h
  refine ⟨h1.imp id (fun ⟨t, j, t1, t2⟩ => ⟨t, j, by omega, t2⟩), h2, fun t j t1 t2 t3 => ?_⟩
  rcases Nat.lt_succ_iff_lt_or_eq.1 t1 with e | e
  · exact h3 t j e t2 t3
  · subst e
    exact k j t2 t3
theorem Rm.step {z ζ : Sg} {x y : Int} {q N : Nat} {r j : Int} (h : Rm z ζ x y q N r) (hk : tkB ζ N q = true) (hj : Jt z ζ x y N j) (hl : ζ 52 N - j < r) : Rm z ζ x y q (N + 1) (ζ 52 N - j) := by
  obtain ⟨h1, h2, h3⟩ := h
  refine ⟨Or.inr ⟨N, j, by omega, hk, hj, rfl⟩, by omega, fun t i t1 t2 t3 => ?_⟩
  rcases Nat.lt_succ_iff_lt_or_eq.1 t1 with e | e
  · have := h3 t i e t2 t3
    omega
  · subst e
    rw [hj.u t3]
    exact Int.le_refl _
theorem Rm.keep {z ζ : Sg} {x y : Int} {q N : Nat} {r j : Int} (h : Rm z ζ x y q N r) (hj : Jt z ζ x y N j) (hl : ¬ ζ 52 N - j < r) : Rm z ζ x y q (N + 1) r := h.skip fun i _ hi => by
  rw [← hj.u hi]
  omega
theorem pX_ss {ζ u : Sg} (s : SS ζ u) {k : Nat} (hk : 45 ≤ k ∧ k ≤ 48) {x : Int} : pX (u k) 24 x = pX (ζ k) 24 x := by
  funext q
  by_cases e : q = 24
  · rw [e, pX_s, pX_s]
  · rw [pX_n e, pX_n e]
    exact s k q (by unfold Scm; omega)
theorem Jt_bd {z ζ : Sg} {F t : Nat} {x y j : Int} (h : RelB z ζ F) (hj : Jt z ζ x y t j) : 0 ≤ j ∧ j ≤ 24 * 99999 ∧ j ≤ sumb (z 9) (mbS ζ t) 24 := by
  obtain ⟨⟨o, o1, o2⟩, -⟩ := hj
  have o2 : j = sumb (z 9) o 24 := o2
  have := h.sin (s := o)
  have := sumb_mono (S := z 9) (s := o) (t := mbS ζ t) (n := 24) (fun i _ hi => o1.1 i hi) (fun i _ hi => by have := h.s1 i hi; omega)
  omega
/-- what lies with a place in a disc lies in one without it -/
theorem tg_drop {X Y : Nat → Int} {R x y : Int} {o : Nat} (ho : o < 16777216) (h : Tg (pX X 24 x) (pX Y 24 y) R (o ||| 2 ^ 24)) : Tg X Y R o := by
  have h2 : Tg (pX X 24 x) (pX Y 24 y) R o := h.sub (fun q hq => tb_or_pow.mpr (Or.inl hq))
  have eq : ∀ q, o.testBit q = true → pX X 24 x q = X q ∧ pX Y 24 y q = Y q := fun q hq => by
    have := bit_lt ho hq
    exact ⟨pX_n (by omega), pX_n (by omega)⟩
  rcases Tg_pair (o := o) (by omega) h2 with h0 | ⟨a, b, side, ha, hb, hok, hin⟩
  · by_cases he : o = 0
    · rw [he]
      exact tg_00
    · obtain ⟨p, hp⟩ := ex_bit he
      refine Or.inl ⟨p, fun q hq => ?_⟩
      have h3 := h0 p q hp hq
      have e : d2 (pX X 24 x) (pX Y 24 y) p q = d2 X Y p q := by
        unfold d2
        rw [(eq p hp).1, (eq p hp).2, (eq q hq).1, (eq q hq).2]
      rw [← e, h3]
      exact sq_nn R
  · exact Or.inr ⟨a, b, side, (rimOk_cg (eq a ha) (eq b hb)).mp hok, fun q hq => by
      rw [← inD_cg (R := R) (side := side) (eq a ha) (eq b hb) (eq q hq)]
      exact hin q hq⟩
/-- so it is no more than the worst -/
theorem jt_ws {n : Nat} {z ζ : Sg} {F N t : Nat} {x y j : Int} (h : Rn n z ζ F N) (ht : t < N) (hj : Jt z ζ x y t j) : j ≤ (wsM ζ t).1 := by
  obtain ⟨ht6, hD, -⟩ := h.tr ht
  obtain ⟨⟨o, ⟨o1, o2⟩, o3⟩, -⟩ := hj
  have o3 : j = sumb (z 9) o 24 := o3
  have M24 := mbS_24 ζ t
  have o24 : o < 16777216 := sub_24 M24 o1
  have hMr := MRow.of h.1
  have wo : WOk ζ (mbS ζ t) := ⟨by omega, fun q _ hb => by
    obtain ⟨-, -, m3, m4⟩ := hMr q (bit_lt M24 hb)
    exact ⟨m3, m4⟩⟩
  have hR := hD.2.1.2.1
  have hw : sumb (ζ 47) o 25 ≤ (hvS (ζ 45) (ζ 46) (ζ 47) (ζ 51 t) none (mbS ζ t)).1 := (hv_hm (R := ζ 51 t) wo (by omega)).2 o ⟨o1, tg_drop o24 o2⟩
  rw [h.1.sm (s := o) (fun q hq => (mbS_F h.1 (o1 q hq)).1)] at hw
  rw [o3]
  exact hw
/-- the class's, at any scratch -/
theorem jn_u {n : Nat} {z ζ u : Sg} {F N t : Nat} {x y fl : Int} (h : Rn n z ζ F N) (ht : t < N) (s : SD z u) (Px : 0 ≤ x ∧ x < 300) (Py : 0 ≤ y ∧ y < 300) (hfl : -1000000000 ≤ fl ∧ fl ≤ 1000000000) :
    ∃ v u', f_X2_joined t x y 16777215 fl u = some (v, u') ∧ SD z u' ∧ (∀ j, Jt z ζ x y t j → v = if fl < j then j else fl) ∧ ∃ j, Jt z ζ x y t j := by
  have h2 := h.sd s
  obtain ⟨ht6, hD, -⟩ := h2.tr ht
  have M24 := mbS_24 ζ t
  have ea := and_all2 M24
  have r9 : u 9 = z 9 := s.row (by omega)
  have gen : ∀ fl : Int, -1000000000 ≤ fl ∧ fl ≤ 1000000000 → ∃ v u', f_X2_joined t x y 16777215 fl u = some (v, u') ∧ FrJ t u u' ∧ JF (pX (ζ 45) 24 x) (pX (ζ 46) 24 y) (z 9) (ζ 51 t) (mbS ζ t) 24 fl v ∧ ∀ o, JS (pX (ζ 45) 24 x) (pX (ζ 46) 24 y) (ζ 51 t) (mbS ζ t) 24 o → sumb (z 9) o 24 ≤ v := fun fl hfl => by
    obtain ⟨v, u', e1, f1, J, U⟩ := jn_t (s := 16777215) (m := 24) (x := x) (y := y) (fl := fl) (X := pX (ζ 45) 24 x) (Y := pX (ζ 46) 24 y) ht6 h2.1 hD (by decide) Px Py (by decide) (by rw [ea]; exact tb_24 M24 (Nat.le_refl _)) pX_s pX_s (fun q hq => by
      rw [ea] at hq
      have := bit_lt M24 hq
      exact ⟨pX_n (by omega), pX_n (by omega)⟩) hfl
    rw [ea, r9] at J U
    exact ⟨v, u', e1, f1, J, U⟩
  obtain ⟨v, u', e1, f1, J, U⟩ := gen fl hfl
  obtain ⟨j, -, -, -, J0, U0⟩ := gen 0 (by omega)
  exact ⟨v, u', e1, s.tr (f1.sd ht6), fun j hj => jv_max J U hj, j, jf_hm J0 U0⟩
theorem roomAt_n {n : Nat} {z ζ ζ0 : Sg} {F N q : Nat} {x y : Int} (hn : n < 512) (h : Rn n z ζ F N) (s0 : SS ζ ζ0) (hq : q < 4) (Px : 0 ≤ x ∧ x < 300) (Py : 0 ≤ y ∧ y < 300) :
    ∃ r ζ', f_X10_roomAt x y (q : Int) ζ0 = some (r, ζ') ∧ SS ζ ζ' ∧ (-100000000 ≤ r ∧ r ≤ 99999) ∧ ((r = -1 ∧ ∃ t, t < N ∧ tkB ζ t q = true ∧ psM ζ t) ∨ ((∀ t, t < N → tkB ζ t q = true → ¬ psM ζ t) ∧ Rm z ζ x y q N r)) := by
  obtain ⟨hN, hNm, hN6⟩ := h.nm
  unfold f_X10_roomAt
  refine loop_P (F := fun k i (u : Int × Sg) => f_X10_roomAt_b7 k x y (q : Int) u.1 i u.2) N (fun i u => SS ζ u.2 ∧ (-100000000 ≤ u.1 ∧ u.1 ≤ 99999) ∧ (∀ t, t < i → tkB ζ t q = true → ¬ psM ζ t) ∧ Rm z ζ x y q i u.1) (P := fun X => ∃ r ζ', X = some (r, ζ') ∧ SS ζ ζ' ∧ (-100000000 ≤ r ∧ r ≤ 99999) ∧ ((r = -1 ∧ ∃ t, t < N ∧ tkB ζ t q = true ∧ psM ζ t) ∨ ((∀ t, t < N → tkB ζ t q = true → ¬ psM ζ t) ∧ Rm z ζ x y q N r))) (by omega) ?_ ?_ 0 (by omega) (99999, ζ0) ⟨s0, (by decide : -100000000 ≤ (99999 : Int) ∧ (99999 : Int) ≤ 99999), fun t ht => by omega, Or.inl rfl, (by decide : (99999 : Int) ≤ 99999), fun t j ht => by omega⟩
  · intro k i u hi hI
    obtain ⟨r, u⟩ := u
    obtain ⟨su, hr, hp, hm⟩ := hI
    have su : SS ζ u := su
    have hr : -100000000 ≤ r ∧ r ≤ 99999 := hr
    have hm : Rm z ζ x y q i r := hm
    obtain ⟨ht6, hD, hA, hQ⟩ := h.tr hi
    have hB := h.1.ss su
    have hDu := hD.ss su
    have hlim := hD.2.1
    have hl0 := hD.2.1.1
    have hl1 := hD.2.1.2.1
    have hl2 := hD.2.1.2.2
    have hck : 0 ≤ ((i : Nat) : Int) ∧ ((i : Nat) : Int) < 6 := by omega
    have u27 : u 41 27 = (N : Int) := (su 41 27 (by unfold Scm; omega)).trans hNm
    have T50 : u 50 i = ((((ζ 50 i).toNat : Nat)) : Int) := by
      rw [su.r49 (k := 50) (by omega)]
      have := hlim.1
      omega
    have u52 : u 52 i = ζ 52 i := by rw [su.r49 (k := 52) (by omega)]
    have u53 : u 53 i = ζ 53 i := by rw [su.r49 (k := 53) (by omega)]
    show (∃ r' ζ', f_X10_roomAt_b7 (k + 1) x y (q : Int) r (i : Int) u = some (r', ζ') ∧ _) ∨ ∃ s' : Int × Sg, _ ∧ f_X10_roomAt_b7 (k + 1) x y (q : Int) r (i : Int) u = f_X10_roomAt_b7 k x y (q : Int) s'.1 ((i : Int) + 1) s'.2
    rw [f_X10_roomAt_b7, u27, w32_n (by omega), w32_n (by omega), if_pos (show (i : Int) < (N : Int) by omega), ck_t hck, ntn, T50, has_n (by omega) (by omega), Option.bind_some]
    have hk : (ζ 50 i).toNat.testBit q = tkB ζ i q := rfl
    rw [hk]
    have pnew : (tkB ζ i q = true → ¬ psM ζ i) → ∀ t, t < i + 1 → tkB ζ t q = true → ¬ psM ζ t := fun e t ht => by
      rcases Nat.lt_succ_iff_lt_or_eq.1 ht with e2 | e2
      · exact hp t e2
      · rw [e2]
        exact e
    cases htk : tkB ζ i q with
    | false =>
      right
      rw [b01_f rfl]
      exact ⟨(r, u), ⟨su, hr, pnew (fun e => by rw [htk] at e; cases e), hm.skip (fun j e => by rw [htk] at e; cases e)⟩, rfl⟩
    | true =>
      have a53 := hA.2.2
      rw [b01_t rfl, ck_t hck, u53, w32_eq (z := ζ 53 i) ⟨by omega, by omega⟩]
      by_cases c1 : ζ 53 i = -2
      · have hnp := hQ.2.mp c1
        rw [if_pos c1, ck_t hck, ofTr_n ht6 hB hDu.2.1, Option.bind_some, su.mb i, sumOf_n (by have := mbS_24 ζ i; omega), Option.bind_some, hB.sm (fun p hp2 => (mbS_F h.1 hp2).1), u52]
        have sb := h.1.sin (s := mbS ζ i)
        rw [w32_eq (z := ζ 52 i - sumb (z 9) (mbS ζ i) 24) ⟨by omega, by omega⟩, w32_eq (z := r) ⟨by omega, by omega⟩]
        right
        by_cases c2 : ζ 52 i - sumb (z 9) (mbS ζ i) 24 < r
        · rw [if_pos c2, ck_t hck]
          obtain ⟨j, u2, e2, s2, hj⟩ := wp_n (x := x) (y := y) ht6 hB hDu Px Py
          rw [pX_ss su (by decide), pX_ss su (by decide), su.r49 (k := 51) (by omega), su.mb i] at hj
          have hj : Jt z ζ x y i j := hj
          have bj := Jt_bd h.1 hj
          rw [e2, Option.bind_some]
          dsimp only
          rw [w32_eq (z := ζ 52 i - j) ⟨by omega, by omega⟩]
          by_cases c3 : ζ 52 i - j < r
          · rw [if_pos c3]
            exact ⟨(ζ 52 i - j, u2), ⟨su.tr s2, ⟨by show -100000000 ≤ ζ 52 i - j; omega, by show ζ 52 i - j ≤ 99999; omega⟩, pnew (fun _ => hnp), hm.step htk hj c3⟩, rfl⟩
          · rw [if_neg c3]
            exact ⟨(r, u2), ⟨su.tr s2, hr, pnew (fun _ => hnp), hm.keep hj c3⟩, rfl⟩
        · rw [if_neg c2]
          exact ⟨(r, u), ⟨su, hr, pnew (fun _ => hnp), hm.skip (fun j _ hj => by have := Jt_bd h.1 hj; omega)⟩, rfl⟩
      · left
        rw [if_neg c1]
        refine ⟨-1, u, rfl, su, by decide, Or.inl ⟨rfl, i, hi, htk, ?_⟩⟩
        exact Classical.byContradiction fun e => c1 (hQ.2.mpr e)
  · intro k u hI
    obtain ⟨r, u⟩ := u
    obtain ⟨su, hr, hp, hm⟩ := hI
    have u27 : u 41 27 = (N : Int) := (su 41 27 (by unfold Scm; omega)).trans hNm
    show ∃ r' ζ', f_X10_roomAt_b7 (k + 1) x y (q : Int) r (N : Int) u = some (r', ζ') ∧ _
    rw [f_X10_roomAt_b7, u27, if_neg (Int.lt_irrefl _)]
    exact ⟨r, u, rfl, su, hr, Or.inr ⟨hp, hm⟩⟩
theorem mostLoop_n {n : Nat} {z ζ : Sg} {F N q : Nat} {x y : Int} (h : Rn n z ζ F N) (hq : q < 4) (Px : 0 ≤ x ∧ x < 300) (Py : 0 ≤ y ∧ y < 300) :
    ∃ r z', f_X9_most_b25 FUEL x y (q : Int) 99999 0 z = some (r, z') ∧ SD z z' ∧ ((r = 0 ∧ ∃ t, t < N ∧ tkB ζ t q = true ∧ psM ζ t) ∨ ((∀ t, t < N → tkB ζ t q = true → ¬ psM ζ t) ∧ Rm z ζ x y q N r)) := by
  obtain ⟨hN, hNm, hN6⟩ := h.nm
  refine loop_P (F := fun k i (u : Int × Sg) => f_X9_most_b25 k x y (q : Int) u.1 i u.2) N (fun i u => SD z u.2 ∧ (-100000000 ≤ u.1 ∧ u.1 ≤ 99999) ∧ (∀ t, t < i → tkB ζ t q = true → ¬ psM ζ t) ∧ Rm z ζ x y q i u.1) (P := fun X => ∃ r z', X = some (r, z') ∧ SD z z' ∧ ((r = 0 ∧ ∃ t, t < N ∧ tkB ζ t q = true ∧ psM ζ t) ∨ ((∀ t, t < N → tkB ζ t q = true → ¬ psM ζ t) ∧ Rm z ζ x y q N r))) (by omega) ?_ ?_ 0 (by omega) (99999, z) ⟨SD.rf, (by decide : -100000000 ≤ (99999 : Int) ∧ (99999 : Int) ≤ 99999), fun t ht => by omega, Or.inl rfl, (by decide : (99999 : Int) ≤ 99999), fun t j ht => by omega⟩
  · intro k i u hi hI
    obtain ⟨r, u⟩ := u
    obtain ⟨su, hr, hp, hm⟩ := hI
    have su : SD z u := su
    have hr : -100000000 ≤ r ∧ r ≤ 99999 := hr
    have hm : Rm z ζ x y q i r := hm
    have h2 := h.sd su
    obtain ⟨ht6, hD, hA, hQ⟩ := h2.tr hi
    have u4 : u 0 4 = (N : Int) := h2.nm.1
    have hlim := hD.2.1
    have hl0 := hD.2.1.1
    have hl1 := hD.2.1.2.1
    have hl2 := hD.2.1.2.2
    show (∃ r' z', f_X9_most_b25 (k + 1) x y (q : Int) r (i : Int) u = some (r', z') ∧ _) ∨ ∃ s' : Int × Sg, _ ∧ f_X9_most_b25 (k + 1) x y (q : Int) r (i : Int) u = f_X9_most_b25 k x y (q : Int) s'.1 ((i : Int) + 1) s'.2
    rw [f_X9_most_b25, u4, w32_n (by omega), w32_n (by omega), if_pos (show (i : Int) < (N : Int) by omega), treatyAt_t u4 hi hN6, Option.bind_some, oTs_ ht6, takes_n ht6 hq hD.1.1 hD.2.1.1, Option.bind_some]
    have pnew : (tkB ζ i q = true → ¬ psM ζ i) → ∀ t, t < i + 1 → tkB ζ t q = true → ¬ psM ζ t := fun e t ht => by
      rcases Nat.lt_succ_iff_lt_or_eq.1 ht with e2 | e2
      · exact hp t e2
      · rw [e2]
        exact e
    cases htk : tkB ζ i q with
    | false =>
      right
      rw [b01_f rfl]
      exact ⟨(r, u), ⟨su, hr, pnew (fun e => by rw [htk] at e; cases e), hm.skip (fun j e => by rw [htk] at e; cases e)⟩, rfl⟩
    | true =>
      rw [b01_t rfl, dPassed_n ht6 h2.1 hD hQ, Option.bind_some]
      by_cases c1 : psM ζ i
      · left
        rw [c01_t c1]
        exact ⟨0, u, rfl, su, Or.inl ⟨rfl, i, hi, htk, c1⟩⟩
      · right
        obtain ⟨v, u2, e2, s2, hv, j, hj⟩ := jn_u (fl := 0) h hi su Px Py (by omega)
        have bj := Jt_bd h.1 hj
        have hvj : v = j := by
          rw [hv j hj]
          split <;> omega
        subst hvj
        rw [c01_f c1, e2, Option.bind_some, hD.1.2.2]
        dsimp only
        rw [mmin_i ⟨by omega, by omega⟩ ⟨by omega, by omega⟩]
        by_cases c3 : ζ 52 i - v < r
        · rw [if_pos c3]
          exact ⟨(ζ 52 i - v, u2), ⟨s2, ⟨by show -100000000 ≤ ζ 52 i - v; omega, by show ζ 52 i - v ≤ 99999; omega⟩, pnew (fun _ => c1), hm.step htk hj c3⟩, rfl⟩
        · rw [if_neg c3]
          exact ⟨(r, u2), ⟨s2, hr, pnew (fun _ => c1), hm.keep hj c3⟩, rfl⟩
  · intro k u hI
    obtain ⟨r, u⟩ := u
    obtain ⟨su, hr, hp, hm⟩ := hI
    have su : SD z u := su
    have hr : -100000000 ≤ r ∧ r ≤ 99999 := hr
    have u4 : u 0 4 = (N : Int) := (h.sd su).nm.1
    show ∃ r' z', f_X9_most_b25 (k + 1) x y (q : Int) r (N : Int) u = some (r', z') ∧ _
    rw [f_X9_most_b25, u4, if_neg (Int.lt_irrefl _)]
    exact ⟨r, u, rfl, su, Or.inr ⟨hp, hm⟩⟩
theorem Eq_most_n : Eq_most Rl := by
  intro n σd σm a1 a2 a3 hn hR ha1 ha2 ha3
  obtain ⟨F, N, h⟩ := hR
  have h : Rn n σd σm F N := h
  have h1 := h.m0
  have hs := h.ask (z' := σd) (ζ' := up σm 41 0 0) SD.rf ss0
  unfold f_X9_most f_X10_most wr
  dsimp only
  generalize up σm 41 0 0 = ζ at *
  rw [dIsPlace_n ha1 ha2, Option.bind_some, mIsPlace_n ha1 ha2, Option.bind_some]
  by_cases c1 : (0 ≤ a1 ∧ a1 ≤ 299) ∧ (0 ≤ a2 ∧ a2 ≤ 299)
  · rw [c01_t c1, c01_t c1, dIsPeril_n ha3, Option.bind_some, mIsPeril_n ha3, Option.bind_some]
    by_cases c2 : 0 ≤ a3 ∧ a3 ≤ 3
    · obtain ⟨q, hqe⟩ : ∃ q : Nat, a3 = (q : Int) := ⟨a3.toNat, by omega⟩
      subst hqe
      obtain ⟨r, z', e1, s1, k1⟩ := mostLoop_n (q := q) h1 (by omega) (x := a1) (y := a2) ⟨by omega, by omega⟩ ⟨by omega, by omega⟩
      obtain ⟨r2, ζ', e2, s2, b2, k2⟩ := roomAt_n (q := q) hn h1 SS.rf (by omega) (x := a1) (y := a2) ⟨by omega, by omega⟩ ⟨by omega, by omega⟩
      rw [c01_t c2, c01_t c2, e1, e2, Option.bind_some, w32_eq (z := r2) ⟨by omega, by omega⟩]
      have hs2 := h1.ask (z' := z') (ζ' := ζ') s1 s2
      have er : r = if r2 < 0 then 0 else r2 := by
        rcases k1 with ⟨k1, t, t1, t2, t3⟩ | ⟨k0, k1⟩
        · rcases k2 with ⟨k2, -⟩ | ⟨k2, -⟩
          · rw [k2, if_pos (by decide)]
            exact k1
          · exact absurd t3 (k2 t t1 t2)
        · rcases k2 with ⟨-, t, t1, t2, t3⟩ | ⟨-, k2⟩
          · exact absurd t3 (k0 t t1 t2)
          · have h0 : 0 ≤ r2 := by
              rcases k2.1 with e | ⟨t, j, t1, t2, t3, t4⟩
              · omega
              · have h3 := jt_ws h1 t1 t3
                have h4 := k0 t t1 t2
                unfold psM at h4
                omega
            rw [if_neg (by omega)]
            exact k1.u k2
      by_cases c3 : r2 < 0
      · rw [if_pos c3] at er ⊢
        exact ⟨_, _, rfl, rfl, by rw [er], hs2⟩
      · rw [if_neg c3] at er ⊢
        exact ⟨_, _, rfl, rfl, by rw [er], hs2⟩
    · rw [c01_f c2, c01_f c2]
      exact ⟨_, _, rfl, rfl, rfl, hs⟩
  · rw [c01_f c1, c01_f c1]
    exact ⟨_, _, rfl, rfl, rfl, hs⟩
