/-! ===== pure level: radiusFor ===== -/
theorem hv_le {X Y S : Nat → Int} {Q : Int} {s : Nat} (hsl : s < 16777216) (hS : ∀ q, s.testBit q = true → 0 < S q) : (hvS X Y S Q none s).1 ≤ sumb S s 24 := by
  obtain ⟨u, hu⟩ := HvI_ex S (fun j => esN X Y Q s j &&& s) 576
  rw [hv_of hsl (fun q h => h) (sq_nn Q) hS hu]
  show sumb S u 24 ≤ sumb S s 24
  have us : ∀ q, u.testBit q = true → s.testBit q = true := fun q hq => by
    rcases hu with ⟨h1, -⟩ | ⟨-, ⟨j, -, h2⟩, -⟩
    · rw [h1, Nat.zero_testBit] at hq
      cases hq
    · rw [h2, Nat.testBit_and, Bool.and_eq_true] at hq
      exact hq.2
  exact sumb_mono (fun i _ hi => us i hi) (fun i _ hi => Int.le_of_lt (hS i hi))
def rfP (W : Int → Int) (n r : Int) : Prop := (r = -2 ∧ ∀ R, 1 ≤ R → R ≤ 300 → W R < n) ∨ ((1 ≤ r ∧ r ≤ 300) ∧ n ≤ W r ∧ ∀ R, 1 ≤ R → R < r → W R < n)
theorem rfP_u {W : Int → Int} {n r s : Int} (h : rfP W n r) (k : rfP W n s) : r = s := by
  rcases h with ⟨h1, h2⟩ | ⟨h1, h2, h3⟩ <;> rcases k with ⟨k1, k2⟩ | ⟨k1, k2, k3⟩
  · omega
  · have := h2 s k1.1 k1.2
    omega
  · have := k2 r h1.1 h1.2
    omega
  · rcases (show r < s ∨ r = s ∨ s < r by omega) with q | q | q
    · have := k3 r h1.1 q
      omega
    · exact q
    · have := h3 s k1.1 q
      omega
theorem half_n {a b : Int} (ha : 0 ≤ a ∧ a ≤ 301) (hb : 0 ≤ b ∧ b ≤ 301) : (w32 (a + b)).tdiv (w32 2) = (a + b) / 2 := by
  rw [w32_eq (z := a + b) ⟨by omega, by omega⟩, show w32 2 = 2 by decide, Int.tdiv_eq_ediv_of_nonneg (by omega)]
theorem Eq_radiusFor_n : Eq_radiusFor Rl := by
  intro n σd σm a1 a2 hn hR ha1 ha2
  obtain ⟨F, N, h⟩ := hR
  have h : Rn n σd σm F N := h
  have h1 := h.m0
  have hs := h.ask (z' := σd) (ζ' := up σm 41 0 0) SD.rf ss0
  unfold f_X9_radiusFor f_X10_radiusFor wr
  dsimp only
  generalize up σm 41 0 0 = ζ at *
  rw [dArePerils_n ha1, Option.bind_some, mArePerils_n ha1, Option.bind_some]
  by_cases c1 : 1 ≤ a1 ∧ a1 ≤ 15
  · rw [c01_t c1, c01_t c1, w32_eq ha2]
    by_cases c2 : a2 < 1
    · rw [if_pos c2, if_pos c2]
      exact ⟨_, _, rfl, rfl, rfl, hs⟩
    rw [if_neg c2, if_neg c2]
    obtain ⟨T, hTe⟩ : ∃ T : Nat, a1 = (T : Int) := ⟨a1.toNat, by omega⟩
    subst hTe
    have hB := h1.1
    have hsF : ∀ q, (prS (ζ 49) (ζ 48) T).testBit q = true → F.testBit q = true := fun q hq => prS_F hB hq
    have hSl := sub_24 hB.1.2.1 hsF
    have eT : ∀ {ζ' : Sg}, Scr ζ ζ' → RelB σd ζ' F → f_X10_ofPerils (T : Int) ζ' = some ((prS (ζ 49) (ζ 48) T : Nat) : Int) := fun {ζ'} sc hB' => by
      rw [ofPerils_n (by omega) (MRow.of hB'), sc.row (by decide : 49 ≠ 41), sc.row (by decide : 48 ≠ 41)]
    rw [dOfPerils_n hB (by omega), Option.bind_some]
    generalize prS (ζ 49) (ζ 48) T = S at *
    obtain ⟨W, hW⟩ : ∃ W : Int → Int, ∀ R, W R = (hvS (ζ 45) (ζ 46) (ζ 47) R none S).1 := ⟨fun R => (hvS (ζ 45) (ζ 46) (ζ 47) R none S).1, fun _ => rfl⟩
    have sp : ∀ q, S.testBit q = true → 0 < ζ 47 q := fun q hq => by
      have hF := hsF q hq
      obtain ⟨-, -, -, -, -, h6⟩ := hB.1.2.2 q (bit_lt hB.1.2.1 hF)
      have := h6 hF
      omega
    have Wm : ∀ R Q, 0 ≤ R → R ≤ Q → Q ≤ 300 → W R ≤ W Q := fun R Q h0 h2 h3 => by
      rw [hW, hW]
      refine hv_mono ?_ hSl sp
      have := Int.mul_le_mul h2 h2 h0 (by omega)
      rw [Int.mul_assoc, Int.mul_assoc]
      omega
    have Wr : ∀ R, 0 ≤ R → R ≤ 300 → InR (W R) := fun R h0 h2 => by
      obtain ⟨ζ2, x1, x2, x3, x4, x5, x6⟩ := weighs_r (s := S) (R := R) hB hSl ⟨h0, h2⟩
      rw [hW, ← x3]
      exact x5
    have e9 : ∀ s : Nat, (∀ q, s.testBit q = true → F.testBit q = true) → sumb (σd 9) s 24 = sumb (ζ 47) s 24 := fun s hs => by
      rw [← hB.sm hs, sumb_25 (sub_24 hB.1.2.1 hs)]
    have desk : ∀ z, RelB z ζ F → SD σd z → ∀ R, 1 ≤ R → R ≤ 300 → ∃ (o : Nat) (z' : Sg), f_X9_heaviestOf (S : Int) R z = some ((o : Int), z') ∧ f_X0_sums (o : Int) z' = some (W R) ∧ RelB z' ζ F ∧ SD σd z' := fun z hz hsd R h2 h3 => by
      obtain ⟨o, z', e, sd, ol, ev, hB', r9⟩ := heavOf_n (s := S) (R := R) hz hsF ⟨h2, h3⟩
      refine ⟨o, z', e, ?_, hB', hsd.tr sd⟩
      rw [sums_n hB'.2 ol, r9, hW, ev]
    -- the reference
    have ref : ∃ r ζ', f_X10_radiusFor_b26 FUEL (T : Int) a2 1 301 ζ = some (r, ζ') ∧ rfP W a2 r ∧ Scr ζ ζ' := by
      refine loop_P (F := fun n _ (u : Int × Int × Sg) => f_X10_radiusFor_b26 n (T : Int) a2 u.1 u.2.1 u.2.2) 301 (fun i u => (1 ≤ u.1 ∧ u.1 ≤ u.2.1 ∧ u.1 ≤ 300 ∧ u.2.1 ≤ 301) ∧ u.2.1 - u.1 + i ≤ 300 ∧ (u.2.1 = 301 ∨ a2 ≤ W u.2.1) ∧ (∀ R, 1 ≤ R → R < u.1 → W R < a2) ∧ Scr ζ u.2.2 ∧ RelB σd u.2.2 F) (P := fun x => ∃ r ζ', x = some (r, ζ') ∧ rfP W a2 r ∧ Scr ζ ζ') (by decide) ?_ ?_ 0 (by decide) (1, 301, ζ) ⟨⟨by show (1 : Int) ≤ 1; omega, by show (1 : Int) ≤ 301; omega, by show (1 : Int) ≤ 300; omega, by show (301 : Int) ≤ 301; omega⟩, by show (301 : Int) - 1 + ((0 : Nat) : Int) ≤ 300; omega, Or.inl rfl, fun R q1 (q2 : R < 1) => by omega, Scr.rf, hB⟩
      · intro m i u hi hI
        obtain ⟨lo, hi', ζ'⟩ := u
        obtain ⟨⟨g1, g2, g3, g4⟩, g5, g6, g7, g8, g9⟩ := hI
        dsimp only at g1 g2 g3 g4 g5 g6 g7 g8 g9
        show (∃ r ζ2, f_X10_radiusFor_b26 (m + 1) (T : Int) a2 lo hi' ζ' = some (r, ζ2) ∧ _) ∨ ∃ s' : Int × Int × Sg, _ ∧ f_X10_radiusFor_b26 (m + 1) (T : Int) a2 lo hi' ζ' = f_X10_radiusFor_b26 m (T : Int) a2 s'.1 s'.2.1 s'.2.2
        rw [f_X10_radiusFor_b26, w32_eq (z := lo) ⟨by omega, by omega⟩, w32_eq (z := hi') ⟨by omega, by omega⟩]
        have r45 := g8.row (by decide : 45 ≠ 41)
        have r46 := g8.row (by decide : 46 ≠ 41)
        have r47 := g8.row (by decide : 47 ≠ 41)
        by_cases c3 : lo < hi'
        · rw [if_pos c3, ck_t (by decide), eT g8 g9, Option.bind_some, half_n ⟨by omega, by omega⟩ ⟨by omega, by omega⟩]
          obtain ⟨ζ2, x1, x2, x3, x4, x5, x6⟩ := weighs_r (s := S) (R := (lo + hi') / 2) g9 hSl ⟨by omega, by omega⟩
          rw [r45, r46, r47, ← hW] at x3
          rw [x1, Option.bind_some, x3, w32_eq (Wr _ (by omega) (by omega)), w32_eq ha2]
          have g8' : Scr ζ ζ2 := g8.tr x2
          have g9' : RelB σd ζ2 F := g9.ss x2.ss
          by_cases c4 : W ((lo + hi') / 2) < a2
          · rw [if_pos c4]
            unfold f_X10_radiusFor_b72
            rw [w32_eq (z := (lo + hi') / 2 + 1) ⟨by omega, by omega⟩]
            have low : ∀ R, 1 ≤ R → R < (lo + hi') / 2 + 1 → W R < a2 := fun R q1 q2 => by
              have := Wm R ((lo + hi') / 2) (by omega) (by omega) (by omega)
              omega
            by_cases c5 : (lo + hi') / 2 + 1 = 301
            · left
              rw [if_pos c5]
              exact ⟨_, _, rfl, Or.inl ⟨rfl, fun R q1 q2 => low R q1 (by omega)⟩, g8'⟩
            · right
              rw [if_neg c5]
              exact ⟨((lo + hi') / 2 + 1, hi', ζ2), ⟨⟨by show 1 ≤ (lo + hi') / 2 + 1; omega, by show (lo + hi') / 2 + 1 ≤ hi'; omega, by show (lo + hi') / 2 + 1 ≤ 300; omega, g4⟩, by show hi' - ((lo + hi') / 2 + 1) + ((i + 1 : Nat) : Int) ≤ 300; omega, g6, low, g8', g9'⟩, rfl⟩
          · rw [if_neg c4]
            unfold f_X10_radiusFor_b72
            right
            rw [w32_eq (z := lo) ⟨by omega, by omega⟩, if_neg (show ¬ lo = 301 by omega)]
            exact ⟨(lo, (lo + hi') / 2, ζ2), ⟨⟨g1, by show lo ≤ (lo + hi') / 2; omega, g3, by show (lo + hi') / 2 ≤ 301; omega⟩, by show (lo + hi') / 2 - lo + ((i + 1 : Nat) : Int) ≤ 300; omega, Or.inr (by show a2 ≤ W ((lo + hi') / 2); omega), g7, g8', g9'⟩, rfl⟩
        · left
          rw [if_neg c3]
          unfold f_X10_radiusFor_b85
          obtain ⟨ζ2, x1, x2, x3, x4, x5, x6⟩ := weighs_r (s := S) (R := lo) g9 hSl ⟨by omega, by omega⟩
          rw [r45, r46, r47, ← hW] at x3
          have elh : hi' = lo := by omega
          subst elh
          have wl : a2 ≤ W hi' := by omega
          rw [eT g8 g9, Option.bind_some, x1, Option.bind_some, x3, w32_eq (Wr _ (by omega) (by omega)), w32_eq ha2, if_neg (show ¬ W hi' < a2 by omega)]
          exact ⟨_, _, rfl, Or.inr ⟨⟨g1, g3⟩, wl, g7⟩, g8.tr x2⟩
      · intro m u hI
        obtain ⟨⟨g1, g2, g3, g4⟩, g5, -⟩ := hI
        omega
    obtain ⟨r, ζ', em, hr, sc⟩ := ref
    rw [em]
    suffices dd : ∃ (r' : Int) (z' : Sg), ((f_X0_sums (S : Int) σd).bind fun q5 => if w32 q5 < a2 then some (-2, σd) else (f_X9_heaviestOf (S : Int) 300 σd).bind fun q7 => (f_X0_sums q7.1 q7.2).bind fun q9 => if w32 q9 < a2 then some (-2, q7.2) else f_X9_radiusFor_b68 FUEL a2 (S : Int) 1 300 0 q7.2) = some (r', z') ∧ rfP W a2 r' ∧ SD σd z' by
      obtain ⟨r', z', ed, hr', sd⟩ := dd
      rw [ed]
      refine ⟨_, _, rfl, rfl, ?_, h1.ask sd sc.ss⟩
      show w32 r' = w32 r
      rw [rfP_u hr' hr]
    have hin := hB.sin (s := S)
    rw [sums_n hB.2 hSl, Option.bind_some, w32_eq (z := sumb (σd 9) S 24) ⟨by omega, by omega⟩]
    by_cases c3 : sumb (σd 9) S 24 < a2
    · rw [if_pos c3]
      refine ⟨_, _, rfl, Or.inl ⟨rfl, fun R q1 q2 => ?_⟩, SD.rf⟩
      have := hv_le (X := ζ 45) (Y := ζ 46) (S := ζ 47) (Q := R) hSl sp
      rw [← hW, ← e9 S hsF] at this
      omega
    · obtain ⟨o, z', e, e2, hB', sd⟩ := desk σd hB SD.rf 300 (by decide) (by decide)
      rw [if_neg c3, e, Option.bind_some]
      show ∃ (r' : Int) (z2 : Sg), ((f_X0_sums (o : Int) z').bind fun q9 => if w32 q9 < a2 then some (-2, z') else f_X9_radiusFor_b68 FUEL a2 (S : Int) 1 300 0 z') = some (r', z2) ∧ rfP W a2 r' ∧ SD σd z2
      rw [e2, Option.bind_some, w32_eq (Wr 300 (by decide) (by decide))]
      by_cases c4 : W 300 < a2
      · rw [if_pos c4]
        refine ⟨_, _, rfl, Or.inl ⟨rfl, fun R q1 q2 => ?_⟩, sd⟩
        have := Wm R 300 (by omega) q2 (by decide)
        omega
      · rw [if_neg c4]
        refine loop_P (F := fun n i (u : Int × Int × Sg) => f_X9_radiusFor_b68 n a2 (S : Int) u.1 u.2.1 i u.2.2) 300 (fun i u => (1 ≤ u.1 ∧ u.1 ≤ u.2.1 ∧ u.2.1 ≤ 300) ∧ u.2.1 - u.1 + i ≤ 299 ∧ a2 ≤ W u.2.1 ∧ (∀ R, 1 ≤ R → R < u.1 → W R < a2) ∧ SD σd u.2.2 ∧ RelB u.2.2 ζ F) (P := fun x => ∃ r z', x = some (r, z') ∧ rfP W a2 r ∧ SD σd z') (by decide) ?_ ?_ 0 (by decide) (1, 300, z') ⟨⟨by show (1 : Int) ≤ 1; omega, by show (1 : Int) ≤ 300; omega, by show (300 : Int) ≤ 300; omega⟩, by show (300 : Int) - 1 + ((0 : Nat) : Int) ≤ 299; omega, by show a2 ≤ W 300; omega, fun R q1 (q2 : R < 1) => by omega, sd, hB'⟩
        · intro m i u hi hI
          obtain ⟨lo, hi', z2⟩ := u
          obtain ⟨⟨g1, g2, g3⟩, g5, g6, g7, g8, g9⟩ := hI
          dsimp only at g1 g2 g3 g5 g6 g7 g8 g9
          show (∃ r z4, f_X9_radiusFor_b68 (m + 1) a2 (S : Int) lo hi' i z2 = some (r, z4) ∧ _) ∨ ∃ s' : Int × Int × Sg, _ ∧ f_X9_radiusFor_b68 (m + 1) a2 (S : Int) lo hi' i z2 = f_X9_radiusFor_b68 m a2 (S : Int) s'.1 s'.2.1 (i + 1) s'.2.2
          rw [f_X9_radiusFor_b68, w32_n (by omega), if_pos (show (i : Int) < 300 by omega), w32_eq (z := lo) ⟨by omega, by omega⟩, w32_eq (z := hi') ⟨by omega, by omega⟩]
          by_cases c5 : lo < hi'
          · obtain ⟨o, z3, e, e2, hB3, sd3⟩ := desk z2 g9 g8 ((lo + hi') / 2) (by omega) (by omega)
            rw [if_pos c5, ck_t (by decide), half_n ⟨by omega, by omega⟩ ⟨by omega, by omega⟩, e, Option.bind_some]
            right
            show ∃ s' : Int × Int × Sg, _ ∧ ((f_X0_sums (o : Int) z3).bind fun q14 => if w32 q14 < w32 a2 then f_X9_radiusFor_b123 (f_X9_radiusFor_b68 m) a2 S ((lo + hi') / 2 + 1) hi' i z3 else f_X9_radiusFor_b123 (f_X9_radiusFor_b68 m) a2 S lo ((lo + hi') / 2) i z3) = _
            rw [e2, Option.bind_some, w32_eq (Wr _ (by omega) (by omega)), w32_eq ha2]
            by_cases c6 : W ((lo + hi') / 2) < a2
            · rw [if_pos c6]
              exact ⟨((lo + hi') / 2 + 1, hi', z3), ⟨⟨by show 1 ≤ (lo + hi') / 2 + 1; omega, by show (lo + hi') / 2 + 1 ≤ hi'; omega, g3⟩, by show hi' - ((lo + hi') / 2 + 1) + ((i + 1 : Nat) : Int) ≤ 299; omega, g6, fun R q1 q2 => by
                have q2 : R < (lo + hi') / 2 + 1 := q2
                have := Wm R ((lo + hi') / 2) (by omega) (by omega) (by omega)
                omega, sd3, hB3⟩, rfl⟩
            · rw [if_neg c6]
              exact ⟨(lo, (lo + hi') / 2, z3), ⟨⟨g1, by show lo ≤ (lo + hi') / 2; omega, by show (lo + hi') / 2 ≤ 300; omega⟩, by show (lo + hi') / 2 - lo + ((i + 1 : Nat) : Int) ≤ 299; omega, by show a2 ≤ W ((lo + hi') / 2); omega, g7, sd3, hB3⟩, rfl⟩
          · left
            rw [if_neg c5]
            have elh : hi' = lo := by omega
            subst elh
            exact ⟨_, _, rfl, Or.inr ⟨⟨g1, g3⟩, g6, g7⟩, g8⟩
        · intro m u hI
          obtain ⟨⟨g1, g2, g3⟩, g5, -⟩ := hI
          omega
  · rw [c01_f c1, c01_f c1]
    exact ⟨_, _, rfl, rfl, rfl, hs⟩
