/-! ===== pure level: the reference lists the discs ===== -/
theorem bdB_s {i : Nat} (hi : i < 24) : bdB i + 1 + 2 * (23 - i) = bdB (i + 1) := by
  show bdB i + 1 + 2 * (23 - i) = bdB i + (47 - 2 * i)
  omega
theorem findsDiscs_n {z ζ : Sg} {F S : Nat} {R : Int} (h : RelB z ζ F) (hs : ∀ q, S.testBit q = true → F.testBit q = true) (hR : 1 ≤ R ∧ R ≤ 300) :
    ∃ ζ', f_X10_findsDiscs (S : Int) R ζ = some ζ' ∧ Dsr ζ ζ' ∧ DL ζ' (Cnd (ζ 45) (ζ 46) R S 25) 576 := by
  have hSl := sub_24 h.1.2.1 hs
  have hMr := MRow.of h
  have pl : ∀ {u : Sg}, Dsr ζ u → ∀ q, q < 24 → Pl (u 45) (u 46) q := fun {u} s q hq => by
    rw [s.row (by decide) (by decide : 45 ≠ 41), s.row (by decide) (by decide : 46 ≠ 41)]
    exact (hMr q hq).2.2.1
  have av : ∀ {u : Sg} (a : Nat), Dsr ζ u → a < 24 → ∃ u', f_X10_around (a : Int) (S : Int) R u = some (((arS (ζ 45) (ζ 46) R S a : Nat) : Int), u') ∧ Dsr ζ u' ∧ u' 59 = u 59 ∧ u' 41 40 = u 41 40 := fun {u} a s ha => by
    have sc : Scr u (up u 41 35 (sumb (u 47) (arS (u 45) (u 46) R S a) 25)) := Scr.up (by decide)
    refine ⟨_, ?_, s.tr (Dsr.scr sc), sc.row (by decide), sc 41 40 (by omega)⟩
    have e := around_n (σ := u) (p := a) (s := S) (R := R) (by omega) (by omega) (sq_R ⟨by omega, by omega⟩) (fun q _ hb => by
      have := d2_bd (pl s a ha) (pl s q (bit_lt hSl hb))
      exact ⟨by omega, by omega⟩)
    rw [e, s.row (by decide) (by decide : 45 ≠ 41), s.row (by decide) (by decide : 46 ≠ 41)]
  have rv : ∀ {u : Sg} (a b : Nat) (side : Bool), Dsr ζ u → a < 24 → b < 24 → rimOk (ζ 45) (ζ 46) R a b → ∃ u', f_X10_onRim (a : Int) (b : Int) (if side then 1 else 0) (S : Int) R u = some (((rmS (ζ 45) (ζ 46) R S a b side : Nat) : Int), u') ∧ Dsr ζ u' ∧ u' 59 = u 59 ∧ u' 41 40 = u 41 40 := fun {u} a b side s ha hb hok => by
    have r45 := s.row (by decide) (by decide : 45 ≠ 41)
    have r46 := s.row (by decide) (by decide : 46 ≠ 41)
    have sc : Scr u (up u 41 35 (sumb (u 47) (rmS (u 45) (u 46) R S a b side) 25)) := Scr.up (by decide)
    refine ⟨_, ?_, s.tr (Dsr.scr sc), sc.row (by decide), sc 41 40 (by omega)⟩
    have e := onRim_n (σ := u) (p := a) (q := b) (s := S) (side := side) (R := R) (by omega) (by omega) (by omega) (pl s a ha) (pl s b hb) (fun r _ hr => pl s r (bit_lt hSl hr)) ⟨by omega, by omega⟩ (by rw [r45, r46]; exact hok.1) (by rw [r45, r46]; exact hok.2)
    rw [e, r45, r46]
  generalize hX : ζ 45 = X at *
  generalize hY : ζ 46 = Y at *
  have al : ∀ a, arS X Y R S a < 16777216 := fun a => sub_24 hSl fun q hq => by
    unfold arS at hq
    rw [tb_mks, Bool.and_eq_true, Bool.and_eq_true] at hq
    exact hq.2.1
  have rl : ∀ a b side, rmS X Y R S a b side < 16777216 := fun a b side => sub_24 hSl fun q hq => by
    unfold rmS at hq
    rw [tb_mks, Bool.and_eq_true, Bool.and_eq_true] at hq
    exact hq.2.1
  unfold f_X10_findsDiscs wr
  have d0 : Dsr ζ (up ζ 41 40 0) := fun k j h1 h2 => by
    by_cases k41 : k = 41
    · subst k41
      rw [up_j (fun e => h2 ⟨rfl, Or.inr e⟩)]
    · rw [up_k k41]
  have l0 : DL (up ζ 41 40 0) (fun c => Cnd X Y R S 0 c) (bdB 0) := ⟨0, by rw [up_s]; rfl, Nat.le_refl _, fun k hk => by omega, fun c hc => by
    obtain ⟨a, ha, -⟩ := hc
    omega⟩
  generalize up ζ 41 40 0 = ζ1 at *
  refine loop_P (F := fun n i (u : Sg) => f_X10_findsDiscs_b7 n (S : Int) R i u) 24 (fun i u => Dsr ζ u ∧ DL u (fun c => Cnd X Y R S i c) (bdB i)) (P := fun x => ∃ ζ', x = some ζ' ∧ Dsr ζ ζ' ∧ DL ζ' (Cnd X Y R S 25) 576) (by decide) ?_ ?_ 0 (by decide) ζ1 ⟨d0, l0⟩
  · intro n i u hi hI
    obtain ⟨su, hL⟩ := hI
    right
    have hb1 := bdB_le (i + 1) (by omega)
    have hb2 := bdB_s hi
    rw [f_X10_findsDiscs_b7, w32_n (by omega), if_pos (show (i : Int) < 24 by omega), has_n (by omega) (by omega), Option.bind_some]
    by_cases hb : S.testBit i = true
    · obtain ⟨u1, e1, s1, q1, q2⟩ := av i su hi
      have L1 : DL u1 (fun c => Cnd X Y R S i c) (bdB i) := hL.cg q2 q1 (Nat.le_refl _) (fun _ => Iff.rfl)
      obtain ⟨u2, e2, s2, L2⟩ := adds_n L1 (by omega) (al i)
      rw [b01_t hb, e1, Option.bind_some]
      dsimp only
      rw [e2, Option.bind_some, ← ncast_s i]
      have Q := loop_P (F := fun x j (u : Sg) => f_X10_findsDiscs_b40 (f_X10_findsDiscs_b7 n) x (S : Int) R i j u) 24 (fun j u => i < j ∧ Dsr ζ u ∧ DL u (fun c => Cnd X Y R S i c ∨ CndA X Y R S i j c) (bdB i + 1 + 2 * (j - (i + 1)))) (P := fun x => ∃ u', Dsr ζ u' ∧ DL u' (fun c => Cnd X Y R S (i + 1) c) (bdB (i + 1)) ∧ x = f_X10_findsDiscs_b7 n (S : Int) R (((i + 1 : Nat) : Nat) : Int) u') (by decide) ?_ ?_ (i + 1) (by omega) u2 ⟨by omega, s1.tr s2, L2.cg rfl rfl (by omega) (fun c => ⟨fun k => k.imp id Or.inl, fun k => k.imp id (fun k => by
        rcases k with k | ⟨b, b1, b2, -⟩
        · exact k
        · omega)⟩)⟩
      · obtain ⟨u', s', L', ex⟩ := Q
        exact ⟨u', ⟨s', L'⟩, ex⟩
      · intro x j u hj hI
        obtain ⟨hij, su, hL⟩ := hI
        right
        have k1 : ∀ y v, f_X10_findsDiscs_b98 (f_X10_findsDiscs_b7 n) (f_X10_findsDiscs_b40 (f_X10_findsDiscs_b7 n) y) (S : Int) R i j v = f_X10_findsDiscs_b40 (f_X10_findsDiscs_b7 n) y (S : Int) R i ((j : Int) + 1) v := fun _ _ => rfl
        rw [f_X10_findsDiscs_b40, w32_n (by omega), if_pos (show (j : Int) < 24 by omega), has_n (by omega) (by omega), Option.bind_some]
        have skip : (S.testBit j = true → ¬ rimOk X Y R i j) → ∀ c, (Cnd X Y R S i c ∨ CndA X Y R S i j c) ↔ (Cnd X Y R S i c ∨ CndA X Y R S i (j + 1) c) := fun q c => by
          refine ⟨fun k => k.imp id (fun k => k.imp id (fun ⟨b, b1, b2⟩ => ⟨b, by omega, b2⟩)), fun k => k.imp id (fun k => k.imp id (fun ⟨b, b1, b2, b3, b4, b5⟩ => ⟨b, ?_, b2, b3, b4, b5⟩))⟩
          rcases Nat.lt_succ_iff_lt_or_eq.1 b1 with r | r
          · exact r
          · subst r
            exact absurd b4 (q b3)
        by_cases hc : S.testBit j = true
        · have ec := canBeRim_n (σ := u) (p := i) (q := j) (R := R) (by omega) (by omega) (pl su i hi) (pl su j hj) ⟨by omega, by omega⟩
          rw [su.row (by decide) (by decide : 45 ≠ 41), su.row (by decide) (by decide : 46 ≠ 41), hX, hY] at ec
          rw [b01_t hc, ec, Option.bind_some]
          by_cases hok : rimOk X Y R i j
          · obtain ⟨v1, g1, t1, p1, p2⟩ := rv i j false su hi hj hok
            have g1 : f_X10_onRim (i : Int) (j : Int) 0 (S : Int) R u = _ := g1
            obtain ⟨v2, g2, t2, M2⟩ := adds_n (hL.cg p2 p1 (Nat.le_refl _) (fun _ => Iff.rfl)) (by omega) (rl i j false)
            obtain ⟨v3, g3, t3, p3, p4⟩ := rv i j true (t1.tr t2) hi hj hok
            have g3 : f_X10_onRim (i : Int) (j : Int) 1 (S : Int) R v2 = _ := g3
            obtain ⟨v4, g4, t4, M4⟩ := adds_n (M2.cg p4 p3 (Nat.le_refl _) (fun _ => Iff.rfl)) (by omega) (rl i j true)
            rw [b01_t (decide_eq_true (show 0 < d2 X Y i j ∧ d2 X Y i j ≤ 4 * R * R from hok)), g1, Option.bind_some]
            dsimp only
            rw [g2, Option.bind_some, g3, Option.bind_some]
            dsimp only
            rw [g4, Option.bind_some, k1]
            refine ⟨v4, ⟨by omega, t3.tr t4, M4.cg rfl rfl (by omega) (fun c => ⟨fun k => ?_, fun k => ?_⟩)⟩, rfl⟩
            · rcases k with ((k | k) | k) | k
              · exact Or.inl k
              · exact Or.inr (k.imp id (fun ⟨b, b1, b2⟩ => ⟨b, by omega, b2⟩))
              · exact Or.inr (Or.inr ⟨j, by omega, hij, hc, hok, false, k⟩)
              · exact Or.inr (Or.inr ⟨j, by omega, hij, hc, hok, true, k⟩)
            · rcases k with k | k | ⟨b, b1, b2, b3, b4, side, b5⟩
              · exact Or.inl (Or.inl (Or.inl k))
              · exact Or.inl (Or.inl (Or.inr (Or.inl k)))
              · rcases Nat.lt_succ_iff_lt_or_eq.1 b1 with r | r
                · exact Or.inl (Or.inl (Or.inr (Or.inr ⟨b, r, b2, b3, b4, side, b5⟩)))
                · subst r
                  cases side
                  · exact Or.inl (Or.inr b5)
                  · exact Or.inr b5
          · rw [b01_f (decide_eq_false (show ¬ (0 < d2 X Y i j ∧ d2 X Y i j ≤ 4 * R * R) from hok)), k1]
            exact ⟨u, ⟨by omega, su, hL.cg rfl rfl (by omega) (skip fun _ => hok)⟩, rfl⟩
        · rw [b01_f (Bool.eq_false_iff.mpr hc), k1]
          exact ⟨u, ⟨by omega, su, hL.cg rfl rfl (by omega) (skip fun q => absurd q hc)⟩, rfl⟩
      · intro x u hI
        obtain ⟨hij, su, hL⟩ := hI
        rw [f_X10_findsDiscs_b40, w32_n (by decide), if_neg (show ¬ ((24 : Nat) : Int) < 24 by decide)]
        refine ⟨u, su, hL.cg rfl rfl (by omega) (fun c => ⟨fun k => ?_, fun k => ?_⟩), rfl⟩
        · rcases k with ⟨a, a1, a2, a3⟩ | k | ⟨b, b1, b2⟩
          · exact ⟨a, by omega, a2, a3⟩
          · exact ⟨i, by omega, hb, Or.inl k⟩
          · exact ⟨i, by omega, hb, Or.inr ⟨b, by omega, b2⟩⟩
        · obtain ⟨a, a1, a2, a3⟩ := k
          rcases Nat.lt_succ_iff_lt_or_eq.1 a1 with r | r
          · exact Or.inl ⟨a, r, a2, a3⟩
          · subst r
            refine Or.inr (a3.imp id (fun ⟨b, b1, b2, b3, b4⟩ => ⟨b, bit_lt hSl b3, b2, b3, b4⟩))
    · rw [b01_f (Bool.eq_false_iff.mpr hb)]
      refine ⟨u, ⟨su, hL.cg rfl rfl (by omega) (fun c => ⟨fun ⟨a, a1, a2⟩ => ⟨a, by omega, a2⟩, fun ⟨a, a1, a2, a3⟩ => ⟨a, ?_, a2, a3⟩⟩)⟩, rfl⟩
      rcases Nat.lt_succ_iff_lt_or_eq.1 a1 with r | r
      · exact r
      · rw [r] at a2
        exact absurd a2 hb
  · intro n u hI
    obtain ⟨su, hL⟩ := hI
    rw [f_X10_findsDiscs_b7, w32_n (by decide), if_neg (show ¬ ((24 : Nat) : Int) < 24 by decide)]
    refine ⟨u, rfl, su, hL.cg rfl rfl (bdB_le 24 (by decide)) (fun c => ⟨fun ⟨a, a1, a2⟩ => ⟨a, by omega, a2⟩, fun ⟨a, a1, a2, a3⟩ => ⟨a, bit_lt hSl a2, a2, a3⟩⟩)⟩
