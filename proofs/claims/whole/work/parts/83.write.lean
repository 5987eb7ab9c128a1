/-! ===== pure level: write, move, change, lapse ===== -/
theorem c01_t {α : Type} {x y : α} {c : Prop} [Decidable c] (h : c) : (if w32 (if c then 1 else 0) = 0 then x else y) = y := by
  rw [if_pos h, w32_1, if_neg (by decide)]
theorem c01_f {α : Type} {x y : α} {c : Prop} [Decidable c] (h : ¬ c) : (if w32 (if c then 1 else 0) = 0 then x else y) = x := by
  rw [if_neg h, w32_0, if_pos rfl]
theorem ss0 {σ : Sg} : SS σ (up σ 41 0 0) := SS.rf.up (by unfold Scm; omega)
theorem esS_cg {X Y X' Y' : Nat → Int} {R : Int} {M a b q : Nat} (h : ∀ q, M.testBit q = true → X' q = X q ∧ Y' q = Y q) : esS X' Y' R M a b q = esS X Y R M a b q := by
  unfold esS
  cases ha : M.testBit a with
  | false => rfl
  | true =>
    cases hb : M.testBit b with
    | false => rfl
    | true =>
      cases hq : M.testBit q with
      | false => rfl
      | true =>
        unfold rimD
        rw [inD_cg (h a ha) (h b hb) (h q hq)]
        unfold d2
        rw [(h a ha).1, (h a ha).2, (h b hb).1, (h b hb).2, (h q hq).1, (h q hq).2]
theorem DI.cgM {z z' : Sg} {d M : Nat} {R : Int} (h : DI z d R M) (e27 : z' (27 + d) 2 = z (27 + d) 2 ∧ z' (27 + d) 5 = z (27 + d) 5) (e34 : z' (34 + d) = z (34 + d)) (e : ∀ q, M.testBit q = true → z' 7 q = z 7 q ∧ z' 8 q = z 8 q) : DI z' d R M := by
  obtain ⟨h1, h2, h3⟩ := h
  refine ⟨e27.1.trans h1, e27.2.trans h2, ?_⟩
  exact (h3.row e34).cg fun a b q _ _ _ => esS_cg e
theorem ws_cg {ζ ζ' : Sg} {t : Nat} (hm : mbS ζ' t = mbS ζ t) (h51 : ζ' 51 t = ζ 51 t) (e : ∀ q, (mbS ζ t).testBit q = true → ζ' 45 q = ζ 45 q ∧ ζ' 46 q = ζ 46 q ∧ ζ' 47 q = ζ 47 q) : wsM ζ' t = wsM ζ t := by
  have hm2 := hm
  unfold mbS at hm2
  unfold wsM
  rw [hm2, h51]
  exact hvS_cg e
theorem lfree (F : Nat) : ∃ p, p ≤ 24 ∧ (∀ q, q < p → F.testBit q = true) ∧ (p < 24 → F.testBit p = false) := by
  have go : ∀ k, k ≤ 24 → (∃ p, p ≤ 24 ∧ (∀ q, q < p → F.testBit q = true) ∧ (p < 24 → F.testBit p = false)) ∨ ∀ q, q < k → F.testBit q = true := by
    intro k
    induction k with
    | zero => exact fun _ => Or.inr fun q h => absurd h (Nat.not_lt_zero _)
    | succ k ih =>
      intro hk
      rcases ih (by omega) with h | h
      · exact Or.inl h
      · cases hb : F.testBit k with
        | false => exact Or.inl ⟨k, by omega, h, fun _ => hb⟩
        | true =>
          right
          intro q hq
          by_cases e : q = k
          · rw [e]
            exact hb
          · exact h q (by omega)
  rcases go 24 (Nat.le_refl _) with h | h
  · exact h
  · exact ⟨24, Nat.le_refl _, h, fun h => absurd h (by decide)⟩
theorem leastFree_n {z : Sg} {F p : Nat} (hF : z 6 5 = (F : Int)) (hFl : F < 16777216) (hp : p ≤ 24) (h1 : ∀ q, q < p → F.testBit q = true) (h2 : p < 24 → F.testBit p = false) : f_X0_leastFree z = some (if p < 24 then (p : Int) else -1) := by
  unfold f_X0_leastFree
  refine loop_at (St := Unit) (F := fun n i _ => f_X0_leastFree_b2 z n i) 24 (fun i _ => i ≤ p) (by decide) ?_ ?_ 0 (by decide) () (Nat.zero_le _)
  · intro n i _ hi hI
    show f_X0_leastFree_b2 z (n + 1) (i : Int) = _ ∨ ∃ s', _ ∧ f_X0_leastFree_b2 z (n + 1) (i : Int) = f_X0_leastFree_b2 z n ((i : Int) + 1)
    rw [f_X0_leastFree_b2, w32_n (by omega), if_pos (by omega), hF, contains_n (by omega) (by omega), Option.bind_some]
    by_cases e : i = p
    · subst e
      left
      rw [b01_f (h2 hi), if_pos hi]
    · right
      rw [b01_t (h1 i (by omega))]
      exact ⟨(), by omega, rfl⟩
  · intro n _ hI
    show f_X0_leastFree_b2 z (n + 1) ((24 : Nat) : Int) = _
    rw [f_X0_leastFree_b2, w32_n (by decide), if_neg (by decide), if_neg (by omega)]
theorem writeLoop_n {z ζ : Sg} {F p : Nat} {a b c d : Int} (h : RelB z ζ F) (hp : p ≤ 24) (h1 : ∀ q, q < p → F.testBit q = true) (h2 : p < 24 → F.testBit p = false) : f_X10_write_b33 FUEL a b c d 0 ζ = f_X10_write_b56 a b c d (p : Int) ζ := by
  refine loop_at (St := Unit) (F := fun n i _ => f_X10_write_b33 n a b c d i ζ) 24 (fun i _ => i ≤ p) (by decide) ?_ ?_ 0 (by decide) () (Nat.zero_le _)
  · intro n i _ hi hI
    show f_X10_write_b33 (n + 1) a b c d (i : Int) ζ = _ ∨ ∃ s', _ ∧ f_X10_write_b33 (n + 1) a b c d (i : Int) ζ = f_X10_write_b33 n a b c d ((i : Int) + 1) ζ
    rw [f_X10_write_b33, w32_n (by omega), if_pos (by omega), ck_t (by omega), ntn, (h.1.2.2 i hi).1]
    by_cases e : i = p
    · subst e
      left
      rw [h2 hi, b01_f rfl]
    · right
      rw [h1 i (by omega), b01_t rfl]
      exact ⟨(), by omega, rfl⟩
  · intro n _ hI
    have e : p = 24 := by omega
    subst e
    show f_X10_write_b33 (n + 1) a b c d ((24 : Nat) : Int) ζ = _
    rw [f_X10_write_b33, w32_n (by decide), if_neg (by decide)]
theorem tb_updo {F p q : Nat} (h : q ≠ p) : (F ||| 2 ^ p).testBit q = F.testBit q := by
  rw [Nat.testBit_or, tb_pow]
  simp [h]
theorem tb_upds {F p : Nat} : (F ||| 2 ^ p).testBit p = true := by
  rw [Nat.testBit_or, tb_pow]
  simp
theorem updF_s {r : Nat → Int} {p : Nat} {v : Int} : updF r p v p = v := if_pos rfl
theorem updF_o {r : Nat → Int} {p q : Nat} {v : Int} (h : q ≠ p) : updF r p v q = r q := if_neg h
theorem mb_tk {z ζ : Sg} {F t p k : Nat} (h : RelB z ζ F) (hk : ζ 48 p = (k : Int)) (hb : (mbS ζ t).testBit p = true) : tkB ζ t k = true := by
  obtain ⟨-, -, h3⟩ := mbS_F h hb
  rw [hk, ntn] at h3
  exact h3
theorem Eq_write_n : Eq_write Rl := by
  intro n σd σm a1 a2 a3 a4 hn hR ha1 ha2 ha3 ha4
  obtain ⟨F, N, h⟩ := hR
  have h : Rn n σd σm F N := h
  have hs := h.ask (z' := σd) (ζ' := up σm 41 0 0) SD.rf ss0
  by_cases c1 : (0 ≤ a1 ∧ a1 ≤ 299) ∧ (0 ≤ a2 ∧ a2 ≤ 299)
  · by_cases c2 : 1 ≤ a3 ∧ a3 ≤ 99999
    · by_cases c3 : 0 ≤ a4 ∧ a4 ≤ 3
      · obtain ⟨k, hk⟩ : ∃ k : Nat, a4 = (k : Int) := ⟨a4.toNat, by omega⟩
        subst hk
        have hk4 : k < 4 := by omega
        obtain ⟨p, hp, h1, h2⟩ := lfree F
        have hB1 := h.1.ss (ss0 (σ := σm))
        have hd : f_X9_write a1 a2 a3 (k : Int) σd = (f_X0_leastFree σd).bind fun q7 => if w32 q7 < 0 then some (((-2), σd)) else (f_X0_enter q7 a1 a2 a3 (k : Int) σd).bind fun q9 => (f_X9_joinTreaties q7 (k : Int) q9).bind fun q11 => (f_X9_tell 0 q7 a3 (k : Int) q11).bind fun q13 => some ((q7, q13)) := by
          unfold f_X9_write
          rw [dIsPlace_n ha1 ha2, Option.bind_some, c01_t c1, dIsSum_n ha3, Option.bind_some, c01_t c2, dIsPeril_n ha4, Option.bind_some, c01_t c3]
        have hm : f_X10_write a1 a2 a3 (k : Int) σm = f_X10_write_b56 a1 a2 a3 (k : Int) (p : Int) (up σm 41 0 0) := by
          unfold f_X10_write wr
          dsimp only
          rw [mIsPlace_n ha1 ha2, Option.bind_some, c01_t c1, mIsSum_n ha3, Option.bind_some, c01_t c2, mIsPeril_n ha4, Option.bind_some, c01_t c3, writeLoop_n hB1 hp h1 h2]
        rw [leastFree_n h.1.1.1 h.1.1.2.1 hp h1 h2, Option.bind_some] at hd
        by_cases hp24 : p < 24
        · rw [if_pos hp24, w32_n (by omega), if_neg (by omega)] at hd
          have hFp := h2 hp24
          have hN6 := h.2.1.1
          obtain ⟨z1, e1, f1, y6, y7, y8, y9, y10, yg⟩ := enter_n (x := a1) (y := a2) (s := a3) (q := (k : Int)) hp24 h.1.1.1 h.1.1.2.1 h.1.2
          have hFl' : F ||| 2 ^ p < 16777216 := or_lt24 h.1.1.2.1 (pow_24 hp24)
          have plz : ∀ q, q < 24 → Pl (z1 7) (z1 8) q := fun q hq => by
            rw [y7, y8]
            by_cases e : q = p
            · subst e
              unfold Pl
              rw [updF_s, updF_s]
              omega
            · have := h.1.pl q hq
              unfold Pl at this ⊢
              rw [updF_o e, updF_o e]
              exact this
          have mp : ∀ t, (mbS σm t).testBit p = false := fun t => by
            cases hb : (mbS σm t).testBit p with
            | false => rfl
            | true =>
              have := (mbS_F h.1 hb).1
              rw [hFp] at this
              cases this
          obtain ⟨z2, e2, f2, dz⟩ := join_n (z := z1) (ζ := σm) (N := N) (p := p) (q := k) (F := F ||| 2 ^ p) (Mo := fun t => mbS σm t) hN6 (by rw [f1 0 (by omega)]; exact h.2.1.2.1) hp24 hk4 y6 hFl' tb_upds plz (fun t ht => by
            obtain ⟨⟨a, b, c⟩, -⟩ := h.2.1.2.2.2 t ht
            refine ⟨by rw [f1 _ (by omega)]; exact a.1, b, c.cgM ⟨by rw [f1 _ (by omega)], by rw [f1 _ (by omega)]⟩ (f1 _ (by omega)) (fun q hq => ?_), fun q hq => ?_, fun _ => mp t⟩
            · have hne : q ≠ p := fun e => by rw [e, mp t] at hq; cases hq
              rw [y7, y8, updF_o hne, updF_o hne]
              exact ⟨rfl, rfl⟩
            · have hne : q ≠ p := fun e => by rw [e, mp t] at hq; cases hq
              rw [tb_updo hne]
              exact (mbS_F h.1 hq).1)
          generalize hζ : up (up (up (up (up (up σm 41 0 0) 45 p a1) 46 p a2) 47 p a3) 48 p (k : Int)) 49 p 1 = ζ2
          have m45 : ζ2 45 = updF (σm 45) p a1 := by rw [← hζ, up_k (by decide), up_k (by decide), up_k (by decide), up_k (by decide), up_updF, up_k (by decide)]
          have m46 : ζ2 46 = updF (σm 46) p a2 := by rw [← hζ, up_k (by decide), up_k (by decide), up_k (by decide), up_updF, up_k (by decide), up_k (by decide)]
          have m47 : ζ2 47 = updF (σm 47) p a3 := by rw [← hζ, up_k (by decide), up_k (by decide), up_updF, up_k (by decide), up_k (by decide), up_k (by decide)]
          have m48 : ζ2 48 = updF (σm 48) p (k : Int) := by rw [← hζ, up_k (by decide), up_updF, up_k (by decide), up_k (by decide), up_k (by decide), up_k (by decide)]
          have m49 : ζ2 49 = updF (σm 49) p 1 := by rw [← hζ, up_updF, up_k (by decide), up_k (by decide), up_k (by decide), up_k (by decide), up_k (by decide)]
          have mo : ∀ k j, ¬ (45 ≤ k ∧ k ≤ 49) → ¬ (k = 41 ∧ j = 0) → ζ2 k j = σm k j := fun k j q1 q2 => by
            rw [← hζ, up_k (by omega), up_k (by omega), up_k (by omega), up_k (by omega), up_k (by omega)]
            by_cases e : k = 41
            · subst e
              rw [up_j (by omega)]
            · rw [up_k e]
          have mk : ∀ k, 50 ≤ k → ζ2 k = σm k := fun k hk => by
            funext j
            exact mo k j (by omega) (by omega)
          have hmb : ∀ t, mbS ζ2 t = if tkB σm t k = true then mbS σm t ||| 2 ^ p else mbS σm t := fun t => by
            have ep : (mbS ζ2 t).testBit p = tkB σm t k := by
              unfold mbS prS tkB
              rw [tb_mks, decide_eq_true hp24, m49, m48, updF_s, updF_s, mk 50 (by omega), ntn]
              rfl
            have eo : ∀ q, q ≠ p → (mbS ζ2 t).testBit q = (mbS σm t).testBit q := fun q hq => by
              unfold mbS prS
              rw [tb_mks, tb_mks, m49, m48, updF_o hq, updF_o hq, mk 50 (by omega)]
            refine bits_ext fun q => ?_
            by_cases e : q = p
            · subst e
              rw [ep]
              cases ht : tkB σm t k with
              | false => rw [if_neg (by decide), mp t]
              | true => rw [if_pos rfl, tb_upds]
            · rw [eo q e]
              cases ht : tkB σm t k with
              | false => rw [if_neg (by decide)]
              | true => rw [if_pos rfl, tb_updo e]
          have hB2 : RelB z2 ζ2 (F ||| 2 ^ p) := by
            have g6 : z2 6 = z1 6 := f2.row (by omega) (by omega)
            have g7 : z2 7 = z1 7 := f2.row (by omega) (by omega)
            have g8 : z2 8 = z1 8 := f2.row (by omega) (by omega)
            have g9 : z2 9 = z1 9 := f2.row (by omega) (by omega)
            have g10 : z2 10 = z1 10 := f2.row (by omega) (by omega)
            have g11 : z2 11 = z1 11 := f2.row (by omega) (by omega)
            refine ⟨⟨by rw [g6]; exact y6, hFl', fun q hq => ?_⟩, by rw [g9]; exact yg.row g11⟩
            rw [g7, g8, g9, g10, y7, y8, y9, y10, m45, m46, m47, m48, m49]
            unfold Pl
            by_cases e : q = p
            · subst e
              rw [updF_s, updF_s, updF_s, updF_s, updF_s, updF_s, updF_s, updF_s, updF_s, tb_upds, if_pos rfl, if_pos rfl]
              exact ⟨rfl, ⟨rfl, rfl, rfl, rfl⟩, by omega, by omega, by omega, fun _ => c2.1⟩
            · have old := h.1.1.2.2 q hq
              unfold Pl at old
              rw [updF_o e, updF_o e, updF_o e, updF_o e, updF_o e, updF_o e, updF_o e, updF_o e, updF_o e, tb_updo e]
              exact old
          obtain ⟨z', ζ', t1, t2, t3, -⟩ := act_n (a := 0) (b := (p : Int)) (c := a3) h hn hk4 (z2 := z2) (ζ2 := ζ2) (fun k j q1 q2 q3 => by rw [f2 k j q2 q3, f1 k q1]) mo hB2 (fun t ht => by
            rw [hmb, mk 51 (by omega)]
            exact dz t ht) (fun t ht hk => ws_cg (by rw [hmb, hk, if_neg (by decide)]) (by rw [mk 51 (by omega)]) (fun q hq => by
              have hne : q ≠ p := fun e => by rw [e, mp t] at hq; cases hq
              rw [m45, m46, m47, updF_o hne, updF_o hne, updF_o hne]
              exact ⟨rfl, rfl, rfl⟩))
          rw [e1, Option.bind_some, e2, Option.bind_some, t1, Option.bind_some] at hd
          unfold f_X10_write_b56 f_X10_puts wr at hm
          dsimp only at hm
          rw [w32_n (by omega), if_neg (by omega), ck_t (by omega), ck_t (by omega), ck_t (by omega), ck_t (by omega), Option.bind_some, ck_t (by omega), ntn, hζ, t2, Option.bind_some] at hm
          exact ⟨_, _, hd, hm, rfl, t3⟩
        · have e24 : p = 24 := by omega
          subst e24
          rw [if_neg hp24, w32_m1, if_pos (by decide)] at hd
          unfold f_X10_write_b56 at hm
          rw [w32_n (by decide), if_pos (show ((24 : Nat) : Int) = 24 from rfl)] at hm
          exact ⟨_, _, hd, hm, rfl, hs⟩
      · refine ⟨(-1, σd), (-1, up σm 41 0 0), ?_, ?_, rfl, hs⟩
        · unfold f_X9_write
          rw [dIsPlace_n ha1 ha2, Option.bind_some, c01_t c1, dIsSum_n ha3, Option.bind_some, c01_t c2, dIsPeril_n ha4, Option.bind_some, c01_f c3]
        · unfold f_X10_write wr
          dsimp only
          rw [mIsPlace_n ha1 ha2, Option.bind_some, c01_t c1, mIsSum_n ha3, Option.bind_some, c01_t c2, mIsPeril_n ha4, Option.bind_some, c01_f c3]
    · refine ⟨(-1, σd), (-1, up σm 41 0 0), ?_, ?_, rfl, hs⟩
      · unfold f_X9_write
        rw [dIsPlace_n ha1 ha2, Option.bind_some, c01_t c1, dIsSum_n ha3, Option.bind_some, c01_f c2]
      · unfold f_X10_write wr
        dsimp only
        rw [mIsPlace_n ha1 ha2, Option.bind_some, c01_t c1, mIsSum_n ha3, Option.bind_some, c01_f c2]
  · refine ⟨(-1, σd), (-1, up σm 41 0 0), ?_, ?_, rfl, hs⟩
    · unfold f_X9_write
      rw [dIsPlace_n ha1 ha2, Option.bind_some, c01_f c1]
    · unfold f_X10_write wr
      dsimp only
      rw [mIsPlace_n ha1 ha2, Option.bind_some, c01_f c1]
