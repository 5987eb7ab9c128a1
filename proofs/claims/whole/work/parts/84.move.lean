/-! ===== pure level: move, change, lapse ===== -/
theorem perilOf_n {σ : Sg} {p : Nat} (hp : p < 24) : f_X0_perilOf (p : Int) σ = some (σ 10 p) := by
  unfold f_X0_perilOf
  rw [isNumber_t hp, Option.bind_some, w32_1, if_neg (by decide), ck_t (by omega), ntn]
theorem xOf_n {σ : Sg} {p : Nat} (hp : p < 24) : f_X0_xOf (p : Int) σ = some (σ 7 p) := by
  unfold f_X0_xOf
  rw [isNumber_t hp, Option.bind_some, w32_1, if_neg (by decide), ck_t (by omega), ntn]
theorem yOf_n {σ : Sg} {p : Nat} (hp : p < 24) : f_X0_yOf (p : Int) σ = some (σ 8 p) := by
  unfold f_X0_yOf
  rw [isNumber_t hp, Option.bind_some, w32_1, if_neg (by decide), ck_t (by omega), ntn]
theorem dSumOf_n {σ : Sg} {p : Nat} (hp : p < 24) : f_X0_sumOf (p : Int) σ = some (σ 9 p) := by
  unfold f_X0_sumOf
  rw [isNumber_t hp, Option.bind_some, w32_1, if_neg (by decide), ck_t (by omega), ntn]
theorem apart_n {σ : Sg} {p : Nat} {x y : Int} (hp : p < 24) : f_X0_apart (p : Int) x y σ = some ((σ 7 p - x) * (σ 7 p - x) + (σ 8 p - y) * (σ 8 p - y)) := by
  unfold f_X0_apart
  rw [xOf_n hp, Option.bind_some, yOf_n hp, Option.bind_some]
theorem peril_k {z ζ : Sg} {F p : Nat} (h : RelB z ζ F) (hp : p < 24) : ∃ k : Nat, k < 4 ∧ ζ 48 p = (k : Int) ∧ z 10 p = (k : Int) := by
  obtain ⟨-, ⟨-, -, h1, -⟩, -, h2, -⟩ := h.1.2.2 p hp
  exact ⟨(ζ 48 p).toNat, by omega, by omega, by omega⟩
theorem ntk_b {z ζ : Sg} {F t p k : Nat} (h : RelB z ζ F) (hk : ζ 48 p = (k : Int)) (hb : tkB ζ t k = false) : (mbS ζ t).testBit p = false := by
  cases hm : (mbS ζ t).testBit p with
  | false => rfl
  | true =>
    have := mb_tk h hk hm
    rw [hb] at this
    cases this
theorem tk_b {z ζ : Sg} {F t p k : Nat} (h : RelB z ζ F) (hp : p < 24) (hF : F.testBit p = true) (hk : ζ 48 p = (k : Int)) (hb : tkB ζ t k = true) : (mbS ζ t).testBit p = true := by
  unfold mbS prS
  have h1 := (h.1.2.2 p hp).1
  rw [hF, if_pos rfl] at h1
  unfold tkB at hb
  rw [tb_mks, decide_eq_true hp, h1, hk, ntn, hb]
  rfl
theorem Eq_move_n : Eq_move Rl := by
  intro n σd σm a1 a2 a3 hn hR ha1 ha2 ha3
  obtain ⟨F, N, h⟩ := hR
  have h : Rn n σd σm F N := h
  have hs := h.ask (z' := σd) (ζ' := up σm 41 0 0) SD.rf ss0
  have hB1 := h.1.ss (ss0 (σ := σm))
  by_cases c1 : 0 ≤ a1 ∧ a1 < 24 ∧ F.testBit a1.toNat = true
  · by_cases c2 : (0 ≤ a2 ∧ a2 ≤ 299) ∧ (0 ≤ a3 ∧ a3 ≤ 299)
    · obtain ⟨p, hpe⟩ : ∃ p : Nat, a1 = (p : Int) := ⟨a1.toNat, by omega⟩
      subst hpe
      have hp : p < 24 := by omega
      have hFp : F.testBit p = true := by have := c1.2.2; rw [ntn] at this; exact this
      obtain ⟨k, hk4, hk, hkz⟩ := peril_k h.1 hp
      have hN6 := h.2.1.1
      obtain ⟨z1, e1, f1, d1⟩ := leave_n (z := σd) (ζ := σm) (N := N) (p := p) (q := k) (Mo := fun t => mbS σm t) hN6 h.2.1.2.1 hp hk4 (fun t ht => by
        obtain ⟨⟨a, b, c⟩, -⟩ := h.2.1.2.2.2 t ht
        exact ⟨a.1, b, c, mbS_24 _ _⟩)
      have g7 : z1 7 = σd 7 := f1.row (by omega) (by omega)
      have g8 : z1 8 = σd 8 := f1.row (by omega) (by omega)
      generalize hz2 : up (up z1 7 p a2) 8 p a3 = z2
      have y7 : z2 7 = updF (σd 7) p a2 := by rw [← hz2, up_k (by decide), up_updF, g7]
      have y8 : z2 8 = updF (σd 8) p a3 := by rw [← hz2, up_updF, up_k (by decide), g8]
      have yo : ∀ k, k ≠ 7 → k ≠ 8 → z2 k = z1 k := fun k q1 q2 => by rw [← hz2, up_k q2, up_k q1]
      have plz : ∀ q, q < 24 → Pl (z2 7) (z2 8) q := fun q hq => by
        rw [y7, y8]
        by_cases e : q = p
        · subst e
          unfold Pl
          rw [updF_s, updF_s]
          omega
        · have := h.1.pl q hq
          unfold Pl at this ⊢
          rw [updF_o e, updF_o e]
          exact this
      have nop : ∀ t, (if tkB σm t k = true then mbS σm t &&& (2 ^ p ^^^ 4294967295) else mbS σm t).testBit p = false := fun t => by
        cases ht : tkB σm t k with
        | false =>
          rw [if_neg (by decide)]
          exact ntk_b h.1 hk ht
        | true =>
          rw [if_pos rfl, tb_clr (mbS_24 _ _)]
          simp
      have sub : ∀ t q, (if tkB σm t k = true then mbS σm t &&& (2 ^ p ^^^ 4294967295) else mbS σm t).testBit q = true → (mbS σm t).testBit q = true := fun t q hq => by
        cases ht : tkB σm t k with
        | false =>
          rw [ht, if_neg (by decide)] at hq
          exact hq
        | true =>
          rw [ht, if_pos rfl, Nat.testBit_and, Bool.and_eq_true] at hq
          exact hq.1
      obtain ⟨z3, e3, f3, d3⟩ := join_n (z := z2) (ζ := σm) (N := N) (p := p) (q := k) (F := F) (Mo := fun t => if tkB σm t k = true then mbS σm t &&& (2 ^ p ^^^ 4294967295) else mbS σm t) hN6 (by rw [yo 0 (by decide) (by decide), f1 0 4 (by omega) (by omega)]; exact h.2.1.2.1) hp hk4 (by rw [yo 6 (by decide) (by decide), f1 6 5 (by omega) (by omega)]; exact h.1.1.1) h.1.1.2.1 hFp plz (fun t ht => by
        obtain ⟨⟨a, b, -⟩, -⟩ := h.2.1.2.2.2 t ht
        refine ⟨by rw [yo _ (by omega) (by omega), f1 _ 2 (by omega) (by omega)]; exact a.1, b, (d1 t ht).cgM ⟨by rw [yo _ (by omega) (by omega)], by rw [yo _ (by omega) (by omega)]⟩ (yo _ (by omega) (by omega)) (fun q hq => ?_), fun q hq => (mbS_F h.1 (sub t q hq)).1, fun _ => nop t⟩
        have hne : q ≠ p := fun e => by rw [e, nop t] at hq; cases hq
        rw [y7, y8, g7, g8, updF_o hne, updF_o hne]
        exact ⟨rfl, rfl⟩)
      generalize hζ : up (up (up σm 41 0 0) 45 p a2) 46 p a3 = ζ2
      have m45 : ζ2 45 = updF (σm 45) p a2 := by rw [← hζ, up_k (by decide), up_updF, up_k (by decide)]
      have m46 : ζ2 46 = updF (σm 46) p a3 := by rw [← hζ, up_updF, up_k (by decide), up_k (by decide)]
      have mo : ∀ k j, k ≠ 45 → k ≠ 46 → ¬ (k = 41 ∧ j = 0) → ζ2 k j = σm k j := fun k j q1 q2 q3 => by
        rw [← hζ, up_k (by omega), up_k (by omega)]
        by_cases e : k = 41
        · subst e
          rw [up_j (by omega)]
        · rw [up_k e]
      have mk : ∀ k, 47 ≤ k → ζ2 k = σm k := fun k hk => by
        funext j
        exact mo k j (by omega) (by omega) (by omega)
      have mb : ∀ t, mbS ζ2 t = mbS σm t := fun t => mbS_cg fun k _ _ => mk k (by omega)
      have hmb : ∀ t, (if tkB σm t k = true then (if tkB σm t k = true then mbS σm t &&& (2 ^ p ^^^ 4294967295) else mbS σm t) ||| 2 ^ p else (if tkB σm t k = true then mbS σm t &&& (2 ^ p ^^^ 4294967295) else mbS σm t)) = mbS ζ2 t := fun t => by
        rw [mb]
        cases ht : tkB σm t k with
        | false => rw [if_neg (by decide), if_neg (by decide)]
        | true =>
          rw [if_pos rfl, if_pos rfl]
          refine bits_ext fun q => ?_
          by_cases e : q = p
          · subst e
            rw [tb_upds, tk_b h.1 hp hFp hk ht]
          · rw [tb_updo e, tb_clr (mbS_24 _ _)]
            simp [e]
      have hB2 : RelB z3 ζ2 F := by
        have w6 : z3 6 = σd 6 := (f3.row (by omega) (by omega)).trans ((yo 6 (by decide) (by decide)).trans (f1.row (by omega) (by omega)))
        have w7 : z3 7 = z2 7 := f3.row (by omega) (by omega)
        have w8 : z3 8 = z2 8 := f3.row (by omega) (by omega)
        have w9 : z3 9 = σd 9 := (f3.row (by omega) (by omega)).trans ((yo 9 (by decide) (by decide)).trans (f1.row (by omega) (by omega)))
        have w10 : z3 10 = σd 10 := (f3.row (by omega) (by omega)).trans ((yo 10 (by decide) (by decide)).trans (f1.row (by omega) (by omega)))
        have w11 : z3 11 = σd 11 := (f3.row (by omega) (by omega)).trans ((yo 11 (by decide) (by decide)).trans (f1.row (by omega) (by omega)))
        refine ⟨⟨by rw [w6]; exact h.1.1.1, h.1.1.2.1, fun q hq => ?_⟩, by rw [w9]; exact h.1.2.row w11⟩
        rw [w7, w8, w9, w10, y7, y8, m45, m46, mk 47 (by omega), mk 48 (by omega), mk 49 (by omega)]
        have old := h.1.1.2.2 q hq
        unfold Pl at old ⊢
        by_cases e : q = p
        · subst e
          rw [updF_s, updF_s, updF_s, updF_s]
          exact ⟨old.1, ⟨rfl, rfl, old.2.1.2.2⟩, by omega, old.2.2.2⟩
        · rw [updF_o e, updF_o e, updF_o e, updF_o e]
          exact old
      obtain ⟨z', ζ', t1, t2, t3, -⟩ := act_n (a := 1) (b := (p : Int)) (c := 0) h hn hk4 (z2 := z3) (ζ2 := ζ2) (fun k j q1 q2 q3 => by rw [f3 k j q2 q3, yo k (by omega) (by omega), f1 k j q2 q3]) (fun k j q1 q2 => mo k j (by omega) (by omega) q2) hB2 (fun t ht => by
        rw [← hmb, mk 51 (by omega)]
        exact d3 t ht) (fun t ht hkt => ws_cg (mb t) (by rw [mk 51 (by omega)]) (fun q hq => by
          have hne : q ≠ p := fun e => by rw [e, ntk_b h.1 hk hkt] at hq; cases hq
          rw [m45, m46, mk 47 (by omega), updF_o hne, updF_o hne]
          exact ⟨rfl, rfl, rfl⟩))
      refine ⟨((σd 7 p - a2) * (σd 7 p - a2) + (σd 8 p - a3) * (σd 8 p - a3), z'), ((σm 45 p - a2) * (σm 45 p - a2) + (σm 46 p - a3) * (σm 46 p - a3), ζ'), ?_, ?_, ?_, t3⟩
      · unfold f_X9_move
        rw [has_t h.1.1.1 h.1.1.2.1 ha1, Option.bind_some, c01_t c1, dIsPlace_n ha2 ha3, Option.bind_some, c01_t c2, perilOf_n hp, Option.bind_some, hkz, apart_n hp, Option.bind_some, e1, Option.bind_some, shift_n hp, Option.bind_some, hz2, e3, Option.bind_some, t1, Option.bind_some]
      · unfold f_X10_move wr
        dsimp only
        rw [isPol_t hB1 ha1, Option.bind_some, c01_t c1, mIsPlace_n ha2 ha3, Option.bind_some, c01_t c2, ck_t (by omega), ck_t (by omega), ck_t (by omega), ck_t (by omega), ck_t (by omega), ck_t (by omega), ntn, hζ, t2, Option.bind_some, up_k (by decide : (45 : Nat) ≠ 41), up_k (by decide : (46 : Nat) ≠ 41)]
      · obtain ⟨-, ⟨x1, x2, -⟩, -⟩ := h.1.1.2.2 p hp
        show w32 _ = w32 _
        rw [x1, x2]
    · refine ⟨(-1, σd), (-1, up σm 41 0 0), ?_, ?_, rfl, hs⟩
      · unfold f_X9_move
        rw [has_t h.1.1.1 h.1.1.2.1 ha1, Option.bind_some, c01_t c1, dIsPlace_n ha2 ha3, Option.bind_some, c01_f c2]
      · unfold f_X10_move wr
        dsimp only
        rw [isPol_t hB1 ha1, Option.bind_some, c01_t c1, mIsPlace_n ha2 ha3, Option.bind_some, c01_f c2]
  · refine ⟨(-1, σd), (-1, up σm 41 0 0), ?_, ?_, rfl, hs⟩
    · unfold f_X9_move
      rw [has_t h.1.1.1 h.1.1.2.1 ha1, Option.bind_some, c01_f c1]
    · unfold f_X10_move wr
      dsimp only
      rw [isPol_t hB1 ha1, Option.bind_some, c01_f c1]
theorem Eq_change_n : Eq_change Rl := by
  intro n σd σm a1 a2 hn hR ha1 ha2
  obtain ⟨F, N, h⟩ := hR
  have h : Rn n σd σm F N := h
  have hs := h.ask (z' := σd) (ζ' := up σm 41 0 0) SD.rf ss0
  have hB1 := h.1.ss (ss0 (σ := σm))
  by_cases c1 : 0 ≤ a1 ∧ a1 < 24 ∧ F.testBit a1.toNat = true
  · by_cases c2 : 1 ≤ a2 ∧ a2 ≤ 99999
    · obtain ⟨p, hpe⟩ : ∃ p : Nat, a1 = (p : Int) := ⟨a1.toNat, by omega⟩
      subst hpe
      have hp : p < 24 := by omega
      have hFp : F.testBit p = true := by have := c1.2.2; rw [ntn] at this; exact this
      obtain ⟨k, hk4, hk, hkz⟩ := peril_k h.1 hp
      have hN6 := h.2.1.1
      have h9 : σd 9 p = σm 47 p := by
        obtain ⟨-, ⟨-, -, -, x⟩, -⟩ := h.1.1.2.2 p hp
        rw [x, if_pos hFp]
      obtain ⟨z1, e1, f1, y9, yg⟩ := weigh_n (σ := σd) (p := p) (s := a2) hp h.1.2
      generalize hζ : up (up σm 41 0 0) 47 p a2 = ζ2
      have m47 : ζ2 47 = updF (σm 47) p a2 := by rw [← hζ, up_updF, up_k (by decide)]
      have mo : ∀ k j, k ≠ 47 → ¬ (k = 41 ∧ j = 0) → ζ2 k j = σm k j := fun k j q1 q3 => by
        rw [← hζ, up_k q1]
        by_cases e : k = 41
        · subst e
          rw [up_j (by omega)]
        · rw [up_k e]
      have mk : ∀ k, k ≠ 47 → k ≠ 41 → ζ2 k = σm k := fun k q1 q2 => by
        funext j
        exact mo k j q1 (by omega)
      have mb : ∀ t, mbS ζ2 t = mbS σm t := fun t => mbS_cg fun k _ _ => mk k (by omega) (by omega)
      have hB2 : RelB z1 ζ2 F := by
        refine ⟨⟨by rw [f1 6 (by decide) (by decide)]; exact h.1.1.1, h.1.1.2.1, fun q hq => ?_⟩, yg⟩
        rw [f1 7 (by decide) (by decide), f1 8 (by decide) (by decide), f1 10 (by decide) (by decide), y9, m47, mk 45 (by decide) (by decide), mk 46 (by decide) (by decide), mk 48 (by decide) (by decide), mk 49 (by decide) (by decide)]
        have old := h.1.1.2.2 q hq
        by_cases e : q = p
        · subst e
          rw [updF_s, updF_s, hFp, if_pos rfl, if_pos rfl]
          rw [hFp, if_pos rfl] at old
          exact ⟨old.1, ⟨old.2.1.1, old.2.1.2.1, old.2.1.2.2.1, rfl⟩, old.2.2.1, old.2.2.2.1, by omega, fun _ => c2.1⟩
        · rw [updF_o e, updF_o e]
          exact old
      obtain ⟨z', ζ', t1, t2, t3, -⟩ := act_n (a := 2) (b := (p : Int)) (c := a2 - σm 47 p) h hn hk4 (z2 := z1) (ζ2 := ζ2) (fun k j q1 q2 q3 => by rw [f1 k (by omega) (by omega)]) (fun k j q1 q2 => mo k j (by omega) q2) hB2 (fun t ht => by
        rw [mb, mk 51 (by decide) (by decide)]
        obtain ⟨⟨-, -, c⟩, -⟩ := h.2.1.2.2.2 t ht
        exact c.cg ⟨by rw [f1 _ (by omega) (by omega)], by rw [f1 _ (by omega) (by omega)]⟩ (f1 _ (by omega) (by omega)) (f1 _ (by decide) (by decide)) (f1 _ (by decide) (by decide))) (fun t ht hkt => ws_cg (mb t) (by rw [mk 51 (by decide) (by decide)]) (fun q hq => by
          have hne : q ≠ p := fun e => by rw [e, ntk_b h.1 hk hkt] at hq; cases hq
          rw [m47, mk 45 (by decide) (by decide), mk 46 (by decide) (by decide), updF_o hne]
          exact ⟨rfl, rfl, rfl⟩))
      refine ⟨(σm 47 p, z'), (σm 47 p, ζ'), ?_, ?_, rfl, t3⟩
      · unfold f_X9_change
        rw [has_t h.1.1.1 h.1.1.2.1 ha1, Option.bind_some, c01_t c1, dIsSum_n ha2, Option.bind_some, c01_t c2, dSumOf_n hp, Option.bind_some, h9, e1, Option.bind_some, perilOf_n hp, Option.bind_some, f1 10 (by decide) (by decide), hkz, t1, Option.bind_some]
      · unfold f_X10_change wr
        dsimp only
        rw [isPol_t hB1 ha1, Option.bind_some, c01_t c1, mIsSum_n ha2, Option.bind_some, c01_t c2, ck_t (by omega), ck_t (by omega), ntn, hζ, up_k (by decide : (47 : Nat) ≠ 41), t2, Option.bind_some]
    · refine ⟨(-1, σd), (-1, up σm 41 0 0), ?_, ?_, rfl, hs⟩
      · unfold f_X9_change
        rw [has_t h.1.1.1 h.1.1.2.1 ha1, Option.bind_some, c01_t c1, dIsSum_n ha2, Option.bind_some, c01_f c2]
      · unfold f_X10_change wr
        dsimp only
        rw [isPol_t hB1 ha1, Option.bind_some, c01_t c1, mIsSum_n ha2, Option.bind_some, c01_f c2]
  · refine ⟨(-1, σd), (-1, up σm 41 0 0), ?_, ?_, rfl, hs⟩
    · unfold f_X9_change
      rw [has_t h.1.1.1 h.1.1.2.1 ha1, Option.bind_some, c01_f c1]
    · unfold f_X10_change wr
      dsimp only
      rw [isPol_t hB1 ha1, Option.bind_some, c01_f c1]
theorem Eq_lapse_n : Eq_lapse Rl := by
  intro n σd σm a1 hn hR ha1
  obtain ⟨F, N, h⟩ := hR
  have h : Rn n σd σm F N := h
  have hs := h.ask (z' := σd) (ζ' := up σm 41 0 0) SD.rf ss0
  have hB1 := h.1.ss (ss0 (σ := σm))
  by_cases c1 : 0 ≤ a1 ∧ a1 < 24 ∧ F.testBit a1.toNat = true
  · obtain ⟨p, hpe⟩ : ∃ p : Nat, a1 = (p : Int) := ⟨a1.toNat, by omega⟩
    subst hpe
    have hp : p < 24 := by omega
    have hFp : F.testBit p = true := by have := c1.2.2; rw [ntn] at this; exact this
    obtain ⟨k, hk4, hk, hkz⟩ := peril_k h.1 hp
    have hN6 := h.2.1.1
    have h9 : σd 9 p = σm 47 p := by
      obtain ⟨-, ⟨-, -, -, x⟩, -⟩ := h.1.1.2.2 p hp
      rw [x, if_pos hFp]
    obtain ⟨z1, e1, f1, d1⟩ := leave_n (z := σd) (ζ := σm) (N := N) (p := p) (q := k) (Mo := fun t => mbS σm t) hN6 h.2.1.2.1 hp hk4 (fun t ht => by
      obtain ⟨⟨a, b, c⟩, -⟩ := h.2.1.2.2.2 t ht
      exact ⟨a.1, b, c, mbS_24 _ _⟩)
    obtain ⟨z2, e2, f2, y6, y9, yg⟩ := drop_n (σ := z1) (p := p) (F := F) hp (by rw [f1 6 5 (by omega) (by omega)]; exact h.1.1.1) h.1.1.2.1 (by rw [f1.row (k := 9) (by omega) (by omega)]; exact h.1.2.row (f1.row (by omega) (by omega)))
    generalize hζ : up (up σm 41 0 0) 49 p 0 = ζ2
    have m49 : ζ2 49 = updF (σm 49) p 0 := by rw [← hζ, up_updF, up_k (by decide)]
    have mo : ∀ k j, k ≠ 49 → ¬ (k = 41 ∧ j = 0) → ζ2 k j = σm k j := fun k j q1 q3 => by
      rw [← hζ, up_k q1]
      by_cases e : k = 41
      · subst e
        rw [up_j (by omega)]
      · rw [up_k e]
    have mk : ∀ k, k ≠ 49 → k ≠ 41 → ζ2 k = σm k := fun k q1 q2 => by
      funext j
      exact mo k j q1 (by omega)
    have hmb : ∀ t, mbS ζ2 t = if tkB σm t k = true then mbS σm t &&& (2 ^ p ^^^ 4294967295) else mbS σm t := fun t => by
      have ep : (mbS ζ2 t).testBit p = false := by
        unfold mbS prS
        rw [tb_mks, m49, updF_s]
        simp
      have eo : ∀ q, q ≠ p → (mbS ζ2 t).testBit q = (mbS σm t).testBit q := fun q hq => by
        unfold mbS prS
        rw [tb_mks, tb_mks, m49, updF_o hq, mk 48 (by decide) (by decide), mk 50 (by decide) (by decide)]
      refine bits_ext fun q => ?_
      cases ht : tkB σm t k with
      | false =>
        rw [if_neg (by decide)]
        by_cases e : q = p
        · subst e
          rw [ep, ntk_b h.1 hk ht]
        · exact eo q e
      | true =>
        rw [if_pos rfl, tb_clr (mbS_24 _ _)]
        by_cases e : q = p
        · subst e
          rw [ep]
          simp
        · rw [eo q e]
          simp [e]
    have hB2 : RelB z2 ζ2 (F &&& (2 ^ p ^^^ 4294967295)) := by
      have w : ∀ k, k ≠ 6 → k ≠ 9 → k ≠ 11 → ¬ (27 ≤ k ∧ k < 33) → ¬ (34 ≤ k ∧ k < 40) → z2 k = σd k := fun k a b c d e => (f2 k a b c).trans (f1.row d e)
      refine ⟨⟨y6, clr_lt h.1.1.2.1, fun q hq => ?_⟩, yg⟩
      rw [w 7 (by decide) (by decide) (by decide) (by decide) (by decide), w 8 (by decide) (by decide) (by decide) (by decide) (by decide), w 10 (by decide) (by decide) (by decide) (by decide) (by decide), y9, f1.row (k := 9) (by omega) (by omega), m49, mk 45 (by decide) (by decide), mk 46 (by decide) (by decide), mk 47 (by decide) (by decide), mk 48 (by decide) (by decide), tb_clr h.1.1.2.1]
      have old := h.1.1.2.2 q hq
      by_cases e : q = p
      · subst e
        rw [updF_s, updF_s, beq_self_eq_true, Bool.not_true, Bool.and_false, if_neg (by decide), if_neg (by decide)]
        exact ⟨rfl, ⟨old.2.1.1, old.2.1.2.1, old.2.1.2.2.1, rfl⟩, old.2.2.1, old.2.2.2.1, old.2.2.2.2.1, fun a => by cases a⟩
      · have ne : (q == p) = false := by simp [e]
        rw [updF_o e, updF_o e, ne, Bool.not_false, Bool.and_true]
        exact old
    obtain ⟨z', ζ', t1, t2, t3, t4⟩ := act_n (a := 3) (b := (p : Int)) (c := -(σm 47 p)) h hn hk4 (z2 := z2) (ζ2 := ζ2) (fun k j q1 q2 q3 => by rw [f2 k (by omega) (by omega) (by omega), f1 k j q2 q3]) (fun k j q1 q2 => mo k j (by omega) q2) hB2 (fun t ht => by
      rw [hmb, mk 51 (by decide) (by decide)]
      exact (d1 t ht).cg ⟨by rw [f2 _ (by omega) (by omega) (by omega)], by rw [f2 _ (by omega) (by omega) (by omega)]⟩ (f2 _ (by omega) (by omega) (by omega)) (f2 _ (by omega) (by omega) (by omega)) (f2 _ (by omega) (by omega) (by omega))) (fun t ht hkt => ws_cg (by rw [hmb, hkt, if_neg (by decide)]) (by rw [mk 51 (by decide) (by decide)]) (fun q hq => by
        rw [mk 45 (by decide) (by decide), mk 46 (by decide) (by decide), mk 47 (by decide) (by decide)]
        exact ⟨rfl, rfl, rfl⟩))
    refine ⟨(σm 47 p, z'), (σm 47 p, ζ'), ?_, ?_, rfl, t3⟩
    · unfold f_X9_lapse
      rw [has_t h.1.1.1 h.1.1.2.1 ha1, Option.bind_some, c01_t c1, dSumOf_n hp, Option.bind_some, perilOf_n hp, Option.bind_some, hkz, h9, e1, Option.bind_some, e2, Option.bind_some, t1, Option.bind_some]
    · unfold f_X10_lapse wr
      dsimp only
      rw [isPol_t hB1 ha1, Option.bind_some, c01_t c1, ck_t (by omega), ck_t (by omega), ntn, hζ, mk 47 (by decide) (by decide), t2, Option.bind_some, ck_t (by omega), t4 47 (by decide) (by decide), mk 47 (by decide) (by decide)]
  · refine ⟨(-1, σd), (-1, up σm 41 0 0), ?_, ?_, rfl, hs⟩
    · unfold f_X9_lapse
      rw [has_t h.1.1.1 h.1.1.2.1 ha1, Option.bind_some, c01_f c1]
    · unfold f_X10_lapse wr
      dsimp only
      rw [isPol_t hB1 ha1, Option.bind_some, c01_f c1]
