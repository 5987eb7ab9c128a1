/-! ===== pure level: the class gathers the greatest sets ===== -/
theorem gather_n {σ : Sg} {S : Nat} {R : Int} (h : DI σ 6 R S) :
    ∃ (σ' : Sg) (D : Nat) (f : Nat → Nat), f_X3_gather 6 σ = some σ' ∧ (∀ k j, k ≠ 18 → k ≠ 19 → σ' k j = σ k j) ∧ Fam σ' D f ∧ (∀ j, j < 576 → esN (σ 7) (σ 8) R S j ≠ 0 → ∃ k, k < D ∧ SubN (esN (σ 7) (σ 8) R S j) (f k)) ∧ ∀ k, k < D → ∃ j, j < 576 ∧ f k = esN (σ 7) (σ 8) R S j ∧ f k ≠ 0 := by
  have hr : ∀ j, j < 576 → σ 40 j = ((esN (σ 7) (σ 8) R S j : Nat) : Int) := fun j hj => by
    have := h.2.2 (j / 24) (j % 24) (by omega) (by omega)
    rw [show j / 24 * 24 + j % 24 = j by omega] at this
    exact this
  generalize hE : esN (σ 7) (σ 8) R S = E at *
  have El : ∀ j, E j < 16777216 := fun j => by rw [← hE]; exact esN_24 _ _ _ _ _
  unfold f_X3_gather wr
  rw [ck_t (by decide)]
  have fr0 : ∀ k j, k ≠ 18 → k ≠ 19 → up σ 18 1 0 k j = σ k j := fun k j h1 _ => by rw [up_k h1]
  have fm0 : Fam (up σ 18 1 0) 0 (fun _ => 0) := ⟨by rw [up_s]; rfl, by omega, fun k hk => by omega, fun k l hk => by omega⟩
  generalize up σ 18 1 0 = σ1 at *
  refine loop_P (F := fun n i (u : Sg) => f_X3_gather_b7 n 6 i u) 576 (fun i u => ∃ (D : Nat) (f : Nat → Nat), D ≤ i ∧ (∀ k j, k ≠ 18 → k ≠ 19 → u k j = σ k j) ∧ Fam u D f ∧ (∀ j, j < i → E j ≠ 0 → ∃ k, k < D ∧ SubN (E j) (f k)) ∧ ∀ k, k < D → ∃ j, j < 576 ∧ f k = E j ∧ f k ≠ 0) (P := fun x => ∃ (σ' : Sg) (D : Nat) (f : Nat → Nat), x = some σ' ∧ (∀ k j, k ≠ 18 → k ≠ 19 → σ' k j = σ k j) ∧ Fam σ' D f ∧ (∀ j, j < 576 → E j ≠ 0 → ∃ k, k < D ∧ SubN (E j) (f k)) ∧ ∀ k, k < D → ∃ j, j < 576 ∧ f k = E j ∧ f k ≠ 0) (by decide) ?_ ?_ 0 (by decide) σ1 ⟨0, _, Nat.le_refl _, fr0, fm0, fun j hj => by omega, fun k hk => by omega⟩
  · intro n i u hi hI
    obtain ⟨D, f, hD, fr, hF, h1, h2⟩ := hI
    right
    have ea : f_X2_at 6 (i : Int) u = some ((E i : Nat) : Int) := by
      unfold f_X2_at
      rw [ck_t (by decide), w32_n (by omega), if_neg (show ¬ (i : Int) < 0 by omega), if_pos (show (i : Int) < 576 by omega), ck_t (by omega), ntn]
      show some (u 40 i) = _
      rw [fr 40 i (by decide) (by decide), hr i hi]
    rw [f_X3_gather_b7, w32_n (by omega), if_pos (show (i : Int) < 576 by omega), ea, Option.bind_some, w32_n (by have := El i; omega)]
    by_cases c1 : E i = 0
    · rw [if_pos (show ((E i : Nat) : Int) = 0 by omega)]
      refine ⟨u, ⟨D, f, by omega, fr, hF, fun j hj hne => ?_, h2⟩, rfl⟩
      rcases Nat.lt_succ_iff_lt_or_eq.1 hj with r | r
      · exact h1 j r hne
      · rw [r] at hne
        exact absurd c1 hne
    · obtain ⟨u2, D2, g, e2, fr2, hF2, d2, k1, k2, k3⟩ := keep_n hF (by omega) (El i)
      rw [if_neg (show ¬ ((E i : Nat) : Int) = 0 by omega), Option.bind_some, e2, Option.bind_some]
      refine ⟨u2, ⟨D2, g, by omega, fun k j q1 q2 => (fr2 k j q1 q2).trans (fr k j q1 q2), hF2, fun j hj hne => ?_, fun k hk => ?_⟩, rfl⟩
      · rcases Nat.lt_succ_iff_lt_or_eq.1 hj with r | r
        · obtain ⟨k, q1, q2⟩ := h1 j r hne
          obtain ⟨l, q3, q4⟩ := k2 k q1
          exact ⟨l, q3, fun x hx => q4 x (q2 x hx)⟩
        · rw [r]
          exact k1
      · rcases k3 k hk with q | ⟨l, l1, l2⟩
        · exact ⟨i, hi, q, by rw [q]; exact c1⟩
        · rw [l2]
          exact h2 l l1
  · intro n u hI
    obtain ⟨D, f, hD, fr, hF, h1, h2⟩ := hI
    rw [f_X3_gather_b7, w32_n (by decide), if_neg (show ¬ ((576 : Nat) : Int) < 576 by decide)]
    exact ⟨u, D, f, rfl, fr, hF, h1, h2⟩
/-- the kept sets are discs of the reference's, and each of these lies in a kept one -/
theorem fam_cnd {X Y : Nat → Int} {R : Int} {S D : Nat} {f : Nat → Nat} {σ : Sg} (hSl : S < 16777216) (hF : Fam σ D f) (h1 : ∀ j, j < 576 → esN X Y R S j ≠ 0 → ∃ k, k < D ∧ SubN (esN X Y R S j) (f k)) (h2 : ∀ k, k < D → ∃ j, j < 576 ∧ f k = esN X Y R S j ∧ f k ≠ 0) :
    (∀ k, k < D → Cnd X Y R S 25 (f k)) ∧ ∀ c, Cnd X Y R S 25 c → ∃ k, k < D ∧ SubN c (f k) := by
  have cov : ∀ c, Cnd X Y R S 25 c → ∃ k, k < D ∧ SubN c (f k) := fun c hc => by
    obtain ⟨cl, c0, j, hj, e⟩ := cnd_esN hSl (fun q h => h) hc (sq_nn R)
    have ne : esN X Y R S j ≠ 0 := fun q => c0 (by rw [e, q, Nat.zero_and])
    obtain ⟨k, k1, k2⟩ := h1 j hj ne
    refine ⟨k, k1, fun q hq => k2 q ?_⟩
    rw [e, Nat.testBit_and, Bool.and_eq_true] at hq
    exact hq.1
  refine ⟨fun k hk => ?_, cov⟩
  obtain ⟨j, hj, e, ne⟩ := h2 k hk
  obtain ⟨c, hc, hs⟩ := cnd_cov (o := f k) hSl (fun q h => h) hj (sq_nn R) ne (fun q hq => by
    rw [e] at hq
    exact ⟨esN_M hq, hq⟩)
  obtain ⟨l, l1, l2⟩ := cov c hc
  have ekl : k = l := Classical.byContradiction fun q => hF.2.2.2 k l hk l1 q (fun r hr => l2 r (hs r hr))
  subst ekl
  have : f k = c := bits_ext fun q => by
    have q1 := hs q
    have q2 := l2 q
    cases hq : (f k).testBit q with
    | true => exact (q1 hq).symm
    | false =>
      cases hq2 : c.testBit q with
      | false => rfl
      | true =>
        have := q2 hq2
        rw [hq] at this
        cases this
  rw [this]
  exact hc
