/-! ===== pure level: the reference's acts ===== -/
theorem sumOf_n {σ : Sg} {s : Nat} (hs : s < 33554432) : f_X10_sumOf (s : Int) σ = some (sumb (σ 47) s 25) := by
  unfold f_X10_sumOf
  refine loop_at (St := Int) (F := fun n i v => f_X10_sumOf_b4 σ n s v i) 25 (fun i v => v = sumb (σ 47) s i) (by decide) ?_ ?_ 0 (by decide) 0 rfl
  · intro n i v hi hv
    right
    refine ⟨_, rfl, ?_⟩
    subst hv
    show f_X10_sumOf_b4 σ (n + 1) s (sumb (σ 47) s i) (i : Int) = f_X10_sumOf_b4 σ n s (sumb (σ 47) s (i + 1)) ((i : Int) + 1)
    rw [f_X10_sumOf_b4, w32_n (by omega), if_pos (by omega), has_n (by omega) (by omega), Option.bind_some, sumb]
    cases hb : s.testBit i with
    | false =>
      rw [b01_f rfl]
      rfl
    | true =>
      rw [b01_t rfl, ck_t (by omega), ntn]
      rfl
  · intro n v hv
    subst hv
    show f_X10_sumOf_b4 σ (n + 1) s _ ((25 : Nat) : Int) = _
    rw [f_X10_sumOf_b4, w32_n (by decide), if_neg (by decide)]
/-- an act is counted and noted -/
def actM (σ : Sg) (a b c : Int) : Sg := up (rwk (up σ 41 28 (σ 41 28 + 1)) 57 (noteA (σ 57) a b c)) 41 34 (if σ 41 34 < 30 then σ 41 34 + 1 else 30)
theorem actM_k {σ : Sg} {a b c : Int} {k : Nat} (h : k ≠ 41 ∧ k ≠ 57) : actM σ a b c k = σ k := by
  unfold actM
  rw [up_k h.1, rwk_k h.2, up_k h.1]
theorem actM_41 {σ : Sg} {a b c : Int} {j : Nat} (h : j ≠ 28 ∧ j ≠ 34) : actM σ a b c 41 j = σ 41 j := by
  unfold actM
  rw [up_j h.2, rwk_k (by decide), up_j h.1]
theorem acted_n {σ : Sg} {N : Nat} {a b d : Int} (hN6 : N ≤ 6) (hN : σ 41 27 = (N : Int)) (h : MRow σ) (hr : ∀ t, t < N → MTr σ t) (ha : ∀ t, t < N → InR (σ 53 t)) (h32 : 0 ≤ σ 41 32 ∧ σ 41 32 ≤ 30) (h34 : 0 ≤ σ 41 34 ∧ σ 41 34 ≤ 30) :
    ∃ σ', f_X10_acted a b d σ = some σ' ∧ Scr (looksM (actM σ a b d) N) σ' := by
  obtain ⟨σ', e, c⟩ := looks_n (σ := actM σ a b d) hN6 (by rw [actM_41 (by decide)]; exact hN) (h.cg fun k p q => actM_k (by omega)) (fun t ht => (hr t ht).cg fun k p q => actM_k (by omega)) (fun t ht => by rw [actM_k (by decide)]; exact ha t ht) (by rw [actM_41 (by decide)]; exact h32)
  refine ⟨σ', ?_, c⟩
  unfold f_X10_acted wr
  dsimp only
  rw [notes57_n, Option.bind_some]
  have e57 : up σ 41 28 (σ 41 28 + 1) 57 = σ 57 := up_k (by decide)
  have e34 : rwk (up σ 41 28 (σ 41 28 + 1)) 57 (noteA (σ 57) a b d) 41 34 = σ 41 34 := by
    rw [rwk_k (by decide), up_j (by decide)]
  rw [e57, e34, w32_eq (z := σ 41 34) ⟨by omega, by omega⟩]
  unfold actM at e
  by_cases h3 : σ 41 34 < 30
  · rw [if_pos h3] at e ⊢
    unfold f_X10_acted_b41 wr
    dsimp only
    rw [e]
    rfl
  · rw [if_neg h3] at e ⊢
    unfold f_X10_acted_b41 wr
    dsimp only
    rw [e]
    rfl
