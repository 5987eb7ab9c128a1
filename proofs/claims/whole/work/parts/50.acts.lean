/-! ===== pure level: the reference's acts ===== -/
theorem sumOf_n {σ : Sg} {s : Nat} (hs : s < 33554432) : f_X10_sumOf (s : Int) σ = some (sumb (σ 47) s 25) := by
  unfold f_X10_sumOf
  refine loop_at (St := Int) (F := fun n i v => f_X10_sumOf_b4 σ n s v i) 25 (fun i v => v = sumb (σ 47) s i) (by decide) ?_ ?_ 0 (by decide) 0 rfl
  · intro n i v hi hv
    right
    refine ⟨_, rfl, ?_⟩
    subst hv
    show f_X10_sumOf_b4 σ (n + 1) s (sumb (σ 47) s i) (i : Int) = f_X10_sumOf_b4 σ n s (sumb (σ 47) s (i + 1)) ((i : Int) + 1)
    rw [f_X10_sumOf_b4, w32_n (by omega), if_pos (by omega), has_n (by omega) (by omega), Option.bind_some, sumb]
    cases hb : s.testBit i with
    | false =>
      rw [b01_f rfl]
      rfl
    | true =>
      rw [b01_t rfl, ck_t (by omega), ntn]
      rfl
  · intro n v hv
    subst hv
    show f_X10_sumOf_b4 σ (n + 1) s _ ((25 : Nat) : Int) = _
    rw [f_X10_sumOf_b4, w32_n (by decide), if_neg (by decide)]
