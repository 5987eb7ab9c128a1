/-! ===== pure level: the reference's logs ===== -/
def rwk (σ : Sg) (k : Nat) (f : Nat → Int) : Sg := fun x => if x = k then f else σ x
theorem rwk_s {σ : Sg} {k : Nat} {f : Nat → Int} : rwk σ k f k = f := if_pos rfl
theorem rwk_k {σ : Sg} {k x : Nat} {f : Nat → Int} (h : x ≠ k) : rwk σ k f x = σ x := if_neg h
theorem rwk_0 {σ : Sg} {k : Nat} {f : Nat → Int} (h : f = σ k) : rwk σ k f = σ := by
  funext x
  unfold rwk
  by_cases hx : x = k
  · rw [if_pos hx, h, hx]
  · rw [if_neg hx]
def shf (L : Nat → Int) (i : Nat) : Nat → Int := fun j => if 89 < j + i ∧ j ≤ 89 then L (j - 3) else L j
theorem shf_0 (L : Nat → Int) : shf L 0 = L := by
  funext j
  exact if_neg (by omega)
def noteA (L : Nat → Int) (a b c : Int) : Nat → Int := fun j => if j = 0 then a else if j = 1 then b else if j = 2 then c else if j ≤ 89 then L (j - 3) else L j
theorem shf_step {σ : Sg} {L : Nat → Int} {k i : Nat} (hi : i < 87) : up (rwk σ k (shf L i)) k (89 - i) (rwk σ k (shf L i) k (86 - i)) = rwk σ k (shf L (i + 1)) := by
  funext x j
  by_cases hx : x = k
  · subst hx
    rw [rwk_s]
    by_cases hj : j = 89 - i
    · subst hj
      rw [up_s, rwk_s]
      unfold shf
      rw [if_neg (by omega), if_pos (by omega)]
      congr 1
      omega
    · rw [up_j hj, rwk_s, rwk_s]
      unfold shf
      by_cases h : 89 < j + i ∧ j ≤ 89
      · rw [if_pos h, if_pos (by omega)]
      · rw [if_neg h, if_neg (by omega)]
  · rw [up_k hx, rwk_k hx, rwk_k hx]
theorem shf_end {σ : Sg} {L : Nat → Int} {k : Nat} {a b c : Int} : up (up (up (rwk σ k (shf L 87)) k 0 a) k 1 b) k 2 c = rwk σ k (noteA L a b c) := by
  funext x j
  by_cases hx : x = k
  · subst hx
    rw [rwk_s]
    unfold noteA
    by_cases h2 : j = 2
    · subst h2
      rw [up_s]
      rfl
    · rw [up_j h2]
      by_cases h1 : j = 1
      · subst h1
        rw [up_s]
        rfl
      · rw [up_j h1]
        by_cases h0 : j = 0
        · subst h0
          rw [up_s]
          rfl
        · rw [up_j h0, rwk_s, if_neg h0, if_neg h1, if_neg h2]
          unfold shf
          by_cases h : j ≤ 89
          · rw [if_pos h, if_pos (by omega)]
          · rw [if_neg h, if_neg (by omega)]
  · rw [up_k hx, up_k hx, up_k hx, rwk_k hx, rwk_k hx]
theorem notes56_n {σ : Sg} {a b c : Int} : f_X10_notes_56 a b c σ = some (rwk σ 56 (noteA (σ 56) a b c)) := by
  unfold f_X10_notes_56
  have e0 : (89 : Int) = 89 - ((0 : Nat) : Int) := by decide
  rw [e0]
  refine loop_at (St := Sg) (F := fun n i z => f_X10_notes_56_b4 n a b c (89 - i) z) 87 (fun i z => z = rwk σ 56 (shf (σ 56) i)) (by decide) ?_ ?_ 0 (by decide) σ (rwk_0 (shf_0 _)).symm
  · intro n i z hi h
    right
    refine ⟨_, rfl, ?_⟩
    subst h
    show f_X10_notes_56_b4 (n + 1) a b c (89 - (i : Int)) (rwk σ 56 (shf (σ 56) i)) = f_X10_notes_56_b4 n a b c (89 - ((i : Int) + 1)) (rwk σ 56 (shf (σ 56) (i + 1)))
    have e1 : (89 : Int) - (i : Int) = ((89 - i : Nat) : Int) := by omega
    have e2 : (((89 - i : Nat) : Int)) - 3 = ((86 - i : Nat) : Int) := by omega
    have e3 : (((89 - i : Nat) : Int)) + (-1) = 89 - ((i : Int) + 1) := by omega
    rw [f_X10_notes_56_b4, e1, w32_n (by omega), if_neg (by omega), e2, e3, ck_t (by omega), ck_t (by omega), ntn, ntn]
    unfold wr
    rw [shf_step hi]
  · intro n z h
    subst h
    show f_X10_notes_56_b4 (n + 1) a b c (89 - ((87 : Nat) : Int)) _ = _
    have e1 : (89 : Int) - ((87 : Nat) : Int) = ((2 : Nat) : Int) := by decide
    rw [f_X10_notes_56_b4, e1, w32_n (by decide), if_pos (by decide)]
    unfold f_X10_notes_56_b26 wr
    exact congrArg some shf_end
theorem notes57_n {σ : Sg} {a b c : Int} : f_X10_notes_57 a b c σ = some (rwk σ 57 (noteA (σ 57) a b c)) := by
  unfold f_X10_notes_57
  have e0 : (89 : Int) = 89 - ((0 : Nat) : Int) := by decide
  rw [e0]
  refine loop_at (St := Sg) (F := fun n i z => f_X10_notes_57_b4 n a b c (89 - i) z) 87 (fun i z => z = rwk σ 57 (shf (σ 57) i)) (by decide) ?_ ?_ 0 (by decide) σ (rwk_0 (shf_0 _)).symm
  · intro n i z hi h
    right
    refine ⟨_, rfl, ?_⟩
    subst h
    show f_X10_notes_57_b4 (n + 1) a b c (89 - (i : Int)) (rwk σ 57 (shf (σ 57) i)) = f_X10_notes_57_b4 n a b c (89 - ((i : Int) + 1)) (rwk σ 57 (shf (σ 57) (i + 1)))
    have e1 : (89 : Int) - (i : Int) = ((89 - i : Nat) : Int) := by omega
    have e2 : (((89 - i : Nat) : Int)) - 3 = ((86 - i : Nat) : Int) := by omega
    have e3 : (((89 - i : Nat) : Int)) + (-1) = 89 - ((i : Int) + 1) := by omega
    rw [f_X10_notes_57_b4, e1, w32_n (by omega), if_neg (by omega), e2, e3, ck_t (by omega), ck_t (by omega), ntn, ntn]
    unfold wr
    rw [shf_step hi]
  · intro n z h
    subst h
    show f_X10_notes_57_b4 (n + 1) a b c (89 - ((87 : Nat) : Int)) _ = _
    have e1 : (89 : Int) - ((87 : Nat) : Int) = ((2 : Nat) : Int) := by decide
    rw [f_X10_notes_57_b4, e1, w32_n (by decide), if_pos (by decide)]
    unfold f_X10_notes_57_b26 wr
    exact congrArg some shf_end
