/-! ===== pure level: the reference looks at its treaties ===== -/
/-- two states alike but for the scratch of the weighing -/
theorem Scr.sym {σ σ' : Sg} (h : Scr σ σ') : Scr σ' σ := fun k j hk => (h k j hk).symm
theorem scr_upk {σ σ' : Sg} (h : Scr σ σ') (k j : Nat) (v : Int) : Scr (up σ k j v) (up σ' k j v) := by
  intro x y hxy
  by_cases hx : x = k
  · subst hx
    by_cases hy : y = j
    · subst hy
      rw [up_s, up_s]
    · rw [up_j hy, up_j hy]
      exact h x y hxy
  · rw [up_k hx, up_k hx]
    exact h x y hxy
theorem scr_rwk {σ σ' : Sg} (h : Scr σ σ') (k : Nat) (f : Nat → Int) : Scr (rwk σ k f) (rwk σ' k f) := by
  intro x y hxy
  by_cases hx : x = k
  · subst hx
    rw [rwk_s, rwk_s]
  · rw [rwk_k hx, rwk_k hx]
    exact h x y hxy
theorem scr_at {σ σ' : Sg} (h : Scr σ σ') {j : Nat} (hj : j < 35 ∨ 37 < j) : σ' 41 j = σ 41 j := h 41 j (by omega)
theorem wsM_scr {σ σ' : Sg} (c : Scr σ σ') (t : Nat) : wsM σ' t = wsM σ t := by
  unfold wsM
  rw [c.row (by decide : 45 ≠ 41), c.row (by decide : 46 ≠ 41), c.row (by decide : 47 ≠ 41), c.row (by decide : 48 ≠ 41), c.row (by decide : 49 ≠ 41), c.row (by decide : 50 ≠ 41), c.row (by decide : 51 ≠ 41)]
/-- the alarm of a treaty that is passed and has none -/
def soundP (σ : Sg) (t : Nat) (w : Int) : Sg :=
  up (rwk (up (up σ 53 t (σ 41 28)) 54 t (σ 54 t + 1)) 56 (noteA (σ 56) (t : Int) (σ 41 28) w)) 41 32 (if σ 41 32 < 30 then σ 41 32 + 1 else 30)
def lookP (σ : Sg) (t : Nat) (w : Int) : Sg := if σ 52 t < w then (if σ 53 t = -2 then soundP σ t w else σ) else up σ 53 t (-2)
noncomputable def lookM (σ : Sg) (t : Nat) : Sg := lookP σ t (wsM σ t).1
noncomputable def looksM (σ : Sg) : Nat → Sg
  | 0 => σ
  | n + 1 => lookM (looksM σ n) n
/-- rows that a look leaves -/
theorem lookM_k {σ : Sg} {t k : Nat} (h : k ≠ 53 ∧ k ≠ 54 ∧ k ≠ 56 ∧ k ≠ 41) : lookM σ t k = σ k := by
  unfold lookM lookP soundP
  by_cases hp : psM σ t
  · rw [if_pos hp]
    by_cases ha : σ 53 t = -2
    · rw [if_pos ha, up_k h.2.2.2, rwk_k h.2.2.1, up_k h.2.1, up_k h.1]
    · rw [if_neg ha]
  · rw [if_neg hp, up_k h.1]
theorem lookM_41 {σ : Sg} {t j : Nat} (h : j ≠ 32) : lookM σ t 41 j = σ 41 j := by
  unfold lookM lookP soundP
  by_cases hp : psM σ t
  · rw [if_pos hp]
    by_cases ha : σ 53 t = -2
    · rw [if_pos ha, up_j h, rwk_k (by decide), up_k (by decide), up_k (by decide)]
    · rw [if_neg ha]
  · rw [if_neg hp, up_k (by decide)]
theorem looksM_k {σ : Sg} {k : Nat} (h : k ≠ 53 ∧ k ≠ 54 ∧ k ≠ 56 ∧ k ≠ 41) : ∀ n, looksM σ n k = σ k
  | 0 => rfl
  | n + 1 => (lookM_k h).trans (looksM_k h n)
theorem looksM_41 {σ : Sg} {j : Nat} (h : j ≠ 32) : ∀ n, looksM σ n 41 j = σ 41 j
  | 0 => rfl
  | n + 1 => (lookM_41 h).trans (looksM_41 h n)
theorem MRow.cg {σ σ' : Sg} (h : MRow σ) (e : ∀ k, 45 ≤ k → k ≤ 49 → σ' k = σ k) : MRow σ' := by
  unfold MRow
  rw [e 45 (by decide) (by decide), e 46 (by decide) (by decide), e 47 (by decide) (by decide), e 48 (by decide) (by decide), e 49 (by decide) (by decide)]
  exact h
theorem MTr.cg {σ σ' : Sg} {t : Nat} (h : MTr σ t) (e : ∀ k, 50 ≤ k → k ≤ 52 → σ' k = σ k) : MTr σ' t := by
  unfold MTr
  rw [e 50 (by decide) (by decide), e 51 (by decide) (by decide), e 52 (by decide) (by decide)]
  exact h
theorem wsM_cg {σ σ' : Sg} {t : Nat} (e : ∀ k, 45 ≤ k → k ≤ 52 → σ' k = σ k) : wsM σ' t = wsM σ t := by
  unfold wsM
  rw [e 45 (by decide) (by decide), e 46 (by decide) (by decide), e 47 (by decide) (by decide), e 48 (by decide) (by decide), e 49 (by decide) (by decide), e 50 (by decide) (by decide), e 51 (by decide) (by decide)]
theorem look_n {σ : Sg} {t N : Nat} (htN : t < N) (hN6 : N ≤ 6) (hN : σ 41 27 = (N : Int)) (h : MRow σ) (hr : MTr σ t) (ha : InR (σ 53 t)) (h32 : 0 ≤ σ 41 32 ∧ σ 41 32 ≤ 30) :
    ∃ σ', Scr (lookM σ t) σ' ∧ ∀ n, f_X10_looks_b2 (n + 1) (t : Int) σ = f_X10_looks_b2 n ((t : Int) + 1) σ' := by
  obtain ⟨v, z1, e, c, hv⟩ := isPassed_n (by omega) h hr
  have hz53 : z1 53 = σ 53 := c.row (by decide)
  have hz54 : z1 54 = σ 54 := c.row (by decide)
  have hz28 : z1 41 28 = σ 41 28 := scr_at c (by decide)
  rcases hv with ⟨hp, rfl⟩ | ⟨hp, rfl⟩
  · by_cases hal : σ 53 t = -2
    · have hk : ∀ k, 45 ≤ k → k ≤ 52 → up (up z1 53 t (σ 41 28)) 54 t (σ 54 t + 1) k = σ k := fun k a b => by
        rw [up_k (by omega), up_k (by omega)]
        exact c.row (by omega)
      have hb : Scr (up (up σ 53 t (σ 41 28)) 54 t (σ 54 t + 1)) (up (up z1 53 t (σ 41 28)) 54 t (σ 54 t + 1)) := scr_upk (scr_upk c _ _ _) _ _ _
      obtain ⟨z2, e2, c2, -⟩ := worstOf_n (t := t) (by omega) (h.cg (σ' := up (up z1 53 t (σ 41 28)) 54 t (σ 54 t + 1)) fun k a b => hk k a (by omega)) (hr.cg fun k a b => hk k (by omega) b)
      rw [wsM_cg hk] at e2
      have c3 := hb.tr c2
      have hz56 : z2 56 = σ 56 := by
        rw [c3.row (by decide : 56 ≠ 41), up_k (by decide), up_k (by decide)]
      have hz32 : rwk z2 56 (noteA (σ 56) (t : Int) (σ 41 28) (wsM σ t).1) 41 32 = σ 41 32 := by
        rw [rwk_k (by decide), scr_at c3 (by decide), up_k (by decide), up_k (by decide)]
      refine ⟨up (rwk z2 56 (noteA (σ 56) (t : Int) (σ 41 28) (wsM σ t).1)) 41 32 (if σ 41 32 < 30 then σ 41 32 + 1 else 30), ?_, fun n => ?_⟩
      · unfold lookM lookP soundP
        rw [if_pos hp, if_pos hal]
        exact scr_upk (scr_rwk c3 _ _) _ _ _
      · have h28' : up (up z1 53 t (σ 41 28)) 54 t (σ 54 t + 1) 41 28 = σ 41 28 := by
          rw [up_k (by decide), up_k (by decide), hz28]
        rw [f_X10_looks_b2, w32_n (by omega), hN, w32_n (by omega), if_pos (by omega), e, Option.bind_some]
        dsimp only
        rw [w32_1, if_neg (by decide), ck_t (by omega), ntn, if_pos (show w32 (z1 53 t) = -2 by rw [hz53, w32_eq ha]; exact hal), ck_t (by omega), hz28]
        unfold wr
        dsimp only
        rw [ck_t (by omega), ck_t (by omega)]
        rw [up_k (by decide : 54 ≠ 53), hz54, e2, Option.bind_some, h28']
        dsimp only
        rw [notes56_n, Option.bind_some, hz56, hz32, w32_eq (z := σ 41 32) ⟨by omega, by omega⟩]
        by_cases h30 : σ 41 32 < 30
        · rw [if_pos h30, if_pos h30]
          unfold f_X10_looks_b89 wr f_X10_looks_b92
          dsimp only
          rw [w32_1, if_neg (by decide)]
          rfl
        · rw [if_neg h30, if_neg h30]
          unfold f_X10_looks_b89 wr f_X10_looks_b92
          dsimp only
          rw [w32_1, if_neg (by decide)]
          rfl
    · refine ⟨z1, ?_, fun n => ?_⟩
      · unfold lookM lookP
        rw [if_pos hp, if_neg hal]
        exact c
      · rw [f_X10_looks_b2, w32_n (by omega), hN, w32_n (by omega), if_pos (by omega), e, Option.bind_some]
        dsimp only
        rw [w32_1, if_neg (by decide), ck_t (by omega), ntn, if_neg (show ¬ w32 (z1 53 t) = -2 by rw [hz53, w32_eq ha]; exact hal)]
        unfold f_X10_looks_b92
        rw [w32_1, if_neg (by decide)]
        rfl
  · refine ⟨up z1 53 t (-2), ?_, fun n => ?_⟩
    · unfold lookM lookP
      rw [if_neg hp]
      exact scr_upk c _ _ _
    · rw [f_X10_looks_b2, w32_n (by omega), hN, w32_n (by omega), if_pos (by omega), e, Option.bind_some]
      dsimp only
      rw [w32_0, if_pos rfl]
      unfold f_X10_looks_b92 wr
      rw [w32_0, if_pos rfl, ck_t (by omega), ntn]
      rfl
theorem lookP_scr {σ σ' : Sg} (c : Scr σ σ') (t : Nat) (z : Int) : Scr (lookP σ t z) (lookP σ' t z) := by
  have h52 : σ' 52 = σ 52 := c.row (by decide)
  have h53 : σ' 53 = σ 53 := c.row (by decide)
  have h54 : σ' 54 = σ 54 := c.row (by decide)
  have h56 : σ' 56 = σ 56 := c.row (by decide)
  have h28 : σ' 41 28 = σ 41 28 := scr_at c (by decide)
  have h32 : σ' 41 32 = σ 41 32 := scr_at c (by decide)
  unfold lookP soundP
  by_cases hp : σ 52 t < z
  · have hp' : σ' 52 t < z := by rw [h52]; exact hp
    rw [if_pos hp, if_pos hp']
    by_cases ha : σ 53 t = -2
    · have ha' : σ' 53 t = -2 := by rw [h53]; exact ha
      rw [if_pos ha, if_pos ha', h54, h56, h28, h32]
      exact scr_upk (scr_rwk (scr_upk (scr_upk c _ _ _) _ _ _) _ _) _ _ _
    · have ha' : ¬ σ' 53 t = -2 := by rw [h53]; exact ha
      rw [if_neg ha, if_neg ha']
      exact c
  · have hp' : ¬ σ' 52 t < z := by rw [h52]; exact hp
    rw [if_neg hp, if_neg hp']
    exact scr_upk c _ _ _
theorem lookM_scr {σ σ' : Sg} (c : Scr σ σ') (t : Nat) : Scr (lookM σ t) (lookM σ' t) :=
  Eq.mpr (congrArg (fun w : Int × Int => Scr (lookP σ t (wsM σ t).1) (lookP σ' t w.1)) (wsM_scr c t)) (lookP_scr c t (wsM σ t).1)
theorem lookM_53 {σ : Sg} {t j : Nat} (h : j ≠ t) : lookM σ t 53 j = σ 53 j := by
  unfold lookM lookP soundP
  by_cases hp : psM σ t
  · rw [if_pos hp]
    by_cases ha : σ 53 t = -2
    · rw [if_pos ha, up_k (by decide), rwk_k (by decide), up_k (by decide), up_j h]
    · rw [if_neg ha]
  · rw [if_neg hp, up_j h]
theorem looksM_53 {σ : Sg} {j : Nat} : ∀ n, n ≤ j → looksM σ n 53 j = σ 53 j
  | 0, _ => rfl
  | n + 1, h => (lookM_53 (by omega)).trans (looksM_53 n (by omega))
theorem lookM_32 {σ : Sg} {t : Nat} (h : 0 ≤ σ 41 32 ∧ σ 41 32 ≤ 30) : 0 ≤ lookM σ t 41 32 ∧ lookM σ t 41 32 ≤ 30 := by
  unfold lookM lookP soundP
  by_cases hp : psM σ t
  · rw [if_pos hp]
    by_cases ha : σ 53 t = -2
    · rw [if_pos ha, up_s]
      by_cases h3 : σ 41 32 < 30
      · rw [if_pos h3]
        omega
      · rw [if_neg h3]
        omega
    · rw [if_neg ha]
      exact h
  · rw [if_neg hp, up_k (by decide)]
    exact h
theorem looksM_32 {σ : Sg} (h : 0 ≤ σ 41 32 ∧ σ 41 32 ≤ 30) : ∀ n, 0 ≤ looksM σ n 41 32 ∧ looksM σ n 41 32 ≤ 30
  | 0 => h
  | n + 1 => lookM_32 (looksM_32 h n)
theorem looks_n {σ : Sg} {N : Nat} (hN6 : N ≤ 6) (hN : σ 41 27 = (N : Int)) (h : MRow σ) (hr : ∀ t, t < N → MTr σ t) (ha : ∀ t, t < N → InR (σ 53 t)) (h32 : 0 ≤ σ 41 32 ∧ σ 41 32 ≤ 30) :
    ∃ σ', f_X10_looks σ = some σ' ∧ Scr (looksM σ N) σ' := by
  unfold f_X10_looks
  obtain ⟨z, m, c, e⟩ := loop_ex (F := fun n i z => f_X10_looks_b2 n i z) N (fun i z => Scr (looksM σ i) z) (fun n i z hi c => by
    have hk : ∀ k, 45 ≤ k → k ≤ 52 → z k = σ k := fun k a b => (c.row (by omega)).trans (looksM_k (by omega) i)
    have h27 : z 41 27 = σ 41 27 := (scr_at c (by decide)).trans (looksM_41 (by decide) i)
    have h53 : z 53 i = σ 53 i := (c 53 i (by omega)).trans (looksM_53 i (Nat.le_refl _))
    have h3 : z 41 32 = looksM σ i 41 32 := scr_at c (by decide)
    obtain ⟨z', c', e'⟩ := look_n (σ := z) (t := i) hi hN6 (h27.trans hN) (h.cg fun k a b => hk k a (by omega)) ((hr i hi).cg fun k a b => hk k (by omega) b) (by rw [h53]; exact ha i hi) (by rw [h3]; exact looksM_32 h32 i)
    exact ⟨z', (lookM_scr c i).tr c', e' n⟩) N 0 σ FUEL (by omega) Scr.rf (fuel_lt (by omega))
  refine ⟨z, ?_, c⟩
  have e0 : f_X10_looks_b2 FUEL 0 σ = f_X10_looks_b2 (m + 1) (N : Int) z := e
  rw [e0, f_X10_looks_b2, w32_n (by omega), (scr_at c (by decide)).trans (looksM_41 (by decide) N), hN, w32_n (by omega), if_neg (by omega)]
