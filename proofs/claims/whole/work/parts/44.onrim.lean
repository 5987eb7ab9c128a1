/-! ===== pure level: the reference's discs with two on the rim; what is offered ===== -/
theorem canBeRim_n {σ : Sg} {p q : Nat} (hp : p < 25) (hq : q < 25) (Pp : Pl (σ 45) (σ 46) p) (Pq : Pl (σ 45) (σ 46) q) {R : Int} (hR : 0 ≤ R ∧ R ≤ 300) :
    f_X10_canBeRim (p : Int) (q : Int) R σ = some (if decide (0 < d2 (σ 45) (σ 46) p q ∧ d2 (σ 45) (σ 46) p q ≤ 4 * R * R) = true then 1 else 0) := by
  have hD := d2_bd Pp Pq
  have hRR := mul_bd (x := 4 * R) (y := R) (A := 1200) (B := 300) ⟨by omega, by omega⟩ ⟨by omega, by omega⟩
  unfold f_X10_canBeRim
  rw [dist_n hp hq, Option.bind_some, w32_eq ⟨by omega, by omega⟩, w32_eq ⟨by omega, by omega⟩]
  by_cases h1 : d2 (σ 45) (σ 46) p q ≤ 0
  · rw [if_pos h1, if_neg (by simp; omega)]
  · rw [if_neg h1]
    by_cases h2 : d2 (σ 45) (σ 46) p q ≤ 4 * R * R
    · rw [if_pos h2, if_pos (by simp; omega)]
    · rw [if_neg h2, if_neg (by simp; omega)]
def rmS (X Y : Nat → Int) (R : Int) (s a b : Nat) (side : Bool) : Nat := mks (fun q => s.testBit q && (q == a || q == b || inD X Y R a b side q)) 25
theorem onRim_n {σ : Sg} {p q s : Nat} {side : Bool} {R : Int} (hp : p < 25) (hq : q < 25) (hs : s < 33554432) (Pp : Pl (σ 45) (σ 46) p) (Pq : Pl (σ 45) (σ 46) q) (Ps : ∀ r, r < 25 → s.testBit r = true → Pl (σ 45) (σ 46) r) (hR : 0 ≤ R ∧ R ≤ 300) (h0 : 0 < d2 (σ 45) (σ 46) p q) (hDR : d2 (σ 45) (σ 46) p q ≤ 4 * R * R) :
    f_X10_onRim (p : Int) (q : Int) (if side then 1 else 0) (s : Int) R σ = some (((rmS (σ 45) (σ 46) R s p q side : Nat) : Int), up σ 41 35 (sumb (σ 47) (rmS (σ 45) (σ 46) R s p q side) 25)) := by
  unfold f_X10_onRim wr
  generalize hP : (fun r => s.testBit r && (r == p || r == q || inD (σ 45) (σ 46) R p q side r)) = P
  have hA : rmS (σ 45) (σ 46) R s p q side = mks P 25 := by rw [← hP]; rfl
  rw [hA]
  generalize hsd : (if side then (1 : Int) else 0) = sd
  refine loop_at (St := Int × Sg) (F := fun n i z => f_X10_onRim_b11 n p q sd s R z.1 i z.2) 25 (fun i z => z = (((mks P i : Nat) : Int), up σ 41 35 (sumb (σ 47) (mks P 25) i))) (by decide) ?_ ?_ 0 (by decide) (0, up σ 41 35 0) rfl
  · intro n i z hi h
    right
    refine ⟨_, rfl, ?_⟩
    subst h
    show f_X10_onRim_b11 (n + 1) p q sd s R ((mks P i : Nat) : Int) (i : Int) (up σ 41 35 (sumb (σ 47) (mks P 25) i)) = f_X10_onRim_b11 n p q sd s R ((mks P (i + 1) : Nat) : Int) ((i : Int) + 1) (up σ 41 35 (sumb (σ 47) (mks P 25) (i + 1)))
    have e5 : up σ 41 35 (sumb (σ 47) (mks P 25) i) 45 = σ 45 := up_k (by decide)
    have e6 : up σ 41 35 (sumb (σ 47) (mks P 25) i) 46 = σ 46 := up_k (by decide)
    have e7 : up σ 41 35 (sumb (σ 47) (mks P 25) i) 47 = σ 47 := up_k (by decide)
    have yes : P i = true → f_X10_onRim_b57 (f_X10_onRim_b11 n) p q sd s R ((mks P i : Nat) : Int) (i : Int) (up σ 41 35 (sumb (σ 47) (mks P 25) i)) = f_X10_onRim_b11 n p q sd s R ((mks P (i + 1) : Nat) : Int) ((i : Int) + 1) (up σ 41 35 (sumb (σ 47) (mks P 25) i + σ 47 i)) := by
      intro hPt
      unfold f_X10_onRim_b57 f_X10_onRim_b82 wr
      rw [ck_t (by omega), ntn, e7, up_s, up_up, mks_t (by omega) hPt]
    have no : P i = false → f_X10_onRim_b82 (f_X10_onRim_b11 n) p q sd s R ((mks P i : Nat) : Int) (i : Int) (up σ 41 35 (sumb (σ 47) (mks P 25) i)) = f_X10_onRim_b11 n p q sd s R ((mks P (i + 1) : Nat) : Int) ((i : Int) + 1) (up σ 41 35 (sumb (σ 47) (mks P 25) i)) := by
      intro hPf
      rw [mks_f hPf]
      rfl
    rw [f_X10_onRim_b11, w32_n (by omega), if_pos (by omega), has_n (by omega) (by omega), Option.bind_some, sumb_mks hi, w32_n (by omega), w32_n (by omega)]
    have hPi : P i = (s.testBit i && (i == p || i == q || inD (σ 45) (σ 46) R p q side i)) := by rw [← hP]
    cases hb : s.testBit i with
    | false =>
      rw [b01_f rfl]
      rw [hb, Bool.false_and] at hPi
      rw [no hPi, hPi, if_neg (by decide), Int.add_zero]
    | true =>
      rw [b01_t rfl]
      rw [hb, Bool.true_and] at hPi
      by_cases h1 : i = p
      · have hPt : P i = true := by rw [hPi]; simp [h1]
        rw [if_pos (by omega), yes hPt, hPt, if_pos rfl]
      · rw [if_neg (by omega)]
        by_cases h2 : i = q
        · have hPt : P i = true := by rw [hPi]; simp [h2]
          rw [if_pos (by omega), yes hPt, hPt, if_pos rfl]
        · rw [if_neg (by omega), ← hsd, isIn_n hp hq (by omega) (by rw [e5, e6]; exact Pp) (by rw [e5, e6]; exact Pq) (by rw [e5, e6]; exact Ps i (by omega) hb) hR (by rw [e5, e6]; exact h0) (by rw [e5, e6]; exact hDR), Option.bind_some, hsd, e5, e6]
          have hPq : P i = inD (σ 45) (σ 46) R p q side i := by
            rw [hPi]
            have g1 : (i == p) = false := by simp [h1]
            have g2 : (i == q) = false := by simp [h2]
            rw [g1, g2, Bool.false_or, Bool.false_or]
          cases hin : inD (σ 45) (σ 46) R p q side i with
          | false =>
            rw [hin] at hPq
            rw [b01_f rfl, no hPq, hPq, if_neg (by decide), Int.add_zero]
          | true =>
            rw [hin] at hPq
            rw [b01_t rfl, yes hPq, hPq, if_pos rfl]
  · intro n z h
    subst h
    show f_X10_onRim_b11 (n + 1) p q sd s R _ ((25 : Nat) : Int) _ = _
    rw [f_X10_onRim_b11, w32_n (by decide), if_neg (by decide)]
/-- what weighs writes: held, bestSum, bestSet alone -/
def Scr (σ σ' : Sg) : Prop := ∀ k j, ¬ (k = 41 ∧ 35 ≤ j ∧ j ≤ 37) → σ' k j = σ k j
theorem Scr.rf {σ : Sg} : Scr σ σ := fun _ _ _ => rfl
theorem Scr.tr {σ σ1 σ2 : Sg} (h : Scr σ σ1) (h2 : Scr σ1 σ2) : Scr σ σ2 := fun k j hk => (h2 k j hk).trans (h k j hk)
theorem Scr.up {σ : Sg} {j : Nat} {v : Int} (hj : 35 ≤ j ∧ j ≤ 37) : Scr σ (up σ 41 j v) := fun k i hk => by
  by_cases h1 : k = 41
  · subst h1
    exact up_j (fun e => hk ⟨rfl, by omega, by omega⟩)
  · rw [up_k h1]
theorem Scr.row {σ σ' : Sg} (h : Scr σ σ') {k : Nat} (hk : k ≠ 41) : σ' k = σ k := by
  funext j
  exact h k j (fun e => hk e.1)
/-- the best of what was offered: (sums, own) -/
def BestOf (C : Int → Nat → Prop) (bs bset : Int) : Prop := ((∀ h o, ¬ C h o) ∧ bs = -1 ∧ bset = 2147483647) ∨ ∃ o : Nat, bset = (o : Int) ∧ C bs o ∧ ∀ h o', C h o' → h < bs ∨ (h = bs ∧ o ≤ o')
theorem BestOf.step {C C' : Int → Nat → Prop} {bs bset h : Int} {o : Nat} (B : BestOf C bs bset) (hh : 0 ≤ h) (ho : o < 2147483647) (hC : ∀ x y, C' x y ↔ C x y ∨ (x = h ∧ y = o)) :
    (h < bs ∨ (h = bs ∧ bset ≤ (o : Int)) → BestOf C' bs bset) ∧ (¬ (h < bs ∨ (h = bs ∧ bset ≤ (o : Int))) → BestOf C' h (o : Int)) := by
  rcases B with ⟨h1, h2, h3⟩ | ⟨b, h1, h2, h3⟩
  · refine ⟨fun q => by omega, fun _ => Or.inr ⟨o, rfl, (hC h o).mpr (Or.inr ⟨rfl, rfl⟩), fun x y hxy => ?_⟩⟩
    rcases (hC x y).mp hxy with q | ⟨rfl, rfl⟩
    · exact absurd q (h1 x y)
    · exact Or.inr ⟨rfl, Nat.le_refl _⟩
  · refine ⟨fun q => Or.inr ⟨b, h1, (hC _ _).mpr (Or.inl h2), fun x y hxy => ?_⟩, fun q => Or.inr ⟨o, rfl, (hC _ _).mpr (Or.inr ⟨rfl, rfl⟩), fun x y hxy => ?_⟩⟩
    · rcases (hC x y).mp hxy with z | ⟨rfl, rfl⟩
      · exact h3 x y z
      · omega
    · rcases (hC x y).mp hxy with z | ⟨rfl, rfl⟩
      · rcases h3 x y z with z | ⟨z1, z2⟩
        · left
          omega
        · by_cases he : h = bs
          · right
            omega
          · left
            omega
      · exact Or.inr ⟨rfl, Nat.le_refl _⟩
