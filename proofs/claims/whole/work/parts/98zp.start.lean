/-! ===== pure level: text, a text is read ===== -/
theorem read_n {z ζ : Sg} {B : Nat → Int} {n : Nat} (hn : n ≤ 900) (hB : ByP B) (hz : ∀ j, j < 900 → z 2 j = B j) (hm : ∀ j, j < 900 → ζ 42 j = B j) :
    ∃ z' ζ', f_X4_read (n : Int) z = some z' ∧ f_X10_readText (n : Int) ζ = some ζ' ∧ (∀ k j, ¬ (k = 3 ∧ 3 ≤ j ∧ j ≤ 8) → k ≠ 4 → k ≠ 5 → z' k j = z k j) ∧ (∀ k j, ¬ (k = 41 ∧ 5 ≤ j ∧ j ≤ 14) → k ≠ 43 → k ≠ 44 → ζ' k j = ζ k j) ∧ (Flt z' ζ' n ∨ ∃ k1 k2 p, LnS z' ζ' B n k1 k2 p) := by
  unfold f_X4_read f_X10_readText wr
  dsimp only
  obtain ⟨w, hw⟩ : ∃ w, w = up (up (up (up (up (up z 3 3 (n : Int)) 3 4 0) 3 5 0) 3 6 0) 3 7 0) 3 8 (-1) := ⟨_, rfl⟩
  obtain ⟨υ, hυ⟩ : ∃ υ, υ = up (up (up (up (up (up ζ 41 8 (n : Int)) 41 9 0) 41 13 0) 41 7 0) 41 5 0) 41 6 0 := ⟨_, rfl⟩
  rw [← hw, ← hυ]
  have fw : ∀ k j, ¬ (k = 3 ∧ 3 ≤ j ∧ j ≤ 8) → w k j = z k j := fun k j q => by
    rw [hw]
    by_cases e : k = 3
    · subst e
      rw [up_j (by omega), up_j (by omega), up_j (by omega), up_j (by omega), up_j (by omega), up_j (by omega)]
    · rw [up_k e, up_k e, up_k e, up_k e, up_k e, up_k e]
  have fυ : ∀ k j, ¬ (k = 41 ∧ 5 ≤ j ∧ j ≤ 14) → υ k j = ζ k j := fun k j q => by
    rw [hυ]
    by_cases e : k = 41
    · subst e
      rw [up_j (by omega), up_j (by omega), up_j (by omega), up_j (by omega), up_j (by omega), up_j (by omega)]
    · rw [up_k e, up_k e, up_k e, up_k e, up_k e, up_k e]
  have w3 : w 3 3 = (n : Int) := by rw [hw, up_j (by decide), up_j (by decide), up_j (by decide), up_j (by decide), up_j (by decide), up_s]
  have w4 : w 3 4 = ((0 : Nat) : Int) := by rw [hw, up_j (by decide), up_j (by decide), up_j (by decide), up_j (by decide), up_s]; rfl
  have w5 : w 3 5 = ((0 : Nat) : Int) := by rw [hw, up_j (by decide), up_j (by decide), up_j (by decide), up_s]; rfl
  have w6 : w 3 6 = ((0 : Nat) : Int) := by rw [hw, up_j (by decide), up_j (by decide), up_s]; rfl
  have w7 : w 3 7 = 0 := by rw [hw, up_j (by decide), up_s]
  have w8 : w 3 8 = -1 := by rw [hw, up_s]
  have u8 : υ 41 8 = (n : Int) := by rw [hυ, up_j (by decide), up_j (by decide), up_j (by decide), up_j (by decide), up_j (by decide), up_s]
  have u9 : υ 41 9 = ((0 : Nat) : Int) := by rw [hυ, up_j (by decide), up_j (by decide), up_j (by decide), up_j (by decide), up_s]; rfl
  have u13 : υ 41 13 = 0 := by rw [hυ, up_j (by decide), up_j (by decide), up_j (by decide), up_s]
  have u7 : υ 41 7 = 0 := by rw [hυ, up_j (by decide), up_j (by decide), up_s]
  have u5 : υ 41 5 = ((0 : Nat) : Int) := by rw [hυ, up_j (by decide), up_s]; rfl
  have u6 : υ 41 6 = ((0 : Nat) : Int) := by rw [hυ, up_s]; rfl
  clear hw hυ
  have dz : DOk B n w := ⟨w3, fun j hj => by rw [fw 2 j (by omega)]; exact hz j hj⟩
  have mz : MOk B n υ := ⟨u8, fun j hj => by rw [fυ 42 j (by omega)]; exact hm j hj⟩
  obtain ⟨p, hp⟩ := Adv.ex (P := isBl) (B := B) (n := n) (p := 0) (by omega)
  obtain ⟨ζ1, e1, f1, t1⟩ := token_n hn hB mz u9 hp
  rw [dSkip_n hn hB dz w4 hp, Option.bind_some, e1, Option.bind_some]
  have hLS : LnS (up w 3 4 (p : Int)) ζ1 B n 0 0 p := by
    refine ⟨dz.up4, f1.n.mok mz, up_s, t1, ⟨?_, ?_, by omega⟩, ⟨?_, ?_, by omega⟩, ?_, ⟨?_, ?_⟩, ?_, fun i hi => by omega, fun i hi => by omega⟩
    · rw [up_j (by decide)]
      exact w5
    · rw [f1 41 5 (by omega)]
      exact u5
    · rw [up_j (by decide)]
      exact w6
    · rw [f1 41 6 (by omega)]
      exact u6
    · rw [f1 41 7 (by omega), u7]
      rfl
    · rw [up_j (by decide)]
      exact w7
    · rw [up_j (by decide)]
      exact w8
    · rw [f1 41 13 (by omega)]
      exact u13
  have hpn := hp.2.1
  obtain ⟨z', ζ', e2, e3, f2, f3, k⟩ := lines_n hn hB n (up w 3 4 (p : Int)) ζ1 0 0 p 0 FUEL FUEL (by omega) hpn (by omega) (fuel_lt (by omega)) (fuel_lt (by omega)) hLS
  refine ⟨z', ζ', e2, e3, fun k j q1 q2 q3 => ?_, fun k j q1 q2 q3 => ?_, k⟩
  · rw [f2 k j (by omega) q2 q3]
    by_cases e : k = 3
    · subst e
      rw [up_j (by omega)]
      exact fw 3 j q1
    · rw [up_k e]
      exact fw k j q1
  · rw [f3 k j (by omega) q2 q3, f1 k j (by omega)]
    exact fυ k j q1
/-- the rest of the relation stands whatever is fed and read -/
theorem Rn.io {n F N : Nat} {z ζ z' ζ' : Sg} (h : Rn n z ζ F N) (ez : ∀ k, k ≠ 1 → k ≠ 3 → k ≠ 4 → k ≠ 5 → z' k = z k) (em : ∀ k j, ¬ (k = 41 ∧ (j = 0 ∨ j = 2 ∨ (5 ≤ j ∧ j ≤ 16))) → k ≠ 43 → k ≠ 44 → ζ' k j = ζ k j) (hO : RelO z' ζ') : Rn n z' ζ' F N := by
  obtain ⟨hB, hT, hL, -, hQ⟩ := h
  have hN6 := hT.1
  have er : ∀ k, 45 ≤ k → k ≤ 57 → ζ' k = ζ k := fun k q1 q2 => by
    funext j
    exact em k j (by omega) (by omega) (by omega)
  refine ⟨hB.cg (fun k _ _ => ez k (by omega) (by omega) (by omega) (by omega)) (fun k _ _ => er k (by omega) (by omega)), ⟨hN6, by rw [ez 0 (by decide) (by decide) (by decide) (by decide)]; exact hT.2.1, by rw [em 41 27 (by omega) (by decide) (by decide)]; exact hT.2.2.1, fun t ht => ?_⟩, ?_, hO, fun t ht => ?_⟩
  · obtain ⟨a, b⟩ := hT.2.2.2 t ht
    refine ⟨a.cg (fun j _ _ => by rw [ez (21 + t) (by omega) (by omega) (by omega) (by omega)]) ⟨by rw [ez (27 + t) (by omega) (by omega) (by omega) (by omega)], by rw [ez (27 + t) (by omega) (by omega) (by omega) (by omega)]⟩ (ez _ (by omega) (by omega) (by omega) (by omega)) (ez _ (by omega) (by omega) (by omega) (by omega)) (ez _ (by omega) (by omega) (by omega) (by omega)) (fun k _ _ => er k (by omega) (by omega)), ?_⟩
    unfold TrA at b ⊢
    rw [ez (21 + t) (by omega) (by omega) (by omega) (by omega), er 53 (by decide) (by decide), er 54 (by decide) (by decide)]
    exact b
  · unfold RelL
    rw [ez 13 (by decide) (by decide) (by decide) (by decide), ez 14 (by decide) (by decide) (by decide) (by decide), ez 15 (by decide) (by decide) (by decide) (by decide), ez 16 (by decide) (by decide) (by decide) (by decide), em 41 28 (by omega) (by decide) (by decide), em 41 34 (by omega) (by decide) (by decide), em 41 32 (by omega) (by decide) (by decide), er 56 (by decide) (by decide), er 57 (by decide) (by decide)]
    exact hL
  · have := hQ t ht
    have ws : wsM ζ' t = wsM ζ t := wsM_cg fun k _ _ => er k (by omega) (by omega)
    unfold TrQ TrW psM at this ⊢
    rw [ws, ez (21 + t) (by omega) (by omega) (by omega) (by omega), er 53 (by decide) (by decide), er 52 (by decide) (by decide)]
    exact this
