/-! ===== pure level: both discs with a place and one on the rim ===== -/
def hbP (X Y : Nat → Int) (R x y : Int) (b s : Nat) (side : Bool) : Nat → Bool := fun q => s.testBit q && (decide (0 < (X b - x) * (X b - x) + (Y b - y) * (Y b - y) ∧ (X b - x) * (X b - x) + (Y b - y) * (Y b - y) ≤ 4 * R * R) && inS ((X q - x) * (X q - x - (X b - x)) + (Y q - y) * (Y q - y - (Y b - y))) (if side then -((X b - x) * (Y q - y) - (Y b - y) * (X q - x)) else (X b - x) * (Y q - y) - (Y b - y) * (X q - x)) ((X b - x) * (X b - x) + (Y b - y) * (Y b - y)) (4 * R * R - ((X b - x) * (X b - x) + (Y b - y) * (Y b - y))))
theorem isNumber_t {σ : Sg} {p : Nat} (hp : p < 24) : f_X9_isNumber (p : Int) σ = some 1 := by
  rw [isNumber_n ⟨by omega, by omega⟩, if_pos (by omega)]
theorem b02_t {α : Type} {x y : α} {b : Bool} (h : b = true) : (if w32 (if b = true then 2 else 0) = 0 then x else y) = y := by
  rw [if_pos h, w32_2, if_neg (by decide)]
theorem b02_f {α : Type} {x y : α} {b : Bool} (h : b = false) : (if w32 (if b = true then 2 else 0) = 0 then x else y) = x := by
  subst h
  rw [show (if false = true then (2 : Int) else 0) = 0 from rfl, w32_0, if_pos rfl]
theorem mks_z {P : Nat → Bool} {i : Nat} (hi : i < 31) (h : P i = false) : ((u32 ((mks P i : Nat) : Int) ||| u32 0 : Nat) : Int) = ((mks P (i + 1) : Nat) : Int) := by
  have hl : mks P i < 4294967296 := Nat.lt_trans (mks_lt P i) (pow_lt (by omega))
  have e : u32 0 = 0 := by decide
  rw [u32_nat hl, e, Nat.or_zero, mks_f h]
theorem mks_ff {P : Nat → Bool} : ∀ {n : Nat}, (∀ i, i < n → P i = false) → mks P n = 0
  | 0, _ => rfl
  | n + 1, h => by rw [mks_f (h n (by omega)), mks_ff (fun i hi => h i (by omega))]
theorem up34 {σ : Sg} {k : Nat} {a b c e : Int} : up (up (up (up σ k 3 a) k 4 b) k 3 c) k 4 e = up (up σ k 3 c) k 4 e := by
  funext x y
  by_cases hx : x = k
  · by_cases h3 : y = 3 <;> by_cases h4 : y = 4 <;> simp [up, hx, h3, h4]
  · simp [up, hx]
theorem hold_n {σ : Sg} {d b s : Nat} {x y R : Int} (hd : d < 7) (hb : b < 24) (hs : s < 16777216) (hR : σ (27 + d) 2 = R) (hR2 : 0 ≤ R ∧ R ≤ 300) (Px : 0 ≤ x ∧ x < 300) (Py : 0 ≤ y ∧ y < 300) (Ps : ∀ q, q < 24 → s.testBit q = true → Pl (σ 7) (σ 8) q) (Pb : Pl (σ 7) (σ 8) b) :
    f_X2_holdBoth d x y (b : Int) (s : Int) σ = some (up (up σ (27 + d) 3 ((mks (hbP (σ 7) (σ 8) R x y b s false) 24 : Nat) : Int)) (27 + d) 4 ((mks (hbP (σ 7) (σ 8) R x y b s true) 24 : Nat) : Int)) := by
  have r7 : ∀ u v : Int, up (up σ (27 + d) 3 u) (27 + d) 4 v 7 = σ 7 := fun u v => by rw [up_k (by omega), up_k (by omega)]
  have r8 : ∀ u v : Int, up (up σ (27 + d) 3 u) (27 + d) 4 v 8 = σ 8 := fun u v => by rw [up_k (by omega), up_k (by omega)]
  have r2 : ∀ u v : Int, up (up σ (27 + d) 3 u) (27 + d) 4 v (27 + d) 2 = R := fun u v => by rw [up_j (by decide), up_j (by decide), hR]
  have r3 : ∀ u v : Int, up (up σ (27 + d) 3 u) (27 + d) 4 v (27 + d) 3 = u := fun u v => by rw [up_j (by decide), up_s]
  have r4 : ∀ u v w : Int, up (up (up σ (27 + d) 3 u) (27 + d) 4 v) (27 + d) 3 w (27 + d) 4 = v := fun u v w => by rw [up_j (by decide), up_s]
  unfold f_X2_holdBoth wr
  dsimp only
  rw [ck_t hd, isNumber_t hb, Option.bind_some, w32_1, if_neg (by decide), ck_t (by omega), ck_t (by omega), ntn, r7, r8, r2]
  unfold Pl at Pb
  generalize hPl : hbP (σ 7) (σ 8) R x y b s false = Pf
  generalize hPr : hbP (σ 7) (σ 8) R x y b s true = Pt
  have hbx := Pb.1
  have hby := Pb.2
  have m1 := mul_bd (x := σ 7 b - x) (y := σ 7 b - x) (A := 299) (B := 299) ⟨by omega, by omega⟩ ⟨by omega, by omega⟩
  have m2 := mul_bd (x := σ 8 b - y) (y := σ 8 b - y) (A := 299) (B := 299) ⟨by omega, by omega⟩ ⟨by omega, by omega⟩
  have n1 := sq_nn (σ 7 b - x)
  have n2 := sq_nn (σ 8 b - y)
  have hRR := mul_bd (x := 4 * R) (y := R) (A := 1200) (B := 300) ⟨by omega, by omega⟩ ⟨by omega, by omega⟩
  have hRR0 : 0 ≤ 4 * R * R := Int.mul_nonneg (by omega) hR2.1
  by_cases hrim : 0 < (σ 7 b - x) * (σ 7 b - x) + (σ 8 b - y) * (σ 8 b - y) ∧ (σ 7 b - x) * (σ 7 b - x) + (σ 8 b - y) * (σ 8 b - y) ≤ 4 * R * R
  · have pf : ∀ q, Pf q = (s.testBit q && inS ((σ 7 q - x) * (σ 7 q - x - (σ 7 b - x)) + (σ 8 q - y) * (σ 8 q - y - (σ 8 b - y))) ((σ 7 b - x) * (σ 8 q - y) - (σ 8 b - y) * (σ 7 q - x)) ((σ 7 b - x) * (σ 7 b - x) + (σ 8 b - y) * (σ 8 b - y)) (4 * R * R - ((σ 7 b - x) * (σ 7 b - x) + (σ 8 b - y) * (σ 8 b - y)))) := fun q => by
      rw [← hPl]
      unfold hbP
      rw [decide_eq_true hrim, Bool.true_and, if_neg (by decide)]
    have pt : ∀ q, Pt q = (s.testBit q && inS ((σ 7 q - x) * (σ 7 q - x - (σ 7 b - x)) + (σ 8 q - y) * (σ 8 q - y - (σ 8 b - y))) (-((σ 7 b - x) * (σ 8 q - y) - (σ 8 b - y) * (σ 7 q - x))) ((σ 7 b - x) * (σ 7 b - x) + (σ 8 b - y) * (σ 8 b - y)) (4 * R * R - ((σ 7 b - x) * (σ 7 b - x) + (σ 8 b - y) * (σ 8 b - y)))) := fun q => by
      rw [← hPr]
      unfold hbP
      rw [decide_eq_true hrim, Bool.true_and, if_pos rfl]
    clear hPl hPr
    generalize hD : (σ 7 b - x) * (σ 7 b - x) + (σ 8 b - y) * (σ 8 b - y) = D at *
    refine loop_at (St := Sg) (F := fun n i z => f_X2_holdBoth_b76 d n x y s (σ 7 b - x) (σ 8 b - y) D (4 * R * R - D) i z) 24 (fun i z => z = up (up σ (27 + d) 3 ((mks Pf i : Nat) : Int)) (27 + d) 4 ((mks Pt i : Nat) : Int)) (by decide) ?_ ?_ 0 (by decide) _ rfl
    · intro n i z hi hz
      right
      refine ⟨_, rfl, ?_⟩
      subst hz
      show f_X2_holdBoth_b76 d (n + 1) x y s (σ 7 b - x) (σ 8 b - y) D (4 * R * R - D) (i : Int) _ = f_X2_holdBoth_b76 d n x y s (σ 7 b - x) (σ 8 b - y) D (4 * R * R - D) ((i : Int) + 1) _
      rw [f_X2_holdBoth_b76, w32_n (by omega), if_pos (by omega), w32_eq (z := D) ⟨by omega, by omega⟩, if_neg (by omega), w32_eq (z := 4 * R * R - D) ⟨by omega, by omega⟩, if_neg (by omega), contains_n (by omega) (by omega), Option.bind_some]
      have pfi := pf i
      have pti := pt i
      cases hbit : s.testBit i with
      | false =>
        rw [b01_f rfl]
        rw [hbit, Bool.false_and] at pfi pti
        rw [mks_f pfi, mks_f pti]
        rfl
      | true =>
        rw [hbit, Bool.true_and] at pfi pti
        have Pq := Ps i hi hbit
        unfold Pl at Pq
        have hqx := Pq.1
        have hqy := Pq.2
        rw [b01_t rfl, ck_t (by omega), ck_t (by omega), ntn, r7, r8, sides_n ⟨by omega, by omega⟩ ⟨by omega, by omega⟩ ⟨by omega, by omega⟩ ⟨by omega, by omega⟩ ⟨by omega, by omega⟩ ⟨by omega, by omega⟩ ⟨by omega, by omega⟩ ⟨by omega, by omega⟩, Option.bind_some, ← pfi, ← pti, sdv_1, r3]
        have go : ∀ w : Int, ((u32 ((mks Pf i : Nat) : Int) ||| u32 w : Nat) : Int) = ((mks Pf (i + 1) : Nat) : Int) → f_X2_holdBoth_b160 d (f_X2_holdBoth_b76 d n) x y (s : Int) (σ 7 b - x) (σ 8 b - y) D (4 * R * R - D) (i : Int) (sdv (Pf i) (Pt i)) w ((mks Pf i : Nat) : Int) (up (up σ (27 + d) 3 ((mks Pf i : Nat) : Int)) (27 + d) 4 ((mks Pt i : Nat) : Int)) = f_X2_holdBoth_b76 d n x y (s : Int) (σ 7 b - x) (σ 8 b - y) D (4 * R * R - D) ((i : Int) + 1) (up (up σ (27 + d) 3 ((mks Pf (i + 1) : Nat) : Int)) (27 + d) 4 ((mks Pt (i + 1) : Nat) : Int)) := by
          intro w hw
          unfold f_X2_holdBoth_b160 f_X2_holdBoth_b184 f_X2_holdBoth_b188 wr
          dsimp only
          rw [sdv_2, hw, r4]
          cases hr : Pt i with
          | false =>
            rw [b02_f rfl, mks_z (by omega) hr, up34]
          | true =>
            rw [b02_t rfl, mks_t (by omega) hr, up34]
        cases hl : Pf i with
        | false =>
          rw [b01_f rfl]
          have g := go 0 (mks_z (by omega) hl)
          rw [hl] at g
          exact g
        | true =>
          rw [b01_t rfl]
          have g := go _ (mks_t (by omega) hl)
          rw [hl] at g
          exact g
    · intro n z hz
      subst hz
      show f_X2_holdBoth_b76 d (n + 1) x y s (σ 7 b - x) (σ 8 b - y) D (4 * R * R - D) ((24 : Nat) : Int) _ = _
      rw [f_X2_holdBoth_b76, w32_n (by decide), if_neg (by decide)]
  · have z0 : mks Pf 24 = 0 := mks_ff fun i _ => by
      rw [← hPl]
      unfold hbP
      rw [decide_eq_false hrim, Bool.false_and, Bool.and_false]
    have z1 : mks Pt 24 = 0 := mks_ff fun i _ => by
      rw [← hPr]
      unfold hbP
      rw [decide_eq_false hrim, Bool.false_and, Bool.and_false]
    rw [z0, z1]
    generalize hD : (σ 7 b - x) * (σ 7 b - x) + (σ 8 b - y) * (σ 8 b - y) = D at *
    obtain ⟨n, hn⟩ : ∃ n, FUEL = n + 1 := ⟨999999, rfl⟩
    rw [hn, f_X2_holdBoth_b76, w32_0, if_pos (by decide), w32_eq (z := D) ⟨by omega, by omega⟩, w32_eq (z := 4 * R * R - D) ⟨by omega, by omega⟩]
    by_cases h0 : D ≤ 0
    · rw [if_pos h0]
      rfl
    · rw [if_neg h0, if_pos (by omega)]
      rfl
