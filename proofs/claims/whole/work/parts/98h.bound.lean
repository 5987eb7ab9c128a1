/-! ===== pure level: bound ===== -/
theorem mmin_i {a b : Int} (ha : InR a) (hb : InR b) : mminI a b = if b < a then b else a := by
  unfold mminI
  rw [w32_eq ha, w32_eq hb]
theorem mmax_i {a b : Int} (ha : InR a) (hb : InR b) : mmaxI a b = if a < b then b else a := by
  unfold mmaxI
  rw [w32_eq ha, w32_eq hb]
/-- what is asked of the disc that two bound -/
def bdA (what p q s : Int) : Int := if what = 0 then p else if what = 1 then (if p = q then -2 else q) else s
def bdW (w : Int) (p q s : Int) : Prop := (s = 0 ∧ p ≤ q ∧ w = p * 24 + q) ∨ (s = 1 ∧ p < q ∧ w = q * 24 + p)
theorem bdA_n {what w p q s : Int} (hp : 0 ≤ p ∧ p < 24) (hq : 0 ≤ q ∧ q < 24) (ha : InR what) (h : bdW w p q s) :
    (ck (¬ w32 24 = 0) <| ck (¬ w32 24 = 0) <| if w32 what = 0 then some (mminI ((w32 w).tdiv (w32 24)) ((w32 w).tmod (w32 24))) else if w32 what = 1 then if w32 ((w32 w).tdiv (w32 24)) = w32 ((w32 w).tmod (w32 24)) then some (-2) else some (mmaxI ((w32 w).tdiv (w32 24)) ((w32 w).tmod (w32 24))) else if w32 ((w32 w).tdiv (w32 24)) ≤ w32 ((w32 w).tmod (w32 24)) then some 0 else some 1) = some (bdA what p q s) := by
  have hw : 0 ≤ w ∧ w < 576 := by
    rcases h with ⟨-, -, h⟩ | ⟨-, -, h⟩ <;> omega
  rw [ck_t (by decide), ck_t (by decide), w32_eq (z := w) ⟨by omega, by omega⟩, show w32 24 = 24 by decide, Int.tdiv_eq_ediv_of_nonneg hw.1, Int.tmod_eq_emod_of_nonneg hw.1, w32_eq ha, w32_eq (z := w / 24) ⟨by omega, by omega⟩, w32_eq (z := w % 24) ⟨by omega, by omega⟩, mmin_i ⟨by omega, by omega⟩ ⟨by omega, by omega⟩, mmax_i ⟨by omega, by omega⟩ ⟨by omega, by omega⟩]
  unfold bdA
  rcases h with ⟨h1, h2, h3⟩ | ⟨h1, h2, h3⟩
  · have e1 : w / 24 = p := by omega
    have e2 : w % 24 = q := by omega
    rw [e1, e2]
    by_cases c1 : what = 0
    · rw [if_pos c1, if_pos c1, if_neg (show ¬ q < p by omega)]
    · rw [if_neg c1, if_neg c1]
      by_cases c2 : what = 1
      · rw [if_pos c2, if_pos c2]
        by_cases c3 : p = q
        · rw [if_pos c3, if_pos c3]
        · rw [if_neg c3, if_neg c3, if_pos (show p < q by omega)]
      · rw [if_neg c2, if_neg c2, if_pos h2, h1]
  · have e1 : w / 24 = q := by omega
    have e2 : w % 24 = p := by omega
    rw [e1, e2]
    by_cases c1 : what = 0
    · rw [if_pos c1, if_pos c1, if_pos h2]
    · rw [if_neg c1, if_neg c1]
      by_cases c2 : what = 1
      · rw [if_pos c2, if_pos c2, if_neg (show ¬ q = p by omega), if_neg (show ¬ p = q by omega), if_neg (show ¬ q < p by omega)]
      · rw [if_neg c2, if_neg c2, if_neg (show ¬ q ≤ p by omega), h1]
theorem bound_p {z ζ : Sg} {d M o F : Nat} {R what : Int} (hd : d < 7) (hB : RelB z ζ F) (hD : DI z d R M) (hM : M < 16777216) (hMF : ∀ q, M.testBit q = true → F.testBit q = true) (hR : 1 ≤ R ∧ R ≤ 300) (ha : InR what) (hC : Cnd (ζ 45) (ζ 46) R M 25 o) (hoM : ∀ q, o.testBit q = true → M.testBit q = true) (h0 : o ≠ 0) :
    ∃ w p q s ζ', f_X2_bounding d (o : Int) z = some w ∧ f_X10_boundOf (M : Int) (o : Int) R what ζ = some (bdA what p q s, ζ') ∧ Scr ζ ζ' ∧ (0 ≤ p ∧ p < 24) ∧ (0 ≤ q ∧ q < 24) ∧ bdW w p q s := by
  have hol := sub_24 hM hoM
  have eq1 : ∀ p, p < 24 → z 7 p = ζ 45 p ∧ z 8 p = ζ 46 p := fun p hp => by
    obtain ⟨-, ⟨b1, b2, -⟩, -⟩ := hB.1.2.2 p hp
    exact ⟨b1, b2⟩
  have hMr := MRow.of hB
  have hD2 : ∀ a b, a < 24 → b < 24 → z (34 + d) (a * 24 + b) = ((mks (esS (ζ 45) (ζ 46) R M a b) 24 : Nat) : Int) := fun a b ha hb => by
    rw [hD.2.2 a b ha hb]
    have : mks (esS (z 7) (z 8) R M a b) 24 = mks (esS (ζ 45) (ζ 46) R M a b) 24 := mks_congr fun q hq => by
      unfold esS rimD inD dotp crs d2
      rw [(eq1 a ha).1, (eq1 a ha).2, (eq1 b hb).1, (eq1 b hb).2, (eq1 q hq).1, (eq1 q hq).2]
    rw [this]
  sorry
