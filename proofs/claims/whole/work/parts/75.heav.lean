/-! ===== pure level: the heaviest of some, as the class's sets tell it ===== -/
theorem sumb_0 {S : Nat → Int} : ∀ n, sumb S 0 n = 0
  | 0 => rfl
  | n + 1 => by rw [sumb, sumb_0 n, Nat.zero_testBit]; rfl
theorem ex_bit {o : Nat} (h : o ≠ 0) : ∃ q, o.testBit q = true := Classical.byContradiction fun hn => h (bits_ext fun i => by
  rw [Nat.zero_testBit]
  cases hb : o.testBit i with
  | false => rfl
  | true => exact absurd ⟨i, hb⟩ hn)
theorem sumb_pos {S : Nat → Int} {o : Nat} (ho : o < 16777216) (h : o ≠ 0) (hS : ∀ q, o.testBit q = true → 0 < S q) : 0 < sumb S o 24 := by
  obtain ⟨q, hq⟩ := ex_bit h
  have h1 := sumb_lt (S := S) (s := 0) (t := o) (k := q) (n := 24) (fun i _ hi => by rw [Nat.zero_testBit] at hi; cases hi) (fun i _ hi => hS i hi) (bit_lt ho hq) hq (Nat.zero_testBit _)
  rw [sumb_0] at h1
  exact h1
def esN (X Y : Nat → Int) (R : Int) (M j : Nat) : Nat := mks (esS X Y R M (j / 24) (j % 24)) 24
theorem esN_24 (X Y : Nat → Int) (R : Int) (M j : Nat) : esN X Y R M j < 16777216 := mks_24 _
theorem esN_M {X Y : Nat → Int} {R : Int} {M j q : Nat} (h : (esN X Y R M j).testBit q = true) : M.testBit q = true := by
  unfold esN at h
  rw [tb_mks] at h
  unfold esS at h
  simp at h
  exact h.2.1.2
def HvI (S : Nat → Int) (e : Nat → Nat) (i o : Nat) : Prop := (o = 0 ∧ ∀ j, j < i → e j = 0) ∨ (o ≠ 0 ∧ (∃ j, j < i ∧ o = e j) ∧ ∀ j, j < i → e j ≠ 0 → sumb S (e j) 24 < sumb S o 24 ∨ (sumb S (e j) 24 = sumb S o 24 ∧ o ≤ e j))
theorem heav_n {σ : Sg} {d s M : Nat} {R : Int} (hd : d < 7) (hs : s < 16777216) (hM : M < 16777216) (h : DI σ d R M) (hg : Grp σ (σ 9)) (hS : ∀ q, M.testBit q = true → 1 ≤ σ 9 q ∧ σ 9 q ≤ 99999) :
    ∃ o : Nat, f_X2_heaviestAmong d (s : Int) σ = some (o : Int) ∧ o < 16777216 ∧ HvI (σ 9) (fun j => esN (σ 7) (σ 8) R M j &&& s) 576 o := by
  obtain ⟨h2, h5, hE⟩ := h
  unfold f_X2_heaviestAmong
  rw [ck_t hd]
  have el : ∀ j, esN (σ 7) (σ 8) R M j &&& s < 16777216 := fun j => Nat.lt_of_le_of_lt Nat.and_le_left (mks_24 _)
  have ep : ∀ j q, (esN (σ 7) (σ 8) R M j &&& s).testBit q = true → 1 ≤ σ 9 q ∧ σ 9 q ≤ 99999 := fun j q hq => by
    rw [Nat.testBit_and, Bool.and_eq_true] at hq
    exact hS q (esN_M hq.1)
  have bnd : ∀ j, 0 ≤ sumb (σ 9) (esN (σ 7) (σ 8) R M j &&& s) 24 ∧ sumb (σ 9) (esN (σ 7) (σ 8) R M j &&& s) 24 ≤ 24 * 99999 := fun j => sumb_bound (by decide) (fun q _ hq => by have := ep j q hq; omega)
  generalize he : (fun j => esN (σ 7) (σ 8) R M j &&& s) = e
  have el : ∀ j, e j < 16777216 := fun j => by rw [← he]; exact el j
  have ep : ∀ j q, (e j).testBit q = true → 1 ≤ σ 9 q ∧ σ 9 q ≤ 99999 := fun j q hq => by rw [← he] at hq; exact ep j q hq
  have bnd : ∀ j, 0 ≤ sumb (σ 9) (e j) 24 ∧ sumb (σ 9) (e j) 24 ≤ 24 * 99999 := fun j => by rw [← he]; exact bnd j
  obtain ⟨z, n, ⟨o, z1, ol, z2, hI⟩, hx⟩ := loop_ex (F := fun n i (z : Int × Int) => f_X2_heaviestAmong_b7 d σ n (s : Int) z.1 z.2 i) 576 (fun i z => ∃ o : Nat, z.1 = (o : Int) ∧ o < 16777216 ∧ z.2 = sumb (σ 9) o 24 ∧ HvI (σ 9) e i o) (fun n i z hi hI => by
    obtain ⟨o, z1, ol, z2, hI⟩ := hI
    show ∃ s' : Int × Int, _ ∧ f_X2_heaviestAmong_b7 d σ (n + 1) (s : Int) z.1 z.2 (i : Int) = f_X2_heaviestAmong_b7 d σ n (s : Int) s'.1 s'.2 ((i : Int) + 1)
    have hv : σ (34 + d) i = ((esN (σ 7) (σ 8) R M i : Nat) : Int) := by
      have := hE (i / 24) (i % 24) (by omega) (by omega)
      rw [show i / 24 * 24 + i % 24 = i by omega] at this
      exact this
    have hei : esN (σ 7) (σ 8) R M i &&& s = e i := by rw [← he]
    have b := bnd i
    have li := el i
    have bo : 0 ≤ sumb (σ 9) o 24 ∧ sumb (σ 9) o 24 ≤ 24 * 99999 := by
      rcases hI with ⟨h0, -⟩ | ⟨-, ⟨j, -, hj⟩, -⟩
      · rw [h0, sumb_0]
        omega
      · rw [hj]
        exact bnd j
    rw [f_X2_heaviestAmong_b7, w32_n (by omega), if_pos (by omega), ck_t (by omega), ntn, hv, and_n (Nat.lt_trans (esN_24 _ _ _ _ _) (by decide)) (by omega), hei, w32_n (n := e i) (by omega), sums_n hg li, Option.bind_some, z1, z2, w32_eq (z := sumb (σ 9) (e i) 24) ⟨by omega, by omega⟩, w32_eq (z := sumb (σ 9) o 24) ⟨by omega, by omega⟩, w32_n (n := o) (by omega)]
    have keep : (e i = 0 ∨ (sumb (σ 9) (e i) 24 < sumb (σ 9) o 24 ∨ (sumb (σ 9) (e i) 24 = sumb (σ 9) o 24 ∧ o ≤ e i))) → HvI (σ 9) e (i + 1) o := by
      intro hk
      rcases hI with ⟨h0, h1⟩ | ⟨h0, ⟨j, hj, ho⟩, h1⟩
      · by_cases hz : e i = 0
        · left
          refine ⟨h0, fun j hj => ?_⟩
          by_cases hji : j = i
          · rw [hji]
            exact hz
          · exact h1 j (by omega)
        · exfalso
          have p := sumb_pos (S := σ 9) li hz (fun q hq => by have := ep i q hq; omega)
          rw [h0, sumb_0] at hk
          omega
      · right
        refine ⟨h0, ⟨j, by omega, ho⟩, fun k hk2 hk3 => ?_⟩
        by_cases hki : k = i
        · subst hki
          exact hk.resolve_left hk3
        · exact h1 k (by omega) hk3
    have take : e i ≠ 0 → ¬ (sumb (σ 9) (e i) 24 < sumb (σ 9) o 24 ∨ (sumb (σ 9) (e i) 24 = sumb (σ 9) o 24 ∧ o ≤ e i)) → HvI (σ 9) e (i + 1) (e i) := by
      intro hz hk
      right
      refine ⟨hz, ⟨i, by omega, rfl⟩, fun k hk2 hk3 => ?_⟩
      by_cases hki : k = i
      · subst hki
        exact Or.inr ⟨rfl, Nat.le_refl _⟩
      · rcases hI with ⟨h0, h1⟩ | ⟨h0, ⟨j, hj, ho⟩, h1⟩
        · exact absurd (h1 k (by omega)) hk3
        · have := h1 k (by omega) hk3
          omega
    by_cases hz : e i = 0
    · rw [if_pos (by omega)]
      exact ⟨(o, sumb (σ 9) o 24), ⟨o, rfl, ol, rfl, keep (Or.inl hz)⟩, rfl⟩
    · rw [if_neg (by omega)]
      by_cases h1 : sumb (σ 9) (e i) 24 ≤ sumb (σ 9) o 24
      · rw [if_pos h1]
        by_cases h2 : sumb (σ 9) (e i) 24 = sumb (σ 9) o 24
        · rw [if_pos h2]
          by_cases h3 : ((e i : Nat) : Int) < (o : Int)
          · rw [if_pos h3]
            exact ⟨((e i : Nat), sumb (σ 9) (e i) 24), ⟨e i, rfl, li, rfl, take hz (by omega)⟩, rfl⟩
          · rw [if_neg h3]
            exact ⟨(o, sumb (σ 9) o 24), ⟨o, rfl, ol, rfl, keep (Or.inr (by omega))⟩, rfl⟩
        · rw [if_neg h2]
          exact ⟨(o, sumb (σ 9) o 24), ⟨o, rfl, ol, rfl, keep (Or.inr (by omega))⟩, rfl⟩
      · rw [if_neg h1]
        exact ⟨((e i : Nat), sumb (σ 9) (e i) 24), ⟨e i, rfl, li, rfl, take hz (by omega)⟩, rfl⟩) 576 0 (0, 0) FUEL (by omega) ⟨0, rfl, by decide, (sumb_0 24).symm, Or.inl ⟨rfl, fun j hj => absurd hj (Nat.not_lt_zero _)⟩⟩ (fuel_lt (by omega))
  refine ⟨o, ?_, ol, hI⟩
  have hx : f_X2_heaviestAmong_b7 d σ FUEL (s : Int) 0 0 0 = f_X2_heaviestAmong_b7 d σ (n + 1) (s : Int) z.1 z.2 ((576 : Nat) : Int) := hx
  rw [hx, f_X2_heaviestAmong_b7, w32_n (by decide), if_neg (by decide), z1]
