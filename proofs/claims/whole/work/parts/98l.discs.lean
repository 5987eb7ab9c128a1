/-! ===== pure level: the reference's list of discs ===== -/
def Dsr (σ σ' : Sg) : Prop := ∀ k j, k ≠ 59 → ¬ (k = 41 ∧ ((35 ≤ j ∧ j ≤ 37) ∨ j = 40)) → σ' k j = σ k j
theorem Dsr.rf {σ : Sg} : Dsr σ σ := fun _ _ _ _ => rfl
theorem Dsr.tr {σ τ υ : Sg} (h : Dsr σ τ) (k : Dsr τ υ) : Dsr σ υ := fun a b c d => (k a b c d).trans (h a b c d)
theorem Dsr.row {σ τ : Sg} (h : Dsr σ τ) {k : Nat} (h1 : k ≠ 59) (h2 : k ≠ 41) : τ k = σ k := by
  funext j
  exact h k j h1 fun q => h2 q.1
theorem Dsr.ss {σ τ : Sg} (h : Dsr σ τ) : SS σ τ := fun k j hk => h k j (fun q => hk (by unfold Scm; omega)) (fun q => hk (by unfold Scm; omega))
theorem Dsr.scr {σ τ : Sg} (h : Scr σ τ) : Dsr σ τ := fun k j _ h2 => h k j (fun q => h2 ⟨q.1, Or.inl q.2⟩)
def DL (σ : Sg) (C : Nat → Prop) (B : Nat) : Prop := ∃ D : Nat, σ 41 40 = (D : Int) ∧ D ≤ B ∧ (∀ k, k < D → ∃ c : Nat, σ 59 k = (c : Int) ∧ C c ∧ c < 16777216) ∧ ∀ c, C c → ∃ k, k < D ∧ σ 59 k = (c : Int)
theorem DL.cg {σ τ : Sg} {C E : Nat → Prop} {A B : Nat} (h : DL σ C A) (e1 : τ 41 40 = σ 41 40) (e2 : τ 59 = σ 59) (hAB : A ≤ B) (hE : ∀ c, C c ↔ E c) : DL τ E B := by
  obtain ⟨D, d1, d2, d3, d4⟩ := h
  refine ⟨D, e1.trans d1, by omega, fun k hk => ?_, fun c hc => ?_⟩
  · obtain ⟨c, q1, q2, q3⟩ := d3 k hk
    exact ⟨c, by rw [e2]; exact q1, (hE c).mp q2, q3⟩
  · obtain ⟨k, q1, q2⟩ := d4 c ((hE c).mpr hc)
    exact ⟨k, q1, by rw [e2]; exact q2⟩
theorem adds_n {σ : Sg} {C : Nat → Prop} {B c : Nat} (h : DL σ C B) (hB : B < 600) (hc : c < 16777216) : ∃ σ', f_X10_adds (c : Int) σ = some σ' ∧ Dsr σ σ' ∧ DL σ' (fun x => C x ∨ x = c) (B + 1) := by
  obtain ⟨D, d1, d2, d3, d4⟩ := h
  unfold f_X10_adds
  refine loop_P (F := fun n i (_ : Unit) => f_X10_adds_b2 n (c : Int) i σ) D (fun i _ => ∀ k, k < i → σ 59 k ≠ (c : Int)) (P := fun x => ∃ σ', x = some σ' ∧ Dsr σ σ' ∧ DL σ' (fun x => C x ∨ x = c) (B + 1)) (by omega) ?_ ?_ 0 (by omega) () (fun k hk => by omega)
  · intro n i _ hi hI
    obtain ⟨e, q1, q2, q3⟩ := d3 i hi
    rw [f_X10_adds_b2, d1, w32_n (by omega), w32_n (by omega), if_pos (show (i : Int) < (D : Int) by omega), ck_t (by omega), ntn, q1, w32_n (by omega), w32_n (by omega)]
    by_cases c1 : e = c
    · left
      rw [if_pos (by omega)]
      refine ⟨σ, rfl, Dsr.rf, D, d1, by omega, fun k hk => ?_, fun x hx => ?_⟩
      · obtain ⟨y, y1, y2, y3⟩ := d3 k hk
        exact ⟨y, y1, Or.inl y2, y3⟩
      · rcases hx with hx | hx
        · exact d4 x hx
        · exact ⟨i, hi, by rw [q1, c1, hx]⟩
    · right
      rw [if_neg (by omega)]
      refine ⟨(), fun k hk => ?_, rfl⟩
      rcases Nat.lt_succ_iff_lt_or_eq.1 hk with r | r
      · exact hI k r
      · rw [r, q1]
        omega
  · intro n _ hI
    rw [f_X10_adds_b2, d1, w32_n (by omega), if_neg (show ¬ (D : Int) < (D : Int) by omega)]
    unfold f_X10_adds_b27 wr
    dsimp only
    rw [d1, ck_t (by omega), ntn]
    refine ⟨_, rfl, fun k j h1 h2 => ?_, D + 1, ?_, by omega, fun k hk => ?_, fun x hx => ?_⟩
    · by_cases k41 : k = 41
      · subst k41
        rw [up_j (fun e => h2 ⟨rfl, Or.inr e⟩), up_k (by decide)]
      · rw [up_k k41, up_k h1]
    · rw [up_s, up_k (by decide), d1]
      rfl
    · rw [up_k (by decide)]
      by_cases kD : k = D
      · subst kD
        rw [up_s]
        exact ⟨c, rfl, Or.inr rfl, hc⟩
      · rw [up_j kD]
        obtain ⟨y, y1, y2, y3⟩ := d3 k (by omega)
        exact ⟨y, y1, Or.inl y2, y3⟩
    · rcases hx with hx | hx
      · obtain ⟨k, k1, k2⟩ := d4 x hx
        refine ⟨k, by omega, ?_⟩
        rw [up_k (by decide), up_j (by omega)]
        exact k2
      · refine ⟨D, by omega, ?_⟩
        rw [up_k (by decide), up_s, hx]
def bdB : Nat → Nat
  | 0 => 0
  | i + 1 => bdB i + (47 - 2 * i)
theorem bdB_le : ∀ i, i < 25 → bdB i ≤ 576 := by decide
