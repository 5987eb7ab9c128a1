/-! ===== pure level: the reference's treaties ===== -/
/-- the policies in force of some perils -/
def prS (M P : Nat → Int) (T : Nat) : Nat := mks (fun p => decide (M p = 1) && T.testBit (P p).toNat) 24
def MRow (σ : Sg) : Prop := ∀ p, p < 24 → (σ 49 p = 0 ∨ σ 49 p = 1) ∧ (0 ≤ σ 48 p ∧ σ 48 p ≤ 3) ∧ Pl (σ 45) (σ 46) p ∧ 0 ≤ σ 47 p ∧ σ 47 p ≤ 99999
theorem MRow.scr {σ σ' : Sg} (h : MRow σ) (c : Scr σ σ') : MRow σ' := by
  unfold MRow
  rw [c.row (by decide : 45 ≠ 41), c.row (by decide : 46 ≠ 41), c.row (by decide : 47 ≠ 41), c.row (by decide : 48 ≠ 41), c.row (by decide : 49 ≠ 41)]
  exact h
theorem ofPerils_n {σ : Sg} {T : Nat} (hT : T < 16) (h : MRow σ) : f_X10_ofPerils (T : Int) σ = some ((prS (σ 49) (σ 48) T : Nat) : Int) := by
  unfold f_X10_ofPerils
  generalize hP : (fun p => decide (σ 49 p = 1) && T.testBit (σ 48 p).toNat) = P
  have hA : prS (σ 49) (σ 48) T = mks P 24 := by rw [← hP]; rfl
  rw [hA]
  refine loop_at (St := Int) (F := fun n i v => f_X10_ofPerils_b4 σ n T v i) 24 (fun i v => v = ((mks P i : Nat) : Int)) (by decide) ?_ ?_ 0 (by decide) 0 rfl
  · intro n i v hi hv
    right
    refine ⟨_, rfl, ?_⟩
    subst hv
    show f_X10_ofPerils_b4 σ (n + 1) T ((mks P i : Nat) : Int) (i : Int) = f_X10_ofPerils_b4 σ n T ((mks P (i + 1) : Nat) : Int) ((i : Int) + 1)
    obtain ⟨h49, h48, _⟩ := h i hi
    have hPi : P i = (decide (σ 49 i = 1) && T.testBit (σ 48 i).toNat) := by rw [← hP]
    rw [f_X10_ofPerils_b4, w32_n (by omega), if_pos (by omega), ck_t (by omega), ntn]
    rcases h49 with e | e
    · rw [e, w32_0, if_pos rfl]
      have hPf : P i = false := by rw [hPi, e]; rfl
      rw [mks_f hPf]
      rfl
    · rw [e, w32_1, if_neg (by decide), ck_t (by omega)]
      obtain ⟨k, hk⟩ : ∃ k : Nat, σ 48 i = (k : Int) := ⟨(σ 48 i).toNat, by omega⟩
      rw [hk] at h48 hPi ⊢
      rw [ntn, e, show decide ((1 : Int) = 1) = true from rfl, Bool.true_and] at hPi
      rw [has_n (by omega) (by omega), Option.bind_some]
      cases hb : T.testBit k with
      | false =>
        rw [b01_f rfl]
        rw [hb] at hPi
        rw [mks_f hPi]
        rfl
      | true =>
        rw [b01_t rfl]
        rw [hb] at hPi
        rw [mks_t (by omega) hPi]
        rfl
  · intro n v hv
    subst hv
    show f_X10_ofPerils_b4 σ (n + 1) T _ ((24 : Nat) : Int) = _
    rw [f_X10_ofPerils_b4, w32_n (by decide), if_neg (by decide)]
theorem prS_ok {σ : Sg} {T : Nat} (h : MRow σ) : WOk σ (prS (σ 49) (σ 48) T) := by
  refine ⟨Nat.lt_trans (mks_24 _) (by decide), fun q _ hb => ?_⟩
  have hq : q < 24 := bit_lt (mks_24 _) hb
  exact (h q hq).2.2
theorem BestOf.un {C : Int → Nat → Prop} {a b a' b' : Int} (h : BestOf C a b) (h' : BestOf C a' b') : a = a' ∧ b = b' := by
  rcases h with ⟨h1, h2, h3⟩ | ⟨o, h1, h2, h3⟩ <;> rcases h' with ⟨k1, k2, k3⟩ | ⟨o', k1, k2, k3⟩
  · omega
  · exact absurd k2 (h1 _ _)
  · exact absurd h2 (k1 _ _)
  · have x := h3 _ _ k2
    have y := k3 _ _ h2
    omega
noncomputable def bestV (C : Int → Nat → Prop) : Int × Int := Classical.epsilon (fun z : Int × Int => BestOf C z.1 z.2)
theorem BestOf.v {C : Int → Nat → Prop} {a b : Int} (h : BestOf C a b) : a = (bestV C).1 ∧ b = (bestV C).2 :=
  h.un (Classical.epsilon_spec (p := fun z : Int × Int => BestOf C z.1 z.2) ⟨(a, b), h⟩)
/-- the heaviest of a set by a radius: (sums, own) -/
noncomputable def hvS (X Y S : Nat → Int) (R : Int) (must : Option Nat) (t : Nat) : Int × Int := if t = 0 then (0, 0) else bestV (Ofd S must (Cnd X Y R t 25))
theorem weighs_v {σ : Sg} {s : Nat} {R : Int} {must : Option Nat} (hs : s < 33554432) (h : WOk σ (mset s must)) (hR : 0 ≤ R ∧ R ≤ 300) (hm : ∀ m, must = some m → m < 25) :
    ∃ σ', f_X10_weighs (s : Int) R (mustI must) σ = some σ' ∧ Scr σ σ' ∧ σ' 41 36 = (hvS (σ 45) (σ 46) (σ 47) R must (mset s must)).1 ∧ σ' 41 37 = (hvS (σ 45) (σ 46) (σ 47) R must (mset s must)).2 ∧ InR (σ' 41 36) ∧ InR (σ' 41 37) := by
  obtain ⟨σ', e, c, z, nz⟩ := weighs_n hs h hR hm
  refine ⟨σ', e, c, ?_⟩
  unfold hvS
  by_cases ht : mset s must = 0
  · rw [if_pos ht]
    obtain ⟨z1, z2⟩ := z ht
    rw [z1, z2]
    exact ⟨rfl, rfl, by decide, by decide⟩
  · rw [if_neg ht]
    obtain ⟨n1, n2, n3⟩ := nz ht
    obtain ⟨v1, v2⟩ := n1.v
    exact ⟨v1, v2, by omega, by omega⟩
/-- the worst place of the reference's treaty -/
noncomputable def wsM (σ : Sg) (t : Nat) : Int × Int := hvS (σ 45) (σ 46) (σ 47) (σ 51 t) none (prS (σ 49) (σ 48) (σ 50 t).toNat)
def MTr (σ : Sg) (t : Nat) : Prop := (1 ≤ σ 50 t ∧ σ 50 t ≤ 15) ∧ (1 ≤ σ 51 t ∧ σ 51 t ≤ 300) ∧ (1 ≤ σ 52 t ∧ σ 52 t ≤ 9999999)
theorem worstOf_n {σ : Sg} {t : Nat} (ht : t < 6) (h : MRow σ) (hr : MTr σ t) :
    ∃ σ', f_X10_worstOf (t : Int) σ = some ((wsM σ t).1, σ') ∧ Scr σ σ' ∧ σ' 41 36 = (wsM σ t).1 ∧ σ' 41 37 = (wsM σ t).2 ∧ InR (wsM σ t).1 ∧ InR (wsM σ t).2 := by
  obtain ⟨k, hk⟩ : ∃ k : Nat, σ 50 t = (k : Int) := ⟨(σ 50 t).toNat, by have := hr.1; omega⟩
  have hkl : k < 16 := by have := hr.1; omega
  have hw : wsM σ t = hvS (σ 45) (σ 46) (σ 47) (σ 51 t) none (prS (σ 49) (σ 48) k) := by unfold wsM; rw [hk, ntn]
  obtain ⟨σ', e, c, a1, a2, b1, b2⟩ := weighs_v (σ := σ) (s := prS (σ 49) (σ 48) k) (R := σ 51 t) (must := none) (Nat.lt_trans (mks_24 _) (by decide)) (prS_ok h) (by have := hr.2.1; omega) (fun m q => nomatch q)
  refine ⟨σ', ?_, c, ?_⟩
  · unfold f_X10_worstOf f_X10_ofTreaty
    rw [ck_t (by omega), ntn, hk, ofPerils_n hkl h, Option.bind_some, Option.bind_some, ck_t (by omega)]
    have e' : f_X10_weighs ((prS (σ 49) (σ 48) k : Nat) : Int) (σ 51 t) (-1) σ = some σ' := e
    rw [e', Option.bind_some, a1, hw]
    rfl
  · rw [hw]
    rw [a1] at b1
    rw [a2] at b2
    exact ⟨a1, a2, b1, b2⟩
/-- passed: the worst place weighs more than the limit -/
abbrev psM (σ : Sg) (t : Nat) : Prop := σ 52 t < (wsM σ t).1
theorem isPassed_n {σ : Sg} {t : Nat} (ht : t < 6) (h : MRow σ) (hr : MTr σ t) :
    ∃ (v : Int) (σ' : Sg), f_X10_isPassed (t : Int) σ = some (v, σ') ∧ Scr σ σ' ∧ ((psM σ t ∧ v = 1) ∨ (¬ psM σ t ∧ v = 0)) := by
  obtain ⟨σ', e, c, _, _, b1, _⟩ := worstOf_n ht h hr
  have hr3 := hr.2.2
  have e52 : σ' 52 = σ 52 := c.row (by decide)
  unfold psM
  generalize wsM σ t = z at e b1 ⊢
  obtain ⟨z1, z2⟩ := z
  have e2 : f_X10_isPassed (t : Int) σ = if z1 ≤ σ 52 t then some (0, σ') else some (1, σ') := by
    unfold f_X10_isPassed
    rw [e, Option.bind_some, ck_t (by omega), ntn]
    show (if w32 z1 ≤ w32 (σ' 52 t) then _ else _) = _
    rw [e52, w32_eq b1, w32_eq ⟨by omega, by omega⟩]
  rw [e2]
  show ∃ (v : Int) (σ'' : Sg), _ ∧ _ ∧ ((σ 52 t < z1 ∧ v = 1) ∨ (¬ σ 52 t < z1 ∧ v = 0))
  by_cases hp : z1 ≤ σ 52 t
  · rw [if_pos hp]
    exact ⟨0, σ', rfl, c, Or.inr ⟨by omega, rfl⟩⟩
  · rw [if_neg hp]
    exact ⟨1, σ', rfl, c, Or.inl ⟨by omega, rfl⟩⟩
