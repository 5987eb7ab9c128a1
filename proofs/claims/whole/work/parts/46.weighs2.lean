theorem CndA_s {X Y : Nat → Int} {R : Int} {s a q c : Nat} (hq : a < q) : CndA X Y R s a (q + 1) c ↔ CndA X Y R s a q c ∨ (s.testBit q = true ∧ rimOk X Y R a q ∧ ∃ side, c = rmS X Y R s a q side) := by
  unfold CndA
  constructor
  · rintro (h | ⟨b, h1, h2, h3, h4, h5⟩)
    · exact Or.inl (Or.inl h)
    · by_cases hb : b = q
      · subst hb
        exact Or.inr ⟨h3, h4, h5⟩
      · exact Or.inl (Or.inr ⟨b, by omega, h2, h3, h4, h5⟩)
  · rintro ((h | ⟨b, h1, h2, h3, h4, h5⟩) | ⟨h3, h4, h5⟩)
    · exact Or.inl h
    · exact Or.inr ⟨b, by omega, h2, h3, h4, h5⟩
    · exact Or.inr ⟨q, by omega, hq, h3, h4, h5⟩
theorem CndA_0 {X Y : Nat → Int} {R : Int} {s a c : Nat} : CndA X Y R s a (a + 1) c ↔ c = arS X Y R s a := by
  unfold CndA
  constructor
  · rintro (h | ⟨b, h1, h2, -⟩)
    · exact h
    · omega
  · exact Or.inl
theorem Cnd_s {X Y : Nat → Int} {R : Int} {s p c : Nat} : Cnd X Y R s (p + 1) c ↔ Cnd X Y R s p c ∨ (s.testBit p = true ∧ CndA X Y R s p 25 c) := by
  unfold Cnd
  constructor
  · rintro ⟨a, h1, h2, h3⟩
    by_cases ha : a = p
    · subst ha
      exact Or.inr ⟨h2, h3⟩
    · exact Or.inl ⟨a, by omega, h2, h3⟩
  · rintro (⟨a, h1, h2, h3⟩ | ⟨h2, h3⟩)
    · exact ⟨a, by omega, h2, h3⟩
    · exact ⟨p, by omega, h2, h3⟩
theorem Ofd_or {S : Nat → Int} {must : Option Nat} {D D1 D2 : Nat → Prop} (h : ∀ c, D c ↔ D1 c ∨ D2 c) (x : Int) (y : Nat) : Ofd S must D x y ↔ Ofd S must D1 x y ∨ Ofd S must D2 x y := by
  unfold Ofd
  constructor
  · rintro ⟨c, h1, h2⟩
    rcases (h c).mp h1 with q | q
    · exact Or.inl ⟨c, q, h2⟩
    · exact Or.inr ⟨c, q, h2⟩
  · rintro (⟨c, h1, h2⟩ | ⟨c, h1, h2⟩)
    · exact ⟨c, (h c).mpr (Or.inl h1), h2⟩
    · exact ⟨c, (h c).mpr (Or.inr h1), h2⟩
theorem Ofd_iff {S : Nat → Int} {must : Option Nat} {D D1 : Nat → Prop} (h : ∀ c, D c ↔ D1 c) (x : Int) (y : Nat) : Ofd S must D x y ↔ Ofd S must D1 x y := by
  unfold Ofd
  constructor
  · rintro ⟨c, h1, h2⟩
    exact ⟨c, (h c).mp h1, h2⟩
  · rintro ⟨c, h1, h2⟩
    exact ⟨c, (h c).mpr h1, h2⟩
theorem inner_n {σ : Sg} {s p : Nat} {R : Int} {must : Option Nat} {C : Int → Nat → Prop} (k48 : Int → Int → Int → Int → Sg → Option Sg) (h : WOk σ s) (hp : p < 25) (hpb : s.testBit p = true) (hR : 0 ≤ R ∧ R ≤ 300) (hm : ∀ m, must = some m → m < 25) (B : OB (fun x y => C x y ∨ Ofd (σ 47) must (fun c => c = arS (σ 45) (σ 46) R s p) x y) σ) :
    ∃ σ', f_X10_weighs_b88 k48 FUEL R (mustI must) (s : Int) (p : Int) ((p : Int) + 1) σ = k48 R (mustI must) (s : Int) ((p : Int) + 1) σ' ∧ Scr σ σ' ∧ OB (fun x y => C x y ∨ Ofd (σ 47) must (CndA (σ 45) (σ 46) R s p 25) x y) σ' := by
  have key := loop_ex (F := fun n i z => f_X10_weighs_b88 k48 n R (mustI must) (s : Int) (p : Int) i z) 25 (fun i z => p < i ∧ Scr σ z ∧ OB (fun x y => C x y ∨ Ofd (σ 47) must (CndA (σ 45) (σ 46) R s p i) x y) z) (fun n i z hi hI => by
    obtain ⟨hpi, hs, hB⟩ := hI
    have hz := h.scr hs
    have r5 := hs.row (by decide : 45 ≠ 41)
    have r6 := hs.row (by decide : 46 ≠ 41)
    have r7 := hs.row (by decide : 47 ≠ 41)
    show ∃ s', _ ∧ f_X10_weighs_b88 k48 (n + 1) R (mustI must) (s : Int) (p : Int) (i : Int) z = f_X10_weighs_b88 k48 n R (mustI must) (s : Int) (p : Int) ((i : Int) + 1) s'
    have no : (¬ (s.testBit i = true ∧ rimOk (σ 45) (σ 46) R p i)) → OB (fun x y => C x y ∨ Ofd (σ 47) must (CndA (σ 45) (σ 46) R s p (i + 1)) x y) z := fun hn => hB.congr (fun x y => by
      rw [Ofd_iff (fun c => (CndA_s hpi).trans ⟨fun q => q.elim id (fun q => absurd ⟨q.1, q.2.1⟩ hn), Or.inl⟩)])
    rw [f_X10_weighs_b88, w32_n (by omega), if_pos (by omega), has_n (by have := h.1; omega) (by omega), Option.bind_some]
    cases hb : s.testBit i with
    | false =>
      rw [b01_f rfl]
      exact ⟨z, ⟨Nat.lt_succ_of_lt hpi, hs, no (fun q => by rw [hb] at q; cases q.1)⟩, rfl⟩
    | true =>
      rw [b01_t rfl, canBeRim_n hp hi (hz.2 p hp hpb).1 (hz.2 i hi hb).1 hR, Option.bind_some, r5, r6]
      by_cases hok : rimOk (σ 45) (σ 46) R p i
      · rw [b01_t (decide_eq_true (p := 0 < d2 (σ 45) (σ 46) p i ∧ d2 (σ 45) (σ 46) p i ≤ 4 * R * R) hok)]
        obtain ⟨q1, z1, a1, a2, a3, a4⟩ := offerR (side := false) hz hp hpb hi hb hR (by rw [r5, r6]; exact hok) hm hB
        have hz1 := hz.scr a3
        obtain ⟨q2, z2, c1, c2, c3, c4⟩ := offerR (side := true) hz1 hp hpb hi hb hR (by rw [a3.row (by decide : 45 ≠ 41), a3.row (by decide : 46 ≠ 41), r5, r6]; exact hok) hm a4
        have a1 : f_X10_onRim (p : Int) (i : Int) 0 (s : Int) R z = some q1 := a1
        have c1 : f_X10_onRim (p : Int) (i : Int) 1 (s : Int) R z1 = some q2 := c1
        rw [a1, Option.bind_some, a2, Option.bind_some, c1, Option.bind_some, c2, Option.bind_some]
        refine ⟨z2, ⟨Nat.lt_succ_of_lt hpi, hs.tr (a3.tr c3), c4.congr (fun x y => ?_)⟩, rfl⟩
        rw [a3.row (by decide : 45 ≠ 41), a3.row (by decide : 46 ≠ 41), a3.row (by decide : 47 ≠ 41), r5, r6, r7]
        have e := Ofd_or (S := σ 47) (must := must) (D := CndA (σ 45) (σ 46) R s p (i + 1)) (D1 := CndA (σ 45) (σ 46) R s p i) (D2 := fun c => c = rmS (σ 45) (σ 46) R s p i false ∨ c = rmS (σ 45) (σ 46) R s p i true) (fun c => (CndA_s hpi).trans ⟨fun q => q.elim Or.inl (fun ⟨_, _, sd, e⟩ => Or.inr (by cases sd; exact Or.inl e; exact Or.inr e)), fun q => q.elim Or.inl (fun e => Or.inr ⟨hb, hok, e.elim (fun e => ⟨false, e⟩) (fun e => ⟨true, e⟩)⟩)⟩) x y
        have e2 := Ofd_or (S := σ 47) (must := must) (D := fun c => c = rmS (σ 45) (σ 46) R s p i false ∨ c = rmS (σ 45) (σ 46) R s p i true) (D1 := fun c => c = rmS (σ 45) (σ 46) R s p i false) (D2 := fun c => c = rmS (σ 45) (σ 46) R s p i true) (fun c => Iff.rfl) x y
        rw [e, e2]
        constructor
        · rintro (q | q | q | q)
          · exact Or.inl (Or.inl (Or.inl q))
          · exact Or.inl (Or.inl (Or.inr q))
          · exact Or.inl (Or.inr q)
          · exact Or.inr q
        · rintro (((q | q) | q) | q)
          · exact Or.inl q
          · exact Or.inr (Or.inl q)
          · exact Or.inr (Or.inr (Or.inl q))
          · exact Or.inr (Or.inr (Or.inr q))
      · rw [b01_f (decide_eq_false (p := 0 < d2 (σ 45) (σ 46) p i ∧ d2 (σ 45) (σ 46) p i ≤ 4 * R * R) hok)]
        exact ⟨z, ⟨Nat.lt_succ_of_lt hpi, hs, no (fun q => hok q.2)⟩, rfl⟩) (25 - (p + 1)) (p + 1) σ FUEL (by omega) ⟨Nat.lt_succ_self p, Scr.rf, B.congr (fun x y => by rw [Ofd_iff (fun c => CndA_0)])⟩ (fuel_lt (by omega))
  obtain ⟨z, n, hI, he⟩ := key
  obtain ⟨-, hs, hB⟩ := hI
  refine ⟨z, ?_, hs, hB⟩
  rw [ncast_s] at he
  refine he.trans ?_
  show f_X10_weighs_b88 k48 (n + 1) R (mustI must) (s : Int) (p : Int) ((25 : Nat) : Int) z = _
  rw [f_X10_weighs_b88, w32_n (by decide), if_neg (by decide)]
  rfl
theorem outer_n {σ : Sg} {s : Nat} {R : Int} {must : Option Nat} (h : WOk σ s) (hR : 0 ≤ R ∧ R ≤ 300) (hm : ∀ m, must = some m → m < 25) (B : OB (fun _ _ => False) σ) :
    ∃ σ', f_X10_weighs_b48 FUEL R (mustI must) (s : Int) 0 σ = some σ' ∧ Scr σ σ' ∧ OB (Ofd (σ 47) must (Cnd (σ 45) (σ 46) R s 25)) σ' := by
  have key := loop_ex (F := fun n i z => f_X10_weighs_b48 n R (mustI must) (s : Int) i z) 25 (fun i z => Scr σ z ∧ OB (Ofd (σ 47) must (Cnd (σ 45) (σ 46) R s i)) z) (fun n i z hi hI => by
    obtain ⟨hs, hB⟩ := hI
    have hz := h.scr hs
    have r5 := hs.row (by decide : 45 ≠ 41)
    have r6 := hs.row (by decide : 46 ≠ 41)
    have r7 := hs.row (by decide : 47 ≠ 41)
    show ∃ s', _ ∧ f_X10_weighs_b48 (n + 1) R (mustI must) (s : Int) (i : Int) z = f_X10_weighs_b48 n R (mustI must) (s : Int) ((i : Int) + 1) s'
    rw [f_X10_weighs_b48, w32_n (by omega), if_pos (by omega), has_n (by have := h.1; omega) (by omega), Option.bind_some]
    cases hb : s.testBit i with
    | false =>
      rw [b01_f rfl]
      refine ⟨z, ⟨hs, hB.congr (fun x y => ?_)⟩, rfl⟩
      exact Ofd_iff (fun c => Cnd_s.trans ⟨fun q => q.elim id (fun q => by rw [hb] at q; cases q.1), Or.inl⟩) x y
    | true =>
      rw [b01_t rfl]
      obtain ⟨q1, z1, a1, a2, a3, a4⟩ := offerA hz hi hb hR hm hB
      rw [a1, Option.bind_some, a2, Option.bind_some]
      have hz1 := hz.scr a3
      obtain ⟨z2, c1, c2, c3⟩ := inner_n (C := Ofd (σ 47) must (Cnd (σ 45) (σ 46) R s i)) (f_X10_weighs_b48 n) hz1 hi hb hR hm (a4.congr (fun x y => by rw [a3.row (by decide : 47 ≠ 41), a3.row (by decide : 45 ≠ 41), a3.row (by decide : 46 ≠ 41)]))
      rw [c1]
      refine ⟨z2, ⟨hs.tr (a3.tr c2), c3.congr (fun x y => ?_)⟩, rfl⟩
      rw [a3.row (by decide : 47 ≠ 41), a3.row (by decide : 45 ≠ 41), a3.row (by decide : 46 ≠ 41), r5, r6, r7]
      exact Ofd_or (fun c => Cnd_s.trans ⟨fun q => q.elim Or.inl (fun q => Or.inr q.2), fun q => q.elim Or.inl (fun q => Or.inr ⟨hb, q⟩)⟩) x y) 25 0 σ FUEL (by omega) ⟨Scr.rf, B.congr (fun x y => ⟨fun ⟨c, ⟨a, ha, _⟩, _⟩ => by omega, fun q => q.elim⟩)⟩ (fuel_lt (by omega))
  obtain ⟨z, n, ⟨hs, hB⟩, he⟩ := key
  refine ⟨z, ?_, hs, hB⟩
  refine he.trans ?_
  show f_X10_weighs_b48 (n + 1) R (mustI must) (s : Int) ((25 : Nat) : Int) z = _
  rw [f_X10_weighs_b48, w32_n (by decide), if_neg (by decide)]
theorem outer_0 {σ : Sg} {R : Int} {m : Int} : f_X10_weighs_b48 FUEL R m 0 0 σ = some σ := by
  refine loop_at (F := fun n i z => f_X10_weighs_b48 n R m 0 i z) 25 (fun _ z => z = σ) (by decide) ?_ ?_ 0 (by decide) σ rfl
  · intro n i z hi h
    subst h
    right
    refine ⟨z, rfl, ?_⟩
    show f_X10_weighs_b48 (n + 1) R m 0 (i : Int) z = f_X10_weighs_b48 n R m 0 ((i : Int) + 1) z
    have hh := has_n (σ := z) (s := 0) (p := i) (by decide) (by omega)
    have hh : f_X10_has 0 (i : Int) z = some (if (0 : Nat).testBit i = true then 1 else 0) := hh
    rw [f_X10_weighs_b48, w32_n (by omega), if_pos (by omega), hh, Option.bind_some, b01_f (Nat.zero_testBit i)]
    rfl
  · intro n z h
    subst h
    show f_X10_weighs_b48 (n + 1) R m 0 ((25 : Nat) : Int) z = _
    rw [f_X10_weighs_b48, w32_n (by decide), if_neg (by decide)]
def mset (s : Nat) : Option Nat → Nat
  | none => s
  | some m => s ||| 2 ^ m
/-- what weighs leaves: the heaviest of a set by a radius -/
theorem weighs_n {σ : Sg} {s : Nat} {R : Int} {must : Option Nat} (hs : s < 33554432) (h : WOk σ (mset s must)) (hR : 0 ≤ R ∧ R ≤ 300) (hm : ∀ m, must = some m → m < 25) :
    ∃ σ', f_X10_weighs (s : Int) R (mustI must) σ = some σ' ∧ Scr σ σ' ∧ (mset s must = 0 → σ' 41 36 = 0 ∧ σ' 41 37 = 0) ∧ (mset s must ≠ 0 → OB (Ofd (σ 47) must (Cnd (σ 45) (σ 46) R (mset s must) 25)) σ') := by
  have go : ∃ σ', f_X10_weighs_b14 R (mustI must) ((mset s must : Nat) : Int) σ = some σ' ∧ Scr σ σ' ∧ (mset s must = 0 → σ' 41 36 = 0 ∧ σ' 41 37 = 0) ∧ (mset s must ≠ 0 → OB (Ofd (σ 47) must (Cnd (σ 45) (σ 46) R (mset s must) 25)) σ') := by
    generalize mset s must = t at h ⊢
    unfold f_X10_weighs_b14 f_X10_weighs_b27 wr f_X10_weighs_b42 wr
    rw [w32_n (by have := h.1; omega)]
    by_cases ht : t = 0
    · subst ht
      rw [if_pos (show ((0 : Nat) : Int) = 0 from rfl)]
      dsimp only
      rw [if_pos (show ((0 : Nat) : Int) = 0 from rfl)]
      refine ⟨_, outer_0, (Scr.up ⟨by omega, by omega⟩).tr (Scr.up ⟨by omega, by omega⟩), fun _ => ⟨?_, up_s⟩, fun q => absurd rfl q⟩
      rw [up_j (by decide), up_s]
    · rw [if_neg (by omega)]
      dsimp only
      rw [if_neg (by omega)]
      have hsc : Scr σ (up (up σ 41 36 (-1)) 41 37 2147483647) := (Scr.up ⟨by omega, by omega⟩).tr (Scr.up ⟨by omega, by omega⟩)
      obtain ⟨σ', a1, a2, a3⟩ := outer_n (h.scr hsc) hR hm (B := by
        refine ⟨Or.inl ⟨fun _ _ q => q, ?_, up_s⟩, ?_, ?_⟩
        · rw [up_j (by decide), up_s]
        · rw [up_j (by decide), up_s]
          decide
        · rw [up_s]
          decide)
      refine ⟨σ', a1, hsc.tr a2, fun q => absurd q ht, fun _ => ?_⟩
      rw [hsc.row (by decide : 47 ≠ 41), hsc.row (by decide : 45 ≠ 41), hsc.row (by decide : 46 ≠ 41)] at a3
      exact a3
  unfold f_X10_weighs
  cases must with
  | none =>
    rw [if_pos (show w32 (mustI none) = -1 from w32_m1)]
    exact go
  | some m =>
    have hm2 := hm m rfl
    rw [mustI_s, w32_n (by omega), if_neg (by omega), one_shl (by omega), u32_nat (by omega), u32_nat (pow_lt (by omega))]
    exact go
