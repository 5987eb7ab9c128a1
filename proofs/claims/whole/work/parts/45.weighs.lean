/-! ===== pure level: the heaviest, as the reference weighs ===== -/
theorem loop_ex {α St : Type} {F : Nat → Int → St → Option α} (N : Nat) (I : Nat → St → Prop)
    (hs : ∀ n i s, i < N → I i s → ∃ s', I (i + 1) s' ∧ F (n + 1) (i : Int) s = F n ((i : Int) + 1) s') : ∀ (k i : Nat) (s : St) (n : Nat), i + k = N → I i s → k < n → ∃ s' m, I N s' ∧ F n (i : Int) s = F (m + 1) (N : Int) s' := by
  intro k
  induction k with
  | zero =>
    intro i s n hi h hn
    obtain ⟨n, rfl⟩ : ∃ m, n = m + 1 := ⟨n - 1, by omega⟩
    have hi : i = N := by omega
    subst hi
    exact ⟨s, n, h, rfl⟩
  | succ k ih =>
    intro i s n hi h hn
    obtain ⟨n, rfl⟩ : ∃ m, n = m + 1 := ⟨n - 1, by omega⟩
    obtain ⟨s', h1, h2⟩ := hs n i s (by omega) h
    rw [h2, ← ncast_s]
    exact ih (i + 1) s' n (by omega) h1 (by omega)
def offd (must : Option Nat) (c o : Nat) : Prop := match must with
  | none => o = c
  | some m => c.testBit m = true ∧ o = c &&& (2 ^ m ^^^ 4294967295)
def mustI : Option Nat → Int
  | none => -1
  | some m => (m : Int)
def OB (C : Int → Nat → Prop) (σ : Sg) : Prop := BestOf C (σ 41 36) (σ 41 37) ∧ (-1 ≤ σ 41 36 ∧ σ 41 36 < 2147483648) ∧ (0 ≤ σ 41 37 ∧ σ 41 37 < 2147483648)
theorem OB.congr {C C' : Int → Nat → Prop} {σ : Sg} (B : OB C σ) (h : ∀ x y, C' x y ↔ C x y) : OB C' σ := by
  have e : C' = C := by
    funext x y
    exact propext (h x y)
  rw [e]
  exact B
theorem b30_n {σ : Sg} {C : Int → Nat → Prop} {o : Nat} (B : OB C σ) (hh : 0 ≤ σ 41 35 ∧ σ 41 35 < 2147483648) (ho : o < 2147483647) :
    ∃ σ', f_X10_offers_b30 (o : Int) σ = some σ' ∧ Scr σ σ' ∧ OB (fun x y => C x y ∨ (x = σ 41 35 ∧ y = o)) σ' := by
  obtain ⟨hB, hb1, hb2⟩ := B
  obtain ⟨s1, s2⟩ := hB.step (C' := fun x y => C x y ∨ (x = σ 41 35 ∧ y = o)) hh.1 ho (fun x y => Iff.rfl)
  unfold f_X10_offers_b30
  rw [w32_eq (z := σ 41 35) ⟨by omega, by omega⟩, w32_eq (z := σ 41 36) ⟨by omega, by omega⟩, w32_eq (z := σ 41 37) ⟨by omega, by omega⟩, w32_n (by omega)]
  have put : ¬ (σ 41 35 < σ 41 36 ∨ (σ 41 35 = σ 41 36 ∧ σ 41 37 ≤ (o : Int))) → ∃ σ', f_X10_offers_b62 (o : Int) σ = some σ' ∧ Scr σ σ' ∧ OB (fun x y => C x y ∨ (x = σ 41 35 ∧ y = o)) σ' := by
    intro hn
    refine ⟨up (up σ 41 36 (σ 41 35)) 41 37 (o : Int), rfl, (Scr.up ⟨by omega, by omega⟩).tr (Scr.up ⟨by omega, by omega⟩), ?_⟩
    have e1 : up (up σ 41 36 (σ 41 35)) 41 37 (o : Int) 41 36 = σ 41 35 := by rw [up_j (by decide), up_s]
    have e2 : up (up σ 41 36 (σ 41 35)) 41 37 (o : Int) 41 37 = (o : Int) := up_s
    unfold OB
    rw [e1, e2]
    exact ⟨s2 hn, by omega, by omega⟩
  by_cases h1 : σ 41 35 < σ 41 36
  · rw [if_pos h1]
    exact ⟨σ, rfl, Scr.rf, s1 (Or.inl h1), hb1, hb2⟩
  · rw [if_neg h1]
    by_cases h2 : σ 41 35 = σ 41 36
    · rw [if_pos h2]
      by_cases h3 : (o : Int) < σ 41 37
      · rw [if_pos h3]
        exact put (by omega)
      · rw [if_neg h3]
        exact ⟨σ, rfl, Scr.rf, s1 (Or.inr ⟨h2, by omega⟩), hb1, hb2⟩
    · rw [if_neg h2]
      exact put (by omega)
theorem w32_m1 : w32 (-1) = -1 := by decide
theorem mustI_s (m : Nat) : mustI (some m) = (m : Int) := rfl
theorem offers_n {σ : Sg} {C : Int → Nat → Prop} {must : Option Nat} {c : Nat} (hc : c < 33554432) (hm : ∀ m, must = some m → m < 25) (B : OB C σ) (hh : 0 ≤ σ 41 35 ∧ σ 41 35 < 2147483648) :
    ∃ σ', f_X10_offers (c : Int) (mustI must) σ = some σ' ∧ Scr σ σ' ∧ OB (fun x y => C x y ∨ (x = σ 41 35 ∧ offd must c y)) σ' := by
  unfold f_X10_offers f_X10_offers_b14
  cases must with
  | none =>
    show ∃ σ', (if w32 (-1) = -1 then _ else _) = some σ' ∧ _
    rw [w32_m1, if_pos rfl]
    exact b30_n B hh (by omega)
  | some m =>
    have hm := hm m rfl
    rw [mustI_s, w32_n (by omega), if_neg (by omega), has_n (by omega) (by omega), Option.bind_some]
    cases hb : c.testBit m with
    | false =>
      rw [b01_f rfl]
      refine ⟨σ, rfl, Scr.rf, B.congr (fun x y => ⟨fun h => ?_, Or.inl⟩)⟩
      rcases h with h | ⟨-, h, -⟩
      · exact h
      · rw [hb] at h
        cases h
    | true =>
      rw [b01_t rfl, if_neg (by omega), one_shl (by omega), u32_nat (by omega), u32_nat (pow_lt (by omega))]
      obtain ⟨σ', h1, h2, h3⟩ := b30_n (o := c &&& (2 ^ m ^^^ 4294967295)) B hh (Nat.lt_of_le_of_lt Nat.and_le_left (by omega))
      refine ⟨σ', h1, h2, h3.congr (fun x y => ?_)⟩
      constructor
      · rintro (h | ⟨h, -, h4⟩)
        · exact Or.inl h
        · exact Or.inr ⟨h, h4⟩
      · rintro (h | ⟨h, h4⟩)
        · exact Or.inl h
        · exact Or.inr ⟨h, hb, h4⟩
def rimOk (X Y : Nat → Int) (R : Int) (a b : Nat) : Prop := 0 < d2 X Y a b ∧ d2 X Y a b ≤ 4 * R * R
/-- the candidates: about one, two on the rim -/
def CndA (X Y : Nat → Int) (R : Int) (s a : Nat) (q : Nat) (c : Nat) : Prop := c = arS X Y R s a ∨ ∃ b, b < q ∧ a < b ∧ s.testBit b = true ∧ rimOk X Y R a b ∧ ∃ side, c = rmS X Y R s a b side
def Cnd (X Y : Nat → Int) (R : Int) (s : Nat) (p : Nat) (c : Nat) : Prop := ∃ a, a < p ∧ s.testBit a = true ∧ CndA X Y R s a 25 c
def Ofd (S : Nat → Int) (must : Option Nat) (D : Nat → Prop) (h : Int) (o : Nat) : Prop := ∃ c, D c ∧ h = sumb S c 25 ∧ offd must c o
theorem sum_ok {S : Nat → Int} {s : Nat} {P : Nat → Bool} (hS : ∀ i, i < 25 → s.testBit i = true → 0 ≤ S i ∧ S i ≤ 99999) : 0 ≤ sumb S (mks (fun q => s.testBit q && P q) 25) 25 ∧ sumb S (mks (fun q => s.testBit q && P q) 25) 25 < 2147483648 := by
  have h := sumb_bound (S := S) (s := mks (fun q => s.testBit q && P q) 25) (B := 99999) (by decide) (n := 25) (fun i hi hb => by
    rw [tb_mks] at hb
    simp at hb
    exact hS i hi hb.2.1)
  omega
theorem ar_lt (X Y : Nat → Int) (R : Int) (s p : Nat) : arS X Y R s p < 33554432 := mks_25 _
theorem rm_lt (X Y : Nat → Int) (R : Int) (s a b : Nat) (side : Bool) : rmS X Y R s a b side < 33554432 := mks_25 _
/-- what weighs asks of its policies: places, sums -/
def WOk (σ : Sg) (s : Nat) : Prop := s < 33554432 ∧ ∀ q, q < 25 → s.testBit q = true → Pl (σ 45) (σ 46) q ∧ 0 ≤ σ 47 q ∧ σ 47 q ≤ 99999
theorem WOk.scr {σ σ' : Sg} {s : Nat} (h : WOk σ s) (c : Scr σ σ') : WOk σ' s := by
  unfold WOk
  rw [c.row (by decide : 45 ≠ 41), c.row (by decide : 46 ≠ 41), c.row (by decide : 47 ≠ 41)]
  exact h
theorem offerA {σ : Sg} {s p : Nat} {R : Int} {must : Option Nat} {C : Int → Nat → Prop} (h : WOk σ s) (hp : p < 25) (hpb : s.testBit p = true) (hR : 0 ≤ R ∧ R ≤ 300) (hm : ∀ m, must = some m → m < 25) (B : OB C σ) :
    ∃ q σ', f_X10_around (p : Int) (s : Int) R σ = some q ∧ f_X10_offers q.1 (mustI must) q.2 = some σ' ∧ Scr σ σ' ∧ OB (fun x y => C x y ∨ Ofd (σ 47) must (fun c => c = arS (σ 45) (σ 46) R s p) x y) σ' := by
  have hRR := mul_bd (x := R) (y := R) (A := 300) (B := 300) ⟨by omega, by omega⟩ ⟨by omega, by omega⟩
  have hs := sum_ok (S := σ 47) (s := s) (P := fun q => decide (d2 (σ 45) (σ 46) p q ≤ R * R)) (fun i hi hb => (h.2 i hi hb).2)
  have hup : Scr σ (up σ 41 35 (sumb (σ 47) (arS (σ 45) (σ 46) R s p) 25)) := Scr.up ⟨by omega, by omega⟩
  rw [around_n hp h.1 ⟨by omega, by omega⟩ (fun q hq hb => by have := d2_bd (h.2 p hp hpb).1 (h.2 q hq hb).1; exact ⟨by omega, by omega⟩)]
  have B' : OB C (up σ 41 35 (sumb (σ 47) (arS (σ 45) (σ 46) R s p) 25)) := by
    unfold OB
    rw [up_j (by decide), up_j (by decide)]
    exact B
  obtain ⟨σ', h1, h2, h3⟩ := offers_n (ar_lt (σ 45) (σ 46) R s p) hm B' (by rw [up_s]; exact hs)
  refine ⟨_, σ', rfl, h1, hup.tr h2, h3.congr (fun x y => ?_)⟩
  rw [up_s]
  constructor
  · rintro (q | ⟨c, rfl, q1, q2⟩)
    · exact Or.inl q
    · exact Or.inr ⟨q1, q2⟩
  · rintro (q | ⟨q1, q2⟩)
    · exact Or.inl q
    · exact Or.inr ⟨_, rfl, q1, q2⟩
theorem offerR {σ : Sg} {s p b : Nat} {side : Bool} {R : Int} {must : Option Nat} {C : Int → Nat → Prop} (h : WOk σ s) (hp : p < 25) (hpb : s.testBit p = true) (hb : b < 25) (hbb : s.testBit b = true) (hR : 0 ≤ R ∧ R ≤ 300) (hok : rimOk (σ 45) (σ 46) R p b) (hm : ∀ m, must = some m → m < 25) (B : OB C σ) :
    ∃ q σ', f_X10_onRim (p : Int) (b : Int) (if side then 1 else 0) (s : Int) R σ = some q ∧ f_X10_offers q.1 (mustI must) q.2 = some σ' ∧ Scr σ σ' ∧ OB (fun x y => C x y ∨ Ofd (σ 47) must (fun c => c = rmS (σ 45) (σ 46) R s p b side) x y) σ' := by
  have hs := sum_ok (S := σ 47) (s := s) (P := fun q => q == p || q == b || inD (σ 45) (σ 46) R p b side q) (fun i hi hb => (h.2 i hi hb).2)
  have hup : Scr σ (up σ 41 35 (sumb (σ 47) (rmS (σ 45) (σ 46) R s p b side) 25)) := Scr.up ⟨by omega, by omega⟩
  rw [onRim_n hp hb h.1 (h.2 p hp hpb).1 (h.2 b hb hbb).1 (fun r hr q => (h.2 r hr q).1) hR hok.1 hok.2]
  have B' : OB C (up σ 41 35 (sumb (σ 47) (rmS (σ 45) (σ 46) R s p b side) 25)) := by
    unfold OB
    rw [up_j (by decide), up_j (by decide)]
    exact B
  obtain ⟨σ', h1, h2, h3⟩ := offers_n (rm_lt (σ 45) (σ 46) R s p b side) hm B' (by rw [up_s]; exact hs)
  refine ⟨_, σ', rfl, h1, hup.tr h2, h3.congr (fun x y => ?_)⟩
  rw [up_s]
  constructor
  · rintro (q | ⟨c, rfl, q1, q2⟩)
    · exact Or.inl q
    · exact Or.inr ⟨q1, q2⟩
  · rintro (q | ⟨q1, q2⟩)
    · exact Or.inl q
    · exact Or.inr ⟨_, rfl, q1, q2⟩
