/-! ===== pure level: the class's book ===== -/
theorem dIsPlace_n {σ : Sg} {a b : Int} (ha : InR a) (hb : InR b) : f_X9_isPlace a b σ = some (if (0 ≤ a ∧ a ≤ 299) ∧ (0 ≤ b ∧ b ≤ 299) then 1 else 0) := by
  unfold f_X9_isPlace
  rw [w32_eq ha, w32_eq hb]
  by_cases h1 : a < 0
  · rw [if_pos h1, if_neg (by omega)]
  · by_cases h2 : a < 300
    · by_cases h3 : b < 0
      · rw [if_neg h1, if_pos h2, if_pos h3, if_neg (by omega)]
      · by_cases h4 : b < 300
        · rw [if_neg h1, if_pos h2, if_neg h3, if_pos h4, if_pos (by omega)]
        · rw [if_neg h1, if_pos h2, if_neg h3, if_neg h4, if_neg (by omega)]
    · rw [if_neg h1, if_neg h2, if_neg (by omega)]
theorem dIsSum_n {σ : Sg} {a : Int} (ha : InR a) : f_X9_isSum a σ = some (if 1 ≤ a ∧ a ≤ 99999 then 1 else 0) := by
  unfold f_X9_isSum
  rw [w32_eq ha]
  by_cases h1 : a < 1
  · rw [if_pos h1, if_neg (by omega)]
  · by_cases h2 : a ≤ 99999
    · rw [if_neg h1, if_pos h2, if_pos (by omega)]
    · rw [if_neg h1, if_neg h2, if_neg (by omega)]
theorem dIsPeril_n {σ : Sg} {a : Int} (ha : InR a) : f_X9_isPeril a σ = some (if 0 ≤ a ∧ a ≤ 3 then 1 else 0) := by
  unfold f_X9_isPeril
  rw [w32_eq ha]
  by_cases h1 : a < 0
  · rw [if_pos h1, if_neg (by omega)]
  · by_cases h2 : a < 4
    · rw [if_neg h1, if_pos h2, if_pos (by omega)]
    · rw [if_neg h1, if_neg h2, if_neg (by omega)]
theorem dArePerils_n {σ : Sg} {a : Int} (ha : InR a) : f_X9_arePerils a σ = some (if 1 ≤ a ∧ a ≤ 15 then 1 else 0) := by
  unfold f_X9_arePerils
  rw [w32_eq ha]
  by_cases h1 : a < 1
  · rw [if_pos h1, if_neg (by omega)]
  · by_cases h2 : a ≤ 15
    · rw [if_neg h1, if_pos h2, if_pos (by omega)]
    · rw [if_neg h1, if_neg h2, if_neg (by omega)]
theorem dIsRadius_n {σ : Sg} {a : Int} (ha : InR a) : f_X9_isRadius a σ = some (if 1 ≤ a ∧ a ≤ 300 then 1 else 0) := by
  unfold f_X9_isRadius
  rw [w32_eq ha]
  by_cases h1 : a < 1
  · rw [if_pos h1, if_neg (by omega)]
  · by_cases h2 : a ≤ 300
    · rw [if_neg h1, if_pos h2, if_pos (by omega)]
    · rw [if_neg h1, if_neg h2, if_neg (by omega)]
theorem dIsReach_n {σ : Sg} {a : Int} (ha : InR a) : f_X9_isReach a σ = some (if 0 ≤ a ∧ a ≤ 300 then 1 else 0) := by
  unfold f_X9_isReach
  rw [w32_eq ha]
  by_cases h1 : a < 0
  · rw [if_pos h1, if_neg (by omega)]
  · by_cases h2 : a ≤ 300
    · rw [if_neg h1, if_pos h2, if_pos (by omega)]
    · rw [if_neg h1, if_neg h2, if_neg (by omega)]
def updF (r : Nat → Int) (p : Nat) (v : Int) : Nat → Int := fun j => if j = p then v else r j
theorem up_updF {σ : Sg} {k p : Nat} {v : Int} : up σ k p v k = updF (σ k) p v := by
  funext j
  unfold updF
  by_cases h : j = p
  · rw [if_pos h, h, up_s]
  · rw [if_neg h, up_j h]
theorem sumb_upd {T : Nat → Int} {v : Int} {r : Nat} (i : Nat) : ∀ n, sumb (fun k => if k = r then v else T k) i n = sumb T i n + (if r < n ∧ i.testBit r = true then v - T r else 0)
  | 0 => by simp [sumb]
  | n + 1 => by
    rw [sumb, sumb, sumb_upd i n]
    by_cases hr : n = r
    · subst hr
      rw [if_pos rfl]
      by_cases hb : i.testBit n = true
      · rw [if_pos hb, if_pos hb, if_neg (by omega), if_pos ⟨by omega, hb⟩]
        omega
      · rw [if_neg hb, if_neg hb, if_neg (fun a => by omega), if_neg (fun a => hb a.2)]
    · rw [if_neg hr]
      have e : (r < n + 1 ∧ i.testBit r = true) ↔ (r < n ∧ i.testBit r = true) := ⟨fun a => ⟨by omega, a.2⟩, fun a => ⟨by omega, a.2⟩⟩
      simp only [e]
      omega
theorem weigh_n {σ : Sg} {p : Nat} {s : Int} (hp : p < 24) (hg : Grp σ (σ 9)) :
    ∃ z, f_X0_weigh (p : Int) s σ = some z ∧ (∀ k, k ≠ 9 → k ≠ 11 → z k = σ k) ∧ z 9 = updF (σ 9) p s ∧ Grp z (z 9) := by
  unfold f_X0_weigh wr
  dsimp only
  have e7 : ((u32 (p : Int) &&& 7 : Nat) : Int) = ((p % 8 : Nat) : Int) := by
    rw [u32_nat (by omega), show (7 : Nat) = 2 ^ 3 - 1 from rfl, Nat.and_two_pow_sub_one_eq_mod]
  have e8 : ((u32 (p : Int) >>> 3 : Nat) : Int) = ((p / 8 : Nat) : Int) := by
    rw [u32_nat (by omega), Nat.shiftRight_eq_div_pow]
  rw [isNumber_t hp, Option.bind_some, w32_1, if_neg (by decide), ck_t (by omega), ck_t (by omega), ntn, e8]
  have h11 : up σ 9 p s 11 = σ 11 := up_k (by decide)
  have h9 : up σ 9 p s 9 = updF (σ 9) p s := up_updF
  obtain ⟨w, n, ⟨hf, hE⟩, he⟩ := loop_ex (F := fun n i w => f_X0_weigh_b36 n (p : Int) (s - σ 9 p) (((p / 8 : Nat) : Int) * 256) i w) 256 (fun i w => (∀ k, k ≠ 11 → w k = up σ 9 p s k) ∧ ∀ g m, g < 3 → m < 256 → w 11 (256 * g + m) = σ 11 (256 * g + m) + (if g = p / 8 ∧ m.testBit (p % 8) = true ∧ m < i then s - σ 9 p else 0)) (fun n i w hi hI => by
    obtain ⟨hf, hE⟩ := hI
    show ∃ s', _ ∧ f_X0_weigh_b36 (n + 1) (p : Int) (s - σ 9 p) (((p / 8 : Nat) : Int) * 256) (i : Int) w = f_X0_weigh_b36 n (p : Int) (s - σ 9 p) (((p / 8 : Nat) : Int) * 256) ((i : Int) + 1) s'
    rw [f_X0_weigh_b36, w32_n (by omega), if_pos (by omega), e7, contains_n (by omega) (by omega), Option.bind_some]
    cases hb : i.testBit (p % 8) with
    | false =>
      rw [b01_f rfl]
      refine ⟨w, ⟨hf, fun g m hg hm => ?_⟩, rfl⟩
      rw [hE g m hg hm]
      congr 1
      by_cases e : m = i
      · subst e
        rw [if_neg (by rw [hb]; exact fun q => by cases q.2.1), if_neg (by rw [hb]; exact fun q => by cases q.2.1)]
      · have hiff : (g = p / 8 ∧ m.testBit (p % 8) = true ∧ m < i + 1) ↔ (g = p / 8 ∧ m.testBit (p % 8) = true ∧ m < i) := ⟨fun a => ⟨a.1, a.2.1, by omega⟩, fun a => ⟨a.1, a.2.1, by omega⟩⟩
        simp only [hiff]
    | true =>
      have ix : (((p / 8 : Nat) : Int) * 256 + (i : Int)).toNat = 256 * (p / 8) + i := by omega
      rw [b01_t rfl, w32_eq (z := ((p / 8 : Nat) : Int) * 256 + (i : Int)) ⟨by omega, by omega⟩, if_pos (by omega), ck_t (by omega), ck_t (by omega), ix]
      unfold wr
      refine ⟨_, ⟨fun k hk => ?_, fun g m hg hm => ?_⟩, rfl⟩
      · rw [up_k hk]
        exact hf k hk
      · by_cases e : g = p / 8 ∧ m = i
        · obtain ⟨rfl, rfl⟩ := e
          rw [up_s, hE _ _ hg hm, if_neg (by omega), if_pos ⟨rfl, hb, by omega⟩]
          omega
        · rw [up_j (by omega), hE g m hg hm]
          congr 1
          have hiff : (g = p / 8 ∧ m.testBit (p % 8) = true ∧ m < i + 1) ↔ (g = p / 8 ∧ m.testBit (p % 8) = true ∧ m < i) := ⟨fun a => ⟨a.1, a.2.1, by have := a.1; omega⟩, fun a => ⟨a.1, a.2.1, by omega⟩⟩
          simp only [hiff]) 256 0 (up σ 9 p s) FUEL (by omega) ⟨fun _ _ => rfl, fun g m _ _ => by rw [h11, if_neg (by omega)]; omega⟩ (fuel_lt (by omega))
  have he : f_X0_weigh_b36 FUEL (p : Int) (s - σ 9 p) (((p / 8 : Nat) : Int) * 256) 0 (up σ 9 p s) = f_X0_weigh_b36 (n + 1) (p : Int) (s - σ 9 p) (((p / 8 : Nat) : Int) * 256) ((256 : Nat) : Int) w := he
  have w9 : w 9 = updF (σ 9) p s := (hf 9 (by decide)).trans h9
  refine ⟨w, ?_, fun k h1 h2 => ?_, w9, fun g m hg3 hm => ?_⟩
  · rw [he, f_X0_weigh_b36, w32_n (by decide), if_neg (by decide)]
  · rw [hf k h2, up_k h1]
  · rw [hE g m hg3 hm, hg g m hg3 hm, w9]
    by_cases e : g = p / 8
    · subst e
      have e2 : (fun k => updF (σ 9) p s (8 * (p / 8) + k)) = (fun k => if k = p % 8 then s else σ 9 (8 * (p / 8) + k)) := by
        funext k
        unfold updF
        by_cases hk : k = p % 8
        · rw [if_pos hk, if_pos (by omega)]
        · rw [if_neg hk, if_neg (by omega)]
      rw [e2, sumb_upd m 8, show 8 * (p / 8) + p % 8 = p by omega]
      congr 1
      by_cases hb : m.testBit (p % 8) = true
      · rw [if_pos ⟨rfl, hb, hm⟩, if_pos ⟨by omega, hb⟩]
      · rw [if_neg (fun a => hb a.2.1), if_neg (fun a => hb a.2)]
    · rw [if_neg (fun a => e a.1), Int.add_zero]
      refine sumb_congr fun k hk _ => ?_
      unfold updF
      rw [if_neg (by omega)]
theorem shift_n {σ : Sg} {p : Nat} {x y : Int} (hp : p < 24) : f_X0_shift (p : Int) x y σ = some (up (up σ 7 p x) 8 p y) := by
  unfold f_X0_shift wr
  dsimp only
  rw [isNumber_t hp, Option.bind_some, w32_1, if_neg (by decide), ck_t (by omega), ck_t (by omega), ntn]
theorem enter_n {σ : Sg} {p F : Nat} {x y s q : Int} (hp : p < 24) (hF : σ 6 5 = (F : Int)) (hFl : F < 16777216) (hg : Grp σ (σ 9)) :
    ∃ z, f_X0_enter (p : Int) x y s q σ = some z ∧ (∀ k, ¬ (6 ≤ k ∧ k ≤ 11) → z k = σ k) ∧ z 6 5 = ((F ||| 2 ^ p : Nat) : Int) ∧ z 7 = updF (σ 7) p x ∧ z 8 = updF (σ 8) p y ∧ z 9 = updF (σ 9) p s ∧ z 10 = updF (σ 10) p q ∧ Grp z (z 9) := by
  unfold f_X0_enter wr
  dsimp only
  rw [isNumber_t hp, Option.bind_some, w32_1, if_neg (by decide), hF, one_shl (by omega), or_n (by omega) (by have := pow_24 hp; omega), ck_t (by omega), ntn, shift_n hp, Option.bind_some]
  generalize hw : up (up (up (up σ 6 5 ((F ||| 2 ^ p : Nat) : Int)) 10 p q) 7 p x) 8 p y = w
  have w9 : w 9 = σ 9 := by rw [← hw, up_k (by decide), up_k (by decide), up_k (by decide), up_k (by decide)]
  have w11 : w 11 = σ 11 := by rw [← hw, up_k (by decide), up_k (by decide), up_k (by decide), up_k (by decide)]
  obtain ⟨z, e, f, z9, zg⟩ := weigh_n (σ := w) (p := p) (s := s) hp (by rw [w9]; exact hg.row w11)
  rw [e, Option.bind_some]
  refine ⟨z, rfl, fun k hk => ?_, ?_, ?_, ?_, ?_, ?_, zg⟩
  · rw [f k (by omega) (by omega), ← hw, up_k (by omega), up_k (by omega), up_k (by omega), up_k (by omega)]
  · rw [f 6 (by decide) (by decide), ← hw, up_k (by decide), up_k (by decide), up_k (by decide), up_s]
  · rw [f 7 (by decide) (by decide), ← hw, up_k (by decide), up_updF, up_k (by decide), up_k (by decide)]
  · rw [f 8 (by decide) (by decide), ← hw, up_updF, up_k (by decide), up_k (by decide), up_k (by decide)]
  · rw [z9, w9]
  · rw [f 10 (by decide) (by decide), ← hw, up_k (by decide), up_k (by decide), up_updF, up_k (by decide)]
theorem drop_n {σ : Sg} {p F : Nat} (hp : p < 24) (hF : σ 6 5 = (F : Int)) (hFl : F < 16777216) (hg : Grp σ (σ 9)) :
    ∃ z, f_X0_drop (p : Int) σ = some z ∧ (∀ k, k ≠ 6 → k ≠ 9 → k ≠ 11 → z k = σ k) ∧ z 6 5 = ((F &&& (2 ^ p ^^^ 4294967295) : Nat) : Int) ∧ z 9 = updF (σ 9) p 0 ∧ Grp z (z 9) := by
  unfold f_X0_drop wr
  rw [isNumber_t hp, Option.bind_some, w32_1, if_neg (by decide)]
  obtain ⟨z, e, f, z9, zg⟩ := weigh_n (σ := σ) (p := p) (s := 0) hp hg
  rw [e, Option.bind_some, f 6 (by decide) (by decide), hF, one_shl (by omega), u32_nat (pow_lt (by omega)), u32_nat (by omega)]
  refine ⟨_, rfl, fun k h1 h2 h3 => ?_, up_s, ?_, ?_⟩
  · rw [up_k h1, f k h2 h3]
  · rw [up_k (by decide)]
    exact z9
  · rw [up_k (by decide : (9 : Nat) ≠ 6)]
    exact zg.row (up_k (by decide))
theorem has_t {z : Sg} {F : Nat} {p : Int} (hF : z 6 5 = (F : Int)) (hFl : F < 16777216) (hp : InR p) : f_X0_has p z = some (if 0 ≤ p ∧ p < 24 ∧ F.testBit p.toNat = true then 1 else 0) := by
  unfold f_X0_has
  rw [isNumber_n hp, Option.bind_some]
  by_cases h : 0 ≤ p ∧ p < 24
  · obtain ⟨k, hk⟩ : ∃ k : Nat, p = (k : Int) := ⟨p.toNat, by omega⟩
    subst hk
    rw [if_pos h, w32_1, if_neg (by decide), hF, contains_n (by omega) (by omega), Option.bind_some, ntn]
    cases hb : F.testBit k with
    | false =>
      rw [b01_f rfl, if_neg (fun a => by cases a.2.2)]
    | true =>
      rw [b01_t rfl, if_pos ⟨h.1, h.2, rfl⟩]
  · rw [if_neg h, w32_0, if_pos rfl, if_neg (fun a => h ⟨a.1, a.2.1⟩)]
theorem isPol_t {z ζ : Sg} {F : Nat} {p : Int} (h : RelB z ζ F) (hp : InR p) : f_X10_isPolicy p ζ = some (if 0 ≤ p ∧ p < 24 ∧ F.testBit p.toNat = true then 1 else 0) := by
  unfold f_X10_isPolicy
  rw [w32_eq hp]
  by_cases h1 : p < 0
  · rw [if_pos h1, if_neg (by omega)]
  · rw [if_neg h1]
    by_cases h2 : p < 24
    · obtain ⟨k, hk⟩ : ∃ k : Nat, p = (k : Int) := ⟨p.toNat, by omega⟩
      subst hk
      rw [if_pos h2, ck_t (by omega), ntn, (h.1.2.2 k (by omega)).1]
      cases hb : F.testBit k with
      | false => rw [b01_f rfl, if_neg (fun a => by cases a.2.2)]
      | true => rw [b01_t rfl, if_pos ⟨by omega, h2, rfl⟩]
    · rw [if_neg h2, if_neg (by omega)]
theorem isTr_t {ζ : Sg} {N : Nat} {t : Int} (hN : ζ 41 27 = (N : Int)) (hN6 : N ≤ 6) (ht : InR t) : f_X10_isTreaty t ζ = some (if 0 ≤ t ∧ t < N then 1 else 0) := by
  unfold f_X10_isTreaty
  rw [w32_eq ht, hN, w32_n (by omega)]
  by_cases h1 : t < 0
  · rw [if_pos h1, if_neg (by omega)]
  · rw [if_neg h1]
    by_cases h2 : t < N
    · rw [if_pos h2, if_pos (by omega)]
    · rw [if_neg h2, if_neg (by omega)]
