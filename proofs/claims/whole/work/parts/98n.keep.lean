/-! ===== pure level: the class's family ===== -/
def SubN (a b : Nat) : Prop := ∀ q, a.testBit q = true → b.testBit q = true
theorem sub_0 {s x : Nat} (hs : s < 16777216) (hx : x < 16777216) : w32 (((u32 (s : Int)) &&& ((u32 (x : Int)) ^^^ 4294967295) : Nat) : Int) = 0 ↔ SubN s x := by
  rw [u32_nat (n := s) (by omega), u32_nat (n := x) (by omega), w32_n (Nat.lt_of_le_of_lt Nat.and_le_left (by omega))]
  constructor
  · intro e q hq
    have e : s &&& (x ^^^ 4294967295) = 0 := by omega
    cases hx2 : x.testBit q with
    | true => rfl
    | false =>
      have := tb_wo (M := s) (m := x) (q := q) hs
      rw [e, Nat.zero_testBit, hq, hx2] at this
      cases this
  · intro h
    have : s &&& (x ^^^ 4294967295) = 0 := bits_ext fun q => by
      rw [tb_wo hs, Nat.zero_testBit]
      cases hq : s.testBit q with
      | false => rfl
      | true => rw [h q hq]; rfl
    omega
def Fam (σ : Sg) (D : Nat) (f : Nat → Nat) : Prop := σ 18 1 = (D : Int) ∧ D ≤ 576 ∧ (∀ k, k < D → σ 19 k = (f k : Int) ∧ f k < 16777216) ∧ ∀ k l, k < D → l < D → k ≠ l → ¬ SubN (f k) (f l)
theorem keep_n {σ : Sg} {D s : Nat} {f : Nat → Nat} (h : Fam σ D f) (hD : D < 576) (hs : s < 16777216) :
    ∃ (σ' : Sg) (E : Nat) (g : Nat → Nat), f_X3_keep (s : Int) σ = some σ' ∧ (∀ k j, k ≠ 18 → k ≠ 19 → σ' k j = σ k j) ∧ Fam σ' E g ∧ E ≤ D + 1 ∧ (∃ k, k < E ∧ SubN s (g k)) ∧ (∀ k, k < D → ∃ l, l < E ∧ SubN (f k) (g l)) ∧ ∀ k, k < E → g k = s ∨ ∃ l, l < D ∧ g k = f l := by
  obtain ⟨h1, h2, h3, h4⟩ := h
  unfold f_X3_keep
  refine loop_P (F := fun n i (u : Int × Sg) => f_X3_keep_b4 n (s : Int) u.1 i u.2) D (fun i u => ∃ (K : Nat) (v : Sg) (κ : Nat → Nat), u = ((K : Int), v) ∧ K ≤ i ∧ (∀ k j, k ≠ 19 → v k j = σ k j) ∧ (∀ l, K ≤ l → v 19 l = σ 19 l) ∧ (∀ l, l < K → κ l < i ∧ v 19 l = (f (κ l) : Int) ∧ ¬ SubN (f (κ l)) s) ∧ (∀ l m, l < m → m < K → κ l < κ m) ∧ (∀ k, k < i → ¬ SubN s (f k)) ∧ (∀ k, k < i → ¬ SubN (f k) s → ∃ l, l < K ∧ κ l = k) ∧ ((∀ k, k < i → ¬ SubN (f k) s) → K = i ∧ ∀ j, v 19 j = σ 19 j)) (P := fun x => ∃ (σ' : Sg) (E : Nat) (g : Nat → Nat), x = some σ' ∧ (∀ k j, k ≠ 18 → k ≠ 19 → σ' k j = σ k j) ∧ Fam σ' E g ∧ E ≤ D + 1 ∧ (∃ k, k < E ∧ SubN s (g k)) ∧ (∀ k, k < D → ∃ l, l < E ∧ SubN (f k) (g l)) ∧ ∀ k, k < E → g k = s ∨ ∃ l, l < D ∧ g k = f l) (by omega) ?_ ?_ 0 (by omega) (0, σ) ⟨0, σ, fun k => k, rfl, Nat.le_refl _, fun _ _ _ => rfl, fun _ _ => rfl, fun l hl => by omega, fun l m _ hm => by omega, fun k hk => by omega, fun k hk => by omega, fun _ => ⟨rfl, fun _ => rfl⟩⟩
  · intro n i u hi hI
    obtain ⟨K, v, κ, rfl, hK, fr, hi1, hk1, hmo, hns, hco, hun⟩ := hI
    have v18 : v 18 1 = (D : Int) := (fr 18 1 (by decide)).trans h1
    have vi : v 19 i = (f i : Int) := (hi1 i hK).trans (h3 i hi).1
    have fi := (h3 i hi).2
    show (∃ (σ' : Sg) (E : Nat) (g : Nat → Nat), f_X3_keep_b4 (n + 1) (s : Int) (K : Int) i v = some σ' ∧ _) ∨ ∃ s' : Int × Sg, _ ∧ f_X3_keep_b4 (n + 1) (s : Int) (K : Int) i v = f_X3_keep_b4 n (s : Int) s'.1 ((i : Int) + 1) s'.2
    rw [f_X3_keep_b4, v18, w32_n (by omega), w32_n (by omega), if_pos (show (i : Int) < (D : Int) by omega), if_pos (show (i : Int) < 576 by omega), ck_t (by omega), ck_t (by omega), ck_t (by omega), ntn, vi]
    by_cases c1 : SubN s (f i)
    · left
      rw [if_pos ((sub_0 hs fi).mpr c1)]
      have no : ∀ k, k < i → ¬ SubN (f k) s := fun k hk q => h4 k i (by omega) hi (by omega) (fun r hr => c1 r (q r hr))
      obtain ⟨e1, e2⟩ := hun no
      exact ⟨v, D, f, rfl, fun k j _ q => fr k j q, ⟨v18, h2, fun k hk => ⟨by rw [e2]; exact (h3 k hk).1, (h3 k hk).2⟩, h4⟩, by omega, ⟨i, hi, c1⟩, fun k hk => ⟨k, hk, fun _ q => q⟩, fun k hk => Or.inr ⟨k, hk, rfl⟩⟩
    · right
      rw [if_neg (fun q => c1 ((sub_0 hs fi).mp q))]
      have ns' : ∀ k, k < i + 1 → ¬ SubN s (f k) := fun k hk => by
        rcases Nat.lt_succ_iff_lt_or_eq.1 hk with r | r
        · exact hns k r
        · rw [r]
          exact c1
      by_cases c2 : SubN (f i) s
      · rw [if_pos ((sub_0 fi hs).mpr c2)]
        refine ⟨((K : Int), v), ⟨K, v, κ, rfl, by omega, fr, hi1, fun l hl => ⟨by have := (hk1 l hl).1; omega, (hk1 l hl).2⟩, hmo, ns', fun k hk hq => ?_, fun q => absurd c2 (q i (by omega))⟩, rfl⟩
        rcases Nat.lt_succ_iff_lt_or_eq.1 hk with r | r
        · exact hco k r hq
        · rw [r] at hq
          exact absurd c2 hq
      · rw [if_neg (fun q => c2 ((sub_0 fi hs).mp q)), w32_n (by omega), if_pos (show (K : Int) < 576 by omega), ck_t (by omega)]
        unfold wr
        dsimp only
        rw [ntn]
        refine ⟨(((K + 1 : Nat) : Int), up v 19 K (f i)), ⟨K + 1, up v 19 K (f i), fun l => if l = K then i else κ l, rfl, by omega, fun k j q => by rw [up_k q]; exact fr k j q, fun l hl => by rw [up_j (by omega)]; exact hi1 l (by omega), fun l hl => ?_, fun l m hlm hm => ?_, ns', fun k hk hq => ?_, fun q => ?_⟩, rfl⟩
        · by_cases e : l = K
          · subst e
            dsimp only
            rw [if_pos rfl, up_s]
            exact ⟨by omega, rfl, c2⟩
          · dsimp only
            rw [if_neg e, up_j e]
            have := hk1 l (by omega)
            exact ⟨by omega, this.2⟩
        · have q1 := (hk1 l (by omega)).1
          show (if l = K then i else κ l) < if m = K then i else κ m
          rw [if_neg (show ¬ l = K by omega)]
          by_cases e : m = K
          · rw [if_pos e]
            exact q1
          · rw [if_neg e]
            exact hmo l m hlm (by omega)
        · rcases Nat.lt_succ_iff_lt_or_eq.1 hk with r | r
          · obtain ⟨l, l1, l2⟩ := hco k r hq
            exact ⟨l, by omega, by show (if l = K then i else κ l) = k; rw [if_neg (by omega)]; exact l2⟩
          · exact ⟨K, by omega, by show (if K = K then i else κ K) = k; rw [if_pos rfl, r]⟩
        · obtain ⟨e1, e2⟩ := hun (fun k hk => q k (by omega))
          refine ⟨by omega, fun j => ?_⟩
          by_cases e : j = K
          · subst e
            rw [up_s, ← vi, e2, e1]
          · rw [up_j e]
            exact e2 j
  · intro n u hI
    obtain ⟨K, v, κ, rfl, hK, fr, hi1, hk1, hmo, hns, hco, hun⟩ := hI
    have v18 : v 18 1 = (D : Int) := (fr 18 1 (by decide)).trans h1
    show ∃ (σ' : Sg) (E : Nat) (g : Nat → Nat), f_X3_keep_b4 (n + 1) (s : Int) (K : Int) (D : Int) v = some σ' ∧ _
    rw [f_X3_keep_b4, v18, if_neg (show ¬ w32 (D : Int) < w32 (D : Int) by omega)]
    unfold f_X3_keep_b78 f_X3_keep_b97 wr
    dsimp only
    rw [w32_n (by omega), if_pos (show (K : Int) < 576 by omega), ck_t (by omega), ntn]
    refine ⟨_, K + 1, fun l => if l = K then s else f (κ l), rfl, fun k j q1 q2 => by rw [up_k q1, up_k q2]; exact fr k j q2, ⟨by rw [up_s]; rfl, by omega, fun k hk => ?_, fun k l hk hl hkl q => ?_⟩, by omega, ⟨K, by omega, fun q hq => by show (if K = K then s else f (κ K)).testBit q = true; rw [if_pos rfl]; exact hq⟩, fun k hk => ?_, fun k hk => ?_⟩
    · rw [up_k (by decide)]
      by_cases e : k = K
      · subst e
        rw [up_s]
        show (s : Int) = ((if k = k then s else f (κ k) : Nat) : Int) ∧ (if k = k then s else f (κ k)) < 16777216
        rw [if_pos rfl]
        exact ⟨rfl, hs⟩
      · rw [up_j e]
        show v 19 k = ((if k = K then s else f (κ k) : Nat) : Int) ∧ (if k = K then s else f (κ k)) < 16777216
        rw [if_neg e]
        have := hk1 k (by omega)
        exact ⟨this.2.1, (h3 (κ k) this.1).2⟩
    · have q : SubN (if k = K then s else f (κ k)) (if l = K then s else f (κ l)) := q
      by_cases e : k = K
      · rw [if_pos e, if_neg (by omega)] at q
        exact hns (κ l) (hk1 l (by omega)).1 q
      · rw [if_neg e] at q
        by_cases e2 : l = K
        · rw [if_pos e2] at q
          exact (hk1 k (by omega)).2.2 q
        · rw [if_neg e2] at q
          refine h4 (κ k) (κ l) (hk1 k (by omega)).1 (hk1 l (by omega)).1 (fun r => ?_) q
          rcases Nat.lt_or_gt_of_ne hkl with t | t
          · have := hmo k l t (by omega)
            omega
          · have := hmo l k t (by omega)
            omega
    · by_cases e : SubN (f k) s
      · exact ⟨K, by omega, fun q hq => by show (if K = K then s else f (κ K)).testBit q = true; rw [if_pos rfl]; exact e q hq⟩
      · obtain ⟨l, l1, l2⟩ := hco k hk e
        exact ⟨l, by omega, fun q hq => by show (if l = K then s else f (κ l)).testBit q = true; rw [if_neg (by omega), l2]; exact hq⟩
    · by_cases e : k = K
      · exact Or.inl (if_pos e)
      · exact Or.inr ⟨κ k, (hk1 k (by omega)).1, if_neg e⟩
