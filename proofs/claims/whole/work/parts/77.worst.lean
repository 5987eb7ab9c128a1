/-! ===== pure level: the worst of a treaty of the class ===== -/
theorem arS_cg {X Y X' Y' : Nat → Int} {R : Int} {s a : Nat} (h : ∀ q, s.testBit q = true → X' q = X q ∧ Y' q = Y q) (ha : s.testBit a = true) : arS X' Y' R s a = arS X Y R s a := mks_congr fun q _ => by
  cases hb : s.testBit q with
  | false => rfl
  | true =>
    unfold d2
    rw [(h a ha).1, (h a ha).2, (h q hb).1, (h q hb).2]
theorem inD_cg {X Y X' Y' : Nat → Int} {R : Int} {a b q : Nat} {side : Bool} (ha : X' a = X a ∧ Y' a = Y a) (hb : X' b = X b ∧ Y' b = Y b) (hq : X' q = X q ∧ Y' q = Y q) : inD X' Y' R a b side q = inD X Y R a b side q := by
  unfold inD dotp crs d2
  rw [ha.1, ha.2, hb.1, hb.2, hq.1, hq.2]
theorem rmS_cg {X Y X' Y' : Nat → Int} {R : Int} {s a b : Nat} {side : Bool} (h : ∀ q, s.testBit q = true → X' q = X q ∧ Y' q = Y q) (ha : s.testBit a = true) (hb : s.testBit b = true) : rmS X' Y' R s a b side = rmS X Y R s a b side := mks_congr fun q _ => by
  cases hq : s.testBit q with
  | false => rfl
  | true => rw [inD_cg (h a ha) (h b hb) (h q hq)]
theorem rimOk_cg {X Y X' Y' : Nat → Int} {R : Int} {a b : Nat} (ha : X' a = X a ∧ Y' a = Y a) (hb : X' b = X b ∧ Y' b = Y b) : rimOk X' Y' R a b ↔ rimOk X Y R a b := by
  unfold rimOk d2
  rw [ha.1, ha.2, hb.1, hb.2]
theorem cnd_cg {X Y X' Y' : Nat → Int} {R : Int} {s c : Nat} (h : ∀ q, s.testBit q = true → X' q = X q ∧ Y' q = Y q) (hc : Cnd X Y R s 25 c) : Cnd X' Y' R s 25 c := by
  obtain ⟨a, h1, h2, h3⟩ := hc
  refine ⟨a, h1, h2, ?_⟩
  rcases h3 with h3 | ⟨b, h4, h5, h6, h7, side, h8⟩
  · exact Or.inl (h3.trans (arS_cg h h2).symm)
  · exact Or.inr ⟨b, h4, h5, h6, (rimOk_cg (h a h2) (h b h6)).mpr h7, side, h8.trans (rmS_cg h h2 h6).symm⟩
theorem cnd_sub {X Y : Nat → Int} {R : Int} {s c q : Nat} (hc : Cnd X Y R s 25 c) (hq : c.testBit q = true) : s.testBit q = true := by
  obtain ⟨a, -, -, h3⟩ := hc
  rcases h3 with h3 | ⟨b, -, -, -, -, side, h8⟩
  · rw [h3] at hq
    unfold arS at hq
    rw [tb_mks] at hq
    simp at hq
    exact hq.2.1
  · rw [h8] at hq
    unfold rmS at hq
    rw [tb_mks] at hq
    simp at hq
    exact hq.2.1
theorem hvS_cg {X Y S X' Y' S' : Nat → Int} {R : Int} {s : Nat} (h : ∀ q, s.testBit q = true → X' q = X q ∧ Y' q = Y q ∧ S' q = S q) : hvS X' Y' S' R none s = hvS X Y S R none s := by
  unfold hvS
  by_cases h0 : s = 0
  · rw [if_pos h0, if_pos h0]
  · rw [if_neg h0, if_neg h0]
    congr 1
    funext x y
    refine propext ⟨?_, ?_⟩
    · rintro ⟨c, h1, h2, h3⟩
      have h1' := cnd_cg (X' := X) (Y' := Y) (fun q hq => ⟨(h q hq).1.symm, (h q hq).2.1.symm⟩) h1
      exact ⟨c, h1', h2.trans (sumb_congr fun i _ hi => (h i (cnd_sub h1' hi)).2.2), h3⟩
    · rintro ⟨c, h1, h2, h3⟩
      exact ⟨c, cnd_cg (fun q hq => ⟨(h q hq).1, (h q hq).2.1⟩) h1, h2.trans (sumb_congr fun i _ hi => (h i (cnd_sub h1 hi)).2.2.symm), h3⟩
theorem heav_hv {σ : Sg} {d s M : Nat} {R : Int} (hd : d < 7) (hs : s < 16777216) (hM : M < 16777216) (hRR : 0 ≤ R * R) (h : DI σ d R M) (hg : Grp σ (σ 9)) (hS : ∀ q, M.testBit q = true → 1 ≤ σ 9 q ∧ σ 9 q ≤ 99999) :
    ∃ o : Nat, f_X2_heaviestAmong d (s : Int) σ = some (o : Int) ∧ o < 16777216 ∧ hvS (σ 7) (σ 8) (σ 9) R none (M &&& s) = (sumb (σ 9) o 24, (o : Int)) ∧ (∀ q, o.testBit q = true → (M &&& s).testBit q = true) ∧ HvI (σ 9) (fun j => esN (σ 7) (σ 8) R M j &&& (M &&& s)) 576 o := by
  obtain ⟨o, e, ol, hI⟩ := heav_n hd hs hM h hg hS
  have ee : (fun j => esN (σ 7) (σ 8) R M j &&& s) = (fun j => esN (σ 7) (σ 8) R M j &&& (M &&& s)) := funext fun j => bits_ext fun q => by
    rw [Nat.testBit_and, Nat.testBit_and, Nat.testBit_and]
    cases hq : (esN (σ 7) (σ 8) R M j).testBit q with
    | false => rfl
    | true => rw [esN_M hq, Bool.true_and, Bool.true_and]
  rw [ee] at hI
  refine ⟨o, e, ol, hv_of hM (fun q hq => ?_) hRR (fun q hq => ?_) hI, fun q hq => ?_, hI⟩
  · rw [Nat.testBit_and, Bool.and_eq_true] at hq
    exact hq.1
  · rw [Nat.testBit_and, Bool.and_eq_true] at hq
    have := hS q hq.1
    omega
  · rcases hI with ⟨h0, -⟩ | ⟨-, ⟨j, -, hj⟩, -⟩
    · rw [h0, Nat.zero_testBit] at hq
      cases hq
    · have hj : o = esN (σ 7) (σ 8) R M j &&& (M &&& s) := hj
      rw [hj, Nat.testBit_and, Bool.and_eq_true] at hq
      exact hq.2
theorem and_all {M : Nat} (hM : M < 16777216) : M &&& 16777215 = M := bits_ext fun q => by
  rw [Nat.testBit_and, show (16777215 : Nat) = 2 ^ 24 - 1 from rfl, Nat.testBit_two_pow_sub_one]
  by_cases hq : q < 24
  · rw [decide_eq_true hq, Bool.and_true]
  · rw [tb_24 hM (by omega)]
    rfl
theorem Grp.row {σ z : Sg} {S : Nat → Int} (h : Grp σ S) (e : z 11 = σ 11) : Grp z S := by
  unfold Grp
  rw [e]
  exact h
theorem findWorst_n {σ : Sg} {d M : Nat} {R : Int} (hd : d < 6) (hM : M < 16777216) (hRR : 0 ≤ R * R) (h : DI σ d R M) (hg : Grp σ (σ 9)) (hS : ∀ q, M.testBit q = true → 1 ≤ σ 9 q ∧ σ 9 q ≤ 99999) :
    f_X8_findWorst d σ = some (up (up σ (21 + d) 5 (hvS (σ 7) (σ 8) (σ 9) R none M).2) (21 + d) 6 (hvS (σ 7) (σ 8) (σ 9) R none M).1) := by
  obtain ⟨o, e, ol, ev, -, -⟩ := heav_hv (s := 16777215) (by omega) (by decide) hM hRR h hg hS
  rw [and_all hM] at ev
  have e : f_X2_heaviestAmong d 16777215 σ = some (o : Int) := e
  unfold f_X8_findWorst wr
  rw [ck_t hd, e, Option.bind_some]
  dsimp only
  rw [up_s, sums_n (hg.row (up_k (by omega))) ol, Option.bind_some, ev]
theorem hasMore_n {σ : Sg} {d s M : Nat} {R lim : Int} (hd : d < 7) (hs : s < 16777216) (hM : M < 16777216) (hRR : 0 ≤ R * R) (hl : 0 ≤ lim ∧ lim ≤ 9999999) (h : DI σ d R M) (hg : Grp σ (σ 9)) (hS : ∀ q, M.testBit q = true → 1 ≤ σ 9 q ∧ σ 9 q ≤ 99999) :
    f_X2_hasMore d (s : Int) lim σ = some (if lim < (hvS (σ 7) (σ 8) (σ 9) R none (M &&& s)).1 then 1 else 0) := by
  obtain ⟨o, -, ol, ev, -, hI⟩ := heav_hv hd hs hM hRR h hg hS
  obtain ⟨h2, h5, hE⟩ := h
  rw [ev]
  have ee : ∀ j, esN (σ 7) (σ 8) R M j &&& (M &&& s) = esN (σ 7) (σ 8) R M j &&& s := fun j => bits_ext fun q => by
    rw [Nat.testBit_and, Nat.testBit_and, Nat.testBit_and]
    cases hq : (esN (σ 7) (σ 8) R M j).testBit q with
    | false => rfl
    | true => rw [esN_M hq, Bool.true_and, Bool.true_and]
  have el : ∀ j, esN (σ 7) (σ 8) R M j &&& s < 16777216 := fun j => Nat.lt_of_le_of_lt Nat.and_le_left (esN_24 _ _ _ _ _)
  have bnd : ∀ j, 0 ≤ sumb (σ 9) (esN (σ 7) (σ 8) R M j &&& s) 24 ∧ sumb (σ 9) (esN (σ 7) (σ 8) R M j &&& s) 24 ≤ 24 * 99999 := fun j => sumb_bound (by decide) (fun q _ hq => by
    rw [Nat.testBit_and, Bool.and_eq_true] at hq
    have := hS q (esN_M hq.1)
    omega)
  have le : ∀ j, j < 576 → sumb (σ 9) (esN (σ 7) (σ 8) R M j &&& s) 24 ≤ sumb (σ 9) o 24 := fun j hj => by
    have hI9 := hI
    rcases hI with ⟨h0, h1⟩ | ⟨h0, -, h1⟩
    · have := h1 j hj
      dsimp only at this
      rw [ee] at this
      rw [this, h0]
      omega
    · by_cases hz : esN (σ 7) (σ 8) R M j &&& s = 0
      · rw [hz, sumb_0]
        have p := sumb_pos (S := σ 9) ol h0 (fun q hq => by
          rcases hI9 with ⟨h9, -⟩ | ⟨-, ⟨k, -, hk⟩, -⟩
          · exact absurd h9 h0
          · have hk : o = esN (σ 7) (σ 8) R M k &&& (M &&& s) := hk
            rw [hk, Nat.testBit_and, Bool.and_eq_true] at hq
            have := hS q (esN_M hq.1)
            omega)
        omega
      · have := h1 j hj (by dsimp only; rw [ee]; exact hz)
        dsimp only at this
        rw [ee] at this
        omega
  unfold f_X2_hasMore
  rw [ck_t hd]
  by_cases hlt : lim < sumb (σ 9) o 24
  · rw [if_pos hlt]
    obtain ⟨k, hk, hks⟩ : ∃ k, k < 576 ∧ lim < sumb (σ 9) (esN (σ 7) (σ 8) R M k &&& s) 24 := by
      rcases hI with ⟨h0, -⟩ | ⟨-, ⟨k, hk, h1⟩, -⟩
      · rw [h0, sumb_0] at hlt
        omega
      · dsimp only at h1
        rw [ee] at h1
        rw [h1] at hlt
        exact ⟨k, hk, hlt⟩
    refine loop_at (St := Unit) (F := fun n i _ => f_X2_hasMore_b2 d σ n (s : Int) lim i) 576 (fun i _ => ∀ j, j < i → sumb (σ 9) (esN (σ 7) (σ 8) R M j &&& s) 24 ≤ lim) (by decide) ?_ ?_ 0 (by decide) () (fun j hj => absurd hj (Nat.not_lt_zero _))
    · intro n i _ hi hI
      show f_X2_hasMore_b2 d σ (n + 1) (s : Int) lim (i : Int) = _ ∨ ∃ s', _ ∧ f_X2_hasMore_b2 d σ (n + 1) (s : Int) lim (i : Int) = f_X2_hasMore_b2 d σ n (s : Int) lim ((i : Int) + 1)
      have hv : σ (34 + d) i = ((esN (σ 7) (σ 8) R M i : Nat) : Int) := by
        have := hE (i / 24) (i % 24) (by omega) (by omega)
        rw [show i / 24 * 24 + i % 24 = i by omega] at this
        exact this
      have b := bnd i
      rw [f_X2_hasMore_b2, w32_n (by omega), if_pos (by omega), ck_t (by omega), ntn, hv, and_n (Nat.lt_trans (esN_24 _ _ _ _ _) (by decide)) (by omega), sums_n hg (el i), Option.bind_some, w32_eq (z := sumb (σ 9) (esN (σ 7) (σ 8) R M i &&& s) 24) ⟨by omega, by omega⟩, w32_eq (z := lim) ⟨by omega, by omega⟩]
      by_cases hs1 : sumb (σ 9) (esN (σ 7) (σ 8) R M i &&& s) 24 ≤ lim
      · right
        rw [if_pos hs1]
        exact ⟨(), fun j hj => by
          by_cases e : j = i
          · rw [e]
            exact hs1
          · exact hI j (by omega), rfl⟩
      · left
        rw [if_neg hs1]
    · intro n _ hI
      have := hI k hk
      omega
  · rw [if_neg hlt]
    refine loop_at (St := Unit) (F := fun n i _ => f_X2_hasMore_b2 d σ n (s : Int) lim i) 576 (fun i _ => True) (by decide) ?_ ?_ 0 (by decide) () trivial
    · intro n i _ hi _
      right
      refine ⟨(), trivial, ?_⟩
      show f_X2_hasMore_b2 d σ (n + 1) (s : Int) lim (i : Int) = f_X2_hasMore_b2 d σ n (s : Int) lim ((i : Int) + 1)
      have hv : σ (34 + d) i = ((esN (σ 7) (σ 8) R M i : Nat) : Int) := by
        have := hE (i / 24) (i % 24) (by omega) (by omega)
        rw [show i / 24 * 24 + i % 24 = i by omega] at this
        exact this
      have b := bnd i
      have l := le i hi
      rw [f_X2_hasMore_b2, w32_n (by omega), if_pos (by omega), ck_t (by omega), ntn, hv, and_n (Nat.lt_trans (esN_24 _ _ _ _ _) (by decide)) (by omega), sums_n hg (el i), Option.bind_some, w32_eq (z := sumb (σ 9) (esN (σ 7) (σ 8) R M i &&& s) 24) ⟨by omega, by omega⟩, w32_eq (z := lim) ⟨by omega, by omega⟩, if_pos (by omega)]
    · intro n _ _
      show f_X2_hasMore_b2 d σ (n + 1) (s : Int) lim ((576 : Nat) : Int) = _
      rw [f_X2_hasMore_b2, w32_n (by decide), if_neg (by decide)]
