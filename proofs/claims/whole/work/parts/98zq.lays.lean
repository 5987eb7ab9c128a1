/-! ===== pure level: text, all anew ===== -/
theorem fill9_n {σ : Sg} : ∃ σ', f_J7_fill_53178_9 0 σ = some σ' ∧ (∀ k, k ≠ 9 → σ' k = σ k) ∧ ∀ j, j < 24 → σ' 9 j = 0 := by
  unfold f_J7_fill_53178_9
  obtain ⟨z, n, ⟨hf, hE⟩, he⟩ := loop_ex (F := fun n i z => f_J7_fill_53178_9_b5 n 0 i 24 z) 24 (fun i z => (∀ k, k ≠ 9 → z k = σ k) ∧ ∀ j, j < i → z 9 j = 0) (fun n i z hi hI => by
    obtain ⟨hf, hE⟩ := hI
    show ∃ s', _ ∧ f_J7_fill_53178_9_b5 (n + 1) 0 (i : Int) 24 z = f_J7_fill_53178_9_b5 n 0 ((i : Int) + 1) 24 s'
    rw [f_J7_fill_53178_9_b5, w32_n (by omega), show w32 24 = 24 by decide, if_pos (show (i : Int) < 24 by omega), ck_t (by omega), ntn]
    unfold wr
    refine ⟨_, ⟨fun k hk => by rw [up_k hk]; exact hf k hk, fun j hj => ?_⟩, rfl⟩
    by_cases e : j = i
    · rw [e, up_s]
    · rw [up_j e]
      exact hE j (by omega)) 24 0 σ FUEL (by omega) ⟨fun _ _ => rfl, fun _ h => absurd h (Nat.not_lt_zero _)⟩ (fuel_lt (by omega))
  refine ⟨z, ?_, hf, hE⟩
  have he : f_J7_fill_53178_9_b5 FUEL 0 0 24 σ = f_J7_fill_53178_9_b5 (n + 1) 0 ((24 : Nat) : Int) 24 z := he
  rw [he, f_J7_fill_53178_9_b5, if_neg (show ¬ w32 ((24 : Nat) : Int) < w32 24 by decide)]
theorem fill11_n {σ : Sg} : ∃ σ', f_J7_fill_53178_11 0 σ = some σ' ∧ (∀ k, k ≠ 11 → σ' k = σ k) ∧ ∀ j, j < 768 → σ' 11 j = 0 := by
  unfold f_J7_fill_53178_11
  obtain ⟨z, n, ⟨hf, hE⟩, he⟩ := loop_ex (F := fun n i z => f_J7_fill_53178_11_b5 n 0 i 768 z) 768 (fun i z => (∀ k, k ≠ 11 → z k = σ k) ∧ ∀ j, j < i → z 11 j = 0) (fun n i z hi hI => by
    obtain ⟨hf, hE⟩ := hI
    show ∃ s', _ ∧ f_J7_fill_53178_11_b5 (n + 1) 0 (i : Int) 768 z = f_J7_fill_53178_11_b5 n 0 ((i : Int) + 1) 768 s'
    rw [f_J7_fill_53178_11_b5, w32_n (by omega), show w32 768 = 768 by decide, if_pos (show (i : Int) < 768 by omega), ck_t (by omega), ntn]
    unfold wr
    refine ⟨_, ⟨fun k hk => by rw [up_k hk]; exact hf k hk, fun j hj => ?_⟩, rfl⟩
    by_cases e : j = i
    · rw [e, up_s]
    · rw [up_j e]
      exact hE j (by omega)) 768 0 σ FUEL (by omega) ⟨fun _ _ => rfl, fun _ h => absurd h (Nat.not_lt_zero _)⟩ (fuel_lt (by omega))
  refine ⟨z, ?_, hf, hE⟩
  have he : f_J7_fill_53178_11_b5 FUEL 0 0 768 σ = f_J7_fill_53178_11_b5 (n + 1) 0 ((768 : Nat) : Int) 768 z := he
  rw [he, f_J7_fill_53178_11_b5, if_neg (show ¬ w32 ((768 : Nat) : Int) < w32 768 by decide)]
theorem sumb_z {S : Nat → Int} {s : Nat} : ∀ n, (∀ i, i < n → S i = 0) → sumb S s n = 0
  | 0, _ => rfl
  | n + 1, h => by
    rw [sumb, sumb_z n (fun i hi => h i (by omega)), h n (by omega)]
    split <;> rfl
theorem clear_n {σ : Sg} : ∃ σ', f_X0_clear σ = some σ' ∧ (∀ k, k ≠ 6 → k ≠ 9 → k ≠ 11 → σ' k = σ k) ∧ σ' 6 5 = ((0 : Nat) : Int) ∧ (∀ j, j < 24 → σ' 9 j = 0) ∧ Grp σ' (σ' 9) := by
  unfold f_X0_clear wr
  dsimp only
  obtain ⟨w, e1, f1, v1⟩ := fill9_n (σ := up σ 6 5 0)
  obtain ⟨u, e2, f2, v2⟩ := fill11_n (σ := w)
  rw [e1, Option.bind_some, e2, Option.bind_some]
  have u9 : u 9 = w 9 := f2 9 (by decide)
  refine ⟨u, rfl, fun k h1 h2 h3 => ?_, ?_, fun j hj => ?_, fun g i hg hi => ?_⟩
  · rw [f2 k h3, f1 k h2, up_k h1]
  · rw [f2 6 (by decide), f1 6 (by decide), up_s]
    rfl
  · rw [u9]
    exact v1 j hj
  · rw [v2 _ (by omega), sumb_z 8 (fun k hk => by
      show u 9 (8 * g + k) = 0
      rw [u9]
      exact v1 _ (by omega))]
theorem ofPolicy_n {z : Sg} {p j : Nat} (hp : p < 24) (hj : j < 4) : f_X4_ofPolicy (p : Int) (j : Int) z = some (z 4 (4 * p + j)) := by
  unfold f_X4_ofPolicy
  rw [w32_eq (z := (p : Int) * 4 + j) ⟨by omega, by omega⟩, if_neg (by omega), if_pos (by omega), ck_t (by omega), show ((p : Int) * 4 + (j : Int)).toNat = 4 * p + j by omega]
theorem ofTreaty_n {z : Sg} {p j : Nat} (hp : p < 6) (hj : j < 3) : f_X4_ofTreaty (p : Int) (j : Int) z = some (z 5 (3 * p + j)) := by
  unfold f_X4_ofTreaty
  rw [w32_eq (z := (p : Int) * 3 + j) ⟨by omega, by omega⟩, if_neg (by omega), if_pos (by omega), ck_t (by omega), show ((p : Int) * 3 + (j : Int)).toNat = 3 * p + j by omega]
def Fk (i : Nat) : Nat := mks (fun q => decide (q < i)) 24
theorem tb_Fk {i q : Nat} (hi : i ≤ 24) : (Fk i).testBit q = decide (q < i) := by
  unfold Fk
  rw [tb_mks]
  by_cases h : q < i
  · rw [decide_eq_true h, decide_eq_true (show q < 24 by omega)]
    rfl
  · rw [decide_eq_false h, Bool.and_false]
theorem Fk_s {i : Nat} (hi : i < 24) : Fk i ||| 2 ^ i = Fk (i + 1) := bits_ext fun q => by
  rw [Nat.testBit_or, tb_pow, tb_Fk (by omega), tb_Fk (by omega)]
  by_cases h : q = i
  · subst h
    simp
  · rw [beq_false_of_ne h, Bool.or_false, decide_eq_decide]
    omega
theorem Fk_0 : Fk 0 = 0 := bits_ext fun q => by
  rw [tb_Fk (by decide), Nat.zero_testBit]
  exact decide_eq_false (by omega)
theorem Fk_24 (i : Nat) : Fk i < 16777216 := mks_24 _
/-- the policies of a text, as the class enters them -/
theorem dPols_n {z : Sg} {k : Nat} (hk : k ≤ 24) (h5 : z 3 5 = (k : Int)) (h6 : z 6 5 = ((0 : Nat) : Int)) (hg : Grp z (z 9)) :
    ∃ z', f_X9_beginAnew_b38 FUEL 0 z = f_X9_beginAnew_b99 z' ∧ (∀ j, ¬ (6 ≤ j ∧ j ≤ 11) → z' j = z j) ∧ z' 6 5 = ((Fk k : Nat) : Int) ∧ Grp z' (z' 9) ∧ ∀ q, z' 7 q = (if q < k then z 4 (4 * q + 0) else z 7 q) ∧ z' 8 q = (if q < k then z 4 (4 * q + 1) else z 8 q) ∧ z' 9 q = (if q < k then z 4 (4 * q + 2) else z 9 q) ∧ z' 10 q = (if q < k then z 4 (4 * q + 3) else z 10 q) := by
  obtain ⟨u, m, ⟨hf, hF, hG, hr⟩, he⟩ := loop_ex (F := fun n i u => f_X9_beginAnew_b38 n i u) k (fun i u => (∀ j, ¬ (6 ≤ j ∧ j ≤ 11) → u j = z j) ∧ u 6 5 = ((Fk i : Nat) : Int) ∧ Grp u (u 9) ∧ ∀ q, u 7 q = (if q < i then z 4 (4 * q + 0) else z 7 q) ∧ u 8 q = (if q < i then z 4 (4 * q + 1) else z 8 q) ∧ u 9 q = (if q < i then z 4 (4 * q + 2) else z 9 q) ∧ u 10 q = (if q < i then z 4 (4 * q + 3) else z 10 q)) (fun m i u hi hI => by
    obtain ⟨hf, hF, hG, hr⟩ := hI
    show ∃ s', _ ∧ f_X9_beginAnew_b38 (m + 1) (i : Int) u = f_X9_beginAnew_b38 m ((i : Int) + 1) s'
    have u4 : u 4 = z 4 := hf 4 (by omega)
    have o0 : f_X4_ofPolicy (i : Int) 0 u = some (z 4 (4 * i + 0)) := by rw [← u4]; exact ofPolicy_n (j := 0) (by omega) (by decide)
    have o1 : f_X4_ofPolicy (i : Int) 1 u = some (z 4 (4 * i + 1)) := by rw [← u4]; exact ofPolicy_n (j := 1) (by omega) (by decide)
    have o2 : f_X4_ofPolicy (i : Int) 2 u = some (z 4 (4 * i + 2)) := by rw [← u4]; exact ofPolicy_n (j := 2) (by omega) (by decide)
    have o3 : f_X4_ofPolicy (i : Int) 3 u = some (z 4 (4 * i + 3)) := by rw [← u4]; exact ofPolicy_n (j := 3) (by omega) (by decide)
    obtain ⟨w, e1, g1, g2, g7, g8, g9, g10, g11⟩ := enter_n (σ := u) (p := i) (F := Fk i) (x := z 4 (4 * i + 0)) (y := z 4 (4 * i + 1)) (s := z 4 (4 * i + 2)) (q := z 4 (4 * i + 3)) (by omega) hF (Fk_24 i) hG
    rw [f_X9_beginAnew_b38, w32_n (by omega), hf 3 (by omega), h5, w32_n (by omega), if_pos (show (i : Int) < (k : Int) by omega), o0, Option.bind_some, o1, Option.bind_some, o2, Option.bind_some, o3, Option.bind_some, e1, Option.bind_some]
    refine ⟨w, ⟨fun j hj => (g1 j hj).trans (hf j hj), by rw [g2, Fk_s (by omega)], g11, fun q => ?_⟩, rfl⟩
    obtain ⟨r7, r8, r9, r10⟩ := hr q
    rw [g7, g8, g9, g10]
    by_cases e : q = i
    · subst e
      rw [updF_s, updF_s, updF_s, updF_s, if_pos (by omega), if_pos (by omega), if_pos (by omega), if_pos (by omega)]
      exact ⟨rfl, rfl, rfl, rfl⟩
    · rw [updF_o e, updF_o e, updF_o e, updF_o e, r7, r8, r9, r10]
      by_cases c : q < i
      · rw [if_pos c, if_pos c, if_pos c, if_pos c, if_pos (by omega), if_pos (by omega), if_pos (by omega), if_pos (by omega)]
        exact ⟨rfl, rfl, rfl, rfl⟩
      · rw [if_neg c, if_neg c, if_neg c, if_neg c, if_neg (by omega), if_neg (by omega), if_neg (by omega), if_neg (by omega)]
        exact ⟨rfl, rfl, rfl, rfl⟩) k 0 z FUEL (by omega) ⟨fun _ _ => rfl, by rw [h6, Fk_0], hg, fun q => by rw [if_neg (by omega), if_neg (by omega), if_neg (by omega), if_neg (by omega)]; exact ⟨rfl, rfl, rfl, rfl⟩⟩ (fuel_lt (by omega))
  refine ⟨u, ?_, hf, hF, hG, hr⟩
  have he : f_X9_beginAnew_b38 FUEL 0 z = f_X9_beginAnew_b38 (m + 1) (k : Int) u := he
  rw [he, f_X9_beginAnew_b38, hf 3 (by omega), h5, if_neg (Int.lt_irrefl _)]
/-- and as the reference lays them -/
theorem mPols_n {ζ : Sg} {k : Nat} (hk : k ≤ 24) (h5 : ζ 41 5 = (k : Int)) :
    ∃ ζ', f_X10_lays_b2 FUEL 0 ζ = f_X10_lays_b85 ζ' ∧ (∀ j, ¬ (45 ≤ j ∧ j ≤ 49) → ζ' j = ζ j) ∧ ∀ q, q < 24 → ζ' 49 q = (if q < k then 1 else 0) ∧ ζ' 45 q = (if q < k then ζ 43 (4 * q + 0) else ζ 45 q) ∧ ζ' 46 q = (if q < k then ζ 43 (4 * q + 1) else ζ 46 q) ∧ ζ' 47 q = (if q < k then ζ 43 (4 * q + 2) else ζ 47 q) ∧ ζ' 48 q = (if q < k then ζ 43 (4 * q + 3) else ζ 48 q) := by
  obtain ⟨u, m, ⟨hf, hr, hs⟩, he⟩ := loop_ex (F := fun n i u => f_X10_lays_b2 n i u) 24 (fun i u => (∀ j, ¬ (45 ≤ j ∧ j ≤ 49) → u j = ζ j) ∧ (∀ q, q < i → u 49 q = (if q < k then 1 else 0) ∧ u 45 q = (if q < k then ζ 43 (4 * q + 0) else ζ 45 q) ∧ u 46 q = (if q < k then ζ 43 (4 * q + 1) else ζ 46 q) ∧ u 47 q = (if q < k then ζ 43 (4 * q + 2) else ζ 47 q) ∧ u 48 q = (if q < k then ζ 43 (4 * q + 3) else ζ 48 q)) ∧ ∀ q, i ≤ q → u 45 q = ζ 45 q ∧ u 46 q = ζ 46 q ∧ u 47 q = ζ 47 q ∧ u 48 q = ζ 48 q) (fun m i u hi hI => by
    obtain ⟨hf, hr, hs⟩ := hI
    show ∃ s', _ ∧ f_X10_lays_b2 (m + 1) (i : Int) u = f_X10_lays_b2 m ((i : Int) + 1) s'
    have hck : 0 ≤ ((i : Nat) : Int) ∧ ((i : Nat) : Int) < 25 := by omega
    rw [f_X10_lays_b2, w32_n (by omega), if_pos (show (i : Int) < 24 by omega), hf 41 (by omega), h5, w32_n (by omega)]
    by_cases c : i < k
    · rw [if_pos (show (i : Int) < (k : Int) by omega)]
      unfold f_X10_lays_b26 wr
      dsimp only
      rw [ck_t hck, ck_t (Or.inr rfl), ntn, ck_t hck, up_s, if_neg (show ¬ w32 1 = 0 by decide), ck_t (by omega), ck_t (by omega), ck_t (by omega), ck_t (by omega), up_k (by decide : (43 : Nat) ≠ 49), hf 43 (by omega), show (4 * (i : Int)).toNat = 4 * i + 0 by omega, show (4 * (i : Int) + 1).toNat = 4 * i + 1 by omega, show (4 * (i : Int) + 2).toNat = 4 * i + 2 by omega, show (4 * (i : Int) + 3).toNat = 4 * i + 3 by omega]
      unfold f_X10_puts wr
      dsimp only
      rw [ck_t hck, ck_t hck, ck_t hck, ck_t hck, Option.bind_some, ntn]
      refine ⟨_, ⟨fun j hj => ?_, fun q hq => ?_, fun q hq => ?_⟩, rfl⟩
      · rw [up_k (by omega), up_k (by omega), up_k (by omega), up_k (by omega), up_k (by omega)]
        exact hf j hj
      · by_cases e : q = i
        · subst e
          rw [if_pos c, if_pos c, if_pos c, if_pos c, if_pos c]
          refine ⟨?_, ?_, ?_, ?_, up_s⟩
          · rw [up_k (by decide), up_k (by decide), up_k (by decide), up_k (by decide), up_s]
          · rw [up_k (by decide), up_k (by decide), up_k (by decide), up_s]
          · rw [up_k (by decide), up_k (by decide), up_s]
          · rw [up_k (by decide), up_s]
        · obtain ⟨r1, r2, r3, r4, r5⟩ := hr q (by omega)
          refine ⟨?_, ?_, ?_, ?_, ?_⟩
          · rw [up_k (by decide), up_k (by decide), up_k (by decide), up_k (by decide), up_j e]
            exact r1
          · rw [up_k (by decide), up_k (by decide), up_k (by decide), up_j e, up_k (by decide)]
            exact r2
          · rw [up_k (by decide), up_k (by decide), up_j e, up_k (by decide), up_k (by decide)]
            exact r3
          · rw [up_k (by decide), up_j e, up_k (by decide), up_k (by decide), up_k (by decide)]
            exact r4
          · rw [up_j e, up_k (by decide), up_k (by decide), up_k (by decide), up_k (by decide)]
            exact r5
      · obtain ⟨r2, r3, r4, r5⟩ := hs q (by omega)
        have e : q ≠ i := by omega
        refine ⟨?_, ?_, ?_, ?_⟩
        · rw [up_k (by decide), up_k (by decide), up_k (by decide), up_j e, up_k (by decide)]
          exact r2
        · rw [up_k (by decide), up_k (by decide), up_j e, up_k (by decide), up_k (by decide)]
          exact r3
        · rw [up_k (by decide), up_j e, up_k (by decide), up_k (by decide), up_k (by decide)]
          exact r4
        · rw [up_j e, up_k (by decide), up_k (by decide), up_k (by decide), up_k (by decide)]
          exact r5
    · rw [if_neg (show ¬ (i : Int) < (k : Int) by omega)]
      unfold f_X10_lays_b26 wr
      dsimp only
      rw [ck_t hck, ck_t (Or.inl rfl), ntn, ck_t hck, up_s, if_pos (show w32 0 = 0 by decide)]
      refine ⟨_, ⟨fun j hj => ?_, fun q hq => ?_, fun q hq => ?_⟩, rfl⟩
      · rw [up_k (by omega)]
        exact hf j hj
      · rw [up_k (by decide : (45 : Nat) ≠ 49), up_k (by decide : (46 : Nat) ≠ 49), up_k (by decide : (47 : Nat) ≠ 49), up_k (by decide : (48 : Nat) ≠ 49)]
        by_cases e : q = i
        · subst e
          obtain ⟨r2, r3, r4, r5⟩ := hs q (Nat.le_refl q)
          rw [if_neg c, if_neg c, if_neg c, if_neg c, if_neg c]
          exact ⟨up_s, r2, r3, r4, r5⟩
        · rw [up_j e]
          exact hr q (by omega)
      · rw [up_k (by decide), up_k (by decide), up_k (by decide), up_k (by decide)]
        exact hs q (by omega)) 24 0 ζ FUEL (by omega) ⟨fun _ _ => rfl, fun q hq => by omega, fun q _ => ⟨rfl, rfl, rfl, rfl⟩⟩ (fuel_lt (by omega))
  refine ⟨u, ?_, hf, hr⟩
  have he : f_X10_lays_b2 FUEL 0 ζ = f_X10_lays_b2 (m + 1) ((24 : Nat) : Int) u := he
  rw [he, f_X10_lays_b2, if_neg (show ¬ w32 ((24 : Nat) : Int) < 24 by decide)]
/-- the treaties of a text, as the reference begins them -/
theorem mBegs_n {ζ : Sg} {k : Nat} (hk : k ≤ 6) (h27 : ζ 41 27 = (k : Int)) :
    ∃ ζ', f_X10_lays_b95 FUEL 0 ζ = f_X10_lays_b142 ζ' ∧ (∀ j, ¬ (50 ≤ j ∧ j ≤ 54) → ζ' j = ζ j) ∧ ∀ q, ζ' 50 q = (if q < k then ζ 44 (3 * q + 0) else ζ 50 q) ∧ ζ' 51 q = (if q < k then ζ 44 (3 * q + 1) else ζ 51 q) ∧ ζ' 52 q = (if q < k then ζ 44 (3 * q + 2) else ζ 52 q) ∧ ζ' 53 q = (if q < k then -2 else ζ 53 q) ∧ ζ' 54 q = (if q < k then 0 else ζ 54 q) := by
  obtain ⟨u, m, ⟨hf, hr⟩, he⟩ := loop_ex (F := fun n i u => f_X10_lays_b95 n i u) k (fun i u => (∀ j, ¬ (50 ≤ j ∧ j ≤ 54) → u j = ζ j) ∧ ∀ q, u 50 q = (if q < i then ζ 44 (3 * q + 0) else ζ 50 q) ∧ u 51 q = (if q < i then ζ 44 (3 * q + 1) else ζ 51 q) ∧ u 52 q = (if q < i then ζ 44 (3 * q + 2) else ζ 52 q) ∧ u 53 q = (if q < i then -2 else ζ 53 q) ∧ u 54 q = (if q < i then 0 else ζ 54 q)) (fun m i u hi hI => by
    obtain ⟨hf, hr⟩ := hI
    show ∃ s', _ ∧ f_X10_lays_b95 (m + 1) (i : Int) u = f_X10_lays_b95 m ((i : Int) + 1) s'
    have hck : 0 ≤ ((i : Nat) : Int) ∧ ((i : Nat) : Int) < 6 := by omega
    rw [f_X10_lays_b95, w32_n (by omega), hf 41 (by omega), h27, w32_n (by omega), if_pos (show (i : Int) < (k : Int) by omega), ck_t (by omega), ck_t (by omega), ck_t (by omega), hf 44 (by omega), show (3 * (i : Int)).toNat = 3 * i + 0 by omega, show (3 * (i : Int) + 1).toNat = 3 * i + 1 by omega, show (3 * (i : Int) + 2).toNat = 3 * i + 2 by omega]
    unfold f_X10_begins wr
    dsimp only
    rw [ck_t hck, ck_t hck, ck_t hck, ck_t hck, ck_t hck, Option.bind_some, ntn]
    refine ⟨_, ⟨fun j hj => ?_, fun q => ?_⟩, rfl⟩
    · rw [up_k (by omega), up_k (by omega), up_k (by omega), up_k (by omega), up_k (by omega)]
      exact hf j hj
    · by_cases e : q = i
      · subst e
        rw [if_pos (Nat.lt_succ_self q), if_pos (Nat.lt_succ_self q), if_pos (Nat.lt_succ_self q), if_pos (Nat.lt_succ_self q), if_pos (Nat.lt_succ_self q)]
        refine ⟨?_, ?_, ?_, ?_, up_s⟩
        · rw [up_k (by decide), up_k (by decide), up_k (by decide), up_k (by decide), up_s]
        · rw [up_k (by decide), up_k (by decide), up_k (by decide), up_s]
        · rw [up_k (by decide), up_k (by decide), up_s]
        · rw [up_k (by decide), up_s]
      · obtain ⟨r0, r1, r2, r3, r4⟩ := hr q
        have cc : (q < i + 1) = (q < i) := propext ⟨fun h => by omega, fun h => by omega⟩
        simp only [cc]
        refine ⟨?_, ?_, ?_, ?_, ?_⟩
        · rw [up_k (by decide), up_k (by decide), up_k (by decide), up_k (by decide), up_j e]
          exact r0
        · rw [up_k (by decide), up_k (by decide), up_k (by decide), up_j e, up_k (by decide)]
          exact r1
        · rw [up_k (by decide), up_k (by decide), up_j e, up_k (by decide), up_k (by decide)]
          exact r2
        · rw [up_k (by decide), up_j e, up_k (by decide), up_k (by decide), up_k (by decide)]
          exact r3
        · rw [up_j e, up_k (by decide), up_k (by decide), up_k (by decide), up_k (by decide)]
          exact r4) k 0 ζ FUEL (by omega) ⟨fun _ _ => rfl, fun q => by rw [if_neg (by omega), if_neg (by omega), if_neg (by omega), if_neg (by omega), if_neg (by omega)]; exact ⟨rfl, rfl, rfl, rfl, rfl⟩⟩ (fuel_lt (by omega))
  refine ⟨u, ?_, hf, hr⟩
  have he : f_X10_lays_b95 FUEL 0 ζ = f_X10_lays_b95 (m + 1) (k : Int) u := he
  rw [he, f_X10_lays_b95, hf 41 (by omega), h27, if_neg (Int.lt_irrefl _)]
