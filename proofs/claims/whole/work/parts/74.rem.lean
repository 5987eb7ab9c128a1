/-! ===== pure level: one less in the class's discs; all anew ===== -/
theorem row_set {σ : Sg} {d a0 b0 : Nat} {E : Nat → Nat → Nat → Bool} (P : Nat → Bool) (h : RowE σ d E) (hb : b0 < 24) :
    RowE (up σ (34 + d) (a0 * 24 + b0) ((mks P 24 : Nat) : Int)) d (fun a b q => if a = a0 ∧ b = b0 then P q else E a b q) := by
  intro a b ha' hb'
  by_cases e : a = a0 ∧ b = b0
  · obtain ⟨rfl, rfl⟩ := e
    rw [up_s]
    congr 1
    exact mks_congr fun q _ => (if_pos ⟨rfl, rfl⟩).symm
  · rw [up_j (by omega), h a b ha' hb']
    congr 1
    exact mks_congr fun q _ => (if_neg e).symm
theorem tb_clr {M p q : Nat} (hM : M < 16777216) : (M &&& (2 ^ p ^^^ 4294967295)).testBit q = (M.testBit q && !(q == p)) := by
  rw [Nat.testBit_and, Nat.testBit_xor, tb_pow, show (4294967295 : Nat) = 2 ^ 32 - 1 from rfl, Nat.testBit_two_pow_sub_one]
  by_cases hq : q < 24
  · rw [decide_eq_true (by omega)]
    cases q == p <;> simp
  · rw [tb_24 hM (by omega)]
    simp
theorem clr_lt {M p : Nat} (hM : M < 16777216) : M &&& (2 ^ p ^^^ 4294967295) < 16777216 := Nat.lt_of_le_of_lt Nat.and_le_left hM
theorem xor_lt32 {p : Nat} (hp : p < 32) : 2 ^ p ^^^ 4294967295 < 4294967296 := nb_xor (pow_lt hp) (by decide)
theorem mks_andm {P : Nat → Bool} {m : Nat} : mks P 24 &&& m = mks (fun q => P q && m.testBit q) 24 := bits_ext fun i => by
  rw [Nat.testBit_and, tb_mks, tb_mks, Bool.and_assoc]
theorem remove_n {σ : Sg} {d p M : Nat} {R : Int} (hd : d < 7) (hp : p < 24) (hMl : M < 16777216) (h : DI σ d R M) :
    ∃ σ', f_X2_remove d (p : Int) σ = some σ' ∧ DI σ' d R (M &&& (2 ^ p ^^^ 4294967295)) ∧ FrD d σ σ' := by
  obtain ⟨h2, h5, hE⟩ := h
  have hMl' := clr_lt (p := p) hMl
  unfold f_X2_remove wr
  dsimp only
  rw [ck_t hd, isNumber_t hp, Option.bind_some, w32_1, if_neg (by decide), h5, one_shl (by omega), u32_nat (pow_lt (by omega)), u32_nat (by omega)]
  have tM' : ∀ q, (M &&& (2 ^ p ^^^ 4294967295)).testBit q = (M.testBit q && !(q == p)) := fun q => tb_clr hMl
  generalize M &&& (2 ^ p ^^^ 4294967295) = M' at *
  have s2 : up σ (27 + d) 5 (M' : Int) (27 + d) 2 = R := by rw [up_j (by decide)]; exact h2
  have s5 : up σ (27 + d) 5 (M' : Int) (27 + d) 5 = (M' : Int) := up_s
  have s34 : up σ (27 + d) 5 (M' : Int) (34 + d) = σ (34 + d) := up_k (by omega)
  have s7 : up σ (27 + d) 5 (M' : Int) 7 = σ 7 := up_k (by omega)
  have s8 : up σ (27 + d) 5 (M' : Int) 8 = σ 8 := up_k (by omega)
  generalize hs3 : up σ (27 + d) 5 (M' : Int) = s3 at *
  have fr3 : FrD d σ s3 := fun k j hk hj => by
    rw [← hs3]
    by_cases hk2 : k = 27 + d
    · subst hk2
      rw [up_j (by omega)]
    · rw [up_k hk2]
  obtain ⟨z, n, ⟨hf, hE2⟩, he⟩ := loop_ex (F := fun n i z => f_X2_remove_b24 d n (p : Int) i z) 576 (fun i z => FrR d s3 z ∧ RowE z d (fun a b q => esS (σ 7) (σ 8) R M a b q && (decide (i ≤ a * 24 + b) || M'.testBit q))) (fun n i z hi hI => by
    obtain ⟨hf, hE2⟩ := hI
    show ∃ s', _ ∧ f_X2_remove_b24 d (n + 1) (p : Int) (i : Int) z = f_X2_remove_b24 d n (p : Int) ((i : Int) + 1) s'
    have z27 : z (27 + d) 5 = (M' : Int) := by rw [hf _ (by omega)]; exact s5
    have hv := hE2 (i / 24) (i % 24) (by omega) (by omega)
    have ei : i / 24 * 24 + i % 24 = i := by omega
    dsimp only at hv
    rw [ei] at hv
    rw [f_X2_remove_b24, w32_n (by omega), if_pos (by omega), ck_t (by omega), ck_t (by omega), ntn, z27, hv, and_n (Nat.lt_trans (mks_24 _) (by decide)) (by omega), mks_andm]
    unfold wr
    have r1 := row_set (a0 := i / 24) (b0 := i % 24) (fun q => (esS (σ 7) (σ 8) R M (i / 24) (i % 24) q && (decide (i ≤ i) || M'.testBit q)) && M'.testBit q) hE2 (by omega)
    rw [ei] at r1
    refine ⟨_, ⟨hf.up, r1.cg fun a b q ha hb _ => ?_⟩, rfl⟩
    by_cases e : a = i / 24 ∧ b = i % 24
    · rw [if_pos e, e.1, e.2, ei, decide_eq_false (p := i + 1 ≤ i) (by omega), decide_eq_true (p := i ≤ i) (by omega)]
      simp
    · rw [if_neg e]
      congr 2
      rw [decide_eq_decide]
      omega) 576 0 s3 FUEL (by omega) ⟨FrR.rf, (hE.row s34).cg fun a b q _ _ _ => by rw [decide_eq_true (by omega)]; simp⟩ (fuel_lt (by omega))
  have he : f_X2_remove_b24 d FUEL (p : Int) 0 s3 = f_X2_remove_b24 d (n + 1) (p : Int) ((576 : Nat) : Int) z := he
  rw [he, f_X2_remove_b24, w32_n (by decide), if_neg (by decide)]
  unfold f_X2_remove_b50
  have hE3 : RowE z d (fun a b q => esS (σ 7) (σ 8) R M a b q && M'.testBit q) := hE2.cg fun a b q _ _ _ => by rw [decide_eq_false (by omega), Bool.false_or]
  obtain ⟨w, m, ⟨gf, gE⟩, ge⟩ := loop_ex (F := fun n i z => f_X2_remove_b52 d n (p : Int) i z) 24 (fun i w => FrR d z w ∧ RowE w d (fun a b q => (esS (σ 7) (σ 8) R M a b q && M'.testBit q) && !((a == p && decide (b < i)) || (b == p && decide (a < i))))) (fun n i w hi hI => by
    obtain ⟨gf, gE⟩ := hI
    show ∃ s', _ ∧ f_X2_remove_b52 d (n + 1) (p : Int) (i : Int) w = f_X2_remove_b52 d n (p : Int) ((i : Int) + 1) s'
    rw [f_X2_remove_b52, w32_n (by omega), if_pos (by omega), ck_t (by omega), ixn]
    unfold wr
    dsimp only
    rw [ck_t (by omega), ixn]
    have r1 := row_set (a0 := p) (b0 := i) (fun q => false) gE hi
    have r2 := row_set (a0 := i) (b0 := p) (fun q => false) r1 hp
    have z0 : ((mks (fun _ => false) 24 : Nat) : Int) = 0 := by rw [mks_ff (fun _ _ => rfl)]; rfl
    rw [z0] at r2
    refine ⟨_, ⟨(gf.up).up, r2.cgi fun a b q ha hb _ => ?_⟩, rfl⟩
    generalize (esS (σ 7) (σ 8) R M a b q && M'.testBit q) = e
    by_cases e1 : a = i ∧ b = p
    · rw [if_pos e1]
      simp [e1.1, e1.2]
    · rw [if_neg e1]
      by_cases e2 : a = p ∧ b = i
      · rw [if_pos e2]
        simp [e2.1, e2.2]
      · rw [if_neg e2]
        simp only [Bool.and_eq_true, Bool.not_eq_true', Bool.or_eq_false_iff, Bool.and_eq_false_iff, beq_eq_false_iff_ne, decide_eq_false_iff_not, ne_eq]
        constructor
        · rintro ⟨h1, h2, h3⟩
          exact ⟨h1, by omega, by omega⟩
        · rintro ⟨h1, h2, h3⟩
          exact ⟨h1, by omega, by omega⟩) 24 0 z FUEL (by omega) ⟨FrR.rf, hE3.cg fun a b q _ _ _ => by simp⟩ (fuel_lt (by omega))
  have ff := hf.tr gf
  refine ⟨w, ?_, ⟨?_, ?_, ?_⟩, ?_⟩
  · refine ge.trans ?_
    show f_X2_remove_b52 d (m + 1) (p : Int) ((24 : Nat) : Int) w = _
    rw [f_X2_remove_b52, w32_n (by decide), if_neg (by decide)]
  · rw [ff _ (by omega)]
    exact s2
  · rw [ff _ (by omega)]
    exact s5
  · rw [ff 7 (by omega), ff 8 (by omega), s7, s8]
    refine gE.cg fun a b q ha hb _ => ?_
    unfold esS
    rw [tM', tM', tM', decide_eq_true ha, decide_eq_true hb]
    generalize (if a = b then decide (d2 (σ 7) (σ 8) a q ≤ R * R) else rimD (σ 7) (σ 8) R a b false q) = v
    cases M.testBit a <;> cases M.testBit b <;> cases M.testBit q <;> cases a == p <;> cases b == p <;> cases q == p <;> cases v <;> rfl
  · refine fr3.tr fun k j hk _ => by rw [ff k hk]
theorem fill34_n {σ : Sg} {d : Nat} (hd : d < 7) : ∃ σ', f_J7_fill_53178_34 d 0 σ = some σ' ∧ FrR d σ σ' ∧ RowE σ' d (fun _ _ _ => false) := by
  unfold f_J7_fill_53178_34
  obtain ⟨z, n, ⟨hf, hE⟩, he⟩ := loop_ex (F := fun n i z => f_J7_fill_53178_34_b5 d n 0 i 576 z) 576 (fun i z => FrR d σ z ∧ ∀ j, j < i → z (34 + d) j = 0) (fun n i z hi hI => by
    obtain ⟨hf, hE⟩ := hI
    show ∃ s', _ ∧ f_J7_fill_53178_34_b5 d (n + 1) 0 (i : Int) 576 z = f_J7_fill_53178_34_b5 d n 0 ((i : Int) + 1) 576 s'
    rw [f_J7_fill_53178_34_b5, w32_n (by omega), show (576 : Int) = ((576 : Nat) : Int) from rfl, w32_n (by omega), if_pos (by omega), ck_t (by omega), ntn]
    unfold wr
    refine ⟨_, ⟨hf.up, fun j hj => ?_⟩, rfl⟩
    by_cases e : j = i
    · rw [e, up_s]
    · rw [up_j e]
      exact hE j (by omega)) 576 0 σ FUEL (by omega) ⟨FrR.rf, fun _ h => absurd h (Nat.not_lt_zero _)⟩ (fuel_lt (by omega))
  refine ⟨z, ?_, hf, fun a b ha hb => ?_⟩
  · have he : f_J7_fill_53178_34_b5 d FUEL 0 0 576 σ = f_J7_fill_53178_34_b5 d (n + 1) 0 ((576 : Nat) : Int) 576 z := he
    rw [ck_t hd, he, f_J7_fill_53178_34_b5, show (576 : Int) = ((576 : Nat) : Int) from rfl, w32_n (by omega), if_neg (by omega)]
  · rw [hE _ (by omega), mks_ff (fun _ _ => rfl)]
    rfl
theorem fill_n {σ : Sg} {d s F : Nat} {R : Int} (hd : d < 7) (hF : σ 6 5 = (F : Int)) (hFl : F < 16777216) (hs : ∀ q, s.testBit q = true → F.testBit q = true) (hR2 : 0 ≤ R ∧ R ≤ 300) (hPl : ∀ q, q < 24 → Pl (σ 7) (σ 8) q) :
    ∃ σ', f_X2_fill d R (s : Int) σ = some σ' ∧ DI σ' d R s ∧ FrD d σ σ' := by
  have hsl := sub_24 hFl hs
  unfold f_X2_fill wr
  dsimp only
  rw [ck_t hd]
  obtain ⟨s3, e3, f3, r3⟩ := fill34_n (σ := up (up σ (27 + d) 2 R) (27 + d) 5 0) hd
  rw [e3, Option.bind_some]
  have fr3 : FrD d σ s3 := fun k j hk hj => by
    rw [f3 k hk]
    by_cases hk2 : k = 27 + d
    · subst hk2
      rw [up_j (by omega), up_j (by omega)]
    · rw [up_k hk2, up_k hk2]
  have d3 : DI s3 d R 0 := by
    refine ⟨?_, ?_, r3.cg fun a b q _ _ _ => ?_⟩
    · rw [f3 _ (by omega), up_j (by decide), up_s]
    · rw [f3 _ (by omega), up_s]
      rfl
    · unfold esS
      rw [Nat.zero_testBit]
      rfl
  have k7 : s3 7 = σ 7 := fr3.row (by omega) (by omega)
  have k8 : s3 8 = σ 8 := fr3.row (by omega) (by omega)
  have k6 : s3 6 = σ 6 := fr3.row (by omega) (by omega)
  obtain ⟨z, n, ⟨hf, hD⟩, he⟩ := loop_ex (F := fun n i z => f_X2_fill_b20 d n (s : Int) i z) 24 (fun i z => FrD d s3 z ∧ DI z d R (mks (fun q => s.testBit q) i)) (fun n i z hi hI => by
    obtain ⟨hf, hD⟩ := hI
    show ∃ s', _ ∧ f_X2_fill_b20 d (n + 1) (s : Int) (i : Int) z = f_X2_fill_b20 d n (s : Int) ((i : Int) + 1) s'
    rw [f_X2_fill_b20, w32_n (by omega), if_pos (by omega), contains_n (by omega) (by omega), Option.bind_some]
    cases hb : s.testBit i with
    | false =>
      rw [b01_f rfl, mks_f (P := fun q => s.testBit q) hb]
      exact ⟨z, ⟨hf, hD⟩, rfl⟩
    | true =>
      have z7 : z 7 = σ 7 := (hf.row (by omega) (by omega)).trans k7
      have z8 : z 8 = σ 8 := (hf.row (by omega) (by omega)).trans k8
      have z6 : z 6 = σ 6 := (hf.row (by omega) (by omega)).trans k6
      obtain ⟨w, ew, dw, fw⟩ := add_n (σ := z) (p := i) (M := mks (fun q => s.testBit q) i) (F := F) hd hi (by rw [z6]; exact hF) hFl (hs i hb) (fun q hq => by
        rw [tb_mks] at hq
        simp at hq
        exact hs q hq.2) (by rw [tb_mks]; simp) hR2 (by rw [z7, z8]; exact hPl) hD
      rw [b01_t rfl, ew, Option.bind_some]
      refine ⟨w, ⟨hf.tr fw, ?_⟩, rfl⟩
      have e : mks (fun q => s.testBit q) (i + 1) = mks (fun q => s.testBit q) i ||| 2 ^ i := by rw [mks, if_pos hb]
      rw [e]
      exact dw) 24 0 s3 FUEL (by omega) ⟨FrD.rf, d3⟩ (fuel_lt (by omega))
  have he : f_X2_fill_b20 d FUEL (s : Int) 0 s3 = f_X2_fill_b20 d (n + 1) (s : Int) ((24 : Nat) : Int) z := he
  rw [he, f_X2_fill_b20, w32_n (by decide), if_neg (by decide)]
  have e : mks (fun q => s.testBit q) 24 = s := bits_ext fun q => by
    rw [tb_mks]
    by_cases hq : q < 24
    · simp [hq]
    · rw [tb_24 hsl (by omega)]
      simp
  rw [e] at hD
  exact ⟨z, rfl, hD, fr3.tr hf⟩
