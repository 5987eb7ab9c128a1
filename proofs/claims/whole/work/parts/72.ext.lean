/-! ===== pure level: the sets of the class's discs, bit by bit ===== -/
def RowE (σ : Sg) (d : Nat) (E : Nat → Nat → Nat → Bool) : Prop := ∀ a b, a < 24 → b < 24 → σ (34 + d) (a * 24 + b) = ((mks (E a b) 24 : Nat) : Int)
theorem RowE.cg {σ : Sg} {d : Nat} {E E' : Nat → Nat → Nat → Bool} (h : RowE σ d E) (e : ∀ a b q, a < 24 → b < 24 → q < 24 → E' a b q = E a b q) : RowE σ d E' := fun a b ha hb => by
  rw [h a b ha hb, mks_congr (fun q hq => (e a b q ha hb hq).symm)]
theorem mks_orm {P : Nat → Bool} {m : Nat} (hm : m < 16777216) : mks P 24 ||| m = mks (fun q => P q || m.testBit q) 24 := bits_ext fun i => by
  rw [Nat.testBit_or, tb_mks, tb_mks]
  by_cases hi : i < 24
  · simp [hi]
  · rw [tb_24 hm (by omega)]
    simp [hi]
theorem ixn (a b : Nat) : ((a : Int) * 24 + (b : Int)).toNat = a * 24 + b := by omega
theorem or_n {a b : Nat} (ha : a < 4294967296) (hb : b < 4294967296) : ((u32 (a : Int) ||| u32 (b : Int) : Nat) : Int) = ((a ||| b : Nat) : Int) := by rw [u32_nat ha, u32_nat hb]
theorem row_upd {σ : Sg} {d a0 b0 m : Nat} {E : Nat → Nat → Nat → Bool} (h : RowE σ d E) (ha : a0 < 24) (hb : b0 < 24) (hm : m < 16777216) :
    RowE (up σ (34 + d) ((a0 : Int) * 24 + (b0 : Int)).toNat ((u32 (σ (34 + d) ((a0 : Int) * 24 + (b0 : Int)).toNat) ||| u32 (m : Int) : Nat) : Int)) d (fun a b q => E a b q || (a == a0 && b == b0 && m.testBit q)) := by
  intro a b ha' hb'
  rw [ixn, h a0 b0 ha hb, or_n (Nat.lt_trans (mks_24 _) (by decide)) (by omega), mks_orm hm]
  by_cases e : a = a0 ∧ b = b0
  · obtain ⟨rfl, rfl⟩ := e
    rw [up_s]
    simp
  · rw [up_j (by omega), h a b ha' hb']
    congr 1
    refine mks_congr fun q _ => ?_
    have : (a == a0 && b == b0) = false := by
      rw [Bool.and_eq_false_iff]
      by_cases e1 : a = a0
      · right
        simp
        exact fun e2 => e ⟨e1, e2⟩
      · left
        simp
        exact e1
    show E a b q = (E a b q || (a == a0 && b == b0 && m.testBit q))
    rw [this, Bool.false_and, Bool.or_false]
def FrR (d : Nat) (σ z : Sg) : Prop := ∀ k, k ≠ 34 + d → z k = σ k
theorem FrR.rf {d : Nat} {σ : Sg} : FrR d σ σ := fun _ _ => rfl
theorem FrR.up {d j : Nat} {v : Int} {σ z : Sg} (h : FrR d σ z) : FrR d σ (up z (34 + d) j v) := fun k hk => by rw [up_k hk, h k hk]
theorem FrR.tr {d : Nat} {σ z w : Sg} (h : FrR d σ z) (h2 : FrR d z w) : FrR d σ w := fun k hk => (h2 k hk).trans (h k hk)
/-- rim and side, for one that lies anywhere -/
def rimD (X Y : Nat → Int) (R : Int) (a b : Nat) (side : Bool) (q : Nat) : Bool := decide (0 < d2 X Y a b ∧ d2 X Y a b ≤ 4 * R * R) && inD X Y R a b side q
theorem rimD_iff {X Y : Nat → Int} {R : Int} {a b q : Nat} {side : Bool} : rimD X Y R a b side q = true ↔ rimOk X Y R a b ∧ inD X Y R a b side q = true := by
  unfold rimD rimOk
  simp
theorem rimD_sym (X Y : Nat → Int) (R : Int) (a b : Nat) (side : Bool) (q : Nat) : rimD X Y R a b side q = rimD X Y R b a (!side) q := by
  unfold rimD
  rw [inD_sym, d2_sym X Y a b]
theorem rimD_self (X Y : Nat → Int) (R : Int) (a : Nat) (side : Bool) (q : Nat) : rimD X Y R a a side q = false := by
  unfold rimD
  have : d2 X Y a a = 0 := by unfold d2; grind
  rw [this]
  rfl
theorem pl_d {X Y : Nat → Int} {p q : Nat} (hp : Pl X Y p) (hq : Pl X Y q) : (-299 ≤ X p - X q ∧ X p - X q ≤ 299) ∧ (-299 ≤ Y p - Y q ∧ Y p - Y q ≤ 299) := by
  unfold Pl at hp hq
  omega
theorem sidesAt_n {σ : Sg} {d a b p : Nat} {R : Int} (hd : d < 7) (ha : a < 24) (hb : b < 24) (hR : σ (27 + d) 2 = R) (hR2 : 0 ≤ R ∧ R ≤ 300) (Pp : Pl (σ 7) (σ 8) p) (Pa : Pl (σ 7) (σ 8) a) (Pb : Pl (σ 7) (σ 8) b) :
    f_X2_sidesAt d (a : Int) (b : Int) (σ 7 p) (σ 8 p) σ = some (sdv (rimD (σ 7) (σ 8) R a b false p) (rimD (σ 7) (σ 8) R a b true p)) := by
  have hD := d2_bd Pa Pb
  have hRR := mul_bd (x := 4 * R) (y := R) (A := 1200) (B := 300) ⟨by omega, by omega⟩ ⟨by omega, by omega⟩
  have eD : (σ 7 b - σ 7 a) * (σ 7 b - σ 7 a) + (σ 8 b - σ 8 a) * (σ 8 b - σ 8 a) = d2 (σ 7) (σ 8) a b := by unfold d2; grind
  obtain ⟨h1, h2⟩ := pl_d Pb Pa
  obtain ⟨h3, h4⟩ := pl_d Pp Pa
  obtain ⟨h5, h6⟩ := pl_d Pp Pb
  unfold f_X2_sidesAt
  rw [ck_t hd, isNumber_t ha, Option.bind_some, w32_1, if_neg (by decide), isNumber_t hb, Option.bind_some, w32_1, if_neg (by decide), ck_t (by omega), ck_t (by omega), ck_t (by omega), ck_t (by omega), ntn, ntn, hR, eD, w32_eq (z := d2 (σ 7) (σ 8) a b) ⟨by omega, by omega⟩, w32_eq (z := 4 * R * R - d2 (σ 7) (σ 8) a b) ⟨by omega, by omega⟩]
  unfold rimD
  by_cases hok : 0 < d2 (σ 7) (σ 8) a b ∧ d2 (σ 7) (σ 8) a b ≤ 4 * R * R
  · rw [if_neg (by omega), if_neg (by omega), ck_t (by omega), ck_t (by omega), sides_n h3 h4 h1 h2 ⟨by omega, by omega⟩ ⟨by omega, by omega⟩ ⟨by omega, by omega⟩ ⟨by omega, by omega⟩, Option.bind_some, decide_eq_true hok, Bool.true_and, Bool.true_and]
    have e1 : (σ 7 p - σ 7 a) * (σ 7 p - σ 7 a - (σ 7 b - σ 7 a)) + (σ 8 p - σ 8 a) * (σ 8 p - σ 8 a - (σ 8 b - σ 8 a)) = dotp (σ 7) (σ 8) a b p := by unfold dotp; grind
    have e2 : (σ 7 b - σ 7 a) * (σ 8 p - σ 8 a) - (σ 8 b - σ 8 a) * (σ 7 p - σ 7 a) = crs (σ 7) (σ 8) a b p := rfl
    rw [e1, e2]
    rfl
  · rw [decide_eq_false hok, Bool.false_and, Bool.false_and]
    by_cases h0 : d2 (σ 7) (σ 8) a b = 0
    · rw [if_pos h0]
      rfl
    · rw [if_neg h0, if_pos (by omega)]
      rfl
def exG (X Y : Nat → Int) (R : Int) (p near a b q : Nat) : Bool := q == p && (near.testBit a && near.testBit b && !(a == p) && !(b == p)) && rimD X Y R a b false p
def exE (E : Nat → Nat → Nat → Bool) (X Y : Nat → Int) (R : Int) (p near i j a b q : Nat) : Bool := E a b q || (exG X Y R p near a b q && decide ((a < i ∧ a < b) ∨ (b < i ∧ b < a) ∨ (a = i ∧ a < b ∧ b < j) ∨ (b = i ∧ b < a ∧ a < j)))
theorem tb_pow {p q : Nat} : (2 ^ p).testBit q = (q == p) := by
  rw [Nat.testBit_two_pow]
  by_cases h : p = q
  · simp [h]
  · have : ¬ q = p := fun e => h e.symm
    simp [h, this]
theorem ext_in {σ : Sg} {d p near i : Nat} {R : Int} {E : Nat → Nat → Nat → Bool} (k10 : Int → Int → Int → Sg → Option Sg) (hd : d < 7) (hp : p < 24) (hn : near < 16777216) (hR : σ (27 + d) 2 = R) (hR2 : 0 ≤ R ∧ R ≤ 300) (Pp : Pl (σ 7) (σ 8) p) (Ps : ∀ q, q < 24 → near.testBit q = true → Pl (σ 7) (σ 8) q) (hi : i < 24) (hE : RowE σ d (exE E (σ 7) (σ 8) R p near i (i + 1))) :
    ∃ σ', f_X2_extend_b21 d k10 FUEL (p : Int) (near : Int) (i : Int) ((i : Int) + 1) σ = k10 (p : Int) (near : Int) ((i : Int) + 1) σ' ∧ FrR d σ σ' ∧ RowE σ' d (exE E (σ 7) (σ 8) R p near i 24) := by
  obtain ⟨z, n, ⟨-, hf, hE2⟩, he⟩ := loop_ex (F := fun n j z => f_X2_extend_b21 d k10 n (p : Int) (near : Int) (i : Int) j z) 24 (fun j z => i < j ∧ FrR d σ z ∧ RowE z d (exE E (σ 7) (σ 8) R p near i j)) (fun n j z hj hI => by
    obtain ⟨hij, hf, hE2⟩ := hI
    show ∃ s', _ ∧ f_X2_extend_b21 d k10 (n + 1) (p : Int) (near : Int) (i : Int) (j : Int) z = f_X2_extend_b21 d k10 n (p : Int) (near : Int) (i : Int) ((j : Int) + 1) s'
    have z7 : z 7 = σ 7 := hf 7 (by omega)
    have z8 : z 8 = σ 8 := hf 8 (by omega)
    have z27 : z (27 + d) = σ (27 + d) := hf _ (by omega)
    · have skip : (∀ q, exG (σ 7) (σ 8) R p near i j q = false) → (∀ q, exG (σ 7) (σ 8) R p near j i q = false) → RowE z d (exE E (σ 7) (σ 8) R p near i (j + 1)) := fun h1 h2 => hE2.cg fun a b q _ _ _ => by
        unfold exE
        by_cases e1 : a = i ∧ b = j
        · rw [e1.1, e1.2, h1, Bool.false_and, Bool.false_and]
        · by_cases e2 : a = j ∧ b = i
          · rw [e2.1, e2.2, h2, Bool.false_and, Bool.false_and]
          · congr 2
            rw [decide_eq_decide]
            omega
      rw [f_X2_extend_b21, w32_n (by omega), if_pos (by omega), contains_n (by omega) (by omega), Option.bind_some]
      cases hbi : near.testBit i with
      | false =>
        rw [b01_f rfl]
        exact ⟨z, ⟨Nat.lt_succ_of_lt hij, hf, skip (fun q => by simp [exG, hbi]) (fun q => by simp [exG, hbi])⟩, rfl⟩
      | true =>
        rw [b01_t rfl, contains_n (by omega) (by omega), Option.bind_some]
        cases hbj : near.testBit j with
        | false =>
          rw [b01_f rfl]
          exact ⟨z, ⟨Nat.lt_succ_of_lt hij, hf, skip (fun q => by simp [exG, hbj]) (fun q => by simp [exG, hbj])⟩, rfl⟩
        | true =>
          rw [b01_t rfl, w32_n (by omega), w32_n (by omega)]
          by_cases h1 : i = p
          · rw [if_pos (by omega)]
            exact ⟨z, ⟨Nat.lt_succ_of_lt hij, hf, skip (fun q => by simp [exG, h1]) (fun q => by simp [exG, h1])⟩, rfl⟩
          · rw [if_neg (by omega)]
            by_cases h2 : j = p
            · rw [if_pos (by omega)]
              exact ⟨z, ⟨Nat.lt_succ_of_lt hij, hf, skip (fun q => by simp [exG, h2]) (fun q => by simp [exG, h2])⟩, rfl⟩
            · have hs := sidesAt_n (σ := z) (d := d) (a := i) (b := j) (p := p) (R := R) hd hi hj (by rw [z27]; exact hR) hR2 (by rw [z7, z8]; exact Pp) (by rw [z7, z8]; exact Ps i hi hbi) (by rw [z7, z8]; exact Ps j hj hbj)
              rw [if_neg (by omega), ck_t (by omega), ck_t (by omega), ntn, hs, Option.bind_some, ck_t (by omega), sdv_1, z7, z8]
              have go : ∀ m1 m2 : Nat, m1 < 16777216 → m2 < 16777216 → (∀ q, m1.testBit q = (rimD (σ 7) (σ 8) R i j false p && q == p)) → (∀ q, m2.testBit q = (rimD (σ 7) (σ 8) R i j true p && q == p)) → (if rimD (σ 7) (σ 8) R i j true p = true then ((1 : Int) * ((2 ^ (u32 (p : Int) % 32) : Nat) : Int)) else 0) = (m2 : Int) →
                  ∃ s', (i < j + 1 ∧ FrR d σ s' ∧ RowE s' d (exE E (σ 7) (σ 8) R p near i (j + 1))) ∧ f_X2_extend_b110 d k10 (f_X2_extend_b21 d k10 n) (p : Int) (near : Int) (i : Int) (j : Int) (sdv (rimD (σ 7) (σ 8) R i j false p) (rimD (σ 7) (σ 8) R i j true p)) (m1 : Int) (z (34 + d) ((i : Int) * 24 + (j : Int)).toNat) ((i : Int) * 24 + (j : Int)) z = f_X2_extend_b21 d k10 n (p : Int) (near : Int) (i : Int) ((j : Int) + 1) s' := by
                intro m1 m2 hm1 hm2 t1 t2 hw
                have r1 := row_upd hE2 hi hj hm1
                have r2 := row_upd r1 hj hi hm2
                refine ⟨_, ⟨Nat.lt_succ_of_lt hij, (hf.up).up, r2.cg fun a b q _ _ _ => ?_⟩, ?_⟩
                · rw [t1, t2]
                  unfold exE
                  by_cases e1 : a = i ∧ b = j
                  · obtain ⟨rfl, rfl⟩ := e1
                    have n1 : (a == b) = false := by simp; omega
                    have n2 : (b == a) = false := by simp; omega
                    have g : exG (σ 7) (σ 8) R p near a b q = (rimD (σ 7) (σ 8) R a b false p && q == p) := by
                      unfold exG
                      rw [hbi, hbj]
                      have : (a == p) = false := by simp [h1]
                      have h : (b == p) = false := by simp [h2]
                      rw [this, h]
                      simp [Bool.and_comm]
                    rw [g, n1, decide_eq_false (p := (a < a ∧ a < b) ∨ (b < a ∧ b < a) ∨ (a = a ∧ a < b ∧ b < b) ∨ (b = a ∧ b < a ∧ a < b)) (by omega), decide_eq_true (by omega)]
                    simp
                  · by_cases e2 : a = j ∧ b = i
                    · obtain ⟨rfl, rfl⟩ := e2
                      have n1 : (a == b) = false := by simp; omega
                      have n2 : (b == a) = false := by simp; omega
                      have g : exG (σ 7) (σ 8) R p near a b q = (rimD (σ 7) (σ 8) R b a true p && q == p) := by
                        unfold exG
                        rw [hbi, hbj, rimD_sym]
                        have : (b == p) = false := by simp [h1]
                        have h : (a == p) = false := by simp [h2]
                        rw [this, h]
                        simp [Bool.and_comm]
                      rw [g, n1, decide_eq_false (p := (a < b ∧ a < b) ∨ (b < b ∧ b < a) ∨ (a = b ∧ a < b ∧ b < a) ∨ (b = b ∧ b < a ∧ a < a)) (by omega), decide_eq_true (by omega)]
                      simp
                    · have n1 : (a == i && b == j) = false := by
                        rw [Bool.and_eq_false_iff]
                        simp
                        omega
                      have n2 : (a == j && b == i) = false := by
                        rw [Bool.and_eq_false_iff]
                        simp
                        omega
                      rw [n1, n2, Bool.false_and, Bool.false_and, Bool.or_false, Bool.or_false]
                      congr 2
                      rw [decide_eq_decide]
                      omega
                · unfold f_X2_extend_b110 wr
                  dsimp only
                  rw [ck_t (by omega), ck_t (by omega), sdv_2]
                  unfold f_X2_extend_b139 f_X2_extend_b141 wr
                  dsimp only
                  cases hr : rimD (σ 7) (σ 8) R i j true p with
                  | false =>
                    rw [hr] at hw
                    rw [if_neg (by decide)] at hw
                    rw [b02_f rfl, ck_t (by omega), hw]
                  | true =>
                    rw [hr, if_pos rfl] at hw
                    rw [b02_t rfl, ck_t (by omega), hw]
              have hm2 : ∃ m2 : Nat, m2 < 16777216 ∧ (∀ q, m2.testBit q = (rimD (σ 7) (σ 8) R i j true p && q == p)) ∧ (if rimD (σ 7) (σ 8) R i j true p = true then ((1 : Int) * ((2 ^ (u32 (p : Int) % 32) : Nat) : Int)) else 0) = (m2 : Int) := by
                cases rimD (σ 7) (σ 8) R i j true p with
                | false => exact ⟨0, by decide, fun q => by rw [Nat.zero_testBit, Bool.false_and], rfl⟩
                | true => exact ⟨2 ^ p, pow_24 hp, fun q => by rw [tb_pow, Bool.true_and], by rw [if_pos rfl, one_shl (by omega)]⟩
              obtain ⟨m2, hm2, t2, hw⟩ := hm2
              cases hl : rimD (σ 7) (σ 8) R i j false p with
              | false =>
                rw [b01_f rfl]
                have := go 0 m2 (by decide) hm2 (fun q => by rw [Nat.zero_testBit, hl, Bool.false_and]) t2 hw
                rw [hl] at this
                exact this
              | true =>
                rw [b01_t rfl, one_shl (by omega)]
                have := go (2 ^ p) m2 (pow_24 hp) hm2 (fun q => by rw [tb_pow, hl, Bool.true_and]) t2 hw
                rw [hl] at this
                exact this) (24 - (i + 1)) (i + 1) σ FUEL (by omega) ⟨Nat.lt_succ_self i, FrR.rf, hE⟩ (fuel_lt (by omega))
  refine ⟨z, ?_, hf, hE2⟩
  rw [ncast_s] at he
  refine he.trans ?_
  show f_X2_extend_b21 d k10 (n + 1) (p : Int) (near : Int) (i : Int) ((24 : Nat) : Int) z = _
  rw [f_X2_extend_b21, w32_n (by decide), if_neg (by decide)]
  rfl
theorem ext_n {σ : Sg} {d p near : Nat} {R : Int} {E : Nat → Nat → Nat → Bool} (hd : d < 7) (hp : p < 24) (hn : near < 16777216) (hR : σ (27 + d) 2 = R) (hR2 : 0 ≤ R ∧ R ≤ 300) (Pp : Pl (σ 7) (σ 8) p) (Ps : ∀ q, q < 24 → near.testBit q = true → Pl (σ 7) (σ 8) q) (hE : RowE σ d E) :
    ∃ σ', f_X2_extend d (p : Int) (near : Int) σ = some σ' ∧ FrR d σ σ' ∧ RowE σ' d (fun a b q => E a b q || exG (σ 7) (σ 8) R p near a b q) := by
  unfold f_X2_extend
  rw [ck_t hd, isNumber_t hp, Option.bind_some, w32_1, if_neg (by decide)]
  obtain ⟨z, n, ⟨hf, hE2⟩, he⟩ := loop_ex (F := fun n i z => f_X2_extend_b10 d n (p : Int) (near : Int) i z) 24 (fun i z => FrR d σ z ∧ RowE z d (exE E (σ 7) (σ 8) R p near i (i + 1))) (fun n i z hi hI => by
    obtain ⟨hf, hE2⟩ := hI
    show ∃ s', _ ∧ f_X2_extend_b10 d (n + 1) (p : Int) (near : Int) (i : Int) z = f_X2_extend_b10 d n (p : Int) (near : Int) ((i : Int) + 1) s'
    have z7 : z 7 = σ 7 := hf 7 (by omega)
    have z8 : z 8 = σ 8 := hf 8 (by omega)
    have z27 : z (27 + d) = σ (27 + d) := hf _ (by omega)
    rw [f_X2_extend_b10, w32_n (by omega), if_pos (by omega)]
    obtain ⟨z2, e2, f2, r2⟩ := ext_in (σ := z) (R := R) (E := E) (f_X2_extend_b10 d n) hd hp hn (by rw [z27]; exact hR) hR2 (by rw [z7, z8]; exact Pp) (by rw [z7, z8]; exact Ps) hi (by rw [z7, z8]; exact hE2)
    rw [z7, z8] at r2
    refine ⟨z2, ⟨hf.tr f2, r2.cg fun a b q ha hb _ => ?_⟩, e2⟩
    unfold exE
    congr 2
    rw [decide_eq_decide]
    omega) 24 0 σ FUEL (by omega) ⟨FrR.rf, hE.cg fun a b q _ _ _ => by
      unfold exE
      rw [decide_eq_false (by omega), Bool.and_false, Bool.or_false]⟩ (fuel_lt (by omega))
  refine ⟨z, ?_, hf, hE2.cg fun a b q ha hb _ => ?_⟩
  · refine he.trans ?_
    show f_X2_extend_b10 d (n + 1) (p : Int) (near : Int) ((24 : Nat) : Int) z = _
    rw [f_X2_extend_b10, w32_n (by decide), if_neg (by decide)]
  · unfold exE
    by_cases h : a = b
    · subst h
      have : exG (σ 7) (σ 8) R p near a a q = false := by
        unfold exG
        rw [rimD_self, Bool.and_false]
      rw [this, Bool.false_and]
    · rw [decide_eq_true (by omega), Bool.and_true]
