/-! ===== pure level: one more in the class's discs ===== -/
theorem RowE.row {σ z : Sg} {d : Nat} {E : Nat → Nat → Nat → Bool} (h : RowE σ d E) (e : z (34 + d) = σ (34 + d)) : RowE z d E := by
  unfold RowE
  rw [e]
  exact h
theorem RowE.cgi {σ : Sg} {d : Nat} {E E' : Nat → Nat → Nat → Bool} (h : RowE σ d E) (e : ∀ a b q, a < 24 → b < 24 → q < 24 → (E' a b q = true ↔ E a b q = true)) : RowE σ d E' := h.cg fun a b q ha hb hq => Bool.eq_iff_iff.mpr (e a b q ha hb hq)
/-- what the sets hold: those of M by the radius R -/
def esS (X Y : Nat → Int) (R : Int) (M a b q : Nat) : Bool := M.testBit a && M.testBit b && M.testBit q && (if a = b then decide (d2 X Y a q ≤ R * R) else rimD X Y R a b false q)
def DI (σ : Sg) (d : Nat) (R : Int) (M : Nat) : Prop := σ (27 + d) 2 = R ∧ σ (27 + d) 5 = (M : Int) ∧ RowE σ d (esS (σ 7) (σ 8) R M)
def FrD (d : Nat) (σ z : Sg) : Prop := ∀ k j, k ≠ 34 + d → ¬ (k = 27 + d ∧ 2 ≤ j ∧ j ≤ 5) → z k j = σ k j
theorem FrD.rf {d : Nat} {σ : Sg} : FrD d σ σ := fun _ _ _ _ => rfl
theorem FrD.tr {d : Nat} {σ z w : Sg} (h : FrD d σ z) (h2 : FrD d z w) : FrD d σ w := fun k j hk hj => (h2 k j hk hj).trans (h k j hk hj)
theorem FrD.row {d k : Nat} {σ z : Sg} (h : FrD d σ z) (h1 : k ≠ 34 + d) (h2 : k ≠ 27 + d) : z k = σ k := by
  funext j
  exact h k j h1 (fun q => h2 q.1)
def adE (E : Nat → Nat → Nat → Bool) (X Y : Nat → Int) (R : Int) (p near nst i a b q : Nat) : Bool := E a b q || (a == p && (near.testBit b && (near.testBit q && rimD X Y R p b false q)) && decide (b < i)) || (b == p && (near.testBit a && (near.testBit q && rimD X Y R p a true q)) && decide (a < i)) || (a == p && b == p && nst.testBit q && decide (q < i)) || (a == b && nst.testBit a && q == p && decide (a < i))
theorem hbP_p {X Y : Nat → Int} {R : Int} {p b near : Nat} {side : Bool} {q : Nat} : hbP X Y R (X p) (Y p) b near side q = (near.testBit q && rimD X Y R p b side q) := by
  unfold hbP rimD inD
  have eD : (X b - X p) * (X b - X p) + (Y b - Y p) * (Y b - Y p) = d2 X Y p b := by unfold d2; grind
  have e1 : (X q - X p) * (X q - X p - (X b - X p)) + (Y q - Y p) * (Y q - Y p - (Y b - Y p)) = dotp X Y p b q := by unfold dotp; grind
  rw [eD, e1]
  rfl
def FrA (d : Nat) (σ z : Sg) : Prop := ∀ k j, k ≠ 34 + d → ¬ (k = 27 + d ∧ 3 ≤ j ∧ j ≤ 4) → z k j = σ k j
theorem FrA.tr {d : Nat} {σ z w : Sg} (h : FrA d σ z) (h2 : FrA d z w) : FrA d σ w := fun k j hk hj => (h2 k j hk hj).trans (h k j hk hj)
theorem FrA.row {d k : Nat} {σ z : Sg} (h : FrA d σ z) (h1 : k ≠ 34 + d) (h2 : k ≠ 27 + d) : z k = σ k := by
  funext j
  exact h k j h1 (fun q => h2 q.1)
theorem FrR.fa {d : Nat} {σ z : Sg} (h : FrR d σ z) : FrA d σ z := fun k j hk _ => by rw [h k hk]
theorem add_loop {σ : Sg} {d p near nst : Nat} {R : Int} {E : Nat → Nat → Nat → Bool} (hd : d < 7) (hp : p < 24) (hn : near < 16777216) (hns : nst < 16777216) (hR : σ (27 + d) 2 = R) (hR2 : 0 ≤ R ∧ R ≤ 300) (hPl : ∀ q, q < 24 → Pl (σ 7) (σ 8) q) (hE : RowE σ d E) :
    ∃ σ', f_X2_add_b101 d FUEL (p : Int) (near : Int) (nst : Int) 0 σ = some σ' ∧ FrA d σ σ' ∧ RowE σ' d (adE E (σ 7) (σ 8) R p near nst 24) := by
  obtain ⟨z, n, ⟨hf, hE2⟩, he⟩ := loop_ex (F := fun n i z => f_X2_add_b101 d n (p : Int) (near : Int) (nst : Int) i z) 24 (fun i z => FrA d σ z ∧ RowE z d (adE E (σ 7) (σ 8) R p near nst i)) (fun n i z hi hI => by
    obtain ⟨hf, hE2⟩ := hI
    show ∃ s', _ ∧ f_X2_add_b101 d (n + 1) (p : Int) (near : Int) (nst : Int) (i : Int) z = f_X2_add_b101 d n (p : Int) (near : Int) (nst : Int) ((i : Int) + 1) s'
    have z7 : z 7 = σ 7 := hf.row (by omega) (by omega)
    have z8 : z 8 = σ 8 := hf.row (by omega) (by omega)
    have z2 : z (27 + d) 2 = R := (hf (27 + d) 2 (by omega) (by omega)).trans hR
    have tail : ∀ (w : Sg) (l r : Nat), FrA d σ w → (∀ q, l.testBit q = (near.testBit i && (near.testBit q && rimD (σ 7) (σ 8) R p i false q))) → (∀ q, r.testBit q = (near.testBit i && (near.testBit q && rimD (σ 7) (σ 8) R p i true q))) →
        RowE w d (fun a b q => (adE E (σ 7) (σ 8) R p near nst i a b q || (a == p && b == i && l.testBit q)) || (a == i && b == p && r.testBit q)) →
        ∃ s', (FrA d σ s' ∧ RowE s' d (adE E (σ 7) (σ 8) R p near nst (i + 1))) ∧ f_X2_add_b180 d (f_X2_add_b101 d n) (p : Int) (near : Int) (nst : Int) (i : Int) w = f_X2_add_b101 d n (p : Int) (near : Int) (nst : Int) ((i : Int) + 1) s' := by
      intro w l r hw hl hr hEw
      unfold f_X2_add_b180
      rw [contains_n (by omega) (by omega), Option.bind_some]
      cases hb : nst.testBit i with
      | false =>
        rw [b01_f rfl]
        refine ⟨w, ⟨hw, hEw.cgi fun a b q _ _ _ => ?_⟩, rfl⟩
        unfold adE
        simp only [Bool.or_eq_true, Bool.and_eq_true, beq_iff_eq, decide_eq_true_eq, hl, hr]
        clear hl hr hEw hw hf hE2 hE hPl
        generalize Nat.testBit near = nb at *
        generalize Nat.testBit nst = sb at *
        generalize rimD (σ 7) (σ 8) R p = rm at *
        clear hR z2 z7 z8 hn hns hR2 hd
        grind (splits := 30)
      | true =>
        rw [b01_t rfl, ck_t (by omega), ck_t (by omega), one_shl (by omega)]
        have r1 := row_upd hEw hp hp (pow_24 hi)
        have r2 := row_upd r1 hi hi (pow_24 hp)
        refine ⟨_, ⟨?_, r2.cgi fun a b q _ _ _ => ?_⟩, ?_⟩
        · intro k j hk hj
          rw [up_k hk, up_k hk]
          exact hw k j hk hj
        · unfold adE
          simp only [Bool.or_eq_true, Bool.and_eq_true, beq_iff_eq, decide_eq_true_eq, hl, hr, tb_pow]
          clear hl hr hEw hw hf hE2 hE hPl r1 r2
          generalize Nat.testBit near = nb at *
          generalize Nat.testBit nst = sb at *
          generalize rimD (σ 7) (σ 8) R p = rm at *
          clear hR z2 z7 z8 hn hns hR2 hd
          grind (splits := 30)
        · unfold wr
          dsimp only
          rw [ck_t (by omega), ck_t (by omega), one_shl (by omega)]
          rfl
    rw [f_X2_add_b101, w32_n (by omega), if_pos (by omega), contains_n (by omega) (by omega), Option.bind_some]
    cases hb : near.testBit i with
    | false =>
      rw [b01_f rfl]
      refine tail z 0 0 hf (fun q => by rw [Nat.zero_testBit, hb, Bool.false_and]) (fun q => by rw [Nat.zero_testBit, hb, Bool.false_and]) (hE2.cg fun a b q _ _ _ => ?_)
      simp
    | true =>
      rw [b01_t rfl, ck_t (by omega), ck_t (by omega), ntn]
      have hPz : ∀ q, q < 24 → Pl (z 7) (z 8) q := by rw [z7, z8]; exact hPl
      have Pp := hPz p hp
      have hh := hold_n (σ := z) (d := d) (b := i) (s := near) (x := z 7 p) (y := z 8 p) (R := R) hd hi hn z2 hR2 Pp.1 Pp.2 (fun q hq _ => hPz q hq) (hPz i hi)
      rw [hh, Option.bind_some, ck_t (by omega), ck_t (by omega), z7, z8]
      generalize hl : mks (hbP (σ 7) (σ 8) R (σ 7 p) (σ 8 p) i near false) 24 = l
      generalize hr : mks (hbP (σ 7) (σ 8) R (σ 7 p) (σ 8 p) i near true) 24 = r
      have hl24 : l < 16777216 := by rw [← hl]; exact mks_24 _
      have hr24 : r < 16777216 := by rw [← hr]; exact mks_24 _
      have hlb : ∀ q, l.testBit q = (near.testBit i && (near.testBit q && rimD (σ 7) (σ 8) R p i false q)) := fun q => by
        rw [← hl, tb_mks, hbP_p, hb, Bool.true_and]
        by_cases hq : q < 24
        · rw [decide_eq_true hq, Bool.true_and]
        · rw [tb_24 hn (by omega)]
          simp
      have hrb : ∀ q, r.testBit q = (near.testBit i && (near.testBit q && rimD (σ 7) (σ 8) R p i true q)) := fun q => by
        rw [← hr, tb_mks, hbP_p, hb, Bool.true_and]
        by_cases hq : q < 24
        · rw [decide_eq_true hq, Bool.true_and]
        · rw [tb_24 hn (by omega)]
          simp
      have e3 : up (up z (27 + d) 3 (l : Int)) (27 + d) 4 (r : Int) (27 + d) 3 = (l : Int) := by rw [up_j (by decide), up_s]
      have e4 : ∀ v j, up (up (up z (27 + d) 3 (l : Int)) (27 + d) 4 (r : Int)) (34 + d) j v (27 + d) 4 = (r : Int) := fun v j => by rw [up_k (by omega), up_s]
      have r0 : RowE (up (up z (27 + d) 3 (l : Int)) (27 + d) 4 (r : Int)) d (adE E (σ 7) (σ 8) R p near nst i) := hE2.row (by rw [up_k (by omega), up_k (by omega)])
      have r1 := row_upd r0 hp hi hl24
      have r2 := row_upd r1 hi hp hr24
      unfold wr
      dsimp only
      rw [e3, ck_t (by omega), ck_t (by omega), e4]
      refine tail _ l r ?_ hlb hrb r2
      intro k j hk hj
      rw [up_k hk, up_k hk]
      by_cases hk2 : k = 27 + d
      · subst hk2
        rw [up_j (by omega), up_j (by omega)]
        exact hf _ _ hk hj
      · rw [up_k hk2, up_k hk2]
        exact hf _ _ hk hj) 24 0 σ FUEL (by omega) ⟨fun _ _ _ _ => rfl, hE.cg fun a b q _ _ _ => by
      unfold adE
      simp⟩ (fuel_lt (by omega))
  refine ⟨z, ?_, hf, hE2⟩
  refine he.trans ?_
  show f_X2_add_b101 d (n + 1) (p : Int) (near : Int) (nst : Int) ((24 : Nat) : Int) z = _
  rw [f_X2_add_b101, w32_n (by decide), if_neg (by decide)]
theorem sub_24 {M F : Nat} (hF : F < 16777216) (h : ∀ q, M.testBit q = true → F.testBit q = true) : M < 16777216 := by
  apply Nat.lt_pow_two_of_testBit (n := 24)
  intro i hi
  cases hb : M.testBit i with
  | false => rfl
  | true =>
    have := h i hb
    rw [tb_24 hF hi] at this
    cases this
theorem and_n {a b : Nat} (ha : a < 4294967296) (hb : b < 4294967296) : ((u32 (a : Int) &&& u32 (b : Int) : Nat) : Int) = ((a &&& b : Nat) : Int) := by rw [u32_nat ha, u32_nat hb]
theorem rimD_d {X Y : Nat → Int} {R : Int} {a b q : Nat} {side : Bool} (h : rimD X Y R a b side q = true) : d2 X Y a b ≤ 4 * R * R ∧ d2 X Y a q ≤ 4 * R * R ∧ d2 X Y b q ≤ 4 * R * R := by
  have h2 := h
  rw [rimD_sym] at h2
  rw [rimD_iff] at h h2
  exact ⟨h.1.2, inD_near h.1 h.2, inD_near h2.1 h2.2⟩
theorem d2_self (X Y : Nat → Int) (a : Nat) : d2 X Y a a = 0 := by unfold d2; grind
theorem or_lt24 {a b : Nat} (ha : a < 16777216) (hb : b < 16777216) : a ||| b < 16777216 := Nat.or_lt_two_pow (n := 24) ha hb
theorem tb_or_pow {M p q : Nat} : (M ||| 2 ^ p).testBit q = true ↔ (M.testBit q = true ∨ q = p) := by
  rw [Nat.testBit_or, tb_pow]
  simp
theorem add_n {σ : Sg} {d p M F : Nat} {R : Int} (hd : d < 7) (hp : p < 24) (hF : σ 6 5 = (F : Int)) (hFl : F < 16777216) (hFp : F.testBit p = true) (hM : ∀ q, M.testBit q = true → F.testBit q = true) (hMp : M.testBit p = false) (hR2 : 0 ≤ R ∧ R ≤ 300) (hPl : ∀ q, q < 24 → Pl (σ 7) (σ 8) q) (h : DI σ d R M) :
    ∃ σ', f_X2_add d (p : Int) σ = some σ' ∧ DI σ' d R (M ||| 2 ^ p) ∧ FrD d σ σ' := by
  obtain ⟨h2, h5, hE⟩ := h
  have hMl := sub_24 hFl hM
  have hMl' : M ||| 2 ^ p < 16777216 := or_lt24 hMl (pow_24 hp)
  have hRR := mul_bd (x := R) (y := R) (A := 300) (B := 300) ⟨by omega, by omega⟩ ⟨by omega, by omega⟩
  have hRR2 := mul_bd (x := 2 * R) (y := 2 * R) (A := 600) (B := 600) ⟨by omega, by omega⟩ ⟨by omega, by omega⟩
  unfold f_X2_add wr
  dsimp only
  rw [ck_t hd, isNumber_t hp, Option.bind_some, w32_1, if_neg (by decide), h5, one_shl (by omega), or_n (by omega) (by have := pow_24 hp; omega)]
  generalize hM' : M ||| 2 ^ p = M' at *
  have s7 : up σ (27 + d) 5 (M' : Int) 7 = σ 7 := up_k (by omega)
  have s8 : up σ (27 + d) 5 (M' : Int) 8 = σ 8 := up_k (by omega)
  have s6 : up σ (27 + d) 5 (M' : Int) 6 5 = (F : Int) := by rw [up_k (by omega)]; exact hF
  have s2 : up σ (27 + d) 5 (M' : Int) (27 + d) 2 = R := by rw [up_j (by decide)]; exact h2
  have s5 : up σ (27 + d) 5 (M' : Int) (27 + d) 5 = (M' : Int) := up_s
  have s34 : up σ (27 + d) 5 (M' : Int) (34 + d) = σ (34 + d) := up_k (by omega)
  generalize hs3 : up σ (27 + d) 5 (M' : Int) = s3 at *
  have fr3 : FrD d σ s3 := fun k j hk hj => by
    rw [← hs3]
    by_cases hk2 : k = 27 + d
    · subst hk2
      rw [up_j (by omega)]
    · rw [up_k hk2]
  have rng : ∀ q, q < 24 → InR ((s3 7 q - σ 7 p) * (s3 7 q - σ 7 p) + (s3 8 q - σ 8 p) * (s3 8 q - σ 8 p)) := fun q hq => by
    rw [s7, s8]
    obtain ⟨a1, a2⟩ := pl_d (hPl q hq) (hPl p hp)
    have m1 := mul_bd a1 a1
    have m2 := mul_bd a2 a2
    exact ⟨by omega, by omega⟩
  rw [s7, s8, s2, s5, ntn, ck_t (by omega), ck_t (by omega), within_n s6 hFl (σ 7 p) (σ 8 p) (2 * R) rng ⟨by omega, by omega⟩, Option.bind_some, ck_t (by omega), ck_t (by omega), within_n s6 hFl (σ 7 p) (σ 8 p) R rng ⟨by omega, by omega⟩, Option.bind_some, s7, s8, and_n (by omega) (by have := mks_24 (fun q => F.testBit q && decide ((σ 7 q - σ 7 p) * (σ 7 q - σ 7 p) + (σ 8 q - σ 8 p) * (σ 8 q - σ 8 p) ≤ 2 * R * (2 * R))); omega), and_n (by omega) (by have := mks_24 (fun q => F.testBit q && decide ((σ 7 q - σ 7 p) * (σ 7 q - σ 7 p) + (σ 8 q - σ 8 p) * (σ 8 q - σ 8 p) ≤ R * R)); omega)]
  have tM' : ∀ q, M'.testBit q = true ↔ (M.testBit q = true ∨ q = p) := fun q => by rw [← hM']; exact tb_or_pow
  have bits : ∀ (B : Int) (q : Nat), q < 24 → ((M' &&& mks (fun q => F.testBit q && decide ((σ 7 q - σ 7 p) * (σ 7 q - σ 7 p) + (σ 8 q - σ 8 p) * (σ 8 q - σ 8 p) ≤ B)) 24).testBit q = true ↔ ((M.testBit q = true ∨ q = p) ∧ d2 (σ 7) (σ 8) p q ≤ B)) := fun B q hq => by
    have eD : (σ 7 q - σ 7 p) * (σ 7 q - σ 7 p) + (σ 8 q - σ 8 p) * (σ 8 q - σ 8 p) = d2 (σ 7) (σ 8) p q := by unfold d2; grind
    rw [Nat.testBit_and, tb_mks, decide_eq_true hq, Bool.true_and, Bool.and_eq_true, Bool.and_eq_true, tM' q, eD, decide_eq_true_iff]
    constructor
    · rintro ⟨a, b, c⟩
      exact ⟨a, c⟩
    · rintro ⟨a, c⟩
      refine ⟨a, ?_, c⟩
      rcases a with a | a
      · exact hM q a
      · rw [a]
        exact hFp
  have b2 := bits (2 * R * (2 * R))
  have b1 := bits (R * R)
  have nl2 : M' &&& mks (fun q => F.testBit q && decide ((σ 7 q - σ 7 p) * (σ 7 q - σ 7 p) + (σ 8 q - σ 8 p) * (σ 8 q - σ 8 p) ≤ 2 * R * (2 * R))) 24 < 16777216 := Nat.lt_of_le_of_lt Nat.and_le_left hMl'
  have nl1 : M' &&& mks (fun q => F.testBit q && decide ((σ 7 q - σ 7 p) * (σ 7 q - σ 7 p) + (σ 8 q - σ 8 p) * (σ 8 q - σ 8 p) ≤ R * R)) 24 < 16777216 := Nat.lt_of_le_of_lt Nat.and_le_left hMl'
  clear bits
  generalize M' &&& mks (fun q => F.testBit q && decide ((σ 7 q - σ 7 p) * (σ 7 q - σ 7 p) + (σ 8 q - σ 8 p) * (σ 8 q - σ 8 p) ≤ 2 * R * (2 * R))) 24 = near at *
  generalize M' &&& mks (fun q => F.testBit q && decide ((σ 7 q - σ 7 p) * (σ 7 q - σ 7 p) + (σ 8 q - σ 8 p) * (σ 8 q - σ 8 p) ≤ R * R)) 24 = nst at *
  obtain ⟨s4, e4, f4, r4⟩ := ext_n (σ := s3) (E := esS (σ 7) (σ 8) R M) hd hp nl2 s2 hR2 (by rw [s7, s8]; exact hPl p hp) (by rw [s7, s8]; exact fun q hq _ => hPl q hq) (hE.row s34)
  rw [e4, Option.bind_some]
  have t7 : s4 7 = σ 7 := (f4 7 (by omega)).trans s7
  have t8 : s4 8 = σ 8 := (f4 8 (by omega)).trans s8
  have t27 : s4 (27 + d) = s3 (27 + d) := f4 _ (by omega)
  obtain ⟨s5', e5, f5, r5⟩ := add_loop (σ := s4) hd hp nl2 nl1 (by rw [t27]; exact s2) hR2 (by rw [t7, t8]; exact hPl) r4
  have f35 := f4.fa.tr f5
  have u7 : s5' 7 = σ 7 := (f5.row (by omega) (by omega)).trans t7
  have u8 : s5' 8 = σ 8 := (f5.row (by omega) (by omega)).trans t8
  refine ⟨s5', e5, ⟨?_, ?_, ?_⟩, ?_⟩
  · rw [f35 _ 2 (by omega) (by omega)]
    exact s2
  · rw [f35 _ 5 (by omega) (by omega)]
    exact s5
  · rw [u7, u8]
    rw [t7, t8, s7, s8] at r5
    refine r5.cgi fun a b q ha hb hq => ?_
    have na := b2 a ha
    have nb := b2 b hb
    have nq := b2 q hq
    have sa := b1 a ha
    have sq := b1 q hq
    have ma := tM' a
    have mb := tM' b
    have mq := tM' q
    have q4 : 2 * R * (2 * R) = 4 * R * R := by grind
    have q0 := sq_nn R
    rw [q4] at na nb nq
    clear b1 b2 tM' r4 r5 hE e4 e5 f35 f4 f5 rng hPl hM
    have dself := d2_self (σ 7) (σ 8) p
    have dsa := d2_sym (σ 7) (σ 8) p a
    have dsb := d2_sym (σ 7) (σ 8) p b
    have dsq := d2_sym (σ 7) (σ 8) p q
    have rs := rimD_sym (σ 7) (σ 8) R p a true q
    have r0 : ∀ b, rimD (σ 7) (σ 8) R p p b q = false := fun b => rimD_self _ _ _ _ _ _
    have rd := rimD_d (X := σ 7) (Y := σ 8) (R := R) (a := a) (b := b) (q := q) (side := false)
    have rdp := rimD_d (X := σ 7) (Y := σ 8) (R := R) (a := a) (b := b) (q := p) (side := false)
    rw [Bool.not_true] at rs
    unfold adE exG esS
    have e24a : decide (a < 24) = true := decide_eq_true ha
    have e24b : decide (b < 24) = true := decide_eq_true hb
    have e24q : decide (q < 24) = true := decide_eq_true hq
    rw [e24a, e24b, e24q]
    simp only [Bool.or_eq_true, Bool.and_eq_true, beq_iff_eq, Bool.and_true, Bool.not_eq_true', beq_eq_false_iff_ne, ne_eq, rs]
    by_cases hab : a = b
    · subst hab
      have raa : rimD (σ 7) (σ 8) R a a false p = false := rimD_self _ _ _ _ _ _
      rw [if_pos rfl, decide_eq_true_iff, raa]
      by_cases hap : a = p
      · subst hap
        rw [r0 false]
        grind
      · grind
    · rw [if_neg hab]
      by_cases hap : a = p
      · subst hap
        grind
      · by_cases hbp : b = p
        · subst hbp
          grind
        · grind
  · refine fr3.tr fun k j hk hj => f35 k j hk (by omega)
