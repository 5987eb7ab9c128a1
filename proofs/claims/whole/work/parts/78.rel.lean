/-! ===== pure level: what ties the desk to the reference ===== -/
def LgP (cnt : Int) (row : Nat → Int) (lg : Int) (log : Nat → Int) (nb : Nat) : Prop := ∃ C : Nat, cnt = (C : Int) ∧ C ≤ nb ∧ lg = (if C < 30 then (C : Int) else 30) ∧ ∀ i j, i < 30 → i < C → j < 3 → row ((C - 1 - i) % 30 * 3 + j) = log (3 * i + j)
def TpP (l : Int) (b : Nat → Int) (l' : Int) (b' : Nat → Int) : Prop := l = l' ∧ (0 ≤ l ∧ l ≤ 900) ∧ ∀ j, j < 900 → b j = b' j ∧ 0 ≤ b' j ∧ b' j ≤ 255
def PoP (f : Int) (x y s p : Nat → Int) (x' y' s' p' t' : Nat → Int) (F : Nat) : Prop := f = (F : Int) ∧ F < 16777216 ∧ ∀ q, q < 24 → (t' q = if F.testBit q then 1 else 0) ∧ (x q = x' q ∧ y q = y' q ∧ p q = p' q ∧ s q = if F.testBit q then s' q else 0) ∧ Pl x' y' q ∧ (0 ≤ p' q ∧ p' q ≤ 3) ∧ (0 ≤ s' q ∧ s' q ≤ 99999) ∧ (F.testBit q = true → 1 ≤ s' q)
def StP (a : Nat → Int) (i : Int) (b : Nat → Int) : Prop := a 0 = i ∧ (i = 0 ∨ (i = 1 ∧ (∀ j, j < 6 → a (1 + j) = b j) ∧ (0 ≤ b 0 ∧ b 0 ≤ 300) ∧ (0 ≤ b 1 ∧ b 1 < 300) ∧ (0 ≤ b 2 ∧ b 2 < 300) ∧ (0 ≤ b 3 ∧ b 3 < 300) ∧ (0 ≤ b 4 ∧ b 4 < 300) ∧ (1 ≤ b 5 ∧ b 5 ≤ 100)))
/-- the policies of a treaty, by the reference's rows -/
def mbS (ζ : Sg) (t : Nat) : Nat := prS (ζ 49) (ζ 48) (ζ 50 t).toNat
def TrD (z ζ : Sg) (t : Nat) : Prop := (z (21 + t) 2 = ζ 50 t ∧ z (21 + t) 3 = ζ 51 t ∧ z (21 + t) 4 = ζ 52 t) ∧ MTr ζ t ∧ DI z t (ζ 51 t) (mbS ζ t)
def TrA (z ζ : Sg) (t : Nat) (na : Nat) : Prop := z (21 + t) 7 = ζ 53 t ∧ z (21 + t) 8 = ζ 54 t ∧ -2 ≤ ζ 53 t ∧ ζ 53 t ≤ na
def TrW (z ζ : Sg) (t : Nat) : Prop := z (21 + t) 5 = (wsM ζ t).2 ∧ z (21 + t) 6 = (wsM ζ t).1
def TrQ (z ζ : Sg) (t : Nat) : Prop := TrW z ζ t ∧ (ζ 53 t = -2 ↔ ¬ psM ζ t)
def RelB (z ζ : Sg) (F : Nat) : Prop := PoP (z 6 5) (z 7) (z 8) (z 9) (z 10) (ζ 45) (ζ 46) (ζ 47) (ζ 48) (ζ 49) F ∧ Grp z (z 9)
def RelT (z ζ : Sg) (N na : Nat) : Prop := N ≤ 6 ∧ z 0 4 = (N : Int) ∧ ζ 41 27 = (N : Int) ∧ ∀ t, t < N → TrD z ζ t ∧ TrA z ζ t na
def RelL (z ζ : Sg) (na nb : Nat) : Prop := (z 13 2 = ζ 41 28 ∧ LgP (z 13 2) (z 14) (ζ 41 34) (ζ 57) na ∧ z 13 1 = -2147483648) ∧ LgP (z 15 2) (z 16) (ζ 41 32) (ζ 56) nb ∧ z 15 1 = -2
def RelO (z ζ : Sg) : Prop := TpP (z 1 1) (z 2) (ζ 41 2) (ζ 42) ∧ (z 3 7 = ζ 41 15 ∧ z 3 8 = ζ 41 16) ∧ StP (z 17) (ζ 41 30) (ζ 55)
def Rl (n : Nat) (z ζ : Sg) : Prop := ∃ F N, RelB z ζ F ∧ RelT z ζ N n ∧ RelL z ζ n (8 * n) ∧ RelO z ζ ∧ ∀ t, t < N → TrQ z ζ t
theorem MRow.of {z ζ : Sg} {F : Nat} (h : RelB z ζ F) : MRow ζ := fun p hp => by
  obtain ⟨h1, -, h3, h4, h5, -⟩ := h.1.2.2 p hp
  refine ⟨?_, h4, h3, h5⟩
  rw [h1]
  cases F.testBit p
  · exact Or.inl rfl
  · exact Or.inr rfl
theorem RelB.pl {z ζ : Sg} {F : Nat} (h : RelB z ζ F) : ∀ q, q < 24 → Pl (z 7) (z 8) q := fun q hq => by
  obtain ⟨-, h2, h3, -⟩ := h.1.2.2 q hq
  unfold Pl at *
  rw [h2.1, h2.2.1]
  exact h3
theorem mbS_F {z ζ : Sg} {F t : Nat} (h : RelB z ζ F) {q : Nat} (hq : (mbS ζ t).testBit q = true) : F.testBit q = true ∧ q < 24 ∧ (ζ 50 t).toNat.testBit (ζ 48 q).toNat = true := by
  unfold mbS prS at hq
  rw [tb_mks] at hq
  simp only [Bool.and_eq_true, decide_eq_true_eq] at hq
  obtain ⟨h1, h2, h3⟩ := hq
  refine ⟨?_, h1, h3⟩
  have := (h.1.2.2 q h1).1
  rw [this] at h2
  cases hb : F.testBit q with
  | true => rfl
  | false =>
    rw [hb, if_neg (by decide)] at h2
    omega
theorem mbS_24 (ζ : Sg) (t : Nat) : mbS ζ t < 16777216 := mks_24 _
theorem RelB.s1 {z ζ : Sg} {F t : Nat} (h : RelB z ζ F) : ∀ q, (mbS ζ t).testBit q = true → 1 ≤ z 9 q ∧ z 9 q ≤ 99999 := fun q hq => by
  obtain ⟨hF, hl, -⟩ := mbS_F h hq
  obtain ⟨-, ⟨-, -, -, h2⟩, -, -, h5, h6⟩ := h.1.2.2 q hl
  rw [h2, if_pos hF]
  exact ⟨h6 hF, h5.2⟩
theorem RelB.hv {z ζ : Sg} {F s : Nat} {R : Int} (h : RelB z ζ F) (hs : ∀ q, s.testBit q = true → F.testBit q = true) : hvS (z 7) (z 8) (z 9) R none s = hvS (ζ 45) (ζ 46) (ζ 47) R none s := hvS_cg fun q hq => by
  have hF := hs q hq
  obtain ⟨-, ⟨h1, h2, -, h4⟩, -⟩ := h.1.2.2 q (bit_lt h.1.2.1 hF)
  rw [if_pos hF] at h4
  exact ⟨h1, h2, h4⟩
theorem sqR {R : Int} (h : 1 ≤ R ∧ R ≤ 300) : 0 ≤ R * R := sq_nn R
theorem RelB.worst {z ζ : Sg} {F t : Nat} (h : RelB z ζ F) : hvS (z 7) (z 8) (z 9) (ζ 51 t) none (mbS ζ t) = wsM ζ t := h.hv (fun q hq => (mbS_F h hq).1)
theorem findWorst_r {z ζ : Sg} {F t : Nat} (ht : t < 6) (h : RelB z ζ F) (hD : TrD z ζ t) : f_X8_findWorst t z = some (up (up z (21 + t) 5 (wsM ζ t).2) (21 + t) 6 (wsM ζ t).1) := by
  rw [findWorst_n ht (mbS_24 ζ t) (sqR hD.2.1.2.1) hD.2.2 h.2 h.s1, h.worst]
/-- a note -/
def nteA (r : Nat → Int) (q : Nat) (a b c : Int) : Nat → Int := fun j => if j = q * 3 + 2 then c else if j = q * 3 + 1 then b else if j = q * 3 then a else r j
theorem LgP.note {cnt lg : Int} {row log : Nat → Int} {nb C : Nat} {a b c : Int} (h : LgP cnt row lg log nb) (hC : cnt = (C : Int)) : LgP (cnt + 1) (nteA row (C % 30) a b c) (if lg < 30 then lg + 1 else 30) (noteA log a b c) (nb + 1) := by
  obtain ⟨D, h1, h2, h3, h4⟩ := h
  have hD : D = C := by omega
  subst hD
  refine ⟨D + 1, by omega, by omega, ?_, fun i j hi hiC hj => ?_⟩
  · rw [h3]
    by_cases h30 : D < 30
    · rw [if_pos h30, if_pos (by omega)]
      by_cases h31 : D + 1 < 30
      · rw [if_pos h31]
        omega
      · rw [if_neg h31]
        omega
    · rw [if_neg h30, if_neg (by omega), if_neg (by omega)]
  · unfold nteA noteA
    by_cases h0 : i = 0
    · subst h0
      rw [show (D + 1 - 1 - 0) % 30 = D % 30 by omega]
      rcases (show j = 0 ∨ j = 1 ∨ j = 2 by omega) with rfl | rfl | rfl
      · rw [if_neg (by omega), if_neg (by omega), if_pos (by omega), if_pos (by omega)]
      · rw [if_neg (by omega), if_pos (by omega), if_neg (by omega), if_pos (by omega)]
      · rw [if_pos (by omega), if_neg (by omega), if_neg (by omega), if_pos (by omega)]
    · have hne : (D - i) % 30 ≠ D % 30 := by omega
      rw [show D + 1 - 1 - i = D - i by omega]
      rw [if_neg (by omega), if_neg (by omega), if_neg (by omega), if_neg (by omega), if_neg (by omega), if_neg (by omega), if_pos (by omega)]
      have := h4 (i - 1) j (by omega) (by omega) hj
      rw [show D - 1 - (i - 1) = D - i by omega, show 3 * (i - 1) + j = 3 * i + j - 3 by omega] at this
      exact this
theorem w32_30 : w32 30 = 30 := by decide
theorem note_n {σ : Sg} {e C : Nat} {a b c : Int} (he : e < 2) (hC : σ (13 + 2 * e) 2 = (C : Int)) (hl : C < 100000) :
    ∃ z, f_X5_note e a b c σ = some z ∧ (∀ k, k ≠ 13 + 2 * e → k ≠ 14 + 2 * e → z k = σ k) ∧ z (14 + 2 * e) = nteA (σ (14 + 2 * e)) (C % 30) a b c ∧ z (13 + 2 * e) 2 = (C : Int) + 1 ∧ ∀ j, j ≠ 2 → z (13 + 2 * e) j = σ (13 + 2 * e) j := by
  have hm : ((C : Int)).tmod 30 = ((C % 30 : Nat) : Int) := (Int.ofNat_tmod C 30).symm
  have hq : C % 30 < 30 := Nat.mod_lt _ (by decide)
  unfold f_X5_note wr
  dsimp only
  rw [ck_t he, hC, w32_n (by omega), w32_30, ck_t (by decide), hm, w32_eq (z := ((C % 30 : Nat) : Int) * 3) ⟨by omega, by omega⟩, if_neg (by omega), w32_eq (z := ((C % 30 : Nat) : Int) * 3 + 2) ⟨by omega, by omega⟩, if_pos (by omega), ck_t (by omega), ck_t (by omega), ck_t (by omega)]
  have i0 : (((C % 30 : Nat) : Int) * 3).toNat = C % 30 * 3 := by omega
  have i1 : (((C % 30 : Nat) : Int) * 3 + 1).toNat = C % 30 * 3 + 1 := by omega
  have i2 : (((C % 30 : Nat) : Int) * 3 + 2).toNat = C % 30 * 3 + 2 := by omega
  rw [i0, i1, i2]
  refine ⟨_, rfl, fun k h1 h2 => ?_, ?_, ?_, fun j hj => ?_⟩
  · rw [up_k h1, up_k h2, up_k h2, up_k h2]
  · rw [up_k (by omega)]
    funext j
    unfold nteA
    by_cases h2 : j = C % 30 * 3 + 2
    · rw [if_pos h2, h2, up_s]
    · rw [if_neg h2, up_j h2]
      by_cases h1 : j = C % 30 * 3 + 1
      · rw [if_pos h1, h1, up_s]
      · rw [if_neg h1, up_j h1]
        by_cases h0 : j = C % 30 * 3
        · rw [if_pos h0, h0, up_s]
        · rw [if_neg h0, up_j h0]
  · rw [up_s, up_k (by omega), up_k (by omega), up_k (by omega), hC]
  · rw [up_j hj, up_k (by omega), up_k (by omega), up_k (by omega)]
theorem treatyAt_t {σ : Sg} {t N : Nat} (hN : σ 0 4 = (N : Int)) (ht : t < N) (hN6 : N ≤ 6) : f_X9_treatyAt (t : Int) σ = some (some t) := by
  unfold f_X9_treatyAt nmN
  rw [w32_n (by omega), if_neg (by omega), hN, w32_n (by omega), if_pos (by omega), if_pos (by omega), ck_t (by omega), ntn]
theorem treatyAt_f {σ : Sg} {t : Int} {N : Nat} (hN : σ 0 4 = (N : Int)) (ht : InR t) (hN6 : N ≤ 6) (h : ¬ (0 ≤ t ∧ t < N)) : f_X9_treatyAt t σ = some none := by
  unfold f_X9_treatyAt f_X9_treatyAt_b30
  rw [w32_eq ht, hN, w32_n (by omega)]
  by_cases h1 : t < 0
  · rw [if_pos h1]
  · rw [if_neg h1, if_neg (by omega)]
