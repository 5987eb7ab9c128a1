/-! ===== their order; square roots of fractions ===== -/
def rnn (x : Nat → Rat) : Prop := ∀ e : Rat, 0 < e → ∃ N, ∀ n, N ≤ n → -e < x n
theorem nn_sh {x y : Nat → Rat} (h : rnn x) (k : rnul (fun n => x n - y n)) : rnn y := fun e he => by
  obtain ⟨d, hd, hde⟩ := rdel (B := 1) he (by grind)
  obtain ⟨N, hN⟩ := h d hd
  obtain ⟨M, hM⟩ := k d hd
  refine ⟨max N M, fun n h1 => ?_⟩
  have a := hN n (by omega)
  have b := hM n (by omega)
  grind
theorem nn_cg {x y : Nat → Rat} (h : rnn x) (e : ∀ n, y n = x n) : rnn y := by
  rw [show y = x from funext e]
  exact h
theorem nn_add {x y : Nat → Rat} (h : rnn x) (k : rnn y) : rnn (fun n => x n + y n) := fun e he => by
  obtain ⟨d, hd, hde⟩ := rdel (B := 1) he (by grind)
  obtain ⟨N, hN⟩ := h d hd
  obtain ⟨M, hM⟩ := k d hd
  refine ⟨max N M, fun n h1 => ?_⟩
  have a := hN n (by omega)
  have b := hM n (by omega)
  grind
theorem nn_tot {x : Nat → Rat} (h : rcau x) : rnn x ∨ rnn (fun n => -x n) := by
  by_cases h1 : rnn x
  · exact Or.inl h1
  · right
    intro e he
    obtain ⟨d, hd⟩ : ∃ d : Rat, ¬ (0 < d → ∃ N, ∀ n, N ≤ n → -d < x n) := Classical.byContradiction fun q => h1 fun d => Classical.byContradiction fun r => q ⟨d, r⟩
    have hd0 : 0 < d := Classical.byContradiction fun q => hd fun r => absurd r q
    obtain ⟨N, hN⟩ := h d hd0
    refine ⟨N, fun n hn => ?_⟩
    obtain ⟨k, hk, hk2⟩ : ∃ k, N ≤ k ∧ ¬ -d < x k := Classical.byContradiction fun q => hd fun _ => ⟨N, fun k hk => Classical.byContradiction fun r => q ⟨k, hk, r⟩⟩
    have := hN n k hn hk
    grind
theorem nn_pos {x : Nat → Rat} (h : rcau x) (hn : ¬ rnn (fun n => -x n)) : ∃ d N, 0 < d ∧ ∀ n, N ≤ n → d < x n := by
  obtain ⟨d, hd⟩ : ∃ d : Rat, ¬ (0 < d → ∃ N, ∀ n, N ≤ n → -d < -x n) := Classical.byContradiction fun q => hn fun d => Classical.byContradiction fun r => q ⟨d, r⟩
  have hd0 : 0 < d := Classical.byContradiction fun q => hd fun r => absurd r q
  obtain ⟨c, hc, hce⟩ := rdel (B := 1) hd0 (by grind)
  obtain ⟨N, hN⟩ := h c hc
  obtain ⟨k, hk, hk2⟩ : ∃ k, N ≤ k ∧ ¬ -d < -x k := Classical.byContradiction fun q => hd fun _ => ⟨N, fun k hk => Classical.byContradiction fun r => q ⟨k, hk, r⟩⟩
  refine ⟨c, N, hc, fun n hn => ?_⟩
  have := hN k n hk hn
  grind
theorem nn_mul {x y : Nat → Rat} (hx : rcau x) (hy : rcau y) (h : rnn x) (k : rnn y) : rnn (fun n => x n * y n) := fun e he => by
  obtain ⟨A, N0, hA, hN0⟩ := rbnd hx
  obtain ⟨B, M0, hB, hM0⟩ := rbnd hy
  obtain ⟨d1, hd1, hde1⟩ := rdel (B := A) he hA
  obtain ⟨d2, hd2, hde2⟩ := rdel (B := B) he hB
  obtain ⟨N, hN⟩ := h d2 hd2
  obtain ⟨M, hM⟩ := k d1 hd1
  refine ⟨max (max N M) (max N0 M0), fun n h1 => ?_⟩
  have a := hN n (by omega)
  have b := hM n (by omega)
  have c := hN0 n (by omega)
  have c' := hM0 n (by omega)
  rcases Rat.le_total (a := 0) (b := x n) with p | p
  · rcases Rat.le_total (a := 0) (b := y n) with q | q
    · have := Rat.mul_nonneg p q
      grind
    · have := rprd (a := x n) (b := y n) c (e := d1) ⟨by grind, by grind⟩
      grind
  · have := rprd (a := y n) (b := x n) c' (e := d2) ⟨by grind, by grind⟩
    grind
theorem nn_c {c : Rat} : rnn (fun _ => c) ↔ 0 ≤ c := by
  constructor
  · intro h
    refine Classical.byContradiction fun hn => ?_
    obtain ⟨N, hN⟩ := h (-c) (by grind)
    have := hN N (Nat.le_refl _)
    grind
  · intro h e he
    exact ⟨0, fun n _ => by grind⟩
def rrN (a : RR) : Prop := Quotient.lift (s := csS) (fun x => rnn x.1) (fun x y h => propext ⟨fun q => nn_sh q h, fun q => nn_sh q (nul_congr (nul_neg h) (fun n => by grind))⟩) a
theorem rrN_add {a b : RR} : rrN a → rrN b → rrN (radd a b) := rr_ind2 (P := fun a b => rrN a → rrN b → rrN (radd a b)) (fun x hx y hy h k => nn_add h k) a b
theorem rrN_mul {a b : RR} : rrN a → rrN b → rrN (rmul a b) := rr_ind2 (P := fun a b => rrN a → rrN b → rrN (rmul a b)) (fun x hx y hy h k => nn_mul hx hy h k) a b
theorem rrN_tot (a : RR) : rrN a ∨ rrN (rneg a) := rr_ind (P := fun a => rrN a ∨ rrN (rneg a)) (fun x hx => nn_tot hx) a
theorem rrN_0 {a : RR} : rrN a → rrN (rneg a) → a = rc 0 := rr_ind (P := fun a => rrN a → rrN (rneg a) → a = rc 0) (fun x hx h k => rqk_eq fun e he => by
  obtain ⟨N, hN⟩ := h e he
  obtain ⟨M, hM⟩ := k e he
  refine ⟨max N M, fun n h1 => ?_⟩
  have a := hN n (by omega)
  have b := hM n (by omega)
  constructor <;> grind) a
theorem rrN_pos {a b : RR} : ¬ rrN (rneg a) → ¬ rrN (rneg b) → ¬ rrN (rneg (rmul a b)) := rr_ind2 (P := fun a b => ¬ rrN (rneg a) → ¬ rrN (rneg b) → ¬ rrN (rneg (rmul a b))) (fun x hx y hy h k q => by
  obtain ⟨d, N, hd, hN⟩ := nn_pos hx h
  obtain ⟨c, M, hc, hM⟩ := nn_pos hy k
  obtain ⟨K, hK⟩ := q (d * c) (Rat.mul_pos hd hc)
  have a := hN (max (max N M) K) (by omega)
  have b := hM (max (max N M) K) (by omega)
  have z := hK (max (max N M) K) (by omega)
  dsimp only at z
  generalize x (max (max N M) K) = u at *
  generalize y (max (max N M) K) = v at *
  have p1 := Rat.mul_pos (a := u - d) (b := v) (by grind) (by grind)
  have p2 := Rat.mul_pos (a := d) (b := v - c) hd (by grind)
  grind) a b
theorem rr_e1 (a b : RR) : rneg (radd b (rneg a)) = radd a (rneg b) := rr_ind2 (P := fun a b => rneg (radd b (rneg a)) = radd a (rneg b)) (fun x hx y hy => rqk_cg (fun n => by show -(y n + -x n) = x n + -y n; grind)) a b
theorem rr_e2 (a b c : RR) : radd (radd b (rneg a)) (radd c (rneg b)) = radd c (rneg a) := rr_ind3 (P := fun a b c => radd (radd b (rneg a)) (radd c (rneg b)) = radd c (rneg a)) (fun x hx y hy z hz => rqk_cg (fun n => by show (y n + -x n) + (z n + -y n) = z n + -x n; grind)) a b c
theorem rr_e3 (a b c : RR) : radd (radd b c) (rneg (radd a c)) = radd b (rneg a) := rr_ind3 (P := fun a b c => radd (radd b c) (rneg (radd a c)) = radd b (rneg a)) (fun x hx y hy z hz => rqk_cg (fun n => by show (y n + z n) + -(x n + z n) = y n + -x n; grind)) a b c
theorem rr_e4 (a b c : RR) : radd (rmul c b) (rneg (rmul c a)) = rmul c (radd b (rneg a)) := rr_ind3 (P := fun a b c => radd (rmul c b) (rneg (rmul c a)) = rmul c (radd b (rneg a))) (fun x hx y hy z hz => rqk_cg (fun n => by show z n * y n + -(z n * x n) = z n * (y n + -x n); grind)) a b c
theorem rr_e5 (a : RR) : radd a (rneg (rc ((0 : Nat) : Rat))) = a := rr_ind (P := fun a => radd a (rneg (rc ((0 : Nat) : Rat))) = a) (fun x hx => rqk_cg (fun n => by show x n + -((0 : Nat) : Rat) = x n; grind)) a
theorem rr_e6 (a b : RR) : radd b (rneg a) = rc 0 → a = b := rr_ind2 (P := fun a b => radd b (rneg a) = rc 0 → a = b) (fun x hx y hy h => rqk_eq (nul_congr (nul_neg (rqk_ex h)) (fun n => by grind))) a b
def rrLE : LE RR := ⟨fun a b => rrN (radd b (rneg a))⟩
def rrLT : LT RR := ⟨fun a b => rrN (radd b (rneg a)) ∧ ¬ rrN (radd a (rneg b))⟩
theorem rrLin : @Std.IsLinearOrder RR rrLE := by
  letI := rrLE
  exact {
    le_refl := fun a => by
      rcases rrN_tot (radd a (rneg a)) with h | h
      · exact h
      · rw [rr_e1] at h
        exact h
    le_trans := fun a b c h k => by
      have := rrN_add h k
      rw [rr_e2] at this
      exact this
    le_antisymm := fun a b h k => rr_e6 a b (rrN_0 h (by rw [rr_e1]; exact k))
    le_total := fun a b => by
      rcases rrN_tot (radd b (rneg a)) with h | h
      · exact Or.inl h
      · rw [rr_e1] at h
        exact Or.inr h }
theorem rrLaw : @Std.LawfulOrderLT RR rrLT rrLE := by
  letI := rrLE
  letI := rrLT
  exact { lt_iff := fun a b => Iff.rfl }
theorem rr_mlt {a b c : RR} (h : rrN (radd b (rneg a)) ∧ ¬ rrN (radd a (rneg b))) (k : rrN (radd c (rneg (rc ((0 : Nat) : Rat)))) ∧ ¬ rrN (radd (rc ((0 : Nat) : Rat)) (rneg c))) : rrN (radd (rmul c b) (rneg (rmul c a))) ∧ ¬ rrN (radd (rmul c a) (rneg (rmul c b))) := by
  rw [rr_e5] at k
  have k2 : ¬ rrN (rneg c) := by
    have e := rr_e1 (rc ((0 : Nat) : Rat)) c
    rw [rr_e5] at e
    rw [e]
    exact k.2
  refine ⟨?_, ?_⟩
  · rw [rr_e4]
    exact rrN_mul k.1 h.1
  · rw [← rr_e1, rr_e4]
    refine rrN_pos k2 ?_
    rw [rr_e1]
    exact h.2
theorem rrOrd : @Lean.Grind.OrderedRing RR rrR.toSemiring rrLE rrLT (@Std.IsLinearOrder.toIsPartialOrder RR rrLE rrLin).toIsPreorder := by
  letI := rrR
  letI := rrLE
  letI := rrLT
  haveI := rrLin
  exact {
    add_le_left_iff := fun {a b} c => by
      show rrN (radd b (rneg a)) ↔ rrN (radd (radd b c) (rneg (radd a c)))
      rw [rr_e3]
    zero_lt_one := by
      show rrN (radd (rc ((1 : Nat) : Rat)) (rneg (rc ((0 : Nat) : Rat)))) ∧ ¬ rrN (radd (rc ((0 : Nat) : Rat)) (rneg (rc ((1 : Nat) : Rat))))
      rw [rr_e5]
      refine ⟨(nn_c (c := ((1 : Nat) : Rat))).mpr Rat.natCast_nonneg, fun h => ?_⟩
      have h2 : rnn (fun _ => ((0 : Nat) : Rat) + -((1 : Nat) : Rat)) := h
      rw [nn_c] at h2
      grind
    mul_lt_mul_of_pos_left := fun {a b c} h k => rr_mlt h k
    mul_lt_mul_of_pos_right := fun {a b c} h k => by
      have h1 := rr_mlt h k
      have e1 : rmul c a = rmul a c := rrR.mul_comm c a
      have e2 : rmul c b = rmul b c := rrR.mul_comm c b
      rw [e1, e2] at h1
      exact h1 }
theorem isq_ex : ∀ m : Nat, ∃ r : Nat, r * r ≤ m ∧ m < (r + 1) * (r + 1)
  | 0 => ⟨0, by decide⟩
  | m + 1 => by
    obtain ⟨r, h1, h2⟩ := isq_ex m
    by_cases h : m + 1 < (r + 1) * (r + 1)
    · exact ⟨r, by omega, h⟩
    · exact ⟨r + 1, by omega, by grind⟩
noncomputable def isq (m : Nat) : Nat := Classical.choose (isq_ex m)
theorem isq_s (m : Nat) : isq m * isq m ≤ m ∧ m < (isq m + 1) * (isq m + 1) := Classical.choose_spec (isq_ex m)
def ru (n : Nat) : Rat := ((n + 1 : Nat) : Rat)⁻¹
theorem ru_p (n : Nat) : 0 < ru n ∧ ((n + 1 : Nat) : Rat) * ru n = 1 := by
  have h : (0 : Rat) < ((n + 1 : Nat) : Rat) := Rat.natCast_pos.mpr (Nat.succ_pos n)
  exact ⟨Rat.inv_pos.mpr h, Rat.mul_inv_cancel _ (by grind)⟩
theorem ru_s {e : Rat} (he : 0 < e) : ∃ N, ∀ n, N ≤ n → ru n < e := by
  have h1 := Rat.lt_floor_add_one e⁻¹
  have h0 : 0 < e⁻¹ := Rat.inv_pos.mpr he
  refine ⟨(e⁻¹).floor.toNat, fun n hn => ?_⟩
  obtain ⟨u1, u2⟩ := ru_p n
  have h2 : (e⁻¹).floor + 1 ≤ ((n + 1 : Nat) : Int) := by omega
  have h3 : (((e⁻¹).floor + 1 : Int) : Rat) ≤ (((n + 1 : Nat) : Int) : Rat) := Rat.intCast_le_intCast.mpr h2
  have h4 : (((n + 1 : Nat) : Int) : Rat) = ((n + 1 : Nat) : Rat) := rfl
  rw [h4] at h3
  have h5 := Rat.mul_inv_cancel e (by grind)
  generalize ((n + 1 : Nat) : Rat) = w at *
  generalize ru n = u at *
  generalize (((e⁻¹).floor + 1 : Int) : Rat) = f at *
  generalize e⁻¹ = i at *
  clear h2 h4 hn
  have p1 := Rat.mul_pos (a := e) (b := w - i) he (by grind)
  have p2 := Rat.mul_pos (a := u) (b := e * w - 1) u1 (by grind)
  have e1 : u * (e * w - 1) = e * (w * u) - u := by clear u2 h5 p1 p2; grind
  rw [e1, u2] at p2
  grind
noncomputable def rsr (m n : Nat) : Rat := (isq (m * ((n + 1) * (n + 1))) : Rat) * ru n
theorem rsr_s (m n : Nat) : 0 ≤ rsr m n ∧ rsr m n * rsr m n ≤ m ∧ (m : Rat) < (rsr m n + ru n) * (rsr m n + ru n) := by
  obtain ⟨h1, h2⟩ := isq_s (m * ((n + 1) * (n + 1)))
  obtain ⟨u1, u2⟩ := ru_p n
  unfold rsr
  have h1 := Rat.natCast_le_natCast.mpr h1
  have h2 := Rat.natCast_lt_natCast.mpr h2
  have h3 : (0 : Rat) ≤ (isq (m * ((n + 1) * (n + 1))) : Rat) := Rat.natCast_nonneg
  simp only [Rat.natCast_mul] at h1 h2
  rw [Rat.natCast_add (isq _) 1] at h2
  generalize (isq (m * ((n + 1) * (n + 1))) : Rat) = r at *
  generalize ((n + 1 : Nat) : Rat) = w at *
  generalize ru n = u at *
  generalize (m : Rat) = M at *
  have uu := Rat.mul_pos u1 u1
  have e1 : M * (w * w) * (u * u) = M := by grind
  have p1 := Rat.mul_nonneg (a := M * (w * w) - r * r) (b := u * u) (by grind) (by grind)
  have p2 := Rat.mul_pos (a := (r + ((1 : Nat) : Rat)) * (r + ((1 : Nat) : Rat)) - M * (w * w)) (b := u * u) (by grind) uu
  have e2 : ((1 : Nat) : Rat) = 1 := by grind
  rw [e2] at p2
  refine ⟨Rat.mul_nonneg h3 (by grind), by grind, by grind⟩
theorem rsr_lt (m a b : Nat) : rsr m a < rsr m b + ru b := by
  obtain ⟨a1, a2, a3⟩ := rsr_s m a
  obtain ⟨b1, b2, b3⟩ := rsr_s m b
  obtain ⟨u1, u2⟩ := ru_p b
  refine Classical.byContradiction fun hn => ?_
  generalize rsr m a = x at *
  generalize rsr m b = y at *
  generalize ru b = u at *
  have := Rat.mul_nonneg (a := x - (y + u)) (b := x + (y + u)) (by grind) (by grind)
  grind
theorem rsr_c (m : Nat) : rcau (rsr m) := fun e he => by
  obtain ⟨N, hN⟩ := ru_s he
  refine ⟨N, fun a b _ hb => ?_⟩
  have h1 := hN b hb
  have h2 := rsr_lt m a b
  grind
theorem rsr_n (m : Nat) : rnul (fun n => rsr m n * rsr m n - (m : Rat)) := fun e he => by
  have hm : (0 : Rat) ≤ (m : Rat) := Rat.natCast_nonneg
  obtain ⟨d, hd, hde⟩ := rdel (B := 2 * (m : Rat) + 3) he (by grind)
  obtain ⟨N, hN⟩ := ru_s hd
  obtain ⟨M, hM⟩ := ru_s (e := 1) (by grind)
  refine ⟨max N M, fun n hn => ?_⟩
  have h1 := hN n (by omega)
  have h2 := hM n (by omega)
  obtain ⟨a1, a2, a3⟩ := rsr_s m n
  obtain ⟨u1, u2⟩ := ru_p n
  show -e < rsr m n * rsr m n - (m : Rat) ∧ rsr m n * rsr m n - (m : Rat) < e
  clear hN hM
  generalize rsr m n = s at *
  generalize ru n = u at *
  generalize (m : Rat) = k at *
  have hs : s ≤ k + 1 := by
    refine Classical.byContradiction fun hn => ?_
    have := Rat.mul_pos (a := s - (k + 1)) (b := s + (k + 1)) (by grind) (by grind)
    have := Rat.mul_nonneg hm hm
    grind
  have p1 := Rat.mul_nonneg (a := u) (b := 2 * k + 3 - (2 * s + u)) (by grind) (by grind)
  have p2 := Rat.mul_pos (a := d - u) (b := 2 * k + 3) (by grind) (by grind)
  constructor <;> grind
def io (k : Int) : RR := rc (k : Rat)
theorem io_r (K D : Int) (hK : 0 ≤ K) (hD : 0 < D) : ∃ t : RR, rrN (radd t (rneg (rc ((0 : Nat) : Rat)))) ∧ rmul (io D) (rmul t t) = io K := by
  have hD2 : (0 : Rat) < (D : Rat) := Rat.intCast_pos.mpr hD
  have hi := Rat.mul_inv_cancel (D : Rat) (by grind)
  have hip : (0 : Rat) < (D : Rat)⁻¹ := Rat.inv_pos.mpr hD2
  refine ⟨rqk (fun n => rsr (K * D).toNat n * (D : Rat)⁻¹) (cau_mul (rsr_c _) (cau_const _)), ?_, ?_⟩
  · rw [rr_e5]
    intro e he
    refine ⟨0, fun n _ => ?_⟩
    have := Rat.mul_nonneg (rsr_s (K * D).toNat n).1 (Rat.le_of_lt hip)
    grind
  · have hk : (((K * D).toNat : Nat) : Rat) = (K : Rat) * (D : Rat) := by
      have h0 : 0 ≤ K * D := Int.mul_nonneg hK (by omega)
      have h1 : (((K * D).toNat : Nat) : Int) = K * D := by omega
      have h2 : ((((K * D).toNat : Nat) : Int) : Rat) = ((K * D : Int) : Rat) := by rw [h1]
      rw [Rat.intCast_mul] at h2
      rw [← h2]
      rfl
    refine rqk_eq (nul_congr (nul_mul (cau_const ((D : Rat)⁻¹)) (rsr_n (K * D).toNat)) (fun n => ?_))
    show (D : Rat) * (rsr (K * D).toNat n * (D : Rat)⁻¹ * (rsr (K * D).toNat n * (D : Rat)⁻¹)) - (K : Rat) = (D : Rat)⁻¹ * (rsr (K * D).toNat n * rsr (K * D).toNat n - (((K * D).toNat : Nat) : Rat))
    rw [hk]
    generalize rsr (K * D).toNat n = s
    generalize (D : Rat)⁻¹ = i at *
    generalize (D : Rat) = d at *
    generalize (K : Rat) = k at *
    grind
theorem io_add (a b : Int) : io (a + b) = radd (io a) (io b) := rqk_cg (fun _ => by rw [Rat.intCast_add])
theorem io_sub (a b : Int) : io (a - b) = radd (io a) (rneg (io b)) := rqk_cg (fun _ => by rw [Rat.intCast_sub]; grind)
theorem io_mul (a b : Int) : io (a * b) = rmul (io a) (io b) := rqk_cg (fun _ => by rw [Rat.intCast_mul])
theorem io_le (a b : Int) : a ≤ b ↔ rrN (radd (io b) (rneg (io a))) := by
  have h : rrN (radd (io b) (rneg (io a))) ↔ 0 ≤ (b : Rat) + -(a : Rat) := nn_c (c := (b : Rat) + -(a : Rat))
  rw [h, ← Rat.intCast_le_intCast (a := a) (b := b)]
  constructor
  · intro h
    grind
  · intro h
    grind
