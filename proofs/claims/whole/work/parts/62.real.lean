/-! ===== numbers with square roots: sequences of fractions that come together ===== -/
theorem rsq (a : Rat) : 0 ≤ a * a := by
  rcases Rat.le_total (a := 0) (b := a) with h | h
  · exact Rat.mul_nonneg h h
  · have := Rat.mul_nonneg (a := -a) (b := -a) (by grind) (by grind)
    grind
theorem rprd {a b A e : Rat} (h1 : -A ≤ a ∧ a ≤ A) (h2 : -e ≤ b ∧ b ≤ e) : -(A * e) ≤ a * b ∧ a * b ≤ A * e := by
  have p1 := Rat.mul_nonneg (a := A - a) (b := e + b) (by grind) (by grind)
  have p2 := Rat.mul_nonneg (a := A + a) (b := e - b) (by grind) (by grind)
  have p3 := Rat.mul_nonneg (a := A - a) (b := e - b) (by grind) (by grind)
  have p4 := Rat.mul_nonneg (a := A + a) (b := e + b) (by grind) (by grind)
  constructor <;> grind
theorem rdel {e B : Rat} (he : 0 < e) (hB : 0 < B) : ∃ d, 0 < d ∧ 4 * (B * d) = e := by
  refine ⟨e * (4 * B)⁻¹, Rat.mul_pos he (Rat.inv_pos.mpr (by grind)), ?_⟩
  have h := Rat.mul_inv_cancel (4 * B) (by grind)
  grind
def rcau (x : Nat → Rat) : Prop := ∀ e : Rat, 0 < e → ∃ N, ∀ m n, N ≤ m → N ≤ n → x m - x n < e
theorem rbnd {x : Nat → Rat} (h : rcau x) : ∃ B N, 0 < B ∧ ∀ n, N ≤ n → -B ≤ x n ∧ x n ≤ B := by
  obtain ⟨N, hN⟩ := h 1 (by grind)
  have s1 := rsq (x N - 1)
  have s2 := rsq (x N + 1)
  have s3 := rsq (x N)
  refine ⟨x N * x N + 2, N, by grind, fun n hn => ?_⟩
  have a := hN n N hn (Nat.le_refl _)
  have b := hN N n (Nat.le_refl _) hn
  constructor <;> grind
theorem cau_const (a : Rat) : rcau (fun _ => a) := fun e he => ⟨0, fun m n _ _ => by grind⟩
theorem cau_add {x y : Nat → Rat} (hx : rcau x) (hy : rcau y) : rcau (fun n => x n + y n) := fun e he => by
  obtain ⟨d, hd, hde⟩ := rdel (B := 1) he (by grind)
  obtain ⟨N, hN⟩ := hx d hd
  obtain ⟨M, hM⟩ := hy d hd
  refine ⟨max N M, fun m n h1 h2 => ?_⟩
  have a := hN m n (by omega) (by omega)
  have b := hM m n (by omega) (by omega)
  grind
theorem cau_neg {x : Nat → Rat} (hx : rcau x) : rcau (fun n => -x n) := fun e he => by
  obtain ⟨N, hN⟩ := hx e he
  refine ⟨N, fun m n h1 h2 => ?_⟩
  have a := hN n m h2 h1
  grind
theorem cau_mul {x y : Nat → Rat} (hx : rcau x) (hy : rcau y) : rcau (fun n => x n * y n) := fun e he => by
  obtain ⟨A, N0, hA, hN0⟩ := rbnd hx
  obtain ⟨B, M0, hB, hM0⟩ := rbnd hy
  obtain ⟨d1, hd1, hde1⟩ := rdel (B := A) he hA
  obtain ⟨d2, hd2, hde2⟩ := rdel (B := B) he hB
  obtain ⟨N, hN⟩ := hx d2 hd2
  obtain ⟨M, hM⟩ := hy d1 hd1
  refine ⟨max (max N M) (max N0 M0), fun m n h1 h2 => ?_⟩
  have a := hN m n (by omega) (by omega)
  have a' := hN n m (by omega) (by omega)
  have b := hM m n (by omega) (by omega)
  have b' := hM n m (by omega) (by omega)
  have c := hN0 m (by omega)
  have c' := hM0 n (by omega)
  have p := rprd (a := x m) (b := y m - y n) (A := A) (e := d1) c ⟨by grind, by grind⟩
  have q := rprd (a := y n) (b := x m - x n) (A := B) (e := d2) c' ⟨by grind, by grind⟩
  grind
def rnul (x : Nat → Rat) : Prop := ∀ e : Rat, 0 < e → ∃ N, ∀ n, N ≤ n → -e < x n ∧ x n < e
theorem nul_add {x y : Nat → Rat} (hx : rnul x) (hy : rnul y) : rnul (fun n => x n + y n) := fun e he => by
  obtain ⟨d, hd, hde⟩ := rdel (B := 1) he (by grind)
  obtain ⟨N, hN⟩ := hx d hd
  obtain ⟨M, hM⟩ := hy d hd
  refine ⟨max N M, fun n h1 => ?_⟩
  have a := hN n (by omega)
  have b := hM n (by omega)
  constructor <;> grind
theorem nul_neg {x : Nat → Rat} (hx : rnul x) : rnul (fun n => -x n) := fun e he => by
  obtain ⟨N, hN⟩ := hx e he
  refine ⟨N, fun n h1 => ?_⟩
  have a := hN n h1
  constructor <;> grind
theorem nul_mul {x y : Nat → Rat} (hx : rcau x) (hy : rnul y) : rnul (fun n => x n * y n) := fun e he => by
  obtain ⟨A, N0, hA, hN0⟩ := rbnd hx
  obtain ⟨d, hd, hde⟩ := rdel (B := A) he hA
  obtain ⟨M, hM⟩ := hy d hd
  refine ⟨max N0 M, fun n h1 => ?_⟩
  have a := hN0 n (by omega)
  have b := hM n (by omega)
  have p := rprd (a := x n) (b := y n) a (e := d) ⟨by grind, by grind⟩
  constructor <;> grind
theorem nul_congr {x y : Nat → Rat} (hx : rnul x) (e : ∀ n, y n = x n) : rnul y := by
  have : y = x := funext e
  rw [this]
  exact hx
theorem nul_0 : rnul (fun _ => 0) := fun e he => ⟨0, fun n _ => ⟨by grind, by grind⟩⟩
abbrev Cs : Type := {x : Nat → Rat // rcau x}
def csS : Setoid Cs := ⟨fun x y => rnul (fun n => x.1 n - y.1 n), ⟨fun x => nul_congr nul_0 (fun n => by grind), fun h => nul_congr (nul_neg h) (fun n => by grind), fun h k => nul_congr (nul_add h k) (fun n => by grind)⟩⟩
def RR : Type := Quotient csS
def rqk (x : Nat → Rat) (h : rcau x) : RR := Quotient.mk csS ⟨x, h⟩
theorem rqk_eq {x y : Nat → Rat} {hx : rcau x} {hy : rcau y} (h : rnul (fun n => x n - y n)) : rqk x hx = rqk y hy := Quotient.sound (s := csS) h
theorem rqk_ex {x y : Nat → Rat} {hx : rcau x} {hy : rcau y} (h : rqk x hx = rqk y hy) : rnul (fun n => x n - y n) := Quotient.exact (s := csS) h
theorem rqk_cg {x y : Nat → Rat} {hx : rcau x} {hy : rcau y} (h : ∀ n, x n = y n) : rqk x hx = rqk y hy := rqk_eq (nul_congr nul_0 (fun n => by rw [h]; grind))
theorem rr_ind {P : RR → Prop} (h : ∀ x hx, P (rqk x hx)) (a : RR) : P a := Quotient.ind (s := csS) (fun x => h x.1 x.2) a
theorem rr_ind2 {P : RR → RR → Prop} (h : ∀ x hx y hy, P (rqk x hx) (rqk y hy)) (a b : RR) : P a b := rr_ind (P := fun a => P a b) (fun x hx => rr_ind (P := fun b => P (rqk x hx) b) (fun y hy => h x hx y hy) b) a
theorem rr_ind3 {P : RR → RR → RR → Prop} (h : ∀ x hx y hy z hz, P (rqk x hx) (rqk y hy) (rqk z hz)) (a b c : RR) : P a b c := rr_ind2 (P := fun a b => P a b c) (fun x hx y hy => rr_ind (P := fun c => P (rqk x hx) (rqk y hy) c) (fun z hz => h x hx y hy z hz) c) a b
def radd (a b : RR) : RR := Quotient.lift₂ (s₁ := csS) (s₂ := csS) (fun x y => rqk (fun n => x.1 n + y.1 n) (cau_add x.2 y.2)) (fun _ _ _ _ h k => rqk_eq (nul_congr (nul_add h k) (fun n => by grind))) a b
def rneg (a : RR) : RR := Quotient.lift (s := csS) (fun x => rqk (fun n => -x.1 n) (cau_neg x.2)) (fun _ _ h => rqk_eq (nul_congr (nul_neg h) (fun n => by grind))) a
def rmul (a b : RR) : RR := Quotient.lift₂ (s₁ := csS) (s₂ := csS) (fun x y => rqk (fun n => x.1 n * y.1 n) (cau_mul x.2 y.2)) (fun x y z w h k => rqk_eq (nul_congr (nul_add (nul_mul x.2 k) (nul_mul w.2 h)) (fun n => by grind))) a b
def rc (a : Rat) : RR := rqk (fun _ => a) (cau_const a)
def rpow (a : RR) : Nat → RR
  | 0 => rc 1
  | n + 1 => rmul (rpow a n) a
def rrR : Lean.Grind.CommRing RR where
  add := radd
  mul := rmul
  neg := rneg
  sub a b := radd a (rneg b)
  natCast := ⟨fun n => rc (n : Rat)⟩
  ofNat n := ⟨rc (n : Rat)⟩
  nsmul := ⟨fun n a => rmul (rc (n : Rat)) a⟩
  npow := ⟨rpow⟩
  intCast := ⟨fun n => rc (n : Rat)⟩
  zsmul := ⟨fun n a => rmul (rc (n : Rat)) a⟩
  add_zero a := rr_ind (P := fun a => radd a (rc ((0 : Nat) : Rat)) = a) (fun x hx => rqk_cg (fun n => by show x n + ((0 : Nat) : Rat) = x n; grind)) a
  add_comm a b := rr_ind2 (P := fun a b => radd a b = radd b a) (fun x hx y hy => rqk_cg (fun n => by show x n + y n = y n + x n; grind)) a b
  add_assoc a b c := rr_ind3 (P := fun a b c => radd (radd a b) c = radd a (radd b c)) (fun x hx y hy z hz => rqk_cg (fun n => by show x n + y n + z n = x n + (y n + z n); grind)) a b c
  mul_assoc a b c := rr_ind3 (P := fun a b c => rmul (rmul a b) c = rmul a (rmul b c)) (fun x hx y hy z hz => rqk_cg (fun n => by show x n * y n * z n = x n * (y n * z n); grind)) a b c
  mul_one a := rr_ind (P := fun a => rmul a (rc ((1 : Nat) : Rat)) = a) (fun x hx => rqk_cg (fun n => by show x n * ((1 : Nat) : Rat) = x n; grind)) a
  one_mul a := rr_ind (P := fun a => rmul (rc ((1 : Nat) : Rat)) a = a) (fun x hx => rqk_cg (fun n => by show ((1 : Nat) : Rat) * x n = x n; grind)) a
  mul_comm a b := rr_ind2 (P := fun a b => rmul a b = rmul b a) (fun x hx y hy => rqk_cg (fun n => by show x n * y n = y n * x n; grind)) a b
  left_distrib a b c := rr_ind3 (P := fun a b c => rmul a (radd b c) = radd (rmul a b) (rmul a c)) (fun x hx y hy z hz => rqk_cg (fun n => by show x n * (y n + z n) = x n * y n + x n * z n; grind)) a b c
  right_distrib a b c := rr_ind3 (P := fun a b c => rmul (radd a b) c = radd (rmul a c) (rmul b c)) (fun x hx y hy z hz => rqk_cg (fun n => by show (x n + y n) * z n = x n * z n + y n * z n; grind)) a b c
  zero_mul a := rr_ind (P := fun a => rmul (rc ((0 : Nat) : Rat)) a = rc ((0 : Nat) : Rat)) (fun x hx => rqk_cg (fun n => by show ((0 : Nat) : Rat) * x n = ((0 : Nat) : Rat); grind)) a
  mul_zero a := rr_ind (P := fun a => rmul a (rc ((0 : Nat) : Rat)) = rc ((0 : Nat) : Rat)) (fun x hx => rqk_cg (fun n => by show x n * ((0 : Nat) : Rat) = ((0 : Nat) : Rat); grind)) a
  pow_zero a := rqk_cg (fun n => by show (1 : Rat) = ((1 : Nat) : Rat); grind)
  pow_succ a n := rfl
  ofNat_succ n := rqk_cg (fun k => by show ((n + 1 : Nat) : Rat) = (n : Rat) + ((1 : Nat) : Rat); grind)
  ofNat_eq_natCast n := rfl
  nsmul_eq_natCast_mul n a := rfl
  neg_add_cancel a := rr_ind (P := fun a => radd (rneg a) a = rc ((0 : Nat) : Rat)) (fun x hx => rqk_cg (fun n => by show -x n + x n = ((0 : Nat) : Rat); grind)) a
  sub_eq_add_neg a b := rfl
  neg_zsmul i a := rr_ind (P := fun a => rmul (rc ((-i : Int) : Rat)) a = rneg (rmul (rc (i : Rat)) a)) (fun x hx => rqk_cg (fun n => by show ((-i : Int) : Rat) * x n = -((i : Rat) * x n); grind)) a
  zsmul_natCast_eq_nsmul n a := rr_ind (P := fun a => rmul (rc (((n : Int) : Int) : Rat)) a = rmul (rc (n : Rat)) a) (fun x hx => rqk_cg (fun k => by show (((n : Int) : Int) : Rat) * x k = (n : Rat) * x k; rfl)) a
  intCast_ofNat n := rqk_cg (fun k => by show (((n : Int) : Int) : Rat) = (n : Rat); rfl)
  intCast_neg i := rqk_cg (fun k => by show ((-i : Int) : Rat) = -(i : Rat); grind)
