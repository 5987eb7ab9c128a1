/-! ===== pure level: on the way; what a storm hits ===== -/
theorem u32_w (z : Int) : u32 (w32 z) = u32 z := by
  unfold u32
  have : Int32.ofInt (w32 z) = Int32.ofInt z := oI_w z
  rw [this]
theorem w32_hi {z : Int} (h : 2147483648 ≤ z ∧ z < 4294967296) : w32 z = z - 4294967296 := by
  have h1 := u32_w z
  have h2 := w32_in z
  rw [u32_mod, u32_mod] at h1
  omega
theorem xor_neg {x y : Int} (hx : InR x) (hy : 0 ≤ y ∧ y < 2147483648) : w32 ((u32 x ^^^ u32 y : Nat) : Int) < 0 ↔ x < 0 := by
  have e2 : u32 y = y.toNat := u32_eq ⟨hy.1, by omega⟩
  have hb : u32 y < 2 ^ 31 := by rw [e2]; omega
  have hm := u32_mod x
  by_cases h : x < 0
  · have ha : 2147483648 ≤ u32 x := by rw [hm]; omega
    have hl := u32_lt x
    have t : (u32 x ^^^ u32 y).testBit 31 = true := by
      rw [Nat.testBit_xor, Nat.testBit_lt_two_pow hb]
      have : (u32 x).testBit 31 = true := by
        rw [Nat.testBit_eq_decide_div_mod_eq]
        simp
        omega
      rw [this]
      rfl
    have hg := Nat.ge_two_pow_of_testBit t
    have hl2 : u32 x ^^^ u32 y < 4294967296 := nb_xor hl (by omega)
    rw [w32_hi ⟨by omega, by omega⟩]
    constructor
    · intro _
      exact h
    · intro _
      omega
  · have ha : u32 x < 2 ^ 31 := by rw [hm]; have := hx.2; omega
    have := Nat.xor_lt_two_pow ha hb
    rw [w32_n (by omega)]
    constructor
    · intro q
      omega
    · intro q
      omega
def onw (a b k n : Int) : Int := a + (if (k * (b - a)).tdiv n * n ≤ k * (b - a) then (k * (b - a)).tdiv n else (k * (b - a)).tdiv n - 1)
theorem tdiv_f {x n : Int} (hn : 0 < n) : (0 ≤ x → x.tdiv n * n ≤ x ∧ x < (x.tdiv n + 1) * n) ∧ (x < 0 → x ≤ x.tdiv n * n ∧ (x.tdiv n - 1) * n < x) := by
  have e := Int.tmod_add_mul_tdiv x n
  refine ⟨fun h => ?_, fun h => ?_⟩
  · have h1 := Int.tmod_nonneg n h
    have h2 := Int.tmod_lt_of_pos x hn
    rw [Int.add_mul, Int.mul_comm (x.tdiv n) n]
    omega
  · have e2 : (-x).tmod n = -(x.tmod n) := Int.neg_tmod x n
    have h1 := Int.tmod_nonneg n (show 0 ≤ -x by omega)
    have h2 := Int.tmod_lt_of_pos (-x) hn
    rw [Int.sub_mul, Int.mul_comm (x.tdiv n) n]
    omega
theorem onw_in {a b k n : Int} (ha : 0 ≤ a ∧ a < 300) (hb : 0 ≤ b ∧ b < 300) (hn : 1 ≤ n) (hk : 0 ≤ k ∧ k ≤ n) : 0 ≤ onw a b k n ∧ onw a b k n < 300 := by
  unfold onw
  obtain ⟨f1, f2⟩ := tdiv_f (x := k * (b - a)) (n := n) (by omega)
  obtain ⟨f, hf⟩ : ∃ f, f = (if (k * (b - a)).tdiv n * n ≤ k * (b - a) then (k * (b - a)).tdiv n else (k * (b - a)).tdiv n - 1) := ⟨_, rfl⟩
  rw [← hf]
  have key : f * n ≤ k * (b - a) ∧ k * (b - a) < (f + 1) * n := by
    generalize (k * (b - a)).tdiv n = q at *
    by_cases h : q * n ≤ k * (b - a)
    · rw [if_pos h] at hf
      subst hf
      refine ⟨h, ?_⟩
      by_cases h0 : 0 ≤ k * (b - a)
      · exact (f1 h0).2
      · have := (f2 (by omega)).1
        rw [Int.add_mul]
        omega
    · rw [if_neg h] at hf
      subst hf
      by_cases h0 : 0 ≤ k * (b - a)
      · exact absurd (f1 h0).1 h
      · refine ⟨by have := (f2 (by omega)).2; omega, ?_⟩
        rw [show q - 1 + 1 = q by omega]
        omega
  clear hf f1 f2
  obtain ⟨k1, k2⟩ := key
  rcases Int.le_total a b with hab | hab
  · have p1 := Int.mul_nonneg hk.1 (show 0 ≤ b - a by omega)
    have p2 := Int.mul_le_mul_of_nonneg_right hk.2 (show 0 ≤ b - a by omega)
    have g1 : 0 ≤ f := Classical.byContradiction fun hn => by
      have := Int.mul_le_mul_of_nonneg_right (show f + 1 ≤ 0 by omega) (show 0 ≤ n by omega)
      omega
    have g2 : f ≤ b - a := Classical.byContradiction fun hn => by
      have := Int.mul_lt_mul_of_pos_right (show b - a < f by omega) (show 0 < n by omega)
      rw [Int.mul_comm n] at p2
      omega
    omega
  · have p1 := Int.mul_nonneg hk.1 (show 0 ≤ a - b by omega)
    have p2 := Int.mul_le_mul_of_nonneg_right hk.2 (show 0 ≤ a - b by omega)
    have e : k * (b - a) = -(k * (a - b)) := by rw [← Int.mul_neg]; congr 1; omega
    rw [e] at k1 k2
    have g1 : f ≤ 0 := Classical.byContradiction fun hn => by
      have := Int.mul_lt_mul_of_pos_right (show 0 < f by omega) (show 0 < n by omega)
      omega
    have g2 : b - a ≤ f := Classical.byContradiction fun hn => by
      have := Int.mul_le_mul_of_nonneg_right (show f + 1 ≤ b - a by omega) (show 0 ≤ n by omega)
      have e3 : (b - a) * n = -(n * (a - b)) := by rw [Int.mul_comm n, ← Int.neg_mul]; congr 1; omega
      omega
    omega
theorem kd_bd {a b k : Int} (ha : 0 ≤ a ∧ a < 300) (hb : 0 ≤ b ∧ b < 300) (hk : 0 ≤ k ∧ k ≤ 100) : -29900 ≤ k * (b - a) ∧ k * (b - a) ≤ 29900 := by
  have := mul_bd (x := k) (y := b - a) (A := 100) (B := 299) ⟨by omega, by omega⟩ ⟨by omega, by omega⟩
  omega
theorem mOnWay_n {σ : Sg} {a b k n : Int} (ha : 0 ≤ a ∧ a < 300) (hb : 0 ≤ b ∧ b < 300) (hn : 1 ≤ n ∧ n ≤ 100) (hk : 0 ≤ k ∧ k ≤ n) : f_X10_onWay a b k n σ = some (onw a b k n) := by
  have hx := kd_bd ha hb (k := k) ⟨hk.1, by omega⟩
  unfold f_X10_onWay onw
  generalize hxe : k * (b - a) = x at *
  obtain ⟨f1, f2⟩ := tdiv_f (x := x) (n := n) (by omega)
  rw [w32_eq (z := n) ⟨by omega, by omega⟩, ck_t (by omega), w32_eq (z := x) ⟨by omega, by omega⟩]
  generalize x.tdiv n = q at *
  have hq : -30100 ≤ q * n ∧ q * n ≤ 30100 := by
    by_cases h0 : 0 ≤ x
    · obtain ⟨g1, g2⟩ := f1 h0
      rw [Int.add_mul] at g2
      omega
    · obtain ⟨g1, g2⟩ := f2 (by omega)
      rw [Int.sub_mul] at g2
      omega
  rw [w32_eq (z := q * n) ⟨by omega, by omega⟩]
  by_cases h : q * n ≤ x
  · rw [if_pos h, if_pos h]
  · rw [if_neg h, if_neg h]
theorem dOnWay_n {σ : Sg} {a b k n : Int} (ha : 0 ≤ a ∧ a < 300) (hb : 0 ≤ b ∧ b < 300) (hn : 1 ≤ n ∧ n ≤ 100) (hk : 0 ≤ k ∧ k ≤ n) : f_X9_onWay a b k n σ = some (onw a b k n) := by
  have hx := kd_bd ha hb (k := k) ⟨hk.1, by omega⟩
  unfold f_X9_onWay f_J9_floorDiv_7cf53 onw
  generalize hxe : k * (b - a) = x at *
  obtain ⟨f1, f2⟩ := tdiv_f (x := x) (n := n) (by omega)
  have hxn := xor_neg (x := x) (y := n) ⟨by omega, by omega⟩ ⟨by omega, by omega⟩
  rw [w32_eq (z := n) ⟨by omega, by omega⟩, if_neg (by omega), ck_t (by omega), w32_eq (z := x) ⟨by omega, by omega⟩]
  generalize x.tdiv n = q at *
  have hq : -30100 ≤ q * n ∧ q * n ≤ 30100 := by
    by_cases h0 : 0 ≤ x
    · obtain ⟨g1, g2⟩ := f1 h0
      rw [Int.add_mul] at g2
      omega
    · obtain ⟨g1, g2⟩ := f2 (by omega)
      rw [Int.sub_mul] at g2
      omega
  rw [w32_eq (z := q * n) ⟨by omega, by omega⟩]
  by_cases h0 : x < 0
  · obtain ⟨g1, g2⟩ := f2 h0
    rw [if_pos (hxn.mpr h0)]
    by_cases h : q * n = x
    · rw [if_pos h, if_pos (by omega), Option.bind_some]
    · rw [if_neg h, if_neg (by omega), Option.bind_some]
  · obtain ⟨g1, g2⟩ := f1 (by omega)
    rw [if_neg (fun q => h0 (hxn.mp q)), if_pos g1, Option.bind_some]
/-- those in force about a place -/
def abS (X Y : Nat → Int) (F : Nat) (x y R : Int) : Nat := mks (fun p => F.testBit p && decide ((X p - x) * (X p - x) + (Y p - y) * (Y p - y) ≤ R * R)) 24
theorem abS_F {X Y : Nat → Int} {F : Nat} {x y R : Int} {q : Nat} (h : (abS X Y F x y R).testBit q = true) : F.testBit q = true := by
  unfold abS at h
  rw [tb_mks] at h
  simp at h
  exact h.2.1
theorem abS_24 (X Y : Nat → Int) (F : Nat) (x y R : Int) : abS X Y F x y R < 16777216 := mks_24 _
theorem sq_r {a b x y : Int} (ha : 0 ≤ a ∧ a < 300) (hb : 0 ≤ b ∧ b < 300) (hx : 0 ≤ x ∧ x < 300) (hy : 0 ≤ y ∧ y < 300) : InR ((a - x) * (a - x) + (b - y) * (b - y)) := by
  have m1 := mul_bd (x := a - x) (y := a - x) (A := 299) (B := 299) ⟨by omega, by omega⟩ ⟨by omega, by omega⟩
  have m2 := mul_bd (x := b - y) (y := b - y) (A := 299) (B := 299) ⟨by omega, by omega⟩ ⟨by omega, by omega⟩
  exact ⟨by omega, by omega⟩
theorem sq_R {R : Int} (h : 0 ≤ R ∧ R ≤ 600) : InR (R * R) := by
  have m1 := mul_bd (x := R) (y := R) (A := 600) (B := 600) ⟨by omega, by omega⟩ ⟨by omega, by omega⟩
  exact ⟨by omega, by omega⟩
theorem dWithin_n {z ζ : Sg} {F : Nat} {x y R : Int} (h : RelB z ζ F) (hx : 0 ≤ x ∧ x < 300) (hy : 0 ≤ y ∧ y < 300) (hR : 0 ≤ R ∧ R ≤ 600) : f_X0_within x y R z = some ((abS (z 7) (z 8) F x y R : Nat) : Int) :=
  within_n h.1.1 h.1.2.1 x y R (fun p hp => by have := h.pl p hp; exact sq_r this.1 this.2 hx hy) (sq_R hR)
theorem prS_15 {z ζ : Sg} {F : Nat} (h : RelB z ζ F) : prS (ζ 49) (ζ 48) 15 = F := bits_ext fun q => by
  unfold prS
  rw [tb_mks]
  by_cases hq : q < 24
  · obtain ⟨h1, -, -, h2, -⟩ := h.1.2.2 q hq
    rw [h1, decide_eq_true hq]
    have t : (15 : Nat).testBit (ζ 48 q).toNat = true := by
      rcases (show (ζ 48 q).toNat = 0 ∨ (ζ 48 q).toNat = 1 ∨ (ζ 48 q).toNat = 2 ∨ (ζ 48 q).toNat = 3 by omega) with e | e | e | e <;> rw [e] <;> decide
    rw [t]
    cases F.testBit q <;> rfl
  · rw [tb_24 h.1.2.1 (by omega)]
    simp
    omega
theorem about_n0 {z ζ : Sg} {F : Nat} {x y R : Int} (h : RelB z ζ F) (hx : 0 ≤ x ∧ x < 300) (hy : 0 ≤ y ∧ y < 300) (hR : 0 ≤ R ∧ R ≤ 600) :
    ∃ ζ', f_X10_aboutPlace x y R ζ = some (((abS (z 7) (z 8) F x y R : Nat) : Int), ζ') ∧ SS ζ ζ' ∧ ζ' 41 41 = ζ 41 41 := by
  unfold f_X10_aboutPlace f_X10_puts wr
  dsimp only
  rw [ck_t (by decide), ck_t (by decide), ck_t (by decide), ck_t (by decide), Option.bind_some, show ((24 : Int)).toNat = 24 from rfl]
  have s1 : SS ζ (up (up (up (up ζ 45 24 x) 46 24 y) 47 24 0) 48 24 0) := (((SS.rf.up (by unfold Scm; omega)).up (by unfold Scm; omega)).up (by unfold Scm; omega)).up (by unfold Scm; omega)
  generalize hζ : up (up (up (up ζ 45 24 x) 46 24 y) 47 24 0) 48 24 0 = ζ1 at *
  have v41 : ζ1 41 41 = ζ 41 41 := by rw [← hζ, up_k (by decide), up_k (by decide), up_k (by decide), up_k (by decide)]
  have v45 : ζ1 45 24 = x := by rw [← hζ, up_k (by decide), up_k (by decide), up_k (by decide), up_s]
  have v46 : ζ1 46 24 = y := by rw [← hζ, up_k (by decide), up_k (by decide), up_s]
  have hB := h.ss s1
  have e15 : f_X10_ofPerils 15 ζ1 = some ((F : Nat) : Int) := by
    have := ofPerils_n (σ := ζ1) (T := 15) (by decide) (MRow.of hB)
    rw [prS_15 hB] at this
    exact this
  have hFl := hB.1.2.1
  have ea := around_n (σ := ζ1) (p := 24) (s := F) (R := R) (by decide) (by omega) (sq_R hR) (fun q _ hb => by
    have hq := bit_lt hFl hb
    have hp := (hB.1.2.2 q hq).2.2.1
    show InR ((ζ1 45 24 - ζ1 45 q) * (ζ1 45 24 - ζ1 45 q) + (ζ1 46 24 - ζ1 46 q) * (ζ1 46 24 - ζ1 46 q))
    rw [v45, v46]
    exact sq_r hx hy hp.1 hp.2)
  have ea : f_X10_around 24 (F : Int) R ζ1 = _ := ea
  rw [e15, Option.bind_some, ea, Option.bind_some]
  have es : arS (ζ1 45) (ζ1 46) R F 24 = abS (z 7) (z 8) F x y R := bits_ext fun q => by
    unfold arS abS
    rw [tb_mks, tb_mks]
    by_cases hq : q < 24
    · rw [decide_eq_true (by omega), decide_eq_true hq]
      obtain ⟨-, ⟨a1, a2, -⟩, -⟩ := hB.1.2.2 q hq
      have : d2 (ζ1 45) (ζ1 46) 24 q = (z 7 q - x) * (z 7 q - x) + (z 8 q - y) * (z 8 q - y) := by
        show (ζ1 45 24 - ζ1 45 q) * (ζ1 45 24 - ζ1 45 q) + (ζ1 46 24 - ζ1 46 q) * (ζ1 46 24 - ζ1 46 q) = _
        rw [v45, v46, a1, a2]
        grind
      rw [this]
    · rw [tb_24 hFl (by omega), decide_eq_false hq]
      simp
  rw [es]
  refine ⟨up ζ1 41 35 (sumb (ζ1 47) (abS (z 7) (z 8) F x y R) 25), rfl, s1.up (by unfold Scm; omega), ?_⟩
  rw [up_j (by decide)]
  exact v41
theorem about_n {z ζ : Sg} {F : Nat} {x y R : Int} (h : RelB z ζ F) (hx : 0 ≤ x ∧ x < 300) (hy : 0 ≤ y ∧ y < 300) (hR : 0 ≤ R ∧ R ≤ 600) :
    ∃ ζ', f_X10_aboutPlace x y R ζ = some (((abS (z 7) (z 8) F x y R : Nat) : Int), ζ') ∧ SS ζ ζ' := by
  obtain ⟨ζ', a, b, -⟩ := about_n0 h hx hy hR
  exact ⟨ζ', a, b⟩
