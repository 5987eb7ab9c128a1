/-! ===== pure level: the greatest sums that lie with a place in a disc ===== -/
theorem sidesXY_n {σ : Sg} {d a b m : Nat} {R x y : Int} {X Y : Nat → Int} (hd : d < 7) (ha : a < 24) (hb : b < 24) (hR : σ (27 + d) 2 = R) (hR2 : 0 ≤ R ∧ R ≤ 300) (Px : 0 ≤ x ∧ x < 300) (Py : 0 ≤ y ∧ y < 300) (Pa : Pl (σ 7) (σ 8) a) (Pb : Pl (σ 7) (σ 8) b) (xm : X m = x) (ym : Y m = y) (xa : X a = σ 7 a ∧ Y a = σ 8 a) (xb : X b = σ 7 b ∧ Y b = σ 8 b) :
    f_X2_sidesAt d (a : Int) (b : Int) x y σ = some (sdv (rimD X Y R a b false m) (rimD X Y R a b true m)) := by
  have hPa : Pl X Y a := by
    unfold Pl at *
    rw [xa.1, xa.2]
    exact Pa
  have hPb : Pl X Y b := by
    unfold Pl at *
    rw [xb.1, xb.2]
    exact Pb
  have hPm : Pl X Y m := by
    unfold Pl
    rw [xm, ym]
    exact ⟨Px, Py⟩
  have hD := d2_bd hPa hPb
  have hRR := mul_bd (x := 4 * R) (y := R) (A := 1200) (B := 300) ⟨by omega, by omega⟩ ⟨by omega, by omega⟩
  have eD : (X b - X a) * (X b - X a) + (Y b - Y a) * (Y b - Y a) = d2 X Y a b := by unfold d2; grind
  obtain ⟨h1, h2⟩ := pl_d hPb hPa
  obtain ⟨h3, h4⟩ := pl_d hPm hPa
  obtain ⟨h5, h6⟩ := pl_d hPm hPb
  unfold f_X2_sidesAt
  rw [ck_t hd, isNumber_t ha, Option.bind_some, w32_1, if_neg (by decide), isNumber_t hb, Option.bind_some, w32_1, if_neg (by decide), ck_t (by omega), ck_t (by omega), ck_t (by omega), ck_t (by omega), ntn, ntn, hR, ← xa.1, ← xa.2, ← xb.1, ← xb.2, ← xm, ← ym, eD, w32_eq (z := d2 X Y a b) ⟨by omega, by omega⟩, w32_eq (z := 4 * R * R - d2 X Y a b) ⟨by omega, by omega⟩]
  unfold rimD
  by_cases hok : 0 < d2 X Y a b ∧ d2 X Y a b ≤ 4 * R * R
  · rw [if_neg (by omega), if_neg (by omega), ck_t (by omega), ck_t (by omega), sides_n h3 h4 h1 h2 ⟨by omega, by omega⟩ ⟨by omega, by omega⟩ ⟨by omega, by omega⟩ ⟨by omega, by omega⟩, Option.bind_some, decide_eq_true hok, Bool.true_and, Bool.true_and]
    have e1 : (X m - X a) * (X m - X a - (X b - X a)) + (Y m - Y a) * (Y m - Y a - (Y b - Y a)) = dotp X Y a b m := by unfold dotp; grind
    have e2 : (X b - X a) * (Y m - Y a) - (Y b - Y a) * (X m - X a) = crs X Y a b m := rfl
    rw [e1, e2]
    rfl
  · rw [decide_eq_false hok, Bool.false_and, Bool.false_and]
    by_cases h0 : d2 X Y a b = 0
    · rw [if_pos h0]
      rfl
    · rw [if_neg h0, if_pos (by omega)]
      rfl
theorem hbP_m {U V X Y : Nat → Int} {R x y : Int} {m b near : Nat} {side : Bool} (xm : X m = x) (ym : Y m = y) (xb : X b = U b ∧ Y b = V b) (xq : ∀ q, near.testBit q = true → X q = U q ∧ Y q = V q) (q : Nat) : hbP U V R x y b near side q = (near.testBit q && rimD X Y R m b side q) := by
  rw [← hbP_p (X := X) (Y := Y) (R := R) (p := m) (b := b) (near := near) (side := side) (q := q)]
  unfold hbP
  rw [xm, ym, xb.1, xb.2]
  cases hq : near.testBit q with
  | false => rfl
  | true => rw [(xq q hq).1, (xq q hq).2]
abbrev JS (X Y : Nat → Int) (R : Int) (T m : Nat) (o : Nat) : Prop := SubN o T ∧ Tg X Y R (o ||| 2 ^ m)
/-- what joined has found so far -/
def JF (X Y S : Nat → Int) (R : Int) (T m : Nat) (fl v : Int) : Prop := fl ≤ v ∧ (v = fl ∨ ∃ o, JS X Y R T m o ∧ v = sumb S o 24)
theorem JF.take {X Y S : Nat → Int} {R : Int} {T m : Nat} {fl v w : Int} (h : JF X Y S R T m fl v) (hw : w ≤ v ∨ ∃ o, JS X Y R T m o ∧ w = sumb S o 24) : JF X Y S R T m fl (if v < w then w else v) := by
  by_cases c : v < w
  · rw [if_pos c]
    rcases hw with r | r
    · omega
    · exact ⟨by have := h.1; omega, Or.inr r⟩
  · rw [if_neg c]
    exact h
def FrJ (d : Nat) (σ z : Sg) : Prop := ∀ k j, ¬ (k = 27 + d ∧ (j = 3 ∨ j = 4)) → z k j = σ k j
theorem FrJ.rf {d : Nat} {σ : Sg} : FrJ d σ σ := fun _ _ _ => rfl
theorem FrJ.tr {d : Nat} {σ z w : Sg} (h : FrJ d σ z) (h2 : FrJ d z w) : FrJ d σ w := fun k j hk => (h2 k j hk).trans (h k j hk)
theorem FrJ.row {d k : Nat} {σ z : Sg} (h : FrJ d σ z) (h2 : k ≠ 27 + d) : z k = σ k := by
  funext j
  exact h k j (fun q => h2 q.1)
theorem rm_in {X Y : Nat → Int} {R : Int} {a b m o : Nat} {side : Bool} (hm : rimD X Y R a b side m = true) (ho : ∀ q, o.testBit q = true → rimD X Y R a b side q = true) : Tg X Y R (o ||| 2 ^ m) := by
  refine Or.inr ⟨a, b, side, (rimD_iff.mp hm).1, fun q hq => ?_⟩
  rcases tb_or_pow.mp hq with r | r
  · exact (rimD_iff.mp (ho q r)).2
  · rw [r]
    exact (rimD_iff.mp hm).2
def jG (X Y S : Nat → Int) (R : Int) (W m a b : Nat) (u : Int) : Prop := W.testBit a = true → W.testBit b = true → ∀ side o, SubN o W → rimD X Y R a b side m = true → (∀ q, o.testBit q = true → rimD X Y R a b side q = true) → sumb S o 24 ≤ u
theorem jG.up {X Y S : Nat → Int} {R : Int} {W m a b : Nat} {u w : Int} (h : jG X Y S R W m a b u) (hw : u ≤ w) : jG X Y S R W m a b w := fun t1 t2 side o q1 q2 q3 => Int.le_trans (h t1 t2 side o q1 q2 q3) hw
theorem joined_n {σ : Sg} {d s M F m : Nat} {R x y fl : Int} {X Y : Nat → Int} (hd : d < 7) (hF : σ 6 5 = (F : Int)) (hFl : F < 16777216) (hMF : SubN M F) (hs : s < 16777216) (hR : 1 ≤ R ∧ R ≤ 300) (hI : DI σ d R M) (hP : ∀ q, q < 24 → Pl (σ 7) (σ 8) q) (hg : Grp σ (σ 9)) (hS : ∀ q, M.testBit q = true → 1 ≤ σ 9 q ∧ σ 9 q ≤ 99999) (Px : 0 ≤ x ∧ x < 300) (Py : 0 ≤ y ∧ y < 300) (hm25 : m < 25) (hm : (s &&& M).testBit m = false) (xm : X m = x) (ym : Y m = y) (xq : ∀ q, (s &&& M).testBit q = true → X q = σ 7 q ∧ Y q = σ 8 q) (hfl : -1000000000 ≤ fl ∧ fl ≤ 1000000000) :
    ∃ (v : Int) (z : Sg), f_X2_joined d x y (s : Int) fl σ = some (v, z) ∧ FrJ d σ z ∧ JF X Y (σ 9) R (s &&& M) m fl v ∧ ∀ o, JS X Y R (s &&& M) m o → sumb (σ 9) o 24 ≤ v := by
  obtain ⟨i2, i5, iE⟩ := hI
  have hMl : M < 16777216 := sub_24 hFl hMF
  have T24 : s &&& M < 16777216 := and_24 hs
  have TM : SubN (s &&& M) M := fun q hq => by
    rw [Nat.testBit_and, Bool.and_eq_true] at hq
    exact hq.2
  have dx : ∀ q, q < 24 → InR ((σ 7 q - x) * (σ 7 q - x) + (σ 8 q - y) * (σ 8 q - y)) := fun q hq => by
    have hp := hP q hq
    unfold Pl at hp
    have m1 := mul_bd (x := σ 7 q - x) (y := σ 7 q - x) (A := 299) (B := 299) ⟨by omega, by omega⟩ ⟨by omega, by omega⟩
    have m2 := mul_bd (x := σ 8 q - y) (y := σ 8 q - y) (A := 299) (B := 299) ⟨by omega, by omega⟩ ⟨by omega, by omega⟩
    exact ⟨by omega, by omega⟩
  have hRR := mul_bd (x := R) (y := R) (A := 300) (B := 300) ⟨by omega, by omega⟩ ⟨by omega, by omega⟩
  have hRR4 : 2 * R * (2 * R) = 4 * (R * R) := by grind
  have hRR5 : 4 * R * R = 4 * (R * R) := by grind
  have dE : ∀ q, (s &&& M).testBit q = true → (σ 7 q - x) * (σ 7 q - x) + (σ 8 q - y) * (σ 8 q - y) = d2 X Y m q := fun q hq => by
    unfold d2
    rw [xm, ym, (xq q hq).1, (xq q hq).2]
    grind
  unfold f_X2_joined
  rw [ck_t hd, i2, within_n hF hFl x y (2 * R) dx ⟨by omega, by omega⟩, Option.bind_some, within_n hF hFl x y R dx ⟨by omega, by omega⟩, Option.bind_some, i5]
  generalize hA2 : mks (fun p => F.testBit p && decide ((σ 7 p - x) * (σ 7 p - x) + (σ 8 p - y) * (σ 8 p - y) ≤ 2 * R * (2 * R))) 24 = A2
  generalize hA1 : mks (fun p => F.testBit p && decide ((σ 7 p - x) * (σ 7 p - x) + (σ 8 p - y) * (σ 8 p - y) ≤ R * R)) 24 = A1
  have A2l : A2 < 16777216 := by rw [← hA2]; exact mks_24 _
  have A1l : A1 < 16777216 := by rw [← hA1]; exact mks_24 _
  rw [u32_nat (n := s) (by omega), u32_nat (n := M) (by omega), u32_nat (n := A2) (by omega), u32_nat (n := A1) (by omega)]
  have tW : ∀ q, ((s &&& M) &&& A2).testBit q = true ↔ (s &&& M).testBit q = true ∧ d2 X Y m q ≤ 4 * R * R := fun q => by
    rw [Nat.testBit_and, Bool.and_eq_true]
    refine and_congr_right fun hq => ?_
    rw [← hA2, tb_mks, decide_eq_true (bit_lt T24 hq), Bool.true_and, hMF q (TM q hq), Bool.true_and, decide_eq_true_iff, dE q hq, hRR4, hRR5]
  have tV : ∀ q, (((s &&& M) &&& A2) &&& A1).testBit q = true ↔ ((s &&& M) &&& A2).testBit q = true ∧ d2 X Y m q ≤ R * R := fun q => by
    rw [Nat.testBit_and, Bool.and_eq_true]
    refine and_congr_right fun hq => ?_
    have hq := ((tW q).mp hq).1
    rw [← hA1, tb_mks, decide_eq_true (bit_lt T24 hq), Bool.true_and, hMF q (TM q hq), Bool.true_and, decide_eq_true_iff, dE q hq]
  have W24 : (s &&& M) &&& A2 < 16777216 := and_24 T24
  have V24 : ((s &&& M) &&& A2) &&& A1 < 16777216 := and_24 W24
  generalize ((s &&& M) &&& A2) &&& A1 = V at *
  generalize hW : (s &&& M) &&& A2 = W at *
  clear hW hA1 hA2
  generalize hT : s &&& M = T at *
  have WT : SubN W T := fun q hq => ((tW q).mp hq).1
  have pos : ∀ o, SubN o T → ∀ i, i < 24 → o.testBit i = true → 0 ≤ σ 9 i := fun o ho i _ hi => by have := hS i (TM i (ho i hi)); omega
  have sb : ∀ o, SubN o T → 0 ≤ sumb (σ 9) o 24 ∧ sumb (σ 9) o 24 ≤ 24 * 99999 := fun o ho => sumb_bound (by decide) (fun i _ hi => by have := hS i (TM i (ho i hi)); omega)
  have smo : ∀ o u, SubN o u → SubN u T → sumb (σ 9) o 24 ≤ sumb (σ 9) u 24 := fun o u h1 h2 => sumb_mono (fun i _ hi => h1 i hi) (pos u h2)
  have VT : SubN V T := fun q hq => WT q ((tV q).mp hq).1
  have JV : JS X Y R T m V := ⟨VT, Or.inl ⟨m, fun q hq => by
    rcases tb_or_pow.mp hq with r | r
    · exact ((tV q).mp r).2
    · rw [r, d2_self]
      exact sq_nn R⟩⟩
  -- what goes with the place lies near
  have near : ∀ o, JS X Y R T m o → SubN o W := fun o ho q hq => (tW q).mpr ⟨ho.1 q hq, Tg_near ho.2 (tb_or_pow.mpr (Or.inr rfl)) (tb_or_pow.mpr (Or.inl hq))⟩
  have xW : ∀ q, W.testBit q = true → X q = σ 7 q ∧ Y q = σ 8 q := fun q hq => xq q (WT q hq)
  have mW : W.testBit m = false := by
    cases e : W.testBit m with
    | false => rfl
    | true =>
      rw [WT m e] at hm
      cases hm
  rw [sums_n hg V24, Option.bind_some, sums_n hg W24, Option.bind_some]
  have bV := sb V VT
  have bW := sb W WT
  rw [mmax_i (a := fl) ⟨by omega, by omega⟩ ⟨by omega, by omega⟩]
  have J0 : JF X Y (σ 9) R T m fl (if fl < sumb (σ 9) V 24 then sumb (σ 9) V 24 else fl) := JF.take ⟨by omega, Or.inl rfl⟩ (Or.inr ⟨V, JV, rfl⟩)
  have V0 : sumb (σ 9) V 24 ≤ (if fl < sumb (σ 9) V 24 then sumb (σ 9) V 24 else fl) := by split <;> omega
  have b0 : -1000000000 ≤ (if fl < sumb (σ 9) V 24 then sumb (σ 9) V 24 else fl) ∧ (if fl < sumb (σ 9) V 24 then sumb (σ 9) V 24 else fl) ≤ 1000000000 := by split <;> omega
  generalize (if fl < sumb (σ 9) V 24 then sumb (σ 9) V 24 else fl) = v0 at *
  rw [w32_eq (z := sumb (σ 9) W 24) ⟨by omega, by omega⟩, w32_eq (z := v0) ⟨by omega, by omega⟩]
  by_cases c0 : sumb (σ 9) W 24 ≤ v0
  · rw [if_pos c0]
    exact ⟨v0, σ, rfl, FrJ.rf, J0, fun o ho => by have := smo o W (near o ho) WT; omega⟩
  rw [if_neg c0]
  -- the class's discs, of what is near
  have hset : ∀ a b, a < 24 → b < 24 → W.testBit a = true → W.testBit b = true → a ≠ b → ∃ e : Nat, σ (34 + d) (a * 24 + b) = (e : Int) ∧ e < 16777216 ∧ ∀ q, (e &&& W).testBit q = true ↔ W.testBit q = true ∧ rimD X Y R a b false q = true := fun a b ha hb ta tb hab => by
    refine ⟨mks (esS (σ 7) (σ 8) R M a b) 24, iE a b ha hb, mks_24 _, fun q => ?_⟩
    rw [Nat.testBit_and, Bool.and_eq_true, tb_mks]
    constructor
    · rintro ⟨h1, h2⟩
      refine ⟨h2, ?_⟩
      rw [Bool.and_eq_true] at h1
      have h3 := h1.2
      unfold esS at h3
      rw [if_neg hab, Bool.and_eq_true] at h3
      have h4 := h3.2
      unfold rimD inD dotp crs d2 at h4 ⊢
      rw [(xW a ta).1, (xW a ta).2, (xW b tb).1, (xW b tb).2, (xW q h2).1, (xW q h2).2]
      exact h4
    · rintro ⟨h1, h2⟩
      refine ⟨?_, h1⟩
      rw [decide_eq_true (bit_lt W24 h1), Bool.true_and]
      unfold esS
      rw [if_neg hab, TM a (WT a ta), TM b (WT b tb), TM q (WT q h1), Bool.true_and, Bool.true_and, Bool.true_and]
      unfold rimD inD dotp crs d2 at h2 ⊢
      rw [(xW a ta).1, (xW a ta).2, (xW b tb).1, (xW b tb).2, (xW q h1).1, (xW q h1).2] at h2
      exact h2
  have fin : ∀ v z, FrJ d σ z → JF X Y (σ 9) R T m fl v → v0 ≤ v → (∀ b, W.testBit b = true → ∀ side o, SubN o W → (∀ q, o.testBit q = true → rimD X Y R m b side q = true) → sumb (σ 9) o 24 ≤ v) → (∀ a b, a < b → W.testBit a = true → W.testBit b = true → ∀ side o, SubN o W → rimD X Y R a b side m = true → (∀ q, o.testBit q = true → rimD X Y R a b side q = true) → sumb (σ 9) o 24 ≤ v) → ∀ o, JS X Y R T m o → sumb (σ 9) o 24 ≤ v := by
    intro v z _ _ h0 h1 h2 o ho
    have oW := near o ho
    have om : (o ||| 2 ^ m).testBit m = true := tb_or_pow.mpr (Or.inr rfl)
    have ol : o ||| 2 ^ m < 33554432 := Nat.or_lt_two_pow (n := 25) (Nat.lt_trans (sub_24 W24 oW) (by decide)) (pow_25 hm25)
    rcases Tg_pair ol ho.2 with q0 | ⟨a, b, side, ha, hb, hok, hin⟩
    · have : SubN o V := fun q hq => (tV q).mpr ⟨oW q hq, by
        rw [q0 m q om (tb_or_pow.mpr (Or.inl hq))]
        exact sq_nn R⟩
      have := smo o V this VT
      omega
    · have hin2 : ∀ q, o.testBit q = true → rimD X Y R a b side q = true := fun q hq => rimD_iff.mpr ⟨hok, hin q (tb_or_pow.mpr (Or.inl hq))⟩
      have hm2 : rimD X Y R a b side m = true := rimD_iff.mpr ⟨hok, hin m om⟩
      have hne : a ≠ b := fun e => by
        have := hok.1
        rw [e, d2_self] at this
        omega
      rcases tb_or_pow.mp ha with ra | ra <;> rcases tb_or_pow.mp hb with rb | rb
      · rcases Nat.lt_or_gt_of_ne hne with r | r
        · exact h2 a b r (oW a ra) (oW b rb) side o oW hm2 hin2
        · exact h2 b a r (oW b rb) (oW a ra) (!side) o oW (by rw [← rimD_sym]; exact hm2) (fun q hq => by rw [← rimD_sym]; exact hin2 q hq)
      · subst rb
        exact h1 a (oW a ra) (!side) o oW (fun q hq => by rw [← rimD_sym]; exact hin2 q hq)
      · subst ra
        exact h1 b (oW b rb) side o oW hin2
      · exact absurd (ra.trans rb.symm) hne
  have hgz : ∀ z, FrJ d σ z → Grp z (σ 9) := fun z hz g i h1 h2 => by
    rw [hz.row (by omega)]
    exact hg g i h1 h2
  have n25 : ∀ q, W.testBit q = true → q < 24 := fun q hq => bit_lt W24 hq
  -- two of its own on the rim
  have onO : ∀ v z a b, FrJ d σ z → -1000000000 ≤ v → v ≤ 1000000000 → a < b → W.testBit a = true → W.testBit b = true → ∃ w, f_X2_onOthers d (a : Int) (b : Int) x y (W : Int) v z = some w ∧ (w ≤ v ∨ ∃ o, JS X Y R T m o ∧ w = sumb (σ 9) o 24) ∧ (-1000000000 ≤ w ∧ w ≤ 1000000000) ∧ ∀ side o, SubN o W → rimD X Y R a b side m = true → (∀ q, o.testBit q = true → rimD X Y R a b side q = true) → sumb (σ 9) o 24 ≤ v ∨ sumb (σ 9) o 24 ≤ w := by
    intro v z a b hz v1 v2 hab ta tb
    have ha := n25 a ta
    have hb := n25 b tb
    obtain ⟨e1, s1, l1, t1⟩ := hset a b ha hb ta tb (by omega)
    obtain ⟨e2, s2, l2, t2⟩ := hset b a hb ha tb ta (by omega)
    have z34 : z (34 + d) = σ (34 + d) := hz.row (by omega)
    have z7 : z 7 = σ 7 := hz.row (by omega)
    have z8 : z 8 = σ 8 := hz.row (by omega)
    have w1 : SubN (e1 &&& W) W := fun q hq => ((t1 q).mp hq).1
    have w2 : SubN (e2 &&& W) W := fun q hq => ((t2 q).mp hq).1
    have k1 := sb _ (fun q hq => WT q (w1 q hq))
    have k2 := sb _ (fun q hq => WT q (w2 q hq))
    have u1 : ∀ o, SubN o W → (∀ q, o.testBit q = true → rimD X Y R a b false q = true) → sumb (σ 9) o 24 ≤ sumb (σ 9) (e1 &&& W) 24 := fun o h1 h2 => smo o _ (fun q hq => (t1 q).mpr ⟨h1 q hq, h2 q hq⟩) (fun q hq => WT q (w1 q hq))
    have u2 : ∀ o, SubN o W → (∀ q, o.testBit q = true → rimD X Y R a b true q = true) → sumb (σ 9) o 24 ≤ sumb (σ 9) (e2 &&& W) 24 := fun o h1 h2 => smo o _ (fun q hq => (t2 q).mpr ⟨h1 q hq, by rw [rimD_sym]; exact h2 q hq⟩) (fun q hq => WT q (w2 q hq))
    have j1 : rimD X Y R a b false m = true → JS X Y R T m (e1 &&& W) := fun hm => ⟨fun q hq => WT q (w1 q hq), rm_in hm (fun q hq => ((t1 q).mp hq).2)⟩
    have j2 : rimD X Y R a b true m = true → JS X Y R T m (e2 &&& W) := fun hm => ⟨fun q hq => WT q (w2 q hq), rm_in hm (fun q hq => by have := ((t2 q).mp hq).2; rw [rimD_sym] at this; exact this)⟩
    unfold f_X2_onOthers
    rw [ck_t hd, isNumber_t ha, Option.bind_some, w32_1, if_neg (by decide), isNumber_t hb, Option.bind_some, w32_1, if_neg (by decide), ck_t (by omega), show ((a : Int) * 24 + (b : Int)).toNat = a * 24 + b by omega, z34, s1, and_n (by omega) (by omega), sums_n (hgz z hz) (Nat.lt_of_le_of_lt Nat.and_le_left l1), Option.bind_some, ck_t (by omega), show ((b : Int) * 24 + (a : Int)).toNat = b * 24 + a by omega, s2, and_n (by omega) (by omega), sums_n (hgz z hz) (Nat.lt_of_le_of_lt Nat.and_le_left l2), Option.bind_some]
    obtain ⟨x1, ey1⟩ : ∃ x1, x1 = sumb (σ 9) (e1 &&& W) 24 := ⟨_, rfl⟩
    obtain ⟨x2, ey2⟩ : ∃ x2, x2 = sumb (σ 9) (e2 &&& W) 24 := ⟨_, rfl⟩
    rw [← ey1] at u1 k1 ⊢
    rw [← ey2] at u2 k2 ⊢
    rw [w32_eq (z := x1) ⟨by omega, by omega⟩, w32_eq (z := x2) ⟨by omega, by omega⟩, w32_eq (z := v) ⟨by omega, by omega⟩]
    have go : ∃ w, f_X2_onOthers_b80 d z (a : Int) (b : Int) x y v x1 x2 = some w ∧ (w ≤ v ∨ ∃ o, JS X Y R T m o ∧ w = sumb (σ 9) o 24) ∧ (-1000000000 ≤ w ∧ w ≤ 1000000000) ∧ ∀ side o, SubN o W → rimD X Y R a b side m = true → (∀ q, o.testBit q = true → rimD X Y R a b side q = true) → sumb (σ 9) o 24 ≤ v ∨ sumb (σ 9) o 24 ≤ w := by
      unfold f_X2_onOthers_b80
      rw [sidesXY_n (X := X) (Y := Y) (m := m) (R := R) hd ha hb (by rw [hz _ _ (by omega)]; exact i2) ⟨by omega, hR.2⟩ Px Py (by rw [z7, z8]; exact hP a ha) (by rw [z7, z8]; exact hP b hb) xm ym (by rw [z7, z8]; exact xW a ta) (by rw [z7, z8]; exact xW b tb), Option.bind_some, sdv_1]
      cases hl : rimD X Y R a b false m with
      | false =>
        rw [b01_f rfl]
        unfold f_X2_onOthers_b105 f_X2_onOthers_b119
        rw [sdv_2]
        cases hr : rimD X Y R a b true m with
        | false =>
          rw [b02_f rfl, mmax_i ⟨by omega, by omega⟩ ⟨by omega, by omega⟩, if_neg (Int.lt_irrefl v)]
          refine ⟨v, rfl, Or.inl (Int.le_refl _), ⟨v1, v2⟩, fun side o h1 h2 h3 => ?_⟩
          cases side
          · rw [hl] at h2
            cases h2
          · rw [hr] at h2
            cases h2
        | true =>
          rw [b02_t rfl, mmax_i ⟨by omega, by omega⟩ ⟨by omega, by omega⟩]
          refine ⟨_, rfl, ?_, by split <;> omega, fun side o h1 h2 h3 => ?_⟩
          · by_cases c : v < x2
            · rw [if_pos c]
              exact Or.inr ⟨_, j2 hr, ey2⟩
            · rw [if_neg c]
              exact Or.inl (Int.le_refl _)
          · cases side
            · rw [hl] at h2
              cases h2
            · have := u2 o h1 h3
              right
              split <;> omega
      | true =>
        rw [b01_t rfl]
        unfold f_X2_onOthers_b105 f_X2_onOthers_b119
        rw [sdv_2]
        cases hr : rimD X Y R a b true m with
        | false =>
          rw [b02_f rfl, mmax_i ⟨by omega, by omega⟩ ⟨by omega, by omega⟩]
          refine ⟨_, rfl, ?_, by split <;> omega, fun side o h1 h2 h3 => ?_⟩
          · by_cases c : x1 < v
            · rw [if_pos c]
              exact Or.inl (Int.le_refl _)
            · rw [if_neg c]
              exact Or.inr ⟨_, j1 hl, ey1⟩
          · cases side
            · have := u1 o h1 h3
              right
              split <;> omega
            · rw [hr] at h2
              cases h2
        | true =>
          rw [b02_t rfl, mmax_i ⟨by omega, by omega⟩ ⟨by omega, by omega⟩]
          refine ⟨_, rfl, ?_, by split <;> omega, fun side o h1 h2 h3 => ?_⟩
          · by_cases c : x1 < x2
            · rw [if_pos c]
              exact Or.inr ⟨_, j2 hr, ey2⟩
            · rw [if_neg c]
              exact Or.inr ⟨_, j1 hl, ey1⟩
          · cases side
            · have := u1 o h1 h3
              right
              split <;> omega
            · have := u2 o h1 h3
              right
              split <;> omega
    by_cases c1 : x1 ≤ v
    · rw [if_pos c1]
      by_cases c2 : x2 ≤ v
      · rw [if_pos c2]
        refine ⟨v, rfl, Or.inl (Int.le_refl _), ⟨v1, v2⟩, fun side o h1 _ h2 => Or.inl ?_⟩
        cases side with
        | false => have := u1 o h1 h2; omega
        | true => have := u2 o h1 h2; omega
      · rw [if_neg c2]
        exact go
    · rw [if_neg c1]
      exact go
  have loop2 : ∀ v z, FrJ d σ z → JF X Y (σ 9) R T m fl v → v0 ≤ v → v ≤ 1000000000 → (∀ b, W.testBit b = true → ∀ side o, SubN o W → (∀ q, o.testBit q = true → rimD X Y R m b side q = true) → sumb (σ 9) o 24 ≤ v) → ∃ w z', f_X2_joined_b139 d x y (W : Int) v z = some (w, z') ∧ FrJ d σ z' ∧ JF X Y (σ 9) R T m fl w ∧ ∀ o, JS X Y R T m o → sumb (σ 9) o 24 ≤ w := by
    intro v z hz hJ hv0 hv9 h1
    unfold f_X2_joined_b139
    refine loop_P (F := fun n i (u : Int) => f_X2_joined_b142 d n x y (W : Int) u i z) 24 (fun i u => JF X Y (σ 9) R T m fl u ∧ v ≤ u ∧ u ≤ 1000000000 ∧ ∀ a b, a < i → a < b → jG X Y (σ 9) R W m a b u) (P := fun r => ∃ w z', r = some (w, z') ∧ FrJ d σ z' ∧ JF X Y (σ 9) R T m fl w ∧ ∀ o, JS X Y R T m o → sumb (σ 9) o 24 ≤ w) (by decide) ?_ ?_ 0 (by decide) v ⟨hJ, Int.le_refl _, hv9, fun a b ha => by omega⟩
    · intro n i u hi hI
      obtain ⟨g1, g2, g3, g4⟩ := hI
      right
      show ∃ s' : Int, _ ∧ f_X2_joined_b142 d (n + 1) x y (W : Int) u i z = f_X2_joined_b142 d n x y (W : Int) s' ((i : Int) + 1) z
      rw [f_X2_joined_b142, w32_n (by omega), if_pos (show (i : Int) < 24 by omega), ← ncast_s]
      refine loop_P (F := fun k j (u : Int) => f_X2_joined_b155 d (f_X2_joined_b142 d n) k x y (W : Int) u i j z) 24 (fun j u => i < j ∧ JF X Y (σ 9) R T m fl u ∧ v ≤ u ∧ u ≤ 1000000000 ∧ (∀ a b, a < i → a < b → jG X Y (σ 9) R W m a b u) ∧ ∀ b, i < b → b < j → jG X Y (σ 9) R W m i b u) (P := fun r => ∃ s' : Int, (JF X Y (σ 9) R T m fl s' ∧ v ≤ s' ∧ s' ≤ 1000000000 ∧ ∀ a b, a < i + 1 → a < b → jG X Y (σ 9) R W m a b s') ∧ r = f_X2_joined_b142 d n x y (W : Int) s' (((i + 1 : Nat) : Nat) : Int) z) (by decide) ?_ ?_ (i + 1) (by omega) u ⟨by omega, g1, g2, g3, g4, fun b h1 h2 => by omega⟩
      · intro k j u hj hI
        obtain ⟨hij, g1, g2, g3, g4, g5⟩ := hI
        right
        have skip : jG X Y (σ 9) R W m i j u → ∃ s' : Int, (i < j + 1 ∧ JF X Y (σ 9) R T m fl s' ∧ v ≤ s' ∧ s' ≤ 1000000000 ∧ (∀ a b, a < i → a < b → jG X Y (σ 9) R W m a b s') ∧ ∀ b, i < b → b < j + 1 → jG X Y (σ 9) R W m i b s') ∧ f_X2_joined_b203 d (f_X2_joined_b142 d n) (f_X2_joined_b155 d (f_X2_joined_b142 d n) k) x y (W : Int) u i j z = f_X2_joined_b155 d (f_X2_joined_b142 d n) k x y (W : Int) s' i ((j : Int) + 1) z := fun q => ⟨u, ⟨by omega, g1, g2, g3, g4, fun b b1 b2 => by
          rcases Nat.lt_succ_iff_lt_or_eq.1 b2 with r | r
          · exact g5 b b1 r
          · rw [r]
            exact q⟩, rfl⟩
        show ∃ s' : Int, _ ∧ f_X2_joined_b155 d (f_X2_joined_b142 d n) (k + 1) x y (W : Int) u i j z = _
        rw [f_X2_joined_b155, w32_n (by omega), if_pos (show (j : Int) < 24 by omega), contains_n (by omega) (by omega), Option.bind_some]
        cases ti : W.testBit i with
        | false =>
          rw [b01_f rfl]
          exact skip (fun h => by rw [ti] at h; cases h)
        | true =>
          rw [b01_t rfl, contains_n (by omega) (by omega), Option.bind_some]
          cases tj : W.testBit j with
          | false =>
            rw [b01_f rfl]
            exact skip (fun _ h => by rw [tj] at h; cases h)
          | true =>
            obtain ⟨w, e, hw, hwb, hwu⟩ := onO u z i j hz (by omega) g3 hij ti tj
            rw [b01_t rfl, e, Option.bind_some, mmax_i ⟨by omega, by omega⟩ ⟨by omega, by omega⟩]
            have le1 : u ≤ (if u < w then w else u) := by split <;> omega
            have le2 : w ≤ (if u < w then w else u) := by split <;> omega
            have le3 : (if u < w then w else u) ≤ 1000000000 := by split <;> omega
            refine ⟨_, ⟨by omega, g1.take hw, by omega, le3, fun a b h1 h2 => (g4 a b h1 h2).up le1, fun b b1 b2 => ?_⟩, rfl⟩
            rcases Nat.lt_succ_iff_lt_or_eq.1 b2 with r | r
            · exact (g5 b b1 r).up le1
            · subst r
              intro _ _ side o q1 q2 q3
              have := hwu side o q1 q2 q3
              omega
      · intro k u hI
        obtain ⟨hij, g1, g2, g3, g4, g5⟩ := hI
        show ∃ s' : Int, _ ∧ f_X2_joined_b155 d (f_X2_joined_b142 d n) (k + 1) x y (W : Int) u i ((24 : Nat) : Int) z = _
        rw [f_X2_joined_b155, w32_n (by decide), if_neg (show ¬ ((24 : Nat) : Int) < 24 by decide)]
        refine ⟨u, ⟨g1, g2, g3, fun a b h1 h2 => ?_⟩, rfl⟩
        rcases Nat.lt_succ_iff_lt_or_eq.1 h1 with r | r
        · exact g4 a b r h2
        · subst r
          intro t1 t2
          exact g5 b h2 (n25 b t2) t1 t2
    · intro n u hI
      obtain ⟨g1, g2, g3, g4⟩ := hI
      show ∃ w z', f_X2_joined_b142 d (n + 1) x y (W : Int) u ((24 : Nat) : Int) z = some (w, z') ∧ _
      rw [f_X2_joined_b142, w32_n (by decide), if_neg (show ¬ ((24 : Nat) : Int) < 24 by decide)]
      refine ⟨u, z, rfl, hz, g1, fin u z hz g1 (by omega) (fun b tb side o q1 q2 => by have := h1 b tb side o q1 q2; omega) (fun a b hab ta tb => g4 a b (n25 a ta) hab ta tb)⟩
  refine loop_P (F := fun n i (u : Int × Sg) => f_X2_joined_b74 d n x y (W : Int) u.1 i u.2) 24 (fun i u => FrJ d σ u.2 ∧ JF X Y (σ 9) R T m fl u.1 ∧ v0 ≤ u.1 ∧ u.1 ≤ 1000000000 ∧ ∀ b, b < i → W.testBit b = true → ∀ side o, SubN o W → (∀ q, o.testBit q = true → rimD X Y R m b side q = true) → sumb (σ 9) o 24 ≤ u.1) (P := fun r => ∃ v z, r = some (v, z) ∧ FrJ d σ z ∧ JF X Y (σ 9) R T m fl v ∧ ∀ o, JS X Y R T m o → sumb (σ 9) o 24 ≤ v) (by decide) ?_ ?_ 0 (by decide) (v0, σ) ⟨FrJ.rf, J0, Int.le_refl _, b0.2, fun b hb => by omega⟩
  · intro n i u hi hI
    obtain ⟨v, z⟩ := u
    obtain ⟨hz, hJ, hv0, hv9, hu⟩ := hI
    right
    have hz : FrJ d σ z := hz
    have hJ : JF X Y (σ 9) R T m fl v := hJ
    have hv0 : v0 ≤ v := hv0
    have hv9 : v ≤ 1000000000 := hv9
    have hu : ∀ b, b < i → W.testBit b = true → ∀ side o, SubN o W → (∀ q, o.testBit q = true → rimD X Y R m b side q = true) → sumb (σ 9) o 24 ≤ v := hu
    show ∃ s' : Int × Sg, _ ∧ f_X2_joined_b74 d (n + 1) x y (W : Int) v i z = f_X2_joined_b74 d n x y (W : Int) s'.1 ((i : Int) + 1) s'.2
    rw [f_X2_joined_b74, w32_n (by omega), if_pos (show (i : Int) < 24 by omega), contains_n (by omega) (by omega), Option.bind_some]
    cases ti : W.testBit i with
    | false =>
      rw [b01_f rfl]
      refine ⟨(v, z), ⟨hz, hJ, hv0, hv9, fun b hb tb => ?_⟩, rfl⟩
      rcases Nat.lt_succ_iff_lt_or_eq.1 hb with r | r
      · exact hu b r tb
      · rw [r, ti] at tb
        cases tb
    | true =>
      have z7 : z 7 = σ 7 := hz.row (by omega)
      have z8 : z 8 = σ 8 := hz.row (by omega)
      rw [b01_t rfl, hold_n (R := R) hd hi W24 (by rw [hz _ _ (by omega)]; exact i2) ⟨by omega, hR.2⟩ Px Py (fun q hq _ => by rw [z7, z8]; exact hP q hq) (by rw [z7, z8]; exact hP i hi), Option.bind_some, z7, z8]
      have hb : ∀ side q, (mks (hbP (σ 7) (σ 8) R x y i W side) 24).testBit q = true ↔ W.testBit q = true ∧ rimD X Y R m i side q = true := fun side q => by
        rw [tb_mks, hbP_m xm ym (xW i ti) xW q, Bool.and_eq_true, Bool.and_eq_true, decide_eq_true_iff]
        exact ⟨fun h => h.2, fun h => ⟨n25 q h.1, h⟩⟩
      have jl : ∀ side, JS X Y R T m (mks (hbP (σ 7) (σ 8) R x y i W side) 24) := fun side => by
        refine ⟨fun q hq => WT q ((hb side q).mp hq).1, ?_⟩
        by_cases hok : rimOk X Y R m i
        · exact rm_in (rimD_iff.mpr ⟨hok, inD_a _ _ _ _ _ _⟩) (fun q hq => ((hb side q).mp hq).2)
        · have : mks (hbP (σ 7) (σ 8) R x y i W side) 24 = 0 := bits_ext fun q => by
            rw [Nat.zero_testBit]
            cases e : (mks (hbP (σ 7) (σ 8) R x y i W side) 24).testBit q with
            | false => rfl
            | true => exact absurd (rimD_iff.mp ((hb side q).mp e).2).1 hok
          rw [this]
          exact tg_0
      have ll : ∀ side, mks (hbP (σ 7) (σ 8) R x y i W side) 24 < 16777216 := fun side => mks_24 _
      have ul : ∀ side o, SubN o W → (∀ q, o.testBit q = true → rimD X Y R m i side q = true) → sumb (σ 9) o 24 ≤ sumb (σ 9) (mks (hbP (σ 7) (σ 8) R x y i W side) 24) 24 := fun side o h1 h2 => smo o _ (fun q hq => (hb side q).mpr ⟨h1 q hq, h2 q hq⟩) (jl side).1
      obtain ⟨A, hA⟩ : ∃ A : Bool → Nat, A = fun side => mks (hbP (σ 7) (σ 8) R x y i W side) 24 := ⟨_, rfl⟩
      have eA : ∀ side, mks (hbP (σ 7) (σ 8) R x y i W side) 24 = A side := fun side => by rw [hA]
      simp only [eA] at hb jl ll ul ⊢
      have hz2 : FrJ d σ (up (up z (27 + d) 3 ((A false : Nat) : Int)) (27 + d) 4 ((A true : Nat) : Int)) := hz.tr fun k j hk => by
        by_cases k27 : k = 27 + d
        · subst k27
          rw [up_j (by omega), up_j (by omega)]
        · rw [up_k k27, up_k k27]
      have r3 : up (up z (27 + d) 3 ((A false : Nat) : Int)) (27 + d) 4 ((A true : Nat) : Int) (27 + d) 3 = ((A false : Nat) : Int) := by rw [up_j (by decide), up_s]
      have r4 : up (up z (27 + d) 3 ((A false : Nat) : Int)) (27 + d) 4 ((A true : Nat) : Int) (27 + d) 4 = ((A true : Nat) : Int) := up_s
      rw [r3, r4]
      generalize up (up z (27 + d) 3 ((A false : Nat) : Int)) (27 + d) 4 ((A true : Nat) : Int) = z2 at *
      rw [sums_n (hgz z2 hz2) (ll false), Option.bind_some, sums_n (hgz z2 hz2) (ll true), Option.bind_some]
      have k1 := sb _ (jl false).1
      have k2 := sb _ (jl true).1
      have t1 : JF X Y (σ 9) R T m fl (if v < (if sumb (σ 9) (A false) 24 < sumb (σ 9) (A true) 24 then sumb (σ 9) (A true) 24 else sumb (σ 9) (A false) 24) then (if sumb (σ 9) (A false) 24 < sumb (σ 9) (A true) 24 then sumb (σ 9) (A true) 24 else sumb (σ 9) (A false) 24) else v) := hJ.take (Or.inr (by
        by_cases c : sumb (σ 9) (A false) 24 < sumb (σ 9) (A true) 24
        · rw [if_pos c]
          exact ⟨_, jl true, rfl⟩
        · rw [if_neg c]
          exact ⟨_, jl false, rfl⟩))
      have u1 := ul false
      have u2 := ul true
      generalize sumb (σ 9) (A false) 24 = x1 at *
      generalize sumb (σ 9) (A true) 24 = x2 at *
      have hin : InR (if x1 < x2 then x2 else x1) := by
        split
        · exact ⟨by omega, by omega⟩
        · exact ⟨by omega, by omega⟩
      rw [mmax_i (a := x1) ⟨by omega, by omega⟩ ⟨by omega, by omega⟩, mmax_i (a := v) ⟨by omega, by omega⟩ hin]
      have le1 : v ≤ (if v < (if x1 < x2 then x2 else x1) then (if x1 < x2 then x2 else x1) else v) := by split <;> omega
      have le2 : x1 ≤ (if v < (if x1 < x2 then x2 else x1) then (if x1 < x2 then x2 else x1) else v) := by
        by_cases c1 : x1 < x2
        · simp only [if_pos c1]
          split <;> omega
        · simp only [if_neg c1]
          split <;> omega
      have le3 : x2 ≤ (if v < (if x1 < x2 then x2 else x1) then (if x1 < x2 then x2 else x1) else v) := by
        by_cases c1 : x1 < x2
        · simp only [if_pos c1]
          split <;> omega
        · simp only [if_neg c1]
          split <;> omega
      have le4 : (if v < (if x1 < x2 then x2 else x1) then (if x1 < x2 then x2 else x1) else v) ≤ 1000000000 := by
        by_cases c1 : x1 < x2
        · simp only [if_pos c1]
          split <;> omega
        · simp only [if_neg c1]
          split <;> omega
      generalize (if v < (if x1 < x2 then x2 else x1) then (if x1 < x2 then x2 else x1) else v) = w at *
      refine ⟨(w, z2), ⟨hz2, t1, Int.le_trans hv0 le1, le4, fun b hb2 tb side o q1 q2 => ?_⟩, rfl⟩
      show sumb (σ 9) o 24 ≤ w
      rcases Nat.lt_succ_iff_lt_or_eq.1 hb2 with r | r
      · have := hu b r tb side o q1 q2
        omega
      · subst r
        cases side with
        | false => have := u1 o q1 q2; omega
        | true => have := u2 o q1 q2; omega
  · intro n u hI
    obtain ⟨v, z⟩ := u
    obtain ⟨hz, hJ, hv0, hv9, hu⟩ := hI
    show ∃ v' z', f_X2_joined_b74 d (n + 1) x y (W : Int) v ((24 : Nat) : Int) z = some (v', z') ∧ _
    rw [f_X2_joined_b74, w32_n (by decide), if_neg (show ¬ ((24 : Nat) : Int) < 24 by decide)]
    exact loop2 v z hz hJ hv0 hv9 (fun b tb => hu b (n25 b tb) tb)
