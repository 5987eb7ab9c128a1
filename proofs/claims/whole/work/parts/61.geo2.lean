theorem f_inS {F : Type} [Lean.Grind.CommRing F] [LE F] [LT F] [Std.LawfulOrderLT F] [Std.IsLinearOrder F] [Lean.Grind.OrderedRing F] {io : Int → F} (i0 : io 0 = 0) (im : ∀ a b, io (a * b) = io a * io b) (il : ∀ a b, a ≤ b ↔ io a ≤ io b)
    {t : F} {dot cr D K : Int} (ht : 0 ≤ t) (hD : 0 < D) (e : io D * (t * t) = io K) : inS dot cr D K = true ↔ io dot ≤ t * io cr := by
  have iD : 0 < io D := by
    have h1 := (il 0 D).mp (by omega)
    have h2 : ¬ io D ≤ io 0 := fun h => by have := (il D 0).mpr h; omega
    rw [i0] at h1 h2
    grind
  have key1 : cr * cr * K ≤ dot * dot * D ↔ (t * io cr) * (t * io cr) ≤ io dot * io dot := by
    rw [il, im, im, im, im, ← e]
    constructor
    · intro h
      have h2 : 0 ≤ io D * (io dot * io dot - (t * io cr) * (t * io cr)) := by grind
      have := f_can iD h2
      grind
    · intro h
      have := Lean.Grind.OrderedRing.mul_nonneg (show 0 ≤ io D by grind) (show 0 ≤ io dot * io dot - (t * io cr) * (t * io cr) by grind)
      grind
  have key2 : dot * dot * D ≤ cr * cr * K ↔ io dot * io dot ≤ (t * io cr) * (t * io cr) := by
    rw [il, im, im, im, im, ← e]
    constructor
    · intro h
      have h2 : 0 ≤ io D * ((t * io cr) * (t * io cr) - io dot * io dot) := by grind
      have := f_can iD h2
      grind
    · intro h
      have := Lean.Grind.OrderedRing.mul_nonneg (show 0 ≤ io D by grind) (show 0 ≤ (t * io cr) * (t * io cr) - io dot * io dot by grind)
      grind
  have hd1 := il dot 0
  have hc1 := il 0 cr
  have hc2 := il cr 0
  rw [i0] at hd1 hc1 hc2
  unfold inS
  by_cases hd : dot ≤ 0
  · rw [if_pos hd, decide_eq_true_iff, key1]
    have hd2 := hd1.mp hd
    generalize io dot = d at *
    generalize io cr = c at *
    constructor
    · rintro (h | h)
      · have := Lean.Grind.OrderedRing.mul_nonneg ht (hc1.mp h)
        grind
      · have := f_sqle (a := -(t * c)) (b := -d) (by grind) (by grind)
        grind
    · intro h
      by_cases h2 : 0 ≤ cr
      · exact Or.inl h2
      · right
        have h3 := hc2.mp (by omega)
        have h4 := Lean.Grind.OrderedRing.mul_nonneg ht (show 0 ≤ -c by grind)
        have := Lean.Grind.OrderedRing.mul_nonneg (show 0 ≤ t * c - d by grind) (show 0 ≤ -(t * c) - d by grind)
        grind
  · rw [if_neg hd, decide_eq_true_iff, key2]
    have hd2 : ¬ io dot ≤ 0 := fun h => hd (hd1.mpr h)
    generalize io dot = d at *
    generalize io cr = c at *
    constructor
    · rintro ⟨h1, h2⟩
      exact f_sqle (Lean.Grind.OrderedRing.mul_nonneg ht (hc1.mp (by omega))) h2
    · intro h
      refine ⟨?_, ?_⟩
      · refine Classical.byContradiction fun hn => ?_
        have h3 := hc2.mp (by omega)
        have := Lean.Grind.OrderedRing.mul_nonneg ht (show 0 ≤ -c by grind)
        grind
      · have := Lean.Grind.OrderedRing.mul_nonneg (show 0 ≤ t * c - d by grind) (show 0 ≤ t * c + d by grind)
        grind
theorem f_max {F : Type} [LE F] [Std.IsLinearOrder F] (f : Nat → F) : ∀ (L : List Nat), L ≠ [] → ∃ p, p ∈ L ∧ ∀ q, q ∈ L → f q ≤ f p
  | [], h => absurd rfl h
  | [a], _ => ⟨a, List.mem_cons_self, fun q hq => by
      rw [List.mem_singleton] at hq
      subst hq
      exact Std.le_refl _⟩
  | a :: b :: L, _ => by
    obtain ⟨p, hp, h⟩ := f_max f (b :: L) (by simp)
    rcases Std.le_total (a := f a) (b := f p) with h1 | h1
    · refine ⟨p, List.mem_cons_of_mem _ hp, fun q hq => ?_⟩
      rcases List.mem_cons.mp hq with rfl | hq
      · exact h1
      · exact h q hq
    · refine ⟨a, List.mem_cons_self, fun q hq => ?_⟩
      rcases List.mem_cons.mp hq with rfl | hq
      · exact Std.le_refl _
      · exact Std.le_trans (h q hq) h1
theorem sq_0 {x : Int} (h : x * x ≤ 0) : x = 0 := by
  have h1 : ¬ 0 < x := fun h0 => by have := Int.mul_pos h0 h0; omega
  have h2 : ¬ x < 0 := fun h0 => by have := Int.mul_pos_of_neg_of_neg h0 h0; omega
  omega
theorem d2_0 {X Y : Nat → Int} {p q : Nat} (h : d2 X Y p q = 0) : X q = X p ∧ Y q = Y p := by
  have h1 := sq_nn (X p - X q)
  have h2 := sq_nn (Y p - Y q)
  have e : (X p - X q) * (X p - X q) + (Y p - Y q) * (Y p - Y q) = 0 := h
  have h3 := sq_0 (x := X p - X q) (by omega)
  have h4 := sq_0 (x := Y p - Y q) (by omega)
  omega
theorem d2_nn (X Y : Nat → Int) (p q : Nat) : 0 ≤ d2 X Y p q := by
  have h1 := sq_nn (X p - X q)
  have h2 := sq_nn (Y p - Y q)
  show 0 ≤ (X p - X q) * (X p - X q) + (Y p - Y q) * (Y p - Y q)
  omega
theorem f_main {F : Type} [Lean.Grind.CommRing F] [LE F] [LT F] [Std.LawfulOrderLT F] [Std.IsLinearOrder F] [Lean.Grind.OrderedRing F] {io : Int → F} (i0 : io 0 = 0) (ia : ∀ a b, io (a + b) = io a + io b) (is : ∀ a b, io (a - b) = io a - io b) (im : ∀ a b, io (a * b) = io a * io b) (il : ∀ a b, a ≤ b ↔ io a ≤ io b)
    (ir : ∀ K D : Int, 0 ≤ K → 0 < D → ∃ t : F, 0 ≤ t ∧ io D * (t * t) = io K)
    {X Y : Nat → Int} {R : Int} {L : List Nat} {Cx Cy : F} (hC : ∀ q, q ∈ L → (io (2 * X q) - Cx) * (io (2 * X q) - Cx) + (io (2 * Y q) - Cy) * (io (2 * Y q) - Cy) ≤ io (4 * R * R)) (hu : ∃ p, p ∈ L ∧ ∃ q, q ∈ L ∧ d2 X Y p q ≠ 0) :
    ∃ a, a ∈ L ∧ ∃ b, b ∈ L ∧ rimOk X Y R a b ∧ ∃ side, ∀ q, q ∈ L → inD X Y R a b side q = true := by
  have i2 : ∀ a, io (2 * a) = 2 * io a := fun a => by rw [show 2 * a = a + a by omega, ia]; grind
  obtain ⟨p0, hp0, q0, hq0, hne0⟩ := hu
  obtain ⟨p, hp, hmax⟩ := f_max (fun q => (io (2 * X q) - Cx) * (io (2 * X q) - Cx) + (io (2 * Y q) - Cy) * (io (2 * Y q) - Cy)) L (fun e => by rw [e] at hp0; cases hp0)
  have hW := hC p hp
  generalize hN : io (4 * R * R) = N at *
  obtain ⟨Wx, hWx⟩ : ∃ w, w = Cx - io (2 * X p) := ⟨_, rfl⟩
  obtain ⟨Wy, hWy⟩ : ∃ w, w = Cy - io (2 * Y p) := ⟨_, rfl⟩
  have hW2 : Wx * Wx + Wy * Wy ≤ N := by rw [hWx, hWy]; grind
  have hd : ∀ q, io (d2 X Y p q) = (io (X q) - io (X p)) * (io (X q) - io (X p)) + (io (Y q) - io (Y p)) * (io (Y q) - io (Y p)) := fun q => by
    unfold d2
    rw [ia, im, im, is, is]
    grind
  have adm : ∀ q, q ∈ L → io (d2 X Y p q) ≤ (io (X q) - io (X p)) * Wx + (io (Y q) - io (Y p)) * Wy := fun q hq => by
    have h := hmax q hq
    rw [hd, hWx, hWy]
    rw [i2, i2, i2, i2] at h
    rw [i2, i2]
    grind
  obtain ⟨r0, hr0, hrne⟩ : ∃ r, r ∈ L ∧ d2 X Y p r ≠ 0 := by
    by_cases h1 : d2 X Y p p0 = 0
    · by_cases h2 : d2 X Y p q0 = 0
      · exfalso
        apply hne0
        obtain ⟨a1, a2⟩ := d2_0 h1
        obtain ⟨b1, b2⟩ := d2_0 h2
        unfold d2
        rw [a1, a2, b1, b2]
        grind
      · exact ⟨q0, hq0, h2⟩
    · exact ⟨p0, hp0, h1⟩
  have dpos : ∀ q, d2 X Y p q ≠ 0 → 0 < io (d2 X Y p q) := fun q h => by
    have h0 := d2_nn X Y p q
    have h1 := (il 0 (d2 X Y p q)).mp h0
    have h2 : ¬ io (d2 X Y p q) ≤ io 0 := fun h3 => by have := (il _ _).mpr h3; omega
    rw [i0] at h1 h2
    grind
  have hK : ∀ q, q ∈ L → d2 X Y p q ≠ 0 → d2 X Y p q ≤ 4 * R * R := fun q hq h => by
    rw [il, hN]
    have h1 := adm q hq
    have h2 := dpos q h
    have h3 := hd q
    generalize io (d2 X Y p q) = D at *
    generalize io (X q) - io (X p) = vx at *
    generalize io (Y q) - io (Y p) = vy at *
    have p1 := Lean.Grind.OrderedRing.mul_nonneg (show 0 ≤ (vx * Wx + vy * Wy) - D by grind) (show 0 ≤ (vx * Wx + vy * Wy) + D by grind)
    have p2 := f_sq0 (vx * Wy - vy * Wx)
    have p3 := Lean.Grind.OrderedRing.mul_nonneg (show 0 ≤ D by grind) (show 0 ≤ N - (Wx * Wx + Wy * Wy) by grind)
    have p4 : 0 ≤ D * (N - D) := by rw [h3] at p3 ⊢; rw [h3] at p1; grind
    have := f_can h2 p4
    grind
  obtain ⟨t, ht⟩ := Classical.axiomOfChoice (r := fun (q : Nat) (t : F) => q ∈ L → d2 X Y p q ≠ 0 → 0 ≤ t ∧ io (d2 X Y p q) * (t * t) = io (4 * R * R - d2 X Y p q)) (fun q => by
    by_cases h : q ∈ L ∧ d2 X Y p q ≠ 0
    · obtain ⟨t, h1, h2⟩ := ir (4 * R * R - d2 X Y p q) (d2 X Y p q) (by have := hK q h.1 h.2; omega) (by have := d2_nn X Y p q; have := h.2; omega)
      exact ⟨t, fun _ _ => ⟨h1, h2⟩⟩
    · exact ⟨0, fun a b => absurd ⟨a, b⟩ h⟩)
  obtain ⟨b, hb, hbm⟩ := f_max (fun q => (io (X q) - io (X p) + t q * (io (Y q) - io (Y p))) * Wx + (io (Y q) - io (Y p) - t q * (io (X q) - io (X p))) * Wy) (L.filter (fun q => decide (d2 X Y p q ≠ 0))) (fun e => by
    have h : r0 ∈ L.filter (fun q => decide (d2 X Y p q ≠ 0)) := List.mem_filter.mpr ⟨hr0, decide_eq_true hrne⟩
    rw [e] at h
    cases h)
  obtain ⟨hbL, hbne⟩ := List.mem_filter.mp hb
  have hbne : d2 X Y p b ≠ 0 := of_decide_eq_true hbne
  have zz : ∀ q, q ∈ L → d2 X Y p q ≠ 0 → (io (X q) - io (X p) + t q * (io (Y q) - io (Y p))) * (io (X q) - io (X p) + t q * (io (Y q) - io (Y p))) + (io (Y q) - io (Y p) - t q * (io (X q) - io (X p))) * (io (Y q) - io (Y p) - t q * (io (X q) - io (X p))) = N := fun q hq h => by
    obtain ⟨h1, h2⟩ := ht q hq h
    rw [is, hN, hd] at h2
    grind
  have cc : ∀ q, q ∈ L → d2 X Y p q ≠ 0 → 0 ≤ (io (X q) - io (X p) + t q * (io (Y q) - io (Y p))) * Wy - (io (Y q) - io (Y p) - t q * (io (X q) - io (X p))) * Wx := fun q hq h => by
    obtain ⟨h1, h2⟩ := ht q hq h
    have h3 := adm q hq
    have h4 := dpos q h
    have h5 := hd q
    rw [is, hN] at h2
    generalize io (d2 X Y p q) = D at *
    generalize io (X q) - io (X p) = vx at *
    generalize io (Y q) - io (Y p) = vy at *
    generalize t q = u at *
    have hm : 0 ≤ vx * Wx + vy * Wy := by grind
    have p1 := Lean.Grind.OrderedRing.mul_nonneg (show 0 ≤ (vx * Wx + vy * Wy) - D by grind) (show 0 ≤ (vx * Wx + vy * Wy) + D by grind)
    have p3 := Lean.Grind.OrderedRing.mul_nonneg (show 0 ≤ D by grind) (show 0 ≤ N - (Wx * Wx + Wy * Wy) by grind)
    have hum := Lean.Grind.OrderedRing.mul_nonneg h1 hm
    have p4 := Lean.Grind.OrderedRing.mul_nonneg (f_sq0 u) p1
    have e1 : (vx * Wy - vy * Wx) * (vx * Wy - vy * Wx) + (vx * Wx + vy * Wy) * (vx * Wx + vy * Wy) = D * (Wx * Wx + Wy * Wy) := by rw [h5]; grind
    have e2 : D * N = D * D + D * D * (u * u) := by
      have : N = D + D * (u * u) := by grind
      rw [this]
      grind
    have p5 : (-(vx * Wy - vy * Wx)) * (-(vx * Wy - vy * Wx)) ≤ (u * (vx * Wx + vy * Wy)) * (u * (vx * Wx + vy * Wy)) := by grind
    have := f_sqle hum p5
    grind
  refine ⟨p, hp, b, hbL, ⟨by have := d2_nn X Y p b; omega, hK b hbL hbne⟩, true, fun s hs => ?_⟩
  obtain ⟨hb1, hb2⟩ := ht b hbL hbne
  unfold inD
  rw [if_pos rfl]
  refine (f_inS i0 im il hb1 (by have := d2_nn X Y p b; omega) hb2).mpr ?_
  have hdot : io (dotp X Y p b s) = (io (X s) - io (X p)) * (io (X s) - io (X b)) + (io (Y s) - io (Y p)) * (io (Y s) - io (Y b)) := by
    unfold dotp
    rw [ia, im, im, is, is, is, is]
  have hcr : io (-crs X Y p b s) = -((io (X b) - io (X p)) * (io (Y s) - io (Y p)) - (io (Y b) - io (Y p)) * (io (X s) - io (X p))) := by
    have e : -crs X Y p b s = 0 - ((X b - X p) * (Y s - Y p) - (Y b - Y p) * (X s - X p)) := by unfold crs; omega
    rw [e, is, is, im, im, is, is, is, is, i0]
    grind
  rw [hdot, hcr]
  by_cases h0 : d2 X Y p s = 0
  · obtain ⟨a1, a2⟩ := d2_0 h0
    rw [a1, a2]
    grind
  · have hbm' := hbm s (List.mem_filter.mpr ⟨hs, decide_eq_true h0⟩)
    have hfin := f_pv (zz s hs h0) (zz b hbL hbne) hW2 (cc s hs h0) (cc b hbL hbne) hbm' (dpos s h0) (sx := io (X s) - io (X p)) (sy := io (Y s) - io (Y p)) (by rw [hd]; grind) (adm s hs)
    rw [hd] at hfin
    grind
