/-! ===== geometry: a disc is turned about one of its places until another one is on its rim; over any ordered ring ===== -/
theorem f_sqle {F : Type} [Lean.Grind.CommRing F] [LE F] [LT F] [Std.LawfulOrderLT F] [Std.IsLinearOrder F] [Lean.Grind.OrderedRing F] {a b : F} (hb : 0 ≤ b) (h : a * a ≤ b * b) : a ≤ b := by
  rcases Std.le_total (a := a) (b := b) with h1 | h1
  · exact h1
  · refine Classical.byContradiction fun hn => ?_
    have p1 : 0 < a - b := by grind
    have p2 : 0 < a + b := by grind
    have := Lean.Grind.OrderedRing.mul_pos p1 p2
    grind
theorem f_sq0 {F : Type} [Lean.Grind.CommRing F] [LE F] [LT F] [Std.LawfulOrderLT F] [Std.IsLinearOrder F] [Lean.Grind.OrderedRing F] (a : F) : 0 ≤ a * a := by
  rcases Std.le_total (a := 0) (b := a) with h1 | h1
  · exact Lean.Grind.OrderedRing.mul_nonneg h1 h1
  · exact Lean.Grind.OrderedRing.mul_nonneg_of_nonpos_of_nonpos h1 h1
theorem f_can {F : Type} [Lean.Grind.CommRing F] [LE F] [LT F] [Std.LawfulOrderLT F] [Std.IsLinearOrder F] [Lean.Grind.OrderedRing F] {a b : F} (ha : 0 < a) (h : 0 ≤ a * b) : 0 ≤ b := by
  refine Classical.byContradiction fun hn => ?_
  have p1 : 0 < -b := by grind
  have := Lean.Grind.OrderedRing.mul_pos ha p1
  grind
theorem f_pv1 {F : Type} [Lean.Grind.CommRing F] [LE F] [LT F] [Std.LawfulOrderLT F] [Std.IsLinearOrder F] [Lean.Grind.OrderedRing F] {M N D ca cb ka kb x m sB z : F}
    (e1 : M * x = ca * kb - ka * cb) (e2 : ca * ca + ka * ka = N * M) (e3 : cb * cb + kb * kb = N * M) (e4 : ca * sB = cb * D + x * m) (e5 : ca * ca * N = cb * cb * N + 2 * (cb * x * ka) + x * x * M) (e6 : M * D = ka * m + ca * z) (e7 : M * sB = kb * m + cb * z)
    (hM : 0 < M) (hMN : M ≤ N) (hca : 0 ≤ ca) (hcb : 0 ≤ cb) (hk : ka ≤ kb) (hD : 0 < D) (hm : D ≤ m) : D ≤ sB := by
  have hN : 0 < N := by grind
  have hx : 0 ≤ x := by
    refine f_can hM ?_
    rw [e1]
    rcases Std.le_total (a := 0) (b := ka) with h1 | h1
    · have q1 : ka * ka ≤ kb * kb := by
        have := Lean.Grind.OrderedRing.mul_nonneg (show 0 ≤ kb - ka by grind) (show 0 ≤ kb + ka by grind)
        grind
      have q2 : cb ≤ ca := f_sqle hca (by grind)
      have q3 := Lean.Grind.OrderedRing.mul_nonneg (show 0 ≤ ca - cb by grind) (show 0 ≤ kb by grind)
      have q4 := Lean.Grind.OrderedRing.mul_nonneg hcb (show 0 ≤ kb - ka by grind)
      grind
    · rcases Std.le_total (a := 0) (b := kb) with h2 | h2
      · have q3 := Lean.Grind.OrderedRing.mul_nonneg hca h2
        have q4 := Lean.Grind.OrderedRing.mul_nonneg hcb (show 0 ≤ -ka by grind)
        grind
      · have q1 : kb * kb ≤ ka * ka := by
          have := Lean.Grind.OrderedRing.mul_nonneg (show 0 ≤ kb - ka by grind) (show 0 ≤ -kb - ka by grind)
          grind
        have q2 : ca ≤ cb := f_sqle hcb (by grind)
        have q3 := Lean.Grind.OrderedRing.mul_nonneg (show 0 ≤ cb - ca by grind) (show 0 ≤ -ka by grind)
        have q4 := Lean.Grind.OrderedRing.mul_nonneg hca (show 0 ≤ kb - ka by grind)
        grind
  have hNM : N * M ≤ N * N := by
    have := Lean.Grind.OrderedRing.mul_nonneg (show 0 ≤ N by grind) (show 0 ≤ N - M by grind)
    grind
  have hka : ka ≤ N := f_sqle (by grind) (by have := f_sq0 ca; grind)
  have hsum : ca ≤ cb + x := by
    refine f_sqle (by grind) ?_
    have p1 := Lean.Grind.OrderedRing.mul_nonneg (Lean.Grind.OrderedRing.mul_nonneg hcb hx) (show 0 ≤ N - ka by grind)
    have p2 := Lean.Grind.OrderedRing.mul_nonneg (f_sq0 x) (show 0 ≤ N - M by grind)
    have p3 : 0 ≤ N * ((cb + x) * (cb + x) - ca * ca) := by grind
    have := f_can hN p3
    grind
  by_cases hc : 0 < ca
  · have p1 := Lean.Grind.OrderedRing.mul_nonneg hx (show 0 ≤ m - D by grind)
    have p2 := Lean.Grind.OrderedRing.mul_nonneg (show 0 ≤ D by grind) (show 0 ≤ cb + x - ca by grind)
    have p3 : 0 ≤ ca * (sB - D) := by grind
    have := f_can hc p3
    grind
  · have hc0 : ca = 0 := by grind
    subst hc0
    have hMD := Lean.Grind.OrderedRing.mul_pos hM hD
    have hka0 : 0 < ka := by
      refine Classical.byContradiction fun hn => ?_
      have := Lean.Grind.OrderedRing.mul_nonneg (show 0 ≤ -ka by grind) (show 0 ≤ m by grind)
      grind
    have hkk : kb ≤ ka := f_sqle (by grind) (by have := f_sq0 cb; grind)
    have hkk2 : kb = ka := by grind
    subst hkk2
    have hcc : cb * cb ≤ 0 * 0 := by grind
    have hcb0 : cb = 0 := by
      have := f_sqle (show (0 : F) ≤ 0 by grind) hcc
      grind
    subst hcb0
    have : 0 ≤ M * (sB - D) := by grind
    have := f_can hM this
    grind
theorem f_pv {F : Type} [Lean.Grind.CommRing F] [LE F] [LT F] [Std.LawfulOrderLT F] [Std.IsLinearOrder F] [Lean.Grind.OrderedRing F] {ax ay bx bz wx wy sx sy N D : F}
    (hA : ax * ax + ay * ay = N) (hB : bx * bx + bz * bz = N) (hW : wx * wx + wy * wy ≤ N) (hca : 0 ≤ ax * wy - ay * wx) (hcb : 0 ≤ bx * wy - bz * wx) (hk : ax * wx + ay * wy ≤ bx * wx + bz * wy) (hD : 0 < D) (hs : sx * ax + sy * ay = D) (hw : D ≤ sx * wx + sy * wy) : D ≤ sx * bx + sy * bz := by
  have hM : 0 < wx * wx + wy * wy := by
    have hm : 0 < sx * wx + sy * wy := by grind
    have h1 := Lean.Grind.OrderedRing.mul_pos hm hm
    have h2 := f_sq0 (sx * wy - sy * wx)
    have h3 : 0 < (sx * sx + sy * sy) * (wx * wx + wy * wy) := by grind
    refine Classical.byContradiction fun hn => ?_
    have h4 := f_sq0 sx
    have h5 := f_sq0 sy
    have := Lean.Grind.OrderedRing.mul_nonneg (show 0 ≤ sx * sx + sy * sy by grind) (show 0 ≤ -(wx * wx + wy * wy) by grind)
    grind
  refine f_pv1 (M := wx * wx + wy * wy) (N := N) (ca := ax * wy - ay * wx) (cb := bx * wy - bz * wx) (ka := ax * wx + ay * wy) (kb := bx * wx + bz * wy) (x := ax * bz - ay * bx) (m := sx * wx + sy * wy) (z := sx * wy - sy * wx) ?_ ?_ ?_ ?_ ?_ ?_ ?_ hM hW hca hcb hk hD hw
  · grind
  · rw [← hA]; grind
  · rw [← hB]; grind
  · rw [← hs]; grind
  · clear hk hw hs hD hca hcb hM hW
    have e : (ax * wy - ay * wx) * (ax * wy - ay * wx) * (bx * bx + bz * bz) = (bx * wy - bz * wx) * (bx * wy - bz * wx) * (ax * ax + ay * ay) + 2 * ((bx * wy - bz * wx) * (ax * bz - ay * bx) * (ax * wx + ay * wy)) + (ax * bz - ay * bx) * (ax * bz - ay * bx) * (wx * wx + wy * wy) := by clear hA hB; grind
    rw [hA, hB] at e
    exact e
  · rw [← hs]; grind
  · grind
