/-! ===== the least circle: it is about two, or about three with sharp corners ===== -/
theorem rz2 {x y : Rat} (h : x * x + y * y ≤ 0) : x = 0 ∧ y = 0 := by
  have h1 := rsq x
  have h2 := rsq y
  have hx : x * x = 0 := by grind
  have hy : y * y = 0 := by grind
  exact ⟨(Rat.mul_eq_zero.mp hx).elim id id, (Rat.mul_eq_zero.mp hy).elim id id⟩
theorem rcan {a b : Rat} (ha : 0 < a) (h : 0 ≤ a * b) : 0 ≤ b := by
  refine Classical.byContradiction fun hn => ?_
  have := Rat.mul_pos ha (show 0 < -b by grind)
  grind
/-- the midst of three -/
theorem mid3 {ux uy vx vy : Rat} (hT : ux * vy - uy * vx ≠ 0) : ∃ mx my : Rat, 2 * (mx * ux + my * uy) = ux * ux + uy * uy ∧ 2 * (mx * vx + my * vy) = vx * vx + vy * vy := by
  have hw := Rat.mul_inv_cancel (2 * (ux * vy - uy * vx)) (by grind)
  generalize (2 * (ux * vy - uy * vx))⁻¹ = w at hw
  refine ⟨((ux * ux + uy * uy) * vy - (vx * vx + vy * vy) * uy) * w, ((vx * vx + vy * vy) * ux - (ux * ux + uy * uy) * vx) * w, ?_, ?_⟩
  · have e : 2 * (((ux * ux + uy * uy) * vy - (vx * vx + vy * vy) * uy) * w * ux + ((vx * vx + vy * vy) * ux - (ux * ux + uy * uy) * vx) * w * uy) = (ux * ux + uy * uy) * (2 * (ux * vy - uy * vx) * w) := by grind
    rw [e, hw, Rat.mul_one]
  · have e : 2 * (((ux * ux + uy * uy) * vy - (vx * vx + vy * vy) * uy) * w * vx + ((vx * vx + vy * vy) * ux - (ux * ux + uy * uy) * vx) * w * vy) = (vx * vx + vy * vy) * (2 * (ux * vy - uy * vx) * w) := by grind
    rw [e, hw, Rat.mul_one]
theorem sharpT {ux uy vx vy : Rat} (h0 : 0 < ux * vx + uy * vy) (h1 : 0 < ux * ux + uy * uy - (ux * vx + uy * vy)) (h2 : 0 < vx * vx + vy * vy - (ux * vx + uy * vy)) : ux * vy - uy * vx ≠ 0 := fun e => by
  have i1 : (ux * ux + uy * uy) * (vx * vx + vy * vy) = (ux * vx + uy * vy) * (ux * vx + uy * vy) + (ux * vy - uy * vx) * (ux * vy - uy * vx) := by grind
  rw [e] at i1
  generalize ux * vx + uy * vy = d at *
  generalize ux * ux + uy * uy = A at *
  generalize vx * vx + vy * vy = B at *
  have p1 := Rat.mul_pos h1 h2
  have p2 := Rat.mul_pos h0 h1
  have p3 := Rat.mul_pos h0 h2
  grind
theorem imp2 {ax ay bx bz sx sy ox oy mx my g r : Rat} (h1 : 2 * ox = ax + bx) (h2 : 2 * oy = ay + bz) (h3 : 4 * g = (ax - bx) * (ax - bx) + (ay - bz) * (ay - bz)) (ha : (ax - mx) * (ax - mx) + (ay - my) * (ay - my) ≤ r) (hb : (bx - mx) * (bx - mx) + (bz - my) * (bz - my) ≤ r) (hs : (sx - mx) * (sx - mx) + (sy - my) * (sy - my) ≤ r) (ho : g < (sx - ox) * (sx - ox) + (sy - oy) * (sy - oy)) : g < r := by
  refine Classical.byContradiction fun hn => ?_
  have e : (ax - mx) * (ax - mx) + (ay - my) * (ay - my) + ((bx - mx) * (bx - mx) + (bz - my) * (bz - my)) = 2 * ((ox - mx) * (ox - mx) + (oy - my) * (oy - my)) + 2 * g := by grind
  have z : (ox - mx) * (ox - mx) + (oy - my) * (oy - my) ≤ 0 := by grind
  obtain ⟨z1, z2⟩ := rz2 z
  have e1 : ox = mx := by grind
  have e2 : oy = my := by grind
  rw [e1, e2] at ho
  grind
theorem hul3 {ax ay bx bz sx sy ox oy mx my g r na nb ns : Rat} (hx : (na + nb + ns) * ox = na * ax + nb * bx + ns * sx) (hy : (na + nb + ns) * oy = na * ay + nb * bz + ns * sy) (n1 : 0 ≤ na) (n2 : 0 ≤ nb) (n3 : 0 < ns)
    (ga : (ax - ox) * (ax - ox) + (ay - oy) * (ay - oy) = g) (gb : (bx - ox) * (bx - ox) + (bz - oy) * (bz - oy) = g) (ho : g < (sx - ox) * (sx - ox) + (sy - oy) * (sy - oy))
    (ha : (ax - mx) * (ax - mx) + (ay - my) * (ay - my) ≤ r) (hb : (bx - mx) * (bx - mx) + (bz - my) * (bz - my) ≤ r) (hs : (sx - mx) * (sx - mx) + (sy - my) * (sy - my) ≤ r) : g < r := by
  refine Classical.byContradiction fun hn => ?_
  have e : na * ((ax - mx) * (ax - mx) + (ay - my) * (ay - my)) + nb * ((bx - mx) * (bx - mx) + (bz - my) * (bz - my)) + ns * ((sx - mx) * (sx - mx) + (sy - my) * (sy - my)) = na * ((ax - ox) * (ax - ox) + (ay - oy) * (ay - oy)) + nb * ((bx - ox) * (bx - ox) + (bz - oy) * (bz - oy)) + ns * ((sx - ox) * (sx - ox) + (sy - oy) * (sy - oy)) + (na + nb + ns) * ((ox - mx) * (ox - mx) + (oy - my) * (oy - my)) := by
    have i : na * ((ax - mx) * (ax - mx) + (ay - my) * (ay - my)) + nb * ((bx - mx) * (bx - mx) + (bz - my) * (bz - my)) + ns * ((sx - mx) * (sx - mx) + (sy - my) * (sy - my)) = na * ((ax - ox) * (ax - ox) + (ay - oy) * (ay - oy)) + nb * ((bx - ox) * (bx - ox) + (bz - oy) * (bz - oy)) + ns * ((sx - ox) * (sx - ox) + (sy - oy) * (sy - oy)) + (na + nb + ns) * ((ox - mx) * (ox - mx) + (oy - my) * (oy - my)) + 2 * (ox - mx) * ((na * ax + nb * bx + ns * sx) - (na + nb + ns) * ox) + 2 * (oy - my) * ((na * ay + nb * bz + ns * sy) - (na + nb + ns) * oy) := by
      clear hx hy ga gb ho ha hb hs hn
      grind
    rw [i, hx, hy]
    clear hx hy ga gb ho ha hb hs hn i
    grind
  rw [ga, gb] at e
  have hN : 0 ≤ na + nb + ns := by grind
  have q0 : 0 ≤ (ox - mx) * (ox - mx) + (oy - my) * (oy - my) := by
    have := rsq (ox - mx)
    have := rsq (oy - my)
    grind
  clear hx hy ga gb
  generalize (ax - mx) * (ax - mx) + (ay - my) * (ay - my) = Ea at *
  generalize (bx - mx) * (bx - mx) + (bz - my) * (bz - my) = Eb at *
  generalize (sx - mx) * (sx - mx) + (sy - my) * (sy - my) = Es at *
  generalize (sx - ox) * (sx - ox) + (sy - oy) * (sy - oy) = Os at *
  generalize (ox - mx) * (ox - mx) + (oy - my) * (oy - my) = Q at *
  have p1 := Rat.mul_nonneg n1 (show 0 ≤ g - Ea by grind)
  have p2 := Rat.mul_nonneg n2 (show 0 ≤ g - Eb by grind)
  have p3 := Rat.mul_pos n3 (show 0 < Os - Es by grind)
  have p4 := Rat.mul_nonneg hN q0
  have p5 := Rat.mul_pos n3 (show 0 < Os - g by grind)
  have p6 := Rat.mul_nonneg (show 0 ≤ ns by grind) (show 0 ≤ g - Es by grind)
  grind
theorem drop3 {ax ay bx bz cx cy sx sy ox oy mx my g r wa wb wc ta tb tc : Rat} (hx : (wa + wb + wc) * ox = wa * ax + wb * bx + wc * cx) (hy : (wa + wb + wc) * oy = wa * ay + wb * bz + wc * cy) (kx : (ta + tb + tc) * sx = ta * ax + tb * bx + tc * cx) (ky : (ta + tb + tc) * sy = ta * ay + tb * bz + tc * cy)
    (hS : 0 < ta + tb + tc) (w3 : 0 < wc) (m1 : wc * ta ≤ wa * tc) (m2 : wc * tb ≤ wb * tc)
    (ga : (ax - ox) * (ax - ox) + (ay - oy) * (ay - oy) = g) (gb : (bx - ox) * (bx - ox) + (bz - oy) * (bz - oy) = g) (ho : g < (sx - ox) * (sx - ox) + (sy - oy) * (sy - oy))
    (ha : (ax - mx) * (ax - mx) + (ay - my) * (ay - my) ≤ r) (hb : (bx - mx) * (bx - mx) + (bz - my) * (bz - my) ≤ r) (hs : (sx - mx) * (sx - mx) + (sy - my) * (sy - my) ≤ r) : g < r := by
  refine hul3 (na := wa * tc - wc * ta) (nb := wb * tc - wc * tb) (ns := wc * (ta + tb + tc)) ?_ ?_ (by grind) (by grind) (Rat.mul_pos w3 hS) ga gb ho ha hb hs
  · have e1 : (wa * tc - wc * ta + (wb * tc - wc * tb) + wc * (ta + tb + tc)) * ox = tc * ((wa + wb + wc) * ox) := by grind
    have e2 : (wa * tc - wc * ta) * ax + (wb * tc - wc * tb) * bx + wc * (ta + tb + tc) * sx = tc * (wa * ax + wb * bx) - wc * (ta * ax + tb * bx) + wc * ((ta + tb + tc) * sx) := by grind
    rw [e1, e2, hx, kx]
    grind
  · have e1 : (wa * tc - wc * ta + (wb * tc - wc * tb) + wc * (ta + tb + tc)) * oy = tc * ((wa + wb + wc) * oy) := by grind
    have e2 : (wa * tc - wc * ta) * ay + (wb * tc - wc * tb) * bz + wc * (ta + tb + tc) * sy = tc * (wa * ay + wb * bz) - wc * (ta * ay + tb * bz) + wc * ((ta + tb + tc) * sy) := by grind
    rw [e1, e2, hy, ky]
    grind
theorem arg3 {wa wb wc ta tb tc : Rat} (h1 : 0 < wa) (h2 : 0 < wb) (h3 : 0 < wc) : (wc * ta ≤ wa * tc ∧ wc * tb ≤ wb * tc) ∨ (wa * tb ≤ wb * ta ∧ wa * tc ≤ wc * ta) ∨ (wb * tc ≤ wc * tb ∧ wb * ta ≤ wa * tb) := by
  have tr : ∀ {x y z p q s : Rat}, 0 < x → 0 < y → 0 < z → y * p ≤ x * q → z * q ≤ y * s → z * p ≤ x * s := fun {x y z p q s} hx hy hz a b => by
    have p1 := Rat.mul_nonneg (show 0 ≤ z by grind) (show 0 ≤ x * q - y * p by grind)
    have p2 := Rat.mul_nonneg (show 0 ≤ x by grind) (show 0 ≤ y * s - z * q by grind)
    have := rcan (a := y) (b := x * s - z * p) hy (by grind)
    grind
  by_cases c1 : wc * ta ≤ wa * tc
  · by_cases c2 : wc * tb ≤ wb * tc
    · exact Or.inl ⟨c1, c2⟩
    · have c2' : wb * tc ≤ wc * tb := by grind
      exact Or.inr (Or.inr ⟨c2', tr (x := wa) (y := wc) (z := wb) h1 h3 h2 c1 c2'⟩)
  · have c1' : wa * tc ≤ wc * ta := by grind
    by_cases c2 : wa * tb ≤ wb * ta
    · exact Or.inr (Or.inl ⟨c2, c1'⟩)
    · have c2' : wb * ta ≤ wa * tb := by grind
      exact Or.inr (Or.inr ⟨tr (x := wc) (y := wa) (z := wb) h3 h1 h2 c1' c2', c2'⟩)
