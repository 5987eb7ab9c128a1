/-! ===== the least circle, in whole numbers ===== -/
def cI (X Y : Nat → Int) (p a b : Nat) : Int := (X a - X p) * (X b - X p) + (Y a - Y p) * (Y b - Y p)
def tI (X Y : Nat → Int) (a b c : Nat) : Int := (X b - X a) * (Y c - Y a) - (Y b - Y a) * (X c - X a)
def lI (X Y : Nat → Int) (a b c p : Nat) : Int := d2 X Y a p * tI X Y p b c + d2 X Y b p * tI X Y p c a + d2 X Y c p * tI X Y p a b
theorem lift3 {ux uy vx vy px py mx my r : Rat} (g0 : mx * mx + my * my = r) (e1 : 2 * (mx * ux + my * uy) = ux * ux + uy * uy) (e2 : 2 * (mx * vx + my * vy) = vx * vx + vy * vy) :
    (px * px + py * py) * ((ux - px) * (vy - py) - (uy - py) * (vx - px)) + ((ux - px) * (ux - px) + (uy - py) * (uy - py)) * ((vx - px) * (0 - py) - (vy - py) * (0 - px)) + ((vx - px) * (vx - px) + (vy - py) * (vy - py)) * ((0 - px) * (uy - py) - (0 - py) * (ux - px)) = (ux * vy - uy * vx) * (r - ((px - mx) * (px - mx) + (py - my) * (py - my))) := by
  have a1 : (ux - px) * (ux - px) + (uy - py) * (uy - py) = 2 * (mx * ux + my * uy) - 2 * (ux * px + uy * py) + (px * px + py * py) := by
    rw [e1]
    clear e1 e2 g0
    grind
  have a2 : (vx - px) * (vx - px) + (vy - py) * (vy - py) = 2 * (mx * vx + my * vy) - 2 * (vx * px + vy * py) + (px * px + py * py) := by
    rw [e2]
    clear e1 e2 g0 a1
    grind
  rw [a1, a2, ← g0]
  clear e1 e2 g0 a1 a2
  grind
theorem gD_i (X Y : Nat → Int) (i j : Nat) : gD (fun q => (X q : Rat)) (fun q => (Y q : Rat)) i j = ((d2 X Y i j : Int) : Rat) := by
  unfold gD d2
  rw [Rat.intCast_add, Rat.intCast_mul, Rat.intCast_mul, Rat.intCast_sub, Rat.intCast_sub]
theorem gC_i (X Y : Nat → Int) (i j k : Nat) : gC (fun q => (X q : Rat)) (fun q => (Y q : Rat)) i j k = ((cI X Y i j k : Int) : Rat) := by
  unfold gC cI
  rw [Rat.intCast_add, Rat.intCast_mul, Rat.intCast_mul, Rat.intCast_sub, Rat.intCast_sub, Rat.intCast_sub, Rat.intCast_sub]
theorem gT_i (X Y : Nat → Int) (i j k : Nat) : gT (fun q => (X q : Rat)) (fun q => (Y q : Rat)) i j k = ((tI X Y i j k : Int) : Rat) := by
  unfold gT tI
  rw [Rat.intCast_sub, Rat.intCast_mul, Rat.intCast_mul, Rat.intCast_sub, Rat.intCast_sub, Rat.intCast_sub, Rat.intCast_sub]
theorem lI_i (X Y : Nat → Int) (i j k q : Nat) : ((lI X Y i j k q : Int) : Rat) = gD (fun q => (X q : Rat)) (fun q => (Y q : Rat)) i q * gT (fun q => (X q : Rat)) (fun q => (Y q : Rat)) q j k + gD (fun q => (X q : Rat)) (fun q => (Y q : Rat)) j q * gT (fun q => (X q : Rat)) (fun q => (Y q : Rat)) q k i + gD (fun q => (X q : Rat)) (fun q => (Y q : Rat)) k q * gT (fun q => (X q : Rat)) (fun q => (Y q : Rat)) q i j := by
  unfold lI
  rw [Rat.intCast_add, Rat.intCast_add, Rat.intCast_mul, Rat.intCast_mul, Rat.intCast_mul, gD_i, gD_i, gD_i, gT_i, gT_i, gT_i]
theorem r_pos {a : Int} : (0 : Rat) < (a : Rat) ↔ 0 < a := Rat.intCast_pos
theorem r_nn {a : Int} : (0 : Rat) ≤ (a : Rat) ↔ 0 ≤ a := Rat.intCast_nonneg
theorem r_le {a b : Int} : (a : Rat) ≤ (b : Rat) ↔ a ≤ b := Rat.intCast_le_intCast
def TP (X Y : Nat → Int) (o i j k : Nat) : Prop := (o.testBit i = true ∧ o.testBit j = true ∧ o.testBit k = true) ∧ tI X Y i j k ≠ 0 ∧ (0 < cI X Y i j k ∧ 0 < cI X Y j k i ∧ 0 < cI X Y k i j) ∧ ∀ q, o.testBit q = true → 0 ≤ tI X Y i j k * lI X Y i j k q
theorem cI_s (X Y : Nat → Int) (p a b : Nat) : cI X Y p a b = cI X Y p b a := by unfold cI; grind
theorem TP.rot {X Y : Nat → Int} {o i j k : Nat} (h : TP X Y o i j k) : TP X Y o j k i := by
  obtain ⟨⟨h1, h2, h3⟩, h4, ⟨h5, h6, h7⟩, h8⟩ := h
  have e : tI X Y j k i = tI X Y i j k := by unfold tI; grind
  refine ⟨⟨h2, h3, h1⟩, by rw [e]; exact h4, ⟨h6, h7, h5⟩, fun q hq => ?_⟩
  have e2 : lI X Y j k i q = lI X Y i j k q := by
    unfold lI
    omega
  rw [e, e2]
  exact h8 q hq
theorem TP.swp {X Y : Nat → Int} {o i j k : Nat} (h : TP X Y o i j k) : TP X Y o j i k := by
  obtain ⟨⟨h1, h2, h3⟩, h4, ⟨h5, h6, h7⟩, h8⟩ := h
  have et : ∀ a b c, tI X Y a b c = -tI X Y b a c := fun a b c => by unfold tI; grind
  have e2 : ∀ a b c, tI X Y a b c = -tI X Y a c b := fun a b c => by unfold tI; grind
  refine ⟨⟨h2, h1, h3⟩, by rw [et]; omega, ⟨by rw [cI_s]; exact h6, by rw [cI_s]; exact h5, by rw [cI_s]; exact h7⟩, fun q hq => ?_⟩
  have e3 : lI X Y j i k q = -lI X Y i j k q := by
    unfold lI
    rw [e2 q i k, e2 q k j, e2 q j i]
    grind
  rw [et j i k, e3, Int.neg_mul_neg]
  exact h8 q hq
theorem TP.srt {X Y : Nat → Int} {o i j k : Nat} (h : TP X Y o i j k) : ∃ a b c, a < b ∧ b < c ∧ TP X Y o a b c := by
  have ne : ∀ {i j k}, TP X Y o i j k → i ≠ j := fun {i j k} h e => h.2.1 (by
    rw [e]
    unfold tI
    grind)
  have n1 := ne h
  have n2 := ne h.rot
  have n3 := ne h.rot.rot
  rcases Nat.lt_or_gt_of_ne n1 with a | a
  · rcases Nat.lt_or_gt_of_ne n2 with b | b
    · exact ⟨i, j, k, a, b, h⟩
    · rcases Nat.lt_or_gt_of_ne n3 with c | c
      · exact ⟨k, i, j, c, a, h.rot.rot⟩
      · exact ⟨i, k, j, c, b, h.rot.rot.swp⟩
  · rcases Nat.lt_or_gt_of_ne n2 with b | b
    · rcases Nat.lt_or_gt_of_ne n3 with c | c
      · exact ⟨j, k, i, b, c, h.rot⟩
      · exact ⟨j, i, k, a, c, h.swp⟩
    · exact ⟨k, j, i, b, a, h.rot.swp⟩
theorem mec_i {X Y : Nat → Int} {o : Nat} (ho : o < 16777216) (h : ∃ i j, o.testBit i = true ∧ o.testBit j = true ∧ d2 X Y i j ≠ 0) :
    (∃ i j, i < j ∧ o.testBit i = true ∧ o.testBit j = true ∧ d2 X Y i j ≠ 0 ∧ ∀ q, o.testBit q = true → cI X Y q i j ≤ 0) ∨ ∃ i j k, i < j ∧ j < k ∧ TP X Y o i j k := by
  have mem : ∀ q, q ∈ (List.range 24).filter (fun q => o.testBit q) ↔ o.testBit q = true := fun q => by
    rw [List.mem_filter, List.mem_range]
    exact ⟨fun h => h.2, fun h => ⟨bit_lt ho h, h⟩⟩
  obtain ⟨i, j, hi, hj, hd⟩ := h
  obtain ⟨x, y, r, hB, hE⟩ := mec (U := fun q => (X q : Rat)) (V := fun q => (Y q : Rat)) (L := (List.range 24).filter (fun q => o.testBit q)) ⟨i, j, (mem i).mpr hi, (mem j).mpr hj, by
    rw [gD_i, r_pos]
    have := d2_nn X Y i j
    omega⟩
  rcases hB with ⟨i, j, h1, h2, h3, h4, h5, h6⟩ | ⟨i, j, k, h1, h2, h3, h4, h5, h6, h7, ei, ej, ek⟩
  · left
    have h1 := (mem i).mp h1
    have h2 := (mem j).mp h2
    rw [gD_i, r_pos] at h3
    have key : ∀ q, o.testBit q = true → cI X Y q i j ≤ 0 := fun q hq => by
      have hE := hE q ((mem q).mpr hq)
      have e : 4 * gE (fun q => (X q : Rat)) (fun q => (Y q : Rat)) x y q = gD (fun q => (X q : Rat)) (fun q => (Y q : Rat)) i j + 4 * gC (fun q => (X q : Rat)) (fun q => (Y q : Rat)) q i j := by
        unfold gE gD gC
        clear hE h6 h3
        dsimp only at h4 h5 ⊢
        generalize ((X i : Int) : Rat) = xi at *
        generalize ((X j : Int) : Rat) = xj at *
        generalize ((X q : Int) : Rat) = xq at *
        generalize ((Y i : Int) : Rat) = yi at *
        generalize ((Y j : Int) : Rat) = yj at *
        generalize ((Y q : Int) : Rat) = yq at *
        grind
      rw [← h6, gC_i] at e
      have : ((cI X Y q i j : Int) : Rat) ≤ ((0 : Int) : Rat) := by
        have z : ((0 : Int) : Rat) = 0 := rfl
        rw [z]
        grind
      exact r_le.mp this
    have ne : i ≠ j := fun e => by
      rw [e, d2_self] at h3
      omega
    rcases Nat.lt_or_gt_of_ne ne with a | a
    · exact ⟨i, j, a, h1, h2, by omega, key⟩
    · exact ⟨j, i, a, h2, h1, by rw [d2_sym]; omega, fun q hq => by rw [cI_s]; exact key q hq⟩
  · right
    have h1 := (mem i).mp h1
    have h2 := (mem j).mp h2
    have h3 := (mem k).mp h3
    obtain ⟨r0, e1⟩ := relE ei ej
    obtain ⟨-, e2⟩ := relE ei ek
    refine TP.srt (i := i) (j := j) (k := k) ⟨⟨h1, h2, h3⟩, fun e => h4 ?_, ⟨?_, ?_, ?_⟩, fun q hq => ?_⟩
    · rw [gT_i, e]
      rfl
    · rw [gC_i, r_pos] at h5
      exact h5
    · rw [gC_i, r_pos] at h6
      exact h6
    · rw [gC_i, r_pos] at h7
      exact h7
    · have hE := hE q ((mem q).mpr hq)
      rw [← r_nn, Rat.intCast_mul, lI_i, ← gT_i]
      have l := lift3 (px := (X q : Rat) - X i) (py := (Y q : Rat) - Y i) r0 e1 e2
      have el : gD (fun q => (X q : Rat)) (fun q => (Y q : Rat)) i q * gT (fun q => (X q : Rat)) (fun q => (Y q : Rat)) q j k + gD (fun q => (X q : Rat)) (fun q => (Y q : Rat)) j q * gT (fun q => (X q : Rat)) (fun q => (Y q : Rat)) q k i + gD (fun q => (X q : Rat)) (fun q => (Y q : Rat)) k q * gT (fun q => (X q : Rat)) (fun q => (Y q : Rat)) q i j = gT (fun q => (X q : Rat)) (fun q => (Y q : Rat)) i j k * (r - gE (fun q => (X q : Rat)) (fun q => (Y q : Rat)) x y q) := by
        unfold gD gT gE
        dsimp only at l ⊢
        clear e1 e2 r0 ei ej ek hE h5 h6 h7 h4
        rw [show (X q : Rat) - X i - (x - X i) = X q - x by grind, show (Y q : Rat) - Y i - (y - Y i) = Y q - y by grind] at l
        rw [← l]
        clear l
        generalize ((X i : Int) : Rat) = xi at *
        generalize ((X j : Int) : Rat) = xj at *
        generalize ((X k : Int) : Rat) = xk at *
        generalize ((X q : Int) : Rat) = xq at *
        generalize ((Y i : Int) : Rat) = yi at *
        generalize ((Y j : Int) : Rat) = yj at *
        generalize ((Y k : Int) : Rat) = yk at *
        generalize ((Y q : Int) : Rat) = yq at *
        grind
      rw [el]
      generalize gT (fun q => (X q : Rat)) (fun q => (Y q : Rat)) i j k = t at *
      generalize gE (fun q => (X q : Rat)) (fun q => (Y q : Rat)) x y q = e at *
      have := Rat.mul_nonneg (rsq t) (show 0 ≤ r - e by grind)
      grind
