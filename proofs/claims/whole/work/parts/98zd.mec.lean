/-! ===== the least circle of some places is there ===== -/
theorem val3 {ux uy vx vy mx my : Rat} (e1 : 2 * (mx * ux + my * uy) = ux * ux + uy * uy) (e2 : 2 * (mx * vx + my * vy) = vx * vx + vy * vy) :
    (mx * mx + my * my) * (4 * ((ux * vy - uy * vx) * (ux * vy - uy * vx))) = (ux * ux + uy * uy) * ((vx - ux) * (vx - ux) + (vy - uy) * (vy - uy)) * (vx * vx + vy * vy) := by
  have f1 : 2 * (ux * vy - uy * vx) * mx = (ux * ux + uy * uy) * vy - (vx * vx + vy * vy) * uy := by
    rw [← e1, ← e2]
    clear e1 e2
    grind
  have f2 : 2 * (ux * vy - uy * vx) * my = (vx * vx + vy * vy) * ux - (ux * ux + uy * uy) * vx := by
    rw [← e1, ← e2]
    clear e1 e2 f1
    grind
  have e : (mx * mx + my * my) * (4 * ((ux * vy - uy * vx) * (ux * vy - uy * vx))) = (2 * (ux * vy - uy * vx) * mx) * (2 * (ux * vy - uy * vx) * mx) + (2 * (ux * vy - uy * vx) * my) * (2 * (ux * vy - uy * vx) * my) := by
    clear e1 e2 f1 f2
    grind
  rw [e, f1, f2]
  clear e1 e2 f1 f2 e
  grind
/-- the same, of three in their places -/
theorem relE {U V : Nat → Rat} {x y r : Rat} {i j : Nat} (h1 : gE U V x y i = r) (h2 : gE U V x y j = r) : (x - U i) * (x - U i) + (y - V i) * (y - V i) = r ∧ 2 * ((x - U i) * (U j - U i) + (y - V i) * (V j - V i)) = (U j - U i) * (U j - U i) + (V j - V i) * (V j - V i) := by
  unfold gE at h1 h2
  generalize U i = a at *
  generalize U j = b at *
  generalize V i = c at *
  generalize V j = d at *
  constructor <;> grind
def gG (U V : Nat → Rat) (c : Nat × Nat × Nat) (r : Rat) : Prop := (c.2.2 = c.1 ∧ 4 * r = gD U V c.1 c.2.1) ∨ (gT U V c.1 c.2.1 c.2.2 ≠ 0 ∧ r * (4 * (gT U V c.1 c.2.1 c.2.2 * gT U V c.1 c.2.1 c.2.2)) = gD U V c.1 c.2.1 * gD U V c.2.1 c.2.2 * gD U V c.2.2 c.1)
theorem gG_u {U V : Nat → Rat} {c : Nat × Nat × Nat} {r s : Rat} (h : gG U V c r) (k : gG U V c s) : r = s := by
  obtain ⟨i, j, l⟩ := c
  have no : ∀ {l}, l = i → gT U V i j l ≠ 0 → False := fun e h => h (by
    rw [e]
    unfold gT
    grind)
  rcases h with ⟨h1, h2⟩ | ⟨h1, h2⟩ <;> rcases k with ⟨k1, k2⟩ | ⟨k1, k2⟩
  · grind
  · exact (no h1 k1).elim
  · exact (no k1 h1).elim
  · rw [← k2] at h2
    have h1 : gT U V i j l ≠ 0 := h1
    have h2 : r * (4 * (gT U V i j l * gT U V i j l)) = s * (4 * (gT U V i j l * gT U V i j l)) := h2
    generalize gT U V i j l = t at *
    have e : (r - s) * (t * t) = 0 := by grind
    rcases Rat.mul_eq_zero.mp e with q | q
    · grind
    · exact absurd ((Rat.mul_eq_zero.mp q).elim id id) h1
theorem Bas.g {U V : Nat → Rat} {P : Nat → Prop} {x y r : Rat} (h : Bas U V P x y r) : ∃ i j k, P i ∧ P j ∧ P k ∧ gG U V (i, j, k) r := by
  rcases h with ⟨i, j, h1, h2, h3, h4, h5, h6⟩ | ⟨i, j, k, h1, h2, h3, h4, h5, h6, h7, ei, ej, ek⟩
  · exact ⟨i, j, i, h1, h2, h1, Or.inl ⟨rfl, h6⟩⟩
  · refine ⟨i, j, k, h1, h2, h3, Or.inr ⟨h4, ?_⟩⟩
    obtain ⟨r0, e1⟩ := relE ei ej
    obtain ⟨-, e2⟩ := relE ei ek
    have v := val3 e1 e2
    rw [r0] at v
    show r * (4 * (gT U V i j k * gT U V i j k)) = gD U V i j * gD U V j k * gD U V k i
    have a1 : gD U V i j = (U j - U i) * (U j - U i) + (V j - V i) * (V j - V i) := by unfold gD; grind
    have a2 : gD U V j k = (U k - U i - (U j - U i)) * (U k - U i - (U j - U i)) + (V k - V i - (V j - V i)) * (V k - V i - (V j - V i)) := by unfold gD; grind
    have a3 : gD U V k i = (U k - U i) * (U k - U i) + (V k - V i) * (V k - V i) := by unfold gD; grind
    rw [a1, a2, a3]
    exact v
theorem finmax {α : Type} {G : α → Rat → Prop} (hu : ∀ c r s, G c r → G c s → r = s) : ∀ (L : List α) (R : Rat → Prop), (∀ r, R r → ∃ c, c ∈ L ∧ G c r) → (∃ r, R r) → ∃ r, R r ∧ ∀ s, R s → s ≤ r
  | [], R, h, ⟨r, hr⟩ => by
    obtain ⟨c, hc, -⟩ := h r hr
    cases hc
  | c :: L, R, h, ⟨r, hr⟩ => by
    by_cases h2 : ∃ s, R s ∧ ¬ G c s
    · obtain ⟨m, ⟨m1, m2⟩, m3⟩ := finmax hu L (fun s => R s ∧ ¬ G c s) (fun s ⟨s1, s2⟩ => by
        obtain ⟨d, d1, d2⟩ := h s s1
        rcases List.mem_cons.1 d1 with e | e
        · rw [e] at d2
          exact absurd d2 s2
        · exact ⟨d, e, d2⟩) h2
      by_cases h3 : ∃ s, R s ∧ G c s ∧ m ≤ s
      · obtain ⟨s, s1, s2, s3⟩ := h3
        refine ⟨s, s1, fun t ht => ?_⟩
        by_cases q : G c t
        · rw [hu c t s q s2]
          exact Rat.le_refl
        · have := m3 t ⟨ht, q⟩
          grind
      · refine ⟨m, m1, fun t ht => ?_⟩
        by_cases q : G c t
        · refine Classical.byContradiction fun hn => h3 ⟨t, ht, q, by grind⟩
        · exact m3 t ⟨ht, q⟩
    · refine ⟨r, hr, fun t ht => ?_⟩
      have q : ∀ s, R s → G c s := fun s hs => Classical.byContradiction fun hn => h2 ⟨s, hs, hn⟩
      rw [hu c t r (q t ht) (q r hr)]
      exact Rat.le_refl
theorem T_D {U V : Nat → Rat} {i j k : Nat} (h : gT U V i j k ≠ 0) : 0 < gD U V i j ∧ 0 < gD U V j k ∧ 0 < gD U V k i := by
  have no : ∀ a b, (U a = U b → V a = V b → gT U V i j k = 0) → 0 < gD U V a b := fun a b hz => Classical.byContradiction fun hn => h (by
    unfold gD at hn
    obtain ⟨z1, z2⟩ := rz2 (x := U a - U b) (y := V a - V b) (by grind)
    exact hz (by grind) (by grind))
  refine ⟨no i j fun h1 h2 => ?_, no j k fun h1 h2 => ?_, no k i fun h1 h2 => ?_⟩
  · unfold gT
    rw [h1, h2]
    grind
  · unfold gT
    rw [h1, h2]
    grind
  · unfold gT
    rw [h1, h2]
    grind
theorem mec {U V : Nat → Rat} {L : List Nat} (h : ∃ i j, i ∈ L ∧ j ∈ L ∧ 0 < gD U V i j) : ∃ x y r, Bas U V (fun q => q ∈ L) x y r ∧ ∀ q, q ∈ L → gE U V x y q ≤ r := by
  obtain ⟨i0, j0, hi0, hj0, h0⟩ := h
  obtain ⟨x0, y0, r0, B0, -⟩ := t3 (s := i0) h0
  have B0 : Bas U V (fun q => q ∈ L) x0 y0 r0 := B0.sub fun q hq => by
    rcases hq with e | e | e <;> rw [e]
    · exact hi0
    · exact hj0
    · exact hi0
  obtain ⟨r, ⟨x, y, hB⟩, hm⟩ := finmax (G := gG U V) (fun c r s => gG_u) (L.flatMap fun i => L.flatMap fun j => L.map fun k => (i, j, k)) (fun r => ∃ x y, Bas U V (fun q => q ∈ L) x y r) (fun r ⟨x, y, hB⟩ => by
    obtain ⟨i, j, k, h1, h2, h3, h4⟩ := hB.g
    exact ⟨(i, j, k), List.mem_flatMap.mpr ⟨i, h1, List.mem_flatMap.mpr ⟨j, h2, List.mem_map.mpr ⟨k, h3, rfl⟩⟩⟩, h4⟩) ⟨r0, x0, y0, B0⟩
  refine ⟨x, y, r, hB, fun s hs => Classical.byContradiction fun hn => ?_⟩
  have ho : r < gE U V x y s := by grind
  have fin : ∀ a b, a ∈ L → b ∈ L → 0 < gD U V a b → (∀ x' y' r', gE U V x' y' a ≤ r' → gE U V x' y' b ≤ r' → gE U V x' y' s ≤ r' → r < r') → False := fun a b ha hb hd imp => by
    obtain ⟨x', y', r', B', k1, k2, k3⟩ := t3 (s := s) hd
    have := hm r' ⟨x', y', B'.sub fun q hq => by
      rcases hq with e | e | e <;> rw [e]
      · exact ha
      · exact hb
      · exact hs⟩
    have := imp x' y' r' k1 k2 k3
    grind
  rcases hB with ⟨i, j, h1, h2, h3, h4, h5, h6⟩ | ⟨i, j, k, h1, h2, h3, h4, h5, h6, h7, ei, ej, ek⟩
  · exact fin i j h1 h2 h3 fun x' y' r' k1 k2 k3 => imp2 h4 h5 h6 k1 k2 k3 ho
  · obtain ⟨d1, d2_, d3⟩ := T_D h4
    obtain ⟨r0, e1⟩ := relE ei ej
    obtain ⟨-, e2⟩ := relE ei ek
    have c1 : 0 < (U j - U i) * (U j - U i) + (V j - V i) * (V j - V i) - ((U j - U i) * (U k - U i) + (V j - V i) * (V k - V i)) := by
      unfold gC at h6
      clear e1 e2 r0 ei ej ek d1 d2_ d3 h4 h5 h7 fin ho hn hm
      grind
    have c2 : 0 < (U k - U i) * (U k - U i) + (V k - V i) * (V k - V i) - ((U j - U i) * (U k - U i) + (V j - V i) * (V k - V i)) := by
      unfold gC at h7
      clear e1 e2 r0 ei ej ek d1 d2_ d3 h4 h5 h6 fin ho hn hm c1
      grind
    have rel : ∀ q x' y' r', gE U V x' y' q ≤ r' → inC (x' - U i) (y' - V i) r' (U q - U i) (V q - V i) := fun q x' y' r' hq => by
      unfold gE at hq
      show (U q - U i - (x' - U i)) * (U q - U i - (x' - U i)) + (V q - V i - (y' - V i)) * (V q - V i - (y' - V i)) ≤ r'
      rw [show U q - U i - (x' - U i) = U q - x' by grind, show V q - V i - (y' - V i) = V q - y' by grind]
      exact hq
    have rel0 : ∀ x' y' r', gE U V x' y' i ≤ r' → inC (x' - U i) (y' - V i) r' 0 0 := fun x' y' r' hq => by
      have := rel i x' y' r' hq
      rw [show U i - U i = 0 by grind, show V i - V i = 0 by grind] at this
      exact this
    have ho2 : r < (U s - U i - (x - U i)) * (U s - U i - (x - U i)) + (V s - V i - (y - V i)) * (V s - V i - (y - V i)) := by
      rw [show U s - U i - (x - U i) = U s - x by grind, show V s - V i - (y - V i) = V s - y by grind]
      exact ho
    rcases imp3R (px := U s - U i) (py := V s - V i) h5 c1 c2 r0 e1 e2 ho2 with q | q | q
    · exact fin i j h1 h2 d1 fun x' y' r' k1 k2 k3 => q _ _ r' (rel0 _ _ _ k1) (rel j _ _ _ k2) (rel s _ _ _ k3)
    · exact fin j k h2 h3 d2_ fun x' y' r' k1 k2 k3 => q _ _ r' (rel j _ _ _ k1) (rel k _ _ _ k2) (rel s _ _ _ k3)
    · exact fin k i h3 h1 d3 fun x' y' r' k1 k2 k3 => q _ _ r' (rel k _ _ _ k1) (rel0 _ _ _ k2) (rel s _ _ _ k3)
