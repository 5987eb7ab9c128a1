/-! ===== the least circle of some places ===== -/
theorem baryR {ux uy vx vy mx my : Rat} (e1 : 2 * (mx * ux + my * uy) = ux * ux + uy * uy) (e2 : 2 * (mx * vx + my * vy) = vx * vx + vy * vy) :
    (((vx - ux) * (vx - ux) + (vy - uy) * (vy - uy)) * (ux * vx + uy * vy) + (vx * vx + vy * vy) * (ux * ux + uy * uy - (ux * vx + uy * vy)) + (ux * ux + uy * uy) * (vx * vx + vy * vy - (ux * vx + uy * vy))) * mx = (vx * vx + vy * vy) * (ux * ux + uy * uy - (ux * vx + uy * vy)) * ux + (ux * ux + uy * uy) * (vx * vx + vy * vy - (ux * vx + uy * vy)) * vx ∧
    (((vx - ux) * (vx - ux) + (vy - uy) * (vy - uy)) * (ux * vx + uy * vy) + (vx * vx + vy * vy) * (ux * ux + uy * uy - (ux * vx + uy * vy)) + (ux * ux + uy * uy) * (vx * vx + vy * vy - (ux * vx + uy * vy))) * my = (vx * vx + vy * vy) * (ux * ux + uy * uy - (ux * vx + uy * vy)) * uy + (ux * ux + uy * uy) * (vx * vx + vy * vy - (ux * vx + uy * vy)) * vy := by
  have w : ((vx - ux) * (vx - ux) + (vy - uy) * (vy - uy)) * (ux * vx + uy * vy) + (vx * vx + vy * vy) * (ux * ux + uy * uy - (ux * vx + uy * vy)) + (ux * ux + uy * uy) * (vx * vx + vy * vy - (ux * vx + uy * vy)) = 2 * ((ux * vy - uy * vx) * (ux * vy - uy * vx)) := by
    clear e1 e2
    grind
  have f1 : 2 * (ux * vy - uy * vx) * mx = (ux * ux + uy * uy) * vy - (vx * vx + vy * vy) * uy := by
    rw [← e1, ← e2]
    clear e1 e2 w
    grind
  have f2 : 2 * (ux * vy - uy * vx) * my = (vx * vx + vy * vy) * ux - (ux * ux + uy * uy) * vx := by
    rw [← e1, ← e2]
    clear e1 e2 w f1
    grind
  rw [w]
  constructor
  · have : 2 * ((ux * vy - uy * vx) * (ux * vy - uy * vx)) * mx = (ux * vy - uy * vx) * (2 * (ux * vy - uy * vx) * mx) := by
      clear e1 e2 w f1 f2
      grind
    rw [this, f1]
    clear e1 e2 w f1 f2 this
    grind
  · have : 2 * ((ux * vy - uy * vx) * (ux * vy - uy * vx)) * my = (ux * vy - uy * vx) * (2 * (ux * vy - uy * vx) * my) := by
      clear e1 e2 w f1 f2
      grind
    rw [this, f2]
    clear e1 e2 w f1 f2 this
    grind
abbrev inC (x y r px py : Rat) : Prop := (px - x) * (px - x) + (py - y) * (py - y) ≤ r
theorem imp3R {ux uy vx vy px py mx my g : Rat} (d0 : 0 < ux * vx + uy * vy) (d1 : 0 < ux * ux + uy * uy - (ux * vx + uy * vy)) (d2_ : 0 < vx * vx + vy * vy - (ux * vx + uy * vy)) (g0 : mx * mx + my * my = g) (e1 : 2 * (mx * ux + my * uy) = ux * ux + uy * uy) (e2 : 2 * (mx * vx + my * vy) = vx * vx + vy * vy) (ho : g < (px - mx) * (px - mx) + (py - my) * (py - my)) :
    (∀ x y r : Rat, inC x y r 0 0 → inC x y r ux uy → inC x y r px py → g < r) ∨ (∀ x y r : Rat, inC x y r ux uy → inC x y r vx vy → inC x y r px py → g < r) ∨ ∀ x y r : Rat, inC x y r vx vy → inC x y r 0 0 → inC x y r px py → g < r := by
  have hT := sharpT d0 d1 d2_
  obtain ⟨b1, b2⟩ := baryR e1 e2
  have ga : (0 - mx) * (0 - mx) + (0 - my) * (0 - my) = g := by grind
  have gb : (ux - mx) * (ux - mx) + (uy - my) * (uy - my) = g := by grind
  have gc : (vx - mx) * (vx - mx) + (vy - my) * (vy - my) = g := by grind
  have D0 : 0 < (vx - ux) * (vx - ux) + (vy - uy) * (vy - uy) := by grind
  have wa := Rat.mul_pos D0 d0
  have wb := Rat.mul_pos (show 0 < vx * vx + vy * vy by grind) d1
  have wc := Rat.mul_pos (show 0 < ux * ux + uy * uy by grind) d2_
  have hS : 0 < (ux * vy - uy * vx) * (ux * vy - uy * vx) := by
    have h1 := rsq (ux * vy - uy * vx)
    refine Classical.byContradiction fun hn => hT ?_
    have : (ux * vy - uy * vx) * (ux * vy - uy * vx) = 0 := by grind
    exact (Rat.mul_eq_zero.mp this).elim id id
  obtain ⟨tb, htb⟩ : ∃ tb, tb = (ux * vy - uy * vx) * (px * vy - py * vx) := ⟨_, rfl⟩
  obtain ⟨tc, htc⟩ : ∃ tc, tc = (ux * vy - uy * vx) * (ux * py - uy * px) := ⟨_, rfl⟩
  obtain ⟨ta, hta⟩ : ∃ ta, ta = (ux * vy - uy * vx) * (ux * vy - uy * vx) - tb - tc := ⟨_, rfl⟩
  have hsum : ta + tb + tc = (ux * vy - uy * vx) * (ux * vy - uy * vx) := by grind
  have k1 : (ta + tb + tc) * px = tb * ux + tc * vx := by
    rw [hsum, htb, htc]
    clear hsum htb htc hta hT D0 e1 e2 g0 d0 d1 d2_ b1 b2 ga gb gc wa wb wc hS ho
    grind
  have k2 : (ta + tb + tc) * py = tb * uy + tc * vy := by
    rw [hsum, htb, htc]
    clear hsum htb htc hta hT D0 e1 e2 g0 d0 d1 d2_ b1 b2 ga gb gc wa wb wc hS ho k1
    grind
  rw [← hsum] at hS
  clear hsum htb htc hta hT D0 e1 e2 g0 d0 d1 d2_
  generalize ((vx - ux) * (vx - ux) + (vy - uy) * (vy - uy)) * (ux * vx + uy * vy) = Wa at *
  generalize (vx * vx + vy * vy) * (ux * ux + uy * uy - (ux * vx + uy * vy)) = Wb at *
  generalize (ux * ux + uy * uy) * (vx * vx + vy * vy - (ux * vx + uy * vy)) = Wc at *
  rcases arg3 (ta := ta) (tb := tb) (tc := tc) wa wb wc with ⟨q1, q2⟩ | ⟨q1, q2⟩ | ⟨q1, q2⟩
  · left
    intro x y r h1 h2 h3
    exact drop3 (ax := 0) (ay := 0) (bx := ux) (bz := uy) (cx := vx) (cy := vy) (sx := px) (sy := py) (ox := mx) (oy := my) (mx := x) (my := y) (wa := Wa) (wb := Wb) (wc := Wc) (ta := ta) (tb := tb) (tc := tc) (by rw [b1]; grind) (by rw [b2]; grind) (by rw [k1]; grind) (by rw [k2]; grind) hS wc q1 q2 ga gb ho h1 h2 h3
  · right
    left
    intro x y r h1 h2 h3
    exact drop3 (ax := ux) (ay := uy) (bx := vx) (bz := vy) (cx := 0) (cy := 0) (sx := px) (sy := py) (ox := mx) (oy := my) (mx := x) (my := y) (wa := Wb) (wb := Wc) (wc := Wa) (ta := tb) (tb := tc) (tc := ta) (by grind) (by grind) (by grind) (by grind) (by grind) wa q1 q2 gb gc ho h1 h2 h3
  · right
    right
    intro x y r h1 h2 h3
    exact drop3 (ax := vx) (ay := vy) (bx := 0) (bz := 0) (cx := ux) (cy := uy) (sx := px) (sy := py) (ox := mx) (oy := my) (mx := x) (my := y) (wa := Wc) (wb := Wa) (wc := Wb) (ta := tc) (tb := ta) (tc := tb) (by grind) (by grind) (by grind) (by grind) (by grind) wb q1 q2 gc ga ho h1 h2 h3
def gD (U V : Nat → Rat) (i j : Nat) : Rat := (U i - U j) * (U i - U j) + (V i - V j) * (V i - V j)
def gC (U V : Nat → Rat) (i j k : Nat) : Rat := (U j - U i) * (U k - U i) + (V j - V i) * (V k - V i)
def gT (U V : Nat → Rat) (i j k : Nat) : Rat := (U j - U i) * (V k - V i) - (V j - V i) * (U k - U i)
def gE (U V : Nat → Rat) (x y : Rat) (q : Nat) : Rat := (U q - x) * (U q - x) + (V q - y) * (V q - y)
def Bas (U V : Nat → Rat) (P : Nat → Prop) (x y r : Rat) : Prop := (∃ i j, P i ∧ P j ∧ 0 < gD U V i j ∧ 2 * x = U i + U j ∧ 2 * y = V i + V j ∧ 4 * r = gD U V i j) ∨ ∃ i j k, P i ∧ P j ∧ P k ∧ gT U V i j k ≠ 0 ∧ 0 < gC U V i j k ∧ 0 < gC U V j k i ∧ 0 < gC U V k i j ∧ gE U V x y i = r ∧ gE U V x y j = r ∧ gE U V x y k = r
theorem Bas.sub {U V : Nat → Rat} {P Q : Nat → Prop} {x y r : Rat} (h : Bas U V P x y r) (s : ∀ q, P q → Q q) : Bas U V Q x y r := by
  rcases h with ⟨i, j, h1, h2, h3⟩ | ⟨i, j, k, h1, h2, h3, h4⟩
  · exact Or.inl ⟨i, j, s i h1, s j h2, h3⟩
  · exact Or.inr ⟨i, j, k, s i h1, s j h2, s k h3, h4⟩
theorem two3 {U V : Nat → Rat} {i j s : Nat} (h : 0 < gD U V i j) (hc : gC U V s i j ≤ 0) : ∃ x y r, (2 * x = U i + U j ∧ 2 * y = V i + V j ∧ 4 * r = gD U V i j) ∧ gE U V x y i ≤ r ∧ gE U V x y j ≤ r ∧ gE U V x y s ≤ r := by
  refine ⟨(U i + U j) / 2, (V i + V j) / 2, gD U V i j / 4, ⟨by grind, by grind, by grind⟩, ?_, ?_, ?_⟩
  · unfold gE gD
    generalize U i = a at *
    generalize U j = b at *
    generalize V i = c at *
    generalize V j = d at *
    grind
  · unfold gE gD
    generalize U i = a at *
    generalize U j = b at *
    generalize V i = c at *
    generalize V j = d at *
    grind
  · unfold gE
    unfold gC at hc
    unfold gD
    generalize U i = a at *
    generalize U j = b at *
    generalize V i = c at *
    generalize V j = d at *
    generalize U s = e at *
    generalize V s = f at *
    grind
theorem t3 {U V : Nat → Rat} {a b s : Nat} (h : 0 < gD U V a b) : ∃ x y r, Bas U V (fun q => q = a ∨ q = b ∨ q = s) x y r ∧ gE U V x y a ≤ r ∧ gE U V x y b ≤ r ∧ gE U V x y s ≤ r := by
  by_cases c1 : gC U V s a b ≤ 0
  · obtain ⟨x, y, r, k, k1, k2, k3⟩ := two3 h c1
    exact ⟨x, y, r, Or.inl ⟨a, b, Or.inl rfl, Or.inr (Or.inl rfl), h, k⟩, k1, k2, k3⟩
  · by_cases c2 : gC U V a b s ≤ 0
    · have h2 : 0 < gD U V b s := by
        have e : gD U V b s = gD U V a b + gD U V a s - 2 * gC U V a b s := by
          unfold gD gC
          grind
        have : 0 ≤ gD U V a s := by
          unfold gD
          have := rsq (U a - U s)
          have := rsq (V a - V s)
          grind
        grind
      obtain ⟨x, y, r, k, k1, k2, k3⟩ := two3 h2 c2
      exact ⟨x, y, r, Or.inl ⟨b, s, Or.inr (Or.inl rfl), Or.inr (Or.inr rfl), h2, k⟩, k3, k1, k2⟩
    · by_cases c3 : gC U V b s a ≤ 0
      · have h2 : 0 < gD U V s a := by
          have e : gD U V s a = gD U V a b + gD U V b s - 2 * gC U V b s a := by
            unfold gD gC
            grind
          have : 0 ≤ gD U V b s := by
            unfold gD
            have := rsq (U b - U s)
            have := rsq (V b - V s)
            grind
          grind
        obtain ⟨x, y, r, k, k1, k2, k3⟩ := two3 h2 c3
        exact ⟨x, y, r, Or.inl ⟨s, a, Or.inr (Or.inr rfl), Or.inl rfl, h2, k⟩, k2, k3, k1⟩
      · have q1 : 0 < gC U V s a b := by grind
        have q2 : 0 < gC U V a b s := by grind
        have q3 : 0 < gC U V b s a := by grind
        have hT : gT U V a b s ≠ 0 := by
          unfold gC at q1 q2 q3
          unfold gT
          exact sharpT (ux := U b - U a) (uy := V b - V a) (vx := U s - U a) (vy := V s - V a) q2 (by grind) (by grind)
        obtain ⟨mx, my, e1, e2⟩ := mid3 (ux := U b - U a) (uy := V b - V a) (vx := U s - U a) (vy := V s - V a) hT
        have ea : gE U V (U a + mx) (V a + my) a = mx * mx + my * my := by unfold gE; grind
        have eb : gE U V (U a + mx) (V a + my) b = mx * mx + my * my := by
          unfold gE
          clear q1 q2 q3 hT c1 c2 c3 h ea
          clear e2
          generalize U a = xa at *
          generalize U b = xb at *
          generalize V a = ya at *
          generalize V b = yb at *
          grind
        have es : gE U V (U a + mx) (V a + my) s = mx * mx + my * my := by
          unfold gE
          clear q1 q2 q3 hT c1 c2 c3 h ea eb
          clear e1
          generalize U a = xa at *
          generalize U s = xb at *
          generalize V a = ya at *
          generalize V s = yb at *
          grind
        refine ⟨U a + mx, V a + my, mx * mx + my * my, Or.inr ⟨a, b, s, Or.inl rfl, Or.inr (Or.inl rfl), Or.inr (Or.inr rfl), hT, q2, q3, q1, ea, eb, es⟩, ?_, ?_, ?_⟩
        · rw [ea]
          exact Rat.le_refl
        · rw [eb]
          exact Rat.le_refl
        · rw [es]
          exact Rat.le_refl
