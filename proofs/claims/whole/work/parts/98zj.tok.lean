/-! ===== pure level: text, bytes and words ===== -/
def isBl (b : Int) : Prop := b = 10 ∨ b = 32
def isSm (b : Int) : Prop := 97 ≤ b ∧ b ≤ 122
def isDg (b : Int) : Prop := 48 ≤ b ∧ b ≤ 57
def Adv (P : Int → Prop) (B : Nat → Int) (n p e : Nat) : Prop := p ≤ e ∧ e ≤ n ∧ (∀ j, p ≤ j → j < e → P (B j)) ∧ (e < n → ¬ P (B e))
theorem Adv_ex {P : Int → Prop} {B : Nat → Int} {n : Nat} : ∀ r p, p + r = n → ∃ e, Adv P B n p e
  | 0, p, h => ⟨p, Nat.le_refl _, by omega, fun j h1 h2 => by omega, fun h1 => by omega⟩
  | r + 1, p, h => by
    by_cases c : P (B p)
    · obtain ⟨e, h1, h2, h3, h4⟩ := Adv_ex (P := P) (B := B) (n := n) r (p + 1) (by omega)
      refine ⟨e, by omega, h2, fun j q1 q2 => ?_, h4⟩
      rcases Nat.lt_or_ge p j with k | k
      · exact h3 j (by omega) q2
      · rw [show j = p by omega]
        exact c
    · exact ⟨p, Nat.le_refl _, by omega, fun j h1 h2 => by omega, fun _ => c⟩
theorem Adv.ex {P : Int → Prop} {B : Nat → Int} {n p : Nat} (h : p ≤ n) : ∃ e, Adv P B n p e := Adv_ex (n - p) p (by omega)
theorem Adv.u {P : Int → Prop} {B : Nat → Int} {n p e f : Nat} (h : Adv P B n p e) (k : Adv P B n p f) : e = f := by
  obtain ⟨h1, h2, h3, h4⟩ := h
  obtain ⟨k1, k2, k3, k4⟩ := k
  rcases Nat.lt_trichotomy e f with r | r | r
  · exact absurd (k3 e h1 r) (h4 (by omega))
  · exact r
  · exact absurd (h3 f k1 r) (k4 (by omega))
/-- a loop that goes on while a byte is of a kind -/
theorem adv_g {α : Type} {G : Nat → Sg → Option α} {kc jc : Nat} {P : Int → Prop} {B : Nat → Int} {n : Nat} {OK : Sg → Prop} {res : Sg → Option α}
    (hs : ∀ m z p, OK z → z kc jc = ((p : Nat) : Int) → p < n → P (B p) → G (m + 1) z = G m (up z kc jc ((p : Int) + 1)))
    (hx : ∀ m z p, OK z → z kc jc = ((p : Nat) : Int) → p ≤ n → (p < n → ¬ P (B p)) → G (m + 1) z = res z)
    (hok : ∀ z v, OK z → OK (up z kc jc v)) : ∀ r p e z m, p + r = e → Adv P B n p e → OK z → z kc jc = ((p : Nat) : Int) → r < m → G m z = res (up z kc jc (e : Int)) := by
  intro r
  induction r with
  | zero =>
    intro p e z m hr hA hz hp hm
    obtain ⟨m, rfl⟩ : ∃ q, m = q + 1 := ⟨m - 1, by omega⟩
    have : p = e := by omega
    subst this
    rw [hx m z p hz hp hA.2.1 hA.2.2.2]
    congr 1
    funext k j
    by_cases hk : k = kc
    · subst hk
      by_cases hj : j = jc
      · subst hj
        rw [up_s, hp]
      · rw [up_j hj]
    · rw [up_k hk]
  | succ r ih =>
    intro p e z m hr hA hz hp hm
    obtain ⟨m, rfl⟩ : ∃ q, m = q + 1 := ⟨m - 1, by omega⟩
    obtain ⟨h1, h2, h3, h4⟩ := hA
    rw [hs m z p hz hp (by omega) (h3 p (Nat.le_refl _) (by omega)), ih (p + 1) e (up z kc jc ((p : Int) + 1)) m (by omega) ⟨by omega, h2, fun j q1 q2 => h3 j (by omega) q2, h4⟩ (hok z _ hz) up_s (by omega), up_up]
/-- the bytes -/
def ByP (b : Nat → Int) : Prop := ∀ j, j < 900 → 0 ≤ b j ∧ b j ≤ 255
theorem dAt_n {z : Sg} {j : Nat} (hj : j < 900) : f_X6_at (j : Int) z = some (z 2 j) := by
  unfold f_X6_at
  rw [w32_n (by omega), if_neg (by omega), if_pos (show (j : Int) < 900 by omega), ck_t (by omega), ntn]
def DOk (B : Nat → Int) (n : Nat) (z : Sg) : Prop := z 3 3 = (n : Int) ∧ ∀ j, j < 900 → z 2 j = B j
theorem DOk.up4 {B : Nat → Int} {n : Nat} {z : Sg} {v : Int} (h : DOk B n z) : DOk B n (up z 3 4 v) := ⟨by rw [up_j (by decide)]; exact h.1, fun j hj => by rw [up_k (by decide)]; exact h.2 j hj⟩
theorem dSkip_n {z : Sg} {B : Nat → Int} {n p e : Nat} (hn : n ≤ 900) (hB : ByP B) (hz : DOk B n z) (hp : z 3 4 = (p : Int)) (hA : Adv isBl B n p e) : f_X4_skipBlanks z = some (up z 3 4 (e : Int)) := by
  unfold f_X4_skipBlanks
  refine adv_g (G := f_X4_skipBlanks_b0) (kc := 3) (jc := 4) (P := isBl) (B := B) (n := n) (OK := DOk B n) (res := fun z => some z) ?_ ?_ (fun z v h => h.up4) (e - p) p e z FUEL (by have := hA.1; omega) hA hz hp (fuel_lt (by have := hA.2.1; omega))
  · intro m z p hz hp hpn hP
    have hb := hB p (by omega)
    rw [f_X4_skipBlanks_b0, hp, hz.1, w32_n (by omega), w32_n (by omega), if_pos (show (p : Int) < (n : Int) by omega), dAt_n (by omega), Option.bind_some, hz.2 p (by omega), w32_eq (z := B p) ⟨by omega, by omega⟩]
    unfold f_X4_skipBlanks_b43 wr
    rw [hp]
    rcases hP with h | h
    · rw [if_pos h]
    · rw [if_neg (by omega), Option.bind_some, w32_eq (z := B p) ⟨by omega, by omega⟩, if_pos h]
  · intro m z p hz hp hpn hP
    rw [f_X4_skipBlanks_b0, hp, hz.1, w32_n (by omega), w32_n (by omega)]
    by_cases c : p < n
    · have hb := hB p (by omega)
      have hP := hP c
      unfold isBl at hP
      rw [if_pos (show (p : Int) < (n : Int) by omega), dAt_n (by omega), Option.bind_some, hz.2 p (by omega), w32_eq (z := B p) ⟨by omega, by omega⟩, if_neg (by omega), Option.bind_some, w32_eq (z := B p) ⟨by omega, by omega⟩, if_neg (by omega)]
    · rw [if_neg (show ¬ (p : Int) < (n : Int) by omega)]
theorem dPass_n {z : Sg} {B : Nat → Int} {n p e : Nat} (hn : n ≤ 900) (hB : ByP B) (hz : DOk B n z) (hp : z 3 4 = (p : Int)) (hA : Adv isSm B n p e) : f_X4_passWord z = some (up z 3 4 (e : Int)) := by
  unfold f_X4_passWord
  refine adv_g (G := f_X4_passWord_b0) (kc := 3) (jc := 4) (P := isSm) (B := B) (n := n) (OK := DOk B n) (res := fun z => some z) ?_ ?_ (fun z v h => h.up4) (e - p) p e z FUEL (by have := hA.1; omega) hA hz hp (fuel_lt (by have := hA.2.1; omega))
  · intro m z p hz hp hpn hP
    have hb := hB p (by omega)
    unfold isSm at hP
    rw [f_X4_passWord_b0, hp, hz.1, w32_n (by omega), w32_n (by omega), if_pos (show (p : Int) < (n : Int) by omega), dAt_n (by omega), Option.bind_some, hz.2 p (by omega), w32_eq (z := B p) ⟨by omega, by omega⟩, if_neg (by omega), Option.bind_some, w32_eq (z := B p) ⟨by omega, by omega⟩, if_pos (by omega)]
    unfold wr
    rfl
  · intro m z p hz hp hpn hP
    rw [f_X4_passWord_b0, hp, hz.1, w32_n (by omega), w32_n (by omega)]
    by_cases c : p < n
    · have hb := hB p (by omega)
      have hP := hP c
      unfold isSm at hP
      rw [if_pos (show (p : Int) < (n : Int) by omega), dAt_n (by omega), Option.bind_some, hz.2 p (by omega), w32_eq (z := B p) ⟨by omega, by omega⟩]
      by_cases c2 : B p < 97
      · rw [if_pos c2]
      · rw [if_neg c2, Option.bind_some, w32_eq (z := B p) ⟨by omega, by omega⟩, if_neg (by omega)]
    · rw [if_neg (show ¬ (p : Int) < (n : Int) by omega)]
/-- the words -/
def wPol (i : Nat) : Int := [112, 111, 108, 105, 99, 121].getD i 0
def wTre (i : Nat) : Int := [116, 114, 101, 97, 116, 121].getD i 0
def Sp (w : Nat → Int) (B : Nat → Int) (p e : Nat) : Prop := e = p + 6 ∧ ∀ i, i < 6 → B (p + i) = w i
theorem ch_s0 (σ : Sg) : ∀ i : Nat, i < 6 → f_J0_charAt_5068e_s0 (i : Int) σ = some (wPol i) := fun i hi => by
  have h : ∀ i : Nat, i < 6 → f_J0_charAt_5068e_s0 (i : Int) sg0 = some (wPol i) := by decide +kernel
  exact h i hi
theorem ch_s1 (σ : Sg) : ∀ i : Nat, i < 6 → f_J0_charAt_5068e_s1 (i : Int) σ = some (wTre i) := fun i hi => by
  have h : ∀ i : Nat, i < 6 → f_J0_charAt_5068e_s1 (i : Int) sg0 = some (wTre i) := by decide +kernel
  exact h i hi
theorem ch_s2 (σ : Sg) : ∀ i : Nat, i < 6 → f_J0_charAt_5068e_s2 (i : Int) σ = some (wPol i) ∧ f_J0_charAt_5068e_s2 ((7 + i : Nat) : Int) σ = some (wTre i) := fun i hi => by
  have h : ∀ i : Nat, i < 6 → f_J0_charAt_5068e_s2 (i : Int) sg0 = some (wPol i) ∧ f_J0_charAt_5068e_s2 ((7 + i : Nat) : Int) sg0 = some (wTre i) := by decide +kernel
  exact h i hi
theorem ch_b (σ : Sg) : f_J0_charAt_5068e_s2 6 σ = some 32 ∧ f_J0_charAt_5068e_s2 13 σ = some 32 := by
  have h : f_J0_charAt_5068e_s2 6 sg0 = some 32 ∧ f_J0_charAt_5068e_s2 13 sg0 = some 32 := by decide +kernel
  exact h
theorem w_in : ∀ i : Nat, i < 6 → (97 ≤ wPol i ∧ wPol i ≤ 122) ∧ (97 ≤ wTre i ∧ wTre i ≤ 122) := by decide
theorem len6 : w32 6 >>> (u32 0 % 32) = 6 := by decide +kernel
theorem len14 : w32 14 >>> (u32 0 % 32) = 14 := by decide +kernel
theorem dSpell0_n {z : Sg} {B : Nat → Int} {p e : Nat} (hB : ByP B) (hz : ∀ j, j < 900 → z 2 j = B j) (he : z 3 4 = (e : Int)) (hpe : p ≤ e) (h9 : e ≤ 900) : ∃ r, f_X4_spells_s0 (p : Int) z = some r ∧ yn r (Sp wPol B p e) := by
  unfold f_X4_spells_s0 f_J0_length_8abf5_s0 f_J0_coder_7d493_s0
  rw [Option.bind_some, Option.bind_some, len6, he, w32_eq (z := (e : Int) - p) ⟨by omega, by omega⟩, show w32 6 = 6 by decide]
  by_cases c : (e : Int) - p = 6
  · rw [if_pos c]
    refine loop_P (F := fun m i (_ : Unit) => f_X4_spells_s0_b17 z m (p : Int) i) 6 (fun i _ => ∀ j, j < i → B (p + j) = wPol j) (P := fun x => ∃ r, x = some r ∧ yn r (Sp wPol B p e)) (by decide) ?_ ?_ 0 (by decide) () (fun j hj => by omega)
    · intro m i _ hi hI
      have hb := hB (p + i) (by omega)
      have hw := (w_in i hi).1
      rw [f_X4_spells_s0_b17]
      unfold f_J0_length_8abf5_s0 f_J0_coder_7d493_s0
      rw [Option.bind_some, Option.bind_some, len6, w32_n (by omega), show w32 6 = 6 by decide, if_pos (show (i : Int) < 6 by omega), show (p : Int) + (i : Int) = ((p + i : Nat) : Int) by omega, dAt_n (by omega), Option.bind_some, ch_s0 z i hi, Option.bind_some, hz (p + i) (by omega), w32_eq (z := B (p + i)) ⟨by omega, by omega⟩, w32_eq (z := wPol i) ⟨by omega, by omega⟩]
      by_cases c2 : B (p + i) = wPol i
      · right
        rw [if_pos c2]
        refine ⟨(), fun j hj => ?_, rfl⟩
        rcases Nat.lt_succ_iff_lt_or_eq.1 hj with q | q
        · exact hI j q
        · rw [q]
          exact c2
      · left
        rw [if_neg c2]
        exact ⟨0, rfl, Or.inr ⟨rfl, fun h => c2 (h.2 i hi)⟩⟩
    · intro m _ hI
      rw [f_X4_spells_s0_b17]
      unfold f_J0_length_8abf5_s0 f_J0_coder_7d493_s0
      rw [Option.bind_some, Option.bind_some, len6, if_neg (show ¬ w32 ((6 : Nat) : Int) < w32 6 by decide)]
      exact ⟨1, rfl, Or.inl ⟨rfl, by omega, hI⟩⟩
  · rw [if_neg c]
    exact ⟨0, rfl, Or.inr ⟨rfl, fun h => c (by have := h.1; omega)⟩⟩
theorem dSpell1_n {z : Sg} {B : Nat → Int} {p e : Nat} (hB : ByP B) (hz : ∀ j, j < 900 → z 2 j = B j) (he : z 3 4 = (e : Int)) (hpe : p ≤ e) (h9 : e ≤ 900) : ∃ r, f_X4_spells_s1 (p : Int) z = some r ∧ yn r (Sp wTre B p e) := by
  unfold f_X4_spells_s1 f_J0_length_8abf5_s1 f_J0_coder_7d493_s1
  rw [Option.bind_some, Option.bind_some, len6, he, w32_eq (z := (e : Int) - p) ⟨by omega, by omega⟩, show w32 6 = 6 by decide]
  by_cases c : (e : Int) - p = 6
  · rw [if_pos c]
    refine loop_P (F := fun m i (_ : Unit) => f_X4_spells_s1_b17 z m (p : Int) i) 6 (fun i _ => ∀ j, j < i → B (p + j) = wTre j) (P := fun x => ∃ r, x = some r ∧ yn r (Sp wTre B p e)) (by decide) ?_ ?_ 0 (by decide) () (fun j hj => by omega)
    · intro m i _ hi hI
      have hb := hB (p + i) (by omega)
      have hw := (w_in i hi).2
      rw [f_X4_spells_s1_b17]
      unfold f_J0_length_8abf5_s1 f_J0_coder_7d493_s1
      rw [Option.bind_some, Option.bind_some, len6, w32_n (by omega), show w32 6 = 6 by decide, if_pos (show (i : Int) < 6 by omega), show (p : Int) + (i : Int) = ((p + i : Nat) : Int) by omega, dAt_n (by omega), Option.bind_some, ch_s1 z i hi, Option.bind_some, hz (p + i) (by omega), w32_eq (z := B (p + i)) ⟨by omega, by omega⟩, w32_eq (z := wTre i) ⟨by omega, by omega⟩]
      by_cases c2 : B (p + i) = wTre i
      · right
        rw [if_pos c2]
        refine ⟨(), fun j hj => ?_, rfl⟩
        rcases Nat.lt_succ_iff_lt_or_eq.1 hj with q | q
        · exact hI j q
        · rw [q]
          exact c2
      · left
        rw [if_neg c2]
        exact ⟨0, rfl, Or.inr ⟨rfl, fun h => c2 (h.2 i hi)⟩⟩
    · intro m _ hI
      rw [f_X4_spells_s1_b17]
      unfold f_J0_length_8abf5_s1 f_J0_coder_7d493_s1
      rw [Option.bind_some, Option.bind_some, len6, if_neg (show ¬ w32 ((6 : Nat) : Int) < w32 6 by decide)]
      exact ⟨1, rfl, Or.inl ⟨rfl, by omega, hI⟩⟩
  · rw [if_neg c]
    exact ⟨0, rfl, Or.inr ⟨rfl, fun h => c (by have := h.1; omega)⟩⟩
/-- the reference's word -/
theorem mSkipW_n {ζ : Sg} {K : Int → Int → Option Int} {k : Nat} {v1 : Int} {w : Nat → Int} (hc : ∀ i, i < 6 → f_J0_charAt_5068e_s2 ((k + i : Nat) : Int) ζ = some (w i) ∧ 97 ≤ w i ∧ w i ≤ 122) (h32 : f_J0_charAt_5068e_s2 ((k + 6 : Nat) : Int) ζ = some 32) : f_X10_wordHere_b97 ζ K FUEL v1 (k : Int) = K (v1 + 1) ((k + 7 : Nat) : Int) := by
  have Q := loop_at (F := fun m i (_ : Unit) => f_X10_wordHere_b97 ζ K m v1 ((k : Int) + i)) 6 (fun _ _ => True) (r := K (v1 + 1) ((k + 7 : Nat) : Int)) (by decide) ?_ ?_ 0 (by decide) () trivial
  · rw [show (k : Int) + ((0 : Nat) : Int) = (k : Int) by omega] at Q
    exact Q
  · intro m i _ hi _
    right
    obtain ⟨h1, h2⟩ := hc i hi
    refine ⟨(), trivial, ?_⟩
    show f_X10_wordHere_b97 ζ K (m + 1) v1 ((k : Int) + (i : Int)) = f_X10_wordHere_b97 ζ K m v1 ((k : Int) + ((i : Int) + 1))
    rw [f_X10_wordHere_b97, show (k : Int) + (i : Int) = ((k + i : Nat) : Int) by omega, h1, Option.bind_some, w32_eq (z := w i) ⟨by omega, by omega⟩, if_neg (by omega), show ((k + i : Nat) : Int) + 1 = (k : Int) + ((i : Int) + 1) by omega]
  · intro m _ _
    show f_X10_wordHere_b97 ζ K (m + 1) v1 ((k : Int) + ((6 : Nat) : Int)) = _
    rw [f_X10_wordHere_b97, show (k : Int) + ((6 : Nat) : Int) = ((k + 6 : Nat) : Int) by omega, h32, Option.bind_some, if_pos (show w32 32 = 32 by decide)]
    unfold f_X10_wordHere_b114
    rw [show ((k + 6 : Nat) : Int) + 1 = ((k + 7 : Nat) : Int) by omega]
theorem mWordAt_n {ζ : Sg} {K : Int → Int → Option Int} {B : Nat → Int} {k p e : Nat} {v1 : Int} {w : Nat → Int} (hc : ∀ i, i < 6 → f_J0_charAt_5068e_s2 ((k + i : Nat) : Int) ζ = some (w i) ∧ 97 ≤ w i ∧ w i ≤ 122) (h32 : f_J0_charAt_5068e_s2 ((k + 6 : Nat) : Int) ζ = some 32) (hB : ByP B) (hz : ∀ j, j < 900 → ζ 42 j = B j) (hp : ζ 41 10 = (p : Int)) (he : ζ 41 9 = (e : Int)) (hpe : p ≤ e) (h9 : e ≤ 900) :
    (Sp w B p e ∧ f_X10_wordHere_b15 ζ K FUEL v1 (k : Int) 0 = some v1) ∨ (¬ Sp w B p e ∧ f_X10_wordHere_b15 ζ K FUEL v1 (k : Int) 0 = K (v1 + 1) ((k + 7 : Nat) : Int)) := by
  have sk := mSkipW_n (K := K) (v1 := v1) hc h32
  refine loop_P (F := fun m i (_ : Unit) => f_X10_wordHere_b15 ζ K m v1 (k : Int) i) 6 (fun i _ => ∀ j, j < i → p + j < e ∧ B (p + j) = w j) (P := fun x => (Sp w B p e ∧ x = some v1) ∨ (¬ Sp w B p e ∧ x = K (v1 + 1) ((k + 7 : Nat) : Int))) (by decide) ?_ ?_ 0 (by decide) () (fun j hj => by omega)
  · intro m i _ hi hI
    obtain ⟨h1, h2⟩ := hc i hi
    have b69 : ¬ Sp w B p e → (¬ Sp w B p e ∧ f_X10_wordHere_b69 ζ K v1 (k : Int) (i : Int) = K (v1 + 1) ((k + 7 : Nat) : Int)) := fun hn => ⟨hn, by
      unfold f_X10_wordHere_b69
      rw [show (k : Int) + (i : Int) = ((k + i : Nat) : Int) by omega, h1, Option.bind_some, w32_eq (z := w i) ⟨by omega, by omega⟩, if_neg (by omega)]
      exact sk⟩
    rw [f_X10_wordHere_b15, show (k : Int) + (i : Int) = ((k + i : Nat) : Int) by omega, h1, Option.bind_some, w32_eq (z := w i) ⟨by omega, by omega⟩, if_neg (by omega), hp, he, w32_eq (z := (p : Int) + i) ⟨by omega, by omega⟩, w32_n (by omega)]
    by_cases c1 : p + i < e
    · have hb := hB (p + i) (by omega)
      rw [if_pos (show (p : Int) + (i : Int) < (e : Int) by omega), ck_t (by omega), Option.bind_some, show ((p : Int) + (i : Int)).toNat = p + i by omega, hz (p + i) (by omega), w32_eq (z := B (p + i)) ⟨by omega, by omega⟩, w32_eq (z := w i) ⟨by omega, by omega⟩]
      by_cases c2 : B (p + i) = w i
      · right
        rw [if_pos c2]
        refine ⟨(), fun j hj => ?_, rfl⟩
        rcases Nat.lt_succ_iff_lt_or_eq.1 hj with q | q
        · exact hI j q
        · rw [q]
          exact ⟨c1, c2⟩
      · left
        rw [if_neg c2]
        exact Or.inr (b69 fun h => c2 (h.2 i hi))
    · left
      rw [if_neg (show ¬ (p : Int) + (i : Int) < (e : Int) by omega)]
      exact Or.inr (b69 fun h => by have := h.1; omega)
  · intro m _ hI
    rw [f_X10_wordHere_b15, show (k : Int) + ((6 : Nat) : Int) = ((k + 6 : Nat) : Int) by omega, h32, Option.bind_some, if_pos (show w32 32 = 32 by decide)]
    unfold f_X10_wordHere_b69
    rw [show (k : Int) + ((6 : Nat) : Int) = ((k + 6 : Nat) : Int) by omega, h32, Option.bind_some, if_pos (show w32 32 = 32 by decide), hp, he, w32_eq (z := (p : Int) + ((6 : Nat) : Int)) ⟨by omega, by omega⟩, w32_n (by omega)]
    by_cases c : p + 6 = e
    · rw [if_pos (show (p : Int) + ((6 : Nat) : Int) = (e : Int) by omega)]
      exact Or.inl ⟨⟨c.symm, fun i hi => (hI i hi).2⟩, rfl⟩
    · rw [if_neg (show ¬ (p : Int) + ((6 : Nat) : Int) = (e : Int) by omega)]
      exact Or.inr ⟨fun h => c h.1.symm, sk⟩
theorem wordHere_n {ζ : Sg} {B : Nat → Int} {p e : Nat} (hB : ByP B) (hz : ∀ j, j < 900 → ζ 42 j = B j) (hp : ζ 41 10 = (p : Int)) (he : ζ 41 9 = (e : Int)) (hpe : p ≤ e) (h9 : e ≤ 900) :
    ∃ r, f_X10_wordHere ζ = some r ∧ ((r = 0 ∧ Sp wPol B p e) ∨ (r = 1 ∧ ¬ Sp wPol B p e ∧ Sp wTre B p e) ∨ (r = -1 ∧ ¬ Sp wPol B p e ∧ ¬ Sp wTre B p e)) := by
  have st : ∀ m v1 (k : Nat), k < 14 → f_X10_wordHere_b4 ζ (m + 1) v1 (k : Int) = f_X10_wordHere_b15 ζ (f_X10_wordHere_b4 ζ m) FUEL v1 (k : Int) 0 := fun m v1 k hk => by
    rw [f_X10_wordHere_b4]
    unfold f_J0_length_8abf5_s2 f_J0_coder_7d493_s2
    rw [Option.bind_some, Option.bind_some, len14, w32_n (by omega), show w32 14 = 14 by decide, if_pos (show (k : Int) < 14 by omega)]
  have fin : ∀ m v1, f_X10_wordHere_b4 ζ (m + 1) v1 ((14 : Nat) : Int) = some (-1) := fun m v1 => by
    rw [f_X10_wordHere_b4]
    unfold f_J0_length_8abf5_s2 f_J0_coder_7d493_s2
    rw [Option.bind_some, Option.bind_some, len14, if_neg (show ¬ w32 ((14 : Nat) : Int) < w32 14 by decide)]
  unfold f_X10_wordHere
  have s1 : f_X10_wordHere_b4 ζ FUEL 0 0 = f_X10_wordHere_b15 ζ (f_X10_wordHere_b4 ζ 999999) FUEL 0 ((0 : Nat) : Int) 0 := st 999999 0 0 (by decide)
  rw [s1]
  rcases mWordAt_n (K := f_X10_wordHere_b4 ζ 999999) (v1 := 0) (k := 0) (w := wPol) (fun i hi => by
    rw [show 0 + i = i by omega]
    exact ⟨(ch_s2 ζ i hi).1, (w_in i hi).1⟩) (ch_b ζ).1 hB hz hp he hpe h9 with ⟨h1, h2⟩ | ⟨h1, h2⟩
  · rw [h2]
    exact ⟨0, rfl, Or.inl ⟨rfl, h1⟩⟩
  · rw [h2]
    have s2 : f_X10_wordHere_b4 ζ 999999 (0 + 1) ((0 + 7 : Nat) : Int) = f_X10_wordHere_b15 ζ (f_X10_wordHere_b4 ζ 999998) FUEL (0 + 1) ((7 : Nat) : Int) 0 := st 999998 (0 + 1) 7 (by decide)
    rw [s2]
    rcases mWordAt_n (K := f_X10_wordHere_b4 ζ 999998) (v1 := 0 + 1) (k := 7) (w := wTre) (fun i hi => ⟨(ch_s2 ζ i hi).2, (w_in i hi).2⟩) (ch_b ζ).2 hB hz hp he hpe h9 with ⟨k1, k2⟩ | ⟨k1, k2⟩
    · rw [k2]
      exact ⟨1, rfl, Or.inr (Or.inl ⟨rfl, h1, k1⟩)⟩
    · rw [k2]
      have s3 : f_X10_wordHere_b4 ζ 999998 (0 + 1 + 1) ((7 + 7 : Nat) : Int) = some (-1) := fin 999997 (0 + 1 + 1)
      rw [s3]
      exact ⟨-1, rfl, Or.inr (Or.inr ⟨rfl, h1, k1⟩)⟩
