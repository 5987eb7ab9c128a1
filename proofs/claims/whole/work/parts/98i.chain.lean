/-! ===== pure level: chains, one chain ===== -/
def IsC (X Y : Nat → Int) (R : Int) (s p c : Nat) : Prop := c.testBit p = true ∧ (∀ a b, c.testBit a = true → s.testBit b = true → d2 X Y a b ≤ R * R → c.testBit b = true) ∧ ∀ T : Nat → Prop, T p → (∀ a b, T a → s.testBit b = true → d2 X Y a b ≤ R * R → T b) → ∀ q, c.testBit q = true → T q
theorem IsC.u {X Y : Nat → Int} {R : Int} {s p c e : Nat} (h : IsC X Y R s p c) (k : IsC X Y R s p e) : c = e := bits_ext fun q => by
  have h1 := h.2.2 (fun q => e.testBit q = true) k.1 k.2.1 q
  have h2 := k.2.2 (fun q => c.testBit q = true) h.1 h.2.1 q
  cases hc : c.testBit q with
  | true => exact (h1 hc).symm
  | false =>
    cases he : e.testBit q with
    | false => rfl
    | true =>
      have := h2 he
      rw [hc] at this
      cases this
theorem IsC.sub {X Y : Nat → Int} {R : Int} {s p c : Nat} (h : IsC X Y R s p c) (hp : s.testBit p = true) : ∀ q, c.testBit q = true → s.testBit q = true := h.2.2 (fun q => s.testBit q = true) hp (fun _ _ _ hb _ => hb)
theorem IsC.up {X Y : Nat → Int} {R : Int} {s t p c : Nat} (h : IsC X Y R s p c) (hp : s.testBit p = true) (st : ∀ q, s.testBit q = true → t.testBit q = true) (cl : ∀ a b, s.testBit a = true → t.testBit b = true → d2 X Y a b ≤ R * R → s.testBit b = true) : IsC X Y R t p c :=
  ⟨h.1, fun a b ha hb hd => h.2.1 a b ha (cl a b (h.sub hp a ha) hb hd) hd, fun T hT hc => h.2.2 T hT (fun a b ha hb hd => hc a b ha (st b hb) hd)⟩
theorem ab_bit {z ζ : Sg} {F a : Nat} {R : Int} (h : RelB z ζ F) (ha : a < 24) (b : Nat) : (abS (z 7) (z 8) F (z 7 a) (z 8 a) R).testBit b = (F.testBit b && decide (d2 (ζ 45) (ζ 46) a b ≤ R * R)) := by
  unfold abS
  rw [tb_mks]
  by_cases hb : b < 24
  · obtain ⟨-, ⟨a1, a2, -⟩, -⟩ := h.1.2.2 a ha
    obtain ⟨-, ⟨b1, b2, -⟩, -⟩ := h.1.2.2 b hb
    have : (ζ 45 b - ζ 45 a) * (ζ 45 b - ζ 45 a) + (ζ 46 b - ζ 46 a) * (ζ 46 b - ζ 46 a) = d2 (ζ 45) (ζ 46) a b := by
      unfold d2
      grind
    rw [decide_eq_true hb, Bool.true_and, a1, a2, b1, b2, this]
  · rw [tb_24 h.1.2.1 (by omega), decide_eq_false hb]
    rfl
def cdn (e : Nat) : Int := sumb (fun _ => 1) e 24
theorem cdn_b (e : Nat) : 0 ≤ cdn e ∧ cdn e ≤ 24 := by
  have := sumb_bound (S := fun _ => 1) (s := e) (B := 1) (by decide) (n := 24) (fun _ _ _ => ⟨by decide, by decide⟩)
  unfold cdn
  omega
theorem cdn_lt {e f k : Nat} (h : ∀ q, e.testBit q = true → f.testBit q = true) (hf : f < 16777216) (hk : f.testBit k = true) (he : e.testBit k = false) : cdn e < cdn f :=
  sumb_lt (fun i _ => h i) (fun _ _ _ => by decide) (bit_lt hf hk) hk he
theorem ne_bit {e c : Nat} (h : e ≠ c) (hs : ∀ q, e.testBit q = true → c.testBit q = true) : ∃ k, c.testBit k = true ∧ e.testBit k = false := Classical.byContradiction fun hn => h (bits_ext fun q => by
  cases he : e.testBit q with
  | true => exact (hs q he).symm
  | false =>
    cases hc : c.testBit q with
    | false => rfl
    | true => exact absurd ⟨q, hc, he⟩ hn)
theorem chainFrom_n {z ζ : Sg} {F s p : Nat} {R : Int} (h : RelB z ζ F) (hs : ∀ q, s.testBit q = true → F.testBit q = true) (hp : s.testBit p = true) (hR : 0 ≤ R ∧ R ≤ 300) :
    ∃ c : Nat, f_X9_chainFrom (p : Int) (s : Int) R z = some (c : Int) ∧ c < 16777216 ∧ IsC (ζ 45) (ζ 46) R s p c := by
  have hFl := h.1.2.1
  have hsl := sub_24 hFl hs
  have hp24 := bit_lt hsl hp
  unfold f_X9_chainFrom
  rw [one_shl (by omega)]
  let J : Nat → Nat → Prop := fun c e => (c < 16777216 ∧ c.testBit p = true) ∧ (∀ q, e.testBit q = true → c.testBit q = true) ∧ (∀ a b, e.testBit a = true → s.testBit b = true → d2 (ζ 45) (ζ 46) a b ≤ R * R → c.testBit b = true) ∧ ∀ T : Nat → Prop, T p → (∀ a b, T a → s.testBit b = true → d2 (ζ 45) (ζ 46) a b ≤ R * R → T b) → ∀ q, c.testBit q = true → T q
  refine loop_P (F := fun n i (u : Int × Int) => f_X9_chainFrom_b11 z n (s : Int) R u.1 u.2 i) 24 (fun i u => ∃ c e : Nat, u = ((c : Int), (e : Int)) ∧ J c e ∧ e ≠ c ∧ (i : Int) ≤ cdn e) (P := fun x => ∃ c : Nat, x = some (c : Int) ∧ c < 16777216 ∧ IsC (ζ 45) (ζ 46) R s p c) (by decide) ?_ ?_ 0 (by decide) (((2 ^ p : Nat) : Int), 0) ?_
  · intro n i u hi hI
    obtain ⟨c0, e0, rfl, hJ, hne, hcd⟩ := hI
    show _ ∨ ∃ s' : Int × Int, _ ∧ f_X9_chainFrom_b11 z (n + 1) (s : Int) R (c0 : Int) (e0 : Int) i = f_X9_chainFrom_b11 z n (s : Int) R s'.1 s'.2 ((i : Int) + 1)
    show (∃ c : Nat, f_X9_chainFrom_b11 z (n + 1) (s : Int) R (c0 : Int) (e0 : Int) i = some (c : Int) ∧ _) ∨ _
    rw [f_X9_chainFrom_b11, w32_n (by omega), if_pos (show (i : Int) < 24 by omega)]
    have Q := loop_P (F := fun x j (u : Int × Int) => f_X9_chainFrom_b21 z (f_X9_chainFrom_b11 z n) x (s : Int) R u.1 u.2 i j) 24 (fun j u => ∃ c e : Nat, u = ((c : Int), (e : Int)) ∧ J c e ∧ (∀ q, c0.testBit q = true → c.testBit q = true) ∧ (∀ q, e0.testBit q = true → e.testBit q = true) ∧ ∀ q, q < j → c0.testBit q = true → e.testBit q = true) (P := fun x => ∃ c e : Nat, J c e ∧ (∀ q, e0.testBit q = true → e.testBit q = true) ∧ (∀ q, c0.testBit q = true → e.testBit q = true) ∧ x = f_X9_chainFrom_b91 z (f_X9_chainFrom_b11 z n) (s : Int) R (c : Int) (e : Int) i) (by decide) ?_ ?_ 0 (by decide) ((c0 : Int), (e0 : Int)) ⟨c0, e0, rfl, hJ, fun q k => k, fun q k => k, fun q hq => by omega⟩
    · obtain ⟨c, e, hJ', he, hce, ex⟩ := Q
      have ex : f_X9_chainFrom_b21 z (f_X9_chainFrom_b11 z n) FUEL (s : Int) R (c0 : Int) (e0 : Int) i 0 = _ := ex
      rw [ex]
      unfold f_X9_chainFrom_b91
      have hcl := hJ'.1.1
      have hel := sub_24 hcl hJ'.2.1
      rw [w32_n (by omega), w32_n (by omega)]
      by_cases q : e = c
      · left
        rw [if_pos (by omega)]
        subst q
        exact ⟨e, rfl, hcl, hJ'.1.2, hJ'.2.2.1, hJ'.2.2.2⟩
      · right
        rw [if_neg (by omega)]
        obtain ⟨k, k1, k2⟩ := ne_bit hne hJ.2.1
        have := cdn_lt he hel (hce k k1) k2
        exact ⟨((c : Int), (e : Int)), ⟨c, e, rfl, hJ', q, by omega⟩, rfl⟩
    · intro x j u hj hI
      obtain ⟨c, e, rfl, hJ', h1, h2, h3⟩ := hI
      right
      have hcl := hJ'.1.1
      have hel := sub_24 hcl hJ'.2.1
      show ∃ s' : Int × Int, _ ∧ f_X9_chainFrom_b21 z (f_X9_chainFrom_b11 z n) (x + 1) (s : Int) R (c : Int) (e : Int) i j = f_X9_chainFrom_b21 z (f_X9_chainFrom_b11 z n) x (s : Int) R s'.1 s'.2 i ((j : Int) + 1)
      rw [f_X9_chainFrom_b21, w32_n (by omega), if_pos (show (j : Int) < 24 by omega), u32_nat (n := c) (by omega), u32_nat (n := e) (by omega), contains_n (Nat.lt_of_le_of_lt Nat.and_le_left (by omega)) (by omega), Option.bind_some, tb_wo hcl]
      by_cases hb : (c.testBit j && !(e.testBit j)) = true
      · have hb' := hb
        rw [Bool.and_eq_true, Bool.not_eq_true'] at hb'
        obtain ⟨g1, g2⟩ := h.pl j hj
        have hw := abS_24 (z 7) (z 8) F (z 7 j) (z 8 j) R
        rw [b01_t hb, xOf_n hj, Option.bind_some, yOf_n hj, Option.bind_some, dWithin_n h g1 g2 ⟨by omega, by omega⟩, Option.bind_some, u32_nat (n := s) (by omega), u32_nat (n := abS (z 7) (z 8) F (z 7 j) (z 8 j) R) (by omega), one_shl (by omega), u32_nat (pow_lt (by omega))]
        have hab := ab_bit (R := R) h hj
        generalize abS (z 7) (z 8) F (z 7 j) (z 8 j) R = w at *
        have eb : ∀ q, (e ||| 2 ^ j).testBit q = true ↔ (e.testBit q = true ∨ q = j) := fun q => tb_or_pow
        have cb : ∀ q, (c ||| s &&& w).testBit q = true ↔ (c.testBit q = true ∨ (s.testBit q = true ∧ d2 (ζ 45) (ζ 46) j q ≤ R * R)) := fun q => by
          rw [Nat.testBit_or, Nat.testBit_and, hab, Bool.or_eq_true, Bool.and_eq_true, Bool.and_eq_true, decide_eq_true_iff]
          exact ⟨fun k => k.imp id (fun k => ⟨k.1, k.2.2⟩), fun k => k.imp id (fun k => ⟨k.1, hs q k.1, k.2⟩)⟩
        refine ⟨(((c ||| s &&& w : Nat) : Int), ((e ||| 2 ^ j : Nat) : Int)), ⟨c ||| s &&& w, e ||| 2 ^ j, rfl, ⟨⟨or_lt24 hcl (Nat.lt_of_le_of_lt Nat.and_le_left hsl), (cb p).mpr (Or.inl hJ'.1.2)⟩, fun q hq => ?_, fun a b ha hb2 hd => ?_, fun T hT hcT q hq => ?_⟩, fun q hq => (cb q).mpr (Or.inl (h1 q hq)), fun q hq => (eb q).mpr (Or.inl (h2 q hq)), fun q hq hc => ?_⟩, rfl⟩
        · rcases (eb q).mp hq with k | k
          · exact (cb q).mpr (Or.inl (hJ'.2.1 q k))
          · rw [k]
            exact (cb j).mpr (Or.inl hb'.1)
        · rcases (eb a).mp ha with k | k
          · exact (cb b).mpr (Or.inl (hJ'.2.2.1 a b k hb2 hd))
          · rw [k] at hd
            exact (cb b).mpr (Or.inr ⟨hb2, hd⟩)
        · rcases (cb q).mp hq with k | k
          · exact hJ'.2.2.2 T hT hcT q k
          · exact hcT j q (hJ'.2.2.2 T hT hcT j hb'.1) k.1 k.2
        · rcases Nat.lt_succ_iff_lt_or_eq.1 hq with k | k
          · exact (eb q).mpr (Or.inl (h3 q k hc))
          · exact (eb q).mpr (Or.inr k)
      · have hbf : (c.testBit j && !(e.testBit j)) = false := Bool.eq_false_iff.mpr hb
        rw [b01_f hbf]
        refine ⟨((c : Int), (e : Int)), ⟨c, e, rfl, hJ', h1, h2, fun q hq hc => ?_⟩, rfl⟩
        rcases Nat.lt_succ_iff_lt_or_eq.1 hq with k | k
        · exact h3 q k hc
        · subst k
          have := h1 q hc
          cases he : e.testBit q with
          | true => rfl
          | false =>
            rw [this, he] at hbf
            cases hbf
    · intro x u hI
      obtain ⟨c, e, rfl, hJ', h1, h2, h3⟩ := hI
      show ∃ c' e' : Nat, _ ∧ _ ∧ _ ∧ f_X9_chainFrom_b21 z (f_X9_chainFrom_b11 z n) (x + 1) (s : Int) R (c : Int) (e : Int) i ((24 : Nat) : Int) = _
      rw [f_X9_chainFrom_b21, w32_n (by decide), if_neg (show ¬ ((24 : Nat) : Int) < 24 by decide)]
      exact ⟨c, e, hJ', h2, fun q hq => h3 q (bit_lt hJ.1.1 hq) hq, rfl⟩
  · intro n u hI
    obtain ⟨c, e, rfl, hJ, hne, hcd⟩ := hI
    exfalso
    obtain ⟨k, k1, k2⟩ := ne_bit hne hJ.2.1
    have h1 := cdn_lt hJ.2.1 hJ.1.1 k1 k2
    have h2 := cdn_b c
    omega
  · refine ⟨2 ^ p, 0, rfl, ⟨⟨pow_24 hp24, by rw [tb_pow]; exact beq_self_eq_true p⟩, (fun q hq => by rw [Nat.zero_testBit] at hq; cases hq), (fun a b ha => by rw [Nat.zero_testBit] at ha; cases ha), fun T hT _ q hq => ?_⟩, fun e => ?_, (cdn_b 0).1⟩
    · rw [tb_pow, beq_iff_eq] at hq
      rw [hq]
      exact hT
    · have := Nat.two_pow_pos p
      omega
