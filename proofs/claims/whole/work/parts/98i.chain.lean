/-! ===== pure level: chains, one chain ===== -/
def IsC (X Y : Nat → Int) (R : Int) (s p c : Nat) : Prop := c.testBit p = true ∧ (∀ a b, c.testBit a = true → s.testBit b = true → d2 X Y a b ≤ R * R → c.testBit b = true) ∧ ∀ T : Nat → Prop, T p → (∀ a b, T a → s.testBit b = true → d2 X Y a b ≤ R * R → T b) → ∀ q, c.testBit q = true → T q
theorem IsC.u {X Y : Nat → Int} {R : Int} {s p c e : Nat} (h : IsC X Y R s p c) (k : IsC X Y R s p e) : c = e := bits_ext fun q => by
  have h1 := h.2.2 (fun q => e.testBit q = true) k.1 k.2.1 q
  have h2 := k.2.2 (fun q => c.testBit q = true) h.1 h.2.1 q
  cases hc : c.testBit q with
  | true => exact (h1 hc).symm
  | false =>
    cases he : e.testBit q with
    | false => rfl
    | true =>
      have := h2 he
      rw [hc] at this
      cases this
theorem IsC.sub {X Y : Nat → Int} {R : Int} {s p c : Nat} (h : IsC X Y R s p c) (hp : s.testBit p = true) : ∀ q, c.testBit q = true → s.testBit q = true := h.2.2 (fun q => s.testBit q = true) hp (fun _ _ _ hb _ => hb)
theorem IsC.up {X Y : Nat → Int} {R : Int} {s t p c : Nat} (h : IsC X Y R s p c) (hp : s.testBit p = true) (st : ∀ q, s.testBit q = true → t.testBit q = true) (cl : ∀ a b, s.testBit a = true → t.testBit b = true → d2 X Y a b ≤ R * R → s.testBit b = true) : IsC X Y R t p c :=
  ⟨h.1, fun a b ha hb hd => h.2.1 a b ha (cl a b (h.sub hp a ha) hb hd) hd, fun T hT hc => h.2.2 T hT (fun a b ha hb hd => hc a b ha (st b hb) hd)⟩
theorem ab_bit {z ζ : Sg} {F a : Nat} {R : Int} (h : RelB z ζ F) (ha : a < 24) (b : Nat) : (abS (z 7) (z 8) F (z 7 a) (z 8 a) R).testBit b = (F.testBit b && decide (d2 (ζ 45) (ζ 46) a b ≤ R * R)) := by
  unfold abS
  rw [tb_mks]
  by_cases hb : b < 24
  · obtain ⟨-, ⟨a1, a2, -⟩, -⟩ := h.1.2.2 a ha
    obtain ⟨-, ⟨b1, b2, -⟩, -⟩ := h.1.2.2 b hb
    have : (ζ 45 b - ζ 45 a) * (ζ 45 b - ζ 45 a) + (ζ 46 b - ζ 46 a) * (ζ 46 b - ζ 46 a) = d2 (ζ 45) (ζ 46) a b := by
      unfold d2
      grind
    rw [decide_eq_true hb, Bool.true_and, a1, a2, b1, b2, this]
  · rw [tb_24 h.1.2.1 (by omega), decide_eq_false hb]
    rfl
def cdn (e : Nat) : Int := sumb (fun _ => 1) e 24
theorem cdn_b (e : Nat) : 0 ≤ cdn e ∧ cdn e ≤ 24 := by
  have := sumb_bound (S := fun _ => 1) (s := e) (B := 1) (by decide) (n := 24) (fun _ _ _ => ⟨by decide, by decide⟩)
  unfold cdn
  omega
theorem cdn_lt {e f k : Nat} (h : ∀ q, e.testBit q = true → f.testBit q = true) (hf : f < 16777216) (hk : f.testBit k = true) (he : e.testBit k = false) : cdn e < cdn f :=
  sumb_lt (fun i _ => h i) (fun _ _ _ => by decide) (bit_lt hf hk) hk he
theorem ne_bit {e c : Nat} (h : e ≠ c) (hs : ∀ q, e.testBit q = true → c.testBit q = true) : ∃ k, c.testBit k = true ∧ e.testBit k = false := Classical.byContradiction fun hn => h (bits_ext fun q => by
  cases he : e.testBit q with
  | true => exact (hs q he).symm
  | false =>
    cases hc : c.testBit q with
    | false => rfl
    | true => exact absurd ⟨q, hc, he⟩ hn)
theorem chainFrom_n {z ζ : Sg} {F s p : Nat} {R : Int} (h : RelB z ζ F) (hs : ∀ q, s.testBit q = true → F.testBit q = true) (hp : s.testBit p = true) (hR : 0 ≤ R ∧ R ≤ 300) :
    ∃ c : Nat, f_X9_chainFrom (p : Int) (s : Int) R z = some (c : Int) ∧ c < 16777216 ∧ IsC (ζ 45) (ζ 46) R s p c := by
  have hFl := h.1.2.1
  have hsl := sub_24 hFl hs
  have hp24 := bit_lt hsl hp
  unfold f_X9_chainFrom
  rw [one_shl (by omega)]
  let K : Nat → Prop := fun c => (c < 16777216 ∧ c.testBit p = true) ∧ ∀ T : Nat → Prop, T p → (∀ a b, T a → s.testBit b = true → d2 (ζ 45) (ζ 46) a b ≤ R * R → T b) → ∀ q, c.testBit q = true → T q
  refine loop_P (F := fun n i (u : Int × Int) => f_X9_chainFrom_b11 z n (s : Int) R u.1 u.2 i) 24 (fun i u => ∃ c e : Nat, u = ((c : Int), (e : Int)) ∧ K c ∧ (∀ q, e.testBit q = true → c.testBit q = true) ∧ (e = c → ∀ a b, c.testBit a = true → s.testBit b = true → d2 (ζ 45) (ζ 46) a b ≤ R * R → c.testBit b = true) ∧ (e ≠ c → (i : Int) ≤ cdn e)) (P := fun x => ∃ c : Nat, x = some (c : Int) ∧ c < 16777216 ∧ IsC (ζ 45) (ζ 46) R s p c) (by decide) ?_ ?_ 0 (by decide) (((2 ^ p : Nat) : Int), 0) ?_
  · intro n i u hi hI
    obtain ⟨c0, e0, rfl, hK, hec, hcl, hcd⟩ := hI
    have hc0 := hK.1.1
    have hel := sub_24 hc0 hec
    show (∃ c : Nat, f_X9_chainFrom_b11 z (n + 1) (s : Int) R (c0 : Int) (e0 : Int) i = some (c : Int) ∧ _) ∨ ∃ s' : Int × Int, _ ∧ f_X9_chainFrom_b11 z (n + 1) (s : Int) R (c0 : Int) (e0 : Int) i = f_X9_chainFrom_b11 z n (s : Int) R s'.1 s'.2 ((i : Int) + 1)
    rw [f_X9_chainFrom_b11, w32_n (by omega), if_pos (show (i : Int) < 24 by omega), w32_n (n := c0) (by omega), w32_n (n := e0) (by omega)]
    by_cases hw : e0 = c0
    · left
      rw [if_pos (by omega)]
      exact ⟨c0, rfl, hc0, hK.1.2, hcl hw, hK.2⟩
    · right
      rw [if_neg (by omega)]
      have Q := loop_P (F := fun x j (u : Int) => f_X9_chainFrom_b32 z (f_X9_chainFrom_b11 z n) x (s : Int) R u (c0 : Int) i j) 24 (fun j u => ∃ c : Nat, u = (c : Int) ∧ K c ∧ (∀ q, c0.testBit q = true → c.testBit q = true) ∧ ∀ a, a < j → c0.testBit a = true → ∀ b, s.testBit b = true → d2 (ζ 45) (ζ 46) a b ≤ R * R → c.testBit b = true) (P := fun x => ∃ c : Nat, K c ∧ (∀ q, c0.testBit q = true → c.testBit q = true) ∧ (∀ a, c0.testBit a = true → ∀ b, s.testBit b = true → d2 (ζ 45) (ζ 46) a b ≤ R * R → c.testBit b = true) ∧ x = f_X9_chainFrom_b88 z (f_X9_chainFrom_b11 z n) (s : Int) R (c : Int) (c0 : Int) i) (by decide) ?_ ?_ 0 (by decide) (c0 : Int) ⟨c0, rfl, hK, fun q k => k, fun a ha => by omega⟩
      · obtain ⟨c, hK', hsub, hcl', ex⟩ := Q
        have ex : f_X9_chainFrom_b32 z (f_X9_chainFrom_b11 z n) FUEL (s : Int) R (c0 : Int) (c0 : Int) i 0 = _ := ex
        rw [ex]
        refine ⟨((c : Int), (c0 : Int)), ⟨c, c0, rfl, hK', hsub, fun e => ?_, fun _ => ?_⟩, rfl⟩
        · subst e
          exact fun a b ha hb hd => hcl' a ha b hb hd
        · obtain ⟨k, k1, k2⟩ := ne_bit hw hec
          have := cdn_lt hec hc0 k1 k2
          have := hcd hw
          omega
      · intro x j u hj hI
        obtain ⟨c, rfl, hK', hsub, hd0⟩ := hI
        right
        have hcl' := hK'.1.1
        show ∃ s' : Int, _ ∧ f_X9_chainFrom_b32 z (f_X9_chainFrom_b11 z n) (x + 1) (s : Int) R (c : Int) (c0 : Int) i j = f_X9_chainFrom_b32 z (f_X9_chainFrom_b11 z n) x (s : Int) R s' (c0 : Int) i ((j : Int) + 1)
        rw [f_X9_chainFrom_b32, w32_n (by omega), if_pos (show (j : Int) < 24 by omega), contains_n (by omega) (by omega), Option.bind_some]
        by_cases hb : c.testBit j = true
        · obtain ⟨g1, g2⟩ := h.pl j hj
          have hwl := abS_24 (z 7) (z 8) F (z 7 j) (z 8 j) R
          rw [b01_t hb, xOf_n hj, Option.bind_some, yOf_n hj, Option.bind_some, dWithin_n h g1 g2 ⟨by omega, by omega⟩, Option.bind_some, u32_nat (n := c) (by omega), u32_nat (n := s) (by omega), u32_nat (n := abS (z 7) (z 8) F (z 7 j) (z 8 j) R) (by omega)]
          have hab := ab_bit (R := R) h hj
          generalize abS (z 7) (z 8) F (z 7 j) (z 8 j) R = w at *
          have cb : ∀ q, (c ||| s &&& w).testBit q = true ↔ (c.testBit q = true ∨ (s.testBit q = true ∧ d2 (ζ 45) (ζ 46) j q ≤ R * R)) := fun q => by
            rw [Nat.testBit_or, Nat.testBit_and, hab, Bool.or_eq_true, Bool.and_eq_true, Bool.and_eq_true, decide_eq_true_iff]
            exact ⟨fun k => k.imp id (fun k => ⟨k.1, k.2.2⟩), fun k => k.imp id (fun k => ⟨k.1, hs q k.1, k.2⟩)⟩
          refine ⟨((c ||| s &&& w : Nat) : Int), ⟨c ||| s &&& w, rfl, ⟨⟨or_lt24 hcl' (Nat.lt_of_le_of_lt Nat.and_le_left hsl), (cb p).mpr (Or.inl hK'.1.2)⟩, fun T hT hcT q hq => ?_⟩, fun q hq => (cb q).mpr (Or.inl (hsub q hq)), fun a ha hc b hb2 hd => ?_⟩, rfl⟩
          · rcases (cb q).mp hq with k | k
            · exact hK'.2 T hT hcT q k
            · exact hcT j q (hK'.2 T hT hcT j hb) k.1 k.2
          · rcases Nat.lt_succ_iff_lt_or_eq.1 ha with k | k
            · exact (cb b).mpr (Or.inl (hd0 a k hc b hb2 hd))
            · rw [k] at hd
              exact (cb b).mpr (Or.inr ⟨hb2, hd⟩)
        · have hbf : c.testBit j = false := Bool.eq_false_iff.mpr hb
          rw [b01_f hbf]
          refine ⟨(c : Int), ⟨c, rfl, hK', hsub, fun a ha hc => ?_⟩, rfl⟩
          rcases Nat.lt_succ_iff_lt_or_eq.1 ha with k | k
          · exact hd0 a k hc
          · rw [k] at hc
            exact absurd (hsub j hc) hb
      · intro x u hI
        obtain ⟨c, rfl, hK', hsub, hd0⟩ := hI
        show ∃ c' : Nat, _ ∧ _ ∧ _ ∧ f_X9_chainFrom_b32 z (f_X9_chainFrom_b11 z n) (x + 1) (s : Int) R (c : Int) (c0 : Int) i ((24 : Nat) : Int) = _
        rw [f_X9_chainFrom_b32, w32_n (by decide), if_neg (show ¬ ((24 : Nat) : Int) < 24 by decide)]
        exact ⟨c, hK', hsub, fun a ha => hd0 a (bit_lt hc0 ha) ha, rfl⟩
  · intro n u hI
    obtain ⟨c, e, rfl, hK, hec, hcl, hcd⟩ := hI
    have hc0 := hK.1.1
    show ∃ c' : Nat, f_X9_chainFrom_b11 z (n + 1) (s : Int) R (c : Int) (e : Int) ((24 : Nat) : Int) = some (c' : Int) ∧ _
    rw [f_X9_chainFrom_b11, w32_n (n := 24) (by decide), if_neg (show ¬ ((24 : Nat) : Int) < 24 by decide)]
    by_cases hw : e = c
    · exact ⟨c, rfl, hc0, hK.1.2, hcl hw, hK.2⟩
    · exfalso
      obtain ⟨k, k1, k2⟩ := ne_bit hw hec
      have h1 := cdn_lt hec hc0 k1 k2
      have h2 := cdn_b c
      have h3 := hcd hw
      omega
  · refine ⟨2 ^ p, 0, rfl, ⟨⟨pow_24 hp24, by rw [tb_pow]; exact beq_self_eq_true p⟩, fun T hT _ q hq => ?_⟩, (fun q hq => by rw [Nat.zero_testBit] at hq; cases hq), fun e => absurd e (by have := Nat.two_pow_pos p; omega), fun _ => (cdn_b 0).1⟩
    rw [tb_pow, beq_iff_eq] at hq
    rw [hq]
    exact hT
