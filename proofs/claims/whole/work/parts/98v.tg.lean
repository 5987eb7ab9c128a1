/-! ===== pure level: what lies together in one disc ===== -/
def Tg (X Y : Nat → Int) (R : Int) (o : Nat) : Prop := (∃ a, ∀ q, o.testBit q = true → d2 X Y a q ≤ R * R) ∨ ∃ a b side, rimOk X Y R a b ∧ ∀ q, o.testBit q = true → inD X Y R a b side q = true
theorem Tg.sub {X Y : Nat → Int} {R : Int} {o p : Nat} (h : Tg X Y R o) (hs : SubN p o) : Tg X Y R p := by
  rcases h with ⟨a, h⟩ | ⟨a, b, side, hr, h⟩
  · exact Or.inl ⟨a, fun q hq => h q (hs q hq)⟩
  · exact Or.inr ⟨a, b, side, hr, fun q hq => h q (hs q hq)⟩
theorem Tg_list {X Y : Nat → Int} {R : Int} {o : Nat} {L : List Nat} (h : Tg X Y R o) (hL : ∀ q, q ∈ L → o.testBit q = true) : (∃ a, ∀ q, q ∈ L → d2 X Y a q ≤ R * R) ∨ ∃ a b side, rimOk X Y R a b ∧ ∀ q, q ∈ L → inD X Y R a b side q = true := by
  rcases h with ⟨a, h⟩ | ⟨a, b, side, hr, h⟩
  · exact Or.inl ⟨a, fun q hq => h q (hL q hq)⟩
  · exact Or.inr ⟨a, b, side, hr, fun q hq => h q (hL q hq)⟩
theorem Tg_near {X Y : Nat → Int} {R : Int} {o p q : Nat} (h : Tg X Y R o) (hp : o.testBit p = true) (hq : o.testBit q = true) : d2 X Y p q ≤ 4 * R * R := by
  by_cases h0 : d2 X Y p q = 0
  · rw [h0]
    have := sq_nn R
    grind
  · obtain ⟨a, ha, b, hb, hok, -⟩ := geo_pair (L := [p, q]) (Tg_list h (fun x hx => by
      rcases List.mem_cons.1 hx with e | e
      · rw [e]
        exact hp
      · rw [List.mem_singleton.1 e]
        exact hq)) ⟨p, List.mem_cons_self, q, List.mem_cons_of_mem _ (List.mem_singleton.2 rfl), h0⟩
    have two : ∀ x, x ∈ [p, q] → x = p ∨ x = q := fun x hx => (List.mem_cons.1 hx).imp id List.mem_singleton.1
    rcases two a ha with ea | ea <;> rcases two b hb with eb | eb
    · rw [ea, eb] at hok
      have := hok.1
      rw [d2_self] at this
      omega
    · rw [ea, eb] at hok
      exact hok.2
    · rw [ea, eb] at hok
      exact (rim_sym.mp hok).2
    · rw [ea, eb] at hok
      have := hok.1
      rw [d2_self] at this
      omega
theorem Tg_pair {X Y : Nat → Int} {R : Int} {o : Nat} (ho : o < 33554432) (h : Tg X Y R o) : (∀ p q, o.testBit p = true → o.testBit q = true → d2 X Y p q = 0) ∨ ∃ a b side, o.testBit a = true ∧ o.testBit b = true ∧ rimOk X Y R a b ∧ ∀ q, o.testBit q = true → inD X Y R a b side q = true := by
  have ho25 : ∀ q, o.testBit q = true → q < 25 := fun q hq => by
    rcases Nat.lt_or_ge q 25 with r | r
    · exact r
    · rw [tb_big (n := 25) ho r] at hq
      cases hq
  have mem : ∀ q, q ∈ (List.range 25).filter (fun q => o.testBit q) ↔ o.testBit q = true := fun q => by
    rw [List.mem_filter, List.mem_range]
    exact ⟨fun h => h.2, fun h => ⟨ho25 q h, h⟩⟩
  by_cases hu : ∃ p, p ∈ (List.range 25).filter (fun q => o.testBit q) ∧ ∃ q, q ∈ (List.range 25).filter (fun q => o.testBit q) ∧ d2 X Y p q ≠ 0
  · right
    obtain ⟨a, ha, b, hb, hok, side, hin⟩ := geo_pair (Tg_list h (fun q hq => (mem q).mp hq)) hu
    exact ⟨a, b, side, (mem a).mp ha, (mem b).mp hb, hok, fun q hq => hin q ((mem q).mpr hq)⟩
  · left
    intro p q hp hq
    exact Classical.byContradiction fun h => hu ⟨p, (mem p).mpr hp, q, (mem q).mpr hq, h⟩
theorem pow_25 {p : Nat} (hp : p < 25) : 2 ^ p < 33554432 := Nat.pow_lt_pow_right (a := 2) (by decide) hp
theorem bit25 {s i : Nat} (h : s < 33554432) (hi : s.testBit i = true) : i < 25 := by
  rcases Nat.lt_or_ge i 25 with q | q
  · exact q
  · rw [tb_big (n := 25) h q] at hi
    cases hi
theorem sub_25 {M F : Nat} (hF : F < 33554432) (h : SubN M F) : M < 33554432 := by
  apply Nat.lt_pow_two_of_testBit (n := 25)
  intro i hi
  cases hb : M.testBit i with
  | false => rfl
  | true =>
    have := bit25 hF (h i hb)
    omega
/-- a candidate goes together -/
theorem cnd_tg {X Y : Nat → Int} {R : Int} {s c : Nat} (h : Cnd X Y R s 25 c) : SubN c s ∧ Tg X Y R c := by
  obtain ⟨a, ha, hab, hc⟩ := h
  rcases hc with rfl | ⟨b, hb, hlt, hbb, hok, side, rfl⟩
  · have e : ∀ q, (arS X Y R s a).testBit q = true → s.testBit q = true ∧ d2 X Y a q ≤ R * R := fun q hq => by
      unfold arS at hq
      rw [tb_mks] at hq
      simp only [Bool.and_eq_true, decide_eq_true_eq] at hq
      exact hq.2
    exact ⟨fun q hq => (e q hq).1, Or.inl ⟨a, fun q hq => (e q hq).2⟩⟩
  · have e : ∀ q, (rmS X Y R s a b side).testBit q = true → s.testBit q = true ∧ inD X Y R a b side q = true := fun q hq => by
      unfold rmS at hq
      rw [tb_mks] at hq
      simp only [Bool.and_eq_true, Bool.or_eq_true, decide_eq_true_eq, beq_iff_eq] at hq
      refine ⟨hq.2.1, ?_⟩
      rcases hq.2.2 with (r | r) | r
      · rw [r]
        exact inD_a _ _ _ _ _ _
      · rw [r]
        exact inD_b _ _ _ _ _ _
      · exact r
    exact ⟨fun q hq => (e q hq).1, Or.inr ⟨a, b, side, hok, fun q hq => (e q hq).2⟩⟩
/-- what goes together lies in a candidate -/
theorem tg_cnd {X Y : Nat → Int} {R : Int} {s o : Nat} (hs : s < 33554432) (ho : o ≠ 0) (hos : SubN o s) (h : Tg X Y R o) : ∃ c, Cnd X Y R s 25 c ∧ SubN o c := by
  have hol := sub_25 hs hos
  rcases Tg_pair hol h with h0 | ⟨a, b, side, ha, hb, hok, hin⟩
  · obtain ⟨p, hp⟩ := ex_bit ho
    refine ⟨arS X Y R s p, ⟨p, bit25 hol hp, hos p hp, Or.inl rfl⟩, fun q hq => ?_⟩
    unfold arS
    rw [tb_mks, decide_eq_true (bit25 hol hq), hos q hq, h0 p q hp hq, decide_eq_true (sq_nn R)]
    rfl
  · have hne : a ≠ b := fun e => by
      have := hok.1
      rw [e, d2_self] at this
      omega
    have fin : ∀ a b side, o.testBit a = true → o.testBit b = true → a < b → rimOk X Y R a b → (∀ q, o.testBit q = true → inD X Y R a b side q = true) → ∃ c, Cnd X Y R s 25 c ∧ SubN o c := by
      intro a b side ha hb hlt hok hin
      refine ⟨rmS X Y R s a b side, ⟨a, bit25 hol ha, hos a ha, Or.inr ⟨b, bit25 hol hb, hlt, hos b hb, hok, side, rfl⟩⟩, fun q hq => ?_⟩
      unfold rmS
      rw [tb_mks, decide_eq_true (bit25 hol hq), hos q hq, hin q hq]
      simp
    rcases Nat.lt_or_gt_of_ne hne with r | r
    · exact fin a b side ha hb r hok hin
    · exact fin b a (!side) hb ha r (rim_sym.mp hok) (fun q hq => by rw [← inD_sym]; exact hin q hq)
/-- the best sums of those that go together -/
def HM (P : Nat → Prop) (f : Nat → Int) (v : Int) : Prop := (∃ o, P o ∧ v = f o) ∧ ∀ o, P o → f o ≤ v
theorem HM.u {P : Nat → Prop} {f : Nat → Int} {v w : Int} (h : HM P f v) (k : HM P f w) : v = w := by
  obtain ⟨⟨o, o1, o2⟩, h2⟩ := h
  obtain ⟨⟨p, p1, p2⟩, k2⟩ := k
  have := h2 p p1
  have := k2 o o1
  omega
theorem best_hm {X Y S : Nat → Int} {R : Int} {t : Nat} {bs bset : Int} (ht : t < 33554432) (h0 : t ≠ 0) (hS : ∀ q, t.testBit q = true → 0 ≤ S q) (h : BestOf (Ofd S none (Cnd X Y R t 25)) bs bset) : HM (fun o => SubN o t ∧ Tg X Y R o) (fun o => sumb S o 25) bs := by
  obtain ⟨p, hp⟩ := ex_bit h0
  rcases h with ⟨h1, -⟩ | ⟨o, -, ⟨c, c1, c2, c3⟩, h3⟩
  · exact absurd ⟨arS X Y R t p, ⟨p, bit25 ht hp, hp, Or.inl rfl⟩, rfl, rfl⟩ (h1 (sumb S (arS X Y R t p) 25) (arS X Y R t p))
  · refine ⟨⟨c, cnd_tg c1, c2⟩, fun u ⟨u1, u2⟩ => ?_⟩
    show sumb S u 25 ≤ bs
    by_cases u0 : u = 0
    · have h4 := h3 _ _ ⟨c, c1, rfl, rfl⟩
      have h5 := sumb_mono (S := S) (s := u) (t := c) (n := 25) (fun i _ hi => by rw [u0, Nat.zero_testBit] at hi; cases hi) (fun i _ hi => hS i ((cnd_tg c1).1 i hi))
      omega
    · obtain ⟨d, d1, d2_⟩ := tg_cnd ht u0 u1 u2
      have h4 := h3 _ _ ⟨d, d1, rfl, rfl⟩
      have h5 := sumb_mono (S := S) (s := u) (t := d) (n := 25) (fun i _ hi => d2_ i hi) (fun i _ hi => hS i ((cnd_tg d1).1 i hi))
      omega
/-- the same with one that must lie in the disc -/
theorem best_hmm {X Y S : Nat → Int} {R : Int} {t m : Nat} {bs bset : Int} (ht : t < 33554432) (hm : t.testBit m = true) (hS : ∀ q, t.testBit q = true → 0 ≤ S q) (h : BestOf (Ofd S (some m) (Cnd X Y R t 25)) bs bset) : HM (fun o => SubN o t ∧ Tg X Y R o ∧ o.testBit m = true) (fun o => sumb S o 25) bs := by
  have hc0 : (arS X Y R t m).testBit m = true := by
    unfold arS
    rw [tb_mks, decide_eq_true (bit25 ht hm), hm, d2_self, decide_eq_true (sq_nn R)]
    rfl
  rcases h with ⟨h1, -⟩ | ⟨o, -, ⟨c, c1, c2, c3, c4⟩, h3⟩
  · exact absurd ⟨arS X Y R t m, ⟨m, bit25 ht hm, hm, Or.inl rfl⟩, rfl, hc0, rfl⟩ (h1 (sumb S (arS X Y R t m) 25) (arS X Y R t m &&& (2 ^ m ^^^ 4294967295)))
  · refine ⟨⟨c, ⟨(cnd_tg c1).1, (cnd_tg c1).2, c3⟩, c2⟩, fun u ⟨u1, u2, u3⟩ => ?_⟩
    show sumb S u 25 ≤ bs
    have u0 : u ≠ 0 := fun e => by
      rw [e, Nat.zero_testBit] at u3
      cases u3
    obtain ⟨d, d1, d2_⟩ := tg_cnd ht u0 u1 u2
    have h4 := h3 _ _ ⟨d, d1, rfl, d2_ m u3, rfl⟩
    have h5 := sumb_mono (S := S) (s := u) (t := d) (n := 25) (fun i _ hi => d2_ i hi) (fun i _ hi => hS i ((cnd_tg d1).1 i hi))
    omega
theorem tg_0 {X Y : Nat → Int} {R : Int} {m : Nat} : Tg X Y R (0 ||| 2 ^ m) := Or.inl ⟨m, fun q hq => by
  rw [tb_or_pow, Nat.zero_testBit] at hq
  rcases hq with r | r
  · cases r
  · rw [r, d2_self]
    exact sq_nn R⟩
theorem tg_00 {X Y : Nat → Int} {R : Int} : Tg X Y R 0 := Or.inl ⟨0, fun q hq => by
  rw [Nat.zero_testBit] at hq
  cases hq⟩
theorem sumb_or {S : Nat → Int} {o m : Nat} (hm : o.testBit m = false) : ∀ n, sumb S (o ||| 2 ^ m) n = sumb S o n + (if m < n then S m else 0)
  | 0 => by simp [sumb]
  | n + 1 => by
    rw [sumb, sumb, sumb_or hm n]
    by_cases e : n = m
    · subst e
      have : (o ||| 2 ^ n).testBit n = true := tb_or_pow.mpr (Or.inr rfl)
      rw [this, hm, if_pos (rfl : true = true), if_neg (Bool.false_ne_true), if_neg (Nat.lt_irrefl n), if_pos (Nat.lt_succ_self n)]
    · have : (o ||| 2 ^ m).testBit n = o.testBit n := by
        rw [Nat.testBit_or, tb_pow, beq_false_of_ne e, Bool.or_false]
      rw [this]
      by_cases q : m < n
      · rw [if_pos q, if_pos (show m < n + 1 by omega)]
        omega
      · rw [if_neg q, if_neg (show ¬ m < n + 1 by omega)]
        omega
theorem tb_clr2 {M p q : Nat} (hM : M < 33554432) : (M &&& (2 ^ p ^^^ 4294967295)).testBit q = (M.testBit q && !(q == p)) := by
  rw [Nat.testBit_and, Nat.testBit_xor, tb_pow, show (4294967295 : Nat) = 2 ^ 32 - 1 from rfl, Nat.testBit_two_pow_sub_one]
  by_cases hq : q < 25
  · rw [decide_eq_true (by omega)]
    cases q == p <;> rfl
  · rw [tb_big (n := 25) hM (by omega), Bool.false_and, Bool.false_and]
/-- a set with m is one without m, and m -/
theorem clr_orm {o m : Nat} (ho : o < 33554432) (hm : o.testBit m = true) : (o &&& (2 ^ m ^^^ 4294967295)) ||| 2 ^ m = o := bits_ext fun q => by
  rw [Nat.testBit_or, tb_clr2 ho, tb_pow]
  by_cases e : q = m
  · rw [e, hm]
    simp
  · rw [beq_false_of_ne e]
    simp
/-- the heaviest with one more: the heaviest without it, or with it -/
theorem hm_one {X Y S : Nat → Int} {R : Int} {T m : Nat} {w j v : Int} (hT : T < 33554432) (hm : T.testBit m = false) (hm25 : m < 25)
    (hw : HM (fun o => SubN o T ∧ Tg X Y R o) (fun o => sumb S o 25) w) (hj : HM (fun o => SubN o T ∧ Tg X Y R (o ||| 2 ^ m)) (fun o => sumb S o 25) j)
    (hv : HM (fun o => SubN o (T ||| 2 ^ m) ∧ Tg X Y R o) (fun o => sumb S o 25) v) : v = if w < j + S m then j + S m else w := by
  obtain ⟨⟨o, ⟨o1, o2⟩, o3⟩, hv2⟩ := hv
  obtain ⟨⟨ow, ⟨w1, w2⟩, w3⟩, hw2⟩ := hw
  obtain ⟨⟨oj, ⟨j1, j2⟩, j3⟩, hj2⟩ := hj
  have hp := pow_25 hm25
  have hTm : T ||| 2 ^ m < 33554432 := Nat.or_lt_two_pow (n := 25) hT hp
  have a1 : sumb S ow 25 ≤ v := hv2 ow ⟨fun q hq => tb_or_pow.mpr (Or.inl (w1 q hq)), w2⟩
  have nb : ∀ u, SubN u T → u.testBit m = false := fun u hu => by
    cases e : u.testBit m with
    | false => rfl
    | true =>
      rw [hu m e] at hm
      cases hm
  have a2 : sumb S oj 25 + S m ≤ v := by
    have := hv2 (oj ||| 2 ^ m) ⟨fun q hq => tb_or_pow.mpr ((tb_or_pow.mp hq).imp (j1 q) id), j2⟩
    have e : sumb S (oj ||| 2 ^ m) 25 = sumb S oj 25 + S m := by rw [sumb_or (nb oj j1), if_pos hm25]
    have this : sumb S (oj ||| 2 ^ m) 25 ≤ v := this
    omega
  have o3 : v = sumb S o 25 := o3
  have w3 : w = sumb S ow 25 := w3
  have j3 : j = sumb S oj 25 := j3
  have ol := sub_25 hTm o1
  by_cases e : o.testBit m = true
  · have h1 : SubN (o &&& (2 ^ m ^^^ 4294967295)) T := fun q hq => by
      rw [tb_clr2 ol, Bool.and_eq_true] at hq
      rcases tb_or_pow.mp (o1 q hq.1) with r | r
      · exact r
      · rw [r] at hq
        simp at hq
    have h2 := hj2 (o &&& (2 ^ m ^^^ 4294967295)) ⟨h1, by rw [clr_orm ol e]; exact o2⟩
    have h2 : sumb S (o &&& (2 ^ m ^^^ 4294967295)) 25 ≤ j := h2
    have h3 : sumb S o 25 = sumb S (o &&& (2 ^ m ^^^ 4294967295)) 25 + S m := by
      have := sumb_or (S := S) (nb _ h1) 25
      rw [clr_orm ol e, if_pos hm25] at this
      exact this
    by_cases c : w < j + S m
    · rw [if_pos c]
      omega
    · rw [if_neg c]
      omega
  · have h2 := hw2 o ⟨fun q hq => by
      rcases tb_or_pow.mp (o1 q hq) with r | r
      · exact r
      · rw [r] at hq
        exact absurd hq e, o2⟩
    have h2 : sumb S o 25 ≤ w := h2
    by_cases c : w < j + S m
    · rw [if_pos c]
      omega
    · rw [if_neg c]
      omega
