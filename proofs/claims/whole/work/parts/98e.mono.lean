/-! ===== pure level: a greater radius holds more; the start ===== -/
theorem f_candQ {F : Type} [Lean.Grind.CommRing F] [LE F] [LT F] [Std.LawfulOrderLT F] [Std.IsLinearOrder F] [Lean.Grind.OrderedRing F] {io : Int → F} (i0 : io 0 = 0) (ia : ∀ a b, io (a + b) = io a + io b) (is : ∀ a b, io (a - b) = io a - io b) (im : ∀ a b, io (a * b) = io a * io b) (il : ∀ a b, a ≤ b ↔ io a ≤ io b)
    (ir : ∀ K D : Int, 0 ≤ K → 0 < D → ∃ t : F, 0 ≤ t ∧ io D * (t * t) = io K)
    {X Y : Nat → Int} {R Q : Int} {L : List Nat} (hRQ : 4 * R * R ≤ 4 * Q * Q) (hc : (∃ a, ∀ q, q ∈ L → d2 X Y a q ≤ R * R) ∨ ∃ a b side, rimOk X Y R a b ∧ ∀ q, q ∈ L → inD X Y R a b side q = true) (hu : ∃ p, p ∈ L ∧ ∃ q, q ∈ L ∧ d2 X Y p q ≠ 0) :
    ∃ a, a ∈ L ∧ ∃ b, b ∈ L ∧ rimOk X Y Q a b ∧ ∃ side, ∀ q, q ∈ L → inD X Y Q a b side q = true := by
  have i2 : ∀ a, io (2 * a) = 2 * io a := fun a => by rw [show 2 * a = a + a by omega, ia]; grind
  have i4 : ∀ a, io (4 * a) = 4 * io a := fun a => by rw [show 4 * a = a + a + a + a by omega, ia, ia, ia]; grind
  have hd : ∀ p q, io (d2 X Y p q) = (io (X q) - io (X p)) * (io (X q) - io (X p)) + (io (Y q) - io (Y p)) * (io (Y q) - io (Y p)) := fun p q => by
    unfold d2
    rw [ia, im, im, is, is]
    grind
  rcases hc with ⟨a, ha⟩ | ⟨a, b, side, hr, hin⟩
  · refine f_main (Cx := io (2 * X a)) (Cy := io (2 * Y a)) i0 ia is im il ir (fun q hq => Std.le_trans (b := io (4 * R * R)) ?_ ((il _ _).mp hRQ)) hu
    have h := (il _ _).mp (ha q hq)
    rw [hd] at h
    rw [show 4 * R * R = 4 * (R * R) by grind, i4, i2, i2, i2, i2]
    grind
  · obtain ⟨t, ht, e⟩ := ir (4 * R * R - d2 X Y a b) (d2 X Y a b) (by have := hr.2; omega) hr.1
    have hdot : ∀ q, io (dotp X Y a b q) = (io (X q) - io (X a)) * (io (X q) - io (X b)) + (io (Y q) - io (Y a)) * (io (Y q) - io (Y b)) := fun q => by
      unfold dotp
      rw [ia, im, im, is, is, is, is]
    have hcr : ∀ q, io (crs X Y a b q) = (io (X b) - io (X a)) * (io (Y q) - io (Y a)) - (io (Y b) - io (Y a)) * (io (X q) - io (X a)) := fun q => by
      unfold crs
      rw [is, im, im, is, is, is, is]
    have hN := e
    rw [is, hd] at hN
    cases side with
    | false =>
      refine f_main (Cx := 2 * io (X a) + (io (X b) - io (X a)) - t * (io (Y b) - io (Y a))) (Cy := 2 * io (Y a) + (io (Y b) - io (Y a)) + t * (io (X b) - io (X a))) i0 ia is im il ir (fun q hq => Std.le_trans (b := io (4 * R * R)) ?_ ((il _ _).mp hRQ)) hu
      have h := hin q hq
      unfold inD at h
      rw [if_neg (by decide), f_inS i0 im il ht hr.1 e, hdot, hcr] at h
      rw [i2, i2]
      grind
    | true =>
      refine f_main (Cx := 2 * io (X a) + (io (X b) - io (X a)) + t * (io (Y b) - io (Y a))) (Cy := 2 * io (Y a) + (io (Y b) - io (Y a)) - t * (io (X b) - io (X a))) i0 ia is im il ir (fun q hq => Std.le_trans (b := io (4 * R * R)) ?_ ((il _ _).mp hRQ)) hu
      have h := hin q hq
      unfold inD at h
      rw [if_pos rfl, f_inS i0 im il ht hr.1 e, hdot, show -crs X Y a b q = 0 - crs X Y a b q by omega, is, i0, hcr] at h
      rw [i2, i2]
      grind
theorem geo_pairQ {X Y : Nat → Int} {R Q : Int} {L : List Nat} (hRQ : 4 * R * R ≤ 4 * Q * Q) (hc : (∃ a, ∀ q, q ∈ L → d2 X Y a q ≤ R * R) ∨ ∃ a b side, rimOk X Y R a b ∧ ∀ q, q ∈ L → inD X Y R a b side q = true) (hu : ∃ p, p ∈ L ∧ ∃ q, q ∈ L ∧ d2 X Y p q ≠ 0) :
    ∃ a, a ∈ L ∧ ∃ b, b ∈ L ∧ rimOk X Y Q a b ∧ ∃ side, ∀ q, q ∈ L → inD X Y Q a b side q = true :=
  @f_candQ RR rrR rrLE rrLT rrLaw rrLin rrOrd io (rqk_cg fun _ => rfl) io_add io_sub io_mul io_le io_r X Y R Q L hRQ hc hu
theorem cnd_covQ {X Y : Nat → Int} {R Q : Int} {M s j o : Nat} (hRQ : 4 * R * R ≤ 4 * Q * Q) (hM : M < 16777216) (hs : ∀ q, s.testBit q = true → M.testBit q = true) (hj : j < 576) (hRR : 0 ≤ Q * Q) (ho : o ≠ 0) (hos : ∀ q, o.testBit q = true → s.testBit q = true ∧ (esN X Y R M j).testBit q = true) :
    ∃ c, Cnd X Y Q s 25 c ∧ ∀ q, o.testBit q = true → c.testBit q = true := by
  have hsl := sub_24 hM hs
  have ho24 : ∀ q, o.testBit q = true → q < 24 := fun q hq => bit_lt hsl (hos q hq).1
  have mem : ∀ q, q ∈ (List.range 24).filter (fun q => o.testBit q) ↔ o.testBit q = true := fun q => by
    rw [List.mem_filter, List.mem_range]
    exact ⟨fun h => h.2, fun h => ⟨ho24 q h, h⟩⟩
  by_cases hu : ∃ p, p ∈ (List.range 24).filter (fun q => o.testBit q) ∧ ∃ q, q ∈ (List.range 24).filter (fun q => o.testBit q) ∧ d2 X Y p q ≠ 0
  · have hc : (∃ a, ∀ q, q ∈ (List.range 24).filter (fun q => o.testBit q) → d2 X Y a q ≤ R * R) ∨ ∃ a b side, rimOk X Y R a b ∧ ∀ q, q ∈ (List.range 24).filter (fun q => o.testBit q) → inD X Y R a b side q = true := by
      have hq : ∀ q, o.testBit q = true → (if j / 24 = j % 24 then decide (d2 X Y (j / 24) q ≤ R * R) else rimD X Y R (j / 24) (j % 24) false q) = true := fun q hq => by
        have := (hos q hq).2
        unfold esN at this
        rw [tb_mks] at this
        unfold esS at this
        rw [Bool.and_eq_true, Bool.and_eq_true] at this
        exact this.2.2
      by_cases hab : j / 24 = j % 24
      · left
        refine ⟨j / 24, fun q hm => ?_⟩
        have := hq q ((mem q).mp hm)
        rw [if_pos hab, decide_eq_true_iff] at this
        exact this
      · right
        obtain ⟨q0, h0⟩ := ex_bit ho
        have h1 := hq q0 h0
        rw [if_neg hab, rimD_iff] at h1
        refine ⟨j / 24, j % 24, false, h1.1, fun q hm => ?_⟩
        have := hq q ((mem q).mp hm)
        rw [if_neg hab, rimD_iff] at this
        exact this.2
    obtain ⟨a, ha, b, hb, hok, side, hin⟩ := geo_pairQ hRQ hc hu
    have ha := (mem a).mp ha
    have hb := (mem b).mp hb
    have hne : a ≠ b := fun e => by
      have := hok.1
      rw [e, d2_self] at this
      omega
    have fin : ∀ a b side, o.testBit a = true → o.testBit b = true → a < b → rimOk X Y Q a b → (∀ q, o.testBit q = true → inD X Y Q a b side q = true) → ∃ c, Cnd X Y Q s 25 c ∧ ∀ q, o.testBit q = true → c.testBit q = true := by
      intro a b side ha hb hlt hok hin
      refine ⟨rmS X Y Q s a b side, ⟨a, by have := ho24 a ha; omega, (hos a ha).1, Or.inr ⟨b, by have := ho24 b hb; omega, hlt, (hos b hb).1, hok, side, rfl⟩⟩, fun q hq => ?_⟩
      unfold rmS
      rw [tb_mks, decide_eq_true (by have := ho24 q hq; omega), (hos q hq).1, hin q hq]
      simp
    rcases Nat.lt_or_gt_of_ne hne with h | h
    · exact fin a b side ha hb h hok (fun q hq => hin q ((mem q).mpr hq))
    · exact fin b a (!side) hb ha h (rim_sym.mp hok) (fun q hq => by rw [← inD_sym]; exact hin q ((mem q).mpr hq))
  · obtain ⟨p, hp⟩ := ex_bit ho
    refine ⟨arS X Y Q s p, ⟨p, by have := ho24 p hp; omega, (hos p hp).1, Or.inl rfl⟩, fun q hq => ?_⟩
    have h0 : d2 X Y p q = 0 := Classical.byContradiction fun h => hu ⟨p, (mem p).mpr hp, q, (mem q).mpr hq, h⟩
    unfold arS
    rw [tb_mks, decide_eq_true (by have := ho24 q hq; omega), (hos q hq).1, h0, decide_eq_true hRR]
    rfl
theorem HvI_ex (S : Nat → Int) (e : Nat → Nat) : ∀ n, ∃ o, HvI S e n o
  | 0 => ⟨0, Or.inl ⟨rfl, fun j hj => by omega⟩⟩
  | i + 1 => by
    obtain ⟨o, h⟩ := HvI_ex S e i
    have st : ∀ j, j < i + 1 → j < i ∨ j = i := fun j hj => by omega
    by_cases h0 : e i = 0
    · refine ⟨o, ?_⟩
      rcases h with ⟨h1, h2⟩ | ⟨h1, ⟨j, hj, h2⟩, h3⟩
      · exact Or.inl ⟨h1, fun j hj => (st j hj).elim (h2 j) (fun q => by rw [q]; exact h0)⟩
      · exact Or.inr ⟨h1, ⟨j, by omega, h2⟩, fun k hk => (st k hk).elim (h3 k) (fun q hq => absurd (by rw [q]; exact h0) hq)⟩
    · rcases h with ⟨h1, h2⟩ | ⟨h1, ⟨j, hj, h2⟩, h3⟩
      · refine ⟨e i, Or.inr ⟨h0, ⟨i, by omega, rfl⟩, fun k hk hq => ?_⟩⟩
        rcases st k hk with q | q
        · exact absurd (h2 k q) hq
        · rw [q]
          exact Or.inr ⟨rfl, Nat.le_refl _⟩
      · by_cases c1 : sumb S (e i) 24 < sumb S o 24 ∨ (sumb S (e i) 24 = sumb S o 24 ∧ o ≤ e i)
        · refine ⟨o, Or.inr ⟨h1, ⟨j, by omega, h2⟩, fun k hk hq => ?_⟩⟩
          rcases st k hk with q | q
          · exact h3 k q hq
          · rw [q]
            exact c1
        · refine ⟨e i, Or.inr ⟨h0, ⟨i, by omega, rfl⟩, fun k hk hq => ?_⟩⟩
          rcases st k hk with q | q
          · have := h3 k q hq
            omega
          · rw [q]
            exact Or.inr ⟨rfl, Nat.le_refl _⟩
theorem hv_mono {X Y S : Nat → Int} {R Q : Int} {s : Nat} (hRQ : 4 * R * R ≤ 4 * Q * Q) (hsl : s < 16777216) (hS : ∀ q, s.testBit q = true → 0 < S q) : (hvS X Y S R none s).1 ≤ (hvS X Y S Q none s).1 := by
  obtain ⟨o, ho⟩ := HvI_ex S (fun j => esN X Y R s j &&& s) 576
  obtain ⟨u, hu⟩ := HvI_ex S (fun j => esN X Y Q s j &&& s) 576
  rw [hv_of hsl (fun q h => h) (sq_nn R) hS ho, hv_of hsl (fun q h => h) (sq_nn Q) hS hu]
  show sumb S o 24 ≤ sumb S u 24
  have nn : ∀ t : Nat, (∀ q, t.testBit q = true → s.testBit q = true) → 0 ≤ sumb S t 24 := fun t ht => by
    have := sumb_mono (S := S) (s := 0) (t := t) (n := 24) (fun i _ hi => by rw [Nat.zero_testBit] at hi; cases hi) (fun i _ hi => Int.le_of_lt (hS i (ht i hi)))
    rwa [sumb_0] at this
  have us : ∀ q, u.testBit q = true → s.testBit q = true := fun q hq => by
    rcases hu with ⟨h1, -⟩ | ⟨-, ⟨j, -, h2⟩, -⟩
    · rw [h1, Nat.zero_testBit] at hq
      cases hq
    · rw [h2, Nat.testBit_and, Bool.and_eq_true] at hq
      exact hq.2
  rcases ho with ⟨h1, -⟩ | ⟨h1, ⟨j, hj, h2⟩, -⟩
  · rw [h1, sumb_0]
    exact nn u us
  · have h2 : o = esN X Y R s j &&& s := h2
    have oe : ∀ q, o.testBit q = true → s.testBit q = true ∧ (esN X Y R s j).testBit q = true := fun q hq => by
      rw [h2, Nat.testBit_and, Bool.and_eq_true] at hq
      exact ⟨hq.2, hq.1⟩
    obtain ⟨c, hc, hoc⟩ := cnd_covQ hRQ hsl (fun q h => h) hj (sq_nn Q) h1 oe
    obtain ⟨cl, c0, k, hk, e⟩ := cnd_esN hsl (fun q h => h) hc (sq_nn Q)
    have cs : ∀ q, c.testBit q = true → s.testBit q = true := fun q hq => by
      rw [e, Nat.testBit_and, Bool.and_eq_true] at hq
      exact hq.2
    have l1 : sumb S o 24 ≤ sumb S c 24 := sumb_mono (fun i _ hi => hoc i hi) (fun i _ hi => Int.le_of_lt (hS i (cs i hi)))
    have l2 : sumb S c 24 ≤ sumb S u 24 := by
      rcases hu with ⟨-, h3⟩ | ⟨-, -, h3⟩
      · exact absurd (e.trans (h3 k hk)) c0
      · have := h3 k hk (fun q => c0 (e.trans q))
        have e' : (fun j => esN X Y Q s j &&& s) k = c := e.symm
        rw [e'] at this
        omega
    omega
theorem Rl_mono : ∀ j σd σm, Rl j σd σm → Rl (j + 1) σd σm := fun j σd σm ⟨F, N, h⟩ => ⟨F, N, Rn.mono (n := j) h (Nat.le_succ j)⟩
theorem Rl_0 : Rl 0 sg0 sg0 := by
  have z : ∀ k j, k ≠ 3 → k ≠ 13 → k ≠ 15 → k ≠ 41 → sg0 k j = 0 := fun k j h1 h2 h3 h4 => by
    unfold sg0
    rw [if_neg h1, if_neg h2, if_neg h3, if_neg h4]
  refine ⟨0, 0, ⟨⟨rfl, by decide, fun q _ => ?_⟩, fun g i hg hi => ?_⟩, ⟨by decide, rfl, rfl, fun t ht => by omega⟩, ⟨⟨rfl, ⟨0, rfl, by omega, rfl, fun i j _ h _ => by omega⟩, rfl⟩, ⟨0, rfl, by omega, rfl, fun i j _ h _ => by omega⟩, rfl⟩, ⟨⟨rfl, ⟨by decide, by decide⟩, fun j _ => ⟨rfl, (by decide : (0 : Int) ≤ 0), (by decide : (0 : Int) ≤ 255)⟩⟩, ⟨rfl, rfl⟩, rfl, Or.inl rfl⟩, fun t ht => by omega⟩
  · rw [Nat.zero_testBit]
    exact ⟨rfl, ⟨rfl, rfl, rfl, rfl⟩, ⟨⟨(by decide : (0 : Int) ≤ 0), (by decide : (0 : Int) < 300)⟩, (by decide : (0 : Int) ≤ 0), (by decide : (0 : Int) < 300)⟩, ⟨(by decide : (0 : Int) ≤ 0), (by decide : (0 : Int) ≤ 3)⟩, ⟨(by decide : (0 : Int) ≤ 0), (by decide : (0 : Int) ≤ 99999)⟩, fun e => by cases e⟩
  · have : ∀ m, sumb (fun k => sg0 9 (8 * g + k)) i m = 0 := fun m => by
      induction m with
      | zero => rfl
      | succ m ih =>
        rw [sumb, ih]
        show 0 + (if i.testBit m = true then (0 : Int) else 0) = 0
        split <;> rfl
    rw [this]
    rfl
