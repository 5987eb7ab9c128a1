/-! ===== what lies in one disc of a radius lies in one with two of its own on the rim ===== -/
theorem f_cand {F : Type} [Lean.Grind.CommRing F] [LE F] [LT F] [Std.LawfulOrderLT F] [Std.IsLinearOrder F] [Lean.Grind.OrderedRing F] {io : Int → F} (i0 : io 0 = 0) (ia : ∀ a b, io (a + b) = io a + io b) (is : ∀ a b, io (a - b) = io a - io b) (im : ∀ a b, io (a * b) = io a * io b) (il : ∀ a b, a ≤ b ↔ io a ≤ io b)
    (ir : ∀ K D : Int, 0 ≤ K → 0 < D → ∃ t : F, 0 ≤ t ∧ io D * (t * t) = io K)
    {X Y : Nat → Int} {R : Int} {L : List Nat} (hc : (∃ a, ∀ q, q ∈ L → d2 X Y a q ≤ R * R) ∨ ∃ a b side, rimOk X Y R a b ∧ ∀ q, q ∈ L → inD X Y R a b side q = true) (hu : ∃ p, p ∈ L ∧ ∃ q, q ∈ L ∧ d2 X Y p q ≠ 0) :
    ∃ a, a ∈ L ∧ ∃ b, b ∈ L ∧ rimOk X Y R a b ∧ ∃ side, ∀ q, q ∈ L → inD X Y R a b side q = true := by
  have i2 : ∀ a, io (2 * a) = 2 * io a := fun a => by rw [show 2 * a = a + a by omega, ia]; grind
  have i4 : ∀ a, io (4 * a) = 4 * io a := fun a => by rw [show 4 * a = a + a + a + a by omega, ia, ia, ia]; grind
  have hd : ∀ p q, io (d2 X Y p q) = (io (X q) - io (X p)) * (io (X q) - io (X p)) + (io (Y q) - io (Y p)) * (io (Y q) - io (Y p)) := fun p q => by
    unfold d2
    rw [ia, im, im, is, is]
    grind
  rcases hc with ⟨a, ha⟩ | ⟨a, b, side, hr, hin⟩
  · refine f_main (Cx := io (2 * X a)) (Cy := io (2 * Y a)) i0 ia is im il ir (fun q hq => ?_) hu
    have h := (il _ _).mp (ha q hq)
    rw [hd] at h
    rw [show 4 * R * R = 4 * (R * R) by grind, i4, i2, i2, i2, i2]
    grind
  · obtain ⟨t, ht, e⟩ := ir (4 * R * R - d2 X Y a b) (d2 X Y a b) (by have := hr.2; omega) hr.1
    have hdot : ∀ q, io (dotp X Y a b q) = (io (X q) - io (X a)) * (io (X q) - io (X b)) + (io (Y q) - io (Y a)) * (io (Y q) - io (Y b)) := fun q => by
      unfold dotp
      rw [ia, im, im, is, is, is, is]
    have hcr : ∀ q, io (crs X Y a b q) = (io (X b) - io (X a)) * (io (Y q) - io (Y a)) - (io (Y b) - io (Y a)) * (io (X q) - io (X a)) := fun q => by
      unfold crs
      rw [is, im, im, is, is, is, is]
    have hN := e
    rw [is, hd] at hN
    cases side with
    | false =>
      refine f_main (Cx := 2 * io (X a) + (io (X b) - io (X a)) - t * (io (Y b) - io (Y a))) (Cy := 2 * io (Y a) + (io (Y b) - io (Y a)) + t * (io (X b) - io (X a))) i0 ia is im il ir (fun q hq => ?_) hu
      have h := hin q hq
      unfold inD at h
      rw [if_neg (by decide), f_inS i0 im il ht hr.1 e, hdot, hcr] at h
      rw [i2, i2]
      grind
    | true =>
      refine f_main (Cx := 2 * io (X a) + (io (X b) - io (X a)) + t * (io (Y b) - io (Y a))) (Cy := 2 * io (Y a) + (io (Y b) - io (Y a)) - t * (io (X b) - io (X a))) i0 ia is im il ir (fun q hq => ?_) hu
      have h := hin q hq
      unfold inD at h
      rw [if_pos rfl, f_inS i0 im il ht hr.1 e, hdot, show -crs X Y a b q = 0 - crs X Y a b q by omega, is, i0, hcr] at h
      rw [i2, i2]
      grind
theorem geo_pair {X Y : Nat → Int} {R : Int} {L : List Nat} (hc : (∃ a, ∀ q, q ∈ L → d2 X Y a q ≤ R * R) ∨ ∃ a b side, rimOk X Y R a b ∧ ∀ q, q ∈ L → inD X Y R a b side q = true) (hu : ∃ p, p ∈ L ∧ ∃ q, q ∈ L ∧ d2 X Y p q ≠ 0) :
    ∃ a, a ∈ L ∧ ∃ b, b ∈ L ∧ rimOk X Y R a b ∧ ∃ side, ∀ q, q ∈ L → inD X Y R a b side q = true :=
  @f_cand RR rrR rrLE rrLT rrLaw rrLin rrOrd io (rqk_cg fun _ => rfl) io_add io_sub io_mul io_le io_r X Y R L hc hu
