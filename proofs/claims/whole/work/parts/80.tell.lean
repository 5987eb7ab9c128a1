/-! ===== pure level: the class's treaties follow an act ===== -/
def tkB (ζ : Sg) (t q : Nat) : Bool := (ζ 50 t).toNat.testBit q
theorem takes_n {z ζ : Sg} {t q : Nat} (ht : t < 6) (hq : q < 4) (e : z (21 + t) 2 = ζ 50 t) (h : 1 ≤ ζ 50 t ∧ ζ 50 t ≤ 15) : f_X8_takes t (q : Int) z = some (if tkB ζ t q = true then 1 else 0) := by
  obtain ⟨k, hk⟩ : ∃ k : Nat, ζ 50 t = (k : Int) := ⟨(ζ 50 t).toNat, by omega⟩
  unfold f_X8_takes tkB
  rw [ck_t ht, e, hk, contains_n (by omega) (by omega), Option.bind_some, ntn]
  cases k.testBit q
  · exact ck_t (Or.inl rfl)
  · exact ck_t (Or.inr rfl)
def FrT (z z' : Sg) : Prop := ∀ k j, ¬ (27 ≤ k ∧ k < 33 ∧ 2 ≤ j ∧ j ≤ 5) → ¬ (34 ≤ k ∧ k < 40) → z' k j = z k j
theorem FrT.row {k : Nat} {z z' : Sg} (h : FrT z z') (h1 : ¬ (27 ≤ k ∧ k < 33)) (h2 : ¬ (34 ≤ k ∧ k < 40)) : z' k = z k := by
  funext j
  exact h k j (fun q => h1 ⟨q.1, q.2.1⟩) h2
theorem FrD.ft {d : Nat} {z w w' : Sg} (hd : d < 6) (h : FrT z w) (h2 : FrD d w w') : FrT z w' := fun k j a b => (h2 k j (by omega) (by omega)).trans (h k j a b)
theorem FrD.di {d u M : Nat} {w w' : Sg} {R : Int} (hd : d < 7) (hu : u < 7) (hne : u ≠ d) (h2 : FrD d w w') (h : DI w u R M) : DI w' u R M :=
  h.cg ⟨h2 _ _ (by omega) (by omega), h2 _ _ (by omega) (by omega)⟩ (h2.row (by omega) (by omega)) (h2.row (by omega) (by omega)) (h2.row (by omega) (by omega))
theorem join_n {z ζ : Sg} {N p q F : Nat} {Mo : Nat → Nat} (hN6 : N ≤ 6) (hN : z 0 4 = (N : Int)) (hp : p < 24) (hq : q < 4) (hF : z 6 5 = (F : Int)) (hFl : F < 16777216) (hFp : F.testBit p = true) (hPl : ∀ q, q < 24 → Pl (z 7) (z 8) q)
    (h : ∀ t, t < N → z (21 + t) 2 = ζ 50 t ∧ MTr ζ t ∧ DI z t (ζ 51 t) (Mo t) ∧ (∀ q, (Mo t).testBit q = true → F.testBit q = true) ∧ (tkB ζ t q = true → (Mo t).testBit p = false)) :
    ∃ z', f_X9_joinTreaties (p : Int) (q : Int) z = some z' ∧ FrT z z' ∧ ∀ t, t < N → DI z' t (ζ 51 t) (if tkB ζ t q = true then Mo t ||| 2 ^ p else Mo t) := by
  unfold f_X9_joinTreaties
  obtain ⟨w, n, ⟨hf, hD⟩, he⟩ := loop_ex (F := fun n i w => f_X9_joinTreaties_b2 n (p : Int) (q : Int) i w) N (fun i w => FrT z w ∧ ∀ t, t < N → DI w t (ζ 51 t) (if t < i ∧ tkB ζ t q = true then Mo t ||| 2 ^ p else Mo t)) (fun n i w hi hI => by
    obtain ⟨hf, hD⟩ := hI
    show ∃ s', _ ∧ f_X9_joinTreaties_b2 (n + 1) (p : Int) (q : Int) (i : Int) w = f_X9_joinTreaties_b2 n (p : Int) (q : Int) ((i : Int) + 1) s'
    obtain ⟨h2, hM, -, hMF, hMp⟩ := h i hi
    have w0 : w 0 4 = (N : Int) := (hf 0 4 (by omega) (by omega)).trans hN
    have w2 : w (21 + i) 2 = ζ 50 i := (hf _ 2 (by omega) (by omega)).trans h2
    rw [f_X9_joinTreaties_b2, w32_n (by omega), w0, w32_n (by omega), if_pos (by omega), treatyAt_t w0 hi hN6, Option.bind_some, oTs_ (by omega)]
    rw [takes_n (by omega) hq w2 hM.1, Option.bind_some]
    cases hk : tkB ζ i q with
    | false =>
      rw [b01_f rfl]
      refine ⟨w, ⟨hf, fun t ht => ?_⟩, rfl⟩
      have hd := hD t ht
      by_cases e : t = i
      · subst e
        rw [if_neg (by rw [hk]; exact fun q => by cases q.2)]
        rw [if_neg (by omega)] at hd
        exact hd
      · have hiff : (t < i + 1 ∧ tkB ζ t q = true) ↔ (t < i ∧ tkB ζ t q = true) := ⟨fun a => ⟨by omega, a.2⟩, fun a => ⟨by omega, a.2⟩⟩
        simp only [hiff]
        exact hd
    | true =>
      rw [b01_t rfl]
      have hd := hD i hi
      rw [if_neg (by omega)] at hd
      obtain ⟨w', ew, dw, fw⟩ := add_n (σ := w) (d := i) (p := p) (M := Mo i) (F := F) (by omega) hp (by rw [hf 6 5 (by omega) (by omega)]; exact hF) hFl hFp hMF (hMp hk) (by have := hM.2.1; omega) (by rw [hf.row (by omega) (by omega), hf.row (by omega) (by omega)]; exact hPl) hd
      rw [ew, Option.bind_some]
      refine ⟨w', ⟨FrD.ft (by omega) hf fw, fun t ht => ?_⟩, rfl⟩
      by_cases e : t = i
      · subst e
        rw [if_pos ⟨by omega, hk⟩]
        exact dw
      · have hiff : (t < i + 1 ∧ tkB ζ t q = true) ↔ (t < i ∧ tkB ζ t q = true) := ⟨fun a => ⟨by omega, a.2⟩, fun a => ⟨by omega, a.2⟩⟩
        simp only [hiff]
        exact FrD.di (by omega) (by omega) e fw (hD t ht)) N 0 z FUEL (by omega) ⟨fun _ _ _ _ => rfl, fun t ht => by rw [if_neg (by omega)]; exact (h t ht).2.2.1⟩ (fuel_lt (by omega))
  have he : f_X9_joinTreaties_b2 FUEL (p : Int) (q : Int) 0 z = f_X9_joinTreaties_b2 (n + 1) (p : Int) (q : Int) (N : Int) w := he
  refine ⟨w, ?_, hf, fun t ht => ?_⟩
  · rw [he, f_X9_joinTreaties_b2, w32_n (by omega), hf 0 4 (by omega) (by omega), hN, w32_n (by omega), if_neg (by omega)]
  · have hd := hD t ht
    have hiff : (t < N ∧ tkB ζ t q = true) ↔ (tkB ζ t q = true) := ⟨fun a => a.2, fun a => ⟨ht, a⟩⟩
    simp only [hiff] at hd
    exact hd
theorem leave_n {z ζ : Sg} {N p q : Nat} {Mo : Nat → Nat} (hN6 : N ≤ 6) (hN : z 0 4 = (N : Int)) (hp : p < 24) (hq : q < 4)
    (h : ∀ t, t < N → z (21 + t) 2 = ζ 50 t ∧ MTr ζ t ∧ DI z t (ζ 51 t) (Mo t) ∧ Mo t < 16777216) :
    ∃ z', f_X9_leaveTreaties (p : Int) (q : Int) z = some z' ∧ FrT z z' ∧ ∀ t, t < N → DI z' t (ζ 51 t) (if tkB ζ t q = true then Mo t &&& (2 ^ p ^^^ 4294967295) else Mo t) := by
  unfold f_X9_leaveTreaties
  obtain ⟨w, n, ⟨hf, hD⟩, he⟩ := loop_ex (F := fun n i w => f_X9_leaveTreaties_b2 n (p : Int) (q : Int) i w) N (fun i w => FrT z w ∧ ∀ t, t < N → DI w t (ζ 51 t) (if t < i ∧ tkB ζ t q = true then Mo t &&& (2 ^ p ^^^ 4294967295) else Mo t)) (fun n i w hi hI => by
    obtain ⟨hf, hD⟩ := hI
    show ∃ s', _ ∧ f_X9_leaveTreaties_b2 (n + 1) (p : Int) (q : Int) (i : Int) w = f_X9_leaveTreaties_b2 n (p : Int) (q : Int) ((i : Int) + 1) s'
    obtain ⟨h2, hM, -, hMl⟩ := h i hi
    have w0 : w 0 4 = (N : Int) := (hf 0 4 (by omega) (by omega)).trans hN
    have w2 : w (21 + i) 2 = ζ 50 i := (hf _ 2 (by omega) (by omega)).trans h2
    rw [f_X9_leaveTreaties_b2, w32_n (by omega), w0, w32_n (by omega), if_pos (by omega), treatyAt_t w0 hi hN6, Option.bind_some, oTs_ (by omega)]
    rw [takes_n (by omega) hq w2 hM.1, Option.bind_some]
    cases hk : tkB ζ i q with
    | false =>
      rw [b01_f rfl]
      refine ⟨w, ⟨hf, fun t ht => ?_⟩, rfl⟩
      have hd := hD t ht
      by_cases e : t = i
      · subst e
        rw [if_neg (by rw [hk]; exact fun q => by cases q.2)]
        rw [if_neg (by omega)] at hd
        exact hd
      · have hiff : (t < i + 1 ∧ tkB ζ t q = true) ↔ (t < i ∧ tkB ζ t q = true) := ⟨fun a => ⟨by omega, a.2⟩, fun a => ⟨by omega, a.2⟩⟩
        simp only [hiff]
        exact hd
    | true =>
      rw [b01_t rfl]
      have hd := hD i hi
      rw [if_neg (by omega)] at hd
      obtain ⟨w', ew, dw, fw⟩ := remove_n (σ := w) (d := i) (p := p) (M := Mo i) (by omega) hp hMl hd
      rw [ew, Option.bind_some]
      refine ⟨w', ⟨FrD.ft (by omega) hf fw, fun t ht => ?_⟩, rfl⟩
      by_cases e : t = i
      · subst e
        rw [if_pos ⟨by omega, hk⟩]
        exact dw
      · have hiff : (t < i + 1 ∧ tkB ζ t q = true) ↔ (t < i ∧ tkB ζ t q = true) := ⟨fun a => ⟨by omega, a.2⟩, fun a => ⟨by omega, a.2⟩⟩
        simp only [hiff]
        exact FrD.di (by omega) (by omega) e fw (hD t ht)) N 0 z FUEL (by omega) ⟨fun _ _ _ _ => rfl, fun t ht => by rw [if_neg (by omega)]; exact (h t ht).2.2.1⟩ (fuel_lt (by omega))
  have he : f_X9_leaveTreaties_b2 FUEL (p : Int) (q : Int) 0 z = f_X9_leaveTreaties_b2 (n + 1) (p : Int) (q : Int) (N : Int) w := he
  refine ⟨w, ?_, hf, fun t ht => ?_⟩
  · rw [he, f_X9_leaveTreaties_b2, w32_n (by omega), hf 0 4 (by omega) (by omega), hN, w32_n (by omega), if_neg (by omega)]
  · have hd := hD t ht
    have hiff : (t < N ∧ tkB ζ t q = true) ↔ (tkB ζ t q = true) := ⟨fun a => a.2, fun a => ⟨ht, a⟩⟩
    simp only [hiff] at hd
    exact hd
theorem look_id {ζ : Sg} {t : Nat} (h : ζ 53 t = -2 ↔ ¬ psM ζ t) : lookM ζ t = ζ := by
  unfold lookM lookP
  by_cases hp : psM ζ t
  · have hal : ¬ ζ 53 t = -2 := fun q => h.mp q hp
    rw [if_pos hp, if_neg hal]
  · rw [if_neg hp]
    have hal := h.mpr hp
    funext k j
    by_cases hk : k = 53
    · subst hk
      by_cases hj : j = t
      · subst hj
        rw [up_s, hal]
      · rw [up_j hj]
    · rw [up_k hk]
/-- behind an act: all treaties of the peril are weighed anew and looked at -/
theorem tell_loop {z ζ : Sg} {F N q na nb : Nat} (hq : q < 4) (hna : na < 100000) (hnb : nb + 6 < 90000) (hB : RelB z ζ F) (hT : RelT z ζ N na) (hL : RelL z ζ na nb) (hO : RelO z ζ) (hQ : ∀ t, t < N → tkB ζ t q = false → TrQ z ζ t) :
    ∃ z', f_X9_tell_b13 FUEL (q : Int) 0 z = some z' ∧ RelB z' (looksM ζ N) F ∧ RelT z' (looksM ζ N) N na ∧ RelL z' (looksM ζ N) na (nb + 6) ∧ RelO z' (looksM ζ N) ∧ ∀ t, t < N → TrQ z' (looksM ζ N) t := by
  have hN6 := hT.1
  obtain ⟨w, n, ⟨iB, iT, iL, iO, iQ⟩, he⟩ := loop_ex (F := fun n i w => f_X9_tell_b13 n (q : Int) i w) N (fun i w => RelB w (looksM ζ i) F ∧ RelT w (looksM ζ i) N na ∧ RelL w (looksM ζ i) na (nb + i) ∧ RelO w (looksM ζ i) ∧ ∀ t, t < N → (t < i ∨ tkB ζ t q = false) → TrQ w (looksM ζ i) t) (fun n i w hi hI => by
    obtain ⟨iB, iT, iL, iO, iQ⟩ := hI
    show ∃ s', _ ∧ f_X9_tell_b13 (n + 1) (q : Int) (i : Int) w = f_X9_tell_b13 n (q : Int) ((i : Int) + 1) s'
    obtain ⟨hD, hA⟩ := iT.2.2.2 i hi
    have k50 : looksM ζ i 50 = ζ 50 := looksM_k (by decide) i
    rw [f_X9_tell_b13, w32_n (by omega), iT.2.1, w32_n (by omega), if_pos (by omega), treatyAt_t iT.2.1 hi hN6, Option.bind_some, oTs_ (by omega)]
    have tk : tkB (looksM ζ i) i q = tkB ζ i q := by
      unfold tkB
      rw [k50]
    rw [takes_n (by omega) hq hD.1.1 hD.2.1.1, Option.bind_some, tk]
    cases hk : tkB ζ i q with
    | false =>
      rw [b01_f rfl]
      have e : looksM ζ (i + 1) = looksM ζ i := look_id (iQ i hi (Or.inr hk)).2
      rw [e]
      refine ⟨w, ⟨iB, iT, ⟨iL.1, iL.2.1.mono (by omega), iL.2.2⟩, iO, fun t ht h => ?_⟩, rfl⟩
      by_cases hti : t = i
      · subst hti
        exact iQ t ht (Or.inr hk)
      · exact iQ t ht (h.imp (fun a => by omega) id)
    | true =>
      rw [b01_t rfl, findWorst_r (by omega) iB hD, Option.bind_some]
      generalize hw1 : up (up w (21 + i) 5 (wsM (looksM ζ i) i).2) (21 + i) 6 (wsM (looksM ζ i) i).1 = w1
      have fr : ∀ k j, ¬ (k = 21 + i ∧ (j = 5 ∨ j = 6)) → w1 k j = w k j := fun k j h => by
        rw [← hw1]
        by_cases hk2 : k = 21 + i
        · subst hk2
          rw [up_j (by omega), up_j (by omega)]
        · rw [up_k hk2, up_k hk2]
      have rw1 : ∀ k, k ≠ 21 + i → w1 k = w k := fun k h => by
        funext j
        exact fr k j (by omega)
      have jB : RelB w1 (looksM ζ i) F := iB.cg (fun k a b => rw1 k (by omega)) (fun _ _ _ => rfl)
      have jT : RelT w1 (looksM ζ i) N na := ⟨hN6, (fr 0 4 (by omega)).trans iT.2.1, iT.2.2.1, fun t ht => ⟨(iT.2.2.2 t ht).1.cg (fun j a b => fr _ j (by omega)) ⟨fr _ _ (by omega), fr _ _ (by omega)⟩ (rw1 _ (by omega)) (rw1 _ (by omega)) (rw1 _ (by omega)) (fun _ _ _ => rfl), by
        have := (iT.2.2.2 t ht).2
        unfold TrA at this ⊢
        rw [fr _ 7 (by omega), fr _ 8 (by omega)]
        exact this⟩⟩
      have jL : RelL w1 (looksM ζ i) na (nb + i) := by
        unfold RelL
        rw [rw1 13 (by omega), rw1 14 (by omega), rw1 15 (by omega), rw1 16 (by omega)]
        exact iL
      have jO : RelO w1 (looksM ζ i) := iO.cg (fr _ _ (by omega)) (rw1 _ (by omega)) (fr _ _ (by omega)) (fr _ _ (by omega)) (rw1 _ (by omega)) rfl rfl rfl rfl rfl rfl
      have jW : TrW w1 (looksM ζ i) i := by
        unfold TrW
        rw [← hw1]
        exact ⟨by rw [up_j (by decide), up_s], up_s⟩
      obtain ⟨w2, e2, lB, lT, lL, lO, lQ, lQ2⟩ := lookAt_n hi hna (by omega) jB jT jL jO jW
      rw [e2, Option.bind_some]
      refine ⟨w2, ⟨lB, lT, lL, lO, fun t ht h => ?_⟩, rfl⟩
      by_cases hti : t = i
      · subst hti
        exact lQ
      · refine lQ2 t hti ht ?_
        have := iQ t ht (h.imp (fun a => by omega) id)
        unfold TrQ TrW at this ⊢
        rw [fr _ 5 (by omega), fr _ 6 (by omega)]
        exact this) N 0 z FUEL (by omega) ⟨hB, hT, hL, hO, fun t ht h => hQ t ht (h.resolve_left (Nat.not_lt_zero _))⟩ (fuel_lt (by omega))
  have he : f_X9_tell_b13 FUEL (q : Int) 0 z = f_X9_tell_b13 (n + 1) (q : Int) (N : Int) w := he
  refine ⟨w, ?_, iB, iT, ⟨iL.1, iL.2.1.mono (by omega), iL.2.2⟩, iO, fun t ht => iQ t ht (Or.inl ht)⟩
  rw [he, f_X9_tell_b13, w32_n (by omega), iT.2.1, w32_n (by omega), if_neg (by omega)]
theorem tell_n {z ζ : Sg} {F N q na nb : Nat} {a b c : Int} (hq : q < 4) (hna : na + 1 < 100000) (hnb : nb + 6 < 90000) (hB : RelB z ζ F) (hT : RelT z ζ N na) (hL : RelL z ζ na nb) (hO : RelO z ζ) (hQ : ∀ t, t < N → tkB ζ t q = false → TrQ z ζ t) :
    ∃ z', f_X9_tell a b c (q : Int) z = some z' ∧ RelB z' (looksM (actM ζ a b c) N) F ∧ RelT z' (looksM (actM ζ a b c) N) N (na + 1) ∧ RelL z' (looksM (actM ζ a b c) N) (na + 1) (nb + 6) ∧ RelO z' (looksM (actM ζ a b c) N) ∧ ∀ t, t < N → TrQ z' (looksM (actM ζ a b c) N) t := by
  obtain ⟨⟨c1, cL, c3⟩, bL, b3⟩ := hL
  obtain ⟨C, hC, hCn, hC3, hC4⟩ := id cL
  unfold f_X9_tell
  obtain ⟨w, e, f1, f2, f3, f4⟩ := note_n (σ := z) (e := 0) (C := C) (a := a) (b := b) (c := c) (by decide) hC (by omega)
  rw [e, Option.bind_some]
  have rw1 : ∀ k, k ≠ 13 → k ≠ 14 → w k = z k := fun k h1 h2 => f1 k h1 h2
  have mk : ∀ k, k ≠ 41 → k ≠ 57 → actM ζ a b c k = ζ k := fun k h1 h2 => actM_k ⟨h1, h2⟩
  have m41 : ∀ j, j ≠ 28 → j ≠ 34 → actM ζ a b c 41 j = ζ 41 j := fun j h1 h2 => actM_41 ⟨h1, h2⟩
  have a28 : actM ζ a b c 41 28 = ζ 41 28 + 1 := by
    unfold actM
    rw [up_j (by decide), rwk_k (by decide), up_s]
  have a34 : actM ζ a b c 41 34 = if ζ 41 34 < 30 then ζ 41 34 + 1 else 30 := by
    unfold actM
    rw [up_s]
  have a57 : actM ζ a b c 57 = noteA (ζ 57) a b c := by
    unfold actM
    rw [up_k (by decide), rwk_s]
  refine tell_loop hq hna hnb ?_ ?_ ?_ ?_ ?_
  · exact hB.cg (fun k a b => rw1 k (by omega) (by omega)) (fun k a b => mk k (by omega) (by omega))
  · refine ⟨hT.1, by rw [rw1 0 (by decide) (by decide)]; exact hT.2.1, by rw [m41 27 (by decide) (by decide)]; exact hT.2.2.1, fun t ht => ?_⟩
    have hN6 := hT.1
    obtain ⟨tD, tA⟩ := hT.2.2.2 t ht
    refine ⟨tD.cg (fun j _ _ => by rw [rw1 _ (by omega) (by omega)]) ⟨by rw [rw1 _ (by omega) (by omega)], by rw [rw1 _ (by omega) (by omega)]⟩ (rw1 _ (by omega) (by omega)) (rw1 _ (by omega) (by omega)) (rw1 _ (by omega) (by omega)) (fun k _ _ => mk k (by omega) (by omega)), ?_⟩
    unfold TrA at tA ⊢
    rw [rw1 _ (by omega) (by omega), mk 53 (by decide) (by decide), mk 54 (by decide) (by decide)]
    obtain ⟨x1, x2, x3, x4⟩ := tA
    exact ⟨x1, x2, x3, by omega⟩
  · refine ⟨⟨?_, ?_, ?_⟩, ?_, ?_⟩
    · rw [a28, ← c1, hC]
      exact f3
    · have f3' : w 13 2 = z 13 2 + 1 := by rw [hC]; exact f3
      have f2' : w 14 = nteA (z 14) (C % 30) a b c := f2
      rw [f3', f2', a34, a57]
      exact cL.note hC
    · have := f4 1 (by decide)
      exact this.trans c3
    · rw [rw1 15 (by decide) (by decide), rw1 16 (by decide) (by decide), m41 32 (by decide) (by decide), mk 56 (by decide) (by decide)]
      exact bL
    · rw [rw1 15 (by decide) (by decide)]
      exact b3
  · exact hO.cg (by rw [rw1 1 (by decide) (by decide)]) (rw1 _ (by decide) (by decide)) (by rw [rw1 3 (by decide) (by decide)]) (by rw [rw1 3 (by decide) (by decide)]) (rw1 _ (by decide) (by decide)) (m41 _ (by decide) (by decide)) (mk _ (by decide) (by decide)) (m41 _ (by decide) (by decide)) (m41 _ (by decide) (by decide)) (m41 _ (by decide) (by decide)) (mk _ (by decide) (by decide))
  · intro t ht hk
    have hN6 := hT.1
    have hk : tkB ζ t q = false := by
      unfold tkB at hk ⊢
      rw [mk 50 (by decide) (by decide)] at hk
      exact hk
    have hq2 := hQ t ht hk
    have rw_ : wsM (actM ζ a b c) t = wsM ζ t := wsM_cg fun k _ _ => mk k (by omega) (by omega)
    unfold TrQ TrW psM at hq2 ⊢
    rw [rw_, rw1 _ (by omega) (by omega), mk 53 (by decide) (by decide), mk 52 (by decide) (by decide)]
    exact hq2
