/-! ===== pure level: scratch of both sides; an act ===== -/
def Scm (k j : Nat) : Prop := (k = 41 ∧ (j = 0 ∨ (5 ≤ j ∧ j ≤ 14) ∨ (35 ≤ j ∧ j ≤ 37) ∨ 40 ≤ j)) ∨ k = 43 ∨ k = 44 ∨ k = 58 ∨ k = 59 ∨ (45 ≤ k ∧ k ≤ 48 ∧ j = 24)
def SS (σ σ' : Sg) : Prop := ∀ k j, ¬ Scm k j → σ' k j = σ k j
theorem SS.rf {σ : Sg} : SS σ σ := fun _ _ _ => rfl
theorem SS.tr {σ τ υ : Sg} (h : SS σ τ) (k : SS τ υ) : SS σ υ := fun a b c => (k a b c).trans (h a b c)
theorem Scr.ss {σ σ' : Sg} (h : Scr σ σ') : SS σ σ' := fun k j hk => h k j (fun q => hk (by unfold Scm; omega))
theorem SS.up {σ τ : Sg} {k j : Nat} {v : Int} (h : SS σ τ) (hk : Scm k j) : SS σ (up τ k j v) := fun a b c => by
  by_cases e : a = k
  · subst e
    by_cases e2 : b = j
    · subst e2
      exact absurd hk c
    · rw [up_j e2]
      exact h a b c
  · rw [up_k e]
    exact h a b c
theorem SS.rw_ {σ σ' : Sg} (h : SS σ σ') {k : Nat} (h1 : ∀ j, ¬ Scm k j) : σ' k = σ k := by
  funext j
  exact h k j (h1 j)
theorem SS.r49 {σ σ' : Sg} (h : SS σ σ') {k : Nat} (h1 : k = 42 ∨ (49 ≤ k ∧ k ≤ 57)) : σ' k = σ k := h.rw_ fun j => by unfold Scm; omega
theorem SS.mb {ζ ζ' : Sg} (h : SS ζ ζ') (t : Nat) : mbS ζ' t = mbS ζ t := by
  unfold mbS prS
  rw [h.r49 (k := 49) (by omega), h.r49 (k := 50) (by omega)]
  exact mks_congr fun q hq => by rw [h 48 q (by unfold Scm; omega)]
theorem SS.ws {ζ ζ' : Sg} (h : SS ζ ζ') (t : Nat) : wsM ζ' t = wsM ζ t := by
  have e := h.mb t
  unfold mbS at e
  unfold wsM
  rw [e, h.r49 (k := 51) (by omega)]
  exact hvS_cg fun q hq => by
    have hq := bit_lt (mks_24 _) hq
    exact ⟨h 45 q (by unfold Scm; omega), h 46 q (by unfold Scm; omega), h 47 q (by unfold Scm; omega)⟩
theorem RelB.ss {z ζ ζ' : Sg} {F : Nat} (h : RelB z ζ F) (s : SS ζ ζ') : RelB z ζ' F := by
  obtain ⟨⟨h1, h2, h3⟩, h4⟩ := h
  refine ⟨⟨h1, h2, fun q hq => ?_⟩, h4⟩
  have := h3 q hq
  unfold Pl at this ⊢
  rw [s 45 q (by unfold Scm; omega), s 46 q (by unfold Scm; omega), s 47 q (by unfold Scm; omega), s 48 q (by unfold Scm; omega), s.r49 (k := 49) (by omega)]
  exact this
theorem RelT.ss {z ζ ζ' : Sg} {N na : Nat} (h : RelT z ζ N na) (s : SS ζ ζ') : RelT z ζ' N na := by
  obtain ⟨h1, h2, h3, h4⟩ := h
  refine ⟨h1, h2, by rw [s 41 27 (by unfold Scm; omega)]; exact h3, fun t ht => ?_⟩
  obtain ⟨⟨a1, a2, a3⟩, a4⟩ := h4 t ht
  refine ⟨⟨?_, ?_, ?_⟩, ?_⟩
  · rw [s.r49 (k := 50) (by omega), s.r49 (k := 51) (by omega), s.r49 (k := 52) (by omega)]
    exact a1
  · exact a2.cg fun k _ _ => s.r49 (by omega)
  · rw [s.mb, s.r49 (k := 51) (by omega)]
    exact a3
  · unfold TrA at a4 ⊢
    rw [s.r49 (k := 53) (by omega), s.r49 (k := 54) (by omega)]
    exact a4
theorem RelL.ss {z ζ ζ' : Sg} {na nb : Nat} (h : RelL z ζ na nb) (s : SS ζ ζ') : RelL z ζ' na nb := by
  unfold RelL
  rw [s 41 28 (by unfold Scm; omega), s 41 34 (by unfold Scm; omega), s 41 32 (by unfold Scm; omega), s.r49 (k := 56) (by omega), s.r49 (k := 57) (by omega)]
  exact h
theorem RelO.ss {z ζ ζ' : Sg} (h : RelO z ζ) (s : SS ζ ζ') : RelO z ζ' := h.cg rfl rfl rfl rfl rfl (s 41 2 (by unfold Scm; omega)) (s.r49 (by omega)) (s 41 15 (by unfold Scm; omega)) (s 41 16 (by unfold Scm; omega)) (s 41 30 (by unfold Scm; omega)) (s.r49 (by omega))
theorem TrQ.ss {z ζ ζ' : Sg} {t : Nat} (h : TrQ z ζ t) (s : SS ζ ζ') : TrQ z ζ' t := by
  unfold TrQ TrW psM at h ⊢
  rw [s.ws, s.r49 (k := 53) (by omega), s.r49 (k := 52) (by omega)]
  exact h
def DSc (k j : Nat) : Prop := k = 33 ∨ k = 40 ∨ k = 18 ∨ k = 19 ∨ k = 20 ∨ (27 ≤ k ∧ k ≤ 32 ∧ (j = 3 ∨ j = 4)) ∨ k = 4 ∨ k = 5 ∨ (k = 3 ∧ 3 ≤ j ∧ j ≤ 6)
def SD (z z' : Sg) : Prop := ∀ k j, ¬ DSc k j → z' k j = z k j
theorem SD.rf {σ : Sg} : SD σ σ := fun _ _ _ => rfl
theorem SD.tr {σ τ υ : Sg} (h : SD σ τ) (k : SD τ υ) : SD σ υ := fun a b c => (k a b c).trans (h a b c)
theorem SD.row {z z' : Sg} (h : SD z z') {k : Nat} (h1 : (6 ≤ k ∧ k ≤ 17) ∨ (21 ≤ k ∧ k ≤ 26) ∨ (34 ≤ k ∧ k ≤ 39) ∨ k ≤ 2) : z' k = z k := by
  funext j
  exact h k j (by unfold DSc; omega)
def Rn (n : Nat) (z ζ : Sg) (F N : Nat) : Prop := RelB z ζ F ∧ RelT z ζ N n ∧ RelL z ζ n (8 * n) ∧ RelO z ζ ∧ ∀ t, t < N → TrQ z ζ t
theorem Rn.ss {n F N : Nat} {z ζ ζ' : Sg} (h : Rn n z ζ F N) (s : SS ζ ζ') : Rn n z ζ' F N := ⟨h.1.ss s, h.2.1.ss s, h.2.2.1.ss s, h.2.2.2.1.ss s, fun t ht => (h.2.2.2.2 t ht).ss s⟩
theorem Rn.sd {n F N : Nat} {z ζ z' : Sg} (h : Rn n z ζ F N) (s : SD z z') : Rn n z' ζ F N := by
  obtain ⟨hB, hT, hL, hO, hQ⟩ := h
  have hN6 := hT.1
  refine ⟨hB.cg (fun k _ _ => s.row (by omega)) (fun _ _ _ => rfl), ⟨hN6, by rw [s.row (k := 0) (by omega)]; exact hT.2.1, hT.2.2.1, fun t ht => ?_⟩, ?_, hO.cg (by rw [s.row (k := 1) (by omega)]) (s.row (by omega)) (s 3 7 (by unfold DSc; omega)) (s 3 8 (by unfold DSc; omega)) (s.row (by omega)) rfl rfl rfl rfl rfl rfl, fun t ht => ?_⟩
  · obtain ⟨a, b⟩ := hT.2.2.2 t ht
    refine ⟨a.cg (fun j _ _ => by rw [s.row (by omega)]) ⟨s _ _ (by unfold DSc; omega), s _ _ (by unfold DSc; omega)⟩ (s.row (by omega)) (s.row (by omega)) (s.row (by omega)) (fun _ _ _ => rfl), ?_⟩
    unfold TrA at b ⊢
    rw [s.row (by omega)]
    exact b
  · unfold RelL
    rw [s.row (k := 13) (by omega), s.row (k := 14) (by omega), s.row (k := 15) (by omega), s.row (k := 16) (by omega)]
    exact hL
  · have := hQ t ht
    unfold TrQ TrW at this ⊢
    rw [s.row (by omega)]
    exact this
theorem Rn.mono {n F N m : Nat} {z ζ : Sg} (h : Rn n z ζ F N) (hm : n ≤ m) : Rn m z ζ F N := by
  obtain ⟨hB, hT, hL, hO, hQ⟩ := h
  refine ⟨hB, ⟨hT.1, hT.2.1, hT.2.2.1, fun t ht => ?_⟩, ⟨⟨hL.1.1, hL.1.2.1.mono hm, hL.1.2.2⟩, hL.2.1.mono (by omega), hL.2.2⟩, hO, hQ⟩
  obtain ⟨a, b1, b2, b3, b4⟩ := hT.2.2.2 t ht
  exact ⟨a, b1, b2, b3, by omega⟩
theorem Rl.of {n F N : Nat} {z ζ : Sg} (h : Rn n z ζ F N) : Rl n z ζ := ⟨F, N, h⟩
/-- a question: scratch alone changes -/
theorem Rn.ask {n F N : Nat} {z ζ z' ζ' : Sg} (h : Rn n z ζ F N) (s : SD z z') (s2 : SS ζ ζ') : Rl (n + 1) z' ζ' := Rl.of (((h.sd s).ss s2).mono (Nat.le_succ n))
theorem act_n {n F N F' q : Nat} {z ζ z2 ζ2 : Sg} {a b c : Int} (h : Rn n z ζ F N) (hn : n < 512) (hq : q < 4) (fz : ∀ k j, ¬ (6 ≤ k ∧ k ≤ 11) → ¬ (27 ≤ k ∧ k < 33 ∧ 2 ≤ j ∧ j ≤ 5) → ¬ (34 ≤ k ∧ k < 40) → z2 k j = z k j) (fm : ∀ k j, ¬ (45 ≤ k ∧ k ≤ 49) → ¬ (k = 41 ∧ j = 0) → ζ2 k j = ζ k j) (hB : RelB z2 ζ2 F') (hD : ∀ t, t < N → DI z2 t (ζ2 51 t) (mbS ζ2 t)) (hw : ∀ t, t < N → tkB ζ t q = false → wsM ζ2 t = wsM ζ t) :
    ∃ z' ζ', f_X9_tell a b c (q : Int) z2 = some z' ∧ f_X10_acted a b c ζ2 = some ζ' ∧ Rl (n + 1) z' ζ' ∧ ∀ k, 45 ≤ k → k ≤ 49 → ζ' k = ζ2 k := by
  obtain ⟨gB, gT, gL, gO, gQ⟩ := h
  have hN6 := gT.1
  have zr : ∀ k, ¬ (6 ≤ k ∧ k ≤ 11) → ¬ (27 ≤ k ∧ k < 33) → ¬ (34 ≤ k ∧ k < 40) → z2 k = z k := fun k h1 h2 h3 => by
    funext j
    exact fz k j h1 (by omega) h3
  have mr : ∀ k, ¬ (45 ≤ k ∧ k ≤ 49) → k ≠ 41 → ζ2 k = ζ k := fun k h1 h2 => by
    funext j
    exact fm k j h1 (by omega)
  have jT : RelT z2 ζ2 N n := by
    refine ⟨hN6, by rw [zr 0 (by omega) (by omega) (by omega)]; exact gT.2.1, by rw [fm 41 27 (by omega) (by omega)]; exact gT.2.2.1, fun t ht => ?_⟩
    obtain ⟨⟨d1, d2_, d3⟩, a⟩ := gT.2.2.2 t ht
    refine ⟨⟨?_, d2_.cg fun k _ _ => mr k (by omega) (by omega), hD t ht⟩, ?_⟩
    · rw [zr (21 + t) (by omega) (by omega) (by omega), mr 50 (by omega) (by omega), mr 51 (by omega) (by omega), mr 52 (by omega) (by omega)]
      exact d1
    · unfold TrA at a ⊢
      rw [zr (21 + t) (by omega) (by omega) (by omega), mr 53 (by omega) (by omega), mr 54 (by omega) (by omega)]
      exact a
  have jL : RelL z2 ζ2 n (8 * n) := by
    unfold RelL
    rw [zr 13 (by omega) (by omega) (by omega), zr 14 (by omega) (by omega) (by omega), zr 15 (by omega) (by omega) (by omega), zr 16 (by omega) (by omega) (by omega), fm 41 28 (by omega) (by omega), fm 41 34 (by omega) (by omega), fm 41 32 (by omega) (by omega), mr 56 (by omega) (by omega), mr 57 (by omega) (by omega)]
    exact gL
  have jO : RelO z2 ζ2 := gO.cg (by rw [zr 1 (by omega) (by omega) (by omega)]) (zr 2 (by omega) (by omega) (by omega)) (by rw [zr 3 (by omega) (by omega) (by omega)]) (by rw [zr 3 (by omega) (by omega) (by omega)]) (zr 17 (by omega) (by omega) (by omega)) (fm _ _ (by omega) (by omega)) (mr _ (by omega) (by omega)) (fm _ _ (by omega) (by omega)) (fm _ _ (by omega) (by omega)) (fm _ _ (by omega) (by omega)) (mr _ (by omega) (by omega))
  have tk : ∀ t, tkB ζ2 t q = tkB ζ t q := fun t => by
    unfold tkB
    rw [mr 50 (by omega) (by omega)]
  obtain ⟨z', e1, r1, r2, r3, r4, r5⟩ := tell_n (a := a) (b := b) (c := c) hq (by omega) (by omega) hB jT jL jO (fun t ht hk => by
    rw [tk] at hk
    have hq2 := gQ t ht
    unfold TrQ TrW psM at hq2 ⊢
    rw [hw t ht hk, zr (21 + t) (by omega) (by omega) (by omega), mr 53 (by omega) (by omega), mr 52 (by omega) (by omega)]
    exact hq2)
  have jM := MRow.of hB
  obtain ⟨ζ', e2, s2⟩ := acted_n (σ := ζ2) (N := N) (a := a) (b := b) (d := c) hN6 jT.2.2.1 jM (fun t ht => (jT.2.2.2 t ht).1.2.1) (fun t ht => by
    obtain ⟨-, -, x1, x2⟩ := (jT.2.2.2 t ht).2
    exact ⟨by omega, by omega⟩) (by
    obtain ⟨C, -, -, e, -⟩ := jL.2.1
    rw [e]
    split <;> omega) (by
    obtain ⟨C, -, -, e, -⟩ := jL.1.2.1
    rw [e]
    split <;> omega)
  refine ⟨z', ζ', e1, e2, Rl.of (F := F') (N := N) (Rn.ss (n := n + 1) ⟨r1, r2, ⟨r3.1, r3.2.1.mono (by omega), r3.2.2⟩, r4, r5⟩ s2.ss), fun k h1 h2 => ?_⟩
  rw [s2.row (by omega), looksM_k (by omega), actM_k (by omega)]
