/-! ===== pure level: at how many places ===== -/
def Lv (z ζ : Sg) (N q : Nat) (sum x y : Int) : Prop := ∀ t, t < N → tkB ζ t q = true → ¬ psM ζ t ∧ ∀ j, Jt z ζ x y t j → sum ≤ ζ 52 t - j
def CN (P : Nat → Prop) : Nat → Int → Prop
  | 0, c => c = 0
  | n + 1, c => ∃ d, CN P n d ∧ ((P n ∧ c = d + 1) ∨ (¬ P n ∧ c = d))
theorem CN_u {P : Nat → Prop} : ∀ n c d, CN P n c → CN P n d → c = d
  | 0, _, _, h, k => Eq.trans h (Eq.symm k)
  | n + 1, c, d, ⟨c', h1, h2⟩, ⟨d', k1, k2⟩ => by
    have e := CN_u n c' d' h1 k1
    rcases h2 with ⟨a, b⟩ | ⟨a, b⟩ <;> rcases k2 with ⟨a2, b2⟩ | ⟨a2, b2⟩
    · omega
    · exact absurd a a2
    · exact absurd a2 a
    · omega
theorem CN_b {P : Nat → Prop} : ∀ n c, CN P n c → 0 ≤ c ∧ c ≤ n
  | 0, c, h => by
    have h : c = 0 := h
    omega
  | n + 1, c, ⟨c', h1, h2⟩ => by
    have := CN_b n c' h1
    omega
theorem leaves_n {n : Nat} {z ζ u0 : Sg} {F N q : Nat} {sum x y : Int} (h : Rn n z ζ F N) (s0 : SD z u0) (hq : q < 4) (hs : 1 ≤ sum ∧ sum ≤ 99999) (Px : 0 ≤ x ∧ x < 300) (Py : 0 ≤ y ∧ y < 300) :
    ∃ r u', f_X9_leavesAll x y sum (q : Int) u0 = some (r, u') ∧ SD z u' ∧ yn r (Lv z ζ N q sum x y) := by
  obtain ⟨hN, hNm, hN6⟩ := h.nm
  unfold f_X9_leavesAll
  refine loop_P (F := fun k i (u : Sg) => f_X9_leavesAll_b3 k x y sum (q : Int) i u) N (fun i u => SD z u ∧ Lv z ζ i q sum x y) (P := fun X => ∃ r u', X = some (r, u') ∧ SD z u' ∧ yn r (Lv z ζ N q sum x y)) (by omega) ?_ ?_ 0 (by omega) u0 ⟨s0, fun t ht => by omega⟩
  · intro k i u hi hI
    obtain ⟨su, hp⟩ := hI
    have h2 := h.sd su
    obtain ⟨ht6, hD, hA, hQ⟩ := h2.tr hi
    have u4 : u 0 4 = (N : Int) := h2.nm.1
    have hlim := hD.2.1
    have hl0 := hD.2.1.1
    have hl1 := hD.2.1.2.1
    have hl2 := hD.2.1.2.2
    rw [f_X9_leavesAll_b3, u4, w32_n (by omega), w32_n (by omega), if_pos (show (i : Int) < (N : Int) by omega), treatyAt_t u4 hi hN6, Option.bind_some, oTs_ ht6, takes_n ht6 hq hD.1.1 hD.2.1.1, Option.bind_some]
    have pnew : (tkB ζ i q = true → ¬ psM ζ i ∧ ∀ j, Jt z ζ x y i j → sum ≤ ζ 52 i - j) → Lv z ζ (i + 1) q sum x y := fun e t ht => by
      rcases Nat.lt_succ_iff_lt_or_eq.1 ht with e2 | e2
      · exact hp t e2
      · rw [e2]
        exact e
    cases htk : tkB ζ i q with
    | false =>
      right
      rw [b01_f rfl]
      exact ⟨u, ⟨su, pnew (fun e => by rw [htk] at e; cases e)⟩, rfl⟩
    | true =>
      rw [b01_t rfl, dPassed_n ht6 h2.1 hD hQ, Option.bind_some]
      by_cases c1 : psM ζ i
      · left
        rw [c01_t c1]
        exact ⟨0, u, rfl, su, Or.inr ⟨rfl, fun e => (e i hi htk).1 c1⟩⟩
      · obtain ⟨v, u2, e2, s2, hv, j, hj⟩ := jn_u (fl := ζ 52 i - sum) h hi su Px Py ⟨by omega, by omega⟩
        have bj := Jt_bd h.1 hj
        have hv := hv j hj
        have vb : -1000000000 ≤ v ∧ v ≤ 1000000000 := by
          rw [hv]
          split <;> omega
        rw [c01_f c1, hD.1.2.2, e2, Option.bind_some]
        dsimp only
        rw [w32_eq (z := v) ⟨by omega, by omega⟩, w32_eq (z := ζ 52 i - sum) ⟨by omega, by omega⟩]
        by_cases c2 : v ≤ ζ 52 i - sum
        · right
          rw [if_pos c2]
          refine ⟨u2, ⟨s2, pnew (fun _ => ⟨c1, fun j2 hj2 => ?_⟩)⟩, rfl⟩
          rw [hj2.u hj]
          by_cases c3 : ζ 52 i - sum < j
          · rw [if_pos c3] at hv
            omega
          · omega
        · left
          rw [if_neg c2]
          refine ⟨0, u2, rfl, s2, Or.inr ⟨rfl, fun e => ?_⟩⟩
          have := (e i hi htk).2 j hj
          by_cases c3 : ζ 52 i - sum < j
          · omega
          · rw [if_neg c3] at hv
            omega
  · intro k u hI
    obtain ⟨su, hp⟩ := hI
    have u4 : u 0 4 = (N : Int) := (h.sd su).nm.1
    rw [f_X9_leavesAll_b3, u4, if_neg (Int.lt_irrefl _)]
    exact ⟨1, u, rfl, su, Or.inl ⟨rfl, hp⟩⟩
def LK (z ζ : Sg) (N q : Nat) (sum : Int) (k : Nat) : Prop := Lv z ζ N q sum (30 * ((k / 10 : Nat) : Int)) (30 * ((k % 10 : Nat) : Int))
theorem placesM_n {n : Nat} {z ζ : Sg} {F N q : Nat} {sum : Int} (hn : n < 512) (h : Rn n z ζ F N) (hq : q < 4) (hs : 1 ≤ sum ∧ sum ≤ 99999) :
    ∃ c ζ', f_X10_places_b26 FUEL sum (q : Int) 0 0 ζ = some (c, ζ') ∧ SS ζ ζ' ∧ CN (LK z ζ N q sum) 100 c := by
  refine loop_P (F := fun k i (u : Int × Sg) => f_X10_places_b26 k sum (q : Int) u.1 i u.2) 100 (fun i u => SS ζ u.2 ∧ CN (LK z ζ N q sum) i u.1) (P := fun X => ∃ c ζ', X = some (c, ζ') ∧ SS ζ ζ' ∧ CN (LK z ζ N q sum) 100 c) (by decide) ?_ ?_ 0 (by decide) (0, ζ) ⟨SS.rf, rfl⟩
  · intro k i u hi hI
    obtain ⟨c, u⟩ := u
    obtain ⟨su, hc⟩ := hI
    have su : SS ζ u := su
    have hc : CN (LK z ζ N q sum) i c := hc
    right
    show ∃ s' : Int × Sg, _ ∧ f_X10_places_b26 (k + 1) sum (q : Int) c (i : Int) u = f_X10_places_b26 k sum (q : Int) s'.1 ((i : Int) + 1) s'.2
    have ed : ((i : Int)).tdiv 10 = ((i / 10 : Nat) : Int) := by
      rw [Int.tdiv_eq_ediv_of_nonneg (by omega)]
      omega
    have em : ((i : Int)).tmod 10 = ((i % 10 : Nat) : Int) := (Int.ofNat_tmod i 10).symm
    obtain ⟨r, u2, e2, s2, b2, hr⟩ := roomAt_n (q := q) (x := 30 * ((i / 10 : Nat) : Int)) (y := 30 * ((i % 10 : Nat) : Int)) hn h su hq ⟨by omega, by omega⟩ ⟨by omega, by omega⟩
    rw [f_X10_places_b26, w32_n (by omega), if_pos (show (i : Int) < 100 by omega), show w32 10 = 10 by decide, ck_t (by decide), ck_t (by decide), ed, em, e2, Option.bind_some, w32_eq (z := r) ⟨by omega, by omega⟩, w32_eq (z := sum) ⟨by omega, by omega⟩]
    have key : LK z ζ N q sum i ↔ sum ≤ r := by
      rcases hr with ⟨h1, t, t1, t2, t3⟩ | ⟨h1, h2, h3, h4⟩
      · constructor
        · intro e
          exact absurd t3 (e t t1 t2).1
        · intro e
          omega
      · constructor
        · intro e
          rcases h2 with h2 | ⟨t, j, t1, t2, t3, t4⟩
          · omega
          · have := (e t t1 t2).2 j t3
            omega
        · intro e t t1 t2
          refine ⟨h1 t t1 t2, fun j hj => ?_⟩
          have := h4 t j t1 t2 hj
          omega
    by_cases c1 : r < sum
    · rw [if_pos c1]
      refine ⟨(c + 0, u2), ⟨s2, c, hc, Or.inr ⟨fun e => by have := key.mp e; omega, Int.add_zero c⟩⟩, rfl⟩
    · rw [if_neg c1]
      exact ⟨(c + 1, u2), ⟨s2, c, hc, Or.inl ⟨key.mpr (by omega), rfl⟩⟩, rfl⟩
  · intro k u hI
    obtain ⟨c, u⟩ := u
    obtain ⟨su, hc⟩ := hI
    show ∃ c' ζ', f_X10_places_b26 (k + 1) sum (q : Int) c ((100 : Nat) : Int) u = some (c', ζ') ∧ _
    rw [f_X10_places_b26, if_neg (show ¬ w32 ((100 : Nat) : Int) < 100 by decide)]
    exact ⟨c, u, rfl, su, hc⟩
theorem placesD_n {n : Nat} {z ζ : Sg} {F N q : Nat} {sum : Int} (h : Rn n z ζ F N) (hq : q < 4) (hs : 1 ≤ sum ∧ sum ≤ 99999) :
    ∃ c z', f_X9_places_b21 FUEL sum (q : Int) 0 0 z = some (c, z') ∧ SD z z' ∧ CN (LK z ζ N q sum) 100 c := by
  have Q := loop_P (F := fun k i (u : Int × Sg) => f_X9_places_b21 k sum (q : Int) u.1 (30 * i) u.2) 10 (fun i u => SD z u.2 ∧ CN (LK z ζ N q sum) (10 * i) u.1) (P := fun X => ∃ c z', X = some (c, z') ∧ SD z z' ∧ CN (LK z ζ N q sum) 100 c) (by decide) ?_ ?_ 0 (by decide) (0, z) ⟨SD.rf, rfl⟩
  · exact Q
  · intro k i u hi hI
    obtain ⟨c, u⟩ := u
    obtain ⟨su, hc⟩ := hI
    have su : SD z u := su
    have hc : CN (LK z ζ N q sum) (10 * i) c := hc
    right
    show ∃ s' : Int × Sg, _ ∧ f_X9_places_b21 (k + 1) sum (q : Int) c (30 * (i : Int)) u = f_X9_places_b21 k sum (q : Int) s'.1 (30 * ((i : Int) + 1)) s'.2
    rw [f_X9_places_b21, w32_eq (z := 30 * (i : Int)) ⟨by omega, by omega⟩, if_pos (show 30 * (i : Int) < 300 by omega)]
    have Q2 := loop_P (F := fun m j (u : Int × Sg) => f_X9_places_b32 (f_X9_places_b21 k) m sum (q : Int) u.1 (30 * (i : Int)) (30 * j) u.2) 10 (fun j u => SD z u.2 ∧ CN (LK z ζ N q sum) (10 * i + j) u.1) (P := fun X => ∃ s' : Int × Sg, (SD z s'.2 ∧ CN (LK z ζ N q sum) (10 * (i + 1)) s'.1) ∧ X = f_X9_places_b21 k sum (q : Int) s'.1 (30 * ((i : Int) + 1)) s'.2) (by decide) ?_ ?_ 0 (by decide) (c, u) ⟨su, hc⟩
    · exact Q2
    · intro m j u hj hI
      obtain ⟨c, u⟩ := u
      obtain ⟨su, hc⟩ := hI
      have su : SD z u := su
      have hc : CN (LK z ζ N q sum) (10 * i + j) c := hc
      right
      show ∃ s' : Int × Sg, _ ∧ f_X9_places_b32 (f_X9_places_b21 k) (m + 1) sum (q : Int) c (30 * (i : Int)) (30 * (j : Int)) u = f_X9_places_b32 (f_X9_places_b21 k) m sum (q : Int) s'.1 (30 * (i : Int)) (30 * ((j : Int) + 1)) s'.2
      obtain ⟨r, u2, e2, s2, y⟩ := leaves_n (q := q) (sum := sum) (x := 30 * (i : Int)) (y := 30 * (j : Int)) h su hq hs ⟨by omega, by omega⟩ ⟨by omega, by omega⟩
      have ek : LK z ζ N q sum (10 * i + j) = Lv z ζ N q sum (30 * (i : Int)) (30 * (j : Int)) := by
        unfold LK
        rw [show (10 * i + j) / 10 = i by omega, show (10 * i + j) % 10 = j by omega]
      have e30 : 30 * (j : Int) + 30 = 30 * ((j : Int) + 1) := by omega
      rw [f_X9_places_b32, w32_eq (z := 30 * (j : Int)) ⟨by omega, by omega⟩, if_pos (show 30 * (j : Int) < 300 by omega), e2, Option.bind_some]
      dsimp only
      unfold f_X9_places_b56
      rw [e30]
      rcases y with ⟨y1, y2⟩ | ⟨y1, y2⟩
      · rw [y1, if_neg (show ¬ w32 1 = 0 by decide)]
        exact ⟨(c + 1, u2), ⟨s2, c, hc, Or.inl ⟨(ek ▸ y2 : LK z ζ N q sum (10 * i + j)), rfl⟩⟩, rfl⟩
      · rw [y1, if_pos (show w32 0 = 0 by decide)]
        exact ⟨(c, u2), ⟨s2, c, hc, Or.inr ⟨(ek ▸ y2 : ¬ LK z ζ N q sum (10 * i + j)), rfl⟩⟩, rfl⟩
    · intro m u hI
      obtain ⟨c, u⟩ := u
      obtain ⟨su, hc⟩ := hI
      show ∃ s' : Int × Sg, _ ∧ f_X9_places_b32 (f_X9_places_b21 k) (m + 1) sum (q : Int) c (30 * (i : Int)) (30 * ((10 : Nat) : Int)) u = f_X9_places_b21 k sum (q : Int) s'.1 (30 * ((i : Int) + 1)) s'.2
      rw [f_X9_places_b32, if_neg (show ¬ w32 (30 * ((10 : Nat) : Int)) < 300 by decide)]
      unfold f_X9_places_b62
      rw [show 30 * (i : Int) + 30 = 30 * ((i : Int) + 1) by omega]
      exact ⟨(c, u), ⟨su, hc⟩, rfl⟩
  · intro k u hI
    obtain ⟨c, u⟩ := u
    obtain ⟨su, hc⟩ := hI
    show ∃ c' z', f_X9_places_b21 (k + 1) sum (q : Int) c (30 * ((10 : Nat) : Int)) u = some (c', z') ∧ _
    rw [f_X9_places_b21, if_neg (show ¬ w32 (30 * ((10 : Nat) : Int)) < 300 by decide)]
    exact ⟨c, u, rfl, su, hc⟩
theorem Eq_places_n : Eq_places Rl := by
  intro n σd σm a1 a2 hn hR ha1 ha2
  obtain ⟨F, N, h⟩ := hR
  have h : Rn n σd σm F N := h
  have h1 := h.m0
  have hs := h.ask (z' := σd) (ζ' := up σm 41 0 0) SD.rf ss0
  unfold f_X9_places f_X10_places wr
  dsimp only
  generalize up σm 41 0 0 = ζ at *
  rw [dIsSum_n ha1, Option.bind_some, mIsSum_n ha1, Option.bind_some]
  by_cases c1 : 1 ≤ a1 ∧ a1 ≤ 99999
  · rw [c01_t c1, c01_t c1, dIsPeril_n ha2, Option.bind_some, mIsPeril_n ha2, Option.bind_some]
    by_cases c2 : 0 ≤ a2 ∧ a2 ≤ 3
    · obtain ⟨q, hqe⟩ : ∃ q : Nat, a2 = (q : Int) := ⟨a2.toNat, by omega⟩
      subst hqe
      obtain ⟨c, z', e1, s1, k1⟩ := placesD_n (q := q) h1 (by omega) c1
      obtain ⟨d, ζ', e2, s2, k2⟩ := placesM_n (q := q) hn h1 (by omega) c1
      have ecd := CN_u 100 c d k1 k2
      subst ecd
      rw [c01_t c2, c01_t c2, e1, e2]
      exact ⟨_, _, rfl, rfl, rfl, h1.ask (z' := z') (ζ' := ζ') s1 s2⟩
    · rw [c01_f c2, c01_f c2]
      exact ⟨_, _, rfl, rfl, rfl, hs⟩
  · rw [c01_f c1, c01_f c1]
    exact ⟨_, _, rfl, rfl, rfl, hs⟩
