/-! ===== pure level: drawn ===== -/
theorem u64_nat {n : Nat} (h : n < 18446744073709551616) : u64 (n : Int) = n := by
  unfold u64
  rw [Int64.toBitVec_ofInt, BitVec.toNat_ofInt]
  show (((n : Int)) % 18446744073709551616).toNat = n
  omega
def lcg (x : Int) : Int := (x * 1103515245 + 12345) % 2147483648
theorem lcg_in (x : Int) : 0 ≤ lcg x ∧ lcg x < 2147483648 := by
  unfold lcg
  omega
theorem after_n {σ : Sg} {x : Int} (hx : 0 ≤ x ∧ x < 2147483648) : f_X9_drawnAfter x σ = some (lcg x) := by
  unfold f_X9_drawnAfter lcg
  rw [w32_eq ⟨by omega, hx.2⟩]
  obtain ⟨m, hm⟩ : ∃ m : Nat, x * 1103515245 + 12345 = (m : Int) := ⟨(x * 1103515245 + 12345).toNat, by omega⟩
  rw [hm, u64_nat (by omega), show u64 2147483647 = 2147483647 from u64_nat (n := 2147483647) (by decide), show (2147483647 : Nat) = 2 ^ 31 - 1 from rfl, Nat.and_two_pow_sub_one_eq_mod]
  rfl
theorem draws_n {σ : Sg} {x : Int} (e : σ 41 41 = x) (hx : 0 ≤ x ∧ x < 2147483648) : f_X10_draws 300 σ = some (lcg x / 65536 % 300, up σ 41 41 (lcg x)) := by
  have hl := lcg_in x
  unfold f_X10_draws wr
  have e1 : w64 2147483648 = 2147483648 := w64_eq ⟨by decide, by decide⟩
  have e2 : w64 65536 = 65536 := w64_eq ⟨by decide, by decide⟩
  have e3 : w32 300 = 300 := w32_eq ⟨by decide, by decide⟩
  have e4 : w64 300 = 300 := w64_eq ⟨by decide, by decide⟩
  have e5 : (w64 (x * 1103515245 + 12345)).tmod 2147483648 = lcg x := by
    rw [w64_eq ⟨by omega, by omega⟩, Int.tmod_eq_emod_of_nonneg (by omega)]
    rfl
  rw [e, e1, ck_t (by decide), e5]
  dsimp only
  rw [e2, ck_t (by decide), e3, e4, ck_t (by decide), up_s, w64_eq (z := lcg x) ⟨by omega, by omega⟩, Int.tdiv_eq_ediv_of_nonneg hl.1, w64_eq (z := lcg x / 65536) ⟨by omega, by omega⟩, Int.tmod_eq_emod_of_nonneg (by omega)]
theorem dMid {x : Int} : ((w32 ((w32 (lcg x)).tdiv (w32 65536))).tmod (w32 300)) = lcg x / 65536 % 300 := by
  have hl := lcg_in x
  have e2 : w32 65536 = 65536 := w32_eq ⟨by decide, by decide⟩
  have e3 : w32 300 = 300 := w32_eq ⟨by decide, by decide⟩
  rw [e2, e3, w32_eq (z := lcg x) ⟨by omega, by omega⟩, Int.tdiv_eq_ediv_of_nonneg hl.1, w32_eq (z := lcg x / 65536) ⟨by omega, by omega⟩, Int.tmod_eq_emod_of_nonneg (by omega)]
theorem Eq_drawn_n : Eq_drawn Rl := by
  intro n σd σm a1 a2 a3 a4 hn hR ha1 ha2 ha3 ha4
  obtain ⟨F, N, h⟩ := hR
  have h : Rn n σd σm F N := h
  have h1 := h.m0
  have hs := h.ask (z' := σd) (ζ' := up σm 41 0 0) SD.rf ss0
  obtain ⟨hN, hNm, hN6⟩ := h1.nm
  unfold f_X9_drawn f_X10_drawn wr
  dsimp only
  generalize up σm 41 0 0 = ζ at *
  by_cases c1 : 0 ≤ a1 ∧ a1 < N
  · obtain ⟨t, hte⟩ : ∃ t : Nat, a1 = (t : Int) := ⟨a1.toNat, by omega⟩
    subst hte
    have ht : t < N := by omega
    obtain ⟨ht6, hD, hA, hQ⟩ := h1.tr ht
    have hck : 0 ≤ ((t : Nat) : Int) ∧ ((t : Nat) : Int) < 6 := by omega
    rw [treatyAt_t hN ht hN6, Option.bind_some, oTs_ ht6, isTr_t hNm hN6 ha1, Option.bind_some, c01_t c1, w32_eq ha2, w32_eq ha3, w32_eq ha4]
    by_cases c2 : a2 < 0
    · rw [if_pos c2, if_pos c2]
      exact ⟨_, _, rfl, rfl, rfl, hs⟩
    · rw [if_neg c2, if_neg c2]
      by_cases c3 : a3 < 1
      · rw [if_pos c3, if_pos c3]
        exact ⟨_, _, rfl, rfl, rfl, hs⟩
      · rw [if_neg c3, if_neg c3]
        by_cases c4 : a3 ≤ 100
        · rw [if_pos c4, if_pos c4]
          by_cases c5 : a4 < 0
          · rw [if_pos c5, if_pos c5]
            exact ⟨_, _, rfl, rfl, rfl, hs⟩
          · rw [if_neg c5, if_neg c5]
            by_cases c6 : a4 ≤ 3
            · rw [if_pos c6, if_pos c6]
              obtain ⟨K, hK⟩ : ∃ K : Nat, a3 = (K : Int) := ⟨a3.toNat, by omega⟩
              subst hK
              have hlim := hD.2.1.2.2
              have hrad := hD.2.1.2.1
              have key := loop_two (F := fun n i (a : Int × Int × Int × Int × Int) => f_X9_drawn_b58 σd n (K : Int) a4 t a.1 a.2.1 a.2.2.1 a.2.2.2.1 a.2.2.2.2 i) (G := fun n i (u : Int × Int × Int × Int × Sg) => f_X10_drawn_b62 n (t : Int) (K : Int) a4 u.1 u.2.1 u.2.2.1 u.2.2.2.1 i u.2.2.2.2) K (fun i a u => SS ζ u.2.2.2.2 ∧ u.2.2.2.2 41 41 = a.2.2.2.2 ∧ (0 ≤ a.2.2.2.2 ∧ a.2.2.2.2 < 2147483648) ∧ u.2.2.1 = a.2.2.1 ∧ u.2.2.2.1 = a.2.2.2.1 ∧ (0 ≤ a.1 ∧ a.1 ≤ 24 * 99999) ∧ ((i = 0 ∧ a.1 = 0 ∧ a.2.1 = 0 ∧ u.1 = 0 ∧ u.2.1 = -1) ∨ (0 < i ∧ u.1 = a.2.1 ∧ u.2.1 = a.1))) (P := fun x y => ∃ q q', x = some q ∧ y = some q' ∧ w32 q = w32 q'.1 ∧ Rl (n + 1) σd q'.2) (by omega) (by
                intro n' m i a u hi hI
                obtain ⟨g, f, p, tg, x⟩ := a
                obtain ⟨b, mo, ov, al, ζ1⟩ := u
                obtain ⟨s1, j1, j2, j3, j4, j5, j6⟩ := hI
                dsimp only at s1 j1 j2 j3 j4 j5 j6
                have j3 := j3.symm
                have j4 := j4.symm
                subst j3
                subst j4
                right
                have hl1 := lcg_in x
                have hl2 := lcg_in (lcg x)
                have s2 : SS ζ (up (up ζ1 41 41 (lcg x)) 41 41 (lcg (lcg x))) := (s1.up (by unfold Scm; omega)).up (by unfold Scm; omega)
                obtain ⟨ζ3, e3, s3, v3⟩ := about_n0 (x := lcg x / 65536 % 300) (y := lcg (lcg x) / 65536 % 300) (R := ζ 51 t) (h1.1.ss s2) ⟨by omega, by omega⟩ ⟨by omega, by omega⟩ ⟨by omega, by omega⟩
                have s4 := s2.tr s3
                have hB4 := h1.1.ss s4
                have hM4 : MTr ζ3 t := hD.2.1.cg fun k _ _ => s4.r49 (by omega)
                have hsub : ∀ q, (mbS ζ t &&& abS (σd 7) (σd 8) F (lcg x / 65536 % 300) (lcg (lcg x) / 65536 % 300) (ζ 51 t)).testBit q = true → F.testBit q = true := fun q hq => by
                  rw [Nat.testBit_and, Bool.and_eq_true] at hq
                  exact (mbS_F h1.1 hq.1).1
                have hsl := sub_24 h1.1.1.2.1 hsub
                have hsin := h1.1.sin (s := mbS ζ t &&& abS (σd 7) (σd 8) F (lcg x / 65536 % 300) (lcg (lcg x) / 65536 % 300) (ζ 51 t))
                have al24 := abS_24 (σd 7) (σd 8) F (lcg x / 65536 % 300) (lcg (lcg x) / 65536 % 300) (ζ 51 t)
                have ew := dWithin_n (x := lcg x / 65536 % 300) (y := lcg (lcg x) / 65536 % 300) (R := ζ 51 t) h1.1 ⟨by omega, by omega⟩ ⟨by omega, by omega⟩ ⟨by omega, by omega⟩
                generalize abS (σd 7) (σd 8) F (lcg x / 65536 % 300) (lcg (lcg x) / 65536 % 300) (ζ 51 t) = O at *
                have dstep : f_X9_drawn_b58 σd (n' + 1) (K : Int) a4 t g f p tg x (i : Int) = if sumb (σd 9) (mbS ζ t &&& O) 24 ≤ g then f_X9_drawn_b147 σd (f_X9_drawn_b58 σd n') (K : Int) a4 t g f p tg (lcg (lcg x)) (i : Int) (sumb (σd 9) (mbS ζ t &&& O) 24) else f_X9_drawn_b147 σd (f_X9_drawn_b58 σd n') (K : Int) a4 t (sumb (σd 9) (mbS ζ t &&& O) 24) (i : Int) p tg (lcg (lcg x)) (i : Int) (sumb (σd 9) (mbS ζ t &&& O) 24) := by
                  rw [f_X9_drawn_b58, w32_n (n := i) (by omega), w32_n (n := K) (by omega), if_pos (show (i : Int) < (K : Int) by omega), after_n j2, Option.bind_some, ck_t (by decide), ck_t (by decide), after_n hl1, Option.bind_some, ck_t (by decide), ck_t (by decide), dMid, dMid, hD.1.2.1, ew, Option.bind_some, hD.2.2.2.1, and_n (by have := mbS_24 ζ t; omega) (by omega), sums_n h1.1.2 hsl, Option.bind_some, w32_eq (z := sumb (σd 9) (mbS ζ t &&& O) 24) ⟨by omega, by omega⟩, w32_eq (z := g) ⟨by omega, by omega⟩]
                have mstep : f_X10_drawn_b62 (m + 1) (t : Int) (K : Int) a4 b mo p tg (i : Int) ζ1 = if w32 (sumb (σd 9) (mbS ζ t &&& O) 24) ≤ w32 (ζ 52 t) then f_X10_drawn_b130 (f_X10_drawn_b62 m) (t : Int) (K : Int) a4 b mo tg (i : Int) (sumb (σd 9) (mbS ζ t &&& O) 24) 0 p ζ3 else f_X10_drawn_b130 (f_X10_drawn_b62 m) (t : Int) (K : Int) a4 b mo tg (i : Int) (sumb (σd 9) (mbS ζ t &&& O) 24) 1 p ζ3 := by
                  rw [f_X10_drawn_b62, w32_n (n := i) (by omega), w32_n (n := K) (by omega), if_pos (show (i : Int) < (K : Int) by omega), draws_n j1 j2, Option.bind_some]
                  show (f_X10_draws 300 (up ζ1 41 41 (lcg x))).bind _ = _
                  rw [draws_n (x := lcg x) up_s hl1, Option.bind_some, ck_t hck]
                  have e51 : up (up ζ1 41 41 (lcg x)) 41 41 (lcg (lcg x)) 51 ((t : Nat) : Int).toNat = ζ 51 t := by
                    rw [show ((t : Nat) : Int).toNat = t from Int.toNat_natCast t, up_k (by decide), up_k (by decide), s1.r49 (k := 51) (by omega)]
                  show (f_X10_aboutPlace (lcg x / 65536 % 300) (lcg (lcg x) / 65536 % 300) (up (up ζ1 41 41 (lcg x)) 41 41 (lcg (lcg x)) 51 ((t : Nat) : Int).toNat) (up (up ζ1 41 41 (lcg x)) 41 41 (lcg (lcg x)))).bind _ = _
                  rw [e51, e3, Option.bind_some]
                  show (f_X10_ofTreaty (t : Int) ζ3).bind _ = _
                  rw [ofTr_n ht6 hB4 hM4, Option.bind_some, s4.mb]
                  show (f_X10_sumOf (((u32 (O : Int) &&& u32 ((mbS ζ t : Nat) : Int) : Nat) : Int)) ζ3).bind _ = _
                  rw [and_n (by omega) (by have := mbS_24 ζ t; omega), Nat.and_comm O (mbS ζ t), sumOf_n (by omega), Option.bind_some, hB4.sm hsub, ck_t hck]
                  have e52 : ζ3 52 ((t : Nat) : Int).toNat = ζ 52 t := by
                    rw [show ((t : Nat) : Int).toNat = t from Int.toNat_natCast t, s4.r49 (k := 52) (by omega)]
                  show (if w32 (sumb (σd 9) (mbS ζ t &&& O) 24) ≤ w32 (ζ3 52 ((t : Nat) : Int).toNat) then _ else _) = _
                  rw [e52]
                dsimp only
                rw [dstep, mstep]
                generalize sumb (σd 9) (mbS ζ t &&& O) 24 = v at *
                have hg : ∃ w : Int, (if v ≤ ζ 52 t then 0 else 1) = w := ⟨_, rfl⟩
                obtain ⟨w, hw⟩ := hg
                have ds2 : ∀ g f : Int, f_X9_drawn_b147 σd (f_X9_drawn_b58 σd n') (K : Int) a4 t g f p tg (lcg (lcg x)) (i : Int) v = f_X9_drawn_b58 σd n' (K : Int) a4 t g f (p + w) (tg + v) (lcg (lcg x)) ((i : Int) + 1) := fun g f => by
                  unfold f_X9_drawn_b147 f_X9_drawn_b164
                  rw [hD.1.2.2, w32_eq (z := v) ⟨by omega, by omega⟩, w32_eq (z := ζ 52 t) ⟨by omega, by omega⟩]
                  by_cases q : v ≤ ζ 52 t
                  · rw [if_pos q] at hw
                    rw [if_pos q, hw]
                  · rw [if_neg q] at hw
                    rw [if_neg q, hw]
                have ms2 : (if w32 v ≤ w32 (ζ 52 t) then f_X10_drawn_b130 (f_X10_drawn_b62 m) (t : Int) (K : Int) a4 b mo tg (i : Int) v 0 p ζ3 else f_X10_drawn_b130 (f_X10_drawn_b62 m) (t : Int) (K : Int) a4 b mo tg (i : Int) v 1 p ζ3) = if v ≤ w32 mo then f_X10_drawn_b62 m (t : Int) (K : Int) a4 b mo (p + w) (tg + v) ((i : Int) + 1) ζ3 else f_X10_drawn_b62 m (t : Int) (K : Int) a4 (i : Int) v (p + w) (tg + v) ((i : Int) + 1) ζ3 := by
                  unfold f_X10_drawn_b130 f_X10_drawn_b158
                  rw [w32_eq (z := v) ⟨by omega, by omega⟩, w32_eq (z := ζ 52 t) ⟨by omega, by omega⟩]
                  by_cases q : v ≤ ζ 52 t
                  · rw [if_pos q] at hw
                    rw [if_pos q, hw]
                  · rw [if_neg q] at hw
                    rw [if_neg q, hw]
                rw [ms2, ds2, ds2]
                have g41 : ζ3 41 41 = lcg (lcg x) := v3.trans up_s
                rcases j6 with ⟨k0, k1, k2, k3, k4⟩ | ⟨k0, k3, k4⟩
                · subst k0
                  rw [k4, w32_m1, if_neg (show ¬ v ≤ -1 by omega)]
                  by_cases q : v ≤ g
                  · rw [if_pos q]
                    exact ⟨(g, f, p + w, tg + v, lcg (lcg x)), (((0 : Nat) : Int), v, p + w, tg + v, ζ3), ⟨s4, g41, hl2, rfl, rfl, j5, Or.inr ⟨by omega, by dsimp only; omega, by dsimp only; omega⟩⟩, rfl, rfl⟩
                  · rw [if_neg q]
                    exact ⟨(v, ((0 : Nat) : Int), p + w, tg + v, lcg (lcg x)), (((0 : Nat) : Int), v, p + w, tg + v, ζ3), ⟨s4, g41, hl2, rfl, rfl, hsin, Or.inr ⟨by omega, rfl, rfl⟩⟩, rfl, rfl⟩
                · rw [k3, k4, w32_eq (z := g) ⟨by omega, by omega⟩]
                  by_cases q : v ≤ g
                  · rw [if_pos q, if_pos q]
                    exact ⟨(g, f, p + w, tg + v, lcg (lcg x)), (f, g, p + w, tg + v, ζ3), ⟨s4, g41, hl2, rfl, rfl, j5, Or.inr ⟨by omega, rfl, rfl⟩⟩, rfl, rfl⟩
                  · rw [if_neg q, if_neg q]
                    exact ⟨(v, (i : Int), p + w, tg + v, lcg (lcg x)), ((i : Int), v, p + w, tg + v, ζ3), ⟨s4, g41, hl2, rfl, rfl, hsin, Or.inr ⟨by omega, rfl, rfl⟩⟩, rfl, rfl⟩) (by
                intro n' m a u hI
                obtain ⟨g, f, p, tg, x⟩ := a
                obtain ⟨b, mo, ov, al, ζ1⟩ := u
                obtain ⟨s1, j1, j2, j3, j4, j5, j6⟩ := hI
                dsimp only at s1 j1 j2 j3 j4 j5 j6
                have j3 := j3.symm
                have j4 := j4.symm
                subst j3
                subst j4
                have hs' := h1.ask (z' := σd) (ζ' := ζ1) SD.rf s1
                rcases j6 with ⟨k0, -⟩ | ⟨k0, k3, k4⟩
                · omega
                · dsimp only
                  rw [f_X9_drawn_b58, f_X10_drawn_b62, w32_n (n := K) (by omega), if_neg (show ¬ (K : Int) < (K : Int) by omega), if_neg (show ¬ (K : Int) < (K : Int) by omega), k3, k4]
                  unfold f_X9_drawn_b180 f_X10_drawn_b164
                  rw [w32_eq ha4]
                  by_cases q0 : a4 = 0
                  · rw [if_pos q0, if_pos q0]
                    exact ⟨_, _, rfl, rfl, rfl, hs'⟩
                  · rw [if_neg q0, if_neg q0]
                    by_cases q1 : a4 = 1
                    · rw [if_pos q1, if_pos q1]
                      exact ⟨_, _, rfl, rfl, rfl, hs'⟩
                    · rw [if_neg q1, if_neg q1]
                      by_cases q2 : a4 = 2
                      · rw [if_pos q2, if_pos q2]
                        exact ⟨_, _, rfl, rfl, rfl, hs'⟩
                      · rw [if_neg q2, if_neg q2]
                        exact ⟨_, _, rfl, rfl, rfl, hs'⟩) 0 (Nat.zero_le _) (0, 0, 0, 0, a2) (0, -1, 0, 0, up ζ 41 41 a2) ⟨SS.rf.up (by unfold Scm; omega), (show up ζ 41 41 a2 41 41 = a2 from up_s), ⟨by dsimp only; omega, by dsimp only; have := ha2.2; omega⟩, rfl, rfl, ⟨(by decide : (0 : Int) ≤ 0), (by decide : (0 : Int) ≤ 24 * 99999)⟩, Or.inl ⟨rfl, rfl, rfl, rfl, rfl⟩⟩
              exact key
            · rw [if_neg c6, if_neg c6]
              exact ⟨_, _, rfl, rfl, rfl, hs⟩
        · rw [if_neg c4, if_neg c4]
          exact ⟨_, _, rfl, rfl, rfl, hs⟩
  · rw [treatyAt_f hN ha1 hN6 c1, Option.bind_some, isTr_t hNm hN6 ha1, Option.bind_some, c01_f c1]
    exact ⟨_, _, rfl, rfl, rfl, hs⟩
