/-! ===== pure level: a policy on its way ===== -/
/-- the treaty's worst with the policy elsewhere, in the reference -/
theorem moved_n {n : Nat} {z ζ u : Sg} {F N t p : Nat} {x y : Int} (h : Rn n z ζ F N) (ht : t < N) (hp : F.testBit p = true) (Px : 0 ≤ x ∧ x < 300) (Py : 0 ≤ y ∧ y < 300) (hu : SS (up (up ζ 45 p x) 46 p y) u) :
    MRow u ∧ MTr u t ∧ mbS u t = mbS ζ t ∧ u 51 t = ζ 51 t ∧ u 52 t = ζ 52 t ∧ u 45 p = x ∧ u 46 p = y ∧ (∀ q, q < 24 → u 47 q = ζ 47 q) ∧ ∀ q, q < 24 → q ≠ p → u 45 q = ζ 45 q ∧ u 46 q = ζ 46 q := by
  obtain ⟨ht6, hD, -⟩ := h.tr ht
  have hp24 := bit_lt h.1.1.2.1 hp
  have b : ∀ k j, ¬ Scm k j → k ≠ 45 → k ≠ 46 → u k j = ζ k j := fun k j h1 h2 h3 => by
    rw [hu k j h1, up_k h3, up_k h2]
  have x45 : ∀ q, q < 24 → u 45 q = if q = p then x else ζ 45 q := fun q hq => by
    rw [hu 45 q (by unfold Scm; omega), up_k (by decide)]
    by_cases e : q = p
    · rw [e, up_s, if_pos rfl]
    · rw [up_j e, if_neg e]
  have x46 : ∀ q, q < 24 → u 46 q = if q = p then y else ζ 46 q := fun q hq => by
    rw [hu 46 q (by unfold Scm; omega)]
    by_cases e : q = p
    · rw [e, up_s, if_pos rfl]
    · rw [up_j e, if_neg e, up_k (by decide)]
  have r49 : ∀ k, k = 42 ∨ (49 ≤ k ∧ k ≤ 57) → u k = ζ k := fun k hk => by
    funext j
    exact b k j (by unfold Scm; omega) (by omega) (by omega)
  have hM := MRow.of h.1
  refine ⟨fun q hq => ?_, hD.2.1.cg (fun k h1 h2 => r49 k (by omega)), ?_, by rw [r49 51 (by omega)], by rw [r49 52 (by omega)], by rw [x45 p hp24, if_pos rfl], by rw [x46 p hp24, if_pos rfl], fun q hq => b 47 q (by unfold Scm; omega) (by decide) (by decide), fun q hq e => ⟨by rw [x45 q hq, if_neg e], by rw [x46 q hq, if_neg e]⟩⟩
  · obtain ⟨m1, m2, m3, m4⟩ := hM q hq
    rw [r49 49 (by omega), b 48 q (by unfold Scm; omega) (by decide) (by decide), b 47 q (by unfold Scm; omega) (by decide) (by decide)]
    refine ⟨m1, m2, ?_, m4⟩
    unfold Pl at m3 ⊢
    rw [x45 q hq, x46 q hq]
    by_cases e : q = p
    · rw [if_pos e, if_pos e]
      exact ⟨Px, Py⟩
    · rw [if_neg e, if_neg e]
      exact m3
  · unfold mbS prS
    rw [r49 49 (by omega), r49 50 (by omega)]
    exact mks_congr fun q hq => by rw [b 48 q (by unfold Scm; omega) (by decide) (by decide)]
theorem ws_u {u : Sg} {t : Nat} : wsM u t = hvS (u 45) (u 46) (u 47) (u 51 t) none (mbS u t) := rfl
/-- one place on the way: what the class and the reference make of it -/
theorem step_n {n : Nat} {z ζ u v : Sg} {F N t p : Nat} {x y fl : Int} (h : Rn n z ζ F N) (ht : t < N) (hp : (mbS ζ t).testBit p = true) (Px : 0 ≤ x ∧ x < 300) (Py : 0 ≤ y ∧ y < 300) (hu : SS (up (up ζ 45 p x) 46 p y) u) (sv : SD z v) (hfl : -1000000000 ≤ fl ∧ fl ≤ 1000000000) :
    ∃ (j w : Int) (v' : Sg), f_X2_joined t x y ((16777215 &&& (2 ^ p ^^^ 4294967295) : Nat) : Int) fl v = some (w, v') ∧ SD z v' ∧ w = (if fl < j then j else fl) ∧ (0 ≤ j ∧ j ≤ 24 * 99999) ∧ (wsM u t).1 = (if (hvS (ζ 45) (ζ 46) (ζ 47) (ζ 51 t) none (mbS ζ t &&& (2 ^ p ^^^ 4294967295))).1 < j + z 9 p then j + z 9 p else (hvS (ζ 45) (ζ 46) (ζ 47) (ζ 51 t) none (mbS ζ t &&& (2 ^ p ^^^ 4294967295))).1) := by
  have h2 := h.sd sv
  obtain ⟨ht6, hD, -⟩ := h2.tr ht
  have hF := (mbS_F h.1 hp).1
  obtain ⟨mr, mt, em, e51, -, xp, yp, e47, eq⟩ := moved_n h ht hF Px Py hu
  have M24 := mbS_24 ζ t
  have hp24 := bit_lt M24 hp
  have r9 : v 9 = z 9 := sv.row (by omega)
  generalize hT : mbS ζ t &&& (2 ^ p ^^^ 4294967295) = T
  have tT : ∀ q, T.testBit q = true ↔ (mbS ζ t).testBit q = true ∧ q ≠ p := fun q => by
    rw [← hT, tb_clr M24, Bool.and_eq_true]
    simp
  have T24 : T < 16777216 := by rw [← hT]; exact clr_lt M24
  have Tp : T.testBit p = false := by
    cases e : T.testBit p with
    | false => rfl
    | true => exact absurd rfl ((tT p).mp e).2
  have sT : (16777215 &&& (2 ^ p ^^^ 4294967295)) &&& mbS ζ t = T := by
    rw [← hT, Nat.and_assoc, Nat.and_comm (2 ^ p ^^^ 4294967295), ← Nat.and_assoc, and_all2 M24]
  have s24 : 16777215 &&& (2 ^ p ^^^ 4294967295) < 16777216 := Nat.lt_of_le_of_lt Nat.and_le_left (by decide)
  have gen : ∀ fl : Int, -1000000000 ≤ fl ∧ fl ≤ 1000000000 → ∃ w v', f_X2_joined t x y ((16777215 &&& (2 ^ p ^^^ 4294967295) : Nat) : Int) fl v = some (w, v') ∧ FrJ t v v' ∧ JF (u 45) (u 46) (z 9) (ζ 51 t) T p fl w ∧ ∀ o, JS (u 45) (u 46) (ζ 51 t) T p o → sumb (z 9) o 24 ≤ w := fun fl hfl => by
    obtain ⟨w, v', e1, f1, J, U⟩ := jn_t (s := 16777215 &&& (2 ^ p ^^^ 4294967295)) (m := p) (x := x) (y := y) (fl := fl) (X := u 45) (Y := u 46) ht6 h2.1 hD s24 Px Py (by omega) (by rw [sT]; exact Tp) xp yp (fun q hq => by
      rw [sT] at hq
      obtain ⟨q1, q2⟩ := (tT q).mp hq
      exact eq q (bit_lt M24 q1) q2) hfl
    rw [sT, r9] at J U
    exact ⟨w, v', e1, f1, J, U⟩
  obtain ⟨w, v', e1, f1, J, U⟩ := gen fl hfl
  obtain ⟨j, -, -, -, J0, U0⟩ := gen 0 (by omega)
  have hj := jf_hm J0 U0
  have sF : ∀ o, SubN o T → SubN o F := fun o ho q hq => (mbS_F h.1 ((tT q).mp (ho q hq)).1).1
  have sm : ∀ o, SubN o F → sumb (z 9) o 24 = sumb (u 47) o 25 := fun o ho => by
    rw [← h.1.sm (s := o) ho, sumb_25 (sub_24 h.1.1.2.1 ho), sumb_25 (sub_24 h.1.1.2.1 ho)]
    exact (sumb_congr fun q hq _ => e47 q hq).symm
  have hj2 := hj.cg (Q := fun o => SubN o T ∧ Tg (u 45) (u 46) (ζ 51 t) (o ||| 2 ^ p)) (g := fun o => sumb (u 47) o 25) (fun o => Iff.rfl) (fun o ho => sm o (sF o ho.1))
  have hR := hD.2.1.2.1
  have wo : ∀ s, s < 16777216 → WOk u s := fun s hs => ⟨by omega, fun q _ hb => by
    have hq := bit_lt hs hb
    obtain ⟨-, -, m3, m4⟩ := mr q hq
    exact ⟨m3, m4⟩⟩
  have hw := hv_hm (R := ζ 51 t) (wo T T24) (by omega)
  have ehw : hvS (u 45) (u 46) (u 47) (ζ 51 t) none T = hvS (ζ 45) (ζ 46) (ζ 47) (ζ 51 t) none T := hvS_cg fun q hq => by
    obtain ⟨q1, q2⟩ := (tT q).mp hq
    have hq := bit_lt M24 q1
    exact ⟨(eq q hq q2).1, (eq q hq q2).2, e47 q hq⟩
  rw [ehw] at hw
  have hv := hv_hm (R := ζ 51 t) (wo (mbS ζ t) M24) (by omega)
  have eTp : T ||| 2 ^ p = mbS ζ t := by
    rw [← hT]
    exact clr_orm (by omega) hp
  have evw : (wsM u t).1 = (hvS (u 45) (u 46) (u 47) (ζ 51 t) none (mbS ζ t)).1 := by
    rw [ws_u, e51, em]
  rw [← evw, ← eTp] at hv
  have e := hm_one (by omega) Tp (by omega) hw hj2 hv
  have ezp : u 47 p = z 9 p := by
    obtain ⟨-, ⟨-, -, -, h4⟩, -⟩ := h.1.1.2.2 p hp24
    rw [e47 p hp24, h4, if_pos hF]
  rw [ezp] at e
  refine ⟨j, w, v', e1, sv.tr (f1.sd ht6), jv_max J U hj, ?_, e⟩
  obtain ⟨⟨o, -, o2⟩, -⟩ := hj
  have o2 : j = sumb (z 9) o 24 := o2
  have := h.1.sin (s := o)
  omega
theorem pos_n {ζ u : Sg} {p : Nat} {x y a b : Int} (hu : SS (up (up ζ 45 p x) 46 p y) u) : SS (up (up ζ 45 p a) 46 p b) (up (up u 45 p a) 46 p b) := fun k j hk => by
  have e := hu k j hk
  by_cases k46 : k = 46
  · subst k46
    by_cases hj : j = p
    · subst hj
      rw [up_s, up_s]
    · rw [up_j hj, up_j hj, up_k (by decide), up_k (by decide)]
      rw [up_j hj, up_k (by decide)] at e
      exact e
  · rw [up_k k46, up_k k46]
    rw [up_k k46] at e
    by_cases k45 : k = 45
    · subst k45
      by_cases hj : j = p
      · subst hj
        rw [up_s, up_s]
      · rw [up_j hj, up_j hj]
        rw [up_j hj] at e
        exact e
    · rw [up_k k45, up_k k45]
      rw [up_k k45] at e
      exact e
theorem up_id {ζ : Sg} {p : Nat} : up (up ζ 45 p (ζ 45 p)) 46 p (ζ 46 p) = ζ := by
  funext k j
  by_cases k46 : k = 46
  · subst k46
    by_cases hj : j = p
    · rw [hj, up_s]
    · rw [up_j hj, up_k (by decide)]
  · rw [up_k k46]
    by_cases k45 : k = 45
    · subst k45
      by_cases hj : j = p
      · rw [hj, up_s]
      · rw [up_j hj]
    · rw [up_k k45]
theorem onw_0 {a b n : Int} : onw a b 0 n = a := by
  unfold onw
  rw [Int.zero_mul, Int.zero_tdiv, Int.zero_mul, if_pos (Int.le_refl 0), Int.add_zero]
/-- two loops side by side, each with fuel of its own -/
theorem loop_tw {α β St Su : Type} {F : Nat → Int → St → Option α} {G : Nat → Int → Su → Option β} (N : Nat) (I : Nat → St → Su → Prop) {P : Option α → Option β → Prop}
    (hs : ∀ n m i s u, i < N → I i s u → P (F (n + 1) (i : Int) s) (G (m + 1) (i : Int) u) ∨ ∃ s' u', I (i + 1) s' u' ∧ F (n + 1) (i : Int) s = F n ((i : Int) + 1) s' ∧ G (m + 1) (i : Int) u = G m ((i : Int) + 1) u')
    (hx : ∀ n m s u, I N s u → P (F (n + 1) (N : Int) s) (G (m + 1) (N : Int) u)) : ∀ (k i : Nat) (s : St) (u : Su) (n m : Nat), i + k = N → I i s u → k < n → k < m → P (F n (i : Int) s) (G m (i : Int) u) := by
  intro k
  induction k with
  | zero =>
    intro i s u n m hi h hn hm
    obtain ⟨n, rfl⟩ : ∃ x, n = x + 1 := ⟨n - 1, by omega⟩
    obtain ⟨m, rfl⟩ : ∃ x, m = x + 1 := ⟨m - 1, by omega⟩
    have hi : i = N := by omega
    subst hi
    exact hx n m s u h
  | succ k ih =>
    intro i s u n m hi h hn hm
    obtain ⟨n, rfl⟩ : ∃ x, n = x + 1 := ⟨n - 1, by omega⟩
    obtain ⟨m, rfl⟩ : ∃ x, m = x + 1 := ⟨m - 1, by omega⟩
    rcases hs n m i s u (by omega) h with h1 | ⟨s', u', h1, h2, h3⟩
    · exact h1
    · rw [h2, h3, ← ncast_s]
      exact ih (i + 1) s' u' n m (by omega) h1 (by omega) (by omega)
theorem Eq_along_n : Eq_along Rl := by
  intro n σd σm a1 a2 a3 a4 a5 a6 hn hR ha1 ha2 ha3 ha4 ha5 ha6
  obtain ⟨F, N, h⟩ := hR
  have h : Rn n σd σm F N := h
  have h1 := h.m0
  have hs := h.ask (z' := σd) (ζ' := up σm 41 0 0) SD.rf ss0
  obtain ⟨hN, hNm, hN6⟩ := h1.nm
  unfold f_X9_along f_X10_along wr
  dsimp only
  generalize up σm 41 0 0 = ζ at *
  rcases (Classical.em (0 ≤ a1 ∧ a1 < N)).symm with c1 | c1
  · rw [treatyAt_f hN ha1 hN6 c1, Option.bind_some, isTr_t hNm hN6 ha1, Option.bind_some, c01_f c1]
    exact ⟨_, _, rfl, rfl, rfl, hs⟩
  obtain ⟨t, hte⟩ : ∃ t : Nat, a1 = (t : Int) := ⟨a1.toNat, by omega⟩
  subst hte
  have ht : t < N := by omega
  obtain ⟨ht6, hD, hA, hQ⟩ := h1.tr ht
  rw [treatyAt_t hN ht hN6, Option.bind_some, oTs_ ht6, isTr_t hNm hN6 ha1, Option.bind_some, c01_t c1, has_t h1.1.1.1 h1.1.1.2.1 ha2, Option.bind_some, isPol_t h1.1 ha2, Option.bind_some]
  rcases (Classical.em (0 ≤ a2 ∧ a2 < 24 ∧ F.testBit a2.toNat = true)).symm with c2 | c2
  · rw [c01_f c2, c01_f c2]
    exact ⟨_, _, rfl, rfl, rfl, hs⟩
  obtain ⟨p, hpe⟩ : ∃ p : Nat, a2 = (p : Int) := ⟨a2.toNat, by omega⟩
  subst hpe
  have hp : p < 24 := by omega
  have hpF : F.testBit p = true := c2.2.2
  rw [c01_t c2, c01_t c2, dIsPlace_n ha3 ha4, Option.bind_some, mIsPlace_n ha3 ha4, Option.bind_some]
  rcases (Classical.em ((0 ≤ a3 ∧ a3 ≤ 299) ∧ (0 ≤ a4 ∧ a4 ≤ 299))).symm with c3 | c3
  · rw [c01_f c3, c01_f c3]
    exact ⟨_, _, rfl, rfl, rfl, hs⟩
  rw [c01_t c3, c01_t c3, w32_eq (z := a5) ha5, w32_eq (z := a6) ha6]
  by_cases c4 : a5 < 1
  · rw [if_pos c4, if_pos c4]
    exact ⟨_, _, rfl, rfl, rfl, hs⟩
  rw [if_neg c4, if_neg c4]
  rcases (Classical.em (a5 ≤ 20)).symm with c5 | c5
  · rw [if_neg c5, if_neg c5]
    exact ⟨_, _, rfl, rfl, rfl, hs⟩
  rw [if_pos c5, if_pos c5]
  by_cases c6 : a6 < 0
  · rw [if_pos c6, if_pos c6]
    exact ⟨_, _, rfl, rfl, rfl, hs⟩
  rw [if_neg c6, if_neg c6]
  rcases (Classical.em (a6 ≤ 1)).symm with c7 | c7
  · rw [if_neg c7, if_neg c7]
    exact ⟨_, _, rfl, rfl, rfl, hs⟩
  rw [if_pos c7, if_pos c7]
  obtain ⟨m, hme⟩ : ∃ m : Nat, a5 = (m : Int) := ⟨a5.toNat, by omega⟩
  subst hme
  obtain ⟨-, ⟨g7, g8, g10, g9⟩, gp, gk, gs, gs1⟩ := h1.1.1.2.2 p hp
  have hpl : Pl (ζ 45) (ζ 46) p := gp
  unfold Pl at gp
  have hckp : 0 ≤ ((p : Nat) : Int) ∧ ((p : Nat) : Int) < 25 := by omega
  have hckt : 0 ≤ ((t : Nat) : Int) ∧ ((t : Nat) : Int) < 6 := by omega
  have hlim := hD.2.1
  have hl0 := hD.2.1.1
  have hl1 := hD.2.1.2.1
  have hl2 := hD.2.1.2.2
  obtain ⟨k, hk⟩ : ∃ k : Nat, ζ 48 p = (k : Int) := ⟨(ζ 48 p).toNat, by omega⟩
  have hk4 : k < 4 := by omega
  have hin := wsM_in ht6 h1.1 hD.2.1
  rw [dSumOf_n hp, Option.bind_some, dPassed_n ht6 h1.1 hD hQ, Option.bind_some, hQ.1.2, one_shl (by omega), u32_nat (pow_lt (by omega)), ck_t hckp, ck_t hckp, ntn]
  have etk : tkB ζ t k = (mbS ζ t).testBit p := by
    unfold tkB mbS prS
    rw [tb_mks, (h1.1.1.2.2 p hp).1, if_pos hpF, hk, ntn, decide_eq_true hp]
    rfl
  -- the reference's loop, whatever the class's is
  have onp : ∀ i : Nat, i ≤ m → (0 ≤ onw (ζ 45 p) a3 i m ∧ onw (ζ 45 p) a3 i m < 300) ∧ (0 ≤ onw (ζ 46 p) a4 i m ∧ onw (ζ 46 p) a4 i m < 300) := fun i hi => ⟨onw_in gp.1 (by omega) (by omega) (by omega), onw_in gp.2 (by omega) (by omega) (by omega)⟩
  have mstep : ∀ (r : Nat) (v9 v10 : Int) (i : Nat) (u : Sg) (x y : Int), i ≤ m → SS (up (up ζ 45 p x) 46 p y) u → InR v9 → InR v10 → ∃ u', SS (up (up ζ 45 p (onw (ζ 45 p) a3 i m)) 46 p (onw (ζ 46 p) a4 i m)) u' ∧ f_X10_along_b82 (r + 1) (t : Int) (p : Int) a3 a4 (m : Int) a6 (ζ 45 p) (ζ 46 p) v9 v10 (i : Int) u = f_X10_along_b82 r (t : Int) (p : Int) a3 a4 (m : Int) a6 (ζ 45 p) (ζ 46 p) (if (wsM u' t).1 ≤ v9 then v9 else (wsM u' t).1) (if v10 = -2 then (if (wsM u' t).1 ≤ ζ 52 t then v10 else (i : Int)) else v10) ((i : Int) + 1) u' := by
    intro r v9 v10 i u x y hi hu i9 i10
    obtain ⟨ox, oy⟩ := onp i hi
    have hu1 := pos_n (a := onw (ζ 45 p) a3 i m) (b := onw (ζ 46 p) a4 i m) hu
    obtain ⟨mr, mt, em, e51, e52, -⟩ := moved_n h1 ht hpF ox oy hu1
    obtain ⟨u2, e, sc, e36, e37, i1, i2⟩ := worstOf_n ht6 mr mt
    have hu2 : SS (up (up ζ 45 p (onw (ζ 45 p) a3 i m)) 46 p (onw (ζ 46 p) a4 i m)) u2 := hu1.tr sc.ss
    have ew : wsM u2 t = wsM (up (up u 45 p (onw (ζ 45 p) a3 i m)) 46 p (onw (ζ 46 p) a4 i m)) t := sc.ss.ws t
    have e52' : u2 52 t = ζ 52 t := by
      rw [sc.row (by decide : 52 ≠ 41)]
      exact e52
    refine ⟨u2, hu2, ?_⟩
    rw [← ew] at e i1
    rw [f_X10_along_b82, w32_n (by omega), w32_n (by omega), if_pos (show (i : Int) ≤ (m : Int) by omega), mOnWay_n gp.1 ⟨c3.1.1, by omega⟩ ⟨by omega, by omega⟩ ⟨by omega, by omega⟩, Option.bind_some, ck_t hckp]
    unfold wr
    dsimp only
    rw [mOnWay_n gp.2 ⟨c3.2.1, by omega⟩ ⟨by omega, by omega⟩ ⟨by omega, by omega⟩, Option.bind_some, ck_t hckp, ntn, e, Option.bind_some]
    dsimp only
    generalize (wsM u2 t).1 = W at *
    rw [w32_eq i1, w32_eq i9]
    have fin : ∀ w0 : Int, f_X10_along_b143 (f_X10_along_b82 r) (t : Int) (p : Int) a3 a4 (m : Int) a6 (ζ 45 p) (ζ 46 p) v10 (i : Int) W w0 u2 = f_X10_along_b82 r (t : Int) (p : Int) a3 a4 (m : Int) a6 (ζ 45 p) (ζ 46 p) w0 (if v10 = -2 then (if W ≤ ζ 52 t then v10 else (i : Int)) else v10) ((i : Int) + 1) u2 := fun w0 => by
      unfold f_X10_along_b143 f_X10_along_b167
      rw [w32_eq i10]
      by_cases d1 : v10 = -2
      · rw [if_pos d1, if_pos d1, ck_t hckt, ntn, w32_eq i1, e52', w32_eq (z := ζ 52 t) ⟨by omega, by omega⟩]
        by_cases d2_ : W ≤ ζ 52 t
        · rw [if_pos d2_, if_pos d2_]
        · rw [if_neg d2_, if_neg d2_]
      · rw [if_neg d1, if_neg d1]
    by_cases d : W ≤ v9
    · rw [if_pos d, if_pos d, fin]
    · rw [if_neg d, if_neg d, fin]
  have mend : ∀ (r : Nat) (v9 v10 : Int) (u : Sg) (x y : Int), SS (up (up ζ 45 p x) 46 p y) u → ∃ u', SS ζ u' ∧ f_X10_along_b82 (r + 1) (t : Int) (p : Int) a3 a4 (m : Int) a6 (ζ 45 p) (ζ 46 p) v9 v10 ((m + 1 : Nat) : Int) u = some (if a6 = 0 then v9 else v10, u') := by
    intro r v9 v10 u x y hu
    have hu1 := pos_n (a := ζ 45 p) (b := ζ 46 p) hu
    rw [up_id] at hu1
    refine ⟨_, hu1, ?_⟩
    rw [f_X10_along_b82, w32_n (by omega), w32_n (by omega), if_neg (show ¬ ((m + 1 : Nat) : Int) ≤ (m : Int) by omega)]
    unfold f_X10_along_b173 wr
    dsimp only
    rw [ck_t hckp, ck_t hckp, ntn, w32_eq (z := a6) ha6]
    by_cases d : a6 = 0
    · rw [if_pos d, if_pos d]
    · rw [if_neg d, if_neg d]
  obtain ⟨r0, hr0, hr1⟩ : ∃ r0, FUEL = r0 + 1 ∧ 900000 < r0 := ⟨999999, rfl, by decide⟩
  have key : ∀ f0 : Int, f0 = (if (wsM ζ t).1 ≤ ζ 52 t then -2 else 0) → ∃ (c : Int) (z' ζ' : Sg), f_X9_along_b100 (p : Int) a3 a4 (m : Int) a6 t ((16777215 &&& (2 ^ p ^^^ 4294967295) : Nat) : Int) (σd 9 p) (wsM ζ t).1 f0 σd = some (c, z') ∧ f_X10_along_b82 FUEL (t : Int) (p : Int) a3 a4 (m : Int) a6 (ζ 45 p) (ζ 46 p) (-1) (-2) 0 ζ = some (c, ζ') ∧ SD σd z' ∧ SS ζ ζ' := by
    intro f0 hf0
    unfold f_X9_along_b100
    cases htk : (mbS ζ t).testBit p with
    | false =>
      have eC : f_X9_along_b105 FUEL (p : Int) a3 a4 (m : Int) a6 t ((16777215 &&& (2 ^ p ^^^ 4294967295) : Nat) : Int) (σd 9 p) (wsM ζ t).1 f0 1 σd = some (if a6 = 0 then (wsM ζ t).1 else f0, σd) := by
        rw [hr0, f_X9_along_b105, w32_1, w32_n (by omega), if_pos (show (1 : Int) ≤ (m : Int) by omega), perilOf_n hp, Option.bind_some, g10, hk, takes_n ht6 hk4 hD.1.1 hD.2.1.1, Option.bind_some, etk, htk, b01_f rfl]
        unfold f_X9_along_b219
        rw [w32_eq (z := a6) ha6]
        by_cases d : a6 = 0
        · rw [if_pos d, if_pos d]
        · rw [if_neg d, if_neg d]
      have nws : ∀ i u, i ≤ m → SS (up (up ζ 45 p (onw (ζ 45 p) a3 i m)) 46 p (onw (ζ 46 p) a4 i m)) u → (wsM u t).1 = (wsM ζ t).1 := fun i u hi hu => by
        obtain ⟨ox, oy⟩ := onp i hi
        obtain ⟨mr, mt, em, e51, e52, -, -, e47, eq⟩ := moved_n h1 ht hpF ox oy hu
        rw [ws_u, ws_u, e51, em]
        congr 1
        exact hvS_cg fun q hq => by
          have hq24 := bit_lt (mbS_24 ζ t) hq
          have hne : q ≠ p := fun e => by
            rw [e, htk] at hq
            cases hq
          exact ⟨(eq q hq24 hne).1, (eq q hq24 hne).2, e47 q hq24⟩
      obtain ⟨o, ol, ow, -⟩ := ws_o ht6 h1.1 hD
      have w0 : 0 ≤ (wsM ζ t).1 := by
        rw [ow]
        exact (h1.1.sin (s := o)).1
      have Q := loop_P (F := fun r i (u : Int × Int × Sg) => f_X10_along_b82 r (t : Int) (p : Int) a3 a4 (m : Int) a6 (ζ 45 p) (ζ 46 p) u.1 u.2.1 i u.2.2) (m + 1) (fun i u => (∃ x y, SS (up (up ζ 45 p x) 46 p y) u.2.2) ∧ ((i = 0 ∧ u.1 = -1 ∧ u.2.1 = -2) ∨ (u.1 = (wsM ζ t).1 ∧ u.2.1 = if (wsM ζ t).1 ≤ ζ 52 t then -2 else 0))) (P := fun X => ∃ u', SS ζ u' ∧ X = some (if a6 = 0 then (wsM ζ t).1 else if (wsM ζ t).1 ≤ ζ 52 t then -2 else 0, u')) (by omega) ?_ ?_ 0 (by omega) (-1, -2, ζ) ⟨⟨ζ 45 p, ζ 46 p, by rw [up_id]; exact SS.rf⟩, Or.inl ⟨rfl, rfl, rfl⟩⟩
      · obtain ⟨u', su, e⟩ := Q
        have e : f_X10_along_b82 FUEL (t : Int) (p : Int) a3 a4 (m : Int) a6 (ζ 45 p) (ζ 46 p) (-1) (-2) 0 ζ = _ := e
        exact ⟨_, σd, u', eC, by rw [e, hf0], SD.rf, su⟩
      · intro r i u hi hI
        obtain ⟨v9, v10, u⟩ := u
        obtain ⟨⟨x, y, su⟩, hv⟩ := hI
        have su : SS (up (up ζ 45 p x) 46 p y) u := su
        have hv : (i = 0 ∧ v9 = -1 ∧ v10 = -2) ∨ (v9 = (wsM ζ t).1 ∧ v10 = if (wsM ζ t).1 ≤ ζ 52 t then -2 else 0) := hv
        right
        have i9 : InR v9 := by
          rcases hv with ⟨-, e, -⟩ | ⟨e, -⟩
          · rw [e]
            decide
          · rw [e]
            exact hin.1
        have i10 : InR v10 := by
          rcases hv with ⟨-, -, e⟩ | ⟨-, e⟩
          · rw [e]
            decide
          · rw [e]
            split <;> decide
        obtain ⟨u', su', e⟩ := mstep r v9 v10 i u x y (by omega) su i9 i10
        have ew := nws i u' (by omega) su'
        rw [ew] at e
        refine ⟨(if (wsM ζ t).1 ≤ v9 then v9 else (wsM ζ t).1, if v10 = -2 then (if (wsM ζ t).1 ≤ ζ 52 t then v10 else (i : Int)) else v10, u'), ⟨⟨_, _, su'⟩, Or.inr ?_⟩, e⟩
        show (if (wsM ζ t).1 ≤ v9 then v9 else (wsM ζ t).1) = (wsM ζ t).1 ∧ (if v10 = -2 then (if (wsM ζ t).1 ≤ ζ 52 t then v10 else (i : Int)) else v10) = if (wsM ζ t).1 ≤ ζ 52 t then -2 else 0
        generalize (wsM ζ t).1 = W at *
        rcases hv with ⟨v1, v2, v3⟩ | ⟨v2, v3⟩
        · rw [v2, v3, if_neg (by omega), if_pos rfl, v1]
          exact ⟨rfl, rfl⟩
        · rw [v2, v3, if_pos (Int.le_refl W)]
          refine ⟨rfl, ?_⟩
          by_cases d : W ≤ ζ 52 t
          · rw [if_pos d, if_pos rfl, if_pos d]
          · rw [if_neg d, if_neg (by decide)]
      · intro r u hI
        obtain ⟨v9, v10, u⟩ := u
        obtain ⟨⟨x, y, su⟩, hv⟩ := hI
        have hv : (m + 1 = 0 ∧ v9 = -1 ∧ v10 = -2) ∨ (v9 = (wsM ζ t).1 ∧ v10 = if (wsM ζ t).1 ≤ ζ 52 t then -2 else 0) := hv
        obtain ⟨u', su', e⟩ := mend r v9 v10 u x y su
        refine ⟨u', su', ?_⟩
        rcases hv with ⟨v1, -⟩ | ⟨v2, v3⟩
        · omega
        · subst v2
          subst v3
          exact e
    | true =>
      have hkt : tkB ζ t k = true := etk.trans htk
      have hsum : 1 ≤ σd 9 p ∧ σd 9 p ≤ 99999 := h1.1.s1 p htk
      obtain ⟨o, -, ol, ev, -, -⟩ := heav_hv (s := 16777215 &&& (2 ^ p ^^^ 4294967295)) (d := t) (by omega) (Nat.lt_of_le_of_lt Nat.and_le_left (by decide)) (mbS_24 ζ t) (sqR hD.2.1.2.1) hD.2.2 h1.1.2 h1.1.s1
      have ea : mbS ζ t &&& (16777215 &&& (2 ^ p ^^^ 4294967295)) = mbS ζ t &&& (2 ^ p ^^^ 4294967295) := by rw [← Nat.and_assoc, and_all (mbS_24 ζ t)]
      rw [ea, h1.1.hv (fun q hq => by rw [Nat.testBit_and, Bool.and_eq_true] at hq; exact (mbS_F h1.1 hq.1).1)] at ev
      have hw0 : 0 ≤ (hvS (ζ 45) (ζ 46) (ζ 47) (ζ 51 t) none (mbS ζ t &&& (2 ^ p ^^^ 4294967295))).1 ∧ (hvS (ζ 45) (ζ 46) (ζ 47) (ζ 51 t) none (mbS ζ t &&& (2 ^ p ^^^ 4294967295))).1 ≤ 24 * 99999 := by
        rw [ev]
        exact h1.1.sin (s := o)
      have stp : ∀ (i : Nat) (u v : Sg) (fl : Int), i ≤ m → SS (up (up ζ 45 p (onw (ζ 45 p) a3 i m)) 46 p (onw (ζ 46 p) a4 i m)) u → SD σd v → -1000000000 ≤ fl ∧ fl ≤ 1000000000 → _ := fun i u v fl hi hu sv hfl => step_n h1 ht htk (onp i hi).1 (onp i hi).2 hu sv hfl
      clear ev ea
      obtain ⟨u1, su1, eR⟩ := mstep r0 (-1) (-2) 0 ζ (ζ 45 p) (ζ 46 p) (Nat.zero_le m) (by rw [up_id]; exact SS.rf) (by decide) (by decide)
      obtain ⟨j0, g0, v0, -, -, -, bj0, ew0⟩ := stp 0 u1 σd 0 (Nat.zero_le m) su1 SD.rf ⟨by omega, by omega⟩
      have su2 : SS ζ u1 := by
        have h3 := su1
        rw [show onw (ζ 45 p) a3 ((0 : Nat) : Int) m = ζ 45 p from onw_0, show onw (ζ 46 p) a4 ((0 : Nat) : Int) m = ζ 46 p from onw_0, up_id] at h3
        exact h3
      rw [su2.ws t] at eR ew0
      obtain ⟨W0, hW0⟩ : ∃ W, W = (wsM ζ t).1 := ⟨_, rfl⟩
      rw [← hW0] at eR ew0 hf0 ⊢
      generalize (hvS (ζ 45) (ζ 46) (ζ 47) (ζ 51 t) none (mbS ζ t &&& (2 ^ p ^^^ 4294967295))).1 = w at *
      have hW1 : w ≤ W0 ∧ W0 ≤ 100000000 := by
        by_cases q : w < j0 + σd 9 p
        · rw [if_pos q] at ew0
          omega
        · rw [if_neg q] at ew0
          omega
      have eR2 : f_X10_along_b82 FUEL (t : Int) (p : Int) a3 a4 (m : Int) a6 (ζ 45 p) (ζ 46 p) (-1) (-2) 0 ζ = f_X10_along_b82 r0 (t : Int) (p : Int) a3 a4 (m : Int) a6 (ζ 45 p) (ζ 46 p) W0 f0 ((1 : Nat) : Int) u1 := by
        rw [if_neg (show ¬ W0 ≤ -1 by omega), if_pos (rfl : (-2 : Int) = -2)] at eR
        rw [hr0, hf0]
        exact eR
      have hf1 : f0 = -2 ∧ W0 ≤ ζ 52 t ∨ 0 ≤ f0 ∧ f0 ≤ ((1 : Nat) : Int) ∧ ζ 52 t < W0 := by
        by_cases d : W0 ≤ ζ 52 t
        · rw [if_pos d] at hf0
          exact Or.inl ⟨hf0, d⟩
        · rw [if_neg d] at hf0
          exact Or.inr ⟨by omega, by omega, by omega⟩
      rw [eR2]
      refine loop_tw (F := fun r i (u : Int × Int × Sg) => f_X9_along_b105 r (p : Int) a3 a4 (m : Int) a6 t ((16777215 &&& (2 ^ p ^^^ 4294967295) : Nat) : Int) (σd 9 p) u.1 u.2.1 i u.2.2) (G := fun r i (u : Int × Int × Sg) => f_X10_along_b82 r (t : Int) (p : Int) a3 a4 (m : Int) a6 (ζ 45 p) (ζ 46 p) u.1 u.2.1 i u.2.2) (m + 1)
        (fun i a b => SD σd a.2.2 ∧ (∃ x y, SS (up (up ζ 45 p x) 46 p y) b.2.2) ∧ (w ≤ a.1 ∧ a.1 ≤ 100000000) ∧ (a.2.1 = -2 ∧ a.1 ≤ ζ 52 t ∨ 0 ≤ a.2.1 ∧ a.2.1 ≤ i ∧ ζ 52 t < a.1) ∧ b.1 = a.1 ∧ b.2.1 = a.2.1)
        (P := fun X Y => ∃ (c : Int) (z' ζ' : Sg), X = some (c, z') ∧ Y = some (c, ζ') ∧ SD σd z' ∧ SS ζ ζ') ?_ ?_ m 1 (W0, f0, σd) (W0, f0, u1) FUEL r0 (by omega) ⟨SD.rf, ⟨ζ 45 p, ζ 46 p, by rw [up_id]; exact su2⟩, hW1, hf1, rfl, rfl⟩ (fuel_lt (by omega)) (by omega)
      · intro r r' i a b hi hI
        obtain ⟨c, f, v⟩ := a
        obtain ⟨c', f', u⟩ := b
        obtain ⟨sv, ⟨x, y, su⟩, hc, hf, hb1, hb2⟩ := hI
        have sv : SD σd v := sv
        have su : SS (up (up ζ 45 p x) 46 p y) u := su
        have hc : w ≤ c ∧ c ≤ 100000000 := hc
        have hf : f = -2 ∧ c ≤ ζ 52 t ∨ 0 ≤ f ∧ f ≤ i ∧ ζ 52 t < c := hf
        have hb1 : c' = c := hb1
        have hb2 : f' = f := hb2
        right
        have i9 : InR c := ⟨by omega, by omega⟩
        have i10 : InR f := ⟨by omega, by omega⟩
        obtain ⟨u', su', e⟩ := mstep r' c f i u x y (by omega) su i9 i10
        obtain ⟨j, g, v', e1, s1, eg, bj, ew⟩ := stp i u' v (c - σd 9 p) (by omega) su' sv ⟨by omega, by omega⟩
        have h2 := h1.sd sv
        obtain ⟨-, hD2, -, -⟩ := h2.tr ht
        have v7 : v 7 p = ζ 45 p := by rw [sv.row (k := 7) (by omega), g7]
        have v8 : v 8 p = ζ 46 p := by rw [sv.row (k := 8) (by omega), g8]
        have v10 : v 10 p = (k : Int) := by rw [sv.row (k := 10) (by omega), g10, hk]
        have v4 : v' (21 + t) 4 = ζ 52 t := by rw [s1.row (k := 21 + t) (by omega), hD.1.2.2]
        obtain ⟨ox, oy⟩ := onp i (by omega)
        show ∃ (s' : Int × Int × Sg) (u'' : Int × Int × Sg), _ ∧ f_X9_along_b105 (r + 1) (p : Int) a3 a4 (m : Int) a6 t _ (σd 9 p) c f (i : Int) v = f_X9_along_b105 r (p : Int) a3 a4 (m : Int) a6 t _ (σd 9 p) s'.1 s'.2.1 ((i : Int) + 1) s'.2.2 ∧ f_X10_along_b82 (r' + 1) (t : Int) (p : Int) a3 a4 (m : Int) a6 (ζ 45 p) (ζ 46 p) c' f' (i : Int) u = f_X10_along_b82 r' (t : Int) (p : Int) a3 a4 (m : Int) a6 (ζ 45 p) (ζ 46 p) u''.1 u''.2.1 ((i : Int) + 1) u''.2.2
        rw [hb1, hb2]
        rw [f_X9_along_b105, w32_n (by omega), w32_n (by omega), if_pos (show (i : Int) ≤ (m : Int) by omega), perilOf_n hp, Option.bind_some, v10, takes_n ht6 hk4 hD2.1.1 hD2.2.1.1, Option.bind_some, b01_t hkt, xOf_n hp, Option.bind_some, v7, dOnWay_n gp.1 ⟨c3.1.1, by omega⟩ ⟨by omega, by omega⟩ ⟨by omega, by omega⟩, Option.bind_some, yOf_n hp, Option.bind_some, v8, dOnWay_n gp.2 ⟨c3.2.1, by omega⟩ ⟨by omega, by omega⟩ ⟨by omega, by omega⟩, Option.bind_some, e1, Option.bind_some]
        dsimp only
        have eg2 : g + σd 9 p = if c < j + σd 9 p then j + σd 9 p else c := by
          rw [eg]
          by_cases d : c - σd 9 p < j
          · rw [if_pos d, if_pos (by omega)]
          · rw [if_neg d, if_neg (by omega)]
            omega
        simp only [eg2, v4]
        have em : mmaxI c (if c < j + σd 9 p then j + σd 9 p else c) = if c < j + σd 9 p then j + σd 9 p else c := by
          rw [mmax_i ⟨by omega, by omega⟩ (by split <;> exact ⟨by omega, by omega⟩)]
          by_cases d : c < j + σd 9 p
          · rw [if_pos d, if_pos d]
          · rw [if_neg d, if_neg (Int.lt_irrefl c)]
        rw [em]
        obtain ⟨d, hd⟩ : ∃ d, d = if c < j + σd 9 p then j + σd 9 p else c := ⟨_, rfl⟩
        rw [← hd]
        have hdc : c ≤ d ∧ d ≤ 100000000 := by
          rw [hd]
          by_cases q : c < j + σd 9 p
          · rw [if_pos q]
            omega
          · rw [if_neg q]
            omega
        rw [w32_eq (z := f) ⟨by omega, by omega⟩, w32_eq (z := d) ⟨by omega, by omega⟩, w32_eq (z := ζ 52 t) ⟨by omega, by omega⟩]
        have keyW : (if (wsM u' t).1 ≤ c then c else (wsM u' t).1) = d := by
          rw [ew, hd]
          by_cases q : w < j + σd 9 p
          · rw [if_pos q]
            by_cases q5 : c < j + σd 9 p
            · rw [if_pos q5, if_neg (by omega)]
            · rw [if_neg q5, if_pos (by omega)]
          · rw [if_neg q, if_pos (by omega), if_neg (by omega)]
        have hle : (wsM u' t).1 ≤ ζ 52 t ↔ (w ≤ ζ 52 t ∧ j + σd 9 p ≤ ζ 52 t) := by
          rw [ew]
          by_cases q : w < j + σd 9 p
          · rw [if_pos q]
            omega
          · rw [if_neg q]
            omega
        have hdl : d ≤ ζ 52 t ↔ (c ≤ ζ 52 t ∧ j + σd 9 p ≤ ζ 52 t) := by
          rw [hd]
          by_cases q : c < j + σd 9 p
          · rw [if_pos q]
            omega
          · rw [if_neg q]
            omega
        generalize (wsM u' t).1 = W at *
        have e : f_X10_along_b82 (r' + 1) (t : Int) (p : Int) a3 a4 (m : Int) a6 (ζ 45 p) (ζ 46 p) c f (i : Int) u = f_X10_along_b82 r' (t : Int) (p : Int) a3 a4 (m : Int) a6 (ζ 45 p) (ζ 46 p) d (if f = -2 then (if W ≤ ζ 52 t then f else (i : Int)) else f) ((i : Int) + 1) u' := by
          rw [e, keyW]
        have goal : ∀ F2 : Int, (F2 = if f < 0 then (if d ≤ ζ 52 t then f else (i : Int)) else f) → (F2 = -2 ∧ d ≤ ζ 52 t ∨ 0 ≤ F2 ∧ F2 ≤ ((i + 1 : Nat) : Int) ∧ ζ 52 t < d) ∧ (if f = -2 then (if W ≤ ζ 52 t then f else (i : Int)) else f) = F2 := by
          intro F2 hF2
          rcases hf with ⟨f1, f2⟩ | ⟨f1, f2, f3⟩
          · rw [if_pos (show f < 0 by omega)] at hF2
            rw [if_pos f1]
            by_cases q : d ≤ ζ 52 t
            · rw [if_pos q] at hF2
              have q2 := hdl.mp q
              rw [if_pos (hle.mpr ⟨by omega, q2.2⟩)]
              omega
            · rw [if_neg q] at hF2
              rw [if_neg (fun q3 => q (hdl.mpr ⟨f2, (hle.mp q3).2⟩))]
              omega
          · rw [if_neg (show ¬ f < 0 by omega)] at hF2
            rw [if_neg (show ¬ f = -2 by omega)]
            omega
        by_cases d1 : f < 0
        · rw [if_pos d1]
          by_cases d2_ : d ≤ ζ 52 t
          · rw [if_pos d2_]
            obtain ⟨g1, g2⟩ := goal f (by rw [if_pos d1, if_pos d2_])
            rw [g2] at e
            exact ⟨(d, f, v'), (d, f, u'), ⟨s1, ⟨_, _, su'⟩, ⟨by show w ≤ d; omega, hdc.2⟩, g1, rfl, rfl⟩, rfl, e⟩
          · rw [if_neg d2_]
            obtain ⟨g1, g2⟩ := goal (i : Int) (by rw [if_pos d1, if_neg d2_])
            rw [g2] at e
            exact ⟨(d, (i : Int), v'), (d, (i : Int), u'), ⟨s1, ⟨_, _, su'⟩, ⟨by show w ≤ d; omega, hdc.2⟩, g1, rfl, rfl⟩, rfl, e⟩
        · rw [if_neg d1]
          obtain ⟨g1, g2⟩ := goal f (by rw [if_neg d1])
          rw [g2] at e
          exact ⟨(d, f, v'), (d, f, u'), ⟨s1, ⟨_, _, su'⟩, ⟨by show w ≤ d; omega, hdc.2⟩, g1, rfl, rfl⟩, rfl, e⟩
      · intro r r' a b hI
        obtain ⟨c, f, v⟩ := a
        obtain ⟨c', f', u⟩ := b
        obtain ⟨sv, ⟨x, y, su⟩, hc, hf, hb1, hb2⟩ := hI
        have hb1 : c' = c := hb1
        have hb2 : f' = f := hb2
        obtain ⟨u', su', e⟩ := mend r' c f u x y su
        have e : f_X10_along_b82 (r' + 1) (t : Int) (p : Int) a3 a4 (m : Int) a6 (ζ 45 p) (ζ 46 p) c' f' ((m + 1 : Nat) : Int) u = some (if a6 = 0 then c else f, u') := by
          rw [hb1, hb2]
          exact e
        refine ⟨if a6 = 0 then c else f, v, u', ?_, e, sv, su'⟩
        show f_X9_along_b105 (r + 1) (p : Int) a3 a4 (m : Int) a6 t _ (σd 9 p) c f ((m + 1 : Nat) : Int) v = _
        rw [f_X9_along_b105, w32_n (by omega), w32_n (by omega), if_neg (show ¬ ((m + 1 : Nat) : Int) ≤ (m : Int) by omega)]
        unfold f_X9_along_b219
        rw [w32_eq (z := a6) ha6]
        by_cases d : a6 = 0
        · rw [if_pos d, if_pos d]
        · rw [if_neg d, if_neg d]
  by_cases d : (wsM ζ t).1 ≤ ζ 52 t
  · have d3 : ¬ psM ζ t := by unfold psM; omega
    rw [c01_f d3]
    obtain ⟨c, z', ζ', e1, e2, s1, s2⟩ := key (-2) (by rw [if_pos d])
    rw [e1, e2]
    exact ⟨_, _, rfl, rfl, rfl, h1.ask (z' := z') (ζ' := ζ') s1 s2⟩
  · have d3 : psM ζ t := by unfold psM; omega
    rw [c01_t d3]
    obtain ⟨c, z', ζ', e1, e2, s1, s2⟩ := key 0 (by rw [if_neg d])
    rw [e1, e2]
    exact ⟨_, _, rfl, rfl, rfl, h1.ask (z' := z') (ζ' := ζ') s1 s2⟩
