/-! ===== pure level: one more policy; a place ===== -/
theorem hv_hm {ζ : Sg} {s : Nat} {R : Int} (h : WOk ζ s) (hR : 0 ≤ R ∧ R ≤ 300) : HM (fun o => SubN o s ∧ Tg (ζ 45) (ζ 46) R o) (fun o => sumb (ζ 47) o 25) (hvS (ζ 45) (ζ 46) (ζ 47) R none s).1 := by
  unfold hvS
  by_cases h0 : s = 0
  · rw [if_pos h0]
    subst h0
    refine ⟨⟨0, ⟨fun _ h => h, tg_00⟩, (sumb_0 25).symm⟩, fun o ho => ?_⟩
    show sumb (ζ 47) o 25 ≤ 0
    rw [subN_0 ho.1, sumb_0]
    exact Int.le_refl _
  · rw [if_neg h0]
    obtain ⟨ζ', -, -, -, n⟩ := weighs_n (σ := ζ) (s := s) (R := R) (must := none) h.1 h hR (fun m q => nomatch q)
    have hB := (n h0).1
    have := best_hm h.1 h0 (fun q hq => (h.2 q (bit25 h.1 hq) hq).2.1) hB
    rw [hB.v.1] at this
    exact this
theorem jv_max {X Y S : Nat → Int} {R fl v j : Int} {T m : Nat} (h : JF X Y S R T m fl v) (hu : ∀ o, JS X Y R T m o → sumb S o 24 ≤ v) (hj : HM (JS X Y R T m) (fun o => sumb S o 24) j) : v = if fl < j then j else fl := by
  obtain ⟨⟨o, o1, o2⟩, hj⟩ := hj
  have o2 : j = sumb S o 24 := o2
  have := hu o o1
  obtain ⟨h1, h2⟩ := h
  have vle : v = fl ∨ v ≤ j := h2.imp id (fun ⟨u, u1, u2⟩ => by
    have h3 : sumb S u 24 ≤ j := hj u u1
    omega)
  by_cases c : fl < j
  · rw [if_pos c]
    omega
  · rw [if_neg c]
    omega
/-- from nothing on it is the best itself -/
theorem jf_hm {X Y S : Nat → Int} {R v : Int} {T m : Nat} (h : JF X Y S R T m 0 v) (hu : ∀ o, JS X Y R T m o → sumb S o 24 ≤ v) : HM (JS X Y R T m) (fun o => sumb S o 24) v := by
  refine ⟨?_, hu⟩
  rcases h.2 with e | ⟨o, o1, o2⟩
  · refine ⟨0, ⟨(fun q hq => by rw [Nat.zero_testBit] at hq; cases hq), tg_0⟩, ?_⟩
    show v = sumb S 0 24
    rw [sumb_0]
    exact e
  · exact ⟨o, o1, o2⟩
theorem HM.cg {P Q : Nat → Prop} {f g : Nat → Int} {v : Int} (h : HM P f v) (e : ∀ o, P o ↔ Q o) (e2 : ∀ o, P o → f o = g o) : HM Q g v := by
  obtain ⟨⟨o, o1, o2⟩, hu⟩ := h
  exact ⟨⟨o, (e o).mp o1, by rw [← e2 o o1]; exact o2⟩, fun u hu2 => by rw [← e2 u ((e u).mpr hu2)]; exact hu u ((e u).mpr hu2)⟩
theorem hm_mm {X Y S : Nat → Int} {R v : Int} {T m : Nat} (hT : T < 33554432) (hm : T.testBit m = false) (hm25 : m < 25) (h0 : S m = 0) (h : HM (fun o => SubN o (T ||| 2 ^ m) ∧ Tg X Y R o ∧ o.testBit m = true) (fun o => sumb S o 25) v) : HM (JS X Y R T m) (fun o => sumb S o 25) v := by
  obtain ⟨⟨o, ⟨o1, o2, o3⟩, o4⟩, hu⟩ := h
  have hp : 2 ^ m < 33554432 := pow_25 hm25
  have hTm : T ||| 2 ^ m < 33554432 := Nat.or_lt_two_pow (n := 25) hT hp
  have ol := sub_25 hTm o1
  have nb : ∀ u, SubN u T → u.testBit m = false := fun u hu => by
    cases e : u.testBit m with
    | false => rfl
    | true =>
      rw [hu m e] at hm
      cases hm
  have h1 : SubN (o &&& (2 ^ m ^^^ 4294967295)) T := fun q hq => by
    rw [tb_clr2 ol, Bool.and_eq_true] at hq
    rcases tb_or_pow.mp (o1 q hq.1) with r | r
    · exact r
    · rw [r] at hq
      simp at hq
  refine ⟨⟨o &&& (2 ^ m ^^^ 4294967295), ⟨h1, by rw [clr_orm ol o3]; exact o2⟩, ?_⟩, fun u hu2 => ?_⟩
  · have := sumb_or (S := S) (nb _ h1) 25
    rw [clr_orm ol o3, if_pos hm25, h0, Int.add_zero] at this
    show v = sumb S (o &&& (2 ^ m ^^^ 4294967295)) 25
    rw [← this]
    exact o4
  · have h2 := hu (u ||| 2 ^ m) ⟨fun q hq => tb_or_pow.mpr ((tb_or_pow.mp hq).imp (hu2.1 q) id), hu2.2, tb_or_pow.mpr (Or.inr rfl)⟩
    have h2 : sumb S (u ||| 2 ^ m) 25 ≤ v := h2
    rw [sumb_or (nb u hu2.1), if_pos hm25, h0, Int.add_zero] at h2
    exact h2
theorem jn_t {z ζ : Sg} {F t s m : Nat} {x y fl : Int} {X Y : Nat → Int} (ht : t < 6) (h : RelB z ζ F) (hD : TrD z ζ t) (hs : s < 16777216) (Px : 0 ≤ x ∧ x < 300) (Py : 0 ≤ y ∧ y < 300) (hm25 : m < 25) (hm : (s &&& mbS ζ t).testBit m = false) (xm : X m = x) (ym : Y m = y) (xq : ∀ q, (s &&& mbS ζ t).testBit q = true → X q = ζ 45 q ∧ Y q = ζ 46 q) (hfl : -1000000000 ≤ fl ∧ fl ≤ 1000000000) :
    ∃ (v : Int) (z' : Sg), f_X2_joined t x y (s : Int) fl z = some (v, z') ∧ FrJ t z z' ∧ JF X Y (z 9) (ζ 51 t) (s &&& mbS ζ t) m fl v ∧ ∀ o, JS X Y (ζ 51 t) (s &&& mbS ζ t) m o → sumb (z 9) o 24 ≤ v :=
  joined_n (by omega) h.1.1 h.1.2.1 (fun q hq => (mbS_F h hq).1) hs hD.2.1.2.1 hD.2.2 h.pl h.2 h.s1 Px Py hm25 hm xm ym (fun q hq => by
    have hq2 : (mbS ζ t).testBit q = true := by
      rw [Nat.testBit_and, Bool.and_eq_true] at hq
      exact hq.2
    obtain ⟨-, ⟨h1, h2, -⟩, -⟩ := h.1.2.2 q (mbS_F h hq2).2.1
    rw [h1, h2]
    exact xq q hq) hfl
theorem FrJ.sd {t : Nat} {z z' : Sg} (ht : t < 6) (h : FrJ t z z') : SD z z' := fun k j hk => h k j (fun q => hk (by unfold DSc; omega))
abbrev pX (X : Nat → Int) (m : Nat) (x : Int) : Nat → Int := fun q => if q = m then x else X q
theorem pX_s {X : Nat → Int} {m : Nat} {x : Int} : pX X m x m = x := if_pos rfl
theorem pX_n {X : Nat → Int} {m q : Nat} {x : Int} (h : q ≠ m) : pX X m x q = X q := if_neg h
theorem up_pX {σ : Sg} {k j : Nat} {v : Int} : up σ k j v k = pX (σ k) j v := by
  funext q
  by_cases e : q = j
  · rw [e, up_s, pX_s]
  · rw [up_j e, pX_n e]
/-- the reference puts one more -/
theorem puts_n {ζ : Sg} {x y s p : Int} : ∃ ζ', f_X10_puts 24 x y s p ζ = some ζ' ∧ SS ζ ζ' ∧ ζ' 45 = pX (ζ 45) 24 x ∧ ζ' 46 = pX (ζ 46) 24 y ∧ ζ' 47 = pX (ζ 47) 24 s ∧ ∀ j, ζ' 41 j = ζ 41 j := by
  unfold f_X10_puts wr
  dsimp only
  rw [ck_t (by decide), ck_t (by decide), ck_t (by decide), ck_t (by decide), show ((24 : Int)).toNat = 24 from rfl]
  refine ⟨_, rfl, (((SS.rf.up (by unfold Scm; omega)).up (by unfold Scm; omega)).up (by unfold Scm; omega)).up (by unfold Scm; omega), ?_, ?_, ?_, fun j => ?_⟩
  · rw [up_k (by decide), up_k (by decide), up_k (by decide), up_pX]
  · rw [up_k (by decide), up_k (by decide), up_pX, up_k (by decide)]
  · rw [up_k (by decide), up_pX, up_k (by decide), up_k (by decide)]
  · rw [up_k (by decide), up_k (by decide), up_k (by decide), up_k (by decide)]
theorem wok_24 {z ζ : Sg} {F M : Nat} {x y s : Int} (h : RelB z ζ F) (hM : M < 16777216) (e45 : ζ 45 24 = x) (e46 : ζ 46 24 = y) (e47 : ζ 47 24 = s) (Px : 0 ≤ x ∧ x < 300) (Py : 0 ≤ y ∧ y < 300) (Ps : 0 ≤ s ∧ s ≤ 99999) : WOk ζ (M ||| 2 ^ 24) := by
  refine ⟨Nat.or_lt_two_pow (n := 25) (Nat.lt_trans hM (by decide)) (by decide), fun q hq hb => ?_⟩
  rcases tb_or_pow.mp hb with r | r
  · have hq := bit_lt hM r
    obtain ⟨-, -, h1, -, h2, -⟩ := h.1.2.2 q hq
    exact ⟨h1, h2⟩
  · subst r
    unfold Pl
    rw [e45, e46, e47]
    exact ⟨⟨Px, Py⟩, Ps⟩
theorem and_all2 {M : Nat} (hM : M < 16777216) : 16777215 &&& M = M := by rw [Nat.and_comm, and_all hM]
/-- the reference's greatest with a place -/
theorem wp_n {z ζ : Sg} {F t : Nat} {x y : Int} (ht : t < 6) (h : RelB z ζ F) (hD : TrD z ζ t) (Px : 0 ≤ x ∧ x < 300) (Py : 0 ≤ y ∧ y < 300) :
    ∃ (j : Int) (ζ' : Sg), f_X10_withPlace (t : Int) x y ζ = some (j, ζ') ∧ SS ζ ζ' ∧ HM (JS (pX (ζ 45) 24 x) (pX (ζ 46) 24 y) (ζ 51 t) (mbS ζ t) 24) (fun o => sumb (z 9) o 24) j := by
  obtain ⟨ζ1, e1, s1, r45, r46, r47, -⟩ := puts_n (ζ := ζ) (x := x) (y := y) (s := 0) (p := 0)
  have hB1 := h.ss s1
  have hD1 := hD.ss s1
  have mb : mbS ζ1 t = mbS ζ t := s1.mb t
  have M24 := mbS_24 ζ t
  have M25 : mbS ζ t < 33554432 := by omega
  have hwo : WOk ζ1 (mset (mbS ζ t) (some 24)) := wok_24 (x := x) (y := y) (s := 0) hB1 M24 (by rw [r45]; exact pX_s) (by rw [r46]; exact pX_s) (by rw [r47]; exact pX_s) Px Py ⟨by omega, by omega⟩
  have hR := hD.2.1.2.1
  obtain ⟨ζ2, e2, c2, -, n2⟩ := weighs_n (σ := ζ1) (s := mbS ζ t) (R := ζ 51 t) (must := some 24) M25 hwo (by omega) (fun m q => by cases q; decide)
  have tb : (mbS ζ t ||| 2 ^ 24).testBit 24 = true := tb_or_pow.mpr (Or.inr rfl)
  have hne : mset (mbS ζ t) (some 24) ≠ 0 := fun e => by
    have e : mbS ζ t ||| 2 ^ 24 = 0 := e
    rw [e, Nat.zero_testBit] at tb
    cases tb
  have hb := best_hmm (m := 24) hwo.1 tb (fun q hq => (hwo.2 q (bit25 hwo.1 hq) hq).2.1) (n2 hne).1
  rw [r45, r46, r47] at hb
  have hj := hm_mm M25 (tb_24 M24 (Nat.le_refl _)) (by decide) pX_s hb
  have sF : ∀ o, SubN o (mbS ζ t) → SubN o F := fun o ho q hq => (mbS_F h (ho q hq)).1
  refine ⟨ζ2 41 36, ζ2, ?_, s1.tr c2.ss, hj.cg (fun o => Iff.rfl) (fun o ho => ?_)⟩
  · unfold f_X10_withPlace
    have hck : 0 ≤ ((t : Nat) : Int) ∧ ((t : Nat) : Int) < 6 := by omega
    have e2 : f_X10_weighs ((mbS ζ t : Nat) : Int) (ζ 51 t) 24 ζ1 = some ζ2 := e2
    rw [e1, Option.bind_some, ofTr_n ht hB1 hD1.2.1, Option.bind_some, ck_t hck, ntn, mb, s1.r49 (k := 51) (by omega), e2, Option.bind_some]
  · have := hB1.sm (s := o) (sF o ho.1)
    rw [r47] at this
    exact this
theorem Eq_about_n : Eq_about Rl := by
  intro n σd σm a1 a2 a3 hn hR ha1 ha2 ha3
  obtain ⟨F, N, h⟩ := hR
  have h : Rn n σd σm F N := h
  have h1 := h.m0
  have hs := h.ask (z' := σd) (ζ' := up σm 41 0 0) SD.rf ss0
  obtain ⟨hN, hNm, hN6⟩ := h1.nm
  unfold f_X9_about f_X10_about wr
  dsimp only
  generalize up σm 41 0 0 = ζ at *
  by_cases c1 : 0 ≤ a1 ∧ a1 < N
  · obtain ⟨t, hte⟩ : ∃ t : Nat, a1 = (t : Int) := ⟨a1.toNat, by omega⟩
    subst hte
    have ht : t < N := by omega
    obtain ⟨ht6, hD, hA, hQ⟩ := h1.tr ht
    rw [treatyAt_t hN ht hN6, Option.bind_some, oTs_ ht6, isTr_t hNm hN6 ha1, Option.bind_some, c01_t c1, dIsPlace_n ha2 ha3, Option.bind_some, mIsPlace_n ha2 ha3, Option.bind_some]
    by_cases c2 : (0 ≤ a2 ∧ a2 ≤ 299) ∧ (0 ≤ a3 ∧ a3 ≤ 299)
    · have M24 := mbS_24 ζ t
      have ea := and_all2 M24
      obtain ⟨v, z', e1, f1, J, U⟩ := jn_t (s := 16777215) (m := 24) (x := a2) (y := a3) (fl := 0) (X := pX (ζ 45) 24 a2) (Y := pX (ζ 46) 24 a3) ht6 h1.1 hD (by decide) ⟨by omega, by omega⟩ ⟨by omega, by omega⟩ (by decide) (by rw [ea]; exact tb_24 M24 (Nat.le_refl _)) pX_s pX_s (fun q hq => by
        rw [ea] at hq
        have := bit_lt M24 hq
        exact ⟨pX_n (by omega), pX_n (by omega)⟩) ⟨by omega, by omega⟩
      rw [ea] at J U
      obtain ⟨j, ζ', e2, s2, hj⟩ := wp_n (x := a2) (y := a3) ht6 h1.1 hD ⟨by omega, by omega⟩ ⟨by omega, by omega⟩
      have hvj : v = j := (jf_hm J U).u hj
      subst hvj
      have e1 : f_X2_joined t a2 a3 16777215 0 σd = some (v, z') := e1
      rw [c01_t c2, c01_t c2, e1, Option.bind_some, e2, Option.bind_some]
      exact ⟨_, _, rfl, rfl, rfl, h1.ask (z' := z') (ζ' := ζ') (f1.sd ht6) s2⟩
    · rw [c01_f c2, c01_f c2]
      exact ⟨_, _, rfl, rfl, rfl, hs⟩
  · rw [treatyAt_f hN ha1 hN6 c1, Option.bind_some, isTr_t hNm hN6 ha1, Option.bind_some, c01_f c1]
    exact ⟨_, _, rfl, rfl, rfl, hs⟩
theorem Eq_ifWritten_n : Eq_ifWritten Rl := by
  intro n σd σm a1 a2 a3 a4 a5 hn hR ha1 ha2 ha3 ha4 ha5
  obtain ⟨F, N, h⟩ := hR
  have h : Rn n σd σm F N := h
  have h1 := h.m0
  have hs := h.ask (z' := σd) (ζ' := up σm 41 0 0) SD.rf ss0
  obtain ⟨hN, hNm, hN6⟩ := h1.nm
  unfold f_X9_ifWritten f_X10_ifWritten wr
  dsimp only
  generalize up σm 41 0 0 = ζ at *
  by_cases c1 : 0 ≤ a1 ∧ a1 < N
  · obtain ⟨t, hte⟩ : ∃ t : Nat, a1 = (t : Int) := ⟨a1.toNat, by omega⟩
    subst hte
    have ht : t < N := by omega
    obtain ⟨ht6, hD, hA, hQ⟩ := h1.tr ht
    rw [treatyAt_t hN ht hN6, Option.bind_some, oTs_ ht6, isTr_t hNm hN6 ha1, Option.bind_some, c01_t c1, dIsPlace_n ha2 ha3, Option.bind_some, mIsPlace_n ha2 ha3, Option.bind_some]
    by_cases c2 : (0 ≤ a2 ∧ a2 ≤ 299) ∧ (0 ≤ a3 ∧ a3 ≤ 299)
    · rw [c01_t c2, c01_t c2, dIsSum_n ha4, Option.bind_some, mIsSum_n ha4, Option.bind_some]
      by_cases c3 : 1 ≤ a4 ∧ a4 ≤ 99999
      · rw [c01_t c3, c01_t c3, dIsPeril_n ha5, Option.bind_some, mIsPeril_n ha5, Option.bind_some]
        by_cases c4 : 0 ≤ a5 ∧ a5 ≤ 3
        · obtain ⟨q, hqe⟩ : ∃ q : Nat, a5 = (q : Int) := ⟨a5.toNat, by omega⟩
          subst hqe
          have hq4 : q < 4 := by omega
          have M24 := mbS_24 ζ t
          have ea := and_all2 M24
          have hlim := hD.2.1
          have hl0 := hD.2.1.1
          have hl1 := hD.2.1.2.1
          have hl2 := hD.2.1.2.2
          obtain ⟨ζ1, p1, s1, r45, r46, r47, -⟩ := puts_n (ζ := ζ) (x := a2) (y := a3) (s := a4) (p := (q : Int))
          have hB1 := h1.1.ss s1
          have hck : 0 ≤ ((t : Nat) : Int) ∧ ((t : Nat) : Int) < 6 := by omega
          have T50 : ζ1 50 ((t : Nat) : Int).toNat = ((((ζ 50 t).toNat : Nat)) : Int) := by
            rw [show ((t : Nat) : Int).toNat = t from Int.toNat_natCast t, s1.r49 (k := 50) (by omega)]
            have := hlim.1
            omega
          rw [c01_t c4, c01_t c4, takes_n ht6 hq4 hD.1.1 hD.2.1.1, Option.bind_some, ofTr_n ht6 h1.1 hD.2.1, Option.bind_some, p1, Option.bind_some, ck_t hck, T50, has_n (by omega) (by omega), Option.bind_some]
          have hwM : WOk ζ1 (mbS ζ t) := WOk.of hB1 M24
          have hw := hv_hm (R := ζ 51 t) hwM (by omega)
          have ews : hvS (ζ1 45) (ζ1 46) (ζ1 47) (ζ 51 t) none (mbS ζ t) = wsM ζ t := by
            have := s1.ws t
            unfold wsM at this ⊢
            have mb : mbS ζ1 t = mbS ζ t := s1.mb t
            unfold mbS at mb
            rw [mb, s1.r49 (k := 51) (by omega)] at this
            exact this
          rw [ews] at hw
          have hin := wsM_in ht6 h1.1 hD.2.1
          have hk : (ζ 50 t).toNat.testBit q = tkB ζ t q := rfl
          rw [hk]
          cases htk : tkB ζ t q with
          | false =>
            rw [b01_f rfl, b01_f rfl]
            unfold f_X10_ifWritten_b80
            obtain ⟨ζ2, w1, w2, w3, -⟩ := weighs_r (s := mbS ζ t) (R := ζ 51 t) hB1 M24 (by omega)
            rw [ck_t hck, ntn, s1.r49 (k := 51) (by omega), w1, Option.bind_some]
            refine ⟨_, _, rfl, rfl, ?_, h1.ask (z' := σd) (ζ' := ζ2) SD.rf (s1.tr w2.ss)⟩
            dsimp only
            rw [w3, ews, hQ.1.2]
          | true =>
            rw [b01_t rfl, b01_t rfl]
            unfold f_X10_ifWritten_b80
            have M25 : mbS ζ t < 33554432 := by omega
            have m24 := tb_24 M24 (Nat.le_refl 24)
            have hwo : WOk ζ1 (mset (mbS ζ t ||| 2 ^ 24) none) := wok_24 (x := a2) (y := a3) (s := a4) hB1 M24 (by rw [r45]; exact pX_s) (by rw [r46]; exact pX_s) (by rw [r47]; exact pX_s) ⟨by omega, by omega⟩ ⟨by omega, by omega⟩ ⟨by omega, by omega⟩
            obtain ⟨ζ2, w1, w2, -, w3⟩ := weighs_n (σ := ζ1) (s := mbS ζ t ||| 2 ^ 24) (R := ζ 51 t) (must := none) hwo.1 hwo (by omega) (fun m q => nomatch q)
            have tb : (mbS ζ t ||| 2 ^ 24).testBit 24 = true := tb_or_pow.mpr (Or.inr rfl)
            have hne : mbS ζ t ||| 2 ^ 24 ≠ 0 := fun e => by
              rw [e, Nat.zero_testBit] at tb
              cases tb
            have hb := best_hm hwo.1 hne (fun q hq => (hwo.2 q (bit25 hwo.1 hq) hq).2.1) (w3 hne).1
            obtain ⟨v, z', e1, f1, J, U⟩ := jn_t (s := 16777215) (m := 24) (x := a2) (y := a3) (fl := 0) (X := ζ1 45) (Y := ζ1 46) ht6 h1.1 hD (by decide) ⟨by omega, by omega⟩ ⟨by omega, by omega⟩ (by decide) (by rw [ea]; exact m24) (by rw [r45]; exact pX_s) (by rw [r46]; exact pX_s) (fun u hu => by
              rw [ea] at hu
              have := bit_lt M24 hu
              rw [r45, r46]
              exact ⟨pX_n (by omega), pX_n (by omega)⟩) ⟨by omega, by omega⟩
            rw [ea] at J U
            have sF : ∀ o, SubN o (mbS ζ t) → SubN o F := fun o ho q hq => (mbS_F h1.1 (ho q hq)).1
            have hj := (jf_hm J U).cg (Q := fun o => SubN o (mbS ζ t) ∧ Tg (ζ1 45) (ζ1 46) (ζ 51 t) (o ||| 2 ^ 24)) (g := fun o => sumb (ζ1 47) o 25) (fun o => Iff.rfl) (fun o ho => (hB1.sm (s := o) (sF o ho.1)).symm)
            have hv := hm_one M25 m24 (by decide) hw hj hb
            have e47 : ζ1 47 24 = a4 := by rw [r47]; exact pX_s
            rw [e47] at hv
            have vb : 0 ≤ v ∧ v ≤ 24 * 99999 := by
              obtain ⟨⟨o, -, o2⟩, -⟩ := jf_hm J U
              have o2 : v = sumb (σd 9) o 24 := o2
              have := h1.1.sin (s := o)
              omega
            have e1 : f_X2_joined t a2 a3 16777215 0 σd = some (v, z') := e1
            have w1 : f_X10_weighs ((mbS ζ t ||| 16777216 : Nat) : Int) (ζ 51 t) (-1) ζ1 = some ζ2 := w1
            rw [e1, Option.bind_some, ck_t hck, ntn, s1.r49 (k := 51) (by omega), u32_nat (n := mbS ζ t) (by omega), w1, Option.bind_some]
            refine ⟨_, _, rfl, rfl, ?_, h1.ask (z' := z') (ζ' := ζ2) (f1.sd ht6) (s1.tr w2.ss)⟩
            dsimp only
            rw [hv, hQ.1.2, mmax_i hin.1 ⟨by omega, by omega⟩]
        · rw [c01_f c4, c01_f c4]
          exact ⟨_, _, rfl, rfl, rfl, hs⟩
      · rw [c01_f c3, c01_f c3]
        exact ⟨_, _, rfl, rfl, rfl, hs⟩
    · rw [c01_f c2, c01_f c2]
      exact ⟨_, _, rfl, rfl, rfl, hs⟩
  · rw [treatyAt_f hN ha1 hN6 c1, Option.bind_some, isTr_t hNm hN6 ha1, Option.bind_some, c01_f c1]
    exact ⟨_, _, rfl, rfl, rfl, hs⟩
