/-! ===== pure level: bound ===== -/
theorem mmin_i {a b : Int} (ha : InR a) (hb : InR b) : mminI a b = if b < a then b else a := by
  unfold mminI
  rw [w32_eq ha, w32_eq hb]
theorem mmax_i {a b : Int} (ha : InR a) (hb : InR b) : mmaxI a b = if a < b then b else a := by
  unfold mmaxI
  rw [w32_eq ha, w32_eq hb]
/-- what is asked of the disc that two bound -/
def bdA (what p q s : Int) : Int := if what = 0 then p else if what = 1 then (if p = q then -2 else q) else s
def bdW (w : Int) (p q s : Int) : Prop := (s = 0 ∧ p ≤ q ∧ w = p * 24 + q) ∨ (s = 1 ∧ p < q ∧ w = q * 24 + p)
theorem bdA_n {what w p q s : Int} (hp : 0 ≤ p ∧ p < 24) (hq : 0 ≤ q ∧ q < 24) (h : bdW w p q s) :
    (ck (¬ w32 24 = 0) <| ck (¬ w32 24 = 0) <| if what = 0 then some (mminI ((w32 w).tdiv (w32 24)) ((w32 w).tmod (w32 24))) else if what = 1 then if w32 ((w32 w).tdiv (w32 24)) = w32 ((w32 w).tmod (w32 24)) then some (-2) else some (mmaxI ((w32 w).tdiv (w32 24)) ((w32 w).tmod (w32 24))) else if w32 ((w32 w).tdiv (w32 24)) ≤ w32 ((w32 w).tmod (w32 24)) then some 0 else some 1) = some (bdA what p q s) := by
  have hw : 0 ≤ w ∧ w < 576 := by
    rcases h with ⟨-, -, h⟩ | ⟨-, -, h⟩ <;> omega
  rw [ck_t (by decide), ck_t (by decide), w32_eq (z := w) ⟨by omega, by omega⟩, show w32 24 = 24 by decide, Int.tdiv_eq_ediv_of_nonneg hw.1, Int.tmod_eq_emod_of_nonneg hw.1, w32_eq (z := w / 24) ⟨by omega, by omega⟩, w32_eq (z := w % 24) ⟨by omega, by omega⟩, mmin_i ⟨by omega, by omega⟩ ⟨by omega, by omega⟩, mmax_i ⟨by omega, by omega⟩ ⟨by omega, by omega⟩]
  unfold bdA
  rcases h with ⟨h1, h2, h3⟩ | ⟨h1, h2, h3⟩
  · have e1 : w / 24 = p := by omega
    have e2 : w % 24 = q := by omega
    rw [e1, e2]
    by_cases c1 : what = 0
    · rw [if_pos c1, if_pos c1, if_neg (show ¬ q < p by omega)]
    · rw [if_neg c1, if_neg c1]
      by_cases c2 : what = 1
      · rw [if_pos c2, if_pos c2]
        by_cases c3 : p = q
        · rw [if_pos c3, if_pos c3]
        · rw [if_neg c3, if_neg c3, if_pos (show p < q by omega)]
      · rw [if_neg c2, if_neg c2, if_pos h2, h1]
  · have e1 : w / 24 = q := by omega
    have e2 : w % 24 = p := by omega
    rw [e1, e2]
    by_cases c1 : what = 0
    · rw [if_pos c1, if_pos c1, if_pos h2]
    · rw [if_neg c1, if_neg c1]
      by_cases c2 : what = 1
      · rw [if_pos c2, if_pos c2, if_neg (show ¬ q = p by omega), if_neg (show ¬ p = q by omega), if_neg (show ¬ q < p by omega)]
      · rw [if_neg c2, if_neg c2, if_neg (show ¬ q ≤ p by omega), h1]
def bdP (ζ : Sg) (what : Int) (x : Option Int) (y : Option (Int × Sg)) : Prop := ∃ (w p q s : Int) (ζ' : Sg), x = some w ∧ y = some (bdA what p q s, ζ') ∧ Scr ζ ζ' ∧ (0 ≤ p ∧ p < 24) ∧ (0 ≤ q ∧ q < 24) ∧ bdW w p q s
theorem bound_p {z ζ : Sg} {d M o F : Nat} {R what : Int} (hd : d < 7) (hB : RelB z ζ F) (hD : DI z d R M) (hM : M < 16777216) (hMF : ∀ q, M.testBit q = true → F.testBit q = true) (hR : 1 ≤ R ∧ R ≤ 300) (ha : InR what) (hC : Cnd (ζ 45) (ζ 46) R M 25 o) (hoM : ∀ q, o.testBit q = true → M.testBit q = true) (h0 : o ≠ 0) :
    ∃ w p q s ζ', f_X2_bounding d (o : Int) z = some w ∧ f_X10_boundOf (M : Int) (o : Int) R what ζ = some (bdA what p q s, ζ') ∧ Scr ζ ζ' ∧ (0 ≤ p ∧ p < 24) ∧ (0 ≤ q ∧ q < 24) ∧ bdW w p q s := by
  have hol := sub_24 hM hoM
  have eq1 : ∀ p, p < 24 → z 7 p = ζ 45 p ∧ z 8 p = ζ 46 p := fun p hp => by
    obtain ⟨-, ⟨b1, b2, -⟩, -⟩ := hB.1.2.2 p hp
    exact ⟨b1, b2⟩
  have hMr := MRow.of hB
  have hD2 : ∀ a b, a < 24 → b < 24 → z (34 + d) (a * 24 + b) = ((mks (esS (ζ 45) (ζ 46) R M a b) 24 : Nat) : Int) := fun a b ha hb => by
    rw [hD.2.2 a b ha hb]
    have : mks (esS (z 7) (z 8) R M a b) 24 = mks (esS (ζ 45) (ζ 46) R M a b) 24 := mks_congr fun q hq => by
      unfold esS rimD inD dotp crs d2
      rw [(eq1 a ha).1, (eq1 a ha).2, (eq1 b hb).1, (eq1 b hb).2, (eq1 q hq).1, (eq1 q hq).2]
    rw [this]
  have pl : ∀ {u : Sg}, Scr ζ u → ∀ q, q < 24 → Pl (u 45) (u 46) q := fun {u} s q hq => by
    rw [s.row (by decide : 45 ≠ 41), s.row (by decide : 46 ≠ 41)]
    exact (hMr q hq).2.2.1
  have plM : ∀ {u : Sg}, Scr ζ u → ∀ q, q < 25 → M.testBit q = true → Pl (u 45) (u 46) q := fun {u} s q _ hb => pl s q (bit_lt hM hb)
  have av : ∀ {u : Sg} (a : Nat), Scr ζ u → a < 24 → ∃ u', f_X10_around (a : Int) (M : Int) R u = some (((arS (ζ 45) (ζ 46) R M a : Nat) : Int), u') ∧ Scr ζ u' := fun {u} a s ha => by
    refine ⟨_, ?_, s.tr (Scr.up (j := 35) (v := sumb (u 47) (arS (u 45) (u 46) R M a) 25) (by decide))⟩
    have e := around_n (σ := u) (p := a) (s := M) (R := R) (by omega) (by omega) (sq_R ⟨by omega, by omega⟩) (fun q _ hb => by
      have := d2_bd (pl s a ha) (pl s q (bit_lt hM hb))
      exact ⟨by omega, by omega⟩)
    rw [e, s.row (by decide : 45 ≠ 41), s.row (by decide : 46 ≠ 41)]
  have rv : ∀ {u : Sg} (a b : Nat) (side : Bool), Scr ζ u → a < 24 → b < 24 → rimOk (ζ 45) (ζ 46) R a b → ∃ u', f_X10_onRim (a : Int) (b : Int) (if side then 1 else 0) (M : Int) R u = some (((rmS (ζ 45) (ζ 46) R M a b side : Nat) : Int), u') ∧ Scr ζ u' := fun {u} a b side s ha hb hok => by
    have r45 := s.row (by decide : 45 ≠ 41)
    have r46 := s.row (by decide : 46 ≠ 41)
    refine ⟨_, ?_, s.tr (Scr.up (j := 35) (v := sumb (u 47) (rmS (u 45) (u 46) R M a b side) 25) (by decide))⟩
    have e := onRim_n (σ := u) (p := a) (q := b) (s := M) (side := side) (R := R) (by omega) (by omega) (by omega) (pl s a ha) (pl s b hb) (plM s) ⟨by omega, by omega⟩ (by rw [r45, r46]; exact hok.1) (by rw [r45, r46]; exact hok.2)
    rw [e, r45, r46]
  generalize hX : ζ 45 = X at *
  generalize hY : ζ 46 = Y at *
  have ne : ∀ c : Nat, c < 33554432 → (w32 (c : Int) = w32 (o : Int) ↔ c = o) := fun c hc => by
    rw [w32_n (by omega), w32_n (by omega)]
    omega
  unfold f_X2_bounding f_X10_boundOf
  rw [ck_t hd]
  show bdP ζ what (f_X2_bounding_b2 d z FUEL o 0) (f_X10_boundOf_b3 FUEL M o R what 0 ζ)
  refine loop_two (F := fun n i (_ : Unit) => f_X2_bounding_b2 d z n o i) (G := fun n i (u : Sg) => f_X10_boundOf_b3 n M o R what i u) 24 (fun i _ u => Scr ζ u ∧ ∀ a, a < i → o.testBit a = true → arS X Y R M a ≠ o) (P := bdP ζ what) (by decide) ?_ ?_ 0 (by decide) () ζ ⟨Scr.rf, fun a ha => by omega⟩
  · intro n m i _ u hi hI
    obtain ⟨su, hI⟩ := hI
    rw [f_X2_bounding_b2, f_X10_boundOf_b3, w32_n (by omega), if_pos (show (i : Int) < 24 by omega), if_pos (show (i : Int) < 24 by omega), contains_n (by omega) (by omega), Option.bind_some, has_n (by omega) (by omega), Option.bind_some]
    have st : (o.testBit i = true → arS X Y R M i ≠ o) → ∀ a, a < i + 1 → o.testBit a = true → arS X Y R M a ≠ o := fun q a ha hb => by
      rcases Nat.lt_succ_iff_lt_or_eq.1 ha with h | h
      · exact hI a h hb
      · subst h
        exact q hb
    cases hb : o.testBit i with
    | false =>
      right
      rw [b01_f rfl, b01_f rfl]
      exact ⟨(), u, ⟨su, st fun q => by rw [hb] at q; cases q⟩, rfl, rfl⟩
    | true =>
      obtain ⟨u', e, su'⟩ := av i su hi
      rw [b01_t rfl, b01_t rfl, e, Option.bind_some, ck_t (by omega), show ((i : Int) * 24 + (i : Int)).toNat = i * 24 + i by omega, hD2 i i hi hi, row_a hM (hoM i hb)]
      dsimp only
      by_cases c1 : arS X Y R M i = o
      · left
        rw [if_pos ((ne _ (ar_lt X Y R M i)).mpr c1), if_pos ((ne _ (ar_lt X Y R M i)).mpr c1)]
        refine ⟨(i : Int) * 24 + i, i, i, 0, u', rfl, ?_, su', ⟨by omega, by omega⟩, ⟨by omega, by omega⟩, Or.inl ⟨rfl, by omega, rfl⟩⟩
        unfold f_X10_boundOf_b31 bdA
        rw [w32_eq ha]
        by_cases d1 : what = 0
        · rw [if_pos d1, if_pos d1]
        · rw [if_neg d1, if_neg d1]
          by_cases d2 : what = 1
          · rw [if_pos d2, if_pos d2, if_pos rfl]
          · rw [if_neg d2, if_neg d2]
      · right
        rw [if_neg (fun q => c1 ((ne _ (ar_lt X Y R M i)).mp q)), if_neg (fun q => c1 ((ne _ (ar_lt X Y R M i)).mp q))]
        exact ⟨(), u', ⟨su', st fun _ => c1⟩, rfl, rfl⟩
  · intro n m _ u hI
    obtain ⟨su, hI⟩ := hI
    have noa : ∀ a, o.testBit a = true → arS X Y R M a ≠ o := fun a hb => hI a (bit_lt hol hb) hb
    rw [f_X2_bounding_b2, f_X10_boundOf_b3, w32_n (by decide), if_neg (show ¬ ((24 : Nat) : Int) < 24 by decide), if_neg (show ¬ ((24 : Nat) : Int) < 24 by decide)]
    unfold f_X2_bounding_b44 f_X10_boundOf_b60
    refine loop_two (F := fun n i (_ : Unit) => f_X2_bounding_b46 d z n o i) (G := fun n i (u : Sg) => f_X10_boundOf_b63 n M o R what i u) 24 (fun i _ u => Scr ζ u ∧ ∀ a b side, a < i → a < b → o.testBit a = true → o.testBit b = true → rimOk X Y R a b → rmS X Y R M a b side ≠ o) (P := bdP ζ what) (by decide) ?_ ?_ 0 (by decide) () u ⟨su, fun a b side ha => by omega⟩
    · intro n m i _ u hi hI
      obtain ⟨su, hI⟩ := hI
      rw [f_X2_bounding_b46, f_X10_boundOf_b63, w32_n (by omega), if_pos (show (i : Int) < 24 by omega), if_pos (show (i : Int) < 24 by omega)]
      have Q := loop_two (F := fun x j (_ : Unit) => f_X2_bounding_b56 d z (f_X2_bounding_b46 d z n) x o i j) (G := fun x j (u : Sg) => f_X10_boundOf_b76 (f_X10_boundOf_b63 m) x M o R what i j u) 24 (fun j _ u => i < j ∧ Scr ζ u ∧ ∀ b side, b < j → i < b → o.testBit i = true → o.testBit b = true → rimOk X Y R i b → rmS X Y R M i b side ≠ o) (P := fun x y => bdP ζ what x y ∨ ∃ u', (Scr ζ u' ∧ ∀ b side, i < b → o.testBit i = true → o.testBit b = true → rimOk X Y R i b → rmS X Y R M i b side ≠ o) ∧ x = f_X2_bounding_b46 d z n o ((i : Int) + 1) ∧ y = f_X10_boundOf_b63 m M o R what ((i : Int) + 1) u') (by decide) ?_ ?_ (i + 1) (by omega) () u ⟨by omega, su, fun b side hb hlt => by omega⟩
      · rcases Q with Q | ⟨u', ⟨q1, q2⟩, q3, q4⟩
        · exact Or.inl Q
        · right
          refine ⟨(), u', ⟨q1, fun a b side ha hlt ta tb hok => ?_⟩, q3, q4⟩
          rcases Nat.lt_succ_iff_lt_or_eq.1 ha with h | h
          · exact hI a b side h hlt ta tb hok
          · subst h
            exact q2 b side hlt ta tb hok
      · intro x y j _ u hj hI
        obtain ⟨hij, su, hI⟩ := hI
        rw [f_X2_bounding_b56, f_X10_boundOf_b76, w32_n (by omega), if_pos (show (j : Int) < 24 by omega), if_pos (show (j : Int) < 24 by omega), contains_n (by omega) (by omega), Option.bind_some, contains_n (by omega) (by omega), Option.bind_some, has_n (by omega) (by omega), Option.bind_some, has_n (by omega) (by omega), Option.bind_some]
        have k1 : ∀ x', f_X2_bounding_b122 d z (f_X2_bounding_b46 d z n) (f_X2_bounding_b56 d z (f_X2_bounding_b46 d z n) x') o i j = f_X2_bounding_b56 d z (f_X2_bounding_b46 d z n) x' o i ((j : Int) + 1) := fun _ => rfl
        have k2 : ∀ y' v, f_X10_boundOf_b171 (f_X10_boundOf_b63 m) (f_X10_boundOf_b76 (f_X10_boundOf_b63 m) y') M o R what i j v = f_X10_boundOf_b76 (f_X10_boundOf_b63 m) y' M o R what i ((j : Int) + 1) v := fun _ _ => rfl
        have st : (i < j → o.testBit i = true → o.testBit j = true → rimOk X Y R i j → ∀ side, rmS X Y R M i j side ≠ o) → ∀ b side, b < j + 1 → i < b → o.testBit i = true → o.testBit b = true → rimOk X Y R i b → rmS X Y R M i b side ≠ o := fun q b side hb hlt ti tb hok => by
          rcases Nat.lt_succ_iff_lt_or_eq.1 hb with h | h
          · exact hI b side h hlt ti tb hok
          · subst h
            exact q hlt ti tb hok side
        by_cases hb : o.testBit i = true
        · rw [b01_t hb, b01_t hb]
          by_cases hc : o.testBit j = true
          · by_cases hij : i < j
            · have hne : i ≠ j := by omega
              have hne2 : j ≠ i := by omega
              have ec := canBeRim_n (σ := u) (p := i) (q := j) (R := R) (by omega) (by omega) (pl su i hi) (pl su j hj) ⟨by omega, by omega⟩
              rw [su.row (by decide : 45 ≠ 41), su.row (by decide : 46 ≠ 41), hX, hY] at ec
              rw [b01_t hc, b01_t hc, ec, Option.bind_some, ck_t (by omega), ck_t (by omega), show ((i : Int) * 24 + (j : Int)).toNat = i * 24 + j by omega, show ((j : Int) * 24 + (i : Int)).toNat = j * 24 + i by omega, hD2 i j hi hj, hD2 j i hj hi]
              by_cases hok : rimOk X Y R i j
              · rw [b01_t (decide_eq_true (show 0 < d2 X Y i j ∧ d2 X Y i j ≤ 4 * R * R from hok)), row_f hM (hoM i hb) (hoM j hc) hne hok, row_f hM (hoM j hc) (hoM i hb) hne2 (rim_sym.mp hok), rmS_sym (a := i) (b := j) (side := false)]
                obtain ⟨u1, e1, su1⟩ := rv i j false su hi hj hok
                obtain ⟨u2, e2, su2⟩ := rv i j true su1 hi hj hok
                have e1 : f_X10_onRim (i : Int) (j : Int) 0 (M : Int) R u = _ := e1
                have e2 : f_X10_onRim (i : Int) (j : Int) 1 (M : Int) R u1 = _ := e2
                have sd : f_X10_boundOf_b119 (f_X10_boundOf_b63 m) (f_X10_boundOf_b76 (f_X10_boundOf_b63 m) y) FUEL M o R what i j 0 u = f_X10_boundOf_b119 (f_X10_boundOf_b63 m) (f_X10_boundOf_b76 (f_X10_boundOf_b63 m) y) (FUEL - 3 + 1 + 1 + 1) M o R what i j 0 u := rfl
                rw [sd, f_X10_boundOf_b119, show w32 0 = 0 from w32_0, if_pos (show (0 : Int) < 2 by decide), e1, Option.bind_some]
                dsimp only
                have fin : ∀ (s : Int) v, f_X10_boundOf_b141 what i j s v = some (bdA what i j s, v) := fun s v => by
                  unfold f_X10_boundOf_b141 bdA
                  rw [w32_eq ha, if_neg (show ¬ (i : Int) = (j : Int) by omega)]
                  by_cases d1 : what = 0
                  · rw [if_pos d1, if_pos d1]
                  · rw [if_neg d1, if_neg d1]
                    by_cases d2 : what = 1
                    · rw [if_pos d2, if_pos d2]
                    · rw [if_neg d2, if_neg d2]
                by_cases c1 : rmS X Y R M i j false = o
                · left
                  left
                  rw [if_pos ((ne _ (rm_lt X Y R M i j false)).mpr c1), if_pos ((ne _ (rm_lt X Y R M i j false)).mpr c1), fin]
                  exact ⟨(i : Int) * 24 + j, i, j, 0, u1, rfl, rfl, su1, ⟨by omega, by omega⟩, ⟨by omega, by omega⟩, Or.inl ⟨rfl, by omega, rfl⟩⟩
                · rw [if_neg (fun q => c1 ((ne _ (rm_lt X Y R M i j false)).mp q)), if_neg (fun q => c1 ((ne _ (rm_lt X Y R M i j false)).mp q)), f_X10_boundOf_b119, show w32 (0 + 1) = 1 by decide, if_pos (show (1 : Int) < 2 by decide), show (0 : Int) + 1 = 1 from rfl, e2, Option.bind_some]
                  dsimp only
                  by_cases c2 : rmS X Y R M i j true = o
                  · left
                    left
                    rw [show (!false) = true from rfl, if_pos ((ne _ (rm_lt X Y R M i j true)).mpr c2), if_pos ((ne _ (rm_lt X Y R M i j true)).mpr c2), fin]
                    exact ⟨(j : Int) * 24 + i, i, j, 1, u2, rfl, rfl, su2, ⟨by omega, by omega⟩, ⟨by omega, by omega⟩, Or.inr ⟨rfl, by omega, rfl⟩⟩
                  · right
                    rw [show (!false) = true from rfl, if_neg (fun q => c2 ((ne _ (rm_lt X Y R M i j true)).mp q)), if_neg (fun q => c2 ((ne _ (rm_lt X Y R M i j true)).mp q)), f_X10_boundOf_b119, show w32 (1 + 1) = 2 by decide, if_neg (show ¬ (2 : Int) < 2 by decide), k1, k2]
                    refine ⟨(), u2, ⟨by omega, su2, st fun _ _ _ _ side => ?_⟩, rfl, rfl⟩
                    cases side
                    · exact c1
                    · exact c2
              · right
                rw [b01_f (decide_eq_false (show ¬ (0 < d2 X Y i j ∧ d2 X Y i j ≤ 4 * R * R) from hok)), row_n hne hok, row_n hne2 (fun q => hok (rim_sym.mpr q)), if_neg (fun q => h0 ((ne 0 (by decide)).mp q).symm), if_neg (fun q => h0 ((ne 0 (by decide)).mp q).symm), k1, k2]
                exact ⟨(), u, ⟨by omega, su, st fun _ _ _ q => absurd q hok⟩, rfl, rfl⟩
            · exact absurd (by assumption) hij
          · right
            have hcf : o.testBit j = false := Bool.eq_false_iff.mpr hc
            rw [b01_f hcf, b01_f hcf]
            exact ⟨(), u, ⟨by omega, su, st fun _ _ q => absurd q hc⟩, rfl, rfl⟩
        · right
          have hbf : o.testBit i = false := Bool.eq_false_iff.mpr hb
          rw [b01_f hbf, b01_f hbf]
          exact ⟨(), u, ⟨by omega, su, st fun _ q => absurd q hb⟩, rfl, rfl⟩
      · intro x y _ u hI
        obtain ⟨-, su, hI⟩ := hI
        right
        rw [f_X2_bounding_b56, f_X10_boundOf_b76, w32_n (by decide), if_neg (show ¬ ((24 : Nat) : Int) < 24 by decide), if_neg (show ¬ ((24 : Nat) : Int) < 24 by decide)]
        exact ⟨u, ⟨su, fun b side hlt ta tb hok => hI b side (bit_lt hol tb) hlt ta tb hok⟩, rfl, rfl⟩
    · intro n m _ u hI
      obtain ⟨su, hI⟩ := hI
      exfalso
      obtain ⟨a, ha, hab, hc⟩ := hC
      rcases hc with hc | ⟨b, hb, hlt, hbb, hok, side, hc⟩
      · exact noa a (by rw [hc]; exact arS_a hM hab) hc.symm
      · have := rmS_ab (X := X) (Y := Y) (R := R) (side := side) hM hab hbb
        rw [← hc] at this
        exact hI a b side (bit_lt hM hab) hlt this.1 this.2 hok hc.symm
theorem Eq_bound_n : Eq_bound Rl := by
  intro n σd σm a1 a2 hn hR ha1 ha2
  obtain ⟨F, N, h⟩ := hR
  have h : Rn n σd σm F N := h
  have h1 := h.m0
  have hs := h.ask (z' := σd) (ζ' := up σm 41 0 0) SD.rf ss0
  obtain ⟨hN, hNm, hN6⟩ := h1.nm
  unfold f_X9_bound f_X10_bound wr
  dsimp only
  generalize up σm 41 0 0 = ζ at *
  by_cases c1 : 0 ≤ a1 ∧ a1 < N
  · obtain ⟨t, hte⟩ : ∃ t : Nat, a1 = (t : Int) := ⟨a1.toNat, by omega⟩
    subst hte
    have ht : t < N := by omega
    obtain ⟨ht6, hD, hA, hQ⟩ := h1.tr ht
    rw [treatyAt_t hN ht hN6, Option.bind_some, oTs_ ht6, isTr_t hNm hN6 ha1, Option.bind_some, c01_t c1, w32_eq ha2]
    by_cases c2 : a2 < 0
    · rw [if_pos c2, if_pos c2]
      exact ⟨_, _, rfl, rfl, rfl, hs⟩
    rw [if_neg c2, if_neg c2]
    by_cases c3 : a2 ≤ 2
    · rw [if_pos c3, if_pos c3]
      obtain ⟨ζ', e, s, e36, e37, i1, i2⟩ := worstOf_n ht6 (MRow.of h1.1) hD.2.1
      obtain ⟨o, ol, ow, osub⟩ := ws_o ht6 h1.1 hD
      have hs' := h1.ask (z' := σd) (ζ' := ζ') SD.rf s.ss
      rw [ow] at e37
      have e37 : ζ' 41 37 = (o : Int) := e37
      have z5 : σd (21 + t) 5 = (o : Int) := by rw [hQ.1.1, ow]
      rw [e, Option.bind_some, z5]
      dsimp only
      by_cases c4 : o = 0
      · subst c4
        have e0 : w32 (ζ' 41 37) = 0 := by
          rw [e37]
          decide
        rw [if_pos (show w32 ((0 : Nat) : Int) = 0 by decide), if_pos e0]
        exact ⟨_, _, rfl, rfl, rfl, hs'⟩
      · have hB' := h1.1.ss s.ss
        have hM' : MTr ζ' t := hD.2.1.cg fun k _ _ => s.row (by omega)
        have mb : mbS ζ' t = mbS ζ t := s.ss.mb t
        have ho0 : ¬ w32 (o : Int) = 0 := by
          rw [w32_n (by omega)]
          omega
        have hq0 : ¬ w32 (ζ' 41 37) = 0 := by rw [e37]; exact ho0
        have ev : hvS (ζ' 45) (ζ' 46) (ζ' 47) (ζ' 51 t) none (mbS ζ' t) = (sumb (σd 9) o 24, (o : Int)) := by
          have := wsM_scr s t
          rw [ow] at this
          exact this
        have hv := hv_cnd (mbS_24 ζ' t) (fun q hq => by
          obtain ⟨q1, q2, -⟩ := mbS_F hB' hq
          obtain ⟨-, -, -, -, -, h6⟩ := hB'.1.2.2 q q2
          have := h6 q1
          omega) ev c4
        have hDI : DI σd t (ζ' 51 t) (mbS ζ' t) := by
          rw [mb, s.row (by decide : 51 ≠ 41)]
          exact hD.2.2
        obtain ⟨w, p, q, sd, ζ2, b1, b2, b3, b4, b5, b6⟩ := bound_p (d := t) (what := a2) (by omega) hB' hDI (mbS_24 ζ' t) (fun q hq => (mbS_F hB' hq).1) hM'.2.1 ha2 hv.1 hv.2 c4
        have hs2 := h1.ask (z' := σd) (ζ' := ζ2) SD.rf (s.tr b3).ss
        rw [if_neg ho0, if_neg hq0, e37, b1, Option.bind_some, bdA_n b4 b5 b6, ofTr_n ht6 hB' hM', Option.bind_some, ck_t (by omega), ntn, b2, Option.bind_some]
        exact ⟨_, _, rfl, rfl, rfl, hs2⟩
    · rw [if_neg c3, if_neg c3]
      exact ⟨_, _, rfl, rfl, rfl, hs⟩
  · rw [treatyAt_f hN ha1 hN6 c1, Option.bind_some, isTr_t hNm hN6 ha1, Option.bind_some, c01_f c1]
    exact ⟨_, _, rfl, rfl, rfl, hs⟩
