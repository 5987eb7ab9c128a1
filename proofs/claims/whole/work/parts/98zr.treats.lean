/-! ===== pure level: text, its treaties ===== -/
theorem bnd_o {α β : Type} {x : Option α} {f : α → Option β} {y : β} (h : x.bind f = some y) : ∃ a, x = some a ∧ f a = some y := by
  cases x with
  | none => cases h
  | some a => exact ⟨a, rfl, h⟩
theorem note_fr {z z' : Sg} {a b c : Int} (h : f_X5_note 1 a b c z = some z') : ∀ k, k ≠ 15 → k ≠ 16 → z' k = z k := by
  unfold f_X5_note wr at h
  have h := (ck_o (ck_o h).2).2
  intro k h1 h2
  split at h
  · injection h with h
    rw [← h]
  · split at h
    · have h := (ck_o h).2
      dsimp only at h
      have h := (ck_o h).2
      have h := (ck_o h).2
      injection h with h
      rw [← h, up_k (by omega), up_k (by omega), up_k (by omega), up_k (by omega)]
    · injection h with h
      rw [← h]
theorem lookAt_fr {z z' : Sg} {t N : Nat} (hN : z 0 4 = (N : Int)) (ht : t < N) (hN6 : N ≤ 6) (h : f_X9_lookAt (t : Int) z = some z') : ∀ k, ¬ (21 ≤ k ∧ k ≤ 26) → k ≠ 15 → k ≠ 16 → z' k = z k := by
  unfold f_X9_lookAt wr at h
  rw [treatyAt_t hN ht hN6, Option.bind_some, oTs_ (by omega)] at h
  obtain ⟨q4, -, h⟩ := bnd_o h
  intro k h1 h2 h3
  split at h
  · injection h with h
    rw [← h, up_k (by omega)]
  · split at h
    · dsimp only at h
      obtain ⟨q9, e9, h⟩ := bnd_o h
      injection h with h
      rw [← h, note_fr e9 k h2 h3, up_k (by omega), up_k (by omega)]
    · injection h with h
      rw [← h]
theorem open_fr {z ζ z' : Sg} {F N T : Nat} {R L v : Int} (hB : RelB z ζ F) (hN : z 0 4 = (N : Int)) (hN6 : N < 6) (hT : T < 16) (hR : 1 ≤ R ∧ R ≤ 300) (h : f_X9_openTreaty (T : Int) R L z = some (v, z')) : ∀ k, 3 ≤ k → k ≤ 5 → z' k = z k := by
  unfold f_X9_openTreaty nmN wr at h
  dsimp only at h
  rw [hN, w32_n (by omega), if_neg (by omega), if_pos (by omega), ck_t (by omega), ntn] at h
  unfold f_X8_agree wr at h
  dsimp only at h
  rw [ck_t hN6, Option.bind_some] at h
  obtain ⟨z1, hz1⟩ : ∃ z1, z1 = up (up (up (up (up (up z 0 4 ((N : Int) + 1)) (21 + N) 2 (T : Int)) (21 + N) 3 R) (21 + N) 4 L) (21 + N) 7 (-2)) (21 + N) 8 0 := ⟨_, rfl⟩
  rw [← hz1] at h
  have zr : ∀ k, k ≠ 0 → k ≠ 21 + N → z1 k = z k := fun k q1 q2 => by rw [hz1, up_k q2, up_k q2, up_k q2, up_k q2, up_k q2, up_k q1]
  have z04 : z1 0 4 = ((N + 1 : Nat) : Int) := by
    rw [hz1, up_k (by omega), up_k (by omega), up_k (by omega), up_k (by omega), up_k (by omega), up_s]
    rfl
  clear hz1
  have jB1 : RelB z1 ζ F := hB.cg (fun k _ _ => zr k (by omega) (by omega)) (fun _ _ _ => rfl)
  rw [dOfPerils_n (T := T) jB1 hT, Option.bind_some] at h
  obtain ⟨z2, e2, h⟩ := bnd_o h
  obtain ⟨w2, e2', -, fz⟩ := fill_n (σ := z1) (d := N) (s := prS (ζ 49) (ζ 48) T) (F := F) (R := R) (by omega) jB1.1.1 jB1.1.2.1 (fun q hq => prS_F jB1 hq) (by omega) jB1.pl
  have ew : z2 = w2 := Option.some.inj (e2.symm.trans e2')
  subst ew
  obtain ⟨z3, e3, h⟩ := bnd_o h
  unfold f_X8_findWorst wr at e3
  have e3 := (ck_o e3).2
  obtain ⟨q1, -, e3⟩ := bnd_o e3
  dsimp only at e3
  obtain ⟨q4, -, e3⟩ := bnd_o e3
  injection e3 with e3
  obtain ⟨z4, e4, h⟩ := bnd_o h
  injection h with h
  injection h with _ h
  have z3r : ∀ k, k ≠ 21 + N → z3 k = z2 k := fun k hk => by rw [← e3, up_k hk, up_k hk]
  have z304 : z3 0 4 = ((N + 1 : Nat) : Int) := by rw [z3r 0 (by omega), fz.row (by omega) (by omega), z04]
  have f4 := lookAt_fr (N := N + 1) z304 (by omega) (by omega) e4
  intro k h1 h2
  rw [← h, f4 k (by omega) (by omega) (by omega), z3r k (by omega), fz.row (by omega) (by omega), zr k (by omega) (by omega)]
/-- treaties begun and looked at one by one -/
def bgn (W : Sg) (t : Nat) (T R L : Int) : Sg := fun k j => if k = 50 then updF (W 50) t T j else if k = 51 then updF (W 51) t R j else if k = 52 then updF (W 52) t L j else if k = 53 then updF (W 53) t (-2) j else if k = 54 then updF (W 54) t 0 j else if k = 41 ∧ j = 27 then (t : Int) + 1 else W k j
theorem bgn_o {W : Sg} {t k j : Nat} {T R L : Int} (h1 : ¬ (50 ≤ k ∧ k ≤ 54)) (h2 : ¬ (k = 41 ∧ j = 27)) : bgn W t T R L k j = W k j := by
  unfold bgn
  rw [if_neg (by omega), if_neg (by omega), if_neg (by omega), if_neg (by omega), if_neg (by omega), if_neg h2]
theorem bgn_j {W : Sg} {t k j : Nat} {T R L : Int} (h1 : 50 ≤ k ∧ k ≤ 54) (h2 : j ≠ t) : bgn W t T R L k j = W k j := by
  unfold bgn
  rcases (show k = 50 ∨ k = 51 ∨ k = 52 ∨ k = 53 ∨ k = 54 by omega) with e | e | e | e | e
  · subst e
    rw [if_pos rfl, updF_o h2]
  · subst e
    rw [if_neg (by decide), if_pos rfl, updF_o h2]
  · subst e
    rw [if_neg (by decide), if_neg (by decide), if_pos rfl, updF_o h2]
  · subst e
    rw [if_neg (by decide), if_neg (by decide), if_neg (by decide), if_pos rfl, updF_o h2]
  · subst e
    rw [if_neg (by decide), if_neg (by decide), if_neg (by decide), if_neg (by decide), if_pos rfl, updF_o h2]
noncomputable def Wk (W0 : Sg) (P : Nat → Int) : Nat → Sg
  | 0 => W0
  | t + 1 => lookM (bgn (Wk W0 P t) t (P (3 * t + 0)) (P (3 * t + 1)) (P (3 * t + 2))) t
theorem lookM_54 {σ : Sg} {t j : Nat} (h : j ≠ t) : lookM σ t 54 j = σ 54 j := by
  unfold lookM lookP soundP
  by_cases hp : psM σ t
  · rw [if_pos hp]
    by_cases ha : σ 53 t = -2
    · rw [if_pos ha, up_k (by decide), rwk_k (by decide), up_j h, up_k (by decide)]
    · rw [if_neg ha]
  · rw [if_neg hp, up_k (by decide)]
theorem looksM_54 {σ : Sg} {j : Nat} : ∀ n, n ≤ j → looksM σ n 54 j = σ 54 j
  | 0, _ => rfl
  | n + 1, h => (lookM_54 (by omega)).trans (looksM_54 n (by omega))
theorem lookM_hi {σ : Sg} {t k j : Nat} (h1 : 50 ≤ k ∧ k ≤ 54) (h2 : j ≠ t) : lookM σ t k j = σ k j := by
  by_cases e : k = 53
  · subst e
    exact lookM_53 h2
  · by_cases e2 : k = 54
    · subst e2
      exact lookM_54 h2
    · rw [lookM_k (by omega)]
theorem Wk_hi {W0 : Sg} {P : Nat → Int} {k : Nat} (h1 : 50 ≤ k ∧ k ≤ 54) : ∀ u j, u ≤ j → Wk W0 P u k j = W0 k j
  | 0, _, _ => rfl
  | u + 1, j, h => by
    show lookM (bgn (Wk W0 P u) u (P (3 * u + 0)) (P (3 * u + 1)) (P (3 * u + 2))) u k j = W0 k j
    rw [lookM_hi h1 (by omega), bgn_j h1 (by omega), Wk_hi h1 u j (by omega)]
theorem Wk_27 {W0 : Sg} {P : Nat → Int} (h : W0 41 27 = 0) : ∀ u : Nat, Wk W0 P u 41 27 = (u : Int)
  | 0 => h
  | u + 1 => by
    show lookM (bgn (Wk W0 P u) u (P (3 * u + 0)) (P (3 * u + 1)) (P (3 * u + 2))) u 41 27 = _
    rw [lookM_41 (by decide)]
    rfl
/-- states that differ in treaties not yet begun alone -/
def Cg (u : Nat) (σ σ' : Sg) : Prop := ∀ k j, ¬ (50 ≤ k ∧ k ≤ 54 ∧ u ≤ j) → ¬ (k = 41 ∧ j = 27) → σ' k j = σ k j
theorem Cg.up {u k j : Nat} {σ σ' : Sg} {v w : Int} (h : Cg u σ σ') (e : w = v) : Cg u (up σ k j v) (up σ' k j w) := fun x y q1 q2 => by
  subst e
  by_cases hx : x = k
  · subst hx
    by_cases hy : y = j
    · subst hy
      rw [up_s, up_s]
    · rw [up_j hy, up_j hy]
      exact h x y q1 q2
  · rw [up_k hx, up_k hx]
    exact h x y q1 q2
theorem Cg.rwk {u k : Nat} {σ σ' : Sg} {f g : Nat → Int} (h : Cg u σ σ') (e : g = f) : Cg u (rwk σ k f) (rwk σ' k g) := fun x y q1 q2 => by
  subst e
  by_cases hx : x = k
  · subst hx
    rw [rwk_s, rwk_s]
  · rw [rwk_k hx, rwk_k hx]
    exact h x y q1 q2
theorem lookM_cg {u t : Nat} {σ σ' : Sg} (h : Cg u σ σ') (ht : t < u) : Cg u (lookM σ t) (lookM σ' t) := by
  have row : ∀ k, 42 ≤ k → ¬ (50 ≤ k ∧ k ≤ 54) → σ' k = σ k := fun k h1 h2 => funext fun j => h k j (by omega) (by omega)
  have at_ : ∀ k, 50 ≤ k → k ≤ 54 → σ' k t = σ k t := fun k h1 h2 => h k t (by omega) (by omega)
  have w : wsM σ' t = wsM σ t := by
    unfold wsM
    rw [row 45 (by decide) (by decide), row 46 (by decide) (by decide), row 47 (by decide) (by decide), row 48 (by decide) (by decide), row 49 (by decide) (by decide), at_ 50 (by decide) (by decide), at_ 51 (by decide) (by decide)]
  unfold lookM lookP
  rw [w, at_ 52 (by decide) (by decide), at_ 53 (by decide) (by decide)]
  by_cases hp : σ 52 t < (wsM σ t).1
  · rw [if_pos hp, if_pos hp]
    by_cases ha : σ 53 t = -2
    · rw [if_pos ha, if_pos ha]
      unfold soundP
      have e28 : σ' 41 28 = σ 41 28 := h 41 28 (by omega) (by omega)
      have e32 : σ' 41 32 = σ 41 32 := h 41 32 (by omega) (by omega)
      exact (((h.up e28).up (by rw [at_ 54 (by decide) (by decide)])).rwk (by rw [row 56 (by decide) (by decide), e28])).up (by rw [e32])
    · rw [if_neg ha, if_neg ha]
      exact h
  · rw [if_neg hp, if_neg hp]
    exact h.up rfl
theorem looks_Wk {W0 A : Sg} {P : Nat → Int} {k : Nat} (h0 : Cg 0 W0 A) (hA : ∀ t, t < k → A 50 t = P (3 * t + 0) ∧ A 51 t = P (3 * t + 1) ∧ A 52 t = P (3 * t + 2) ∧ A 53 t = -2 ∧ A 54 t = 0) (hhi : ∀ x j, 50 ≤ x → x ≤ 54 → k ≤ j → A x j = W0 x j) (h27 : W0 41 27 = 0) (a27 : A 41 27 = (k : Int)) : looksM A k = Wk W0 P k := by
  have go : ∀ u, u ≤ k → Cg u (Wk W0 P u) (looksM A u) := by
    intro u
    induction u with
    | zero => exact fun _ => h0
    | succ u ih =>
      intro hu
      have hc := ih (by omega)
      obtain ⟨a50, a51, a52, a53, a54⟩ := hA u (by omega)
      refine lookM_cg (u := u + 1) ?_ (by omega)
      intro k j q1 q2
      by_cases hk : 50 ≤ k ∧ k ≤ 54
      · by_cases hj : j = u
        · subst hj
          rcases (show k = 50 ∨ k = 51 ∨ k = 52 ∨ k = 53 ∨ k = 54 by omega) with e | e | e | e | e
          · subst e
            rw [looksM_k (by decide), a50]
            unfold bgn
            rw [if_pos rfl, updF_s]
          · subst e
            rw [looksM_k (by decide), a51]
            unfold bgn
            rw [if_neg (by decide), if_pos rfl, updF_s]
          · subst e
            rw [looksM_k (by decide), a52]
            unfold bgn
            rw [if_neg (by decide), if_neg (by decide), if_pos rfl, updF_s]
          · subst e
            rw [looksM_53 j (Nat.le_refl j), a53]
            unfold bgn
            rw [if_neg (by decide), if_neg (by decide), if_neg (by decide), if_pos rfl, updF_s]
          · subst e
            rw [looksM_54 j (Nat.le_refl j), a54]
            unfold bgn
            rw [if_neg (by decide), if_neg (by decide), if_neg (by decide), if_neg (by decide), if_pos rfl, updF_s]
        · rw [bgn_j hk hj]
          exact hc k j (by omega) q2
      · rw [bgn_o hk q2]
        exact hc k j (by omega) q2
  have hk := go k (Nat.le_refl k)
  funext x j
  by_cases c1 : 50 ≤ x ∧ x ≤ 54 ∧ k ≤ j
  · rw [Wk_hi ⟨c1.1, c1.2.1⟩ k j c1.2.2, ← hhi x j c1.1 c1.2.1 c1.2.2]
    by_cases e : x = 53
    · subst e
      exact looksM_53 k c1.2.2
    · by_cases e2 : x = 54
      · subst e2
        exact looksM_54 k c1.2.2
      · rw [looksM_k (by omega)]
  · by_cases c2 : x = 41 ∧ j = 27
    · rw [c2.1, c2.2, looksM_41 (by decide), a27, Wk_27 h27]
    · exact hk x j c1 c2
/-- the class opens the treaties of a text -/
theorem dTreats_n {z W0 : Sg} {F k : Nat} (hk : k ≤ 6) (hB : RelB z W0 F) (hT : RelT z W0 0 0) (hL : RelL z W0 0 0) (hO : RelO z W0) (h6 : z 3 6 = (k : Int)) (hr : ∀ t, t < k → ∀ j, j < 3 → Rng 2 3 j (z 5 (3 * t + j))) :
    ∃ z', f_X9_beginAnew_b99 z = some z' ∧ RelB z' (Wk W0 (z 5) k) F ∧ RelT z' (Wk W0 (z 5) k) k 0 ∧ RelL z' (Wk W0 (z 5) k) 0 k ∧ RelO z' (Wk W0 (z 5) k) ∧ (∀ t, t < k → TrQ z' (Wk W0 (z 5) k) t) ∧ z' 3 = z 3 := by
  unfold f_X9_beginAnew_b99
  obtain ⟨u, m, ⟨iB, iT, iL, iO, iQ, i3, i5⟩, he⟩ := loop_ex (F := fun n i u => f_X9_beginAnew_b101 n i u) k (fun i u => RelB u (Wk W0 (z 5) i) F ∧ RelT u (Wk W0 (z 5) i) i 0 ∧ RelL u (Wk W0 (z 5) i) 0 i ∧ RelO u (Wk W0 (z 5) i) ∧ (∀ t, t < i → TrQ u (Wk W0 (z 5) i) t) ∧ u 3 = z 3 ∧ u 5 = z 5) (fun m i u hi hI => by
    obtain ⟨iB, iT, iL, iO, iQ, i3, i5⟩ := hI
    show ∃ s', _ ∧ f_X9_beginAnew_b101 (m + 1) (i : Int) u = f_X9_beginAnew_b101 m ((i : Int) + 1) s'
    have o0 : f_X4_ofTreaty (i : Int) 0 u = some (z 5 (3 * i + 0)) := by rw [← i5]; exact ofTreaty_n (j := 0) (by omega) (by decide)
    have o1 : f_X4_ofTreaty (i : Int) 1 u = some (z 5 (3 * i + 1)) := by rw [← i5]; exact ofTreaty_n (j := 1) (by omega) (by decide)
    have o2 : f_X4_ofTreaty (i : Int) 2 u = some (z 5 (3 * i + 2)) := by rw [← i5]; exact ofTreaty_n (j := 2) (by omega) (by decide)
    have r0 : 1 ≤ z 5 (3 * i + 0) ∧ z 5 (3 * i + 0) ≤ 15 := hr i hi 0 (by decide)
    have r1 : 1 ≤ z 5 (3 * i + 1) ∧ z 5 (3 * i + 1) ≤ 300 := hr i hi 1 (by decide)
    have r2 : 1 ≤ z 5 (3 * i + 2) ∧ z 5 (3 * i + 2) ≤ 9999999 := hr i hi 2 (by decide)
    rw [f_X9_beginAnew_b101, w32_n (by omega), i3, h6, w32_n (by omega), if_pos (show (i : Int) < (k : Int) by omega), o0, Option.bind_some, o1, Option.bind_some, o2, Option.bind_some]
    have W1 : Wk W0 (z 5) (i + 1) = lookM (bgn (Wk W0 (z 5) i) i (z 5 (3 * i + 0)) (z 5 (3 * i + 1)) (z 5 (3 * i + 2))) i := rfl
    rw [W1]
    generalize Wk W0 (z 5) i = W at *
    generalize z 5 (3 * i + 0) = T0 at *
    generalize z 5 (3 * i + 1) = R at *
    generalize z 5 (3 * i + 2) = L at *
    obtain ⟨T, hTe⟩ : ∃ T : Nat, T0 = (T : Int) := ⟨T0.toNat, by omega⟩
    subst hTe
    obtain ⟨z', e1, lB, lT, lL, lO, lQ⟩ := open_n (ζ2 := bgn W i (T : Int) R L) (T := T) (R := R) (L := L) (na := 0) (nb := i) (by omega) (by omega) (by omega) (by omega) r1 r2 iB iT iL iO iQ (by funext j; unfold bgn; rw [if_pos rfl]) (by funext j; unfold bgn; rw [if_neg (by decide), if_pos rfl]) (by funext j; unfold bgn; rw [if_neg (by decide), if_neg (by decide), if_pos rfl]) (by funext j; unfold bgn; rw [if_neg (by decide), if_neg (by decide), if_neg (by decide), if_pos rfl]) (by funext j; unfold bgn; rw [if_neg (by decide), if_neg (by decide), if_neg (by decide), if_neg (by decide), if_pos rfl]) rfl (fun x j q1 q2 => bgn_o q1 (fun e => q2 ⟨e.1, Or.inl e.2⟩))
    have fr := open_fr iB iT.2.1 (by omega) (by omega) r1 e1
    rw [e1, Option.bind_some]
    exact ⟨z', ⟨lB, lT, lL, lO, lQ, (fr 3 (by decide) (by decide)).trans i3, (fr 5 (by decide) (by decide)).trans i5⟩, rfl⟩) k 0 z FUEL (by omega) ⟨hB, hT, hL, hO, fun t ht => by omega, rfl, rfl⟩ (fuel_lt (by omega))
  refine ⟨u, ?_, iB, iT, iL, iO, iQ, i3⟩
  have he : f_X9_beginAnew_b101 FUEL 0 z = f_X9_beginAnew_b101 (m + 1) (k : Int) u := he
  rw [he, f_X9_beginAnew_b101, i3, h6, if_neg (Int.lt_irrefl _)]
