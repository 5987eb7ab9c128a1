/-! ===== pure level: text, tokens and numbers ===== -/
/-- a number's value, as the reference makes it, and as the class does -/
def mv (B : Nat → Int) (p : Nat) : Nat → Int
  | 0 => 0
  | k + 1 => if mv B p k ≤ 9999999 then 10 * mv B p k + B (p + k) - 48 else mv B p k
def cv (B : Nat → Int) (p : Nat) : Nat → Int
  | 0 => 0
  | k + 1 => if cv B p k * 10 + (B (p + k) - 48) < 100000000 then cv B p k * 10 + (B (p + k) - 48) else 100000000
theorem mv_cv {B : Nat → Int} {p : Nat} : ∀ k, (∀ j, p ≤ j → j < p + k → isDg (B j)) → (mv B p k = cv B p k ∧ 0 ≤ mv B p k ∧ mv B p k ≤ 99999999) ∨ (9999999 < mv B p k ∧ mv B p k ≤ 99999999 ∧ 9999999 < cv B p k ∧ cv B p k ≤ 100000000)
  | 0, _ => Or.inl ⟨rfl, (by decide : (0 : Int) ≤ 0), (by decide : (0 : Int) ≤ 99999999)⟩
  | k + 1, h => by
    have ih := mv_cv (B := B) (p := p) k (fun j h1 h2 => h j h1 (by omega))
    have hd := h (p + k) (by omega) (by omega)
    unfold isDg at hd
    unfold mv cv
    generalize mv B p k = a at *
    generalize cv B p k = b at *
    rcases ih with ⟨h1, h2, h3⟩ | ⟨h1, h2, h3, h4⟩
    · subst h1
      by_cases c : a ≤ 9999999
      · left
        rw [if_pos c, if_pos (by omega)]
        omega
      · right
        rw [if_neg c]
        by_cases c2 : a * 10 + (B (p + k) - 48) < 100000000
        · rw [if_pos c2]
          omega
        · rw [if_neg c2]
          omega
    · right
      rw [if_neg (by omega)]
      by_cases c2 : b * 10 + (B (p + k) - 48) < 100000000
      · rw [if_pos c2]
        omega
      · rw [if_neg c2]
        omega
def MOk (B : Nat → Int) (n : Nat) (ζ : Sg) : Prop := ζ 41 8 = (n : Int) ∧ ∀ j, j < 900 → ζ 42 j = B j
theorem MOk.up {B : Nat → Int} {n j : Nat} {ζ : Sg} {v : Int} (h : MOk B n ζ) (hj : j ≠ 8) : MOk B n (up ζ 41 j v) := ⟨by rw [up_j (by omega)]; exact h.1, fun i hi => by rw [up_k (by decide)]; exact h.2 i hi⟩
theorem here_n {ζ : Sg} {B : Nat → Int} {n p : Nat} (hn : n ≤ 900) (h : MOk B n ζ) (hp : ζ 41 9 = (p : Int)) (hpn : p ≤ n) : f_X10_here ζ = some (if p < n then B p else -1) := by
  unfold f_X10_here
  rw [hp, h.1, w32_n (by omega), w32_n (by omega)]
  by_cases c : p < n
  · rw [if_pos (show (p : Int) < (n : Int) by omega), ck_t (by omega), ntn, h.2 p (by omega), if_pos c]
  · rw [if_neg (show ¬ (p : Int) < (n : Int) by omega), if_neg c]
theorem isSmall_n {σ : Sg} {b : Int} (hb : -1 ≤ b ∧ b ≤ 255) : (isSm b → f_X10_isSmall b σ = some 1) ∧ (¬ isSm b → f_X10_isSmall b σ = some 0) := by
  unfold f_X10_isSmall isSm
  rw [w32_eq (z := b) ⟨by omega, by omega⟩]
  constructor
  · intro h
    rw [if_neg (by omega), if_pos (by omega)]
  · intro h
    by_cases c : b < 97
    · rw [if_pos c]
    · rw [if_neg c, if_neg (by omega)]
theorem isDigit_n {σ : Sg} {b : Int} (hb : -1 ≤ b ∧ b ≤ 255) : (isDg b → f_X10_isDigit b σ = some 1) ∧ (¬ isDg b → f_X10_isDigit b σ = some 0) := by
  unfold f_X10_isDigit isDg
  rw [w32_eq (z := b) ⟨by omega, by omega⟩]
  constructor
  · intro h
    rw [if_neg (by omega), if_pos (by omega)]
  · intro h
    by_cases c : b < 48
    · rw [if_pos c]
    · rw [if_neg c, if_neg (by omega)]
theorem dDigit_n {σ : Sg} {b : Int} (hb : -1 ≤ b ∧ b ≤ 255) : (isDg b → f_X4_isDigit b σ = some 1) ∧ (¬ isDg b → f_X4_isDigit b σ = some 0) := by
  unfold f_X4_isDigit isDg
  rw [w32_eq (z := b) ⟨by omega, by omega⟩]
  constructor
  · intro h
    rw [if_neg (by omega), if_pos (by omega)]
  · intro h
    by_cases c : b < 48
    · rw [if_pos c]
    · rw [if_neg c, if_neg (by omega)]
def TokAt (ζ : Sg) (B : Nat → Int) (n p : Nat) : Prop := ζ 41 10 = (p : Int) ∧ p ≤ n ∧ (p < n → ¬ isBl (B p)) ∧
  ((p = n ∧ ζ 41 11 = 3) ∨
    (p < n ∧ isSm (B p) ∧ ∃ e, Adv isSm B n p e ∧ ζ 41 9 = (e : Int) ∧ ((ζ 41 11 = 0 ∧ ζ 41 12 = 0 ∧ Sp wPol B p e) ∨ (ζ 41 11 = 0 ∧ ζ 41 12 = 1 ∧ ¬ Sp wPol B p e ∧ Sp wTre B p e) ∨ (ζ 41 11 = 4 ∧ ¬ Sp wPol B p e ∧ ¬ Sp wTre B p e))) ∨
    (p < n ∧ isDg (B p) ∧ ∃ e, Adv isDg B n p e ∧ ζ 41 9 = (e : Int) ∧ ζ 41 11 = 1 ∧ ζ 41 12 = mv B p (e - p)) ∨
    (p < n ∧ B p = 59 ∧ ζ 41 11 = 2 ∧ ζ 41 9 = (p : Int) + 1) ∨
    (p < n ∧ ¬ isSm (B p) ∧ ¬ isDg (B p) ∧ B p ≠ 59 ∧ ζ 41 11 = 4))
def FrK (ζ ζ' : Sg) : Prop := ∀ k j, ¬ (k = 41 ∧ 9 ≤ j ∧ j ≤ 12) → ζ' k j = ζ k j
theorem FrK.rf {ζ : Sg} : FrK ζ ζ := fun _ _ _ => rfl
theorem FrK.up {ζ u : Sg} {j : Nat} {v : Int} (h : FrK ζ u) (hj : 9 ≤ j ∧ j ≤ 12) : FrK ζ (up u 41 j v) := fun k i hk => by
  by_cases e : k = 41
  · subst e
    rw [up_j (by omega)]
    exact h 41 i hk
  · rw [up_k e]
    exact h k i hk
theorem num_lp {ζ : Sg} {B : Nat → Int} {n p e : Nat} (hn : n ≤ 900) (hB : ByP B) (hA : Adv isDg B n p e) : ∀ r k u m, p + k + r = e → MOk B n u → FrK ζ u → u 41 9 = ((p + k : Nat) : Int) → u 41 12 = mv B p k → r < m → ∃ u', f_X10_token_b132 m u = some u' ∧ FrK ζ u' ∧ u' 41 9 = (e : Int) ∧ u' 41 12 = mv B p (e - p) ∧ u' 41 10 = u 41 10 ∧ u' 41 11 = u 41 11 := by
  obtain ⟨a1, a2, a3, a4⟩ := hA
  intro r
  induction r with
  | zero =>
    intro k u m hr hu hf h9 h12 hm
    obtain ⟨m, rfl⟩ : ∃ q, m = q + 1 := ⟨m - 1, by omega⟩
    have hpk : p + k = e := by omega
    rw [f_X10_token_b132, here_n hn hu h9 (by omega), Option.bind_some, hpk]
    have no : ¬ isDg (if e < n then B e else -1) := by
      by_cases c : e < n
      · rw [if_pos c]
        exact a4 c
      · rw [if_neg c]
        unfold isDg
        omega
    have rg : -1 ≤ (if e < n then B e else -1) ∧ (if e < n then B e else -1) ≤ 255 := by
      by_cases c : e < n
      · rw [if_pos c]
        have := hB e (by omega)
        omega
      · rw [if_neg c]
        decide
    rw [(isDigit_n rg).2 no, Option.bind_some, if_pos (show w32 0 = 0 by decide)]
    refine ⟨u, rfl, hf, by rw [h9, hpk], ?_, rfl, rfl⟩
    rw [h12, show e - p = k by omega]
  | succ r ih =>
    intro k u m hr hu hf h9 h12 hm
    obtain ⟨m, rfl⟩ : ∃ q, m = q + 1 := ⟨m - 1, by omega⟩
    have hpk : p + k < n := by omega
    have hd := a3 (p + k) (by omega) (by omega)
    have hb := hB (p + k) (by omega)
    have bd := mv_cv (B := B) (p := p) k (fun j h1 h2 => a3 j h1 (by omega))
    have bd2 : 0 ≤ mv B p k ∧ mv B p k ≤ 99999999 := by omega
    rw [f_X10_token_b132, here_n hn hu h9 (by omega), Option.bind_some, if_pos hpk, (isDigit_n (b := B (p + k)) ⟨by omega, by omega⟩).1 hd, Option.bind_some, if_neg (show ¬ w32 1 = 0 by decide), h12, w32_eq (z := mv B p k) ⟨by omega, by omega⟩, Option.bind_some]
    have go : ∀ v, v = mv B p (k + 1) → ∃ u', f_X10_token_b174 (f_X10_token_b132 m) v u = some u' ∧ FrK ζ u' ∧ u' 41 9 = (e : Int) ∧ u' 41 12 = mv B p (e - p) ∧ u' 41 10 = u 41 10 ∧ u' 41 11 = u 41 11 := fun v hv => by
      unfold f_X10_token_b174 wr
      dsimp only
      rw [up_j (by decide : (9 : Nat) ≠ 12), h9]
      obtain ⟨u', e1, e2, e3, e4, e5, e6⟩ := ih (k + 1) (up (up u 41 12 v) 41 9 (((p + k : Nat) : Int) + 1)) m (by omega) ((hu.up (by decide)).up (by decide)) ((hf.up (by decide)).up (by decide)) (by rw [up_s]; omega) (by rw [up_j (by decide), up_s]; exact hv) (by omega)
      refine ⟨u', e1, e2, e3, e4, ?_, ?_⟩
      · rw [e5, up_j (by decide), up_j (by decide)]
      · rw [e6, up_j (by decide), up_j (by decide)]
    have hmv : mv B p (k + 1) = if mv B p k ≤ 9999999 then 10 * mv B p k + B (p + k) - 48 else mv B p k := rfl
    by_cases c : mv B p k ≤ 9999999
    · rw [if_pos c]
      rw [if_pos c] at hmv
      exact go _ hmv.symm
    · rw [if_neg c]
      rw [if_neg c] at hmv
      exact go _ hmv.symm
theorem token_n {ζ : Sg} {B : Nat → Int} {n a p : Nat} (hn : n ≤ 900) (hB : ByP B) (hM : MOk B n ζ) (h9 : ζ 41 9 = (a : Int)) (hA : Adv isBl B n a p) : ∃ ζ', f_X10_token ζ = some ζ' ∧ FrK ζ ζ' ∧ TokAt ζ' B n p := by
  unfold f_X10_token
  have rgg : ∀ q, q ≤ n → -1 ≤ (if q < n then B q else -1) ∧ (if q < n then B q else -1) ≤ 255 := fun q hq => by
    by_cases c : q < n
    · rw [if_pos c]
      have := hB q (by omega)
      omega
    · rw [if_neg c]
      decide
  have e0 := adv_g (G := f_X10_token_b0) (kc := 41) (jc := 9) (P := isBl) (B := B) (n := n) (OK := MOk B n) (res := fun z => f_X10_token_b31 z) (fun m z p hz hp hpn hP => by
    have hb := hB p (by omega)
    rw [f_X10_token_b0, here_n hn hz hp (by omega), Option.bind_some, if_pos hpn, w32_eq (z := B p) ⟨by omega, by omega⟩]
    unfold f_X10_token_b18 wr
    rw [hp]
    rcases hP with h | h
    · rw [if_pos h]
    · rw [if_neg (by omega), Option.bind_some, w32_eq (z := B p) ⟨by omega, by omega⟩, if_pos h]) (fun m z p hz hp hpn hP => by
    have rg := rgg p hpn
    have no : ¬ isBl (if p < n then B p else -1) := by
      by_cases c : p < n
      · rw [if_pos c]
        exact hP c
      · rw [if_neg c]
        unfold isBl
        omega
    unfold isBl at no
    rw [f_X10_token_b0, here_n hn hz hp hpn, Option.bind_some]
    generalize (if p < n then B p else -1) = b at *
    rw [w32_eq (z := b) ⟨by omega, by omega⟩, if_neg (by omega), Option.bind_some, w32_eq (z := b) ⟨by omega, by omega⟩, if_neg (by omega)]) (fun z v h => h.up (by decide)) (p - a) a p ζ FUEL (by have := hA.1; omega) hA hM h9 (fuel_lt (by have := hA.2.1; omega))
  rw [e0]
  have hpn := hA.2.1
  have hnb := hA.2.2.2
  unfold f_X10_token_b31 wr
  dsimp only
  rw [up_s]
  obtain ⟨u, hu⟩ : ∃ u, u = up (up ζ 41 9 (p : Int)) 41 10 (p : Int) := ⟨_, rfl⟩
  have mu : MOk B n u := by rw [hu]; exact (hM.up (by decide)).up (by decide)
  have fu : FrK ζ u := by rw [hu]; exact (FrK.rf.up (by decide)).up (by decide)
  have u9 : u 41 9 = (p : Int) := by rw [hu, up_j (by decide), up_s]
  have u10 : u 41 10 = (p : Int) := by rw [hu, up_s]
  rw [← hu]
  clear hu e0
  have rg := rgg p hpn
  rw [here_n hn mu u9 hpn, Option.bind_some]
  by_cases c : p < n
  · have hb := hB p (by omega)
    have hnb := hnb c
    rw [if_pos c, w32_eq (z := B p) ⟨by omega, by omega⟩, if_neg (by omega)]
    by_cases c1 : isSm (B p)
    · obtain ⟨e, hAe⟩ := Adv.ex (P := isSm) (B := B) (n := n) (p := p) hpn
      rw [(isSmall_n (b := B p) ⟨by omega, by omega⟩).1 c1, Option.bind_some, if_neg (show ¬ w32 1 = 0 by decide)]
      have e1 := adv_g (G := f_X10_token_b64) (kc := 41) (jc := 9) (P := isSm) (B := B) (n := n) (OK := MOk B n) (res := fun z => f_X10_token_b87 z) (fun m z q hz hq hqn hP => by
        have hb := hB q (by omega)
        rw [f_X10_token_b64, here_n hn hz hq (by omega), Option.bind_some, if_pos hqn, (isSmall_n (b := B q) ⟨by omega, by omega⟩).1 hP, Option.bind_some, if_neg (show ¬ w32 1 = 0 by decide)]
        unfold wr
        rw [hq]) (fun m z q hz hq hqn hP => by
        have rg := rgg q hqn
        have no : ¬ isSm (if q < n then B q else -1) := by
          by_cases c : q < n
          · rw [if_pos c]
            exact hP c
          · rw [if_neg c]
            unfold isSm
            omega
        rw [f_X10_token_b64, here_n hn hz hq hqn, Option.bind_some, (isSmall_n rg).2 no, Option.bind_some, if_pos (show w32 0 = 0 by decide)]) (fun z v h => h.up (by decide)) (e - p) p e u FUEL (by have := hAe.1; omega) hAe mu u9 (fuel_lt (by have := hAe.2.1; omega))
      rw [e1]
      have mu2 : MOk B n (up u 41 9 (e : Int)) := mu.up (by decide)
      have fu2 : FrK ζ (up u 41 9 (e : Int)) := fu.up (by decide)
      have v10 : up u 41 9 (e : Int) 41 10 = (p : Int) := by rw [up_j (by decide)]; exact u10
      have v9 : up u 41 9 (e : Int) 41 9 = (e : Int) := up_s
      generalize up u 41 9 (e : Int) = w at *
      obtain ⟨r, e2, hr⟩ := wordHere_n hB mu2.2 v10 v9 hAe.1 (by have := hAe.2.1; omega)
      unfold f_X10_token_b87 wr
      rw [e2, Option.bind_some]
      dsimp only
      rw [up_s]
      unfold f_X10_token_b109 wr
      have fin : ∀ s : Int, ((s = 0 ∧ r = 0 ∧ Sp wPol B p e) ∨ (s = 0 ∧ r = 1 ∧ ¬ Sp wPol B p e ∧ Sp wTre B p e) ∨ (s = 4 ∧ ¬ Sp wPol B p e ∧ ¬ Sp wTre B p e)) → TokAt (up (up w 41 12 r) 41 11 s) B n p := fun s hs => by
        refine ⟨by rw [up_j (by decide), up_j (by decide)]; exact v10, hpn, fun _ => hnb, Or.inr (Or.inl ⟨c, c1, e, hAe, by rw [up_j (by decide), up_j (by decide)]; exact v9, ?_⟩)⟩
        rw [up_s, up_j (by decide), up_s]
        exact hs
      rcases hr with ⟨h1, h2⟩ | ⟨h1, h2, h3⟩ | ⟨h1, h2, h3⟩
      · rw [h1, if_neg (show ¬ w32 0 = -1 by decide)]
        have := fin 0 (Or.inl ⟨rfl, h1, h2⟩)
        rw [h1] at this
        exact ⟨_, rfl, (fu2.up (by decide)).up (by decide), this⟩
      · rw [h1, if_neg (show ¬ w32 1 = -1 by decide)]
        have := fin 0 (Or.inr (Or.inl ⟨rfl, h1, h2, h3⟩))
        rw [h1] at this
        exact ⟨_, rfl, (fu2.up (by decide)).up (by decide), this⟩
      · rw [h1, if_pos (show w32 (-1) = -1 by decide)]
        have := fin 4 (Or.inr (Or.inr ⟨rfl, h2, h3⟩))
        rw [h1] at this
        exact ⟨_, rfl, (fu2.up (by decide)).up (by decide), this⟩
    · rw [(isSmall_n (b := B p) ⟨by omega, by omega⟩).2 c1, Option.bind_some, if_pos (show w32 0 = 0 by decide)]
      by_cases c2 : isDg (B p)
      · obtain ⟨e, hAe⟩ := Adv.ex (P := isDg) (B := B) (n := n) (p := p) hpn
        rw [(isDigit_n (b := B p) ⟨by omega, by omega⟩).1 c2, Option.bind_some, if_neg (show ¬ w32 1 = 0 by decide)]
        obtain ⟨u', e1, e2, e3, e4, e5, e6⟩ := num_lp (ζ := ζ) hn hB hAe (e - p) 0 (up (up u 41 11 1) 41 12 0) FUEL (by have := hAe.1; omega) ((mu.up (by decide)).up (by decide)) ((fu.up (by decide)).up (by decide)) (by rw [up_j (by decide), up_j (by decide)]; exact u9) up_s (fuel_lt (by have := hAe.2.1; omega))
        refine ⟨u', e1, e2, ?_, hpn, fun _ => hnb, Or.inr (Or.inr (Or.inl ⟨c, c2, e, hAe, e3, ?_, e4⟩))⟩
        · rw [e5, up_j (by decide), up_j (by decide)]
          exact u10
        · rw [e6, up_j (by decide), up_s]
      · rw [(isDigit_n (b := B p) ⟨by omega, by omega⟩).2 c2, Option.bind_some, if_pos (show w32 0 = 0 by decide)]
        unfold f_X10_token_b202 wr
        dsimp only
        by_cases c3 : B p = 59
        · rw [if_pos c3]
          refine ⟨_, rfl, (fu.up (by decide)).up (by decide), ?_, hpn, fun _ => hnb, Or.inr (Or.inr (Or.inr (Or.inl ⟨c, c3, ?_, ?_⟩)))⟩
          · rw [up_j (by decide), up_j (by decide)]
            exact u10
          · rw [up_j (by decide), up_s]
          · rw [up_s, up_j (by decide), u9]
        · rw [if_neg c3]
          refine ⟨_, rfl, (fu.up (by decide)).up (by decide), ?_, hpn, fun _ => hnb, Or.inr (Or.inr (Or.inr (Or.inr ⟨c, c1, c2, c3, ?_⟩)))⟩
          · rw [up_j (by decide), up_j (by decide)]
            exact u10
          · rw [up_j (by decide), up_s]
  · rw [if_neg c, if_pos (show w32 (-1) = -1 by decide)]
    refine ⟨_, rfl, fu.up (by decide), ?_, hpn, fun k => absurd k c, Or.inl ⟨by omega, up_s⟩⟩
    rw [up_j (by decide)]
    exact u10
