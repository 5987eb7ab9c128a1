/-! ===== pure level: feed, count ===== -/
def byt (v : Int) (k : Nat) : Int := (((u32 v) >>> (24 - 8 * k) &&& 255 : Nat) : Int)
theorem byt_in (v : Int) (k : Nat) : 0 ≤ byt v k ∧ byt v k ≤ 255 := by
  unfold byt
  have := and255 ((u32 v) >>> (24 - 8 * k))
  omega
theorem push_n {z : Sg} {v : Int} {L : Nat} (hL : z 1 1 = (L : Int)) (h9 : L + 4 ≤ 900) :
    ∃ z', f_X6_push v z = some z' ∧ (∀ k, k ≠ 1 → k ≠ 2 → z' k = z k) ∧ z' 1 1 = (L : Int) + 4 ∧ ∀ j, z' 2 j = if L ≤ j ∧ j < L + 4 then byt v (j - L) else z 2 j := by
  unfold f_X6_push
  obtain ⟨w, n, ⟨h1, h2, h3⟩, he⟩ := loop_ex (F := fun n i w => f_X6_push_b3 n v (24 - 8 * i) w) 4 (fun i w => (∀ k, k ≠ 1 → k ≠ 2 → w k = z k) ∧ w 1 1 = (L : Int) + i ∧ ∀ j, w 2 j = if L ≤ j ∧ j < L + i then byt v (j - L) else z 2 j) (fun n i w hi hI => by
    obtain ⟨h1, h2, h3⟩ := hI
    show ∃ s', _ ∧ f_X6_push_b3 (n + 1) v (24 - 8 * (i : Int)) w = f_X6_push_b3 n v (24 - 8 * ((i : Int) + 1)) s'
    have es : 24 - 8 * (i : Int) = ((24 - 8 * i : Nat) : Int) := by omega
    have e2 : ((24 - 8 * i : Nat) : Int) + (-8) = 24 - 8 * ((i : Int) + 1) := by omega
    rw [f_X6_push_b3, es, w32_n (by omega), if_neg (by omega), h2, w32_eq (z := (L : Int) + i) ⟨by omega, by omega⟩, if_neg (by omega), if_pos (by omega), ck_t (by omega), u32_p (by omega)]
    unfold wr f_X6_push_b52
    dsimp only
    rw [e2]
    have ix : ((L : Int) + (i : Int)).toNat = L + i := by omega
    refine ⟨_, ⟨fun k a b => ?_, ?_, fun j => ?_⟩, rfl⟩
    · rw [up_k a, up_k b]
      exact h1 k a b
    · rw [up_s, up_k (by decide), h2]
      omega
    · rw [up_k (by decide), ix]
      by_cases e : j = L + i
      · subst e
        rw [up_s, if_pos (by omega), show L + i - L = i by omega]
        rfl
      · rw [up_j e, h3]
        by_cases c : L ≤ j ∧ j < L + i
        · rw [if_pos c, if_pos (by omega)]
        · rw [if_neg c, if_neg (by omega)]) 4 0 z FUEL (by omega) ⟨fun _ _ _ => rfl, by rw [hL]; omega, fun j => by rw [if_neg (by omega)]⟩ (fuel_lt (by omega))
  have he : f_X6_push_b3 FUEL v 24 z = f_X6_push_b3 (n + 1) v (24 - 8 * ((4 : Nat) : Int)) w := he
  refine ⟨w, ?_, h1, h2, h3⟩
  rw [he, f_X6_push_b3, show (24 - 8 * ((4 : Nat) : Int)) = -8 from rfl, if_pos (by decide)]
theorem mByt {v : Int} {k : Nat} (hv : InR v) : ((((u32 (w32 v >>> (u32 (24 - (8 * ((w32 ((k : Nat) : Int)).tmod (w32 4)))) % 32))) &&& 255 : Nat) : Int)) = byt v (k % 4) ∨ 1000000 ≤ k := by
  by_cases hk : 1000000 ≤ k
  · exact Or.inr hk
  · left
    have e4 : w32 4 = 4 := by decide
    have hm : ((k : Nat) : Int).tmod 4 = ((k % 4 : Nat) : Int) := (Int.ofNat_tmod k 4).symm
    have es : (24 - 8 * ((k % 4 : Nat) : Int)) = ((24 - 8 * (k % 4) : Nat) : Int) := by omega
    rw [w32_n (by omega), e4, hm, es, u32_p (by omega), w32_eq hv]
    unfold byt
    have m255 : ∀ a : Nat, a &&& 255 = a % 256 := fun a => by rw [show (255 : Nat) = 2 ^ 8 - 1 from rfl, Nat.and_two_pow_sub_one_eq_mod]
    rw [m255, m255, u32_mod, u32_mod, Int.shiftRight_eq_div_pow, Nat.shiftRight_eq_div_pow]
    rcases (show k % 4 = 0 ∨ k % 4 = 1 ∨ k % 4 = 2 ∨ k % 4 = 3 by omega) with e | e | e | e
    · rw [e, show (2 ^ (24 - 8 * 0) : Nat) = 16777216 from rfl]
      omega
    · rw [e, show (2 ^ (24 - 8 * 1) : Nat) = 65536 from rfl]
      omega
    · rw [e, show (2 ^ (24 - 8 * 2) : Nat) = 256 from rfl]
      omega
    · rw [e, show (2 ^ (24 - 8 * 3) : Nat) = 1 from rfl]
      omega
def arF (a b c d e : Int) (k : Nat) : Int := if k < 4 then a else if k < 8 then b else if k < 12 then c else if k < 16 then d else e
theorem Eq_feed_n : Eq_feed Rl := by
  intro n σd σm a1 a2 a3 a4 a5 hn hR ha1 ha2 ha3 ha4 ha5
  obtain ⟨F, N, h⟩ := hR
  have h : Rn n σd σm F N := h
  have h1 := h.m0
  have hs := h.ask (z' := σd) (ζ' := up σm 41 0 0) SD.rf ss0
  unfold f_X9_feed f_X10_feed wr
  dsimp only
  generalize up σm 41 0 0 = ζ at *
  obtain ⟨t1, t2, t3⟩ := h1.2.2.2.1.1
  obtain ⟨T, hT⟩ : ∃ T : Nat, σd 1 1 = (T : Int) := ⟨(σd 1 1).toNat, by omega⟩
  have hTm : ζ 41 2 = (T : Int) := by rw [← t1, hT]
  rw [hT, hTm, w32_eq (z := (T : Int) + 20) ⟨by omega, by omega⟩, w32_n (n := T) (by omega)]
  by_cases c : (T : Int) + 20 ≤ 900
  · rw [if_pos c, if_pos (by omega)]
    obtain ⟨z1, e1, f1, l1, b1⟩ := push_n (v := a1) hT (by omega)
    obtain ⟨z2, e2, f2, l2, b2⟩ := push_n (z := z1) (v := a2) (L := T + 4) (by rw [l1]; omega) (by omega)
    obtain ⟨z3, e3, f3, l3, b3⟩ := push_n (z := z2) (v := a3) (L := T + 8) (by rw [l2]; omega) (by omega)
    obtain ⟨z4, e4, f4, l4, b4⟩ := push_n (z := z3) (v := a4) (L := T + 12) (by rw [l3]; omega) (by omega)
    obtain ⟨z5, e5, f5, l5, b5⟩ := push_n (z := z4) (v := a5) (L := T + 16) (by rw [l4]; omega) (by omega)
    rw [e1, Option.bind_some, e2, Option.bind_some, e3, Option.bind_some, e4, Option.bind_some, e5, Option.bind_some, l5]
    have ff : ∀ k, k ≠ 1 → k ≠ 2 → z5 k = σd k := fun k a b => by rw [f5 k a b, f4 k a b, f3 k a b, f2 k a b, f1 k a b]
    obtain ⟨w, m, ⟨g1, g2, g3⟩, he⟩ := loop_ex (F := fun n i w => f_X10_feed_b20 n a1 a2 a3 a4 a5 i w) 20 (fun i w => (∀ k, k ≠ 42 → w k = ζ k) ∧ (∀ j, w 42 j = if T ≤ j ∧ j < T + i then byt (arF a1 a2 a3 a4 a5 (j - T)) ((j - T) % 4) else ζ 42 j) ∧ True) (fun n i w hi hI => by
      obtain ⟨g1, g2, -⟩ := hI
      show ∃ s', _ ∧ f_X10_feed_b20 (n + 1) a1 a2 a3 a4 a5 (i : Int) w = f_X10_feed_b20 n a1 a2 a3 a4 a5 ((i : Int) + 1) s'
      have put : ∀ v, InR v → v = arF a1 a2 a3 a4 a5 i → ∃ s', ((∀ k, k ≠ 42 → s' k = ζ k) ∧ (∀ j, s' 42 j = if T ≤ j ∧ j < T + (i + 1) then byt (arF a1 a2 a3 a4 a5 (j - T)) ((j - T) % 4) else ζ 42 j) ∧ True) ∧ f_X10_feed_b73 (f_X10_feed_b20 n) a1 a2 a3 a4 a5 (i : Int) v w = f_X10_feed_b20 n a1 a2 a3 a4 a5 ((i : Int) + 1) s' := by
        intro v hv hva
        unfold f_X10_feed_b73 wr
        have eb := (mByt (v := v) (k := i) hv).resolve_right (by omega)
        have w2 : w 41 2 = (T : Int) := by rw [g1 41 (by decide)]; exact hTm
        rw [w2, ck_t (by decide), ck_t (by omega), eb, show ((T : Int) + (i : Int)).toNat = T + i by omega]
        refine ⟨_, ⟨fun k hk => ?_, fun j => ?_, trivial⟩, rfl⟩
        · rw [up_k hk]
          exact g1 k hk
        · by_cases e : j = T + i
          · subst e
            rw [up_s, if_pos (by omega), show T + i - T = i by omega, hva]
          · rw [up_j e, g2]
            by_cases c : T ≤ j ∧ j < T + i
            · rw [if_pos c, if_pos (by omega)]
            · rw [if_neg c, if_neg (by omega)]
      rw [f_X10_feed_b20, w32_n (by omega), if_pos (show (i : Int) < 20 by omega)]
      by_cases q1 : (i : Int) < 4
      · rw [if_pos q1]
        exact put a1 ha1 (by unfold arF; rw [if_pos (by omega)])
      · rw [if_neg q1]
        by_cases q2 : (i : Int) < 8
        · rw [if_pos q2]
          exact put a2 ha2 (by unfold arF; rw [if_neg (by omega), if_pos (by omega)])
        · rw [if_neg q2]
          by_cases q3 : (i : Int) < 12
          · rw [if_pos q3]
            exact put a3 ha3 (by unfold arF; rw [if_neg (by omega), if_neg (by omega), if_pos (by omega)])
          · rw [if_neg q3]
            by_cases q4 : (i : Int) < 16
            · rw [if_pos q4]
              exact put a4 ha4 (by unfold arF; rw [if_neg (by omega), if_neg (by omega), if_neg (by omega), if_pos (by omega)])
            · rw [if_neg q4]
              exact put a5 ha5 (by unfold arF; rw [if_neg (by omega), if_neg (by omega), if_neg (by omega), if_neg (by omega)])) 20 0 ζ FUEL (by omega) ⟨fun _ _ => rfl, fun j => by rw [if_neg (by omega)], trivial⟩ (fuel_lt (by omega))
    have he : f_X10_feed_b20 FUEL a1 a2 a3 a4 a5 0 ζ = f_X10_feed_b20 (m + 1) a1 a2 a3 a4 a5 ((20 : Nat) : Int) w := he
    have w2 : w 41 2 = (T : Int) := by rw [g1 41 (by decide)]; exact hTm
    rw [he, f_X10_feed_b20, w32_n (by decide), if_neg (show ¬ ((20 : Nat) : Int) < 20 by decide)]
    unfold f_X10_feed_b110 wr
    dsimp only
    rw [w2, up_s]
    refine ⟨((T + 16 : Nat) + 4, z5), ((T : Int) + 20, up w 41 2 ((T : Int) + 20)), rfl, rfl, ?_, ?_⟩
    · show w32 (((T + 16 : Nat) : Int) + 4) = w32 ((T : Int) + 20)
      rw [show (((T + 16 : Nat) : Int) + 4) = (T : Int) + 20 by omega]
    · obtain ⟨gB, gT, gL, gO, gQ⟩ := h1.mono (Nat.le_succ n)
      have wk : ∀ k, k ≠ 41 → k ≠ 42 → up w 41 2 ((T : Int) + 20) k = ζ k := fun k a b => by rw [up_k a, g1 k b]
      have w41 : ∀ j, j ≠ 2 → up w 41 2 ((T : Int) + 20) 41 j = ζ 41 j := fun j a => by rw [up_j a, g1 41 (by decide)]
      have hN6 := gT.1
      have ws : ∀ t, wsM (up w 41 2 ((T : Int) + 20)) t = wsM ζ t := fun t => wsM_cg fun k _ _ => wk k (by omega) (by omega)
      show Rl (n + 1) z5 (up w 41 2 ((T : Int) + 20))
      refine Rl.of (F := F) (N := N) ⟨gB.cg (fun k _ _ => ff k (by omega) (by omega)) (fun k _ _ => wk k (by omega) (by omega)), ⟨hN6, by rw [ff 0 (by decide) (by decide)]; exact gT.2.1, by rw [w41 27 (by decide)]; exact gT.2.2.1, fun t ht => ?_⟩, ?_, ⟨⟨?_, ?_, fun j hj => ?_⟩, ?_, ?_⟩, fun t ht => ?_⟩
      · obtain ⟨x, y⟩ := gT.2.2.2 t ht
        refine ⟨x.cg (fun j _ _ => by rw [ff _ (by omega) (by omega)]) ⟨by rw [ff _ (by omega) (by omega)], by rw [ff _ (by omega) (by omega)]⟩ (ff _ (by omega) (by omega)) (ff _ (by omega) (by omega)) (ff _ (by omega) (by omega)) (fun k _ _ => wk k (by omega) (by omega)), ?_⟩
        unfold TrA at y ⊢
        rw [ff _ (by omega) (by omega), wk 53 (by decide) (by decide), wk 54 (by decide) (by decide)]
        exact y
      · unfold RelL
        rw [ff 13 (by decide) (by decide), ff 14 (by decide) (by decide), ff 15 (by decide) (by decide), ff 16 (by decide) (by decide), w41 28 (by decide), w41 34 (by decide), w41 32 (by decide), wk 56 (by decide) (by decide), wk 57 (by decide) (by decide)]
        exact gL
      · rw [l5, up_s]
        omega
      · rw [l5]
        omega
      · rw [up_k (by decide), g2, b5, b4, b3, b2, b1]
        have old := t3 j hj
        by_cases cT : T ≤ j ∧ j < T + 20
        · rw [if_pos cT]
          refine ⟨?_, byt_in _ _⟩
          unfold arF
          by_cases q5 : T + 16 ≤ j ∧ j < T + 16 + 4
          · rw [if_pos q5, if_neg (by omega), if_neg (by omega), if_neg (by omega), if_neg (by omega)]
            congr 1
            omega
          · rw [if_neg q5]
            by_cases q4 : T + 12 ≤ j ∧ j < T + 12 + 4
            · rw [if_pos q4, if_neg (by omega), if_neg (by omega), if_neg (by omega), if_pos (by omega)]
              congr 1
              omega
            · rw [if_neg q4]
              by_cases q3 : T + 8 ≤ j ∧ j < T + 8 + 4
              · rw [if_pos q3, if_neg (by omega), if_neg (by omega), if_pos (by omega)]
                congr 1
                omega
              · rw [if_neg q3]
                by_cases q2 : T + 4 ≤ j ∧ j < T + 4 + 4
                · rw [if_pos q2, if_neg (by omega), if_pos (by omega)]
                  congr 1
                  omega
                · rw [if_neg q2, if_pos (by omega), if_pos (by omega)]
                  congr 1
                  omega
        · rw [if_neg cT, if_neg (by omega), if_neg (by omega), if_neg (by omega), if_neg (by omega), if_neg (by omega)]
          exact old
      · rw [ff 3 (by decide) (by decide), w41 15 (by decide), w41 16 (by decide)]
        exact gO.2.1
      · rw [ff 17 (by decide) (by decide), w41 30 (by decide), wk 55 (by decide) (by decide)]
        exact gO.2.2
      · have := gQ t ht
        unfold TrQ TrW psM at this ⊢
        rw [ws, ff _ (by omega) (by omega), wk 53 (by decide) (by decide), wk 52 (by decide) (by decide)]
        exact this
  · rw [if_neg c, if_neg (by omega)]
    exact ⟨_, _, rfl, rfl, rfl, hs⟩
