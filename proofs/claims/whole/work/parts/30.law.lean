/-! ===== the law, case by case ===== -/
abbrev sc (xs : Nat → Int32) (k : Int) : Int := (xs k.toNat).toInt
theorem sc_in (xs : Nat → Int32) (k : Int) : InR (sc xs k) := show InR (xs k.toNat).toInt from ⟨by have := Int32.le_toInt (xs k.toNat); omega, by have := Int32.toInt_lt (xs k.toNat); omega⟩
theorem mix_sw (σ τ : Sg) : mix true τ σ = mix false σ τ := by
  funext k
  unfold mix
  by_cases h : k < 41 <;> simp [h]
theorem St.sw {G : Gd} {σ τ : Sg} {s : State} {H : Heap} {locs : List Loc} (S : St G true τ σ s H locs) : St G false σ τ s H locs := by
  unfold St at S ⊢
  rw [mix_sw] at S
  exact S
theorem St.ws {G : Gd} {σ τ : Sg} {s : State} {H : Heap} {locs : List Loc} (S : St G false σ τ s H locs) : St G true τ σ s H locs := by
  unfold St at S ⊢
  rw [mix_sw]
  exact S
def Eq_feed (Rel : Nat → Sg → Sg → Prop) : Prop := ∀ (n : Nat) (σd σm : Sg) (a1 : Int) (a2 : Int) (a3 : Int) (a4 : Int) (a5 : Int), n < 512 → Rel n σd σm → InR a1 → InR a2 → InR a3 → InR a4 → InR a5 → ∃ (q : Int × Sg) (q' : Int × Sg), f_X9_feed a1 a2 a3 a4 a5 σd = some q ∧ f_X10_feed a1 a2 a3 a4 a5 σm = some q' ∧ w32 q.1 = w32 q'.1 ∧ Rel (n + 1) q.2 q'.2
def Eq_text (Rel : Nat → Sg → Sg → Prop) : Prop := ∀ (n : Nat) (σd σm : Sg) (a1 : Int), n < 512 → Rel n σd σm → InR a1 → ∃ (q : Int × Sg) (q' : Int × Sg), f_X9_text a1 σd = some q ∧ f_X10_text a1 σm = some q' ∧ w32 q.1 = w32 q'.1 ∧ Rel (n + 1) q.2 q'.2
def Eq_fault (Rel : Nat → Sg → Sg → Prop) : Prop := ∀ (n : Nat) (σd σm : Sg) (a1 : Int), n < 512 → Rel n σd σm → InR a1 → ∃ (q : Int) (q' : Int × Sg), f_X9_fault a1 σd = some q ∧ f_X10_fault a1 σm = some q' ∧ w32 q = w32 q'.1 ∧ Rel (n + 1) σd q'.2
def Eq_write (Rel : Nat → Sg → Sg → Prop) : Prop := ∀ (n : Nat) (σd σm : Sg) (a1 : Int) (a2 : Int) (a3 : Int) (a4 : Int), n < 512 → Rel n σd σm → InR a1 → InR a2 → InR a3 → InR a4 → ∃ (q : Int × Sg) (q' : Int × Sg), f_X9_write a1 a2 a3 a4 σd = some q ∧ f_X10_write a1 a2 a3 a4 σm = some q' ∧ w32 q.1 = w32 q'.1 ∧ Rel (n + 1) q.2 q'.2
def Eq_move (Rel : Nat → Sg → Sg → Prop) : Prop := ∀ (n : Nat) (σd σm : Sg) (a1 : Int) (a2 : Int) (a3 : Int), n < 512 → Rel n σd σm → InR a1 → InR a2 → InR a3 → ∃ (q : Int × Sg) (q' : Int × Sg), f_X9_move a1 a2 a3 σd = some q ∧ f_X10_move a1 a2 a3 σm = some q' ∧ w32 q.1 = w32 q'.1 ∧ Rel (n + 1) q.2 q'.2
def Eq_change (Rel : Nat → Sg → Sg → Prop) : Prop := ∀ (n : Nat) (σd σm : Sg) (a1 : Int) (a2 : Int), n < 512 → Rel n σd σm → InR a1 → InR a2 → ∃ (q : Int × Sg) (q' : Int × Sg), f_X9_change a1 a2 σd = some q ∧ f_X10_change a1 a2 σm = some q' ∧ w32 q.1 = w32 q'.1 ∧ Rel (n + 1) q.2 q'.2
def Eq_lapse (Rel : Nat → Sg → Sg → Prop) : Prop := ∀ (n : Nat) (σd σm : Sg) (a1 : Int), n < 512 → Rel n σd σm → InR a1 → ∃ (q : Int × Sg) (q' : Int × Sg), f_X9_lapse a1 σd = some q ∧ f_X10_lapse a1 σm = some q' ∧ w32 q.1 = w32 q'.1 ∧ Rel (n + 1) q.2 q'.2
def Eq_treaty (Rel : Nat → Sg → Sg → Prop) : Prop := ∀ (n : Nat) (σd σm : Sg) (a1 : Int) (a2 : Int) (a3 : Int), n < 512 → Rel n σd σm → InR a1 → InR a2 → InR a3 → ∃ (q : Int × Sg) (q' : Int × Sg), f_X9_treaty a1 a2 a3 σd = some q ∧ f_X10_treaty a1 a2 a3 σm = some q' ∧ w32 q.1 = w32 q'.1 ∧ Rel (n + 1) q.2 q'.2
def Eq_limit (Rel : Nat → Sg → Sg → Prop) : Prop := ∀ (n : Nat) (σd σm : Sg) (a1 : Int) (a2 : Int), n < 512 → Rel n σd σm → InR a1 → InR a2 → ∃ (q : Int × Sg) (q' : Int × Sg), f_X9_limit a1 a2 σd = some q ∧ f_X10_limit a1 a2 σm = some q' ∧ w32 q.1 = w32 q'.1 ∧ Rel (n + 1) q.2 q'.2
def Eq_its (Rel : Nat → Sg → Sg → Prop) : Prop := ∀ (n : Nat) (σd σm : Sg) (a1 : Int) (a2 : Int), n < 512 → Rel n σd σm → InR a1 → InR a2 → ∃ (q : Int) (q' : Int × Sg), f_X9_its a1 a2 σd = some q ∧ f_X10_its a1 a2 σm = some q' ∧ w32 q = w32 q'.1 ∧ Rel (n + 1) σd q'.2
def Eq_worst (Rel : Nat → Sg → Sg → Prop) : Prop := ∀ (n : Nat) (σd σm : Sg) (a1 : Int) (a2 : Int), n < 512 → Rel n σd σm → InR a1 → InR a2 → ∃ (q : Int) (q' : Int × Sg), f_X9_worst a1 a2 σd = some q ∧ f_X10_worst a1 a2 σm = some q' ∧ w32 q = w32 q'.1 ∧ Rel (n + 1) σd q'.2
def Eq_inWorst (Rel : Nat → Sg → Sg → Prop) : Prop := ∀ (n : Nat) (σd σm : Sg) (a1 : Int) (a2 : Int), n < 512 → Rel n σd σm → InR a1 → InR a2 → ∃ (q : Int) (q' : Int × Sg), f_X9_inWorst a1 a2 σd = some q ∧ f_X10_inWorst a1 a2 σm = some q' ∧ w32 q = w32 q'.1 ∧ Rel (n + 1) σd q'.2
def Eq_bound (Rel : Nat → Sg → Sg → Prop) : Prop := ∀ (n : Nat) (σd σm : Sg) (a1 : Int) (a2 : Int), n < 512 → Rel n σd σm → InR a1 → InR a2 → ∃ (q : Int) (q' : Int × Sg), f_X9_bound a1 a2 σd = some q ∧ f_X10_bound a1 a2 σm = some q' ∧ w32 q = w32 q'.1 ∧ Rel (n + 1) σd q'.2
def Eq_spread (Rel : Nat → Sg → Sg → Prop) : Prop := ∀ (n : Nat) (σd σm : Sg) (a1 : Int), n < 512 → Rel n σd σm → InR a1 → ∃ (q : Int) (q' : Int × Sg), f_X9_spread a1 σd = some q ∧ f_X10_spread a1 σm = some q' ∧ w32 q = w32 q'.1 ∧ Rel (n + 1) σd q'.2
def Eq_ring (Rel : Nat → Sg → Sg → Prop) : Prop := ∀ (n : Nat) (σd σm : Sg) (a1 : Int) (a2 : Int), n < 512 → Rel n σd σm → InR a1 → InR a2 → ∃ (q : Int × Sg) (q' : Int × Sg), f_X9_ring a1 a2 σd = some q ∧ f_X10_ring a1 a2 σm = some q' ∧ w64 q.1 = w64 q'.1 ∧ Rel (n + 1) q.2 q'.2
def Eq_part (Rel : Nat → Sg → Sg → Prop) : Prop := ∀ (n : Nat) (σd σm : Sg) (a1 : Int) (a2 : Int), n < 512 → Rel n σd σm → InR a1 → InR a2 → ∃ (q : Int) (q' : Int × Sg), f_X9_part a1 a2 σd = some q ∧ f_X10_part a1 a2 σm = some q' ∧ w32 q = w32 q'.1 ∧ Rel (n + 1) σd q'.2
def Eq_second (Rel : Nat → Sg → Sg → Prop) : Prop := ∀ (n : Nat) (σd σm : Sg) (a1 : Int), n < 512 → Rel n σd σm → InR a1 → ∃ (q : Int) (q' : Int × Sg), f_X9_second a1 σd = some q ∧ f_X10_second a1 σm = some q' ∧ w32 q = w32 q'.1 ∧ Rel (n + 1) σd q'.2
def Eq_chains (Rel : Nat → Sg → Sg → Prop) : Prop := ∀ (n : Nat) (σd σm : Sg) (a1 : Int) (a2 : Int) (a3 : Int), n < 512 → Rel n σd σm → InR a1 → InR a2 → InR a3 → ∃ (q : Int) (q' : Int × Sg), f_X9_chains a1 a2 a3 σd = some q ∧ f_X10_chains a1 a2 a3 σm = some q' ∧ w32 q = w32 q'.1 ∧ Rel (n + 1) σd q'.2
def Eq_tightest (Rel : Nat → Sg → Sg → Prop) : Prop := ∀ (n : Nat) (σd σm : Sg), n < 512 → Rel n σd σm → ∃ (q : Int) (q' : Int × Sg), f_X9_tightest σd = some q ∧ f_X10_tightest σm = some q' ∧ w32 q = w32 q'.1 ∧ Rel (n + 1) σd q'.2
def Eq_together (Rel : Nat → Sg → Sg → Prop) : Prop := ∀ (n : Nat) (σd σm : Sg) (a1 : Int) (a2 : Int) (a3 : Int), n < 512 → Rel n σd σm → InR a1 → InR a2 → InR a3 → ∃ (q : Int) (q' : Int × Sg), f_X9_together a1 a2 a3 σd = some q ∧ f_X10_together a1 a2 a3 σm = some q' ∧ w32 q = w32 q'.1 ∧ Rel (n + 1) σd q'.2
def Eq_heaviest (Rel : Nat → Sg → Sg → Prop) : Prop := ∀ (n : Nat) (σd σm : Sg) (a1 : Int) (a2 : Int), n < 512 → Rel n σd σm → InR a1 → InR a2 → ∃ (q : Int × Sg) (q' : Int × Sg), f_X9_heaviest a1 a2 σd = some q ∧ f_X10_heaviest a1 a2 σm = some q' ∧ w32 q.1 = w32 q'.1 ∧ Rel (n + 1) q.2 q'.2
def Eq_heaviestSet (Rel : Nat → Sg → Sg → Prop) : Prop := ∀ (n : Nat) (σd σm : Sg) (a1 : Int) (a2 : Int), n < 512 → Rel n σd σm → InR a1 → InR a2 → ∃ (q : Int × Sg) (q' : Int × Sg), f_X9_heaviestSet a1 a2 σd = some q ∧ f_X10_heaviestSet a1 a2 σm = some q' ∧ w32 q.1 = w32 q'.1 ∧ Rel (n + 1) q.2 q'.2
def Eq_two (Rel : Nat → Sg → Sg → Prop) : Prop := ∀ (n : Nat) (σd σm : Sg) (a1 : Int) (a2 : Int) (a3 : Int), n < 512 → Rel n σd σm → InR a1 → InR a2 → InR a3 → ∃ (q : Int × Sg) (q' : Int × Sg), f_X9_two a1 a2 a3 σd = some q ∧ f_X10_two a1 a2 a3 σm = some q' ∧ w32 q.1 = w32 q'.1 ∧ Rel (n + 1) q.2 q'.2
def Eq_cover (Rel : Nat → Sg → Sg → Prop) : Prop := ∀ (n : Nat) (σd σm : Sg) (a1 : Int) (a2 : Int), n < 512 → Rel n σd σm → InR a1 → InR a2 → ∃ (q : Int × Sg) (q' : Int × Sg), f_X9_cover a1 a2 σd = some q ∧ f_X10_cover a1 a2 σm = some q' ∧ w32 q.1 = w32 q'.1 ∧ Rel (n + 1) q.2 q'.2
def Eq_square (Rel : Nat → Sg → Sg → Prop) : Prop := ∀ (n : Nat) (σd σm : Sg) (a1 : Int) (a2 : Int) (a3 : Int), n < 512 → Rel n σd σm → InR a1 → InR a2 → InR a3 → ∃ (q : Int) (q' : Int × Sg), f_X9_square a1 a2 a3 σd = some q ∧ f_X10_square a1 a2 a3 σm = some q' ∧ w32 q = w32 q'.1 ∧ Rel (n + 1) σd q'.2
def Eq_radiusFor (Rel : Nat → Sg → Sg → Prop) : Prop := ∀ (n : Nat) (σd σm : Sg) (a1 : Int) (a2 : Int), n < 512 → Rel n σd σm → InR a1 → InR a2 → ∃ (q : Int × Sg) (q' : Int × Sg), f_X9_radiusFor a1 a2 σd = some q ∧ f_X10_radiusFor a1 a2 σm = some q' ∧ w32 q.1 = w32 q'.1 ∧ Rel (n + 1) q.2 q'.2
def Eq_ifWritten (Rel : Nat → Sg → Sg → Prop) : Prop := ∀ (n : Nat) (σd σm : Sg) (a1 : Int) (a2 : Int) (a3 : Int) (a4 : Int) (a5 : Int), n < 512 → Rel n σd σm → InR a1 → InR a2 → InR a3 → InR a4 → InR a5 → ∃ (q : Int × Sg) (q' : Int × Sg), f_X9_ifWritten a1 a2 a3 a4 a5 σd = some q ∧ f_X10_ifWritten a1 a2 a3 a4 a5 σm = some q' ∧ w32 q.1 = w32 q'.1 ∧ Rel (n + 1) q.2 q'.2
def Eq_about (Rel : Nat → Sg → Sg → Prop) : Prop := ∀ (n : Nat) (σd σm : Sg) (a1 : Int) (a2 : Int) (a3 : Int), n < 512 → Rel n σd σm → InR a1 → InR a2 → InR a3 → ∃ (q : Int × Sg) (q' : Int × Sg), f_X9_about a1 a2 a3 σd = some q ∧ f_X10_about a1 a2 a3 σm = some q' ∧ w32 q.1 = w32 q'.1 ∧ Rel (n + 1) q.2 q'.2
def Eq_most (Rel : Nat → Sg → Sg → Prop) : Prop := ∀ (n : Nat) (σd σm : Sg) (a1 : Int) (a2 : Int) (a3 : Int), n < 512 → Rel n σd σm → InR a1 → InR a2 → InR a3 → ∃ (q : Int × Sg) (q' : Int × Sg), f_X9_most a1 a2 a3 σd = some q ∧ f_X10_most a1 a2 a3 σm = some q' ∧ w32 q.1 = w32 q'.1 ∧ Rel (n + 1) q.2 q'.2
def Eq_places (Rel : Nat → Sg → Sg → Prop) : Prop := ∀ (n : Nat) (σd σm : Sg) (a1 : Int) (a2 : Int), n < 512 → Rel n σd σm → InR a1 → InR a2 → ∃ (q : Int × Sg) (q' : Int × Sg), f_X9_places a1 a2 σd = some q ∧ f_X10_places a1 a2 σm = some q' ∧ w32 q.1 = w32 q'.1 ∧ Rel (n + 1) q.2 q'.2
def Eq_relief (Rel : Nat → Sg → Sg → Prop) : Prop := ∀ (n : Nat) (σd σm : Sg) (a1 : Int) (a2 : Int), n < 512 → Rel n σd σm → InR a1 → InR a2 → ∃ (q : Int) (q' : Int × Sg), f_X9_relief a1 a2 σd = some q ∧ f_X10_relief a1 a2 σm = some q' ∧ w32 q = w32 q'.1 ∧ Rel (n + 1) σd q'.2
def Eq_fewest (Rel : Nat → Sg → Sg → Prop) : Prop := ∀ (n : Nat) (σd σm : Sg) (a1 : Int), n < 512 → Rel n σd σm → InR a1 → ∃ (q : Int) (q' : Int × Sg), f_X9_fewest a1 σd = some q ∧ f_X10_fewest a1 σm = some q' ∧ w32 q = w32 q'.1 ∧ Rel (n + 1) σd q'.2
def Eq_nearest (Rel : Nat → Sg → Sg → Prop) : Prop := ∀ (n : Nat) (σd σm : Sg) (a1 : Int), n < 512 → Rel n σd σm → InR a1 → ∃ (q : Int) (q' : Int × Sg), f_X9_nearest a1 σd = some q ∧ f_X10_nearest a1 σm = some q' ∧ w32 q = w32 q'.1 ∧ Rel (n + 1) σd q'.2
def Eq_couples (Rel : Nat → Sg → Sg → Prop) : Prop := ∀ (n : Nat) (σd σm : Sg) (a1 : Int), n < 512 → Rel n σd σm → InR a1 → ∃ (q : Int) (q' : Int × Sg), f_X9_couples a1 σd = some q ∧ f_X10_couples a1 σm = some q' ∧ w32 q = w32 q'.1 ∧ Rel (n + 1) σd q'.2
def Eq_along (Rel : Nat → Sg → Sg → Prop) : Prop := ∀ (n : Nat) (σd σm : Sg) (a1 : Int) (a2 : Int) (a3 : Int) (a4 : Int) (a5 : Int) (a6 : Int), n < 512 → Rel n σd σm → InR a1 → InR a2 → InR a3 → InR a4 → InR a5 → InR a6 → ∃ (q : Int × Sg) (q' : Int × Sg), f_X9_along a1 a2 a3 a4 a5 a6 σd = some q ∧ f_X10_along a1 a2 a3 a4 a5 a6 σm = some q' ∧ w32 q.1 = w32 q'.1 ∧ Rel (n + 1) q.2 q'.2
def Eq_storm (Rel : Nat → Sg → Sg → Prop) : Prop := ∀ (n : Nat) (σd σm : Sg) (a1 : Int) (a2 : Int) (a3 : Int) (a4 : Int) (a5 : Int) (a6 : Int), n < 512 → Rel n σd σm → InR a1 → InR a2 → InR a3 → InR a4 → InR a5 → InR a6 → ∃ (q : Int × Sg) (q' : Int × Sg), f_X9_storm a1 a2 a3 a4 a5 a6 σd = some q ∧ f_X10_storm a1 a2 a3 a4 a5 a6 σm = some q' ∧ w32 q.1 = w32 q'.1 ∧ Rel (n + 1) q.2 q'.2
def Eq_hit (Rel : Nat → Sg → Sg → Prop) : Prop := ∀ (n : Nat) (σd σm : Sg) (a1 : Int), n < 512 → Rel n σd σm → InR a1 → ∃ (q : Int) (q' : Int × Sg), f_X9_hit a1 σd = some q ∧ f_X10_hit a1 σm = some q' ∧ w32 q = w32 q'.1 ∧ Rel (n + 1) σd q'.2
def Eq_pays (Rel : Nat → Sg → Sg → Prop) : Prop := ∀ (n : Nat) (σd σm : Sg) (a1 : Int), n < 512 → Rel n σd σm → InR a1 → ∃ (q : Int) (q' : Int × Sg), f_X9_pays a1 σd = some q ∧ f_X10_pays a1 σm = some q' ∧ w32 q = w32 q'.1 ∧ Rel (n + 1) σd q'.2
def Eq_drawn (Rel : Nat → Sg → Sg → Prop) : Prop := ∀ (n : Nat) (σd σm : Sg) (a1 : Int) (a2 : Int) (a3 : Int) (a4 : Int), n < 512 → Rel n σd σm → InR a1 → InR a2 → InR a3 → InR a4 → ∃ (q : Int) (q' : Int × Sg), f_X9_drawn a1 a2 a3 a4 σd = some q ∧ f_X10_drawn a1 a2 a3 a4 σm = some q' ∧ w32 q = w32 q'.1 ∧ Rel (n + 1) σd q'.2
def Eq_alarm (Rel : Nat → Sg → Sg → Prop) : Prop := ∀ (n : Nat) (σd σm : Sg) (a1 : Int) (a2 : Int), n < 512 → Rel n σd σm → InR a1 → InR a2 → ∃ (q : Int) (q' : Int × Sg), f_X9_alarm a1 a2 σd = some q ∧ f_X10_alarm a1 a2 σm = some q' ∧ w32 q = w32 q'.1 ∧ Rel (n + 1) σd q'.2
def Eq_act (Rel : Nat → Sg → Sg → Prop) : Prop := ∀ (n : Nat) (σd σm : Sg) (a1 : Int) (a2 : Int), n < 512 → Rel n σd σm → InR a1 → InR a2 → ∃ (q : Int) (q' : Int × Sg), f_X9_act a1 a2 σd = some q ∧ f_X10_act a1 a2 σm = some q' ∧ w32 q = w32 q'.1 ∧ Rel (n + 1) σd q'.2
def Eq_count (Rel : Nat → Sg → Sg → Prop) : Prop := ∀ (n : Nat) (σd σm : Sg) (a1 : Int), n < 512 → Rel n σd σm → InR a1 → ∃ (q : Int) (q' : Int × Sg), f_X9_count a1 σd = some q ∧ f_X10_count a1 σm = some q' ∧ w32 q = w32 q'.1 ∧ Rel (n + 1) σd q'.2
section LAWC
variable {p : Program} {l : Launch} {e : Env} {s : State} {m : MethodId} {below : List Frame} {meth : Method} {c : Code} {H : Heap} {locs : List Loc} {cells slots : Nat} {Q : State → Prop} {pc : Nat} {ls : Array Slot} {rest : List Value} {G : Gd} {σd σm : Sg} {bA L : Nat} {xs : Nat → Int32} {own : String} {cc : ByteArray} {nL : Nat} {b : Bool} {τ σ : Sg} {R : Room} {args : Array Value}
theorem law_sld (C : Cx p s m args c own cc nL) (S : St G b τ σ s H locs) (hX : va_X bA L xs s s.heap) (hbl : bA < s.heap.size) (hbA : ¬ AG G bA) (hL : L ≤ 3584) {i : Int} (hi : 0 ≤ i ∧ i < (L : Int)) (hdg : decode cc pc = .ok (.iaload, 1))
    (kk : W p l e R s m args below meth c H locs cells slots Q (F0 m (pc + 1) ls (.int (oI (sc xs i)) :: rest))) : W p l e R s m args below meth c H locs cells slots Q (F0 m pc ls (.int (oI i) :: .ref bA :: rest)) := by
  obtain ⟨h1, h2⟩ := ix_ok (n := L) (by omega) hi
  refine va_sld C.1 C.2.1 hX hbl hbA S.2.1 h1 hdg ?_
  rw [h2, ← Int32.ofInt_toInt (xs i.toNat)]
  exact kk
theorem r_tabInG (C : Cx p s m args c own cc nL) {dflt lo hi : Int} {offs : Array Int} {len : Nat} {x v : Int} {off : Int} {tgt : Nat} (hdg : decode cc pc = .ok (.tableswitch dflt lo hi offs, len)) (hx : w32 x = v) (h1 : ¬ v < lo) (h2 : ¬ hi < v) (ho : offs[(v - lo).toNat]? = some off) (ht : (pc : Int) + off = (tgt : Int)) (k : W p l e R s m args below meth c H locs cells slots Q (F0 m tgt ls rest)) : W p l e R s m args below meth c H locs cells slots Q (F0 m pc ls (.int (oI x) :: rest)) := by
  have e : (oI x).toInt = v := hx
  exact lv_tableIn C.1 C.2.1 hdg (by rw [e]; exact h1) (by rw [e]; exact h2) (by rw [e]; exact ho) ht k
theorem lw_case_feed {Rel : Nat → Sg → Sg → Prop} {n : Nat} {i : Int} (C : Cx p s m #[.ref bA] c RL cL_law 7) (S : St G true σm σd s H locs) (E : Eq_feed Rel) (hn : n < 512) (hR : Rel n σd σm) (hc : cells + 0 ≤ room_1.cells ∧ slots + 0 ≤ room_1.slots) (hi : 0 ≤ i ∧ i + 7 ≤ (L : Int)) (hX : va_X bA L xs s s.heap) (hbl : bA < s.heap.size) (hbA : ¬ AG G bA) (hL : L ≤ 3584) (hl : lv_has ls 7 [(0, .ref bA), (1, .ref (G.1 0)), (2, .ref (G.1 41)), (3, .ref (G.1 60)), (4, .int (oI i))])
    (hk : ∀ H locs (σd σm : Sg), St G true σm σd s H locs → Rel (n + 1) σd σm → W p l e room_1 s m #[.ref bA] below meth c H locs cells slots Q (F0 m 2011 ls [])) : W p l e room_1 s m #[.ref bA] below meth c H locs cells slots Q (F0 m 228 ls []) := by
  obtain ⟨q, q', hd, hm, he, hR'⟩ := E n σd σm (sc xs (i + 1)) (sc xs (i + 2)) (sc xs (i + 3)) (sc xs (i + 4)) (sc xs (i + 5)) hn hR (sc_in xs (i + 1)) (sc_in xs (i + 2)) (sc_in xs (i + 3)) (sc_in xs (i + 4)) (sc_in xs (i + 5))
  refine lv_aload_n C.1 C.2.1 dL_law_228 rfl (lv_at hl 1 rfl) ?_
  refine lv_aload_n C.1 C.2.1 dL_law_229 rfl (lv_at hl 0 rfl) ?_
  refine lv_iload C.1 C.2.1 dL_law_230 (lv_at hl 4 rfl) ?_
  refine r_iconst C dL_law_232 ?_
  refine r_iadd C dL_law_233 ?_
  refine law_sld C S hX hbl hbA hL (i := i + 1) (by omega) dL_law_234 ?_
  refine lv_aload_n C.1 C.2.1 dL_law_235 rfl (lv_at hl 0 rfl) ?_
  refine lv_iload C.1 C.2.1 dL_law_236 (lv_at hl 4 rfl) ?_
  refine r_iconst C dL_law_238 ?_
  refine r_iadd C dL_law_239 ?_
  refine law_sld C S hX hbl hbA hL (i := i + 2) (by omega) dL_law_240 ?_
  refine lv_aload_n C.1 C.2.1 dL_law_241 rfl (lv_at hl 0 rfl) ?_
  refine lv_iload C.1 C.2.1 dL_law_242 (lv_at hl 4 rfl) ?_
  refine r_iconst C dL_law_244 ?_
  refine r_iadd C dL_law_245 ?_
  refine law_sld C S hX hbl hbA hL (i := i + 3) (by omega) dL_law_246 ?_
  refine lv_aload_n C.1 C.2.1 dL_law_247 rfl (lv_at hl 0 rfl) ?_
  refine lv_iload C.1 C.2.1 dL_law_248 (lv_at hl 4 rfl) ?_
  refine r_iconst C dL_law_250 ?_
  refine r_iadd C dL_law_251 ?_
  refine law_sld C S hX hbl hbA hL (i := i + 4) (by omega) dL_law_252 ?_
  refine lv_aload_n C.1 C.2.1 dL_law_253 rfl (lv_at hl 0 rfl) ?_
  refine lv_iload C.1 C.2.1 dL_law_254 (lv_at hl 4 rfl) ?_
  refine r_iconst C dL_law_256 ?_
  refine r_iadd C dL_law_257 ?_
  refine law_sld C S hX hbl hbA hL (i := i + 5) (by omega) dL_law_258 ?_
  refine r_callVv C S (As := [.int (oI (sc xs (i + 1))), .int (oI (sc xs (i + 2))), .int (oI (sc xs (i + 3))), .int (oI (sc xs (i + 4))), .int (oI (sc xs (i + 5)))]) (rest := []) (ct_X9_feed l G σm hd) mi_X9_feed tw_314 mv_X9_feed (rvX9 S) ⟨rfl, rfl⟩ ⟨Nat.le_of_ble_eq_true rfl, Nat.le_of_ble_eq_true rfl⟩ hc rfl hl.1 rfl (Nat.le_of_ble_eq_true rfl) dL_law_259 (fun H locs S => ?_)
  have S := S.sw
  refine lv_aload_n C.1 C.2.1 dL_law_262 rfl (lv_at hl 2 rfl) ?_
  refine lv_aload_n C.1 C.2.1 dL_law_263 rfl (lv_at hl 0 rfl) ?_
  refine lv_iload C.1 C.2.1 dL_law_264 (lv_at hl 4 rfl) ?_
  refine r_iconst C dL_law_266 ?_
  refine r_iadd C dL_law_267 ?_
  refine law_sld C S hX hbl hbA hL (i := i + 1) (by omega) dL_law_268 ?_
  refine lv_aload_n C.1 C.2.1 dL_law_269 rfl (lv_at hl 0 rfl) ?_
  refine lv_iload C.1 C.2.1 dL_law_270 (lv_at hl 4 rfl) ?_
  refine r_iconst C dL_law_272 ?_
  refine r_iadd C dL_law_273 ?_
  refine law_sld C S hX hbl hbA hL (i := i + 2) (by omega) dL_law_274 ?_
  refine lv_aload_n C.1 C.2.1 dL_law_275 rfl (lv_at hl 0 rfl) ?_
  refine lv_iload C.1 C.2.1 dL_law_276 (lv_at hl 4 rfl) ?_
  refine r_iconst C dL_law_278 ?_
  refine r_iadd C dL_law_279 ?_
  refine law_sld C S hX hbl hbA hL (i := i + 3) (by omega) dL_law_280 ?_
  refine lv_aload_n C.1 C.2.1 dL_law_281 rfl (lv_at hl 0 rfl) ?_
  refine lv_iload C.1 C.2.1 dL_law_282 (lv_at hl 4 rfl) ?_
  refine r_iconst C dL_law_284 ?_
  refine r_iadd C dL_law_285 ?_
  refine law_sld C S hX hbl hbA hL (i := i + 4) (by omega) dL_law_286 ?_
  refine lv_aload_n C.1 C.2.1 dL_law_287 rfl (lv_at hl 0 rfl) ?_
  refine lv_iload C.1 C.2.1 dL_law_288 (lv_at hl 4 rfl) ?_
  refine r_iconst C dL_law_290 ?_
  refine r_iadd C dL_law_291 ?_
  refine law_sld C S hX hbl hbA hL (i := i + 5) (by omega) dL_law_292 ?_
  refine r_callVv C S (As := [.int (oI (sc xs (i + 1))), .int (oI (sc xs (i + 2))), .int (oI (sc xs (i + 3))), .int (oI (sc xs (i + 4))), .int (oI (sc xs (i + 5)))]) (rest := [.int (oI q.1)]) (ct_X10_feed l G q.2 hm) mi_X10_feed tw_1194 mv_X10_feed (rvX10 S) ⟨rfl, rfl⟩ ⟨Nat.le_of_ble_eq_true rfl, Nat.le_of_ble_eq_true rfl⟩ hc rfl hl.1 rfl (Nat.le_of_ble_eq_true rfl) dL_law_293 (fun H locs S => ?_)
  have S := S.ws
  refine r_icmp_eq C rfl rfl (tgt := 2011) dL_law_296 (by decide) (fun _ => ?_) (fun h9 => absurd he h9)
  exact hk _ _ _ _ S hR'
theorem lw_case_text {Rel : Nat → Sg → Sg → Prop} {n : Nat} {i : Int} (C : Cx p s m #[.ref bA] c RL cL_law 7) (S : St G true σm σd s H locs) (E : Eq_text Rel) (hn : n < 512) (hR : Rel n σd σm) (hc : cells + 0 ≤ room_1.cells ∧ slots + 0 ≤ room_1.slots) (hi : 0 ≤ i ∧ i + 7 ≤ (L : Int)) (hX : va_X bA L xs s s.heap) (hbl : bA < s.heap.size) (hbA : ¬ AG G bA) (hL : L ≤ 3584) (hl : lv_has ls 7 [(0, .ref bA), (1, .ref (G.1 0)), (2, .ref (G.1 41)), (3, .ref (G.1 60)), (4, .int (oI i))])
    (hk : ∀ H locs (σd σm : Sg), St G true σm σd s H locs → Rel (n + 1) σd σm → W p l e room_1 s m #[.ref bA] below meth c H locs cells slots Q (F0 m 2011 ls [])) : W p l e room_1 s m #[.ref bA] below meth c H locs cells slots Q (F0 m 301 ls []) := by
  obtain ⟨q, q', hd, hm, he, hR'⟩ := E n σd σm (sc xs (i + 1)) hn hR (sc_in xs (i + 1))
  refine lv_aload_n C.1 C.2.1 dL_law_301 rfl (lv_at hl 1 rfl) ?_
  refine lv_aload_n C.1 C.2.1 dL_law_302 rfl (lv_at hl 0 rfl) ?_
  refine lv_iload C.1 C.2.1 dL_law_303 (lv_at hl 4 rfl) ?_
  refine r_iconst C dL_law_305 ?_
  refine r_iadd C dL_law_306 ?_
  refine law_sld C S hX hbl hbA hL (i := i + 1) (by omega) dL_law_307 ?_
  refine r_callVv C S (As := [.int (oI (sc xs (i + 1)))]) (rest := []) (ct_X9_text l G σm hd) mi_X9_text tw_322 mv_X9_text (rvX9 S) ⟨rfl, rfl⟩ ⟨Nat.le_of_ble_eq_true rfl, Nat.le_of_ble_eq_true rfl⟩ hc rfl hl.1 rfl (Nat.le_of_ble_eq_true rfl) dL_law_308 (fun H locs S => ?_)
  have S := S.sw
  refine lv_aload_n C.1 C.2.1 dL_law_311 rfl (lv_at hl 2 rfl) ?_
  refine lv_aload_n C.1 C.2.1 dL_law_312 rfl (lv_at hl 0 rfl) ?_
  refine lv_iload C.1 C.2.1 dL_law_313 (lv_at hl 4 rfl) ?_
  refine r_iconst C dL_law_315 ?_
  refine r_iadd C dL_law_316 ?_
  refine law_sld C S hX hbl hbA hL (i := i + 1) (by omega) dL_law_317 ?_
  refine r_callVv C S (As := [.int (oI (sc xs (i + 1)))]) (rest := [.int (oI q.1)]) (ct_X10_text l G q.2 hm) mi_X10_text tw_1198 mv_X10_text (rvX10 S) ⟨rfl, rfl⟩ ⟨Nat.le_of_ble_eq_true rfl, Nat.le_of_ble_eq_true rfl⟩ hc rfl hl.1 rfl (Nat.le_of_ble_eq_true rfl) dL_law_318 (fun H locs S => ?_)
  have S := S.ws
  refine r_icmp_eq C rfl rfl (tgt := 2011) dL_law_321 (by decide) (fun _ => ?_) (fun h9 => absurd he h9)
  exact hk _ _ _ _ S hR'
theorem lw_case_fault {Rel : Nat → Sg → Sg → Prop} {n : Nat} {i : Int} (C : Cx p s m #[.ref bA] c RL cL_law 7) (S : St G true σm σd s H locs) (E : Eq_fault Rel) (hn : n < 512) (hR : Rel n σd σm) (hc : cells + 0 ≤ room_1.cells ∧ slots + 0 ≤ room_1.slots) (hi : 0 ≤ i ∧ i + 7 ≤ (L : Int)) (hX : va_X bA L xs s s.heap) (hbl : bA < s.heap.size) (hbA : ¬ AG G bA) (hL : L ≤ 3584) (hl : lv_has ls 7 [(0, .ref bA), (1, .ref (G.1 0)), (2, .ref (G.1 41)), (3, .ref (G.1 60)), (4, .int (oI i))])
    (hk : ∀ H locs (σd σm : Sg), St G true σm σd s H locs → Rel (n + 1) σd σm → W p l e room_1 s m #[.ref bA] below meth c H locs cells slots Q (F0 m 2011 ls [])) : W p l e room_1 s m #[.ref bA] below meth c H locs cells slots Q (F0 m 326 ls []) := by
  obtain ⟨q, q', hd, hm, he, hR'⟩ := E n σd σm (sc xs (i + 1)) hn hR (sc_in xs (i + 1))
  refine lv_aload_n C.1 C.2.1 dL_law_326 rfl (lv_at hl 1 rfl) ?_
  refine lv_aload_n C.1 C.2.1 dL_law_327 rfl (lv_at hl 0 rfl) ?_
  refine lv_iload C.1 C.2.1 dL_law_328 (lv_at hl 4 rfl) ?_
  refine r_iconst C dL_law_330 ?_
  refine r_iadd C dL_law_331 ?_
  refine law_sld C S hX hbl hbA hL (i := i + 1) (by omega) dL_law_332 ?_
  refine r_callVv C S (As := [.int (oI (sc xs (i + 1)))]) (rest := []) (ct_X9_fault l G σm hd) mi_X9_fault tw_541 mv_X9_fault (rvX9 S) ⟨rfl, rfl⟩ ⟨Nat.le_of_ble_eq_true rfl, Nat.le_of_ble_eq_true rfl⟩ hc rfl hl.1 rfl (Nat.le_of_ble_eq_true rfl) dL_law_333 (fun H locs S => ?_)
  have S := S.sw
  refine lv_aload_n C.1 C.2.1 dL_law_336 rfl (lv_at hl 2 rfl) ?_
  refine lv_aload_n C.1 C.2.1 dL_law_337 rfl (lv_at hl 0 rfl) ?_
  refine lv_iload C.1 C.2.1 dL_law_338 (lv_at hl 4 rfl) ?_
  refine r_iconst C dL_law_340 ?_
  refine r_iadd C dL_law_341 ?_
  refine law_sld C S hX hbl hbA hL (i := i + 1) (by omega) dL_law_342 ?_
  refine r_callVv C S (As := [.int (oI (sc xs (i + 1)))]) (rest := [.int (oI q)]) (ct_X10_fault l G σd hm) mi_X10_fault tw_1322 mv_X10_fault (rvX10 S) ⟨rfl, rfl⟩ ⟨Nat.le_of_ble_eq_true rfl, Nat.le_of_ble_eq_true rfl⟩ hc rfl hl.1 rfl (Nat.le_of_ble_eq_true rfl) dL_law_343 (fun H locs S => ?_)
  have S := S.ws
  refine r_icmp_eq C rfl rfl (tgt := 2011) dL_law_346 (by decide) (fun _ => ?_) (fun h9 => absurd he h9)
  exact hk _ _ _ _ S hR'
theorem lw_case_write {Rel : Nat → Sg → Sg → Prop} {n : Nat} {i : Int} (C : Cx p s m #[.ref bA] c RL cL_law 7) (S : St G true σm σd s H locs) (E : Eq_write Rel) (hn : n < 512) (hR : Rel n σd σm) (hc : cells + 0 ≤ room_1.cells ∧ slots + 0 ≤ room_1.slots) (hi : 0 ≤ i ∧ i + 7 ≤ (L : Int)) (hX : va_X bA L xs s s.heap) (hbl : bA < s.heap.size) (hbA : ¬ AG G bA) (hL : L ≤ 3584) (hl : lv_has ls 7 [(0, .ref bA), (1, .ref (G.1 0)), (2, .ref (G.1 41)), (3, .ref (G.1 60)), (4, .int (oI i))])
    (hk : ∀ H locs (σd σm : Sg), St G true σm σd s H locs → Rel (n + 1) σd σm → W p l e room_1 s m #[.ref bA] below meth c H locs cells slots Q (F0 m 2011 ls [])) : W p l e room_1 s m #[.ref bA] below meth c H locs cells slots Q (F0 m 351 ls []) := by
  obtain ⟨q, q', hd, hm, he, hR'⟩ := E n σd σm (sc xs (i + 1)) (sc xs (i + 2)) (sc xs (i + 3)) (sc xs (i + 4)) hn hR (sc_in xs (i + 1)) (sc_in xs (i + 2)) (sc_in xs (i + 3)) (sc_in xs (i + 4))
  refine lv_aload_n C.1 C.2.1 dL_law_351 rfl (lv_at hl 1 rfl) ?_
  refine lv_aload_n C.1 C.2.1 dL_law_352 rfl (lv_at hl 0 rfl) ?_
  refine lv_iload C.1 C.2.1 dL_law_353 (lv_at hl 4 rfl) ?_
  refine r_iconst C dL_law_355 ?_
  refine r_iadd C dL_law_356 ?_
  refine law_sld C S hX hbl hbA hL (i := i + 1) (by omega) dL_law_357 ?_
  refine lv_aload_n C.1 C.2.1 dL_law_358 rfl (lv_at hl 0 rfl) ?_
  refine lv_iload C.1 C.2.1 dL_law_359 (lv_at hl 4 rfl) ?_
  refine r_iconst C dL_law_361 ?_
  refine r_iadd C dL_law_362 ?_
  refine law_sld C S hX hbl hbA hL (i := i + 2) (by omega) dL_law_363 ?_
  refine lv_aload_n C.1 C.2.1 dL_law_364 rfl (lv_at hl 0 rfl) ?_
  refine lv_iload C.1 C.2.1 dL_law_365 (lv_at hl 4 rfl) ?_
  refine r_iconst C dL_law_367 ?_
  refine r_iadd C dL_law_368 ?_
  refine law_sld C S hX hbl hbA hL (i := i + 3) (by omega) dL_law_369 ?_
  refine lv_aload_n C.1 C.2.1 dL_law_370 rfl (lv_at hl 0 rfl) ?_
  refine lv_iload C.1 C.2.1 dL_law_371 (lv_at hl 4 rfl) ?_
  refine r_iconst C dL_law_373 ?_
  refine r_iadd C dL_law_374 ?_
  refine law_sld C S hX hbl hbA hL (i := i + 4) (by omega) dL_law_375 ?_
  refine r_callVv C S (As := [.int (oI (sc xs (i + 1))), .int (oI (sc xs (i + 2))), .int (oI (sc xs (i + 3))), .int (oI (sc xs (i + 4)))]) (rest := []) (ct_X9_write l G σm hd) mi_X9_write tw_545 mv_X9_write (rvX9 S) ⟨rfl, rfl⟩ ⟨Nat.le_of_ble_eq_true rfl, Nat.le_of_ble_eq_true rfl⟩ hc rfl hl.1 rfl (Nat.le_of_ble_eq_true rfl) dL_law_376 (fun H locs S => ?_)
  have S := S.sw
  refine lv_aload_n C.1 C.2.1 dL_law_379 rfl (lv_at hl 2 rfl) ?_
  refine lv_aload_n C.1 C.2.1 dL_law_380 rfl (lv_at hl 0 rfl) ?_
  refine lv_iload C.1 C.2.1 dL_law_381 (lv_at hl 4 rfl) ?_
  refine r_iconst C dL_law_383 ?_
  refine r_iadd C dL_law_384 ?_
  refine law_sld C S hX hbl hbA hL (i := i + 1) (by omega) dL_law_385 ?_
  refine lv_aload_n C.1 C.2.1 dL_law_386 rfl (lv_at hl 0 rfl) ?_
  refine lv_iload C.1 C.2.1 dL_law_387 (lv_at hl 4 rfl) ?_
  refine r_iconst C dL_law_389 ?_
  refine r_iadd C dL_law_390 ?_
  refine law_sld C S hX hbl hbA hL (i := i + 2) (by omega) dL_law_391 ?_
  refine lv_aload_n C.1 C.2.1 dL_law_392 rfl (lv_at hl 0 rfl) ?_
  refine lv_iload C.1 C.2.1 dL_law_393 (lv_at hl 4 rfl) ?_
  refine r_iconst C dL_law_395 ?_
  refine r_iadd C dL_law_396 ?_
  refine law_sld C S hX hbl hbA hL (i := i + 3) (by omega) dL_law_397 ?_
  refine lv_aload_n C.1 C.2.1 dL_law_398 rfl (lv_at hl 0 rfl) ?_
  refine lv_iload C.1 C.2.1 dL_law_399 (lv_at hl 4 rfl) ?_
  refine r_iconst C dL_law_401 ?_
  refine r_iadd C dL_law_402 ?_
  refine law_sld C S hX hbl hbA hL (i := i + 4) (by omega) dL_law_403 ?_
  refine r_callVv C S (As := [.int (oI (sc xs (i + 1))), .int (oI (sc xs (i + 2))), .int (oI (sc xs (i + 3))), .int (oI (sc xs (i + 4)))]) (rest := [.int (oI q.1)]) (ct_X10_write l G q.2 hm) mi_X10_write tw_1326 mv_X10_write (rvX10 S) ⟨rfl, rfl⟩ ⟨Nat.le_of_ble_eq_true rfl, Nat.le_of_ble_eq_true rfl⟩ hc rfl hl.1 rfl (Nat.le_of_ble_eq_true rfl) dL_law_404 (fun H locs S => ?_)
  have S := S.ws
  refine r_icmp_eq C rfl rfl (tgt := 2011) dL_law_407 (by decide) (fun _ => ?_) (fun h9 => absurd he h9)
  exact hk _ _ _ _ S hR'
theorem lw_case_move {Rel : Nat → Sg → Sg → Prop} {n : Nat} {i : Int} (C : Cx p s m #[.ref bA] c RL cL_law 7) (S : St G true σm σd s H locs) (E : Eq_move Rel) (hn : n < 512) (hR : Rel n σd σm) (hc : cells + 0 ≤ room_1.cells ∧ slots + 0 ≤ room_1.slots) (hi : 0 ≤ i ∧ i + 7 ≤ (L : Int)) (hX : va_X bA L xs s s.heap) (hbl : bA < s.heap.size) (hbA : ¬ AG G bA) (hL : L ≤ 3584) (hl : lv_has ls 7 [(0, .ref bA), (1, .ref (G.1 0)), (2, .ref (G.1 41)), (3, .ref (G.1 60)), (4, .int (oI i))])
    (hk : ∀ H locs (σd σm : Sg), St G true σm σd s H locs → Rel (n + 1) σd σm → W p l e room_1 s m #[.ref bA] below meth c H locs cells slots Q (F0 m 2011 ls [])) : W p l e room_1 s m #[.ref bA] below meth c H locs cells slots Q (F0 m 412 ls []) := by
  obtain ⟨q, q', hd, hm, he, hR'⟩ := E n σd σm (sc xs (i + 1)) (sc xs (i + 2)) (sc xs (i + 3)) hn hR (sc_in xs (i + 1)) (sc_in xs (i + 2)) (sc_in xs (i + 3))
  refine lv_aload_n C.1 C.2.1 dL_law_412 rfl (lv_at hl 1 rfl) ?_
  refine lv_aload_n C.1 C.2.1 dL_law_413 rfl (lv_at hl 0 rfl) ?_
  refine lv_iload C.1 C.2.1 dL_law_414 (lv_at hl 4 rfl) ?_
  refine r_iconst C dL_law_416 ?_
  refine r_iadd C dL_law_417 ?_
  refine law_sld C S hX hbl hbA hL (i := i + 1) (by omega) dL_law_418 ?_
  refine lv_aload_n C.1 C.2.1 dL_law_419 rfl (lv_at hl 0 rfl) ?_
  refine lv_iload C.1 C.2.1 dL_law_420 (lv_at hl 4 rfl) ?_
  refine r_iconst C dL_law_422 ?_
  refine r_iadd C dL_law_423 ?_
  refine law_sld C S hX hbl hbA hL (i := i + 2) (by omega) dL_law_424 ?_
  refine lv_aload_n C.1 C.2.1 dL_law_425 rfl (lv_at hl 0 rfl) ?_
  refine lv_iload C.1 C.2.1 dL_law_426 (lv_at hl 4 rfl) ?_
  refine r_iconst C dL_law_428 ?_
  refine r_iadd C dL_law_429 ?_
  refine law_sld C S hX hbl hbA hL (i := i + 3) (by omega) dL_law_430 ?_
  refine r_callVv C S (As := [.int (oI (sc xs (i + 1))), .int (oI (sc xs (i + 2))), .int (oI (sc xs (i + 3)))]) (rest := []) (ct_X9_move l G σm hd) mi_X9_move tw_577 mv_X9_move (rvX9 S) ⟨rfl, rfl⟩ ⟨Nat.le_of_ble_eq_true rfl, Nat.le_of_ble_eq_true rfl⟩ hc rfl hl.1 rfl (Nat.le_of_ble_eq_true rfl) dL_law_431 (fun H locs S => ?_)
  have S := S.sw
  refine lv_aload_n C.1 C.2.1 dL_law_434 rfl (lv_at hl 2 rfl) ?_
  refine lv_aload_n C.1 C.2.1 dL_law_435 rfl (lv_at hl 0 rfl) ?_
  refine lv_iload C.1 C.2.1 dL_law_436 (lv_at hl 4 rfl) ?_
  refine r_iconst C dL_law_438 ?_
  refine r_iadd C dL_law_439 ?_
  refine law_sld C S hX hbl hbA hL (i := i + 1) (by omega) dL_law_440 ?_
  refine lv_aload_n C.1 C.2.1 dL_law_441 rfl (lv_at hl 0 rfl) ?_
  refine lv_iload C.1 C.2.1 dL_law_442 (lv_at hl 4 rfl) ?_
  refine r_iconst C dL_law_444 ?_
  refine r_iadd C dL_law_445 ?_
  refine law_sld C S hX hbl hbA hL (i := i + 2) (by omega) dL_law_446 ?_
  refine lv_aload_n C.1 C.2.1 dL_law_447 rfl (lv_at hl 0 rfl) ?_
  refine lv_iload C.1 C.2.1 dL_law_448 (lv_at hl 4 rfl) ?_
  refine r_iconst C dL_law_450 ?_
  refine r_iadd C dL_law_451 ?_
  refine law_sld C S hX hbl hbA hL (i := i + 3) (by omega) dL_law_452 ?_
  refine r_callVv C S (As := [.int (oI (sc xs (i + 1))), .int (oI (sc xs (i + 2))), .int (oI (sc xs (i + 3)))]) (rest := [.int (oI q.1)]) (ct_X10_move l G q.2 hm) mi_X10_move tw_1343 mv_X10_move (rvX10 S) ⟨rfl, rfl⟩ ⟨Nat.le_of_ble_eq_true rfl, Nat.le_of_ble_eq_true rfl⟩ hc rfl hl.1 rfl (Nat.le_of_ble_eq_true rfl) dL_law_453 (fun H locs S => ?_)
  have S := S.ws
  refine r_icmp_eq C rfl rfl (tgt := 2011) dL_law_456 (by decide) (fun _ => ?_) (fun h9 => absurd he h9)
  exact hk _ _ _ _ S hR'
theorem lw_case_change {Rel : Nat → Sg → Sg → Prop} {n : Nat} {i : Int} (C : Cx p s m #[.ref bA] c RL cL_law 7) (S : St G true σm σd s H locs) (E : Eq_change Rel) (hn : n < 512) (hR : Rel n σd σm) (hc : cells + 0 ≤ room_1.cells ∧ slots + 0 ≤ room_1.slots) (hi : 0 ≤ i ∧ i + 7 ≤ (L : Int)) (hX : va_X bA L xs s s.heap) (hbl : bA < s.heap.size) (hbA : ¬ AG G bA) (hL : L ≤ 3584) (hl : lv_has ls 7 [(0, .ref bA), (1, .ref (G.1 0)), (2, .ref (G.1 41)), (3, .ref (G.1 60)), (4, .int (oI i))])
    (hk : ∀ H locs (σd σm : Sg), St G true σm σd s H locs → Rel (n + 1) σd σm → W p l e room_1 s m #[.ref bA] below meth c H locs cells slots Q (F0 m 2011 ls [])) : W p l e room_1 s m #[.ref bA] below meth c H locs cells slots Q (F0 m 461 ls []) := by
  obtain ⟨q, q', hd, hm, he, hR'⟩ := E n σd σm (sc xs (i + 1)) (sc xs (i + 2)) hn hR (sc_in xs (i + 1)) (sc_in xs (i + 2))
  refine lv_aload_n C.1 C.2.1 dL_law_461 rfl (lv_at hl 1 rfl) ?_
  refine lv_aload_n C.1 C.2.1 dL_law_462 rfl (lv_at hl 0 rfl) ?_
  refine lv_iload C.1 C.2.1 dL_law_463 (lv_at hl 4 rfl) ?_
  refine r_iconst C dL_law_465 ?_
  refine r_iadd C dL_law_466 ?_
  refine law_sld C S hX hbl hbA hL (i := i + 1) (by omega) dL_law_467 ?_
  refine lv_aload_n C.1 C.2.1 dL_law_468 rfl (lv_at hl 0 rfl) ?_
  refine lv_iload C.1 C.2.1 dL_law_469 (lv_at hl 4 rfl) ?_
  refine r_iconst C dL_law_471 ?_
  refine r_iadd C dL_law_472 ?_
  refine law_sld C S hX hbl hbA hL (i := i + 2) (by omega) dL_law_473 ?_
  refine r_callVv C S (As := [.int (oI (sc xs (i + 1))), .int (oI (sc xs (i + 2)))]) (rest := []) (ct_X9_change l G σm hd) mi_X9_change tw_610 mv_X9_change (rvX9 S) ⟨rfl, rfl⟩ ⟨Nat.le_of_ble_eq_true rfl, Nat.le_of_ble_eq_true rfl⟩ hc rfl hl.1 rfl (Nat.le_of_ble_eq_true rfl) dL_law_474 (fun H locs S => ?_)
  have S := S.sw
  refine lv_aload_n C.1 C.2.1 dL_law_477 rfl (lv_at hl 2 rfl) ?_
  refine lv_aload_n C.1 C.2.1 dL_law_478 rfl (lv_at hl 0 rfl) ?_
  refine lv_iload C.1 C.2.1 dL_law_479 (lv_at hl 4 rfl) ?_
  refine r_iconst C dL_law_481 ?_
  refine r_iadd C dL_law_482 ?_
  refine law_sld C S hX hbl hbA hL (i := i + 1) (by omega) dL_law_483 ?_
  refine lv_aload_n C.1 C.2.1 dL_law_484 rfl (lv_at hl 0 rfl) ?_
  refine lv_iload C.1 C.2.1 dL_law_485 (lv_at hl 4 rfl) ?_
  refine r_iconst C dL_law_487 ?_
  refine r_iadd C dL_law_488 ?_
  refine law_sld C S hX hbl hbA hL (i := i + 2) (by omega) dL_law_489 ?_
  refine r_callVv C S (As := [.int (oI (sc xs (i + 1))), .int (oI (sc xs (i + 2)))]) (rest := [.int (oI q.1)]) (ct_X10_change l G q.2 hm) mi_X10_change tw_1351 mv_X10_change (rvX10 S) ⟨rfl, rfl⟩ ⟨Nat.le_of_ble_eq_true rfl, Nat.le_of_ble_eq_true rfl⟩ hc rfl hl.1 rfl (Nat.le_of_ble_eq_true rfl) dL_law_490 (fun H locs S => ?_)
  have S := S.ws
  refine r_icmp_eq C rfl rfl (tgt := 2011) dL_law_493 (by decide) (fun _ => ?_) (fun h9 => absurd he h9)
  exact hk _ _ _ _ S hR'
theorem lw_case_lapse {Rel : Nat → Sg → Sg → Prop} {n : Nat} {i : Int} (C : Cx p s m #[.ref bA] c RL cL_law 7) (S : St G true σm σd s H locs) (E : Eq_lapse Rel) (hn : n < 512) (hR : Rel n σd σm) (hc : cells + 0 ≤ room_1.cells ∧ slots + 0 ≤ room_1.slots) (hi : 0 ≤ i ∧ i + 7 ≤ (L : Int)) (hX : va_X bA L xs s s.heap) (hbl : bA < s.heap.size) (hbA : ¬ AG G bA) (hL : L ≤ 3584) (hl : lv_has ls 7 [(0, .ref bA), (1, .ref (G.1 0)), (2, .ref (G.1 41)), (3, .ref (G.1 60)), (4, .int (oI i))])
    (hk : ∀ H locs (σd σm : Sg), St G true σm σd s H locs → Rel (n + 1) σd σm → W p l e room_1 s m #[.ref bA] below meth c H locs cells slots Q (F0 m 2011 ls [])) : W p l e room_1 s m #[.ref bA] below meth c H locs cells slots Q (F0 m 498 ls []) := by
  obtain ⟨q, q', hd, hm, he, hR'⟩ := E n σd σm (sc xs (i + 1)) hn hR (sc_in xs (i + 1))
  refine lv_aload_n C.1 C.2.1 dL_law_498 rfl (lv_at hl 1 rfl) ?_
  refine lv_aload_n C.1 C.2.1 dL_law_499 rfl (lv_at hl 0 rfl) ?_
  refine lv_iload C.1 C.2.1 dL_law_500 (lv_at hl 4 rfl) ?_
  refine r_iconst C dL_law_502 ?_
  refine r_iadd C dL_law_503 ?_
  refine law_sld C S hX hbl hbA hL (i := i + 1) (by omega) dL_law_504 ?_
  refine r_callVv C S (As := [.int (oI (sc xs (i + 1)))]) (rest := []) (ct_X9_lapse l G σm hd) mi_X9_lapse tw_619 mv_X9_lapse (rvX9 S) ⟨rfl, rfl⟩ ⟨Nat.le_of_ble_eq_true rfl, Nat.le_of_ble_eq_true rfl⟩ hc rfl hl.1 rfl (Nat.le_of_ble_eq_true rfl) dL_law_505 (fun H locs S => ?_)
  have S := S.sw
  refine lv_aload_n C.1 C.2.1 dL_law_508 rfl (lv_at hl 2 rfl) ?_
  refine lv_aload_n C.1 C.2.1 dL_law_509 rfl (lv_at hl 0 rfl) ?_
  refine lv_iload C.1 C.2.1 dL_law_510 (lv_at hl 4 rfl) ?_
  refine r_iconst C dL_law_512 ?_
  refine r_iadd C dL_law_513 ?_
  refine law_sld C S hX hbl hbA hL (i := i + 1) (by omega) dL_law_514 ?_
  refine r_callVv C S (As := [.int (oI (sc xs (i + 1)))]) (rest := [.int (oI q.1)]) (ct_X10_lapse l G q.2 hm) mi_X10_lapse tw_1355 mv_X10_lapse (rvX10 S) ⟨rfl, rfl⟩ ⟨Nat.le_of_ble_eq_true rfl, Nat.le_of_ble_eq_true rfl⟩ hc rfl hl.1 rfl (Nat.le_of_ble_eq_true rfl) dL_law_515 (fun H locs S => ?_)
  have S := S.ws
  refine r_icmp_eq C rfl rfl (tgt := 2011) dL_law_518 (by decide) (fun _ => ?_) (fun h9 => absurd he h9)
  exact hk _ _ _ _ S hR'
theorem lw_case_treaty {Rel : Nat → Sg → Sg → Prop} {n : Nat} {i : Int} (C : Cx p s m #[.ref bA] c RL cL_law 7) (S : St G true σm σd s H locs) (E : Eq_treaty Rel) (hn : n < 512) (hR : Rel n σd σm) (hc : cells + 0 ≤ room_1.cells ∧ slots + 0 ≤ room_1.slots) (hi : 0 ≤ i ∧ i + 7 ≤ (L : Int)) (hX : va_X bA L xs s s.heap) (hbl : bA < s.heap.size) (hbA : ¬ AG G bA) (hL : L ≤ 3584) (hl : lv_has ls 7 [(0, .ref bA), (1, .ref (G.1 0)), (2, .ref (G.1 41)), (3, .ref (G.1 60)), (4, .int (oI i))])
    (hk : ∀ H locs (σd σm : Sg), St G true σm σd s H locs → Rel (n + 1) σd σm → W p l e room_1 s m #[.ref bA] below meth c H locs cells slots Q (F0 m 2011 ls [])) : W p l e room_1 s m #[.ref bA] below meth c H locs cells slots Q (F0 m 523 ls []) := by
  obtain ⟨q, q', hd, hm, he, hR'⟩ := E n σd σm (sc xs (i + 1)) (sc xs (i + 2)) (sc xs (i + 3)) hn hR (sc_in xs (i + 1)) (sc_in xs (i + 2)) (sc_in xs (i + 3))
  refine lv_aload_n C.1 C.2.1 dL_law_523 rfl (lv_at hl 1 rfl) ?_
  refine lv_aload_n C.1 C.2.1 dL_law_524 rfl (lv_at hl 0 rfl) ?_
  refine lv_iload C.1 C.2.1 dL_law_525 (lv_at hl 4 rfl) ?_
  refine r_iconst C dL_law_527 ?_
  refine r_iadd C dL_law_528 ?_
  refine law_sld C S hX hbl hbA hL (i := i + 1) (by omega) dL_law_529 ?_
  refine lv_aload_n C.1 C.2.1 dL_law_530 rfl (lv_at hl 0 rfl) ?_
  refine lv_iload C.1 C.2.1 dL_law_531 (lv_at hl 4 rfl) ?_
  refine r_iconst C dL_law_533 ?_
  refine r_iadd C dL_law_534 ?_
  refine law_sld C S hX hbl hbA hL (i := i + 2) (by omega) dL_law_535 ?_
  refine lv_aload_n C.1 C.2.1 dL_law_536 rfl (lv_at hl 0 rfl) ?_
  refine lv_iload C.1 C.2.1 dL_law_537 (lv_at hl 4 rfl) ?_
  refine r_iconst C dL_law_539 ?_
  refine r_iadd C dL_law_540 ?_
  refine law_sld C S hX hbl hbA hL (i := i + 3) (by omega) dL_law_541 ?_
  refine r_callVv C S (As := [.int (oI (sc xs (i + 1))), .int (oI (sc xs (i + 2))), .int (oI (sc xs (i + 3)))]) (rest := []) (ct_X9_treaty l G σm hd) mi_X9_treaty tw_627 mv_X9_treaty (rvX9 S) ⟨rfl, rfl⟩ ⟨Nat.le_of_ble_eq_true rfl, Nat.le_of_ble_eq_true rfl⟩ hc rfl hl.1 rfl (Nat.le_of_ble_eq_true rfl) dL_law_542 (fun H locs S => ?_)
  have S := S.sw
  refine lv_aload_n C.1 C.2.1 dL_law_545 rfl (lv_at hl 2 rfl) ?_
  refine lv_aload_n C.1 C.2.1 dL_law_546 rfl (lv_at hl 0 rfl) ?_
  refine lv_iload C.1 C.2.1 dL_law_547 (lv_at hl 4 rfl) ?_
  refine r_iconst C dL_law_549 ?_
  refine r_iadd C dL_law_550 ?_
  refine law_sld C S hX hbl hbA hL (i := i + 1) (by omega) dL_law_551 ?_
  refine lv_aload_n C.1 C.2.1 dL_law_552 rfl (lv_at hl 0 rfl) ?_
  refine lv_iload C.1 C.2.1 dL_law_553 (lv_at hl 4 rfl) ?_
  refine r_iconst C dL_law_555 ?_
  refine r_iadd C dL_law_556 ?_
  refine law_sld C S hX hbl hbA hL (i := i + 2) (by omega) dL_law_557 ?_
  refine lv_aload_n C.1 C.2.1 dL_law_558 rfl (lv_at hl 0 rfl) ?_
  refine lv_iload C.1 C.2.1 dL_law_559 (lv_at hl 4 rfl) ?_
  refine r_iconst C dL_law_561 ?_
  refine r_iadd C dL_law_562 ?_
  refine law_sld C S hX hbl hbA hL (i := i + 3) (by omega) dL_law_563 ?_
  refine r_callVv C S (As := [.int (oI (sc xs (i + 1))), .int (oI (sc xs (i + 2))), .int (oI (sc xs (i + 3)))]) (rest := [.int (oI q.1)]) (ct_X10_treaty l G q.2 hm) mi_X10_treaty tw_1359 mv_X10_treaty (rvX10 S) ⟨rfl, rfl⟩ ⟨Nat.le_of_ble_eq_true rfl, Nat.le_of_ble_eq_true rfl⟩ hc rfl hl.1 rfl (Nat.le_of_ble_eq_true rfl) dL_law_564 (fun H locs S => ?_)
  have S := S.ws
  refine r_icmp_eq C rfl rfl (tgt := 2011) dL_law_567 (by decide) (fun _ => ?_) (fun h9 => absurd he h9)
  exact hk _ _ _ _ S hR'
theorem lw_case_limit {Rel : Nat → Sg → Sg → Prop} {n : Nat} {i : Int} (C : Cx p s m #[.ref bA] c RL cL_law 7) (S : St G true σm σd s H locs) (E : Eq_limit Rel) (hn : n < 512) (hR : Rel n σd σm) (hc : cells + 0 ≤ room_1.cells ∧ slots + 0 ≤ room_1.slots) (hi : 0 ≤ i ∧ i + 7 ≤ (L : Int)) (hX : va_X bA L xs s s.heap) (hbl : bA < s.heap.size) (hbA : ¬ AG G bA) (hL : L ≤ 3584) (hl : lv_has ls 7 [(0, .ref bA), (1, .ref (G.1 0)), (2, .ref (G.1 41)), (3, .ref (G.1 60)), (4, .int (oI i))])
    (hk : ∀ H locs (σd σm : Sg), St G true σm σd s H locs → Rel (n + 1) σd σm → W p l e room_1 s m #[.ref bA] below meth c H locs cells slots Q (F0 m 2011 ls [])) : W p l e room_1 s m #[.ref bA] below meth c H locs cells slots Q (F0 m 572 ls []) := by
  obtain ⟨q, q', hd, hm, he, hR'⟩ := E n σd σm (sc xs (i + 1)) (sc xs (i + 2)) hn hR (sc_in xs (i + 1)) (sc_in xs (i + 2))
  refine lv_aload_n C.1 C.2.1 dL_law_572 rfl (lv_at hl 1 rfl) ?_
  refine lv_aload_n C.1 C.2.1 dL_law_573 rfl (lv_at hl 0 rfl) ?_
  refine lv_iload C.1 C.2.1 dL_law_574 (lv_at hl 4 rfl) ?_
  refine r_iconst C dL_law_576 ?_
  refine r_iadd C dL_law_577 ?_
  refine law_sld C S hX hbl hbA hL (i := i + 1) (by omega) dL_law_578 ?_
  refine lv_aload_n C.1 C.2.1 dL_law_579 rfl (lv_at hl 0 rfl) ?_
  refine lv_iload C.1 C.2.1 dL_law_580 (lv_at hl 4 rfl) ?_
  refine r_iconst C dL_law_582 ?_
  refine r_iadd C dL_law_583 ?_
  refine law_sld C S hX hbl hbA hL (i := i + 2) (by omega) dL_law_584 ?_
  refine r_callVv C S (As := [.int (oI (sc xs (i + 1))), .int (oI (sc xs (i + 2)))]) (rest := []) (ct_X9_limit l G σm hd) mi_X9_limit tw_638 mv_X9_limit (rvX9 S) ⟨rfl, rfl⟩ ⟨Nat.le_of_ble_eq_true rfl, Nat.le_of_ble_eq_true rfl⟩ hc rfl hl.1 rfl (Nat.le_of_ble_eq_true rfl) dL_law_585 (fun H locs S => ?_)
  have S := S.sw
  refine lv_aload_n C.1 C.2.1 dL_law_588 rfl (lv_at hl 2 rfl) ?_
  refine lv_aload_n C.1 C.2.1 dL_law_589 rfl (lv_at hl 0 rfl) ?_
  refine lv_iload C.1 C.2.1 dL_law_590 (lv_at hl 4 rfl) ?_
  refine r_iconst C dL_law_592 ?_
  refine r_iadd C dL_law_593 ?_
  refine law_sld C S hX hbl hbA hL (i := i + 1) (by omega) dL_law_594 ?_
  refine lv_aload_n C.1 C.2.1 dL_law_595 rfl (lv_at hl 0 rfl) ?_
  refine lv_iload C.1 C.2.1 dL_law_596 (lv_at hl 4 rfl) ?_
  refine r_iconst C dL_law_598 ?_
  refine r_iadd C dL_law_599 ?_
  refine law_sld C S hX hbl hbA hL (i := i + 2) (by omega) dL_law_600 ?_
  refine r_callVv C S (As := [.int (oI (sc xs (i + 1))), .int (oI (sc xs (i + 2)))]) (rest := [.int (oI q.1)]) (ct_X10_limit l G q.2 hm) mi_X10_limit tw_1369 mv_X10_limit (rvX10 S) ⟨rfl, rfl⟩ ⟨Nat.le_of_ble_eq_true rfl, Nat.le_of_ble_eq_true rfl⟩ hc rfl hl.1 rfl (Nat.le_of_ble_eq_true rfl) dL_law_601 (fun H locs S => ?_)
  have S := S.ws
  refine r_icmp_eq C rfl rfl (tgt := 2011) dL_law_604 (by decide) (fun _ => ?_) (fun h9 => absurd he h9)
  exact hk _ _ _ _ S hR'
theorem lw_case_its {Rel : Nat → Sg → Sg → Prop} {n : Nat} {i : Int} (C : Cx p s m #[.ref bA] c RL cL_law 7) (S : St G true σm σd s H locs) (E : Eq_its Rel) (hn : n < 512) (hR : Rel n σd σm) (hc : cells + 0 ≤ room_1.cells ∧ slots + 0 ≤ room_1.slots) (hi : 0 ≤ i ∧ i + 7 ≤ (L : Int)) (hX : va_X bA L xs s s.heap) (hbl : bA < s.heap.size) (hbA : ¬ AG G bA) (hL : L ≤ 3584) (hl : lv_has ls 7 [(0, .ref bA), (1, .ref (G.1 0)), (2, .ref (G.1 41)), (3, .ref (G.1 60)), (4, .int (oI i))])
    (hk : ∀ H locs (σd σm : Sg), St G true σm σd s H locs → Rel (n + 1) σd σm → W p l e room_1 s m #[.ref bA] below meth c H locs cells slots Q (F0 m 2011 ls [])) : W p l e room_1 s m #[.ref bA] below meth c H locs cells slots Q (F0 m 677 ls []) := by
  obtain ⟨q, q', hd, hm, he, hR'⟩ := E n σd σm (sc xs (i + 1)) (sc xs (i + 2)) hn hR (sc_in xs (i + 1)) (sc_in xs (i + 2))
  refine lv_aload_n C.1 C.2.1 dL_law_677 rfl (lv_at hl 1 rfl) ?_
  refine lv_aload_n C.1 C.2.1 dL_law_678 rfl (lv_at hl 0 rfl) ?_
  refine lv_iload C.1 C.2.1 dL_law_679 (lv_at hl 4 rfl) ?_
  refine r_iconst C dL_law_681 ?_
  refine r_iadd C dL_law_682 ?_
  refine law_sld C S hX hbl hbA hL (i := i + 1) (by omega) dL_law_683 ?_
  refine lv_aload_n C.1 C.2.1 dL_law_684 rfl (lv_at hl 0 rfl) ?_
  refine lv_iload C.1 C.2.1 dL_law_685 (lv_at hl 4 rfl) ?_
  refine r_iconst C dL_law_687 ?_
  refine r_iadd C dL_law_688 ?_
  refine law_sld C S hX hbl hbA hL (i := i + 2) (by omega) dL_law_689 ?_
  refine r_callVv C S (As := [.int (oI (sc xs (i + 1))), .int (oI (sc xs (i + 2)))]) (rest := []) (ct_X9_its l G σm hd) mi_X9_its tw_642 mv_X9_its (rvX9 S) ⟨rfl, rfl⟩ ⟨Nat.le_of_ble_eq_true rfl, Nat.le_of_ble_eq_true rfl⟩ hc rfl hl.1 rfl (Nat.le_of_ble_eq_true rfl) dL_law_690 (fun H locs S => ?_)
  have S := S.sw
  refine lv_aload_n C.1 C.2.1 dL_law_693 rfl (lv_at hl 2 rfl) ?_
  refine lv_aload_n C.1 C.2.1 dL_law_694 rfl (lv_at hl 0 rfl) ?_
  refine lv_iload C.1 C.2.1 dL_law_695 (lv_at hl 4 rfl) ?_
  refine r_iconst C dL_law_697 ?_
  refine r_iadd C dL_law_698 ?_
  refine law_sld C S hX hbl hbA hL (i := i + 1) (by omega) dL_law_699 ?_
  refine lv_aload_n C.1 C.2.1 dL_law_700 rfl (lv_at hl 0 rfl) ?_
  refine lv_iload C.1 C.2.1 dL_law_701 (lv_at hl 4 rfl) ?_
  refine r_iconst C dL_law_703 ?_
  refine r_iadd C dL_law_704 ?_
  refine law_sld C S hX hbl hbA hL (i := i + 2) (by omega) dL_law_705 ?_
  refine r_callVv C S (As := [.int (oI (sc xs (i + 1))), .int (oI (sc xs (i + 2)))]) (rest := [.int (oI q)]) (ct_X10_its l G σd hm) mi_X10_its tw_1385 mv_X10_its (rvX10 S) ⟨rfl, rfl⟩ ⟨Nat.le_of_ble_eq_true rfl, Nat.le_of_ble_eq_true rfl⟩ hc rfl hl.1 rfl (Nat.le_of_ble_eq_true rfl) dL_law_706 (fun H locs S => ?_)
  have S := S.ws
  refine r_icmp_eq C rfl rfl (tgt := 2011) dL_law_709 (by decide) (fun _ => ?_) (fun h9 => absurd he h9)
  exact hk _ _ _ _ S hR'
theorem lw_case_worst {Rel : Nat → Sg → Sg → Prop} {n : Nat} {i : Int} (C : Cx p s m #[.ref bA] c RL cL_law 7) (S : St G true σm σd s H locs) (E : Eq_worst Rel) (hn : n < 512) (hR : Rel n σd σm) (hc : cells + 0 ≤ room_1.cells ∧ slots + 0 ≤ room_1.slots) (hi : 0 ≤ i ∧ i + 7 ≤ (L : Int)) (hX : va_X bA L xs s s.heap) (hbl : bA < s.heap.size) (hbA : ¬ AG G bA) (hL : L ≤ 3584) (hl : lv_has ls 7 [(0, .ref bA), (1, .ref (G.1 0)), (2, .ref (G.1 41)), (3, .ref (G.1 60)), (4, .int (oI i))])
    (hk : ∀ H locs (σd σm : Sg), St G true σm σd s H locs → Rel (n + 1) σd σm → W p l e room_1 s m #[.ref bA] below meth c H locs cells slots Q (F0 m 2011 ls [])) : W p l e room_1 s m #[.ref bA] below meth c H locs cells slots Q (F0 m 714 ls []) := by
  obtain ⟨q, q', hd, hm, he, hR'⟩ := E n σd σm (sc xs (i + 1)) (sc xs (i + 2)) hn hR (sc_in xs (i + 1)) (sc_in xs (i + 2))
  refine lv_aload_n C.1 C.2.1 dL_law_714 rfl (lv_at hl 1 rfl) ?_
  refine lv_aload_n C.1 C.2.1 dL_law_715 rfl (lv_at hl 0 rfl) ?_
  refine lv_iload C.1 C.2.1 dL_law_716 (lv_at hl 4 rfl) ?_
  refine r_iconst C dL_law_718 ?_
  refine r_iadd C dL_law_719 ?_
  refine law_sld C S hX hbl hbA hL (i := i + 1) (by omega) dL_law_720 ?_
  refine lv_aload_n C.1 C.2.1 dL_law_721 rfl (lv_at hl 0 rfl) ?_
  refine lv_iload C.1 C.2.1 dL_law_722 (lv_at hl 4 rfl) ?_
  refine r_iconst C dL_law_724 ?_
  refine r_iadd C dL_law_725 ?_
  refine law_sld C S hX hbl hbA hL (i := i + 2) (by omega) dL_law_726 ?_
  refine r_callVv C S (As := [.int (oI (sc xs (i + 1))), .int (oI (sc xs (i + 2)))]) (rest := []) (ct_X9_worst l G σm hd) mi_X9_worst tw_653 mv_X9_worst (rvX9 S) ⟨rfl, rfl⟩ ⟨Nat.le_of_ble_eq_true rfl, Nat.le_of_ble_eq_true rfl⟩ hc rfl hl.1 rfl (Nat.le_of_ble_eq_true rfl) dL_law_727 (fun H locs S => ?_)
  have S := S.sw
  refine lv_aload_n C.1 C.2.1 dL_law_730 rfl (lv_at hl 2 rfl) ?_
  refine lv_aload_n C.1 C.2.1 dL_law_731 rfl (lv_at hl 0 rfl) ?_
  refine lv_iload C.1 C.2.1 dL_law_732 (lv_at hl 4 rfl) ?_
  refine r_iconst C dL_law_734 ?_
  refine r_iadd C dL_law_735 ?_
  refine law_sld C S hX hbl hbA hL (i := i + 1) (by omega) dL_law_736 ?_
  refine lv_aload_n C.1 C.2.1 dL_law_737 rfl (lv_at hl 0 rfl) ?_
  refine lv_iload C.1 C.2.1 dL_law_738 (lv_at hl 4 rfl) ?_
  refine r_iconst C dL_law_740 ?_
  refine r_iadd C dL_law_741 ?_
  refine law_sld C S hX hbl hbA hL (i := i + 2) (by omega) dL_law_742 ?_
  refine r_callVv C S (As := [.int (oI (sc xs (i + 1))), .int (oI (sc xs (i + 2)))]) (rest := [.int (oI q)]) (ct_X10_worst l G σd hm) mi_X10_worst tw_1396 mv_X10_worst (rvX10 S) ⟨rfl, rfl⟩ ⟨Nat.le_of_ble_eq_true rfl, Nat.le_of_ble_eq_true rfl⟩ hc rfl hl.1 rfl (Nat.le_of_ble_eq_true rfl) dL_law_743 (fun H locs S => ?_)
  have S := S.ws
  refine r_icmp_eq C rfl rfl (tgt := 2011) dL_law_746 (by decide) (fun _ => ?_) (fun h9 => absurd he h9)
  exact hk _ _ _ _ S hR'
theorem lw_case_inWorst {Rel : Nat → Sg → Sg → Prop} {n : Nat} {i : Int} (C : Cx p s m #[.ref bA] c RL cL_law 7) (S : St G true σm σd s H locs) (E : Eq_inWorst Rel) (hn : n < 512) (hR : Rel n σd σm) (hc : cells + 0 ≤ room_1.cells ∧ slots + 0 ≤ room_1.slots) (hi : 0 ≤ i ∧ i + 7 ≤ (L : Int)) (hX : va_X bA L xs s s.heap) (hbl : bA < s.heap.size) (hbA : ¬ AG G bA) (hL : L ≤ 3584) (hl : lv_has ls 7 [(0, .ref bA), (1, .ref (G.1 0)), (2, .ref (G.1 41)), (3, .ref (G.1 60)), (4, .int (oI i))])
    (hk : ∀ H locs (σd σm : Sg), St G true σm σd s H locs → Rel (n + 1) σd σm → W p l e room_1 s m #[.ref bA] below meth c H locs cells slots Q (F0 m 2011 ls [])) : W p l e room_1 s m #[.ref bA] below meth c H locs cells slots Q (F0 m 751 ls []) := by
  obtain ⟨q, q', hd, hm, he, hR'⟩ := E n σd σm (sc xs (i + 1)) (sc xs (i + 2)) hn hR (sc_in xs (i + 1)) (sc_in xs (i + 2))
  refine lv_aload_n C.1 C.2.1 dL_law_751 rfl (lv_at hl 1 rfl) ?_
  refine lv_aload_n C.1 C.2.1 dL_law_752 rfl (lv_at hl 0 rfl) ?_
  refine lv_iload C.1 C.2.1 dL_law_753 (lv_at hl 4 rfl) ?_
  refine r_iconst C dL_law_755 ?_
  refine r_iadd C dL_law_756 ?_
  refine law_sld C S hX hbl hbA hL (i := i + 1) (by omega) dL_law_757 ?_
  refine lv_aload_n C.1 C.2.1 dL_law_758 rfl (lv_at hl 0 rfl) ?_
  refine lv_iload C.1 C.2.1 dL_law_759 (lv_at hl 4 rfl) ?_
  refine r_iconst C dL_law_761 ?_
  refine r_iadd C dL_law_762 ?_
  refine law_sld C S hX hbl hbA hL (i := i + 2) (by omega) dL_law_763 ?_
  refine r_callVv C S (As := [.int (oI (sc xs (i + 1))), .int (oI (sc xs (i + 2)))]) (rest := []) (ct_X9_inWorst l G σm hd) mi_X9_inWorst tw_657 mv_X9_inWorst (rvX9 S) ⟨rfl, rfl⟩ ⟨Nat.le_of_ble_eq_true rfl, Nat.le_of_ble_eq_true rfl⟩ hc rfl hl.1 rfl (Nat.le_of_ble_eq_true rfl) dL_law_764 (fun H locs S => ?_)
  have S := S.sw
  refine lv_aload_n C.1 C.2.1 dL_law_767 rfl (lv_at hl 2 rfl) ?_
  refine lv_aload_n C.1 C.2.1 dL_law_768 rfl (lv_at hl 0 rfl) ?_
  refine lv_iload C.1 C.2.1 dL_law_769 (lv_at hl 4 rfl) ?_
  refine r_iconst C dL_law_771 ?_
  refine r_iadd C dL_law_772 ?_
  refine law_sld C S hX hbl hbA hL (i := i + 1) (by omega) dL_law_773 ?_
  refine lv_aload_n C.1 C.2.1 dL_law_774 rfl (lv_at hl 0 rfl) ?_
  refine lv_iload C.1 C.2.1 dL_law_775 (lv_at hl 4 rfl) ?_
  refine r_iconst C dL_law_777 ?_
  refine r_iadd C dL_law_778 ?_
  refine law_sld C S hX hbl hbA hL (i := i + 2) (by omega) dL_law_779 ?_
  refine r_callVv C S (As := [.int (oI (sc xs (i + 1))), .int (oI (sc xs (i + 2)))]) (rest := [.int (oI q)]) (ct_X10_inWorst l G σd hm) mi_X10_inWorst tw_1401 mv_X10_inWorst (rvX10 S) ⟨rfl, rfl⟩ ⟨Nat.le_of_ble_eq_true rfl, Nat.le_of_ble_eq_true rfl⟩ hc rfl hl.1 rfl (Nat.le_of_ble_eq_true rfl) dL_law_780 (fun H locs S => ?_)
  have S := S.ws
  refine r_icmp_eq C rfl rfl (tgt := 2011) dL_law_783 (by decide) (fun _ => ?_) (fun h9 => absurd he h9)
  exact hk _ _ _ _ S hR'
theorem lw_case_bound {Rel : Nat → Sg → Sg → Prop} {n : Nat} {i : Int} (C : Cx p s m #[.ref bA] c RL cL_law 7) (S : St G true σm σd s H locs) (E : Eq_bound Rel) (hn : n < 512) (hR : Rel n σd σm) (hc : cells + 0 ≤ room_1.cells ∧ slots + 0 ≤ room_1.slots) (hi : 0 ≤ i ∧ i + 7 ≤ (L : Int)) (hX : va_X bA L xs s s.heap) (hbl : bA < s.heap.size) (hbA : ¬ AG G bA) (hL : L ≤ 3584) (hl : lv_has ls 7 [(0, .ref bA), (1, .ref (G.1 0)), (2, .ref (G.1 41)), (3, .ref (G.1 60)), (4, .int (oI i))])
    (hk : ∀ H locs (σd σm : Sg), St G true σm σd s H locs → Rel (n + 1) σd σm → W p l e room_1 s m #[.ref bA] below meth c H locs cells slots Q (F0 m 2011 ls [])) : W p l e room_1 s m #[.ref bA] below meth c H locs cells slots Q (F0 m 788 ls []) := by
  obtain ⟨q, q', hd, hm, he, hR'⟩ := E n σd σm (sc xs (i + 1)) (sc xs (i + 2)) hn hR (sc_in xs (i + 1)) (sc_in xs (i + 2))
  refine lv_aload_n C.1 C.2.1 dL_law_788 rfl (lv_at hl 1 rfl) ?_
  refine lv_aload_n C.1 C.2.1 dL_law_789 rfl (lv_at hl 0 rfl) ?_
  refine lv_iload C.1 C.2.1 dL_law_790 (lv_at hl 4 rfl) ?_
  refine r_iconst C dL_law_792 ?_
  refine r_iadd C dL_law_793 ?_
  refine law_sld C S hX hbl hbA hL (i := i + 1) (by omega) dL_law_794 ?_
  refine lv_aload_n C.1 C.2.1 dL_law_795 rfl (lv_at hl 0 rfl) ?_
  refine lv_iload C.1 C.2.1 dL_law_796 (lv_at hl 4 rfl) ?_
  refine r_iconst C dL_law_798 ?_
  refine r_iadd C dL_law_799 ?_
  refine law_sld C S hX hbl hbA hL (i := i + 2) (by omega) dL_law_800 ?_
  refine r_callVv C S (As := [.int (oI (sc xs (i + 1))), .int (oI (sc xs (i + 2)))]) (rest := []) (ct_X9_bound l G σm hd) mi_X9_bound tw_662 mv_X9_bound (rvX9 S) ⟨rfl, rfl⟩ ⟨Nat.le_of_ble_eq_true rfl, Nat.le_of_ble_eq_true rfl⟩ hc rfl hl.1 rfl (Nat.le_of_ble_eq_true rfl) dL_law_801 (fun H locs S => ?_)
  have S := S.sw
  refine lv_aload_n C.1 C.2.1 dL_law_804 rfl (lv_at hl 2 rfl) ?_
  refine lv_aload_n C.1 C.2.1 dL_law_805 rfl (lv_at hl 0 rfl) ?_
  refine lv_iload C.1 C.2.1 dL_law_806 (lv_at hl 4 rfl) ?_
  refine r_iconst C dL_law_808 ?_
  refine r_iadd C dL_law_809 ?_
  refine law_sld C S hX hbl hbA hL (i := i + 1) (by omega) dL_law_810 ?_
  refine lv_aload_n C.1 C.2.1 dL_law_811 rfl (lv_at hl 0 rfl) ?_
  refine lv_iload C.1 C.2.1 dL_law_812 (lv_at hl 4 rfl) ?_
  refine r_iconst C dL_law_814 ?_
  refine r_iadd C dL_law_815 ?_
  refine law_sld C S hX hbl hbA hL (i := i + 2) (by omega) dL_law_816 ?_
  refine r_callVv C S (As := [.int (oI (sc xs (i + 1))), .int (oI (sc xs (i + 2)))]) (rest := [.int (oI q)]) (ct_X10_bound l G σd hm) mi_X10_bound tw_1405 mv_X10_bound (rvX10 S) ⟨rfl, rfl⟩ ⟨Nat.le_of_ble_eq_true rfl, Nat.le_of_ble_eq_true rfl⟩ hc rfl hl.1 rfl (Nat.le_of_ble_eq_true rfl) dL_law_817 (fun H locs S => ?_)
  have S := S.ws
  refine r_icmp_eq C rfl rfl (tgt := 2011) dL_law_820 (by decide) (fun _ => ?_) (fun h9 => absurd he h9)
  exact hk _ _ _ _ S hR'
theorem lw_case_spread {Rel : Nat → Sg → Sg → Prop} {n : Nat} {i : Int} (C : Cx p s m #[.ref bA] c RL cL_law 7) (S : St G true σm σd s H locs) (E : Eq_spread Rel) (hn : n < 512) (hR : Rel n σd σm) (hc : cells + 0 ≤ room_1.cells ∧ slots + 0 ≤ room_1.slots) (hi : 0 ≤ i ∧ i + 7 ≤ (L : Int)) (hX : va_X bA L xs s s.heap) (hbl : bA < s.heap.size) (hbA : ¬ AG G bA) (hL : L ≤ 3584) (hl : lv_has ls 7 [(0, .ref bA), (1, .ref (G.1 0)), (2, .ref (G.1 41)), (3, .ref (G.1 60)), (4, .int (oI i))])
    (hk : ∀ H locs (σd σm : Sg), St G true σm σd s H locs → Rel (n + 1) σd σm → W p l e room_1 s m #[.ref bA] below meth c H locs cells slots Q (F0 m 2011 ls [])) : W p l e room_1 s m #[.ref bA] below meth c H locs cells slots Q (F0 m 825 ls []) := by
  obtain ⟨q, q', hd, hm, he, hR'⟩ := E n σd σm (sc xs (i + 1)) hn hR (sc_in xs (i + 1))
  refine lv_aload_n C.1 C.2.1 dL_law_825 rfl (lv_at hl 1 rfl) ?_
  refine lv_aload_n C.1 C.2.1 dL_law_826 rfl (lv_at hl 0 rfl) ?_
  refine lv_iload C.1 C.2.1 dL_law_827 (lv_at hl 4 rfl) ?_
  refine r_iconst C dL_law_829 ?_
  refine r_iadd C dL_law_830 ?_
  refine law_sld C S hX hbl hbA hL (i := i + 1) (by omega) dL_law_831 ?_
  refine r_callVv C S (As := [.int (oI (sc xs (i + 1)))]) (rest := []) (ct_X9_spread l G σm hd) mi_X9_spread tw_674 mv_X9_spread (rvX9 S) ⟨rfl, rfl⟩ ⟨Nat.le_of_ble_eq_true rfl, Nat.le_of_ble_eq_true rfl⟩ hc rfl hl.1 rfl (Nat.le_of_ble_eq_true rfl) dL_law_832 (fun H locs S => ?_)
  have S := S.sw
  refine lv_aload_n C.1 C.2.1 dL_law_835 rfl (lv_at hl 2 rfl) ?_
  refine lv_aload_n C.1 C.2.1 dL_law_836 rfl (lv_at hl 0 rfl) ?_
  refine lv_iload C.1 C.2.1 dL_law_837 (lv_at hl 4 rfl) ?_
  refine r_iconst C dL_law_839 ?_
  refine r_iadd C dL_law_840 ?_
  refine law_sld C S hX hbl hbA hL (i := i + 1) (by omega) dL_law_841 ?_
  refine r_callVv C S (As := [.int (oI (sc xs (i + 1)))]) (rest := [.int (oI q)]) (ct_X10_spread l G σd hm) mi_X10_spread tw_1413 mv_X10_spread (rvX10 S) ⟨rfl, rfl⟩ ⟨Nat.le_of_ble_eq_true rfl, Nat.le_of_ble_eq_true rfl⟩ hc rfl hl.1 rfl (Nat.le_of_ble_eq_true rfl) dL_law_842 (fun H locs S => ?_)
  have S := S.ws
  refine r_icmp_eq C rfl rfl (tgt := 2011) dL_law_845 (by decide) (fun _ => ?_) (fun h9 => absurd he h9)
  exact hk _ _ _ _ S hR'
theorem lw_case_ring {Rel : Nat → Sg → Sg → Prop} {n : Nat} {i : Int} (C : Cx p s m #[.ref bA] c RL cL_law 7) (S : St G true σm σd s H locs) (E : Eq_ring Rel) (hn : n < 512) (hR : Rel n σd σm) (hc : cells + 0 ≤ room_1.cells ∧ slots + 0 ≤ room_1.slots) (hi : 0 ≤ i ∧ i + 7 ≤ (L : Int)) (hX : va_X bA L xs s s.heap) (hbl : bA < s.heap.size) (hbA : ¬ AG G bA) (hL : L ≤ 3584) (hl : lv_has ls 7 [(0, .ref bA), (1, .ref (G.1 0)), (2, .ref (G.1 41)), (3, .ref (G.1 60)), (4, .int (oI i))])
    (hk : ∀ H locs (σd σm : Sg), St G true σm σd s H locs → Rel (n + 1) σd σm → W p l e room_1 s m #[.ref bA] below meth c H locs cells slots Q (F0 m 2011 ls [])) : W p l e room_1 s m #[.ref bA] below meth c H locs cells slots Q (F0 m 850 ls []) := by
  obtain ⟨q, q', hd, hm, he, hR'⟩ := E n σd σm (sc xs (i + 1)) (sc xs (i + 2)) hn hR (sc_in xs (i + 1)) (sc_in xs (i + 2))
  refine lv_aload_n C.1 C.2.1 dL_law_850 rfl (lv_at hl 1 rfl) ?_
  refine lv_aload_n C.1 C.2.1 dL_law_851 rfl (lv_at hl 0 rfl) ?_
  refine lv_iload C.1 C.2.1 dL_law_852 (lv_at hl 4 rfl) ?_
  refine r_iconst C dL_law_854 ?_
  refine r_iadd C dL_law_855 ?_
  refine law_sld C S hX hbl hbA hL (i := i + 1) (by omega) dL_law_856 ?_
  refine lv_aload_n C.1 C.2.1 dL_law_857 rfl (lv_at hl 0 rfl) ?_
  refine lv_iload C.1 C.2.1 dL_law_858 (lv_at hl 4 rfl) ?_
  refine r_iconst C dL_law_860 ?_
  refine r_iadd C dL_law_861 ?_
  refine law_sld C S hX hbl hbA hL (i := i + 2) (by omega) dL_law_862 ?_
  refine r_callVv C S (As := [.int (oI (sc xs (i + 1))), .int (oI (sc xs (i + 2)))]) (rest := []) (ct_X9_ring l G σm hd) mi_X9_ring tw_683 mv_X9_ring (rvX9 S) ⟨rfl, rfl⟩ ⟨Nat.le_of_ble_eq_true rfl, Nat.le_of_ble_eq_true rfl⟩ hc rfl hl.1 rfl (Nat.le_of_ble_eq_true rfl) dL_law_863 (fun H locs S => ?_)
  have S := S.sw
  refine lv_aload_n C.1 C.2.1 dL_law_866 rfl (lv_at hl 2 rfl) ?_
  refine lv_aload_n C.1 C.2.1 dL_law_867 rfl (lv_at hl 0 rfl) ?_
  refine lv_iload C.1 C.2.1 dL_law_868 (lv_at hl 4 rfl) ?_
  refine r_iconst C dL_law_870 ?_
  refine r_iadd C dL_law_871 ?_
  refine law_sld C S hX hbl hbA hL (i := i + 1) (by omega) dL_law_872 ?_
  refine lv_aload_n C.1 C.2.1 dL_law_873 rfl (lv_at hl 0 rfl) ?_
  refine lv_iload C.1 C.2.1 dL_law_874 (lv_at hl 4 rfl) ?_
  refine r_iconst C dL_law_876 ?_
  refine r_iadd C dL_law_877 ?_
  refine law_sld C S hX hbl hbA hL (i := i + 2) (by omega) dL_law_878 ?_
  refine r_callVv C S (As := [.int (oI (sc xs (i + 1))), .int (oI (sc xs (i + 2)))]) (rest := [.long (oL q.1)]) (ct_X10_ring l G q.2 hm) mi_X10_ring tw_1417 mv_X10_ring (rvX10 S) ⟨rfl, rfl⟩ ⟨Nat.le_of_ble_eq_true rfl, Nat.le_of_ble_eq_true rfl⟩ hc rfl hl.1 rfl (Nat.le_of_ble_eq_true rfl) dL_law_879 (fun H locs S => ?_)
  have S := S.ws
  refine r_lcmp_eq C rfl rfl (tgt := 2011) dL_law_882 dL_law_883 (by decide) (fun _ => ?_) (fun h9 => absurd he h9)
  exact hk _ _ _ _ S hR'
theorem lw_case_part {Rel : Nat → Sg → Sg → Prop} {n : Nat} {i : Int} (C : Cx p s m #[.ref bA] c RL cL_law 7) (S : St G true σm σd s H locs) (E : Eq_part Rel) (hn : n < 512) (hR : Rel n σd σm) (hc : cells + 0 ≤ room_1.cells ∧ slots + 0 ≤ room_1.slots) (hi : 0 ≤ i ∧ i + 7 ≤ (L : Int)) (hX : va_X bA L xs s s.heap) (hbl : bA < s.heap.size) (hbA : ¬ AG G bA) (hL : L ≤ 3584) (hl : lv_has ls 7 [(0, .ref bA), (1, .ref (G.1 0)), (2, .ref (G.1 41)), (3, .ref (G.1 60)), (4, .int (oI i))])
    (hk : ∀ H locs (σd σm : Sg), St G true σm σd s H locs → Rel (n + 1) σd σm → W p l e room_1 s m #[.ref bA] below meth c H locs cells slots Q (F0 m 2011 ls [])) : W p l e room_1 s m #[.ref bA] below meth c H locs cells slots Q (F0 m 888 ls []) := by
  obtain ⟨q, q', hd, hm, he, hR'⟩ := E n σd σm (sc xs (i + 1)) (sc xs (i + 2)) hn hR (sc_in xs (i + 1)) (sc_in xs (i + 2))
  refine lv_aload_n C.1 C.2.1 dL_law_888 rfl (lv_at hl 1 rfl) ?_
  refine lv_aload_n C.1 C.2.1 dL_law_889 rfl (lv_at hl 0 rfl) ?_
  refine lv_iload C.1 C.2.1 dL_law_890 (lv_at hl 4 rfl) ?_
  refine r_iconst C dL_law_892 ?_
  refine r_iadd C dL_law_893 ?_
  refine law_sld C S hX hbl hbA hL (i := i + 1) (by omega) dL_law_894 ?_
  refine lv_aload_n C.1 C.2.1 dL_law_895 rfl (lv_at hl 0 rfl) ?_
  refine lv_iload C.1 C.2.1 dL_law_896 (lv_at hl 4 rfl) ?_
  refine r_iconst C dL_law_898 ?_
  refine r_iadd C dL_law_899 ?_
  refine law_sld C S hX hbl hbA hL (i := i + 2) (by omega) dL_law_900 ?_
  refine r_callVv C S (As := [.int (oI (sc xs (i + 1))), .int (oI (sc xs (i + 2)))]) (rest := []) (ct_X9_part l G σm hd) mi_X9_part tw_735 mv_X9_part (rvX9 S) ⟨rfl, rfl⟩ ⟨Nat.le_of_ble_eq_true rfl, Nat.le_of_ble_eq_true rfl⟩ hc rfl hl.1 rfl (Nat.le_of_ble_eq_true rfl) dL_law_901 (fun H locs S => ?_)
  have S := S.sw
  refine lv_aload_n C.1 C.2.1 dL_law_904 rfl (lv_at hl 2 rfl) ?_
  refine lv_aload_n C.1 C.2.1 dL_law_905 rfl (lv_at hl 0 rfl) ?_
  refine lv_iload C.1 C.2.1 dL_law_906 (lv_at hl 4 rfl) ?_
  refine r_iconst C dL_law_908 ?_
  refine r_iadd C dL_law_909 ?_
  refine law_sld C S hX hbl hbA hL (i := i + 1) (by omega) dL_law_910 ?_
  refine lv_aload_n C.1 C.2.1 dL_law_911 rfl (lv_at hl 0 rfl) ?_
  refine lv_iload C.1 C.2.1 dL_law_912 (lv_at hl 4 rfl) ?_
  refine r_iconst C dL_law_914 ?_
  refine r_iadd C dL_law_915 ?_
  refine law_sld C S hX hbl hbA hL (i := i + 2) (by omega) dL_law_916 ?_
  refine r_callVv C S (As := [.int (oI (sc xs (i + 1))), .int (oI (sc xs (i + 2)))]) (rest := [.int (oI q)]) (ct_X10_part l G σd hm) mi_X10_part tw_1465 mv_X10_part (rvX10 S) ⟨rfl, rfl⟩ ⟨Nat.le_of_ble_eq_true rfl, Nat.le_of_ble_eq_true rfl⟩ hc rfl hl.1 rfl (Nat.le_of_ble_eq_true rfl) dL_law_917 (fun H locs S => ?_)
  have S := S.ws
  refine r_icmp_eq C rfl rfl (tgt := 2011) dL_law_920 (by decide) (fun _ => ?_) (fun h9 => absurd he h9)
  exact hk _ _ _ _ S hR'
theorem lw_case_second {Rel : Nat → Sg → Sg → Prop} {n : Nat} {i : Int} (C : Cx p s m #[.ref bA] c RL cL_law 7) (S : St G true σm σd s H locs) (E : Eq_second Rel) (hn : n < 512) (hR : Rel n σd σm) (hc : cells + 0 ≤ room_1.cells ∧ slots + 0 ≤ room_1.slots) (hi : 0 ≤ i ∧ i + 7 ≤ (L : Int)) (hX : va_X bA L xs s s.heap) (hbl : bA < s.heap.size) (hbA : ¬ AG G bA) (hL : L ≤ 3584) (hl : lv_has ls 7 [(0, .ref bA), (1, .ref (G.1 0)), (2, .ref (G.1 41)), (3, .ref (G.1 60)), (4, .int (oI i))])
    (hk : ∀ H locs (σd σm : Sg), St G true σm σd s H locs → Rel (n + 1) σd σm → W p l e room_1 s m #[.ref bA] below meth c H locs cells slots Q (F0 m 2011 ls [])) : W p l e room_1 s m #[.ref bA] below meth c H locs cells slots Q (F0 m 925 ls []) := by
  obtain ⟨q, q', hd, hm, he, hR'⟩ := E n σd σm (sc xs (i + 1)) hn hR (sc_in xs (i + 1))
  refine lv_aload_n C.1 C.2.1 dL_law_925 rfl (lv_at hl 1 rfl) ?_
  refine lv_aload_n C.1 C.2.1 dL_law_926 rfl (lv_at hl 0 rfl) ?_
  refine lv_iload C.1 C.2.1 dL_law_927 (lv_at hl 4 rfl) ?_
  refine r_iconst C dL_law_929 ?_
  refine r_iadd C dL_law_930 ?_
  refine law_sld C S hX hbl hbA hL (i := i + 1) (by omega) dL_law_931 ?_
  refine r_callVv C S (As := [.int (oI (sc xs (i + 1)))]) (rest := []) (ct_X9_second l G σm hd) mi_X9_second tw_743 mv_X9_second (rvX9 S) ⟨rfl, rfl⟩ ⟨Nat.le_of_ble_eq_true rfl, Nat.le_of_ble_eq_true rfl⟩ hc rfl hl.1 rfl (Nat.le_of_ble_eq_true rfl) dL_law_932 (fun H locs S => ?_)
  have S := S.sw
  refine lv_aload_n C.1 C.2.1 dL_law_935 rfl (lv_at hl 2 rfl) ?_
  refine lv_aload_n C.1 C.2.1 dL_law_936 rfl (lv_at hl 0 rfl) ?_
  refine lv_iload C.1 C.2.1 dL_law_937 (lv_at hl 4 rfl) ?_
  refine r_iconst C dL_law_939 ?_
  refine r_iadd C dL_law_940 ?_
  refine law_sld C S hX hbl hbA hL (i := i + 1) (by omega) dL_law_941 ?_
  refine r_callVv C S (As := [.int (oI (sc xs (i + 1)))]) (rest := [.int (oI q)]) (ct_X10_second l G σd hm) mi_X10_second tw_1469 mv_X10_second (rvX10 S) ⟨rfl, rfl⟩ ⟨Nat.le_of_ble_eq_true rfl, Nat.le_of_ble_eq_true rfl⟩ hc rfl hl.1 rfl (Nat.le_of_ble_eq_true rfl) dL_law_942 (fun H locs S => ?_)
  have S := S.ws
  refine r_icmp_eq C rfl rfl (tgt := 2011) dL_law_945 (by decide) (fun _ => ?_) (fun h9 => absurd he h9)
  exact hk _ _ _ _ S hR'
theorem lw_case_chains {Rel : Nat → Sg → Sg → Prop} {n : Nat} {i : Int} (C : Cx p s m #[.ref bA] c RL cL_law 7) (S : St G true σm σd s H locs) (E : Eq_chains Rel) (hn : n < 512) (hR : Rel n σd σm) (hc : cells + 0 ≤ room_1.cells ∧ slots + 0 ≤ room_1.slots) (hi : 0 ≤ i ∧ i + 7 ≤ (L : Int)) (hX : va_X bA L xs s s.heap) (hbl : bA < s.heap.size) (hbA : ¬ AG G bA) (hL : L ≤ 3584) (hl : lv_has ls 7 [(0, .ref bA), (1, .ref (G.1 0)), (2, .ref (G.1 41)), (3, .ref (G.1 60)), (4, .int (oI i))])
    (hk : ∀ H locs (σd σm : Sg), St G true σm σd s H locs → Rel (n + 1) σd σm → W p l e room_1 s m #[.ref bA] below meth c H locs cells slots Q (F0 m 2011 ls [])) : W p l e room_1 s m #[.ref bA] below meth c H locs cells slots Q (F0 m 950 ls []) := by
  obtain ⟨q, q', hd, hm, he, hR'⟩ := E n σd σm (sc xs (i + 1)) (sc xs (i + 2)) (sc xs (i + 3)) hn hR (sc_in xs (i + 1)) (sc_in xs (i + 2)) (sc_in xs (i + 3))
  refine lv_aload_n C.1 C.2.1 dL_law_950 rfl (lv_at hl 1 rfl) ?_
  refine lv_aload_n C.1 C.2.1 dL_law_951 rfl (lv_at hl 0 rfl) ?_
  refine lv_iload C.1 C.2.1 dL_law_952 (lv_at hl 4 rfl) ?_
  refine r_iconst C dL_law_954 ?_
  refine r_iadd C dL_law_955 ?_
  refine law_sld C S hX hbl hbA hL (i := i + 1) (by omega) dL_law_956 ?_
  refine lv_aload_n C.1 C.2.1 dL_law_957 rfl (lv_at hl 0 rfl) ?_
  refine lv_iload C.1 C.2.1 dL_law_958 (lv_at hl 4 rfl) ?_
  refine r_iconst C dL_law_960 ?_
  refine r_iadd C dL_law_961 ?_
  refine law_sld C S hX hbl hbA hL (i := i + 2) (by omega) dL_law_962 ?_
  refine lv_aload_n C.1 C.2.1 dL_law_963 rfl (lv_at hl 0 rfl) ?_
  refine lv_iload C.1 C.2.1 dL_law_964 (lv_at hl 4 rfl) ?_
  refine r_iconst C dL_law_966 ?_
  refine r_iadd C dL_law_967 ?_
  refine law_sld C S hX hbl hbA hL (i := i + 3) (by omega) dL_law_968 ?_
  refine r_callVv C S (As := [.int (oI (sc xs (i + 1))), .int (oI (sc xs (i + 2))), .int (oI (sc xs (i + 3)))]) (rest := []) (ct_X9_chains l G σm hd) mi_X9_chains tw_814 mv_X9_chains (rvX9 S) ⟨rfl, rfl⟩ ⟨Nat.le_of_ble_eq_true rfl, Nat.le_of_ble_eq_true rfl⟩ hc rfl hl.1 rfl (Nat.le_of_ble_eq_true rfl) dL_law_969 (fun H locs S => ?_)
  have S := S.sw
  refine lv_aload_n C.1 C.2.1 dL_law_972 rfl (lv_at hl 2 rfl) ?_
  refine lv_aload_n C.1 C.2.1 dL_law_973 rfl (lv_at hl 0 rfl) ?_
  refine lv_iload C.1 C.2.1 dL_law_974 (lv_at hl 4 rfl) ?_
  refine r_iconst C dL_law_976 ?_
  refine r_iadd C dL_law_977 ?_
  refine law_sld C S hX hbl hbA hL (i := i + 1) (by omega) dL_law_978 ?_
  refine lv_aload_n C.1 C.2.1 dL_law_979 rfl (lv_at hl 0 rfl) ?_
  refine lv_iload C.1 C.2.1 dL_law_980 (lv_at hl 4 rfl) ?_
  refine r_iconst C dL_law_982 ?_
  refine r_iadd C dL_law_983 ?_
  refine law_sld C S hX hbl hbA hL (i := i + 2) (by omega) dL_law_984 ?_
  refine lv_aload_n C.1 C.2.1 dL_law_985 rfl (lv_at hl 0 rfl) ?_
  refine lv_iload C.1 C.2.1 dL_law_986 (lv_at hl 4 rfl) ?_
  refine r_iconst C dL_law_988 ?_
  refine r_iadd C dL_law_989 ?_
  refine law_sld C S hX hbl hbA hL (i := i + 3) (by omega) dL_law_990 ?_
  refine r_callVv C S (As := [.int (oI (sc xs (i + 1))), .int (oI (sc xs (i + 2))), .int (oI (sc xs (i + 3)))]) (rest := [.int (oI q)]) (ct_X10_chains l G σd hm) mi_X10_chains tw_1473 mv_X10_chains (rvX10 S) ⟨rfl, rfl⟩ ⟨Nat.le_of_ble_eq_true rfl, Nat.le_of_ble_eq_true rfl⟩ hc rfl hl.1 rfl (Nat.le_of_ble_eq_true rfl) dL_law_991 (fun H locs S => ?_)
  have S := S.ws
  refine r_icmp_eq C rfl rfl (tgt := 2011) dL_law_994 (by decide) (fun _ => ?_) (fun h9 => absurd he h9)
  exact hk _ _ _ _ S hR'
theorem lw_case_tightest {Rel : Nat → Sg → Sg → Prop} {n : Nat} {i : Int} (C : Cx p s m #[.ref bA] c RL cL_law 7) (S : St G true σm σd s H locs) (E : Eq_tightest Rel) (hn : n < 512) (hR : Rel n σd σm) (hc : cells + 0 ≤ room_1.cells ∧ slots + 0 ≤ room_1.slots) (hi : 0 ≤ i ∧ i + 7 ≤ (L : Int)) (hX : va_X bA L xs s s.heap) (hbl : bA < s.heap.size) (hbA : ¬ AG G bA) (hL : L ≤ 3584) (hl : lv_has ls 7 [(0, .ref bA), (1, .ref (G.1 0)), (2, .ref (G.1 41)), (3, .ref (G.1 60)), (4, .int (oI i))])
    (hk : ∀ H locs (σd σm : Sg), St G true σm σd s H locs → Rel (n + 1) σd σm → W p l e room_1 s m #[.ref bA] below meth c H locs cells slots Q (F0 m 2011 ls [])) : W p l e room_1 s m #[.ref bA] below meth c H locs cells slots Q (F0 m 999 ls []) := by
  obtain ⟨q, q', hd, hm, he, hR'⟩ := E n σd σm  hn hR 
  refine lv_aload_n C.1 C.2.1 dL_law_999 rfl (lv_at hl 1 rfl) ?_
  refine r_callVv C S (As := []) (rest := []) (ct_X9_tightest l G σm hd) mi_X9_tightest tw_747 mv_X9_tightest (rvX9 S) ⟨rfl, rfl⟩ ⟨Nat.le_of_ble_eq_true rfl, Nat.le_of_ble_eq_true rfl⟩ hc rfl hl.1 rfl (Nat.le_of_ble_eq_true rfl) dL_law_1000 (fun H locs S => ?_)
  have S := S.sw
  refine lv_aload_n C.1 C.2.1 dL_law_1003 rfl (lv_at hl 2 rfl) ?_
  refine r_callVv C S (As := []) (rest := [.int (oI q)]) (ct_X10_tightest l G σd hm) mi_X10_tightest tw_1517 mv_X10_tightest (rvX10 S) ⟨rfl, rfl⟩ ⟨Nat.le_of_ble_eq_true rfl, Nat.le_of_ble_eq_true rfl⟩ hc rfl hl.1 rfl (Nat.le_of_ble_eq_true rfl) dL_law_1004 (fun H locs S => ?_)
  have S := S.ws
  refine r_icmp_eq C rfl rfl (tgt := 2011) dL_law_1007 (by decide) (fun _ => ?_) (fun h9 => absurd he h9)
  exact hk _ _ _ _ S hR'
theorem lw_case_together {Rel : Nat → Sg → Sg → Prop} {n : Nat} {i : Int} (C : Cx p s m #[.ref bA] c RL cL_law 7) (S : St G true σm σd s H locs) (E : Eq_together Rel) (hn : n < 512) (hR : Rel n σd σm) (hc : cells + 0 ≤ room_1.cells ∧ slots + 0 ≤ room_1.slots) (hi : 0 ≤ i ∧ i + 7 ≤ (L : Int)) (hX : va_X bA L xs s s.heap) (hbl : bA < s.heap.size) (hbA : ¬ AG G bA) (hL : L ≤ 3584) (hl : lv_has ls 7 [(0, .ref bA), (1, .ref (G.1 0)), (2, .ref (G.1 41)), (3, .ref (G.1 60)), (4, .int (oI i))])
    (hk : ∀ H locs (σd σm : Sg), St G true σm σd s H locs → Rel (n + 1) σd σm → W p l e room_1 s m #[.ref bA] below meth c H locs cells slots Q (F0 m 2011 ls [])) : W p l e room_1 s m #[.ref bA] below meth c H locs cells slots Q (F0 m 1012 ls []) := by
  obtain ⟨q, q', hd, hm, he, hR'⟩ := E n σd σm (sc xs (i + 1)) (sc xs (i + 2)) (sc xs (i + 3)) hn hR (sc_in xs (i + 1)) (sc_in xs (i + 2)) (sc_in xs (i + 3))
  refine lv_aload_n C.1 C.2.1 dL_law_1012 rfl (lv_at hl 1 rfl) ?_
  refine lv_aload_n C.1 C.2.1 dL_law_1013 rfl (lv_at hl 0 rfl) ?_
  refine lv_iload C.1 C.2.1 dL_law_1014 (lv_at hl 4 rfl) ?_
  refine r_iconst C dL_law_1016 ?_
  refine r_iadd C dL_law_1017 ?_
  refine law_sld C S hX hbl hbA hL (i := i + 1) (by omega) dL_law_1018 ?_
  refine lv_aload_n C.1 C.2.1 dL_law_1019 rfl (lv_at hl 0 rfl) ?_
  refine lv_iload C.1 C.2.1 dL_law_1020 (lv_at hl 4 rfl) ?_
  refine r_iconst C dL_law_1022 ?_
  refine r_iadd C dL_law_1023 ?_
  refine law_sld C S hX hbl hbA hL (i := i + 2) (by omega) dL_law_1024 ?_
  refine lv_aload_n C.1 C.2.1 dL_law_1025 rfl (lv_at hl 0 rfl) ?_
  refine lv_iload C.1 C.2.1 dL_law_1026 (lv_at hl 4 rfl) ?_
  refine r_iconst C dL_law_1028 ?_
  refine r_iadd C dL_law_1029 ?_
  refine law_sld C S hX hbl hbA hL (i := i + 3) (by omega) dL_law_1030 ?_
  refine r_callVv C S (As := [.int (oI (sc xs (i + 1))), .int (oI (sc xs (i + 2))), .int (oI (sc xs (i + 3)))]) (rest := []) (ct_X9_together l G σm hd) mi_X9_together tw_893 mv_X9_together (rvX9 S) ⟨rfl, rfl⟩ ⟨Nat.le_of_ble_eq_true rfl, Nat.le_of_ble_eq_true rfl⟩ hc rfl hl.1 rfl (Nat.le_of_ble_eq_true rfl) dL_law_1031 (fun H locs S => ?_)
  have S := S.sw
  refine lv_aload_n C.1 C.2.1 dL_law_1034 rfl (lv_at hl 2 rfl) ?_
  refine lv_aload_n C.1 C.2.1 dL_law_1035 rfl (lv_at hl 0 rfl) ?_
  refine lv_iload C.1 C.2.1 dL_law_1036 (lv_at hl 4 rfl) ?_
  refine r_iconst C dL_law_1038 ?_
  refine r_iadd C dL_law_1039 ?_
  refine law_sld C S hX hbl hbA hL (i := i + 1) (by omega) dL_law_1040 ?_
  refine lv_aload_n C.1 C.2.1 dL_law_1041 rfl (lv_at hl 0 rfl) ?_
  refine lv_iload C.1 C.2.1 dL_law_1042 (lv_at hl 4 rfl) ?_
  refine r_iconst C dL_law_1044 ?_
  refine r_iadd C dL_law_1045 ?_
  refine law_sld C S hX hbl hbA hL (i := i + 2) (by omega) dL_law_1046 ?_
  refine lv_aload_n C.1 C.2.1 dL_law_1047 rfl (lv_at hl 0 rfl) ?_
  refine lv_iload C.1 C.2.1 dL_law_1048 (lv_at hl 4 rfl) ?_
  refine r_iconst C dL_law_1050 ?_
  refine r_iadd C dL_law_1051 ?_
  refine law_sld C S hX hbl hbA hL (i := i + 3) (by omega) dL_law_1052 ?_
  refine r_callVv C S (As := [.int (oI (sc xs (i + 1))), .int (oI (sc xs (i + 2))), .int (oI (sc xs (i + 3)))]) (rest := [.int (oI q)]) (ct_X10_together l G σd hm) mi_X10_together tw_1521 mv_X10_together (rvX10 S) ⟨rfl, rfl⟩ ⟨Nat.le_of_ble_eq_true rfl, Nat.le_of_ble_eq_true rfl⟩ hc rfl hl.1 rfl (Nat.le_of_ble_eq_true rfl) dL_law_1053 (fun H locs S => ?_)
  have S := S.ws
  refine r_icmp_eq C rfl rfl (tgt := 2011) dL_law_1056 (by decide) (fun _ => ?_) (fun h9 => absurd he h9)
  exact hk _ _ _ _ S hR'
theorem lw_case_heaviest {Rel : Nat → Sg → Sg → Prop} {n : Nat} {i : Int} (C : Cx p s m #[.ref bA] c RL cL_law 7) (S : St G true σm σd s H locs) (E : Eq_heaviest Rel) (hn : n < 512) (hR : Rel n σd σm) (hc : cells + 0 ≤ room_1.cells ∧ slots + 0 ≤ room_1.slots) (hi : 0 ≤ i ∧ i + 7 ≤ (L : Int)) (hX : va_X bA L xs s s.heap) (hbl : bA < s.heap.size) (hbA : ¬ AG G bA) (hL : L ≤ 3584) (hl : lv_has ls 7 [(0, .ref bA), (1, .ref (G.1 0)), (2, .ref (G.1 41)), (3, .ref (G.1 60)), (4, .int (oI i))])
    (hk : ∀ H locs (σd σm : Sg), St G true σm σd s H locs → Rel (n + 1) σd σm → W p l e room_1 s m #[.ref bA] below meth c H locs cells slots Q (F0 m 2011 ls [])) : W p l e room_1 s m #[.ref bA] below meth c H locs cells slots Q (F0 m 1061 ls []) := by
  obtain ⟨q, q', hd, hm, he, hR'⟩ := E n σd σm (sc xs (i + 1)) (sc xs (i + 2)) hn hR (sc_in xs (i + 1)) (sc_in xs (i + 2))
  refine lv_aload_n C.1 C.2.1 dL_law_1061 rfl (lv_at hl 1 rfl) ?_
  refine lv_aload_n C.1 C.2.1 dL_law_1062 rfl (lv_at hl 0 rfl) ?_
  refine lv_iload C.1 C.2.1 dL_law_1063 (lv_at hl 4 rfl) ?_
  refine r_iconst C dL_law_1065 ?_
  refine r_iadd C dL_law_1066 ?_
  refine law_sld C S hX hbl hbA hL (i := i + 1) (by omega) dL_law_1067 ?_
  refine lv_aload_n C.1 C.2.1 dL_law_1068 rfl (lv_at hl 0 rfl) ?_
  refine lv_iload C.1 C.2.1 dL_law_1069 (lv_at hl 4 rfl) ?_
  refine r_iconst C dL_law_1071 ?_
  refine r_iadd C dL_law_1072 ?_
  refine law_sld C S hX hbl hbA hL (i := i + 2) (by omega) dL_law_1073 ?_
  refine r_callVv C S (As := [.int (oI (sc xs (i + 1))), .int (oI (sc xs (i + 2)))]) (rest := []) (ct_X9_heaviest l G σm hd) mi_X9_heaviest tw_826 mv_X9_heaviest (rvX9 S) ⟨rfl, rfl⟩ ⟨Nat.le_of_ble_eq_true rfl, Nat.le_of_ble_eq_true rfl⟩ hc rfl hl.1 rfl (Nat.le_of_ble_eq_true rfl) dL_law_1074 (fun H locs S => ?_)
  have S := S.sw
  refine lv_aload_n C.1 C.2.1 dL_law_1077 rfl (lv_at hl 2 rfl) ?_
  refine lv_aload_n C.1 C.2.1 dL_law_1078 rfl (lv_at hl 0 rfl) ?_
  refine lv_iload C.1 C.2.1 dL_law_1079 (lv_at hl 4 rfl) ?_
  refine r_iconst C dL_law_1081 ?_
  refine r_iadd C dL_law_1082 ?_
  refine law_sld C S hX hbl hbA hL (i := i + 1) (by omega) dL_law_1083 ?_
  refine lv_aload_n C.1 C.2.1 dL_law_1084 rfl (lv_at hl 0 rfl) ?_
  refine lv_iload C.1 C.2.1 dL_law_1085 (lv_at hl 4 rfl) ?_
  refine r_iconst C dL_law_1087 ?_
  refine r_iadd C dL_law_1088 ?_
  refine law_sld C S hX hbl hbA hL (i := i + 2) (by omega) dL_law_1089 ?_
  refine r_callVv C S (As := [.int (oI (sc xs (i + 1))), .int (oI (sc xs (i + 2)))]) (rest := [.int (oI q.1)]) (ct_X10_heaviest l G q.2 hm) mi_X10_heaviest tw_1525 mv_X10_heaviest (rvX10 S) ⟨rfl, rfl⟩ ⟨Nat.le_of_ble_eq_true rfl, Nat.le_of_ble_eq_true rfl⟩ hc rfl hl.1 rfl (Nat.le_of_ble_eq_true rfl) dL_law_1090 (fun H locs S => ?_)
  have S := S.ws
  refine r_icmp_eq C rfl rfl (tgt := 2011) dL_law_1093 (by decide) (fun _ => ?_) (fun h9 => absurd he h9)
  exact hk _ _ _ _ S hR'
theorem lw_case_heaviestSet {Rel : Nat → Sg → Sg → Prop} {n : Nat} {i : Int} (C : Cx p s m #[.ref bA] c RL cL_law 7) (S : St G true σm σd s H locs) (E : Eq_heaviestSet Rel) (hn : n < 512) (hR : Rel n σd σm) (hc : cells + 0 ≤ room_1.cells ∧ slots + 0 ≤ room_1.slots) (hi : 0 ≤ i ∧ i + 7 ≤ (L : Int)) (hX : va_X bA L xs s s.heap) (hbl : bA < s.heap.size) (hbA : ¬ AG G bA) (hL : L ≤ 3584) (hl : lv_has ls 7 [(0, .ref bA), (1, .ref (G.1 0)), (2, .ref (G.1 41)), (3, .ref (G.1 60)), (4, .int (oI i))])
    (hk : ∀ H locs (σd σm : Sg), St G true σm σd s H locs → Rel (n + 1) σd σm → W p l e room_1 s m #[.ref bA] below meth c H locs cells slots Q (F0 m 2011 ls [])) : W p l e room_1 s m #[.ref bA] below meth c H locs cells slots Q (F0 m 1098 ls []) := by
  obtain ⟨q, q', hd, hm, he, hR'⟩ := E n σd σm (sc xs (i + 1)) (sc xs (i + 2)) hn hR (sc_in xs (i + 1)) (sc_in xs (i + 2))
  refine lv_aload_n C.1 C.2.1 dL_law_1098 rfl (lv_at hl 1 rfl) ?_
  refine lv_aload_n C.1 C.2.1 dL_law_1099 rfl (lv_at hl 0 rfl) ?_
  refine lv_iload C.1 C.2.1 dL_law_1100 (lv_at hl 4 rfl) ?_
  refine r_iconst C dL_law_1102 ?_
  refine r_iadd C dL_law_1103 ?_
  refine law_sld C S hX hbl hbA hL (i := i + 1) (by omega) dL_law_1104 ?_
  refine lv_aload_n C.1 C.2.1 dL_law_1105 rfl (lv_at hl 0 rfl) ?_
  refine lv_iload C.1 C.2.1 dL_law_1106 (lv_at hl 4 rfl) ?_
  refine r_iconst C dL_law_1108 ?_
  refine r_iadd C dL_law_1109 ?_
  refine law_sld C S hX hbl hbA hL (i := i + 2) (by omega) dL_law_1110 ?_
  refine r_callVv C S (As := [.int (oI (sc xs (i + 1))), .int (oI (sc xs (i + 2)))]) (rest := []) (ct_X9_heaviestSet l G σm hd) mi_X9_heaviestSet tw_835 mv_X9_heaviestSet (rvX9 S) ⟨rfl, rfl⟩ ⟨Nat.le_of_ble_eq_true rfl, Nat.le_of_ble_eq_true rfl⟩ hc rfl hl.1 rfl (Nat.le_of_ble_eq_true rfl) dL_law_1111 (fun H locs S => ?_)
  have S := S.sw
  refine lv_aload_n C.1 C.2.1 dL_law_1114 rfl (lv_at hl 2 rfl) ?_
  refine lv_aload_n C.1 C.2.1 dL_law_1115 rfl (lv_at hl 0 rfl) ?_
  refine lv_iload C.1 C.2.1 dL_law_1116 (lv_at hl 4 rfl) ?_
  refine r_iconst C dL_law_1118 ?_
  refine r_iadd C dL_law_1119 ?_
  refine law_sld C S hX hbl hbA hL (i := i + 1) (by omega) dL_law_1120 ?_
  refine lv_aload_n C.1 C.2.1 dL_law_1121 rfl (lv_at hl 0 rfl) ?_
  refine lv_iload C.1 C.2.1 dL_law_1122 (lv_at hl 4 rfl) ?_
  refine r_iconst C dL_law_1124 ?_
  refine r_iadd C dL_law_1125 ?_
  refine law_sld C S hX hbl hbA hL (i := i + 2) (by omega) dL_law_1126 ?_
  refine r_callVv C S (As := [.int (oI (sc xs (i + 1))), .int (oI (sc xs (i + 2)))]) (rest := [.int (oI q.1)]) (ct_X10_heaviestSet l G q.2 hm) mi_X10_heaviestSet tw_1529 mv_X10_heaviestSet (rvX10 S) ⟨rfl, rfl⟩ ⟨Nat.le_of_ble_eq_true rfl, Nat.le_of_ble_eq_true rfl⟩ hc rfl hl.1 rfl (Nat.le_of_ble_eq_true rfl) dL_law_1127 (fun H locs S => ?_)
  have S := S.ws
  refine r_icmp_eq C rfl rfl (tgt := 2011) dL_law_1130 (by decide) (fun _ => ?_) (fun h9 => absurd he h9)
  exact hk _ _ _ _ S hR'
theorem lw_case_two {Rel : Nat → Sg → Sg → Prop} {n : Nat} {i : Int} (C : Cx p s m #[.ref bA] c RL cL_law 7) (S : St G true σm σd s H locs) (E : Eq_two Rel) (hn : n < 512) (hR : Rel n σd σm) (hc : cells + 0 ≤ room_1.cells ∧ slots + 0 ≤ room_1.slots) (hi : 0 ≤ i ∧ i + 7 ≤ (L : Int)) (hX : va_X bA L xs s s.heap) (hbl : bA < s.heap.size) (hbA : ¬ AG G bA) (hL : L ≤ 3584) (hl : lv_has ls 7 [(0, .ref bA), (1, .ref (G.1 0)), (2, .ref (G.1 41)), (3, .ref (G.1 60)), (4, .int (oI i))])
    (hk : ∀ H locs (σd σm : Sg), St G true σm σd s H locs → Rel (n + 1) σd σm → W p l e room_1 s m #[.ref bA] below meth c H locs cells slots Q (F0 m 2011 ls [])) : W p l e room_1 s m #[.ref bA] below meth c H locs cells slots Q (F0 m 1135 ls []) := by
  obtain ⟨q, q', hd, hm, he, hR'⟩ := E n σd σm (sc xs (i + 1)) (sc xs (i + 2)) (sc xs (i + 3)) hn hR (sc_in xs (i + 1)) (sc_in xs (i + 2)) (sc_in xs (i + 3))
  refine lv_aload_n C.1 C.2.1 dL_law_1135 rfl (lv_at hl 1 rfl) ?_
  refine lv_aload_n C.1 C.2.1 dL_law_1136 rfl (lv_at hl 0 rfl) ?_
  refine lv_iload C.1 C.2.1 dL_law_1137 (lv_at hl 4 rfl) ?_
  refine r_iconst C dL_law_1139 ?_
  refine r_iadd C dL_law_1140 ?_
  refine law_sld C S hX hbl hbA hL (i := i + 1) (by omega) dL_law_1141 ?_
  refine lv_aload_n C.1 C.2.1 dL_law_1142 rfl (lv_at hl 0 rfl) ?_
  refine lv_iload C.1 C.2.1 dL_law_1143 (lv_at hl 4 rfl) ?_
  refine r_iconst C dL_law_1145 ?_
  refine r_iadd C dL_law_1146 ?_
  refine law_sld C S hX hbl hbA hL (i := i + 2) (by omega) dL_law_1147 ?_
  refine lv_aload_n C.1 C.2.1 dL_law_1148 rfl (lv_at hl 0 rfl) ?_
  refine lv_iload C.1 C.2.1 dL_law_1149 (lv_at hl 4 rfl) ?_
  refine r_iconst C dL_law_1151 ?_
  refine r_iadd C dL_law_1152 ?_
  refine law_sld C S hX hbl hbA hL (i := i + 3) (by omega) dL_law_1153 ?_
  refine r_callVv C S (As := [.int (oI (sc xs (i + 1))), .int (oI (sc xs (i + 2))), .int (oI (sc xs (i + 3)))]) (rest := []) (ct_X9_two l G σm hd) mi_X9_two tw_839 mv_X9_two (rvX9 S) ⟨rfl, rfl⟩ ⟨Nat.le_of_ble_eq_true rfl, Nat.le_of_ble_eq_true rfl⟩ hc rfl hl.1 rfl (Nat.le_of_ble_eq_true rfl) dL_law_1154 (fun H locs S => ?_)
  have S := S.sw
  refine lv_aload_n C.1 C.2.1 dL_law_1157 rfl (lv_at hl 2 rfl) ?_
  refine lv_aload_n C.1 C.2.1 dL_law_1158 rfl (lv_at hl 0 rfl) ?_
  refine lv_iload C.1 C.2.1 dL_law_1159 (lv_at hl 4 rfl) ?_
  refine r_iconst C dL_law_1161 ?_
  refine r_iadd C dL_law_1162 ?_
  refine law_sld C S hX hbl hbA hL (i := i + 1) (by omega) dL_law_1163 ?_
  refine lv_aload_n C.1 C.2.1 dL_law_1164 rfl (lv_at hl 0 rfl) ?_
  refine lv_iload C.1 C.2.1 dL_law_1165 (lv_at hl 4 rfl) ?_
  refine r_iconst C dL_law_1167 ?_
  refine r_iadd C dL_law_1168 ?_
  refine law_sld C S hX hbl hbA hL (i := i + 2) (by omega) dL_law_1169 ?_
  refine lv_aload_n C.1 C.2.1 dL_law_1170 rfl (lv_at hl 0 rfl) ?_
  refine lv_iload C.1 C.2.1 dL_law_1171 (lv_at hl 4 rfl) ?_
  refine r_iconst C dL_law_1173 ?_
  refine r_iadd C dL_law_1174 ?_
  refine law_sld C S hX hbl hbA hL (i := i + 3) (by omega) dL_law_1175 ?_
  refine r_callVv C S (As := [.int (oI (sc xs (i + 1))), .int (oI (sc xs (i + 2))), .int (oI (sc xs (i + 3)))]) (rest := [.int (oI q.1)]) (ct_X10_two l G q.2 hm) mi_X10_two tw_1481 mv_X10_two (rvX10 S) ⟨rfl, rfl⟩ ⟨Nat.le_of_ble_eq_true rfl, Nat.le_of_ble_eq_true rfl⟩ hc rfl hl.1 rfl (Nat.le_of_ble_eq_true rfl) dL_law_1176 (fun H locs S => ?_)
  have S := S.ws
  refine r_icmp_eq C rfl rfl (tgt := 2011) dL_law_1179 (by decide) (fun _ => ?_) (fun h9 => absurd he h9)
  exact hk _ _ _ _ S hR'
theorem lw_case_cover {Rel : Nat → Sg → Sg → Prop} {n : Nat} {i : Int} (C : Cx p s m #[.ref bA] c RL cL_law 7) (S : St G true σm σd s H locs) (E : Eq_cover Rel) (hn : n < 512) (hR : Rel n σd σm) (hc : cells + 0 ≤ room_1.cells ∧ slots + 0 ≤ room_1.slots) (hi : 0 ≤ i ∧ i + 7 ≤ (L : Int)) (hX : va_X bA L xs s s.heap) (hbl : bA < s.heap.size) (hbA : ¬ AG G bA) (hL : L ≤ 3584) (hl : lv_has ls 7 [(0, .ref bA), (1, .ref (G.1 0)), (2, .ref (G.1 41)), (3, .ref (G.1 60)), (4, .int (oI i))])
    (hk : ∀ H locs (σd σm : Sg), St G true σm σd s H locs → Rel (n + 1) σd σm → W p l e room_1 s m #[.ref bA] below meth c H locs cells slots Q (F0 m 2011 ls [])) : W p l e room_1 s m #[.ref bA] below meth c H locs cells slots Q (F0 m 1184 ls []) := by
  obtain ⟨q, q', hd, hm, he, hR'⟩ := E n σd σm (sc xs (i + 1)) (sc xs (i + 2)) hn hR (sc_in xs (i + 1)) (sc_in xs (i + 2))
  refine lv_aload_n C.1 C.2.1 dL_law_1184 rfl (lv_at hl 1 rfl) ?_
  refine lv_aload_n C.1 C.2.1 dL_law_1185 rfl (lv_at hl 0 rfl) ?_
  refine lv_iload C.1 C.2.1 dL_law_1186 (lv_at hl 4 rfl) ?_
  refine r_iconst C dL_law_1188 ?_
  refine r_iadd C dL_law_1189 ?_
  refine law_sld C S hX hbl hbA hL (i := i + 1) (by omega) dL_law_1190 ?_
  refine lv_aload_n C.1 C.2.1 dL_law_1191 rfl (lv_at hl 0 rfl) ?_
  refine lv_iload C.1 C.2.1 dL_law_1192 (lv_at hl 4 rfl) ?_
  refine r_iconst C dL_law_1194 ?_
  refine r_iadd C dL_law_1195 ?_
  refine law_sld C S hX hbl hbA hL (i := i + 2) (by omega) dL_law_1196 ?_
  refine r_callVv C S (As := [.int (oI (sc xs (i + 1))), .int (oI (sc xs (i + 2)))]) (rest := []) (ct_X9_cover l G σm hd) mi_X9_cover tw_860 mv_X9_cover (rvX9 S) ⟨rfl, rfl⟩ ⟨Nat.le_of_ble_eq_true rfl, Nat.le_of_ble_eq_true rfl⟩ hc rfl hl.1 rfl (Nat.le_of_ble_eq_true rfl) dL_law_1197 (fun H locs S => ?_)
  have S := S.sw
  refine lv_aload_n C.1 C.2.1 dL_law_1200 rfl (lv_at hl 2 rfl) ?_
  refine lv_aload_n C.1 C.2.1 dL_law_1201 rfl (lv_at hl 0 rfl) ?_
  refine lv_iload C.1 C.2.1 dL_law_1202 (lv_at hl 4 rfl) ?_
  refine r_iconst C dL_law_1204 ?_
  refine r_iadd C dL_law_1205 ?_
  refine law_sld C S hX hbl hbA hL (i := i + 1) (by omega) dL_law_1206 ?_
  refine lv_aload_n C.1 C.2.1 dL_law_1207 rfl (lv_at hl 0 rfl) ?_
  refine lv_iload C.1 C.2.1 dL_law_1208 (lv_at hl 4 rfl) ?_
  refine r_iconst C dL_law_1210 ?_
  refine r_iadd C dL_law_1211 ?_
  refine law_sld C S hX hbl hbA hL (i := i + 2) (by omega) dL_law_1212 ?_
  refine r_callVv C S (As := [.int (oI (sc xs (i + 1))), .int (oI (sc xs (i + 2)))]) (rest := [.int (oI q.1)]) (ct_X10_cover l G q.2 hm) mi_X10_cover tw_1493 mv_X10_cover (rvX10 S) ⟨rfl, rfl⟩ ⟨Nat.le_of_ble_eq_true rfl, Nat.le_of_ble_eq_true rfl⟩ hc rfl hl.1 rfl (Nat.le_of_ble_eq_true rfl) dL_law_1213 (fun H locs S => ?_)
  have S := S.ws
  refine r_icmp_eq C rfl rfl (tgt := 2011) dL_law_1216 (by decide) (fun _ => ?_) (fun h9 => absurd he h9)
  exact hk _ _ _ _ S hR'
theorem lw_case_square {Rel : Nat → Sg → Sg → Prop} {n : Nat} {i : Int} (C : Cx p s m #[.ref bA] c RL cL_law 7) (S : St G true σm σd s H locs) (E : Eq_square Rel) (hn : n < 512) (hR : Rel n σd σm) (hc : cells + 0 ≤ room_1.cells ∧ slots + 0 ≤ room_1.slots) (hi : 0 ≤ i ∧ i + 7 ≤ (L : Int)) (hX : va_X bA L xs s s.heap) (hbl : bA < s.heap.size) (hbA : ¬ AG G bA) (hL : L ≤ 3584) (hl : lv_has ls 7 [(0, .ref bA), (1, .ref (G.1 0)), (2, .ref (G.1 41)), (3, .ref (G.1 60)), (4, .int (oI i))])
    (hk : ∀ H locs (σd σm : Sg), St G true σm σd s H locs → Rel (n + 1) σd σm → W p l e room_1 s m #[.ref bA] below meth c H locs cells slots Q (F0 m 2011 ls [])) : W p l e room_1 s m #[.ref bA] below meth c H locs cells slots Q (F0 m 1221 ls []) := by
  obtain ⟨q, q', hd, hm, he, hR'⟩ := E n σd σm (sc xs (i + 1)) (sc xs (i + 2)) (sc xs (i + 3)) hn hR (sc_in xs (i + 1)) (sc_in xs (i + 2)) (sc_in xs (i + 3))
  refine lv_aload_n C.1 C.2.1 dL_law_1221 rfl (lv_at hl 1 rfl) ?_
  refine lv_aload_n C.1 C.2.1 dL_law_1222 rfl (lv_at hl 0 rfl) ?_
  refine lv_iload C.1 C.2.1 dL_law_1223 (lv_at hl 4 rfl) ?_
  refine r_iconst C dL_law_1225 ?_
  refine r_iadd C dL_law_1226 ?_
  refine law_sld C S hX hbl hbA hL (i := i + 1) (by omega) dL_law_1227 ?_
  refine lv_aload_n C.1 C.2.1 dL_law_1228 rfl (lv_at hl 0 rfl) ?_
  refine lv_iload C.1 C.2.1 dL_law_1229 (lv_at hl 4 rfl) ?_
  refine r_iconst C dL_law_1231 ?_
  refine r_iadd C dL_law_1232 ?_
  refine law_sld C S hX hbl hbA hL (i := i + 2) (by omega) dL_law_1233 ?_
  refine lv_aload_n C.1 C.2.1 dL_law_1234 rfl (lv_at hl 0 rfl) ?_
  refine lv_iload C.1 C.2.1 dL_law_1235 (lv_at hl 4 rfl) ?_
  refine r_iconst C dL_law_1237 ?_
  refine r_iadd C dL_law_1238 ?_
  refine law_sld C S hX hbl hbA hL (i := i + 3) (by omega) dL_law_1239 ?_
  refine r_callVv C S (As := [.int (oI (sc xs (i + 1))), .int (oI (sc xs (i + 2))), .int (oI (sc xs (i + 3)))]) (rest := []) (ct_X9_square l G σm hd) mi_X9_square tw_881 mv_X9_square (rvX9 S) ⟨rfl, rfl⟩ ⟨Nat.le_of_ble_eq_true rfl, Nat.le_of_ble_eq_true rfl⟩ hc rfl hl.1 rfl (Nat.le_of_ble_eq_true rfl) dL_law_1240 (fun H locs S => ?_)
  have S := S.sw
  refine lv_aload_n C.1 C.2.1 dL_law_1243 rfl (lv_at hl 2 rfl) ?_
  refine lv_aload_n C.1 C.2.1 dL_law_1244 rfl (lv_at hl 0 rfl) ?_
  refine lv_iload C.1 C.2.1 dL_law_1245 (lv_at hl 4 rfl) ?_
  refine r_iconst C dL_law_1247 ?_
  refine r_iadd C dL_law_1248 ?_
  refine law_sld C S hX hbl hbA hL (i := i + 1) (by omega) dL_law_1249 ?_
  refine lv_aload_n C.1 C.2.1 dL_law_1250 rfl (lv_at hl 0 rfl) ?_
  refine lv_iload C.1 C.2.1 dL_law_1251 (lv_at hl 4 rfl) ?_
  refine r_iconst C dL_law_1253 ?_
  refine r_iadd C dL_law_1254 ?_
  refine law_sld C S hX hbl hbA hL (i := i + 2) (by omega) dL_law_1255 ?_
  refine lv_aload_n C.1 C.2.1 dL_law_1256 rfl (lv_at hl 0 rfl) ?_
  refine lv_iload C.1 C.2.1 dL_law_1257 (lv_at hl 4 rfl) ?_
  refine r_iconst C dL_law_1259 ?_
  refine r_iadd C dL_law_1260 ?_
  refine law_sld C S hX hbl hbA hL (i := i + 3) (by omega) dL_law_1261 ?_
  refine r_callVv C S (As := [.int (oI (sc xs (i + 1))), .int (oI (sc xs (i + 2))), .int (oI (sc xs (i + 3)))]) (rest := [.int (oI q)]) (ct_X10_square l G σd hm) mi_X10_square tw_1501 mv_X10_square (rvX10 S) ⟨rfl, rfl⟩ ⟨Nat.le_of_ble_eq_true rfl, Nat.le_of_ble_eq_true rfl⟩ hc rfl hl.1 rfl (Nat.le_of_ble_eq_true rfl) dL_law_1262 (fun H locs S => ?_)
  have S := S.ws
  refine r_icmp_eq C rfl rfl (tgt := 2011) dL_law_1265 (by decide) (fun _ => ?_) (fun h9 => absurd he h9)
  exact hk _ _ _ _ S hR'
theorem lw_case_radiusFor {Rel : Nat → Sg → Sg → Prop} {n : Nat} {i : Int} (C : Cx p s m #[.ref bA] c RL cL_law 7) (S : St G true σm σd s H locs) (E : Eq_radiusFor Rel) (hn : n < 512) (hR : Rel n σd σm) (hc : cells + 0 ≤ room_1.cells ∧ slots + 0 ≤ room_1.slots) (hi : 0 ≤ i ∧ i + 7 ≤ (L : Int)) (hX : va_X bA L xs s s.heap) (hbl : bA < s.heap.size) (hbA : ¬ AG G bA) (hL : L ≤ 3584) (hl : lv_has ls 7 [(0, .ref bA), (1, .ref (G.1 0)), (2, .ref (G.1 41)), (3, .ref (G.1 60)), (4, .int (oI i))])
    (hk : ∀ H locs (σd σm : Sg), St G true σm σd s H locs → Rel (n + 1) σd σm → W p l e room_1 s m #[.ref bA] below meth c H locs cells slots Q (F0 m 2011 ls [])) : W p l e room_1 s m #[.ref bA] below meth c H locs cells slots Q (F0 m 1270 ls []) := by
  obtain ⟨q, q', hd, hm, he, hR'⟩ := E n σd σm (sc xs (i + 1)) (sc xs (i + 2)) hn hR (sc_in xs (i + 1)) (sc_in xs (i + 2))
  refine lv_aload_n C.1 C.2.1 dL_law_1270 rfl (lv_at hl 1 rfl) ?_
  refine lv_aload_n C.1 C.2.1 dL_law_1271 rfl (lv_at hl 0 rfl) ?_
  refine lv_iload C.1 C.2.1 dL_law_1272 (lv_at hl 4 rfl) ?_
  refine r_iconst C dL_law_1274 ?_
  refine r_iadd C dL_law_1275 ?_
  refine law_sld C S hX hbl hbA hL (i := i + 1) (by omega) dL_law_1276 ?_
  refine lv_aload_n C.1 C.2.1 dL_law_1277 rfl (lv_at hl 0 rfl) ?_
  refine lv_iload C.1 C.2.1 dL_law_1278 (lv_at hl 4 rfl) ?_
  refine r_iconst C dL_law_1280 ?_
  refine r_iadd C dL_law_1281 ?_
  refine law_sld C S hX hbl hbA hL (i := i + 2) (by omega) dL_law_1282 ?_
  refine r_callVv C S (As := [.int (oI (sc xs (i + 1))), .int (oI (sc xs (i + 2)))]) (rest := []) (ct_X9_radiusFor l G σm hd) mi_X9_radiusFor tw_889 mv_X9_radiusFor (rvX9 S) ⟨rfl, rfl⟩ ⟨Nat.le_of_ble_eq_true rfl, Nat.le_of_ble_eq_true rfl⟩ hc rfl hl.1 rfl (Nat.le_of_ble_eq_true rfl) dL_law_1283 (fun H locs S => ?_)
  have S := S.sw
  refine lv_aload_n C.1 C.2.1 dL_law_1286 rfl (lv_at hl 2 rfl) ?_
  refine lv_aload_n C.1 C.2.1 dL_law_1287 rfl (lv_at hl 0 rfl) ?_
  refine lv_iload C.1 C.2.1 dL_law_1288 (lv_at hl 4 rfl) ?_
  refine r_iconst C dL_law_1290 ?_
  refine r_iadd C dL_law_1291 ?_
  refine law_sld C S hX hbl hbA hL (i := i + 1) (by omega) dL_law_1292 ?_
  refine lv_aload_n C.1 C.2.1 dL_law_1293 rfl (lv_at hl 0 rfl) ?_
  refine lv_iload C.1 C.2.1 dL_law_1294 (lv_at hl 4 rfl) ?_
  refine r_iconst C dL_law_1296 ?_
  refine r_iadd C dL_law_1297 ?_
  refine law_sld C S hX hbl hbA hL (i := i + 2) (by omega) dL_law_1298 ?_
  refine r_callVv C S (As := [.int (oI (sc xs (i + 1))), .int (oI (sc xs (i + 2)))]) (rest := [.int (oI q.1)]) (ct_X10_radiusFor l G q.2 hm) mi_X10_radiusFor tw_1533 mv_X10_radiusFor (rvX10 S) ⟨rfl, rfl⟩ ⟨Nat.le_of_ble_eq_true rfl, Nat.le_of_ble_eq_true rfl⟩ hc rfl hl.1 rfl (Nat.le_of_ble_eq_true rfl) dL_law_1299 (fun H locs S => ?_)
  have S := S.ws
  refine r_icmp_eq C rfl rfl (tgt := 2011) dL_law_1302 (by decide) (fun _ => ?_) (fun h9 => absurd he h9)
  exact hk _ _ _ _ S hR'
theorem lw_case_ifWritten {Rel : Nat → Sg → Sg → Prop} {n : Nat} {i : Int} (C : Cx p s m #[.ref bA] c RL cL_law 7) (S : St G true σm σd s H locs) (E : Eq_ifWritten Rel) (hn : n < 512) (hR : Rel n σd σm) (hc : cells + 0 ≤ room_1.cells ∧ slots + 0 ≤ room_1.slots) (hi : 0 ≤ i ∧ i + 7 ≤ (L : Int)) (hX : va_X bA L xs s s.heap) (hbl : bA < s.heap.size) (hbA : ¬ AG G bA) (hL : L ≤ 3584) (hl : lv_has ls 7 [(0, .ref bA), (1, .ref (G.1 0)), (2, .ref (G.1 41)), (3, .ref (G.1 60)), (4, .int (oI i))])
    (hk : ∀ H locs (σd σm : Sg), St G true σm σd s H locs → Rel (n + 1) σd σm → W p l e room_1 s m #[.ref bA] below meth c H locs cells slots Q (F0 m 2011 ls [])) : W p l e room_1 s m #[.ref bA] below meth c H locs cells slots Q (F0 m 1307 ls []) := by
  obtain ⟨q, q', hd, hm, he, hR'⟩ := E n σd σm (sc xs (i + 1)) (sc xs (i + 2)) (sc xs (i + 3)) (sc xs (i + 4)) (sc xs (i + 5)) hn hR (sc_in xs (i + 1)) (sc_in xs (i + 2)) (sc_in xs (i + 3)) (sc_in xs (i + 4)) (sc_in xs (i + 5))
  refine lv_aload_n C.1 C.2.1 dL_law_1307 rfl (lv_at hl 1 rfl) ?_
  refine lv_aload_n C.1 C.2.1 dL_law_1308 rfl (lv_at hl 0 rfl) ?_
  refine lv_iload C.1 C.2.1 dL_law_1309 (lv_at hl 4 rfl) ?_
  refine r_iconst C dL_law_1311 ?_
  refine r_iadd C dL_law_1312 ?_
  refine law_sld C S hX hbl hbA hL (i := i + 1) (by omega) dL_law_1313 ?_
  refine lv_aload_n C.1 C.2.1 dL_law_1314 rfl (lv_at hl 0 rfl) ?_
  refine lv_iload C.1 C.2.1 dL_law_1315 (lv_at hl 4 rfl) ?_
  refine r_iconst C dL_law_1317 ?_
  refine r_iadd C dL_law_1318 ?_
  refine law_sld C S hX hbl hbA hL (i := i + 2) (by omega) dL_law_1319 ?_
  refine lv_aload_n C.1 C.2.1 dL_law_1320 rfl (lv_at hl 0 rfl) ?_
  refine lv_iload C.1 C.2.1 dL_law_1321 (lv_at hl 4 rfl) ?_
  refine r_iconst C dL_law_1323 ?_
  refine r_iadd C dL_law_1324 ?_
  refine law_sld C S hX hbl hbA hL (i := i + 3) (by omega) dL_law_1325 ?_
  refine lv_aload_n C.1 C.2.1 dL_law_1326 rfl (lv_at hl 0 rfl) ?_
  refine lv_iload C.1 C.2.1 dL_law_1327 (lv_at hl 4 rfl) ?_
  refine r_iconst C dL_law_1329 ?_
  refine r_iadd C dL_law_1330 ?_
  refine law_sld C S hX hbl hbA hL (i := i + 4) (by omega) dL_law_1331 ?_
  refine lv_aload_n C.1 C.2.1 dL_law_1332 rfl (lv_at hl 0 rfl) ?_
  refine lv_iload C.1 C.2.1 dL_law_1333 (lv_at hl 4 rfl) ?_
  refine r_iconst C dL_law_1335 ?_
  refine r_iadd C dL_law_1336 ?_
  refine law_sld C S hX hbl hbA hL (i := i + 5) (by omega) dL_law_1337 ?_
  refine r_callVv C S (As := [.int (oI (sc xs (i + 1))), .int (oI (sc xs (i + 2))), .int (oI (sc xs (i + 3))), .int (oI (sc xs (i + 4))), .int (oI (sc xs (i + 5)))]) (rest := []) (ct_X9_ifWritten l G σm hd) mi_X9_ifWritten tw_772 mv_X9_ifWritten (rvX9 S) ⟨rfl, rfl⟩ ⟨Nat.le_of_ble_eq_true rfl, Nat.le_of_ble_eq_true rfl⟩ hc rfl hl.1 rfl (Nat.le_of_ble_eq_true rfl) dL_law_1338 (fun H locs S => ?_)
  have S := S.sw
  refine lv_aload_n C.1 C.2.1 dL_law_1341 rfl (lv_at hl 2 rfl) ?_
  refine lv_aload_n C.1 C.2.1 dL_law_1342 rfl (lv_at hl 0 rfl) ?_
  refine lv_iload C.1 C.2.1 dL_law_1343 (lv_at hl 4 rfl) ?_
  refine r_iconst C dL_law_1345 ?_
  refine r_iadd C dL_law_1346 ?_
  refine law_sld C S hX hbl hbA hL (i := i + 1) (by omega) dL_law_1347 ?_
  refine lv_aload_n C.1 C.2.1 dL_law_1348 rfl (lv_at hl 0 rfl) ?_
  refine lv_iload C.1 C.2.1 dL_law_1349 (lv_at hl 4 rfl) ?_
  refine r_iconst C dL_law_1351 ?_
  refine r_iadd C dL_law_1352 ?_
  refine law_sld C S hX hbl hbA hL (i := i + 2) (by omega) dL_law_1353 ?_
  refine lv_aload_n C.1 C.2.1 dL_law_1354 rfl (lv_at hl 0 rfl) ?_
  refine lv_iload C.1 C.2.1 dL_law_1355 (lv_at hl 4 rfl) ?_
  refine r_iconst C dL_law_1357 ?_
  refine r_iadd C dL_law_1358 ?_
  refine law_sld C S hX hbl hbA hL (i := i + 3) (by omega) dL_law_1359 ?_
  refine lv_aload_n C.1 C.2.1 dL_law_1360 rfl (lv_at hl 0 rfl) ?_
  refine lv_iload C.1 C.2.1 dL_law_1361 (lv_at hl 4 rfl) ?_
  refine r_iconst C dL_law_1363 ?_
  refine r_iadd C dL_law_1364 ?_
  refine law_sld C S hX hbl hbA hL (i := i + 4) (by omega) dL_law_1365 ?_
  refine lv_aload_n C.1 C.2.1 dL_law_1366 rfl (lv_at hl 0 rfl) ?_
  refine lv_iload C.1 C.2.1 dL_law_1367 (lv_at hl 4 rfl) ?_
  refine r_iconst C dL_law_1369 ?_
  refine r_iadd C dL_law_1370 ?_
  refine law_sld C S hX hbl hbA hL (i := i + 5) (by omega) dL_law_1371 ?_
  refine r_callVv C S (As := [.int (oI (sc xs (i + 1))), .int (oI (sc xs (i + 2))), .int (oI (sc xs (i + 3))), .int (oI (sc xs (i + 4))), .int (oI (sc xs (i + 5)))]) (rest := [.int (oI q.1)]) (ct_X10_ifWritten l G q.2 hm) mi_X10_ifWritten tw_1537 mv_X10_ifWritten (rvX10 S) ⟨rfl, rfl⟩ ⟨Nat.le_of_ble_eq_true rfl, Nat.le_of_ble_eq_true rfl⟩ hc rfl hl.1 rfl (Nat.le_of_ble_eq_true rfl) dL_law_1372 (fun H locs S => ?_)
  have S := S.ws
  refine r_icmp_eq C rfl rfl (tgt := 2011) dL_law_1375 (by decide) (fun _ => ?_) (fun h9 => absurd he h9)
  exact hk _ _ _ _ S hR'
theorem lw_case_about {Rel : Nat → Sg → Sg → Prop} {n : Nat} {i : Int} (C : Cx p s m #[.ref bA] c RL cL_law 7) (S : St G true σm σd s H locs) (E : Eq_about Rel) (hn : n < 512) (hR : Rel n σd σm) (hc : cells + 0 ≤ room_1.cells ∧ slots + 0 ≤ room_1.slots) (hi : 0 ≤ i ∧ i + 7 ≤ (L : Int)) (hX : va_X bA L xs s s.heap) (hbl : bA < s.heap.size) (hbA : ¬ AG G bA) (hL : L ≤ 3584) (hl : lv_has ls 7 [(0, .ref bA), (1, .ref (G.1 0)), (2, .ref (G.1 41)), (3, .ref (G.1 60)), (4, .int (oI i))])
    (hk : ∀ H locs (σd σm : Sg), St G true σm σd s H locs → Rel (n + 1) σd σm → W p l e room_1 s m #[.ref bA] below meth c H locs cells slots Q (F0 m 2011 ls [])) : W p l e room_1 s m #[.ref bA] below meth c H locs cells slots Q (F0 m 1380 ls []) := by
  obtain ⟨q, q', hd, hm, he, hR'⟩ := E n σd σm (sc xs (i + 1)) (sc xs (i + 2)) (sc xs (i + 3)) hn hR (sc_in xs (i + 1)) (sc_in xs (i + 2)) (sc_in xs (i + 3))
  refine lv_aload_n C.1 C.2.1 dL_law_1380 rfl (lv_at hl 1 rfl) ?_
  refine lv_aload_n C.1 C.2.1 dL_law_1381 rfl (lv_at hl 0 rfl) ?_
  refine lv_iload C.1 C.2.1 dL_law_1382 (lv_at hl 4 rfl) ?_
  refine r_iconst C dL_law_1384 ?_
  refine r_iadd C dL_law_1385 ?_
  refine law_sld C S hX hbl hbA hL (i := i + 1) (by omega) dL_law_1386 ?_
  refine lv_aload_n C.1 C.2.1 dL_law_1387 rfl (lv_at hl 0 rfl) ?_
  refine lv_iload C.1 C.2.1 dL_law_1388 (lv_at hl 4 rfl) ?_
  refine r_iconst C dL_law_1390 ?_
  refine r_iadd C dL_law_1391 ?_
  refine law_sld C S hX hbl hbA hL (i := i + 2) (by omega) dL_law_1392 ?_
  refine lv_aload_n C.1 C.2.1 dL_law_1393 rfl (lv_at hl 0 rfl) ?_
  refine lv_iload C.1 C.2.1 dL_law_1394 (lv_at hl 4 rfl) ?_
  refine r_iconst C dL_law_1396 ?_
  refine r_iadd C dL_law_1397 ?_
  refine law_sld C S hX hbl hbA hL (i := i + 3) (by omega) dL_law_1398 ?_
  refine r_callVv C S (As := [.int (oI (sc xs (i + 1))), .int (oI (sc xs (i + 2))), .int (oI (sc xs (i + 3)))]) (rest := []) (ct_X9_about l G σm hd) mi_X9_about tw_786 mv_X9_about (rvX9 S) ⟨rfl, rfl⟩ ⟨Nat.le_of_ble_eq_true rfl, Nat.le_of_ble_eq_true rfl⟩ hc rfl hl.1 rfl (Nat.le_of_ble_eq_true rfl) dL_law_1399 (fun H locs S => ?_)
  have S := S.sw
  refine lv_aload_n C.1 C.2.1 dL_law_1402 rfl (lv_at hl 2 rfl) ?_
  refine lv_aload_n C.1 C.2.1 dL_law_1403 rfl (lv_at hl 0 rfl) ?_
  refine lv_iload C.1 C.2.1 dL_law_1404 (lv_at hl 4 rfl) ?_
  refine r_iconst C dL_law_1406 ?_
  refine r_iadd C dL_law_1407 ?_
  refine law_sld C S hX hbl hbA hL (i := i + 1) (by omega) dL_law_1408 ?_
  refine lv_aload_n C.1 C.2.1 dL_law_1409 rfl (lv_at hl 0 rfl) ?_
  refine lv_iload C.1 C.2.1 dL_law_1410 (lv_at hl 4 rfl) ?_
  refine r_iconst C dL_law_1412 ?_
  refine r_iadd C dL_law_1413 ?_
  refine law_sld C S hX hbl hbA hL (i := i + 2) (by omega) dL_law_1414 ?_
  refine lv_aload_n C.1 C.2.1 dL_law_1415 rfl (lv_at hl 0 rfl) ?_
  refine lv_iload C.1 C.2.1 dL_law_1416 (lv_at hl 4 rfl) ?_
  refine r_iconst C dL_law_1418 ?_
  refine r_iadd C dL_law_1419 ?_
  refine law_sld C S hX hbl hbA hL (i := i + 3) (by omega) dL_law_1420 ?_
  refine r_callVv C S (As := [.int (oI (sc xs (i + 1))), .int (oI (sc xs (i + 2))), .int (oI (sc xs (i + 3)))]) (rest := [.int (oI q.1)]) (ct_X10_about l G q.2 hm) mi_X10_about tw_1542 mv_X10_about (rvX10 S) ⟨rfl, rfl⟩ ⟨Nat.le_of_ble_eq_true rfl, Nat.le_of_ble_eq_true rfl⟩ hc rfl hl.1 rfl (Nat.le_of_ble_eq_true rfl) dL_law_1421 (fun H locs S => ?_)
  have S := S.ws
  refine r_icmp_eq C rfl rfl (tgt := 2011) dL_law_1424 (by decide) (fun _ => ?_) (fun h9 => absurd he h9)
  exact hk _ _ _ _ S hR'
theorem lw_case_most {Rel : Nat → Sg → Sg → Prop} {n : Nat} {i : Int} (C : Cx p s m #[.ref bA] c RL cL_law 7) (S : St G true σm σd s H locs) (E : Eq_most Rel) (hn : n < 512) (hR : Rel n σd σm) (hc : cells + 0 ≤ room_1.cells ∧ slots + 0 ≤ room_1.slots) (hi : 0 ≤ i ∧ i + 7 ≤ (L : Int)) (hX : va_X bA L xs s s.heap) (hbl : bA < s.heap.size) (hbA : ¬ AG G bA) (hL : L ≤ 3584) (hl : lv_has ls 7 [(0, .ref bA), (1, .ref (G.1 0)), (2, .ref (G.1 41)), (3, .ref (G.1 60)), (4, .int (oI i))])
    (hk : ∀ H locs (σd σm : Sg), St G true σm σd s H locs → Rel (n + 1) σd σm → W p l e room_1 s m #[.ref bA] below meth c H locs cells slots Q (F0 m 2011 ls [])) : W p l e room_1 s m #[.ref bA] below meth c H locs cells slots Q (F0 m 1429 ls []) := by
  obtain ⟨q, q', hd, hm, he, hR'⟩ := E n σd σm (sc xs (i + 1)) (sc xs (i + 2)) (sc xs (i + 3)) hn hR (sc_in xs (i + 1)) (sc_in xs (i + 2)) (sc_in xs (i + 3))
  refine lv_aload_n C.1 C.2.1 dL_law_1429 rfl (lv_at hl 1 rfl) ?_
  refine lv_aload_n C.1 C.2.1 dL_law_1430 rfl (lv_at hl 0 rfl) ?_
  refine lv_iload C.1 C.2.1 dL_law_1431 (lv_at hl 4 rfl) ?_
  refine r_iconst C dL_law_1433 ?_
  refine r_iadd C dL_law_1434 ?_
  refine law_sld C S hX hbl hbA hL (i := i + 1) (by omega) dL_law_1435 ?_
  refine lv_aload_n C.1 C.2.1 dL_law_1436 rfl (lv_at hl 0 rfl) ?_
  refine lv_iload C.1 C.2.1 dL_law_1437 (lv_at hl 4 rfl) ?_
  refine r_iconst C dL_law_1439 ?_
  refine r_iadd C dL_law_1440 ?_
  refine law_sld C S hX hbl hbA hL (i := i + 2) (by omega) dL_law_1441 ?_
  refine lv_aload_n C.1 C.2.1 dL_law_1442 rfl (lv_at hl 0 rfl) ?_
  refine lv_iload C.1 C.2.1 dL_law_1443 (lv_at hl 4 rfl) ?_
  refine r_iconst C dL_law_1445 ?_
  refine r_iadd C dL_law_1446 ?_
  refine law_sld C S hX hbl hbA hL (i := i + 3) (by omega) dL_law_1447 ?_
  refine r_callVv C S (As := [.int (oI (sc xs (i + 1))), .int (oI (sc xs (i + 2))), .int (oI (sc xs (i + 3)))]) (rest := []) (ct_X9_most l G σm hd) mi_X9_most tw_790 mv_X9_most (rvX9 S) ⟨rfl, rfl⟩ ⟨Nat.le_of_ble_eq_true rfl, Nat.le_of_ble_eq_true rfl⟩ hc rfl hl.1 rfl (Nat.le_of_ble_eq_true rfl) dL_law_1448 (fun H locs S => ?_)
  have S := S.sw
  refine lv_aload_n C.1 C.2.1 dL_law_1451 rfl (lv_at hl 2 rfl) ?_
  refine lv_aload_n C.1 C.2.1 dL_law_1452 rfl (lv_at hl 0 rfl) ?_
  refine lv_iload C.1 C.2.1 dL_law_1453 (lv_at hl 4 rfl) ?_
  refine r_iconst C dL_law_1455 ?_
  refine r_iadd C dL_law_1456 ?_
  refine law_sld C S hX hbl hbA hL (i := i + 1) (by omega) dL_law_1457 ?_
  refine lv_aload_n C.1 C.2.1 dL_law_1458 rfl (lv_at hl 0 rfl) ?_
  refine lv_iload C.1 C.2.1 dL_law_1459 (lv_at hl 4 rfl) ?_
  refine r_iconst C dL_law_1461 ?_
  refine r_iadd C dL_law_1462 ?_
  refine law_sld C S hX hbl hbA hL (i := i + 2) (by omega) dL_law_1463 ?_
  refine lv_aload_n C.1 C.2.1 dL_law_1464 rfl (lv_at hl 0 rfl) ?_
  refine lv_iload C.1 C.2.1 dL_law_1465 (lv_at hl 4 rfl) ?_
  refine r_iconst C dL_law_1467 ?_
  refine r_iadd C dL_law_1468 ?_
  refine law_sld C S hX hbl hbA hL (i := i + 3) (by omega) dL_law_1469 ?_
  refine r_callVv C S (As := [.int (oI (sc xs (i + 1))), .int (oI (sc xs (i + 2))), .int (oI (sc xs (i + 3)))]) (rest := [.int (oI q.1)]) (ct_X10_most l G q.2 hm) mi_X10_most tw_1550 mv_X10_most (rvX10 S) ⟨rfl, rfl⟩ ⟨Nat.le_of_ble_eq_true rfl, Nat.le_of_ble_eq_true rfl⟩ hc rfl hl.1 rfl (Nat.le_of_ble_eq_true rfl) dL_law_1470 (fun H locs S => ?_)
  have S := S.ws
  refine r_icmp_eq C rfl rfl (tgt := 2011) dL_law_1473 (by decide) (fun _ => ?_) (fun h9 => absurd he h9)
  exact hk _ _ _ _ S hR'
theorem lw_case_places {Rel : Nat → Sg → Sg → Prop} {n : Nat} {i : Int} (C : Cx p s m #[.ref bA] c RL cL_law 7) (S : St G true σm σd s H locs) (E : Eq_places Rel) (hn : n < 512) (hR : Rel n σd σm) (hc : cells + 0 ≤ room_1.cells ∧ slots + 0 ≤ room_1.slots) (hi : 0 ≤ i ∧ i + 7 ≤ (L : Int)) (hX : va_X bA L xs s s.heap) (hbl : bA < s.heap.size) (hbA : ¬ AG G bA) (hL : L ≤ 3584) (hl : lv_has ls 7 [(0, .ref bA), (1, .ref (G.1 0)), (2, .ref (G.1 41)), (3, .ref (G.1 60)), (4, .int (oI i))])
    (hk : ∀ H locs (σd σm : Sg), St G true σm σd s H locs → Rel (n + 1) σd σm → W p l e room_1 s m #[.ref bA] below meth c H locs cells slots Q (F0 m 2011 ls [])) : W p l e room_1 s m #[.ref bA] below meth c H locs cells slots Q (F0 m 1478 ls []) := by
  obtain ⟨q, q', hd, hm, he, hR'⟩ := E n σd σm (sc xs (i + 1)) (sc xs (i + 2)) hn hR (sc_in xs (i + 1)) (sc_in xs (i + 2))
  refine lv_aload_n C.1 C.2.1 dL_law_1478 rfl (lv_at hl 1 rfl) ?_
  refine lv_aload_n C.1 C.2.1 dL_law_1479 rfl (lv_at hl 0 rfl) ?_
  refine lv_iload C.1 C.2.1 dL_law_1480 (lv_at hl 4 rfl) ?_
  refine r_iconst C dL_law_1482 ?_
  refine r_iadd C dL_law_1483 ?_
  refine law_sld C S hX hbl hbA hL (i := i + 1) (by omega) dL_law_1484 ?_
  refine lv_aload_n C.1 C.2.1 dL_law_1485 rfl (lv_at hl 0 rfl) ?_
  refine lv_iload C.1 C.2.1 dL_law_1486 (lv_at hl 4 rfl) ?_
  refine r_iconst C dL_law_1488 ?_
  refine r_iadd C dL_law_1489 ?_
  refine law_sld C S hX hbl hbA hL (i := i + 2) (by omega) dL_law_1490 ?_
  refine r_callVv C S (As := [.int (oI (sc xs (i + 1))), .int (oI (sc xs (i + 2)))]) (rest := []) (ct_X9_places l G σm hd) mi_X9_places tw_794 mv_X9_places (rvX9 S) ⟨rfl, rfl⟩ ⟨Nat.le_of_ble_eq_true rfl, Nat.le_of_ble_eq_true rfl⟩ hc rfl hl.1 rfl (Nat.le_of_ble_eq_true rfl) dL_law_1491 (fun H locs S => ?_)
  have S := S.sw
  refine lv_aload_n C.1 C.2.1 dL_law_1494 rfl (lv_at hl 2 rfl) ?_
  refine lv_aload_n C.1 C.2.1 dL_law_1495 rfl (lv_at hl 0 rfl) ?_
  refine lv_iload C.1 C.2.1 dL_law_1496 (lv_at hl 4 rfl) ?_
  refine r_iconst C dL_law_1498 ?_
  refine r_iadd C dL_law_1499 ?_
  refine law_sld C S hX hbl hbA hL (i := i + 1) (by omega) dL_law_1500 ?_
  refine lv_aload_n C.1 C.2.1 dL_law_1501 rfl (lv_at hl 0 rfl) ?_
  refine lv_iload C.1 C.2.1 dL_law_1502 (lv_at hl 4 rfl) ?_
  refine r_iconst C dL_law_1504 ?_
  refine r_iadd C dL_law_1505 ?_
  refine law_sld C S hX hbl hbA hL (i := i + 2) (by omega) dL_law_1506 ?_
  refine r_callVv C S (As := [.int (oI (sc xs (i + 1))), .int (oI (sc xs (i + 2)))]) (rest := [.int (oI q.1)]) (ct_X10_places l G q.2 hm) mi_X10_places tw_1558 mv_X10_places (rvX10 S) ⟨rfl, rfl⟩ ⟨Nat.le_of_ble_eq_true rfl, Nat.le_of_ble_eq_true rfl⟩ hc rfl hl.1 rfl (Nat.le_of_ble_eq_true rfl) dL_law_1507 (fun H locs S => ?_)
  have S := S.ws
  refine r_icmp_eq C rfl rfl (tgt := 2011) dL_law_1510 (by decide) (fun _ => ?_) (fun h9 => absurd he h9)
  exact hk _ _ _ _ S hR'
theorem lw_case_relief {Rel : Nat → Sg → Sg → Prop} {n : Nat} {i : Int} (C : Cx p s m #[.ref bA] c RL cL_law 7) (S : St G true σm σd s H locs) (E : Eq_relief Rel) (hn : n < 512) (hR : Rel n σd σm) (hc : cells + 0 ≤ room_1.cells ∧ slots + 0 ≤ room_1.slots) (hi : 0 ≤ i ∧ i + 7 ≤ (L : Int)) (hX : va_X bA L xs s s.heap) (hbl : bA < s.heap.size) (hbA : ¬ AG G bA) (hL : L ≤ 3584) (hl : lv_has ls 7 [(0, .ref bA), (1, .ref (G.1 0)), (2, .ref (G.1 41)), (3, .ref (G.1 60)), (4, .int (oI i))])
    (hk : ∀ H locs (σd σm : Sg), St G true σm σd s H locs → Rel (n + 1) σd σm → W p l e room_1 s m #[.ref bA] below meth c H locs cells slots Q (F0 m 2011 ls [])) : W p l e room_1 s m #[.ref bA] below meth c H locs cells slots Q (F0 m 1515 ls []) := by
  obtain ⟨q, q', hd, hm, he, hR'⟩ := E n σd σm (sc xs (i + 1)) (sc xs (i + 2)) hn hR (sc_in xs (i + 1)) (sc_in xs (i + 2))
  refine lv_aload_n C.1 C.2.1 dL_law_1515 rfl (lv_at hl 1 rfl) ?_
  refine lv_aload_n C.1 C.2.1 dL_law_1516 rfl (lv_at hl 0 rfl) ?_
  refine lv_iload C.1 C.2.1 dL_law_1517 (lv_at hl 4 rfl) ?_
  refine r_iconst C dL_law_1519 ?_
  refine r_iadd C dL_law_1520 ?_
  refine law_sld C S hX hbl hbA hL (i := i + 1) (by omega) dL_law_1521 ?_
  refine lv_aload_n C.1 C.2.1 dL_law_1522 rfl (lv_at hl 0 rfl) ?_
  refine lv_iload C.1 C.2.1 dL_law_1523 (lv_at hl 4 rfl) ?_
  refine r_iconst C dL_law_1525 ?_
  refine r_iadd C dL_law_1526 ?_
  refine law_sld C S hX hbl hbA hL (i := i + 2) (by omega) dL_law_1527 ?_
  refine r_callVv C S (As := [.int (oI (sc xs (i + 1))), .int (oI (sc xs (i + 2)))]) (rest := []) (ct_X9_relief l G σm hd) mi_X9_relief tw_751 mv_X9_relief (rvX9 S) ⟨rfl, rfl⟩ ⟨Nat.le_of_ble_eq_true rfl, Nat.le_of_ble_eq_true rfl⟩ hc rfl hl.1 rfl (Nat.le_of_ble_eq_true rfl) dL_law_1528 (fun H locs S => ?_)
  have S := S.sw
  refine lv_aload_n C.1 C.2.1 dL_law_1531 rfl (lv_at hl 2 rfl) ?_
  refine lv_aload_n C.1 C.2.1 dL_law_1532 rfl (lv_at hl 0 rfl) ?_
  refine lv_iload C.1 C.2.1 dL_law_1533 (lv_at hl 4 rfl) ?_
  refine r_iconst C dL_law_1535 ?_
  refine r_iadd C dL_law_1536 ?_
  refine law_sld C S hX hbl hbA hL (i := i + 1) (by omega) dL_law_1537 ?_
  refine lv_aload_n C.1 C.2.1 dL_law_1538 rfl (lv_at hl 0 rfl) ?_
  refine lv_iload C.1 C.2.1 dL_law_1539 (lv_at hl 4 rfl) ?_
  refine r_iconst C dL_law_1541 ?_
  refine r_iadd C dL_law_1542 ?_
  refine law_sld C S hX hbl hbA hL (i := i + 2) (by omega) dL_law_1543 ?_
  refine r_callVv C S (As := [.int (oI (sc xs (i + 1))), .int (oI (sc xs (i + 2)))]) (rest := [.int (oI q)]) (ct_X10_relief l G σd hm) mi_X10_relief tw_1562 mv_X10_relief (rvX10 S) ⟨rfl, rfl⟩ ⟨Nat.le_of_ble_eq_true rfl, Nat.le_of_ble_eq_true rfl⟩ hc rfl hl.1 rfl (Nat.le_of_ble_eq_true rfl) dL_law_1544 (fun H locs S => ?_)
  have S := S.ws
  refine r_icmp_eq C rfl rfl (tgt := 2011) dL_law_1547 (by decide) (fun _ => ?_) (fun h9 => absurd he h9)
  exact hk _ _ _ _ S hR'
theorem lw_case_fewest {Rel : Nat → Sg → Sg → Prop} {n : Nat} {i : Int} (C : Cx p s m #[.ref bA] c RL cL_law 7) (S : St G true σm σd s H locs) (E : Eq_fewest Rel) (hn : n < 512) (hR : Rel n σd σm) (hc : cells + 0 ≤ room_1.cells ∧ slots + 0 ≤ room_1.slots) (hi : 0 ≤ i ∧ i + 7 ≤ (L : Int)) (hX : va_X bA L xs s s.heap) (hbl : bA < s.heap.size) (hbA : ¬ AG G bA) (hL : L ≤ 3584) (hl : lv_has ls 7 [(0, .ref bA), (1, .ref (G.1 0)), (2, .ref (G.1 41)), (3, .ref (G.1 60)), (4, .int (oI i))])
    (hk : ∀ H locs (σd σm : Sg), St G true σm σd s H locs → Rel (n + 1) σd σm → W p l e room_1 s m #[.ref bA] below meth c H locs cells slots Q (F0 m 2011 ls [])) : W p l e room_1 s m #[.ref bA] below meth c H locs cells slots Q (F0 m 1552 ls []) := by
  obtain ⟨q, q', hd, hm, he, hR'⟩ := E n σd σm (sc xs (i + 1)) hn hR (sc_in xs (i + 1))
  refine lv_aload_n C.1 C.2.1 dL_law_1552 rfl (lv_at hl 1 rfl) ?_
  refine lv_aload_n C.1 C.2.1 dL_law_1553 rfl (lv_at hl 0 rfl) ?_
  refine lv_iload C.1 C.2.1 dL_law_1554 (lv_at hl 4 rfl) ?_
  refine r_iconst C dL_law_1556 ?_
  refine r_iadd C dL_law_1557 ?_
  refine law_sld C S hX hbl hbA hL (i := i + 1) (by omega) dL_law_1558 ?_
  refine r_callVv C S (As := [.int (oI (sc xs (i + 1)))]) (rest := []) (ct_X9_fewest l G σm hd) mi_X9_fewest tw_755 mv_X9_fewest (rvX9 S) ⟨rfl, rfl⟩ ⟨Nat.le_of_ble_eq_true rfl, Nat.le_of_ble_eq_true rfl⟩ hc rfl hl.1 rfl (Nat.le_of_ble_eq_true rfl) dL_law_1559 (fun H locs S => ?_)
  have S := S.sw
  refine lv_aload_n C.1 C.2.1 dL_law_1562 rfl (lv_at hl 2 rfl) ?_
  refine lv_aload_n C.1 C.2.1 dL_law_1563 rfl (lv_at hl 0 rfl) ?_
  refine lv_iload C.1 C.2.1 dL_law_1564 (lv_at hl 4 rfl) ?_
  refine r_iconst C dL_law_1566 ?_
  refine r_iadd C dL_law_1567 ?_
  refine law_sld C S hX hbl hbA hL (i := i + 1) (by omega) dL_law_1568 ?_
  refine r_callVv C S (As := [.int (oI (sc xs (i + 1)))]) (rest := [.int (oI q)]) (ct_X10_fewest l G σd hm) mi_X10_fewest tw_1566 mv_X10_fewest (rvX10 S) ⟨rfl, rfl⟩ ⟨Nat.le_of_ble_eq_true rfl, Nat.le_of_ble_eq_true rfl⟩ hc rfl hl.1 rfl (Nat.le_of_ble_eq_true rfl) dL_law_1569 (fun H locs S => ?_)
  have S := S.ws
  refine r_icmp_eq C rfl rfl (tgt := 2011) dL_law_1572 (by decide) (fun _ => ?_) (fun h9 => absurd he h9)
  exact hk _ _ _ _ S hR'
theorem lw_case_nearest {Rel : Nat → Sg → Sg → Prop} {n : Nat} {i : Int} (C : Cx p s m #[.ref bA] c RL cL_law 7) (S : St G true σm σd s H locs) (E : Eq_nearest Rel) (hn : n < 512) (hR : Rel n σd σm) (hc : cells + 0 ≤ room_1.cells ∧ slots + 0 ≤ room_1.slots) (hi : 0 ≤ i ∧ i + 7 ≤ (L : Int)) (hX : va_X bA L xs s s.heap) (hbl : bA < s.heap.size) (hbA : ¬ AG G bA) (hL : L ≤ 3584) (hl : lv_has ls 7 [(0, .ref bA), (1, .ref (G.1 0)), (2, .ref (G.1 41)), (3, .ref (G.1 60)), (4, .int (oI i))])
    (hk : ∀ H locs (σd σm : Sg), St G true σm σd s H locs → Rel (n + 1) σd σm → W p l e room_1 s m #[.ref bA] below meth c H locs cells slots Q (F0 m 2011 ls [])) : W p l e room_1 s m #[.ref bA] below meth c H locs cells slots Q (F0 m 1577 ls []) := by
  obtain ⟨q, q', hd, hm, he, hR'⟩ := E n σd σm (sc xs (i + 1)) hn hR (sc_in xs (i + 1))
  refine lv_aload_n C.1 C.2.1 dL_law_1577 rfl (lv_at hl 1 rfl) ?_
  refine lv_aload_n C.1 C.2.1 dL_law_1578 rfl (lv_at hl 0 rfl) ?_
  refine lv_iload C.1 C.2.1 dL_law_1579 (lv_at hl 4 rfl) ?_
  refine r_iconst C dL_law_1581 ?_
  refine r_iadd C dL_law_1582 ?_
  refine law_sld C S hX hbl hbA hL (i := i + 1) (by omega) dL_law_1583 ?_
  refine r_callVv C S (As := [.int (oI (sc xs (i + 1)))]) (rest := []) (ct_X9_nearest l G σm hd) mi_X9_nearest tw_897 mv_X9_nearest (rvX9 S) ⟨rfl, rfl⟩ ⟨Nat.le_of_ble_eq_true rfl, Nat.le_of_ble_eq_true rfl⟩ hc rfl hl.1 rfl (Nat.le_of_ble_eq_true rfl) dL_law_1584 (fun H locs S => ?_)
  have S := S.sw
  refine lv_aload_n C.1 C.2.1 dL_law_1587 rfl (lv_at hl 2 rfl) ?_
  refine lv_aload_n C.1 C.2.1 dL_law_1588 rfl (lv_at hl 0 rfl) ?_
  refine lv_iload C.1 C.2.1 dL_law_1589 (lv_at hl 4 rfl) ?_
  refine r_iconst C dL_law_1591 ?_
  refine r_iadd C dL_law_1592 ?_
  refine law_sld C S hX hbl hbA hL (i := i + 1) (by omega) dL_law_1593 ?_
  refine r_callVv C S (As := [.int (oI (sc xs (i + 1)))]) (rest := [.int (oI q)]) (ct_X10_nearest l G σd hm) mi_X10_nearest tw_1582 mv_X10_nearest (rvX10 S) ⟨rfl, rfl⟩ ⟨Nat.le_of_ble_eq_true rfl, Nat.le_of_ble_eq_true rfl⟩ hc rfl hl.1 rfl (Nat.le_of_ble_eq_true rfl) dL_law_1594 (fun H locs S => ?_)
  have S := S.ws
  refine r_icmp_eq C rfl rfl (tgt := 2011) dL_law_1597 (by decide) (fun _ => ?_) (fun h9 => absurd he h9)
  exact hk _ _ _ _ S hR'
theorem lw_case_couples {Rel : Nat → Sg → Sg → Prop} {n : Nat} {i : Int} (C : Cx p s m #[.ref bA] c RL cL_law 7) (S : St G true σm σd s H locs) (E : Eq_couples Rel) (hn : n < 512) (hR : Rel n σd σm) (hc : cells + 0 ≤ room_1.cells ∧ slots + 0 ≤ room_1.slots) (hi : 0 ≤ i ∧ i + 7 ≤ (L : Int)) (hX : va_X bA L xs s s.heap) (hbl : bA < s.heap.size) (hbA : ¬ AG G bA) (hL : L ≤ 3584) (hl : lv_has ls 7 [(0, .ref bA), (1, .ref (G.1 0)), (2, .ref (G.1 41)), (3, .ref (G.1 60)), (4, .int (oI i))])
    (hk : ∀ H locs (σd σm : Sg), St G true σm σd s H locs → Rel (n + 1) σd σm → W p l e room_1 s m #[.ref bA] below meth c H locs cells slots Q (F0 m 2011 ls [])) : W p l e room_1 s m #[.ref bA] below meth c H locs cells slots Q (F0 m 1602 ls []) := by
  obtain ⟨q, q', hd, hm, he, hR'⟩ := E n σd σm (sc xs (i + 1)) hn hR (sc_in xs (i + 1))
  refine lv_aload_n C.1 C.2.1 dL_law_1602 rfl (lv_at hl 1 rfl) ?_
  refine lv_aload_n C.1 C.2.1 dL_law_1603 rfl (lv_at hl 0 rfl) ?_
  refine lv_iload C.1 C.2.1 dL_law_1604 (lv_at hl 4 rfl) ?_
  refine r_iconst C dL_law_1606 ?_
  refine r_iadd C dL_law_1607 ?_
  refine law_sld C S hX hbl hbA hL (i := i + 1) (by omega) dL_law_1608 ?_
  refine r_callVv C S (As := [.int (oI (sc xs (i + 1)))]) (rest := []) (ct_X9_couples l G σm hd) mi_X9_couples tw_901 mv_X9_couples (rvX9 S) ⟨rfl, rfl⟩ ⟨Nat.le_of_ble_eq_true rfl, Nat.le_of_ble_eq_true rfl⟩ hc rfl hl.1 rfl (Nat.le_of_ble_eq_true rfl) dL_law_1609 (fun H locs S => ?_)
  have S := S.sw
  refine lv_aload_n C.1 C.2.1 dL_law_1612 rfl (lv_at hl 2 rfl) ?_
  refine lv_aload_n C.1 C.2.1 dL_law_1613 rfl (lv_at hl 0 rfl) ?_
  refine lv_iload C.1 C.2.1 dL_law_1614 (lv_at hl 4 rfl) ?_
  refine r_iconst C dL_law_1616 ?_
  refine r_iadd C dL_law_1617 ?_
  refine law_sld C S hX hbl hbA hL (i := i + 1) (by omega) dL_law_1618 ?_
  refine r_callVv C S (As := [.int (oI (sc xs (i + 1)))]) (rest := [.int (oI q)]) (ct_X10_couples l G σd hm) mi_X10_couples tw_1586 mv_X10_couples (rvX10 S) ⟨rfl, rfl⟩ ⟨Nat.le_of_ble_eq_true rfl, Nat.le_of_ble_eq_true rfl⟩ hc rfl hl.1 rfl (Nat.le_of_ble_eq_true rfl) dL_law_1619 (fun H locs S => ?_)
  have S := S.ws
  refine r_icmp_eq C rfl rfl (tgt := 2011) dL_law_1622 (by decide) (fun _ => ?_) (fun h9 => absurd he h9)
  exact hk _ _ _ _ S hR'
theorem lw_case_along {Rel : Nat → Sg → Sg → Prop} {n : Nat} {i : Int} (C : Cx p s m #[.ref bA] c RL cL_law 7) (S : St G true σm σd s H locs) (E : Eq_along Rel) (hn : n < 512) (hR : Rel n σd σm) (hc : cells + 0 ≤ room_1.cells ∧ slots + 0 ≤ room_1.slots) (hi : 0 ≤ i ∧ i + 7 ≤ (L : Int)) (hX : va_X bA L xs s s.heap) (hbl : bA < s.heap.size) (hbA : ¬ AG G bA) (hL : L ≤ 3584) (hl : lv_has ls 7 [(0, .ref bA), (1, .ref (G.1 0)), (2, .ref (G.1 41)), (3, .ref (G.1 60)), (4, .int (oI i))])
    (hk : ∀ H locs (σd σm : Sg), St G true σm σd s H locs → Rel (n + 1) σd σm → W p l e room_1 s m #[.ref bA] below meth c H locs cells slots Q (F0 m 2011 ls [])) : W p l e room_1 s m #[.ref bA] below meth c H locs cells slots Q (F0 m 1627 ls []) := by
  obtain ⟨q, q', hd, hm, he, hR'⟩ := E n σd σm (sc xs (i + 1)) (sc xs (i + 2)) (sc xs (i + 3)) (sc xs (i + 4)) (sc xs (i + 5)) (sc xs (i + 6)) hn hR (sc_in xs (i + 1)) (sc_in xs (i + 2)) (sc_in xs (i + 3)) (sc_in xs (i + 4)) (sc_in xs (i + 5)) (sc_in xs (i + 6))
  refine lv_aload_n C.1 C.2.1 dL_law_1627 rfl (lv_at hl 1 rfl) ?_
  refine lv_aload_n C.1 C.2.1 dL_law_1628 rfl (lv_at hl 0 rfl) ?_
  refine lv_iload C.1 C.2.1 dL_law_1629 (lv_at hl 4 rfl) ?_
  refine r_iconst C dL_law_1631 ?_
  refine r_iadd C dL_law_1632 ?_
  refine law_sld C S hX hbl hbA hL (i := i + 1) (by omega) dL_law_1633 ?_
  refine lv_aload_n C.1 C.2.1 dL_law_1634 rfl (lv_at hl 0 rfl) ?_
  refine lv_iload C.1 C.2.1 dL_law_1635 (lv_at hl 4 rfl) ?_
  refine r_iconst C dL_law_1637 ?_
  refine r_iadd C dL_law_1638 ?_
  refine law_sld C S hX hbl hbA hL (i := i + 2) (by omega) dL_law_1639 ?_
  refine lv_aload_n C.1 C.2.1 dL_law_1640 rfl (lv_at hl 0 rfl) ?_
  refine lv_iload C.1 C.2.1 dL_law_1641 (lv_at hl 4 rfl) ?_
  refine r_iconst C dL_law_1643 ?_
  refine r_iadd C dL_law_1644 ?_
  refine law_sld C S hX hbl hbA hL (i := i + 3) (by omega) dL_law_1645 ?_
  refine lv_aload_n C.1 C.2.1 dL_law_1646 rfl (lv_at hl 0 rfl) ?_
  refine lv_iload C.1 C.2.1 dL_law_1647 (lv_at hl 4 rfl) ?_
  refine r_iconst C dL_law_1649 ?_
  refine r_iadd C dL_law_1650 ?_
  refine law_sld C S hX hbl hbA hL (i := i + 4) (by omega) dL_law_1651 ?_
  refine lv_aload_n C.1 C.2.1 dL_law_1652 rfl (lv_at hl 0 rfl) ?_
  refine lv_iload C.1 C.2.1 dL_law_1653 (lv_at hl 4 rfl) ?_
  refine r_iconst C dL_law_1655 ?_
  refine r_iadd C dL_law_1656 ?_
  refine law_sld C S hX hbl hbA hL (i := i + 5) (by omega) dL_law_1657 ?_
  refine lv_aload_n C.1 C.2.1 dL_law_1658 rfl (lv_at hl 0 rfl) ?_
  refine lv_iload C.1 C.2.1 dL_law_1659 (lv_at hl 4 rfl) ?_
  refine r_bipush C dL_law_1661 (by decide) ?_
  refine r_iadd C dL_law_1663 ?_
  refine law_sld C S hX hbl hbA hL (i := i + 6) (by omega) dL_law_1664 ?_
  refine r_callVv C S (As := [.int (oI (sc xs (i + 1))), .int (oI (sc xs (i + 2))), .int (oI (sc xs (i + 3))), .int (oI (sc xs (i + 4))), .int (oI (sc xs (i + 5))), .int (oI (sc xs (i + 6)))]) (rest := []) (ct_X9_along l G σm hd) mi_X9_along tw_802 mv_X9_along (rvX9 S) ⟨rfl, rfl⟩ ⟨Nat.le_of_ble_eq_true rfl, Nat.le_of_ble_eq_true rfl⟩ hc rfl hl.1 rfl (Nat.le_of_ble_eq_true rfl) dL_law_1665 (fun H locs S => ?_)
  have S := S.sw
  refine lv_aload_n C.1 C.2.1 dL_law_1668 rfl (lv_at hl 2 rfl) ?_
  refine lv_aload_n C.1 C.2.1 dL_law_1669 rfl (lv_at hl 0 rfl) ?_
  refine lv_iload C.1 C.2.1 dL_law_1670 (lv_at hl 4 rfl) ?_
  refine r_iconst C dL_law_1672 ?_
  refine r_iadd C dL_law_1673 ?_
  refine law_sld C S hX hbl hbA hL (i := i + 1) (by omega) dL_law_1674 ?_
  refine lv_aload_n C.1 C.2.1 dL_law_1675 rfl (lv_at hl 0 rfl) ?_
  refine lv_iload C.1 C.2.1 dL_law_1676 (lv_at hl 4 rfl) ?_
  refine r_iconst C dL_law_1678 ?_
  refine r_iadd C dL_law_1679 ?_
  refine law_sld C S hX hbl hbA hL (i := i + 2) (by omega) dL_law_1680 ?_
  refine lv_aload_n C.1 C.2.1 dL_law_1681 rfl (lv_at hl 0 rfl) ?_
  refine lv_iload C.1 C.2.1 dL_law_1682 (lv_at hl 4 rfl) ?_
  refine r_iconst C dL_law_1684 ?_
  refine r_iadd C dL_law_1685 ?_
  refine law_sld C S hX hbl hbA hL (i := i + 3) (by omega) dL_law_1686 ?_
  refine lv_aload_n C.1 C.2.1 dL_law_1687 rfl (lv_at hl 0 rfl) ?_
  refine lv_iload C.1 C.2.1 dL_law_1688 (lv_at hl 4 rfl) ?_
  refine r_iconst C dL_law_1690 ?_
  refine r_iadd C dL_law_1691 ?_
  refine law_sld C S hX hbl hbA hL (i := i + 4) (by omega) dL_law_1692 ?_
  refine lv_aload_n C.1 C.2.1 dL_law_1693 rfl (lv_at hl 0 rfl) ?_
  refine lv_iload C.1 C.2.1 dL_law_1694 (lv_at hl 4 rfl) ?_
  refine r_iconst C dL_law_1696 ?_
  refine r_iadd C dL_law_1697 ?_
  refine law_sld C S hX hbl hbA hL (i := i + 5) (by omega) dL_law_1698 ?_
  refine lv_aload_n C.1 C.2.1 dL_law_1699 rfl (lv_at hl 0 rfl) ?_
  refine lv_iload C.1 C.2.1 dL_law_1700 (lv_at hl 4 rfl) ?_
  refine r_bipush C dL_law_1702 (by decide) ?_
  refine r_iadd C dL_law_1704 ?_
  refine law_sld C S hX hbl hbA hL (i := i + 6) (by omega) dL_law_1705 ?_
  refine r_callVv C S (As := [.int (oI (sc xs (i + 1))), .int (oI (sc xs (i + 2))), .int (oI (sc xs (i + 3))), .int (oI (sc xs (i + 4))), .int (oI (sc xs (i + 5))), .int (oI (sc xs (i + 6)))]) (rest := [.int (oI q.1)]) (ct_X10_along l G q.2 hm) mi_X10_along tw_1590 mv_X10_along (rvX10 S) ⟨rfl, rfl⟩ ⟨Nat.le_of_ble_eq_true rfl, Nat.le_of_ble_eq_true rfl⟩ hc rfl hl.1 rfl (Nat.le_of_ble_eq_true rfl) dL_law_1706 (fun H locs S => ?_)
  have S := S.ws
  refine r_icmp_eq C rfl rfl (tgt := 2011) dL_law_1709 (by decide) (fun _ => ?_) (fun h9 => absurd he h9)
  exact hk _ _ _ _ S hR'
theorem lw_case_storm {Rel : Nat → Sg → Sg → Prop} {n : Nat} {i : Int} (C : Cx p s m #[.ref bA] c RL cL_law 7) (S : St G true σm σd s H locs) (E : Eq_storm Rel) (hn : n < 512) (hR : Rel n σd σm) (hc : cells + 0 ≤ room_1.cells ∧ slots + 0 ≤ room_1.slots) (hi : 0 ≤ i ∧ i + 7 ≤ (L : Int)) (hX : va_X bA L xs s s.heap) (hbl : bA < s.heap.size) (hbA : ¬ AG G bA) (hL : L ≤ 3584) (hl : lv_has ls 7 [(0, .ref bA), (1, .ref (G.1 0)), (2, .ref (G.1 41)), (3, .ref (G.1 60)), (4, .int (oI i))])
    (hk : ∀ H locs (σd σm : Sg), St G true σm σd s H locs → Rel (n + 1) σd σm → W p l e room_1 s m #[.ref bA] below meth c H locs cells slots Q (F0 m 2011 ls [])) : W p l e room_1 s m #[.ref bA] below meth c H locs cells slots Q (F0 m 1714 ls []) := by
  obtain ⟨q, q', hd, hm, he, hR'⟩ := E n σd σm (sc xs (i + 1)) (sc xs (i + 2)) (sc xs (i + 3)) (sc xs (i + 4)) (sc xs (i + 5)) (sc xs (i + 6)) hn hR (sc_in xs (i + 1)) (sc_in xs (i + 2)) (sc_in xs (i + 3)) (sc_in xs (i + 4)) (sc_in xs (i + 5)) (sc_in xs (i + 6))
  refine lv_aload_n C.1 C.2.1 dL_law_1714 rfl (lv_at hl 1 rfl) ?_
  refine lv_aload_n C.1 C.2.1 dL_law_1715 rfl (lv_at hl 0 rfl) ?_
  refine lv_iload C.1 C.2.1 dL_law_1716 (lv_at hl 4 rfl) ?_
  refine r_iconst C dL_law_1718 ?_
  refine r_iadd C dL_law_1719 ?_
  refine law_sld C S hX hbl hbA hL (i := i + 1) (by omega) dL_law_1720 ?_
  refine lv_aload_n C.1 C.2.1 dL_law_1721 rfl (lv_at hl 0 rfl) ?_
  refine lv_iload C.1 C.2.1 dL_law_1722 (lv_at hl 4 rfl) ?_
  refine r_iconst C dL_law_1724 ?_
  refine r_iadd C dL_law_1725 ?_
  refine law_sld C S hX hbl hbA hL (i := i + 2) (by omega) dL_law_1726 ?_
  refine lv_aload_n C.1 C.2.1 dL_law_1727 rfl (lv_at hl 0 rfl) ?_
  refine lv_iload C.1 C.2.1 dL_law_1728 (lv_at hl 4 rfl) ?_
  refine r_iconst C dL_law_1730 ?_
  refine r_iadd C dL_law_1731 ?_
  refine law_sld C S hX hbl hbA hL (i := i + 3) (by omega) dL_law_1732 ?_
  refine lv_aload_n C.1 C.2.1 dL_law_1733 rfl (lv_at hl 0 rfl) ?_
  refine lv_iload C.1 C.2.1 dL_law_1734 (lv_at hl 4 rfl) ?_
  refine r_iconst C dL_law_1736 ?_
  refine r_iadd C dL_law_1737 ?_
  refine law_sld C S hX hbl hbA hL (i := i + 4) (by omega) dL_law_1738 ?_
  refine lv_aload_n C.1 C.2.1 dL_law_1739 rfl (lv_at hl 0 rfl) ?_
  refine lv_iload C.1 C.2.1 dL_law_1740 (lv_at hl 4 rfl) ?_
  refine r_iconst C dL_law_1742 ?_
  refine r_iadd C dL_law_1743 ?_
  refine law_sld C S hX hbl hbA hL (i := i + 5) (by omega) dL_law_1744 ?_
  refine lv_aload_n C.1 C.2.1 dL_law_1745 rfl (lv_at hl 0 rfl) ?_
  refine lv_iload C.1 C.2.1 dL_law_1746 (lv_at hl 4 rfl) ?_
  refine r_bipush C dL_law_1748 (by decide) ?_
  refine r_iadd C dL_law_1750 ?_
  refine law_sld C S hX hbl hbA hL (i := i + 6) (by omega) dL_law_1751 ?_
  refine r_callVv C S (As := [.int (oI (sc xs (i + 1))), .int (oI (sc xs (i + 2))), .int (oI (sc xs (i + 3))), .int (oI (sc xs (i + 4))), .int (oI (sc xs (i + 5))), .int (oI (sc xs (i + 6)))]) (rest := []) (ct_X9_storm l G σm hd) mi_X9_storm tw_905 mv_X9_storm (rvX9 S) ⟨rfl, rfl⟩ ⟨Nat.le_of_ble_eq_true rfl, Nat.le_of_ble_eq_true rfl⟩ hc rfl hl.1 rfl (Nat.le_of_ble_eq_true rfl) dL_law_1752 (fun H locs S => ?_)
  have S := S.sw
  refine lv_aload_n C.1 C.2.1 dL_law_1755 rfl (lv_at hl 2 rfl) ?_
  refine lv_aload_n C.1 C.2.1 dL_law_1756 rfl (lv_at hl 0 rfl) ?_
  refine lv_iload C.1 C.2.1 dL_law_1757 (lv_at hl 4 rfl) ?_
  refine r_iconst C dL_law_1759 ?_
  refine r_iadd C dL_law_1760 ?_
  refine law_sld C S hX hbl hbA hL (i := i + 1) (by omega) dL_law_1761 ?_
  refine lv_aload_n C.1 C.2.1 dL_law_1762 rfl (lv_at hl 0 rfl) ?_
  refine lv_iload C.1 C.2.1 dL_law_1763 (lv_at hl 4 rfl) ?_
  refine r_iconst C dL_law_1765 ?_
  refine r_iadd C dL_law_1766 ?_
  refine law_sld C S hX hbl hbA hL (i := i + 2) (by omega) dL_law_1767 ?_
  refine lv_aload_n C.1 C.2.1 dL_law_1768 rfl (lv_at hl 0 rfl) ?_
  refine lv_iload C.1 C.2.1 dL_law_1769 (lv_at hl 4 rfl) ?_
  refine r_iconst C dL_law_1771 ?_
  refine r_iadd C dL_law_1772 ?_
  refine law_sld C S hX hbl hbA hL (i := i + 3) (by omega) dL_law_1773 ?_
  refine lv_aload_n C.1 C.2.1 dL_law_1774 rfl (lv_at hl 0 rfl) ?_
  refine lv_iload C.1 C.2.1 dL_law_1775 (lv_at hl 4 rfl) ?_
  refine r_iconst C dL_law_1777 ?_
  refine r_iadd C dL_law_1778 ?_
  refine law_sld C S hX hbl hbA hL (i := i + 4) (by omega) dL_law_1779 ?_
  refine lv_aload_n C.1 C.2.1 dL_law_1780 rfl (lv_at hl 0 rfl) ?_
  refine lv_iload C.1 C.2.1 dL_law_1781 (lv_at hl 4 rfl) ?_
  refine r_iconst C dL_law_1783 ?_
  refine r_iadd C dL_law_1784 ?_
  refine law_sld C S hX hbl hbA hL (i := i + 5) (by omega) dL_law_1785 ?_
  refine lv_aload_n C.1 C.2.1 dL_law_1786 rfl (lv_at hl 0 rfl) ?_
  refine lv_iload C.1 C.2.1 dL_law_1787 (lv_at hl 4 rfl) ?_
  refine r_bipush C dL_law_1789 (by decide) ?_
  refine r_iadd C dL_law_1791 ?_
  refine law_sld C S hX hbl hbA hL (i := i + 6) (by omega) dL_law_1792 ?_
  refine r_callVv C S (As := [.int (oI (sc xs (i + 1))), .int (oI (sc xs (i + 2))), .int (oI (sc xs (i + 3))), .int (oI (sc xs (i + 4))), .int (oI (sc xs (i + 5))), .int (oI (sc xs (i + 6)))]) (rest := [.int (oI q.1)]) (ct_X10_storm l G q.2 hm) mi_X10_storm tw_1597 mv_X10_storm (rvX10 S) ⟨rfl, rfl⟩ ⟨Nat.le_of_ble_eq_true rfl, Nat.le_of_ble_eq_true rfl⟩ hc rfl hl.1 rfl (Nat.le_of_ble_eq_true rfl) dL_law_1793 (fun H locs S => ?_)
  have S := S.ws
  refine r_icmp_eq C rfl rfl (tgt := 2011) dL_law_1796 (by decide) (fun _ => ?_) (fun h9 => absurd he h9)
  exact hk _ _ _ _ S hR'
theorem lw_case_hit {Rel : Nat → Sg → Sg → Prop} {n : Nat} {i : Int} (C : Cx p s m #[.ref bA] c RL cL_law 7) (S : St G true σm σd s H locs) (E : Eq_hit Rel) (hn : n < 512) (hR : Rel n σd σm) (hc : cells + 0 ≤ room_1.cells ∧ slots + 0 ≤ room_1.slots) (hi : 0 ≤ i ∧ i + 7 ≤ (L : Int)) (hX : va_X bA L xs s s.heap) (hbl : bA < s.heap.size) (hbA : ¬ AG G bA) (hL : L ≤ 3584) (hl : lv_has ls 7 [(0, .ref bA), (1, .ref (G.1 0)), (2, .ref (G.1 41)), (3, .ref (G.1 60)), (4, .int (oI i))])
    (hk : ∀ H locs (σd σm : Sg), St G true σm σd s H locs → Rel (n + 1) σd σm → W p l e room_1 s m #[.ref bA] below meth c H locs cells slots Q (F0 m 2011 ls [])) : W p l e room_1 s m #[.ref bA] below meth c H locs cells slots Q (F0 m 1801 ls []) := by
  obtain ⟨q, q', hd, hm, he, hR'⟩ := E n σd σm (sc xs (i + 1)) hn hR (sc_in xs (i + 1))
  refine lv_aload_n C.1 C.2.1 dL_law_1801 rfl (lv_at hl 1 rfl) ?_
  refine lv_aload_n C.1 C.2.1 dL_law_1802 rfl (lv_at hl 0 rfl) ?_
  refine lv_iload C.1 C.2.1 dL_law_1803 (lv_at hl 4 rfl) ?_
  refine r_iconst C dL_law_1805 ?_
  refine r_iadd C dL_law_1806 ?_
  refine law_sld C S hX hbl hbA hL (i := i + 1) (by omega) dL_law_1807 ?_
  refine r_callVv C S (As := [.int (oI (sc xs (i + 1)))]) (rest := []) (ct_X9_hit l G σm hd) mi_X9_hit tw_919 mv_X9_hit (rvX9 S) ⟨rfl, rfl⟩ ⟨Nat.le_of_ble_eq_true rfl, Nat.le_of_ble_eq_true rfl⟩ hc rfl hl.1 rfl (Nat.le_of_ble_eq_true rfl) dL_law_1808 (fun H locs S => ?_)
  have S := S.sw
  refine lv_aload_n C.1 C.2.1 dL_law_1811 rfl (lv_at hl 2 rfl) ?_
  refine lv_aload_n C.1 C.2.1 dL_law_1812 rfl (lv_at hl 0 rfl) ?_
  refine lv_iload C.1 C.2.1 dL_law_1813 (lv_at hl 4 rfl) ?_
  refine r_iconst C dL_law_1815 ?_
  refine r_iadd C dL_law_1816 ?_
  refine law_sld C S hX hbl hbA hL (i := i + 1) (by omega) dL_law_1817 ?_
  refine r_callVv C S (As := [.int (oI (sc xs (i + 1)))]) (rest := [.int (oI q)]) (ct_X10_hit l G σd hm) mi_X10_hit tw_1613 mv_X10_hit (rvX10 S) ⟨rfl, rfl⟩ ⟨Nat.le_of_ble_eq_true rfl, Nat.le_of_ble_eq_true rfl⟩ hc rfl hl.1 rfl (Nat.le_of_ble_eq_true rfl) dL_law_1818 (fun H locs S => ?_)
  have S := S.ws
  refine r_icmp_eq C rfl rfl (tgt := 2011) dL_law_1821 (by decide) (fun _ => ?_) (fun h9 => absurd he h9)
  exact hk _ _ _ _ S hR'
theorem lw_case_pays {Rel : Nat → Sg → Sg → Prop} {n : Nat} {i : Int} (C : Cx p s m #[.ref bA] c RL cL_law 7) (S : St G true σm σd s H locs) (E : Eq_pays Rel) (hn : n < 512) (hR : Rel n σd σm) (hc : cells + 0 ≤ room_1.cells ∧ slots + 0 ≤ room_1.slots) (hi : 0 ≤ i ∧ i + 7 ≤ (L : Int)) (hX : va_X bA L xs s s.heap) (hbl : bA < s.heap.size) (hbA : ¬ AG G bA) (hL : L ≤ 3584) (hl : lv_has ls 7 [(0, .ref bA), (1, .ref (G.1 0)), (2, .ref (G.1 41)), (3, .ref (G.1 60)), (4, .int (oI i))])
    (hk : ∀ H locs (σd σm : Sg), St G true σm σd s H locs → Rel (n + 1) σd σm → W p l e room_1 s m #[.ref bA] below meth c H locs cells slots Q (F0 m 2011 ls [])) : W p l e room_1 s m #[.ref bA] below meth c H locs cells slots Q (F0 m 1826 ls []) := by
  obtain ⟨q, q', hd, hm, he, hR'⟩ := E n σd σm (sc xs (i + 1)) hn hR (sc_in xs (i + 1))
  refine lv_aload_n C.1 C.2.1 dL_law_1826 rfl (lv_at hl 1 rfl) ?_
  refine lv_aload_n C.1 C.2.1 dL_law_1827 rfl (lv_at hl 0 rfl) ?_
  refine lv_iload C.1 C.2.1 dL_law_1828 (lv_at hl 4 rfl) ?_
  refine r_iconst C dL_law_1830 ?_
  refine r_iadd C dL_law_1831 ?_
  refine law_sld C S hX hbl hbA hL (i := i + 1) (by omega) dL_law_1832 ?_
  refine r_callVv C S (As := [.int (oI (sc xs (i + 1)))]) (rest := []) (ct_X9_pays l G σm hd) mi_X9_pays tw_929 mv_X9_pays (rvX9 S) ⟨rfl, rfl⟩ ⟨Nat.le_of_ble_eq_true rfl, Nat.le_of_ble_eq_true rfl⟩ hc rfl hl.1 rfl (Nat.le_of_ble_eq_true rfl) dL_law_1833 (fun H locs S => ?_)
  have S := S.sw
  refine lv_aload_n C.1 C.2.1 dL_law_1836 rfl (lv_at hl 2 rfl) ?_
  refine lv_aload_n C.1 C.2.1 dL_law_1837 rfl (lv_at hl 0 rfl) ?_
  refine lv_iload C.1 C.2.1 dL_law_1838 (lv_at hl 4 rfl) ?_
  refine r_iconst C dL_law_1840 ?_
  refine r_iadd C dL_law_1841 ?_
  refine law_sld C S hX hbl hbA hL (i := i + 1) (by omega) dL_law_1842 ?_
  refine r_callVv C S (As := [.int (oI (sc xs (i + 1)))]) (rest := [.int (oI q)]) (ct_X10_pays l G σd hm) mi_X10_pays tw_1617 mv_X10_pays (rvX10 S) ⟨rfl, rfl⟩ ⟨Nat.le_of_ble_eq_true rfl, Nat.le_of_ble_eq_true rfl⟩ hc rfl hl.1 rfl (Nat.le_of_ble_eq_true rfl) dL_law_1843 (fun H locs S => ?_)
  have S := S.ws
  refine r_icmp_eq C rfl rfl (tgt := 2011) dL_law_1846 (by decide) (fun _ => ?_) (fun h9 => absurd he h9)
  exact hk _ _ _ _ S hR'
theorem lw_case_drawn {Rel : Nat → Sg → Sg → Prop} {n : Nat} {i : Int} (C : Cx p s m #[.ref bA] c RL cL_law 7) (S : St G true σm σd s H locs) (E : Eq_drawn Rel) (hn : n < 512) (hR : Rel n σd σm) (hc : cells + 0 ≤ room_1.cells ∧ slots + 0 ≤ room_1.slots) (hi : 0 ≤ i ∧ i + 7 ≤ (L : Int)) (hX : va_X bA L xs s s.heap) (hbl : bA < s.heap.size) (hbA : ¬ AG G bA) (hL : L ≤ 3584) (hl : lv_has ls 7 [(0, .ref bA), (1, .ref (G.1 0)), (2, .ref (G.1 41)), (3, .ref (G.1 60)), (4, .int (oI i))])
    (hk : ∀ H locs (σd σm : Sg), St G true σm σd s H locs → Rel (n + 1) σd σm → W p l e room_1 s m #[.ref bA] below meth c H locs cells slots Q (F0 m 2011 ls [])) : W p l e room_1 s m #[.ref bA] below meth c H locs cells slots Q (F0 m 1851 ls []) := by
  obtain ⟨q, q', hd, hm, he, hR'⟩ := E n σd σm (sc xs (i + 1)) (sc xs (i + 2)) (sc xs (i + 3)) (sc xs (i + 4)) hn hR (sc_in xs (i + 1)) (sc_in xs (i + 2)) (sc_in xs (i + 3)) (sc_in xs (i + 4))
  refine lv_aload_n C.1 C.2.1 dL_law_1851 rfl (lv_at hl 1 rfl) ?_
  refine lv_aload_n C.1 C.2.1 dL_law_1852 rfl (lv_at hl 0 rfl) ?_
  refine lv_iload C.1 C.2.1 dL_law_1853 (lv_at hl 4 rfl) ?_
  refine r_iconst C dL_law_1855 ?_
  refine r_iadd C dL_law_1856 ?_
  refine law_sld C S hX hbl hbA hL (i := i + 1) (by omega) dL_law_1857 ?_
  refine lv_aload_n C.1 C.2.1 dL_law_1858 rfl (lv_at hl 0 rfl) ?_
  refine lv_iload C.1 C.2.1 dL_law_1859 (lv_at hl 4 rfl) ?_
  refine r_iconst C dL_law_1861 ?_
  refine r_iadd C dL_law_1862 ?_
  refine law_sld C S hX hbl hbA hL (i := i + 2) (by omega) dL_law_1863 ?_
  refine lv_aload_n C.1 C.2.1 dL_law_1864 rfl (lv_at hl 0 rfl) ?_
  refine lv_iload C.1 C.2.1 dL_law_1865 (lv_at hl 4 rfl) ?_
  refine r_iconst C dL_law_1867 ?_
  refine r_iadd C dL_law_1868 ?_
  refine law_sld C S hX hbl hbA hL (i := i + 3) (by omega) dL_law_1869 ?_
  refine lv_aload_n C.1 C.2.1 dL_law_1870 rfl (lv_at hl 0 rfl) ?_
  refine lv_iload C.1 C.2.1 dL_law_1871 (lv_at hl 4 rfl) ?_
  refine r_iconst C dL_law_1873 ?_
  refine r_iadd C dL_law_1874 ?_
  refine law_sld C S hX hbl hbA hL (i := i + 4) (by omega) dL_law_1875 ?_
  refine r_callVv C S (As := [.int (oI (sc xs (i + 1))), .int (oI (sc xs (i + 2))), .int (oI (sc xs (i + 3))), .int (oI (sc xs (i + 4)))]) (rest := []) (ct_X9_drawn l G σm hd) mi_X9_drawn tw_933 mv_X9_drawn (rvX9 S) ⟨rfl, rfl⟩ ⟨Nat.le_of_ble_eq_true rfl, Nat.le_of_ble_eq_true rfl⟩ hc rfl hl.1 rfl (Nat.le_of_ble_eq_true rfl) dL_law_1876 (fun H locs S => ?_)
  have S := S.sw
  refine lv_aload_n C.1 C.2.1 dL_law_1879 rfl (lv_at hl 2 rfl) ?_
  refine lv_aload_n C.1 C.2.1 dL_law_1880 rfl (lv_at hl 0 rfl) ?_
  refine lv_iload C.1 C.2.1 dL_law_1881 (lv_at hl 4 rfl) ?_
  refine r_iconst C dL_law_1883 ?_
  refine r_iadd C dL_law_1884 ?_
  refine law_sld C S hX hbl hbA hL (i := i + 1) (by omega) dL_law_1885 ?_
  refine lv_aload_n C.1 C.2.1 dL_law_1886 rfl (lv_at hl 0 rfl) ?_
  refine lv_iload C.1 C.2.1 dL_law_1887 (lv_at hl 4 rfl) ?_
  refine r_iconst C dL_law_1889 ?_
  refine r_iadd C dL_law_1890 ?_
  refine law_sld C S hX hbl hbA hL (i := i + 2) (by omega) dL_law_1891 ?_
  refine lv_aload_n C.1 C.2.1 dL_law_1892 rfl (lv_at hl 0 rfl) ?_
  refine lv_iload C.1 C.2.1 dL_law_1893 (lv_at hl 4 rfl) ?_
  refine r_iconst C dL_law_1895 ?_
  refine r_iadd C dL_law_1896 ?_
  refine law_sld C S hX hbl hbA hL (i := i + 3) (by omega) dL_law_1897 ?_
  refine lv_aload_n C.1 C.2.1 dL_law_1898 rfl (lv_at hl 0 rfl) ?_
  refine lv_iload C.1 C.2.1 dL_law_1899 (lv_at hl 4 rfl) ?_
  refine r_iconst C dL_law_1901 ?_
  refine r_iadd C dL_law_1902 ?_
  refine law_sld C S hX hbl hbA hL (i := i + 4) (by omega) dL_law_1903 ?_
  refine r_callVv C S (As := [.int (oI (sc xs (i + 1))), .int (oI (sc xs (i + 2))), .int (oI (sc xs (i + 3))), .int (oI (sc xs (i + 4)))]) (rest := [.int (oI q)]) (ct_X10_drawn l G σd hm) mi_X10_drawn tw_1621 mv_X10_drawn (rvX10 S) ⟨rfl, rfl⟩ ⟨Nat.le_of_ble_eq_true rfl, Nat.le_of_ble_eq_true rfl⟩ hc rfl hl.1 rfl (Nat.le_of_ble_eq_true rfl) dL_law_1904 (fun H locs S => ?_)
  have S := S.ws
  refine r_icmp_eq C rfl rfl (tgt := 2011) dL_law_1907 (by decide) (fun _ => ?_) (fun h9 => absurd he h9)
  exact hk _ _ _ _ S hR'
theorem lw_case_alarm {Rel : Nat → Sg → Sg → Prop} {n : Nat} {i : Int} (C : Cx p s m #[.ref bA] c RL cL_law 7) (S : St G true σm σd s H locs) (E : Eq_alarm Rel) (hn : n < 512) (hR : Rel n σd σm) (hc : cells + 0 ≤ room_1.cells ∧ slots + 0 ≤ room_1.slots) (hi : 0 ≤ i ∧ i + 7 ≤ (L : Int)) (hX : va_X bA L xs s s.heap) (hbl : bA < s.heap.size) (hbA : ¬ AG G bA) (hL : L ≤ 3584) (hl : lv_has ls 7 [(0, .ref bA), (1, .ref (G.1 0)), (2, .ref (G.1 41)), (3, .ref (G.1 60)), (4, .int (oI i))])
    (hk : ∀ H locs (σd σm : Sg), St G true σm σd s H locs → Rel (n + 1) σd σm → W p l e room_1 s m #[.ref bA] below meth c H locs cells slots Q (F0 m 2011 ls [])) : W p l e room_1 s m #[.ref bA] below meth c H locs cells slots Q (F0 m 1912 ls []) := by
  obtain ⟨q, q', hd, hm, he, hR'⟩ := E n σd σm (sc xs (i + 1)) (sc xs (i + 2)) hn hR (sc_in xs (i + 1)) (sc_in xs (i + 2))
  refine lv_aload_n C.1 C.2.1 dL_law_1912 rfl (lv_at hl 1 rfl) ?_
  refine lv_aload_n C.1 C.2.1 dL_law_1913 rfl (lv_at hl 0 rfl) ?_
  refine lv_iload C.1 C.2.1 dL_law_1914 (lv_at hl 4 rfl) ?_
  refine r_iconst C dL_law_1916 ?_
  refine r_iadd C dL_law_1917 ?_
  refine law_sld C S hX hbl hbA hL (i := i + 1) (by omega) dL_law_1918 ?_
  refine lv_aload_n C.1 C.2.1 dL_law_1919 rfl (lv_at hl 0 rfl) ?_
  refine lv_iload C.1 C.2.1 dL_law_1920 (lv_at hl 4 rfl) ?_
  refine r_iconst C dL_law_1922 ?_
  refine r_iadd C dL_law_1923 ?_
  refine law_sld C S hX hbl hbA hL (i := i + 2) (by omega) dL_law_1924 ?_
  refine r_callVv C S (As := [.int (oI (sc xs (i + 1))), .int (oI (sc xs (i + 2)))]) (rest := []) (ct_X9_alarm l G σm hd) mi_X9_alarm tw_944 mv_X9_alarm (rvX9 S) ⟨rfl, rfl⟩ ⟨Nat.le_of_ble_eq_true rfl, Nat.le_of_ble_eq_true rfl⟩ hc rfl hl.1 rfl (Nat.le_of_ble_eq_true rfl) dL_law_1925 (fun H locs S => ?_)
  have S := S.sw
  refine lv_aload_n C.1 C.2.1 dL_law_1928 rfl (lv_at hl 2 rfl) ?_
  refine lv_aload_n C.1 C.2.1 dL_law_1929 rfl (lv_at hl 0 rfl) ?_
  refine lv_iload C.1 C.2.1 dL_law_1930 (lv_at hl 4 rfl) ?_
  refine r_iconst C dL_law_1932 ?_
  refine r_iadd C dL_law_1933 ?_
  refine law_sld C S hX hbl hbA hL (i := i + 1) (by omega) dL_law_1934 ?_
  refine lv_aload_n C.1 C.2.1 dL_law_1935 rfl (lv_at hl 0 rfl) ?_
  refine lv_iload C.1 C.2.1 dL_law_1936 (lv_at hl 4 rfl) ?_
  refine r_iconst C dL_law_1938 ?_
  refine r_iadd C dL_law_1939 ?_
  refine law_sld C S hX hbl hbA hL (i := i + 2) (by omega) dL_law_1940 ?_
  refine r_callVv C S (As := [.int (oI (sc xs (i + 1))), .int (oI (sc xs (i + 2)))]) (rest := [.int (oI q)]) (ct_X10_alarm l G σd hm) mi_X10_alarm tw_1509 mv_X10_alarm (rvX10 S) ⟨rfl, rfl⟩ ⟨Nat.le_of_ble_eq_true rfl, Nat.le_of_ble_eq_true rfl⟩ hc rfl hl.1 rfl (Nat.le_of_ble_eq_true rfl) dL_law_1941 (fun H locs S => ?_)
  have S := S.ws
  refine r_icmp_eq C rfl rfl (tgt := 2011) dL_law_1944 (by decide) (fun _ => ?_) (fun h9 => absurd he h9)
  exact hk _ _ _ _ S hR'
theorem lw_case_act {Rel : Nat → Sg → Sg → Prop} {n : Nat} {i : Int} (C : Cx p s m #[.ref bA] c RL cL_law 7) (S : St G true σm σd s H locs) (E : Eq_act Rel) (hn : n < 512) (hR : Rel n σd σm) (hc : cells + 0 ≤ room_1.cells ∧ slots + 0 ≤ room_1.slots) (hi : 0 ≤ i ∧ i + 7 ≤ (L : Int)) (hX : va_X bA L xs s s.heap) (hbl : bA < s.heap.size) (hbA : ¬ AG G bA) (hL : L ≤ 3584) (hl : lv_has ls 7 [(0, .ref bA), (1, .ref (G.1 0)), (2, .ref (G.1 41)), (3, .ref (G.1 60)), (4, .int (oI i))])
    (hk : ∀ H locs (σd σm : Sg), St G true σm σd s H locs → Rel (n + 1) σd σm → W p l e room_1 s m #[.ref bA] below meth c H locs cells slots Q (F0 m 2011 ls [])) : W p l e room_1 s m #[.ref bA] below meth c H locs cells slots Q (F0 m 1949 ls []) := by
  obtain ⟨q, q', hd, hm, he, hR'⟩ := E n σd σm (sc xs (i + 1)) (sc xs (i + 2)) hn hR (sc_in xs (i + 1)) (sc_in xs (i + 2))
  refine lv_aload_n C.1 C.2.1 dL_law_1949 rfl (lv_at hl 1 rfl) ?_
  refine lv_aload_n C.1 C.2.1 dL_law_1950 rfl (lv_at hl 0 rfl) ?_
  refine lv_iload C.1 C.2.1 dL_law_1951 (lv_at hl 4 rfl) ?_
  refine r_iconst C dL_law_1953 ?_
  refine r_iadd C dL_law_1954 ?_
  refine law_sld C S hX hbl hbA hL (i := i + 1) (by omega) dL_law_1955 ?_
  refine lv_aload_n C.1 C.2.1 dL_law_1956 rfl (lv_at hl 0 rfl) ?_
  refine lv_iload C.1 C.2.1 dL_law_1957 (lv_at hl 4 rfl) ?_
  refine r_iconst C dL_law_1959 ?_
  refine r_iadd C dL_law_1960 ?_
  refine law_sld C S hX hbl hbA hL (i := i + 2) (by omega) dL_law_1961 ?_
  refine r_callVv C S (As := [.int (oI (sc xs (i + 1))), .int (oI (sc xs (i + 2)))]) (rest := []) (ct_X9_act l G σm hd) mi_X9_act tw_952 mv_X9_act (rvX9 S) ⟨rfl, rfl⟩ ⟨Nat.le_of_ble_eq_true rfl, Nat.le_of_ble_eq_true rfl⟩ hc rfl hl.1 rfl (Nat.le_of_ble_eq_true rfl) dL_law_1962 (fun H locs S => ?_)
  have S := S.sw
  refine lv_aload_n C.1 C.2.1 dL_law_1965 rfl (lv_at hl 2 rfl) ?_
  refine lv_aload_n C.1 C.2.1 dL_law_1966 rfl (lv_at hl 0 rfl) ?_
  refine lv_iload C.1 C.2.1 dL_law_1967 (lv_at hl 4 rfl) ?_
  refine r_iconst C dL_law_1969 ?_
  refine r_iadd C dL_law_1970 ?_
  refine law_sld C S hX hbl hbA hL (i := i + 1) (by omega) dL_law_1971 ?_
  refine lv_aload_n C.1 C.2.1 dL_law_1972 rfl (lv_at hl 0 rfl) ?_
  refine lv_iload C.1 C.2.1 dL_law_1973 (lv_at hl 4 rfl) ?_
  refine r_iconst C dL_law_1975 ?_
  refine r_iadd C dL_law_1976 ?_
  refine law_sld C S hX hbl hbA hL (i := i + 2) (by omega) dL_law_1977 ?_
  refine r_callVv C S (As := [.int (oI (sc xs (i + 1))), .int (oI (sc xs (i + 2)))]) (rest := [.int (oI q)]) (ct_X10_act l G σd hm) mi_X10_act tw_1513 mv_X10_act (rvX10 S) ⟨rfl, rfl⟩ ⟨Nat.le_of_ble_eq_true rfl, Nat.le_of_ble_eq_true rfl⟩ hc rfl hl.1 rfl (Nat.le_of_ble_eq_true rfl) dL_law_1978 (fun H locs S => ?_)
  have S := S.ws
  refine r_icmp_eq C rfl rfl (tgt := 2011) dL_law_1981 (by decide) (fun _ => ?_) (fun h9 => absurd he h9)
  exact hk _ _ _ _ S hR'
theorem lw_case_count {Rel : Nat → Sg → Sg → Prop} {n : Nat} {i : Int} (C : Cx p s m #[.ref bA] c RL cL_law 7) (S : St G true σm σd s H locs) (E : Eq_count Rel) (hn : n < 512) (hR : Rel n σd σm) (hc : cells + 0 ≤ room_1.cells ∧ slots + 0 ≤ room_1.slots) (hi : 0 ≤ i ∧ i + 7 ≤ (L : Int)) (hX : va_X bA L xs s s.heap) (hbl : bA < s.heap.size) (hbA : ¬ AG G bA) (hL : L ≤ 3584) (hl : lv_has ls 7 [(0, .ref bA), (1, .ref (G.1 0)), (2, .ref (G.1 41)), (3, .ref (G.1 60)), (4, .int (oI i))])
    (hk : ∀ H locs (σd σm : Sg), St G true σm σd s H locs → Rel (n + 1) σd σm → W p l e room_1 s m #[.ref bA] below meth c H locs cells slots Q (F0 m 2011 ls [])) : W p l e room_1 s m #[.ref bA] below meth c H locs cells slots Q (F0 m 1986 ls []) := by
  obtain ⟨q, q', hd, hm, he, hR'⟩ := E n σd σm (sc xs (i + 1)) hn hR (sc_in xs (i + 1))
  refine lv_aload_n C.1 C.2.1 dL_law_1986 rfl (lv_at hl 1 rfl) ?_
  refine lv_aload_n C.1 C.2.1 dL_law_1987 rfl (lv_at hl 0 rfl) ?_
  refine lv_iload C.1 C.2.1 dL_law_1988 (lv_at hl 4 rfl) ?_
  refine r_iconst C dL_law_1990 ?_
  refine r_iadd C dL_law_1991 ?_
  refine law_sld C S hX hbl hbA hL (i := i + 1) (by omega) dL_law_1992 ?_
  refine r_callVv C S (As := [.int (oI (sc xs (i + 1)))]) (rest := []) (ct_X9_count l G σm hd) mi_X9_count tw_956 mv_X9_count (rvX9 S) ⟨rfl, rfl⟩ ⟨Nat.le_of_ble_eq_true rfl, Nat.le_of_ble_eq_true rfl⟩ hc rfl hl.1 rfl (Nat.le_of_ble_eq_true rfl) dL_law_1993 (fun H locs S => ?_)
  have S := S.sw
  refine lv_aload_n C.1 C.2.1 dL_law_1996 rfl (lv_at hl 2 rfl) ?_
  refine lv_aload_n C.1 C.2.1 dL_law_1997 rfl (lv_at hl 0 rfl) ?_
  refine lv_iload C.1 C.2.1 dL_law_1998 (lv_at hl 4 rfl) ?_
  refine r_iconst C dL_law_2000 ?_
  refine r_iadd C dL_law_2001 ?_
  refine law_sld C S hX hbl hbA hL (i := i + 1) (by omega) dL_law_2002 ?_
  refine r_callVv C S (As := [.int (oI (sc xs (i + 1)))]) (rest := [.int (oI q)]) (ct_X10_count l G σd hm) mi_X10_count tw_1633 mv_X10_count (rvX10 S) ⟨rfl, rfl⟩ ⟨Nat.le_of_ble_eq_true rfl, Nat.le_of_ble_eq_true rfl⟩ hc rfl hl.1 rfl (Nat.le_of_ble_eq_true rfl) dL_law_2003 (fun H locs S => ?_)
  have S := S.ws
  refine r_icmp_eq C rfl rfl (tgt := 2011) dL_law_2006 (by decide) (fun _ => ?_) (fun h9 => absurd he h9)
  exact hk _ _ _ _ S hR'
end LAWC
