/-! ===== the world: 61 cells by their own numbers; ints and longs of cell k, place j: σ k j ===== -/
abbrev Sg : Type := Nat → Nat → Int
abbrev Gd : Type := (Nat → Nat) × (Nat → ClassId) × (Nat → Nat → Nat) × (Nat → ClassId)
def up (σ : Sg) (k j : Nat) (v : Int) : Sg := fun a => if a = k then (fun x => if x = j then v else σ a x) else σ a
def mix (b : Bool) (τ σ : Sg) : Sg := fun k => if decide (k < 41) = b then σ k else τ k
abbrev NB : Nat := 61
def mkCell (G : Gd) (k : Nat) (r : Nat → Int) : va_E := match k with
  | 0 => .inr (9, [.ref (G.1 1), .ref (G.1 3), .ref (G.1 6), .ref (G.1 12), .int (oI (r 4)), .ref (G.1 13), .ref (G.1 15), .ref (G.1 17), .ref (G.1 33), .ref (G.1 18), .ref (G.1 20)])
  | 1 => .inr (6, [.ref (G.1 2), .int (oI (r 1))])
  | 2 => .inl (G.2.2.2 0, 900, .inl fun j => oI (r j))
  | 3 => .inr (4, [.ref (G.1 1), .ref (G.1 4), .ref (G.1 5), .int (oI (r 3)), .int (oI (r 4)), .int (oI (r 5)), .int (oI (r 6)), .int (oI (r 7)), .int (oI (r 8))])
  | 4 => .inl (G.2.2.2 0, 96, .inl fun j => oI (r j))
  | 5 => .inl (G.2.2.2 0, 18, .inl fun j => oI (r j))
  | 6 => .inr (0, [.ref (G.1 7), .ref (G.1 8), .ref (G.1 9), .ref (G.1 10), .ref (G.1 11), .int (oI (r 5))])
  | 7 => .inl (G.2.2.2 0, 24, .inl fun j => oI (r j))
  | 8 => .inl (G.2.2.2 0, 24, .inl fun j => oI (r j))
  | 9 => .inl (G.2.2.2 0, 24, .inl fun j => oI (r j))
  | 10 => .inl (G.2.2.2 0, 24, .inl fun j => oI (r j))
  | 11 => .inl (G.2.2.2 0, 768, .inl fun j => oI (r j))
  | 12 => .inl (G.2.2.2 3, 6, .inr (.inr (.inr (.inr fun j => if j < 6 then some (G.1 (21 + j)) else none))))
  | 13 => .inr (5, [.ref (G.1 14), .int (oI (r 1)), .int (oI (r 2))])
  | 14 => .inl (G.2.2.2 0, 90, .inl fun j => oI (r j))
  | 15 => .inr (5, [.ref (G.1 16), .int (oI (r 1)), .int (oI (r 2))])
  | 16 => .inl (G.2.2.2 0, 90, .inl fun j => oI (r j))
  | 17 => .inr (7, [.int (oI (r 0)), .int (oI (r 1)), .int (oI (r 2)), .int (oI (r 3)), .int (oI (r 4)), .int (oI (r 5)), .int (oI (r 6))])
  | 18 => .inr (3, [.ref (G.1 19), .int (oI (r 1))])
  | 19 => .inl (G.2.2.2 0, 576, .inl fun j => oI (r j))
  | 20 => .inr (1, [.ref (G.1 6), .long (oL (r 1)), .long (oL (r 2)), .int (oI (r 3)), .int (oI (r 4)), .int (oI (r 5))])
  | 21 => .inr (8, [.ref (G.1 6), .ref (G.1 27), .int (oI (r 2)), .int (oI (r 3)), .int (oI (r 4)), .int (oI (r 5)), .int (oI (r 6)), .int (oI (r 7)), .int (oI (r 8))])
  | 22 => .inr (8, [.ref (G.1 6), .ref (G.1 28), .int (oI (r 2)), .int (oI (r 3)), .int (oI (r 4)), .int (oI (r 5)), .int (oI (r 6)), .int (oI (r 7)), .int (oI (r 8))])
  | 23 => .inr (8, [.ref (G.1 6), .ref (G.1 29), .int (oI (r 2)), .int (oI (r 3)), .int (oI (r 4)), .int (oI (r 5)), .int (oI (r 6)), .int (oI (r 7)), .int (oI (r 8))])
  | 24 => .inr (8, [.ref (G.1 6), .ref (G.1 30), .int (oI (r 2)), .int (oI (r 3)), .int (oI (r 4)), .int (oI (r 5)), .int (oI (r 6)), .int (oI (r 7)), .int (oI (r 8))])
  | 25 => .inr (8, [.ref (G.1 6), .ref (G.1 31), .int (oI (r 2)), .int (oI (r 3)), .int (oI (r 4)), .int (oI (r 5)), .int (oI (r 6)), .int (oI (r 7)), .int (oI (r 8))])
  | 26 => .inr (8, [.ref (G.1 6), .ref (G.1 32), .int (oI (r 2)), .int (oI (r 3)), .int (oI (r 4)), .int (oI (r 5)), .int (oI (r 6)), .int (oI (r 7)), .int (oI (r 8))])
  | 27 => .inr (2, [.ref (G.1 6), .ref (G.1 34), .int (oI (r 2)), .int (oI (r 3)), .int (oI (r 4)), .int (oI (r 5))])
  | 28 => .inr (2, [.ref (G.1 6), .ref (G.1 35), .int (oI (r 2)), .int (oI (r 3)), .int (oI (r 4)), .int (oI (r 5))])
  | 29 => .inr (2, [.ref (G.1 6), .ref (G.1 36), .int (oI (r 2)), .int (oI (r 3)), .int (oI (r 4)), .int (oI (r 5))])
  | 30 => .inr (2, [.ref (G.1 6), .ref (G.1 37), .int (oI (r 2)), .int (oI (r 3)), .int (oI (r 4)), .int (oI (r 5))])
  | 31 => .inr (2, [.ref (G.1 6), .ref (G.1 38), .int (oI (r 2)), .int (oI (r 3)), .int (oI (r 4)), .int (oI (r 5))])
  | 32 => .inr (2, [.ref (G.1 6), .ref (G.1 39), .int (oI (r 2)), .int (oI (r 3)), .int (oI (r 4)), .int (oI (r 5))])
  | 33 => .inr (2, [.ref (G.1 6), .ref (G.1 40), .int (oI (r 2)), .int (oI (r 3)), .int (oI (r 4)), .int (oI (r 5))])
  | 34 => .inl (G.2.2.2 0, 576, .inl fun j => oI (r j))
  | 35 => .inl (G.2.2.2 0, 576, .inl fun j => oI (r j))
  | 36 => .inl (G.2.2.2 0, 576, .inl fun j => oI (r j))
  | 37 => .inl (G.2.2.2 0, 576, .inl fun j => oI (r j))
  | 38 => .inl (G.2.2.2 0, 576, .inl fun j => oI (r j))
  | 39 => .inl (G.2.2.2 0, 576, .inl fun j => oI (r j))
  | 40 => .inl (G.2.2.2 0, 576, .inl fun j => oI (r j))
  | 41 => .inr (10, [.int (oI (r 0)), .ref (G.1 42), .int (oI (r 2)), .ref (G.1 43), .ref (G.1 44), .int (oI (r 5)), .int (oI (r 6)), .int (oI (r 7)), .int (oI (r 8)), .int (oI (r 9)), .int (oI (r 10)), .int (oI (r 11)), .int (oI (r 12)), .int (oI (r 13)), .int (oI (r 14)), .int (oI (r 15)), .int (oI (r 16)), .ref (G.1 45), .ref (G.1 46), .ref (G.1 47), .ref (G.1 48), .ref (G.1 49), .ref (G.1 50), .ref (G.1 51), .ref (G.1 52), .ref (G.1 53), .ref (G.1 54), .int (oI (r 27)), .int (oI (r 28)), .ref (G.1 55), .int (oI (r 30)), .ref (G.1 56), .int (oI (r 32)), .ref (G.1 57), .int (oI (r 34)), .int (oI (r 35)), .int (oI (r 36)), .int (oI (r 37)), .ref (G.1 58), .ref (G.1 59), .int (oI (r 40)), .long (oL (r 41))])
  | 42 => .inl (G.2.2.2 0, 900, .inl fun j => oI (r j))
  | 43 => .inl (G.2.2.2 0, 96, .inl fun j => oI (r j))
  | 44 => .inl (G.2.2.2 0, 18, .inl fun j => oI (r j))
  | 45 => .inl (G.2.2.2 0, 25, .inl fun j => oI (r j))
  | 46 => .inl (G.2.2.2 0, 25, .inl fun j => oI (r j))
  | 47 => .inl (G.2.2.2 0, 25, .inl fun j => oI (r j))
  | 48 => .inl (G.2.2.2 0, 25, .inl fun j => oI (r j))
  | 49 => .inl (G.2.2.2 2, 25, .inl fun j => oI (r j))
  | 50 => .inl (G.2.2.2 0, 6, .inl fun j => oI (r j))
  | 51 => .inl (G.2.2.2 0, 6, .inl fun j => oI (r j))
  | 52 => .inl (G.2.2.2 0, 6, .inl fun j => oI (r j))
  | 53 => .inl (G.2.2.2 0, 6, .inl fun j => oI (r j))
  | 54 => .inl (G.2.2.2 0, 6, .inl fun j => oI (r j))
  | 55 => .inl (G.2.2.2 0, 6, .inl fun j => oI (r j))
  | 56 => .inl (G.2.2.2 0, 90, .inl fun j => oI (r j))
  | 57 => .inl (G.2.2.2 0, 90, .inl fun j => oI (r j))
  | 58 => .inl (G.2.2.2 1, 5, .inr (.inl fun j => oL (r j)))
  | 59 => .inl (G.2.2.2 0, 600, .inl fun j => oI (r j))
  | 60 => .inl (G.2.2.2 1, 1, .inr (.inl fun j => oL (r j)))
  | _ => .inr (0, [])
def wsG (G : Gd) (ρ : Sg) : va_W := (List.range NB).map fun k => (G.1 k, mkCell G k (ρ k))
def AG (G : Gd) : Nat → Prop := fun q => ∃ k, k < NB ∧ q = G.1 k
abbrev tysG (G : Gd) : List (ClassId × FieldType) := [(G.2.2.2 0, .int), (G.2.2.2 1, .long), (G.2.2.2 2, .boolean), (G.2.2.2 3, .object "RiskDesk$Treaty")]
abbrev DG (G : Gd) : va_G := (G.2.1, G.2.2.1)
def Wo (G : Gd) (ρ : Sg) (s : State) (H : Heap) : Prop := va_P (DG G) vwCl (wsG G ρ) H ∧ va_K (DG G) vwCl (tysG G) s ∧ va_D (AG G) (wsG G ρ)
/-- what the Statement gives of the start and no method changes: the four written-out arrays of the class, and the three Strings -/
def zTabs (i : Nat) : String × Nat × (Nat → Int) := match i with
  | 0 => ("LEAST_OF_POLICY", 4, fun j => [0, 0, 1, 0].getD j 0)
  | 1 => ("MOST_OF_POLICY", 4, fun j => [299, 299, 99999, 3].getD j 0)
  | 2 => ("LEAST_OF_TREATY", 3, fun j => [1, 1, 1].getD j 0)
  | _ => ("MOST_OF_TREATY", 3, fun j => [15, 300, 9999999].getD j 0)
def zLen : List Nat := [6, 6, 14]
def zByt : List (List Int32) := [[112, 111, 108, 105, 99, 121], [116, 114, 101, 97, 116, 121], [112, 111, 108, 105, 99, 121, 32, 116, 114, 101, 97, 116, 121, 32]]
def Zs (G : Gd) (s : State) (H : Heap) : Prop := (∀ i, i < 4 → va_Z "RiskDesk$Reader" (zTabs i).1 "[I" (.ref (G.1 (70 + i))) (AG G) s H ∧ va_T .int (G.1 (70 + i)) (zTabs i).2.1 (fun j => .int (oI ((zTabs i).2.2 j))) (AG G) s H) ∧ vk_S 3 zLen zByt (fun i => G.1 (80 + i)) (fun i => G.1 (90 + i)) (AG G) s H ∧ va_Z "java/lang/String" "COMPACT_STRINGS" "Z" (.int 1) (AG G) s H ∧ va_Zq "jdk/internal/util/Preconditions" "SIOOBE_FORMATTER" "Ljava/util/function/BiFunction;" (AG G) s H
def nestM : List (String × Nat × MethodName × String) := [(RX9, 11, yX6_init, "RiskDesk"), (RX9, 27, yX0_init, "RiskDesk"), (RX9, 56, yX7_init, "RiskDesk"), (RX9, 70, yX3_init, "RiskDesk"), (RX0, 37, yX9_isNumber, "RiskDesk"), (RX0, 41, yX9_contains, "RiskDesk"), (RX2, 32, yX9_contains, "RiskDesk"), (RX2, 40, yX9_isNumber, "RiskDesk"), (RX2, 74, yX9_sides, "RiskDesk"), (RX8, 40, yX9_contains, "RiskDesk"), (RX1, 36, yX9_contains, "RiskDesk"), (RX3, 41, yX9_contains, "RiskDesk"), (RX7, 19, yX9_onWay, "RiskDesk")]
def nestF : List (String × Nat × String × String × String × String) := [(RX2, 44, "RiskDesk$Book", "x", "[I", "RiskDesk"), (RX2, 49, "RiskDesk$Book", "y", "[I", "RiskDesk")]
def strR (i : Nat) : String × Nat × String := match i with
  | 0 => (RX4, 52, "policy")
  | 1 => (RX4, 68, "treaty")
  | _ => (RX10, 106, "policy treaty ")
def Ns (G : Gd) (s : State) : Prop := (∀ q ∈ nestM, va_Nw (.methodLinkNest q.1 q.2.1 q.2.2.1 q.2.2.2) s) ∧ (∀ q ∈ nestF, va_Nw (.fieldLinkNest q.1 q.2.1 q.2.2.1 q.2.2.2.1 q.2.2.2.2.1 q.2.2.2.2.2) s) ∧ ∀ i, i < 3 → vk_R (strR i).1 (strR i).2.1 (strR i).2.2 (G.1 (80 + i)) s
def St (G : Gd) (b : Bool) (τ σ : Sg) (s : State) (H : Heap) (locs : List Loc) : Prop := Wo G (mix b τ σ) s H ∧ va_S (AG G) s.heap H locs ∧ Zs G s s.heap ∧ Ns G s
def Cx (p : Program) (s : State) (m : MethodId) (args : Array Value) (c : Code) (own : String) (cc : ByteArray) (nL : Nat) : Prop := p.tables.exec = Jvm.exec ∧ c.code = cc ∧ c.maxLocals = nL ∧ s.vm.findClass own = some m.cls ∧ ∀ w ∈ GW, w.before args s = true
theorem up_s {σ : Sg} {k j : Nat} {v : Int} : up σ k j v k j = v := by simp [up]
theorem up_k {σ : Sg} {k j a : Nat} {v : Int} (h : a ≠ k) : up σ k j v a = σ a := by simp [up, h]
theorem up_j {σ : Sg} {k j x : Nat} {v : Int} (h : x ≠ j) : up σ k j v k x = σ k x := by simp [up, h]
theorem mix_b {b : Bool} {τ σ : Sg} {k : Nat} (h : decide (k < 41) = b) : mix b τ σ k = σ k := if_pos h
theorem mix_up {b : Bool} {τ σ : Sg} {k j : Nat} {v : Int} (h : decide (k < 41) = b) : mix b τ (up σ k j v) = up (mix b τ σ) k j v := by
  funext a x
  by_cases ha : a = k
  · subst ha
    simp [mix, up, h]
  · simp only [mix, up, if_neg ha]
theorem ws_at {G : Gd} {ρ : Sg} {k : Nat} (hk : k < NB) : (wsG G ρ)[k]? = some (G.1 k, mkCell G k (ρ k)) := by
  unfold wsG
  rw [List.getElem?_map, List.getElem?_range hk]
  rfl
theorem ws_set {G : Gd} {ρ : Sg} {k j : Nat} {v : Int} : (wsG G ρ).set k (G.1 k, mkCell G k (up ρ k j v k)) = wsG G (up ρ k j v) := by
  apply List.ext_getElem?
  intro i
  by_cases hi : i < NB
  · by_cases hik : i = k
    · subst hik
      rw [List.getElem?_set_self (by unfold wsG; simp; exact hi), ws_at hi]
    · rw [List.getElem?_set_ne (Ne.symm hik), ws_at hi, ws_at hi, up_k hik]
  · rw [List.getElem?_eq_none (by unfold wsG; simp; omega), List.getElem?_eq_none (by unfold wsG; simp; omega)]
section WR
variable {p : Program} {l : Launch} {e : Env} {R : Room} {s : State} {m : MethodId} {args : Array Value} {below : List Frame} {meth : Method} {c : Code} {H : Heap} {locs : List Loc} {Q : State → Prop} {pc : Nat} {ls : Array Slot} {rest : List Value} {own : String} {cc : ByteArray} {nL : Nat} {G : Gd} {b : Bool} {τ σ : Sg}
theorem r_get (C : Cx p s m args c own cc nL) (S : St G b τ σ s H locs) (k ci : Nat) {Cn : String} {T : u_T} {N : Nat} {fs : List Value} (hk : k < NB) (hcell : mkCell G k (mix b τ σ k) = .inr (ci, fs)) (hc : vwCl[ci]? = some (Cn, T, N)) (hin : ∀ w ∈ u_ws Cn T N, w ∈ GW) (j : Nat) (hj : j < N) {v : Value} (hv : fs[j]? = some v) {idx : Nat} (hlink : Cond.fieldLink own idx (T j).1 (T j).2.1 (T j).2.2.1 ∈ GW) (hdg : decode cc pc = .ok (.getfield idx, 3))
    (kk : W p l e R s m args below meth c H locs 0 0 Q (F0 m (pc + 3) ls (v :: rest))) : W p l e R s m args below meth c H locs 0 0 Q (F0 m pc ls (.ref (G.1 k) :: rest)) :=
  va_get C.1 C.2.1 C.2.2.2.2 hin C.2.2.2.1 S.1.2.1 S.1.1 k (by rw [ws_at hk, hcell]) hc j hj (C.2.2.2.2 _ hlink) (fun _ h => h) hv hdg kk
theorem r_getN (C : Cx p s m args c own cc nL) (S : St G b τ σ s H locs) (k ci : Nat) {Cn : String} {T : u_T} {N : Nat} {fs : List Value} (hk : k < NB) (hcell : mkCell G k (mix b τ σ k) = .inr (ci, fs)) (hc : vwCl[ci]? = some (Cn, T, N)) (hin : ∀ w ∈ u_ws Cn T N, w ∈ GW) (j : Nat) (hj : j < N) {v : Value} (hv : fs[j]? = some v) {idx : Nat} {host : String} (hlink : va_Nw (.fieldLinkNest own idx (T j).1 (T j).2.1 (T j).2.2.1 host) s) (hdg : decode cc pc = .ok (.getfield idx, 3))
    (kk : W p l e R s m args below meth c H locs 0 0 Q (F0 m (pc + 3) ls (v :: rest))) : W p l e R s m args below meth c H locs 0 0 Q (F0 m pc ls (.ref (G.1 k) :: rest)) :=
  va_getN C.1 C.2.1 C.2.2.2.2 hin C.2.2.2.1 S.1.2.1 S.1.1 k (by rw [ws_at hk, hcell]) hc j hj (va_Nw.use rfl hlink) (fun _ h => h) hv hdg kk
theorem r_put (C : Cx p s m args c own cc nL) (S : St G b τ σ s H locs) (k ci : Nat) {Cn : String} {T : u_T} {N : Nat} {fs : List Value} (hk : k < NB) (hb : decide (k < 41) = b) (hcell : mkCell G k (mix b τ σ k) = .inr (ci, fs)) (hc : vwCl[ci]? = some (Cn, T, N)) (hin : ∀ w ∈ u_ws Cn T N, w ∈ GW) (ty0 : Nat → FieldType) (hty : ∀ k, k < N → parseFieldDescriptor (T k).2.2.1 = some (ty0 k)) (hnm : ∀ a, a < N → ∀ b, b < N → a ≠ b → (T a).2.1 ≠ (T b).2.1) (j : Nat) (hj : j < N) {z : Int} {v : Value} (hset : mkCell G k (up (mix b τ σ) k j z k) = .inr (ci, fs.set j v)) {idx : Nat} (hlink : Cond.fieldLink own idx (T j).1 (T j).2.1 (T j).2.2.1 ∈ GW) (hfin : (T j).2.2.2 = false) {ty : FieldType} (hd : parseFieldDescriptor (T j).2.2.1 = some ty) (hn : narrow ty v = v) (hfit : fits ty v = true) (hl : j < fs.length) (hdg : decode cc pc = .ok (.putfield idx, 3))
    (kk : ∀ H1 locs1, St G b τ (up σ k j z) s H1 locs1 → W p l e R s m args below meth c H1 locs1 0 0 Q (F0 m (pc + 3) ls rest)) : W p l e R s m args below meth c H locs 0 0 Q (F0 m pc ls (v :: .ref (G.1 k) :: rest)) := by
  refine va_put C.1 C.2.1 C.2.2.2.2 hin ty0 hty hnm C.2.2.2.1 S.1.2.1 S.1.1 S.1.2.2 S.2.1 k (by rw [ws_at hk, hcell]) hc j hj (C.2.2.2.2 _ hlink) (fun _ h => h) hfin hd hn hfit hl hdg (fun H1 locs1 hP hD hS => kk H1 locs1 ?_)
  rw [← hset, ws_set, ← mix_up hb] at hP hD
  exact ⟨⟨hP, S.1.2.1, hD⟩, hS, S.2.2⟩
theorem ix_ok {i : Int} {n : Nat} (hn : n < 2147483648) (h : 0 ≤ i ∧ i < (n : Int)) : vp_in (oI i) n ∧ (oI i).toNatClampNeg = i.toNat := by
  have e : (oI i).toInt = i := w32_eq ⟨by omega, by omega⟩
  refine ⟨vp_in_iff.mpr ⟨by rw [e]; exact h.1, by rw [e]; exact h.2⟩, ?_⟩
  show (oI i).toInt.toNat = _
  rw [e]
theorem upd_oI {r : Nat → Int} {k : Nat} {z : Int} : upd (fun j => oI (r j)) k (oI z) = fun j => oI (if j = k then z else r j) := by
  funext j
  unfold upd
  split <;> rfl
theorem r_iald (C : Cx p s m args c own cc nL) (S : St G b τ σ s H locs) (k n : Nat) (hk : k < NB) (hb : decide (k < 41) = b) (hcell : ∀ r, mkCell G k r = .inl (G.2.2.2 0, n, .inl fun j => oI (r j))) (hn : n < 2147483648) {i : Int} (hi : 0 ≤ i ∧ i < (n : Int)) (hdg : decode cc pc = .ok (.iaload, 1))
    (kk : W p l e R s m args below meth c H locs 0 0 Q (F0 m (pc + 1) ls (.int (oI (σ k i.toNat)) :: rest))) : W p l e R s m args below meth c H locs 0 0 Q (F0 m pc ls (.int (oI i) :: .ref (G.1 k) :: rest)) := by
  obtain ⟨h1, h2⟩ := ix_ok hn hi
  refine va_iald C.1 C.2.1 S.1.2.1 S.1.1 k 0 (by rw [ws_at hk, hcell]) rfl h1 hdg ?_
  rw [h2, mix_b hb]
  exact kk
theorem r_zald (C : Cx p s m args c own cc nL) (S : St G b τ σ s H locs) (k n : Nat) (hk : k < NB) (hb : decide (k < 41) = b) (hcell : ∀ r, mkCell G k r = .inl (G.2.2.2 2, n, .inl fun j => oI (r j))) (hn : n < 2147483648) {i : Int} (hi : 0 ≤ i ∧ i < (n : Int)) (hdg : decode cc pc = .ok (.baload, 1))
    (kk : W p l e R s m args below meth c H locs 0 0 Q (F0 m (pc + 1) ls (.int (oI (σ k i.toNat)) :: rest))) : W p l e R s m args below meth c H locs 0 0 Q (F0 m pc ls (.int (oI i) :: .ref (G.1 k) :: rest)) := by
  obtain ⟨h1, h2⟩ := ix_ok hn hi
  refine va_zald C.1 C.2.1 S.1.2.1 S.1.1 k 2 (by rw [ws_at hk, hcell]) rfl h1 hdg ?_
  rw [h2, mix_b hb]
  exact kk
theorem r_lald (C : Cx p s m args c own cc nL) (S : St G b τ σ s H locs) (k n : Nat) (hk : k < NB) (hb : decide (k < 41) = b) (hcell : ∀ r, mkCell G k r = .inl (G.2.2.2 1, n, .inr (.inl fun j => oL (r j)))) (hn : n < 2147483648) {i : Int} (hi : 0 ≤ i ∧ i < (n : Int)) (hdg : decode cc pc = .ok (.laload, 1))
    (kk : W p l e R s m args below meth c H locs 0 0 Q (F0 m (pc + 1) ls (.long (oL (σ k i.toNat)) :: rest))) : W p l e R s m args below meth c H locs 0 0 Q (F0 m pc ls (.int (oI i) :: .ref (G.1 k) :: rest)) := by
  obtain ⟨h1, h2⟩ := ix_ok hn hi
  refine va_lald C.1 C.2.1 S.1.2.1 S.1.1 k 1 (by rw [ws_at hk, hcell]) rfl h1 hdg ?_
  rw [h2, mix_b hb]
  exact kk
theorem r_iast (C : Cx p s m args c own cc nL) (S : St G b τ σ s H locs) (k n : Nat) (hk : k < NB) (hb : decide (k < 41) = b) (hcell : ∀ r, mkCell G k r = .inl (G.2.2.2 0, n, .inl fun j => oI (r j))) (hn : n < 2147483648) {i z : Int} (hi : 0 ≤ i ∧ i < (n : Int)) (hdg : decode cc pc = .ok (.iastore, 1))
    (kk : ∀ H1 locs1, St G b τ (up σ k i.toNat z) s H1 locs1 → W p l e R s m args below meth c H1 locs1 0 0 Q (F0 m (pc + 1) ls rest)) : W p l e R s m args below meth c H locs 0 0 Q (F0 m pc ls (.int (oI z) :: .int (oI i) :: .ref (G.1 k) :: rest)) := by
  obtain ⟨h1, h2⟩ := ix_ok hn hi
  refine va_iast C.1 C.2.1 S.1.2.1 S.1.1 S.1.2.2 S.2.1 k 0 (by rw [ws_at hk, hcell]) rfl h1 hdg (fun H1 locs1 hP hD hS => kk H1 locs1 ?_)
  have e : (.inl (G.2.2.2 0, n, .inl (upd (fun j => oI (mix b τ σ k j)) (oI i).toNatClampNeg (oI z))) : va_E) = mkCell G k (up (mix b τ σ) k i.toNat z k) := by
    rw [hcell, h2, upd_oI]
    simp [up]
  rw [e, ws_set, ← mix_up hb] at hP hD
  exact ⟨⟨hP, S.1.2.1, hD⟩, hS, S.2.2⟩
theorem r_last (C : Cx p s m args c own cc nL) (S : St G b τ σ s H locs) (k n : Nat) (hk : k < NB) (hb : decide (k < 41) = b) (hcell : ∀ r, mkCell G k r = .inl (G.2.2.2 1, n, .inr (.inl fun j => oL (r j)))) (hn : n < 2147483648) {i z : Int} (hi : 0 ≤ i ∧ i < (n : Int)) (hdg : decode cc pc = .ok (.lastore, 1))
    (kk : ∀ H1 locs1, St G b τ (up σ k i.toNat z) s H1 locs1 → W p l e R s m args below meth c H1 locs1 0 0 Q (F0 m (pc + 1) ls rest)) : W p l e R s m args below meth c H locs 0 0 Q (F0 m pc ls (.long (oL z) :: .int (oI i) :: .ref (G.1 k) :: rest)) := by
  obtain ⟨h1, h2⟩ := ix_ok hn hi
  refine va_last C.1 C.2.1 S.1.2.1 S.1.1 S.1.2.2 S.2.1 k 1 (by rw [ws_at hk, hcell]) rfl h1 hdg (fun H1 locs1 hP hD hS => kk H1 locs1 ?_)
  have e : (.inl (G.2.2.2 1, n, .inr (.inl (vp_updL (fun j => oL (mix b τ σ k j)) (oI i).toNatClampNeg (oL z)))) : va_E) = mkCell G k (up (mix b τ σ) k i.toNat z k) := by
    rw [hcell, h2]
    have : vp_updL (fun j => oL (mix b τ σ k j)) i.toNat (oL z) = fun j => oL (up (mix b τ σ) k i.toNat z k j) := by
      funext j
      simp only [vp_updL, up, if_true]
      split <;> rfl
    rw [this]
  rw [e, ws_set, ← mix_up hb] at hP hD
  exact ⟨⟨hP, S.1.2.1, hD⟩, hS, S.2.2⟩
theorem nar_z {z : Int} (h : z = 0 ∨ z = 1) : vp_nar .boolean (oI z) = oI z := by rcases h with rfl | rfl <;> decide
theorem r_zast (C : Cx p s m args c own cc nL) (S : St G b τ σ s H locs) (k n : Nat) (hk : k < NB) (hb : decide (k < 41) = b) (hcell : ∀ r, mkCell G k r = .inl (G.2.2.2 2, n, .inl fun j => oI (r j))) (hn : n < 2147483648) {i z : Int} (hi : 0 ≤ i ∧ i < (n : Int)) (hz : z = 0 ∨ z = 1) (hdg : decode cc pc = .ok (.bastore, 1))
    (kk : ∀ H1 locs1, St G b τ (up σ k i.toNat z) s H1 locs1 → W p l e R s m args below meth c H1 locs1 0 0 Q (F0 m (pc + 1) ls rest)) : W p l e R s m args below meth c H locs 0 0 Q (F0 m pc ls (.int (oI z) :: .int (oI i) :: .ref (G.1 k) :: rest)) := by
  obtain ⟨h1, h2⟩ := ix_ok hn hi
  refine va_zast C.1 C.2.1 S.1.2.1 S.1.1 S.1.2.2 S.2.1 k 2 (by rw [ws_at hk, hcell]) rfl h1 hdg (fun H1 locs1 hP hD hS => kk H1 locs1 ?_)
  have e : (.inl (G.2.2.2 2, n, .inl (upd (fun j => oI (mix b τ σ k j)) (oI i).toNatClampNeg (vp_nar .boolean (oI z)))) : va_E) = mkCell G k (up (mix b τ σ) k i.toNat z k) := by
    rw [hcell, h2, nar_z hz, upd_oI]
    simp [up]
  rw [e, ws_set, ← mix_up hb] at hP hD
  exact ⟨⟨hP, S.1.2.1, hD⟩, hS, S.2.2⟩
theorem r_alen (C : Cx p s m args c own cc nL) (S : St G b τ σ s H locs) (k : Nat) (hk : k < NB) {t0 : Nat} {cA : ClassId} {x : vp_A} (hcell : mkCell G k (mix b τ σ k) = .inl (cA, x)) {ty : FieldType} (ht : (tysG G)[t0]? = some (cA, ty)) (hdg : decode cc pc = .ok (.arraylength, 1))
    (kk : W p l e R s m args below meth c H locs 0 0 Q (F0 m (pc + 1) ls (.int (oI (x.1 : Int)) :: rest))) : W p l e R s m args below meth c H locs 0 0 Q (F0 m pc ls (.ref (G.1 k) :: rest)) :=
  va_alen C.1 C.2.1 S.1.2.1 S.1.1 k t0 (by rw [ws_at hk, hcell]) ht (oI_nat _).symm hdg kk
theorem r_tald (C : Cx p s m args c own cc nL) (S : St G b τ σ s H locs) {i : Int} (hi : 0 ≤ i ∧ i < ((6 : Nat) : Int)) (hdg : decode cc pc = .ok (.aaload, 1))
    (kk : W p l e R s m args below meth c H locs 0 0 Q (F0 m (pc + 1) ls (.ref (G.1 (21 + i.toNat)) :: rest))) : W p l e R s m args below meth c H locs 0 0 Q (F0 m pc ls (.int (oI i) :: .ref (G.1 12) :: rest)) := by
  obtain ⟨h1, h2⟩ := ix_ok (by decide) hi
  refine va_aldq C.1 C.2.1 S.1.2.1 S.1.1 12 3 (by rw [ws_at (by decide)]; rfl) rfl h1 hdg ?_
  rw [h2, if_pos (by omega)]
  exact kk
theorem inX0 : ∀ w ∈ u_ws RX0 TX0 6, w ∈ GW := by decide +kernel
theorem g0_x (C : Cx p s m args c own cc nL) (S : St G true τ σ s H locs) {idx : Nat} (hlink : Cond.fieldLink own idx RX0 (TX0 0).2.1 (TX0 0).2.2.1 ∈ GW) (hdg : decode cc pc = .ok (.getfield idx, 3))
    (kk : W p l e R s m args below meth c H locs 0 0 Q (F0 m (pc + 3) ls (.ref (G.1 7) :: rest))) : W p l e R s m args below meth c H locs 0 0 Q (F0 m pc ls (.ref (G.1 6) :: rest)) :=
  r_get C S 6 0 (by decide) rfl rfl inX0 0 (by decide) (v := .ref (G.1 7)) (rfl) hlink hdg kk
theorem g0_xN (C : Cx p s m args c own cc nL) (S : St G true τ σ s H locs) {idx : Nat} {host : String} (hlink : va_Nw (.fieldLinkNest own idx RX0 (TX0 0).2.1 (TX0 0).2.2.1 host) s) (hdg : decode cc pc = .ok (.getfield idx, 3))
    (kk : W p l e R s m args below meth c H locs 0 0 Q (F0 m (pc + 3) ls (.ref (G.1 7) :: rest))) : W p l e R s m args below meth c H locs 0 0 Q (F0 m pc ls (.ref (G.1 6) :: rest)) :=
  r_getN C S 6 0 (by decide) rfl rfl inX0 0 (by decide) (v := .ref (G.1 7)) (rfl) hlink hdg kk
theorem g0_y (C : Cx p s m args c own cc nL) (S : St G true τ σ s H locs) {idx : Nat} (hlink : Cond.fieldLink own idx RX0 (TX0 1).2.1 (TX0 1).2.2.1 ∈ GW) (hdg : decode cc pc = .ok (.getfield idx, 3))
    (kk : W p l e R s m args below meth c H locs 0 0 Q (F0 m (pc + 3) ls (.ref (G.1 8) :: rest))) : W p l e R s m args below meth c H locs 0 0 Q (F0 m pc ls (.ref (G.1 6) :: rest)) :=
  r_get C S 6 0 (by decide) rfl rfl inX0 1 (by decide) (v := .ref (G.1 8)) (rfl) hlink hdg kk
theorem g0_yN (C : Cx p s m args c own cc nL) (S : St G true τ σ s H locs) {idx : Nat} {host : String} (hlink : va_Nw (.fieldLinkNest own idx RX0 (TX0 1).2.1 (TX0 1).2.2.1 host) s) (hdg : decode cc pc = .ok (.getfield idx, 3))
    (kk : W p l e R s m args below meth c H locs 0 0 Q (F0 m (pc + 3) ls (.ref (G.1 8) :: rest))) : W p l e R s m args below meth c H locs 0 0 Q (F0 m pc ls (.ref (G.1 6) :: rest)) :=
  r_getN C S 6 0 (by decide) rfl rfl inX0 1 (by decide) (v := .ref (G.1 8)) (rfl) hlink hdg kk
theorem g0_sum (C : Cx p s m args c own cc nL) (S : St G true τ σ s H locs) {idx : Nat} (hlink : Cond.fieldLink own idx RX0 (TX0 2).2.1 (TX0 2).2.2.1 ∈ GW) (hdg : decode cc pc = .ok (.getfield idx, 3))
    (kk : W p l e R s m args below meth c H locs 0 0 Q (F0 m (pc + 3) ls (.ref (G.1 9) :: rest))) : W p l e R s m args below meth c H locs 0 0 Q (F0 m pc ls (.ref (G.1 6) :: rest)) :=
  r_get C S 6 0 (by decide) rfl rfl inX0 2 (by decide) (v := .ref (G.1 9)) (rfl) hlink hdg kk
theorem g0_peril (C : Cx p s m args c own cc nL) (S : St G true τ σ s H locs) {idx : Nat} (hlink : Cond.fieldLink own idx RX0 (TX0 3).2.1 (TX0 3).2.2.1 ∈ GW) (hdg : decode cc pc = .ok (.getfield idx, 3))
    (kk : W p l e R s m args below meth c H locs 0 0 Q (F0 m (pc + 3) ls (.ref (G.1 10) :: rest))) : W p l e R s m args below meth c H locs 0 0 Q (F0 m pc ls (.ref (G.1 6) :: rest)) :=
  r_get C S 6 0 (by decide) rfl rfl inX0 3 (by decide) (v := .ref (G.1 10)) (rfl) hlink hdg kk
theorem g0_groupSums (C : Cx p s m args c own cc nL) (S : St G true τ σ s H locs) {idx : Nat} (hlink : Cond.fieldLink own idx RX0 (TX0 4).2.1 (TX0 4).2.2.1 ∈ GW) (hdg : decode cc pc = .ok (.getfield idx, 3))
    (kk : W p l e R s m args below meth c H locs 0 0 Q (F0 m (pc + 3) ls (.ref (G.1 11) :: rest))) : W p l e R s m args below meth c H locs 0 0 Q (F0 m pc ls (.ref (G.1 6) :: rest)) :=
  r_get C S 6 0 (by decide) rfl rfl inX0 4 (by decide) (v := .ref (G.1 11)) (rfl) hlink hdg kk
theorem g0_inForce (C : Cx p s m args c own cc nL) (S : St G true τ σ s H locs) {idx : Nat} (hlink : Cond.fieldLink own idx RX0 (TX0 5).2.1 (TX0 5).2.2.1 ∈ GW) (hdg : decode cc pc = .ok (.getfield idx, 3))
    (kk : W p l e R s m args below meth c H locs 0 0 Q (F0 m (pc + 3) ls (.int (oI (σ 6 5)) :: rest))) : W p l e R s m args below meth c H locs 0 0 Q (F0 m pc ls (.ref (G.1 6) :: rest)) :=
  r_get C S 6 0 (by decide) rfl rfl inX0 5 (by decide) (v := .int (oI (σ 6 5))) (rfl) hlink hdg kk
theorem p0_inForce (C : Cx p s m args c own cc nL) (S : St G true τ σ s H locs) {idx : Nat} (hlink : Cond.fieldLink own idx RX0 (TX0 5).2.1 (TX0 5).2.2.1 ∈ GW) {z : Int} (hdg : decode cc pc = .ok (.putfield idx, 3))
    (kk : ∀ H1 locs1, St G true τ (up σ 6 5 z) s H1 locs1 → W p l e R s m args below meth c H1 locs1 0 0 Q (F0 m (pc + 3) ls rest)) : W p l e R s m args below meth c H locs 0 0 Q (F0 m pc ls (.int (oI z) :: .ref (G.1 6) :: rest)) :=
  r_put C S 6 0 (by decide) rfl rfl rfl inX0 tyX0 tyX0_ok nmX0 5 (by decide) (v := .int (oI z)) (by rfl) hlink rfl (ty := .int) (by decide +kernel) rfl rfl (Nat.le_of_ble_eq_true rfl) hdg kk
theorem inX1 : ∀ w ∈ u_ws RX1 TX1 6, w ∈ GW := by decide +kernel
theorem g1_book (C : Cx p s m args c own cc nL) (S : St G true τ σ s H locs) {idx : Nat} (hlink : Cond.fieldLink own idx RX1 (TX1 0).2.1 (TX1 0).2.2.1 ∈ GW) (hdg : decode cc pc = .ok (.getfield idx, 3))
    (kk : W p l e R s m args below meth c H locs 0 0 Q (F0 m (pc + 3) ls (.ref (G.1 6) :: rest))) : W p l e R s m args below meth c H locs 0 0 Q (F0 m pc ls (.ref (G.1 20) :: rest)) :=
  r_get C S 20 1 (by decide) rfl rfl inX1 0 (by decide) (v := .ref (G.1 6)) (rfl) hlink hdg kk
theorem g1_above (C : Cx p s m args c own cc nL) (S : St G true τ σ s H locs) {idx : Nat} (hlink : Cond.fieldLink own idx RX1 (TX1 1).2.1 (TX1 1).2.2.1 ∈ GW) (hdg : decode cc pc = .ok (.getfield idx, 3))
    (kk : W p l e R s m args below meth c H locs 0 0 Q (F0 m (pc + 3) ls (.long (oL (σ 20 1)) :: rest))) : W p l e R s m args below meth c H locs 0 0 Q (F0 m pc ls (.ref (G.1 20) :: rest)) :=
  r_get C S 20 1 (by decide) rfl rfl inX1 1 (by decide) (v := .long (oL (σ 20 1))) (rfl) hlink hdg kk
theorem p1_above (C : Cx p s m args c own cc nL) (S : St G true τ σ s H locs) {idx : Nat} (hlink : Cond.fieldLink own idx RX1 (TX1 1).2.1 (TX1 1).2.2.1 ∈ GW) {z : Int} (hdg : decode cc pc = .ok (.putfield idx, 3))
    (kk : ∀ H1 locs1, St G true τ (up σ 20 1 z) s H1 locs1 → W p l e R s m args below meth c H1 locs1 0 0 Q (F0 m (pc + 3) ls rest)) : W p l e R s m args below meth c H locs 0 0 Q (F0 m pc ls (.long (oL z) :: .ref (G.1 20) :: rest)) :=
  r_put C S 20 1 (by decide) rfl rfl rfl inX1 tyX1 tyX1_ok nmX1 1 (by decide) (v := .long (oL z)) (by rfl) hlink rfl (ty := .long) (by decide +kernel) rfl rfl (Nat.le_of_ble_eq_true rfl) hdg kk
theorem g1_below (C : Cx p s m args c own cc nL) (S : St G true τ σ s H locs) {idx : Nat} (hlink : Cond.fieldLink own idx RX1 (TX1 2).2.1 (TX1 2).2.2.1 ∈ GW) (hdg : decode cc pc = .ok (.getfield idx, 3))
    (kk : W p l e R s m args below meth c H locs 0 0 Q (F0 m (pc + 3) ls (.long (oL (σ 20 2)) :: rest))) : W p l e R s m args below meth c H locs 0 0 Q (F0 m pc ls (.ref (G.1 20) :: rest)) :=
  r_get C S 20 1 (by decide) rfl rfl inX1 2 (by decide) (v := .long (oL (σ 20 2))) (rfl) hlink hdg kk
theorem p1_below (C : Cx p s m args c own cc nL) (S : St G true τ σ s H locs) {idx : Nat} (hlink : Cond.fieldLink own idx RX1 (TX1 2).2.1 (TX1 2).2.2.1 ∈ GW) {z : Int} (hdg : decode cc pc = .ok (.putfield idx, 3))
    (kk : ∀ H1 locs1, St G true τ (up σ 20 2 z) s H1 locs1 → W p l e R s m args below meth c H1 locs1 0 0 Q (F0 m (pc + 3) ls rest)) : W p l e R s m args below meth c H locs 0 0 Q (F0 m pc ls (.long (oL z) :: .ref (G.1 20) :: rest)) :=
  r_put C S 20 1 (by decide) rfl rfl rfl inX1 tyX1 tyX1_ok nmX1 2 (by decide) (v := .long (oL z)) (by rfl) hlink rfl (ty := .long) (by decide +kernel) rfl rfl (Nat.le_of_ble_eq_true rfl) hdg kk
theorem g1_first (C : Cx p s m args c own cc nL) (S : St G true τ σ s H locs) {idx : Nat} (hlink : Cond.fieldLink own idx RX1 (TX1 3).2.1 (TX1 3).2.2.1 ∈ GW) (hdg : decode cc pc = .ok (.getfield idx, 3))
    (kk : W p l e R s m args below meth c H locs 0 0 Q (F0 m (pc + 3) ls (.int (oI (σ 20 3)) :: rest))) : W p l e R s m args below meth c H locs 0 0 Q (F0 m pc ls (.ref (G.1 20) :: rest)) :=
  r_get C S 20 1 (by decide) rfl rfl inX1 3 (by decide) (v := .int (oI (σ 20 3))) (rfl) hlink hdg kk
theorem p1_first (C : Cx p s m args c own cc nL) (S : St G true τ σ s H locs) {idx : Nat} (hlink : Cond.fieldLink own idx RX1 (TX1 3).2.1 (TX1 3).2.2.1 ∈ GW) {z : Int} (hdg : decode cc pc = .ok (.putfield idx, 3))
    (kk : ∀ H1 locs1, St G true τ (up σ 20 3 z) s H1 locs1 → W p l e R s m args below meth c H1 locs1 0 0 Q (F0 m (pc + 3) ls rest)) : W p l e R s m args below meth c H locs 0 0 Q (F0 m pc ls (.int (oI z) :: .ref (G.1 20) :: rest)) :=
  r_put C S 20 1 (by decide) rfl rfl rfl inX1 tyX1 tyX1_ok nmX1 3 (by decide) (v := .int (oI z)) (by rfl) hlink rfl (ty := .int) (by decide +kernel) rfl rfl (Nat.le_of_ble_eq_true rfl) hdg kk
theorem g1_second (C : Cx p s m args c own cc nL) (S : St G true τ σ s H locs) {idx : Nat} (hlink : Cond.fieldLink own idx RX1 (TX1 4).2.1 (TX1 4).2.2.1 ∈ GW) (hdg : decode cc pc = .ok (.getfield idx, 3))
    (kk : W p l e R s m args below meth c H locs 0 0 Q (F0 m (pc + 3) ls (.int (oI (σ 20 4)) :: rest))) : W p l e R s m args below meth c H locs 0 0 Q (F0 m pc ls (.ref (G.1 20) :: rest)) :=
  r_get C S 20 1 (by decide) rfl rfl inX1 4 (by decide) (v := .int (oI (σ 20 4))) (rfl) hlink hdg kk
theorem p1_second (C : Cx p s m args c own cc nL) (S : St G true τ σ s H locs) {idx : Nat} (hlink : Cond.fieldLink own idx RX1 (TX1 4).2.1 (TX1 4).2.2.1 ∈ GW) {z : Int} (hdg : decode cc pc = .ok (.putfield idx, 3))
    (kk : ∀ H1 locs1, St G true τ (up σ 20 4 z) s H1 locs1 → W p l e R s m args below meth c H1 locs1 0 0 Q (F0 m (pc + 3) ls rest)) : W p l e R s m args below meth c H locs 0 0 Q (F0 m pc ls (.int (oI z) :: .ref (G.1 20) :: rest)) :=
  r_put C S 20 1 (by decide) rfl rfl rfl inX1 tyX1 tyX1_ok nmX1 4 (by decide) (v := .int (oI z)) (by rfl) hlink rfl (ty := .int) (by decide +kernel) rfl rfl (Nat.le_of_ble_eq_true rfl) hdg kk
theorem g1_third (C : Cx p s m args c own cc nL) (S : St G true τ σ s H locs) {idx : Nat} (hlink : Cond.fieldLink own idx RX1 (TX1 5).2.1 (TX1 5).2.2.1 ∈ GW) (hdg : decode cc pc = .ok (.getfield idx, 3))
    (kk : W p l e R s m args below meth c H locs 0 0 Q (F0 m (pc + 3) ls (.int (oI (σ 20 5)) :: rest))) : W p l e R s m args below meth c H locs 0 0 Q (F0 m pc ls (.ref (G.1 20) :: rest)) :=
  r_get C S 20 1 (by decide) rfl rfl inX1 5 (by decide) (v := .int (oI (σ 20 5))) (rfl) hlink hdg kk
theorem p1_third (C : Cx p s m args c own cc nL) (S : St G true τ σ s H locs) {idx : Nat} (hlink : Cond.fieldLink own idx RX1 (TX1 5).2.1 (TX1 5).2.2.1 ∈ GW) {z : Int} (hdg : decode cc pc = .ok (.putfield idx, 3))
    (kk : ∀ H1 locs1, St G true τ (up σ 20 5 z) s H1 locs1 → W p l e R s m args below meth c H1 locs1 0 0 Q (F0 m (pc + 3) ls rest)) : W p l e R s m args below meth c H locs 0 0 Q (F0 m pc ls (.int (oI z) :: .ref (G.1 20) :: rest)) :=
  r_put C S 20 1 (by decide) rfl rfl rfl inX1 tyX1 tyX1_ok nmX1 5 (by decide) (v := .int (oI z)) (by rfl) hlink rfl (ty := .int) (by decide +kernel) rfl rfl (Nat.le_of_ble_eq_true rfl) hdg kk
theorem inX2 : ∀ w ∈ u_ws RX2 TX2 6, w ∈ GW := by decide +kernel
theorem mkC2 (G : Gd) {d : Nat} (hd : d < 7) (r : Nat → Int) : mkCell G (27 + d) r = .inr (2, [.ref (G.1 6), .ref (G.1 (34 + d)), .int (oI (r 2)), .int (oI (r 3)), .int (oI (r 4)), .int (oI (r 5))]) := by
  rcases (show d = 0 ∨ d = 1 ∨ d = 2 ∨ d = 3 ∨ d = 4 ∨ d = 5 ∨ d = 6 by omega) with rfl | rfl | rfl | rfl | rfl | rfl | rfl <;> rfl
theorem g2_book (C : Cx p s m args c own cc nL) (S : St G true τ σ s H locs) {d : Nat} (hd : d < 7) {idx : Nat} (hlink : Cond.fieldLink own idx RX2 (TX2 0).2.1 (TX2 0).2.2.1 ∈ GW) (hdg : decode cc pc = .ok (.getfield idx, 3))
    (kk : W p l e R s m args below meth c H locs 0 0 Q (F0 m (pc + 3) ls (.ref (G.1 6) :: rest))) : W p l e R s m args below meth c H locs 0 0 Q (F0 m pc ls (.ref (G.1 (27 + d)) :: rest)) :=
  r_get C S (27 + d) 2 (by show _ < 61; omega) (mkC2 G hd _) rfl inX2 0 (by decide) (v := .ref (G.1 6)) (rfl) hlink hdg kk
theorem g2_sets (C : Cx p s m args c own cc nL) (S : St G true τ σ s H locs) {d : Nat} (hd : d < 7) {idx : Nat} (hlink : Cond.fieldLink own idx RX2 (TX2 1).2.1 (TX2 1).2.2.1 ∈ GW) (hdg : decode cc pc = .ok (.getfield idx, 3))
    (kk : W p l e R s m args below meth c H locs 0 0 Q (F0 m (pc + 3) ls (.ref (G.1 (34 + d)) :: rest))) : W p l e R s m args below meth c H locs 0 0 Q (F0 m pc ls (.ref (G.1 (27 + d)) :: rest)) :=
  r_get C S (27 + d) 2 (by show _ < 61; omega) (mkC2 G hd _) rfl inX2 1 (by decide) (v := .ref (G.1 (34 + d))) (rfl) hlink hdg kk
theorem g2_radius (C : Cx p s m args c own cc nL) (S : St G true τ σ s H locs) {d : Nat} (hd : d < 7) {idx : Nat} (hlink : Cond.fieldLink own idx RX2 (TX2 2).2.1 (TX2 2).2.2.1 ∈ GW) (hdg : decode cc pc = .ok (.getfield idx, 3))
    (kk : W p l e R s m args below meth c H locs 0 0 Q (F0 m (pc + 3) ls (.int (oI (σ (27 + d) 2)) :: rest))) : W p l e R s m args below meth c H locs 0 0 Q (F0 m pc ls (.ref (G.1 (27 + d)) :: rest)) :=
  r_get C S (27 + d) 2 (by show _ < 61; omega) (mkC2 G hd _) rfl inX2 2 (by decide) (v := .int (oI (σ (27 + d) 2))) (by rw [mix_b (by simp; omega)]; rfl) hlink hdg kk
theorem p2_radius (C : Cx p s m args c own cc nL) (S : St G true τ σ s H locs) {d : Nat} (hd : d < 7) {idx : Nat} (hlink : Cond.fieldLink own idx RX2 (TX2 2).2.1 (TX2 2).2.2.1 ∈ GW) {z : Int} (hdg : decode cc pc = .ok (.putfield idx, 3))
    (kk : ∀ H1 locs1, St G true τ (up σ (27 + d) 2 z) s H1 locs1 → W p l e R s m args below meth c H1 locs1 0 0 Q (F0 m (pc + 3) ls rest)) : W p l e R s m args below meth c H locs 0 0 Q (F0 m pc ls (.int (oI z) :: .ref (G.1 (27 + d)) :: rest)) :=
  r_put C S (27 + d) 2 (by show _ < 61; omega) (by simp; omega) (mkC2 G hd _) rfl inX2 tyX2 tyX2_ok nmX2 2 (by decide) (v := .int (oI z)) (by rw [mkC2 G hd]; simp [up]) hlink rfl (ty := .int) (by decide +kernel) rfl rfl (Nat.le_of_ble_eq_true rfl) hdg kk
theorem g2_left (C : Cx p s m args c own cc nL) (S : St G true τ σ s H locs) {d : Nat} (hd : d < 7) {idx : Nat} (hlink : Cond.fieldLink own idx RX2 (TX2 3).2.1 (TX2 3).2.2.1 ∈ GW) (hdg : decode cc pc = .ok (.getfield idx, 3))
    (kk : W p l e R s m args below meth c H locs 0 0 Q (F0 m (pc + 3) ls (.int (oI (σ (27 + d) 3)) :: rest))) : W p l e R s m args below meth c H locs 0 0 Q (F0 m pc ls (.ref (G.1 (27 + d)) :: rest)) :=
  r_get C S (27 + d) 2 (by show _ < 61; omega) (mkC2 G hd _) rfl inX2 3 (by decide) (v := .int (oI (σ (27 + d) 3))) (by rw [mix_b (by simp; omega)]; rfl) hlink hdg kk
theorem p2_left (C : Cx p s m args c own cc nL) (S : St G true τ σ s H locs) {d : Nat} (hd : d < 7) {idx : Nat} (hlink : Cond.fieldLink own idx RX2 (TX2 3).2.1 (TX2 3).2.2.1 ∈ GW) {z : Int} (hdg : decode cc pc = .ok (.putfield idx, 3))
    (kk : ∀ H1 locs1, St G true τ (up σ (27 + d) 3 z) s H1 locs1 → W p l e R s m args below meth c H1 locs1 0 0 Q (F0 m (pc + 3) ls rest)) : W p l e R s m args below meth c H locs 0 0 Q (F0 m pc ls (.int (oI z) :: .ref (G.1 (27 + d)) :: rest)) :=
  r_put C S (27 + d) 2 (by show _ < 61; omega) (by simp; omega) (mkC2 G hd _) rfl inX2 tyX2 tyX2_ok nmX2 3 (by decide) (v := .int (oI z)) (by rw [mkC2 G hd]; simp [up]) hlink rfl (ty := .int) (by decide +kernel) rfl rfl (Nat.le_of_ble_eq_true rfl) hdg kk
theorem g2_right (C : Cx p s m args c own cc nL) (S : St G true τ σ s H locs) {d : Nat} (hd : d < 7) {idx : Nat} (hlink : Cond.fieldLink own idx RX2 (TX2 4).2.1 (TX2 4).2.2.1 ∈ GW) (hdg : decode cc pc = .ok (.getfield idx, 3))
    (kk : W p l e R s m args below meth c H locs 0 0 Q (F0 m (pc + 3) ls (.int (oI (σ (27 + d) 4)) :: rest))) : W p l e R s m args below meth c H locs 0 0 Q (F0 m pc ls (.ref (G.1 (27 + d)) :: rest)) :=
  r_get C S (27 + d) 2 (by show _ < 61; omega) (mkC2 G hd _) rfl inX2 4 (by decide) (v := .int (oI (σ (27 + d) 4))) (by rw [mix_b (by simp; omega)]; rfl) hlink hdg kk
theorem p2_right (C : Cx p s m args c own cc nL) (S : St G true τ σ s H locs) {d : Nat} (hd : d < 7) {idx : Nat} (hlink : Cond.fieldLink own idx RX2 (TX2 4).2.1 (TX2 4).2.2.1 ∈ GW) {z : Int} (hdg : decode cc pc = .ok (.putfield idx, 3))
    (kk : ∀ H1 locs1, St G true τ (up σ (27 + d) 4 z) s H1 locs1 → W p l e R s m args below meth c H1 locs1 0 0 Q (F0 m (pc + 3) ls rest)) : W p l e R s m args below meth c H locs 0 0 Q (F0 m pc ls (.int (oI z) :: .ref (G.1 (27 + d)) :: rest)) :=
  r_put C S (27 + d) 2 (by show _ < 61; omega) (by simp; omega) (mkC2 G hd _) rfl inX2 tyX2 tyX2_ok nmX2 4 (by decide) (v := .int (oI z)) (by rw [mkC2 G hd]; simp [up]) hlink rfl (ty := .int) (by decide +kernel) rfl rfl (Nat.le_of_ble_eq_true rfl) hdg kk
theorem g2_members (C : Cx p s m args c own cc nL) (S : St G true τ σ s H locs) {d : Nat} (hd : d < 7) {idx : Nat} (hlink : Cond.fieldLink own idx RX2 (TX2 5).2.1 (TX2 5).2.2.1 ∈ GW) (hdg : decode cc pc = .ok (.getfield idx, 3))
    (kk : W p l e R s m args below meth c H locs 0 0 Q (F0 m (pc + 3) ls (.int (oI (σ (27 + d) 5)) :: rest))) : W p l e R s m args below meth c H locs 0 0 Q (F0 m pc ls (.ref (G.1 (27 + d)) :: rest)) :=
  r_get C S (27 + d) 2 (by show _ < 61; omega) (mkC2 G hd _) rfl inX2 5 (by decide) (v := .int (oI (σ (27 + d) 5))) (by rw [mix_b (by simp; omega)]; rfl) hlink hdg kk
theorem p2_members (C : Cx p s m args c own cc nL) (S : St G true τ σ s H locs) {d : Nat} (hd : d < 7) {idx : Nat} (hlink : Cond.fieldLink own idx RX2 (TX2 5).2.1 (TX2 5).2.2.1 ∈ GW) {z : Int} (hdg : decode cc pc = .ok (.putfield idx, 3))
    (kk : ∀ H1 locs1, St G true τ (up σ (27 + d) 5 z) s H1 locs1 → W p l e R s m args below meth c H1 locs1 0 0 Q (F0 m (pc + 3) ls rest)) : W p l e R s m args below meth c H locs 0 0 Q (F0 m pc ls (.int (oI z) :: .ref (G.1 (27 + d)) :: rest)) :=
  r_put C S (27 + d) 2 (by show _ < 61; omega) (by simp; omega) (mkC2 G hd _) rfl inX2 tyX2 tyX2_ok nmX2 5 (by decide) (v := .int (oI z)) (by rw [mkC2 G hd]; simp [up]) hlink rfl (ty := .int) (by decide +kernel) rfl rfl (Nat.le_of_ble_eq_true rfl) hdg kk
theorem inX3 : ∀ w ∈ u_ws RX3 TX3 2, w ∈ GW := by decide +kernel
theorem g3_sets (C : Cx p s m args c own cc nL) (S : St G true τ σ s H locs) {idx : Nat} (hlink : Cond.fieldLink own idx RX3 (TX3 0).2.1 (TX3 0).2.2.1 ∈ GW) (hdg : decode cc pc = .ok (.getfield idx, 3))
    (kk : W p l e R s m args below meth c H locs 0 0 Q (F0 m (pc + 3) ls (.ref (G.1 19) :: rest))) : W p l e R s m args below meth c H locs 0 0 Q (F0 m pc ls (.ref (G.1 18) :: rest)) :=
  r_get C S 18 3 (by decide) rfl rfl inX3 0 (by decide) (v := .ref (G.1 19)) (rfl) hlink hdg kk
theorem g3_size (C : Cx p s m args c own cc nL) (S : St G true τ σ s H locs) {idx : Nat} (hlink : Cond.fieldLink own idx RX3 (TX3 1).2.1 (TX3 1).2.2.1 ∈ GW) (hdg : decode cc pc = .ok (.getfield idx, 3))
    (kk : W p l e R s m args below meth c H locs 0 0 Q (F0 m (pc + 3) ls (.int (oI (σ 18 1)) :: rest))) : W p l e R s m args below meth c H locs 0 0 Q (F0 m pc ls (.ref (G.1 18) :: rest)) :=
  r_get C S 18 3 (by decide) rfl rfl inX3 1 (by decide) (v := .int (oI (σ 18 1))) (rfl) hlink hdg kk
theorem p3_size (C : Cx p s m args c own cc nL) (S : St G true τ σ s H locs) {idx : Nat} (hlink : Cond.fieldLink own idx RX3 (TX3 1).2.1 (TX3 1).2.2.1 ∈ GW) {z : Int} (hdg : decode cc pc = .ok (.putfield idx, 3))
    (kk : ∀ H1 locs1, St G true τ (up σ 18 1 z) s H1 locs1 → W p l e R s m args below meth c H1 locs1 0 0 Q (F0 m (pc + 3) ls rest)) : W p l e R s m args below meth c H locs 0 0 Q (F0 m pc ls (.int (oI z) :: .ref (G.1 18) :: rest)) :=
  r_put C S 18 3 (by decide) rfl rfl rfl inX3 tyX3 tyX3_ok nmX3 1 (by decide) (v := .int (oI z)) (by rfl) hlink rfl (ty := .int) (by decide +kernel) rfl rfl (Nat.le_of_ble_eq_true rfl) hdg kk
theorem inX4 : ∀ w ∈ u_ws RX4 TX4 9, w ∈ GW := by decide +kernel
theorem g4_tape (C : Cx p s m args c own cc nL) (S : St G true τ σ s H locs) {idx : Nat} (hlink : Cond.fieldLink own idx RX4 (TX4 0).2.1 (TX4 0).2.2.1 ∈ GW) (hdg : decode cc pc = .ok (.getfield idx, 3))
    (kk : W p l e R s m args below meth c H locs 0 0 Q (F0 m (pc + 3) ls (.ref (G.1 1) :: rest))) : W p l e R s m args below meth c H locs 0 0 Q (F0 m pc ls (.ref (G.1 3) :: rest)) :=
  r_get C S 3 4 (by decide) rfl rfl inX4 0 (by decide) (v := .ref (G.1 1)) (rfl) hlink hdg kk
theorem g4_policyNumbers (C : Cx p s m args c own cc nL) (S : St G true τ σ s H locs) {idx : Nat} (hlink : Cond.fieldLink own idx RX4 (TX4 1).2.1 (TX4 1).2.2.1 ∈ GW) (hdg : decode cc pc = .ok (.getfield idx, 3))
    (kk : W p l e R s m args below meth c H locs 0 0 Q (F0 m (pc + 3) ls (.ref (G.1 4) :: rest))) : W p l e R s m args below meth c H locs 0 0 Q (F0 m pc ls (.ref (G.1 3) :: rest)) :=
  r_get C S 3 4 (by decide) rfl rfl inX4 1 (by decide) (v := .ref (G.1 4)) (rfl) hlink hdg kk
theorem g4_treatyNumbers (C : Cx p s m args c own cc nL) (S : St G true τ σ s H locs) {idx : Nat} (hlink : Cond.fieldLink own idx RX4 (TX4 2).2.1 (TX4 2).2.2.1 ∈ GW) (hdg : decode cc pc = .ok (.getfield idx, 3))
    (kk : W p l e R s m args below meth c H locs 0 0 Q (F0 m (pc + 3) ls (.ref (G.1 5) :: rest))) : W p l e R s m args below meth c H locs 0 0 Q (F0 m pc ls (.ref (G.1 3) :: rest)) :=
  r_get C S 3 4 (by decide) rfl rfl inX4 2 (by decide) (v := .ref (G.1 5)) (rfl) hlink hdg kk
theorem g4_length (C : Cx p s m args c own cc nL) (S : St G true τ σ s H locs) {idx : Nat} (hlink : Cond.fieldLink own idx RX4 (TX4 3).2.1 (TX4 3).2.2.1 ∈ GW) (hdg : decode cc pc = .ok (.getfield idx, 3))
    (kk : W p l e R s m args below meth c H locs 0 0 Q (F0 m (pc + 3) ls (.int (oI (σ 3 3)) :: rest))) : W p l e R s m args below meth c H locs 0 0 Q (F0 m pc ls (.ref (G.1 3) :: rest)) :=
  r_get C S 3 4 (by decide) rfl rfl inX4 3 (by decide) (v := .int (oI (σ 3 3))) (rfl) hlink hdg kk
theorem p4_length (C : Cx p s m args c own cc nL) (S : St G true τ σ s H locs) {idx : Nat} (hlink : Cond.fieldLink own idx RX4 (TX4 3).2.1 (TX4 3).2.2.1 ∈ GW) {z : Int} (hdg : decode cc pc = .ok (.putfield idx, 3))
    (kk : ∀ H1 locs1, St G true τ (up σ 3 3 z) s H1 locs1 → W p l e R s m args below meth c H1 locs1 0 0 Q (F0 m (pc + 3) ls rest)) : W p l e R s m args below meth c H locs 0 0 Q (F0 m pc ls (.int (oI z) :: .ref (G.1 3) :: rest)) :=
  r_put C S 3 4 (by decide) rfl rfl rfl inX4 tyX4 tyX4_ok nmX4 3 (by decide) (v := .int (oI z)) (by rfl) hlink rfl (ty := .int) (by decide +kernel) rfl rfl (Nat.le_of_ble_eq_true rfl) hdg kk
theorem g4_at (C : Cx p s m args c own cc nL) (S : St G true τ σ s H locs) {idx : Nat} (hlink : Cond.fieldLink own idx RX4 (TX4 4).2.1 (TX4 4).2.2.1 ∈ GW) (hdg : decode cc pc = .ok (.getfield idx, 3))
    (kk : W p l e R s m args below meth c H locs 0 0 Q (F0 m (pc + 3) ls (.int (oI (σ 3 4)) :: rest))) : W p l e R s m args below meth c H locs 0 0 Q (F0 m pc ls (.ref (G.1 3) :: rest)) :=
  r_get C S 3 4 (by decide) rfl rfl inX4 4 (by decide) (v := .int (oI (σ 3 4))) (rfl) hlink hdg kk
theorem p4_at (C : Cx p s m args c own cc nL) (S : St G true τ σ s H locs) {idx : Nat} (hlink : Cond.fieldLink own idx RX4 (TX4 4).2.1 (TX4 4).2.2.1 ∈ GW) {z : Int} (hdg : decode cc pc = .ok (.putfield idx, 3))
    (kk : ∀ H1 locs1, St G true τ (up σ 3 4 z) s H1 locs1 → W p l e R s m args below meth c H1 locs1 0 0 Q (F0 m (pc + 3) ls rest)) : W p l e R s m args below meth c H locs 0 0 Q (F0 m pc ls (.int (oI z) :: .ref (G.1 3) :: rest)) :=
  r_put C S 3 4 (by decide) rfl rfl rfl inX4 tyX4 tyX4_ok nmX4 4 (by decide) (v := .int (oI z)) (by rfl) hlink rfl (ty := .int) (by decide +kernel) rfl rfl (Nat.le_of_ble_eq_true rfl) hdg kk
theorem g4_policies (C : Cx p s m args c own cc nL) (S : St G true τ σ s H locs) {idx : Nat} (hlink : Cond.fieldLink own idx RX4 (TX4 5).2.1 (TX4 5).2.2.1 ∈ GW) (hdg : decode cc pc = .ok (.getfield idx, 3))
    (kk : W p l e R s m args below meth c H locs 0 0 Q (F0 m (pc + 3) ls (.int (oI (σ 3 5)) :: rest))) : W p l e R s m args below meth c H locs 0 0 Q (F0 m pc ls (.ref (G.1 3) :: rest)) :=
  r_get C S 3 4 (by decide) rfl rfl inX4 5 (by decide) (v := .int (oI (σ 3 5))) (rfl) hlink hdg kk
theorem p4_policies (C : Cx p s m args c own cc nL) (S : St G true τ σ s H locs) {idx : Nat} (hlink : Cond.fieldLink own idx RX4 (TX4 5).2.1 (TX4 5).2.2.1 ∈ GW) {z : Int} (hdg : decode cc pc = .ok (.putfield idx, 3))
    (kk : ∀ H1 locs1, St G true τ (up σ 3 5 z) s H1 locs1 → W p l e R s m args below meth c H1 locs1 0 0 Q (F0 m (pc + 3) ls rest)) : W p l e R s m args below meth c H locs 0 0 Q (F0 m pc ls (.int (oI z) :: .ref (G.1 3) :: rest)) :=
  r_put C S 3 4 (by decide) rfl rfl rfl inX4 tyX4 tyX4_ok nmX4 5 (by decide) (v := .int (oI z)) (by rfl) hlink rfl (ty := .int) (by decide +kernel) rfl rfl (Nat.le_of_ble_eq_true rfl) hdg kk
theorem g4_treaties (C : Cx p s m args c own cc nL) (S : St G true τ σ s H locs) {idx : Nat} (hlink : Cond.fieldLink own idx RX4 (TX4 6).2.1 (TX4 6).2.2.1 ∈ GW) (hdg : decode cc pc = .ok (.getfield idx, 3))
    (kk : W p l e R s m args below meth c H locs 0 0 Q (F0 m (pc + 3) ls (.int (oI (σ 3 6)) :: rest))) : W p l e R s m args below meth c H locs 0 0 Q (F0 m pc ls (.ref (G.1 3) :: rest)) :=
  r_get C S 3 4 (by decide) rfl rfl inX4 6 (by decide) (v := .int (oI (σ 3 6))) (rfl) hlink hdg kk
theorem p4_treaties (C : Cx p s m args c own cc nL) (S : St G true τ σ s H locs) {idx : Nat} (hlink : Cond.fieldLink own idx RX4 (TX4 6).2.1 (TX4 6).2.2.1 ∈ GW) {z : Int} (hdg : decode cc pc = .ok (.putfield idx, 3))
    (kk : ∀ H1 locs1, St G true τ (up σ 3 6 z) s H1 locs1 → W p l e R s m args below meth c H1 locs1 0 0 Q (F0 m (pc + 3) ls rest)) : W p l e R s m args below meth c H locs 0 0 Q (F0 m pc ls (.int (oI z) :: .ref (G.1 3) :: rest)) :=
  r_put C S 3 4 (by decide) rfl rfl rfl inX4 tyX4 tyX4_ok nmX4 6 (by decide) (v := .int (oI z)) (by rfl) hlink rfl (ty := .int) (by decide +kernel) rfl rfl (Nat.le_of_ble_eq_true rfl) hdg kk
theorem g4_fault (C : Cx p s m args c own cc nL) (S : St G true τ σ s H locs) {idx : Nat} (hlink : Cond.fieldLink own idx RX4 (TX4 7).2.1 (TX4 7).2.2.1 ∈ GW) (hdg : decode cc pc = .ok (.getfield idx, 3))
    (kk : W p l e R s m args below meth c H locs 0 0 Q (F0 m (pc + 3) ls (.int (oI (σ 3 7)) :: rest))) : W p l e R s m args below meth c H locs 0 0 Q (F0 m pc ls (.ref (G.1 3) :: rest)) :=
  r_get C S 3 4 (by decide) rfl rfl inX4 7 (by decide) (v := .int (oI (σ 3 7))) (rfl) hlink hdg kk
theorem p4_fault (C : Cx p s m args c own cc nL) (S : St G true τ σ s H locs) {idx : Nat} (hlink : Cond.fieldLink own idx RX4 (TX4 7).2.1 (TX4 7).2.2.1 ∈ GW) {z : Int} (hdg : decode cc pc = .ok (.putfield idx, 3))
    (kk : ∀ H1 locs1, St G true τ (up σ 3 7 z) s H1 locs1 → W p l e R s m args below meth c H1 locs1 0 0 Q (F0 m (pc + 3) ls rest)) : W p l e R s m args below meth c H locs 0 0 Q (F0 m pc ls (.int (oI z) :: .ref (G.1 3) :: rest)) :=
  r_put C S 3 4 (by decide) rfl rfl rfl inX4 tyX4 tyX4_ok nmX4 7 (by decide) (v := .int (oI z)) (by rfl) hlink rfl (ty := .int) (by decide +kernel) rfl rfl (Nat.le_of_ble_eq_true rfl) hdg kk
theorem g4_place (C : Cx p s m args c own cc nL) (S : St G true τ σ s H locs) {idx : Nat} (hlink : Cond.fieldLink own idx RX4 (TX4 8).2.1 (TX4 8).2.2.1 ∈ GW) (hdg : decode cc pc = .ok (.getfield idx, 3))
    (kk : W p l e R s m args below meth c H locs 0 0 Q (F0 m (pc + 3) ls (.int (oI (σ 3 8)) :: rest))) : W p l e R s m args below meth c H locs 0 0 Q (F0 m pc ls (.ref (G.1 3) :: rest)) :=
  r_get C S 3 4 (by decide) rfl rfl inX4 8 (by decide) (v := .int (oI (σ 3 8))) (rfl) hlink hdg kk
theorem p4_place (C : Cx p s m args c own cc nL) (S : St G true τ σ s H locs) {idx : Nat} (hlink : Cond.fieldLink own idx RX4 (TX4 8).2.1 (TX4 8).2.2.1 ∈ GW) {z : Int} (hdg : decode cc pc = .ok (.putfield idx, 3))
    (kk : ∀ H1 locs1, St G true τ (up σ 3 8 z) s H1 locs1 → W p l e R s m args below meth c H1 locs1 0 0 Q (F0 m (pc + 3) ls rest)) : W p l e R s m args below meth c H locs 0 0 Q (F0 m pc ls (.int (oI z) :: .ref (G.1 3) :: rest)) :=
  r_put C S 3 4 (by decide) rfl rfl rfl inX4 tyX4 tyX4_ok nmX4 8 (by decide) (v := .int (oI z)) (by rfl) hlink rfl (ty := .int) (by decide +kernel) rfl rfl (Nat.le_of_ble_eq_true rfl) hdg kk
theorem inX5 : ∀ w ∈ u_ws RX5 TX5 3, w ∈ GW := by decide +kernel
theorem mkC5 (G : Gd) {d : Nat} (hd : d < 2) (r : Nat → Int) : mkCell G (13 + 2 * d) r = .inr (5, [.ref (G.1 (14 + 2 * d)), .int (oI (r 1)), .int (oI (r 2))]) := by
  rcases (show d = 0 ∨ d = 1 by omega) with rfl | rfl <;> rfl
theorem g5_parts (C : Cx p s m args c own cc nL) (S : St G true τ σ s H locs) {d : Nat} (hd : d < 2) {idx : Nat} (hlink : Cond.fieldLink own idx RX5 (TX5 0).2.1 (TX5 0).2.2.1 ∈ GW) (hdg : decode cc pc = .ok (.getfield idx, 3))
    (kk : W p l e R s m args below meth c H locs 0 0 Q (F0 m (pc + 3) ls (.ref (G.1 (14 + 2 * d)) :: rest))) : W p l e R s m args below meth c H locs 0 0 Q (F0 m pc ls (.ref (G.1 (13 + 2 * d)) :: rest)) :=
  r_get C S (13 + 2 * d) 5 (by show _ < 61; omega) (mkC5 G hd _) rfl inX5 0 (by decide) (v := .ref (G.1 (14 + 2 * d))) (rfl) hlink hdg kk
theorem g5_lacking (C : Cx p s m args c own cc nL) (S : St G true τ σ s H locs) {d : Nat} (hd : d < 2) {idx : Nat} (hlink : Cond.fieldLink own idx RX5 (TX5 1).2.1 (TX5 1).2.2.1 ∈ GW) (hdg : decode cc pc = .ok (.getfield idx, 3))
    (kk : W p l e R s m args below meth c H locs 0 0 Q (F0 m (pc + 3) ls (.int (oI (σ (13 + 2 * d) 1)) :: rest))) : W p l e R s m args below meth c H locs 0 0 Q (F0 m pc ls (.ref (G.1 (13 + 2 * d)) :: rest)) :=
  r_get C S (13 + 2 * d) 5 (by show _ < 61; omega) (mkC5 G hd _) rfl inX5 1 (by decide) (v := .int (oI (σ (13 + 2 * d) 1))) (by rw [mix_b (by simp; omega)]; rfl) hlink hdg kk
theorem g5_count (C : Cx p s m args c own cc nL) (S : St G true τ σ s H locs) {d : Nat} (hd : d < 2) {idx : Nat} (hlink : Cond.fieldLink own idx RX5 (TX5 2).2.1 (TX5 2).2.2.1 ∈ GW) (hdg : decode cc pc = .ok (.getfield idx, 3))
    (kk : W p l e R s m args below meth c H locs 0 0 Q (F0 m (pc + 3) ls (.int (oI (σ (13 + 2 * d) 2)) :: rest))) : W p l e R s m args below meth c H locs 0 0 Q (F0 m pc ls (.ref (G.1 (13 + 2 * d)) :: rest)) :=
  r_get C S (13 + 2 * d) 5 (by show _ < 61; omega) (mkC5 G hd _) rfl inX5 2 (by decide) (v := .int (oI (σ (13 + 2 * d) 2))) (by rw [mix_b (by simp; omega)]; rfl) hlink hdg kk
theorem p5_count (C : Cx p s m args c own cc nL) (S : St G true τ σ s H locs) {d : Nat} (hd : d < 2) {idx : Nat} (hlink : Cond.fieldLink own idx RX5 (TX5 2).2.1 (TX5 2).2.2.1 ∈ GW) {z : Int} (hdg : decode cc pc = .ok (.putfield idx, 3))
    (kk : ∀ H1 locs1, St G true τ (up σ (13 + 2 * d) 2 z) s H1 locs1 → W p l e R s m args below meth c H1 locs1 0 0 Q (F0 m (pc + 3) ls rest)) : W p l e R s m args below meth c H locs 0 0 Q (F0 m pc ls (.int (oI z) :: .ref (G.1 (13 + 2 * d)) :: rest)) :=
  r_put C S (13 + 2 * d) 5 (by show _ < 61; omega) (by simp; omega) (mkC5 G hd _) rfl inX5 tyX5 tyX5_ok nmX5 2 (by decide) (v := .int (oI z)) (by rw [mkC5 G hd]; simp [up]) hlink rfl (ty := .int) (by decide +kernel) rfl rfl (Nat.le_of_ble_eq_true rfl) hdg kk
theorem inX6 : ∀ w ∈ u_ws RX6 TX6 2, w ∈ GW := by decide +kernel
theorem g6_bytes (C : Cx p s m args c own cc nL) (S : St G true τ σ s H locs) {idx : Nat} (hlink : Cond.fieldLink own idx RX6 (TX6 0).2.1 (TX6 0).2.2.1 ∈ GW) (hdg : decode cc pc = .ok (.getfield idx, 3))
    (kk : W p l e R s m args below meth c H locs 0 0 Q (F0 m (pc + 3) ls (.ref (G.1 2) :: rest))) : W p l e R s m args below meth c H locs 0 0 Q (F0 m pc ls (.ref (G.1 1) :: rest)) :=
  r_get C S 1 6 (by decide) rfl rfl inX6 0 (by decide) (v := .ref (G.1 2)) (rfl) hlink hdg kk
theorem g6_length (C : Cx p s m args c own cc nL) (S : St G true τ σ s H locs) {idx : Nat} (hlink : Cond.fieldLink own idx RX6 (TX6 1).2.1 (TX6 1).2.2.1 ∈ GW) (hdg : decode cc pc = .ok (.getfield idx, 3))
    (kk : W p l e R s m args below meth c H locs 0 0 Q (F0 m (pc + 3) ls (.int (oI (σ 1 1)) :: rest))) : W p l e R s m args below meth c H locs 0 0 Q (F0 m pc ls (.ref (G.1 1) :: rest)) :=
  r_get C S 1 6 (by decide) rfl rfl inX6 1 (by decide) (v := .int (oI (σ 1 1))) (rfl) hlink hdg kk
theorem p6_length (C : Cx p s m args c own cc nL) (S : St G true τ σ s H locs) {idx : Nat} (hlink : Cond.fieldLink own idx RX6 (TX6 1).2.1 (TX6 1).2.2.1 ∈ GW) {z : Int} (hdg : decode cc pc = .ok (.putfield idx, 3))
    (kk : ∀ H1 locs1, St G true τ (up σ 1 1 z) s H1 locs1 → W p l e R s m args below meth c H1 locs1 0 0 Q (F0 m (pc + 3) ls rest)) : W p l e R s m args below meth c H locs 0 0 Q (F0 m pc ls (.int (oI z) :: .ref (G.1 1) :: rest)) :=
  r_put C S 1 6 (by decide) rfl rfl rfl inX6 tyX6 tyX6_ok nmX6 1 (by decide) (v := .int (oI z)) (by rfl) hlink rfl (ty := .int) (by decide +kernel) rfl rfl (Nat.le_of_ble_eq_true rfl) hdg kk
theorem inX7 : ∀ w ∈ u_ws RX7 TX7 7, w ∈ GW := by decide +kernel
theorem g7_told (C : Cx p s m args c own cc nL) (S : St G true τ σ s H locs) {idx : Nat} (hlink : Cond.fieldLink own idx RX7 (TX7 0).2.1 (TX7 0).2.2.1 ∈ GW) (hdg : decode cc pc = .ok (.getfield idx, 3))
    (kk : W p l e R s m args below meth c H locs 0 0 Q (F0 m (pc + 3) ls (.int (oI (σ 17 0)) :: rest))) : W p l e R s m args below meth c H locs 0 0 Q (F0 m pc ls (.ref (G.1 17) :: rest)) :=
  r_get C S 17 7 (by decide) rfl rfl inX7 0 (by decide) (v := .int (oI (σ 17 0))) (rfl) hlink hdg kk
theorem p7_told (C : Cx p s m args c own cc nL) (S : St G true τ σ s H locs) {idx : Nat} (hlink : Cond.fieldLink own idx RX7 (TX7 0).2.1 (TX7 0).2.2.1 ∈ GW) {z : Int} (hz : z = 0 ∨ z = 1) (hdg : decode cc pc = .ok (.putfield idx, 3))
    (kk : ∀ H1 locs1, St G true τ (up σ 17 0 z) s H1 locs1 → W p l e R s m args below meth c H1 locs1 0 0 Q (F0 m (pc + 3) ls rest)) : W p l e R s m args below meth c H locs 0 0 Q (F0 m pc ls (.int (oI z) :: .ref (G.1 17) :: rest)) :=
  r_put C S 17 7 (by decide) rfl rfl rfl inX7 tyX7 tyX7_ok nmX7 0 (by decide) (v := .int (oI z)) (by rfl) hlink rfl (ty := .boolean) (by decide +kernel) (by rcases hz with rfl | rfl <;> rfl) (by rcases hz with rfl | rfl <;> rfl) (Nat.le_of_ble_eq_true rfl) hdg kk
theorem g7_radius (C : Cx p s m args c own cc nL) (S : St G true τ σ s H locs) {idx : Nat} (hlink : Cond.fieldLink own idx RX7 (TX7 1).2.1 (TX7 1).2.2.1 ∈ GW) (hdg : decode cc pc = .ok (.getfield idx, 3))
    (kk : W p l e R s m args below meth c H locs 0 0 Q (F0 m (pc + 3) ls (.int (oI (σ 17 1)) :: rest))) : W p l e R s m args below meth c H locs 0 0 Q (F0 m pc ls (.ref (G.1 17) :: rest)) :=
  r_get C S 17 7 (by decide) rfl rfl inX7 1 (by decide) (v := .int (oI (σ 17 1))) (rfl) hlink hdg kk
theorem p7_radius (C : Cx p s m args c own cc nL) (S : St G true τ σ s H locs) {idx : Nat} (hlink : Cond.fieldLink own idx RX7 (TX7 1).2.1 (TX7 1).2.2.1 ∈ GW) {z : Int} (hdg : decode cc pc = .ok (.putfield idx, 3))
    (kk : ∀ H1 locs1, St G true τ (up σ 17 1 z) s H1 locs1 → W p l e R s m args below meth c H1 locs1 0 0 Q (F0 m (pc + 3) ls rest)) : W p l e R s m args below meth c H locs 0 0 Q (F0 m pc ls (.int (oI z) :: .ref (G.1 17) :: rest)) :=
  r_put C S 17 7 (by decide) rfl rfl rfl inX7 tyX7 tyX7_ok nmX7 1 (by decide) (v := .int (oI z)) (by rfl) hlink rfl (ty := .int) (by decide +kernel) rfl rfl (Nat.le_of_ble_eq_true rfl) hdg kk
theorem g7_x (C : Cx p s m args c own cc nL) (S : St G true τ σ s H locs) {idx : Nat} (hlink : Cond.fieldLink own idx RX7 (TX7 2).2.1 (TX7 2).2.2.1 ∈ GW) (hdg : decode cc pc = .ok (.getfield idx, 3))
    (kk : W p l e R s m args below meth c H locs 0 0 Q (F0 m (pc + 3) ls (.int (oI (σ 17 2)) :: rest))) : W p l e R s m args below meth c H locs 0 0 Q (F0 m pc ls (.ref (G.1 17) :: rest)) :=
  r_get C S 17 7 (by decide) rfl rfl inX7 2 (by decide) (v := .int (oI (σ 17 2))) (rfl) hlink hdg kk
theorem p7_x (C : Cx p s m args c own cc nL) (S : St G true τ σ s H locs) {idx : Nat} (hlink : Cond.fieldLink own idx RX7 (TX7 2).2.1 (TX7 2).2.2.1 ∈ GW) {z : Int} (hdg : decode cc pc = .ok (.putfield idx, 3))
    (kk : ∀ H1 locs1, St G true τ (up σ 17 2 z) s H1 locs1 → W p l e R s m args below meth c H1 locs1 0 0 Q (F0 m (pc + 3) ls rest)) : W p l e R s m args below meth c H locs 0 0 Q (F0 m pc ls (.int (oI z) :: .ref (G.1 17) :: rest)) :=
  r_put C S 17 7 (by decide) rfl rfl rfl inX7 tyX7 tyX7_ok nmX7 2 (by decide) (v := .int (oI z)) (by rfl) hlink rfl (ty := .int) (by decide +kernel) rfl rfl (Nat.le_of_ble_eq_true rfl) hdg kk
theorem g7_y (C : Cx p s m args c own cc nL) (S : St G true τ σ s H locs) {idx : Nat} (hlink : Cond.fieldLink own idx RX7 (TX7 3).2.1 (TX7 3).2.2.1 ∈ GW) (hdg : decode cc pc = .ok (.getfield idx, 3))
    (kk : W p l e R s m args below meth c H locs 0 0 Q (F0 m (pc + 3) ls (.int (oI (σ 17 3)) :: rest))) : W p l e R s m args below meth c H locs 0 0 Q (F0 m pc ls (.ref (G.1 17) :: rest)) :=
  r_get C S 17 7 (by decide) rfl rfl inX7 3 (by decide) (v := .int (oI (σ 17 3))) (rfl) hlink hdg kk
theorem p7_y (C : Cx p s m args c own cc nL) (S : St G true τ σ s H locs) {idx : Nat} (hlink : Cond.fieldLink own idx RX7 (TX7 3).2.1 (TX7 3).2.2.1 ∈ GW) {z : Int} (hdg : decode cc pc = .ok (.putfield idx, 3))
    (kk : ∀ H1 locs1, St G true τ (up σ 17 3 z) s H1 locs1 → W p l e R s m args below meth c H1 locs1 0 0 Q (F0 m (pc + 3) ls rest)) : W p l e R s m args below meth c H locs 0 0 Q (F0 m pc ls (.int (oI z) :: .ref (G.1 17) :: rest)) :=
  r_put C S 17 7 (by decide) rfl rfl rfl inX7 tyX7 tyX7_ok nmX7 3 (by decide) (v := .int (oI z)) (by rfl) hlink rfl (ty := .int) (by decide +kernel) rfl rfl (Nat.le_of_ble_eq_true rfl) hdg kk
theorem g7_toX (C : Cx p s m args c own cc nL) (S : St G true τ σ s H locs) {idx : Nat} (hlink : Cond.fieldLink own idx RX7 (TX7 4).2.1 (TX7 4).2.2.1 ∈ GW) (hdg : decode cc pc = .ok (.getfield idx, 3))
    (kk : W p l e R s m args below meth c H locs 0 0 Q (F0 m (pc + 3) ls (.int (oI (σ 17 4)) :: rest))) : W p l e R s m args below meth c H locs 0 0 Q (F0 m pc ls (.ref (G.1 17) :: rest)) :=
  r_get C S 17 7 (by decide) rfl rfl inX7 4 (by decide) (v := .int (oI (σ 17 4))) (rfl) hlink hdg kk
theorem p7_toX (C : Cx p s m args c own cc nL) (S : St G true τ σ s H locs) {idx : Nat} (hlink : Cond.fieldLink own idx RX7 (TX7 4).2.1 (TX7 4).2.2.1 ∈ GW) {z : Int} (hdg : decode cc pc = .ok (.putfield idx, 3))
    (kk : ∀ H1 locs1, St G true τ (up σ 17 4 z) s H1 locs1 → W p l e R s m args below meth c H1 locs1 0 0 Q (F0 m (pc + 3) ls rest)) : W p l e R s m args below meth c H locs 0 0 Q (F0 m pc ls (.int (oI z) :: .ref (G.1 17) :: rest)) :=
  r_put C S 17 7 (by decide) rfl rfl rfl inX7 tyX7 tyX7_ok nmX7 4 (by decide) (v := .int (oI z)) (by rfl) hlink rfl (ty := .int) (by decide +kernel) rfl rfl (Nat.le_of_ble_eq_true rfl) hdg kk
theorem g7_toY (C : Cx p s m args c own cc nL) (S : St G true τ σ s H locs) {idx : Nat} (hlink : Cond.fieldLink own idx RX7 (TX7 5).2.1 (TX7 5).2.2.1 ∈ GW) (hdg : decode cc pc = .ok (.getfield idx, 3))
    (kk : W p l e R s m args below meth c H locs 0 0 Q (F0 m (pc + 3) ls (.int (oI (σ 17 5)) :: rest))) : W p l e R s m args below meth c H locs 0 0 Q (F0 m pc ls (.ref (G.1 17) :: rest)) :=
  r_get C S 17 7 (by decide) rfl rfl inX7 5 (by decide) (v := .int (oI (σ 17 5))) (rfl) hlink hdg kk
theorem p7_toY (C : Cx p s m args c own cc nL) (S : St G true τ σ s H locs) {idx : Nat} (hlink : Cond.fieldLink own idx RX7 (TX7 5).2.1 (TX7 5).2.2.1 ∈ GW) {z : Int} (hdg : decode cc pc = .ok (.putfield idx, 3))
    (kk : ∀ H1 locs1, St G true τ (up σ 17 5 z) s H1 locs1 → W p l e R s m args below meth c H1 locs1 0 0 Q (F0 m (pc + 3) ls rest)) : W p l e R s m args below meth c H locs 0 0 Q (F0 m pc ls (.int (oI z) :: .ref (G.1 17) :: rest)) :=
  r_put C S 17 7 (by decide) rfl rfl rfl inX7 tyX7 tyX7_ok nmX7 5 (by decide) (v := .int (oI z)) (by rfl) hlink rfl (ty := .int) (by decide +kernel) rfl rfl (Nat.le_of_ble_eq_true rfl) hdg kk
theorem g7_steps (C : Cx p s m args c own cc nL) (S : St G true τ σ s H locs) {idx : Nat} (hlink : Cond.fieldLink own idx RX7 (TX7 6).2.1 (TX7 6).2.2.1 ∈ GW) (hdg : decode cc pc = .ok (.getfield idx, 3))
    (kk : W p l e R s m args below meth c H locs 0 0 Q (F0 m (pc + 3) ls (.int (oI (σ 17 6)) :: rest))) : W p l e R s m args below meth c H locs 0 0 Q (F0 m pc ls (.ref (G.1 17) :: rest)) :=
  r_get C S 17 7 (by decide) rfl rfl inX7 6 (by decide) (v := .int (oI (σ 17 6))) (rfl) hlink hdg kk
theorem p7_steps (C : Cx p s m args c own cc nL) (S : St G true τ σ s H locs) {idx : Nat} (hlink : Cond.fieldLink own idx RX7 (TX7 6).2.1 (TX7 6).2.2.1 ∈ GW) {z : Int} (hdg : decode cc pc = .ok (.putfield idx, 3))
    (kk : ∀ H1 locs1, St G true τ (up σ 17 6 z) s H1 locs1 → W p l e R s m args below meth c H1 locs1 0 0 Q (F0 m (pc + 3) ls rest)) : W p l e R s m args below meth c H locs 0 0 Q (F0 m pc ls (.int (oI z) :: .ref (G.1 17) :: rest)) :=
  r_put C S 17 7 (by decide) rfl rfl rfl inX7 tyX7 tyX7_ok nmX7 6 (by decide) (v := .int (oI z)) (by rfl) hlink rfl (ty := .int) (by decide +kernel) rfl rfl (Nat.le_of_ble_eq_true rfl) hdg kk
theorem inX8 : ∀ w ∈ u_ws RX8 TX8 9, w ∈ GW := by decide +kernel
theorem mkC8 (G : Gd) {d : Nat} (hd : d < 6) (r : Nat → Int) : mkCell G (21 + d) r = .inr (8, [.ref (G.1 6), .ref (G.1 (27 + d)), .int (oI (r 2)), .int (oI (r 3)), .int (oI (r 4)), .int (oI (r 5)), .int (oI (r 6)), .int (oI (r 7)), .int (oI (r 8))]) := by
  rcases (show d = 0 ∨ d = 1 ∨ d = 2 ∨ d = 3 ∨ d = 4 ∨ d = 5 by omega) with rfl | rfl | rfl | rfl | rfl | rfl <;> rfl
theorem g8_book (C : Cx p s m args c own cc nL) (S : St G true τ σ s H locs) {d : Nat} (hd : d < 6) {idx : Nat} (hlink : Cond.fieldLink own idx RX8 (TX8 0).2.1 (TX8 0).2.2.1 ∈ GW) (hdg : decode cc pc = .ok (.getfield idx, 3))
    (kk : W p l e R s m args below meth c H locs 0 0 Q (F0 m (pc + 3) ls (.ref (G.1 6) :: rest))) : W p l e R s m args below meth c H locs 0 0 Q (F0 m pc ls (.ref (G.1 (21 + d)) :: rest)) :=
  r_get C S (21 + d) 8 (by show _ < 61; omega) (mkC8 G hd _) rfl inX8 0 (by decide) (v := .ref (G.1 6)) (rfl) hlink hdg kk
theorem g8_discs (C : Cx p s m args c own cc nL) (S : St G true τ σ s H locs) {d : Nat} (hd : d < 6) {idx : Nat} (hlink : Cond.fieldLink own idx RX8 (TX8 1).2.1 (TX8 1).2.2.1 ∈ GW) (hdg : decode cc pc = .ok (.getfield idx, 3))
    (kk : W p l e R s m args below meth c H locs 0 0 Q (F0 m (pc + 3) ls (.ref (G.1 (27 + d)) :: rest))) : W p l e R s m args below meth c H locs 0 0 Q (F0 m pc ls (.ref (G.1 (21 + d)) :: rest)) :=
  r_get C S (21 + d) 8 (by show _ < 61; omega) (mkC8 G hd _) rfl inX8 1 (by decide) (v := .ref (G.1 (27 + d))) (rfl) hlink hdg kk
theorem g8_perils (C : Cx p s m args c own cc nL) (S : St G true τ σ s H locs) {d : Nat} (hd : d < 6) {idx : Nat} (hlink : Cond.fieldLink own idx RX8 (TX8 2).2.1 (TX8 2).2.2.1 ∈ GW) (hdg : decode cc pc = .ok (.getfield idx, 3))
    (kk : W p l e R s m args below meth c H locs 0 0 Q (F0 m (pc + 3) ls (.int (oI (σ (21 + d) 2)) :: rest))) : W p l e R s m args below meth c H locs 0 0 Q (F0 m pc ls (.ref (G.1 (21 + d)) :: rest)) :=
  r_get C S (21 + d) 8 (by show _ < 61; omega) (mkC8 G hd _) rfl inX8 2 (by decide) (v := .int (oI (σ (21 + d) 2))) (by rw [mix_b (by simp; omega)]; rfl) hlink hdg kk
theorem p8_perils (C : Cx p s m args c own cc nL) (S : St G true τ σ s H locs) {d : Nat} (hd : d < 6) {idx : Nat} (hlink : Cond.fieldLink own idx RX8 (TX8 2).2.1 (TX8 2).2.2.1 ∈ GW) {z : Int} (hdg : decode cc pc = .ok (.putfield idx, 3))
    (kk : ∀ H1 locs1, St G true τ (up σ (21 + d) 2 z) s H1 locs1 → W p l e R s m args below meth c H1 locs1 0 0 Q (F0 m (pc + 3) ls rest)) : W p l e R s m args below meth c H locs 0 0 Q (F0 m pc ls (.int (oI z) :: .ref (G.1 (21 + d)) :: rest)) :=
  r_put C S (21 + d) 8 (by show _ < 61; omega) (by simp; omega) (mkC8 G hd _) rfl inX8 tyX8 tyX8_ok nmX8 2 (by decide) (v := .int (oI z)) (by rw [mkC8 G hd]; simp [up]) hlink rfl (ty := .int) (by decide +kernel) rfl rfl (Nat.le_of_ble_eq_true rfl) hdg kk
theorem g8_radius (C : Cx p s m args c own cc nL) (S : St G true τ σ s H locs) {d : Nat} (hd : d < 6) {idx : Nat} (hlink : Cond.fieldLink own idx RX8 (TX8 3).2.1 (TX8 3).2.2.1 ∈ GW) (hdg : decode cc pc = .ok (.getfield idx, 3))
    (kk : W p l e R s m args below meth c H locs 0 0 Q (F0 m (pc + 3) ls (.int (oI (σ (21 + d) 3)) :: rest))) : W p l e R s m args below meth c H locs 0 0 Q (F0 m pc ls (.ref (G.1 (21 + d)) :: rest)) :=
  r_get C S (21 + d) 8 (by show _ < 61; omega) (mkC8 G hd _) rfl inX8 3 (by decide) (v := .int (oI (σ (21 + d) 3))) (by rw [mix_b (by simp; omega)]; rfl) hlink hdg kk
theorem p8_radius (C : Cx p s m args c own cc nL) (S : St G true τ σ s H locs) {d : Nat} (hd : d < 6) {idx : Nat} (hlink : Cond.fieldLink own idx RX8 (TX8 3).2.1 (TX8 3).2.2.1 ∈ GW) {z : Int} (hdg : decode cc pc = .ok (.putfield idx, 3))
    (kk : ∀ H1 locs1, St G true τ (up σ (21 + d) 3 z) s H1 locs1 → W p l e R s m args below meth c H1 locs1 0 0 Q (F0 m (pc + 3) ls rest)) : W p l e R s m args below meth c H locs 0 0 Q (F0 m pc ls (.int (oI z) :: .ref (G.1 (21 + d)) :: rest)) :=
  r_put C S (21 + d) 8 (by show _ < 61; omega) (by simp; omega) (mkC8 G hd _) rfl inX8 tyX8 tyX8_ok nmX8 3 (by decide) (v := .int (oI z)) (by rw [mkC8 G hd]; simp [up]) hlink rfl (ty := .int) (by decide +kernel) rfl rfl (Nat.le_of_ble_eq_true rfl) hdg kk
theorem g8_limit (C : Cx p s m args c own cc nL) (S : St G true τ σ s H locs) {d : Nat} (hd : d < 6) {idx : Nat} (hlink : Cond.fieldLink own idx RX8 (TX8 4).2.1 (TX8 4).2.2.1 ∈ GW) (hdg : decode cc pc = .ok (.getfield idx, 3))
    (kk : W p l e R s m args below meth c H locs 0 0 Q (F0 m (pc + 3) ls (.int (oI (σ (21 + d) 4)) :: rest))) : W p l e R s m args below meth c H locs 0 0 Q (F0 m pc ls (.ref (G.1 (21 + d)) :: rest)) :=
  r_get C S (21 + d) 8 (by show _ < 61; omega) (mkC8 G hd _) rfl inX8 4 (by decide) (v := .int (oI (σ (21 + d) 4))) (by rw [mix_b (by simp; omega)]; rfl) hlink hdg kk
theorem p8_limit (C : Cx p s m args c own cc nL) (S : St G true τ σ s H locs) {d : Nat} (hd : d < 6) {idx : Nat} (hlink : Cond.fieldLink own idx RX8 (TX8 4).2.1 (TX8 4).2.2.1 ∈ GW) {z : Int} (hdg : decode cc pc = .ok (.putfield idx, 3))
    (kk : ∀ H1 locs1, St G true τ (up σ (21 + d) 4 z) s H1 locs1 → W p l e R s m args below meth c H1 locs1 0 0 Q (F0 m (pc + 3) ls rest)) : W p l e R s m args below meth c H locs 0 0 Q (F0 m pc ls (.int (oI z) :: .ref (G.1 (21 + d)) :: rest)) :=
  r_put C S (21 + d) 8 (by show _ < 61; omega) (by simp; omega) (mkC8 G hd _) rfl inX8 tyX8 tyX8_ok nmX8 4 (by decide) (v := .int (oI z)) (by rw [mkC8 G hd]; simp [up]) hlink rfl (ty := .int) (by decide +kernel) rfl rfl (Nat.le_of_ble_eq_true rfl) hdg kk
theorem g8_worstSet (C : Cx p s m args c own cc nL) (S : St G true τ σ s H locs) {d : Nat} (hd : d < 6) {idx : Nat} (hlink : Cond.fieldLink own idx RX8 (TX8 5).2.1 (TX8 5).2.2.1 ∈ GW) (hdg : decode cc pc = .ok (.getfield idx, 3))
    (kk : W p l e R s m args below meth c H locs 0 0 Q (F0 m (pc + 3) ls (.int (oI (σ (21 + d) 5)) :: rest))) : W p l e R s m args below meth c H locs 0 0 Q (F0 m pc ls (.ref (G.1 (21 + d)) :: rest)) :=
  r_get C S (21 + d) 8 (by show _ < 61; omega) (mkC8 G hd _) rfl inX8 5 (by decide) (v := .int (oI (σ (21 + d) 5))) (by rw [mix_b (by simp; omega)]; rfl) hlink hdg kk
theorem p8_worstSet (C : Cx p s m args c own cc nL) (S : St G true τ σ s H locs) {d : Nat} (hd : d < 6) {idx : Nat} (hlink : Cond.fieldLink own idx RX8 (TX8 5).2.1 (TX8 5).2.2.1 ∈ GW) {z : Int} (hdg : decode cc pc = .ok (.putfield idx, 3))
    (kk : ∀ H1 locs1, St G true τ (up σ (21 + d) 5 z) s H1 locs1 → W p l e R s m args below meth c H1 locs1 0 0 Q (F0 m (pc + 3) ls rest)) : W p l e R s m args below meth c H locs 0 0 Q (F0 m pc ls (.int (oI z) :: .ref (G.1 (21 + d)) :: rest)) :=
  r_put C S (21 + d) 8 (by show _ < 61; omega) (by simp; omega) (mkC8 G hd _) rfl inX8 tyX8 tyX8_ok nmX8 5 (by decide) (v := .int (oI z)) (by rw [mkC8 G hd]; simp [up]) hlink rfl (ty := .int) (by decide +kernel) rfl rfl (Nat.le_of_ble_eq_true rfl) hdg kk
theorem g8_worstSums (C : Cx p s m args c own cc nL) (S : St G true τ σ s H locs) {d : Nat} (hd : d < 6) {idx : Nat} (hlink : Cond.fieldLink own idx RX8 (TX8 6).2.1 (TX8 6).2.2.1 ∈ GW) (hdg : decode cc pc = .ok (.getfield idx, 3))
    (kk : W p l e R s m args below meth c H locs 0 0 Q (F0 m (pc + 3) ls (.int (oI (σ (21 + d) 6)) :: rest))) : W p l e R s m args below meth c H locs 0 0 Q (F0 m pc ls (.ref (G.1 (21 + d)) :: rest)) :=
  r_get C S (21 + d) 8 (by show _ < 61; omega) (mkC8 G hd _) rfl inX8 6 (by decide) (v := .int (oI (σ (21 + d) 6))) (by rw [mix_b (by simp; omega)]; rfl) hlink hdg kk
theorem p8_worstSums (C : Cx p s m args c own cc nL) (S : St G true τ σ s H locs) {d : Nat} (hd : d < 6) {idx : Nat} (hlink : Cond.fieldLink own idx RX8 (TX8 6).2.1 (TX8 6).2.2.1 ∈ GW) {z : Int} (hdg : decode cc pc = .ok (.putfield idx, 3))
    (kk : ∀ H1 locs1, St G true τ (up σ (21 + d) 6 z) s H1 locs1 → W p l e R s m args below meth c H1 locs1 0 0 Q (F0 m (pc + 3) ls rest)) : W p l e R s m args below meth c H locs 0 0 Q (F0 m pc ls (.int (oI z) :: .ref (G.1 (21 + d)) :: rest)) :=
  r_put C S (21 + d) 8 (by show _ < 61; omega) (by simp; omega) (mkC8 G hd _) rfl inX8 tyX8 tyX8_ok nmX8 6 (by decide) (v := .int (oI z)) (by rw [mkC8 G hd]; simp [up]) hlink rfl (ty := .int) (by decide +kernel) rfl rfl (Nat.le_of_ble_eq_true rfl) hdg kk
theorem g8_alarm (C : Cx p s m args c own cc nL) (S : St G true τ σ s H locs) {d : Nat} (hd : d < 6) {idx : Nat} (hlink : Cond.fieldLink own idx RX8 (TX8 7).2.1 (TX8 7).2.2.1 ∈ GW) (hdg : decode cc pc = .ok (.getfield idx, 3))
    (kk : W p l e R s m args below meth c H locs 0 0 Q (F0 m (pc + 3) ls (.int (oI (σ (21 + d) 7)) :: rest))) : W p l e R s m args below meth c H locs 0 0 Q (F0 m pc ls (.ref (G.1 (21 + d)) :: rest)) :=
  r_get C S (21 + d) 8 (by show _ < 61; omega) (mkC8 G hd _) rfl inX8 7 (by decide) (v := .int (oI (σ (21 + d) 7))) (by rw [mix_b (by simp; omega)]; rfl) hlink hdg kk
theorem p8_alarm (C : Cx p s m args c own cc nL) (S : St G true τ σ s H locs) {d : Nat} (hd : d < 6) {idx : Nat} (hlink : Cond.fieldLink own idx RX8 (TX8 7).2.1 (TX8 7).2.2.1 ∈ GW) {z : Int} (hdg : decode cc pc = .ok (.putfield idx, 3))
    (kk : ∀ H1 locs1, St G true τ (up σ (21 + d) 7 z) s H1 locs1 → W p l e R s m args below meth c H1 locs1 0 0 Q (F0 m (pc + 3) ls rest)) : W p l e R s m args below meth c H locs 0 0 Q (F0 m pc ls (.int (oI z) :: .ref (G.1 (21 + d)) :: rest)) :=
  r_put C S (21 + d) 8 (by show _ < 61; omega) (by simp; omega) (mkC8 G hd _) rfl inX8 tyX8 tyX8_ok nmX8 7 (by decide) (v := .int (oI z)) (by rw [mkC8 G hd]; simp [up]) hlink rfl (ty := .int) (by decide +kernel) rfl rfl (Nat.le_of_ble_eq_true rfl) hdg kk
theorem g8_alarmsHad (C : Cx p s m args c own cc nL) (S : St G true τ σ s H locs) {d : Nat} (hd : d < 6) {idx : Nat} (hlink : Cond.fieldLink own idx RX8 (TX8 8).2.1 (TX8 8).2.2.1 ∈ GW) (hdg : decode cc pc = .ok (.getfield idx, 3))
    (kk : W p l e R s m args below meth c H locs 0 0 Q (F0 m (pc + 3) ls (.int (oI (σ (21 + d) 8)) :: rest))) : W p l e R s m args below meth c H locs 0 0 Q (F0 m pc ls (.ref (G.1 (21 + d)) :: rest)) :=
  r_get C S (21 + d) 8 (by show _ < 61; omega) (mkC8 G hd _) rfl inX8 8 (by decide) (v := .int (oI (σ (21 + d) 8))) (by rw [mix_b (by simp; omega)]; rfl) hlink hdg kk
theorem p8_alarmsHad (C : Cx p s m args c own cc nL) (S : St G true τ σ s H locs) {d : Nat} (hd : d < 6) {idx : Nat} (hlink : Cond.fieldLink own idx RX8 (TX8 8).2.1 (TX8 8).2.2.1 ∈ GW) {z : Int} (hdg : decode cc pc = .ok (.putfield idx, 3))
    (kk : ∀ H1 locs1, St G true τ (up σ (21 + d) 8 z) s H1 locs1 → W p l e R s m args below meth c H1 locs1 0 0 Q (F0 m (pc + 3) ls rest)) : W p l e R s m args below meth c H locs 0 0 Q (F0 m pc ls (.int (oI z) :: .ref (G.1 (21 + d)) :: rest)) :=
  r_put C S (21 + d) 8 (by show _ < 61; omega) (by simp; omega) (mkC8 G hd _) rfl inX8 tyX8 tyX8_ok nmX8 8 (by decide) (v := .int (oI z)) (by rw [mkC8 G hd]; simp [up]) hlink rfl (ty := .int) (by decide +kernel) rfl rfl (Nat.le_of_ble_eq_true rfl) hdg kk
theorem inX9 : ∀ w ∈ u_ws RX9 TX9 11, w ∈ GW := by decide +kernel
theorem g9_tape (C : Cx p s m args c own cc nL) (S : St G true τ σ s H locs) {idx : Nat} (hlink : Cond.fieldLink own idx RX9 (TX9 0).2.1 (TX9 0).2.2.1 ∈ GW) (hdg : decode cc pc = .ok (.getfield idx, 3))
    (kk : W p l e R s m args below meth c H locs 0 0 Q (F0 m (pc + 3) ls (.ref (G.1 1) :: rest))) : W p l e R s m args below meth c H locs 0 0 Q (F0 m pc ls (.ref (G.1 0) :: rest)) :=
  r_get C S 0 9 (by decide) rfl rfl inX9 0 (by decide) (v := .ref (G.1 1)) (rfl) hlink hdg kk
theorem g9_reader (C : Cx p s m args c own cc nL) (S : St G true τ σ s H locs) {idx : Nat} (hlink : Cond.fieldLink own idx RX9 (TX9 1).2.1 (TX9 1).2.2.1 ∈ GW) (hdg : decode cc pc = .ok (.getfield idx, 3))
    (kk : W p l e R s m args below meth c H locs 0 0 Q (F0 m (pc + 3) ls (.ref (G.1 3) :: rest))) : W p l e R s m args below meth c H locs 0 0 Q (F0 m pc ls (.ref (G.1 0) :: rest)) :=
  r_get C S 0 9 (by decide) rfl rfl inX9 1 (by decide) (v := .ref (G.1 3)) (rfl) hlink hdg kk
theorem g9_book (C : Cx p s m args c own cc nL) (S : St G true τ σ s H locs) {idx : Nat} (hlink : Cond.fieldLink own idx RX9 (TX9 2).2.1 (TX9 2).2.2.1 ∈ GW) (hdg : decode cc pc = .ok (.getfield idx, 3))
    (kk : W p l e R s m args below meth c H locs 0 0 Q (F0 m (pc + 3) ls (.ref (G.1 6) :: rest))) : W p l e R s m args below meth c H locs 0 0 Q (F0 m pc ls (.ref (G.1 0) :: rest)) :=
  r_get C S 0 9 (by decide) rfl rfl inX9 2 (by decide) (v := .ref (G.1 6)) (rfl) hlink hdg kk
theorem g9_treaties (C : Cx p s m args c own cc nL) (S : St G true τ σ s H locs) {idx : Nat} (hlink : Cond.fieldLink own idx RX9 (TX9 3).2.1 (TX9 3).2.2.1 ∈ GW) (hdg : decode cc pc = .ok (.getfield idx, 3))
    (kk : W p l e R s m args below meth c H locs 0 0 Q (F0 m (pc + 3) ls (.ref (G.1 12) :: rest))) : W p l e R s m args below meth c H locs 0 0 Q (F0 m pc ls (.ref (G.1 0) :: rest)) :=
  r_get C S 0 9 (by decide) rfl rfl inX9 3 (by decide) (v := .ref (G.1 12)) (rfl) hlink hdg kk
theorem g9_treatyCount (C : Cx p s m args c own cc nL) (S : St G true τ σ s H locs) {idx : Nat} (hlink : Cond.fieldLink own idx RX9 (TX9 4).2.1 (TX9 4).2.2.1 ∈ GW) (hdg : decode cc pc = .ok (.getfield idx, 3))
    (kk : W p l e R s m args below meth c H locs 0 0 Q (F0 m (pc + 3) ls (.int (oI (σ 0 4)) :: rest))) : W p l e R s m args below meth c H locs 0 0 Q (F0 m pc ls (.ref (G.1 0) :: rest)) :=
  r_get C S 0 9 (by decide) rfl rfl inX9 4 (by decide) (v := .int (oI (σ 0 4))) (rfl) hlink hdg kk
theorem p9_treatyCount (C : Cx p s m args c own cc nL) (S : St G true τ σ s H locs) {idx : Nat} (hlink : Cond.fieldLink own idx RX9 (TX9 4).2.1 (TX9 4).2.2.1 ∈ GW) {z : Int} (hdg : decode cc pc = .ok (.putfield idx, 3))
    (kk : ∀ H1 locs1, St G true τ (up σ 0 4 z) s H1 locs1 → W p l e R s m args below meth c H1 locs1 0 0 Q (F0 m (pc + 3) ls rest)) : W p l e R s m args below meth c H locs 0 0 Q (F0 m pc ls (.int (oI z) :: .ref (G.1 0) :: rest)) :=
  r_put C S 0 9 (by decide) rfl rfl rfl inX9 tyX9 tyX9_ok nmX9 4 (by decide) (v := .int (oI z)) (by rfl) hlink rfl (ty := .int) (by decide +kernel) rfl rfl (Nat.le_of_ble_eq_true rfl) hdg kk
theorem g9_acts (C : Cx p s m args c own cc nL) (S : St G true τ σ s H locs) {idx : Nat} (hlink : Cond.fieldLink own idx RX9 (TX9 5).2.1 (TX9 5).2.2.1 ∈ GW) (hdg : decode cc pc = .ok (.getfield idx, 3))
    (kk : W p l e R s m args below meth c H locs 0 0 Q (F0 m (pc + 3) ls (.ref (G.1 13) :: rest))) : W p l e R s m args below meth c H locs 0 0 Q (F0 m pc ls (.ref (G.1 0) :: rest)) :=
  r_get C S 0 9 (by decide) rfl rfl inX9 5 (by decide) (v := .ref (G.1 13)) (rfl) hlink hdg kk
theorem g9_alarms (C : Cx p s m args c own cc nL) (S : St G true τ σ s H locs) {idx : Nat} (hlink : Cond.fieldLink own idx RX9 (TX9 6).2.1 (TX9 6).2.2.1 ∈ GW) (hdg : decode cc pc = .ok (.getfield idx, 3))
    (kk : W p l e R s m args below meth c H locs 0 0 Q (F0 m (pc + 3) ls (.ref (G.1 15) :: rest))) : W p l e R s m args below meth c H locs 0 0 Q (F0 m pc ls (.ref (G.1 0) :: rest)) :=
  r_get C S 0 9 (by decide) rfl rfl inX9 6 (by decide) (v := .ref (G.1 15)) (rfl) hlink hdg kk
theorem g9_track (C : Cx p s m args c own cc nL) (S : St G true τ σ s H locs) {idx : Nat} (hlink : Cond.fieldLink own idx RX9 (TX9 7).2.1 (TX9 7).2.2.1 ∈ GW) (hdg : decode cc pc = .ok (.getfield idx, 3))
    (kk : W p l e R s m args below meth c H locs 0 0 Q (F0 m (pc + 3) ls (.ref (G.1 17) :: rest))) : W p l e R s m args below meth c H locs 0 0 Q (F0 m pc ls (.ref (G.1 0) :: rest)) :=
  r_get C S 0 9 (by decide) rfl rfl inX9 7 (by decide) (v := .ref (G.1 17)) (rfl) hlink hdg kk
theorem g9_discs (C : Cx p s m args c own cc nL) (S : St G true τ σ s H locs) {idx : Nat} (hlink : Cond.fieldLink own idx RX9 (TX9 8).2.1 (TX9 8).2.2.1 ∈ GW) (hdg : decode cc pc = .ok (.getfield idx, 3))
    (kk : W p l e R s m args below meth c H locs 0 0 Q (F0 m (pc + 3) ls (.ref (G.1 33) :: rest))) : W p l e R s m args below meth c H locs 0 0 Q (F0 m pc ls (.ref (G.1 0) :: rest)) :=
  r_get C S 0 9 (by decide) rfl rfl inX9 8 (by decide) (v := .ref (G.1 33)) (rfl) hlink hdg kk
theorem g9_family (C : Cx p s m args c own cc nL) (S : St G true τ σ s H locs) {idx : Nat} (hlink : Cond.fieldLink own idx RX9 (TX9 9).2.1 (TX9 9).2.2.1 ∈ GW) (hdg : decode cc pc = .ok (.getfield idx, 3))
    (kk : W p l e R s m args below meth c H locs 0 0 Q (F0 m (pc + 3) ls (.ref (G.1 18) :: rest))) : W p l e R s m args below meth c H locs 0 0 Q (F0 m pc ls (.ref (G.1 0) :: rest)) :=
  r_get C S 0 9 (by decide) rfl rfl inX9 9 (by decide) (v := .ref (G.1 18)) (rfl) hlink hdg kk
theorem g9_circle (C : Cx p s m args c own cc nL) (S : St G true τ σ s H locs) {idx : Nat} (hlink : Cond.fieldLink own idx RX9 (TX9 10).2.1 (TX9 10).2.2.1 ∈ GW) (hdg : decode cc pc = .ok (.getfield idx, 3))
    (kk : W p l e R s m args below meth c H locs 0 0 Q (F0 m (pc + 3) ls (.ref (G.1 20) :: rest))) : W p l e R s m args below meth c H locs 0 0 Q (F0 m pc ls (.ref (G.1 0) :: rest)) :=
  r_get C S 0 9 (by decide) rfl rfl inX9 10 (by decide) (v := .ref (G.1 20)) (rfl) hlink hdg kk
theorem inX10 : ∀ w ∈ u_ws RX10 TX10 42, w ∈ GW := by decide +kernel
theorem g10_thrown (C : Cx p s m args c own cc nL) (S : St G false τ σ s H locs) {idx : Nat} (hlink : Cond.fieldLink own idx RX10 (TX10 0).2.1 (TX10 0).2.2.1 ∈ GW) (hdg : decode cc pc = .ok (.getfield idx, 3))
    (kk : W p l e R s m args below meth c H locs 0 0 Q (F0 m (pc + 3) ls (.int (oI (σ 41 0)) :: rest))) : W p l e R s m args below meth c H locs 0 0 Q (F0 m pc ls (.ref (G.1 41) :: rest)) :=
  r_get C S 41 10 (by decide) rfl rfl inX10 0 (by decide) (v := .int (oI (σ 41 0))) (rfl) hlink hdg kk
theorem p10_thrown (C : Cx p s m args c own cc nL) (S : St G false τ σ s H locs) {idx : Nat} (hlink : Cond.fieldLink own idx RX10 (TX10 0).2.1 (TX10 0).2.2.1 ∈ GW) {z : Int} (hdg : decode cc pc = .ok (.putfield idx, 3))
    (kk : ∀ H1 locs1, St G false τ (up σ 41 0 z) s H1 locs1 → W p l e R s m args below meth c H1 locs1 0 0 Q (F0 m (pc + 3) ls rest)) : W p l e R s m args below meth c H locs 0 0 Q (F0 m pc ls (.int (oI z) :: .ref (G.1 41) :: rest)) :=
  r_put C S 41 10 (by decide) rfl rfl rfl inX10 tyX10 tyX10_ok nmX10 0 (by decide) (v := .int (oI z)) (by rfl) hlink rfl (ty := .int) (by decide +kernel) rfl rfl (Nat.le_of_ble_eq_true rfl) hdg kk
theorem g10_tape (C : Cx p s m args c own cc nL) (S : St G false τ σ s H locs) {idx : Nat} (hlink : Cond.fieldLink own idx RX10 (TX10 1).2.1 (TX10 1).2.2.1 ∈ GW) (hdg : decode cc pc = .ok (.getfield idx, 3))
    (kk : W p l e R s m args below meth c H locs 0 0 Q (F0 m (pc + 3) ls (.ref (G.1 42) :: rest))) : W p l e R s m args below meth c H locs 0 0 Q (F0 m pc ls (.ref (G.1 41) :: rest)) :=
  r_get C S 41 10 (by decide) rfl rfl inX10 1 (by decide) (v := .ref (G.1 42)) (rfl) hlink hdg kk
theorem g10_taped (C : Cx p s m args c own cc nL) (S : St G false τ σ s H locs) {idx : Nat} (hlink : Cond.fieldLink own idx RX10 (TX10 2).2.1 (TX10 2).2.2.1 ∈ GW) (hdg : decode cc pc = .ok (.getfield idx, 3))
    (kk : W p l e R s m args below meth c H locs 0 0 Q (F0 m (pc + 3) ls (.int (oI (σ 41 2)) :: rest))) : W p l e R s m args below meth c H locs 0 0 Q (F0 m pc ls (.ref (G.1 41) :: rest)) :=
  r_get C S 41 10 (by decide) rfl rfl inX10 2 (by decide) (v := .int (oI (σ 41 2))) (rfl) hlink hdg kk
theorem p10_taped (C : Cx p s m args c own cc nL) (S : St G false τ σ s H locs) {idx : Nat} (hlink : Cond.fieldLink own idx RX10 (TX10 2).2.1 (TX10 2).2.2.1 ∈ GW) {z : Int} (hdg : decode cc pc = .ok (.putfield idx, 3))
    (kk : ∀ H1 locs1, St G false τ (up σ 41 2 z) s H1 locs1 → W p l e R s m args below meth c H1 locs1 0 0 Q (F0 m (pc + 3) ls rest)) : W p l e R s m args below meth c H locs 0 0 Q (F0 m pc ls (.int (oI z) :: .ref (G.1 41) :: rest)) :=
  r_put C S 41 10 (by decide) rfl rfl rfl inX10 tyX10 tyX10_ok nmX10 2 (by decide) (v := .int (oI z)) (by rfl) hlink rfl (ty := .int) (by decide +kernel) rfl rfl (Nat.le_of_ble_eq_true rfl) hdg kk
theorem g10_readPolicy (C : Cx p s m args c own cc nL) (S : St G false τ σ s H locs) {idx : Nat} (hlink : Cond.fieldLink own idx RX10 (TX10 3).2.1 (TX10 3).2.2.1 ∈ GW) (hdg : decode cc pc = .ok (.getfield idx, 3))
    (kk : W p l e R s m args below meth c H locs 0 0 Q (F0 m (pc + 3) ls (.ref (G.1 43) :: rest))) : W p l e R s m args below meth c H locs 0 0 Q (F0 m pc ls (.ref (G.1 41) :: rest)) :=
  r_get C S 41 10 (by decide) rfl rfl inX10 3 (by decide) (v := .ref (G.1 43)) (rfl) hlink hdg kk
theorem g10_readTreaty (C : Cx p s m args c own cc nL) (S : St G false τ σ s H locs) {idx : Nat} (hlink : Cond.fieldLink own idx RX10 (TX10 4).2.1 (TX10 4).2.2.1 ∈ GW) (hdg : decode cc pc = .ok (.getfield idx, 3))
    (kk : W p l e R s m args below meth c H locs 0 0 Q (F0 m (pc + 3) ls (.ref (G.1 44) :: rest))) : W p l e R s m args below meth c H locs 0 0 Q (F0 m pc ls (.ref (G.1 41) :: rest)) :=
  r_get C S 41 10 (by decide) rfl rfl inX10 4 (by decide) (v := .ref (G.1 44)) (rfl) hlink hdg kk
theorem g10_readPolicies (C : Cx p s m args c own cc nL) (S : St G false τ σ s H locs) {idx : Nat} (hlink : Cond.fieldLink own idx RX10 (TX10 5).2.1 (TX10 5).2.2.1 ∈ GW) (hdg : decode cc pc = .ok (.getfield idx, 3))
    (kk : W p l e R s m args below meth c H locs 0 0 Q (F0 m (pc + 3) ls (.int (oI (σ 41 5)) :: rest))) : W p l e R s m args below meth c H locs 0 0 Q (F0 m pc ls (.ref (G.1 41) :: rest)) :=
  r_get C S 41 10 (by decide) rfl rfl inX10 5 (by decide) (v := .int (oI (σ 41 5))) (rfl) hlink hdg kk
theorem p10_readPolicies (C : Cx p s m args c own cc nL) (S : St G false τ σ s H locs) {idx : Nat} (hlink : Cond.fieldLink own idx RX10 (TX10 5).2.1 (TX10 5).2.2.1 ∈ GW) {z : Int} (hdg : decode cc pc = .ok (.putfield idx, 3))
    (kk : ∀ H1 locs1, St G false τ (up σ 41 5 z) s H1 locs1 → W p l e R s m args below meth c H1 locs1 0 0 Q (F0 m (pc + 3) ls rest)) : W p l e R s m args below meth c H locs 0 0 Q (F0 m pc ls (.int (oI z) :: .ref (G.1 41) :: rest)) :=
  r_put C S 41 10 (by decide) rfl rfl rfl inX10 tyX10 tyX10_ok nmX10 5 (by decide) (v := .int (oI z)) (by rfl) hlink rfl (ty := .int) (by decide +kernel) rfl rfl (Nat.le_of_ble_eq_true rfl) hdg kk
theorem g10_readTreaties (C : Cx p s m args c own cc nL) (S : St G false τ σ s H locs) {idx : Nat} (hlink : Cond.fieldLink own idx RX10 (TX10 6).2.1 (TX10 6).2.2.1 ∈ GW) (hdg : decode cc pc = .ok (.getfield idx, 3))
    (kk : W p l e R s m args below meth c H locs 0 0 Q (F0 m (pc + 3) ls (.int (oI (σ 41 6)) :: rest))) : W p l e R s m args below meth c H locs 0 0 Q (F0 m pc ls (.ref (G.1 41) :: rest)) :=
  r_get C S 41 10 (by decide) rfl rfl inX10 6 (by decide) (v := .int (oI (σ 41 6))) (rfl) hlink hdg kk
theorem p10_readTreaties (C : Cx p s m args c own cc nL) (S : St G false τ σ s H locs) {idx : Nat} (hlink : Cond.fieldLink own idx RX10 (TX10 6).2.1 (TX10 6).2.2.1 ∈ GW) {z : Int} (hdg : decode cc pc = .ok (.putfield idx, 3))
    (kk : ∀ H1 locs1, St G false τ (up σ 41 6 z) s H1 locs1 → W p l e R s m args below meth c H1 locs1 0 0 Q (F0 m (pc + 3) ls rest)) : W p l e R s m args below meth c H locs 0 0 Q (F0 m pc ls (.int (oI z) :: .ref (G.1 41) :: rest)) :=
  r_put C S 41 10 (by decide) rfl rfl rfl inX10 tyX10 tyX10_ok nmX10 6 (by decide) (v := .int (oI z)) (by rfl) hlink rfl (ty := .int) (by decide +kernel) rfl rfl (Nat.le_of_ble_eq_true rfl) hdg kk
theorem g10_lines (C : Cx p s m args c own cc nL) (S : St G false τ σ s H locs) {idx : Nat} (hlink : Cond.fieldLink own idx RX10 (TX10 7).2.1 (TX10 7).2.2.1 ∈ GW) (hdg : decode cc pc = .ok (.getfield idx, 3))
    (kk : W p l e R s m args below meth c H locs 0 0 Q (F0 m (pc + 3) ls (.int (oI (σ 41 7)) :: rest))) : W p l e R s m args below meth c H locs 0 0 Q (F0 m pc ls (.ref (G.1 41) :: rest)) :=
  r_get C S 41 10 (by decide) rfl rfl inX10 7 (by decide) (v := .int (oI (σ 41 7))) (rfl) hlink hdg kk
theorem p10_lines (C : Cx p s m args c own cc nL) (S : St G false τ σ s H locs) {idx : Nat} (hlink : Cond.fieldLink own idx RX10 (TX10 7).2.1 (TX10 7).2.2.1 ∈ GW) {z : Int} (hdg : decode cc pc = .ok (.putfield idx, 3))
    (kk : ∀ H1 locs1, St G false τ (up σ 41 7 z) s H1 locs1 → W p l e R s m args below meth c H1 locs1 0 0 Q (F0 m (pc + 3) ls rest)) : W p l e R s m args below meth c H locs 0 0 Q (F0 m pc ls (.int (oI z) :: .ref (G.1 41) :: rest)) :=
  r_put C S 41 10 (by decide) rfl rfl rfl inX10 tyX10 tyX10_ok nmX10 7 (by decide) (v := .int (oI z)) (by rfl) hlink rfl (ty := .int) (by decide +kernel) rfl rfl (Nat.le_of_ble_eq_true rfl) hdg kk
theorem g10_size (C : Cx p s m args c own cc nL) (S : St G false τ σ s H locs) {idx : Nat} (hlink : Cond.fieldLink own idx RX10 (TX10 8).2.1 (TX10 8).2.2.1 ∈ GW) (hdg : decode cc pc = .ok (.getfield idx, 3))
    (kk : W p l e R s m args below meth c H locs 0 0 Q (F0 m (pc + 3) ls (.int (oI (σ 41 8)) :: rest))) : W p l e R s m args below meth c H locs 0 0 Q (F0 m pc ls (.ref (G.1 41) :: rest)) :=
  r_get C S 41 10 (by decide) rfl rfl inX10 8 (by decide) (v := .int (oI (σ 41 8))) (rfl) hlink hdg kk
theorem p10_size (C : Cx p s m args c own cc nL) (S : St G false τ σ s H locs) {idx : Nat} (hlink : Cond.fieldLink own idx RX10 (TX10 8).2.1 (TX10 8).2.2.1 ∈ GW) {z : Int} (hdg : decode cc pc = .ok (.putfield idx, 3))
    (kk : ∀ H1 locs1, St G false τ (up σ 41 8 z) s H1 locs1 → W p l e R s m args below meth c H1 locs1 0 0 Q (F0 m (pc + 3) ls rest)) : W p l e R s m args below meth c H locs 0 0 Q (F0 m pc ls (.int (oI z) :: .ref (G.1 41) :: rest)) :=
  r_put C S 41 10 (by decide) rfl rfl rfl inX10 tyX10 tyX10_ok nmX10 8 (by decide) (v := .int (oI z)) (by rfl) hlink rfl (ty := .int) (by decide +kernel) rfl rfl (Nat.le_of_ble_eq_true rfl) hdg kk
theorem g10_at (C : Cx p s m args c own cc nL) (S : St G false τ σ s H locs) {idx : Nat} (hlink : Cond.fieldLink own idx RX10 (TX10 9).2.1 (TX10 9).2.2.1 ∈ GW) (hdg : decode cc pc = .ok (.getfield idx, 3))
    (kk : W p l e R s m args below meth c H locs 0 0 Q (F0 m (pc + 3) ls (.int (oI (σ 41 9)) :: rest))) : W p l e R s m args below meth c H locs 0 0 Q (F0 m pc ls (.ref (G.1 41) :: rest)) :=
  r_get C S 41 10 (by decide) rfl rfl inX10 9 (by decide) (v := .int (oI (σ 41 9))) (rfl) hlink hdg kk
theorem p10_at (C : Cx p s m args c own cc nL) (S : St G false τ σ s H locs) {idx : Nat} (hlink : Cond.fieldLink own idx RX10 (TX10 9).2.1 (TX10 9).2.2.1 ∈ GW) {z : Int} (hdg : decode cc pc = .ok (.putfield idx, 3))
    (kk : ∀ H1 locs1, St G false τ (up σ 41 9 z) s H1 locs1 → W p l e R s m args below meth c H1 locs1 0 0 Q (F0 m (pc + 3) ls rest)) : W p l e R s m args below meth c H locs 0 0 Q (F0 m pc ls (.int (oI z) :: .ref (G.1 41) :: rest)) :=
  r_put C S 41 10 (by decide) rfl rfl rfl inX10 tyX10 tyX10_ok nmX10 9 (by decide) (v := .int (oI z)) (by rfl) hlink rfl (ty := .int) (by decide +kernel) rfl rfl (Nat.le_of_ble_eq_true rfl) hdg kk
theorem g10_place (C : Cx p s m args c own cc nL) (S : St G false τ σ s H locs) {idx : Nat} (hlink : Cond.fieldLink own idx RX10 (TX10 10).2.1 (TX10 10).2.2.1 ∈ GW) (hdg : decode cc pc = .ok (.getfield idx, 3))
    (kk : W p l e R s m args below meth c H locs 0 0 Q (F0 m (pc + 3) ls (.int (oI (σ 41 10)) :: rest))) : W p l e R s m args below meth c H locs 0 0 Q (F0 m pc ls (.ref (G.1 41) :: rest)) :=
  r_get C S 41 10 (by decide) rfl rfl inX10 10 (by decide) (v := .int (oI (σ 41 10))) (rfl) hlink hdg kk
theorem p10_place (C : Cx p s m args c own cc nL) (S : St G false τ σ s H locs) {idx : Nat} (hlink : Cond.fieldLink own idx RX10 (TX10 10).2.1 (TX10 10).2.2.1 ∈ GW) {z : Int} (hdg : decode cc pc = .ok (.putfield idx, 3))
    (kk : ∀ H1 locs1, St G false τ (up σ 41 10 z) s H1 locs1 → W p l e R s m args below meth c H1 locs1 0 0 Q (F0 m (pc + 3) ls rest)) : W p l e R s m args below meth c H locs 0 0 Q (F0 m pc ls (.int (oI z) :: .ref (G.1 41) :: rest)) :=
  r_put C S 41 10 (by decide) rfl rfl rfl inX10 tyX10 tyX10_ok nmX10 10 (by decide) (v := .int (oI z)) (by rfl) hlink rfl (ty := .int) (by decide +kernel) rfl rfl (Nat.le_of_ble_eq_true rfl) hdg kk
theorem g10_sort (C : Cx p s m args c own cc nL) (S : St G false τ σ s H locs) {idx : Nat} (hlink : Cond.fieldLink own idx RX10 (TX10 11).2.1 (TX10 11).2.2.1 ∈ GW) (hdg : decode cc pc = .ok (.getfield idx, 3))
    (kk : W p l e R s m args below meth c H locs 0 0 Q (F0 m (pc + 3) ls (.int (oI (σ 41 11)) :: rest))) : W p l e R s m args below meth c H locs 0 0 Q (F0 m pc ls (.ref (G.1 41) :: rest)) :=
  r_get C S 41 10 (by decide) rfl rfl inX10 11 (by decide) (v := .int (oI (σ 41 11))) (rfl) hlink hdg kk
theorem p10_sort (C : Cx p s m args c own cc nL) (S : St G false τ σ s H locs) {idx : Nat} (hlink : Cond.fieldLink own idx RX10 (TX10 11).2.1 (TX10 11).2.2.1 ∈ GW) {z : Int} (hdg : decode cc pc = .ok (.putfield idx, 3))
    (kk : ∀ H1 locs1, St G false τ (up σ 41 11 z) s H1 locs1 → W p l e R s m args below meth c H1 locs1 0 0 Q (F0 m (pc + 3) ls rest)) : W p l e R s m args below meth c H locs 0 0 Q (F0 m pc ls (.int (oI z) :: .ref (G.1 41) :: rest)) :=
  r_put C S 41 10 (by decide) rfl rfl rfl inX10 tyX10 tyX10_ok nmX10 11 (by decide) (v := .int (oI z)) (by rfl) hlink rfl (ty := .int) (by decide +kernel) rfl rfl (Nat.le_of_ble_eq_true rfl) hdg kk
theorem g10_value (C : Cx p s m args c own cc nL) (S : St G false τ σ s H locs) {idx : Nat} (hlink : Cond.fieldLink own idx RX10 (TX10 12).2.1 (TX10 12).2.2.1 ∈ GW) (hdg : decode cc pc = .ok (.getfield idx, 3))
    (kk : W p l e R s m args below meth c H locs 0 0 Q (F0 m (pc + 3) ls (.int (oI (σ 41 12)) :: rest))) : W p l e R s m args below meth c H locs 0 0 Q (F0 m pc ls (.ref (G.1 41) :: rest)) :=
  r_get C S 41 10 (by decide) rfl rfl inX10 12 (by decide) (v := .int (oI (σ 41 12))) (rfl) hlink hdg kk
theorem p10_value (C : Cx p s m args c own cc nL) (S : St G false τ σ s H locs) {idx : Nat} (hlink : Cond.fieldLink own idx RX10 (TX10 12).2.1 (TX10 12).2.2.1 ∈ GW) {z : Int} (hdg : decode cc pc = .ok (.putfield idx, 3))
    (kk : ∀ H1 locs1, St G false τ (up σ 41 12 z) s H1 locs1 → W p l e R s m args below meth c H1 locs1 0 0 Q (F0 m (pc + 3) ls rest)) : W p l e R s m args below meth c H locs 0 0 Q (F0 m pc ls (.int (oI z) :: .ref (G.1 41) :: rest)) :=
  r_put C S 41 10 (by decide) rfl rfl rfl inX10 tyX10 tyX10_ok nmX10 12 (by decide) (v := .int (oI z)) (by rfl) hlink rfl (ty := .int) (by decide +kernel) rfl rfl (Nat.le_of_ble_eq_true rfl) hdg kk
theorem g10_fault (C : Cx p s m args c own cc nL) (S : St G false τ σ s H locs) {idx : Nat} (hlink : Cond.fieldLink own idx RX10 (TX10 13).2.1 (TX10 13).2.2.1 ∈ GW) (hdg : decode cc pc = .ok (.getfield idx, 3))
    (kk : W p l e R s m args below meth c H locs 0 0 Q (F0 m (pc + 3) ls (.int (oI (σ 41 13)) :: rest))) : W p l e R s m args below meth c H locs 0 0 Q (F0 m pc ls (.ref (G.1 41) :: rest)) :=
  r_get C S 41 10 (by decide) rfl rfl inX10 13 (by decide) (v := .int (oI (σ 41 13))) (rfl) hlink hdg kk
theorem p10_fault (C : Cx p s m args c own cc nL) (S : St G false τ σ s H locs) {idx : Nat} (hlink : Cond.fieldLink own idx RX10 (TX10 13).2.1 (TX10 13).2.2.1 ∈ GW) {z : Int} (hdg : decode cc pc = .ok (.putfield idx, 3))
    (kk : ∀ H1 locs1, St G false τ (up σ 41 13 z) s H1 locs1 → W p l e R s m args below meth c H1 locs1 0 0 Q (F0 m (pc + 3) ls rest)) : W p l e R s m args below meth c H locs 0 0 Q (F0 m pc ls (.int (oI z) :: .ref (G.1 41) :: rest)) :=
  r_put C S 41 10 (by decide) rfl rfl rfl inX10 tyX10 tyX10_ok nmX10 13 (by decide) (v := .int (oI z)) (by rfl) hlink rfl (ty := .int) (by decide +kernel) rfl rfl (Nat.le_of_ble_eq_true rfl) hdg kk
theorem g10_faultPlace (C : Cx p s m args c own cc nL) (S : St G false τ σ s H locs) {idx : Nat} (hlink : Cond.fieldLink own idx RX10 (TX10 14).2.1 (TX10 14).2.2.1 ∈ GW) (hdg : decode cc pc = .ok (.getfield idx, 3))
    (kk : W p l e R s m args below meth c H locs 0 0 Q (F0 m (pc + 3) ls (.int (oI (σ 41 14)) :: rest))) : W p l e R s m args below meth c H locs 0 0 Q (F0 m pc ls (.ref (G.1 41) :: rest)) :=
  r_get C S 41 10 (by decide) rfl rfl inX10 14 (by decide) (v := .int (oI (σ 41 14))) (rfl) hlink hdg kk
theorem p10_faultPlace (C : Cx p s m args c own cc nL) (S : St G false τ σ s H locs) {idx : Nat} (hlink : Cond.fieldLink own idx RX10 (TX10 14).2.1 (TX10 14).2.2.1 ∈ GW) {z : Int} (hdg : decode cc pc = .ok (.putfield idx, 3))
    (kk : ∀ H1 locs1, St G false τ (up σ 41 14 z) s H1 locs1 → W p l e R s m args below meth c H1 locs1 0 0 Q (F0 m (pc + 3) ls rest)) : W p l e R s m args below meth c H locs 0 0 Q (F0 m pc ls (.int (oI z) :: .ref (G.1 41) :: rest)) :=
  r_put C S 41 10 (by decide) rfl rfl rfl inX10 tyX10 tyX10_ok nmX10 14 (by decide) (v := .int (oI z)) (by rfl) hlink rfl (ty := .int) (by decide +kernel) rfl rfl (Nat.le_of_ble_eq_true rfl) hdg kk
theorem g10_lastFault (C : Cx p s m args c own cc nL) (S : St G false τ σ s H locs) {idx : Nat} (hlink : Cond.fieldLink own idx RX10 (TX10 15).2.1 (TX10 15).2.2.1 ∈ GW) (hdg : decode cc pc = .ok (.getfield idx, 3))
    (kk : W p l e R s m args below meth c H locs 0 0 Q (F0 m (pc + 3) ls (.int (oI (σ 41 15)) :: rest))) : W p l e R s m args below meth c H locs 0 0 Q (F0 m pc ls (.ref (G.1 41) :: rest)) :=
  r_get C S 41 10 (by decide) rfl rfl inX10 15 (by decide) (v := .int (oI (σ 41 15))) (rfl) hlink hdg kk
theorem p10_lastFault (C : Cx p s m args c own cc nL) (S : St G false τ σ s H locs) {idx : Nat} (hlink : Cond.fieldLink own idx RX10 (TX10 15).2.1 (TX10 15).2.2.1 ∈ GW) {z : Int} (hdg : decode cc pc = .ok (.putfield idx, 3))
    (kk : ∀ H1 locs1, St G false τ (up σ 41 15 z) s H1 locs1 → W p l e R s m args below meth c H1 locs1 0 0 Q (F0 m (pc + 3) ls rest)) : W p l e R s m args below meth c H locs 0 0 Q (F0 m pc ls (.int (oI z) :: .ref (G.1 41) :: rest)) :=
  r_put C S 41 10 (by decide) rfl rfl rfl inX10 tyX10 tyX10_ok nmX10 15 (by decide) (v := .int (oI z)) (by rfl) hlink rfl (ty := .int) (by decide +kernel) rfl rfl (Nat.le_of_ble_eq_true rfl) hdg kk
theorem g10_lastPlace (C : Cx p s m args c own cc nL) (S : St G false τ σ s H locs) {idx : Nat} (hlink : Cond.fieldLink own idx RX10 (TX10 16).2.1 (TX10 16).2.2.1 ∈ GW) (hdg : decode cc pc = .ok (.getfield idx, 3))
    (kk : W p l e R s m args below meth c H locs 0 0 Q (F0 m (pc + 3) ls (.int (oI (σ 41 16)) :: rest))) : W p l e R s m args below meth c H locs 0 0 Q (F0 m pc ls (.ref (G.1 41) :: rest)) :=
  r_get C S 41 10 (by decide) rfl rfl inX10 16 (by decide) (v := .int (oI (σ 41 16))) (rfl) hlink hdg kk
theorem p10_lastPlace (C : Cx p s m args c own cc nL) (S : St G false τ σ s H locs) {idx : Nat} (hlink : Cond.fieldLink own idx RX10 (TX10 16).2.1 (TX10 16).2.2.1 ∈ GW) {z : Int} (hdg : decode cc pc = .ok (.putfield idx, 3))
    (kk : ∀ H1 locs1, St G false τ (up σ 41 16 z) s H1 locs1 → W p l e R s m args below meth c H1 locs1 0 0 Q (F0 m (pc + 3) ls rest)) : W p l e R s m args below meth c H locs 0 0 Q (F0 m pc ls (.int (oI z) :: .ref (G.1 41) :: rest)) :=
  r_put C S 41 10 (by decide) rfl rfl rfl inX10 tyX10 tyX10_ok nmX10 16 (by decide) (v := .int (oI z)) (by rfl) hlink rfl (ty := .int) (by decide +kernel) rfl rfl (Nat.le_of_ble_eq_true rfl) hdg kk
theorem g10_x (C : Cx p s m args c own cc nL) (S : St G false τ σ s H locs) {idx : Nat} (hlink : Cond.fieldLink own idx RX10 (TX10 17).2.1 (TX10 17).2.2.1 ∈ GW) (hdg : decode cc pc = .ok (.getfield idx, 3))
    (kk : W p l e R s m args below meth c H locs 0 0 Q (F0 m (pc + 3) ls (.ref (G.1 45) :: rest))) : W p l e R s m args below meth c H locs 0 0 Q (F0 m pc ls (.ref (G.1 41) :: rest)) :=
  r_get C S 41 10 (by decide) rfl rfl inX10 17 (by decide) (v := .ref (G.1 45)) (rfl) hlink hdg kk
theorem g10_y (C : Cx p s m args c own cc nL) (S : St G false τ σ s H locs) {idx : Nat} (hlink : Cond.fieldLink own idx RX10 (TX10 18).2.1 (TX10 18).2.2.1 ∈ GW) (hdg : decode cc pc = .ok (.getfield idx, 3))
    (kk : W p l e R s m args below meth c H locs 0 0 Q (F0 m (pc + 3) ls (.ref (G.1 46) :: rest))) : W p l e R s m args below meth c H locs 0 0 Q (F0 m pc ls (.ref (G.1 41) :: rest)) :=
  r_get C S 41 10 (by decide) rfl rfl inX10 18 (by decide) (v := .ref (G.1 46)) (rfl) hlink hdg kk
theorem g10_sum (C : Cx p s m args c own cc nL) (S : St G false τ σ s H locs) {idx : Nat} (hlink : Cond.fieldLink own idx RX10 (TX10 19).2.1 (TX10 19).2.2.1 ∈ GW) (hdg : decode cc pc = .ok (.getfield idx, 3))
    (kk : W p l e R s m args below meth c H locs 0 0 Q (F0 m (pc + 3) ls (.ref (G.1 47) :: rest))) : W p l e R s m args below meth c H locs 0 0 Q (F0 m pc ls (.ref (G.1 41) :: rest)) :=
  r_get C S 41 10 (by decide) rfl rfl inX10 19 (by decide) (v := .ref (G.1 47)) (rfl) hlink hdg kk
theorem g10_peril (C : Cx p s m args c own cc nL) (S : St G false τ σ s H locs) {idx : Nat} (hlink : Cond.fieldLink own idx RX10 (TX10 20).2.1 (TX10 20).2.2.1 ∈ GW) (hdg : decode cc pc = .ok (.getfield idx, 3))
    (kk : W p l e R s m args below meth c H locs 0 0 Q (F0 m (pc + 3) ls (.ref (G.1 48) :: rest))) : W p l e R s m args below meth c H locs 0 0 Q (F0 m pc ls (.ref (G.1 41) :: rest)) :=
  r_get C S 41 10 (by decide) rfl rfl inX10 20 (by decide) (v := .ref (G.1 48)) (rfl) hlink hdg kk
theorem g10_isThere (C : Cx p s m args c own cc nL) (S : St G false τ σ s H locs) {idx : Nat} (hlink : Cond.fieldLink own idx RX10 (TX10 21).2.1 (TX10 21).2.2.1 ∈ GW) (hdg : decode cc pc = .ok (.getfield idx, 3))
    (kk : W p l e R s m args below meth c H locs 0 0 Q (F0 m (pc + 3) ls (.ref (G.1 49) :: rest))) : W p l e R s m args below meth c H locs 0 0 Q (F0 m pc ls (.ref (G.1 41) :: rest)) :=
  r_get C S 41 10 (by decide) rfl rfl inX10 21 (by decide) (v := .ref (G.1 49)) (rfl) hlink hdg kk
theorem g10_perils (C : Cx p s m args c own cc nL) (S : St G false τ σ s H locs) {idx : Nat} (hlink : Cond.fieldLink own idx RX10 (TX10 22).2.1 (TX10 22).2.2.1 ∈ GW) (hdg : decode cc pc = .ok (.getfield idx, 3))
    (kk : W p l e R s m args below meth c H locs 0 0 Q (F0 m (pc + 3) ls (.ref (G.1 50) :: rest))) : W p l e R s m args below meth c H locs 0 0 Q (F0 m pc ls (.ref (G.1 41) :: rest)) :=
  r_get C S 41 10 (by decide) rfl rfl inX10 22 (by decide) (v := .ref (G.1 50)) (rfl) hlink hdg kk
theorem g10_radius (C : Cx p s m args c own cc nL) (S : St G false τ σ s H locs) {idx : Nat} (hlink : Cond.fieldLink own idx RX10 (TX10 23).2.1 (TX10 23).2.2.1 ∈ GW) (hdg : decode cc pc = .ok (.getfield idx, 3))
    (kk : W p l e R s m args below meth c H locs 0 0 Q (F0 m (pc + 3) ls (.ref (G.1 51) :: rest))) : W p l e R s m args below meth c H locs 0 0 Q (F0 m pc ls (.ref (G.1 41) :: rest)) :=
  r_get C S 41 10 (by decide) rfl rfl inX10 23 (by decide) (v := .ref (G.1 51)) (rfl) hlink hdg kk
theorem g10_limit (C : Cx p s m args c own cc nL) (S : St G false τ σ s H locs) {idx : Nat} (hlink : Cond.fieldLink own idx RX10 (TX10 24).2.1 (TX10 24).2.2.1 ∈ GW) (hdg : decode cc pc = .ok (.getfield idx, 3))
    (kk : W p l e R s m args below meth c H locs 0 0 Q (F0 m (pc + 3) ls (.ref (G.1 52) :: rest))) : W p l e R s m args below meth c H locs 0 0 Q (F0 m pc ls (.ref (G.1 41) :: rest)) :=
  r_get C S 41 10 (by decide) rfl rfl inX10 24 (by decide) (v := .ref (G.1 52)) (rfl) hlink hdg kk
theorem g10_alarm (C : Cx p s m args c own cc nL) (S : St G false τ σ s H locs) {idx : Nat} (hlink : Cond.fieldLink own idx RX10 (TX10 25).2.1 (TX10 25).2.2.1 ∈ GW) (hdg : decode cc pc = .ok (.getfield idx, 3))
    (kk : W p l e R s m args below meth c H locs 0 0 Q (F0 m (pc + 3) ls (.ref (G.1 53) :: rest))) : W p l e R s m args below meth c H locs 0 0 Q (F0 m pc ls (.ref (G.1 41) :: rest)) :=
  r_get C S 41 10 (by decide) rfl rfl inX10 25 (by decide) (v := .ref (G.1 53)) (rfl) hlink hdg kk
theorem g10_alarms (C : Cx p s m args c own cc nL) (S : St G false τ σ s H locs) {idx : Nat} (hlink : Cond.fieldLink own idx RX10 (TX10 26).2.1 (TX10 26).2.2.1 ∈ GW) (hdg : decode cc pc = .ok (.getfield idx, 3))
    (kk : W p l e R s m args below meth c H locs 0 0 Q (F0 m (pc + 3) ls (.ref (G.1 54) :: rest))) : W p l e R s m args below meth c H locs 0 0 Q (F0 m pc ls (.ref (G.1 41) :: rest)) :=
  r_get C S 41 10 (by decide) rfl rfl inX10 26 (by decide) (v := .ref (G.1 54)) (rfl) hlink hdg kk
theorem g10_treaties (C : Cx p s m args c own cc nL) (S : St G false τ σ s H locs) {idx : Nat} (hlink : Cond.fieldLink own idx RX10 (TX10 27).2.1 (TX10 27).2.2.1 ∈ GW) (hdg : decode cc pc = .ok (.getfield idx, 3))
    (kk : W p l e R s m args below meth c H locs 0 0 Q (F0 m (pc + 3) ls (.int (oI (σ 41 27)) :: rest))) : W p l e R s m args below meth c H locs 0 0 Q (F0 m pc ls (.ref (G.1 41) :: rest)) :=
  r_get C S 41 10 (by decide) rfl rfl inX10 27 (by decide) (v := .int (oI (σ 41 27))) (rfl) hlink hdg kk
theorem p10_treaties (C : Cx p s m args c own cc nL) (S : St G false τ σ s H locs) {idx : Nat} (hlink : Cond.fieldLink own idx RX10 (TX10 27).2.1 (TX10 27).2.2.1 ∈ GW) {z : Int} (hdg : decode cc pc = .ok (.putfield idx, 3))
    (kk : ∀ H1 locs1, St G false τ (up σ 41 27 z) s H1 locs1 → W p l e R s m args below meth c H1 locs1 0 0 Q (F0 m (pc + 3) ls rest)) : W p l e R s m args below meth c H locs 0 0 Q (F0 m pc ls (.int (oI z) :: .ref (G.1 41) :: rest)) :=
  r_put C S 41 10 (by decide) rfl rfl rfl inX10 tyX10 tyX10_ok nmX10 27 (by decide) (v := .int (oI z)) (by rfl) hlink rfl (ty := .int) (by decide +kernel) rfl rfl (Nat.le_of_ble_eq_true rfl) hdg kk
theorem g10_acts (C : Cx p s m args c own cc nL) (S : St G false τ σ s H locs) {idx : Nat} (hlink : Cond.fieldLink own idx RX10 (TX10 28).2.1 (TX10 28).2.2.1 ∈ GW) (hdg : decode cc pc = .ok (.getfield idx, 3))
    (kk : W p l e R s m args below meth c H locs 0 0 Q (F0 m (pc + 3) ls (.int (oI (σ 41 28)) :: rest))) : W p l e R s m args below meth c H locs 0 0 Q (F0 m pc ls (.ref (G.1 41) :: rest)) :=
  r_get C S 41 10 (by decide) rfl rfl inX10 28 (by decide) (v := .int (oI (σ 41 28))) (rfl) hlink hdg kk
theorem p10_acts (C : Cx p s m args c own cc nL) (S : St G false τ σ s H locs) {idx : Nat} (hlink : Cond.fieldLink own idx RX10 (TX10 28).2.1 (TX10 28).2.2.1 ∈ GW) {z : Int} (hdg : decode cc pc = .ok (.putfield idx, 3))
    (kk : ∀ H1 locs1, St G false τ (up σ 41 28 z) s H1 locs1 → W p l e R s m args below meth c H1 locs1 0 0 Q (F0 m (pc + 3) ls rest)) : W p l e R s m args below meth c H locs 0 0 Q (F0 m pc ls (.int (oI z) :: .ref (G.1 41) :: rest)) :=
  r_put C S 41 10 (by decide) rfl rfl rfl inX10 tyX10 tyX10_ok nmX10 28 (by decide) (v := .int (oI z)) (by rfl) hlink rfl (ty := .int) (by decide +kernel) rfl rfl (Nat.le_of_ble_eq_true rfl) hdg kk
theorem g10_storm (C : Cx p s m args c own cc nL) (S : St G false τ σ s H locs) {idx : Nat} (hlink : Cond.fieldLink own idx RX10 (TX10 29).2.1 (TX10 29).2.2.1 ∈ GW) (hdg : decode cc pc = .ok (.getfield idx, 3))
    (kk : W p l e R s m args below meth c H locs 0 0 Q (F0 m (pc + 3) ls (.ref (G.1 55) :: rest))) : W p l e R s m args below meth c H locs 0 0 Q (F0 m pc ls (.ref (G.1 41) :: rest)) :=
  r_get C S 41 10 (by decide) rfl rfl inX10 29 (by decide) (v := .ref (G.1 55)) (rfl) hlink hdg kk
theorem g10_isStorm (C : Cx p s m args c own cc nL) (S : St G false τ σ s H locs) {idx : Nat} (hlink : Cond.fieldLink own idx RX10 (TX10 30).2.1 (TX10 30).2.2.1 ∈ GW) (hdg : decode cc pc = .ok (.getfield idx, 3))
    (kk : W p l e R s m args below meth c H locs 0 0 Q (F0 m (pc + 3) ls (.int (oI (σ 41 30)) :: rest))) : W p l e R s m args below meth c H locs 0 0 Q (F0 m pc ls (.ref (G.1 41) :: rest)) :=
  r_get C S 41 10 (by decide) rfl rfl inX10 30 (by decide) (v := .int (oI (σ 41 30))) (rfl) hlink hdg kk
theorem p10_isStorm (C : Cx p s m args c own cc nL) (S : St G false τ σ s H locs) {idx : Nat} (hlink : Cond.fieldLink own idx RX10 (TX10 30).2.1 (TX10 30).2.2.1 ∈ GW) {z : Int} (hz : z = 0 ∨ z = 1) (hdg : decode cc pc = .ok (.putfield idx, 3))
    (kk : ∀ H1 locs1, St G false τ (up σ 41 30 z) s H1 locs1 → W p l e R s m args below meth c H1 locs1 0 0 Q (F0 m (pc + 3) ls rest)) : W p l e R s m args below meth c H locs 0 0 Q (F0 m pc ls (.int (oI z) :: .ref (G.1 41) :: rest)) :=
  r_put C S 41 10 (by decide) rfl rfl rfl inX10 tyX10 tyX10_ok nmX10 30 (by decide) (v := .int (oI z)) (by rfl) hlink rfl (ty := .boolean) (by decide +kernel) (by rcases hz with rfl | rfl <;> rfl) (by rcases hz with rfl | rfl <;> rfl) (Nat.le_of_ble_eq_true rfl) hdg kk
theorem g10_alarmLog (C : Cx p s m args c own cc nL) (S : St G false τ σ s H locs) {idx : Nat} (hlink : Cond.fieldLink own idx RX10 (TX10 31).2.1 (TX10 31).2.2.1 ∈ GW) (hdg : decode cc pc = .ok (.getfield idx, 3))
    (kk : W p l e R s m args below meth c H locs 0 0 Q (F0 m (pc + 3) ls (.ref (G.1 56) :: rest))) : W p l e R s m args below meth c H locs 0 0 Q (F0 m pc ls (.ref (G.1 41) :: rest)) :=
  r_get C S 41 10 (by decide) rfl rfl inX10 31 (by decide) (v := .ref (G.1 56)) (rfl) hlink hdg kk
theorem g10_alarmsLogged (C : Cx p s m args c own cc nL) (S : St G false τ σ s H locs) {idx : Nat} (hlink : Cond.fieldLink own idx RX10 (TX10 32).2.1 (TX10 32).2.2.1 ∈ GW) (hdg : decode cc pc = .ok (.getfield idx, 3))
    (kk : W p l e R s m args below meth c H locs 0 0 Q (F0 m (pc + 3) ls (.int (oI (σ 41 32)) :: rest))) : W p l e R s m args below meth c H locs 0 0 Q (F0 m pc ls (.ref (G.1 41) :: rest)) :=
  r_get C S 41 10 (by decide) rfl rfl inX10 32 (by decide) (v := .int (oI (σ 41 32))) (rfl) hlink hdg kk
theorem p10_alarmsLogged (C : Cx p s m args c own cc nL) (S : St G false τ σ s H locs) {idx : Nat} (hlink : Cond.fieldLink own idx RX10 (TX10 32).2.1 (TX10 32).2.2.1 ∈ GW) {z : Int} (hdg : decode cc pc = .ok (.putfield idx, 3))
    (kk : ∀ H1 locs1, St G false τ (up σ 41 32 z) s H1 locs1 → W p l e R s m args below meth c H1 locs1 0 0 Q (F0 m (pc + 3) ls rest)) : W p l e R s m args below meth c H locs 0 0 Q (F0 m pc ls (.int (oI z) :: .ref (G.1 41) :: rest)) :=
  r_put C S 41 10 (by decide) rfl rfl rfl inX10 tyX10 tyX10_ok nmX10 32 (by decide) (v := .int (oI z)) (by rfl) hlink rfl (ty := .int) (by decide +kernel) rfl rfl (Nat.le_of_ble_eq_true rfl) hdg kk
theorem g10_actLog (C : Cx p s m args c own cc nL) (S : St G false τ σ s H locs) {idx : Nat} (hlink : Cond.fieldLink own idx RX10 (TX10 33).2.1 (TX10 33).2.2.1 ∈ GW) (hdg : decode cc pc = .ok (.getfield idx, 3))
    (kk : W p l e R s m args below meth c H locs 0 0 Q (F0 m (pc + 3) ls (.ref (G.1 57) :: rest))) : W p l e R s m args below meth c H locs 0 0 Q (F0 m pc ls (.ref (G.1 41) :: rest)) :=
  r_get C S 41 10 (by decide) rfl rfl inX10 33 (by decide) (v := .ref (G.1 57)) (rfl) hlink hdg kk
theorem g10_actsLogged (C : Cx p s m args c own cc nL) (S : St G false τ σ s H locs) {idx : Nat} (hlink : Cond.fieldLink own idx RX10 (TX10 34).2.1 (TX10 34).2.2.1 ∈ GW) (hdg : decode cc pc = .ok (.getfield idx, 3))
    (kk : W p l e R s m args below meth c H locs 0 0 Q (F0 m (pc + 3) ls (.int (oI (σ 41 34)) :: rest))) : W p l e R s m args below meth c H locs 0 0 Q (F0 m pc ls (.ref (G.1 41) :: rest)) :=
  r_get C S 41 10 (by decide) rfl rfl inX10 34 (by decide) (v := .int (oI (σ 41 34))) (rfl) hlink hdg kk
theorem p10_actsLogged (C : Cx p s m args c own cc nL) (S : St G false τ σ s H locs) {idx : Nat} (hlink : Cond.fieldLink own idx RX10 (TX10 34).2.1 (TX10 34).2.2.1 ∈ GW) {z : Int} (hdg : decode cc pc = .ok (.putfield idx, 3))
    (kk : ∀ H1 locs1, St G false τ (up σ 41 34 z) s H1 locs1 → W p l e R s m args below meth c H1 locs1 0 0 Q (F0 m (pc + 3) ls rest)) : W p l e R s m args below meth c H locs 0 0 Q (F0 m pc ls (.int (oI z) :: .ref (G.1 41) :: rest)) :=
  r_put C S 41 10 (by decide) rfl rfl rfl inX10 tyX10 tyX10_ok nmX10 34 (by decide) (v := .int (oI z)) (by rfl) hlink rfl (ty := .int) (by decide +kernel) rfl rfl (Nat.le_of_ble_eq_true rfl) hdg kk
theorem g10_held (C : Cx p s m args c own cc nL) (S : St G false τ σ s H locs) {idx : Nat} (hlink : Cond.fieldLink own idx RX10 (TX10 35).2.1 (TX10 35).2.2.1 ∈ GW) (hdg : decode cc pc = .ok (.getfield idx, 3))
    (kk : W p l e R s m args below meth c H locs 0 0 Q (F0 m (pc + 3) ls (.int (oI (σ 41 35)) :: rest))) : W p l e R s m args below meth c H locs 0 0 Q (F0 m pc ls (.ref (G.1 41) :: rest)) :=
  r_get C S 41 10 (by decide) rfl rfl inX10 35 (by decide) (v := .int (oI (σ 41 35))) (rfl) hlink hdg kk
theorem p10_held (C : Cx p s m args c own cc nL) (S : St G false τ σ s H locs) {idx : Nat} (hlink : Cond.fieldLink own idx RX10 (TX10 35).2.1 (TX10 35).2.2.1 ∈ GW) {z : Int} (hdg : decode cc pc = .ok (.putfield idx, 3))
    (kk : ∀ H1 locs1, St G false τ (up σ 41 35 z) s H1 locs1 → W p l e R s m args below meth c H1 locs1 0 0 Q (F0 m (pc + 3) ls rest)) : W p l e R s m args below meth c H locs 0 0 Q (F0 m pc ls (.int (oI z) :: .ref (G.1 41) :: rest)) :=
  r_put C S 41 10 (by decide) rfl rfl rfl inX10 tyX10 tyX10_ok nmX10 35 (by decide) (v := .int (oI z)) (by rfl) hlink rfl (ty := .int) (by decide +kernel) rfl rfl (Nat.le_of_ble_eq_true rfl) hdg kk
theorem g10_bestSum (C : Cx p s m args c own cc nL) (S : St G false τ σ s H locs) {idx : Nat} (hlink : Cond.fieldLink own idx RX10 (TX10 36).2.1 (TX10 36).2.2.1 ∈ GW) (hdg : decode cc pc = .ok (.getfield idx, 3))
    (kk : W p l e R s m args below meth c H locs 0 0 Q (F0 m (pc + 3) ls (.int (oI (σ 41 36)) :: rest))) : W p l e R s m args below meth c H locs 0 0 Q (F0 m pc ls (.ref (G.1 41) :: rest)) :=
  r_get C S 41 10 (by decide) rfl rfl inX10 36 (by decide) (v := .int (oI (σ 41 36))) (rfl) hlink hdg kk
theorem p10_bestSum (C : Cx p s m args c own cc nL) (S : St G false τ σ s H locs) {idx : Nat} (hlink : Cond.fieldLink own idx RX10 (TX10 36).2.1 (TX10 36).2.2.1 ∈ GW) {z : Int} (hdg : decode cc pc = .ok (.putfield idx, 3))
    (kk : ∀ H1 locs1, St G false τ (up σ 41 36 z) s H1 locs1 → W p l e R s m args below meth c H1 locs1 0 0 Q (F0 m (pc + 3) ls rest)) : W p l e R s m args below meth c H locs 0 0 Q (F0 m pc ls (.int (oI z) :: .ref (G.1 41) :: rest)) :=
  r_put C S 41 10 (by decide) rfl rfl rfl inX10 tyX10 tyX10_ok nmX10 36 (by decide) (v := .int (oI z)) (by rfl) hlink rfl (ty := .int) (by decide +kernel) rfl rfl (Nat.le_of_ble_eq_true rfl) hdg kk
theorem g10_bestSet (C : Cx p s m args c own cc nL) (S : St G false τ σ s H locs) {idx : Nat} (hlink : Cond.fieldLink own idx RX10 (TX10 37).2.1 (TX10 37).2.2.1 ∈ GW) (hdg : decode cc pc = .ok (.getfield idx, 3))
    (kk : W p l e R s m args below meth c H locs 0 0 Q (F0 m (pc + 3) ls (.int (oI (σ 41 37)) :: rest))) : W p l e R s m args below meth c H locs 0 0 Q (F0 m pc ls (.ref (G.1 41) :: rest)) :=
  r_get C S 41 10 (by decide) rfl rfl inX10 37 (by decide) (v := .int (oI (σ 41 37))) (rfl) hlink hdg kk
theorem p10_bestSet (C : Cx p s m args c own cc nL) (S : St G false τ σ s H locs) {idx : Nat} (hlink : Cond.fieldLink own idx RX10 (TX10 37).2.1 (TX10 37).2.2.1 ∈ GW) {z : Int} (hdg : decode cc pc = .ok (.putfield idx, 3))
    (kk : ∀ H1 locs1, St G false τ (up σ 41 37 z) s H1 locs1 → W p l e R s m args below meth c H1 locs1 0 0 Q (F0 m (pc + 3) ls rest)) : W p l e R s m args below meth c H locs 0 0 Q (F0 m pc ls (.int (oI z) :: .ref (G.1 41) :: rest)) :=
  r_put C S 41 10 (by decide) rfl rfl rfl inX10 tyX10 tyX10_ok nmX10 37 (by decide) (v := .int (oI z)) (by rfl) hlink rfl (ty := .int) (by decide +kernel) rfl rfl (Nat.le_of_ble_eq_true rfl) hdg kk
theorem g10_circle (C : Cx p s m args c own cc nL) (S : St G false τ σ s H locs) {idx : Nat} (hlink : Cond.fieldLink own idx RX10 (TX10 38).2.1 (TX10 38).2.2.1 ∈ GW) (hdg : decode cc pc = .ok (.getfield idx, 3))
    (kk : W p l e R s m args below meth c H locs 0 0 Q (F0 m (pc + 3) ls (.ref (G.1 58) :: rest))) : W p l e R s m args below meth c H locs 0 0 Q (F0 m pc ls (.ref (G.1 41) :: rest)) :=
  r_get C S 41 10 (by decide) rfl rfl inX10 38 (by decide) (v := .ref (G.1 58)) (rfl) hlink hdg kk
theorem g10_disc (C : Cx p s m args c own cc nL) (S : St G false τ σ s H locs) {idx : Nat} (hlink : Cond.fieldLink own idx RX10 (TX10 39).2.1 (TX10 39).2.2.1 ∈ GW) (hdg : decode cc pc = .ok (.getfield idx, 3))
    (kk : W p l e R s m args below meth c H locs 0 0 Q (F0 m (pc + 3) ls (.ref (G.1 59) :: rest))) : W p l e R s m args below meth c H locs 0 0 Q (F0 m pc ls (.ref (G.1 41) :: rest)) :=
  r_get C S 41 10 (by decide) rfl rfl inX10 39 (by decide) (v := .ref (G.1 59)) (rfl) hlink hdg kk
theorem g10_discs (C : Cx p s m args c own cc nL) (S : St G false τ σ s H locs) {idx : Nat} (hlink : Cond.fieldLink own idx RX10 (TX10 40).2.1 (TX10 40).2.2.1 ∈ GW) (hdg : decode cc pc = .ok (.getfield idx, 3))
    (kk : W p l e R s m args below meth c H locs 0 0 Q (F0 m (pc + 3) ls (.int (oI (σ 41 40)) :: rest))) : W p l e R s m args below meth c H locs 0 0 Q (F0 m pc ls (.ref (G.1 41) :: rest)) :=
  r_get C S 41 10 (by decide) rfl rfl inX10 40 (by decide) (v := .int (oI (σ 41 40))) (rfl) hlink hdg kk
theorem p10_discs (C : Cx p s m args c own cc nL) (S : St G false τ σ s H locs) {idx : Nat} (hlink : Cond.fieldLink own idx RX10 (TX10 40).2.1 (TX10 40).2.2.1 ∈ GW) {z : Int} (hdg : decode cc pc = .ok (.putfield idx, 3))
    (kk : ∀ H1 locs1, St G false τ (up σ 41 40 z) s H1 locs1 → W p l e R s m args below meth c H1 locs1 0 0 Q (F0 m (pc + 3) ls rest)) : W p l e R s m args below meth c H locs 0 0 Q (F0 m pc ls (.int (oI z) :: .ref (G.1 41) :: rest)) :=
  r_put C S 41 10 (by decide) rfl rfl rfl inX10 tyX10 tyX10_ok nmX10 40 (by decide) (v := .int (oI z)) (by rfl) hlink rfl (ty := .int) (by decide +kernel) rfl rfl (Nat.le_of_ble_eq_true rfl) hdg kk
theorem g10_drawing (C : Cx p s m args c own cc nL) (S : St G false τ σ s H locs) {idx : Nat} (hlink : Cond.fieldLink own idx RX10 (TX10 41).2.1 (TX10 41).2.2.1 ∈ GW) (hdg : decode cc pc = .ok (.getfield idx, 3))
    (kk : W p l e R s m args below meth c H locs 0 0 Q (F0 m (pc + 3) ls (.long (oL (σ 41 41)) :: rest))) : W p l e R s m args below meth c H locs 0 0 Q (F0 m pc ls (.ref (G.1 41) :: rest)) :=
  r_get C S 41 10 (by decide) rfl rfl inX10 41 (by decide) (v := .long (oL (σ 41 41))) (rfl) hlink hdg kk
theorem p10_drawing (C : Cx p s m args c own cc nL) (S : St G false τ σ s H locs) {idx : Nat} (hlink : Cond.fieldLink own idx RX10 (TX10 41).2.1 (TX10 41).2.2.1 ∈ GW) {z : Int} (hdg : decode cc pc = .ok (.putfield idx, 3))
    (kk : ∀ H1 locs1, St G false τ (up σ 41 41 z) s H1 locs1 → W p l e R s m args below meth c H1 locs1 0 0 Q (F0 m (pc + 3) ls rest)) : W p l e R s m args below meth c H locs 0 0 Q (F0 m pc ls (.long (oL z) :: .ref (G.1 41) :: rest)) :=
  r_put C S 41 10 (by decide) rfl rfl rfl inX10 tyX10 tyX10_ok nmX10 41 (by decide) (v := .long (oL z)) (by rfl) hlink rfl (ty := .long) (by decide +kernel) rfl rfl (Nat.le_of_ble_eq_true rfl) hdg kk
end WR
