/-! ===== combinators of the pure pictures; arrays and receivers by number; ends ===== -/
def FUEL : Nat := 1000000
def wr {α : Type} (σ : Sg) (k j : Nat) (z : Int) (F : Sg → Option α) : Option α := F (up σ k j z)
theorem wr_s {α : Type} {G : Gd} {b : Bool} {τ σ : Sg} {s : State} {H : Heap} {locs : List Loc} {k j : Nat} {z : Int} {F : Sg → Option α} {q : α} (S : St G b τ (up σ k j z) s H locs) (hf : wr σ k j z F = some q) : ∃ σ1, St G b τ σ1 s H locs ∧ F σ1 = some q := ⟨_, S, hf⟩
def nmN {α : Type} (x : Nat) (F : Nat → Option α) : Option α := F x
theorem nm_o {α : Type} {x : Nat} {F : Nat → Option α} {q : α} (hf : nmN x F = some q) : ∃ t, x = t ∧ F t = some q := ⟨_, rfl, hf⟩
def oT {α : Type} (o : Option Nat) (a : Option α) (F : Nat → Option α) : Option α := match o with
  | none => a
  | some t => ck (t < 6) (F t)
theorem oT_n {α : Type} {a : Option α} {F : Nat → Option α} {q : α} (hf : oT none a F = some q) : a = some q := hf
theorem oT_s {α : Type} {t : Nat} {a : Option α} {F : Nat → Option α} {q : α} (hf : oT (some t) a F = some q) : t < 6 ∧ F t = some q := ck_o hf
def rvT (G : Gd) : Option Nat → Value
  | none => .null
  | some t => .ref (G.1 (21 + t))
def mmaxI (x y : Int) : Int := if w32 x < w32 y then y else x
def mminI (x y : Int) : Int := if w32 y < w32 x then y else x
def ArI (b : Bool) (k n : Nat) : Prop := k < NB ∧ decide (k < 41) = b ∧ (∀ (G : Gd) (r : Nat → Int), mkCell G k r = .inl (G.2.2.2 0, n, .inl fun j => oI (r j))) ∧ n < 2147483648
def ArZ (b : Bool) (k n : Nat) : Prop := k < NB ∧ decide (k < 41) = b ∧ (∀ (G : Gd) (r : Nat → Int), mkCell G k r = .inl (G.2.2.2 2, n, .inl fun j => oI (r j))) ∧ n < 2147483648
def ArJ (b : Bool) (k n : Nat) : Prop := k < NB ∧ decide (k < 41) = b ∧ (∀ (G : Gd) (r : Nat → Int), mkCell G k r = .inl (G.2.2.2 1, n, .inr (.inl fun j => oL (r j)))) ∧ n < 2147483648
theorem ar_2 : ArI true 2 900 := ⟨by decide, rfl, fun _ _ => rfl, by decide⟩
theorem ar_4 : ArI true 4 96 := ⟨by decide, rfl, fun _ _ => rfl, by decide⟩
theorem ar_5 : ArI true 5 18 := ⟨by decide, rfl, fun _ _ => rfl, by decide⟩
theorem ar_7 : ArI true 7 24 := ⟨by decide, rfl, fun _ _ => rfl, by decide⟩
theorem ar_8 : ArI true 8 24 := ⟨by decide, rfl, fun _ _ => rfl, by decide⟩
theorem ar_9 : ArI true 9 24 := ⟨by decide, rfl, fun _ _ => rfl, by decide⟩
theorem ar_10 : ArI true 10 24 := ⟨by decide, rfl, fun _ _ => rfl, by decide⟩
theorem ar_11 : ArI true 11 768 := ⟨by decide, rfl, fun _ _ => rfl, by decide⟩
theorem ar0_14 : ArI true 14 90 := ⟨by decide, rfl, fun _ _ => rfl, by decide⟩
theorem ar_16 : ArI true 16 90 := ⟨by decide, rfl, fun _ _ => rfl, by decide⟩
theorem ar_19 : ArI true 19 576 := ⟨by decide, rfl, fun _ _ => rfl, by decide⟩
theorem ar0_34 : ArI true 34 576 := ⟨by decide, rfl, fun _ _ => rfl, by decide⟩
theorem ar_35 : ArI true 35 576 := ⟨by decide, rfl, fun _ _ => rfl, by decide⟩
theorem ar_36 : ArI true 36 576 := ⟨by decide, rfl, fun _ _ => rfl, by decide⟩
theorem ar_37 : ArI true 37 576 := ⟨by decide, rfl, fun _ _ => rfl, by decide⟩
theorem ar_38 : ArI true 38 576 := ⟨by decide, rfl, fun _ _ => rfl, by decide⟩
theorem ar_39 : ArI true 39 576 := ⟨by decide, rfl, fun _ _ => rfl, by decide⟩
theorem ar_40 : ArI true 40 576 := ⟨by decide, rfl, fun _ _ => rfl, by decide⟩
theorem ar_42 : ArI false 42 900 := ⟨by decide, rfl, fun _ _ => rfl, by decide⟩
theorem ar_43 : ArI false 43 96 := ⟨by decide, rfl, fun _ _ => rfl, by decide⟩
theorem ar_44 : ArI false 44 18 := ⟨by decide, rfl, fun _ _ => rfl, by decide⟩
theorem ar_45 : ArI false 45 25 := ⟨by decide, rfl, fun _ _ => rfl, by decide⟩
theorem ar_46 : ArI false 46 25 := ⟨by decide, rfl, fun _ _ => rfl, by decide⟩
theorem ar_47 : ArI false 47 25 := ⟨by decide, rfl, fun _ _ => rfl, by decide⟩
theorem ar_48 : ArI false 48 25 := ⟨by decide, rfl, fun _ _ => rfl, by decide⟩
theorem ar_49 : ArZ false 49 25 := ⟨by decide, rfl, fun _ _ => rfl, by decide⟩
theorem ar_50 : ArI false 50 6 := ⟨by decide, rfl, fun _ _ => rfl, by decide⟩
theorem ar_51 : ArI false 51 6 := ⟨by decide, rfl, fun _ _ => rfl, by decide⟩
theorem ar_52 : ArI false 52 6 := ⟨by decide, rfl, fun _ _ => rfl, by decide⟩
theorem ar_53 : ArI false 53 6 := ⟨by decide, rfl, fun _ _ => rfl, by decide⟩
theorem ar_54 : ArI false 54 6 := ⟨by decide, rfl, fun _ _ => rfl, by decide⟩
theorem ar_55 : ArI false 55 6 := ⟨by decide, rfl, fun _ _ => rfl, by decide⟩
theorem ar_56 : ArI false 56 90 := ⟨by decide, rfl, fun _ _ => rfl, by decide⟩
theorem ar_57 : ArI false 57 90 := ⟨by decide, rfl, fun _ _ => rfl, by decide⟩
theorem ar_58 : ArJ false 58 5 := ⟨by decide, rfl, fun _ _ => rfl, by decide⟩
theorem ar_59 : ArI false 59 600 := ⟨by decide, rfl, fun _ _ => rfl, by decide⟩
theorem ar_60 : ArJ false 60 1 := ⟨by decide, rfl, fun _ _ => rfl, by decide⟩
theorem ar_34 {d : Nat} (hd : d < 7) : ArI true (34 + d) 576 := by
  rcases (show d = 0 ∨ d = 1 ∨ d = 2 ∨ d = 3 ∨ d = 4 ∨ d = 5 ∨ d = 6 by omega) with rfl | rfl | rfl | rfl | rfl | rfl | rfl <;> exact ⟨by decide, rfl, fun _ _ => rfl, by decide⟩
theorem ar_14 {d : Nat} (hd : d < 2) : ArI true (14 + 2 * d) 90 := by
  rcases (show d = 0 ∨ d = 1 by omega) with rfl | rfl <;> exact ⟨by decide, rfl, fun _ _ => rfl, by decide⟩
section RX
variable {p : Program} {l : Launch} {e : Env} {R : Room} {s : State} {m : MethodId} {args : Array Value} {below : List Frame} {meth : Method} {c : Code} {H : Heap} {locs : List Loc} {Q : State → Prop} {pc : Nat} {ls : Array Slot} {rest : List Value} {own : String} {cc : ByteArray} {nL : Nat} {G : Gd} {b : Bool} {τ σ : Sg} {k n : Nat}
theorem a_iald (C : Cx p s m args c own cc nL) (S : St G b τ σ s H locs) (h : ArI b k n) {i : Int} (hi : 0 ≤ i ∧ i < (n : Int)) (hdg : decode cc pc = .ok (.iaload, 1)) (kk : W p l e R s m args below meth c H locs 0 0 Q (F0 m (pc + 1) ls (.int (oI (σ k i.toNat)) :: rest))) : W p l e R s m args below meth c H locs 0 0 Q (F0 m pc ls (.int (oI i) :: .ref (G.1 k) :: rest)) :=
  r_iald C S k n h.1 h.2.1 (h.2.2.1 G) h.2.2.2 hi hdg kk
theorem a_zald (C : Cx p s m args c own cc nL) (S : St G b τ σ s H locs) (h : ArZ b k n) {i : Int} (hi : 0 ≤ i ∧ i < (n : Int)) (hdg : decode cc pc = .ok (.baload, 1)) (kk : W p l e R s m args below meth c H locs 0 0 Q (F0 m (pc + 1) ls (.int (oI (σ k i.toNat)) :: rest))) : W p l e R s m args below meth c H locs 0 0 Q (F0 m pc ls (.int (oI i) :: .ref (G.1 k) :: rest)) :=
  r_zald C S k n h.1 h.2.1 (h.2.2.1 G) h.2.2.2 hi hdg kk
theorem a_lald (C : Cx p s m args c own cc nL) (S : St G b τ σ s H locs) (h : ArJ b k n) {i : Int} (hi : 0 ≤ i ∧ i < (n : Int)) (hdg : decode cc pc = .ok (.laload, 1)) (kk : W p l e R s m args below meth c H locs 0 0 Q (F0 m (pc + 1) ls (.long (oL (σ k i.toNat)) :: rest))) : W p l e R s m args below meth c H locs 0 0 Q (F0 m pc ls (.int (oI i) :: .ref (G.1 k) :: rest)) :=
  r_lald C S k n h.1 h.2.1 (h.2.2.1 G) h.2.2.2 hi hdg kk
theorem a_iast (C : Cx p s m args c own cc nL) (S : St G b τ σ s H locs) (h : ArI b k n) {i z : Int} (hi : 0 ≤ i ∧ i < (n : Int)) (hdg : decode cc pc = .ok (.iastore, 1)) (kk : ∀ H1 locs1, St G b τ (up σ k i.toNat z) s H1 locs1 → W p l e R s m args below meth c H1 locs1 0 0 Q (F0 m (pc + 1) ls (rest))) : W p l e R s m args below meth c H locs 0 0 Q (F0 m pc ls (.int (oI z) :: .int (oI i) :: .ref (G.1 k) :: rest)) :=
  r_iast C S k n h.1 h.2.1 (h.2.2.1 G) h.2.2.2 hi hdg kk
theorem a_zast (C : Cx p s m args c own cc nL) (S : St G b τ σ s H locs) (h : ArZ b k n) {i z : Int} (hi : 0 ≤ i ∧ i < (n : Int)) (hz : z = 0 ∨ z = 1) (hdg : decode cc pc = .ok (.bastore, 1)) (kk : ∀ H1 locs1, St G b τ (up σ k i.toNat z) s H1 locs1 → W p l e R s m args below meth c H1 locs1 0 0 Q (F0 m (pc + 1) ls (rest))) : W p l e R s m args below meth c H locs 0 0 Q (F0 m pc ls (.int (oI z) :: .int (oI i) :: .ref (G.1 k) :: rest)) :=
  r_zast C S k n h.1 h.2.1 (h.2.2.1 G) h.2.2.2 hi hz hdg kk
theorem a_last (C : Cx p s m args c own cc nL) (S : St G b τ σ s H locs) (h : ArJ b k n) {i z : Int} (hi : 0 ≤ i ∧ i < (n : Int)) (hdg : decode cc pc = .ok (.lastore, 1)) (kk : ∀ H1 locs1, St G b τ (up σ k i.toNat z) s H1 locs1 → W p l e R s m args below meth c H1 locs1 0 0 Q (F0 m (pc + 1) ls (rest))) : W p l e R s m args below meth c H locs 0 0 Q (F0 m pc ls (.long (oL z) :: .int (oI i) :: .ref (G.1 k) :: rest)) :=
  r_last C S k n h.1 h.2.1 (h.2.2.1 G) h.2.2.2 hi hdg kk
theorem a_alen (C : Cx p s m args c own cc nL) (S : St G b τ σ s H locs) (h : ArI b k n) (hdg : decode cc pc = .ok (.arraylength, 1)) (kk : W p l e R s m args below meth c H locs 0 0 Q (F0 m (pc + 1) ls (.int (oI (n : Int)) :: rest))) : W p l e R s m args below meth c H locs 0 0 Q (F0 m pc ls (.ref (G.1 k) :: rest)) :=
  r_alen C S k (t0 := 0) h.1 (h.2.2.1 G _) rfl hdg kk
theorem rvX0 (S : St G true τ σ s H locs) : ∃ cell : Cell, H[G.1 6]? = some cell ∧ cell.vm.isStatics = false ∧ s.vm.findClass RX0 = some cell.cls := r_recv S 6 0 (by decide) rfl rfl
theorem rvX1 (S : St G true τ σ s H locs) : ∃ cell : Cell, H[G.1 20]? = some cell ∧ cell.vm.isStatics = false ∧ s.vm.findClass RX1 = some cell.cls := r_recv S 20 1 (by decide) rfl rfl
theorem rvX2 (S : St G true τ σ s H locs) {d : Nat} (hd : d < 7) : ∃ cell : Cell, H[G.1 (27 + d)]? = some cell ∧ cell.vm.isStatics = false ∧ s.vm.findClass RX2 = some cell.cls := r_recv S (27 + d) 2 (by show _ < 61; omega) (mkC2 G hd _) rfl
theorem rvX3 (S : St G true τ σ s H locs) : ∃ cell : Cell, H[G.1 18]? = some cell ∧ cell.vm.isStatics = false ∧ s.vm.findClass RX3 = some cell.cls := r_recv S 18 3 (by decide) rfl rfl
theorem rvX4 (S : St G true τ σ s H locs) : ∃ cell : Cell, H[G.1 3]? = some cell ∧ cell.vm.isStatics = false ∧ s.vm.findClass RX4 = some cell.cls := r_recv S 3 4 (by decide) rfl rfl
theorem rvX5 (S : St G true τ σ s H locs) {d : Nat} (hd : d < 2) : ∃ cell : Cell, H[G.1 (13 + 2 * d)]? = some cell ∧ cell.vm.isStatics = false ∧ s.vm.findClass RX5 = some cell.cls := r_recv S (13 + 2 * d) 5 (by show _ < 61; omega) (mkC5 G hd _) rfl
theorem rvX6 (S : St G true τ σ s H locs) : ∃ cell : Cell, H[G.1 1]? = some cell ∧ cell.vm.isStatics = false ∧ s.vm.findClass RX6 = some cell.cls := r_recv S 1 6 (by decide) rfl rfl
theorem rvX7 (S : St G true τ σ s H locs) : ∃ cell : Cell, H[G.1 17]? = some cell ∧ cell.vm.isStatics = false ∧ s.vm.findClass RX7 = some cell.cls := r_recv S 17 7 (by decide) rfl rfl
theorem rvX8 (S : St G true τ σ s H locs) {d : Nat} (hd : d < 6) : ∃ cell : Cell, H[G.1 (21 + d)]? = some cell ∧ cell.vm.isStatics = false ∧ s.vm.findClass RX8 = some cell.cls := r_recv S (21 + d) 8 (by show _ < 61; omega) (mkC8 G hd _) rfl
theorem rvX9 (S : St G true τ σ s H locs) : ∃ cell : Cell, H[G.1 0]? = some cell ∧ cell.vm.isStatics = false ∧ s.vm.findClass RX9 = some cell.cls := r_recv S 0 9 (by decide) rfl rfl
theorem rvX10 (S : St G false τ σ s H locs) : ∃ cell : Cell, H[G.1 41]? = some cell ∧ cell.vm.isStatics = false ∧ s.vm.findClass RX10 = some cell.cls := r_recv S 41 10 (by decide) rfl rfl
theorem r_tabIn (C : Cx p s m args c own cc nL) {dflt lo hi : Int} {offs : Array Int} {len : Nat} {x v : Int} {off : Int} {tgt : Nat} (hdg : decode cc pc = .ok (.tableswitch dflt lo hi offs, len)) (hx : w32 x = v) (h1 : ¬ v < lo) (h2 : ¬ hi < v) (ho : offs[(v - lo).toNat]? = some off) (ht : (pc : Int) + off = (tgt : Int)) (k : W p l e R s m args below meth c H locs 0 0 Q (F0 m tgt ls (rest))) : W p l e R s m args below meth c H locs 0 0 Q (F0 m pc ls (.int (oI x) :: rest)) := by
  have e : (oI x).toInt = v := hx
  exact lv_tableIn C.1 C.2.1 hdg (by rw [e]; exact h1) (by rw [e]; exact h2) (by rw [e]; exact ho) ht k
theorem r_tabOut (C : Cx p s m args c own cc nL) {dflt lo hi : Int} {offs : Array Int} {len : Nat} {x : Int} {tgt : Nat} (hdg : decode cc pc = .ok (.tableswitch dflt lo hi offs, len)) (h : w32 x < lo ∨ hi < w32 x) (ht : (pc : Int) + dflt = (tgt : Int)) (k : W p l e R s m args below meth c H locs 0 0 Q (F0 m tgt ls (rest))) : W p l e R s m args below meth c H locs 0 0 Q (F0 m pc ls (.int (oI x) :: rest)) :=
  lv_tableOut C.1 C.2.1 hdg h ht k
theorem mmax_e (x y : Int) : (if oI x < oI y then oI y else oI x) = oI (mmaxI x y) := by
  unfold mmaxI
  simp only [oI_lt]
  split <;> rfl
theorem r_mmax (C : Cx p s m args c own cc nL) (hls : ls.size = nL) {idx : Nat} {x y : Int} (hlink : Cond.methodLink own idx Lib.Math.max.name ∈ GW) (hfr : 1 ≤ R.frames) (hlo : (rest.map fun v => v.category).sum + 13 ≤ R.locals) (hdg : decode cc pc = .ok (.invokestatic idx, 3)) (kk : W p l e R s m args below meth c H locs 0 0 Q (F0 m (pc + 3) ls (.int (oI (mmaxI x y)) :: rest))) : W p l e R s m args below meth c H locs 0 0 Q (F0 m pc ls (.int (oI y) :: .int (oI x) :: rest)) :=
  va_mmax C.1 C.2.1 (C.2.2.1.trans hls.symm) C.2.2.2.1 (C.2.2.2.2 _ hlink) (C.2.2.2.2 _ w_mmax_s) (C.2.2.2.2 _ w_math_i) (C.2.2.2.2 _ w_mmax_c) hfr hlo (Nat.zero_le _) (Nat.zero_le _) hdg (by rw [mmax_e]; exact kk)
theorem mmin_e (x y : Int) : (if oI y < oI x then oI y else oI x) = oI (mminI x y) := by
  unfold mminI
  simp only [oI_lt]
  split <;> rfl
theorem r_mmin (C : Cx p s m args c own cc nL) (hls : ls.size = nL) {idx : Nat} {x y : Int} (hlink : Cond.methodLink own idx Lib.Math.min.name ∈ GW) (hfr : 1 ≤ R.frames) (hlo : (rest.map fun v => v.category).sum + 13 ≤ R.locals) (hdg : decode cc pc = .ok (.invokestatic idx, 3)) (kk : W p l e R s m args below meth c H locs 0 0 Q (F0 m (pc + 3) ls (.int (oI (mminI x y)) :: rest))) : W p l e R s m args below meth c H locs 0 0 Q (F0 m pc ls (.int (oI y) :: .int (oI x) :: rest)) :=
  va_mmin C.1 C.2.1 (C.2.2.1.trans hls.symm) C.2.2.2.1 (C.2.2.2.2 _ hlink) (C.2.2.2.2 _ w_mmin_s) (C.2.2.2.2 _ w_math_i) (C.2.2.2.2 _ w_mmin_c) hfr hlo (Nat.zero_le _) (Nat.zero_le _) hdg (by rw [mmin_e]; exact kk)
def zChr (i k : Nat) : Int := ((zByt.getD i []).getD k 0).toInt
theorem z_gets (C : Cx p s m args c own cc nL) (S : St G b τ σ s H locs) {i0 : Nat} (hi : i0 < 4) {idx : Nat} (hl : Cond.fieldLink own idx "RiskDesk$Reader" (zTabs i0).1 "[I" ∈ GW) (hdg : decode cc pc = .ok (.getstatic idx, 3)) (kk : W p l e R s m args below meth c H locs 0 0 Q (F0 m (pc + 3) ls (.ref (G.1 (70 + i0)) :: rest))) : W p l e R s m args below meth c H locs 0 0 Q (F0 m pc ls (rest)) :=
  va_gets C.1 C.2.1 (S.2.2.1.1 i0 hi).1 S.2.1 C.2.2.2.1 (C.2.2.2.2 _ hl) (fun _ h => h) hdg kk
theorem z_iald (C : Cx p s m args c own cc nL) (S : St G b τ σ s H locs) {i0 : Nat} (h0 : i0 < 4) {i : Int} (hi : 0 ≤ i ∧ i < ((zTabs i0).2.1 : Int)) (hdg : decode cc pc = .ok (.iaload, 1)) (kk : W p l e R s m args below meth c H locs 0 0 Q (F0 m (pc + 1) ls (.int (oI ((zTabs i0).2.2 i.toNat)) :: rest))) : W p l e R s m args below meth c H locs 0 0 Q (F0 m pc ls (.int (oI i) :: .ref (G.1 (70 + i0)) :: rest)) := by
  have hn : (zTabs i0).2.1 < 2147483648 := by rcases (show i0 = 0 ∨ i0 = 1 ∨ i0 = 2 ∨ i0 = 3 by omega) with rfl | rfl | rfl | rfl <;> decide
  obtain ⟨h1, h2⟩ := ix_ok hn hi
  exact va_ti C.1 C.2.1 (S.2.2.1.1 i0 h0).2 S.2.1 h1 (by rw [h2]) hdg kk
theorem z_alen (C : Cx p s m args c own cc nL) (S : St G b τ σ s H locs) {i0 : Nat} (h0 : i0 < 4) (hdg : decode cc pc = .ok (.arraylength, 1)) (kk : W p l e R s m args below meth c H locs 0 0 Q (F0 m (pc + 1) ls (.int (oI ((zTabs i0).2.1 : Int)) :: rest))) : W p l e R s m args below meth c H locs 0 0 Q (F0 m pc ls (.ref (G.1 (70 + i0)) :: rest)) :=
  va_tlen C.1 C.2.1 (S.2.2.1.1 i0 h0).2 S.2.1 (oI_nat _).symm hdg kk
theorem z_cmp (C : Cx p s m args c own cc nL) (S : St G b τ σ s H locs) {idx : Nat} (hl : Cond.fieldLink own idx "java/lang/String" "COMPACT_STRINGS" "Z" ∈ GW) (hdg : decode cc pc = .ok (.getstatic idx, 3)) (kk : W p l e R s m args below meth c H locs 0 0 Q (F0 m (pc + 3) ls (.int (oI 1) :: rest))) : W p l e R s m args below meth c H locs 0 0 Q (F0 m pc ls (rest)) :=
  va_gets C.1 C.2.1 S.2.2.1.2.2.1 S.2.1 C.2.2.2.1 (C.2.2.2.2 _ hl) (fun _ h => h) hdg kk
theorem z_fmt (S : St G b τ σ s H locs) : va_Z "jdk/internal/util/Preconditions" "SIOOBE_FORMATTER" "Ljava/util/function/BiFunction;" .null (AG G) s s.heap ∨ ∃ a0 : Nat, va_Z "jdk/internal/util/Preconditions" "SIOOBE_FORMATTER" "Ljava/util/function/BiFunction;" (.ref a0) (AG G) s s.heap := S.2.2.1.2.2.2
theorem z_getsV (C : Cx p s m args c own cc nL) (S : St G b τ σ s H locs) {v : Value} {Cn n d : String} (hq : va_Z Cn n d v (AG G) s s.heap) {idx : Nat} (hl : Cond.fieldLink own idx Cn n d ∈ GW) (hdg : decode cc pc = .ok (.getstatic idx, 3)) (kk : W p l e R s m args below meth c H locs 0 0 Q (F0 m (pc + 3) ls (v :: rest))) : W p l e R s m args below meth c H locs 0 0 Q (F0 m pc ls (rest)) :=
  va_gets C.1 C.2.1 hq S.2.1 C.2.2.2.1 (C.2.2.2.2 _ hl) (fun _ h => h) hdg kk
theorem s_ldc (C : Cx p s m args c own cc nL) (S : St G b τ σ s H locs) {i0 : Nat} (h0 : i0 < 3) (ho : own = (strR i0).1) (hdg : decode cc pc = .ok (.ldc (strR i0).2.1, 2)) (kk : W p l e R s m args below meth c H locs 0 0 Q (F0 m (pc + 2) ls (.ref (G.1 (80 + i0)) :: rest))) : W p l e R s m args below meth c H locs 0 0 Q (F0 m pc ls (rest)) := by
  subst ho
  exact va_ldcS C.1 C.2.1 C.2.2.2.1 (S.2.2.2.2.2 i0 h0) hdg kk
theorem s_val (C : Cx p s m args c own cc nL) (S : St G b τ σ s H locs) {i0 : Nat} (h0 : i0 < 3) {idx : Nat} (hl : Cond.fieldLink own idx "java/lang/String" "value" "[B" ∈ GW) (hdg : decode cc pc = .ok (.getfield idx, 3)) (kk : W p l e R s m args below meth c H locs 0 0 Q (F0 m (pc + 3) ls (.ref (G.1 (90 + i0)) :: rest))) : W p l e R s m args below meth c H locs 0 0 Q (F0 m pc ls (.ref (G.1 (80 + i0)) :: rest)) :=
  vk_getf C.1 C.2.1 (S.2.2.1.2.1.1 i0 h0).2.2.1 S.2.1 C.2.2.2.1 (C.2.2.2.2 _ hl) (fun _ h => h) hdg kk
theorem s_cod (C : Cx p s m args c own cc nL) (S : St G b τ σ s H locs) {i0 : Nat} (h0 : i0 < 3) {idx : Nat} (hl : Cond.fieldLink own idx "java/lang/String" "coder" "B" ∈ GW) (hdg : decode cc pc = .ok (.getfield idx, 3)) (kk : W p l e R s m args below meth c H locs 0 0 Q (F0 m (pc + 3) ls (.int (oI 0) :: rest))) : W p l e R s m args below meth c H locs 0 0 Q (F0 m pc ls (.ref (G.1 (80 + i0)) :: rest)) :=
  vk_getf C.1 C.2.1 (S.2.2.1.2.1.1 i0 h0).2.1 S.2.1 C.2.2.2.1 (C.2.2.2.2 _ hl) (fun _ h => h) hdg kk
theorem y_alen (C : Cx p s m args c own cc nL) (S : St G b τ σ s H locs) {i0 : Nat} (h0 : i0 < 3) (hdg : decode cc pc = .ok (.arraylength, 1)) (kk : W p l e R s m args below meth c H locs 0 0 Q (F0 m (pc + 1) ls (.int (oI ((zLen.getD i0 0 : Nat) : Int)) :: rest))) : W p l e R s m args below meth c H locs 0 0 Q (F0 m pc ls (.ref (G.1 (90 + i0)) :: rest)) :=
  va_tlen C.1 C.2.1 (S.2.2.1.2.1.1 i0 h0).2.2.2 S.2.1 (oI_nat _).symm hdg kk
theorem y_bald (C : Cx p s m args c own cc nL) (S : St G b τ σ s H locs) {i0 : Nat} (h0 : i0 < 3) {i : Int} (hi : 0 ≤ i ∧ i < ((zLen.getD i0 0 : Nat) : Int)) (hdg : decode cc pc = .ok (.baload, 1)) (kk : W p l e R s m args below meth c H locs 0 0 Q (F0 m (pc + 1) ls (.int (oI (zChr i0 i.toNat)) :: rest))) : W p l e R s m args below meth c H locs 0 0 Q (F0 m pc ls (.int (oI i) :: .ref (G.1 (90 + i0)) :: rest)) := by
  have hn : zLen.getD i0 0 < 2147483648 := by rcases (show i0 = 0 ∨ i0 = 1 ∨ i0 = 2 by omega) with rfl | rfl | rfl <;> decide
  obtain ⟨h1, h2⟩ := ix_ok hn hi
  exact va_tb C.1 C.2.1 (S.2.2.1.2.1.1 i0 h0).2.2.2 S.2.1 h1 (by rw [h2]; exact congrArg Value.int (Int32.ofInt_toInt _).symm) hdg kk
theorem rvS (S : St G b τ σ s H locs) {i0 : Nat} (h0 : i0 < 3) : ∃ cell : Cell, H[G.1 (80 + i0)]? = some cell ∧ cell.vm.isStatics = false ∧ s.vm.findClass RJ0 = some cell.cls := by
  have h := vk_recv (i := i0) S.2.2.1.2.1 h0 S.2.1
  exact h
theorem r_i2c (C : Cx p s m args c own cc nL) {x : Int} {x1 : Nat} (hx : u32 x = x1) (hdg : decode cc pc = .ok (.i2c, 1)) (k : W p l e R s m args below meth c H locs 0 0 Q (F0 m (pc + 1) ls (.int (oI ((x1 % 65536 : Nat) : Int)) :: rest))) : W p l e R s m args below meth c H locs 0 0 Q (F0 m pc ls (.int (oI x) :: rest)) :=
  lv_i2c C.1 C.2.1 hdg (by rw [pk_char]; show Int32.ofNat (u32 x % 65536) = _; rw [hx]; exact (oI_nat _).symm) k
theorem met_ofF {l : Launch} {y : MethodName} {ws ws' : List Cond} {rm : Room} {Pc : Array Value → State → Prop} {Qc : Array Value → State → Outcome → State → Prop} {mc ms : Nat} {free : Addr → Prop} {cc : ByteArray} {maxL : Nat} {ret : Option FieldType}
    (hy : plainFor y = true) (hw : ws = Cond.code y cc maxL ret :: ws')
    (body : ∀ p e s m args below meth c s₁, BodyLoose p l y (headSpec ws rm) cc maxL ret e s m args below meth c s₁ → c.maxLocals = maxL → Pc args s →
      W p l e (headSpec ws rm).room s m args below meth c s.heap [] 0 0 (MQ below Qc args s mc ms free) (entryFrame m args maxL)) : Met l y ws rm Pc Qc mc ms free := by
  refine MetFree.of_bodySF (code := cc) (maxLocals := maxL) (ret := ret) hy ?_ ?_
  · intro args s m h hn
    obtain ⟨meth, c, h1, h2, h3, h4, h5, h6, -, -⟩ := Cond.code_spec hn (atoms_spec (ws := ws) h _ (by rw [hw]; exact List.mem_cons_self))
    exact ⟨meth, c, h1, h2, h3, h4, h5, h6⟩
  · intro p e s m args below meth c s₁ B hml hP _
    have hh0 : s₁.heap = s.heap := by rw [B.state]; rfl
    obtain ⟨t, a1, o, b1, b2, b3⟩ := body p e s m args below meth c s₁ B hml hP s₁ hh0 (Stand.of_body B)
    exact ⟨t, o, a1, b1, b2, ⟨b3.1, b3.2⟩⟩
theorem CtrI.of {l : Launch} {y : MethodName} {cc : ByteArray} {nL : Nat} {rm : Room} {G : Gd} {b : Bool} {τ : Sg} {av : List Value} {σ σ' : Sg} {v : Int32} (own : String) (hy : plainFor y = true) (hlen : (lg_sl av).length ≤ nL) (hown : y.cls = own)
    (body : ∀ (p : Program) (e : Env) (s : State) (m : MethodId) (below : List Frame) (meth : Method) (c : Code) (Q : State → Prop) (ls : Array Slot), Cx p s m av.toArray c own cc nL → lv_has ls nL (lv_args 0 av) → St G b τ σ s s.heap [] → (EndR p l e rm s m av.toArray below meth c Q G b τ cc .ireturn [.int v] σ') → W p l e rm s m av.toArray below meth c s.heap [] 0 0 Q (F0 m 0 ls [])) : Ctr l y cc nL (some .int) rm G b τ av σ σ' (some (.int v)) := by
  refine met_ofF (cc := cc) (maxL := nL) (ret := (some .int)) hy rfl ?_
  intro p e s m args below meth c s₁ B hml hv
  obtain ⟨rfl, hW0, hZ0⟩ := hv
  have hts := atoms_spec (ws := Cond.code y cc nL (some .int) :: GW) B.pre
  rw [lg_entry_eq]
  refine body p e s m below meth c _ _ ⟨B.exec, B.bytes, hml, ?_, fun w hw => hts w (List.mem_cons_of_mem _ hw)⟩ (lv_entry av hlen) ⟨hW0, va_S.rf, hZ0⟩ (fun H locs pc ls S hdg => W.iret B.exec B.bytes B.returns (fun t ht hW => ⟨rfl, by rw [ht]; exact S.1.moved hW.alike, S.2.1.F ht⟩) S.2.1.2.2 hdg)
  rw [← hown]
  exact findClass_of_methodNamed B.named
theorem CtrZ.of {l : Launch} {y : MethodName} {cc : ByteArray} {nL : Nat} {rm : Room} {G : Gd} {b : Bool} {τ : Sg} {av : List Value} {σ σ' : Sg} {v : Int} (own : String) (hy : plainFor y = true) (hlen : (lg_sl av).length ≤ nL) (hown : y.cls = own)
    (body : ∀ (p : Program) (e : Env) (s : State) (m : MethodId) (below : List Frame) (meth : Method) (c : Code) (Q : State → Prop) (ls : Array Slot), Cx p s m av.toArray c own cc nL → lv_has ls nL (lv_args 0 av) → St G b τ σ s s.heap [] → ((v = 0 ∨ v = 1) → EndR p l e rm s m av.toArray below meth c Q G b τ cc .ireturn [.int (oI v)] σ') → W p l e rm s m av.toArray below meth c s.heap [] 0 0 Q (F0 m 0 ls [])) : Ctr l y cc nL (some .boolean) rm G b τ av σ σ' (some (.int (oI v))) := by
  refine met_ofF (cc := cc) (maxL := nL) (ret := (some .boolean)) hy rfl ?_
  intro p e s m args below meth c s₁ B hml hv
  obtain ⟨rfl, hW0, hZ0⟩ := hv
  have hts := atoms_spec (ws := Cond.code y cc nL (some .boolean) :: GW) B.pre
  rw [lg_entry_eq]
  refine body p e s m below meth c _ _ ⟨B.exec, B.bytes, hml, ?_, fun w hw => hts w (List.mem_cons_of_mem _ hw)⟩ (lv_entry av hlen) ⟨hW0, va_S.rf, hZ0⟩ (fun hz H locs pc ls S hdg => W.zret B.exec B.bytes B.returns (by rcases hz with rfl | rfl <;> rfl) (fun t ht hW => ⟨rfl, by rw [ht]; exact S.1.moved hW.alike, S.2.1.F ht⟩) S.2.1.2.2 hdg)
  rw [← hown]
  exact findClass_of_methodNamed B.named
theorem CtrB.of {l : Launch} {y : MethodName} {cc : ByteArray} {nL : Nat} {rm : Room} {G : Gd} {b : Bool} {τ : Sg} {av : List Value} {σ σ' : Sg} {v : Int} (own : String) (hy : plainFor y = true) (hlen : (lg_sl av).length ≤ nL) (hown : y.cls = own)
    (body : ∀ (p : Program) (e : Env) (s : State) (m : MethodId) (below : List Frame) (meth : Method) (c : Code) (Q : State → Prop) (ls : Array Slot), Cx p s m av.toArray c own cc nL → lv_has ls nL (lv_args 0 av) → St G b τ σ s s.heap [] → ((v = 0 ∨ v = 1) → EndR p l e rm s m av.toArray below meth c Q G b τ cc .ireturn [.int (oI v)] σ') → W p l e rm s m av.toArray below meth c s.heap [] 0 0 Q (F0 m 0 ls [])) : Ctr l y cc nL (some .byte) rm G b τ av σ σ' (some (.int (oI v))) := by
  refine met_ofF (cc := cc) (maxL := nL) (ret := (some .byte)) hy rfl ?_
  intro p e s m args below meth c s₁ B hml hv
  obtain ⟨rfl, hW0, hZ0⟩ := hv
  have hts := atoms_spec (ws := Cond.code y cc nL (some .byte) :: GW) B.pre
  rw [lg_entry_eq]
  refine body p e s m below meth c _ _ ⟨B.exec, B.bytes, hml, ?_, fun w hw => hts w (List.mem_cons_of_mem _ hw)⟩ (lv_entry av hlen) ⟨hW0, va_S.rf, hZ0⟩ (fun hz H locs pc ls S hdg => W.zret B.exec B.bytes B.returns (by rcases hz with rfl | rfl <;> rfl) (fun t ht hW => ⟨rfl, by rw [ht]; exact S.1.moved hW.alike, S.2.1.F ht⟩) S.2.1.2.2 hdg)
  rw [← hown]
  exact findClass_of_methodNamed B.named
theorem CtrC.of {l : Launch} {y : MethodName} {cc : ByteArray} {nL : Nat} {rm : Room} {G : Gd} {b : Bool} {τ : Sg} {av : List Value} {σ σ' : Sg} {v : Int} (own : String) (hy : plainFor y = true) (hlen : (lg_sl av).length ≤ nL) (hown : y.cls = own)
    (body : ∀ (p : Program) (e : Env) (s : State) (m : MethodId) (below : List Frame) (meth : Method) (c : Code) (Q : State → Prop) (ls : Array Slot), Cx p s m av.toArray c own cc nL → lv_has ls nL (lv_args 0 av) → St G b τ σ s s.heap [] → ((0 ≤ v ∧ v < 65536) → EndR p l e rm s m av.toArray below meth c Q G b τ cc .ireturn [.int (oI v)] σ') → W p l e rm s m av.toArray below meth c s.heap [] 0 0 Q (F0 m 0 ls [])) : Ctr l y cc nL (some .char) rm G b τ av σ σ' (some (.int (oI v))) := by
  refine met_ofF (cc := cc) (maxL := nL) (ret := (some .char)) hy rfl ?_
  intro p e s m args below meth c s₁ B hml hv
  obtain ⟨rfl, hW0, hZ0⟩ := hv
  have hts := atoms_spec (ws := Cond.code y cc nL (some .char) :: GW) B.pre
  rw [lg_entry_eq]
  refine body p e s m below meth c _ _ ⟨B.exec, B.bytes, hml, ?_, fun w hw => hts w (List.mem_cons_of_mem _ hw)⟩ (lv_entry av hlen) ⟨hW0, va_S.rf, hZ0⟩ (fun hz H locs pc ls S hdg => W.zret B.exec B.bytes B.returns (by obtain ⟨n, rfl⟩ : ∃ n : Nat, v = (n : Int) := ⟨v.toNat, by omega⟩; rw [oI_nat]; exact (pk_charN (by omega)).1) (fun t ht hW => ⟨rfl, by rw [ht]; exact S.1.moved hW.alike, S.2.1.F ht⟩) S.2.1.2.2 hdg)
  rw [← hown]
  exact findClass_of_methodNamed B.named
theorem CtrJ.of {l : Launch} {y : MethodName} {cc : ByteArray} {nL : Nat} {rm : Room} {G : Gd} {b : Bool} {τ : Sg} {av : List Value} {σ σ' : Sg} {v : Int64} (own : String) (hy : plainFor y = true) (hlen : (lg_sl av).length ≤ nL) (hown : y.cls = own)
    (body : ∀ (p : Program) (e : Env) (s : State) (m : MethodId) (below : List Frame) (meth : Method) (c : Code) (Q : State → Prop) (ls : Array Slot), Cx p s m av.toArray c own cc nL → lv_has ls nL (lv_args 0 av) → St G b τ σ s s.heap [] → (EndR p l e rm s m av.toArray below meth c Q G b τ cc .lreturn [.long v] σ') → W p l e rm s m av.toArray below meth c s.heap [] 0 0 Q (F0 m 0 ls [])) : Ctr l y cc nL (some .long) rm G b τ av σ σ' (some (.long v)) := by
  refine met_ofF (cc := cc) (maxL := nL) (ret := (some .long)) hy rfl ?_
  intro p e s m args below meth c s₁ B hml hv
  obtain ⟨rfl, hW0, hZ0⟩ := hv
  have hts := atoms_spec (ws := Cond.code y cc nL (some .long) :: GW) B.pre
  rw [lg_entry_eq]
  refine body p e s m below meth c _ _ ⟨B.exec, B.bytes, hml, ?_, fun w hw => hts w (List.mem_cons_of_mem _ hw)⟩ (lv_entry av hlen) ⟨hW0, va_S.rf, hZ0⟩ (fun H locs pc ls S hdg => W.lret B.exec B.bytes B.returns (fun t ht hW => ⟨rfl, by rw [ht]; exact S.1.moved hW.alike, S.2.1.F ht⟩) S.2.1.2.2 hdg)
  rw [← hown]
  exact findClass_of_methodNamed B.named
theorem CtrV.of {l : Launch} {y : MethodName} {cc : ByteArray} {nL : Nat} {rm : Room} {G : Gd} {b : Bool} {τ : Sg} {av : List Value} {σ σ' : Sg} (own : String) (hy : plainFor y = true) (hlen : (lg_sl av).length ≤ nL) (hown : y.cls = own)
    (body : ∀ (p : Program) (e : Env) (s : State) (m : MethodId) (below : List Frame) (meth : Method) (c : Code) (Q : State → Prop) (ls : Array Slot), Cx p s m av.toArray c own cc nL → lv_has ls nL (lv_args 0 av) → St G b τ σ s s.heap [] → (EndR p l e rm s m av.toArray below meth c Q G b τ cc .return_ [] σ') → W p l e rm s m av.toArray below meth c s.heap [] 0 0 Q (F0 m 0 ls [])) : Ctr l y cc nL none rm G b τ av σ σ' none := by
  refine met_ofF (cc := cc) (maxL := nL) (ret := none) hy rfl ?_
  intro p e s m args below meth c s₁ B hml hv
  obtain ⟨rfl, hW0, hZ0⟩ := hv
  have hts := atoms_spec (ws := Cond.code y cc nL none :: GW) B.pre
  rw [lg_entry_eq]
  refine body p e s m below meth c _ _ ⟨B.exec, B.bytes, hml, ?_, fun w hw => hts w (List.mem_cons_of_mem _ hw)⟩ (lv_entry av hlen) ⟨hW0, va_S.rf, hZ0⟩ (fun H locs pc ls S hdg => W.vret B.exec B.bytes B.returns (fun t ht hW => ⟨rfl, by rw [ht]; exact S.1.moved hW.alike, S.2.1.F ht⟩) S.2.1.2.2 hdg)
  rw [← hown]
  exact findClass_of_methodNamed B.named
theorem CtrA.of {l : Launch} {y : MethodName} {cc : ByteArray} {nL : Nat} {rm : Room} {G : Gd} {b : Bool} {τ : Sg} {av : List Value} {σ σ' : Sg} {v : Option Nat} (own : String) (hy : plainFor y = true) (hlen : (lg_sl av).length ≤ nL) (hown : y.cls = own)
    (body : ∀ (p : Program) (e : Env) (s : State) (m : MethodId) (below : List Frame) (meth : Method) (c : Code) (Q : State → Prop) (ls : Array Slot), Cx p s m av.toArray c own cc nL → lv_has ls nL (lv_args 0 av) → St G b τ σ s s.heap [] → (EndR p l e rm s m av.toArray below meth c Q G b τ cc .areturn [rvT G v] σ') → W p l e rm s m av.toArray below meth c s.heap [] 0 0 Q (F0 m 0 ls [])) : Ctr l y cc nL (some (.object "RiskDesk$Treaty")) rm G b τ av σ σ' (some (rvT G v)) := by
  refine met_ofF (cc := cc) (maxL := nL) (ret := (some (.object "RiskDesk$Treaty"))) hy rfl ?_
  intro p e s m args below meth c s₁ B hml hv
  obtain ⟨rfl, hW0, hZ0⟩ := hv
  have hts := atoms_spec (ws := Cond.code y cc nL (some (.object "RiskDesk$Treaty")) :: GW) B.pre
  rw [lg_entry_eq]
  refine body p e s m below meth c _ _ ⟨B.exec, B.bytes, hml, ?_, fun w hw => hts w (List.mem_cons_of_mem _ hw)⟩ (lv_entry av hlen) ⟨hW0, va_S.rf, hZ0⟩ (fun H locs pc ls S hdg => W.aret B.exec B.bytes B.returns (Or.inl ⟨_, rfl⟩) (by cases v with | none => exact Or.inl rfl | some t => exact Or.inr ⟨_, rfl⟩) (fun t ht hW => ⟨rfl, by rw [ht]; exact S.1.moved hW.alike, S.2.1.F ht⟩) S.2.1.2.2 hdg)
  rw [← hown]
  exact findClass_of_methodNamed B.named
end RX
