/-! ===== rows over the world ===== -/
def Ctr (l : Launch) (y : MethodName) (cc : ByteArray) (nL : Nat) (ret : Option FieldType) (rm : Room) (G : Gd) (b : Bool) (τ : Sg) (av : List Value) (σ σ' : Sg) (rv : Option Value) : Prop :=
  Met l y (Cond.code y cc nL ret :: GW) rm (va_Pc av (fun U => Wo G (mix b τ σ) U U.heap ∧ Zs G U U.heap ∧ Ns G U)) (fun _ st o t => o = .returned rv ∧ Wo G (mix b τ σ') t t.heap ∧ va_F (AG G) st t) 0 0 (AG G)
abbrev rmk (n k : Nat) : Room := { frames := n, cells := 0, slots := 0, locals := k }
def MI (y : MethodName) (cc : ByteArray) (nL : Nat) (ret : Option FieldType) (n : Nat) : Prop := Cond.code y cc nL ret ∈ GW ∧ Cond.initialized y.cls ∈ GW ∧ (y.cls ≠ "java/lang/invoke/MethodHandle" ∧ y.cls ≠ "java/lang/invoke/VarHandle" ∧ (parseMethodDescriptor y.desc).map (fun d => d.parameters.length) = some n)
def MV (y : MethodName) : Prop := Cond.instanceMethod y ∈ GW ∧ Cond.selects y.cls y y ∈ GW
theorem Zs.moved {G : Gd} {u U : State} {H : Heap} (h : u.vm.Alike U.vm) (z : Zs G u H) : Zs G U H := ⟨fun i hi => ⟨(z.1 i hi).1.moved h, (z.1 i hi).2.moved h⟩, z.2.1.moved h, z.2.2.1.moved h, z.2.2.2.moved h⟩
theorem Zs.kept {G : Gd} {U : State} {H H1 : Heap} (z : Zs G U H) (hq : ∀ a : Nat, a < H.size → ¬ AG G a → H1[a]? = H[a]?) : Zs G U H1 := ⟨fun i hi => ⟨(z.1 i hi).1.kept hq, (z.1 i hi).2.kept hq⟩, z.2.1.kept hq, z.2.2.1.kept hq, z.2.2.2.kept hq⟩
theorem Ns.warm {G : Gd} {s U : State} (hW : s.WarmedH U.vm) (n : Ns G s) : Ns G U := ⟨fun q hq => va_Nw.warmM hW (n.1 q hq), fun q hq => va_Nw.warmF hW (n.2.1 q hq), fun i hi => (n.2.2 i hi).warm hW⟩
theorem Ns.same {G : Gd} {u U : State} (h : u.vm = U.vm) (n : Ns G u) : Ns G U := ⟨fun q hq => va_Nw.same rfl h (n.1 q hq), fun q hq => va_Nw.same rfl h (n.2.1 q hq), fun i hi => vk_R.same h.symm (n.2.2 i hi)⟩
theorem Wo.moved {G : Gd} {ρ : Sg} {u U : State} {H : Heap} (h : u.vm.Alike U.vm) (w : Wo G ρ u H) : Wo G ρ U H := ⟨w.1, w.2.1.moved h, w.2.2⟩
theorem gi_code {y : MethodName} {cc : ByteArray} {nL : Nat} {ret : Option FieldType} (h : Cond.code y cc nL ret ∈ GW) : GoodIn GW (Cond.code y cc nL ret :: GW) := fun w hw => by
  rcases List.mem_cons.mp hw with rfl | hw
  · exact ⟨h, gw_good h⟩
  · exact ⟨hw, gw_good hw⟩
section RW
variable {p : Program} {l : Launch} {e : Env} {R : Room} {s : State} {m : MethodId} {args : Array Value} {below : List Frame} {meth : Method} {c : Code} {H : Heap} {locs : List Loc} {Q : State → Prop} {pc : Nat} {ls : Array Slot} {rest : List Value} {own : String} {cc : ByteArray} {nL cells slots : Nat} {G : Gd} {b : Bool} {τ σ : Sg}
theorem r_iconst (C : Cx p s m args c own cc nL) {n : Int} (hdg : decode cc pc = .ok (.iconst n, 1))
    (k : W p l e R s m args below meth c H locs cells slots Q (F0 m (pc + 1) ls (.int (oI n) :: rest))) : W p l e R s m args below meth c H locs cells slots Q (F0 m pc ls (rest)) := lv_iconst C.1 C.2.1 hdg rfl k
theorem r_bipush (C : Cx p s m args c own cc nL) {n : Int} (hdg : decode cc pc = .ok (.bipush n, 2)) (hn : (Int8.ofInt n).toInt32 = oI n)
    (k : W p l e R s m args below meth c H locs cells slots Q (F0 m (pc + 2) ls (.int (oI n) :: rest))) : W p l e R s m args below meth c H locs cells slots Q (F0 m pc ls (rest)) := lv_bipush C.1 C.2.1 hdg hn k
theorem r_sipush (C : Cx p s m args c own cc nL) {n : Int} (hdg : decode cc pc = .ok (.sipush n, 3)) (hn : (Int16.ofInt n).toInt32 = oI n)
    (k : W p l e R s m args below meth c H locs cells slots Q (F0 m (pc + 3) ls (.int (oI n) :: rest))) : W p l e R s m args below meth c H locs cells slots Q (F0 m pc ls (rest)) := lv_sipush C.1 C.2.1 hdg hn k
theorem r_ldc (C : Cx p s m args c own cc nL) {idx : Nat} {n : Int} (hw : Cond.constant own idx (oI n) ∈ GW) (hdg : decode cc pc = .ok (.ldc idx, 2))
    (k : W p l e R s m args below meth c H locs cells slots Q (F0 m (pc + 2) ls (.int (oI n) :: rest))) : W p l e R s m args below meth c H locs cells slots Q (F0 m pc ls (rest)) := lv_ldc C.1 C.2.1 C.2.2.2.1 (C.2.2.2.2 _ hw) hdg k
theorem r_ldcw (C : Cx p s m args c own cc nL) {idx : Nat} {n : Int} (hw : Cond.constant own idx (oI n) ∈ GW) (hdg : decode cc pc = .ok (.ldc_w idx, 3))
    (k : W p l e R s m args below meth c H locs cells slots Q (F0 m (pc + 3) ls (.int (oI n) :: rest))) : W p l e R s m args below meth c H locs cells slots Q (F0 m pc ls (rest)) := lv_ldcw C.1 C.2.1 C.2.2.2.1 (C.2.2.2.2 _ hw) hdg k
theorem r_ldc2 (C : Cx p s m args c own cc nL) {idx : Nat} {n : Int} (hw : Cond.constantLong own idx (oL n) ∈ GW) (hdg : decode cc pc = .ok (.ldc2_w idx, 3))
    (k : W p l e R s m args below meth c H locs cells slots Q (F0 m (pc + 3) ls (.long (oL n) :: rest))) : W p l e R s m args below meth c H locs cells slots Q (F0 m pc ls (rest)) := lv_ldc2 C.1 C.2.1 C.2.2.2.1 (C.2.2.2.2 _ hw) hdg k
theorem r_lconst (C : Cx p s m args c own cc nL) {n : Fin 2} {z : Int} (hdg : decode cc pc = .ok (.lconst n, 1)) (hz : Int64.ofNat (n : Nat) = oL z)
    (k : W p l e R s m args below meth c H locs cells slots Q (F0 m (pc + 1) ls (.long (oL z) :: rest))) : W p l e R s m args below meth c H locs cells slots Q (F0 m pc ls (rest)) := lv_lconst C.1 C.2.1 hdg hz k
theorem r_iadd (C : Cx p s m args c own cc nL) {x y : Int} (hdg : decode cc pc = .ok (.iadd, 1))
    (k : W p l e R s m args below meth c H locs cells slots Q (F0 m (pc + 1) ls (.int (oI (x + y)) :: rest))) : W p l e R s m args below meth c H locs cells slots Q (F0 m pc ls (.int (oI y) :: .int (oI x) :: rest)) := lv_iadd C.1 C.2.1 hdg (by rw [← oI_add]; exact k)
theorem r_isub (C : Cx p s m args c own cc nL) {x y : Int} (hdg : decode cc pc = .ok (.isub, 1))
    (k : W p l e R s m args below meth c H locs cells slots Q (F0 m (pc + 1) ls (.int (oI (x - y)) :: rest))) : W p l e R s m args below meth c H locs cells slots Q (F0 m pc ls (.int (oI y) :: .int (oI x) :: rest)) := lv_isub C.1 C.2.1 hdg (by rw [← oI_sub]; exact k)
theorem r_imul (C : Cx p s m args c own cc nL) {x y : Int} (hdg : decode cc pc = .ok (.imul, 1))
    (k : W p l e R s m args below meth c H locs cells slots Q (F0 m (pc + 1) ls (.int (oI (x * y)) :: rest))) : W p l e R s m args below meth c H locs cells slots Q (F0 m pc ls (.int (oI y) :: .int (oI x) :: rest)) := lv_imul C.1 C.2.1 hdg (by rw [← oI_mul]; exact k)
theorem r_iand (C : Cx p s m args c own cc nL) {x y : Int} {x1 y1 : Nat} (hx : u32 x = x1) (hy : u32 y = y1) (hdg : decode cc pc = .ok (.iand, 1))
    (k : W p l e R s m args below meth c H locs cells slots Q (F0 m (pc + 1) ls (.int (oI ((x1 &&& y1 : Nat) : Int)) :: rest))) : W p l e R s m args below meth c H locs cells slots Q (F0 m pc ls (.int (oI y) :: .int (oI x) :: rest)) := lv_iand C.1 C.2.1 hdg (by rw [oI_and, hx, hy]; exact k)
theorem r_ior (C : Cx p s m args c own cc nL) {x y : Int} {x1 y1 : Nat} (hx : u32 x = x1) (hy : u32 y = y1) (hdg : decode cc pc = .ok (.ior, 1))
    (k : W p l e R s m args below meth c H locs cells slots Q (F0 m (pc + 1) ls (.int (oI ((x1 ||| y1 : Nat) : Int)) :: rest))) : W p l e R s m args below meth c H locs cells slots Q (F0 m pc ls (.int (oI y) :: .int (oI x) :: rest)) := lv_ior C.1 C.2.1 hdg (by rw [oI_or, hx, hy]; exact k)
theorem r_ixor (C : Cx p s m args c own cc nL) {x y : Int} {x1 y1 : Nat} (hx : u32 x = x1) (hy : u32 y = y1) (hdg : decode cc pc = .ok (.ixor, 1))
    (k : W p l e R s m args below meth c H locs cells slots Q (F0 m (pc + 1) ls (.int (oI ((x1 ^^^ y1 : Nat) : Int)) :: rest))) : W p l e R s m args below meth c H locs cells slots Q (F0 m pc ls (.int (oI y) :: .int (oI x) :: rest)) := lv_ixor C.1 C.2.1 hdg (by rw [oI_xor, hx, hy]; exact k)
theorem r_ishl (C : Cx p s m args c own cc nL) {x y : Int} {y1 : Nat}  (hy : u32 y % 32 = y1) (hdg : decode cc pc = .ok (.ishl, 1))
    (k : W p l e R s m args below meth c H locs cells slots Q (F0 m (pc + 1) ls (.int (oI (x * ((2 ^ y1 : Nat) : Int))) :: rest))) : W p l e R s m args below meth c H locs cells slots Q (F0 m pc ls (.int (oI y) :: .int (oI x) :: rest)) := lv_ishl C.1 C.2.1 hdg (by rw [oI_shl, hy]; exact k)
theorem r_ishr (C : Cx p s m args c own cc nL) {x y : Int} {y1 : Nat}  (hy : u32 y % 32 = y1) (hdg : decode cc pc = .ok (.ishr, 1))
    (k : W p l e R s m args below meth c H locs cells slots Q (F0 m (pc + 1) ls (.int (oI (w32 x >>> y1)) :: rest))) : W p l e R s m args below meth c H locs cells slots Q (F0 m pc ls (.int (oI y) :: .int (oI x) :: rest)) := lv_ishr C.1 C.2.1 hdg (by rw [oI_shr, hy]; exact k)
theorem r_iushr (C : Cx p s m args c own cc nL) {x y : Int} {y1 : Nat} {x1 : Nat} (hx : u32 x = x1) (hy : u32 y % 32 = y1) (hdg : decode cc pc = .ok (.iushr, 1))
    (k : W p l e R s m args below meth c H locs cells slots Q (F0 m (pc + 1) ls (.int (oI (((x1 >>> y1 : Nat) : Int))) :: rest))) : W p l e R s m args below meth c H locs cells slots Q (F0 m pc ls (.int (oI y) :: .int (oI x) :: rest)) := lv_iushr C.1 C.2.1 hdg (oI_ushr x y) (by rw [hx, hy]; exact k)
theorem r_ladd (C : Cx p s m args c own cc nL) {x y : Int} (hdg : decode cc pc = .ok (.ladd, 1))
    (k : W p l e R s m args below meth c H locs cells slots Q (F0 m (pc + 1) ls (.long (oL (x + y)) :: rest))) : W p l e R s m args below meth c H locs cells slots Q (F0 m pc ls (.long (oL y) :: .long (oL x) :: rest)) := lv_ladd C.1 C.2.1 hdg (by rw [← oL_add]; exact k)
theorem r_lsub (C : Cx p s m args c own cc nL) {x y : Int} (hdg : decode cc pc = .ok (.lsub, 1))
    (k : W p l e R s m args below meth c H locs cells slots Q (F0 m (pc + 1) ls (.long (oL (x - y)) :: rest))) : W p l e R s m args below meth c H locs cells slots Q (F0 m pc ls (.long (oL y) :: .long (oL x) :: rest)) := lv_lsub C.1 C.2.1 hdg (by rw [← oL_sub]; exact k)
theorem r_lmul (C : Cx p s m args c own cc nL) {x y : Int} (hdg : decode cc pc = .ok (.lmul, 1))
    (k : W p l e R s m args below meth c H locs cells slots Q (F0 m (pc + 1) ls (.long (oL (x * y)) :: rest))) : W p l e R s m args below meth c H locs cells slots Q (F0 m pc ls (.long (oL y) :: .long (oL x) :: rest)) := lv_lmul C.1 C.2.1 hdg (by rw [← oL_mul]; exact k)
theorem r_land (C : Cx p s m args c own cc nL) {x y : Int} (hdg : decode cc pc = .ok (.land, 1))
    (k : W p l e R s m args below meth c H locs cells slots Q (F0 m (pc + 1) ls (.long (oL (((u64 x &&& u64 y : Nat) : Int))) :: rest))) : W p l e R s m args below meth c H locs cells slots Q (F0 m pc ls (.long (oL y) :: .long (oL x) :: rest)) := lv_land C.1 C.2.1 hdg (by rw [oL_and]; exact k)
theorem r_idiv (C : Cx p s m args c own cc nL) {x y : Int} (hy : ¬ w32 y = 0) (hdg : decode cc pc = .ok (.idiv, 1))
    (k : W p l e R s m args below meth c H locs cells slots Q (F0 m (pc + 1) ls (.int (oI ((w32 x).tdiv (w32 y))) :: rest))) : W p l e R s m args below meth c H locs cells slots Q (F0 m pc ls (.int (oI y) :: .int (oI x) :: rest)) := lv_idiv C.1 C.2.1 hdg (oI_ne0 hy) (by rw [oI_div]; exact k)
theorem r_irem (C : Cx p s m args c own cc nL) {x y : Int} (hy : ¬ w32 y = 0) (hdg : decode cc pc = .ok (.irem, 1))
    (k : W p l e R s m args below meth c H locs cells slots Q (F0 m (pc + 1) ls (.int (oI ((w32 x).tmod (w32 y))) :: rest))) : W p l e R s m args below meth c H locs cells slots Q (F0 m pc ls (.int (oI y) :: .int (oI x) :: rest)) := lv_irem C.1 C.2.1 hdg (oI_ne0 hy) (by rw [oI_rem]; exact k)
theorem r_ldiv (C : Cx p s m args c own cc nL) {x y : Int} (hy : ¬ w64 y = 0) (hdg : decode cc pc = .ok (.ldiv, 1))
    (k : W p l e R s m args below meth c H locs cells slots Q (F0 m (pc + 1) ls (.long (oL ((w64 x).tdiv (w64 y))) :: rest))) : W p l e R s m args below meth c H locs cells slots Q (F0 m pc ls (.long (oL y) :: .long (oL x) :: rest)) := lv_ldiv C.1 C.2.1 hdg (oL_ne0 hy) (by rw [oL_div]; exact k)
theorem r_lrem (C : Cx p s m args c own cc nL) {x y : Int} (hy : ¬ w64 y = 0) (hdg : decode cc pc = .ok (.lrem, 1))
    (k : W p l e R s m args below meth c H locs cells slots Q (F0 m (pc + 1) ls (.long (oL ((w64 x).tmod (w64 y))) :: rest))) : W p l e R s m args below meth c H locs cells slots Q (F0 m pc ls (.long (oL y) :: .long (oL x) :: rest)) := lv_lrem C.1 C.2.1 hdg (oL_ne0 hy) (by rw [oL_rem]; exact k)
theorem r_ineg (C : Cx p s m args c own cc nL) {x : Int} (hdg : decode cc pc = .ok (.ineg, 1))
    (k : W p l e R s m args below meth c H locs cells slots Q (F0 m (pc + 1) ls (.int (oI (-x)) :: rest))) : W p l e R s m args below meth c H locs cells slots Q (F0 m pc ls (.int (oI x) :: rest)) := lv_ineg C.1 C.2.1 hdg (by rw [← oI_neg]; exact k)
theorem r_lneg (C : Cx p s m args c own cc nL) {x : Int} (hdg : decode cc pc = .ok (.lneg, 1))
    (k : W p l e R s m args below meth c H locs cells slots Q (F0 m (pc + 1) ls (.long (oL (-x)) :: rest))) : W p l e R s m args below meth c H locs cells slots Q (F0 m pc ls (.long (oL x) :: rest)) := lv_lneg C.1 C.2.1 hdg (by rw [← oL_neg]; exact k)
theorem r_i2l (C : Cx p s m args c own cc nL) {x : Int} (hdg : decode cc pc = .ok (.i2l, 1))
    (k : W p l e R s m args below meth c H locs cells slots Q (F0 m (pc + 1) ls (.long (oL (w32 x)) :: rest))) : W p l e R s m args below meth c H locs cells slots Q (F0 m pc ls (.int (oI x) :: rest)) := lv_i2l C.1 C.2.1 hdg (oI_l x) k
theorem r_l2i (C : Cx p s m args c own cc nL) {x : Int} (hdg : decode cc pc = .ok (.l2i, 1))
    (k : W p l e R s m args below meth c H locs cells slots Q (F0 m (pc + 1) ls (.int (oI x) :: rest))) : W p l e R s m args below meth c H locs cells slots Q (F0 m pc ls (.long (oL x) :: rest)) := lv_l2i C.1 C.2.1 hdg (oL_i x) k
theorem r_iinc (C : Cx p s m args c own cc nL) {i k : Nat} {n x : Int} {lv lv' : List (Nat × Value)} (hdg : decode cc pc = .ok (.iinc i n, 3)) (h : lv_has ls nL lv) (hk : lv[k]? = some (i, .int (oI x))) (hn : i < nL) (hl : (i, Value.int (oI (x + n))) :: lv.filter (fun q => !(q.1 == i) && !(q.1 + 1 == i && q.2.category == 2)) = lv')
    (kk : ∀ ls' : Array Slot, lv_has ls' nL lv' → W p l e R s m args below meth c H locs cells slots Q (F0 m (pc + 3) ls' (rest))) : W p l e R s m args below meth c H locs cells slots Q (F0 m pc ls (rest)) := lv_iinc C.1 C.2.1 hdg h hk (Int32.ofInt_add _ _).symm hn hl kk
theorem zI_eq {x : Int} : oI x = 0 ↔ w32 x = 0 := by
  have h := oI_eq (a := x) (b := 0)
  rw [w32_0] at h
  exact h
theorem zI_lt {x : Int} : oI x < 0 ↔ w32 x < 0 := by
  have h := oI_lt (a := x) (b := 0)
  rw [w32_0] at h
  exact h
theorem zI_le {x : Int} : oI x ≤ 0 ↔ w32 x ≤ 0 := by
  have h := oI_le (a := x) (b := 0)
  rw [w32_0] at h
  exact h
theorem zI_gt {x : Int} : 0 < oI x ↔ 0 < w32 x := by
  have h := oI_lt (a := 0) (b := x)
  rw [w32_0] at h
  exact h
theorem zI_ge {x : Int} : 0 ≤ oI x ↔ 0 ≤ w32 x := by
  have h := oI_le (a := 0) (b := x)
  rw [w32_0] at h
  exact h
theorem r_icmp_eq (C : Cx p s m args c own cc nL) {x y : Int} {x1 y1 : Int} (hx : w32 x = x1) (hy : w32 y = y1) {off : Int} {tgt : Nat} (hdg : decode cc pc = .ok (.if_icmp .eq off, 3)) (ht : (pc : Int) + off = (tgt : Int))
    (ky : x1 = y1 → W p l e R s m args below meth c H locs cells slots Q (F0 m tgt ls (rest))) (kn : ¬ x1 = y1 → W p l e R s m args below meth c H locs cells slots Q (F0 m (pc + 3) ls (rest))) : W p l e R s m args below meth c H locs cells slots Q (F0 m pc ls (.int (oI y) :: .int (oI x) :: rest)) := by
  subst hx hy
  exact lv_icmp_eq C.1 C.2.1 hdg ht (fun h => ky (oI_eq.mp h)) (fun h => kn (fun q => h (oI_eq.mpr q)))
theorem r_if_eq (C : Cx p s m args c own cc nL) {x : Int} {x1 : Int} (hx : w32 x = x1) {off : Int} {tgt : Nat} (hdg : decode cc pc = .ok (.ifCond .eq off, 3)) (ht : (pc : Int) + off = (tgt : Int))
    (ky : x1 = 0 → W p l e R s m args below meth c H locs cells slots Q (F0 m tgt ls (rest))) (kn : ¬ x1 = 0 → W p l e R s m args below meth c H locs cells slots Q (F0 m (pc + 3) ls (rest))) : W p l e R s m args below meth c H locs cells slots Q (F0 m pc ls (.int (oI x) :: rest)) := by
  subst hx
  exact lv_if_eq C.1 C.2.1 hdg ht (fun h => ky (zI_eq.mp h)) (fun h => kn (fun q => h (zI_eq.mpr q)))
theorem r_icmp_ne (C : Cx p s m args c own cc nL) {x y : Int} {x1 y1 : Int} (hx : w32 x = x1) (hy : w32 y = y1) {off : Int} {tgt : Nat} (hdg : decode cc pc = .ok (.if_icmp .ne off, 3)) (ht : (pc : Int) + off = (tgt : Int))
    (ky : x1 = y1 → W p l e R s m args below meth c H locs cells slots Q (F0 m (pc + 3) ls (rest))) (kn : ¬ x1 = y1 → W p l e R s m args below meth c H locs cells slots Q (F0 m tgt ls (rest))) : W p l e R s m args below meth c H locs cells slots Q (F0 m pc ls (.int (oI y) :: .int (oI x) :: rest)) := by
  subst hx hy
  exact lv_icmp_ne C.1 C.2.1 hdg ht (fun h => kn (fun q => h (oI_eq.mpr q))) (fun h => ky (oI_eq.mp h))
theorem r_if_ne (C : Cx p s m args c own cc nL) {x : Int} {x1 : Int} (hx : w32 x = x1) {off : Int} {tgt : Nat} (hdg : decode cc pc = .ok (.ifCond .ne off, 3)) (ht : (pc : Int) + off = (tgt : Int))
    (ky : x1 = 0 → W p l e R s m args below meth c H locs cells slots Q (F0 m (pc + 3) ls (rest))) (kn : ¬ x1 = 0 → W p l e R s m args below meth c H locs cells slots Q (F0 m tgt ls (rest))) : W p l e R s m args below meth c H locs cells slots Q (F0 m pc ls (.int (oI x) :: rest)) := by
  subst hx
  exact lv_if_ne C.1 C.2.1 hdg ht (fun h => kn (fun q => h (zI_eq.mpr q))) (fun h => ky (zI_eq.mp h))
theorem r_icmp_lt (C : Cx p s m args c own cc nL) {x y : Int} {x1 y1 : Int} (hx : w32 x = x1) (hy : w32 y = y1) {off : Int} {tgt : Nat} (hdg : decode cc pc = .ok (.if_icmp .lt off, 3)) (ht : (pc : Int) + off = (tgt : Int))
    (ky : x1 < y1 → W p l e R s m args below meth c H locs cells slots Q (F0 m tgt ls (rest))) (kn : ¬ x1 < y1 → W p l e R s m args below meth c H locs cells slots Q (F0 m (pc + 3) ls (rest))) : W p l e R s m args below meth c H locs cells slots Q (F0 m pc ls (.int (oI y) :: .int (oI x) :: rest)) := by
  subst hx hy
  exact lv_icmp_lt C.1 C.2.1 hdg ht (fun h => ky (oI_lt.mp h)) (fun h => kn (fun q => h (oI_lt.mpr q)))
theorem r_if_lt (C : Cx p s m args c own cc nL) {x : Int} {x1 : Int} (hx : w32 x = x1) {off : Int} {tgt : Nat} (hdg : decode cc pc = .ok (.ifCond .lt off, 3)) (ht : (pc : Int) + off = (tgt : Int))
    (ky : x1 < 0 → W p l e R s m args below meth c H locs cells slots Q (F0 m tgt ls (rest))) (kn : ¬ x1 < 0 → W p l e R s m args below meth c H locs cells slots Q (F0 m (pc + 3) ls (rest))) : W p l e R s m args below meth c H locs cells slots Q (F0 m pc ls (.int (oI x) :: rest)) := by
  subst hx
  exact lv_if_lt C.1 C.2.1 hdg ht (fun h => ky (zI_lt.mp h)) (fun h => kn (fun q => h (zI_lt.mpr q)))
theorem r_icmp_ge (C : Cx p s m args c own cc nL) {x y : Int} {x1 y1 : Int} (hx : w32 x = x1) (hy : w32 y = y1) {off : Int} {tgt : Nat} (hdg : decode cc pc = .ok (.if_icmp .ge off, 3)) (ht : (pc : Int) + off = (tgt : Int))
    (ky : x1 < y1 → W p l e R s m args below meth c H locs cells slots Q (F0 m (pc + 3) ls (rest))) (kn : ¬ x1 < y1 → W p l e R s m args below meth c H locs cells slots Q (F0 m tgt ls (rest))) : W p l e R s m args below meth c H locs cells slots Q (F0 m pc ls (.int (oI y) :: .int (oI x) :: rest)) := by
  subst hx hy
  exact lv_icmp_ge C.1 C.2.1 hdg ht (fun h => kn (Int.not_lt.mpr (oI_le.mp h))) (fun h => ky (Int.not_le.mp (fun q => h (oI_le.mpr q))))
theorem r_if_ge (C : Cx p s m args c own cc nL) {x : Int} {x1 : Int} (hx : w32 x = x1) {off : Int} {tgt : Nat} (hdg : decode cc pc = .ok (.ifCond .ge off, 3)) (ht : (pc : Int) + off = (tgt : Int))
    (ky : x1 < 0 → W p l e R s m args below meth c H locs cells slots Q (F0 m (pc + 3) ls (rest))) (kn : ¬ x1 < 0 → W p l e R s m args below meth c H locs cells slots Q (F0 m tgt ls (rest))) : W p l e R s m args below meth c H locs cells slots Q (F0 m pc ls (.int (oI x) :: rest)) := by
  subst hx
  exact lv_if_ge C.1 C.2.1 hdg ht (fun h => kn (Int.not_lt.mpr (zI_ge.mp h))) (fun h => ky (Int.not_le.mp (fun q => h (zI_ge.mpr q))))
theorem r_icmp_le (C : Cx p s m args c own cc nL) {x y : Int} {x1 y1 : Int} (hx : w32 x = x1) (hy : w32 y = y1) {off : Int} {tgt : Nat} (hdg : decode cc pc = .ok (.if_icmp .le off, 3)) (ht : (pc : Int) + off = (tgt : Int))
    (ky : x1 ≤ y1 → W p l e R s m args below meth c H locs cells slots Q (F0 m tgt ls (rest))) (kn : ¬ x1 ≤ y1 → W p l e R s m args below meth c H locs cells slots Q (F0 m (pc + 3) ls (rest))) : W p l e R s m args below meth c H locs cells slots Q (F0 m pc ls (.int (oI y) :: .int (oI x) :: rest)) := by
  subst hx hy
  exact lv_icmp_le C.1 C.2.1 hdg ht (fun h => ky (oI_le.mp h)) (fun h => kn (fun q => h (oI_le.mpr q)))
theorem r_if_le (C : Cx p s m args c own cc nL) {x : Int} {x1 : Int} (hx : w32 x = x1) {off : Int} {tgt : Nat} (hdg : decode cc pc = .ok (.ifCond .le off, 3)) (ht : (pc : Int) + off = (tgt : Int))
    (ky : x1 ≤ 0 → W p l e R s m args below meth c H locs cells slots Q (F0 m tgt ls (rest))) (kn : ¬ x1 ≤ 0 → W p l e R s m args below meth c H locs cells slots Q (F0 m (pc + 3) ls (rest))) : W p l e R s m args below meth c H locs cells slots Q (F0 m pc ls (.int (oI x) :: rest)) := by
  subst hx
  exact lv_if_le C.1 C.2.1 hdg ht (fun h => ky (zI_le.mp h)) (fun h => kn (fun q => h (zI_le.mpr q)))
theorem r_icmp_gt (C : Cx p s m args c own cc nL) {x y : Int} {x1 y1 : Int} (hx : w32 x = x1) (hy : w32 y = y1) {off : Int} {tgt : Nat} (hdg : decode cc pc = .ok (.if_icmp .gt off, 3)) (ht : (pc : Int) + off = (tgt : Int))
    (ky : x1 ≤ y1 → W p l e R s m args below meth c H locs cells slots Q (F0 m (pc + 3) ls (rest))) (kn : ¬ x1 ≤ y1 → W p l e R s m args below meth c H locs cells slots Q (F0 m tgt ls (rest))) : W p l e R s m args below meth c H locs cells slots Q (F0 m pc ls (.int (oI y) :: .int (oI x) :: rest)) := by
  subst hx hy
  exact lv_icmp_gt C.1 C.2.1 hdg ht (fun h => kn (Int.not_le.mpr (oI_lt.mp h))) (fun h => ky (Int.not_lt.mp (fun q => h (oI_lt.mpr q))))
theorem r_if_gt (C : Cx p s m args c own cc nL) {x : Int} {x1 : Int} (hx : w32 x = x1) {off : Int} {tgt : Nat} (hdg : decode cc pc = .ok (.ifCond .gt off, 3)) (ht : (pc : Int) + off = (tgt : Int))
    (ky : x1 ≤ 0 → W p l e R s m args below meth c H locs cells slots Q (F0 m (pc + 3) ls (rest))) (kn : ¬ x1 ≤ 0 → W p l e R s m args below meth c H locs cells slots Q (F0 m tgt ls (rest))) : W p l e R s m args below meth c H locs cells slots Q (F0 m pc ls (.int (oI x) :: rest)) := by
  subst hx
  exact lv_if_gt C.1 C.2.1 hdg ht (fun h => kn (Int.not_le.mpr (zI_gt.mp h))) (fun h => ky (Int.not_lt.mp (fun q => h (zI_gt.mpr q))))
theorem zL_eq {x y : Int} : (lg_cmp (oL x) (oL y) = 0) ↔ w64 x = w64 y := (lg_cmp_eq (oL x) (oL y)).trans oL_eq
theorem r_lcmp_eq (C : Cx p s m args c own cc nL) {x y : Int} {x1 y1 : Int} (hx : w64 x = x1) (hy : w64 y = y1) {off : Int} {tgt : Nat} (hdg : decode cc pc = .ok (.lcmp, 1)) (hdg2 : decode cc (pc + 1) = .ok (.ifCond .eq off, 3)) (ht : ((pc + 1 : Nat) : Int) + off = (tgt : Int))
    (ky : x1 = y1 → W p l e R s m args below meth c H locs cells slots Q (F0 m tgt ls (rest))) (kn : ¬ x1 = y1 → W p l e R s m args below meth c H locs cells slots Q (F0 m (pc + 1 + 3) ls (rest))) : W p l e R s m args below meth c H locs cells slots Q (F0 m pc ls (.long (oL y) :: .long (oL x) :: rest)) := by
  subst hx hy
  exact W.lcmp C.1 C.2.1 hdg (lv_if_eq C.1 C.2.1 hdg2 ht (fun h => ky (zL_eq.mp h)) (fun h => kn (fun q => h (zL_eq.mpr q))))
theorem zL_ne {x y : Int} : (lg_cmp (oL x) (oL y) = 0) ↔ w64 x = w64 y := (lg_cmp_eq (oL x) (oL y)).trans oL_eq
theorem r_lcmp_ne (C : Cx p s m args c own cc nL) {x y : Int} {x1 y1 : Int} (hx : w64 x = x1) (hy : w64 y = y1) {off : Int} {tgt : Nat} (hdg : decode cc pc = .ok (.lcmp, 1)) (hdg2 : decode cc (pc + 1) = .ok (.ifCond .ne off, 3)) (ht : ((pc + 1 : Nat) : Int) + off = (tgt : Int))
    (ky : x1 = y1 → W p l e R s m args below meth c H locs cells slots Q (F0 m (pc + 1 + 3) ls (rest))) (kn : ¬ x1 = y1 → W p l e R s m args below meth c H locs cells slots Q (F0 m tgt ls (rest))) : W p l e R s m args below meth c H locs cells slots Q (F0 m pc ls (.long (oL y) :: .long (oL x) :: rest)) := by
  subst hx hy
  exact W.lcmp C.1 C.2.1 hdg (lv_if_ne C.1 C.2.1 hdg2 ht (fun h => kn (fun q => h (zL_ne.mpr q))) (fun h => ky (zL_ne.mp h)))
theorem zL_lt {x y : Int} : (lg_cmp (oL x) (oL y) < 0) ↔ w64 x < w64 y := (lg_cmp_lt (oL x) (oL y)).trans oL_lt
theorem r_lcmp_lt (C : Cx p s m args c own cc nL) {x y : Int} {x1 y1 : Int} (hx : w64 x = x1) (hy : w64 y = y1) {off : Int} {tgt : Nat} (hdg : decode cc pc = .ok (.lcmp, 1)) (hdg2 : decode cc (pc + 1) = .ok (.ifCond .lt off, 3)) (ht : ((pc + 1 : Nat) : Int) + off = (tgt : Int))
    (ky : x1 < y1 → W p l e R s m args below meth c H locs cells slots Q (F0 m tgt ls (rest))) (kn : ¬ x1 < y1 → W p l e R s m args below meth c H locs cells slots Q (F0 m (pc + 1 + 3) ls (rest))) : W p l e R s m args below meth c H locs cells slots Q (F0 m pc ls (.long (oL y) :: .long (oL x) :: rest)) := by
  subst hx hy
  exact W.lcmp C.1 C.2.1 hdg (lv_if_lt C.1 C.2.1 hdg2 ht (fun h => ky (zL_lt.mp h)) (fun h => kn (fun q => h (zL_lt.mpr q))))
theorem zL_ge {x y : Int} : (0 ≤ lg_cmp (oL x) (oL y)) ↔ w64 y ≤ w64 x := (lg_cmp_ge (oL x) (oL y)).trans oL_le
theorem r_lcmp_ge (C : Cx p s m args c own cc nL) {x y : Int} {x1 y1 : Int} (hx : w64 x = x1) (hy : w64 y = y1) {off : Int} {tgt : Nat} (hdg : decode cc pc = .ok (.lcmp, 1)) (hdg2 : decode cc (pc + 1) = .ok (.ifCond .ge off, 3)) (ht : ((pc + 1 : Nat) : Int) + off = (tgt : Int))
    (ky : x1 < y1 → W p l e R s m args below meth c H locs cells slots Q (F0 m (pc + 1 + 3) ls (rest))) (kn : ¬ x1 < y1 → W p l e R s m args below meth c H locs cells slots Q (F0 m tgt ls (rest))) : W p l e R s m args below meth c H locs cells slots Q (F0 m pc ls (.long (oL y) :: .long (oL x) :: rest)) := by
  subst hx hy
  exact W.lcmp C.1 C.2.1 hdg (lv_if_ge C.1 C.2.1 hdg2 ht (fun h => kn (Int.not_lt.mpr (zL_ge.mp h))) (fun h => ky (Int.not_le.mp (fun q => h (zL_ge.mpr q)))))
theorem zL_le {x y : Int} : (lg_cmp (oL x) (oL y) ≤ 0) ↔ w64 x ≤ w64 y := (lg_cmp_le (oL x) (oL y)).trans oL_le
theorem r_lcmp_le (C : Cx p s m args c own cc nL) {x y : Int} {x1 y1 : Int} (hx : w64 x = x1) (hy : w64 y = y1) {off : Int} {tgt : Nat} (hdg : decode cc pc = .ok (.lcmp, 1)) (hdg2 : decode cc (pc + 1) = .ok (.ifCond .le off, 3)) (ht : ((pc + 1 : Nat) : Int) + off = (tgt : Int))
    (ky : x1 ≤ y1 → W p l e R s m args below meth c H locs cells slots Q (F0 m tgt ls (rest))) (kn : ¬ x1 ≤ y1 → W p l e R s m args below meth c H locs cells slots Q (F0 m (pc + 1 + 3) ls (rest))) : W p l e R s m args below meth c H locs cells slots Q (F0 m pc ls (.long (oL y) :: .long (oL x) :: rest)) := by
  subst hx hy
  exact W.lcmp C.1 C.2.1 hdg (lv_if_le C.1 C.2.1 hdg2 ht (fun h => ky (zL_le.mp h)) (fun h => kn (fun q => h (zL_le.mpr q))))
theorem zL_gt {x y : Int} : (0 < lg_cmp (oL x) (oL y)) ↔ w64 y < w64 x := (lg_cmp_gt (oL x) (oL y)).trans oL_lt
theorem r_lcmp_gt (C : Cx p s m args c own cc nL) {x y : Int} {x1 y1 : Int} (hx : w64 x = x1) (hy : w64 y = y1) {off : Int} {tgt : Nat} (hdg : decode cc pc = .ok (.lcmp, 1)) (hdg2 : decode cc (pc + 1) = .ok (.ifCond .gt off, 3)) (ht : ((pc + 1 : Nat) : Int) + off = (tgt : Int))
    (ky : x1 ≤ y1 → W p l e R s m args below meth c H locs cells slots Q (F0 m (pc + 1 + 3) ls (rest))) (kn : ¬ x1 ≤ y1 → W p l e R s m args below meth c H locs cells slots Q (F0 m tgt ls (rest))) : W p l e R s m args below meth c H locs cells slots Q (F0 m pc ls (.long (oL y) :: .long (oL x) :: rest)) := by
  subst hx hy
  exact W.lcmp C.1 C.2.1 hdg (lv_if_gt C.1 C.2.1 hdg2 ht (fun h => kn (Int.not_le.mpr (zL_gt.mp h))) (fun h => ky (Int.not_lt.mp (fun q => h (zL_gt.mpr q)))))
theorem r_run {rv : Option Value} {σ' : Sg} {st0 : List Value} (S : St G b τ σ s H locs) (hr : ∃ a, va_Run p l e R s m args below meth c H locs cells slots 0 0 (F0 m pc ls st0) rest ((fun _ st o t => o = .returned rv ∧ Wo G (mix b τ σ') t t.heap ∧ va_F (AG G) st t : Array Value → State → Outcome → State → Prop) a) (AG G))
    (kk : ∀ H1 locs1, St G b τ σ' s H1 locs1 → W p l e R s m args below meth c H1 locs1 cells slots Q (F0 m (pc + 3) ls (rv.toList ++ rest))) : W p l e R s m args below meth c H locs cells slots Q (F0 m pc ls st0) := by
  intro T hT X
  obtain ⟨a, hr⟩ := hr
  obtain ⟨v, st₀, t, T', L, h0, X', hL, e1, e2, ⟨hv, hW, hz, hk⟩, st⟩ := hr T hT X
  cases hv
  rw [h0] at hz hk
  have hal : s.vm.Alike t.vm := by rw [← e2]; exact X'.warmed.alike
  obtain ⟨t2, a1, b1⟩ := kk T'.heap (locs ++ L) ⟨by rw [e1]; exact hW.moved hal.symm, ⟨Nat.le_trans S.2.1.1 (by rw [e1]; exact hz), fun q h1 h2 => by rw [e1, hk q (Nat.lt_of_lt_of_le h1 S.2.1.1) h2]; exact S.2.1.2.1 q h1 h2, fun q hq => by
      rcases List.mem_append.mp hq with h | h
      · exact S.2.1.2.2 q h
      · exact hL q h⟩, S.2.2⟩ T' rfl X'
  exact ⟨t2, st t2 a1, b1⟩
theorem St.pre (S : St G b τ σ s H locs) {U : State} (hU : U.heap = H) (hW : s.WarmedH U.vm) : Wo G (mix b τ σ) U U.heap ∧ Zs G U U.heap ∧ Ns G U := by
  rw [hU]
  exact ⟨S.1.moved hW.alike, (S.2.2.1.kept S.2.1.2.1).moved hW.alike, S.2.2.2.warm hW⟩
theorem fb_pre {av : List Value} {ρ : Sg} : FrameBlind (va_Pc av (fun U => Wo G ρ U U.heap ∧ Zs G U U.heap ∧ Ns G U)) := fun a U g mk q => ⟨q.1, Wo.moved (u := U) (U := U.calling g mk a) (Vm.Alike.refl U.vm) q.2.1, Zs.moved (u := U) (U := U.calling g mk a) (Vm.Alike.refl U.vm) q.2.2.1, Ns.same (u := U) (U := U.calling g mk a) rfl q.2.2.2⟩
theorem r_recv (S : St G b τ σ s H locs) (k ci : Nat) {q : vw_C} {fs : List Value} (hk : k < NB) (hcell : mkCell G k (mix b τ σ k) = .inr (ci, fs)) (hc : vwCl[ci]? = some q) : ∃ cell : Cell, H[G.1 k]? = some cell ∧ cell.vm.isStatics = false ∧ s.vm.findClass q.1 = some cell.cls :=
  va_recv S.1.2.1 S.1.1 hc (q0 := k) (by rw [ws_at hk, hcell])
theorem cb_of {y : MethodName} {cc' : ByteArray} {nL' n : Nat} {ret' : Option FieldType} {rm : Room} {idx : Nat} (C : Cx p s m args c own cc nL) (hm : MI y cc' nL' ret' n) (hl : Cond.methodLink own idx y ∈ GW) (hz : rm.cells = 0 ∧ rm.slots = 0) (hR : rm.frames + 1 ≤ R.frames ∧ 8 + (nL' + 11) + rm.locals ≤ R.locals) : CallB R s args own idx y cc' nL' ret' (Cond.code y cc' nL' ret' :: GW) rm 0 0 n :=
  callB_of n C.2.2.2.2 (gi_code hm.1) rfl hz.1 hz.2 (C.2.2.2.2 _ hm.2.1) (C.2.2.2.2 _ hl) hm.2.2 hR
theorem cb_nest {y : MethodName} {cc' : ByteArray} {nL' n : Nat} {ret' : Option FieldType} {rm : Room} {idx : Nat} {host : String} (C : Cx p s m args c own cc nL) (hm : MI y cc' nL' ret' n) (hl : va_Nw (.methodLinkNest own idx y host) s) (hz : rm.cells = 0 ∧ rm.slots = 0) (hR : rm.frames + 1 ≤ R.frames ∧ 8 + (nL' + 11) + rm.locals ≤ R.locals) : va_CN R s args own idx y host cc' nL' ret' (Cond.code y cc' nL' ret' :: GW) rm 0 0 n :=
  va_cnB n C.2.2.2.2 (gi_code hm.1) rfl hz.1 hz.2 hl (C.2.2.2.2 _ hm.2.1) hm.2.2 hR
theorem r_callVv {y : MethodName} {cc' : ByteArray} {nL' n : Nat} {ret' : Option FieldType} {rm : Room} {idx : Nat} {a : Addr} {As : List Value} {σ' : Sg} {v : Value} {st0 : List Value} (C : Cx p s m args c own cc nL) (S : St G b τ σ s H locs) (hM : Ctr l y cc' nL' ret' rm G b τ (.ref a :: As) σ σ' (some v)) (hm : MI y cc' nL' ret' n) (hl : Cond.methodLink own idx y ∈ GW) (hv : MV y) (hrc : ∃ cell : Cell, H[a]? = some cell ∧ cell.vm.isStatics = false ∧ s.vm.findClass y.cls = some cell.cls) (hz : rm.cells = 0 ∧ rm.slots = 0) (hR : rm.frames + 1 ≤ R.frames ∧ 8 + (nL' + 11) + rm.locals ≤ R.locals) (hz2 : cells + 0 ≤ R.cells ∧ slots + 0 ≤ R.slots) (hn : As.length = n) (hls : ls.size = nL) (hst : st0 = As.reverse ++ .ref a :: rest) (hw : (rest.map fun v => v.category).sum ≤ 8) (hdg : decode cc pc = .ok (.invokevirtual idx, 3))
    (kk : ∀ H1 locs1, St G b τ σ' s H1 locs1 → W p l e R s m args below meth c H1 locs1 cells slots Q (F0 m (pc + 3) ls (v :: rest))) : W p l e R s m args below meth c H locs cells slots Q (F0 m pc ls st0) :=
  r_run S ⟨(.ref a :: As).toArray, va_runV (As := As) (rest := rest) ⟨C.1, C.2.1, C.2.2.1, C.2.2.2.1, C.2.2.2.2⟩ hM ⟨cb_of C hm hl hz hR, C.2.2.2.2 _ hv.1, C.2.2.2.2 _ hv.2⟩ ⟨fb_pre, hrc, fun U hU hW => ⟨rfl, S.pre hU hW⟩⟩ rfl hn hls hst (lv_room hw) hdg hz2⟩ kk
theorem r_callVn {y : MethodName} {cc' : ByteArray} {nL' n : Nat} {ret' : Option FieldType} {rm : Room} {idx : Nat} {a : Addr} {As : List Value} {σ' : Sg} {st0 : List Value} (C : Cx p s m args c own cc nL) (S : St G b τ σ s H locs) (hM : Ctr l y cc' nL' ret' rm G b τ (.ref a :: As) σ σ' none) (hm : MI y cc' nL' ret' n) (hl : Cond.methodLink own idx y ∈ GW) (hv : MV y) (hrc : ∃ cell : Cell, H[a]? = some cell ∧ cell.vm.isStatics = false ∧ s.vm.findClass y.cls = some cell.cls) (hz : rm.cells = 0 ∧ rm.slots = 0) (hR : rm.frames + 1 ≤ R.frames ∧ 8 + (nL' + 11) + rm.locals ≤ R.locals) (hz2 : cells + 0 ≤ R.cells ∧ slots + 0 ≤ R.slots) (hn : As.length = n) (hls : ls.size = nL) (hst : st0 = As.reverse ++ .ref a :: rest) (hw : (rest.map fun v => v.category).sum ≤ 8) (hdg : decode cc pc = .ok (.invokevirtual idx, 3))
    (kk : ∀ H1 locs1, St G b τ σ' s H1 locs1 → W p l e R s m args below meth c H1 locs1 cells slots Q (F0 m (pc + 3) ls (rest))) : W p l e R s m args below meth c H locs cells slots Q (F0 m pc ls st0) :=
  r_run S ⟨(.ref a :: As).toArray, va_runV (As := As) (rest := rest) ⟨C.1, C.2.1, C.2.2.1, C.2.2.2.1, C.2.2.2.2⟩ hM ⟨cb_of C hm hl hz hR, C.2.2.2.2 _ hv.1, C.2.2.2.2 _ hv.2⟩ ⟨fb_pre, hrc, fun U hU hW => ⟨rfl, S.pre hU hW⟩⟩ rfl hn hls hst (lv_room hw) hdg hz2⟩ kk
theorem r_callSv {y : MethodName} {cc' : ByteArray} {nL' n : Nat} {ret' : Option FieldType} {rm : Room} {idx : Nat} {As : List Value} {σ' : Sg} {v : Value} {st0 : List Value} (C : Cx p s m args c own cc nL) (S : St G b τ σ s H locs) (hM : Ctr l y cc' nL' ret' rm G b τ As σ σ' (some v)) (hm : MI y cc' nL' ret' n) (hl : Cond.methodLink own idx y ∈ GW) (hv : Cond.static y ∈ GW) (hz : rm.cells = 0 ∧ rm.slots = 0) (hR : rm.frames + 1 ≤ R.frames ∧ 8 + (nL' + 11) + rm.locals ≤ R.locals) (hz2 : cells + 0 ≤ R.cells ∧ slots + 0 ≤ R.slots) (hn : As.length = n) (hls : ls.size = nL) (hst : st0 = As.reverse ++ rest) (hw : (rest.map fun v => v.category).sum ≤ 8) (hdg : decode cc pc = .ok (.invokestatic idx, 3))
    (kk : ∀ H1 locs1, St G b τ σ' s H1 locs1 → W p l e R s m args below meth c H1 locs1 cells slots Q (F0 m (pc + 3) ls (v :: rest))) : W p l e R s m args below meth c H locs cells slots Q (F0 m pc ls st0) :=
  r_run S ⟨As.toArray, va_runS (As := As) (rest := rest) ⟨C.1, C.2.1, C.2.2.1, C.2.2.2.1, C.2.2.2.2⟩ hM ⟨cb_of C hm hl hz hR, C.2.2.2.2 _ hv⟩ ⟨fb_pre, fun U hU hW => ⟨rfl, S.pre hU hW⟩⟩ rfl hn hls hst (lv_room hw) hdg hz2⟩ kk
theorem r_callSn {y : MethodName} {cc' : ByteArray} {nL' n : Nat} {ret' : Option FieldType} {rm : Room} {idx : Nat} {As : List Value} {σ' : Sg} {st0 : List Value} (C : Cx p s m args c own cc nL) (S : St G b τ σ s H locs) (hM : Ctr l y cc' nL' ret' rm G b τ As σ σ' none) (hm : MI y cc' nL' ret' n) (hl : Cond.methodLink own idx y ∈ GW) (hv : Cond.static y ∈ GW) (hz : rm.cells = 0 ∧ rm.slots = 0) (hR : rm.frames + 1 ≤ R.frames ∧ 8 + (nL' + 11) + rm.locals ≤ R.locals) (hz2 : cells + 0 ≤ R.cells ∧ slots + 0 ≤ R.slots) (hn : As.length = n) (hls : ls.size = nL) (hst : st0 = As.reverse ++ rest) (hw : (rest.map fun v => v.category).sum ≤ 8) (hdg : decode cc pc = .ok (.invokestatic idx, 3))
    (kk : ∀ H1 locs1, St G b τ σ' s H1 locs1 → W p l e R s m args below meth c H1 locs1 cells slots Q (F0 m (pc + 3) ls (rest))) : W p l e R s m args below meth c H locs cells slots Q (F0 m pc ls st0) :=
  r_run S ⟨As.toArray, va_runS (As := As) (rest := rest) ⟨C.1, C.2.1, C.2.2.1, C.2.2.2.1, C.2.2.2.2⟩ hM ⟨cb_of C hm hl hz hR, C.2.2.2.2 _ hv⟩ ⟨fb_pre, fun U hU hW => ⟨rfl, S.pre hU hW⟩⟩ rfl hn hls hst (lv_room hw) hdg hz2⟩ kk
theorem r_callVNv {y : MethodName} {cc' : ByteArray} {nL' n : Nat} {ret' : Option FieldType} {rm : Room} {idx : Nat} {a : Addr} {As : List Value} {σ' : Sg} {v : Value} {host : String} {st0 : List Value} (C : Cx p s m args c own cc nL) (S : St G b τ σ s H locs) (hM : Ctr l y cc' nL' ret' rm G b τ (.ref a :: As) σ σ' (some v)) (hm : MI y cc' nL' ret' n) (hl : va_Nw (.methodLinkNest own idx y host) s) (hv : MV y) (hrc : ∃ cell : Cell, H[a]? = some cell ∧ cell.vm.isStatics = false ∧ s.vm.findClass y.cls = some cell.cls) (hz : rm.cells = 0 ∧ rm.slots = 0) (hR : rm.frames + 1 ≤ R.frames ∧ 8 + (nL' + 11) + rm.locals ≤ R.locals) (hz2 : cells + 0 ≤ R.cells ∧ slots + 0 ≤ R.slots) (hn : As.length = n) (hls : ls.size = nL) (hst : st0 = As.reverse ++ .ref a :: rest) (hw : (rest.map fun v => v.category).sum ≤ 8) (hdg : decode cc pc = .ok (.invokevirtual idx, 3))
    (kk : ∀ H1 locs1, St G b τ σ' s H1 locs1 → W p l e R s m args below meth c H1 locs1 cells slots Q (F0 m (pc + 3) ls (v :: rest))) : W p l e R s m args below meth c H locs cells slots Q (F0 m pc ls st0) :=
  r_run S ⟨(.ref a :: As).toArray, va_runVN (As := As) (rest := rest) ⟨C.1, C.2.1, C.2.2.1, C.2.2.2.1, C.2.2.2.2⟩ hM ⟨cb_nest C hm hl hz hR, C.2.2.2.2 _ hv.1, C.2.2.2.2 _ hv.2⟩ ⟨fb_pre, hrc, fun U hU hW => ⟨rfl, S.pre hU hW⟩⟩ rfl hn hls hst (lv_room hw) hdg hz2⟩ kk
theorem r_callVNn {y : MethodName} {cc' : ByteArray} {nL' n : Nat} {ret' : Option FieldType} {rm : Room} {idx : Nat} {a : Addr} {As : List Value} {σ' : Sg} {host : String} {st0 : List Value} (C : Cx p s m args c own cc nL) (S : St G b τ σ s H locs) (hM : Ctr l y cc' nL' ret' rm G b τ (.ref a :: As) σ σ' none) (hm : MI y cc' nL' ret' n) (hl : va_Nw (.methodLinkNest own idx y host) s) (hv : MV y) (hrc : ∃ cell : Cell, H[a]? = some cell ∧ cell.vm.isStatics = false ∧ s.vm.findClass y.cls = some cell.cls) (hz : rm.cells = 0 ∧ rm.slots = 0) (hR : rm.frames + 1 ≤ R.frames ∧ 8 + (nL' + 11) + rm.locals ≤ R.locals) (hz2 : cells + 0 ≤ R.cells ∧ slots + 0 ≤ R.slots) (hn : As.length = n) (hls : ls.size = nL) (hst : st0 = As.reverse ++ .ref a :: rest) (hw : (rest.map fun v => v.category).sum ≤ 8) (hdg : decode cc pc = .ok (.invokevirtual idx, 3))
    (kk : ∀ H1 locs1, St G b τ σ' s H1 locs1 → W p l e R s m args below meth c H1 locs1 cells slots Q (F0 m (pc + 3) ls (rest))) : W p l e R s m args below meth c H locs cells slots Q (F0 m pc ls st0) :=
  r_run S ⟨(.ref a :: As).toArray, va_runVN (As := As) (rest := rest) ⟨C.1, C.2.1, C.2.2.1, C.2.2.2.1, C.2.2.2.2⟩ hM ⟨cb_nest C hm hl hz hR, C.2.2.2.2 _ hv.1, C.2.2.2.2 _ hv.2⟩ ⟨fb_pre, hrc, fun U hU hW => ⟨rfl, S.pre hU hW⟩⟩ rfl hn hls hst (lv_room hw) hdg hz2⟩ kk
theorem r_callSNv {y : MethodName} {cc' : ByteArray} {nL' n : Nat} {ret' : Option FieldType} {rm : Room} {idx : Nat} {As : List Value} {σ' : Sg} {v : Value} {host : String} {st0 : List Value} (C : Cx p s m args c own cc nL) (S : St G b τ σ s H locs) (hM : Ctr l y cc' nL' ret' rm G b τ As σ σ' (some v)) (hm : MI y cc' nL' ret' n) (hl : va_Nw (.methodLinkNest own idx y host) s) (hv : Cond.static y ∈ GW) (hz : rm.cells = 0 ∧ rm.slots = 0) (hR : rm.frames + 1 ≤ R.frames ∧ 8 + (nL' + 11) + rm.locals ≤ R.locals) (hz2 : cells + 0 ≤ R.cells ∧ slots + 0 ≤ R.slots) (hn : As.length = n) (hls : ls.size = nL) (hst : st0 = As.reverse ++ rest) (hw : (rest.map fun v => v.category).sum ≤ 8) (hdg : decode cc pc = .ok (.invokestatic idx, 3))
    (kk : ∀ H1 locs1, St G b τ σ' s H1 locs1 → W p l e R s m args below meth c H1 locs1 cells slots Q (F0 m (pc + 3) ls (v :: rest))) : W p l e R s m args below meth c H locs cells slots Q (F0 m pc ls st0) :=
  r_run S ⟨As.toArray, va_runSN (As := As) (rest := rest) ⟨C.1, C.2.1, C.2.2.1, C.2.2.2.1, C.2.2.2.2⟩ hM ⟨cb_nest C hm hl hz hR, C.2.2.2.2 _ hv, trivial⟩ ⟨fb_pre, fun U hU hW => ⟨rfl, S.pre hU hW⟩⟩ rfl hn hls hst (lv_room hw) hdg hz2⟩ kk
theorem r_callSNn {y : MethodName} {cc' : ByteArray} {nL' n : Nat} {ret' : Option FieldType} {rm : Room} {idx : Nat} {As : List Value} {σ' : Sg} {host : String} {st0 : List Value} (C : Cx p s m args c own cc nL) (S : St G b τ σ s H locs) (hM : Ctr l y cc' nL' ret' rm G b τ As σ σ' none) (hm : MI y cc' nL' ret' n) (hl : va_Nw (.methodLinkNest own idx y host) s) (hv : Cond.static y ∈ GW) (hz : rm.cells = 0 ∧ rm.slots = 0) (hR : rm.frames + 1 ≤ R.frames ∧ 8 + (nL' + 11) + rm.locals ≤ R.locals) (hz2 : cells + 0 ≤ R.cells ∧ slots + 0 ≤ R.slots) (hn : As.length = n) (hls : ls.size = nL) (hst : st0 = As.reverse ++ rest) (hw : (rest.map fun v => v.category).sum ≤ 8) (hdg : decode cc pc = .ok (.invokestatic idx, 3))
    (kk : ∀ H1 locs1, St G b τ σ' s H1 locs1 → W p l e R s m args below meth c H1 locs1 cells slots Q (F0 m (pc + 3) ls (rest))) : W p l e R s m args below meth c H locs cells slots Q (F0 m pc ls st0) :=
  r_run S ⟨As.toArray, va_runSN (As := As) (rest := rest) ⟨C.1, C.2.1, C.2.2.1, C.2.2.2.1, C.2.2.2.2⟩ hM ⟨cb_nest C hm hl hz hR, C.2.2.2.2 _ hv, trivial⟩ ⟨fb_pre, fun U hU hW => ⟨rfl, S.pre hU hW⟩⟩ rfl hn hls hst (lv_room hw) hdg hz2⟩ kk
/-- how a method's walk ends -/
def EndR (p : Program) (l : Launch) (e : Env) (R : Room) (s : State) (m : MethodId) (args : Array Value) (below : List Frame) (meth : Method) (c : Code) (Q : State → Prop) (G : Gd) (b : Bool) (τ : Sg) (cc : ByteArray) (ins : Instr) (st : List Value) (σ' : Sg) : Prop :=
  ∀ H locs pc ls, St G b τ σ' s H locs → decode cc pc = .ok (ins, 1) → W p l e R s m args below meth c H locs 0 0 Q (F0 m pc ls st)
end RW
