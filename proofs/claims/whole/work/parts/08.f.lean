/-! ===== the pure pictures of the methods ===== -/
theorem rvS_0 {s : State} {H : Heap} {locs : List Loc} {G : Gd} {b : Bool} {τ σ : Sg} (S : St G b τ σ s H locs) : ∃ cell : Cell, H[G.1 80]? = some cell ∧ cell.vm.isStatics = false ∧ s.vm.findClass RJ0 = some cell.cls := rvS S (i0 := 0) (by decide)
theorem rvS_1 {s : State} {H : Heap} {locs : List Loc} {G : Gd} {b : Bool} {τ σ : Sg} (S : St G b τ σ s H locs) : ∃ cell : Cell, H[G.1 81]? = some cell ∧ cell.vm.isStatics = false ∧ s.vm.findClass RJ0 = some cell.cls := rvS S (i0 := 1) (by decide)
theorem rvS_2 {s : State} {H : Heap} {locs : List Loc} {G : Gd} {b : Bool} {τ σ : Sg} (S : St G b τ σ s H locs) : ∃ cell : Cell, H[G.1 82]? = some cell ∧ cell.vm.isStatics = false ∧ s.vm.findClass RJ0 = some cell.cls := rvS S (i0 := 2) (by decide)
def f_X6_push_b52 (k3 : Int → Int → Sg → Option (Sg)) (v1 : Int) (v2 : Int) (σ : Sg) : Option (Sg) :=
  k3 v1 (v2 + (-8)) σ
def f_X6_push_b3 : Nat → Int → Int → Sg → Option (Sg)
  | 0, _, _, _ => none
  | n + 1, v1, v2, σ => if w32 v2 < 0 then some σ else if w32 (σ 1 1) < 0 then f_X6_push_b52 (f_X6_push_b3 n) v1 v2 σ else if w32 (σ 1 1) < 900 then ck (0 ≤ σ 1 1 ∧ σ 1 1 < 900) <| wr σ 2 (σ 1 1).toNat (((((u32 v1) >>> (u32 v2 % 32)) &&& 255 : Nat) : Int)) fun σ2 => wr σ2 1 1 ((σ2 1 1) + 1) fun σ3 => f_X6_push_b52 (f_X6_push_b3 n) v1 v2 σ3 else f_X6_push_b52 (f_X6_push_b3 n) v1 v2 σ
def f_X6_push (v1 : Int) (σ : Sg) : Option (Sg) :=
  f_X6_push_b3 FUEL v1 24 σ
def f_X9_feed (v1 : Int) (v2 : Int) (v3 : Int) (v4 : Int) (v5 : Int) (σ : Sg) : Option (Int × Sg) :=
  if w32 ((σ 1 1) + 20) ≤ 900 then (f_X6_push v1 σ).bind fun q1 => (f_X6_push v2 q1).bind fun q3 => (f_X6_push v3 q3).bind fun q5 => (f_X6_push v4 q5).bind fun q7 => (f_X6_push v5 q7).bind fun q9 => some ((q9 1 1, q9)) else some (((-1), σ))
def f_X6_at (v1 : Int) (σ : Sg) : Option (Int) :=
  if w32 v1 < 0 then some ((-1)) else if w32 v1 < 900 then ck (0 ≤ v1 ∧ v1 < 900) <| some (σ 2 (v1).toNat) else some ((-1))
def f_X4_skipBlanks_b43 (k0 : Sg → Option (Sg)) (σ : Sg) : Option (Sg) :=
  wr σ 3 4 ((σ 3 4) + 1) fun σ3 => k0 σ3
def f_X4_skipBlanks_b0 : Nat → Sg → Option (Sg)
  | 0, _ => none
  | n + 1, σ => if w32 (σ 3 4) < w32 (σ 3 3) then (f_X6_at (σ 3 4) σ).bind fun q1 => if w32 q1 = 10 then f_X4_skipBlanks_b43 (f_X4_skipBlanks_b0 n) σ else (f_X6_at (σ 3 4) σ).bind fun q4 => if w32 q4 = 32 then f_X4_skipBlanks_b43 (f_X4_skipBlanks_b0 n) σ else some σ else some σ
def f_X4_skipBlanks (σ : Sg) : Option (Sg) :=
  f_X4_skipBlanks_b0 FUEL σ
def f_X4_passWord_b0 : Nat → Sg → Option (Sg)
  | 0, _ => none
  | n + 1, σ => if w32 (σ 3 4) < w32 (σ 3 3) then (f_X6_at (σ 3 4) σ).bind fun q1 => if w32 q1 < 97 then some σ else (f_X6_at (σ 3 4) σ).bind fun q3 => if w32 q3 ≤ 122 then wr σ 3 4 ((σ 3 4) + 1) fun σ5 => (f_X4_passWord_b0 n) σ5 else some σ else some σ
def f_X4_passWord (σ : Sg) : Option (Sg) :=
  f_X4_passWord_b0 FUEL σ
def f_J0_coder_7d493_s0 (σ : Sg) : Option (Int) :=
  some 0
def f_J0_length_8abf5_s0 (σ : Sg) : Option (Int) :=
  (f_J0_coder_7d493_s0 σ).bind fun q1 => some (w32 6 >>> (u32 q1 % 32))
def f_J0_isLatin1_aae02_s0 (σ : Sg) : Option (Int) :=
  some 1
def f_J3_checkIndex_8e157_n (v0 : Int) (v1 : Int) (σ : Sg) : Option (Int) :=
  if w32 v0 < 0 then none else if w32 v0 < w32 v1 then some v0 else none
def f_J0_checkIndex_df160 (v0 : Int) (v1 : Int) (σ : Sg) : Option (Unit) :=
  (f_J3_checkIndex_8e157_n v0 v1 σ).bind fun q1 => some (())
def f_J1_charAt_3b067_y0 (v1 : Int) (σ : Sg) : Option (Int) :=
  (f_J0_checkIndex_df160 v1 6 σ).bind fun q1 => ck (0 ≤ v1 ∧ v1 < 6) <| ck (0 ≤ ((((u32 (zChr 0 (v1).toNat)) &&& 255) % 65536 : Nat) : Int) ∧ ((((u32 (zChr 0 (v1).toNat)) &&& 255) % 65536 : Nat) : Int) < 65536) <| some (((((u32 (zChr 0 (v1).toNat)) &&& 255) % 65536 : Nat) : Int))
def f_J0_charAt_5068e_s0 (v1 : Int) (σ : Sg) : Option (Int) :=
  (f_J0_isLatin1_aae02_s0 σ).bind fun q1 => if w32 q1 = 0 then none else (f_J1_charAt_3b067_y0 v1 σ).bind fun q3 => ck (0 ≤ q3 ∧ q3 < 65536) <| some q3
def f_X4_spells_s0_b17 (σ : Sg) : Nat → Int → Int → Option (Int)
  | 0, _, _ => none
  | n + 1, v1, v3 => (f_J0_length_8abf5_s0 σ).bind fun q3 => if w32 v3 < w32 q3 then (f_X6_at (v1 + v3) σ).bind fun q5 => (f_J0_charAt_5068e_s0 v3 σ).bind fun q7 => if w32 q5 = w32 q7 then (f_X4_spells_s0_b17 σ n) v1 (v3 + 1) else some 0 else some 1
def f_X4_spells_s0 (v1 : Int) (σ : Sg) : Option (Int) :=
  (f_J0_length_8abf5_s0 σ).bind fun q1 => if w32 ((σ 3 4) - v1) = w32 q1 then f_X4_spells_s0_b17 σ FUEL v1 0 else some 0
def f_J0_coder_7d493_s1 (σ : Sg) : Option (Int) :=
  some 0
def f_J0_length_8abf5_s1 (σ : Sg) : Option (Int) :=
  (f_J0_coder_7d493_s1 σ).bind fun q1 => some (w32 6 >>> (u32 q1 % 32))
def f_J0_isLatin1_aae02_s1 (σ : Sg) : Option (Int) :=
  some 1
def f_J1_charAt_3b067_y1 (v1 : Int) (σ : Sg) : Option (Int) :=
  (f_J0_checkIndex_df160 v1 6 σ).bind fun q1 => ck (0 ≤ v1 ∧ v1 < 6) <| ck (0 ≤ ((((u32 (zChr 1 (v1).toNat)) &&& 255) % 65536 : Nat) : Int) ∧ ((((u32 (zChr 1 (v1).toNat)) &&& 255) % 65536 : Nat) : Int) < 65536) <| some (((((u32 (zChr 1 (v1).toNat)) &&& 255) % 65536 : Nat) : Int))
def f_J0_charAt_5068e_s1 (v1 : Int) (σ : Sg) : Option (Int) :=
  (f_J0_isLatin1_aae02_s1 σ).bind fun q1 => if w32 q1 = 0 then none else (f_J1_charAt_3b067_y1 v1 σ).bind fun q3 => ck (0 ≤ q3 ∧ q3 < 65536) <| some q3
def f_X4_spells_s1_b17 (σ : Sg) : Nat → Int → Int → Option (Int)
  | 0, _, _ => none
  | n + 1, v1, v3 => (f_J0_length_8abf5_s1 σ).bind fun q3 => if w32 v3 < w32 q3 then (f_X6_at (v1 + v3) σ).bind fun q5 => (f_J0_charAt_5068e_s1 v3 σ).bind fun q7 => if w32 q5 = w32 q7 then (f_X4_spells_s1_b17 σ n) v1 (v3 + 1) else some 0 else some 1
def f_X4_spells_s1 (v1 : Int) (σ : Sg) : Option (Int) :=
  (f_J0_length_8abf5_s1 σ).bind fun q1 => if w32 ((σ 3 4) - v1) = w32 q1 then f_X4_spells_s1_b17 σ FUEL v1 0 else some 0
def f_X4_complain (v1 : Int) (v2 : Int) (σ : Sg) : Option (Sg) :=
  if w32 (σ 3 7) = 0 then wr σ 3 7 v1 fun σ1 => wr σ1 3 8 v2 fun σ2 => some σ2 else some σ
def f_X4_readEnd_b44 (σ : Sg) : Option (Sg) :=
  (f_X4_complain 1 (σ 3 4) σ).bind fun q6 => some q6
def f_X4_readEnd (σ : Sg) : Option (Sg) :=
  (f_X4_skipBlanks σ).bind fun q1 => if w32 (q1 3 4) < w32 (q1 3 3) then (f_X6_at (q1 3 4) q1).bind fun q3 => if w32 q3 = 59 then wr q1 3 4 ((q1 3 4) + 1) fun σ5 => some σ5 else f_X4_readEnd_b44 q1 else f_X4_readEnd_b44 q1
def f_X4_isDigit (v0 : Int) (σ : Sg) : Option (Int) :=
  if w32 v0 < 48 then some 0 else if w32 v0 ≤ 57 then some 1 else some 0
def f_X4_readNumber_b109 (v3 : Int) (v4 : Int) (σ : Sg) : Option (Int × Sg) :=
  (f_X4_complain 2 v3 σ).bind fun q9 => some ((v4, q9))
def f_X4_readNumber_b80 (v1 : Int) (v2 : Int) (v3 : Int) (v4 : Int) (σ : Sg) : Option (Int × Sg) :=
  if w32 (σ 3 4) = w32 v3 then (f_X4_complain 1 v3 σ).bind fun q7 => some ((v4, q7)) else if w32 v4 < w32 v1 then f_X4_readNumber_b109 v3 v4 σ else if w32 v4 ≤ w32 v2 then some ((v4, σ)) else f_X4_readNumber_b109 v3 v4 σ
def f_X4_readNumber_b12 : Nat → Int → Int → Int → Int → Sg → Option (Int × Sg)
  | 0, _, _, _, _, _ => none
  | n + 1, v1, v2, v3, v4, σ => if w32 (σ 3 4) < w32 (σ 3 3) then (f_X6_at (σ 3 4) σ).bind fun q3 => (f_X4_isDigit q3 σ).bind fun q5 => if w32 q5 = 0 then f_X4_readNumber_b80 v1 v2 v3 v4 σ else (f_X6_at (σ 3 4) σ).bind fun q14 => wr σ 3 4 ((σ 3 4) + 1) fun σ16 => (f_X4_readNumber_b12 n) v1 v2 v3 (mminI 100000000 ((v4 * 10) + (q14 - 48))) σ16 else f_X4_readNumber_b80 v1 v2 v3 v4 σ
def f_X4_readNumber (v1 : Int) (v2 : Int) (σ : Sg) : Option (Int × Sg) :=
  (f_X4_skipBlanks σ).bind fun q1 => f_X4_readNumber_b12 FUEL v1 v2 (q1 3 4) 0 q1
def f_X4_readNumbers_5_z2_z3_b89 (k23 : Int → Int → Sg → Option (Sg)) (v6 : Int) (v7 : Int) (σ : Sg) : Option (Sg) :=
  k23 v6 (v7 + 1) σ
def f_X4_readNumbers_5_z2_z3_b23 : Nat → Int → Int → Sg → Option (Sg)
  | 0, _, _, _ => none
  | n + 1, v6, v7, σ => if w32 v7 < 3 then if w32 v7 < 3 then if w32 (σ 3 7) = 0 then ck (0 ≤ v7 ∧ v7 < 3) <| ck (0 ≤ v7 ∧ v7 < 3) <| (f_X4_readNumber ((zTabs 2).2.2 (v7).toNat) ((zTabs 3).2.2 (v7).toNat) σ).bind fun q3 => if w32 (v6 + v7) < 0 then f_X4_readNumbers_5_z2_z3_b89 (f_X4_readNumbers_5_z2_z3_b23 n) v6 v7 q3.2 else if w32 (v6 + v7) < 18 then ck (0 ≤ v6 + v7 ∧ v6 + v7 < 18) <| wr q3.2 5 (v6 + v7).toNat q3.1 fun σ6 => f_X4_readNumbers_5_z2_z3_b89 (f_X4_readNumbers_5_z2_z3_b23 n) v6 v7 σ6 else f_X4_readNumbers_5_z2_z3_b89 (f_X4_readNumbers_5_z2_z3_b23 n) v6 v7 q3.2 else some σ else some σ else some σ
def f_X4_readNumbers_5_z2_z3_b20 (v6 : Int) (σ : Sg) : Option (Sg) :=
  f_X4_readNumbers_5_z2_z3_b23 FUEL v6 0 σ
def f_X4_readNumbers_5_z2_z3 (v1 : Int) (v2 : Int) (σ : Sg) : Option (Sg) :=
  if w32 (v2 * 3) < 18 then f_X4_readNumbers_5_z2_z3_b20 (v2 * 3) σ else (f_X4_complain 2 v1 σ).bind fun q12 => f_X4_readNumbers_5_z2_z3_b20 (v2 * 3) q12
def f_X4_readNumbers_4_z0_z1_b89 (k23 : Int → Int → Sg → Option (Sg)) (v6 : Int) (v7 : Int) (σ : Sg) : Option (Sg) :=
  k23 v6 (v7 + 1) σ
def f_X4_readNumbers_4_z0_z1_b23 : Nat → Int → Int → Sg → Option (Sg)
  | 0, _, _, _ => none
  | n + 1, v6, v7, σ => if w32 v7 < 4 then if w32 v7 < 4 then if w32 (σ 3 7) = 0 then ck (0 ≤ v7 ∧ v7 < 4) <| ck (0 ≤ v7 ∧ v7 < 4) <| (f_X4_readNumber ((zTabs 0).2.2 (v7).toNat) ((zTabs 1).2.2 (v7).toNat) σ).bind fun q3 => if w32 (v6 + v7) < 0 then f_X4_readNumbers_4_z0_z1_b89 (f_X4_readNumbers_4_z0_z1_b23 n) v6 v7 q3.2 else if w32 (v6 + v7) < 96 then ck (0 ≤ v6 + v7 ∧ v6 + v7 < 96) <| wr q3.2 4 (v6 + v7).toNat q3.1 fun σ6 => f_X4_readNumbers_4_z0_z1_b89 (f_X4_readNumbers_4_z0_z1_b23 n) v6 v7 σ6 else f_X4_readNumbers_4_z0_z1_b89 (f_X4_readNumbers_4_z0_z1_b23 n) v6 v7 q3.2 else some σ else some σ else some σ
def f_X4_readNumbers_4_z0_z1_b20 (v6 : Int) (σ : Sg) : Option (Sg) :=
  f_X4_readNumbers_4_z0_z1_b23 FUEL v6 0 σ
def f_X4_readNumbers_4_z0_z1 (v1 : Int) (v2 : Int) (σ : Sg) : Option (Sg) :=
  if w32 (v2 * 4) < 96 then f_X4_readNumbers_4_z0_z1_b20 (v2 * 4) σ else (f_X4_complain 2 v1 σ).bind fun q12 => f_X4_readNumbers_4_z0_z1_b20 (v2 * 4) q12
def f_X4_readLine_b99 (σ : Sg) : Option (Sg) :=
  (f_X4_readEnd σ).bind fun q9 => some q9
def f_X4_readLine (σ : Sg) : Option (Sg) :=
  (f_X4_passWord σ).bind fun q1 => (f_X4_spells_s0 (σ 3 4) q1).bind fun q3 => if w32 q3 = 0 then (f_X4_spells_s1 (σ 3 4) q1).bind fun q5 => if w32 q5 = 0 then (f_X4_complain 1 (σ 3 4) q1).bind fun q7 => f_X4_readLine_b99 q7 else (f_X4_readNumbers_5_z2_z3 (σ 3 4) (q1 3 6) q1).bind fun q11 => wr q11 3 6 ((q11 3 6) + 1) fun σ13 => f_X4_readLine_b99 σ13 else (f_X4_readNumbers_4_z0_z1 (σ 3 4) (q1 3 5) q1).bind fun q15 => wr q15 3 5 ((q15 3 5) + 1) fun σ17 => f_X4_readLine_b99 σ17
def f_X4_read_b36 : Nat → Int → Sg → Option (Sg)
  | 0, _, _ => none
  | n + 1, v2, σ => if w32 v2 < 900 then if w32 (σ 3 4) < w32 (σ 3 3) then if w32 (σ 3 7) = 0 then (f_X4_readLine σ).bind fun q9 => (f_X4_skipBlanks q9).bind fun q11 => (f_X4_read_b36 n) (v2 + 1) q11 else some σ else some σ else some σ
def f_X4_read (v1 : Int) (σ : Sg) : Option (Sg) :=
  wr σ 3 3 v1 fun σ1 => wr σ1 3 4 0 fun σ2 => wr σ2 3 5 0 fun σ3 => wr σ3 3 6 0 fun σ4 => wr σ4 3 7 0 fun σ5 => wr σ5 3 8 ((-1)) fun σ6 => (f_X4_skipBlanks σ6).bind fun q7 => f_X4_read_b36 FUEL 0 q7
def f_J7_fill_53178_9_b5 : Nat → Int → Int → Int → Sg → Option (Sg)
  | 0, _, _, _, _ => none
  | n + 1, v1, v2, v3, σ => if w32 v2 < w32 v3 then ck (0 ≤ v2 ∧ v2 < 24) <| wr σ 9 (v2).toNat v1 fun σ2 => (f_J7_fill_53178_9_b5 n) v1 (v2 + 1) v3 σ2 else some σ
def f_J7_fill_53178_9 (v1 : Int) (σ : Sg) : Option (Sg) :=
  f_J7_fill_53178_9_b5 FUEL v1 0 24 σ
def f_J7_fill_53178_11_b5 : Nat → Int → Int → Int → Sg → Option (Sg)
  | 0, _, _, _, _ => none
  | n + 1, v1, v2, v3, σ => if w32 v2 < w32 v3 then ck (0 ≤ v2 ∧ v2 < 768) <| wr σ 11 (v2).toNat v1 fun σ2 => (f_J7_fill_53178_11_b5 n) v1 (v2 + 1) v3 σ2 else some σ
def f_J7_fill_53178_11 (v1 : Int) (σ : Sg) : Option (Sg) :=
  f_J7_fill_53178_11_b5 FUEL v1 0 768 σ
def f_X0_clear (σ : Sg) : Option (Sg) :=
  wr σ 6 5 0 fun σ1 => (f_J7_fill_53178_9 0 σ1).bind fun q2 => (f_J7_fill_53178_11 0 q2).bind fun q4 => some q4
def f_X4_ofPolicy (v1 : Int) (v2 : Int) (σ : Sg) : Option (Int) :=
  if w32 ((v1 * 4) + v2) < 0 then some 0 else if w32 ((v1 * 4) + v2) < 96 then ck (0 ≤ (v1 * 4) + v2 ∧ (v1 * 4) + v2 < 96) <| some (σ 4 ((v1 * 4) + v2).toNat) else some 0
def f_X9_isNumber (v0 : Int) (σ : Sg) : Option (Int) :=
  if w32 v0 < 0 then some 0 else if w32 v0 < 24 then some 1 else some 0
def f_X0_shift (v1 : Int) (v2 : Int) (v3 : Int) (σ : Sg) : Option (Sg) :=
  (f_X9_isNumber v1 σ).bind fun q1 => if w32 q1 = 0 then some σ else ck (0 ≤ v1 ∧ v1 < 24) <| wr σ 7 (v1).toNat v2 fun σ4 => ck (0 ≤ v1 ∧ v1 < 24) <| wr σ4 8 (v1).toNat v3 fun σ6 => some σ6
def f_X9_contains (v0 : Int) (v1 : Int) (σ : Sg) : Option (Int) :=
  if w32 (((((u32 v0) >>> (u32 v1 % 32)) &&& 1 : Nat) : Int)) = 0 then some 0 else some 1
def f_X0_weigh_b83 (k36 : Int → Int → Int → Int → Sg → Option (Sg)) (v1 : Int) (v3 : Int) (v4 : Int) (v5 : Int) (σ : Sg) : Option (Sg) :=
  k36 v1 v3 v4 (v5 + 1) σ
def f_X0_weigh_b36 : Nat → Int → Int → Int → Int → Sg → Option (Sg)
  | 0, _, _, _, _, _ => none
  | n + 1, v1, v3, v4, v5, σ => if w32 v5 < 256 then (f_X9_contains v5 ((((u32 v1) &&& 7 : Nat) : Int)) σ).bind fun q6 => if w32 q6 = 0 then f_X0_weigh_b83 (f_X0_weigh_b36 n) v1 v3 v4 v5 σ else if w32 (v4 + v5) < 768 then ck (0 ≤ v4 + v5 ∧ v4 + v5 < 768) <| ck (0 ≤ v4 + v5 ∧ v4 + v5 < 768) <| wr σ 11 (v4 + v5).toNat ((σ 11 (v4 + v5).toNat) + v3) fun σ10 => f_X0_weigh_b83 (f_X0_weigh_b36 n) v1 v3 v4 v5 σ10 else f_X0_weigh_b83 (f_X0_weigh_b36 n) v1 v3 v4 v5 σ else some σ
def f_X0_weigh (v1 : Int) (v2 : Int) (σ : Sg) : Option (Sg) :=
  (f_X9_isNumber v1 σ).bind fun q1 => if w32 q1 = 0 then some σ else ck (0 ≤ v1 ∧ v1 < 24) <| ck (0 ≤ v1 ∧ v1 < 24) <| wr σ 9 (v1).toNat v2 fun σ5 => f_X0_weigh_b36 FUEL v1 (v2 - (σ 9 (v1).toNat)) (((((u32 v1) >>> 3 : Nat) : Int)) * 256) 0 σ5
def f_X0_enter (v1 : Int) (v2 : Int) (v3 : Int) (v4 : Int) (v5 : Int) (σ : Sg) : Option (Sg) :=
  (f_X9_isNumber v1 σ).bind fun q1 => if w32 q1 = 0 then some σ else wr σ 6 5 ((((u32 (σ 6 5)) ||| (u32 (1 * ((2 ^ (u32 v1 % 32) : Nat) : Int))) : Nat) : Int)) fun σ3 => ck (0 ≤ v1 ∧ v1 < 24) <| wr σ3 10 (v1).toNat v5 fun σ5 => (f_X0_shift v1 v2 v3 σ5).bind fun q6 => (f_X0_weigh v1 v4 q6).bind fun q8 => some q8
def f_X4_ofTreaty (v1 : Int) (v2 : Int) (σ : Sg) : Option (Int) :=
  if w32 ((v1 * 3) + v2) < 0 then some 0 else if w32 ((v1 * 3) + v2) < 18 then ck (0 ≤ (v1 * 3) + v2 ∧ (v1 * 3) + v2 < 18) <| some (σ 5 ((v1 * 3) + v2).toNat) else some 0
def f_X8_agree (d : Nat) (v1 : Int) (v2 : Int) (v3 : Int) (σ : Sg) : Option (Sg) :=
  ck (d < 6) <| wr σ (21 + d) 2 v1 fun σ1 => wr σ1 (21 + d) 3 v2 fun σ2 => wr σ2 (21 + d) 4 v3 fun σ3 => wr σ3 (21 + d) 7 ((-2)) fun σ4 => wr σ4 (21 + d) 8 0 fun σ5 => some σ5
def f_X0_ofPerils_b40 (σ : Sg) (k4 : Int → Int → Int → Option (Int)) (v1 : Int) (v2 : Int) (v3 : Int) : Option (Int) :=
  k4 v1 v2 (v3 + 1)
def f_X0_ofPerils_b4 (σ : Sg) : Nat → Int → Int → Int → Option (Int)
  | 0, _, _, _ => none
  | n + 1, v1, v2, v3 => if w32 v3 < 24 then (f_X9_contains (σ 6 5) v3 σ).bind fun q1 => if w32 q1 = 0 then f_X0_ofPerils_b40 σ (f_X0_ofPerils_b4 σ n) v1 v2 v3 else ck (0 ≤ v3 ∧ v3 < 24) <| (f_X9_contains v1 (σ 10 (v3).toNat) σ).bind fun q4 => if w32 q4 = 0 then f_X0_ofPerils_b40 σ (f_X0_ofPerils_b4 σ n) v1 v2 v3 else f_X0_ofPerils_b40 σ (f_X0_ofPerils_b4 σ n) v1 ((((u32 v2) ||| (u32 (1 * ((2 ^ (u32 v3 % 32) : Nat) : Int))) : Nat) : Int)) v3 else some v2
def f_X0_ofPerils (v1 : Int) (σ : Sg) : Option (Int) :=
  f_X0_ofPerils_b4 σ FUEL v1 0 0
def f_J7_fill_53178_34_b5 (d : Nat) : Nat → Int → Int → Int → Sg → Option (Sg)
  | 0, _, _, _, _ => none
  | n + 1, v1, v2, v3, σ => if w32 v2 < w32 v3 then ck (0 ≤ v2 ∧ v2 < 576) <| wr σ (34 + d) (v2).toNat v1 fun σ2 => (f_J7_fill_53178_34_b5 d n) v1 (v2 + 1) v3 σ2 else some σ
def f_J7_fill_53178_34 (d : Nat) (v1 : Int) (σ : Sg) : Option (Sg) :=
  ck (d < 7) <| f_J7_fill_53178_34_b5 d FUEL v1 0 576 σ
def f_X0_within_b73 (σ : Sg) (k6 : Int → Int → Int → Int → Int → Option (Int)) (v1 : Int) (v2 : Int) (v3 : Int) (v4 : Int) (v5 : Int) : Option (Int) :=
  k6 v1 v2 v3 v4 (v5 + 1)
def f_X0_within_b6 (σ : Sg) : Nat → Int → Int → Int → Int → Int → Option (Int)
  | 0, _, _, _, _, _ => none
  | n + 1, v1, v2, v3, v4, v5 => if w32 v5 < 24 then ck (0 ≤ v5 ∧ v5 < 24) <| ck (0 ≤ v5 ∧ v5 < 24) <| (f_X9_contains (σ 6 5) v5 σ).bind fun q3 => if w32 q3 = 0 then f_X0_within_b73 σ (f_X0_within_b6 σ n) v1 v2 v3 v4 v5 else if w32 ((((σ 7 (v5).toNat) - v1) * ((σ 7 (v5).toNat) - v1)) + (((σ 8 (v5).toNat) - v2) * ((σ 8 (v5).toNat) - v2))) ≤ w32 (v3 * v3) then f_X0_within_b73 σ (f_X0_within_b6 σ n) v1 v2 v3 ((((u32 v4) ||| (u32 (1 * ((2 ^ (u32 v5 % 32) : Nat) : Int))) : Nat) : Int)) v5 else f_X0_within_b73 σ (f_X0_within_b6 σ n) v1 v2 v3 v4 v5 else some v4
def f_X0_within (v1 : Int) (v2 : Int) (v3 : Int) (σ : Sg) : Option (Int) :=
  f_X0_within_b6 σ FUEL v1 v2 v3 0 0
def f_X9_sides_b64 (σ : Sg) (v6 : Int) (v10 : Int) (v12 : Int) (w0 : Int) : Option (Int) :=
  if w64 v6 ≤ 0 then if w64 v10 < w64 v12 then some w0 else some 3 else if w64 v10 ≤ w64 v12 then some w0 else some 0
def f_X9_sides (v0 : Int) (v1 : Int) (v2 : Int) (v3 : Int) (v4 : Int) (v5 : Int) (σ : Sg) : Option (Int) :=
  if w64 (((w32 v0) * (w32 v3)) - ((w32 v1) * (w32 v2))) ≤ 0 then f_X9_sides_b64 σ (((w32 v2) * (w32 (v2 - v0))) + ((w32 v3) * (w32 (v3 - v1)))) (((((w32 v2) * (w32 (v2 - v0))) + ((w32 v3) * (w32 (v3 - v1)))) * (((w32 v2) * (w32 (v2 - v0))) + ((w32 v3) * (w32 (v3 - v1))))) * (w32 v4)) (((((w32 v0) * (w32 v3)) - ((w32 v1) * (w32 v2))) * (((w32 v0) * (w32 v3)) - ((w32 v1) * (w32 v2)))) * (w32 v5)) 2 else f_X9_sides_b64 σ (((w32 v2) * (w32 (v2 - v0))) + ((w32 v3) * (w32 (v3 - v1)))) (((((w32 v2) * (w32 (v2 - v0))) + ((w32 v3) * (w32 (v3 - v1)))) * (((w32 v2) * (w32 (v2 - v0))) + ((w32 v3) * (w32 (v3 - v1))))) * (w32 v4)) (((((w32 v0) * (w32 v3)) - ((w32 v1) * (w32 v2))) * (((w32 v0) * (w32 v3)) - ((w32 v1) * (w32 v2)))) * (w32 v5)) 1
def f_X2_sidesAt (d : Nat) (v1 : Int) (v2 : Int) (v3 : Int) (v4 : Int) (σ : Sg) : Option (Int) :=
  ck (d < 7) <| (f_X9_isNumber v1 σ).bind fun q1 => if w32 q1 = 0 then some 0 else (f_X9_isNumber v2 σ).bind fun q3 => if w32 q3 = 0 then some 0 else ck (0 ≤ v2 ∧ v2 < 24) <| ck (0 ≤ v1 ∧ v1 < 24) <| ck (0 ≤ v2 ∧ v2 < 24) <| ck (0 ≤ v1 ∧ v1 < 24) <| if w32 ((((σ 7 (v2).toNat) - (σ 7 (v1).toNat)) * ((σ 7 (v2).toNat) - (σ 7 (v1).toNat))) + (((σ 8 (v2).toNat) - (σ 8 (v1).toNat)) * ((σ 8 (v2).toNat) - (σ 8 (v1).toNat)))) = 0 then some 0 else if w32 (((4 * (σ (27 + d) 2)) * (σ (27 + d) 2)) - ((((σ 7 (v2).toNat) - (σ 7 (v1).toNat)) * ((σ 7 (v2).toNat) - (σ 7 (v1).toNat))) + (((σ 8 (v2).toNat) - (σ 8 (v1).toNat)) * ((σ 8 (v2).toNat) - (σ 8 (v1).toNat))))) < 0 then some 0 else ck (0 ≤ v1 ∧ v1 < 24) <| ck (0 ≤ v1 ∧ v1 < 24) <| (f_X9_sides ((σ 7 (v2).toNat) - (σ 7 (v1).toNat)) ((σ 8 (v2).toNat) - (σ 8 (v1).toNat)) (v3 - (σ 7 (v1).toNat)) (v4 - (σ 8 (v1).toNat)) ((((σ 7 (v2).toNat) - (σ 7 (v1).toNat)) * ((σ 7 (v2).toNat) - (σ 7 (v1).toNat))) + (((σ 8 (v2).toNat) - (σ 8 (v1).toNat)) * ((σ 8 (v2).toNat) - (σ 8 (v1).toNat)))) (((4 * (σ (27 + d) 2)) * (σ (27 + d) 2)) - ((((σ 7 (v2).toNat) - (σ 7 (v1).toNat)) * ((σ 7 (v2).toNat) - (σ 7 (v1).toNat))) + (((σ 8 (v2).toNat) - (σ 8 (v1).toNat)) * ((σ 8 (v2).toNat) - (σ 8 (v1).toNat))))) σ).bind fun q11 => some q11
def f_X2_extend_b141 (d : Nat) (k10 : Int → Int → Int → Sg → Option (Sg)) (k21 : Int → Int → Int → Int → Sg → Option (Sg)) (v1 : Int) (v2 : Int) (v3 : Int) (v4 : Int) (σ : Sg) : Option (Sg) :=
  k21 v1 v2 v3 (v4 + 1) σ
def f_X2_extend_b139 (d : Nat) (k10 : Int → Int → Int → Sg → Option (Sg)) (k21 : Int → Int → Int → Int → Sg → Option (Sg)) (v1 : Int) (v2 : Int) (v3 : Int) (v4 : Int) (w0 : Int) (w1 : Int) (w2 : Int) (σ : Sg) : Option (Sg) :=
  ck (0 ≤ w2 ∧ w2 < 576) <| wr σ (34 + d) (w2).toNat ((((u32 w1) ||| (u32 w0) : Nat) : Int)) fun σ16 => f_X2_extend_b141 d k10 k21 v1 v2 v3 v4 σ16
def f_X2_extend_b110 (d : Nat) (k10 : Int → Int → Int → Sg → Option (Sg)) (k21 : Int → Int → Int → Int → Sg → Option (Sg)) (v1 : Int) (v2 : Int) (v3 : Int) (v4 : Int) (v5 : Int) (w0 : Int) (w1 : Int) (w2 : Int) (σ : Sg) : Option (Sg) :=
  ck (0 ≤ w2 ∧ w2 < 576) <| wr σ (34 + d) (w2).toNat ((((u32 w1) ||| (u32 w0) : Nat) : Int)) fun σ13 => ck (0 ≤ (v4 * 24) + v3 ∧ (v4 * 24) + v3 < 576) <| if w32 ((((u32 v5) &&& 2 : Nat) : Int)) = 0 then f_X2_extend_b139 d k10 k21 v1 v2 v3 v4 0 (σ13 (34 + d) ((v4 * 24) + v3).toNat) ((v4 * 24) + v3) σ13 else f_X2_extend_b139 d k10 k21 v1 v2 v3 v4 (1 * ((2 ^ (u32 v1 % 32) : Nat) : Int)) (σ13 (34 + d) ((v4 * 24) + v3).toNat) ((v4 * 24) + v3) σ13
def f_X2_extend_b147 (d : Nat) (k10 : Int → Int → Int → Sg → Option (Sg)) (v1 : Int) (v2 : Int) (v3 : Int) (σ : Sg) : Option (Sg) :=
  k10 v1 v2 (v3 + 1) σ
def f_X2_extend_b21 (d : Nat) (k10 : Int → Int → Int → Sg → Option (Sg)) : Nat → Int → Int → Int → Int → Sg → Option (Sg)
  | 0, _, _, _, _, _ => none
  | n + 1, v1, v2, v3, v4, σ => if w32 v4 < 24 then (f_X9_contains v2 v3 σ).bind fun q3 => if w32 q3 = 0 then f_X2_extend_b141 d k10 (f_X2_extend_b21 d k10 n) v1 v2 v3 v4 σ else (f_X9_contains v2 v4 σ).bind fun q5 => if w32 q5 = 0 then f_X2_extend_b141 d k10 (f_X2_extend_b21 d k10 n) v1 v2 v3 v4 σ else if w32 v3 = w32 v1 then f_X2_extend_b141 d k10 (f_X2_extend_b21 d k10 n) v1 v2 v3 v4 σ else if w32 v4 = w32 v1 then f_X2_extend_b141 d k10 (f_X2_extend_b21 d k10 n) v1 v2 v3 v4 σ else ck (0 ≤ v1 ∧ v1 < 24) <| ck (0 ≤ v1 ∧ v1 < 24) <| (f_X2_sidesAt d v3 v4 (σ 7 (v1).toNat) (σ 8 (v1).toNat) σ).bind fun q9 => ck (0 ≤ (v3 * 24) + v4 ∧ (v3 * 24) + v4 < 576) <| if w32 ((((u32 q9) &&& 1 : Nat) : Int)) = 0 then f_X2_extend_b110 d k10 (f_X2_extend_b21 d k10 n) v1 v2 v3 v4 q9 0 (σ (34 + d) ((v3 * 24) + v4).toNat) ((v3 * 24) + v4) σ else f_X2_extend_b110 d k10 (f_X2_extend_b21 d k10 n) v1 v2 v3 v4 q9 (1 * ((2 ^ (u32 v1 % 32) : Nat) : Int)) (σ (34 + d) ((v3 * 24) + v4).toNat) ((v3 * 24) + v4) σ else f_X2_extend_b147 d k10 v1 v2 v3 σ
def f_X2_extend_b10 (d : Nat) : Nat → Int → Int → Int → Sg → Option (Sg)
  | 0, _, _, _, _ => none
  | n + 1, v1, v2, v3, σ => if w32 v3 < 24 then f_X2_extend_b21 d (f_X2_extend_b10 d n) FUEL v1 v2 v3 (v3 + 1) σ else some σ
def f_X2_extend (d : Nat) (v1 : Int) (v2 : Int) (σ : Sg) : Option (Sg) :=
  ck (d < 7) <| (f_X9_isNumber v1 σ).bind fun q1 => if w32 q1 = 0 then some σ else f_X2_extend_b10 d FUEL v1 v2 0 σ
def f_X2_holdBoth_b188 (d : Nat) (k76 : Int → Int → Int → Int → Int → Int → Int → Int → Sg → Option (Sg)) (v1 : Int) (v2 : Int) (v4 : Int) (v5 : Int) (v6 : Int) (v7 : Int) (v8 : Int) (v9 : Int) (σ : Sg) : Option (Sg) :=
  k76 v1 v2 v4 v5 v6 v7 v8 (v9 + 1) σ
def f_X2_holdBoth_b184 (d : Nat) (k76 : Int → Int → Int → Int → Int → Int → Int → Int → Sg → Option (Sg)) (v1 : Int) (v2 : Int) (v4 : Int) (v5 : Int) (v6 : Int) (v7 : Int) (v8 : Int) (v9 : Int) (w0 : Int) (w1 : Int) (σ : Sg) : Option (Sg) :=
  wr σ (27 + d) 4 ((((u32 w1) ||| (u32 w0) : Nat) : Int)) fun σ14 => f_X2_holdBoth_b188 d k76 v1 v2 v4 v5 v6 v7 v8 v9 σ14
def f_X2_holdBoth_b160 (d : Nat) (k76 : Int → Int → Int → Int → Int → Int → Int → Int → Sg → Option (Sg)) (v1 : Int) (v2 : Int) (v4 : Int) (v5 : Int) (v6 : Int) (v7 : Int) (v8 : Int) (v9 : Int) (v10 : Int) (w0 : Int) (w1 : Int) (σ : Sg) : Option (Sg) :=
  wr σ (27 + d) 3 ((((u32 w1) ||| (u32 w0) : Nat) : Int)) fun σ13 => if w32 ((((u32 v10) &&& 2 : Nat) : Int)) = 0 then f_X2_holdBoth_b184 d k76 v1 v2 v4 v5 v6 v7 v8 v9 0 (σ13 (27 + d) 4) σ13 else f_X2_holdBoth_b184 d k76 v1 v2 v4 v5 v6 v7 v8 v9 (1 * ((2 ^ (u32 v9 % 32) : Nat) : Int)) (σ13 (27 + d) 4) σ13
def f_X2_holdBoth_b76 (d : Nat) : Nat → Int → Int → Int → Int → Int → Int → Int → Int → Sg → Option (Sg)
  | 0, _, _, _, _, _, _, _, _, _ => none
  | n + 1, v1, v2, v4, v5, v6, v7, v8, v9, σ => if w32 v9 < 24 then if w32 v7 ≤ 0 then some σ else if w32 v8 < 0 then some σ else (f_X9_contains v4 v9 σ).bind fun q7 => if w32 q7 = 0 then f_X2_holdBoth_b188 d (f_X2_holdBoth_b76 d n) v1 v2 v4 v5 v6 v7 v8 v9 σ else ck (0 ≤ v9 ∧ v9 < 24) <| ck (0 ≤ v9 ∧ v9 < 24) <| (f_X9_sides v5 v6 ((σ 7 (v9).toNat) - v1) ((σ 8 (v9).toNat) - v2) v7 v8 σ).bind fun q11 => if w32 ((((u32 q11) &&& 1 : Nat) : Int)) = 0 then f_X2_holdBoth_b160 d (f_X2_holdBoth_b76 d n) v1 v2 v4 v5 v6 v7 v8 v9 q11 0 (σ (27 + d) 3) σ else f_X2_holdBoth_b160 d (f_X2_holdBoth_b76 d n) v1 v2 v4 v5 v6 v7 v8 v9 q11 (1 * ((2 ^ (u32 v9 % 32) : Nat) : Int)) (σ (27 + d) 3) σ else some σ
def f_X2_holdBoth (d : Nat) (v1 : Int) (v2 : Int) (v3 : Int) (v4 : Int) (σ : Sg) : Option (Sg) :=
  ck (d < 7) <| wr σ (27 + d) 3 0 fun σ1 => wr σ1 (27 + d) 4 0 fun σ2 => (f_X9_isNumber v3 σ2).bind fun q3 => if w32 q3 = 0 then some σ2 else ck (0 ≤ v3 ∧ v3 < 24) <| ck (0 ≤ v3 ∧ v3 < 24) <| f_X2_holdBoth_b76 d FUEL v1 v2 v4 ((σ2 7 (v3).toNat) - v1) ((σ2 8 (v3).toNat) - v2) ((((σ2 7 (v3).toNat) - v1) * ((σ2 7 (v3).toNat) - v1)) + (((σ2 8 (v3).toNat) - v2) * ((σ2 8 (v3).toNat) - v2))) (((4 * (σ2 (27 + d) 2)) * (σ2 (27 + d) 2)) - ((((σ2 7 (v3).toNat) - v1) * ((σ2 7 (v3).toNat) - v1)) + (((σ2 8 (v3).toNat) - v2) * ((σ2 8 (v3).toNat) - v2)))) 0 σ2
def f_X2_add_b226 (d : Nat) (k101 : Int → Int → Int → Int → Sg → Option (Sg)) (v1 : Int) (v2 : Int) (v3 : Int) (v4 : Int) (σ : Sg) : Option (Sg) :=
  k101 v1 v2 v3 (v4 + 1) σ
def f_X2_add_b180 (d : Nat) (k101 : Int → Int → Int → Int → Sg → Option (Sg)) (v1 : Int) (v2 : Int) (v3 : Int) (v4 : Int) (σ : Sg) : Option (Sg) :=
  (f_X9_contains v3 v4 σ).bind fun q16 => if w32 q16 = 0 then f_X2_add_b226 d k101 v1 v2 v3 v4 σ else ck (0 ≤ (v1 * 24) + v1 ∧ (v1 * 24) + v1 < 576) <| ck (0 ≤ (v1 * 24) + v1 ∧ (v1 * 24) + v1 < 576) <| wr σ (34 + d) ((v1 * 24) + v1).toNat ((((u32 (σ (34 + d) ((v1 * 24) + v1).toNat)) ||| (u32 (1 * ((2 ^ (u32 v4 % 32) : Nat) : Int))) : Nat) : Int)) fun σ20 => ck (0 ≤ (v4 * 24) + v4 ∧ (v4 * 24) + v4 < 576) <| ck (0 ≤ (v4 * 24) + v4 ∧ (v4 * 24) + v4 < 576) <| wr σ20 (34 + d) ((v4 * 24) + v4).toNat ((((u32 (σ20 (34 + d) ((v4 * 24) + v4).toNat)) ||| (u32 (1 * ((2 ^ (u32 v1 % 32) : Nat) : Int))) : Nat) : Int)) fun σ23 => f_X2_add_b226 d k101 v1 v2 v3 v4 σ23
def f_X2_add_b101 (d : Nat) : Nat → Int → Int → Int → Int → Sg → Option (Sg)
  | 0, _, _, _, _, _ => none
  | n + 1, v1, v2, v3, v4, σ => if w32 v4 < 24 then (f_X9_contains v2 v4 σ).bind fun q14 => if w32 q14 = 0 then f_X2_add_b180 d (f_X2_add_b101 d n) v1 v2 v3 v4 σ else ck (0 ≤ v1 ∧ v1 < 24) <| ck (0 ≤ v1 ∧ v1 < 24) <| (f_X2_holdBoth d (σ 7 (v1).toNat) (σ 8 (v1).toNat) v4 v2 σ).bind fun q27 => ck (0 ≤ (v1 * 24) + v4 ∧ (v1 * 24) + v4 < 576) <| ck (0 ≤ (v1 * 24) + v4 ∧ (v1 * 24) + v4 < 576) <| wr q27 (34 + d) ((v1 * 24) + v4).toNat ((((u32 (q27 (34 + d) ((v1 * 24) + v4).toNat)) ||| (u32 (q27 (27 + d) 3)) : Nat) : Int)) fun σ31 => ck (0 ≤ (v4 * 24) + v1 ∧ (v4 * 24) + v1 < 576) <| ck (0 ≤ (v4 * 24) + v1 ∧ (v4 * 24) + v1 < 576) <| wr σ31 (34 + d) ((v4 * 24) + v1).toNat ((((u32 (σ31 (34 + d) ((v4 * 24) + v1).toNat)) ||| (u32 (σ31 (27 + d) 4)) : Nat) : Int)) fun σ34 => f_X2_add_b180 d (f_X2_add_b101 d n) v1 v2 v3 v4 σ34 else some σ
def f_X2_add (d : Nat) (v1 : Int) (σ : Sg) : Option (Sg) :=
  ck (d < 7) <| (f_X9_isNumber v1 σ).bind fun q1 => if w32 q1 = 0 then some σ else wr σ (27 + d) 5 ((((u32 (σ (27 + d) 5)) ||| (u32 (1 * ((2 ^ (u32 v1 % 32) : Nat) : Int))) : Nat) : Int)) fun σ3 => ck (0 ≤ v1 ∧ v1 < 24) <| ck (0 ≤ v1 ∧ v1 < 24) <| (f_X0_within (σ3 7 (v1).toNat) (σ3 8 (v1).toNat) (2 * (σ3 (27 + d) 2)) σ3).bind fun q6 => ck (0 ≤ v1 ∧ v1 < 24) <| ck (0 ≤ v1 ∧ v1 < 24) <| (f_X0_within (σ3 7 (v1).toNat) (σ3 8 (v1).toNat) (σ3 (27 + d) 2) σ3).bind fun q10 => (f_X2_extend d v1 ((((u32 (σ3 (27 + d) 5)) &&& (u32 q6) : Nat) : Int)) σ3).bind fun q12 => f_X2_add_b101 d FUEL v1 ((((u32 (σ3 (27 + d) 5)) &&& (u32 q6) : Nat) : Int)) ((((u32 (σ3 (27 + d) 5)) &&& (u32 q10) : Nat) : Int)) 0 q12
def f_X2_fill_b39 (d : Nat) (k20 : Int → Int → Sg → Option (Sg)) (v2 : Int) (v3 : Int) (σ : Sg) : Option (Sg) :=
  k20 v2 (v3 + 1) σ
def f_X2_fill_b20 (d : Nat) : Nat → Int → Int → Sg → Option (Sg)
  | 0, _, _, _ => none
  | n + 1, v2, v3, σ => if w32 v3 < 24 then (f_X9_contains v2 v3 σ).bind fun q5 => if w32 q5 = 0 then f_X2_fill_b39 d (f_X2_fill_b20 d n) v2 v3 σ else (f_X2_add d v3 σ).bind fun q7 => f_X2_fill_b39 d (f_X2_fill_b20 d n) v2 v3 q7 else some σ
def f_X2_fill (d : Nat) (v1 : Int) (v2 : Int) (σ : Sg) : Option (Sg) :=
  ck (d < 7) <| wr σ (27 + d) 2 v1 fun σ1 => wr σ1 (27 + d) 5 0 fun σ2 => (f_J7_fill_53178_34 d 0 σ2).bind fun q3 => f_X2_fill_b20 d FUEL v2 0 q3
def f_X0_sums (v1 : Int) (σ : Sg) : Option (Int) :=
  if w32 (512 + (((((u32 v1) >>> 16) &&& 255 : Nat) : Int))) < 768 then ck (0 ≤ (((u32 v1) &&& 255 : Nat) : Int) ∧ (((u32 v1) &&& 255 : Nat) : Int) < 768) <| ck (0 ≤ 256 + (((((u32 v1) >>> 8) &&& 255 : Nat) : Int)) ∧ 256 + (((((u32 v1) >>> 8) &&& 255 : Nat) : Int)) < 768) <| ck (0 ≤ 512 + (((((u32 v1) >>> 16) &&& 255 : Nat) : Int)) ∧ 512 + (((((u32 v1) >>> 16) &&& 255 : Nat) : Int)) < 768) <| some (((σ 11 ((((u32 v1) &&& 255 : Nat) : Int)).toNat) + (σ 11 (256 + (((((u32 v1) >>> 8) &&& 255 : Nat) : Int))).toNat)) + (σ 11 (512 + (((((u32 v1) >>> 16) &&& 255 : Nat) : Int))).toNat)) else some 0
def f_X2_heaviestAmong_b66 (d : Nat) (σ : Sg) (k7 : Int → Int → Int → Int → Option (Int)) (v1 : Int) (v2 : Int) (v3 : Int) (v4 : Int) : Option (Int) :=
  k7 v1 v2 v3 (v4 + 1)
def f_X2_heaviestAmong_b60 (d : Nat) (σ : Sg) (k7 : Int → Int → Int → Int → Option (Int)) (v1 : Int) (v4 : Int) (v5 : Int) (v6 : Int) : Option (Int) :=
  f_X2_heaviestAmong_b66 d σ k7 v1 v5 v6 v4
def f_X2_heaviestAmong_b7 (d : Nat) (σ : Sg) : Nat → Int → Int → Int → Int → Option (Int)
  | 0, _, _, _, _ => none
  | n + 1, v1, v2, v3, v4 => if w32 v4 < 576 then ck (0 ≤ v4 ∧ v4 < 576) <| if w32 ((((u32 (σ (34 + d) (v4).toNat)) &&& (u32 v1) : Nat) : Int)) = 0 then f_X2_heaviestAmong_b66 d σ (f_X2_heaviestAmong_b7 d σ n) v1 v2 v3 v4 else (f_X0_sums ((((u32 (σ (34 + d) (v4).toNat)) &&& (u32 v1) : Nat) : Int)) σ).bind fun q2 => if w32 q2 ≤ w32 v3 then if w32 q2 = w32 v3 then if w32 ((((u32 (σ (34 + d) (v4).toNat)) &&& (u32 v1) : Nat) : Int)) < w32 v2 then f_X2_heaviestAmong_b60 d σ (f_X2_heaviestAmong_b7 d σ n) v1 v4 ((((u32 (σ (34 + d) (v4).toNat)) &&& (u32 v1) : Nat) : Int)) q2 else f_X2_heaviestAmong_b66 d σ (f_X2_heaviestAmong_b7 d σ n) v1 v2 v3 v4 else f_X2_heaviestAmong_b66 d σ (f_X2_heaviestAmong_b7 d σ n) v1 v2 v3 v4 else f_X2_heaviestAmong_b60 d σ (f_X2_heaviestAmong_b7 d σ n) v1 v4 ((((u32 (σ (34 + d) (v4).toNat)) &&& (u32 v1) : Nat) : Int)) q2 else some v2
def f_X2_heaviestAmong (d : Nat) (v1 : Int) (σ : Sg) : Option (Int) :=
  ck (d < 7) <| f_X2_heaviestAmong_b7 d σ FUEL v1 0 0 0
def f_X8_findWorst (d : Nat) (σ : Sg) : Option (Sg) :=
  ck (d < 6) <| (f_X2_heaviestAmong d 16777215 σ).bind fun q1 => wr σ (21 + d) 5 q1 fun σ3 => (f_X0_sums (σ3 (21 + d) 5) σ3).bind fun q4 => wr σ3 (21 + d) 6 q4 fun σ6 => some σ6
def f_X9_treatyAt_b30 (σ : Sg) : Option (Option Nat) :=
  some none
def f_X9_treatyAt (v1 : Int) (σ : Sg) : Option (Option Nat) :=
  if w32 v1 < 0 then f_X9_treatyAt_b30 σ else if w32 v1 < w32 (σ 0 4) then if w32 v1 < 6 then ck (0 ≤ v1 ∧ v1 < 6) <| nmN (v1).toNat fun t2 => some (some t2) else f_X9_treatyAt_b30 σ else f_X9_treatyAt_b30 σ
def f_X8_isPassed (d : Nat) (σ : Sg) : Option (Int) :=
  ck (d < 6) <| if w32 (σ (21 + d) 6) ≤ w32 (σ (21 + d) 4) then some 0 else some 1
def f_X5_note (d : Nat) (v1 : Int) (v2 : Int) (v3 : Int) (σ : Sg) : Option (Sg) :=
  ck (d < 2) <| ck (¬ w32 30 = 0) <| if w32 (((w32 (σ (13 + 2 * d) 2)).tmod (w32 30)) * 3) < 0 then some σ else if w32 ((((w32 (σ (13 + 2 * d) 2)).tmod (w32 30)) * 3) + 2) < 90 then ck (0 ≤ ((w32 (σ (13 + 2 * d) 2)).tmod (w32 30)) * 3 ∧ ((w32 (σ (13 + 2 * d) 2)).tmod (w32 30)) * 3 < 90) <| wr σ (14 + 2 * d) (((w32 (σ (13 + 2 * d) 2)).tmod (w32 30)) * 3).toNat v1 fun σ3 => ck (0 ≤ (((w32 (σ (13 + 2 * d) 2)).tmod (w32 30)) * 3) + 1 ∧ (((w32 (σ (13 + 2 * d) 2)).tmod (w32 30)) * 3) + 1 < 90) <| wr σ3 (14 + 2 * d) ((((w32 (σ (13 + 2 * d) 2)).tmod (w32 30)) * 3) + 1).toNat v2 fun σ5 => ck (0 ≤ (((w32 (σ (13 + 2 * d) 2)).tmod (w32 30)) * 3) + 2 ∧ (((w32 (σ (13 + 2 * d) 2)).tmod (w32 30)) * 3) + 2 < 90) <| wr σ5 (14 + 2 * d) ((((w32 (σ (13 + 2 * d) 2)).tmod (w32 30)) * 3) + 2).toNat v3 fun σ7 => wr σ7 (13 + 2 * d) 2 ((σ7 (13 + 2 * d) 2) + 1) fun σ8 => some σ8 else some σ
def f_X9_lookAt (v1 : Int) (σ : Sg) : Option (Sg) :=
  (f_X9_treatyAt v1 σ).bind fun q1 => oT q1 (some σ) fun t3 => (f_X8_isPassed t3 σ).bind fun q4 => if w32 q4 = 0 then wr σ (21 + t3) 7 ((-2)) fun σ6 => some σ6 else if w32 (σ (21 + t3) 7) = (-2) then wr σ (21 + t3) 7 (σ (13 + 2 * 0) 2) fun σ7 => wr σ7 (21 + t3) 8 ((σ7 (21 + t3) 8) + 1) fun σ8 => (f_X5_note 1 v1 (σ8 (13 + 2 * 0) 2) (σ8 (21 + t3) 6) σ8).bind fun q9 => some q9 else some σ
def f_X9_openTreaty (v1 : Int) (v2 : Int) (v3 : Int) (σ : Sg) : Option (Int × Sg) :=
  if w32 (σ 0 4) < 0 then some (((-2), σ)) else if w32 (σ 0 4) < 6 then ck (0 ≤ σ 0 4 ∧ σ 0 4 < 6) <| nmN (σ 0 4).toNat fun t2 => wr σ 0 4 ((σ 0 4) + 1) fun σ4 => (f_X8_agree t2 v1 v2 v3 σ4).bind fun q5 => (f_X0_ofPerils v1 q5).bind fun q7 => (f_X2_fill t2 v2 q7 q5).bind fun q9 => (f_X8_findWorst t2 q9).bind fun q11 => (f_X9_lookAt (σ 0 4) q11).bind fun q13 => some ((σ 0 4, q13)) else some (((-2), σ))
def f_X9_beginAnew_b101 : Nat → Int → Sg → Option (Sg)
  | 0, _, _ => none
  | n + 1, v1, σ => if w32 v1 < w32 (σ 3 6) then (f_X4_ofTreaty v1 0 σ).bind fun q17 => (f_X4_ofTreaty v1 1 σ).bind fun q19 => (f_X4_ofTreaty v1 2 σ).bind fun q21 => (f_X9_openTreaty q17 q19 q21 σ).bind fun q23 => (f_X9_beginAnew_b101 n) (v1 + 1) q23.2 else some σ
def f_X9_beginAnew_b99 (σ : Sg) : Option (Sg) :=
  f_X9_beginAnew_b101 FUEL 0 σ
def f_X9_beginAnew_b38 : Nat → Int → Sg → Option (Sg)
  | 0, _, _ => none
  | n + 1, v1, σ => if w32 v1 < w32 (σ 3 5) then (f_X4_ofPolicy v1 0 σ).bind fun q7 => (f_X4_ofPolicy v1 1 σ).bind fun q9 => (f_X4_ofPolicy v1 2 σ).bind fun q11 => (f_X4_ofPolicy v1 3 σ).bind fun q13 => (f_X0_enter v1 q7 q9 q11 q13 σ).bind fun q15 => (f_X9_beginAnew_b38 n) (v1 + 1) q15 else f_X9_beginAnew_b99 σ
def f_X9_beginAnew (σ : Sg) : Option (Sg) :=
  (f_X0_clear σ).bind fun q1 => wr q1 (13 + 2 * 0) 2 0 fun σ3 => wr σ3 (13 + 2 * 1) 2 0 fun σ4 => wr σ4 17 0 0 fun σ5 => wr σ5 0 4 0 fun σ6 => f_X9_beginAnew_b38 FUEL 0 σ6
def f_X9_text (v1 : Int) (σ : Sg) : Option (Int × Sg) :=
  if w32 v1 < 0 then some (((-2), σ)) else if w32 v1 ≤ w32 (σ 1 1) then (f_X4_read v1 σ).bind fun q1 => wr q1 1 1 0 fun σ3 => if w32 (σ3 3 7) = 0 then (f_X9_beginAnew σ3).bind fun q4 => some (((q4 3 5) + (q4 3 6), q4)) else some (((-1), σ3)) else some (((-2), σ))
def f_X9_fault (v1 : Int) (σ : Sg) : Option (Int) :=
  if w32 v1 = 0 then some (σ 3 7) else if w32 v1 = 1 then some (σ 3 8) else some ((-1))
def f_X9_isPlace (v0 : Int) (v1 : Int) (σ : Sg) : Option (Int) :=
  if w32 v0 < 0 then some 0 else if w32 v0 < 300 then if w32 v1 < 0 then some 0 else if w32 v1 < 300 then some 1 else some 0 else some 0
def f_X9_isSum (v0 : Int) (σ : Sg) : Option (Int) :=
  if w32 v0 < 1 then some 0 else if w32 v0 ≤ 99999 then some 1 else some 0
def f_X9_isPeril (v0 : Int) (σ : Sg) : Option (Int) :=
  if w32 v0 < 0 then some 0 else if w32 v0 < 4 then some 1 else some 0
def f_X0_leastFree_b2 (σ : Sg) : Nat → Int → Option (Int)
  | 0, _ => none
  | n + 1, v1 => if w32 v1 < 24 then (f_X9_contains (σ 6 5) v1 σ).bind fun q1 => if w32 q1 = 0 then some v1 else (f_X0_leastFree_b2 σ n) (v1 + 1) else some ((-1))
def f_X0_leastFree (σ : Sg) : Option (Int) :=
  f_X0_leastFree_b2 σ FUEL 0
def f_X8_takes (d : Nat) (v1 : Int) (σ : Sg) : Option (Int) :=
  ck (d < 6) <| (f_X9_contains (σ (21 + d) 2) v1 σ).bind fun q1 => ck (q1 = 0 ∨ q1 = 1) <| some q1
def f_X9_joinTreaties_b40 (k2 : Int → Int → Int → Sg → Option (Sg)) (v1 : Int) (v2 : Int) (v3 : Int) (σ : Sg) : Option (Sg) :=
  k2 v1 v2 (v3 + 1) σ
def f_X9_joinTreaties_b2 : Nat → Int → Int → Int → Sg → Option (Sg)
  | 0, _, _, _, _ => none
  | n + 1, v1, v2, v3, σ => if w32 v3 < w32 (σ 0 4) then (f_X9_treatyAt v3 σ).bind fun q1 => oT q1 (f_X9_joinTreaties_b40 (f_X9_joinTreaties_b2 n) v1 v2 v3 σ) fun t3 => (f_X8_takes t3 v2 σ).bind fun q4 => if w32 q4 = 0 then f_X9_joinTreaties_b40 (f_X9_joinTreaties_b2 n) v1 v2 v3 σ else (f_X2_add t3 v1 σ).bind fun q6 => f_X9_joinTreaties_b40 (f_X9_joinTreaties_b2 n) v1 v2 v3 q6 else some σ
def f_X9_joinTreaties (v1 : Int) (v2 : Int) (σ : Sg) : Option (Sg) :=
  f_X9_joinTreaties_b2 FUEL v1 v2 0 σ
def f_X9_tell_b56 (k13 : Int → Int → Sg → Option (Sg)) (v4 : Int) (v5 : Int) (σ : Sg) : Option (Sg) :=
  k13 v4 (v5 + 1) σ
def f_X9_tell_b13 : Nat → Int → Int → Sg → Option (Sg)
  | 0, _, _, _ => none
  | n + 1, v4, v5, σ => if w32 v5 < w32 (σ 0 4) then (f_X9_treatyAt v5 σ).bind fun q3 => oT q3 (f_X9_tell_b56 (f_X9_tell_b13 n) v4 v5 σ) fun t5 => (f_X8_takes t5 v4 σ).bind fun q6 => if w32 q6 = 0 then f_X9_tell_b56 (f_X9_tell_b13 n) v4 v5 σ else (f_X8_findWorst t5 σ).bind fun q8 => (f_X9_lookAt v5 q8).bind fun q10 => f_X9_tell_b56 (f_X9_tell_b13 n) v4 v5 q10 else some σ
def f_X9_tell (v1 : Int) (v2 : Int) (v3 : Int) (v4 : Int) (σ : Sg) : Option (Sg) :=
  (f_X5_note 0 v1 v2 v3 σ).bind fun q1 => f_X9_tell_b13 FUEL v4 0 q1
def f_X9_write (v1 : Int) (v2 : Int) (v3 : Int) (v4 : Int) (σ : Sg) : Option (Int × Sg) :=
  (f_X9_isPlace v1 v2 σ).bind fun q1 => if w32 q1 = 0 then some (((-1), σ)) else (f_X9_isSum v3 σ).bind fun q3 => if w32 q3 = 0 then some (((-1), σ)) else (f_X9_isPeril v4 σ).bind fun q5 => if w32 q5 = 0 then some (((-1), σ)) else (f_X0_leastFree σ).bind fun q7 => if w32 q7 < 0 then some (((-2), σ)) else (f_X0_enter q7 v1 v2 v3 v4 σ).bind fun q9 => (f_X9_joinTreaties q7 v4 q9).bind fun q11 => (f_X9_tell 0 q7 v3 v4 q11).bind fun q13 => some ((q7, q13))
def f_X0_has (v1 : Int) (σ : Sg) : Option (Int) :=
  (f_X9_isNumber v1 σ).bind fun q1 => if w32 q1 = 0 then some 0 else (f_X9_contains (σ 6 5) v1 σ).bind fun q3 => if w32 q3 = 0 then some 0 else some 1
def f_X0_perilOf (v1 : Int) (σ : Sg) : Option (Int) :=
  (f_X9_isNumber v1 σ).bind fun q1 => if w32 q1 = 0 then some 0 else ck (0 ≤ v1 ∧ v1 < 24) <| some (σ 10 (v1).toNat)
def f_X0_xOf (v1 : Int) (σ : Sg) : Option (Int) :=
  (f_X9_isNumber v1 σ).bind fun q1 => if w32 q1 = 0 then some 0 else ck (0 ≤ v1 ∧ v1 < 24) <| some (σ 7 (v1).toNat)
def f_X0_yOf (v1 : Int) (σ : Sg) : Option (Int) :=
  (f_X9_isNumber v1 σ).bind fun q1 => if w32 q1 = 0 then some 0 else ck (0 ≤ v1 ∧ v1 < 24) <| some (σ 8 (v1).toNat)
def f_X0_apart (v1 : Int) (v2 : Int) (v3 : Int) (σ : Sg) : Option (Int) :=
  (f_X0_xOf v1 σ).bind fun q1 => (f_X0_yOf v1 σ).bind fun q3 => some (((q1 - v2) * (q1 - v2)) + ((q3 - v3) * (q3 - v3)))
def f_X2_remove_b52 (d : Nat) : Nat → Int → Int → Sg → Option (Sg)
  | 0, _, _, _ => none
  | n + 1, v1, v2, σ => if w32 v2 < 24 then ck (0 ≤ (v1 * 24) + v2 ∧ (v1 * 24) + v2 < 576) <| wr σ (34 + d) ((v1 * 24) + v2).toNat 0 fun σ8 => ck (0 ≤ (v2 * 24) + v1 ∧ (v2 * 24) + v1 < 576) <| wr σ8 (34 + d) ((v2 * 24) + v1).toNat 0 fun σ10 => (f_X2_remove_b52 d n) v1 (v2 + 1) σ10 else some σ
def f_X2_remove_b50 (d : Nat) (v1 : Int) (σ : Sg) : Option (Sg) :=
  f_X2_remove_b52 d FUEL v1 0 σ
def f_X2_remove_b24 (d : Nat) : Nat → Int → Int → Sg → Option (Sg)
  | 0, _, _, _ => none
  | n + 1, v1, v2, σ => if w32 v2 < 576 then ck (0 ≤ v2 ∧ v2 < 576) <| ck (0 ≤ v2 ∧ v2 < 576) <| wr σ (34 + d) (v2).toNat ((((u32 (σ (34 + d) (v2).toNat)) &&& (u32 (σ (27 + d) 5)) : Nat) : Int)) fun σ6 => (f_X2_remove_b24 d n) v1 (v2 + 1) σ6 else f_X2_remove_b50 d v1 σ
def f_X2_remove (d : Nat) (v1 : Int) (σ : Sg) : Option (Sg) :=
  ck (d < 7) <| (f_X9_isNumber v1 σ).bind fun q1 => if w32 q1 = 0 then some σ else wr σ (27 + d) 5 ((((u32 (σ (27 + d) 5)) &&& ((u32 (1 * ((2 ^ (u32 v1 % 32) : Nat) : Int))) ^^^ 4294967295) : Nat) : Int)) fun σ3 => f_X2_remove_b24 d FUEL v1 0 σ3
def f_X9_leaveTreaties_b40 (k2 : Int → Int → Int → Sg → Option (Sg)) (v1 : Int) (v2 : Int) (v3 : Int) (σ : Sg) : Option (Sg) :=
  k2 v1 v2 (v3 + 1) σ
def f_X9_leaveTreaties_b2 : Nat → Int → Int → Int → Sg → Option (Sg)
  | 0, _, _, _, _ => none
  | n + 1, v1, v2, v3, σ => if w32 v3 < w32 (σ 0 4) then (f_X9_treatyAt v3 σ).bind fun q1 => oT q1 (f_X9_leaveTreaties_b40 (f_X9_leaveTreaties_b2 n) v1 v2 v3 σ) fun t3 => (f_X8_takes t3 v2 σ).bind fun q4 => if w32 q4 = 0 then f_X9_leaveTreaties_b40 (f_X9_leaveTreaties_b2 n) v1 v2 v3 σ else (f_X2_remove t3 v1 σ).bind fun q6 => f_X9_leaveTreaties_b40 (f_X9_leaveTreaties_b2 n) v1 v2 v3 q6 else some σ
def f_X9_leaveTreaties (v1 : Int) (v2 : Int) (σ : Sg) : Option (Sg) :=
  f_X9_leaveTreaties_b2 FUEL v1 v2 0 σ
def f_X9_move (v1 : Int) (v2 : Int) (v3 : Int) (σ : Sg) : Option (Int × Sg) :=
  (f_X0_has v1 σ).bind fun q1 => if w32 q1 = 0 then some (((-1), σ)) else (f_X9_isPlace v2 v3 σ).bind fun q3 => if w32 q3 = 0 then some (((-1), σ)) else (f_X0_perilOf v1 σ).bind fun q5 => (f_X0_apart v1 v2 v3 σ).bind fun q7 => (f_X9_leaveTreaties v1 q5 σ).bind fun q9 => (f_X0_shift v1 v2 v3 q9).bind fun q11 => (f_X9_joinTreaties v1 q5 q11).bind fun q13 => (f_X9_tell 1 v1 0 q5 q13).bind fun q15 => some ((q7, q15))
def f_X0_sumOf (v1 : Int) (σ : Sg) : Option (Int) :=
  (f_X9_isNumber v1 σ).bind fun q1 => if w32 q1 = 0 then some 0 else ck (0 ≤ v1 ∧ v1 < 24) <| some (σ 9 (v1).toNat)
def f_X9_change (v1 : Int) (v2 : Int) (σ : Sg) : Option (Int × Sg) :=
  (f_X0_has v1 σ).bind fun q1 => if w32 q1 = 0 then some (((-1), σ)) else (f_X9_isSum v2 σ).bind fun q3 => if w32 q3 = 0 then some (((-1), σ)) else (f_X0_sumOf v1 σ).bind fun q5 => (f_X0_weigh v1 v2 σ).bind fun q7 => (f_X0_perilOf v1 q7).bind fun q9 => (f_X9_tell 2 v1 (v2 - q5) q9 q7).bind fun q11 => some ((q5, q11))
def f_X0_drop (v1 : Int) (σ : Sg) : Option (Sg) :=
  (f_X9_isNumber v1 σ).bind fun q1 => if w32 q1 = 0 then some σ else (f_X0_weigh v1 0 σ).bind fun q3 => wr q3 6 5 ((((u32 (q3 6 5)) &&& ((u32 (1 * ((2 ^ (u32 v1 % 32) : Nat) : Int))) ^^^ 4294967295) : Nat) : Int)) fun σ5 => some σ5
def f_X9_lapse (v1 : Int) (σ : Sg) : Option (Int × Sg) :=
  (f_X0_has v1 σ).bind fun q1 => if w32 q1 = 0 then some (((-1), σ)) else (f_X0_sumOf v1 σ).bind fun q3 => (f_X0_perilOf v1 σ).bind fun q5 => (f_X9_leaveTreaties v1 q5 σ).bind fun q7 => (f_X0_drop v1 q7).bind fun q9 => (f_X9_tell 3 v1 (-q3) q5 q9).bind fun q11 => some ((q3, q11))
def f_X9_arePerils (v0 : Int) (σ : Sg) : Option (Int) :=
  if w32 v0 < 1 then some 0 else if w32 v0 ≤ 15 then some 1 else some 0
def f_X9_isRadius (v0 : Int) (σ : Sg) : Option (Int) :=
  if w32 v0 < 1 then some 0 else if w32 v0 ≤ 300 then some 1 else some 0
def f_X9_treaty (v1 : Int) (v2 : Int) (v3 : Int) (σ : Sg) : Option (Int × Sg) :=
  (f_X9_arePerils v1 σ).bind fun q1 => if w32 q1 = 0 then some (((-1), σ)) else (f_X9_isRadius v2 σ).bind fun q3 => if w32 q3 = 0 then some (((-1), σ)) else if w32 v3 < 1 then some (((-1), σ)) else if w32 v3 ≤ 9999999 then (f_X9_openTreaty v1 v2 v3 σ).bind fun q5 => some ((q5.1, q5.2)) else some (((-1), σ))
def f_X9_limit (v1 : Int) (v2 : Int) (σ : Sg) : Option (Int × Sg) :=
  (f_X9_treatyAt v1 σ).bind fun q1 => oT q1 (some (((-1), σ))) fun t3 => if w32 v2 < 1 then some (((-1), σ)) else if w32 v2 ≤ 9999999 then wr σ (21 + t3) 4 v2 fun σ4 => (f_X9_lookAt v1 σ4).bind fun q5 => some ((σ (21 + t3) 4, q5)) else some (((-1), σ))
def f_J6_bitCount_0f7a4 (v0 : Int) (σ : Sg) : Option (Int) :=
  some ((((u32 ((((((u32 ((((((u32 (v0 - (((((u32 v0) >>> 1) &&& 1431655765 : Nat) : Int)))) &&& 858993459 : Nat) : Int)) + (((((u32 (v0 - (((((u32 v0) >>> 1) &&& 1431655765 : Nat) : Int)))) >>> 2) &&& 858993459 : Nat) : Int))) + ((((u32 (((((u32 (v0 - (((((u32 v0) >>> 1) &&& 1431655765 : Nat) : Int)))) &&& 858993459 : Nat) : Int)) + (((((u32 (v0 - (((((u32 v0) >>> 1) &&& 1431655765 : Nat) : Int)))) >>> 2) &&& 858993459 : Nat) : Int)))) >>> 4 : Nat) : Int)))) &&& 252645135 : Nat) : Int)) + (((((u32 ((((((u32 (v0 - (((((u32 v0) >>> 1) &&& 1431655765 : Nat) : Int)))) &&& 858993459 : Nat) : Int)) + (((((u32 (v0 - (((((u32 v0) >>> 1) &&& 1431655765 : Nat) : Int)))) >>> 2) &&& 858993459 : Nat) : Int))) + ((((u32 (((((u32 (v0 - (((((u32 v0) >>> 1) &&& 1431655765 : Nat) : Int)))) &&& 858993459 : Nat) : Int)) + (((((u32 (v0 - (((((u32 v0) >>> 1) &&& 1431655765 : Nat) : Int)))) >>> 2) &&& 858993459 : Nat) : Int)))) >>> 4 : Nat) : Int)))) &&& 252645135) >>> 8 : Nat) : Int))) + ((((u32 (((((u32 ((((((u32 (v0 - (((((u32 v0) >>> 1) &&& 1431655765 : Nat) : Int)))) &&& 858993459 : Nat) : Int)) + (((((u32 (v0 - (((((u32 v0) >>> 1) &&& 1431655765 : Nat) : Int)))) >>> 2) &&& 858993459 : Nat) : Int))) + ((((u32 (((((u32 (v0 - (((((u32 v0) >>> 1) &&& 1431655765 : Nat) : Int)))) &&& 858993459 : Nat) : Int)) + (((((u32 (v0 - (((((u32 v0) >>> 1) &&& 1431655765 : Nat) : Int)))) >>> 2) &&& 858993459 : Nat) : Int)))) >>> 4 : Nat) : Int)))) &&& 252645135 : Nat) : Int)) + (((((u32 ((((((u32 (v0 - (((((u32 v0) >>> 1) &&& 1431655765 : Nat) : Int)))) &&& 858993459 : Nat) : Int)) + (((((u32 (v0 - (((((u32 v0) >>> 1) &&& 1431655765 : Nat) : Int)))) >>> 2) &&& 858993459 : Nat) : Int))) + ((((u32 (((((u32 (v0 - (((((u32 v0) >>> 1) &&& 1431655765 : Nat) : Int)))) &&& 858993459 : Nat) : Int)) + (((((u32 (v0 - (((((u32 v0) >>> 1) &&& 1431655765 : Nat) : Int)))) >>> 2) &&& 858993459 : Nat) : Int)))) >>> 4 : Nat) : Int)))) &&& 252645135) >>> 8 : Nat) : Int)))) >>> 16 : Nat) : Int)))) &&& 63 : Nat) : Int))
def f_X9_its (v1 : Int) (v2 : Int) (σ : Sg) : Option (Int) :=
  (f_X9_treatyAt v1 σ).bind fun q1 => oT q1 (some ((-1))) fun t3 => if w32 v2 = 0 then some (σ (21 + t3) 2) else if w32 v2 = 1 then some (σ (21 + t3) 3) else if w32 v2 = 2 then some (σ (21 + t3) 4) else if w32 v2 = 3 then (f_J6_bitCount_0f7a4 (σ (27 + t3) 5) σ).bind fun q4 => some q4 else if w32 v2 = 4 then (f_X0_sums (σ (27 + t3) 5) σ).bind fun q6 => some q6 else if w32 v2 = 5 then (f_X8_isPassed t3 σ).bind fun q8 => if w32 q8 = 0 then some 0 else some 1 else if w32 v2 = 6 then some (σ (21 + t3) 7) else if w32 v2 = 7 then some (σ (21 + t3) 8) else some ((-1))
def f_X9_worst (v1 : Int) (v2 : Int) (σ : Sg) : Option (Int) :=
  (f_X9_treatyAt v1 σ).bind fun q1 => oT q1 (some ((-2147483648))) fun t3 => if w32 v2 = 0 then some (σ (21 + t3) 6) else if w32 v2 = 1 then (f_J6_bitCount_0f7a4 (σ (21 + t3) 5) σ).bind fun q4 => some q4 else if w32 v2 = 2 then some ((σ (21 + t3) 4) - (σ (21 + t3) 6)) else some ((-2147483648))
def f_X9_inWorst_b53 (σ : Sg) (k22 : Int → Nat → Int → Int → Option (Int)) (v2 : Int) (t3 : Nat) (v4 : Int) (v5 : Int) : Option (Int) :=
  k22 v2 t3 v4 (v5 + 1)
def f_X9_inWorst_b22 (σ : Sg) : Nat → Int → Nat → Int → Int → Option (Int)
  | 0, _, _, _, _ => none
  | n + 1, v2, t3, v4, v5 => if w32 v5 < 24 then (f_X9_contains (σ (21 + t3) 5) v5 σ).bind fun q4 => if w32 q4 = 0 then f_X9_inWorst_b53 σ (f_X9_inWorst_b22 σ n) v2 t3 v4 v5 else if w32 v4 = w32 v2 then some v5 else f_X9_inWorst_b53 σ (f_X9_inWorst_b22 σ n) v2 t3 (v4 + 1) v5 else some ((-2))
def f_X9_inWorst (v1 : Int) (v2 : Int) (σ : Sg) : Option (Int) :=
  (f_X9_treatyAt v1 σ).bind fun q1 => oT q1 (some ((-1))) fun t3 => if w32 v2 < 0 then some ((-1)) else f_X9_inWorst_b22 σ FUEL v2 t3 0 0
def f_X2_bounding_b38 (d : Nat) (σ : Sg) (k2 : Int → Int → Option (Int)) (v1 : Int) (v2 : Int) : Option (Int) :=
  k2 v1 (v2 + 1)
def f_X2_bounding_b31 (d : Nat) (σ : Sg) (v2 : Int) : Option (Int) :=
  some ((v2 * 24) + v2)
def f_X2_bounding_b122 (d : Nat) (σ : Sg) (k46 : Int → Int → Option (Int)) (k56 : Int → Int → Int → Option (Int)) (v1 : Int) (v2 : Int) (v3 : Int) : Option (Int) :=
  k56 v1 v2 (v3 + 1)
def f_X2_bounding_b93 (d : Nat) (σ : Sg) (v2 : Int) (v3 : Int) : Option (Int) :=
  some ((v2 * 24) + v3)
def f_X2_bounding_b115 (d : Nat) (σ : Sg) (v2 : Int) (v3 : Int) : Option (Int) :=
  some ((v3 * 24) + v2)
def f_X2_bounding_b128 (d : Nat) (σ : Sg) (k46 : Int → Int → Option (Int)) (v1 : Int) (v2 : Int) : Option (Int) :=
  k46 v1 (v2 + 1)
def f_X2_bounding_b56 (d : Nat) (σ : Sg) (k46 : Int → Int → Option (Int)) : Nat → Int → Int → Int → Option (Int)
  | 0, _, _, _ => none
  | n + 1, v1, v2, v3 => if w32 v3 < 24 then (f_X9_contains v1 v2 σ).bind fun q6 => if w32 q6 = 0 then f_X2_bounding_b122 d σ k46 (f_X2_bounding_b56 d σ k46 n) v1 v2 v3 else (f_X9_contains v1 v3 σ).bind fun q8 => if w32 q8 = 0 then f_X2_bounding_b122 d σ k46 (f_X2_bounding_b56 d σ k46 n) v1 v2 v3 else ck (0 ≤ (v2 * 24) + v3 ∧ (v2 * 24) + v3 < 576) <| if w32 (σ (34 + d) ((v2 * 24) + v3).toNat) = w32 v1 then f_X2_bounding_b93 d σ v2 v3 else ck (0 ≤ (v3 * 24) + v2 ∧ (v3 * 24) + v2 < 576) <| if w32 (σ (34 + d) ((v3 * 24) + v2).toNat) = w32 v1 then f_X2_bounding_b115 d σ v2 v3 else f_X2_bounding_b122 d σ k46 (f_X2_bounding_b56 d σ k46 n) v1 v2 v3 else f_X2_bounding_b128 d σ k46 v1 v2
def f_X2_bounding_b46 (d : Nat) (σ : Sg) : Nat → Int → Int → Option (Int)
  | 0, _, _ => none
  | n + 1, v1, v2 => if w32 v2 < 24 then f_X2_bounding_b56 d σ (f_X2_bounding_b46 d σ n) FUEL v1 v2 (v2 + 1) else some 0
def f_X2_bounding_b44 (d : Nat) (σ : Sg) (v1 : Int) : Option (Int) :=
  f_X2_bounding_b46 d σ FUEL v1 0
def f_X2_bounding_b2 (d : Nat) (σ : Sg) : Nat → Int → Int → Option (Int)
  | 0, _, _ => none
  | n + 1, v1, v2 => if w32 v2 < 24 then (f_X9_contains v1 v2 σ).bind fun q1 => if w32 q1 = 0 then f_X2_bounding_b38 d σ (f_X2_bounding_b2 d σ n) v1 v2 else ck (0 ≤ (v2 * 24) + v2 ∧ (v2 * 24) + v2 < 576) <| if w32 (σ (34 + d) ((v2 * 24) + v2).toNat) = w32 v1 then f_X2_bounding_b31 d σ v2 else f_X2_bounding_b38 d σ (f_X2_bounding_b2 d σ n) v1 v2 else f_X2_bounding_b44 d σ v1
def f_X2_bounding (d : Nat) (v1 : Int) (σ : Sg) : Option (Int) :=
  ck (d < 7) <| f_X2_bounding_b2 d σ FUEL v1 0
def f_X9_bound (v1 : Int) (v2 : Int) (σ : Sg) : Option (Int) :=
  (f_X9_treatyAt v1 σ).bind fun q1 => oT q1 (some ((-1))) fun t3 => if w32 v2 < 0 then some ((-1)) else if w32 v2 ≤ 2 then if w32 (σ (21 + t3) 5) = 0 then some ((-2)) else (f_X2_bounding t3 (σ (21 + t3) 5) σ).bind fun q4 => ck (¬ w32 24 = 0) <| ck (¬ w32 24 = 0) <| if w32 v2 = 0 then some (mminI ((w32 q4).tdiv (w32 24)) ((w32 q4).tmod (w32 24))) else if w32 v2 = 1 then if w32 ((w32 q4).tdiv (w32 24)) = w32 ((w32 q4).tmod (w32 24)) then some ((-2)) else some (mmaxI ((w32 q4).tdiv (w32 24)) ((w32 q4).tmod (w32 24))) else if w32 ((w32 q4).tdiv (w32 24)) ≤ w32 ((w32 q4).tmod (w32 24)) then some 0 else some 1 else some ((-1))
def f_X0_between (v1 : Int) (v2 : Int) (σ : Sg) : Option (Int) :=
  (f_X0_xOf v2 σ).bind fun q1 => (f_X0_yOf v2 σ).bind fun q3 => (f_X0_apart v1 q1 q3 σ).bind fun q5 => some q5
def f_X9_spread_b87 (σ : Sg) (k27 : Nat → Int → Int → Option (Int)) (k40 : Nat → Int → Int → Int → Option (Int)) (t2 : Nat) (v3 : Int) (v4 : Int) (v5 : Int) : Option (Int) :=
  k40 t2 v3 v4 (v5 + 1)
def f_X9_spread_b93 (σ : Sg) (k27 : Nat → Int → Int → Option (Int)) (t2 : Nat) (v3 : Int) (v4 : Int) : Option (Int) :=
  k27 t2 v3 (v4 + 1)
def f_X9_spread_b40 (σ : Sg) (k27 : Nat → Int → Int → Option (Int)) : Nat → Nat → Int → Int → Int → Option (Int)
  | 0, _, _, _, _ => none
  | n + 1, t2, v3, v4, v5 => if w32 v5 < 24 then (f_X9_contains (σ (21 + t2) 5) v4 σ).bind fun q4 => if w32 q4 = 0 then f_X9_spread_b87 σ k27 (f_X9_spread_b40 σ k27 n) t2 v3 v4 v5 else (f_X9_contains (σ (21 + t2) 5) v5 σ).bind fun q6 => if w32 q6 = 0 then f_X9_spread_b87 σ k27 (f_X9_spread_b40 σ k27 n) t2 v3 v4 v5 else (f_X0_between v4 v5 σ).bind fun q8 => f_X9_spread_b87 σ k27 (f_X9_spread_b40 σ k27 n) t2 (mmaxI v3 q8) v4 v5 else f_X9_spread_b93 σ k27 t2 v3 v4
def f_X9_spread_b27 (σ : Sg) : Nat → Nat → Int → Int → Option (Int)
  | 0, _, _, _ => none
  | n + 1, t2, v3, v4 => if w32 v4 < 24 then f_X9_spread_b40 σ (f_X9_spread_b27 σ n) FUEL t2 v3 v4 (v4 + 1) else some v3
def f_X9_spread (v1 : Int) (σ : Sg) : Option (Int) :=
  (f_X9_treatyAt v1 σ).bind fun q1 => oT q1 (some ((-1))) fun t3 => if w32 (σ (21 + t3) 5) = 0 then some ((-2)) else f_X9_spread_b27 σ FUEL t3 0 0
def f_X1_isPoint_b68 (k2 : Int → Int → Sg → Option (Int × Sg)) (v1 : Int) (v2 : Int) (σ : Sg) : Option (Int × Sg) :=
  k2 v1 (v2 + 1) σ
def f_X1_isPoint_b65 (k2 : Int → Int → Sg → Option (Int × Sg)) (v1 : Int) (v2 : Int) (w0 : Int) (σ : Sg) : Option (Int × Sg) :=
  wr σ 20 3 w0 fun σ9 => f_X1_isPoint_b68 k2 v1 v2 σ9
def f_X1_isPoint_b74 (σ : Sg) : Option (Int × Sg) :=
  wr σ 20 1 0 fun σ13 => wr σ13 20 2 1 fun σ14 => some ((1, σ14))
def f_X1_isPoint_b2 : Nat → Int → Int → Sg → Option (Int × Sg)
  | 0, _, _, _ => none
  | n + 1, v1, v2, σ => if w32 v2 < 24 then (f_X9_contains v1 v2 σ).bind fun q1 => if w32 q1 = 0 then f_X1_isPoint_b68 (f_X1_isPoint_b2 n) v1 v2 σ else (f_X0_xOf v2 σ).bind fun q3 => (f_X0_yOf v2 σ).bind fun q5 => (f_X0_within q3 q5 0 σ).bind fun q7 => if w32 ((((u32 v1) &&& ((u32 q7) ^^^ 4294967295) : Nat) : Int)) = 0 then if w32 (σ 20 3) < 0 then f_X1_isPoint_b65 (f_X1_isPoint_b2 n) v1 v2 v2 σ else f_X1_isPoint_b65 (f_X1_isPoint_b2 n) v1 v2 (σ 20 3) σ else some ((0, σ)) else f_X1_isPoint_b74 σ
def f_X1_isPoint (v1 : Int) (σ : Sg) : Option (Int × Sg) :=
  f_X1_isPoint_b2 FUEL v1 0 σ
def f_X1_corner (v1 : Int) (v2 : Int) (v3 : Int) (σ : Sg) : Option (Int) :=
  (f_X0_xOf v2 σ).bind fun q1 => (f_X0_xOf v1 σ).bind fun q3 => (f_X0_xOf v3 σ).bind fun q5 => (f_X0_xOf v1 σ).bind fun q7 => (f_X0_yOf v2 σ).bind fun q9 => (f_X0_yOf v1 σ).bind fun q11 => (f_X0_yOf v3 σ).bind fun q13 => (f_X0_yOf v1 σ).bind fun q15 => some (((q1 - q3) * (q5 - q7)) + ((q9 - q11) * (q13 - q15)))
def f_X1_isDiameter_b32 (σ : Sg) (k3 : Int → Int → Int → Int → Option (Int)) (v1 : Int) (v2 : Int) (v3 : Int) (v4 : Int) : Option (Int) :=
  k3 v1 v2 v3 (v4 + 1)
def f_X1_isDiameter_b3 (σ : Sg) : Nat → Int → Int → Int → Int → Option (Int)
  | 0, _, _, _, _ => none
  | n + 1, v1, v2, v3, v4 => if w32 v4 < 24 then (f_X9_contains v3 v4 σ).bind fun q1 => if w32 q1 = 0 then f_X1_isDiameter_b32 σ (f_X1_isDiameter_b3 σ n) v1 v2 v3 v4 else (f_X1_corner v4 v1 v2 σ).bind fun q3 => if w32 q3 ≤ 0 then f_X1_isDiameter_b32 σ (f_X1_isDiameter_b3 σ n) v1 v2 v3 v4 else some 0 else some 1
def f_X1_isDiameter (v1 : Int) (v2 : Int) (v3 : Int) (σ : Sg) : Option (Int) :=
  f_X1_isDiameter_b3 σ FUEL v1 v2 v3 0
def f_X1_reduce_b80 (w0 : Int) (σ : Sg) : Option (Sg) :=
  wr σ 20 2 w0 fun σ2 => some σ2
def f_X1_reduce_b61 (v3 : Int) (v5 : Int) (w0 : Int) (σ : Sg) : Option (Sg) :=
  wr σ 20 1 w0 fun σ1 => if w64 v5 = 0 then f_X1_reduce_b80 v3 σ1 else ck (¬ w64 v5 = 0) <| f_X1_reduce_b80 ((w64 v3).tdiv (w64 v5)) σ1
def f_X1_reduce_b45 (v1 : Int) (v3 : Int) (v5 : Int) (σ : Sg) : Option (Sg) :=
  if w64 v5 = 0 then f_X1_reduce_b61 v3 v5 v1 σ else ck (¬ w64 v5 = 0) <| f_X1_reduce_b61 v3 v5 ((w64 v1).tdiv (w64 v5)) σ
def f_X1_reduce_b9 : Nat → Int → Int → Int → Int → Int → Sg → Option (Sg)
  | 0, _, _, _, _, _, _ => none
  | n + 1, v1, v3, v5, v7, v9, σ => if w32 v9 < 1000 then if w64 v7 = 0 then f_X1_reduce_b45 v1 v3 v5 σ else ck (¬ w64 v7 = 0) <| (f_X1_reduce_b9 n) v1 v3 v7 ((w64 v5).tmod (w64 v7)) (v9 + 1) σ else f_X1_reduce_b45 v1 v3 v5 σ
def f_X1_reduce (v1 : Int) (v3 : Int) (σ : Sg) : Option (Sg) :=
  f_X1_reduce_b9 FUEL v1 v3 v1 v3 0 σ
def f_X1_hasDiameter_b73 (k2 : Int → Int → Sg → Option (Int × Sg)) (k12 : Int → Int → Int → Sg → Option (Int × Sg)) (v1 : Int) (v2 : Int) (v3 : Int) (σ : Sg) : Option (Int × Sg) :=
  k12 v1 v2 (v3 + 1) σ
def f_X1_hasDiameter_b44 (v2 : Int) (v3 : Int) (σ : Sg) : Option (Int × Sg) :=
  wr σ 20 3 v2 fun σ7 => wr σ7 20 4 v3 fun σ8 => (f_X0_between v2 v3 σ8).bind fun q9 => (f_X1_reduce (w32 q9) 4 σ8).bind fun q11 => some ((1, q11))
def f_X1_hasDiameter_b79 (k2 : Int → Int → Sg → Option (Int × Sg)) (v1 : Int) (v2 : Int) (σ : Sg) : Option (Int × Sg) :=
  k2 v1 (v2 + 1) σ
def f_X1_hasDiameter_b12 (k2 : Int → Int → Sg → Option (Int × Sg)) : Nat → Int → Int → Int → Sg → Option (Int × Sg)
  | 0, _, _, _, _ => none
  | n + 1, v1, v2, v3, σ => if w32 v3 < 24 then (f_X9_contains v1 v2 σ).bind fun q1 => if w32 q1 = 0 then f_X1_hasDiameter_b73 k2 (f_X1_hasDiameter_b12 k2 n) v1 v2 v3 σ else (f_X9_contains v1 v3 σ).bind fun q3 => if w32 q3 = 0 then f_X1_hasDiameter_b73 k2 (f_X1_hasDiameter_b12 k2 n) v1 v2 v3 σ else (f_X1_isDiameter v2 v3 v1 σ).bind fun q5 => if w32 q5 = 0 then f_X1_hasDiameter_b73 k2 (f_X1_hasDiameter_b12 k2 n) v1 v2 v3 σ else f_X1_hasDiameter_b44 v2 v3 σ else f_X1_hasDiameter_b79 k2 v1 v2 σ
def f_X1_hasDiameter_b2 : Nat → Int → Int → Sg → Option (Int × Sg)
  | 0, _, _, _ => none
  | n + 1, v1, v2, σ => if w32 v2 < 24 then f_X1_hasDiameter_b12 (f_X1_hasDiameter_b2 n) FUEL v1 v2 (v2 + 1) σ else some ((0, σ))
def f_X1_hasDiameter (v1 : Int) (σ : Sg) : Option (Int × Sg) :=
  f_X1_hasDiameter_b2 FUEL v1 0 σ
def f_X1_turn (v1 : Int) (v2 : Int) (v3 : Int) (σ : Sg) : Option (Int) :=
  (f_X0_xOf v2 σ).bind fun q1 => (f_X0_xOf v1 σ).bind fun q3 => (f_X0_yOf v3 σ).bind fun q5 => (f_X0_yOf v1 σ).bind fun q7 => (f_X0_yOf v2 σ).bind fun q9 => (f_X0_yOf v1 σ).bind fun q11 => (f_X0_xOf v3 σ).bind fun q13 => (f_X0_xOf v1 σ).bind fun q15 => some (((w32 (q1 - q3)) * (w32 (q5 - q7))) - ((w32 (q9 - q11)) * (w32 (q13 - q15))))
def f_X1_isSharp (v1 : Int) (v2 : Int) (v3 : Int) (σ : Sg) : Option (Int) :=
  (f_X1_turn v1 v2 v3 σ).bind fun q1 => if w64 q1 = 0 then some 0 else (f_X1_corner v1 v2 v3 σ).bind fun q3 => if w32 q3 ≤ 0 then some 0 else (f_X1_corner v2 v3 v1 σ).bind fun q5 => if w32 q5 ≤ 0 then some 0 else (f_X1_corner v3 v1 v2 σ).bind fun q7 => if w32 q7 ≤ 0 then some 0 else some 1
def f_X1_isAround_b119 (σ : Sg) (k12 : Int → Int → Int → Int → Int → Int → Option (Int)) (v1 : Int) (v2 : Int) (v3 : Int) (v4 : Int) (v5 : Int) (v7 : Int) : Option (Int) :=
  k12 v1 v2 v3 v4 v5 (v7 + 1)
def f_X1_isAround_b12 (σ : Sg) : Nat → Int → Int → Int → Int → Int → Int → Option (Int)
  | 0, _, _, _, _, _, _ => none
  | n + 1, v1, v2, v3, v4, v5, v7 => if w32 v7 < 24 then (f_X9_contains v4 v7 σ).bind fun q3 => if w32 q3 = 0 then f_X1_isAround_b119 σ (f_X1_isAround_b12 σ n) v1 v2 v3 v4 v5 v7 else (f_X0_between v1 v7 σ).bind fun q5 => (f_X1_turn v7 v2 v3 σ).bind fun q7 => (f_X0_between v2 v7 σ).bind fun q9 => (f_X1_turn v7 v3 v1 σ).bind fun q11 => (f_X0_between v3 v7 σ).bind fun q13 => (f_X1_turn v7 v1 v2 σ).bind fun q15 => if w64 v5 ≤ 0 then if w64 ((((w32 q5) * q7) + ((w32 q9) * q11)) + ((w32 q13) * q15)) ≤ 0 then f_X1_isAround_b119 σ (f_X1_isAround_b12 σ n) v1 v2 v3 v4 v5 v7 else some 0 else if w64 ((((w32 q5) * q7) + ((w32 q9) * q11)) + ((w32 q13) * q15)) < 0 then some 0 else f_X1_isAround_b119 σ (f_X1_isAround_b12 σ n) v1 v2 v3 v4 v5 v7 else some 1
def f_X1_isAround (v1 : Int) (v2 : Int) (v3 : Int) (v4 : Int) (σ : Sg) : Option (Int) :=
  (f_X1_turn v1 v2 v3 σ).bind fun q1 => f_X1_isAround_b12 σ FUEL v1 v2 v3 v4 q1 0
def f_X1_findTriangle_b168 (k2 : Int → Int → Sg → Option (Sg)) (k12 : Int → Int → Int → Sg → Option (Sg)) (k23 : Int → Int → Int → Int → Sg → Option (Sg)) (v1 : Int) (v2 : Int) (v3 : Int) (v4 : Int) (σ : Sg) : Option (Sg) :=
  k23 v1 v2 v3 (v4 + 1) σ
def f_X1_findTriangle_b90 (v2 : Int) (v3 : Int) (v4 : Int) (σ : Sg) : Option (Sg) :=
  wr σ 20 3 v2 fun σ7 => wr σ7 20 4 v3 fun σ8 => wr σ8 20 5 v4 fun σ9 => (f_X1_turn v2 v3 v4 σ9).bind fun q10 => (f_X0_between v2 v3 σ9).bind fun q12 => (f_X0_between v3 v4 σ9).bind fun q14 => (f_X0_between v4 v2 σ9).bind fun q16 => (f_X1_reduce (((w32 q12) * (w32 q14)) * (w32 q16)) ((4 * q10) * q10) σ9).bind fun q18 => some q18
def f_X1_findTriangle_b60 (k2 : Int → Int → Sg → Option (Sg)) (k12 : Int → Int → Int → Sg → Option (Sg)) (k23 : Int → Int → Int → Int → Sg → Option (Sg)) (v1 : Int) (v2 : Int) (v3 : Int) (v4 : Int) (w0 : Int) (σ : Sg) : Option (Sg) :=
  if w32 w0 = 0 then f_X1_findTriangle_b168 k2 k12 k23 v1 v2 v3 v4 σ else (f_X1_isSharp v2 v3 v4 σ).bind fun q3 => if w32 q3 = 0 then f_X1_findTriangle_b168 k2 k12 k23 v1 v2 v3 v4 σ else (f_X1_isAround v2 v3 v4 v1 σ).bind fun q5 => if w32 q5 = 0 then f_X1_findTriangle_b168 k2 k12 k23 v1 v2 v3 v4 σ else f_X1_findTriangle_b90 v2 v3 v4 σ
def f_X1_findTriangle_b59 (k2 : Int → Int → Sg → Option (Sg)) (k12 : Int → Int → Int → Sg → Option (Sg)) (k23 : Int → Int → Int → Int → Sg → Option (Sg)) (v1 : Int) (v2 : Int) (v3 : Int) (v4 : Int) (σ : Sg) : Option (Sg) :=
  f_X1_findTriangle_b60 k2 k12 k23 v1 v2 v3 v4 0 σ
def f_X1_findTriangle_b174 (k2 : Int → Int → Sg → Option (Sg)) (k12 : Int → Int → Int → Sg → Option (Sg)) (v1 : Int) (v2 : Int) (v3 : Int) (σ : Sg) : Option (Sg) :=
  k12 v1 v2 (v3 + 1) σ
def f_X1_findTriangle_b23 (k2 : Int → Int → Sg → Option (Sg)) (k12 : Int → Int → Int → Sg → Option (Sg)) : Nat → Int → Int → Int → Int → Sg → Option (Sg)
  | 0, _, _, _, _, _ => none
  | n + 1, v1, v2, v3, v4, σ => if w32 v4 < 24 then (f_X9_contains v1 v2 σ).bind fun q1 => if w32 q1 = 0 then f_X1_findTriangle_b59 k2 k12 (f_X1_findTriangle_b23 k2 k12 n) v1 v2 v3 v4 σ else (f_X9_contains v1 v3 σ).bind fun q23 => if w32 q23 = 0 then f_X1_findTriangle_b59 k2 k12 (f_X1_findTriangle_b23 k2 k12 n) v1 v2 v3 v4 σ else (f_X9_contains v1 v4 σ).bind fun q25 => if w32 q25 = 0 then f_X1_findTriangle_b59 k2 k12 (f_X1_findTriangle_b23 k2 k12 n) v1 v2 v3 v4 σ else f_X1_findTriangle_b60 k2 k12 (f_X1_findTriangle_b23 k2 k12 n) v1 v2 v3 v4 1 σ else f_X1_findTriangle_b174 k2 k12 v1 v2 v3 σ
def f_X1_findTriangle_b180 (k2 : Int → Int → Sg → Option (Sg)) (v1 : Int) (v2 : Int) (σ : Sg) : Option (Sg) :=
  k2 v1 (v2 + 1) σ
def f_X1_findTriangle_b12 (k2 : Int → Int → Sg → Option (Sg)) : Nat → Int → Int → Int → Sg → Option (Sg)
  | 0, _, _, _, _ => none
  | n + 1, v1, v2, v3, σ => if w32 v3 < 24 then f_X1_findTriangle_b23 k2 (f_X1_findTriangle_b12 k2 n) FUEL v1 v2 v3 (v3 + 1) σ else f_X1_findTriangle_b180 k2 v1 v2 σ
def f_X1_findTriangle_b2 : Nat → Int → Int → Sg → Option (Sg)
  | 0, _, _, _ => none
  | n + 1, v1, v2, σ => if w32 v2 < 24 then f_X1_findTriangle_b12 (f_X1_findTriangle_b2 n) FUEL v1 v2 (v2 + 1) σ else some σ
def f_X1_findTriangle (v1 : Int) (σ : Sg) : Option (Sg) :=
  f_X1_findTriangle_b2 FUEL v1 0 σ
def f_X1_close (v1 : Int) (σ : Sg) : Option (Sg) :=
  wr σ 20 3 ((-1)) fun σ1 => wr σ1 20 4 ((-2)) fun σ2 => wr σ2 20 5 ((-2)) fun σ3 => (f_X1_isPoint v1 σ3).bind fun q4 => if w32 q4.1 = 0 then (f_X1_hasDiameter v1 q4.2).bind fun q6 => if w32 q6.1 = 0 then (f_X1_findTriangle v1 q6.2).bind fun q8 => some q8 else some q6.2 else some q4.2
def f_X9_ring (v1 : Int) (v2 : Int) (σ : Sg) : Option (Int × Sg) :=
  (f_X9_treatyAt v1 σ).bind fun q1 => oT q1 (some (((-1), σ))) fun t3 => if w32 v2 < 0 then some (((-1), σ)) else if w32 v2 ≤ 4 then if w32 (σ (21 + t3) 5) = 0 then some (((-2), σ)) else (f_X1_close (σ (21 + t3) 5) σ).bind fun q4 => if w32 v2 = 0 then some ((q4 20 1, q4)) else if w32 v2 = 1 then some ((q4 20 2, q4)) else if w32 v2 = 2 then some ((w32 (q4 20 3), q4)) else if w32 v2 = 3 then some ((w32 (q4 20 4), q4)) else some ((w32 (q4 20 5), q4)) else some (((-1), σ))
def f_X8_worstWithout (d : Nat) (v1 : Int) (σ : Sg) : Option (Int) :=
  ck (d < 6) <| (f_X2_heaviestAmong d (((16777215 &&& ((u32 v1) ^^^ 4294967295) : Nat) : Int)) σ).bind fun q1 => (f_X0_sums q1 σ).bind fun q3 => some q3
def f_X9_part (v1 : Int) (v2 : Int) (σ : Sg) : Option (Int) :=
  (f_X9_treatyAt v1 σ).bind fun q1 => oT q1 (some ((-1))) fun t3 => (f_X0_has v2 σ).bind fun q4 => if w32 q4 = 0 then some ((-1)) else (f_X8_worstWithout t3 (1 * ((2 ^ (u32 v2 % 32) : Nat) : Int)) σ).bind fun q6 => some ((σ (21 + t3) 6) - q6)
def f_X9_second (v1 : Int) (σ : Sg) : Option (Int) :=
  (f_X9_treatyAt v1 σ).bind fun q1 => oT q1 (some ((-1))) fun t3 => (f_X8_worstWithout t3 (σ (21 + t3) 5) σ).bind fun q4 => some q4
def f_X9_tightest_b76 (σ : Sg) (k11 : Int → Int → Int → Int → Option (Int)) (v1 : Int) (v2 : Int) (v4 : Int) (v6 : Int) : Option (Int) :=
  k11 v1 v2 v4 (v6 + 1)
def f_X9_tightest_b58 (σ : Sg) (k11 : Int → Int → Int → Int → Option (Int)) (v6 : Int) (t7 : Nat) : Option (Int) :=
  f_X9_tightest_b76 σ k11 v6 (w32 (σ (21 + t7) 6)) (w32 (σ (21 + t7) 4)) v6
def f_X9_tightest_b11 (σ : Sg) : Nat → Int → Int → Int → Int → Option (Int)
  | 0, _, _, _, _ => none
  | n + 1, v1, v2, v4, v6 => if w32 v6 < w32 (σ 0 4) then (f_X9_treatyAt v6 σ).bind fun q1 => oT q1 (f_X9_tightest_b76 σ (f_X9_tightest_b11 σ n) v1 v2 v4 v6) fun t3 => if w32 v1 < 0 then f_X9_tightest_b58 σ (f_X9_tightest_b11 σ n) v6 t3 else if w64 ((w32 (σ (21 + t3) 6)) * v4) ≤ w64 (v2 * (w32 (σ (21 + t3) 4))) then f_X9_tightest_b76 σ (f_X9_tightest_b11 σ n) v1 v2 v4 v6 else f_X9_tightest_b58 σ (f_X9_tightest_b11 σ n) v6 t3 else some v1
def f_X9_tightest (σ : Sg) : Option (Int) :=
  f_X9_tightest_b11 σ FUEL ((-2)) 0 1 0
def f_X9_relief_b81 (σ : Sg) (k32 : Int → Nat → Int → Int → Int → Option (Int)) (v2 : Int) (t3 : Nat) (v4 : Int) (v5 : Int) (v6 : Int) : Option (Int) :=
  k32 v2 t3 v4 v5 (v6 + 1)
def f_X9_relief_b73 (σ : Sg) (k32 : Int → Nat → Int → Int → Int → Option (Int)) (v2 : Int) (t3 : Nat) (v6 : Int) (v7 : Int) : Option (Int) :=
  f_X9_relief_b81 σ k32 v2 t3 v6 v7 v6
def f_X9_relief_b87 (σ : Sg) (v2 : Int) (v4 : Int) (v5 : Int) : Option (Int) :=
  if w32 v2 = 0 then some v4 else some v5
def f_X9_relief_b32 (σ : Sg) : Nat → Int → Nat → Int → Int → Int → Option (Int)
  | 0, _, _, _, _, _ => none
  | n + 1, v2, t3, v4, v5, v6 => if w32 v6 < 24 then (f_X9_contains (σ (21 + t3) 5) v6 σ).bind fun q4 => if w32 q4 = 0 then f_X9_relief_b81 σ (f_X9_relief_b32 σ n) v2 t3 v4 v5 v6 else (f_X8_worstWithout t3 (1 * ((2 ^ (u32 v6 % 32) : Nat) : Int)) σ).bind fun q6 => if w32 v4 < 0 then f_X9_relief_b73 σ (f_X9_relief_b32 σ n) v2 t3 v6 q6 else if w32 q6 < w32 v5 then f_X9_relief_b73 σ (f_X9_relief_b32 σ n) v2 t3 v6 q6 else f_X9_relief_b81 σ (f_X9_relief_b32 σ n) v2 t3 v4 v5 v6 else f_X9_relief_b87 σ v2 v4 v5
def f_X9_relief (v1 : Int) (v2 : Int) (σ : Sg) : Option (Int) :=
  (f_X9_treatyAt v1 σ).bind fun q1 => oT q1 (some ((-1))) fun t3 => if w32 v2 < 0 then some ((-1)) else if w32 v2 ≤ 1 then f_X9_relief_b32 σ FUEL v2 t3 ((-2)) ((-2)) 0 else some ((-1))
def f_X2_hasMore_b2 (d : Nat) (σ : Sg) : Nat → Int → Int → Int → Option (Int)
  | 0, _, _, _ => none
  | n + 1, v1, v2, v3 => if w32 v3 < 576 then ck (0 ≤ v3 ∧ v3 < 576) <| (f_X0_sums ((((u32 (σ (34 + d) (v3).toNat)) &&& (u32 v1) : Nat) : Int)) σ).bind fun q2 => if w32 q2 ≤ w32 v2 then (f_X2_hasMore_b2 d σ n) v1 v2 (v3 + 1) else some 1 else some 0
def f_X2_hasMore (d : Nat) (v1 : Int) (v2 : Int) (σ : Sg) : Option (Int) :=
  ck (d < 7) <| f_X2_hasMore_b2 d σ FUEL v1 v2 0
def f_X8_staysPassed (d : Nat) (v1 : Int) (σ : Sg) : Option (Int) :=
  ck (d < 6) <| (f_X2_hasMore d (((16777215 &&& ((u32 v1) ^^^ 4294967295) : Nat) : Int)) (σ (21 + d) 4) σ).bind fun q1 => ck (q1 = 0 ∨ q1 = 1) <| some q1
def f_X8_isFreedWith_b38 (d : Nat) (σ : Sg) (k2 : Int → Int → Option (Int)) (v1 : Int) (v2 : Int) : Option (Int) :=
  k2 v1 (v2 + 1)
def f_X8_isFreedWith_b2 (d : Nat) (σ : Sg) : Nat → Int → Int → Option (Int)
  | 0, _, _ => none
  | n + 1, v1, v2 => if w32 v2 < 24 then (f_X9_contains (σ (27 + d) 5) v2 σ).bind fun q1 => if w32 q1 = 0 then f_X8_isFreedWith_b38 d σ (f_X8_isFreedWith_b2 d σ n) v1 v2 else (f_X8_staysPassed d ((((u32 (1 * ((2 ^ (u32 v1 % 32) : Nat) : Int))) ||| (u32 (1 * ((2 ^ (u32 v2 % 32) : Nat) : Int))) : Nat) : Int)) σ).bind fun q3 => if w32 q3 = 0 then some 1 else f_X8_isFreedWith_b38 d σ (f_X8_isFreedWith_b2 d σ n) v1 v2 else some 0
def f_X8_isFreedWith (d : Nat) (v1 : Int) (σ : Sg) : Option (Int) :=
  ck (d < 6) <| f_X8_isFreedWith_b2 d σ FUEL v1 0
def f_X9_fewest_b52 (σ : Sg) (k23 : Nat → Int → Option (Int)) (t2 : Nat) (v3 : Int) : Option (Int) :=
  k23 t2 (v3 + 1)
def f_X9_fewest_b87 (σ : Sg) (k60 : Nat → Int → Option (Int)) (t2 : Nat) (v3 : Int) : Option (Int) :=
  k60 t2 (v3 + 1)
def f_X9_fewest_b60 (σ : Sg) : Nat → Nat → Int → Option (Int)
  | 0, _, _ => none
  | n + 1, t2, v3 => if w32 v3 < 24 then (f_X9_contains (σ (21 + t2) 5) v3 σ).bind fun q12 => if w32 q12 = 0 then f_X9_fewest_b87 σ (f_X9_fewest_b60 σ n) t2 v3 else (f_X8_isFreedWith t2 v3 σ).bind fun q14 => if w32 q14 = 0 then f_X9_fewest_b87 σ (f_X9_fewest_b60 σ n) t2 v3 else some 2 else some ((-2))
def f_X9_fewest_b58 (σ : Sg) (t2 : Nat) : Option (Int) :=
  f_X9_fewest_b60 σ FUEL t2 0
def f_X9_fewest_b23 (σ : Sg) : Nat → Nat → Int → Option (Int)
  | 0, _, _ => none
  | n + 1, t2, v3 => if w32 v3 < 24 then (f_X9_contains (σ (21 + t2) 5) v3 σ).bind fun q6 => if w32 q6 = 0 then f_X9_fewest_b52 σ (f_X9_fewest_b23 σ n) t2 v3 else (f_X8_staysPassed t2 (1 * ((2 ^ (u32 v3 % 32) : Nat) : Int)) σ).bind fun q8 => if w32 q8 = 0 then some 1 else f_X9_fewest_b52 σ (f_X9_fewest_b23 σ n) t2 v3 else f_X9_fewest_b58 σ t2
def f_X9_fewest (v1 : Int) (σ : Sg) : Option (Int) :=
  (f_X9_treatyAt v1 σ).bind fun q1 => oT q1 (some ((-1))) fun t3 => (f_X8_isPassed t3 σ).bind fun q4 => if w32 q4 = 0 then some 0 else f_X9_fewest_b23 σ FUEL t3 0
def f_X2_onOthers_b119 (d : Nat) (σ : Sg) (w0 : Int) (w1 : Int) : Option (Int) :=
  some (mmaxI w1 w0)
def f_X2_onOthers_b105 (d : Nat) (σ : Sg) (v6 : Int) (v8 : Int) (v9 : Int) (w0 : Int) : Option (Int) :=
  if w32 ((((u32 v9) &&& 2 : Nat) : Int)) = 0 then f_X2_onOthers_b119 d σ v6 w0 else f_X2_onOthers_b119 d σ v8 w0
def f_X2_onOthers_b80 (d : Nat) (σ : Sg) (v1 : Int) (v2 : Int) (v3 : Int) (v4 : Int) (v6 : Int) (v7 : Int) (v8 : Int) : Option (Int) :=
  (f_X2_sidesAt d v1 v2 v3 v4 σ).bind fun q11 => if w32 ((((u32 q11) &&& 1 : Nat) : Int)) = 0 then f_X2_onOthers_b105 d σ v6 v8 q11 v6 else f_X2_onOthers_b105 d σ v6 v8 q11 v7
def f_X2_onOthers (d : Nat) (v1 : Int) (v2 : Int) (v3 : Int) (v4 : Int) (v5 : Int) (v6 : Int) (σ : Sg) : Option (Int) :=
  ck (d < 7) <| (f_X9_isNumber v1 σ).bind fun q1 => if w32 q1 = 0 then some v6 else (f_X9_isNumber v2 σ).bind fun q3 => if w32 q3 = 0 then some v6 else ck (0 ≤ (v1 * 24) + v2 ∧ (v1 * 24) + v2 < 576) <| (f_X0_sums ((((u32 (σ (34 + d) ((v1 * 24) + v2).toNat)) &&& (u32 v5) : Nat) : Int)) σ).bind fun q6 => ck (0 ≤ (v2 * 24) + v1 ∧ (v2 * 24) + v1 < 576) <| (f_X0_sums ((((u32 (σ (34 + d) ((v2 * 24) + v1).toNat)) &&& (u32 v5) : Nat) : Int)) σ).bind fun q9 => if w32 q6 ≤ w32 v6 then if w32 q9 ≤ w32 v6 then some v6 else f_X2_onOthers_b80 d σ v1 v2 v3 v4 v6 q6 q9 else f_X2_onOthers_b80 d σ v1 v2 v3 v4 v6 q6 q9
def f_X2_joined_b133 (d : Nat) (k74 : Int → Int → Int → Int → Int → Sg → Option (Int × Sg)) (v1 : Int) (v2 : Int) (v5 : Int) (v6 : Int) (v7 : Int) (σ : Sg) : Option (Int × Sg) :=
  k74 v1 v2 v5 v6 (v7 + 1) σ
def f_X2_joined_b203 (d : Nat) (k142 : Int → Int → Int → Int → Int → Sg → Option (Int × Sg)) (k155 : Int → Int → Int → Int → Int → Int → Sg → Option (Int × Sg)) (v1 : Int) (v2 : Int) (v5 : Int) (v6 : Int) (v7 : Int) (v8 : Int) (σ : Sg) : Option (Int × Sg) :=
  k155 v1 v2 v5 v6 v7 (v8 + 1) σ
def f_X2_joined_b209 (d : Nat) (k142 : Int → Int → Int → Int → Int → Sg → Option (Int × Sg)) (v1 : Int) (v2 : Int) (v5 : Int) (v6 : Int) (v7 : Int) (σ : Sg) : Option (Int × Sg) :=
  k142 v1 v2 v5 v6 (v7 + 1) σ
def f_X2_joined_b155 (d : Nat) (k142 : Int → Int → Int → Int → Int → Sg → Option (Int × Sg)) : Nat → Int → Int → Int → Int → Int → Int → Sg → Option (Int × Sg)
  | 0, _, _, _, _, _, _, _ => none
  | n + 1, v1, v2, v5, v6, v7, v8, σ => if w32 v8 < 24 then (f_X9_contains v5 v7 σ).bind fun q18 => if w32 q18 = 0 then f_X2_joined_b203 d k142 (f_X2_joined_b155 d k142 n) v1 v2 v5 v6 v7 v8 σ else (f_X9_contains v5 v8 σ).bind fun q20 => if w32 q20 = 0 then f_X2_joined_b203 d k142 (f_X2_joined_b155 d k142 n) v1 v2 v5 v6 v7 v8 σ else (f_X2_onOthers d v7 v8 v1 v2 v5 v6 σ).bind fun q22 => f_X2_joined_b203 d k142 (f_X2_joined_b155 d k142 n) v1 v2 v5 (mmaxI v6 q22) v7 v8 σ else f_X2_joined_b209 d k142 v1 v2 v5 v6 v7 σ
def f_X2_joined_b142 (d : Nat) : Nat → Int → Int → Int → Int → Int → Sg → Option (Int × Sg)
  | 0, _, _, _, _, _, _ => none
  | n + 1, v1, v2, v5, v6, v7, σ => if w32 v7 < 24 then f_X2_joined_b155 d (f_X2_joined_b142 d n) FUEL v1 v2 v5 v6 v7 (v7 + 1) σ else some ((v6, σ))
def f_X2_joined_b139 (d : Nat) (v1 : Int) (v2 : Int) (v5 : Int) (v6 : Int) (σ : Sg) : Option (Int × Sg) :=
  f_X2_joined_b142 d FUEL v1 v2 v5 v6 0 σ
def f_X2_joined_b74 (d : Nat) : Nat → Int → Int → Int → Int → Int → Sg → Option (Int × Sg)
  | 0, _, _, _, _, _, _ => none
  | n + 1, v1, v2, v5, v6, v7, σ => if w32 v7 < 24 then (f_X9_contains v5 v7 σ).bind fun q9 => if w32 q9 = 0 then f_X2_joined_b133 d (f_X2_joined_b74 d n) v1 v2 v5 v6 v7 σ else (f_X2_holdBoth d v1 v2 v7 v5 σ).bind fun q11 => (f_X0_sums (q11 (27 + d) 3) q11).bind fun q13 => (f_X0_sums (q11 (27 + d) 4) q11).bind fun q15 => f_X2_joined_b133 d (f_X2_joined_b74 d n) v1 v2 v5 (mmaxI v6 (mmaxI q13 q15)) v7 q11 else f_X2_joined_b139 d v1 v2 v5 v6 σ
def f_X2_joined (d : Nat) (v1 : Int) (v2 : Int) (v3 : Int) (v4 : Int) (σ : Sg) : Option (Int × Sg) :=
  ck (d < 7) <| (f_X0_within v1 v2 (2 * (σ (27 + d) 2)) σ).bind fun q1 => (f_X0_within v1 v2 (σ (27 + d) 2) σ).bind fun q3 => (f_X0_sums ((((((u32 v3) &&& (u32 (σ (27 + d) 5))) &&& (u32 q1)) &&& (u32 q3) : Nat) : Int)) σ).bind fun q5 => (f_X0_sums (((((u32 v3) &&& (u32 (σ (27 + d) 5))) &&& (u32 q1) : Nat) : Int)) σ).bind fun q7 => if w32 q7 ≤ w32 (mmaxI v4 q5) then some ((mmaxI v4 q5, σ)) else f_X2_joined_b74 d FUEL v1 v2 (((((u32 v3) &&& (u32 (σ (27 + d) 5))) &&& (u32 q1) : Nat) : Int)) (mmaxI v4 q5) 0 σ
def f_X9_ifWritten (v1 : Int) (v2 : Int) (v3 : Int) (v4 : Int) (v5 : Int) (σ : Sg) : Option (Int × Sg) :=
  (f_X9_treatyAt v1 σ).bind fun q1 => oT q1 (some (((-1), σ))) fun t3 => (f_X9_isPlace v2 v3 σ).bind fun q4 => if w32 q4 = 0 then some (((-1), σ)) else (f_X9_isSum v4 σ).bind fun q6 => if w32 q6 = 0 then some (((-1), σ)) else (f_X9_isPeril v5 σ).bind fun q8 => if w32 q8 = 0 then some (((-1), σ)) else (f_X8_takes t3 v5 σ).bind fun q10 => if w32 q10 = 0 then some ((σ (21 + t3) 6, σ)) else (f_X2_joined t3 v2 v3 16777215 0 σ).bind fun q12 => some ((mmaxI (σ (21 + t3) 6) (q12.1 + v4), q12.2))
def f_X9_about (v1 : Int) (v2 : Int) (v3 : Int) (σ : Sg) : Option (Int × Sg) :=
  (f_X9_treatyAt v1 σ).bind fun q1 => oT q1 (some (((-1), σ))) fun t3 => (f_X9_isPlace v2 v3 σ).bind fun q4 => if w32 q4 = 0 then some (((-1), σ)) else (f_X2_joined t3 v2 v3 16777215 0 σ).bind fun q6 => some ((q6.1, q6.2))
def f_X9_most_b93 (k25 : Int → Int → Int → Int → Int → Sg → Option (Int × Sg)) (v1 : Int) (v2 : Int) (v3 : Int) (v4 : Int) (v5 : Int) (σ : Sg) : Option (Int × Sg) :=
  k25 v1 v2 v3 v4 (v5 + 1) σ
def f_X9_most_b25 : Nat → Int → Int → Int → Int → Int → Sg → Option (Int × Sg)
  | 0, _, _, _, _, _, _ => none
  | n + 1, v1, v2, v3, v4, v5, σ => if w32 v5 < w32 (σ 0 4) then (f_X9_treatyAt v5 σ).bind fun q5 => oT q5 (f_X9_most_b93 (f_X9_most_b25 n) v1 v2 v3 v4 v5 σ) fun t7 => (f_X8_takes t7 v3 σ).bind fun q8 => if w32 q8 = 0 then f_X9_most_b93 (f_X9_most_b25 n) v1 v2 v3 v4 v5 σ else (f_X8_isPassed t7 σ).bind fun q10 => if w32 q10 = 0 then (f_X2_joined t7 v1 v2 16777215 0 σ).bind fun q12 => f_X9_most_b93 (f_X9_most_b25 n) v1 v2 v3 (mminI v4 ((σ (21 + t7) 4) - q12.1)) v5 q12.2 else some ((0, σ)) else some ((v4, σ))
def f_X9_most (v1 : Int) (v2 : Int) (v3 : Int) (σ : Sg) : Option (Int × Sg) :=
  (f_X9_isPlace v1 v2 σ).bind fun q1 => if w32 q1 = 0 then some (((-1), σ)) else (f_X9_isPeril v3 σ).bind fun q3 => if w32 q3 = 0 then some (((-1), σ)) else f_X9_most_b25 FUEL v1 v2 v3 99999 0 σ
def f_X9_leavesAll_b74 (k3 : Int → Int → Int → Int → Int → Sg → Option (Int × Sg)) (v1 : Int) (v2 : Int) (v3 : Int) (v4 : Int) (v5 : Int) (σ : Sg) : Option (Int × Sg) :=
  k3 v1 v2 v3 v4 (v5 + 1) σ
def f_X9_leavesAll_b3 : Nat → Int → Int → Int → Int → Int → Sg → Option (Int × Sg)
  | 0, _, _, _, _, _, _ => none
  | n + 1, v1, v2, v3, v4, v5, σ => if w32 v5 < w32 (σ 0 4) then (f_X9_treatyAt v5 σ).bind fun q1 => oT q1 (f_X9_leavesAll_b74 (f_X9_leavesAll_b3 n) v1 v2 v3 v4 v5 σ) fun t3 => (f_X8_takes t3 v4 σ).bind fun q4 => if w32 q4 = 0 then f_X9_leavesAll_b74 (f_X9_leavesAll_b3 n) v1 v2 v3 v4 v5 σ else (f_X8_isPassed t3 σ).bind fun q6 => if w32 q6 = 0 then (f_X2_joined t3 v1 v2 16777215 ((σ (21 + t3) 4) - v3) σ).bind fun q8 => if w32 q8.1 ≤ w32 ((σ (21 + t3) 4) - v3) then f_X9_leavesAll_b74 (f_X9_leavesAll_b3 n) v1 v2 v3 v4 v5 q8.2 else some ((0, q8.2)) else some ((0, σ)) else some ((1, σ))
def f_X9_leavesAll (v1 : Int) (v2 : Int) (v3 : Int) (v4 : Int) (σ : Sg) : Option (Int × Sg) :=
  f_X9_leavesAll_b3 FUEL v1 v2 v3 v4 0 σ
def f_X9_places_b56 (k21 : Int → Int → Int → Int → Sg → Option (Int × Sg)) (k32 : Int → Int → Int → Int → Int → Sg → Option (Int × Sg)) (v1 : Int) (v2 : Int) (v3 : Int) (v4 : Int) (v5 : Int) (σ : Sg) : Option (Int × Sg) :=
  k32 v1 v2 v3 v4 (v5 + 30) σ
def f_X9_places_b62 (k21 : Int → Int → Int → Int → Sg → Option (Int × Sg)) (v1 : Int) (v2 : Int) (v3 : Int) (v4 : Int) (σ : Sg) : Option (Int × Sg) :=
  k21 v1 v2 v3 (v4 + 30) σ
def f_X9_places_b32 (k21 : Int → Int → Int → Int → Sg → Option (Int × Sg)) : Nat → Int → Int → Int → Int → Int → Sg → Option (Int × Sg)
  | 0, _, _, _, _, _, _ => none
  | n + 1, v1, v2, v3, v4, v5, σ => if w32 v5 < 300 then (f_X9_leavesAll v4 v5 v1 v2 σ).bind fun q5 => if w32 q5.1 = 0 then f_X9_places_b56 k21 (f_X9_places_b32 k21 n) v1 v2 v3 v4 v5 q5.2 else f_X9_places_b56 k21 (f_X9_places_b32 k21 n) v1 v2 (v3 + 1) v4 v5 q5.2 else f_X9_places_b62 k21 v1 v2 v3 v4 σ
def f_X9_places_b21 : Nat → Int → Int → Int → Int → Sg → Option (Int × Sg)
  | 0, _, _, _, _, _ => none
  | n + 1, v1, v2, v3, v4, σ => if w32 v4 < 300 then f_X9_places_b32 (f_X9_places_b21 n) FUEL v1 v2 v3 v4 0 σ else some ((v3, σ))
def f_X9_places (v1 : Int) (v2 : Int) (σ : Sg) : Option (Int × Sg) :=
  (f_X9_isSum v1 σ).bind fun q1 => if w32 q1 = 0 then some (((-1), σ)) else (f_X9_isPeril v2 σ).bind fun q3 => if w32 q3 = 0 then some (((-1), σ)) else f_X9_places_b21 FUEL v1 v2 0 0 σ
def f_J9_floorDiv_7cf53 (v0 : Int) (v1 : Int) (σ : Sg) : Option (Int) :=
  ck (¬ w32 v1 = 0) <| if w32 ((((u32 v0) ^^^ (u32 v1) : Nat) : Int)) < 0 then if w32 (((w32 v0).tdiv (w32 v1)) * v1) = w32 v0 then some ((w32 v0).tdiv (w32 v1)) else some (((w32 v0).tdiv (w32 v1)) - 1) else some ((w32 v0).tdiv (w32 v1))
def f_X9_onWay (v0 : Int) (v1 : Int) (v2 : Int) (v3 : Int) (σ : Sg) : Option (Int) :=
  if w32 v3 < 1 then some v0 else (f_J9_floorDiv_7cf53 (v2 * (v1 - v0)) v3 σ).bind fun q1 => some (v0 + q1)
def f_X9_along_b219 (v6 : Int) (v10 : Int) (v11 : Int) (σ : Sg) : Option (Int × Sg) :=
  if w32 v6 = 0 then some ((v10, σ)) else some ((v11, σ))
def f_X9_along_b213 (k105 : Int → Int → Int → Int → Int → Nat → Int → Int → Int → Int → Int → Sg → Option (Int × Sg)) (v2 : Int) (v3 : Int) (v4 : Int) (v5 : Int) (v6 : Int) (t7 : Nat) (v8 : Int) (v9 : Int) (v10 : Int) (v11 : Int) (v12 : Int) (σ : Sg) : Option (Int × Sg) :=
  k105 v2 v3 v4 v5 v6 t7 v8 v9 v10 v11 (v12 + 1) σ
def f_X9_along_b105 : Nat → Int → Int → Int → Int → Int → Nat → Int → Int → Int → Int → Int → Sg → Option (Int × Sg)
  | 0, _, _, _, _, _, _, _, _, _, _, _, _ => none
  | n + 1, v2, v3, v4, v5, v6, t7, v8, v9, v10, v11, v12, σ => if w32 v12 ≤ w32 v5 then (f_X0_perilOf v2 σ).bind fun q12 => (f_X8_takes t7 q12 σ).bind fun q14 => if w32 q14 = 0 then f_X9_along_b219 v6 v10 v11 σ else (f_X0_xOf v2 σ).bind fun q17 => (f_X9_onWay q17 v3 v12 v5 σ).bind fun q19 => (f_X0_yOf v2 σ).bind fun q21 => (f_X9_onWay q21 v4 v12 v5 σ).bind fun q23 => (f_X2_joined t7 q19 q23 v8 (v10 - v9) σ).bind fun q25 => if w32 v11 < 0 then if w32 (mmaxI v10 (q25.1 + v9)) ≤ w32 (q25.2 (21 + t7) 4) then f_X9_along_b213 (f_X9_along_b105 n) v2 v3 v4 v5 v6 t7 v8 v9 (mmaxI v10 (q25.1 + v9)) v11 v12 q25.2 else f_X9_along_b213 (f_X9_along_b105 n) v2 v3 v4 v5 v6 t7 v8 v9 (mmaxI v10 (q25.1 + v9)) v12 v12 q25.2 else f_X9_along_b213 (f_X9_along_b105 n) v2 v3 v4 v5 v6 t7 v8 v9 (mmaxI v10 (q25.1 + v9)) v11 v12 q25.2 else f_X9_along_b219 v6 v10 v11 σ
def f_X9_along_b100 (v2 : Int) (v3 : Int) (v4 : Int) (v5 : Int) (v6 : Int) (t7 : Nat) (v8 : Int) (v9 : Int) (v10 : Int) (w0 : Int) (σ : Sg) : Option (Int × Sg) :=
  f_X9_along_b105 FUEL v2 v3 v4 v5 v6 t7 v8 v9 v10 w0 1 σ
def f_X9_along (v1 : Int) (v2 : Int) (v3 : Int) (v4 : Int) (v5 : Int) (v6 : Int) (σ : Sg) : Option (Int × Sg) :=
  (f_X9_treatyAt v1 σ).bind fun q1 => oT q1 (some (((-1), σ))) fun t3 => (f_X0_has v2 σ).bind fun q4 => if w32 q4 = 0 then some (((-1), σ)) else (f_X9_isPlace v3 v4 σ).bind fun q6 => if w32 q6 = 0 then some (((-1), σ)) else if w32 v5 < 1 then some (((-1), σ)) else if w32 v5 ≤ 20 then if w32 v6 < 0 then some (((-1), σ)) else if w32 v6 ≤ 1 then (f_X0_sumOf v2 σ).bind fun q8 => (f_X8_isPassed t3 σ).bind fun q10 => if w32 q10 = 0 then f_X9_along_b100 v2 v3 v4 v5 v6 t3 (((16777215 &&& ((u32 (1 * ((2 ^ (u32 v2 % 32) : Nat) : Int))) ^^^ 4294967295) : Nat) : Int)) q8 (σ (21 + t3) 6) ((-2)) σ else f_X9_along_b100 v2 v3 v4 v5 v6 t3 (((16777215 &&& ((u32 (1 * ((2 ^ (u32 v2 % 32) : Nat) : Int))) ^^^ 4294967295) : Nat) : Int)) q8 (σ (21 + t3) 6) 0 σ else some (((-1), σ)) else some (((-1), σ))
def f_X9_isReach (v0 : Int) (σ : Sg) : Option (Int) :=
  if w32 v0 < 0 then some 0 else if w32 v0 ≤ 300 then some 1 else some 0
def f_X9_chainFrom_b82 (σ : Sg) (k11 : Int → Int → Int → Int → Int → Option (Int)) (k32 : Int → Int → Int → Int → Int → Int → Option (Int)) (v2 : Int) (v3 : Int) (v4 : Int) (v5 : Int) (v6 : Int) (v7 : Int) : Option (Int) :=
  k32 v2 v3 v4 v5 v6 (v7 + 1)
def f_X9_chainFrom_b88 (σ : Sg) (k11 : Int → Int → Int → Int → Int → Option (Int)) (v2 : Int) (v3 : Int) (v4 : Int) (v5 : Int) (v6 : Int) : Option (Int) :=
  k11 v2 v3 v4 v5 (v6 + 1)
def f_X9_chainFrom_b32 (σ : Sg) (k11 : Int → Int → Int → Int → Int → Option (Int)) : Nat → Int → Int → Int → Int → Int → Int → Option (Int)
  | 0, _, _, _, _, _, _ => none
  | n + 1, v2, v3, v4, v5, v6, v7 => if w32 v7 < 24 then (f_X9_contains v4 v7 σ).bind fun q1 => if w32 q1 = 0 then f_X9_chainFrom_b82 σ k11 (f_X9_chainFrom_b32 σ k11 n) v2 v3 v4 v5 v6 v7 else (f_X0_xOf v7 σ).bind fun q3 => (f_X0_yOf v7 σ).bind fun q5 => (f_X0_within q3 q5 v3 σ).bind fun q7 => f_X9_chainFrom_b82 σ k11 (f_X9_chainFrom_b32 σ k11 n) v2 v3 ((((u32 v4) ||| ((u32 v2) &&& (u32 q7)) : Nat) : Int)) v5 v6 v7 else f_X9_chainFrom_b88 σ k11 v2 v3 v4 v5 v6
def f_X9_chainFrom_b11 (σ : Sg) : Nat → Int → Int → Int → Int → Int → Option (Int)
  | 0, _, _, _, _, _ => none
  | n + 1, v2, v3, v4, v5, v6 => if w32 v6 < 24 then if w32 v4 = w32 v5 then some v4 else f_X9_chainFrom_b32 σ (f_X9_chainFrom_b11 σ n) FUEL v2 v3 v4 v4 v6 0 else some v4
def f_X9_chainFrom (v1 : Int) (v2 : Int) (v3 : Int) (σ : Sg) : Option (Int) :=
  f_X9_chainFrom_b11 σ FUEL v2 v3 (1 * ((2 ^ (u32 v1 % 32) : Nat) : Int)) 0 0
def f_X9_chains_b124 (σ : Sg) (k47 : Int → Int → Int → Int → Int → Int → Int → Option (Int)) (v2 : Int) (v3 : Int) (v4 : Int) (v5 : Int) (v6 : Int) (v7 : Int) (v8 : Int) : Option (Int) :=
  k47 v2 v3 v4 v5 v6 v7 (v8 + 1)
def f_X9_chains_b130 (σ : Sg) (v3 : Int) (v5 : Int) (v6 : Int) (v7 : Int) : Option (Int) :=
  if w32 v3 = 0 then some v5 else if w32 v3 = 1 then some v6 else if w32 v3 = 2 then (f_X0_sums v7 σ).bind fun q19 => some q19 else some v7
def f_X9_chains_b47 (σ : Sg) : Nat → Int → Int → Int → Int → Int → Int → Int → Option (Int)
  | 0, _, _, _, _, _, _, _ => none
  | n + 1, v2, v3, v4, v5, v6, v7, v8 => if w32 v8 < 24 then (f_X9_contains v4 v8 σ).bind fun q7 => if w32 q7 = 0 then f_X9_chains_b124 σ (f_X9_chains_b47 σ n) v2 v3 v4 v5 v6 v7 v8 else (f_X9_chainFrom v8 v4 v2 σ).bind fun q9 => (f_J6_bitCount_0f7a4 q9 σ).bind fun q11 => (f_X0_sums q9 σ).bind fun q13 => (f_X0_sums v7 σ).bind fun q15 => if w32 q13 ≤ w32 q15 then f_X9_chains_b124 σ (f_X9_chains_b47 σ n) v2 v3 ((((u32 v4) &&& ((u32 q9) ^^^ 4294967295) : Nat) : Int)) (v5 + 1) (mmaxI v6 q11) v7 v8 else f_X9_chains_b124 σ (f_X9_chains_b47 σ n) v2 v3 ((((u32 v4) &&& ((u32 q9) ^^^ 4294967295) : Nat) : Int)) (v5 + 1) (mmaxI v6 q11) q9 v8 else f_X9_chains_b130 σ v3 v5 v6 v7
def f_X9_chains (v1 : Int) (v2 : Int) (v3 : Int) (σ : Sg) : Option (Int) :=
  (f_X9_arePerils v1 σ).bind fun q1 => if w32 q1 = 0 then some ((-1)) else (f_X9_isReach v2 σ).bind fun q3 => if w32 q3 = 0 then some ((-1)) else if w32 v3 < 0 then some ((-1)) else if w32 v3 ≤ 3 then (f_X0_ofPerils v1 σ).bind fun q5 => f_X9_chains_b47 σ FUEL v2 v3 q5 0 0 0 0 else some ((-1))
def f_X9_heaviestOf (v1 : Int) (v2 : Int) (σ : Sg) : Option (Int × Sg) :=
  (f_X2_fill 6 v2 v1 σ).bind fun q1 => (f_X2_heaviestAmong 6 16777215 q1).bind fun q3 => some ((q3, q1))
def f_X9_heaviest (v1 : Int) (v2 : Int) (σ : Sg) : Option (Int × Sg) :=
  (f_X9_arePerils v1 σ).bind fun q1 => if w32 q1 = 0 then some (((-1), σ)) else (f_X9_isRadius v2 σ).bind fun q3 => if w32 q3 = 0 then some (((-1), σ)) else (f_X0_ofPerils v1 σ).bind fun q5 => (f_X9_heaviestOf q5 v2 σ).bind fun q7 => (f_X0_sums q7.1 q7.2).bind fun q9 => some ((q9, q7.2))
def f_X9_heaviestSet (v1 : Int) (v2 : Int) (σ : Sg) : Option (Int × Sg) :=
  (f_X9_arePerils v1 σ).bind fun q1 => if w32 q1 = 0 then some (((-1), σ)) else (f_X9_isRadius v2 σ).bind fun q3 => if w32 q3 = 0 then some (((-1), σ)) else (f_X0_ofPerils v1 σ).bind fun q5 => (f_X9_heaviestOf q5 v2 σ).bind fun q7 => some ((q7.1, q7.2))
def f_X2_at (d : Nat) (v1 : Int) (σ : Sg) : Option (Int) :=
  ck (d < 7) <| if w32 v1 < 0 then some 0 else if w32 v1 < 576 then ck (0 ≤ v1 ∧ v1 < 576) <| some (σ (34 + d) (v1).toNat) else some 0
def f_X3_keep_b72 (k4 : Int → Int → Int → Sg → Option (Sg)) (v1 : Int) (v2 : Int) (v3 : Int) (σ : Sg) : Option (Sg) :=
  k4 v1 v2 (v3 + 1) σ
def f_X3_keep_b97 (v2 : Int) (σ : Sg) : Option (Sg) :=
  wr σ 18 1 v2 fun σ11 => some σ11
def f_X3_keep_b78 (v1 : Int) (v2 : Int) (σ : Sg) : Option (Sg) :=
  if w32 v2 < 576 then ck (0 ≤ v2 ∧ v2 < 576) <| wr σ 19 (v2).toNat v1 fun σ10 => f_X3_keep_b97 (v2 + 1) σ10 else f_X3_keep_b97 v2 σ
def f_X3_keep_b4 : Nat → Int → Int → Int → Sg → Option (Sg)
  | 0, _, _, _, _ => none
  | n + 1, v1, v2, v3, σ => if w32 v3 < w32 (σ 18 1) then if w32 v3 < 576 then ck (0 ≤ v3 ∧ v3 < 576) <| if w32 ((((u32 v1) &&& ((u32 (σ 19 (v3).toNat)) ^^^ 4294967295) : Nat) : Int)) = 0 then some σ else ck (0 ≤ v3 ∧ v3 < 576) <| if w32 ((((u32 (σ 19 (v3).toNat)) &&& ((u32 v1) ^^^ 4294967295) : Nat) : Int)) = 0 then f_X3_keep_b72 (f_X3_keep_b4 n) v1 v2 v3 σ else if w32 v2 < 576 then ck (0 ≤ v3 ∧ v3 < 576) <| ck (0 ≤ v2 ∧ v2 < 576) <| wr σ 19 (v2).toNat (σ 19 (v3).toNat) fun σ5 => f_X3_keep_b72 (f_X3_keep_b4 n) v1 (v2 + 1) v3 σ5 else f_X3_keep_b72 (f_X3_keep_b4 n) v1 v2 v3 σ else f_X3_keep_b78 v1 v2 σ else f_X3_keep_b78 v1 v2 σ
def f_X3_keep (v1 : Int) (σ : Sg) : Option (Sg) :=
  f_X3_keep_b4 FUEL v1 0 0 σ
def f_X3_gather_b33 (k7 : Nat → Int → Sg → Option (Sg)) (t1 : Nat) (v2 : Int) (σ : Sg) : Option (Sg) :=
  k7 t1 (v2 + 1) σ
def f_X3_gather_b7 : Nat → Nat → Int → Sg → Option (Sg)
  | 0, _, _, _ => none
  | n + 1, t1, v2, σ => if w32 v2 < 576 then (f_X2_at t1 v2 σ).bind fun q2 => if w32 q2 = 0 then f_X3_gather_b33 (f_X3_gather_b7 n) t1 v2 σ else (f_X2_at t1 v2 σ).bind fun q4 => (f_X3_keep q4 σ).bind fun q6 => f_X3_gather_b33 (f_X3_gather_b7 n) t1 v2 q6 else some σ
def f_X3_gather (e1 : Nat) (σ : Sg) : Option (Sg) :=
  ck (e1 < 7) <| wr σ 18 1 0 fun σ1 => f_X3_gather_b7 FUEL e1 0 σ1
def f_X3_heaviestTwo_b98 (σ : Sg) (k7 : Int → Int → Int → Option (Int)) (k30 : Int → Int → Int → Int → Option (Int)) (v2 : Int) (v3 : Int) (v4 : Int) (v5 : Int) : Option (Int) :=
  k30 v2 v3 v4 (v5 + 1)
def f_X3_heaviestTwo_b92 (σ : Sg) (k7 : Int → Int → Int → Option (Int)) (k30 : Int → Int → Int → Int → Option (Int)) (v4 : Int) (v5 : Int) (v6 : Int) (v7 : Int) : Option (Int) :=
  f_X3_heaviestTwo_b98 σ k7 k30 v6 v7 v4 v5
def f_X3_heaviestTwo_b104 (σ : Sg) (k7 : Int → Int → Int → Option (Int)) (v2 : Int) (v3 : Int) (v4 : Int) : Option (Int) :=
  k7 v2 v3 (v4 + 1)
def f_X3_heaviestTwo_b30 (σ : Sg) (k7 : Int → Int → Int → Option (Int)) : Nat → Int → Int → Int → Int → Option (Int)
  | 0, _, _, _, _ => none
  | n + 1, v2, v3, v4, v5 => if w32 v5 < w32 (σ 18 1) then if w32 v5 < 576 then ck (0 ≤ v4 ∧ v4 < 576) <| ck (0 ≤ v5 ∧ v5 < 576) <| (f_X0_sums ((((u32 (σ 19 (v4).toNat)) ||| (u32 (σ 19 (v5).toNat)) : Nat) : Int)) σ).bind fun q3 => if w32 q3 ≤ w32 v3 then if w32 q3 = w32 v3 then if w32 ((((u32 (σ 19 (v4).toNat)) ||| (u32 (σ 19 (v5).toNat)) : Nat) : Int)) < w32 v2 then f_X3_heaviestTwo_b92 σ k7 (f_X3_heaviestTwo_b30 σ k7 n) v4 v5 ((((u32 (σ 19 (v4).toNat)) ||| (u32 (σ 19 (v5).toNat)) : Nat) : Int)) q3 else f_X3_heaviestTwo_b98 σ k7 (f_X3_heaviestTwo_b30 σ k7 n) v2 v3 v4 v5 else f_X3_heaviestTwo_b98 σ k7 (f_X3_heaviestTwo_b30 σ k7 n) v2 v3 v4 v5 else f_X3_heaviestTwo_b92 σ k7 (f_X3_heaviestTwo_b30 σ k7 n) v4 v5 ((((u32 (σ 19 (v4).toNat)) ||| (u32 (σ 19 (v5).toNat)) : Nat) : Int)) q3 else f_X3_heaviestTwo_b104 σ k7 v2 v3 v4 else f_X3_heaviestTwo_b104 σ k7 v2 v3 v4
def f_X3_heaviestTwo_b7 (σ : Sg) : Nat → Int → Int → Int → Option (Int)
  | 0, _, _, _ => none
  | n + 1, v2, v3, v4 => if w32 v4 < w32 (σ 18 1) then if w32 v4 < 576 then f_X3_heaviestTwo_b30 σ (f_X3_heaviestTwo_b7 σ n) FUEL v2 v3 v4 v4 else some v2 else some v2
def f_X3_heaviestTwo (σ : Sg) : Option (Int) :=
  f_X3_heaviestTwo_b7 σ FUEL 0 0 0
def f_X9_two (v1 : Int) (v2 : Int) (v3 : Int) (σ : Sg) : Option (Int × Sg) :=
  (f_X9_arePerils v1 σ).bind fun q1 => if w32 q1 = 0 then some (((-1), σ)) else (f_X9_isRadius v2 σ).bind fun q3 => if w32 q3 = 0 then some (((-1), σ)) else if w32 v3 < 0 then some (((-1), σ)) else if w32 v3 ≤ 1 then (f_X0_ofPerils v1 σ).bind fun q5 => (f_X2_fill 6 v2 q5 σ).bind fun q7 => (f_X3_gather 6 q7).bind fun q9 => (f_X3_heaviestTwo q9).bind fun q11 => if w32 v3 = 0 then (f_X0_sums q11 q9).bind fun q13 => some ((q13, q9)) else some ((q11, q9)) else some (((-1), σ))
def f_X3_isOneOver_b2 (σ : Sg) : Nat → Int → Int → Option (Int)
  | 0, _, _ => none
  | n + 1, v1, v2 => if w32 v2 < w32 (σ 18 1) then if w32 v2 < 576 then ck (0 ≤ v2 ∧ v2 < 576) <| if w32 ((((u32 v1) &&& ((u32 (σ 19 (v2).toNat)) ^^^ 4294967295) : Nat) : Int)) = 0 then some 1 else (f_X3_isOneOver_b2 σ n) v1 (v2 + 1) else some 0 else some 0
def f_X3_isOneOver (v1 : Int) (σ : Sg) : Option (Int) :=
  f_X3_isOneOver_b2 σ FUEL v1 0
def f_X3_leastOf (v0 : Int) (σ : Sg) : Option (Int) :=
  (f_J6_bitCount_0f7a4 (((((u32 v0) &&& (u32 (-v0)) : Nat) : Int)) - 1) σ).bind fun q1 => some q1
def f_X3_areTwoOver_b54 (σ : Sg) (k2 : Int → Int → Option (Int)) (v1 : Int) (v2 : Int) : Option (Int) :=
  k2 v1 (v2 + 1)
def f_X3_areTwoOver_b2 (σ : Sg) : Nat → Int → Int → Option (Int)
  | 0, _, _ => none
  | n + 1, v1, v2 => if w32 v2 < w32 (σ 18 1) then if w32 v2 < 576 then ck (0 ≤ v2 ∧ v2 < 576) <| (f_X3_leastOf v1 σ).bind fun q2 => (f_X9_contains (σ 19 (v2).toNat) q2 σ).bind fun q4 => if w32 q4 = 0 then f_X3_areTwoOver_b54 σ (f_X3_areTwoOver_b2 σ n) v1 v2 else ck (0 ≤ v2 ∧ v2 < 576) <| (f_X3_isOneOver ((((u32 v1) &&& ((u32 (σ 19 (v2).toNat)) ^^^ 4294967295) : Nat) : Int)) σ).bind fun q7 => if w32 q7 = 0 then f_X3_areTwoOver_b54 σ (f_X3_areTwoOver_b2 σ n) v1 v2 else some 1 else some 0 else some 0
def f_X3_areTwoOver (v1 : Int) (σ : Sg) : Option (Int) :=
  f_X3_areTwoOver_b2 σ FUEL v1 0
def f_X3_fewestOver_b64 (σ : Sg) (k12 : Int → Int → Option (Int)) (v1 : Int) (v2 : Int) : Option (Int) :=
  k12 v1 (v2 + 1)
def f_X3_fewestOver_b124 (σ : Sg) (k72 : Int → Int → Option (Int)) (v1 : Int) (v2 : Int) : Option (Int) :=
  k72 v1 (v2 + 1)
def f_X3_fewestOver_b72 (σ : Sg) : Nat → Int → Int → Option (Int)
  | 0, _, _ => none
  | n + 1, v1, v2 => if w32 v2 < w32 (σ 18 1) then if w32 v2 < 576 then ck (0 ≤ v2 ∧ v2 < 576) <| (f_X3_leastOf v1 σ).bind fun q14 => (f_X9_contains (σ 19 (v2).toNat) q14 σ).bind fun q16 => if w32 q16 = 0 then f_X3_fewestOver_b124 σ (f_X3_fewestOver_b72 σ n) v1 v2 else ck (0 ≤ v2 ∧ v2 < 576) <| (f_X3_areTwoOver ((((u32 v1) &&& ((u32 (σ 19 (v2).toNat)) ^^^ 4294967295) : Nat) : Int)) σ).bind fun q19 => if w32 q19 = 0 then f_X3_fewestOver_b124 σ (f_X3_fewestOver_b72 σ n) v1 v2 else some 3 else some ((-2)) else some ((-2))
def f_X3_fewestOver_b70 (σ : Sg) (v1 : Int) : Option (Int) :=
  f_X3_fewestOver_b72 σ FUEL v1 0
def f_X3_fewestOver_b12 (σ : Sg) : Nat → Int → Int → Option (Int)
  | 0, _, _ => none
  | n + 1, v1, v2 => if w32 v2 < w32 (σ 18 1) then if w32 v2 < 576 then ck (0 ≤ v2 ∧ v2 < 576) <| (f_X3_leastOf v1 σ).bind fun q4 => (f_X9_contains (σ 19 (v2).toNat) q4 σ).bind fun q6 => if w32 q6 = 0 then f_X3_fewestOver_b64 σ (f_X3_fewestOver_b12 σ n) v1 v2 else ck (0 ≤ v2 ∧ v2 < 576) <| (f_X3_isOneOver ((((u32 v1) &&& ((u32 (σ 19 (v2).toNat)) ^^^ 4294967295) : Nat) : Int)) σ).bind fun q9 => if w32 q9 = 0 then f_X3_fewestOver_b64 σ (f_X3_fewestOver_b12 σ n) v1 v2 else some 2 else f_X3_fewestOver_b70 σ v1 else f_X3_fewestOver_b70 σ v1
def f_X3_fewestOver (v1 : Int) (σ : Sg) : Option (Int) :=
  (f_X3_isOneOver v1 σ).bind fun q1 => if w32 q1 = 0 then f_X3_fewestOver_b12 σ FUEL v1 0 else some 1
def f_X9_cover (v1 : Int) (v2 : Int) (σ : Sg) : Option (Int × Sg) :=
  (f_X9_arePerils v1 σ).bind fun q1 => if w32 q1 = 0 then some (((-1), σ)) else (f_X9_isRadius v2 σ).bind fun q3 => if w32 q3 = 0 then some (((-1), σ)) else (f_X0_ofPerils v1 σ).bind fun q5 => if w32 q5 = 0 then some ((0, σ)) else (f_X2_fill 6 v2 q5 σ).bind fun q7 => (f_X3_gather 6 q7).bind fun q9 => (f_X3_fewestOver q5 q9).bind fun q11 => some ((q11, q9))
def f_X0_inSquare_b78 (σ : Sg) (k6 : Int → Int → Int → Int → Int → Option (Int)) (v1 : Int) (v2 : Int) (v3 : Int) (v4 : Int) (v5 : Int) : Option (Int) :=
  k6 v1 v2 v3 v4 (v5 + 1)
def f_X0_inSquare_b6 (σ : Sg) : Nat → Int → Int → Int → Int → Int → Option (Int)
  | 0, _, _, _, _, _ => none
  | n + 1, v1, v2, v3, v4, v5 => if w32 v5 < 24 then ck (0 ≤ v5 ∧ v5 < 24) <| ck (0 ≤ v5 ∧ v5 < 24) <| (f_X9_contains (σ 6 5) v5 σ).bind fun q3 => if w32 q3 = 0 then f_X0_inSquare_b78 σ (f_X0_inSquare_b6 σ n) v1 v2 v3 v4 v5 else if w32 ((σ 7 (v5).toNat) - v1) < 0 then f_X0_inSquare_b78 σ (f_X0_inSquare_b6 σ n) v1 v2 v3 v4 v5 else if w32 ((σ 7 (v5).toNat) - v1) ≤ w32 v3 then if w32 ((σ 8 (v5).toNat) - v2) < 0 then f_X0_inSquare_b78 σ (f_X0_inSquare_b6 σ n) v1 v2 v3 v4 v5 else if w32 ((σ 8 (v5).toNat) - v2) ≤ w32 v3 then f_X0_inSquare_b78 σ (f_X0_inSquare_b6 σ n) v1 v2 v3 ((((u32 v4) ||| (u32 (1 * ((2 ^ (u32 v5 % 32) : Nat) : Int))) : Nat) : Int)) v5 else f_X0_inSquare_b78 σ (f_X0_inSquare_b6 σ n) v1 v2 v3 v4 v5 else f_X0_inSquare_b78 σ (f_X0_inSquare_b6 σ n) v1 v2 v3 v4 v5 else some v4
def f_X0_inSquare (v1 : Int) (v2 : Int) (v3 : Int) (σ : Sg) : Option (Int) :=
  f_X0_inSquare_b6 σ FUEL v1 v2 v3 0 0
def f_X9_square_b195 (σ : Sg) (k53 : Int → Int → Int → Int → Int → Int → Int → Option (Int)) (k63 : Int → Int → Int → Int → Int → Int → Int → Int → Option (Int)) (v2 : Int) (v3 : Int) (v4 : Int) (v5 : Int) (v6 : Int) (v7 : Int) (v8 : Int) (v9 : Int) : Option (Int) :=
  k63 v2 v3 v4 v5 v6 v7 v8 (v9 + 1)
def f_X9_square_b183 (σ : Sg) (k53 : Int → Int → Int → Int → Int → Int → Int → Option (Int)) (k63 : Int → Int → Int → Int → Int → Int → Int → Int → Option (Int)) (v2 : Int) (v3 : Int) (v4 : Int) (v8 : Int) (v9 : Int) (v10 : Int) (v11 : Int) (v12 : Int) : Option (Int) :=
  f_X9_square_b195 σ k53 k63 v2 v3 v4 v12 v10 v11 v8 v9
def f_X9_square_b162 (σ : Sg) (k53 : Int → Int → Int → Int → Int → Int → Int → Option (Int)) (k63 : Int → Int → Int → Int → Int → Int → Int → Int → Option (Int)) (v2 : Int) (v3 : Int) (v4 : Int) (v5 : Int) (v6 : Int) (v7 : Int) (v8 : Int) (v9 : Int) (v10 : Int) (v11 : Int) (v12 : Int) (w0 : Int) : Option (Int) :=
  if w32 v12 ≤ w32 v5 then if w32 v12 = w32 v5 then if w32 w0 = 0 then f_X9_square_b195 σ k53 k63 v2 v3 v4 v5 v6 v7 v8 v9 else f_X9_square_b183 σ k53 k63 v2 v3 v4 v8 v9 v10 v11 v12 else f_X9_square_b195 σ k53 k63 v2 v3 v4 v5 v6 v7 v8 v9 else f_X9_square_b183 σ k53 k63 v2 v3 v4 v8 v9 v10 v11 v12
def f_X9_square_b157 (σ : Sg) (k53 : Int → Int → Int → Int → Int → Int → Int → Option (Int)) (k63 : Int → Int → Int → Int → Int → Int → Int → Int → Option (Int)) (v2 : Int) (v3 : Int) (v4 : Int) (v5 : Int) (v6 : Int) (v7 : Int) (v8 : Int) (v9 : Int) (v10 : Int) (v11 : Int) (v12 : Int) : Option (Int) :=
  f_X9_square_b162 σ k53 k63 v2 v3 v4 v5 v6 v7 v8 v9 v10 v11 v12 1
def f_X9_square_b161 (σ : Sg) (k53 : Int → Int → Int → Int → Int → Int → Int → Option (Int)) (k63 : Int → Int → Int → Int → Int → Int → Int → Int → Option (Int)) (v2 : Int) (v3 : Int) (v4 : Int) (v5 : Int) (v6 : Int) (v7 : Int) (v8 : Int) (v9 : Int) (v10 : Int) (v11 : Int) (v12 : Int) : Option (Int) :=
  f_X9_square_b162 σ k53 k63 v2 v3 v4 v5 v6 v7 v8 v9 v10 v11 v12 0
def f_X9_square_b201 (σ : Sg) (k53 : Int → Int → Int → Int → Int → Int → Int → Option (Int)) (v2 : Int) (v3 : Int) (v4 : Int) (v5 : Int) (v6 : Int) (v7 : Int) (v8 : Int) : Option (Int) :=
  k53 v2 v3 v4 v5 v6 v7 (v8 + 1)
def f_X9_square_b63 (σ : Sg) (k53 : Int → Int → Int → Int → Int → Int → Int → Option (Int)) : Nat → Int → Int → Int → Int → Int → Int → Int → Int → Option (Int)
  | 0, _, _, _, _, _, _, _, _ => none
  | n + 1, v2, v3, v4, v5, v6, v7, v8, v9 => if w32 v9 < 24 then (f_X9_contains v4 v8 σ).bind fun q5 => if w32 q5 = 0 then f_X9_square_b195 σ k53 (f_X9_square_b63 σ k53 n) v2 v3 v4 v5 v6 v7 v8 v9 else (f_X9_contains v4 v9 σ).bind fun q7 => if w32 q7 = 0 then f_X9_square_b195 σ k53 (f_X9_square_b63 σ k53 n) v2 v3 v4 v5 v6 v7 v8 v9 else (f_X0_xOf v8 σ).bind fun q9 => (f_X0_yOf v9 σ).bind fun q11 => (f_X0_inSquare q9 q11 v2 σ).bind fun q13 => (f_X0_sums ((((u32 v4) &&& (u32 q13) : Nat) : Int)) σ).bind fun q15 => if w32 q9 < w32 v6 then f_X9_square_b157 σ k53 (f_X9_square_b63 σ k53 n) v2 v3 v4 v5 v6 v7 v8 v9 q9 q11 q15 else if w32 q9 = w32 v6 then if w32 q11 < w32 v7 then f_X9_square_b157 σ k53 (f_X9_square_b63 σ k53 n) v2 v3 v4 v5 v6 v7 v8 v9 q9 q11 q15 else f_X9_square_b161 σ k53 (f_X9_square_b63 σ k53 n) v2 v3 v4 v5 v6 v7 v8 v9 q9 q11 q15 else f_X9_square_b161 σ k53 (f_X9_square_b63 σ k53 n) v2 v3 v4 v5 v6 v7 v8 v9 q9 q11 q15 else f_X9_square_b201 σ k53 v2 v3 v4 v5 v6 v7 v8
def f_X9_square_b207 (σ : Sg) (v3 : Int) (v5 : Int) (v6 : Int) (v7 : Int) : Option (Int) :=
  if w32 v3 = 0 then some v5 else if w32 v3 = 1 then some v6 else some v7
def f_X9_square_b53 (σ : Sg) : Nat → Int → Int → Int → Int → Int → Int → Int → Option (Int)
  | 0, _, _, _, _, _, _, _ => none
  | n + 1, v2, v3, v4, v5, v6, v7, v8 => if w32 v8 < 24 then f_X9_square_b63 σ (f_X9_square_b53 σ n) FUEL v2 v3 v4 v5 v6 v7 v8 0 else f_X9_square_b207 σ v3 v5 v6 v7
def f_X9_square (v1 : Int) (v2 : Int) (v3 : Int) (σ : Sg) : Option (Int) :=
  (f_X9_arePerils v1 σ).bind fun q1 => if w32 q1 = 0 then some ((-1)) else if w32 v2 < 0 then some ((-1)) else if w32 v2 < 300 then if w32 v3 < 0 then some ((-1)) else if w32 v3 ≤ 2 then (f_X0_ofPerils v1 σ).bind fun q3 => f_X9_square_b53 σ FUEL v2 v3 q3 0 ((-2)) ((-2)) 0 else some ((-1)) else some ((-1))
def f_X9_radiusFor_b123 (k68 : Int → Int → Int → Int → Int → Sg → Option (Int × Sg)) (v2 : Int) (v3 : Int) (v4 : Int) (v5 : Int) (v6 : Int) (σ : Sg) : Option (Int × Sg) :=
  k68 v2 v3 v4 v5 (v6 + 1) σ
def f_X9_radiusFor_b68 : Nat → Int → Int → Int → Int → Int → Sg → Option (Int × Sg)
  | 0, _, _, _, _, _, _ => none
  | n + 1, v2, v3, v4, v5, v6, σ => if w32 v6 < 300 then if w32 v4 < w32 v5 then ck (¬ w32 2 = 0) <| (f_X9_heaviestOf v3 ((w32 (v4 + v5)).tdiv (w32 2)) σ).bind fun q12 => (f_X0_sums q12.1 q12.2).bind fun q14 => if w32 q14 < w32 v2 then f_X9_radiusFor_b123 (f_X9_radiusFor_b68 n) v2 v3 (((w32 (v4 + v5)).tdiv (w32 2)) + 1) v5 v6 q12.2 else f_X9_radiusFor_b123 (f_X9_radiusFor_b68 n) v2 v3 v4 ((w32 (v4 + v5)).tdiv (w32 2)) v6 q12.2 else some ((v4, σ)) else some ((v4, σ))
def f_X9_radiusFor (v1 : Int) (v2 : Int) (σ : Sg) : Option (Int × Sg) :=
  (f_X9_arePerils v1 σ).bind fun q1 => if w32 q1 = 0 then some (((-1), σ)) else if w32 v2 < 1 then some (((-1), σ)) else (f_X0_ofPerils v1 σ).bind fun q3 => (f_X0_sums q3 σ).bind fun q5 => if w32 q5 < w32 v2 then some (((-2), σ)) else (f_X9_heaviestOf q3 300 σ).bind fun q7 => (f_X0_sums q7.1 q7.2).bind fun q9 => if w32 q9 < w32 v2 then some (((-2), q7.2)) else f_X9_radiusFor_b68 FUEL v2 q3 1 300 0 q7.2
def f_X9_together (v1 : Int) (v2 : Int) (v3 : Int) (σ : Sg) : Option (Int) :=
  (f_X0_has v1 σ).bind fun q1 => if w32 q1 = 0 then some ((-1)) else (f_X0_has v2 σ).bind fun q3 => if w32 q3 = 0 then some ((-1)) else if w32 v1 = w32 v2 then some ((-1)) else (f_X9_isRadius v3 σ).bind fun q5 => if w32 q5 = 0 then some ((-1)) else (f_X0_between v1 v2 σ).bind fun q7 => if w32 q7 ≤ w32 ((4 * v3) * v3) then some 1 else some 0
def f_X9_nearest_b74 (σ : Sg) (k21 : Int → Int → Int → Int → Option (Int)) (v1 : Int) (v2 : Int) (v3 : Int) (v4 : Int) : Option (Int) :=
  k21 v1 v2 v3 (v4 + 1)
def f_X9_nearest_b68 (σ : Sg) (k21 : Int → Int → Int → Int → Option (Int)) (v1 : Int) (v4 : Int) (v5 : Int) : Option (Int) :=
  f_X9_nearest_b74 σ k21 v1 v4 v5 v4
def f_X9_nearest_b21 (σ : Sg) : Nat → Int → Int → Int → Int → Option (Int)
  | 0, _, _, _, _ => none
  | n + 1, v1, v2, v3, v4 => if w32 v4 < 24 then if w32 v4 = w32 v1 then f_X9_nearest_b74 σ (f_X9_nearest_b21 σ n) v1 v2 v3 v4 else (f_X0_has v4 σ).bind fun q3 => if w32 q3 = 0 then f_X9_nearest_b74 σ (f_X9_nearest_b21 σ n) v1 v2 v3 v4 else (f_X0_between v1 v4 σ).bind fun q5 => if w32 v2 < 0 then f_X9_nearest_b68 σ (f_X9_nearest_b21 σ n) v1 v4 q5 else if w32 q5 < w32 v3 then f_X9_nearest_b68 σ (f_X9_nearest_b21 σ n) v1 v4 q5 else f_X9_nearest_b74 σ (f_X9_nearest_b21 σ n) v1 v2 v3 v4 else some v2
def f_X9_nearest (v1 : Int) (σ : Sg) : Option (Int) :=
  (f_X0_has v1 σ).bind fun q1 => if w32 q1 = 0 then some ((-1)) else f_X9_nearest_b21 σ FUEL v1 ((-2)) 0 0
def f_X9_couples_b62 (σ : Sg) (k13 : Int → Int → Int → Option (Int)) (v1 : Int) (v2 : Int) (v3 : Int) : Option (Int) :=
  k13 v1 v2 (v3 + 1)
def f_X9_couples_b68 (σ : Sg) (v2 : Int) : Option (Int) :=
  ck (¬ w32 2 = 0) <| some ((w32 v2).tdiv (w32 2))
def f_X9_couples_b13 (σ : Sg) : Nat → Int → Int → Int → Option (Int)
  | 0, _, _, _ => none
  | n + 1, v1, v2, v3 => if w32 v3 < 24 then (f_X0_has v3 σ).bind fun q3 => if w32 q3 = 0 then f_X9_couples_b62 σ (f_X9_couples_b13 σ n) v1 v2 v3 else (f_X0_xOf v3 σ).bind fun q5 => (f_X0_yOf v3 σ).bind fun q7 => (f_X0_within q5 q7 v1 σ).bind fun q9 => (f_J6_bitCount_0f7a4 q9 σ).bind fun q11 => f_X9_couples_b62 σ (f_X9_couples_b13 σ n) v1 (v2 + (q11 - 1)) v3 else f_X9_couples_b68 σ v2
def f_X9_couples (v1 : Int) (σ : Sg) : Option (Int) :=
  (f_X9_isReach v1 σ).bind fun q1 => if w32 q1 = 0 then some ((-1)) else f_X9_couples_b13 σ FUEL v1 0 0
def f_X7_hitAt (v2 : Int) (σ : Sg) : Option (Int) :=
  (f_X9_onWay (σ 17 2) (σ 17 4) v2 (σ 17 6) σ).bind fun q1 => (f_X9_onWay (σ 17 3) (σ 17 5) v2 (σ 17 6) σ).bind fun q3 => (f_X0_within q1 q3 (σ 17 1) σ).bind fun q5 => some q5
def f_X7_hits_b4 (σ : Sg) : Nat → Int → Int → Option (Int)
  | 0, _, _ => none
  | n + 1, v2, v3 => if w32 v3 ≤ w32 (σ 17 6) then (f_X7_hitAt v3 σ).bind fun q1 => (f_X7_hits_b4 σ n) ((((u32 v2) ||| (u32 q1) : Nat) : Int)) (v3 + 1) else some v2
def f_X7_hits (σ : Sg) : Option (Int) :=
  f_X7_hits_b4 σ FUEL 0 0
def f_X9_storm (v1 : Int) (v2 : Int) (v3 : Int) (v4 : Int) (v5 : Int) (v6 : Int) (σ : Sg) : Option (Int × Sg) :=
  (f_X9_isReach v1 σ).bind fun q1 => if w32 q1 = 0 then some (((-1), σ)) else (f_X9_isPlace v2 v3 σ).bind fun q3 => if w32 q3 = 0 then some (((-1), σ)) else (f_X9_isPlace v4 v5 σ).bind fun q5 => if w32 q5 = 0 then some (((-1), σ)) else if w32 v6 < 1 then some (((-1), σ)) else if w32 v6 ≤ 100 then wr σ 17 0 1 fun σ7 => wr σ7 17 1 v1 fun σ8 => wr σ8 17 2 v2 fun σ9 => wr σ9 17 3 v3 fun σ10 => wr σ10 17 4 v4 fun σ11 => wr σ11 17 5 v5 fun σ12 => wr σ12 17 6 v6 fun σ13 => (f_X7_hits σ13).bind fun q14 => (f_J6_bitCount_0f7a4 q14 σ13).bind fun q16 => some ((q16, σ13)) else some (((-1), σ))
def f_X7_fiercest_b41 (σ : Sg) (k7 : Int → Int → Int → Option (Int)) (v2 : Int) (v3 : Int) (v4 : Int) : Option (Int) :=
  k7 v2 v3 (v4 + 1)
def f_X7_fiercest_b7 (σ : Sg) : Nat → Int → Int → Int → Option (Int)
  | 0, _, _, _ => none
  | n + 1, v2, v3, v4 => if w32 v4 ≤ w32 (σ 17 6) then (f_X7_hitAt v4 σ).bind fun q1 => (f_X0_sums q1 σ).bind fun q3 => if w32 q3 ≤ w32 v3 then f_X7_fiercest_b41 σ (f_X7_fiercest_b7 σ n) v2 v3 v4 else f_X7_fiercest_b41 σ (f_X7_fiercest_b7 σ n) v4 q3 v4 else some v2
def f_X7_fiercest (σ : Sg) : Option (Int) :=
  f_X7_fiercest_b7 σ FUEL 0 0 0
def f_X9_hit (v1 : Int) (σ : Sg) : Option (Int) :=
  if w32 v1 < 0 then some ((-1)) else if w32 v1 ≤ 3 then if w32 (σ 17 0) = 0 then some ((-2)) else if w32 v1 = 0 then (f_X7_hits σ).bind fun q1 => some q1 else if w32 v1 = 1 then (f_X7_hits σ).bind fun q3 => (f_X0_sums q3 σ).bind fun q5 => some q5 else if w32 v1 = 2 then (f_X7_fiercest σ).bind fun q7 => some q7 else (f_X7_fiercest σ).bind fun q9 => (f_X7_hitAt q9 σ).bind fun q11 => (f_X0_sums q11 σ).bind fun q13 => some q13 else some ((-1))
def f_X9_pays (v1 : Int) (σ : Sg) : Option (Int) :=
  (f_X9_treatyAt v1 σ).bind fun q1 => oT q1 (some ((-1))) fun t3 => if w32 (σ 17 0) = 0 then some ((-2)) else (f_X7_hits σ).bind fun q4 => (f_X0_sums ((((u32 (σ (27 + t3) 5)) &&& (u32 q4) : Nat) : Int)) σ).bind fun q6 => some (mmaxI 0 (q6 - (σ (21 + t3) 4)))
def f_X9_drawnAfter (v0 : Int) (σ : Sg) : Option (Int) :=
  some (((u64 (((w32 v0) * 1103515245) + 12345) &&& u64 2147483647 : Nat) : Int))
def f_X9_drawn_b164 (σ : Sg) (k58 : Int → Int → Nat → Int → Int → Int → Int → Int → Int → Option (Int)) (v3 : Int) (v4 : Int) (t5 : Nat) (v6 : Int) (v7 : Int) (v9 : Int) (v10 : Int) (v11 : Int) (v13 : Int) (w0 : Int) (w1 : Int) : Option (Int) :=
  k58 v3 v4 t5 v6 v7 (w1 + w0) (v9 + v13) v10 (v11 + 1)
def f_X9_drawn_b147 (σ : Sg) (k58 : Int → Int → Nat → Int → Int → Int → Int → Int → Int → Option (Int)) (v3 : Int) (v4 : Int) (t5 : Nat) (v6 : Int) (v7 : Int) (v8 : Int) (v9 : Int) (v10 : Int) (v11 : Int) (v13 : Int) : Option (Int) :=
  if w32 v13 ≤ w32 (σ (21 + t5) 4) then f_X9_drawn_b164 σ k58 v3 v4 t5 v6 v7 v9 v10 v11 v13 0 v8 else f_X9_drawn_b164 σ k58 v3 v4 t5 v6 v7 v9 v10 v11 v13 1 v8
def f_X9_drawn_b180 (σ : Sg) (v4 : Int) (v6 : Int) (v7 : Int) (v8 : Int) (v9 : Int) : Option (Int) :=
  if w32 v4 = 0 then some v6 else if w32 v4 = 1 then some v7 else if w32 v4 = 2 then some v8 else some v9
def f_X9_drawn_b58 (σ : Sg) : Nat → Int → Int → Nat → Int → Int → Int → Int → Int → Int → Option (Int)
  | 0, _, _, _, _, _, _, _, _, _ => none
  | n + 1, v3, v4, t5, v6, v7, v8, v9, v10, v11 => if w32 v11 < w32 v3 then (f_X9_drawnAfter v10 σ).bind fun q4 => ck (¬ w32 65536 = 0) <| ck (¬ w32 300 = 0) <| (f_X9_drawnAfter q4 σ).bind fun q8 => ck (¬ w32 65536 = 0) <| ck (¬ w32 300 = 0) <| (f_X0_within ((w32 ((w32 q4).tdiv (w32 65536))).tmod (w32 300)) ((w32 ((w32 q8).tdiv (w32 65536))).tmod (w32 300)) (σ (21 + t5) 3) σ).bind fun q12 => (f_X0_sums ((((u32 (σ (27 + t5) 5)) &&& (u32 q12) : Nat) : Int)) σ).bind fun q14 => if w32 q14 ≤ w32 v6 then f_X9_drawn_b147 σ (f_X9_drawn_b58 σ n) v3 v4 t5 v6 v7 v8 v9 q8 v11 q14 else f_X9_drawn_b147 σ (f_X9_drawn_b58 σ n) v3 v4 t5 q14 v11 v8 v9 q8 v11 q14 else f_X9_drawn_b180 σ v4 v6 v7 v8 v9
def f_X9_drawn (v1 : Int) (v2 : Int) (v3 : Int) (v4 : Int) (σ : Sg) : Option (Int) :=
  (f_X9_treatyAt v1 σ).bind fun q1 => oT q1 (some ((-1))) fun t3 => if w32 v2 < 0 then some ((-1)) else if w32 v3 < 1 then some ((-1)) else if w32 v3 ≤ 100 then if w32 v4 < 0 then some ((-1)) else if w32 v4 ≤ 3 then f_X9_drawn_b58 σ FUEL v3 v4 t3 0 0 0 0 v2 0 else some ((-1)) else some ((-1))
def f_X5_latest (d : Nat) (v1 : Int) (v2 : Int) (σ : Sg) : Option (Int) :=
  ck (d < 2) <| if w32 v1 < 0 then some (σ (13 + 2 * d) 1) else if w32 v1 < 30 then if w32 v1 < w32 (σ (13 + 2 * d) 2) then ck (¬ w32 30 = 0) <| if w32 ((((w32 (((σ (13 + 2 * d) 2) - 1) - v1)).tmod (w32 30)) * 3) + v2) < 0 then some (σ (13 + 2 * d) 1) else if w32 ((((w32 (((σ (13 + 2 * d) 2) - 1) - v1)).tmod (w32 30)) * 3) + v2) < 90 then ck (0 ≤ (((w32 (((σ (13 + 2 * d) 2) - 1) - v1)).tmod (w32 30)) * 3) + v2 ∧ (((w32 (((σ (13 + 2 * d) 2) - 1) - v1)).tmod (w32 30)) * 3) + v2 < 90) <| some (σ (14 + 2 * d) ((((w32 (((σ (13 + 2 * d) 2) - 1) - v1)).tmod (w32 30)) * 3) + v2).toNat) else some (σ (13 + 2 * d) 1) else some (σ (13 + 2 * d) 1) else some (σ (13 + 2 * d) 1)
def f_X9_alarm (v1 : Int) (v2 : Int) (σ : Sg) : Option (Int) :=
  if w32 v1 < 0 then some ((-1)) else if w32 v2 < 0 then some ((-1)) else if w32 v2 ≤ 2 then (f_X5_latest 1 v1 v2 σ).bind fun q1 => some q1 else some ((-1))
def f_X9_act (v1 : Int) (v2 : Int) (σ : Sg) : Option (Int) :=
  if w32 v1 < 0 then some ((-2147483648)) else if w32 v2 < 0 then some ((-2147483648)) else if w32 v2 ≤ 2 then (f_X5_latest 0 v1 v2 σ).bind fun q1 => some q1 else some ((-2147483648))
def f_X9_passedTreaties_b32 (σ : Sg) (k4 : Int → Int → Option (Int)) (v1 : Int) (v2 : Int) : Option (Int) :=
  k4 v1 (v2 + 1)
def f_X9_passedTreaties_b4 (σ : Sg) : Nat → Int → Int → Option (Int)
  | 0, _, _ => none
  | n + 1, v1, v2 => if w32 v2 < w32 (σ 0 4) then (f_X9_treatyAt v2 σ).bind fun q1 => oT q1 (f_X9_passedTreaties_b32 σ (f_X9_passedTreaties_b4 σ n) v1 v2) fun t3 => (f_X8_isPassed t3 σ).bind fun q4 => if w32 q4 = 0 then f_X9_passedTreaties_b32 σ (f_X9_passedTreaties_b4 σ n) v1 v2 else f_X9_passedTreaties_b32 σ (f_X9_passedTreaties_b4 σ n) (v1 + 1) v2 else some v1
def f_X9_passedTreaties (σ : Sg) : Option (Int) :=
  f_X9_passedTreaties_b4 σ FUEL 0 0
def f_X0_unlikePlaces_b50 (σ : Sg) (k4 : Int → Int → Option (Int)) (v1 : Int) (v2 : Int) : Option (Int) :=
  k4 v1 (v2 + 1)
def f_X0_unlikePlaces_b4 (σ : Sg) : Nat → Int → Int → Option (Int)
  | 0, _, _ => none
  | n + 1, v1, v2 => if w32 v2 < 24 then (f_X9_contains (σ 6 5) v2 σ).bind fun q1 => if w32 q1 = 0 then f_X0_unlikePlaces_b50 σ (f_X0_unlikePlaces_b4 σ n) v1 v2 else ck (0 ≤ v2 ∧ v2 < 24) <| ck (0 ≤ v2 ∧ v2 < 24) <| (f_X0_within (σ 7 (v2).toNat) (σ 8 (v2).toNat) 0 σ).bind fun q5 => if w32 ((((u32 q5) &&& (u32 ((1 * ((2 ^ (u32 v2 % 32) : Nat) : Int)) - 1)) : Nat) : Int)) = 0 then f_X0_unlikePlaces_b50 σ (f_X0_unlikePlaces_b4 σ n) (v1 + 1) v2 else f_X0_unlikePlaces_b50 σ (f_X0_unlikePlaces_b4 σ n) v1 v2 else some v1
def f_X0_unlikePlaces (σ : Sg) : Option (Int) :=
  f_X0_unlikePlaces_b4 σ FUEL 0 0
def f_X9_count (v1 : Int) (σ : Sg) : Option (Int) :=
  if w32 v1 = 0 then (f_J6_bitCount_0f7a4 (σ 6 5) σ).bind fun q1 => some q1 else if w32 v1 = 1 then some (σ 0 4) else if w32 v1 = 2 then (f_X0_sums (σ 6 5) σ).bind fun q3 => some q3 else if w32 v1 = 3 then (f_X9_passedTreaties σ).bind fun q5 => some q5 else if w32 v1 = 4 then some (σ (13 + 2 * 0) 2) else if w32 v1 = 5 then (f_X0_unlikePlaces σ).bind fun q7 => some q7 else if w32 v1 = 6 then some (σ 1 1) else some ((-1))
def f_X10_thrown (σ : Sg) : Option (Int) :=
  some (σ 41 0)
def f_X10_feed_b73 (k20 : Int → Int → Int → Int → Int → Int → Sg → Option (Int × Sg)) (v1 : Int) (v2 : Int) (v3 : Int) (v4 : Int) (v5 : Int) (v6 : Int) (w0 : Int) (σ : Sg) : Option (Int × Sg) :=
  ck (¬ w32 4 = 0) <| ck (0 ≤ (σ 41 2) + v6 ∧ (σ 41 2) + v6 < 900) <| wr σ 42 ((σ 41 2) + v6).toNat ((((u32 (w32 w0 >>> (u32 (24 - (8 * ((w32 v6).tmod (w32 4)))) % 32))) &&& 255 : Nat) : Int)) fun σ4 => k20 v1 v2 v3 v4 v5 (v6 + 1) σ4
def f_X10_feed_b110 (σ : Sg) : Option (Int × Sg) :=
  wr σ 41 2 ((σ 41 2) + 20) fun σ9 => some ((σ9 41 2, σ9))
def f_X10_feed_b20 : Nat → Int → Int → Int → Int → Int → Int → Sg → Option (Int × Sg)
  | 0, _, _, _, _, _, _, _ => none
  | n + 1, v1, v2, v3, v4, v5, v6, σ => if w32 v6 < 20 then if w32 v6 < 4 then f_X10_feed_b73 (f_X10_feed_b20 n) v1 v2 v3 v4 v5 v6 v1 σ else if w32 v6 < 8 then f_X10_feed_b73 (f_X10_feed_b20 n) v1 v2 v3 v4 v5 v6 v2 σ else if w32 v6 < 12 then f_X10_feed_b73 (f_X10_feed_b20 n) v1 v2 v3 v4 v5 v6 v3 σ else if w32 v6 < 16 then f_X10_feed_b73 (f_X10_feed_b20 n) v1 v2 v3 v4 v5 v6 v4 σ else f_X10_feed_b73 (f_X10_feed_b20 n) v1 v2 v3 v4 v5 v6 v5 σ else f_X10_feed_b110 σ
def f_X10_feed (v1 : Int) (v2 : Int) (v3 : Int) (v4 : Int) (v5 : Int) (σ : Sg) : Option (Int × Sg) :=
  wr σ 41 0 0 fun σ1 => if w32 (σ1 41 2) ≤ 880 then f_X10_feed_b20 FUEL v1 v2 v3 v4 v5 0 σ1 else some (((-1), σ1))
def f_X10_here (σ : Sg) : Option (Int) :=
  if w32 (σ 41 9) < w32 (σ 41 8) then ck (0 ≤ σ 41 9 ∧ σ 41 9 < 900) <| some (σ 42 (σ 41 9).toNat) else some ((-1))
def f_X10_isSmall (v0 : Int) (σ : Sg) : Option (Int) :=
  if w32 v0 < 97 then some 0 else if w32 v0 ≤ 122 then some 1 else some 0
def f_X10_isDigit (v0 : Int) (σ : Sg) : Option (Int) :=
  if w32 v0 < 48 then some 0 else if w32 v0 ≤ 57 then some 1 else some 0
def f_J0_coder_7d493_s2 (σ : Sg) : Option (Int) :=
  some 0
def f_J0_length_8abf5_s2 (σ : Sg) : Option (Int) :=
  (f_J0_coder_7d493_s2 σ).bind fun q1 => some (w32 14 >>> (u32 q1 % 32))
def f_J0_isLatin1_aae02_s2 (σ : Sg) : Option (Int) :=
  some 1
def f_J1_charAt_3b067_y2 (v1 : Int) (σ : Sg) : Option (Int) :=
  (f_J0_checkIndex_df160 v1 14 σ).bind fun q1 => ck (0 ≤ v1 ∧ v1 < 14) <| ck (0 ≤ ((((u32 (zChr 2 (v1).toNat)) &&& 255) % 65536 : Nat) : Int) ∧ ((((u32 (zChr 2 (v1).toNat)) &&& 255) % 65536 : Nat) : Int) < 65536) <| some (((((u32 (zChr 2 (v1).toNat)) &&& 255) % 65536 : Nat) : Int))
def f_J0_charAt_5068e_s2 (v1 : Int) (σ : Sg) : Option (Int) :=
  (f_J0_isLatin1_aae02_s2 σ).bind fun q1 => if w32 q1 = 0 then none else (f_J1_charAt_3b067_y2 v1 σ).bind fun q3 => ck (0 ≤ q3 ∧ q3 < 65536) <| some q3
def f_X10_wordHere_b114 (σ : Sg) (k4 : Int → Int → Option (Int)) (v1 : Int) (v2 : Int) : Option (Int) :=
  k4 (v1 + 1) (v2 + 1)
def f_X10_wordHere_b97 (σ : Sg) (k4 : Int → Int → Option (Int)) : Nat → Int → Int → Option (Int)
  | 0, _, _ => none
  | n + 1, v1, v2 => (f_J0_charAt_5068e_s2 v2 σ).bind fun q7 => if w32 q7 = 32 then f_X10_wordHere_b114 σ k4 v1 v2 else (f_X10_wordHere_b97 σ k4 n) v1 (v2 + 1)
def f_X10_wordHere_b69 (σ : Sg) (k4 : Int → Int → Option (Int)) (v1 : Int) (v2 : Int) (v3 : Int) : Option (Int) :=
  (f_J0_charAt_5068e_s2 (v2 + v3) σ).bind fun q5 => if w32 q5 = 32 then if w32 ((σ 41 10) + v3) = w32 (σ 41 9) then some v1 else f_X10_wordHere_b97 σ k4 FUEL v1 v2 else f_X10_wordHere_b97 σ k4 FUEL v1 v2
def f_X10_wordHere_b15 (σ : Sg) (k4 : Int → Int → Option (Int)) : Nat → Int → Int → Int → Option (Int)
  | 0, _, _, _ => none
  | n + 1, v1, v2, v3 => (f_J0_charAt_5068e_s2 (v2 + v3) σ).bind fun q3 => if w32 q3 = 32 then f_X10_wordHere_b69 σ k4 v1 v2 v3 else if w32 ((σ 41 10) + v3) < w32 (σ 41 9) then ck (0 ≤ (σ 41 10) + v3 ∧ (σ 41 10) + v3 < 900) <| (f_J0_charAt_5068e_s2 (v2 + v3) σ).bind fun q13 => if w32 (σ 42 ((σ 41 10) + v3).toNat) = w32 q13 then (f_X10_wordHere_b15 σ k4 n) v1 v2 (v3 + 1) else f_X10_wordHere_b69 σ k4 v1 v2 v3 else f_X10_wordHere_b69 σ k4 v1 v2 v3
def f_X10_wordHere_b4 (σ : Sg) : Nat → Int → Int → Option (Int)
  | 0, _, _ => none
  | n + 1, v1, v2 => (f_J0_length_8abf5_s2 σ).bind fun q1 => if w32 v2 < w32 q1 then f_X10_wordHere_b15 σ (f_X10_wordHere_b4 σ n) FUEL v1 v2 0 else some ((-1))
def f_X10_wordHere (σ : Sg) : Option (Int) :=
  f_X10_wordHere_b4 σ FUEL 0 0
def f_X10_token_b18 (k0 : Sg → Option (Sg)) (σ : Sg) : Option (Sg) :=
  wr σ 41 9 ((σ 41 9) + 1) fun σ3 => k0 σ3
def f_X10_token_b202 (w0 : Int) (σ : Sg) : Option (Sg) :=
  wr σ 41 11 w0 fun σ14 => wr σ14 41 9 ((σ14 41 9) + 1) fun σ15 => some σ15
def f_X10_token_b174 (k132 : Sg → Option (Sg)) (w0 : Int) (σ : Sg) : Option (Sg) :=
  wr σ 41 12 w0 fun σ25 => wr σ25 41 9 ((σ25 41 9) + 1) fun σ26 => k132 σ26
def f_X10_token_b132 : Nat → Sg → Option (Sg)
  | 0, _ => none
  | n + 1, σ => (f_X10_here σ).bind fun q19 => (f_X10_isDigit q19 σ).bind fun q21 => if w32 q21 = 0 then some σ else if w32 (σ 41 12) ≤ 9999999 then (f_X10_here σ).bind fun q23 => f_X10_token_b174 (f_X10_token_b132 n) (((10 * (σ 41 12)) + q23) - 48) σ else f_X10_token_b174 (f_X10_token_b132 n) (σ 41 12) σ
def f_X10_token_b109 (w0 : Int) (σ : Sg) : Option (Sg) :=
  wr σ 41 11 w0 fun σ37 => some σ37
def f_X10_token_b87 (σ : Sg) : Option (Sg) :=
  (f_X10_wordHere σ).bind fun q34 => wr σ 41 12 q34 fun σ36 => if w32 (σ36 41 12) = (-1) then f_X10_token_b109 4 σ36 else f_X10_token_b109 0 σ36
def f_X10_token_b64 : Nat → Sg → Option (Sg)
  | 0, _ => none
  | n + 1, σ => (f_X10_here σ).bind fun q30 => (f_X10_isSmall q30 σ).bind fun q32 => if w32 q32 = 0 then f_X10_token_b87 σ else wr σ 41 9 ((σ 41 9) + 1) fun σ39 => (f_X10_token_b64 n) σ39
def f_X10_token_b31 (σ : Sg) : Option (Sg) :=
  wr σ 41 10 (σ 41 9) fun σ6 => (f_X10_here σ6).bind fun q7 => if w32 q7 = (-1) then wr σ6 41 11 3 fun σ9 => some σ9 else (f_X10_isSmall q7 σ6).bind fun q10 => if w32 q10 = 0 then (f_X10_isDigit q7 σ6).bind fun q12 => if w32 q12 = 0 then if w32 q7 = 59 then f_X10_token_b202 2 σ6 else f_X10_token_b202 4 σ6 else wr σ6 41 11 1 fun σ17 => wr σ17 41 12 0 fun σ18 => f_X10_token_b132 FUEL σ18 else f_X10_token_b64 FUEL σ6
def f_X10_token_b0 : Nat → Sg → Option (Sg)
  | 0, _ => none
  | n + 1, σ => (f_X10_here σ).bind fun q1 => if w32 q1 = 10 then f_X10_token_b18 (f_X10_token_b0 n) σ else (f_X10_here σ).bind fun q4 => if w32 q4 = 32 then f_X10_token_b18 (f_X10_token_b0 n) σ else f_X10_token_b31 σ
def f_X10_token (σ : Sg) : Option (Sg) :=
  f_X10_token_b0 FUEL σ
def f_X10_wrong (v1 : Int) (σ : Sg) : Option (Sg) :=
  if w32 (σ 41 13) = 0 then wr σ 41 13 v1 fun σ1 => wr σ1 41 14 (σ1 41 10) fun σ2 => some σ2 else some σ
def f_X10_goOn (σ : Sg) : Option (Sg) :=
  if w32 (σ 41 13) = 0 then (f_X10_token σ).bind fun q1 => some q1 else some σ
def f_X10_numeral_b61 (w0 : Int) (σ : Sg) : Option (Int × Sg) :=
  (f_X10_goOn σ).bind fun q3 => some ((w0, q3))
def f_X10_numeral_b46 (v1 : Int) (σ : Sg) : Option (Int × Sg) :=
  if w32 (σ 41 13) = 0 then f_X10_numeral_b61 (σ 41 12) σ else f_X10_numeral_b61 v1 σ
def f_X10_numeral_b41 (v1 : Int) (σ : Sg) : Option (Int × Sg) :=
  (f_X10_wrong 2 σ).bind fun q1 => f_X10_numeral_b46 v1 q1
def f_X10_numeral (v1 : Int) (v2 : Int) (σ : Sg) : Option (Int × Sg) :=
  if w32 (σ 41 13) = 0 then if w32 (σ 41 11) = 1 then if w32 (σ 41 12) < w32 v1 then f_X10_numeral_b41 v1 σ else if w32 (σ 41 12) ≤ w32 v2 then f_X10_numeral_b46 v1 σ else f_X10_numeral_b41 v1 σ else (f_X10_wrong 1 σ).bind fun q8 => f_X10_numeral_b46 v1 q8 else some ((v1, σ))
def f_X10_readOne_b14 (σ : Sg) : Option (Sg) :=
  (f_X10_goOn σ).bind fun q3 => (f_X10_numeral 0 299 q3).bind fun q5 => (f_X10_numeral 0 299 q5.2).bind fun q7 => (f_X10_numeral 1 99999 q7.2).bind fun q9 => (f_X10_numeral 0 3 q9.2).bind fun q11 => if w32 (q11.2 41 13) = 0 then ck (0 ≤ 4 * (q11.2 41 5) ∧ 4 * (q11.2 41 5) < 96) <| wr q11.2 43 (4 * (q11.2 41 5)).toNat q5.1 fun σ14 => ck (0 ≤ (4 * (q11.2 41 5)) + 1 ∧ (4 * (q11.2 41 5)) + 1 < 96) <| wr σ14 43 ((4 * (q11.2 41 5)) + 1).toNat q7.1 fun σ16 => ck (0 ≤ (4 * (q11.2 41 5)) + 2 ∧ (4 * (q11.2 41 5)) + 2 < 96) <| wr σ16 43 ((4 * (q11.2 41 5)) + 2).toNat q9.1 fun σ18 => ck (0 ≤ (4 * (q11.2 41 5)) + 3 ∧ (4 * (q11.2 41 5)) + 3 < 96) <| wr σ18 43 ((4 * (q11.2 41 5)) + 3).toNat q11.1 fun σ20 => wr σ20 41 5 ((σ20 41 5) + 1) fun σ21 => some σ21 else some q11.2
def f_X10_readOne (σ : Sg) : Option (Sg) :=
  if w32 (σ 41 5) = 24 then (f_X10_wrong 2 σ).bind fun q1 => f_X10_readOne_b14 q1 else f_X10_readOne_b14 σ
def f_X10_readOther_b14 (σ : Sg) : Option (Sg) :=
  (f_X10_goOn σ).bind fun q3 => (f_X10_numeral 1 15 q3).bind fun q5 => (f_X10_numeral 1 300 q5.2).bind fun q7 => (f_X10_numeral 1 9999999 q7.2).bind fun q9 => if w32 (q9.2 41 13) = 0 then ck (0 ≤ 3 * (q9.2 41 6) ∧ 3 * (q9.2 41 6) < 18) <| wr q9.2 44 (3 * (q9.2 41 6)).toNat q5.1 fun σ12 => ck (0 ≤ (3 * (q9.2 41 6)) + 1 ∧ (3 * (q9.2 41 6)) + 1 < 18) <| wr σ12 44 ((3 * (q9.2 41 6)) + 1).toNat q7.1 fun σ14 => ck (0 ≤ (3 * (q9.2 41 6)) + 2 ∧ (3 * (q9.2 41 6)) + 2 < 18) <| wr σ14 44 ((3 * (q9.2 41 6)) + 2).toNat q9.1 fun σ16 => wr σ16 41 6 ((σ16 41 6) + 1) fun σ17 => some σ17 else some q9.2
def f_X10_readOther (σ : Sg) : Option (Sg) :=
  if w32 (σ 41 6) = 6 then (f_X10_wrong 2 σ).bind fun q1 => f_X10_readOther_b14 q1 else f_X10_readOther_b14 σ
def f_X10_readLine_b53 (σ : Sg) : Option (Sg) :=
  (f_X10_goOn σ).bind fun q3 => wr q3 41 7 ((q3 41 7) + 1) fun σ5 => some σ5
def f_X10_readLine_b33 (σ : Sg) : Option (Sg) :=
  if w32 (σ 41 13) = 0 then if w32 (σ 41 11) = 2 then f_X10_readLine_b53 σ else (f_X10_wrong 1 σ).bind fun q6 => f_X10_readLine_b53 q6 else f_X10_readLine_b53 σ
def f_X10_readLine (σ : Sg) : Option (Sg) :=
  if w32 (σ 41 11) = 0 then if w32 (σ 41 12) = 0 then (f_X10_readOne σ).bind fun q1 => f_X10_readLine_b33 q1 else (f_X10_readOther σ).bind fun q10 => f_X10_readLine_b33 q10 else (f_X10_wrong 1 σ).bind fun q13 => f_X10_readLine_b33 q13
def f_X10_readText_b34 : Nat → Sg → Option (Sg)
  | 0, _ => none
  | n + 1, σ => if w32 (σ 41 13) = 0 then if w32 (σ 41 11) = 3 then some σ else (f_X10_readLine σ).bind fun q9 => (f_X10_readText_b34 n) q9 else some σ
def f_X10_readText (v1 : Int) (σ : Sg) : Option (Sg) :=
  wr σ 41 8 v1 fun σ1 => wr σ1 41 9 0 fun σ2 => wr σ2 41 13 0 fun σ3 => wr σ3 41 7 0 fun σ4 => wr σ4 41 5 0 fun σ5 => wr σ5 41 6 0 fun σ6 => (f_X10_token σ6).bind fun q7 => f_X10_readText_b34 FUEL q7
def f_X10_puts (v1 : Int) (v2 : Int) (v3 : Int) (v4 : Int) (v5 : Int) (σ : Sg) : Option (Sg) :=
  ck (0 ≤ v1 ∧ v1 < 25) <| wr σ 45 (v1).toNat v2 fun σ2 => ck (0 ≤ v1 ∧ v1 < 25) <| wr σ2 46 (v1).toNat v3 fun σ4 => ck (0 ≤ v1 ∧ v1 < 25) <| wr σ4 47 (v1).toNat v4 fun σ6 => ck (0 ≤ v1 ∧ v1 < 25) <| wr σ6 48 (v1).toNat v5 fun σ8 => some σ8
def f_X10_begins (v1 : Int) (v2 : Int) (v3 : Int) (v4 : Int) (σ : Sg) : Option (Sg) :=
  ck (0 ≤ v1 ∧ v1 < 6) <| wr σ 50 (v1).toNat v2 fun σ2 => ck (0 ≤ v1 ∧ v1 < 6) <| wr σ2 51 (v1).toNat v3 fun σ4 => ck (0 ≤ v1 ∧ v1 < 6) <| wr σ4 52 (v1).toNat v4 fun σ6 => ck (0 ≤ v1 ∧ v1 < 6) <| wr σ6 53 (v1).toNat ((-2)) fun σ8 => ck (0 ≤ v1 ∧ v1 < 6) <| wr σ8 54 (v1).toNat 0 fun σ10 => some σ10
def f_X10_has (v0 : Int) (v1 : Int) (σ : Sg) : Option (Int) :=
  if w32 ((((u32 (w32 v0 >>> (u32 v1 % 32))) &&& 1 : Nat) : Int)) = 1 then some 1 else some 0
def f_X10_ofPerils_b38 (σ : Sg) (k4 : Int → Int → Int → Option (Int)) (v1 : Int) (v2 : Int) (v3 : Int) : Option (Int) :=
  k4 v1 v2 (v3 + 1)
def f_X10_ofPerils_b4 (σ : Sg) : Nat → Int → Int → Int → Option (Int)
  | 0, _, _, _ => none
  | n + 1, v1, v2, v3 => if w32 v3 < 24 then ck (0 ≤ v3 ∧ v3 < 25) <| if w32 (σ 49 (v3).toNat) = 0 then f_X10_ofPerils_b38 σ (f_X10_ofPerils_b4 σ n) v1 v2 v3 else ck (0 ≤ v3 ∧ v3 < 25) <| (f_X10_has v1 (σ 48 (v3).toNat) σ).bind fun q3 => if w32 q3 = 0 then f_X10_ofPerils_b38 σ (f_X10_ofPerils_b4 σ n) v1 v2 v3 else f_X10_ofPerils_b38 σ (f_X10_ofPerils_b4 σ n) v1 ((((u32 v2) ||| (u32 (1 * ((2 ^ (u32 v3 % 32) : Nat) : Int))) : Nat) : Int)) v3 else some v2
def f_X10_ofPerils (v1 : Int) (σ : Sg) : Option (Int) :=
  f_X10_ofPerils_b4 σ FUEL v1 0 0
def f_X10_ofTreaty (v1 : Int) (σ : Sg) : Option (Int) :=
  ck (0 ≤ v1 ∧ v1 < 6) <| (f_X10_ofPerils (σ 50 (v1).toNat) σ).bind fun q2 => some q2
def f_X10_distance (v1 : Int) (v2 : Int) (σ : Sg) : Option (Int) :=
  ck (0 ≤ v1 ∧ v1 < 25) <| ck (0 ≤ v2 ∧ v2 < 25) <| ck (0 ≤ v1 ∧ v1 < 25) <| ck (0 ≤ v2 ∧ v2 < 25) <| ck (0 ≤ v1 ∧ v1 < 25) <| ck (0 ≤ v2 ∧ v2 < 25) <| ck (0 ≤ v1 ∧ v1 < 25) <| ck (0 ≤ v2 ∧ v2 < 25) <| some ((((σ 45 (v1).toNat) - (σ 45 (v2).toNat)) * ((σ 45 (v1).toNat) - (σ 45 (v2).toNat))) + (((σ 46 (v1).toNat) - (σ 46 (v2).toNat)) * ((σ 46 (v1).toNat) - (σ 46 (v2).toNat))))
def f_X10_around_b68 (k11 : Int → Int → Int → Int → Int → Sg → Option (Int × Sg)) (v1 : Int) (v2 : Int) (v3 : Int) (v4 : Int) (v5 : Int) (σ : Sg) : Option (Int × Sg) :=
  k11 v1 v2 v3 v4 (v5 + 1) σ
def f_X10_around_b11 : Nat → Int → Int → Int → Int → Int → Sg → Option (Int × Sg)
  | 0, _, _, _, _, _, _ => none
  | n + 1, v1, v2, v3, v4, v5, σ => if w32 v5 ≤ 24 then (f_X10_has v2 v5 σ).bind fun q2 => if w32 q2 = 0 then f_X10_around_b68 (f_X10_around_b11 n) v1 v2 v3 v4 v5 σ else (f_X10_distance v1 v5 σ).bind fun q4 => if w32 q4 ≤ w32 (v3 * v3) then ck (0 ≤ v5 ∧ v5 < 25) <| wr σ 41 35 ((σ 41 35) + (σ 47 (v5).toNat)) fun σ7 => f_X10_around_b68 (f_X10_around_b11 n) v1 v2 v3 ((((u32 v4) ||| (u32 (1 * ((2 ^ (u32 v5 % 32) : Nat) : Int))) : Nat) : Int)) v5 σ7 else f_X10_around_b68 (f_X10_around_b11 n) v1 v2 v3 v4 v5 σ else some ((v4, σ))
def f_X10_around (v1 : Int) (v2 : Int) (v3 : Int) (σ : Sg) : Option (Int × Sg) :=
  wr σ 41 35 0 fun σ1 => f_X10_around_b11 FUEL v1 v2 v3 0 0 σ1
def f_X10_offers_b62 (v3 : Int) (σ : Sg) : Option (Sg) :=
  wr σ 41 36 (σ 41 35) fun σ1 => wr σ1 41 37 v3 fun σ2 => some σ2
def f_X10_offers_b30 (w0 : Int) (σ : Sg) : Option (Sg) :=
  if w32 (σ 41 35) < w32 (σ 41 36) then some σ else if w32 (σ 41 35) = w32 (σ 41 36) then if w32 w0 < w32 (σ 41 37) then f_X10_offers_b62 w0 σ else some σ else f_X10_offers_b62 w0 σ
def f_X10_offers_b14 (v1 : Int) (v2 : Int) (σ : Sg) : Option (Sg) :=
  if w32 v2 = (-1) then f_X10_offers_b30 v1 σ else f_X10_offers_b30 ((((u32 v1) &&& ((u32 (1 * ((2 ^ (u32 v2 % 32) : Nat) : Int))) ^^^ 4294967295) : Nat) : Int)) σ
def f_X10_offers (v1 : Int) (v2 : Int) (σ : Sg) : Option (Sg) :=
  if w32 v2 = (-1) then f_X10_offers_b14 v1 v2 σ else (f_X10_has v1 v2 σ).bind fun q7 => if w32 q7 = 0 then some σ else f_X10_offers_b14 v1 v2 σ
def f_X10_canBeRim (v1 : Int) (v2 : Int) (v3 : Int) (σ : Sg) : Option (Int) :=
  (f_X10_distance v1 v2 σ).bind fun q1 => if w32 q1 ≤ 0 then some 0 else if w32 q1 ≤ w32 ((4 * v3) * v3) then some 1 else some 0
def f_X10_isIn_b228 (σ : Sg) (w0 : Int) (w1 : Int) : Option (Int) :=
  if w64 w1 ≤ w64 w0 then some 1 else some 0
def f_X10_isIn_b195 (σ : Sg) (v18 : Int) (v20 : Int) (w0 : Int) : Option (Int) :=
  if w64 v18 < 0 then f_X10_isIn_b228 σ (-(((4 * v18) * v18) * v20)) w0 else f_X10_isIn_b228 σ (((4 * v18) * v18) * v20) w0
def f_X10_isIn_b150 (σ : Sg) (v4 : Int) (v10 : Int) (v16 : Int) (w0 : Int) : Option (Int) :=
  if w64 v16 < 0 then f_X10_isIn_b195 σ w0 (((4 * (w32 v4)) * (w32 v4)) - v10) (((-v16) * v16) * v10) else f_X10_isIn_b195 σ w0 (((4 * (w32 v4)) * (w32 v4)) - v10) ((v16 * v16) * v10)
def f_X10_isIn (v1 : Int) (v2 : Int) (v3 : Int) (v4 : Int) (v5 : Int) (σ : Sg) : Option (Int) :=
  ck (0 ≤ v2 ∧ v2 < 25) <| ck (0 ≤ v1 ∧ v1 < 25) <| ck (0 ≤ v2 ∧ v2 < 25) <| ck (0 ≤ v1 ∧ v1 < 25) <| ck (0 ≤ v5 ∧ v5 < 25) <| ck (0 ≤ v1 ∧ v1 < 25) <| ck (0 ≤ v2 ∧ v2 < 25) <| ck (0 ≤ v5 ∧ v5 < 25) <| ck (0 ≤ v1 ∧ v1 < 25) <| ck (0 ≤ v2 ∧ v2 < 25) <| if w32 v3 = 0 then f_X10_isIn_b150 σ v4 (((w32 ((σ 45 (v2).toNat) - (σ 45 (v1).toNat))) * (w32 ((σ 45 (v2).toNat) - (σ 45 (v1).toNat)))) + ((w32 ((σ 46 (v2).toNat) - (σ 46 (v1).toNat))) * (w32 ((σ 46 (v2).toNat) - (σ 46 (v1).toNat))))) ((((((2 * (w32 (σ 45 (v5).toNat))) - (w32 (σ 45 (v1).toNat))) - (w32 (σ 45 (v2).toNat))) * (((2 * (w32 (σ 45 (v5).toNat))) - (w32 (σ 45 (v1).toNat))) - (w32 (σ 45 (v2).toNat)))) + ((((2 * (w32 (σ 46 (v5).toNat))) - (w32 (σ 46 (v1).toNat))) - (w32 (σ 46 (v2).toNat))) * (((2 * (w32 (σ 46 (v5).toNat))) - (w32 (σ 46 (v1).toNat))) - (w32 (σ 46 (v2).toNat))))) - (((w32 ((σ 45 (v2).toNat) - (σ 45 (v1).toNat))) * (w32 ((σ 45 (v2).toNat) - (σ 45 (v1).toNat)))) + ((w32 ((σ 46 (v2).toNat) - (σ 46 (v1).toNat))) * (w32 ((σ 46 (v2).toNat) - (σ 46 (v1).toNat)))))) (((((2 * (w32 (σ 46 (v5).toNat))) - (w32 (σ 46 (v1).toNat))) - (w32 (σ 46 (v2).toNat))) * (w32 ((σ 45 (v2).toNat) - (σ 45 (v1).toNat)))) - ((((2 * (w32 (σ 45 (v5).toNat))) - (w32 (σ 45 (v1).toNat))) - (w32 (σ 45 (v2).toNat))) * (w32 ((σ 46 (v2).toNat) - (σ 46 (v1).toNat))))) else f_X10_isIn_b150 σ v4 (((w32 ((σ 45 (v2).toNat) - (σ 45 (v1).toNat))) * (w32 ((σ 45 (v2).toNat) - (σ 45 (v1).toNat)))) + ((w32 ((σ 46 (v2).toNat) - (σ 46 (v1).toNat))) * (w32 ((σ 46 (v2).toNat) - (σ 46 (v1).toNat))))) ((((((2 * (w32 (σ 45 (v5).toNat))) - (w32 (σ 45 (v1).toNat))) - (w32 (σ 45 (v2).toNat))) * (((2 * (w32 (σ 45 (v5).toNat))) - (w32 (σ 45 (v1).toNat))) - (w32 (σ 45 (v2).toNat)))) + ((((2 * (w32 (σ 46 (v5).toNat))) - (w32 (σ 46 (v1).toNat))) - (w32 (σ 46 (v2).toNat))) * (((2 * (w32 (σ 46 (v5).toNat))) - (w32 (σ 46 (v1).toNat))) - (w32 (σ 46 (v2).toNat))))) - (((w32 ((σ 45 (v2).toNat) - (σ 45 (v1).toNat))) * (w32 ((σ 45 (v2).toNat) - (σ 45 (v1).toNat)))) + ((w32 ((σ 46 (v2).toNat) - (σ 46 (v1).toNat))) * (w32 ((σ 46 (v2).toNat) - (σ 46 (v1).toNat)))))) (((((2 * (w32 (σ 45 (v5).toNat))) - (w32 (σ 45 (v1).toNat))) - (w32 (σ 45 (v2).toNat))) * (w32 ((σ 46 (v2).toNat) - (σ 46 (v1).toNat)))) - ((((2 * (w32 (σ 46 (v5).toNat))) - (w32 (σ 46 (v1).toNat))) - (w32 (σ 46 (v2).toNat))) * (w32 ((σ 45 (v2).toNat) - (σ 45 (v1).toNat)))))
def f_X10_onRim_b82 (k11 : Int → Int → Int → Int → Int → Int → Int → Sg → Option (Int × Sg)) (v1 : Int) (v2 : Int) (v3 : Int) (v4 : Int) (v5 : Int) (v6 : Int) (v7 : Int) (σ : Sg) : Option (Int × Sg) :=
  k11 v1 v2 v3 v4 v5 v6 (v7 + 1) σ
def f_X10_onRim_b57 (k11 : Int → Int → Int → Int → Int → Int → Int → Sg → Option (Int × Sg)) (v1 : Int) (v2 : Int) (v3 : Int) (v4 : Int) (v5 : Int) (v6 : Int) (v7 : Int) (σ : Sg) : Option (Int × Sg) :=
  ck (0 ≤ v7 ∧ v7 < 25) <| wr σ 41 35 ((σ 41 35) + (σ 47 (v7).toNat)) fun σ5 => f_X10_onRim_b82 k11 v1 v2 v3 v4 v5 ((((u32 v6) ||| (u32 (1 * ((2 ^ (u32 v7 % 32) : Nat) : Int))) : Nat) : Int)) v7 σ5
def f_X10_onRim_b11 : Nat → Int → Int → Int → Int → Int → Int → Int → Sg → Option (Int × Sg)
  | 0, _, _, _, _, _, _, _, _ => none
  | n + 1, v1, v2, v3, v4, v5, v6, v7, σ => if w32 v7 ≤ 24 then (f_X10_has v4 v7 σ).bind fun q2 => if w32 q2 = 0 then f_X10_onRim_b82 (f_X10_onRim_b11 n) v1 v2 v3 v4 v5 v6 v7 σ else if w32 v7 = w32 v1 then f_X10_onRim_b57 (f_X10_onRim_b11 n) v1 v2 v3 v4 v5 v6 v7 σ else if w32 v7 = w32 v2 then f_X10_onRim_b57 (f_X10_onRim_b11 n) v1 v2 v3 v4 v5 v6 v7 σ else (f_X10_isIn v1 v2 v3 v5 v7 σ).bind fun q6 => if w32 q6 = 0 then f_X10_onRim_b82 (f_X10_onRim_b11 n) v1 v2 v3 v4 v5 v6 v7 σ else f_X10_onRim_b57 (f_X10_onRim_b11 n) v1 v2 v3 v4 v5 v6 v7 σ else some ((v6, σ))
def f_X10_onRim (v1 : Int) (v2 : Int) (v3 : Int) (v4 : Int) (v5 : Int) (σ : Sg) : Option (Int × Sg) :=
  wr σ 41 35 0 fun σ1 => f_X10_onRim_b11 FUEL v1 v2 v3 v4 v5 0 0 σ1
def f_X10_weighs_b160 (k48 : Int → Int → Int → Int → Sg → Option (Sg)) (v2 : Int) (v3 : Int) (v4 : Int) (v5 : Int) (σ : Sg) : Option (Sg) :=
  k48 v2 v3 v4 (v5 + 1) σ
def f_X10_weighs_b154 (k48 : Int → Int → Int → Int → Sg → Option (Sg)) (k88 : Int → Int → Int → Int → Int → Sg → Option (Sg)) (v2 : Int) (v3 : Int) (v4 : Int) (v5 : Int) (v6 : Int) (σ : Sg) : Option (Sg) :=
  k88 v2 v3 v4 v5 (v6 + 1) σ
def f_X10_weighs_b88 (k48 : Int → Int → Int → Int → Sg → Option (Sg)) : Nat → Int → Int → Int → Int → Int → Sg → Option (Sg)
  | 0, _, _, _, _, _, _ => none
  | n + 1, v2, v3, v4, v5, v6, σ => if w32 v6 ≤ 24 then (f_X10_has v4 v6 σ).bind fun q9 => if w32 q9 = 0 then f_X10_weighs_b154 k48 (f_X10_weighs_b88 k48 n) v2 v3 v4 v5 v6 σ else (f_X10_canBeRim v5 v6 v2 σ).bind fun q11 => if w32 q11 = 0 then f_X10_weighs_b154 k48 (f_X10_weighs_b88 k48 n) v2 v3 v4 v5 v6 σ else (f_X10_onRim v5 v6 0 v4 v2 σ).bind fun q13 => (f_X10_offers q13.1 v3 q13.2).bind fun q15 => (f_X10_onRim v5 v6 1 v4 v2 q15).bind fun q17 => (f_X10_offers q17.1 v3 q17.2).bind fun q19 => f_X10_weighs_b154 k48 (f_X10_weighs_b88 k48 n) v2 v3 v4 v5 v6 q19 else f_X10_weighs_b160 k48 v2 v3 v4 v5 σ
def f_X10_weighs_b48 : Nat → Int → Int → Int → Int → Sg → Option (Sg)
  | 0, _, _, _, _, _ => none
  | n + 1, v2, v3, v4, v5, σ => if w32 v5 ≤ 24 then (f_X10_has v4 v5 σ).bind fun q3 => if w32 q3 = 0 then f_X10_weighs_b160 (f_X10_weighs_b48 n) v2 v3 v4 v5 σ else (f_X10_around v5 v4 v2 σ).bind fun q5 => (f_X10_offers q5.1 v3 q5.2).bind fun q7 => f_X10_weighs_b88 (f_X10_weighs_b48 n) FUEL v2 v3 v4 v5 (v5 + 1) q7 else some σ
def f_X10_weighs_b42 (v2 : Int) (v3 : Int) (v4 : Int) (w0 : Int) (σ : Sg) : Option (Sg) :=
  wr σ 41 37 w0 fun σ2 => f_X10_weighs_b48 FUEL v2 v3 v4 0 σ2
def f_X10_weighs_b27 (v2 : Int) (v3 : Int) (v4 : Int) (w0 : Int) (σ : Sg) : Option (Sg) :=
  wr σ 41 36 w0 fun σ1 => if w32 v4 = 0 then f_X10_weighs_b42 v2 v3 v4 0 σ1 else f_X10_weighs_b42 v2 v3 v4 2147483647 σ1
def f_X10_weighs_b14 (v2 : Int) (v3 : Int) (w0 : Int) (σ : Sg) : Option (Sg) :=
  if w32 w0 = 0 then f_X10_weighs_b27 v2 v3 w0 0 σ else f_X10_weighs_b27 v2 v3 w0 ((-1)) σ
def f_X10_weighs (v1 : Int) (v2 : Int) (v3 : Int) (σ : Sg) : Option (Sg) :=
  if w32 v3 = (-1) then f_X10_weighs_b14 v2 v3 v1 σ else f_X10_weighs_b14 v2 v3 ((((u32 v1) ||| (u32 (1 * ((2 ^ (u32 v3 % 32) : Nat) : Int))) : Nat) : Int)) σ
def f_X10_worstOf (v1 : Int) (σ : Sg) : Option (Int × Sg) :=
  (f_X10_ofTreaty v1 σ).bind fun q1 => ck (0 ≤ v1 ∧ v1 < 6) <| (f_X10_weighs q1 (σ 51 (v1).toNat) ((-1)) σ).bind fun q4 => some ((q4 41 36, q4))
def f_X10_isPassed (v1 : Int) (σ : Sg) : Option (Int × Sg) :=
  (f_X10_worstOf v1 σ).bind fun q1 => ck (0 ≤ v1 ∧ v1 < 6) <| if w32 q1.1 ≤ w32 (q1.2 52 (v1).toNat) then some ((0, q1.2)) else some ((1, q1.2))
def f_X10_notes_56_b26 (v1 : Int) (v2 : Int) (v3 : Int) (σ : Sg) : Option (Sg) :=
  wr σ 56 0 v1 fun σ1 => wr σ1 56 1 v2 fun σ2 => wr σ2 56 2 v3 fun σ3 => some σ3
def f_X10_notes_56_b4 : Nat → Int → Int → Int → Int → Sg → Option (Sg)
  | 0, _, _, _, _, _ => none
  | n + 1, v1, v2, v3, v4, σ => if w32 v4 < 3 then f_X10_notes_56_b26 v1 v2 v3 σ else ck (0 ≤ v4 - 3 ∧ v4 - 3 < 90) <| ck (0 ≤ v4 ∧ v4 < 90) <| wr σ 56 (v4).toNat (σ 56 (v4 - 3).toNat) fun σ6 => (f_X10_notes_56_b4 n) v1 v2 v3 (v4 + (-1)) σ6
def f_X10_notes_56 (v1 : Int) (v2 : Int) (v3 : Int) (σ : Sg) : Option (Sg) :=
  f_X10_notes_56_b4 FUEL v1 v2 v3 89 σ
def f_X10_looks_b104 (k2 : Int → Sg → Option (Sg)) (v1 : Int) (σ : Sg) : Option (Sg) :=
  k2 (v1 + 1) σ
def f_X10_looks_b92 (k2 : Int → Sg → Option (Sg)) (v1 : Int) (v2 : Int) (σ : Sg) : Option (Sg) :=
  if w32 v2 = 0 then ck (0 ≤ v1 ∧ v1 < 6) <| wr σ 53 (v1).toNat ((-2)) fun σ4 => f_X10_looks_b104 k2 v1 σ4 else f_X10_looks_b104 k2 v1 σ
def f_X10_looks_b89 (k2 : Int → Sg → Option (Sg)) (v1 : Int) (v2 : Int) (w0 : Int) (σ : Sg) : Option (Sg) :=
  wr σ 41 32 w0 fun σ16 => f_X10_looks_b92 k2 v1 v2 σ16
def f_X10_looks_b2 : Nat → Int → Sg → Option (Sg)
  | 0, _, _ => none
  | n + 1, v1, σ => if w32 v1 < w32 (σ 41 27) then (f_X10_isPassed v1 σ).bind fun q1 => if w32 q1.1 = 0 then f_X10_looks_b92 (f_X10_looks_b2 n) v1 q1.1 q1.2 else ck (0 ≤ v1 ∧ v1 < 6) <| if w32 (q1.2 53 (v1).toNat) = (-2) then ck (0 ≤ v1 ∧ v1 < 6) <| wr q1.2 53 (v1).toNat (q1.2 41 28) fun σ8 => ck (0 ≤ v1 ∧ v1 < 6) <| ck (0 ≤ v1 ∧ v1 < 6) <| wr σ8 54 (v1).toNat ((σ8 54 (v1).toNat) + 1) fun σ11 => (f_X10_worstOf v1 σ11).bind fun q12 => (f_X10_notes_56 v1 (σ11 41 28) q12.1 q12.2).bind fun q14 => if w32 (q14 41 32) < 30 then f_X10_looks_b89 (f_X10_looks_b2 n) v1 q1.1 ((q14 41 32) + 1) q14 else f_X10_looks_b89 (f_X10_looks_b2 n) v1 q1.1 30 q14 else f_X10_looks_b92 (f_X10_looks_b2 n) v1 q1.1 q1.2 else some σ
def f_X10_looks (σ : Sg) : Option (Sg) :=
  f_X10_looks_b2 FUEL 0 σ
def f_X10_lays_b79 (k2 : Int → Sg → Option (Sg)) (v1 : Int) (σ : Sg) : Option (Sg) :=
  k2 (v1 + 1) σ
def f_X10_lays_b26 (k2 : Int → Sg → Option (Sg)) (v1 : Int) (w0 : Int) (w1 : Int) (σ : Sg) : Option (Sg) :=
  ck (0 ≤ w1 ∧ w1 < 25) <| ck (w0 = 0 ∨ w0 = 1) <| wr σ 49 (w1).toNat w0 fun σ3 => ck (0 ≤ v1 ∧ v1 < 25) <| if w32 (σ3 49 (v1).toNat) = 0 then f_X10_lays_b79 k2 v1 σ3 else ck (0 ≤ 4 * v1 ∧ 4 * v1 < 96) <| ck (0 ≤ (4 * v1) + 1 ∧ (4 * v1) + 1 < 96) <| ck (0 ≤ (4 * v1) + 2 ∧ (4 * v1) + 2 < 96) <| ck (0 ≤ (4 * v1) + 3 ∧ (4 * v1) + 3 < 96) <| (f_X10_puts v1 (σ3 43 (4 * v1).toNat) (σ3 43 ((4 * v1) + 1).toNat) (σ3 43 ((4 * v1) + 2).toNat) (σ3 43 ((4 * v1) + 3).toNat) σ3).bind fun q9 => f_X10_lays_b79 k2 v1 q9
def f_X10_lays_b142 (σ : Sg) : Option (Sg) :=
  wr σ 41 28 0 fun σ19 => wr σ19 41 30 0 fun σ20 => wr σ20 41 32 0 fun σ21 => wr σ21 41 34 0 fun σ22 => (f_X10_looks σ22).bind fun q23 => some q23
def f_X10_lays_b95 : Nat → Int → Sg → Option (Sg)
  | 0, _, _ => none
  | n + 1, v1, σ => if w32 v1 < w32 (σ 41 27) then ck (0 ≤ 3 * v1 ∧ 3 * v1 < 18) <| ck (0 ≤ (3 * v1) + 1 ∧ (3 * v1) + 1 < 18) <| ck (0 ≤ (3 * v1) + 2 ∧ (3 * v1) + 2 < 18) <| (f_X10_begins v1 (σ 44 (3 * v1).toNat) (σ 44 ((3 * v1) + 1).toNat) (σ 44 ((3 * v1) + 2).toNat) σ).bind fun q17 => (f_X10_lays_b95 n) (v1 + 1) q17 else f_X10_lays_b142 σ
def f_X10_lays_b85 (σ : Sg) : Option (Sg) :=
  wr σ 41 27 (σ 41 6) fun σ13 => f_X10_lays_b95 FUEL 0 σ13
def f_X10_lays_b2 : Nat → Int → Sg → Option (Sg)
  | 0, _, _ => none
  | n + 1, v1, σ => if w32 v1 < 24 then if w32 v1 < w32 (σ 41 5) then f_X10_lays_b26 (f_X10_lays_b2 n) v1 1 v1 σ else f_X10_lays_b26 (f_X10_lays_b2 n) v1 0 v1 σ else f_X10_lays_b85 σ
def f_X10_lays (σ : Sg) : Option (Sg) :=
  f_X10_lays_b2 FUEL 0 σ
def f_X10_text_b54 (w0 : Int) (σ : Sg) : Option (Int × Sg) :=
  wr σ 41 16 w0 fun σ6 => if w32 (σ6 41 13) = 0 then (f_X10_lays σ6).bind fun q7 => some ((q7 41 7, q7)) else some (((-1), σ6))
def f_X10_text (v1 : Int) (σ : Sg) : Option (Int × Sg) :=
  wr σ 41 0 0 fun σ1 => if w32 v1 < 0 then some (((-2), σ1)) else if w32 v1 ≤ w32 (σ1 41 2) then (f_X10_readText v1 σ1).bind fun q2 => wr q2 41 2 0 fun σ4 => wr σ4 41 15 (σ4 41 13) fun σ5 => if w32 (σ5 41 13) = 0 then f_X10_text_b54 ((-1)) σ5 else f_X10_text_b54 (σ5 41 14) σ5 else some (((-2), σ1))
def f_X10_fault (v1 : Int) (σ : Sg) : Option (Int × Sg) :=
  wr σ 41 0 0 fun σ1 => if w32 v1 = 0 then some ((σ1 41 15, σ1)) else if w32 v1 = 1 then some ((σ1 41 16, σ1)) else some (((-1), σ1))
def f_X10_sumOf_b29 (σ : Sg) (k4 : Int → Int → Int → Option (Int)) (v1 : Int) (v3 : Int) (w0 : Int) (w1 : Int) : Option (Int) :=
  k4 v1 (w1 + w0) (v3 + 1)
def f_X10_sumOf_b4 (σ : Sg) : Nat → Int → Int → Int → Option (Int)
  | 0, _, _, _ => none
  | n + 1, v1, v2, v3 => if w32 v3 ≤ 24 then (f_X10_has v1 v3 σ).bind fun q1 => if w32 q1 = 0 then f_X10_sumOf_b29 σ (f_X10_sumOf_b4 σ n) v1 v3 0 v2 else ck (0 ≤ v3 ∧ v3 < 25) <| f_X10_sumOf_b29 σ (f_X10_sumOf_b4 σ n) v1 v3 (σ 47 (v3).toNat) v2 else some v2
def f_X10_sumOf (v1 : Int) (σ : Sg) : Option (Int) :=
  f_X10_sumOf_b4 σ FUEL v1 0 0
def f_X10_notes_57_b26 (v1 : Int) (v2 : Int) (v3 : Int) (σ : Sg) : Option (Sg) :=
  wr σ 57 0 v1 fun σ1 => wr σ1 57 1 v2 fun σ2 => wr σ2 57 2 v3 fun σ3 => some σ3
def f_X10_notes_57_b4 : Nat → Int → Int → Int → Int → Sg → Option (Sg)
  | 0, _, _, _, _, _ => none
  | n + 1, v1, v2, v3, v4, σ => if w32 v4 < 3 then f_X10_notes_57_b26 v1 v2 v3 σ else ck (0 ≤ v4 - 3 ∧ v4 - 3 < 90) <| ck (0 ≤ v4 ∧ v4 < 90) <| wr σ 57 (v4).toNat (σ 57 (v4 - 3).toNat) fun σ6 => (f_X10_notes_57_b4 n) v1 v2 v3 (v4 + (-1)) σ6
def f_X10_notes_57 (v1 : Int) (v2 : Int) (v3 : Int) (σ : Sg) : Option (Sg) :=
  f_X10_notes_57_b4 FUEL v1 v2 v3 89 σ
def f_X10_acted_b41 (w0 : Int) (σ : Sg) : Option (Sg) :=
  wr σ 41 34 w0 fun σ4 => (f_X10_looks σ4).bind fun q5 => some q5
def f_X10_acted (v1 : Int) (v2 : Int) (v3 : Int) (σ : Sg) : Option (Sg) :=
  wr σ 41 28 ((σ 41 28) + 1) fun σ1 => (f_X10_notes_57 v1 v2 v3 σ1).bind fun q2 => if w32 (q2 41 34) < 30 then f_X10_acted_b41 ((q2 41 34) + 1) q2 else f_X10_acted_b41 30 q2
def f_X10_isPolicy (v1 : Int) (σ : Sg) : Option (Int) :=
  if w32 v1 < 0 then some 0 else if w32 v1 < 24 then ck (0 ≤ v1 ∧ v1 < 25) <| if w32 (σ 49 (v1).toNat) = 0 then some 0 else some 1 else some 0
def f_X10_isTreaty (v1 : Int) (σ : Sg) : Option (Int) :=
  if w32 v1 < 0 then some 0 else if w32 v1 < w32 (σ 41 27) then some 1 else some 0
def f_X10_isPlace (v0 : Int) (v1 : Int) (σ : Sg) : Option (Int) :=
  if w32 v0 < 0 then some 0 else if w32 v0 ≤ 299 then if w32 v1 < 0 then some 0 else if w32 v1 ≤ 299 then some 1 else some 0 else some 0
def f_X10_isSum (v0 : Int) (σ : Sg) : Option (Int) :=
  if w32 v0 < 1 then some 0 else if w32 v0 ≤ 99999 then some 1 else some 0
def f_X10_isPeril (v0 : Int) (σ : Sg) : Option (Int) :=
  if w32 v0 < 0 then some 0 else if w32 v0 ≤ 3 then some 1 else some 0
def f_X10_arePerils (v0 : Int) (σ : Sg) : Option (Int) :=
  if w32 v0 < 1 then some 0 else if w32 v0 ≤ 15 then some 1 else some 0
def f_X10_isRadius (v0 : Int) (σ : Sg) : Option (Int) :=
  if w32 v0 < 1 then some 0 else if w32 v0 ≤ 300 then some 1 else some 0
def f_X10_write_b56 (v1 : Int) (v2 : Int) (v3 : Int) (v4 : Int) (v5 : Int) (σ : Sg) : Option (Int × Sg) :=
  if w32 v5 = 24 then some (((-2), σ)) else (f_X10_puts v5 v1 v2 v3 v4 σ).bind fun q9 => ck (0 ≤ v5 ∧ v5 < 25) <| wr q9 49 (v5).toNat 1 fun σ12 => (f_X10_acted 0 v5 v3 σ12).bind fun q13 => some ((v5, q13))
def f_X10_write_b33 : Nat → Int → Int → Int → Int → Int → Sg → Option (Int × Sg)
  | 0, _, _, _, _, _, _ => none
  | n + 1, v1, v2, v3, v4, v5, σ => if w32 v5 < 24 then ck (0 ≤ v5 ∧ v5 < 25) <| if w32 (σ 49 (v5).toNat) = 0 then f_X10_write_b56 v1 v2 v3 v4 v5 σ else (f_X10_write_b33 n) v1 v2 v3 v4 (v5 + 1) σ else f_X10_write_b56 v1 v2 v3 v4 v5 σ
def f_X10_write (v1 : Int) (v2 : Int) (v3 : Int) (v4 : Int) (σ : Sg) : Option (Int × Sg) :=
  wr σ 41 0 0 fun σ1 => (f_X10_isPlace v1 v2 σ1).bind fun q2 => if w32 q2 = 0 then some (((-1), σ1)) else (f_X10_isSum v3 σ1).bind fun q4 => if w32 q4 = 0 then some (((-1), σ1)) else (f_X10_isPeril v4 σ1).bind fun q6 => if w32 q6 = 0 then some (((-1), σ1)) else f_X10_write_b33 FUEL v1 v2 v3 v4 0 σ1
def f_X10_move (v1 : Int) (v2 : Int) (v3 : Int) (σ : Sg) : Option (Int × Sg) :=
  wr σ 41 0 0 fun σ1 => (f_X10_isPolicy v1 σ1).bind fun q2 => if w32 q2 = 0 then some (((-1), σ1)) else (f_X10_isPlace v2 v3 σ1).bind fun q4 => if w32 q4 = 0 then some (((-1), σ1)) else ck (0 ≤ v1 ∧ v1 < 25) <| ck (0 ≤ v1 ∧ v1 < 25) <| ck (0 ≤ v1 ∧ v1 < 25) <| ck (0 ≤ v1 ∧ v1 < 25) <| ck (0 ≤ v1 ∧ v1 < 25) <| wr σ1 45 (v1).toNat v2 fun σ11 => ck (0 ≤ v1 ∧ v1 < 25) <| wr σ11 46 (v1).toNat v3 fun σ13 => (f_X10_acted 1 v1 0 σ13).bind fun q14 => some (((((σ1 45 (v1).toNat) - v2) * ((σ1 45 (v1).toNat) - v2)) + (((σ1 46 (v1).toNat) - v3) * ((σ1 46 (v1).toNat) - v3)), q14))
def f_X10_change (v1 : Int) (v2 : Int) (σ : Sg) : Option (Int × Sg) :=
  wr σ 41 0 0 fun σ1 => (f_X10_isPolicy v1 σ1).bind fun q2 => if w32 q2 = 0 then some (((-1), σ1)) else (f_X10_isSum v2 σ1).bind fun q4 => if w32 q4 = 0 then some (((-1), σ1)) else ck (0 ≤ v1 ∧ v1 < 25) <| ck (0 ≤ v1 ∧ v1 < 25) <| wr σ1 47 (v1).toNat v2 fun σ8 => (f_X10_acted 2 v1 (v2 - (σ1 47 (v1).toNat)) σ8).bind fun q9 => some ((σ1 47 (v1).toNat, q9))
def f_X10_lapse (v1 : Int) (σ : Sg) : Option (Int × Sg) :=
  wr σ 41 0 0 fun σ1 => (f_X10_isPolicy v1 σ1).bind fun q2 => if w32 q2 = 0 then some (((-1), σ1)) else ck (0 ≤ v1 ∧ v1 < 25) <| wr σ1 49 (v1).toNat 0 fun σ5 => ck (0 ≤ v1 ∧ v1 < 25) <| (f_X10_acted 3 v1 (-(σ5 47 (v1).toNat)) σ5).bind fun q7 => ck (0 ≤ v1 ∧ v1 < 25) <| some ((q7 47 (v1).toNat, q7))
def f_X10_treaty (v1 : Int) (v2 : Int) (v3 : Int) (σ : Sg) : Option (Int × Sg) :=
  wr σ 41 0 0 fun σ1 => (f_X10_arePerils v1 σ1).bind fun q2 => if w32 q2 = 0 then some (((-1), σ1)) else (f_X10_isRadius v2 σ1).bind fun q4 => if w32 q4 = 0 then some (((-1), σ1)) else if w32 v3 < 1 then some (((-1), σ1)) else if w32 v3 ≤ 9999999 then if w32 (σ1 41 27) = 6 then some (((-2), σ1)) else (f_X10_begins (σ1 41 27) v1 v2 v3 σ1).bind fun q6 => wr q6 41 27 ((q6 41 27) + 1) fun σ8 => (f_X10_looks σ8).bind fun q9 => some (((q9 41 27) - 1, q9)) else some (((-1), σ1))
def f_X10_limit (v1 : Int) (v2 : Int) (σ : Sg) : Option (Int × Sg) :=
  wr σ 41 0 0 fun σ1 => (f_X10_isTreaty v1 σ1).bind fun q2 => if w32 q2 = 0 then some (((-1), σ1)) else if w32 v2 < 1 then some (((-1), σ1)) else if w32 v2 ≤ 9999999 then ck (0 ≤ v1 ∧ v1 < 6) <| ck (0 ≤ v1 ∧ v1 < 6) <| wr σ1 52 (v1).toNat v2 fun σ6 => (f_X10_looks σ6).bind fun q7 => some ((σ1 52 (v1).toNat, q7)) else some (((-1), σ1))
def f_X10_atPlaceOf_b39 (σ : Sg) (k4 : Int → Int → Int → Option (Int)) (v1 : Int) (v3 : Int) (w0 : Int) (w1 : Int) : Option (Int) :=
  k4 v1 (w1 + w0) (v3 + 1)
def f_X10_atPlaceOf_b38 (σ : Sg) (k4 : Int → Int → Int → Option (Int)) (v1 : Int) (v3 : Int) (w0 : Int) : Option (Int) :=
  f_X10_atPlaceOf_b39 σ k4 v1 v3 0 w0
def f_X10_atPlaceOf_b4 (σ : Sg) : Nat → Int → Int → Int → Option (Int)
  | 0, _, _, _ => none
  | n + 1, v1, v2, v3 => if w32 v3 < 24 then ck (0 ≤ v3 ∧ v3 < 25) <| if w32 (σ 49 (v3).toNat) = 0 then f_X10_atPlaceOf_b38 σ (f_X10_atPlaceOf_b4 σ n) v1 v3 v2 else if w32 v3 = w32 v1 then f_X10_atPlaceOf_b38 σ (f_X10_atPlaceOf_b4 σ n) v1 v3 v2 else (f_X10_distance v1 v3 σ).bind fun q2 => if w32 q2 = 0 then f_X10_atPlaceOf_b39 σ (f_X10_atPlaceOf_b4 σ n) v1 v3 1 v2 else f_X10_atPlaceOf_b38 σ (f_X10_atPlaceOf_b4 σ n) v1 v3 v2 else some v2
def f_X10_atPlaceOf (v1 : Int) (σ : Sg) : Option (Int) :=
  f_X10_atPlaceOf_b4 σ FUEL v1 0 0
def f_X10_policy (v1 : Int) (v2 : Int) (σ : Sg) : Option (Int × Sg) :=
  wr σ 41 0 0 fun σ1 => (f_X10_isPolicy v1 σ1).bind fun q2 => if w32 q2 = 0 then wr σ1 41 0 1 fun σ4 => some ((0, σ4)) else if w32 v2 = 0 then ck (0 ≤ v1 ∧ v1 < 25) <| some ((σ1 45 (v1).toNat, σ1)) else if w32 v2 = 1 then ck (0 ≤ v1 ∧ v1 < 25) <| some ((σ1 46 (v1).toNat, σ1)) else if w32 v2 = 2 then ck (0 ≤ v1 ∧ v1 < 25) <| some ((σ1 47 (v1).toNat, σ1)) else if w32 v2 = 3 then ck (0 ≤ v1 ∧ v1 < 25) <| some ((σ1 48 (v1).toNat, σ1)) else if w32 v2 = 4 then (f_X10_atPlaceOf v1 σ1).bind fun q9 => some ((q9, σ1)) else wr σ1 41 0 2 fun σ11 => some ((0, σ11))
def f_X10_bits_b4 (σ : Sg) : Nat → Int → Int → Int → Option (Int)
  | 0, _, _, _ => none
  | n + 1, v0, v1, v2 => if w32 v2 ≤ 24 then (f_X10_bits_b4 σ n) v0 (v1 + ((((u32 (w32 v0 >>> (u32 v2 % 32))) &&& 1 : Nat) : Int))) (v2 + 1) else some v1
def f_X10_bits (v0 : Int) (σ : Sg) : Option (Int) :=
  f_X10_bits_b4 σ FUEL v0 0 0
def f_X10_its (v1 : Int) (v2 : Int) (σ : Sg) : Option (Int × Sg) :=
  wr σ 41 0 0 fun σ1 => (f_X10_isTreaty v1 σ1).bind fun q2 => if w32 q2 = 0 then some (((-1), σ1)) else if w32 v2 = 0 then ck (0 ≤ v1 ∧ v1 < 6) <| some ((σ1 50 (v1).toNat, σ1)) else if w32 v2 = 1 then ck (0 ≤ v1 ∧ v1 < 6) <| some ((σ1 51 (v1).toNat, σ1)) else if w32 v2 = 2 then ck (0 ≤ v1 ∧ v1 < 6) <| some ((σ1 52 (v1).toNat, σ1)) else if w32 v2 = 3 then (f_X10_ofTreaty v1 σ1).bind fun q7 => (f_X10_bits q7 σ1).bind fun q9 => some ((q9, σ1)) else if w32 v2 = 4 then (f_X10_ofTreaty v1 σ1).bind fun q11 => (f_X10_sumOf q11 σ1).bind fun q13 => some ((q13, σ1)) else if w32 v2 = 5 then (f_X10_isPassed v1 σ1).bind fun q15 => if w32 q15.1 = 0 then some ((0, q15.2)) else some ((1, q15.2)) else if w32 v2 = 6 then ck (0 ≤ v1 ∧ v1 < 6) <| some ((σ1 53 (v1).toNat, σ1)) else if w32 v2 = 7 then ck (0 ≤ v1 ∧ v1 < 6) <| some ((σ1 54 (v1).toNat, σ1)) else some (((-1), σ1))
def f_X10_worst (v1 : Int) (v2 : Int) (σ : Sg) : Option (Int × Sg) :=
  wr σ 41 0 0 fun σ1 => (f_X10_isTreaty v1 σ1).bind fun q2 => if w32 q2 = 0 then some (((-2147483648), σ1)) else if w32 v2 < 0 then some (((-2147483648), σ1)) else if w32 v2 ≤ 2 then (f_X10_worstOf v1 σ1).bind fun q4 => if w32 v2 = 0 then some ((q4.1, q4.2)) else if w32 v2 = 1 then (f_X10_bits (q4.2 41 37) q4.2).bind fun q6 => some ((q6, q4.2)) else ck (0 ≤ v1 ∧ v1 < 6) <| some (((q4.2 52 (v1).toNat) - q4.1, q4.2)) else some (((-2147483648), σ1))
def f_X10_inWorst_b62 (k30 : Int → Int → Sg → Option (Int × Sg)) (v3 : Int) (v4 : Int) (σ : Sg) : Option (Int × Sg) :=
  k30 v3 (v4 + 1) σ
def f_X10_inWorst_b30 : Nat → Int → Int → Sg → Option (Int × Sg)
  | 0, _, _, _ => none
  | n + 1, v3, v4, σ => if w32 v4 < 24 then (f_X10_has (σ 41 37) v4 σ).bind fun q6 => if w32 q6 = 0 then f_X10_inWorst_b62 (f_X10_inWorst_b30 n) v3 v4 σ else if w32 v3 = 0 then some ((v4, σ)) else f_X10_inWorst_b62 (f_X10_inWorst_b30 n) (v3 + (-1)) v4 σ else some (((-2), σ))
def f_X10_inWorst (v1 : Int) (v2 : Int) (σ : Sg) : Option (Int × Sg) :=
  wr σ 41 0 0 fun σ1 => (f_X10_isTreaty v1 σ1).bind fun q2 => if w32 q2 = 0 then some (((-1), σ1)) else if w32 v2 < 0 then some (((-1), σ1)) else (f_X10_worstOf v1 σ1).bind fun q4 => f_X10_inWorst_b30 FUEL v2 0 q4.2
def f_X10_boundOf_b54 (k3 : Int → Int → Int → Int → Int → Sg → Option (Int × Sg)) (v1 : Int) (v2 : Int) (v3 : Int) (v4 : Int) (v5 : Int) (σ : Sg) : Option (Int × Sg) :=
  k3 v1 v2 v3 v4 (v5 + 1) σ
def f_X10_boundOf_b31 (v4 : Int) (v5 : Int) (σ : Sg) : Option (Int × Sg) :=
  if w32 v4 = 0 then some ((v5, σ)) else if w32 v4 = 1 then some (((-2), σ)) else some ((0, σ))
def f_X10_boundOf_b171 (k63 : Int → Int → Int → Int → Int → Sg → Option (Int × Sg)) (k76 : Int → Int → Int → Int → Int → Int → Sg → Option (Int × Sg)) (v1 : Int) (v2 : Int) (v3 : Int) (v4 : Int) (v5 : Int) (v6 : Int) (σ : Sg) : Option (Int × Sg) :=
  k76 v1 v2 v3 v4 v5 (v6 + 1) σ
def f_X10_boundOf_b141 (v4 : Int) (v5 : Int) (v6 : Int) (v7 : Int) (σ : Sg) : Option (Int × Sg) :=
  if w32 v4 = 0 then some ((v5, σ)) else if w32 v4 = 1 then some ((v6, σ)) else some ((v7, σ))
def f_X10_boundOf_b119 (k63 : Int → Int → Int → Int → Int → Sg → Option (Int × Sg)) (k76 : Int → Int → Int → Int → Int → Int → Sg → Option (Int × Sg)) : Nat → Int → Int → Int → Int → Int → Int → Int → Sg → Option (Int × Sg)
  | 0, _, _, _, _, _, _, _, _ => none
  | n + 1, v1, v2, v3, v4, v5, v6, v7, σ => if w32 v7 < 2 then (f_X10_onRim v5 v6 v7 v1 v3 σ).bind fun q15 => if w32 q15.1 = w32 v2 then f_X10_boundOf_b141 v4 v5 v6 v7 q15.2 else (f_X10_boundOf_b119 k63 k76 n) v1 v2 v3 v4 v5 v6 (v7 + 1) q15.2 else f_X10_boundOf_b171 k63 k76 v1 v2 v3 v4 v5 v6 σ
def f_X10_boundOf_b177 (k63 : Int → Int → Int → Int → Int → Sg → Option (Int × Sg)) (v1 : Int) (v2 : Int) (v3 : Int) (v4 : Int) (v5 : Int) (σ : Sg) : Option (Int × Sg) :=
  k63 v1 v2 v3 v4 (v5 + 1) σ
def f_X10_boundOf_b76 (k63 : Int → Int → Int → Int → Int → Sg → Option (Int × Sg)) : Nat → Int → Int → Int → Int → Int → Int → Sg → Option (Int × Sg)
  | 0, _, _, _, _, _, _, _ => none
  | n + 1, v1, v2, v3, v4, v5, v6, σ => if w32 v6 < 24 then (f_X10_has v2 v5 σ).bind fun q9 => if w32 q9 = 0 then f_X10_boundOf_b171 k63 (f_X10_boundOf_b76 k63 n) v1 v2 v3 v4 v5 v6 σ else (f_X10_has v2 v6 σ).bind fun q11 => if w32 q11 = 0 then f_X10_boundOf_b171 k63 (f_X10_boundOf_b76 k63 n) v1 v2 v3 v4 v5 v6 σ else (f_X10_canBeRim v5 v6 v3 σ).bind fun q13 => if w32 q13 = 0 then f_X10_boundOf_b171 k63 (f_X10_boundOf_b76 k63 n) v1 v2 v3 v4 v5 v6 σ else f_X10_boundOf_b119 k63 (f_X10_boundOf_b76 k63 n) FUEL v1 v2 v3 v4 v5 v6 0 σ else f_X10_boundOf_b177 k63 v1 v2 v3 v4 v5 σ
def f_X10_boundOf_b63 : Nat → Int → Int → Int → Int → Int → Sg → Option (Int × Sg)
  | 0, _, _, _, _, _, _ => none
  | n + 1, v1, v2, v3, v4, v5, σ => if w32 v5 < 24 then f_X10_boundOf_b76 (f_X10_boundOf_b63 n) FUEL v1 v2 v3 v4 v5 (v5 + 1) σ else some (((-2), σ))
def f_X10_boundOf_b60 (v1 : Int) (v2 : Int) (v3 : Int) (v4 : Int) (σ : Sg) : Option (Int × Sg) :=
  f_X10_boundOf_b63 FUEL v1 v2 v3 v4 0 σ
def f_X10_boundOf_b3 : Nat → Int → Int → Int → Int → Int → Sg → Option (Int × Sg)
  | 0, _, _, _, _, _, _ => none
  | n + 1, v1, v2, v3, v4, v5, σ => if w32 v5 < 24 then (f_X10_has v2 v5 σ).bind fun q1 => if w32 q1 = 0 then f_X10_boundOf_b54 (f_X10_boundOf_b3 n) v1 v2 v3 v4 v5 σ else (f_X10_around v5 v1 v3 σ).bind fun q3 => if w32 q3.1 = w32 v2 then f_X10_boundOf_b31 v4 v5 q3.2 else f_X10_boundOf_b54 (f_X10_boundOf_b3 n) v1 v2 v3 v4 v5 q3.2 else f_X10_boundOf_b60 v1 v2 v3 v4 σ
def f_X10_boundOf (v1 : Int) (v2 : Int) (v3 : Int) (v4 : Int) (σ : Sg) : Option (Int × Sg) :=
  f_X10_boundOf_b3 FUEL v1 v2 v3 v4 0 σ
def f_X10_bound (v1 : Int) (v2 : Int) (σ : Sg) : Option (Int × Sg) :=
  wr σ 41 0 0 fun σ1 => (f_X10_isTreaty v1 σ1).bind fun q2 => if w32 q2 = 0 then some (((-1), σ1)) else if w32 v2 < 0 then some (((-1), σ1)) else if w32 v2 ≤ 2 then (f_X10_worstOf v1 σ1).bind fun q4 => if w32 (q4.2 41 37) = 0 then some (((-2), q4.2)) else (f_X10_ofTreaty v1 q4.2).bind fun q6 => ck (0 ≤ v1 ∧ v1 < 6) <| (f_X10_boundOf q6 (q4.2 41 37) (q4.2 51 (v1).toNat) v2 q4.2).bind fun q9 => some ((q9.1, q9.2)) else some (((-1), σ1))
def f_X10_spread_b84 (k26 : Int → Int → Sg → Option (Int × Sg)) (k35 : Int → Int → Int → Sg → Option (Int × Sg)) (v2 : Int) (v3 : Int) (v4 : Int) (σ : Sg) : Option (Int × Sg) :=
  k35 v2 v3 (v4 + 1) σ
def f_X10_spread_b90 (k26 : Int → Int → Sg → Option (Int × Sg)) (v2 : Int) (v3 : Int) (σ : Sg) : Option (Int × Sg) :=
  k26 v2 (v3 + 1) σ
def f_X10_spread_b35 (k26 : Int → Int → Sg → Option (Int × Sg)) : Nat → Int → Int → Int → Sg → Option (Int × Sg)
  | 0, _, _, _, _ => none
  | n + 1, v2, v3, v4, σ => if w32 v4 < 24 then (f_X10_has (σ 41 37) v3 σ).bind fun q6 => if w32 q6 = 0 then f_X10_spread_b84 k26 (f_X10_spread_b35 k26 n) v2 v3 v4 σ else (f_X10_has (σ 41 37) v4 σ).bind fun q8 => if w32 q8 = 0 then f_X10_spread_b84 k26 (f_X10_spread_b35 k26 n) v2 v3 v4 σ else (f_X10_distance v3 v4 σ).bind fun q10 => if w32 q10 ≤ w32 v2 then f_X10_spread_b84 k26 (f_X10_spread_b35 k26 n) v2 v3 v4 σ else (f_X10_distance v3 v4 σ).bind fun q12 => f_X10_spread_b84 k26 (f_X10_spread_b35 k26 n) q12 v3 v4 σ else f_X10_spread_b90 k26 v2 v3 σ
def f_X10_spread_b26 : Nat → Int → Int → Sg → Option (Int × Sg)
  | 0, _, _, _ => none
  | n + 1, v2, v3, σ => if w32 v3 < 24 then f_X10_spread_b35 (f_X10_spread_b26 n) FUEL v2 v3 v3 σ else some ((v2, σ))
def f_X10_spread (v1 : Int) (σ : Sg) : Option (Int × Sg) :=
  wr σ 41 0 0 fun σ1 => (f_X10_isTreaty v1 σ1).bind fun q2 => if w32 q2 = 0 then some (((-1), σ1)) else (f_X10_worstOf v1 σ1).bind fun q4 => f_X10_spread_b26 FUEL ((-2)) 0 q4.2
def f_X10_common_b6 (σ : Sg) : Nat → Int → Int → Option (Int)
  | 0, _, _ => none
  | n + 1, v4, v6 => if w64 v6 = 0 then some v4 else ck (¬ w64 v6 = 0) <| (f_X10_common_b6 σ n) v6 ((w64 v4).tmod (w64 v6))
def f_X10_common (v0 : Int) (v2 : Int) (σ : Sg) : Option (Int) :=
  f_X10_common_b6 σ FUEL v0 v2
def f_X10_turn (v1 : Int) (v2 : Int) (v3 : Int) (σ : Sg) : Option (Int) :=
  ck (0 ≤ v2 ∧ v2 < 25) <| ck (0 ≤ v1 ∧ v1 < 25) <| ck (0 ≤ v3 ∧ v3 < 25) <| ck (0 ≤ v1 ∧ v1 < 25) <| ck (0 ≤ v2 ∧ v2 < 25) <| ck (0 ≤ v1 ∧ v1 < 25) <| ck (0 ≤ v3 ∧ v3 < 25) <| ck (0 ≤ v1 ∧ v1 < 25) <| some (((w32 ((σ 45 (v2).toNat) - (σ 45 (v1).toNat))) * (w32 ((σ 46 (v3).toNat) - (σ 46 (v1).toNat)))) - ((w32 ((σ 46 (v2).toNat) - (σ 46 (v1).toNat))) * (w32 ((σ 45 (v3).toNat) - (σ 45 (v1).toNat)))))
def f_X10_isWidth_b83 (σ : Sg) (k3 : Int → Int → Int → Int → Option (Int)) (v1 : Int) (v2 : Int) (v3 : Int) (v4 : Int) : Option (Int) :=
  k3 v1 v2 v3 (v4 + 1)
def f_X10_isWidth_b3 (σ : Sg) : Nat → Int → Int → Int → Int → Option (Int)
  | 0, _, _, _, _ => none
  | n + 1, v1, v2, v3, v4 => if w32 v4 < 24 then (f_X10_has v1 v4 σ).bind fun q1 => if w32 q1 = 0 then f_X10_isWidth_b83 σ (f_X10_isWidth_b3 σ n) v1 v2 v3 v4 else ck (0 ≤ v4 ∧ v4 < 25) <| ck (0 ≤ v2 ∧ v2 < 25) <| ck (0 ≤ v4 ∧ v4 < 25) <| ck (0 ≤ v3 ∧ v3 < 25) <| ck (0 ≤ v4 ∧ v4 < 25) <| ck (0 ≤ v2 ∧ v2 < 25) <| ck (0 ≤ v4 ∧ v4 < 25) <| ck (0 ≤ v3 ∧ v3 < 25) <| if w32 ((((σ 45 (v4).toNat) - (σ 45 (v2).toNat)) * ((σ 45 (v4).toNat) - (σ 45 (v3).toNat))) + (((σ 46 (v4).toNat) - (σ 46 (v2).toNat)) * ((σ 46 (v4).toNat) - (σ 46 (v3).toNat)))) ≤ 0 then f_X10_isWidth_b83 σ (f_X10_isWidth_b3 σ n) v1 v2 v3 v4 else some 0 else some 1
def f_X10_isWidth (v1 : Int) (v2 : Int) (v3 : Int) (σ : Sg) : Option (Int) :=
  f_X10_isWidth_b3 σ FUEL v1 v2 v3 0
def f_X10_isSharp (v1 : Int) (v2 : Int) (v3 : Int) (σ : Sg) : Option (Int) :=
  (f_X10_distance v1 v2 σ).bind fun q1 => (f_X10_distance v2 v3 σ).bind fun q3 => (f_X10_distance v3 v1 σ).bind fun q5 => if w32 q1 < w32 (q3 + q5) then if w32 q3 < w32 (q1 + q5) then if w32 q5 < w32 (q1 + q3) then (f_X10_turn v1 v2 v3 σ).bind fun q7 => if w64 q7 = 0 then some 0 else some 1 else some 0 else some 0 else some 0
def f_X10_isWithin (v1 : Int) (v2 : Int) (v3 : Int) (v4 : Int) (σ : Sg) : Option (Int) :=
  ck (0 ≤ v1 ∧ v1 < 25) <| ck (0 ≤ v4 ∧ v4 < 25) <| ck (0 ≤ v1 ∧ v1 < 25) <| ck (0 ≤ v4 ∧ v4 < 25) <| ck (0 ≤ v2 ∧ v2 < 25) <| ck (0 ≤ v4 ∧ v4 < 25) <| ck (0 ≤ v2 ∧ v2 < 25) <| ck (0 ≤ v4 ∧ v4 < 25) <| ck (0 ≤ v3 ∧ v3 < 25) <| ck (0 ≤ v4 ∧ v4 < 25) <| ck (0 ≤ v3 ∧ v3 < 25) <| ck (0 ≤ v4 ∧ v4 < 25) <| (f_X10_turn v1 v2 v3 σ).bind fun q13 => if w64 q13 ≤ 0 then if w64 ((((((w32 ((σ 45 (v1).toNat) - (σ 45 (v4).toNat))) * (w32 ((σ 45 (v1).toNat) - (σ 45 (v4).toNat)))) + ((w32 ((σ 46 (v1).toNat) - (σ 46 (v4).toNat))) * (w32 ((σ 46 (v1).toNat) - (σ 46 (v4).toNat))))) * (((w32 ((σ 45 (v2).toNat) - (σ 45 (v4).toNat))) * (w32 ((σ 46 (v3).toNat) - (σ 46 (v4).toNat)))) - ((w32 ((σ 46 (v2).toNat) - (σ 46 (v4).toNat))) * (w32 ((σ 45 (v3).toNat) - (σ 45 (v4).toNat)))))) - ((((w32 ((σ 45 (v2).toNat) - (σ 45 (v4).toNat))) * (w32 ((σ 45 (v2).toNat) - (σ 45 (v4).toNat)))) + ((w32 ((σ 46 (v2).toNat) - (σ 46 (v4).toNat))) * (w32 ((σ 46 (v2).toNat) - (σ 46 (v4).toNat))))) * (((w32 ((σ 45 (v1).toNat) - (σ 45 (v4).toNat))) * (w32 ((σ 46 (v3).toNat) - (σ 46 (v4).toNat)))) - ((w32 ((σ 46 (v1).toNat) - (σ 46 (v4).toNat))) * (w32 ((σ 45 (v3).toNat) - (σ 45 (v4).toNat))))))) + ((((w32 ((σ 45 (v3).toNat) - (σ 45 (v4).toNat))) * (w32 ((σ 45 (v3).toNat) - (σ 45 (v4).toNat)))) + ((w32 ((σ 46 (v3).toNat) - (σ 46 (v4).toNat))) * (w32 ((σ 46 (v3).toNat) - (σ 46 (v4).toNat))))) * (((w32 ((σ 45 (v1).toNat) - (σ 45 (v4).toNat))) * (w32 ((σ 46 (v2).toNat) - (σ 46 (v4).toNat)))) - ((w32 ((σ 46 (v1).toNat) - (σ 46 (v4).toNat))) * (w32 ((σ 45 (v2).toNat) - (σ 45 (v4).toNat))))))) ≤ 0 then some 1 else some 0 else if w64 ((((((w32 ((σ 45 (v1).toNat) - (σ 45 (v4).toNat))) * (w32 ((σ 45 (v1).toNat) - (σ 45 (v4).toNat)))) + ((w32 ((σ 46 (v1).toNat) - (σ 46 (v4).toNat))) * (w32 ((σ 46 (v1).toNat) - (σ 46 (v4).toNat))))) * (((w32 ((σ 45 (v2).toNat) - (σ 45 (v4).toNat))) * (w32 ((σ 46 (v3).toNat) - (σ 46 (v4).toNat)))) - ((w32 ((σ 46 (v2).toNat) - (σ 46 (v4).toNat))) * (w32 ((σ 45 (v3).toNat) - (σ 45 (v4).toNat)))))) - ((((w32 ((σ 45 (v2).toNat) - (σ 45 (v4).toNat))) * (w32 ((σ 45 (v2).toNat) - (σ 45 (v4).toNat)))) + ((w32 ((σ 46 (v2).toNat) - (σ 46 (v4).toNat))) * (w32 ((σ 46 (v2).toNat) - (σ 46 (v4).toNat))))) * (((w32 ((σ 45 (v1).toNat) - (σ 45 (v4).toNat))) * (w32 ((σ 46 (v3).toNat) - (σ 46 (v4).toNat)))) - ((w32 ((σ 46 (v1).toNat) - (σ 46 (v4).toNat))) * (w32 ((σ 45 (v3).toNat) - (σ 45 (v4).toNat))))))) + ((((w32 ((σ 45 (v3).toNat) - (σ 45 (v4).toNat))) * (w32 ((σ 45 (v3).toNat) - (σ 45 (v4).toNat)))) + ((w32 ((σ 46 (v3).toNat) - (σ 46 (v4).toNat))) * (w32 ((σ 46 (v3).toNat) - (σ 46 (v4).toNat))))) * (((w32 ((σ 45 (v1).toNat) - (σ 45 (v4).toNat))) * (w32 ((σ 46 (v2).toNat) - (σ 46 (v4).toNat)))) - ((w32 ((σ 46 (v1).toNat) - (σ 46 (v4).toNat))) * (w32 ((σ 45 (v2).toNat) - (σ 45 (v4).toNat))))))) < 0 then some 0 else some 1
def f_X10_isCircle_b34 (σ : Sg) (k3 : Int → Int → Int → Int → Int → Option (Int)) (v1 : Int) (v2 : Int) (v3 : Int) (v4 : Int) (v5 : Int) : Option (Int) :=
  k3 v1 v2 v3 v4 (v5 + 1)
def f_X10_isCircle_b3 (σ : Sg) : Nat → Int → Int → Int → Int → Int → Option (Int)
  | 0, _, _, _, _, _ => none
  | n + 1, v1, v2, v3, v4, v5 => if w32 v5 < 24 then (f_X10_has v1 v5 σ).bind fun q1 => if w32 q1 = 0 then f_X10_isCircle_b34 σ (f_X10_isCircle_b3 σ n) v1 v2 v3 v4 v5 else (f_X10_isWithin v2 v3 v4 v5 σ).bind fun q3 => if w32 q3 = 0 then some 0 else f_X10_isCircle_b34 σ (f_X10_isCircle_b3 σ n) v1 v2 v3 v4 v5 else some 1
def f_X10_isCircle (v1 : Int) (v2 : Int) (v3 : Int) (v4 : Int) (σ : Sg) : Option (Int) :=
  f_X10_isCircle_b3 σ FUEL v1 v2 v3 v4 0
def f_X10_isRing (v1 : Int) (v3 : Int) (v5 : Int) (v6 : Int) (v7 : Int) (σ : Sg) : Option (Sg) :=
  (f_X10_common v3 v1 σ).bind fun q1 => ck (¬ w64 q1 = 0) <| wr σ 58 0 ((w64 v1).tdiv (w64 q1)) fun σ4 => ck (¬ w64 q1 = 0) <| wr σ4 58 1 ((w64 v3).tdiv (w64 q1)) fun σ6 => wr σ6 58 2 (w32 v5) fun σ7 => wr σ7 58 3 (w32 v6) fun σ8 => wr σ8 58 4 (w32 v7) fun σ9 => some σ9
def f_X10_isTwo_b76 (k2 : Int → Int → Sg → Option (Int × Sg)) (k12 : Int → Int → Int → Sg → Option (Int × Sg)) (v1 : Int) (v2 : Int) (v3 : Int) (σ : Sg) : Option (Int × Sg) :=
  k12 v1 v2 (v3 + 1) σ
def f_X10_isTwo_b56 (v2 : Int) (v3 : Int) (σ : Sg) : Option (Int × Sg) :=
  (f_X10_distance v2 v3 σ).bind fun q9 => (f_X10_isRing (w32 q9) 4 v2 v3 ((-2)) σ).bind fun q11 => some ((1, q11))
def f_X10_isTwo_b82 (k2 : Int → Int → Sg → Option (Int × Sg)) (v1 : Int) (v2 : Int) (σ : Sg) : Option (Int × Sg) :=
  k2 v1 (v2 + 1) σ
def f_X10_isTwo_b12 (k2 : Int → Int → Sg → Option (Int × Sg)) : Nat → Int → Int → Int → Sg → Option (Int × Sg)
  | 0, _, _, _, _ => none
  | n + 1, v1, v2, v3, σ => if w32 v3 < 24 then (f_X10_has v1 v2 σ).bind fun q1 => if w32 q1 = 0 then f_X10_isTwo_b76 k2 (f_X10_isTwo_b12 k2 n) v1 v2 v3 σ else (f_X10_has v1 v3 σ).bind fun q3 => if w32 q3 = 0 then f_X10_isTwo_b76 k2 (f_X10_isTwo_b12 k2 n) v1 v2 v3 σ else (f_X10_distance v2 v3 σ).bind fun q5 => if w32 q5 = 0 then f_X10_isTwo_b76 k2 (f_X10_isTwo_b12 k2 n) v1 v2 v3 σ else (f_X10_isWidth v1 v2 v3 σ).bind fun q7 => if w32 q7 = 0 then f_X10_isTwo_b76 k2 (f_X10_isTwo_b12 k2 n) v1 v2 v3 σ else f_X10_isTwo_b56 v2 v3 σ else f_X10_isTwo_b82 k2 v1 v2 σ
def f_X10_isTwo_b2 : Nat → Int → Int → Sg → Option (Int × Sg)
  | 0, _, _, _ => none
  | n + 1, v1, v2, σ => if w32 v2 < 24 then f_X10_isTwo_b12 (f_X10_isTwo_b2 n) FUEL v1 v2 (v2 + 1) σ else some ((0, σ))
def f_X10_isTwo (v1 : Int) (σ : Sg) : Option (Int × Sg) :=
  f_X10_isTwo_b2 FUEL v1 0 σ
def f_X10_isThree_b134 (k2 : Int → Int → Sg → Option (Sg)) (k12 : Int → Int → Int → Sg → Option (Sg)) (k23 : Int → Int → Int → Int → Sg → Option (Sg)) (v1 : Int) (v2 : Int) (v3 : Int) (v4 : Int) (σ : Sg) : Option (Sg) :=
  k23 v1 v2 v3 (v4 + 1) σ
def f_X10_isThree_b81 (v2 : Int) (v3 : Int) (v4 : Int) (σ : Sg) : Option (Sg) :=
  (f_X10_turn v2 v3 v4 σ).bind fun q11 => (f_X10_distance v2 v3 σ).bind fun q13 => (f_X10_distance v3 v4 σ).bind fun q15 => (f_X10_distance v4 v2 σ).bind fun q17 => (f_X10_isRing (((w32 q13) * (w32 q15)) * (w32 q17)) ((4 * q11) * q11) v2 v3 v4 σ).bind fun q19 => some q19
def f_X10_isThree_b140 (k2 : Int → Int → Sg → Option (Sg)) (k12 : Int → Int → Int → Sg → Option (Sg)) (v1 : Int) (v2 : Int) (v3 : Int) (σ : Sg) : Option (Sg) :=
  k12 v1 v2 (v3 + 1) σ
def f_X10_isThree_b23 (k2 : Int → Int → Sg → Option (Sg)) (k12 : Int → Int → Int → Sg → Option (Sg)) : Nat → Int → Int → Int → Int → Sg → Option (Sg)
  | 0, _, _, _, _, _ => none
  | n + 1, v1, v2, v3, v4, σ => if w32 v4 < 24 then (f_X10_has v1 v2 σ).bind fun q1 => if w32 q1 = 0 then f_X10_isThree_b134 k2 k12 (f_X10_isThree_b23 k2 k12 n) v1 v2 v3 v4 σ else (f_X10_has v1 v3 σ).bind fun q3 => if w32 q3 = 0 then f_X10_isThree_b134 k2 k12 (f_X10_isThree_b23 k2 k12 n) v1 v2 v3 v4 σ else (f_X10_has v1 v4 σ).bind fun q5 => if w32 q5 = 0 then f_X10_isThree_b134 k2 k12 (f_X10_isThree_b23 k2 k12 n) v1 v2 v3 v4 σ else (f_X10_isSharp v2 v3 v4 σ).bind fun q7 => if w32 q7 = 0 then f_X10_isThree_b134 k2 k12 (f_X10_isThree_b23 k2 k12 n) v1 v2 v3 v4 σ else (f_X10_isCircle v1 v2 v3 v4 σ).bind fun q9 => if w32 q9 = 0 then f_X10_isThree_b134 k2 k12 (f_X10_isThree_b23 k2 k12 n) v1 v2 v3 v4 σ else f_X10_isThree_b81 v2 v3 v4 σ else f_X10_isThree_b140 k2 k12 v1 v2 v3 σ
def f_X10_isThree_b146 (k2 : Int → Int → Sg → Option (Sg)) (v1 : Int) (v2 : Int) (σ : Sg) : Option (Sg) :=
  k2 v1 (v2 + 1) σ
def f_X10_isThree_b12 (k2 : Int → Int → Sg → Option (Sg)) : Nat → Int → Int → Int → Sg → Option (Sg)
  | 0, _, _, _, _ => none
  | n + 1, v1, v2, v3, σ => if w32 v3 < 24 then f_X10_isThree_b23 k2 (f_X10_isThree_b12 k2 n) FUEL v1 v2 v3 (v3 + 1) σ else f_X10_isThree_b146 k2 v1 v2 σ
def f_X10_isThree_b2 : Nat → Int → Int → Sg → Option (Sg)
  | 0, _, _, _ => none
  | n + 1, v1, v2, σ => if w32 v2 < 24 then f_X10_isThree_b12 (f_X10_isThree_b2 n) FUEL v1 v2 (v2 + 1) σ else some σ
def f_X10_isThree (v1 : Int) (σ : Sg) : Option (Sg) :=
  f_X10_isThree_b2 FUEL v1 0 σ
def f_X10_lowest_b2 (σ : Sg) : Nat → Int → Int → Option (Int)
  | 0, _, _ => none
  | n + 1, v0, v1 => (f_X10_has v0 v1 σ).bind fun q1 => if w32 q1 = 0 then (f_X10_lowest_b2 σ n) v0 (v1 + 1) else some v1
def f_X10_lowest (v0 : Int) (σ : Sg) : Option (Int) :=
  f_X10_lowest_b2 σ FUEL v0 0
def f_X10_isOnePlace_b32 (σ : Sg) (k7 : Int → Int → Int → Option (Int)) (v1 : Int) (v2 : Int) (v3 : Int) : Option (Int) :=
  k7 v1 v2 (v3 + 1)
def f_X10_isOnePlace_b7 (σ : Sg) : Nat → Int → Int → Int → Option (Int)
  | 0, _, _, _ => none
  | n + 1, v1, v2, v3 => if w32 v3 < 24 then (f_X10_has v1 v3 σ).bind fun q3 => if w32 q3 = 0 then f_X10_isOnePlace_b32 σ (f_X10_isOnePlace_b7 σ n) v1 v2 v3 else (f_X10_distance v2 v3 σ).bind fun q5 => if w32 q5 ≤ 0 then f_X10_isOnePlace_b32 σ (f_X10_isOnePlace_b7 σ n) v1 v2 v3 else some 0 else some 1
def f_X10_isOnePlace (v1 : Int) (σ : Sg) : Option (Int) :=
  (f_X10_lowest v1 σ).bind fun q1 => f_X10_isOnePlace_b7 σ FUEL v1 q1 q1
def f_X10_ring_b83 (v2 : Int) (σ : Sg) : Option (Int × Sg) :=
  ck (0 ≤ v2 ∧ v2 < 5) <| some ((σ 58 (v2).toNat, σ))
def f_X10_ring (v1 : Int) (v2 : Int) (σ : Sg) : Option (Int × Sg) :=
  wr σ 41 0 0 fun σ1 => (f_X10_isTreaty v1 σ1).bind fun q2 => if w32 q2 = 0 then some (((-1), σ1)) else if w32 v2 < 0 then some (((-1), σ1)) else if w32 v2 ≤ 4 then (f_X10_worstOf v1 σ1).bind fun q4 => if w32 (q4.2 41 37) = 0 then some (((-2), q4.2)) else (f_X10_isOnePlace (q4.2 41 37) q4.2).bind fun q6 => if w32 q6 = 0 then (f_X10_isTwo (q4.2 41 37) q4.2).bind fun q8 => if w32 q8.1 = 0 then (f_X10_isThree (q4.2 41 37) q8.2).bind fun q10 => f_X10_ring_b83 v2 q10 else f_X10_ring_b83 v2 q8.2 else (f_X10_lowest (q4.2 41 37) q4.2).bind fun q14 => (f_X10_isRing 0 1 q14 ((-2)) ((-2)) q4.2).bind fun q16 => f_X10_ring_b83 v2 q16 else some (((-1), σ1))
def f_X10_part (v1 : Int) (v2 : Int) (σ : Sg) : Option (Int × Sg) :=
  wr σ 41 0 0 fun σ1 => (f_X10_isTreaty v1 σ1).bind fun q2 => if w32 q2 = 0 then some (((-1), σ1)) else (f_X10_isPolicy v2 σ1).bind fun q4 => if w32 q4 = 0 then some (((-1), σ1)) else (f_X10_ofTreaty v1 σ1).bind fun q6 => (f_X10_worstOf v1 σ1).bind fun q8 => ck (0 ≤ v1 ∧ v1 < 6) <| (f_X10_weighs ((((u32 q6) &&& ((u32 (1 * ((2 ^ (u32 v2 % 32) : Nat) : Int))) ^^^ 4294967295) : Nat) : Int)) (q8.2 51 (v1).toNat) ((-1)) q8.2).bind fun q11 => some ((q8.1 - (q11 41 36), q11))
def f_X10_second (v1 : Int) (σ : Sg) : Option (Int × Sg) :=
  wr σ 41 0 0 fun σ1 => (f_X10_isTreaty v1 σ1).bind fun q2 => if w32 q2 = 0 then some (((-1), σ1)) else (f_X10_worstOf v1 σ1).bind fun q4 => (f_X10_ofTreaty v1 q4.2).bind fun q6 => ck (0 ≤ v1 ∧ v1 < 6) <| (f_X10_weighs ((((u32 q6) &&& ((u32 (q4.2 41 37)) ^^^ 4294967295) : Nat) : Int)) (q4.2 51 (v1).toNat) ((-1)) q4.2).bind fun q9 => some ((q9 41 36, q9))
def f_X10_chainOf_b69 (k8 : Int → Int → Int → Int → Sg → Option (Int × Sg)) (k22 : Int → Int → Int → Int → Int → Sg → Option (Int × Sg)) (v2 : Int) (v3 : Int) (v4 : Int) (v5 : Int) (v6 : Int) (σ : Sg) : Option (Int × Sg) :=
  k22 v2 v3 v4 v5 (v6 + 1) σ
def f_X10_chainOf_b75 (k8 : Int → Int → Int → Int → Sg → Option (Int × Sg)) (v2 : Int) (v3 : Int) (v4 : Int) (v5 : Int) (σ : Sg) : Option (Int × Sg) :=
  k8 v2 v3 v4 v5 σ
def f_X10_chainOf_b22 (k8 : Int → Int → Int → Int → Sg → Option (Int × Sg)) : Nat → Int → Int → Int → Int → Int → Sg → Option (Int × Sg)
  | 0, _, _, _, _, _, _ => none
  | n + 1, v2, v3, v4, v5, v6, σ => if w32 v6 < 24 then (f_X10_has v2 v6 σ).bind fun q1 => if w32 q1 = 0 then f_X10_chainOf_b69 k8 (f_X10_chainOf_b22 k8 n) v2 v3 v4 v5 v6 σ else (f_X10_has v4 v6 σ).bind fun q3 => if w32 q3 = 0 then (f_X10_around v6 v4 v3 σ).bind fun q5 => if w32 q5.1 = 0 then f_X10_chainOf_b69 k8 (f_X10_chainOf_b22 k8 n) v2 v3 v4 v5 v6 q5.2 else f_X10_chainOf_b69 k8 (f_X10_chainOf_b22 k8 n) v2 v3 ((((u32 v4) ||| (u32 (1 * ((2 ^ (u32 v6 % 32) : Nat) : Int))) : Nat) : Int)) v5 v6 q5.2 else f_X10_chainOf_b69 k8 (f_X10_chainOf_b22 k8 n) v2 v3 v4 v5 v6 σ else f_X10_chainOf_b75 k8 v2 v3 v4 v5 σ
def f_X10_chainOf_b8 : Nat → Int → Int → Int → Int → Sg → Option (Int × Sg)
  | 0, _, _, _, _, _ => none
  | n + 1, v2, v3, v4, v5, σ => if w32 v5 = w32 v4 then some ((v4, σ)) else f_X10_chainOf_b22 (f_X10_chainOf_b8 n) FUEL v2 v3 v4 v4 0 σ
def f_X10_chainOf (v1 : Int) (v2 : Int) (v3 : Int) (σ : Sg) : Option (Int × Sg) :=
  f_X10_chainOf_b8 FUEL v2 v3 (1 * ((2 ^ (u32 v1 % 32) : Nat) : Int)) 0 σ
def f_X10_chains_b134 (v3 : Int) (v6 : Int) (v7 : Int) (v8 : Int) (σ : Sg) : Option (Int × Sg) :=
  if w32 v3 = 0 then some ((v6, σ)) else if w32 v3 = 1 then some ((v7, σ)) else if w32 v3 = 2 then (f_X10_sumOf v8 σ).bind fun q6 => some ((q6, σ)) else some ((v8, σ))
def f_X10_chains_b129 (k54 : Int → Int → Int → Int → Int → Int → Int → Sg → Option (Int × Sg)) (v2 : Int) (v3 : Int) (v4 : Int) (v5 : Int) (v6 : Int) (v7 : Int) (w0 : Int) (σ : Sg) : Option (Int × Sg) :=
  k54 v2 v3 v4 v5 v6 v7 w0 σ
def f_X10_chains_b105 (k54 : Int → Int → Int → Int → Int → Int → Int → Sg → Option (Int × Sg)) (v2 : Int) (v3 : Int) (v4 : Int) (v5 : Int) (v6 : Int) (v8 : Int) (v9 : Int) (w0 : Int) (σ : Sg) : Option (Int × Sg) :=
  (f_X10_sumOf v9 σ).bind fun q17 => (f_X10_sumOf v8 σ).bind fun q19 => if w32 q17 ≤ w32 q19 then f_X10_chains_b129 k54 v2 v3 v4 v5 v6 w0 v8 σ else f_X10_chains_b129 k54 v2 v3 v4 v5 v6 w0 v9 σ
def f_X10_chains_b54 : Nat → Int → Int → Int → Int → Int → Int → Int → Sg → Option (Int × Sg)
  | 0, _, _, _, _, _, _, _, _ => none
  | n + 1, v2, v3, v4, v5, v6, v7, v8, σ => if w32 v5 = 0 then f_X10_chains_b134 v3 v6 v7 v8 σ else (f_X10_lowest v5 σ).bind fun q11 => (f_X10_chainOf q11 v4 v2 σ).bind fun q13 => (f_X10_bits q13.1 q13.2).bind fun q15 => if w32 q15 ≤ w32 v7 then f_X10_chains_b105 (f_X10_chains_b54 n) v2 v3 v4 ((((u32 v5) &&& ((u32 q13.1) ^^^ 4294967295) : Nat) : Int)) (v6 + 1) v8 q13.1 v7 q13.2 else (f_X10_bits q13.1 q13.2).bind fun q22 => f_X10_chains_b105 (f_X10_chains_b54 n) v2 v3 v4 ((((u32 v5) &&& ((u32 q13.1) ^^^ 4294967295) : Nat) : Int)) (v6 + 1) v8 q13.1 q22 q13.2
def f_X10_chains (v1 : Int) (v2 : Int) (v3 : Int) (σ : Sg) : Option (Int × Sg) :=
  wr σ 41 0 0 fun σ1 => (f_X10_arePerils v1 σ1).bind fun q2 => if w32 q2 = 0 then some (((-1), σ1)) else if w32 v2 < 0 then some (((-1), σ1)) else if w32 v2 ≤ 300 then if w32 v3 < 0 then some (((-1), σ1)) else if w32 v3 ≤ 3 then (f_X10_ofPerils v1 σ1).bind fun q4 => f_X10_chains_b54 FUEL v2 v3 q4 q4 0 0 0 σ1 else some (((-1), σ1)) else some (((-1), σ1))
def f_X10_adds_b27 (v1 : Int) (σ : Sg) : Option (Sg) :=
  ck (0 ≤ σ 41 40 ∧ σ 41 40 < 600) <| wr σ 59 (σ 41 40).toNat v1 fun σ4 => wr σ4 41 40 ((σ4 41 40) + 1) fun σ5 => some σ5
def f_X10_adds_b2 : Nat → Int → Int → Sg → Option (Sg)
  | 0, _, _, _ => none
  | n + 1, v1, v2, σ => if w32 v2 < w32 (σ 41 40) then ck (0 ≤ v2 ∧ v2 < 600) <| if w32 (σ 59 (v2).toNat) = w32 v1 then some σ else (f_X10_adds_b2 n) v1 (v2 + 1) σ else f_X10_adds_b27 v1 σ
def f_X10_adds (v1 : Int) (σ : Sg) : Option (Sg) :=
  f_X10_adds_b2 FUEL v1 0 σ
def f_X10_findsDiscs_b104 (k7 : Int → Int → Int → Sg → Option (Sg)) (v1 : Int) (v2 : Int) (v3 : Int) (σ : Sg) : Option (Sg) :=
  k7 v1 v2 (v3 + 1) σ
def f_X10_findsDiscs_b98 (k7 : Int → Int → Int → Sg → Option (Sg)) (k40 : Int → Int → Int → Int → Sg → Option (Sg)) (v1 : Int) (v2 : Int) (v3 : Int) (v4 : Int) (σ : Sg) : Option (Sg) :=
  k40 v1 v2 v3 (v4 + 1) σ
def f_X10_findsDiscs_b40 (k7 : Int → Int → Int → Sg → Option (Sg)) : Nat → Int → Int → Int → Int → Sg → Option (Sg)
  | 0, _, _, _, _, _ => none
  | n + 1, v1, v2, v3, v4, σ => if w32 v4 < 24 then (f_X10_has v1 v4 σ).bind fun q8 => if w32 q8 = 0 then f_X10_findsDiscs_b98 k7 (f_X10_findsDiscs_b40 k7 n) v1 v2 v3 v4 σ else (f_X10_canBeRim v3 v4 v2 σ).bind fun q10 => if w32 q10 = 0 then f_X10_findsDiscs_b98 k7 (f_X10_findsDiscs_b40 k7 n) v1 v2 v3 v4 σ else (f_X10_onRim v3 v4 0 v1 v2 σ).bind fun q12 => (f_X10_adds q12.1 q12.2).bind fun q14 => (f_X10_onRim v3 v4 1 v1 v2 q14).bind fun q16 => (f_X10_adds q16.1 q16.2).bind fun q18 => f_X10_findsDiscs_b98 k7 (f_X10_findsDiscs_b40 k7 n) v1 v2 v3 v4 q18 else f_X10_findsDiscs_b104 k7 v1 v2 v3 σ
def f_X10_findsDiscs_b7 : Nat → Int → Int → Int → Sg → Option (Sg)
  | 0, _, _, _, _ => none
  | n + 1, v1, v2, v3, σ => if w32 v3 < 24 then (f_X10_has v1 v3 σ).bind fun q2 => if w32 q2 = 0 then f_X10_findsDiscs_b104 (f_X10_findsDiscs_b7 n) v1 v2 v3 σ else (f_X10_around v3 v1 v2 σ).bind fun q4 => (f_X10_adds q4.1 q4.2).bind fun q6 => f_X10_findsDiscs_b40 (f_X10_findsDiscs_b7 n) FUEL v1 v2 v3 (v3 + 1) q6 else some σ
def f_X10_findsDiscs (v1 : Int) (v2 : Int) (σ : Sg) : Option (Sg) :=
  wr σ 41 40 0 fun σ1 => f_X10_findsDiscs_b7 FUEL v1 v2 0 σ1
def f_X10_two_b142 (k53 : Int → Int → Sg → Option (Int × Sg)) (k66 : Int → Int → Int → Sg → Option (Int × Sg)) (v3 : Int) (v4 : Int) (v5 : Int) (σ : Sg) : Option (Int × Sg) :=
  k66 v3 v4 (v5 + 1) σ
def f_X10_two_b130 (k53 : Int → Int → Sg → Option (Int × Sg)) (k66 : Int → Int → Int → Sg → Option (Int × Sg)) (v3 : Int) (v4 : Int) (v5 : Int) (v6 : Int) (v7 : Int) (σ : Sg) : Option (Int × Sg) :=
  wr σ 41 36 v7 fun σ16 => wr σ16 41 37 v6 fun σ17 => f_X10_two_b142 k53 k66 v3 v4 v5 σ17
def f_X10_two_b148 (k53 : Int → Int → Sg → Option (Int × Sg)) (v3 : Int) (v4 : Int) (σ : Sg) : Option (Int × Sg) :=
  k53 v3 (v4 + 1) σ
def f_X10_two_b66 (k53 : Int → Int → Sg → Option (Int × Sg)) : Nat → Int → Int → Int → Sg → Option (Int × Sg)
  | 0, _, _, _, _ => none
  | n + 1, v3, v4, v5, σ => if w32 v5 < w32 (σ 41 40) then ck (0 ≤ v4 ∧ v4 < 600) <| ck (0 ≤ v5 ∧ v5 < 600) <| (f_X10_sumOf ((((u32 (σ 59 (v4).toNat)) ||| (u32 (σ 59 (v5).toNat)) : Nat) : Int)) σ).bind fun q14 => if w32 q14 < w32 (σ 41 36) then f_X10_two_b142 k53 (f_X10_two_b66 k53 n) v3 v4 v5 σ else if w32 q14 = w32 (σ 41 36) then if w32 ((((u32 (σ 59 (v4).toNat)) ||| (u32 (σ 59 (v5).toNat)) : Nat) : Int)) < w32 (σ 41 37) then f_X10_two_b130 k53 (f_X10_two_b66 k53 n) v3 v4 v5 ((((u32 (σ 59 (v4).toNat)) ||| (u32 (σ 59 (v5).toNat)) : Nat) : Int)) q14 σ else f_X10_two_b142 k53 (f_X10_two_b66 k53 n) v3 v4 v5 σ else f_X10_two_b130 k53 (f_X10_two_b66 k53 n) v3 v4 v5 ((((u32 (σ 59 (v4).toNat)) ||| (u32 (σ 59 (v5).toNat)) : Nat) : Int)) q14 σ else f_X10_two_b148 k53 v3 v4 σ
def f_X10_two_b154 (v3 : Int) (σ : Sg) : Option (Int × Sg) :=
  if w32 v3 = 0 then some ((σ 41 36, σ)) else some ((σ 41 37, σ))
def f_X10_two_b53 : Nat → Int → Int → Sg → Option (Int × Sg)
  | 0, _, _, _ => none
  | n + 1, v3, v4, σ => if w32 v4 < w32 (σ 41 40) then f_X10_two_b66 (f_X10_two_b53 n) FUEL v3 v4 v4 σ else f_X10_two_b154 v3 σ
def f_X10_two (v1 : Int) (v2 : Int) (v3 : Int) (σ : Sg) : Option (Int × Sg) :=
  wr σ 41 0 0 fun σ1 => (f_X10_arePerils v1 σ1).bind fun q2 => if w32 q2 = 0 then some (((-1), σ1)) else (f_X10_isRadius v2 σ1).bind fun q4 => if w32 q4 = 0 then some (((-1), σ1)) else if w32 v3 < 0 then some (((-1), σ1)) else if w32 v3 ≤ 1 then (f_X10_ofPerils v1 σ1).bind fun q6 => (f_X10_findsDiscs q6 v2 σ1).bind fun q8 => wr q8 41 36 0 fun σ10 => wr σ10 41 37 0 fun σ11 => f_X10_two_b53 FUEL v3 0 σ11 else some (((-1), σ1))
def f_X10_isCovered_l0_b66 (σ : Sg) (k20 : Int → Int → Int → Int → Option (Int)) (v1 : Int) (v2 : Int) (v3 : Int) (v4 : Int) : Option (Int) :=
  k20 v1 v2 v3 (v4 + 1)
def f_X10_isCovered_l0_b20 (σ : Sg) : Nat → Int → Int → Int → Int → Option (Int)
  | 0, _, _, _, _ => none
  | n + 1, v1, v2, v3, v4 => if w32 v4 < w32 (σ 41 40) then ck (0 ≤ v4 ∧ v4 < 600) <| (f_X10_has (σ 59 (v4).toNat) v3 σ).bind fun q4 => if w32 q4 = 0 then f_X10_isCovered_l0_b66 σ (f_X10_isCovered_l0_b20 σ n) v1 v2 v3 v4 else ck (0 ≤ v4 ∧ v4 < 600) <| (none : Option Unit).bind fun _ => none else some 0
def f_X10_isCovered_l0 (v1 : Int) (v2 : Int) (σ : Sg) : Option (Int) :=
  if w32 v1 = 0 then some 1 else if w32 v2 = 0 then some 0 else (f_X10_lowest v1 σ).bind fun q1 => f_X10_isCovered_l0_b20 σ FUEL v1 v2 q1 0
def f_X10_isCovered_l1_b66 (σ : Sg) (k20 : Int → Int → Int → Int → Option (Int)) (v1 : Int) (v2 : Int) (v3 : Int) (v4 : Int) : Option (Int) :=
  k20 v1 v2 v3 (v4 + 1)
def f_X10_isCovered_l1_b20 (σ : Sg) : Nat → Int → Int → Int → Int → Option (Int)
  | 0, _, _, _, _ => none
  | n + 1, v1, v2, v3, v4 => if w32 v4 < w32 (σ 41 40) then ck (0 ≤ v4 ∧ v4 < 600) <| (f_X10_has (σ 59 (v4).toNat) v3 σ).bind fun q4 => if w32 q4 = 0 then f_X10_isCovered_l1_b66 σ (f_X10_isCovered_l1_b20 σ n) v1 v2 v3 v4 else ck (0 ≤ v4 ∧ v4 < 600) <| (f_X10_isCovered_l0 ((((u32 v1) &&& ((u32 (σ 59 (v4).toNat)) ^^^ 4294967295) : Nat) : Int)) (v2 - 1) σ).bind fun q7 => if w32 q7 = 0 then f_X10_isCovered_l1_b66 σ (f_X10_isCovered_l1_b20 σ n) v1 v2 v3 v4 else some 1 else some 0
def f_X10_isCovered_l1 (v1 : Int) (v2 : Int) (σ : Sg) : Option (Int) :=
  if w32 v1 = 0 then some 1 else if w32 v2 = 0 then some 0 else (f_X10_lowest v1 σ).bind fun q1 => f_X10_isCovered_l1_b20 σ FUEL v1 v2 q1 0
def f_X10_isCovered_l2_b66 (σ : Sg) (k20 : Int → Int → Int → Int → Option (Int)) (v1 : Int) (v2 : Int) (v3 : Int) (v4 : Int) : Option (Int) :=
  k20 v1 v2 v3 (v4 + 1)
def f_X10_isCovered_l2_b20 (σ : Sg) : Nat → Int → Int → Int → Int → Option (Int)
  | 0, _, _, _, _ => none
  | n + 1, v1, v2, v3, v4 => if w32 v4 < w32 (σ 41 40) then ck (0 ≤ v4 ∧ v4 < 600) <| (f_X10_has (σ 59 (v4).toNat) v3 σ).bind fun q4 => if w32 q4 = 0 then f_X10_isCovered_l2_b66 σ (f_X10_isCovered_l2_b20 σ n) v1 v2 v3 v4 else ck (0 ≤ v4 ∧ v4 < 600) <| (f_X10_isCovered_l1 ((((u32 v1) &&& ((u32 (σ 59 (v4).toNat)) ^^^ 4294967295) : Nat) : Int)) (v2 - 1) σ).bind fun q7 => if w32 q7 = 0 then f_X10_isCovered_l2_b66 σ (f_X10_isCovered_l2_b20 σ n) v1 v2 v3 v4 else some 1 else some 0
def f_X10_isCovered_l2 (v1 : Int) (v2 : Int) (σ : Sg) : Option (Int) :=
  if w32 v1 = 0 then some 1 else if w32 v2 = 0 then some 0 else (f_X10_lowest v1 σ).bind fun q1 => f_X10_isCovered_l2_b20 σ FUEL v1 v2 q1 0
def f_X10_isCovered_l3_b66 (σ : Sg) (k20 : Int → Int → Int → Int → Option (Int)) (v1 : Int) (v2 : Int) (v3 : Int) (v4 : Int) : Option (Int) :=
  k20 v1 v2 v3 (v4 + 1)
def f_X10_isCovered_l3_b20 (σ : Sg) : Nat → Int → Int → Int → Int → Option (Int)
  | 0, _, _, _, _ => none
  | n + 1, v1, v2, v3, v4 => if w32 v4 < w32 (σ 41 40) then ck (0 ≤ v4 ∧ v4 < 600) <| (f_X10_has (σ 59 (v4).toNat) v3 σ).bind fun q4 => if w32 q4 = 0 then f_X10_isCovered_l3_b66 σ (f_X10_isCovered_l3_b20 σ n) v1 v2 v3 v4 else ck (0 ≤ v4 ∧ v4 < 600) <| (f_X10_isCovered_l2 ((((u32 v1) &&& ((u32 (σ 59 (v4).toNat)) ^^^ 4294967295) : Nat) : Int)) (v2 - 1) σ).bind fun q7 => if w32 q7 = 0 then f_X10_isCovered_l3_b66 σ (f_X10_isCovered_l3_b20 σ n) v1 v2 v3 v4 else some 1 else some 0
def f_X10_isCovered_l3 (v1 : Int) (v2 : Int) (σ : Sg) : Option (Int) :=
  if w32 v1 = 0 then some 1 else if w32 v2 = 0 then some 0 else (f_X10_lowest v1 σ).bind fun q1 => f_X10_isCovered_l3_b20 σ FUEL v1 v2 q1 0
def f_X10_cover_b36 : Nat → Int → Int → Sg → Option (Int × Sg)
  | 0, _, _, _ => none
  | n + 1, v3, v4, σ => if w32 v4 ≤ 3 then (f_X10_isCovered_l3 v3 v4 σ).bind fun q10 => if w32 q10 = 0 then (f_X10_cover_b36 n) v3 (v4 + 1) σ else some ((v4, σ)) else some (((-2), σ))
def f_X10_cover (v1 : Int) (v2 : Int) (σ : Sg) : Option (Int × Sg) :=
  wr σ 41 0 0 fun σ1 => (f_X10_arePerils v1 σ1).bind fun q2 => if w32 q2 = 0 then some (((-1), σ1)) else (f_X10_isRadius v2 σ1).bind fun q4 => if w32 q4 = 0 then some (((-1), σ1)) else (f_X10_ofPerils v1 σ1).bind fun q6 => (f_X10_findsDiscs q6 v2 σ1).bind fun q8 => f_X10_cover_b36 FUEL q6 0 q8
def f_X10_squareAt_b97 (σ : Sg) (k6 : Int → Int → Int → Int → Int → Int → Option (Int)) (v1 : Int) (v2 : Int) (v3 : Int) (v4 : Int) (v6 : Int) (w0 : Int) (w1 : Int) : Option (Int) :=
  k6 v1 v2 v3 v4 (w1 + w0) (v6 + 1)
def f_X10_squareAt_b77 (σ : Sg) (k6 : Int → Int → Int → Int → Int → Int → Option (Int)) (v1 : Int) (v2 : Int) (v3 : Int) (v4 : Int) (v5 : Int) (v6 : Int) (w0 : Int) : Option (Int) :=
  if w32 w0 = 0 then f_X10_squareAt_b97 σ k6 v1 v2 v3 v4 v6 0 v5 else ck (0 ≤ v6 ∧ v6 < 25) <| f_X10_squareAt_b97 σ k6 v1 v2 v3 v4 v6 (σ 47 (v6).toNat) v5
def f_X10_squareAt_b76 (σ : Sg) (k6 : Int → Int → Int → Int → Int → Int → Option (Int)) (v1 : Int) (v2 : Int) (v3 : Int) (v4 : Int) (v5 : Int) (v6 : Int) : Option (Int) :=
  f_X10_squareAt_b77 σ k6 v1 v2 v3 v4 v5 v6 0
def f_X10_squareAt_b6 (σ : Sg) : Nat → Int → Int → Int → Int → Int → Int → Option (Int)
  | 0, _, _, _, _, _, _ => none
  | n + 1, v1, v2, v3, v4, v5, v6 => if w32 v6 < 24 then (f_X10_has v1 v6 σ).bind fun q1 => if w32 q1 = 0 then f_X10_squareAt_b76 σ (f_X10_squareAt_b6 σ n) v1 v2 v3 v4 v5 v6 else ck (0 ≤ v6 ∧ v6 < 25) <| if w32 (σ 45 (v6).toNat) < w32 v2 then f_X10_squareAt_b76 σ (f_X10_squareAt_b6 σ n) v1 v2 v3 v4 v5 v6 else ck (0 ≤ v6 ∧ v6 < 25) <| if w32 (σ 45 (v6).toNat) ≤ w32 (v2 + v4) then ck (0 ≤ v6 ∧ v6 < 25) <| if w32 (σ 46 (v6).toNat) < w32 v3 then f_X10_squareAt_b76 σ (f_X10_squareAt_b6 σ n) v1 v2 v3 v4 v5 v6 else ck (0 ≤ v6 ∧ v6 < 25) <| if w32 (σ 46 (v6).toNat) ≤ w32 (v3 + v4) then f_X10_squareAt_b77 σ (f_X10_squareAt_b6 σ n) v1 v2 v3 v4 v5 v6 1 else f_X10_squareAt_b76 σ (f_X10_squareAt_b6 σ n) v1 v2 v3 v4 v5 v6 else f_X10_squareAt_b76 σ (f_X10_squareAt_b6 σ n) v1 v2 v3 v4 v5 v6 else some v5
def f_X10_squareAt (v1 : Int) (v2 : Int) (v3 : Int) (v4 : Int) (σ : Sg) : Option (Int) :=
  f_X10_squareAt_b6 σ FUEL v1 v2 v3 v4 0 0
def f_X10_square_b193 (k55 : Int → Int → Int → Int → Int → Int → Int → Sg → Option (Int × Sg)) (k65 : Int → Int → Int → Int → Int → Int → Int → Int → Sg → Option (Int × Sg)) (v2 : Int) (v3 : Int) (v4 : Int) (v5 : Int) (v6 : Int) (v7 : Int) (v8 : Int) (v9 : Int) (σ : Sg) : Option (Int × Sg) :=
  k65 v2 v3 v4 v5 v6 v7 v8 (v9 + 1) σ
def f_X10_square_b171 (k55 : Int → Int → Int → Int → Int → Int → Int → Sg → Option (Int × Sg)) (k65 : Int → Int → Int → Int → Int → Int → Int → Int → Sg → Option (Int × Sg)) (v2 : Int) (v3 : Int) (v4 : Int) (v8 : Int) (v9 : Int) (v10 : Int) (σ : Sg) : Option (Int × Sg) :=
  ck (0 ≤ v8 ∧ v8 < 25) <| ck (0 ≤ v9 ∧ v9 < 25) <| f_X10_square_b193 k55 k65 v2 v3 v4 v10 (σ 45 (v8).toNat) (σ 46 (v9).toNat) v8 v9 σ
def f_X10_square_b199 (k55 : Int → Int → Int → Int → Int → Int → Int → Sg → Option (Int × Sg)) (v2 : Int) (v3 : Int) (v4 : Int) (v5 : Int) (v6 : Int) (v7 : Int) (v8 : Int) (σ : Sg) : Option (Int × Sg) :=
  k55 v2 v3 v4 v5 v6 v7 (v8 + 1) σ
def f_X10_square_b65 (k55 : Int → Int → Int → Int → Int → Int → Int → Sg → Option (Int × Sg)) : Nat → Int → Int → Int → Int → Int → Int → Int → Int → Sg → Option (Int × Sg)
  | 0, _, _, _, _, _, _, _, _, _ => none
  | n + 1, v2, v3, v4, v5, v6, v7, v8, v9, σ => if w32 v9 < 24 then (f_X10_has v4 v8 σ).bind fun q6 => if w32 q6 = 0 then f_X10_square_b193 k55 (f_X10_square_b65 k55 n) v2 v3 v4 v5 v6 v7 v8 v9 σ else (f_X10_has v4 v9 σ).bind fun q8 => if w32 q8 = 0 then f_X10_square_b193 k55 (f_X10_square_b65 k55 n) v2 v3 v4 v5 v6 v7 v8 v9 σ else ck (0 ≤ v8 ∧ v8 < 25) <| ck (0 ≤ v9 ∧ v9 < 25) <| (f_X10_squareAt v4 (σ 45 (v8).toNat) (σ 46 (v9).toNat) v2 σ).bind fun q12 => if w32 q12 < w32 v5 then f_X10_square_b193 k55 (f_X10_square_b65 k55 n) v2 v3 v4 v5 v6 v7 v8 v9 σ else if w32 q12 = w32 v5 then ck (0 ≤ v8 ∧ v8 < 25) <| if w32 (σ 45 (v8).toNat) ≤ w32 v6 then ck (0 ≤ v8 ∧ v8 < 25) <| if w32 (σ 45 (v8).toNat) = w32 v6 then ck (0 ≤ v9 ∧ v9 < 25) <| if w32 (σ 46 (v9).toNat) < w32 v7 then f_X10_square_b171 k55 (f_X10_square_b65 k55 n) v2 v3 v4 v8 v9 q12 σ else f_X10_square_b193 k55 (f_X10_square_b65 k55 n) v2 v3 v4 v5 v6 v7 v8 v9 σ else f_X10_square_b171 k55 (f_X10_square_b65 k55 n) v2 v3 v4 v8 v9 q12 σ else f_X10_square_b193 k55 (f_X10_square_b65 k55 n) v2 v3 v4 v5 v6 v7 v8 v9 σ else f_X10_square_b171 k55 (f_X10_square_b65 k55 n) v2 v3 v4 v8 v9 q12 σ else f_X10_square_b199 k55 v2 v3 v4 v5 v6 v7 v8 σ
def f_X10_square_b205 (v3 : Int) (v5 : Int) (v6 : Int) (v7 : Int) (σ : Sg) : Option (Int × Sg) :=
  if w32 v3 = 0 then some ((v5, σ)) else if w32 v3 = 1 then some ((v6, σ)) else some ((v7, σ))
def f_X10_square_b55 : Nat → Int → Int → Int → Int → Int → Int → Int → Sg → Option (Int × Sg)
  | 0, _, _, _, _, _, _, _, _ => none
  | n + 1, v2, v3, v4, v5, v6, v7, v8, σ => if w32 v8 < 24 then f_X10_square_b65 (f_X10_square_b55 n) FUEL v2 v3 v4 v5 v6 v7 v8 0 σ else f_X10_square_b205 v3 v5 v6 v7 σ
def f_X10_square (v1 : Int) (v2 : Int) (v3 : Int) (σ : Sg) : Option (Int × Sg) :=
  wr σ 41 0 0 fun σ1 => (f_X10_arePerils v1 σ1).bind fun q2 => if w32 q2 = 0 then some (((-1), σ1)) else if w32 v2 < 0 then some (((-1), σ1)) else if w32 v2 ≤ 299 then if w32 v3 < 0 then some (((-1), σ1)) else if w32 v3 ≤ 2 then (f_X10_ofPerils v1 σ1).bind fun q4 => f_X10_square_b55 FUEL v2 v3 q4 0 ((-2)) ((-2)) 0 σ1 else some (((-1), σ1)) else some (((-1), σ1))
def f_X10_alarm (v1 : Int) (v2 : Int) (σ : Sg) : Option (Int × Sg) :=
  wr σ 41 0 0 fun σ1 => if w32 v1 < 0 then some (((-1), σ1)) else if w32 v2 < 0 then some (((-1), σ1)) else if w32 v2 ≤ 2 then if w32 v1 < w32 (σ1 41 32) then ck (0 ≤ (3 * v1) + v2 ∧ (3 * v1) + v2 < 90) <| some ((σ1 56 ((3 * v1) + v2).toNat, σ1)) else some (((-2), σ1)) else some (((-1), σ1))
def f_X10_act (v1 : Int) (v2 : Int) (σ : Sg) : Option (Int × Sg) :=
  wr σ 41 0 0 fun σ1 => if w32 v1 < 0 then some (((-2147483648), σ1)) else if w32 v1 < w32 (σ1 41 34) then if w32 v2 < 0 then some (((-2147483648), σ1)) else if w32 v2 ≤ 2 then ck (0 ≤ (3 * v1) + v2 ∧ (3 * v1) + v2 < 90) <| some ((σ1 57 ((3 * v1) + v2).toNat, σ1)) else some (((-2147483648), σ1)) else some (((-2147483648), σ1))
def f_X10_tightest_b78 (k16 : Int → Int → Int → Int → Sg → Option (Int × Sg)) (v1 : Int) (v2 : Int) (v4 : Int) (v6 : Int) (σ : Sg) : Option (Int × Sg) :=
  k16 v1 v2 v4 (v6 + 1) σ
def f_X10_tightest_b62 (k16 : Int → Int → Int → Int → Sg → Option (Int × Sg)) (v6 : Int) (v7 : Int) (σ : Sg) : Option (Int × Sg) :=
  ck (0 ≤ v6 ∧ v6 < 6) <| f_X10_tightest_b78 k16 v6 v7 (w32 (σ 52 (v6).toNat)) v6 σ
def f_X10_tightest_b16 : Nat → Int → Int → Int → Int → Sg → Option (Int × Sg)
  | 0, _, _, _, _, _ => none
  | n + 1, v1, v2, v4, v6, σ => if w32 v6 < w32 (σ 41 27) then (f_X10_worstOf v6 σ).bind fun q2 => if w32 v1 = (-2) then f_X10_tightest_b62 (f_X10_tightest_b16 n) v6 (w32 q2.1) q2.2 else ck (0 ≤ v6 ∧ v6 < 6) <| if w64 ((w32 q2.1) * v4) ≤ w64 (v2 * (w32 (q2.2 52 (v6).toNat))) then f_X10_tightest_b78 (f_X10_tightest_b16 n) v1 v2 v4 v6 q2.2 else f_X10_tightest_b62 (f_X10_tightest_b16 n) v6 (w32 q2.1) q2.2 else some ((v1, σ))
def f_X10_tightest (σ : Sg) : Option (Int × Sg) :=
  wr σ 41 0 0 fun σ1 => f_X10_tightest_b16 FUEL ((-2)) 0 1 0 σ1
def f_X10_together (v1 : Int) (v2 : Int) (v3 : Int) (σ : Sg) : Option (Int × Sg) :=
  wr σ 41 0 0 fun σ1 => (f_X10_isPolicy v1 σ1).bind fun q2 => if w32 q2 = 0 then some (((-1), σ1)) else (f_X10_isPolicy v2 σ1).bind fun q4 => if w32 q4 = 0 then some (((-1), σ1)) else if w32 v1 = w32 v2 then some (((-1), σ1)) else (f_X10_isRadius v3 σ1).bind fun q6 => if w32 q6 = 0 then some (((-1), σ1)) else (f_X10_distance v1 v2 σ1).bind fun q8 => if w32 q8 ≤ w32 ((4 * v3) * v3) then some ((1, σ1)) else some ((0, σ1))
def f_X10_heaviest (v1 : Int) (v2 : Int) (σ : Sg) : Option (Int × Sg) :=
  wr σ 41 0 0 fun σ1 => (f_X10_arePerils v1 σ1).bind fun q2 => if w32 q2 = 0 then some (((-1), σ1)) else (f_X10_isRadius v2 σ1).bind fun q4 => if w32 q4 = 0 then some (((-1), σ1)) else (f_X10_ofPerils v1 σ1).bind fun q6 => (f_X10_weighs q6 v2 ((-1)) σ1).bind fun q8 => some ((q8 41 36, q8))
def f_X10_heaviestSet (v1 : Int) (v2 : Int) (σ : Sg) : Option (Int × Sg) :=
  wr σ 41 0 0 fun σ1 => (f_X10_arePerils v1 σ1).bind fun q2 => if w32 q2 = 0 then some (((-1), σ1)) else (f_X10_isRadius v2 σ1).bind fun q4 => if w32 q4 = 0 then some (((-1), σ1)) else (f_X10_ofPerils v1 σ1).bind fun q6 => (f_X10_weighs q6 v2 ((-1)) σ1).bind fun q8 => some ((q8 41 37, q8))
def f_X10_radiusFor_b72 (k26 : Int → Int → Int → Int → Sg → Option (Int × Sg)) (v1 : Int) (v2 : Int) (v3 : Int) (v4 : Int) (σ : Sg) : Option (Int × Sg) :=
  if w32 v3 = 301 then some (((-2), σ)) else k26 v1 v2 v3 v4 σ
def f_X10_radiusFor_b85 (v1 : Int) (v2 : Int) (v3 : Int) (σ : Sg) : Option (Int × Sg) :=
  (f_X10_ofPerils v1 σ).bind fun q11 => (f_X10_weighs q11 v3 ((-1)) σ).bind fun q13 => if w32 (q13 41 36) < w32 v2 then some (((-2), q13)) else some ((v3, q13))
def f_X10_radiusFor_b26 : Nat → Int → Int → Int → Int → Sg → Option (Int × Sg)
  | 0, _, _, _, _, _ => none
  | n + 1, v1, v2, v3, v4, σ => if w32 v3 < w32 v4 then ck (¬ w32 2 = 0) <| (f_X10_ofPerils v1 σ).bind fun q5 => (f_X10_weighs q5 ((w32 (v3 + v4)).tdiv (w32 2)) ((-1)) σ).bind fun q7 => if w32 (q7 41 36) < w32 v2 then f_X10_radiusFor_b72 (f_X10_radiusFor_b26 n) v1 v2 (((w32 (v3 + v4)).tdiv (w32 2)) + 1) v4 q7 else f_X10_radiusFor_b72 (f_X10_radiusFor_b26 n) v1 v2 v3 ((w32 (v3 + v4)).tdiv (w32 2)) q7 else f_X10_radiusFor_b85 v1 v2 v3 σ
def f_X10_radiusFor (v1 : Int) (v2 : Int) (σ : Sg) : Option (Int × Sg) :=
  wr σ 41 0 0 fun σ1 => (f_X10_arePerils v1 σ1).bind fun q2 => if w32 q2 = 0 then some (((-1), σ1)) else if w32 v2 < 1 then some (((-1), σ1)) else f_X10_radiusFor_b26 FUEL v1 v2 1 301 σ1
def f_X10_ifWritten_b80 (v1 : Int) (v6 : Int) (σ : Sg) : Option (Int × Sg) :=
  ck (0 ≤ v1 ∧ v1 < 6) <| (f_X10_weighs v6 (σ 51 (v1).toNat) ((-1)) σ).bind fun q18 => some ((q18 41 36, q18))
def f_X10_ifWritten (v1 : Int) (v2 : Int) (v3 : Int) (v4 : Int) (v5 : Int) (σ : Sg) : Option (Int × Sg) :=
  wr σ 41 0 0 fun σ1 => (f_X10_isTreaty v1 σ1).bind fun q2 => if w32 q2 = 0 then some (((-1), σ1)) else (f_X10_isPlace v2 v3 σ1).bind fun q4 => if w32 q4 = 0 then some (((-1), σ1)) else (f_X10_isSum v4 σ1).bind fun q6 => if w32 q6 = 0 then some (((-1), σ1)) else (f_X10_isPeril v5 σ1).bind fun q8 => if w32 q8 = 0 then some (((-1), σ1)) else (f_X10_ofTreaty v1 σ1).bind fun q10 => (f_X10_puts 24 v2 v3 v4 v5 σ1).bind fun q12 => ck (0 ≤ v1 ∧ v1 < 6) <| (f_X10_has (q12 50 (v1).toNat) v5 q12).bind fun q15 => if w32 q15 = 0 then f_X10_ifWritten_b80 v1 q10 q12 else f_X10_ifWritten_b80 v1 ((((u32 q10) ||| 16777216 : Nat) : Int)) q12
def f_X10_withPlace (v1 : Int) (v2 : Int) (v3 : Int) (σ : Sg) : Option (Int × Sg) :=
  (f_X10_puts 24 v2 v3 0 0 σ).bind fun q1 => (f_X10_ofTreaty v1 q1).bind fun q3 => ck (0 ≤ v1 ∧ v1 < 6) <| (f_X10_weighs q3 (q1 51 (v1).toNat) 24 q1).bind fun q6 => some ((q6 41 36, q6))
def f_X10_about (v1 : Int) (v2 : Int) (v3 : Int) (σ : Sg) : Option (Int × Sg) :=
  wr σ 41 0 0 fun σ1 => (f_X10_isTreaty v1 σ1).bind fun q2 => if w32 q2 = 0 then some (((-1), σ1)) else (f_X10_isPlace v2 v3 σ1).bind fun q4 => if w32 q4 = 0 then some (((-1), σ1)) else (f_X10_withPlace v1 v2 v3 σ1).bind fun q6 => some ((q6.1, q6.2))
def f_X10_roomAt_b107 (k7 : Int → Int → Int → Int → Int → Sg → Option (Int × Sg)) (v1 : Int) (v2 : Int) (v3 : Int) (v4 : Int) (v5 : Int) (σ : Sg) : Option (Int × Sg) :=
  k7 v1 v2 v3 v4 (v5 + 1) σ
def f_X10_roomAt_b105 (k7 : Int → Int → Int → Int → Int → Sg → Option (Int × Sg)) (v1 : Int) (v2 : Int) (v3 : Int) (v5 : Int) (w0 : Int) (σ : Sg) : Option (Int × Sg) :=
  f_X10_roomAt_b107 k7 v1 v2 v3 w0 v5 σ
def f_X10_roomAt_b7 : Nat → Int → Int → Int → Int → Int → Sg → Option (Int × Sg)
  | 0, _, _, _, _, _, _ => none
  | n + 1, v1, v2, v3, v4, v5, σ => if w32 v5 < w32 (σ 41 27) then ck (0 ≤ v5 ∧ v5 < 6) <| (f_X10_has (σ 50 (v5).toNat) v3 σ).bind fun q2 => if w32 q2 = 0 then f_X10_roomAt_b107 (f_X10_roomAt_b7 n) v1 v2 v3 v4 v5 σ else ck (0 ≤ v5 ∧ v5 < 6) <| if w32 (σ 53 (v5).toNat) = (-2) then ck (0 ≤ v5 ∧ v5 < 6) <| (f_X10_ofTreaty v5 σ).bind fun q6 => (f_X10_sumOf q6 σ).bind fun q8 => if w32 ((σ 52 (v5).toNat) - q8) < w32 v4 then ck (0 ≤ v5 ∧ v5 < 6) <| (f_X10_withPlace v5 v1 v2 σ).bind fun q11 => if w32 ((σ 52 (v5).toNat) - q11.1) < w32 v4 then f_X10_roomAt_b105 (f_X10_roomAt_b7 n) v1 v2 v3 v5 ((σ 52 (v5).toNat) - q11.1) q11.2 else f_X10_roomAt_b105 (f_X10_roomAt_b7 n) v1 v2 v3 v5 v4 q11.2 else f_X10_roomAt_b107 (f_X10_roomAt_b7 n) v1 v2 v3 v4 v5 σ else some (((-1), σ)) else some ((v4, σ))
def f_X10_roomAt (v1 : Int) (v2 : Int) (v3 : Int) (σ : Sg) : Option (Int × Sg) :=
  f_X10_roomAt_b7 FUEL v1 v2 v3 99999 0 σ
def f_X10_most (v1 : Int) (v2 : Int) (v3 : Int) (σ : Sg) : Option (Int × Sg) :=
  wr σ 41 0 0 fun σ1 => (f_X10_isPlace v1 v2 σ1).bind fun q2 => if w32 q2 = 0 then some (((-1), σ1)) else (f_X10_isPeril v3 σ1).bind fun q4 => if w32 q4 = 0 then some (((-1), σ1)) else (f_X10_roomAt v1 v2 v3 σ1).bind fun q6 => if w32 q6.1 < 0 then some ((0, q6.2)) else some ((q6.1, q6.2))
def f_X10_places_b64 (k26 : Int → Int → Int → Int → Sg → Option (Int × Sg)) (v1 : Int) (v2 : Int) (v4 : Int) (w0 : Int) (w1 : Int) (σ : Sg) : Option (Int × Sg) :=
  k26 v1 v2 (w1 + w0) (v4 + 1) σ
def f_X10_places_b26 : Nat → Int → Int → Int → Int → Sg → Option (Int × Sg)
  | 0, _, _, _, _, _ => none
  | n + 1, v1, v2, v3, v4, σ => if w32 v4 < 100 then ck (¬ w32 10 = 0) <| ck (¬ w32 10 = 0) <| (f_X10_roomAt (30 * ((w32 v4).tdiv (w32 10))) (30 * ((w32 v4).tmod (w32 10))) v2 σ).bind fun q8 => if w32 q8.1 < w32 v1 then f_X10_places_b64 (f_X10_places_b26 n) v1 v2 v4 0 v3 q8.2 else f_X10_places_b64 (f_X10_places_b26 n) v1 v2 v4 1 v3 q8.2 else some ((v3, σ))
def f_X10_places (v1 : Int) (v2 : Int) (σ : Sg) : Option (Int × Sg) :=
  wr σ 41 0 0 fun σ1 => (f_X10_isSum v1 σ1).bind fun q2 => if w32 q2 = 0 then some (((-1), σ1)) else (f_X10_isPeril v2 σ1).bind fun q4 => if w32 q4 = 0 then some (((-1), σ1)) else f_X10_places_b26 FUEL v1 v2 0 0 σ1
def f_X10_relief_b121 (k53 : Int → Int → Int → Int → Int → Int → Int → Sg → Option (Int × Sg)) (v1 : Int) (v2 : Int) (v3 : Int) (v4 : Int) (v5 : Int) (v6 : Int) (v7 : Int) (σ : Sg) : Option (Int × Sg) :=
  k53 v1 v2 v3 v4 v5 v6 (v7 + 1) σ
def f_X10_relief_b111 (k53 : Int → Int → Int → Int → Int → Int → Int → Sg → Option (Int × Sg)) (v1 : Int) (v2 : Int) (v3 : Int) (v4 : Int) (v7 : Int) (σ : Sg) : Option (Int × Sg) :=
  f_X10_relief_b121 k53 v1 v2 v3 v4 v7 (σ 41 36) v7 σ
def f_X10_relief_b127 (v2 : Int) (v5 : Int) (v6 : Int) (σ : Sg) : Option (Int × Sg) :=
  if w32 v2 = 0 then some ((v5, σ)) else some ((v6, σ))
def f_X10_relief_b53 : Nat → Int → Int → Int → Int → Int → Int → Int → Sg → Option (Int × Sg)
  | 0, _, _, _, _, _, _, _, _ => none
  | n + 1, v1, v2, v3, v4, v5, v6, v7, σ => if w32 v7 < 24 then (f_X10_has v3 v7 σ).bind fun q8 => if w32 q8 = 0 then f_X10_relief_b121 (f_X10_relief_b53 n) v1 v2 v3 v4 v5 v6 v7 σ else ck (0 ≤ v1 ∧ v1 < 6) <| (f_X10_weighs ((((u32 v4) &&& ((u32 (1 * ((2 ^ (u32 v7 % 32) : Nat) : Int))) ^^^ 4294967295) : Nat) : Int)) (σ 51 (v1).toNat) ((-1)) σ).bind fun q11 => if w32 v5 = (-2) then f_X10_relief_b111 (f_X10_relief_b53 n) v1 v2 v3 v4 v7 q11 else if w32 (q11 41 36) < w32 v6 then f_X10_relief_b111 (f_X10_relief_b53 n) v1 v2 v3 v4 v7 q11 else f_X10_relief_b121 (f_X10_relief_b53 n) v1 v2 v3 v4 v5 v6 v7 q11 else f_X10_relief_b127 v2 v5 v6 σ
def f_X10_relief (v1 : Int) (v2 : Int) (σ : Sg) : Option (Int × Sg) :=
  wr σ 41 0 0 fun σ1 => (f_X10_isTreaty v1 σ1).bind fun q2 => if w32 q2 = 0 then some (((-1), σ1)) else if w32 v2 < 0 then some (((-1), σ1)) else if w32 v2 ≤ 1 then (f_X10_worstOf v1 σ1).bind fun q4 => (f_X10_ofTreaty v1 q4.2).bind fun q6 => f_X10_relief_b53 FUEL v1 v2 (q4.2 41 37) q6 ((-2)) ((-2)) 0 q4.2 else some (((-1), σ1))
def f_X10_isPassedBy (v1 : Int) (v2 : Int) (σ : Sg) : Option (Int × Sg) :=
  ck (0 ≤ v1 ∧ v1 < 6) <| (f_X10_weighs v2 (σ 51 (v1).toNat) ((-1)) σ).bind fun q2 => ck (0 ≤ v1 ∧ v1 < 6) <| if w32 (q2 41 36) ≤ w32 (q2 52 (v1).toNat) then some ((0, q2)) else some ((1, q2))
def f_X10_greatestOf_b51 (σ : Sg) (k5 : Int → Int → Int → Int → Option (Int)) (v1 : Int) (v2 : Int) (v3 : Int) (v4 : Int) : Option (Int) :=
  k5 v1 v2 v3 (v4 + 1)
def f_X10_greatestOf_b48 (σ : Sg) (k5 : Int → Int → Int → Int → Option (Int)) (v1 : Int) (v2 : Int) (v4 : Int) : Option (Int) :=
  f_X10_greatestOf_b51 σ k5 v1 v2 v4 v4
def f_X10_greatestOf_b5 (σ : Sg) : Nat → Int → Int → Int → Int → Option (Int)
  | 0, _, _, _, _ => none
  | n + 1, v1, v2, v3, v4 => if w32 v4 < 24 then (f_X10_has v1 v4 σ).bind fun q1 => if w32 q1 = 0 then f_X10_greatestOf_b51 σ (f_X10_greatestOf_b5 σ n) v1 v2 v3 v4 else if w32 v4 = w32 v2 then f_X10_greatestOf_b51 σ (f_X10_greatestOf_b5 σ n) v1 v2 v3 v4 else if w32 v3 = (-1) then f_X10_greatestOf_b48 σ (f_X10_greatestOf_b5 σ n) v1 v2 v4 else ck (0 ≤ v4 ∧ v4 < 25) <| ck (0 ≤ v3 ∧ v3 < 25) <| if w32 (σ 47 (v4).toNat) ≤ w32 (σ 47 (v3).toNat) then f_X10_greatestOf_b51 σ (f_X10_greatestOf_b5 σ n) v1 v2 v3 v4 else f_X10_greatestOf_b48 σ (f_X10_greatestOf_b5 σ n) v1 v2 v4 else some v3
def f_X10_greatestOf (v1 : Int) (v2 : Int) (σ : Sg) : Option (Int) :=
  f_X10_greatestOf_b5 σ FUEL v1 v2 ((-1)) 0
def f_X10_isByOneMore_b54 (k20 : Int → Int → Int → Int → Sg → Option (Int × Sg)) (v1 : Int) (v2 : Int) (v3 : Int) (v4 : Int) (σ : Sg) : Option (Int × Sg) :=
  k20 v1 v2 v3 (v4 + 1) σ
def f_X10_isByOneMore_b20 : Nat → Int → Int → Int → Int → Sg → Option (Int × Sg)
  | 0, _, _, _, _, _ => none
  | n + 1, v1, v2, v3, v4, σ => if w32 v4 < 24 then (f_X10_has v3 v4 σ).bind fun q4 => if w32 q4 = 0 then f_X10_isByOneMore_b54 (f_X10_isByOneMore_b20 n) v1 v2 v3 v4 σ else (f_X10_isPassedBy v1 ((((u32 v2) &&& ((u32 (1 * ((2 ^ (u32 v4 % 32) : Nat) : Int))) ^^^ 4294967295) : Nat) : Int)) σ).bind fun q6 => if w32 q6.1 = 0 then some ((1, q6.2)) else f_X10_isByOneMore_b54 (f_X10_isByOneMore_b20 n) v1 v2 v3 v4 q6.2 else some ((0, σ))
def f_X10_isByOneMore (v1 : Int) (v2 : Int) (σ : Sg) : Option (Int × Sg) :=
  ck (0 ≤ v1 ∧ v1 < 6) <| (f_X10_weighs v2 (σ 51 (v1).toNat) ((-1)) σ).bind fun q2 => f_X10_isByOneMore_b20 FUEL v1 v2 (q2 41 37) 0 q2
def f_X10_fewest_b116 (k82 : Int → Int → Int → Int → Int → Int → Int → Sg → Option (Int × Sg)) (v1 : Int) (v2 : Int) (v3 : Int) (v4 : Int) (v5 : Int) (v6 : Int) (v7 : Int) (σ : Sg) : Option (Int × Sg) :=
  k82 v1 v2 v3 v4 v5 v6 (v7 + 1) σ
def f_X10_fewest_b195 (k161 : Int → Int → Int → Int → Sg → Option (Int × Sg)) (v1 : Int) (v2 : Int) (v3 : Int) (v7 : Int) (σ : Sg) : Option (Int × Sg) :=
  k161 v1 v2 v3 (v7 + 1) σ
def f_X10_fewest_b161 : Nat → Int → Int → Int → Int → Sg → Option (Int × Sg)
  | 0, _, _, _, _, _ => none
  | n + 1, v1, v2, v3, v7, σ => if w32 v7 < 24 then (f_X10_has v3 v7 σ).bind fun q20 => if w32 q20 = 0 then f_X10_fewest_b195 (f_X10_fewest_b161 n) v1 v2 v3 v7 σ else (f_X10_isByOneMore v1 ((((u32 v2) &&& ((u32 (1 * ((2 ^ (u32 v7 % 32) : Nat) : Int))) ^^^ 4294967295) : Nat) : Int)) σ).bind fun q22 => if w32 q22.1 = 0 then f_X10_fewest_b195 (f_X10_fewest_b161 n) v1 v2 v3 v7 q22.2 else some ((2, q22.2)) else some (((-2), σ))
def f_X10_fewest_b158 (v1 : Int) (v2 : Int) (v3 : Int) (σ : Sg) : Option (Int × Sg) :=
  f_X10_fewest_b161 FUEL v1 v2 v3 0 σ
def f_X10_fewest_b122 (v1 : Int) (v2 : Int) (v3 : Int) (v4 : Int) (v5 : Int) (v6 : Int) (σ : Sg) : Option (Int × Sg) :=
  if w32 v6 = (-1) then f_X10_fewest_b158 v1 v2 v3 σ else ck (0 ≤ v5 ∧ v5 < 25) <| ck (0 ≤ v6 ∧ v6 < 25) <| ck (0 ≤ v1 ∧ v1 < 6) <| if w32 ((v4 - (σ 47 (v5).toNat)) - (σ 47 (v6).toNat)) ≤ w32 (σ 52 (v1).toNat) then f_X10_fewest_b158 v1 v2 v3 σ else some (((-2), σ))
def f_X10_fewest_b82 : Nat → Int → Int → Int → Int → Int → Int → Int → Sg → Option (Int × Sg)
  | 0, _, _, _, _, _, _, _, _ => none
  | n + 1, v1, v2, v3, v4, v5, v6, v7, σ => if w32 v7 < 24 then (f_X10_has v3 v7 σ).bind fun q14 => if w32 q14 = 0 then f_X10_fewest_b116 (f_X10_fewest_b82 n) v1 v2 v3 v4 v5 v6 v7 σ else (f_X10_isPassedBy v1 ((((u32 v2) &&& ((u32 (1 * ((2 ^ (u32 v7 % 32) : Nat) : Int))) ^^^ 4294967295) : Nat) : Int)) σ).bind fun q16 => if w32 q16.1 = 0 then some ((1, q16.2)) else f_X10_fewest_b116 (f_X10_fewest_b82 n) v1 v2 v3 v4 v5 v6 v7 q16.2 else f_X10_fewest_b122 v1 v2 v3 v4 v5 v6 σ
def f_X10_fewest (v1 : Int) (σ : Sg) : Option (Int × Sg) :=
  wr σ 41 0 0 fun σ1 => (f_X10_isTreaty v1 σ1).bind fun q2 => if w32 q2 = 0 then some (((-1), σ1)) else (f_X10_ofTreaty v1 σ1).bind fun q4 => (f_X10_isPassedBy v1 q4 σ1).bind fun q6 => if w32 q6.1 = 0 then some ((0, q6.2)) else (f_X10_greatestOf (q6.2 41 37) ((-1)) q6.2).bind fun q8 => (f_X10_greatestOf (q6.2 41 37) q8 q6.2).bind fun q10 => ck (0 ≤ q8 ∧ q8 < 25) <| ck (0 ≤ v1 ∧ v1 < 6) <| if w32 ((q6.2 41 36) - (q6.2 47 (q8).toNat)) ≤ w32 (q6.2 52 (v1).toNat) then f_X10_fewest_b82 FUEL v1 q4 (q6.2 41 37) (q6.2 41 36) q8 q10 0 q6.2 else f_X10_fewest_b122 v1 q4 (q6.2 41 37) (q6.2 41 36) q8 q10 q6.2
def f_X10_nearest_b66 (k20 : Int → Int → Int → Sg → Option (Int × Sg)) (v1 : Int) (v2 : Int) (v3 : Int) (σ : Sg) : Option (Int × Sg) :=
  k20 v1 v2 (v3 + 1) σ
def f_X10_nearest_b64 (k20 : Int → Int → Int → Sg → Option (Int × Sg)) (v1 : Int) (v3 : Int) (σ : Sg) : Option (Int × Sg) :=
  f_X10_nearest_b66 k20 v1 v3 v3 σ
def f_X10_nearest_b20 : Nat → Int → Int → Int → Sg → Option (Int × Sg)
  | 0, _, _, _, _ => none
  | n + 1, v1, v2, v3, σ => if w32 v3 < 24 then ck (0 ≤ v3 ∧ v3 < 25) <| if w32 (σ 49 (v3).toNat) = 0 then f_X10_nearest_b66 (f_X10_nearest_b20 n) v1 v2 v3 σ else if w32 v3 = w32 v1 then f_X10_nearest_b66 (f_X10_nearest_b20 n) v1 v2 v3 σ else if w32 v2 = (-2) then f_X10_nearest_b64 (f_X10_nearest_b20 n) v1 v3 σ else (f_X10_distance v1 v3 σ).bind fun q5 => (f_X10_distance v1 v2 σ).bind fun q7 => if w32 q5 < w32 q7 then f_X10_nearest_b64 (f_X10_nearest_b20 n) v1 v3 σ else f_X10_nearest_b66 (f_X10_nearest_b20 n) v1 v2 v3 σ else some ((v2, σ))
def f_X10_nearest (v1 : Int) (σ : Sg) : Option (Int × Sg) :=
  wr σ 41 0 0 fun σ1 => (f_X10_isPolicy v1 σ1).bind fun q2 => if w32 q2 = 0 then some (((-1), σ1)) else f_X10_nearest_b20 FUEL v1 ((-2)) 0 σ1
def f_X10_couples_b78 (k22 : Int → Int → Int → Sg → Option (Int × Sg)) (k33 : Int → Int → Int → Int → Sg → Option (Int × Sg)) (v1 : Int) (v3 : Int) (v4 : Int) (w0 : Int) (w1 : Int) (σ : Sg) : Option (Int × Sg) :=
  k33 v1 (w1 + w0) v3 (v4 + 1) σ
def f_X10_couples_b77 (k22 : Int → Int → Int → Sg → Option (Int × Sg)) (k33 : Int → Int → Int → Int → Sg → Option (Int × Sg)) (v1 : Int) (v3 : Int) (v4 : Int) (w0 : Int) (σ : Sg) : Option (Int × Sg) :=
  f_X10_couples_b78 k22 k33 v1 v3 v4 0 w0 σ
def f_X10_couples_b86 (k22 : Int → Int → Int → Sg → Option (Int × Sg)) (v1 : Int) (v2 : Int) (v3 : Int) (σ : Sg) : Option (Int × Sg) :=
  k22 v1 v2 (v3 + 1) σ
def f_X10_couples_b33 (k22 : Int → Int → Int → Sg → Option (Int × Sg)) : Nat → Int → Int → Int → Int → Sg → Option (Int × Sg)
  | 0, _, _, _, _, _ => none
  | n + 1, v1, v2, v3, v4, σ => if w32 v4 < 24 then ck (0 ≤ v3 ∧ v3 < 25) <| if w32 (σ 49 (v3).toNat) = 0 then f_X10_couples_b77 k22 (f_X10_couples_b33 k22 n) v1 v3 v4 v2 σ else ck (0 ≤ v4 ∧ v4 < 25) <| if w32 (σ 49 (v4).toNat) = 0 then f_X10_couples_b77 k22 (f_X10_couples_b33 k22 n) v1 v3 v4 v2 σ else (f_X10_distance v3 v4 σ).bind fun q4 => if w32 q4 ≤ w32 (v1 * v1) then f_X10_couples_b78 k22 (f_X10_couples_b33 k22 n) v1 v3 v4 1 v2 σ else f_X10_couples_b77 k22 (f_X10_couples_b33 k22 n) v1 v3 v4 v2 σ else f_X10_couples_b86 k22 v1 v2 v3 σ
def f_X10_couples_b22 : Nat → Int → Int → Int → Sg → Option (Int × Sg)
  | 0, _, _, _, _ => none
  | n + 1, v1, v2, v3, σ => if w32 v3 < 24 then f_X10_couples_b33 (f_X10_couples_b22 n) FUEL v1 v2 v3 (v3 + 1) σ else some ((v2, σ))
def f_X10_couples (v1 : Int) (σ : Sg) : Option (Int × Sg) :=
  wr σ 41 0 0 fun σ1 => if w32 v1 < 0 then some (((-1), σ1)) else if w32 v1 ≤ 300 then f_X10_couples_b22 FUEL v1 0 0 σ1 else some (((-1), σ1))
def f_X10_onWay (v0 : Int) (v1 : Int) (v2 : Int) (v3 : Int) (σ : Sg) : Option (Int) :=
  ck (¬ w32 v3 = 0) <| if w32 (((w32 (v2 * (v1 - v0))).tdiv (w32 v3)) * v3) ≤ w32 (v2 * (v1 - v0)) then some (v0 + ((w32 (v2 * (v1 - v0))).tdiv (w32 v3))) else some (v0 + (((w32 (v2 * (v1 - v0))).tdiv (w32 v3)) - 1))
def f_X10_along_b167 (k82 : Int → Int → Int → Int → Int → Int → Int → Int → Int → Int → Int → Sg → Option (Int × Sg)) (v1 : Int) (v2 : Int) (v3 : Int) (v4 : Int) (v5 : Int) (v6 : Int) (v7 : Int) (v8 : Int) (v9 : Int) (v10 : Int) (v11 : Int) (σ : Sg) : Option (Int × Sg) :=
  k82 v1 v2 v3 v4 v5 v6 v7 v8 v9 v10 (v11 + 1) σ
def f_X10_along_b143 (k82 : Int → Int → Int → Int → Int → Int → Int → Int → Int → Int → Int → Sg → Option (Int × Sg)) (v1 : Int) (v2 : Int) (v3 : Int) (v4 : Int) (v5 : Int) (v6 : Int) (v7 : Int) (v8 : Int) (v10 : Int) (v11 : Int) (v12 : Int) (w0 : Int) (σ : Sg) : Option (Int × Sg) :=
  if w32 v10 = (-2) then ck (0 ≤ v1 ∧ v1 < 6) <| if w32 v12 ≤ w32 (σ 52 (v1).toNat) then f_X10_along_b167 k82 v1 v2 v3 v4 v5 v6 v7 v8 w0 v10 v11 σ else f_X10_along_b167 k82 v1 v2 v3 v4 v5 v6 v7 v8 w0 v11 v11 σ else f_X10_along_b167 k82 v1 v2 v3 v4 v5 v6 v7 v8 w0 v10 v11 σ
def f_X10_along_b173 (v2 : Int) (v6 : Int) (v7 : Int) (v8 : Int) (v9 : Int) (v10 : Int) (σ : Sg) : Option (Int × Sg) :=
  ck (0 ≤ v2 ∧ v2 < 25) <| wr σ 45 (v2).toNat v7 fun σ25 => ck (0 ≤ v2 ∧ v2 < 25) <| wr σ25 46 (v2).toNat v8 fun σ27 => if w32 v6 = 0 then some ((v9, σ27)) else some ((v10, σ27))
def f_X10_along_b82 : Nat → Int → Int → Int → Int → Int → Int → Int → Int → Int → Int → Int → Sg → Option (Int × Sg)
  | 0, _, _, _, _, _, _, _, _, _, _, _, _ => none
  | n + 1, v1, v2, v3, v4, v5, v6, v7, v8, v9, v10, v11, σ => if w32 v11 ≤ w32 v5 then (f_X10_onWay v7 v3 v11 v5 σ).bind fun q10 => ck (0 ≤ v2 ∧ v2 < 25) <| wr σ 45 (v2).toNat q10 fun σ13 => (f_X10_onWay v8 v4 v11 v5 σ13).bind fun q14 => ck (0 ≤ v2 ∧ v2 < 25) <| wr σ13 46 (v2).toNat q14 fun σ17 => (f_X10_worstOf v1 σ17).bind fun q18 => if w32 q18.1 ≤ w32 v9 then f_X10_along_b143 (f_X10_along_b82 n) v1 v2 v3 v4 v5 v6 v7 v8 v10 v11 q18.1 v9 q18.2 else f_X10_along_b143 (f_X10_along_b82 n) v1 v2 v3 v4 v5 v6 v7 v8 v10 v11 q18.1 q18.1 q18.2 else f_X10_along_b173 v2 v6 v7 v8 v9 v10 σ
def f_X10_along (v1 : Int) (v2 : Int) (v3 : Int) (v4 : Int) (v5 : Int) (v6 : Int) (σ : Sg) : Option (Int × Sg) :=
  wr σ 41 0 0 fun σ1 => (f_X10_isTreaty v1 σ1).bind fun q2 => if w32 q2 = 0 then some (((-1), σ1)) else (f_X10_isPolicy v2 σ1).bind fun q4 => if w32 q4 = 0 then some (((-1), σ1)) else (f_X10_isPlace v3 v4 σ1).bind fun q6 => if w32 q6 = 0 then some (((-1), σ1)) else if w32 v5 < 1 then some (((-1), σ1)) else if w32 v5 ≤ 20 then if w32 v6 < 0 then some (((-1), σ1)) else if w32 v6 ≤ 1 then ck (0 ≤ v2 ∧ v2 < 25) <| ck (0 ≤ v2 ∧ v2 < 25) <| f_X10_along_b82 FUEL v1 v2 v3 v4 v5 v6 (σ1 45 (v2).toNat) (σ1 46 (v2).toNat) ((-1)) ((-2)) 0 σ1 else some (((-1), σ1)) else some (((-1), σ1))
def f_X10_aboutPlace (v1 : Int) (v2 : Int) (v3 : Int) (σ : Sg) : Option (Int × Sg) :=
  (f_X10_puts 24 v1 v2 0 0 σ).bind fun q1 => (f_X10_ofPerils 15 q1).bind fun q3 => (f_X10_around 24 q3 v3 q1).bind fun q5 => some ((q5.1, q5.2))
def f_X10_hitAt (v1 : Int) (σ : Sg) : Option (Int × Sg) :=
  (f_X10_onWay (σ 55 1) (σ 55 3) v1 (σ 55 5) σ).bind fun q1 => (f_X10_onWay (σ 55 2) (σ 55 4) v1 (σ 55 5) σ).bind fun q3 => (f_X10_aboutPlace q1 q3 (σ 55 0) σ).bind fun q5 => some ((q5.1, q5.2))
def f_X10_allHit_b4 : Nat → Int → Int → Sg → Option (Int × Sg)
  | 0, _, _, _ => none
  | n + 1, v1, v2, σ => if w32 v2 ≤ w32 (σ 55 5) then (f_X10_hitAt v2 σ).bind fun q1 => (f_X10_allHit_b4 n) ((((u32 v1) ||| (u32 q1.1) : Nat) : Int)) (v2 + 1) q1.2 else some ((v1, σ))
def f_X10_allHit (σ : Sg) : Option (Int × Sg) :=
  f_X10_allHit_b4 FUEL 0 0 σ
def f_X10_storm (v1 : Int) (v2 : Int) (v3 : Int) (v4 : Int) (v5 : Int) (v6 : Int) (σ : Sg) : Option (Int × Sg) :=
  wr σ 41 0 0 fun σ1 => if w32 v1 < 0 then some (((-1), σ1)) else if w32 v1 ≤ 300 then (f_X10_isPlace v2 v3 σ1).bind fun q2 => if w32 q2 = 0 then some (((-1), σ1)) else (f_X10_isPlace v4 v5 σ1).bind fun q4 => if w32 q4 = 0 then some (((-1), σ1)) else if w32 v6 < 1 then some (((-1), σ1)) else if w32 v6 ≤ 100 then wr σ1 55 0 v1 fun σ6 => wr σ6 55 1 v2 fun σ7 => wr σ7 55 2 v3 fun σ8 => wr σ8 55 3 v4 fun σ9 => wr σ9 55 4 v5 fun σ10 => wr σ10 55 5 v6 fun σ11 => wr σ11 41 30 1 fun σ12 => (f_X10_allHit σ12).bind fun q13 => (f_X10_bits q13.1 q13.2).bind fun q15 => some ((q15, q13.2)) else some (((-1), σ1)) else some (((-1), σ1))
def f_X10_hit_b94 (k56 : Int → Int → Int → Int → Sg → Option (Int × Sg)) (v1 : Int) (v2 : Int) (v3 : Int) (v4 : Int) (σ : Sg) : Option (Int × Sg) :=
  k56 v1 v2 v3 (v4 + 1) σ
def f_X10_hit_b100 (v1 : Int) (v2 : Int) (v3 : Int) (σ : Sg) : Option (Int × Sg) :=
  if w32 v1 = 2 then some ((v2, σ)) else some ((v3, σ))
def f_X10_hit_b56 : Nat → Int → Int → Int → Int → Sg → Option (Int × Sg)
  | 0, _, _, _, _, _ => none
  | n + 1, v1, v2, v3, v4, σ => if w32 v4 ≤ w32 (σ 55 5) then (f_X10_hitAt v4 σ).bind fun q8 => (f_X10_sumOf q8.1 q8.2).bind fun q10 => if w32 q10 ≤ w32 v3 then f_X10_hit_b94 (f_X10_hit_b56 n) v1 v2 v3 v4 q8.2 else f_X10_hit_b94 (f_X10_hit_b56 n) v1 v4 q10 v4 q8.2 else f_X10_hit_b100 v1 v2 v3 σ
def f_X10_hit (v1 : Int) (σ : Sg) : Option (Int × Sg) :=
  wr σ 41 0 0 fun σ1 => if w32 v1 < 0 then some (((-1), σ1)) else if w32 v1 ≤ 3 then if w32 (σ1 41 30) = 0 then some (((-2), σ1)) else if w32 v1 = 0 then (f_X10_allHit σ1).bind fun q2 => some ((q2.1, q2.2)) else if w32 v1 = 1 then (f_X10_allHit σ1).bind fun q4 => (f_X10_sumOf q4.1 q4.2).bind fun q6 => some ((q6, q4.2)) else f_X10_hit_b56 FUEL v1 0 ((-1)) 0 σ1 else some (((-1), σ1))
def f_X10_pays (v1 : Int) (σ : Sg) : Option (Int × Sg) :=
  wr σ 41 0 0 fun σ1 => (f_X10_isTreaty v1 σ1).bind fun q2 => if w32 q2 = 0 then some (((-1), σ1)) else if w32 (σ1 41 30) = 0 then some (((-2), σ1)) else (f_X10_allHit σ1).bind fun q4 => (f_X10_ofTreaty v1 q4.2).bind fun q6 => (f_X10_sumOf ((((u32 q4.1) &&& (u32 q6) : Nat) : Int)) q4.2).bind fun q8 => ck (0 ≤ v1 ∧ v1 < 6) <| if w32 (q8 - (q4.2 52 (v1).toNat)) < 0 then some ((0, q4.2)) else some ((q8 - (q4.2 52 (v1).toNat), q4.2))
def f_X10_draws (v1 : Int) (σ : Sg) : Option (Int × Sg) :=
  ck (¬ w64 2147483648 = 0) <| wr σ 41 41 ((w64 (((σ 41 41) * 1103515245) + 12345)).tmod (w64 2147483648)) fun σ2 => ck (¬ w64 65536 = 0) <| ck (¬ w64 (w32 v1) = 0) <| some (((w64 ((w64 (σ2 41 41)).tdiv (w64 65536))).tmod (w64 (w32 v1)), σ2))
def f_X10_drawn_b158 (k62 : Int → Int → Int → Int → Int → Int → Int → Int → Sg → Option (Int × Sg)) (v1 : Int) (v3 : Int) (v4 : Int) (v5 : Int) (v6 : Int) (v7 : Int) (v8 : Int) (v9 : Int) (σ : Sg) : Option (Int × Sg) :=
  k62 v1 v3 v4 v5 v6 v7 v8 (v9 + 1) σ
def f_X10_drawn_b130 (k62 : Int → Int → Int → Int → Int → Int → Int → Int → Sg → Option (Int × Sg)) (v1 : Int) (v3 : Int) (v4 : Int) (v5 : Int) (v6 : Int) (v8 : Int) (v9 : Int) (v12 : Int) (w0 : Int) (w1 : Int) (σ : Sg) : Option (Int × Sg) :=
  if w32 v12 ≤ w32 v6 then f_X10_drawn_b158 k62 v1 v3 v4 v5 v6 (w1 + w0) (v8 + v12) v9 σ else f_X10_drawn_b158 k62 v1 v3 v4 v9 v12 (w1 + w0) (v8 + v12) v9 σ
def f_X10_drawn_b164 (v4 : Int) (v5 : Int) (v6 : Int) (v7 : Int) (v8 : Int) (σ : Sg) : Option (Int × Sg) :=
  if w32 v4 = 0 then some ((v6, σ)) else if w32 v4 = 1 then some ((v5, σ)) else if w32 v4 = 2 then some ((v7, σ)) else some ((v8, σ))
def f_X10_drawn_b62 : Nat → Int → Int → Int → Int → Int → Int → Int → Int → Sg → Option (Int × Sg)
  | 0, _, _, _, _, _, _, _, _, _ => none
  | n + 1, v1, v3, v4, v5, v6, v7, v8, v9, σ => if w32 v9 < w32 v3 then (f_X10_draws 300 σ).bind fun q5 => (f_X10_draws 300 q5.2).bind fun q7 => ck (0 ≤ v1 ∧ v1 < 6) <| (f_X10_aboutPlace q5.1 q7.1 (q7.2 51 (v1).toNat) q7.2).bind fun q10 => (f_X10_ofTreaty v1 q10.2).bind fun q12 => (f_X10_sumOf ((((u32 q10.1) &&& (u32 q12) : Nat) : Int)) q10.2).bind fun q14 => ck (0 ≤ v1 ∧ v1 < 6) <| if w32 q14 ≤ w32 (q10.2 52 (v1).toNat) then f_X10_drawn_b130 (f_X10_drawn_b62 n) v1 v3 v4 v5 v6 v8 v9 q14 0 v7 q10.2 else f_X10_drawn_b130 (f_X10_drawn_b62 n) v1 v3 v4 v5 v6 v8 v9 q14 1 v7 q10.2 else f_X10_drawn_b164 v4 v5 v6 v7 v8 σ
def f_X10_drawn (v1 : Int) (v2 : Int) (v3 : Int) (v4 : Int) (σ : Sg) : Option (Int × Sg) :=
  wr σ 41 0 0 fun σ1 => (f_X10_isTreaty v1 σ1).bind fun q2 => if w32 q2 = 0 then some (((-1), σ1)) else if w32 v2 < 0 then some (((-1), σ1)) else if w32 v3 < 1 then some (((-1), σ1)) else if w32 v3 ≤ 100 then if w32 v4 < 0 then some (((-1), σ1)) else if w32 v4 ≤ 3 then wr σ1 41 41 (w32 v2) fun σ4 => f_X10_drawn_b62 FUEL v1 v3 v4 0 ((-1)) 0 0 0 σ4 else some (((-1), σ1)) else some (((-1), σ1))
def f_X10_unlikePlaces_b72 (σ : Sg) (k4 : Int → Int → Option (Int)) (v2 : Int) (w0 : Int) (w1 : Int) : Option (Int) :=
  k4 (w1 + w0) (v2 + 1)
def f_X10_unlikePlaces_b62 (σ : Sg) (k4 : Int → Int → Option (Int)) (v1 : Int) (v2 : Int) (v3 : Int) : Option (Int) :=
  if w32 v3 = 0 then f_X10_unlikePlaces_b72 σ k4 v2 0 v1 else f_X10_unlikePlaces_b72 σ k4 v2 1 v1
def f_X10_unlikePlaces_b55 (σ : Sg) (k4 : Int → Int → Option (Int)) (k20 : Int → Int → Int → Int → Option (Int)) (v1 : Int) (v2 : Int) (v4 : Int) (w0 : Int) : Option (Int) :=
  k20 v1 v2 w0 (v4 + 1)
def f_X10_unlikePlaces_b50 (σ : Sg) (k4 : Int → Int → Option (Int)) (k20 : Int → Int → Int → Int → Option (Int)) (v1 : Int) (v2 : Int) (v4 : Int) : Option (Int) :=
  f_X10_unlikePlaces_b55 σ k4 k20 v1 v2 v4 1
def f_X10_unlikePlaces_b20 (σ : Sg) (k4 : Int → Int → Option (Int)) : Nat → Int → Int → Int → Int → Option (Int)
  | 0, _, _, _, _ => none
  | n + 1, v1, v2, v3, v4 => if w32 v4 < w32 v2 then if w32 v3 = 0 then f_X10_unlikePlaces_b62 σ k4 v1 v2 v3 else ck (0 ≤ v4 ∧ v4 < 25) <| if w32 (σ 49 (v4).toNat) = 0 then f_X10_unlikePlaces_b50 σ k4 (f_X10_unlikePlaces_b20 σ k4 n) v1 v2 v4 else (f_X10_distance v2 v4 σ).bind fun q4 => if w32 q4 ≤ 0 then f_X10_unlikePlaces_b55 σ k4 (f_X10_unlikePlaces_b20 σ k4 n) v1 v2 v4 0 else f_X10_unlikePlaces_b50 σ k4 (f_X10_unlikePlaces_b20 σ k4 n) v1 v2 v4 else f_X10_unlikePlaces_b62 σ k4 v1 v2 v3
def f_X10_unlikePlaces_b4 (σ : Sg) : Nat → Int → Int → Option (Int)
  | 0, _, _ => none
  | n + 1, v1, v2 => if w32 v2 < 24 then ck (0 ≤ v2 ∧ v2 < 25) <| f_X10_unlikePlaces_b20 σ (f_X10_unlikePlaces_b4 σ n) FUEL v1 v2 (σ 49 (v2).toNat) 0 else some v1
def f_X10_unlikePlaces (σ : Sg) : Option (Int) :=
  f_X10_unlikePlaces_b4 σ FUEL 0 0
def f_X10_passedOnes_b26 (k4 : Int → Int → Sg → Option (Int × Sg)) (v2 : Int) (w0 : Int) (w1 : Int) (σ : Sg) : Option (Int × Sg) :=
  k4 (w1 + w0) (v2 + 1) σ
def f_X10_passedOnes_b4 : Nat → Int → Int → Sg → Option (Int × Sg)
  | 0, _, _, _ => none
  | n + 1, v1, v2, σ => if w32 v2 < w32 (σ 41 27) then (f_X10_isPassed v2 σ).bind fun q1 => if w32 q1.1 = 0 then f_X10_passedOnes_b26 (f_X10_passedOnes_b4 n) v2 0 v1 q1.2 else f_X10_passedOnes_b26 (f_X10_passedOnes_b4 n) v2 1 v1 q1.2 else some ((v1, σ))
def f_X10_passedOnes (σ : Sg) : Option (Int × Sg) :=
  f_X10_passedOnes_b4 FUEL 0 0 σ
def f_X10_count (v1 : Int) (σ : Sg) : Option (Int × Sg) :=
  wr σ 41 0 0 fun σ1 => if w32 v1 = 0 then (f_X10_ofPerils 15 σ1).bind fun q2 => (f_X10_bits q2 σ1).bind fun q4 => some ((q4, σ1)) else if w32 v1 = 1 then some ((σ1 41 27, σ1)) else if w32 v1 = 2 then (f_X10_ofPerils 15 σ1).bind fun q6 => (f_X10_sumOf q6 σ1).bind fun q8 => some ((q8, σ1)) else if w32 v1 = 3 then (f_X10_passedOnes σ1).bind fun q10 => some ((q10.1, q10.2)) else if w32 v1 = 4 then some ((σ1 41 28, σ1)) else if w32 v1 = 5 then (f_X10_unlikePlaces σ1).bind fun q12 => some ((q12, σ1)) else if w32 v1 = 6 then some ((σ1 41 2, σ1)) else some (((-1), σ1))
