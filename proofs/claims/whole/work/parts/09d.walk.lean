section WK
variable {p : Program} {l : Launch} {e : Env} {s : State} {m : MethodId} {args : Array Value} {below : List Frame} {meth : Method} {c : Code} {Q : State → Prop} {G : Gd} {τ σ : Sg}
set_option maxRecDepth 100000 in
set_option maxHeartbeats 4000000 in
theorem b_X9_square_b195 (C : Cx p s m args c RX9 cX9_square 14) {q : Int} {k53 : Int → Int → Int → Int → Int → Int → Int → Option (Int)} {k63 : Int → Int → Int → Int → Int → Int → Int → Int → Option (Int)} (hend : EndR p l e (rmk 2 48) s m args below meth c Q G true τ cX9_square .ireturn [.int (oI q)] σ) (hk53 : ∀ {H : Heap} {locs : List Loc} {ls : Array Slot} (v2 : Int) (v3 : Int) (v4 : Int) (v5 : Int) (v6 : Int) (v7 : Int) (v8 : Int), St G true τ σ s H locs → lv_has ls 14 [(0, .ref (G.1 0)), (2, .int (oI v2)), (3, .int (oI v3)), (4, .int (oI v4)), (5, .int (oI v5)), (6, .int (oI v6)), (7, .int (oI v7)), (8, .int (oI v8))] → k53 v2 v3 v4 v5 v6 v7 v8 = some q → W p l e (rmk 2 48) s m args below meth c H locs 0 0 Q (F0 m 53 ls [])) (hk63 : ∀ {H : Heap} {locs : List Loc} {ls : Array Slot} (v2 : Int) (v3 : Int) (v4 : Int) (v5 : Int) (v6 : Int) (v7 : Int) (v8 : Int) (v9 : Int), St G true τ σ s H locs → lv_has ls 14 [(0, .ref (G.1 0)), (2, .int (oI v2)), (3, .int (oI v3)), (4, .int (oI v4)), (5, .int (oI v5)), (6, .int (oI v6)), (7, .int (oI v7)), (8, .int (oI v8)), (9, .int (oI v9))] → k63 v2 v3 v4 v5 v6 v7 v8 v9 = some q → W p l e (rmk 2 48) s m args below meth c H locs 0 0 Q (F0 m 63 ls [])) {H : Heap} {locs : List Loc} {ls : Array Slot} (v2 : Int) (v3 : Int) (v4 : Int) (v5 : Int) (v6 : Int) (v7 : Int) (v8 : Int) (v9 : Int) (S : St G true τ σ s H locs) (hl : lv_has ls 14 [(0, .ref (G.1 0)), (2, .int (oI v2)), (3, .int (oI v3)), (4, .int (oI v4)), (5, .int (oI v5)), (6, .int (oI v6)), (7, .int (oI v7)), (8, .int (oI v8)), (9, .int (oI v9))]) (hf : f_X9_square_b195 σ k53 k63 v2 v3 v4 v5 v6 v7 v8 v9 = some q) : W p l e (rmk 2 48) s m args below meth c H locs 0 0 Q (F0 m 195 ls []) := by
  unfold f_X9_square_b195 at hf
  refine r_iinc C dX9_square_195 hl (k := 8) rfl (by decide) (lv' := [(9, .int (oI (v9 + 1))), (0, .ref (G.1 0)), (2, .int (oI v2)), (3, .int (oI v3)), (4, .int (oI v4)), (5, .int (oI v5)), (6, .int (oI v6)), (7, .int (oI v7)), (8, .int (oI v8))]) rfl (fun ls hl => ?_)
  refine lv_goto C.1 C.2.1 (tgt := 63) dX9_square_198 (by decide) ?_
  exact hk63 v2 v3 v4 v5 v6 v7 v8 (v9 + 1) S (lv_sub hl [1, 2, 3, 4, 5, 6, 7, 8, 0] rfl) hf
set_option maxRecDepth 100000 in
set_option maxHeartbeats 4000000 in
theorem b_X9_square_b183 (C : Cx p s m args c RX9 cX9_square 14) {q : Int} {k53 : Int → Int → Int → Int → Int → Int → Int → Option (Int)} {k63 : Int → Int → Int → Int → Int → Int → Int → Int → Option (Int)} (hend : EndR p l e (rmk 2 48) s m args below meth c Q G true τ cX9_square .ireturn [.int (oI q)] σ) (hk53 : ∀ {H : Heap} {locs : List Loc} {ls : Array Slot} (v2 : Int) (v3 : Int) (v4 : Int) (v5 : Int) (v6 : Int) (v7 : Int) (v8 : Int), St G true τ σ s H locs → lv_has ls 14 [(0, .ref (G.1 0)), (2, .int (oI v2)), (3, .int (oI v3)), (4, .int (oI v4)), (5, .int (oI v5)), (6, .int (oI v6)), (7, .int (oI v7)), (8, .int (oI v8))] → k53 v2 v3 v4 v5 v6 v7 v8 = some q → W p l e (rmk 2 48) s m args below meth c H locs 0 0 Q (F0 m 53 ls [])) (hk63 : ∀ {H : Heap} {locs : List Loc} {ls : Array Slot} (v2 : Int) (v3 : Int) (v4 : Int) (v5 : Int) (v6 : Int) (v7 : Int) (v8 : Int) (v9 : Int), St G true τ σ s H locs → lv_has ls 14 [(0, .ref (G.1 0)), (2, .int (oI v2)), (3, .int (oI v3)), (4, .int (oI v4)), (5, .int (oI v5)), (6, .int (oI v6)), (7, .int (oI v7)), (8, .int (oI v8)), (9, .int (oI v9))] → k63 v2 v3 v4 v5 v6 v7 v8 v9 = some q → W p l e (rmk 2 48) s m args below meth c H locs 0 0 Q (F0 m 63 ls [])) {H : Heap} {locs : List Loc} {ls : Array Slot} (v2 : Int) (v3 : Int) (v4 : Int) (v8 : Int) (v9 : Int) (v10 : Int) (v11 : Int) (v12 : Int) (S : St G true τ σ s H locs) (hl : lv_has ls 14 [(0, .ref (G.1 0)), (2, .int (oI v2)), (3, .int (oI v3)), (4, .int (oI v4)), (8, .int (oI v8)), (9, .int (oI v9)), (10, .int (oI v10)), (11, .int (oI v11)), (12, .int (oI v12))]) (hf : f_X9_square_b183 σ k53 k63 v2 v3 v4 v8 v9 v10 v11 v12 = some q) : W p l e (rmk 2 48) s m args below meth c H locs 0 0 Q (F0 m 183 ls []) := by
  unfold f_X9_square_b183 at hf
  refine lv_iload C.1 C.2.1 dX9_square_183 (lv_at hl 8 rfl) ?_
  refine lv_istore C.1 C.2.1 dX9_square_185 hl (by decide) (lv' := [(5, .int (oI v12)), (0, .ref (G.1 0)), (2, .int (oI v2)), (3, .int (oI v3)), (4, .int (oI v4)), (8, .int (oI v8)), (9, .int (oI v9)), (10, .int (oI v10)), (11, .int (oI v11)), (12, .int (oI v12))]) rfl (fun ls hl => ?_)
  refine lv_iload C.1 C.2.1 dX9_square_187 (lv_at hl 7 rfl) ?_
  refine lv_istore C.1 C.2.1 dX9_square_189 hl (by decide) (lv' := [(6, .int (oI v10)), (5, .int (oI v12)), (0, .ref (G.1 0)), (2, .int (oI v2)), (3, .int (oI v3)), (4, .int (oI v4)), (8, .int (oI v8)), (9, .int (oI v9)), (10, .int (oI v10)), (11, .int (oI v11)), (12, .int (oI v12))]) rfl (fun ls hl => ?_)
  refine lv_iload C.1 C.2.1 dX9_square_191 (lv_at hl 9 rfl) ?_
  refine lv_istore C.1 C.2.1 dX9_square_193 hl (by decide) (lv' := [(7, .int (oI v11)), (6, .int (oI v10)), (5, .int (oI v12)), (0, .ref (G.1 0)), (2, .int (oI v2)), (3, .int (oI v3)), (4, .int (oI v4)), (8, .int (oI v8)), (9, .int (oI v9)), (10, .int (oI v10)), (11, .int (oI v11)), (12, .int (oI v12))]) rfl (fun ls hl => ?_)
  exact b_X9_square_b195 C hend hk53 hk63 v2 v3 v4 v12 v10 v11 v8 v9 S (lv_sub hl [3, 4, 5, 6, 2, 1, 0, 7, 8] rfl) hf
set_option maxRecDepth 100000 in
set_option maxHeartbeats 4000000 in
theorem b_X9_square_b162 (C : Cx p s m args c RX9 cX9_square 14) {q : Int} {k53 : Int → Int → Int → Int → Int → Int → Int → Option (Int)} {k63 : Int → Int → Int → Int → Int → Int → Int → Int → Option (Int)} (hend : EndR p l e (rmk 2 48) s m args below meth c Q G true τ cX9_square .ireturn [.int (oI q)] σ) (hk53 : ∀ {H : Heap} {locs : List Loc} {ls : Array Slot} (v2 : Int) (v3 : Int) (v4 : Int) (v5 : Int) (v6 : Int) (v7 : Int) (v8 : Int), St G true τ σ s H locs → lv_has ls 14 [(0, .ref (G.1 0)), (2, .int (oI v2)), (3, .int (oI v3)), (4, .int (oI v4)), (5, .int (oI v5)), (6, .int (oI v6)), (7, .int (oI v7)), (8, .int (oI v8))] → k53 v2 v3 v4 v5 v6 v7 v8 = some q → W p l e (rmk 2 48) s m args below meth c H locs 0 0 Q (F0 m 53 ls [])) (hk63 : ∀ {H : Heap} {locs : List Loc} {ls : Array Slot} (v2 : Int) (v3 : Int) (v4 : Int) (v5 : Int) (v6 : Int) (v7 : Int) (v8 : Int) (v9 : Int), St G true τ σ s H locs → lv_has ls 14 [(0, .ref (G.1 0)), (2, .int (oI v2)), (3, .int (oI v3)), (4, .int (oI v4)), (5, .int (oI v5)), (6, .int (oI v6)), (7, .int (oI v7)), (8, .int (oI v8)), (9, .int (oI v9))] → k63 v2 v3 v4 v5 v6 v7 v8 v9 = some q → W p l e (rmk 2 48) s m args below meth c H locs 0 0 Q (F0 m 63 ls [])) {H : Heap} {locs : List Loc} {ls : Array Slot} (v2 : Int) (v3 : Int) (v4 : Int) (v5 : Int) (v6 : Int) (v7 : Int) (v8 : Int) (v9 : Int) (v10 : Int) (v11 : Int) (v12 : Int) (w0 : Int) (S : St G true τ σ s H locs) (hl : lv_has ls 14 [(0, .ref (G.1 0)), (2, .int (oI v2)), (3, .int (oI v3)), (4, .int (oI v4)), (5, .int (oI v5)), (6, .int (oI v6)), (7, .int (oI v7)), (8, .int (oI v8)), (9, .int (oI v9)), (10, .int (oI v10)), (11, .int (oI v11)), (12, .int (oI v12))]) (hf : f_X9_square_b162 σ k53 k63 v2 v3 v4 v5 v6 v7 v8 v9 v10 v11 v12 w0 = some q) : W p l e (rmk 2 48) s m args below meth c H locs 0 0 Q (F0 m 162 ls [.int (oI w0)]) := by
  unfold f_X9_square_b162 at hf
  refine lv_istore C.1 C.2.1 dX9_square_162 hl (by decide) (lv' := [(13, .int (oI w0)), (0, .ref (G.1 0)), (2, .int (oI v2)), (3, .int (oI v3)), (4, .int (oI v4)), (5, .int (oI v5)), (6, .int (oI v6)), (7, .int (oI v7)), (8, .int (oI v8)), (9, .int (oI v9)), (10, .int (oI v10)), (11, .int (oI v11)), (12, .int (oI v12))]) rfl (fun ls hl => ?_)
  refine lv_iload C.1 C.2.1 dX9_square_164 (lv_at hl 12 rfl) ?_
  refine lv_iload C.1 C.2.1 dX9_square_166 (lv_at hl 5 rfl) ?_
  refine r_icmp_gt C rfl rfl (tgt := 183) dX9_square_168 (by decide) (fun h19 => ?_) (fun h19 => ?_)
  · replace hf := if_t hf h19
    refine lv_iload C.1 C.2.1 dX9_square_171 (lv_at hl 12 rfl) ?_
    refine lv_iload C.1 C.2.1 dX9_square_173 (lv_at hl 5 rfl) ?_
    refine r_icmp_ne C rfl rfl (tgt := 195) dX9_square_175 (by decide) (fun h18 => ?_) (fun h18 => ?_)
    · replace hf := if_t hf h18
      refine lv_iload C.1 C.2.1 dX9_square_178 (lv_at hl 0 rfl) ?_
      refine r_if_eq C rfl (tgt := 195) dX9_square_180 (by decide) (fun h17 => ?_) (fun h17 => ?_)
      · replace hf := if_t hf h17
        exact b_X9_square_b195 C hend hk53 hk63 v2 v3 v4 v5 v6 v7 v8 v9 S (lv_sub hl [1, 2, 3, 4, 5, 6, 7, 8, 9] rfl) hf
      · replace hf := if_f hf h17
        exact b_X9_square_b183 C hend hk53 hk63 v2 v3 v4 v8 v9 v10 v11 v12 S (lv_sub hl [1, 2, 3, 4, 8, 9, 10, 11, 12] rfl) hf
    · replace hf := if_f hf h18
      exact b_X9_square_b195 C hend hk53 hk63 v2 v3 v4 v5 v6 v7 v8 v9 S (lv_sub hl [1, 2, 3, 4, 5, 6, 7, 8, 9] rfl) hf
  · replace hf := if_f hf h19
    exact b_X9_square_b183 C hend hk53 hk63 v2 v3 v4 v8 v9 v10 v11 v12 S (lv_sub hl [1, 2, 3, 4, 8, 9, 10, 11, 12] rfl) hf
set_option maxRecDepth 100000 in
set_option maxHeartbeats 4000000 in
theorem b_X9_square_b157 (C : Cx p s m args c RX9 cX9_square 14) {q : Int} {k53 : Int → Int → Int → Int → Int → Int → Int → Option (Int)} {k63 : Int → Int → Int → Int → Int → Int → Int → Int → Option (Int)} (hend : EndR p l e (rmk 2 48) s m args below meth c Q G true τ cX9_square .ireturn [.int (oI q)] σ) (hk53 : ∀ {H : Heap} {locs : List Loc} {ls : Array Slot} (v2 : Int) (v3 : Int) (v4 : Int) (v5 : Int) (v6 : Int) (v7 : Int) (v8 : Int), St G true τ σ s H locs → lv_has ls 14 [(0, .ref (G.1 0)), (2, .int (oI v2)), (3, .int (oI v3)), (4, .int (oI v4)), (5, .int (oI v5)), (6, .int (oI v6)), (7, .int (oI v7)), (8, .int (oI v8))] → k53 v2 v3 v4 v5 v6 v7 v8 = some q → W p l e (rmk 2 48) s m args below meth c H locs 0 0 Q (F0 m 53 ls [])) (hk63 : ∀ {H : Heap} {locs : List Loc} {ls : Array Slot} (v2 : Int) (v3 : Int) (v4 : Int) (v5 : Int) (v6 : Int) (v7 : Int) (v8 : Int) (v9 : Int), St G true τ σ s H locs → lv_has ls 14 [(0, .ref (G.1 0)), (2, .int (oI v2)), (3, .int (oI v3)), (4, .int (oI v4)), (5, .int (oI v5)), (6, .int (oI v6)), (7, .int (oI v7)), (8, .int (oI v8)), (9, .int (oI v9))] → k63 v2 v3 v4 v5 v6 v7 v8 v9 = some q → W p l e (rmk 2 48) s m args below meth c H locs 0 0 Q (F0 m 63 ls [])) {H : Heap} {locs : List Loc} {ls : Array Slot} (v2 : Int) (v3 : Int) (v4 : Int) (v5 : Int) (v6 : Int) (v7 : Int) (v8 : Int) (v9 : Int) (v10 : Int) (v11 : Int) (v12 : Int) (S : St G true τ σ s H locs) (hl : lv_has ls 14 [(0, .ref (G.1 0)), (2, .int (oI v2)), (3, .int (oI v3)), (4, .int (oI v4)), (5, .int (oI v5)), (6, .int (oI v6)), (7, .int (oI v7)), (8, .int (oI v8)), (9, .int (oI v9)), (10, .int (oI v10)), (11, .int (oI v11)), (12, .int (oI v12))]) (hf : f_X9_square_b157 σ k53 k63 v2 v3 v4 v5 v6 v7 v8 v9 v10 v11 v12 = some q) : W p l e (rmk 2 48) s m args below meth c H locs 0 0 Q (F0 m 157 ls []) := by
  unfold f_X9_square_b157 at hf
  refine r_iconst C dX9_square_157 ?_
  refine lv_goto C.1 C.2.1 (tgt := 162) dX9_square_158 (by decide) ?_
  exact b_X9_square_b162 C hend hk53 hk63 v2 v3 v4 v5 v6 v7 v8 v9 v10 v11 v12 1 S (lv_sub hl [0, 1, 2, 3, 4, 5, 6, 7, 8, 9, 10, 11] rfl) hf
set_option maxRecDepth 100000 in
set_option maxHeartbeats 4000000 in
theorem b_X9_square_b161 (C : Cx p s m args c RX9 cX9_square 14) {q : Int} {k53 : Int → Int → Int → Int → Int → Int → Int → Option (Int)} {k63 : Int → Int → Int → Int → Int → Int → Int → Int → Option (Int)} (hend : EndR p l e (rmk 2 48) s m args below meth c Q G true τ cX9_square .ireturn [.int (oI q)] σ) (hk53 : ∀ {H : Heap} {locs : List Loc} {ls : Array Slot} (v2 : Int) (v3 : Int) (v4 : Int) (v5 : Int) (v6 : Int) (v7 : Int) (v8 : Int), St G true τ σ s H locs → lv_has ls 14 [(0, .ref (G.1 0)), (2, .int (oI v2)), (3, .int (oI v3)), (4, .int (oI v4)), (5, .int (oI v5)), (6, .int (oI v6)), (7, .int (oI v7)), (8, .int (oI v8))] → k53 v2 v3 v4 v5 v6 v7 v8 = some q → W p l e (rmk 2 48) s m args below meth c H locs 0 0 Q (F0 m 53 ls [])) (hk63 : ∀ {H : Heap} {locs : List Loc} {ls : Array Slot} (v2 : Int) (v3 : Int) (v4 : Int) (v5 : Int) (v6 : Int) (v7 : Int) (v8 : Int) (v9 : Int), St G true τ σ s H locs → lv_has ls 14 [(0, .ref (G.1 0)), (2, .int (oI v2)), (3, .int (oI v3)), (4, .int (oI v4)), (5, .int (oI v5)), (6, .int (oI v6)), (7, .int (oI v7)), (8, .int (oI v8)), (9, .int (oI v9))] → k63 v2 v3 v4 v5 v6 v7 v8 v9 = some q → W p l e (rmk 2 48) s m args below meth c H locs 0 0 Q (F0 m 63 ls [])) {H : Heap} {locs : List Loc} {ls : Array Slot} (v2 : Int) (v3 : Int) (v4 : Int) (v5 : Int) (v6 : Int) (v7 : Int) (v8 : Int) (v9 : Int) (v10 : Int) (v11 : Int) (v12 : Int) (S : St G true τ σ s H locs) (hl : lv_has ls 14 [(0, .ref (G.1 0)), (2, .int (oI v2)), (3, .int (oI v3)), (4, .int (oI v4)), (5, .int (oI v5)), (6, .int (oI v6)), (7, .int (oI v7)), (8, .int (oI v8)), (9, .int (oI v9)), (10, .int (oI v10)), (11, .int (oI v11)), (12, .int (oI v12))]) (hf : f_X9_square_b161 σ k53 k63 v2 v3 v4 v5 v6 v7 v8 v9 v10 v11 v12 = some q) : W p l e (rmk 2 48) s m args below meth c H locs 0 0 Q (F0 m 161 ls []) := by
  unfold f_X9_square_b161 at hf
  refine r_iconst C dX9_square_161 ?_
  exact b_X9_square_b162 C hend hk53 hk63 v2 v3 v4 v5 v6 v7 v8 v9 v10 v11 v12 0 S (lv_sub hl [0, 1, 2, 3, 4, 5, 6, 7, 8, 9, 10, 11] rfl) hf
set_option maxRecDepth 100000 in
set_option maxHeartbeats 4000000 in
theorem b_X9_square_b201 (C : Cx p s m args c RX9 cX9_square 14) {q : Int} {k53 : Int → Int → Int → Int → Int → Int → Int → Option (Int)} (hend : EndR p l e (rmk 2 48) s m args below meth c Q G true τ cX9_square .ireturn [.int (oI q)] σ) (hk53 : ∀ {H : Heap} {locs : List Loc} {ls : Array Slot} (v2 : Int) (v3 : Int) (v4 : Int) (v5 : Int) (v6 : Int) (v7 : Int) (v8 : Int), St G true τ σ s H locs → lv_has ls 14 [(0, .ref (G.1 0)), (2, .int (oI v2)), (3, .int (oI v3)), (4, .int (oI v4)), (5, .int (oI v5)), (6, .int (oI v6)), (7, .int (oI v7)), (8, .int (oI v8))] → k53 v2 v3 v4 v5 v6 v7 v8 = some q → W p l e (rmk 2 48) s m args below meth c H locs 0 0 Q (F0 m 53 ls [])) {H : Heap} {locs : List Loc} {ls : Array Slot} (v2 : Int) (v3 : Int) (v4 : Int) (v5 : Int) (v6 : Int) (v7 : Int) (v8 : Int) (S : St G true τ σ s H locs) (hl : lv_has ls 14 [(0, .ref (G.1 0)), (2, .int (oI v2)), (3, .int (oI v3)), (4, .int (oI v4)), (5, .int (oI v5)), (6, .int (oI v6)), (7, .int (oI v7)), (8, .int (oI v8))]) (hf : f_X9_square_b201 σ k53 v2 v3 v4 v5 v6 v7 v8 = some q) : W p l e (rmk 2 48) s m args below meth c H locs 0 0 Q (F0 m 201 ls []) := by
  unfold f_X9_square_b201 at hf
  refine r_iinc C dX9_square_201 hl (k := 7) rfl (by decide) (lv' := [(8, .int (oI (v8 + 1))), (0, .ref (G.1 0)), (2, .int (oI v2)), (3, .int (oI v3)), (4, .int (oI v4)), (5, .int (oI v5)), (6, .int (oI v6)), (7, .int (oI v7))]) rfl (fun ls hl => ?_)
  refine lv_goto C.1 C.2.1 (tgt := 53) dX9_square_204 (by decide) ?_
  exact hk53 v2 v3 v4 v5 v6 v7 (v8 + 1) S (lv_sub hl [1, 2, 3, 4, 5, 6, 7, 0] rfl) hf
set_option maxRecDepth 100000 in
set_option maxHeartbeats 4000000 in
theorem b_X9_square_b63 (C : Cx p s m args c RX9 cX9_square 14) {q : Int} {k53 : Int → Int → Int → Int → Int → Int → Int → Option (Int)} (hend : EndR p l e (rmk 2 48) s m args below meth c Q G true τ cX9_square .ireturn [.int (oI q)] σ) (hk53 : ∀ {H : Heap} {locs : List Loc} {ls : Array Slot} (v2 : Int) (v3 : Int) (v4 : Int) (v5 : Int) (v6 : Int) (v7 : Int) (v8 : Int), St G true τ σ s H locs → lv_has ls 14 [(0, .ref (G.1 0)), (2, .int (oI v2)), (3, .int (oI v3)), (4, .int (oI v4)), (5, .int (oI v5)), (6, .int (oI v6)), (7, .int (oI v7)), (8, .int (oI v8))] → k53 v2 v3 v4 v5 v6 v7 v8 = some q → W p l e (rmk 2 48) s m args below meth c H locs 0 0 Q (F0 m 53 ls [])) : ∀ (n : Nat) {H : Heap} {locs : List Loc} {ls : Array Slot} (v2 : Int) (v3 : Int) (v4 : Int) (v5 : Int) (v6 : Int) (v7 : Int) (v8 : Int) (v9 : Int) (S : St G true τ σ s H locs) (hl : lv_has ls 14 [(0, .ref (G.1 0)), (2, .int (oI v2)), (3, .int (oI v3)), (4, .int (oI v4)), (5, .int (oI v5)), (6, .int (oI v6)), (7, .int (oI v7)), (8, .int (oI v8)), (9, .int (oI v9))]) (hf : f_X9_square_b63 σ k53 n v2 v3 v4 v5 v6 v7 v8 v9 = some q), W p l e (rmk 2 48) s m args below meth c H locs 0 0 Q (F0 m 63 ls []) := by
  intro n
  induction n with
  | zero => intro H locs ls v2 v3 v4 v5 v6 v7 v8 v9 S hl hf; cases hf
  | succ n ih =>
    intro H locs ls v2 v3 v4 v5 v6 v7 v8 v9 S hl hf
    have hk63 := @ih
    rw [f_X9_square_b63] at hf
    refine lv_iload C.1 C.2.1 dX9_square_63 (lv_at hl 8 rfl) ?_
    refine r_bipush C dX9_square_65 (by decide) ?_
    refine r_icmp_ge C rfl (show w32 24 = 24 by decide) (tgt := 201) dX9_square_67 (by decide) (fun h25 => ?_) (fun h25 => ?_)
    · replace hf := if_t hf h25
      refine lv_iload C.1 C.2.1 dX9_square_70 (lv_at hl 3 rfl) ?_
      refine lv_iload C.1 C.2.1 dX9_square_72 (lv_at hl 7 rfl) ?_
      obtain ⟨q5, hc6, hf⟩ := bd_o hf
      refine r_callSv C S (rest := []) (ct_X9_contains l G τ hc6) mi_X9_contains tw_661 ms_X9_contains ⟨rfl, rfl⟩ ⟨Nat.le_of_ble_eq_true rfl, Nat.le_of_ble_eq_true rfl⟩ ⟨Nat.zero_le _, Nat.zero_le _⟩ rfl hl.1 rfl (Nat.le_of_ble_eq_true rfl) dX9_square_74 (fun H locs S => ?_)
      refine r_if_eq C rfl (tgt := 195) dX9_square_77 (by decide) (fun h24 => ?_) (fun h24 => ?_)
      · replace hf := if_t hf h24
        exact b_X9_square_b195 C hend hk53 hk63 v2 v3 v4 v5 v6 v7 v8 v9 S (lv_sub hl [0, 1, 2, 3, 4, 5, 6, 7, 8] rfl) hf
      · replace hf := if_f hf h24
        refine lv_iload C.1 C.2.1 dX9_square_80 (lv_at hl 3 rfl) ?_
        refine lv_iload C.1 C.2.1 dX9_square_82 (lv_at hl 8 rfl) ?_
        obtain ⟨q7, hc8, hf⟩ := bd_o hf
        refine r_callSv C S (rest := []) (ct_X9_contains l G τ hc8) mi_X9_contains tw_661 ms_X9_contains ⟨rfl, rfl⟩ ⟨Nat.le_of_ble_eq_true rfl, Nat.le_of_ble_eq_true rfl⟩ ⟨Nat.zero_le _, Nat.zero_le _⟩ rfl hl.1 rfl (Nat.le_of_ble_eq_true rfl) dX9_square_84 (fun H locs S => ?_)
        refine r_if_eq C rfl (tgt := 195) dX9_square_87 (by decide) (fun h23 => ?_) (fun h23 => ?_)
        · replace hf := if_t hf h23
          exact b_X9_square_b195 C hend hk53 hk63 v2 v3 v4 v5 v6 v7 v8 v9 S (lv_sub hl [0, 1, 2, 3, 4, 5, 6, 7, 8] rfl) hf
        · replace hf := if_f hf h23
          refine lv_aload_n C.1 C.2.1 dX9_square_90 rfl (lv_at hl 0 rfl) ?_
          refine g9_book C S tw_282 dX9_square_91 ?_
          refine lv_iload C.1 C.2.1 dX9_square_94 (lv_at hl 7 rfl) ?_
          obtain ⟨q9, hc10, hf⟩ := bd_o hf
          refine r_callVv C S (rest := []) (ct_X0_xOf l G τ hc10) mi_X0_xOf tw_806 mv_X0_xOf (rvX0 S) ⟨rfl, rfl⟩ ⟨Nat.le_of_ble_eq_true rfl, Nat.le_of_ble_eq_true rfl⟩ ⟨Nat.zero_le _, Nat.zero_le _⟩ rfl hl.1 rfl (Nat.le_of_ble_eq_true rfl) dX9_square_96 (fun H locs S => ?_)
          refine lv_istore C.1 C.2.1 dX9_square_99 hl (by decide) (lv' := [(10, .int (oI q9)), (0, .ref (G.1 0)), (2, .int (oI v2)), (3, .int (oI v3)), (4, .int (oI v4)), (5, .int (oI v5)), (6, .int (oI v6)), (7, .int (oI v7)), (8, .int (oI v8)), (9, .int (oI v9))]) rfl (fun ls hl => ?_)
          refine lv_aload_n C.1 C.2.1 dX9_square_101 rfl (lv_at hl 1 rfl) ?_
          refine g9_book C S tw_282 dX9_square_102 ?_
          refine lv_iload C.1 C.2.1 dX9_square_105 (lv_at hl 9 rfl) ?_
          obtain ⟨q11, hc12, hf⟩ := bd_o hf
          refine r_callVv C S (rest := []) (ct_X0_yOf l G τ hc12) mi_X0_yOf tw_813 mv_X0_yOf (rvX0 S) ⟨rfl, rfl⟩ ⟨Nat.le_of_ble_eq_true rfl, Nat.le_of_ble_eq_true rfl⟩ ⟨Nat.zero_le _, Nat.zero_le _⟩ rfl hl.1 rfl (Nat.le_of_ble_eq_true rfl) dX9_square_107 (fun H locs S => ?_)
          refine lv_istore C.1 C.2.1 dX9_square_110 hl (by decide) (lv' := [(11, .int (oI q11)), (10, .int (oI q9)), (0, .ref (G.1 0)), (2, .int (oI v2)), (3, .int (oI v3)), (4, .int (oI v4)), (5, .int (oI v5)), (6, .int (oI v6)), (7, .int (oI v7)), (8, .int (oI v8)), (9, .int (oI v9))]) rfl (fun ls hl => ?_)
          refine lv_aload_n C.1 C.2.1 dX9_square_112 rfl (lv_at hl 2 rfl) ?_
          refine g9_book C S tw_282 dX9_square_113 ?_
          refine lv_iload C.1 C.2.1 dX9_square_116 (lv_at hl 5 rfl) ?_
          refine lv_aload_n C.1 C.2.1 dX9_square_118 rfl (lv_at hl 2 rfl) ?_
          refine g9_book C S tw_282 dX9_square_119 ?_
          refine lv_iload C.1 C.2.1 dX9_square_122 (lv_at hl 1 rfl) ?_
          refine lv_iload C.1 C.2.1 dX9_square_124 (lv_at hl 0 rfl) ?_
          refine lv_iload_n C.1 C.2.1 dX9_square_126 rfl (lv_at hl 3 rfl) ?_
          obtain ⟨q13, hc14, hf⟩ := bd_o hf
          refine r_callVv C S (rest := [.int (oI v4), .ref (G.1 6)]) (ct_X0_inSquare l G τ hc14) mi_X0_inSquare tw_885 mv_X0_inSquare (rvX0 S) ⟨rfl, rfl⟩ ⟨Nat.le_of_ble_eq_true rfl, Nat.le_of_ble_eq_true rfl⟩ ⟨Nat.zero_le _, Nat.zero_le _⟩ rfl hl.1 rfl (Nat.le_of_ble_eq_true rfl) dX9_square_127 (fun H locs S => ?_)
          refine r_iand C rfl rfl dX9_square_130 ?_
          obtain ⟨q15, hc16, hf⟩ := bd_o hf
          refine r_callVv C S (rest := []) (ct_X0_sums l G τ hc16) mi_X0_sums tw_652 mv_X0_sums (rvX0 S) ⟨rfl, rfl⟩ ⟨Nat.le_of_ble_eq_true rfl, Nat.le_of_ble_eq_true rfl⟩ ⟨Nat.zero_le _, Nat.zero_le _⟩ rfl hl.1 rfl (Nat.le_of_ble_eq_true rfl) dX9_square_131 (fun H locs S => ?_)
          refine lv_istore C.1 C.2.1 dX9_square_134 hl (by decide) (lv' := [(12, .int (oI q15)), (11, .int (oI q11)), (10, .int (oI q9)), (0, .ref (G.1 0)), (2, .int (oI v2)), (3, .int (oI v3)), (4, .int (oI v4)), (5, .int (oI v5)), (6, .int (oI v6)), (7, .int (oI v7)), (8, .int (oI v8)), (9, .int (oI v9))]) rfl (fun ls hl => ?_)
          refine lv_iload C.1 C.2.1 dX9_square_136 (lv_at hl 2 rfl) ?_
          refine lv_iload C.1 C.2.1 dX9_square_138 (lv_at hl 8 rfl) ?_
          refine r_icmp_lt C rfl rfl (tgt := 157) dX9_square_140 (by decide) (fun h22 => ?_) (fun h22 => ?_)
          · replace hf := if_t hf h22
            exact b_X9_square_b157 C hend hk53 hk63 v2 v3 v4 v5 v6 v7 v8 v9 q9 q11 q15 S (lv_sub hl [3, 4, 5, 6, 7, 8, 9, 10, 11, 2, 1, 0] rfl) hf
          · replace hf := if_f hf h22
            refine lv_iload C.1 C.2.1 dX9_square_143 (lv_at hl 2 rfl) ?_
            refine lv_iload C.1 C.2.1 dX9_square_145 (lv_at hl 8 rfl) ?_
            refine r_icmp_ne C rfl rfl (tgt := 161) dX9_square_147 (by decide) (fun h21 => ?_) (fun h21 => ?_)
            · replace hf := if_t hf h21
              refine lv_iload C.1 C.2.1 dX9_square_150 (lv_at hl 1 rfl) ?_
              refine lv_iload C.1 C.2.1 dX9_square_152 (lv_at hl 9 rfl) ?_
              refine r_icmp_ge C rfl rfl (tgt := 161) dX9_square_154 (by decide) (fun h20 => ?_) (fun h20 => ?_)
              · replace hf := if_t hf h20
                exact b_X9_square_b157 C hend hk53 hk63 v2 v3 v4 v5 v6 v7 v8 v9 q9 q11 q15 S (lv_sub hl [3, 4, 5, 6, 7, 8, 9, 10, 11, 2, 1, 0] rfl) hf
              · replace hf := if_f hf h20
                exact b_X9_square_b161 C hend hk53 hk63 v2 v3 v4 v5 v6 v7 v8 v9 q9 q11 q15 S (lv_sub hl [3, 4, 5, 6, 7, 8, 9, 10, 11, 2, 1, 0] rfl) hf
            · replace hf := if_f hf h21
              exact b_X9_square_b161 C hend hk53 hk63 v2 v3 v4 v5 v6 v7 v8 v9 q9 q11 q15 S (lv_sub hl [3, 4, 5, 6, 7, 8, 9, 10, 11, 2, 1, 0] rfl) hf
    · replace hf := if_f hf h25
      exact b_X9_square_b201 C hend hk53 v2 v3 v4 v5 v6 v7 v8 S (lv_sub hl [0, 1, 2, 3, 4, 5, 6, 7] rfl) hf
set_option maxRecDepth 100000 in
set_option maxHeartbeats 4000000 in
theorem b_X9_square_b207 (C : Cx p s m args c RX9 cX9_square 14) {q : Int} (hend : EndR p l e (rmk 2 48) s m args below meth c Q G true τ cX9_square .ireturn [.int (oI q)] σ) {H : Heap} {locs : List Loc} {ls : Array Slot} (v3 : Int) (v5 : Int) (v6 : Int) (v7 : Int) (S : St G true τ σ s H locs) (hl : lv_has ls 14 [(3, .int (oI v3)), (5, .int (oI v5)), (6, .int (oI v6)), (7, .int (oI v7))]) (hf : f_X9_square_b207 σ v3 v5 v6 v7 = some q) : W p l e (rmk 2 48) s m args below meth c H locs 0 0 Q (F0 m 207 ls []) := by
  unfold f_X9_square_b207 at hf
  refine lv_iload_n C.1 C.2.1 dX9_square_207 rfl (lv_at hl 0 rfl) ?_
  refine r_if_ne C rfl (tgt := 216) dX9_square_208 (by decide) (fun h27 => ?_) (fun h27 => ?_)
  · replace hf := if_t hf h27
    refine lv_iload C.1 C.2.1 dX9_square_211 (lv_at hl 1 rfl) ?_
    refine lv_goto C.1 C.2.1 (tgt := 228) dX9_square_213 (by decide) ?_
    cases hf
    exact hend _ _ _ _ S dX9_square_228
  · replace hf := if_f hf h27
    refine lv_iload_n C.1 C.2.1 dX9_square_216 rfl (lv_at hl 0 rfl) ?_
    refine r_iconst C dX9_square_217 ?_
    refine r_icmp_ne C rfl (show w32 1 = 1 by decide) (tgt := 226) dX9_square_218 (by decide) (fun h26 => ?_) (fun h26 => ?_)
    · replace hf := if_t hf h26
      refine lv_iload C.1 C.2.1 dX9_square_221 (lv_at hl 2 rfl) ?_
      refine lv_goto C.1 C.2.1 (tgt := 228) dX9_square_223 (by decide) ?_
      cases hf
      exact hend _ _ _ _ S dX9_square_228
    · replace hf := if_f hf h26
      refine lv_iload C.1 C.2.1 dX9_square_226 (lv_at hl 3 rfl) ?_
      cases hf
      exact hend _ _ _ _ S dX9_square_228
set_option maxRecDepth 100000 in
set_option maxHeartbeats 4000000 in
theorem b_X9_square_b53 (C : Cx p s m args c RX9 cX9_square 14) {q : Int} (hend : EndR p l e (rmk 2 48) s m args below meth c Q G true τ cX9_square .ireturn [.int (oI q)] σ) : ∀ (n : Nat) {H : Heap} {locs : List Loc} {ls : Array Slot} (v2 : Int) (v3 : Int) (v4 : Int) (v5 : Int) (v6 : Int) (v7 : Int) (v8 : Int) (S : St G true τ σ s H locs) (hl : lv_has ls 14 [(0, .ref (G.1 0)), (2, .int (oI v2)), (3, .int (oI v3)), (4, .int (oI v4)), (5, .int (oI v5)), (6, .int (oI v6)), (7, .int (oI v7)), (8, .int (oI v8))]) (hf : f_X9_square_b53 σ n v2 v3 v4 v5 v6 v7 v8 = some q), W p l e (rmk 2 48) s m args below meth c H locs 0 0 Q (F0 m 53 ls []) := by
  intro n
  induction n with
  | zero => intro H locs ls v2 v3 v4 v5 v6 v7 v8 S hl hf; cases hf
  | succ n ih =>
    intro H locs ls v2 v3 v4 v5 v6 v7 v8 S hl hf
    have hk53 := @ih
    rw [f_X9_square_b53] at hf
    refine lv_iload C.1 C.2.1 dX9_square_53 (lv_at hl 7 rfl) ?_
    refine r_bipush C dX9_square_55 (by decide) ?_
    refine r_icmp_ge C rfl (show w32 24 = 24 by decide) (tgt := 207) dX9_square_57 (by decide) (fun h28 => ?_) (fun h28 => ?_)
    · replace hf := if_t hf h28
      refine r_iconst C dX9_square_60 ?_
      refine lv_istore C.1 C.2.1 dX9_square_61 hl (by decide) (lv' := [(9, .int (oI 0)), (0, .ref (G.1 0)), (2, .int (oI v2)), (3, .int (oI v3)), (4, .int (oI v4)), (5, .int (oI v5)), (6, .int (oI v6)), (7, .int (oI v7)), (8, .int (oI v8))]) rfl (fun ls hl => ?_)
      exact b_X9_square_b63 C hend hk53 FUEL v2 v3 v4 v5 v6 v7 v8 0 S (lv_sub hl [1, 2, 3, 4, 5, 6, 7, 8, 0] rfl) hf
    · replace hf := if_f hf h28
      exact b_X9_square_b207 C hend v3 v5 v6 v7 S (lv_sub hl [2, 4, 5, 6] rfl) hf
set_option maxRecDepth 100000 in
set_option maxHeartbeats 4000000 in
theorem ct_X9_square (l : Launch) (G : Gd) (τ : Sg) {v1 : Int} {v2 : Int} {v3 : Int} {σ : Sg} {q : Int} (hf : f_X9_square v1 v2 v3 σ = some q) : Ctr l yX9_square cX9_square 14 (some .int) (rmk 2 48) G true τ [.ref (G.1 0), .int (oI v1), .int (oI v2), .int (oI v3)] σ σ (some (.int (oI q))) := by
  unfold f_X9_square at hf
  refine CtrI.of (own := RX9) (plainFor_of_name (by decide)) (Nat.le_of_ble_eq_true rfl) rfl (fun p e s m below meth c Q ls C hl S hend => ?_)
  have hl : lv_has ls 14 [(0, .ref (G.1 0)), (1, .int (oI v1)), (2, .int (oI v2)), (3, .int (oI v3))] := hl
  refine lv_iload_n C.1 C.2.1 dX9_square_0 rfl (lv_at hl 1 rfl) ?_
  obtain ⟨q1, hc2, hf⟩ := bd_o hf
  refine r_callSv C S (rest := []) (ct_X9_arePerils l G τ hc2) mi_X9_arePerils tw_631 ms_X9_arePerils ⟨rfl, rfl⟩ ⟨Nat.le_of_ble_eq_true rfl, Nat.le_of_ble_eq_true rfl⟩ ⟨Nat.zero_le _, Nat.zero_le _⟩ rfl hl.1 rfl (Nat.le_of_ble_eq_true rfl) dX9_square_1 (fun H locs S => ?_)
  refine r_if_eq C rfl (tgt := 27) dX9_square_4 (by decide) (fun h33 => ?_) (fun h33 => ?_)
  · replace hf := if_t hf h33
    refine r_iconst C dX9_square_27 ?_
    cases hf
    exact hend _ _ _ _ S dX9_square_28
  · replace hf := if_f hf h33
    refine lv_iload_n C.1 C.2.1 dX9_square_7 rfl (lv_at hl 2 rfl) ?_
    refine r_if_lt C rfl (tgt := 27) dX9_square_8 (by decide) (fun h32 => ?_) (fun h32 => ?_)
    · replace hf := if_t hf h32
      refine r_iconst C dX9_square_27 ?_
      cases hf
      exact hend _ _ _ _ S dX9_square_28
    · replace hf := if_f hf h32
      refine lv_iload_n C.1 C.2.1 dX9_square_11 rfl (lv_at hl 2 rfl) ?_
      refine r_sipush C dX9_square_12 (by decide) ?_
      refine r_icmp_ge C rfl (show w32 300 = 300 by decide) (tgt := 27) dX9_square_15 (by decide) (fun h31 => ?_) (fun h31 => ?_)
      · replace hf := if_t hf h31
        refine lv_iload_n C.1 C.2.1 dX9_square_18 rfl (lv_at hl 3 rfl) ?_
        refine r_if_lt C rfl (tgt := 27) dX9_square_19 (by decide) (fun h30 => ?_) (fun h30 => ?_)
        · replace hf := if_t hf h30
          refine r_iconst C dX9_square_27 ?_
          cases hf
          exact hend _ _ _ _ S dX9_square_28
        · replace hf := if_f hf h30
          refine lv_iload_n C.1 C.2.1 dX9_square_22 rfl (lv_at hl 3 rfl) ?_
          refine r_iconst C dX9_square_23 ?_
          refine r_icmp_le C rfl (show w32 2 = 2 by decide) (tgt := 29) dX9_square_24 (by decide) (fun h29 => ?_) (fun h29 => ?_)
          · replace hf := if_t hf h29
            refine lv_aload_n C.1 C.2.1 dX9_square_29 rfl (lv_at hl 0 rfl) ?_
            refine g9_book C S tw_282 dX9_square_30 ?_
            refine lv_iload_n C.1 C.2.1 dX9_square_33 rfl (lv_at hl 1 rfl) ?_
            obtain ⟨q3, hc4, hf⟩ := bd_o hf
            refine r_callVv C S (rest := []) (ct_X0_ofPerils l G τ hc4) mi_X0_ofPerils tw_476 mv_X0_ofPerils (rvX0 S) ⟨rfl, rfl⟩ ⟨Nat.le_of_ble_eq_true rfl, Nat.le_of_ble_eq_true rfl⟩ ⟨Nat.zero_le _, Nat.zero_le _⟩ rfl hl.1 rfl (Nat.le_of_ble_eq_true rfl) dX9_square_34 (fun H locs S => ?_)
            refine lv_istore C.1 C.2.1 dX9_square_37 hl (by decide) (lv' := [(4, .int (oI q3)), (0, .ref (G.1 0)), (1, .int (oI v1)), (2, .int (oI v2)), (3, .int (oI v3))]) rfl (fun ls hl => ?_)
            refine r_iconst C dX9_square_39 ?_
            refine lv_istore C.1 C.2.1 dX9_square_40 hl (by decide) (lv' := [(5, .int (oI 0)), (4, .int (oI q3)), (0, .ref (G.1 0)), (1, .int (oI v1)), (2, .int (oI v2)), (3, .int (oI v3))]) rfl (fun ls hl => ?_)
            refine r_bipush C dX9_square_42 (by decide) ?_
            refine lv_istore C.1 C.2.1 dX9_square_44 hl (by decide) (lv' := [(6, .int (oI ((-2)))), (5, .int (oI 0)), (4, .int (oI q3)), (0, .ref (G.1 0)), (1, .int (oI v1)), (2, .int (oI v2)), (3, .int (oI v3))]) rfl (fun ls hl => ?_)
            refine r_bipush C dX9_square_46 (by decide) ?_
            refine lv_istore C.1 C.2.1 dX9_square_48 hl (by decide) (lv' := [(7, .int (oI ((-2)))), (6, .int (oI ((-2)))), (5, .int (oI 0)), (4, .int (oI q3)), (0, .ref (G.1 0)), (1, .int (oI v1)), (2, .int (oI v2)), (3, .int (oI v3))]) rfl (fun ls hl => ?_)
            refine r_iconst C dX9_square_50 ?_
            refine lv_istore C.1 C.2.1 dX9_square_51 hl (by decide) (lv' := [(8, .int (oI 0)), (7, .int (oI ((-2)))), (6, .int (oI ((-2)))), (5, .int (oI 0)), (4, .int (oI q3)), (0, .ref (G.1 0)), (1, .int (oI v1)), (2, .int (oI v2)), (3, .int (oI v3))]) rfl (fun ls hl => ?_)
            exact b_X9_square_b53 C hend FUEL v2 v3 q3 0 ((-2)) ((-2)) 0 S (lv_sub hl [5, 7, 8, 4, 3, 2, 1, 0] rfl) hf
          · replace hf := if_f hf h29
            refine r_iconst C dX9_square_27 ?_
            cases hf
            exact hend _ _ _ _ S dX9_square_28
      · replace hf := if_f hf h31
        refine r_iconst C dX9_square_27 ?_
        cases hf
        exact hend _ _ _ _ S dX9_square_28
set_option maxRecDepth 100000 in
set_option maxHeartbeats 4000000 in
theorem b_X9_radiusFor_b123 (C : Cx p s m args c RX9 cX9_radiusFor 8) {q : Int × Sg} {k68 : Int → Int → Int → Int → Int → Sg → Option (Int × Sg)} (hend : EndR p l e (rmk 6 156) s m args below meth c Q G true τ cX9_radiusFor .ireturn [.int (oI q.1)] q.2) (hk68 : ∀ {H : Heap} {locs : List Loc} {ls : Array Slot} {σ : Sg} (v2 : Int) (v3 : Int) (v4 : Int) (v5 : Int) (v6 : Int), St G true τ σ s H locs → lv_has ls 8 [(0, .ref (G.1 0)), (2, .int (oI v2)), (3, .int (oI v3)), (4, .int (oI v4)), (5, .int (oI v5)), (6, .int (oI v6))] → k68 v2 v3 v4 v5 v6 σ = some q → W p l e (rmk 6 156) s m args below meth c H locs 0 0 Q (F0 m 68 ls [])) {H : Heap} {locs : List Loc} {ls : Array Slot} {σ : Sg} (v2 : Int) (v3 : Int) (v4 : Int) (v5 : Int) (v6 : Int) (S : St G true τ σ s H locs) (hl : lv_has ls 8 [(0, .ref (G.1 0)), (2, .int (oI v2)), (3, .int (oI v3)), (4, .int (oI v4)), (5, .int (oI v5)), (6, .int (oI v6))]) (hf : f_X9_radiusFor_b123 k68 v2 v3 v4 v5 v6 σ = some q) : W p l e (rmk 6 156) s m args below meth c H locs 0 0 Q (F0 m 123 ls []) := by
  unfold f_X9_radiusFor_b123 at hf
  refine r_iinc C dX9_radiusFor_123 hl (k := 5) rfl (by decide) (lv' := [(6, .int (oI (v6 + 1))), (0, .ref (G.1 0)), (2, .int (oI v2)), (3, .int (oI v3)), (4, .int (oI v4)), (5, .int (oI v5))]) rfl (fun ls hl => ?_)
  refine lv_goto C.1 C.2.1 (tgt := 68) dX9_radiusFor_126 (by decide) ?_
  exact hk68 v2 v3 v4 v5 (v6 + 1) S (lv_sub hl [1, 2, 3, 4, 5, 0] rfl) hf
set_option maxRecDepth 100000 in
set_option maxHeartbeats 4000000 in
theorem b_X9_radiusFor_b68 (C : Cx p s m args c RX9 cX9_radiusFor 8) {q : Int × Sg} (hend : EndR p l e (rmk 6 156) s m args below meth c Q G true τ cX9_radiusFor .ireturn [.int (oI q.1)] q.2) : ∀ (n : Nat) {H : Heap} {locs : List Loc} {ls : Array Slot} {σ : Sg} (v2 : Int) (v3 : Int) (v4 : Int) (v5 : Int) (v6 : Int) (S : St G true τ σ s H locs) (hl : lv_has ls 8 [(0, .ref (G.1 0)), (2, .int (oI v2)), (3, .int (oI v3)), (4, .int (oI v4)), (5, .int (oI v5)), (6, .int (oI v6))]) (hf : f_X9_radiusFor_b68 n v2 v3 v4 v5 v6 σ = some q), W p l e (rmk 6 156) s m args below meth c H locs 0 0 Q (F0 m 68 ls []) := by
  intro n
  induction n with
  | zero => intro H locs ls σ v2 v3 v4 v5 v6 S hl hf; cases hf
  | succ n ih =>
    intro H locs ls σ v2 v3 v4 v5 v6 S hl hf
    have hk68 := @ih
    rw [f_X9_radiusFor_b68] at hf
    refine lv_iload C.1 C.2.1 dX9_radiusFor_68 (lv_at hl 5 rfl) ?_
    refine r_sipush C dX9_radiusFor_70 (by decide) ?_
    refine r_icmp_ge C rfl (show w32 300 = 300 by decide) (tgt := 129) dX9_radiusFor_73 (by decide) (fun h18 => ?_) (fun h18 => ?_)
    · replace hf := if_t hf h18
      refine lv_iload C.1 C.2.1 dX9_radiusFor_76 (lv_at hl 3 rfl) ?_
      refine lv_iload C.1 C.2.1 dX9_radiusFor_78 (lv_at hl 4 rfl) ?_
      refine r_icmp_ge C rfl rfl (tgt := 129) dX9_radiusFor_80 (by decide) (fun h17 => ?_) (fun h17 => ?_)
      · replace hf := if_t hf h17
        refine lv_iload C.1 C.2.1 dX9_radiusFor_83 (lv_at hl 3 rfl) ?_
        refine lv_iload C.1 C.2.1 dX9_radiusFor_85 (lv_at hl 4 rfl) ?_
        refine r_iadd C dX9_radiusFor_87 ?_
        refine r_iconst C dX9_radiusFor_88 ?_
        obtain ⟨hz11, hf⟩ := ck_o hf
        refine r_idiv C hz11 dX9_radiusFor_89 ?_
        refine lv_istore C.1 C.2.1 dX9_radiusFor_90 hl (by decide) (lv' := [(7, .int (oI ((w32 (v4 + v5)).tdiv (w32 2)))), (0, .ref (G.1 0)), (2, .int (oI v2)), (3, .int (oI v3)), (4, .int (oI v4)), (5, .int (oI v5)), (6, .int (oI v6))]) rfl (fun ls hl => ?_)
        refine lv_aload_n C.1 C.2.1 dX9_radiusFor_92 rfl (lv_at hl 1 rfl) ?_
        refine g9_book C S tw_282 dX9_radiusFor_93 ?_
        refine lv_aload_n C.1 C.2.1 dX9_radiusFor_96 rfl (lv_at hl 1 rfl) ?_
        refine lv_iload_n C.1 C.2.1 dX9_radiusFor_97 rfl (lv_at hl 3 rfl) ?_
        refine lv_iload C.1 C.2.1 dX9_radiusFor_98 (lv_at hl 0 rfl) ?_
        obtain ⟨q12, hc13, hf⟩ := bd_o hf
        refine r_callVv C S (rest := [.ref (G.1 6)]) (ct_X9_heaviestOf l G τ hc13) mi_X9_heaviestOf tw_830 mv_X9_heaviestOf (rvX9 S) ⟨rfl, rfl⟩ ⟨Nat.le_of_ble_eq_true rfl, Nat.le_of_ble_eq_true rfl⟩ ⟨Nat.zero_le _, Nat.zero_le _⟩ rfl hl.1 rfl (Nat.le_of_ble_eq_true rfl) dX9_radiusFor_100 (fun H locs S => ?_)
        obtain ⟨q14, hc15, hf⟩ := bd_o hf
        refine r_callVv C S (rest := []) (ct_X0_sums l G τ hc15) mi_X0_sums tw_652 mv_X0_sums (rvX0 S) ⟨rfl, rfl⟩ ⟨Nat.le_of_ble_eq_true rfl, Nat.le_of_ble_eq_true rfl⟩ ⟨Nat.zero_le _, Nat.zero_le _⟩ rfl hl.1 rfl (Nat.le_of_ble_eq_true rfl) dX9_radiusFor_103 (fun H locs S => ?_)
        refine lv_iload_n C.1 C.2.1 dX9_radiusFor_106 rfl (lv_at hl 2 rfl) ?_
        refine r_icmp_lt C rfl rfl (tgt := 117) dX9_radiusFor_107 (by decide) (fun h16 => ?_) (fun h16 => ?_)
        · replace hf := if_t hf h16
          refine lv_iload C.1 C.2.1 dX9_radiusFor_117 (lv_at hl 0 rfl) ?_
          refine r_iconst C dX9_radiusFor_119 ?_
          refine r_iadd C dX9_radiusFor_120 ?_
          refine lv_istore C.1 C.2.1 dX9_radiusFor_121 hl (by decide) (lv' := [(4, .int (oI (((w32 (v4 + v5)).tdiv (w32 2)) + 1))), (7, .int (oI ((w32 (v4 + v5)).tdiv (w32 2)))), (0, .ref (G.1 0)), (2, .int (oI v2)), (3, .int (oI v3)), (5, .int (oI v5)), (6, .int (oI v6))]) rfl (fun ls hl => ?_)
          exact b_X9_radiusFor_b123 C hend hk68 v2 v3 (((w32 (v4 + v5)).tdiv (w32 2)) + 1) v5 v6 S (lv_sub hl [2, 3, 4, 0, 5, 6] rfl) hf
        · replace hf := if_f hf h16
          refine lv_iload C.1 C.2.1 dX9_radiusFor_110 (lv_at hl 0 rfl) ?_
          refine lv_istore C.1 C.2.1 dX9_radiusFor_112 hl (by decide) (lv' := [(5, .int (oI ((w32 (v4 + v5)).tdiv (w32 2)))), (7, .int (oI ((w32 (v4 + v5)).tdiv (w32 2)))), (0, .ref (G.1 0)), (2, .int (oI v2)), (3, .int (oI v3)), (4, .int (oI v4)), (6, .int (oI v6))]) rfl (fun ls hl => ?_)
          refine lv_goto C.1 C.2.1 (tgt := 123) dX9_radiusFor_114 (by decide) ?_
          exact b_X9_radiusFor_b123 C hend hk68 v2 v3 v4 ((w32 (v4 + v5)).tdiv (w32 2)) v6 S (lv_sub hl [2, 3, 4, 5, 0, 6] rfl) hf
      · replace hf := if_f hf h17
        refine lv_iload C.1 C.2.1 dX9_radiusFor_129 (lv_at hl 3 rfl) ?_
        cases hf
        exact hend _ _ _ _ S dX9_radiusFor_131
    · replace hf := if_f hf h18
      refine lv_iload C.1 C.2.1 dX9_radiusFor_129 (lv_at hl 3 rfl) ?_
      cases hf
      exact hend _ _ _ _ S dX9_radiusFor_131
set_option maxRecDepth 100000 in
set_option maxHeartbeats 4000000 in
theorem ct_X9_radiusFor (l : Launch) (G : Gd) (τ : Sg) {v1 : Int} {v2 : Int} {σ : Sg} {q : Int × Sg} (hf : f_X9_radiusFor v1 v2 σ = some q) : Ctr l yX9_radiusFor cX9_radiusFor 8 (some .int) (rmk 6 156) G true τ [.ref (G.1 0), .int (oI v1), .int (oI v2)] σ q.2 (some (.int (oI q.1))) := by
  unfold f_X9_radiusFor at hf
  refine CtrI.of (own := RX9) (plainFor_of_name (by decide)) (Nat.le_of_ble_eq_true rfl) rfl (fun p e s m below meth c Q ls C hl S hend => ?_)
  have hl : lv_has ls 8 [(0, .ref (G.1 0)), (1, .int (oI v1)), (2, .int (oI v2))] := hl
  refine lv_iload_n C.1 C.2.1 dX9_radiusFor_0 rfl (lv_at hl 1 rfl) ?_
  obtain ⟨q1, hc2, hf⟩ := bd_o hf
  refine r_callSv C S (rest := []) (ct_X9_arePerils l G τ hc2) mi_X9_arePerils tw_631 ms_X9_arePerils ⟨rfl, rfl⟩ ⟨Nat.le_of_ble_eq_true rfl, Nat.le_of_ble_eq_true rfl⟩ ⟨Nat.zero_le _, Nat.zero_le _⟩ rfl hl.1 rfl (Nat.le_of_ble_eq_true rfl) dX9_radiusFor_1 (fun H locs S => ?_)
  refine r_if_eq C rfl (tgt := 12) dX9_radiusFor_4 (by decide) (fun h22 => ?_) (fun h22 => ?_)
  · replace hf := if_t hf h22
    refine r_iconst C dX9_radiusFor_12 ?_
    cases hf
    exact hend _ _ _ _ S dX9_radiusFor_13
  · replace hf := if_f hf h22
    refine lv_iload_n C.1 C.2.1 dX9_radiusFor_7 rfl (lv_at hl 2 rfl) ?_
    refine r_iconst C dX9_radiusFor_8 ?_
    refine r_icmp_ge C rfl (show w32 1 = 1 by decide) (tgt := 14) dX9_radiusFor_9 (by decide) (fun h21 => ?_) (fun h21 => ?_)
    · replace hf := if_t hf h21
      refine r_iconst C dX9_radiusFor_12 ?_
      cases hf
      exact hend _ _ _ _ S dX9_radiusFor_13
    · replace hf := if_f hf h21
      refine lv_aload_n C.1 C.2.1 dX9_radiusFor_14 rfl (lv_at hl 0 rfl) ?_
      refine g9_book C S tw_282 dX9_radiusFor_15 ?_
      refine lv_iload_n C.1 C.2.1 dX9_radiusFor_18 rfl (lv_at hl 1 rfl) ?_
      obtain ⟨q3, hc4, hf⟩ := bd_o hf
      refine r_callVv C S (rest := []) (ct_X0_ofPerils l G τ hc4) mi_X0_ofPerils tw_476 mv_X0_ofPerils (rvX0 S) ⟨rfl, rfl⟩ ⟨Nat.le_of_ble_eq_true rfl, Nat.le_of_ble_eq_true rfl⟩ ⟨Nat.zero_le _, Nat.zero_le _⟩ rfl hl.1 rfl (Nat.le_of_ble_eq_true rfl) dX9_radiusFor_19 (fun H locs S => ?_)
      refine lv_istore_n C.1 C.2.1 dX9_radiusFor_22 rfl hl (by decide) (lv' := [(3, .int (oI q3)), (0, .ref (G.1 0)), (1, .int (oI v1)), (2, .int (oI v2))]) rfl (fun ls hl => ?_)
      refine lv_aload_n C.1 C.2.1 dX9_radiusFor_23 rfl (lv_at hl 1 rfl) ?_
      refine g9_book C S tw_282 dX9_radiusFor_24 ?_
      refine lv_iload_n C.1 C.2.1 dX9_radiusFor_27 rfl (lv_at hl 0 rfl) ?_
      obtain ⟨q5, hc6, hf⟩ := bd_o hf
      refine r_callVv C S (rest := []) (ct_X0_sums l G τ hc6) mi_X0_sums tw_652 mv_X0_sums (rvX0 S) ⟨rfl, rfl⟩ ⟨Nat.le_of_ble_eq_true rfl, Nat.le_of_ble_eq_true rfl⟩ ⟨Nat.zero_le _, Nat.zero_le _⟩ rfl hl.1 rfl (Nat.le_of_ble_eq_true rfl) dX9_radiusFor_28 (fun H locs S => ?_)
      refine lv_iload_n C.1 C.2.1 dX9_radiusFor_31 rfl (lv_at hl 3 rfl) ?_
      refine r_icmp_lt C rfl rfl (tgt := 54) dX9_radiusFor_32 (by decide) (fun h20 => ?_) (fun h20 => ?_)
      · replace hf := if_t hf h20
        refine r_bipush C dX9_radiusFor_54 (by decide) ?_
        cases hf
        exact hend _ _ _ _ S dX9_radiusFor_56
      · replace hf := if_f hf h20
        refine lv_aload_n C.1 C.2.1 dX9_radiusFor_35 rfl (lv_at hl 1 rfl) ?_
        refine g9_book C S tw_282 dX9_radiusFor_36 ?_
        refine lv_aload_n C.1 C.2.1 dX9_radiusFor_39 rfl (lv_at hl 1 rfl) ?_
        refine lv_iload_n C.1 C.2.1 dX9_radiusFor_40 rfl (lv_at hl 0 rfl) ?_
        refine r_sipush C dX9_radiusFor_41 (by decide) ?_
        obtain ⟨q7, hc8, hf⟩ := bd_o hf
        refine r_callVv C S (rest := [.ref (G.1 6)]) (ct_X9_heaviestOf l G τ hc8) mi_X9_heaviestOf tw_830 mv_X9_heaviestOf (rvX9 S) ⟨rfl, rfl⟩ ⟨Nat.le_of_ble_eq_true rfl, Nat.le_of_ble_eq_true rfl⟩ ⟨Nat.zero_le _, Nat.zero_le _⟩ rfl hl.1 rfl (Nat.le_of_ble_eq_true rfl) dX9_radiusFor_44 (fun H locs S => ?_)
        obtain ⟨q9, hc10, hf⟩ := bd_o hf
        refine r_callVv C S (rest := []) (ct_X0_sums l G τ hc10) mi_X0_sums tw_652 mv_X0_sums (rvX0 S) ⟨rfl, rfl⟩ ⟨Nat.le_of_ble_eq_true rfl, Nat.le_of_ble_eq_true rfl⟩ ⟨Nat.zero_le _, Nat.zero_le _⟩ rfl hl.1 rfl (Nat.le_of_ble_eq_true rfl) dX9_radiusFor_47 (fun H locs S => ?_)
        refine lv_iload_n C.1 C.2.1 dX9_radiusFor_50 rfl (lv_at hl 3 rfl) ?_
        refine r_icmp_ge C rfl rfl (tgt := 57) dX9_radiusFor_51 (by decide) (fun h19 => ?_) (fun h19 => ?_)
        · replace hf := if_t hf h19
          refine r_bipush C dX9_radiusFor_54 (by decide) ?_
          cases hf
          exact hend _ _ _ _ S dX9_radiusFor_56
        · replace hf := if_f hf h19
          refine r_iconst C dX9_radiusFor_57 ?_
          refine lv_istore C.1 C.2.1 dX9_radiusFor_58 hl (by decide) (lv' := [(4, .int (oI 1)), (3, .int (oI q3)), (0, .ref (G.1 0)), (1, .int (oI v1)), (2, .int (oI v2))]) rfl (fun ls hl => ?_)
          refine r_sipush C dX9_radiusFor_60 (by decide) ?_
          refine lv_istore C.1 C.2.1 dX9_radiusFor_63 hl (by decide) (lv' := [(5, .int (oI 300)), (4, .int (oI 1)), (3, .int (oI q3)), (0, .ref (G.1 0)), (1, .int (oI v1)), (2, .int (oI v2))]) rfl (fun ls hl => ?_)
          refine r_iconst C dX9_radiusFor_65 ?_
          refine lv_istore C.1 C.2.1 dX9_radiusFor_66 hl (by decide) (lv' := [(6, .int (oI 0)), (5, .int (oI 300)), (4, .int (oI 1)), (3, .int (oI q3)), (0, .ref (G.1 0)), (1, .int (oI v1)), (2, .int (oI v2))]) rfl (fun ls hl => ?_)
          exact b_X9_radiusFor_b68 C hend FUEL v2 q3 1 300 0 S (lv_sub hl [4, 6, 3, 2, 1, 0] rfl) hf
set_option maxRecDepth 100000 in
set_option maxHeartbeats 4000000 in
theorem ct_X9_together (l : Launch) (G : Gd) (τ : Sg) {v1 : Int} {v2 : Int} {v3 : Int} {σ : Sg} {q : Int} (hf : f_X9_together v1 v2 v3 σ = some q) : Ctr l yX9_together cX9_together 4 (some .int) (rmk 4 88) G true τ [.ref (G.1 0), .int (oI v1), .int (oI v2), .int (oI v3)] σ σ (some (.int (oI q))) := by
  unfold f_X9_together at hf
  refine CtrI.of (own := RX9) (plainFor_of_name (by decide)) (Nat.le_of_ble_eq_true rfl) rfl (fun p e s m below meth c Q ls C hl S hend => ?_)
  have hl : lv_has ls 4 [(0, .ref (G.1 0)), (1, .int (oI v1)), (2, .int (oI v2)), (3, .int (oI v3))] := hl
  refine lv_aload_n C.1 C.2.1 dX9_together_0 rfl (lv_at hl 0 rfl) ?_
  refine g9_book C S tw_282 dX9_together_1 ?_
  refine lv_iload_n C.1 C.2.1 dX9_together_4 rfl (lv_at hl 1 rfl) ?_
  obtain ⟨q1, hc2, hf⟩ := bd_o hf
  refine r_callVv C S (rest := []) (ct_X0_has l G τ hc2) mi_X0_has tw_581 mv_X0_has (rvX0 S) ⟨rfl, rfl⟩ ⟨Nat.le_of_ble_eq_true rfl, Nat.le_of_ble_eq_true rfl⟩ ⟨Nat.zero_le _, Nat.zero_le _⟩ rfl hl.1 rfl (Nat.le_of_ble_eq_true rfl) dX9_together_5 (fun H locs S => ?_)
  refine r_if_eq C rfl (tgt := 34) dX9_together_8 (by decide) (fun h13 => ?_) (fun h13 => ?_)
  · replace hf := if_t hf h13
    refine r_iconst C dX9_together_34 ?_
    cases hf
    exact hend _ _ _ _ S dX9_together_35
  · replace hf := if_f hf h13
    refine lv_aload_n C.1 C.2.1 dX9_together_11 rfl (lv_at hl 0 rfl) ?_
    refine g9_book C S tw_282 dX9_together_12 ?_
    refine lv_iload_n C.1 C.2.1 dX9_together_15 rfl (lv_at hl 2 rfl) ?_
    obtain ⟨q3, hc4, hf⟩ := bd_o hf
    refine r_callVv C S (rest := []) (ct_X0_has l G τ hc4) mi_X0_has tw_581 mv_X0_has (rvX0 S) ⟨rfl, rfl⟩ ⟨Nat.le_of_ble_eq_true rfl, Nat.le_of_ble_eq_true rfl⟩ ⟨Nat.zero_le _, Nat.zero_le _⟩ rfl hl.1 rfl (Nat.le_of_ble_eq_true rfl) dX9_together_16 (fun H locs S => ?_)
    refine r_if_eq C rfl (tgt := 34) dX9_together_19 (by decide) (fun h12 => ?_) (fun h12 => ?_)
    · replace hf := if_t hf h12
      refine r_iconst C dX9_together_34 ?_
      cases hf
      exact hend _ _ _ _ S dX9_together_35
    · replace hf := if_f hf h12
      refine lv_iload_n C.1 C.2.1 dX9_together_22 rfl (lv_at hl 1 rfl) ?_
      refine lv_iload_n C.1 C.2.1 dX9_together_23 rfl (lv_at hl 2 rfl) ?_
      refine r_icmp_eq C rfl rfl (tgt := 34) dX9_together_24 (by decide) (fun h11 => ?_) (fun h11 => ?_)
      · replace hf := if_t hf h11
        refine r_iconst C dX9_together_34 ?_
        cases hf
        exact hend _ _ _ _ S dX9_together_35
      · replace hf := if_f hf h11
        refine lv_iload_n C.1 C.2.1 dX9_together_27 rfl (lv_at hl 3 rfl) ?_
        obtain ⟨q5, hc6, hf⟩ := bd_o hf
        refine r_callSv C S (rest := []) (ct_X9_isRadius l G τ hc6) mi_X9_isRadius tw_634 ms_X9_isRadius ⟨rfl, rfl⟩ ⟨Nat.le_of_ble_eq_true rfl, Nat.le_of_ble_eq_true rfl⟩ ⟨Nat.zero_le _, Nat.zero_le _⟩ rfl hl.1 rfl (Nat.le_of_ble_eq_true rfl) dX9_together_28 (fun H locs S => ?_)
        refine r_if_ne C rfl (tgt := 36) dX9_together_31 (by decide) (fun h10 => ?_) (fun h10 => ?_)
        · replace hf := if_t hf h10
          refine r_iconst C dX9_together_34 ?_
          cases hf
          exact hend _ _ _ _ S dX9_together_35
        · replace hf := if_f hf h10
          refine lv_aload_n C.1 C.2.1 dX9_together_36 rfl (lv_at hl 0 rfl) ?_
          refine g9_book C S tw_282 dX9_together_37 ?_
          refine lv_iload_n C.1 C.2.1 dX9_together_40 rfl (lv_at hl 1 rfl) ?_
          refine lv_iload_n C.1 C.2.1 dX9_together_41 rfl (lv_at hl 2 rfl) ?_
          obtain ⟨q7, hc8, hf⟩ := bd_o hf
          refine r_callVv C S (rest := []) (ct_X0_between l G τ hc8) mi_X0_between tw_678 mv_X0_between (rvX0 S) ⟨rfl, rfl⟩ ⟨Nat.le_of_ble_eq_true rfl, Nat.le_of_ble_eq_true rfl⟩ ⟨Nat.zero_le _, Nat.zero_le _⟩ rfl hl.1 rfl (Nat.le_of_ble_eq_true rfl) dX9_together_42 (fun H locs S => ?_)
          refine r_iconst C dX9_together_45 ?_
          refine lv_iload_n C.1 C.2.1 dX9_together_46 rfl (lv_at hl 3 rfl) ?_
          refine r_imul C dX9_together_47 ?_
          refine lv_iload_n C.1 C.2.1 dX9_together_48 rfl (lv_at hl 3 rfl) ?_
          refine r_imul C dX9_together_49 ?_
          refine r_icmp_gt C rfl rfl (tgt := 57) dX9_together_50 (by decide) (fun h9 => ?_) (fun h9 => ?_)
          · replace hf := if_t hf h9
            refine r_iconst C dX9_together_53 ?_
            refine lv_goto C.1 C.2.1 (tgt := 58) dX9_together_54 (by decide) ?_
            cases hf
            exact hend _ _ _ _ S dX9_together_58
          · replace hf := if_f hf h9
            refine r_iconst C dX9_together_57 ?_
            cases hf
            exact hend _ _ _ _ S dX9_together_58
set_option maxRecDepth 100000 in
set_option maxHeartbeats 4000000 in
theorem b_X9_nearest_b74 (C : Cx p s m args c RX9 cX9_nearest 6) {q : Int} {k21 : Int → Int → Int → Int → Option (Int)} (hend : EndR p l e (rmk 4 88) s m args below meth c Q G true τ cX9_nearest .ireturn [.int (oI q)] σ) (hk21 : ∀ {H : Heap} {locs : List Loc} {ls : Array Slot} (v1 : Int) (v2 : Int) (v3 : Int) (v4 : Int), St G true τ σ s H locs → lv_has ls 6 [(0, .ref (G.1 0)), (1, .int (oI v1)), (2, .int (oI v2)), (3, .int (oI v3)), (4, .int (oI v4))] → k21 v1 v2 v3 v4 = some q → W p l e (rmk 4 88) s m args below meth c H locs 0 0 Q (F0 m 21 ls [])) {H : Heap} {locs : List Loc} {ls : Array Slot} (v1 : Int) (v2 : Int) (v3 : Int) (v4 : Int) (S : St G true τ σ s H locs) (hl : lv_has ls 6 [(0, .ref (G.1 0)), (1, .int (oI v1)), (2, .int (oI v2)), (3, .int (oI v3)), (4, .int (oI v4))]) (hf : f_X9_nearest_b74 σ k21 v1 v2 v3 v4 = some q) : W p l e (rmk 4 88) s m args below meth c H locs 0 0 Q (F0 m 74 ls []) := by
  unfold f_X9_nearest_b74 at hf
  refine r_iinc C dX9_nearest_74 hl (k := 4) rfl (by decide) (lv' := [(4, .int (oI (v4 + 1))), (0, .ref (G.1 0)), (1, .int (oI v1)), (2, .int (oI v2)), (3, .int (oI v3))]) rfl (fun ls hl => ?_)
  refine lv_goto C.1 C.2.1 (tgt := 21) dX9_nearest_77 (by decide) ?_
  exact hk21 v1 v2 v3 (v4 + 1) S (lv_sub hl [1, 2, 3, 4, 0] rfl) hf
set_option maxRecDepth 100000 in
set_option maxHeartbeats 4000000 in
theorem b_X9_nearest_b68 (C : Cx p s m args c RX9 cX9_nearest 6) {q : Int} {k21 : Int → Int → Int → Int → Option (Int)} (hend : EndR p l e (rmk 4 88) s m args below meth c Q G true τ cX9_nearest .ireturn [.int (oI q)] σ) (hk21 : ∀ {H : Heap} {locs : List Loc} {ls : Array Slot} (v1 : Int) (v2 : Int) (v3 : Int) (v4 : Int), St G true τ σ s H locs → lv_has ls 6 [(0, .ref (G.1 0)), (1, .int (oI v1)), (2, .int (oI v2)), (3, .int (oI v3)), (4, .int (oI v4))] → k21 v1 v2 v3 v4 = some q → W p l e (rmk 4 88) s m args below meth c H locs 0 0 Q (F0 m 21 ls [])) {H : Heap} {locs : List Loc} {ls : Array Slot} (v1 : Int) (v4 : Int) (v5 : Int) (S : St G true τ σ s H locs) (hl : lv_has ls 6 [(0, .ref (G.1 0)), (1, .int (oI v1)), (4, .int (oI v4)), (5, .int (oI v5))]) (hf : f_X9_nearest_b68 σ k21 v1 v4 v5 = some q) : W p l e (rmk 4 88) s m args below meth c H locs 0 0 Q (F0 m 68 ls []) := by
  unfold f_X9_nearest_b68 at hf
  refine lv_iload C.1 C.2.1 dX9_nearest_68 (lv_at hl 2 rfl) ?_
  refine lv_istore_n C.1 C.2.1 dX9_nearest_70 rfl hl (by decide) (lv' := [(2, .int (oI v4)), (0, .ref (G.1 0)), (1, .int (oI v1)), (4, .int (oI v4)), (5, .int (oI v5))]) rfl (fun ls hl => ?_)
  refine lv_iload C.1 C.2.1 dX9_nearest_71 (lv_at hl 4 rfl) ?_
  refine lv_istore_n C.1 C.2.1 dX9_nearest_73 rfl hl (by decide) (lv' := [(3, .int (oI v5)), (2, .int (oI v4)), (0, .ref (G.1 0)), (1, .int (oI v1)), (4, .int (oI v4)), (5, .int (oI v5))]) rfl (fun ls hl => ?_)
  exact b_X9_nearest_b74 C hend hk21 v1 v4 v5 v4 S (lv_sub hl [2, 3, 1, 0, 4] rfl) hf
set_option maxRecDepth 100000 in
set_option maxHeartbeats 4000000 in
theorem b_X9_nearest_b21 (C : Cx p s m args c RX9 cX9_nearest 6) {q : Int} (hend : EndR p l e (rmk 4 88) s m args below meth c Q G true τ cX9_nearest .ireturn [.int (oI q)] σ) : ∀ (n : Nat) {H : Heap} {locs : List Loc} {ls : Array Slot} (v1 : Int) (v2 : Int) (v3 : Int) (v4 : Int) (S : St G true τ σ s H locs) (hl : lv_has ls 6 [(0, .ref (G.1 0)), (1, .int (oI v1)), (2, .int (oI v2)), (3, .int (oI v3)), (4, .int (oI v4))]) (hf : f_X9_nearest_b21 σ n v1 v2 v3 v4 = some q), W p l e (rmk 4 88) s m args below meth c H locs 0 0 Q (F0 m 21 ls []) := by
  intro n
  induction n with
  | zero => intro H locs ls v1 v2 v3 v4 S hl hf; cases hf
  | succ n ih =>
    intro H locs ls v1 v2 v3 v4 S hl hf
    have hk21 := @ih
    rw [f_X9_nearest_b21] at hf
    refine lv_iload C.1 C.2.1 dX9_nearest_21 (lv_at hl 4 rfl) ?_
    refine r_bipush C dX9_nearest_23 (by decide) ?_
    refine r_icmp_ge C rfl (show w32 24 = 24 by decide) (tgt := 80) dX9_nearest_25 (by decide) (fun h11 => ?_) (fun h11 => ?_)
    · replace hf := if_t hf h11
      refine lv_iload C.1 C.2.1 dX9_nearest_28 (lv_at hl 4 rfl) ?_
      refine lv_iload_n C.1 C.2.1 dX9_nearest_30 rfl (lv_at hl 1 rfl) ?_
      refine r_icmp_eq C rfl rfl (tgt := 74) dX9_nearest_31 (by decide) (fun h10 => ?_) (fun h10 => ?_)
      · replace hf := if_t hf h10
        exact b_X9_nearest_b74 C hend hk21 v1 v2 v3 v4 S (lv_sub hl [0, 1, 2, 3, 4] rfl) hf
      · replace hf := if_f hf h10
        refine lv_aload_n C.1 C.2.1 dX9_nearest_34 rfl (lv_at hl 0 rfl) ?_
        refine g9_book C S tw_282 dX9_nearest_35 ?_
        refine lv_iload C.1 C.2.1 dX9_nearest_38 (lv_at hl 4 rfl) ?_
        obtain ⟨q3, hc4, hf⟩ := bd_o hf
        refine r_callVv C S (rest := []) (ct_X0_has l G τ hc4) mi_X0_has tw_581 mv_X0_has (rvX0 S) ⟨rfl, rfl⟩ ⟨Nat.le_of_ble_eq_true rfl, Nat.le_of_ble_eq_true rfl⟩ ⟨Nat.zero_le _, Nat.zero_le _⟩ rfl hl.1 rfl (Nat.le_of_ble_eq_true rfl) dX9_nearest_40 (fun H locs S => ?_)
        refine r_if_eq C rfl (tgt := 74) dX9_nearest_43 (by decide) (fun h9 => ?_) (fun h9 => ?_)
        · replace hf := if_t hf h9
          exact b_X9_nearest_b74 C hend hk21 v1 v2 v3 v4 S (lv_sub hl [0, 1, 2, 3, 4] rfl) hf
        · replace hf := if_f hf h9
          refine lv_aload_n C.1 C.2.1 dX9_nearest_46 rfl (lv_at hl 0 rfl) ?_
          refine g9_book C S tw_282 dX9_nearest_47 ?_
          refine lv_iload_n C.1 C.2.1 dX9_nearest_50 rfl (lv_at hl 1 rfl) ?_
          refine lv_iload C.1 C.2.1 dX9_nearest_51 (lv_at hl 4 rfl) ?_
          obtain ⟨q5, hc6, hf⟩ := bd_o hf
          refine r_callVv C S (rest := []) (ct_X0_between l G τ hc6) mi_X0_between tw_678 mv_X0_between (rvX0 S) ⟨rfl, rfl⟩ ⟨Nat.le_of_ble_eq_true rfl, Nat.le_of_ble_eq_true rfl⟩ ⟨Nat.zero_le _, Nat.zero_le _⟩ rfl hl.1 rfl (Nat.le_of_ble_eq_true rfl) dX9_nearest_53 (fun H locs S => ?_)
          refine lv_istore C.1 C.2.1 dX9_nearest_56 hl (by decide) (lv' := [(5, .int (oI q5)), (0, .ref (G.1 0)), (1, .int (oI v1)), (2, .int (oI v2)), (3, .int (oI v3)), (4, .int (oI v4))]) rfl (fun ls hl => ?_)
          refine lv_iload_n C.1 C.2.1 dX9_nearest_58 rfl (lv_at hl 3 rfl) ?_
          refine r_if_lt C rfl (tgt := 68) dX9_nearest_59 (by decide) (fun h8 => ?_) (fun h8 => ?_)
          · replace hf := if_t hf h8
            exact b_X9_nearest_b68 C hend hk21 v1 v4 q5 S (lv_sub hl [1, 2, 5, 0] rfl) hf
          · replace hf := if_f hf h8
            refine lv_iload C.1 C.2.1 dX9_nearest_62 (lv_at hl 0 rfl) ?_
            refine lv_iload_n C.1 C.2.1 dX9_nearest_64 rfl (lv_at hl 4 rfl) ?_
            refine r_icmp_ge C rfl rfl (tgt := 74) dX9_nearest_65 (by decide) (fun h7 => ?_) (fun h7 => ?_)
            · replace hf := if_t hf h7
              exact b_X9_nearest_b68 C hend hk21 v1 v4 q5 S (lv_sub hl [1, 2, 5, 0] rfl) hf
            · replace hf := if_f hf h7
              exact b_X9_nearest_b74 C hend hk21 v1 v2 v3 v4 S (lv_sub hl [1, 2, 3, 4, 5] rfl) hf
    · replace hf := if_f hf h11
      refine lv_iload_n C.1 C.2.1 dX9_nearest_80 rfl (lv_at hl 2 rfl) ?_
      cases hf
      exact hend _ _ _ _ S dX9_nearest_81
set_option maxRecDepth 100000 in
set_option maxHeartbeats 4000000 in
theorem ct_X9_nearest (l : Launch) (G : Gd) (τ : Sg) {v1 : Int} {σ : Sg} {q : Int} (hf : f_X9_nearest v1 σ = some q) : Ctr l yX9_nearest cX9_nearest 6 (some .int) (rmk 4 88) G true τ [.ref (G.1 0), .int (oI v1)] σ σ (some (.int (oI q))) := by
  unfold f_X9_nearest at hf
  refine CtrI.of (own := RX9) (plainFor_of_name (by decide)) (Nat.le_of_ble_eq_true rfl) rfl (fun p e s m below meth c Q ls C hl S hend => ?_)
  have hl : lv_has ls 6 [(0, .ref (G.1 0)), (1, .int (oI v1))] := hl
  refine lv_aload_n C.1 C.2.1 dX9_nearest_0 rfl (lv_at hl 0 rfl) ?_
  refine g9_book C S tw_282 dX9_nearest_1 ?_
  refine lv_iload_n C.1 C.2.1 dX9_nearest_4 rfl (lv_at hl 1 rfl) ?_
  obtain ⟨q1, hc2, hf⟩ := bd_o hf
  refine r_callVv C S (rest := []) (ct_X0_has l G τ hc2) mi_X0_has tw_581 mv_X0_has (rvX0 S) ⟨rfl, rfl⟩ ⟨Nat.le_of_ble_eq_true rfl, Nat.le_of_ble_eq_true rfl⟩ ⟨Nat.zero_le _, Nat.zero_le _⟩ rfl hl.1 rfl (Nat.le_of_ble_eq_true rfl) dX9_nearest_5 (fun H locs S => ?_)
  refine r_if_ne C rfl (tgt := 13) dX9_nearest_8 (by decide) (fun h12 => ?_) (fun h12 => ?_)
  · replace hf := if_t hf h12
    refine r_iconst C dX9_nearest_11 ?_
    cases hf
    exact hend _ _ _ _ S dX9_nearest_12
  · replace hf := if_f hf h12
    refine r_bipush C dX9_nearest_13 (by decide) ?_
    refine lv_istore_n C.1 C.2.1 dX9_nearest_15 rfl hl (by decide) (lv' := [(2, .int (oI ((-2)))), (0, .ref (G.1 0)), (1, .int (oI v1))]) rfl (fun ls hl => ?_)
    refine r_iconst C dX9_nearest_16 ?_
    refine lv_istore_n C.1 C.2.1 dX9_nearest_17 rfl hl (by decide) (lv' := [(3, .int (oI 0)), (2, .int (oI ((-2)))), (0, .ref (G.1 0)), (1, .int (oI v1))]) rfl (fun ls hl => ?_)
    refine r_iconst C dX9_nearest_18 ?_
    refine lv_istore C.1 C.2.1 dX9_nearest_19 hl (by decide) (lv' := [(4, .int (oI 0)), (3, .int (oI 0)), (2, .int (oI ((-2)))), (0, .ref (G.1 0)), (1, .int (oI v1))]) rfl (fun ls hl => ?_)
    exact b_X9_nearest_b21 C hend FUEL v1 ((-2)) 0 0 S (lv_sub hl [3, 4, 2, 1, 0] rfl) hf
set_option maxRecDepth 100000 in
set_option maxHeartbeats 4000000 in
theorem b_X9_couples_b62 (C : Cx p s m args c RX9 cX9_couples 4) {q : Int} {k13 : Int → Int → Int → Option (Int)} (hend : EndR p l e (rmk 2 48) s m args below meth c Q G true τ cX9_couples .ireturn [.int (oI q)] σ) (hk13 : ∀ {H : Heap} {locs : List Loc} {ls : Array Slot} (v1 : Int) (v2 : Int) (v3 : Int), St G true τ σ s H locs → lv_has ls 4 [(0, .ref (G.1 0)), (1, .int (oI v1)), (2, .int (oI v2)), (3, .int (oI v3))] → k13 v1 v2 v3 = some q → W p l e (rmk 2 48) s m args below meth c H locs 0 0 Q (F0 m 13 ls [])) {H : Heap} {locs : List Loc} {ls : Array Slot} (v1 : Int) (v2 : Int) (v3 : Int) (S : St G true τ σ s H locs) (hl : lv_has ls 4 [(0, .ref (G.1 0)), (1, .int (oI v1)), (2, .int (oI v2)), (3, .int (oI v3))]) (hf : f_X9_couples_b62 σ k13 v1 v2 v3 = some q) : W p l e (rmk 2 48) s m args below meth c H locs 0 0 Q (F0 m 62 ls []) := by
  unfold f_X9_couples_b62 at hf
  refine r_iinc C dX9_couples_62 hl (k := 3) rfl (by decide) (lv' := [(3, .int (oI (v3 + 1))), (0, .ref (G.1 0)), (1, .int (oI v1)), (2, .int (oI v2))]) rfl (fun ls hl => ?_)
  refine lv_goto C.1 C.2.1 (tgt := 13) dX9_couples_65 (by decide) ?_
  exact hk13 v1 v2 (v3 + 1) S (lv_sub hl [1, 2, 3, 0] rfl) hf
set_option maxRecDepth 100000 in
set_option maxHeartbeats 4000000 in
theorem b_X9_couples_b68 (C : Cx p s m args c RX9 cX9_couples 4) {q : Int} (hend : EndR p l e (rmk 2 48) s m args below meth c Q G true τ cX9_couples .ireturn [.int (oI q)] σ) {H : Heap} {locs : List Loc} {ls : Array Slot} (v2 : Int) (S : St G true τ σ s H locs) (hl : lv_has ls 4 [(2, .int (oI v2))]) (hf : f_X9_couples_b68 σ v2 = some q) : W p l e (rmk 2 48) s m args below meth c H locs 0 0 Q (F0 m 68 ls []) := by
  unfold f_X9_couples_b68 at hf
  refine lv_iload_n C.1 C.2.1 dX9_couples_68 rfl (lv_at hl 0 rfl) ?_
  refine r_iconst C dX9_couples_69 ?_
  obtain ⟨hz14, hf⟩ := ck_o hf
  refine r_idiv C hz14 dX9_couples_70 ?_
  cases hf
  exact hend _ _ _ _ S dX9_couples_71
set_option maxRecDepth 100000 in
set_option maxHeartbeats 4000000 in
theorem b_X9_couples_b13 (C : Cx p s m args c RX9 cX9_couples 4) {q : Int} (hend : EndR p l e (rmk 2 48) s m args below meth c Q G true τ cX9_couples .ireturn [.int (oI q)] σ) : ∀ (n : Nat) {H : Heap} {locs : List Loc} {ls : Array Slot} (v1 : Int) (v2 : Int) (v3 : Int) (S : St G true τ σ s H locs) (hl : lv_has ls 4 [(0, .ref (G.1 0)), (1, .int (oI v1)), (2, .int (oI v2)), (3, .int (oI v3))]) (hf : f_X9_couples_b13 σ n v1 v2 v3 = some q), W p l e (rmk 2 48) s m args below meth c H locs 0 0 Q (F0 m 13 ls []) := by
  intro n
  induction n with
  | zero => intro H locs ls v1 v2 v3 S hl hf; cases hf
  | succ n ih =>
    intro H locs ls v1 v2 v3 S hl hf
    have hk13 := @ih
    rw [f_X9_couples_b13] at hf
    refine lv_iload_n C.1 C.2.1 dX9_couples_13 rfl (lv_at hl 3 rfl) ?_
    refine r_bipush C dX9_couples_14 (by decide) ?_
    refine r_icmp_ge C rfl (show w32 24 = 24 by decide) (tgt := 68) dX9_couples_16 (by decide) (fun h15 => ?_) (fun h15 => ?_)
    · replace hf := if_t hf h15
      refine lv_aload_n C.1 C.2.1 dX9_couples_19 rfl (lv_at hl 0 rfl) ?_
      refine g9_book C S tw_282 dX9_couples_20 ?_
      refine lv_iload_n C.1 C.2.1 dX9_couples_23 rfl (lv_at hl 3 rfl) ?_
      obtain ⟨q3, hc4, hf⟩ := bd_o hf
      refine r_callVv C S (rest := []) (ct_X0_has l G τ hc4) mi_X0_has tw_581 mv_X0_has (rvX0 S) ⟨rfl, rfl⟩ ⟨Nat.le_of_ble_eq_true rfl, Nat.le_of_ble_eq_true rfl⟩ ⟨Nat.zero_le _, Nat.zero_le _⟩ rfl hl.1 rfl (Nat.le_of_ble_eq_true rfl) dX9_couples_24 (fun H locs S => ?_)
      refine r_if_eq C rfl (tgt := 62) dX9_couples_27 (by decide) (fun h13 => ?_) (fun h13 => ?_)
      · replace hf := if_t hf h13
        exact b_X9_couples_b62 C hend hk13 v1 v2 v3 S (lv_sub hl [0, 1, 2, 3] rfl) hf
      · replace hf := if_f hf h13
        refine lv_iload_n C.1 C.2.1 dX9_couples_30 rfl (lv_at hl 2 rfl) ?_
        refine lv_aload_n C.1 C.2.1 dX9_couples_31 rfl (lv_at hl 0 rfl) ?_
        refine g9_book C S tw_282 dX9_couples_32 ?_
        refine lv_aload_n C.1 C.2.1 dX9_couples_35 rfl (lv_at hl 0 rfl) ?_
        refine g9_book C S tw_282 dX9_couples_36 ?_
        refine lv_iload_n C.1 C.2.1 dX9_couples_39 rfl (lv_at hl 3 rfl) ?_
        obtain ⟨q5, hc6, hf⟩ := bd_o hf
        refine r_callVv C S (rest := [.ref (G.1 6), .int (oI v2)]) (ct_X0_xOf l G τ hc6) mi_X0_xOf tw_806 mv_X0_xOf (rvX0 S) ⟨rfl, rfl⟩ ⟨Nat.le_of_ble_eq_true rfl, Nat.le_of_ble_eq_true rfl⟩ ⟨Nat.zero_le _, Nat.zero_le _⟩ rfl hl.1 rfl (Nat.le_of_ble_eq_true rfl) dX9_couples_40 (fun H locs S => ?_)
        refine lv_aload_n C.1 C.2.1 dX9_couples_43 rfl (lv_at hl 0 rfl) ?_
        refine g9_book C S tw_282 dX9_couples_44 ?_
        refine lv_iload_n C.1 C.2.1 dX9_couples_47 rfl (lv_at hl 3 rfl) ?_
        obtain ⟨q7, hc8, hf⟩ := bd_o hf
        refine r_callVv C S (rest := [.int (oI q5), .ref (G.1 6), .int (oI v2)]) (ct_X0_yOf l G τ hc8) mi_X0_yOf tw_813 mv_X0_yOf (rvX0 S) ⟨rfl, rfl⟩ ⟨Nat.le_of_ble_eq_true rfl, Nat.le_of_ble_eq_true rfl⟩ ⟨Nat.zero_le _, Nat.zero_le _⟩ rfl hl.1 rfl (Nat.le_of_ble_eq_true rfl) dX9_couples_48 (fun H locs S => ?_)
        refine lv_iload_n C.1 C.2.1 dX9_couples_51 rfl (lv_at hl 1 rfl) ?_
        obtain ⟨q9, hc10, hf⟩ := bd_o hf
        refine r_callVv C S (rest := [.int (oI v2)]) (ct_X0_within l G τ hc10) mi_X0_within tw_825 mv_X0_within (rvX0 S) ⟨rfl, rfl⟩ ⟨Nat.le_of_ble_eq_true rfl, Nat.le_of_ble_eq_true rfl⟩ ⟨Nat.zero_le _, Nat.zero_le _⟩ rfl hl.1 rfl (Nat.le_of_ble_eq_true rfl) dX9_couples_52 (fun H locs S => ?_)
        obtain ⟨q11, hc12, hf⟩ := bd_o hf
        refine r_callSv C S (rest := [.int (oI v2)]) (ct_J6_bitCount_0f7a4 l G τ hc12) mi_J6_bitCount_0f7a4 tw_646 ms_J6_bitCount_0f7a4 ⟨rfl, rfl⟩ ⟨Nat.le_of_ble_eq_true rfl, Nat.le_of_ble_eq_true rfl⟩ ⟨Nat.zero_le _, Nat.zero_le _⟩ rfl hl.1 rfl (Nat.le_of_ble_eq_true rfl) dX9_couples_55 (fun H locs S => ?_)
        refine r_iconst C dX9_couples_58 ?_
        refine r_isub C dX9_couples_59 ?_
        refine r_iadd C dX9_couples_60 ?_
        refine lv_istore_n C.1 C.2.1 dX9_couples_61 rfl hl (by decide) (lv' := [(2, .int (oI (v2 + (q11 - 1)))), (0, .ref (G.1 0)), (1, .int (oI v1)), (3, .int (oI v3))]) rfl (fun ls hl => ?_)
        exact b_X9_couples_b62 C hend hk13 v1 (v2 + (q11 - 1)) v3 S (lv_sub hl [1, 2, 0, 3] rfl) hf
    · replace hf := if_f hf h15
      exact b_X9_couples_b68 C hend v2 S (lv_sub hl [2] rfl) hf
set_option maxRecDepth 100000 in
set_option maxHeartbeats 4000000 in
theorem ct_X9_couples (l : Launch) (G : Gd) (τ : Sg) {v1 : Int} {σ : Sg} {q : Int} (hf : f_X9_couples v1 σ = some q) : Ctr l yX9_couples cX9_couples 4 (some .int) (rmk 2 48) G true τ [.ref (G.1 0), .int (oI v1)] σ σ (some (.int (oI q))) := by
  unfold f_X9_couples at hf
  refine CtrI.of (own := RX9) (plainFor_of_name (by decide)) (Nat.le_of_ble_eq_true rfl) rfl (fun p e s m below meth c Q ls C hl S hend => ?_)
  have hl : lv_has ls 4 [(0, .ref (G.1 0)), (1, .int (oI v1))] := hl
  refine lv_iload_n C.1 C.2.1 dX9_couples_0 rfl (lv_at hl 1 rfl) ?_
  obtain ⟨q1, hc2, hf⟩ := bd_o hf
  refine r_callSv C S (rest := []) (ct_X9_isReach l G τ hc2) mi_X9_isReach tw_818 ms_X9_isReach ⟨rfl, rfl⟩ ⟨Nat.le_of_ble_eq_true rfl, Nat.le_of_ble_eq_true rfl⟩ ⟨Nat.zero_le _, Nat.zero_le _⟩ rfl hl.1 rfl (Nat.le_of_ble_eq_true rfl) dX9_couples_1 (fun H locs S => ?_)
  refine r_if_ne C rfl (tgt := 9) dX9_couples_4 (by decide) (fun h16 => ?_) (fun h16 => ?_)
  · replace hf := if_t hf h16
    refine r_iconst C dX9_couples_7 ?_
    cases hf
    exact hend _ _ _ _ S dX9_couples_8
  · replace hf := if_f hf h16
    refine r_iconst C dX9_couples_9 ?_
    refine lv_istore_n C.1 C.2.1 dX9_couples_10 rfl hl (by decide) (lv' := [(2, .int (oI 0)), (0, .ref (G.1 0)), (1, .int (oI v1))]) rfl (fun ls hl => ?_)
    refine r_iconst C dX9_couples_11 ?_
    refine lv_istore_n C.1 C.2.1 dX9_couples_12 rfl hl (by decide) (lv' := [(3, .int (oI 0)), (2, .int (oI 0)), (0, .ref (G.1 0)), (1, .int (oI v1))]) rfl (fun ls hl => ?_)
    exact b_X9_couples_b13 C hend FUEL v1 0 0 S (lv_sub hl [2, 3, 1, 0] rfl) hf
set_option maxRecDepth 100000 in
set_option maxHeartbeats 4000000 in
theorem ct_X7_hitAt (l : Launch) (G : Gd) (τ : Sg) {v2 : Int} {σ : Sg} {q : Int} (hf : f_X7_hitAt v2 σ = some q) : Ctr l yX7_hitAt cX7_hitAt 3 (some .int) (rmk 2 48) G true τ [.ref (G.1 17), .ref (G.1 6), .int (oI v2)] σ σ (some (.int (oI q))) := by
  unfold f_X7_hitAt at hf
  refine CtrI.of (own := RX7) (plainFor_of_name (by decide)) (Nat.le_of_ble_eq_true rfl) rfl (fun p e s m below meth c Q ls C hl S hend => ?_)
  have hl : lv_has ls 3 [(0, .ref (G.1 17)), (1, .ref (G.1 6)), (2, .int (oI v2))] := hl
  refine lv_aload_n C.1 C.2.1 dX7_hitAt_0 rfl (lv_at hl 1 rfl) ?_
  refine lv_aload_n C.1 C.2.1 dX7_hitAt_1 rfl (lv_at hl 0 rfl) ?_
  refine g7_x C S tw_210 dX7_hitAt_2 ?_
  refine lv_aload_n C.1 C.2.1 dX7_hitAt_5 rfl (lv_at hl 0 rfl) ?_
  refine g7_toX C S tw_214 dX7_hitAt_6 ?_
  refine lv_iload_n C.1 C.2.1 dX7_hitAt_9 rfl (lv_at hl 2 rfl) ?_
  refine lv_aload_n C.1 C.2.1 dX7_hitAt_10 rfl (lv_at hl 0 rfl) ?_
  refine g7_steps C S tw_218 dX7_hitAt_11 ?_
  obtain ⟨q1, hc2, hf⟩ := bd_o hf
  refine r_callSNv C S (rest := [.ref (G.1 6)]) (ct_X9_onWay l G τ hc2) mi_X9_onWay (nw_917 S.2.2.2) ms_X9_onWay ⟨rfl, rfl⟩ ⟨Nat.le_of_ble_eq_true rfl, Nat.le_of_ble_eq_true rfl⟩ ⟨Nat.zero_le _, Nat.zero_le _⟩ rfl hl.1 rfl (Nat.le_of_ble_eq_true rfl) dX7_hitAt_14 (fun H locs S => ?_)
  refine lv_aload_n C.1 C.2.1 dX7_hitAt_17 rfl (lv_at hl 0 rfl) ?_
  refine g7_y C S tw_212 dX7_hitAt_18 ?_
  refine lv_aload_n C.1 C.2.1 dX7_hitAt_21 rfl (lv_at hl 0 rfl) ?_
  refine g7_toY C S tw_216 dX7_hitAt_22 ?_
  refine lv_iload_n C.1 C.2.1 dX7_hitAt_25 rfl (lv_at hl 2 rfl) ?_
  refine lv_aload_n C.1 C.2.1 dX7_hitAt_26 rfl (lv_at hl 0 rfl) ?_
  refine g7_steps C S tw_218 dX7_hitAt_27 ?_
  obtain ⟨q3, hc4, hf⟩ := bd_o hf
  refine r_callSNv C S (rest := [.int (oI q1), .ref (G.1 6)]) (ct_X9_onWay l G τ hc4) mi_X9_onWay (nw_917 S.2.2.2) ms_X9_onWay ⟨rfl, rfl⟩ ⟨Nat.le_of_ble_eq_true rfl, Nat.le_of_ble_eq_true rfl⟩ ⟨Nat.zero_le _, Nat.zero_le _⟩ rfl hl.1 rfl (Nat.le_of_ble_eq_true rfl) dX7_hitAt_30 (fun H locs S => ?_)
  refine lv_aload_n C.1 C.2.1 dX7_hitAt_33 rfl (lv_at hl 0 rfl) ?_
  refine g7_radius C S tw_208 dX7_hitAt_34 ?_
  obtain ⟨q5, hc6, hf⟩ := bd_o hf
  refine r_callVv C S (rest := []) (ct_X0_within l G τ hc6) mi_X0_within tw_918 mv_X0_within (rvX0 S) ⟨rfl, rfl⟩ ⟨Nat.le_of_ble_eq_true rfl, Nat.le_of_ble_eq_true rfl⟩ ⟨Nat.zero_le _, Nat.zero_le _⟩ rfl hl.1 rfl (Nat.le_of_ble_eq_true rfl) dX7_hitAt_37 (fun H locs S => ?_)
  cases hf
  exact hend _ _ _ _ S dX7_hitAt_40
set_option maxRecDepth 100000 in
set_option maxHeartbeats 4000000 in
theorem b_X7_hits_b4 (C : Cx p s m args c RX7 cX7_hits 4) {q : Int} (hend : EndR p l e (rmk 3 70) s m args below meth c Q G true τ cX7_hits .ireturn [.int (oI q)] σ) : ∀ (n : Nat) {H : Heap} {locs : List Loc} {ls : Array Slot} (v2 : Int) (v3 : Int) (S : St G true τ σ s H locs) (hl : lv_has ls 4 [(0, .ref (G.1 17)), (1, .ref (G.1 6)), (2, .int (oI v2)), (3, .int (oI v3))]) (hf : f_X7_hits_b4 σ n v2 v3 = some q), W p l e (rmk 3 70) s m args below meth c H locs 0 0 Q (F0 m 4 ls []) := by
  intro n
  induction n with
  | zero => intro H locs ls v2 v3 S hl hf; cases hf
  | succ n ih =>
    intro H locs ls v2 v3 S hl hf
    have hk4 := @ih
    rw [f_X7_hits_b4] at hf
    refine lv_iload_n C.1 C.2.1 dX7_hits_4 rfl (lv_at hl 3 rfl) ?_
    refine lv_aload_n C.1 C.2.1 dX7_hits_5 rfl (lv_at hl 0 rfl) ?_
    refine g7_steps C S tw_218 dX7_hits_6 ?_
    refine r_icmp_gt C rfl rfl (tgt := 27) dX7_hits_9 (by decide) (fun h3 => ?_) (fun h3 => ?_)
    · replace hf := if_t hf h3
      refine lv_iload_n C.1 C.2.1 dX7_hits_12 rfl (lv_at hl 2 rfl) ?_
      refine lv_aload_n C.1 C.2.1 dX7_hits_13 rfl (lv_at hl 0 rfl) ?_
      refine lv_aload_n C.1 C.2.1 dX7_hits_14 rfl (lv_at hl 1 rfl) ?_
      refine lv_iload_n C.1 C.2.1 dX7_hits_15 rfl (lv_at hl 3 rfl) ?_
      obtain ⟨q1, hc2, hf⟩ := bd_o hf
      refine r_callVv C S (rest := [.int (oI v2)]) (ct_X7_hitAt l G τ hc2) mi_X7_hitAt tw_913 mv_X7_hitAt (rvX7 S) ⟨rfl, rfl⟩ ⟨Nat.le_of_ble_eq_true rfl, Nat.le_of_ble_eq_true rfl⟩ ⟨Nat.zero_le _, Nat.zero_le _⟩ rfl hl.1 rfl (Nat.le_of_ble_eq_true rfl) dX7_hits_16 (fun H locs S => ?_)
      refine r_ior C rfl rfl dX7_hits_19 ?_
      refine lv_istore_n C.1 C.2.1 dX7_hits_20 rfl hl (by decide) (lv' := [(2, .int (oI ((((u32 v2) ||| (u32 q1) : Nat) : Int)))), (0, .ref (G.1 17)), (1, .ref (G.1 6)), (3, .int (oI v3))]) rfl (fun ls hl => ?_)
      refine r_iinc C dX7_hits_21 hl (k := 3) rfl (by decide) (lv' := [(3, .int (oI (v3 + 1))), (2, .int (oI ((((u32 v2) ||| (u32 q1) : Nat) : Int)))), (0, .ref (G.1 17)), (1, .ref (G.1 6))]) rfl (fun ls hl => ?_)
      refine lv_goto C.1 C.2.1 (tgt := 4) dX7_hits_24 (by decide) ?_
      exact hk4 ((((u32 v2) ||| (u32 q1) : Nat) : Int)) (v3 + 1) S (lv_sub hl [2, 3, 1, 0] rfl) hf
    · replace hf := if_f hf h3
      refine lv_iload_n C.1 C.2.1 dX7_hits_27 rfl (lv_at hl 2 rfl) ?_
      cases hf
      exact hend _ _ _ _ S dX7_hits_28
set_option maxRecDepth 100000 in
set_option maxHeartbeats 4000000 in
theorem ct_X7_hits (l : Launch) (G : Gd) (τ : Sg) {σ : Sg} {q : Int} (hf : f_X7_hits σ = some q) : Ctr l yX7_hits cX7_hits 4 (some .int) (rmk 3 70) G true τ [.ref (G.1 17), .ref (G.1 6)] σ σ (some (.int (oI q))) := by
  unfold f_X7_hits at hf
  refine CtrI.of (own := RX7) (plainFor_of_name (by decide)) (Nat.le_of_ble_eq_true rfl) rfl (fun p e s m below meth c Q ls C hl S hend => ?_)
  have hl : lv_has ls 4 [(0, .ref (G.1 17)), (1, .ref (G.1 6))] := hl
  refine r_iconst C dX7_hits_0 ?_
  refine lv_istore_n C.1 C.2.1 dX7_hits_1 rfl hl (by decide) (lv' := [(2, .int (oI 0)), (0, .ref (G.1 17)), (1, .ref (G.1 6))]) rfl (fun ls hl => ?_)
  refine r_iconst C dX7_hits_2 ?_
  refine lv_istore_n C.1 C.2.1 dX7_hits_3 rfl hl (by decide) (lv' := [(3, .int (oI 0)), (2, .int (oI 0)), (0, .ref (G.1 17)), (1, .ref (G.1 6))]) rfl (fun ls hl => ?_)
  exact b_X7_hits_b4 C hend FUEL 0 0 S (lv_sub hl [2, 3, 1, 0] rfl) hf
set_option maxRecDepth 100000 in
set_option maxHeartbeats 4000000 in
theorem ct_X9_storm (l : Launch) (G : Gd) (τ : Sg) {v1 : Int} {v2 : Int} {v3 : Int} {v4 : Int} {v5 : Int} {v6 : Int} {σ : Sg} {q : Int × Sg} (hf : f_X9_storm v1 v2 v3 v4 v5 v6 σ = some q) : Ctr l yX9_storm cX9_storm 7 (some .int) (rmk 4 93) G true τ [.ref (G.1 0), .int (oI v1), .int (oI v2), .int (oI v3), .int (oI v4), .int (oI v5), .int (oI v6)] σ q.2 (some (.int (oI q.1))) := by
  unfold f_X9_storm at hf
  refine CtrI.of (own := RX9) (plainFor_of_name (by decide)) (Nat.le_of_ble_eq_true rfl) rfl (fun p e s m below meth c Q ls C hl S hend => ?_)
  have hl : lv_has ls 7 [(0, .ref (G.1 0)), (1, .int (oI v1)), (2, .int (oI v2)), (3, .int (oI v3)), (4, .int (oI v4)), (5, .int (oI v5)), (6, .int (oI v6))] := hl
  refine lv_iload_n C.1 C.2.1 dX9_storm_0 rfl (lv_at hl 1 rfl) ?_
  obtain ⟨q1, hc2, hf⟩ := bd_o hf
  refine r_callSv C S (rest := []) (ct_X9_isReach l G τ hc2) mi_X9_isReach tw_818 ms_X9_isReach ⟨rfl, rfl⟩ ⟨Nat.le_of_ble_eq_true rfl, Nat.le_of_ble_eq_true rfl⟩ ⟨Nat.zero_le _, Nat.zero_le _⟩ rfl hl.1 rfl (Nat.le_of_ble_eq_true rfl) dX9_storm_1 (fun H locs S => ?_)
  refine r_if_eq C rfl (tgt := 38) dX9_storm_4 (by decide) (fun h22 => ?_) (fun h22 => ?_)
  · replace hf := if_t hf h22
    refine r_iconst C dX9_storm_38 ?_
    cases hf
    exact hend _ _ _ _ S dX9_storm_39
  · replace hf := if_f hf h22
    refine lv_iload_n C.1 C.2.1 dX9_storm_7 rfl (lv_at hl 2 rfl) ?_
    refine lv_iload_n C.1 C.2.1 dX9_storm_8 rfl (lv_at hl 3 rfl) ?_
    obtain ⟨q3, hc4, hf⟩ := bd_o hf
    refine r_callSv C S (rest := []) (ct_X9_isPlace l G τ hc4) mi_X9_isPlace tw_549 ms_X9_isPlace ⟨rfl, rfl⟩ ⟨Nat.le_of_ble_eq_true rfl, Nat.le_of_ble_eq_true rfl⟩ ⟨Nat.zero_le _, Nat.zero_le _⟩ rfl hl.1 rfl (Nat.le_of_ble_eq_true rfl) dX9_storm_9 (fun H locs S => ?_)
    refine r_if_eq C rfl (tgt := 38) dX9_storm_12 (by decide) (fun h21 => ?_) (fun h21 => ?_)
    · replace hf := if_t hf h21
      refine r_iconst C dX9_storm_38 ?_
      cases hf
      exact hend _ _ _ _ S dX9_storm_39
    · replace hf := if_f hf h21
      refine lv_iload C.1 C.2.1 dX9_storm_15 (lv_at hl 4 rfl) ?_
      refine lv_iload C.1 C.2.1 dX9_storm_17 (lv_at hl 5 rfl) ?_
      obtain ⟨q5, hc6, hf⟩ := bd_o hf
      refine r_callSv C S (rest := []) (ct_X9_isPlace l G τ hc6) mi_X9_isPlace tw_549 ms_X9_isPlace ⟨rfl, rfl⟩ ⟨Nat.le_of_ble_eq_true rfl, Nat.le_of_ble_eq_true rfl⟩ ⟨Nat.zero_le _, Nat.zero_le _⟩ rfl hl.1 rfl (Nat.le_of_ble_eq_true rfl) dX9_storm_19 (fun H locs S => ?_)
      refine r_if_eq C rfl (tgt := 38) dX9_storm_22 (by decide) (fun h20 => ?_) (fun h20 => ?_)
      · replace hf := if_t hf h20
        refine r_iconst C dX9_storm_38 ?_
        cases hf
        exact hend _ _ _ _ S dX9_storm_39
      · replace hf := if_f hf h20
        refine lv_iload C.1 C.2.1 dX9_storm_25 (lv_at hl 6 rfl) ?_
        refine r_iconst C dX9_storm_27 ?_
        refine r_icmp_lt C rfl (show w32 1 = 1 by decide) (tgt := 38) dX9_storm_28 (by decide) (fun h19 => ?_) (fun h19 => ?_)
        · replace hf := if_t hf h19
          refine r_iconst C dX9_storm_38 ?_
          cases hf
          exact hend _ _ _ _ S dX9_storm_39
        · replace hf := if_f hf h19
          refine lv_iload C.1 C.2.1 dX9_storm_31 (lv_at hl 6 rfl) ?_
          refine r_bipush C dX9_storm_33 (by decide) ?_
          refine r_icmp_le C rfl (show w32 100 = 100 by decide) (tgt := 40) dX9_storm_35 (by decide) (fun h18 => ?_) (fun h18 => ?_)
          · replace hf := if_t hf h18
            refine lv_aload_n C.1 C.2.1 dX9_storm_40 rfl (lv_at hl 0 rfl) ?_
            refine g9_track C S tw_287 dX9_storm_41 ?_
            refine r_iconst C dX9_storm_44 ?_
            refine p7_told C S tw_207 (by decide) dX9_storm_45 (fun H locs S => ?_)
            obtain ⟨σ7, S, hf⟩ := wr_s S hf
            refine lv_aload_n C.1 C.2.1 dX9_storm_48 rfl (lv_at hl 0 rfl) ?_
            refine g9_track C S tw_287 dX9_storm_49 ?_
            refine lv_iload_n C.1 C.2.1 dX9_storm_52 rfl (lv_at hl 1 rfl) ?_
            refine p7_radius C S tw_209 dX9_storm_53 (fun H locs S => ?_)
            obtain ⟨σ8, S, hf⟩ := wr_s S hf
            refine lv_aload_n C.1 C.2.1 dX9_storm_56 rfl (lv_at hl 0 rfl) ?_
            refine g9_track C S tw_287 dX9_storm_57 ?_
            refine lv_iload_n C.1 C.2.1 dX9_storm_60 rfl (lv_at hl 2 rfl) ?_
            refine p7_x C S tw_211 dX9_storm_61 (fun H locs S => ?_)
            obtain ⟨σ9, S, hf⟩ := wr_s S hf
            refine lv_aload_n C.1 C.2.1 dX9_storm_64 rfl (lv_at hl 0 rfl) ?_
            refine g9_track C S tw_287 dX9_storm_65 ?_
            refine lv_iload_n C.1 C.2.1 dX9_storm_68 rfl (lv_at hl 3 rfl) ?_
            refine p7_y C S tw_213 dX9_storm_69 (fun H locs S => ?_)
            obtain ⟨σ10, S, hf⟩ := wr_s S hf
            refine lv_aload_n C.1 C.2.1 dX9_storm_72 rfl (lv_at hl 0 rfl) ?_
            refine g9_track C S tw_287 dX9_storm_73 ?_
            refine lv_iload C.1 C.2.1 dX9_storm_76 (lv_at hl 4 rfl) ?_
            refine p7_toX C S tw_215 dX9_storm_78 (fun H locs S => ?_)
            obtain ⟨σ11, S, hf⟩ := wr_s S hf
            refine lv_aload_n C.1 C.2.1 dX9_storm_81 rfl (lv_at hl 0 rfl) ?_
            refine g9_track C S tw_287 dX9_storm_82 ?_
            refine lv_iload C.1 C.2.1 dX9_storm_85 (lv_at hl 5 rfl) ?_
            refine p7_toY C S tw_217 dX9_storm_87 (fun H locs S => ?_)
            obtain ⟨σ12, S, hf⟩ := wr_s S hf
            refine lv_aload_n C.1 C.2.1 dX9_storm_90 rfl (lv_at hl 0 rfl) ?_
            refine g9_track C S tw_287 dX9_storm_91 ?_
            refine lv_iload C.1 C.2.1 dX9_storm_94 (lv_at hl 6 rfl) ?_
            refine p7_steps C S tw_219 dX9_storm_96 (fun H locs S => ?_)
            obtain ⟨σ13, S, hf⟩ := wr_s S hf
            refine lv_aload_n C.1 C.2.1 dX9_storm_99 rfl (lv_at hl 0 rfl) ?_
            refine g9_track C S tw_287 dX9_storm_100 ?_
            refine lv_aload_n C.1 C.2.1 dX9_storm_103 rfl (lv_at hl 0 rfl) ?_
            refine g9_book C S tw_282 dX9_storm_104 ?_
            obtain ⟨q14, hc15, hf⟩ := bd_o hf
            refine r_callVv C S (rest := []) (ct_X7_hits l G τ hc15) mi_X7_hits tw_909 mv_X7_hits (rvX7 S) ⟨rfl, rfl⟩ ⟨Nat.le_of_ble_eq_true rfl, Nat.le_of_ble_eq_true rfl⟩ ⟨Nat.zero_le _, Nat.zero_le _⟩ rfl hl.1 rfl (Nat.le_of_ble_eq_true rfl) dX9_storm_107 (fun H locs S => ?_)
            obtain ⟨q16, hc17, hf⟩ := bd_o hf
            refine r_callSv C S (rest := []) (ct_J6_bitCount_0f7a4 l G τ hc17) mi_J6_bitCount_0f7a4 tw_646 ms_J6_bitCount_0f7a4 ⟨rfl, rfl⟩ ⟨Nat.le_of_ble_eq_true rfl, Nat.le_of_ble_eq_true rfl⟩ ⟨Nat.zero_le _, Nat.zero_le _⟩ rfl hl.1 rfl (Nat.le_of_ble_eq_true rfl) dX9_storm_110 (fun H locs S => ?_)
            cases hf
            exact hend _ _ _ _ S dX9_storm_113
          · replace hf := if_f hf h18
            refine r_iconst C dX9_storm_38 ?_
            cases hf
            exact hend _ _ _ _ S dX9_storm_39
set_option maxRecDepth 100000 in
set_option maxHeartbeats 4000000 in
theorem b_X7_fiercest_b41 (C : Cx p s m args c RX7 cX7_fiercest 6) {q : Int} {k7 : Int → Int → Int → Option (Int)} (hend : EndR p l e (rmk 3 70) s m args below meth c Q G true τ cX7_fiercest .ireturn [.int (oI q)] σ) (hk7 : ∀ {H : Heap} {locs : List Loc} {ls : Array Slot} (v2 : Int) (v3 : Int) (v4 : Int), St G true τ σ s H locs → lv_has ls 6 [(0, .ref (G.1 17)), (1, .ref (G.1 6)), (2, .int (oI v2)), (3, .int (oI v3)), (4, .int (oI v4))] → k7 v2 v3 v4 = some q → W p l e (rmk 3 70) s m args below meth c H locs 0 0 Q (F0 m 7 ls [])) {H : Heap} {locs : List Loc} {ls : Array Slot} (v2 : Int) (v3 : Int) (v4 : Int) (S : St G true τ σ s H locs) (hl : lv_has ls 6 [(0, .ref (G.1 17)), (1, .ref (G.1 6)), (2, .int (oI v2)), (3, .int (oI v3)), (4, .int (oI v4))]) (hf : f_X7_fiercest_b41 σ k7 v2 v3 v4 = some q) : W p l e (rmk 3 70) s m args below meth c H locs 0 0 Q (F0 m 41 ls []) := by
  unfold f_X7_fiercest_b41 at hf
  refine r_iinc C dX7_fiercest_41 hl (k := 4) rfl (by decide) (lv' := [(4, .int (oI (v4 + 1))), (0, .ref (G.1 17)), (1, .ref (G.1 6)), (2, .int (oI v2)), (3, .int (oI v3))]) rfl (fun ls hl => ?_)
  refine lv_goto C.1 C.2.1 (tgt := 7) dX7_fiercest_44 (by decide) ?_
  exact hk7 v2 v3 (v4 + 1) S (lv_sub hl [1, 2, 3, 4, 0] rfl) hf
set_option maxRecDepth 100000 in
set_option maxHeartbeats 4000000 in
theorem b_X7_fiercest_b7 (C : Cx p s m args c RX7 cX7_fiercest 6) {q : Int} (hend : EndR p l e (rmk 3 70) s m args below meth c Q G true τ cX7_fiercest .ireturn [.int (oI q)] σ) : ∀ (n : Nat) {H : Heap} {locs : List Loc} {ls : Array Slot} (v2 : Int) (v3 : Int) (v4 : Int) (S : St G true τ σ s H locs) (hl : lv_has ls 6 [(0, .ref (G.1 17)), (1, .ref (G.1 6)), (2, .int (oI v2)), (3, .int (oI v3)), (4, .int (oI v4))]) (hf : f_X7_fiercest_b7 σ n v2 v3 v4 = some q), W p l e (rmk 3 70) s m args below meth c H locs 0 0 Q (F0 m 7 ls []) := by
  intro n
  induction n with
  | zero => intro H locs ls v2 v3 v4 S hl hf; cases hf
  | succ n ih =>
    intro H locs ls v2 v3 v4 S hl hf
    have hk7 := @ih
    rw [f_X7_fiercest_b7] at hf
    refine lv_iload C.1 C.2.1 dX7_fiercest_7 (lv_at hl 4 rfl) ?_
    refine lv_aload_n C.1 C.2.1 dX7_fiercest_9 rfl (lv_at hl 0 rfl) ?_
    refine g7_steps C S tw_218 dX7_fiercest_10 ?_
    refine r_icmp_gt C rfl rfl (tgt := 47) dX7_fiercest_13 (by decide) (fun h6 => ?_) (fun h6 => ?_)
    · replace hf := if_t hf h6
      refine lv_aload_n C.1 C.2.1 dX7_fiercest_16 rfl (lv_at hl 1 rfl) ?_
      refine lv_aload_n C.1 C.2.1 dX7_fiercest_17 rfl (lv_at hl 0 rfl) ?_
      refine lv_aload_n C.1 C.2.1 dX7_fiercest_18 rfl (lv_at hl 1 rfl) ?_
      refine lv_iload C.1 C.2.1 dX7_fiercest_19 (lv_at hl 4 rfl) ?_
      obtain ⟨q1, hc2, hf⟩ := bd_o hf
      refine r_callVv C S (rest := [.ref (G.1 6)]) (ct_X7_hitAt l G τ hc2) mi_X7_hitAt tw_913 mv_X7_hitAt (rvX7 S) ⟨rfl, rfl⟩ ⟨Nat.le_of_ble_eq_true rfl, Nat.le_of_ble_eq_true rfl⟩ ⟨Nat.zero_le _, Nat.zero_le _⟩ rfl hl.1 rfl (Nat.le_of_ble_eq_true rfl) dX7_fiercest_21 (fun H locs S => ?_)
      obtain ⟨q3, hc4, hf⟩ := bd_o hf
      refine r_callVv C S (rest := []) (ct_X0_sums l G τ hc4) mi_X0_sums tw_927 mv_X0_sums (rvX0 S) ⟨rfl, rfl⟩ ⟨Nat.le_of_ble_eq_true rfl, Nat.le_of_ble_eq_true rfl⟩ ⟨Nat.zero_le _, Nat.zero_le _⟩ rfl hl.1 rfl (Nat.le_of_ble_eq_true rfl) dX7_fiercest_24 (fun H locs S => ?_)
      refine lv_istore C.1 C.2.1 dX7_fiercest_27 hl (by decide) (lv' := [(5, .int (oI q3)), (0, .ref (G.1 17)), (1, .ref (G.1 6)), (2, .int (oI v2)), (3, .int (oI v3)), (4, .int (oI v4))]) rfl (fun ls hl => ?_)
      refine lv_iload C.1 C.2.1 dX7_fiercest_29 (lv_at hl 0 rfl) ?_
      refine lv_iload_n C.1 C.2.1 dX7_fiercest_31 rfl (lv_at hl 4 rfl) ?_
      refine r_icmp_le C rfl rfl (tgt := 41) dX7_fiercest_32 (by decide) (fun h5 => ?_) (fun h5 => ?_)
      · replace hf := if_t hf h5
        exact b_X7_fiercest_b41 C hend hk7 v2 v3 v4 S (lv_sub hl [1, 2, 3, 4, 5] rfl) hf
      · replace hf := if_f hf h5
        refine lv_iload C.1 C.2.1 dX7_fiercest_35 (lv_at hl 5 rfl) ?_
        refine lv_istore_n C.1 C.2.1 dX7_fiercest_37 rfl hl (by decide) (lv' := [(2, .int (oI v4)), (5, .int (oI q3)), (0, .ref (G.1 17)), (1, .ref (G.1 6)), (3, .int (oI v3)), (4, .int (oI v4))]) rfl (fun ls hl => ?_)
        refine lv_iload C.1 C.2.1 dX7_fiercest_38 (lv_at hl 1 rfl) ?_
        refine lv_istore_n C.1 C.2.1 dX7_fiercest_40 rfl hl (by decide) (lv' := [(3, .int (oI q3)), (2, .int (oI v4)), (5, .int (oI q3)), (0, .ref (G.1 17)), (1, .ref (G.1 6)), (4, .int (oI v4))]) rfl (fun ls hl => ?_)
        exact b_X7_fiercest_b41 C hend hk7 v4 q3 v4 S (lv_sub hl [3, 4, 1, 0, 5] rfl) hf
    · replace hf := if_f hf h6
      refine lv_iload_n C.1 C.2.1 dX7_fiercest_47 rfl (lv_at hl 2 rfl) ?_
      cases hf
      exact hend _ _ _ _ S dX7_fiercest_48
set_option maxRecDepth 100000 in
set_option maxHeartbeats 4000000 in
theorem ct_X7_fiercest (l : Launch) (G : Gd) (τ : Sg) {σ : Sg} {q : Int} (hf : f_X7_fiercest σ = some q) : Ctr l yX7_fiercest cX7_fiercest 6 (some .int) (rmk 3 70) G true τ [.ref (G.1 17), .ref (G.1 6)] σ σ (some (.int (oI q))) := by
  unfold f_X7_fiercest at hf
  refine CtrI.of (own := RX7) (plainFor_of_name (by decide)) (Nat.le_of_ble_eq_true rfl) rfl (fun p e s m below meth c Q ls C hl S hend => ?_)
  have hl : lv_has ls 6 [(0, .ref (G.1 17)), (1, .ref (G.1 6))] := hl
  refine r_iconst C dX7_fiercest_0 ?_
  refine lv_istore_n C.1 C.2.1 dX7_fiercest_1 rfl hl (by decide) (lv' := [(2, .int (oI 0)), (0, .ref (G.1 17)), (1, .ref (G.1 6))]) rfl (fun ls hl => ?_)
  refine r_iconst C dX7_fiercest_2 ?_
  refine lv_istore_n C.1 C.2.1 dX7_fiercest_3 rfl hl (by decide) (lv' := [(3, .int (oI 0)), (2, .int (oI 0)), (0, .ref (G.1 17)), (1, .ref (G.1 6))]) rfl (fun ls hl => ?_)
  refine r_iconst C dX7_fiercest_4 ?_
  refine lv_istore C.1 C.2.1 dX7_fiercest_5 hl (by decide) (lv' := [(4, .int (oI 0)), (3, .int (oI 0)), (2, .int (oI 0)), (0, .ref (G.1 17)), (1, .ref (G.1 6))]) rfl (fun ls hl => ?_)
  exact b_X7_fiercest_b7 C hend FUEL 0 0 0 S (lv_sub hl [3, 4, 2, 1, 0] rfl) hf
set_option maxRecDepth 100000 in
set_option maxHeartbeats 4000000 in
theorem ct_X9_hit (l : Launch) (G : Gd) (τ : Sg) {v1 : Int} {σ : Sg} {q : Int} (hf : f_X9_hit v1 σ = some q) : Ctr l yX9_hit cX9_hit 2 (some .int) (rmk 4 95) G true τ [.ref (G.1 0), .int (oI v1)] σ σ (some (.int (oI q))) := by
  unfold f_X9_hit at hf
  refine CtrI.of (own := RX9) (plainFor_of_name (by decide)) (Nat.le_of_ble_eq_true rfl) rfl (fun p e s m below meth c Q ls C hl S hend => ?_)
  have hl : lv_has ls 2 [(0, .ref (G.1 0)), (1, .int (oI v1))] := hl
  refine lv_iload_n C.1 C.2.1 dX9_hit_0 rfl (lv_at hl 1 rfl) ?_
  refine r_if_lt C rfl (tgt := 9) dX9_hit_1 (by decide) (fun h17 => ?_) (fun h17 => ?_)
  · replace hf := if_t hf h17
    refine r_iconst C dX9_hit_9 ?_
    cases hf
    exact hend _ _ _ _ S dX9_hit_10
  · replace hf := if_f hf h17
    refine lv_iload_n C.1 C.2.1 dX9_hit_4 rfl (lv_at hl 1 rfl) ?_
    refine r_iconst C dX9_hit_5 ?_
    refine r_icmp_le C rfl (show w32 3 = 3 by decide) (tgt := 11) dX9_hit_6 (by decide) (fun h16 => ?_) (fun h16 => ?_)
    · replace hf := if_t hf h16
      refine lv_aload_n C.1 C.2.1 dX9_hit_11 rfl (lv_at hl 0 rfl) ?_
      refine g9_track C S tw_287 dX9_hit_12 ?_
      refine g7_told C S tw_207 dX9_hit_15 ?_
      refine r_if_ne C rfl (tgt := 24) dX9_hit_18 (by decide) (fun h15 => ?_) (fun h15 => ?_)
      · replace hf := if_t hf h15
        refine r_bipush C dX9_hit_21 (by decide) ?_
        cases hf
        exact hend _ _ _ _ S dX9_hit_23
      · replace hf := if_f hf h15
        refine lv_iload_n C.1 C.2.1 dX9_hit_24 rfl (lv_at hl 1 rfl) ?_
        by_cases hs0 : w32 v1 = 0
        · replace hf := if_t hf hs0
          refine r_tabIn C (tgt := 52) (v := 0) dX9_hit_25 hs0 (by decide) (by decide) rfl (by decide) ?_
          refine lv_aload_n C.1 C.2.1 dX9_hit_52 rfl (lv_at hl 0 rfl) ?_
          refine g9_track C S tw_287 dX9_hit_53 ?_
          refine lv_aload_n C.1 C.2.1 dX9_hit_56 rfl (lv_at hl 0 rfl) ?_
          refine g9_book C S tw_282 dX9_hit_57 ?_
          obtain ⟨q1, hc2, hf⟩ := bd_o hf
          refine r_callVv C S (rest := []) (ct_X7_hits l G τ hc2) mi_X7_hits tw_909 mv_X7_hits (rvX7 S) ⟨rfl, rfl⟩ ⟨Nat.le_of_ble_eq_true rfl, Nat.le_of_ble_eq_true rfl⟩ ⟨Nat.zero_le _, Nat.zero_le _⟩ rfl hl.1 rfl (Nat.le_of_ble_eq_true rfl) dX9_hit_60 (fun H locs S => ?_)
          cases hf
          exact hend _ _ _ _ S dX9_hit_63
        · replace hf := if_f hf hs0
          by_cases hs1 : w32 v1 = 1
          · replace hf := if_t hf hs1
            refine r_tabIn C (tgt := 64) (v := 1) dX9_hit_25 hs1 (by decide) (by decide) rfl (by decide) ?_
            refine lv_aload_n C.1 C.2.1 dX9_hit_64 rfl (lv_at hl 0 rfl) ?_
            refine g9_book C S tw_282 dX9_hit_65 ?_
            refine lv_aload_n C.1 C.2.1 dX9_hit_68 rfl (lv_at hl 0 rfl) ?_
            refine g9_track C S tw_287 dX9_hit_69 ?_
            refine lv_aload_n C.1 C.2.1 dX9_hit_72 rfl (lv_at hl 0 rfl) ?_
            refine g9_book C S tw_282 dX9_hit_73 ?_
            obtain ⟨q3, hc4, hf⟩ := bd_o hf
            refine r_callVv C S (rest := [.ref (G.1 6)]) (ct_X7_hits l G τ hc4) mi_X7_hits tw_909 mv_X7_hits (rvX7 S) ⟨rfl, rfl⟩ ⟨Nat.le_of_ble_eq_true rfl, Nat.le_of_ble_eq_true rfl⟩ ⟨Nat.zero_le _, Nat.zero_le _⟩ rfl hl.1 rfl (Nat.le_of_ble_eq_true rfl) dX9_hit_76 (fun H locs S => ?_)
            obtain ⟨q5, hc6, hf⟩ := bd_o hf
            refine r_callVv C S (rest := []) (ct_X0_sums l G τ hc6) mi_X0_sums tw_652 mv_X0_sums (rvX0 S) ⟨rfl, rfl⟩ ⟨Nat.le_of_ble_eq_true rfl, Nat.le_of_ble_eq_true rfl⟩ ⟨Nat.zero_le _, Nat.zero_le _⟩ rfl hl.1 rfl (Nat.le_of_ble_eq_true rfl) dX9_hit_79 (fun H locs S => ?_)
            cases hf
            exact hend _ _ _ _ S dX9_hit_82
          · replace hf := if_f hf hs1
            by_cases hs2 : w32 v1 = 2
            · replace hf := if_t hf hs2
              refine r_tabIn C (tgt := 83) (v := 2) dX9_hit_25 hs2 (by decide) (by decide) rfl (by decide) ?_
              refine lv_aload_n C.1 C.2.1 dX9_hit_83 rfl (lv_at hl 0 rfl) ?_
              refine g9_track C S tw_287 dX9_hit_84 ?_
              refine lv_aload_n C.1 C.2.1 dX9_hit_87 rfl (lv_at hl 0 rfl) ?_
              refine g9_book C S tw_282 dX9_hit_88 ?_
              obtain ⟨q7, hc8, hf⟩ := bd_o hf
              refine r_callVv C S (rest := []) (ct_X7_fiercest l G τ hc8) mi_X7_fiercest tw_923 mv_X7_fiercest (rvX7 S) ⟨rfl, rfl⟩ ⟨Nat.le_of_ble_eq_true rfl, Nat.le_of_ble_eq_true rfl⟩ ⟨Nat.zero_le _, Nat.zero_le _⟩ rfl hl.1 rfl (Nat.le_of_ble_eq_true rfl) dX9_hit_91 (fun H locs S => ?_)
              cases hf
              exact hend _ _ _ _ S dX9_hit_94
            · replace hf := if_f hf hs2
              refine r_tabOut C (tgt := 95) dX9_hit_25 (by omega) (by decide) ?_
              refine lv_aload_n C.1 C.2.1 dX9_hit_95 rfl (lv_at hl 0 rfl) ?_
              refine g9_book C S tw_282 dX9_hit_96 ?_
              refine lv_aload_n C.1 C.2.1 dX9_hit_99 rfl (lv_at hl 0 rfl) ?_
              refine g9_track C S tw_287 dX9_hit_100 ?_
              refine lv_aload_n C.1 C.2.1 dX9_hit_103 rfl (lv_at hl 0 rfl) ?_
              refine g9_book C S tw_282 dX9_hit_104 ?_
              refine lv_aload_n C.1 C.2.1 dX9_hit_107 rfl (lv_at hl 0 rfl) ?_
              refine g9_track C S tw_287 dX9_hit_108 ?_
              refine lv_aload_n C.1 C.2.1 dX9_hit_111 rfl (lv_at hl 0 rfl) ?_
              refine g9_book C S tw_282 dX9_hit_112 ?_
              obtain ⟨q9, hc10, hf⟩ := bd_o hf
              refine r_callVv C S (rest := [.ref (G.1 6), .ref (G.1 17), .ref (G.1 6)]) (ct_X7_fiercest l G τ hc10) mi_X7_fiercest tw_923 mv_X7_fiercest (rvX7 S) ⟨rfl, rfl⟩ ⟨Nat.le_of_ble_eq_true rfl, Nat.le_of_ble_eq_true rfl⟩ ⟨Nat.zero_le _, Nat.zero_le _⟩ rfl hl.1 rfl (Nat.le_of_ble_eq_true rfl) dX9_hit_115 (fun H locs S => ?_)
              obtain ⟨q11, hc12, hf⟩ := bd_o hf
              refine r_callVv C S (rest := [.ref (G.1 6)]) (ct_X7_hitAt l G τ hc12) mi_X7_hitAt tw_928 mv_X7_hitAt (rvX7 S) ⟨rfl, rfl⟩ ⟨Nat.le_of_ble_eq_true rfl, Nat.le_of_ble_eq_true rfl⟩ ⟨Nat.zero_le _, Nat.zero_le _⟩ rfl hl.1 rfl (Nat.le_of_ble_eq_true rfl) dX9_hit_118 (fun H locs S => ?_)
              obtain ⟨q13, hc14, hf⟩ := bd_o hf
              refine r_callVv C S (rest := []) (ct_X0_sums l G τ hc14) mi_X0_sums tw_652 mv_X0_sums (rvX0 S) ⟨rfl, rfl⟩ ⟨Nat.le_of_ble_eq_true rfl, Nat.le_of_ble_eq_true rfl⟩ ⟨Nat.zero_le _, Nat.zero_le _⟩ rfl hl.1 rfl (Nat.le_of_ble_eq_true rfl) dX9_hit_121 (fun H locs S => ?_)
              cases hf
              exact hend _ _ _ _ S dX9_hit_124
    · replace hf := if_f hf h16
      refine r_iconst C dX9_hit_9 ?_
      cases hf
      exact hend _ _ _ _ S dX9_hit_10
set_option maxRecDepth 100000 in
set_option maxHeartbeats 4000000 in
theorem ct_X9_pays (l : Launch) (G : Gd) (τ : Sg) {v1 : Int} {σ : Sg} {q : Int} (hf : f_X9_pays v1 σ = some q) : Ctr l yX9_pays cX9_pays 3 (some .int) (rmk 4 93) G true τ [.ref (G.1 0), .int (oI v1)] σ σ (some (.int (oI q))) := by
  unfold f_X9_pays at hf
  refine CtrI.of (own := RX9) (plainFor_of_name (by decide)) (Nat.le_of_ble_eq_true rfl) rfl (fun p e s m below meth c Q ls C hl S hend => ?_)
  have hl : lv_has ls 3 [(0, .ref (G.1 0)), (1, .int (oI v1))] := hl
  refine lv_aload_n C.1 C.2.1 dX9_pays_0 rfl (lv_at hl 0 rfl) ?_
  refine lv_iload_n C.1 C.2.1 dX9_pays_1 rfl (lv_at hl 1 rfl) ?_
  obtain ⟨q1, hc2, hf⟩ := bd_o hf
  refine r_callVv C S (rest := []) (ct_X9_treatyAt l G τ hc2) mi_X9_treatyAt tw_528 mv_X9_treatyAt (rvX9 S) ⟨rfl, rfl⟩ ⟨Nat.le_of_ble_eq_true rfl, Nat.le_of_ble_eq_true rfl⟩ ⟨Nat.zero_le _, Nat.zero_le _⟩ rfl hl.1 rfl (Nat.le_of_ble_eq_true rfl) dX9_pays_2 (fun H locs S => ?_)
  rcases q1 with _ | t3
  · replace hf := oT_n hf
    refine lv_astore_nN C.1 C.2.1 dX9_pays_5 rfl hl (by decide) (lv' := [(2, .null), (0, .ref (G.1 0)), (1, .int (oI v1))]) rfl (fun ls hl => ?_)
    refine lv_aload_nN C.1 C.2.1 dX9_pays_6 rfl (lv_at hl 0 rfl) ?_
    refine lv_ifnonnullN C.1 C.2.1 dX9_pays_7 ?_
    refine r_iconst C dX9_pays_10 ?_
    cases hf
    exact hend _ _ _ _ S dX9_pays_11
  · obtain ⟨ht3, hf⟩ := oT_s hf
    refine lv_astore_n C.1 C.2.1 dX9_pays_5 rfl hl (by decide) (lv' := [(2, .ref (G.1 (21 + t3))), (0, .ref (G.1 0)), (1, .int (oI v1))]) rfl (fun ls hl => ?_)
    refine lv_aload_n C.1 C.2.1 dX9_pays_6 rfl (lv_at hl 0 rfl) ?_
    refine lv_ifnonnull C.1 C.2.1 (tgt := 12) dX9_pays_7 (by decide) ?_
    refine lv_aload_n C.1 C.2.1 dX9_pays_12 rfl (lv_at hl 1 rfl) ?_
    refine g9_track C S tw_287 dX9_pays_13 ?_
    refine g7_told C S tw_207 dX9_pays_16 ?_
    refine r_if_ne C rfl (tgt := 25) dX9_pays_19 (by decide) (fun h8 => ?_) (fun h8 => ?_)
    · replace hf := if_t hf h8
      refine r_bipush C dX9_pays_22 (by decide) ?_
      cases hf
      exact hend _ _ _ _ S dX9_pays_24
    · replace hf := if_f hf h8
      refine r_iconst C dX9_pays_25 ?_
      refine lv_aload_n C.1 C.2.1 dX9_pays_26 rfl (lv_at hl 1 rfl) ?_
      refine g9_book C S tw_282 dX9_pays_27 ?_
      refine lv_aload_n C.1 C.2.1 dX9_pays_30 rfl (lv_at hl 0 rfl) ?_
      refine g8_discs C (d := t3) S (by omega) tw_149 dX9_pays_31 ?_
      refine g2_members C (d := t3) S (by omega) tw_133 dX9_pays_34 ?_
      refine lv_aload_n C.1 C.2.1 dX9_pays_37 rfl (lv_at hl 1 rfl) ?_
      refine g9_track C S tw_287 dX9_pays_38 ?_
      refine lv_aload_n C.1 C.2.1 dX9_pays_41 rfl (lv_at hl 1 rfl) ?_
      refine g9_book C S tw_282 dX9_pays_42 ?_
      obtain ⟨q4, hc5, hf⟩ := bd_o hf
      refine r_callVv C S (rest := [.int (oI (σ (27 + t3) 5)), .ref (G.1 6), .int (oI 0)]) (ct_X7_hits l G τ hc5) mi_X7_hits tw_909 mv_X7_hits (rvX7 S) ⟨rfl, rfl⟩ ⟨Nat.le_of_ble_eq_true rfl, Nat.le_of_ble_eq_true rfl⟩ ⟨Nat.zero_le _, Nat.zero_le _⟩ rfl hl.1 rfl (Nat.le_of_ble_eq_true rfl) dX9_pays_45 (fun H locs S => ?_)
      refine r_iand C rfl rfl dX9_pays_48 ?_
      obtain ⟨q6, hc7, hf⟩ := bd_o hf
      refine r_callVv C S (rest := [.int (oI 0)]) (ct_X0_sums l G τ hc7) mi_X0_sums tw_652 mv_X0_sums (rvX0 S) ⟨rfl, rfl⟩ ⟨Nat.le_of_ble_eq_true rfl, Nat.le_of_ble_eq_true rfl⟩ ⟨Nat.zero_le _, Nat.zero_le _⟩ rfl hl.1 rfl (Nat.le_of_ble_eq_true rfl) dX9_pays_49 (fun H locs S => ?_)
      refine lv_aload_n C.1 C.2.1 dX9_pays_52 rfl (lv_at hl 0 rfl) ?_
      refine g8_limit C (d := t3) S (by omega) tw_155 dX9_pays_53 ?_
      refine r_isub C dX9_pays_56 ?_
      refine r_mmax C (hl.1) tw_671 (by decide) (Nat.le_of_ble_eq_true rfl) dX9_pays_57 ?_
      cases hf
      exact hend _ _ _ _ S dX9_pays_60
set_option maxRecDepth 100000 in
set_option maxHeartbeats 4000000 in
theorem ct_X9_drawnAfter (l : Launch) (G : Gd) (τ : Sg) {v0 : Int} {σ : Sg} {q : Int} (hf : f_X9_drawnAfter v0 σ = some q) : Ctr l yX9_drawnAfter cX9_drawnAfter 1 (some .int) (rmk 0 0) G true τ [.int (oI v0)] σ σ (some (.int (oI q))) := by
  unfold f_X9_drawnAfter at hf
  refine CtrI.of (own := RX9) (plainFor_of_name (by decide)) (Nat.le_of_ble_eq_true rfl) rfl (fun p e s m below meth c Q ls C hl S hend => ?_)
  have hl : lv_has ls 1 [(0, .int (oI v0))] := hl
  refine lv_iload_n C.1 C.2.1 dX9_drawnAfter_0 rfl (lv_at hl 0 rfl) ?_
  refine r_i2l C dX9_drawnAfter_1 ?_
  refine r_ldc2 C tw_940 dX9_drawnAfter_2 ?_
  refine r_lmul C dX9_drawnAfter_5 ?_
  refine r_ldc2 C tw_941 dX9_drawnAfter_6 ?_
  refine r_ladd C dX9_drawnAfter_9 ?_
  refine r_ldc2 C tw_942 dX9_drawnAfter_10 ?_
  refine r_land C dX9_drawnAfter_13 ?_
  refine r_l2i C dX9_drawnAfter_14 ?_
  cases hf
  exact hend _ _ _ _ S dX9_drawnAfter_15
set_option maxRecDepth 100000 in
set_option maxHeartbeats 4000000 in
theorem b_X9_drawn_b164 (C : Cx p s m args c RX9 cX9_drawn 14) {q : Int} {k58 : Int → Int → Nat → Int → Int → Int → Int → Int → Int → Option (Int)} (hend : EndR p l e (rmk 2 48) s m args below meth c Q G true τ cX9_drawn .ireturn [.int (oI q)] σ) (hk58 : ∀ {H : Heap} {locs : List Loc} {ls : Array Slot} (v3 : Int) (v4 : Int) (t5 : Nat) (v6 : Int) (v7 : Int) (v8 : Int) (v9 : Int) (v10 : Int) (v11 : Int), t5 < 6 → St G true τ σ s H locs → lv_has ls 14 [(0, .ref (G.1 0)), (3, .int (oI v3)), (4, .int (oI v4)), (5, .ref (G.1 (21 + t5))), (6, .int (oI v6)), (7, .int (oI v7)), (8, .int (oI v8)), (9, .int (oI v9)), (10, .int (oI v10)), (11, .int (oI v11))] → k58 v3 v4 t5 v6 v7 v8 v9 v10 v11 = some q → W p l e (rmk 2 48) s m args below meth c H locs 0 0 Q (F0 m 58 ls [])) {H : Heap} {locs : List Loc} {ls : Array Slot} (v3 : Int) (v4 : Int) (t5 : Nat) (v6 : Int) (v7 : Int) (v9 : Int) (v10 : Int) (v11 : Int) (v13 : Int) (w0 : Int) (w1 : Int) (ht5 : t5 < 6) (S : St G true τ σ s H locs) (hl : lv_has ls 14 [(0, .ref (G.1 0)), (3, .int (oI v3)), (4, .int (oI v4)), (5, .ref (G.1 (21 + t5))), (6, .int (oI v6)), (7, .int (oI v7)), (9, .int (oI v9)), (10, .int (oI v10)), (11, .int (oI v11)), (13, .int (oI v13))]) (hf : f_X9_drawn_b164 σ k58 v3 v4 t5 v6 v7 v9 v10 v11 v13 w0 w1 = some q) : W p l e (rmk 2 48) s m args below meth c H locs 0 0 Q (F0 m 164 ls [.int (oI w0), .int (oI w1)]) := by
  unfold f_X9_drawn_b164 at hf
  refine r_iadd C dX9_drawn_164 ?_
  refine lv_istore C.1 C.2.1 dX9_drawn_165 hl (by decide) (lv' := [(8, .int (oI (w1 + w0))), (0, .ref (G.1 0)), (3, .int (oI v3)), (4, .int (oI v4)), (5, .ref (G.1 (21 + t5))), (6, .int (oI v6)), (7, .int (oI v7)), (9, .int (oI v9)), (10, .int (oI v10)), (11, .int (oI v11)), (13, .int (oI v13))]) rfl (fun ls hl => ?_)
  refine lv_iload C.1 C.2.1 dX9_drawn_167 (lv_at hl 7 rfl) ?_
  refine lv_iload C.1 C.2.1 dX9_drawn_169 (lv_at hl 10 rfl) ?_
  refine r_iadd C dX9_drawn_171 ?_
  refine lv_istore C.1 C.2.1 dX9_drawn_172 hl (by decide) (lv' := [(9, .int (oI (v9 + v13))), (8, .int (oI (w1 + w0))), (0, .ref (G.1 0)), (3, .int (oI v3)), (4, .int (oI v4)), (5, .ref (G.1 (21 + t5))), (6, .int (oI v6)), (7, .int (oI v7)), (10, .int (oI v10)), (11, .int (oI v11)), (13, .int (oI v13))]) rfl (fun ls hl => ?_)
  refine r_iinc C dX9_drawn_174 hl (k := 9) rfl (by decide) (lv' := [(11, .int (oI (v11 + 1))), (9, .int (oI (v9 + v13))), (8, .int (oI (w1 + w0))), (0, .ref (G.1 0)), (3, .int (oI v3)), (4, .int (oI v4)), (5, .ref (G.1 (21 + t5))), (6, .int (oI v6)), (7, .int (oI v7)), (10, .int (oI v10)), (13, .int (oI v13))]) rfl (fun ls hl => ?_)
  refine lv_goto C.1 C.2.1 (tgt := 58) dX9_drawn_177 (by decide) ?_
  exact hk58 v3 v4 t5 v6 v7 (w1 + w0) (v9 + v13) v10 (v11 + 1) (by omega) S (lv_sub hl [3, 4, 5, 6, 7, 8, 2, 1, 9, 0] rfl) hf
set_option maxRecDepth 100000 in
set_option maxHeartbeats 4000000 in
theorem b_X9_drawn_b147 (C : Cx p s m args c RX9 cX9_drawn 14) {q : Int} {k58 : Int → Int → Nat → Int → Int → Int → Int → Int → Int → Option (Int)} (hend : EndR p l e (rmk 2 48) s m args below meth c Q G true τ cX9_drawn .ireturn [.int (oI q)] σ) (hk58 : ∀ {H : Heap} {locs : List Loc} {ls : Array Slot} (v3 : Int) (v4 : Int) (t5 : Nat) (v6 : Int) (v7 : Int) (v8 : Int) (v9 : Int) (v10 : Int) (v11 : Int), t5 < 6 → St G true τ σ s H locs → lv_has ls 14 [(0, .ref (G.1 0)), (3, .int (oI v3)), (4, .int (oI v4)), (5, .ref (G.1 (21 + t5))), (6, .int (oI v6)), (7, .int (oI v7)), (8, .int (oI v8)), (9, .int (oI v9)), (10, .int (oI v10)), (11, .int (oI v11))] → k58 v3 v4 t5 v6 v7 v8 v9 v10 v11 = some q → W p l e (rmk 2 48) s m args below meth c H locs 0 0 Q (F0 m 58 ls [])) {H : Heap} {locs : List Loc} {ls : Array Slot} (v3 : Int) (v4 : Int) (t5 : Nat) (v6 : Int) (v7 : Int) (v8 : Int) (v9 : Int) (v10 : Int) (v11 : Int) (v13 : Int) (ht5 : t5 < 6) (S : St G true τ σ s H locs) (hl : lv_has ls 14 [(0, .ref (G.1 0)), (3, .int (oI v3)), (4, .int (oI v4)), (5, .ref (G.1 (21 + t5))), (6, .int (oI v6)), (7, .int (oI v7)), (8, .int (oI v8)), (9, .int (oI v9)), (10, .int (oI v10)), (11, .int (oI v11)), (13, .int (oI v13))]) (hf : f_X9_drawn_b147 σ k58 v3 v4 t5 v6 v7 v8 v9 v10 v11 v13 = some q) : W p l e (rmk 2 48) s m args below meth c H locs 0 0 Q (F0 m 147 ls []) := by
  unfold f_X9_drawn_b147 at hf
  refine lv_iload C.1 C.2.1 dX9_drawn_147 (lv_at hl 6 rfl) ?_
  refine lv_iload C.1 C.2.1 dX9_drawn_149 (lv_at hl 10 rfl) ?_
  refine lv_aload C.1 C.2.1 dX9_drawn_151 (lv_at hl 3 rfl) ?_
  refine g8_limit C (d := t5) S (by omega) tw_155 dX9_drawn_153 ?_
  refine r_icmp_le C rfl rfl (tgt := 163) dX9_drawn_156 (by decide) (fun h16 => ?_) (fun h16 => ?_)
  · replace hf := if_t hf h16
    refine r_iconst C dX9_drawn_163 ?_
    exact b_X9_drawn_b164 C hend hk58 v3 v4 t5 v6 v7 v9 v10 v11 v13 0 v8 (by omega) S (lv_sub hl [0, 1, 2, 3, 4, 5, 7, 8, 9, 10] rfl) hf
  · replace hf := if_f hf h16
    refine r_iconst C dX9_drawn_159 ?_
    refine lv_goto C.1 C.2.1 (tgt := 164) dX9_drawn_160 (by decide) ?_
    exact b_X9_drawn_b164 C hend hk58 v3 v4 t5 v6 v7 v9 v10 v11 v13 1 v8 (by omega) S (lv_sub hl [0, 1, 2, 3, 4, 5, 7, 8, 9, 10] rfl) hf
set_option maxRecDepth 100000 in
set_option maxHeartbeats 4000000 in
theorem b_X9_drawn_b180 (C : Cx p s m args c RX9 cX9_drawn 14) {q : Int} (hend : EndR p l e (rmk 2 48) s m args below meth c Q G true τ cX9_drawn .ireturn [.int (oI q)] σ) {H : Heap} {locs : List Loc} {ls : Array Slot} (v4 : Int) (v6 : Int) (v7 : Int) (v8 : Int) (v9 : Int) (S : St G true τ σ s H locs) (hl : lv_has ls 14 [(4, .int (oI v4)), (6, .int (oI v6)), (7, .int (oI v7)), (8, .int (oI v8)), (9, .int (oI v9))]) (hf : f_X9_drawn_b180 σ v4 v6 v7 v8 v9 = some q) : W p l e (rmk 2 48) s m args below meth c H locs 0 0 Q (F0 m 180 ls []) := by
  unfold f_X9_drawn_b180 at hf
  refine lv_iload C.1 C.2.1 dX9_drawn_180 (lv_at hl 0 rfl) ?_
  by_cases hs0 : w32 v4 = 0
  · replace hf := if_t hf hs0
    refine r_tabIn C (tgt := 208) (v := 0) dX9_drawn_182 hs0 (by decide) (by decide) rfl (by decide) ?_
    refine lv_iload C.1 C.2.1 dX9_drawn_208 (lv_at hl 1 rfl) ?_
    cases hf
    exact hend _ _ _ _ S dX9_drawn_210
  · replace hf := if_f hf hs0
    by_cases hs1 : w32 v4 = 1
    · replace hf := if_t hf hs1
      refine r_tabIn C (tgt := 211) (v := 1) dX9_drawn_182 hs1 (by decide) (by decide) rfl (by decide) ?_
      refine lv_iload C.1 C.2.1 dX9_drawn_211 (lv_at hl 2 rfl) ?_
      cases hf
      exact hend _ _ _ _ S dX9_drawn_213
    · replace hf := if_f hf hs1
      by_cases hs2 : w32 v4 = 2
      · replace hf := if_t hf hs2
        refine r_tabIn C (tgt := 214) (v := 2) dX9_drawn_182 hs2 (by decide) (by decide) rfl (by decide) ?_
        refine lv_iload C.1 C.2.1 dX9_drawn_214 (lv_at hl 3 rfl) ?_
        cases hf
        exact hend _ _ _ _ S dX9_drawn_216
      · replace hf := if_f hf hs2
        refine r_tabOut C (tgt := 217) dX9_drawn_182 (by omega) (by decide) ?_
        refine lv_iload C.1 C.2.1 dX9_drawn_217 (lv_at hl 4 rfl) ?_
        cases hf
        exact hend _ _ _ _ S dX9_drawn_219
set_option maxRecDepth 100000 in
set_option maxHeartbeats 4000000 in
theorem b_X9_drawn_b58 (C : Cx p s m args c RX9 cX9_drawn 14) {q : Int} (hend : EndR p l e (rmk 2 48) s m args below meth c Q G true τ cX9_drawn .ireturn [.int (oI q)] σ) : ∀ (n : Nat) {H : Heap} {locs : List Loc} {ls : Array Slot} (v3 : Int) (v4 : Int) (t5 : Nat) (v6 : Int) (v7 : Int) (v8 : Int) (v9 : Int) (v10 : Int) (v11 : Int) (ht5 : t5 < 6) (S : St G true τ σ s H locs) (hl : lv_has ls 14 [(0, .ref (G.1 0)), (3, .int (oI v3)), (4, .int (oI v4)), (5, .ref (G.1 (21 + t5))), (6, .int (oI v6)), (7, .int (oI v7)), (8, .int (oI v8)), (9, .int (oI v9)), (10, .int (oI v10)), (11, .int (oI v11))]) (hf : f_X9_drawn_b58 σ n v3 v4 t5 v6 v7 v8 v9 v10 v11 = some q), W p l e (rmk 2 48) s m args below meth c H locs 0 0 Q (F0 m 58 ls []) := by
  intro n
  induction n with
  | zero => intro H locs ls v3 v4 t5 v6 v7 v8 v9 v10 v11 ht5 S hl hf; cases hf
  | succ n ih =>
    intro H locs ls v3 v4 t5 v6 v7 v8 v9 v10 v11 ht5 S hl hf
    have hk58 := @ih
    rw [f_X9_drawn_b58] at hf
    refine lv_iload C.1 C.2.1 dX9_drawn_58 (lv_at hl 9 rfl) ?_
    refine lv_iload_n C.1 C.2.1 dX9_drawn_60 rfl (lv_at hl 1 rfl) ?_
    refine r_icmp_ge C rfl rfl (tgt := 180) dX9_drawn_61 (by decide) (fun h18 => ?_) (fun h18 => ?_)
    · replace hf := if_t hf h18
      refine lv_iload C.1 C.2.1 dX9_drawn_64 (lv_at hl 8 rfl) ?_
      obtain ⟨q4, hc5, hf⟩ := bd_o hf
      refine r_callSv C S (rest := []) (ct_X9_drawnAfter l G τ hc5) mi_X9_drawnAfter tw_937 ms_X9_drawnAfter ⟨rfl, rfl⟩ ⟨Nat.le_of_ble_eq_true rfl, Nat.le_of_ble_eq_true rfl⟩ ⟨Nat.zero_le _, Nat.zero_le _⟩ rfl hl.1 rfl (Nat.le_of_ble_eq_true rfl) dX9_drawn_66 (fun H locs S => ?_)
      refine lv_istore C.1 C.2.1 dX9_drawn_69 hl (by decide) (lv' := [(10, .int (oI q4)), (0, .ref (G.1 0)), (3, .int (oI v3)), (4, .int (oI v4)), (5, .ref (G.1 (21 + t5))), (6, .int (oI v6)), (7, .int (oI v7)), (8, .int (oI v8)), (9, .int (oI v9)), (11, .int (oI v11))]) rfl (fun ls hl => ?_)
      refine lv_iload C.1 C.2.1 dX9_drawn_71 (lv_at hl 0 rfl) ?_
      refine r_ldcw C tw_943 dX9_drawn_73 ?_
      obtain ⟨hz6, hf⟩ := ck_o hf
      refine r_idiv C hz6 dX9_drawn_76 ?_
      refine r_sipush C dX9_drawn_77 (by decide) ?_
      obtain ⟨hz7, hf⟩ := ck_o hf
      refine r_irem C hz7 dX9_drawn_80 ?_
      refine lv_istore C.1 C.2.1 dX9_drawn_81 hl (by decide) (lv' := [(12, .int (oI ((w32 ((w32 q4).tdiv (w32 65536))).tmod (w32 300)))), (10, .int (oI q4)), (0, .ref (G.1 0)), (3, .int (oI v3)), (4, .int (oI v4)), (5, .ref (G.1 (21 + t5))), (6, .int (oI v6)), (7, .int (oI v7)), (8, .int (oI v8)), (9, .int (oI v9)), (11, .int (oI v11))]) rfl (fun ls hl => ?_)
      refine lv_iload C.1 C.2.1 dX9_drawn_83 (lv_at hl 1 rfl) ?_
      obtain ⟨q8, hc9, hf⟩ := bd_o hf
      refine r_callSv C S (rest := []) (ct_X9_drawnAfter l G τ hc9) mi_X9_drawnAfter tw_937 ms_X9_drawnAfter ⟨rfl, rfl⟩ ⟨Nat.le_of_ble_eq_true rfl, Nat.le_of_ble_eq_true rfl⟩ ⟨Nat.zero_le _, Nat.zero_le _⟩ rfl hl.1 rfl (Nat.le_of_ble_eq_true rfl) dX9_drawn_85 (fun H locs S => ?_)
      refine lv_istore C.1 C.2.1 dX9_drawn_88 hl (by decide) (lv' := [(10, .int (oI q8)), (12, .int (oI ((w32 ((w32 q4).tdiv (w32 65536))).tmod (w32 300)))), (0, .ref (G.1 0)), (3, .int (oI v3)), (4, .int (oI v4)), (5, .ref (G.1 (21 + t5))), (6, .int (oI v6)), (7, .int (oI v7)), (8, .int (oI v8)), (9, .int (oI v9)), (11, .int (oI v11))]) rfl (fun ls hl => ?_)
      refine lv_aload_n C.1 C.2.1 dX9_drawn_90 rfl (lv_at hl 2 rfl) ?_
      refine g9_book C S tw_282 dX9_drawn_91 ?_
      refine lv_aload C.1 C.2.1 dX9_drawn_94 (lv_at hl 5 rfl) ?_
      refine g8_discs C (d := t5) S (by omega) tw_149 dX9_drawn_96 ?_
      refine g2_members C (d := t5) S (by omega) tw_133 dX9_drawn_99 ?_
      refine lv_aload_n C.1 C.2.1 dX9_drawn_102 rfl (lv_at hl 2 rfl) ?_
      refine g9_book C S tw_282 dX9_drawn_103 ?_
      refine lv_iload C.1 C.2.1 dX9_drawn_106 (lv_at hl 1 rfl) ?_
      refine lv_iload C.1 C.2.1 dX9_drawn_108 (lv_at hl 0 rfl) ?_
      refine r_ldcw C tw_943 dX9_drawn_110 ?_
      obtain ⟨hz10, hf⟩ := ck_o hf
      refine r_idiv C hz10 dX9_drawn_113 ?_
      refine r_sipush C dX9_drawn_114 (by decide) ?_
      obtain ⟨hz11, hf⟩ := ck_o hf
      refine r_irem C hz11 dX9_drawn_117 ?_
      refine lv_aload C.1 C.2.1 dX9_drawn_118 (lv_at hl 5 rfl) ?_
      refine g8_radius C (d := t5) S (by omega) tw_153 dX9_drawn_120 ?_
      obtain ⟨q12, hc13, hf⟩ := bd_o hf
      refine r_callVv C S (rest := [.int (oI (σ (27 + t5) 5)), .ref (G.1 6)]) (ct_X0_within l G τ hc13) mi_X0_within tw_825 mv_X0_within (rvX0 S) ⟨rfl, rfl⟩ ⟨Nat.le_of_ble_eq_true rfl, Nat.le_of_ble_eq_true rfl⟩ ⟨Nat.zero_le _, Nat.zero_le _⟩ rfl hl.1 rfl (Nat.le_of_ble_eq_true rfl) dX9_drawn_123 (fun H locs S => ?_)
      refine r_iand C rfl rfl dX9_drawn_126 ?_
      obtain ⟨q14, hc15, hf⟩ := bd_o hf
      refine r_callVv C S (rest := []) (ct_X0_sums l G τ hc15) mi_X0_sums tw_652 mv_X0_sums (rvX0 S) ⟨rfl, rfl⟩ ⟨Nat.le_of_ble_eq_true rfl, Nat.le_of_ble_eq_true rfl⟩ ⟨Nat.zero_le _, Nat.zero_le _⟩ rfl hl.1 rfl (Nat.le_of_ble_eq_true rfl) dX9_drawn_127 (fun H locs S => ?_)
      refine lv_istore C.1 C.2.1 dX9_drawn_130 hl (by decide) (lv' := [(13, .int (oI q14)), (10, .int (oI q8)), (12, .int (oI ((w32 ((w32 q4).tdiv (w32 65536))).tmod (w32 300)))), (0, .ref (G.1 0)), (3, .int (oI v3)), (4, .int (oI v4)), (5, .ref (G.1 (21 + t5))), (6, .int (oI v6)), (7, .int (oI v7)), (8, .int (oI v8)), (9, .int (oI v9)), (11, .int (oI v11))]) rfl (fun ls hl => ?_)
      refine lv_iload C.1 C.2.1 dX9_drawn_132 (lv_at hl 0 rfl) ?_
      refine lv_iload C.1 C.2.1 dX9_drawn_134 (lv_at hl 7 rfl) ?_
      refine r_icmp_le C rfl rfl (tgt := 147) dX9_drawn_136 (by decide) (fun h17 => ?_) (fun h17 => ?_)
      · replace hf := if_t hf h17
        exact b_X9_drawn_b147 C hend hk58 v3 v4 t5 v6 v7 v8 v9 q8 v11 q14 (by omega) S (lv_sub hl [3, 4, 5, 6, 7, 8, 9, 10, 1, 11, 0] rfl) hf
      · replace hf := if_f hf h17
        refine lv_iload C.1 C.2.1 dX9_drawn_139 (lv_at hl 0 rfl) ?_
        refine lv_istore C.1 C.2.1 dX9_drawn_141 hl (by decide) (lv' := [(6, .int (oI q14)), (13, .int (oI q14)), (10, .int (oI q8)), (12, .int (oI ((w32 ((w32 q4).tdiv (w32 65536))).tmod (w32 300)))), (0, .ref (G.1 0)), (3, .int (oI v3)), (4, .int (oI v4)), (5, .ref (G.1 (21 + t5))), (7, .int (oI v7)), (8, .int (oI v8)), (9, .int (oI v9)), (11, .int (oI v11))]) rfl (fun ls hl => ?_)
        refine lv_iload C.1 C.2.1 dX9_drawn_143 (lv_at hl 11 rfl) ?_
        refine lv_istore C.1 C.2.1 dX9_drawn_145 hl (by decide) (lv' := [(7, .int (oI v11)), (6, .int (oI q14)), (13, .int (oI q14)), (10, .int (oI q8)), (12, .int (oI ((w32 ((w32 q4).tdiv (w32 65536))).tmod (w32 300)))), (0, .ref (G.1 0)), (3, .int (oI v3)), (4, .int (oI v4)), (5, .ref (G.1 (21 + t5))), (8, .int (oI v8)), (9, .int (oI v9)), (11, .int (oI v11))]) rfl (fun ls hl => ?_)
        exact b_X9_drawn_b147 C hend hk58 v3 v4 t5 q14 v11 v8 v9 q8 v11 q14 (by omega) S (lv_sub hl [5, 6, 7, 8, 1, 0, 9, 10, 3, 11, 2] rfl) hf
    · replace hf := if_f hf h18
      exact b_X9_drawn_b180 C hend v4 v6 v7 v8 v9 S (lv_sub hl [2, 4, 5, 6, 7] rfl) hf
set_option maxRecDepth 100000 in
set_option maxHeartbeats 4000000 in
theorem ct_X9_drawn (l : Launch) (G : Gd) (τ : Sg) {v1 : Int} {v2 : Int} {v3 : Int} {v4 : Int} {σ : Sg} {q : Int} (hf : f_X9_drawn v1 v2 v3 v4 σ = some q) : Ctr l yX9_drawn cX9_drawn 14 (some .int) (rmk 2 48) G true τ [.ref (G.1 0), .int (oI v1), .int (oI v2), .int (oI v3), .int (oI v4)] σ σ (some (.int (oI q))) := by
  unfold f_X9_drawn at hf
  refine CtrI.of (own := RX9) (plainFor_of_name (by decide)) (Nat.le_of_ble_eq_true rfl) rfl (fun p e s m below meth c Q ls C hl S hend => ?_)
  have hl : lv_has ls 14 [(0, .ref (G.1 0)), (1, .int (oI v1)), (2, .int (oI v2)), (3, .int (oI v3)), (4, .int (oI v4))] := hl
  refine lv_aload_n C.1 C.2.1 dX9_drawn_0 rfl (lv_at hl 0 rfl) ?_
  refine lv_iload_n C.1 C.2.1 dX9_drawn_1 rfl (lv_at hl 1 rfl) ?_
  obtain ⟨q1, hc2, hf⟩ := bd_o hf
  refine r_callVv C S (rest := []) (ct_X9_treatyAt l G τ hc2) mi_X9_treatyAt tw_528 mv_X9_treatyAt (rvX9 S) ⟨rfl, rfl⟩ ⟨Nat.le_of_ble_eq_true rfl, Nat.le_of_ble_eq_true rfl⟩ ⟨Nat.zero_le _, Nat.zero_le _⟩ rfl hl.1 rfl (Nat.le_of_ble_eq_true rfl) dX9_drawn_2 (fun H locs S => ?_)
  rcases q1 with _ | t3
  · replace hf := oT_n hf
    refine lv_astoreN C.1 C.2.1 dX9_drawn_5 hl (by decide) (lv' := [(5, .null), (0, .ref (G.1 0)), (1, .int (oI v1)), (2, .int (oI v2)), (3, .int (oI v3)), (4, .int (oI v4))]) rfl (fun ls hl => ?_)
    refine lv_aloadN C.1 C.2.1 dX9_drawn_7 (lv_at hl 0 rfl) ?_
    refine lv_ifnullN C.1 C.2.1 (tgt := 38) dX9_drawn_9 (by decide) ?_
    refine r_iconst C dX9_drawn_38 ?_
    cases hf
    exact hend _ _ _ _ S dX9_drawn_39
  · obtain ⟨ht3, hf⟩ := oT_s hf
    refine lv_astore C.1 C.2.1 dX9_drawn_5 hl (by decide) (lv' := [(5, .ref (G.1 (21 + t3))), (0, .ref (G.1 0)), (1, .int (oI v1)), (2, .int (oI v2)), (3, .int (oI v3)), (4, .int (oI v4))]) rfl (fun ls hl => ?_)
    refine lv_aload C.1 C.2.1 dX9_drawn_7 (lv_at hl 0 rfl) ?_
    refine lv_ifnull C.1 C.2.1 dX9_drawn_9 ?_
    refine lv_iload_n C.1 C.2.1 dX9_drawn_12 rfl (lv_at hl 3 rfl) ?_
    refine r_if_lt C rfl (tgt := 38) dX9_drawn_13 (by decide) (fun h23 => ?_) (fun h23 => ?_)
    · replace hf := if_t hf h23
      refine r_iconst C dX9_drawn_38 ?_
      cases hf
      exact hend _ _ _ _ S dX9_drawn_39
    · replace hf := if_f hf h23
      refine lv_iload_n C.1 C.2.1 dX9_drawn_16 rfl (lv_at hl 4 rfl) ?_
      refine r_iconst C dX9_drawn_17 ?_
      refine r_icmp_lt C rfl (show w32 1 = 1 by decide) (tgt := 38) dX9_drawn_18 (by decide) (fun h22 => ?_) (fun h22 => ?_)
      · replace hf := if_t hf h22
        refine r_iconst C dX9_drawn_38 ?_
        cases hf
        exact hend _ _ _ _ S dX9_drawn_39
      · replace hf := if_f hf h22
        refine lv_iload_n C.1 C.2.1 dX9_drawn_21 rfl (lv_at hl 4 rfl) ?_
        refine r_bipush C dX9_drawn_22 (by decide) ?_
        refine r_icmp_gt C rfl (show w32 100 = 100 by decide) (tgt := 38) dX9_drawn_24 (by decide) (fun h21 => ?_) (fun h21 => ?_)
        · replace hf := if_t hf h21
          refine lv_iload C.1 C.2.1 dX9_drawn_27 (lv_at hl 5 rfl) ?_
          refine r_if_lt C rfl (tgt := 38) dX9_drawn_29 (by decide) (fun h20 => ?_) (fun h20 => ?_)
          · replace hf := if_t hf h20
            refine r_iconst C dX9_drawn_38 ?_
            cases hf
            exact hend _ _ _ _ S dX9_drawn_39
          · replace hf := if_f hf h20
            refine lv_iload C.1 C.2.1 dX9_drawn_32 (lv_at hl 5 rfl) ?_
            refine r_iconst C dX9_drawn_34 ?_
            refine r_icmp_le C rfl (show w32 3 = 3 by decide) (tgt := 40) dX9_drawn_35 (by decide) (fun h19 => ?_) (fun h19 => ?_)
            · replace hf := if_t hf h19
              refine r_iconst C dX9_drawn_40 ?_
              refine lv_istore C.1 C.2.1 dX9_drawn_41 hl (by decide) (lv' := [(6, .int (oI 0)), (5, .ref (G.1 (21 + t3))), (0, .ref (G.1 0)), (1, .int (oI v1)), (2, .int (oI v2)), (3, .int (oI v3)), (4, .int (oI v4))]) rfl (fun ls hl => ?_)
              refine r_iconst C dX9_drawn_43 ?_
              refine lv_istore C.1 C.2.1 dX9_drawn_44 hl (by decide) (lv' := [(7, .int (oI 0)), (6, .int (oI 0)), (5, .ref (G.1 (21 + t3))), (0, .ref (G.1 0)), (1, .int (oI v1)), (2, .int (oI v2)), (3, .int (oI v3)), (4, .int (oI v4))]) rfl (fun ls hl => ?_)
              refine r_iconst C dX9_drawn_46 ?_
              refine lv_istore C.1 C.2.1 dX9_drawn_47 hl (by decide) (lv' := [(8, .int (oI 0)), (7, .int (oI 0)), (6, .int (oI 0)), (5, .ref (G.1 (21 + t3))), (0, .ref (G.1 0)), (1, .int (oI v1)), (2, .int (oI v2)), (3, .int (oI v3)), (4, .int (oI v4))]) rfl (fun ls hl => ?_)
              refine r_iconst C dX9_drawn_49 ?_
              refine lv_istore C.1 C.2.1 dX9_drawn_50 hl (by decide) (lv' := [(9, .int (oI 0)), (8, .int (oI 0)), (7, .int (oI 0)), (6, .int (oI 0)), (5, .ref (G.1 (21 + t3))), (0, .ref (G.1 0)), (1, .int (oI v1)), (2, .int (oI v2)), (3, .int (oI v3)), (4, .int (oI v4))]) rfl (fun ls hl => ?_)
              refine lv_iload_n C.1 C.2.1 dX9_drawn_52 rfl (lv_at hl 7 rfl) ?_
              refine lv_istore C.1 C.2.1 dX9_drawn_53 hl (by decide) (lv' := [(10, .int (oI v2)), (9, .int (oI 0)), (8, .int (oI 0)), (7, .int (oI 0)), (6, .int (oI 0)), (5, .ref (G.1 (21 + t3))), (0, .ref (G.1 0)), (1, .int (oI v1)), (2, .int (oI v2)), (3, .int (oI v3)), (4, .int (oI v4))]) rfl (fun ls hl => ?_)
              refine r_iconst C dX9_drawn_55 ?_
              refine lv_istore C.1 C.2.1 dX9_drawn_56 hl (by decide) (lv' := [(11, .int (oI 0)), (10, .int (oI v2)), (9, .int (oI 0)), (8, .int (oI 0)), (7, .int (oI 0)), (6, .int (oI 0)), (5, .ref (G.1 (21 + t3))), (0, .ref (G.1 0)), (1, .int (oI v1)), (2, .int (oI v2)), (3, .int (oI v3)), (4, .int (oI v4))]) rfl (fun ls hl => ?_)
              exact b_X9_drawn_b58 C hend FUEL v3 v4 t3 0 0 0 0 v2 0 (by omega) S (lv_sub hl [7, 10, 11, 6, 5, 4, 3, 2, 1, 0] rfl) hf
            · replace hf := if_f hf h19
              refine r_iconst C dX9_drawn_38 ?_
              cases hf
              exact hend _ _ _ _ S dX9_drawn_39
        · replace hf := if_f hf h21
          refine r_iconst C dX9_drawn_38 ?_
          cases hf
          exact hend _ _ _ _ S dX9_drawn_39
set_option maxRecDepth 100000 in
set_option maxHeartbeats 4000000 in
theorem ct_X5_latest (l : Launch) (G : Gd) (τ : Sg) {d : Nat} {v1 : Int} {v2 : Int} {σ : Sg} {q : Int} (hf : f_X5_latest d v1 v2 σ = some q) : Ctr l yX5_latest cX5_latest 4 (some .int) (rmk 0 0) G true τ [.ref (G.1 (13 + 2 * d)), .int (oI v1), .int (oI v2)] σ σ (some (.int (oI q))) := by
  unfold f_X5_latest at hf
  obtain ⟨hd, hf⟩ := ck_o hf
  refine CtrI.of (own := RX5) (plainFor_of_name (by decide)) (Nat.le_of_ble_eq_true rfl) rfl (fun p e s m below meth c Q ls C hl S hend => ?_)
  have hl : lv_has ls 4 [(0, .ref (G.1 (13 + 2 * d))), (1, .int (oI v1)), (2, .int (oI v2))] := hl
  refine lv_iload_n C.1 C.2.1 dX5_latest_0 rfl (lv_at hl 1 rfl) ?_
  refine r_if_lt C rfl (tgt := 18) dX5_latest_1 (by decide) (fun h7 => ?_) (fun h7 => ?_)
  · replace hf := if_t hf h7
    refine lv_aload_n C.1 C.2.1 dX5_latest_18 rfl (lv_at hl 0 rfl) ?_
    refine g5_lacking C (d := d) S (by omega) tw_191 dX5_latest_19 ?_
    cases hf
    exact hend _ _ _ _ S dX5_latest_22
  · replace hf := if_f hf h7
    refine lv_iload_n C.1 C.2.1 dX5_latest_4 rfl (lv_at hl 1 rfl) ?_
    refine r_bipush C dX5_latest_5 (by decide) ?_
    refine r_icmp_ge C rfl (show w32 30 = 30 by decide) (tgt := 18) dX5_latest_7 (by decide) (fun h6 => ?_) (fun h6 => ?_)
    · replace hf := if_t hf h6
      refine lv_iload_n C.1 C.2.1 dX5_latest_10 rfl (lv_at hl 1 rfl) ?_
      refine lv_aload_n C.1 C.2.1 dX5_latest_11 rfl (lv_at hl 0 rfl) ?_
      refine g5_count C (d := d) S (by omega) tw_192 dX5_latest_12 ?_
      refine r_icmp_lt C rfl rfl (tgt := 23) dX5_latest_15 (by decide) (fun h5 => ?_) (fun h5 => ?_)
      · replace hf := if_t hf h5
        refine lv_aload_n C.1 C.2.1 dX5_latest_23 rfl (lv_at hl 0 rfl) ?_
        refine g5_count C (d := d) S (by omega) tw_192 dX5_latest_24 ?_
        refine r_iconst C dX5_latest_27 ?_
        refine r_isub C dX5_latest_28 ?_
        refine lv_iload_n C.1 C.2.1 dX5_latest_29 rfl (lv_at hl 1 rfl) ?_
        refine r_isub C dX5_latest_30 ?_
        refine r_bipush C dX5_latest_31 (by decide) ?_
        obtain ⟨hz1, hf⟩ := ck_o hf
        refine r_irem C hz1 dX5_latest_33 ?_
        refine r_iconst C dX5_latest_34 ?_
        refine r_imul C dX5_latest_35 ?_
        refine lv_iload_n C.1 C.2.1 dX5_latest_36 rfl (lv_at hl 2 rfl) ?_
        refine r_iadd C dX5_latest_37 ?_
        refine lv_istore_n C.1 C.2.1 dX5_latest_38 rfl hl (by decide) (lv' := [(3, .int (oI ((((w32 (((σ (13 + 2 * d) 2) - 1) - v1)).tmod (w32 30)) * 3) + v2))), (0, .ref (G.1 (13 + 2 * d))), (1, .int (oI v1)), (2, .int (oI v2))]) rfl (fun ls hl => ?_)
        refine lv_iload_n C.1 C.2.1 dX5_latest_39 rfl (lv_at hl 0 rfl) ?_
        refine r_if_lt C rfl (tgt := 61) dX5_latest_40 (by decide) (fun h4 => ?_) (fun h4 => ?_)
        · replace hf := if_t hf h4
          refine lv_aload_n C.1 C.2.1 dX5_latest_61 rfl (lv_at hl 1 rfl) ?_
          refine g5_lacking C (d := d) S (by omega) tw_191 dX5_latest_62 ?_
          cases hf
          exact hend _ _ _ _ S dX5_latest_65
        · replace hf := if_f hf h4
          refine lv_iload_n C.1 C.2.1 dX5_latest_43 rfl (lv_at hl 0 rfl) ?_
          refine lv_aload_n C.1 C.2.1 dX5_latest_44 rfl (lv_at hl 1 rfl) ?_
          refine g5_parts C (d := d) S (by omega) tw_190 dX5_latest_45 ?_
          refine a_alen C S (ar_14 (d := d) (by omega)) dX5_latest_48 ?_
          refine r_icmp_ge C rfl (show w32 90 = 90 by decide) (tgt := 61) dX5_latest_49 (by decide) (fun h3 => ?_) (fun h3 => ?_)
          · replace hf := if_t hf h3
            refine lv_aload_n C.1 C.2.1 dX5_latest_52 rfl (lv_at hl 1 rfl) ?_
            refine g5_parts C (d := d) S (by omega) tw_190 dX5_latest_53 ?_
            refine lv_iload_n C.1 C.2.1 dX5_latest_56 rfl (lv_at hl 0 rfl) ?_
            obtain ⟨hi2, hf⟩ := ck_o hf
            refine a_iald C S (ar_14 (d := d) (by omega)) hi2 dX5_latest_57 ?_
            refine lv_goto C.1 C.2.1 (tgt := 65) dX5_latest_58 (by decide) ?_
            cases hf
            exact hend _ _ _ _ S dX5_latest_65
          · replace hf := if_f hf h3
            refine lv_aload_n C.1 C.2.1 dX5_latest_61 rfl (lv_at hl 1 rfl) ?_
            refine g5_lacking C (d := d) S (by omega) tw_191 dX5_latest_62 ?_
            cases hf
            exact hend _ _ _ _ S dX5_latest_65
      · replace hf := if_f hf h5
        refine lv_aload_n C.1 C.2.1 dX5_latest_18 rfl (lv_at hl 0 rfl) ?_
        refine g5_lacking C (d := d) S (by omega) tw_191 dX5_latest_19 ?_
        cases hf
        exact hend _ _ _ _ S dX5_latest_22
    · replace hf := if_f hf h6
      refine lv_aload_n C.1 C.2.1 dX5_latest_18 rfl (lv_at hl 0 rfl) ?_
      refine g5_lacking C (d := d) S (by omega) tw_191 dX5_latest_19 ?_
      cases hf
      exact hend _ _ _ _ S dX5_latest_22
set_option maxRecDepth 100000 in
set_option maxHeartbeats 4000000 in
theorem ct_X9_alarm (l : Launch) (G : Gd) (τ : Sg) {v1 : Int} {v2 : Int} {σ : Sg} {q : Int} (hf : f_X9_alarm v1 v2 σ = some q) : Ctr l yX9_alarm cX9_alarm 3 (some .int) (rmk 1 23) G true τ [.ref (G.1 0), .int (oI v1), .int (oI v2)] σ σ (some (.int (oI q))) := by
  unfold f_X9_alarm at hf
  refine CtrI.of (own := RX9) (plainFor_of_name (by decide)) (Nat.le_of_ble_eq_true rfl) rfl (fun p e s m below meth c Q ls C hl S hend => ?_)
  have hl : lv_has ls 3 [(0, .ref (G.1 0)), (1, .int (oI v1)), (2, .int (oI v2))] := hl
  refine lv_iload_n C.1 C.2.1 dX9_alarm_0 rfl (lv_at hl 1 rfl) ?_
  refine r_if_lt C rfl (tgt := 13) dX9_alarm_1 (by decide) (fun h5 => ?_) (fun h5 => ?_)
  · replace hf := if_t hf h5
    refine r_iconst C dX9_alarm_13 ?_
    refine lv_goto C.1 C.2.1 (tgt := 26) dX9_alarm_14 (by decide) ?_
    cases hf
    exact hend _ _ _ _ S dX9_alarm_26
  · replace hf := if_f hf h5
    refine lv_iload_n C.1 C.2.1 dX9_alarm_4 rfl (lv_at hl 2 rfl) ?_
    refine r_if_lt C rfl (tgt := 13) dX9_alarm_5 (by decide) (fun h4 => ?_) (fun h4 => ?_)
    · replace hf := if_t hf h4
      refine r_iconst C dX9_alarm_13 ?_
      refine lv_goto C.1 C.2.1 (tgt := 26) dX9_alarm_14 (by decide) ?_
      cases hf
      exact hend _ _ _ _ S dX9_alarm_26
    · replace hf := if_f hf h4
      refine lv_iload_n C.1 C.2.1 dX9_alarm_8 rfl (lv_at hl 2 rfl) ?_
      refine r_iconst C dX9_alarm_9 ?_
      refine r_icmp_le C rfl (show w32 2 = 2 by decide) (tgt := 17) dX9_alarm_10 (by decide) (fun h3 => ?_) (fun h3 => ?_)
      · replace hf := if_t hf h3
        refine lv_aload_n C.1 C.2.1 dX9_alarm_17 rfl (lv_at hl 0 rfl) ?_
        refine g9_alarms C S tw_286 dX9_alarm_18 ?_
        refine lv_iload_n C.1 C.2.1 dX9_alarm_21 rfl (lv_at hl 1 rfl) ?_
        refine lv_iload_n C.1 C.2.1 dX9_alarm_22 rfl (lv_at hl 2 rfl) ?_
        obtain ⟨q1, hc2, hf⟩ := bd_o hf
        refine r_callVv C S (rest := []) (ct_X5_latest l G τ hc2) mi_X5_latest tw_948 mv_X5_latest (rvX5 S (d := 1) (by decide)) ⟨rfl, rfl⟩ ⟨Nat.le_of_ble_eq_true rfl, Nat.le_of_ble_eq_true rfl⟩ ⟨Nat.zero_le _, Nat.zero_le _⟩ rfl hl.1 rfl (Nat.le_of_ble_eq_true rfl) dX9_alarm_23 (fun H locs S => ?_)
        cases hf
        exact hend _ _ _ _ S dX9_alarm_26
      · replace hf := if_f hf h3
        refine r_iconst C dX9_alarm_13 ?_
        refine lv_goto C.1 C.2.1 (tgt := 26) dX9_alarm_14 (by decide) ?_
        cases hf
        exact hend _ _ _ _ S dX9_alarm_26
set_option maxRecDepth 100000 in
set_option maxHeartbeats 4000000 in
theorem ct_X9_act (l : Launch) (G : Gd) (τ : Sg) {v1 : Int} {v2 : Int} {σ : Sg} {q : Int} (hf : f_X9_act v1 v2 σ = some q) : Ctr l yX9_act cX9_act 3 (some .int) (rmk 1 23) G true τ [.ref (G.1 0), .int (oI v1), .int (oI v2)] σ σ (some (.int (oI q))) := by
  unfold f_X9_act at hf
  refine CtrI.of (own := RX9) (plainFor_of_name (by decide)) (Nat.le_of_ble_eq_true rfl) rfl (fun p e s m below meth c Q ls C hl S hend => ?_)
  have hl : lv_has ls 3 [(0, .ref (G.1 0)), (1, .int (oI v1)), (2, .int (oI v2))] := hl
  refine lv_iload_n C.1 C.2.1 dX9_act_0 rfl (lv_at hl 1 rfl) ?_
  refine r_if_lt C rfl (tgt := 13) dX9_act_1 (by decide) (fun h5 => ?_) (fun h5 => ?_)
  · replace hf := if_t hf h5
    refine r_ldc C tw_185 dX9_act_13 ?_
    refine lv_goto C.1 C.2.1 (tgt := 27) dX9_act_15 (by decide) ?_
    cases hf
    exact hend _ _ _ _ S dX9_act_27
  · replace hf := if_f hf h5
    refine lv_iload_n C.1 C.2.1 dX9_act_4 rfl (lv_at hl 2 rfl) ?_
    refine r_if_lt C rfl (tgt := 13) dX9_act_5 (by decide) (fun h4 => ?_) (fun h4 => ?_)
    · replace hf := if_t hf h4
      refine r_ldc C tw_185 dX9_act_13 ?_
      refine lv_goto C.1 C.2.1 (tgt := 27) dX9_act_15 (by decide) ?_
      cases hf
      exact hend _ _ _ _ S dX9_act_27
    · replace hf := if_f hf h4
      refine lv_iload_n C.1 C.2.1 dX9_act_8 rfl (lv_at hl 2 rfl) ?_
      refine r_iconst C dX9_act_9 ?_
      refine r_icmp_le C rfl (show w32 2 = 2 by decide) (tgt := 18) dX9_act_10 (by decide) (fun h3 => ?_) (fun h3 => ?_)
      · replace hf := if_t hf h3
        refine lv_aload_n C.1 C.2.1 dX9_act_18 rfl (lv_at hl 0 rfl) ?_
        refine g9_acts C S tw_285 dX9_act_19 ?_
        refine lv_iload_n C.1 C.2.1 dX9_act_22 rfl (lv_at hl 1 rfl) ?_
        refine lv_iload_n C.1 C.2.1 dX9_act_23 rfl (lv_at hl 2 rfl) ?_
        obtain ⟨q1, hc2, hf⟩ := bd_o hf
        refine r_callVv C S (rest := []) (ct_X5_latest l G τ hc2) mi_X5_latest tw_948 mv_X5_latest (rvX5 S (d := 0) (by decide)) ⟨rfl, rfl⟩ ⟨Nat.le_of_ble_eq_true rfl, Nat.le_of_ble_eq_true rfl⟩ ⟨Nat.zero_le _, Nat.zero_le _⟩ rfl hl.1 rfl (Nat.le_of_ble_eq_true rfl) dX9_act_24 (fun H locs S => ?_)
        cases hf
        exact hend _ _ _ _ S dX9_act_27
      · replace hf := if_f hf h3
        refine r_ldc C tw_185 dX9_act_13 ?_
        refine lv_goto C.1 C.2.1 (tgt := 27) dX9_act_15 (by decide) ?_
        cases hf
        exact hend _ _ _ _ S dX9_act_27
set_option maxRecDepth 100000 in
set_option maxHeartbeats 4000000 in
theorem b_X9_passedTreaties_b32 (C : Cx p s m args c RX9 cX9_passedTreaties 4) {q : Int} {k4 : Int → Int → Option (Int)} (hend : EndR p l e (rmk 1 21) s m args below meth c Q G true τ cX9_passedTreaties .ireturn [.int (oI q)] σ) (hk4 : ∀ {H : Heap} {locs : List Loc} {ls : Array Slot} (v1 : Int) (v2 : Int), St G true τ σ s H locs → lv_has ls 4 [(0, .ref (G.1 0)), (1, .int (oI v1)), (2, .int (oI v2))] → k4 v1 v2 = some q → W p l e (rmk 1 21) s m args below meth c H locs 0 0 Q (F0 m 4 ls [])) {H : Heap} {locs : List Loc} {ls : Array Slot} (v1 : Int) (v2 : Int) (S : St G true τ σ s H locs) (hl : lv_has ls 4 [(0, .ref (G.1 0)), (1, .int (oI v1)), (2, .int (oI v2))]) (hf : f_X9_passedTreaties_b32 σ k4 v1 v2 = some q) : W p l e (rmk 1 21) s m args below meth c H locs 0 0 Q (F0 m 32 ls []) := by
  unfold f_X9_passedTreaties_b32 at hf
  refine r_iinc C dX9_passedTreaties_32 hl (k := 2) rfl (by decide) (lv' := [(2, .int (oI (v2 + 1))), (0, .ref (G.1 0)), (1, .int (oI v1))]) rfl (fun ls hl => ?_)
  refine lv_goto C.1 C.2.1 (tgt := 4) dX9_passedTreaties_35 (by decide) ?_
  exact hk4 v1 (v2 + 1) S (lv_sub hl [1, 2, 0] rfl) hf
set_option maxRecDepth 100000 in
set_option maxHeartbeats 4000000 in
theorem b_X9_passedTreaties_b4 (C : Cx p s m args c RX9 cX9_passedTreaties 4) {q : Int} (hend : EndR p l e (rmk 1 21) s m args below meth c Q G true τ cX9_passedTreaties .ireturn [.int (oI q)] σ) : ∀ (n : Nat) {H : Heap} {locs : List Loc} {ls : Array Slot} (v1 : Int) (v2 : Int) (S : St G true τ σ s H locs) (hl : lv_has ls 4 [(0, .ref (G.1 0)), (1, .int (oI v1)), (2, .int (oI v2))]) (hf : f_X9_passedTreaties_b4 σ n v1 v2 = some q), W p l e (rmk 1 21) s m args below meth c H locs 0 0 Q (F0 m 4 ls []) := by
  intro n
  induction n with
  | zero => intro H locs ls v1 v2 S hl hf; cases hf
  | succ n ih =>
    intro H locs ls v1 v2 S hl hf
    have hk4 := @ih
    rw [f_X9_passedTreaties_b4] at hf
    refine lv_iload_n C.1 C.2.1 dX9_passedTreaties_4 rfl (lv_at hl 2 rfl) ?_
    refine lv_aload_n C.1 C.2.1 dX9_passedTreaties_5 rfl (lv_at hl 0 rfl) ?_
    refine g9_treatyCount C S tw_284 dX9_passedTreaties_6 ?_
    refine r_icmp_ge C rfl rfl (tgt := 38) dX9_passedTreaties_9 (by decide) (fun h7 => ?_) (fun h7 => ?_)
    · replace hf := if_t hf h7
      refine lv_aload_n C.1 C.2.1 dX9_passedTreaties_12 rfl (lv_at hl 0 rfl) ?_
      refine lv_iload_n C.1 C.2.1 dX9_passedTreaties_13 rfl (lv_at hl 2 rfl) ?_
      obtain ⟨q1, hc2, hf⟩ := bd_o hf
      refine r_callVv C S (rest := []) (ct_X9_treatyAt l G τ hc2) mi_X9_treatyAt tw_528 mv_X9_treatyAt (rvX9 S) ⟨rfl, rfl⟩ ⟨Nat.le_of_ble_eq_true rfl, Nat.le_of_ble_eq_true rfl⟩ ⟨Nat.zero_le _, Nat.zero_le _⟩ rfl hl.1 rfl (Nat.le_of_ble_eq_true rfl) dX9_passedTreaties_14 (fun H locs S => ?_)
      rcases q1 with _ | t3
      · replace hf := oT_n hf
        refine lv_astore_nN C.1 C.2.1 dX9_passedTreaties_17 rfl hl (by decide) (lv' := [(3, .null), (0, .ref (G.1 0)), (1, .int (oI v1)), (2, .int (oI v2))]) rfl (fun ls hl => ?_)
        refine lv_aload_nN C.1 C.2.1 dX9_passedTreaties_18 rfl (lv_at hl 0 rfl) ?_
        refine lv_ifnullN C.1 C.2.1 (tgt := 32) dX9_passedTreaties_19 (by decide) ?_
        exact b_X9_passedTreaties_b32 C hend hk4 v1 v2 S (lv_sub hl [1, 2, 3] rfl) hf
      · obtain ⟨ht3, hf⟩ := oT_s hf
        refine lv_astore_n C.1 C.2.1 dX9_passedTreaties_17 rfl hl (by decide) (lv' := [(3, .ref (G.1 (21 + t3))), (0, .ref (G.1 0)), (1, .int (oI v1)), (2, .int (oI v2))]) rfl (fun ls hl => ?_)
        refine lv_aload_n C.1 C.2.1 dX9_passedTreaties_18 rfl (lv_at hl 0 rfl) ?_
        refine lv_ifnull C.1 C.2.1 dX9_passedTreaties_19 ?_
        refine lv_aload_n C.1 C.2.1 dX9_passedTreaties_22 rfl (lv_at hl 0 rfl) ?_
        obtain ⟨q4, hc5, hf⟩ := bd_o hf
        refine r_callVv C S (rest := []) (ct_X8_isPassed l G τ hc5) mi_X8_isPassed tw_532 mv_X8_isPassed (rvX8 S (d := t3) (by omega)) ⟨rfl, rfl⟩ ⟨Nat.le_of_ble_eq_true rfl, Nat.le_of_ble_eq_true rfl⟩ ⟨Nat.zero_le _, Nat.zero_le _⟩ rfl hl.1 rfl (Nat.le_of_ble_eq_true rfl) dX9_passedTreaties_23 (fun H locs S => ?_)
        refine r_if_eq C rfl (tgt := 32) dX9_passedTreaties_26 (by decide) (fun h6 => ?_) (fun h6 => ?_)
        · replace hf := if_t hf h6
          exact b_X9_passedTreaties_b32 C hend hk4 v1 v2 S (lv_sub hl [1, 2, 3] rfl) hf
        · replace hf := if_f hf h6
          refine r_iinc C dX9_passedTreaties_29 hl (k := 2) rfl (by decide) (lv' := [(1, .int (oI (v1 + 1))), (3, .ref (G.1 (21 + t3))), (0, .ref (G.1 0)), (2, .int (oI v2))]) rfl (fun ls hl => ?_)
          exact b_X9_passedTreaties_b32 C hend hk4 (v1 + 1) v2 S (lv_sub hl [2, 0, 3] rfl) hf
    · replace hf := if_f hf h7
      refine lv_iload_n C.1 C.2.1 dX9_passedTreaties_38 rfl (lv_at hl 1 rfl) ?_
      cases hf
      exact hend _ _ _ _ S dX9_passedTreaties_39
set_option maxRecDepth 100000 in
set_option maxHeartbeats 4000000 in
theorem ct_X9_passedTreaties (l : Launch) (G : Gd) (τ : Sg) {σ : Sg} {q : Int} (hf : f_X9_passedTreaties σ = some q) : Ctr l yX9_passedTreaties cX9_passedTreaties 4 (some .int) (rmk 1 21) G true τ [.ref (G.1 0)] σ σ (some (.int (oI q))) := by
  unfold f_X9_passedTreaties at hf
  refine CtrI.of (own := RX9) (plainFor_of_name (by decide)) (Nat.le_of_ble_eq_true rfl) rfl (fun p e s m below meth c Q ls C hl S hend => ?_)
  have hl : lv_has ls 4 [(0, .ref (G.1 0))] := hl
  refine r_iconst C dX9_passedTreaties_0 ?_
  refine lv_istore_n C.1 C.2.1 dX9_passedTreaties_1 rfl hl (by decide) (lv' := [(1, .int (oI 0)), (0, .ref (G.1 0))]) rfl (fun ls hl => ?_)
  refine r_iconst C dX9_passedTreaties_2 ?_
  refine lv_istore_n C.1 C.2.1 dX9_passedTreaties_3 rfl hl (by decide) (lv' := [(2, .int (oI 0)), (1, .int (oI 0)), (0, .ref (G.1 0))]) rfl (fun ls hl => ?_)
  exact b_X9_passedTreaties_b4 C hend FUEL 0 0 S (lv_sub hl [2, 1, 0] rfl) hf
set_option maxRecDepth 100000 in
set_option maxHeartbeats 4000000 in
theorem b_X0_unlikePlaces_b50 (C : Cx p s m args c RX0 cX0_unlikePlaces 3) {q : Int} {k4 : Int → Int → Option (Int)} (hend : EndR p l e (rmk 2 48) s m args below meth c Q G true τ cX0_unlikePlaces .ireturn [.int (oI q)] σ) (hk4 : ∀ {H : Heap} {locs : List Loc} {ls : Array Slot} (v1 : Int) (v2 : Int), St G true τ σ s H locs → lv_has ls 3 [(0, .ref (G.1 6)), (1, .int (oI v1)), (2, .int (oI v2))] → k4 v1 v2 = some q → W p l e (rmk 2 48) s m args below meth c H locs 0 0 Q (F0 m 4 ls [])) {H : Heap} {locs : List Loc} {ls : Array Slot} (v1 : Int) (v2 : Int) (S : St G true τ σ s H locs) (hl : lv_has ls 3 [(0, .ref (G.1 6)), (1, .int (oI v1)), (2, .int (oI v2))]) (hf : f_X0_unlikePlaces_b50 σ k4 v1 v2 = some q) : W p l e (rmk 2 48) s m args below meth c H locs 0 0 Q (F0 m 50 ls []) := by
  unfold f_X0_unlikePlaces_b50 at hf
  refine r_iinc C dX0_unlikePlaces_50 hl (k := 2) rfl (by decide) (lv' := [(2, .int (oI (v2 + 1))), (0, .ref (G.1 6)), (1, .int (oI v1))]) rfl (fun ls hl => ?_)
  refine lv_goto C.1 C.2.1 (tgt := 4) dX0_unlikePlaces_53 (by decide) ?_
  exact hk4 v1 (v2 + 1) S (lv_sub hl [1, 2, 0] rfl) hf
set_option maxRecDepth 100000 in
set_option maxHeartbeats 4000000 in
theorem b_X0_unlikePlaces_b4 (C : Cx p s m args c RX0 cX0_unlikePlaces 3) {q : Int} (hend : EndR p l e (rmk 2 48) s m args below meth c Q G true τ cX0_unlikePlaces .ireturn [.int (oI q)] σ) : ∀ (n : Nat) {H : Heap} {locs : List Loc} {ls : Array Slot} (v1 : Int) (v2 : Int) (S : St G true τ σ s H locs) (hl : lv_has ls 3 [(0, .ref (G.1 6)), (1, .int (oI v1)), (2, .int (oI v2))]) (hf : f_X0_unlikePlaces_b4 σ n v1 v2 = some q), W p l e (rmk 2 48) s m args below meth c H locs 0 0 Q (F0 m 4 ls []) := by
  intro n
  induction n with
  | zero => intro H locs ls v1 v2 S hl hf; cases hf
  | succ n ih =>
    intro H locs ls v1 v2 S hl hf
    have hk4 := @ih
    rw [f_X0_unlikePlaces_b4] at hf
    refine lv_iload_n C.1 C.2.1 dX0_unlikePlaces_4 rfl (lv_at hl 2 rfl) ?_
    refine r_bipush C dX0_unlikePlaces_5 (by decide) ?_
    refine r_icmp_ge C rfl (show w32 24 = 24 by decide) (tgt := 56) dX0_unlikePlaces_7 (by decide) (fun h9 => ?_) (fun h9 => ?_)
    · replace hf := if_t hf h9
      refine lv_aload_n C.1 C.2.1 dX0_unlikePlaces_10 rfl (lv_at hl 0 rfl) ?_
      refine g0_inForce C S tw_98 dX0_unlikePlaces_11 ?_
      refine lv_iload_n C.1 C.2.1 dX0_unlikePlaces_14 rfl (lv_at hl 2 rfl) ?_
      obtain ⟨q1, hc2, hf⟩ := bd_o hf
      refine r_callSNv C S (rest := []) (ct_X9_contains l G τ hc2) mi_X9_contains (nw_461 S.2.2.2) ms_X9_contains ⟨rfl, rfl⟩ ⟨Nat.le_of_ble_eq_true rfl, Nat.le_of_ble_eq_true rfl⟩ ⟨Nat.zero_le _, Nat.zero_le _⟩ rfl hl.1 rfl (Nat.le_of_ble_eq_true rfl) dX0_unlikePlaces_15 (fun H locs S => ?_)
      refine r_if_eq C rfl (tgt := 50) dX0_unlikePlaces_18 (by decide) (fun h8 => ?_) (fun h8 => ?_)
      · replace hf := if_t hf h8
        exact b_X0_unlikePlaces_b50 C hend hk4 v1 v2 S (lv_sub hl [0, 1, 2] rfl) hf
      · replace hf := if_f hf h8
        refine lv_aload_n C.1 C.2.1 dX0_unlikePlaces_21 rfl (lv_at hl 0 rfl) ?_
        refine lv_aload_n C.1 C.2.1 dX0_unlikePlaces_22 rfl (lv_at hl 0 rfl) ?_
        refine g0_x C S tw_91 dX0_unlikePlaces_23 ?_
        refine lv_iload_n C.1 C.2.1 dX0_unlikePlaces_26 rfl (lv_at hl 2 rfl) ?_
        obtain ⟨hi3, hf⟩ := ck_o hf
        refine a_iald C S ar_7 hi3 dX0_unlikePlaces_27 ?_
        refine lv_aload_n C.1 C.2.1 dX0_unlikePlaces_28 rfl (lv_at hl 0 rfl) ?_
        refine g0_y C S tw_93 dX0_unlikePlaces_29 ?_
        refine lv_iload_n C.1 C.2.1 dX0_unlikePlaces_32 rfl (lv_at hl 2 rfl) ?_
        obtain ⟨hi4, hf⟩ := ck_o hf
        refine a_iald C S ar_8 hi4 dX0_unlikePlaces_33 ?_
        refine r_iconst C dX0_unlikePlaces_34 ?_
        obtain ⟨q5, hc6, hf⟩ := bd_o hf
        refine r_callVv C S (rest := []) (ct_X0_within l G τ hc6) mi_X0_within tw_968 mv_X0_within (rvX0 S) ⟨rfl, rfl⟩ ⟨Nat.le_of_ble_eq_true rfl, Nat.le_of_ble_eq_true rfl⟩ ⟨Nat.zero_le _, Nat.zero_le _⟩ rfl hl.1 rfl (Nat.le_of_ble_eq_true rfl) dX0_unlikePlaces_35 (fun H locs S => ?_)
        refine r_iconst C dX0_unlikePlaces_38 ?_
        refine lv_iload_n C.1 C.2.1 dX0_unlikePlaces_39 rfl (lv_at hl 2 rfl) ?_
        refine r_ishl C (y1 := (u32 v2 % 32)) rfl dX0_unlikePlaces_40 ?_
        refine r_iconst C dX0_unlikePlaces_41 ?_
        refine r_isub C dX0_unlikePlaces_42 ?_
        refine r_iand C rfl rfl dX0_unlikePlaces_43 ?_
        refine r_if_ne C rfl (tgt := 50) dX0_unlikePlaces_44 (by decide) (fun h7 => ?_) (fun h7 => ?_)
        · replace hf := if_t hf h7
          refine r_iinc C dX0_unlikePlaces_47 hl (k := 1) rfl (by decide) (lv' := [(1, .int (oI (v1 + 1))), (0, .ref (G.1 6)), (2, .int (oI v2))]) rfl (fun ls hl => ?_)
          exact b_X0_unlikePlaces_b50 C hend hk4 (v1 + 1) v2 S (lv_sub hl [1, 0, 2] rfl) hf
        · replace hf := if_f hf h7
          exact b_X0_unlikePlaces_b50 C hend hk4 v1 v2 S (lv_sub hl [0, 1, 2] rfl) hf
    · replace hf := if_f hf h9
      refine lv_iload_n C.1 C.2.1 dX0_unlikePlaces_56 rfl (lv_at hl 1 rfl) ?_
      cases hf
      exact hend _ _ _ _ S dX0_unlikePlaces_57
set_option maxRecDepth 100000 in
set_option maxHeartbeats 4000000 in
theorem ct_X0_unlikePlaces (l : Launch) (G : Gd) (τ : Sg) {σ : Sg} {q : Int} (hf : f_X0_unlikePlaces σ = some q) : Ctr l yX0_unlikePlaces cX0_unlikePlaces 3 (some .int) (rmk 2 48) G true τ [.ref (G.1 6)] σ σ (some (.int (oI q))) := by
  unfold f_X0_unlikePlaces at hf
  refine CtrI.of (own := RX0) (plainFor_of_name (by decide)) (Nat.le_of_ble_eq_true rfl) rfl (fun p e s m below meth c Q ls C hl S hend => ?_)
  have hl : lv_has ls 3 [(0, .ref (G.1 6))] := hl
  refine r_iconst C dX0_unlikePlaces_0 ?_
  refine lv_istore_n C.1 C.2.1 dX0_unlikePlaces_1 rfl hl (by decide) (lv' := [(1, .int (oI 0)), (0, .ref (G.1 6))]) rfl (fun ls hl => ?_)
  refine r_iconst C dX0_unlikePlaces_2 ?_
  refine lv_istore_n C.1 C.2.1 dX0_unlikePlaces_3 rfl hl (by decide) (lv' := [(2, .int (oI 0)), (1, .int (oI 0)), (0, .ref (G.1 6))]) rfl (fun ls hl => ?_)
  exact b_X0_unlikePlaces_b4 C hend FUEL 0 0 S (lv_sub hl [2, 1, 0] rfl) hf
set_option maxRecDepth 100000 in
set_option maxHeartbeats 4000000 in
theorem ct_X9_count (l : Launch) (G : Gd) (τ : Sg) {v1 : Int} {σ : Sg} {q : Int} (hf : f_X9_count v1 σ = some q) : Ctr l yX9_count cX9_count 2 (some .int) (rmk 3 70) G true τ [.ref (G.1 0), .int (oI v1)] σ σ (some (.int (oI q))) := by
  unfold f_X9_count at hf
  refine CtrI.of (own := RX9) (plainFor_of_name (by decide)) (Nat.le_of_ble_eq_true rfl) rfl (fun p e s m below meth c Q ls C hl S hend => ?_)
  have hl : lv_has ls 2 [(0, .ref (G.1 0)), (1, .int (oI v1))] := hl
  refine lv_iload_n C.1 C.2.1 dX9_count_0 rfl (lv_at hl 1 rfl) ?_
  by_cases hs0 : w32 v1 = 0
  · replace hf := if_t hf hs0
    refine r_tabIn C (tgt := 44) (v := 0) dX9_count_1 hs0 (by decide) (by decide) rfl (by decide) ?_
    refine lv_aload_n C.1 C.2.1 dX9_count_44 rfl (lv_at hl 0 rfl) ?_
    refine g9_book C S tw_282 dX9_count_45 ?_
    refine g0_inForce C S tw_99 dX9_count_48 ?_
    obtain ⟨q1, hc2, hf⟩ := bd_o hf
    refine r_callSv C S (rest := []) (ct_J6_bitCount_0f7a4 l G τ hc2) mi_J6_bitCount_0f7a4 tw_646 ms_J6_bitCount_0f7a4 ⟨rfl, rfl⟩ ⟨Nat.le_of_ble_eq_true rfl, Nat.le_of_ble_eq_true rfl⟩ ⟨Nat.zero_le _, Nat.zero_le _⟩ rfl hl.1 rfl (Nat.le_of_ble_eq_true rfl) dX9_count_51 (fun H locs S => ?_)
    cases hf
    exact hend _ _ _ _ S dX9_count_54
  · replace hf := if_f hf hs0
    by_cases hs1 : w32 v1 = 1
    · replace hf := if_t hf hs1
      refine r_tabIn C (tgt := 55) (v := 1) dX9_count_1 hs1 (by decide) (by decide) rfl (by decide) ?_
      refine lv_aload_n C.1 C.2.1 dX9_count_55 rfl (lv_at hl 0 rfl) ?_
      refine g9_treatyCount C S tw_284 dX9_count_56 ?_
      cases hf
      exact hend _ _ _ _ S dX9_count_59
    · replace hf := if_f hf hs1
      by_cases hs2 : w32 v1 = 2
      · replace hf := if_t hf hs2
        refine r_tabIn C (tgt := 60) (v := 2) dX9_count_1 hs2 (by decide) (by decide) rfl (by decide) ?_
        refine lv_aload_n C.1 C.2.1 dX9_count_60 rfl (lv_at hl 0 rfl) ?_
        refine g9_book C S tw_282 dX9_count_61 ?_
        refine lv_aload_n C.1 C.2.1 dX9_count_64 rfl (lv_at hl 0 rfl) ?_
        refine g9_book C S tw_282 dX9_count_65 ?_
        refine g0_inForce C S tw_99 dX9_count_68 ?_
        obtain ⟨q3, hc4, hf⟩ := bd_o hf
        refine r_callVv C S (rest := []) (ct_X0_sums l G τ hc4) mi_X0_sums tw_652 mv_X0_sums (rvX0 S) ⟨rfl, rfl⟩ ⟨Nat.le_of_ble_eq_true rfl, Nat.le_of_ble_eq_true rfl⟩ ⟨Nat.zero_le _, Nat.zero_le _⟩ rfl hl.1 rfl (Nat.le_of_ble_eq_true rfl) dX9_count_71 (fun H locs S => ?_)
        cases hf
        exact hend _ _ _ _ S dX9_count_74
      · replace hf := if_f hf hs2
        by_cases hs3 : w32 v1 = 3
        · replace hf := if_t hf hs3
          refine r_tabIn C (tgt := 75) (v := 3) dX9_count_1 hs3 (by decide) (by decide) rfl (by decide) ?_
          refine lv_aload_n C.1 C.2.1 dX9_count_75 rfl (lv_at hl 0 rfl) ?_
          obtain ⟨q5, hc6, hf⟩ := bd_o hf
          refine r_callVv C S (rest := []) (ct_X9_passedTreaties l G τ hc6) mi_X9_passedTreaties tw_960 mv_X9_passedTreaties (rvX9 S) ⟨rfl, rfl⟩ ⟨Nat.le_of_ble_eq_true rfl, Nat.le_of_ble_eq_true rfl⟩ ⟨Nat.zero_le _, Nat.zero_le _⟩ rfl hl.1 rfl (Nat.le_of_ble_eq_true rfl) dX9_count_76 (fun H locs S => ?_)
          cases hf
          exact hend _ _ _ _ S dX9_count_79
        · replace hf := if_f hf hs3
          by_cases hs4 : w32 v1 = 4
          · replace hf := if_t hf hs4
            refine r_tabIn C (tgt := 80) (v := 4) dX9_count_1 hs4 (by decide) (by decide) rfl (by decide) ?_
            refine lv_aload_n C.1 C.2.1 dX9_count_80 rfl (lv_at hl 0 rfl) ?_
            refine g9_acts C S tw_285 dX9_count_81 ?_
            refine g5_count C (d := 0) S (by decide) tw_193 dX9_count_84 ?_
            cases hf
            exact hend _ _ _ _ S dX9_count_87
          · replace hf := if_f hf hs4
            by_cases hs5 : w32 v1 = 5
            · replace hf := if_t hf hs5
              refine r_tabIn C (tgt := 88) (v := 5) dX9_count_1 hs5 (by decide) (by decide) rfl (by decide) ?_
              refine lv_aload_n C.1 C.2.1 dX9_count_88 rfl (lv_at hl 0 rfl) ?_
              refine g9_book C S tw_282 dX9_count_89 ?_
              obtain ⟨q7, hc8, hf⟩ := bd_o hf
              refine r_callVv C S (rest := []) (ct_X0_unlikePlaces l G τ hc8) mi_X0_unlikePlaces tw_964 mv_X0_unlikePlaces (rvX0 S) ⟨rfl, rfl⟩ ⟨Nat.le_of_ble_eq_true rfl, Nat.le_of_ble_eq_true rfl⟩ ⟨Nat.zero_le _, Nat.zero_le _⟩ rfl hl.1 rfl (Nat.le_of_ble_eq_true rfl) dX9_count_92 (fun H locs S => ?_)
              cases hf
              exact hend _ _ _ _ S dX9_count_95
            · replace hf := if_f hf hs5
              by_cases hs6 : w32 v1 = 6
              · replace hf := if_t hf hs6
                refine r_tabIn C (tgt := 96) (v := 6) dX9_count_1 hs6 (by decide) (by decide) rfl (by decide) ?_
                refine lv_aload_n C.1 C.2.1 dX9_count_96 rfl (lv_at hl 0 rfl) ?_
                refine g9_tape C S tw_280 dX9_count_97 ?_
                refine g6_length C S tw_39 dX9_count_100 ?_
                cases hf
                exact hend _ _ _ _ S dX9_count_103
              · replace hf := if_f hf hs6
                refine r_tabOut C (tgt := 104) dX9_count_1 (by omega) (by decide) ?_
                refine r_iconst C dX9_count_104 ?_
                cases hf
                exact hend _ _ _ _ S dX9_count_105
set_option maxRecDepth 100000 in
set_option maxHeartbeats 4000000 in
theorem b_X10_feed_b73 (C : Cx p s m args c RX10 cX10_feed 8) {q : Int × Sg} {k20 : Int → Int → Int → Int → Int → Int → Sg → Option (Int × Sg)} (hend : EndR p l e (rmk 0 0) s m args below meth c Q G false τ cX10_feed .ireturn [.int (oI q.1)] q.2) (hk20 : ∀ {H : Heap} {locs : List Loc} {ls : Array Slot} {σ : Sg} (v1 : Int) (v2 : Int) (v3 : Int) (v4 : Int) (v5 : Int) (v6 : Int), St G false τ σ s H locs → lv_has ls 8 [(0, .ref (G.1 41)), (1, .int (oI v1)), (2, .int (oI v2)), (3, .int (oI v3)), (4, .int (oI v4)), (5, .int (oI v5)), (6, .int (oI v6))] → k20 v1 v2 v3 v4 v5 v6 σ = some q → W p l e (rmk 0 0) s m args below meth c H locs 0 0 Q (F0 m 20 ls [])) {H : Heap} {locs : List Loc} {ls : Array Slot} {σ : Sg} (v1 : Int) (v2 : Int) (v3 : Int) (v4 : Int) (v5 : Int) (v6 : Int) (w0 : Int) (S : St G false τ σ s H locs) (hl : lv_has ls 8 [(0, .ref (G.1 41)), (1, .int (oI v1)), (2, .int (oI v2)), (3, .int (oI v3)), (4, .int (oI v4)), (5, .int (oI v5)), (6, .int (oI v6))]) (hf : f_X10_feed_b73 k20 v1 v2 v3 v4 v5 v6 w0 σ = some q) : W p l e (rmk 0 0) s m args below meth c H locs 0 0 Q (F0 m 73 ls [.int (oI w0)]) := by
  unfold f_X10_feed_b73 at hf
  refine lv_istore C.1 C.2.1 dX10_feed_73 hl (by decide) (lv' := [(7, .int (oI w0)), (0, .ref (G.1 41)), (1, .int (oI v1)), (2, .int (oI v2)), (3, .int (oI v3)), (4, .int (oI v4)), (5, .int (oI v5)), (6, .int (oI v6))]) rfl (fun ls hl => ?_)
  refine lv_aload_n C.1 C.2.1 dX10_feed_75 rfl (lv_at hl 1 rfl) ?_
  refine g10_tape C S tw_1062 dX10_feed_76 ?_
  refine lv_aload_n C.1 C.2.1 dX10_feed_79 rfl (lv_at hl 1 rfl) ?_
  refine g10_taped C S tw_1063 dX10_feed_80 ?_
  refine lv_iload C.1 C.2.1 dX10_feed_83 (lv_at hl 7 rfl) ?_
  refine r_iadd C dX10_feed_85 ?_
  refine lv_iload C.1 C.2.1 dX10_feed_86 (lv_at hl 0 rfl) ?_
  refine r_bipush C dX10_feed_88 (by decide) ?_
  refine r_bipush C dX10_feed_90 (by decide) ?_
  refine lv_iload C.1 C.2.1 dX10_feed_92 (lv_at hl 7 rfl) ?_
  refine r_iconst C dX10_feed_94 ?_
  obtain ⟨hz2, hf⟩ := ck_o hf
  refine r_irem C hz2 dX10_feed_95 ?_
  refine r_imul C dX10_feed_96 ?_
  refine r_isub C dX10_feed_97 ?_
  refine r_ishr C (y1 := (u32 (24 - (8 * ((w32 v6).tmod (w32 4)))) % 32)) rfl dX10_feed_98 ?_
  refine r_sipush C dX10_feed_99 (by decide) ?_
  refine r_iand C rfl (show u32 255 = 255 by decide) dX10_feed_102 ?_
  obtain ⟨hi3, hf⟩ := ck_o hf
  refine a_iast C S ar_42 hi3 dX10_feed_103 (fun H locs S => ?_)
  obtain ⟨σ4, S, hf⟩ := wr_s S hf
  refine r_iinc C dX10_feed_104 hl (k := 7) rfl (by decide) (lv' := [(6, .int (oI (v6 + 1))), (7, .int (oI w0)), (0, .ref (G.1 41)), (1, .int (oI v1)), (2, .int (oI v2)), (3, .int (oI v3)), (4, .int (oI v4)), (5, .int (oI v5))]) rfl (fun ls hl => ?_)
  refine lv_goto C.1 C.2.1 (tgt := 20) dX10_feed_107 (by decide) ?_
  exact hk20 v1 v2 v3 v4 v5 (v6 + 1) S (lv_sub hl [2, 3, 4, 5, 6, 7, 0] rfl) hf
set_option maxRecDepth 100000 in
set_option maxHeartbeats 4000000 in
theorem b_X10_feed_b110 (C : Cx p s m args c RX10 cX10_feed 8) {q : Int × Sg} (hend : EndR p l e (rmk 0 0) s m args below meth c Q G false τ cX10_feed .ireturn [.int (oI q.1)] q.2) {H : Heap} {locs : List Loc} {ls : Array Slot} {σ : Sg} (S : St G false τ σ s H locs) (hl : lv_has ls 8 [(0, .ref (G.1 41))]) (hf : f_X10_feed_b110 σ = some q) : W p l e (rmk 0 0) s m args below meth c H locs 0 0 Q (F0 m 110 ls []) := by
  unfold f_X10_feed_b110 at hf
  refine lv_aload_n C.1 C.2.1 dX10_feed_110 rfl (lv_at hl 0 rfl) ?_
  refine lv_dup C.1 C.2.1 dX10_feed_111 rfl ?_
  refine g10_taped C S tw_1063 dX10_feed_112 ?_
  refine r_bipush C dX10_feed_115 (by decide) ?_
  refine r_iadd C dX10_feed_117 ?_
  refine p10_taped C S tw_1063 dX10_feed_118 (fun H locs S => ?_)
  obtain ⟨σ9, S, hf⟩ := wr_s S hf
  refine lv_aload_n C.1 C.2.1 dX10_feed_121 rfl (lv_at hl 0 rfl) ?_
  refine g10_taped C S tw_1063 dX10_feed_122 ?_
  cases hf
  exact hend _ _ _ _ S dX10_feed_125
set_option maxRecDepth 100000 in
set_option maxHeartbeats 4000000 in
theorem b_X10_feed_b20 (C : Cx p s m args c RX10 cX10_feed 8) {q : Int × Sg} (hend : EndR p l e (rmk 0 0) s m args below meth c Q G false τ cX10_feed .ireturn [.int (oI q.1)] q.2) : ∀ (n : Nat) {H : Heap} {locs : List Loc} {ls : Array Slot} {σ : Sg} (v1 : Int) (v2 : Int) (v3 : Int) (v4 : Int) (v5 : Int) (v6 : Int) (S : St G false τ σ s H locs) (hl : lv_has ls 8 [(0, .ref (G.1 41)), (1, .int (oI v1)), (2, .int (oI v2)), (3, .int (oI v3)), (4, .int (oI v4)), (5, .int (oI v5)), (6, .int (oI v6))]) (hf : f_X10_feed_b20 n v1 v2 v3 v4 v5 v6 σ = some q), W p l e (rmk 0 0) s m args below meth c H locs 0 0 Q (F0 m 20 ls []) := by
  intro n
  induction n with
  | zero => intro H locs ls σ v1 v2 v3 v4 v5 v6 S hl hf; cases hf
  | succ n ih =>
    intro H locs ls σ v1 v2 v3 v4 v5 v6 S hl hf
    have hk20 := @ih
    rw [f_X10_feed_b20] at hf
    refine lv_iload C.1 C.2.1 dX10_feed_20 (lv_at hl 6 rfl) ?_
    refine r_bipush C dX10_feed_22 (by decide) ?_
    refine r_icmp_ge C rfl (show w32 20 = 20 by decide) (tgt := 110) dX10_feed_24 (by decide) (fun h10 => ?_) (fun h10 => ?_)
    · replace hf := if_t hf h10
      refine lv_iload C.1 C.2.1 dX10_feed_27 (lv_at hl 6 rfl) ?_
      refine r_iconst C dX10_feed_29 ?_
      refine r_icmp_ge C rfl (show w32 4 = 4 by decide) (tgt := 37) dX10_feed_30 (by decide) (fun h8 => ?_) (fun h8 => ?_)
      · replace hf := if_t hf h8
        refine lv_iload_n C.1 C.2.1 dX10_feed_33 rfl (lv_at hl 1 rfl) ?_
        refine lv_goto C.1 C.2.1 (tgt := 73) dX10_feed_34 (by decide) ?_
        exact b_X10_feed_b73 C hend hk20 v1 v2 v3 v4 v5 v6 v1 S (lv_sub hl [0, 1, 2, 3, 4, 5, 6] rfl) hf
      · replace hf := if_f hf h8
        refine lv_iload C.1 C.2.1 dX10_feed_37 (lv_at hl 6 rfl) ?_
        refine r_bipush C dX10_feed_39 (by decide) ?_
        refine r_icmp_ge C rfl (show w32 8 = 8 by decide) (tgt := 48) dX10_feed_41 (by decide) (fun h7 => ?_) (fun h7 => ?_)
        · replace hf := if_t hf h7
          refine lv_iload_n C.1 C.2.1 dX10_feed_44 rfl (lv_at hl 2 rfl) ?_
          refine lv_goto C.1 C.2.1 (tgt := 73) dX10_feed_45 (by decide) ?_
          exact b_X10_feed_b73 C hend hk20 v1 v2 v3 v4 v5 v6 v2 S (lv_sub hl [0, 1, 2, 3, 4, 5, 6] rfl) hf
        · replace hf := if_f hf h7
          refine lv_iload C.1 C.2.1 dX10_feed_48 (lv_at hl 6 rfl) ?_
          refine r_bipush C dX10_feed_50 (by decide) ?_
          refine r_icmp_ge C rfl (show w32 12 = 12 by decide) (tgt := 59) dX10_feed_52 (by decide) (fun h6 => ?_) (fun h6 => ?_)
          · replace hf := if_t hf h6
            refine lv_iload_n C.1 C.2.1 dX10_feed_55 rfl (lv_at hl 3 rfl) ?_
            refine lv_goto C.1 C.2.1 (tgt := 73) dX10_feed_56 (by decide) ?_
            exact b_X10_feed_b73 C hend hk20 v1 v2 v3 v4 v5 v6 v3 S (lv_sub hl [0, 1, 2, 3, 4, 5, 6] rfl) hf
          · replace hf := if_f hf h6
            refine lv_iload C.1 C.2.1 dX10_feed_59 (lv_at hl 6 rfl) ?_
            refine r_bipush C dX10_feed_61 (by decide) ?_
            refine r_icmp_ge C rfl (show w32 16 = 16 by decide) (tgt := 71) dX10_feed_63 (by decide) (fun h5 => ?_) (fun h5 => ?_)
            · replace hf := if_t hf h5
              refine lv_iload C.1 C.2.1 dX10_feed_66 (lv_at hl 4 rfl) ?_
              refine lv_goto C.1 C.2.1 (tgt := 73) dX10_feed_68 (by decide) ?_
              exact b_X10_feed_b73 C hend hk20 v1 v2 v3 v4 v5 v6 v4 S (lv_sub hl [0, 1, 2, 3, 4, 5, 6] rfl) hf
            · replace hf := if_f hf h5
              refine lv_iload C.1 C.2.1 dX10_feed_71 (lv_at hl 5 rfl) ?_
              exact b_X10_feed_b73 C hend hk20 v1 v2 v3 v4 v5 v6 v5 S (lv_sub hl [0, 1, 2, 3, 4, 5, 6] rfl) hf
    · replace hf := if_f hf h10
      exact b_X10_feed_b110 C hend S (lv_sub hl [0] rfl) hf
set_option maxRecDepth 100000 in
set_option maxHeartbeats 4000000 in
theorem ct_X10_feed (l : Launch) (G : Gd) (τ : Sg) {v1 : Int} {v2 : Int} {v3 : Int} {v4 : Int} {v5 : Int} {σ : Sg} {q : Int × Sg} (hf : f_X10_feed v1 v2 v3 v4 v5 σ = some q) : Ctr l yX10_feed cX10_feed 8 (some .int) (rmk 0 0) G false τ [.ref (G.1 41), .int (oI v1), .int (oI v2), .int (oI v3), .int (oI v4), .int (oI v5)] σ q.2 (some (.int (oI q.1))) := by
  unfold f_X10_feed at hf
  refine CtrI.of (own := RX10) (plainFor_of_name (by decide)) (Nat.le_of_ble_eq_true rfl) rfl (fun p e s m below meth c Q ls C hl S hend => ?_)
  have hl : lv_has ls 8 [(0, .ref (G.1 41)), (1, .int (oI v1)), (2, .int (oI v2)), (3, .int (oI v3)), (4, .int (oI v4)), (5, .int (oI v5))] := hl
  refine lv_aload_n C.1 C.2.1 dX10_feed_0 rfl (lv_at hl 0 rfl) ?_
  refine r_iconst C dX10_feed_1 ?_
  refine p10_thrown C S tw_1061 dX10_feed_2 (fun H locs S => ?_)
  obtain ⟨σ1, S, hf⟩ := wr_s S hf
  refine lv_aload_n C.1 C.2.1 dX10_feed_5 rfl (lv_at hl 0 rfl) ?_
  refine g10_taped C S tw_1063 dX10_feed_6 ?_
  refine r_sipush C dX10_feed_9 (by decide) ?_
  refine r_icmp_le C rfl (show w32 880 = 880 by decide) (tgt := 17) dX10_feed_12 (by decide) (fun h11 => ?_) (fun h11 => ?_)
  · replace hf := if_t hf h11
    refine r_iconst C dX10_feed_17 ?_
    refine lv_istore C.1 C.2.1 dX10_feed_18 hl (by decide) (lv' := [(6, .int (oI 0)), (0, .ref (G.1 41)), (1, .int (oI v1)), (2, .int (oI v2)), (3, .int (oI v3)), (4, .int (oI v4)), (5, .int (oI v5))]) rfl (fun ls hl => ?_)
    exact b_X10_feed_b20 C hend FUEL v1 v2 v3 v4 v5 0 S (lv_sub hl [1, 2, 3, 4, 5, 6, 0] rfl) hf
  · replace hf := if_f hf h11
    refine r_iconst C dX10_feed_15 ?_
    cases hf
    exact hend _ _ _ _ S dX10_feed_16
set_option maxRecDepth 100000 in
set_option maxHeartbeats 4000000 in
theorem ct_X10_here (l : Launch) (G : Gd) (τ : Sg) {σ : Sg} {q : Int} (hf : f_X10_here σ = some q) : Ctr l yX10_here cX10_here 1 (some .int) (rmk 0 0) G false τ [.ref (G.1 41)] σ σ (some (.int (oI q))) := by
  unfold f_X10_here at hf
  refine CtrI.of (own := RX10) (plainFor_of_name (by decide)) (Nat.le_of_ble_eq_true rfl) rfl (fun p e s m below meth c Q ls C hl S hend => ?_)
  have hl : lv_has ls 1 [(0, .ref (G.1 41))] := hl
  refine lv_aload_n C.1 C.2.1 dX10_here_0 rfl (lv_at hl 0 rfl) ?_
  refine g10_at C S tw_1070 dX10_here_1 ?_
  refine lv_aload_n C.1 C.2.1 dX10_here_4 rfl (lv_at hl 0 rfl) ?_
  refine g10_size C S tw_1069 dX10_here_5 ?_
  refine r_icmp_ge C rfl rfl (tgt := 23) dX10_here_8 (by decide) (fun h2 => ?_) (fun h2 => ?_)
  · replace hf := if_t hf h2
    refine lv_aload_n C.1 C.2.1 dX10_here_11 rfl (lv_at hl 0 rfl) ?_
    refine g10_tape C S tw_1062 dX10_here_12 ?_
    refine lv_aload_n C.1 C.2.1 dX10_here_15 rfl (lv_at hl 0 rfl) ?_
    refine g10_at C S tw_1070 dX10_here_16 ?_
    obtain ⟨hi1, hf⟩ := ck_o hf
    refine a_iald C S ar_42 hi1 dX10_here_19 ?_
    refine lv_goto C.1 C.2.1 (tgt := 24) dX10_here_20 (by decide) ?_
    cases hf
    exact hend _ _ _ _ S dX10_here_24
  · replace hf := if_f hf h2
    refine r_iconst C dX10_here_23 ?_
    cases hf
    exact hend _ _ _ _ S dX10_here_24
set_option maxRecDepth 100000 in
set_option maxHeartbeats 4000000 in
theorem ct_X10_isSmall (l : Launch) (G : Gd) (τ : Sg) {v0 : Int} {σ : Sg} {q : Int} (hf : f_X10_isSmall v0 σ = some q) : Ctr l yX10_isSmall cX10_isSmall 1 (some .boolean) (rmk 0 0) G false τ [.int (oI v0)] σ σ (some (.int (oI q))) := by
  unfold f_X10_isSmall at hf
  refine CtrZ.of (own := RX10) (plainFor_of_name (by decide)) (Nat.le_of_ble_eq_true rfl) rfl (fun p e s m below meth c Q ls C hl S hend => ?_)
  have hl : lv_has ls 1 [(0, .int (oI v0))] := hl
  refine lv_iload_n C.1 C.2.1 dX10_isSmall_0 rfl (lv_at hl 0 rfl) ?_
  refine r_bipush C dX10_isSmall_1 (by decide) ?_
  refine r_icmp_lt C rfl (show w32 97 = 97 by decide) (tgt := 16) dX10_isSmall_3 (by decide) (fun h2 => ?_) (fun h2 => ?_)
  · replace hf := if_t hf h2
    refine r_iconst C dX10_isSmall_16 ?_
    cases hf
    exact hend (Or.inl rfl) _ _ _ _ S dX10_isSmall_17
  · replace hf := if_f hf h2
    refine lv_iload_n C.1 C.2.1 dX10_isSmall_6 rfl (lv_at hl 0 rfl) ?_
    refine r_bipush C dX10_isSmall_7 (by decide) ?_
    refine r_icmp_gt C rfl (show w32 122 = 122 by decide) (tgt := 16) dX10_isSmall_9 (by decide) (fun h1 => ?_) (fun h1 => ?_)
    · replace hf := if_t hf h1
      refine r_iconst C dX10_isSmall_12 ?_
      refine lv_goto C.1 C.2.1 (tgt := 17) dX10_isSmall_13 (by decide) ?_
      cases hf
      exact hend (Or.inr rfl) _ _ _ _ S dX10_isSmall_17
    · replace hf := if_f hf h1
      refine r_iconst C dX10_isSmall_16 ?_
      cases hf
      exact hend (Or.inl rfl) _ _ _ _ S dX10_isSmall_17
set_option maxRecDepth 100000 in
set_option maxHeartbeats 4000000 in
theorem ct_X10_isDigit (l : Launch) (G : Gd) (τ : Sg) {v0 : Int} {σ : Sg} {q : Int} (hf : f_X10_isDigit v0 σ = some q) : Ctr l yX10_isDigit cX10_isDigit 1 (some .boolean) (rmk 0 0) G false τ [.int (oI v0)] σ σ (some (.int (oI q))) := by
  unfold f_X10_isDigit at hf
  refine CtrZ.of (own := RX10) (plainFor_of_name (by decide)) (Nat.le_of_ble_eq_true rfl) rfl (fun p e s m below meth c Q ls C hl S hend => ?_)
  have hl : lv_has ls 1 [(0, .int (oI v0))] := hl
  refine lv_iload_n C.1 C.2.1 dX10_isDigit_0 rfl (lv_at hl 0 rfl) ?_
  refine r_bipush C dX10_isDigit_1 (by decide) ?_
  refine r_icmp_lt C rfl (show w32 48 = 48 by decide) (tgt := 16) dX10_isDigit_3 (by decide) (fun h2 => ?_) (fun h2 => ?_)
  · replace hf := if_t hf h2
    refine r_iconst C dX10_isDigit_16 ?_
    cases hf
    exact hend (Or.inl rfl) _ _ _ _ S dX10_isDigit_17
  · replace hf := if_f hf h2
    refine lv_iload_n C.1 C.2.1 dX10_isDigit_6 rfl (lv_at hl 0 rfl) ?_
    refine r_bipush C dX10_isDigit_7 (by decide) ?_
    refine r_icmp_gt C rfl (show w32 57 = 57 by decide) (tgt := 16) dX10_isDigit_9 (by decide) (fun h1 => ?_) (fun h1 => ?_)
    · replace hf := if_t hf h1
      refine r_iconst C dX10_isDigit_12 ?_
      refine lv_goto C.1 C.2.1 (tgt := 17) dX10_isDigit_13 (by decide) ?_
      cases hf
      exact hend (Or.inr rfl) _ _ _ _ S dX10_isDigit_17
    · replace hf := if_f hf h1
      refine r_iconst C dX10_isDigit_16 ?_
      cases hf
      exact hend (Or.inl rfl) _ _ _ _ S dX10_isDigit_17
set_option maxRecDepth 100000 in
set_option maxHeartbeats 4000000 in
theorem ct_X10_wrong (l : Launch) (G : Gd) (τ : Sg) {v1 : Int} {σ : Sg} {q : Sg} (hf : f_X10_wrong v1 σ = some q) : Ctr l yX10_wrong cX10_wrong 2 none (rmk 0 0) G false τ [.ref (G.1 41), .int (oI v1)] σ q none := by
  unfold f_X10_wrong at hf
  refine CtrV.of (own := RX10) (plainFor_of_name (by decide)) (Nat.le_of_ble_eq_true rfl) rfl (fun p e s m below meth c Q ls C hl S hend => ?_)
  have hl : lv_has ls 2 [(0, .ref (G.1 41)), (1, .int (oI v1))] := hl
  refine lv_aload_n C.1 C.2.1 dX10_wrong_0 rfl (lv_at hl 0 rfl) ?_
  refine g10_fault C S tw_1074 dX10_wrong_1 ?_
  refine r_if_eq C rfl (tgt := 8) dX10_wrong_4 (by decide) (fun h3 => ?_) (fun h3 => ?_)
  · replace hf := if_t hf h3
    refine lv_aload_n C.1 C.2.1 dX10_wrong_8 rfl (lv_at hl 0 rfl) ?_
    refine lv_iload_n C.1 C.2.1 dX10_wrong_9 rfl (lv_at hl 1 rfl) ?_
    refine p10_fault C S tw_1074 dX10_wrong_10 (fun H locs S => ?_)
    obtain ⟨σ1, S, hf⟩ := wr_s S hf
    refine lv_aload_n C.1 C.2.1 dX10_wrong_13 rfl (lv_at hl 0 rfl) ?_
    refine lv_aload_n C.1 C.2.1 dX10_wrong_14 rfl (lv_at hl 0 rfl) ?_
    refine g10_place C S tw_1071 dX10_wrong_15 ?_
    refine p10_faultPlace C S tw_1075 dX10_wrong_18 (fun H locs S => ?_)
    obtain ⟨σ2, S, hf⟩ := wr_s S hf
    cases hf
    exact hend _ _ _ _ S dX10_wrong_21
  · replace hf := if_f hf h3
    cases hf
    exact hend _ _ _ _ S dX10_wrong_7
set_option maxRecDepth 100000 in
set_option maxHeartbeats 4000000 in
theorem ct_X10_fault (l : Launch) (G : Gd) (τ : Sg) {v1 : Int} {σ : Sg} {q : Int × Sg} (hf : f_X10_fault v1 σ = some q) : Ctr l yX10_fault cX10_fault 2 (some .int) (rmk 0 0) G false τ [.ref (G.1 41), .int (oI v1)] σ q.2 (some (.int (oI q.1))) := by
  unfold f_X10_fault at hf
  refine CtrI.of (own := RX10) (plainFor_of_name (by decide)) (Nat.le_of_ble_eq_true rfl) rfl (fun p e s m below meth c Q ls C hl S hend => ?_)
  have hl : lv_has ls 2 [(0, .ref (G.1 41)), (1, .int (oI v1))] := hl
  refine lv_aload_n C.1 C.2.1 dX10_fault_0 rfl (lv_at hl 0 rfl) ?_
  refine r_iconst C dX10_fault_1 ?_
  refine p10_thrown C S tw_1061 dX10_fault_2 (fun H locs S => ?_)
  obtain ⟨σ1, S, hf⟩ := wr_s S hf
  refine lv_iload_n C.1 C.2.1 dX10_fault_5 rfl (lv_at hl 1 rfl) ?_
  refine r_if_ne C rfl (tgt := 16) dX10_fault_6 (by decide) (fun h3 => ?_) (fun h3 => ?_)
  · replace hf := if_t hf h3
    refine lv_aload_n C.1 C.2.1 dX10_fault_9 rfl (lv_at hl 0 rfl) ?_
    refine g10_lastFault C S tw_1076 dX10_fault_10 ?_
    refine lv_goto C.1 C.2.1 (tgt := 29) dX10_fault_13 (by decide) ?_
    cases hf
    exact hend _ _ _ _ S dX10_fault_29
  · replace hf := if_f hf h3
    refine lv_iload_n C.1 C.2.1 dX10_fault_16 rfl (lv_at hl 1 rfl) ?_
    refine r_iconst C dX10_fault_17 ?_
    refine r_icmp_ne C rfl (show w32 1 = 1 by decide) (tgt := 28) dX10_fault_18 (by decide) (fun h2 => ?_) (fun h2 => ?_)
    · replace hf := if_t hf h2
      refine lv_aload_n C.1 C.2.1 dX10_fault_21 rfl (lv_at hl 0 rfl) ?_
      refine g10_lastPlace C S tw_1077 dX10_fault_22 ?_
      refine lv_goto C.1 C.2.1 (tgt := 29) dX10_fault_25 (by decide) ?_
      cases hf
      exact hend _ _ _ _ S dX10_fault_29
    · replace hf := if_f hf h2
      refine r_iconst C dX10_fault_28 ?_
      cases hf
      exact hend _ _ _ _ S dX10_fault_29
set_option maxRecDepth 100000 in
set_option maxHeartbeats 4000000 in
theorem ct_X10_puts (l : Launch) (G : Gd) (τ : Sg) {v1 : Int} {v2 : Int} {v3 : Int} {v4 : Int} {v5 : Int} {σ : Sg} {q : Sg} (hf : f_X10_puts v1 v2 v3 v4 v5 σ = some q) : Ctr l yX10_puts cX10_puts 6 none (rmk 0 0) G false τ [.ref (G.1 41), .int (oI v1), .int (oI v2), .int (oI v3), .int (oI v4), .int (oI v5)] σ q none := by
  unfold f_X10_puts at hf
  refine CtrV.of (own := RX10) (plainFor_of_name (by decide)) (Nat.le_of_ble_eq_true rfl) rfl (fun p e s m below meth c Q ls C hl S hend => ?_)
  have hl : lv_has ls 6 [(0, .ref (G.1 41)), (1, .int (oI v1)), (2, .int (oI v2)), (3, .int (oI v3)), (4, .int (oI v4)), (5, .int (oI v5))] := hl
  refine lv_aload_n C.1 C.2.1 dX10_puts_0 rfl (lv_at hl 0 rfl) ?_
  refine g10_x C S tw_1078 dX10_puts_1 ?_
  refine lv_iload_n C.1 C.2.1 dX10_puts_4 rfl (lv_at hl 1 rfl) ?_
  refine lv_iload_n C.1 C.2.1 dX10_puts_5 rfl (lv_at hl 2 rfl) ?_
  obtain ⟨hi1, hf⟩ := ck_o hf
  refine a_iast C S ar_45 hi1 dX10_puts_6 (fun H locs S => ?_)
  obtain ⟨σ2, S, hf⟩ := wr_s S hf
  refine lv_aload_n C.1 C.2.1 dX10_puts_7 rfl (lv_at hl 0 rfl) ?_
  refine g10_y C S tw_1079 dX10_puts_8 ?_
  refine lv_iload_n C.1 C.2.1 dX10_puts_11 rfl (lv_at hl 1 rfl) ?_
  refine lv_iload_n C.1 C.2.1 dX10_puts_12 rfl (lv_at hl 3 rfl) ?_
  obtain ⟨hi3, hf⟩ := ck_o hf
  refine a_iast C S ar_46 hi3 dX10_puts_13 (fun H locs S => ?_)
  obtain ⟨σ4, S, hf⟩ := wr_s S hf
  refine lv_aload_n C.1 C.2.1 dX10_puts_14 rfl (lv_at hl 0 rfl) ?_
  refine g10_sum C S tw_1080 dX10_puts_15 ?_
  refine lv_iload_n C.1 C.2.1 dX10_puts_18 rfl (lv_at hl 1 rfl) ?_
  refine lv_iload C.1 C.2.1 dX10_puts_19 (lv_at hl 4 rfl) ?_
  obtain ⟨hi5, hf⟩ := ck_o hf
  refine a_iast C S ar_47 hi5 dX10_puts_21 (fun H locs S => ?_)
  obtain ⟨σ6, S, hf⟩ := wr_s S hf
  refine lv_aload_n C.1 C.2.1 dX10_puts_22 rfl (lv_at hl 0 rfl) ?_
  refine g10_peril C S tw_1081 dX10_puts_23 ?_
  refine lv_iload_n C.1 C.2.1 dX10_puts_26 rfl (lv_at hl 1 rfl) ?_
  refine lv_iload C.1 C.2.1 dX10_puts_27 (lv_at hl 5 rfl) ?_
  obtain ⟨hi7, hf⟩ := ck_o hf
  refine a_iast C S ar_48 hi7 dX10_puts_29 (fun H locs S => ?_)
  obtain ⟨σ8, S, hf⟩ := wr_s S hf
  cases hf
  exact hend _ _ _ _ S dX10_puts_30
set_option maxRecDepth 100000 in
set_option maxHeartbeats 4000000 in
theorem ct_X10_begins (l : Launch) (G : Gd) (τ : Sg) {v1 : Int} {v2 : Int} {v3 : Int} {v4 : Int} {σ : Sg} {q : Sg} (hf : f_X10_begins v1 v2 v3 v4 σ = some q) : Ctr l yX10_begins cX10_begins 5 none (rmk 0 0) G false τ [.ref (G.1 41), .int (oI v1), .int (oI v2), .int (oI v3), .int (oI v4)] σ q none := by
  unfold f_X10_begins at hf
  refine CtrV.of (own := RX10) (plainFor_of_name (by decide)) (Nat.le_of_ble_eq_true rfl) rfl (fun p e s m below meth c Q ls C hl S hend => ?_)
  have hl : lv_has ls 5 [(0, .ref (G.1 41)), (1, .int (oI v1)), (2, .int (oI v2)), (3, .int (oI v3)), (4, .int (oI v4))] := hl
  refine lv_aload_n C.1 C.2.1 dX10_begins_0 rfl (lv_at hl 0 rfl) ?_
  refine g10_perils C S tw_1083 dX10_begins_1 ?_
  refine lv_iload_n C.1 C.2.1 dX10_begins_4 rfl (lv_at hl 1 rfl) ?_
  refine lv_iload_n C.1 C.2.1 dX10_begins_5 rfl (lv_at hl 2 rfl) ?_
  obtain ⟨hi1, hf⟩ := ck_o hf
  refine a_iast C S ar_50 hi1 dX10_begins_6 (fun H locs S => ?_)
  obtain ⟨σ2, S, hf⟩ := wr_s S hf
  refine lv_aload_n C.1 C.2.1 dX10_begins_7 rfl (lv_at hl 0 rfl) ?_
  refine g10_radius C S tw_1084 dX10_begins_8 ?_
  refine lv_iload_n C.1 C.2.1 dX10_begins_11 rfl (lv_at hl 1 rfl) ?_
  refine lv_iload_n C.1 C.2.1 dX10_begins_12 rfl (lv_at hl 3 rfl) ?_
  obtain ⟨hi3, hf⟩ := ck_o hf
  refine a_iast C S ar_51 hi3 dX10_begins_13 (fun H locs S => ?_)
  obtain ⟨σ4, S, hf⟩ := wr_s S hf
  refine lv_aload_n C.1 C.2.1 dX10_begins_14 rfl (lv_at hl 0 rfl) ?_
  refine g10_limit C S tw_1085 dX10_begins_15 ?_
  refine lv_iload_n C.1 C.2.1 dX10_begins_18 rfl (lv_at hl 1 rfl) ?_
  refine lv_iload C.1 C.2.1 dX10_begins_19 (lv_at hl 4 rfl) ?_
  obtain ⟨hi5, hf⟩ := ck_o hf
  refine a_iast C S ar_52 hi5 dX10_begins_21 (fun H locs S => ?_)
  obtain ⟨σ6, S, hf⟩ := wr_s S hf
  refine lv_aload_n C.1 C.2.1 dX10_begins_22 rfl (lv_at hl 0 rfl) ?_
  refine g10_alarm C S tw_1086 dX10_begins_23 ?_
  refine lv_iload_n C.1 C.2.1 dX10_begins_26 rfl (lv_at hl 1 rfl) ?_
  refine r_bipush C dX10_begins_27 (by decide) ?_
  obtain ⟨hi7, hf⟩ := ck_o hf
  refine a_iast C S ar_53 hi7 dX10_begins_29 (fun H locs S => ?_)
  obtain ⟨σ8, S, hf⟩ := wr_s S hf
  refine lv_aload_n C.1 C.2.1 dX10_begins_30 rfl (lv_at hl 0 rfl) ?_
  refine g10_alarms C S tw_1087 dX10_begins_31 ?_
  refine lv_iload_n C.1 C.2.1 dX10_begins_34 rfl (lv_at hl 1 rfl) ?_
  refine r_iconst C dX10_begins_35 ?_
  obtain ⟨hi9, hf⟩ := ck_o hf
  refine a_iast C S ar_54 hi9 dX10_begins_36 (fun H locs S => ?_)
  obtain ⟨σ10, S, hf⟩ := wr_s S hf
  cases hf
  exact hend _ _ _ _ S dX10_begins_37
set_option maxRecDepth 100000 in
set_option maxHeartbeats 4000000 in
theorem ct_X10_has (l : Launch) (G : Gd) (τ : Sg) {v0 : Int} {v1 : Int} {σ : Sg} {q : Int} (hf : f_X10_has v0 v1 σ = some q) : Ctr l yX10_has cX10_has 2 (some .boolean) (rmk 0 0) G false τ [.int (oI v0), .int (oI v1)] σ σ (some (.int (oI q))) := by
  unfold f_X10_has at hf
  refine CtrZ.of (own := RX10) (plainFor_of_name (by decide)) (Nat.le_of_ble_eq_true rfl) rfl (fun p e s m below meth c Q ls C hl S hend => ?_)
  have hl : lv_has ls 2 [(0, .int (oI v0)), (1, .int (oI v1))] := hl
  refine lv_iload_n C.1 C.2.1 dX10_has_0 rfl (lv_at hl 0 rfl) ?_
  refine lv_iload_n C.1 C.2.1 dX10_has_1 rfl (lv_at hl 1 rfl) ?_
  refine r_ishr C (y1 := (u32 v1 % 32)) rfl dX10_has_2 ?_
  refine r_iconst C dX10_has_3 ?_
  refine r_iand C rfl (show u32 1 = 1 by decide) dX10_has_4 ?_
  refine r_iconst C dX10_has_5 ?_
  refine r_icmp_ne C rfl (show w32 1 = 1 by decide) (tgt := 13) dX10_has_6 (by decide) (fun h1 => ?_) (fun h1 => ?_)
  · replace hf := if_t hf h1
    refine r_iconst C dX10_has_9 ?_
    refine lv_goto C.1 C.2.1 (tgt := 14) dX10_has_10 (by decide) ?_
    cases hf
    exact hend (Or.inr rfl) _ _ _ _ S dX10_has_14
  · replace hf := if_f hf h1
    refine r_iconst C dX10_has_13 ?_
    cases hf
    exact hend (Or.inl rfl) _ _ _ _ S dX10_has_14
set_option maxRecDepth 100000 in
set_option maxHeartbeats 4000000 in
theorem b_X10_ofPerils_b38 (C : Cx p s m args c RX10 cX10_ofPerils 4) {q : Int} {k4 : Int → Int → Int → Option (Int)} (hend : EndR p l e (rmk 1 21) s m args below meth c Q G false τ cX10_ofPerils .ireturn [.int (oI q)] σ) (hk4 : ∀ {H : Heap} {locs : List Loc} {ls : Array Slot} (v1 : Int) (v2 : Int) (v3 : Int), St G false τ σ s H locs → lv_has ls 4 [(0, .ref (G.1 41)), (1, .int (oI v1)), (2, .int (oI v2)), (3, .int (oI v3))] → k4 v1 v2 v3 = some q → W p l e (rmk 1 21) s m args below meth c H locs 0 0 Q (F0 m 4 ls [])) {H : Heap} {locs : List Loc} {ls : Array Slot} (v1 : Int) (v2 : Int) (v3 : Int) (S : St G false τ σ s H locs) (hl : lv_has ls 4 [(0, .ref (G.1 41)), (1, .int (oI v1)), (2, .int (oI v2)), (3, .int (oI v3))]) (hf : f_X10_ofPerils_b38 σ k4 v1 v2 v3 = some q) : W p l e (rmk 1 21) s m args below meth c H locs 0 0 Q (F0 m 38 ls []) := by
  unfold f_X10_ofPerils_b38 at hf
  refine r_iinc C dX10_ofPerils_38 hl (k := 3) rfl (by decide) (lv' := [(3, .int (oI (v3 + 1))), (0, .ref (G.1 41)), (1, .int (oI v1)), (2, .int (oI v2))]) rfl (fun ls hl => ?_)
  refine lv_goto C.1 C.2.1 (tgt := 4) dX10_ofPerils_41 (by decide) ?_
  exact hk4 v1 v2 (v3 + 1) S (lv_sub hl [1, 2, 3, 0] rfl) hf
set_option maxRecDepth 100000 in
set_option maxHeartbeats 4000000 in
theorem b_X10_ofPerils_b4 (C : Cx p s m args c RX10 cX10_ofPerils 4) {q : Int} (hend : EndR p l e (rmk 1 21) s m args below meth c Q G false τ cX10_ofPerils .ireturn [.int (oI q)] σ) : ∀ (n : Nat) {H : Heap} {locs : List Loc} {ls : Array Slot} (v1 : Int) (v2 : Int) (v3 : Int) (S : St G false τ σ s H locs) (hl : lv_has ls 4 [(0, .ref (G.1 41)), (1, .int (oI v1)), (2, .int (oI v2)), (3, .int (oI v3))]) (hf : f_X10_ofPerils_b4 σ n v1 v2 v3 = some q), W p l e (rmk 1 21) s m args below meth c H locs 0 0 Q (F0 m 4 ls []) := by
  intro n
  induction n with
  | zero => intro H locs ls v1 v2 v3 S hl hf; cases hf
  | succ n ih =>
    intro H locs ls v1 v2 v3 S hl hf
    have hk4 := @ih
    rw [f_X10_ofPerils_b4] at hf
    refine lv_iload_n C.1 C.2.1 dX10_ofPerils_4 rfl (lv_at hl 3 rfl) ?_
    refine r_bipush C dX10_ofPerils_5 (by decide) ?_
    refine r_icmp_ge C rfl (show w32 24 = 24 by decide) (tgt := 44) dX10_ofPerils_7 (by decide) (fun h7 => ?_) (fun h7 => ?_)
    · replace hf := if_t hf h7
      refine lv_aload_n C.1 C.2.1 dX10_ofPerils_10 rfl (lv_at hl 0 rfl) ?_
      refine g10_isThere C S tw_1082 dX10_ofPerils_11 ?_
      refine lv_iload_n C.1 C.2.1 dX10_ofPerils_14 rfl (lv_at hl 3 rfl) ?_
      obtain ⟨hi1, hf⟩ := ck_o hf
      refine a_zald C S ar_49 hi1 dX10_ofPerils_15 ?_
      refine r_if_eq C rfl (tgt := 38) dX10_ofPerils_16 (by decide) (fun h6 => ?_) (fun h6 => ?_)
      · replace hf := if_t hf h6
        exact b_X10_ofPerils_b38 C hend hk4 v1 v2 v3 S (lv_sub hl [0, 1, 2, 3] rfl) hf
      · replace hf := if_f hf h6
        refine lv_iload_n C.1 C.2.1 dX10_ofPerils_19 rfl (lv_at hl 1 rfl) ?_
        refine lv_aload_n C.1 C.2.1 dX10_ofPerils_20 rfl (lv_at hl 0 rfl) ?_
        refine g10_peril C S tw_1081 dX10_ofPerils_21 ?_
        refine lv_iload_n C.1 C.2.1 dX10_ofPerils_24 rfl (lv_at hl 3 rfl) ?_
        obtain ⟨hi2, hf⟩ := ck_o hf
        refine a_iald C S ar_48 hi2 dX10_ofPerils_25 ?_
        obtain ⟨q3, hc4, hf⟩ := bd_o hf
        refine r_callSv C S (rest := []) (ct_X10_has l G τ hc4) mi_X10_has tw_1285 ms_X10_has ⟨rfl, rfl⟩ ⟨Nat.le_of_ble_eq_true rfl, Nat.le_of_ble_eq_true rfl⟩ ⟨Nat.zero_le _, Nat.zero_le _⟩ rfl hl.1 rfl (Nat.le_of_ble_eq_true rfl) dX10_ofPerils_26 (fun H locs S => ?_)
        refine r_if_eq C rfl (tgt := 38) dX10_ofPerils_29 (by decide) (fun h5 => ?_) (fun h5 => ?_)
        · replace hf := if_t hf h5
          exact b_X10_ofPerils_b38 C hend hk4 v1 v2 v3 S (lv_sub hl [0, 1, 2, 3] rfl) hf
        · replace hf := if_f hf h5
          refine lv_iload_n C.1 C.2.1 dX10_ofPerils_32 rfl (lv_at hl 2 rfl) ?_
          refine r_iconst C dX10_ofPerils_33 ?_
          refine lv_iload_n C.1 C.2.1 dX10_ofPerils_34 rfl (lv_at hl 3 rfl) ?_
          refine r_ishl C (y1 := (u32 v3 % 32)) rfl dX10_ofPerils_35 ?_
          refine r_ior C rfl rfl dX10_ofPerils_36 ?_
          refine lv_istore_n C.1 C.2.1 dX10_ofPerils_37 rfl hl (by decide) (lv' := [(2, .int (oI ((((u32 v2) ||| (u32 (1 * ((2 ^ (u32 v3 % 32) : Nat) : Int))) : Nat) : Int)))), (0, .ref (G.1 41)), (1, .int (oI v1)), (3, .int (oI v3))]) rfl (fun ls hl => ?_)
          exact b_X10_ofPerils_b38 C hend hk4 v1 ((((u32 v2) ||| (u32 (1 * ((2 ^ (u32 v3 % 32) : Nat) : Int))) : Nat) : Int)) v3 S (lv_sub hl [1, 2, 0, 3] rfl) hf
    · replace hf := if_f hf h7
      refine lv_iload_n C.1 C.2.1 dX10_ofPerils_44 rfl (lv_at hl 2 rfl) ?_
      cases hf
      exact hend _ _ _ _ S dX10_ofPerils_45
set_option maxRecDepth 100000 in
set_option maxHeartbeats 4000000 in
theorem ct_X10_ofPerils (l : Launch) (G : Gd) (τ : Sg) {v1 : Int} {σ : Sg} {q : Int} (hf : f_X10_ofPerils v1 σ = some q) : Ctr l yX10_ofPerils cX10_ofPerils 4 (some .int) (rmk 1 21) G false τ [.ref (G.1 41), .int (oI v1)] σ σ (some (.int (oI q))) := by
  unfold f_X10_ofPerils at hf
  refine CtrI.of (own := RX10) (plainFor_of_name (by decide)) (Nat.le_of_ble_eq_true rfl) rfl (fun p e s m below meth c Q ls C hl S hend => ?_)
  have hl : lv_has ls 4 [(0, .ref (G.1 41)), (1, .int (oI v1))] := hl
  refine r_iconst C dX10_ofPerils_0 ?_
  refine lv_istore_n C.1 C.2.1 dX10_ofPerils_1 rfl hl (by decide) (lv' := [(2, .int (oI 0)), (0, .ref (G.1 41)), (1, .int (oI v1))]) rfl (fun ls hl => ?_)
  refine r_iconst C dX10_ofPerils_2 ?_
  refine lv_istore_n C.1 C.2.1 dX10_ofPerils_3 rfl hl (by decide) (lv' := [(3, .int (oI 0)), (2, .int (oI 0)), (0, .ref (G.1 41)), (1, .int (oI v1))]) rfl (fun ls hl => ?_)
  exact b_X10_ofPerils_b4 C hend FUEL v1 0 0 S (lv_sub hl [2, 3, 1, 0] rfl) hf
set_option maxRecDepth 100000 in
set_option maxHeartbeats 4000000 in
theorem ct_X10_ofTreaty (l : Launch) (G : Gd) (τ : Sg) {v1 : Int} {σ : Sg} {q : Int} (hf : f_X10_ofTreaty v1 σ = some q) : Ctr l yX10_ofTreaty cX10_ofTreaty 2 (some .int) (rmk 2 44) G false τ [.ref (G.1 41), .int (oI v1)] σ σ (some (.int (oI q))) := by
  unfold f_X10_ofTreaty at hf
  refine CtrI.of (own := RX10) (plainFor_of_name (by decide)) (Nat.le_of_ble_eq_true rfl) rfl (fun p e s m below meth c Q ls C hl S hend => ?_)
  have hl : lv_has ls 2 [(0, .ref (G.1 41)), (1, .int (oI v1))] := hl
  refine lv_aload_n C.1 C.2.1 dX10_ofTreaty_0 rfl (lv_at hl 0 rfl) ?_
  refine lv_aload_n C.1 C.2.1 dX10_ofTreaty_1 rfl (lv_at hl 0 rfl) ?_
  refine g10_perils C S tw_1083 dX10_ofTreaty_2 ?_
  refine lv_iload_n C.1 C.2.1 dX10_ofTreaty_5 rfl (lv_at hl 1 rfl) ?_
  obtain ⟨hi1, hf⟩ := ck_o hf
  refine a_iald C S ar_50 hi1 dX10_ofTreaty_6 ?_
  obtain ⟨q2, hc3, hf⟩ := bd_o hf
  refine r_callVv C S (rest := []) (ct_X10_ofPerils l G τ hc3) mi_X10_ofPerils tw_1281 mv_X10_ofPerils (rvX10 S) ⟨rfl, rfl⟩ ⟨Nat.le_of_ble_eq_true rfl, Nat.le_of_ble_eq_true rfl⟩ ⟨Nat.zero_le _, Nat.zero_le _⟩ rfl hl.1 rfl (Nat.le_of_ble_eq_true rfl) dX10_ofTreaty_7 (fun H locs S => ?_)
  cases hf
  exact hend _ _ _ _ S dX10_ofTreaty_10
set_option maxRecDepth 100000 in
set_option maxHeartbeats 4000000 in
theorem ct_X10_distance (l : Launch) (G : Gd) (τ : Sg) {v1 : Int} {v2 : Int} {σ : Sg} {q : Int} (hf : f_X10_distance v1 v2 σ = some q) : Ctr l yX10_distance cX10_distance 3 (some .int) (rmk 0 0) G false τ [.ref (G.1 41), .int (oI v1), .int (oI v2)] σ σ (some (.int (oI q))) := by
  unfold f_X10_distance at hf
  refine CtrI.of (own := RX10) (plainFor_of_name (by decide)) (Nat.le_of_ble_eq_true rfl) rfl (fun p e s m below meth c Q ls C hl S hend => ?_)
  have hl : lv_has ls 3 [(0, .ref (G.1 41)), (1, .int (oI v1)), (2, .int (oI v2))] := hl
  refine lv_aload_n C.1 C.2.1 dX10_distance_0 rfl (lv_at hl 0 rfl) ?_
  refine g10_x C S tw_1078 dX10_distance_1 ?_
  refine lv_iload_n C.1 C.2.1 dX10_distance_4 rfl (lv_at hl 1 rfl) ?_
  obtain ⟨hi1, hf⟩ := ck_o hf
  refine a_iald C S ar_45 hi1 dX10_distance_5 ?_
  refine lv_aload_n C.1 C.2.1 dX10_distance_6 rfl (lv_at hl 0 rfl) ?_
  refine g10_x C S tw_1078 dX10_distance_7 ?_
  refine lv_iload_n C.1 C.2.1 dX10_distance_10 rfl (lv_at hl 2 rfl) ?_
  obtain ⟨hi2, hf⟩ := ck_o hf
  refine a_iald C S ar_45 hi2 dX10_distance_11 ?_
  refine r_isub C dX10_distance_12 ?_
  refine lv_aload_n C.1 C.2.1 dX10_distance_13 rfl (lv_at hl 0 rfl) ?_
  refine g10_x C S tw_1078 dX10_distance_14 ?_
  refine lv_iload_n C.1 C.2.1 dX10_distance_17 rfl (lv_at hl 1 rfl) ?_
  obtain ⟨hi3, hf⟩ := ck_o hf
  refine a_iald C S ar_45 hi3 dX10_distance_18 ?_
  refine lv_aload_n C.1 C.2.1 dX10_distance_19 rfl (lv_at hl 0 rfl) ?_
  refine g10_x C S tw_1078 dX10_distance_20 ?_
  refine lv_iload_n C.1 C.2.1 dX10_distance_23 rfl (lv_at hl 2 rfl) ?_
  obtain ⟨hi4, hf⟩ := ck_o hf
  refine a_iald C S ar_45 hi4 dX10_distance_24 ?_
  refine r_isub C dX10_distance_25 ?_
  refine r_imul C dX10_distance_26 ?_
  refine lv_aload_n C.1 C.2.1 dX10_distance_27 rfl (lv_at hl 0 rfl) ?_
  refine g10_y C S tw_1079 dX10_distance_28 ?_
  refine lv_iload_n C.1 C.2.1 dX10_distance_31 rfl (lv_at hl 1 rfl) ?_
  obtain ⟨hi5, hf⟩ := ck_o hf
  refine a_iald C S ar_46 hi5 dX10_distance_32 ?_
  refine lv_aload_n C.1 C.2.1 dX10_distance_33 rfl (lv_at hl 0 rfl) ?_
  refine g10_y C S tw_1079 dX10_distance_34 ?_
  refine lv_iload_n C.1 C.2.1 dX10_distance_37 rfl (lv_at hl 2 rfl) ?_
  obtain ⟨hi6, hf⟩ := ck_o hf
  refine a_iald C S ar_46 hi6 dX10_distance_38 ?_
  refine r_isub C dX10_distance_39 ?_
  refine lv_aload_n C.1 C.2.1 dX10_distance_40 rfl (lv_at hl 0 rfl) ?_
  refine g10_y C S tw_1079 dX10_distance_41 ?_
  refine lv_iload_n C.1 C.2.1 dX10_distance_44 rfl (lv_at hl 1 rfl) ?_
  obtain ⟨hi7, hf⟩ := ck_o hf
  refine a_iald C S ar_46 hi7 dX10_distance_45 ?_
  refine lv_aload_n C.1 C.2.1 dX10_distance_46 rfl (lv_at hl 0 rfl) ?_
  refine g10_y C S tw_1079 dX10_distance_47 ?_
  refine lv_iload_n C.1 C.2.1 dX10_distance_50 rfl (lv_at hl 2 rfl) ?_
  obtain ⟨hi8, hf⟩ := ck_o hf
  refine a_iald C S ar_46 hi8 dX10_distance_51 ?_
  refine r_isub C dX10_distance_52 ?_
  refine r_imul C dX10_distance_53 ?_
  refine r_iadd C dX10_distance_54 ?_
  cases hf
  exact hend _ _ _ _ S dX10_distance_55
set_option maxRecDepth 100000 in
set_option maxHeartbeats 4000000 in
theorem b_X10_around_b68 (C : Cx p s m args c RX10 cX10_around 6) {q : Int × Sg} {k11 : Int → Int → Int → Int → Int → Sg → Option (Int × Sg)} (hend : EndR p l e (rmk 1 22) s m args below meth c Q G false τ cX10_around .ireturn [.int (oI q.1)] q.2) (hk11 : ∀ {H : Heap} {locs : List Loc} {ls : Array Slot} {σ : Sg} (v1 : Int) (v2 : Int) (v3 : Int) (v4 : Int) (v5 : Int), St G false τ σ s H locs → lv_has ls 6 [(0, .ref (G.1 41)), (1, .int (oI v1)), (2, .int (oI v2)), (3, .int (oI v3)), (4, .int (oI v4)), (5, .int (oI v5))] → k11 v1 v2 v3 v4 v5 σ = some q → W p l e (rmk 1 22) s m args below meth c H locs 0 0 Q (F0 m 11 ls [])) {H : Heap} {locs : List Loc} {ls : Array Slot} {σ : Sg} (v1 : Int) (v2 : Int) (v3 : Int) (v4 : Int) (v5 : Int) (S : St G false τ σ s H locs) (hl : lv_has ls 6 [(0, .ref (G.1 41)), (1, .int (oI v1)), (2, .int (oI v2)), (3, .int (oI v3)), (4, .int (oI v4)), (5, .int (oI v5))]) (hf : f_X10_around_b68 k11 v1 v2 v3 v4 v5 σ = some q) : W p l e (rmk 1 22) s m args below meth c H locs 0 0 Q (F0 m 68 ls []) := by
  unfold f_X10_around_b68 at hf
  refine r_iinc C dX10_around_68 hl (k := 5) rfl (by decide) (lv' := [(5, .int (oI (v5 + 1))), (0, .ref (G.1 41)), (1, .int (oI v1)), (2, .int (oI v2)), (3, .int (oI v3)), (4, .int (oI v4))]) rfl (fun ls hl => ?_)
  refine lv_goto C.1 C.2.1 (tgt := 11) dX10_around_71 (by decide) ?_
  exact hk11 v1 v2 v3 v4 (v5 + 1) S (lv_sub hl [1, 2, 3, 4, 5, 0] rfl) hf
set_option maxRecDepth 100000 in
set_option maxHeartbeats 4000000 in
theorem b_X10_around_b11 (C : Cx p s m args c RX10 cX10_around 6) {q : Int × Sg} (hend : EndR p l e (rmk 1 22) s m args below meth c Q G false τ cX10_around .ireturn [.int (oI q.1)] q.2) : ∀ (n : Nat) {H : Heap} {locs : List Loc} {ls : Array Slot} {σ : Sg} (v1 : Int) (v2 : Int) (v3 : Int) (v4 : Int) (v5 : Int) (S : St G false τ σ s H locs) (hl : lv_has ls 6 [(0, .ref (G.1 41)), (1, .int (oI v1)), (2, .int (oI v2)), (3, .int (oI v3)), (4, .int (oI v4)), (5, .int (oI v5))]) (hf : f_X10_around_b11 n v1 v2 v3 v4 v5 σ = some q), W p l e (rmk 1 22) s m args below meth c H locs 0 0 Q (F0 m 11 ls []) := by
  intro n
  induction n with
  | zero => intro H locs ls σ v1 v2 v3 v4 v5 S hl hf; cases hf
  | succ n ih =>
    intro H locs ls σ v1 v2 v3 v4 v5 S hl hf
    have hk11 := @ih
    rw [f_X10_around_b11] at hf
    refine lv_iload C.1 C.2.1 dX10_around_11 (lv_at hl 5 rfl) ?_
    refine r_bipush C dX10_around_13 (by decide) ?_
    refine r_icmp_gt C rfl (show w32 24 = 24 by decide) (tgt := 74) dX10_around_15 (by decide) (fun h10 => ?_) (fun h10 => ?_)
    · replace hf := if_t hf h10
      refine lv_iload_n C.1 C.2.1 dX10_around_18 rfl (lv_at hl 2 rfl) ?_
      refine lv_iload C.1 C.2.1 dX10_around_19 (lv_at hl 5 rfl) ?_
      obtain ⟨q2, hc3, hf⟩ := bd_o hf
      refine r_callSv C S (rest := []) (ct_X10_has l G τ hc3) mi_X10_has tw_1285 ms_X10_has ⟨rfl, rfl⟩ ⟨Nat.le_of_ble_eq_true rfl, Nat.le_of_ble_eq_true rfl⟩ ⟨Nat.zero_le _, Nat.zero_le _⟩ rfl hl.1 rfl (Nat.le_of_ble_eq_true rfl) dX10_around_21 (fun H locs S => ?_)
      refine r_if_eq C rfl (tgt := 68) dX10_around_24 (by decide) (fun h9 => ?_) (fun h9 => ?_)
      · replace hf := if_t hf h9
        exact b_X10_around_b68 C hend hk11 v1 v2 v3 v4 v5 S (lv_sub hl [0, 1, 2, 3, 4, 5] rfl) hf
      · replace hf := if_f hf h9
        refine lv_aload_n C.1 C.2.1 dX10_around_27 rfl (lv_at hl 0 rfl) ?_
        refine lv_iload_n C.1 C.2.1 dX10_around_28 rfl (lv_at hl 1 rfl) ?_
        refine lv_iload C.1 C.2.1 dX10_around_29 (lv_at hl 5 rfl) ?_
        obtain ⟨q4, hc5, hf⟩ := bd_o hf
        refine r_callVv C S (rest := []) (ct_X10_distance l G τ hc5) mi_X10_distance tw_1297 mv_X10_distance (rvX10 S) ⟨rfl, rfl⟩ ⟨Nat.le_of_ble_eq_true rfl, Nat.le_of_ble_eq_true rfl⟩ ⟨Nat.zero_le _, Nat.zero_le _⟩ rfl hl.1 rfl (Nat.le_of_ble_eq_true rfl) dX10_around_31 (fun H locs S => ?_)
        refine lv_iload_n C.1 C.2.1 dX10_around_34 rfl (lv_at hl 3 rfl) ?_
        refine lv_iload_n C.1 C.2.1 dX10_around_35 rfl (lv_at hl 3 rfl) ?_
        refine r_imul C dX10_around_36 ?_
        refine r_icmp_le C rfl rfl (tgt := 43) dX10_around_37 (by decide) (fun h8 => ?_) (fun h8 => ?_)
        · replace hf := if_t hf h8
          refine lv_iload C.1 C.2.1 dX10_around_43 (lv_at hl 4 rfl) ?_
          refine r_iconst C dX10_around_45 ?_
          refine lv_iload C.1 C.2.1 dX10_around_46 (lv_at hl 5 rfl) ?_
          refine r_ishl C (y1 := (u32 v5 % 32)) rfl dX10_around_48 ?_
          refine r_ior C rfl rfl dX10_around_49 ?_
          refine lv_istore C.1 C.2.1 dX10_around_50 hl (by decide) (lv' := [(4, .int (oI ((((u32 v4) ||| (u32 (1 * ((2 ^ (u32 v5 % 32) : Nat) : Int))) : Nat) : Int)))), (0, .ref (G.1 41)), (1, .int (oI v1)), (2, .int (oI v2)), (3, .int (oI v3)), (5, .int (oI v5))]) rfl (fun ls hl => ?_)
          refine lv_aload_n C.1 C.2.1 dX10_around_52 rfl (lv_at hl 1 rfl) ?_
          refine lv_dup C.1 C.2.1 dX10_around_53 rfl ?_
          refine g10_held C S tw_1096 dX10_around_54 ?_
          refine lv_aload_n C.1 C.2.1 dX10_around_57 rfl (lv_at hl 1 rfl) ?_
          refine g10_sum C S tw_1080 dX10_around_58 ?_
          refine lv_iload C.1 C.2.1 dX10_around_61 (lv_at hl 5 rfl) ?_
          obtain ⟨hi6, hf⟩ := ck_o hf
          refine a_iald C S ar_47 hi6 dX10_around_63 ?_
          refine r_iadd C dX10_around_64 ?_
          refine p10_held C S tw_1096 dX10_around_65 (fun H locs S => ?_)
          obtain ⟨σ7, S, hf⟩ := wr_s S hf
          exact b_X10_around_b68 C hend hk11 v1 v2 v3 ((((u32 v4) ||| (u32 (1 * ((2 ^ (u32 v5 % 32) : Nat) : Int))) : Nat) : Int)) v5 S (lv_sub hl [1, 2, 3, 4, 0, 5] rfl) hf
        · replace hf := if_f hf h8
          refine lv_goto C.1 C.2.1 (tgt := 68) dX10_around_40 (by decide) ?_
          exact b_X10_around_b68 C hend hk11 v1 v2 v3 v4 v5 S (lv_sub hl [0, 1, 2, 3, 4, 5] rfl) hf
    · replace hf := if_f hf h10
      refine lv_iload C.1 C.2.1 dX10_around_74 (lv_at hl 4 rfl) ?_
      cases hf
      exact hend _ _ _ _ S dX10_around_76
set_option maxRecDepth 100000 in
set_option maxHeartbeats 4000000 in
theorem ct_X10_around (l : Launch) (G : Gd) (τ : Sg) {v1 : Int} {v2 : Int} {v3 : Int} {σ : Sg} {q : Int × Sg} (hf : f_X10_around v1 v2 v3 σ = some q) : Ctr l yX10_around cX10_around 6 (some .int) (rmk 1 22) G false τ [.ref (G.1 41), .int (oI v1), .int (oI v2), .int (oI v3)] σ q.2 (some (.int (oI q.1))) := by
  unfold f_X10_around at hf
  refine CtrI.of (own := RX10) (plainFor_of_name (by decide)) (Nat.le_of_ble_eq_true rfl) rfl (fun p e s m below meth c Q ls C hl S hend => ?_)
  have hl : lv_has ls 6 [(0, .ref (G.1 41)), (1, .int (oI v1)), (2, .int (oI v2)), (3, .int (oI v3))] := hl
  refine r_iconst C dX10_around_0 ?_
  refine lv_istore C.1 C.2.1 dX10_around_1 hl (by decide) (lv' := [(4, .int (oI 0)), (0, .ref (G.1 41)), (1, .int (oI v1)), (2, .int (oI v2)), (3, .int (oI v3))]) rfl (fun ls hl => ?_)
  refine lv_aload_n C.1 C.2.1 dX10_around_3 rfl (lv_at hl 1 rfl) ?_
  refine r_iconst C dX10_around_4 ?_
  refine p10_held C S tw_1096 dX10_around_5 (fun H locs S => ?_)
  obtain ⟨σ1, S, hf⟩ := wr_s S hf
  refine r_iconst C dX10_around_8 ?_
  refine lv_istore C.1 C.2.1 dX10_around_9 hl (by decide) (lv' := [(5, .int (oI 0)), (4, .int (oI 0)), (0, .ref (G.1 41)), (1, .int (oI v1)), (2, .int (oI v2)), (3, .int (oI v3))]) rfl (fun ls hl => ?_)
  exact b_X10_around_b11 C hend FUEL v1 v2 v3 0 0 S (lv_sub hl [2, 3, 4, 5, 1, 0] rfl) hf
set_option maxRecDepth 100000 in
set_option maxHeartbeats 4000000 in
theorem b_X10_offers_b62 (C : Cx p s m args c RX10 cX10_offers 4) {q : Sg} (hend : EndR p l e (rmk 1 21) s m args below meth c Q G false τ cX10_offers .return_ [] q) {H : Heap} {locs : List Loc} {ls : Array Slot} {σ : Sg} (v3 : Int) (S : St G false τ σ s H locs) (hl : lv_has ls 4 [(0, .ref (G.1 41)), (3, .int (oI v3))]) (hf : f_X10_offers_b62 v3 σ = some q) : W p l e (rmk 1 21) s m args below meth c H locs 0 0 Q (F0 m 62 ls []) := by
  unfold f_X10_offers_b62 at hf
  refine lv_aload_n C.1 C.2.1 dX10_offers_62 rfl (lv_at hl 0 rfl) ?_
  refine lv_aload_n C.1 C.2.1 dX10_offers_63 rfl (lv_at hl 0 rfl) ?_
  refine g10_held C S tw_1096 dX10_offers_64 ?_
  refine p10_bestSum C S tw_1097 dX10_offers_67 (fun H locs S => ?_)
  obtain ⟨σ1, S, hf⟩ := wr_s S hf
  refine lv_aload_n C.1 C.2.1 dX10_offers_70 rfl (lv_at hl 0 rfl) ?_
  refine lv_iload_n C.1 C.2.1 dX10_offers_71 rfl (lv_at hl 1 rfl) ?_
  refine p10_bestSet C S tw_1098 dX10_offers_72 (fun H locs S => ?_)
  obtain ⟨σ2, S, hf⟩ := wr_s S hf
  cases hf
  exact hend _ _ _ _ S dX10_offers_75
set_option maxRecDepth 100000 in
set_option maxHeartbeats 4000000 in
theorem b_X10_offers_b30 (C : Cx p s m args c RX10 cX10_offers 4) {q : Sg} (hend : EndR p l e (rmk 1 21) s m args below meth c Q G false τ cX10_offers .return_ [] q) {H : Heap} {locs : List Loc} {ls : Array Slot} {σ : Sg} (w0 : Int) (S : St G false τ σ s H locs) (hl : lv_has ls 4 [(0, .ref (G.1 41))]) (hf : f_X10_offers_b30 w0 σ = some q) : W p l e (rmk 1 21) s m args below meth c H locs 0 0 Q (F0 m 30 ls [.int (oI w0)]) := by
  unfold f_X10_offers_b30 at hf
  refine lv_istore_n C.1 C.2.1 dX10_offers_30 rfl hl (by decide) (lv' := [(3, .int (oI w0)), (0, .ref (G.1 41))]) rfl (fun ls hl => ?_)
  refine lv_aload_n C.1 C.2.1 dX10_offers_31 rfl (lv_at hl 1 rfl) ?_
  refine g10_held C S tw_1096 dX10_offers_32 ?_
  refine lv_aload_n C.1 C.2.1 dX10_offers_35 rfl (lv_at hl 1 rfl) ?_
  refine g10_bestSum C S tw_1097 dX10_offers_36 ?_
  refine r_icmp_lt C rfl rfl (tgt := 61) dX10_offers_39 (by decide) (fun h5 => ?_) (fun h5 => ?_)
  · replace hf := if_t hf h5
    cases hf
    exact hend _ _ _ _ S dX10_offers_61
  · replace hf := if_f hf h5
    refine lv_aload_n C.1 C.2.1 dX10_offers_42 rfl (lv_at hl 1 rfl) ?_
    refine g10_held C S tw_1096 dX10_offers_43 ?_
    refine lv_aload_n C.1 C.2.1 dX10_offers_46 rfl (lv_at hl 1 rfl) ?_
    refine g10_bestSum C S tw_1097 dX10_offers_47 ?_
    refine r_icmp_ne C rfl rfl (tgt := 62) dX10_offers_50 (by decide) (fun h4 => ?_) (fun h4 => ?_)
    · replace hf := if_t hf h4
      refine lv_iload_n C.1 C.2.1 dX10_offers_53 rfl (lv_at hl 0 rfl) ?_
      refine lv_aload_n C.1 C.2.1 dX10_offers_54 rfl (lv_at hl 1 rfl) ?_
      refine g10_bestSet C S tw_1098 dX10_offers_55 ?_
      refine r_icmp_lt C rfl rfl (tgt := 62) dX10_offers_58 (by decide) (fun h3 => ?_) (fun h3 => ?_)
      · replace hf := if_t hf h3
        exact b_X10_offers_b62 C hend w0 S (lv_sub hl [1, 0] rfl) hf
      · replace hf := if_f hf h3
        cases hf
        exact hend _ _ _ _ S dX10_offers_61
    · replace hf := if_f hf h4
      exact b_X10_offers_b62 C hend w0 S (lv_sub hl [1, 0] rfl) hf
set_option maxRecDepth 100000 in
set_option maxHeartbeats 4000000 in
theorem b_X10_offers_b14 (C : Cx p s m args c RX10 cX10_offers 4) {q : Sg} (hend : EndR p l e (rmk 1 21) s m args below meth c Q G false τ cX10_offers .return_ [] q) {H : Heap} {locs : List Loc} {ls : Array Slot} {σ : Sg} (v1 : Int) (v2 : Int) (S : St G false τ σ s H locs) (hl : lv_has ls 4 [(0, .ref (G.1 41)), (1, .int (oI v1)), (2, .int (oI v2))]) (hf : f_X10_offers_b14 v1 v2 σ = some q) : W p l e (rmk 1 21) s m args below meth c H locs 0 0 Q (F0 m 14 ls []) := by
  unfold f_X10_offers_b14 at hf
  refine lv_iload_n C.1 C.2.1 dX10_offers_14 rfl (lv_at hl 2 rfl) ?_
  refine r_iconst C dX10_offers_15 ?_
  refine r_icmp_ne C rfl (show w32 (-1) = (-1) by decide) (tgt := 23) dX10_offers_16 (by decide) (fun h6 => ?_) (fun h6 => ?_)
  · replace hf := if_t hf h6
    refine lv_iload_n C.1 C.2.1 dX10_offers_19 rfl (lv_at hl 1 rfl) ?_
    refine lv_goto C.1 C.2.1 (tgt := 30) dX10_offers_20 (by decide) ?_
    exact b_X10_offers_b30 C hend v1 S (lv_sub hl [0] rfl) hf
  · replace hf := if_f hf h6
    refine lv_iload_n C.1 C.2.1 dX10_offers_23 rfl (lv_at hl 1 rfl) ?_
    refine r_iconst C dX10_offers_24 ?_
    refine lv_iload_n C.1 C.2.1 dX10_offers_25 rfl (lv_at hl 2 rfl) ?_
    refine r_ishl C (y1 := (u32 v2 % 32)) rfl dX10_offers_26 ?_
    refine r_iconst C dX10_offers_27 ?_
    refine r_ixor C rfl (show u32 (-1) = 4294967295 by decide) dX10_offers_28 ?_
    refine r_iand C rfl (u32_nat (nb_xor (u32_lt _) (show 4294967295 < 4294967296 by decide))) dX10_offers_29 ?_
    exact b_X10_offers_b30 C hend ((((u32 v1) &&& ((u32 (1 * ((2 ^ (u32 v2 % 32) : Nat) : Int))) ^^^ 4294967295) : Nat) : Int)) S (lv_sub hl [0] rfl) hf
set_option maxRecDepth 100000 in
set_option maxHeartbeats 4000000 in
theorem ct_X10_offers (l : Launch) (G : Gd) (τ : Sg) {v1 : Int} {v2 : Int} {σ : Sg} {q : Sg} (hf : f_X10_offers v1 v2 σ = some q) : Ctr l yX10_offers cX10_offers 4 none (rmk 1 21) G false τ [.ref (G.1 41), .int (oI v1), .int (oI v2)] σ q none := by
  unfold f_X10_offers at hf
  refine CtrV.of (own := RX10) (plainFor_of_name (by decide)) (Nat.le_of_ble_eq_true rfl) rfl (fun p e s m below meth c Q ls C hl S hend => ?_)
  have hl : lv_has ls 4 [(0, .ref (G.1 41)), (1, .int (oI v1)), (2, .int (oI v2))] := hl
  refine lv_iload_n C.1 C.2.1 dX10_offers_0 rfl (lv_at hl 2 rfl) ?_
  refine r_iconst C dX10_offers_1 ?_
  refine r_icmp_eq C rfl (show w32 (-1) = (-1) by decide) (tgt := 14) dX10_offers_2 (by decide) (fun h10 => ?_) (fun h10 => ?_)
  · replace hf := if_t hf h10
    exact b_X10_offers_b14 C hend v1 v2 S (lv_sub hl [0, 1, 2] rfl) hf
  · replace hf := if_f hf h10
    refine lv_iload_n C.1 C.2.1 dX10_offers_5 rfl (lv_at hl 1 rfl) ?_
    refine lv_iload_n C.1 C.2.1 dX10_offers_6 rfl (lv_at hl 2 rfl) ?_
    obtain ⟨q7, hc8, hf⟩ := bd_o hf
    refine r_callSv C S (rest := []) (ct_X10_has l G τ hc8) mi_X10_has tw_1285 ms_X10_has ⟨rfl, rfl⟩ ⟨Nat.le_of_ble_eq_true rfl, Nat.le_of_ble_eq_true rfl⟩ ⟨Nat.zero_le _, Nat.zero_le _⟩ rfl hl.1 rfl (Nat.le_of_ble_eq_true rfl) dX10_offers_7 (fun H locs S => ?_)
    refine r_if_ne C rfl (tgt := 14) dX10_offers_10 (by decide) (fun h9 => ?_) (fun h9 => ?_)
    · replace hf := if_t hf h9
      cases hf
      exact hend _ _ _ _ S dX10_offers_13
    · replace hf := if_f hf h9
      exact b_X10_offers_b14 C hend v1 v2 S (lv_sub hl [0, 1, 2] rfl) hf
set_option maxRecDepth 100000 in
set_option maxHeartbeats 4000000 in
theorem ct_X10_canBeRim (l : Launch) (G : Gd) (τ : Sg) {v1 : Int} {v2 : Int} {v3 : Int} {σ : Sg} {q : Int} (hf : f_X10_canBeRim v1 v2 v3 σ = some q) : Ctr l yX10_canBeRim cX10_canBeRim 5 (some .boolean) (rmk 1 22) G false τ [.ref (G.1 41), .int (oI v1), .int (oI v2), .int (oI v3)] σ σ (some (.int (oI q))) := by
  unfold f_X10_canBeRim at hf
  refine CtrZ.of (own := RX10) (plainFor_of_name (by decide)) (Nat.le_of_ble_eq_true rfl) rfl (fun p e s m below meth c Q ls C hl S hend => ?_)
  have hl : lv_has ls 5 [(0, .ref (G.1 41)), (1, .int (oI v1)), (2, .int (oI v2)), (3, .int (oI v3))] := hl
  refine lv_aload_n C.1 C.2.1 dX10_canBeRim_0 rfl (lv_at hl 0 rfl) ?_
  refine lv_iload_n C.1 C.2.1 dX10_canBeRim_1 rfl (lv_at hl 1 rfl) ?_
  refine lv_iload_n C.1 C.2.1 dX10_canBeRim_2 rfl (lv_at hl 2 rfl) ?_
  obtain ⟨q1, hc2, hf⟩ := bd_o hf
  refine r_callVv C S (rest := []) (ct_X10_distance l G τ hc2) mi_X10_distance tw_1297 mv_X10_distance (rvX10 S) ⟨rfl, rfl⟩ ⟨Nat.le_of_ble_eq_true rfl, Nat.le_of_ble_eq_true rfl⟩ ⟨Nat.zero_le _, Nat.zero_le _⟩ rfl hl.1 rfl (Nat.le_of_ble_eq_true rfl) dX10_canBeRim_3 (fun H locs S => ?_)
  refine lv_istore C.1 C.2.1 dX10_canBeRim_6 hl (by decide) (lv' := [(4, .int (oI q1)), (0, .ref (G.1 41)), (1, .int (oI v1)), (2, .int (oI v2)), (3, .int (oI v3))]) rfl (fun ls hl => ?_)
  refine lv_iload C.1 C.2.1 dX10_canBeRim_8 (lv_at hl 0 rfl) ?_
  refine r_if_le C rfl (tgt := 27) dX10_canBeRim_10 (by decide) (fun h4 => ?_) (fun h4 => ?_)
  · replace hf := if_t hf h4
    refine r_iconst C dX10_canBeRim_27 ?_
    cases hf
    exact hend (Or.inl rfl) _ _ _ _ S dX10_canBeRim_28
  · replace hf := if_f hf h4
    refine lv_iload C.1 C.2.1 dX10_canBeRim_13 (lv_at hl 0 rfl) ?_
    refine r_iconst C dX10_canBeRim_15 ?_
    refine lv_iload_n C.1 C.2.1 dX10_canBeRim_16 rfl (lv_at hl 4 rfl) ?_
    refine r_imul C dX10_canBeRim_17 ?_
    refine lv_iload_n C.1 C.2.1 dX10_canBeRim_18 rfl (lv_at hl 4 rfl) ?_
    refine r_imul C dX10_canBeRim_19 ?_
    refine r_icmp_gt C rfl rfl (tgt := 27) dX10_canBeRim_20 (by decide) (fun h3 => ?_) (fun h3 => ?_)
    · replace hf := if_t hf h3
      refine r_iconst C dX10_canBeRim_23 ?_
      refine lv_goto C.1 C.2.1 (tgt := 28) dX10_canBeRim_24 (by decide) ?_
      cases hf
      exact hend (Or.inr rfl) _ _ _ _ S dX10_canBeRim_28
    · replace hf := if_f hf h3
      refine r_iconst C dX10_canBeRim_27 ?_
      cases hf
      exact hend (Or.inl rfl) _ _ _ _ S dX10_canBeRim_28
set_option maxRecDepth 100000 in
set_option maxHeartbeats 4000000 in
theorem b_X10_isIn_b228 (C : Cx p s m args c RX10 cX10_isIn 26) {q : Int} (hend : (q = 0 ∨ q = 1) → EndR p l e (rmk 0 0) s m args below meth c Q G false τ cX10_isIn .ireturn [.int (oI q)] σ) {H : Heap} {locs : List Loc} {ls : Array Slot} (w0 : Int) (w1 : Int) (S : St G false τ σ s H locs) (hl : lv_has ls 26 []) (hf : f_X10_isIn_b228 σ w0 w1 = some q) : W p l e (rmk 0 0) s m args below meth c H locs 0 0 Q (F0 m 228 ls [.long (oL w0), .long (oL w1)]) := by
  unfold f_X10_isIn_b228 at hf
  refine r_lcmp_gt C rfl rfl (tgt := 236) dX10_isIn_228 dX10_isIn_229 (by decide) (fun h11 => ?_) (fun h11 => ?_)
  · replace hf := if_t hf h11
    refine r_iconst C dX10_isIn_232 ?_
    refine lv_goto C.1 C.2.1 (tgt := 237) dX10_isIn_233 (by decide) ?_
    cases hf
    exact hend (Or.inr rfl) _ _ _ _ S dX10_isIn_237
  · replace hf := if_f hf h11
    refine r_iconst C dX10_isIn_236 ?_
    cases hf
    exact hend (Or.inl rfl) _ _ _ _ S dX10_isIn_237
set_option maxRecDepth 100000 in
set_option maxHeartbeats 4000000 in
theorem b_X10_isIn_b195 (C : Cx p s m args c RX10 cX10_isIn 26) {q : Int} (hend : (q = 0 ∨ q = 1) → EndR p l e (rmk 0 0) s m args below meth c Q G false τ cX10_isIn .ireturn [.int (oI q)] σ) {H : Heap} {locs : List Loc} {ls : Array Slot} (v18 : Int) (v20 : Int) (w0 : Int) (S : St G false τ σ s H locs) (hl : lv_has ls 26 [(18, .long (oL v18)), (20, .long (oL v20))]) (hf : f_X10_isIn_b195 σ v18 v20 w0 = some q) : W p l e (rmk 0 0) s m args below meth c H locs 0 0 Q (F0 m 195 ls [.long (oL w0)]) := by
  unfold f_X10_isIn_b195 at hf
  refine lv_lstore C.1 C.2.1 dX10_isIn_195 hl (by decide) (lv' := [(22, .long (oL w0)), (18, .long (oL v18)), (20, .long (oL v20))]) rfl (fun ls hl => ?_)
  refine r_ldc2 C tw_1318 dX10_isIn_197 ?_
  refine lv_lload C.1 C.2.1 dX10_isIn_200 (lv_at hl 1 rfl) ?_
  refine r_lmul C dX10_isIn_202 ?_
  refine lv_lload C.1 C.2.1 dX10_isIn_203 (lv_at hl 1 rfl) ?_
  refine r_lmul C dX10_isIn_205 ?_
  refine lv_lload C.1 C.2.1 dX10_isIn_206 (lv_at hl 2 rfl) ?_
  refine r_lmul C dX10_isIn_208 ?_
  refine lv_lstore C.1 C.2.1 dX10_isIn_209 hl (by decide) (lv' := [(24, .long (oL (((4 * v18) * v18) * v20))), (22, .long (oL w0)), (18, .long (oL v18)), (20, .long (oL v20))]) rfl (fun ls hl => ?_)
  refine lv_lload C.1 C.2.1 dX10_isIn_211 (lv_at hl 1 rfl) ?_
  refine lv_lload C.1 C.2.1 dX10_isIn_213 (lv_at hl 2 rfl) ?_
  refine r_lconst C (z := 0) dX10_isIn_215 (by decide) ?_
  refine r_lcmp_ge C rfl (show w64 0 = 0 by decide) (tgt := 226) dX10_isIn_216 dX10_isIn_217 (by decide) (fun h12 => ?_) (fun h12 => ?_)
  · replace hf := if_t hf h12
    refine lv_lload C.1 C.2.1 dX10_isIn_220 (lv_at hl 0 rfl) ?_
    refine r_lneg C dX10_isIn_222 ?_
    refine lv_goto C.1 C.2.1 (tgt := 228) dX10_isIn_223 (by decide) ?_
    exact b_X10_isIn_b228 C hend (-(((4 * v18) * v18) * v20)) w0 S (lv_sub hl [] rfl) hf
  · replace hf := if_f hf h12
    refine lv_lload C.1 C.2.1 dX10_isIn_226 (lv_at hl 0 rfl) ?_
    exact b_X10_isIn_b228 C hend (((4 * v18) * v18) * v20) w0 S (lv_sub hl [] rfl) hf
set_option maxRecDepth 100000 in
set_option maxHeartbeats 4000000 in
theorem b_X10_isIn_b150 (C : Cx p s m args c RX10 cX10_isIn 26) {q : Int} (hend : (q = 0 ∨ q = 1) → EndR p l e (rmk 0 0) s m args below meth c Q G false τ cX10_isIn .ireturn [.int (oI q)] σ) {H : Heap} {locs : List Loc} {ls : Array Slot} (v4 : Int) (v10 : Int) (v16 : Int) (w0 : Int) (S : St G false τ σ s H locs) (hl : lv_has ls 26 [(4, .int (oI v4)), (10, .long (oL v10)), (16, .long (oL v16))]) (hf : f_X10_isIn_b150 σ v4 v10 v16 w0 = some q) : W p l e (rmk 0 0) s m args below meth c H locs 0 0 Q (F0 m 150 ls [.long (oL w0)]) := by
  unfold f_X10_isIn_b150 at hf
  refine lv_lstore C.1 C.2.1 dX10_isIn_150 hl (by decide) (lv' := [(18, .long (oL w0)), (4, .int (oI v4)), (10, .long (oL v10)), (16, .long (oL v16))]) rfl (fun ls hl => ?_)
  refine r_ldc2 C tw_1318 dX10_isIn_152 ?_
  refine lv_iload C.1 C.2.1 dX10_isIn_155 (lv_at hl 1 rfl) ?_
  refine r_i2l C dX10_isIn_157 ?_
  refine r_lmul C dX10_isIn_158 ?_
  refine lv_iload C.1 C.2.1 dX10_isIn_159 (lv_at hl 1 rfl) ?_
  refine r_i2l C dX10_isIn_161 ?_
  refine r_lmul C dX10_isIn_162 ?_
  refine lv_lload C.1 C.2.1 dX10_isIn_163 (lv_at hl 2 rfl) ?_
  refine r_lsub C dX10_isIn_165 ?_
  refine lv_lstore C.1 C.2.1 dX10_isIn_166 hl (by decide) (lv' := [(20, .long (oL (((4 * (w32 v4)) * (w32 v4)) - v10))), (18, .long (oL w0)), (4, .int (oI v4)), (10, .long (oL v10)), (16, .long (oL v16))]) rfl (fun ls hl => ?_)
  refine lv_lload C.1 C.2.1 dX10_isIn_168 (lv_at hl 4 rfl) ?_
  refine r_lconst C (z := 0) dX10_isIn_170 (by decide) ?_
  refine r_lcmp_ge C rfl (show w64 0 = 0 by decide) (tgt := 187) dX10_isIn_171 dX10_isIn_172 (by decide) (fun h13 => ?_) (fun h13 => ?_)
  · replace hf := if_t hf h13
    refine lv_lload C.1 C.2.1 dX10_isIn_175 (lv_at hl 4 rfl) ?_
    refine r_lneg C dX10_isIn_177 ?_
    refine lv_lload C.1 C.2.1 dX10_isIn_178 (lv_at hl 4 rfl) ?_
    refine r_lmul C dX10_isIn_180 ?_
    refine lv_lload C.1 C.2.1 dX10_isIn_181 (lv_at hl 3 rfl) ?_
    refine r_lmul C dX10_isIn_183 ?_
    refine lv_goto C.1 C.2.1 (tgt := 195) dX10_isIn_184 (by decide) ?_
    exact b_X10_isIn_b195 C hend w0 (((4 * (w32 v4)) * (w32 v4)) - v10) (((-v16) * v16) * v10) S (lv_sub hl [1, 0] rfl) hf
  · replace hf := if_f hf h13
    refine lv_lload C.1 C.2.1 dX10_isIn_187 (lv_at hl 4 rfl) ?_
    refine lv_lload C.1 C.2.1 dX10_isIn_189 (lv_at hl 4 rfl) ?_
    refine r_lmul C dX10_isIn_191 ?_
    refine lv_lload C.1 C.2.1 dX10_isIn_192 (lv_at hl 3 rfl) ?_
    refine r_lmul C dX10_isIn_194 ?_
    exact b_X10_isIn_b195 C hend w0 (((4 * (w32 v4)) * (w32 v4)) - v10) ((v16 * v16) * v10) S (lv_sub hl [1, 0] rfl) hf
set_option maxRecDepth 100000 in
set_option maxHeartbeats 4000000 in
theorem ct_X10_isIn (l : Launch) (G : Gd) (τ : Sg) {v1 : Int} {v2 : Int} {v3 : Int} {v4 : Int} {v5 : Int} {σ : Sg} {q : Int} (hf : f_X10_isIn v1 v2 v3 v4 v5 σ = some q) : Ctr l yX10_isIn cX10_isIn 26 (some .boolean) (rmk 0 0) G false τ [.ref (G.1 41), .int (oI v1), .int (oI v2), .int (oI v3), .int (oI v4), .int (oI v5)] σ σ (some (.int (oI q))) := by
  unfold f_X10_isIn at hf
  refine CtrZ.of (own := RX10) (plainFor_of_name (by decide)) (Nat.le_of_ble_eq_true rfl) rfl (fun p e s m below meth c Q ls C hl S hend => ?_)
  have hl : lv_has ls 26 [(0, .ref (G.1 41)), (1, .int (oI v1)), (2, .int (oI v2)), (3, .int (oI v3)), (4, .int (oI v4)), (5, .int (oI v5))] := hl
  refine lv_aload_n C.1 C.2.1 dX10_isIn_0 rfl (lv_at hl 0 rfl) ?_
  refine g10_x C S tw_1078 dX10_isIn_1 ?_
  refine lv_iload_n C.1 C.2.1 dX10_isIn_4 rfl (lv_at hl 2 rfl) ?_
  obtain ⟨hi1, hf⟩ := ck_o hf
  refine a_iald C S ar_45 hi1 dX10_isIn_5 ?_
  refine lv_aload_n C.1 C.2.1 dX10_isIn_6 rfl (lv_at hl 0 rfl) ?_
  refine g10_x C S tw_1078 dX10_isIn_7 ?_
  refine lv_iload_n C.1 C.2.1 dX10_isIn_10 rfl (lv_at hl 1 rfl) ?_
  obtain ⟨hi2, hf⟩ := ck_o hf
  refine a_iald C S ar_45 hi2 dX10_isIn_11 ?_
  refine r_isub C dX10_isIn_12 ?_
  refine r_i2l C dX10_isIn_13 ?_
  refine lv_lstore C.1 C.2.1 dX10_isIn_14 hl (by decide) (lv' := [(6, .long (oL (w32 ((σ 45 (v2).toNat) - (σ 45 (v1).toNat))))), (0, .ref (G.1 41)), (1, .int (oI v1)), (2, .int (oI v2)), (3, .int (oI v3)), (4, .int (oI v4)), (5, .int (oI v5))]) rfl (fun ls hl => ?_)
  refine lv_aload_n C.1 C.2.1 dX10_isIn_16 rfl (lv_at hl 1 rfl) ?_
  refine g10_y C S tw_1079 dX10_isIn_17 ?_
  refine lv_iload_n C.1 C.2.1 dX10_isIn_20 rfl (lv_at hl 3 rfl) ?_
  obtain ⟨hi3, hf⟩ := ck_o hf
  refine a_iald C S ar_46 hi3 dX10_isIn_21 ?_
  refine lv_aload_n C.1 C.2.1 dX10_isIn_22 rfl (lv_at hl 1 rfl) ?_
  refine g10_y C S tw_1079 dX10_isIn_23 ?_
  refine lv_iload_n C.1 C.2.1 dX10_isIn_26 rfl (lv_at hl 2 rfl) ?_
  obtain ⟨hi4, hf⟩ := ck_o hf
  refine a_iald C S ar_46 hi4 dX10_isIn_27 ?_
  refine r_isub C dX10_isIn_28 ?_
  refine r_i2l C dX10_isIn_29 ?_
  refine lv_lstore C.1 C.2.1 dX10_isIn_30 hl (by decide) (lv' := [(8, .long (oL (w32 ((σ 46 (v2).toNat) - (σ 46 (v1).toNat))))), (6, .long (oL (w32 ((σ 45 (v2).toNat) - (σ 45 (v1).toNat))))), (0, .ref (G.1 41)), (1, .int (oI v1)), (2, .int (oI v2)), (3, .int (oI v3)), (4, .int (oI v4)), (5, .int (oI v5))]) rfl (fun ls hl => ?_)
  refine lv_lload C.1 C.2.1 dX10_isIn_32 (lv_at hl 1 rfl) ?_
  refine lv_lload C.1 C.2.1 dX10_isIn_34 (lv_at hl 1 rfl) ?_
  refine r_lmul C dX10_isIn_36 ?_
  refine lv_lload C.1 C.2.1 dX10_isIn_37 (lv_at hl 0 rfl) ?_
  refine lv_lload C.1 C.2.1 dX10_isIn_39 (lv_at hl 0 rfl) ?_
  refine r_lmul C dX10_isIn_41 ?_
  refine r_ladd C dX10_isIn_42 ?_
  refine lv_lstore C.1 C.2.1 dX10_isIn_43 hl (by decide) (lv' := [(10, .long (oL (((w32 ((σ 45 (v2).toNat) - (σ 45 (v1).toNat))) * (w32 ((σ 45 (v2).toNat) - (σ 45 (v1).toNat)))) + ((w32 ((σ 46 (v2).toNat) - (σ 46 (v1).toNat))) * (w32 ((σ 46 (v2).toNat) - (σ 46 (v1).toNat))))))), (8, .long (oL (w32 ((σ 46 (v2).toNat) - (σ 46 (v1).toNat))))), (6, .long (oL (w32 ((σ 45 (v2).toNat) - (σ 45 (v1).toNat))))), (0, .ref (G.1 41)), (1, .int (oI v1)), (2, .int (oI v2)), (3, .int (oI v3)), (4, .int (oI v4)), (5, .int (oI v5))]) rfl (fun ls hl => ?_)
  refine r_ldc2 C tw_1317 dX10_isIn_45 ?_
  refine lv_aload_n C.1 C.2.1 dX10_isIn_48 rfl (lv_at hl 3 rfl) ?_
  refine g10_x C S tw_1078 dX10_isIn_49 ?_
  refine lv_iload C.1 C.2.1 dX10_isIn_52 (lv_at hl 8 rfl) ?_
  obtain ⟨hi5, hf⟩ := ck_o hf
  refine a_iald C S ar_45 hi5 dX10_isIn_54 ?_
  refine r_i2l C dX10_isIn_55 ?_
  refine r_lmul C dX10_isIn_56 ?_
  refine lv_aload_n C.1 C.2.1 dX10_isIn_57 rfl (lv_at hl 3 rfl) ?_
  refine g10_x C S tw_1078 dX10_isIn_58 ?_
  refine lv_iload_n C.1 C.2.1 dX10_isIn_61 rfl (lv_at hl 4 rfl) ?_
  obtain ⟨hi6, hf⟩ := ck_o hf
  refine a_iald C S ar_45 hi6 dX10_isIn_62 ?_
  refine r_i2l C dX10_isIn_63 ?_
  refine r_lsub C dX10_isIn_64 ?_
  refine lv_aload_n C.1 C.2.1 dX10_isIn_65 rfl (lv_at hl 3 rfl) ?_
  refine g10_x C S tw_1078 dX10_isIn_66 ?_
  refine lv_iload_n C.1 C.2.1 dX10_isIn_69 rfl (lv_at hl 5 rfl) ?_
  obtain ⟨hi7, hf⟩ := ck_o hf
  refine a_iald C S ar_45 hi7 dX10_isIn_70 ?_
  refine r_i2l C dX10_isIn_71 ?_
  refine r_lsub C dX10_isIn_72 ?_
  refine lv_lstore C.1 C.2.1 dX10_isIn_73 hl (by decide) (lv' := [(12, .long (oL (((2 * (w32 (σ 45 (v5).toNat))) - (w32 (σ 45 (v1).toNat))) - (w32 (σ 45 (v2).toNat))))), (10, .long (oL (((w32 ((σ 45 (v2).toNat) - (σ 45 (v1).toNat))) * (w32 ((σ 45 (v2).toNat) - (σ 45 (v1).toNat)))) + ((w32 ((σ 46 (v2).toNat) - (σ 46 (v1).toNat))) * (w32 ((σ 46 (v2).toNat) - (σ 46 (v1).toNat))))))), (8, .long (oL (w32 ((σ 46 (v2).toNat) - (σ 46 (v1).toNat))))), (6, .long (oL (w32 ((σ 45 (v2).toNat) - (σ 45 (v1).toNat))))), (0, .ref (G.1 41)), (1, .int (oI v1)), (2, .int (oI v2)), (3, .int (oI v3)), (4, .int (oI v4)), (5, .int (oI v5))]) rfl (fun ls hl => ?_)
  refine r_ldc2 C tw_1317 dX10_isIn_75 ?_
  refine lv_aload_n C.1 C.2.1 dX10_isIn_78 rfl (lv_at hl 4 rfl) ?_
  refine g10_y C S tw_1079 dX10_isIn_79 ?_
  refine lv_iload C.1 C.2.1 dX10_isIn_82 (lv_at hl 9 rfl) ?_
  obtain ⟨hi8, hf⟩ := ck_o hf
  refine a_iald C S ar_46 hi8 dX10_isIn_84 ?_
  refine r_i2l C dX10_isIn_85 ?_
  refine r_lmul C dX10_isIn_86 ?_
  refine lv_aload_n C.1 C.2.1 dX10_isIn_87 rfl (lv_at hl 4 rfl) ?_
  refine g10_y C S tw_1079 dX10_isIn_88 ?_
  refine lv_iload_n C.1 C.2.1 dX10_isIn_91 rfl (lv_at hl 5 rfl) ?_
  obtain ⟨hi9, hf⟩ := ck_o hf
  refine a_iald C S ar_46 hi9 dX10_isIn_92 ?_
  refine r_i2l C dX10_isIn_93 ?_
  refine r_lsub C dX10_isIn_94 ?_
  refine lv_aload_n C.1 C.2.1 dX10_isIn_95 rfl (lv_at hl 4 rfl) ?_
  refine g10_y C S tw_1079 dX10_isIn_96 ?_
  refine lv_iload_n C.1 C.2.1 dX10_isIn_99 rfl (lv_at hl 6 rfl) ?_
  obtain ⟨hi10, hf⟩ := ck_o hf
  refine a_iald C S ar_46 hi10 dX10_isIn_100 ?_
  refine r_i2l C dX10_isIn_101 ?_
  refine r_lsub C dX10_isIn_102 ?_
  refine lv_lstore C.1 C.2.1 dX10_isIn_103 hl (by decide) (lv' := [(14, .long (oL (((2 * (w32 (σ 46 (v5).toNat))) - (w32 (σ 46 (v1).toNat))) - (w32 (σ 46 (v2).toNat))))), (12, .long (oL (((2 * (w32 (σ 45 (v5).toNat))) - (w32 (σ 45 (v1).toNat))) - (w32 (σ 45 (v2).toNat))))), (10, .long (oL (((w32 ((σ 45 (v2).toNat) - (σ 45 (v1).toNat))) * (w32 ((σ 45 (v2).toNat) - (σ 45 (v1).toNat)))) + ((w32 ((σ 46 (v2).toNat) - (σ 46 (v1).toNat))) * (w32 ((σ 46 (v2).toNat) - (σ 46 (v1).toNat))))))), (8, .long (oL (w32 ((σ 46 (v2).toNat) - (σ 46 (v1).toNat))))), (6, .long (oL (w32 ((σ 45 (v2).toNat) - (σ 45 (v1).toNat))))), (0, .ref (G.1 41)), (1, .int (oI v1)), (2, .int (oI v2)), (3, .int (oI v3)), (4, .int (oI v4)), (5, .int (oI v5))]) rfl (fun ls hl => ?_)
  refine lv_lload C.1 C.2.1 dX10_isIn_105 (lv_at hl 1 rfl) ?_
  refine lv_lload C.1 C.2.1 dX10_isIn_107 (lv_at hl 1 rfl) ?_
  refine r_lmul C dX10_isIn_109 ?_
  refine lv_lload C.1 C.2.1 dX10_isIn_110 (lv_at hl 0 rfl) ?_
  refine lv_lload C.1 C.2.1 dX10_isIn_112 (lv_at hl 0 rfl) ?_
  refine r_lmul C dX10_isIn_114 ?_
  refine r_ladd C dX10_isIn_115 ?_
  refine lv_lload C.1 C.2.1 dX10_isIn_116 (lv_at hl 2 rfl) ?_
  refine r_lsub C dX10_isIn_118 ?_
  refine lv_lstore C.1 C.2.1 dX10_isIn_119 hl (by decide) (lv' := [(16, .long (oL ((((((2 * (w32 (σ 45 (v5).toNat))) - (w32 (σ 45 (v1).toNat))) - (w32 (σ 45 (v2).toNat))) * (((2 * (w32 (σ 45 (v5).toNat))) - (w32 (σ 45 (v1).toNat))) - (w32 (σ 45 (v2).toNat)))) + ((((2 * (w32 (σ 46 (v5).toNat))) - (w32 (σ 46 (v1).toNat))) - (w32 (σ 46 (v2).toNat))) * (((2 * (w32 (σ 46 (v5).toNat))) - (w32 (σ 46 (v1).toNat))) - (w32 (σ 46 (v2).toNat))))) - (((w32 ((σ 45 (v2).toNat) - (σ 45 (v1).toNat))) * (w32 ((σ 45 (v2).toNat) - (σ 45 (v1).toNat)))) + ((w32 ((σ 46 (v2).toNat) - (σ 46 (v1).toNat))) * (w32 ((σ 46 (v2).toNat) - (σ 46 (v1).toNat)))))))), (14, .long (oL (((2 * (w32 (σ 46 (v5).toNat))) - (w32 (σ 46 (v1).toNat))) - (w32 (σ 46 (v2).toNat))))), (12, .long (oL (((2 * (w32 (σ 45 (v5).toNat))) - (w32 (σ 45 (v1).toNat))) - (w32 (σ 45 (v2).toNat))))), (10, .long (oL (((w32 ((σ 45 (v2).toNat) - (σ 45 (v1).toNat))) * (w32 ((σ 45 (v2).toNat) - (σ 45 (v1).toNat)))) + ((w32 ((σ 46 (v2).toNat) - (σ 46 (v1).toNat))) * (w32 ((σ 46 (v2).toNat) - (σ 46 (v1).toNat))))))), (8, .long (oL (w32 ((σ 46 (v2).toNat) - (σ 46 (v1).toNat))))), (6, .long (oL (w32 ((σ 45 (v2).toNat) - (σ 45 (v1).toNat))))), (0, .ref (G.1 41)), (1, .int (oI v1)), (2, .int (oI v2)), (3, .int (oI v3)), (4, .int (oI v4)), (5, .int (oI v5))]) rfl (fun ls hl => ?_)
  refine lv_iload_n C.1 C.2.1 dX10_isIn_121 rfl (lv_at hl 9 rfl) ?_
  refine r_if_ne C rfl (tgt := 139) dX10_isIn_122 (by decide) (fun h14 => ?_) (fun h14 => ?_)
  · replace hf := if_t hf h14
    refine lv_lload C.1 C.2.1 dX10_isIn_125 (lv_at hl 1 rfl) ?_
    refine lv_lload C.1 C.2.1 dX10_isIn_127 (lv_at hl 5 rfl) ?_
    refine r_lmul C dX10_isIn_129 ?_
    refine lv_lload C.1 C.2.1 dX10_isIn_130 (lv_at hl 2 rfl) ?_
    refine lv_lload C.1 C.2.1 dX10_isIn_132 (lv_at hl 4 rfl) ?_
    refine r_lmul C dX10_isIn_134 ?_
    refine r_lsub C dX10_isIn_135 ?_
    refine lv_goto C.1 C.2.1 (tgt := 150) dX10_isIn_136 (by decide) ?_
    exact b_X10_isIn_b150 C hend v4 (((w32 ((σ 45 (v2).toNat) - (σ 45 (v1).toNat))) * (w32 ((σ 45 (v2).toNat) - (σ 45 (v1).toNat)))) + ((w32 ((σ 46 (v2).toNat) - (σ 46 (v1).toNat))) * (w32 ((σ 46 (v2).toNat) - (σ 46 (v1).toNat))))) ((((((2 * (w32 (σ 45 (v5).toNat))) - (w32 (σ 45 (v1).toNat))) - (w32 (σ 45 (v2).toNat))) * (((2 * (w32 (σ 45 (v5).toNat))) - (w32 (σ 45 (v1).toNat))) - (w32 (σ 45 (v2).toNat)))) + ((((2 * (w32 (σ 46 (v5).toNat))) - (w32 (σ 46 (v1).toNat))) - (w32 (σ 46 (v2).toNat))) * (((2 * (w32 (σ 46 (v5).toNat))) - (w32 (σ 46 (v1).toNat))) - (w32 (σ 46 (v2).toNat))))) - (((w32 ((σ 45 (v2).toNat) - (σ 45 (v1).toNat))) * (w32 ((σ 45 (v2).toNat) - (σ 45 (v1).toNat)))) + ((w32 ((σ 46 (v2).toNat) - (σ 46 (v1).toNat))) * (w32 ((σ 46 (v2).toNat) - (σ 46 (v1).toNat)))))) (((((2 * (w32 (σ 46 (v5).toNat))) - (w32 (σ 46 (v1).toNat))) - (w32 (σ 46 (v2).toNat))) * (w32 ((σ 45 (v2).toNat) - (σ 45 (v1).toNat)))) - ((((2 * (w32 (σ 45 (v5).toNat))) - (w32 (σ 45 (v1).toNat))) - (w32 (σ 45 (v2).toNat))) * (w32 ((σ 46 (v2).toNat) - (σ 46 (v1).toNat))))) S (lv_sub hl [10, 3, 0] rfl) hf
  · replace hf := if_f hf h14
    refine lv_lload C.1 C.2.1 dX10_isIn_139 (lv_at hl 2 rfl) ?_
    refine lv_lload C.1 C.2.1 dX10_isIn_141 (lv_at hl 4 rfl) ?_
    refine r_lmul C dX10_isIn_143 ?_
    refine lv_lload C.1 C.2.1 dX10_isIn_144 (lv_at hl 1 rfl) ?_
    refine lv_lload C.1 C.2.1 dX10_isIn_146 (lv_at hl 5 rfl) ?_
    refine r_lmul C dX10_isIn_148 ?_
    refine r_lsub C dX10_isIn_149 ?_
    exact b_X10_isIn_b150 C hend v4 (((w32 ((σ 45 (v2).toNat) - (σ 45 (v1).toNat))) * (w32 ((σ 45 (v2).toNat) - (σ 45 (v1).toNat)))) + ((w32 ((σ 46 (v2).toNat) - (σ 46 (v1).toNat))) * (w32 ((σ 46 (v2).toNat) - (σ 46 (v1).toNat))))) ((((((2 * (w32 (σ 45 (v5).toNat))) - (w32 (σ 45 (v1).toNat))) - (w32 (σ 45 (v2).toNat))) * (((2 * (w32 (σ 45 (v5).toNat))) - (w32 (σ 45 (v1).toNat))) - (w32 (σ 45 (v2).toNat)))) + ((((2 * (w32 (σ 46 (v5).toNat))) - (w32 (σ 46 (v1).toNat))) - (w32 (σ 46 (v2).toNat))) * (((2 * (w32 (σ 46 (v5).toNat))) - (w32 (σ 46 (v1).toNat))) - (w32 (σ 46 (v2).toNat))))) - (((w32 ((σ 45 (v2).toNat) - (σ 45 (v1).toNat))) * (w32 ((σ 45 (v2).toNat) - (σ 45 (v1).toNat)))) + ((w32 ((σ 46 (v2).toNat) - (σ 46 (v1).toNat))) * (w32 ((σ 46 (v2).toNat) - (σ 46 (v1).toNat)))))) (((((2 * (w32 (σ 45 (v5).toNat))) - (w32 (σ 45 (v1).toNat))) - (w32 (σ 45 (v2).toNat))) * (w32 ((σ 46 (v2).toNat) - (σ 46 (v1).toNat)))) - ((((2 * (w32 (σ 46 (v5).toNat))) - (w32 (σ 46 (v1).toNat))) - (w32 (σ 46 (v2).toNat))) * (w32 ((σ 45 (v2).toNat) - (σ 45 (v1).toNat))))) S (lv_sub hl [10, 3, 0] rfl) hf
set_option maxRecDepth 100000 in
set_option maxHeartbeats 4000000 in
theorem b_X10_onRim_b82 (C : Cx p s m args c RX10 cX10_onRim 8) {q : Int × Sg} {k11 : Int → Int → Int → Int → Int → Int → Int → Sg → Option (Int × Sg)} (hend : EndR p l e (rmk 1 45) s m args below meth c Q G false τ cX10_onRim .ireturn [.int (oI q.1)] q.2) (hk11 : ∀ {H : Heap} {locs : List Loc} {ls : Array Slot} {σ : Sg} (v1 : Int) (v2 : Int) (v3 : Int) (v4 : Int) (v5 : Int) (v6 : Int) (v7 : Int), St G false τ σ s H locs → lv_has ls 8 [(0, .ref (G.1 41)), (1, .int (oI v1)), (2, .int (oI v2)), (3, .int (oI v3)), (4, .int (oI v4)), (5, .int (oI v5)), (6, .int (oI v6)), (7, .int (oI v7))] → k11 v1 v2 v3 v4 v5 v6 v7 σ = some q → W p l e (rmk 1 45) s m args below meth c H locs 0 0 Q (F0 m 11 ls [])) {H : Heap} {locs : List Loc} {ls : Array Slot} {σ : Sg} (v1 : Int) (v2 : Int) (v3 : Int) (v4 : Int) (v5 : Int) (v6 : Int) (v7 : Int) (S : St G false τ σ s H locs) (hl : lv_has ls 8 [(0, .ref (G.1 41)), (1, .int (oI v1)), (2, .int (oI v2)), (3, .int (oI v3)), (4, .int (oI v4)), (5, .int (oI v5)), (6, .int (oI v6)), (7, .int (oI v7))]) (hf : f_X10_onRim_b82 k11 v1 v2 v3 v4 v5 v6 v7 σ = some q) : W p l e (rmk 1 45) s m args below meth c H locs 0 0 Q (F0 m 82 ls []) := by
  unfold f_X10_onRim_b82 at hf
  refine r_iinc C dX10_onRim_82 hl (k := 7) rfl (by decide) (lv' := [(7, .int (oI (v7 + 1))), (0, .ref (G.1 41)), (1, .int (oI v1)), (2, .int (oI v2)), (3, .int (oI v3)), (4, .int (oI v4)), (5, .int (oI v5)), (6, .int (oI v6))]) rfl (fun ls hl => ?_)
  refine lv_goto C.1 C.2.1 (tgt := 11) dX10_onRim_85 (by decide) ?_
  exact hk11 v1 v2 v3 v4 v5 v6 (v7 + 1) S (lv_sub hl [1, 2, 3, 4, 5, 6, 7, 0] rfl) hf
set_option maxRecDepth 100000 in
set_option maxHeartbeats 4000000 in
theorem b_X10_onRim_b57 (C : Cx p s m args c RX10 cX10_onRim 8) {q : Int × Sg} {k11 : Int → Int → Int → Int → Int → Int → Int → Sg → Option (Int × Sg)} (hend : EndR p l e (rmk 1 45) s m args below meth c Q G false τ cX10_onRim .ireturn [.int (oI q.1)] q.2) (hk11 : ∀ {H : Heap} {locs : List Loc} {ls : Array Slot} {σ : Sg} (v1 : Int) (v2 : Int) (v3 : Int) (v4 : Int) (v5 : Int) (v6 : Int) (v7 : Int), St G false τ σ s H locs → lv_has ls 8 [(0, .ref (G.1 41)), (1, .int (oI v1)), (2, .int (oI v2)), (3, .int (oI v3)), (4, .int (oI v4)), (5, .int (oI v5)), (6, .int (oI v6)), (7, .int (oI v7))] → k11 v1 v2 v3 v4 v5 v6 v7 σ = some q → W p l e (rmk 1 45) s m args below meth c H locs 0 0 Q (F0 m 11 ls [])) {H : Heap} {locs : List Loc} {ls : Array Slot} {σ : Sg} (v1 : Int) (v2 : Int) (v3 : Int) (v4 : Int) (v5 : Int) (v6 : Int) (v7 : Int) (S : St G false τ σ s H locs) (hl : lv_has ls 8 [(0, .ref (G.1 41)), (1, .int (oI v1)), (2, .int (oI v2)), (3, .int (oI v3)), (4, .int (oI v4)), (5, .int (oI v5)), (6, .int (oI v6)), (7, .int (oI v7))]) (hf : f_X10_onRim_b57 k11 v1 v2 v3 v4 v5 v6 v7 σ = some q) : W p l e (rmk 1 45) s m args below meth c H locs 0 0 Q (F0 m 57 ls []) := by
  unfold f_X10_onRim_b57 at hf
  refine lv_iload C.1 C.2.1 dX10_onRim_57 (lv_at hl 6 rfl) ?_
  refine r_iconst C dX10_onRim_59 ?_
  refine lv_iload C.1 C.2.1 dX10_onRim_60 (lv_at hl 7 rfl) ?_
  refine r_ishl C (y1 := (u32 v7 % 32)) rfl dX10_onRim_62 ?_
  refine r_ior C rfl rfl dX10_onRim_63 ?_
  refine lv_istore C.1 C.2.1 dX10_onRim_64 hl (by decide) (lv' := [(6, .int (oI ((((u32 v6) ||| (u32 (1 * ((2 ^ (u32 v7 % 32) : Nat) : Int))) : Nat) : Int)))), (0, .ref (G.1 41)), (1, .int (oI v1)), (2, .int (oI v2)), (3, .int (oI v3)), (4, .int (oI v4)), (5, .int (oI v5)), (7, .int (oI v7))]) rfl (fun ls hl => ?_)
  refine lv_aload_n C.1 C.2.1 dX10_onRim_66 rfl (lv_at hl 1 rfl) ?_
  refine lv_dup C.1 C.2.1 dX10_onRim_67 rfl ?_
  refine g10_held C S tw_1096 dX10_onRim_68 ?_
  refine lv_aload_n C.1 C.2.1 dX10_onRim_71 rfl (lv_at hl 1 rfl) ?_
  refine g10_sum C S tw_1080 dX10_onRim_72 ?_
  refine lv_iload C.1 C.2.1 dX10_onRim_75 (lv_at hl 7 rfl) ?_
  obtain ⟨hi4, hf⟩ := ck_o hf
  refine a_iald C S ar_47 hi4 dX10_onRim_77 ?_
  refine r_iadd C dX10_onRim_78 ?_
  refine p10_held C S tw_1096 dX10_onRim_79 (fun H locs S => ?_)
  obtain ⟨σ5, S, hf⟩ := wr_s S hf
  exact b_X10_onRim_b82 C hend hk11 v1 v2 v3 v4 v5 ((((u32 v6) ||| (u32 (1 * ((2 ^ (u32 v7 % 32) : Nat) : Int))) : Nat) : Int)) v7 S (lv_sub hl [1, 2, 3, 4, 5, 6, 0, 7] rfl) hf
set_option maxRecDepth 100000 in
set_option maxHeartbeats 4000000 in
theorem b_X10_onRim_b11 (C : Cx p s m args c RX10 cX10_onRim 8) {q : Int × Sg} (hend : EndR p l e (rmk 1 45) s m args below meth c Q G false τ cX10_onRim .ireturn [.int (oI q.1)] q.2) : ∀ (n : Nat) {H : Heap} {locs : List Loc} {ls : Array Slot} {σ : Sg} (v1 : Int) (v2 : Int) (v3 : Int) (v4 : Int) (v5 : Int) (v6 : Int) (v7 : Int) (S : St G false τ σ s H locs) (hl : lv_has ls 8 [(0, .ref (G.1 41)), (1, .int (oI v1)), (2, .int (oI v2)), (3, .int (oI v3)), (4, .int (oI v4)), (5, .int (oI v5)), (6, .int (oI v6)), (7, .int (oI v7))]) (hf : f_X10_onRim_b11 n v1 v2 v3 v4 v5 v6 v7 σ = some q), W p l e (rmk 1 45) s m args below meth c H locs 0 0 Q (F0 m 11 ls []) := by
  intro n
  induction n with
  | zero => intro H locs ls σ v1 v2 v3 v4 v5 v6 v7 S hl hf; cases hf
  | succ n ih =>
    intro H locs ls σ v1 v2 v3 v4 v5 v6 v7 S hl hf
    have hk11 := @ih
    rw [f_X10_onRim_b11] at hf
    refine lv_iload C.1 C.2.1 dX10_onRim_11 (lv_at hl 7 rfl) ?_
    refine r_bipush C dX10_onRim_13 (by decide) ?_
    refine r_icmp_gt C rfl (show w32 24 = 24 by decide) (tgt := 88) dX10_onRim_15 (by decide) (fun h12 => ?_) (fun h12 => ?_)
    · replace hf := if_t hf h12
      refine lv_iload C.1 C.2.1 dX10_onRim_18 (lv_at hl 4 rfl) ?_
      refine lv_iload C.1 C.2.1 dX10_onRim_20 (lv_at hl 7 rfl) ?_
      obtain ⟨q2, hc3, hf⟩ := bd_o hf
      refine r_callSv C S (rest := []) (ct_X10_has l G τ hc3) mi_X10_has tw_1285 ms_X10_has ⟨rfl, rfl⟩ ⟨Nat.le_of_ble_eq_true rfl, Nat.le_of_ble_eq_true rfl⟩ ⟨Nat.zero_le _, Nat.zero_le _⟩ rfl hl.1 rfl (Nat.le_of_ble_eq_true rfl) dX10_onRim_22 (fun H locs S => ?_)
      refine r_if_eq C rfl (tgt := 82) dX10_onRim_25 (by decide) (fun h11 => ?_) (fun h11 => ?_)
      · replace hf := if_t hf h11
        exact b_X10_onRim_b82 C hend hk11 v1 v2 v3 v4 v5 v6 v7 S (lv_sub hl [0, 1, 2, 3, 4, 5, 6, 7] rfl) hf
      · replace hf := if_f hf h11
        refine lv_iload C.1 C.2.1 dX10_onRim_28 (lv_at hl 7 rfl) ?_
        refine lv_iload_n C.1 C.2.1 dX10_onRim_30 rfl (lv_at hl 1 rfl) ?_
        refine r_icmp_eq C rfl rfl (tgt := 57) dX10_onRim_31 (by decide) (fun h10 => ?_) (fun h10 => ?_)
        · replace hf := if_t hf h10
          exact b_X10_onRim_b57 C hend hk11 v1 v2 v3 v4 v5 v6 v7 S (lv_sub hl [0, 1, 2, 3, 4, 5, 6, 7] rfl) hf
        · replace hf := if_f hf h10
          refine lv_iload C.1 C.2.1 dX10_onRim_34 (lv_at hl 7 rfl) ?_
          refine lv_iload_n C.1 C.2.1 dX10_onRim_36 rfl (lv_at hl 2 rfl) ?_
          refine r_icmp_eq C rfl rfl (tgt := 57) dX10_onRim_37 (by decide) (fun h9 => ?_) (fun h9 => ?_)
          · replace hf := if_t hf h9
            exact b_X10_onRim_b57 C hend hk11 v1 v2 v3 v4 v5 v6 v7 S (lv_sub hl [0, 1, 2, 3, 4, 5, 6, 7] rfl) hf
          · replace hf := if_f hf h9
            refine lv_aload_n C.1 C.2.1 dX10_onRim_40 rfl (lv_at hl 0 rfl) ?_
            refine lv_iload_n C.1 C.2.1 dX10_onRim_41 rfl (lv_at hl 1 rfl) ?_
            refine lv_iload_n C.1 C.2.1 dX10_onRim_42 rfl (lv_at hl 2 rfl) ?_
            refine lv_iload_n C.1 C.2.1 dX10_onRim_43 rfl (lv_at hl 3 rfl) ?_
            refine lv_iload C.1 C.2.1 dX10_onRim_44 (lv_at hl 5 rfl) ?_
            refine lv_iload C.1 C.2.1 dX10_onRim_46 (lv_at hl 7 rfl) ?_
            obtain ⟨q6, hc7, hf⟩ := bd_o hf
            refine r_callVv C S (rest := []) (ct_X10_isIn l G τ hc7) mi_X10_isIn tw_1313 mv_X10_isIn (rvX10 S) ⟨rfl, rfl⟩ ⟨Nat.le_of_ble_eq_true rfl, Nat.le_of_ble_eq_true rfl⟩ ⟨Nat.zero_le _, Nat.zero_le _⟩ rfl hl.1 rfl (Nat.le_of_ble_eq_true rfl) dX10_onRim_48 (fun H locs S => ?_)
            refine r_if_ne C rfl (tgt := 57) dX10_onRim_51 (by decide) (fun h8 => ?_) (fun h8 => ?_)
            · replace hf := if_t hf h8
              refine lv_goto C.1 C.2.1 (tgt := 82) dX10_onRim_54 (by decide) ?_
              exact b_X10_onRim_b82 C hend hk11 v1 v2 v3 v4 v5 v6 v7 S (lv_sub hl [0, 1, 2, 3, 4, 5, 6, 7] rfl) hf
            · replace hf := if_f hf h8
              exact b_X10_onRim_b57 C hend hk11 v1 v2 v3 v4 v5 v6 v7 S (lv_sub hl [0, 1, 2, 3, 4, 5, 6, 7] rfl) hf
    · replace hf := if_f hf h12
      refine lv_iload C.1 C.2.1 dX10_onRim_88 (lv_at hl 6 rfl) ?_
      cases hf
      exact hend _ _ _ _ S dX10_onRim_90
set_option maxRecDepth 100000 in
set_option maxHeartbeats 4000000 in
theorem ct_X10_onRim (l : Launch) (G : Gd) (τ : Sg) {v1 : Int} {v2 : Int} {v3 : Int} {v4 : Int} {v5 : Int} {σ : Sg} {q : Int × Sg} (hf : f_X10_onRim v1 v2 v3 v4 v5 σ = some q) : Ctr l yX10_onRim cX10_onRim 8 (some .int) (rmk 1 45) G false τ [.ref (G.1 41), .int (oI v1), .int (oI v2), .int (oI v3), .int (oI v4), .int (oI v5)] σ q.2 (some (.int (oI q.1))) := by
  unfold f_X10_onRim at hf
  refine CtrI.of (own := RX10) (plainFor_of_name (by decide)) (Nat.le_of_ble_eq_true rfl) rfl (fun p e s m below meth c Q ls C hl S hend => ?_)
  have hl : lv_has ls 8 [(0, .ref (G.1 41)), (1, .int (oI v1)), (2, .int (oI v2)), (3, .int (oI v3)), (4, .int (oI v4)), (5, .int (oI v5))] := hl
  refine r_iconst C dX10_onRim_0 ?_
  refine lv_istore C.1 C.2.1 dX10_onRim_1 hl (by decide) (lv' := [(6, .int (oI 0)), (0, .ref (G.1 41)), (1, .int (oI v1)), (2, .int (oI v2)), (3, .int (oI v3)), (4, .int (oI v4)), (5, .int (oI v5))]) rfl (fun ls hl => ?_)
  refine lv_aload_n C.1 C.2.1 dX10_onRim_3 rfl (lv_at hl 1 rfl) ?_
  refine r_iconst C dX10_onRim_4 ?_
  refine p10_held C S tw_1096 dX10_onRim_5 (fun H locs S => ?_)
  obtain ⟨σ1, S, hf⟩ := wr_s S hf
  refine r_iconst C dX10_onRim_8 ?_
  refine lv_istore C.1 C.2.1 dX10_onRim_9 hl (by decide) (lv' := [(7, .int (oI 0)), (6, .int (oI 0)), (0, .ref (G.1 41)), (1, .int (oI v1)), (2, .int (oI v2)), (3, .int (oI v3)), (4, .int (oI v4)), (5, .int (oI v5))]) rfl (fun ls hl => ?_)
  exact b_X10_onRim_b11 C hend FUEL v1 v2 v3 v4 v5 0 0 S (lv_sub hl [2, 3, 4, 5, 6, 7, 1, 0] rfl) hf
end WK
