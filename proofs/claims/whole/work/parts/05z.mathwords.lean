theorem tb_o {w : Cond} (h : w ∈ tables_1) (hg : goodWord w = true) : w ∈ GW := List.mem_filter.mpr ⟨List.mem_append_right _ h, hg⟩
theorem tb_s1 (i : Nat) {w : Cond} (h : tables_1_1[i]? = some w) (hg : goodWord w = true) : w ∈ GW := tb_o (List.mem_append_left _ (List.mem_of_getElem? h)) hg
theorem tb_s2 (i : Nat) {w : Cond} (h : tables_1_2[i]? = some w) (hg : goodWord w = true) : w ∈ GW := tb_o (List.mem_append_right _ (List.mem_append_left _ (List.mem_of_getElem? h))) hg
theorem tb_s3 (i : Nat) {w : Cond} (h : tables_1_3[i]? = some w) (hg : goodWord w = true) : w ∈ GW := tb_o (List.mem_append_right _ (List.mem_append_right _ (List.mem_append_left _ (List.mem_of_getElem? h)))) hg
theorem tb_s4 (i : Nat) {w : Cond} (h : tables_1_4[i]? = some w) (hg : goodWord w = true) : w ∈ GW := tb_o (List.mem_append_right _ (List.mem_append_right _ (List.mem_append_right _ (List.mem_append_left _ (List.mem_of_getElem? h))))) hg
theorem tb_s5 (i : Nat) {w : Cond} (h : tables_1_5[i]? = some w) (hg : goodWord w = true) : w ∈ GW := tb_o (List.mem_append_right _ (List.mem_append_right _ (List.mem_append_right _ (List.mem_append_right _ (List.mem_append_left _ (List.mem_of_getElem? h)))))) hg
theorem tb_s6 (i : Nat) {w : Cond} (h : tables_1_6[i]? = some w) (hg : goodWord w = true) : w ∈ GW := tb_o (List.mem_append_right _ (List.mem_append_right _ (List.mem_append_right _ (List.mem_append_right _ (List.mem_append_right _ (List.mem_append_left _ (List.mem_of_getElem? h))))))) hg
theorem tb_s7 (i : Nat) {w : Cond} (h : tables_1_7[i]? = some w) (hg : goodWord w = true) : w ∈ GW := tb_o (List.mem_append_right _ (List.mem_append_right _ (List.mem_append_right _ (List.mem_append_right _ (List.mem_append_right _ (List.mem_append_right _ (List.mem_of_getElem? h))))))) hg
set_option maxRecDepth 100000 in
theorem w_mmax_s : Cond.static Lib.Math.max.name ∈ GW := tb_s3 192 rfl rfl
set_option maxRecDepth 100000 in
theorem w_mmax_c : Cond.code Lib.Math.max.name Lib.Math.max.code 2 (some .int) ∈ GW := tb_s3 193 rfl rfl
set_option maxRecDepth 100000 in
theorem w_mmin_s : Cond.static Lib.Math.min.name ∈ GW := tb_s2 180 rfl rfl
set_option maxRecDepth 100000 in
theorem w_mmin_c : Cond.code Lib.Math.min.name Lib.Math.min.code 2 (some .int) ∈ GW := tb_s2 181 rfl rfl
set_option maxRecDepth 100000 in
theorem w_math_i : Cond.initialized "java/lang/Math" ∈ GW := tb_s1 16 rfl rfl
