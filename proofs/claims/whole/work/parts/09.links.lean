/-! written by gen/all.py: what the pools link -/
set_option maxRecDepth 100000 in
theorem tt1_in {w : Cond} (i : Nat) (h : tables_1_1[i]? = some w) : w ∈ tables_1 := List.mem_append_left _ (List.mem_of_getElem? h)
set_option maxRecDepth 100000 in
theorem tb1_in {w : Cond} (i : Nat) (h : tables_1_1[i]? = some w) : w ∈ lw_tbl := List.mem_append_right _ (tt1_in i h)
set_option maxRecDepth 100000 in
theorem NB1_in {w : Cond} (i : Nat) (h : tables_1_1[i]? = some w) (hg : isNest w = true) : w ∈ NB := List.mem_filter.mpr ⟨tt1_in i h, hg⟩
set_option maxRecDepth 100000 in
theorem tt2_in {w : Cond} (i : Nat) (h : tables_1_2[i]? = some w) : w ∈ tables_1 := List.mem_append_right _ (List.mem_append_left _ (List.mem_of_getElem? h))
set_option maxRecDepth 100000 in
theorem tb2_in {w : Cond} (i : Nat) (h : tables_1_2[i]? = some w) : w ∈ lw_tbl := List.mem_append_right _ (tt2_in i h)
set_option maxRecDepth 100000 in
theorem NB2_in {w : Cond} (i : Nat) (h : tables_1_2[i]? = some w) (hg : isNest w = true) : w ∈ NB := List.mem_filter.mpr ⟨tt2_in i h, hg⟩
set_option maxRecDepth 100000 in
theorem tt3_in {w : Cond} (i : Nat) (h : tables_1_3[i]? = some w) : w ∈ tables_1 := List.mem_append_right _ (List.mem_append_right _ (List.mem_append_left _ (List.mem_of_getElem? h)))
set_option maxRecDepth 100000 in
theorem tb3_in {w : Cond} (i : Nat) (h : tables_1_3[i]? = some w) : w ∈ lw_tbl := List.mem_append_right _ (tt3_in i h)
set_option maxRecDepth 100000 in
theorem NB3_in {w : Cond} (i : Nat) (h : tables_1_3[i]? = some w) (hg : isNest w = true) : w ∈ NB := List.mem_filter.mpr ⟨tt3_in i h, hg⟩
set_option maxRecDepth 100000 in
theorem tt4_in {w : Cond} (i : Nat) (h : tables_1_4[i]? = some w) : w ∈ tables_1 := List.mem_append_right _ (List.mem_append_right _ (List.mem_append_right _ (List.mem_append_left _ (List.mem_of_getElem? h))))
set_option maxRecDepth 100000 in
theorem tb4_in {w : Cond} (i : Nat) (h : tables_1_4[i]? = some w) : w ∈ lw_tbl := List.mem_append_right _ (tt4_in i h)
set_option maxRecDepth 100000 in
theorem NB4_in {w : Cond} (i : Nat) (h : tables_1_4[i]? = some w) (hg : isNest w = true) : w ∈ NB := List.mem_filter.mpr ⟨tt4_in i h, hg⟩
set_option maxRecDepth 100000 in
theorem tt5_in {w : Cond} (i : Nat) (h : tables_1_5[i]? = some w) : w ∈ tables_1 := List.mem_append_right _ (List.mem_append_right _ (List.mem_append_right _ (List.mem_append_right _ (List.mem_append_left _ (List.mem_of_getElem? h)))))
set_option maxRecDepth 100000 in
theorem tb5_in {w : Cond} (i : Nat) (h : tables_1_5[i]? = some w) : w ∈ lw_tbl := List.mem_append_right _ (tt5_in i h)
set_option maxRecDepth 100000 in
theorem NB5_in {w : Cond} (i : Nat) (h : tables_1_5[i]? = some w) (hg : isNest w = true) : w ∈ NB := List.mem_filter.mpr ⟨tt5_in i h, hg⟩
set_option maxRecDepth 100000 in
theorem tt6_in {w : Cond} (i : Nat) (h : tables_1_6[i]? = some w) : w ∈ tables_1 := List.mem_append_right _ (List.mem_append_right _ (List.mem_append_right _ (List.mem_append_right _ (List.mem_append_right _ (List.mem_append_left _ (List.mem_of_getElem? h))))))
set_option maxRecDepth 100000 in
theorem tb6_in {w : Cond} (i : Nat) (h : tables_1_6[i]? = some w) : w ∈ lw_tbl := List.mem_append_right _ (tt6_in i h)
set_option maxRecDepth 100000 in
theorem NB6_in {w : Cond} (i : Nat) (h : tables_1_6[i]? = some w) (hg : isNest w = true) : w ∈ NB := List.mem_filter.mpr ⟨tt6_in i h, hg⟩
set_option maxRecDepth 100000 in
theorem tt7_in {w : Cond} (i : Nat) (h : tables_1_7[i]? = some w) : w ∈ tables_1 := List.mem_append_right _ (List.mem_append_right _ (List.mem_append_right _ (List.mem_append_right _ (List.mem_append_right _ (List.mem_append_right _ (List.mem_append_left _ (List.mem_of_getElem? h)))))))
set_option maxRecDepth 100000 in
theorem tb7_in {w : Cond} (i : Nat) (h : tables_1_7[i]? = some w) : w ∈ lw_tbl := List.mem_append_right _ (tt7_in i h)
set_option maxRecDepth 100000 in
theorem NB7_in {w : Cond} (i : Nat) (h : tables_1_7[i]? = some w) (hg : isNest w = true) : w ∈ NB := List.mem_filter.mpr ⟨tt7_in i h, hg⟩
set_option maxRecDepth 100000 in
theorem tt8_in {w : Cond} (i : Nat) (h : tables_1_8[i]? = some w) : w ∈ tables_1 := List.mem_append_right _ (List.mem_append_right _ (List.mem_append_right _ (List.mem_append_right _ (List.mem_append_right _ (List.mem_append_right _ (List.mem_append_right _ (List.mem_append_left _ (List.mem_of_getElem? h))))))))
set_option maxRecDepth 100000 in
theorem tb8_in {w : Cond} (i : Nat) (h : tables_1_8[i]? = some w) : w ∈ lw_tbl := List.mem_append_right _ (tt8_in i h)
set_option maxRecDepth 100000 in
theorem NB8_in {w : Cond} (i : Nat) (h : tables_1_8[i]? = some w) (hg : isNest w = true) : w ∈ NB := List.mem_filter.mpr ⟨tt8_in i h, hg⟩
set_option maxRecDepth 100000 in
theorem tt9_in {w : Cond} (i : Nat) (h : tables_1_9[i]? = some w) : w ∈ tables_1 := List.mem_append_right _ (List.mem_append_right _ (List.mem_append_right _ (List.mem_append_right _ (List.mem_append_right _ (List.mem_append_right _ (List.mem_append_right _ (List.mem_append_right _ (List.mem_append_left _ (List.mem_of_getElem? h)))))))))
set_option maxRecDepth 100000 in
theorem tb9_in {w : Cond} (i : Nat) (h : tables_1_9[i]? = some w) : w ∈ lw_tbl := List.mem_append_right _ (tt9_in i h)
set_option maxRecDepth 100000 in
theorem NB9_in {w : Cond} (i : Nat) (h : tables_1_9[i]? = some w) (hg : isNest w = true) : w ∈ NB := List.mem_filter.mpr ⟨tt9_in i h, hg⟩
set_option maxRecDepth 100000 in
theorem tt10_in {w : Cond} (i : Nat) (h : tables_1_10[i]? = some w) : w ∈ tables_1 := List.mem_append_right _ (List.mem_append_right _ (List.mem_append_right _ (List.mem_append_right _ (List.mem_append_right _ (List.mem_append_right _ (List.mem_append_right _ (List.mem_append_right _ (List.mem_append_right _ ((List.mem_of_getElem? h))))))))))
set_option maxRecDepth 100000 in
theorem tb10_in {w : Cond} (i : Nat) (h : tables_1_10[i]? = some w) : w ∈ lw_tbl := List.mem_append_right _ (tt10_in i h)
set_option maxRecDepth 100000 in
theorem NB10_in {w : Cond} (i : Nat) (h : tables_1_10[i]? = some w) (hg : isNest w = true) : w ∈ NB := List.mem_filter.mpr ⟨tt10_in i h, hg⟩
theorem pnRX0 : plainName RX0 = true := by decide +kernel
theorem pnRX1 : plainName RX1 = true := by decide +kernel
theorem pnRX2 : plainName RX2 = true := by decide +kernel
theorem pnRX3 : plainName RX3 = true := by decide +kernel
theorem pnRX4 : plainName RX4 = true := by decide +kernel
theorem pnRX5 : plainName RX5 = true := by decide +kernel
theorem pnRX6 : plainName RX6 = true := by decide +kernel
theorem pnRX7 : plainName RX7 = true := by decide +kernel
theorem pnRX8 : plainName RX8 = true := by decide +kernel
theorem pnRX9 : plainName RX9 = true := by decide +kernel
theorem pnRJ6 : plainName RJ6 = true := by decide +kernel
theorem pnRJ13 : plainName RJ13 = true := by decide +kernel
theorem pnRJ0 : plainName RJ0 = true := by decide +kernel
theorem pnRJ1 : plainName RJ1 = true := by decide +kernel
theorem pnRJ2 : plainName RJ2 = true := by decide +kernel
theorem pnRJ3 : plainName RJ3 = true := by decide +kernel
theorem pnRL : plainName RL = true := by decide +kernel
set_option maxRecDepth 100000 in
theorem inT0 : ∀ w ∈ u_ws RX0 TX0 2, w ∈ TB := fun w h => TB_in (inX0 w h) (List.all_eq_true.mp (show (u_ws RX0 TX0 2).all goodWord = true by decide +kernel) w h)
def df0 : Nat → Value := fun k => match k with
  | 0 => .null
  | 1 => .long 0
  | _ => .int 0
set_option maxRecDepth 100000 in
theorem inT1 : ∀ w ∈ u_ws RX1 TX1 10, w ∈ TB := fun w h => TB_in (inX1 w h) (List.all_eq_true.mp (show (u_ws RX1 TX1 10).all goodWord = true by decide +kernel) w h)
def df1 : Nat → Value := fun k => match k with
  | 0 => .null
  | 1 => .null
  | 2 => .null
  | 3 => .null
  | 4 => .int 0
  | 5 => .int 0
  | 6 => .int 0
  | 7 => .int 0
  | 8 => .int 0
  | _ => .int 0
set_option maxRecDepth 100000 in
theorem inT2 : ∀ w ∈ u_ws RX2 TX2 5, w ∈ TB := fun w h => TB_in (inX2 w h) (List.all_eq_true.mp (show (u_ws RX2 TX2 5).all goodWord = true by decide +kernel) w h)
def df2 : Nat → Value := fun k => match k with
  | 0 => .null
  | 1 => .null
  | 2 => .null
  | 3 => .int 0
  | _ => .int 0
set_option maxRecDepth 100000 in
theorem inT3 : ∀ w ∈ u_ws RX3 TX3 10, w ∈ TB := fun w h => TB_in (inX3 w h) (List.all_eq_true.mp (show (u_ws RX3 TX3 10).all goodWord = true by decide +kernel) w h)
def df3 : Nat → Value := fun k => match k with
  | 0 => .int 0
  | 1 => .int 0
  | 2 => .null
  | 3 => .int 0
  | 4 => .int 0
  | 5 => .int 0
  | 6 => .int 0
  | 7 => .int 0
  | 8 => .int 0
  | 9 => .null
  | _ => .int 0
set_option maxRecDepth 100000 in
theorem inT4 : ∀ w ∈ u_ws RX4 TX4 11, w ∈ TB := fun w h => TB_in (inX4 w h) (List.all_eq_true.mp (show (u_ws RX4 TX4 11).all goodWord = true by decide +kernel) w h)
def df4 : Nat → Value := fun k => match k with
  | 0 => .null
  | 1 => .null
  | 2 => .null
  | 3 => .null
  | 4 => .null
  | 5 => .null
  | 6 => .int 0
  | 7 => .int 0
  | 8 => .int 0
  | 9 => .int 0
  | _ => .int 0
set_option maxRecDepth 100000 in
theorem inT5 : ∀ w ∈ u_ws RX5 TX5 3, w ∈ TB := fun w h => TB_in (inX5 w h) (List.all_eq_true.mp (show (u_ws RX5 TX5 3).all goodWord = true by decide +kernel) w h)
def df5 : Nat → Value := fun k => match k with
  | 0 => .null
  | 1 => .int 0
  | _ => .int 0
set_option maxRecDepth 100000 in
theorem inT6 : ∀ w ∈ u_ws RX6 TX6 19, w ∈ TB := fun w h => TB_in (inX6 w h) (List.all_eq_true.mp (show (u_ws RX6 TX6 19).all goodWord = true by decide +kernel) w h)
def df6 : Nat → Value := fun k => match k with
  | 0 => .int 0
  | 1 => .int 0
  | 2 => .int 0
  | 3 => .int 0
  | 4 => .int 0
  | 5 => .int 0
  | 6 => .int 0
  | 7 => .int 0
  | 8 => .int 0
  | 9 => .int 0
  | 10 => .int 0
  | 11 => .int 0
  | 12 => .int 0
  | 13 => .int 0
  | 14 => .null
  | 15 => .null
  | 16 => .null
  | 17 => .null
  | 18 => .null
  | _ => .int 0
set_option maxRecDepth 100000 in
theorem inT7 : ∀ w ∈ u_ws RX7 TX7 9, w ∈ TB := fun w h => TB_in (inX7 w h) (List.all_eq_true.mp (show (u_ws RX7 TX7 9).all goodWord = true by decide +kernel) w h)
def df7 : Nat → Value := fun k => match k with
  | 0 => .null
  | 1 => .null
  | 2 => .null
  | 3 => .null
  | 4 => .null
  | 5 => .null
  | 6 => .null
  | 7 => .long 0
  | _ => .int 0
set_option maxRecDepth 100000 in
theorem inT8 : ∀ w ∈ u_ws RX8 TX8 13, w ∈ TB := fun w h => TB_in (inX8 w h) (List.all_eq_true.mp (show (u_ws RX8 TX8 13).all goodWord = true by decide +kernel) w h)
def df8 : Nat → Value := fun k => match k with
  | 0 => .null
  | 1 => .null
  | 2 => .null
  | 3 => .null
  | 4 => .null
  | 5 => .null
  | 6 => .null
  | 7 => .null
  | 8 => .null
  | 9 => .null
  | 10 => .int 0
  | 11 => .int 0
  | _ => .int 0
set_option maxRecDepth 100000 in
theorem inT9 : ∀ w ∈ u_ws RX9 TX9 52, w ∈ TB := fun w h => TB_in (inX9 w h) (List.all_eq_true.mp (show (u_ws RX9 TX9 52).all goodWord = true by decide +kernel) w h)
def df9 : Nat → Value := fun k => match k with
  | 0 => .int 0
  | 1 => .null
  | 2 => .null
  | 3 => .null
  | 4 => .null
  | 5 => .null
  | 6 => .int 0
  | 7 => .int 0
  | 8 => .int 0
  | 9 => .int 0
  | 10 => .int 0
  | 11 => .long 0
  | 12 => .int 0
  | 13 => .int 0
  | 14 => .int 0
  | 15 => .int 0
  | 16 => .null
  | 17 => .null
  | 18 => .null
  | 19 => .null
  | 20 => .int 0
  | 21 => .null
  | 22 => .null
  | 23 => .null
  | 24 => .null
  | 25 => .null
  | 26 => .int 0
  | 27 => .int 0
  | 28 => .null
  | 29 => .null
  | 30 => .null
  | 31 => .null
  | 32 => .null
  | 33 => .int 0
  | 34 => .int 0
  | 35 => .int 0
  | 36 => .int 0
  | 37 => .int 0
  | 38 => .int 0
  | 39 => .null
  | 40 => .null
  | 41 => .null
  | 42 => .int 0
  | 43 => .int 0
  | 44 => .int 0
  | 45 => .int 0
  | 46 => .int 0
  | 47 => .int 0
  | 48 => .int 0
  | 49 => .null
  | 50 => .null
  | 51 => .null
  | _ => .int 0
set_option maxRecDepth 100000 in
theorem aw20 : Cond.arrayClass (newarray.typeOf .int) ∈ TB := TB_in (tb1_in 101 rfl) rfl
set_option maxRecDepth 100000 in
theorem aw21 : Cond.arrayClass (newarray.typeOf .long) ∈ TB := TB_in (tb1_in 231 rfl) rfl
set_option maxRecDepth 100000 in
theorem aw22 : Cond.arrayClass (newarray.typeOf .byte) ∈ TB := TB_in (tb1_in 66 rfl) rfl
set_option maxRecDepth 100000 in
theorem aw23 : Cond.arrayClass (newarray.typeOf .boolean) ∈ TB := TB_in (tb1_in 102 rfl) rfl
set_option maxRecDepth 100000 in
theorem cl_RX4_29 : Cond.classLink RX4 29 RX2 ∈ TB := TB_in (tb4_in 88 rfl) rfl
set_option maxRecDepth 100000 in
theorem cl_RX8_30 : Cond.classLink RX8 30 RX6 ∈ TB := TB_in (tb1_in 103 rfl) rfl
set_option maxRecDepth 100000 in
theorem cl_RX8_40 : Cond.classLink RX8 40 RX5 ∈ TB := TB_in (tb1_in 105 rfl) rfl
set_option maxRecDepth 100000 in
theorem cw_RJ13_314 : Cond.constantLong RJ13 314 6148914691236517205 ∈ TB := TB_in (tb5_in 114 rfl) rfl
set_option maxRecDepth 100000 in
theorem cw_RJ13_316 : Cond.constantLong RJ13 316 3689348814741910323 ∈ TB := TB_in (tb5_in 115 rfl) rfl
set_option maxRecDepth 100000 in
theorem cw_RJ13_318 : Cond.constantLong RJ13 318 1085102592571150095 ∈ TB := TB_in (tb5_in 116 rfl) rfl
set_option maxRecDepth 100000 in
theorem cw_RJ6_265 : Cond.constant RJ6 265 1431655765 ∈ TB := TB_in (tb5_in 185 rfl) rfl
set_option maxRecDepth 100000 in
theorem cw_RJ6_266 : Cond.constant RJ6 266 858993459 ∈ TB := TB_in (tb5_in 186 rfl) rfl
set_option maxRecDepth 100000 in
theorem cw_RJ6_267 : Cond.constant RJ6 267 252645135 ∈ TB := TB_in (tb5_in 187 rfl) rfl
set_option maxRecDepth 100000 in
theorem cw_RL_257 : Cond.constantLong RL 257 4294967295 ∈ TB := TB_in (tb10_in 46 rfl) rfl
set_option maxRecDepth 100000 in
theorem cw_RX0_40 : Cond.constantLong RX0 40 (-1) ∈ TB := TB_in (tb4_in 202 rfl) rfl
set_option maxRecDepth 100000 in
theorem cw_RX0_49 : Cond.constantLong RX0 49 9187201950435737471 ∈ TB := TB_in (tb5_in 229 rfl) rfl
set_option maxRecDepth 100000 in
theorem cw_RX0_51 : Cond.constantLong RX0 51 (-72340172838076674) ∈ TB := TB_in (tb5_in 230 rfl) rfl
set_option maxRecDepth 100000 in
theorem cw_RX3_236 : Cond.constant RX3 236 1000000 ∈ TB := TB_in (tb2_in 69 rfl) rfl
set_option maxRecDepth 100000 in
theorem cw_RX4_201 : Cond.constantLong RX4 201 (-1) ∈ TB := TB_in (tb4_in 236 rfl) rfl
set_option maxRecDepth 100000 in
theorem cw_RX7_80 : Cond.constantLong RX7 80 1103515245 ∈ TB := TB_in (tb3_in 62 rfl) rfl
set_option maxRecDepth 100000 in
theorem cw_RX7_82 : Cond.constantLong RX7 82 12345 ∈ TB := TB_in (tb3_in 63 rfl) rfl
set_option maxRecDepth 100000 in
theorem cw_RX7_84 : Cond.constantLong RX7 84 2147483647 ∈ TB := TB_in (tb3_in 64 rfl) rfl
set_option maxRecDepth 100000 in
theorem cw_RX7_86 : Cond.constantLong RX7 86 65536 ∈ TB := TB_in (tb3_in 65 rfl) rfl
set_option maxRecDepth 100000 in
theorem cw_RX7_88 : Cond.constantLong RX7 88 100 ∈ TB := TB_in (tb3_in 66 rfl) rfl
set_option maxRecDepth 100000 in
theorem cw_RX8_235 : Cond.constantLong RX8 235 (-2) ∈ TB := TB_in (tb5_in 129 rfl) rfl
set_option maxRecDepth 100000 in
theorem cw_RX8_328 : Cond.constant RX8 328 (-1000000) ∈ TB := TB_in (tb6_in 85 rfl) rfl
set_option maxRecDepth 100000 in
theorem cw_RX8_436 : Cond.constant RX8 436 2000000000 ∈ TB := TB_in (tb6_in 129 rfl) rfl
set_option maxRecDepth 100000 in
theorem cw_RX9_136 : Cond.constantLong RX9 136 (-1) ∈ TB := TB_in (tb7_in 173 rfl) rfl
set_option maxRecDepth 100000 in
theorem cw_RX9_138 : Cond.constantLong RX9 138 27 ∈ TB := TB_in (tb7_in 174 rfl) rfl
set_option maxRecDepth 100000 in
theorem cw_RX9_140 : Cond.constantLong RX9 140 96 ∈ TB := TB_in (tb7_in 175 rfl) rfl
set_option maxRecDepth 100000 in
theorem cw_RX9_142 : Cond.constant RX9 142 100000 ∈ TB := TB_in (tb7_in 176 rfl) rfl
set_option maxRecDepth 100000 in
theorem cw_RX9_143 : Cond.constant RX9 143 1000000 ∈ TB := TB_in (tb7_in 177 rfl) rfl
set_option maxRecDepth 100000 in
theorem cw_RX9_174 : Cond.constantLong RX9 174 316452499 ∈ TB := TB_in (tb7_in 186 rfl) rfl
set_option maxRecDepth 100000 in
theorem cw_RX9_176 : Cond.constantLong RX9 176 459383 ∈ TB := TB_in (tb7_in 203 rfl) rfl
set_option maxRecDepth 100000 in
theorem cw_RX9_185 : Cond.constantLong RX9 185 82528 ∈ TB := TB_in (tb7_in 212 rfl) rfl
set_option maxRecDepth 100000 in
theorem cw_RX9_187 : Cond.constantLong RX9 187 173214550 ∈ TB := TB_in (tb7_in 213 rfl) rfl
set_option maxRecDepth 100000 in
theorem cw_RX9_189 : Cond.constantLong RX9 189 4562587 ∈ TB := TB_in (tb7_in 214 rfl) rfl
set_option maxRecDepth 100000 in
theorem cw_RX9_191 : Cond.constantLong RX9 191 1900846 ∈ TB := TB_in (tb7_in 215 rfl) rfl
set_option maxRecDepth 100000 in
theorem cw_RX9_197 : Cond.constantLong RX9 197 131638 ∈ TB := TB_in (tb7_in 231 rfl) rfl
set_option maxRecDepth 100000 in
theorem cw_RX9_203 : Cond.constantLong RX9 203 10497936 ∈ TB := TB_in (tb7_in 236 rfl) rfl
set_option maxRecDepth 100000 in
theorem cw_RX9_205 : Cond.constantLong RX9 205 7749089 ∈ TB := TB_in (tb7_in 237 rfl) rfl
set_option maxRecDepth 100000 in
theorem cw_RX9_207 : Cond.constantLong RX9 207 99677 ∈ TB := TB_in (tb7_in 238 rfl) rfl
set_option maxRecDepth 100000 in
theorem cw_RX9_209 : Cond.constantLong RX9 209 10408481 ∈ TB := TB_in (tb7_in 239 rfl) rfl
set_option maxRecDepth 100000 in
theorem cw_RX9_211 : Cond.constantLong RX9 211 456887 ∈ TB := TB_in (tb8_in 0 rfl) rfl
set_option maxRecDepth 100000 in
theorem cw_RX9_216 : Cond.constantLong RX9 216 47 ∈ TB := TB_in (tb8_in 5 rfl) rfl
set_option maxRecDepth 100000 in
theorem cw_RX9_224 : Cond.constantLong RX9 224 375088 ∈ TB := TB_in (tb8_in 14 rfl) rfl
set_option maxRecDepth 100000 in
theorem cw_RX9_226 : Cond.constantLong RX9 226 5149 ∈ TB := TB_in (tb8_in 15 rfl) rfl
set_option maxRecDepth 100000 in
theorem cw_RX9_228 : Cond.constantLong RX9 228 4026394 ∈ TB := TB_in (tb8_in 16 rfl) rfl
set_option maxRecDepth 100000 in
theorem cw_RX9_230 : Cond.constantLong RX9 230 12253591 ∈ TB := TB_in (tb8_in 21 rfl) rfl
set_option maxRecDepth 100000 in
theorem cw_RX9_232 : Cond.constantLong RX9 232 555 ∈ TB := TB_in (tb8_in 30 rfl) rfl
set_option maxRecDepth 100000 in
theorem cw_RX9_234 : Cond.constantLong RX9 234 9757090 ∈ TB := TB_in (tb8_in 36 rfl) rfl
set_option maxRecDepth 100000 in
theorem cw_RX9_236 : Cond.constantLong RX9 236 10285048 ∈ TB := TB_in (tb8_in 37 rfl) rfl
set_option maxRecDepth 100000 in
theorem cw_RX9_238 : Cond.constantLong RX9 238 459652 ∈ TB := TB_in (tb7_in 220 rfl) rfl
set_option maxRecDepth 100000 in
theorem cw_RX9_240 : Cond.constantLong RX9 240 380230 ∈ TB := TB_in (tb7_in 221 rfl) rfl
set_option maxRecDepth 100000 in
theorem cw_RX9_242 : Cond.constantLong RX9 242 90090 ∈ TB := TB_in (tb7_in 222 rfl) rfl
set_option maxRecDepth 100000 in
theorem cw_RX9_253 : Cond.constantLong RX9 253 10204885 ∈ TB := TB_in (tb8_in 22 rfl) rfl
set_option maxRecDepth 100000 in
theorem cw_RX9_255 : Cond.constantLong RX9 255 335207579 ∈ TB := TB_in (tb8_in 23 rfl) rfl
set_option maxRecDepth 100000 in
theorem cw_RX9_257 : Cond.constantLong RX9 257 8863997 ∈ TB := TB_in (tb8_in 24 rfl) rfl
set_option maxRecDepth 100000 in
theorem cw_RX9_259 : Cond.constantLong RX9 259 119088 ∈ TB := TB_in (tb8_in 25 rfl) rfl
set_option maxRecDepth 100000 in
theorem cw_RX9_264 : Cond.constantLong RX9 264 323717 ∈ TB := TB_in (tb8_in 31 rfl) rfl
set_option maxRecDepth 100000 in
theorem cw_RX9_298 : Cond.constantLong RX9 298 4 ∈ TB := TB_in (tb8_in 76 rfl) rfl
set_option maxRecDepth 100000 in
theorem cw_RX9_300 : Cond.constantLong RX9 300 2 ∈ TB := TB_in (tb8_in 97 rfl) rfl
set_option maxRecDepth 100000 in
theorem cw_RX9_317 : Cond.constantLong RX9 317 5 ∈ TB := TB_in (tb8_in 85 rfl) rfl
set_option maxRecDepth 100000 in
theorem cw_RX9_392 : Cond.constantLong RX9 392 6 ∈ TB := TB_in (tb8_in 170 rfl) rfl
set_option maxRecDepth 100000 in
theorem cw_RX9_483 : Cond.constantLong RX9 483 (-2) ∈ TB := TB_in (tb9_in 71 rfl) rfl
set_option maxRecDepth 100000 in
theorem cw_RX9_501 : Cond.constantLong RX9 501 9 ∈ TB := TB_in (tb9_in 120 rfl) rfl
set_option maxRecDepth 100000 in
theorem cw_RX9_525 : Cond.constantLong RX9 525 24 ∈ TB := TB_in (tb9_in 180 rfl) rfl
set_option maxRecDepth 100000 in
theorem cw_RX9_534 : Cond.constantLong RX9 534 100 ∈ TB := TB_in (tb9_in 205 rfl) rfl
set_option maxRecDepth 100000 in
theorem cw_RX9_545 : Cond.constant RX9 545 (-1000000) ∈ TB := TB_in (tb9_in 222 rfl) rfl
set_option maxRecDepth 100000 in
theorem cw_RX9_552 : Cond.constantLong RX9 552 1103515245 ∈ TB := TB_in (tb10_in 20 rfl) rfl
set_option maxRecDepth 100000 in
theorem cw_RX9_554 : Cond.constantLong RX9 554 12345 ∈ TB := TB_in (tb10_in 21 rfl) rfl
set_option maxRecDepth 100000 in
theorem cw_RX9_556 : Cond.constantLong RX9 556 2147483648 ∈ TB := TB_in (tb10_in 22 rfl) rfl
set_option maxRecDepth 100000 in
theorem cw_RX9_558 : Cond.constantLong RX9 558 65536 ∈ TB := TB_in (tb10_in 23 rfl) rfl
set_option maxRecDepth 100000 in
theorem cw_RX9_560 : Cond.constantLong RX9 560 2000000000 ∈ TB := TB_in (tb10_in 15 rfl) rfl
set_option maxRecDepth 100000 in
theorem cw_RX9_569 : Cond.constantLong RX9 569 20 ∈ TB := TB_in (tb10_in 28 rfl) rfl
set_option maxRecDepth 100000 in
theorem cw_RX9_571 : Cond.constantLong RX9 571 8 ∈ TB := TB_in (tb10_in 37 rfl) rfl
set_option maxRecDepth 100000 in
theorem cw_RX9_95 : Cond.constantLong RX9 95 3 ∈ TB := TB_in (tb7_in 118 rfl) rfl
set_option maxRecDepth 100000 in
theorem fl_RX0_11 : FL RX0 11 0 0 (.array (.long)) true := ⟨"BalloonGrocers$Board", "edges", "[J", ⟨TX0, 2, tyX0, rfl, by decide, by decide, inT0, tyX0_ok, nmX0, rfl, by decide +kernel⟩, TB_in (tb4_in 44 rfl) rfl⟩
set_option maxRecDepth 100000 in
theorem fl_RX0_15 : FL RX0 15 0 1 (.long) false := ⟨"BalloonGrocers$Board", "inside", "J", ⟨TX0, 2, tyX0, rfl, by decide, by decide, inT0, tyX0_ok, nmX0, rfl, by decide +kernel⟩, TB_in (tb4_in 45 rfl) rfl⟩
set_option maxRecDepth 100000 in
theorem fl_RX1_15 : FL RX1 15 1 6 (.int) false := ⟨"BalloonGrocers$Guide", "lastHour", "I", ⟨TX1, 10, tyX1, rfl, by decide, by decide, inT1, tyX1_ok, nmX1, rfl, by decide +kernel⟩, TB_in (tb4_in 63 rfl) rfl⟩
set_option maxRecDepth 100000 in
theorem fl_RX1_19 : FL RX1 19 1 1 (.array (.long)) false := ⟨"BalloonGrocers$Guide", "marks", "[J", ⟨TX1, 10, tyX1, rfl, by decide, by decide, inT1, tyX1_ok, nmX1, rfl, by decide +kernel⟩, TB_in (tb4_in 58 rfl) rfl⟩
set_option maxRecDepth 100000 in
theorem fl_RX1_23 : FL RX1 23 1 2 (.object "BalloonGrocers$Board") false := ⟨"BalloonGrocers$Guide", "board", "LBalloonGrocers$Board;", ⟨TX1, 10, tyX1, rfl, by decide, by decide, inT1, tyX1_ok, nmX1, rfl, by decide +kernel⟩, TB_in (tb4_in 59 rfl) rfl⟩
set_option maxRecDepth 100000 in
theorem fl_RX1_27 : FL RX1 27 1 7 (.int) false := ⟨"BalloonGrocers$Guide", "knownEra", "I", ⟨TX1, 10, tyX1, rfl, by decide, by decide, inT1, tyX1_ok, nmX1, rfl, by decide +kernel⟩, TB_in (tb4_in 64 rfl) rfl⟩
set_option maxRecDepth 100000 in
theorem fl_RX1_30 : FL RX1 30 1 8 (.int) false := ⟨"BalloonGrocers$Guide", "knownShop", "I", ⟨TX1, 10, tyX1, rfl, by decide, by decide, inT1, tyX1_ok, nmX1, rfl, by decide +kernel⟩, TB_in (tb4_in 65 rfl) rfl⟩
set_option maxRecDepth 100000 in
theorem fl_RX1_33 : FL RX1 33 1 9 (.int) false := ⟨"BalloonGrocers$Guide", "knownTarget", "I", ⟨TX1, 10, tyX1, rfl, by decide, by decide, inT1, tyX1_ok, nmX1, rfl, by decide +kernel⟩, TB_in (tb4_in 66 rfl) rfl⟩
set_option maxRecDepth 100000 in
theorem fl_RX1_36 : FL RX1 36 1 3 (.object "BalloonGrocers$Valley") false := ⟨"BalloonGrocers$Guide", "valley", "LBalloonGrocers$Valley;", ⟨TX1, 10, tyX1, rfl, by decide, by decide, inT1, tyX1_ok, nmX1, rfl, by decide +kernel⟩, TB_in (tb4_in 60 rfl) rfl⟩
set_option maxRecDepth 100000 in
theorem fl_RX1_40 : FL RX1 40 6 4 (.int) false := ⟨"BalloonGrocers$Valley", "hours", "I", ⟨TX6, 19, tyX6, rfl, by decide, by decide, inT6, tyX6_ok, nmX6, rfl, by decide +kernel⟩, TB_in (tb1_in 130 rfl) rfl⟩
set_option maxRecDepth 100000 in
theorem fl_RX1_58 : FL RX1 58 1 4 (.int) false := ⟨"BalloonGrocers$Guide", "sand", "I", ⟨TX1, 10, tyX1, rfl, by decide, by decide, inT1, tyX1_ok, nmX1, rfl, by decide +kernel⟩, TB_in (tb4_in 61 rfl) rfl⟩
set_option maxRecDepth 100000 in
theorem fl_RX1_65 : FL RX1 65 1 5 (.int) false := ⟨"BalloonGrocers$Guide", "gas", "I", ⟨TX1, 10, tyX1, rfl, by decide, by decide, inT1, tyX1_ok, nmX1, rfl, by decide +kernel⟩, TB_in (tb4_in 62 rfl) rfl⟩
set_option maxRecDepth 100000 in
theorem fl_RX1_68 : FL RX1 68 6 3 (.int) false := ⟨"BalloonGrocers$Valley", "layers", "I", ⟨TX6, 19, tyX6, rfl, by decide, by decide, inT6, tyX6_ok, nmX6, rfl, by decide +kernel⟩, TB_in (tb1_in 123 rfl) rfl⟩
set_option maxRecDepth 100000 in
theorem fl_RX1_9 : FL RX1 9 1 0 (.array (.int)) true := ⟨"BalloonGrocers$Guide", "acts", "[I", ⟨TX1, 10, tyX1, rfl, by decide, by decide, inT1, tyX1_ok, nmX1, rfl, by decide +kernel⟩, TB_in (tb4_in 57 rfl) rfl⟩
set_option maxRecDepth 100000 in
theorem fl_RX2_15 : FL RX2 15 2 1 (.array (.int)) true := ⟨"BalloonGrocers$Reach", "tourSand", "[I", ⟨TX2, 5, tyX2, rfl, by decide, by decide, inT2, tyX2_ok, nmX2, rfl, by decide +kernel⟩, TB_in (tb4_in 96 rfl) rfl⟩
set_option maxRecDepth 100000 in
theorem fl_RX2_19 : FL RX2 19 2 2 (.array (.int)) true := ⟨"BalloonGrocers$Reach", "tourHour", "[I", ⟨TX2, 5, tyX2, rfl, by decide, by decide, inT2, tyX2_ok, nmX2, rfl, by decide +kernel⟩, TB_in (tb4_in 97 rfl) rfl⟩
set_option maxRecDepth 100000 in
theorem fl_RX2_9 : FL RX2 9 2 0 (.array (.long)) true := ⟨"BalloonGrocers$Reach", "cells", "[J", ⟨TX2, 5, tyX2, rfl, by decide, by decide, inT2, tyX2_ok, nmX2, rfl, by decide +kernel⟩, TB_in (tb4_in 95 rfl) rfl⟩
set_option maxRecDepth 100000 in
theorem fl_RX3_101 : FL RX3 101 3 6 (.int) false := ⟨"BalloonGrocers$Reader", "start", "I", ⟨TX3, 10, tyX3, rfl, by decide, by decide, inT3, tyX3_ok, nmX3, rfl, by decide +kernel⟩, TB_in (tb1_in 41 rfl) rfl⟩
set_option maxRecDepth 100000 in
theorem fl_RX3_119 : FL RX3 119 6 1 (.int) false := ⟨"BalloonGrocers$Valley", "wide", "I", ⟨TX6, 19, tyX6, rfl, by decide, by decide, inT6, tyX6_ok, nmX6, rfl, by decide +kernel⟩, TB_in (tb1_in 115 rfl) rfl⟩
set_option maxRecDepth 100000 in
theorem fl_RX3_123 : FL RX3 123 6 2 (.int) false := ⟨"BalloonGrocers$Valley", "deep", "I", ⟨TX6, 19, tyX6, rfl, by decide, by decide, inT6, tyX6_ok, nmX6, rfl, by decide +kernel⟩, TB_in (tb1_in 118 rfl) rfl⟩
set_option maxRecDepth 100000 in
theorem fl_RX3_127 : FL RX3 127 6 3 (.int) false := ⟨"BalloonGrocers$Valley", "layers", "I", ⟨TX6, 19, tyX6, rfl, by decide, by decide, inT6, tyX6_ok, nmX6, rfl, by decide +kernel⟩, TB_in (tb1_in 121 rfl) rfl⟩
set_option maxRecDepth 100000 in
theorem fl_RX3_131 : FL RX3 131 6 4 (.int) false := ⟨"BalloonGrocers$Valley", "hours", "I", ⟨TX6, 19, tyX6, rfl, by decide, by decide, inT6, tyX6_ok, nmX6, rfl, by decide +kernel⟩, TB_in (tb1_in 129 rfl) rfl⟩
set_option maxRecDepth 100000 in
theorem fl_RX3_135 : FL RX3 135 6 5 (.int) false := ⟨"BalloonGrocers$Valley", "cools", "I", ⟨TX6, 19, tyX6, rfl, by decide, by decide, inT6, tyX6_ok, nmX6, rfl, by decide +kernel⟩, TB_in (tb1_in 133 rfl) rfl⟩
set_option maxRecDepth 100000 in
theorem fl_RX3_137 : FL RX3 137 6 7 (.int) false := ⟨"BalloonGrocers$Valley", "fee", "I", ⟨TX6, 19, tyX6, rfl, by decide, by decide, inT6, tyX6_ok, nmX6, rfl, by decide +kernel⟩, TB_in (tb1_in 141 rfl) rfl⟩
set_option maxRecDepth 100000 in
theorem fl_RX3_142 : FL RX3 142 6 6 (.int) false := ⟨"BalloonGrocers$Valley", "reach", "I", ⟨TX6, 19, tyX6, rfl, by decide, by decide, inT6, tyX6_ok, nmX6, rfl, by decide +kernel⟩, TB_in (tb1_in 136 rfl) rfl⟩
set_option maxRecDepth 100000 in
theorem fl_RX3_15 : FL RX3 15 3 2 (.array (.byte)) false := ⟨"BalloonGrocers$Reader", "text", "[B", ⟨TX3, 10, tyX3, rfl, by decide, by decide, inT3, tyX3_ok, nmX3, rfl, by decide +kernel⟩, TB_in (tb1_in 37 rfl) rfl⟩
set_option maxRecDepth 100000 in
theorem fl_RX3_153 : FL RX3 153 6 14 (.array (.int)) true := ⟨"BalloonGrocers$Valley", "winds", "[I", ⟨TX6, 19, tyX6, rfl, by decide, by decide, inT6, tyX6_ok, nmX6, rfl, by decide +kernel⟩, TB_in (tb1_in 166 rfl) rfl⟩
set_option maxRecDepth 100000 in
theorem fl_RX3_170 : FL RX3 170 6 8 (.int) false := ⟨"BalloonGrocers$Valley", "shopCount", "I", ⟨TX6, 19, tyX6, rfl, by decide, by decide, inT6, tyX6_ok, nmX6, rfl, by decide +kernel⟩, TB_in (tb1_in 146 rfl) rfl⟩
set_option maxRecDepth 100000 in
theorem fl_RX3_181 : FL RX3 181 6 15 (.array (.int)) true := ⟨"BalloonGrocers$Valley", "shopFacts", "[I", ⟨TX6, 19, tyX6, rfl, by decide, by decide, inT6, tyX6_ok, nmX6, rfl, by decide +kernel⟩, TB_in (tb1_in 169 rfl) rfl⟩
set_option maxRecDepth 100000 in
theorem fl_RX3_184 : FL RX3 184 6 9 (.int) false := ⟨"BalloonGrocers$Valley", "doorCount", "I", ⟨TX6, 19, tyX6, rfl, by decide, by decide, inT6, tyX6_ok, nmX6, rfl, by decide +kernel⟩, TB_in (tb1_in 151 rfl) rfl⟩
set_option maxRecDepth 100000 in
theorem fl_RX3_196 : FL RX3 196 6 16 (.array (.int)) true := ⟨"BalloonGrocers$Valley", "doorFacts", "[I", ⟨TX6, 19, tyX6, rfl, by decide, by decide, inT6, tyX6_ok, nmX6, rfl, by decide +kernel⟩, TB_in (tb1_in 172 rfl) rfl⟩
set_option maxRecDepth 100000 in
theorem fl_RX3_201 : FL RX3 201 6 10 (.int) false := ⟨"BalloonGrocers$Valley", "fairColumn", "I", ⟨TX6, 19, tyX6, rfl, by decide, by decide, inT6, tyX6_ok, nmX6, rfl, by decide +kernel⟩, TB_in (tb1_in 154 rfl) rfl⟩
set_option maxRecDepth 100000 in
theorem fl_RX3_204 : FL RX3 204 6 11 (.int) false := ⟨"BalloonGrocers$Valley", "fairFrom", "I", ⟨TX6, 19, tyX6, rfl, by decide, by decide, inT6, tyX6_ok, nmX6, rfl, by decide +kernel⟩, TB_in (tb1_in 158 rfl) rfl⟩
set_option maxRecDepth 100000 in
theorem fl_RX3_207 : FL RX3 207 6 12 (.int) false := ⟨"BalloonGrocers$Valley", "fairTo", "I", ⟨TX6, 19, tyX6, rfl, by decide, by decide, inT6, tyX6_ok, nmX6, rfl, by decide +kernel⟩, TB_in (tb1_in 161 rfl) rfl⟩
set_option maxRecDepth 100000 in
theorem fl_RX3_218 : FL RX3 218 3 7 (.int) false := ⟨"BalloonGrocers$Reader", "value", "I", ⟨TX3, 10, tyX3, rfl, by decide, by decide, inT3, tyX3_ok, nmX3, rfl, by decide +kernel⟩, TB_in (tb1_in 42 rfl) rfl⟩
set_option maxRecDepth 100000 in
theorem fl_RX3_25 : FL RX3 25 3 3 (.int) false := ⟨"BalloonGrocers$Reader", "length", "I", ⟨TX3, 10, tyX3, rfl, by decide, by decide, inT3, tyX3_ok, nmX3, rfl, by decide +kernel⟩, TB_in (tb1_in 38 rfl) rfl⟩
set_option maxRecDepth 100000 in
theorem fl_RX3_28 : FL RX3 28 3 9 (.object "BalloonGrocers$Valley") false := ⟨"BalloonGrocers$Reader", "into", "LBalloonGrocers$Valley;", ⟨TX3, 10, tyX3, rfl, by decide, by decide, inT3, tyX3_ok, nmX3, rfl, by decide +kernel⟩, TB_in (tb1_in 44 rfl) rfl⟩
set_option maxRecDepth 100000 in
theorem fl_RX3_37 : FL RX3 37 3 0 (.int) false := ⟨"BalloonGrocers$Reader", "faultKind", "I", ⟨TX3, 10, tyX3, rfl, by decide, by decide, inT3, tyX3_ok, nmX3, rfl, by decide +kernel⟩, TB_in (tb1_in 33 rfl) rfl⟩
set_option maxRecDepth 100000 in
theorem fl_RX3_40 : FL RX3 40 3 4 (.int) false := ⟨"BalloonGrocers$Reader", "next", "I", ⟨TX3, 10, tyX3, rfl, by decide, by decide, inT3, tyX3_ok, nmX3, rfl, by decide +kernel⟩, TB_in (tb1_in 39 rfl) rfl⟩
set_option maxRecDepth 100000 in
theorem fl_RX3_43 : FL RX3 43 3 8 (.int) false := ⟨"BalloonGrocers$Reader", "windLines", "I", ⟨TX3, 10, tyX3, rfl, by decide, by decide, inT3, tyX3_ok, nmX3, rfl, by decide +kernel⟩, TB_in (tb1_in 43 rfl) rfl⟩
set_option maxRecDepth 100000 in
theorem fl_RX3_49 : FL RX3 49 3 5 (.int) false := ⟨"BalloonGrocers$Reader", "kind", "I", ⟨TX3, 10, tyX3, rfl, by decide, by decide, inT3, tyX3_ok, nmX3, rfl, by decide +kernel⟩, TB_in (tb1_in 40 rfl) rfl⟩
set_option maxRecDepth 100000 in
theorem fl_RX3_58 : FL RX3 58 6 0 (.int) false := ⟨"BalloonGrocers$Valley", "lines", "I", ⟨TX6, 19, tyX6, rfl, by decide, by decide, inT6, tyX6_ok, nmX6, rfl, by decide +kernel⟩, TB_in (tb1_in 113 rfl) rfl⟩
set_option maxRecDepth 100000 in
theorem fl_RX3_9 : FL RX3 9 3 1 (.int) false := ⟨"BalloonGrocers$Reader", "faultPlace", "I", ⟨TX3, 10, tyX3, rfl, by decide, by decide, inT3, tyX3_ok, nmX3, rfl, by decide +kernel⟩, TB_in (tb1_in 35 rfl) rfl⟩
set_option maxRecDepth 100000 in
theorem fl_RX4_11 : FL RX4 11 4 0 (.array (.long)) true := ⟨"BalloonGrocers$Roamer", "states", "[J", ⟨TX4, 11, tyX4, rfl, by decide, by decide, inT4, tyX4_ok, nmX4, rfl, by decide +kernel⟩, TB_in (tb4_in 111 rfl) rfl⟩
set_option maxRecDepth 100000 in
theorem fl_RX4_120 : FL RX4 120 4 4 (.object "BalloonGrocers$Valley") false := ⟨"BalloonGrocers$Roamer", "valley", "LBalloonGrocers$Valley;", ⟨TX4, 11, tyX4, rfl, by decide, by decide, inT4, tyX4_ok, nmX4, rfl, by decide +kernel⟩, TB_in (tb4_in 115 rfl) rfl⟩
set_option maxRecDepth 100000 in
theorem fl_RX4_124 : FL RX4 124 4 10 (.int) false := ⟨"BalloonGrocers$Roamer", "aim", "I", ⟨TX4, 11, tyX4, rfl, by decide, by decide, inT4, tyX4_ok, nmX4, rfl, by decide +kernel⟩, TB_in (tb4_in 121 rfl) rfl⟩
set_option maxRecDepth 100000 in
theorem fl_RX4_136 : FL RX4 136 4 9 (.int) false := ⟨"BalloonGrocers$Roamer", "tags", "I", ⟨TX4, 11, tyX4, rfl, by decide, by decide, inT4, tyX4_ok, nmX4, rfl, by decide +kernel⟩, TB_in (tb4_in 120 rfl) rfl⟩
set_option maxRecDepth 100000 in
theorem fl_RX4_142 : FL RX4 142 4 7 (.int) false := ⟨"BalloonGrocers$Roamer", "sand", "I", ⟨TX4, 11, tyX4, rfl, by decide, by decide, inT4, tyX4_ok, nmX4, rfl, by decide +kernel⟩, TB_in (tb4_in 118 rfl) rfl⟩
set_option maxRecDepth 100000 in
theorem fl_RX4_145 : FL RX4 145 4 8 (.int) false := ⟨"BalloonGrocers$Roamer", "gas", "I", ⟨TX4, 11, tyX4, rfl, by decide, by decide, inT4, tyX4_ok, nmX4, rfl, by decide +kernel⟩, TB_in (tb4_in 119 rfl) rfl⟩
set_option maxRecDepth 100000 in
theorem fl_RX4_159 : FL RX4 159 6 3 (.int) false := ⟨"BalloonGrocers$Valley", "layers", "I", ⟨TX6, 19, tyX6, rfl, by decide, by decide, inT6, tyX6_ok, nmX6, rfl, by decide +kernel⟩, TB_in (tb1_in 125 rfl) rfl⟩
set_option maxRecDepth 100000 in
theorem fl_RX4_18 : FL RX4 18 4 1 (.object "BalloonGrocers$Board") true := ⟨"BalloonGrocers$Roamer", "board", "LBalloonGrocers$Board;", ⟨TX4, 11, tyX4, rfl, by decide, by decide, inT4, tyX4_ok, nmX4, rfl, by decide +kernel⟩, TB_in (tb4_in 112 rfl) rfl⟩
set_option maxRecDepth 100000 in
theorem fl_RX4_194 : FL RX4 194 6 10 (.int) false := ⟨"BalloonGrocers$Valley", "fairColumn", "I", ⟨TX6, 19, tyX6, rfl, by decide, by decide, inT6, tyX6_ok, nmX6, rfl, by decide +kernel⟩, TB_in (tb1_in 155 rfl) rfl⟩
set_option maxRecDepth 100000 in
theorem fl_RX4_203 : FL RX4 203 6 6 (.int) false := ⟨"BalloonGrocers$Valley", "reach", "I", ⟨TX6, 19, tyX6, rfl, by decide, by decide, inT6, tyX6_ok, nmX6, rfl, by decide +kernel⟩, TB_in (tb1_in 138 rfl) rfl⟩
set_option maxRecDepth 100000 in
theorem fl_RX4_25 : FL RX4 25 4 2 (.object "BalloonGrocers$Guide") true := ⟨"BalloonGrocers$Roamer", "guide", "LBalloonGrocers$Guide;", ⟨TX4, 11, tyX4, rfl, by decide, by decide, inT4, tyX4_ok, nmX4, rfl, by decide +kernel⟩, TB_in (tb4_in 113 rfl) rfl⟩
set_option maxRecDepth 100000 in
theorem fl_RX4_31 : FL RX4 31 4 3 (.array (.object "BalloonGrocers$Reach")) true := ⟨"BalloonGrocers$Roamer", "reaches", "[LBalloonGrocers$Reach;", ⟨TX4, 11, tyX4, rfl, by decide, by decide, inT4, tyX4_ok, nmX4, rfl, by decide +kernel⟩, TB_in (tb4_in 114 rfl) rfl⟩
set_option maxRecDepth 100000 in
theorem fl_RX4_36 : FL RX4 36 4 5 (.object "BalloonGrocers$Reach") false := ⟨"BalloonGrocers$Roamer", "reach", "LBalloonGrocers$Reach;", ⟨TX4, 11, tyX4, rfl, by decide, by decide, inT4, tyX4_ok, nmX4, rfl, by decide +kernel⟩, TB_in (tb4_in 116 rfl) rfl⟩
set_option maxRecDepth 100000 in
theorem fl_RX4_40 : FL RX4 40 2 3 (.int) false := ⟨"BalloonGrocers$Reach", "cellsEra", "I", ⟨TX2, 5, tyX2, rfl, by decide, by decide, inT2, tyX2_ok, nmX2, rfl, by decide +kernel⟩, TB_in (tb4_in 98 rfl) rfl⟩
set_option maxRecDepth 100000 in
theorem fl_RX4_51 : FL RX4 51 6 4 (.int) false := ⟨"BalloonGrocers$Valley", "hours", "I", ⟨TX6, 19, tyX6, rfl, by decide, by decide, inT6, tyX6_ok, nmX6, rfl, by decide +kernel⟩, TB_in (tb1_in 127 rfl) rfl⟩
set_option maxRecDepth 100000 in
theorem fl_RX4_60 : FL RX4 60 2 4 (.int) false := ⟨"BalloonGrocers$Reach", "toursEra", "I", ⟨TX2, 5, tyX2, rfl, by decide, by decide, inT2, tyX2_ok, nmX2, rfl, by decide +kernel⟩, TB_in (tb4_in 99 rfl) rfl⟩
set_option maxRecDepth 100000 in
theorem fl_RX4_66 : FL RX4 66 6 9 (.int) false := ⟨"BalloonGrocers$Valley", "doorCount", "I", ⟨TX6, 19, tyX6, rfl, by decide, by decide, inT6, tyX6_ok, nmX6, rfl, by decide +kernel⟩, TB_in (tb1_in 149 rfl) rfl⟩
set_option maxRecDepth 100000 in
theorem fl_RX4_69 : FL RX4 69 4 6 (.int) false := ⟨"BalloonGrocers$Roamer", "startLayer", "I", ⟨TX4, 11, tyX4, rfl, by decide, by decide, inT4, tyX4_ok, nmX4, rfl, by decide +kernel⟩, TB_in (tb4_in 117 rfl) rfl⟩
set_option maxRecDepth 100000 in
theorem fl_RX4_83 : FL RX4 83 6 12 (.int) false := ⟨"BalloonGrocers$Valley", "fairTo", "I", ⟨TX6, 19, tyX6, rfl, by decide, by decide, inT6, tyX6_ok, nmX6, rfl, by decide +kernel⟩, TB_in (tb1_in 160 rfl) rfl⟩
set_option maxRecDepth 100000 in
theorem fl_RX4_86 : FL RX4 86 6 11 (.int) false := ⟨"BalloonGrocers$Valley", "fairFrom", "I", ⟨TX6, 19, tyX6, rfl, by decide, by decide, inT6, tyX6_ok, nmX6, rfl, by decide +kernel⟩, TB_in (tb1_in 157 rfl) rfl⟩
set_option maxRecDepth 100000 in
theorem fl_RX5_15 : FL RX5 15 5 1 (.int) false := ⟨"BalloonGrocers$Row", "size", "I", ⟨TX5, 3, tyX5, rfl, by decide, by decide, inT5, tyX5_ok, nmX5, rfl, by decide +kernel⟩, TB_in (tb1_in 220 rfl) rfl⟩
set_option maxRecDepth 100000 in
theorem fl_RX5_19 : FL RX5 19 5 2 (.int) false := ⟨"BalloonGrocers$Row", "width", "I", ⟨TX5, 3, tyX5, rfl, by decide, by decide, inT5, tyX5_ok, nmX5, rfl, by decide +kernel⟩, TB_in (tb1_in 222 rfl) rfl⟩
set_option maxRecDepth 100000 in
theorem fl_RX5_9 : FL RX5 9 5 0 (.array (.long)) true := ⟨"BalloonGrocers$Row", "numbers", "[J", ⟨TX5, 3, tyX5, rfl, by decide, by decide, inT5, tyX5_ok, nmX5, rfl, by decide +kernel⟩, TB_in (tb1_in 219 rfl) rfl⟩
set_option maxRecDepth 100000 in
theorem fl_RX6_101 : FL RX6 101 6 6 (.int) false := ⟨"BalloonGrocers$Valley", "reach", "I", ⟨TX6, 19, tyX6, rfl, by decide, by decide, inT6, tyX6_ok, nmX6, rfl, by decide +kernel⟩, TB_in (tb1_in 139 rfl) rfl⟩
set_option maxRecDepth 100000 in
theorem fl_RX6_104 : FL RX6 104 6 11 (.int) false := ⟨"BalloonGrocers$Valley", "fairFrom", "I", ⟨TX6, 19, tyX6, rfl, by decide, by decide, inT6, tyX6_ok, nmX6, rfl, by decide +kernel⟩, TB_in (tb1_in 159 rfl) rfl⟩
set_option maxRecDepth 100000 in
theorem fl_RX6_107 : FL RX6 107 6 12 (.int) false := ⟨"BalloonGrocers$Valley", "fairTo", "I", ⟨TX6, 19, tyX6, rfl, by decide, by decide, inT6, tyX6_ok, nmX6, rfl, by decide +kernel⟩, TB_in (tb1_in 162 rfl) rfl⟩
set_option maxRecDepth 100000 in
theorem fl_RX6_15 : FL RX6 15 6 14 (.array (.int)) true := ⟨"BalloonGrocers$Valley", "winds", "[I", ⟨TX6, 19, tyX6, rfl, by decide, by decide, inT6, tyX6_ok, nmX6, rfl, by decide +kernel⟩, TB_in (tb1_in 165 rfl) rfl⟩
set_option maxRecDepth 100000 in
theorem fl_RX6_19 : FL RX6 19 6 15 (.array (.int)) true := ⟨"BalloonGrocers$Valley", "shopFacts", "[I", ⟨TX6, 19, tyX6, rfl, by decide, by decide, inT6, tyX6_ok, nmX6, rfl, by decide +kernel⟩, TB_in (tb1_in 168 rfl) rfl⟩
set_option maxRecDepth 100000 in
theorem fl_RX6_22 : FL RX6 22 6 16 (.array (.int)) true := ⟨"BalloonGrocers$Valley", "doorFacts", "[I", ⟨TX6, 19, tyX6, rfl, by decide, by decide, inT6, tyX6_ok, nmX6, rfl, by decide +kernel⟩, TB_in (tb1_in 171 rfl) rfl⟩
set_option maxRecDepth 100000 in
theorem fl_RX6_25 : FL RX6 25 6 17 (.array (.int)) true := ⟨"BalloonGrocers$Valley", "acts", "[I", ⟨TX6, 19, tyX6, rfl, by decide, by decide, inT6, tyX6_ok, nmX6, rfl, by decide +kernel⟩, TB_in (tb1_in 173 rfl) rfl⟩
set_option maxRecDepth 100000 in
theorem fl_RX6_28 : FL RX6 28 6 18 (.array (.int)) true := ⟨"BalloonGrocers$Valley", "changes", "[I", ⟨TX6, 19, tyX6, rfl, by decide, by decide, inT6, tyX6_ok, nmX6, rfl, by decide +kernel⟩, TB_in (tb1_in 174 rfl) rfl⟩
set_option maxRecDepth 100000 in
theorem fl_RX6_31 : FL RX6 31 6 0 (.int) false := ⟨"BalloonGrocers$Valley", "lines", "I", ⟨TX6, 19, tyX6, rfl, by decide, by decide, inT6, tyX6_ok, nmX6, rfl, by decide +kernel⟩, TB_in (tb1_in 112 rfl) rfl⟩
set_option maxRecDepth 100000 in
theorem fl_RX6_34 : FL RX6 34 6 8 (.int) false := ⟨"BalloonGrocers$Valley", "shopCount", "I", ⟨TX6, 19, tyX6, rfl, by decide, by decide, inT6, tyX6_ok, nmX6, rfl, by decide +kernel⟩, TB_in (tb1_in 145 rfl) rfl⟩
set_option maxRecDepth 100000 in
theorem fl_RX6_41 : FL RX6 41 6 9 (.int) false := ⟨"BalloonGrocers$Valley", "doorCount", "I", ⟨TX6, 19, tyX6, rfl, by decide, by decide, inT6, tyX6_ok, nmX6, rfl, by decide +kernel⟩, TB_in (tb1_in 150 rfl) rfl⟩
set_option maxRecDepth 100000 in
theorem fl_RX6_44 : FL RX6 44 6 3 (.int) false := ⟨"BalloonGrocers$Valley", "layers", "I", ⟨TX6, 19, tyX6, rfl, by decide, by decide, inT6, tyX6_ok, nmX6, rfl, by decide +kernel⟩, TB_in (tb1_in 124 rfl) rfl⟩
set_option maxRecDepth 100000 in
theorem fl_RX6_47 : FL RX6 47 6 4 (.int) false := ⟨"BalloonGrocers$Valley", "hours", "I", ⟨TX6, 19, tyX6, rfl, by decide, by decide, inT6, tyX6_ok, nmX6, rfl, by decide +kernel⟩, TB_in (tb1_in 132 rfl) rfl⟩
set_option maxRecDepth 100000 in
theorem fl_RX6_50 : FL RX6 50 6 1 (.int) false := ⟨"BalloonGrocers$Valley", "wide", "I", ⟨TX6, 19, tyX6, rfl, by decide, by decide, inT6, tyX6_ok, nmX6, rfl, by decide +kernel⟩, TB_in (tb1_in 116 rfl) rfl⟩
set_option maxRecDepth 100000 in
theorem fl_RX6_53 : FL RX6 53 6 2 (.int) false := ⟨"BalloonGrocers$Valley", "deep", "I", ⟨TX6, 19, tyX6, rfl, by decide, by decide, inT6, tyX6_ok, nmX6, rfl, by decide +kernel⟩, TB_in (tb1_in 119 rfl) rfl⟩
set_option maxRecDepth 100000 in
theorem fl_RX6_66 : FL RX6 66 6 5 (.int) false := ⟨"BalloonGrocers$Valley", "cools", "I", ⟨TX6, 19, tyX6, rfl, by decide, by decide, inT6, tyX6_ok, nmX6, rfl, by decide +kernel⟩, TB_in (tb1_in 134 rfl) rfl⟩
set_option maxRecDepth 100000 in
theorem fl_RX6_69 : FL RX6 69 6 7 (.int) false := ⟨"BalloonGrocers$Valley", "fee", "I", ⟨TX6, 19, tyX6, rfl, by decide, by decide, inT6, tyX6_ok, nmX6, rfl, by decide +kernel⟩, TB_in (tb1_in 142 rfl) rfl⟩
set_option maxRecDepth 100000 in
theorem fl_RX6_9 : FL RX6 9 6 10 (.int) false := ⟨"BalloonGrocers$Valley", "fairColumn", "I", ⟨TX6, 19, tyX6, rfl, by decide, by decide, inT6, tyX6_ok, nmX6, rfl, by decide +kernel⟩, TB_in (tb1_in 153 rfl) rfl⟩
set_option maxRecDepth 100000 in
theorem fl_RX6_91 : FL RX6 91 6 13 (.int) false := ⟨"BalloonGrocers$Valley", "changeCount", "I", ⟨TX6, 19, tyX6, rfl, by decide, by decide, inT6, tyX6_ok, nmX6, rfl, by decide +kernel⟩, TB_in (tb1_in 164 rfl) rfl⟩
set_option maxRecDepth 100000 in
theorem fl_RX7_11 : FL RX7 11 7 0 (.array (.int)) true := ⟨"BalloonGrocers$Voyage", "log", "[I", ⟨TX7, 9, tyX7, rfl, by decide, by decide, inT7, tyX7_ok, nmX7, rfl, by decide +kernel⟩, TB_in (tb1_in 73 rfl) rfl⟩
set_option maxRecDepth 100000 in
theorem fl_RX7_129 : FL RX7 129 6 6 (.int) false := ⟨"BalloonGrocers$Valley", "reach", "I", ⟨TX6, 19, tyX6, rfl, by decide, by decide, inT6, tyX6_ok, nmX6, rfl, by decide +kernel⟩, TB_in (tb1_in 137 rfl) rfl⟩
set_option maxRecDepth 100000 in
theorem fl_RX7_15 : FL RX7 15 7 1 (.array (.int)) true := ⟨"BalloonGrocers$Voyage", "wants", "[I", ⟨TX7, 9, tyX7, rfl, by decide, by decide, inT7, tyX7_ok, nmX7, rfl, by decide +kernel⟩, TB_in (tb1_in 74 rfl) rfl⟩
set_option maxRecDepth 100000 in
theorem fl_RX7_18 : FL RX7 18 7 2 (.array (.int)) true := ⟨"BalloonGrocers$Voyage", "reasons", "[I", ⟨TX7, 9, tyX7, rfl, by decide, by decide, inT7, tyX7_ok, nmX7, rfl, by decide +kernel⟩, TB_in (tb1_in 75 rfl) rfl⟩
set_option maxRecDepth 100000 in
theorem fl_RX7_21 : FL RX7 21 7 3 (.array (.boolean)) true := ⟨"BalloonGrocers$Voyage", "carries", "[Z", ⟨TX7, 9, tyX7, rfl, by decide, by decide, inT7, tyX7_ok, nmX7, rfl, by decide +kernel⟩, TB_in (tb1_in 76 rfl) rfl⟩
set_option maxRecDepth 100000 in
theorem fl_RX7_25 : FL RX7 25 7 4 (.array (.int)) true := ⟨"BalloonGrocers$Voyage", "saleDoors", "[I", ⟨TX7, 9, tyX7, rfl, by decide, by decide, inT7, tyX7_ok, nmX7, rfl, by decide +kernel⟩, TB_in (tb1_in 77 rfl) rfl⟩
set_option maxRecDepth 100000 in
theorem fl_RX7_28 : FL RX7 28 7 5 (.array (.boolean)) true := ⟨"BalloonGrocers$Voyage", "gusts", "[Z", ⟨TX7, 9, tyX7, rfl, by decide, by decide, inT7, tyX7_ok, nmX7, rfl, by decide +kernel⟩, TB_in (tb1_in 78 rfl) rfl⟩
set_option maxRecDepth 100000 in
theorem fl_RX7_31 : FL RX7 31 7 7 (.long) false := ⟨"BalloonGrocers$Voyage", "draws", "J", ⟨TX7, 9, tyX7, rfl, by decide, by decide, inT7, tyX7_ok, nmX7, rfl, by decide +kernel⟩, TB_in (tb1_in 80 rfl) rfl⟩
set_option maxRecDepth 100000 in
theorem fl_RX7_35 : FL RX7 35 7 8 (.int) false := ⟨"BalloonGrocers$Voyage", "odds", "I", ⟨TX7, 9, tyX7, rfl, by decide, by decide, inT7, tyX7_ok, nmX7, rfl, by decide +kernel⟩, TB_in (tb1_in 81 rfl) rfl⟩
set_option maxRecDepth 100000 in
theorem fl_RX7_39 : FL RX7 39 7 6 (.object "BalloonGrocers$Valley") false := ⟨"BalloonGrocers$Voyage", "valley", "LBalloonGrocers$Valley;", ⟨TX7, 9, tyX7, rfl, by decide, by decide, inT7, tyX7_ok, nmX7, rfl, by decide +kernel⟩, TB_in (tb1_in 79 rfl) rfl⟩
set_option maxRecDepth 100000 in
theorem fl_RX7_43 : FL RX7 43 6 8 (.int) false := ⟨"BalloonGrocers$Valley", "shopCount", "I", ⟨TX6, 19, tyX6, rfl, by decide, by decide, inT6, tyX6_ok, nmX6, rfl, by decide +kernel⟩, TB_in (tb1_in 144 rfl) rfl⟩
set_option maxRecDepth 100000 in
theorem fl_RX7_55 : FL RX7 55 6 9 (.int) false := ⟨"BalloonGrocers$Valley", "doorCount", "I", ⟨TX6, 19, tyX6, rfl, by decide, by decide, inT6, tyX6_ok, nmX6, rfl, by decide +kernel⟩, TB_in (tb1_in 148 rfl) rfl⟩
set_option maxRecDepth 100000 in
theorem fl_RX7_67 : FL RX7 67 6 4 (.int) false := ⟨"BalloonGrocers$Valley", "hours", "I", ⟨TX6, 19, tyX6, rfl, by decide, by decide, inT6, tyX6_ok, nmX6, rfl, by decide +kernel⟩, TB_in (tb1_in 128 rfl) rfl⟩
set_option maxRecDepth 100000 in
theorem fl_RX7_77 : FL RX7 77 6 3 (.int) false := ⟨"BalloonGrocers$Valley", "layers", "I", ⟨TX6, 19, tyX6, rfl, by decide, by decide, inT6, tyX6_ok, nmX6, rfl, by decide +kernel⟩, TB_in (tb1_in 122 rfl) rfl⟩
set_option maxRecDepth 100000 in
theorem fl_RX8_129 : FL RX8 129 6 13 (.int) false := ⟨"BalloonGrocers$Valley", "changeCount", "I", ⟨TX6, 19, tyX6, rfl, by decide, by decide, inT6, tyX6_ok, nmX6, rfl, by decide +kernel⟩, TB_in (tb1_in 163 rfl) rfl⟩
set_option maxRecDepth 100000 in
theorem fl_RX8_132 : FL RX8 132 8 11 (.boolean) false := ⟨"BalloonGrocers", "plannedStands", "Z", ⟨TX8, 13, tyX8, rfl, by decide, by decide, inT8, tyX8_ok, nmX8, rfl, by decide +kernel⟩, TB_in (tb2_in 3 rfl) rfl⟩
set_option maxRecDepth 100000 in
theorem fl_RX8_16 : FL RX8 16 8 1 (.object "BalloonGrocers$Reader") true := ⟨"BalloonGrocers", "reader", "LBalloonGrocers$Reader;", ⟨TX8, 13, tyX8, rfl, by decide, by decide, inT8, tyX8_ok, nmX8, rfl, by decide +kernel⟩, TB_in (tb1_in 233 rfl) rfl⟩
set_option maxRecDepth 100000 in
theorem fl_RX8_166 : FL RX8 166 6 8 (.int) false := ⟨"BalloonGrocers$Valley", "shopCount", "I", ⟨TX6, 19, tyX6, rfl, by decide, by decide, inT6, tyX6_ok, nmX6, rfl, by decide +kernel⟩, TB_in (tb1_in 147 rfl) rfl⟩
set_option maxRecDepth 100000 in
theorem fl_RX8_218 : FL RX8 218 6 3 (.int) false := ⟨"BalloonGrocers$Valley", "layers", "I", ⟨TX6, 19, tyX6, rfl, by decide, by decide, inT6, tyX6_ok, nmX6, rfl, by decide +kernel⟩, TB_in (tb1_in 126 rfl) rfl⟩
set_option maxRecDepth 100000 in
theorem fl_RX8_23 : FL RX8 23 8 2 (.object "BalloonGrocers$Voyage") true := ⟨"BalloonGrocers", "planned", "LBalloonGrocers$Voyage;", ⟨TX8, 13, tyX8, rfl, by decide, by decide, inT8, tyX8_ok, nmX8, rfl, by decide +kernel⟩, TB_in (tb1_in 234 rfl) rfl⟩
set_option maxRecDepth 100000 in
theorem fl_RX8_252 : FL RX8 252 6 9 (.int) false := ⟨"BalloonGrocers$Valley", "doorCount", "I", ⟨TX6, 19, tyX6, rfl, by decide, by decide, inT6, tyX6_ok, nmX6, rfl, by decide +kernel⟩, TB_in (tb1_in 152 rfl) rfl⟩
set_option maxRecDepth 100000 in
theorem fl_RX8_262 : FL RX8 262 6 10 (.int) false := ⟨"BalloonGrocers$Valley", "fairColumn", "I", ⟨TX6, 19, tyX6, rfl, by decide, by decide, inT6, tyX6_ok, nmX6, rfl, by decide +kernel⟩, TB_in (tb1_in 156 rfl) rfl⟩
set_option maxRecDepth 100000 in
theorem fl_RX8_27 : FL RX8 27 8 3 (.object "BalloonGrocers$Voyage") true := ⟨"BalloonGrocers", "trial", "LBalloonGrocers$Voyage;", ⟨TX8, 13, tyX8, rfl, by decide, by decide, inT8, tyX8_ok, nmX8, rfl, by decide +kernel⟩, TB_in (tb1_in 235 rfl) rfl⟩
set_option maxRecDepth 100000 in
theorem fl_RX8_295 : FL RX8 295 6 1 (.int) false := ⟨"BalloonGrocers$Valley", "wide", "I", ⟨TX6, 19, tyX6, rfl, by decide, by decide, inT6, tyX6_ok, nmX6, rfl, by decide +kernel⟩, TB_in (tb1_in 117 rfl) rfl⟩
set_option maxRecDepth 100000 in
theorem fl_RX8_298 : FL RX8 298 6 2 (.int) false := ⟨"BalloonGrocers$Valley", "deep", "I", ⟨TX6, 19, tyX6, rfl, by decide, by decide, inT6, tyX6_ok, nmX6, rfl, by decide +kernel⟩, TB_in (tb1_in 120 rfl) rfl⟩
set_option maxRecDepth 100000 in
theorem fl_RX8_305 : FN RX8 305 5 1 (.int) false := ⟨"BalloonGrocers$Row", "size", "I", "BalloonGrocers", ⟨TX5, 3, tyX5, rfl, by decide, by decide, inT5, tyX5_ok, nmX5, rfl, by decide +kernel⟩, NB1_in 221 rfl rfl⟩
set_option maxRecDepth 100000 in
theorem fl_RX8_32 : FL RX8 32 8 4 (.array (.object "BalloonGrocers$Valley")) true := ⟨"BalloonGrocers", "images", "[LBalloonGrocers$Valley;", ⟨TX8, 13, tyX8, rfl, by decide, by decide, inT8, tyX8_ok, nmX8, rfl, by decide +kernel⟩, TB_in (tb1_in 236 rfl) rfl⟩
set_option maxRecDepth 100000 in
theorem fl_RX8_322 : FL RX8 322 6 6 (.int) false := ⟨"BalloonGrocers$Valley", "reach", "I", ⟨TX6, 19, tyX6, rfl, by decide, by decide, inT6, tyX6_ok, nmX6, rfl, by decide +kernel⟩, TB_in (tb1_in 140 rfl) rfl⟩
set_option maxRecDepth 100000 in
theorem fl_RX8_337 : FL RX8 337 6 5 (.int) false := ⟨"BalloonGrocers$Valley", "cools", "I", ⟨TX6, 19, tyX6, rfl, by decide, by decide, inT6, tyX6_ok, nmX6, rfl, by decide +kernel⟩, TB_in (tb1_in 135 rfl) rfl⟩
set_option maxRecDepth 100000 in
theorem fl_RX8_357 : FL RX8 357 6 15 (.array (.int)) true := ⟨"BalloonGrocers$Valley", "shopFacts", "[I", ⟨TX6, 19, tyX6, rfl, by decide, by decide, inT6, tyX6_ok, nmX6, rfl, by decide +kernel⟩, TB_in (tb1_in 170 rfl) rfl⟩
set_option maxRecDepth 100000 in
theorem fl_RX8_36 : FL RX8 36 8 5 (.array (.boolean)) true := ⟨"BalloonGrocers", "kept", "[Z", ⟨TX8, 13, tyX8, rfl, by decide, by decide, inT8, tyX8_ok, nmX8, rfl, by decide +kernel⟩, TB_in (tb1_in 237 rfl) rfl⟩
set_option maxRecDepth 100000 in
theorem fl_RX8_361 : FL RX8 361 6 14 (.array (.int)) true := ⟨"BalloonGrocers$Valley", "winds", "[I", ⟨TX6, 19, tyX6, rfl, by decide, by decide, inT6, tyX6_ok, nmX6, rfl, by decide +kernel⟩, TB_in (tb1_in 167 rfl) rfl⟩
set_option maxRecDepth 100000 in
theorem fl_RX8_370 : FL RX8 370 6 7 (.int) false := ⟨"BalloonGrocers$Valley", "fee", "I", ⟨TX6, 19, tyX6, rfl, by decide, by decide, inT6, tyX6_ok, nmX6, rfl, by decide +kernel⟩, TB_in (tb1_in 143 rfl) rfl⟩
set_option maxRecDepth 100000 in
theorem fl_RX8_393 : FN RX8 393 5 2 (.int) false := ⟨"BalloonGrocers$Row", "width", "I", "BalloonGrocers", ⟨TX5, 3, tyX5, rfl, by decide, by decide, inT5, tyX5_ok, nmX5, rfl, by decide +kernel⟩, NB1_in 223 rfl rfl⟩
set_option maxRecDepth 100000 in
theorem fl_RX8_400 : FL RX8 400 8 9 (.object "BalloonGrocers$Roamer") false := ⟨"BalloonGrocers", "roamer", "LBalloonGrocers$Roamer;", ⟨TX8, 13, tyX8, rfl, by decide, by decide, inT8, tyX8_ok, nmX8, rfl, by decide +kernel⟩, TB_in (tb2_in 1 rfl) rfl⟩
set_option maxRecDepth 100000 in
theorem fl_RX8_42 : FL RX8 42 8 6 (.array (.object "BalloonGrocers$Row")) true := ⟨"BalloonGrocers", "rows", "[LBalloonGrocers$Row;", ⟨TX8, 13, tyX8, rfl, by decide, by decide, inT8, tyX8_ok, nmX8, rfl, by decide +kernel⟩, TB_in (tb1_in 238 rfl) rfl⟩
set_option maxRecDepth 100000 in
theorem fl_RX8_47 : FL RX8 47 8 7 (.object "BalloonGrocers$Valley") false := ⟨"BalloonGrocers", "now", "LBalloonGrocers$Valley;", ⟨TX8, 13, tyX8, rfl, by decide, by decide, inT8, tyX8_ok, nmX8, rfl, by decide +kernel⟩, TB_in (tb1_in 239 rfl) rfl⟩
set_option maxRecDepth 100000 in
theorem fl_RX8_51 : FL RX8 51 8 8 (.object "BalloonGrocers$Valley") false := ⟨"BalloonGrocers", "spare", "LBalloonGrocers$Valley;", ⟨TX8, 13, tyX8, rfl, by decide, by decide, inT8, tyX8_ok, nmX8, rfl, by decide +kernel⟩, TB_in (tb2_in 0 rfl) rfl⟩
set_option maxRecDepth 100000 in
theorem fl_RX8_54 : FL RX8 54 8 12 (.int) false := ⟨"BalloonGrocers", "era", "I", ⟨TX8, 13, tyX8, rfl, by decide, by decide, inT8, tyX8_ok, nmX8, rfl, by decide +kernel⟩, TB_in (tb2_in 4 rfl) rfl⟩
set_option maxRecDepth 100000 in
theorem fl_RX8_59 : FL RX8 59 8 10 (.int) false := ⟨"BalloonGrocers", "tapeLength", "I", ⟨TX8, 13, tyX8, rfl, by decide, by decide, inT8, tyX8_ok, nmX8, rfl, by decide +kernel⟩, TB_in (tb2_in 2 rfl) rfl⟩
set_option maxRecDepth 100000 in
theorem fl_RX8_73 : FL RX8 73 6 0 (.int) false := ⟨"BalloonGrocers$Valley", "lines", "I", ⟨TX6, 19, tyX6, rfl, by decide, by decide, inT6, tyX6_ok, nmX6, rfl, by decide +kernel⟩, TB_in (tb1_in 114 rfl) rfl⟩
set_option maxRecDepth 100000 in
theorem fl_RX8_76 : FL RX8 76 3 0 (.int) false := ⟨"BalloonGrocers$Reader", "faultKind", "I", ⟨TX3, 10, tyX3, rfl, by decide, by decide, inT3, tyX3_ok, nmX3, rfl, by decide +kernel⟩, TB_in (tb1_in 34 rfl) rfl⟩
set_option maxRecDepth 100000 in
theorem fl_RX8_79 : FL RX8 79 3 1 (.int) false := ⟨"BalloonGrocers$Reader", "faultPlace", "I", ⟨TX3, 10, tyX3, rfl, by decide, by decide, inT3, tyX3_ok, nmX3, rfl, by decide +kernel⟩, TB_in (tb1_in 36 rfl) rfl⟩
set_option maxRecDepth 100000 in
theorem fl_RX8_9 : FL RX8 9 8 0 (.array (.byte)) true := ⟨"BalloonGrocers", "tape", "[B", ⟨TX8, 13, tyX8, rfl, by decide, by decide, inT8, tyX8_ok, nmX8, rfl, by decide +kernel⟩, TB_in (tb1_in 232 rfl) rfl⟩
set_option maxRecDepth 100000 in
theorem fl_RX8_96 : FL RX8 96 6 4 (.int) false := ⟨"BalloonGrocers$Valley", "hours", "I", ⟨TX6, 19, tyX6, rfl, by decide, by decide, inT6, tyX6_ok, nmX6, rfl, by decide +kernel⟩, TB_in (tb1_in 131 rfl) rfl⟩
set_option maxRecDepth 100000 in
theorem fl_RX9_109 : FL RX9 109 9 6 (.int) false := ⟨"BalloonGrocersModel", "taped", "I", ⟨TX9, 52, tyX9, rfl, by decide, by decide, inT9, tyX9_ok, nmX9, rfl, by decide +kernel⟩, TB_in (tb6_in 200 rfl) rfl⟩
set_option maxRecDepth 100000 in
theorem fl_RX9_116 : FL RX9 116 9 7 (.int) false := ⟨"BalloonGrocersModel", "at", "I", ⟨TX9, 52, tyX9, rfl, by decide, by decide, inT9, tyX9_ok, nmX9, rfl, by decide +kernel⟩, TB_in (tb6_in 201 rfl) rfl⟩
set_option maxRecDepth 100000 in
theorem fl_RX9_123 : FL RX9 123 9 9 (.int) false := ⟨"BalloonGrocersModel", "place", "I", ⟨TX9, 52, tyX9, rfl, by decide, by decide, inT9, tyX9_ok, nmX9, rfl, by decide +kernel⟩, TB_in (tb6_in 203 rfl) rfl⟩
set_option maxRecDepth 100000 in
theorem fl_RX9_126 : FL RX9 126 9 10 (.int) false := ⟨"BalloonGrocersModel", "value", "I", ⟨TX9, 52, tyX9, rfl, by decide, by decide, inT9, tyX9_ok, nmX9, rfl, by decide +kernel⟩, TB_in (tb6_in 204 rfl) rfl⟩
set_option maxRecDepth 100000 in
theorem fl_RX9_129 : FL RX9 129 9 11 (.long) false := ⟨"BalloonGrocersModel", "word", "J", ⟨TX9, 52, tyX9, rfl, by decide, by decide, inT9, tyX9_ok, nmX9, rfl, by decide +kernel⟩, TB_in (tb6_in 205 rfl) rfl⟩
set_option maxRecDepth 100000 in
theorem fl_RX9_13 : FL RX9 13 9 2 (.array (.int)) true := ⟨"BalloonGrocersModel", "many", "[I", ⟨TX9, 52, tyX9, rfl, by decide, by decide, inT9, tyX9_ok, nmX9, rfl, by decide +kernel⟩, TB_in (tb6_in 196 rfl) rfl⟩
set_option maxRecDepth 100000 in
theorem fl_RX9_133 : FL RX9 133 9 8 (.int) false := ⟨"BalloonGrocersModel", "token", "I", ⟨TX9, 52, tyX9, rfl, by decide, by decide, inT9, tyX9_ok, nmX9, rfl, by decide +kernel⟩, TB_in (tb6_in 202 rfl) rfl⟩
set_option maxRecDepth 100000 in
theorem fl_RX9_144 : FL RX9 144 9 12 (.int) false := ⟨"BalloonGrocersModel", "bad", "I", ⟨TX9, 52, tyX9, rfl, by decide, by decide, inT9, tyX9_ok, nmX9, rfl, by decide +kernel⟩, TB_in (tb6_in 206 rfl) rfl⟩
set_option maxRecDepth 100000 in
theorem fl_RX9_147 : FL RX9 147 9 13 (.int) false := ⟨"BalloonGrocersModel", "badPlace", "I", ⟨TX9, 52, tyX9, rfl, by decide, by decide, inT9, tyX9_ok, nmX9, rfl, by decide +kernel⟩, TB_in (tb6_in 207 rfl) rfl⟩
set_option maxRecDepth 100000 in
theorem fl_RX9_16 : FL RX9 16 9 3 (.array (.long)) true := ⟨"BalloonGrocersModel", "cells", "[J", ⟨TX9, 52, tyX9, rfl, by decide, by decide, inT9, tyX9_ok, nmX9, rfl, by decide +kernel⟩, TB_in (tb6_in 197 rfl) rfl⟩
set_option maxRecDepth 100000 in
theorem fl_RX9_171 : FL RX9 171 9 14 (.int) false := ⟨"BalloonGrocersModel", "fault", "I", ⟨TX9, 52, tyX9, rfl, by decide, by decide, inT9, tyX9_ok, nmX9, rfl, by decide +kernel⟩, TB_in (tb6_in 208 rfl) rfl⟩
set_option maxRecDepth 100000 in
theorem fl_RX9_20 : FL RX9 20 9 4 (.array (.long)) true := ⟨"BalloonGrocersModel", "moved", "[J", ⟨TX9, 52, tyX9, rfl, by decide, by decide, inT9, tyX9_ok, nmX9, rfl, by decide +kernel⟩, TB_in (tb6_in 198 rfl) rfl⟩
set_option maxRecDepth 100000 in
theorem fl_RX9_213 : FL RX9 213 9 20 (.int) false := ⟨"BalloonGrocersModel", "windLines", "I", ⟨TX9, 52, tyX9, rfl, by decide, by decide, inT9, tyX9_ok, nmX9, rfl, by decide +kernel⟩, TB_in (tb6_in 214 rfl) rfl⟩
set_option maxRecDepth 100000 in
theorem fl_RX9_23 : FL RX9 23 9 5 (.array (.byte)) true := ⟨"BalloonGrocersModel", "tape", "[B", ⟨TX9, 52, tyX9, rfl, by decide, by decide, inT9, tyX9_ok, nmX9, rfl, by decide +kernel⟩, TB_in (tb6_in 199 rfl) rfl⟩
set_option maxRecDepth 100000 in
theorem fl_RX9_27 : FL RX9 27 9 15 (.int) false := ⟨"BalloonGrocersModel", "faultPlace", "I", ⟨TX9, 52, tyX9, rfl, by decide, by decide, inT9, tyX9_ok, nmX9, rfl, by decide +kernel⟩, TB_in (tb6_in 209 rfl) rfl⟩
set_option maxRecDepth 100000 in
theorem fl_RX9_31 : FL RX9 31 9 16 (.array (.int)) true := ⟨"BalloonGrocersModel", "lines", "[I", ⟨TX9, 52, tyX9, rfl, by decide, by decide, inT9, tyX9_ok, nmX9, rfl, by decide +kernel⟩, TB_in (tb6_in 210 rfl) rfl⟩
set_option maxRecDepth 100000 in
theorem fl_RX9_325 : FL RX9 325 9 26 (.int) false := ⟨"BalloonGrocersModel", "toX", "I", ⟨TX9, 52, tyX9, rfl, by decide, by decide, inT9, tyX9_ok, nmX9, rfl, by decide +kernel⟩, TB_in (tb6_in 220 rfl) rfl⟩
set_option maxRecDepth 100000 in
theorem fl_RX9_328 : FL RX9 328 9 27 (.int) false := ⟨"BalloonGrocersModel", "toY", "I", ⟨TX9, 52, tyX9, rfl, by decide, by decide, inT9, tyX9_ok, nmX9, rfl, by decide +kernel⟩, TB_in (tb6_in 221 rfl) rfl⟩
set_option maxRecDepth 100000 in
theorem fl_RX9_335 : FL RX9 335 9 33 (.boolean) false := ⟨"BalloonGrocersModel", "noCool", "Z", ⟨TX9, 52, tyX9, rfl, by decide, by decide, inT9, tyX9_ok, nmX9, rfl, by decide +kernel⟩, TB_in (tb6_in 227 rfl) rfl⟩
set_option maxRecDepth 100000 in
theorem fl_RX9_339 : FL RX9 339 9 34 (.boolean) false := ⟨"BalloonGrocersModel", "noWind", "Z", ⟨TX9, 52, tyX9, rfl, by decide, by decide, inT9, tyX9_ok, nmX9, rfl, by decide +kernel⟩, TB_in (tb6_in 228 rfl) rfl⟩
set_option maxRecDepth 100000 in
theorem fl_RX9_34 : FL RX9 34 9 17 (.array (.int)) true := ⟨"BalloonGrocersModel", "has", "[I", ⟨TX9, 52, tyX9, rfl, by decide, by decide, inT9, tyX9_ok, nmX9, rfl, by decide +kernel⟩, TB_in (tb6_in 211 rfl) rfl⟩
set_option maxRecDepth 100000 in
theorem fl_RX9_342 : FL RX9 342 9 35 (.boolean) false := ⟨"BalloonGrocersModel", "isGusty", "Z", ⟨TX9, 52, tyX9, rfl, by decide, by decide, inT9, tyX9_ok, nmX9, rfl, by decide +kernel⟩, TB_in (tb6_in 229 rfl) rfl⟩
set_option maxRecDepth 100000 in
theorem fl_RX9_345 : FL RX9 345 9 36 (.int) false := ⟨"BalloonGrocersModel", "reachMore", "I", ⟨TX9, 52, tyX9, rfl, by decide, by decide, inT9, tyX9_ok, nmX9, rfl, by decide +kernel⟩, TB_in (tb6_in 230 rfl) rfl⟩
set_option maxRecDepth 100000 in
theorem fl_RX9_348 : FL RX9 348 9 37 (.int) false := ⟨"BalloonGrocersModel", "sandMore", "I", ⟨TX9, 52, tyX9, rfl, by decide, by decide, inT9, tyX9_ok, nmX9, rfl, by decide +kernel⟩, TB_in (tb6_in 231 rfl) rfl⟩
set_option maxRecDepth 100000 in
theorem fl_RX9_351 : FL RX9 351 9 38 (.int) false := ⟨"BalloonGrocersModel", "gasMore", "I", ⟨TX9, 52, tyX9, rfl, by decide, by decide, inT9, tyX9_ok, nmX9, rfl, by decide +kernel⟩, TB_in (tb6_in 232 rfl) rfl⟩
set_option maxRecDepth 100000 in
theorem fl_RX9_37 : FL RX9 37 9 18 (.array (.int)) true := ⟨"BalloonGrocersModel", "wind", "[I", ⟨TX9, 52, tyX9, rfl, by decide, by decide, inT9, tyX9_ok, nmX9, rfl, by decide +kernel⟩, TB_in (tb6_in 212 rfl) rfl⟩
set_option maxRecDepth 100000 in
theorem fl_RX9_40 : FL RX9 40 9 19 (.array (.int)) true := ⟨"BalloonGrocersModel", "since", "[I", ⟨TX9, 52, tyX9, rfl, by decide, by decide, inT9, tyX9_ok, nmX9, rfl, by decide +kernel⟩, TB_in (tb6_in 213 rfl) rfl⟩
set_option maxRecDepth 100000 in
theorem fl_RX9_405 : FL RX9 405 9 42 (.int) false := ⟨"BalloonGrocersModel", "fx", "I", ⟨TX9, 52, tyX9, rfl, by decide, by decide, inT9, tyX9_ok, nmX9, rfl, by decide +kernel⟩, TB_in (tb6_in 236 rfl) rfl⟩
set_option maxRecDepth 100000 in
theorem fl_RX9_408 : FL RX9 408 9 43 (.int) false := ⟨"BalloonGrocersModel", "fy", "I", ⟨TX9, 52, tyX9, rfl, by decide, by decide, inT9, tyX9_ok, nmX9, rfl, by decide +kernel⟩, TB_in (tb6_in 237 rfl) rfl⟩
set_option maxRecDepth 100000 in
theorem fl_RX9_411 : FL RX9 411 9 44 (.int) false := ⟨"BalloonGrocersModel", "fl", "I", ⟨TX9, 52, tyX9, rfl, by decide, by decide, inT9, tyX9_ok, nmX9, rfl, by decide +kernel⟩, TB_in (tb6_in 238 rfl) rfl⟩
set_option maxRecDepth 100000 in
theorem fl_RX9_414 : FL RX9 414 9 45 (.int) false := ⟨"BalloonGrocersModel", "fs", "I", ⟨TX9, 52, tyX9, rfl, by decide, by decide, inT9, tyX9_ok, nmX9, rfl, by decide +kernel⟩, TB_in (tb6_in 239 rfl) rfl⟩
set_option maxRecDepth 100000 in
theorem fl_RX9_417 : FL RX9 417 9 46 (.int) false := ⟨"BalloonGrocersModel", "fg", "I", ⟨TX9, 52, tyX9, rfl, by decide, by decide, inT9, tyX9_ok, nmX9, rfl, by decide +kernel⟩, TB_in (tb7_in 0 rfl) rfl⟩
set_option maxRecDepth 100000 in
theorem fl_RX9_420 : FL RX9 420 9 47 (.int) false := ⟨"BalloonGrocersModel", "fm", "I", ⟨TX9, 52, tyX9, rfl, by decide, by decide, inT9, tyX9_ok, nmX9, rfl, by decide +kernel⟩, TB_in (tb7_in 1 rfl) rfl⟩
set_option maxRecDepth 100000 in
theorem fl_RX9_423 : FL RX9 423 9 48 (.int) false := ⟨"BalloonGrocersModel", "counted", "I", ⟨TX9, 52, tyX9, rfl, by decide, by decide, inT9, tyX9_ok, nmX9, rfl, by decide +kernel⟩, TB_in (tb7_in 2 rfl) rfl⟩
set_option maxRecDepth 100000 in
theorem fl_RX9_43 : FL RX9 43 9 21 (.array (.int)) true := ⟨"BalloonGrocersModel", "shop", "[I", ⟨TX9, 52, tyX9, rfl, by decide, by decide, inT9, tyX9_ok, nmX9, rfl, by decide +kernel⟩, TB_in (tb6_in 215 rfl) rfl⟩
set_option maxRecDepth 100000 in
theorem fl_RX9_46 : FL RX9 46 9 22 (.array (.int)) true := ⟨"BalloonGrocersModel", "door", "[I", ⟨TX9, 52, tyX9, rfl, by decide, by decide, inT9, tyX9_ok, nmX9, rfl, by decide +kernel⟩, TB_in (tb6_in 216 rfl) rfl⟩
set_option maxRecDepth 100000 in
theorem fl_RX9_49 : FL RX9 49 9 23 (.array (.int)) true := ⟨"BalloonGrocersModel", "plan", "[I", ⟨TX9, 52, tyX9, rfl, by decide, by decide, inT9, tyX9_ok, nmX9, rfl, by decide +kernel⟩, TB_in (tb6_in 217 rfl) rfl⟩
set_option maxRecDepth 100000 in
theorem fl_RX9_52 : FL RX9 52 9 24 (.array (.int)) true := ⟨"BalloonGrocersModel", "change", "[I", ⟨TX9, 52, tyX9, rfl, by decide, by decide, inT9, tyX9_ok, nmX9, rfl, by decide +kernel⟩, TB_in (tb6_in 218 rfl) rfl⟩
set_option maxRecDepth 100000 in
theorem fl_RX9_55 : FL RX9 55 9 25 (.array (.boolean)) true := ⟨"BalloonGrocersModel", "isKept", "[Z", ⟨TX9, 52, tyX9, rfl, by decide, by decide, inT9, tyX9_ok, nmX9, rfl, by decide +kernel⟩, TB_in (tb6_in 219 rfl) rfl⟩
set_option maxRecDepth 100000 in
theorem fl_RX9_59 : FL RX9 59 9 28 (.array (.int)) true := ⟨"BalloonGrocersModel", "spot", "[I", ⟨TX9, 52, tyX9, rfl, by decide, by decide, inT9, tyX9_ok, nmX9, rfl, by decide +kernel⟩, TB_in (tb6_in 222 rfl) rfl⟩
set_option maxRecDepth 100000 in
theorem fl_RX9_62 : FL RX9 62 9 29 (.array (.int)) true := ⟨"BalloonGrocersModel", "whyNot", "[I", ⟨TX9, 52, tyX9, rfl, by decide, by decide, inT9, tyX9_ok, nmX9, rfl, by decide +kernel⟩, TB_in (tb6_in 223 rfl) rfl⟩
set_option maxRecDepth 100000 in
theorem fl_RX9_65 : FL RX9 65 9 30 (.array (.boolean)) true := ⟨"BalloonGrocersModel", "isBlown", "[Z", ⟨TX9, 52, tyX9, rfl, by decide, by decide, inT9, tyX9_ok, nmX9, rfl, by decide +kernel⟩, TB_in (tb6_in 224 rfl) rfl⟩
set_option maxRecDepth 100000 in
theorem fl_RX9_68 : FL RX9 68 9 31 (.array (.int)) true := ⟨"BalloonGrocersModel", "soldTo", "[I", ⟨TX9, 52, tyX9, rfl, by decide, by decide, inT9, tyX9_ok, nmX9, rfl, by decide +kernel⟩, TB_in (tb6_in 225 rfl) rfl⟩
set_option maxRecDepth 100000 in
theorem fl_RX9_7 : FL RX9 7 9 1 (.array (.int)) true := ⟨"BalloonGrocersModel", "width", "[I", ⟨TX9, 52, tyX9, rfl, by decide, by decide, inT9, tyX9_ok, nmX9, rfl, by decide +kernel⟩, TB_in (tb6_in 195 rfl) rfl⟩
set_option maxRecDepth 100000 in
theorem fl_RX9_71 : FL RX9 71 9 32 (.array (.int)) true := ⟨"BalloonGrocersModel", "wants", "[I", ⟨TX9, 52, tyX9, rfl, by decide, by decide, inT9, tyX9_ok, nmX9, rfl, by decide +kernel⟩, TB_in (tb6_in 226 rfl) rfl⟩
set_option maxRecDepth 100000 in
theorem fl_RX9_74 : FL RX9 74 9 39 (.array (.boolean)) true := ⟨"BalloonGrocersModel", "gusts", "[Z", ⟨TX9, 52, tyX9, rfl, by decide, by decide, inT9, tyX9_ok, nmX9, rfl, by decide +kernel⟩, TB_in (tb6_in 233 rfl) rfl⟩
set_option maxRecDepth 100000 in
theorem fl_RX9_77 : FL RX9 77 9 40 (.array (.long)) true := ⟨"BalloonGrocersModel", "set", "[J", ⟨TX9, 52, tyX9, rfl, by decide, by decide, inT9, tyX9_ok, nmX9, rfl, by decide +kernel⟩, TB_in (tb6_in 234 rfl) rfl⟩
set_option maxRecDepth 100000 in
theorem fl_RX9_80 : FL RX9 80 9 41 (.array (.long)) true := ⟨"BalloonGrocersModel", "then", "[J", ⟨TX9, 52, tyX9, rfl, by decide, by decide, inT9, tyX9_ok, nmX9, rfl, by decide +kernel⟩, TB_in (tb6_in 235 rfl) rfl⟩
set_option maxRecDepth 100000 in
theorem fl_RX9_83 : FL RX9 83 9 49 (.array (.long)) true := ⟨"BalloonGrocersModel", "rows", "[J", ⟨TX9, 52, tyX9, rfl, by decide, by decide, inT9, tyX9_ok, nmX9, rfl, by decide +kernel⟩, TB_in (tb7_in 3 rfl) rfl⟩
set_option maxRecDepth 100000 in
theorem fl_RX9_86 : FL RX9 86 9 50 (.array (.long)) true := ⟨"BalloonGrocersModel", "rowsThen", "[J", ⟨TX9, 52, tyX9, rfl, by decide, by decide, inT9, tyX9_ok, nmX9, rfl, by decide +kernel⟩, TB_in (tb7_in 4 rfl) rfl⟩
set_option maxRecDepth 100000 in
theorem fl_RX9_89 : FL RX9 89 9 51 (.array (.boolean)) true := ⟨"BalloonGrocersModel", "canBe", "[Z", ⟨TX9, 52, tyX9, rfl, by decide, by decide, inT9, tyX9_ok, nmX9, rfl, by decide +kernel⟩, TB_in (tb7_in 5 rfl) rfl⟩
set_option maxRecDepth 100000 in
theorem fl_RX9_92 : FL RX9 92 9 0 (.int) false := ⟨"BalloonGrocersModel", "thrown", "I", ⟨TX9, 52, tyX9, rfl, by decide, by decide, inT9, tyX9_ok, nmX9, rfl, by decide +kernel⟩, TB_in (tb6_in 194 rfl) rfl⟩
set_option maxRecDepth 100000 in
theorem ml_RL_101 : Cond.methodLink RL 101 yX9_meets ∈ TB := TB_in (tb8_in 207 rfl) rfl
set_option maxRecDepth 100000 in
theorem ml_RL_102 : Cond.methodLink RL 102 yX8_over ∈ TB := TB_in (tb4_in 1 rfl) rfl
set_option maxRecDepth 100000 in
theorem ml_RL_105 : Cond.methodLink RL 105 yX9_over ∈ TB := TB_in (tb8_in 215 rfl) rfl
set_option maxRecDepth 100000 in
theorem ml_RL_106 : Cond.methodLink RL 106 yX8_grounded ∈ TB := TB_in (tb4_in 7 rfl) rfl
set_option maxRecDepth 100000 in
theorem ml_RL_109 : Cond.methodLink RL 109 yX9_grounded ∈ TB := TB_in (tb8_in 219 rfl) rfl
set_option maxRecDepth 100000 in
theorem ml_RL_110 : Cond.methodLink RL 110 yX8_least ∈ TB := TB_in (tb4_in 11 rfl) rfl
set_option maxRecDepth 100000 in
theorem ml_RL_114 : Cond.methodLink RL 114 yX9_least ∈ TB := TB_in (tb8_in 223 rfl) rfl
set_option maxRecDepth 100000 in
theorem ml_RL_115 : Cond.methodLink RL 115 yX8_soonest ∈ TB := TB_in (tb5_in 15 rfl) rfl
set_option maxRecDepth 100000 in
theorem ml_RL_118 : Cond.methodLink RL 118 yX9_soonest ∈ TB := TB_in (tb9_in 35 rfl) rfl
set_option maxRecDepth 100000 in
theorem ml_RL_119 : Cond.methodLink RL 119 yX8_way ∈ TB := TB_in (tb5_in 23 rfl) rfl
set_option maxRecDepth 100000 in
theorem ml_RL_12 : Cond.methodLink RL 12 yX9_init ∈ TB := TB_in (tb6_in 190 rfl) rfl
set_option maxRecDepth 100000 in
theorem ml_RL_122 : Cond.methodLink RL 122 yX9_way ∈ TB := TB_in (tb9_in 43 rfl) rfl
set_option maxRecDepth 100000 in
theorem ml_RL_123 : Cond.methodLink RL 123 yX8_spots ∈ TB := TB_in (tb5_in 103 rfl) rfl
set_option maxRecDepth 100000 in
theorem ml_RL_126 : Cond.methodLink RL 126 yX9_spots ∈ TB := TB_in (tb9_in 51 rfl) rfl
set_option maxRecDepth 100000 in
theorem ml_RL_127 : Cond.methodLink RL 127 yX8_columns ∈ TB := TB_in (tb5_in 117 rfl) rfl
set_option maxRecDepth 100000 in
theorem ml_RL_13 : Cond.methodLink RL 13 yX8_feed ∈ TB := TB_in (tb2_in 32 rfl) rfl
set_option maxRecDepth 100000 in
theorem ml_RL_130 : Cond.methodLink RL 130 yX9_columns ∈ TB := TB_in (tb9_in 63 rfl) rfl
set_option maxRecDepth 100000 in
theorem ml_RL_131 : Cond.methodLink RL 131 yX8_ways ∈ TB := TB_in (tb5_in 121 rfl) rfl
set_option maxRecDepth 100000 in
theorem ml_RL_135 : Cond.methodLink RL 135 yX9_ways ∈ TB := TB_in (tb9_in 67 rfl) rfl
set_option maxRecDepth 100000 in
theorem ml_RL_136 : Cond.methodLink RL 136 yX8_tour ∈ TB := TB_in (tb5_in 130 rfl) rfl
set_option maxRecDepth 100000 in
theorem ml_RL_139 : Cond.methodLink RL 139 yX9_tour ∈ TB := TB_in (tb9_in 100 rfl) rfl
set_option maxRecDepth 100000 in
theorem ml_RL_140 : Cond.methodLink RL 140 yX8_done ∈ TB := TB_in (tb5_in 163 rfl) rfl
set_option maxRecDepth 100000 in
theorem ml_RL_143 : Cond.methodLink RL 143 yX9_done ∈ TB := TB_in (tb9_in 112 rfl) rfl
set_option maxRecDepth 100000 in
theorem ml_RL_144 : Cond.methodLink RL 144 yX8_doors ∈ TB := TB_in (tb5_in 171 rfl) rfl
set_option maxRecDepth 100000 in
theorem ml_RL_147 : Cond.methodLink RL 147 yX9_doors ∈ TB := TB_in (tb9_in 116 rfl) rfl
set_option maxRecDepth 100000 in
theorem ml_RL_148 : Cond.methodLink RL 148 yX8_fair ∈ TB := TB_in (tb5_in 188 rfl) rfl
set_option maxRecDepth 100000 in
theorem ml_RL_151 : Cond.methodLink RL 151 yX9_fair ∈ TB := TB_in (tb9_in 84 rfl) rfl
set_option maxRecDepth 100000 in
theorem ml_RL_152 : Cond.methodLink RL 152 yX8_aloft ∈ TB := TB_in (tb5_in 200 rfl) rfl
set_option maxRecDepth 100000 in
theorem ml_RL_155 : Cond.methodLink RL 155 yX9_aloft ∈ TB := TB_in (tb9_in 92 rfl) rfl
set_option maxRecDepth 100000 in
theorem ml_RL_156 : Cond.methodLink RL 156 yX8_lasts ∈ TB := TB_in (tb5_in 208 rfl) rfl
set_option maxRecDepth 100000 in
theorem ml_RL_159 : Cond.methodLink RL 159 yX9_lasts ∈ TB := TB_in (tb9_in 96 rfl) rfl
set_option maxRecDepth 100000 in
theorem ml_RL_160 : Cond.methodLink RL 160 yX8_meet ∈ TB := TB_in (tb5_in 212 rfl) rfl
set_option maxRecDepth 100000 in
theorem ml_RL_163 : Cond.methodLink RL 163 yX9_meet ∈ TB := TB_in (tb9_in 124 rfl) rfl
set_option maxRecDepth 100000 in
theorem ml_RL_164 : Cond.methodLink RL 164 yX8_rope ∈ TB := TB_in (tb5_in 231 rfl) rfl
set_option maxRecDepth 100000 in
theorem ml_RL_167 : Cond.methodLink RL 167 yX9_rope ∈ TB := TB_in (tb9_in 144 rfl) rfl
set_option maxRecDepth 100000 in
theorem ml_RL_168 : Cond.methodLink RL 168 yX8_lands ∈ TB := TB_in (tb5_in 235 rfl) rfl
set_option maxRecDepth 100000 in
theorem ml_RL_17 : Cond.methodLink RL 17 yX9_feed ∈ TB := TB_in (tb7_in 133 rfl) rfl
set_option maxRecDepth 100000 in
theorem ml_RL_171 : Cond.methodLink RL 171 yX9_lands ∈ TB := TB_in (tb9_in 148 rfl) rfl
set_option maxRecDepth 100000 in
theorem ml_RL_172 : Cond.methodLink RL 172 yX8_who ∈ TB := TB_in (tb6_in 9 rfl) rfl
set_option maxRecDepth 100000 in
theorem ml_RL_175 : Cond.methodLink RL 175 yX9_who ∈ TB := TB_in (tb9_in 156 rfl) rfl
set_option maxRecDepth 100000 in
theorem ml_RL_176 : Cond.methodLink RL 176 yX8_first ∈ TB := TB_in (tb6_in 17 rfl) rfl
set_option maxRecDepth 100000 in
theorem ml_RL_179 : Cond.methodLink RL 179 yX9_first_ ∈ TB := TB_in (tb9_in 164 rfl) rfl
set_option maxRecDepth 100000 in
theorem ml_RL_18 : Cond.methodLink RL 18 yX8_end ∈ TB := TB_in (tb2_in 40 rfl) rfl
set_option maxRecDepth 100000 in
theorem ml_RL_180 : Cond.methodLink RL 180 yX8_suspects ∈ TB := TB_in (tb6_in 21 rfl) rfl
set_option maxRecDepth 100000 in
theorem ml_RL_183 : Cond.methodLink RL 183 yX9_suspects ∈ TB := TB_in (tb9_in 168 rfl) rfl
set_option maxRecDepth 100000 in
theorem ml_RL_184 : Cond.methodLink RL 184 yX8_drift ∈ TB := TB_in (tb6_in 25 rfl) rfl
set_option maxRecDepth 100000 in
theorem ml_RL_187 : Cond.methodLink RL 187 yX9_drift ∈ TB := TB_in (tb9_in 172 rfl) rfl
set_option maxRecDepth 100000 in
theorem ml_RL_188 : Cond.methodLink RL 188 yX8_whence ∈ TB := TB_in (tb6_in 37 rfl) rfl
set_option maxRecDepth 100000 in
theorem ml_RL_191 : Cond.methodLink RL 191 yX9_whence ∈ TB := TB_in (tb9_in 185 rfl) rfl
set_option maxRecDepth 100000 in
theorem ml_RL_192 : Cond.methodLink RL 192 yX8_smoke ∈ TB := TB_in (tb6_in 41 rfl) rfl
set_option maxRecDepth 100000 in
theorem ml_RL_195 : Cond.methodLink RL 195 yX9_smoke ∈ TB := TB_in (tb9_in 189 rfl) rfl
set_option maxRecDepth 100000 in
theorem ml_RL_196 : Cond.methodLink RL 196 yX8_kites ∈ TB := TB_in (tb6_in 64 rfl) rfl
set_option maxRecDepth 100000 in
theorem ml_RL_199 : Cond.methodLink RL 199 yX9_kites ∈ TB := TB_in (tb9_in 206 rfl) rfl
set_option maxRecDepth 100000 in
theorem ml_RL_200 : Cond.methodLink RL 200 yX8_known ∈ TB := TB_in (tb6_in 68 rfl) rfl
set_option maxRecDepth 100000 in
theorem ml_RL_203 : Cond.methodLink RL 203 yX9_known ∈ TB := TB_in (tb9_in 210 rfl) rfl
set_option maxRecDepth 100000 in
theorem ml_RL_204 : Cond.methodLink RL 204 yX8_price ∈ TB := TB_in (tb6_in 76 rfl) rfl
set_option maxRecDepth 100000 in
theorem ml_RL_207 : Cond.methodLink RL 207 yX9_price ∈ TB := TB_in (tb9_in 214 rfl) rfl
set_option maxRecDepth 100000 in
theorem ml_RL_208 : Cond.methodLink RL 208 yX8_worth ∈ TB := TB_in (tb6_in 81 rfl) rfl
set_option maxRecDepth 100000 in
theorem ml_RL_211 : Cond.methodLink RL 211 yX9_worth ∈ TB := TB_in (tb9_in 218 rfl) rfl
set_option maxRecDepth 100000 in
theorem ml_RL_212 : Cond.methodLink RL 212 yX8_best ∈ TB := TB_in (tb6_in 100 rfl) rfl
set_option maxRecDepth 100000 in
theorem ml_RL_215 : Cond.methodLink RL 215 yX9_best ∈ TB := TB_in (tb9_in 231 rfl) rfl
set_option maxRecDepth 100000 in
theorem ml_RL_216 : Cond.methodLink RL 216 yX8_other ∈ TB := TB_in (tb6_in 104 rfl) rfl
set_option maxRecDepth 100000 in
theorem ml_RL_219 : Cond.methodLink RL 219 yX9_other ∈ TB := TB_in (tb9_in 235 rfl) rfl
set_option maxRecDepth 100000 in
theorem ml_RL_22 : Cond.methodLink RL 22 yX9_end ∈ TB := TB_in (tb7_in 141 rfl) rfl
set_option maxRecDepth 100000 in
theorem ml_RL_220 : Cond.methodLink RL 220 yX8_load ∈ TB := TB_in (tb6_in 114 rfl) rfl
set_option maxRecDepth 100000 in
theorem ml_RL_223 : Cond.methodLink RL 223 yX9_load ∈ TB := TB_in (tb9_in 239 rfl) rfl
set_option maxRecDepth 100000 in
theorem ml_RL_224 : Cond.methodLink RL 224 yX8_turn ∈ TB := TB_in (tb6_in 118 rfl) rfl
set_option maxRecDepth 100000 in
theorem ml_RL_227 : Cond.methodLink RL 227 yX9_turn ∈ TB := TB_in (tb10_in 3 rfl) rfl
set_option maxRecDepth 100000 in
theorem ml_RL_228 : Cond.methodLink RL 228 yX8_gust ∈ TB := TB_in (tb6_in 122 rfl) rfl
set_option maxRecDepth 100000 in
theorem ml_RL_23 : Cond.methodLink RL 23 yX8_valley ∈ TB := TB_in (tb2_in 44 rfl) rfl
set_option maxRecDepth 100000 in
theorem ml_RL_231 : Cond.methodLink RL 231 yX9_gust ∈ TB := TB_in (tb10_in 7 rfl) rfl
set_option maxRecDepth 100000 in
theorem ml_RL_232 : Cond.methodLink RL 232 yX8_chance ∈ TB := TB_in (tb6_in 130 rfl) rfl
set_option maxRecDepth 100000 in
theorem ml_RL_236 : Cond.methodLink RL 236 yX9_chance ∈ TB := TB_in (tb10_in 24 rfl) rfl
set_option maxRecDepth 100000 in
theorem ml_RL_237 : Cond.methodLink RL 237 yX8_takings ∈ TB := TB_in (tb6_in 139 rfl) rfl
set_option maxRecDepth 100000 in
theorem ml_RL_240 : Cond.methodLink RL 240 yX9_takings ∈ TB := TB_in (tb10_in 29 rfl) rfl
set_option maxRecDepth 100000 in
theorem ml_RL_241 : Cond.methodLink RL 241 yX8_count ∈ TB := TB_in (tb6_in 143 rfl) rfl
set_option maxRecDepth 100000 in
theorem ml_RL_244 : Cond.methodLink RL 244 yX9_count ∈ TB := TB_in (tb10_in 33 rfl) rfl
set_option maxRecDepth 100000 in
theorem ml_RL_245 : Cond.methodLink RL 245 yX8_keep ∈ TB := TB_in (tb6_in 151 rfl) rfl
set_option maxRecDepth 100000 in
theorem ml_RL_248 : Cond.methodLink RL 248 yX9_keep ∈ TB := TB_in (tb10_in 38 rfl) rfl
set_option maxRecDepth 100000 in
theorem ml_RL_249 : Cond.methodLink RL 249 yX8_back ∈ TB := TB_in (tb6_in 155 rfl) rfl
set_option maxRecDepth 100000 in
theorem ml_RL_252 : Cond.methodLink RL 252 yX9_back ∈ TB := TB_in (tb10_in 42 rfl) rfl
set_option maxRecDepth 100000 in
theorem ml_RL_253 : Cond.methodLink RL 253 yX8_row ∈ TB := TB_in (tb6_in 159 rfl) rfl
set_option maxRecDepth 100000 in
theorem ml_RL_256 : Cond.methodLink RL 256 yX9_row ∈ TB := TB_in (tb7_in 111 rfl) rfl
set_option maxRecDepth 100000 in
theorem ml_RL_259 : Cond.methodLink RL 259 yX8_write ∈ TB := TB_in (tb6_in 167 rfl) rfl
set_option maxRecDepth 100000 in
theorem ml_RL_263 : Cond.methodLink RL 263 yX9_write ∈ TB := TB_in (tb7_in 122 rfl) rfl
set_option maxRecDepth 100000 in
theorem ml_RL_264 : Cond.methodLink RL 264 yX8_paste ∈ TB := TB_in (tb6_in 179 rfl) rfl
set_option maxRecDepth 100000 in
theorem ml_RL_267 : Cond.methodLink RL 267 yX9_paste ∈ TB := TB_in (tb7_in 129 rfl) rfl
set_option maxRecDepth 100000 in
theorem ml_RL_27 : Cond.methodLink RL 27 yX9_valley ∈ TB := TB_in (tb7_in 149 rfl) rfl
set_option maxRecDepth 100000 in
theorem ml_RL_28 : Cond.methodLink RL 28 yX8_fault ∈ TB := TB_in (tb2_in 230 rfl) rfl
set_option maxRecDepth 100000 in
theorem ml_RL_31 : Cond.methodLink RL 31 yX9_fault ∈ TB := TB_in (tb7_in 145 rfl) rfl
set_option maxRecDepth 100000 in
theorem ml_RL_32 : Cond.methodLink RL 32 yX8_wind ∈ TB := TB_in (tb2_in 234 rfl) rfl
set_option maxRecDepth 100000 in
theorem ml_RL_36 : Cond.methodLink RL 36 yX9_wind ∈ TB := TB_in (tb8_in 53 rfl) rfl
set_option maxRecDepth 100000 in
theorem ml_RL_37 : Cond.methodLink RL 37 yX8_often ∈ TB := TB_in (tb3_in 10 rfl) rfl
set_option maxRecDepth 100000 in
theorem ml_RL_40 : Cond.methodLink RL 40 yX9_often ∈ TB := TB_in (tb8_in 69 rfl) rfl
set_option maxRecDepth 100000 in
theorem ml_RL_41 : Cond.methodLink RL 41 yX8_shop ∈ TB := TB_in (tb3_in 17 rfl) rfl
set_option maxRecDepth 100000 in
theorem ml_RL_44 : Cond.methodLink RL 44 yX9_shop ∈ TB := TB_in (tb8_in 77 rfl) rfl
set_option maxRecDepth 100000 in
theorem ml_RL_45 : Cond.methodLink RL 45 yX8_door ∈ TB := TB_in (tb3_in 29 rfl) rfl
set_option maxRecDepth 100000 in
theorem ml_RL_48 : Cond.methodLink RL 48 yX9_door ∈ TB := TB_in (tb8_in 110 rfl) rfl
set_option maxRecDepth 100000 in
theorem ml_RL_49 : Cond.methodLink RL 49 yX8_act ∈ TB := TB_in (tb3_in 127 rfl) rfl
set_option maxRecDepth 100000 in
theorem ml_RL_52 : Cond.methodLink RL 52 yX9_act ∈ TB := TB_in (tb8_in 86 rfl) rfl
set_option maxRecDepth 100000 in
theorem ml_RL_53 : Cond.methodLink RL 53 yX8_plan ∈ TB := TB_in (tb3_in 136 rfl) rfl
set_option maxRecDepth 100000 in
theorem ml_RL_57 : Cond.methodLink RL 57 yX9_plan ∈ TB := TB_in (tb8_in 90 rfl) rfl
set_option maxRecDepth 100000 in
theorem ml_RL_58 : Cond.methodLink RL 58 yX8_undo ∈ TB := TB_in (tb3_in 149 rfl) rfl
set_option maxRecDepth 100000 in
theorem ml_RL_61 : Cond.methodLink RL 61 yX9_undo ∈ TB := TB_in (tb8_in 98 rfl) rfl
set_option maxRecDepth 100000 in
theorem ml_RL_62 : Cond.methodLink RL 62 yX8_changed ∈ TB := TB_in (tb3_in 165 rfl) rfl
set_option maxRecDepth 100000 in
theorem ml_RL_65 : Cond.methodLink RL 65 yX9_changed ∈ TB := TB_in (tb8_in 106 rfl) rfl
set_option maxRecDepth 100000 in
theorem ml_RL_66 : Cond.methodLink RL 66 yX8_where ∈ TB := TB_in (tb3_in 170 rfl) rfl
set_option maxRecDepth 100000 in
theorem ml_RL_69 : Cond.methodLink RL 69 yX9_where ∈ TB := TB_in (tb8_in 166 rfl) rfl
set_option maxRecDepth 100000 in
theorem ml_RL_70 : Cond.methodLink RL 70 yX8_why ∈ TB := TB_in (tb3_in 178 rfl) rfl
set_option maxRecDepth 100000 in
theorem ml_RL_73 : Cond.methodLink RL 73 yX9_why ∈ TB := TB_in (tb8_in 175 rfl) rfl
set_option maxRecDepth 100000 in
theorem ml_RL_74 : Cond.methodLink RL 74 yX8_vain ∈ TB := TB_in (tb3_in 186 rfl) rfl
set_option maxRecDepth 100000 in
theorem ml_RL_77 : Cond.methodLink RL 77 yX9_vain ∈ TB := TB_in (tb8_in 179 rfl) rfl
set_option maxRecDepth 100000 in
theorem ml_RL_78 : Cond.methodLink RL 78 yX8_blown ∈ TB := TB_in (tb3_in 190 rfl) rfl
set_option maxRecDepth 100000 in
theorem ml_RL_81 : Cond.methodLink RL 81 yX9_blown ∈ TB := TB_in (tb8_in 183 rfl) rfl
set_option maxRecDepth 100000 in
theorem ml_RL_82 : Cond.methodLink RL 82 yX8_sales ∈ TB := TB_in (tb3_in 198 rfl) rfl
set_option maxRecDepth 100000 in
theorem ml_RL_85 : Cond.methodLink RL 85 yX9_sales ∈ TB := TB_in (tb8_in 187 rfl) rfl
set_option maxRecDepth 100000 in
theorem ml_RL_86 : Cond.methodLink RL 86 yX8_sold ∈ TB := TB_in (tb3_in 206 rfl) rfl
set_option maxRecDepth 100000 in
theorem ml_RL_89 : Cond.methodLink RL 89 yX9_sold ∈ TB := TB_in (tb8_in 191 rfl) rfl
set_option maxRecDepth 100000 in
theorem ml_RL_9 : Cond.methodLink RL 9 yX8_init ∈ TB := TB_in (tb1_in 21 rfl) rfl
set_option maxRecDepth 100000 in
theorem ml_RL_90 : Cond.methodLink RL 90 yX8_money ∈ TB := TB_in (tb3_in 210 rfl) rfl
set_option maxRecDepth 100000 in
theorem ml_RL_93 : Cond.methodLink RL 93 yX9_money ∈ TB := TB_in (tb8_in 195 rfl) rfl
set_option maxRecDepth 100000 in
theorem ml_RL_94 : Cond.methodLink RL 94 yX8_richest ∈ TB := TB_in (tb3_in 223 rfl) rfl
set_option maxRecDepth 100000 in
theorem ml_RL_97 : Cond.methodLink RL 97 yX9_richest ∈ TB := TB_in (tb8_in 203 rfl) rfl
set_option maxRecDepth 100000 in
theorem ml_RL_98 : Cond.methodLink RL 98 yX8_meets ∈ TB := TB_in (tb3_in 228 rfl) rfl
set_option maxRecDepth 100000 in
theorem ml_RX0_19 : Cond.methodLinkNest RX0 19 yX8_xOf "BalloonGrocers" ∈ NB := NB4_in 164 rfl rfl
set_option maxRecDepth 100000 in
theorem ml_RX0_23 : Cond.methodLinkNest RX0 23 yX8_yOf "BalloonGrocers" ∈ NB := NB4_in 165 rfl rfl
set_option maxRecDepth 100000 in
theorem ml_RX0_26 : Cond.methodLink RX0 26 yX6_hasColumn ∈ TB := TB_in (tb4_in 166 rfl) rfl
set_option maxRecDepth 100000 in
theorem ml_RX0_32 : Cond.methodLinkNest RX0 32 yX8_bitOf "BalloonGrocers" ∈ NB := NB4_in 167 rfl rfl
set_option maxRecDepth 100000 in
theorem ml_RX0_36 : Cond.methodLink RX0 36 yX6_carried ∈ TB := TB_in (tb4_in 170 rfl) rfl
set_option maxRecDepth 100000 in
theorem ml_RX0_42 : Cond.methodLink RX0 42 yX0_shifted ∈ TB := TB_in (tb4_in 203 rfl) rfl
set_option maxRecDepth 100000 in
theorem ml_RX0_46 : Cond.methodLink RX0 46 yX0_reverseOf ∈ TB := TB_in (tb5_in 82 rfl) rfl
set_option maxRecDepth 100000 in
theorem ml_RX1_100 : Cond.methodLink RX1 100 yX0_sourcesOf ∈ TB := TB_in (tb5_in 78 rfl) rfl
set_option maxRecDepth 100000 in
theorem ml_RX1_106 : Cond.methodLink RX1 106 yX1_cooled ∈ TB := TB_in (tb5_in 71 rfl) rfl
set_option maxRecDepth 100000 in
theorem ml_RX1_109 : Cond.methodLink RX1 109 yX6_coolsIn ∈ TB := TB_in (tb5_in 75 rfl) rfl
set_option maxRecDepth 100000 in
theorem ml_RX1_118 : Cond.methodLink RX1 118 yX6_shopColumn ∈ TB := TB_in (tb5_in 89 rfl) rfl
set_option maxRecDepth 100000 in
theorem ml_RX1_122 : Cond.methodLink RX1 122 yX1_firstAct ∈ TB := TB_in (tb5_in 90 rfl) rfl
set_option maxRecDepth 100000 in
theorem ml_RX1_126 : Cond.methodLink RX1 126 yX6_carried ∈ TB := TB_in (tb5_in 94 rfl) rfl
set_option maxRecDepth 100000 in
theorem ml_RX1_45 : Cond.methodLinkNest RX1 45 yX8_bitOf "BalloonGrocers" ∈ NB := NB5_in 44 rfl rfl
set_option maxRecDepth 100000 in
theorem ml_RX1_49 : Cond.methodLink RX1 49 yX2_soonestOf ∈ TB := TB_in (tb5_in 45 rfl) rfl
set_option maxRecDepth 100000 in
theorem ml_RX1_55 : Cond.methodLink RX1 55 yX2_leastAt ∈ TB := TB_in (tb5_in 46 rfl) rfl
set_option maxRecDepth 100000 in
theorem ml_RX1_61 : Cond.methodLink RX1 61 yX6_shopFact ∈ TB := TB_in (tb5_in 47 rfl) rfl
set_option maxRecDepth 100000 in
theorem ml_RX1_71 : Cond.methodLink RX1 71 yX1_placeOf ∈ TB := TB_in (tb5_in 48 rfl) rfl
set_option maxRecDepth 100000 in
theorem ml_RX1_75 : Cond.methodLink RX1 75 yX1_markHour ∈ TB := TB_in (tb5_in 52 rfl) rfl
set_option maxRecDepth 100000 in
theorem ml_RX1_79 : Cond.methodLink RX1 79 yX1_walk ∈ TB := TB_in (tb5_in 85 rfl) rfl
set_option maxRecDepth 100000 in
theorem ml_RX1_82 : Cond.methodLink RX1 82 yX1_leading ∈ TB := TB_in (tb5_in 56 rfl) rfl
set_option maxRecDepth 100000 in
theorem ml_RX1_86 : Cond.methodLink RX1 86 yX1_canAct ∈ TB := TB_in (tb5_in 60 rfl) rfl
set_option maxRecDepth 100000 in
theorem ml_RX1_90 : Cond.methodLink RX1 90 yX1_levelBy ∈ TB := TB_in (tb5_in 64 rfl) rfl
set_option maxRecDepth 100000 in
theorem ml_RX1_93 : Cond.methodLink RX1 93 yX1_goalOf ∈ TB := TB_in (tb5_in 67 rfl) rfl
set_option maxRecDepth 100000 in
theorem ml_RX1_97 : Cond.methodLink RX1 97 yX6_windAt ∈ TB := TB_in (tb5_in 77 rfl) rfl
set_option maxRecDepth 100000 in
theorem ml_RX2_22 : Cond.methodLink RX2 22 yX2_placeOf ∈ TB := TB_in (tb4_in 219 rfl) rfl
set_option maxRecDepth 100000 in
theorem ml_RX2_26 : Cond.methodLink RX2 26 yX2_leastAt ∈ TB := TB_in (tb5_in 11 rfl) rfl
set_option maxRecDepth 100000 in
theorem ml_RX2_36 : Cond.methodLink RX2 36 yX2_addTour ∈ TB := TB_in (tb5_in 158 rfl) rfl
set_option maxRecDepth 100000 in
theorem ml_RX3_104 : Cond.methodLink RX3 104 yX3_fail ∈ TB := TB_in (tb2_in 135 rfl) rfl
set_option maxRecDepth 100000 in
theorem ml_RX3_110 : Cond.methodLink RX3 110 yX3_takeWord ∈ TB := TB_in (tb2_in 79 rfl) rfl
set_option maxRecDepth 100000 in
theorem ml_RX3_116 : Cond.methodLink RX3 116 yX3_takeNumber ∈ TB := TB_in (tb2_in 140 rfl) rfl
set_option maxRecDepth 100000 in
theorem ml_RX3_149 : Cond.methodLink RX3 149 yX3_takeWind ∈ TB := TB_in (tb2_in 161 rfl) rfl
set_option maxRecDepth 100000 in
theorem ml_RX3_157 : Cond.methodLink RX3 157 yX3_windWord ∈ TB := TB_in (tb2_in 165 rfl) rfl
set_option maxRecDepth 100000 in
theorem ml_RX3_187 : Cond.methodLinkNest RX3 187 yX8_columnOf "BalloonGrocers" ∈ NB := NB2_in 188 rfl rfl
set_option maxRecDepth 100000 in
theorem ml_RX3_190 : Cond.methodLink RX3 190 yX6_doorAt ∈ TB := TB_in (tb2_in 191 rfl) rfl
set_option maxRecDepth 100000 in
theorem ml_RX3_214 : Cond.methodLink RX3 214 yX6_setAct ∈ TB := TB_in (tb2_in 214 rfl) rfl
set_option maxRecDepth 100000 in
theorem ml_RX3_221 : Cond.methodLink RX3 221 yJ0_length_8abf5 ∈ TB := TB_in (tb2_in 87 rfl) rfl
set_option maxRecDepth 100000 in
theorem ml_RX3_225 : Cond.methodLink RX3 225 yJ0_charAt_5068e ∈ TB := TB_in (tb2_in 97 rfl) rfl
set_option maxRecDepth 100000 in
theorem ml_RX3_229 : Cond.methodLink RX3 229 yX3_isLetter ∈ TB := TB_in (tb2_in 63 rfl) rfl
set_option maxRecDepth 100000 in
theorem ml_RX3_233 : Cond.methodLink RX3 233 yX3_isDigit ∈ TB := TB_in (tb2_in 66 rfl) rfl
set_option maxRecDepth 100000 in
theorem ml_RX3_32 : Cond.methodLink RX3 32 yX6_clear ∈ TB := TB_in (tb2_in 55 rfl) rfl
set_option maxRecDepth 100000 in
theorem ml_RX3_46 : Cond.methodLink RX3 46 yX3_advance ∈ TB := TB_in (tb2_in 59 rfl) rfl
set_option maxRecDepth 100000 in
theorem ml_RX3_52 : Cond.methodLink RX3 52 yX3_readLine ∈ TB := TB_in (tb2_in 70 rfl) rfl
set_option maxRecDepth 100000 in
theorem ml_RX3_55 : Cond.methodLink RX3 55 yX3_takeSign ∈ TB := TB_in (tb2_in 218 rfl) rfl
set_option maxRecDepth 100000 in
theorem ml_RX3_61 : Cond.methodLink RX3 61 yX6_spreadWinds ∈ TB := TB_in (tb2_in 222 rfl) rfl
set_option maxRecDepth 100000 in
theorem ml_RX3_64 : Cond.methodLink RX3 64 yX3_readSizes ∈ TB := TB_in (tb2_in 74 rfl) rfl
set_option maxRecDepth 100000 in
theorem ml_RX3_69 : Cond.methodLink RX3 69 yX3_isWord ∈ TB := TB_in (tb2_in 83 rfl) rfl
set_option maxRecDepth 100000 in
theorem ml_RX3_73 : Cond.methodLink RX3 73 yX3_readSells ∈ TB := TB_in (tb2_in 149 rfl) rfl
set_option maxRecDepth 100000 in
theorem ml_RX3_78 : Cond.methodLink RX3 78 yX3_readWind ∈ TB := TB_in (tb2_in 156 rfl) rfl
set_option maxRecDepth 100000 in
theorem ml_RX3_83 : Cond.methodLink RX3 83 yX3_readShop ∈ TB := TB_in (tb2_in 175 rfl) rfl
set_option maxRecDepth 100000 in
theorem ml_RX3_88 : Cond.methodLink RX3 88 yX3_readDoor ∈ TB := TB_in (tb2_in 184 rfl) rfl
set_option maxRecDepth 100000 in
theorem ml_RX3_93 : Cond.methodLink RX3 93 yX3_readFair ∈ TB := TB_in (tb2_in 202 rfl) rfl
set_option maxRecDepth 100000 in
theorem ml_RX3_98 : Cond.methodLink RX3 98 yX3_readPlan ∈ TB := TB_in (tb2_in 208 rfl) rfl
set_option maxRecDepth 100000 in
theorem ml_RX4_100 : Cond.methodLink RX4 100 yX1_knows ∈ TB := TB_in (tb5_in 32 rfl) rfl
set_option maxRecDepth 100000 in
theorem ml_RX4_104 : Cond.methodLink RX4 104 yX1_take ∈ TB := TB_in (tb5_in 36 rfl) rfl
set_option maxRecDepth 100000 in
theorem ml_RX4_108 : Cond.methodLink RX4 108 yX1_find ∈ TB := TB_in (tb5_in 40 rfl) rfl
set_option maxRecDepth 100000 in
theorem ml_RX4_112 : Cond.methodLink RX4 112 yX1_remember ∈ TB := TB_in (tb5_in 95 rfl) rfl
set_option maxRecDepth 100000 in
theorem ml_RX4_116 : Cond.methodLink RX4 116 yX1_actIn ∈ TB := TB_in (tb5_in 99 rfl) rfl
set_option maxRecDepth 100000 in
theorem ml_RX4_139 : Cond.methodLink RX4 139 yX6_shopFact ∈ TB := TB_in (tb4_in 159 rfl) rfl
set_option maxRecDepth 100000 in
theorem ml_RX4_148 : Cond.methodLink RX4 148 yX0_fit ∈ TB := TB_in (tb4_in 160 rfl) rfl
set_option maxRecDepth 100000 in
theorem ml_RX4_152 : Cond.methodLink RX4 152 yX6_shopColumn ∈ TB := TB_in (tb4_in 179 rfl) rfl
set_option maxRecDepth 100000 in
theorem ml_RX4_155 : Cond.methodLinkNest RX4 155 yX8_bitOf "BalloonGrocers" ∈ NB := NB4_in 180 rfl rfl
set_option maxRecDepth 100000 in
theorem ml_RX4_162 : Cond.methodLink RX4 162 yX6_coolings ∈ TB := TB_in (tb4_in 185 rfl) rfl
set_option maxRecDepth 100000 in
theorem ml_RX4_165 : Cond.methodLink RX4 165 yX4_passLayer ∈ TB := TB_in (tb4_in 189 rfl) rfl
set_option maxRecDepth 100000 in
theorem ml_RX4_168 : Cond.methodLink RX4 168 yX6_coolsIn ∈ TB := TB_in (tb4_in 206 rfl) rfl
set_option maxRecDepth 100000 in
theorem ml_RX4_17 : Cond.methodLinkNest RX4 17 yX0_init "BalloonGrocers" ∈ NB := NB4_in 40 rfl rfl
set_option maxRecDepth 100000 in
theorem ml_RX4_172 : Cond.methodLink RX4 172 yX4_sinkAll ∈ TB := TB_in (tb4_in 207 rfl) rfl
set_option maxRecDepth 100000 in
theorem ml_RX4_176 : Cond.methodLink RX4 176 yX4_note ∈ TB := TB_in (tb4_in 211 rfl) rfl
set_option maxRecDepth 100000 in
theorem ml_RX4_179 : Cond.methodLink RX4 179 yX6_windAt ∈ TB := TB_in (tb4_in 193 rfl) rfl
set_option maxRecDepth 100000 in
theorem ml_RX4_182 : Cond.methodLink RX4 182 yX4_joined ∈ TB := TB_in (tb4_in 194 rfl) rfl
set_option maxRecDepth 100000 in
theorem ml_RX4_186 : Cond.methodLink RX4 186 yX0_carriedSet ∈ TB := TB_in (tb4_in 198 rfl) rfl
set_option maxRecDepth 100000 in
theorem ml_RX4_190 : Cond.methodLink RX4 190 yX2_addCells ∈ TB := TB_in (tb4_in 215 rfl) rfl
set_option maxRecDepth 100000 in
theorem ml_RX4_197 : Cond.methodLink RX4 197 yX4_countHour ∈ TB := TB_in (tb5_in 2 rfl) rfl
set_option maxRecDepth 100000 in
theorem ml_RX4_205 : Cond.methodLink RX4 205 yX4_markDoors ∈ TB := TB_in (tb4_in 226 rfl) rfl
set_option maxRecDepth 100000 in
theorem ml_RX4_208 : Cond.methodLink RX4 208 yX2_addTour ∈ TB := TB_in (tb4_in 237 rfl) rfl
set_option maxRecDepth 100000 in
theorem ml_RX4_211 : Cond.methodLink RX4 211 yX6_doorFact ∈ TB := TB_in (tb4_in 230 rfl) rfl
set_option maxRecDepth 100000 in
theorem ml_RX4_214 : Cond.methodLinkNest RX4 214 yX8_columnOf "BalloonGrocers" ∈ NB := NB4_in 231 rfl rfl
set_option maxRecDepth 100000 in
theorem ml_RX4_217 : Cond.methodLink RX4 217 yX4_moveTag ∈ TB := TB_in (tb4_in 232 rfl) rfl
set_option maxRecDepth 100000 in
theorem ml_RX4_24 : Cond.methodLinkNest RX4 24 yX1_init "BalloonGrocers" ∈ NB := NB4_in 53 rfl rfl
set_option maxRecDepth 100000 in
theorem ml_RX4_35 : Cond.methodLinkNest RX4 35 yX2_init "BalloonGrocers" ∈ NB := NB4_in 91 rfl rfl
set_option maxRecDepth 100000 in
theorem ml_RX4_44 : Cond.methodLink RX4 44 yX2_clearCells ∈ TB := TB_in (tb4_in 149 rfl) rfl
set_option maxRecDepth 100000 in
theorem ml_RX4_47 : Cond.methodLink RX4 47 yX4_prepare ∈ TB := TB_in (tb4_in 153 rfl) rfl
set_option maxRecDepth 100000 in
theorem ml_RX4_56 : Cond.methodLink RX4 56 yX4_passHour ∈ TB := TB_in (tb4_in 181 rfl) rfl
set_option maxRecDepth 100000 in
theorem ml_RX4_63 : Cond.methodLink RX4 63 yX2_clearTours ∈ TB := TB_in (tb5_in 150 rfl) rfl
set_option maxRecDepth 100000 in
theorem ml_RX4_72 : Cond.methodLink RX4 72 yX4_placeOf ∈ TB := TB_in (tb4_in 175 rfl) rfl
set_option maxRecDepth 100000 in
theorem ml_RX4_76 : Cond.methodLink RX4 76 yX4_noteTours ∈ TB := TB_in (tb4_in 222 rfl) rfl
set_option maxRecDepth 100000 in
theorem ml_RX4_80 : Cond.methodLink RX4 80 yX2_spreadTours ∈ TB := TB_in (tb5_in 154 rfl) rfl
set_option maxRecDepth 100000 in
theorem ml_RX4_89 : Cond.methodLink RX4 89 yX4_highestTag ∈ TB := TB_in (tb5_in 196 rfl) rfl
set_option maxRecDepth 100000 in
theorem ml_RX4_93 : Cond.methodLink RX4 93 yX4_blockCount ∈ TB := TB_in (tb4_in 171 rfl) rfl
set_option maxRecDepth 100000 in
theorem ml_RX4_96 : Cond.methodLink RX4 96 yX4_cellsOf ∈ TB := TB_in (tb5_in 31 rfl) rfl
set_option maxRecDepth 100000 in
theorem ml_RX6_37 : Cond.methodLink RX6 37 yX6_hasShop ∈ TB := TB_in (tb3_in 236 rfl) rfl
set_option maxRecDepth 100000 in
theorem ml_RX6_56 : Cond.methodLink RX6 56 yX6_doorFact ∈ TB := TB_in (tb2_in 195 rfl) rfl
set_option maxRecDepth 100000 in
theorem ml_RX6_60 : Cond.methodLinkNest RX6 60 yX8_columnOf "BalloonGrocers" ∈ NB := NB2_in 199 rfl rfl
set_option maxRecDepth 100000 in
theorem ml_RX6_63 : Cond.methodLink RX6 63 yX6_shopFact ∈ TB := TB_in (tb4_in 23 rfl) rfl
set_option maxRecDepth 100000 in
theorem ml_RX6_77 : Cond.methodLinkNest RX6 77 yX8_xOf "BalloonGrocers" ∈ NB := NB3_in 93 rfl rfl
set_option maxRecDepth 100000 in
theorem ml_RX6_81 : Cond.methodLinkNest RX6 81 yX8_yOf "BalloonGrocers" ∈ NB := NB3_in 96 rfl rfl
set_option maxRecDepth 100000 in
theorem ml_RX6_84 : Cond.methodLink RX6 84 yX6_hasColumn ∈ TB := TB_in (tb3_in 99 rfl) rfl
set_option maxRecDepth 100000 in
theorem ml_RX6_88 : Cond.methodLink RX6 88 yX6_actAt ∈ TB := TB_in (tb3_in 147 rfl) rfl
set_option maxRecDepth 100000 in
theorem ml_RX6_94 : Cond.methodLink RX6 94 yX6_setAct ∈ TB := TB_in (tb3_in 148 rfl) rfl
set_option maxRecDepth 100000 in
theorem ml_RX6_98 : Cond.methodLink RX6 98 yX6_changeFact ∈ TB := TB_in (tb3_in 161 rfl) rfl
set_option maxRecDepth 100000 in
theorem ml_RX7_103 : Cond.methodLink RX7 103 yX6_coolsIn ∈ TB := TB_in (tb3_in 105 rfl) rfl
set_option maxRecDepth 100000 in
theorem ml_RX7_107 : Cond.methodLink RX7 107 yX7_sell ∈ TB := TB_in (tb3_in 109 rfl) rfl
set_option maxRecDepth 100000 in
theorem ml_RX7_110 : Cond.methodLink RX7 110 yX6_windAt ∈ TB := TB_in (tb3_in 87 rfl) rfl
set_option maxRecDepth 100000 in
theorem ml_RX7_113 : Cond.methodLinkNest RX7 113 yX8_columnOf "BalloonGrocers" ∈ NB := NB3_in 88 rfl rfl
set_option maxRecDepth 100000 in
theorem ml_RX7_116 : Cond.methodLink RX7 116 yX6_carried ∈ TB := TB_in (tb3_in 89 rfl) rfl
set_option maxRecDepth 100000 in
theorem ml_RX7_119 : Cond.methodLinkNest RX7 119 yX8_xOf "BalloonGrocers" ∈ NB := NB3_in 103 rfl rfl
set_option maxRecDepth 100000 in
theorem ml_RX7_123 : Cond.methodLinkNest RX7 123 yX8_yOf "BalloonGrocers" ∈ NB := NB3_in 104 rfl rfl
set_option maxRecDepth 100000 in
theorem ml_RX7_126 : Cond.methodLink RX7 126 yX6_doorAt ∈ TB := TB_in (tb3_in 113 rfl) rfl
set_option maxRecDepth 100000 in
theorem ml_RX7_132 : Cond.methodLink RX7 132 yX6_saleBrings ∈ TB := TB_in (tb3_in 114 rfl) rfl
set_option maxRecDepth 100000 in
theorem ml_RX7_140 : Cond.methodLink RX7 140 yX7_factBehind ∈ TB := TB_in (tb3_in 222 rfl) rfl
set_option maxRecDepth 100000 in
theorem ml_RX7_144 : Cond.methodLink RX7 144 yX7_columnBehind ∈ TB := TB_in (tb6_in 138 rfl) rfl
set_option maxRecDepth 100000 in
theorem ml_RX7_147 : Cond.methodLink RX7 147 yX7_factAtEnd ∈ TB := TB_in (tb3_in 218 rfl) rfl
set_option maxRecDepth 100000 in
theorem ml_RX7_48 : Cond.methodLink RX7 48 yX7_pageOf ∈ TB := TB_in (tb3_in 45 rfl) rfl
set_option maxRecDepth 100000 in
theorem ml_RX7_52 : Cond.methodLink RX7 52 yX6_shopFact ∈ TB := TB_in (tb3_in 49 rfl) rfl
set_option maxRecDepth 100000 in
theorem ml_RX7_58 : Cond.methodLink RX7 58 yX6_doorFact ∈ TB := TB_in (tb3_in 50 rfl) rfl
set_option maxRecDepth 100000 in
theorem ml_RX7_70 : Cond.methodLink RX7 70 yX7_drawGusts ∈ TB := TB_in (tb3_in 58 rfl) rfl
set_option maxRecDepth 100000 in
theorem ml_RX7_73 : Cond.methodLink RX7 73 yX7_flyHour ∈ TB := TB_in (tb3_in 67 rfl) rfl
set_option maxRecDepth 100000 in
theorem ml_RX7_90 : Cond.methodLink RX7 90 yX6_actAt ∈ TB := TB_in (tb3_in 71 rfl) rfl
set_option maxRecDepth 100000 in
theorem ml_RX7_93 : Cond.methodLink RX7 93 yX7_reasonAgainst ∈ TB := TB_in (tb3_in 75 rfl) rfl
set_option maxRecDepth 100000 in
theorem ml_RX7_96 : Cond.methodLink RX7 96 yX7_doAct ∈ TB := TB_in (tb3_in 79 rfl) rfl
set_option maxRecDepth 100000 in
theorem ml_RX7_99 : Cond.methodLink RX7 99 yX7_carry ∈ TB := TB_in (tb3_in 83 rfl) rfl
set_option maxRecDepth 100000 in
theorem ml_RX8_102 : Cond.methodLink RX8 102 yX6_shopFact ∈ TB := TB_in (tb3_in 25 rfl) rfl
set_option maxRecDepth 100000 in
theorem ml_RX8_105 : Cond.methodLink RX8 105 yX6_hasDoor ∈ TB := TB_in (tb3_in 33 rfl) rfl
set_option maxRecDepth 100000 in
theorem ml_RX8_108 : Cond.methodLink RX8 108 yX8_flown ∈ TB := TB_in (tb3_in 37 rfl) rfl
set_option maxRecDepth 100000 in
theorem ml_RX8_112 : Cond.methodLink RX8 112 yX7_wantedAtEnd ∈ TB := TB_in (tb3_in 122 rfl) rfl
set_option maxRecDepth 100000 in
theorem ml_RX8_116 : Cond.methodLink RX8 116 yX6_doorFact ∈ TB := TB_in (tb3_in 126 rfl) rfl
set_option maxRecDepth 100000 in
theorem ml_RX8_119 : Cond.methodLink RX8 119 yX8_hasShopHour ∈ TB := TB_in (tb3_in 131 rfl) rfl
set_option maxRecDepth 100000 in
theorem ml_RX8_123 : Cond.methodLink RX8 123 yX6_actAt ∈ TB := TB_in (tb3_in 135 rfl) rfl
set_option maxRecDepth 100000 in
theorem ml_RX8_126 : Cond.methodLink RX8 126 yX8_isAct ∈ TB := TB_in (tb3_in 140 rfl) rfl
set_option maxRecDepth 100000 in
theorem ml_RX8_136 : Cond.methodLink RX8 136 yX6_change ∈ TB := TB_in (tb3_in 143 rfl) rfl
set_option maxRecDepth 100000 in
theorem ml_RX8_140 : Cond.methodLink RX8 140 yX6_stands ∈ TB := TB_in (tb3_in 153 rfl) rfl
set_option maxRecDepth 100000 in
theorem ml_RX8_144 : Cond.methodLink RX8 144 yX6_takeBack ∈ TB := TB_in (tb3_in 157 rfl) rfl
set_option maxRecDepth 100000 in
theorem ml_RX8_147 : Cond.methodLink RX8 147 yX6_changeFact ∈ TB := TB_in (tb3_in 169 rfl) rfl
set_option maxRecDepth 100000 in
theorem ml_RX8_15 : Cond.methodLinkNest RX8 15 yX3_init "BalloonGrocers" ∈ NB := NB1_in 29 rfl rfl
set_option maxRecDepth 100000 in
theorem ml_RX8_150 : Cond.methodLink RX8 150 yX7_factBehind ∈ TB := TB_in (tb3_in 174 rfl) rfl
set_option maxRecDepth 100000 in
theorem ml_RX8_153 : Cond.methodLink RX8 153 yX7_reasonAt ∈ TB := TB_in (tb3_in 182 rfl) rfl
set_option maxRecDepth 100000 in
theorem ml_RX8_156 : Cond.methodLink RX8 156 yX7_isCarriedAt ∈ TB := TB_in (tb3_in 194 rfl) rfl
set_option maxRecDepth 100000 in
theorem ml_RX8_159 : Cond.methodLink RX8 159 yX7_saleDoorAt ∈ TB := TB_in (tb3_in 202 rfl) rfl
set_option maxRecDepth 100000 in
theorem ml_RX8_162 : Cond.methodLink RX8 162 yX7_moneyOfAll ∈ TB := TB_in (tb3_in 214 rfl) rfl
set_option maxRecDepth 100000 in
theorem ml_RX8_169 : Cond.methodLink RX8 169 yX7_factAtEnd ∈ TB := TB_in (tb3_in 227 rfl) rfl
set_option maxRecDepth 100000 in
theorem ml_RX8_172 : Cond.methodLink RX8 172 yX6_hasTwoShops ∈ TB := TB_in (tb3_in 232 rfl) rfl
set_option maxRecDepth 100000 in
theorem ml_RX8_175 : Cond.methodLink RX8 175 yX7_columnBehind ∈ TB := TB_in (tb3_in 237 rfl) rfl
set_option maxRecDepth 100000 in
theorem ml_RX8_178 : Cond.methodLink RX8 178 yX6_hasColumn ∈ TB := TB_in (tb4_in 5 rfl) rfl
set_option maxRecDepth 100000 in
theorem ml_RX8_181 : Cond.methodLink RX8 181 yX8_columnOf ∈ TB := TB_in (tb4_in 6 rfl) rfl
set_option maxRecDepth 100000 in
theorem ml_RX8_184 : Cond.methodLink RX8 184 yX8_hasShopCell ∈ TB := TB_in (tb4_in 15 rfl) rfl
set_option maxRecDepth 100000 in
theorem ml_RX8_188 : Cond.methodLink RX8 188 yX6_shopColumn ∈ TB := TB_in (tb4_in 19 rfl) rfl
set_option maxRecDepth 100000 in
theorem ml_RX8_191 : Cond.methodLink RX8 191 yX8_reachOf ∈ TB := TB_in (tb4_in 24 rfl) rfl
set_option maxRecDepth 100000 in
theorem ml_RX8_195 : Cond.methodLink RX8 195 yX8_bitOf ∈ TB := TB_in (tb5_in 6 rfl) rfl
set_option maxRecDepth 100000 in
theorem ml_RX8_199 : Cond.methodLink RX8 199 yX2_leastOfAll ∈ TB := TB_in (tb5_in 7 rfl) rfl
set_option maxRecDepth 100000 in
theorem ml_RX8_205 : Cond.methodLink RX8 205 yX2_soonestOf ∈ TB := TB_in (tb5_in 19 rfl) rfl
set_option maxRecDepth 100000 in
theorem ml_RX8_208 : Cond.methodLink RX8 208 yX8_roaming ∈ TB := TB_in (tb4_in 28 rfl) rfl
set_option maxRecDepth 100000 in
theorem ml_RX8_212 : Cond.methodLink RX8 212 yX4_actOnWay ∈ TB := TB_in (tb5_in 27 rfl) rfl
set_option maxRecDepth 100000 in
theorem ml_RX8_22 : Cond.methodLinkNest RX8 22 yX7_init "BalloonGrocers" ∈ NB := NB1_in 69 rfl rfl
set_option maxRecDepth 100000 in
theorem ml_RX8_221 : Cond.methodLink RX8 221 yX2_columnsAt ∈ TB := TB_in (tb5_in 107 rfl) rfl
set_option maxRecDepth 100000 in
theorem ml_RX8_225 : Cond.methodLink RX8 225 yJ13_bitCount_95d88 ∈ TB := TB_in (tb5_in 111 rfl) rfl
set_option maxRecDepth 100000 in
theorem ml_RX8_231 : Cond.methodLink RX8 231 yX4_rowsOfActs ∈ TB := TB_in (tb5_in 125 rfl) rfl
set_option maxRecDepth 100000 in
theorem ml_RX8_237 : Cond.methodLink RX8 237 yX8_hasShopDoors ∈ TB := TB_in (tb5_in 134 rfl) rfl
set_option maxRecDepth 100000 in
theorem ml_RX8_240 : Cond.methodLink RX8 240 yX8_toursOf ∈ TB := TB_in (tb5_in 142 rfl) rfl
set_option maxRecDepth 100000 in
theorem ml_RX8_243 : Cond.methodLink RX8 243 yX2_sandOfTour ∈ TB := TB_in (tb5_in 159 rfl) rfl
set_option maxRecDepth 100000 in
theorem ml_RX8_246 : Cond.methodLink RX8 246 yX2_hourOfTour ∈ TB := TB_in (tb5_in 167 rfl) rfl
set_option maxRecDepth 100000 in
theorem ml_RX8_249 : Cond.methodLink RX8 249 yX8_isStock ∈ TB := TB_in (tb5_in 175 rfl) rfl
set_option maxRecDepth 100000 in
theorem ml_RX8_255 : Cond.methodLink RX8 255 yX2_canTour ∈ TB := TB_in (tb5_in 178 rfl) rfl
set_option maxRecDepth 100000 in
theorem ml_RX8_258 : Cond.methodLink RX8 258 yJ6_bitCount_0f7a4 ∈ TB := TB_in (tb5_in 182 rfl) rfl
set_option maxRecDepth 100000 in
theorem ml_RX8_265 : Cond.methodLink RX8 265 yX4_hoursAtFair ∈ TB := TB_in (tb5_in 192 rfl) rfl
set_option maxRecDepth 100000 in
theorem ml_RX8_269 : Cond.methodLink RX8 269 yX4_hoursAloft ∈ TB := TB_in (tb5_in 204 rfl) rfl
set_option maxRecDepth 100000 in
theorem ml_RX8_272 : Cond.methodLink RX8 272 yX8_firstTogether ∈ TB := TB_in (tb5_in 216 rfl) rfl
set_option maxRecDepth 100000 in
theorem ml_RX8_276 : Cond.methodLink RX8 276 yX8_landing ∈ TB := TB_in (tb5_in 239 rfl) rfl
set_option maxRecDepth 100000 in
theorem ml_RX8_280 : Cond.methodLink RX8 280 yX8_hundredfold ∈ TB := TB_in (tb6_in 4 rfl) rfl
set_option maxRecDepth 100000 in
theorem ml_RX8_283 : Cond.methodLink RX8 283 yX8_dropsTo ∈ TB := TB_in (tb6_in 13 rfl) rfl
set_option maxRecDepth 100000 in
theorem ml_RX8_287 : Cond.methodLink RX8 287 yX8_hasDrift ∈ TB := TB_in (tb6_in 29 rfl) rfl
set_option maxRecDepth 100000 in
theorem ml_RX8_291 : Cond.methodLink RX8 291 yX8_drifted ∈ TB := TB_in (tb6_in 33 rfl) rfl
set_option maxRecDepth 100000 in
theorem ml_RX8_301 : Cond.methodLink RX8 301 yX8_rowRefusal ∈ TB := TB_in (tb6_in 45 rfl) rfl
set_option maxRecDepth 100000 in
theorem ml_RX8_308 : Cond.methodLink RX8 308 yX5_at ∈ TB := TB_in (tb6_in 60 rfl) rfl
set_option maxRecDepth 100000 in
theorem ml_RX8_311 : Cond.methodLink RX8 311 yX6_carried ∈ TB := TB_in (tb6_in 3 rfl) rfl
set_option maxRecDepth 100000 in
theorem ml_RX8_314 : Cond.methodLink RX8 314 yX8_firstUnlike ∈ TB := TB_in (tb6_in 72 rfl) rfl
set_option maxRecDepth 100000 in
theorem ml_RX8_325 : Cond.methodLink RX8 325 yX6_saleBrings ∈ TB := TB_in (tb6_in 80 rfl) rfl
set_option maxRecDepth 100000 in
theorem ml_RX8_329 : Cond.methodLink RX8 329 yX6_copyFrom ∈ TB := TB_in (tb6_in 86 rfl) rfl
set_option maxRecDepth 100000 in
theorem ml_RX8_333 : Cond.methodLink RX8 333 yX8_gainBy ∈ TB := TB_in (tb6_in 91 rfl) rfl
set_option maxRecDepth 100000 in
theorem ml_RX8_340 : Cond.methodLink RX8 340 yX8_stillAll ∈ TB := TB_in (tb6_in 108 rfl) rfl
set_option maxRecDepth 100000 in
theorem ml_RX8_346 : Cond.methodLink RX8 346 yX8_addToAll ∈ TB := TB_in (tb6_in 111 rfl) rfl
set_option maxRecDepth 100000 in
theorem ml_RX8_350 : Cond.methodLink RX8 350 yX7_begin ∈ TB := TB_in (tb3_in 41 rfl) rfl
set_option maxRecDepth 100000 in
theorem ml_RX8_354 : Cond.methodLink RX8 354 yX7_flyFrom ∈ TB := TB_in (tb3_in 51 rfl) rfl
set_option maxRecDepth 100000 in
theorem ml_RX8_364 : Cond.methodLink RX8 364 yX8_isDraw ∈ TB := TB_in (tb6_in 126 rfl) rfl
set_option maxRecDepth 100000 in
theorem ml_RX8_367 : Cond.methodLink RX8 367 yX7_columnAtEnd ∈ TB := TB_in (tb6_in 134 rfl) rfl
set_option maxRecDepth 100000 in
theorem ml_RX8_373 : Cond.methodLink RX8 373 yX8_fullSlots ∈ TB := TB_in (tb6_in 147 rfl) rfl
set_option maxRecDepth 100000 in
theorem ml_RX8_376 : Cond.methodLink RX8 376 yX8_isSlot ∈ TB := TB_in (tb6_in 49 rfl) rfl
set_option maxRecDepth 100000 in
theorem ml_RX8_379 : Cond.methodLink RX8 379 yX5_renew ∈ TB := TB_in (tb6_in 163 rfl) rfl
set_option maxRecDepth 100000 in
theorem ml_RX8_383 : Cond.methodLink RX8 383 yX5_isThere ∈ TB := TB_in (tb6_in 52 rfl) rfl
set_option maxRecDepth 100000 in
theorem ml_RX8_386 : Cond.methodLink RX8 386 yX5_holds ∈ TB := TB_in (tb6_in 171 rfl) rfl
set_option maxRecDepth 100000 in
theorem ml_RX8_389 : Cond.methodLink RX8 389 yX5_put ∈ TB := TB_in (tb6_in 175 rfl) rfl
set_option maxRecDepth 100000 in
theorem ml_RX8_396 : Cond.methodLink RX8 396 yX5_copyTo ∈ TB := TB_in (tb6_in 183 rfl) rfl
set_option maxRecDepth 100000 in
theorem ml_RX8_404 : Cond.methodLink RX8 404 yX4_init ∈ TB := TB_in (tb4_in 34 rfl) rfl
set_option maxRecDepth 100000 in
theorem ml_RX8_405 : Cond.methodLink RX8 405 yX4_cellsOf ∈ TB := TB_in (tb4_in 145 rfl) rfl
set_option maxRecDepth 100000 in
theorem ml_RX8_409 : Cond.methodLink RX8 409 yX4_toursOf ∈ TB := TB_in (tb5_in 146 rfl) rfl
set_option maxRecDepth 100000 in
theorem ml_RX8_411 : Cond.methodLink RX8 411 yX6_hasDoors ∈ TB := TB_in (tb5_in 138 rfl) rfl
set_option maxRecDepth 100000 in
theorem ml_RX8_414 : Cond.methodLink RX8 414 yX8_columnsNear ∈ TB := TB_in (tb5_in 220 rfl) rfl
set_option maxRecDepth 100000 in
theorem ml_RX8_418 : Cond.methodLink RX8 418 yX0_widened ∈ TB := TB_in (tb5_in 226 rfl) rfl
set_option maxRecDepth 100000 in
theorem ml_RX8_424 : Cond.methodLink RX8 424 yX5_keepsWithin ∈ TB := TB_in (tb6_in 56 rfl) rfl
set_option maxRecDepth 100000 in
theorem ml_RX8_428 : Cond.methodLink RX8 428 yX6_setAct ∈ TB := TB_in (tb6_in 95 rfl) rfl
set_option maxRecDepth 100000 in
theorem ml_RX8_432 : Cond.methodLink RX8 432 yX7_beginBehind ∈ TB := TB_in (tb6_in 96 rfl) rfl
set_option maxRecDepth 100000 in
theorem ml_RX8_437 : Cond.methodLink RX8 437 yX8_xOf ∈ TB := TB_in (tb6_in 7 rfl) rfl
set_option maxRecDepth 100000 in
theorem ml_RX8_440 : Cond.methodLink RX8 440 yX8_yOf ∈ TB := TB_in (tb6_in 8 rfl) rfl
set_option maxRecDepth 100000 in
theorem ml_RX8_46 : Cond.methodLinkNest RX8 46 yX6_init "BalloonGrocers" ∈ NB := NB1_in 108 rfl rfl
set_option maxRecDepth 100000 in
theorem ml_RX8_58 : Cond.methodLinkNest RX8 58 yX5_init "BalloonGrocers" ∈ NB := NB1_in 215 rfl rfl
set_option maxRecDepth 100000 in
theorem ml_RX8_62 : Cond.methodLink RX8 62 yX8_putBytes ∈ TB := TB_in (tb2_in 36 rfl) rfl
set_option maxRecDepth 100000 in
theorem ml_RX8_66 : Cond.methodLink RX8 66 yX3_reads ∈ TB := TB_in (tb2_in 48 rfl) rfl
set_option maxRecDepth 100000 in
theorem ml_RX8_70 : Cond.methodLink RX8 70 yX8_forgetAll ∈ TB := TB_in (tb2_in 226 rfl) rfl
set_option maxRecDepth 100000 in
theorem ml_RX8_82 : Cond.methodLink RX8 82 yX6_hasLayer ∈ TB := TB_in (tb2_in 238 rfl) rfl
set_option maxRecDepth 100000 in
theorem ml_RX8_86 : Cond.methodLink RX8 86 yX6_hasHour ∈ TB := TB_in (tb3_in 2 rfl) rfl
set_option maxRecDepth 100000 in
theorem ml_RX8_89 : Cond.methodLink RX8 89 yX6_windAt ∈ TB := TB_in (tb3_in 6 rfl) rfl
set_option maxRecDepth 100000 in
theorem ml_RX8_93 : Cond.methodLink RX8 93 yX8_isWind ∈ TB := TB_in (tb3_in 14 rfl) rfl
set_option maxRecDepth 100000 in
theorem ml_RX8_99 : Cond.methodLink RX8 99 yX6_hasShop ∈ TB := TB_in (tb3_in 21 rfl) rfl
set_option maxRecDepth 100000 in
theorem ml_RX9_101 : Cond.methodLink RX9 101 yX9_isSlot ∈ TB := TB_in (tb7_in 115 rfl) rfl
set_option maxRecDepth 100000 in
theorem ml_RX9_105 : Cond.methodLink RX9 105 yX9_cut ∈ TB := TB_in (tb7_in 126 rfl) rfl
set_option maxRecDepth 100000 in
theorem ml_RX9_112 : Cond.methodLink RX9 112 yX9_four ∈ TB := TB_in (tb7_in 137 rfl) rfl
set_option maxRecDepth 100000 in
theorem ml_RX9_119 : Cond.methodLink RX9 119 yX9_isByte ∈ TB := TB_in (tb7_in 169 rfl) rfl
set_option maxRecDepth 100000 in
theorem ml_RX9_150 : Cond.methodLink RX9 150 yX9_is ∈ TB := TB_in (tb7_in 195 rfl) rfl
set_option maxRecDepth 100000 in
theorem ml_RX9_154 : Cond.methodLink RX9 154 yX9_next ∈ TB := TB_in (tb7_in 165 rfl) rfl
set_option maxRecDepth 100000 in
theorem ml_RX9_157 : Cond.methodLink RX9 157 yX9_takes ∈ TB := TB_in (tb7_in 191 rfl) rfl
set_option maxRecDepth 100000 in
theorem ml_RX9_160 : Cond.methodLink RX9 160 yX9_fails ∈ TB := TB_in (tb7_in 199 rfl) rfl
set_option maxRecDepth 100000 in
theorem ml_RX9_163 : Cond.methodLink RX9 163 yX9_asks ∈ TB := TB_in (tb7_in 187 rfl) rfl
set_option maxRecDepth 100000 in
theorem ml_RX9_167 : Cond.methodLink RX9 167 yX9_number ∈ TB := TB_in (tb7_in 208 rfl) rfl
set_option maxRecDepth 100000 in
theorem ml_RX9_178 : Cond.methodLink RX9 178 yX9_number_ ∈ TB := TB_in (tb7_in 204 rfl) rfl
set_option maxRecDepth 100000 in
theorem ml_RX9_181 : Cond.methodLink RX9 181 yX9_reads ∈ TB := TB_in (tb7_in 157 rfl) rfl
set_option maxRecDepth 100000 in
theorem ml_RX9_193 : Cond.methodLink RX9 193 yX9_hasRead ∈ TB := TB_in (tb7_in 223 rfl) rfl
set_option maxRecDepth 100000 in
theorem ml_RX9_199 : Cond.methodLink RX9 199 yX9_hourHere ∈ TB := TB_in (tb7_in 232 rfl) rfl
set_option maxRecDepth 100000 in
theorem ml_RX9_218 : Cond.methodLink RX9 218 yX9_xHere ∈ TB := TB_in (tb8_in 6 rfl) rfl
set_option maxRecDepth 100000 in
theorem ml_RX9_221 : Cond.methodLink RX9 221 yX9_yHere ∈ TB := TB_in (tb8_in 10 rfl) rfl
set_option maxRecDepth 100000 in
theorem ml_RX9_244 : Cond.methodLink RX9 244 yX9_windLine ∈ TB := TB_in (tb7_in 227 rfl) rfl
set_option maxRecDepth 100000 in
theorem ml_RX9_247 : Cond.methodLink RX9 247 yX9_shopLine ∈ TB := TB_in (tb8_in 1 rfl) rfl
set_option maxRecDepth 100000 in
theorem ml_RX9_250 : Cond.methodLink RX9 250 yX9_doorLine ∈ TB := TB_in (tb8_in 17 rfl) rfl
set_option maxRecDepth 100000 in
theorem ml_RX9_261 : Cond.methodLink RX9 261 yX9_fairLine ∈ TB := TB_in (tb8_in 26 rfl) rfl
set_option maxRecDepth 100000 in
theorem ml_RX9_266 : Cond.methodLink RX9 266 yX9_planLine ∈ TB := TB_in (tb8_in 32 rfl) rfl
set_option maxRecDepth 100000 in
theorem ml_RX9_269 : Cond.methodLink RX9 269 yX9_clears ∈ TB := TB_in (tb7_in 153 rfl) rfl
set_option maxRecDepth 100000 in
theorem ml_RX9_272 : Cond.methodLink RX9 272 yX9_begins ∈ TB := TB_in (tb7_in 161 rfl) rfl
set_option maxRecDepth 100000 in
theorem ml_RX9_275 : Cond.methodLink RX9 275 yX9_isGood ∈ TB := TB_in (tb7_in 178 rfl) rfl
set_option maxRecDepth 100000 in
theorem ml_RX9_279 : Cond.methodLink RX9 279 yX9_first ∈ TB := TB_in (tb7_in 182 rfl) rfl
set_option maxRecDepth 100000 in
theorem ml_RX9_282 : Cond.methodLink RX9 282 yX9_line ∈ TB := TB_in (tb7_in 216 rfl) rfl
set_option maxRecDepth 100000 in
theorem ml_RX9_285 : Cond.methodLink RX9 285 yX9_ends ∈ TB := TB_in (tb8_in 38 rfl) rfl
set_option maxRecDepth 100000 in
theorem ml_RX9_288 : Cond.methodLink RX9 288 yX9_isOver ∈ TB := TB_in (tb8_in 42 rfl) rfl
set_option maxRecDepth 100000 in
theorem ml_RX9_291 : Cond.methodLink RX9 291 yX9_copyValley ∈ TB := TB_in (tb8_in 46 rfl) rfl
set_option maxRecDepth 100000 in
theorem ml_RX9_294 : Cond.methodLink RX9 294 yX9_copyRow ∈ TB := TB_in (tb8_in 50 rfl) rfl
set_option maxRecDepth 100000 in
theorem ml_RX9_302 : Cond.methodLink RX9 302 yX9_isLayer ∈ TB := TB_in (tb8_in 57 rfl) rfl
set_option maxRecDepth 100000 in
theorem ml_RX9_305 : Cond.methodLink RX9 305 yX9_isHour ∈ TB := TB_in (tb8_in 61 rfl) rfl
set_option maxRecDepth 100000 in
theorem ml_RX9_308 : Cond.methodLink RX9 308 yX9_windOf ∈ TB := TB_in (tb8_in 65 rfl) rfl
set_option maxRecDepth 100000 in
theorem ml_RX9_311 : Cond.methodLink RX9 311 yX9_isWind ∈ TB := TB_in (tb8_in 73 rfl) rfl
set_option maxRecDepth 100000 in
theorem ml_RX9_314 : Cond.methodLink RX9 314 yX9_isShop ∈ TB := TB_in (tb8_in 81 rfl) rfl
set_option maxRecDepth 100000 in
theorem ml_RX9_319 : Cond.methodLink RX9 319 yX9_isAct ∈ TB := TB_in (tb8_in 94 rfl) rfl
set_option maxRecDepth 100000 in
theorem ml_RX9_322 : Cond.methodLink RX9 322 yX9_isValley ∈ TB := TB_in (tb8_in 102 rfl) rfl
set_option maxRecDepth 100000 in
theorem ml_RX9_331 : Cond.methodLink RX9 331 yX9_isColumn ∈ TB := TB_in (tb8_in 142 rfl) rfl
set_option maxRecDepth 100000 in
theorem ml_RX9_354 : Cond.methodLink RX9 354 yX9_hourOf ∈ TB := TB_in (tb8_in 130 rfl) rfl
set_option maxRecDepth 100000 in
theorem ml_RX9_357 : Cond.methodLink RX9 357 yX9_vainOf ∈ TB := TB_in (tb8_in 134 rfl) rfl
set_option maxRecDepth 100000 in
theorem ml_RX9_361 : Cond.methodLink RX9 361 yX9_carries ∈ TB := TB_in (tb8_in 138 rfl) rfl
set_option maxRecDepth 100000 in
theorem ml_RX9_364 : Cond.methodLink RX9 364 yX9_isCool ∈ TB := TB_in (tb8_in 146 rfl) rfl
set_option maxRecDepth 100000 in
theorem ml_RX9_367 : Cond.methodLink RX9 367 yX9_sells ∈ TB := TB_in (tb8_in 150 rfl) rfl
set_option maxRecDepth 100000 in
theorem ml_RX9_371 : Cond.methodLink RX9 371 yX9_doorAt ∈ TB := TB_in (tb8_in 154 rfl) rfl
set_option maxRecDepth 100000 in
theorem ml_RX9_374 : Cond.methodLink RX9 374 yX9_reachOf ∈ TB := TB_in (tb8_in 158 rfl) rfl
set_option maxRecDepth 100000 in
theorem ml_RX9_377 : Cond.methodLink RX9 377 yX9_earns ∈ TB := TB_in (tb8_in 162 rfl) rfl
set_option maxRecDepth 100000 in
theorem ml_RX9_380 : Cond.methodLink RX9 380 yX9_plainly ∈ TB := TB_in (tb8_in 122 rfl) rfl
set_option maxRecDepth 100000 in
theorem ml_RX9_383 : Cond.methodLink RX9 383 yX9_goes ∈ TB := TB_in (tb8_in 126 rfl) rfl
set_option maxRecDepth 100000 in
theorem ml_RX9_386 : Cond.methodLink RX9 386 yX9_isDoor ∈ TB := TB_in (tb8_in 114 rfl) rfl
set_option maxRecDepth 100000 in
theorem ml_RX9_389 : Cond.methodLink RX9 389 yX9_asTold ∈ TB := TB_in (tb8_in 118 rfl) rfl
set_option maxRecDepth 100000 in
theorem ml_RX9_394 : Cond.methodLink RX9 394 yX9_spotOf ∈ TB := TB_in (tb8_in 171 rfl) rfl
set_option maxRecDepth 100000 in
theorem ml_RX9_398 : Cond.methodLink RX9 398 yX9_moneyNow ∈ TB := TB_in (tb8_in 199 rfl) rfl
set_option maxRecDepth 100000 in
theorem ml_RX9_401 : Cond.methodLink RX9 401 yX9_areTwo ∈ TB := TB_in (tb8_in 211 rfl) rfl
set_option maxRecDepth 100000 in
theorem ml_RX9_426 : Cond.methodLink RX9 426 yX9_isBit ∈ TB := TB_in (tb9_in 2 rfl) rfl
set_option maxRecDepth 100000 in
theorem ml_RX9_429 : Cond.methodLink RX9 429 yX9_state ∈ TB := TB_in (tb9_in 9 rfl) rfl
set_option maxRecDepth 100000 in
theorem ml_RX9_432 : Cond.methodLink RX9 432 yX9_empties ∈ TB := TB_in (tb8_in 235 rfl) rfl
set_option maxRecDepth 100000 in
theorem ml_RX9_436 : Cond.methodLink RX9 436 yX9_marks ∈ TB := TB_in (tb8_in 238 rfl) rfl
set_option maxRecDepth 100000 in
theorem ml_RX9_439 : Cond.methodLink RX9 439 yX9_puts ∈ TB := TB_in (tb9_in 5 rfl) rfl
set_option maxRecDepth 100000 in
theorem ml_RX9_442 : Cond.methodLink RX9 442 yX9_lowest ∈ TB := TB_in (tb9_in 24 rfl) rfl
set_option maxRecDepth 100000 in
theorem ml_RX9_446 : Cond.methodLink RX9 446 yX9_reads_ ∈ TB := TB_in (tb9_in 27 rfl) rfl
set_option maxRecDepth 100000 in
theorem ml_RX9_448 : Cond.methodLink RX9 448 yX9_acts ∈ TB := TB_in (tb9_in 31 rfl) rfl
set_option maxRecDepth 100000 in
theorem ml_RX9_451 : Cond.methodLink RX9 451 yX9_isOn ∈ TB := TB_in (tb9_in 17 rfl) rfl
set_option maxRecDepth 100000 in
theorem ml_RX9_455 : Cond.methodLink RX9 455 yX9_isCell ∈ TB := TB_in (tb8_in 227 rfl) rfl
set_option maxRecDepth 100000 in
theorem ml_RX9_458 : Cond.methodLink RX9 458 yX9_starts ∈ TB := TB_in (tb8_in 231 rfl) rfl
set_option maxRecDepth 100000 in
theorem ml_RX9_461 : Cond.methodLink RX9 461 yX9_mostLeft ∈ TB := TB_in (tb9_in 13 rfl) rfl
set_option maxRecDepth 100000 in
theorem ml_RX9_464 : Cond.methodLink RX9 464 yX9_hourFree ∈ TB := TB_in (tb9_in 20 rfl) rfl
set_option maxRecDepth 100000 in
theorem ml_RX9_467 : Cond.methodLink RX9 467 yX9_soonestOf ∈ TB := TB_in (tb9_in 39 rfl) rfl
set_option maxRecDepth 100000 in
theorem ml_RX9_470 : Cond.methodLink RX9 470 yX9_actOf ∈ TB := TB_in (tb9_in 47 rfl) rfl
set_option maxRecDepth 100000 in
theorem ml_RX9_474 : Cond.methodLink RX9 474 yX9_freely ∈ TB := TB_in (tb9_in 55 rfl) rfl
set_option maxRecDepth 100000 in
theorem ml_RX9_477 : Cond.methodLink RX9 477 yX9_spotsNow ∈ TB := TB_in (tb9_in 59 rfl) rfl
set_option maxRecDepth 100000 in
theorem ml_RX9_481 : Cond.methodLink RX9 481 yX9_isGood_ ∈ TB := TB_in (tb9_in 80 rfl) rfl
set_option maxRecDepth 100000 in
theorem ml_RX9_485 : Cond.methodLink RX9 485 yX9_startsRows ∈ TB := TB_in (tb9_in 72 rfl) rfl
set_option maxRecDepth 100000 in
theorem ml_RX9_489 : Cond.methodLink RX9 489 yX9_hourRows ∈ TB := TB_in (tb9_in 76 rfl) rfl
set_option maxRecDepth 100000 in
theorem ml_RX9_492 : Cond.methodLink RX9 492 yX9_mostBy ∈ TB := TB_in (tb9_in 88 rfl) rfl
set_option maxRecDepth 100000 in
theorem ml_RX9_495 : Cond.methodLink RX9 495 yX9_isDoors ∈ TB := TB_in (tb9_in 104 rfl) rfl
set_option maxRecDepth 100000 in
theorem ml_RX9_498 : Cond.methodLink RX9 498 yX9_tourLeft ∈ TB := TB_in (tb9_in 108 rfl) rfl
set_option maxRecDepth 100000 in
theorem ml_RX9_503 : Cond.methodLink RX9 503 yX9_sizeOf ∈ TB := TB_in (tb9_in 121 rfl) rfl
set_option maxRecDepth 100000 in
theorem ml_RX9_506 : Cond.methodLink RX9 506 yX9_cellOf ∈ TB := TB_in (tb9_in 136 rfl) rfl
set_option maxRecDepth 100000 in
theorem ml_RX9_509 : Cond.methodLink RX9 509 yX9_laysCanBe ∈ TB := TB_in (tb9_in 132 rfl) rfl
set_option maxRecDepth 100000 in
theorem ml_RX9_512 : Cond.methodLink RX9 512 yX9_isNear ∈ TB := TB_in (tb9_in 140 rfl) rfl
set_option maxRecDepth 100000 in
theorem ml_RX9_516 : Cond.methodLink RX9 516 yX9_meetBy ∈ TB := TB_in (tb9_in 128 rfl) rfl
set_option maxRecDepth 100000 in
theorem ml_RX9_519 : Cond.methodLink RX9 519 yX9_landsOf ∈ TB := TB_in (tb9_in 152 rfl) rfl
set_option maxRecDepth 100000 in
theorem ml_RX9_522 : Cond.methodLink RX9 522 yX9_isDropped ∈ TB := TB_in (tb9_in 160 rfl) rfl
set_option maxRecDepth 100000 in
theorem ml_RX9_527 : Cond.methodLink RX9 527 yX9_isDrift ∈ TB := TB_in (tb9_in 176 rfl) rfl
set_option maxRecDepth 100000 in
theorem ml_RX9_530 : Cond.methodLink RX9 530 yX9_driftOf ∈ TB := TB_in (tb9_in 181 rfl) rfl
set_option maxRecDepth 100000 in
theorem ml_RX9_536 : Cond.methodLink RX9 536 yX9_whyNotRow ∈ TB := TB_in (tb9_in 197 rfl) rfl
set_option maxRecDepth 100000 in
theorem ml_RX9_539 : Cond.methodLink RX9 539 yX9_isSo ∈ TB := TB_in (tb9_in 201 rfl) rfl
set_option maxRecDepth 100000 in
theorem ml_RX9_542 : Cond.methodLink RX9 542 yX9_layersBy ∈ TB := TB_in (tb9_in 193 rfl) rfl
set_option maxRecDepth 100000 in
theorem ml_RX9_546 : Cond.methodLink RX9 546 yX9_moneyBy ∈ TB := TB_in (tb9_in 223 rfl) rfl
set_option maxRecDepth 100000 in
theorem ml_RX9_549 : Cond.methodLink RX9 549 yX9_moneyPlain ∈ TB := TB_in (tb9_in 227 rfl) rfl
set_option maxRecDepth 100000 in
theorem ml_RX9_562 : Cond.methodLink RX9 562 yX9_isDraw ∈ TB := TB_in (tb10_in 11 rfl) rfl
set_option maxRecDepth 100000 in
theorem ml_RX9_565 : Cond.methodLink RX9 565 yX9_draws ∈ TB := TB_in (tb10_in 16 rfl) rfl
set_option maxRecDepth 100000 in
theorem ml_RX9_97 : Cond.methodLink RX9 97 yX9_in ∈ TB := TB_in (tb7_in 119 rfl) rfl
set_option maxRecDepth 100000 in
theorem mw_RX1_113 : MW Lib.Math.max.name Lib.Math.max.code RX1 113 := ⟨TB_in (tb5_in 76 rfl) rfl, TB_in (tb3_in 119 rfl) rfl, TB_in (tb1_in 7 rfl) rfl, TB_in (tb3_in 120 rfl) rfl⟩
set_option maxRecDepth 100000 in
theorem mw_RX2_30 : MW Lib.Math.min.name Lib.Math.min.code RX2 30 := ⟨TB_in (tb5_in 1 rfl) rfl, TB_in (tb2_in 53 rfl) rfl, TB_in (tb1_in 7 rfl) rfl, TB_in (tb2_in 54 rfl) rfl⟩
set_option maxRecDepth 100000 in
theorem mw_RX3_19 : MW Lib.Math.min.name Lib.Math.min.code RX3 19 := ⟨TB_in (tb2_in 52 rfl) rfl, TB_in (tb2_in 53 rfl) rfl, TB_in (tb1_in 7 rfl) rfl, TB_in (tb2_in 54 rfl) rfl⟩
set_option maxRecDepth 100000 in
theorem mw_RX4_127 : MW Lib.Math.min.name Lib.Math.min.code RX4 127 := ⟨TB_in (tb4_in 157 rfl) rfl, TB_in (tb2_in 53 rfl) rfl, TB_in (tb1_in 7 rfl) rfl, TB_in (tb2_in 54 rfl) rfl⟩
set_option maxRecDepth 100000 in
theorem mw_RX4_133 : MW Lib.Math.max.name Lib.Math.max.code RX4 133 := ⟨TB_in (tb4_in 158 rfl) rfl, TB_in (tb3_in 119 rfl) rfl, TB_in (tb1_in 7 rfl) rfl, TB_in (tb3_in 120 rfl) rfl⟩
set_option maxRecDepth 100000 in
theorem mw_RX6_72 : MW Lib.Math.max.name Lib.Math.max.code RX6 72 := ⟨TB_in (tb3_in 118 rfl) rfl, TB_in (tb3_in 119 rfl) rfl, TB_in (tb1_in 7 rfl) rfl, TB_in (tb3_in 120 rfl) rfl⟩
set_option maxRecDepth 100000 in
theorem mw_RX7_135 : MW Lib.Math.min.name Lib.Math.min.code RX7 135 := ⟨TB_in (tb3_in 121 rfl) rfl, TB_in (tb2_in 53 rfl) rfl, TB_in (tb1_in 7 rfl) rfl, TB_in (tb2_in 54 rfl) rfl⟩
set_option maxRecDepth 100000 in
theorem mw_RX8_317 : MW Lib.Math.max.name Lib.Math.max.code RX8 317 := ⟨TB_in (tb5_in 224 rfl) rfl, TB_in (tb3_in 119 rfl) rfl, TB_in (tb1_in 7 rfl) rfl, TB_in (tb3_in 120 rfl) rfl⟩
set_option maxRecDepth 100000 in
theorem mw_RX8_343 : MW Lib.Math.min.name Lib.Math.min.code RX8 343 := ⟨TB_in (tb5_in 225 rfl) rfl, TB_in (tb2_in 53 rfl) rfl, TB_in (tb1_in 7 rfl) rfl, TB_in (tb2_in 54 rfl) rfl⟩
set_option maxRecDepth 100000 in
theorem nc_RL_10 : NC RL 10 9 52 df9 := ⟨RX9, TX9, tyX9, rfl, by decide, inT9, tyX9_ok, TB_in (tb6_in 188 rfl) rfl, TB_in (tb6_in 189 rfl) rfl, TB_in (tb1_in 6 rfl) rfl, by decide +kernel⟩
set_option maxRecDepth 100000 in
theorem nc_RL_7 : NC RL 7 8 13 df8 := ⟨RX8, TX8, tyX8, rfl, by decide, inT8, tyX8_ok, TB_in (tb1_in 19 rfl) rfl, TB_in (tb1_in 20 rfl) rfl, TB_in (tb1_in 1 rfl) rfl, by decide +kernel⟩
set_option maxRecDepth 100000 in
theorem nc_RX4_15 : NC RX4 15 0 2 df0 := ⟨RX0, TX0, tyX0, rfl, by decide, inT0, tyX0_ok, TB_in (tb4_in 38 rfl) rfl, TB_in (tb4_in 39 rfl) rfl, TB_in (tb1_in 14 rfl) rfl, by decide +kernel⟩
set_option maxRecDepth 100000 in
theorem nc_RX4_22 : NC RX4 22 1 10 df1 := ⟨RX1, TX1, tyX1, rfl, by decide, inT1, tyX1_ok, TB_in (tb4_in 51 rfl) rfl, TB_in (tb4_in 52 rfl) rfl, TB_in (tb1_in 15 rfl) rfl, by decide +kernel⟩
set_option maxRecDepth 100000 in
theorem nc_RX4_29 : NC RX4 29 2 5 df2 := ⟨RX2, TX2, tyX2, rfl, by decide, inT2, tyX2_ok, TB_in (tb4_in 88 rfl) rfl, TB_in (tb4_in 90 rfl) rfl, TB_in (tb1_in 16 rfl) rfl, by decide +kernel⟩
set_option maxRecDepth 100000 in
theorem nc_RX8_13 : NC RX8 13 3 10 df3 := ⟨RX3, TX3, tyX3, rfl, by decide, inT3, tyX3_ok, TB_in (tb1_in 27 rfl) rfl, TB_in (tb1_in 28 rfl) rfl, TB_in (tb1_in 2 rfl) rfl, by decide +kernel⟩
set_option maxRecDepth 100000 in
theorem nc_RX8_20 : NC RX8 20 7 9 df7 := ⟨RX7, TX7, tyX7, rfl, by decide, inT7, tyX7_ok, TB_in (tb1_in 67 rfl) rfl, TB_in (tb1_in 68 rfl) rfl, TB_in (tb1_in 3 rfl) rfl, by decide +kernel⟩
set_option maxRecDepth 100000 in
theorem nc_RX8_213 : NC RX8 213 4 11 df4 := ⟨RX4, TX4, tyX4, rfl, by decide, inT4, tyX4_ok, TB_in (tb4_in 32 rfl) rfl, TB_in (tb4_in 33 rfl) rfl, TB_in (tb1_in 13 rfl) rfl, by decide +kernel⟩
set_option maxRecDepth 100000 in
theorem nc_RX8_30 : NC RX8 30 6 19 df6 := ⟨RX6, TX6, tyX6, rfl, by decide, inT6, tyX6_ok, TB_in (tb1_in 103 rfl) rfl, TB_in (tb1_in 107 rfl) rfl, TB_in (tb1_in 4 rfl) rfl, by decide +kernel⟩
set_option maxRecDepth 100000 in
theorem nc_RX8_40 : NC RX8 40 5 3 df5 := ⟨RX5, TX5, tyX5, rfl, by decide, inT5, tyX5_ok, TB_in (tb1_in 105 rfl) rfl, TB_in (tb1_in 214 rfl) rfl, TB_in (tb1_in 5 rfl) rfl, by decide +kernel⟩
set_option maxRecDepth 100000 in
theorem oi_RX0_5 : oiW RX0 5 := ⟨TB_in (tb4_in 43 rfl) rfl, TB_in (tb1_in 25 rfl) rfl, TB_in (tb1_in 26 rfl) rfl⟩
set_option maxRecDepth 100000 in
theorem oi_RX1_3 : oiW RX1 3 := ⟨TB_in (tb4_in 56 rfl) rfl, TB_in (tb1_in 25 rfl) rfl, TB_in (tb1_in 26 rfl) rfl⟩
set_option maxRecDepth 100000 in
theorem oi_RX2_3 : oiW RX2 3 := ⟨TB_in (tb4_in 94 rfl) rfl, TB_in (tb1_in 25 rfl) rfl, TB_in (tb1_in 26 rfl) rfl⟩
set_option maxRecDepth 100000 in
theorem oi_RX3_3 : oiW RX3 3 := ⟨TB_in (tb1_in 32 rfl) rfl, TB_in (tb1_in 25 rfl) rfl, TB_in (tb1_in 26 rfl) rfl⟩
set_option maxRecDepth 100000 in
theorem oi_RX4_3 : oiW RX4 3 := ⟨TB_in (tb4_in 37 rfl) rfl, TB_in (tb1_in 25 rfl) rfl, TB_in (tb1_in 26 rfl) rfl⟩
set_option maxRecDepth 100000 in
theorem oi_RX5_3 : oiW RX5 3 := ⟨TB_in (tb1_in 218 rfl) rfl, TB_in (tb1_in 25 rfl) rfl, TB_in (tb1_in 26 rfl) rfl⟩
set_option maxRecDepth 100000 in
theorem oi_RX6_3 : oiW RX6 3 := ⟨TB_in (tb1_in 111 rfl) rfl, TB_in (tb1_in 25 rfl) rfl, TB_in (tb1_in 26 rfl) rfl⟩
set_option maxRecDepth 100000 in
theorem oi_RX7_3 : oiW RX7 3 := ⟨TB_in (tb1_in 72 rfl) rfl, TB_in (tb1_in 25 rfl) rfl, TB_in (tb1_in 26 rfl) rfl⟩
set_option maxRecDepth 100000 in
theorem oi_RX8_1 : oiW RX8 1 := ⟨TB_in (tb1_in 24 rfl) rfl, TB_in (tb1_in 25 rfl) rfl, TB_in (tb1_in 26 rfl) rfl⟩
set_option maxRecDepth 100000 in
theorem oi_RX9_1 : oiW RX9 1 := ⟨TB_in (tb6_in 193 rfl) rfl, TB_in (tb1_in 25 rfl) rfl, TB_in (tb1_in 26 rfl) rfl⟩
set_option maxRecDepth 100000 in
theorem wc_RX5_22 : WC RX5 22 := ⟨TB_in (tb6_in 187 rfl) rfl, TB_in (tb3_in 57 rfl) rfl, TB_in (tb3_in 56 rfl) rfl, TB_in (tb1_in 12 rfl) rfl⟩
set_option maxRecDepth 100000 in
theorem wc_RX6_110 : WC RX6 110 := ⟨TB_in (tb6_in 90 rfl) rfl, TB_in (tb3_in 57 rfl) rfl, TB_in (tb3_in 56 rfl) rfl, TB_in (tb1_in 12 rfl) rfl⟩
set_option maxRecDepth 100000 in
theorem wc_RX7_61 : WC RX7 61 := ⟨TB_in (tb3_in 55 rfl) rfl, TB_in (tb3_in 57 rfl) rfl, TB_in (tb3_in 56 rfl) rfl, TB_in (tb1_in 12 rfl) rfl⟩
set_option maxRecDepth 100000 in
theorem kziX0_init : KZi MX0_init 0 := ⟨⟨TB_in (tb4_in 42 rfl) rfl, TB_in (tb1_in 14 rfl) rfl, by decide +kernel, by decide +kernel, by decide +kernel⟩, TB_in (tb4_in 41 rfl) rfl, rfl, rfl⟩
set_option maxRecDepth 100000 in
theorem kzvX0_fit : KZv MX0_fit 1 0 := ⟨⟨TB_in (tb4_in 163 rfl) rfl, TB_in (tb1_in 14 rfl) rfl, by decide +kernel, by decide +kernel, by decide +kernel⟩, TB_in (tb4_in 161 rfl) rfl, TB_in (tb4_in 162 rfl) rfl, ⟨_, rfl⟩, by decide⟩
set_option maxRecDepth 100000 in
theorem kzvX0_carriedSet : KZv MX0_carriedSet 2 0 := ⟨⟨TB_in (tb4_in 201 rfl) rfl, TB_in (tb1_in 14 rfl) rfl, by decide +kernel, by decide +kernel, by decide +kernel⟩, TB_in (tb4_in 199 rfl) rfl, TB_in (tb4_in 200 rfl) rfl, ⟨_, rfl⟩, by decide⟩
set_option maxRecDepth 100000 in
theorem kzvX0_sourcesOf : KZv MX0_sourcesOf 2 0 := ⟨⟨TB_in (tb5_in 81 rfl) rfl, TB_in (tb1_in 14 rfl) rfl, by decide +kernel, by decide +kernel, by decide +kernel⟩, TB_in (tb5_in 79 rfl) rfl, TB_in (tb5_in 80 rfl) rfl, ⟨_, rfl⟩, by decide⟩
set_option maxRecDepth 100000 in
theorem kzsX0_reverseOf : KZs MX0_reverseOf 1 := ⟨⟨TB_in (tb5_in 84 rfl) rfl, TB_in (tb1_in 14 rfl) rfl, by decide +kernel, by decide +kernel, by decide +kernel⟩, TB_in (tb5_in 83 rfl) rfl⟩
set_option maxRecDepth 100000 in
theorem kzsX0_shifted : KZs MX0_shifted 2 := ⟨⟨TB_in (tb4_in 205 rfl) rfl, TB_in (tb1_in 14 rfl) rfl, by decide +kernel, by decide +kernel, by decide +kernel⟩, TB_in (tb4_in 204 rfl) rfl⟩
set_option maxRecDepth 100000 in
theorem kzsX0_widened : KZs MX0_widened 1 := ⟨⟨TB_in (tb5_in 228 rfl) rfl, TB_in (tb1_in 14 rfl) rfl, by decide +kernel, by decide +kernel, by decide +kernel⟩, TB_in (tb5_in 227 rfl) rfl⟩
set_option maxRecDepth 100000 in
theorem kziX1_init : KZi MX1_init 0 := ⟨⟨TB_in (tb4_in 55 rfl) rfl, TB_in (tb1_in 15 rfl) rfl, by decide +kernel, by decide +kernel, by decide +kernel⟩, TB_in (tb4_in 54 rfl) rfl, rfl, rfl⟩
set_option maxRecDepth 100000 in
theorem kzvX1_take : KZv MX1_take 2 1 := ⟨⟨TB_in (tb5_in 39 rfl) rfl, TB_in (tb1_in 15 rfl) rfl, by decide +kernel, by decide +kernel, by decide +kernel⟩, TB_in (tb5_in 37 rfl) rfl, TB_in (tb5_in 38 rfl) rfl, ⟨_, rfl⟩, by decide⟩
set_option maxRecDepth 100000 in
theorem kzvX1_knows : KZv MX1_knows 3 1 := ⟨⟨TB_in (tb5_in 35 rfl) rfl, TB_in (tb1_in 15 rfl) rfl, by decide +kernel, by decide +kernel, by decide +kernel⟩, TB_in (tb5_in 33 rfl) rfl, TB_in (tb5_in 34 rfl) rfl, ⟨_, rfl⟩, by decide⟩
set_option maxRecDepth 100000 in
theorem kzvX1_remember : KZv MX1_remember 3 1 := ⟨⟨TB_in (tb5_in 98 rfl) rfl, TB_in (tb1_in 15 rfl) rfl, by decide +kernel, by decide +kernel, by decide +kernel⟩, TB_in (tb5_in 96 rfl) rfl, TB_in (tb5_in 97 rfl) rfl, ⟨_, rfl⟩, by decide⟩
set_option maxRecDepth 100000 in
theorem kzvX1_actIn : KZv MX1_actIn 1 1 := ⟨⟨TB_in (tb5_in 102 rfl) rfl, TB_in (tb1_in 15 rfl) rfl, by decide +kernel, by decide +kernel, by decide +kernel⟩, TB_in (tb5_in 100 rfl) rfl, TB_in (tb5_in 101 rfl) rfl, ⟨_, rfl⟩, by decide⟩
set_option maxRecDepth 100000 in
theorem kzvX1_find : KZv MX1_find 5 1 := ⟨⟨TB_in (tb5_in 43 rfl) rfl, TB_in (tb1_in 15 rfl) rfl, by decide +kernel, by decide +kernel, by decide +kernel⟩, TB_in (tb5_in 41 rfl) rfl, TB_in (tb5_in 42 rfl) rfl, ⟨_, rfl⟩, by decide⟩
set_option maxRecDepth 100000 in
theorem kzvX1_placeOf : KZv MX1_placeOf 4 1 := ⟨⟨TB_in (tb5_in 51 rfl) rfl, TB_in (tb1_in 15 rfl) rfl, by decide +kernel, by decide +kernel, by decide +kernel⟩, TB_in (tb5_in 50 rfl) rfl, TB_in (List.mem_append_left _ (List.mem_of_getElem? (i := 42) rfl)) rfl, ⟨_, rfl⟩, by decide⟩
set_option maxRecDepth 100000 in
theorem kzvX1_markHour : KZv MX1_markHour 1 1 := ⟨⟨TB_in (tb5_in 55 rfl) rfl, TB_in (tb1_in 15 rfl) rfl, by decide +kernel, by decide +kernel, by decide +kernel⟩, TB_in (tb5_in 54 rfl) rfl, TB_in (List.mem_append_left _ (List.mem_of_getElem? (i := 43) rfl)) rfl, ⟨_, rfl⟩, by decide⟩
set_option maxRecDepth 100000 in
theorem kzvX1_leading : KZv MX1_leading 4 1 := ⟨⟨TB_in (tb5_in 59 rfl) rfl, TB_in (tb1_in 15 rfl) rfl, by decide +kernel, by decide +kernel, by decide +kernel⟩, TB_in (tb5_in 58 rfl) rfl, TB_in (List.mem_append_left _ (List.mem_of_getElem? (i := 44) rfl)) rfl, ⟨_, rfl⟩, by decide⟩
set_option maxRecDepth 100000 in
theorem kzvX1_canAct : KZv MX1_canAct 4 1 := ⟨⟨TB_in (tb5_in 63 rfl) rfl, TB_in (tb1_in 15 rfl) rfl, by decide +kernel, by decide +kernel, by decide +kernel⟩, TB_in (tb5_in 62 rfl) rfl, TB_in (List.mem_append_left _ (List.mem_of_getElem? (i := 45) rfl)) rfl, ⟨_, rfl⟩, by decide⟩
set_option maxRecDepth 100000 in
theorem kzsX1_levelBy : KZs MX1_levelBy 2 := ⟨⟨TB_in (tb5_in 66 rfl) rfl, TB_in (tb1_in 15 rfl) rfl, by decide +kernel, by decide +kernel, by decide +kernel⟩, TB_in (tb5_in 65 rfl) rfl⟩
set_option maxRecDepth 100000 in
theorem kzvX1_goalOf : KZv MX1_goalOf 5 1 := ⟨⟨TB_in (tb5_in 70 rfl) rfl, TB_in (tb1_in 15 rfl) rfl, by decide +kernel, by decide +kernel, by decide +kernel⟩, TB_in (tb5_in 69 rfl) rfl, TB_in (List.mem_append_left _ (List.mem_of_getElem? (i := 46) rfl)) rfl, ⟨_, rfl⟩, by decide⟩
set_option maxRecDepth 100000 in
theorem kzvX1_cooled : KZv MX1_cooled 2 1 := ⟨⟨TB_in (tb5_in 74 rfl) rfl, TB_in (tb1_in 15 rfl) rfl, by decide +kernel, by decide +kernel, by decide +kernel⟩, TB_in (tb5_in 73 rfl) rfl, TB_in (List.mem_append_left _ (List.mem_of_getElem? (i := 47) rfl)) rfl, ⟨_, rfl⟩, by decide⟩
set_option maxRecDepth 100000 in
theorem kzvX1_walk : KZv MX1_walk 1 1 := ⟨⟨TB_in (tb5_in 88 rfl) rfl, TB_in (tb1_in 15 rfl) rfl, by decide +kernel, by decide +kernel, by decide +kernel⟩, TB_in (tb5_in 87 rfl) rfl, TB_in (List.mem_append_left _ (List.mem_of_getElem? (i := 48) rfl)) rfl, ⟨_, rfl⟩, by decide⟩
set_option maxRecDepth 100000 in
theorem kzvX1_firstAct : KZv MX1_firstAct 5 1 := ⟨⟨TB_in (tb5_in 93 rfl) rfl, TB_in (tb1_in 15 rfl) rfl, by decide +kernel, by decide +kernel, by decide +kernel⟩, TB_in (tb5_in 92 rfl) rfl, TB_in (List.mem_append_left _ (List.mem_of_getElem? (i := 49) rfl)) rfl, ⟨_, rfl⟩, by decide⟩
set_option maxRecDepth 100000 in
theorem kziX2_init : KZi MX2_init 0 := ⟨⟨TB_in (tb4_in 93 rfl) rfl, TB_in (tb1_in 16 rfl) rfl, by decide +kernel, by decide +kernel, by decide +kernel⟩, TB_in (tb4_in 92 rfl) rfl, rfl, rfl⟩
set_option maxRecDepth 100000 in
theorem kzsX2_placeOf : KZs MX2_placeOf 3 := ⟨⟨TB_in (tb4_in 221 rfl) rfl, TB_in (tb1_in 16 rfl) rfl, by decide +kernel, by decide +kernel, by decide +kernel⟩, TB_in (tb4_in 220 rfl) rfl⟩
set_option maxRecDepth 100000 in
theorem kzvX2_clearCells : KZv MX2_clearCells 0 2 := ⟨⟨TB_in (tb4_in 152 rfl) rfl, TB_in (tb1_in 16 rfl) rfl, by decide +kernel, by decide +kernel, by decide +kernel⟩, TB_in (tb4_in 150 rfl) rfl, TB_in (tb4_in 151 rfl) rfl, ⟨_, rfl⟩, by decide⟩
set_option maxRecDepth 100000 in
theorem kzvX2_addCells : KZv MX2_addCells 4 2 := ⟨⟨TB_in (tb4_in 218 rfl) rfl, TB_in (tb1_in 16 rfl) rfl, by decide +kernel, by decide +kernel, by decide +kernel⟩, TB_in (tb4_in 216 rfl) rfl, TB_in (tb4_in 217 rfl) rfl, ⟨_, rfl⟩, by decide⟩
set_option maxRecDepth 100000 in
theorem kzvX2_columnsAt : KZv MX2_columnsAt 2 2 := ⟨⟨TB_in (tb5_in 110 rfl) rfl, TB_in (tb1_in 16 rfl) rfl, by decide +kernel, by decide +kernel, by decide +kernel⟩, TB_in (tb5_in 108 rfl) rfl, TB_in (tb5_in 109 rfl) rfl, ⟨_, rfl⟩, by decide⟩
set_option maxRecDepth 100000 in
theorem kzvX2_leastAt : KZv MX2_leastAt 3 2 := ⟨⟨TB_in (tb5_in 14 rfl) rfl, TB_in (tb1_in 16 rfl) rfl, by decide +kernel, by decide +kernel, by decide +kernel⟩, TB_in (tb5_in 12 rfl) rfl, TB_in (tb5_in 13 rfl) rfl, ⟨_, rfl⟩, by decide⟩
set_option maxRecDepth 100000 in
theorem kzvX2_leastOfAll : KZv MX2_leastOfAll 3 2 := ⟨⟨TB_in (tb5_in 10 rfl) rfl, TB_in (tb1_in 16 rfl) rfl, by decide +kernel, by decide +kernel, by decide +kernel⟩, TB_in (tb5_in 8 rfl) rfl, TB_in (tb5_in 9 rfl) rfl, ⟨_, rfl⟩, by decide⟩
set_option maxRecDepth 100000 in
theorem kzvX2_soonestOf : KZv MX2_soonestOf 3 2 := ⟨⟨TB_in (tb5_in 22 rfl) rfl, TB_in (tb1_in 16 rfl) rfl, by decide +kernel, by decide +kernel, by decide +kernel⟩, TB_in (tb5_in 20 rfl) rfl, TB_in (tb5_in 21 rfl) rfl, ⟨_, rfl⟩, by decide⟩
set_option maxRecDepth 100000 in
theorem kzvX2_clearTours : KZv MX2_clearTours 0 2 := ⟨⟨TB_in (tb5_in 153 rfl) rfl, TB_in (tb1_in 16 rfl) rfl, by decide +kernel, by decide +kernel, by decide +kernel⟩, TB_in (tb5_in 151 rfl) rfl, TB_in (tb5_in 152 rfl) rfl, ⟨_, rfl⟩, by decide⟩
set_option maxRecDepth 100000 in
theorem kzvX2_addTour : KZv MX2_addTour 3 2 := ⟨⟨TB_in (tb5_in 0 rfl) rfl, TB_in (tb1_in 16 rfl) rfl, by decide +kernel, by decide +kernel, by decide +kernel⟩, TB_in (tb4_in 238 rfl) rfl, TB_in (tb4_in 239 rfl) rfl, ⟨_, rfl⟩, by decide⟩
set_option maxRecDepth 100000 in
theorem kzvX2_spreadTours : KZv MX2_spreadTours 0 2 := ⟨⟨TB_in (tb5_in 157 rfl) rfl, TB_in (tb1_in 16 rfl) rfl, by decide +kernel, by decide +kernel, by decide +kernel⟩, TB_in (tb5_in 155 rfl) rfl, TB_in (tb5_in 156 rfl) rfl, ⟨_, rfl⟩, by decide⟩
set_option maxRecDepth 100000 in
theorem kzvX2_sandOfTour : KZv MX2_sandOfTour 1 2 := ⟨⟨TB_in (tb5_in 162 rfl) rfl, TB_in (tb1_in 16 rfl) rfl, by decide +kernel, by decide +kernel, by decide +kernel⟩, TB_in (tb5_in 160 rfl) rfl, TB_in (tb5_in 161 rfl) rfl, ⟨_, rfl⟩, by decide⟩
set_option maxRecDepth 100000 in
theorem kzvX2_hourOfTour : KZv MX2_hourOfTour 1 2 := ⟨⟨TB_in (tb5_in 170 rfl) rfl, TB_in (tb1_in 16 rfl) rfl, by decide +kernel, by decide +kernel, by decide +kernel⟩, TB_in (tb5_in 168 rfl) rfl, TB_in (tb5_in 169 rfl) rfl, ⟨_, rfl⟩, by decide⟩
set_option maxRecDepth 100000 in
theorem kzvX2_canTour : KZv MX2_canTour 2 2 := ⟨⟨TB_in (tb5_in 181 rfl) rfl, TB_in (tb1_in 16 rfl) rfl, by decide +kernel, by decide +kernel, by decide +kernel⟩, TB_in (tb5_in 179 rfl) rfl, TB_in (tb5_in 180 rfl) rfl, ⟨_, rfl⟩, by decide⟩
set_option maxRecDepth 100000 in
theorem kziX3_init : KZi MX3_init 0 := ⟨⟨TB_in (tb1_in 31 rfl) rfl, TB_in (tb1_in 2 rfl) rfl, by decide +kernel, by decide +kernel, by decide +kernel⟩, TB_in (tb1_in 30 rfl) rfl, rfl, rfl⟩
set_option maxRecDepth 100000 in
theorem kzvX3_reads : KZv MX3_reads 3 3 := ⟨⟨TB_in (tb2_in 51 rfl) rfl, TB_in (tb1_in 2 rfl) rfl, by decide +kernel, by decide +kernel, by decide +kernel⟩, TB_in (tb2_in 49 rfl) rfl, TB_in (tb2_in 50 rfl) rfl, ⟨_, rfl⟩, by decide⟩
set_option maxRecDepth 100000 in
theorem kzvX3_readLine : KZv MX3_readLine 0 3 := ⟨⟨TB_in (tb2_in 73 rfl) rfl, TB_in (tb1_in 2 rfl) rfl, by decide +kernel, by decide +kernel, by decide +kernel⟩, TB_in (tb2_in 72 rfl) rfl, TB_in (List.mem_append_left _ (List.mem_of_getElem? (i := 2) rfl)) rfl, ⟨_, rfl⟩, by decide⟩
set_option maxRecDepth 100000 in
theorem kzvX3_readSizes : KZv MX3_readSizes 0 3 := ⟨⟨TB_in (tb2_in 77 rfl) rfl, TB_in (tb1_in 2 rfl) rfl, by decide +kernel, by decide +kernel, by decide +kernel⟩, TB_in (tb2_in 76 rfl) rfl, TB_in (List.mem_append_left _ (List.mem_of_getElem? (i := 3) rfl)) rfl, ⟨_, rfl⟩, by decide⟩
set_option maxRecDepth 100000 in
theorem kzvX3_readSells : KZv MX3_readSells 0 3 := ⟨⟨TB_in (tb2_in 152 rfl) rfl, TB_in (tb1_in 2 rfl) rfl, by decide +kernel, by decide +kernel, by decide +kernel⟩, TB_in (tb2_in 151 rfl) rfl, TB_in (List.mem_append_left _ (List.mem_of_getElem? (i := 8) rfl)) rfl, ⟨_, rfl⟩, by decide⟩
set_option maxRecDepth 100000 in
theorem kzvX3_readWind : KZv MX3_readWind 0 3 := ⟨⟨TB_in (tb2_in 159 rfl) rfl, TB_in (tb1_in 2 rfl) rfl, by decide +kernel, by decide +kernel, by decide +kernel⟩, TB_in (tb2_in 158 rfl) rfl, TB_in (List.mem_append_left _ (List.mem_of_getElem? (i := 9) rfl)) rfl, ⟨_, rfl⟩, by decide⟩
set_option maxRecDepth 100000 in
theorem kzvX3_takeWind : KZv MX3_takeWind 0 3 := ⟨⟨TB_in (tb2_in 164 rfl) rfl, TB_in (tb1_in 2 rfl) rfl, by decide +kernel, by decide +kernel, by decide +kernel⟩, TB_in (tb2_in 163 rfl) rfl, TB_in (List.mem_append_left _ (List.mem_of_getElem? (i := 10) rfl)) rfl, ⟨_, rfl⟩, by decide⟩
set_option maxRecDepth 100000 in
theorem kzvX3_windWord : KZv MX3_windWord 0 3 := ⟨⟨TB_in (tb2_in 168 rfl) rfl, TB_in (tb1_in 2 rfl) rfl, by decide +kernel, by decide +kernel, by decide +kernel⟩, TB_in (tb2_in 167 rfl) rfl, TB_in (List.mem_append_left _ (List.mem_of_getElem? (i := 11) rfl)) rfl, ⟨_, rfl⟩, by decide⟩
set_option maxRecDepth 100000 in
theorem kzvX3_readShop : KZv MX3_readShop 0 3 := ⟨⟨TB_in (tb2_in 178 rfl) rfl, TB_in (tb1_in 2 rfl) rfl, by decide +kernel, by decide +kernel, by decide +kernel⟩, TB_in (tb2_in 177 rfl) rfl, TB_in (List.mem_append_left _ (List.mem_of_getElem? (i := 12) rfl)) rfl, ⟨_, rfl⟩, by decide⟩
set_option maxRecDepth 100000 in
theorem kzvX3_readDoor : KZv MX3_readDoor 0 3 := ⟨⟨TB_in (tb2_in 187 rfl) rfl, TB_in (tb1_in 2 rfl) rfl, by decide +kernel, by decide +kernel, by decide +kernel⟩, TB_in (tb2_in 186 rfl) rfl, TB_in (List.mem_append_left _ (List.mem_of_getElem? (i := 13) rfl)) rfl, ⟨_, rfl⟩, by decide⟩
set_option maxRecDepth 100000 in
theorem kzvX3_readFair : KZv MX3_readFair 0 3 := ⟨⟨TB_in (tb2_in 205 rfl) rfl, TB_in (tb1_in 2 rfl) rfl, by decide +kernel, by decide +kernel, by decide +kernel⟩, TB_in (tb2_in 204 rfl) rfl, TB_in (List.mem_append_left _ (List.mem_of_getElem? (i := 14) rfl)) rfl, ⟨_, rfl⟩, by decide⟩
set_option maxRecDepth 100000 in
theorem kzvX3_readPlan : KZv MX3_readPlan 0 3 := ⟨⟨TB_in (tb2_in 211 rfl) rfl, TB_in (tb1_in 2 rfl) rfl, by decide +kernel, by decide +kernel, by decide +kernel⟩, TB_in (tb2_in 210 rfl) rfl, TB_in (List.mem_append_left _ (List.mem_of_getElem? (i := 15) rfl)) rfl, ⟨_, rfl⟩, by decide⟩
set_option maxRecDepth 100000 in
theorem kzvX3_takeWord : KZv MX3_takeWord 1 3 := ⟨⟨TB_in (tb2_in 82 rfl) rfl, TB_in (tb1_in 2 rfl) rfl, by decide +kernel, by decide +kernel, by decide +kernel⟩, TB_in (tb2_in 81 rfl) rfl, TB_in (List.mem_append_left _ (List.mem_of_getElem? (i := 4) rfl)) rfl, ⟨_, rfl⟩, by decide⟩
set_option maxRecDepth 100000 in
theorem kzvX3_takeSign : KZv MX3_takeSign 0 3 := ⟨⟨TB_in (tb2_in 221 rfl) rfl, TB_in (tb1_in 2 rfl) rfl, by decide +kernel, by decide +kernel, by decide +kernel⟩, TB_in (tb2_in 220 rfl) rfl, TB_in (List.mem_append_left _ (List.mem_of_getElem? (i := 16) rfl)) rfl, ⟨_, rfl⟩, by decide⟩
set_option maxRecDepth 100000 in
theorem kzvX3_takeNumber : KZv MX3_takeNumber 2 3 := ⟨⟨TB_in (tb2_in 143 rfl) rfl, TB_in (tb1_in 2 rfl) rfl, by decide +kernel, by decide +kernel, by decide +kernel⟩, TB_in (tb2_in 142 rfl) rfl, TB_in (List.mem_append_left _ (List.mem_of_getElem? (i := 7) rfl)) rfl, ⟨_, rfl⟩, by decide⟩
set_option maxRecDepth 100000 in
theorem kzvX3_fail : KZv MX3_fail 2 3 := ⟨⟨TB_in (tb2_in 138 rfl) rfl, TB_in (tb1_in 2 rfl) rfl, by decide +kernel, by decide +kernel, by decide +kernel⟩, TB_in (tb2_in 137 rfl) rfl, TB_in (List.mem_append_left _ (List.mem_of_getElem? (i := 6) rfl)) rfl, ⟨_, rfl⟩, by decide⟩
set_option maxRecDepth 100000 in
theorem kzvX3_isWord : KZv MX3_isWord 1 3 := ⟨⟨TB_in (tb2_in 86 rfl) rfl, TB_in (tb1_in 2 rfl) rfl, by decide +kernel, by decide +kernel, by decide +kernel⟩, TB_in (tb2_in 85 rfl) rfl, TB_in (List.mem_append_left _ (List.mem_of_getElem? (i := 5) rfl)) rfl, ⟨_, rfl⟩, by decide⟩
set_option maxRecDepth 100000 in
theorem kzvX3_advance : KZv MX3_advance 0 3 := ⟨⟨TB_in (tb2_in 62 rfl) rfl, TB_in (tb1_in 2 rfl) rfl, by decide +kernel, by decide +kernel, by decide +kernel⟩, TB_in (tb2_in 61 rfl) rfl, TB_in (List.mem_append_left _ (List.mem_of_getElem? (i := 1) rfl)) rfl, ⟨_, rfl⟩, by decide⟩
set_option maxRecDepth 100000 in
theorem kzsX3_isLetter : KZs MX3_isLetter 1 := ⟨⟨TB_in (tb2_in 65 rfl) rfl, TB_in (tb1_in 2 rfl) rfl, by decide +kernel, by decide +kernel, by decide +kernel⟩, TB_in (tb2_in 64 rfl) rfl⟩
set_option maxRecDepth 100000 in
theorem kzsX3_isDigit : KZs MX3_isDigit 1 := ⟨⟨TB_in (tb2_in 68 rfl) rfl, TB_in (tb1_in 2 rfl) rfl, by decide +kernel, by decide +kernel, by decide +kernel⟩, TB_in (tb2_in 67 rfl) rfl⟩
set_option maxRecDepth 100000 in
theorem kziX4_init : KZi MX4_init 0 := ⟨⟨TB_in (tb4_in 36 rfl) rfl, TB_in (tb1_in 13 rfl) rfl, by decide +kernel, by decide +kernel, by decide +kernel⟩, TB_in (tb4_in 35 rfl) rfl, rfl, rfl⟩
set_option maxRecDepth 100000 in
theorem kzvX4_cellsOf : KZv MX4_cellsOf 3 4 := ⟨⟨TB_in (tb4_in 148 rfl) rfl, TB_in (tb1_in 13 rfl) rfl, by decide +kernel, by decide +kernel, by decide +kernel⟩, TB_in (tb4_in 146 rfl) rfl, TB_in (tb4_in 147 rfl) rfl, ⟨_, rfl⟩, by decide⟩
set_option maxRecDepth 100000 in
theorem kzvX4_toursOf : KZv MX4_toursOf 3 4 := ⟨⟨TB_in (tb5_in 149 rfl) rfl, TB_in (tb1_in 13 rfl) rfl, by decide +kernel, by decide +kernel, by decide +kernel⟩, TB_in (tb5_in 147 rfl) rfl, TB_in (tb5_in 148 rfl) rfl, ⟨_, rfl⟩, by decide⟩
set_option maxRecDepth 100000 in
theorem kzvX4_hoursAtFair : KZv MX4_hoursAtFair 2 4 := ⟨⟨TB_in (tb5_in 195 rfl) rfl, TB_in (tb1_in 13 rfl) rfl, by decide +kernel, by decide +kernel, by decide +kernel⟩, TB_in (tb5_in 193 rfl) rfl, TB_in (tb5_in 194 rfl) rfl, ⟨_, rfl⟩, by decide⟩
set_option maxRecDepth 100000 in
theorem kzvX4_hoursAloft : KZv MX4_hoursAloft 2 4 := ⟨⟨TB_in (tb5_in 207 rfl) rfl, TB_in (tb1_in 13 rfl) rfl, by decide +kernel, by decide +kernel, by decide +kernel⟩, TB_in (tb5_in 205 rfl) rfl, TB_in (tb5_in 206 rfl) rfl, ⟨_, rfl⟩, by decide⟩
set_option maxRecDepth 100000 in
theorem kzvX4_rowsOfActs : KZv MX4_rowsOfActs 3 4 := ⟨⟨TB_in (tb5_in 128 rfl) rfl, TB_in (tb1_in 13 rfl) rfl, by decide +kernel, by decide +kernel, by decide +kernel⟩, TB_in (tb5_in 126 rfl) rfl, TB_in (tb5_in 127 rfl) rfl, ⟨_, rfl⟩, by decide⟩
set_option maxRecDepth 100000 in
theorem kzvX4_actOnWay : KZv MX4_actOnWay 6 4 := ⟨⟨TB_in (tb5_in 30 rfl) rfl, TB_in (tb1_in 13 rfl) rfl, by decide +kernel, by decide +kernel, by decide +kernel⟩, TB_in (tb5_in 28 rfl) rfl, TB_in (tb5_in 29 rfl) rfl, ⟨_, rfl⟩, by decide⟩
set_option maxRecDepth 100000 in
theorem kzvX4_prepare : KZv MX4_prepare 4 4 := ⟨⟨TB_in (tb4_in 156 rfl) rfl, TB_in (tb1_in 13 rfl) rfl, by decide +kernel, by decide +kernel, by decide +kernel⟩, TB_in (tb4_in 155 rfl) rfl, TB_in (List.mem_append_left _ (List.mem_of_getElem? (i := 30) rfl)) rfl, ⟨_, rfl⟩, by decide⟩
set_option maxRecDepth 100000 in
theorem kzvX4_blockCount : KZv MX4_blockCount 0 4 := ⟨⟨TB_in (tb4_in 174 rfl) rfl, TB_in (tb1_in 13 rfl) rfl, by decide +kernel, by decide +kernel, by decide +kernel⟩, TB_in (tb4_in 173 rfl) rfl, TB_in (List.mem_append_left _ (List.mem_of_getElem? (i := 31) rfl)) rfl, ⟨_, rfl⟩, by decide⟩
set_option maxRecDepth 100000 in
theorem kzvX4_placeOf : KZv MX4_placeOf 3 4 := ⟨⟨TB_in (tb4_in 178 rfl) rfl, TB_in (tb1_in 13 rfl) rfl, by decide +kernel, by decide +kernel, by decide +kernel⟩, TB_in (tb4_in 177 rfl) rfl, TB_in (List.mem_append_left _ (List.mem_of_getElem? (i := 32) rfl)) rfl, ⟨_, rfl⟩, by decide⟩
set_option maxRecDepth 100000 in
theorem kzvX4_passHour : KZv MX4_passHour 1 4 := ⟨⟨TB_in (tb4_in 184 rfl) rfl, TB_in (tb1_in 13 rfl) rfl, by decide +kernel, by decide +kernel, by decide +kernel⟩, TB_in (tb4_in 183 rfl) rfl, TB_in (List.mem_append_left _ (List.mem_of_getElem? (i := 33) rfl)) rfl, ⟨_, rfl⟩, by decide⟩
set_option maxRecDepth 100000 in
theorem kzvX4_passLayer : KZv MX4_passLayer 4 4 := ⟨⟨TB_in (tb4_in 192 rfl) rfl, TB_in (tb1_in 13 rfl) rfl, by decide +kernel, by decide +kernel, by decide +kernel⟩, TB_in (tb4_in 191 rfl) rfl, TB_in (List.mem_append_left _ (List.mem_of_getElem? (i := 34) rfl)) rfl, ⟨_, rfl⟩, by decide⟩
set_option maxRecDepth 100000 in
theorem kzvX4_sinkAll : KZv MX4_sinkAll 2 4 := ⟨⟨TB_in (tb4_in 210 rfl) rfl, TB_in (tb1_in 13 rfl) rfl, by decide +kernel, by decide +kernel, by decide +kernel⟩, TB_in (tb4_in 209 rfl) rfl, TB_in (List.mem_append_left _ (List.mem_of_getElem? (i := 36) rfl)) rfl, ⟨_, rfl⟩, by decide⟩
set_option maxRecDepth 100000 in
theorem kzvX4_joined : KZv MX4_joined 2 4 := ⟨⟨TB_in (tb4_in 197 rfl) rfl, TB_in (tb1_in 13 rfl) rfl, by decide +kernel, by decide +kernel, by decide +kernel⟩, TB_in (tb4_in 196 rfl) rfl, TB_in (List.mem_append_left _ (List.mem_of_getElem? (i := 35) rfl)) rfl, ⟨_, rfl⟩, by decide⟩
set_option maxRecDepth 100000 in
theorem kzvX4_note : KZv MX4_note 4 4 := ⟨⟨TB_in (tb4_in 214 rfl) rfl, TB_in (tb1_in 13 rfl) rfl, by decide +kernel, by decide +kernel, by decide +kernel⟩, TB_in (tb4_in 213 rfl) rfl, TB_in (List.mem_append_left _ (List.mem_of_getElem? (i := 37) rfl)) rfl, ⟨_, rfl⟩, by decide⟩
set_option maxRecDepth 100000 in
theorem kzvX4_noteTours : KZv MX4_noteTours 4 4 := ⟨⟨TB_in (tb4_in 225 rfl) rfl, TB_in (tb1_in 13 rfl) rfl, by decide +kernel, by decide +kernel, by decide +kernel⟩, TB_in (tb4_in 224 rfl) rfl, TB_in (List.mem_append_left _ (List.mem_of_getElem? (i := 38) rfl)) rfl, ⟨_, rfl⟩, by decide⟩
set_option maxRecDepth 100000 in
theorem kzvX4_markDoors : KZv MX4_markDoors 1 4 := ⟨⟨TB_in (tb4_in 229 rfl) rfl, TB_in (tb1_in 13 rfl) rfl, by decide +kernel, by decide +kernel, by decide +kernel⟩, TB_in (tb4_in 228 rfl) rfl, TB_in (List.mem_append_left _ (List.mem_of_getElem? (i := 39) rfl)) rfl, ⟨_, rfl⟩, by decide⟩
set_option maxRecDepth 100000 in
theorem kzvX4_countHour : KZv MX4_countHour 2 4 := ⟨⟨TB_in (tb5_in 5 rfl) rfl, TB_in (tb1_in 13 rfl) rfl, by decide +kernel, by decide +kernel, by decide +kernel⟩, TB_in (tb5_in 4 rfl) rfl, TB_in (List.mem_append_left _ (List.mem_of_getElem? (i := 41) rfl)) rfl, ⟨_, rfl⟩, by decide⟩
set_option maxRecDepth 100000 in
theorem kzvX4_moveTag : KZv MX4_moveTag 3 4 := ⟨⟨TB_in (tb4_in 235 rfl) rfl, TB_in (tb1_in 13 rfl) rfl, by decide +kernel, by decide +kernel, by decide +kernel⟩, TB_in (tb4_in 234 rfl) rfl, TB_in (List.mem_append_left _ (List.mem_of_getElem? (i := 40) rfl)) rfl, ⟨_, rfl⟩, by decide⟩
set_option maxRecDepth 100000 in
theorem kzvX4_highestTag : KZv MX4_highestTag 0 4 := ⟨⟨TB_in (tb5_in 199 rfl) rfl, TB_in (tb1_in 13 rfl) rfl, by decide +kernel, by decide +kernel, by decide +kernel⟩, TB_in (tb5_in 198 rfl) rfl, TB_in (List.mem_append_left _ (List.mem_of_getElem? (i := 52) rfl)) rfl, ⟨_, rfl⟩, by decide⟩
set_option maxRecDepth 100000 in
theorem kziX5_init : KZi MX5_init 0 := ⟨⟨TB_in (tb1_in 217 rfl) rfl, TB_in (tb1_in 5 rfl) rfl, by decide +kernel, by decide +kernel, by decide +kernel⟩, TB_in (tb1_in 216 rfl) rfl, rfl, rfl⟩
set_option maxRecDepth 100000 in
theorem kzvX5_isThere : KZv MX5_isThere 0 5 := ⟨⟨TB_in (tb6_in 55 rfl) rfl, TB_in (tb1_in 5 rfl) rfl, by decide +kernel, by decide +kernel, by decide +kernel⟩, TB_in (tb6_in 53 rfl) rfl, TB_in (tb6_in 54 rfl) rfl, ⟨_, rfl⟩, by decide⟩
set_option maxRecDepth 100000 in
theorem kzvX5_renew : KZv MX5_renew 2 5 := ⟨⟨TB_in (tb6_in 166 rfl) rfl, TB_in (tb1_in 5 rfl) rfl, by decide +kernel, by decide +kernel, by decide +kernel⟩, TB_in (tb6_in 164 rfl) rfl, TB_in (tb6_in 165 rfl) rfl, ⟨_, rfl⟩, by decide⟩
set_option maxRecDepth 100000 in
theorem kzvX5_holds : KZv MX5_holds 2 5 := ⟨⟨TB_in (tb6_in 174 rfl) rfl, TB_in (tb1_in 5 rfl) rfl, by decide +kernel, by decide +kernel, by decide +kernel⟩, TB_in (tb6_in 172 rfl) rfl, TB_in (tb6_in 173 rfl) rfl, ⟨_, rfl⟩, by decide⟩
set_option maxRecDepth 100000 in
theorem kzvX5_put : KZv MX5_put 2 5 := ⟨⟨TB_in (tb6_in 178 rfl) rfl, TB_in (tb1_in 5 rfl) rfl, by decide +kernel, by decide +kernel, by decide +kernel⟩, TB_in (tb6_in 176 rfl) rfl, TB_in (tb6_in 177 rfl) rfl, ⟨_, rfl⟩, by decide⟩
set_option maxRecDepth 100000 in
theorem kzvX5_copyTo : KZv MX5_copyTo 4 5 := ⟨⟨TB_in (tb6_in 186 rfl) rfl, TB_in (tb1_in 5 rfl) rfl, by decide +kernel, by decide +kernel, by decide +kernel⟩, TB_in (tb6_in 184 rfl) rfl, TB_in (tb6_in 185 rfl) rfl, ⟨_, rfl⟩, by decide⟩
set_option maxRecDepth 100000 in
theorem kzvX5_keepsWithin : KZv MX5_keepsWithin 1 5 := ⟨⟨TB_in (tb6_in 59 rfl) rfl, TB_in (tb1_in 5 rfl) rfl, by decide +kernel, by decide +kernel, by decide +kernel⟩, TB_in (tb6_in 57 rfl) rfl, TB_in (tb6_in 58 rfl) rfl, ⟨_, rfl⟩, by decide⟩
set_option maxRecDepth 100000 in
theorem kzvX5_at : KZv MX5_at 1 5 := ⟨⟨TB_in (tb6_in 63 rfl) rfl, TB_in (tb1_in 5 rfl) rfl, by decide +kernel, by decide +kernel, by decide +kernel⟩, TB_in (tb6_in 61 rfl) rfl, TB_in (tb6_in 62 rfl) rfl, ⟨_, rfl⟩, by decide⟩
set_option maxRecDepth 100000 in
theorem kziX6_init : KZi MX6_init 0 := ⟨⟨TB_in (tb1_in 110 rfl) rfl, TB_in (tb1_in 4 rfl) rfl, by decide +kernel, by decide +kernel, by decide +kernel⟩, TB_in (tb1_in 109 rfl) rfl, rfl, rfl⟩
set_option maxRecDepth 100000 in
theorem kzvX6_stands : KZv MX6_stands 0 6 := ⟨⟨TB_in (tb3_in 156 rfl) rfl, TB_in (tb1_in 4 rfl) rfl, by decide +kernel, by decide +kernel, by decide +kernel⟩, TB_in (tb3_in 154 rfl) rfl, TB_in (tb3_in 155 rfl) rfl, ⟨_, rfl⟩, by decide⟩
set_option maxRecDepth 100000 in
theorem kzvX6_hasShop : KZv MX6_hasShop 1 6 := ⟨⟨TB_in (tb3_in 24 rfl) rfl, TB_in (tb1_in 4 rfl) rfl, by decide +kernel, by decide +kernel, by decide +kernel⟩, TB_in (tb3_in 22 rfl) rfl, TB_in (tb3_in 23 rfl) rfl, ⟨_, rfl⟩, by decide⟩
set_option maxRecDepth 100000 in
theorem kzvX6_hasTwoShops : KZv MX6_hasTwoShops 2 6 := ⟨⟨TB_in (tb3_in 235 rfl) rfl, TB_in (tb1_in 4 rfl) rfl, by decide +kernel, by decide +kernel, by decide +kernel⟩, TB_in (tb3_in 233 rfl) rfl, TB_in (tb3_in 234 rfl) rfl, ⟨_, rfl⟩, by decide⟩
set_option maxRecDepth 100000 in
theorem kzvX6_hasDoor : KZv MX6_hasDoor 1 6 := ⟨⟨TB_in (tb3_in 36 rfl) rfl, TB_in (tb1_in 4 rfl) rfl, by decide +kernel, by decide +kernel, by decide +kernel⟩, TB_in (tb3_in 34 rfl) rfl, TB_in (tb3_in 35 rfl) rfl, ⟨_, rfl⟩, by decide⟩
set_option maxRecDepth 100000 in
theorem kzvX6_hasDoors : KZv MX6_hasDoors 1 6 := ⟨⟨TB_in (tb5_in 141 rfl) rfl, TB_in (tb1_in 4 rfl) rfl, by decide +kernel, by decide +kernel, by decide +kernel⟩, TB_in (tb5_in 139 rfl) rfl, TB_in (tb5_in 140 rfl) rfl, ⟨_, rfl⟩, by decide⟩
set_option maxRecDepth 100000 in
theorem kzvX6_hasLayer : KZv MX6_hasLayer 1 6 := ⟨⟨TB_in (tb3_in 1 rfl) rfl, TB_in (tb1_in 4 rfl) rfl, by decide +kernel, by decide +kernel, by decide +kernel⟩, TB_in (tb2_in 239 rfl) rfl, TB_in (tb3_in 0 rfl) rfl, ⟨_, rfl⟩, by decide⟩
set_option maxRecDepth 100000 in
theorem kzvX6_hasHour : KZv MX6_hasHour 1 6 := ⟨⟨TB_in (tb3_in 5 rfl) rfl, TB_in (tb1_in 4 rfl) rfl, by decide +kernel, by decide +kernel, by decide +kernel⟩, TB_in (tb3_in 3 rfl) rfl, TB_in (tb3_in 4 rfl) rfl, ⟨_, rfl⟩, by decide⟩
set_option maxRecDepth 100000 in
theorem kzvX6_hasColumn : KZv MX6_hasColumn 2 6 := ⟨⟨TB_in (tb3_in 102 rfl) rfl, TB_in (tb1_in 4 rfl) rfl, by decide +kernel, by decide +kernel, by decide +kernel⟩, TB_in (tb3_in 100 rfl) rfl, TB_in (tb3_in 101 rfl) rfl, ⟨_, rfl⟩, by decide⟩
set_option maxRecDepth 100000 in
theorem kzvX6_windAt : KZv MX6_windAt 2 6 := ⟨⟨TB_in (tb3_in 9 rfl) rfl, TB_in (tb1_in 4 rfl) rfl, by decide +kernel, by decide +kernel, by decide +kernel⟩, TB_in (tb3_in 7 rfl) rfl, TB_in (tb3_in 8 rfl) rfl, ⟨_, rfl⟩, by decide⟩
set_option maxRecDepth 100000 in
theorem kzvX6_shopFact : KZv MX6_shopFact 2 6 := ⟨⟨TB_in (tb3_in 28 rfl) rfl, TB_in (tb1_in 4 rfl) rfl, by decide +kernel, by decide +kernel, by decide +kernel⟩, TB_in (tb3_in 26 rfl) rfl, TB_in (tb3_in 27 rfl) rfl, ⟨_, rfl⟩, by decide⟩
set_option maxRecDepth 100000 in
theorem kzvX6_doorFact : KZv MX6_doorFact 2 6 := ⟨⟨TB_in (tb2_in 198 rfl) rfl, TB_in (tb1_in 4 rfl) rfl, by decide +kernel, by decide +kernel, by decide +kernel⟩, TB_in (tb2_in 196 rfl) rfl, TB_in (tb2_in 197 rfl) rfl, ⟨_, rfl⟩, by decide⟩
set_option maxRecDepth 100000 in
theorem kzvX6_actAt : KZv MX6_actAt 2 6 := ⟨⟨TB_in (tb3_in 74 rfl) rfl, TB_in (tb1_in 4 rfl) rfl, by decide +kernel, by decide +kernel, by decide +kernel⟩, TB_in (tb3_in 72 rfl) rfl, TB_in (tb3_in 73 rfl) rfl, ⟨_, rfl⟩, by decide⟩
set_option maxRecDepth 100000 in
theorem kzvX6_setAct : KZv MX6_setAct 3 6 := ⟨⟨TB_in (tb2_in 217 rfl) rfl, TB_in (tb1_in 4 rfl) rfl, by decide +kernel, by decide +kernel, by decide +kernel⟩, TB_in (tb2_in 215 rfl) rfl, TB_in (tb2_in 216 rfl) rfl, ⟨_, rfl⟩, by decide⟩
set_option maxRecDepth 100000 in
theorem kzvX6_changeFact : KZv MX6_changeFact 2 6 := ⟨⟨TB_in (tb3_in 164 rfl) rfl, TB_in (tb1_in 4 rfl) rfl, by decide +kernel, by decide +kernel, by decide +kernel⟩, TB_in (tb3_in 162 rfl) rfl, TB_in (tb3_in 163 rfl) rfl, ⟨_, rfl⟩, by decide⟩
set_option maxRecDepth 100000 in
theorem kzvX6_doorAt : KZv MX6_doorAt 1 6 := ⟨⟨TB_in (tb2_in 194 rfl) rfl, TB_in (tb1_in 4 rfl) rfl, by decide +kernel, by decide +kernel, by decide +kernel⟩, TB_in (tb2_in 192 rfl) rfl, TB_in (tb2_in 193 rfl) rfl, ⟨_, rfl⟩, by decide⟩
set_option maxRecDepth 100000 in
theorem kzvX6_shopColumn : KZv MX6_shopColumn 1 6 := ⟨⟨TB_in (tb4_in 22 rfl) rfl, TB_in (tb1_in 4 rfl) rfl, by decide +kernel, by decide +kernel, by decide +kernel⟩, TB_in (tb4_in 20 rfl) rfl, TB_in (tb4_in 21 rfl) rfl, ⟨_, rfl⟩, by decide⟩
set_option maxRecDepth 100000 in
theorem kzvX6_coolsIn : KZv MX6_coolsIn 1 6 := ⟨⟨TB_in (tb3_in 108 rfl) rfl, TB_in (tb1_in 4 rfl) rfl, by decide +kernel, by decide +kernel, by decide +kernel⟩, TB_in (tb3_in 106 rfl) rfl, TB_in (tb3_in 107 rfl) rfl, ⟨_, rfl⟩, by decide⟩
set_option maxRecDepth 100000 in
theorem kzvX6_coolings : KZv MX6_coolings 1 6 := ⟨⟨TB_in (tb4_in 188 rfl) rfl, TB_in (tb1_in 4 rfl) rfl, by decide +kernel, by decide +kernel, by decide +kernel⟩, TB_in (tb4_in 186 rfl) rfl, TB_in (tb4_in 187 rfl) rfl, ⟨_, rfl⟩, by decide⟩
set_option maxRecDepth 100000 in
theorem kzvX6_saleBrings : KZv MX6_saleBrings 1 6 := ⟨⟨TB_in (tb3_in 117 rfl) rfl, TB_in (tb1_in 4 rfl) rfl, by decide +kernel, by decide +kernel, by decide +kernel⟩, TB_in (tb3_in 115 rfl) rfl, TB_in (tb3_in 116 rfl) rfl, ⟨_, rfl⟩, by decide⟩
set_option maxRecDepth 100000 in
theorem kzvX6_carried : KZv MX6_carried 2 6 := ⟨⟨TB_in (tb3_in 92 rfl) rfl, TB_in (tb1_in 4 rfl) rfl, by decide +kernel, by decide +kernel, by decide +kernel⟩, TB_in (tb3_in 90 rfl) rfl, TB_in (tb3_in 91 rfl) rfl, ⟨_, rfl⟩, by decide⟩
set_option maxRecDepth 100000 in
theorem kzvX6_change : KZv MX6_change 3 6 := ⟨⟨TB_in (tb3_in 146 rfl) rfl, TB_in (tb1_in 4 rfl) rfl, by decide +kernel, by decide +kernel, by decide +kernel⟩, TB_in (tb3_in 144 rfl) rfl, TB_in (tb3_in 145 rfl) rfl, ⟨_, rfl⟩, by decide⟩
set_option maxRecDepth 100000 in
theorem kzvX6_takeBack : KZv MX6_takeBack 0 6 := ⟨⟨TB_in (tb3_in 160 rfl) rfl, TB_in (tb1_in 4 rfl) rfl, by decide +kernel, by decide +kernel, by decide +kernel⟩, TB_in (tb3_in 158 rfl) rfl, TB_in (tb3_in 159 rfl) rfl, ⟨_, rfl⟩, by decide⟩
set_option maxRecDepth 100000 in
theorem kzvX6_clear : KZv MX6_clear 0 6 := ⟨⟨TB_in (tb2_in 58 rfl) rfl, TB_in (tb1_in 4 rfl) rfl, by decide +kernel, by decide +kernel, by decide +kernel⟩, TB_in (tb2_in 56 rfl) rfl, TB_in (tb2_in 57 rfl) rfl, ⟨_, rfl⟩, by decide⟩
set_option maxRecDepth 100000 in
theorem kzvX6_spreadWinds : KZv MX6_spreadWinds 0 6 := ⟨⟨TB_in (tb2_in 225 rfl) rfl, TB_in (tb1_in 4 rfl) rfl, by decide +kernel, by decide +kernel, by decide +kernel⟩, TB_in (tb2_in 223 rfl) rfl, TB_in (tb2_in 224 rfl) rfl, ⟨_, rfl⟩, by decide⟩
set_option maxRecDepth 100000 in
theorem kzvX6_copyFrom : KZv MX6_copyFrom 1 6 := ⟨⟨TB_in (tb6_in 89 rfl) rfl, TB_in (tb1_in 4 rfl) rfl, by decide +kernel, by decide +kernel, by decide +kernel⟩, TB_in (tb6_in 87 rfl) rfl, TB_in (tb6_in 88 rfl) rfl, ⟨_, rfl⟩, by decide⟩
set_option maxRecDepth 100000 in
theorem kziX7_init : KZi MX7_init 0 := ⟨⟨TB_in (tb1_in 71 rfl) rfl, TB_in (tb1_in 3 rfl) rfl, by decide +kernel, by decide +kernel, by decide +kernel⟩, TB_in (tb1_in 70 rfl) rfl, rfl, rfl⟩
set_option maxRecDepth 100000 in
theorem kzvX7_begin : KZv MX7_begin 3 7 := ⟨⟨TB_in (tb3_in 44 rfl) rfl, TB_in (tb1_in 3 rfl) rfl, by decide +kernel, by decide +kernel, by decide +kernel⟩, TB_in (tb3_in 42 rfl) rfl, TB_in (tb3_in 43 rfl) rfl, ⟨_, rfl⟩, by decide⟩
set_option maxRecDepth 100000 in
theorem kzvX7_beginBehind : KZv MX7_beginBehind 3 7 := ⟨⟨TB_in (tb6_in 99 rfl) rfl, TB_in (tb1_in 3 rfl) rfl, by decide +kernel, by decide +kernel, by decide +kernel⟩, TB_in (tb6_in 97 rfl) rfl, TB_in (tb6_in 98 rfl) rfl, ⟨_, rfl⟩, by decide⟩
set_option maxRecDepth 100000 in
theorem kzvX7_flyFrom : KZv MX7_flyFrom 1 7 := ⟨⟨TB_in (tb3_in 54 rfl) rfl, TB_in (tb1_in 3 rfl) rfl, by decide +kernel, by decide +kernel, by decide +kernel⟩, TB_in (tb3_in 52 rfl) rfl, TB_in (tb3_in 53 rfl) rfl, ⟨_, rfl⟩, by decide⟩
set_option maxRecDepth 100000 in
theorem kzvX7_drawGusts : KZv MX7_drawGusts 0 7 := ⟨⟨TB_in (tb3_in 61 rfl) rfl, TB_in (tb1_in 3 rfl) rfl, by decide +kernel, by decide +kernel, by decide +kernel⟩, TB_in (tb3_in 60 rfl) rfl, TB_in (List.mem_append_left _ (List.mem_of_getElem? (i := 20) rfl)) rfl, ⟨_, rfl⟩, by decide⟩
set_option maxRecDepth 100000 in
theorem kzvX7_flyHour : KZv MX7_flyHour 2 7 := ⟨⟨TB_in (tb3_in 70 rfl) rfl, TB_in (tb1_in 3 rfl) rfl, by decide +kernel, by decide +kernel, by decide +kernel⟩, TB_in (tb3_in 69 rfl) rfl, TB_in (List.mem_append_left _ (List.mem_of_getElem? (i := 21) rfl)) rfl, ⟨_, rfl⟩, by decide⟩
set_option maxRecDepth 100000 in
theorem kzvX7_reasonAgainst : KZv MX7_reasonAgainst 2 7 := ⟨⟨TB_in (tb3_in 78 rfl) rfl, TB_in (tb1_in 3 rfl) rfl, by decide +kernel, by decide +kernel, by decide +kernel⟩, TB_in (tb3_in 77 rfl) rfl, TB_in (List.mem_append_left _ (List.mem_of_getElem? (i := 22) rfl)) rfl, ⟨_, rfl⟩, by decide⟩
set_option maxRecDepth 100000 in
theorem kzvX7_doAct : KZv MX7_doAct 2 7 := ⟨⟨TB_in (tb3_in 82 rfl) rfl, TB_in (tb1_in 3 rfl) rfl, by decide +kernel, by decide +kernel, by decide +kernel⟩, TB_in (tb3_in 81 rfl) rfl, TB_in (List.mem_append_left _ (List.mem_of_getElem? (i := 23) rfl)) rfl, ⟨_, rfl⟩, by decide⟩
set_option maxRecDepth 100000 in
theorem kzvX7_carry : KZv MX7_carry 2 7 := ⟨⟨TB_in (tb3_in 86 rfl) rfl, TB_in (tb1_in 3 rfl) rfl, by decide +kernel, by decide +kernel, by decide +kernel⟩, TB_in (tb3_in 85 rfl) rfl, TB_in (List.mem_append_left _ (List.mem_of_getElem? (i := 24) rfl)) rfl, ⟨_, rfl⟩, by decide⟩
set_option maxRecDepth 100000 in
theorem kzvX7_sell : KZv MX7_sell 2 7 := ⟨⟨TB_in (tb3_in 112 rfl) rfl, TB_in (tb1_in 3 rfl) rfl, by decide +kernel, by decide +kernel, by decide +kernel⟩, TB_in (tb3_in 111 rfl) rfl, TB_in (List.mem_append_left _ (List.mem_of_getElem? (i := 25) rfl)) rfl, ⟨_, rfl⟩, by decide⟩
set_option maxRecDepth 100000 in
theorem kzvX7_pageOf : KZv MX7_pageOf 2 7 := ⟨⟨TB_in (tb3_in 48 rfl) rfl, TB_in (tb1_in 3 rfl) rfl, by decide +kernel, by decide +kernel, by decide +kernel⟩, TB_in (tb3_in 47 rfl) rfl, TB_in (List.mem_append_left _ (List.mem_of_getElem? (i := 19) rfl)) rfl, ⟨_, rfl⟩, by decide⟩
set_option maxRecDepth 100000 in
theorem kzvX7_factBehind : KZv MX7_factBehind 3 7 := ⟨⟨TB_in (tb3_in 177 rfl) rfl, TB_in (tb1_in 3 rfl) rfl, by decide +kernel, by decide +kernel, by decide +kernel⟩, TB_in (tb3_in 175 rfl) rfl, TB_in (tb3_in 176 rfl) rfl, ⟨_, rfl⟩, by decide⟩
set_option maxRecDepth 100000 in
theorem kzvX7_columnBehind : KZv MX7_columnBehind 2 7 := ⟨⟨TB_in (tb4_in 0 rfl) rfl, TB_in (tb1_in 3 rfl) rfl, by decide +kernel, by decide +kernel, by decide +kernel⟩, TB_in (tb3_in 238 rfl) rfl, TB_in (tb3_in 239 rfl) rfl, ⟨_, rfl⟩, by decide⟩
set_option maxRecDepth 100000 in
theorem kzvX7_factAtEnd : KZv MX7_factAtEnd 2 7 := ⟨⟨TB_in (tb3_in 221 rfl) rfl, TB_in (tb1_in 3 rfl) rfl, by decide +kernel, by decide +kernel, by decide +kernel⟩, TB_in (tb3_in 219 rfl) rfl, TB_in (tb3_in 220 rfl) rfl, ⟨_, rfl⟩, by decide⟩
set_option maxRecDepth 100000 in
theorem kzvX7_columnAtEnd : KZv MX7_columnAtEnd 1 7 := ⟨⟨TB_in (tb6_in 137 rfl) rfl, TB_in (tb1_in 3 rfl) rfl, by decide +kernel, by decide +kernel, by decide +kernel⟩, TB_in (tb6_in 135 rfl) rfl, TB_in (tb6_in 136 rfl) rfl, ⟨_, rfl⟩, by decide⟩
set_option maxRecDepth 100000 in
theorem kzvX7_wantedAtEnd : KZv MX7_wantedAtEnd 1 7 := ⟨⟨TB_in (tb3_in 125 rfl) rfl, TB_in (tb1_in 3 rfl) rfl, by decide +kernel, by decide +kernel, by decide +kernel⟩, TB_in (tb3_in 123 rfl) rfl, TB_in (tb3_in 124 rfl) rfl, ⟨_, rfl⟩, by decide⟩
set_option maxRecDepth 100000 in
theorem kzvX7_reasonAt : KZv MX7_reasonAt 2 7 := ⟨⟨TB_in (tb3_in 185 rfl) rfl, TB_in (tb1_in 3 rfl) rfl, by decide +kernel, by decide +kernel, by decide +kernel⟩, TB_in (tb3_in 183 rfl) rfl, TB_in (tb3_in 184 rfl) rfl, ⟨_, rfl⟩, by decide⟩
set_option maxRecDepth 100000 in
theorem kzvX7_isCarriedAt : KZv MX7_isCarriedAt 2 7 := ⟨⟨TB_in (tb3_in 197 rfl) rfl, TB_in (tb1_in 3 rfl) rfl, by decide +kernel, by decide +kernel, by decide +kernel⟩, TB_in (tb3_in 195 rfl) rfl, TB_in (tb3_in 196 rfl) rfl, ⟨_, rfl⟩, by decide⟩
set_option maxRecDepth 100000 in
theorem kzvX7_saleDoorAt : KZv MX7_saleDoorAt 2 7 := ⟨⟨TB_in (tb3_in 205 rfl) rfl, TB_in (tb1_in 3 rfl) rfl, by decide +kernel, by decide +kernel, by decide +kernel⟩, TB_in (tb3_in 203 rfl) rfl, TB_in (tb3_in 204 rfl) rfl, ⟨_, rfl⟩, by decide⟩
set_option maxRecDepth 100000 in
theorem kzvX7_moneyOfAll : KZv MX7_moneyOfAll 0 7 := ⟨⟨TB_in (tb3_in 217 rfl) rfl, TB_in (tb1_in 3 rfl) rfl, by decide +kernel, by decide +kernel, by decide +kernel⟩, TB_in (tb3_in 215 rfl) rfl, TB_in (tb3_in 216 rfl) rfl, ⟨_, rfl⟩, by decide⟩
set_option maxRecDepth 100000 in
theorem kziX8_init : KZi MX8_init 0 := ⟨⟨TB_in (tb1_in 23 rfl) rfl, TB_in (tb1_in 1 rfl) rfl, by decide +kernel, by decide +kernel, by decide +kernel⟩, TB_in (tb1_in 22 rfl) rfl, rfl, rfl⟩
set_option maxRecDepth 100000 in
theorem kzvX8_feed : KZv MX8_feed 5 8 := ⟨⟨TB_in (tb2_in 35 rfl) rfl, TB_in (tb1_in 1 rfl) rfl, by decide +kernel, by decide +kernel, by decide +kernel⟩, TB_in (tb2_in 33 rfl) rfl, TB_in (tb2_in 34 rfl) rfl, ⟨_, rfl⟩, by decide⟩
set_option maxRecDepth 100000 in
theorem kzvX8_end : KZv MX8_end 1 8 := ⟨⟨TB_in (tb2_in 43 rfl) rfl, TB_in (tb1_in 1 rfl) rfl, by decide +kernel, by decide +kernel, by decide +kernel⟩, TB_in (tb2_in 41 rfl) rfl, TB_in (tb2_in 42 rfl) rfl, ⟨_, rfl⟩, by decide⟩
set_option maxRecDepth 100000 in
theorem kzvX8_valley : KZv MX8_valley 0 8 := ⟨⟨TB_in (tb2_in 47 rfl) rfl, TB_in (tb1_in 1 rfl) rfl, by decide +kernel, by decide +kernel, by decide +kernel⟩, TB_in (tb2_in 45 rfl) rfl, TB_in (tb2_in 46 rfl) rfl, ⟨_, rfl⟩, by decide⟩
set_option maxRecDepth 100000 in
theorem kzvX8_fault : KZv MX8_fault 1 8 := ⟨⟨TB_in (tb2_in 233 rfl) rfl, TB_in (tb1_in 1 rfl) rfl, by decide +kernel, by decide +kernel, by decide +kernel⟩, TB_in (tb2_in 231 rfl) rfl, TB_in (tb2_in 232 rfl) rfl, ⟨_, rfl⟩, by decide⟩
set_option maxRecDepth 100000 in
theorem kzvX8_wind : KZv MX8_wind 2 8 := ⟨⟨TB_in (tb2_in 237 rfl) rfl, TB_in (tb1_in 1 rfl) rfl, by decide +kernel, by decide +kernel, by decide +kernel⟩, TB_in (tb2_in 235 rfl) rfl, TB_in (tb2_in 236 rfl) rfl, ⟨_, rfl⟩, by decide⟩
set_option maxRecDepth 100000 in
theorem kzvX8_often : KZv MX8_often 2 8 := ⟨⟨TB_in (tb3_in 13 rfl) rfl, TB_in (tb1_in 1 rfl) rfl, by decide +kernel, by decide +kernel, by decide +kernel⟩, TB_in (tb3_in 11 rfl) rfl, TB_in (tb3_in 12 rfl) rfl, ⟨_, rfl⟩, by decide⟩
set_option maxRecDepth 100000 in
theorem kzvX8_shop : KZv MX8_shop 2 8 := ⟨⟨TB_in (tb3_in 20 rfl) rfl, TB_in (tb1_in 1 rfl) rfl, by decide +kernel, by decide +kernel, by decide +kernel⟩, TB_in (tb3_in 18 rfl) rfl, TB_in (tb3_in 19 rfl) rfl, ⟨_, rfl⟩, by decide⟩
set_option maxRecDepth 100000 in
theorem kzvX8_door : KZv MX8_door 2 8 := ⟨⟨TB_in (tb3_in 32 rfl) rfl, TB_in (tb1_in 1 rfl) rfl, by decide +kernel, by decide +kernel, by decide +kernel⟩, TB_in (tb3_in 30 rfl) rfl, TB_in (tb3_in 31 rfl) rfl, ⟨_, rfl⟩, by decide⟩
set_option maxRecDepth 100000 in
theorem kzvX8_act : KZv MX8_act 2 8 := ⟨⟨TB_in (tb3_in 130 rfl) rfl, TB_in (tb1_in 1 rfl) rfl, by decide +kernel, by decide +kernel, by decide +kernel⟩, TB_in (tb3_in 128 rfl) rfl, TB_in (tb3_in 129 rfl) rfl, ⟨_, rfl⟩, by decide⟩
set_option maxRecDepth 100000 in
theorem kzvX8_plan : KZv MX8_plan 3 8 := ⟨⟨TB_in (tb3_in 139 rfl) rfl, TB_in (tb1_in 1 rfl) rfl, by decide +kernel, by decide +kernel, by decide +kernel⟩, TB_in (tb3_in 137 rfl) rfl, TB_in (tb3_in 138 rfl) rfl, ⟨_, rfl⟩, by decide⟩
set_option maxRecDepth 100000 in
theorem kzvX8_undo : KZv MX8_undo 0 8 := ⟨⟨TB_in (tb3_in 152 rfl) rfl, TB_in (tb1_in 1 rfl) rfl, by decide +kernel, by decide +kernel, by decide +kernel⟩, TB_in (tb3_in 150 rfl) rfl, TB_in (tb3_in 151 rfl) rfl, ⟨_, rfl⟩, by decide⟩
set_option maxRecDepth 100000 in
theorem kzvX8_changed : KZv MX8_changed 2 8 := ⟨⟨TB_in (tb3_in 168 rfl) rfl, TB_in (tb1_in 1 rfl) rfl, by decide +kernel, by decide +kernel, by decide +kernel⟩, TB_in (tb3_in 166 rfl) rfl, TB_in (tb3_in 167 rfl) rfl, ⟨_, rfl⟩, by decide⟩
set_option maxRecDepth 100000 in
theorem kzvX8_where : KZv MX8_where 3 8 := ⟨⟨TB_in (tb3_in 173 rfl) rfl, TB_in (tb1_in 1 rfl) rfl, by decide +kernel, by decide +kernel, by decide +kernel⟩, TB_in (tb3_in 171 rfl) rfl, TB_in (tb3_in 172 rfl) rfl, ⟨_, rfl⟩, by decide⟩
set_option maxRecDepth 100000 in
theorem kzvX8_why : KZv MX8_why 2 8 := ⟨⟨TB_in (tb3_in 181 rfl) rfl, TB_in (tb1_in 1 rfl) rfl, by decide +kernel, by decide +kernel, by decide +kernel⟩, TB_in (tb3_in 179 rfl) rfl, TB_in (tb3_in 180 rfl) rfl, ⟨_, rfl⟩, by decide⟩
set_option maxRecDepth 100000 in
theorem kzvX8_vain : KZv MX8_vain 1 8 := ⟨⟨TB_in (tb3_in 189 rfl) rfl, TB_in (tb1_in 1 rfl) rfl, by decide +kernel, by decide +kernel, by decide +kernel⟩, TB_in (tb3_in 187 rfl) rfl, TB_in (tb3_in 188 rfl) rfl, ⟨_, rfl⟩, by decide⟩
set_option maxRecDepth 100000 in
theorem kzvX8_blown : KZv MX8_blown 2 8 := ⟨⟨TB_in (tb3_in 193 rfl) rfl, TB_in (tb1_in 1 rfl) rfl, by decide +kernel, by decide +kernel, by decide +kernel⟩, TB_in (tb3_in 191 rfl) rfl, TB_in (tb3_in 192 rfl) rfl, ⟨_, rfl⟩, by decide⟩
set_option maxRecDepth 100000 in
theorem kzvX8_sales : KZv MX8_sales 2 8 := ⟨⟨TB_in (tb3_in 201 rfl) rfl, TB_in (tb1_in 1 rfl) rfl, by decide +kernel, by decide +kernel, by decide +kernel⟩, TB_in (tb3_in 199 rfl) rfl, TB_in (tb3_in 200 rfl) rfl, ⟨_, rfl⟩, by decide⟩
set_option maxRecDepth 100000 in
theorem kzvX8_sold : KZv MX8_sold 2 8 := ⟨⟨TB_in (tb3_in 209 rfl) rfl, TB_in (tb1_in 1 rfl) rfl, by decide +kernel, by decide +kernel, by decide +kernel⟩, TB_in (tb3_in 207 rfl) rfl, TB_in (tb3_in 208 rfl) rfl, ⟨_, rfl⟩, by decide⟩
set_option maxRecDepth 100000 in
theorem kzvX8_money : KZv MX8_money 0 8 := ⟨⟨TB_in (tb3_in 213 rfl) rfl, TB_in (tb1_in 1 rfl) rfl, by decide +kernel, by decide +kernel, by decide +kernel⟩, TB_in (tb3_in 211 rfl) rfl, TB_in (tb3_in 212 rfl) rfl, ⟨_, rfl⟩, by decide⟩
set_option maxRecDepth 100000 in
theorem kzvX8_richest : KZv MX8_richest 0 8 := ⟨⟨TB_in (tb3_in 226 rfl) rfl, TB_in (tb1_in 1 rfl) rfl, by decide +kernel, by decide +kernel, by decide +kernel⟩, TB_in (tb3_in 224 rfl) rfl, TB_in (tb3_in 225 rfl) rfl, ⟨_, rfl⟩, by decide⟩
set_option maxRecDepth 100000 in
theorem kzvX8_meets : KZv MX8_meets 2 8 := ⟨⟨TB_in (tb3_in 231 rfl) rfl, TB_in (tb1_in 1 rfl) rfl, by decide +kernel, by decide +kernel, by decide +kernel⟩, TB_in (tb3_in 229 rfl) rfl, TB_in (tb3_in 230 rfl) rfl, ⟨_, rfl⟩, by decide⟩
set_option maxRecDepth 100000 in
theorem kzvX8_over : KZv MX8_over 3 8 := ⟨⟨TB_in (tb4_in 4 rfl) rfl, TB_in (tb1_in 1 rfl) rfl, by decide +kernel, by decide +kernel, by decide +kernel⟩, TB_in (tb4_in 2 rfl) rfl, TB_in (tb4_in 3 rfl) rfl, ⟨_, rfl⟩, by decide⟩
set_option maxRecDepth 100000 in
theorem kzvX8_grounded : KZv MX8_grounded 1 8 := ⟨⟨TB_in (tb4_in 10 rfl) rfl, TB_in (tb1_in 1 rfl) rfl, by decide +kernel, by decide +kernel, by decide +kernel⟩, TB_in (tb4_in 8 rfl) rfl, TB_in (tb4_in 9 rfl) rfl, ⟨_, rfl⟩, by decide⟩
set_option maxRecDepth 100000 in
theorem kzvX8_least : KZv MX8_least 4 8 := ⟨⟨TB_in (tb4_in 14 rfl) rfl, TB_in (tb1_in 1 rfl) rfl, by decide +kernel, by decide +kernel, by decide +kernel⟩, TB_in (tb4_in 12 rfl) rfl, TB_in (tb4_in 13 rfl) rfl, ⟨_, rfl⟩, by decide⟩
set_option maxRecDepth 100000 in
theorem kzvX8_soonest : KZv MX8_soonest 4 8 := ⟨⟨TB_in (tb5_in 18 rfl) rfl, TB_in (tb1_in 1 rfl) rfl, by decide +kernel, by decide +kernel, by decide +kernel⟩, TB_in (tb5_in 16 rfl) rfl, TB_in (tb5_in 17 rfl) rfl, ⟨_, rfl⟩, by decide⟩
set_option maxRecDepth 100000 in
theorem kzvX8_way : KZv MX8_way 5 8 := ⟨⟨TB_in (tb5_in 26 rfl) rfl, TB_in (tb1_in 1 rfl) rfl, by decide +kernel, by decide +kernel, by decide +kernel⟩, TB_in (tb5_in 24 rfl) rfl, TB_in (tb5_in 25 rfl) rfl, ⟨_, rfl⟩, by decide⟩
set_option maxRecDepth 100000 in
theorem kzvX8_spots : KZv MX8_spots 2 8 := ⟨⟨TB_in (tb5_in 106 rfl) rfl, TB_in (tb1_in 1 rfl) rfl, by decide +kernel, by decide +kernel, by decide +kernel⟩, TB_in (tb5_in 104 rfl) rfl, TB_in (tb5_in 105 rfl) rfl, ⟨_, rfl⟩, by decide⟩
set_option maxRecDepth 100000 in
theorem kzvX8_columns : KZv MX8_columns 2 8 := ⟨⟨TB_in (tb5_in 120 rfl) rfl, TB_in (tb1_in 1 rfl) rfl, by decide +kernel, by decide +kernel, by decide +kernel⟩, TB_in (tb5_in 118 rfl) rfl, TB_in (tb5_in 119 rfl) rfl, ⟨_, rfl⟩, by decide⟩
set_option maxRecDepth 100000 in
theorem kzvX8_ways : KZv MX8_ways 2 8 := ⟨⟨TB_in (tb5_in 124 rfl) rfl, TB_in (tb1_in 1 rfl) rfl, by decide +kernel, by decide +kernel, by decide +kernel⟩, TB_in (tb5_in 122 rfl) rfl, TB_in (tb5_in 123 rfl) rfl, ⟨_, rfl⟩, by decide⟩
set_option maxRecDepth 100000 in
theorem kzvX8_tour : KZv MX8_tour 2 8 := ⟨⟨TB_in (tb5_in 133 rfl) rfl, TB_in (tb1_in 1 rfl) rfl, by decide +kernel, by decide +kernel, by decide +kernel⟩, TB_in (tb5_in 131 rfl) rfl, TB_in (tb5_in 132 rfl) rfl, ⟨_, rfl⟩, by decide⟩
set_option maxRecDepth 100000 in
theorem kzvX8_done : KZv MX8_done 2 8 := ⟨⟨TB_in (tb5_in 166 rfl) rfl, TB_in (tb1_in 1 rfl) rfl, by decide +kernel, by decide +kernel, by decide +kernel⟩, TB_in (tb5_in 164 rfl) rfl, TB_in (tb5_in 165 rfl) rfl, ⟨_, rfl⟩, by decide⟩
set_option maxRecDepth 100000 in
theorem kzvX8_doors : KZv MX8_doors 3 8 := ⟨⟨TB_in (tb5_in 174 rfl) rfl, TB_in (tb1_in 1 rfl) rfl, by decide +kernel, by decide +kernel, by decide +kernel⟩, TB_in (tb5_in 172 rfl) rfl, TB_in (tb5_in 173 rfl) rfl, ⟨_, rfl⟩, by decide⟩
set_option maxRecDepth 100000 in
theorem kzvX8_fair : KZv MX8_fair 1 8 := ⟨⟨TB_in (tb5_in 191 rfl) rfl, TB_in (tb1_in 1 rfl) rfl, by decide +kernel, by decide +kernel, by decide +kernel⟩, TB_in (tb5_in 189 rfl) rfl, TB_in (tb5_in 190 rfl) rfl, ⟨_, rfl⟩, by decide⟩
set_option maxRecDepth 100000 in
theorem kzvX8_aloft : KZv MX8_aloft 1 8 := ⟨⟨TB_in (tb5_in 203 rfl) rfl, TB_in (tb1_in 1 rfl) rfl, by decide +kernel, by decide +kernel, by decide +kernel⟩, TB_in (tb5_in 201 rfl) rfl, TB_in (tb5_in 202 rfl) rfl, ⟨_, rfl⟩, by decide⟩
set_option maxRecDepth 100000 in
theorem kzvX8_lasts : KZv MX8_lasts 1 8 := ⟨⟨TB_in (tb5_in 211 rfl) rfl, TB_in (tb1_in 1 rfl) rfl, by decide +kernel, by decide +kernel, by decide +kernel⟩, TB_in (tb5_in 209 rfl) rfl, TB_in (tb5_in 210 rfl) rfl, ⟨_, rfl⟩, by decide⟩
set_option maxRecDepth 100000 in
theorem kzvX8_meet : KZv MX8_meet 2 8 := ⟨⟨TB_in (tb5_in 215 rfl) rfl, TB_in (tb1_in 1 rfl) rfl, by decide +kernel, by decide +kernel, by decide +kernel⟩, TB_in (tb5_in 213 rfl) rfl, TB_in (tb5_in 214 rfl) rfl, ⟨_, rfl⟩, by decide⟩
set_option maxRecDepth 100000 in
theorem kzvX8_rope : KZv MX8_rope 2 8 := ⟨⟨TB_in (tb5_in 234 rfl) rfl, TB_in (tb1_in 1 rfl) rfl, by decide +kernel, by decide +kernel, by decide +kernel⟩, TB_in (tb5_in 232 rfl) rfl, TB_in (tb5_in 233 rfl) rfl, ⟨_, rfl⟩, by decide⟩
set_option maxRecDepth 100000 in
theorem kzvX8_lands : KZv MX8_lands 2 8 := ⟨⟨TB_in (tb5_in 238 rfl) rfl, TB_in (tb1_in 1 rfl) rfl, by decide +kernel, by decide +kernel, by decide +kernel⟩, TB_in (tb5_in 236 rfl) rfl, TB_in (tb5_in 237 rfl) rfl, ⟨_, rfl⟩, by decide⟩
set_option maxRecDepth 100000 in
theorem kzvX8_who : KZv MX8_who 2 8 := ⟨⟨TB_in (tb6_in 12 rfl) rfl, TB_in (tb1_in 1 rfl) rfl, by decide +kernel, by decide +kernel, by decide +kernel⟩, TB_in (tb6_in 10 rfl) rfl, TB_in (tb6_in 11 rfl) rfl, ⟨_, rfl⟩, by decide⟩
set_option maxRecDepth 100000 in
theorem kzvX8_first : KZv MX8_first 2 8 := ⟨⟨TB_in (tb6_in 20 rfl) rfl, TB_in (tb1_in 1 rfl) rfl, by decide +kernel, by decide +kernel, by decide +kernel⟩, TB_in (tb6_in 18 rfl) rfl, TB_in (tb6_in 19 rfl) rfl, ⟨_, rfl⟩, by decide⟩
set_option maxRecDepth 100000 in
theorem kzvX8_suspects : KZv MX8_suspects 2 8 := ⟨⟨TB_in (tb6_in 24 rfl) rfl, TB_in (tb1_in 1 rfl) rfl, by decide +kernel, by decide +kernel, by decide +kernel⟩, TB_in (tb6_in 22 rfl) rfl, TB_in (tb6_in 23 rfl) rfl, ⟨_, rfl⟩, by decide⟩
set_option maxRecDepth 100000 in
theorem kzvX8_drift : KZv MX8_drift 5 8 := ⟨⟨TB_in (tb6_in 28 rfl) rfl, TB_in (tb1_in 1 rfl) rfl, by decide +kernel, by decide +kernel, by decide +kernel⟩, TB_in (tb6_in 26 rfl) rfl, TB_in (tb6_in 27 rfl) rfl, ⟨_, rfl⟩, by decide⟩
set_option maxRecDepth 100000 in
theorem kzvX8_whence : KZv MX8_whence 5 8 := ⟨⟨TB_in (tb6_in 40 rfl) rfl, TB_in (tb1_in 1 rfl) rfl, by decide +kernel, by decide +kernel, by decide +kernel⟩, TB_in (tb6_in 38 rfl) rfl, TB_in (tb6_in 39 rfl) rfl, ⟨_, rfl⟩, by decide⟩
set_option maxRecDepth 100000 in
theorem kzvX8_smoke : KZv MX8_smoke 1 8 := ⟨⟨TB_in (tb6_in 44 rfl) rfl, TB_in (tb1_in 1 rfl) rfl, by decide +kernel, by decide +kernel, by decide +kernel⟩, TB_in (tb6_in 42 rfl) rfl, TB_in (tb6_in 43 rfl) rfl, ⟨_, rfl⟩, by decide⟩
set_option maxRecDepth 100000 in
theorem kzvX8_kites : KZv MX8_kites 1 8 := ⟨⟨TB_in (tb6_in 67 rfl) rfl, TB_in (tb1_in 1 rfl) rfl, by decide +kernel, by decide +kernel, by decide +kernel⟩, TB_in (tb6_in 65 rfl) rfl, TB_in (tb6_in 66 rfl) rfl, ⟨_, rfl⟩, by decide⟩
set_option maxRecDepth 100000 in
theorem kzvX8_known : KZv MX8_known 1 8 := ⟨⟨TB_in (tb6_in 71 rfl) rfl, TB_in (tb1_in 1 rfl) rfl, by decide +kernel, by decide +kernel, by decide +kernel⟩, TB_in (tb6_in 69 rfl) rfl, TB_in (tb6_in 70 rfl) rfl, ⟨_, rfl⟩, by decide⟩
set_option maxRecDepth 100000 in
theorem kzvX8_price : KZv MX8_price 1 8 := ⟨⟨TB_in (tb6_in 79 rfl) rfl, TB_in (tb1_in 1 rfl) rfl, by decide +kernel, by decide +kernel, by decide +kernel⟩, TB_in (tb6_in 77 rfl) rfl, TB_in (tb6_in 78 rfl) rfl, ⟨_, rfl⟩, by decide⟩
set_option maxRecDepth 100000 in
theorem kzvX8_worth : KZv MX8_worth 3 8 := ⟨⟨TB_in (tb6_in 84 rfl) rfl, TB_in (tb1_in 1 rfl) rfl, by decide +kernel, by decide +kernel, by decide +kernel⟩, TB_in (tb6_in 82 rfl) rfl, TB_in (tb6_in 83 rfl) rfl, ⟨_, rfl⟩, by decide⟩
set_option maxRecDepth 100000 in
theorem kzvX8_best : KZv MX8_best 0 8 := ⟨⟨TB_in (tb6_in 103 rfl) rfl, TB_in (tb1_in 1 rfl) rfl, by decide +kernel, by decide +kernel, by decide +kernel⟩, TB_in (tb6_in 101 rfl) rfl, TB_in (tb6_in 102 rfl) rfl, ⟨_, rfl⟩, by decide⟩
set_option maxRecDepth 100000 in
theorem kzvX8_other : KZv MX8_other 1 8 := ⟨⟨TB_in (tb6_in 107 rfl) rfl, TB_in (tb1_in 1 rfl) rfl, by decide +kernel, by decide +kernel, by decide +kernel⟩, TB_in (tb6_in 105 rfl) rfl, TB_in (tb6_in 106 rfl) rfl, ⟨_, rfl⟩, by decide⟩
set_option maxRecDepth 100000 in
theorem kzvX8_load : KZv MX8_load 3 8 := ⟨⟨TB_in (tb6_in 117 rfl) rfl, TB_in (tb1_in 1 rfl) rfl, by decide +kernel, by decide +kernel, by decide +kernel⟩, TB_in (tb6_in 115 rfl) rfl, TB_in (tb6_in 116 rfl) rfl, ⟨_, rfl⟩, by decide⟩
set_option maxRecDepth 100000 in
theorem kzvX8_turn : KZv MX8_turn 3 8 := ⟨⟨TB_in (tb6_in 121 rfl) rfl, TB_in (tb1_in 1 rfl) rfl, by decide +kernel, by decide +kernel, by decide +kernel⟩, TB_in (tb6_in 119 rfl) rfl, TB_in (tb6_in 120 rfl) rfl, ⟨_, rfl⟩, by decide⟩
set_option maxRecDepth 100000 in
theorem kzvX8_gust : KZv MX8_gust 4 8 := ⟨⟨TB_in (tb6_in 125 rfl) rfl, TB_in (tb1_in 1 rfl) rfl, by decide +kernel, by decide +kernel, by decide +kernel⟩, TB_in (tb6_in 123 rfl) rfl, TB_in (tb6_in 124 rfl) rfl, ⟨_, rfl⟩, by decide⟩
set_option maxRecDepth 100000 in
theorem kzvX8_chance : KZv MX8_chance 6 8 := ⟨⟨TB_in (tb6_in 133 rfl) rfl, TB_in (tb1_in 1 rfl) rfl, by decide +kernel, by decide +kernel, by decide +kernel⟩, TB_in (tb6_in 131 rfl) rfl, TB_in (tb6_in 132 rfl) rfl, ⟨_, rfl⟩, by decide⟩
set_option maxRecDepth 100000 in
theorem kzvX8_takings : KZv MX8_takings 2 8 := ⟨⟨TB_in (tb6_in 142 rfl) rfl, TB_in (tb1_in 1 rfl) rfl, by decide +kernel, by decide +kernel, by decide +kernel⟩, TB_in (tb6_in 140 rfl) rfl, TB_in (tb6_in 141 rfl) rfl, ⟨_, rfl⟩, by decide⟩
set_option maxRecDepth 100000 in
theorem kzvX8_count : KZv MX8_count 1 8 := ⟨⟨TB_in (tb6_in 146 rfl) rfl, TB_in (tb1_in 1 rfl) rfl, by decide +kernel, by decide +kernel, by decide +kernel⟩, TB_in (tb6_in 144 rfl) rfl, TB_in (tb6_in 145 rfl) rfl, ⟨_, rfl⟩, by decide⟩
set_option maxRecDepth 100000 in
theorem kzvX8_keep : KZv MX8_keep 1 8 := ⟨⟨TB_in (tb6_in 154 rfl) rfl, TB_in (tb1_in 1 rfl) rfl, by decide +kernel, by decide +kernel, by decide +kernel⟩, TB_in (tb6_in 152 rfl) rfl, TB_in (tb6_in 153 rfl) rfl, ⟨_, rfl⟩, by decide⟩
set_option maxRecDepth 100000 in
theorem kzvX8_back : KZv MX8_back 1 8 := ⟨⟨TB_in (tb6_in 158 rfl) rfl, TB_in (tb1_in 1 rfl) rfl, by decide +kernel, by decide +kernel, by decide +kernel⟩, TB_in (tb6_in 156 rfl) rfl, TB_in (tb6_in 157 rfl) rfl, ⟨_, rfl⟩, by decide⟩
set_option maxRecDepth 100000 in
theorem kzvX8_row : KZv MX8_row 3 8 := ⟨⟨TB_in (tb6_in 162 rfl) rfl, TB_in (tb1_in 1 rfl) rfl, by decide +kernel, by decide +kernel, by decide +kernel⟩, TB_in (tb6_in 160 rfl) rfl, TB_in (tb6_in 161 rfl) rfl, ⟨_, rfl⟩, by decide⟩
set_option maxRecDepth 100000 in
theorem kzvX8_write : KZv MX8_write 3 8 := ⟨⟨TB_in (tb6_in 170 rfl) rfl, TB_in (tb1_in 1 rfl) rfl, by decide +kernel, by decide +kernel, by decide +kernel⟩, TB_in (tb6_in 168 rfl) rfl, TB_in (tb6_in 169 rfl) rfl, ⟨_, rfl⟩, by decide⟩
set_option maxRecDepth 100000 in
theorem kzvX8_paste : KZv MX8_paste 5 8 := ⟨⟨TB_in (tb6_in 182 rfl) rfl, TB_in (tb1_in 1 rfl) rfl, by decide +kernel, by decide +kernel, by decide +kernel⟩, TB_in (tb6_in 180 rfl) rfl, TB_in (tb6_in 181 rfl) rfl, ⟨_, rfl⟩, by decide⟩
set_option maxRecDepth 100000 in
theorem kzvX8_putBytes : KZv MX8_putBytes 1 8 := ⟨⟨TB_in (tb2_in 39 rfl) rfl, TB_in (tb1_in 1 rfl) rfl, by decide +kernel, by decide +kernel, by decide +kernel⟩, TB_in (tb2_in 38 rfl) rfl, TB_in (List.mem_append_left _ (List.mem_of_getElem? (i := 0) rfl)) rfl, ⟨_, rfl⟩, by decide⟩
set_option maxRecDepth 100000 in
theorem kzvX8_forgetAll : KZv MX8_forgetAll 0 8 := ⟨⟨TB_in (tb2_in 229 rfl) rfl, TB_in (tb1_in 1 rfl) rfl, by decide +kernel, by decide +kernel, by decide +kernel⟩, TB_in (tb2_in 228 rfl) rfl, TB_in (List.mem_append_left _ (List.mem_of_getElem? (i := 17) rfl)) rfl, ⟨_, rfl⟩, by decide⟩
set_option maxRecDepth 100000 in
theorem kzvX8_flown : KZv MX8_flown 0 8 := ⟨⟨TB_in (tb3_in 40 rfl) rfl, TB_in (tb1_in 1 rfl) rfl, by decide +kernel, by decide +kernel, by decide +kernel⟩, TB_in (tb3_in 39 rfl) rfl, TB_in (List.mem_append_left _ (List.mem_of_getElem? (i := 18) rfl)) rfl, ⟨_, rfl⟩, by decide⟩
set_option maxRecDepth 100000 in
theorem kzvX8_roaming : KZv MX8_roaming 0 8 := ⟨⟨TB_in (tb4_in 31 rfl) rfl, TB_in (tb1_in 1 rfl) rfl, by decide +kernel, by decide +kernel, by decide +kernel⟩, TB_in (tb4_in 30 rfl) rfl, TB_in (List.mem_append_left _ (List.mem_of_getElem? (i := 29) rfl)) rfl, ⟨_, rfl⟩, by decide⟩
set_option maxRecDepth 100000 in
theorem kzvX8_reachOf : KZv MX8_reachOf 1 8 := ⟨⟨TB_in (tb4_in 27 rfl) rfl, TB_in (tb1_in 1 rfl) rfl, by decide +kernel, by decide +kernel, by decide +kernel⟩, TB_in (tb4_in 26 rfl) rfl, TB_in (List.mem_append_left _ (List.mem_of_getElem? (i := 28) rfl)) rfl, ⟨_, rfl⟩, by decide⟩
set_option maxRecDepth 100000 in
theorem kzvX8_toursOf : KZv MX8_toursOf 1 8 := ⟨⟨TB_in (tb5_in 145 rfl) rfl, TB_in (tb1_in 1 rfl) rfl, by decide +kernel, by decide +kernel, by decide +kernel⟩, TB_in (tb5_in 144 rfl) rfl, TB_in (List.mem_append_left _ (List.mem_of_getElem? (i := 51) rfl)) rfl, ⟨_, rfl⟩, by decide⟩
set_option maxRecDepth 100000 in
theorem kzvX8_hasShopHour : KZv MX8_hasShopHour 2 8 := ⟨⟨TB_in (tb3_in 134 rfl) rfl, TB_in (tb1_in 1 rfl) rfl, by decide +kernel, by decide +kernel, by decide +kernel⟩, TB_in (tb3_in 133 rfl) rfl, TB_in (List.mem_append_left _ (List.mem_of_getElem? (i := 26) rfl)) rfl, ⟨_, rfl⟩, by decide⟩
set_option maxRecDepth 100000 in
theorem kzvX8_hasShopCell : KZv MX8_hasShopCell 4 8 := ⟨⟨TB_in (tb4_in 18 rfl) rfl, TB_in (tb1_in 1 rfl) rfl, by decide +kernel, by decide +kernel, by decide +kernel⟩, TB_in (tb4_in 17 rfl) rfl, TB_in (List.mem_append_left _ (List.mem_of_getElem? (i := 27) rfl)) rfl, ⟨_, rfl⟩, by decide⟩
set_option maxRecDepth 100000 in
theorem kzvX8_hasShopDoors : KZv MX8_hasShopDoors 2 8 := ⟨⟨TB_in (tb5_in 137 rfl) rfl, TB_in (tb1_in 1 rfl) rfl, by decide +kernel, by decide +kernel, by decide +kernel⟩, TB_in (tb5_in 136 rfl) rfl, TB_in (List.mem_append_left _ (List.mem_of_getElem? (i := 50) rfl)) rfl, ⟨_, rfl⟩, by decide⟩
set_option maxRecDepth 100000 in
theorem kzvX8_hasDrift : KZv MX8_hasDrift 5 8 := ⟨⟨TB_in (tb6_in 32 rfl) rfl, TB_in (tb1_in 1 rfl) rfl, by decide +kernel, by decide +kernel, by decide +kernel⟩, TB_in (tb6_in 31 rfl) rfl, TB_in (List.mem_append_left _ (List.mem_of_getElem? (i := 57) rfl)) rfl, ⟨_, rfl⟩, by decide⟩
set_option maxRecDepth 100000 in
theorem kzvX8_firstTogether : KZv MX8_firstTogether 3 8 := ⟨⟨TB_in (tb5_in 219 rfl) rfl, TB_in (tb1_in 1 rfl) rfl, by decide +kernel, by decide +kernel, by decide +kernel⟩, TB_in (tb5_in 218 rfl) rfl, TB_in (List.mem_append_left _ (List.mem_of_getElem? (i := 53) rfl)) rfl, ⟨_, rfl⟩, by decide⟩
set_option maxRecDepth 100000 in
theorem kzvX8_columnsNear : KZv MX8_columnsNear 4 8 := ⟨⟨TB_in (tb5_in 223 rfl) rfl, TB_in (tb1_in 1 rfl) rfl, by decide +kernel, by decide +kernel, by decide +kernel⟩, TB_in (tb5_in 222 rfl) rfl, TB_in (List.mem_append_left _ (List.mem_of_getElem? (i := 54) rfl)) rfl, ⟨_, rfl⟩, by decide⟩
set_option maxRecDepth 100000 in
theorem kzvX8_landing : KZv MX8_landing 3 8 := ⟨⟨TB_in (tb6_in 2 rfl) rfl, TB_in (tb1_in 1 rfl) rfl, by decide +kernel, by decide +kernel, by decide +kernel⟩, TB_in (tb6_in 1 rfl) rfl, TB_in (List.mem_append_left _ (List.mem_of_getElem? (i := 55) rfl)) rfl, ⟨_, rfl⟩, by decide⟩
set_option maxRecDepth 100000 in
theorem kzvX8_dropsTo : KZv MX8_dropsTo 4 8 := ⟨⟨TB_in (tb6_in 16 rfl) rfl, TB_in (tb1_in 1 rfl) rfl, by decide +kernel, by decide +kernel, by decide +kernel⟩, TB_in (tb6_in 15 rfl) rfl, TB_in (List.mem_append_left _ (List.mem_of_getElem? (i := 56) rfl)) rfl, ⟨_, rfl⟩, by decide⟩
set_option maxRecDepth 100000 in
theorem kzvX8_drifted : KZv MX8_drifted 4 8 := ⟨⟨TB_in (tb6_in 36 rfl) rfl, TB_in (tb1_in 1 rfl) rfl, by decide +kernel, by decide +kernel, by decide +kernel⟩, TB_in (tb6_in 35 rfl) rfl, TB_in (List.mem_append_left _ (List.mem_of_getElem? (i := 58) rfl)) rfl, ⟨_, rfl⟩, by decide⟩
set_option maxRecDepth 100000 in
theorem kzvX8_rowRefusal : KZv MX8_rowRefusal 2 8 := ⟨⟨TB_in (tb6_in 48 rfl) rfl, TB_in (tb1_in 1 rfl) rfl, by decide +kernel, by decide +kernel, by decide +kernel⟩, TB_in (tb6_in 47 rfl) rfl, TB_in (List.mem_append_left _ (List.mem_of_getElem? (i := 59) rfl)) rfl, ⟨_, rfl⟩, by decide⟩
set_option maxRecDepth 100000 in
theorem kzvX8_firstUnlike : KZv MX8_firstUnlike 2 8 := ⟨⟨TB_in (tb6_in 75 rfl) rfl, TB_in (tb1_in 1 rfl) rfl, by decide +kernel, by decide +kernel, by decide +kernel⟩, TB_in (tb6_in 74 rfl) rfl, TB_in (List.mem_append_left _ (List.mem_of_getElem? (i := 60) rfl)) rfl, ⟨_, rfl⟩, by decide⟩
set_option maxRecDepth 100000 in
theorem kzvX8_gainBy : KZv MX8_gainBy 4 8 := ⟨⟨TB_in (tb6_in 94 rfl) rfl, TB_in (tb1_in 1 rfl) rfl, by decide +kernel, by decide +kernel, by decide +kernel⟩, TB_in (tb6_in 93 rfl) rfl, TB_in (List.mem_append_left _ (List.mem_of_getElem? (i := 61) rfl)) rfl, ⟨_, rfl⟩, by decide⟩
set_option maxRecDepth 100000 in
theorem kzsX8_stillAll : KZs MX8_stillAll 1 := ⟨⟨TB_in (tb6_in 110 rfl) rfl, TB_in (tb1_in 1 rfl) rfl, by decide +kernel, by decide +kernel, by decide +kernel⟩, TB_in (tb6_in 109 rfl) rfl⟩
set_option maxRecDepth 100000 in
theorem kzsX8_addToAll : KZs MX8_addToAll 2 := ⟨⟨TB_in (tb6_in 113 rfl) rfl, TB_in (tb1_in 1 rfl) rfl, by decide +kernel, by decide +kernel, by decide +kernel⟩, TB_in (tb6_in 112 rfl) rfl⟩
set_option maxRecDepth 100000 in
theorem kzvX8_fullSlots : KZv MX8_fullSlots 0 8 := ⟨⟨TB_in (tb6_in 150 rfl) rfl, TB_in (tb1_in 1 rfl) rfl, by decide +kernel, by decide +kernel, by decide +kernel⟩, TB_in (tb6_in 149 rfl) rfl, TB_in (List.mem_append_left _ (List.mem_of_getElem? (i := 62) rfl)) rfl, ⟨_, rfl⟩, by decide⟩
set_option maxRecDepth 100000 in
theorem kzsX8_isSlot : KZs MX8_isSlot 1 := ⟨⟨TB_in (tb6_in 51 rfl) rfl, TB_in (tb1_in 1 rfl) rfl, by decide +kernel, by decide +kernel, by decide +kernel⟩, TB_in (tb6_in 50 rfl) rfl⟩
set_option maxRecDepth 100000 in
theorem kzsX8_isWind : KZs MX8_isWind 1 := ⟨⟨TB_in (tb3_in 16 rfl) rfl, TB_in (tb1_in 1 rfl) rfl, by decide +kernel, by decide +kernel, by decide +kernel⟩, TB_in (tb3_in 15 rfl) rfl⟩
set_option maxRecDepth 100000 in
theorem kzsX8_isAct : KZs MX8_isAct 1 := ⟨⟨TB_in (tb3_in 142 rfl) rfl, TB_in (tb1_in 1 rfl) rfl, by decide +kernel, by decide +kernel, by decide +kernel⟩, TB_in (tb3_in 141 rfl) rfl⟩
set_option maxRecDepth 100000 in
theorem kzsX8_isStock : KZs MX8_isStock 1 := ⟨⟨TB_in (tb5_in 177 rfl) rfl, TB_in (tb1_in 1 rfl) rfl, by decide +kernel, by decide +kernel, by decide +kernel⟩, TB_in (tb5_in 176 rfl) rfl⟩
set_option maxRecDepth 100000 in
theorem kzsX8_isDraw : KZs MX8_isDraw 2 := ⟨⟨TB_in (tb6_in 128 rfl) rfl, TB_in (tb1_in 1 rfl) rfl, by decide +kernel, by decide +kernel, by decide +kernel⟩, TB_in (tb6_in 127 rfl) rfl⟩
set_option maxRecDepth 100000 in
theorem kzsX8_columnOf : KZs MX8_columnOf 2 := ⟨⟨TB_in (tb2_in 190 rfl) rfl, TB_in (tb1_in 1 rfl) rfl, by decide +kernel, by decide +kernel, by decide +kernel⟩, TB_in (tb2_in 189 rfl) rfl⟩
set_option maxRecDepth 100000 in
theorem kzsX8_xOf : KZs MX8_xOf 1 := ⟨⟨TB_in (tb3_in 95 rfl) rfl, TB_in (tb1_in 1 rfl) rfl, by decide +kernel, by decide +kernel, by decide +kernel⟩, TB_in (tb3_in 94 rfl) rfl⟩
set_option maxRecDepth 100000 in
theorem kzsX8_yOf : KZs MX8_yOf 1 := ⟨⟨TB_in (tb3_in 98 rfl) rfl, TB_in (tb1_in 1 rfl) rfl, by decide +kernel, by decide +kernel, by decide +kernel⟩, TB_in (tb3_in 97 rfl) rfl⟩
set_option maxRecDepth 100000 in
theorem kzsX8_bitOf : KZs MX8_bitOf 1 := ⟨⟨TB_in (tb4_in 169 rfl) rfl, TB_in (tb1_in 1 rfl) rfl, by decide +kernel, by decide +kernel, by decide +kernel⟩, TB_in (tb4_in 168 rfl) rfl⟩
set_option maxRecDepth 100000 in
theorem kzsX8_hundredfold : KZs MX8_hundredfold 1 := ⟨⟨TB_in (tb6_in 6 rfl) rfl, TB_in (tb1_in 1 rfl) rfl, by decide +kernel, by decide +kernel, by decide +kernel⟩, TB_in (tb6_in 5 rfl) rfl⟩
set_option maxRecDepth 100000 in
theorem kziX9_init : KZi MX9_init 0 := ⟨⟨TB_in (tb6_in 192 rfl) rfl, TB_in (tb1_in 6 rfl) rfl, by decide +kernel, by decide +kernel, by decide +kernel⟩, TB_in (tb6_in 191 rfl) rfl, rfl, rfl⟩
set_option maxRecDepth 100000 in
theorem kzsX9_in : KZs MX9_in 3 := ⟨⟨TB_in (tb7_in 121 rfl) rfl, TB_in (tb1_in 6 rfl) rfl, by decide +kernel, by decide +kernel, by decide +kernel⟩, TB_in (tb7_in 120 rfl) rfl⟩
set_option maxRecDepth 100000 in
theorem kzsX9_isSlot : KZs MX9_isSlot 1 := ⟨⟨TB_in (tb7_in 117 rfl) rfl, TB_in (tb1_in 6 rfl) rfl, by decide +kernel, by decide +kernel, by decide +kernel⟩, TB_in (tb7_in 116 rfl) rfl⟩
set_option maxRecDepth 100000 in
theorem kzvX9_row : KZv MX9_row 3 9 := ⟨⟨TB_in (tb7_in 114 rfl) rfl, TB_in (tb1_in 6 rfl) rfl, by decide +kernel, by decide +kernel, by decide +kernel⟩, TB_in (tb7_in 112 rfl) rfl, TB_in (tb7_in 113 rfl) rfl, ⟨_, rfl⟩, by decide⟩
set_option maxRecDepth 100000 in
theorem kzsX9_cut : KZs MX9_cut 2 := ⟨⟨TB_in (tb7_in 128 rfl) rfl, TB_in (tb1_in 6 rfl) rfl, by decide +kernel, by decide +kernel, by decide +kernel⟩, TB_in (tb7_in 127 rfl) rfl⟩
set_option maxRecDepth 100000 in
theorem kzvX9_write : KZv MX9_write 3 9 := ⟨⟨TB_in (tb7_in 125 rfl) rfl, TB_in (tb1_in 6 rfl) rfl, by decide +kernel, by decide +kernel, by decide +kernel⟩, TB_in (tb7_in 123 rfl) rfl, TB_in (tb7_in 124 rfl) rfl, ⟨_, rfl⟩, by decide⟩
set_option maxRecDepth 100000 in
theorem kzvX9_paste : KZv MX9_paste 5 9 := ⟨⟨TB_in (tb7_in 132 rfl) rfl, TB_in (tb1_in 6 rfl) rfl, by decide +kernel, by decide +kernel, by decide +kernel⟩, TB_in (tb7_in 130 rfl) rfl, TB_in (tb7_in 131 rfl) rfl, ⟨_, rfl⟩, by decide⟩
set_option maxRecDepth 100000 in
theorem kzvX9_feed : KZv MX9_feed 5 9 := ⟨⟨TB_in (tb7_in 136 rfl) rfl, TB_in (tb1_in 6 rfl) rfl, by decide +kernel, by decide +kernel, by decide +kernel⟩, TB_in (tb7_in 134 rfl) rfl, TB_in (tb7_in 135 rfl) rfl, ⟨_, rfl⟩, by decide⟩
set_option maxRecDepth 100000 in
theorem kzvX9_four : KZv MX9_four 1 9 := ⟨⟨TB_in (tb7_in 140 rfl) rfl, TB_in (tb1_in 6 rfl) rfl, by decide +kernel, by decide +kernel, by decide +kernel⟩, TB_in (tb7_in 139 rfl) rfl, TB_in (List.mem_append_left _ (List.mem_of_getElem? (i := 63) rfl)) rfl, ⟨_, rfl⟩, by decide⟩
set_option maxRecDepth 100000 in
theorem kzvX9_end : KZv MX9_end 1 9 := ⟨⟨TB_in (tb7_in 144 rfl) rfl, TB_in (tb1_in 6 rfl) rfl, by decide +kernel, by decide +kernel, by decide +kernel⟩, TB_in (tb7_in 142 rfl) rfl, TB_in (tb7_in 143 rfl) rfl, ⟨_, rfl⟩, by decide⟩
set_option maxRecDepth 100000 in
theorem kzvX9_isByte : KZv MX9_isByte 3 9 := ⟨⟨TB_in (tb7_in 172 rfl) rfl, TB_in (tb1_in 6 rfl) rfl, by decide +kernel, by decide +kernel, by decide +kernel⟩, TB_in (tb7_in 171 rfl) rfl, TB_in (List.mem_append_left _ (List.mem_of_getElem? (i := 68) rfl)) rfl, ⟨_, rfl⟩, by decide⟩
set_option maxRecDepth 100000 in
theorem kzvX9_next : KZv MX9_next 0 9 := ⟨⟨TB_in (tb7_in 168 rfl) rfl, TB_in (tb1_in 6 rfl) rfl, by decide +kernel, by decide +kernel, by decide +kernel⟩, TB_in (tb7_in 167 rfl) rfl, TB_in (List.mem_append_left _ (List.mem_of_getElem? (i := 67) rfl)) rfl, ⟨_, rfl⟩, by decide⟩
set_option maxRecDepth 100000 in
theorem kzvX9_isGood : KZv MX9_isGood 0 9 := ⟨⟨TB_in (tb7_in 181 rfl) rfl, TB_in (tb1_in 6 rfl) rfl, by decide +kernel, by decide +kernel, by decide +kernel⟩, TB_in (tb7_in 180 rfl) rfl, TB_in (List.mem_append_left _ (List.mem_of_getElem? (i := 69) rfl)) rfl, ⟨_, rfl⟩, by decide⟩
set_option maxRecDepth 100000 in
theorem kzvX9_fails : KZv MX9_fails 1 9 := ⟨⟨TB_in (tb7_in 202 rfl) rfl, TB_in (tb1_in 6 rfl) rfl, by decide +kernel, by decide +kernel, by decide +kernel⟩, TB_in (tb7_in 201 rfl) rfl, TB_in (List.mem_append_left _ (List.mem_of_getElem? (i := 74) rfl)) rfl, ⟨_, rfl⟩, by decide⟩
set_option maxRecDepth 100000 in
theorem kzvX9_is : KZv MX9_is 1 9 := ⟨⟨TB_in (tb7_in 198 rfl) rfl, TB_in (tb1_in 6 rfl) rfl, by decide +kernel, by decide +kernel, by decide +kernel⟩, TB_in (tb7_in 197 rfl) rfl, TB_in (List.mem_append_left _ (List.mem_of_getElem? (i := 73) rfl)) rfl, ⟨_, rfl⟩, by decide⟩
set_option maxRecDepth 100000 in
theorem kzvX9_takes : KZv MX9_takes 1 9 := ⟨⟨TB_in (tb7_in 194 rfl) rfl, TB_in (tb1_in 6 rfl) rfl, by decide +kernel, by decide +kernel, by decide +kernel⟩, TB_in (tb7_in 193 rfl) rfl, TB_in (List.mem_append_left _ (List.mem_of_getElem? (i := 72) rfl)) rfl, ⟨_, rfl⟩, by decide⟩
set_option maxRecDepth 100000 in
theorem kzvX9_asks : KZv MX9_asks 1 9 := ⟨⟨TB_in (tb7_in 190 rfl) rfl, TB_in (tb1_in 6 rfl) rfl, by decide +kernel, by decide +kernel, by decide +kernel⟩, TB_in (tb7_in 189 rfl) rfl, TB_in (List.mem_append_left _ (List.mem_of_getElem? (i := 71) rfl)) rfl, ⟨_, rfl⟩, by decide⟩
set_option maxRecDepth 100000 in
theorem kzvX9_number : KZv MX9_number 2 9 := ⟨⟨TB_in (tb7_in 211 rfl) rfl, TB_in (tb1_in 6 rfl) rfl, by decide +kernel, by decide +kernel, by decide +kernel⟩, TB_in (tb7_in 210 rfl) rfl, TB_in (List.mem_append_left _ (List.mem_of_getElem? (i := 76) rfl)) rfl, ⟨_, rfl⟩, by decide⟩
set_option maxRecDepth 100000 in
theorem kzvX9_number_ : KZv MX9_number_ 3 9 := ⟨⟨TB_in (tb7_in 207 rfl) rfl, TB_in (tb1_in 6 rfl) rfl, by decide +kernel, by decide +kernel, by decide +kernel⟩, TB_in (tb7_in 206 rfl) rfl, TB_in (List.mem_append_left _ (List.mem_of_getElem? (i := 75) rfl)) rfl, ⟨_, rfl⟩, by decide⟩
set_option maxRecDepth 100000 in
theorem kzvX9_ends : KZv MX9_ends 0 9 := ⟨⟨TB_in (tb8_in 41 rfl) rfl, TB_in (tb1_in 6 rfl) rfl, by decide +kernel, by decide +kernel, by decide +kernel⟩, TB_in (tb8_in 40 rfl) rfl, TB_in (List.mem_append_left _ (List.mem_of_getElem? (i := 87) rfl)) rfl, ⟨_, rfl⟩, by decide⟩
set_option maxRecDepth 100000 in
theorem kzvX9_begins : KZv MX9_begins 0 9 := ⟨⟨TB_in (tb7_in 164 rfl) rfl, TB_in (tb1_in 6 rfl) rfl, by decide +kernel, by decide +kernel, by decide +kernel⟩, TB_in (tb7_in 163 rfl) rfl, TB_in (List.mem_append_left _ (List.mem_of_getElem? (i := 66) rfl)) rfl, ⟨_, rfl⟩, by decide⟩
set_option maxRecDepth 100000 in
theorem kzvX9_isOver : KZv MX9_isOver 0 9 := ⟨⟨TB_in (tb8_in 45 rfl) rfl, TB_in (tb1_in 6 rfl) rfl, by decide +kernel, by decide +kernel, by decide +kernel⟩, TB_in (tb8_in 44 rfl) rfl, TB_in (List.mem_append_left _ (List.mem_of_getElem? (i := 88) rfl)) rfl, ⟨_, rfl⟩, by decide⟩
set_option maxRecDepth 100000 in
theorem kzvX9_fault : KZv MX9_fault 1 9 := ⟨⟨TB_in (tb7_in 148 rfl) rfl, TB_in (tb1_in 6 rfl) rfl, by decide +kernel, by decide +kernel, by decide +kernel⟩, TB_in (tb7_in 146 rfl) rfl, TB_in (tb7_in 147 rfl) rfl, ⟨_, rfl⟩, by decide⟩
set_option maxRecDepth 100000 in
theorem kzvX9_hasRead : KZv MX9_hasRead 1 9 := ⟨⟨TB_in (tb7_in 226 rfl) rfl, TB_in (tb1_in 6 rfl) rfl, by decide +kernel, by decide +kernel, by decide +kernel⟩, TB_in (tb7_in 225 rfl) rfl, TB_in (List.mem_append_left _ (List.mem_of_getElem? (i := 78) rfl)) rfl, ⟨_, rfl⟩, by decide⟩
set_option maxRecDepth 100000 in
theorem kzvX9_reads : KZv MX9_reads 2 9 := ⟨⟨TB_in (tb7_in 160 rfl) rfl, TB_in (tb1_in 6 rfl) rfl, by decide +kernel, by decide +kernel, by decide +kernel⟩, TB_in (tb7_in 159 rfl) rfl, TB_in (List.mem_append_left _ (List.mem_of_getElem? (i := 65) rfl)) rfl, ⟨_, rfl⟩, by decide⟩
set_option maxRecDepth 100000 in
theorem kzvX9_first : KZv MX9_first 0 9 := ⟨⟨TB_in (tb7_in 185 rfl) rfl, TB_in (tb1_in 6 rfl) rfl, by decide +kernel, by decide +kernel, by decide +kernel⟩, TB_in (tb7_in 184 rfl) rfl, TB_in (List.mem_append_left _ (List.mem_of_getElem? (i := 70) rfl)) rfl, ⟨_, rfl⟩, by decide⟩
set_option maxRecDepth 100000 in
theorem kzvX9_xHere : KZv MX9_xHere 0 9 := ⟨⟨TB_in (tb8_in 9 rfl) rfl, TB_in (tb1_in 6 rfl) rfl, by decide +kernel, by decide +kernel, by decide +kernel⟩, TB_in (tb8_in 8 rfl) rfl, TB_in (List.mem_append_left _ (List.mem_of_getElem? (i := 82) rfl)) rfl, ⟨_, rfl⟩, by decide⟩
set_option maxRecDepth 100000 in
theorem kzvX9_yHere : KZv MX9_yHere 0 9 := ⟨⟨TB_in (tb8_in 13 rfl) rfl, TB_in (tb1_in 6 rfl) rfl, by decide +kernel, by decide +kernel, by decide +kernel⟩, TB_in (tb8_in 12 rfl) rfl, TB_in (List.mem_append_left _ (List.mem_of_getElem? (i := 83) rfl)) rfl, ⟨_, rfl⟩, by decide⟩
set_option maxRecDepth 100000 in
theorem kzvX9_hourHere : KZv MX9_hourHere 0 9 := ⟨⟨TB_in (tb7_in 235 rfl) rfl, TB_in (tb1_in 6 rfl) rfl, by decide +kernel, by decide +kernel, by decide +kernel⟩, TB_in (tb7_in 234 rfl) rfl, TB_in (List.mem_append_left _ (List.mem_of_getElem? (i := 80) rfl)) rfl, ⟨_, rfl⟩, by decide⟩
set_option maxRecDepth 100000 in
theorem kzvX9_windLine : KZv MX9_windLine 0 9 := ⟨⟨TB_in (tb7_in 230 rfl) rfl, TB_in (tb1_in 6 rfl) rfl, by decide +kernel, by decide +kernel, by decide +kernel⟩, TB_in (tb7_in 229 rfl) rfl, TB_in (List.mem_append_left _ (List.mem_of_getElem? (i := 79) rfl)) rfl, ⟨_, rfl⟩, by decide⟩
set_option maxRecDepth 100000 in
theorem kzvX9_shopLine : KZv MX9_shopLine 0 9 := ⟨⟨TB_in (tb8_in 4 rfl) rfl, TB_in (tb1_in 6 rfl) rfl, by decide +kernel, by decide +kernel, by decide +kernel⟩, TB_in (tb8_in 3 rfl) rfl, TB_in (List.mem_append_left _ (List.mem_of_getElem? (i := 81) rfl)) rfl, ⟨_, rfl⟩, by decide⟩
set_option maxRecDepth 100000 in
theorem kzvX9_doorLine : KZv MX9_doorLine 0 9 := ⟨⟨TB_in (tb8_in 20 rfl) rfl, TB_in (tb1_in 6 rfl) rfl, by decide +kernel, by decide +kernel, by decide +kernel⟩, TB_in (tb8_in 19 rfl) rfl, TB_in (List.mem_append_left _ (List.mem_of_getElem? (i := 84) rfl)) rfl, ⟨_, rfl⟩, by decide⟩
set_option maxRecDepth 100000 in
theorem kzvX9_fairLine : KZv MX9_fairLine 0 9 := ⟨⟨TB_in (tb8_in 29 rfl) rfl, TB_in (tb1_in 6 rfl) rfl, by decide +kernel, by decide +kernel, by decide +kernel⟩, TB_in (tb8_in 28 rfl) rfl, TB_in (List.mem_append_left _ (List.mem_of_getElem? (i := 85) rfl)) rfl, ⟨_, rfl⟩, by decide⟩
set_option maxRecDepth 100000 in
theorem kzvX9_planLine : KZv MX9_planLine 0 9 := ⟨⟨TB_in (tb8_in 35 rfl) rfl, TB_in (tb1_in 6 rfl) rfl, by decide +kernel, by decide +kernel, by decide +kernel⟩, TB_in (tb8_in 34 rfl) rfl, TB_in (List.mem_append_left _ (List.mem_of_getElem? (i := 86) rfl)) rfl, ⟨_, rfl⟩, by decide⟩
set_option maxRecDepth 100000 in
theorem kzvX9_line : KZv MX9_line 0 9 := ⟨⟨TB_in (tb7_in 219 rfl) rfl, TB_in (tb1_in 6 rfl) rfl, by decide +kernel, by decide +kernel, by decide +kernel⟩, TB_in (tb7_in 218 rfl) rfl, TB_in (List.mem_append_left _ (List.mem_of_getElem? (i := 77) rfl)) rfl, ⟨_, rfl⟩, by decide⟩
set_option maxRecDepth 100000 in
theorem kzvX9_clears : KZv MX9_clears 0 9 := ⟨⟨TB_in (tb7_in 156 rfl) rfl, TB_in (tb1_in 6 rfl) rfl, by decide +kernel, by decide +kernel, by decide +kernel⟩, TB_in (tb7_in 155 rfl) rfl, TB_in (List.mem_append_left _ (List.mem_of_getElem? (i := 64) rfl)) rfl, ⟨_, rfl⟩, by decide⟩
set_option maxRecDepth 100000 in
theorem kzvX9_valley : KZv MX9_valley 0 9 := ⟨⟨TB_in (tb7_in 152 rfl) rfl, TB_in (tb1_in 6 rfl) rfl, by decide +kernel, by decide +kernel, by decide +kernel⟩, TB_in (tb7_in 150 rfl) rfl, TB_in (tb7_in 151 rfl) rfl, ⟨_, rfl⟩, by decide⟩
set_option maxRecDepth 100000 in
theorem kzsX9_copyRow : KZs MX9_copyRow 4 := ⟨⟨TB_in (tb8_in 52 rfl) rfl, TB_in (tb1_in 6 rfl) rfl, by decide +kernel, by decide +kernel, by decide +kernel⟩, TB_in (tb8_in 51 rfl) rfl⟩
set_option maxRecDepth 100000 in
theorem kzvX9_copyValley : KZv MX9_copyValley 2 9 := ⟨⟨TB_in (tb8_in 49 rfl) rfl, TB_in (tb1_in 6 rfl) rfl, by decide +kernel, by decide +kernel, by decide +kernel⟩, TB_in (tb8_in 48 rfl) rfl, TB_in (List.mem_append_left _ (List.mem_of_getElem? (i := 89) rfl)) rfl, ⟨_, rfl⟩, by decide⟩
set_option maxRecDepth 100000 in
theorem kzvX9_isValley : KZv MX9_isValley 0 9 := ⟨⟨TB_in (tb8_in 105 rfl) rfl, TB_in (tb1_in 6 rfl) rfl, by decide +kernel, by decide +kernel, by decide +kernel⟩, TB_in (tb8_in 104 rfl) rfl, TB_in (List.mem_append_left _ (List.mem_of_getElem? (i := 94) rfl)) rfl, ⟨_, rfl⟩, by decide⟩
set_option maxRecDepth 100000 in
theorem kzvX9_isColumn : KZv MX9_isColumn 2 9 := ⟨⟨TB_in (tb8_in 145 rfl) rfl, TB_in (tb1_in 6 rfl) rfl, by decide +kernel, by decide +kernel, by decide +kernel⟩, TB_in (tb8_in 144 rfl) rfl, TB_in (List.mem_append_left _ (List.mem_of_getElem? (i := 102) rfl)) rfl, ⟨_, rfl⟩, by decide⟩
set_option maxRecDepth 100000 in
theorem kzvX9_isLayer : KZv MX9_isLayer 1 9 := ⟨⟨TB_in (tb8_in 60 rfl) rfl, TB_in (tb1_in 6 rfl) rfl, by decide +kernel, by decide +kernel, by decide +kernel⟩, TB_in (tb8_in 59 rfl) rfl, TB_in (List.mem_append_left _ (List.mem_of_getElem? (i := 90) rfl)) rfl, ⟨_, rfl⟩, by decide⟩
set_option maxRecDepth 100000 in
theorem kzvX9_isHour : KZv MX9_isHour 1 9 := ⟨⟨TB_in (tb8_in 64 rfl) rfl, TB_in (tb1_in 6 rfl) rfl, by decide +kernel, by decide +kernel, by decide +kernel⟩, TB_in (tb8_in 63 rfl) rfl, TB_in (List.mem_append_left _ (List.mem_of_getElem? (i := 91) rfl)) rfl, ⟨_, rfl⟩, by decide⟩
set_option maxRecDepth 100000 in
theorem kzvX9_isShop : KZv MX9_isShop 1 9 := ⟨⟨TB_in (tb8_in 84 rfl) rfl, TB_in (tb1_in 6 rfl) rfl, by decide +kernel, by decide +kernel, by decide +kernel⟩, TB_in (tb8_in 83 rfl) rfl, TB_in (List.mem_append_left _ (List.mem_of_getElem? (i := 93) rfl)) rfl, ⟨_, rfl⟩, by decide⟩
set_option maxRecDepth 100000 in
theorem kzvX9_isDoor : KZv MX9_isDoor 1 9 := ⟨⟨TB_in (tb8_in 117 rfl) rfl, TB_in (tb1_in 6 rfl) rfl, by decide +kernel, by decide +kernel, by decide +kernel⟩, TB_in (tb8_in 116 rfl) rfl, TB_in (List.mem_append_left _ (List.mem_of_getElem? (i := 95) rfl)) rfl, ⟨_, rfl⟩, by decide⟩
set_option maxRecDepth 100000 in
theorem kzsX9_isWind : KZs MX9_isWind 1 := ⟨⟨TB_in (tb8_in 75 rfl) rfl, TB_in (tb1_in 6 rfl) rfl, by decide +kernel, by decide +kernel, by decide +kernel⟩, TB_in (tb8_in 74 rfl) rfl⟩
set_option maxRecDepth 100000 in
theorem kzsX9_isAct : KZs MX9_isAct 1 := ⟨⟨TB_in (tb8_in 96 rfl) rfl, TB_in (tb1_in 6 rfl) rfl, by decide +kernel, by decide +kernel, by decide +kernel⟩, TB_in (tb8_in 95 rfl) rfl⟩
set_option maxRecDepth 100000 in
theorem kzsX9_isBit : KZs MX9_isBit 2 := ⟨⟨TB_in (tb9_in 4 rfl) rfl, TB_in (tb1_in 6 rfl) rfl, by decide +kernel, by decide +kernel, by decide +kernel⟩, TB_in (tb9_in 3 rfl) rfl⟩
set_option maxRecDepth 100000 in
theorem kzsX9_sizeOf : KZs MX9_sizeOf 1 := ⟨⟨TB_in (tb9_in 123 rfl) rfl, TB_in (tb1_in 6 rfl) rfl, by decide +kernel, by decide +kernel, by decide +kernel⟩, TB_in (tb9_in 122 rfl) rfl⟩
set_option maxRecDepth 100000 in
theorem kzvX9_windOf : KZv MX9_windOf 2 9 := ⟨⟨TB_in (tb8_in 68 rfl) rfl, TB_in (tb1_in 6 rfl) rfl, by decide +kernel, by decide +kernel, by decide +kernel⟩, TB_in (tb8_in 67 rfl) rfl, TB_in (List.mem_append_left _ (List.mem_of_getElem? (i := 92) rfl)) rfl, ⟨_, rfl⟩, by decide⟩
set_option maxRecDepth 100000 in
theorem kzvX9_wind : KZv MX9_wind 2 9 := ⟨⟨TB_in (tb8_in 56 rfl) rfl, TB_in (tb1_in 6 rfl) rfl, by decide +kernel, by decide +kernel, by decide +kernel⟩, TB_in (tb8_in 54 rfl) rfl, TB_in (tb8_in 55 rfl) rfl, ⟨_, rfl⟩, by decide⟩
set_option maxRecDepth 100000 in
theorem kzvX9_often : KZv MX9_often 2 9 := ⟨⟨TB_in (tb8_in 72 rfl) rfl, TB_in (tb1_in 6 rfl) rfl, by decide +kernel, by decide +kernel, by decide +kernel⟩, TB_in (tb8_in 70 rfl) rfl, TB_in (tb8_in 71 rfl) rfl, ⟨_, rfl⟩, by decide⟩
set_option maxRecDepth 100000 in
theorem kzvX9_shop : KZv MX9_shop 2 9 := ⟨⟨TB_in (tb8_in 80 rfl) rfl, TB_in (tb1_in 6 rfl) rfl, by decide +kernel, by decide +kernel, by decide +kernel⟩, TB_in (tb8_in 78 rfl) rfl, TB_in (tb8_in 79 rfl) rfl, ⟨_, rfl⟩, by decide⟩
set_option maxRecDepth 100000 in
theorem kzvX9_act : KZv MX9_act 2 9 := ⟨⟨TB_in (tb8_in 89 rfl) rfl, TB_in (tb1_in 6 rfl) rfl, by decide +kernel, by decide +kernel, by decide +kernel⟩, TB_in (tb8_in 87 rfl) rfl, TB_in (tb8_in 88 rfl) rfl, ⟨_, rfl⟩, by decide⟩
set_option maxRecDepth 100000 in
theorem kzvX9_plan : KZv MX9_plan 3 9 := ⟨⟨TB_in (tb8_in 93 rfl) rfl, TB_in (tb1_in 6 rfl) rfl, by decide +kernel, by decide +kernel, by decide +kernel⟩, TB_in (tb8_in 91 rfl) rfl, TB_in (tb8_in 92 rfl) rfl, ⟨_, rfl⟩, by decide⟩
set_option maxRecDepth 100000 in
theorem kzvX9_undo : KZv MX9_undo 0 9 := ⟨⟨TB_in (tb8_in 101 rfl) rfl, TB_in (tb1_in 6 rfl) rfl, by decide +kernel, by decide +kernel, by decide +kernel⟩, TB_in (tb8_in 99 rfl) rfl, TB_in (tb8_in 100 rfl) rfl, ⟨_, rfl⟩, by decide⟩
set_option maxRecDepth 100000 in
theorem kzvX9_changed : KZv MX9_changed 2 9 := ⟨⟨TB_in (tb8_in 109 rfl) rfl, TB_in (tb1_in 6 rfl) rfl, by decide +kernel, by decide +kernel, by decide +kernel⟩, TB_in (tb8_in 107 rfl) rfl, TB_in (tb8_in 108 rfl) rfl, ⟨_, rfl⟩, by decide⟩
set_option maxRecDepth 100000 in
theorem kzvX9_carries : KZv MX9_carries 1 9 := ⟨⟨TB_in (tb8_in 141 rfl) rfl, TB_in (tb1_in 6 rfl) rfl, by decide +kernel, by decide +kernel, by decide +kernel⟩, TB_in (tb8_in 140 rfl) rfl, TB_in (List.mem_append_left _ (List.mem_of_getElem? (i := 101) rfl)) rfl, ⟨_, rfl⟩, by decide⟩
set_option maxRecDepth 100000 in
theorem kzvX9_plainly : KZv MX9_plainly 0 9 := ⟨⟨TB_in (tb8_in 125 rfl) rfl, TB_in (tb1_in 6 rfl) rfl, by decide +kernel, by decide +kernel, by decide +kernel⟩, TB_in (tb8_in 124 rfl) rfl, TB_in (List.mem_append_left _ (List.mem_of_getElem? (i := 97) rfl)) rfl, ⟨_, rfl⟩, by decide⟩
set_option maxRecDepth 100000 in
theorem kzvX9_reachOf : KZv MX9_reachOf 0 9 := ⟨⟨TB_in (tb8_in 161 rfl) rfl, TB_in (tb1_in 6 rfl) rfl, by decide +kernel, by decide +kernel, by decide +kernel⟩, TB_in (tb8_in 160 rfl) rfl, TB_in (List.mem_append_left _ (List.mem_of_getElem? (i := 106) rfl)) rfl, ⟨_, rfl⟩, by decide⟩
set_option maxRecDepth 100000 in
theorem kzvX9_vainOf : KZv MX9_vainOf 4 9 := ⟨⟨TB_in (tb8_in 137 rfl) rfl, TB_in (tb1_in 6 rfl) rfl, by decide +kernel, by decide +kernel, by decide +kernel⟩, TB_in (tb8_in 136 rfl) rfl, TB_in (List.mem_append_left _ (List.mem_of_getElem? (i := 100) rfl)) rfl, ⟨_, rfl⟩, by decide⟩
set_option maxRecDepth 100000 in
theorem kzvX9_isCool : KZv MX9_isCool 1 9 := ⟨⟨TB_in (tb8_in 149 rfl) rfl, TB_in (tb1_in 6 rfl) rfl, by decide +kernel, by decide +kernel, by decide +kernel⟩, TB_in (tb8_in 148 rfl) rfl, TB_in (List.mem_append_left _ (List.mem_of_getElem? (i := 103) rfl)) rfl, ⟨_, rfl⟩, by decide⟩
set_option maxRecDepth 100000 in
theorem kzvX9_doorAt : KZv MX9_doorAt 2 9 := ⟨⟨TB_in (tb8_in 157 rfl) rfl, TB_in (tb1_in 6 rfl) rfl, by decide +kernel, by decide +kernel, by decide +kernel⟩, TB_in (tb8_in 156 rfl) rfl, TB_in (List.mem_append_left _ (List.mem_of_getElem? (i := 105) rfl)) rfl, ⟨_, rfl⟩, by decide⟩
set_option maxRecDepth 100000 in
theorem kzvX9_earns : KZv MX9_earns 1 9 := ⟨⟨TB_in (tb8_in 165 rfl) rfl, TB_in (tb1_in 6 rfl) rfl, by decide +kernel, by decide +kernel, by decide +kernel⟩, TB_in (tb8_in 164 rfl) rfl, TB_in (List.mem_append_left _ (List.mem_of_getElem? (i := 107) rfl)) rfl, ⟨_, rfl⟩, by decide⟩
set_option maxRecDepth 100000 in
theorem kzvX9_goes : KZv MX9_goes 0 9 := ⟨⟨TB_in (tb8_in 129 rfl) rfl, TB_in (tb1_in 6 rfl) rfl, by decide +kernel, by decide +kernel, by decide +kernel⟩, TB_in (tb8_in 128 rfl) rfl, TB_in (List.mem_append_left _ (List.mem_of_getElem? (i := 98) rfl)) rfl, ⟨_, rfl⟩, by decide⟩
set_option maxRecDepth 100000 in
theorem kzvX9_hourOf : KZv MX9_hourOf 2 9 := ⟨⟨TB_in (tb8_in 133 rfl) rfl, TB_in (tb1_in 6 rfl) rfl, by decide +kernel, by decide +kernel, by decide +kernel⟩, TB_in (tb8_in 132 rfl) rfl, TB_in (List.mem_append_left _ (List.mem_of_getElem? (i := 99) rfl)) rfl, ⟨_, rfl⟩, by decide⟩
set_option maxRecDepth 100000 in
theorem kzvX9_sells : KZv MX9_sells 3 9 := ⟨⟨TB_in (tb8_in 153 rfl) rfl, TB_in (tb1_in 6 rfl) rfl, by decide +kernel, by decide +kernel, by decide +kernel⟩, TB_in (tb8_in 152 rfl) rfl, TB_in (List.mem_append_left _ (List.mem_of_getElem? (i := 104) rfl)) rfl, ⟨_, rfl⟩, by decide⟩
set_option maxRecDepth 100000 in
theorem kzvX9_asTold : KZv MX9_asTold 0 9 := ⟨⟨TB_in (tb8_in 121 rfl) rfl, TB_in (tb1_in 6 rfl) rfl, by decide +kernel, by decide +kernel, by decide +kernel⟩, TB_in (tb8_in 120 rfl) rfl, TB_in (List.mem_append_left _ (List.mem_of_getElem? (i := 96) rfl)) rfl, ⟨_, rfl⟩, by decide⟩
set_option maxRecDepth 100000 in
theorem kzvX9_spotOf : KZv MX9_spotOf 3 9 := ⟨⟨TB_in (tb8_in 174 rfl) rfl, TB_in (tb1_in 6 rfl) rfl, by decide +kernel, by decide +kernel, by decide +kernel⟩, TB_in (tb8_in 173 rfl) rfl, TB_in (List.mem_append_left _ (List.mem_of_getElem? (i := 108) rfl)) rfl, ⟨_, rfl⟩, by decide⟩
set_option maxRecDepth 100000 in
theorem kzvX9_door : KZv MX9_door 2 9 := ⟨⟨TB_in (tb8_in 113 rfl) rfl, TB_in (tb1_in 6 rfl) rfl, by decide +kernel, by decide +kernel, by decide +kernel⟩, TB_in (tb8_in 111 rfl) rfl, TB_in (tb8_in 112 rfl) rfl, ⟨_, rfl⟩, by decide⟩
set_option maxRecDepth 100000 in
theorem kzvX9_where : KZv MX9_where 3 9 := ⟨⟨TB_in (tb8_in 169 rfl) rfl, TB_in (tb1_in 6 rfl) rfl, by decide +kernel, by decide +kernel, by decide +kernel⟩, TB_in (tb8_in 167 rfl) rfl, TB_in (tb8_in 168 rfl) rfl, ⟨_, rfl⟩, by decide⟩
set_option maxRecDepth 100000 in
theorem kzvX9_why : KZv MX9_why 2 9 := ⟨⟨TB_in (tb8_in 178 rfl) rfl, TB_in (tb1_in 6 rfl) rfl, by decide +kernel, by decide +kernel, by decide +kernel⟩, TB_in (tb8_in 176 rfl) rfl, TB_in (tb8_in 177 rfl) rfl, ⟨_, rfl⟩, by decide⟩
set_option maxRecDepth 100000 in
theorem kzvX9_vain : KZv MX9_vain 1 9 := ⟨⟨TB_in (tb8_in 182 rfl) rfl, TB_in (tb1_in 6 rfl) rfl, by decide +kernel, by decide +kernel, by decide +kernel⟩, TB_in (tb8_in 180 rfl) rfl, TB_in (tb8_in 181 rfl) rfl, ⟨_, rfl⟩, by decide⟩
set_option maxRecDepth 100000 in
theorem kzvX9_blown : KZv MX9_blown 2 9 := ⟨⟨TB_in (tb8_in 186 rfl) rfl, TB_in (tb1_in 6 rfl) rfl, by decide +kernel, by decide +kernel, by decide +kernel⟩, TB_in (tb8_in 184 rfl) rfl, TB_in (tb8_in 185 rfl) rfl, ⟨_, rfl⟩, by decide⟩
set_option maxRecDepth 100000 in
theorem kzvX9_sales : KZv MX9_sales 2 9 := ⟨⟨TB_in (tb8_in 190 rfl) rfl, TB_in (tb1_in 6 rfl) rfl, by decide +kernel, by decide +kernel, by decide +kernel⟩, TB_in (tb8_in 188 rfl) rfl, TB_in (tb8_in 189 rfl) rfl, ⟨_, rfl⟩, by decide⟩
set_option maxRecDepth 100000 in
theorem kzvX9_sold : KZv MX9_sold 2 9 := ⟨⟨TB_in (tb8_in 194 rfl) rfl, TB_in (tb1_in 6 rfl) rfl, by decide +kernel, by decide +kernel, by decide +kernel⟩, TB_in (tb8_in 192 rfl) rfl, TB_in (tb8_in 193 rfl) rfl, ⟨_, rfl⟩, by decide⟩
set_option maxRecDepth 100000 in
theorem kzvX9_moneyNow : KZv MX9_moneyNow 0 9 := ⟨⟨TB_in (tb8_in 202 rfl) rfl, TB_in (tb1_in 6 rfl) rfl, by decide +kernel, by decide +kernel, by decide +kernel⟩, TB_in (tb8_in 201 rfl) rfl, TB_in (List.mem_append_left _ (List.mem_of_getElem? (i := 109) rfl)) rfl, ⟨_, rfl⟩, by decide⟩
set_option maxRecDepth 100000 in
theorem kzvX9_money : KZv MX9_money 0 9 := ⟨⟨TB_in (tb8_in 198 rfl) rfl, TB_in (tb1_in 6 rfl) rfl, by decide +kernel, by decide +kernel, by decide +kernel⟩, TB_in (tb8_in 196 rfl) rfl, TB_in (tb8_in 197 rfl) rfl, ⟨_, rfl⟩, by decide⟩
set_option maxRecDepth 100000 in
theorem kzvX9_richest : KZv MX9_richest 0 9 := ⟨⟨TB_in (tb8_in 206 rfl) rfl, TB_in (tb1_in 6 rfl) rfl, by decide +kernel, by decide +kernel, by decide +kernel⟩, TB_in (tb8_in 204 rfl) rfl, TB_in (tb8_in 205 rfl) rfl, ⟨_, rfl⟩, by decide⟩
set_option maxRecDepth 100000 in
theorem kzvX9_areTwo : KZv MX9_areTwo 2 9 := ⟨⟨TB_in (tb8_in 214 rfl) rfl, TB_in (tb1_in 6 rfl) rfl, by decide +kernel, by decide +kernel, by decide +kernel⟩, TB_in (tb8_in 213 rfl) rfl, TB_in (List.mem_append_left _ (List.mem_of_getElem? (i := 110) rfl)) rfl, ⟨_, rfl⟩, by decide⟩
set_option maxRecDepth 100000 in
theorem kzvX9_meets : KZv MX9_meets 2 9 := ⟨⟨TB_in (tb8_in 210 rfl) rfl, TB_in (tb1_in 6 rfl) rfl, by decide +kernel, by decide +kernel, by decide +kernel⟩, TB_in (tb8_in 208 rfl) rfl, TB_in (tb8_in 209 rfl) rfl, ⟨_, rfl⟩, by decide⟩
set_option maxRecDepth 100000 in
theorem kzvX9_over : KZv MX9_over 3 9 := ⟨⟨TB_in (tb8_in 218 rfl) rfl, TB_in (tb1_in 6 rfl) rfl, by decide +kernel, by decide +kernel, by decide +kernel⟩, TB_in (tb8_in 216 rfl) rfl, TB_in (tb8_in 217 rfl) rfl, ⟨_, rfl⟩, by decide⟩
set_option maxRecDepth 100000 in
theorem kzvX9_grounded : KZv MX9_grounded 1 9 := ⟨⟨TB_in (tb8_in 222 rfl) rfl, TB_in (tb1_in 6 rfl) rfl, by decide +kernel, by decide +kernel, by decide +kernel⟩, TB_in (tb8_in 220 rfl) rfl, TB_in (tb8_in 221 rfl) rfl, ⟨_, rfl⟩, by decide⟩
set_option maxRecDepth 100000 in
theorem kzvX9_state : KZv MX9_state 0 9 := ⟨⟨TB_in (tb9_in 12 rfl) rfl, TB_in (tb1_in 6 rfl) rfl, by decide +kernel, by decide +kernel, by decide +kernel⟩, TB_in (tb9_in 11 rfl) rfl, TB_in (List.mem_append_left _ (List.mem_of_getElem? (i := 115) rfl)) rfl, ⟨_, rfl⟩, by decide⟩
set_option maxRecDepth 100000 in
theorem kzvX9_reads_ : KZv MX9_reads_ 1 9 := ⟨⟨TB_in (tb9_in 30 rfl) rfl, TB_in (tb1_in 6 rfl) rfl, by decide +kernel, by decide +kernel, by decide +kernel⟩, TB_in (tb9_in 29 rfl) rfl, TB_in (List.mem_append_left _ (List.mem_of_getElem? (i := 118) rfl)) rfl, ⟨_, rfl⟩, by decide⟩
set_option maxRecDepth 100000 in
theorem kzvX9_marks : KZv MX9_marks 0 9 := ⟨⟨TB_in (tb9_in 1 rfl) rfl, TB_in (tb1_in 6 rfl) rfl, by decide +kernel, by decide +kernel, by decide +kernel⟩, TB_in (tb9_in 0 rfl) rfl, TB_in (List.mem_append_left _ (List.mem_of_getElem? (i := 113) rfl)) rfl, ⟨_, rfl⟩, by decide⟩
set_option maxRecDepth 100000 in
theorem kzvX9_puts : KZv MX9_puts 1 9 := ⟨⟨TB_in (tb9_in 8 rfl) rfl, TB_in (tb1_in 6 rfl) rfl, by decide +kernel, by decide +kernel, by decide +kernel⟩, TB_in (tb9_in 7 rfl) rfl, TB_in (List.mem_append_left _ (List.mem_of_getElem? (i := 114) rfl)) rfl, ⟨_, rfl⟩, by decide⟩
set_option maxRecDepth 100000 in
theorem kzsX9_isOn : KZs MX9_isOn 2 := ⟨⟨TB_in (tb9_in 19 rfl) rfl, TB_in (tb1_in 6 rfl) rfl, by decide +kernel, by decide +kernel, by decide +kernel⟩, TB_in (tb9_in 18 rfl) rfl⟩
set_option maxRecDepth 100000 in
theorem kzsX9_empties : KZs MX9_empties 1 := ⟨⟨TB_in (tb8_in 237 rfl) rfl, TB_in (tb1_in 6 rfl) rfl, by decide +kernel, by decide +kernel, by decide +kernel⟩, TB_in (tb8_in 236 rfl) rfl⟩
set_option maxRecDepth 100000 in
theorem kzvX9_starts : KZv MX9_starts 3 9 := ⟨⟨TB_in (tb8_in 234 rfl) rfl, TB_in (tb1_in 6 rfl) rfl, by decide +kernel, by decide +kernel, by decide +kernel⟩, TB_in (tb8_in 233 rfl) rfl, TB_in (List.mem_append_left _ (List.mem_of_getElem? (i := 112) rfl)) rfl, ⟨_, rfl⟩, by decide⟩
set_option maxRecDepth 100000 in
theorem kzvX9_acts : KZv MX9_acts 2 9 := ⟨⟨TB_in (tb9_in 34 rfl) rfl, TB_in (tb1_in 6 rfl) rfl, by decide +kernel, by decide +kernel, by decide +kernel⟩, TB_in (tb9_in 33 rfl) rfl, TB_in (List.mem_append_left _ (List.mem_of_getElem? (i := 119) rfl)) rfl, ⟨_, rfl⟩, by decide⟩
set_option maxRecDepth 100000 in
theorem kzvX9_hourFree : KZv MX9_hourFree 1 9 := ⟨⟨TB_in (tb9_in 23 rfl) rfl, TB_in (tb1_in 6 rfl) rfl, by decide +kernel, by decide +kernel, by decide +kernel⟩, TB_in (tb9_in 22 rfl) rfl, TB_in (List.mem_append_left _ (List.mem_of_getElem? (i := 117) rfl)) rfl, ⟨_, rfl⟩, by decide⟩
set_option maxRecDepth 100000 in
theorem kzsX9_lowest : KZs MX9_lowest 1 := ⟨⟨TB_in (tb9_in 26 rfl) rfl, TB_in (tb1_in 6 rfl) rfl, by decide +kernel, by decide +kernel, by decide +kernel⟩, TB_in (tb9_in 25 rfl) rfl⟩
set_option maxRecDepth 100000 in
theorem kzvX9_mostLeft : KZv MX9_mostLeft 3 9 := ⟨⟨TB_in (tb9_in 16 rfl) rfl, TB_in (tb1_in 6 rfl) rfl, by decide +kernel, by decide +kernel, by decide +kernel⟩, TB_in (tb9_in 15 rfl) rfl, TB_in (List.mem_append_left _ (List.mem_of_getElem? (i := 116) rfl)) rfl, ⟨_, rfl⟩, by decide⟩
set_option maxRecDepth 100000 in
theorem kzvX9_isCell : KZv MX9_isCell 3 9 := ⟨⟨TB_in (tb8_in 230 rfl) rfl, TB_in (tb1_in 6 rfl) rfl, by decide +kernel, by decide +kernel, by decide +kernel⟩, TB_in (tb8_in 229 rfl) rfl, TB_in (List.mem_append_left _ (List.mem_of_getElem? (i := 111) rfl)) rfl, ⟨_, rfl⟩, by decide⟩
set_option maxRecDepth 100000 in
theorem kzvX9_least : KZv MX9_least 4 9 := ⟨⟨TB_in (tb8_in 226 rfl) rfl, TB_in (tb1_in 6 rfl) rfl, by decide +kernel, by decide +kernel, by decide +kernel⟩, TB_in (tb8_in 224 rfl) rfl, TB_in (tb8_in 225 rfl) rfl, ⟨_, rfl⟩, by decide⟩
set_option maxRecDepth 100000 in
theorem kzvX9_soonestOf : KZv MX9_soonestOf 4 9 := ⟨⟨TB_in (tb9_in 42 rfl) rfl, TB_in (tb1_in 6 rfl) rfl, by decide +kernel, by decide +kernel, by decide +kernel⟩, TB_in (tb9_in 41 rfl) rfl, TB_in (List.mem_append_left _ (List.mem_of_getElem? (i := 120) rfl)) rfl, ⟨_, rfl⟩, by decide⟩
set_option maxRecDepth 100000 in
theorem kzvX9_soonest : KZv MX9_soonest 4 9 := ⟨⟨TB_in (tb9_in 38 rfl) rfl, TB_in (tb1_in 6 rfl) rfl, by decide +kernel, by decide +kernel, by decide +kernel⟩, TB_in (tb9_in 36 rfl) rfl, TB_in (tb9_in 37 rfl) rfl, ⟨_, rfl⟩, by decide⟩
set_option maxRecDepth 100000 in
theorem kzvX9_way : KZv MX9_way 5 9 := ⟨⟨TB_in (tb9_in 46 rfl) rfl, TB_in (tb1_in 6 rfl) rfl, by decide +kernel, by decide +kernel, by decide +kernel⟩, TB_in (tb9_in 44 rfl) rfl, TB_in (tb9_in 45 rfl) rfl, ⟨_, rfl⟩, by decide⟩
set_option maxRecDepth 100000 in
theorem kzvX9_actOf : KZv MX9_actOf 7 9 := ⟨⟨TB_in (tb9_in 50 rfl) rfl, TB_in (tb1_in 6 rfl) rfl, by decide +kernel, by decide +kernel, by decide +kernel⟩, TB_in (tb9_in 49 rfl) rfl, TB_in (List.mem_append_left _ (List.mem_of_getElem? (i := 121) rfl)) rfl, ⟨_, rfl⟩, by decide⟩
set_option maxRecDepth 100000 in
theorem kzvX9_freely : KZv MX9_freely 2 9 := ⟨⟨TB_in (tb9_in 58 rfl) rfl, TB_in (tb1_in 6 rfl) rfl, by decide +kernel, by decide +kernel, by decide +kernel⟩, TB_in (tb9_in 57 rfl) rfl, TB_in (List.mem_append_left _ (List.mem_of_getElem? (i := 122) rfl)) rfl, ⟨_, rfl⟩, by decide⟩
set_option maxRecDepth 100000 in
theorem kzvX9_spotsNow : KZv MX9_spotsNow 1 9 := ⟨⟨TB_in (tb9_in 62 rfl) rfl, TB_in (tb1_in 6 rfl) rfl, by decide +kernel, by decide +kernel, by decide +kernel⟩, TB_in (tb9_in 61 rfl) rfl, TB_in (List.mem_append_left _ (List.mem_of_getElem? (i := 123) rfl)) rfl, ⟨_, rfl⟩, by decide⟩
set_option maxRecDepth 100000 in
theorem kzvX9_spots : KZv MX9_spots 2 9 := ⟨⟨TB_in (tb9_in 54 rfl) rfl, TB_in (tb1_in 6 rfl) rfl, by decide +kernel, by decide +kernel, by decide +kernel⟩, TB_in (tb9_in 52 rfl) rfl, TB_in (tb9_in 53 rfl) rfl, ⟨_, rfl⟩, by decide⟩
set_option maxRecDepth 100000 in
theorem kzvX9_columns : KZv MX9_columns 2 9 := ⟨⟨TB_in (tb9_in 66 rfl) rfl, TB_in (tb1_in 6 rfl) rfl, by decide +kernel, by decide +kernel, by decide +kernel⟩, TB_in (tb9_in 64 rfl) rfl, TB_in (tb9_in 65 rfl) rfl, ⟨_, rfl⟩, by decide⟩
set_option maxRecDepth 100000 in
theorem kzvX9_startsRows : KZv MX9_startsRows 3 9 := ⟨⟨TB_in (tb9_in 75 rfl) rfl, TB_in (tb1_in 6 rfl) rfl, by decide +kernel, by decide +kernel, by decide +kernel⟩, TB_in (tb9_in 74 rfl) rfl, TB_in (List.mem_append_left _ (List.mem_of_getElem? (i := 124) rfl)) rfl, ⟨_, rfl⟩, by decide⟩
set_option maxRecDepth 100000 in
theorem kzvX9_isGood_ : KZv MX9_isGood_ 2 9 := ⟨⟨TB_in (tb9_in 83 rfl) rfl, TB_in (tb1_in 6 rfl) rfl, by decide +kernel, by decide +kernel, by decide +kernel⟩, TB_in (tb9_in 82 rfl) rfl, TB_in (List.mem_append_left _ (List.mem_of_getElem? (i := 126) rfl)) rfl, ⟨_, rfl⟩, by decide⟩
set_option maxRecDepth 100000 in
theorem kzvX9_hourRows : KZv MX9_hourRows 2 9 := ⟨⟨TB_in (tb9_in 79 rfl) rfl, TB_in (tb1_in 6 rfl) rfl, by decide +kernel, by decide +kernel, by decide +kernel⟩, TB_in (tb9_in 78 rfl) rfl, TB_in (List.mem_append_left _ (List.mem_of_getElem? (i := 125) rfl)) rfl, ⟨_, rfl⟩, by decide⟩
set_option maxRecDepth 100000 in
theorem kzvX9_ways : KZv MX9_ways 2 9 := ⟨⟨TB_in (tb9_in 70 rfl) rfl, TB_in (tb1_in 6 rfl) rfl, by decide +kernel, by decide +kernel, by decide +kernel⟩, TB_in (tb9_in 68 rfl) rfl, TB_in (tb9_in 69 rfl) rfl, ⟨_, rfl⟩, by decide⟩
set_option maxRecDepth 100000 in
theorem kzvX9_mostBy : KZv MX9_mostBy 2 9 := ⟨⟨TB_in (tb9_in 91 rfl) rfl, TB_in (tb1_in 6 rfl) rfl, by decide +kernel, by decide +kernel, by decide +kernel⟩, TB_in (tb9_in 90 rfl) rfl, TB_in (List.mem_append_left _ (List.mem_of_getElem? (i := 127) rfl)) rfl, ⟨_, rfl⟩, by decide⟩
set_option maxRecDepth 100000 in
theorem kzvX9_fair : KZv MX9_fair 1 9 := ⟨⟨TB_in (tb9_in 87 rfl) rfl, TB_in (tb1_in 6 rfl) rfl, by decide +kernel, by decide +kernel, by decide +kernel⟩, TB_in (tb9_in 85 rfl) rfl, TB_in (tb9_in 86 rfl) rfl, ⟨_, rfl⟩, by decide⟩
set_option maxRecDepth 100000 in
theorem kzvX9_aloft : KZv MX9_aloft 1 9 := ⟨⟨TB_in (tb9_in 95 rfl) rfl, TB_in (tb1_in 6 rfl) rfl, by decide +kernel, by decide +kernel, by decide +kernel⟩, TB_in (tb9_in 93 rfl) rfl, TB_in (tb9_in 94 rfl) rfl, ⟨_, rfl⟩, by decide⟩
set_option maxRecDepth 100000 in
theorem kzvX9_lasts : KZv MX9_lasts 1 9 := ⟨⟨TB_in (tb9_in 99 rfl) rfl, TB_in (tb1_in 6 rfl) rfl, by decide +kernel, by decide +kernel, by decide +kernel⟩, TB_in (tb9_in 97 rfl) rfl, TB_in (tb9_in 98 rfl) rfl, ⟨_, rfl⟩, by decide⟩
set_option maxRecDepth 100000 in
theorem kzvX9_tourLeft : KZv MX9_tourLeft 1 9 := ⟨⟨TB_in (tb9_in 111 rfl) rfl, TB_in (tb1_in 6 rfl) rfl, by decide +kernel, by decide +kernel, by decide +kernel⟩, TB_in (tb9_in 110 rfl) rfl, TB_in (List.mem_append_left _ (List.mem_of_getElem? (i := 129) rfl)) rfl, ⟨_, rfl⟩, by decide⟩
set_option maxRecDepth 100000 in
theorem kzvX9_isDoors : KZv MX9_isDoors 1 9 := ⟨⟨TB_in (tb9_in 107 rfl) rfl, TB_in (tb1_in 6 rfl) rfl, by decide +kernel, by decide +kernel, by decide +kernel⟩, TB_in (tb9_in 106 rfl) rfl, TB_in (List.mem_append_left _ (List.mem_of_getElem? (i := 128) rfl)) rfl, ⟨_, rfl⟩, by decide⟩
set_option maxRecDepth 100000 in
theorem kzvX9_tour : KZv MX9_tour 2 9 := ⟨⟨TB_in (tb9_in 103 rfl) rfl, TB_in (tb1_in 6 rfl) rfl, by decide +kernel, by decide +kernel, by decide +kernel⟩, TB_in (tb9_in 101 rfl) rfl, TB_in (tb9_in 102 rfl) rfl, ⟨_, rfl⟩, by decide⟩
set_option maxRecDepth 100000 in
theorem kzvX9_done : KZv MX9_done 2 9 := ⟨⟨TB_in (tb9_in 115 rfl) rfl, TB_in (tb1_in 6 rfl) rfl, by decide +kernel, by decide +kernel, by decide +kernel⟩, TB_in (tb9_in 113 rfl) rfl, TB_in (tb9_in 114 rfl) rfl, ⟨_, rfl⟩, by decide⟩
set_option maxRecDepth 100000 in
theorem kzvX9_doors : KZv MX9_doors 3 9 := ⟨⟨TB_in (tb9_in 119 rfl) rfl, TB_in (tb1_in 6 rfl) rfl, by decide +kernel, by decide +kernel, by decide +kernel⟩, TB_in (tb9_in 117 rfl) rfl, TB_in (tb9_in 118 rfl) rfl, ⟨_, rfl⟩, by decide⟩
set_option maxRecDepth 100000 in
theorem kzvX9_cellOf : KZv MX9_cellOf 3 9 := ⟨⟨TB_in (tb9_in 139 rfl) rfl, TB_in (tb1_in 6 rfl) rfl, by decide +kernel, by decide +kernel, by decide +kernel⟩, TB_in (tb9_in 138 rfl) rfl, TB_in (List.mem_append_left _ (List.mem_of_getElem? (i := 132) rfl)) rfl, ⟨_, rfl⟩, by decide⟩
set_option maxRecDepth 100000 in
theorem kzvX9_laysCanBe : KZv MX9_laysCanBe 1 9 := ⟨⟨TB_in (tb9_in 135 rfl) rfl, TB_in (tb1_in 6 rfl) rfl, by decide +kernel, by decide +kernel, by decide +kernel⟩, TB_in (tb9_in 134 rfl) rfl, TB_in (List.mem_append_left _ (List.mem_of_getElem? (i := 131) rfl)) rfl, ⟨_, rfl⟩, by decide⟩
set_option maxRecDepth 100000 in
theorem kzvX9_isNear : KZv MX9_isNear 5 9 := ⟨⟨TB_in (tb9_in 143 rfl) rfl, TB_in (tb1_in 6 rfl) rfl, by decide +kernel, by decide +kernel, by decide +kernel⟩, TB_in (tb9_in 142 rfl) rfl, TB_in (List.mem_append_left _ (List.mem_of_getElem? (i := 133) rfl)) rfl, ⟨_, rfl⟩, by decide⟩
set_option maxRecDepth 100000 in
theorem kzvX9_meetBy : KZv MX9_meetBy 3 9 := ⟨⟨TB_in (tb9_in 131 rfl) rfl, TB_in (tb1_in 6 rfl) rfl, by decide +kernel, by decide +kernel, by decide +kernel⟩, TB_in (tb9_in 130 rfl) rfl, TB_in (List.mem_append_left _ (List.mem_of_getElem? (i := 130) rfl)) rfl, ⟨_, rfl⟩, by decide⟩
set_option maxRecDepth 100000 in
theorem kzvX9_meet : KZv MX9_meet 2 9 := ⟨⟨TB_in (tb9_in 127 rfl) rfl, TB_in (tb1_in 6 rfl) rfl, by decide +kernel, by decide +kernel, by decide +kernel⟩, TB_in (tb9_in 125 rfl) rfl, TB_in (tb9_in 126 rfl) rfl, ⟨_, rfl⟩, by decide⟩
set_option maxRecDepth 100000 in
theorem kzvX9_rope : KZv MX9_rope 2 9 := ⟨⟨TB_in (tb9_in 147 rfl) rfl, TB_in (tb1_in 6 rfl) rfl, by decide +kernel, by decide +kernel, by decide +kernel⟩, TB_in (tb9_in 145 rfl) rfl, TB_in (tb9_in 146 rfl) rfl, ⟨_, rfl⟩, by decide⟩
set_option maxRecDepth 100000 in
theorem kzvX9_landsOf : KZv MX9_landsOf 2 9 := ⟨⟨TB_in (tb9_in 155 rfl) rfl, TB_in (tb1_in 6 rfl) rfl, by decide +kernel, by decide +kernel, by decide +kernel⟩, TB_in (tb9_in 154 rfl) rfl, TB_in (List.mem_append_left _ (List.mem_of_getElem? (i := 134) rfl)) rfl, ⟨_, rfl⟩, by decide⟩
set_option maxRecDepth 100000 in
theorem kzvX9_lands : KZv MX9_lands 2 9 := ⟨⟨TB_in (tb9_in 151 rfl) rfl, TB_in (tb1_in 6 rfl) rfl, by decide +kernel, by decide +kernel, by decide +kernel⟩, TB_in (tb9_in 149 rfl) rfl, TB_in (tb9_in 150 rfl) rfl, ⟨_, rfl⟩, by decide⟩
set_option maxRecDepth 100000 in
theorem kzvX9_isDropped : KZv MX9_isDropped 3 9 := ⟨⟨TB_in (tb9_in 163 rfl) rfl, TB_in (tb1_in 6 rfl) rfl, by decide +kernel, by decide +kernel, by decide +kernel⟩, TB_in (tb9_in 162 rfl) rfl, TB_in (List.mem_append_left _ (List.mem_of_getElem? (i := 135) rfl)) rfl, ⟨_, rfl⟩, by decide⟩
set_option maxRecDepth 100000 in
theorem kzvX9_who : KZv MX9_who 2 9 := ⟨⟨TB_in (tb9_in 159 rfl) rfl, TB_in (tb1_in 6 rfl) rfl, by decide +kernel, by decide +kernel, by decide +kernel⟩, TB_in (tb9_in 157 rfl) rfl, TB_in (tb9_in 158 rfl) rfl, ⟨_, rfl⟩, by decide⟩
set_option maxRecDepth 100000 in
theorem kzvX9_first_ : KZv MX9_first_ 2 9 := ⟨⟨TB_in (tb9_in 167 rfl) rfl, TB_in (tb1_in 6 rfl) rfl, by decide +kernel, by decide +kernel, by decide +kernel⟩, TB_in (tb9_in 165 rfl) rfl, TB_in (tb9_in 166 rfl) rfl, ⟨_, rfl⟩, by decide⟩
set_option maxRecDepth 100000 in
theorem kzvX9_suspects : KZv MX9_suspects 2 9 := ⟨⟨TB_in (tb9_in 171 rfl) rfl, TB_in (tb1_in 6 rfl) rfl, by decide +kernel, by decide +kernel, by decide +kernel⟩, TB_in (tb9_in 169 rfl) rfl, TB_in (tb9_in 170 rfl) rfl, ⟨_, rfl⟩, by decide⟩
set_option maxRecDepth 100000 in
theorem kzvX9_driftOf : KZv MX9_driftOf 5 9 := ⟨⟨TB_in (tb9_in 184 rfl) rfl, TB_in (tb1_in 6 rfl) rfl, by decide +kernel, by decide +kernel, by decide +kernel⟩, TB_in (tb9_in 183 rfl) rfl, TB_in (List.mem_append_left _ (List.mem_of_getElem? (i := 137) rfl)) rfl, ⟨_, rfl⟩, by decide⟩
set_option maxRecDepth 100000 in
theorem kzvX9_isDrift : KZv MX9_isDrift 5 9 := ⟨⟨TB_in (tb9_in 179 rfl) rfl, TB_in (tb1_in 6 rfl) rfl, by decide +kernel, by decide +kernel, by decide +kernel⟩, TB_in (tb9_in 178 rfl) rfl, TB_in (List.mem_append_left _ (List.mem_of_getElem? (i := 136) rfl)) rfl, ⟨_, rfl⟩, by decide⟩
set_option maxRecDepth 100000 in
theorem kzvX9_drift : KZv MX9_drift 5 9 := ⟨⟨TB_in (tb9_in 175 rfl) rfl, TB_in (tb1_in 6 rfl) rfl, by decide +kernel, by decide +kernel, by decide +kernel⟩, TB_in (tb9_in 173 rfl) rfl, TB_in (tb9_in 174 rfl) rfl, ⟨_, rfl⟩, by decide⟩
set_option maxRecDepth 100000 in
theorem kzvX9_whence : KZv MX9_whence 5 9 := ⟨⟨TB_in (tb9_in 188 rfl) rfl, TB_in (tb1_in 6 rfl) rfl, by decide +kernel, by decide +kernel, by decide +kernel⟩, TB_in (tb9_in 186 rfl) rfl, TB_in (tb9_in 187 rfl) rfl, ⟨_, rfl⟩, by decide⟩
set_option maxRecDepth 100000 in
theorem kzvX9_whyNotRow : KZv MX9_whyNotRow 2 9 := ⟨⟨TB_in (tb9_in 200 rfl) rfl, TB_in (tb1_in 6 rfl) rfl, by decide +kernel, by decide +kernel, by decide +kernel⟩, TB_in (tb9_in 199 rfl) rfl, TB_in (List.mem_append_left _ (List.mem_of_getElem? (i := 139) rfl)) rfl, ⟨_, rfl⟩, by decide⟩
set_option maxRecDepth 100000 in
theorem kzvX9_isSo : KZv MX9_isSo 3 9 := ⟨⟨TB_in (tb9_in 204 rfl) rfl, TB_in (tb1_in 6 rfl) rfl, by decide +kernel, by decide +kernel, by decide +kernel⟩, TB_in (tb9_in 203 rfl) rfl, TB_in (List.mem_append_left _ (List.mem_of_getElem? (i := 140) rfl)) rfl, ⟨_, rfl⟩, by decide⟩
set_option maxRecDepth 100000 in
theorem kzvX9_layersBy : KZv MX9_layersBy 2 9 := ⟨⟨TB_in (tb9_in 196 rfl) rfl, TB_in (tb1_in 6 rfl) rfl, by decide +kernel, by decide +kernel, by decide +kernel⟩, TB_in (tb9_in 195 rfl) rfl, TB_in (List.mem_append_left _ (List.mem_of_getElem? (i := 138) rfl)) rfl, ⟨_, rfl⟩, by decide⟩
set_option maxRecDepth 100000 in
theorem kzvX9_smoke : KZv MX9_smoke 1 9 := ⟨⟨TB_in (tb9_in 192 rfl) rfl, TB_in (tb1_in 6 rfl) rfl, by decide +kernel, by decide +kernel, by decide +kernel⟩, TB_in (tb9_in 190 rfl) rfl, TB_in (tb9_in 191 rfl) rfl, ⟨_, rfl⟩, by decide⟩
set_option maxRecDepth 100000 in
theorem kzvX9_kites : KZv MX9_kites 1 9 := ⟨⟨TB_in (tb9_in 209 rfl) rfl, TB_in (tb1_in 6 rfl) rfl, by decide +kernel, by decide +kernel, by decide +kernel⟩, TB_in (tb9_in 207 rfl) rfl, TB_in (tb9_in 208 rfl) rfl, ⟨_, rfl⟩, by decide⟩
set_option maxRecDepth 100000 in
theorem kzvX9_known : KZv MX9_known 1 9 := ⟨⟨TB_in (tb9_in 213 rfl) rfl, TB_in (tb1_in 6 rfl) rfl, by decide +kernel, by decide +kernel, by decide +kernel⟩, TB_in (tb9_in 211 rfl) rfl, TB_in (tb9_in 212 rfl) rfl, ⟨_, rfl⟩, by decide⟩
set_option maxRecDepth 100000 in
theorem kzvX9_price : KZv MX9_price 1 9 := ⟨⟨TB_in (tb9_in 217 rfl) rfl, TB_in (tb1_in 6 rfl) rfl, by decide +kernel, by decide +kernel, by decide +kernel⟩, TB_in (tb9_in 215 rfl) rfl, TB_in (tb9_in 216 rfl) rfl, ⟨_, rfl⟩, by decide⟩
set_option maxRecDepth 100000 in
theorem kzvX9_moneyBy : KZv MX9_moneyBy 3 9 := ⟨⟨TB_in (tb9_in 226 rfl) rfl, TB_in (tb1_in 6 rfl) rfl, by decide +kernel, by decide +kernel, by decide +kernel⟩, TB_in (tb9_in 225 rfl) rfl, TB_in (List.mem_append_left _ (List.mem_of_getElem? (i := 141) rfl)) rfl, ⟨_, rfl⟩, by decide⟩
set_option maxRecDepth 100000 in
theorem kzvX9_moneyPlain : KZv MX9_moneyPlain 0 9 := ⟨⟨TB_in (tb9_in 230 rfl) rfl, TB_in (tb1_in 6 rfl) rfl, by decide +kernel, by decide +kernel, by decide +kernel⟩, TB_in (tb9_in 229 rfl) rfl, TB_in (List.mem_append_left _ (List.mem_of_getElem? (i := 142) rfl)) rfl, ⟨_, rfl⟩, by decide⟩
set_option maxRecDepth 100000 in
theorem kzvX9_worth : KZv MX9_worth 3 9 := ⟨⟨TB_in (tb9_in 221 rfl) rfl, TB_in (tb1_in 6 rfl) rfl, by decide +kernel, by decide +kernel, by decide +kernel⟩, TB_in (tb9_in 219 rfl) rfl, TB_in (tb9_in 220 rfl) rfl, ⟨_, rfl⟩, by decide⟩
set_option maxRecDepth 100000 in
theorem kzvX9_best : KZv MX9_best 0 9 := ⟨⟨TB_in (tb9_in 234 rfl) rfl, TB_in (tb1_in 6 rfl) rfl, by decide +kernel, by decide +kernel, by decide +kernel⟩, TB_in (tb9_in 232 rfl) rfl, TB_in (tb9_in 233 rfl) rfl, ⟨_, rfl⟩, by decide⟩
set_option maxRecDepth 100000 in
theorem kzvX9_other : KZv MX9_other 1 9 := ⟨⟨TB_in (tb9_in 238 rfl) rfl, TB_in (tb1_in 6 rfl) rfl, by decide +kernel, by decide +kernel, by decide +kernel⟩, TB_in (tb9_in 236 rfl) rfl, TB_in (tb9_in 237 rfl) rfl, ⟨_, rfl⟩, by decide⟩
set_option maxRecDepth 100000 in
theorem kzvX9_load : KZv MX9_load 3 9 := ⟨⟨TB_in (tb10_in 2 rfl) rfl, TB_in (tb1_in 6 rfl) rfl, by decide +kernel, by decide +kernel, by decide +kernel⟩, TB_in (tb10_in 0 rfl) rfl, TB_in (tb10_in 1 rfl) rfl, ⟨_, rfl⟩, by decide⟩
set_option maxRecDepth 100000 in
theorem kzvX9_turn : KZv MX9_turn 3 9 := ⟨⟨TB_in (tb10_in 6 rfl) rfl, TB_in (tb1_in 6 rfl) rfl, by decide +kernel, by decide +kernel, by decide +kernel⟩, TB_in (tb10_in 4 rfl) rfl, TB_in (tb10_in 5 rfl) rfl, ⟨_, rfl⟩, by decide⟩
set_option maxRecDepth 100000 in
theorem kzvX9_draws : KZv MX9_draws 2 9 := ⟨⟨TB_in (tb10_in 19 rfl) rfl, TB_in (tb1_in 6 rfl) rfl, by decide +kernel, by decide +kernel, by decide +kernel⟩, TB_in (tb10_in 18 rfl) rfl, TB_in (List.mem_append_left _ (List.mem_of_getElem? (i := 144) rfl)) rfl, ⟨_, rfl⟩, by decide⟩
set_option maxRecDepth 100000 in
theorem kzvX9_isDraw : KZv MX9_isDraw 2 9 := ⟨⟨TB_in (tb10_in 14 rfl) rfl, TB_in (tb1_in 6 rfl) rfl, by decide +kernel, by decide +kernel, by decide +kernel⟩, TB_in (tb10_in 13 rfl) rfl, TB_in (List.mem_append_left _ (List.mem_of_getElem? (i := 143) rfl)) rfl, ⟨_, rfl⟩, by decide⟩
set_option maxRecDepth 100000 in
theorem kzvX9_gust : KZv MX9_gust 4 9 := ⟨⟨TB_in (tb10_in 10 rfl) rfl, TB_in (tb1_in 6 rfl) rfl, by decide +kernel, by decide +kernel, by decide +kernel⟩, TB_in (tb10_in 8 rfl) rfl, TB_in (tb10_in 9 rfl) rfl, ⟨_, rfl⟩, by decide⟩
set_option maxRecDepth 100000 in
theorem kzvX9_chance : KZv MX9_chance 6 9 := ⟨⟨TB_in (tb10_in 27 rfl) rfl, TB_in (tb1_in 6 rfl) rfl, by decide +kernel, by decide +kernel, by decide +kernel⟩, TB_in (tb10_in 25 rfl) rfl, TB_in (tb10_in 26 rfl) rfl, ⟨_, rfl⟩, by decide⟩
set_option maxRecDepth 100000 in
theorem kzvX9_takings : KZv MX9_takings 2 9 := ⟨⟨TB_in (tb10_in 32 rfl) rfl, TB_in (tb1_in 6 rfl) rfl, by decide +kernel, by decide +kernel, by decide +kernel⟩, TB_in (tb10_in 30 rfl) rfl, TB_in (tb10_in 31 rfl) rfl, ⟨_, rfl⟩, by decide⟩
set_option maxRecDepth 100000 in
theorem kzvX9_count : KZv MX9_count 1 9 := ⟨⟨TB_in (tb10_in 36 rfl) rfl, TB_in (tb1_in 6 rfl) rfl, by decide +kernel, by decide +kernel, by decide +kernel⟩, TB_in (tb10_in 34 rfl) rfl, TB_in (tb10_in 35 rfl) rfl, ⟨_, rfl⟩, by decide⟩
set_option maxRecDepth 100000 in
theorem kzvX9_keep : KZv MX9_keep 1 9 := ⟨⟨TB_in (tb10_in 41 rfl) rfl, TB_in (tb1_in 6 rfl) rfl, by decide +kernel, by decide +kernel, by decide +kernel⟩, TB_in (tb10_in 39 rfl) rfl, TB_in (tb10_in 40 rfl) rfl, ⟨_, rfl⟩, by decide⟩
set_option maxRecDepth 100000 in
theorem kzvX9_back : KZv MX9_back 1 9 := ⟨⟨TB_in (tb10_in 45 rfl) rfl, TB_in (tb1_in 6 rfl) rfl, by decide +kernel, by decide +kernel, by decide +kernel⟩, TB_in (tb10_in 43 rfl) rfl, TB_in (tb10_in 44 rfl) rfl, ⟨_, rfl⟩, by decide⟩
set_option maxRecDepth 100000 in
theorem kzsJ6_bitCount_0f7a4 : KZs MJ6_bitCount_0f7a4 1 := ⟨⟨TB_in (tb5_in 184 rfl) rfl, TB_in (tb1_in 18 rfl) rfl, by decide +kernel, by decide +kernel, by decide +kernel⟩, TB_in (tb5_in 183 rfl) rfl⟩
set_option maxRecDepth 100000 in
theorem kzsJ13_bitCount_95d88 : KZs MJ13_bitCount_95d88 1 := ⟨⟨TB_in (tb5_in 113 rfl) rfl, TB_in (tb1_in 17 rfl) rfl, by decide +kernel, by decide +kernel, by decide +kernel⟩, TB_in (tb5_in 112 rfl) rfl⟩
set_option maxRecDepth 100000 in
theorem kztJ0_charAt_5068e : KZt MJ0_charAt_5068e 1 := ⟨⟨TB_in (tb2_in 100 rfl) rfl, TB_in (tb1_in 8 rfl) rfl, by decide +kernel, by decide +kernel, by decide +kernel⟩, TB_in (tb2_in 98 rfl) rfl, TB_in (tb2_in 99 rfl) rfl, rfl⟩
set_option maxRecDepth 100000 in
theorem kztJ0_length_8abf5 : KZt MJ0_length_8abf5 0 := ⟨⟨TB_in (tb2_in 90 rfl) rfl, TB_in (tb1_in 8 rfl) rfl, by decide +kernel, by decide +kernel, by decide +kernel⟩, TB_in (tb2_in 88 rfl) rfl, TB_in (tb2_in 89 rfl) rfl, rfl⟩
abbrev ML_law : Mt := (yL_law, code, 4, some .boolean, 14, 520)
theorem R_constI {G : Gm} {M : Mt} {pc q : Nat} {L : List (Nat × Value)} {st : List Value} {s : Hp} {o : Option Value × Hp} {v w : Int32} (hd : DI M.2.1 pc v q) (hv : w = v) (kk : R G M q L (.int w :: st) s o) : R G M pc L st s o := by subst hv; exact R_const hd kk
theorem R_ldcI {G : Gm} {M : Mt} {pc q : Nat} {L : List (Nat × Value)} {st : List Value} {s : Hp} {o : Option Value × Hp} {v w : Int32} {i : Nat} (hd : Dn M.2.1 pc (.ldc i) 2 q) (hw : Cond.constant M.1.cls i v ∈ TB) (hv : w = v) (kk : R G M q L (.int w :: st) s o) : R G M pc L st s o := by subst hv; exact R_ldc hd hw kk
theorem R_ldcwI {G : Gm} {M : Mt} {pc q : Nat} {L : List (Nat × Value)} {st : List Value} {s : Hp} {o : Option Value × Hp} {v w : Int32} {i : Nat} (hd : Dn M.2.1 pc (.ldc_w i) 3 q) (hw : Cond.constant M.1.cls i v ∈ TB) (hv : w = v) (kk : R G M q L (.int w :: st) s o) : R G M pc L st s o := by subst hv; exact R_ldcw hd hw kk
def iI (z : Int) : Int32 := Int32.ofInt z
theorem ci_m1000000 : iI (-1000000) = (-1000000) := by decide
theorem ci_m8 : iI (-8) = (-8) := by decide
theorem ci_m7 : iI (-7) = (-7) := by decide
theorem ci_m6 : iI (-6) = (-6) := by decide
theorem ci_m5 : iI (-5) = (-5) := by decide
theorem ci_m4 : iI (-4) = (-4) := by decide
theorem ci_m3 : iI (-3) = (-3) := by decide
theorem ci_m2 : iI (-2) = (-2) := by decide
theorem ci_m1 : iI (-1) = (-1) := by decide
theorem ci_0 : iI 0 = 0 := by decide
theorem ci_1 : iI 1 = 1 := by decide
theorem ci_2 : iI 2 = 2 := by decide
theorem ci_3 : iI 3 = 3 := by decide
theorem ci_4 : iI 4 = 4 := by decide
theorem ci_5 : iI 5 = 5 := by decide
theorem ci_6 : iI 6 = 6 := by decide
theorem ci_7 : iI 7 = 7 := by decide
theorem ci_8 : iI 8 = 8 := by decide
theorem ci_9 : iI 9 = 9 := by decide
theorem ci_10 : iI 10 = 10 := by decide
theorem ci_11 : iI 11 = 11 := by decide
theorem ci_12 : iI 12 = 12 := by decide
theorem ci_13 : iI 13 = 13 := by decide
theorem ci_14 : iI 14 = 14 := by decide
theorem ci_15 : iI 15 = 15 := by decide
theorem ci_16 : iI 16 = 16 := by decide
theorem ci_17 : iI 17 = 17 := by decide
theorem ci_18 : iI 18 = 18 := by decide
theorem ci_19 : iI 19 = 19 := by decide
theorem ci_20 : iI 20 = 20 := by decide
theorem ci_21 : iI 21 = 21 := by decide
theorem ci_22 : iI 22 = 22 := by decide
theorem ci_23 : iI 23 = 23 := by decide
theorem ci_24 : iI 24 = 24 := by decide
theorem ci_25 : iI 25 = 25 := by decide
theorem ci_26 : iI 26 = 26 := by decide
theorem ci_27 : iI 27 = 27 := by decide
theorem ci_28 : iI 28 = 28 := by decide
theorem ci_29 : iI 29 = 29 := by decide
theorem ci_30 : iI 30 = 30 := by decide
theorem ci_31 : iI 31 = 31 := by decide
theorem ci_32 : iI 32 = 32 := by decide
theorem ci_33 : iI 33 = 33 := by decide
theorem ci_34 : iI 34 = 34 := by decide
theorem ci_35 : iI 35 = 35 := by decide
theorem ci_36 : iI 36 = 36 := by decide
theorem ci_37 : iI 37 = 37 := by decide
theorem ci_38 : iI 38 = 38 := by decide
theorem ci_39 : iI 39 = 39 := by decide
theorem ci_40 : iI 40 = 40 := by decide
theorem ci_41 : iI 41 = 41 := by decide
theorem ci_42 : iI 42 = 42 := by decide
theorem ci_43 : iI 43 = 43 := by decide
theorem ci_44 : iI 44 = 44 := by decide
theorem ci_45 : iI 45 = 45 := by decide
theorem ci_46 : iI 46 = 46 := by decide
theorem ci_47 : iI 47 = 47 := by decide
theorem ci_48 : iI 48 = 48 := by decide
theorem ci_49 : iI 49 = 49 := by decide
theorem ci_50 : iI 50 = 50 := by decide
theorem ci_51 : iI 51 = 51 := by decide
theorem ci_52 : iI 52 = 52 := by decide
theorem ci_53 : iI 53 = 53 := by decide
theorem ci_54 : iI 54 = 54 := by decide
theorem ci_55 : iI 55 = 55 := by decide
theorem ci_56 : iI 56 = 56 := by decide
theorem ci_57 : iI 57 = 57 := by decide
theorem ci_58 : iI 58 = 58 := by decide
theorem ci_59 : iI 59 = 59 := by decide
theorem ci_60 : iI 60 = 60 := by decide
theorem ci_63 : iI 63 = 63 := by decide
theorem ci_64 : iI 64 = 64 := by decide
theorem ci_75 : iI 75 = 75 := by decide
theorem ci_96 : iI 96 = 96 := by decide
theorem ci_97 : iI 97 = 97 := by decide
theorem ci_99 : iI 99 = 99 := by decide
theorem ci_100 : iI 100 = 100 := by decide
theorem ci_120 : iI 120 = 120 := by decide
theorem ci_122 : iI 122 = 122 := by decide
theorem ci_125 : iI 125 = 125 := by decide
theorem ci_127 : iI 127 = 127 := by decide
theorem ci_240 : iI 240 = 240 := by decide
theorem ci_320 : iI 320 = 320 := by decide
theorem ci_480 : iI 480 = 480 := by decide
theorem ci_500 : iI 500 = 500 := by decide
theorem ci_600 : iI 600 = 600 := by decide
theorem ci_700 : iI 700 = 700 := by decide
theorem ci_1000 : iI 1000 = 1000 := by decide
theorem ci_1200 : iI 1200 = 1200 := by decide
theorem ci_1580 : iI 1580 = 1580 := by decide
theorem ci_1600 : iI 1600 = 1600 := by decide
theorem ci_4000 : iI 4000 = 4000 := by decide
theorem ci_7680 : iI 7680 = 7680 := by decide
theorem ci_16000 : iI 16000 = 16000 := by decide
theorem ci_32000 : iI 32000 = 32000 := by decide
theorem ci_100000 : iI 100000 = 100000 := by decide
theorem ci_1000000 : iI 1000000 = 1000000 := by decide
theorem ci_252645135 : iI 252645135 = 252645135 := by decide
theorem ci_858993459 : iI 858993459 = 858993459 := by decide
theorem ci_1431655765 : iI 1431655765 = 1431655765 := by decide
theorem ci_2000000000 : iI 2000000000 = 2000000000 := by decide
