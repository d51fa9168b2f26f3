/-! longs by integers; the reference: its kinds, its bounds, its plain questions -/
def jI (z : Int) : Int64 := Int64.ofInt z
def i64 (z : Int) : Prop := -9223372036854775808 ≤ z ∧ z < 9223372036854775808
theorem jI_toInt {z : Int} (h1 : -9223372036854775808 ≤ z) (h2 : z < 9223372036854775808) : (jI z).toInt = z := Int64.toInt_ofInt_of_le h1 h2
theorem jI_of (x : Int64) : ∃ z : Int, -9223372036854775808 ≤ z ∧ z < 9223372036854775808 ∧ x = jI z := ⟨x.toInt, Int64.le_toInt x, Int64.toInt_lt x, (Int64.ofInt_toInt x).symm⟩
theorem jI_add (a b : Int) : jI a + jI b = jI (a + b) := (Int64.ofInt_add a b).symm
theorem jI_sub (a b : Int) : jI a - jI b = jI (a - b) := (Int64.ofInt_sub a b).symm
theorem jI_mul (a b : Int) : jI a * jI b = jI (a * b) := (Int64.ofInt_mul a b).symm
theorem jI_lt {a b : Int} (h1 : -9223372036854775808 ≤ a) (h2 : a < 9223372036854775808) (h3 : -9223372036854775808 ≤ b) (h4 : b < 9223372036854775808) : (jI a < jI b) ↔ a < b := by rw [Int64.lt_iff_toInt_lt, jI_toInt h1 h2, jI_toInt h3 h4]
theorem jI_le {a b : Int} (h1 : -9223372036854775808 ≤ a) (h2 : a < 9223372036854775808) (h3 : -9223372036854775808 ≤ b) (h4 : b < 9223372036854775808) : (jI a ≤ jI b) ↔ a ≤ b := by rw [Int64.le_iff_toInt_le, jI_toInt h1 h2, jI_toInt h3 h4]
theorem jI_eq {a b : Int} (h1 : -9223372036854775808 ≤ a) (h2 : a < 9223372036854775808) (h3 : -9223372036854775808 ≤ b) (h4 : b < 9223372036854775808) : (jI a = jI b) ↔ a = b := by rw [← Int64.toInt_inj, jI_toInt h1 h2, jI_toInt h3 h4]
theorem jI_i {z : Int} (h1 : -2147483648 ≤ z) (h2 : z < 2147483648) : Int32.toInt64 (iI z) = jI z := by
  rw [← Int64.toInt_inj, Int32.toInt_toInt64, iI_toInt h1 h2, jI_toInt (by omega) (by omega)]
theorem jI_0 : (0 : Int64) = jI 0 := by decide
theorem jI_1 : (1 : Int64) = jI 1 := by decide
theorem jI_2 : (2 : Int64) = jI 2 := by decide
theorem jI_3 : (3 : Int64) = jI 3 := by decide
theorem jI_4 : (4 : Int64) = jI 4 := by decide
theorem jI_5 : (5 : Int64) = jI 5 := by decide
theorem jI_6 : (6 : Int64) = jI 6 := by decide
theorem jI_8 : (8 : Int64) = jI 8 := by decide
theorem jI_9 : (9 : Int64) = jI 9 := by decide
theorem jI_20 : (20 : Int64) = jI 20 := by decide
theorem jI_24 : (24 : Int64) = jI 24 := by decide
theorem jI_100 : (100 : Int64) = jI 100 := by decide
theorem jI_2G : (2000000000 : Int64) = jI 2000000000 := by decide
theorem bI_congr {p q : Prop} [Decidable p] [Decidable q] (h : p ↔ q) : bI p = bI q := by
  by_cases hp : p
  · rw [bI_t hp, bI_t (h.mp hp)]
  · rw [bI_f hp, bI_f (fun hq => hp (h.mpr hq))]
theorem ib {α : Type} {p : Prop} [Decidable p] {a b : α} [Decidable (iI (bI p) = iI 0)] : (if iI (bI p) = iI 0 then a else b) = if p then b else a := by
  by_cases h : p
  · rw [if_neg (by rw [← iI_0, bI_0]; exact fun q => q h), if_pos h]
  · rw [if_pos (by rw [← iI_0, bI_0]; exact h), if_neg h]
theorem rZ_b {p : Prop} [Decidable p] : rZ (iI (bI p)) = some () := rZ_ok bI_01
theorem m_in {z a b : Int} {s : Hp} (h1 : -9223372036854775808 ≤ z) (h2 : z < 9223372036854775808) (h3 : -9223372036854775808 ≤ a) (h4 : a < 9223372036854775808) (h5 : -9223372036854775808 ≤ b) (h6 : b < 9223372036854775808) : fX9_in (jI z) (jI a) (jI b) s = some (iI (bI (a ≤ z ∧ z ≤ b)), s) := by
  simp only [fX9_in, fX9_in_b17, lg_cmp_lt, lg_cmp_gt, jI_lt h1 h2 h3 h4, jI_lt h5 h6 h1 h2]
  by_cases c : a ≤ z ∧ z ≤ b
  · rw [if_neg (by omega), if_neg (by omega), bI_t c]
  · rw [bI_f c]
    by_cases c2 : z < a
    · rw [if_pos c2]
    · rw [if_neg c2, if_pos (by omega)]
def mT : Nat → Nat × Nat := fun k => [(20, 4), (20, 4), (21, 240), (21, 60), (22, 1600), (20, 5), (20, 75), (20, 600), (20, 120), (20, 120), (20, 75), (20, 480), (20, 1200), (23, 3), (20, 700), (20, 96), (23, 96), (20, 96), (20, 5), (23, 120), (21, 16000), (21, 16000), (21, 32000), (21, 32000), (23, 7680)].getD k (0, 0)
def mKd (E : Ev) (d : Nat) : Prop := KD E d 9 52 ∧ ∀ k, k < 25 → KD E (d + (k + 1)) (mT k).1 (mT k).2
/-- bounds of what the reference holds of its valley -/
def mWd (B : Bk) (d : Nat) : Prop := (0 ≤ B.2.2.2.1 (d + 6) 0 ∧ B.2.2.2.1 (d + 6) 0 ≤ 1600) ∧ (0 ≤ B.2.2.2.1 (d + 7) 0 ∧ B.2.2.2.1 (d + 7) 0 ≤ 8) ∧ (0 ≤ B.2.2.2.1 (d + 7) 1 ∧ B.2.2.2.1 (d + 7) 1 ≤ 8) ∧ (0 ≤ B.2.2.2.1 (d + 7) 2 ∧ B.2.2.2.1 (d + 7) 2 ≤ 5) ∧ (0 ≤ B.2.2.2.1 (d + 7) 3 ∧ B.2.2.2.1 (d + 7) 3 ≤ 24) ∧ (0 ≤ B.2.2.2.1 (d + 7) 4 ∧ B.2.2.2.1 (d + 7) 4 ≤ 24) ∧ (0 ≤ B.2.2.2.1 (d + 7) 5 ∧ B.2.2.2.1 (d + 7) 5 ≤ 4) ∧ (0 ≤ B.2.2.2.1 (d + 7) 6 ∧ B.2.2.2.1 (d + 7) 6 ≤ 99) ∧ (0 ≤ B.2.2.2.1 (d + 7) 7 ∧ B.2.2.2.1 (d + 7) 7 ≤ 4) ∧ (0 ≤ B.2.2.2.1 (d + 7) 8 ∧ B.2.2.2.1 (d + 7) 8 ≤ 5) ∧ (0 ≤ B.2.2.2.1 (d + 7) 14 ∧ B.2.2.2.1 (d + 7) 14 ≤ 60)
section M1
variable {E : Ev} {B : Bk} {d : Nat}
theorem mk1 (h : mKd E d) : KD E (d + 1) 20 4 := h.2 0 (by decide)
theorem mk2 (h : mKd E d) : KD E (d + 2) 20 4 := h.2 1 (by decide)
theorem mk3 (h : mKd E d) : KD E (d + 3) 21 240 := h.2 2 (by decide)
theorem mk4 (h : mKd E d) : KD E (d + 4) 21 60 := h.2 3 (by decide)
theorem mk5 (h : mKd E d) : KD E (d + 5) 22 1600 := h.2 4 (by decide)
theorem mk6 (h : mKd E d) : KD E (d + 6) 20 5 := h.2 5 (by decide)
theorem mk7 (h : mKd E d) : KD E (d + 7) 20 75 := h.2 6 (by decide)
theorem mk8 (h : mKd E d) : KD E (d + 8) 20 600 := h.2 7 (by decide)
theorem mk9 (h : mKd E d) : KD E (d + 9) 20 120 := h.2 8 (by decide)
theorem mk10 (h : mKd E d) : KD E (d + 10) 20 120 := h.2 9 (by decide)
theorem mk11 (h : mKd E d) : KD E (d + 11) 20 75 := h.2 10 (by decide)
theorem mk12 (h : mKd E d) : KD E (d + 12) 20 480 := h.2 11 (by decide)
theorem mk13 (h : mKd E d) : KD E (d + 13) 20 1200 := h.2 12 (by decide)
theorem mk14 (h : mKd E d) : KD E (d + 14) 23 3 := h.2 13 (by decide)
theorem mk15 (h : mKd E d) : KD E (d + 15) 20 700 := h.2 14 (by decide)
theorem mk16 (h : mKd E d) : KD E (d + 16) 20 96 := h.2 15 (by decide)
theorem mk17 (h : mKd E d) : KD E (d + 17) 23 96 := h.2 16 (by decide)
theorem mk18 (h : mKd E d) : KD E (d + 18) 20 96 := h.2 17 (by decide)
theorem mk19 (h : mKd E d) : KD E (d + 19) 20 5 := h.2 18 (by decide)
theorem mk20 (h : mKd E d) : KD E (d + 20) 23 120 := h.2 19 (by decide)
theorem mk21 (h : mKd E d) : KD E (d + 21) 21 16000 := h.2 20 (by decide)
theorem mk22 (h : mKd E d) : KD E (d + 22) 21 16000 := h.2 21 (by decide)
theorem mk23 (h : mKd E d) : KD E (d + 23) 21 32000 := h.2 22 (by decide)
theorem mk24 (h : mKd E d) : KD E (d + 24) 21 32000 := h.2 23 (by decide)
theorem mk25 (h : mKd E d) : KD E (d + 25) 23 7680 := h.2 24 (by decide)
theorem m_isSlot {z : Int} {s : Hp} (hz : i32 z) : fX9_isSlot (iI z) s = some (iI (bI (0 ≤ z ∧ z ≤ 3)), s) := by
  obtain ⟨z1, z2⟩ := hz
  simp (disch := omega) only [fX9_isSlot, jI_i, jI_0, jI_3, m_in, some_bind, rZ_b]
theorem m_isWind {z : Int} {s : Hp} (hz : i64 z) : fX9_isWind (jI z) s = some (iI (bI (0 ≤ z ∧ z ≤ 4)), s) := by
  obtain ⟨z1, z2⟩ := hz
  simp (disch := omega) only [fX9_isWind, jI_0, jI_4, m_in, some_bind, rZ_b]
theorem m_isAct {z : Int} {s : Hp} (hz : i32 z) : fX9_isAct (iI z) s = some (iI (bI (0 ≤ z ∧ z ≤ 2)), s) := by
  obtain ⟨z1, z2⟩ := hz
  simp (disch := omega) only [fX9_isAct, jI_i, jI_0, jI_2, m_in, some_bind, rZ_b]
theorem m_isValley (h : mKd E d) (hw : mWd B d) : fX9_isValley (E.1 + d) (St E B) = some (iI (bI (0 < B.2.2.2.1 (d + 6) 0)), St E B) := by
  obtain ⟨w0, -⟩ := hw
  simp (disch := omega) only [fX9_isValley, c9 h.1, g9_16 h.1, aI_ok (mk6 h), some_bind, iI_0, iI_le]
  by_cases c : 0 < B.2.2.2.1 (d + 6) 0
  · rw [if_neg (by omega), bI_t c]
  · rw [if_pos (by omega), bI_f c]
theorem m_isLayer {z : Int} (hz : i32 z) (h : mKd E d) (hw : mWd B d) : fX9_isLayer (E.1 + d) (iI z) (St E B) = some (iI (bI (0 ≤ z ∧ z < B.2.2.2.1 (d + 7) 2)), St E B) := by
  obtain ⟨-, -, -, w, -⟩ := hw
  obtain ⟨z1, z2⟩ := hz
  simp (disch := omega) only [fX9_isLayer, c9 h.1, g9_17 h.1, aI_ok (mk7 h), some_bind, iI_sub, jI_i, jI_0, m_in, rZ_b]
  rw [bI_congr (show (0 ≤ z ∧ z ≤ B.2.2.2.1 (d + 7) 2 - 1) ↔ (0 ≤ z ∧ z < B.2.2.2.1 (d + 7) 2) by omega)]
theorem m_isShop {z : Int} (hz : i32 z) (h : mKd E d) (hw : mWd B d) : fX9_isShop (E.1 + d) (iI z) (St E B) = some (iI (bI (0 ≤ z ∧ z < B.2.2.2.1 (d + 7) 7)), St E B) := by
  obtain ⟨-, -, -, -, -, -, -, -, w, -⟩ := hw
  obtain ⟨z1, z2⟩ := hz
  simp (disch := omega) only [fX9_isShop, c9 h.1, g9_17 h.1, aI_ok (mk7 h), some_bind, iI_sub, jI_i, jI_0, m_in, rZ_b]
  rw [bI_congr (show (0 ≤ z ∧ z ≤ B.2.2.2.1 (d + 7) 7 - 1) ↔ (0 ≤ z ∧ z < B.2.2.2.1 (d + 7) 7) by omega)]
theorem m_isDoor {z : Int} (hz : i32 z) (h : mKd E d) (hw : mWd B d) : fX9_isDoor (E.1 + d) (iI z) (St E B) = some (iI (bI (0 ≤ z ∧ z < B.2.2.2.1 (d + 7) 8)), St E B) := by
  obtain ⟨-, -, -, -, -, -, -, -, -, w, -⟩ := hw
  obtain ⟨z1, z2⟩ := hz
  simp (disch := omega) only [fX9_isDoor, c9 h.1, g9_17 h.1, aI_ok (mk7 h), some_bind, iI_sub, jI_i, jI_0, m_in, rZ_b]
  rw [bI_congr (show (0 ≤ z ∧ z ≤ B.2.2.2.1 (d + 7) 8 - 1) ↔ (0 ≤ z ∧ z < B.2.2.2.1 (d + 7) 8) by omega)]
theorem m_isHour {z : Int} (hz : i64 z) (h : mKd E d) (hw : mWd B d) : fX9_isHour (E.1 + d) (jI z) (St E B) = some (iI (bI (0 ≤ z ∧ z < B.2.2.2.1 (d + 7) 3)), St E B) := by
  obtain ⟨-, -, -, -, w, -⟩ := hw
  obtain ⟨z1, z2⟩ := hz
  simp (disch := omega) only [fX9_isHour, c9 h.1, g9_17 h.1, aI_ok (mk7 h), some_bind, jI_i, jI_0, jI_1, jI_sub, m_in, rZ_b]
  rw [bI_congr (show (0 ≤ z ∧ z ≤ B.2.2.2.1 (d + 7) 3 - 1) ↔ (0 ≤ z ∧ z < B.2.2.2.1 (d + 7) 3) by omega)]
theorem m_isColumn {x y : Int} (hx : i64 x) (hy : i64 y) (h : mKd E d) (hw : mWd B d) : fX9_isColumn (E.1 + d) (jI x) (jI y) (St E B) = some (iI (bI ((0 ≤ x ∧ x < B.2.2.2.1 (d + 7) 0) ∧ (0 ≤ y ∧ y < B.2.2.2.1 (d + 7) 1))), St E B) := by
  obtain ⟨-, w, v, -⟩ := hw
  obtain ⟨x1, x2⟩ := hx
  obtain ⟨y1, y2⟩ := hy
  simp (disch := omega) only [fX9_isColumn, fX9_isColumn_b38, c9 h.1, g9_17 h.1, aI_ok (mk7 h), some_bind, jI_i, jI_0, jI_1, jI_sub, m_in, iI_0, ib]
  by_cases c1 : 0 ≤ x ∧ x < B.2.2.2.1 (d + 7) 0
  · rw [if_pos (by omega)]
    by_cases c2 : 0 ≤ y ∧ y < B.2.2.2.1 (d + 7) 1
    · rw [if_pos (by omega), bI_t ⟨c1, c2⟩]
    · rw [if_neg (by omega), bI_f (fun q => c2 q.2)]
  · rw [if_neg (by omega), bI_f (fun q => c1 q.1)]
theorem m_windOf {l hr : Int} (h : mKd E d) (h1 : 0 ≤ l) (h2 : l < 5) (h3 : 0 ≤ hr) (h4 : hr < 24) : fX9_windOf (E.1 + d) (iI l) (iI hr) (St E B) = some (iI (B.2.2.2.1 (d + 8) (24 * l + hr)), St E B) := by
  simp (disch := omega) only [fX9_windOf, c9 h.1, g9_18 h.1, some_bind, iI_mul, iI_add, aI_ok (mk8 h)]
theorem m_areTwo {x y : Int} (hx : i32 x) (hy : i32 y) (h : mKd E d) (hw : mWd B d) : fX9_areTwo (E.1 + d) (iI x) (iI y) (St E B) = some (iI (bI ((0 ≤ x ∧ x < B.2.2.2.1 (d + 7) 7) ∧ (0 ≤ y ∧ y < B.2.2.2.1 (d + 7) 7) ∧ ¬ x = y)), St E B) := by
  simp only [fX9_areTwo, fX9_areTwo_b25, c9 h.1, m_isShop hx h hw, m_isShop hy h hw, some_bind, iI_0, ib]
  obtain ⟨x1, x2⟩ := hx
  obtain ⟨y1, y2⟩ := hy
  simp (disch := omega) only [iI_eq]
  by_cases c1 : 0 ≤ x ∧ x < B.2.2.2.1 (d + 7) 7
  · rw [if_pos c1]
    by_cases c2 : 0 ≤ y ∧ y < B.2.2.2.1 (d + 7) 7
    · rw [if_pos c2]
      by_cases c3 : x = y
      · rw [if_pos c3, bI_f (fun q => q.2.2 c3)]
      · rw [if_neg c3, bI_t ⟨c1, c2, c3⟩]
    · rw [if_neg c2, bI_f (fun q => c2 q.2.1)]
  · rw [if_neg c1, bI_f (fun q => c1 q.1)]
theorem m_earns {z : Int} (h : mKd E d) (hw : mWd B d) (h0 : 0 ≤ z) (h1 : z < 100) : fX9_earns (E.1 + d) (iI z) (St E B) = some (iI (max 0 (B.2.2.2.1 (d + 7) 6 - z)), St E B) := by
  obtain ⟨-, -, -, -, -, -, -, w, -⟩ := hw
  simp (disch := omega) only [fX9_earns, c9 h.1, g9_17 h.1, aI_ok (mk7 h), some_bind, iI_le, iI_sub]
  by_cases c : B.2.2.2.1 (d + 7) 6 ≤ z
  · rw [if_pos c, Int.max_eq_left (by omega)]
  · rw [if_neg c, Int.max_eq_right (by omega)]
theorem m_isCell {x y l : Int} (hx : i32 x) (hy : i32 y) (hl : i32 l) (h : mKd E d) (hw : mWd B d) : fX9_isCell (E.1 + d) (iI x) (iI y) (iI l) (St E B) = some (iI (bI (((0 ≤ x ∧ x < B.2.2.2.1 (d + 7) 0) ∧ (0 ≤ y ∧ y < B.2.2.2.1 (d + 7) 1)) ∧ (0 ≤ l ∧ l < B.2.2.2.1 (d + 7) 2))), St E B) := by
  have a1 : i64 x := ⟨by have := hx.1; omega, by have := hx.2; omega⟩
  have a2 : i64 y := ⟨by have := hy.1; omega, by have := hy.2; omega⟩
  simp only [fX9_isCell, fX9_isCell_b23, c9 h.1, jI_i hx.1 hx.2, jI_i hy.1 hy.2, m_isColumn a1 a2 h hw, m_isLayer hl h hw, some_bind, iI_0, ib]
  by_cases c1 : (0 ≤ x ∧ x < B.2.2.2.1 (d + 7) 0) ∧ (0 ≤ y ∧ y < B.2.2.2.1 (d + 7) 1)
  · rw [if_pos c1]
    by_cases c2 : 0 ≤ l ∧ l < B.2.2.2.1 (d + 7) 2
    · rw [if_pos c2, bI_t ⟨c1, c2⟩]
    · rw [if_neg c2, bI_f (fun q => c2 q.2)]
  · rw [if_neg c1, bI_f (fun q => c1 q.1)]
end M1
