/-! class Valley: what its methods answer and do -/
def VK (E : Ev) (d : Nat) : Prop := KD E d 6 19 ∧ KD E (d + 1) 20 120 ∧ KD E (d + 2) 20 24 ∧ KD E (d + 3) 20 15 ∧ KD E (d + 4) 20 96 ∧ KD E (d + 5) 20 240
/-- the sizes of a valley are in their bounds -/
def VW (B : Bk) (d : Nat) : Prop := (0 ≤ B.1 d 0 ∧ B.1 d 0 ≤ 1600) ∧ (0 ≤ B.1 d 1 ∧ B.1 d 1 ≤ 8) ∧ (0 ≤ B.1 d 2 ∧ B.1 d 2 ≤ 8) ∧ (0 ≤ B.1 d 3 ∧ B.1 d 3 ≤ 5) ∧ (0 ≤ B.1 d 4 ∧ B.1 d 4 ≤ 24) ∧ (0 ≤ B.1 d 5 ∧ B.1 d 5 ≤ 24) ∧ (0 ≤ B.1 d 6 ∧ B.1 d 6 ≤ 4) ∧ (0 ≤ B.1 d 7 ∧ B.1 d 7 ≤ 99) ∧ (0 ≤ B.1 d 8 ∧ B.1 d 8 ≤ 4) ∧ (0 ≤ B.1 d 9 ∧ B.1 d 9 ≤ 5)
def i32 (z : Int) : Prop := -2147483648 ≤ z ∧ z < 2147483648
section VV
variable {E : Ev} {B : Bk} {d : Nat}
theorem s_columnOf {x y : Int} {s : Hp} : fX8_columnOf (iI x) (iI y) s = some (iI (y * 8 + x), s) := by
  simp only [fX8_columnOf, iI_mul, iI_add]
theorem s_xOf {c : Int} {s : Hp} (h0 : 0 ≤ c) (h1 : c < 2147483648) : fX8_xOf (iI c) s = some (iI (c % 8), s) := by
  simp only [fX8_xOf, mI_ok (b := 8) h0 h1 (by decide) (by decide), some_bind]
theorem s_yOf {c : Int} {s : Hp} (h0 : 0 ≤ c) (h1 : c < 2147483648) : fX8_yOf (iI c) s = some (iI (c / 8), s) := by
  simp only [fX8_yOf, dI_ok (b := 8) h0 h1 (by decide) (by decide), some_bind]
theorem s_stands (h : VK E d) (hw : VW B d) : fX6_stands (E.1 + d) (St E B) = some (iI (bI (0 < B.1 d 0)), St E B) := by
  obtain ⟨w0, -⟩ := hw
  simp only [fX6_stands, c6 h.1, g6_0 h.1, some_bind, iI_0]
  by_cases c : 0 < B.1 d 0
  · rw [if_neg (by rw [iI_le (by omega) (by omega) (by omega) (by omega)]; omega), bI_t c]
  · rw [if_pos (by rw [iI_le (by omega) (by omega) (by omega) (by omega)]; omega), bI_f c]
theorem s_hasShop {z : Int} (hz : i32 z) (h : VK E d) (hw : VW B d) : fX6_hasShop (E.1 + d) (iI z) (St E B) = some (iI (bI (0 ≤ z ∧ z < B.1 d 8)), St E B) := by
  obtain ⟨-, -, -, -, -, -, -, -, w8, -⟩ := hw
  obtain ⟨z1, z2⟩ := hz
  simp (disch := omega) only [fX6_hasShop, fX6_hasShop_b16, c6 h.1, g6_8 h.1, some_bind, iI_0, iI_lt, iI_le]
  by_cases c : 0 ≤ z ∧ z < B.1 d 8
  · rw [if_neg (by omega), if_neg (by omega), bI_t c]
  · rw [bI_f c]
    by_cases c2 : z < 0
    · rw [if_pos c2]
    · rw [if_neg c2, if_pos (by omega)]
theorem s_windAt {l hr : Int} (h : VK E d) (h1 : 0 ≤ l) (h2 : l < 5) (h3 : 0 ≤ hr) (h4 : hr < 24) : fX6_windAt (E.1 + d) (iI l) (iI hr) (St E B) = some (iI (B.2.2.2.1 (d + 1) (l * 24 + hr)), St E B) := by
  simp only [fX6_windAt, c6 h.1, g6_14 h.1, some_bind, iI_mul, iI_add, aI_ok h.2.1 (show 0 ≤ l * 24 + hr by omega) (show l * 24 + hr < (120 : Nat) by omega) (by decide)]
theorem s_hasDoor {z : Int} (hz : i32 z) (h : VK E d) (hw : VW B d) : fX6_hasDoor (E.1 + d) (iI z) (St E B) = some (iI (bI (0 ≤ z ∧ z < B.1 d 9)), St E B) := by
  obtain ⟨-, -, -, -, -, -, -, -, -, w9⟩ := hw
  obtain ⟨z1, z2⟩ := hz
  simp (disch := omega) only [fX6_hasDoor, fX6_hasDoor_b16, c6 h.1, g6_9 h.1, some_bind, iI_0, iI_lt, iI_le]
  by_cases c : 0 ≤ z ∧ z < B.1 d 9
  · rw [if_neg (by omega), if_neg (by omega), bI_t c]
  · rw [bI_f c]
    by_cases c2 : z < 0
    · rw [if_pos c2]
    · rw [if_neg c2, if_pos (by omega)]
theorem s_hasLayer {z : Int} (hz : i32 z) (h : VK E d) (hw : VW B d) : fX6_hasLayer (E.1 + d) (iI z) (St E B) = some (iI (bI (0 ≤ z ∧ z < B.1 d 3)), St E B) := by
  obtain ⟨-, -, -, w3, -⟩ := hw
  obtain ⟨z1, z2⟩ := hz
  simp (disch := omega) only [fX6_hasLayer, fX6_hasLayer_b16, c6 h.1, g6_3 h.1, some_bind, iI_0, iI_lt, iI_le]
  by_cases c : 0 ≤ z ∧ z < B.1 d 3
  · rw [if_neg (by omega), if_neg (by omega), bI_t c]
  · rw [bI_f c]
    by_cases c2 : z < 0
    · rw [if_pos c2]
    · rw [if_neg c2, if_pos (by omega)]
theorem s_hasHour {z : Int} (hz : i32 z) (h : VK E d) (hw : VW B d) : fX6_hasHour (E.1 + d) (iI z) (St E B) = some (iI (bI (0 ≤ z ∧ z < B.1 d 4)), St E B) := by
  obtain ⟨-, -, -, -, w4, -⟩ := hw
  obtain ⟨z1, z2⟩ := hz
  simp (disch := omega) only [fX6_hasHour, fX6_hasHour_b16, c6 h.1, g6_4 h.1, some_bind, iI_0, iI_lt, iI_le]
  by_cases c : 0 ≤ z ∧ z < B.1 d 4
  · rw [if_neg (by omega), if_neg (by omega), bI_t c]
  · rw [bI_f c]
    by_cases c2 : z < 0
    · rw [if_pos c2]
    · rw [if_neg c2, if_pos (by omega)]
theorem s_hasColumn {x y : Int} (hx : i32 x) (hy : i32 y) (h : VK E d) (hw : VW B d) : fX6_hasColumn (E.1 + d) (iI x) (iI y) (St E B) = some (iI (bI ((0 ≤ x ∧ x < B.1 d 1) ∧ (0 ≤ y ∧ y < B.1 d 2))), St E B) := by
  obtain ⟨-, w1, w2, -⟩ := hw
  obtain ⟨x1, x2⟩ := hx
  obtain ⟨y1, y2⟩ := hy
  simp (disch := omega) only [fX6_hasColumn, fX6_hasColumn_b28, c6 h.1, g6_1 h.1, g6_2 h.1, some_bind, iI_0, iI_lt, iI_le]
  by_cases c : (0 ≤ x ∧ x < B.1 d 1) ∧ (0 ≤ y ∧ y < B.1 d 2)
  · rw [if_neg (by omega), if_neg (by omega), if_neg (by omega), if_neg (by omega), bI_t c]
  · rw [bI_f c]
    by_cases c2 : x < 0
    · rw [if_pos c2]
    · rw [if_neg c2]
      by_cases c3 : B.1 d 1 ≤ x
      · rw [if_pos c3]
      · rw [if_neg c3]
        by_cases c4 : y < 0
        · rw [if_pos c4]
        · rw [if_neg c4, if_pos (by omega)]
theorem s_hasTwoShops {x y : Int} (hx : i32 x) (hy : i32 y) (h : VK E d) (hw : VW B d) : fX6_hasTwoShops (E.1 + d) (iI x) (iI y) (St E B) = some (iI (bI ((0 ≤ x ∧ x < B.1 d 8) ∧ (0 ≤ y ∧ y < B.1 d 8) ∧ ¬ x = y)), St E B) := by
  simp only [fX6_hasTwoShops, fX6_hasTwoShops_b25, c6 h.1, s_hasShop hx h hw, s_hasShop hy h hw, some_bind, bI_0]
  obtain ⟨x1, x2⟩ := hx
  obtain ⟨y1, y2⟩ := hy
  simp (disch := omega) only [iI_eq]
  by_cases c1 : 0 ≤ x ∧ x < B.1 d 8
  · rw [if_neg (fun q => q c1)]
    by_cases c2 : 0 ≤ y ∧ y < B.1 d 8
    · rw [if_neg (fun q => q c2)]
      by_cases c3 : x = y
      · rw [if_pos c3, bI_f (fun q => q.2.2 c3)]
      · rw [if_neg c3, bI_t ⟨c1, c2, c3⟩]
    · rw [if_pos c2, bI_f (fun q => c2 q.2.1)]
  · rw [if_pos c1, bI_f (fun q => c1 q.1)]
theorem s_shopFact {s k : Int} (h : VK E d) (h1 : 0 ≤ s) (h2 : s < 4) (h3 : 0 ≤ k) (h4 : k < 6) : fX6_shopFact (E.1 + d) (iI s) (iI k) (St E B) = some (iI (B.2.2.2.1 (d + 2) (s * 6 + k)), St E B) := by
  simp only [fX6_shopFact, c6 h.1, g6_15 h.1, some_bind, iI_mul, iI_add, aI_ok h.2.2.1 (show 0 ≤ s * 6 + k by omega) (show s * 6 + k < (24 : Nat) by omega) (by decide)]
theorem s_doorFact {s k : Int} (h : VK E d) (h1 : 0 ≤ s) (h2 : s < 5) (h3 : 0 ≤ k) (h4 : k < 3) : fX6_doorFact (E.1 + d) (iI s) (iI k) (St E B) = some (iI (B.2.2.2.1 (d + 3) (s * 3 + k)), St E B) := by
  simp only [fX6_doorFact, c6 h.1, g6_16 h.1, some_bind, iI_mul, iI_add, aI_ok h.2.2.2.1 (show 0 ≤ s * 3 + k by omega) (show s * 3 + k < (15 : Nat) by omega) (by decide)]
theorem s_actAt {s k : Int} (h : VK E d) (h1 : 0 ≤ s) (h2 : s < 4) (h3 : 0 ≤ k) (h4 : k < 24) : fX6_actAt (E.1 + d) (iI s) (iI k) (St E B) = some (iI (B.2.2.2.1 (d + 4) (s * 24 + k)), St E B) := by
  simp only [fX6_actAt, c6 h.1, g6_17 h.1, some_bind, iI_mul, iI_add, aI_ok h.2.2.2.2.1 (show 0 ≤ s * 24 + k by omega) (show s * 24 + k < (96 : Nat) by omega) (by decide)]
theorem s_setAct {s k x : Int} (h : VK E d) (h1 : 0 ≤ s) (h2 : s < 4) (h3 : 0 ≤ k) (h4 : k < 24) : fX6_setAct (E.1 + d) (iI s) (iI k) (iI x) (St E B) = some (St E (wA B (d + 4) (s * 24 + k) x)) := by
  simp only [fX6_setAct, c6 h.1, g6_17 h.1, some_bind, iI_mul, iI_add, sI_ok h.2.2.2.2.1 (show 0 ≤ s * 24 + k by omega) (show s * 24 + k < (96 : Nat) by omega) (by decide)]
theorem s_changeFact {s k : Int} (h : VK E d) (h1 : 0 ≤ s) (h2 : s < 60) (h3 : 0 ≤ k) (h4 : k < 4) : fX6_changeFact (E.1 + d) (iI s) (iI k) (St E B) = some (iI (B.2.2.2.1 (d + 5) (s * 4 + k)), St E B) := by
  simp only [fX6_changeFact, c6 h.1, g6_18 h.1, some_bind, iI_mul, iI_add, aI_ok h.2.2.2.2.2 (show 0 ≤ s * 4 + k by omega) (show s * 4 + k < (240 : Nat) by omega) (by decide)]
theorem s_coolsIn {z : Int} (h : VK E d) (hw : VW B d) (h0 : 0 ≤ z) (h1 : z < 24) : fX6_coolsIn (E.1 + d) (iI z) (St E B) = some (iI (bI (0 < B.1 d 5 ∧ (z + 1) % B.1 d 5 = 0)), St E B) := by
  obtain ⟨-, -, -, -, -, w5, -⟩ := hw
  simp (disch := omega) only [fX6_coolsIn, fX6_coolsIn_b22, c6 h.1, g6_5 h.1, some_bind, iI_0, iI_le, iI_add]
  by_cases c : B.1 d 5 ≤ 0
  · rw [if_pos c, bI_f (by omega)]
  · have hm := Int.emod_nonneg (z + 1) (show B.1 d 5 ≠ 0 by omega)
    have hm2 := Int.emod_lt_of_pos (z + 1) (show 0 < B.1 d 5 by omega)
    rw [if_neg c]
    simp (disch := omega) only [mI_ok, some_bind, iI_eq]
    by_cases c2 : (z + 1) % B.1 d 5 = 0
    · rw [if_pos c2, bI_t ⟨by omega, c2⟩]
    · rw [if_neg c2, bI_f (fun q => c2 q.2)]
theorem s_coolings {z : Int} (h : VK E d) (hw : VW B d) (h0 : 0 ≤ z) (h1 : z < 100) : fX6_coolings (E.1 + d) (iI z) (St E B) = some (iI (if 0 < B.1 d 5 then z / B.1 d 5 else 0), St E B) := by
  obtain ⟨-, -, -, -, -, w5, -⟩ := hw
  simp (disch := omega) only [fX6_coolings, c6 h.1, g6_5 h.1, some_bind, iI_0, iI_le]
  by_cases c : B.1 d 5 ≤ 0
  · rw [if_pos c, if_neg (by omega)]
  · rw [if_neg c, if_pos (by omega)]
    simp (disch := omega) only [dI_ok, some_bind]
theorem s_saleBrings {z : Int} (h : VK E d) (hw : VW B d) (h0 : 0 ≤ z) (h1 : z < 100) : fX6_saleBrings (E.1 + d) (iI z) (St E B) = some (iI (max 0 (B.1 d 7 - z)), St E B) := by
  obtain ⟨-, -, -, -, -, -, -, w7, -⟩ := hw
  simp (disch := omega) only [fX6_saleBrings, c6 h.1, g6_7 h.1, some_bind, iI_sub, imax_ok]
/-- where a wind carries from a column, in a valley so wide and deep -/
def crX (wd dp c w : Int) : Int :=
  let x := c % 8 + (if w = 2 then 1 else 0) - (if w = 4 then 1 else 0)
  let y := c / 8 + (if w = 3 then 1 else 0) - (if w = 1 then 1 else 0)
  if (0 ≤ x ∧ x < wd) ∧ (0 ≤ y ∧ y < dp) then y * 8 + x else c
theorem s_carried {c w : Int} (h : VK E d) (hw : VW B d) (h0 : 0 ≤ c) (h1 : c < 64) (h2 : 0 ≤ w) (h3 : w < 5) : fX6_carried (E.1 + d) (iI c) (iI w) (St E B) = some (iI (crX (B.1 d 1) (B.1 d 2) c w), St E B) := by
  have k52 : ∀ x y0 y1 : Int, i32 x → i32 (y0 - y1) → fX6_carried_b52 (E.1 + d) (iI c) (iI x) (iI y0) (iI y1) (St E B) = some (iI (if (0 ≤ x ∧ x < B.1 d 1) ∧ (0 ≤ y0 - y1 ∧ y0 - y1 < B.1 d 2) then (y0 - y1) * 8 + x else c), St E B) := by
    intro x y0 y1 hx hy
    simp only [fX6_carried_b52, lt_, iI_sub, s_hasColumn hx hy h hw, some_bind, bI_0, s_columnOf]
    by_cases q : (0 ≤ x ∧ x < B.1 d 1) ∧ (0 ≤ y0 - y1 ∧ y0 - y1 < B.1 d 2)
    · rw [if_neg (fun n => n q), if_pos q]
    · rw [if_pos q, if_neg q]
  have k41 : ∀ x y0 y1 : Int, i32 x → -10 ≤ y0 + y1 → y0 + y1 ≤ 100 → fX6_carried_b41 (E.1 + d) (iI c) (iI w) (iI x) (iI y0) (iI y1) (St E B) = some (iI (if (0 ≤ x ∧ x < B.1 d 1) ∧ (0 ≤ y0 + y1 - (if w = 1 then 1 else 0) ∧ y0 + y1 - (if w = 1 then 1 else 0) < B.1 d 2) then (y0 + y1 - (if w = 1 then 1 else 0)) * 8 + x else c), St E B) := by
    intro x y0 y1 hx hy hy2
    simp (disch := omega) only [fX6_carried_b41, iI_add, iI_eq]
    by_cases q : w = 1
    · simp only [if_pos q]
      exact k52 x (y0 + y1) 1 hx ⟨by omega, by omega⟩
    · simp only [if_neg q]
      exact k52 x (y0 + y1) 0 hx ⟨by omega, by omega⟩
  have k25 : ∀ y0 y1 : Int, -10 ≤ y0 - y1 → y0 - y1 ≤ 100 → fX6_carried_b25 (E.1 + d) (iI c) (iI w) (iI y0) (iI y1) (St E B) = some (iI (if (0 ≤ y0 - y1 ∧ y0 - y1 < B.1 d 1) ∧ (0 ≤ c / 8 + (if w = 3 then 1 else 0) - (if w = 1 then 1 else 0) ∧ c / 8 + (if w = 3 then 1 else 0) - (if w = 1 then 1 else 0) < B.1 d 2) then (c / 8 + (if w = 3 then 1 else 0) - (if w = 1 then 1 else 0)) * 8 + (y0 - y1) else c), St E B) := by
    intro y0 y1 hy hy2
    simp (disch := omega) only [fX6_carried_b25, lt_, iI_sub, s_yOf, some_bind, iI_eq]
    by_cases q : w = 3
    · simp only [if_pos q]
      exact k41 (y0 - y1) (c / 8) 1 ⟨by omega, by omega⟩ (by omega) (by omega)
    · simp only [if_neg q]
      exact k41 (y0 - y1) (c / 8) 0 ⟨by omega, by omega⟩ (by omega) (by omega)
  have k14 : ∀ y0 y1 : Int, 0 ≤ y0 + y1 → y0 + y1 ≤ 20 → fX6_carried_b14 (E.1 + d) (iI c) (iI w) (iI y0) (iI y1) (St E B) = some (iI (if (0 ≤ y0 + y1 - (if w = 4 then 1 else 0) ∧ y0 + y1 - (if w = 4 then 1 else 0) < B.1 d 1) ∧ (0 ≤ c / 8 + (if w = 3 then 1 else 0) - (if w = 1 then 1 else 0) ∧ c / 8 + (if w = 3 then 1 else 0) - (if w = 1 then 1 else 0) < B.1 d 2) then (c / 8 + (if w = 3 then 1 else 0) - (if w = 1 then 1 else 0)) * 8 + (y0 + y1 - (if w = 4 then 1 else 0)) else c), St E B) := by
    intro y0 y1 hy hy2
    simp (disch := omega) only [fX6_carried_b14, iI_add, iI_eq]
    by_cases q : w = 4
    · simp only [if_pos q]
      exact k25 (y0 + y1) 1 (by omega) (by omega)
    · simp only [if_neg q]
      exact k25 (y0 + y1) 0 (by omega) (by omega)
  simp (disch := omega) only [fX6_carried, c6 h.1, s_xOf, some_bind, iI_eq]
  unfold crX
  by_cases q : w = 2
  · simp only [if_pos q]
    exact k14 (c % 8) 1 (by omega) (by omega)
  · simp only [if_neg q]
    exact k14 (c % 8) 0 (by omega) (by omega)
end VV
