/-! winds carry: the reference's place (toX, toY) against columns; drift -/
def tB (C : Bk) (x y : Int) : Bk := wI (wI C mo 26 x) mo 27 y
def tC (C : Bk) (c : Int) : Bk := tB C (c % 8) (c / 8)
/-- a column of a valley so wide and deep -/
def cOK (wd dp c : Int) : Prop := 0 ≤ c ∧ c % 8 < wd ∧ c / 8 < dp
theorem crX_in {wd dp c w : Int} (h : cOK wd dp c) (hw : wd ≤ 8) : cOK wd dp (crX wd dp c w) := by
  have hcr : ∀ X Y : Int, X = c % 8 + (if w = 2 then 1 else 0) - (if w = 4 then 1 else 0) → Y = c / 8 + (if w = 3 then 1 else 0) - (if w = 1 then 1 else 0) → crX wd dp c w = if (0 ≤ X ∧ X < wd) ∧ (0 ≤ Y ∧ Y < dp) then Y * 8 + X else c := fun X Y hX hY => by
    unfold crX
    rw [hX, hY]
  have hcr := hcr _ _ rfl rfl
  generalize c % 8 + (if w = 2 then 1 else 0) - (if w = 4 then 1 else 0) = X at hcr
  generalize c / 8 + (if w = 3 then 1 else 0) - (if w = 1 then 1 else 0) = Y at hcr
  rw [hcr]
  by_cases q : (0 ≤ X ∧ X < wd) ∧ (0 ≤ Y ∧ Y < dp)
  · rw [if_pos q]
    exact ⟨by omega, by omega, by omega⟩
  · rw [if_neg q]
    exact h
theorem cOK_xy {wd dp x y : Int} (h1 : 0 ≤ x) (h2 : x < wd) (h3 : 0 ≤ y) (h4 : y < dp) (hw : wd ≤ 8) : cOK wd dp (y * 8 + x) := ⟨by omega, by omega, by omega⟩
theorem tB_26 {C : Bk} {x y : Int} : (tB C x y).1 mo 26 = x := by
  unfold tB
  rw [wI_1, if_neg (by omega), wI_1, if_pos ⟨rfl, rfl⟩]
theorem tB_27 {C : Bk} {x y : Int} : (tB C x y).1 mo 27 = y := by
  unfold tB
  rw [wI_1, if_pos ⟨rfl, rfl⟩]
theorem tB_2 {C : Bk} {x y : Int} : (tB C x y).2 = C.2 := rfl
theorem tB_w {C : Bk} {x y a b : Int} : wI (wI (tB C a b) mo 26 x) mo 27 y = tB C x y := by
  unfold tB wI up2
  dsimp only
  congr 1
  funext d j
  by_cases h1 : d = mo ∧ j = 27
  · simp only [if_pos h1]
  · by_cases h2 : d = mo ∧ j = 26
    · simp only [if_neg h1, if_pos h2]
    · simp only [if_neg h1, if_neg h2]
theorem tB_self {C : Bk} : tB C (C.1 mo 26) (C.1 mo 27) = C := by
  unfold tB wI up2
  refine Prod.ext ?_ rfl
  dsimp only
  funext d j
  by_cases h1 : d = mo ∧ j = 27
  · rw [if_pos h1, h1.1, h1.2]
  · rw [if_neg h1]
    by_cases h2 : d = mo ∧ j = 26
    · rw [if_pos h2, h2.1, h2.2]
    · rw [if_neg h2]
theorem sc_tB {C : Bk} {x y : Int} : sc C (tB C x y) := sc_tr (sc_I (by unfold msv; omega)) (sc_I (by unfold msv; omega))
section DR
variable {E : Ev} {C : Bk}
theorem m_carries {c w : Int} (rm : mKd E mo) (hw : mWd C mo) (hc : cOK (C.2.2.2.1 (mo + 7) 0) (C.2.2.2.1 (mo + 7) 1) c) (h2 : 0 ≤ w) (h3 : w < 5) : fX9_carries (E.1 + mo) (iI w) (St E (tC C c)) = some (iI (bI (¬ crX (C.2.2.2.1 (mo + 7) 0) (C.2.2.2.1 (mo + 7) 1) c w = c)), St E (tC C (crX (C.2.2.2.1 (mo + 7) 0) (C.2.2.2.1 (mo + 7) 1) c w))) := by
  have hw' : mWd (tC C c) mo := hw
  have b0 := hw.2.1
  have b1 := hw.2.2.1
  obtain ⟨k0, k1, k2⟩ := hc
  have k48 : ∀ X y0 y1 : Int, -10 ≤ X → X ≤ 100 → -10 ≤ y0 + y1 → y0 + y1 ≤ 100 → fX9_carries_b48 (E.1 + mo) (iI w) (iI X) (iI y0) (iI y1) (St E (tC C c)) = some (iI (bI (¬ w = 0 ∧ (0 ≤ X ∧ X < C.2.2.2.1 (mo + 7) 0) ∧ (0 ≤ y0 + y1 ∧ y0 + y1 < C.2.2.2.1 (mo + 7) 1))), St E (if ¬ w = 0 ∧ (0 ≤ X ∧ X < C.2.2.2.1 (mo + 7) 0) ∧ (0 ≤ y0 + y1 ∧ y0 + y1 < C.2.2.2.1 (mo + 7) 1) then tB C X (y0 + y1) else tC C c)) := by
    intro X y0 y1 a1 a2 a3 a4
    simp (disch := omega) only [fX9_carries_b48, fX9_carries_b65, lt_, iI_add, iI_0, iI_eq, jI_i, m_isColumn (show i64 X from ⟨by omega, by omega⟩) (show i64 (y0 + y1) from ⟨by omega, by omega⟩) rm hw', some_bind, ib, p9_26 rm.1, p9_27 rm.1]
    by_cases q : w = 0
    · rw [if_pos q, bI_f (fun z => z.1 q), if_neg (fun z => z.1 q)]
    · rw [if_neg q]
      show (if (0 ≤ X ∧ X < C.2.2.2.1 (mo + 7) 0) ∧ (0 ≤ y0 + y1 ∧ y0 + y1 < C.2.2.2.1 (mo + 7) 1) then _ else _) = _
      by_cases q2 : (0 ≤ X ∧ X < C.2.2.2.1 (mo + 7) 0) ∧ (0 ≤ y0 + y1 ∧ y0 + y1 < C.2.2.2.1 (mo + 7) 1)
      · rw [if_pos q2, bI_t ⟨q, q2⟩, if_pos ⟨q, q2⟩]
        unfold tC
        rw [tB_w]
      · rw [if_neg q2, bI_f (fun z => q2 z.2), if_neg (fun z => q2 z.2)]
  have k23 : ∀ y0 y1 : Int, -10 ≤ y0 + y1 → y0 + y1 ≤ 100 → fX9_carries_b23 (E.1 + mo) (iI w) (iI y0) (iI y1) (St E (tC C c)) = some (iI (bI (¬ w = 0 ∧ (0 ≤ y0 + y1 ∧ y0 + y1 < C.2.2.2.1 (mo + 7) 0) ∧ (0 ≤ c / 8 + (if w = 3 then 1 else 0) - (if w = 1 then 1 else 0) ∧ c / 8 + (if w = 3 then 1 else 0) - (if w = 1 then 1 else 0) < C.2.2.2.1 (mo + 7) 1))), St E (if ¬ w = 0 ∧ (0 ≤ y0 + y1 ∧ y0 + y1 < C.2.2.2.1 (mo + 7) 0) ∧ (0 ≤ c / 8 + (if w = 3 then 1 else 0) - (if w = 1 then 1 else 0) ∧ c / 8 + (if w = 3 then 1 else 0) - (if w = 1 then 1 else 0) < C.2.2.2.1 (mo + 7) 1) then tB C (y0 + y1) (c / 8 + (if w = 3 then 1 else 0) - (if w = 1 then 1 else 0)) else tC C c)) := by
    intro y0 y1 a1 a2
    have e27 : (tC C c).1 mo 27 = c / 8 := tB_27
    simp (disch := omega) only [fX9_carries_b23, lt_, iI_add, g9_27 rm.1, e27, some_bind, iI_eq]
    by_cases q3 : w = 3
    · have e : c / 8 + (if w = 3 then 1 else 0) - (if w = 1 then 1 else 0) = c / 8 + 1 := by rw [if_pos q3, if_neg (by omega)]; omega
      rw [if_pos q3, k48 _ _ _ a1 a2 (by omega) (by omega), e]
    · by_cases q1 : w = 1
      · have e : c / 8 + (if w = 3 then 1 else 0) - (if w = 1 then 1 else 0) = c / 8 + -1 := by rw [if_neg q3, if_pos q1]; omega
        rw [if_neg q3, if_pos q1, k48 _ _ _ a1 a2 (by omega) (by omega), e]
      · have e : c / 8 + (if w = 3 then 1 else 0) - (if w = 1 then 1 else 0) = c / 8 + 0 := by rw [if_neg q3, if_neg q1]; omega
        rw [if_neg q3, if_neg q1, k48 _ _ _ a1 a2 (by omega) (by omega), e]
  have e26 : (tC C c).1 mo 26 = c % 8 := tB_26
  have fin : ∀ X Y : Int, X = c % 8 + (if w = 2 then 1 else 0) - (if w = 4 then 1 else 0) → Y = c / 8 + (if w = 3 then 1 else 0) - (if w = 1 then 1 else 0) → (some (iI (bI (¬ w = 0 ∧ (0 ≤ X ∧ X < C.2.2.2.1 (mo + 7) 0) ∧ (0 ≤ Y ∧ Y < C.2.2.2.1 (mo + 7) 1))), St E (if ¬ w = 0 ∧ (0 ≤ X ∧ X < C.2.2.2.1 (mo + 7) 0) ∧ (0 ≤ Y ∧ Y < C.2.2.2.1 (mo + 7) 1) then tB C X Y else tC C c)) : Option (Int32 × Hp)) = some (iI (bI (¬ crX (C.2.2.2.1 (mo + 7) 0) (C.2.2.2.1 (mo + 7) 1) c w = c)), St E (tC C (crX (C.2.2.2.1 (mo + 7) 0) (C.2.2.2.1 (mo + 7) 1) c w))) := by
    intro X Y hX hY
    have hcr : crX (C.2.2.2.1 (mo + 7) 0) (C.2.2.2.1 (mo + 7) 1) c w = if (0 ≤ X ∧ X < C.2.2.2.1 (mo + 7) 0) ∧ (0 ≤ Y ∧ Y < C.2.2.2.1 (mo + 7) 1) then Y * 8 + X else c := by
      unfold crX
      rw [hX, hY]
    by_cases q : (0 ≤ X ∧ X < C.2.2.2.1 (mo + 7) 0) ∧ (0 ≤ Y ∧ Y < C.2.2.2.1 (mo + 7) 1)
    · rw [hcr, if_pos q]
      by_cases q0 : w = 0
      · have e : Y * 8 + X = c := by
          rw [hX, hY, if_neg (by omega), if_neg (by omega), if_neg (by omega), if_neg (by omega)]
          omega
        rw [if_neg (fun z => z.1 q0), bI_f (fun z => z.1 q0), e, bI_f (fun z => z rfl)]
      · have e : ¬ Y * 8 + X = c := by
          rw [hX, hY]
          rcases (show w = 1 ∨ w = 2 ∨ w = 3 ∨ w = 4 by omega) with rfl | rfl | rfl | rfl <;> simp <;> omega
        have e1 : (Y * 8 + X) % 8 = X := by omega
        have e2 : (Y * 8 + X) / 8 = Y := by omega
        rw [if_pos ⟨q0, q⟩, bI_t ⟨q0, q⟩, bI_t e]
        unfold tC
        rw [e1, e2]
    · rw [hcr, if_neg q, if_neg (fun z => q z.2), bI_f (fun z => q z.2), bI_f (fun z => z rfl)]
  simp (disch := omega) only [fX9_carries, c9 rm.1, g9_26 rm.1, e26, some_bind, iI_eq]
  by_cases q2 : w = 2
  · rw [if_pos q2, k23 _ _ (by omega) (by omega)]
    exact fin _ _ (by rw [if_pos q2, if_neg (by omega)]; omega) rfl
  · by_cases q4 : w = 4
    · rw [if_neg q2, if_pos q4, k23 _ _ (by omega) (by omega)]
      exact fin _ _ (by rw [if_neg q2, if_pos q4]; omega) rfl
    · rw [if_neg q2, if_neg q4, k23 _ _ (by omega) (by omega)]
      exact fin _ _ (by rw [if_neg q2, if_neg q4]; omega) rfl
end DR
