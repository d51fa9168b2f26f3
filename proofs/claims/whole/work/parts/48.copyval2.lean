/-! what the copied block holds -/
section CW
variable {B : Bk}
theorem cvM_1 {a b : Int} : (cvM B a b).1 = B.1 := rfl
theorem cvM_2 {a b : Int} : (cvM B a b).2.1 = B.2.1 := rfl
theorem cvM_3 {a b : Int} : (cvM B a b).2.2.1 = B.2.2.1 := rfl
theorem cvM_5 {a b : Int} : (cvM B a b).2.2.2.2 = B.2.2.2.2 := rfl
theorem cvM_4 {a b z : Int} {d : Nat} : (cvM B a b).2.2.2.1 d z = if bsz d * b ≤ z ∧ z < bsz d * b + bsz d then B.2.2.2.1 d (bsz d * a + (z - bsz d * b)) else B.2.2.2.1 d z := by
  have o : ∀ (C : Bk) (k : Nat) (sp dp n : Int), d ≠ k → (cpA C k sp k dp n).2.2.2.1 d z = C.2.2.2.1 d z := fun C k sp dp n q => by rw [cpA_4, if_neg (fun p => q p.1)]
  have s : ∀ (C : Bk) (m : Int), (cpA C d (m * a) d (m * b) m).2.2.2.1 d z = if m * b ≤ z ∧ z < m * b + m then C.2.2.2.1 d (m * a + (z - m * b)) else C.2.2.2.1 d z := fun C m => by
    rw [cpA_4]
    by_cases q : m * b ≤ z ∧ z < m * b + m
    · rw [if_pos ⟨rfl, q⟩, if_pos q]
    · rw [if_neg (fun p => q p.2), if_neg q]
  have o2 : ∀ (C : Bk) (k : Nat) (sp dp n y : Int), d ≠ k → (cpA C k sp k dp n).2.2.2.1 d y = C.2.2.2.1 d y := fun C k sp dp n y q => by rw [cpA_4, if_neg (fun p => q p.1)]
  unfold cvM
  by_cases h6 : d = mo + 6
  · have e : bsz d = 1 := by rw [h6]; rfl
    rw [o _ _ _ _ _ (by omega), o _ _ _ _ _ (by omega), o _ _ _ _ _ (by omega), o _ _ _ _ _ (by omega), o _ _ _ _ _ (by omega), o _ _ _ _ _ (by omega), ← h6, s, e]
  by_cases h7 : d = mo + 7
  · have e : bsz d = 15 := by rw [h7]; rfl
    rw [o _ _ _ _ _ (by omega), o _ _ _ _ _ (by omega), o _ _ _ _ _ (by omega), o _ _ _ _ _ (by omega), o _ _ _ _ _ (by omega), ← h7, s, e]
    simp only [o2 _ (mo + 6) _ _ _ _ h6]
  by_cases h8 : d = mo + 8
  · have e : bsz d = 120 := by rw [h8]; rfl
    rw [o _ _ _ _ _ (by omega), o _ _ _ _ _ (by omega), o _ _ _ _ _ (by omega), o _ _ _ _ _ (by omega), ← h8, s, e]
    simp only [o2 _ (mo + 6) _ _ _ _ h6, o2 _ (mo + 7) _ _ _ _ h7]
  by_cases h10 : d = mo + 10
  · have e : bsz d = 24 := by rw [h10]; rfl
    rw [o _ _ _ _ _ (by omega), o _ _ _ _ _ (by omega), o _ _ _ _ _ (by omega), ← h10, s, e]
    simp only [o2 _ (mo + 6) _ _ _ _ h6, o2 _ (mo + 7) _ _ _ _ h7, o2 _ (mo + 8) _ _ _ _ h8]
  by_cases h11 : d = mo + 11
  · have e : bsz d = 15 := by rw [h11]; rfl
    rw [o _ _ _ _ _ (by omega), o _ _ _ _ _ (by omega), ← h11, s, e]
    simp only [o2 _ (mo + 6) _ _ _ _ h6, o2 _ (mo + 7) _ _ _ _ h7, o2 _ (mo + 8) _ _ _ _ h8, o2 _ (mo + 10) _ _ _ _ h10]
  by_cases h12 : d = mo + 12
  · have e : bsz d = 96 := by rw [h12]; rfl
    rw [o _ _ _ _ _ (by omega), ← h12, s, e]
    simp only [o2 _ (mo + 6) _ _ _ _ h6, o2 _ (mo + 7) _ _ _ _ h7, o2 _ (mo + 8) _ _ _ _ h8, o2 _ (mo + 10) _ _ _ _ h10, o2 _ (mo + 11) _ _ _ _ h11]
  by_cases h13 : d = mo + 13
  · have e : bsz d = 240 := by rw [h13]; rfl
    rw [← h13, s, e]
    simp only [o2 _ (mo + 6) _ _ _ _ h6, o2 _ (mo + 7) _ _ _ _ h7, o2 _ (mo + 8) _ _ _ _ h8, o2 _ (mo + 10) _ _ _ _ h10, o2 _ (mo + 11) _ _ _ _ h11, o2 _ (mo + 12) _ _ _ _ h12]
  · have e : bsz d = 0 := by
      unfold bsz
      rw [if_neg h6, if_neg h7, if_neg h8, if_neg h10, if_neg h11, if_neg h12, if_neg h13]
    rw [o2 _ _ _ _ _ _ h13, o2 _ _ _ _ _ _ h12, o2 _ _ _ _ _ _ h11, o2 _ _ _ _ _ _ h10, o2 _ _ _ _ _ _ h8, o2 _ _ _ _ _ _ h7, o2 _ _ _ _ _ _ h6, e, if_neg (by omega)]
end CW
