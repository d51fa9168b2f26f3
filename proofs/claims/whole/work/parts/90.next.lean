/-! the reference's next: bytes of the tape -/
section NX
variable {E : Ev} {B : Bk}
/-- the reference's tape: L bytes -/
def RTp (E : Ev) (B : Bk) (L : Int) : Prop := mKd E mo ∧ B.1 mo 6 = L ∧ (0 ≤ L ∧ L ≤ 1600) ∧ ∀ z, 0 ≤ z → z < L → -128 ≤ B.2.2.2.1 (mo + 5) z ∧ B.2.2.2.1 (mo + 5) z ≤ 127
theorem m_isByte {L k lo hi : Int} (D : RTp E B L) (k0 : 0 ≤ k) (k1 : k ≤ L) (l0 : -128 ≤ lo ∧ lo ≤ 127) (h0 : -128 ≤ hi ∧ hi ≤ 127) : fX9_isByte (E.1 + mo) (iI k) (iI lo) (iI hi) (St E B) = some (iI (bI (k < L ∧ lo ≤ B.2.2.2.1 (mo + 5) k ∧ B.2.2.2.1 (mo + 5) k ≤ hi)), St E B) := by
  obtain ⟨rm, d2, d3, d4⟩ := D
  by_cases q : k < L
  · have bb := d4 k k0 q
    simp (disch := omega) only [fX9_isByte, fX9_isByte_b32, c9 rm.1, g9_6 rm.1, d2, some_bind, iI_le, g9_5 rm.1, aB_ok (mk5 rm), iI_lt]
    rw [if_neg (by omega)]
    by_cases c : lo ≤ B.2.2.2.1 (mo + 5) k ∧ B.2.2.2.1 (mo + 5) k ≤ hi
    · rw [if_neg (by omega), if_neg (by omega), bI_t ⟨q, c⟩]
    · rw [bI_f (fun w => c w.2)]
      repeat' split
      all_goals first | rfl | (exfalso; omega)
  · simp (disch := omega) only [fX9_isByte, fX9_isByte_b32, c9 rm.1, g9_6 rm.1, d2, some_bind, iI_le]
    rw [if_pos (by omega), bI_f (fun w => q w.1)]
end NX
