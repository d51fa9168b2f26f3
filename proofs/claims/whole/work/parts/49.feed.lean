/-! feed, end, fault: the tape, the fault -/
/-- the two tapes are alike, and what is known of the last fault -/
def rTp (B : Bk) : Prop := (0 ≤ B.1 co 10 ∧ B.1 co 10 ≤ 1600) ∧ B.1 mo 6 = B.1 co 10 ∧ (∀ z, 0 ≤ z → z < B.1 co 10 → B.2.2.2.1 (mo + 5) z = B.2.2.2.1 (co + 1) z ∧ -128 ≤ B.2.2.2.1 (co + 1) z ∧ B.2.2.2.1 (co + 1) z ≤ 127) ∧ B.1 mo 14 = B.1 (co + 2) 0 ∧ B.1 mo 15 = B.1 (co + 2) 1 ∧ i32 (B.1 (co + 2) 0) ∧ i32 (B.1 (co + 2) 1)
section FD
variable {E : Ev} {B : Bk}
theorem o_fault {k : Int} (rc : KD E co 8 13) (rr : KD E (co + 2) 3 10) (rm : mKd E mo) (T : rTp B) (hk : i32 k) : QQ E B (fX8_fault (E.1 + co) (iI k)) (fX9_fault (E.1 + mo) (iI k)) := by
  obtain ⟨k1, k2⟩ := hk
  obtain ⟨t1, t2, t3, t4, t5, -⟩ := T
  have e14 : (wI B mo 0 0).1 mo 14 = B.1 (co + 2) 0 := by rw [wI_1, if_neg (by omega), t4]
  have e15 : (wI B mo 0 0).1 mo 15 = B.1 (co + 2) 1 := by rw [wI_1, if_neg (by omega), t5]
  unfold QQ
  simp (disch := omega) only [fX8_fault, c8 rc, g8_1 rc, g3_0 rr, g3_1 rr, some_bind, iI_0, iI_eq, fX9_fault, c9 rm.1, p9_0 rm.1, g9_14 rm.1, g9_15 rm.1, e14, e15]
  by_cases c0 : k = 0
  · simp only [if_pos c0]
    exact ⟨_, rfl, rfl⟩
  · by_cases c1 : k = 1
    · simp only [if_neg c0, if_pos c1]
      exact ⟨_, rfl, rfl⟩
    · simp only [if_neg c0, if_neg c1]
      exact ⟨_, rfl, rfl⟩
end FD
