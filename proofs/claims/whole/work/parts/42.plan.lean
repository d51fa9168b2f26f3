/-! plan, undo -/
section PL
variable {E : Ev} {B : Bk} {n : Nat}
/-- the plan and its changes have changed, nothing else of the valley -/
theorem rv_pc {B2 : Bk} (R : RV E B n) (hst : 0 < B.1 n 0) (hr : B2.2.2.1 = B.2.2.1) (en : ∀ j, j ≠ 13 → B2.1 n j = B.1 n j) (hn : n + 5 < mo) (hc : 0 ≤ B2.1 n 13 ∧ B2.1 n 13 ≤ 60)
    (er : ∀ k z, k ≠ n + 4 → k ≠ n + 5 → k ≠ mo + 7 → k ≠ mo + 12 → k ≠ mo + 13 → B2.2.2.2.1 k z = B.2.2.2.1 k z) (e7 : ∀ z, z ≠ 14 → B2.2.2.2.1 (mo + 7) z = B.2.2.2.1 (mo + 7) z) (e14 : B2.2.2.2.1 (mo + 7) 14 = B2.1 n 13)
    (ha : ∀ s h : Int, 0 ≤ s → s < B.1 n 8 → 0 ≤ h → h < B.1 n 4 → B2.2.2.2.1 (mo + 12) (96 * 0 + (24 * s + h)) = B2.2.2.2.1 (n + 4) (s * 24 + h) ∧ 0 ≤ B2.2.2.2.1 (n + 4) (s * 24 + h) ∧ B2.2.2.2.1 (n + 4) (s * 24 + h) ≤ 2)
    (hch : ∀ i k : Int, 0 ≤ i → i < B2.1 n 13 → 0 ≤ k → k < 4 → B2.2.2.2.1 (mo + 13) (240 * 0 + (4 * i + k)) = B2.2.2.2.1 (n + 5) (i * 4 + k))
    (hcb : ∀ i : Int, 0 ≤ i → i < B2.1 n 13 → (0 ≤ B2.2.2.2.1 (n + 5) (i * 4 + 0) ∧ B2.2.2.2.1 (n + 5) (i * 4 + 0) < B.1 n 8) ∧ (0 ≤ B2.2.2.2.1 (n + 5) (i * 4 + 1) ∧ B2.2.2.2.1 (n + 5) (i * 4 + 1) < B.1 n 4) ∧ (0 ≤ B2.2.2.2.1 (n + 5) (i * 4 + 2) ∧ B2.2.2.2.1 (n + 5) (i * 4 + 2) ≤ 2) ∧ (0 ≤ B2.2.2.2.1 (n + 5) (i * 4 + 3) ∧ B2.2.2.2.1 (n + 5) (i * 4 + 3) ≤ 2)) : RV E B2 n := by
  have r1 : ∀ z, B2.2.2.2.1 (n + 1) z = B.2.2.2.1 (n + 1) z := fun z => er _ z (by omega) (by omega) (by omega) (by omega) (by omega)
  have r2 : ∀ z, B2.2.2.2.1 (n + 2) z = B.2.2.2.1 (n + 2) z := fun z => er _ z (by omega) (by omega) (by omega) (by omega) (by omega)
  have r3 : ∀ z, B2.2.2.2.1 (n + 3) z = B.2.2.2.1 (n + 3) z := fun z => er _ z (by omega) (by omega) (by omega) (by omega) (by omega)
  have m6 : ∀ z, B2.2.2.2.1 (mo + 6) z = B.2.2.2.1 (mo + 6) z := fun z => er _ z (by omega) (by omega) (by omega) (by omega) (by omega)
  have m8 : ∀ z, B2.2.2.2.1 (mo + 8) z = B.2.2.2.1 (mo + 8) z := fun z => er _ z (by omega) (by omega) (by omega) (by omega) (by omega)
  have m10 : ∀ z, B2.2.2.2.1 (mo + 10) z = B.2.2.2.1 (mo + 10) z := fun z => er _ z (by omega) (by omega) (by omega) (by omega) (by omega)
  have m11 : ∀ z, B2.2.2.2.1 (mo + 11) z = B.2.2.2.1 (mo + 11) z := fun z => er _ z (by omega) (by omega) (by omega) (by omega) (by omega)
  have n0 := en 0 (by omega)
  have n1 := en 1 (by omega)
  have n2 := en 2 (by omega)
  have n3 := en 3 (by omega)
  have n4 := en 4 (by omega)
  have n5 := en 5 (by omega)
  have n6 := en 6 (by omega)
  have n7 := en 7 (by omega)
  have n8 := en 8 (by omega)
  have n9 := en 9 (by omega)
  have n10 := en 10 (by omega)
  have n11 := en 11 (by omega)
  have n12 := en 12 (by omega)
  obtain ⟨R1, R2, ⟨v1, v2, v3, v4, v5, v6, v7, v8, v9⟩, ⟨b1, b2, b3, b4, b5, b6, b7, b8, b9⟩⟩ := R
  refine ⟨by rw [hr]; exact R1, ?_, ⟨?_, ?_, e14, ?_, ?_, ?_, ?_, hch, ?_⟩, ⟨hc, ?_, ?_, ?_, ?_, ?_, ?_, ?_, ?_⟩⟩
  · unfold VW at *
    rw [n0, n1, n2, n3, n4, n5, n6, n7, n8, n9]
    exact R2
  · rw [m6, n0]
    exact v1
  · intro k hk
    rw [e7 _ (by omega), en _ (by omega)]
    exact v2 k hk
  · rw [n3, n4]
    simp only [m8, r1]
    exact v4
  · rw [n8]
    simp only [m10, r2]
    exact v5
  · rw [n9]
    simp only [m11, r3]
    exact v6
  · rw [n8, n4]
    exact fun s h a1 a2 a3 a4 => (ha s h a1 a2 a3 a4).1
  · rw [n10, n11, n12, n1, n2, e7 (15 * 0 + 9) (by omega), e7 (15 * 0 + 10) (by omega), e7 (15 * 0 + 11) (by omega), e7 (15 * 0 + 12) (by omega), e7 (15 * 0 + 13) (by omega)]
    exact v9
  · rw [n0, n1, n2, n3, n4, n6]
    exact b2
  · intro q
    rw [n0] at q
    omega
  · rw [n3, n4]
    simp only [r1]
    exact b4
  · rw [n8, n1, n2, n3]
    simp only [r2]
    exact b5
  · rw [n9, n1, n2]
    simp only [r3]
    exact b6
  · rw [n8, n4]
    exact fun s h a1 a2 a3 a4 => (ha s h a1 a2 a3 a4).2
  · rw [n8, n4]
    exact hcb
  · rw [n10, n11, n12, n1, n2, n4]
    exact b9
end PL
