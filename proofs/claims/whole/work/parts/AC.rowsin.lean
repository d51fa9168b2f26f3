/-! rows of numbers read against the valley -/
def nvJ (B : Bk) (d : Nat) (i : Int) : Int := (B.2.2.2.2 d i).toInt
theorem nvJ_j {B : Bk} {d : Nat} {i : Int} : B.2.2.2.2 d i = jI (nvJ B d i) ∧ -9223372036854775808 ≤ nvJ B d i ∧ nvJ B d i < 9223372036854775808 := ⟨(Int64.ofInt_toInt _).symm, Int64.le_toInt _, Int64.toInt_lt _⟩
theorem toI32_j {z : Int} : Int64.toInt32 (jI z) = iI z := Int64.toInt32_ofInt
theorem lgc_0 (x : Int64) : (lg_cmp x 0 < 0) ↔ x < jI 0 := by
  rw [← jI_0]
  exact lg_cmp_lt x 0
/-- the numbers keep within bounds that stand in row c, k of them -/
def KW (B : Bk) (d c : Nat) (k : Int) : Prop := B.1 d 1 % k = 0 ∧ ∀ i : Int, 0 ≤ i → i < B.1 d 1 → 0 ≤ nvJ B (d + 1) i ∧ nvJ B (d + 1) i < B.2.2.2.1 c (i % k)
section KE
variable {E : Ev} {B : Bk} {n : Nat}
theorem s5_keeps {d c k : Nat} (h : KD E d 5 3) (h2 : KD E (d + 1) 21 60) (hc : KD E c 20 k) (k0 : 0 < k) (k1 : k ≤ 5) (b : 0 ≤ B.1 d 1 ∧ B.1 d 1 ≤ 60) (hb : ∀ j : Int, 0 ≤ j → j < k → 0 ≤ B.2.2.2.1 c j ∧ B.2.2.2.1 c j ≤ 100) : (KW B d c k → fX5_keepsWithin (E.1 + d) (E.1 + c) (St E B) = some (iI 1, St E B)) ∧ (¬ KW B d c k → fX5_keepsWithin (E.1 + d) (E.1 + c) (St E B) = some (iI 0, St E B)) := by
  have g0 : gR (St E B) (E.1 + d) 5 0 = some (E.1 + (d + 1)) := g5_0 h
  have aN' : aN (St E B) (E.1 + c) = some (iI k) := aN_ok hc (by omega) (by omega)
  have body : ∀ j : Int, 0 ≤ j → j < B.1 d 1 → fX5_keepsWithin_l19 (E.1 + d) (E.1 + c) (iI j, St E B) = if 0 ≤ nvJ B (d + 1) j ∧ nvJ B (d + 1) j < B.2.2.2.1 c (j % k) then some (.inl (iI (j + 1), St E B)) else some (.inr (.inr (St E B))) := fun j j0 j1 => by
    obtain ⟨e1, e2, e3⟩ := nvJ_j (B := B) (d := d + 1) (i := j)
    have m0 : 0 ≤ j % (k : Int) := Int.emod_nonneg j (by omega)
    have m1 : j % (k : Int) < k := Int.emod_lt_of_pos j (by omega)
    have bb := hb (j % k) m0 m1
    simp (disch := omega) only [fX5_keepsWithin_l19, g5_1 h, some_bind, iI_le, g0, aL_ok h2, e1, jI_0, lg_cmp_lt, jI_lt, aN', mI_ok, aI_ok hc, jI_i, iI_add]
    rw [if_neg (by omega)]
    by_cases q : 0 ≤ nvJ B (d + 1) j ∧ nvJ B (d + 1) j < B.2.2.2.1 c (j % k)
    · rw [if_neg (by omega), if_pos q.2, if_pos q]
    · rw [if_neg q]
      by_cases q2 : nvJ B (d + 1) j < 0
      · rw [if_pos q2]
      · rw [if_neg q2, if_neg (by omega)]
  obtain ⟨r, f1, f2⟩ := iter_seek (F := fX5_keepsWithin_l19 (E.1 + d) (E.1 + c)) (fun j a => a = (iI j, St E B)) (fun j => ¬ (0 ≤ nvJ B (d + 1) j ∧ nvJ B (d + 1) j < B.2.2.2.1 c (j % k))) (fun _ r => r = .inr (St E B)) (fun r => r = .inl (St E B)) 0 (B.1 d 1)
    (fun j a j0 j1 ha hp => by
      subst ha
      exact ⟨_, by rw [body j j0 j1, if_pos (Decidable.not_not.mp hp)], rfl⟩)
    (fun j a j0 j1 ha hp => by
      subst ha
      exact ⟨_, by rw [body j j0 j1, if_neg hp], rfl⟩)
    (fun a ha => by
      subst ha
      refine ⟨_, ?_, rfl⟩
      simp (disch := omega) only [fX5_keepsWithin_l19, g5_1 h, some_bind, iI_le]
      rw [if_pos (by omega)]) b.1 (N := FU) (by have := FU_big (n := B.1 d 1) (by omega); omega) (a := (iI 0, St E B)) rfl
  have z0 : (0 : Int32) = iI 0 := iI_0
  refine ⟨fun q => ?_, fun q => ?_⟩
  · rcases f2 with ⟨j, j0, j1, j2, -⟩ | ⟨-, f3⟩
    · exact absurd (q.2 j j0 j1) j2
    · simp (disch := omega) only [fX5_keepsWithin, c5 h, some_bind, aN', iI_0, iI_eq, g5_1 h, mI_ok, f1, f3]
      rw [if_neg (by omega), if_pos (by rw [q.1])]
      rfl
  · have m0 : 0 ≤ B.1 d 1 % (k : Int) := Int.emod_nonneg _ (by omega)
    have m1 : B.1 d 1 % (k : Int) < k := Int.emod_lt_of_pos _ (by omega)
    by_cases q1 : B.1 d 1 % (k : Int) = 0
    · rcases f2 with ⟨j, j0, j1, j2, -, f3⟩ | ⟨f3, -⟩
      · simp (disch := omega) only [fX5_keepsWithin, fX5_keepsWithin_b55, c5 h, some_bind, aN', iI_0, iI_eq, g5_1 h, mI_ok, f1, f3]
        rw [if_neg (by omega), if_pos q1]
        rfl
      · exact absurd ⟨q1, fun i i0 i1 => Decidable.not_not.mp (f3 i i0 i1)⟩ q
    · simp (disch := omega) only [fX5_keepsWithin, fX5_keepsWithin_b15, c5 h, some_bind, aN', iI_0, iI_eq, g5_1 h, mI_ok]
      rw [if_neg (by omega), if_neg q1]
/-- why the class refuses a slot's row -/
theorem s8_refusal {z : Int} {c k : Nat} (R : RV E B n) (hn : n < 58) (K : RK E B) (S : RS B) (hz : i32 z) (hc : KD E c 20 k) (k0 : 0 < k) (k1 : k ≤ 5) (hb : ∀ j : Int, 0 ≤ j → j < k → 0 ≤ B.2.2.2.1 c j ∧ B.2.2.2.1 c j ≤ 100) : (¬ (0 ≤ z ∧ z ≤ 3) ∨ ¬ 0 < B.1 n 0 → fX8_rowRefusal (E.1 + co) (iI z) (E.1 + c) (St E B) = some (iI (-2), St E B)) ∧ (0 ≤ z ∧ z ≤ 3 → 0 < B.1 n 0 → B.1 (50 + 2 * z.toNat) 1 = -1 → fX8_rowRefusal (E.1 + co) (iI z) (E.1 + c) (St E B) = some (iI (-6), St E B)) ∧ (0 ≤ z ∧ z ≤ 3 → 0 < B.1 n 0 → 0 ≤ B.1 (50 + 2 * z.toNat) 1 → (KW B (50 + 2 * z.toNat) c k → fX8_rowRefusal (E.1 + co) (iI z) (E.1 + c) (St E B) = some (iI 0, St E B)) ∧ (¬ KW B (50 + 2 * z.toNat) c k → fX8_rowRefusal (E.1 + co) (iI z) (E.1 + c) (St E B) = some (iI (-2), St E B))) := by
  obtain ⟨⟨rc, rn, rk, rm⟩, rw1, -⟩ := R
  have e6 : gR (St E B) (E.1 + co) 8 6 = some (E.1 + (co + 19)) := g8_6 rc
  have e7 := g8_7 (B := B) rc rn
  refine ⟨fun q => ?_, fun q1 q2 q3 => ?_, fun q1 q2 q3 => ?_⟩
  · simp only [fX8_rowRefusal, fX8_rowRefusal_b17, c8 rc, some_bind, s8_isSlot hz, iI_0, ib, e7, s_stands rk rw1]
    by_cases c1 : 0 ≤ z ∧ z ≤ 3
    · rw [if_pos c1, if_neg (by rcases q with q | q; exact absurd c1 q; exact q)]
    · rw [if_neg c1]
  · obtain ⟨k1', k2', k3'⟩ := K.2.2.2 z.toNat (by omega)
    have th := s5_isThere (B := B) k1' (RW_b (S z.toNat (by omega)))
    simp only [fX8_rowRefusal, c8 rc, some_bind, s8_isSlot hz, iI_0, ib, e7, s_stands rk rw1, e6, r_slot K (C := B) rfl q1.1 q1.2, th]
    rw [if_pos q1, if_pos q2, if_neg (by omega)]
  · obtain ⟨k1', k2', k3'⟩ := K.2.2.2 z.toNat (by omega)
    have rb := RW_b (S z.toNat (by omega))
    have th := s5_isThere (B := B) k1' rb
    obtain ⟨y1, y2⟩ := s5_keeps (B := B) k1' k2' hc k0 k1 ⟨q3, rb.2⟩ hb
    refine ⟨fun w => ?_, fun w => ?_⟩
    · simp only [fX8_rowRefusal, c8 rc, some_bind, s8_isSlot hz, iI_0, ib, e7, s_stands rk rw1, e6, r_slot K (C := B) rfl q1.1 q1.2, th, y1 w]
      rw [if_pos q1, if_pos q2, if_pos q3, if_neg (by decide)]
    · simp only [fX8_rowRefusal, c8 rc, some_bind, s8_isSlot hz, iI_0, ib, e7, s_stands rk rw1, e6, r_slot K (C := B) rfl q1.1 q1.2, th, y2 w]
      rw [if_pos q1, if_pos q2, if_pos q3, if_pos trivial]
end KE
