/-! back -/
section IM3
variable {E : Ev} {B C : Bk} {n : Nat}
theorem o_back {k : Int} (R : RV E B n) (hn : 20 ≤ n) (hn2 : n ≤ 26) (K : IK E B) (I : IM B) (hk : i32 k) : QC E B n (fX8_back (E.1 + co) (iI k)) (fX9_back (E.1 + mo) (iI k)) := by
  have hmo : mo = 58 := rfl
  have hco : co = 0 := rfl
  have R1 := R
  obtain ⟨⟨rc, rn, rk, rm⟩, rw1, rv, rb⟩ := R
  obtain ⟨k1, k2⟩ := hk
  have e5 : gR (St E B) (E.1 + co) 8 5 = some (E.1 + (co + 18)) := g8_5 rc
  by_cases c : 0 ≤ k ∧ k ≤ 2
  · obtain ⟨t, rfl⟩ : ∃ t : Nat, k = t := ⟨k.toNat, by omega⟩
    obtain ⟨vk, vr⟩ := K.2.2 t (by omega)
    obtain ⟨j1, j2, j3⟩ := I t (by omega)
    by_cases ck : B.2.2.2.1 (co + 18) t = 1
    · obtain ⟨a, b, c'⟩ := j3 ck
      have nm : n + 6 ≤ 32 + 6 * t ∨ (32 + 6 * t) + 6 ≤ n := by omega
      have r1 : ∀ d z, (wI (wI (cyV B n (32 + 6 * t)) co 11 0) co 12 (B.1 co 12 + 1)).2.2.2.1 d z = if n < d ∧ d ≤ n + 5 ∧ 0 ≤ z ∧ z < vLen (d - n) then B.2.2.2.1 (32 + 6 * t + (d - n)) z else B.2.2.2.1 d z := fun d z => by rw [wI_2, wI_2, cyV_4 nm]
      have r2 : ∀ d z, (cvM (wI (wI (wI (cyV B n (32 + 6 * t)) co 11 0) co 12 (B.1 co 12 + 1)) mo 0 0) (1 + (t : Int)) 0).2.2.2.1 d z = if bsz d * 0 ≤ z ∧ z < bsz d * 0 + bsz d then (wI (wI (cyV B n (32 + 6 * t)) co 11 0) co 12 (B.1 co 12 + 1)).2.2.2.1 d (bsz d * (1 + (t : Int)) + (z - bsz d * 0)) else (wI (wI (cyV B n (32 + 6 * t)) co 11 0) co 12 (B.1 co 12 + 1)).2.2.2.1 d z := fun d z => by rw [cvM_4, wI_2]
      have i2 : ∀ d j, (d = mo → j ≠ 0) → (cvM (wI (wI (wI (cyV B n (32 + 6 * t)) co 11 0) co 12 (B.1 co 12 + 1)) mo 0 0) (1 + (t : Int)) 0).1 d j = if d = co ∧ j = 12 then B.1 co 12 + 1 else if d = co ∧ j = 11 then 0 else if d = n ∧ j < 14 then B.1 (32 + 6 * t) j else B.1 d j := fun d j q => by
        rw [cvM_1, wI_1, if_neg (fun w => q w.1 w.2), wI_1, wI_1, cyV_1]
      have ro : ∀ d z, (bsz d = 0 ∨ bsz d ≤ z) → (cvM (wI (wI (wI (cyV B n (32 + 6 * t)) co 11 0) co 12 (B.1 co 12 + 1)) mo 0 0) (1 + (t : Int)) 0).2.2.2.1 d z = (wI (wI (cyV B n (32 + 6 * t)) co 11 0) co 12 (B.1 co 12 + 1)).2.2.2.1 d z := fun d z q => by
        rw [r2, if_neg (by rw [Int.mul_zero]; omega)]
      have r3 : (cvM (wI (wI (wI (cyV B n (32 + 6 * t)) co 11 0) co 12 (B.1 co 12 + 1)) mo 0 0) (1 + (t : Int)) 0).2.2.1 = B.2.2.1 := by rw [cvM_3, wI_2, wI_2, wI_2, cyV_3]
      refine ⟨iI 0, wI (wI (cyV B n (32 + 6 * t)) co 11 0) co 12 (B.1 co 12 + 1), cvM (wI (wI (wI (cyV B n (32 + 6 * t)) co 11 0) co 12 (B.1 co 12 + 1)) mo 0 0) (1 + (t : Int)) 0, ?_, ?_, Or.inr ⟨⟨fun d j q1 q2 q3 => ?_, fun d j _ => by rw [cvM_2, wI_2, wI_2, wI_2, cyV_2], r3, fun d z q1 q2 q3 => ?_, fun d z _ => by rw [cvM_5, wI_2, wI_2, wI_2, cyV_5]⟩, ⟨⟨rc, by rw [r3]; exact rn, rk, rm⟩, ?_⟩, ?_, Or.inl ⟨?_, Or.inr ⟨t, by omega, ck, ?_, fun z z0 z1 => ?_⟩⟩⟩⟩
      · have e4 : gR (St E B) (E.1 + co) 8 4 = some (E.1 + (co + 17)) := g8_4 rc
        have ar : aR (St E B) 24 (E.1 + (co + 17)) (iI t) = some (E.1 + (32 + 6 * t)) := aR_ok K.1 (by omega) c.1 (by omega) (by omega) (by rw [Int.toNat_natCast]; exact vr)
        have az : aZ (St E B) (E.1 + (co + 18)) (iI t) = some (iI 1) := by rw [aZ_ok K.2.1 c.1 (by omega) (by omega), ck]
        have fa := s8_forgetAll (E := E) (B := cyV B n (32 + 6 * t)) rc
        have c12 : (cyV B n (32 + 6 * t)).1 co 12 = B.1 co 12 := by rw [cyV_1, if_neg (by omega)]
        rw [c12] at fa
        simp (disch := omega) only [fX8_back, c8 rc, some_bind, iI_0, iI_lt, e5, az, iI_eq, g8_7 rc rn, e4, ar, s_copyFrom rk vk (show 32 + 6 * t ≠ n by omega), fa]
        rw [if_neg (by omega), if_pos (by omega), if_neg (by omega)]
      · have cv := m_copyValley (E := E) (B := wI (wI (wI (cyV B n (32 + 6 * t)) co 11 0) co 12 (B.1 co 12 + 1)) mo 0 0) (a := 1 + (t : Int)) (b := 0) rm (by omega) (by omega) (by omega) (by omega) (by omega)
        have az : aZ (St E (wI (wI (wI (cyV B n (32 + 6 * t)) co 11 0) co 12 (B.1 co 12 + 1)) mo 0 0)) (E.1 + (mo + 14)) (iI t) = some (iI 1) := by
          rw [aZ_ok (mk14 rm) c.1 (by omega) (by omega), wI_2, r1, if_neg (by omega), j2, ck]
        simp (disch := omega) only [fX9_back, c9 rm.1, p9_0 rm.1, some_bind, jI_i, jI_0, jI_2, m_in, iI_0, ib, g9_25 rm.1, az, iI_eq, iI_add, cv]
        rw [if_pos c, if_neg (by omega)]
      · rw [i2 d j (fun q => by have := q3 q; unfold msv at this; omega), if_neg (fun w => (q2 w.1).2 w.2), if_neg (fun w => (q2 w.1).1 w.2), if_neg (fun w => q1 w.1)]
      · rw [ro d z q3, r1, if_neg (fun w => q2 ⟨w.1, w.2.1⟩)]
      · refine vcp (B := B) (e := 32 + 6 * t) (q := 1 + (t : Int)) (q' := 0) (fun j hj => by rw [i2 _ _ (by omega), if_neg (by omega), if_neg (by omega), if_pos ⟨rfl, hj⟩]) (fun i z a1 a2 a3 a4 => ?_) (fun r hr z z0 z1 => ?_) a b c'
        · rw [ro _ _ (Or.inl (bsz_0 (by omega))), r1, if_pos ⟨by omega, by omega, a3, by rw [show n + i - n = i by omega]; exact a4⟩, show n + i - n = i by omega]
        · rw [r2, if_pos (by rw [Int.mul_zero]; constructor <;> omega), r1, if_neg (by omega), show bsz (mo + r) * (1 + (t : Int)) + (bsz (mo + r) * 0 + z - bsz (mo + r) * 0) = bsz (mo + r) * (1 + (t : Int)) + z by omega]
      · rw [i2 _ _ (by omega), if_neg (by omega), if_pos ⟨rfl, rfl⟩]
      · rw [i2 _ _ (by omega), if_pos ⟨rfl, rfl⟩]
      · rw [i2 _ _ (by omega), if_neg (by omega), if_neg (by omega), if_pos ⟨rfl, by omega⟩]
      · have v3 : vLen 3 = 15 := rfl
        rw [ro _ _ (Or.inl (bsz_0 (by omega))), r1, if_pos ⟨by omega, by omega, z0, by rw [show n + 3 - n = 3 by omega]; omega⟩, show n + 3 - n = 3 by omega]
    · have ck0 : B.2.2.2.1 (co + 18) t = 0 := by omega
      refine ⟨iI (-6), B, wI B mo 0 0, ?_, ?_, Or.inl (sc_I (by unfold msv; omega))⟩
      · have az : aZ (St E B) (E.1 + (co + 18)) (iI t) = some (iI 0) := by rw [aZ_ok K.2.1 c.1 (by omega) (by omega), ck0]
        simp (disch := omega) only [fX8_back, c8 rc, some_bind, iI_0, iI_lt, e5, az, iI_eq]
        rw [if_neg (by omega), if_pos (by omega)]
        rfl
      · have az : aZ (St E (wI B mo 0 0)) (E.1 + (mo + 14)) (iI t) = some (iI 0) := by rw [aZ_ok (mk14 rm) c.1 (by omega) (by omega), wI_2, j2, ck0]
        simp (disch := omega) only [fX9_back, c9 rm.1, p9_0 rm.1, some_bind, jI_i, jI_0, jI_2, m_in, iI_0, ib, g9_25 rm.1, az, iI_eq]
        rw [if_pos c]
        rfl
  · refine ⟨iI (-2), B, wI B mo 0 0, ?_, ?_, Or.inl (sc_I (by unfold msv; omega))⟩
    · simp (disch := omega) only [fX8_back, fX8_back_b9, c8 rc, some_bind, iI_0, iI_lt]
      by_cases q : k < 0
      · rw [if_pos q]
      · rw [if_neg q, if_neg (by omega)]
    · simp (disch := omega) only [fX9_back, c9 rm.1, p9_0 rm.1, some_bind, jI_i, jI_0, jI_2, m_in, iI_0, ib]
      rw [if_neg c]
end IM3
