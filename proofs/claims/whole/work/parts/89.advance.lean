/-! the class's advance, whole -/
section AD
variable {E : Ev} {B : Bk} {r : Nat} {a b c d x : Int}
theorem s3_lets {t : Nat} {L p : Int} (D : RD E B r t L) (p0 : 0 ≤ p) (p1 : p ≤ L) : iter (fX3_advance_l99 (E.1 + r)) FU (St E (tkW B r p b c d)) = some (St E (tkW B r (leT (B.2.2.2.1 t) L p) b c d)) := by
  obtain ⟨k1, k2, d1, d2, d3, d4⟩ := D
  have g2 : ∀ y, gR (St E (tkW B r y b c d)) (E.1 + r) 3 2 = some (E.1 + t) := fun y => g3_2 k1 d1
  have e3 : ∀ y, (tkW B r y b c d).1 r 3 = L := fun y => by rw [tkW_o (fun _ => by omega)]; exact d2
  obtain ⟨rr, f1, f2, f3⟩ := iter_lf (F := fX3_advance_l99 (E.1 + r)) (fun j a => a = St E (tkW B r j b c d)) (fun z => ¬ (97 ≤ B.2.2.2.1 t z ∧ B.2.2.2.1 t z ≤ 122)) (fun j r' => r' = St E (tkW B r j b c d)) (fun r' => r' = St E (tkW B r L b c d)) p L
    (fun j a j0 j1 ha hp => by
      subst ha
      have bb := d4 j (by omega) j1
      refine ⟨_, ?_, rfl⟩
      simp (disch := omega) only [fX3_advance_l99, g3_4 k1, g3_3 k1, tkW_4, e3, some_bind, iI_le, g2, aB_ok k2, tkW_2, s3_isLetter bb, iI_0, ib, iI_add, p3_4 k1, tkW_w4]
      rw [if_neg (by omega), if_pos (by omega)])
    (fun j a j0 j1 ha hp => by
      subst ha
      have bb := d4 j (by omega) j1
      refine ⟨_, ?_, rfl⟩
      simp (disch := omega) only [fX3_advance_l99, g3_4 k1, g3_3 k1, tkW_4, e3, some_bind, iI_le, g2, aB_ok k2, tkW_2, s3_isLetter bb, iI_0, ib]
      rw [if_neg (by omega), if_neg hp])
    (fun a ha => by
      subst ha
      refine ⟨_, ?_, rfl⟩
      simp (disch := omega) only [fX3_advance_l99, g3_4 k1, g3_3 k1, tkW_4, e3, some_bind, iI_le]
      rw [if_pos (by omega)]) p1 (N := FU) (by have := FU_big (n := L) (by omega); omega) (a := St E (tkW B r p b c d)) rfl
  rw [f1]
  unfold leT
  obtain ⟨s1, s2, -⟩ := lf_spec (fun z => ¬ (97 ≤ B.2.2.2.1 t z ∧ B.2.2.2.1 t z ≤ 122)) (L - p).toNat p
  by_cases q : lf (fun z => ¬ (97 ≤ B.2.2.2.1 t z ∧ B.2.2.2.1 t z ≤ 122)) (L - p).toNat p < L
  · rw [f2 q]
  · rw [f3 q, show lf (fun z => ¬ (97 ≤ B.2.2.2.1 t z ∧ B.2.2.2.1 t z ≤ 122)) (L - p).toNat p = L by omega]
theorem vcT_b {T : Int → Int} {q : Int} : ∀ k : Nat, (∀ i : Nat, i < k → 48 ≤ T (q + i) ∧ T (q + i) ≤ 57) → 0 ≤ vcT T q k ∧ vcT T q k ≤ 1000000 := by
  intro k
  induction k with
  | zero => intro _; exact ⟨Int.le_refl 0, by show (0 : Int) ≤ 1000000; omega⟩
  | succ k ih =>
    intro h
    have i := ih (fun i hi => h i (by omega))
    have b := h k (by omega)
    have e : vcT T q (k + 1) = min 1000000 (vcT T q k * 10 + T (q + k) - 48) := rfl
    rw [e]
    omega
theorem s3_digs {t : Nat} {L p : Int} (D : RD E B r t L) (p0 : 0 ≤ p) (p1 : p ≤ L) : iter (fX3_advance_l163 (E.1 + r)) FU (St E (tkW B r p b c 0)) = some (St E (tkW B r (deT (B.2.2.2.1 t) L p) b c (vcT (B.2.2.2.1 t) p (deT (B.2.2.2.1 t) L p - p).toNat))) := by
  obtain ⟨k1, k2, d1, d2, d3, d4⟩ := D
  have g2 : ∀ y v, gR (St E (tkW B r y b c v)) (E.1 + r) 3 2 = some (E.1 + t) := fun y v => g3_2 k1 d1
  have e3 : ∀ y v, (tkW B r y b c v).1 r 3 = L := fun y v => by rw [tkW_o (fun _ => by omega)]; exact d2
  obtain ⟨rr, f1, f2, f3⟩ := iter_lf (F := fX3_advance_l163 (E.1 + r)) (fun j a => a = St E (tkW B r j b c (vcT (B.2.2.2.1 t) p (j - p).toNat)) ∧ ∀ i, p ≤ i → i < j → 48 ≤ B.2.2.2.1 t i ∧ B.2.2.2.1 t i ≤ 57) (fun z => ¬ (48 ≤ B.2.2.2.1 t z ∧ B.2.2.2.1 t z ≤ 57)) (fun j r' => r' = St E (tkW B r j b c (vcT (B.2.2.2.1 t) p (j - p).toNat))) (fun r' => r' = St E (tkW B r L b c (vcT (B.2.2.2.1 t) p (L - p).toNat))) p L
    (fun j a j0 j1 ha hp => by
      obtain ⟨rfl, hd⟩ := ha
      have bb := d4 j (by omega) j1
      have vb := vcT_b (T := B.2.2.2.1 t) (q := p) (j - p).toNat (fun i hi => hd (p + i) (by omega) (by omega))
      have vs : vcT (B.2.2.2.1 t) p (j + 1 - p).toNat = min 1000000 (vcT (B.2.2.2.1 t) p (j - p).toNat * 10 + B.2.2.2.1 t j - 48) := by
        rw [show (j + 1 - p).toNat = (j - p).toNat + 1 by omega]
        show min 1000000 (vcT (B.2.2.2.1 t) p (j - p).toNat * 10 + B.2.2.2.1 t (p + ((j - p).toNat : Int)) - 48) = _
        rw [show p + (((j - p).toNat : Nat) : Int) = j by omega]
      refine ⟨_, ?_, rfl, fun i i0 i1 => ?_⟩
      · rw [vs]
        simp (disch := omega) only [fX3_advance_l163, g3_4 k1, g3_3 k1, g3_7 k1, tkW_4, tkW_7, e3, some_bind, iI_le, g2, aB_ok k2, tkW_2, s3_isDigit bb, iI_0, ib, iI_mul, iI_add, iI_sub, imin_ok, p3_7 k1, tkW_w7, p3_4 k1, tkW_w4]
        rw [if_neg (by omega), if_pos (by omega)]
      · by_cases q : i = j
        · rw [q]; omega
        · exact hd i i0 (by omega))
    (fun j a j0 j1 ha hp => by
      obtain ⟨rfl, hd⟩ := ha
      have bb := d4 j (by omega) j1
      refine ⟨_, ?_, rfl⟩
      simp (disch := omega) only [fX3_advance_l163, g3_4 k1, g3_3 k1, tkW_4, e3, some_bind, iI_le, g2, aB_ok k2, tkW_2, s3_isDigit bb, iI_0, ib]
      rw [if_neg (by omega), if_neg hp])
    (fun a ha => by
      obtain ⟨rfl, hd⟩ := ha
      refine ⟨_, ?_, rfl⟩
      simp (disch := omega) only [fX3_advance_l163, g3_4 k1, g3_3 k1, tkW_4, e3, some_bind, iI_le]
      rw [if_pos (by omega)]) p1 (N := FU) (by have := FU_big (n := L) (by omega); omega) (a := St E (tkW B r p b c 0)) ⟨by rw [show (p - p).toNat = 0 by omega]; rfl, fun i i0 i1 => by omega⟩
  rw [f1]
  unfold deT
  obtain ⟨s1, s2, -⟩ := lf_spec (fun z => ¬ (48 ≤ B.2.2.2.1 t z ∧ B.2.2.2.1 t z ≤ 57)) (L - p).toNat p
  by_cases q : lf (fun z => ¬ (48 ≤ B.2.2.2.1 t z ∧ B.2.2.2.1 t z ≤ 57)) (L - p).toNat p < L
  · rw [f2 q]
  · rw [f3 q, show lf (fun z => ¬ (48 ≤ B.2.2.2.1 t z ∧ B.2.2.2.1 t z ≤ 57)) (L - p).toNat p = L by omega]
theorem skT_b {T : Int → Int} {L p : Int} (p1 : p ≤ L) : p ≤ skT T L p ∧ skT T L p ≤ L := by
  obtain ⟨s1, s2, -⟩ := lf_spec (fun z => ¬ (T z = 32 ∨ T z = 10)) (L - p).toNat p
  unfold skT
  omega
theorem s3_advance {t : Nat} {L p : Int} (D : RD E B r t L) (p0 : 0 ≤ p) (p1 : p ≤ L) : fX3_advance (E.1 + r) (St E (tkW B r p b c d)) = some (St E (tkW B r (nxT (B.2.2.2.1 t) L (skT (B.2.2.2.1 t) L p)) (kdT (B.2.2.2.1 t) L (skT (B.2.2.2.1 t) L p)) (skT (B.2.2.2.1 t) L p) (vlT (B.2.2.2.1 t) L (skT (B.2.2.2.1 t) L p) d))) := by
  have sb := skT_b (T := B.2.2.2.1 t) p1
  have D' := D
  obtain ⟨k1, k2, d1, d2, d3, d4⟩ := D'
  have g2 : ∀ y u v w, gR (St E (tkW B r y u v w)) (E.1 + r) 3 2 = some (E.1 + t) := fun y u v w => g3_2 k1 d1
  have e3 : ∀ y u v w, (tkW B r y u v w).1 r 3 = L := fun y u v w => by rw [tkW_o (fun _ => by omega)]; exact d2
  simp only [fX3_advance, c3 k1, some_bind, s3_skip D p0 p1]
  generalize skT (B.2.2.2.1 t) L p = q at sb ⊢
  unfold nxT vlT kdT
  by_cases cl : q < L
  · have bb := d4 q (by omega) cl
    simp (disch := omega) only [fX3_advance_b52, fX3_advance_b251, g3_4 k1, tkW_4, some_bind, p3_6 k1, tkW_w6, g3_3 k1, e3, iI_lt, g2, aB_ok k2, tkW_2, s3_isLetter bb, s3_isDigit bb, iI_0, ib, iI_eq, p3_5 k1, tkW_w5, p3_7 k1, tkW_w7, s3_lets D (show 0 ≤ q by omega) sb.2, s3_digs D (show 0 ≤ q by omega) sb.2, iI_add, p3_4 k1, tkW_w4]
    rw [if_pos cl, if_pos cl, if_pos cl]
    by_cases c1 : 97 ≤ B.2.2.2.1 t q ∧ B.2.2.2.1 t q ≤ 122
    · rw [if_pos c1, if_pos c1, if_pos c1, if_neg (by omega)]
    · rw [if_neg c1, if_neg c1, if_neg c1]
      by_cases c2 : 48 ≤ B.2.2.2.1 t q ∧ B.2.2.2.1 t q ≤ 57
      · rw [if_pos c2, if_pos c2, if_pos c2, if_pos rfl]
      · rw [if_neg c2, if_neg c2, if_neg c2]
        by_cases c3 : B.2.2.2.1 t q = 59
        · rw [if_pos c3, if_pos c3, if_neg (by omega)]
        · rw [if_neg c3, if_neg c3, if_neg (by omega)]
  · simp (disch := omega) only [fX3_advance_b52, g3_4 k1, tkW_4, some_bind, p3_6 k1, tkW_w6, g3_3 k1, e3, iI_lt, p3_5 k1, tkW_w5]
    rw [if_neg cl, if_neg cl, if_neg cl, if_neg (by omega)]
end AD
