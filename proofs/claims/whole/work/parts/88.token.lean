/-! tokens of a tape, plain; the class's advance -/
/-- a space, as it stands in the text -/
def wsP (b : Int) : Prop := b = 32 ∨ b = 10
def ltP (b : Int) : Prop := 97 ≤ b ∧ b ≤ 122
def dgP (b : Int) : Prop := 48 ≤ b ∧ b ≤ 57
def skT (T : Int → Int) (L p : Int) : Int := lf (fun z => ¬ (T z = 32 ∨ T z = 10)) (L - p).toNat p
def leT (T : Int → Int) (L p : Int) : Int := lf (fun z => ¬ (97 ≤ T z ∧ T z ≤ 122)) (L - p).toNat p
def deT (T : Int → Int) (L p : Int) : Int := lf (fun z => ¬ (48 ≤ T z ∧ T z ≤ 57)) (L - p).toNat p
/-- the number that stands from q on, by i digits, as the class reads it -/
def vcT (T : Int → Int) (q : Int) : Nat → Int := fo (fun i v => min 1000000 (v * 10 + T (q + i) - 48)) 0
/-- kind, end, number of the token that begins at q -/
def kdT (T : Int → Int) (L q : Int) : Int := if q < L then (if 97 ≤ T q ∧ T q ≤ 122 then 1 else if 48 ≤ T q ∧ T q ≤ 57 then 2 else if T q = 59 then 3 else 4) else 0
def nxT (T : Int → Int) (L q : Int) : Int := if q < L then (if 97 ≤ T q ∧ T q ≤ 122 then leT T L q else if 48 ≤ T q ∧ T q ≤ 57 then deT T L q else q + 1) else q
def vlT (T : Int → Int) (L q v : Int) : Int := if kdT T L q = 2 then vcT T q (deT T L q - q).toNat else v
/-- four fields of the reader -/
def tkW (B : Bk) (r : Nat) (a b c d : Int) : Bk := (fun e j => if e = r ∧ j = 4 then a else if e = r ∧ j = 5 then b else if e = r ∧ j = 6 then c else if e = r ∧ j = 7 then d else B.1 e j, B.2)
section TK
variable {E : Ev} {B : Bk} {r : Nat} {a b c d x : Int}
theorem tkW_2 : (tkW B r a b c d).2 = B.2 := rfl
theorem tkW_o {e j : Nat} (h : e = r → j ≠ 4 ∧ j ≠ 5 ∧ j ≠ 6 ∧ j ≠ 7) : (tkW B r a b c d).1 e j = B.1 e j := by
  show (if e = r ∧ j = 4 then a else if e = r ∧ j = 5 then b else if e = r ∧ j = 6 then c else if e = r ∧ j = 7 then d else B.1 e j) = _
  rw [if_neg (fun w => (h w.1).1 w.2), if_neg (fun w => (h w.1).2.1 w.2), if_neg (fun w => (h w.1).2.2.1 w.2), if_neg (fun w => (h w.1).2.2.2 w.2)]
theorem tkW_4 : (tkW B r a b c d).1 r 4 = a := if_pos ⟨rfl, rfl⟩
theorem tkW_5 : (tkW B r a b c d).1 r 5 = b := by
  show (if r = r ∧ 5 = 4 then a else if r = r ∧ 5 = 5 then b else _) = b
  rw [if_neg (by omega), if_pos ⟨rfl, rfl⟩]
theorem tkW_6 : (tkW B r a b c d).1 r 6 = c := by
  show (if r = r ∧ 6 = 4 then a else if r = r ∧ 6 = 5 then b else if r = r ∧ 6 = 6 then c else _) = c
  rw [if_neg (by omega), if_neg (by omega), if_pos ⟨rfl, rfl⟩]
theorem tkW_7 : (tkW B r a b c d).1 r 7 = d := by
  show (if r = r ∧ 7 = 4 then a else if r = r ∧ 7 = 5 then b else if r = r ∧ 7 = 6 then c else if r = r ∧ 7 = 7 then d else _) = d
  rw [if_neg (by omega), if_neg (by omega), if_neg (by omega), if_pos ⟨rfl, rfl⟩]
theorem tkW_w4 : wI (tkW B r a b c d) r 4 x = tkW B r x b c d := by
  refine Prod.ext ?_ rfl
  funext e j
  show (if e = r ∧ j = 4 then x else if e = r ∧ j = 4 then a else if e = r ∧ j = 5 then b else if e = r ∧ j = 6 then c else if e = r ∧ j = 7 then d else B.1 e j) = (if e = r ∧ j = 4 then x else if e = r ∧ j = 5 then b else if e = r ∧ j = 6 then c else if e = r ∧ j = 7 then d else B.1 e j)
  by_cases q : e = r ∧ j = 4
  · rw [if_pos q, if_pos q]
  · rw [if_neg q, if_neg q, if_neg q]
theorem tkW_w5 : wI (tkW B r a b c d) r 5 x = tkW B r a x c d := by
  refine Prod.ext ?_ rfl
  funext e j
  show (if e = r ∧ j = 5 then x else if e = r ∧ j = 4 then a else if e = r ∧ j = 5 then b else if e = r ∧ j = 6 then c else if e = r ∧ j = 7 then d else B.1 e j) = (if e = r ∧ j = 4 then a else if e = r ∧ j = 5 then x else if e = r ∧ j = 6 then c else if e = r ∧ j = 7 then d else B.1 e j)
  by_cases q : e = r ∧ j = 5
  · rw [if_pos q, if_neg (by omega), if_pos q]
  · rw [if_neg q, if_neg q, if_neg q]
theorem tkW_w6 : wI (tkW B r a b c d) r 6 x = tkW B r a b x d := by
  refine Prod.ext ?_ rfl
  funext e j
  show (if e = r ∧ j = 6 then x else if e = r ∧ j = 4 then a else if e = r ∧ j = 5 then b else if e = r ∧ j = 6 then c else if e = r ∧ j = 7 then d else B.1 e j) = (if e = r ∧ j = 4 then a else if e = r ∧ j = 5 then b else if e = r ∧ j = 6 then x else if e = r ∧ j = 7 then d else B.1 e j)
  by_cases q : e = r ∧ j = 6
  · rw [if_pos q, if_neg (by omega), if_neg (by omega), if_pos q]
  · rw [if_neg q, if_neg q, if_neg q]
theorem tkW_w7 : wI (tkW B r a b c d) r 7 x = tkW B r a b c x := by
  refine Prod.ext ?_ rfl
  funext e j
  show (if e = r ∧ j = 7 then x else if e = r ∧ j = 4 then a else if e = r ∧ j = 5 then b else if e = r ∧ j = 6 then c else if e = r ∧ j = 7 then d else B.1 e j) = (if e = r ∧ j = 4 then a else if e = r ∧ j = 5 then b else if e = r ∧ j = 6 then c else if e = r ∧ j = 7 then x else B.1 e j)
  by_cases q : e = r ∧ j = 7
  · rw [if_pos q, if_neg (by omega), if_neg (by omega), if_neg (by omega), if_pos q]
  · rw [if_neg q, if_neg q, if_neg q]
theorem tkW_self : tkW B r (B.1 r 4) (B.1 r 5) (B.1 r 6) (B.1 r 7) = B := by
  refine Prod.ext ?_ rfl
  funext e j
  show (if e = r ∧ j = 4 then B.1 r 4 else if e = r ∧ j = 5 then B.1 r 5 else if e = r ∧ j = 6 then B.1 r 6 else if e = r ∧ j = 7 then B.1 r 7 else B.1 e j) = _
  by_cases q4 : e = r ∧ j = 4
  · rw [if_pos q4, q4.1, q4.2]
  · rw [if_neg q4]
    by_cases q5 : e = r ∧ j = 5
    · rw [if_pos q5, q5.1, q5.2]
    · rw [if_neg q5]
      by_cases q6 : e = r ∧ j = 6
      · rw [if_pos q6, q6.1, q6.2]
      · rw [if_neg q6]
        by_cases q7 : e = r ∧ j = 7
        · rw [if_pos q7, q7.1, q7.2]
        · rw [if_neg q7]
theorem s3_isLetter {s : Hp} (h : -128 ≤ x ∧ x ≤ 127) : fX3_isLetter (iI x) s = some (iI (bI (97 ≤ x ∧ x ≤ 122)), s) := by
  simp (disch := omega) only [fX3_isLetter, fX3_isLetter_b16, iI_lt]
  by_cases q : 97 ≤ x ∧ x ≤ 122
  · rw [if_neg (by omega), if_neg (by omega), bI_t q]
  · rw [bI_f q]
    repeat' split
    all_goals first | rfl | (exfalso; omega)
theorem s3_isDigit {s : Hp} (h : -128 ≤ x ∧ x ≤ 127) : fX3_isDigit (iI x) s = some (iI (bI (48 ≤ x ∧ x ≤ 57)), s) := by
  simp (disch := omega) only [fX3_isDigit, fX3_isDigit_b16, iI_lt]
  by_cases q : 48 ≤ x ∧ x ≤ 57
  · rw [if_neg (by omega), if_neg (by omega), bI_t q]
  · rw [bI_f q]
    repeat' split
    all_goals first | rfl | (exfalso; omega)
/-- the reader r reads the row t, L bytes of it -/
def RD (E : Ev) (B : Bk) (r t : Nat) (L : Int) : Prop := KD E r 3 10 ∧ KD E t 22 1600 ∧ B.2.2.1 r 2 = some t ∧ B.1 r 3 = L ∧ (0 ≤ L ∧ L ≤ 1600) ∧ ∀ z, 0 ≤ z → z < L → -128 ≤ B.2.2.2.1 t z ∧ B.2.2.2.1 t z ≤ 127
theorem s3_skip {t : Nat} {L p : Int} (D : RD E B r t L) (p0 : 0 ≤ p) (p1 : p ≤ L) : iter (fX3_advance_l0 (E.1 + r)) FU (St E (tkW B r p b c d)) = some (St E (tkW B r (skT (B.2.2.2.1 t) L p) b c d)) := by
  obtain ⟨k1, k2, d1, d2, d3, d4⟩ := D
  have g2 : ∀ y, gR (St E (tkW B r y b c d)) (E.1 + r) 3 2 = some (E.1 + t) := fun y => g3_2 k1 d1
  have e3 : ∀ y, (tkW B r y b c d).1 r 3 = L := fun y => by rw [tkW_o (fun _ => by omega)]; exact d2
  obtain ⟨rr, f1, f2, f3⟩ := iter_lf (F := fX3_advance_l0 (E.1 + r)) (fun j a => a = St E (tkW B r j b c d)) (fun z => ¬ (B.2.2.2.1 t z = 32 ∨ B.2.2.2.1 t z = 10)) (fun j r' => r' = St E (tkW B r j b c d)) (fun r' => r' = St E (tkW B r L b c d)) p L
    (fun j a j0 j1 ha hp => by
      subst ha
      have bb := d4 j (by omega) j1
      refine ⟨_, ?_, rfl⟩
      simp (disch := omega) only [fX3_advance_l0, fX3_advance_b39, g3_4 k1, g3_3 k1, tkW_4, e3, some_bind, iI_le, g2, aB_ok k2, tkW_2, iI_eq, iI_add, p3_4 k1, tkW_w4]
      rw [if_neg (by omega)]
      repeat' split
      all_goals first | rfl | (exfalso; omega))
    (fun j a j0 j1 ha hp => by
      subst ha
      have bb := d4 j (by omega) j1
      refine ⟨_, ?_, rfl⟩
      simp (disch := omega) only [fX3_advance_l0, fX3_advance_b39, g3_4 k1, g3_3 k1, tkW_4, e3, some_bind, iI_le, g2, aB_ok k2, tkW_2, iI_eq, iI_add, p3_4 k1, tkW_w4]
      rw [if_neg (by omega)]
      repeat' split
      all_goals first | rfl | (exfalso; omega))
    (fun a ha => by
      subst ha
      refine ⟨_, ?_, rfl⟩
      simp (disch := omega) only [fX3_advance_l0, g3_4 k1, g3_3 k1, tkW_4, e3, some_bind, iI_le]
      rw [if_pos (by omega)]) p1 (N := FU) (by have := FU_big (n := L) (by omega); omega) (a := St E (tkW B r p b c d)) rfl
  rw [f1]
  unfold skT
  obtain ⟨s1, s2, -⟩ := lf_spec (fun z => ¬ (B.2.2.2.1 t z = 32 ∨ B.2.2.2.1 t z = 10)) (L - p).toNat p
  by_cases q : lf (fun z => ¬ (B.2.2.2.1 t z = 32 ∨ B.2.2.2.1 t z = 10)) (L - p).toNat p < L
  · rw [f2 q]
  · rw [f3 q, show lf (fun z => ¬ (B.2.2.2.1 t z = 32 ∨ B.2.2.2.1 t z = 10)) (L - p).toNat p = L by omega]
end TK
