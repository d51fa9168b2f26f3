/-! the reference's next, whole: T the tape's bytes, L how many -/
def vrT (T : Int → Int) (q : Int) : Nat → Int := fo (fun i v => if 100000 < v then 1000000 else 10 * v + T (q + i) - 48) 0
def wrT (T : Int → Int) (q : Int) : Nat → Int := fo (fun i w => if 11 < i then -1 else 27 * w + T (q + i) - 96) 0
def vl9 (T : Int → Int) (L q : Int) : Int := if kdT T L q = 2 then vrT T q (deT T L q - q).toNat else 0
def wd9 (T : Int → Int) (L q : Int) : Int := if kdT T L q = 1 then wrT T q (leT T L q - q).toNat else 0
/-- fields 6 .. 11 of the reference and its tape -/
def nkW (T : Int → Int) (L : Int) (B : Bk) (a b c d w : Int) : Bk := (fun e j => if e = mo ∧ j = 6 then L else if e = mo ∧ j = 7 then a else if e = mo ∧ j = 8 then b else if e = mo ∧ j = 9 then c else if e = mo ∧ j = 10 then d else B.1 e j, fun e j => if e = mo ∧ j = 11 then jI w else B.2.1 e j, B.2.2.1, fun e z => if e = mo + 5 then T z else B.2.2.2.1 e z, B.2.2.2.2)
section NW
variable {T : Int → Int} {L : Int} {B : Bk} {a b c d w x : Int}
theorem nkW_o {e j : Nat} (h : e = mo → ¬ (6 ≤ j ∧ j ≤ 10)) : (nkW T L B a b c d w).1 e j = B.1 e j := by
  show (if e = mo ∧ j = 6 then L else if e = mo ∧ j = 7 then a else if e = mo ∧ j = 8 then b else if e = mo ∧ j = 9 then c else if e = mo ∧ j = 10 then d else B.1 e j) = _
  by_cases q : e = mo
  · have := h q
    rw [if_neg (by omega), if_neg (by omega), if_neg (by omega), if_neg (by omega), if_neg (by omega)]
  · rw [if_neg (fun y => q y.1), if_neg (fun y => q y.1), if_neg (fun y => q y.1), if_neg (fun y => q y.1), if_neg (fun y => q y.1)]
theorem nkW_6 : (nkW T L B a b c d w).1 mo 6 = L := by
  unfold nkW
  simp
theorem nkW_7 : (nkW T L B a b c d w).1 mo 7 = a := by
  unfold nkW
  simp
theorem nkW_8 : (nkW T L B a b c d w).1 mo 8 = b := by
  unfold nkW
  simp
theorem nkW_9 : (nkW T L B a b c d w).1 mo 9 = c := by
  unfold nkW
  simp
theorem nkW_10 : (nkW T L B a b c d w).1 mo 10 = d := by
  unfold nkW
  simp
theorem nkW_11 : (nkW T L B a b c d w).2.1 mo 11 = jI w := by
  unfold nkW
  simp
theorem nkW_3 : (nkW T L B a b c d w).2.2.1 = B.2.2.1 := rfl
theorem nkW_t : (nkW T L B a b c d w).2.2.2.1 (mo + 5) = T := by
  funext z
  unfold nkW
  simp
theorem nkW_r {e : Nat} (h : e ≠ mo + 5) : (nkW T L B a b c d w).2.2.2.1 e = B.2.2.2.1 e := by
  funext z
  unfold nkW
  simp [h]
theorem nkW_w7 : wI (nkW T L B a b c d w) mo 7 x = nkW T L B x b c d w := by
  refine Prod.ext ?_ rfl
  funext e j
  show (if e = mo ∧ j = 7 then x else if e = mo ∧ j = 6 then L else if e = mo ∧ j = 7 then a else if e = mo ∧ j = 8 then b else if e = mo ∧ j = 9 then c else if e = mo ∧ j = 10 then d else B.1 e j) = (if e = mo ∧ j = 6 then L else if e = mo ∧ j = 7 then x else if e = mo ∧ j = 8 then b else if e = mo ∧ j = 9 then c else if e = mo ∧ j = 10 then d else B.1 e j)
  repeat' split
  all_goals first | rfl | (exfalso; omega)
theorem nkW_w8 : wI (nkW T L B a b c d w) mo 8 x = nkW T L B a x c d w := by
  refine Prod.ext ?_ rfl
  funext e j
  show (if e = mo ∧ j = 8 then x else if e = mo ∧ j = 6 then L else if e = mo ∧ j = 7 then a else if e = mo ∧ j = 8 then b else if e = mo ∧ j = 9 then c else if e = mo ∧ j = 10 then d else B.1 e j) = (if e = mo ∧ j = 6 then L else if e = mo ∧ j = 7 then a else if e = mo ∧ j = 8 then x else if e = mo ∧ j = 9 then c else if e = mo ∧ j = 10 then d else B.1 e j)
  repeat' split
  all_goals first | rfl | (exfalso; omega)
theorem nkW_w9 : wI (nkW T L B a b c d w) mo 9 x = nkW T L B a b x d w := by
  refine Prod.ext ?_ rfl
  funext e j
  show (if e = mo ∧ j = 9 then x else if e = mo ∧ j = 6 then L else if e = mo ∧ j = 7 then a else if e = mo ∧ j = 8 then b else if e = mo ∧ j = 9 then c else if e = mo ∧ j = 10 then d else B.1 e j) = (if e = mo ∧ j = 6 then L else if e = mo ∧ j = 7 then a else if e = mo ∧ j = 8 then b else if e = mo ∧ j = 9 then x else if e = mo ∧ j = 10 then d else B.1 e j)
  repeat' split
  all_goals first | rfl | (exfalso; omega)
theorem nkW_w10 : wI (nkW T L B a b c d w) mo 10 x = nkW T L B a b c x w := by
  refine Prod.ext ?_ rfl
  funext e j
  show (if e = mo ∧ j = 10 then x else if e = mo ∧ j = 6 then L else if e = mo ∧ j = 7 then a else if e = mo ∧ j = 8 then b else if e = mo ∧ j = 9 then c else if e = mo ∧ j = 10 then d else B.1 e j) = (if e = mo ∧ j = 6 then L else if e = mo ∧ j = 7 then a else if e = mo ∧ j = 8 then b else if e = mo ∧ j = 9 then c else if e = mo ∧ j = 10 then x else B.1 e j)
  repeat' split
  all_goals first | rfl | (exfalso; omega)
theorem nkW_w11 : wL (nkW T L B a b c d w) mo 11 (jI x) = nkW T L B a b c d x := by
  refine Prod.ext rfl (Prod.ext ?_ rfl)
  funext e j
  show (if e = mo ∧ j = 11 then jI x else if e = mo ∧ j = 11 then jI w else B.2.1 e j) = (if e = mo ∧ j = 11 then jI x else B.2.1 e j)
  repeat' split
  all_goals rfl
/-- what is known of the tape alone -/
def TB9 (T : Int → Int) (L : Int) : Prop := (0 ≤ L ∧ L ≤ 1600) ∧ ∀ z, 0 ≤ z → z < L → -128 ≤ T z ∧ T z ≤ 127
variable {E : Ev}
theorem nkW_tp (rm : mKd E mo) (D : TB9 T L) : RTp E (nkW T L B a b c d w) L := by
  refine ⟨rm, nkW_6, D.1, fun z z0 z1 => ?_⟩
  rw [nkW_t]
  exact D.2 z z0 z1
theorem m_byt {k lo hi : Int} (rm : mKd E mo) (D : TB9 T L) (k0 : 0 ≤ k) (k1 : k ≤ L) (l0 : -128 ≤ lo ∧ lo ≤ 127) (h0 : -128 ≤ hi ∧ hi ≤ 127) : fX9_isByte (E.1 + mo) (iI k) (iI lo) (iI hi) (St E (nkW T L B a b c d w)) = some (iI (bI (k < L ∧ lo ≤ T k ∧ T k ≤ hi)), St E (nkW T L B a b c d w)) := by
  have := m_isByte (nkW_tp (B := B) (a := a) (b := b) (c := c) (d := d) (w := w) rm D) k0 k1 l0 h0
  rw [nkW_t] at this
  exact this
theorem m_skip {p : Int} (rm : mKd E mo) (D : TB9 T L) (p0 : 0 ≤ p) (p1 : p ≤ L) : iter (fX9_next_l0 (E.1 + mo)) FU (St E (nkW T L B p b c d w)) = some (St E (nkW T L B (skT T L p) b c d w)) := by
  have D' := D
  obtain ⟨d3, d4⟩ := D'
  obtain ⟨rr, f1, f2, f3⟩ := iter_lf (F := fX9_next_l0 (E.1 + mo)) (fun j a => a = St E (nkW T L B j b c d w)) (fun z => ¬ (T z = 32 ∨ T z = 10)) (fun j r' => r' = St E (nkW T L B j b c d w)) (fun r' => r' = St E (nkW T L B L b c d w)) p L
    (fun j a j0 j1 ha hp => by
      subst ha
      refine ⟨_, ?_, rfl⟩
      simp (disch := omega) only [fX9_next_l0, fX9_next_b30, g9_7 rm.1, nkW_7, some_bind, m_byt rm D, iI_0, ib, iI_add, p9_7 rm.1, nkW_w7]
      repeat' split
      all_goals first | rfl | (exfalso; omega))
    (fun j a j0 j1 ha hp => by
      subst ha
      refine ⟨_, ?_, rfl⟩
      simp (disch := omega) only [fX9_next_l0, fX9_next_b30, g9_7 rm.1, nkW_7, some_bind, m_byt rm D, iI_0, ib, iI_add, p9_7 rm.1, nkW_w7]
      repeat' split
      all_goals first | rfl | (exfalso; omega))
    (fun a ha => by
      subst ha
      refine ⟨_, ?_, rfl⟩
      simp (disch := omega) only [fX9_next_l0, fX9_next_b30, g9_7 rm.1, nkW_7, some_bind, m_byt rm D, iI_0, ib, iI_add, p9_7 rm.1, nkW_w7]
      repeat' split
      all_goals first | rfl | (exfalso; omega)) p1 (N := FU) (by have := FU_big (n := L) (by omega); omega) (a := St E (nkW T L B p b c d w)) rfl
  rw [f1]
  unfold skT
  obtain ⟨s1, s2, -⟩ := lf_spec (fun z => ¬ (T z = 32 ∨ T z = 10)) (L - p).toNat p
  by_cases q : lf (fun z => ¬ (T z = 32 ∨ T z = 10)) (L - p).toNat p < L
  · rw [f2 q]
  · rw [f3 q, show lf (fun z => ¬ (T z = 32 ∨ T z = 10)) (L - p).toNat p = L by omega]
theorem vrT_b {q : Int} : ∀ k : Nat, (∀ i : Nat, i < k → 48 ≤ T (q + i) ∧ T (q + i) ≤ 57) → 0 ≤ vrT T q k ∧ vrT T q k ≤ 1000009 := by
  intro k
  induction k with
  | zero => intro _; exact ⟨Int.le_refl 0, by show (0 : Int) ≤ 1000009; omega⟩
  | succ k ih =>
    intro h
    have i := ih (fun i hi => h i (by omega))
    have b := h k (by omega)
    have e : vrT T q (k + 1) = if 100000 < vrT T q k then 1000000 else 10 * vrT T q k + T (q + k) - 48 := rfl
    rw [e]
    split <;> omega
theorem m_digs {p : Int} (rm : mKd E mo) (D : TB9 T L) (p0 : 0 ≤ p) (p1 : p ≤ L) : iter (fX9_next_l208 (E.1 + mo)) FU (St E (nkW T L B p b c 0 w)) = some (St E (nkW T L B (deT T L p) b c (vrT T p (deT T L p - p).toNat) w)) := by
  have D' := D
  obtain ⟨d3, d4⟩ := D'
  obtain ⟨rr, f1, f2, f3⟩ := iter_lf (F := fX9_next_l208 (E.1 + mo)) (fun j a => a = St E (nkW T L B j b c (vrT T p (j - p).toNat) w) ∧ ∀ i, p ≤ i → i < j → 48 ≤ T i ∧ T i ≤ 57) (fun z => ¬ (48 ≤ T z ∧ T z ≤ 57)) (fun j r' => r' = St E (nkW T L B j b c (vrT T p (j - p).toNat) w)) (fun r' => r' = St E (nkW T L B L b c (vrT T p (L - p).toNat) w)) p L
    (fun j a j0 j1 ha hp => by
      obtain ⟨rfl, hd⟩ := ha
      have bb := d4 j (by omega) j1
      have vb := vrT_b (T := T) (q := p) (j - p).toNat (fun i hi => hd (p + i) (by omega) (by omega))
      have vs : vrT T p (j + 1 - p).toNat = if 100000 < vrT T p (j - p).toNat then 1000000 else 10 * vrT T p (j - p).toNat + T j - 48 := by
        rw [show (j + 1 - p).toNat = (j - p).toNat + 1 by omega]
        show (if 100000 < vrT T p (j - p).toNat then 1000000 else 10 * vrT T p (j - p).toNat + T (p + ((j - p).toNat : Int)) - 48) = _
        rw [show p + (((j - p).toNat : Nat) : Int) = j by omega]
      refine ⟨_, ?_, rfl, fun i i0 i1 => ?_⟩
      · rw [vs]
        simp (disch := omega) only [fX9_next_l208, fX9_next_b258, g9_7 rm.1, nkW_7, some_bind, m_byt rm D, iI_0, ib, g9_10 rm.1, nkW_10, iI_le, g9_5 rm.1, aB_ok (mk5 rm), nkW_t, iI_mul, iI_add, iI_sub, p9_10 rm.1, nkW_w10, p9_7 rm.1, nkW_w7]
        rw [if_pos ⟨j1, by omega, by omega⟩]
        by_cases q : 100000 < vrT T p (j - p).toNat
        · rw [if_neg (by omega), if_pos q]
        · rw [if_pos (by omega), if_neg q]
      · by_cases q : i = j
        · rw [q]; omega
        · exact hd i i0 (by omega))
    (fun j a j0 j1 ha hp => by
      obtain ⟨rfl, hd⟩ := ha
      refine ⟨_, ?_, rfl⟩
      simp (disch := omega) only [fX9_next_l208, g9_7 rm.1, nkW_7, some_bind, m_byt rm D, iI_0, ib]
      rw [if_neg (by omega)])
    (fun a ha => by
      obtain ⟨rfl, hd⟩ := ha
      refine ⟨_, ?_, rfl⟩
      simp (disch := omega) only [fX9_next_l208, g9_7 rm.1, nkW_7, some_bind, m_byt rm D, iI_0, ib]
      rw [if_neg (by omega)]) p1 (N := FU) (by have := FU_big (n := L) (by omega); omega) (a := St E (nkW T L B p b c 0 w)) ⟨by rw [show (p - p).toNat = 0 by omega]; rfl, fun i i0 i1 => by omega⟩
  rw [f1]
  unfold deT
  obtain ⟨s1, s2, -⟩ := lf_spec (fun z => ¬ (48 ≤ T z ∧ T z ≤ 57)) (L - p).toNat p
  by_cases q : lf (fun z => ¬ (48 ≤ T z ∧ T z ≤ 57)) (L - p).toNat p < L
  · rw [f2 q]
  · rw [f3 q, show lf (fun z => ¬ (48 ≤ T z ∧ T z ≤ 57)) (L - p).toNat p = L by omega]
theorem jI_m1 : (-1 : Int64) = jI (-1) := by decide
theorem jI_27 : (27 : Int64) = jI 27 := by decide
theorem jI_96 : (96 : Int64) = jI 96 := by decide
theorem m_lets {p : Int} (rm : mKd E mo) (D : TB9 T L) (p0 : 0 ≤ p) (p1 : p ≤ L) : iter (fX9_next_l102 (E.1 + mo)) FU (iI 0, St E (nkW T L B p b c d 0)) = some (St E (nkW T L B (leT T L p) b c d (wrT T p (leT T L p - p).toNat))) := by
  have D' := D
  obtain ⟨d3, d4⟩ := D'
  obtain ⟨rr, f1, f2, f3⟩ := iter_lf (F := fX9_next_l102 (E.1 + mo)) (fun j a => a = (iI (j - p), St E (nkW T L B j b c d (wrT T p (j - p).toNat)))) (fun z => ¬ (97 ≤ T z ∧ T z ≤ 122)) (fun j r' => r' = St E (nkW T L B j b c d (wrT T p (j - p).toNat))) (fun r' => r' = St E (nkW T L B L b c d (wrT T p (L - p).toNat))) p L
    (fun j a j0 j1 ha hp => by
      subst ha
      have bb := d4 j (by omega) j1
      have vs : wrT T p (j + 1 - p).toNat = if 11 < j - p then -1 else 27 * wrT T p (j - p).toNat + T j - 96 := by
        rw [show (j + 1 - p).toNat = (j - p).toNat + 1 by omega]
        show (if 11 < (((j - p).toNat : Nat) : Int) then -1 else 27 * wrT T p (j - p).toNat + T (p + ((j - p).toNat : Int)) - 96) = _
        rw [show p + (((j - p).toNat : Nat) : Int) = j by omega, show (((j - p).toNat : Nat) : Int) = j - p by omega]
      refine ⟨_, ?_, rfl⟩
      rw [vs, show j + 1 - p = j - p + 1 by omega]
      simp (disch := omega) only [fX9_next_l102, fX9_next_b153, fX9_next_b169, g9_7 rm.1, nkW_7, some_bind, m_byt rm D, iI_0, ib, iI_le, g9_11 rm.1, nkW_11, g9_5 rm.1, aB_ok (mk5 rm), nkW_t, jI_i, jI_m1, jI_27, jI_96, jI_mul, jI_add, jI_sub, p9_11 rm.1, nkW_w11, iI_add, p9_7 rm.1, nkW_w7]
      rw [if_pos ⟨j1, by omega, by omega⟩]
      by_cases q : 11 < j - p
      · rw [if_neg (by omega), if_neg (by omega), if_pos q]
      · rw [if_pos (by omega), if_pos (by omega), if_neg q])
    (fun j a j0 j1 ha hp => by
      subst ha
      refine ⟨_, ?_, rfl⟩
      simp (disch := omega) only [fX9_next_l102, g9_7 rm.1, nkW_7, some_bind, m_byt rm D, iI_0, ib]
      rw [if_neg (by omega)])
    (fun a ha => by
      subst ha
      refine ⟨_, ?_, rfl⟩
      simp (disch := omega) only [fX9_next_l102, g9_7 rm.1, nkW_7, some_bind, m_byt rm D, iI_0, ib]
      rw [if_neg (by omega)]) p1 (N := FU) (by have := FU_big (n := L) (by omega); omega) (a := (iI 0, St E (nkW T L B p b c d 0))) (by rw [show p - p = 0 by omega]; rfl)
  rw [f1]
  unfold leT
  obtain ⟨s1, s2, -⟩ := lf_spec (fun z => ¬ (97 ≤ T z ∧ T z ≤ 122)) (L - p).toNat p
  by_cases q : lf (fun z => ¬ (97 ≤ T z ∧ T z ≤ 122)) (L - p).toNat p < L
  · rw [f2 q]
  · rw [f3 q, show lf (fun z => ¬ (97 ≤ T z ∧ T z ≤ 122)) (L - p).toNat p = L by omega]
theorem m_next {p : Int} (rm : mKd E mo) (D : TB9 T L) (p0 : 0 ≤ p) (p1 : p ≤ L) : fX9_next (E.1 + mo) (St E (nkW T L B p b c d w)) = some (St E (nkW T L B (nxT T L (skT T L p)) (kdT T L (skT T L p)) (skT T L p) (vl9 T L (skT T L p)) (wd9 T L (skT T L p)))) := by
  have sb := skT_b (T := T) p1
  simp only [fX9_next, c9 rm.1, some_bind, m_skip rm D p0 p1]
  generalize skT T L p = q at sb ⊢
  unfold vl9 wd9 nxT kdT
  have D' := D
  obtain ⟨d3, d4⟩ := D'
  by_cases cl : q < L
  · have bb := d4 q (by omega) cl
    simp (disch := omega) only [fX9_next_b294, g9_7 rm.1, nkW_7, some_bind, p9_9 rm.1, nkW_w9, p9_10 rm.1, nkW_w10, jI_0, p9_11 rm.1, nkW_w11, g9_6 rm.1, nkW_6, iI_eq, m_byt rm D, iI_0, ib, g9_5 rm.1, aB_ok (mk5 rm), nkW_t, p9_8 rm.1, nkW_w8, m_lets rm D (show 0 ≤ q by omega) sb.2, m_digs rm D (show 0 ≤ q by omega) sb.2, iI_add, p9_7 rm.1, nkW_w7]
    rw [if_pos cl, if_pos cl, if_neg (by omega)]
    by_cases c1 : 97 ≤ T q ∧ T q ≤ 122
    · rw [if_pos ⟨cl, c1⟩, if_pos c1, if_pos c1, if_neg (by omega), if_pos rfl]
    · rw [if_neg (fun y => c1 y.2), if_neg c1, if_neg c1]
      by_cases c2 : 48 ≤ T q ∧ T q ≤ 57
      · rw [if_pos ⟨cl, c2⟩, if_pos c2, if_pos c2, if_pos rfl, if_neg (by omega)]
      · rw [if_neg (fun y => c2 y.2), if_neg c2, if_neg c2]
        by_cases c3 : T q = 59
        · rw [if_pos c3, if_pos c3, if_neg (by omega), if_neg (by omega)]
        · rw [if_neg c3, if_neg c3, if_neg (by omega), if_neg (by omega)]
  · simp (disch := omega) only [g9_7 rm.1, nkW_7, some_bind, p9_9 rm.1, nkW_w9, p9_10 rm.1, nkW_w10, jI_0, p9_11 rm.1, nkW_w11, g9_6 rm.1, nkW_6, iI_eq, p9_8 rm.1, nkW_w8]
    rw [if_neg cl, if_neg cl, if_pos (by omega), if_neg (by omega), if_neg (by omega)]
end NW
