/-! the reference copies a block of a row -/
theorem cpA_4 {B : Bk} {a d e : Nat} {sp dp n z : Int} : (cpA B a sp d dp n).2.2.2.1 e z = if e = d ∧ dp ≤ z ∧ z < dp + n then B.2.2.2.1 a (sp + (z - dp)) else B.2.2.2.1 e z := rfl
theorem cpA_0 {B : Bk} {a d : Nat} {sp dp : Int} : cpA B a sp d dp 0 = B := by
  unfold cpA
  refine Prod.ext rfl (Prod.ext rfl (Prod.ext rfl (Prod.ext ?_ rfl)))
  funext e z
  show (if e = d ∧ dp ≤ z ∧ z < dp + 0 then _ else _) = _
  rw [if_neg (by omega)]
theorem cpA_s {B : Bk} {a d : Nat} {sp dp j : Int} (h : 0 ≤ j) : wA (cpA B a sp d dp j) d (dp + j) (B.2.2.2.1 a (sp + j)) = cpA B a sp d dp (j + 1) := by
  unfold cpA wA upA
  refine Prod.ext rfl (Prod.ext rfl (Prod.ext rfl (Prod.ext ?_ rfl)))
  funext e z
  dsimp only
  by_cases he : e = d
  · by_cases hz : z = dp + j
    · rw [if_pos ⟨he, hz⟩, if_pos ⟨he, by omega, by omega⟩, hz, show dp + j - dp = j by omega]
    · rw [if_neg (fun q => hz q.2)]
      by_cases hz2 : dp ≤ z ∧ z < dp + j
      · rw [if_pos ⟨he, hz2⟩, if_pos ⟨he, hz2.1, by omega⟩]
      · rw [if_neg (fun q => hz2 q.2), if_neg (fun q => hz2 ⟨q.2.1, by omega⟩)]
  · rw [if_neg (fun q => he q.1), if_neg (fun q => he q.1), if_neg (fun q => he q.1)]
theorem m_copyRow {E : Ev} {B : Bk} {d L : Nat} {m a b : Int} (h : KD E d 20 L) (hL : L ≤ 100000) (m0 : 0 ≤ m) (m1 : m ≤ 1000) (a0 : 0 ≤ m * a) (a1 : m * a + m ≤ L) (b0 : 0 ≤ m * b) (b1 : m * b + m ≤ L) (hab : m * a + m ≤ m * b ∨ m * b + m ≤ m * a) : fX9_copyRow (E.1 + d) (iI m) (iI a) (iI b) (St E B) = some (St E (cpA B d (m * a) d (m * b) m)) := by
  have lp : iter (fX9_copyRow_l3 (E.1 + d) (iI m) (iI a) (iI b)) FU (iI 0, St E B) = some (St E (cpA B d (m * a) d (m * b) m)) := by
    have := iter_for (F := fX9_copyRow_l3 (E.1 + d) (iI m) (iI a) (iI b)) (S := fun j => (iI j, St E (cpA B d (m * a) d (m * b) j))) 0 m (St E (cpA B d (m * a) d (m * b) m)) (fun j j1 j2 => by
      have e : (cpA B d (m * a) d (m * b) j).2.2.2.1 d (m * a + j) = B.2.2.2.1 d (m * a + j) := by rw [cpA_4, if_neg (by omega)]
      simp (disch := omega) only [fX9_copyRow_l3, iI_le, iI_mul, iI_add, aI_ok h, sI_ok h, some_bind, e, cpA_s]
      rw [if_neg (by omega)]) (by
      simp (disch := omega) only [fX9_copyRow_l3, iI_le]
      rw [if_pos (by omega)]) m0 (N := FU) (by have := FU_big (n := m) (by omega); omega)
    rw [cpA_0] at this
    exact this
  simp only [fX9_copyRow, lp, some_bind]
