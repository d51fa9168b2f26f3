/-! feed, end: the answers -/
section FG
variable {E : Ev} {B : Bk}
theorem puF_1 {o d f : Nat} {x : Int32} {e j : Nat} : ∀ k : Nat, (puF o d f x B k).1 e j = if e = o ∧ j = f then B.1 o f + k else B.1 e j := by
  intro k
  induction k with
  | zero =>
    show B.1 e j = _
    by_cases q : e = o ∧ j = f
    · rw [if_pos q, q.1, q.2]
      show B.1 o f = B.1 o f + (0 : Nat)
      omega
    · rw [if_neg q]
  | succ k ih =>
    have e1 : puF o d f x B (k + 1) = wI (wA (puF o d f x B k) d ((puF o d f x B k).1 o f) (bt x k)) o f ((puF o d f x B k).1 o f + 1) := rfl
    rw [e1, wI_1]
    by_cases q : e = o ∧ j = f
    · rw [if_pos q, if_pos q, puF_n]
      omega
    · rw [if_neg q, if_neg q]
      show (puF o d f x B k).1 e j = _
      rw [ih, if_neg q]
theorem puF_r {o d f : Nat} {x : Int32} : ∀ k : Nat, (puF o d f x B k).2.1 = B.2.1 ∧ (puF o d f x B k).2.2.1 = B.2.2.1 ∧ (puF o d f x B k).2.2.2.2 = B.2.2.2.2 := by
  intro k
  induction k with
  | zero => exact ⟨rfl, rfl, rfl⟩
  | succ k ih => exact ih
theorem puF_4 {o d f : Nat} {x : Int32} {e : Nat} {z : Int} : ∀ k : Nat, (puF o d f x B k).2.2.2.1 e z = if e = d ∧ B.1 o f ≤ z ∧ z < B.1 o f + k then bt x (z - B.1 o f) else B.2.2.2.1 e z := by
  intro k
  induction k with
  | zero =>
    rw [if_neg (by omega)]
    rfl
  | succ k ih =>
    have e1 : puF o d f x B (k + 1) = wI (wA (puF o d f x B k) d ((puF o d f x B k).1 o f) (bt x k)) o f ((puF o d f x B k).1 o f + 1) := rfl
    rw [e1, wI_2, wA_4, puF_n]
    by_cases q : e = d ∧ z = B.1 o f + k
    · rw [if_pos q, if_pos ⟨q.1, by omega, by omega⟩, q.2, show B.1 o f + (k : Int) - B.1 o f = k by omega]
    · rw [if_neg q, ih]
      by_cases q2 : e = d ∧ B.1 o f ≤ z ∧ z < B.1 o f + k
      · rw [if_pos q2, if_pos ⟨q2.1, q2.2.1, by omega⟩]
      · rw [if_neg q2, if_neg (fun w => q2 ⟨w.1, w.2.1, by have := w.2.2; have h3 : ¬ z = B.1 o f + k := fun h => q ⟨w.1, h⟩; omega⟩)]
def fdF (o d f : Nat) (a b c g h : Int32) (B : Bk) : Bk := puF o d f h (puF o d f g (puF o d f c (puF o d f b (puF o d f a B 4) 4) 4) 4) 4
def bb (a b c g h : Int32) (i : Int) : Int := if i < 4 then bt a i else if i < 8 then bt b (i - 4) else if i < 12 then bt c (i - 8) else if i < 16 then bt g (i - 12) else bt h (i - 16)
theorem fdF_1 {o d f : Nat} {a b c g h : Int32} {e j : Nat} : (fdF o d f a b c g h B).1 e j = if e = o ∧ j = f then B.1 o f + 20 else B.1 e j := by
  unfold fdF
  simp only [puF_1]
  by_cases q : e = o ∧ j = f
  · simp only [if_pos q, and_self, if_true]
    omega
  · simp only [if_neg q]
theorem fdF_r {o d f : Nat} {a b c g h : Int32} : (fdF o d f a b c g h B).2.1 = B.2.1 ∧ (fdF o d f a b c g h B).2.2.1 = B.2.2.1 ∧ (fdF o d f a b c g h B).2.2.2.2 = B.2.2.2.2 := by
  unfold fdF
  simp only [puF_r, and_self]
theorem fdF_4 {o d f : Nat} {a b c g h : Int32} {e : Nat} {z : Int} : (fdF o d f a b c g h B).2.2.2.1 e z = if e = d ∧ B.1 o f ≤ z ∧ z < B.1 o f + 20 then bb a b c g h (z - B.1 o f) else B.2.2.2.1 e z := by
  unfold fdF
  simp only [puF_4, puF_n]
  by_cases he : e = d
  · by_cases hz : B.1 o f ≤ z ∧ z < B.1 o f + 20
    · rw [if_pos (show e = d ∧ B.1 o f ≤ z ∧ z < B.1 o f + 20 from ⟨he, hz⟩)]
      unfold bb
      by_cases c4 : z - B.1 o f < 4
      · rw [if_neg (by omega), if_neg (by omega), if_neg (by omega), if_neg (by omega), if_pos (by omega), if_pos c4]
      · by_cases c8 : z - B.1 o f < 8
        · rw [if_neg (by omega), if_neg (by omega), if_neg (by omega), if_pos (by omega), if_neg c4, if_pos c8]
          congr 1
          omega
        · by_cases c12 : z - B.1 o f < 12
          · rw [if_neg (by omega), if_neg (by omega), if_pos (by omega), if_neg c4, if_neg c8, if_pos c12]
            congr 1
            omega
          · by_cases c16 : z - B.1 o f < 16
            · rw [if_neg (by omega), if_pos (by omega), if_neg c4, if_neg c8, if_neg c12, if_pos c16]
              congr 1
              omega
            · rw [if_pos (by omega), if_neg c4, if_neg c8, if_neg c12, if_neg c16]
              congr 1
              omega
    · rw [if_neg (by omega), if_neg (by omega), if_neg (by omega), if_neg (by omega), if_neg (by omega), if_neg (by omega)]
  · rw [if_neg (fun q => he q.1), if_neg (fun q => he q.1), if_neg (fun q => he q.1), if_neg (fun q => he q.1), if_neg (fun q => he q.1), if_neg (fun q => he q.1)]
theorem bb_b {a b c g h : Int32} {i : Int} : -128 ≤ bb a b c g h i ∧ bb a b c g h i ≤ 127 := by
  unfold bb
  split
  · exact bt_b
  · split
    · exact bt_b
    · split
      · exact bt_b
      · split <;> exact bt_b
end FG
