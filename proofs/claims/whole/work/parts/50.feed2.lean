/-! feed: bytes are laid on the tapes -/
def bt (x : Int32) (j : Int) : Int := (isr x (iI (24 - 8 * j))).toInt8.toInt
/-- four bytes of a number behind what stands: the row d, its length in field f of o -/
def puF (o d f : Nat) (x : Int32) : Bk → Nat → Bk := fun B => fo (fun j C => wI (wA C d (C.1 o f) (bt x j)) o f (C.1 o f + 1)) B
theorem i2b_bt {x : Int32} {j : Int} : i2b (isr x (iI (24 - 8 * j))) = iI (bt x j) := by
  unfold i2b bt
  rw [← Int32.toInt_inj, Int8.toInt_toInt32, iI_toInt]
  · have := Int8.le_toInt (isr x (iI (24 - 8 * j))).toInt8
    have e : (-2 : Int) ^ 7 = -128 := by decide
    omega
  · have := Int8.toInt_lt (isr x (iI (24 - 8 * j))).toInt8
    omega
theorem i2b_2 {x : Int32} {j : Int} : i2b (i2b (isr x (iI (24 - 8 * j)))) = iI (bt x j) := by
  rw [← i2b_bt]
  unfold i2b
  simp
theorem bt_b {x : Int32} {j : Int} : -128 ≤ bt x j ∧ bt x j ≤ 127 := by
  unfold bt
  have h1 := Int8.le_toInt (isr x (iI (24 - 8 * j))).toInt8
  have h2 := Int8.toInt_lt (isr x (iI (24 - 8 * j))).toInt8
  have e : (-2 : Int) ^ 7 = -128 := by decide
  constructor <;> omega
section FE
variable {E : Ev} {B : Bk}
theorem puF_n {o d f : Nat} {x : Int32} : ∀ k : Nat, (puF o d f x B k).1 o f = B.1 o f + k := by
  intro k
  induction k with
  | zero => show B.1 o f = B.1 o f + (0 : Nat); omega
  | succ k ih =>
    have e : puF o d f x B (k + 1) = wI (wA (puF o d f x B k) d ((puF o d f x B k).1 o f) (bt x k)) o f ((puF o d f x B k).1 o f + 1) := rfl
    rw [e, wI_1, if_pos ⟨rfl, rfl⟩, ih]
    omega
theorem s8_putBytes {x : Int32} (rc : KD E co 8 13) (rt : KD E (co + 1) 22 1600) (h0 : 0 ≤ B.1 co 10) (h1 : B.1 co 10 + 4 ≤ 1600) : fX8_putBytes (E.1 + co) x (St E B) = some (St E (puF co (co + 1) 10 x B 4)) := by
  have lp : iter (fX8_putBytes_l3 (E.1 + co) x) FU (iI (24 - 8 * 0), St E B) = some (St E (puF co (co + 1) 10 x B 4)) := by
    refine iter_fo (fun j C => (iI (24 - 8 * j), St E C)) (fun j C => wI (wA C (co + 1) (C.1 co 10) (bt x j)) co 10 (C.1 co 10 + 1)) B 4 _ (fun j C => C.1 co 10 = B.1 co 10 + j) (by show B.1 co 10 = B.1 co 10 + (0 : Nat); omega) (fun j C hj hC => ?_) (fun j C hj hC => ?_) ?_ (N := FU) (by have := FU_big (n := 4) (by omega); omega)
    · show (wI (wA C (co + 1) (C.1 co 10) (bt x j)) co 10 (C.1 co 10 + 1)).1 co 10 = _
      rw [wI_1, if_pos ⟨rfl, rfl⟩, hC]
      omega
    · have hb := i2b_2 (x := x) (j := j)
      have e10 : (wA C (co + 1) (C.1 co 10) (bt x j)).1 co 10 = C.1 co 10 := rfl
      simp (disch := omega) only [fX8_putBytes_l3, iI_0, iI_lt, g8_0 rc, g8_10 rc, some_bind, sB_ok rt (z := C.1 co 10) (by omega) (by omega) (by omega) hb, e10, p8_10 rc, iI_add]
      rw [if_neg (by omega), show 24 - 8 * (j : Int) + -8 = 24 - 8 * ((j : Int) + 1) by omega]
    · simp (disch := omega) only [fX8_putBytes_l3, iI_0, iI_lt]
      rw [if_pos (by omega)]
      rfl
  simp only [fX8_putBytes, c8 rc, some_bind]
  rw [show iI 24 = iI (24 - 8 * 0) from rfl, lp]
  rfl
theorem m_four {x : Int32} (rm : mKd E mo) (h0 : 0 ≤ B.1 mo 6) (h1 : B.1 mo 6 + 4 ≤ 1600) : fX9_four (E.1 + mo) x (St E B) = some (St E (puF mo (mo + 5) 6 x B 4)) := by
  have lp : iter (fX9_four_l3 (E.1 + mo) x) FU (iI (24 - 8 * 0), St E B) = some (St E (puF mo (mo + 5) 6 x B 4)) := by
    refine iter_fo (fun j C => (iI (24 - 8 * j), St E C)) (fun j C => wI (wA C (mo + 5) (C.1 mo 6) (bt x j)) mo 6 (C.1 mo 6 + 1)) B 4 _ (fun j C => C.1 mo 6 = B.1 mo 6 + j) (by show B.1 mo 6 = B.1 mo 6 + (0 : Nat); omega) (fun j C hj hC => ?_) (fun j C hj hC => ?_) ?_ (N := FU) (by have := FU_big (n := 4) (by omega); omega)
    · show (wI (wA C (mo + 5) (C.1 mo 6) (bt x j)) mo 6 (C.1 mo 6 + 1)).1 mo 6 = _
      rw [wI_1, if_pos ⟨rfl, rfl⟩, hC]
      omega
    · have hb := i2b_2 (x := x) (j := j)
      have e10 : (wA C (mo + 5) (C.1 mo 6) (bt x j)).1 mo 6 = C.1 mo 6 := rfl
      simp (disch := omega) only [fX9_four_l3, iI_0, iI_lt, g9_5 rm.1, g9_6 rm.1, some_bind, sB_ok (mk5 rm) (z := C.1 mo 6) (by omega) (by omega) (by omega) hb, e10, p9_6 rm.1, iI_add]
      rw [if_neg (by omega), show 24 - 8 * (j : Int) + -8 = 24 - 8 * ((j : Int) + 1) by omega]
    · simp (disch := omega) only [fX9_four_l3, iI_0, iI_lt]
      rw [if_pos (by omega)]
      rfl
  simp only [fX9_four, c9 rm.1, some_bind]
  rw [show iI 24 = iI (24 - 8 * 0) from rfl, lp]
  rfl
end FE
