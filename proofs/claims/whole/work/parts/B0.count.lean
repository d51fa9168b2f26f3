/-! the class's Roamer: an hour that counts -/
/-- the bit of tag t behind the moves down to tag lo -/
def cnV (o : Nat → Bool) (m : Bool) (n lo t : Nat) : Bool := if m = false ∨ t < lo then o t else if t = lo then (if lo + 1 = n then o t else false) else if t + 1 = n then (o t || o (t - 1)) else o (t - 1)
theorem cnV_0 {o : Nat → Bool} {m : Bool} {n t : Nat} (ht : t < n) : cnV o m n (n - 1) t = o t := by
  unfold cnV
  by_cases q : m = false ∨ t < n - 1
  · rw [if_pos q]
  · rw [if_neg q, if_pos (by omega), if_pos (by omega)]
theorem cnV_x {o : Nat → Bool} {m : Bool} {n lo : Nat} (h : lo + 1 < n) : cnV o m n lo lo = (cnV o m n (lo + 1) lo && !m) := by
  unfold cnV
  cases m
  · simp
  · simp
    omega
theorem cnV_y {o : Nat → Bool} {m : Bool} {n lo : Nat} (h : lo + 1 < n) : cnV o m n lo (lo + 1) = (cnV o m n (lo + 1) (lo + 1) || (cnV o m n (lo + 1) lo && m)) := by
  unfold cnV
  cases m
  · simp
  · by_cases q : lo + 1 + 1 = n
    · simp [q]
      intro w
      omega
    · simp [q]
      intro w
      omega
theorem cnV_o {o : Nat → Bool} {m : Bool} {n lo t : Nat} (h1 : t ≠ lo) (h2 : t ≠ lo + 1) : cnV o m n lo t = cnV o m n (lo + 1) t := by
  unfold cnV
  by_cases q : m = false ∨ t < lo
  · rw [if_pos q, if_pos (q.imp (fun w => w) (fun w => by omega))]
  · have q' : ¬ (m = false ∨ t < lo + 1) := fun w => q (w.imp (fun w => w) (fun w => by omega))
    rw [if_neg q, if_neg h1, if_neg q', if_neg h2]
section CNH
variable {E : Ev} {B : Bk} {d n : Nat} {a : Int} {m : Int64}
theorem s4_countHour (kd : KD E d 4 11) (ke : KD E (d + 1) 21 16000) (hn : B.1 d 9 = (n : Int)) (n0 : 1 ≤ n ∧ n ≤ 32) (a0 : 0 ≤ a ∧ a + (n : Int) ≤ 16000) : ∃ C, fX4_countHour (E.1 + d) (iI a) m (St E B) = some (St E C) ∧ roF d B C ∧ (∀ z, ¬ (a ≤ z ∧ z < a + (n : Int)) → C.2.2.2.2 (d + 1) z = B.2.2.2.2 (d + 1) z) ∧ ∀ t : Nat, t < n → ∀ i : Nat, i < 64 → tb (C.2.2.2.2 (d + 1) (a + (t : Int))) i = cnV (fun t => tb (B.2.2.2.2 (d + 1) (a + (t : Int))) i) (tb m i) n 0 t := by
  obtain ⟨r, h1, C, rfl, h2, h3, h4⟩ := iter_acc (F := fX4_countHour_l8 (E.1 + d) (iI a) m) (fun j q => ∃ C, q = (iI ((n : Int) - 2 - (j : Int)), St E C) ∧ roF d B C ∧ (∀ z, ¬ (a ≤ z ∧ z < a + (n : Int)) → C.2.2.2.2 (d + 1) z = B.2.2.2.2 (d + 1) z) ∧ ∀ t : Nat, t < n → ∀ i : Nat, i < 64 → tb (C.2.2.2.2 (d + 1) (a + (t : Int))) i = cnV (fun t => tb (B.2.2.2.2 (d + 1) (a + (t : Int))) i) (tb m i) n (n - 1 - j) t) (n - 1) (fun r => ∃ C, r = St E C ∧ roF d B C ∧ (∀ z, ¬ (a ≤ z ∧ z < a + (n : Int)) → C.2.2.2.2 (d + 1) z = B.2.2.2.2 (d + 1) z) ∧ ∀ t : Nat, t < n → ∀ i : Nat, i < 64 → tb (C.2.2.2.2 (d + 1) (a + (t : Int))) i = cnV (fun t => tb (B.2.2.2.2 (d + 1) (a + (t : Int))) i) (tb m i) n 0 t)
    (fun j q hj ha => by
      obtain ⟨C, rfl, h2, h3, h4⟩ := ha
      obtain ⟨lo, hl⟩ : ∃ lo : Nat, lo + 1 + j = n - 1 := ⟨n - 2 - j, by omega⟩
      rw [show n - 1 - j = lo + 1 by omega] at h4
      obtain ⟨C', g1, g2, g3, g4⟩ := s4_moveTag (E := E) (B := C) (d := d) (x := a + (lo : Int)) (y := a + (lo : Int) + 1) (m := m) kd ke (by omega) (by omega) (by omega)
      refine ⟨(iI ((n : Int) - 2 - ((j + 1 : Nat) : Int)), St E C'), ?_, C', rfl, roF_tr h2 g2, fun z hz => ?_, fun t ht i hi => ?_⟩
      · have z0 : (0 : Int32) = iI 0 := rfl
        rw [show (n : Int) - 2 - (j : Int) = (lo : Int) by omega, show (n : Int) - 2 - ((j + 1 : Nat) : Int) = (lo : Int) + -1 by omega]
        unfold fX4_countHour_l8
        dsimp only
        rw [z0, if_neg (by rw [iI_lt (by omega) (by omega) (by omega) (by omega)]; omega), iI_add, iI_add, g1, some_bind, iI_add]
      · rw [g3 z (by omega) (by omega)]
        exact h3 z hz
      · rw [show n - 1 - (j + 1) = lo by omega]
        have hx := h4 lo (by omega) i hi
        have hy := h4 (lo + 1) (by omega) i hi
        rw [show a + ((lo + 1 : Nat) : Int) = a + (lo : Int) + 1 by omega] at hy
        by_cases q1 : t = lo
        · rw [q1, (g4 i hi).1, hx, cnV_x (by omega)]
        · by_cases q2 : t = lo + 1
          · rw [q2, show a + ((lo + 1 : Nat) : Int) = a + (lo : Int) + 1 by omega, (g4 i hi).2, hx, hy, cnV_y (by omega)]
          · rw [g3 _ (by omega) (by omega), h4 t ht i hi, cnV_o q1 q2])
    (fun q ha => by
      obtain ⟨C, rfl, h2, h3, h4⟩ := ha
      rw [show n - 1 - (n - 1) = 0 by omega] at h4
      refine ⟨St E C, ?_, C, rfl, h2, h3, h4⟩
      have z0 : (0 : Int32) = iI 0 := rfl
      unfold fX4_countHour_l8
      dsimp only
      rw [z0, if_pos (by rw [iI_lt (by omega) (by omega) (by omega) (by omega)]; omega)]) (N := FU) (by show n - 1 < 1000000; omega) (a := (iI ((n : Int) - 2), St E B)) ⟨B, by rw [show (n : Int) - 2 - ((0 : Nat) : Int) = (n : Int) - 2 by omega], roF_rfl, fun _ _ => rfl, fun t ht i hi => (cnV_0 (o := fun t => tb (B.2.2.2.2 (d + 1) (a + (t : Int))) i) ht).symm⟩
  refine ⟨C, ?_, h2, h3, h4⟩
  unfold fX4_countHour
  rw [c4 kd, some_bind, g4_9 kd, some_bind, hn]
  unfold lt_
  dsimp only
  rw [iI_sub, h1, some_bind]
end CNH
