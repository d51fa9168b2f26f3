/-! the class's Roamer: all sink, a layer -/
section SKB
variable {E : Ev} {B : Bk} {d p n : Nat} {g l ly : Int}
theorem s4_sk2 {x1 x2 : Int32} (kd : KD E d 4 11) (ke : KD E (d + 1) 21 16000) (kp : KD E p 6 19) (hv : B.2.2.1 d 4 = some p) (hy : B.1 p 3 = ly) (y0 : 2 ≤ ly ∧ ly ≤ 5) (hn : B.1 d 9 = (n : Int)) (n0 : 1 ≤ n ∧ n ≤ 32) (l0 : 0 ≤ l ∧ l < ly) (g0 : 0 ≤ g ∧ g + (n : Int) ≤ 16000) (g1 : l + 1 < ly → g + 2 * (n : Int) ≤ 16000) : ∃ C, iter (fX4_sinkAll_l90 (E.1 + d) x1 x2 (iI l) (iI g)) FU (iI 0, St E B) = some (St E C) ∧ roF d B C ∧ ∀ z, C.2.2.2.2 (d + 1) z = if g ≤ z ∧ z < g + (n : Int) then (if l + 1 < ly then B.2.2.2.2 (d + 1) (z + (n : Int)) else 0) else B.2.2.2.2 (d + 1) z := by
  obtain ⟨r, h1, C, rfl, h2, h3⟩ := iter_acc (F := fX4_sinkAll_l90 (E.1 + d) x1 x2 (iI l) (iI g)) (fun j a => ∃ C, a = (iI (j : Int), St E C) ∧ roF d B C ∧ ∀ z, C.2.2.2.2 (d + 1) z = if g ≤ z ∧ z < g + (j : Int) then (if l + 1 < ly then B.2.2.2.2 (d + 1) (z + (n : Int)) else 0) else B.2.2.2.2 (d + 1) z) n (fun r => ∃ C, r = St E C ∧ roF d B C ∧ ∀ z, C.2.2.2.2 (d + 1) z = if g ≤ z ∧ z < g + (n : Int) then (if l + 1 < ly then B.2.2.2.2 (d + 1) (z + (n : Int)) else 0) else B.2.2.2.2 (d + 1) z)
    (fun j a hj ha => by
      obtain ⟨C, rfl, h2, h3⟩ := ha
      have e9 : C.1 d 9 = (n : Int) := by rw [h2.1]; exact hn
      have e3 : C.1 p 3 = ly := by rw [h2.1]; exact hy
      have ev : C.2.2.1 d 4 = some p := by rw [h2.2.2.1]; exact hv
      have r2 : C.2.2.2.2 (d + 1) (g + (n : Int) + (j : Int)) = B.2.2.2.2 (d + 1) (g + (n : Int) + (j : Int)) := by rw [h3, if_neg (by omega)]
      refine ⟨(iI ((j + 1 : Nat) : Int), St E (wJ C (d + 1) (g + (j : Int)) (if l + 1 < ly then B.2.2.2.2 (d + 1) (g + (n : Int) + (j : Int)) else 0))), ?_, _, rfl, roF_tr h2 roF_J, fun z => ?_⟩
      · unfold fX4_sinkAll_l90 fX4_sinkAll_b141
        dsimp only
        rw [g4_9 kd, some_bind, e9, if_neg (by rw [iI_le (by omega) (by omega) (by omega) (by omega)]; omega), g4_0 kd, some_bind, g4_4 kd ev, some_bind, g6_3 kp, some_bind, e3, iI_add, iI_add]
        by_cases c : l + 1 < ly
        · have := g1 c
          rw [if_neg (by rw [iI_le (by omega) (by omega) (by omega) (by omega)]; omega), some_bind, some_bind, iI_add, iI_add, aL_ok ke (by omega) (by omega) (by omega), some_bind, sL_ok ke (by omega) (by omega) (by omega), some_bind, iI_add, r2, if_pos c]
          rfl
        · rw [if_pos (by rw [iI_le (by omega) (by omega) (by omega) (by omega)]; omega), sL_ok ke (by omega) (by omega) (by omega), some_bind, iI_add, if_neg c]
          rfl
      · rw [wJ_5]
        by_cases q : z = g + (j : Int)
        · rw [if_pos ⟨rfl, q⟩, if_pos (show g ≤ z ∧ z < g + ((j + 1 : Nat) : Int) by omega), q, show g + (j : Int) + (n : Int) = g + (n : Int) + (j : Int) by omega]
        · rw [if_neg (fun w => q w.2), h3 z]
          by_cases c : g ≤ z ∧ z < g + (j : Int)
          · rw [if_pos c, if_pos (show g ≤ z ∧ z < g + ((j + 1 : Nat) : Int) by omega)]
          · rw [if_neg c, if_neg (show ¬ (g ≤ z ∧ z < g + ((j + 1 : Nat) : Int)) by omega)])
    (fun a ha => by
      obtain ⟨C, rfl, h2, h3⟩ := ha
      have e9 : C.1 d 9 = (n : Int) := by rw [h2.1]; exact hn
      refine ⟨St E C, ?_, C, rfl, h2, h3⟩
      unfold fX4_sinkAll_l90
      dsimp only
      rw [g4_9 kd, some_bind, e9, if_pos (by rw [iI_le (by omega) (by omega) (by omega) (by omega)]; omega)]) (N := FU) (by show n < 1000000; omega) (a := (iI 0, St E B)) ⟨B, rfl, roF_rfl, fun z => by rw [if_neg (show ¬ (g ≤ z ∧ z < g + ((0 : Nat) : Int)) by omega)]⟩
  exact ⟨C, h1, h2, h3⟩
end SKB
