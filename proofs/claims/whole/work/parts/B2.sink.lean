/-! the class's Roamer: all sink, the ground first -/
def jnR (k : Int) (x y : Int64) : Int64 := if k = 4 then x + y else x ||| y
section SKA
variable {E : Ev} {B : Bk} {d n : Nat} {g : Int}
theorem s4_sk1 {x1 x2 : Int32} (kd : KD E d 4 11) (ke : KD E (d + 1) 21 16000) (hn : B.1 d 9 = (n : Int)) (n0 : 1 ≤ n ∧ n ≤ 32) (h0 : 0 ≤ B.1 d 10 ∧ B.1 d 10 ≤ 4) (g0 : 0 ≤ g ∧ g + 2 * (n : Int) ≤ 16000) : ∃ C, iter (fX4_sinkAll_l11 (E.1 + d) x1 x2 (iI g)) FU (iI 0, St E B) = some (St E C) ∧ roF d B C ∧ ∀ z, C.2.2.2.2 (d + 1) z = if g ≤ z ∧ z < g + (n : Int) then jnR (B.1 d 10) (B.2.2.2.2 (d + 1) z) (B.2.2.2.2 (d + 1) (z + (n : Int))) else B.2.2.2.2 (d + 1) z := by
  obtain ⟨r, h1, C, rfl, h2, h3⟩ := iter_acc (F := fX4_sinkAll_l11 (E.1 + d) x1 x2 (iI g)) (fun j a => ∃ C, a = (iI (j : Int), St E C) ∧ roF d B C ∧ ∀ z, C.2.2.2.2 (d + 1) z = if g ≤ z ∧ z < g + (j : Int) then jnR (B.1 d 10) (B.2.2.2.2 (d + 1) z) (B.2.2.2.2 (d + 1) (z + (n : Int))) else B.2.2.2.2 (d + 1) z) n (fun r => ∃ C, r = St E C ∧ roF d B C ∧ ∀ z, C.2.2.2.2 (d + 1) z = if g ≤ z ∧ z < g + (n : Int) then jnR (B.1 d 10) (B.2.2.2.2 (d + 1) z) (B.2.2.2.2 (d + 1) (z + (n : Int))) else B.2.2.2.2 (d + 1) z)
    (fun j a hj ha => by
      obtain ⟨C, rfl, h2, h3⟩ := ha
      have e9 : C.1 d 9 = (n : Int) := by rw [h2.1]; exact hn
      have e10 : C.1 d 10 = B.1 d 10 := by rw [h2.1]
      have r1 : C.2.2.2.2 (d + 1) (g + (j : Int)) = B.2.2.2.2 (d + 1) (g + (j : Int)) := by rw [h3, if_neg (by omega)]
      have r2 : C.2.2.2.2 (d + 1) (g + (n : Int) + (j : Int)) = B.2.2.2.2 (d + 1) (g + (n : Int) + (j : Int)) := by rw [h3, if_neg (by omega)]
      refine ⟨(iI ((j + 1 : Nat) : Int), St E (wJ C (d + 1) (g + (j : Int)) (jnR (B.1 d 10) (B.2.2.2.2 (d + 1) (g + (j : Int))) (B.2.2.2.2 (d + 1) (g + (n : Int) + (j : Int)))))), ?_, _, rfl, roF_tr h2 roF_J, fun z => ?_⟩
      · unfold fX4_sinkAll_l11 jnR
        dsimp only
        rw [g4_9 kd, some_bind, e9, if_neg (by rw [iI_le (by omega) (by omega) (by omega) (by omega)]; omega), g4_0 kd, some_bind, some_bind, iI_add, aL_ok ke (by omega) (by omega) (by omega), some_bind, some_bind, some_bind, iI_add, iI_add, aL_ok ke (by omega) (by omega) (by omega), some_bind, s4_joined kd (by rw [e10]; exact h0), some_bind]
        dsimp only
        rw [sL_ok ke (by omega) (by omega) (by omega), some_bind, iI_add, e10, r1, r2]
        rfl
      · rw [wJ_5]
        by_cases q : z = g + (j : Int)
        · rw [if_pos ⟨rfl, q⟩, if_pos (by omega), q, show g + (j : Int) + (n : Int) = g + (n : Int) + (j : Int) by omega]
        · rw [if_neg (fun w => q w.2), h3 z]
          by_cases c : g ≤ z ∧ z < g + (j : Int)
          · rw [if_pos c, if_pos (by omega)]
          · rw [if_neg c, if_neg (by omega)])
    (fun a ha => by
      obtain ⟨C, rfl, h2, h3⟩ := ha
      have e9 : C.1 d 9 = (n : Int) := by rw [h2.1]; exact hn
      refine ⟨St E C, ?_, C, rfl, h2, h3⟩
      unfold fX4_sinkAll_l11
      dsimp only
      rw [g4_9 kd, some_bind, e9, if_pos (by rw [iI_le (by omega) (by omega) (by omega) (by omega)]; omega)]) (N := FU) (by show n < 1000000; omega) (a := (iI 0, St E B)) ⟨B, rfl, roF_rfl, fun z => by rw [if_neg (by omega)]⟩
  exact ⟨C, h1, h2, h3⟩
end SKA
