/-! the class's board: what is inside, what stays under a wind, a set carried -/
def brF (d : Nat) (B C : Bk) : Prop := C.1 = B.1 ∧ (∀ e j, ¬ (e = d ∧ j = 1) → C.2.1 e j = B.2.1 e j) ∧ C.2.2.1 = B.2.2.1 ∧ C.2.2.2.1 = B.2.2.2.1 ∧ ∀ e, e ≠ d + 1 → C.2.2.2.2 e = B.2.2.2.2 e
/-- inside and edges, for the columns below n -/
def brI (B : Bk) (d : Nat) (wd dp : Int) (n : Nat) : Prop := (∀ i : Nat, i < 64 → (tb (B.2.1 d 1) i = true ↔ i < n ∧ cOK wd dp (i : Int))) ∧ ∀ w : Int, 0 ≤ w → w < 5 → ∀ i : Nat, i < 64 → (tb (B.2.2.2.2 (d + 1) w) i = true ↔ i < n ∧ cOK wd dp (i : Int) ∧ crX wd dp (i : Int) w = (i : Int))
section BD
variable {E : Ev} {B : Bk} {d p : Nat} {wd dp : Int}
theorem brF_rfl : brF d B B := ⟨rfl, fun _ _ _ => rfl, rfl, rfl, fun _ _ => rfl⟩
theorem brF_tr {A C : Bk} (h : brF d A B) (g : brF d B C) : brF d A C := ⟨g.1.trans h.1, fun e j q => (g.2.1 e j q).trans (h.2.1 e j q), g.2.2.1.trans h.2.2.1, g.2.2.2.1.trans h.2.2.2.1, fun e q => (g.2.2.2.2 e q).trans (h.2.2.2.2 e q)⟩
theorem brF_J {z : Int} {x : Int64} : brF d B (wJ B (d + 1) z x) := by
  refine ⟨rfl, fun _ _ _ => rfl, rfl, rfl, fun e q => ?_⟩
  funext k
  rw [wJ_5, if_neg (fun w => q w.1)]
theorem brF_L {x : Int64} : brF d B (wL B d 1 x) := ⟨rfl, fun e j q => by rw [wL_2, if_neg q], rfl, rfl, fun _ _ => rfl⟩
theorem brF_VW {C : Bk} (h : brF d B C) (w : VW B p) : VW C p := by
  unfold VW at *
  rw [h.1]
  exact w
/-- all winds at a column that is inside -/
theorem b_winds {c : Nat} (kd : KD E d 0 2) (ke : KD E (d + 1) 21 5) (kp : VK E p) (hw : VW B p) (c0 : c < 64) : ∃ C, iter (fX0_fit_l70 (E.1 + d) (E.1 + p) (iI (c : Int)) (iI 1)) FU (iI 0, St E B) = some (St E C) ∧ brF d B C ∧ C.2.1 = B.2.1 ∧ ∀ w : Int, 0 ≤ w → w < 5 → ∀ i : Nat, i < 64 → (tb (C.2.2.2.2 (d + 1) w) i = true ↔ tb (B.2.2.2.2 (d + 1) w) i = true ∨ (i = c ∧ crX (B.1 p 1) (B.1 p 2) (c : Int) w = (c : Int))) := by
  have z1 : ¬ iI 1 = 0 := by decide
  obtain ⟨r, h1, C, rfl, h2, h3, h4⟩ := iter_acc (F := fX0_fit_l70 (E.1 + d) (E.1 + p) (iI (c : Int)) (iI 1)) (fun j a => ∃ C, a = (iI (j : Int), St E C) ∧ brF d B C ∧ C.2.1 = B.2.1 ∧ ∀ w : Int, 0 ≤ w → w < 5 → ∀ i : Nat, i < 64 → (tb (C.2.2.2.2 (d + 1) w) i = true ↔ tb (B.2.2.2.2 (d + 1) w) i = true ∨ (i = c ∧ w < (j : Int) ∧ crX (B.1 p 1) (B.1 p 2) (c : Int) w = (c : Int)))) 5 (fun r => ∃ C, r = St E C ∧ brF d B C ∧ C.2.1 = B.2.1 ∧ ∀ w : Int, 0 ≤ w → w < 5 → ∀ i : Nat, i < 64 → (tb (C.2.2.2.2 (d + 1) w) i = true ↔ tb (B.2.2.2.2 (d + 1) w) i = true ∨ (i = c ∧ w < 5 ∧ crX (B.1 p 1) (B.1 p 2) (c : Int) w = (c : Int))))
    (fun j a hj ha => by
      obtain ⟨C, rfl, h2, h3, h4⟩ := ha
      have hwC := brF_VW h2 hw
      have cr := s_carried (E := E) (B := C) (d := p) (c := (c : Int)) (w := (j : Int)) kp hwC (by omega) (by omega) (by omega) (by omega)
      rw [h2.1] at cr
      have cb : -2147483648 ≤ crX (B.1 p 1) (B.1 p 2) (c : Int) (j : Int) ∧ crX (B.1 p 1) (B.1 p 2) (c : Int) (j : Int) < 2147483648 := by
        obtain ⟨-, w1, w2, -⟩ := hw
        unfold crX
        dsimp only
        split <;> omega
      by_cases q : crX (B.1 p 1) (B.1 p 2) (c : Int) (j : Int) = (c : Int)
      · refine ⟨(iI ((j + 1 : Nat) : Int), St E (wJ C (d + 1) (j : Int) (C.2.2.2.2 (d + 1) (j : Int) ||| lsh 1 (iI (c : Int))))), ?_, _, rfl, brF_tr h2 brF_J, h3, fun w w0 w1 i hi => ?_⟩
        · unfold fX0_fit_l70
          dsimp only
          rw [if_neg (by rw [iI_le (by omega) (by omega) (by omega) (by omega)]; omega), if_neg z1, cr, some_bind]
          dsimp only
          rw [if_pos (by rw [q]), g0_0 kd, some_bind, aL_ok ke (by omega) (by omega) (by omega), some_bind]
          unfold fX8_bitOf
          rw [some_bind, sL_ok ke (by omega) (by omega) (by omega), some_bind]
          unfold fX0_fit_b105
          rw [iI_add]
          rfl
        · rw [wJ_5]
          by_cases e : w = (j : Int)
          · rw [if_pos ⟨rfl, e⟩, tb_or, Bool.or_eq_true, tb_one c0 hi, decide_eq_true_eq, ← e, h4 w w0 w1 i hi]
            constructor
            · rintro ((a1 | ⟨a1, a2, a3⟩) | a1)
              · exact Or.inl a1
              · exact Or.inr ⟨a1, by omega, a3⟩
              · exact Or.inr ⟨a1, by omega, by rw [e]; exact q⟩
            · rintro (a1 | ⟨a1, a2, a3⟩)
              · exact Or.inl (Or.inl a1)
              · exact Or.inr a1
          · rw [if_neg (fun y => e y.2), h4 w w0 w1 i hi]
            constructor
            · rintro (a1 | ⟨a1, a2, a3⟩)
              · exact Or.inl a1
              · exact Or.inr ⟨a1, by omega, a3⟩
            · rintro (a1 | ⟨a1, a2, a3⟩)
              · exact Or.inl a1
              · exact Or.inr ⟨a1, by omega, a3⟩
      · refine ⟨(iI ((j + 1 : Nat) : Int), St E C), ?_, C, rfl, h2, h3, fun w w0 w1 i hi => ?_⟩
        · unfold fX0_fit_l70
          dsimp only
          rw [if_neg (by rw [iI_le (by omega) (by omega) (by omega) (by omega)]; omega), if_neg z1, cr, some_bind]
          dsimp only
          rw [if_neg (fun w => q ((iI_eq cb.1 cb.2 (by omega) (by omega)).mp w))]
          unfold fX0_fit_b105
          rw [iI_add]
          rfl
        · rw [h4 w w0 w1 i hi]
          constructor
          · rintro (a1 | ⟨a1, a2, a3⟩)
            · exact Or.inl a1
            · exact Or.inr ⟨a1, by omega, a3⟩
          · rintro (a1 | ⟨a1, a2, a3⟩)
            · exact Or.inl a1
            · by_cases e : w = (j : Int)
              · exact absurd (e ▸ a3) q
              · exact Or.inr ⟨a1, by omega, a3⟩)
    (fun a ha => by
      obtain ⟨C, rfl, h2, h3, h4⟩ := ha
      refine ⟨St E C, ?_, C, rfl, h2, h3, h4⟩
      unfold fX0_fit_l70
      dsimp only
      rw [if_pos (by decide)]) (N := FU) (by show 5 < 1000000; omega) (a := (iI 0, St E B)) ⟨B, rfl, brF_rfl, rfl, fun w w0 w1 i hi => by
        constructor
        · exact Or.inl
        · rintro (a1 | ⟨a1, a2, a3⟩)
          · exact a1
          · omega⟩
  refine ⟨C, h1, h2, h3, fun w w0 w1 i hi => ?_⟩
  rw [h4 w w0 w1 i hi]
  constructor
  · rintro (a1 | ⟨a1, a2, a3⟩)
    · exact Or.inl a1
    · exact Or.inr ⟨a1, a3⟩
  · rintro (a1 | ⟨a1, a3⟩)
    · exact Or.inl a1
    · exact Or.inr ⟨a1, w1, a3⟩
end BD
