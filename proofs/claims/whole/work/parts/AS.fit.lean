/-! the class's board, fitted to a valley -/
section FT
variable {E : Ev} {B : Bk} {d p : Nat} {wd dp : Int}
theorem b_winds0 {a b : Nat} {c : Int32} {s : Hp} : iter (fX0_fit_l70 a b c (iI 0)) FU (iI 0, s) = some s := by
  have z0 : iI 0 = 0 := rfl
  obtain ⟨r, h1, h2⟩ := iter_acc (F := fX0_fit_l70 a b c (iI 0)) (fun _ q => q = (iI 0, s)) 0 (fun r => r = s) (fun j a hj _ => by omega) (fun q hq => by
    subst hq
    refine ⟨s, ?_, rfl⟩
    unfold fX0_fit_l70
    dsimp only
    rw [if_neg (by decide), if_pos z0]) (N := FU) (by show 0 < 1000000; omega) (a := (iI 0, s)) rfl
  rw [h1, h2]
theorem b_zero (kd : KD E d 0 2) (ke : KD E (d + 1) 21 5) {q : Nat} : ∃ C, iter (fX0_fit_l7 (E.1 + d) q) FU (iI 0, St E B) = some (St E C) ∧ brF d B C ∧ C.2.1 = B.2.1 ∧ ∀ w : Int, 0 ≤ w → w < 5 → C.2.2.2.2 (d + 1) w = 0 := by
  obtain ⟨r, h1, C, rfl, h2, h3, h4⟩ := iter_acc (F := fX0_fit_l7 (E.1 + d) q) (fun j a => ∃ C, a = (iI (j : Int), St E C) ∧ brF d B C ∧ C.2.1 = B.2.1 ∧ ∀ w : Int, 0 ≤ w → w < (j : Int) → C.2.2.2.2 (d + 1) w = 0) 5 (fun r => ∃ C, r = St E C ∧ brF d B C ∧ C.2.1 = B.2.1 ∧ ∀ w : Int, 0 ≤ w → w < 5 → C.2.2.2.2 (d + 1) w = 0)
    (fun j a hj ha => by
      obtain ⟨C, rfl, h2, h3, h4⟩ := ha
      refine ⟨(iI ((j + 1 : Nat) : Int), St E (wJ C (d + 1) (j : Int) 0)), ?_, _, rfl, brF_tr h2 brF_J, h3, fun w w0 w1 => ?_⟩
      · unfold fX0_fit_l7
        dsimp only
        rw [if_neg (by rw [iI_le (by omega) (by omega) (by omega) (by omega)]; omega), g0_0 kd, some_bind, sL_ok ke (by omega) (by omega) (by omega), some_bind, iI_add]
        rfl
      · rw [wJ_5]
        by_cases e : w = (j : Int)
        · rw [if_pos ⟨rfl, e⟩]
        · rw [if_neg (fun y => e y.2)]
          exact h4 w w0 (by omega))
    (fun a ha => by
      obtain ⟨C, rfl, h2, h3, h4⟩ := ha
      refine ⟨St E C, ?_, C, rfl, h2, h3, h4⟩
      unfold fX0_fit_l7
      dsimp only
      rw [if_pos (by decide)]) (N := FU) (by show 5 < 1000000; omega) (a := (iI 0, St E B)) ⟨B, rfl, brF_rfl, rfl, fun w w0 w1 => by omega⟩
  exact ⟨C, h1, h2, h3, h4⟩
theorem cOK_in {c : Nat} : cOK wd dp (c : Int) ↔ (0 ≤ (c : Int) % 8 ∧ (c : Int) % 8 < wd) ∧ (0 ≤ (c : Int) / 8 ∧ (c : Int) / 8 < dp) := by
  unfold cOK
  omega
/-- one column of the board -/
theorem b_col {c : Nat} (kd : KD E d 0 2) (ke : KD E (d + 1) 21 5) (kp : VK E p) (hw : VW B p) (c1 : c < 64) (hb : brI B d (B.1 p 1) (B.1 p 2) c) : ∃ C, fX0_fit_l27 (E.1 + d) (E.1 + p) (iI (c : Int), St E B) = some (.inl (iI ((c + 1 : Nat) : Int), St E C)) ∧ brF d B C ∧ brI C d (B.1 p 1) (B.1 p 2) (c + 1) := by
  have z0 : iI 0 = 0 := rfl
  have z1 : ¬ iI 1 = 0 := by decide
  have hc := s_hasColumn (E := E) (B := B) (d := p) (x := (c : Int) % 8) (y := (c : Int) / 8) ⟨by omega, by omega⟩ ⟨by omega, by omega⟩ kp hw
  by_cases q : (0 ≤ (c : Int) % 8 ∧ (c : Int) % 8 < B.1 p 1) ∧ (0 ≤ (c : Int) / 8 ∧ (c : Int) / 8 < B.1 p 2)
  · rw [bI_t q] at hc
    obtain ⟨C, g1, g2, g3, g4⟩ := b_winds (E := E) (B := wL B d 1 (B.2.1 d 1 ||| lsh 1 (iI (c : Int)))) (d := d) (p := p) (c := c) kd ke kp (brF_VW brF_L hw) c1
    refine ⟨C, ?_, brF_tr brF_L g2, fun i hi => ?_, fun w w0 w1 i hi => ?_⟩
    · unfold fX0_fit_l27
      dsimp only
      rw [if_neg (by rw [iI_le (by omega) (by omega) (by omega) (by omega)]; omega), s_xOf (by omega) (by omega), some_bind]
      dsimp only
      rw [s_yOf (by omega) (by omega), some_bind]
      dsimp only
      rw [hc, some_bind]
      dsimp only
      rw [g0_1 kd, some_bind, if_neg z1]
      unfold fX8_bitOf
      rw [some_bind]
      unfold fX0_fit_b63
      dsimp only
      rw [p0_1 kd, some_bind, g1, some_bind]
      unfold fX0_fit_b111
      rw [iI_add]
      rfl
    · rw [g3, wL_2, if_pos ⟨rfl, rfl⟩, tb_or, Bool.or_eq_true, tb_one c1 hi, decide_eq_true_eq, hb.1 i hi]
      constructor
      · rintro (⟨a1, a2⟩ | a1)
        · exact ⟨by omega, a2⟩
        · exact ⟨by omega, by rw [a1]; exact cOK_in.mpr q⟩
      · rintro ⟨a1, a2⟩
        by_cases e : i = c
        · exact Or.inr e
        · exact Or.inl ⟨by omega, a2⟩
    · have h5 := g4 w w0 w1 i hi
      have e5 : (wL B d 1 (B.2.1 d 1 ||| lsh 1 (iI (c : Int)))).2.2.2.2 (d + 1) w = B.2.2.2.2 (d + 1) w := rfl
      have e1 : (wL B d 1 (B.2.1 d 1 ||| lsh 1 (iI (c : Int)))).1 = B.1 := rfl
      rw [e5, e1, hb.2 w w0 w1 i hi] at h5
      rw [h5]
      constructor
      · rintro (⟨a1, a2, a3⟩ | ⟨a1, a2⟩)
        · exact ⟨by omega, a2, a3⟩
        · subst a1
          exact ⟨by omega, cOK_in.mpr q, a2⟩
      · rintro ⟨a1, a2, a3⟩
        by_cases e : i = c
        · exact Or.inr ⟨e, by rw [← e]; exact a3⟩
        · exact Or.inl ⟨by omega, a2, a3⟩
  · rw [bI_f q] at hc
    have ne : ∀ i : Nat, cOK (B.1 p 1) (B.1 p 2) (i : Int) → i ≠ c := fun i h e => q (cOK_in.mp (e ▸ h))
    have o0 : B.2.1 d 1 ||| (0 : Int64) = B.2.1 d 1 := tb_ext (fun i _ => by rw [tb_or, tb_0, Bool.or_false])
    refine ⟨wL B d 1 (B.2.1 d 1 ||| 0), ?_, brF_L, fun i hi => ?_, fun w w0 w1 i hi => ?_⟩
    · unfold fX0_fit_l27
      dsimp only
      rw [if_neg (by rw [iI_le (by omega) (by omega) (by omega) (by omega)]; omega), s_xOf (by omega) (by omega), some_bind]
      dsimp only
      rw [s_yOf (by omega) (by omega), some_bind]
      dsimp only
      rw [hc, some_bind]
      dsimp only
      rw [g0_1 kd, some_bind, if_pos z0]
      unfold fX0_fit_b63
      rw [p0_1 kd, some_bind, b_winds0, some_bind]
      unfold fX0_fit_b111
      rw [iI_add]
      rfl
    · rw [wL_2, if_pos ⟨rfl, rfl⟩, o0, hb.1 i hi]
      constructor
      · rintro ⟨a1, a2⟩
        exact ⟨by omega, a2⟩
      · rintro ⟨a1, a2⟩
        have := ne i a2
        exact ⟨by omega, a2⟩
    · have e5 : (wL B d 1 (B.2.1 d 1 ||| 0)).2.2.2.2 (d + 1) w = B.2.2.2.2 (d + 1) w := rfl
      rw [e5, hb.2 w w0 w1 i hi]
      constructor
      · rintro ⟨a1, a2, a3⟩
        exact ⟨by omega, a2, a3⟩
      · rintro ⟨a1, a2, a3⟩
        have := ne i a2
        exact ⟨by omega, a2, a3⟩
theorem s0_fit (kd : KD E d 0 2) (ke : KD E (d + 1) 21 5) (kp : VK E p) (hw : VW B p) : ∃ C, fX0_fit (E.1 + d) (E.1 + p) (St E B) = some (St E C) ∧ brF d B C ∧ brI C d (B.1 p 1) (B.1 p 2) 64 := by
  obtain ⟨C0, f1, f2, f3, f4⟩ := b_zero (E := E) (B := wL B d 1 0) (d := d) (q := E.1 + p) kd ke
  have f2' : brF d B C0 := brF_tr brF_L f2
  obtain ⟨r, h1, C, rfl, h2, h3⟩ := iter_acc (F := fX0_fit_l27 (E.1 + d) (E.1 + p)) (fun j a => ∃ C, a = (iI (j : Int), St E C) ∧ brF d B C ∧ brI C d (B.1 p 1) (B.1 p 2) j) 64 (fun r => ∃ C, r = St E C ∧ brF d B C ∧ brI C d (B.1 p 1) (B.1 p 2) 64)
    (fun j a hj ha => by
      obtain ⟨C, rfl, h2, h3⟩ := ha
      have e1 : C.1 = B.1 := h2.1
      obtain ⟨C', g1, g2, g3⟩ := b_col (E := E) (B := C) (d := d) (p := p) (c := j) kd ke kp (brF_VW h2 hw) hj (by rw [e1]; exact h3)
      rw [e1] at g3
      exact ⟨_, g1, C', rfl, brF_tr h2 g2, g3⟩)
    (fun a ha => by
      obtain ⟨C, rfl, h2, h3⟩ := ha
      refine ⟨St E C, ?_, C, rfl, h2, h3⟩
      unfold fX0_fit_l27
      dsimp only
      rw [if_pos (by decide)]) (N := FU) (by show 64 < 1000000; omega) (a := (iI 0, St E C0)) ⟨C0, rfl, f2', fun i hi => by
        rw [f3, wL_2, if_pos ⟨rfl, rfl⟩, tb_0]
        constructor
        · intro h
          cases h
        · rintro ⟨h, -⟩
          omega, fun w w0 w1 i hi => by
        rw [f4 w w0 w1, tb_0]
        constructor
        · intro h
          cases h
        · rintro ⟨h, -⟩
          omega⟩
  refine ⟨C, ?_, h2, h3⟩
  unfold fX0_fit
  rw [c0 kd, some_bind, p0_1 kd, some_bind, f1, some_bind, h1, some_bind]
end FT
