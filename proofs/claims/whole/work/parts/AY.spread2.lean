/-! the class's Reach: tours spread -/
section SPT
variable {E : Ev} {B : Bk} {d : Nat}
theorem s2_sp1 {s : Nat} (kd : KD E d 2 5) (k2 : KD E (d + 2) 20 32) (k3 : KD E (d + 3) 20 32) (k : tuK B d) (hs : s < 32) : ∃ C, iter (fX2_spreadTours_l14 (E.1 + d) (iI (s : Int))) FU (iI 0, St E B) = some (St E C) ∧ tuF d B C ∧ tuK C d ∧ spI s 5 (tuT C d) (tuT B d) ∧ spI s 5 (tuH C d) (tuH B d) := by
  obtain ⟨r, h1, C, rfl, h2, h3, h4, h5⟩ := iter_acc (F := fX2_spreadTours_l14 (E.1 + d) (iI (s : Int))) (fun j a => ∃ C, a = (iI (j : Int), St E C) ∧ tuF d B C ∧ tuK C d ∧ spI s j (tuT C d) (tuT B d) ∧ spI s j (tuH C d) (tuH B d)) 5 (fun r => ∃ C, r = St E C ∧ tuF d B C ∧ tuK C d ∧ spI s 5 (tuT C d) (tuT B d) ∧ spI s 5 (tuH C d) (tuH B d))
    (fun j a hj ha => by
      obtain ⟨C, rfl, h2, h3, h4, h5⟩ := ha
      have b := (lssN_b hs hj).1
      have ks := h3 (s : Int) (by omega) (by omega)
      have e1 : C.2.2.2.1 (d + 2) (s : Int) = tuT C d (s : Int) := rfl
      have e2 : C.2.2.2.1 (d + 3) (s : Int) = tuH C d (s : Int) := rfl
      refine ⟨(iI ((j + 1 : Nat) : Int), St E (tuW C d (lssN s j : Int) (tuT C d (s : Int)) (tuH C d (s : Int)))), ?_, _, rfl, tuF_tr h2 tuW_F, tuW_K h3 (by omega) (by omega) (by omega), spI_n hs hj h4 (fun z => tuW_T), spI_n hs hj h5 (fun z => tuW_H)⟩
      unfold fX2_spreadTours_l14
      dsimp only
      rw [if_neg (by rw [iI_le (by omega) (by omega) (by omega) (by omega)]; omega)]
      unfold lt_
      dsimp only
      rw [lssN_i hs hj, g2_1 kd, some_bind, aI_ok k2 (by omega) (by omega) (by omega), some_bind, e1, g2_2 kd, some_bind, aI_ok k3 (by omega) (by omega) (by omega), some_bind, e2, s2_addTour kd k2 k3 h3 (by omega) (by omega) (by omega), some_bind, iI_add]
      rfl)
    (fun a ha => by
      obtain ⟨C, rfl, h2⟩ := ha
      refine ⟨St E C, ?_, C, rfl, h2⟩
      unfold fX2_spreadTours_l14
      dsimp only
      rw [if_pos (by decide)]) (N := FU) (by show 5 < 1000000; omega) (a := (iI 0, St E B)) ⟨B, rfl, tuF_rfl, k, ⟨fun z => Int.le_refl _, fun _ _ => rfl, fun i hi => by omega, fun z => Or.inl rfl⟩, ⟨fun z => Int.le_refl _, fun _ _ => rfl, fun i hi => by omega, fun z => Or.inl rfl⟩⟩
  exact ⟨C, h1, h2, h3, h4, h5⟩
theorem s2_spreadTours (kd : KD E d 2 5) (k2 : KD E (d + 2) 20 32) (k3 : KD E (d + 3) 20 32) (k : tuK B d) : ∃ C, fX2_spreadTours (E.1 + d) (St E B) = some (St E C) ∧ tuF d B C ∧ tuK C d ∧ spO 0 (tuT C d) (tuT B d) ∧ spO 0 (tuH C d) (tuH B d) := by
  obtain ⟨r, h1, C, rfl, h2, h3, h4, h5⟩ := iter_acc (F := fX2_spreadTours_l8 (E.1 + d)) (fun j a => ∃ C, a = (iI (31 - (j : Int)), St E C) ∧ tuF d B C ∧ tuK C d ∧ spO (32 - j) (tuT C d) (tuT B d) ∧ spO (32 - j) (tuH C d) (tuH B d)) 32 (fun r => ∃ C, r = St E C ∧ tuF d B C ∧ tuK C d ∧ spO 0 (tuT C d) (tuT B d) ∧ spO 0 (tuH C d) (tuH B d))
    (fun j a hj ha => by
      obtain ⟨C, rfl, h2, h3, h4, h5⟩ := ha
      obtain ⟨s, hs⟩ : ∃ s : Nat, s + j = 31 := ⟨31 - j, by omega⟩
      rw [show 32 - j = s + 1 by omega] at h4 h5
      obtain ⟨C', g1, g2, g3, g4, g5⟩ := s2_sp1 (E := E) (B := C) (d := d) (s := s) kd k2 k3 h3 (by omega)
      refine ⟨(iI (31 - ((j + 1 : Nat) : Int)), St E C'), ?_, C', rfl, tuF_tr h2 g2, g3, ?_, ?_⟩
      · have z0 : (0 : Int32) = iI 0 := rfl
        have ea : 31 - (j : Int) = (s : Int) := by omega
        have eb : 31 - ((j + 1 : Nat) : Int) = (s : Int) + -1 := by omega
        rw [ea, eb]
        unfold fX2_spreadTours_l8
        dsimp only
        rw [z0, if_neg (by rw [iI_lt (by omega) (by omega) (by omega) (by omega)]; omega), g1, some_bind, iI_add]
      · rw [show 32 - (j + 1) = s by omega]
        exact spO_n (by omega) h4 g4
      · rw [show 32 - (j + 1) = s by omega]
        exact spO_n (by omega) h5 g5)
    (fun a ha => by
      obtain ⟨C, rfl, h2⟩ := ha
      refine ⟨St E C, ?_, C, rfl, h2⟩
      unfold fX2_spreadTours_l8
      dsimp only
      rw [if_pos (by decide)]) (N := FU) (by show 32 < 1000000; omega) (a := (iI 31, St E B)) ⟨B, rfl, tuF_rfl, k, spO_0, spO_0⟩
  refine ⟨C, ?_, h2, h3, h4, h5⟩
  unfold fX2_spreadTours
  rw [c2 kd, some_bind, g2_1 kd, some_bind, aN_ok k2 (by omega) (by omega), some_bind]
  unfold lt_
  dsimp only
  rw [show iI ((32 : Nat) : Int) - iI 1 = iI 31 by decide, h1, some_bind]
end SPT
