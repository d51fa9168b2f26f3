/-! the class's Roamer: the highest tag -/
/-- r is the greatest tag of the first k states that are not empty, 0 where there is none -/
def hgS (B : Bk) (d n k : Nat) (r : Int) : Prop := (0 ≤ r ∧ r < (n : Int)) ∧ (∀ i : Nat, i < k → ¬ B.2.2.2.2 (d + 1) (i : Int) = 0 → (i : Int) % (n : Int) ≤ r) ∧ (r = 0 ∨ ∃ i : Nat, i < k ∧ ¬ B.2.2.2.2 (d + 1) (i : Int) = 0 ∧ (i : Int) % (n : Int) = r)
section HGT
variable {E : Ev} {B : Bk} {d p n c : Nat}
theorem s4_highestTag (kd : KD E d 4 11) (ke : KD E (d + 1) 21 16000) (kp : KD E p 6 19) (hv : B.2.2.1 d 4 = some p) (hn : B.1 d 9 = (n : Int)) (n0 : 1 ≤ n ∧ n ≤ 32) (hc : (B.1 d 7 + 1) * (B.1 d 8 + 1) * B.1 p 3 * (n : Int) = (c : Int)) (c1 : c ≤ 16000) : ∃ r, fX4_highestTag (E.1 + d) (St E B) = some (iI r, St E B) ∧ hgS B d n c r := by
  obtain ⟨z, h1, r, rfl, t⟩ := iter_acc (F := fX4_highestTag_l4 (E.1 + d)) (fun j a => ∃ r, a = (iI r, iI (j : Int), St E B) ∧ hgS B d n j r) c (fun z => ∃ r, z = (iI r, St E B) ∧ hgS B d n c r)
    (fun j a hj ha => by
      obtain ⟨r, rfl, t1, t2, t3⟩ := ha
      by_cases q : B.2.2.2.2 (d + 1) (j : Int) = 0
      · refine ⟨(iI r, iI ((j + 1 : Nat) : Int), St E B), ?_, r, rfl, t1, fun i hi w => ?_, ?_⟩
        · unfold fX4_highestTag_l4
          dsimp only
          rw [s4_blockCount kd kp hv, some_bind]
          dsimp only
          rw [g4_9 kd, some_bind, hn, iI_mul, hc, if_neg (by rw [iI_le (by omega) (by omega) (by omega) (by omega)]; omega), g4_0 kd, some_bind, aL_ok ke (by omega) (by omega) (by omega), some_bind, if_pos ((lg_cmp_eq _ _).mpr q)]
          unfold fX4_highestTag_b39
          rw [iI_add]
          rfl
        · by_cases e : i = j
          · rw [e] at w
            exact absurd q w
          · exact t2 i (by omega) w
        · rcases t3 with w | ⟨i, w1, w2⟩
          · exact Or.inl w
          · exact Or.inr ⟨i, by omega, w2⟩
      · have m0 : 0 ≤ (j : Int) % (n : Int) := Int.emod_nonneg _ (by omega)
        have m1 : (j : Int) % (n : Int) < (n : Int) := Int.emod_lt_of_pos _ (by omega)
        refine ⟨(iI (max r ((j : Int) % (n : Int))), iI ((j + 1 : Nat) : Int), St E B), ?_, _, rfl, by omega, fun i hi w => ?_, ?_⟩
        · unfold fX4_highestTag_l4
          dsimp only
          rw [s4_blockCount kd kp hv, some_bind]
          dsimp only
          rw [g4_9 kd, some_bind, hn, iI_mul, hc, if_neg (by rw [iI_le (by omega) (by omega) (by omega) (by omega)]; omega), g4_0 kd, some_bind, aL_ok ke (by omega) (by omega) (by omega), some_bind, if_neg (fun w => q ((lg_cmp_eq _ _).mp w)), some_bind, mI_ok (by omega) (by omega) (by omega) (by omega), some_bind]
          unfold lt_ fX4_highestTag_b39
          dsimp only
          rw [imax_ok (by omega) (by omega) (by omega) (by omega), iI_add]
          rfl
        · by_cases e : i = j
          · rw [e]
            omega
          · have := t2 i (by omega) w
            omega
        · by_cases e : r ≤ (j : Int) % (n : Int)
          · exact Or.inr ⟨j, by omega, q, by omega⟩
          · rw [show max r ((j : Int) % (n : Int)) = r by omega]
            rcases t3 with w | ⟨i, w1, w2⟩
            · exact Or.inl w
            · exact Or.inr ⟨i, by omega, w2⟩)
    (fun a ha => by
      obtain ⟨r, rfl, t⟩ := ha
      refine ⟨(iI r, St E B), ?_, r, rfl, t⟩
      unfold fX4_highestTag_l4
      dsimp only
      rw [s4_blockCount kd kp hv, some_bind]
      dsimp only
      rw [g4_9 kd, some_bind, hn, iI_mul, hc, if_pos (by rw [iI_le (by omega) (by omega) (by omega) (by omega)]; omega)]) (N := FU) (by show c < 1000000; omega) (a := (iI 0, iI 0, St E B)) ⟨0, rfl, by omega, fun i hi => by omega, Or.inl rfl⟩
  refine ⟨r, ?_, t⟩
  unfold fX4_highestTag
  rw [c4 kd, some_bind, h1, some_bind]
end HGT
