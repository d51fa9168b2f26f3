/-! the class's Reach: tours -/
/-- sand and hour of a tour, bounds of them -/
def tuT (B : Bk) (d : Nat) (s : Int) : Int := B.2.2.2.1 (d + 2) s
def tuH (B : Bk) (d : Nat) (s : Int) : Int := B.2.2.2.1 (d + 3) s
def tuK (B : Bk) (d : Nat) : Prop := ∀ s : Int, 0 ≤ s → s < 32 → (0 ≤ tuT B d s ∧ tuT B d s ≤ 99) ∧ (-1 ≤ tuH B d s ∧ tuH B d s ≤ 99)
/-- only the tours of d have changed -/
def tuF (d : Nat) (B C : Bk) : Prop := C.1 = B.1 ∧ C.2.1 = B.2.1 ∧ C.2.2.1 = B.2.2.1 ∧ C.2.2.2.2 = B.2.2.2.2 ∧ ∀ e, e ≠ d + 2 → e ≠ d + 3 → C.2.2.2.1 e = B.2.2.2.1 e
def tuW (B : Bk) (d : Nat) (s a b : Int) : Bk := wA (wA B (d + 2) s (min (tuT B d s) a)) (d + 3) s (min (tuH B d s) b)
section TUR
variable {E : Ev} {B : Bk} {d : Nat} {s a b : Int}
theorem tuF_rfl : tuF d B B := ⟨rfl, rfl, rfl, rfl, fun _ _ _ => rfl⟩
theorem tuF_tr {A C : Bk} (h : tuF d A B) (g : tuF d B C) : tuF d A C := ⟨g.1.trans h.1, g.2.1.trans h.2.1, g.2.2.1.trans h.2.2.1, g.2.2.2.1.trans h.2.2.2.1, fun e q1 q2 => (g.2.2.2.2 e q1 q2).trans (h.2.2.2.2 e q1 q2)⟩
theorem tuF_A {z x : Int} {e : Nat} (he : e = d + 2 ∨ e = d + 3) : tuF d B (wA B e z x) := by
  refine ⟨rfl, rfl, rfl, rfl, fun k q1 q2 => ?_⟩
  funext y
  rw [wA_4, if_neg (by omega)]
theorem tuW_T {z : Int} : tuT (tuW B d s a b) d z = if z = s then min (tuT B d s) a else tuT B d z := by
  unfold tuW tuT
  rw [wA_4, if_neg (by omega), wA_4]
  by_cases q : z = s
  · rw [if_pos ⟨rfl, q⟩, if_pos q]
  · rw [if_neg (fun w => q w.2), if_neg q]
theorem tuW_H {z : Int} : tuH (tuW B d s a b) d z = if z = s then min (tuH B d s) b else tuH B d z := by
  unfold tuW tuH
  rw [wA_4]
  by_cases q : z = s
  · rw [if_pos ⟨rfl, q⟩, if_pos q]
  · rw [if_neg (fun w => q w.2), if_neg q, wA_4, if_neg (by omega)]
theorem tuW_F : tuF d B (tuW B d s a b) := tuF_tr (tuF_A (Or.inl rfl)) (tuF_A (Or.inr rfl))
theorem tuW_K (k : tuK B d) (s0 : 0 ≤ s ∧ s < 32) (a0 : 0 ≤ a) (b0 : -1 ≤ b) : tuK (tuW B d s a b) d := fun z z0 z1 => by
  have k1 := k z z0 z1
  have k2 := k s s0.1 s0.2
  rw [tuW_T, tuW_H]
  by_cases q : z = s
  · rw [if_pos q, if_pos q]
    omega
  · rw [if_neg q, if_neg q]
    exact k1
theorem s2_addTour (kd : KD E d 2 5) (k2 : KD E (d + 2) 20 32) (k3 : KD E (d + 3) 20 32) (k : tuK B d) (s0 : 0 ≤ s ∧ s < 32) (a0 : 0 ≤ a ∧ a ≤ 99) (b0 : -1 ≤ b ∧ b ≤ 99) : fX2_addTour (E.1 + d) (iI s) (iI a) (iI b) (St E B) = some (St E (tuW B d s a b)) := by
  have k1 := k s s0.1 s0.2
  have e1 : B.2.2.2.1 (d + 2) s = tuT B d s := rfl
  have e2 : ∀ x, (wA B (d + 2) s x).2.2.2.1 (d + 3) s = tuH B d s := fun x => by
    rw [wA_4, if_neg (by omega)]
    rfl
  unfold fX2_addTour
  rw [c2 kd, some_bind, g2_1 kd, some_bind, some_bind, aI_ok k2 s0.1 (by omega) (by omega), some_bind, e1, imin_ok (by omega) (by omega) (by omega) (by omega), sI_ok k2 s0.1 (by omega) (by omega), some_bind, g2_2 kd, some_bind, some_bind, aI_ok k3 s0.1 (by omega) (by omega), some_bind, e2, imin_ok (by omega) (by omega) (by omega) (by omega), sI_ok k3 s0.1 (by omega) (by omega), some_bind]
  rfl
theorem s2_clearTours (kd : KD E d 2 5) (k2 : KD E (d + 2) 20 32) (k3 : KD E (d + 3) 20 32) : ∃ C, fX2_clearTours (E.1 + d) (St E B) = some (St E C) ∧ tuF d B C ∧ ∀ z : Int, 0 ≤ z → z < 32 → tuT C d z = 99 ∧ tuH C d z = 99 := by
  obtain ⟨r, h1, C, rfl, h2, h3⟩ := iter_acc (F := fX2_clearTours_l2 (E.1 + d)) (fun j a => ∃ C, a = (iI (j : Int), St E C) ∧ tuF d B C ∧ ∀ z : Int, 0 ≤ z → z < (j : Int) → tuT C d z = 99 ∧ tuH C d z = 99) 32 (fun r => ∃ C, r = St E C ∧ tuF d B C ∧ ∀ z : Int, 0 ≤ z → z < 32 → tuT C d z = 99 ∧ tuH C d z = 99)
    (fun j a hj ha => by
      obtain ⟨C, rfl, h2, h3⟩ := ha
      refine ⟨(iI ((j + 1 : Nat) : Int), St E (wA (wA C (d + 2) (j : Int) 99) (d + 3) (j : Int) 99)), ?_, _, rfl, tuF_tr h2 (tuF_tr (tuF_A (Or.inl rfl)) (tuF_A (Or.inr rfl))), fun z z0 z1 => ?_⟩
      · unfold fX2_clearTours_l2
        dsimp only
        rw [g2_1 kd, some_bind, aN_ok k2 (by omega) (by omega), some_bind, if_neg (by rw [iI_le (by omega) (by omega) (by omega) (by omega)]; omega), some_bind, sI_ok k2 (by omega) (by omega) (by omega), some_bind, g2_2 kd, some_bind, sI_ok k3 (by omega) (by omega) (by omega), some_bind, iI_add]
        rfl
      · unfold tuT tuH at *
        rw [wA_4, if_neg (by omega), wA_4, wA_4]
        by_cases e : z = (j : Int)
        · rw [if_pos ⟨rfl, e⟩, if_pos ⟨rfl, e⟩]
          exact ⟨rfl, rfl⟩
        · rw [if_neg (fun w => e w.2), if_neg (fun w => e w.2), wA_4, if_neg (by omega)]
          exact h3 z z0 (by omega))
    (fun a ha => by
      obtain ⟨C, rfl, h2, h3⟩ := ha
      refine ⟨St E C, ?_, C, rfl, h2, h3⟩
      unfold fX2_clearTours_l2
      dsimp only
      rw [g2_1 kd, some_bind, aN_ok k2 (by omega) (by omega), some_bind, if_pos (by rw [iI_le (by omega) (by omega) (by omega) (by omega)]; omega)]) (N := FU) (by show 32 < 1000000; omega) (a := (iI 0, St E B)) ⟨B, rfl, tuF_rfl, fun z z0 z1 => by omega⟩
  refine ⟨C, ?_, h2, h3⟩
  unfold fX2_clearTours
  rw [c2 kd, some_bind, h1, some_bind]
theorem s2_sandOfTour (kd : KD E d 2 5) (k2 : KD E (d + 2) 20 32) (k : tuK B d) (s0 : 0 ≤ s ∧ s < 32) : fX2_sandOfTour (E.1 + d) (iI s) (St E B) = some (iI (if tuT B d s = 99 then -1 else tuT B d s), St E B) := by
  have k1 := k s s0.1 s0.2
  have e1 : B.2.2.2.1 (d + 2) s = tuT B d s := rfl
  unfold fX2_sandOfTour
  rw [c2 kd, some_bind, g2_1 kd, some_bind, aI_ok k2 s0.1 (by omega) (by omega), some_bind, e1]
  by_cases q : tuT B d s = 99
  · rw [if_pos (by rw [q]), if_pos q]
  · rw [if_neg (fun w => q ((iI_eq (by omega) (by omega) (by omega) (by omega)).mp w)), if_neg q, some_bind, aI_ok k2 s0.1 (by omega) (by omega), some_bind, e1]
theorem s2_hourOfTour (kd : KD E d 2 5) (k3 : KD E (d + 3) 20 32) (k : tuK B d) (s0 : 0 ≤ s ∧ s < 32) : fX2_hourOfTour (E.1 + d) (iI s) (St E B) = some (iI (if tuH B d s = 99 then -1 else tuH B d s), St E B) := by
  have k1 := k s s0.1 s0.2
  have e1 : B.2.2.2.1 (d + 3) s = tuH B d s := rfl
  unfold fX2_hourOfTour fX2_hourOfTour_b21
  rw [c2 kd, some_bind, g2_2 kd, some_bind, aI_ok k3 s0.1 (by omega) (by omega), some_bind, e1]
  by_cases q : tuH B d s = 99
  · rw [if_pos (by rw [q]), if_pos q]
  · rw [if_neg (fun w => q ((iI_eq (by omega) (by omega) (by omega) (by omega)).mp w)), if_neg q, some_bind, aI_ok k3 s0.1 (by omega) (by omega), some_bind, e1]
    by_cases q2 : tuH B d s = -1
    · rw [if_pos (by rw [q2]), q2]
    · rw [if_neg (fun w => q2 ((iI_eq (by omega) (by omega) (by omega) (by omega)).mp w)), some_bind, aI_ok k3 s0.1 (by omega) (by omega), some_bind, e1]
theorem s2_canTour (kd : KD E d 2 5) (k2 : KD E (d + 2) 20 32) (k : tuK B d) (s0 : 0 ≤ s ∧ s < 32) (a0 : 0 ≤ a ∧ a < 2147483648) : fX2_canTour (E.1 + d) (iI s) (iI a) (St E B) = some (iI (if a < tuT B d s then 0 else 1), St E B) := by
  have k1 := k s s0.1 s0.2
  have e1 : B.2.2.2.1 (d + 2) s = tuT B d s := rfl
  unfold fX2_canTour
  rw [c2 kd, some_bind, g2_1 kd, some_bind, aI_ok k2 s0.1 (by omega) (by omega), some_bind, e1]
  by_cases q : a < tuT B d s
  · rw [if_pos ((iI_lt (by omega) (by omega) (by omega) (by omega)).mpr q), if_pos q]
  · rw [if_neg (fun w => q ((iI_lt (by omega) (by omega) (by omega) (by omega)).mp w)), if_neg q]
end TUR
