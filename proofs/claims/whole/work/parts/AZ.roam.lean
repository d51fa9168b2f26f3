/-! the class's Roamer: its places, small steps -/
/-- the Roamer's place of a state, its numbers gas, layers, tags -/
def plR (g n t s u l : Int) : Int := ((s * (g + 1) + u) * n + l) * t
/-- only the states of d have changed -/
def roF (d : Nat) (B C : Bk) : Prop := C.1 = B.1 ∧ C.2.1 = B.2.1 ∧ C.2.2.1 = B.2.2.1 ∧ C.2.2.2.1 = B.2.2.2.1 ∧ ∀ e, e ≠ d + 1 → C.2.2.2.2 e = B.2.2.2.2 e
section ROA
variable {E : Ev} {B : Bk} {d p : Nat}
theorem roF_rfl : roF d B B := ⟨rfl, rfl, rfl, rfl, fun _ _ => rfl⟩
theorem roF_tr {A C : Bk} (h : roF d A B) (g : roF d B C) : roF d A C := ⟨g.1.trans h.1, g.2.1.trans h.2.1, g.2.2.1.trans h.2.2.1, g.2.2.2.1.trans h.2.2.2.1, fun e q => (g.2.2.2.2 e q).trans (h.2.2.2.2 e q)⟩
theorem roF_J {z : Int} {x : Int64} : roF d B (wJ B (d + 1) z x) := by
  refine ⟨rfl, rfl, rfl, rfl, fun e q => ?_⟩
  funext k
  rw [wJ_5, if_neg (fun w => q w.1)]
theorem s4_placeOf {s u l : Int} (kd : KD E d 4 11) (kp : KD E p 6 19) (hv : B.2.2.1 d 4 = some p) : fX4_placeOf (E.1 + d) (iI s) (iI u) (iI l) (St E B) = some (iI (plR (B.1 d 8) (B.1 p 3) (B.1 d 9) s u l), St E B) := by
  unfold fX4_placeOf plR
  rw [c4 kd, some_bind, g4_8 kd, some_bind, g4_4 kd hv, some_bind, g6_3 kp, some_bind, g4_9 kd, some_bind, iI_add, iI_mul, iI_add, iI_mul, iI_add, iI_mul]
theorem s4_blockCount (kd : KD E d 4 11) (kp : KD E p 6 19) (hv : B.2.2.1 d 4 = some p) : fX4_blockCount (E.1 + d) (St E B) = some (iI ((B.1 d 7 + 1) * (B.1 d 8 + 1) * B.1 p 3), St E B) := by
  unfold fX4_blockCount
  rw [c4 kd, some_bind, g4_7 kd, some_bind, g4_8 kd, some_bind, g4_4 kd hv, some_bind, g6_3 kp, some_bind, iI_add, iI_add, iI_mul, iI_mul]
theorem s4_joined {x y : Int64} (kd : KD E d 4 11) (h0 : 0 ≤ B.1 d 10 ∧ B.1 d 10 ≤ 4) : fX4_joined (E.1 + d) x y (St E B) = some (if B.1 d 10 = 4 then x + y else x ||| y, St E B) := by
  unfold fX4_joined
  rw [c4 kd, some_bind, g4_10 kd, some_bind]
  by_cases q : B.1 d 10 = 4
  · rw [if_pos (by rw [q]), if_pos q]
  · rw [if_neg (fun w => q ((iI_eq (by omega) (by omega) (by omega) (by omega)).mp w)), if_neg q]
/-- a part of a state moved to another tag -/
theorem s4_moveTag {x y : Int} {m : Int64} (kd : KD E d 4 11) (ke : KD E (d + 1) 21 16000) (x0 : 0 ≤ x ∧ x < 16000) (y0 : 0 ≤ y ∧ y < 16000) (ne : x ≠ y) : ∃ C, fX4_moveTag (E.1 + d) (iI x) (iI y) m (St E B) = some (St E C) ∧ roF d B C ∧ (∀ z, z ≠ x → z ≠ y → C.2.2.2.2 (d + 1) z = B.2.2.2.2 (d + 1) z) ∧ ∀ i : Nat, i < 64 → tb (C.2.2.2.2 (d + 1) x) i = (tb (B.2.2.2.2 (d + 1) x) i && !tb m i) ∧ tb (C.2.2.2.2 (d + 1) y) i = (tb (B.2.2.2.2 (d + 1) y) i || (tb (B.2.2.2.2 (d + 1) x) i && tb m i)) := by
  by_cases q : B.2.2.2.2 (d + 1) x &&& m = 0
  · have zz : ∀ i : Nat, i < 64 → (tb (B.2.2.2.2 (d + 1) x) i && tb m i) = false := fun i hi => by
      have := tb_z.mp q i hi
      rw [tb_and] at this
      exact this
    refine ⟨B, ?_, roF_rfl, fun _ _ _ => rfl, fun i hi => ⟨?_, ?_⟩⟩
    · unfold fX4_moveTag
      rw [c4 kd, some_bind, g4_0 kd, some_bind, aL_ok ke x0.1 (by omega) (by omega), some_bind]
      unfold lt_
      dsimp only
      rw [if_pos ((lg_cmp_eq _ _).mpr q)]
    · have := zz i hi
      revert this
      cases tb (B.2.2.2.2 (d + 1) x) i <;> cases tb m i <;> simp
    · rw [zz i hi, Bool.or_false]
  · refine ⟨wJ (wJ B (d + 1) x (B.2.2.2.2 (d + 1) x &&& ((B.2.2.2.2 (d + 1) x &&& m) ^^^ (-1)))) (d + 1) y (B.2.2.2.2 (d + 1) y ||| (B.2.2.2.2 (d + 1) x &&& m)), ?_, roF_tr roF_J roF_J, fun z z1 z2 => ?_, fun i hi => ⟨?_, ?_⟩⟩
    · have e : ∀ w, (wJ B (d + 1) x w).2.2.2.2 (d + 1) y = B.2.2.2.2 (d + 1) y := fun w => by
        rw [wJ_5, if_neg (fun a => ne a.2.symm)]
      unfold fX4_moveTag
      rw [c4 kd, some_bind, g4_0 kd, some_bind, aL_ok ke x0.1 (by omega) (by omega), some_bind]
      unfold lt_
      dsimp only
      rw [if_neg (fun w => q ((lg_cmp_eq _ _).mp w)), some_bind, aL_ok ke x0.1 (by omega) (by omega), some_bind, sL_ok ke x0.1 (by omega) (by omega), some_bind, g4_0 kd, some_bind, aL_ok ke y0.1 (by omega) (by omega), some_bind, e, sL_ok ke y0.1 (by omega) (by omega), some_bind]
    · rw [wJ_5, if_neg (fun a => z2 a.2), wJ_5, if_neg (fun a => z1 a.2)]
    · rw [wJ_5, if_neg (fun a => ne a.2), wJ_5, if_pos ⟨rfl, rfl⟩, tb_and, tb_not hi, tb_and]
      cases tb (B.2.2.2.2 (d + 1) x) i <;> cases tb m i <;> rfl
    · rw [wJ_5, if_pos ⟨rfl, rfl⟩, tb_or, tb_and]
end ROA
