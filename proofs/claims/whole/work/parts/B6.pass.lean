/-! the class's Roamer: a layer passed -/
def cyR (k : Int) (ed : Int → Int64) (w : Int) (x : Int64) : Int64 := if k = 4 then x else caS x (ed w) w
theorem s0_carC {E : Ev} {B : Bk} {d : Nat} {x : Int64} {w : Int} (kd : KD E d 0 2) (ke : KD E (d + 1) 21 5) (w0 : 0 ≤ w) (w1 : w < 5) : fX0_carriedSet (E.1 + d) x (iI w) (St E B) = some (caS x (B.2.2.2.2 (d + 1) w) w, St E B) := by
  unfold fX0_carriedSet caS
  rw [c0 kd, some_bind, g0_0 kd, some_bind, aL_ok ke w0 (by omega) (by omega), some_bind]
  unfold lt_
  dsimp only
  rw [s0_shifted w0 w1, some_bind]
/-- what a state takes from below and from above -/
def x1R (k : Int) (A : StF) (s u l t : Nat) : Int64 := if 0 < s ∧ 0 < l then jnR k (A s u l t) (A (s - 1) u (l - 1) t) else A s u l t
def x2R (k : Int) (n : Nat) (A : StF) (s u l t : Nat) : Int64 := if 0 < u ∧ l + 1 < n then jnR k (x1R k A s u l t) (A s (u - 1) (l + 1) t) else x1R k A s u l t
section PSL
variable {E : Ev} {B : Bk} {d p r S G L n T : Nat} {V : Vy} {ed : Int → Int64} {k : Int} {A : StF}
theorem s4_p174 {a w : Int} {j : Nat} {x : Int64} {x6 x7 x8 x9 : Int32} (R : RE E d p r) (c : RC B d p r V ed S G L T k) (w0 : 0 ≤ w ∧ w < 5) (a0 : 0 ≤ a ∧ a + (j : Int) < 16000) : fX4_passLayer_b174 (E.1 + d) (iI a) x6 x7 x8 x9 (iI w) (iI (j : Int)) x (St E B) = some (.inl (iI ((j + 1 : Nat) : Int), St E (wJ B (d + 1) (a + (j : Int)) (cyR k ed w x)))) := by
  have kd := R.1.1
  have ke := R.1.2.1
  have k0 := c.2.2.2.2.2.1
  unfold fX4_passLayer_b174 cyR
  rw [g4_0 kd, some_bind, g4_10 kd, some_bind, c.2.1.2.2.2.2]
  by_cases q : k = 4
  · rw [if_pos (by rw [q]), if_pos q]
    unfold fX4_passLayer_b207
    rw [iI_add, sL_ok ke (by omega) (by omega) (by omega), some_bind, iI_add]
    rfl
  · rw [if_neg (fun w => q ((iI_eq (by omega) (by omega) (by omega) (by omega)).mp w)), if_neg q, g4_1 kd, some_bind, s0_carC R.1.2.2.1 R.1.2.2.2 w0.1 w0.2, some_bind]
    dsimp only
    unfold fX4_passLayer_b207
    rw [show d + 2 + 1 = d + 3 from rfl, c.2.2.2.2.1.1, iI_add, sL_ok ke (by omega) (by omega) (by omega), some_bind, iI_add]
    rfl
theorem s4_pl1 {a b1 b2 w : Int} {P Q : Prop} [Decidable P] [Decidable Q] (R : RE E d p r) (c : RC B d p r V ed S G L T k) (w0 : 0 ≤ w ∧ w < 5) (a0 : 0 ≤ a ∧ a + (T : Int) ≤ 16000) (hP : P → (0 ≤ b1 ∧ b1 + (T : Int) ≤ 16000) ∧ (b1 + (T : Int) ≤ a ∨ a + (T : Int) ≤ b1)) (hQ : Q → (0 ≤ b2 ∧ b2 + (T : Int) ≤ 16000) ∧ (b2 + (T : Int) ≤ a ∨ a + (T : Int) ≤ b2)) : ∃ C, iter (fX4_passLayer_l107 (E.1 + d) (iI a) (iI (bI P)) (iI (bI Q)) (iI b1) (iI b2) (iI w)) FU (iI 0, St E B) = some (St E C) ∧ roF d B C ∧ (∀ t : Nat, t < T → C.2.2.2.2 (d + 1) (a + (t : Int)) = cyR k ed w (if Q then jnR k (if P then jnR k (B.2.2.2.2 (d + 1) (a + (t : Int))) (B.2.2.2.2 (d + 1) (b1 + (t : Int))) else B.2.2.2.2 (d + 1) (a + (t : Int))) (B.2.2.2.2 (d + 1) (b2 + (t : Int))) else (if P then jnR k (B.2.2.2.2 (d + 1) (a + (t : Int))) (B.2.2.2.2 (d + 1) (b1 + (t : Int))) else B.2.2.2.2 (d + 1) (a + (t : Int))))) ∧ ∀ z, ¬ (a ≤ z ∧ z < a + (T : Int)) → C.2.2.2.2 (d + 1) z = B.2.2.2.2 (d + 1) z := by
  have kd := R.1.1
  have ke := R.1.2.1
  obtain ⟨f, hf⟩ : ∃ f : Nat → Int64, ∀ t, f t = cyR k ed w (if Q then jnR k (if P then jnR k (B.2.2.2.2 (d + 1) (a + (t : Int))) (B.2.2.2.2 (d + 1) (b1 + (t : Int))) else B.2.2.2.2 (d + 1) (a + (t : Int))) (B.2.2.2.2 (d + 1) (b2 + (t : Int))) else (if P then jnR k (B.2.2.2.2 (d + 1) (a + (t : Int))) (B.2.2.2.2 (d + 1) (b1 + (t : Int))) else B.2.2.2.2 (d + 1) (a + (t : Int)))) := ⟨fun t => _, fun t => rfl⟩
  obtain ⟨r1, e1, C, rfl, f1, v1, v2⟩ := iter_acc (F := fX4_passLayer_l107 (E.1 + d) (iI a) (iI (bI P)) (iI (bI Q)) (iI b1) (iI b2) (iI w)) (fun j q => ∃ C, q = (iI (j : Int), St E C) ∧ roF d B C ∧ (∀ t : Nat, t < j → C.2.2.2.2 (d + 1) (a + (t : Int)) = f t) ∧ ∀ z, ¬ (a ≤ z ∧ z < a + (j : Int)) → C.2.2.2.2 (d + 1) z = B.2.2.2.2 (d + 1) z) T (fun q => ∃ C, q = St E C ∧ roF d B C ∧ (∀ t : Nat, t < T → C.2.2.2.2 (d + 1) (a + (t : Int)) = f t) ∧ ∀ z, ¬ (a ≤ z ∧ z < a + (T : Int)) → C.2.2.2.2 (d + 1) z = B.2.2.2.2 (d + 1) z)
    (fun j q hj ha => by
      obtain ⟨C, rfl, f1, v1, v2⟩ := ha
      have cc : RC C d p r V ed S G L T k := RC_nF R (nF_ro f1) c
      have k0 := cc.2.2.2.2.2.1
      have hk : 0 ≤ C.1 d 10 ∧ C.1 d 10 ≤ 4 := by rw [cc.2.1.2.2.2.2]; exact k0
      have T1 := cc.2.2.2.2.2.2.2
      refine ⟨(iI ((j + 1 : Nat) : Int), St E (wJ C (d + 1) (a + (j : Int)) (f j))), ?_, _, rfl, roF_tr f1 roF_J, fun t ht => ?_, fun z hz => ?_⟩
      · unfold fX4_passLayer_l107
        dsimp only
        rw [g4_9 kd, some_bind, cc.2.1.2.2.2.1, if_neg (by rw [iI_le (by omega) (by omega) (by omega) (by omega)]; omega), g4_0 kd, some_bind, iI_add, aL_ok ke (by omega) (by omega) (by omega), some_bind, v2 (a + (j : Int)) (by omega), hf j]
        unfold fX4_passLayer_b151
        by_cases qP : P
        · obtain ⟨p1, p2⟩ := hP qP
          rw [if_neg (fun w => (bI_0.mp w) qP), if_pos qP, some_bind, iI_add, aL_ok ke (by omega) (by omega) (by omega), some_bind, v2 (b1 + (j : Int)) (by omega), s4_joined kd hk, some_bind]
          dsimp only
          rw [cc.2.1.2.2.2.2]
          by_cases qQ : Q
          · obtain ⟨p3, p4⟩ := hQ qQ
            rw [if_neg (fun w => (bI_0.mp w) qQ), if_pos qQ, g4_0 kd, some_bind, iI_add, aL_ok ke (by omega) (by omega) (by omega), some_bind, v2 (b2 + (j : Int)) (by omega), s4_joined kd hk, some_bind]
            dsimp only
            rw [cc.2.1.2.2.2.2, s4_p174 R cc w0 (by omega)]
            rfl
          · rw [if_pos (bI_0.mpr qQ), if_neg qQ, s4_p174 R cc w0 (by omega)]
            rfl
        · rw [if_pos (bI_0.mpr qP), if_neg qP]
          by_cases qQ : Q
          · obtain ⟨p3, p4⟩ := hQ qQ
            rw [if_neg (fun w => (bI_0.mp w) qQ), if_pos qQ, g4_0 kd, some_bind, iI_add, aL_ok ke (by omega) (by omega) (by omega), some_bind, v2 (b2 + (j : Int)) (by omega), s4_joined kd hk, some_bind]
            dsimp only
            rw [cc.2.1.2.2.2.2, s4_p174 R cc w0 (by omega)]
            rfl
          · rw [if_pos (bI_0.mpr qQ), if_neg qQ, s4_p174 R cc w0 (by omega)]
      · rw [wJ_5]
        by_cases q : t = j
        · rw [q, if_pos ⟨rfl, rfl⟩]
        · rw [if_neg (fun w => q (by have := w.2; omega)), v1 t (by omega)]
      · rw [wJ_5, if_neg (fun w => hz (by have := w.2; omega)), v2 z (by omega)])
    (fun q ha => by
      obtain ⟨C, rfl, f1, v1, v2⟩ := ha
      have cc : RC C d p r V ed S G L T k := RC_nF R (nF_ro f1) c
      have T1 := cc.2.2.2.2.2.2.2
      refine ⟨St E C, ?_, C, rfl, f1, v1, v2⟩
      unfold fX4_passLayer_l107
      dsimp only
      rw [g4_9 kd, some_bind, cc.2.1.2.2.2.1, if_pos (by rw [iI_le (by omega) (by omega) (by omega) (by omega)]; omega)]) (N := FU) (by show T < 1000000; have := c.2.2.2.2.2.2.2; omega) (a := (iI 0, St E B)) ⟨B, rfl, roF_rfl, fun t ht => by omega, fun z _ => rfl⟩
  exact ⟨C, e1, f1, fun t ht => (v1 t ht).trans (hf t), v2⟩
end PSL
