/-! the class's Roamer: doors marked on a tour -/
def dmN (V : Vy) (c : Nat) : Nat → Nat
  | 0 => 0
  | j + 1 => dmN V c j ||| (if V.2.2.2.1 (j : Int) 1 * 8 + V.2.2.2.1 (j : Int) 0 = (c : Int) then 2 ^ j else 0)
def upD (V : Vy) : Nat → Nat → Nat → Nat := fun l c t => if (l : Int) ≤ V.1 6 then t ||| dmN V c (V.1 9).toNat else t
theorem dmN_lt {V : Vy} {c : Nat} : ∀ {j D : Nat}, j ≤ D → dmN V c j < 2 ^ D
  | 0, D, _ => Nat.two_pow_pos D
  | j + 1, D, h => by
    show dmN V c j ||| (if _ then 2 ^ j else 0) < 2 ^ D
    refine Nat.or_lt_two_pow (dmN_lt (by omega)) ?_
    split
    · exact Nat.pow_lt_pow_right (by omega) (by omega)
    · exact Nat.two_pow_pos D
theorem md_b0 : ∀ c : Fin 32, ∀ d : Fin 5, ((isr (iI (c.val : Int)) (iI (d.val : Int)) &&& iI 1) = 0) = (c.val.testBit d.val = false) := by decide +kernel
theorem md_or2 : ∀ m : Fin 32, ∀ d : Fin 5, (m.val.testBit d.val = true → m.val ||| 2 ^ d.val = m.val) ∧ (m.val ||| 2 ^ d.val).testBit d.val = true ∧ (m.val.testBit d.val = false → m.val < m.val ||| 2 ^ d.val) := by decide +kernel
/-- tags below j have taken the door i -/
def stM (i j t : Nat) : Nat := if t < j then t ||| 2 ^ i else t
section MRK
variable {E : Ev} {B : Bk} {d p r S G L n T D : Nat} {V : Vy} {ed : Int → Int64} {k : Int} {a : Int}
theorem s4_mk78 {i c : Nat} {x2 : Int64} (R : RE E d p r) (cc : RC B d p r V ed S G L T k) (hT : T = 2 ^ D) (hD : D ≤ 5) (hi : i < D) (hc : c < 64) (a0 : 0 ≤ a ∧ a + (T : Int) ≤ 16000) (hx : ∀ t : Nat, t < T → tb (B.2.2.2.2 (d + 1) (a + (t : Int))) c = true → tb x2 c = true) : ∃ C, iter (fX4_markDoors_l78 (E.1 + d) (iI a) x2 (iI (i : Int)) (lsh 1 (iI (c : Int)))) FU (iI 0, St E B) = some (St E C) ∧ roF d B C ∧ (∀ z, ¬ (a ≤ z ∧ z < a + (T : Int)) → C.2.2.2.2 (d + 1) z = B.2.2.2.2 (d + 1) z) ∧ ∀ t : Nat, t < T → ∀ b : Nat, b < 64 → (tb (C.2.2.2.2 (d + 1) (a + (t : Int))) b = true ↔ (b ≠ c ∧ tb (B.2.2.2.2 (d + 1) (a + (t : Int))) b = true) ∨ (b = c ∧ ∃ t0 : Nat, t0 < T ∧ tb (B.2.2.2.2 (d + 1) (a + (t0 : Int))) c = true ∧ t0 ||| 2 ^ i = t)) := by
  have T1 := cc.2.2.2.2.2.2.2
  have kd := R.1.1
  have orl : ∀ t, t < T → t ||| 2 ^ i < T := fun t ht => by
    rw [hT] at ht ⊢
    exact Nat.or_lt_two_pow ht (Nat.pow_lt_pow_right (by omega) hi)
  by_cases q : x2 &&& lsh 1 (iI (c : Int)) = 0
  · have zc := (and_bit hc).mp q
    have nz : ∀ t : Nat, t < T → ¬ tb (B.2.2.2.2 (d + 1) (a + (t : Int))) c = true := fun t ht w => by
      rw [hx t ht w] at zc
      cases zc
    refine ⟨B, iter_r ?_ (by decide), roF_rfl, fun _ _ => rfl, fun t ht b hb => ?_⟩
    · unfold fX4_markDoors_l78
      dsimp only
      rw [g4_9 kd, some_bind, cc.2.1.2.2.2.1, if_neg (by rw [iI_le (by omega) (by omega) (by omega) (by omega)]; have := cc.2.2.2.2.2.2.1; omega), if_pos ((lg_cmp_eq _ _).mpr q)]
    · by_cases e : b = c
      · subst e
        constructor
        · intro w
          exact absurd w (nz t ht)
        · rintro (w | ⟨-, t0, h1, h2, -⟩)
          · exact absurd rfl w.1
          · exact absurd h2 (nz t0 h1)
      · constructor
        · intro w
          exact Or.inl ⟨e, w⟩
        · rintro (w | w)
          · exact w.2
          · exact absurd w.1 e
  · obtain ⟨r1, e1, C, rfl, f1, v1, w1⟩ := iter_acc (F := fX4_markDoors_l78 (E.1 + d) (iI a) x2 (iI (i : Int)) (lsh 1 (iI (c : Int)))) (fun j q => ∃ C, q = (iI (j : Int), St E C) ∧ roF d B C ∧ (∀ z, ¬ (a ≤ z ∧ z < a + (T : Int)) → C.2.2.2.2 (d + 1) z = B.2.2.2.2 (d + 1) z) ∧ ∀ t : Nat, t < T → ∀ b : Nat, b < 64 → (tb (C.2.2.2.2 (d + 1) (a + (t : Int))) b = true ↔ (b ≠ c ∧ tb (B.2.2.2.2 (d + 1) (a + (t : Int))) b = true) ∨ (b = c ∧ ∃ t0 : Nat, t0 < T ∧ tb (B.2.2.2.2 (d + 1) (a + (t0 : Int))) c = true ∧ stM i j t0 = t))) T (fun q => ∃ C, q = St E C ∧ roF d B C ∧ (∀ z, ¬ (a ≤ z ∧ z < a + (T : Int)) → C.2.2.2.2 (d + 1) z = B.2.2.2.2 (d + 1) z) ∧ ∀ t : Nat, t < T → ∀ b : Nat, b < 64 → (tb (C.2.2.2.2 (d + 1) (a + (t : Int))) b = true ↔ (b ≠ c ∧ tb (B.2.2.2.2 (d + 1) (a + (t : Int))) b = true) ∨ (b = c ∧ ∃ t0 : Nat, t0 < T ∧ tb (B.2.2.2.2 (d + 1) (a + (t0 : Int))) c = true ∧ t0 ||| 2 ^ i = t)))
      (fun j q2 hj ha => by
        obtain ⟨C, rfl, f1, v1, w1⟩ := ha
        have c2 : RC C d p r V ed S G L T k := RC_nF R (nF_ro f1) cc
        have hd : fX4_markDoors_l78 (E.1 + d) (iI a) x2 (iI (i : Int)) (lsh 1 (iI (c : Int))) (iI (j : Int), St E C) = if (isr (iI (j : Int)) (iI (i : Int)) &&& iI 1) = 0 then (fX4_moveTag (E.1 + d) (iI a + iI (j : Int)) (iI a + (iI (j : Int) ||| ish (iI 1) (iI (i : Int)))) (lsh 1 (iI (c : Int))) (St E C)).bind (fun s20 => fX4_markDoors_b125 (E.1 + d) (iI a) x2 (iI (i : Int)) (lsh 1 (iI (c : Int))) (iI (j : Int)) s20) else fX4_markDoors_b125 (E.1 + d) (iI a) x2 (iI (i : Int)) (lsh 1 (iI (c : Int))) (iI (j : Int)) (St E C) := by
          unfold fX4_markDoors_l78
          dsimp only
          rw [g4_9 kd, some_bind, c2.2.1.2.2.2.1, if_neg (by rw [iI_le (by omega) (by omega) (by omega) (by omega)]; omega), if_neg (fun w => q ((lg_cmp_eq _ _).mp w))]
        rw [hd]
        have m0 := md_b0 ⟨j, by omega⟩ ⟨i, by omega⟩
        have m2 := md_or2 ⟨j, by omega⟩ ⟨i, by omega⟩
        simp only at m0 m2
        by_cases qb : j.testBit i = false
        · have lt := m2.2.2 qb
          have ol := orl j hj
          rw [if_pos (m0 ▸ qb), md_or ⟨j, by omega⟩ ⟨i, by omega⟩, iI_add, iI_add]
          obtain ⟨C', g1, g2, g3, g4⟩ := s4_moveTag (E := E) (B := C) (d := d) (x := a + (j : Int)) (y := a + ((j ||| 2 ^ i : Nat) : Int)) (m := lsh 1 (iI (c : Int))) kd R.1.2.1 (by omega) (by omega) (by omega)
          dsimp only
          rw [g1, some_bind]
          unfold fX4_markDoors_b125
          refine ⟨(iI ((j + 1 : Nat) : Int), St E C'), by rw [iI_add]; rfl, C', rfl, roF_tr f1 g2, fun z hz => ?_, fun t ht b hb => ?_⟩
          · rw [g3 z (by omega) (by omega), v1 z hz]
          · have own : ∀ t0 : Nat, stM i j t0 = j → t0 = j := fun t0 e => by
              unfold stM at e
              split at e
              · rename_i q3
                have := (md_or2 ⟨t0, by omega⟩ ⟨i, by omega⟩).2.1
                simp only at this
                rw [e, qb] at this
                cases this
              · exact e
            have stn : ∀ t0 : Nat, stM i (j + 1) t0 = if t0 = j then j ||| 2 ^ i else stM i j t0 := fun t0 => by
              unfold stM
              by_cases e : t0 = j
              · rw [if_pos e, if_pos (by omega), e]
              · rw [if_neg e]
                by_cases e2 : t0 < j
                · rw [if_pos e2, if_pos (by omega)]
                · rw [if_neg e2, if_neg (by omega)]
            have stj : stM i j j = j := by unfold stM; rw [if_neg (by omega)]
            have wj := w1 j hj b hb
            by_cases t1 : t = j
            · subst t1
              rw [(g4 b hb).1, tb_one hc hb, Bool.and_eq_true, wj]
              by_cases e : b = c
              · constructor
                · intro w
                  rw [decide_eq_true e] at w
                  exact absurd w.2 (by decide)
                · rintro (w | ⟨-, t0, h1, h2, h3⟩)
                  · exact absurd e w.1
                  · rw [stn] at h3
                    by_cases e3 : t0 = t
                    · rw [if_pos e3] at h3
                      omega
                    · rw [if_neg e3] at h3
                      exact absurd (own t0 h3) e3
              · rw [decide_eq_false e]
                constructor
                · rintro ⟨w | w, -⟩
                  · exact Or.inl w
                  · exact absurd w.1 e
                · rintro (w | w)
                  · exact ⟨Or.inl w, rfl⟩
                  · exact absurd w.1 e
            · by_cases t2 : t = j ||| 2 ^ i
              · have wy := w1 (j ||| 2 ^ i) ol b hb
                rw [t2, (g4 b hb).2, Bool.or_eq_true, Bool.and_eq_true, tb_one hc hb, wj, wy]
                by_cases e : b = c
                · constructor
                  · rintro ((w | ⟨-, t0, h1, h2, h3⟩) | ⟨w | ⟨-, t0, h1, h2, h3⟩, -⟩)
                    · exact absurd e w.1
                    · refine Or.inr ⟨e, t0, h1, h2, ?_⟩
                      rw [stn]
                      by_cases e3 : t0 = j
                      · rw [if_pos e3]
                      · rw [if_neg e3]
                        exact h3
                    · exact absurd e w.1
                    · exact Or.inr ⟨e, j, hj, by rw [← own t0 h3]; exact h2, by rw [stn, if_pos rfl]⟩
                  · rintro (w | ⟨-, t0, h1, h2, h3⟩)
                    · exact absurd e w.1
                    · rw [stn] at h3
                      by_cases e3 : t0 = j
                      · exact Or.inr ⟨Or.inr ⟨e, j, hj, by rw [← e3]; exact h2, stj⟩, decide_eq_true e⟩
                      · rw [if_neg e3] at h3
                        exact Or.inl (Or.inr ⟨e, t0, h1, h2, h3⟩)
                · rw [decide_eq_false e]
                  constructor
                  · rintro ((w | w) | ⟨-, w⟩)
                    · exact Or.inl w
                    · exact absurd w.1 e
                    · cases w
                  · rintro (w | w)
                    · exact Or.inl (Or.inl w)
                    · exact absurd w.1 e
              · rw [g3 _ (by omega) (by omega), w1 t ht b hb]
                constructor
                · rintro (w | ⟨e, t0, h1, h2, h3⟩)
                  · exact Or.inl w
                  · refine Or.inr ⟨e, t0, h1, h2, ?_⟩
                    rw [stn, if_neg (fun e3 => t1 (by rw [← h3, e3, stj]))]
                    exact h3
                · rintro (w | ⟨e, t0, h1, h2, h3⟩)
                  · exact Or.inl w
                  · refine Or.inr ⟨e, t0, h1, h2, ?_⟩
                    rw [stn] at h3
                    by_cases e3 : t0 = j
                    · rw [if_pos e3] at h3
                      exact absurd h3.symm t2
                    · rw [if_neg e3] at h3
                      exact h3
        · have qt : j.testBit i = true := by
            cases e : j.testBit i
            · exact absurd e qb
            · rfl
          have same := m2.1 qt
          rw [if_neg (m0 ▸ qb)]
          unfold fX4_markDoors_b125
          refine ⟨(iI ((j + 1 : Nat) : Int), St E C), by rw [iI_add]; rfl, C, rfl, f1, v1, fun t ht b hb => ?_⟩
          have stn : ∀ t0 : Nat, stM i (j + 1) t0 = stM i j t0 := fun t0 => by
            unfold stM
            by_cases e : t0 = j
            · rw [if_pos (by omega), if_neg (by omega), e]
              exact same
            · by_cases e2 : t0 < j
              · rw [if_pos e2, if_pos (by omega)]
              · rw [if_neg e2, if_neg (by omega)]
          simp only [stn]
          exact w1 t ht b hb)
      (fun q2 ha => by
        obtain ⟨C, rfl, f1, v1, w1⟩ := ha
        have c2 : RC C d p r V ed S G L T k := RC_nF R (nF_ro f1) cc
        refine ⟨St E C, ?_, C, rfl, f1, v1, fun t ht b hb => ?_⟩
        · unfold fX4_markDoors_l78
          dsimp only
          rw [g4_9 kd, some_bind, c2.2.1.2.2.2.1, if_pos (by rw [iI_le (by omega) (by omega) (by omega) (by omega)]; omega)]
        · rw [w1 t ht b hb]
          constructor
          · rintro (w | ⟨e, t0, h1, h2, h3⟩)
            · exact Or.inl w
            · unfold stM at h3
              rw [if_pos h1] at h3
              exact Or.inr ⟨e, t0, h1, h2, h3⟩
          · rintro (w | ⟨e, t0, h1, h2, h3⟩)
            · exact Or.inl w
            · refine Or.inr ⟨e, t0, h1, h2, ?_⟩
              unfold stM
              rw [if_pos h1]
              exact h3) (N := FU) (by show T < 1000000; omega) (a := (iI 0, St E B)) ⟨B, rfl, roF_rfl, fun _ _ => rfl, fun t ht b hb => by
        have st0 : ∀ t0, stM i 0 t0 = t0 := fun t0 => by unfold stM; rw [if_neg (by omega)]
        simp only [st0]
        by_cases e : b = c
        · subst e
          constructor
          · intro w
            exact Or.inr ⟨rfl, t, ht, w, rfl⟩
          · rintro (w | ⟨-, t0, h1, h2, rfl⟩)
            · exact absurd rfl w.1
            · exact h2
        · constructor
          · intro w
            exact Or.inl ⟨e, w⟩
          · rintro (w | w)
            · exact w.2
            · exact absurd w.1 e⟩
    exact ⟨C, e1, f1, v1, w1⟩
end MRK
