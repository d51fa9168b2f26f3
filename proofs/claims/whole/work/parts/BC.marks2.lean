/-! the class's Roamer: what is noted of a state on a tour -/
def mnP (x x0 : Int) (P : Int → Prop) : Prop := (x = x0 ∨ P x) ∧ x ≤ x0 ∧ ∀ y, P y → x ≤ y
theorem mnP_0 {x : Int} {P : Int → Prop} (h : ∀ y, ¬ P y) : mnP x x P := ⟨Or.inl rfl, Int.le_refl _, fun y w => absurd w (h y)⟩
theorem mnP_add {x x0 y : Int} {P Q : Int → Prop} (h : mnP x x0 P) (e : ∀ z, Q z ↔ P z ∨ z = y) : mnP (min x y) x0 Q := by
  obtain ⟨h1, h2, h3⟩ := h
  refine ⟨?_, by omega, fun z w => ?_⟩
  · by_cases q : x ≤ y
    · rw [show min x y = x by omega]
      rcases h1 with w | w
      · exact Or.inl w
      · exact Or.inr ((e x).mpr (Or.inl w))
    · rw [show min x y = y by omega]
      exact Or.inr ((e y).mpr (Or.inr rfl))
  · rcases (e z).mp w with w | w
    · have := h3 z w
      omega
    · omega
theorem mnP_iff {x x0 : Int} {P Q : Int → Prop} (h : mnP x x0 P) (e : ∀ z, Q z ↔ P z) : mnP x x0 Q := ⟨h.1.imp (fun w => w) (fun w => (e x).mpr w), h.2.1, fun y w => h.2.2 y ((e y).mp w)⟩
section MRL
variable {E : Ev} {B : Bk} {d p r S G L n T D : Nat} {V : Vy} {ed : Int → Int64} {k : Int} {a : Int}
theorem s4_mk5 (R : RE E d p r) (cc : RC B d p r V ed S G L T k) (a0 : 0 ≤ a ∧ a + (T : Int) ≤ 16000) : ∃ x, iter (fX4_markDoors_l5 (E.1 + d) (iI a)) FU (0, iI 0, St E B) = some (x, St E B) ∧ ∀ b, b < 64 → (tb x b = true ↔ ∃ t : Nat, t < T ∧ tb (B.2.2.2.2 (d + 1) (a + (t : Int))) b = true) := by
  have T1 := cc.2.2.2.2.2.2.2
  obtain ⟨z, e1, x, rfl, v1⟩ := iter_acc (F := fX4_markDoors_l5 (E.1 + d) (iI a)) (fun j q => ∃ x, q = (x, iI (j : Int), St E B) ∧ ∀ b, b < 64 → (tb x b = true ↔ ∃ t : Nat, t < j ∧ tb (B.2.2.2.2 (d + 1) (a + (t : Int))) b = true)) T (fun q => ∃ x, q = (x, St E B) ∧ ∀ b, b < 64 → (tb x b = true ↔ ∃ t : Nat, t < T ∧ tb (B.2.2.2.2 (d + 1) (a + (t : Int))) b = true))
    (fun j q hj ha => by
      obtain ⟨x, rfl, v1⟩ := ha
      refine ⟨(x ||| B.2.2.2.2 (d + 1) (a + (j : Int)), iI ((j + 1 : Nat) : Int), St E B), ?_, _, rfl, fun b hb => ?_⟩
      · unfold fX4_markDoors_l5
        dsimp only
        rw [g4_9 R.1.1, some_bind, cc.2.1.2.2.2.1, if_neg (by rw [iI_le (by omega) (by omega) (by omega) (by omega)]; omega), g4_0 R.1.1, some_bind, iI_add, aL_ok R.1.2.1 (by omega) (by omega) (by omega), some_bind]
        unfold lt_
        rw [iI_add]
        rfl
      · rw [tb_or, Bool.or_eq_true, v1 b hb]
        constructor
        · rintro (⟨t, h1, h2⟩ | w)
          · exact ⟨t, by omega, h2⟩
          · exact ⟨j, by omega, w⟩
        · rintro ⟨t, h1, h2⟩
          by_cases e : t = j
          · exact Or.inr (e ▸ h2)
          · exact Or.inl ⟨t, by omega, h2⟩)
    (fun q ha => by
      obtain ⟨x, rfl, v1⟩ := ha
      refine ⟨(x, St E B), ?_, x, rfl, v1⟩
      unfold fX4_markDoors_l5
      dsimp only
      rw [g4_9 R.1.1, some_bind, cc.2.1.2.2.2.1, if_pos (by rw [iI_le (by omega) (by omega) (by omega) (by omega)]; omega)]) (N := FU) (by show T < 1000000; omega) (a := (0, iI 0, St E B)) ⟨0, rfl, fun b hb => by
      rw [tb_0]
      constructor
      · intro w
        cases w
      · rintro ⟨t, h1, -⟩
        omega⟩
  exact ⟨x, e1, v1⟩
theorem RC_d (c : RC B d p r V ed S G L T k) (i j : Int) : B.2.2.2.1 (p + 3) (i * 3 + j) = V.2.2.2.1 i j := by rw [← c.2.2.2.1]; rfl
theorem s4_markDoors (R : RE E d p r) (cc : RC B d p r V ed S G L T k) (hV : VOK V) (hT : T = 2 ^ D) (hD : V.1 9 = (D : Int)) (a0 : 0 ≤ a ∧ a + (T : Int) ≤ 16000) : ∃ C, fX4_markDoors (E.1 + d) (iI a) (St E B) = some (St E C) ∧ roF d B C ∧ (∀ z, ¬ (a ≤ z ∧ z < a + (T : Int)) → C.2.2.2.2 (d + 1) z = B.2.2.2.2 (d + 1) z) ∧ ∀ t : Nat, t < T → ∀ b : Nat, b < 64 → (tb (C.2.2.2.2 (d + 1) (a + (t : Int))) b = true ↔ ∃ t0 : Nat, t0 < T ∧ tb (B.2.2.2.2 (d + 1) (a + (t0 : Int))) b = true ∧ t0 ||| dmN V b D = t) := by
  have v1' := hV.1
  have v2' := hV.2.1
  have v9 := hV.2.2.2.2.2.2.2.2.1
  have hdb := hV.2.2.2.2.2.2.2.2.2.2.2.1
  obtain ⟨x, ex, vx⟩ := s4_mk5 (a := a) R cc a0
  obtain ⟨z, e1, C, rfl, f1, v1, w1⟩ := iter_acc (F := fX4_markDoors_l35 (E.1 + d) (iI a) x) (fun j q => ∃ C, q = (iI (j : Int), St E C) ∧ roF d B C ∧ (∀ z, ¬ (a ≤ z ∧ z < a + (T : Int)) → C.2.2.2.2 (d + 1) z = B.2.2.2.2 (d + 1) z) ∧ ∀ t : Nat, t < T → ∀ b : Nat, b < 64 → (tb (C.2.2.2.2 (d + 1) (a + (t : Int))) b = true ↔ ∃ t0 : Nat, t0 < T ∧ tb (B.2.2.2.2 (d + 1) (a + (t0 : Int))) b = true ∧ t0 ||| dmN V b j = t)) D (fun q => ∃ C, q = St E C ∧ roF d B C ∧ (∀ z, ¬ (a ≤ z ∧ z < a + (T : Int)) → C.2.2.2.2 (d + 1) z = B.2.2.2.2 (d + 1) z) ∧ ∀ t : Nat, t < T → ∀ b : Nat, b < 64 → (tb (C.2.2.2.2 (d + 1) (a + (t : Int))) b = true ↔ ∃ t0 : Nat, t0 < T ∧ tb (B.2.2.2.2 (d + 1) (a + (t0 : Int))) b = true ∧ t0 ||| dmN V b D = t))
    (fun j q hj ha => by
      obtain ⟨C, rfl, f1, v1, w1⟩ := ha
      have c2 : RC C d p r V ed S G L T k := RC_nF R (nF_ro f1) cc
      have db := hdb (j : Int) (by omega) (by omega)
      obtain ⟨c, hc⟩ : ∃ c : Nat, V.2.2.2.1 (j : Int) 1 * 8 + V.2.2.2.1 (j : Int) 0 = (c : Int) := ⟨(V.2.2.2.1 (j : Int) 1 * 8 + V.2.2.2.1 (j : Int) 0).toNat, by omega⟩
      obtain ⟨C', g1, g2, g3, g4⟩ := s4_mk78 (i := j) (c := c) (x2 := x) (a := a) R c2 hT (by omega) hj (by omega) a0 (fun t ht w => by
        obtain ⟨t0, h1, h2, -⟩ := (w1 t ht c (by omega)).mp w
        exact (vx c (by omega)).mpr ⟨t0, h1, h2⟩)
      refine ⟨(iI ((j + 1 : Nat) : Int), St E C'), ?_, C', rfl, roF_tr f1 g2, fun z hz => (g3 z hz).trans (v1 z hz), fun t ht b hb => ?_⟩
      · unfold fX4_markDoors_l35
        dsimp only
        rw [g4_4 R.1.1 c2.1.1, some_bind, g6_9 R.2.1.1, some_bind, RC_v c2, hD, if_neg (by rw [iI_le (by omega) (by omega) (by omega) (by omega)]; omega), some_bind, s_doorFact R.2.1 (by omega) (by omega) (by omega) (by omega), some_bind]
        dsimp only
        rw [g4_4 R.1.1 c2.1.1, some_bind, s_doorFact R.2.1 (by omega) (by omega) (by omega) (by omega), some_bind]
        dsimp only
        rw [RC_d c2, RC_d c2, s_columnOf, some_bind, s8_bitO, some_bind, hc]
        dsimp only
        rw [g1, some_bind]
        unfold fX4_markDoors_b131
        rw [iI_add]
        rfl
      · have en : dmN V b (j + 1) = dmN V b j ||| (if b = c then 2 ^ j else 0) := by
          show dmN V b j ||| (if _ then 2 ^ j else 0) = _
          congr 1
          rw [hc]
          by_cases e : b = c
          · rw [if_pos e, if_pos (by omega)]
          · rw [if_neg e, if_neg (by omega)]
        rw [g4 t ht b hb, en]
        by_cases e : b = c
        · subst e
          rw [if_pos rfl]
          constructor
          · rintro (w | ⟨-, t0, h1, h2, h3⟩)
            · exact absurd rfl w.1
            · obtain ⟨t1, h4, h5, h6⟩ := (w1 t0 h1 b hb).mp h2
              exact ⟨t1, h4, h5, by rw [← Nat.or_assoc, h6]; exact h3⟩
          · rintro ⟨t1, h4, h5, h6⟩
            have lt1 : t1 ||| dmN V b j < T := by
              rw [hT] at h4 ⊢
              exact Nat.or_lt_two_pow h4 (dmN_lt (by omega))
            exact Or.inr ⟨rfl, t1 ||| dmN V b j, lt1, (w1 _ lt1 b hb).mpr ⟨t1, h4, h5, rfl⟩, by rw [Nat.or_assoc]; exact h6⟩
        · rw [if_neg e, Nat.or_zero, w1 t ht b hb]
          constructor
          · rintro (w | w)
            · exact w.2
            · exact absurd w.1 e
          · intro w
            exact Or.inl ⟨e, w⟩)
    (fun q ha => by
      obtain ⟨C, rfl, f1, v1, w1⟩ := ha
      have c2 : RC C d p r V ed S G L T k := RC_nF R (nF_ro f1) cc
      refine ⟨St E C, ?_, C, rfl, f1, v1, w1⟩
      unfold fX4_markDoors_l35
      dsimp only
      rw [g4_4 R.1.1 c2.1.1, some_bind, g6_9 R.2.1.1, some_bind, RC_v c2, hD, if_pos (by rw [iI_le (by omega) (by omega) (by omega) (by omega)]; omega)]) (N := FU) (by show D < 1000000; omega) (a := (iI 0, St E B)) ⟨B, rfl, roF_rfl, fun _ _ => rfl, fun t ht b hb => by
      constructor
      · intro w
        exact ⟨t, ht, w, Nat.or_zero t⟩
      · rintro ⟨t0, h1, h2, h3⟩
        rw [show dmN V b 0 = 0 from rfl, Nat.or_zero] at h3
        rw [← h3]
        exact h2⟩
  refine ⟨C, ?_, f1, v1, w1⟩
  unfold fX4_markDoors
  rw [c4 R.1.1, some_bind, ex, some_bind]
  dsimp only
  rw [e1, some_bind]
/-- tours added of one state -/
theorem s4_tour19 {s hh : Int} (R : RE E d p r) (cc : RC B d p r V ed S G L T k) (k1 : k ≤ 1) (tk : tuK B r) (s0 : 0 ≤ s ∧ s ≤ 99) (h0 : -1 ≤ hh ∧ hh ≤ 99) (a0 : 0 ≤ a ∧ a + (T : Int) ≤ 16000) : ∃ C, iter (fX4_noteTours_l19 (E.1 + d) (iI s) (iI a) (iI hh)) FU (iI 0, St E B) = some (St E C) ∧ tuF r B C ∧ tuK C r ∧ ∀ m : Nat, m < 32 → tuT C r (m : Int) = (if m < T ∧ ¬ B.2.2.2.2 (d + 1) (a + (m : Int)) = 0 then min (tuT B r (m : Int)) s else tuT B r (m : Int)) ∧ tuH C r (m : Int) = (if m < T ∧ ¬ B.2.2.2.2 (d + 1) (a + (m : Int)) = 0 then min (tuH B r (m : Int)) hh else tuH B r (m : Int)) := by
  have T1 := cc.2.2.2.2.2.2.2
  have rr := R.2.2.2
  obtain ⟨z, e1, C, rfl, f1, v1, w1⟩ := iter_acc (F := fX4_noteTours_l19 (E.1 + d) (iI s) (iI a) (iI hh)) (fun j q => ∃ C, q = (iI (j : Int), St E C) ∧ tuF r B C ∧ tuK C r ∧ ∀ m : Nat, m < 32 → tuT C r (m : Int) = (if m < j ∧ ¬ B.2.2.2.2 (d + 1) (a + (m : Int)) = 0 then min (tuT B r (m : Int)) s else tuT B r (m : Int)) ∧ tuH C r (m : Int) = (if m < j ∧ ¬ B.2.2.2.2 (d + 1) (a + (m : Int)) = 0 then min (tuH B r (m : Int)) hh else tuH B r (m : Int))) T (fun q => ∃ C, q = St E C ∧ tuF r B C ∧ tuK C r ∧ ∀ m : Nat, m < 32 → tuT C r (m : Int) = (if m < T ∧ ¬ B.2.2.2.2 (d + 1) (a + (m : Int)) = 0 then min (tuT B r (m : Int)) s else tuT B r (m : Int)) ∧ tuH C r (m : Int) = (if m < T ∧ ¬ B.2.2.2.2 (d + 1) (a + (m : Int)) = 0 then min (tuH B r (m : Int)) hh else tuH B r (m : Int)))
    (fun j q hj ha => by
      obtain ⟨C, rfl, f1, v1, w1⟩ := ha
      have nf : nF d r B C := ⟨f1.1, f1.2.1, f1.2.2.1, f1.2.2.2.2, fun e _ _ => by rw [f1.2.2.2.1]⟩
      have c2 : RC C d p r V ed S G L T k := RC_nF R nf cc
      have hd : fX4_noteTours_l19 (E.1 + d) (iI s) (iI a) (iI hh) (iI (j : Int), St E C) = if lg_cmp (B.2.2.2.2 (d + 1) (a + (j : Int))) 0 = 0 then some (.inl (iI ((j + 1 : Nat) : Int), St E C)) else some (.inl (iI ((j + 1 : Nat) : Int), St E (tuW C r (j : Int) s hh))) := by
        unfold fX4_noteTours_l19 fX4_noteTours_b54
        dsimp only
        rw [g4_9 R.1.1, some_bind, c2.2.1.2.2.2.1, if_neg (by rw [iI_le (by omega) (by omega) (by omega) (by omega)]; omega), g4_0 R.1.1, some_bind, iI_add, aL_ok R.1.2.1 (by omega) (by omega) (by omega), some_bind, f1.2.2.2.1, g4_5 R.1.1 (c2.1.2 k1), some_bind, s2_addTour R.2.2.1.1 R.2.2.1.2.2.1 R.2.2.1.2.2.2 v1 (by omega) s0 h0, some_bind, iI_add]
        rfl
      rw [hd]
      by_cases q : B.2.2.2.2 (d + 1) (a + (j : Int)) = 0
      · rw [if_pos ((lg_cmp_eq _ _).mpr q)]
        refine ⟨_, rfl, C, rfl, f1, v1, fun m hm => ?_⟩
        have := w1 m hm
        by_cases e : m = j
        · rw [if_neg (fun w => w.2 (by rw [e]; exact q)), if_neg (fun w => w.2 (by rw [e]; exact q))]
          rw [if_neg (by omega), if_neg (by omega)] at this
          exact this
        · have ei : (m < j + 1 ∧ ¬ B.2.2.2.2 (d + 1) (a + (m : Int)) = 0) ↔ (m < j ∧ ¬ B.2.2.2.2 (d + 1) (a + (m : Int)) = 0) := ⟨fun w => ⟨by omega, w.2⟩, fun w => ⟨by omega, w.2⟩⟩
          simp only [ei]
          exact this
      · rw [if_neg (fun w => q ((lg_cmp_eq _ _).mp w))]
        refine ⟨_, rfl, tuW C r (j : Int) s hh, rfl, tuF_tr f1 tuW_F, tuW_K v1 (by omega) s0.1 h0.1, fun m hm => ?_⟩
        have := w1 m hm
        rw [tuW_T, tuW_H]
        by_cases e : m = j
        · subst e
          rw [if_neg (by omega), if_neg (by omega)] at this
          rw [if_pos rfl, if_pos rfl, if_pos ⟨by omega, q⟩, if_pos ⟨by omega, q⟩, this.1, this.2]
          exact ⟨rfl, rfl⟩
        · have ei : (m < j + 1 ∧ ¬ B.2.2.2.2 (d + 1) (a + (m : Int)) = 0) ↔ (m < j ∧ ¬ B.2.2.2.2 (d + 1) (a + (m : Int)) = 0) := ⟨fun w => ⟨by omega, w.2⟩, fun w => ⟨by omega, w.2⟩⟩
          simp only [ei]
          have mj : ¬ (m : Int) = (j : Int) := by omega
          rw [if_neg mj, if_neg mj]
          exact this)
    (fun q ha => by
      obtain ⟨C, rfl, f1, v1, w1⟩ := ha
      have nf : nF d r B C := ⟨f1.1, f1.2.1, f1.2.2.1, f1.2.2.2.2, fun e _ _ => by rw [f1.2.2.2.1]⟩
      have c2 : RC C d p r V ed S G L T k := RC_nF R nf cc
      refine ⟨St E C, ?_, C, rfl, f1, v1, w1⟩
      unfold fX4_noteTours_l19
      dsimp only
      rw [g4_9 R.1.1, some_bind, c2.2.1.2.2.2.1, if_pos (by rw [iI_le (by omega) (by omega) (by omega) (by omega)]; omega)]) (N := FU) (by show T < 1000000; omega) (a := (iI 0, St E B)) ⟨B, rfl, tuF_rfl, tk, fun m hm => by rw [if_neg (by omega), if_neg (by omega)]; exact ⟨rfl, rfl⟩⟩
  exact ⟨C, e1, f1, v1, w1⟩
end MRL
