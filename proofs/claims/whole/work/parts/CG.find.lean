/-! the class's Guide: the way is found -/
def fnF (d : Nat) (B C : Bk) : Prop := (∀ e j, ¬ (e = d + 4 ∧ 4 ≤ j ∧ j ≤ 6) → C.1 e j = B.1 e j) ∧ C.2.1 = B.2.1 ∧ (∀ e j, ¬ (e = d + 4 ∧ j = 3) → C.2.2.1 e j = B.2.2.1 e j) ∧ (∀ e, e ≠ d + 5 → C.2.2.2.1 e = B.2.2.2.1 e) ∧ ∀ e, e ≠ d + 1 → C.2.2.2.2 e = B.2.2.2.2 e
section GDF
variable {E : Ev} {B C : Bk} {V : Vy} {S d p sd G n h s u l c e cT lT L c0 r q : Nat}
theorem plG_p (hh : h ≤ e + 1) (hs : s ≤ sd) (hu : u ≤ G) (hl : l < n) : plG sd G n h s u l < (e + 2) * (sd + 1) * (G + 1) * n := by
  unfold plG
  have y0 : h * (sd + 1) + s < (e + 2) * (sd + 1) := by
    have : (h + 1) * (sd + 1) ≤ (e + 2) * (sd + 1) := Nat.mul_le_mul_right _ (by omega)
    rw [Nat.add_mul h 1] at this
    omega
  have y1 : (h * (sd + 1) + s) * (G + 1) + u < (e + 2) * (sd + 1) * (G + 1) := by
    have : (h * (sd + 1) + s + 1) * (G + 1) ≤ (e + 2) * (sd + 1) * (G + 1) := Nat.mul_le_mul_right _ y0
    rw [Nat.add_mul _ 1] at this
    omega
  have : ((h * (sd + 1) + s) * (G + 1) + u + 1) * n ≤ (e + 2) * (sd + 1) * (G + 1) * n := Nat.mul_le_mul_right _ y1
  rw [Nat.add_mul _ 1] at this
  omega
theorem s1_clear {x2 x4 x5 : Int32} {P : Nat} (K : RKD E d) (hm : B.2.2.1 (d + 4) 1 = some (d + 1)) (hP : P ≤ 16000) : ∃ C, iter (fX1_find_l92 (E.1 + (d + 4)) x2 x4 x5 (iI (P : Int))) FU (iI 0, St E B) = some (St E C) ∧ mgF d B C ∧ ∀ z : Int, 0 ≤ z → z < (P : Int) → C.2.2.2.2 (d + 1) z = 0 := by
  have k1 := K.2.1.1
  obtain ⟨z, e1, C, rfl, e2, e3⟩ := iter_acc (F := fX1_find_l92 (E.1 + (d + 4)) x2 x4 x5 (iI (P : Int))) (fun j b => ∃ C, b = (iI (j : Int), St E C) ∧ mgF d B C ∧ ∀ z : Int, 0 ≤ z → z < (j : Int) → C.2.2.2.2 (d + 1) z = 0) P (fun b => ∃ C, b = St E C ∧ mgF d B C ∧ ∀ z : Int, 0 ≤ z → z < (P : Int) → C.2.2.2.2 (d + 1) z = 0)
    (fun j b hj hb => by
      obtain ⟨C, rfl, f, w⟩ := hb
      refine ⟨(iI ((j + 1 : Nat) : Int), St E (wJ C (d + 1) (j : Int) 0)), ?_, _, rfl, mgF_tr f mgF_wJ, fun z z0 z1 => ?_⟩
      · unfold fX1_find_l92
        dsimp only
        rw [if_neg (by rw [iI_le (by omega) (by omega) (by omega) (by omega)]; omega), g1_1 k1 (by rw [f.2.2.1]; exact hm), some_bind, sL_ok K.1.2.1 (by omega) (by omega) (by omega), some_bind, iI_add]
        rfl
      · rw [wJ_5]
        by_cases q : z = (j : Int)
        · rw [if_pos ⟨rfl, q⟩]
        · rw [if_neg (fun w => q w.2)]
          exact w z z0 (by omega))
    (fun b hb => by
      obtain ⟨C, rfl, w⟩ := hb
      refine ⟨St E C, ?_, C, rfl, w⟩
      unfold fX1_find_l92
      dsimp only
      rw [if_pos (by rw [iI_le (by omega) (by omega) (by omega) (by omega)]; omega)]) (N := FU) (by show P < 1000000; omega) (a := (iI 0, St E B)) ⟨B, rfl, mgF_rfl, fun z z0 z1 => by omega⟩
  exact ⟨C, e1, e2, e3⟩
theorem s1_goal {x2 : Int32} (K : RKD E d) (kp : VK E p) (g : GC B d p V sd G) (h6 : B.1 (d + 4) 6 = (e : Int)) (hV : VOK V) (hn : V.1 3 = (n : Int)) (he : (e : Int) < V.1 4) (s9 : sd ≤ 9) (g9 : G ≤ 9) (cok : cOK (V.1 1) (V.1 2) (cT : Int)) (hl : lT < n) (hz : ∀ z : Int, 0 ≤ z → z < (((e + 2) * (sd + 1) * (G + 1) * n : Nat) : Int) → B.2.2.2.2 (d + 1) z = 0) : ∃ C, iter (fX1_find_l116 (E.1 + (d + 4)) x2 (iI (cT : Int)) (iI (lT : Int))) FU (iI 0, St E B) = some (St E C) ∧ mgF d B C ∧ mgA C d V S G n sd e cT lT (e + 1) := by
  have k1 := K.2.1.1
  have v1 := hV.1
  have v2 := hV.2.1
  have v3 := hV.2.2.1
  have v4 := hV.2.2.2.1
  have c64 := cOK_64 cok v1.2 v2.2
  obtain ⟨z, e1, C, rfl, e2, e3⟩ := iter_acc (F := fX1_find_l116 (E.1 + (d + 4)) x2 (iI (cT : Int)) (iI (lT : Int))) (fun j b => ∃ C, b = (iI (j : Int), St E C) ∧ mgF d B C ∧ ∀ s u l, s ≤ sd → u ≤ G → l < n → C.2.2.2.2 (d + 1) ((plG sd G n (e + 1) s u l : Nat) : Int) = if s = sd ∧ l = lT ∧ u < j then lsh 1 (iI (cT : Int)) else 0) (G + 1) (fun b => ∃ C, b = St E C ∧ mgF d B C ∧ ∀ s u l, s ≤ sd → u ≤ G → l < n → C.2.2.2.2 (d + 1) ((plG sd G n (e + 1) s u l : Nat) : Int) = if s = sd ∧ l = lT ∧ u < G + 1 then lsh 1 (iI (cT : Int)) else 0)
    (fun j b hj hb => by
      obtain ⟨C, rfl, f, w⟩ := hb
      have gc := GC_mgF f g
      have pb := plG_b (h := e + 1) (s := sd) (u := j) (l := lT) (sd := sd) (G := G) (n := n) (by omega) (by omega) (by omega) hl s9 g9 (by omega)
      refine ⟨(iI ((j + 1 : Nat) : Int), St E (wJ C (d + 1) ((plG sd G n (e + 1) sd j lT : Nat) : Int) (lsh 1 (iI (cT : Int))))), ?_, _, rfl, mgF_tr f mgF_wJ, fun s u l hs hu hl' => ?_⟩
      · unfold fX1_find_l116
        dsimp only
        have h6' : C.1 (d + 4) 6 = (e : Int) := by rw [f.1]; exact h6
        rw [g1_5 k1, some_bind, gc.2.1.2, if_neg (by rw [iI_lt (by omega) (by omega) (by omega) (by omega)]; omega), g1_1 k1 gc.1.1, some_bind, g1_6 k1, some_bind, g1_4 k1, some_bind, h6', gc.2.1.1, iI_add, show (e : Int) + 1 = ((e + 1 : Nat) : Int) by omega, s1_placeOf K kp gc hn, some_bind]
        dsimp only
        rw [s8_bitO, some_bind]
        dsimp only
        rw [sL_ok K.1.2.1 (by omega) (by omega) (by omega), some_bind, iI_add]
        rfl
      · rw [wJ_5]
        by_cases q : s = sd ∧ u = j ∧ l = lT
        · obtain ⟨rfl, rfl, rfl⟩ := q
          rw [if_pos ⟨rfl, rfl⟩, if_pos ⟨rfl, rfl, by omega⟩]
        · rw [if_neg (fun w => q (by
            have := plG_inj hs hu hl' (Nat.le_refl sd) (show j ≤ G by omega) hl (show plG sd G n (e + 1) s u l = plG sd G n (e + 1) sd j lT by omega)
            exact this.2)), w s u l hs hu hl']
          by_cases q2 : s = sd ∧ l = lT ∧ u < j
          · rw [if_pos q2, if_pos ⟨q2.1, q2.2.1, by omega⟩]
          · rw [if_neg q2, if_neg (by omega)])
    (fun b hb => by
      obtain ⟨C, rfl, f, w⟩ := hb
      have gc := GC_mgF f g
      refine ⟨St E C, ?_, C, rfl, f, w⟩
      unfold fX1_find_l116
      dsimp only
      rw [g1_5 k1, some_bind, gc.2.1.2, if_pos (by rw [iI_lt (by omega) (by omega) (by omega) (by omega)]; omega)]) (N := FU) (by show G + 1 < 1000000; omega) (a := (iI 0, St E B)) ⟨B, rfl, mgF_rfl, fun s u l hs hu hl' => by
      rw [if_neg (by omega)]
      exact hz _ (by omega) (by have := plG_p (h := e + 1) (e := e) (Nat.le_refl _) hs hu hl'; omega)⟩
  refine ⟨C, e1, e2, fun s u l c hs hu hl' hc => ?_⟩
  rw [e3 s u l hs hu hl', Ld_end]
  by_cases q : s = sd ∧ l = lT ∧ u < G + 1
  · rw [if_pos q, tb_one (by omega) hc, decide_eq_true_eq]
    constructor
    · rintro rfl
      exact ⟨cok, rfl, q.2.1.symm, q.1.symm⟩
    · rintro ⟨-, e, -⟩
      exact e.symm
  · rw [if_neg q, tb_0]
    constructor
    · intro w
      cases w
    · rintro ⟨-, -, e1, e2⟩
      exact absurd ⟨e2.symm, e1.symm, by omega⟩ q
end GDF
