/-! the other lines -/
theorem lrw_step {c w u : Int → Int} {l f d : Int} (H : LRw c w u) (l0 : 0 ≤ l) (l1 : l < 5) (f0 : 0 ≤ f) (f1 : f < 24) (d0 : 0 ≤ d) (d1 : d ≤ 4) : LRw (fun z => if z = l * 24 + f then d else c z) (fun z => if 24 * l + f ≤ z - 480 ∧ z - 480 < 24 * l + 24 ∧ u (z - 480) ≤ f then d else w z) (fun z => if 24 * l + f ≤ z ∧ z < 24 * l + 24 ∧ u z ≤ f then f else u z) := by
  intro L h L0 L1 h0 h1
  obtain ⟨o1, o2, o3, o4, o5⟩ := H L h L0 L1 h0 h1
  have e480 : 480 + (24 * L + h) - 480 = 24 * L + h := by omega
  simp only [e480]
  by_cases cu : 24 * l + f ≤ 24 * L + h ∧ 24 * L + h < 24 * l + 24 ∧ u (24 * L + h) ≤ f
  · have eL : L = l := by omega
    subst eL
    simp only [if_pos cu]
    refine ⟨?_, by omega, fun h' a b => ?_, fun a => by omega, fun _ => ?_⟩
    · split <;> omega
    · rw [if_neg (by omega)]
      exact o3 h' (by omega) b
    · rw [if_pos trivial]
      exact ⟨by omega, rfl⟩
  · simp only [if_neg cu]
    refine ⟨?_, o2, fun h' a b => ?_, o4, fun a => ?_⟩
    · split <;> omega
    · rw [if_neg (by omega)]
      exact o3 h' a b
    · rw [if_neg (by omega)]
      exact o5 a
section LS
variable {m : Nat} {C R : Bk}
theorem wdB_1 {l f d j : Int} : (wdB R l f d j).1 = R.1 := rfl
theorem wdB_r {l f d j : Int} {e : Nat} (h1 : e ≠ mo + 8) (h2 : e ≠ mo + 9) : (wdB R l f d j).2.2.2.1 e = R.2.2.2.1 e := by
  funext z
  show (if e = mo + 9 ∧ 24 * l + f ≤ z ∧ z < 24 * l + j ∧ R.2.2.2.1 (mo + 9) z ≤ f then f else if e = mo + 8 ∧ 24 * l + f ≤ z - 480 ∧ z - 480 < 24 * l + j ∧ R.2.2.2.1 (mo + 9) (z - 480) ≤ f then d else R.2.2.2.1 e z) = _
  rw [if_neg (fun y => h2 y.1), if_neg (fun y => h1 y.1)]
theorem wdB_9 {l f d j : Int} : (wdB R l f d j).2.2.2.1 (mo + 9) = fun z => if 24 * l + f ≤ z ∧ z < 24 * l + j ∧ R.2.2.2.1 (mo + 9) z ≤ f then f else R.2.2.2.1 (mo + 9) z := by
  funext z
  show (if mo + 9 = mo + 9 ∧ 24 * l + f ≤ z ∧ z < 24 * l + j ∧ R.2.2.2.1 (mo + 9) z ≤ f then f else if mo + 9 = mo + 8 ∧ 24 * l + f ≤ z - 480 ∧ z - 480 < 24 * l + j ∧ R.2.2.2.1 (mo + 9) (z - 480) ≤ f then d else R.2.2.2.1 (mo + 9) z) = _
  by_cases q : 24 * l + f ≤ z ∧ z < 24 * l + j ∧ R.2.2.2.1 (mo + 9) z ≤ f
  · rw [if_pos ⟨rfl, q⟩, if_pos q]
  · rw [if_neg (fun y => q y.2), if_neg (by omega), if_neg q]
theorem wdB_8 {l f d j : Int} : (wdB R l f d j).2.2.2.1 (mo + 8) = fun z => if 24 * l + f ≤ z - 480 ∧ z - 480 < 24 * l + j ∧ R.2.2.2.1 (mo + 9) (z - 480) ≤ f then d else R.2.2.2.1 (mo + 8) z := by
  funext z
  show (if mo + 8 = mo + 9 ∧ 24 * l + f ≤ z ∧ z < 24 * l + j ∧ R.2.2.2.1 (mo + 9) z ≤ f then f else if mo + 8 = mo + 8 ∧ 24 * l + f ≤ z - 480 ∧ z - 480 < 24 * l + j ∧ R.2.2.2.1 (mo + 9) (z - 480) ≤ f then d else R.2.2.2.1 (mo + 8) z) = _
  by_cases q : 24 * l + f ≤ z - 480 ∧ z - 480 < 24 * l + j ∧ R.2.2.2.1 (mo + 9) (z - 480) ≤ f
  · rw [if_neg (by omega), if_pos ⟨rfl, q⟩, if_pos q]
  · rw [if_neg (by omega), if_neg (fun y => q y.2), if_neg q]
theorem wA_fn {B : Bk} {d : Nat} {z x : Int} : (wA B d z x).2.2.2.1 d = fun z' => if z' = z then x else B.2.2.2.1 d z' := by
  funext z'
  rw [wA_4]
  by_cases q : z' = z
  · rw [if_pos ⟨rfl, q⟩, if_pos q]
  · rw [if_neg (fun y => q y.2), if_neg q]
theorem lr_wind {l f d : Int} (hm : 20 ≤ m) (H : LR m C R) (h0 : 0 < C.1 m 0 ∧ C.1 m 0 < 1600) (hw : C.1 (co + 2) 8 < 20) (l1 : 1 ≤ l ∧ l ≤ C.1 m 3 - 1) (f1 : 0 ≤ f ∧ f ≤ C.1 m 4 - 1) (d1 : 0 ≤ d ∧ d ≤ 4) : LR m (wI (wA (wI C (co + 2) 8 (C.1 (co + 2) 8 + 1)) (m + 1) (l * 24 + f) d) m 0 (C.1 m 0 + 1)) (wA (wdB (wI R mo 20 (R.1 mo 20 + 1)) l f d 24) (mo + 6) 4 (R.2.2.2.1 (mo + 6) 4 + 1)) := by
  have hco : co = 0 := rfl
  have n1 : ¬ co + 2 = m := by omega
  have n1' : ¬ m = co + 2 := by omega
  have n2 : ¬ mo + 7 = mo + 6 := by omega
  have n3 : ¬ mo + 6 = mo + 7 := by omega
  obtain ⟨Hn, Hw, Hs, Hd, Hp, Hf⟩ := H
  unfold LRn VW at Hn
  have st := lrw_step (l := l) (f := f) (d := d) Hw (by omega) (by omega) (by omega) (by omega) (by omega) (by omega)
  unfold LRf at Hf
  unfold LR LRn VW LRf
  simp (disch := omega) only [wI_1, wI_2, wA_1, wA_r, wA_4, wdB_1, wdB_r, wdB_9, wdB_8, eq_self, true_and, and_true, and_false, false_and, n1, n1', n2, n3, ↓reduceIte, Nat.reduceEqDiff, Int.reduceEq, Nat.one_ne_zero, Nat.zero_ne_one, reduceCtorEq]
  refine ⟨by omega, ?_, Hs, Hd, Hp, Hf⟩
  have e : (wA (wI C (co + 2) 8 (C.1 (co + 2) 8 + 1)) (m + 1) (l * 24 + f) d).2.2.2.1 (m + 1) = fun z => if z = l * 24 + f then d else C.2.2.2.1 (m + 1) z := wA_fn
  rw [e]
  exact st
theorem lr_shop {x y z a b g : Int} (hm : 20 ≤ m) (H : LR m C R) (h0 : 0 < C.1 m 0 ∧ C.1 m 0 < 1600) (h8 : C.1 m 8 < 4) (x1 : 0 ≤ x ∧ x ≤ C.1 m 1 - 1) (y1 : 0 ≤ y ∧ y ≤ C.1 m 2 - 1) (z1 : 0 ≤ z ∧ z ≤ C.1 m 3 - 1) (a1 : 0 ≤ a ∧ a ≤ 9) (b1 : 0 ≤ b ∧ b ≤ 9) (g1 : 0 ≤ g ∧ g ≤ 9) : LR m (wI (wI (wA (wA (wA (wA (wA (wA C (m + 2) (C.1 m 8 * 6 + 0) x) (m + 2) (C.1 m 8 * 6 + 1) y) (m + 2) (C.1 m 8 * 6 + 2) z) (m + 2) (C.1 m 8 * 6 + 3) a) (m + 2) (C.1 m 8 * 6 + 4) b) (m + 2) (C.1 m 8 * 6 + 5) g) m 8 (C.1 m 8 + 1)) m 0 (C.1 m 0 + 1)) (wA (wA (pcB (wA (wA (wA (wA (wA (wA R (mo + 10) (6 * (16 + C.1 m 8)) x) (mo + 10) (6 * (16 + C.1 m 8) + 1) y) (mo + 10) (6 * (16 + C.1 m 8) + 2) z) (mo + 10) (6 * (16 + C.1 m 8) + 3) a) (mo + 10) (6 * (16 + C.1 m 8) + 4) b) (mo + 10) (6 * (16 + C.1 m 8) + 5) g) (C.1 m 8) 24) (mo + 7) 67 (C.1 m 8 + 1)) (mo + 6) 4 (R.2.2.2.1 (mo + 6) 4 + 1)) := by
  have hco : co = 0 := rfl
  have n1 : ¬ co + 2 = m := by omega
  have n2 : ¬ mo + 7 = mo + 6 := by omega
  have n3 : ¬ mo + 6 = mo + 7 := by omega
  have pr1 : ∀ (X : Bk) (u : Int), (pcB X u 24).1 = X.1 := fun _ _ => rfl
  have prr : ∀ (X : Bk) (u : Int) (e : Nat), e ≠ mo + 12 → (pcB X u 24).2.2.2.1 e = X.2.2.2.1 e := fun X u e he => by
    funext z'
    exact if_neg (fun w => he w.1)
  have pr12 : ∀ (X : Bk) (u : Int), (pcB X u 24).2.2.2.1 (mo + 12) = fun z' => if 24 * (16 + u) ≤ z' ∧ z' < 24 * (16 + u) + 24 then 0 else X.2.2.2.1 (mo + 12) z' := fun X u => by
    funext z'
    show (if mo + 12 = mo + 12 ∧ 24 * (16 + u) ≤ z' ∧ z' < 24 * (16 + u) + 24 then 0 else X.2.2.2.1 (mo + 12) z') = _
    by_cases q : 24 * (16 + u) ≤ z' ∧ z' < 24 * (16 + u) + 24
    · rw [if_pos ⟨rfl, q⟩, if_pos q]
    · rw [if_neg (fun w => q w.2), if_neg q]
  obtain ⟨Hn, Hw, Hs, Hd, Hp, Hf⟩ := H
  unfold LRn VW at Hn
  unfold LRf at Hf
  unfold LR LRn VW LRf
  simp (maxSteps := 1000000) (disch := omega) only [wI_1, wI_2, wA_1, wA_r, wA_4, pr1, prr, pr12, eq_self, true_and, and_true, and_false, false_and, n1, n2, n3, ↓reduceIte, Nat.reduceEqDiff, Int.reduceEq, Nat.one_ne_zero, Nat.zero_ne_one, reduceCtorEq]
  refine ⟨by omega, Hw, ?_, Hd, ?_, Hf⟩
  · intro s s0 s1
    simp only [wA_4, eq_self, true_and]
    by_cases q : s = C.1 m 8
    · subst q
      refine ⟨fun k k0 k1 => ?_, ?_, ?_, ?_, ?_, ?_, ?_⟩
      · rcases (show k = 0 ∨ k = 1 ∨ k = 2 ∨ k = 3 ∨ k = 4 ∨ k = 5 by omega) with rfl | rfl | rfl | rfl | rfl | rfl
        · rw [if_neg (by omega), if_neg (by omega), if_neg (by omega), if_neg (by omega), if_neg (by omega), if_pos (by omega), if_neg (by omega), if_neg (by omega), if_neg (by omega), if_neg (by omega), if_neg (by omega), if_pos (by omega)]
        · rw [if_neg (by omega), if_neg (by omega), if_neg (by omega), if_neg (by omega), if_pos (by omega), if_neg (by omega), if_neg (by omega), if_neg (by omega), if_neg (by omega), if_pos (by omega)]
        · rw [if_neg (by omega), if_neg (by omega), if_neg (by omega), if_pos (by omega), if_neg (by omega), if_neg (by omega), if_neg (by omega), if_pos (by omega)]
        · rw [if_neg (by omega), if_neg (by omega), if_pos (by omega), if_neg (by omega), if_neg (by omega), if_pos (by omega)]
        · rw [if_neg (by omega), if_pos (by omega), if_neg (by omega), if_pos (by omega)]
        · rw [if_pos (by omega), if_pos (by omega)]
      · rw [if_neg (by omega), if_neg (by omega), if_neg (by omega), if_neg (by omega), if_neg (by omega), if_pos (by omega)]
        omega
      · rw [if_neg (by omega), if_neg (by omega), if_neg (by omega), if_neg (by omega), if_pos (by omega)]
        omega
      · rw [if_neg (by omega), if_neg (by omega), if_neg (by omega), if_pos (by omega)]
        omega
      · rw [if_neg (by omega), if_neg (by omega), if_pos (by omega)]
        omega
      · rw [if_neg (by omega), if_pos (by omega)]
        omega
      · rw [if_pos (by omega)]
        omega
    · obtain ⟨o1, o2⟩ := Hs s s0 (by omega)
      refine ⟨fun k k0 k1 => ?_, ?_⟩
      · rw [if_neg (by omega), if_neg (by omega), if_neg (by omega), if_neg (by omega), if_neg (by omega), if_neg (by omega), if_neg (by omega), if_neg (by omega), if_neg (by omega), if_neg (by omega), if_neg (by omega), if_neg (by omega)]
        exact o1 k k0 k1
      · have ev : ∀ k, 0 ≤ k → k < 6 → (if s * 6 + k = C.1 m 8 * 6 + 5 then g else if s * 6 + k = C.1 m 8 * 6 + 4 then b else if s * 6 + k = C.1 m 8 * 6 + 3 then a else if s * 6 + k = C.1 m 8 * 6 + 2 then z else if s * 6 + k = C.1 m 8 * 6 + 1 then y else if s * 6 + k = C.1 m 8 * 6 + 0 then x else C.2.2.2.1 (m + 2) (s * 6 + k)) = C.2.2.2.1 (m + 2) (s * 6 + k) := fun k k0 k1 => by
          rw [if_neg (by omega), if_neg (by omega), if_neg (by omega), if_neg (by omega), if_neg (by omega), if_neg (by omega)]
        rw [ev 0 (by omega) (by omega), ev 1 (by omega) (by omega), ev 2 (by omega) (by omega), ev 3 (by omega) (by omega), ev 4 (by omega) (by omega), ev 5 (by omega) (by omega)]
        exact o2
  · intro s h s0 s1 h0' h1'
    obtain ⟨o1, o2⟩ := Hp s h s0 s1 h0' h1'
    simp only
    refine ⟨fun q => o1 (by omega), fun q => ?_⟩
    by_cases q2 : s = C.1 m 8
    · rw [if_pos (by omega), o1 (by omega)]
      omega
    · rw [if_neg (by omega)]
      exact o2 (by omega)
theorem lr_door {x y g : Int} (hm : 20 ≤ m) (H : LR m C R) (h0 : 0 < C.1 m 0 ∧ C.1 m 0 < 1600) (h9 : C.1 m 9 < 5) (x1 : 0 ≤ x ∧ x ≤ C.1 m 1 - 1) (y1 : 0 ≤ y ∧ y ≤ C.1 m 2 - 1) (g1 : 0 ≤ g ∧ g ≤ 9) : LR m (wI (wI (wA (wA (wA C (m + 3) (C.1 m 9 * 3 + 0) x) (m + 3) (C.1 m 9 * 3 + 1) y) (m + 3) (C.1 m 9 * 3 + 2) g) m 9 (C.1 m 9 + 1)) m 0 (C.1 m 0 + 1)) (wA (wA (wA (wA (wA R (mo + 11) (3 * (20 + C.1 m 9)) x) (mo + 11) (3 * (20 + C.1 m 9) + 1) y) (mo + 11) (3 * (20 + C.1 m 9) + 2) g) (mo + 7) 68 (C.1 m 9 + 1)) (mo + 6) 4 (R.2.2.2.1 (mo + 6) 4 + 1)) := by
  have hco : co = 0 := rfl
  have n1 : ¬ co + 2 = m := by omega
  have n2 : ¬ mo + 7 = mo + 6 := by omega
  have n3 : ¬ mo + 6 = mo + 7 := by omega
  obtain ⟨Hn, Hw, Hs, Hd, Hp, Hf⟩ := H
  unfold LRn VW at Hn
  unfold LRf at Hf
  unfold LR LRn VW LRf
  simp (maxSteps := 1000000) (disch := omega) only [wI_1, wI_2, wA_1, wA_r, wA_4, eq_self, true_and, and_true, and_false, false_and, n1, n2, n3, ↓reduceIte, Nat.reduceEqDiff, Int.reduceEq, Nat.one_ne_zero, Nat.zero_ne_one, reduceCtorEq]
  refine ⟨by omega, Hw, Hs, ?_, Hp, Hf⟩
  intro s s0 s1
  simp only [wA_4, eq_self, true_and]
  by_cases q : s = C.1 m 9
  · subst q
    refine ⟨fun k k0 k1 => ?_, ?_, ?_, ?_⟩
    · rcases (show k = 0 ∨ k = 1 ∨ k = 2 by omega) with rfl | rfl | rfl
      · rw [if_neg (by omega), if_neg (by omega), if_pos (by omega), if_neg (by omega), if_neg (by omega), if_pos (by omega)]
      · rw [if_neg (by omega), if_pos (by omega), if_neg (by omega), if_pos (by omega)]
      · rw [if_pos (by omega), if_pos (by omega)]
    · rw [if_neg (by omega), if_neg (by omega), if_pos (by omega)]
      omega
    · rw [if_neg (by omega), if_pos (by omega)]
      omega
    · rw [if_pos (by omega)]
      omega
  · obtain ⟨o1, o2⟩ := Hd s s0 (by omega)
    refine ⟨fun k k0 k1 => ?_, ?_⟩
    · rw [if_neg (by omega), if_neg (by omega), if_neg (by omega), if_neg (by omega), if_neg (by omega), if_neg (by omega)]
      exact o1 k k0 k1
    · have ev : ∀ k, 0 ≤ k → k < 3 → (if s * 3 + k = C.1 m 9 * 3 + 2 then g else if s * 3 + k = C.1 m 9 * 3 + 1 then y else if s * 3 + k = C.1 m 9 * 3 + 0 then x else C.2.2.2.1 (m + 3) (s * 3 + k)) = C.2.2.2.1 (m + 3) (s * 3 + k) := fun k k0 k1 => by
        rw [if_neg (by omega), if_neg (by omega), if_neg (by omega)]
      rw [ev 0 (by omega) (by omega), ev 1 (by omega) (by omega), ev 2 (by omega) (by omega)]
      exact o2
theorem lr_fair {x y f g : Int} (hm : 20 ≤ m) (H : LR m C R) (h0 : 0 < C.1 m 0 ∧ C.1 m 0 < 1600) (x1 : 0 ≤ x ∧ x ≤ C.1 m 1 - 1) (y1 : 0 ≤ y ∧ y ≤ C.1 m 2 - 1) (f1 : 0 ≤ f ∧ f ≤ g) (g1 : g ≤ C.1 m 4 - 1) : LR m (wI (wI (wI (wI C m 10 (y * 8 + x)) m 11 f) m 12 g) m 0 (C.1 m 0 + 1)) (wA (wA (wA (wA (wA (wA R (mo + 7) 69 1) (mo + 7) 70 x) (mo + 7) 71 y) (mo + 7) 72 f) (mo + 7) 73 g) (mo + 6) 4 (R.2.2.2.1 (mo + 6) 4 + 1)) := by
  have hco : co = 0 := rfl
  have n1 : ¬ co + 2 = m := by omega
  have n2 : ¬ mo + 7 = mo + 6 := by omega
  have n3 : ¬ mo + 6 = mo + 7 := by omega
  obtain ⟨Hn, Hw, Hs, Hd, Hp, Hf⟩ := H
  unfold LRn VW at Hn
  unfold LRf at Hf
  unfold LR LRn VW LRf
  simp (maxSteps := 1000000) (disch := omega) only [wI_1, wI_2, wA_1, wA_r, wA_4, eq_self, true_and, and_true, and_false, false_and, n1, n2, n3, ↓reduceIte, Nat.reduceEqDiff, Int.reduceEq, Nat.one_ne_zero, Nat.zero_ne_one, reduceCtorEq]
  refine ⟨by omega, Hw, Hs, Hd, Hp, Or.inr (by omega)⟩
theorem lr_plan {s h a : Int} (hm : 20 ≤ m) (H : LR m C R) (h0 : 0 < C.1 m 0 ∧ C.1 m 0 < 1600) (s1 : 0 ≤ s ∧ s ≤ C.1 m 8 - 1) (h1 : 0 ≤ h ∧ h ≤ C.1 m 4 - 1) (a1 : 0 ≤ a ∧ a ≤ 2) : LR m (wI (wA C (m + 4) (s * 24 + h) a) m 0 (C.1 m 0 + 1)) (wA (wA R (mo + 12) (24 * (16 + s) + h) a) (mo + 6) 4 (R.2.2.2.1 (mo + 6) 4 + 1)) := by
  have hco : co = 0 := rfl
  have n1 : ¬ co + 2 = m := by omega
  have n2 : ¬ mo + 7 = mo + 6 := by omega
  have n3 : ¬ mo + 6 = mo + 7 := by omega
  obtain ⟨Hn, Hw, Hs, Hd, Hp, Hf⟩ := H
  unfold LRn VW at Hn
  unfold LRf at Hf
  unfold LR LRn VW LRf
  simp (maxSteps := 1000000) (disch := omega) only [wI_1, wI_2, wA_1, wA_r, wA_4, eq_self, true_and, and_true, and_false, false_and, n1, n2, n3, ↓reduceIte, Nat.reduceEqDiff, Int.reduceEq, Nat.one_ne_zero, Nat.zero_ne_one, reduceCtorEq]
  refine ⟨by omega, Hw, Hs, Hd, ?_, Hf⟩
  intro s' h' q0 q1 q2 q3
  obtain ⟨o1, o2⟩ := Hp s' h' q0 q1 q2 q3
  simp only [wA_4, eq_self, true_and]
  refine ⟨fun q => ?_, fun q => ?_⟩
  · rw [if_neg (by omega)]
    exact o1 q
  · by_cases c : s' = s ∧ h' = h
    · rw [if_pos (by omega), if_pos (by omega)]
      omega
    · rw [if_neg (by omega), if_neg (by omega)]
      exact o2 q
end LS
