/-! class Voyage: begin, beginBehind; what is asked of a voyage -/
/-- a voyage is set on a valley with draws -/
def sgB (B : Bk) (p d : Nat) (x : Int64) (o : Int) : Bk := wR (wI (wL B p 7 x) p 8 o) p 6 (some d)
section VB1
variable {E : Ev} {B : Bk} {p d : Nat} {V : Vy} {o x : Int}
/-- rows but p + 1 and p + 2 stay -/
def F2 (p : Nat) (B C : Bk) : Prop := C.1 = B.1 ∧ C.2.1 = B.2.1 ∧ C.2.2.1 = B.2.2.1 ∧ C.2.2.2.2 = B.2.2.2.2 ∧ (∀ e z, e ≠ p + 1 → e ≠ p + 2 → C.2.2.2.1 e z = B.2.2.2.1 e z)
theorem F2_FF {C : Bk} (h : F2 p B C) : FF p B C := ⟨h.1, h.2.2.1, h.2.2.2.1, fun _ _ _ => by rw [h.2.1], fun e z q => h.2.2.2.2 e z (by omega) (by omega)⟩
theorem f7_beg34 {C : Bk} {j : Nat} (P : PK E p) (hd : C.2.2.1 p 6 = some d) (hk : VK E d) (hq : d + 5 < p ∨ p + 6 < d) (hM : VM C d V) (hj : j < 4) : ∃ D, iter (fX7_begin_l34 (E.1 + p) (iI j)) FU (iI 0, St E C) = some (St E D) ∧ F2 p C D ∧ (∀ z, D.2.2.2.1 (p + 2) z = C.2.2.2.1 (p + 2) z) ∧ (∀ z, D.2.2.2.1 (p + 1) z = if (j : Int) * 7 ≤ z ∧ z < (j : Int) * 7 + 6 then V.2.2.1 j (z - (j : Int) * 7) else C.2.2.2.1 (p + 1) z) := by
  obtain ⟨r, e1, D, e2, c1, c2, c3⟩ := iter_acc (F := fX7_begin_l34 (E.1 + p) (iI j)) (fun i y => ∃ D, y = (iI (i : Int), St E D) ∧ F2 p C D ∧ (∀ z, D.2.2.2.1 (p + 2) z = C.2.2.2.1 (p + 2) z) ∧ (∀ z, D.2.2.2.1 (p + 1) z = if (j : Int) * 7 ≤ z ∧ z < (j : Int) * 7 + (i : Int) then V.2.2.1 j (z - (j : Int) * 7) else C.2.2.2.1 (p + 1) z)) 6 (fun r => ∃ D, r = St E D ∧ F2 p C D ∧ (∀ z, D.2.2.2.1 (p + 2) z = C.2.2.2.1 (p + 2) z) ∧ (∀ z, D.2.2.2.1 (p + 1) z = if (j : Int) * 7 ≤ z ∧ z < (j : Int) * 7 + 6 then V.2.2.1 j (z - (j : Int) * 7) else C.2.2.2.1 (p + 1) z))
    (fun i y hi => by
      rintro ⟨D, rfl, c1, c2, c3⟩
      have g6 : gR (St E D) (E.1 + p) 7 6 = some (E.1 + d) := g7_6 P.1 (by rw [c1.2.2.1]; exact hd)
      have m := (FF_VM (F2_FF c1) hM hq).2.2.1 j i
      refine ⟨(iI ((i + 1 : Nat) : Int), St E (wA D (p + 1) ((j : Int) * 7 + (i : Int)) (V.2.2.1 j i))), ?_, _, rfl, ⟨c1.1, c1.2.1, c1.2.2.1, c1.2.2.2.1, fun e z q1 q2 => by rw [wA_4, if_neg (fun n => q1 n.1)]; exact c1.2.2.2.2 e z q1 q2⟩, fun z => by rw [wA_4, if_neg (by omega)]; exact c2 z, fun z => ?_⟩
      · simp (disch := omega) only [fX7_begin_l34, iI_le, g7_0 P.1, some_bind, f7_page P, g6, s_shopFact hk, m, iI_add, Int.zero_mul, Int.zero_add, sI_ok P.2.1]
        rw [if_neg (by omega)]
        rfl
      · rw [wA_4, c3]
        by_cases q : z = (j : Int) * 7 + (i : Int)
        · rw [if_pos ⟨rfl, q⟩, if_pos (by omega), q, show (j : Int) * 7 + (i : Int) - (j : Int) * 7 = i by omega]
        · rw [if_neg (fun n => q n.2)]
          by_cases q2 : (j : Int) * 7 ≤ z ∧ z < (j : Int) * 7 + (i : Int)
          · rw [if_pos q2, if_pos (by omega)]
          · rw [if_neg q2, if_neg (by omega)])
    (fun y => by
      rintro ⟨D, rfl, c1, c2, c3⟩
      refine ⟨_, ?_, D, rfl, c1, c2, c3⟩
      simp (disch := omega) only [fX7_begin_l34, iI_le]
      rw [if_pos (by omega)])
    (N := FU) (by have := FU_big (n := 6) (by omega); omega) (a := (iI 0, St E C)) ⟨C, rfl, ⟨rfl, rfl, rfl, rfl, fun _ _ _ _ => rfl⟩, fun _ => rfl, fun z => by rw [if_neg (by omega)]⟩
  exact ⟨D, by rw [e1, e2], c1, c2, c3⟩
theorem f7_beg19 {C : Bk} (P : PK E p) (hd : C.2.2.1 p 6 = some d) (hk : VK E d) (hq : d + 5 < p ∨ p + 6 < d) (hV : VOK V) (hM : VM C d V) : ∃ D, iter (fX7_begin_l19 (E.1 + p)) FU (iI 0, St E C) = some (St E D) ∧ F2 p C D ∧ (∀ (s : Nat) (k : Int), (s : Int) < V.1 8 → 0 ≤ k → k < 7 → D.2.2.2.1 (p + 1) ((s : Int) * 7 + k) = (fs0 V).1 s k) := by
  have b8 := hV.2.2.2.2.2.2.2.1
  obtain ⟨r, e1, D, e2, c1, c3⟩ := iter_acc (F := fX7_begin_l19 (E.1 + p)) (fun j y => ∃ D, y = (iI (j : Int), St E D) ∧ F2 p C D ∧ (∀ (s : Nat) (k : Int), s < j → 0 ≤ k → k < 7 → D.2.2.2.1 (p + 1) ((s : Int) * 7 + k) = (fs0 V).1 s k)) (V.1 8).toNat (fun r => ∃ D, r = St E D ∧ F2 p C D ∧ (∀ (s : Nat) (k : Int), s < (V.1 8).toNat → 0 ≤ k → k < 7 → D.2.2.2.1 (p + 1) ((s : Int) * 7 + k) = (fs0 V).1 s k))
    (fun j y hj => by
      rintro ⟨D, rfl, c1, c3⟩
      have hdD : D.2.2.1 p 6 = some d := by rw [c1.2.2.1]; exact hd
      have g6 : gR (St E D) (E.1 + p) 7 6 = some (E.1 + d) := g7_6 P.1 hdD
      have hMD := FF_VM (F2_FF c1) hM hq
      have m8 := hMD.1 8
      obtain ⟨K, e1, k1, k2, k3⟩ := f7_beg34 (C := D) (j := j) P hdD hk hq hMD (by omega)
      refine ⟨(iI ((j + 1 : Nat) : Int), St E (wA K (p + 1) ((j : Int) * 7 + 6) 0)), ?_, _, rfl, ⟨k1.1.trans c1.1, k1.2.1.trans c1.2.1, k1.2.2.1.trans c1.2.2.1, k1.2.2.2.1.trans c1.2.2.2.1, fun e z q1 q2 => by rw [wA_4, if_neg (fun n => q1 n.1), k1.2.2.2.2 e z q1 q2]; exact c1.2.2.2.2 e z q1 q2⟩, fun s k q1 q2 q3 => ?_⟩
      · simp (disch := omega) only [fX7_begin_l19, g6, g6_8 hk.1, m8, some_bind, iI_le, e1, g7_0 P.1, f7_page P, iI_add, Int.zero_mul, Int.zero_add, sI_ok P.2.1]
        rw [if_neg (by omega)]
        rfl
      · rw [wA_4, k3]
        by_cases q : s = j
        · subst q
          show _ = if k = 6 then 0 else V.2.2.1 s k
          by_cases q6 : k = 6
          · rw [if_pos ⟨rfl, by omega⟩, if_pos q6]
          · rw [if_neg (by omega), if_pos (by omega), if_neg q6, show (s : Int) * 7 + k - (s : Int) * 7 = k by omega]
        · rw [if_neg (by omega), if_neg (by omega)]
          exact c3 s k (by omega) q2 q3)
    (fun y => by
      rintro ⟨D, rfl, c1, c3⟩
      have g6 : gR (St E D) (E.1 + p) 7 6 = some (E.1 + d) := g7_6 P.1 (by rw [c1.2.2.1]; exact hd)
      have m8 := (FF_VM (F2_FF c1) hM hq).1 8
      refine ⟨_, ?_, D, rfl, c1, c3⟩
      simp (disch := omega) only [fX7_begin_l19, g6, g6_8 hk.1, m8, some_bind, iI_le]
      rw [if_pos (by omega)])
    (N := FU) (by have := FU_big (n := V.1 8) (by omega); omega) (a := (iI 0, St E C)) ⟨C, rfl, ⟨rfl, rfl, rfl, rfl, fun _ _ _ _ => rfl⟩, fun s k q => by omega⟩
  exact ⟨D, by rw [e1, e2], c1, fun s k q => c3 s k (by omega)⟩
theorem f7_beg98 {C : Bk} (P : PK E p) (hd : C.2.2.1 p 6 = some d) (hk : VK E d) (hq : d + 5 < p ∨ p + 6 < d) (hV : VOK V) (hM : VM C d V) : ∃ D, iter (fX7_begin_l98 (E.1 + p)) FU (iI 0, St E C) = some (St E D) ∧ F2 p C D ∧ (∀ z, D.2.2.2.1 (p + 1) z = C.2.2.2.1 (p + 1) z) ∧ (∀ i : Int, 0 ≤ i → i < V.1 9 → D.2.2.2.1 (p + 2) i = V.2.2.2.1 i 2) := by
  have b9 := hV.2.2.2.2.2.2.2.2.1
  obtain ⟨r, e1, D, e2, c1, c2, c3⟩ := iter_acc (F := fX7_begin_l98 (E.1 + p)) (fun j y => ∃ D, y = (iI (j : Int), St E D) ∧ F2 p C D ∧ (∀ z, D.2.2.2.1 (p + 1) z = C.2.2.2.1 (p + 1) z) ∧ (∀ i : Int, 0 ≤ i → i < (j : Int) → D.2.2.2.1 (p + 2) i = V.2.2.2.1 i 2)) (V.1 9).toNat (fun r => ∃ D, r = St E D ∧ F2 p C D ∧ (∀ z, D.2.2.2.1 (p + 1) z = C.2.2.2.1 (p + 1) z) ∧ (∀ i : Int, 0 ≤ i → i < V.1 9 → D.2.2.2.1 (p + 2) i = V.2.2.2.1 i 2))
    (fun j y hj => by
      rintro ⟨D, rfl, c1, c2, c3⟩
      have g6 : gR (St E D) (E.1 + p) 7 6 = some (E.1 + d) := g7_6 P.1 (by rw [c1.2.2.1]; exact hd)
      have hMD := FF_VM (F2_FF c1) hM hq
      have m9 := hMD.1 9
      have m := hMD.2.2.2.1 j 2
      refine ⟨(iI ((j + 1 : Nat) : Int), St E (wA D (p + 2) (j : Int) (V.2.2.2.1 j 2))), ?_, _, rfl, ⟨c1.1, c1.2.1, c1.2.2.1, c1.2.2.2.1, fun e z q1 q2 => by rw [wA_4, if_neg (fun n => q2 n.1)]; exact c1.2.2.2.2 e z q1 q2⟩, fun z => by rw [wA_4, if_neg (by omega)]; exact c2 z, fun i q1 q2 => ?_⟩
      · simp (disch := omega) only [fX7_begin_l98, g6, g6_9 hk.1, m9, some_bind, iI_le, g7_1 P.1, s_doorFact hk, m, sI_ok P.2.2.1, iI_add]
        rw [if_neg (by omega)]
        rfl
      · rw [wA_4]
        by_cases q : i = (j : Int)
        · rw [if_pos ⟨rfl, q⟩, q]
        · rw [if_neg (fun n => q n.2)]
          exact c3 i q1 (by omega))
    (fun y => by
      rintro ⟨D, rfl, c1, c2, c3⟩
      have g6 : gR (St E D) (E.1 + p) 7 6 = some (E.1 + d) := g7_6 P.1 (by rw [c1.2.2.1]; exact hd)
      have m9 := (FF_VM (F2_FF c1) hM hq).1 9
      refine ⟨_, ?_, D, rfl, c1, c2, fun i q1 q2 => c3 i q1 (by omega)⟩
      simp (disch := omega) only [fX7_begin_l98, g6, g6_9 hk.1, m9, some_bind, iI_le]
      rw [if_pos (by omega)])
    (N := FU) (by have := FU_big (n := V.1 9) (by omega); omega) (a := (iI 0, St E C)) ⟨C, rfl, ⟨rfl, rfl, rfl, rfl, fun _ _ _ _ => rfl⟩, fun _ => rfl, fun i q1 q2 => by omega⟩
  exact ⟨D, by rw [e1, e2], c1, c2, c3⟩
theorem sg_VM (hM : VM B d V) (hq : d + 5 < p ∨ p + 6 < d) {y : Int64} : VM (sgB B p d y o) d V := by
  obtain ⟨m1, m2, m3, m4, m5⟩ := hM
  refine ⟨fun j => ?_, m2, m3, m4, m5⟩
  show (if d = p ∧ j = 8 then o else B.1 d j) = _
  rw [if_neg (by omega)]
  exact m1 j
theorem f7_begin (P : PK E p) (hk : VK E d) (hq : d + 5 < p ∨ p + 6 < d) (hV : VOK V) (hM : VM B d V) (x0 : i32 x) : ∃ C, fX7_begin (E.1 + p) (E.1 + d) (iI x) (iI o) (St E B) = some (St E C) ∧ F2 p (sgB B p d (jI x) o) C ∧ FP C p V 0 0 := by
  have hM1 := sg_VM (o := o) (y := jI x) hM hq
  have hd1 : (sgB B p d (jI x) o).2.2.1 p 6 = some d := by
    show (if p = p ∧ 6 = 6 then some d else _) = _
    rw [if_pos ⟨rfl, rfl⟩]
  obtain ⟨D, e1, d1, d2⟩ := f7_beg19 P hd1 hk hq hV hM1
  have hd2 : D.2.2.1 p 6 = some d := by rw [d1.2.2.1]; exact hd1
  obtain ⟨C, e2, c1, c2, c3⟩ := f7_beg98 P hd2 hk hq hV (FF_VM (F2_FF d1) hM1 hq)
  refine ⟨C, ?_, ⟨c1.1.trans d1.1, c1.2.1.trans d1.2.1, c1.2.2.1.trans d1.2.2.1, c1.2.2.2.1.trans d1.2.2.2.1, fun e z q1 q2 => (c1.2.2.2.2 e z q1 q2).trans (d1.2.2.2.2 e z q1 q2)⟩, fun h' s k q1 q2 q3 q4 q5 => ?_, fun h' i q1 q2 q3 q4 => ?_, fun h' s q1 q2 => by omega⟩
  · simp only [fX7_begin, c7 P.1, some_bind, jI_i x0.1 x0.2, p7_7 P.1, p7_8 P.1, p7_6 P.1]
    unfold sgB at e1
    rw [e1, some_bind, e2, some_bind]
  · have e : h' = 0 := by omega
    subst e
    rw [c2, show ((0 : Nat) : Int) * 28 + (s : Int) * 7 + k = (s : Int) * 7 + k by omega]
    exact d2 s k q3 q4 q5
  · have e : h' = 0 := by omega
    subst e
    rw [show ((0 : Nat) : Int) * 5 + i = i by omega]
    exact c3 i q3 q4
/-- the voyage at p is set behind the pages of the one at q -/
theorem f7_beginBehind {q h m : Nat} (P : PK E p) (Q : PK E q) (hpq : p + 6 < q ∨ q + 6 < p) (h0 : h < 24) (hm : h ≤ m) (I : FP B q V 0 m) (V' : Vy) (h8 : V'.1 8 = V.1 8) (h9 : V'.1 9 = V.1 9) (b8 : V.1 8 ≤ 4) (b9 : V.1 9 ≤ 5) (hs : fsF V' h = fsF V h) : ∃ C, fX7_beginBehind (E.1 + p) (E.1 + d) (E.1 + q) (iI h) (St E B) = some (St E C) ∧ F2 p (wR (wI B p 8 0) p 6 (some d)) C ∧ FP C p V' h h := by
  obtain ⟨I1, I2, -⟩ := I
  refine ⟨cpA (cpA (wR (wI B p 8 0) p 6 (some d)) (q + 1) ((h : Int) * 28) (p + 1) ((h : Int) * 28) 28) (q + 2) ((h : Int) * 5) (p + 2) ((h : Int) * 5) 5, ?_, ?_, ?_⟩
  · simp (disch := omega) only [fX7_beginBehind, c7 P.1, some_bind, p7_8 P.1, p7_6 P.1, g7_0 P.1, g7_0 Q.1, g7_1 P.1, g7_1 Q.1, iI_mul, cp_ok Q.2.1 P.2.1, cp_ok Q.2.2.1 P.2.2.1]
  · refine ⟨rfl, rfl, rfl, rfl, fun e z q1 q2 => ?_⟩
    rw [cpA_4, if_neg (fun n => q2 n.1), cpA_4, if_neg (fun n => q1 n.1)]
  · refine ⟨fun h' s k q1 q2 q3 q4 q5 => ?_, fun h' i q1 q2 q3 q4 => ?_, fun h' s q1 q2 => by omega⟩
    · have e : h' = h := by omega
      subst e
      rw [cpA_4, if_neg (by omega), cpA_4, if_pos ⟨rfl, by omega, by omega⟩, hs, ← I1 h' s k (by omega) hm (by omega) q4 q5]
      show B.2.2.2.1 (q + 1) _ = _
      rw [show (h' : Int) * 28 + ((h' : Int) * 28 + (s : Int) * 7 + k - (h' : Int) * 28) = (h' : Int) * 28 + (s : Int) * 7 + k by omega]
    · have e : h' = h := by omega
      subst e
      rw [cpA_4, if_pos ⟨rfl, by omega, by omega⟩, cpA_4, if_neg (by omega), hs, ← I2 h' i (by omega) hm q3 (by omega)]
      show B.2.2.2.1 (q + 2) _ = _
      rw [show (h' : Int) * 5 + ((h' : Int) * 5 + i - (h' : Int) * 5) = (h' : Int) * 5 + i by omega]
end VB1
