/-! class Voyage: the whole flight -/
/-- pages a .. h of a voyage tell the flight of V -/
def FP (C : Bk) (p : Nat) (V : Vy) (a h : Nat) : Prop :=
  (∀ (h' s : Nat) (k : Int), a ≤ h' → h' ≤ h → (s : Int) < V.1 8 → 0 ≤ k → k < 7 → C.2.2.2.1 (p + 1) ((h' : Int) * 28 + (s : Int) * 7 + k) = (fsF V h').1 s k) ∧
  (∀ (h' : Nat) (i : Int), a ≤ h' → h' ≤ h → 0 ≤ i → i < V.1 9 → C.2.2.2.1 (p + 2) ((h' : Int) * 5 + i) = (fsF V h').2 i) ∧
  (∀ h' s : Nat, a ≤ h' → h' < h → (s : Int) < V.1 8 → C.2.2.2.1 (p + 3) ((s : Int) * 24 + h') = whyF V h' s ∧ C.2.2.2.1 (p + 4) ((s : Int) * 24 + h') = blwF V h' s ∧ C.2.2.2.1 (p + 5) ((s : Int) * 24 + h') = sldF V h' s)
/-- the draws of a voyage are V's gusts -/
def GU (V : Vy) (o : Int) (gX : Nat → Int) (a : Nat) : Prop := ∀ h : Nat, a ≤ h → (h : Int) < V.1 4 → (0 ≤ gX h ∧ gX h < 2147483648) ∧ gX (h + 1) = itG o (gX h) (V.1 3 - 1).toNat ∧ V.2.2.2.2.2 0 h = 0 ∧ ∀ l : Nat, 1 ≤ l → (l : Int) < V.1 3 → V.2.2.2.2.2 l h = guB o (itG o (gX h) l)
section VF
variable {E : Ev} {B : Bk} {p d : Nat} {V : Vy} {o : Int} {gX : Nat → Int}
theorem f7_shops {C0 : Bk} {a h : Nat} (P : PK E p) (hd : C0.2.2.1 p 6 = some d) (hk : VK E d) (hq : d + 5 < p ∨ p + 6 < d) (hV : VOK V) (hM : VM C0 d V) (hn : 0 ≤ C0.1 d 0 ∧ C0.1 d 0 ≤ 1600) (h1 : (h : Int) < V.1 4) (ha : a ≤ h) (I0 : FP C0 p V a h) (pg : ∀ (s : Nat) (k : Int), (s : Int) < V.1 8 → 0 ≤ k → k < 7 → C0.2.2.2.1 (p + 1) (((h : Int) + 1) * 28 + (s : Int) * 7 + k) = (fsF V h).1 s k) (wt : ∀ i : Int, 0 ≤ i → i < V.1 9 → C0.2.2.2.1 (p + 2) (((h : Int) + 1) * 5 + i) = (fsF V h).2 i) (hg : ∀ l : Int, 0 ≤ l → l < V.1 3 → C0.2.2.2.1 (p + 6) l = V.2.2.2.2.2 l h) : ∃ C, iter (fX7_flyFrom_l66 (E.1 + p) (iI h)) FU (iI 0, St E C0) = some (St E C) ∧ FF p C0 C ∧ C.2.1 = C0.2.1 ∧ (∀ z, C.2.2.2.1 (p + 6) z = C0.2.2.2.1 (p + 6) z) ∧ FP C p V a (h + 1) := by
  have b4 := hV.2.2.2.1
  have b8 := hV.2.2.2.2.2.2.2.1
  have b9 := hV.2.2.2.2.2.2.2.2.1
  obtain ⟨r, e1, C, e2, c1, c2, c3, c4, c5, c6, c7'⟩ := iter_acc (F := fX7_flyFrom_l66 (E.1 + p) (iI h)) (fun j x => ∃ C, x = (iI (j : Int), St E C) ∧ FF p C0 C ∧ C.2.1 = C0.2.1 ∧ (∀ z, C.2.2.2.1 (p + 6) z = C0.2.2.2.1 (p + 6) z) ∧ FP C p V a h ∧ (∀ (s : Nat) (k : Int), (s : Int) < V.1 8 → 0 ≤ k → k < 7 → C.2.2.2.1 (p + 1) (((h : Int) + 1) * 28 + (s : Int) * 7 + k) = (fsB V h j).1 s k) ∧ (∀ i : Int, 0 ≤ i → i < V.1 9 → C.2.2.2.1 (p + 2) (((h : Int) + 1) * 5 + i) = (fsB V h j).2 i) ∧ (∀ s : Nat, s < j → C.2.2.2.1 (p + 3) ((s : Int) * 24 + h) = whyF V h s ∧ C.2.2.2.1 (p + 4) ((s : Int) * 24 + h) = blwF V h s ∧ C.2.2.2.1 (p + 5) ((s : Int) * 24 + h) = sldF V h s)) (V.1 8).toNat (fun r => ∃ C, r = St E C ∧ FF p C0 C ∧ C.2.1 = C0.2.1 ∧ (∀ z, C.2.2.2.1 (p + 6) z = C0.2.2.2.1 (p + 6) z) ∧ FP C p V a h ∧ (∀ (s : Nat) (k : Int), (s : Int) < V.1 8 → 0 ≤ k → k < 7 → C.2.2.2.1 (p + 1) (((h : Int) + 1) * 28 + (s : Int) * 7 + k) = (fsB V h (V.1 8).toNat).1 s k) ∧ (∀ i : Int, 0 ≤ i → i < V.1 9 → C.2.2.2.1 (p + 2) (((h : Int) + 1) * 5 + i) = (fsB V h (V.1 8).toNat).2 i) ∧ (∀ s : Nat, s < (V.1 8).toNat → C.2.2.2.1 (p + 3) ((s : Int) * 24 + h) = whyF V h s ∧ C.2.2.2.1 (p + 4) ((s : Int) * 24 + h) = blwF V h s ∧ C.2.2.2.1 (p + 5) ((s : Int) * 24 + h) = sldF V h s))
    (fun j x hj => by
      rintro ⟨C, rfl, c1, c2, c3, c4, c5, c6, c7'⟩
      have hdC : C.2.2.1 p 6 = some d := by rw [c1.2.1]; exact hd
      have g6 : gR (St E C) (E.1 + p) 7 6 = some (E.1 + d) := g7_6 P.1 hdC
      have hMC := FF_VM c1 hM hq
      have m8 := hMC.1 8
      have hnC : 0 ≤ C.1 d 0 ∧ C.1 d 0 ≤ 1600 := by rw [c1.1]; exact hn
      have ok := fsB_ok hV (h := h) (j := j) (by omega)
      have fl := f7_flyHour (B := C) (v := (fsF V h).1 j) (w := (fsB V h j).2) (h := (h : Int)) (s := (j : Int)) P hdC hk hq (fsF_in hV (by omega) (by omega)) hV hMC hnC (by omega) h1 (by omega) (by omega) (fun k k0 k1 => by rw [c5 j k (by omega) k0 k1, fsB_u j (Int.le_refl _)]) c6 ok.2.2 (fun l l0 l1 => by rw [c3, hg l l0 l1])
      have dw : stD V h j ((fsF V h).1 j) (fsB V h j).2 = -1 ∨ (0 ≤ stD V h j ((fsF V h).1 j) (fsB V h j).2 ∧ stD V h j ((fsF V h).1 j) (fsB V h j).2 < V.1 9) := by
        rcases stD_b (h := h) (s := j) (v := (fsF V h).1 j) (w := (fsB V h j).2) hV with q | q
        · exact Or.inl q
        · exact Or.inr ⟨q.1, q.2.1⟩
      refine ⟨(iI ((j + 1 : Nat) : Int), St E (hB V p h j ((fsF V h).1 j) (fsB V h j).2 C)), ?_, _, rfl, FF_tr c1 hB_FF, by rw [hB_7]; exact c2, fun z => by rw [hB_6]; exact c3 z, ⟨fun h' s k q1 q2 q3 q4 q5 => ?_, fun h' i q1 q2 q3 q4 => ?_, fun h' s q1 q2 q3 => ?_⟩, fun s k q3 q4 q5 => ?_, fun i q3 q4 => ?_, fun s q => ?_⟩
      · simp (disch := omega) only [fX7_flyFrom_l66, g6, g6_8 hk.1, m8, some_bind, iI_le, fl, iI_add]
        rw [if_neg (by omega)]
        rfl
      · rw [hB_1, if_neg (by omega)]
        exact c4.1 h' s k q1 q2 q3 q4 q5
      · rw [hB_2, if_neg (by omega)]
        exact c4.2.1 h' i q1 q2 q3 q4
      · rw [hB_3, hB_4, hB_5, if_neg (by omega), if_neg (by omega), if_neg (by omega)]
        exact c4.2.2 h' s q1 q2 q3
      · rw [hB_1]
        by_cases q : s = j
        · rw [if_pos (by omega), q, fsB_s, show ((h : Int) + 1) * 28 + (j : Int) * 7 + k - (((h : Int) + 1) * 28 + (j : Int) * 7) = k by omega]
        · rw [if_neg (by omega), c5 s k q3 q4 q5]
          show _ = (if (s : Int) = (j : Int) then _ else (fsB V h j).1 s) k
          rw [if_neg (by omega)]
      · rw [hB_2, fsB_w]
        unfold selW
        generalize stD V h j ((fsF V h).1 j) (fsB V h j).2 = D at dw ⊢
        by_cases q : D = -1
        · rw [if_neg (fun n => n.1 q), if_pos q]
          exact c6 i q3 q4
        · rw [if_neg q]
          unfold up1
          by_cases q2 : i = D
          · rw [if_pos ⟨q, by omega⟩, if_pos q2]
          · rw [if_neg (by omega), if_neg q2]
            exact c6 i q3 q4
      · rw [hB_3, hB_4, hB_5]
        by_cases q2 : s = j
        · rw [if_pos (by omega), if_pos (by omega), if_pos (by omega), q2]
          exact ⟨rfl, rfl, rfl⟩
        · rw [if_neg (by omega), if_neg (by omega), if_neg (by omega)]
          exact c7' s (by omega))
    (fun x => by
      rintro ⟨C, rfl, c1, c2, c3, c4, c5, c6, c7'⟩
      have g6 : gR (St E C) (E.1 + p) 7 6 = some (E.1 + d) := g7_6 P.1 (by rw [c1.2.1]; exact hd)
      have m8 := (FF_VM c1 hM hq).1 8
      refine ⟨_, ?_, C, rfl, c1, c2, c3, c4, c5, c6, c7'⟩
      simp (disch := omega) only [fX7_flyFrom_l66, g6, g6_8 hk.1, m8, some_bind, iI_le]
      rw [if_pos (by omega)])
    (N := FU) (by have := FU_big (n := V.1 8) (by omega); omega) (a := (iI 0, St E C0)) ⟨C0, rfl, FF_rfl, rfl, fun _ => rfl, I0, pg, wt, fun s q => by omega⟩
  refine ⟨C, by rw [e1, e2], c1, c2, c3, fun h' s k q1 q2 q3 q4 q5 => ?_, fun h' i q1 q2 q3 q4 => ?_, fun h' s q1 q2 q3 => ?_⟩
  · by_cases q : h' = h + 1
    · rw [q, ← fsB_n]
      exact c5 s k q3 q4 q5
    · exact c4.1 h' s k q1 (by omega) q3 q4 q5
  · by_cases q : h' = h + 1
    · rw [q, ← fsB_n]
      exact c6 i q3 q4
    · exact c4.2.1 h' i q1 (by omega) q3 q4
  · by_cases q : h' = h
    · rw [q]
      exact c7' s (by omega)
    · exact c4.2.2 h' s q1 (by omega) q3
theorem f7_flyFrom {a : Nat} (P : PK E p) (hd : B.2.2.1 p 6 = some d) (hk : VK E d) (hq : d + 5 < p ∨ p + 6 < d) (hV : VOK V) (hM : VM B d V) (hn : 0 ≤ B.1 d 0 ∧ B.1 d 0 ≤ 1600) (ha : (a : Int) ≤ V.1 4) (h8 : B.1 p 8 = o) (o0 : 0 ≤ o) (o1 : o ≤ 100) (hx : B.2.1 p 7 = jI (gX a)) (g0 : B.2.2.2.1 (p + 6) 0 = 0) (G : GU V o gX a) (I0 : FP B p V a a) : ∃ C, fX7_flyFrom (E.1 + p) (iI a) (St E B) = some (St E C) ∧ FF p B C ∧ C.2.2.2.1 (p + 6) 0 = 0 ∧ C.2.1 p 7 = jI (gX (V.1 4).toNat) ∧ FP C p V a (V.1 4).toNat := by
  have b3 := hV.2.2.1
  have b4 := hV.2.2.2.1
  have b8 := hV.2.2.2.2.2.2.2.1
  have b9 := hV.2.2.2.2.2.2.2.2.1
  obtain ⟨r, e1, C, e2, c1, c2, c3, c4⟩ := iter_acc (F := fX7_flyFrom_l2 (E.1 + p)) (fun j x => ∃ C, x = (iI ((a + j : Nat) : Int), St E C) ∧ FF p B C ∧ C.2.2.2.1 (p + 6) 0 = 0 ∧ C.2.1 p 7 = jI (gX (a + j)) ∧ FP C p V a (a + j)) ((V.1 4).toNat - a) (fun r => ∃ C, r = St E C ∧ FF p B C ∧ C.2.2.2.1 (p + 6) 0 = 0 ∧ C.2.1 p 7 = jI (gX (V.1 4).toNat) ∧ FP C p V a (V.1 4).toNat)
    (fun j x hj => by
      rintro ⟨C, rfl, c1, c2, c3, c4⟩
      generalize hh : a + j = h at c3 c4 ⊢
      obtain ⟨gx, gn, gz, gl⟩ := G h (by omega) (by omega)
      have g6 : ∀ D, FF p C D → gR (St E D) (E.1 + p) 7 6 = some (E.1 + d) := fun D q => g7_6 P.1 (by rw [q.2.1, c1.2.1]; exact hd)
      have m4 := (FF_VM c1 hM hq).1 4
      have f1 : FF p C (cpA C (p + 1) ((h : Int) * 28) (p + 1) ((h : Int) * 28 + 28) 28) := FF_c (by omega) (by omega)
      have f2 : FF p C (cpA (cpA C (p + 1) ((h : Int) * 28) (p + 1) ((h : Int) * 28 + 28) 28) (p + 2) ((h : Int) * 5) (p + 2) ((h : Int) * 5 + 5) 5) := FF_tr f1 (FF_c (by omega) (by omega))
      have r1 : ∀ z, (cpA (cpA C (p + 1) ((h : Int) * 28) (p + 1) ((h : Int) * 28 + 28) 28) (p + 2) ((h : Int) * 5) (p + 2) ((h : Int) * 5 + 5) 5).2.2.2.1 (p + 1) z = if (h : Int) * 28 + 28 ≤ z ∧ z < (h : Int) * 28 + 56 then C.2.2.2.1 (p + 1) (z - 28) else C.2.2.2.1 (p + 1) z := fun z => by
        rw [cpA_4, if_neg (by omega), cpA_4]
        by_cases q : (h : Int) * 28 + 28 ≤ z ∧ z < (h : Int) * 28 + 56
        · rw [if_pos ⟨rfl, by omega, by omega⟩, if_pos q, show (h : Int) * 28 + (z - ((h : Int) * 28 + 28)) = z - 28 by omega]
        · rw [if_neg (by omega), if_neg q]
      have r2 : ∀ z, (cpA (cpA C (p + 1) ((h : Int) * 28) (p + 1) ((h : Int) * 28 + 28) 28) (p + 2) ((h : Int) * 5) (p + 2) ((h : Int) * 5 + 5) 5).2.2.2.1 (p + 2) z = if (h : Int) * 5 + 5 ≤ z ∧ z < (h : Int) * 5 + 10 then C.2.2.2.1 (p + 2) (z - 5) else C.2.2.2.1 (p + 2) z := fun z => by
        rw [cpA_4]
        by_cases q : (h : Int) * 5 + 5 ≤ z ∧ z < (h : Int) * 5 + 10
        · rw [if_pos ⟨rfl, by omega, by omega⟩, if_pos q, show (h : Int) * 5 + (z - ((h : Int) * 5 + 5)) = z - 5 by omega, cpA_4, if_neg (by omega)]
        · rw [if_neg (by omega), if_neg q, cpA_4, if_neg (by omega)]
      have ro : ∀ e z, e ≠ p + 1 → e ≠ p + 2 → (cpA (cpA C (p + 1) ((h : Int) * 28) (p + 1) ((h : Int) * 28 + 28) 28) (p + 2) ((h : Int) * 5) (p + 2) ((h : Int) * 5 + 5) 5).2.2.2.1 e z = C.2.2.2.1 e z := fun e z q1 q2 => by
        rw [cpA_4, if_neg (fun n => q2 n.1), cpA_4, if_neg (fun n => q1 n.1)]
      have l7 : (cpA (cpA C (p + 1) ((h : Int) * 28) (p + 1) ((h : Int) * 28 + 28) 28) (p + 2) ((h : Int) * 5) (p + 2) ((h : Int) * 5 + 5) 5).2.1 p 7 = jI (gX h) := c3
      have cp1 := cp_ok (E := E) (B := C) (n := 28) P.2.1 P.2.1 (show 0 ≤ (h : Int) * 28 by omega) (show 0 ≤ (h : Int) * 28 + 28 by omega) (by omega) (by omega) (by omega) (by omega) (by omega)
      have cp2 := cp_ok (E := E) (B := cpA C (p + 1) ((h : Int) * 28) (p + 1) ((h : Int) * 28 + 28) 28) (n := 5) P.2.2.1 P.2.2.1 (show 0 ≤ (h : Int) * 5 by omega) (show 0 ≤ (h : Int) * 5 + 5 by omega) (by omega) (by omega) (by omega) (by omega) (by omega)
      generalize cpA (cpA C (p + 1) ((h : Int) * 28) (p + 1) ((h : Int) * 28 + 28) 28) (p + 2) ((h : Int) * 5) (p + 2) ((h : Int) * 5 + 5) 5 = D at f2 r1 r2 ro l7 cp2
      have fD := FF_tr c1 f2
      obtain ⟨G1, dg, k1, k2, k3, k4, k5⟩ := f7_drawGusts (B := D) (d := d) (ly := V.1 3) (o := o) (x := gX h) P (by rw [fD.2.1]; exact hd) hk ((FF_VM fD hM hq).1 3) (by omega) (by omega) (by rw [fD.1]; exact h8) o0 o1 l7 gx.1 gx.2
      have fG := FF_tr fD k1
      have pgs : FP G1 p V a h := ⟨fun h' s k q1 q2 q3 q4 q5 => by rw [k3 _ _ (by omega), r1, if_neg (by omega)]; exact c4.1 h' s k q1 q2 q3 q4 q5, fun h' i q1 q2 q3 q4 => by rw [k3 _ _ (by omega), r2, if_neg (by omega)]; exact c4.2.1 h' i q1 q2 q3 q4, fun h' s q1 q2 q3 => by rw [k3 _ _ (by omega), k3 _ _ (by omega), k3 _ _ (by omega), ro _ _ (by omega) (by omega), ro _ _ (by omega) (by omega), ro _ _ (by omega) (by omega)]; exact c4.2.2 h' s q1 q2 q3⟩
      obtain ⟨K, e1, n1, n2, n3, n4⟩ := f7_shops (C0 := G1) (a := a) (h := h) (V := V) P (by rw [fG.2.1]; exact hd) hk hq hV (FF_VM fG hM hq) (by rw [fG.1]; exact hn) (by omega) (by omega) pgs
        (fun s k q3 q4 q5 => by rw [k3 _ _ (by omega), r1, if_pos (by omega), show ((h : Int) + 1) * 28 + (s : Int) * 7 + k - 28 = (h : Int) * 28 + (s : Int) * 7 + k by omega]; exact c4.1 h s k (by omega) (by omega) q3 q4 q5)
        (fun i q3 q4 => by rw [k3 _ _ (by omega), r2, if_pos (by omega), show ((h : Int) + 1) * 5 + i - 5 = (h : Int) * 5 + i by omega]; exact c4.2.1 h i (by omega) (by omega) q3 q4)
        (fun l q1 q2 => by
          by_cases q : l = 0
          · rw [q, k4, ro _ _ (by omega) (by omega), c2, gz]
          · obtain ⟨m, rfl⟩ : ∃ m : Nat, l = m := ⟨l.toNat, by omega⟩
            rw [k5 m (by omega) (by omega), gl m (by omega) q2])
      refine ⟨(iI ((a + (j + 1) : Nat) : Int), St E K), ?_, K, rfl, FF_tr fG n1, ?_, ?_, ?_⟩
      · simp (disch := omega) only [fX7_flyFrom_l2, g6 C FF_rfl, g6_4 hk.1, m4, some_bind, iI_le, lt_, iI_mul, iI_add, g7_0 P.1, g7_1 P.1, cp1, cp2, dg, e1]
        rw [if_neg (by omega), show ((a + (j + 1) : Nat) : Int) = (h : Int) + 1 by omega]
      · rw [n3, k4, ro _ _ (by omega) (by omega), c2]
      · rw [n2, k2, show a + (j + 1) = h + 1 by omega, gn]
      · rw [show a + (j + 1) = h + 1 by omega]
        exact n4)
    (fun x => by
      rintro ⟨C, rfl, c1, c2, c3, c4⟩
      have g6 : gR (St E C) (E.1 + p) 7 6 = some (E.1 + d) := g7_6 P.1 (by rw [c1.2.1]; exact hd)
      have m4 := (FF_VM c1 hM hq).1 4
      rw [show a + ((V.1 4).toNat - a) = (V.1 4).toNat by omega] at c3 c4 ⊢
      refine ⟨_, ?_, C, rfl, c1, c2, c3, c4⟩
      simp (disch := omega) only [fX7_flyFrom_l2, g6, g6_4 hk.1, m4, some_bind, iI_le]
      rw [if_pos (by omega)])
    (N := FU) (by have := FU_big (n := V.1 4) (by omega); omega) (a := (iI (a : Int), St E B)) ⟨B, rfl, FF_rfl, g0, hx, I0⟩
  refine ⟨C, ?_, c1, c2, c3, c4⟩
  simp only [fX7_flyFrom, c7 P.1, some_bind, e1, e2]
end VF
