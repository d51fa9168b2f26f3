/-! the reference's flight: goes -/
def bl1F (V : Vy) (h s : Nat) : Int := bI (¬ crX (V.1 1) (V.1 2) (st1 V h s ((fsF V h).1 s) 1 * 8 + st1 V h s ((fsF V h).1 s) 0) (V.2.1 (st1 V h s ((fsF V h).1 s) 2) h) = st1 V h s ((fsF V h).1 s) 1 * 8 + st1 V h s ((fsF V h).1 s) 0)
/-- the reference's rows tell the flight up to page h -/
def FQ (C : Bk) (V : Vy) (h : Nat) : Prop :=
  (∀ (h' s : Nat) (k : Int), h' ≤ h → (s : Int) < V.1 8 → 0 ≤ k → k < 7 → C.2.2.2.1 (mo + 15) (28 * (h' : Int) + 7 * (s : Int) + k) = (fsF V h').1 s k) ∧
  (∀ h' s : Nat, h' < h → (s : Int) < V.1 8 → C.2.2.2.1 (mo + 16) (24 * (s : Int) + h') = whyF V h' s ∧ C.2.2.2.1 (mo + 17) (24 * (s : Int) + h') = bl1F V h' s ∧ C.2.2.2.1 (mo + 18) (24 * (s : Int) + h') = sldF V h' s)
def FW (C : Bk) (V : Vy) (w : Int → Int) : Prop := ∀ i : Int, 0 ≤ i → i < V.1 9 → C.2.2.2.1 (mo + 19) i = w i
section RI
variable {E : Ev} {C : Bk} {V : Vy} {v w : Int → Int} {h s : Int}
theorem smB_4 {B : Bk} {D z : Int} {e : Nat} : (smB B D w).2.2.2.1 e z = if e = mo + 19 ∧ ¬ D = -1 ∧ z = D then w D - 1 else B.2.2.2.1 e z := by
  unfold smB
  by_cases q : D = -1
  · rw [if_pos q, if_neg (fun n => n.2.1 q)]
  · rw [if_neg q, wA_4]
    by_cases q2 : e = mo + 19 ∧ z = D
    · rw [if_pos q2, if_pos ⟨q2.1, q, q2.2⟩]
    · rw [if_neg q2, if_neg (fun n => q2 ⟨n.1, n.2.2⟩)]
theorem smB_GF {B : Bk} {D : Int} : GF B (smB B D w) := by
  unfold smB
  by_cases q : D = -1
  · rw [if_pos q]; exact GF_rfl
  · rw [if_neg q]; exact GF_A (by omega) (by omega)
theorem mB_GF : GF C (mB V h s v w C) := by
  unfold mB
  exact GF_tr (GF_tr (GF_tr (GF_tr (GF_tr (GF_A (by omega) (by omega)) (GF_A (by omega) (by omega))) (GF_A (by omega) (by omega))) smB_GF) GF_l) GF_t
theorem mB_15 {z : Int} : (mB V h s v w C).2.2.2.1 (mo + 15) z = if 28 * h + 7 * s + 28 ≤ z ∧ z < 28 * h + 7 * s + 28 + 7 then st4 V h s v w (z - (28 * h + 7 * s + 28)) else C.2.2.2.1 (mo + 15) z := by
  unfold mB
  rw [tC_2, lw_4]
  by_cases q : 28 * h + 7 * s + 28 ≤ z ∧ z < 28 * h + 7 * s + 28 + 7
  · rw [if_pos ⟨rfl, q⟩, if_pos q]
  · rw [if_neg (fun n => q n.2), if_neg q, smB_4, if_neg (by omega), wA_4, if_neg (by omega), wA_4, if_neg (by omega), wA_4, if_neg (by omega)]
theorem mB_16 {z : Int} : (mB V h s v w C).2.2.2.1 (mo + 16) z = if z = 24 * s + h then whyS (V.1 3) (V.2.2.2.2.1 s h) v else C.2.2.2.1 (mo + 16) z := by
  unfold mB
  rw [tC_2, lw_o (by omega), smB_4, if_neg (by omega), wA_4, if_neg (by omega), wA_4, if_neg (by omega), wA_4]
  by_cases q : z = 24 * s + h
  · rw [if_pos ⟨rfl, q⟩, if_pos q]
  · rw [if_neg (fun n => q n.2), if_neg q]
theorem mB_17 {z : Int} : (mB V h s v w C).2.2.2.1 (mo + 17) z = if z = 24 * s + h then bI (¬ crX (V.1 1) (V.1 2) (st1 V h s v 1 * 8 + st1 V h s v 0) (V.2.1 (st1 V h s v 2) h) = st1 V h s v 1 * 8 + st1 V h s v 0) else C.2.2.2.1 (mo + 17) z := by
  unfold mB
  rw [tC_2, lw_o (by omega), smB_4, if_neg (by omega), wA_4, if_neg (by omega), wA_4]
  by_cases q : z = 24 * s + h
  · rw [if_pos ⟨rfl, q⟩, if_pos q]
  · rw [if_neg (fun n => q n.2), if_neg q, wA_4, if_neg (by omega)]
theorem mB_18 {z : Int} : (mB V h s v w C).2.2.2.1 (mo + 18) z = if z = 24 * s + h then stD V h s v w else C.2.2.2.1 (mo + 18) z := by
  unfold mB
  rw [tC_2, lw_o (by omega), smB_4, if_neg (by omega), wA_4]
  by_cases q : z = 24 * s + h
  · rw [if_pos ⟨rfl, q⟩, if_pos q]
  · rw [if_neg (fun n => q n.2), if_neg q, wA_4, if_neg (by omega), wA_4, if_neg (by omega)]
theorem mB_19 {z : Int} : (mB V h s v w C).2.2.2.1 (mo + 19) z = if ¬ stD V h s v w = -1 ∧ z = stD V h s v w then w (stD V h s v w) - 1 else C.2.2.2.1 (mo + 19) z := by
  unfold mB
  rw [tC_2, lw_o (by omega), smB_4]
  by_cases q : ¬ stD V h s v w = -1 ∧ z = stD V h s v w
  · rw [if_pos ⟨rfl, q⟩, if_pos q]
  · rw [if_neg (fun n => q n.2), if_neg q, wA_4, if_neg (by omega), wA_4, if_neg (by omega), wA_4, if_neg (by omega)]
end RI
section RJ
variable {E : Ev} {V : Vy}
theorem m_go143 {C0 : Bk} {h : Nat} (rm : mKd E mo) (hV : VOK V) (hM : MV C0 V) (h1 : (h : Int) < V.1 4) (I0 : FQ C0 V h) (wt : FW C0 V (fsF V h).2) : ∃ C, iter (fX9_goes_l143 (E.1 + mo) (iI h)) FU (iI 0, St E C0) = some (St E C) ∧ GF C0 C ∧ FQ C V (h + 1) ∧ FW C V (fsF V (h + 1)).2 := by
  have b4 := hV.2.2.2.1
  have b8 := hV.2.2.2.2.2.2.2.1
  have b9 := hV.2.2.2.2.2.2.2.2.1
  obtain ⟨r, e1, C, e2, c1, c4, c5, c6, c7'⟩ := iter_acc (F := fX9_goes_l143 (E.1 + mo) (iI h)) (fun j x => ∃ C, x = (iI (j : Int), St E C) ∧ GF C0 C ∧ FQ C V h ∧ (∀ (s : Nat) (k : Int), s < j → 0 ≤ k → k < 7 → C.2.2.2.1 (mo + 15) (28 * ((h : Int) + 1) + 7 * (s : Int) + k) = (fsB V h j).1 s k) ∧ FW C V (fsB V h j).2 ∧ (∀ s : Nat, s < j → C.2.2.2.1 (mo + 16) (24 * (s : Int) + h) = whyF V h s ∧ C.2.2.2.1 (mo + 17) (24 * (s : Int) + h) = bl1F V h s ∧ C.2.2.2.1 (mo + 18) (24 * (s : Int) + h) = sldF V h s)) (V.1 8).toNat (fun r => ∃ C, r = St E C ∧ GF C0 C ∧ FQ C V h ∧ (∀ (s : Nat) (k : Int), s < (V.1 8).toNat → 0 ≤ k → k < 7 → C.2.2.2.1 (mo + 15) (28 * ((h : Int) + 1) + 7 * (s : Int) + k) = (fsB V h (V.1 8).toNat).1 s k) ∧ FW C V (fsB V h (V.1 8).toNat).2 ∧ (∀ s : Nat, s < (V.1 8).toNat → C.2.2.2.1 (mo + 16) (24 * (s : Int) + h) = whyF V h s ∧ C.2.2.2.1 (mo + 17) (24 * (s : Int) + h) = bl1F V h s ∧ C.2.2.2.1 (mo + 18) (24 * (s : Int) + h) = sldF V h s))
    (fun j x hj => by
      rintro ⟨C, rfl, c1, c4, c5, c6, c7'⟩
      have hMC := GF_MV c1 hM
      have m8 := hMC.1.2.2.2.2.2.1
      have ok := fsB_ok hV (h := h) (j := j) (by omega)
      have fl := m_hourOf (C := C) (v := (fsF V h).1 j) (w := (fsB V h j).2) (h := (h : Int)) (s := (j : Int)) rm (fsF_in hV (by omega) (by omega)) hV hMC (by omega) h1 (by omega) (by omega) (fun k k0 k1 => c4.1 h j k (Nat.le_refl _) (by omega) k0 k1) c6 ok.2.2
      have dw : stD V h j ((fsF V h).1 j) (fsB V h j).2 = -1 ∨ (0 ≤ stD V h j ((fsF V h).1 j) (fsB V h j).2 ∧ stD V h j ((fsF V h).1 j) (fsB V h j).2 < V.1 9) := by
        rcases stD_b (h := h) (s := j) (v := (fsF V h).1 j) (w := (fsB V h j).2) hV with q | q
        · exact Or.inl q
        · exact Or.inr ⟨q.1, q.2.1⟩
      refine ⟨(iI ((j + 1 : Nat) : Int), St E (mB V h j ((fsF V h).1 j) (fsB V h j).2 C)), ?_, _, rfl, GF_tr c1 mB_GF, ⟨fun h' s k q2 q3 q4 q5 => ?_, fun h' s q2 q3 => ?_⟩, fun s k q3 q4 q5 => ?_, fun i q3 q4 => ?_, fun s q => ?_⟩
      · simp (disch := omega) only [fX9_goes_l143, g9_17 rm.1, aI_ok (mk7 rm), m8, some_bind, iI_le, fl, iI_add]
        rw [if_neg (by omega)]
        rfl
      · rw [mB_15, if_neg (by omega)]
        exact c4.1 h' s k q2 q3 q4 q5
      · rw [mB_16, mB_17, mB_18, if_neg (by omega), if_neg (by omega), if_neg (by omega)]
        exact c4.2 h' s q2 q3
      · rw [mB_15]
        by_cases q : s = j
        · rw [if_pos (by omega), q, fsB_s, show 28 * ((h : Int) + 1) + 7 * (j : Int) + k - (28 * (h : Int) + 7 * (j : Int) + 28) = k by omega]
        · rw [if_neg (by omega), c5 s k (by omega) q4 q5]
          show _ = (if (s : Int) = (j : Int) then _ else (fsB V h j).1 s) k
          rw [if_neg (by omega)]
      · rw [mB_19, fsB_w]
        unfold selW
        generalize stD V h j ((fsF V h).1 j) (fsB V h j).2 = D at dw ⊢
        by_cases q : D = -1
        · rw [if_neg (fun n => n.1 q), if_pos q]
          exact c6 i q3 q4
        · rw [if_neg q]
          unfold up1
          by_cases q2 : i = D
          · rw [if_pos ⟨q, by omega⟩, if_pos q2]
          · rw [if_neg (by omega), if_neg q2]
            exact c6 i q3 q4
      · rw [mB_16, mB_17, mB_18]
        by_cases q2 : s = j
        · rw [if_pos (by omega), if_pos (by omega), if_pos (by omega), q2]
          exact ⟨rfl, rfl, rfl⟩
        · rw [if_neg (by omega), if_neg (by omega), if_neg (by omega)]
          exact c7' s (by omega))
    (fun x => by
      rintro ⟨C, rfl, c1, c4, c5, c6, c7'⟩
      have m8 := (GF_MV c1 hM).1.2.2.2.2.2.1
      refine ⟨_, ?_, C, rfl, c1, c4, c5, c6, c7'⟩
      simp (disch := omega) only [fX9_goes_l143, g9_17 rm.1, aI_ok (mk7 rm), m8, some_bind, iI_le]
      rw [if_pos (by omega)])
    (N := FU) (by have := FU_big (n := V.1 8) (by omega); omega) (a := (iI 0, St E C0)) ⟨C0, rfl, GF_rfl, I0, fun s k q => by omega, wt, fun s q => by omega⟩
  refine ⟨C, by rw [e1, e2], c1, ⟨fun h' s k q2 q3 q4 q5 => ?_, fun h' s q2 q3 => ?_⟩, c6⟩
  · by_cases q : h' = h + 1
    · rw [q, ← fsB_n]
      exact c5 s k (by omega) q4 q5
    · exact c4.1 h' s k (by omega) q3 q4 q5
  · by_cases q : h' = h
    · rw [q]
      exact c7' s (by omega)
    · exact c4.2 h' s (by omega) q3
theorem m_go131 {C0 : Bk} (rm : mKd E mo) (hV : VOK V) (hM : MV C0 V) (I0 : FQ C0 V 0) (wt : FW C0 V (fsF V 0).2) : ∃ C, iter (fX9_goes_l131 (E.1 + mo)) FU (iI 0, St E C0) = some (St E C) ∧ GF C0 C ∧ FQ C V (V.1 4).toNat ∧ FW C V (fsF V (V.1 4).toNat).2 := by
  have b4 := hV.2.2.2.1
  obtain ⟨r, e1, C, e2, c1, c2, c3⟩ := iter_acc (F := fX9_goes_l131 (E.1 + mo)) (fun j x => ∃ C, x = (iI (j : Int), St E C) ∧ GF C0 C ∧ FQ C V j ∧ FW C V (fsF V j).2) (V.1 4).toNat (fun r => ∃ C, r = St E C ∧ GF C0 C ∧ FQ C V (V.1 4).toNat ∧ FW C V (fsF V (V.1 4).toNat).2)
    (fun j x hj => by
      rintro ⟨C, rfl, c1, c2, c3⟩
      have hMC := GF_MV c1 hM
      have m4 := hMC.1.2.2.2.1
      obtain ⟨D, e1, d1, d2, d3⟩ := m_go143 (C0 := C) (h := j) rm hV hMC (by omega) c2 c3
      refine ⟨(iI ((j + 1 : Nat) : Int), St E D), ?_, D, rfl, GF_tr c1 d1, d2, d3⟩
      simp (disch := omega) only [fX9_goes_l131, g9_17 rm.1, aI_ok (mk7 rm), m4, some_bind, iI_le, e1, iI_add]
      rw [if_neg (by omega)]
      rfl)
    (fun x => by
      rintro ⟨C, rfl, c1, c2, c3⟩
      have m4 := (GF_MV c1 hM).1.2.2.2.1
      refine ⟨_, ?_, C, rfl, c1, c2, c3⟩
      simp (disch := omega) only [fX9_goes_l131, g9_17 rm.1, aI_ok (mk7 rm), m4, some_bind, iI_le]
      rw [if_pos (by omega)])
    (N := FU) (by have := FU_big (n := V.1 4) (by omega); omega) (a := (iI 0, St E C0)) ⟨C0, rfl, GF_rfl, I0, wt⟩
  exact ⟨C, by rw [e1, e2], c1, c2, c3⟩
theorem m_go2 {C0 : Bk} (rm : mKd E mo) (hV : VOK V) (hM : MV C0 V) : ∃ C, iter (fX9_goes_l2 (E.1 + mo)) FU (iI 0, St E C0) = some (St E C) ∧ GF C0 C ∧ FW C V (fs0 V).2 := by
  have b9 := hV.2.2.2.2.2.2.2.2.1
  obtain ⟨r, e1, C, e2, c1, c2⟩ := iter_acc (F := fX9_goes_l2 (E.1 + mo)) (fun j x => ∃ C, x = (iI (j : Int), St E C) ∧ GF C0 C ∧ (∀ i : Int, 0 ≤ i → i < (j : Int) → C.2.2.2.1 (mo + 19) i = V.2.2.2.1 i 2)) (V.1 9).toNat (fun r => ∃ C, r = St E C ∧ GF C0 C ∧ FW C V (fs0 V).2)
    (fun j x hj => by
      rintro ⟨C, rfl, c1, c2⟩
      have hMC := GF_MV c1 hM
      have m9 := hMC.1.2.2.2.2.2.2
      have md := hMC.2.2.2.2.2.1 j 2 (by omega) (by omega) (by omega) (by omega)
      refine ⟨(iI ((j + 1 : Nat) : Int), St E (wA C (mo + 19) (j : Int) (V.2.2.2.1 j 2))), ?_, _, rfl, GF_tr c1 (GF_A (by omega) (by omega)), fun i i1 i2 => ?_⟩
      · simp (disch := omega) only [fX9_goes_l2, g9_17 rm.1, aI_ok (mk7 rm), m9, some_bind, iI_le, g9_32 rm.1, g9_22 rm.1, iI_mul, iI_add, aI_ok (mk11 rm), md, sI_ok (mk19 rm)]
        rw [if_neg (by omega)]
        rfl
      · rw [wA_4]
        by_cases q : i = (j : Int)
        · rw [if_pos ⟨rfl, q⟩, q]
        · rw [if_neg (fun n => q n.2)]
          exact c2 i i1 (by omega))
    (fun x => by
      rintro ⟨C, rfl, c1, c2⟩
      have m9 := (GF_MV c1 hM).1.2.2.2.2.2.2
      refine ⟨_, ?_, C, rfl, c1, fun i i1 i2 => c2 i i1 (by omega)⟩
      simp (disch := omega) only [fX9_goes_l2, g9_17 rm.1, aI_ok (mk7 rm), m9, some_bind, iI_le]
      rw [if_pos (by omega)])
    (N := FU) (by have := FU_big (n := V.1 9) (by omega); omega) (a := (iI 0, St E C0)) ⟨C0, rfl, GF_rfl, fun i i1 i2 => by omega⟩
  exact ⟨C, by rw [e1, e2], c1, c2⟩
theorem m_go50 {C0 : Bk} {s : Nat} (rm : mKd E mo) (hV : VOK V) (hM : MV C0 V) (s1 : (s : Int) < V.1 8) : ∃ C, iter (fX9_goes_l50 (E.1 + mo) (iI s)) FU (iI 0, St E C0) = some (St E C) ∧ GF C0 C ∧ (∀ z, C.2.2.2.1 (mo + 19) z = C0.2.2.2.1 (mo + 19) z) ∧ (∀ z, C.2.2.2.1 (mo + 15) z = if 7 * (s : Int) ≤ z ∧ z < 7 * (s : Int) + 6 then V.2.2.1 s (z - 7 * (s : Int)) else C0.2.2.2.1 (mo + 15) z) := by
  have b8 := hV.2.2.2.2.2.2.2.1
  obtain ⟨r, e1, C, e2, c1, c2, c3⟩ := iter_acc (F := fX9_goes_l50 (E.1 + mo) (iI s)) (fun j x => ∃ C, x = (iI (j : Int), St E C) ∧ GF C0 C ∧ (∀ z, C.2.2.2.1 (mo + 19) z = C0.2.2.2.1 (mo + 19) z) ∧ (∀ z, C.2.2.2.1 (mo + 15) z = if 7 * (s : Int) ≤ z ∧ z < 7 * (s : Int) + (j : Int) then V.2.2.1 s (z - 7 * (s : Int)) else C0.2.2.2.1 (mo + 15) z)) 6 (fun r => ∃ C, r = St E C ∧ GF C0 C ∧ (∀ z, C.2.2.2.1 (mo + 19) z = C0.2.2.2.1 (mo + 19) z) ∧ (∀ z, C.2.2.2.1 (mo + 15) z = if 7 * (s : Int) ≤ z ∧ z < 7 * (s : Int) + 6 then V.2.2.1 s (z - 7 * (s : Int)) else C0.2.2.2.1 (mo + 15) z))
    (fun j x hj => by
      rintro ⟨C, rfl, c1, c2, c3⟩
      have hMC := GF_MV c1 hM
      have ms := hMC.2.2.2.2.1 s j (by omega) s1 (by omega) (by omega)
      refine ⟨(iI ((j + 1 : Nat) : Int), St E (wA C (mo + 15) (7 * (s : Int) + (j : Int)) (V.2.2.1 s j))), ?_, _, rfl, GF_tr c1 (GF_A (by omega) (by omega)), fun z => by rw [wA_4, if_neg (by omega)]; exact c2 z, fun z => ?_⟩
      · simp (disch := omega) only [fX9_goes_l50, fX9_goes_b102, iI_le, g9_28 rm.1, g9_21 rm.1, some_bind, iI_mul, iI_add, aI_ok (mk10 rm), iI_eq, g9_37 rm.1, g9_38 rm.1, sI_ok (mk15 rm)]
        rw [if_neg (by omega), ← ms]
        by_cases q3 : (j : Int) = 3
        · rw [if_pos q3, if_pos q3]
          rfl
        · rw [if_neg q3, if_neg q3]
          by_cases q4 : (j : Int) = 4
          · rw [if_pos q4, if_pos q4]
            rfl
          · rw [if_neg q4, if_neg q4]
            rfl
      · rw [wA_4, c3]
        by_cases q : z = 7 * (s : Int) + (j : Int)
        · rw [if_pos ⟨rfl, q⟩, if_pos (by omega), q, show 7 * (s : Int) + (j : Int) - 7 * (s : Int) = j by omega]
        · rw [if_neg (fun n => q n.2)]
          by_cases q2 : 7 * (s : Int) ≤ z ∧ z < 7 * (s : Int) + (j : Int)
          · rw [if_pos q2, if_pos (by omega)]
          · rw [if_neg q2, if_neg (by omega)])
    (fun x => by
      rintro ⟨C, rfl, c1, c2, c3⟩
      refine ⟨_, ?_, C, rfl, c1, c2, c3⟩
      simp (disch := omega) only [fX9_goes_l50, iI_le]
      rw [if_pos (by omega)])
    (N := FU) (by have := FU_big (n := 6) (by omega); omega) (a := (iI 0, St E C0)) ⟨C0, rfl, GF_rfl, fun _ => rfl, fun z => by rw [if_neg (by omega)]⟩
  exact ⟨C, by rw [e1, e2], c1, c2, c3⟩
theorem m_go37 {C0 : Bk} {w : Int → Int} (rm : mKd E mo) (hV : VOK V) (hM : MV C0 V) (hw : FW C0 V w) : ∃ C, iter (fX9_goes_l37 (E.1 + mo)) FU (iI 0, St E C0) = some (St E C) ∧ GF C0 C ∧ FW C V w ∧ FQ C V 0 := by
  have b8 := hV.2.2.2.2.2.2.2.1
  obtain ⟨r, e1, C, e2, c1, c2, c3⟩ := iter_acc (F := fX9_goes_l37 (E.1 + mo)) (fun j x => ∃ C, x = (iI (j : Int), St E C) ∧ GF C0 C ∧ FW C V w ∧ (∀ (s : Nat) (k : Int), s < j → 0 ≤ k → k < 7 → C.2.2.2.1 (mo + 15) (7 * (s : Int) + k) = (fs0 V).1 s k)) (V.1 8).toNat (fun r => ∃ C, r = St E C ∧ GF C0 C ∧ FW C V w ∧ (∀ (s : Nat) (k : Int), s < (V.1 8).toNat → 0 ≤ k → k < 7 → C.2.2.2.1 (mo + 15) (7 * (s : Int) + k) = (fs0 V).1 s k))
    (fun j x hj => by
      rintro ⟨C, rfl, c1, c2, c3⟩
      have hMC := GF_MV c1 hM
      have m8 := hMC.1.2.2.2.2.2.1
      obtain ⟨K, e1, k1, k2, k3⟩ := m_go50 (C0 := C) (s := j) rm hV hMC (by omega)
      refine ⟨(iI ((j + 1 : Nat) : Int), St E (wA K (mo + 15) (7 * (j : Int) + 6) 0)), ?_, _, rfl, GF_tr (GF_tr c1 k1) (GF_A (by omega) (by omega)), fun i i1 i2 => by rw [wA_4, if_neg (by omega), k2]; exact c2 i i1 i2, fun s k q1 q2 q3 => ?_⟩
      · simp (disch := omega) only [fX9_goes_l37, g9_17 rm.1, aI_ok (mk7 rm), m8, some_bind, iI_le, e1, g9_28 rm.1, iI_mul, iI_add, sI_ok (mk15 rm)]
        rw [if_neg (by omega)]
        rfl
      · rw [wA_4, k3]
        by_cases q : s = j
        · subst q
          show _ = if k = 6 then 0 else V.2.2.1 s k
          by_cases q6 : k = 6
          · rw [if_pos ⟨rfl, by omega⟩, if_pos q6]
          · rw [if_neg (by omega), if_pos (by omega), if_neg q6, show 7 * (s : Int) + k - 7 * (s : Int) = k by omega]
        · rw [if_neg (by omega), if_neg (by omega)]
          exact c3 s k (by omega) q2 q3)
    (fun x => by
      rintro ⟨C, rfl, c1, c2, c3⟩
      have m8 := (GF_MV c1 hM).1.2.2.2.2.2.1
      refine ⟨_, ?_, C, rfl, c1, c2, c3⟩
      simp (disch := omega) only [fX9_goes_l37, g9_17 rm.1, aI_ok (mk7 rm), m8, some_bind, iI_le]
      rw [if_pos (by omega)])
    (N := FU) (by have := FU_big (n := V.1 8) (by omega); omega) (a := (iI 0, St E C0)) ⟨C0, rfl, GF_rfl, hw, fun s k q => by omega⟩
  refine ⟨C, by rw [e1, e2], c1, c2, fun h' s k q2 q3 q4 q5 => ?_, fun h' s q2 => by omega⟩
  have e : h' = 0 := by omega
  subst e
  rw [show 28 * ((0 : Nat) : Int) + 7 * (s : Int) + k = 7 * (s : Int) + k by omega]
  exact c3 s k (by omega) q4 q5
theorem m_goes {C0 : Bk} (rm : mKd E mo) (hV : VOK V) (hM : MV C0 V) : ∃ C, fX9_goes (E.1 + mo) (St E C0) = some (St E C) ∧ GF C0 C ∧ FQ C V (V.1 4).toNat ∧ FW C V (fsF V (V.1 4).toNat).2 := by
  obtain ⟨C1, e1, c1, w1⟩ := m_go2 rm hV hM
  obtain ⟨C2, e2, c2, w2, q2⟩ := m_go37 rm hV (GF_MV c1 hM) w1
  obtain ⟨C3, e3, c3, q3, w3⟩ := m_go131 rm hV (GF_MV (GF_tr c1 c2) hM) q2 w2
  refine ⟨C3, ?_, GF_tr (GF_tr c1 c2) c3, q3, w3⟩
  simp only [fX9_goes, c9 rm.1, some_bind, e1, e2, e3]
end RJ
