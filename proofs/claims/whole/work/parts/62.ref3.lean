/-! the reference's flight: hourOf -/
theorem cpA_lw {B : Bk} {r : Nat} {x a : Int} {v : Int → Int} (h : ∀ k, 0 ≤ k → k < 7 → B.2.2.2.1 r (x + k) = v k) : cpA B r x r a 7 = lw B r a v := by
  unfold cpA lw
  refine Prod.ext rfl (Prod.ext rfl (Prod.ext rfl (Prod.ext ?_ rfl)))
  funext e z
  dsimp only
  by_cases q : e = r ∧ a ≤ z ∧ z < a + 7
  · rw [if_pos q, if_pos q, h (z - a) (by omega) (by omega)]
  · rw [if_neg q, if_neg q]
section RH
variable {E : Ev} {C : Bk} {V : Vy} {v w : Int → Int} {a h s : Int}
theorem m_189 (rm : mKd E mo) (a0 : 0 ≤ a) (a1 : a + 7 ≤ 700) (hi : inS V h v) (hV : VOK V) (hM : MV C V) (h0 : 0 ≤ h) (h1 : h < V.1 4) (s0 : 0 ≤ s) (s1 : s < 4) (hw : ∀ i, 0 ≤ i → i < V.1 9 → C.2.2.2.1 (mo + 19) i = w i) (hwi : inW V w) {c : Int} (hc : carS (V.1 1) (V.1 2) (V.2.1 (v 2) h) (V.2.2.2.2.2 (v 2) h) v = c) {u : Int → Int} (hu : colS (coolV V h) (putS v c) = u) : fX9_hourOf_b189 (E.1 + mo) (iI s) (iI h) (iI a) (St E (lw C (mo + 15) a v)) = some (St E (tC (lw (smB (wA (wA C (mo + 17) (24 * s + h) (bI (¬ crX (V.1 1) (V.1 2) (v 1 * 8 + v 0) (V.2.1 (v 2) h) = v 1 * 8 + v 0))) (mo + 18) (24 * s + h) (selD V u w)) (selD V u w) w) (mo + 15) a (selS V (selD V u w) u)) c)) := by
  have b3 := hV.2.2.1
  have b4 := hV.2.2.2.1
  have i2 := hi.2.2.1
  have fin := m_218 (v := v) (w := w) rm a0 a1 hi hV hM h0 h1 s0 s1 hw hwi hc hu
  simp (disch := omega) only [fX9_hourOf_b189, g9_28 rm.1, some_bind, iI_add, aI_ok (mk15 rm), lw_g, g9_34 rm.1, lw_1, m_windOf rm]
  rcases hM.2.2.2.1 (v 2) h i2.1 i2.2 h0 h1 with ⟨q1, q2⟩ | ⟨q1, q2⟩
  · rw [q1, if_pos (show iI 0 = 0 from rfl), lw_o (by omega), q2]
    exact fin
  · rw [q1, if_neg (show ¬ iI 1 = 0 by decide)]
    rw [q2] at fin
    rw [q2]
    exact fin
theorem m_hourOf (rm : mKd E mo) (hi : inS V h v) (hV : VOK V) (hM : MV C V) (h0 : 0 ≤ h) (h1 : h < V.1 4) (s0 : 0 ≤ s) (s1 : s < V.1 8) (hv : ∀ k, 0 ≤ k → k < 7 → C.2.2.2.1 (mo + 15) (28 * h + 7 * s + k) = v k) (hw : ∀ i, 0 ≤ i → i < V.1 9 → C.2.2.2.1 (mo + 19) i = w i) (hwi : inW V w) : fX9_hourOf (E.1 + mo) (iI s) (iI h) (St E C) = some (St E (mB V h s v w C)) := by
  have b3 := hV.2.2.1
  have b4 := hV.2.2.2.1
  have b8 := hV.2.2.2.2.2.2.2.1
  have ba := hV.2.2.2.2.2.2.2.2.2.2.2.2.1 s h s0 s1 h0 h1
  have ma := hM.2.2.2.2.2.2.1 s h s0 s1 h0 h1
  have lp : iter (fX9_hourOf_l19 (E.1 + mo) (iI s) (iI h) (iI (28 * h + 7 * s)) (iI (28 * h + 7 * s + 28))) FU (iI 0, St E C) = some (St E (lw C (mo + 15) (28 * h + 7 * s + 28) v)) := by
    have := iter_for (F := fX9_hourOf_l19 (E.1 + mo) (iI s) (iI h) (iI (28 * h + 7 * s)) (iI (28 * h + 7 * s + 28))) (S := fun j => (iI j, St E (cpA C (mo + 15) (28 * h + 7 * s) (mo + 15) (28 * h + 7 * s + 28) j))) 0 7 (St E (cpA C (mo + 15) (28 * h + 7 * s) (mo + 15) (28 * h + 7 * s + 28) 7)) (fun j j1 j2 => by
      have e : (cpA C (mo + 15) (28 * h + 7 * s) (mo + 15) (28 * h + 7 * s + 28) j).2.2.2.1 (mo + 15) (28 * h + 7 * s + j) = C.2.2.2.1 (mo + 15) (28 * h + 7 * s + j) := by rw [cpA_4, if_neg (by omega)]
      simp (disch := omega) only [fX9_hourOf_l19, iI_le, g9_28 rm.1, some_bind, iI_add, aI_ok (mk15 rm), sI_ok (mk15 rm), e, cpA_s]
      rw [if_neg (by omega)]) (by
      simp (disch := omega) only [fX9_hourOf_l19, iI_le]
      rw [if_pos (by omega)]) (by omega) (N := FU) (by have := FU_big (n := 7) (by omega); omega)
    rw [cpA_0, cpA_lw hv] at this
    exact this
  have hvn := m_vain (v := v) (h := h) (act := V.2.2.2.2.1 s h) (C := lw C (mo + 15) (28 * h + 7 * s + 28) v) rm (GF_MV GF_l hM) hi hV ba.1 ba.2
  have wr : whyS (V.1 3) (V.2.2.2.2.1 s h) v = 0 ∨ whyS (V.1 3) (V.2.2.2.2.1 s h) v = 1 ∨ whyS (V.1 3) (V.2.2.2.2.1 s h) v = 2 ∨ whyS (V.1 3) (V.2.2.2.2.1 s h) v = 3 ∨ whyS (V.1 3) (V.2.2.2.2.1 s h) v = 4 := by
    unfold whyS
    repeat' split
    all_goals omega
  have ss := st1_in (s := s) hi
  have fin := m_189 (C := wA C (mo + 16) (24 * s + h) (whyS (V.1 3) (V.2.2.2.2.1 s h) v)) (a := 28 * h + 7 * s + 28) (v := st1 V h s v) (w := w) (s := s) rm (by omega) (by omega) ss hV (GF_MV (GF_A (by omega) (by omega)) hM) h0 h1 s0 (by omega) (fun i i1 i2 => by rw [wA_4, if_neg (by omega), hw i i1 i2]) hwi rfl rfl
  have ea : (lw C (mo + 15) (28 * h + 7 * s + 28) v).2.2.2.1 (mo + 12) (24 * s + h) = V.2.2.2.2.1 s h := by rw [lw_o (by omega), ma]
  simp (maxSteps := 1000000) (disch := omega) only [fX9_hourOf, c9 rm.1, some_bind, lt_, iI_mul, iI_add, lp, g9_23 rm.1, aI_ok (mk12 rm), ea, g9_28 rm.1, aI_ok (mk15 rm), lw_g, hvn, g9_29 rm.1, sI_ok (mk16 rm), lw_c, iI_eq, iI_0]
  unfold mB
  have e1 : ∀ u, u = st1 V h s v → fX9_hourOf_b189 (E.1 + mo) (iI s) (iI h) (iI (28 * h + 7 * s + 28)) (St E (lw (wA C (mo + 16) (24 * s + h) (whyS (V.1 3) (V.2.2.2.2.1 s h) v)) (mo + 15) (28 * h + 7 * s + 28) u)) = fX9_hourOf_b189 (E.1 + mo) (iI s) (iI h) (iI (28 * h + 7 * s + 28)) (St E (lw (wA C (mo + 16) (24 * s + h) (whyS (V.1 3) (V.2.2.2.2.1 s h) v)) (mo + 15) (28 * h + 7 * s + 28) (st1 V h s v))) := fun u hu => by rw [hu]
  have es : st1 V h s v = if whyS (V.1 3) (V.2.2.2.2.1 s h) v = 0 then doS (V.2.2.2.2.1 s h) v else v := rfl
  generalize hA : V.2.2.2.2.1 s h = A at *
  by_cases q1 : A = 1
  · rw [if_pos q1]
    by_cases q : whyS (V.1 3) A v = 0
    · simp (disch := omega) only [if_pos q, g9_28 rm.1, some_bind, aI_ok (mk15 rm), lw_g, sI_ok (mk15 rm), lw_w, iI_add, iI_sub, up1_o]
      rw [e1 _ (by rw [es, if_pos q]; unfold doS; rw [if_pos q1]), fin]
      rfl
    · simp (disch := omega) only [if_neg q, fX9_hourOf_b152, iI_eq]
      rw [if_neg (by omega), e1 _ (by rw [es, if_neg q]), fin]
      rfl
  · rw [if_neg q1]
    simp (disch := omega) only [fX9_hourOf_b152, iI_eq, iI_0]
    by_cases q2 : A = 2
    · rw [if_pos q2]
      by_cases q : whyS (V.1 3) A v = 0
      · simp (disch := omega) only [if_pos q, g9_28 rm.1, some_bind, aI_ok (mk15 rm), lw_g, sI_ok (mk15 rm), lw_w, iI_add, iI_sub, up1_o]
        rw [e1 _ (by rw [es, if_pos q]; unfold doS; rw [if_neg q1, if_pos q2]), fin]
        rfl
      · rw [if_neg q, e1 _ (by rw [es, if_neg q]), fin]
        rfl
    · rw [if_neg q2, e1 _ (by
        rw [es]
        by_cases q : whyS (V.1 3) A v = 0
        · rw [if_pos q]
          unfold doS
          rw [if_neg q1, if_neg q2]
        · rw [if_neg q]), fin]
      rfl
end RH
