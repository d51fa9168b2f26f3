/-! the reference's flight: the hour of a shop -/
section RG
variable {E : Ev} {C : Bk} {V : Vy} {v w : Int → Int} {a h s : Int}
theorem tC_w {X : Bk} {c : Int} {e : Nat} {z x : Int} : wA (tC X c) e z x = tC (wA X e z x) c := rfl
theorem tC_26 {X : Bk} {c : Int} : (tC X c).1 mo 26 = c % 8 := tB_26
theorem tC_27 {X : Bk} {c : Int} : (tC X c).1 mo 27 = c / 8 := tB_27
theorem tC_j {X : Bk} {c : Int} {j : Nat} (h : j ≠ 26) (h' : j ≠ 27) : (tC X c).1 mo j = X.1 mo j := by
  unfold tC tB
  rw [wI_1, if_neg (fun n => h' n.2), wI_1, if_neg (fun n => h n.2)]
/-- a door of the reference wants one less -/
def smB (B : Bk) (d : Int) (w : Int → Int) : Bk := if d = -1 then B else wA B (mo + 19) d (w d - 1)
theorem m_sells (rm : mKd E mo) (a0 : 0 ≤ a) (a1 : a + 7 ≤ 700) (hi : inS V h v) (hV : VOK V) (hM : MV C V) (h0 : 0 ≤ h) (h1 : h < 24) (s0 : 0 ≤ s) (s1 : s < 4) {c : Int} (hw : ∀ i, 0 ≤ i → i < V.1 9 → C.2.2.2.1 (mo + 19) i = w i) (hwi : inW V w) : fX9_sells (E.1 + mo) (iI s) (iI h) (iI a) (St E (tC (lw C (mo + 15) a v) c)) = some (St E (tC (lw (smB (wA C (mo + 18) (24 * s + h) (selD V v w)) (selD V v w) w) (mo + 15) a (selS V (selD V v w) v)) c)) := by
  have db := drV_b hV (c := v 1 * 8 + v 0)
  have hV' := hV
  obtain ⟨b1, b2, b3, b4, b5, b6, b7, b8, b9, bw, -⟩ := hV'
  obtain ⟨i0, i1, i2, i3, i4, i5, i6⟩ := hi
  have hM1 : ∀ x, MV (tC (lw (wA C (mo + 18) (24 * s + h) x) (mo + 15) a v) c) V := fun x => GF_MV (GF_tr (GF_tr (GF_A (by omega) (by omega)) GF_l) GF_t) hM
  have hdo : ∀ x, fX9_doorAt (E.1 + mo) (iI (v 0)) (iI (v 1)) (St E (tC (lw (wA C (mo + 18) (24 * s + h) x) (mo + 15) a v) c)) = some (iI (drV V (v 1 * 8 + v 0)), St E (tC (lw (wA C (mo + 18) (24 * s + h) x) (mo + 15) a v) c)) := fun x => m_doorAt rm (hM1 x) hV i0.1 i0.2 i1.1 i1.2
  simp (maxSteps := 1000000) (disch := omega) only [fX9_sells, c9 rm.1, g9_31 rm.1, g9_28 rm.1, g9_32 rm.1, some_bind, iI_mul, iI_add, sI_ok (mk18 rm), tC_w, lw_c, aI_ok (mk15 rm), tC_2, lw_g, lw_g0, hdo, iI_eq]
  unfold selD
  generalize drV V (v 1 * 8 + v 0) = D at db ⊢
  by_cases q1 : D = -1
  · rw [if_pos q1, if_neg (fun z => z.1 q1)]
    rfl
  · rw [if_neg q1]
    have wb := hwi D (by omega) (by omega)
    have hz : ∀ x, (lw (wA C (mo + 18) (24 * s + h) x) (mo + 15) a v).2.2.2.1 (mo + 19) D = w D := fun x => by rw [lw_o (by omega), wA_4, if_neg (by omega), hw D (by omega) (by omega)]
    simp (maxSteps := 1000000) (disch := omega) only [aI_ok (mk19 rm), tC_2, hz, some_bind, iI_0, iI_eq, m_reachOf rm (hM1 (-1)), iI_le]
    by_cases q4 : w D = 0
    · rw [if_pos q4, if_neg (fun z => by omega)]
      rfl
    · rw [if_neg q4]
      by_cases q3 : v 5 = 0
      · rw [if_pos q3, if_neg (fun z => by omega)]
        rfl
      · rw [if_neg q3]
        by_cases q2 : v 2 ≤ V.1 6
        · rw [if_pos q2, if_pos ⟨q1, by omega, by omega, by omega⟩]
          have hM2 : ∀ x y u, MV (tC (lw (wA (wA C (mo + 18) (24 * s + h) x) (mo + 19) D y) (mo + 15) a u) c) V := fun x y u => GF_MV (GF_tr (GF_tr (GF_tr (GF_A (by omega) (by omega)) (GF_A (by omega) (by omega))) GF_l) GF_t) hM
          have he : ∀ x y u, fX9_earns (E.1 + mo) (iI (v 2)) (St E (tC (lw (wA (wA C (mo + 18) (24 * s + h) x) (mo + 19) D y) (mo + 15) a u) c)) = some (iI (max 0 (V.1 7 - v 2)), St E (tC (lw (wA (wA C (mo + 18) (24 * s + h) x) (mo + 19) D y) (mo + 15) a u) c)) := fun x y u => by
            rw [m_earns rm (hM2 x y u).2.2.2.2.2.2.2.2 i2.1 (by omega), (hM2 x y u).1.2.2.2.2.1]
          have h2 : ∀ x y u, aI (St E (tC (lw (wA (wA C (mo + 18) (24 * s + h) x) (mo + 19) D y) (mo + 15) a u) c)) (E.1 + (mo + 7)) (iI 2) = some (iI (V.1 3)) := fun x y u => by
            rw [aI_ok (mk7 rm) (by omega) (by omega) (by omega), (hM2 x y u).1.2.2.1]
          simp (maxSteps := 1000000) (disch := omega) only [g9_31 rm.1, some_bind, sI_ok (mk18 rm), tC_w, lw_c, wA_wA, g9_32 rm.1, aI_ok (mk19 rm), tC_2, hz, iI_sub, sI_ok (mk19 rm), g9_28 rm.1, aI_ok (mk15 rm), lw_g, sI_ok (mk15 rm), lw_w, up1_o, he, iI_add, g9_17 rm.1, h2, iI_le]
          unfold smB selS
          rw [if_neg q1, if_neg q1]
          by_cases q5 : V.1 3 - 1 ≤ v 2
          · rw [if_pos q5, show min (v 2 + 1) (V.1 3 - 1) = v 2 by omega]
            have e : up1 (up1 (up1 v 5 (v 5 - 1)) 6 (v 6 + max 0 (V.1 7 - v 2))) 2 (v 2) = up1 (up1 v 5 (v 5 - 1)) 6 (v 6 + max 0 (V.1 7 - v 2)) := by
              funext j
              by_cases q : j = 2
              · rw [q, up1_s, up1_o (by omega), up1_o (by omega)]
              · rw [up1_o q]
            rw [e]
          · rw [if_neg q5, show min (v 2 + 1) (V.1 3 - 1) = v 2 + 1 by omega]
        · rw [if_neg q2, if_neg (fun z => q2 z.2.1)]
          rfl
/-- what a shop's hour makes of all, in the reference -/
def mB (V : Vy) (h s : Int) (v w : Int → Int) (C : Bk) : Bk :=
  tC (lw (smB (wA (wA (wA C (mo + 16) (24 * s + h) (whyS (V.1 3) (V.2.2.2.2.1 s h) v)) (mo + 17) (24 * s + h) (bI (¬ crX (V.1 1) (V.1 2) (st1 V h s v 1 * 8 + st1 V h s v 0) (V.2.1 (st1 V h s v 2) h) = st1 V h s v 1 * 8 + st1 V h s v 0))) (mo + 18) (24 * s + h) (stD V h s v w)) (stD V h s v w) w) (mo + 15) (28 * h + 7 * s + 28) (st4 V h s v w)) (stC V h s v)
theorem m_290 (rm : mKd E mo) (a0 : 0 ≤ a) (a1 : a + 7 ≤ 700) (hi : inS V h v) (hV : VOK V) (hM : MV C V) (h0 : 0 ≤ h) (h1 : h < 24) (s0 : 0 ≤ s) (s1 : s < 4) {c : Int} (hc : cOK (V.1 1) (V.1 2) c) (hw : ∀ i, 0 ≤ i → i < V.1 9 → C.2.2.2.1 (mo + 19) i = w i) (hwi : inW V w) {u : Int → Int} (hu : colS (coolV V h) (putS v c) = u) : fX9_hourOf_b290 (E.1 + mo) (iI s) (iI h) (iI a) (St E (tC (lw C (mo + 15) a v) c)) = some (St E (tC (lw (smB (wA C (mo + 18) (24 * s + h) (selD V u w)) (selD V u w) w) (mo + 15) a (selS V (selD V u w) u)) c)) := by
  have hp := putS_in hi hc
  have hu2 := colS_in (b := coolV V h) hp
  rw [hu] at hu2
  have b3 := hV.2.2.1
  have fin := m_sells (v := u) (w := w) (c := c) rm a0 a1 hu2 hV hM h0 h1 s0 s1 hw hwi
  have hco := m_isCool (h := h) (C := tC (lw C (mo + 15) a (putS v c)) c) rm (GF_MV (GF_tr GF_l GF_t) hM) hV h0 h1
  have p2 : 0 ≤ putS v c 2 ∧ putS v c 2 < V.1 3 := hp.2.2.1
  have e : up1 (up1 v 0 (c % 8)) 1 (c / 8) = putS v c := rfl
  simp (disch := omega) only [fX9_hourOf_b290, fX9_hourOf_b347, g9_28 rm.1, g9_26 rm.1, g9_27 rm.1, tC_26, tC_27, some_bind, sI_ok (mk15 rm), tC_w, lw_w0, iI_add, lw_w, e, hco, iI_0, coolV, ib, aI_ok (mk15 rm), tC_2, lw_g, iI_le, iI_sub]
  unfold colS coolV at hu
  by_cases q : 0 < V.1 5 ∧ (h + 1) % V.1 5 = 0
  · rw [if_pos q]
    rw [bI_t q] at hu
    by_cases q2 : putS v c 2 ≤ 0
    · rw [if_neg (by omega)] at hu
      rw [if_pos q2, hu, fin]
      rfl
    · rw [if_pos ⟨rfl, by omega⟩] at hu
      rw [if_neg q2, hu, fin]
      rfl
  · rw [if_neg q]
    rw [bI_f q, if_neg (by omega)] at hu
    rw [hu, fin]
    rfl
theorem m_218 (rm : mKd E mo) (a0 : 0 ≤ a) (a1 : a + 7 ≤ 700) (hi : inS V h v) (hV : VOK V) (hM : MV C V) (h0 : 0 ≤ h) (h1 : h < V.1 4) (s0 : 0 ≤ s) (s1 : s < 4) (hw : ∀ i, 0 ≤ i → i < V.1 9 → C.2.2.2.1 (mo + 19) i = w i) (hwi : inW V w) {c : Int} (hc : carS (V.1 1) (V.1 2) (V.2.1 (v 2) h) (V.2.2.2.2.2 (v 2) h) v = c) {u : Int → Int} (hu : colS (coolV V h) (putS v c) = u) : fX9_hourOf_b218 (E.1 + mo) (iI s) (iI h) (iI a) (iI (v 2)) (iI (V.2.1 (v 2) h)) (St E (lw C (mo + 15) a v)) = some (St E (tC (lw (smB (wA (wA C (mo + 17) (24 * s + h) (bI (¬ crX (V.1 1) (V.1 2) (v 1 * 8 + v 0) (V.2.1 (v 2) h) = v 1 * 8 + v 0))) (mo + 18) (24 * s + h) (selD V u w)) (selD V u w) w) (mo + 15) a (selS V (selD V u w) u)) c)) := by
  have hcc := carS_in (w' := V.2.1 (v 2) h) (g := V.2.2.2.2.2 (v 2) h) hV hi
  rw [hc] at hcc
  have hV' := hV
  obtain ⟨b1, b2, b3, b4, b5, b6, b7, b8, b9, bw, -, -, -, bg⟩ := hV'
  have i' := hi
  obtain ⟨i0, i1, i2, i3, i4, i5, i6⟩ := i'
  have wb := bw (v 2) h i2.1 i2.2 h0 h1
  have gb := bg (v 2) h i2.1 i2.2 h0 h1
  have k := cOK_xy i0.1 i0.2 i1.1 i1.2 b1.2
  have k1 := crX_in (w := V.2.1 (v 2) h) k b1.2
  have hMl : MV (lw C (mo + 15) a v) V := GF_MV GF_l hM
  have hM1 : ∀ x, MV (lw (wA C (mo + 17) (24 * s + h) x) (mo + 15) a v) V := fun x => GF_MV (GF_tr (GF_A (by omega) (by omega)) GF_l) hM
  have car : ∀ (X : Bk) (c' : Int), MV X V → cOK (V.1 1) (V.1 2) c' → fX9_carries (E.1 + mo) (iI (V.2.1 (v 2) h)) (St E (tC X c')) = some (iI (bI (¬ crX (V.1 1) (V.1 2) c' (V.2.1 (v 2) h) = c')), St E (tC X (crX (V.1 1) (V.1 2) c' (V.2.1 (v 2) h)))) := fun X c' hX hc' => by
    have m0 := hX.1.1
    have m1 := hX.1.2.1
    have := m_carries (c := c') (w := V.2.1 (v 2) h) rm hX.2.2.2.2.2.2.2.2 (by rw [m0, m1]; exact hc') wb.1 wb.2
    rw [m0, m1] at this
    exact this
  have e0 : wI (wI (lw C (mo + 15) a v) mo 26 (v 0)) mo 27 (v 1) = tC (lw C (mo + 15) a v) (v 1 * 8 + v 0) := by
    unfold tC tB
    rw [show (v 1 * 8 + v 0) % 8 = v 0 by omega, show (v 1 * 8 + v 0) / 8 = v 1 by omega]
  have r26 : ∀ x, (wI (lw C (mo + 15) a v) mo 26 x).2.2.2.1 = (lw C (mo + 15) a v).2.2.2.1 := fun _ => rfl
  have hMx := (hM1 (bI (¬ crX (V.1 1) (V.1 2) (v 1 * 8 + v 0) (V.2.1 (v 2) h) = v 1 * 8 + v 0)))
  have fin := fun (c' : Int) (hc' : c' = c) => m_290 (C := wA C (mo + 17) (24 * s + h) (bI (¬ crX (V.1 1) (V.1 2) (v 1 * 8 + v 0) (V.2.1 (v 2) h) = v 1 * 8 + v 0))) (v := v) (w := w) (c := c') (u := u) rm a0 a1 hi hV (GF_MV (GF_A (by omega) (by omega)) hM) h0 (by omega) s0 s1 (by rw [hc']; exact hcc) (fun i i1 i2 => by rw [wA_4, if_neg (by omega), hw i i1 i2]) hwi (by rw [hc']; exact hu)
  simp (maxSteps := 1000000) (disch := omega) only [fX9_hourOf_b218, g9_28 rm.1, some_bind, aI_ok (mk15 rm), lw_g0, p9_26 rm.1, iI_add, r26, lw_g, p9_27 rm.1, e0, g9_30 rm.1, car _ _ hMl k, iI_mul, sZ_ok (mk17 rm) (z := 24 * s + h) (by omega) (by omega) (by omega) bI_01, tC_w, lw_c, g9_35 rm.1, tC_j]
  have g := hMx.2.2.2.2.2.2.2.1 (v 2) h i2.1 i2.2 h0 h1
  rcases g with ⟨q1, q2⟩ | ⟨q1, q2⟩
  · rw [q1, if_pos (show iI 0 = 0 from rfl)]
    have e : crX (V.1 1) (V.1 2) (v 1 * 8 + v 0) (V.2.1 (v 2) h) = c := by
      rw [← hc]
      unfold carS
      rw [if_pos q2]
    rw [fin _ e, e]
  · rw [q1, if_neg (show ¬ iI 1 = 0 by decide)]
    simp (disch := omega) only [g9_39 rm.1, some_bind, aZ_ok (mk20 rm), tC_2, q2]
    rcases gb with g0 | g1
    · rw [g0, if_pos (show iI 0 = 0 from rfl)]
      have e : crX (V.1 1) (V.1 2) (v 1 * 8 + v 0) (V.2.1 (v 2) h) = c := by
        rw [← hc]
        unfold carS
        rw [if_pos g0]
      rw [fin _ e, e]
    · rw [g1, if_neg (show ¬ iI 1 = 0 by decide), car _ _ hMx k1, some_bind]
      have e : crX (V.1 1) (V.1 2) (crX (V.1 1) (V.1 2) (v 1 * 8 + v 0) (V.2.1 (v 2) h)) (V.2.1 (v 2) h) = c := by
        rw [← hc]
        unfold carS
        rw [if_neg (by omega)]
      rw [fin _ e, e]
end RG
