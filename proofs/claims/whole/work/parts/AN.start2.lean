/-! the free shop's start, the last steps -/
section BG
variable {E : Ev} {B : Bk} {V : Vy} {x y l f g m u v z : Int}
set_option maxHeartbeats 200000 in
/-- the last steps of starts -/
theorem m_startsB {D : Bk} {cnt : Nat} {i s : Int} (rm : mKd E mo) (P : MP (wI D mo 48 (cnt : Int)) V) (hc2 : cnt < 32) (i0 : 0 ≤ i ∧ i < V.1 8) (eg : D.2.2.2.1 (mo + 10) (6 * i + 4) = g) (x0 : 0 ≤ x ∧ x < V.1 1) (y0 : 0 ≤ y ∧ y < V.1 2) (l0 : 0 ≤ l ∧ l < V.1 3) (s0 : 0 ≤ s ∧ s ≤ 9) (g0 : 0 ≤ g ∧ g ≤ 9) {f' g' m' : Int} : fX9_starts_b85 (E.1 + mo) (iI i) (iI (cnt : Int)) (E.1 + mo) (iI s) (St E (frW D x y l f' g' m' u v)) = some (St E (frW (spJ (wI D mo 48 (cnt : Int)) (mo + 21) (cdW x y l s g (mkD V cnt (y * 8 + x) l 0 : Int))) x y l s g (mkD V cnt (y * 8 + x) l 0 : Int) u v)) := by
  have hV := P.2.1
  have v1 := hV.1
  have v2 := hV.2.1
  have v3 := hV.2.2.1
  have v8 := hV.2.2.2.2.2.2.2.1
  have mb := mkD_b (cnt := cnt) (m := 0) (c := y * 8 + x) (l := l) hV (by omega)
  have hc : (wI D mo 48 (cnt : Int)).1 mo 48 = (cnt : Int) := by rw [wI_1, if_pos ⟨rfl, rfl⟩]
  have mk := m_marksF (E := E) (B := wI D mo 48 (cnt : Int)) (V := V) (cnt := cnt) (mN := 0) (x := x) (y := y) (l := l) (f := s) (g := g) (u := u) (v := v) rm P hc hc2 (by omega) x0 y0 l0
  have z0 : ((0 : Nat) : Int) = 0 := rfl
  rw [z0] at mk
  unfold fX9_starts_b85
  rw [p9_45 rm.1, some_bind, frW_w45, g9_21 rm.1, some_bind, iI_mul, iI_add, aI_ok (mk10 rm) (by omega) (by omega) (by omega), some_bind, frW_2, eg, p9_46 rm.1, some_bind, frW_w46, p9_47 rm.1, some_bind, frW_w47, p9_48 rm.1, some_bind, frW_wO (by omega), mk, some_bind, g9_40 rm.1, some_bind, m_putsF rm (mk21 rm) ⟨by omega, by omega, by omega, by omega, by omega, by omega⟩, some_bind]
set_option maxHeartbeats 200000 in
theorem m_startsX {cnt : Nat} {i t : Int} (rm : mKd E mo) (P : MP (plnM B) V) (hc2 : cnt < 32) (i0 : 0 ≤ i ∧ i < V.1 8) (t0 : 0 ≤ t ∧ t ≤ 9) (s9 : V.2.2.1 i 3 ≤ 9 ∧ V.2.2.1 i 4 ≤ 9) (h37 : (plnM B).1 mo 37 = 0) (h38 : (plnM B).1 mo 38 = 0) : ∃ u v, fX9_starts (E.1 + mo) (iI i) (iI t) (iI (cnt : Int)) (St E B) = some (St E (frW (spJ (bsD B cnt) (mo + 21) (bgC V cnt i t)) (V.2.2.1 i 0) (V.2.2.1 i 1) (V.2.2.1 i 2) (mnI t (V.2.2.1 i 3)) (V.2.2.1 i 4) (mkD V cnt (V.2.2.1 i 1 * 8 + V.2.2.1 i 0) (V.2.2.1 i 2) 0 : Int) u v)) := by
  have hV := P.2.1
  have v8 := hV.2.2.2.2.2.2.2.1
  have ok := bgC_ok (cnt := cnt) (t := t) hV i0 t0 s9.2
  have cb := cdW_b (tOK_d hV ok)
  have cb0 : 0 ≤ bgC V cnt i t := cb.1
  obtain ⟨a1, a2, a3, a4, a5, a6⟩ := hV.2.2.2.2.2.2.2.2.2.2.1 i i0.1 i0.2
  have rows := P.1.2.2.2.2.1
  have r0 := rows i 0 i0.1 i0.2 (by omega) (by omega)
  have r1 := rows i 1 i0.1 i0.2 (by omega) (by omega)
  have r2 := rows i 2 i0.1 i0.2 (by omega) (by omega)
  have r3 := rows i 3 i0.1 i0.2 (by omega) (by omega)
  have r4 := rows i 4 i0.1 i0.2 (by omega) (by omega)
  rw [if_neg (by omega), if_neg (by omega), Int.add_zero] at r0 r1 r2
  rw [if_pos rfl, h37, Int.add_zero] at r3
  rw [if_neg (by omega), if_pos rfl, h38, Int.add_zero] at r4
  have e0 : B.2.2.2.1 (mo + 10) (6 * i + 0) = V.2.2.1 i 0 := r0
  rw [Int.add_zero] at e0
  have e1 : B.2.2.2.1 (mo + 10) (6 * i + 1) = V.2.2.1 i 1 := r1
  have e2 : B.2.2.2.1 (mo + 10) (6 * i + 2) = V.2.2.1 i 2 := r2
  have e3 : B.2.2.2.1 (mo + 10) (6 * i + 3) = V.2.2.1 i 3 := r3
  have e4 : B.2.2.2.1 (mo + 10) (6 * i + 4) = V.2.2.1 i 4 := r4
  have fin : ∀ s : Int, 0 ≤ s → s ≤ 9 → s = mnI t (V.2.2.1 i 3) → spJ (bsD B cnt) (mo + 21) (cdW (V.2.2.1 i 0) (V.2.2.1 i 1) (V.2.2.1 i 2) s (V.2.2.1 i 4) (mkD V cnt (V.2.2.1 i 1 * 8 + V.2.2.1 i 0) (V.2.2.1 i 2) 0 : Int)) = spJ (bsD B cnt) (mo + 21) (bgC V cnt i t) := fun s s0 s1 es => by
    subst es
    have v1 := hV.1
    have es : scV V i = V.2.2.1 i 1 * 8 + V.2.2.1 i 0 := rfl
    unfold bgC cdC
    rw [es, show (V.2.2.1 i 1 * 8 + V.2.2.1 i 0) % 8 = V.2.2.1 i 0 by omega, show (V.2.2.1 i 1 * 8 + V.2.2.1 i 0) / 8 = V.2.2.1 i 1 by omega]
  have em : fX9_empties (E.1 + (mo + 21)) (St E (plnM B)) = some (St E (flZ (plnM B) (mo + 21) 16000)) := m_empties (mk21 rm)
  have body : ∀ s : Int, 0 ≤ s → s ≤ 9 → s = mnI t (V.2.2.1 i 3) → ∀ u v f' g' m' : Int, fX9_starts_b85 (E.1 + mo) (iI i) (iI (cnt : Int)) (E.1 + mo) (iI s) (St E (frW (flZ (plnM B) (mo + 21) 16000) (V.2.2.1 i 0) (V.2.2.1 i 1) (V.2.2.1 i 2) f' g' m' u v)) = some (St E (frW (spJ (bsD B cnt) (mo + 21) (bgC V cnt i t)) (V.2.2.1 i 0) (V.2.2.1 i 1) (V.2.2.1 i 2) s (V.2.2.1 i 4) (mkD V cnt (V.2.2.1 i 1 * 8 + V.2.2.1 i 0) (V.2.2.1 i 2) 0 : Int) u v)) := fun s s0 s1 es u v f' g' m' => by
    rw [← fin s s0 s1 es]
    exact m_startsB rm (bsD_MP P) hc2 i0 e4 a1 a2 a3 ⟨s0, s1⟩ ⟨a5.1, s9.2⟩
  have go : ∀ x y l f g m u v : Int, flZ (plnM B) (mo + 21) 16000 = frW (flZ (plnM B) (mo + 21) 16000) x y l f g m u v → fX9_starts (E.1 + mo) (iI i) (iI t) (iI (cnt : Int)) (St E B) = some (St E (frW (spJ (bsD B cnt) (mo + 21) (bgC V cnt i t)) (V.2.2.1 i 0) (V.2.2.1 i 1) (V.2.2.1 i 2) (mnI t (V.2.2.1 i 3)) (V.2.2.1 i 4) (mkD V cnt (V.2.2.1 i 1 * 8 + V.2.2.1 i 0) (V.2.2.1 i 2) 0 : Int) u v)) := fun x y l f g m u v ef => by
    have b0 : (flZ (plnM B) (mo + 21) 16000).2.2.2.1 = B.2.2.2.1 := rfl
    unfold fX9_starts
    rw [c9 rm.1, some_bind, m_plainly rm, some_bind, g9_40 rm.1, some_bind, em, some_bind, ef]
    rw [g9_21 rm.1, some_bind, iI_mul, aI_ok (mk10 rm) (by omega) (by omega) (by omega), some_bind, frW_2, b0, e0, p9_42 rm.1, some_bind, frW_w42]
    rw [g9_21 rm.1, some_bind, iI_add, aI_ok (mk10 rm) (by omega) (by omega) (by omega), some_bind, frW_2, b0, e1, p9_43 rm.1, some_bind, frW_w43]
    rw [g9_21 rm.1, some_bind, iI_add, aI_ok (mk10 rm) (by omega) (by omega) (by omega), some_bind, frW_2, b0, e2, p9_44 rm.1, some_bind, frW_w44]
    rw [g9_21 rm.1, some_bind, iI_add, aI_ok (mk10 rm) (by omega) (by omega) (by omega), some_bind, frW_2, b0, e3]
    by_cases q : t ≤ V.2.2.1 i 3
    · have em' : mnI t (V.2.2.1 i 3) = t := if_pos q
      rw [if_pos ((iI_le (by omega) (by omega) (by omega) (by omega)).mpr q), em']
      exact body t t0.1 t0.2 em'.symm u v f g m
    · have em' : mnI t (V.2.2.1 i 3) = V.2.2.1 i 3 := if_neg q
      rw [if_neg (fun w => q ((iI_le (by omega) (by omega) (by omega) (by omega)).mp w)), some_bind, aI_ok (mk10 rm) (by omega) (by omega) (by omega), some_bind, frW_2, b0, e3, em']
      exact body _ a4.1 s9.1 em'.symm u v f g m
  exact ⟨_, _, go _ _ _ _ _ _ _ _ frW_sf.symm⟩
theorem m_starts {cnt : Nat} {i t : Int} (rm : mKd E mo) (P : MP (plnM B) V) (hc2 : cnt < 32) (i0 : 0 ≤ i ∧ i < V.1 8) (t0 : 0 ≤ t ∧ t ≤ 9) (s9 : V.2.2.1 i 3 ≤ 9 ∧ V.2.2.1 i 4 ≤ 9) (h37 : (plnM B).1 mo 37 = 0) (h38 : (plnM B).1 mo 38 = 0) : ∃ s' X, fX9_starts (E.1 + mo) (iI i) (iI t) (iI (cnt : Int)) (St E B) = some s' ∧ anyF E X s' ∧ sc B X ∧ MP X V ∧ X.1 mo 48 = (cnt : Int) ∧ SVl V X (mo + 21) ∧ ∀ k, 0 ≤ k → k < 1024000 → (onJ X (mo + 21) k = true ↔ k = bgC V cnt i t) := by
  have hV := P.2.1
  have ok := bgC_ok (cnt := cnt) (t := t) hV i0 t0 s9.2
  have cb := cdW_b (tOK_d hV ok)
  have cb0 : 0 ≤ bgC V cnt i t := cb.1
  have on' : ∀ k, 0 ≤ k → k < 1024000 → (onJ (spJ (bsD B cnt) (mo + 21) (bgC V cnt i t)) (mo + 21) k = true ↔ k = bgC V cnt i t) := fun k k0 k1 => by
    rw [spJ_on cb0 k0, bsD_on k0 k1, Bool.false_or, decide_eq_true_eq]
  obtain ⟨u, v, run⟩ := m_startsX rm P hc2 i0 t0 s9 h37 h38
  refine ⟨_, spJ (bsD B cnt) (mo + 21) (bgC V cnt i t), run, ⟨_, _, _, _, _, _, _, _, rfl⟩, sc_tr bsD_sc (hJ_sc spJ_hJ), hJ_MP spJ_hJ (bsD_MP P), ?_, fun k k0 k1 q => ?_, on'⟩
  · show (bsD B cnt).1 mo 48 = (cnt : Int)
    unfold bsD
    rw [wI_1, if_pos ⟨rfl, rfl⟩]
  · rw [on' k k0 k1] at q
    exact ⟨_, _, _, _, _, ok, q⟩
end BG
