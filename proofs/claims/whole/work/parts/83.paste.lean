/-! paste -/
section PA
variable {E : Ev} {B C : Bk}
theorem cpJ_5 {a d e : Nat} {sp dp n z : Int} : (cpJ B a sp d dp n).2.2.2.2 e z = if e = d ∧ dp ≤ z ∧ z < dp + n then B.2.2.2.2 a (sp + (z - dp)) else B.2.2.2.2 e z := rfl
theorem o_paste {s i p k n : Int} (K : RK E B) (R : RS B) (hs : i32 s) (hi : i32 i) (hp : i32 p) (hk : i32 k) (hn : i32 n) : QR E B (fX8_paste (E.1 + co) (iI s) (iI i) (iI p) (iI k) (iI n)) (fX9_paste (E.1 + mo) (iI s) (iI i) (iI p) (iI k) (iI n)) := by
  have hmo : mo = 58 := rfl
  have hco : co = 0 := rfl
  have rc := K.1
  have rm := K.2.2.1
  have hi' := hi
  obtain ⟨i1, i2⟩ := hi'
  have hk' := hk
  obtain ⟨k1, k2⟩ := hk'
  have hn' := hn
  obtain ⟨n1, n2⟩ := hn'
  have e6 : ∀ C, gR (St E C) (E.1 + co) 8 6 = some (E.1 + (co + 19)) := fun C => g8_6 rc
  by_cases c1 : 0 ≤ s ∧ s ≤ 3
  · by_cases c2 : 0 ≤ p ∧ p ≤ 3
    · obtain ⟨t, rfl⟩ : ∃ t : Nat, s = t := ⟨s.toNat, by omega⟩
      obtain ⟨u, rfl⟩ : ∃ u : Nat, p = u := ⟨p.toNat, by omega⟩
      obtain ⟨q1, q2, q3⟩ := K.2.2.2 t (by omega)
      obtain ⟨r1, r2, r3⟩ := K.2.2.2 u (by omega)
      have Rt := R t (by omega)
      have Ru := R u (by omega)
      have tt := s5_isThere (B := B) q1 (RW_b Rt)
      have tu := s5_isThere (B := B) r1 (RW_b Ru)
      have ht := s5_holds (B := B) (i := i) (n := n) q1 (RW_b Rt) hi hn
      have hu := s5_holds (B := B) (i := k) (n := n) r1 (RW_b Ru) hk hn
      have cf : fX8_paste (E.1 + co) (iI t) (iI i) (iI u) (iI k) (iI n) (St E B) = if 0 ≤ B.1 (50 + 2 * t) 1 then (if 0 ≤ B.1 (50 + 2 * u) 1 then (if iI (B.1 (50 + 2 * t) 2) = iI (B.1 (50 + 2 * u) 2) then (if 0 ≤ i ∧ 0 ≤ n ∧ i + n ≤ B.1 (50 + 2 * t) 1 then (if 0 ≤ k ∧ 0 ≤ n ∧ k + n ≤ B.1 (50 + 2 * u) 1 then (fX5_copyTo (E.1 + (50 + 2 * t)) (iI i) (E.1 + (50 + 2 * u)) (iI k) (iI n) (St E B)).bind (fun s32 => some (iI 0, s32)) else some (iI (-7), St E B)) else some (iI (-7), St E B)) else some (iI (-8), St E B)) else some (iI (-6), St E B)) else some (iI (-6), St E B) := by
        simp (maxSteps := 1000000) (disch := omega) only [fX8_paste, fX8_paste_b14, fX8_paste_b41, fX8_paste_b99, c8 rc, s8_isSlot hs, s8_isSlot hp, some_bind, iI_0, ib, e6, r_slot K rfl c1.1 c1.2, r_slot K rfl c2.1 c2.2, Int.toNat_natCast, tt, tu, ht, hu, g5_2 q1, g5_2 r1]
        rw [if_pos c1, if_pos c2]
      have rf : ∀ X : Bk, X.2.2.2.1 = B.2.2.2.1 → fX9_paste (E.1 + mo) (iI t) (iI i) (iI u) (iI k) (iI n) (St E X) = if iI (B.2.2.2.1 (mo + 1) t) = iI (-1) then some (iI (-6), St E (wI X mo 0 0)) else if iI (B.2.2.2.1 (mo + 1) u) = iI (-1) then some (iI (-6), St E (wI X mo 0 0)) else if iI (B.2.2.2.1 (mo + 1) t) = iI (B.2.2.2.1 (mo + 1) u) then (if i < 0 then some (iI (-7), St E (wI X mo 0 0)) else if k < 0 then some (iI (-7), St E (wI X mo 0 0)) else if n < 0 then some (iI (-7), St E (wI X mo 0 0)) else if 0 < lg_cmp (jI (i + n)) (Int32.toInt64 (iI (B.2.2.2.1 (mo + 2) t))) then some (iI (-7), St E (wI X mo 0 0)) else if lg_cmp (jI (k + n)) (Int32.toInt64 (iI (B.2.2.2.1 (mo + 2) u))) ≤ 0 then (iter (fX9_paste_l118 (E.1 + mo) (iI t) (iI i) (iI u) (iI k) (iI n)) FU (iI 0, St E (wI X mo 0 0))).bind (fun r31 => (iter (fX9_paste_l155 (E.1 + mo) (iI u) (iI k) (iI n)) FU (iI 0, r31)).bind fun r37 => some (iI 0, r37)) else some (iI (-7), St E (wI X mo 0 0))) else some (iI (-8), St E (wI X mo 0 0)) := fun X hX => by
        have m : ∀ d z, (wI X mo 0 0).2.2.2.1 d z = B.2.2.2.1 d z := fun d z => by show X.2.2.2.1 d z = _; rw [hX]
        have v1 : ∀ z : Int, 0 ≤ z → z ≤ 3 → aI (St E (wI X mo 0 0)) (E.1 + (mo + 1)) (iI z) = some (iI (B.2.2.2.1 (mo + 1) z)) := fun z z0 z1 => by rw [aI_ok (mk1 rm) z0 (by omega) (by omega), m]
        have v2 : ∀ z : Int, 0 ≤ z → z ≤ 3 → aI (St E (wI X mo 0 0)) (E.1 + (mo + 2)) (iI z) = some (iI (B.2.2.2.1 (mo + 2) z)) := fun z z0 z1 => by rw [aI_ok (mk2 rm) z0 (by omega) (by omega), m]
        unfold fX9_paste
        rw [c9 rm.1, some_bind, p9_0 rm.1, some_bind, m_isSlot hs, some_bind]
        dsimp only
        rw [if_neg (show ¬ iI (bI (0 ≤ (t : Int) ∧ (t : Int) ≤ 3)) = 0 by rw [bI_t c1]; decide), m_isSlot hp, some_bind]
        dsimp only
        rw [if_neg (show ¬ iI (bI (0 ≤ (u : Int) ∧ (u : Int) ≤ 3)) = 0 by rw [bI_t c2]; decide)]
        rw [g9_1 rm.1, some_bind, v1 t c1.1 c1.2, some_bind]
        refine ite_congr rfl (fun _ => rfl) (fun _ => ?_)
        rw [some_bind, v1 u c2.1 c2.2, some_bind]
        refine ite_congr rfl (fun _ => rfl) (fun _ => ?_)
        rw [some_bind, v1 t c1.1 c1.2, some_bind, some_bind, v1 u c2.1 c2.2, some_bind]
        refine ite_congr rfl (fun _ => ?_) (fun _ => rfl)
        refine ite_congr (propext (by rw [iI_0, iI_lt i1 i2 (by omega) (by omega)])) (fun _ => rfl) (fun _ => ?_)
        refine ite_congr (propext (by rw [iI_0, iI_lt k1 k2 (by omega) (by omega)])) (fun _ => rfl) (fun _ => ?_)
        refine ite_congr (propext (by rw [iI_0, iI_lt n1 n2 (by omega) (by omega)])) (fun _ => rfl) (fun _ => ?_)
        rw [g9_2 rm.1, some_bind, v2 t c1.1 c1.2, some_bind, jI_i i1 i2, jI_i n1 n2, jI_add]
        refine ite_congr rfl (fun _ => rfl) (fun _ => ?_)
        rw [some_bind, v2 u c2.1 c2.2, some_bind, jI_i k1 k2, jI_add]
        refine ite_congr rfl (fun _ => rfl) (fun _ => rfl)
      rcases Rt with ⟨a1, a2⟩ | ⟨a1, a2, a3, a4, a5⟩
      · refine QR_no R (v := iI (-6)) ?_ ?_
        · rw [cf, if_neg (by omega)]
        · rw [rf B rfl, a2, if_pos rfl]
      · rcases Ru with ⟨b1, b2⟩ | ⟨b1, b2, b3, b4, b5⟩
        · refine QR_no R (v := iI (-6)) ?_ ?_
          · rw [cf, if_pos a1.1, if_neg (by omega)]
          · rw [rf B rfl, b2, if_pos rfl]
            split <;> rfl
        · have na : ∀ w : Int, 0 ≤ w ∧ w ≤ 3 → ¬ iI w = iI (-1) := fun w hw => by rw [iI_eq (by omega) (by omega) (by omega) (by omega)]; omega
          have ew : (iI (B.1 (50 + 2 * t) 2) = iI (B.1 (50 + 2 * u) 2)) ↔ (B.1 (50 + 2 * t) 2 = B.1 (50 + 2 * u) 2) := iI_eq (by omega) (by omega) (by omega) (by omega)
          by_cases cw : B.1 (50 + 2 * t) 2 = B.1 (50 + 2 * u) 2
          · have g1 : (0 < lg_cmp (jI (i + n)) (Int32.toInt64 (iI (B.1 (50 + 2 * t) 1)))) ↔ B.1 (50 + 2 * t) 1 < i + n := by
              rw [jI_i (by omega) (by omega), lg_cmp_gt, jI_lt (by omega) (by omega) (by omega) (by omega)]
            have g2 : (lg_cmp (jI (k + n)) (Int32.toInt64 (iI (B.1 (50 + 2 * u) 1))) ≤ 0) ↔ k + n ≤ B.1 (50 + 2 * u) 1 := by
              rw [jI_i (by omega) (by omega), lg_cmp_le, jI_le (by omega) (by omega) (by omega) (by omega)]
            by_cases ch : (0 ≤ i ∧ 0 ≤ n ∧ i + n ≤ B.1 (50 + 2 * t) 1) ∧ 0 ≤ k ∧ k + n ≤ B.1 (50 + 2 * u) 1
            · obtain ⟨⟨h1, h2, h3⟩, h4, h5⟩ := ch
              have cpt := cpL_ok (E := E) (B := B) (sp := i) (dp := k) (n := n) q2 r2 h1 h4 h2 (by omega) (by omega) (by omega) (by omega)
              obtain ⟨D, d1, d2, d3⟩ := m_paste118 (E := E) (C := wI (cpJ B (50 + 2 * t + 1) i (50 + 2 * u + 1) k n) mo 0 0) (s := t) (i := i) (p := u) (q := k) (n := n) rm (by omega) (by omega) h2 (by omega)
              obtain ⟨G, f1, f2, f3⟩ := m_paste155 (E := E) (C := D) (p := u) (q := k) (n := n) rm (by omega) (by omega) h2 (by omega)
              have gi : ∀ d j, (d = mo → j ≠ 0) → G.1 d j = B.1 d j := fun d j q => by
                rw [f2.1, d2.1]
                show (if d = mo ∧ j = 0 then 0 else B.1 d j) = _
                rw [if_neg (fun z => q z.1 z.2)]
              have gr : G.2.2.2.1 = B.2.2.2.1 := by rw [f2.2.2.2.1, d2.2.2.2.1]; rfl
              have cl : ∀ d z, (wI (cpJ B (50 + 2 * t + 1) i (50 + 2 * u + 1) k n) mo 0 0).2.2.2.2 d z = if d = 50 + 2 * u + 1 ∧ k ≤ z ∧ z < k + n then B.2.2.2.2 (50 + 2 * t + 1) (i + (z - k)) else B.2.2.2.2 d z := fun d z => rfl
              refine ⟨iI 0, cpJ B (50 + 2 * t + 1) i (50 + 2 * u + 1) k n, G, ?_, ?_, ⟨fun d j a b => gi d j (fun q => by have := b q; unfold msv at this; omega), fun d j _ => by rw [f2.2.1, d2.2.1]; rfl, by rw [f2.2.2.1, d2.2.2.1]; rfl, fun d z _ _ _ => by rw [gr], fun d z a b c => ?_⟩, fun v hv => ?_⟩
              · rw [cf, if_pos a1.1, if_pos b1.1, if_pos (ew.mpr cw), if_pos ⟨h1, h2, h3⟩, if_pos ⟨h4, h2, h5⟩]
                simp only [fX5_copyTo, c5 q1, g5_0 q1, g5_0 r1, some_bind, cpt]
              · rw [rf (cpJ B (50 + 2 * t + 1) i (50 + 2 * u + 1) k n) rfl, a3, b3, a4, b4, if_neg (na _ a2), if_neg (na _ b2), if_pos (ew.mpr cw), if_neg (by omega), if_neg (by omega), if_neg (by omega), if_neg (fun w => by have := g1.mp w; omega), if_pos (g2.mpr h5), d1, some_bind, f1, some_bind]
              · rw [f2.2.2.2.2 d z b, d2.2.2.2.2 d z (fun w => a (by unfold mscr; omega)), cl, if_neg (by omega)]
              · have Rv := R v hv
                unfold RW at *
                rw [gi _ _ (by omega), gi _ _ (by omega), gr]
                rcases Rv with Rv | ⟨v1, v2, v3, v4, v5⟩
                · exact Or.inl Rv
                · refine Or.inr ⟨v1, v2, v3, v4, fun z z0 z1 => ?_⟩
                  rw [f2.2.2.2.2 _ _ (by omega), d2.2.2.2.2 _ _ (by omega), cl, f3]
                  by_cases q : v = u ∧ k ≤ z ∧ z < k + n
                  · rw [if_pos ⟨by omega, q.2⟩, if_pos (by omega), show 60 * (v : Int) + z - (60 * (u : Int) + k) = z - k by omega, d3 (z - k) (by omega) (by omega), cl, if_neg (by omega), a5 (i + (z - k)) (by omega) (by omega), show 60 * (t : Int) + i + (z - k) = 60 * (t : Int) + (i + (z - k)) by omega]
                  · rw [if_neg (by omega), if_neg (by omega), d2.2.2.2.2 _ _ (by omega), cl, if_neg (by omega)]
                    exact v5 z z0 z1
            · refine QR_no R (v := iI (-7)) ?_ ?_
              · rw [cf, if_pos a1.1, if_pos b1.1, if_pos (ew.mpr cw)]
                by_cases w1 : 0 ≤ i ∧ 0 ≤ n ∧ i + n ≤ B.1 (50 + 2 * t) 1
                · rw [if_pos w1, if_neg (fun w => ch ⟨w1, w.1, w.2.2⟩)]
                · rw [if_neg w1]
              · rw [rf B rfl, a3, b3, a4, b4, if_neg (na _ a2), if_neg (na _ b2), if_pos (ew.mpr cw)]
                by_cases w1 : i < 0
                · rw [if_pos w1]
                · rw [if_neg w1]
                  by_cases w2 : k < 0
                  · rw [if_pos w2]
                  · rw [if_neg w2]
                    by_cases w3 : n < 0
                    · rw [if_pos w3]
                    · rw [if_neg w3]
                      by_cases w4 : B.1 (50 + 2 * t) 1 < i + n
                      · rw [if_pos (g1.mpr w4)]
                      · rw [if_neg (fun w => w4 (g1.mp w)), if_neg (fun w => by have := g2.mp w; omega)]
          · refine QR_no R (v := iI (-8)) ?_ ?_
            · rw [cf, if_pos a1.1, if_pos b1.1, if_neg (fun w => cw (ew.mp w))]
            · rw [rf B rfl, a3, b3, if_neg (na _ a2), if_neg (na _ b2), if_neg (fun w => cw (ew.mp w))]
    · refine QR_no R (v := iI (-2)) ?_ ?_
      · simp only [fX8_paste, fX8_paste_b14, c8 rc, s8_isSlot hs, s8_isSlot hp, some_bind, iI_0, ib]
        rw [if_pos c1, if_neg c2]
      · simp only [fX9_paste, fX9_paste_b19, c9 rm.1, p9_0 rm.1, some_bind, m_isSlot hs, m_isSlot hp, iI_0, ib]
        rw [if_pos c1, if_neg c2]
  · refine QR_no R (v := iI (-2)) ?_ ?_
    · simp only [fX8_paste, fX8_paste_b14, c8 rc, s8_isSlot hs, some_bind, iI_0, ib]
      rw [if_neg c1]
    · simp only [fX9_paste, fX9_paste_b19, c9 rm.1, p9_0 rm.1, some_bind, m_isSlot hs, iI_0, ib]
      rw [if_neg c1]
end PA
