/-! an act of a free shop; doors marked -/
abbrev okA (V : Vy) (a l f g : Int) : Prop := a = 0 ∨ (a = 1 ∧ l < V.1 3 - 1 ∧ 0 < f) ∨ (a = 2 ∧ 0 < l ∧ 0 < g)
def lvA (a l : Int) : Int := if a = 1 then l + 1 else if a = 2 then l - 1 else l
def clA (V : Vy) (h l : Int) : Int := if coolV V h = 1 ∧ 0 < l then l - 1 else l
def ccA (V : Vy) (a h c l : Int) : Int := crX (V.1 1) (V.1 2) c (V.2.1 (lvA a l) h)
def fsA (a f : Int) : Int := if a = 1 then f - 1 else f
def gsA (a g : Int) : Int := if a = 2 then g - 1 else g
section AC
variable {E : Ev} {B : Bk} {V : Vy} {x y l f g m u v : Int}
/-- what the steps of a free shop need: the reference's numbers are V's, plainly -/
def MP (B : Bk) (V : Vy) : Prop := MV B V ∧ VOK V ∧ B.1 mo 34 = 0 ∧ B.2.2.2.1 (mo + 7) 5 = V.1 6
theorem MP_fr (h : MP B V) : MP (frW B x y l f g m u v) V := ⟨frW_MV h.1, h.2.1, by rw [frW_o (by omega)]; exact h.2.2.1, h.2.2.2⟩
theorem m_vainF {a : Int} (rm : mKd E mo) (P : MP B V) (a0 : 0 ≤ a) (a1 : a ≤ 2) (l0 : 0 ≤ l) (l1 : l < V.1 3) (f0 : 0 ≤ f) (f1 : f ≤ 10) (g0 : 0 ≤ g) (g1 : g ≤ 10) : ∃ r : Int, fX9_vainOf (E.1 + mo) (iI a) (iI l) (iI f) (iI g) (St E B) = some (iI r, St E B) ∧ (iI r = 0 ↔ okA V a l f g) := by
  have b3 := P.2.1.2.2.1
  have m3 := P.1.1.2.2.1
  have z0 : iI 0 = 0 := by decide
  have z1 : ¬ iI 1 = 0 := by decide
  have z2 : ¬ iI 2 = 0 := by decide
  have z3 : ¬ iI 3 = 0 := by decide
  have z4 : ¬ iI 4 = 0 := by decide
  rcases (show a = 0 ∨ a = 1 ∨ a = 2 by omega) with rfl | rfl | rfl
  · refine ⟨0, ?_, ⟨fun _ => Or.inl rfl, fun _ => z0⟩⟩
    simp (disch := omega) only [fX9_vainOf, c9 rm.1, some_bind, iI_eq]
    rw [if_neg (by omega), if_neg (by omega)]
  · by_cases q1 : l = V.1 3 - 1
    · refine ⟨3, ?_, by constructor; exact fun y => absurd y z3; omega⟩
      simp (disch := omega) only [fX9_vainOf, c9 rm.1, g9_17 rm.1, some_bind, iI_sub, aI_ok (mk7 rm), m3, iI_eq]
      rw [if_pos trivial, if_pos q1]
    · by_cases q2 : f = 0
      · refine ⟨1, ?_, by constructor; exact fun y => absurd y z1; omega⟩
        simp (disch := omega) only [fX9_vainOf, c9 rm.1, g9_17 rm.1, some_bind, iI_0, iI_sub, aI_ok (mk7 rm), m3, iI_eq]
        rw [if_pos trivial, if_neg q1, if_pos q2]
      · refine ⟨0, ?_, by constructor; exact fun _ => Or.inr (Or.inl ⟨rfl, by omega, by omega⟩); exact fun _ => z0⟩
        simp (disch := omega) only [fX9_vainOf, c9 rm.1, g9_17 rm.1, some_bind, iI_0, iI_sub, aI_ok (mk7 rm), m3, iI_eq]
        rw [if_pos trivial, if_neg q1, if_neg q2]
  · by_cases q1 : l = 0
    · refine ⟨4, ?_, by constructor; exact fun y => absurd y z4; omega⟩
      simp (disch := omega) only [fX9_vainOf, c9 rm.1, some_bind, iI_0, iI_eq]
      rw [if_neg (by omega), if_pos trivial, if_pos q1]
    · by_cases q2 : g = 0
      · refine ⟨2, ?_, by constructor; exact fun y => absurd y z2; omega⟩
        simp (disch := omega) only [fX9_vainOf, c9 rm.1, some_bind, iI_0, iI_eq]
        rw [if_neg (by omega), if_pos trivial, if_neg q1, if_pos q2]
      · refine ⟨0, ?_, by constructor; exact fun _ => Or.inr (Or.inr ⟨rfl, by omega, by omega⟩); exact fun _ => z0⟩
        simp (disch := omega) only [fX9_vainOf, c9 rm.1, some_bind, iI_0, iI_eq]
        rw [if_neg (by omega), if_pos trivial, if_neg q1, if_neg q2]
set_option maxHeartbeats 400000 in
theorem m_acts84 {h d : Int} (rm : mKd E mo) (P : MP B V) (x0 : 0 ≤ x ∧ x < V.1 1) (y0 : 0 ≤ y ∧ y < V.1 2) (l0 : 0 ≤ l ∧ l < V.1 3) (h0 : 0 ≤ h ∧ h < V.1 4) : fX9_acts_b84 (E.1 + mo) (iI h) (E.1 + mo) (iI g) (iI d) (St E (frW B x y l f g m u v)) = some (iI 1, St E (frW B (crX (V.1 1) (V.1 2) (y * 8 + x) (V.2.1 l h) % 8) (crX (V.1 1) (V.1 2) (y * 8 + x) (V.2.1 l h) / 8) (clA V h l) f (g - d) m (crX (V.1 1) (V.1 2) (y * 8 + x) (V.2.1 l h) % 8) (crX (V.1 1) (V.1 2) (y * 8 + x) (V.2.1 l h) / 8))) := by
  have hV := P.2.1
  have v1 := hV.1
  have v2 := hV.2.1
  have v3 := hV.2.2.1
  have v4 := hV.2.2.2.1
  have wb := hV.2.2.2.2.2.2.2.2.2.1 l h l0.1 l0.2 h0.1 h0.2
  have P2 := MP_fr (x := x) (y := y) (l := l) (f := f) (g := g - d) (m := m) (u := x) (v := y) P
  have c1 := P.1.1.1
  have c2 := P.1.1.2.1
  have ew : B.2.2.2.1 (mo + 8) (24 * l + h) = V.2.1 l h := by
    rcases P.1.2.2.2.1 l h l0.1 l0.2 h0.1 h0.2 with q | q
    · exact q.2
    · exact absurd (P.2.2.1 ▸ q.1) (by omega)
  have wo : fX9_windOf (E.1 + mo) (iI l) (iI h) (St E (frW B x y l f (g - d) m x y)) = some (iI (V.2.1 l h), St E (frW B x y l f (g - d) m x y)) := by
    rw [m_windOf rm l0.1 (by omega) h0.1 (by omega), frW_2, ew]
  have tc : frW B x y l f (g - d) m x y = tC (frW B x y l f (g - d) m x y) (y * 8 + x) := by
    unfold tC
    rw [frW_tB, show (y * 8 + x) % 8 = x by omega, show (y * 8 + x) / 8 = y by omega]
  have ca := m_carries (E := E) (C := frW B x y l f (g - d) m x y) (c := y * 8 + x) (w := V.2.1 l h) rm P2.1.2.2.2.2.2.2.2.2 (by rw [frW_2, c1, c2]; exact cOK_xy x0.1 x0.2 y0.1 y0.2 (by omega)) wb.1 wb.2
  rw [← tc, frW_2, c1, c2] at ca
  obtain ⟨c', hc⟩ : ∃ c', c' = crX (V.1 1) (V.1 2) (y * 8 + x) (V.2.1 l h) := ⟨_, rfl⟩
  rw [← hc] at ca ⊢
  have ci := crX_in (w := V.2.1 l h) (cOK_xy x0.1 x0.2 y0.1 y0.2 (show V.1 1 ≤ 8 by omega)) (by omega)
  rw [← hc] at ci
  unfold tC at ca
  rw [frW_tB] at ca
  have P3 := MP_fr (x := c' % 8) (y := c' / 8) (l := l) (f := f) (g := g - d) (m := m) (u := c' % 8) (v := c' / 8) P
  have ic := m_isCool (E := E) (h := h) rm P3.1 hV h0.1 (by omega)
  have cb : coolV V h = 0 ∨ coolV V h = 1 := bI_01
  unfold fX9_acts_b84
  rw [iI_sub, p9_46 rm.1, some_bind, frW_w46, g9_42 rm.1, some_bind, frW_42, p9_26 rm.1, some_bind, frW_w26, g9_43 rm.1, some_bind, frW_43, p9_27 rm.1, some_bind, frW_w27, g9_44 rm.1, some_bind, frW_44, wo, some_bind, ca, some_bind, g9_26 rm.1, some_bind, frW_26, p9_42 rm.1, some_bind, frW_w42, g9_27 rm.1, some_bind, frW_27, p9_43 rm.1, some_bind, frW_w43, ic, some_bind]
  unfold fX9_acts_b159 clA
  have z0 : iI 0 = 0 := by decide
  have z1 : ¬ iI 1 = 0 := by decide
  rcases cb with cb | cb
  · rw [cb, if_pos (by exact z0), if_neg (by omega)]
  · rw [cb, if_neg (by exact z1), g9_44 rm.1, some_bind, frW_44]
    by_cases q : 0 < l
    · rw [if_neg (by rw [iI_0, iI_le (by omega) (by omega) (by omega) (by omega)]; omega), some_bind, iI_sub]
      dsimp only
      rw [p9_44 rm.1, some_bind, frW_w44, if_pos ⟨rfl, q⟩]
    · rw [if_pos (by rw [iI_0, iI_le (by omega) (by omega) (by omega) (by omega)]; omega), if_neg (fun y => q y.2)]
set_option maxHeartbeats 400000 in
theorem m_actsF {a h : Int} (rm : mKd E mo) (P : MP B V) (a0 : 0 ≤ a) (a1 : a ≤ 2) (x0 : 0 ≤ x ∧ x < V.1 1) (y0 : 0 ≤ y ∧ y < V.1 2) (l0 : 0 ≤ l ∧ l < V.1 3) (f0 : 0 ≤ f ∧ f ≤ 10) (g0 : 0 ≤ g ∧ g ≤ 10) (h0 : 0 ≤ h ∧ h < V.1 4) : (okA V a l f g → fX9_acts (E.1 + mo) (iI a) (iI h) (St E (frW B x y l f g m u v)) = some (iI 1, St E (frW B (ccA V a h (y * 8 + x) l % 8) (ccA V a h (y * 8 + x) l / 8) (clA V h (lvA a l)) (fsA a f) (gsA a g) m (ccA V a h (y * 8 + x) l % 8) (ccA V a h (y * 8 + x) l / 8)))) ∧ (¬ okA V a l f g → fX9_acts (E.1 + mo) (iI a) (iI h) (St E (frW B x y l f g m u v)) = some (iI 0, St E (frW B x y l f g m u v))) := by
  obtain ⟨r, e1, e2⟩ := m_vainF (f := f) (g := g) rm (MP_fr (x := x) (y := y) (l := l) (f := f) (g := g) (m := m) (u := u) (v := v) P) a0 a1 l0.1 l0.2 f0.1 f0.2 g0.1 g0.2
  have hd : fX9_acts (E.1 + mo) (iI a) (iI h) (St E (frW B x y l f g m u v)) = if iI r = 0 then (if iI a = iI 1 then fX9_acts_b46 (E.1 + mo) (iI a) (iI h) (E.1 + mo) (iI l) (iI 1) (St E (frW B x y l f g m u v)) else if iI a = iI 2 then fX9_acts_b46 (E.1 + mo) (iI a) (iI h) (E.1 + mo) (iI l) (iI (-1)) (St E (frW B x y l f g m u v)) else fX9_acts_b46 (E.1 + mo) (iI a) (iI h) (E.1 + mo) (iI l) (iI 0) (St E (frW B x y l f g m u v))) else some (iI 0, St E (frW B x y l f g m u v)) := by
    unfold fX9_acts
    rw [c9 rm.1, some_bind, g9_44 rm.1, some_bind, frW_44, g9_45 rm.1, some_bind, frW_45, g9_46 rm.1, some_bind, frW_46, e1, some_bind]
    dsimp only
    rw [g9_44 rm.1, some_bind, frW_44]
  rw [hd]
  refine ⟨fun q => ?_, fun q => ?_⟩
  · rw [if_pos (e2.mpr q)]
    unfold ccA
    rcases q with rfl | ⟨rfl, q1, q2⟩ | ⟨rfl, q1, q2⟩
    · rw [if_neg (by decide), if_neg (by decide)]
      unfold fX9_acts_b46 fX9_acts_b65
      rw [iI_add, p9_44 rm.1, some_bind, frW_w44, g9_45 rm.1, some_bind, frW_45, if_neg (by decide), iI_sub, p9_45 rm.1, some_bind, frW_w45, g9_46 rm.1, some_bind, frW_46, if_neg (by decide), Int.add_zero, Int.sub_zero, m_acts84 rm P x0 y0 l0 h0, Int.sub_zero]
      rfl
    · rw [if_pos rfl]
      unfold fX9_acts_b46 fX9_acts_b65
      rw [iI_add, p9_44 rm.1, some_bind, frW_w44, g9_45 rm.1, some_bind, frW_45, if_pos rfl, iI_sub, p9_45 rm.1, some_bind, frW_w45, g9_46 rm.1, some_bind, frW_46, if_neg (by decide), m_acts84 rm P x0 y0 (by omega) h0, Int.sub_zero]
      rfl
    · rw [if_neg (by decide), if_pos rfl]
      unfold fX9_acts_b46 fX9_acts_b65
      rw [iI_add, p9_44 rm.1, some_bind, frW_w44, g9_45 rm.1, some_bind, frW_45, if_neg (by decide), iI_sub, p9_45 rm.1, some_bind, frW_w45, g9_46 rm.1, some_bind, frW_46, if_pos rfl, Int.sub_zero, show l + -1 = l - 1 by omega, m_acts84 rm P x0 y0 (by omega) h0]
      rfl
  · rw [if_neg (fun y => q (e2.mp y))]
/-- doors as bits -/
def mkD (V : Vy) (cnt : Nat) (c l : Int) (m : Nat) : Nat := if ¬ drV V c = -1 ∧ cnt.testBit (drV V c).toNat = true ∧ l ≤ V.1 6 then m ||| 2 ^ (drV V c).toNat else m
theorem md_bit : ∀ c : Fin 32, ∀ d : Fin 5, ((isr (iI (c.val : Int)) (iI (d.val : Int)) &&& iI 1) = iI 1) = (c.val.testBit d.val = true) := by decide +kernel
theorem md_or : ∀ m : Fin 32, ∀ d : Fin 5, iI (m.val : Int) ||| ish (iI 1) (iI (d.val : Int)) = iI ((m.val ||| 2 ^ d.val : Nat) : Int) := by decide +kernel
theorem drV_bd {c : Int} (hV : VOK V) : -1 ≤ drV V c ∧ drV V c < V.1 9 := by
  have v9 := hV.2.2.2.2.2.2.2.2.1
  have := lf_spec (fun i => V.2.2.2.1 i 1 * 8 + V.2.2.2.1 i 0 = c) (V.1 9).toNat 0
  unfold drV
  split <;> omega
set_option maxHeartbeats 400000 in
theorem m_marksF {cnt mN : Nat} (rm : mKd E mo) (P : MP B V) (hc : B.1 mo 48 = (cnt : Int)) (hc2 : cnt < 32) (hm : mN < 32) (x0 : 0 ≤ x ∧ x < V.1 1) (y0 : 0 ≤ y ∧ y < V.1 2) (l0 : 0 ≤ l ∧ l < V.1 3) : fX9_marks (E.1 + mo) (St E (frW B x y l f g (mN : Int) u v)) = some (St E (frW B x y l f g (mkD V cnt (y * 8 + x) l mN : Int) u v)) := by
  have hV := P.2.1
  have v3 := hV.2.2.1
  have v6 := hV.2.2.2.2.2.1
  have v9 := hV.2.2.2.2.2.2.2.2.1
  have db := drV_bd (c := y * 8 + x) hV
  have da := m_doorAt (E := E) (x := x) (y := y) rm (MP_fr (x := x) (y := y) (l := l) (f := f) (g := g) (m := (mN : Int)) (u := u) (v := v) P).1 hV x0.1 x0.2 y0.1 y0.2
  unfold fX9_marks mkD
  rw [c9 rm.1, some_bind, g9_42 rm.1, some_bind, frW_42, g9_43 rm.1, some_bind, frW_43, da, some_bind]
  dsimp only
  by_cases q : drV V (y * 8 + x) = -1
  · rw [if_pos (by rw [q]), if_neg (fun w => w.1 q)]
  · have qn : ¬ iI (drV V (y * 8 + x)) = iI (-1) := by rw [iI_eq (by omega) (by omega) (by omega) (by omega)]; exact q
    obtain ⟨d, hd⟩ : ∃ d : Nat, drV V (y * 8 + x) = (d : Int) := ⟨(drV V (y * 8 + x)).toNat, by omega⟩
    rw [if_neg qn, g9_48 rm.1, some_bind, frW_o (by omega), hc, hd, Int.toNat_natCast]
    have mb := md_bit ⟨cnt, hc2⟩ ⟨d, by omega⟩
    unfold fX9_isBit
    by_cases q1 : cnt.testBit d = true
    · rw [if_pos (mb ▸ q1), some_bind, if_neg (by exact (show ¬ iI 1 = 0 by decide))]
      dsimp only
      rw [g9_44 rm.1, some_bind, frW_44, g9_17 rm.1, some_bind, aI_ok (mk7 rm) (by omega) (by omega) (by omega), some_bind, frW_2, P.2.2.2]
      by_cases q2 : l ≤ V.1 6
      · rw [if_neg (by rw [iI_lt (by omega) (by omega) (by omega) (by omega)]; omega), g9_47 rm.1, some_bind, frW_47, md_or ⟨mN, hm⟩ ⟨d, by omega⟩, p9_47 rm.1, some_bind, frW_w47, if_pos ⟨by omega, q1, q2⟩]
      · rw [if_pos (by rw [iI_lt (by omega) (by omega) (by omega) (by omega)]; omega), if_neg (fun w => q2 w.2.2)]
    · rw [if_neg (mb ▸ q1), some_bind, if_pos (by exact (show iI 0 = 0 by decide)), if_neg (fun w => q1 w.2.1)]
end AC
