/-! the reference's rows by states: an hour of them, whole; their start -/
section RX
variable {E : Ev} {B C X : Bk} {V : Vy} {N T : Int → Int}
theorem m_fillT {s : Hp} {x1 x2 : Int32} {nv : Int} (rm : mKd E mo) (an : anyF E (rw2 X N T) s) : ∃ s', iter (fX9_hourRows_l15 (E.1 + mo) x1 x2 (jI nv)) FU (iI 0, s) = some s' ∧ anyF E (rw2 X N (fun _ => nv)) s' := by
  obtain ⟨x, y, l, f, g, m, u, v, rfl⟩ := an
  have := iter_for (F := fX9_hourRows_l15 (E.1 + mo) x1 x2 (jI nv)) (fun j => (iI j, St E (frW (rw2 X N (fun z => if 0 ≤ z ∧ z < j then nv else T z)) x y l f g m u v))) 0 32000 (St E (frW (rw2 X N (fun _ => nv)) x y l f g m u v)) (fun j j0 j1 => by
    unfold fX9_hourRows_l15
    dsimp only
    rw [if_neg (by rw [iI_le (by omega) (by omega) (by omega) (by omega)]; omega), g9_50 rm.1, some_bind, sL_ok (mk24 rm) j0 (by omega) (by omega), some_bind, frW_wJ, rw2_wT j0 j1, iI_add]
    rw [rw2_cg (N' := N) (T' := fun z => if 0 ≤ z ∧ z < j + 1 then nv else T z) (fun _ _ _ => rfl) (fun z z0 z1 => by
      unfold upI
      dsimp only
      by_cases q : z = j
      · rw [if_pos q, if_pos (by omega)]
      · rw [if_neg q]
        by_cases q2 : 0 ≤ z ∧ z < j
        · rw [if_pos q2, if_pos (by omega)]
        · rw [if_neg q2, if_neg (by omega)])]) (by
    unfold fX9_hourRows_l15
    dsimp only
    rw [if_pos (by decide)]
    rw [rw2_cg (N' := N) (T' := fun _ => nv) (fun _ _ _ => rfl) (fun z z0 z1 => by rw [if_pos ⟨z0, z1⟩])]) (by omega) (N := FU) (FU_big (by omega))
  rw [rw2_cg (N' := N) (T' := T) (fun _ _ _ => rfl) (fun z z0 z1 => by rw [if_neg (by omega)])] at this
  exact ⟨_, this, _, _, _, _, _, _, _, _, rfl⟩
theorem m_copyT {s : Hp} (rm : mKd E mo) (an : anyF E (rw2 X N T) s) : ∃ s', iter (fX9_hourRows_l193 (E.1 + mo)) FU (iI 0, s) = some s' ∧ anyF E (rw2 X T T) s' := by
  obtain ⟨x, y, l, f, g, m, u, v, rfl⟩ := an
  have := iter_for (F := fX9_hourRows_l193 (E.1 + mo)) (fun j => (iI j, St E (frW (rw2 X (fun z => if 0 ≤ z ∧ z < j then T z else N z) T) x y l f g m u v))) 0 32000 (St E (frW (rw2 X T T) x y l f g m u v)) (fun j j0 j1 => by
    unfold fX9_hourRows_l193
    dsimp only
    rw [if_neg (by rw [iI_le (by omega) (by omega) (by omega) (by omega)]; omega), g9_49 rm.1, some_bind, g9_50 rm.1, some_bind, aL_ok (mk24 rm) j0 (by omega) (by omega), some_bind, frW_2, rw2_T j0 j1, sL_ok (mk23 rm) j0 (by omega) (by omega), some_bind, frW_wJ, rw2_wN j0 j1, iI_add]
    rw [rw2_cg (N' := fun z => if 0 ≤ z ∧ z < j + 1 then T z else N z) (T' := T) (fun z z0 z1 => by
      unfold upI
      dsimp only
      by_cases q : z = j
      · rw [if_pos q, if_pos (by omega), q]
      · rw [if_neg q]
        by_cases q2 : 0 ≤ z ∧ z < j
        · rw [if_pos q2, if_pos (by omega)]
        · rw [if_neg q2, if_neg (by omega)]) (fun _ _ _ => rfl)]) (by
    unfold fX9_hourRows_l193
    dsimp only
    rw [if_pos (by decide)]
    rw [rw2_cg (N' := T) (T' := T) (fun z z0 z1 => by rw [if_pos ⟨z0, z1⟩]) (fun _ _ _ => rfl)]) (by omega) (N := FU) (FU_big (by omega))
  rw [rw2_cg (N' := N) (T' := T) (fun z z0 z1 => by rw [if_neg (by omega)]) (fun _ _ _ => rfl)] at this
  exact ⟨_, this, _, _, _, _, _, _, _, _, rfl⟩
/-- what stands behind so many states and acts, kept by every act -/
def RInv (V : Vy) (kd h nv : Int) (N : Int → Int) (Inv : Nat → Nat → (Int → Int) → Prop) : Prop :=
  Inv 0 0 (fun _ => nv) ∧ (∀ j a T, j < 32000 → Inv j a T → ∀ z, 0 ≤ z → z < 32000 → -1 ≤ T z ∧ T z ≤ 2305843009213693952) ∧
  (∀ (j a : Nat) T c l f g, a < 3 → j < 32000 → tOK V c l f g 0 → (j : Int) = sC c l f g → ¬ N (j : Int) = nv → Inv j a T → Inv j (a + 1) (stA V kd h N T (a : Int) c l f g)) ∧
  (∀ (j : Nat) T, j < 32000 → ¬ N (j : Int) = nv → Inv j 3 T → Inv (j + 1) 0 T) ∧ ∀ (j : Nat) T, j < 32000 → N (j : Int) = nv → Inv j 0 T → Inv (j + 1) 0 T
theorem m_hr40 {kd h nv : Int} {s : Hp} {Inv : Nat → Nat → (Int → Int) → Prop} (rm : mKd E mo) (P : MP X V) (hk : kd = 0 ∨ kd = 1 ∨ kd = 2) (fr : kd = 1 → FRN X V) (h0 : 0 ≤ h ∧ h < V.1 4) (nv0 : nv = 0 ∨ nv = -1) (bN : ∀ z, 0 ≤ z → z < 32000 → -1 ≤ N z ∧ N z ≤ 2305843009213693951) (sv : ∀ z, 0 ≤ z → z < 32000 → ¬ N z = nv → ∃ c l f g, tOK V c l f g 0 ∧ z = sC c l f g) (I : RInv V kd h nv N Inv) (an : anyF E (rw2 X N (fun _ => nv)) s) : ∃ s' T', iter (fX9_hourRows_l40 (E.1 + mo) (iI h) (iI kd) (jI nv)) FU (iI 0, s) = some s' ∧ anyF E (rw2 X N T') s' ∧ Inv 32000 0 T' := by
  obtain ⟨I0, Ib, I1, I2, I3⟩ := I
  obtain ⟨z, e1, T', e2, e3⟩ := iter_acc (F := fX9_hourRows_l40 (E.1 + mo) (iI h) (iI kd) (jI nv)) (fun j a => ∃ s' T', a = (iI (j : Int), s') ∧ anyF E (rw2 X N T') s' ∧ Inv j 0 T') 32000 (fun s' => ∃ T', anyF E (rw2 X N T') s' ∧ Inv 32000 0 T')
    (fun j a hj ha => by
      obtain ⟨s', T', rfl, an, iv⟩ := ha
      have bn := bN (j : Int) (by omega) (by omega)
      have rd : gR s' (E.1 + mo) 9 49 = some (E.1 + (mo + 23)) ∧ aL s' (E.1 + (mo + 23)) (iI (j : Int)) = some (jI (N (j : Int))) := by
        obtain ⟨x, y, l, f, g, m, u, v, rfl⟩ := an
        exact ⟨g9_49 rm.1, by rw [aL_ok (mk23 rm) (by omega) (by omega) (by omega), frW_2, rw2_N (by omega) (by omega)]⟩
      by_cases q : N (j : Int) = nv
      · refine ⟨(iI ((j + 1 : Nat) : Int), s'), ?_, s', T', rfl, an, I3 j T' hj q iv⟩
        unfold fX9_hourRows_l40 fX9_hourRows_b184
        dsimp only
        rw [if_neg (by rw [iI_le (by omega) (by omega) (by omega) (by omega)]; omega), rd.1, some_bind, rd.2, some_bind, if_pos ((lg_cmp_eq _ _).mpr (by rw [q])), iI_add]
        rfl
      · obtain ⟨c, l, f, g, tk, ek⟩ := sv (j : Int) (by omega) (by omega) q
        obtain ⟨s2, g1, T2, g2, g3⟩ := iter_acc (F := fX9_hourRows_l66 (E.1 + mo) (iI h) (iI kd) (jI nv) (iI (j : Int))) (fun b a => ∃ s' T', a = (iI (b : Int), s') ∧ anyF E (rw2 X N T') s' ∧ Inv j b T') 3 (fun s' => ∃ T', anyF E (rw2 X N T') s' ∧ Inv j 3 T')
          (fun b a hb ha => by
            obtain ⟨s3, T3, rfl, an3, iv3⟩ := ha
            obtain ⟨s4, k1, k2⟩ := m_hr66 (X := X) (N := N) (T := T3) (c := c) (l := l) (f := f) (g := g) (kd := kd) (h := h) (a := (b : Int)) (nv := jI nv) rm P hk fr tk (by omega) h0 (Ib j b T3 hj iv3) (by rw [← ek]; exact bn) an3
            rw [← ek] at k1
            exact ⟨_, by rw [k1, show (b : Int) + 1 = ((b + 1 : Nat) : Int) by omega], s4, _, rfl, k2, I1 j b T3 c l f g hb hj tk ek q iv3⟩)
          (fun a ha => by
            obtain ⟨s3, T3, rfl, an3, iv3⟩ := ha
            refine ⟨s3, ?_, T3, an3, iv3⟩
            unfold fX9_hourRows_l66
            dsimp only
            rw [if_pos (by decide)]) (N := FU) (by decide) (a := (iI 0, s')) ⟨s', T', rfl, an, iv⟩
        refine ⟨(iI ((j + 1 : Nat) : Int), s2), ?_, s2, T2, rfl, g2, I2 j T2 hj q g3⟩
        unfold fX9_hourRows_l40 fX9_hourRows_b184
        dsimp only
        rw [if_neg (by rw [iI_le (by omega) (by omega) (by omega) (by omega)]; omega), rd.1, some_bind, rd.2, some_bind, if_neg (fun w => q ((jI_eq (by omega) (by omega) (by omega) (by omega)).mp ((lg_cmp_eq _ _).mp w))), g1, some_bind, iI_add]
        rfl)
    (fun a ha => by
      obtain ⟨s', T', rfl, an, iv⟩ := ha
      refine ⟨s', ?_, T', an, iv⟩
      unfold fX9_hourRows_l40
      dsimp only
      rw [if_pos (by decide)]) (N := FU) (by decide) (a := (iI 0, s)) ⟨s, _, rfl, an, I0⟩
  exact ⟨z, T', e1, e2, e3⟩
theorem m_hourRows {kd h nv : Int} {s : Hp} {Inv : Nat → Nat → (Int → Int) → Prop} (rm : mKd E mo) (P : MP X V) (hk : kd = 0 ∨ kd = 1 ∨ kd = 2) (fr : kd = 1 → FRN X V) (h0 : 0 ≤ h ∧ h < V.1 4) (nve : nv = if kd = 0 then 0 else -1) (bN : ∀ z, 0 ≤ z → z < 32000 → -1 ≤ N z ∧ N z ≤ 2305843009213693951) (sv : ∀ z, 0 ≤ z → z < 32000 → ¬ N z = nv → ∃ c l f g, tOK V c l f g 0 ∧ z = sC c l f g) (I : RInv V kd h nv N Inv) (an : anyF E (rw2 X N T) s) : ∃ s' T', fX9_hourRows (E.1 + mo) (iI h) (iI kd) s = some s' ∧ anyF E (rw2 X T' T') s' ∧ Inv 32000 0 T' := by
  have nv0 : nv = 0 ∨ nv = -1 := by rw [nve]; split <;> omega
  obtain ⟨s1, a1, a2⟩ := m_fillT (x1 := iI h) (x2 := iI kd) (nv := nv) rm an
  obtain ⟨s2, T2, b1, b2, b3⟩ := m_hr40 rm P hk fr h0 nv0 bN sv I a2
  obtain ⟨s3, c1, c2⟩ := m_copyT rm b2
  refine ⟨s3, T2, ?_, c2, b3⟩
  have run : fX9_hourRows_b11 (E.1 + mo) (iI h) (iI kd) (jI nv) s = some s3 := by
    unfold fX9_hourRows_b11
    rw [a1, some_bind, b1, some_bind, c1, some_bind]
  obtain ⟨x, y, l, f, g, m, u, v, rfl⟩ := an
  unfold fX9_hourRows
  rw [c9 rm.1, some_bind]
  by_cases q : kd = 0
  · rw [if_pos q] at nve
    rw [if_pos (by rw [q]; decide)]
    rw [nve] at run
    exact run
  · rw [if_neg q] at nve
    rw [if_neg (fun w => q (by rcases hk with e | e | e; exact e; (rw [e] at w; exact absurd w (by decide)); (rw [e] at w; exact absurd w (by decide))))]
    rw [nve] at run
    exact run
theorem m_startsRows {S G L k c0 q : Nat} {one nv : Int} (rm : mKd E mo) (P0 : MP (plnM B) V) (N0 : RN V (q : Int) S G L k) (hc0 : scV V (q : Int) = (c0 : Int)) : ∃ s' T, fX9_startsRows (E.1 + mo) (iI (q : Int)) (jI one) (jI nv) (St E B) = some s' ∧ anyF E (rw2 (stX B V 0 (q : Int) 9) (upI (fun _ => nv) (sC (c0 : Int) (L : Int) (S : Int) (G : Int)) one) T) s' ∧ MP (stX B V 0 (q : Int) 9) V ∧ sc B (stX B V 0 (q : Int) 9) ∧ tOK V (c0 : Int) (L : Int) (S : Int) (G : Int) 0 := by
  have N' := N0
  obtain ⟨hV, i0, eS, eG, eL, hk, hS, hG⟩ := N'
  have sb := hV.2.2.2.2.2.2.2.2.2.2.1 (q : Int) i0.1 i0.2
  have v1 := hV.1
  have v2 := hV.2.1
  have v3 := hV.2.2.1
  obtain ⟨u, v, run, rf⟩ := m_startPX (t := 9) (cnt := 0) rm P0 (by omega) N0 hc0 (by omega)
  rw [show min 9 S = S by omega, mkU_0] at run
  obtain ⟨X0, hX0⟩ : ∃ X0, X0 = stX B V 0 (q : Int) ((9 : Nat) : Int) := ⟨_, rfl⟩
  have hX0' : X0 = stX B V 0 (q : Int) 9 := hX0
  rw [← hX0] at run rf
  rw [← hX0']
  have rr := rf (St E (frW X0 (V.2.2.1 (q : Int) 0) (V.2.2.1 (q : Int) 1) (L : Int) (S : Int) (G : Int) (U0 L c0 0 : Int) u v)) ⟨_, _, _, _, _, _, _, _, rfl⟩
  obtain ⟨c0', hc0', c64, cok, hL⟩ := scV_b N0
  have ec : c0' = c0 := by omega
  subst ec
  have tk : tOK V (c0' : Int) (L : Int) (S : Int) (G : Int) 0 := ⟨cok, by omega, by omega, by omega, by omega⟩
  have kb := sC_b hV tk
  have es : V.2.2.1 (q : Int) 1 * 8 + V.2.2.1 (q : Int) 0 = (c0' : Int) := hc0
  have code : (((V.2.2.1 (q : Int) 0 * 8 + V.2.2.1 (q : Int) 1) * 5 + (L : Int)) * 10 + (S : Int)) * 10 + (G : Int) = sC (c0' : Int) (L : Int) (S : Int) (G : Int) := by
    unfold sC
    rw [← es, show (V.2.2.1 (q : Int) 1 * 8 + V.2.2.1 (q : Int) 0) % 8 = V.2.2.1 (q : Int) 0 by omega, show (V.2.2.1 (q : Int) 1 * 8 + V.2.2.1 (q : Int) 0) / 8 = V.2.2.1 (q : Int) 1 by omega]
  obtain ⟨T, hT⟩ : ∃ T : Int → Int, T = fun z => (X0.2.2.2.2 (mo + 24) z).toInt := ⟨_, rfl⟩
  obtain ⟨N1, hN1⟩ : ∃ N1 : Int → Int, N1 = fun z => (X0.2.2.2.2 (mo + 23) z).toInt := ⟨_, rfl⟩
  have sf : rw2 X0 N1 T = X0 := by rw [hN1, hT]; exact rw2_sf
  obtain ⟨x, hx⟩ : ∃ x, x = V.2.2.1 (q : Int) 0 := ⟨_, rfl⟩
  obtain ⟨y, hy⟩ : ∃ y, y = V.2.2.1 (q : Int) 1 := ⟨_, rfl⟩
  obtain ⟨m, hm⟩ : ∃ m, m = (U0 L c0' 0 : Int) := ⟨_, rfl⟩
  rw [← hx, ← hy, ← hm] at run
  rw [← hx, ← hy] at code
  have fill : iter (fX9_startsRows_l11 (E.1 + mo) (jI one) (jI nv)) FU (iI 0, St E (frW X0 x y (L : Int) (S : Int) (G : Int) m u v)) = some (St E (frW (rw2 X0 (fun _ => nv) T) x y (L : Int) (S : Int) (G : Int) m u v)) := by
    have := iter_for (F := fX9_startsRows_l11 (E.1 + mo) (jI one) (jI nv)) (fun j => (iI j, St E (frW (rw2 X0 (fun z => if 0 ≤ z ∧ z < j then nv else N1 z) T) x y (L : Int) (S : Int) (G : Int) m u v))) 0 32000 (St E (frW (rw2 X0 (fun _ => nv) T) x y (L : Int) (S : Int) (G : Int) m u v)) (fun j j0 j1 => by
      unfold fX9_startsRows_l11
      dsimp only
      rw [if_neg (by rw [iI_le (by omega) (by omega) (by omega) (by omega)]; omega), g9_49 rm.1, some_bind, sL_ok (mk23 rm) j0 (by omega) (by omega), some_bind, frW_wJ, rw2_wN j0 j1, iI_add]
      rw [rw2_cg (N' := fun z => if 0 ≤ z ∧ z < j + 1 then nv else N1 z) (T' := T) (fun z z0 z1 => by
        unfold upI
        dsimp only
        by_cases q : z = j
        · rw [if_pos q, if_pos (by omega)]
        · rw [if_neg q]
          by_cases q2 : 0 ≤ z ∧ z < j
          · rw [if_pos q2, if_pos (by omega)]
          · rw [if_neg q2, if_neg (by omega)]) (fun _ _ _ => rfl)]) (by
      unfold fX9_startsRows_l11
      dsimp only
      rw [if_pos (by decide)]
      rw [rw2_cg (N' := fun _ => nv) (T' := T) (fun z z0 z1 => by rw [if_pos ⟨z0, z1⟩]) (fun _ _ _ => rfl)]) (by omega) (N := FU) (FU_big (by omega))
    rw [rw2_cg (N' := N1) (T' := T) (fun z z0 z1 => by rw [if_neg (by omega)]) (fun _ _ _ => rfl), sf] at this
    exact this
  refine ⟨St E (frW (rw2 X0 (upI (fun _ => nv) (sC (c0' : Int) (L : Int) (S : Int) (G : Int)) one) T) x y (L : Int) (S : Int) (G : Int) m u v), T, ?_, ⟨_, _, _, _, _, _, _, _, rfl⟩, rr.2.2.1, rr.2.1, tk⟩
  have run' : fX9_starts (E.1 + mo) (iI (q : Int)) (iI 9) (iI 0) (St E B) = some (St E (frW X0 x y (L : Int) (S : Int) (G : Int) m u v)) := run
  unfold fX9_startsRows
  rw [c9 rm.1, some_bind, run', some_bind, fill, some_bind, g9_49 rm.1, some_bind, m_stateF rm, some_bind]
  dsimp only
  rw [code, sL_ok (mk23 rm) kb.1 (by omega) (by omega), some_bind, frW_wJ, rw2_wN kb.1 kb.2]
end RX
