/-! questions to the Roamer: what they leave; guards; the least sand, the soonest hour -/
def QM {α : Type} (E : Ev) (B : Bk) (n d : Nat) (f g : Hp → Option (α × Hp)) : Prop := ∃ v B1 B2, f (St E B) = some (v, St E B1) ∧ g (St E B1) = some (v, St E B2) ∧ ltF d B B1 ∧ sc B1 B2 ∧ RQ E B1 n d
/-- r is the least number of Q, -1 where there is none -/
def lsP (Q : Nat → Prop) (r : Int) : Prop := (r = -1 ∧ ∀ s, ¬ Q s) ∨ ∃ s : Nat, r = (s : Int) ∧ Q s ∧ ∀ s', s' < s → ¬ Q s'
theorem lsP_u {Q : Nat → Prop} {r r' : Int} (h : lsP Q r) (g : lsP Q r') : r = r' := by
  rcases h with ⟨h1, h2⟩ | ⟨s, h1, h2, h3⟩ <;> rcases g with ⟨g1, g2⟩ | ⟨t, g1, g2, g3⟩
  · omega
  · exact absurd g2 (h2 t)
  · exact absurd h2 (g2 s)
  · rcases Nat.lt_trichotomy s t with q | q | q
    · exact absurd h2 (g3 s q)
    · omega
    · exact absurd g2 (h3 t q)
theorem lsP_iff {Q Q' : Nat → Prop} {r : Int} (e : ∀ s, Q s ↔ Q' s) (h : lsP Q r) : lsP Q' r := by
  rcases h with ⟨h1, h2⟩ | ⟨s, h1, h2, h3⟩
  · exact Or.inl ⟨h1, fun s w => h2 s ((e s).mpr w)⟩
  · exact Or.inr ⟨s, h1, (e s).mp h2, fun s' q w => h3 s' q ((e s').mpr w)⟩
section LST
variable {E : Ev} {B C : Bk} {n d : Nat}
theorem rg_isShop {s : Int} (R : RV E C n) (hn : n < 50) (hs : i32 s) : fX9_isShop (E.1 + mo) (iI s) (St E (wI C mo 0 0)) = some (iI (bI (0 ≤ s ∧ s < C.1 n 8)), St E (wI C mo 0 0)) := by
  have R0 := rv_0 R (by omega)
  rw [m_isShop hs R.1.2.2.2 (rv_mw R0), vr_h7 R0, w0n (by omega)]
theorem rg_isLayer {s : Int} (R : RV E C n) (hn : n < 50) (hs : i32 s) : fX9_isLayer (E.1 + mo) (iI s) (St E (wI C mo 0 0)) = some (iI (bI (0 ≤ s ∧ s < C.1 n 3)), St E (wI C mo 0 0)) := by
  have R0 := rv_0 R (by omega)
  rw [m_isLayer hs R.1.2.2.2 (rv_mw R0), vr_h2 R0, w0n (by omega)]
theorem rg_isHour {s : Int} (R : RV E C n) (hn : n < 50) (hs : i32 s) : fX9_isHour (E.1 + mo) (Int32.toInt64 (iI s)) (St E (wI C mo 0 0)) = some (iI (bI (0 ≤ s ∧ s < C.1 n 4)), St E (wI C mo 0 0)) := by
  have R0 := rv_0 R (by omega)
  rw [jI_i hs.1 hs.2, m_isHour (i3264 hs) R.1.2.2.2 (rv_mw R0), vr_h3 R0, w0n (by omega)]
theorem rg_isColumn {x y : Int} (R : RV E C n) (hn : n < 50) (hx : i32 x) (hy : i32 y) : fX9_isColumn (E.1 + mo) (Int32.toInt64 (iI x)) (Int32.toInt64 (iI y)) (St E (wI C mo 0 0)) = some (iI (bI ((0 ≤ x ∧ x < C.1 n 1) ∧ (0 ≤ y ∧ y < C.1 n 2))), St E (wI C mo 0 0)) := by
  have R0 := rv_0 R (by omega)
  rw [jI_i hx.1 hx.2, jI_i hy.1 hy.2, m_isColumn (i3264 hx) (i3264 hy) R.1.2.2.2 (rv_mw R0), vr_h0 R0, vr_h1 R0, w0n (by omega), w0n (by omega)]
theorem rg_isCell {x y l : Int} (R : RV E C n) (hn : n < 50) (hx : i32 x) (hy : i32 y) (hl : i32 l) : fX9_isCell (E.1 + mo) (iI x) (iI y) (iI l) (St E (wI C mo 0 0)) = some (iI (bI (((0 ≤ x ∧ x < C.1 n 1) ∧ (0 ≤ y ∧ y < C.1 n 2)) ∧ (0 ≤ l ∧ l < C.1 n 3))), St E (wI C mo 0 0)) := by
  simp only [fX9_isCell, fX9_isCell_b23, c9 R.1.2.2.2.1, rg_isColumn R hn hx hy, rg_isLayer R hn hl, some_bind, iI_0, ib]
  by_cases q1 : (0 ≤ x ∧ x < C.1 n 1) ∧ (0 ≤ y ∧ y < C.1 n 2)
  · rw [if_pos q1]
    by_cases q2 : 0 ≤ l ∧ l < C.1 n 3
    · rw [if_pos q2, bI_t ⟨q1, q2⟩]
    · rw [if_neg q2, bI_f (fun w => q2 w.2)]
  · rw [if_neg q1, bI_f (fun w => q1 w.1)]
theorem s8_hasShopCell {s x y l : Int} (R : RV E B n) (hs : i32 s) (hx : i32 x) (hy : i32 y) (hl : i32 l) : fX8_hasShopCell (E.1 + co) (iI s) (iI x) (iI y) (iI l) (St E B) = some (iI (bI ((0 ≤ s ∧ s < B.1 n 8) ∧ ((0 ≤ x ∧ x < B.1 n 1) ∧ (0 ≤ y ∧ y < B.1 n 2)) ∧ (0 ≤ l ∧ l < B.1 n 3))), St E B) := by
  obtain ⟨⟨rc, rn, rk, rm⟩, rw1, -⟩ := R
  simp only [fX8_hasShopCell, fX8_hasShopCell_b39, c8 rc, g8_7 rc rn, s_hasShop hs rk rw1, s_hasColumn hx hy rk rw1, s_hasLayer hl rk rw1, some_bind, iI_0, ib]
  by_cases q0 : 0 ≤ s ∧ s < B.1 n 8
  · rw [if_pos q0]
    by_cases q1 : (0 ≤ x ∧ x < B.1 n 1) ∧ (0 ≤ y ∧ y < B.1 n 2)
    · rw [if_pos q1]
      by_cases q2 : 0 ≤ l ∧ l < B.1 n 3
      · rw [if_pos q2, bI_t ⟨q0, q1, q2⟩]
      · rw [if_neg q2, bI_f (fun w => q2 w.2.2)]
    · rw [if_neg q1, bI_f (fun w => q1 w.2.1)]
  · rw [if_neg q0, bI_f (fun w => q0 w.1)]
theorem MP_rv (R : RV E B n) (hn : n < 50) (hst : 0 < B.1 n 0) : MP (plnM B) (vyN B n) := by
  have R' := sc_rv plnM_sc hn R
  have en : ∀ j, (plnM B).1 n j = B.1 n j := sc_n plnM_sc (by omega)
  have ev : vyN (plnM B) n = vyN B n := vyN_eq en (fun _ _ _ _ => rfl)
  have m := rv_MV R' (by rw [en]; exact hst) (by rw [plnM_1, if_pos (by omega)]) (by rw [plnM_1, if_pos (by omega)]) (by rw [plnM_1, if_pos (by omega)]) (by rw [plnM_1, if_pos (by omega)]) (by rw [plnM_1, if_pos (by omega)]) (by rw [plnM_1, if_pos (by omega)])
  rw [ev] at m
  exact ⟨m, rv_VOK R hst, by rw [plnM_1, if_pos (by omega)], vr_h5 R⟩
theorem mkU_0 {V : Vy} : mkU V 0 = U0 := by
  funext l c m
  unfold mkU mkD U0
  rw [if_neg (fun w => by have := w.2.1; rw [Nat.zero_testBit] at this; cases this)]
/-- the reference stands behind j hours -/
abbrev P0t (V : Vy) (S G L c0 : Nat) (j : Nat) : StP := Pt V S G U0 0 (iP c0 L 0) j
theorem m_start0 {V : Vy} {i : Int} {S G L k c0 : Nat} (rm : mKd E mo) (P0 : MP (plnM B) V) (N : RN V i S G L k) (hc0 : scV V i = (c0 : Int)) : ∃ s' X', fX9_starts (E.1 + mo) (iI i) (iI 9) (iI 0) (St E B) = some s' ∧ RfS E B V 0 S G (P0t V S G L c0 0) X' s' := by
  obtain ⟨s', X', e1, e2⟩ := m_startP (cnt := 0) (t := 9) rm P0 (by omega) N hc0 (by omega)
  have hS := N.2.2.2.2.2.2.1
  rw [show min 9 S = S by omega, mkU_0] at e2
  exact ⟨s', X', e1, e2⟩
theorem m_step0 {V : Vy} {S G L c0 j : Nat} {X : Bk} {s : Hp} (rm : mKd E mo) (hS : S ≤ 9) (hG : G ≤ 9) (hj : (j : Int) < V.1 4) (R : RfS E B V 0 S G (P0t V S G L c0 j) X s) : ∃ s' X', fX9_hourFree (E.1 + mo) (iI (j : Int)) s = some s' ∧ RfS E B V 0 S G (P0t V S G L c0 (j + 1)) X' s' := by
  obtain ⟨s', X', e1, e2⟩ := m_stepP (h := j) rm (by omega) hS hG hj R
  rw [mkU_0] at e2
  exact ⟨s', X', e1, e2⟩
/-- numbers of the valley, as the reference has them in the middle of a question -/
theorem RfS_h {V : Vy} {cnt F G : Nat} {P : StP} {X : Bk} {s : Hp} (R : RfS E B V cnt F G P X s) : ∃ x y l f g m u v, s = St E (frW X x y l f g m u v) := R.1
theorem m_hours {V : Vy} {cnt F G : Nat} {P : StP} {X : Bk} {s : Hp} {j : Int} {k : Nat} (rm : mKd E mo) (R : RfS E B V cnt F G P X s) (hk : k < 15) (hj : (k : Int) = j) : gR s (E.1 + mo) 9 17 = some (E.1 + (mo + 7)) ∧ aI s (E.1 + (mo + 7)) (iI j) = some (iI (X.2.2.2.1 (mo + 7) j)) := by
  obtain ⟨x, y, l, f, g, m, u, v, rfl⟩ := R.1
  exact ⟨g9_17 rm.1, by rw [aI_ok (mk7 rm) (by omega) (by omega) (by omega), frW_2]⟩
theorem m_hour3 {V : Vy} {cnt F G : Nat} {P : StP} {X : Bk} {s : Hp} (rm : mKd E mo) (R : RfS E B V cnt F G P X s) : gR s (E.1 + mo) 9 17 = some (E.1 + (mo + 7)) ∧ aI s (E.1 + (mo + 7)) (iI 3) = some (iI (V.1 4)) := by
  obtain ⟨a, b⟩ := m_hours (k := 3) rm R (by omega) rfl
  exact ⟨a, by rw [← (MP_num R.2.2.1).2.2.2]; exact b⟩
/-- the most sand left by now -/
def mxP (F : Nat) (Q : Nat → Prop) (r : Int) : Prop := (r = -1 ∧ ∀ s, ¬ Q s) ∨ ∃ s : Nat, r = (F : Int) - (s : Int) ∧ s ≤ F ∧ Q s ∧ ∀ s', s' < s → ¬ Q s'
theorem mxP_max {F : Nat} {Q1 Q2 Q : Nat → Prop} {r1 r2 : Int} (h1 : mxP F Q1 r1) (h2 : mxP F Q2 r2) (e : ∀ s, Q s ↔ Q1 s ∨ Q2 s) : mxP F Q (if r2 ≤ r1 then r1 else r2) := by
  rcases h1 with ⟨a1, a2⟩ | ⟨s, a1, a2, a3, a4⟩ <;> rcases h2 with ⟨b1, b2⟩ | ⟨t, b1, b2, b3, b4⟩
  · rw [if_pos (by omega)]
    exact Or.inl ⟨a1, fun s w => by rcases (e s).mp w with w | w; exact a2 s w; exact b2 s w⟩
  · rw [if_neg (by omega)]
    exact Or.inr ⟨t, b1, b2, (e t).mpr (Or.inr b3), fun s' q w => by rcases (e s').mp w with w | w; exact a2 s' w; exact b4 s' q w⟩
  · rw [if_pos (by omega)]
    exact Or.inr ⟨s, a1, a2, (e s).mpr (Or.inl a3), fun s' q w => by rcases (e s').mp w with w | w; exact a4 s' q w; exact b2 s' w⟩
  · by_cases q : r2 ≤ r1
    · rw [if_pos q]
      exact Or.inr ⟨s, a1, a2, (e s).mpr (Or.inl a3), fun s' q w => by rcases (e s').mp w with w | w; exact a4 s' q w; exact b4 s' (by omega) w⟩
    · rw [if_neg q]
      exact Or.inr ⟨t, b1, b2, (e t).mpr (Or.inr b3), fun s' q w => by rcases (e s').mp w with w | w; exact a4 s' (by omega) w; exact b4 s' q w⟩
theorem mLP_mx {F : Nat} {P : StP} {c l : Nat} {r : Int} (h : mLP F P c l r) : mxP F (fun s => ∃ u, P c l s u 0) r := by
  rcases h with ⟨h1, h2⟩ | ⟨s, h1, h2, h3, h4⟩
  · exact Or.inl ⟨h1, fun s ⟨u, w⟩ => h2 s u w⟩
  · exact Or.inr ⟨s, h1, h2, h3, fun s' q ⟨u, w⟩ => h4 s' q u w⟩
theorem mxP_b {F : Nat} {Q : Nat → Prop} {r : Int} (h : mxP F Q r) : -1 ≤ r ∧ r ≤ (F : Int) := by
  rcases h with ⟨h1, h2⟩ | ⟨s, h1, h2, h3, h4⟩ <;> omega
theorem m_leastRun {V : Vy} {S G L c0 x y l : Nat} {X : Bk} {s : Hp} {r : Int} {x1 : Int32} (rm : mKd E mo) (hV : VOK V) (hS : S ≤ 9) (hG : G ≤ 9) (x0 : (x : Int) < V.1 1) (y0 : (y : Int) < V.1 2) (l0 : (l : Int) < V.1 3) (R : RfS E B V 0 S G (P0t V S G L c0 0) X s) (hr : mxP S (fun t => ∃ u, P0t V S G L c0 0 (y * 8 + x) l t u 0) r) : ∃ s' X' r', iter (fX9_least_l48 (E.1 + mo) x1 (iI (x : Int)) (iI (y : Int)) (iI (l : Int))) FU (iI r, iI 0, s) = some (iI r', s') ∧ RfS E B V 0 S G (P0t V S G L c0 (V.1 4).toNat) X' s' ∧ mxP S (fun t => ∃ h u, h ≤ (V.1 4).toNat ∧ P0t V S G L c0 h (y * 8 + x) l t u 0) r' := by
  have v4 := hV.2.2.2.1
  obtain ⟨z, e1, r', s', X', rfl, e2, e3⟩ := iter_acc (F := fX9_least_l48 (E.1 + mo) x1 (iI (x : Int)) (iI (y : Int)) (iI (l : Int))) (fun j a => ∃ r' s' X', a = (iI r', iI (j : Int), s') ∧ RfS E B V 0 S G (P0t V S G L c0 j) X' s' ∧ mxP S (fun t => ∃ h u, h ≤ j ∧ P0t V S G L c0 h (y * 8 + x) l t u 0) r') (V.1 4).toNat (fun q => ∃ r' s' X', q = (iI r', s') ∧ RfS E B V 0 S G (P0t V S G L c0 (V.1 4).toNat) X' s' ∧ mxP S (fun t => ∃ h u, h ≤ (V.1 4).toNat ∧ P0t V S G L c0 h (y * 8 + x) l t u 0) r')
    (fun j a hj ha => by
      obtain ⟨r', s', X', rfl, e2, e3⟩ := ha
      obtain ⟨h1, h2⟩ := m_hour3 rm e2
      obtain ⟨s2, X2, g1, g2⟩ := m_step0 rm hS hG (show (j : Int) < V.1 4 by omega) e2
      obtain ⟨s3, r3, g3, g4, g5⟩ := m_mL rm hS hG x0 y0 l0 g2
      have b1 := mxP_b e3
      have b2 := mxP_b (mLP_mx g5)
      refine ⟨(iI (if r3 ≤ r' then r' else r3), iI ((j + 1 : Nat) : Int), s3), ?_, _, s3, X2, rfl, g4, mxP_max e3 (mLP_mx g5) (fun t => ?_)⟩
      · unfold fX9_least_l48 fX9_least_b89
        dsimp only
        rw [h1, some_bind, h2, some_bind, if_neg (by rw [iI_le (by omega) (by omega) (by omega) (by omega)]; omega), g1, some_bind, g3, some_bind]
        dsimp only
        rw [iI_add]
        by_cases q : r3 ≤ r'
        · rw [if_pos (by rw [iI_le (by omega) (by omega) (by omega) (by omega)]; exact q), if_pos q]
          rfl
        · rw [if_neg (by rw [iI_le (by omega) (by omega) (by omega) (by omega)]; exact q), if_neg q]
          rfl
      · constructor
        · rintro ⟨h, u, a1, a2⟩
          by_cases e : h = j + 1
          · subst e
            exact Or.inr ⟨u, a2⟩
          · exact Or.inl ⟨h, u, by omega, a2⟩
        · rintro (⟨h, u, a1, a2⟩ | ⟨u, a2⟩)
          · exact ⟨h, u, by omega, a2⟩
          · exact ⟨j + 1, u, by omega, a2⟩)
    (fun a ha => by
      obtain ⟨r', s', X', rfl, e2, e3⟩ := ha
      obtain ⟨h1, h2⟩ := m_hour3 rm e2
      refine ⟨(iI r', s'), ?_, r', s', X', rfl, e2, e3⟩
      unfold fX9_least_l48
      dsimp only
      rw [h1, some_bind, h2, some_bind, if_pos (by rw [iI_le (by omega) (by omega) (by omega) (by omega)]; omega)]) (N := FU) (by show (V.1 4).toNat < 1000000; omega) (a := (iI r, iI 0, s)) ⟨r, s, X, rfl, R, by
      rcases hr with ⟨h1, h2⟩ | ⟨t, h1, h2, h3, h4⟩
      · exact Or.inl ⟨h1, fun t ⟨h, u, a1, a2⟩ => h2 t ⟨u, by rw [show h = 0 by omega] at a2; exact a2⟩⟩
      · obtain ⟨u, h3⟩ := h3
        exact Or.inr ⟨t, h1, h2, ⟨0, u, by omega, h3⟩, fun s' q ⟨h, u, a1, a2⟩ => h4 s' q ⟨u, by rw [show h = 0 by omega] at a2; exact a2⟩⟩⟩
  exact ⟨s', X', r', e1, e2, e3⟩
theorem m_least {S G L k c0 x y l q : Nat} (R : RV E C n) (hn : n < 50) (hst : 0 < C.1 n 0) (N : RN (vyN C n) (q : Int) S G L k) (hc0 : scV (vyN C n) (q : Int) = (c0 : Int)) (x0 : (x : Int) < C.1 n 1) (y0 : (y : Int) < C.1 n 2) (l0 : (l : Int) < C.1 n 3) : ∃ r D, fX9_least (E.1 + mo) (iI (q : Int)) (iI (x : Int)) (iI (y : Int)) (iI (l : Int)) (St E C) = some (iI r, St E D) ∧ sc C D ∧ lsP (fun s => ∃ h u, h ≤ ((vyN C n).1 4).toNat ∧ P0t (vyN C n) S G L c0 h (y * 8 + x) l s u 0) r := by
  have R0 := rv_0 R (show n < 58 by omega)
  have rm := R.1.2.2.2
  have N' := N
  obtain ⟨hV, i0, eS, eG, eL, hk, hS, hG⟩ := N'
  have w1 := R.2.1.2.1
  have w2 := R.2.1.2.2.1
  have w3 := R.2.1.2.2.2.1
  have w8 := R.2.1.2.2.2.2.2.2.2.2.1
  have ev : vyN (wI C mo 0 0) n = vyN C n := vyN_eq (fun j => w0n (by omega) j) (fun _ _ _ _ => rfl)
  have i8 : (q : Int) < C.1 n 8 := i0.2
  have P0 := MP_rv R0 hn (by rw [w0n (by omega)]; exact hst)
  rw [ev] at P0
  obtain ⟨s1, X1, a1, a2⟩ := m_start0 rm P0 N hc0
  obtain ⟨s2, r2, a3, a4, a5⟩ := m_mL (x := x) (y := y) (l := l) rm hS hG x0 y0 l0 a2
  obtain ⟨s3, X3, r3, a6, a7, a8⟩ := m_leastRun (x1 := iI (q : Int)) rm hV hS hG x0 y0 l0 a4 (mLP_mx a5)
  have b := mxP_b a8
  have hd : fX9_least (E.1 + mo) (iI (q : Int)) (iI (x : Int)) (iI (y : Int)) (iI (l : Int)) (St E C) = if iI r3 = iI (-1) then some (iI (-1), s3) else ((gR s3 (E.1 + mo) 9 21).bind fun v16 => (aI s3 v16 (((iI 6) * iI (q : Int)) + (iI 3))).bind fun v17 => some (v17 - iI r3, s3)) := by
    unfold fX9_least
    rw [c9 rm.1, some_bind, p9_0 rm.1, some_bind, rg_isShop R hn ⟨by omega, by omega⟩, some_bind]
    dsimp only
    rw [if_neg (fun w => (bI_0.mp w) ⟨by omega, i8⟩), rg_isCell R hn ⟨by omega, by omega⟩ ⟨by omega, by omega⟩ ⟨by omega, by omega⟩, some_bind]
    dsimp only
    rw [if_neg (fun w => (bI_0.mp w) ⟨⟨⟨by omega, x0⟩, by omega, y0⟩, by omega, l0⟩), a1, some_bind, a3, some_bind]
    dsimp only
    rw [a6, some_bind]
  have s0 : sc C (wI C mo 0 0) := sc_I (by unfold msv; omega)
  obtain ⟨x', y', l', f', g', m', u', v', e3⟩ := a7.1
  have scx : sc C (frW X3 x' y' l' f' g' m' u' v') := sc_tr (sc_tr s0 a7.2.1) frW_sc
  rw [hd, e3]
  rcases a8 with ⟨q1, q2⟩ | ⟨s, q1, q2, q3, q4⟩
  · rw [if_pos (by rw [q1])]
    exact ⟨-1, _, rfl, scx, Or.inl ⟨rfl, q2⟩⟩
  · have sh : (frW X3 x' y' l' f' g' m' u' v').2.2.2.1 (mo + 10) (6 * (q : Int) + 3) = (S : Int) := by
      rw [sc_r scx (by omega), vr_s R (by omega) i8 (by omega) (by omega)]
      exact eS
    rw [if_neg (fun w => by rw [iI_eq (by omega) (by omega) (by omega) (by omega)] at w; omega), g9_21 rm.1, some_bind, iI_mul, iI_add, aI_ok (mk10 rm) (by omega) (by omega) (by omega), some_bind, sh, iI_sub]
    exact ⟨_, _, rfl, scx, Or.inr ⟨s, by omega, q3, q4⟩⟩
end LST
