/-! the reference's flight: a shop's hour -/
/-- the reference's numbers, with what it is told to leave or to add, are V's -/
def MV (C : Bk) (V : Vy) : Prop :=
  (C.2.2.2.1 (mo + 7) 0 = V.1 1 ∧ C.2.2.2.1 (mo + 7) 1 = V.1 2 ∧ C.2.2.2.1 (mo + 7) 2 = V.1 3 ∧ C.2.2.2.1 (mo + 7) 3 = V.1 4 ∧ C.2.2.2.1 (mo + 7) 6 = V.1 7 ∧ C.2.2.2.1 (mo + 7) 7 = V.1 8 ∧ C.2.2.2.1 (mo + 7) 8 = V.1 9) ∧
  ((C.1 mo 33 = 0 ∧ C.2.2.2.1 (mo + 7) 4 = V.1 5) ∨ (C.1 mo 33 = 1 ∧ V.1 5 = 0)) ∧
  ((0 ≤ C.1 mo 36 ∧ C.1 mo 36 ≤ 1) ∧ V.1 6 = if C.2.2.2.1 (mo + 7) 5 + C.1 mo 36 < C.2.2.2.1 (mo + 7) 2 then C.2.2.2.1 (mo + 7) 5 + C.1 mo 36 else C.2.2.2.1 (mo + 7) 2 - 1) ∧
  (∀ l h : Int, 0 ≤ l → l < V.1 3 → 0 ≤ h → h < V.1 4 → (C.1 mo 34 = 0 ∧ C.2.2.2.1 (mo + 8) (24 * l + h) = V.2.1 l h) ∨ (C.1 mo 34 = 1 ∧ V.2.1 l h = 0)) ∧
  (∀ s k : Int, 0 ≤ s → s < V.1 8 → 0 ≤ k → k < 6 → C.2.2.2.1 (mo + 10) (6 * s + k) + (if k = 3 then C.1 mo 37 else if k = 4 then C.1 mo 38 else 0) = V.2.2.1 s k) ∧
  (∀ i k : Int, 0 ≤ i → i < V.1 9 → 0 ≤ k → k < 3 → C.2.2.2.1 (mo + 11) (3 * i + k) = V.2.2.2.1 i k) ∧
  (∀ s h : Int, 0 ≤ s → s < V.1 8 → 0 ≤ h → h < V.1 4 → C.2.2.2.1 (mo + 12) (24 * s + h) = V.2.2.2.2.1 s h) ∧
  (∀ l h : Int, 0 ≤ l → l < V.1 3 → 0 ≤ h → h < V.1 4 → (C.1 mo 35 = 0 ∧ V.2.2.2.2.2 l h = 0) ∨ (C.1 mo 35 = 1 ∧ C.2.2.2.1 (mo + 20) (24 * l + h) = V.2.2.2.2.2 l h)) ∧ mWd C mo
/-- the flight's own rows and the place (toX, toY) may change -/
def GF (B C : Bk) : Prop := (∀ d j, ¬ (d = mo ∧ (j = 26 ∨ j = 27)) → C.1 d j = B.1 d j) ∧ C.2.1 = B.2.1 ∧ C.2.2.1 = B.2.2.1 ∧ C.2.2.2.2 = B.2.2.2.2 ∧ (∀ d z, ¬ (mo + 15 ≤ d ∧ d ≤ mo + 19) → C.2.2.2.1 d z = B.2.2.2.1 d z)
theorem GF_rfl {B : Bk} : GF B B := ⟨fun _ _ _ => rfl, rfl, rfl, rfl, fun _ _ _ => rfl⟩
theorem GF_tr {A B C : Bk} (h : GF A B) (g : GF B C) : GF A C := ⟨fun d j q => (g.1 d j q).trans (h.1 d j q), g.2.1.trans h.2.1, g.2.2.1.trans h.2.2.1, g.2.2.2.1.trans h.2.2.2.1, fun d z q => (g.2.2.2.2 d z q).trans (h.2.2.2.2 d z q)⟩
theorem GF_A {B : Bk} {d : Nat} {z x : Int} (h1 : mo + 15 ≤ d) (h2 : d ≤ mo + 19) : GF B (wA B d z x) := ⟨fun _ _ _ => rfl, rfl, rfl, rfl, fun e y q => by rw [wA_4, if_neg (by omega)]⟩
theorem GF_l {B : Bk} {a : Int} {v : Int → Int} : GF B (lw B (mo + 15) a v) := ⟨fun _ _ _ => rfl, rfl, rfl, rfl, fun e y q => by rw [lw_o (by omega)]⟩
theorem GF_t {B : Bk} {c : Int} : GF B (tC B c) := ⟨fun d j q => by unfold tC tB; rw [wI_1, if_neg (fun n => q ⟨n.1, Or.inr n.2⟩), wI_1, if_neg (fun n => q ⟨n.1, Or.inl n.2⟩)], rfl, rfl, rfl, fun _ _ _ => rfl⟩
theorem GF_sc {B C : Bk} (h : GF B C) : sc B C := by
  obtain ⟨h1, h2, h3, h4, h5⟩ := h
  refine ⟨fun d j q => h1 d j (fun n => ?_), fun d j _ => by rw [h2], h3, fun d z q => h5 d z (fun n => q ?_), fun d z _ => by rw [h4]⟩
  · have := q n.1
    unfold msv at this
    omega
  · unfold mscr
    omega
theorem GF_MV {B C : Bk} {V : Vy} (h : GF B C) (hM : MV B V) : MV C V := by
  obtain ⟨h1, h2, h3, h4, h5⟩ := h
  have r6 : ∀ z, C.2.2.2.1 (mo + 6) z = B.2.2.2.1 (mo + 6) z := fun z => h5 _ z (by omega)
  have r7 : ∀ z, C.2.2.2.1 (mo + 7) z = B.2.2.2.1 (mo + 7) z := fun z => h5 _ z (by omega)
  have r8 : ∀ z, C.2.2.2.1 (mo + 8) z = B.2.2.2.1 (mo + 8) z := fun z => h5 _ z (by omega)
  have r10 : ∀ z, C.2.2.2.1 (mo + 10) z = B.2.2.2.1 (mo + 10) z := fun z => h5 _ z (by omega)
  have r11 : ∀ z, C.2.2.2.1 (mo + 11) z = B.2.2.2.1 (mo + 11) z := fun z => h5 _ z (by omega)
  have r12 : ∀ z, C.2.2.2.1 (mo + 12) z = B.2.2.2.1 (mo + 12) z := fun z => h5 _ z (by omega)
  have r20 : ∀ z, C.2.2.2.1 (mo + 20) z = B.2.2.2.1 (mo + 20) z := fun z => h5 _ z (by omega)
  have i33 := h1 mo 33 (by omega)
  have i34 := h1 mo 34 (by omega)
  have i35 := h1 mo 35 (by omega)
  have i36 := h1 mo 36 (by omega)
  have i37 := h1 mo 37 (by omega)
  have i38 := h1 mo 38 (by omega)
  unfold MV mWd at *
  simp only [r6, r7, r8, r10, r11, r12, r20, i33, i34, i35, i36, i37, i38]
  exact hM
theorem wA_wA {B : Bk} {d : Nat} {z x y : Int} : wA (wA B d z x) d z y = wA B d z y := by
  unfold wA upA
  refine Prod.ext rfl (Prod.ext rfl (Prod.ext rfl (Prod.ext ?_ rfl)))
  funext e t
  dsimp only
  by_cases q : e = d ∧ t = z
  · rw [if_pos q, if_pos q]
  · rw [if_neg q, if_neg q, if_neg q]
section RF
variable {E : Ev} {C : Bk} {V : Vy} {v w : Int → Int} {a h s : Int}
theorem m_vain {act : Int} (rm : mKd E mo) (hM : MV C V) (hi : inS V h v) (hV : VOK V) (c0 : 0 ≤ act) (c1 : act ≤ 2) : fX9_vainOf (E.1 + mo) (iI act) (iI (v 2)) (iI (v 3)) (iI (v 4)) (St E C) = some (iI (whyS (V.1 3) act v), St E C) := by
  have b3 := hV.2.2.1
  have m3 := hM.1.2.2.1
  obtain ⟨i0, i1, i2, i3, i4, i5, i6⟩ := hi
  simp (disch := omega) only [fX9_vainOf, c9 rm.1, g9_17 rm.1, some_bind, iI_0, iI_sub, aI_ok (mk7 rm), m3, iI_eq]
  unfold whyS
  repeat' split
  all_goals first | rfl | omega
theorem m_isCool (rm : mKd E mo) (hM : MV C V) (hV : VOK V) (h0 : 0 ≤ h) (h1 : h < 24) : fX9_isCool (E.1 + mo) (iI h) (St E C) = some (iI (coolV V h), St E C) := by
  have b5 := hV.2.2.2.2.1
  unfold coolV
  rcases hM.2.1 with ⟨q1, q2⟩ | ⟨q1, q2⟩
  · simp (disch := omega) only [fX9_isCool, fX9_isCool_b33, c9 rm.1, g9_33 rm.1, q1, some_bind, iI_0, iI_eq, g9_17 rm.1, aI_ok (mk7 rm), q2, iI_le, iI_add]
    rw [if_pos trivial]
    by_cases c : V.1 5 ≤ 0
    · rw [if_pos c, bI_f (by omega)]
    · have hm := Int.emod_nonneg (h + 1) (show V.1 5 ≠ 0 by omega)
      have hm2 := Int.emod_lt_of_pos (h + 1) (show 0 < V.1 5 by omega)
      rw [if_neg c]
      simp (disch := omega) only [mI_ok, some_bind, iI_eq]
      by_cases c2 : (h + 1) % V.1 5 = 0
      · rw [if_pos c2, bI_t ⟨by omega, c2⟩]
      · rw [if_neg c2, bI_f (fun q => c2 q.2)]
  · simp (disch := omega) only [fX9_isCool, fX9_isCool_b33, c9 rm.1, g9_33 rm.1, q1, some_bind, iI_0, iI_eq]
    rw [if_neg (by omega), bI_f (by omega)]
theorem m_reachOf (rm : mKd E mo) (hM : MV C V) : fX9_reachOf (E.1 + mo) (St E C) = some (iI (V.1 6), St E C) := by
  obtain ⟨m1, -, ⟨m3, m4⟩, -, -, -, -, -, mw⟩ := hM
  obtain ⟨-, -, -, w3, -, -, w6, -⟩ := mw
  simp (disch := omega) only [fX9_reachOf, c9 rm.1, g9_17 rm.1, g9_36 rm.1, some_bind, aI_ok (mk7 rm), iI_add, iI_sub, iI_le]
  rw [m4]
  by_cases q : C.2.2.2.1 (mo + 7) 5 + C.1 mo 36 < C.2.2.2.1 (mo + 7) 2
  · rw [if_neg (by omega), if_pos q]
  · rw [if_pos (by omega), if_neg q]
theorem m_doorAt {x y : Int} (rm : mKd E mo) (hM : MV C V) (hV : VOK V) (x0 : 0 ≤ x) (x1 : x < V.1 1) (y0 : 0 ≤ y) (y1 : y < V.1 2) : fX9_doorAt (E.1 + mo) (iI x) (iI y) (St E C) = some (iI (drV V (y * 8 + x)), St E C) := by
  obtain ⟨b1, b2, b3, b4, b5, b6, b7, b8, b9, bw, bs, bd, -⟩ := hV
  have m9 := hM.1.2.2.2.2.2.2
  have md := hM.2.2.2.2.2.1
  obtain ⟨l1, l2, l3, l4⟩ := lf_spec (fun i => V.2.2.2.1 i 1 * 8 + V.2.2.2.1 i 0 = y * 8 + x) (V.1 9).toNat 0
  unfold drV
  generalize lf (fun i => V.2.2.2.1 i 1 * 8 + V.2.2.2.1 i 0 = y * 8 + x) (V.1 9).toNat 0 = m at l1 l2 l3 l4 ⊢
  have step : ∀ j, 0 ≤ j → j < V.1 9 → fX9_doorAt_l2 (E.1 + mo) (iI x) (iI y) (iI j, St E C) = if V.2.2.2.1 j 1 * 8 + V.2.2.2.1 j 0 = y * 8 + x then some (.inr (.inr (iI j, St E C))) else some (.inl (iI (j + 1), St E C)) := fun j g1 g2 => by
    have d0 := md j 0 g1 g2 (by omega) (by omega)
    have d1 := md j 1 g1 g2 (by omega) (by omega)
    have db := bd j g1 g2
    rw [Int.add_zero] at d0
    simp (disch := omega) only [fX9_doorAt_l2, fX9_doorAt_b41, g9_17 rm.1, g9_22 rm.1, some_bind, aI_ok (mk7 rm), m9, iI_le, iI_mul, iI_add, aI_ok (mk11 rm), d0, d1, iI_eq]
    rw [if_neg (by omega)]
    by_cases q : V.2.2.2.1 j 0 = x
    · rw [if_pos q]
      by_cases q2 : V.2.2.2.1 j 1 = y
      · rw [if_pos q2, if_pos (by omega)]
      · rw [if_neg q2, if_neg (by omega)]
    · rw [if_neg q, if_neg (by omega)]
  simp only [fX9_doorAt, c9 rm.1, some_bind]
  by_cases hm : m < V.1 9
  · rw [if_pos hm, iter_for (S := fun j => (iI j, St E C)) 0 m (.inr (iI m, St E C)) (fun j g1 g2 => by rw [step j g1 (by omega), if_neg (l3 j g1 g2)]) (by rw [step m l1 hm, if_pos (l4 (by omega))]) l1 (FU_big (by omega))]
    rfl
  · rw [if_neg hm, iter_for (S := fun j => (iI j, St E C)) 0 m (.inl (St E C)) (fun j g1 g2 => by rw [step j g1 (by omega), if_neg (l3 j g1 g2)]) (by
      have e : m = V.1 9 := by omega
      subst e
      simp (disch := omega) only [fX9_doorAt_l2, g9_17 rm.1, some_bind, aI_ok (mk7 rm), m9, iI_le]
      rw [if_pos (by omega)]) l1 (FU_big (by omega))]
    rfl
end RF
