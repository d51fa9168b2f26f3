/-! smoke, kites: both answer alike -/
section OS
variable {E : Ev} {B : Bk} {n : Nat}
theorem tB_sf : tB B (B.1 mo 26) (B.1 mo 27) = B := by
  refine Prod.ext ?_ rfl
  funext e j
  show (if e = mo ∧ j = 27 then B.1 mo 27 else if e = mo ∧ j = 26 then B.1 mo 26 else B.1 e j) = _
  by_cases q : e = mo ∧ j = 27
  · rw [if_pos q, q.1, q.2]
  · rw [if_neg q]
    by_cases q2 : e = mo ∧ j = 26
    · rw [if_pos q2, q2.1, q2.2]
    · rw [if_neg q2]
theorem s5_at {d : Nat} {i : Int} (h : KD E d 5 3) (h2 : KD E (d + 1) 21 60) (i0 : 0 ≤ i) (i1 : i < 60) : fX5_at (E.1 + d) (iI i) (St E B) = some (iI (nvJ B (d + 1) i), St E B) := by
  have g0 : gR (St E B) (E.1 + d) 5 0 = some (E.1 + (d + 1)) := g5_0 h
  simp (disch := omega) only [fX5_at, c5 h, some_bind, g0, aL_ok h2, (nvJ_j (B := B) (d := d + 1) (i := i)).1, toI32_j]
/-- what a row of k bounds at the end changes nothing of -/
theorem gr_all {B0 : Bk} {t : Nat × Nat} (R : RV E B n) (h20 : 20 ≤ n) (hn : n < 50) (K : RK E B) (S : RS B) (hc : 84 ≤ E.2.2.2.1) (e1 : B0.1 = B.1) (e2 : B0.2.1 = B.2.1) (e3 : B0.2.2.1 = B.2.2.1) (e4 : ∀ d, d ≠ E.2.2.2.1 → B0.2.2.2.1 d = B.2.2.2.1 d) (e5 : B0.2.2.2.2 = B.2.2.2.2) : RV (Eg E t) B0 n ∧ RK (Eg E t) B0 ∧ RS B0 ∧ scG E.2.2.2.1 B B0 := by
  have hmo : mo = 58 := rfl
  have hco : co = 0 := rfl
  refine ⟨?_, ?_, ?_, ?_⟩
  · refine rv_to h20 (RV_x Ex_g R) (by rw [e3]; exact R.1.2.1) (fun j => by rw [e1]) (fun k z k0 k1 => by rw [e4 k (by omega)]) (by rw [e4 _ (by omega)]) (fun z _ _ => by rw [e4 _ (by omega)]) (fun z _ _ => by rw [e4 _ (by omega)]) (fun z _ _ => by rw [e4 _ (by omega)]) (fun z _ _ => by rw [e4 _ (by omega)]) (fun z _ _ => by rw [e4 _ (by omega)]) (fun z _ _ => by rw [e4 _ (by omega)])
  · have := RK_x (E' := Eg E t) Ex_g K
    unfold RK at *
    rw [e3]
    exact this
  · intro k hk
    have := S k hk
    unfold RW at *
    rw [e1, e4 (mo + 1) (by omega), e4 (mo + 2) (by omega), e5]
    exact this
  · exact ⟨fun d j _ _ => by rw [e1], fun d j _ _ => by rw [e2], fun d j _ => by rw [e3], fun d z hd _ => by rw [e4 d (by omega)], fun d z _ _ => by rw [e5]⟩
/-- a slot without a row, no slot, no valley: the reference's answer -/
theorem m_why0 {z k : Int} (R : RV E B n) (hz : i32 z) (kk : k = 2 ∨ k = 5) : (¬ (0 ≤ z ∧ z ≤ 3) ∨ ¬ 0 < B.1 n 0 → fX9_whyNotRow (E.1 + mo) (iI z) (iI k) (St E B) = some (iI (-2), St E B)) ∧ (0 ≤ z ∧ z ≤ 3 → 0 < B.1 n 0 → B.2.2.2.1 (mo + 1) z = -1 → fX9_whyNotRow (E.1 + mo) (iI z) (iI k) (St E B) = some (iI (-6), St E B)) := by
  have mw := rv_mw R
  have R1 := R
  obtain ⟨⟨rc, rn, rk, rm⟩, rw1, -⟩ := R
  have l0 : 0 < B.2.2.2.1 (mo + 6) 0 ↔ 0 < B.1 n 0 := by rw [vr_l R1]
  refine ⟨fun q => ?_, fun q1 q2 q3 => ?_⟩
  · simp only [fX9_whyNotRow, fX9_whyNotRow_b14, c9 rm.1, some_bind, m_isSlot hz, m_isValley rm mw, iI_0, ib]
    by_cases c1 : 0 ≤ z ∧ z ≤ 3
    · rw [if_pos c1, if_neg (by rw [l0]; rcases q with q | q; exact absurd c1 q; exact q)]
    · rw [if_neg c1]
  · simp (disch := omega) only [fX9_whyNotRow, c9 rm.1, some_bind, m_isSlot hz, m_isValley rm mw, iI_0, ib, g9_1 rm.1, aI_ok (mk1 rm), q3]
    rw [if_pos q1, if_pos (l0.mpr q2), if_pos trivial]
theorem m_sm5 {z : Int} {v : Int32} {X : Hp} (rm : mKd E mo) (h : fX9_whyNotRow (E.1 + mo) (iI z) (iI 5) (St E (wI B mo 0 0)) = some (v, X)) : fX9_smoke (E.1 + mo) (iI z) (St E B) = if v = 0 then (iter (fX9_layersBy_l19 (E.1 + mo) (iI z) (iI 5)) FU ((iI 0), (iI 0), X)).bind fun r15 => some (r15.1, r15.2) else some (v, X) := by
  simp only [fX9_smoke, fX9_layersBy, c9 rm.1, p9_0 rm.1, some_bind, h]
  generalize iter (fX9_layersBy_l19 (E.1 + mo) (iI z) (iI 5)) FU ((iI 0), (iI 0), X) = o
  by_cases q : v = 0
  · rw [if_pos q]
    cases o <;> rfl
  · rw [if_neg q]
    rfl
theorem m_sm2 {z : Int} {v : Int32} {X : Hp} (rm : mKd E mo) (h : fX9_whyNotRow (E.1 + mo) (iI z) (iI 2) (St E (wI B mo 0 0)) = some (v, X)) : fX9_kites (E.1 + mo) (iI z) (St E B) = if v = 0 then (iter (fX9_layersBy_l19 (E.1 + mo) (iI z) (iI 2)) FU ((iI 0), (iI 0), X)).bind fun r15 => some (r15.1, r15.2) else some (v, X) := by
  simp only [fX9_kites, fX9_layersBy, c9 rm.1, p9_0 rm.1, some_bind, h]
  generalize iter (fX9_layersBy_l19 (E.1 + mo) (iI z) (iI 2)) FU ((iI 0), (iI 0), X) = o
  by_cases q : v = 0
  · rw [if_pos q]
    cases o <;> rfl
  · rw [if_neg q]
    rfl
/-- five numbers of a group, as they stand in the reference's row -/
def five (N : Int → Int) (B : Bk) (z : Int) (g : Nat) : Prop := ∀ k : Int, 0 ≤ k → k ≤ 4 → B.2.2.2.2 (mo + 3) (60 * z + 5 * (g : Int) + k) = jI (N (5 * (g : Int) + k))
def okS (B : Bk) (n : Nat) (N : Int → Int) (g l : Nat) : Bool := decide (crX (B.1 n 1) (B.1 n 2) (N (5 * (g : Int) + 2) * 8 + N (5 * (g : Int) + 1)) (B.2.2.2.1 (n + 1) ((l : Int) * 24 + N (5 * (g : Int)))) = N (5 * (g : Int) + 4) * 8 + N (5 * (g : Int) + 3))
theorem m_so5 {z p q : Int} {g l : Nat} {N : Int → Int} (R : RV E B n) (hn : n < 50) (z0 : 0 ≤ z ∧ z ≤ 3) (hg : 5 * (g : Int) + 5 ≤ 60) (hl : (l : Int) < B.1 n 3) (F5 : five N B z g) (a0 : 0 ≤ N (5 * (g : Int)) ∧ N (5 * (g : Int)) < B.1 n 4) (a1 : 0 ≤ N (5 * (g : Int) + 1) ∧ N (5 * (g : Int) + 1) < B.1 n 1) (a2 : 0 ≤ N (5 * (g : Int) + 2) ∧ N (5 * (g : Int) + 2) < B.1 n 2) (a3 : 0 ≤ N (5 * (g : Int) + 3) ∧ N (5 * (g : Int) + 3) < B.1 n 1) (a4 : 0 ≤ N (5 * (g : Int) + 4) ∧ N (5 * (g : Int) + 4) < B.1 n 2) : ∃ p' q', fX9_isSo (E.1 + mo) (iI (60 * z + 5 * (g : Int))) (iI 5) (iI l) (St E (tB B p q)) = some (iI (if okS B n N g l then 1 else 0), St E (tB B p' q')) := by
  have hmo : mo = 58 := rfl
  have R1 := R
  obtain ⟨⟨rc, rn, rk, rm⟩, rw1, -, rb⟩ := R
  have w1 := rw1.2.1
  have w2 := rw1.2.2.1
  have jv : ∀ (X : Bk) (k : Int), X.2 = B.2 → 0 ≤ k → k ≤ 4 → aL (St E X) (E.1 + (mo + 3)) (iI (60 * z + 5 * (g : Int) + k)) = some (jI (N (5 * (g : Int) + k))) := fun X k hX k0 k1 => by
    rw [aL_ok (mk3 rm) (by omega) (by omega) (by omega), hX, F5 k k0 k1]
  have j0' : aL (St E (tB B p q)) (E.1 + (mo + 3)) (iI (60 * z + 5 * (g : Int))) = some (jI (N (5 * (g : Int)))) := by
    have := jv (tB B p q) 0 rfl (by omega) (by omega)
    rw [Int.add_zero, Int.add_zero] at this
    exact this
  have dk : drK B n (N (5 * (g : Int))) 1 = 1 := by
    unfold drK
    omega
  have dr1 : dr B n (l : Int) (N (5 * (g : Int) + 2) * 8 + N (5 * (g : Int) + 1)) (N (5 * (g : Int))) 1 = crX (B.1 n 1) (B.1 n 2) (N (5 * (g : Int) + 2) * 8 + N (5 * (g : Int) + 1)) (B.2.2.2.1 (n + 1) ((l : Int) * 24 + N (5 * (g : Int)))) := by
    show crX (B.1 n 1) (B.1 n 2) _ (B.2.2.2.1 (n + 1) ((l : Int) * 24 + (N (5 * (g : Int)) + ((0 : Nat) : Int)))) = _
    rw [show N (5 * (g : Int)) + ((0 : Nat) : Int) = N (5 * (g : Int)) by omega]
    rfl
  have dd := m_driftOf (a := p) (b := q) R1 hn a1.1 a1.2 a2.1 a2.2 (show 0 ≤ (l : Int) by omega) hl a0.1 a0.2 (show (0 : Int) ≤ 1 by omega) (by omega)
  rw [dk, dr1] at dd
  obtain ⟨v, hv⟩ : ∃ v, v = crX (B.1 n 1) (B.1 n 2) (N (5 * (g : Int) + 2) * 8 + N (5 * (g : Int) + 1)) (B.2.2.2.1 (n + 1) ((l : Int) * 24 + N (5 * (g : Int)))) := ⟨_, rfl⟩
  have ci := crX_in (w := B.2.2.2.1 (n + 1) ((l : Int) * 24 + N (5 * (g : Int)))) (cOK_xy a1.1 a1.2 a2.1 a2.2 (by omega)) (by omega)
  rw [← hv] at dd ci
  obtain ⟨ci1, ci2, ci3⟩ := ci
  have okv : (okS B n N g l = true) ↔ v = N (5 * (g : Int) + 4) * 8 + N (5 * (g : Int) + 3) := by
    unfold okS
    simp only [decide_eq_true_eq]
    rw [← hv]
  have eqv : (100 * (v % 8) + v / 8 = 100 * N (5 * (g : Int) + 3) + N (5 * (g : Int) + 4)) ↔ v = N (5 * (g : Int) + 4) * 8 + N (5 * (g : Int) + 3) := by omega
  refine ⟨v % 8, v / 8, ?_⟩
  simp (disch := omega) only [fX9_isSo, c9 rm.1, some_bind, g9_3 rm.1, j0', toI32_j, lt_, iI_eq, iI_add, jv _ _ (show (tB B p q).2 = B.2 from rfl), dd, jv _ _ (show (tC B v).2 = B.2 from rfl), jI_i, jI_100, jI_mul, jI_add, lg_0, iI_0, jI_eq, eqv]
  by_cases oq : okS B n N g l = true
  · rw [if_pos oq, if_neg (by omega), if_pos (okv.mp oq)]
    rfl
  · rw [if_neg oq, if_neg (by omega), if_neg (fun y => oq (okv.mpr y))]
    rfl
/-- the class's loop over groups of five -/
theorem s_sm5i {d : Nat} {N : Int → Int} {g : Nat} (R : RV E B n) (a0 : 0 ≤ N (5 * (g : Int)) ∧ N (5 * (g : Int)) < B.1 n 4) (a1 : 0 ≤ N (5 * (g : Int) + 1) ∧ N (5 * (g : Int) + 1) < B.1 n 1) (a2 : 0 ≤ N (5 * (g : Int) + 2) ∧ N (5 * (g : Int) + 2) < B.1 n 2) (a3 : 0 ≤ N (5 * (g : Int) + 3) ∧ N (5 * (g : Int) + 3) < B.1 n 1) (a4 : 0 ≤ N (5 * (g : Int) + 4) ∧ N (5 * (g : Int) + 4) < B.1 n 2) (at0 : fX5_at (E.1 + d) (iI (5 * (g : Int))) (St E B) = some (iI (N (5 * (g : Int))), St E B)) (j : Nat) (x : Int32) (hj : (j : Int) < B.1 n 3) : fX8_smoke_l152 (E.1 + co) (E.1 + d) (iI (5 * (g : Int))) (iI (N (5 * (g : Int) + 2) * 8 + N (5 * (g : Int) + 1))) (iI (N (5 * (g : Int) + 4) * 8 + N (5 * (g : Int) + 3))) (x, iI j, St E B) = some (.inl (if okS B n N g j then x else x &&& (ish (iI 1) (iI j) ^^^ iI (-1)), iI ((j : Int) + 1), St E B)) := by
  obtain ⟨⟨rc, rn, rk, rm⟩, rw1, -, rb⟩ := R
  have hw := rw1
  obtain ⟨w0, w1, w2, w3, w4, w5, w6, w7, w8, w9⟩ := hw
  have wj := rb.2.2.2.1 j (N (5 * (g : Int))) (by omega) hj a0.1 a0.2
  have ci := crX_in (w := B.2.2.2.1 (n + 1) ((j : Int) * 24 + N (5 * (g : Int)))) (cOK_xy a1.1 a1.2 a2.1 a2.2 (by omega)) (by omega)
  obtain ⟨ci1, ci2, ci3⟩ := ci
  simp (disch := omega) only [fX8_smoke_l152, fX8_smoke_b205, g8_7 rc rn, some_bind, g6_3 rk.1, iI_le, at0, s_windAt rk, s_carried rk rw1, iI_eq, lt_, iI_add]
  rw [if_neg (by omega)]
  by_cases q : crX (B.1 n 1) (B.1 n 2) (N (5 * (g : Int) + 2) * 8 + N (5 * (g : Int) + 1)) (B.2.2.2.1 (n + 1) ((j : Int) * 24 + N (5 * (g : Int)))) = N (5 * (g : Int) + 4) * 8 + N (5 * (g : Int) + 3)
  · have : okS B n N g j = true := decide_eq_true q
    rw [if_pos q, if_pos this]
  · have : ¬ okS B n N g j = true := by unfold okS; simp only [decide_eq_true_eq]; exact q
    rw [if_neg q, if_neg this]
theorem s_sm5o {d : Nat} {N : Int → Int} {g : Nat} {b' : Nat → Bool} (R : RV E B n) (k1' : KD E d 5 3) (b : 0 ≤ B.1 d 1 ∧ B.1 d 1 ≤ 60) (hg : 5 * (g : Int) + 5 ≤ B.1 d 1) (at' : ∀ i : Int, 0 ≤ i → i < B.1 d 1 → fX5_at (E.1 + d) (iI i) (St E B) = some (iI (N i), St E B)) (a0 : 0 ≤ N (5 * (g : Int)) ∧ N (5 * (g : Int)) < B.1 n 4) (a1 : 0 ≤ N (5 * (g : Int) + 1) ∧ N (5 * (g : Int) + 1) < B.1 n 1) (a2 : 0 ≤ N (5 * (g : Int) + 2) ∧ N (5 * (g : Int) + 2) < B.1 n 2) (a3 : 0 ≤ N (5 * (g : Int) + 3) ∧ N (5 * (g : Int) + 3) < B.1 n 1) (a4 : 0 ≤ N (5 * (g : Int) + 4) ∧ N (5 * (g : Int) + 4) < B.1 n 2) : iter (fX8_smoke_l152 (E.1 + co) (E.1 + d) (iI (5 * (g : Int))) (iI (N (5 * (g : Int) + 2) * 8 + N (5 * (g : Int) + 1))) (iI (N (5 * (g : Int) + 4) * 8 + N (5 * (g : Int) + 3)))) FU (mkL b' (B.1 n 3).toNat, iI 0, St E B) = some (mkL (fun l => b' l && okS B n N g l) (B.1 n 3).toNat, St E B) := by
  have R1 := R
  obtain ⟨⟨rc, rn, rk, rm⟩, rw1, -, rb⟩ := R
  have w3 := rw1.2.2.2.1
  refine off_lp (by omega) (okS B n N g) (fun j x hj => s_sm5i R1 a0 a1 a2 a3 a4 (at' _ (by omega) (by omega)) j x (by omega)) (fun x => ?_) b'
  simp (disch := omega) only [fX8_smoke_l152, g8_7 rc rn, some_bind, g6_3 rk.1, iI_le]
  rw [if_pos (by omega)]
theorem s_sm5s {d : Nat} {N : Int → Int} {g : Nat} {b' : Nat → Bool} (R : RV E B n) (k1' : KD E d 5 3) (b : 0 ≤ B.1 d 1 ∧ B.1 d 1 ≤ 60) (hg : 5 * (g : Int) + 5 ≤ B.1 d 1) (at' : ∀ i : Int, 0 ≤ i → i < B.1 d 1 → fX5_at (E.1 + d) (iI i) (St E B) = some (iI (N i), St E B)) (a0 : 0 ≤ N (5 * (g : Int)) ∧ N (5 * (g : Int)) < B.1 n 4) (a1 : 0 ≤ N (5 * (g : Int) + 1) ∧ N (5 * (g : Int) + 1) < B.1 n 1) (a2 : 0 ≤ N (5 * (g : Int) + 2) ∧ N (5 * (g : Int) + 2) < B.1 n 2) (a3 : 0 ≤ N (5 * (g : Int) + 3) ∧ N (5 * (g : Int) + 3) < B.1 n 1) (a4 : 0 ≤ N (5 * (g : Int) + 4) ∧ N (5 * (g : Int) + 4) < B.1 n 2) : fX8_smoke_l91 (E.1 + co) (E.1 + d) (mkL b' (B.1 n 3).toNat, iI (5 * (g : Int)), St E B) = some (.inl (mkL (fun l => b' l && okS B n N g l) (B.1 n 3).toNat, iI (5 * ((g : Int) + 1)), St E B)) := by
  have inr := s_sm5o (b' := b') R k1' b hg at' a0 a1 a2 a3 a4
  unfold fX8_smoke_l91
  rw [g5_1 k1', some_bind, if_neg (by rw [iI_add, iI_lt (by omega) (by omega) (by omega) (by omega)]; omega), iI_add, iI_add, iI_add, iI_add, at' _ (by omega) (by omega), some_bind, at' _ (by omega) (by omega), some_bind, s_columnOf, some_bind, at' _ (by omega) (by omega), some_bind, at' _ (by omega) (by omega), some_bind, s_columnOf, some_bind, inr, some_bind, iI_add, show 5 * (g : Int) + 5 = 5 * ((g : Int) + 1) by omega]
theorem s_sm5 {d : Nat} {N : Int → Int} (R : RV E B n) (k1' : KD E d 5 3) (b : 0 ≤ B.1 d 1 ∧ B.1 d 1 ≤ 60) (m5 : B.1 d 1 % 5 = 0) (at' : ∀ i : Int, 0 ≤ i → i < B.1 d 1 → fX5_at (E.1 + d) (iI i) (St E B) = some (iI (N i), St E B)) (gg : ∀ g : Int, 0 ≤ g → g < B.1 d 1 / 5 → (0 ≤ N (5 * g) ∧ N (5 * g) < B.1 n 4) ∧ ((0 ≤ N (5 * g + 1) ∧ N (5 * g + 1) < B.1 n 1) ∧ (0 ≤ N (5 * g + 2) ∧ N (5 * g + 2) < B.1 n 2)) ∧ ((0 ≤ N (5 * g + 3) ∧ N (5 * g + 3) < B.1 n 1) ∧ (0 ≤ N (5 * g + 4) ∧ N (5 * g + 4) < B.1 n 2))) : iter (fX8_smoke_l91 (E.1 + co) (E.1 + d)) FU (mkL (fun _ => true) (B.1 n 3).toNat, iI 0, St E B) = some (mkL (fun l => al_ (okS B n N) l (B.1 d 1 / 5).toNat) (B.1 n 3).toNat, St E B) := by
  refine grp_lp (k := 5) (by omega) (okS B n N) (fun g b' hg => ?_) (fun x => ?_)
  · obtain ⟨a0, ⟨a1, a2⟩, a3, a4⟩ := gg g (by omega) (by omega)
    exact s_sm5s R k1' b (by omega) at' a0 a1 a2 a3 a4
  · unfold fX8_smoke_l91
    rw [g5_1 k1', some_bind, if_pos (by rw [iI_add, iI_lt (by omega) (by omega) (by omega) (by omega)]; omega)]
theorem o_smoke {z : Int} (R : RV E B n) (h20 : 20 ≤ n) (hn : n < 50) (K : RK E B) (S : RS B) (hc : 84 ≤ E.2.2.2.1) (hz : i32 z) : QG E B 1 5 (fX8_smoke (E.1 + co) (iI z)) (fX9_smoke (E.1 + mo) (iI z)) := by
  have hmo : mo = 58 := rfl
  have hco : co = 0 := rfl
  obtain ⟨c, hcc⟩ : ∃ c, c = E.2.2.2.1 := ⟨_, rfl⟩
  obtain ⟨E', hE⟩ : ∃ E', E' = Eg E (20, 5) := ⟨_, rfl⟩
  obtain ⟨B0, hB⟩ : ∃ B0, B0 = wA (wA (wA (wA (wA (zA B c) c 0 (B.1 n 4)) c 1 (B.1 n 1)) c 2 (B.1 n 2)) c 3 (B.1 n 1)) c 4 (B.1 n 2) := ⟨_, rfl⟩
  have f4 : ∀ d, d ≠ E.2.2.2.1 → B0.2.2.2.1 d = B.2.2.2.1 d := fun d hd => by
    rw [hB, wA_r (by omega), wA_r (by omega), wA_r (by omega), wA_r (by omega), wA_r (by omega), zA_4 (by omega)]
  obtain ⟨R', K', S', G'⟩ := gr_all (B0 := B0) (t := (20, 5)) R h20 hn K S hc (by rw [hB]; rfl) (by rw [hB]; rfl) (by rw [hB]; rfl) f4 (by rw [hB]; rfl)
  rw [← hE] at R' K'
  have b1 : B0.1 = B.1 := by rw [hB]; rfl
  have r0 : B0.2.2.2.1 c 0 = B.1 n 4 := by rw [hB]; simp [wA_4]
  have r1 : B0.2.2.2.1 c 1 = B.1 n 1 := by rw [hB]; simp [wA_4]
  have r2 : B0.2.2.2.1 c 2 = B.1 n 2 := by rw [hB]; simp [wA_4]
  have r3 : B0.2.2.2.1 c 3 = B.1 n 1 := by rw [hB]; simp [wA_4]
  have r4 : B0.2.2.2.1 c 4 = B.1 n 2 := by rw [hB]; simp [wA_4]
  have kc : KD E' c 20 5 := by rw [hE, hcc]; exact KD_n
  have ex : Ex E E' := by rw [hE]; exact Ex_g
  have e1 : E'.1 = E.1 := ex.1
  have mkE : mkA (St E B) 20 (iI 5) (.int 0) = some (St E' (zA B c)) := by rw [hE, hcc]; exact mkA_i (k := 5) (by omega)
  have hs : (St E B).1 = E'.1 + c := by rw [hcc, e1]; rfl
  have R1 := R'
  obtain ⟨⟨rc, rn, rk, rm⟩, rw1, -, rb⟩ := R'
  have hw := rw1
  obtain ⟨w0, w1, w2, w3, w4, w5, w6, w7, w8, w9⟩ := hw
  have rnz : (B.2.2.1 co 7) = some n := R.1.2.1
  have head : fX8_smoke (E.1 + co) (iI z) (St E B) = (fX8_rowRefusal (E'.1 + co) (iI z) (E'.1 + c) (St E' B0)).bind fun r17 => if r17.1 = 0 then ((gR r17.2 (E'.1 + co) 8 6).bind fun v19 => (aR r17.2 25 v19 (iI z)).bind fun v20 => (gR r17.2 (E'.1 + co) 8 7).bind fun v21 => (gI r17.2 v21 6 3).bind fun v22 => lt_ ((ish (iI 1) v22) - (iI 1)) fun z23 => (iter (fX8_smoke_l91 (E'.1 + co) v20) FU (z23, (iI 0), r17.2)).bind fun r43 => some (r43.1, r43.2)) else (some (r17.1, r17.2)) := by
    have g7 : ∀ X : Bk, X.2.2.1 = B.2.2.1 → gR (St E' X) (E'.1 + co) 8 7 = some (E'.1 + n) := fun X hX => g8_7 rc (by rw [hX]; exact rnz)
    have cE : ck (St E B) (E.1 + co) 8 = some () := c8 R.1.1
    unfold fX8_smoke
    rw [cE, some_bind, mkE, some_bind, hs, ← e1]
    simp (disch := omega) only [g7 (zA B c) rfl, g7 (wA (zA B c) c 0 (B.1 n 4)) rfl, g7 (wA (wA (zA B c) c 0 (B.1 n 4)) c 1 (B.1 n 1)) rfl, g7 (wA (wA (wA (zA B c) c 0 (B.1 n 4)) c 1 (B.1 n 1)) c 2 (B.1 n 2)) rfl, g7 (wA (wA (wA (wA (zA B c) c 0 (B.1 n 4)) c 1 (B.1 n 1)) c 2 (B.1 n 2)) c 3 (B.1 n 1)) rfl, some_bind, g6_4 rk.1, g6_1 rk.1, g6_2 rk.1, wA_1, show (zA B c).1 = B.1 from rfl, sI_ok kc]
    rw [← hB]
  obtain ⟨y1, y2, y3⟩ := s8_refusal (z := z) (c := c) (k := 5) R1 (by omega) K' S' hz kc (by omega) (by omega) (fun j j0 j1 => by
    rcases (show j = 0 ∨ j = 1 ∨ j = 2 ∨ j = 3 ∨ j = 4 by omega) with rfl | rfl | rfl | rfl | rfl
    · rw [r0]; rw [b1] at w4; omega
    · rw [r1]; rw [b1] at w1; omega
    · rw [r2]; rw [b1] at w2; omega
    · rw [r3]; rw [b1] at w1; omega
    · rw [r4]; rw [b1] at w2; omega)
  have R0 := rv_0 R1 (by omega)
  have m9 := fun v X => m_sm5 (E := E') (B := B0) (z := z) (v := v) (X := X) rm
  obtain ⟨u1, u2⟩ := m_why0 (z := z) (k := 5) R0 hz (Or.inr rfl)
  have en : ∀ j, (wI B0 mo 0 0).1 n j = B0.1 n j := fun j => by rw [wI_1, if_neg (by omega)]
  rw [en] at u1 u2
  have scw : scG E.2.2.2.1 B (wI B0 mo 0 0) := scG_tr G' (scG_sc (sc_I (by unfold msv; omega)))
  have n2 : ¬ iI (-2) = 0 := by decide
  have n6 : ¬ iI (-6) = 0 := by decide
  by_cases c1 : (0 ≤ z ∧ z ≤ 3) ∧ 0 < B0.1 n 0
  · obtain ⟨c1, c2⟩ := c1
    have Sz := S' z.toNat (by omega)
    have zz : ((z.toNat : Nat) : Int) = z := by omega
    rcases Sz with ⟨s1, s2⟩ | ⟨s1, s2, s3, s4, s5⟩
    · rw [zz] at s2
      refine ⟨iI (-6), E', B0, wI B0 mo 0 0, ?_, ?_, ex, by rw [hE]; exact Nat.le_refl _, by rw [hE]; exact Nat.le_refl _, scw⟩
      · rw [head, y2 c1 c2 s1, some_bind, if_neg n6]
      · rw [← e1, m9 _ _ (u2 c1 c2 s2), if_neg n6]
    · rw [zz] at s3 s4 s5
      obtain ⟨y4, y5⟩ := y3 c1 c2 s1.1
      have MRz : MR (wI B0 mo 0 0) z (B0.1 (50 + 2 * z.toNat) 1) := ⟨c1, by rw [wI_2, s3]; exact s2, by rw [wI_2, s4], s1⟩
      have Ne : ∀ i, 0 ≤ i → i < B0.1 (50 + 2 * z.toNat) 1 → nvJ (wI B0 mo 0 0) (mo + 3) (60 * z + i) = nvJ B0 (50 + 2 * z.toNat + 1) i := fun i i0 i1 => by
        unfold nvJ
        rw [wI_2, s5 i i0 i1]
      obtain ⟨v1, v2⟩ := m_why5 R0 MRz (by rw [en]; exact c2)
      rw [en, en, en] at v1 v2
      have kwe : KW B0 (50 + 2 * z.toNat) c ((5 : Nat) : Int) ↔ G5 (nvJ B0 (50 + 2 * z.toNat + 1)) (B0.1 (50 + 2 * z.toNat) 1) (B0.1 n 4) (B0.1 n 1) (B0.1 n 2) := by
        exact kw5 (by rw [b1]; exact r0) (by rw [b1]; exact r1) (by rw [b1]; exact r2) (by rw [b1]; exact r3) (by rw [b1]; exact r4)
      have ge := G5_c (h := B0.1 n 4) (w := B0.1 n 1) (d := B0.1 n 2) Ne
      by_cases gd : G5 (nvJ B0 (50 + 2 * z.toNat + 1)) (B0.1 (50 + 2 * z.toNat) 1) (B0.1 n 4) (B0.1 n 1) (B0.1 n 2)
      · have gd' := gd
        obtain ⟨g5, gg⟩ := gd'
        obtain ⟨k1', k2', k3'⟩ := K'.2.2.2 z.toNat (by omega)
        obtain ⟨N, hN⟩ : ∃ N, N = nvJ B0 (50 + 2 * z.toNat + 1) := ⟨_, rfl⟩
        rw [← hN] at gg
        have at' : ∀ i : Int, 0 ≤ i → i < B0.1 (50 + 2 * z.toNat) 1 → fX5_at (E'.1 + (50 + 2 * z.toNat)) (iI i) (St E' B0) = some (iI (N i), St E' B0) := fun i i0 i1 => by
          rw [s5_at k1' k2' i0 (by omega), hN]
        have cl := s_sm5 (N := N) R1 k1' s1 g5 at' gg
        have oke : okS (wI B0 mo 0 0) n N = okS B0 n N := by
          funext g l
          unfold okS
          rw [en, en]
          rfl
        have W := m_layers (z := z) (m := B0.1 (50 + 2 * z.toNat) 1) (k := 5) (G := (B0.1 (50 + 2 * z.toNat) 1 / 5).toNat) (p0 := (wI B0 mo 0 0).1 mo 26) (q0 := (wI B0 mo 0 0).1 mo 27) R0 hn MRz (by omega) (by omega) (okS B0 n N) (fun g l p q hg hl => by
          obtain ⟨a0, ⟨a1, a2⟩, a3, a4⟩ := gg g (by omega) (by omega)
          rw [← oke]
          refine m_so5 R0 hn c1 (by omega) hl (fun k k0 k1 => ?_) (by rw [en]; exact a0) (by rw [en]; exact a1) (by rw [en]; exact a2) (by rw [en]; exact a3) (by rw [en]; exact a4)
          rw [wI_2, show 60 * z + 5 * (g : Int) + k = 60 * z + (5 * (g : Int) + k) by omega, ← s5 (5 * (g : Int) + k) (by omega) (by omega), hN]
          exact nvJ_j.1)
        rw [tB_sf] at W
        obtain ⟨p, q, W⟩ := W
        rw [en] at W
        refine ⟨mkL (fun l => al_ (okS B0 n N) l (B0.1 (50 + 2 * z.toNat) 1 / 5).toNat) (B0.1 n 3).toNat, E', B0, tB (wI B0 mo 0 0) p q, ?_, ?_, ex, by rw [hE]; exact Nat.le_refl _, by rw [hE]; exact Nat.le_refl _, scG_tr scw (scG_sc sc_tB)⟩
        · have e6 : gR (St E' B0) (E'.1 + co) 8 6 = some (E'.1 + (co + 19)) := g8_6 rc
          have mt := mkL_t (B0.1 n 3).toNat (by omega)
          rw [show (((B0.1 n 3).toNat : Nat) : Int) = B0.1 n 3 by omega] at mt
          rw [head, y4 (kwe.mpr gd), some_bind, if_pos (show iI 0 = 0 by decide)]
          simp only [e6, some_bind, r_slot K' (C := B0) rfl c1.1 c1.2, g8_7 rc rn, g6_3 rk.1, lt_, mt, cl]
        · rw [← e1, m9 _ _ (v1 (ge.mpr gd)), if_pos (show iI 0 = 0 by decide), W]
          rfl
      · refine ⟨iI (-2), E', B0, wI B0 mo 0 0, ?_, ?_, ex, by rw [hE]; exact Nat.le_refl _, by rw [hE]; exact Nat.le_refl _, scw⟩
        · rw [head, y5 (fun y => gd (kwe.mp y)), some_bind, if_neg n2]
        · rw [← e1, m9 _ _ (v2 (fun y => gd (ge.mp y))), if_neg n2]
  · have c1' : ¬ (0 ≤ z ∧ z ≤ 3) ∨ ¬ 0 < B0.1 n 0 := by
      by_cases q : 0 ≤ z ∧ z ≤ 3
      · exact Or.inr (fun y => c1 ⟨q, y⟩)
      · exact Or.inl q
    refine ⟨iI (-2), E', B0, wI B0 mo 0 0, ?_, ?_, ex, by rw [hE]; exact Nat.le_refl _, by rw [hE]; exact Nat.le_refl _, scw⟩
    · rw [head, y1 c1', some_bind, if_neg n2]
    · rw [← e1, m9 _ _ (u1 c1'), if_neg n2]
end OS
