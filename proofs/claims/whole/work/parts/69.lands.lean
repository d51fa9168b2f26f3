/-! where a drop lies: lands; who, first, suspects -/
/-- a drop's column behind i hours of fall -/
def ldF (V : Vy) (s h : Nat) : Nat → Int := fo (fun i c => crX (V.1 1) (V.1 2) c (V.2.1 ((fsF V (h + 1)).1 s 2 - i) ((h : Int) + 1 + i))) ((fsF V (h + 1)).1 s 1 * 8 + (fsF V (h + 1)).1 s 0)
/-- hours of its fall in the valley -/
def lkF (V : Vy) (s h : Nat) : Nat := (min ((fsF V (h + 1)).1 s 2) (V.1 4 - ((h : Int) + 1))).toNat
def lndF (V : Vy) (s h : Nat) : Int := if (fsF V (h + 1)).1 s 2 ≤ V.1 4 - ((h : Int) + 1) then ldF V s h (lkF V s h) else -1
/-- as 100 x and y -/
def lxF (V : Vy) (s h : Nat) : Int := if (fsF V (h + 1)).1 s 2 ≤ V.1 4 - ((h : Int) + 1) then 100 * (ldF V s h (lkF V s h) % 8) + ldF V s h (lkF V s h) / 8 else -1
def drpF (V : Vy) (s h : Nat) (c : Int) : Prop := 0 < (fsF V (h + 1)).1 s 2 ∧ lndF V s h = c
section LD
variable {E : Ev} {B C : Bk} {n m : Nat} {V : Vy}
theorem ldF_in (hV : VOK V) {s h : Nat} (s1 : (s : Int) < V.1 8) : ∀ i, cOK (V.1 1) (V.1 2) (ldF V s h i) := by
  intro i
  induction i with
  | zero =>
    obtain ⟨a0, a1, -⟩ := fsF_in hV (h := h + 1) (s := (s : Int)) (by omega) s1
    exact cOK_xy a0.1 a0.2 a1.1 a1.2 hV.1.2
  | succ i ih => exact crX_in ih hV.1.2
theorem lndF_b (hV : VOK V) {s h : Nat} (s1 : (s : Int) < V.1 8) : -1 ≤ lndF V s h ∧ lndF V s h < 64 := by
  have := cOK_64 (ldF_in hV (h := h) s1 (lkF V s h)) hV.1.2 hV.2.1.2
  unfold lndF
  split <;> omega
theorem lxF_c (hV : VOK V) {s h : Nat} (s1 : (s : Int) < V.1 8) {x y : Int} (x0 : 0 ≤ x) (x1 : x < 8) (y0 : 0 ≤ y) (y1 : y < 8) : lxF V s h = 100 * x + y ↔ lndF V s h = y * 8 + x := by
  have := cOK_64 (ldF_in hV (h := h) s1 (lkF V s h)) hV.1.2 hV.2.1.2
  unfold lxF lndF
  by_cases q : (fsF V (h + 1)).1 s 2 ≤ V.1 4 - ((h : Int) + 1)
  · rw [if_pos q, if_pos q]
    constructor <;> intro w <;> omega
  · rw [if_neg q, if_neg q]
    constructor <;> intro w <;> omega
theorem s8_landing {s h : Nat} (FC : FB E C n m) (hV : VOK (vyN C n)) (I : FP C 3 (vyN C n) 0 (C.1 n 4).toNat) (s1 : (s : Int) < C.1 n 8) (h1 : (h : Int) < C.1 n 4) : fX8_landing (E.1 + co) (E.1 + 3) (iI s) (iI h) (St E C) = some (iI (lndF (vyN C n) s h), St E C) := by
  have rc := FC.1.1.1
  have rn := FC.1.1.2.1
  have rk := FC.1.1.2.2.1
  have rw1 := FC.1.2.1
  have w1 := FC.1.2.1.2.1
  have w2 := FC.1.2.1.2.2.1
  have w3 := FC.1.2.1.2.2.2.1
  have w4 := FC.1.2.1.2.2.2.2.1
  have wd := FC.1.2.2.2.2.2.2.1
  obtain ⟨a0, a1, a2, -⟩ := fsF_in hV (h := h + 1) (s := (s : Int)) (by omega) s1
  have a2' : 0 ≤ (fsF (vyN C n) (h + 1)).1 s 2 ∧ (fsF (vyN C n) (h + 1)).1 s 2 < C.1 n 3 := a2
  have hK : (lkF (vyN C n) s h : Int) = min ((fsF (vyN C n) (h + 1)).1 s 2) (C.1 n 4 - ((h : Int) + 1)) := by
    show ((min ((fsF (vyN C n) (h + 1)).1 s 2) (C.1 n 4 - ((h : Int) + 1))).toNat : Int) = _
    omega
  have lp : iter (fX8_landing_l22 (E.1 + co)) FU (iI ((fsF (vyN C n) (h + 1)).1 s 1 * 8 + (fsF (vyN C n) (h + 1)).1 s 0), iI ((h : Int) + 1 + 0), iI ((fsF (vyN C n) (h + 1)).1 s 2 - 0), St E C) = some (if (fsF (vyN C n) (h + 1)).1 s 2 ≤ C.1 n 4 - ((h : Int) + 1) then .inl (iI (ldF (vyN C n) s h (lkF (vyN C n) s h)), St E C) else .inr (St E C)) := by
    refine iter_fo (fun i c => (iI c, iI ((h : Int) + 1 + i), iI ((fsF (vyN C n) (h + 1)).1 s 2 - i), St E C)) (fun i c => crX (C.1 n 1) (C.1 n 2) c ((vyN C n).2.1 ((fsF (vyN C n) (h + 1)).1 s 2 - i) ((h : Int) + 1 + i))) ((fsF (vyN C n) (h + 1)).1 s 1 * 8 + (fsF (vyN C n) (h + 1)).1 s 0) (lkF (vyN C n) s h) _ (fun _ c => cOK (C.1 n 1) (C.1 n 2) c) (ldF_in hV s1 0) (fun j x hj hx => crX_in hx w1.2) (fun j c hj hc => ?_) ?_ (N := FU) (by have := FU_big (n := (lkF (vyN C n) s h : Int)) (by omega); omega)
    · have c64 := cOK_64 hc w1.2 w2.2
      have wb := wd ((fsF (vyN C n) (h + 1)).1 s 2 - j) ((h : Int) + 1 + j) (by omega) (by omega) (by omega) (by omega)
      simp (disch := omega) only [fX8_landing_l22, iI_0, iI_le, g8_7 rc rn, some_bind, s_hasHour (z := (h : Int) + 1 + (j : Int)) ⟨by omega, by omega⟩ rk rw1, ib, s_windAt rk (show 0 ≤ (fsF (vyN C n) (h + 1)).1 s 2 - (j : Int) by omega) (show (fsF (vyN C n) (h + 1)).1 s 2 - (j : Int) < 5 by omega) (show 0 ≤ (h : Int) + 1 + (j : Int) by omega) (show (h : Int) + 1 + (j : Int) < 24 by omega), s_carried rk rw1 c64.1 c64.2 wb.1 wb.2, iI_add]
      rw [if_neg (by omega), if_pos (by omega), show (h : Int) + 1 + (j : Int) + 1 = (h : Int) + 1 + ((j : Int) + 1) by omega, show (fsF (vyN C n) (h + 1)).1 s 2 - (j : Int) + -1 = (fsF (vyN C n) (h + 1)).1 s 2 - ((j : Int) + 1) by omega]
      rfl
    · simp (disch := omega) only [fX8_landing_l22, iI_0, iI_le, g8_7 rc rn, some_bind, s_hasHour (z := (h : Int) + 1 + (lkF (vyN C n) s h : Int)) ⟨by omega, by omega⟩ rk rw1, ib]
      by_cases q : (fsF (vyN C n) (h + 1)).1 s 2 ≤ C.1 n 4 - ((h : Int) + 1)
      · rw [if_pos (by omega), if_pos q]
        rfl
      · rw [if_neg (by omega), if_neg (by omega), if_neg q]
  rw [Int.add_zero, Int.sub_zero] at lp
  simp only [fX8_landing, c8 rc, some_bind, q7_column (h := h) (s := s) FC.2.1.1 I hV s1 (by omega) (by omega) (by omega), lt_, iI_add, q7_fact (h := h) (s := s) (k := 2) FC.2.1.1 I hV s1 (by omega) (by omega) (by omega) (by omega) (by omega), lp]
  show (Sum.elim _ _ (if (fsF (vyN C n) (h + 1)).1 s 2 ≤ C.1 n 4 - ((h : Int) + 1) then _ else _)) = some (iI (if (fsF (vyN C n) (h + 1)).1 s 2 ≤ C.1 n 4 - ((h : Int) + 1) then _ else -1), St E C)
  by_cases q : (fsF (vyN C n) (h + 1)).1 s 2 ≤ C.1 n 4 - ((h : Int) + 1)
  · rw [if_pos q, if_pos q]
    rfl
  · rw [if_neg q, if_neg q]
    rfl
theorem s8_drops {s h : Nat} {c : Int} (FC : FB E C n m) (hV : VOK (vyN C n)) (I : FP C 3 (vyN C n) 0 (C.1 n 4).toNat) (s1 : (s : Int) < C.1 n 8) (h1 : (h : Int) < C.1 n 4) (hc : i32 c) : fX8_dropsTo (E.1 + co) (E.1 + 3) (iI s) (iI h) (iI c) (St E C) = some (if 0 < (fsF (vyN C n) (h + 1)).1 s 2 ∧ lndF (vyN C n) s h = c then iI 1 else iI 0, St E C) := by
  have rc := FC.1.1.1
  have w4 := FC.1.2.1.2.2.2.2.1
  have w3 := hV.2.2.1
  have a2 := (fsF_in hV (h := h + 1) (s := (s : Int)) (by omega) s1).2.2.1
  have lb := lndF_b hV (h := h) s1
  obtain ⟨k1, k2⟩ := hc
  simp (disch := omega) only [fX8_dropsTo, fX8_dropsTo_b26, c8 rc, some_bind, q7_fact (h := h) (s := s) (k := 2) FC.2.1.1 I hV s1 (by omega) (by omega) (by omega) (by omega) (by omega), iI_0, iI_le, s8_landing FC hV I s1 h1, iI_eq]
  repeat' split
  all_goals first | rfl | (exfalso; omega)
theorem m_landsOf {s h : Nat} {a b : Int} (rm : mKd E mo) (hV : VOK V) (hM : mWd C mo) (h0 : C.2.2.2.1 (mo + 7) 0 = V.1 1) (h1' : C.2.2.2.1 (mo + 7) 1 = V.1 2) (h3 : C.2.2.2.1 (mo + 7) 3 = V.1 4) (hw : ∀ l h : Int, 0 ≤ l → l < V.1 3 → 0 ≤ h → h < V.1 4 → C.2.2.2.1 (mo + 8) (24 * l + h) = V.2.1 l h) (I : FQ C V (V.1 4).toNat) (s1 : (s : Int) < V.1 8) (h1 : (h : Int) < V.1 4) : fX9_landsOf (E.1 + mo) (iI s) (iI h) (St E (tB C a b)) = some (iI (lxF V s h), St E (tC C (ldF V s h (lkF V s h)))) := by
  have hV' := hV
  obtain ⟨b1, b2, b3, b4, b5, b6, b7, b8, b9, bw, -⟩ := hV'
  obtain ⟨a0, a1, a2, -⟩ := fsF_in hV (h := h + 1) (s := (s : Int)) (by omega) s1
  have hK : (lkF V s h : Int) = min ((fsF V (h + 1)).1 s 2) (V.1 4 - ((h : Int) + 1)) := by
    unfold lkF
    omega
  have sp : ∀ (X : Bk) (k : Int), X.2 = C.2 → 0 ≤ k → k < 7 → fX9_spotOf (E.1 + mo) (iI s) (iI h) (iI k) (St E X) = some (iI ((fsF V (h + 1)).1 s k), St E X) := fun X k hX k0 k1 => by
    refine q9_spot (C := X) (H := (V.1 4).toNat) rm hV ?_ s1 (by omega) (by omega) k0 k1
    unfold FQ
    rw [hX]
    exact I
  have e0 : tB C ((fsF V (h + 1)).1 s 0) ((fsF V (h + 1)).1 s 1) = tC C ((fsF V (h + 1)).1 s 1 * 8 + (fsF V (h + 1)).1 s 0) := by
    unfold tC
    rw [show ((fsF V (h + 1)).1 s 1 * 8 + (fsF V (h + 1)).1 s 0) % 8 = (fsF V (h + 1)).1 s 0 by omega, show ((fsF V (h + 1)).1 s 1 * 8 + (fsF V (h + 1)).1 s 0) / 8 = (fsF V (h + 1)).1 s 1 by omega]
  have lp : iter (fX9_landsOf_l35 (E.1 + mo)) FU (iI ((fsF V (h + 1)).1 s 2 - 0), iI ((h : Int) + 1 + 0), St E (tC C ((fsF V (h + 1)).1 s 1 * 8 + (fsF V (h + 1)).1 s 0))) = some (iI ((fsF V (h + 1)).1 s 2 - (lkF V s h : Int)), St E (tC C (ldF V s h (lkF V s h)))) := by
    refine iter_fo (fun i c => (iI ((fsF V (h + 1)).1 s 2 - i), iI ((h : Int) + 1 + i), St E (tC C c))) (fun i c => crX (V.1 1) (V.1 2) c (V.2.1 ((fsF V (h + 1)).1 s 2 - i) ((h : Int) + 1 + i))) ((fsF V (h + 1)).1 s 1 * 8 + (fsF V (h + 1)).1 s 0) (lkF V s h) _ (fun _ c => cOK (V.1 1) (V.1 2) c) (ldF_in hV s1 0) (fun j x hj hx => crX_in hx b1.2) (fun j c hj hc => ?_) ?_ (N := FU) (by have := FU_big (n := (lkF V s h : Int)) (by omega); omega)
    · have wb := bw ((fsF V (h + 1)).1 s 2 - j) ((h : Int) + 1 + j) (by omega) (by omega) (by omega) (by omega)
      have ww := hw ((fsF V (h + 1)).1 s 2 - j) ((h : Int) + 1 + j) (by omega) (by omega) (by omega) (by omega)
      have car := m_carries (c := c) (w := V.2.1 ((fsF V (h + 1)).1 s 2 - j) ((h : Int) + 1 + j)) rm hM (by rw [h0, h1']; exact hc) wb.1 wb.2
      rw [h0, h1'] at car
      simp (disch := omega) only [fX9_landsOf_l35, iI_0, iI_le, g9_17 rm.1, some_bind, aI_ok (mk7 rm), tC_2, h3, m_windOf rm (show 0 ≤ (fsF V (h + 1)).1 s 2 - (j : Int) by omega) (show (fsF V (h + 1)).1 s 2 - (j : Int) < 5 by omega) (show 0 ≤ (h : Int) + 1 + (j : Int) by omega) (show (h : Int) + 1 + (j : Int) < 24 by omega), ww, car, iI_add]
      rw [if_neg (by omega), if_neg (by omega), show (h : Int) + 1 + (j : Int) + 1 = (h : Int) + 1 + ((j : Int) + 1) by omega, show (fsF V (h + 1)).1 s 2 - (j : Int) + -1 = (fsF V (h + 1)).1 s 2 - ((j : Int) + 1) by omega]
    · simp (disch := omega) only [fX9_landsOf_l35, iI_0, iI_le, g9_17 rm.1, some_bind, aI_ok (mk7 rm), tC_2, h3]
      by_cases q : (fsF V (h + 1)).1 s 2 ≤ V.1 4 - ((h : Int) + 1)
      · rw [if_pos (by omega)]
        rfl
      · rw [if_neg (by omega), if_pos (by omega)]
        rfl
  rw [Int.add_zero, Int.sub_zero] at lp
  simp (disch := omega) only [fX9_landsOf, fX9_landsOf_b71, c9 rm.1, some_bind, sp (tB C a b) 0 rfl (by omega) (by omega), p9_26 rm.1, sp (wI (tB C a b) mo 26 ((fsF V (h + 1)).1 s 0)) 1 rfl (by omega) (by omega), p9_27 rm.1, tB_w, e0, sp (tC C ((fsF V (h + 1)).1 s 1 * 8 + (fsF V (h + 1)).1 s 0)) 2 rfl (by omega) (by omega), lt_, iI_add, lp, iI_0, iI_le, g9_26 rm.1, g9_27 rm.1, tC_26, tC_27, iI_mul]
  unfold lxF
  by_cases q : (fsF V (h + 1)).1 s 2 ≤ V.1 4 - ((h : Int) + 1)
  · rw [if_pos (by omega), if_pos q]
  · rw [if_neg (by omega), if_neg q]
/-- what drops need of the reference -/
def LQ (E : Ev) (C : Bk) (V : Vy) : Prop := mKd E mo ∧ mWd C mo ∧ (C.2.2.2.1 (mo + 7) 0 = V.1 1 ∧ C.2.2.2.1 (mo + 7) 1 = V.1 2 ∧ C.2.2.2.1 (mo + 7) 3 = V.1 4 ∧ C.2.2.2.1 (mo + 7) 7 = V.1 8) ∧ (∀ l h : Int, 0 ≤ l → l < V.1 3 → 0 ≤ h → h < V.1 4 → C.2.2.2.1 (mo + 8) (24 * l + h) = V.2.1 l h) ∧ FQ C V (V.1 4).toNat
theorem LQ_of (FC : FB E C n m) (I : FQ C (vyN C n) (C.1 n 4).toNat) : LQ E C (vyN C n) := ⟨FC.1.1.2.2.2, rv_mw FC.1, ⟨vr_h0 FC.1, vr_h1 FC.1, vr_h3 FC.1, vr_h7 FC.1⟩, fun _ _ a b c d => vr_w FC.1 a b c d, I⟩
theorem m_dropped {s h : Nat} {a b x y : Int} (hV : VOK V) (L : LQ E C V) (s1 : (s : Int) < V.1 8) (h1 : (h : Int) < V.1 4) (x0 : 0 ≤ x) (x1 : x < 8) (y0 : 0 ≤ y) (y1 : y < 8) : ∃ p q, fX9_isDropped (E.1 + mo) (iI s) (iI h) (iI (100 * x + y)) (St E (tB C a b)) = some (if 0 < (fsF V (h + 1)).1 s 2 ∧ lndF V s h = y * 8 + x then iI 1 else iI 0, St E (tB C p q)) := by
  obtain ⟨rm, hM, ⟨g0, g1, g3, g7⟩, hw, I⟩ := L
  have a2 := (fsF_in hV (h := h + 1) (s := (s : Int)) (by omega) s1).2.2.1
  have w3 := hV.2.2.1
  have w4 := hV.2.2.2.1
  have lc := lxF_c hV (h := h) s1 x0 x1 y0 y1
  have lb : -1 ≤ lxF V s h ∧ lxF V s h < 1000 := by
    have := cOK_64 (ldF_in hV (h := h) s1 (lkF V s h)) hV.1.2 hV.2.1.2
    unfold lxF
    split <;> omega
  have sp : fX9_spotOf (E.1 + mo) (iI s) (iI h) (iI 2) (St E (tB C a b)) = some (iI ((fsF V (h + 1)).1 s 2), St E (tB C a b)) := q9_spot (C := tB C a b) (H := (V.1 4).toNat) rm hV I s1 (by omega) (by omega) (by omega) (by omega)
  have ml := m_landsOf (a := a) (b := b) rm hV hM g0 g1 g3 hw I s1 h1
  simp (disch := omega) only [fX9_isDropped, fX9_isDropped_b24, c9 rm.1, some_bind, sp, iI_0, iI_le, ml, iI_eq]
  by_cases q : (fsF V (h + 1)).1 s 2 ≤ 0
  · rw [if_pos q, if_neg (by omega)]
    exact ⟨_, _, rfl⟩
  · rw [if_neg q]
    by_cases q2 : lxF V s h = 100 * x + y
    · rw [if_pos q2, if_pos ⟨by omega, lc.mp q2⟩]
      exact ⟨_, _, rfl⟩
    · rw [if_neg q2, if_neg (fun w => q2 (lc.mpr w.2))]
      exact ⟨_, _, rfl⟩
theorem o_lands {s h : Int} (F : FB E B n m) (hs : i32 s) (hh : i32 h) : QF E B n m (fX8_lands (E.1 + co) (iI s) (iI h)) (fX9_lands (E.1 + mo) (iI s) (iI h)) := by
  have rc := F.1.1.1
  have rm := F.1.1.2.2.2
  have g1 := s8_hasShopHour F.1 hs hh
  have rf : ∀ C, FB E C n m → (∀ j, C.1 n j = B.1 n j) → fX9_lands (E.1 + mo) (iI s) (iI h) (St E C) = if (0 ≤ s ∧ s < B.1 n 8) then (if (0 ≤ h ∧ h < B.1 n 4) then (fX9_asTold (E.1 + mo) (St E (wI C mo 0 0))).bind (fun s6 => (fX9_landsOf (E.1 + mo) (iI s) (iI h) s6).bind fun r7 => some (r7.1, r7.2)) else some (iI (-2), St E (wI C mo 0 0))) else some (iI (-2), St E (wI C mo 0 0)) := fun C FC cn => by
    simp only [fX9_lands, fX9_lands_b22, c9 rm.1, p9_0 rm.1, some_bind, mg_isShop FC hs, mg_isHour FC hh, iI_0, ib, cn]
  by_cases c : (0 ≤ s ∧ s < B.1 n 8) ∧ (0 ≤ h ∧ h < B.1 n 4)
  · obtain ⟨c1, c2⟩ := c
    have hst := st_shop F c1
    have hV := rv_VOK F.1 hst
    obtain ⟨t, rfl⟩ : ∃ t : Nat, s = t := ⟨s.toNat, by omega⟩
    obtain ⟨u, rfl⟩ : ∃ u : Nat, h = u := ⟨h.toNat, by omega⟩
    have lb := lndF_b hV (h := u) c1.2
    refine QF_fl F hst (v := iI (lxF (vyN B n) t u)) (k := fun r3 => (fX8_landing (E.1 + co) r3.1 (iI t) (iI u) r3.2).bind fun r4 => if r4.1 = (iI (-1)) then (some ((iI (-1)), r4.2)) else ((fX8_hundredfold r4.1 r4.2).bind fun r6 => some (r6.1, r6.2))) (k2 := fun s6 => (fX9_landsOf (E.1 + mo) (iI t) (iI u) s6).bind fun r7 => some (r7.1, r7.2)) ?_ (fun C FC cn I _ ev => ?_) (fun C FC cn => ?_) (fun C FC cn I J ev => ?_)
    · simp only [fX8_lands, c8 rc, g1, some_bind, iI_0, ib]
      rw [if_pos ⟨c1, c2⟩]
    · have sl := s8_landing (s := t) (h := u) FC (by rw [ev]; exact hV) (by rw [ev, cn]; exact I) (by rw [cn]; exact c1.2) (by rw [cn]; exact c2.2)
      rw [ev] at sl
      simp (disch := omega) only [sl, some_bind, iI_eq]
      have c64 := cOK_64 (ldF_in hV (h := u) c1.2 (lkF (vyN B n) t u)) hV.1.2 hV.2.1.2
      unfold lndF lxF
      by_cases q : (fsF (vyN B n) (u + 1)).1 t 2 ≤ (vyN B n).1 4 - ((u : Int) + 1)
      · rw [if_pos q, if_pos q, if_neg (by omega), s8_hundredfold c64.1 c64.2, some_bind]
      · rw [if_neg q, if_neg q, if_pos rfl]
    · rw [rf C FC cn, if_pos c1, if_pos c2]
    · obtain ⟨-, hM, ⟨g0, g1, g3, -⟩, hw, I'⟩ := LQ_of FC (by rw [ev, cn]; exact I)
      rw [ev] at g0 g1 g3 hw I'
      have ml := m_landsOf (a := C.1 mo 26) (b := C.1 mo 27) rm hV hM g0 g1 g3 hw I' c1.2 c2.2
      rw [tB_self] at ml
      exact ⟨tC C (ldF (vyN B n) t u (lkF (vyN B n) t u)), by rw [ml, some_bind], sc_tB⟩
  · refine QF_no F (v := iI (-2)) ?_ ?_
    · simp only [fX8_lands, c8 rc, g1, some_bind, iI_0, ib]
      rw [if_neg c]
    · rw [rf B F (fun _ => rfl)]
      repeat' split
      all_goals first | rfl | (exfalso; omega)
end LD
