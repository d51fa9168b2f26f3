/-! worth (flown once more, with what stays: by gen77.py) -/
section WO
variable {E : Ev} {B C : Bk} {n m : Nat}
theorem s8_flown2 (F : FB E B n m) (hst : 0 < B.1 n 0) : ∃ C, fX8_flown (E.1 + co) (St E B) = some (E.1 + 3, St E C) ∧ fF m B C ∧ FB E C n m ∧ vyN C n = vyN B n ∧ FP C 3 (vyN B n) 0 (B.1 n 4).toNat ∧ C.2.2.1 3 6 = some n ∧ (∀ d j, d ≠ co → d ≠ 3 → C.1 d j = B.1 d j) ∧ (∀ d z, ¬ (3 < d ∧ d ≤ 9) → C.2.2.2.1 d z = B.2.2.2.1 d z) := by
  have hm : mo = 58 := rfl
  have hc : co = 0 := rfl
  obtain ⟨R, ⟨k1, k2, k3, k4⟩, ⟨n1, n2, m1, m2, nm⟩, P⟩ := F
  have hV := rv_VOK R hst
  have rc := R.1.1
  have rn := R.1.2.1
  have rk := R.1.2.2.1
  obtain ⟨P1, P2, P3⟩ := P
  have e3 : gR (St E B) (E.1 + co) 8 2 = some (E.1 + 3) := g8_2 rc
  by_cases q : B.1 co 11 = 0
  · obtain ⟨D, d1, d2, d3⟩ := f7_begin (B := B) (p := 3) (o := 0) (x := 0) k1 rk (by omega) hV vyN_VM ⟨by omega, by omega⟩
    have hd6 : D.2.2.1 3 6 = some n := by
      rw [d2.2.2.1]
      show (if 3 = 3 ∧ 6 = 6 then some n else B.2.2.1 3 6) = some n
      rw [if_pos ⟨rfl, rfl⟩]
    have hMs : VM (sgB B 3 n (jI 0) 0) n (vyN B n) := sg_VM vyN_VM (by omega)
    have hMD := FF_VM (F2_FF d2) hMs (by omega)
    have di : ∀ d j, ¬ (d = 3 ∧ j = 8) → D.1 d j = B.1 d j := fun d j w => by
      rw [d2.1]
      show (if d = 3 ∧ j = 8 then 0 else B.1 d j) = _
      rw [if_neg w]
    have dl : ∀ d j, ¬ (d = 3 ∧ j = 7) → D.2.1 d j = B.2.1 d j := fun d j w => by
      rw [d2.2.1]
      show (if d = 3 ∧ j = 7 then jI 0 else B.2.1 d j) = _
      rw [if_neg w]
    have dr : ∀ d j, ¬ (d = 3 ∧ j = 6) → D.2.2.1 d j = B.2.2.1 d j := fun d j w => by
      rw [d2.2.2.1]
      show (if d = 3 ∧ j = 6 then some n else B.2.2.1 d j) = _
      rw [if_neg w]
    have d8 : D.1 3 8 = 0 := by
      rw [d2.1]
      show (if 3 = 3 ∧ 8 = 8 then 0 else B.1 3 8) = (0 : Int)
      rw [if_pos ⟨rfl, rfl⟩]
    have d7 : D.2.1 3 7 = jI 0 := by
      rw [d2.2.1]
      show (if 3 = 3 ∧ 7 = 7 then jI 0 else B.2.1 3 7) = jI 0
      rw [if_pos ⟨rfl, rfl⟩]
    have d0 : D.2.2.2.1 (3 + 6) 0 = 0 := by rw [d2.2.2.2.2 _ _ (by omega) (by omega)]; exact P2.1
    obtain ⟨K, f1, f2, f3, f4, f5⟩ := f7_flyFrom (B := D) (p := 3) (d := n) (V := vyN B n) (o := 0) (gX := fun _ => 0) (a := 0) k1 hd6 rk (by omega) hV hMD (by rw [di _ _ (by omega)]; exact R.2.1.1) (by have := hV.2.2.2.1; omega) d8 (by omega) (by omega) d7 d0 (GU_0 (by omega) (by omega) (fun _ _ => rfl)) d3
    have f5' : FP K 3 (vyN B n) 0 (B.1 n 4).toNat := f5
    have kw : ∀ d j, (wI K co 11 1).1 d j = if d = co ∧ j = 11 then 1 else K.1 d j := fun d j => wI_1
    have ff : fF m B (wI K co 11 1) := by
      refine ⟨fun d j a b c e f => ?_, fun d j a b c => ?_, fun d j a b => ?_, fun d z a b c e => ?_, fun d z a => ?_⟩
      · rw [kw, if_neg (fun w => a w.1 w.2), f2.1, di _ _ (fun w => b w.1)]
      · show K.2.1 d j = _
        rw [f2.2.2.2.1 d j (fun w => a w.1), dl _ _ (fun w => a w.1)]
      · show K.2.2.1 d j = _
        rw [f2.2.1, dr _ _ a]
      · show K.2.2.2.1 d z = _
        rw [f2.2.2.2.2 d z (by omega), d2.2.2.2.2 d z (by omega) (by omega)]
        rfl
      · show K.2.2.2.2 d z = _
        rw [f2.2.2.1, d2.2.2.2.1]
        rfl
    have ev := fF_vy ff n1 n2 nm
    have k6 : (wI K co 11 1).2.2.1 3 6 = some n := by
      show K.2.2.1 3 6 = _
      rw [f2.2.1]; exact hd6
    refine ⟨wI K co 11 1, ?_, ff, ⟨fF_RV ff n1 n2 m2 nm R, ⟨k1, k2, k3, by rw [ff.2.2.1 co 8 (by omega) (by omega)]; exact k4⟩, ⟨n1, n2, m1, m2, nm⟩, Or.inr ⟨by rw [kw, if_pos ⟨rfl, rfl⟩], by rw [fF_n ff n1 n2 (by omega)]; exact hst, k6, ?_⟩, ⟨f3, 0, by omega, by omega, f4⟩, ?_⟩, ev, f5', k6, fun d j a b => by rw [kw, if_neg (fun w => a w.1), f2.1, di _ _ (fun w => b w.1)], fun d z a => by
      show K.2.2.2.1 d z = _
      rw [f2.2.2.2.2 d z (by omega), d2.2.2.2.2 d z (by omega) (by omega)]
      rfl⟩
    · have eD : gR (St E D) (E.1 + co) 8 2 = some (E.1 + 3) := g8_2 rc
      have eK : gR (St E (wI K co 11 1)) (E.1 + co) 8 2 = some (E.1 + 3) := g8_2 rc
      simp only [fX8_flown, fX8_flown_b33, c8 rc, g8_11 rc, some_bind, q, e3, g8_7 rc rn, d1, eD]
      rw [if_pos (show iI 0 = 0 from rfl), show iI 0 = iI ((0 : Nat) : Int) from rfl, f1, some_bind, p8_11 rc (Or.inr rfl), some_bind, eK, some_bind]
    · rw [ev, fF_n ff n1 n2 (by omega)]
      exact f5'
    · refine ⟨?_, ?_⟩
      · show K.2.2.2.1 (10 + 6) 0 = 0
        rw [f2.2.2.2.2 _ _ (by omega), d2.2.2.2.2 _ _ (by omega) (by omega)]
        exact P3.1
      · obtain ⟨x, x0, x1, x2⟩ := P3.2
        refine ⟨x, x0, x1, ?_⟩
        show K.2.1 10 7 = _
        rw [f2.2.2.2.1 _ _ (by omega), dl _ _ (by omega)]
        exact x2
  · rcases P1 with P1 | P1
    · exact absurd P1 q
    · refine ⟨B, ?_, fF_rfl, ⟨R, ⟨k1, k2, k3, k4⟩, ⟨n1, n2, m1, m2, nm⟩, Or.inr P1, P2, P3⟩, rfl, P1.2.2.2, P1.2.2.1, fun _ _ _ _ => rfl, fun _ _ _ => rfl⟩
      simp only [fX8_flown, fX8_flown_b33, c8 rc, g8_11 rc, some_bind, P1.1, e3]
      rw [if_neg (show ¬ iI 1 = 0 by decide)]
theorem m_moneyPlain (F : FB E B n m) (hst : 0 < B.1 n 0) : ∃ C, fX9_moneyPlain (E.1 + mo) (St E B) = some (iI (mnF (vyN B n) (B.1 n 8).toNat), St E C) ∧ sc B C := by
  have rm := F.1.1.2.2.2
  have hn : n < 58 := by have := F.2.2.1; omega
  obtain ⟨C, c1, c2, c3, c4⟩ := m_asTold F hst
  have FC := sc_FB c2 F
  have mm := m_moneyNow (C := C) (V := vyN B n) rm (rv_VOK F.1 hst) c3 (by rw [vr_h3 FC.1, sc_n c2 hn]; rfl) (by rw [vr_h7 FC.1, sc_n c2 hn]; rfl)
  refine ⟨C, ?_, c2⟩
  simp only [fX9_moneyPlain, c9 rm.1, some_bind, c1]
  rw [mm, some_bind]
  rfl
theorem MV_act {V : Vy} {s h : Nat} {a : Int} (hM : MV C V) (h1 : (h : Int) < V.1 4) (h24 : V.1 4 ≤ 24) : MV (wA C (mo + 12) (24 * (s : Int) + h) a) (vyA V s h a) := by
  obtain ⟨m1, m2, m3, m4, m5, m6, m7, m8, m9⟩ := hM
  have r : ∀ k z, k ≠ 12 → (wA C (mo + 12) (24 * (s : Int) + h) a).2.2.2.1 (mo + k) z = C.2.2.2.1 (mo + k) z := fun k z q => by rw [wA_4, if_neg (by omega)]
  refine ⟨?_, ?_, ?_, ?_, ?_, ?_, ?_, ?_, ?_⟩
  · simp only [r 7 _ (by omega)]; exact m1
  · simp only [r 7 _ (by omega)]; exact m2
  · simp only [r 7 _ (by omega)]; exact m3
  · intro l h' q1 q2 q3 q4
    rw [r 8 _ (by omega)]
    exact m4 l h' q1 q2 q3 q4
  · intro t k q1 q2 q3 q4
    rw [r 10 _ (by omega)]
    exact m5 t k q1 q2 q3 q4
  · intro i k q1 q2 q3 q4
    rw [r 11 _ (by omega)]
    exact m6 i k q1 q2 q3 q4
  · intro t h' q1 q2 q3 q4
    have q4' : h' < V.1 4 := q4
    show _ = if t = (s : Int) ∧ h' = (h : Int) then a else V.2.2.2.2.1 t h'
    rw [wA_4]
    by_cases q : t = (s : Int) ∧ h' = (h : Int)
    · rw [if_pos ⟨rfl, by omega⟩, if_pos q]
    · rw [if_neg (by omega), if_neg q]
      exact m7 t h' q1 q2 q3 q4
  · intro l h' q1 q2 q3 q4
    rw [r 20 _ (by omega)]
    exact m8 l h' q1 q2 q3 q4
  · unfold mWd at *
    simp only [r 6 _ (by omega), r 7 _ (by omega)]
    exact m9
theorem m_moneyBy {s h : Nat} {a : Int} (F : FB E B n m) (hst : 0 < B.1 n 0) (s1 : (s : Int) < B.1 n 8) (h1 : (h : Int) < B.1 n 4) (a0 : 0 ≤ a) (a1 : a ≤ 2) : ∃ C, fX9_moneyBy (E.1 + mo) (iI s) (iI h) (iI a) (St E B) = some (iI (mnF (vyA (vyN B n) s h a) (B.1 n 8).toNat), St E C) ∧ sc B C := by
  have rm := F.1.1.2.2.2
  have hn : n < 50 := F.2.2.1.2.1
  have hmo : mo = 58 := rfl
  have hV := rv_VOK F.1 hst
  have b4 : 1 ≤ B.1 n 4 ∧ B.1 n 4 ≤ 24 := hV.2.2.2.1
  have b8 : 0 ≤ B.1 n 8 ∧ B.1 n 8 ≤ 4 := hV.2.2.2.2.2.2.2.1
  have F1 := sc_FB plnM_sc F
  have ev : vyN (plnM B) n = vyN B n := vyN_eq (sc_n plnM_sc (by omega)) (fun k z _ _ => rfl)
  have hM := rv_MV F1.1 (by rw [sc_n plnM_sc (by omega)]; exact hst) (by rw [plnM_1, if_pos (by omega)]) (by rw [plnM_1, if_pos (by omega)]) (by rw [plnM_1, if_pos (by omega)]) (by rw [plnM_1, if_pos (by omega)]) (by rw [plnM_1, if_pos (by omega)]) (by rw [plnM_1, if_pos (by omega)])
  rw [ev] at hM
  have hMA := MV_act (s := s) (h := h) (a := a) hM h1 b4.2
  have hA := vyA_ok (s := s) (h := h) hV a0 a1
  have epl : plnM (wA B (mo + 12) (24 * (s : Int) + h) a) = wA (plnM B) (mo + 12) (24 * (s : Int) + h) a := rfl
  obtain ⟨C, g1, g2, g3, g4⟩ := m_goes rm hA hMA
  rw [← epl] at g1
  have cr : ∀ d z, ¬ mscr d → C.2.2.2.1 d z = (wA B (mo + 12) (24 * (s : Int) + h) a).2.2.2.1 d z := fun d z q => by
    rw [g2.2.2.2.2 d z (fun w => q (by unfold mscr; omega))]
    rfl
  have sL : sc B (wA C (mo + 12) (24 * (s : Int) + h) (B.2.2.2.1 (mo + 12) (24 * (s : Int) + h))) := by
    refine ⟨fun d j q => ?_, fun d j q => ?_, ?_, fun d z q => ?_, fun d z q => ?_⟩
    · show C.1 d j = B.1 d j
      rw [g2.1 d j (fun w => by have := q w.1; unfold msv at this; omega)]
      exact plnM_sc.1 d j q
    · show C.2.1 d j = _
      rw [g2.2.1]
      rfl
    · show C.2.2.1 = _
      rw [g2.2.2.1]
      rfl
    · rw [wA_4]
      by_cases w : d = mo + 12 ∧ z = 24 * (s : Int) + h
      · rw [if_pos w, w.1, w.2]
      · rw [if_neg w, cr d z q, wA_4, if_neg w]
    · show C.2.2.2.2 d z = _
      rw [g2.2.2.2.1]
      rfl
  have FL := sc_FB sL F
  have mm := m_moneyNow (C := wA C (mo + 12) (24 * (s : Int) + h) (B.2.2.2.1 (mo + 12) (24 * (s : Int) + h))) (V := vyA (vyN B n) s h a) rm hA (by
    have r : ∀ k z, k ≠ 12 → (wA C (mo + 12) (24 * (s : Int) + h) (B.2.2.2.1 (mo + 12) (24 * (s : Int) + h))).2.2.2.1 (mo + k) z = C.2.2.2.1 (mo + k) z := fun k z q => by rw [wA_4, if_neg (by omega)]
    unfold FQ at *
    simp only [r 15 _ (by omega), r 16 _ (by omega), r 17 _ (by omega), r 18 _ (by omega)]
    exact g3) (by rw [vr_h3 FL.1, sc_n sL (by omega)]; rfl) (by rw [vr_h7 FL.1, sc_n sL (by omega)]; rfl)
  have mm' : fX9_moneyNow (E.1 + mo) (St E (wA C (mo + 12) (24 * (s : Int) + h) (B.2.2.2.1 (mo + 12) (24 * (s : Int) + h)))) = some (iI (mnF (vyA (vyN B n) s h a) (B.1 n 8).toNat), St E (wA C (mo + 12) (24 * (s : Int) + h) (B.2.2.2.1 (mo + 12) (24 * (s : Int) + h)))) := mm
  refine ⟨_, ?_, sL⟩
  simp (disch := omega) only [fX9_moneyBy, fX9_asTold, c9 rm.1, g9_23 rm.1, some_bind, iI_mul, iI_add, aI_ok (mk12 rm), sI_ok (mk12 rm), m_plainly rm, g1, mm']
theorem VI_cy (v : VI B 10) (m1 : 20 ≤ m) (nm : m + 6 ≤ n ∨ n + 6 ≤ m) : VI (cyV B m n) 10 := by
  obtain ⟨v0, x, x0, x1, x2⟩ := v
  refine ⟨?_, x, x0, x1, x2⟩
  rw [cyV_4 nm, if_neg (by omega)]
  exact v0
/-- all that gainBy needs, and keeps -/
def GB (E : Ev) (B : Bk) (n m : Nat) (L : Bk) : Prop := FB E L n m ∧ vyN L n = vyN B n ∧ (∀ j, L.1 n j = B.1 n j) ∧ SP L n m ∧ FP L 3 (vyN B n) 0 (B.1 n 4).toNat ∧ L.2.2.1 3 6 = some n ∧ fF m B L
theorem GB_gain {L : Bk} {s h : Nat} {a : Int} (G : GB E B n m L) (hst : 0 < B.1 n 0) (s1 : (s : Int) < B.1 n 8) (h1 : (h : Int) < B.1 n 4) (a0 : 0 ≤ a) (a1 : a ≤ 2) : ∃ L', fX8_gainBy (E.1 + co) (E.1 + 3) (iI s) (iI h) (iI a) (St E L) = some (iI (mnF (vyA (vyN B n) s h a) (B.1 n 8).toNat - mnF (vyN B n) (B.1 n 8).toNat), St E L') ∧ GB E B n m L' := by
  obtain ⟨F, ev, en, S, I, h6, ff⟩ := G
  obtain ⟨L', g1, g2, g3, g4⟩ := s8_gainBy (s := s) (h := h) (a := a) F (by rw [en]; exact hst) (by rw [ev, en]; exact I) h6 S (by rw [en]; exact s1) (by rw [en]; exact h1) a0 a1
  rw [ev, en] at g1
  obtain ⟨F', ev', en'⟩ := TM_FB F g2 g3
  exact ⟨L', g1, F', by rw [ev', ev], fun j => by rw [en', en], g4, TM_FP F.2.2.1.2.2.1 g2 I, by rw [g2.2.2.1 3 6 (by omega)]; exact h6, fF_tr ff (TM_fF g2)⟩
theorem o_worth {s h a : Int} (F : FB E B n m) (hs : i32 s) (hh : i32 h) (ha : i32 a) : QF E B n m (fX8_worth (E.1 + co) (iI s) (iI h) (iI a)) (fX9_worth (E.1 + mo) (iI s) (iI h) (iI a)) := by
  have rc := F.1.1.1
  have rn := F.1.1.2.1
  have rk := F.1.1.2.2.1
  have rm := F.1.1.2.2.2
  have k3 := F.2.1.2.2.1
  have k4 := F.2.1.2.2.2
  obtain ⟨n1, n2, m1, m2, nm⟩ := F.2.2.1
  have hc : co = 0 := rfl
  have g1 := s8_hasShopHour F.1 hs hh
  have rf : ∀ C, FB E C n m → (∀ j, C.1 n j = B.1 n j) → fX9_worth (E.1 + mo) (iI s) (iI h) (iI a) (St E C) = if (0 ≤ s ∧ s < B.1 n 8) then (if (0 ≤ h ∧ h < B.1 n 4) then (if 0 ≤ a ∧ a ≤ 2 then (fX9_moneyBy (E.1 + mo) (iI s) (iI h) (iI a) (St E (wI C mo 0 0))).bind (fun r8 => (fX9_moneyPlain (E.1 + mo) r8.2).bind fun r9 => some (r8.1 - r9.1, r9.2)) else some (iI (-1000000), St E (wI C mo 0 0))) else some (iI (-1000000), St E (wI C mo 0 0))) else some (iI (-1000000), St E (wI C mo 0 0)) := fun C FC cn => by
    simp only [fX9_worth, fX9_worth_b29, c9 rm.1, p9_0 rm.1, some_bind, mg_isShop FC hs, mg_isHour FC hh, m_isAct ha, iI_0, ib, cn]
  by_cases c : ((0 ≤ s ∧ s < B.1 n 8) ∧ (0 ≤ h ∧ h < B.1 n 4)) ∧ 0 ≤ a ∧ a ≤ 2
  · obtain ⟨⟨c1, c2⟩, c3⟩ := c
    have hst := st_shop F c1
    obtain ⟨t, rfl⟩ : ∃ t : Nat, s = t := ⟨s.toNat, by omega⟩
    obtain ⟨u, rfl⟩ : ∃ u : Nat, h = u := ⟨h.toNat, by omega⟩
    obtain ⟨F0, ev0, en0⟩ := TM_FB F (TM_cy nm) (VI_cy F.2.2.2.2.2 m1 nm)
    obtain ⟨C, f1, f2, f3, f4, f5, f6, f7, f8⟩ := s8_flown2 F0 (by rw [en0]; exact hst)
    rw [ev0, en0] at f5
    have cn : ∀ j, C.1 n j = B.1 n j := fun j => by rw [fF_n f2 n1 n2 (by omega), en0]
    have S0 : SP (cyV B m n) n m := SP_cy nm
    have GC : GB E B n m C := ⟨f3, by rw [f4, ev0], cn, ⟨fun j hj => by rw [f7 m j (by omega) (by omega), f7 n j (by omega) (by omega)]; exact S0.1 j hj, fun i z i1 i2 z0 z1 => by rw [f8 _ _ (by omega), f8 _ _ (by omega)]; exact S0.2 i z i1 i2 z0 z1⟩, f5, f6, fF_tr (TM_fF (TM_cy nm)) f2⟩
    obtain ⟨L, l1, l2⟩ := GB_gain (s := t) (h := u) (a := a) GC hst c1.2 c2.2 c3.1 c3.2
    have FL := l2.1
    have s0 : sc L (wI L mo 0 0) := sc_I (by unfold msv; omega)
    have Fw := sc_FB s0 FL
    have wn : ∀ j, (wI L mo 0 0).1 n j = B.1 n j := fun j => by rw [w0n (by omega), l2.2.2.1]
    have evw : vyN (wI L mo 0 0) n = vyN B n := by rw [← l2.2.1]; exact vyN_eq (fun j => w0n (by omega) j) (fun _ _ _ _ => rfl)
    obtain ⟨K, k1, k2⟩ := m_moneyBy (s := t) (h := u) (a := a) Fw (by rw [wn]; exact hst) (by rw [wn]; exact c1.2) (by rw [wn]; exact c2.2) c3.1 c3.2
    have Fk := sc_FB k2 Fw
    have kn : ∀ j, K.1 n j = B.1 n j := fun j => by rw [sc_n k2 (by omega), wn]
    have evk : vyN K n = vyN B n := by rw [← evw]; exact vyN_eq (sc_n k2 (by omega)) (fun k z a b => sc_r k2 (by omega) z)
    obtain ⟨M, p1, p2⟩ := m_moneyPlain Fk (by rw [kn]; exact hst)
    rw [evw, wn] at k1
    rw [evk, kn] at p1
    refine ⟨iI (mnF (vyA (vyN B n) t u a) (B.1 n 8).toNat - mnF (vyN B n) (B.1 n 8).toNat), L, M, ?_, ?_, fF_tr l2.2.2.2.2.2.2 (fF_sc (sc_tr (sc_tr s0 k2) p2)), sc_FB p2 Fk⟩
    · simp only [fX8_worth, c8 rc, g1, s8_isAct ha, some_bind, iI_0, ib, g8_8 rc k4, g8_7 rc rn, s_copyFrom k3 rk (show n ≠ m by omega), f1, l1]
      rw [if_pos ⟨c1, c2⟩, if_pos c3]
    · rw [rf L FL l2.2.2.1, if_pos c1, if_pos c2, if_pos c3, k1, some_bind, p1, some_bind, iI_sub]
  · refine QF_no F (v := iI (-1000000)) ?_ ?_
    · simp only [fX8_worth, fX8_worth_b16, c8 rc, g1, s8_isAct ha, some_bind, iI_0, ib]
      by_cases q : (0 ≤ s ∧ s < B.1 n 8) ∧ (0 ≤ h ∧ h < B.1 n 4)
      · rw [if_pos q, if_neg (fun w => c ⟨q, w⟩)]
      · rw [if_neg q]
    · rw [rf B F (fun _ => rfl)]
      repeat' split
      all_goals first | rfl | (exfalso; omega)
end WO
