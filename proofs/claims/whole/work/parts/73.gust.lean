/-! gust, takings, chance -/
section GS
variable {E : Ev} {B C : Bk} {n m : Nat}
theorem guB_1 {o x : Int} (o0 : 0 ≤ o) (x0 : 0 ≤ x) (x1 : x < 2147483648) {k : Nat} : guB o (itG 1 x k) = guB o (itG o x k) := by
  by_cases q : o = 0
  · rw [q, guB_0 (itG_b x0 x1 k).1, guB_0 (itG_b x0 x1 k).1]
  · have e : ∀ k, itG 1 x k = itG o x k := by
      intro k
      induction k with
      | zero => rfl
      | succ k ih =>
        show nx 1 (itG 1 x k) = nx o (itG o x k)
        rw [ih]
        unfold nx
        rw [if_pos (by omega), if_pos (by omega)]
    rw [e]
theorem rv_MVg (R : RV E B n) (hst : 0 < B.1 n 0) {G : Int → Int → Int} (f3 : B.1 mo 33 = 0) (f4 : B.1 mo 34 = 0) (f6 : B.1 mo 36 = 0) (f7 : B.1 mo 37 = 0) (f8 : B.1 mo 38 = 0) (hG : ∀ l h : Int, 0 ≤ l → l < B.1 n 3 → 0 ≤ h → h < B.1 n 4 → (B.1 mo 35 = 0 ∧ G l h = 0) ∨ (B.1 mo 35 = 1 ∧ B.2.2.2.1 (mo + 20) (24 * l + h) = G l h)) : MV B ((vyN B n).1, (vyN B n).2.1, (vyN B n).2.2.1, (vyN B n).2.2.2.1, (vyN B n).2.2.2.2.1, G) := by
  have hV := rv_VOK R hst
  have h6 := hV.2.2.2.2.2.1
  refine ⟨⟨vr_h0 R, vr_h1 R, vr_h2 R, vr_h3 R, vr_h6 R, vr_h7 R, vr_h8 R⟩, Or.inl ⟨f3, vr_h4 R⟩, ⟨by omega, ?_⟩, fun l h a1 a2 a3 a4 => Or.inl ⟨f4, vr_w R a1 a2 a3 a4⟩, fun s k a1 a2 a3 a4 => ?_, fun i k a1 a2 a3 a4 => vr_d R a1 a2 a3 a4, fun s h a1 a2 a3 a4 => vr_a R a1 a2 a3 a4, hG, rv_mw R⟩
  · rw [vr_h5 R, vr_h2 R, f6]
    have h6' : B.1 n 6 < B.1 n 3 := h6.2
    rw [if_pos (by omega)]
    show B.1 n 6 = _
    omega
  · rw [vr_s R a1 a2 a3 a4, f7, f8]
    show B.2.2.2.1 (n + 2) (s * 6 + k) + _ = B.2.2.2.1 (n + 2) (s * 6 + k)
    repeat' split
    all_goals omega
theorem m_draws {x o : Int} (F : FB E B n m) (hst : 0 < B.1 n 0) (x0 : 0 ≤ x) (x1 : x < 2147483648) (o0 : 0 ≤ o) (o1 : o ≤ 100) : ∃ C, fX9_draws (E.1 + mo) (jI x) (iI o) (St E B) = some (St E C) ∧ sc B C ∧ FQ C (vyG B n o x) (B.1 n 4).toNat ∧ FW C (vyG B n o x) (fsF (vyG B n o x) (B.1 n 4).toNat).2 := by
  have hmo : mo = 58 := rfl
  have rm := F.1.1.2.2.2
  have hn := F.2.2.1
  have hV := rv_VOK F.1 hst
  have b3 : 2 ≤ B.1 n 3 ∧ B.1 n 3 ≤ 5 := hV.2.2.1
  have b4 : 1 ≤ B.1 n 4 ∧ B.1 n 4 ≤ 24 := hV.2.2.2.1
  have r7 : ∀ z, (plnM B).2.2.2.1 (mo + 7) z = B.2.2.2.1 (mo + 7) z := fun _ => rfl
  obtain ⟨L, e1, l1, l2⟩ := m_draws10 (E := E) (B := B) (n := n) (K := plnM B) (x := x) (o := o) rm o0 o1 x0 x1 (by rw [r7, vr_h2 F.1]) (by rw [r7, vr_h3 F.1]) b3.1 b3.2 (by omega) b4.2
  have sL : sc (plnM B) (wI L mo 35 1) := by
    refine ⟨fun d j q => ?_, fun d j q => ?_, ?_, fun d z q => ?_, fun d z q => ?_⟩
    · rw [wI_1, if_neg, l1.1]
      rintro ⟨rfl, rfl⟩
      have := q rfl
      unfold msv at this
      omega
    · show L.2.1 d j = _
      rw [l1.2.1]
    · exact l1.2.2.1
    · show L.2.2.2.1 d z = _
      exact l1.2.2.2.2 d z (fun w => q (by unfold mscr; omega))
    · show L.2.2.2.2 d z = _
      rw [l1.2.2.2.1]
  have s1 := sc_tr plnM_sc sL
  have F1 := sc_FB s1 F
  have en : ∀ j, (wI L mo 35 1).1 n j = B.1 n j := sc_n s1 (by omega)
  have ev : vyN (wI L mo 35 1) n = vyN B n := vyN_eq en (fun k z a b => sc_r s1 (by omega) z)
  have fl : ∀ j, j ≠ 35 → 33 ≤ j → j ≤ 38 → (wI L mo 35 1).1 mo j = 0 := fun j q a b => by rw [wI_1, if_neg (fun w => q w.2), l1.1, plnM_1, if_pos ⟨a, b⟩]
  have f35 : (wI L mo 35 1).1 mo 35 = 1 := by rw [wI_1, if_pos ⟨rfl, rfl⟩]
  have hM := rv_MVg (G := (vyG B n o x).2.2.2.2.2) F1.1 (by rw [en]; exact hst) (fl 33 (by omega) (by omega) (by omega)) (fl 34 (by omega) (by omega) (by omega)) (fl 36 (by omega) (by omega) (by omega)) (fl 37 (by omega) (by omega) (by omega)) (fl 38 (by omega) (by omega) (by omega)) (fun l h a1 a2 a3 a4 => by
    rw [en] at a2 a4
    obtain ⟨u, rfl⟩ : ∃ u : Nat, h = u := ⟨h.toNat, by omega⟩
    obtain ⟨t, rfl⟩ : ∃ t : Nat, l = t := ⟨l.toNat, by omega⟩
    refine Or.inr ⟨f35, ?_⟩
    show L.2.2.2.1 (mo + 20) (24 * (t : Int) + u) = if (t : Int) = 0 then 0 else guB o (itG o x ((u : Int).toNat * (B.1 n 3 - 1).toNat + (t : Int).toNat))
    have l2' := l2 u a4
    by_cases q : t = 0
    · rw [if_pos (by omega), q]
      exact l2'.1
    · rw [if_neg (by omega), l2'.2 t (by omega) a2, guB_1 o0 x0 x1, Int.toNat_natCast, Int.toNat_natCast])
  have eV : ((vyN (wI L mo 35 1) n).1, (vyN (wI L mo 35 1) n).2.1, (vyN (wI L mo 35 1) n).2.2.1, (vyN (wI L mo 35 1) n).2.2.2.1, (vyN (wI L mo 35 1) n).2.2.2.2.1, (vyG B n o x).2.2.2.2.2) = vyG B n o x := by
    rw [ev]
    rfl
  rw [eV] at hM
  obtain ⟨C, g1, c1, c2, c3⟩ := m_goes rm (vyG_ok F.1 hst) hM
  refine ⟨C, ?_, sc_tr s1 (GF_sc c1), c2, c3⟩
  simp only [fX9_draws, c9 rm.1, some_bind, m_plainly rm, e1, p9_35 rm.1 (Or.inr rfl), g1]
theorem s8_isDraw {a b : Int} {s : Hp} (ha : i32 a) (hb : i32 b) : fX8_isDraw (iI a) (iI b) s = some (iI (bI ((0 ≤ a ∧ a ≤ 2000000000) ∧ (0 ≤ b ∧ b ≤ 100))), s) := by
  obtain ⟨a1, a2⟩ := ha
  obtain ⟨b1, b2⟩ := hb
  simp (disch := omega) only [fX8_isDraw, fX8_isDraw_b25, iI_0, iI_lt]
  by_cases c : (0 ≤ a ∧ a ≤ 2000000000) ∧ (0 ≤ b ∧ b ≤ 100)
  · rw [if_neg (by omega), if_neg (by omega), if_neg (by omega), if_neg (by omega), bI_t c]
  · rw [bI_f c]
    repeat' split
    all_goals first | rfl | (exfalso; omega)
theorem mg_isDraw {a b : Int} (F : FB E C n m) (ha : i32 a) (hb : i32 b) : fX9_isDraw (E.1 + mo) (iI a) (iI b) (St E (wI C mo 0 0)) = some (iI (bI (0 < C.1 n 0 ∧ (0 ≤ a ∧ a ≤ 2000000000) ∧ (0 ≤ b ∧ b ≤ 100))), St E (wI C mo 0 0)) := by
  have rm := F.1.1.2.2.2
  obtain ⟨a1, a2⟩ := ha
  obtain ⟨b1, b2⟩ := hb
  simp (disch := omega) only [fX9_isDraw, fX9_isDraw_b35, c9 rm.1, mg_isValley F, some_bind, iI_0, ib, jI_i, jI_0, jI_2G, jI_100, m_in]
  by_cases c : 0 < C.1 n 0 ∧ (0 ≤ a ∧ a ≤ 2000000000) ∧ (0 ≤ b ∧ b ≤ 100)
  · rw [if_pos c.1, if_pos c.2.1, if_pos c.2.2, bI_t c]
  · rw [bI_f c]
    repeat' split
    all_goals first | rfl | (exfalso; omega)
theorem o_gust {a b s h : Int} (F : FB E B n m) (ha : i32 a) (hb : i32 b) (hs : i32 s) (hh : i32 h) : QF E B n m (fX8_gust (E.1 + co) (iI a) (iI b) (iI s) (iI h)) (fX9_gust (E.1 + mo) (iI a) (iI b) (iI s) (iI h)) := by
  have rc := F.1.1.1
  have rn := F.1.1.2.1
  have rk := F.1.1.2.2.1
  have rm := F.1.1.2.2.2
  have g1 := s8_hasShopHour F.1 hs hh
  have w4 := F.1.2.1.2.2.2.2.1
  have e10 : ∀ C, gR (St E C) (E.1 + co) 8 3 = some (E.1 + 10) := fun C => g8_3 rc
  by_cases c : ((0 ≤ a ∧ a ≤ 2000000000) ∧ (0 ≤ b ∧ b ≤ 100)) ∧ (0 ≤ s ∧ s < B.1 n 8) ∧ (0 ≤ h ∧ h < B.1 n 4)
  · obtain ⟨c0, c1, c2⟩ := c
    have hst := st_shop F c1
    have hV := vyG_ok F.1 hst (o := b) (x := a)
    obtain ⟨t, rfl⟩ : ∃ t : Nat, s = t := ⟨s.toNat, by omega⟩
    obtain ⟨u, rfl⟩ : ∃ u : Nat, h = u := ⟨h.toNat, by omega⟩
    obtain ⟨D, C, d1, d2, d3, d4, d5, d6⟩ := s8_gusty F hst (x := a) (o := b) (by omega) (by omega) (by omega) (by omega)
    obtain ⟨FC, ev, en⟩ := TM_FB F d3 d4
    have s0 : sc C (wI C mo 0 0) := sc_I (by unfold msv; omega)
    have F0 := sc_FB s0 FC
    have hn : n < 58 := by have := F.2.2.1; omega
    obtain ⟨K, k1, k2, k3, k4⟩ := m_draws (x := a) (o := b) F0 (by rw [w0n hn, en]; exact hst) (by omega) (by omega) (by omega) (by omega)
    have eg : vyG (wI C mo 0 0) n b a = vyG B n b a := by
      have ev0 : vyN (wI C mo 0 0) n = vyN B n := by rw [← ev]; exact vyN_eq (fun j => w0n hn j) (fun _ _ _ _ => rfl)
      unfold vyG
      rw [ev0, w0n hn, en]
    rw [eg, w0n hn, en] at k3
    refine ⟨iI (100 * (fsF (vyG B n b a) (u + 1)).1 t 0 + 10 * (fsF (vyG B n b a) (u + 1)).1 t 1 + (fsF (vyG B n b a) (u + 1)).1 t 2), C, K, ?_, ?_, fF_tr (TM_fF d3) (fF_sc (sc_tr s0 k2)), sc_FB k2 F0⟩
    · have q := fun (k : Int) (k0 : 0 ≤ k) (k1 : k < 7) => q7_fact (s := t) (h := u) (k := k) F.2.1.2.1 d5 hV c1.2 (by omega) (by omega) (by omega) k0 k1
      simp only [fX8_gust, c8 rc, s8_isDraw ha hb, some_bind, iI_0, ib, g1, e10, g8_7 rc rn, d1, d2, q 0 (by omega) (by omega), q 1 (by omega) (by omega), q 2 (by omega) (by omega), iI_mul, iI_add]
      rw [if_pos c0, if_pos ⟨c1, c2⟩]
    · have q := fun (k : Int) (k0 : 0 ≤ k) (k1 : k < 7) => q9_spot (C := K) (s := t) (h := u) (k := k) rm hV k3 c1.2 (by omega) (by omega) k0 k1
      simp only [fX9_gust, c9 rm.1, p9_0 rm.1, some_bind, mg_isDraw FC ha hb, mg_isShop FC hs, mg_isHour FC hh, iI_0, ib, en, jI_i ha.1 ha.2, k1, q 0 (by omega) (by omega), q 1 (by omega) (by omega), q 2 (by omega) (by omega), iI_mul, iI_add]
      rw [if_pos ⟨hst, c0⟩, if_pos c1, if_pos c2]
  · refine QF_no F (v := iI (-2)) ?_ ?_
    · simp only [fX8_gust, fX8_gust_b18, c8 rc, s8_isDraw ha hb, some_bind, iI_0, ib, g1]
      by_cases q : (0 ≤ a ∧ a ≤ 2000000000) ∧ (0 ≤ b ∧ b ≤ 100)
      · rw [if_pos q, if_neg (fun w => c ⟨q, w⟩)]
      · rw [if_neg q]
    · simp only [fX9_gust, fX9_gust_b32, c9 rm.1, p9_0 rm.1, some_bind, mg_isDraw F ha hb, mg_isShop F hs, mg_isHour F hh, iI_0, ib]
      by_cases q : 0 < B.1 n 0 ∧ (0 ≤ a ∧ a ≤ 2000000000) ∧ (0 ≤ b ∧ b ≤ 100)
      · rw [if_pos q]
        by_cases q2 : 0 ≤ s ∧ s < B.1 n 8
        · rw [if_pos q2, if_neg (fun w => c ⟨q.2, q2, w⟩)]
        · rw [if_neg q2]
      · rw [if_neg q]
theorem o_takings {a b : Int} (F : FB E B n m) (ha : i32 a) (hb : i32 b) : QF E B n m (fX8_takings (E.1 + co) (iI a) (iI b)) (fX9_takings (E.1 + mo) (iI a) (iI b)) := by
  have rc := F.1.1.1
  have rn := F.1.1.2.1
  have rk := F.1.1.2.2.1
  have rm := F.1.1.2.2.2
  have e10 : ∀ C, gR (St E C) (E.1 + co) 8 3 = some (E.1 + 10) := fun C => g8_3 rc
  by_cases c : 0 < B.1 n 0 ∧ (0 ≤ a ∧ a ≤ 2000000000) ∧ (0 ≤ b ∧ b ≤ 100)
  · obtain ⟨hst, c0⟩ := c
    have hV := vyG_ok F.1 hst (o := b) (x := a)
    obtain ⟨D, C, d1, d2, d3, d4, d5, d6⟩ := s8_gusty F hst (x := a) (o := b) (by omega) (by omega) (by omega) (by omega)
    obtain ⟨FC, ev, en⟩ := TM_FB F d3 d4
    have s0 : sc C (wI C mo 0 0) := sc_I (by unfold msv; omega)
    have F0 := sc_FB s0 FC
    have hn : n < 58 := by have := F.2.2.1; omega
    obtain ⟨K, k1, k2, k3, k4⟩ := m_draws (x := a) (o := b) F0 (by rw [w0n hn, en]; exact hst) (by omega) (by omega) (by omega) (by omega)
    have Fk := sc_FB k2 F0
    have kn : ∀ j, K.1 n j = B.1 n j := fun j => by rw [sc_n k2 hn, w0n hn, en]
    have eg : vyG (wI C mo 0 0) n b a = vyG B n b a := by
      have ev0 : vyN (wI C mo 0 0) n = vyN B n := by rw [← ev]; exact vyN_eq (fun j => w0n hn j) (fun _ _ _ _ => rfl)
      unfold vyG
      rw [ev0, w0n hn, en]
    rw [eg, w0n hn, en] at k3
    refine ⟨iI (mnF (vyG B n b a) (B.1 n 8).toNat), C, K, ?_, ?_, fF_tr (TM_fF d3) (fF_sc (sc_tr s0 k2)), sc_FB k2 F0⟩
    · have qm := q7_money (C := C) (a := 0) (V := vyG B n b a) F.2.1.2.1 d6 rk hV (en 4) (en 8) d5 (by omega)
      have qm' : fX7_moneyOfAll (E.1 + 10) (St E C) = some (iI (mnF (vyG B n b a) (B.1 n 8).toNat), St E C) := qm
      simp only [fX8_takings, c8 rc, g8_7 rc rn, s_stands rk F.1.2.1, s8_isDraw ha hb, some_bind, iI_0, ib, e10, d1, d2, qm']
      rw [if_pos hst, if_pos c0]
    · have qm := m_moneyNow (C := K) (V := vyG B n b a) rm hV k3 (by rw [vr_h3 Fk.1]; exact kn 4) (by rw [vr_h7 Fk.1]; exact kn 8)
      have qm' : fX9_moneyNow (E.1 + mo) (St E K) = some (iI (mnF (vyG B n b a) (B.1 n 8).toNat), St E K) := qm
      simp only [fX9_takings, c9 rm.1, p9_0 rm.1, some_bind, mg_isDraw FC ha hb, iI_0, ib, en, jI_i ha.1 ha.2, k1, qm']
      rw [if_pos ⟨hst, c0⟩]
  · refine QF_no F (v := iI (-2)) ?_ ?_
    · simp only [fX8_takings, fX8_takings_b18, c8 rc, g8_7 rc rn, s_stands rk F.1.2.1, s8_isDraw ha hb, some_bind, iI_0, ib]
      by_cases q : 0 < B.1 n 0
      · rw [if_pos q, if_neg (fun w => c ⟨q, w⟩)]
      · rw [if_neg q]
    · simp only [fX9_takings, c9 rm.1, p9_0 rm.1, some_bind, mg_isDraw F ha hb, iI_0, ib]
      rw [if_neg c]
end GS
