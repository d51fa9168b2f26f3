/-! other (some rows once more, with what stays: by gen80.py) -/
section OU
variable {E : Ev} {B C : Bk} {n m : Nat}
theorem s8_fly10b {d : Nat} {V : Vy} {x o : Int} {gX : Nat → Int} (F : FB E B n m) (hk : VK E d) (hd : 17 ≤ d) (hV : VOK V) (hM : VM B d V) (hn : 0 ≤ B.1 d 0 ∧ B.1 d 0 ≤ 1600) (x0 : 0 ≤ x) (x1 : x < 2147483648) (o0 : 0 ≤ o) (o1 : o ≤ 100) (G : GU V o gX 0) (g0 : gX 0 = x) : ∃ D C, fX7_begin (E.1 + 10) (E.1 + d) (iI x) (iI o) (St E B) = some (St E D) ∧ fX7_flyFrom (E.1 + 10) (iI 0) (St E D) = some (St E C) ∧ TM m B C ∧ VI C 10 ∧ FP C 10 V 0 (V.1 4).toNat ∧ C.2.2.1 10 6 = some d ∧ (∀ d' j, d' ≠ 10 → C.1 d' j = B.1 d' j) := by
  have k2 := F.2.1.2.1
  have P3 := F.2.2.2.2.2
  have b4 := hV.2.2.2.1
  obtain ⟨D, d1, d2, d3⟩ := f7_begin (B := B) (p := 10) (d := d) (o := o) (x := x) k2 hk (by omega) hV hM ⟨by omega, by omega⟩
  have hd6 : D.2.2.1 10 6 = some d := by
    rw [d2.2.2.1]
    show (if 10 = 10 ∧ 6 = 6 then some d else B.2.2.1 10 6) = some d
    rw [if_pos ⟨rfl, rfl⟩]
  have hMs : VM (sgB B 10 d (jI x) o) d V := sg_VM hM (by omega)
  have hMD := FF_VM (F2_FF d2) hMs (by omega)
  have di : ∀ d' j, ¬ (d' = 10 ∧ j = 8) → D.1 d' j = B.1 d' j := fun d' j w => by
    rw [d2.1]
    show (if d' = 10 ∧ j = 8 then o else B.1 d' j) = _
    rw [if_neg w]
  have dl : ∀ d' j, ¬ (d' = 10 ∧ j = 7) → D.2.1 d' j = B.2.1 d' j := fun d' j w => by
    rw [d2.2.1]
    show (if d' = 10 ∧ j = 7 then jI x else B.2.1 d' j) = _
    rw [if_neg w]
  have dr : ∀ d' j, ¬ (d' = 10 ∧ j = 6) → D.2.2.1 d' j = B.2.2.1 d' j := fun d' j w => by
    rw [d2.2.2.1]
    show (if d' = 10 ∧ j = 6 then some d else B.2.2.1 d' j) = _
    rw [if_neg w]
  have d8 : D.1 10 8 = o := by
    rw [d2.1]
    show (if 10 = 10 ∧ 8 = 8 then o else B.1 10 8) = o
    rw [if_pos ⟨rfl, rfl⟩]
  have d7 : D.2.1 10 7 = jI (gX 0) := by
    rw [d2.2.1, g0]
    show (if 10 = 10 ∧ 7 = 7 then jI x else B.2.1 10 7) = jI x
    rw [if_pos ⟨rfl, rfl⟩]
  have d0 : D.2.2.2.1 (10 + 6) 0 = 0 := by rw [d2.2.2.2.2 _ _ (by omega) (by omega)]; exact P3.1
  obtain ⟨K, f1, f2, f3, f4, f5⟩ := f7_flyFrom (B := D) (p := 10) (d := d) (V := V) (o := o) (gX := gX) (a := 0) k2 hd6 hk (by omega) hV hMD (by rw [di _ _ (by omega)]; exact hn) (by omega) d8 o0 o1 d7 d0 G d3
  refine ⟨D, K, d1, f1, ⟨fun d' j a _ => ?_, fun d' j a => ?_, fun d' j a => ?_, fun d' z a _ => ?_, ?_⟩, ⟨f3, gX (V.1 4).toNat, ?_, ?_, f4⟩, f5, ?_, fun d' j a => by rw [f2.1, di _ _ (by omega)]⟩
  · rw [f2.1, di _ _ (by omega)]
  · rw [f2.2.2.2.1 d' j (by omega), dl _ _ (by omega)]
  · rw [f2.2.1, dr _ _ a]
  · rw [f2.2.2.2.2 d' z (by omega), d2.2.2.2.2 d' z (by omega) (by omega)]
    rfl
  · rw [f2.2.2.1, d2.2.2.2.1]
    rfl
  · obtain ⟨k, hk⟩ : ∃ k : Nat, (V.1 4).toNat = k + 1 := ⟨(V.1 4).toNat - 1, by omega⟩
    obtain ⟨ga, gb, -⟩ := G k (by omega) (by omega)
    rw [hk, gb]
    exact (itG_b ga.1 ga.2 _).1
  · obtain ⟨k, hk⟩ : ∃ k : Nat, (V.1 4).toNat = k + 1 := ⟨(V.1 4).toNat - 1, by omega⟩
    obtain ⟨ga, gb, -⟩ := G k (by omega) (by omega)
    rw [hk, gb]
    exact (itG_b ga.1 ga.2 _).2
  · rw [f2.2.1]
    exact hd6
theorem m_asTold2 (F : FB E B n m) (hst : 0 < B.1 n 0) : ∃ C, fX9_asTold (E.1 + mo) (St E B) = some (St E C) ∧ sc B C ∧ FQ C (vyN B n) (B.1 n 4).toNat ∧ FW C (vyN B n) (fsF (vyN B n) (B.1 n 4).toNat).2 ∧ C.1 mo 35 = 0 := by
  have rm := F.1.1.2.2.2
  have F1 := sc_FB plnM_sc F
  have ev : vyN (plnM B) n = vyN B n := vyN_eq (sc_n plnM_sc (by have := F.2.2.1; omega)) (fun k z _ _ => rfl)
  have hst1 : 0 < (plnM B).1 n 0 := by rw [sc_n plnM_sc (by have := F.2.2.1; omega)]; exact hst
  have hM := rv_MV F1.1 hst1 (by rw [plnM_1, if_pos (by omega)]) (by rw [plnM_1, if_pos (by omega)]) (by rw [plnM_1, if_pos (by omega)]) (by rw [plnM_1, if_pos (by omega)]) (by rw [plnM_1, if_pos (by omega)]) (by rw [plnM_1, if_pos (by omega)])
  rw [ev] at hM
  obtain ⟨C, e1, c1, c2, c3⟩ := m_goes rm (rv_VOK F.1 hst) hM
  refine ⟨C, ?_, sc_tr plnM_sc (GF_sc c1), c2, c3, by rw [c1.1 mo 35 (by omega), plnM_1, if_pos (by omega)]⟩
  simp only [fX9_asTold, c9 rm.1, some_bind, m_plainly rm, e1]
theorem m_moneyPlain2 (F : FB E B n m) (hst : 0 < B.1 n 0) : ∃ C, fX9_moneyPlain (E.1 + mo) (St E B) = some (iI (mnF (vyN B n) (B.1 n 8).toNat), St E C) ∧ sc B C ∧ C.1 mo 35 = 0 := by
  have rm := F.1.1.2.2.2
  have hn : n < 58 := by have := F.2.2.1; omega
  obtain ⟨C, c1, c2, c3, c4, c5⟩ := m_asTold2 F hst
  have FC := sc_FB c2 F
  have mm := m_moneyNow (C := C) (V := vyN B n) rm (rv_VOK F.1 hst) c3 (by rw [vr_h3 FC.1, sc_n c2 hn]; rfl) (by rw [vr_h7 FC.1, sc_n c2 hn]; rfl)
  refine ⟨C, ?_, c2, c5⟩
  simp only [fX9_moneyPlain, c9 rm.1, some_bind, c1]
  rw [mm, some_bind]
  rfl
def fl5 (K : Bk) (k : Int) : Bk := wI (wI (wI (wI (wI K mo 33 (bI (k = 0))) mo 34 (bI (k = 1))) mo 36 (bI (k = 2))) mo 37 (bI (k = 3))) mo 38 (bI (k = 4))
theorem itb {α : Type} {p : Prop} [Decidable p] (f : Int32 → α) : (if p then f (iI 1) else f (iI 0)) = f (iI (bI p)) := by
  by_cases q : p
  · rw [if_pos q, bI_t q]
  · rw [if_neg q, bI_f q]
theorem m_oth {K : Bk} {k : Int} {v : Int32} (rm : mKd E mo) (k0 : 0 ≤ k) (k1 : k ≤ 4) : fX9_other_b43 (E.1 + mo) (iI k) v (E.1 + mo) (iI (bI (k = 0))) (St E K) = (fX9_goes (E.1 + mo) (St E (fl5 K k))).bind (fun s17 => (fX9_moneyNow (E.1 + mo) s17).bind fun r18 => some (r18.1 - v, r18.2)) := by
  unfold fX9_other_b43
  rw [p9_33 rm.1 bI_01, some_bind]
  simp (disch := omega) only [iI_eq]
  rw [itb (fun y => fX9_other_b57 (E.1 + mo) (iI k) v (E.1 + mo) y _)]
  unfold fX9_other_b57
  rw [p9_34 rm.1 bI_01, some_bind]
  simp (disch := omega) only [iI_eq]
  rw [itb (fun y => fX9_other_b71 (E.1 + mo) (iI k) v (E.1 + mo) y _)]
  unfold fX9_other_b71
  rw [p9_36 rm.1, some_bind]
  simp (disch := omega) only [iI_eq]
  rw [itb (fun y => fX9_other_b85 (E.1 + mo) (iI k) v (E.1 + mo) y _)]
  unfold fX9_other_b85
  rw [p9_37 rm.1, some_bind]
  simp (disch := omega) only [iI_eq]
  rw [itb (fun y => fX9_other_b99 (E.1 + mo) v (E.1 + mo) y _)]
  unfold fX9_other_b99
  rw [p9_38 rm.1, some_bind]
  rfl
theorem fl5_1 {K : Bk} {k : Int} : (fl5 K k).1 mo 33 = bI (k = 0) ∧ (fl5 K k).1 mo 34 = bI (k = 1) ∧ (fl5 K k).1 mo 35 = K.1 mo 35 ∧ (fl5 K k).1 mo 36 = bI (k = 2) ∧ (fl5 K k).1 mo 37 = bI (k = 3) ∧ (fl5 K k).1 mo 38 = bI (k = 4) := by
  unfold fl5
  simp only [wI_1, true_and]
  simp
theorem fl5_sc {K : Bk} {k : Int} : sc K (fl5 K k) := by
  unfold fl5
  exact sc_tr (sc_tr (sc_tr (sc_tr (sc_I (by unfold msv; omega)) (sc_I (by unfold msv; omega))) (sc_I (by unfold msv; omega))) (sc_I (by unfold msv; omega))) (sc_I (by unfold msv; omega))
theorem MV_oth {k : Int} (R : RV E C n) (hst : 0 < C.1 n 0) (hV : vyN C n = vyN B n) (k0 : 0 ≤ k) (k1 : k ≤ 4) (f3 : C.1 mo 33 = bI (k = 0)) (f4 : C.1 mo 34 = bI (k = 1)) (f5 : C.1 mo 35 = 0) (f6 : C.1 mo 36 = bI (k = 2)) (f7 : C.1 mo 37 = bI (k = 3)) (f8 : C.1 mo 38 = bI (k = 4)) : MV C (vyO (vyN B n) k) := by
  rw [← hV]
  have h6 := (rv_VOK R hst).2.2.2.2.2.1
  have h6' : 0 ≤ C.1 n 6 ∧ C.1 n 6 < C.1 n 3 := h6
  have nn : ∀ j, j ≠ 5 → j ≠ 6 → (vyO (vyN C n) k).1 j = C.1 n j := fun j q1 q2 => by
    show (if j = 5 ∧ k = 0 then 0 else if j = 6 ∧ k = 2 then _ else C.1 n j) = _
    rw [if_neg (fun w => q1 w.1), if_neg (fun w => q2 w.1)]
  have e3 := nn 3 (by omega) (by omega)
  have e4 := nn 4 (by omega) (by omega)
  have e8 := nn 8 (by omega) (by omega)
  have e9 := nn 9 (by omega) (by omega)
  refine ⟨⟨by rw [nn 1 (by omega) (by omega)]; exact vr_h0 R, by rw [nn 2 (by omega) (by omega)]; exact vr_h1 R, by rw [e3]; exact vr_h2 R, by rw [e4]; exact vr_h3 R, by rw [nn 7 (by omega) (by omega)]; exact vr_h6 R, by rw [e8]; exact vr_h7 R, by rw [e9]; exact vr_h8 R⟩, ?_, ⟨?_, ?_⟩, fun l h a1 a2 a3 a4 => ?_, fun s i a1 a2 a3 a4 => ?_, fun i j a1 a2 a3 a4 => ?_, fun s h a1 a2 a3 a4 => ?_, fun l h a1 a2 a3 a4 => Or.inl ⟨f5, rfl⟩, rv_mw R⟩
  · rw [f3, vr_h4 R]
    show (_ ∧ C.1 n 5 = (if 5 = 5 ∧ k = 0 then 0 else if 5 = 6 ∧ k = 2 then _ else C.1 n 5)) ∨ (_ ∧ (if 5 = 5 ∧ k = 0 then 0 else if 5 = 6 ∧ k = 2 then _ else C.1 n 5) = 0)
    by_cases q : k = 0
    · rw [bI_t q, if_pos ⟨rfl, q⟩]
      exact Or.inr ⟨rfl, rfl⟩
    · rw [bI_f q, if_neg (fun w => q w.2), if_neg (by omega)]
      exact Or.inl ⟨rfl, rfl⟩
  · rw [f6]
    exact bI_le
  · rw [f6, vr_h5 R, vr_h2 R]
    show (if 6 = 5 ∧ k = 0 then 0 else if 6 = 6 ∧ k = 2 then min (C.1 n 6 + 1) (C.1 n 3 - 1) else C.1 n 6) = _
    rw [if_neg (by omega)]
    by_cases q : k = 2
    · rw [if_pos ⟨rfl, q⟩, bI_t q]
      split <;> omega
    · rw [if_neg (fun w => q w.2), bI_f q, if_pos (by omega)]
      omega
  · rw [e3] at a2
    rw [e4] at a4
    rw [f4, vr_w R a1 a2 a3 a4]
    show (_ ∧ C.2.2.2.1 (n + 1) (l * 24 + h) = (if k = 1 then 0 else C.2.2.2.1 (n + 1) (l * 24 + h))) ∨ (_ ∧ (if k = 1 then 0 else C.2.2.2.1 (n + 1) (l * 24 + h)) = 0)
    by_cases q : k = 1
    · rw [bI_t q, if_pos q]
      exact Or.inr ⟨rfl, rfl⟩
    · rw [bI_f q, if_neg q]
      exact Or.inl ⟨rfl, rfl⟩
  · rw [e8] at a2
    rw [vr_s R a1 a2 a3 a4, f7, f8]
    show C.2.2.2.1 (n + 2) (s * 6 + i) + _ = C.2.2.2.1 (n + 2) (s * 6 + i) + (if i = k ∧ (k = 3 ∨ k = 4) then 1 else 0)
    by_cases q3 : i = 3
    · rw [if_pos q3]
      by_cases q : k = 3
      · rw [bI_t q, if_pos (by omega)]
      · rw [bI_f q, if_neg (by omega)]
    · rw [if_neg q3]
      by_cases q4 : i = 4
      · rw [if_pos q4]
        by_cases q : k = 4
        · rw [bI_t q, if_pos (by omega)]
        · rw [bI_f q, if_neg (by omega)]
      · rw [if_neg q4, if_neg (by omega)]
  · rw [e9] at a2
    exact vr_d R a1 a2 a3 a4
  · rw [e8] at a2
    rw [e4] at a4
    exact vr_a R a1 a2 a3 a4
theorem o_other {k : Int} (F : FB E B n m) (hk : i32 k) : QF E B n m (fX8_other (E.1 + co) (iI k)) (fX9_other (E.1 + mo) (iI k)) := by
  have hc : co = 0 := rfl
  have hmo : mo = 58 := rfl
  have rc := F.1.1.1
  have rn := F.1.1.2.1
  have rk := F.1.1.2.2.1
  have rm := F.1.1.2.2.2
  obtain ⟨kk1, kk2, k3, k4⟩ := F.2.1
  obtain ⟨n1, n2, m1, m2, nm⟩ := F.2.2.1
  have hk' := hk
  obtain ⟨h1, h2⟩ := hk'
  have e10 : ∀ C, gR (St E C) (E.1 + co) 8 3 = some (E.1 + 10) := fun C => g8_3 rc
  by_cases c : 0 < B.1 n 0 ∧ 0 ≤ k ∧ k ≤ 4
  · obtain ⟨hst, c1, c2⟩ := c
    have hV := rv_VOK F.1 hst
    have hO : VOK (vyO (vyN B n) k) := vyO_ok hV (fun s s0 s1 => ⟨(F.1.2.2.2.2.2.2.2.1 s s0 s1).2.2.2.1.2, (F.1.2.2.2.2.2.2.2.1 s s0 s1).2.2.2.2.1.2⟩)
    obtain ⟨D, d1, d2, d3, d4, d5⟩ := s8_spare F hst c1 c2
    have nn : ∀ j, j ≠ 5 → j ≠ 6 → (vyO (vyN B n) k).1 j = B.1 n j := fun j q1 q2 => by
      show (if j = 5 ∧ k = 0 then 0 else if j = 6 ∧ k = 2 then _ else B.1 n j) = _
      rw [if_neg (fun w => q1 w.1), if_neg (fun w => q2 w.1)]
    have e4 := nn 4 (by omega) (by omega)
    have e8 := nn 8 (by omega) (by omega)
    have d5' : VE (vyO (vyN B n) k) (vyN D m) ((vyO (vyN B n) k).1 4) := by rw [e4]; exact d5
    have hV' := VOK_VE hO d5'
    obtain ⟨FD, evD, enD⟩ := TM_FB F d2 d3
    obtain ⟨D', C, g1, g2, g3, g4, g5, g6, g7⟩ := s8_fly10b (B := D) (d := m) (V := vyN D m) (x := 0) (o := 0) (gX := fun _ => 0) FD k3 (by omega) hV' vyN_VM (by rw [d4 0 (by omega)]; exact F.1.2.1.1) (by omega) (by omega) (by omega) (by omega) (GU_0 (by omega) (by omega) (fun _ _ => rfl)) rfl
    obtain ⟨FC, evC, enC⟩ := TM_FB FD g3 g4
    have cn : ∀ j, C.1 n j = B.1 n j := fun j => by rw [enC, enD]
    have evc : vyN C n = vyN B n := by rw [evC, evD]
    obtain ⟨L, f1, f2, f3, f4, f5, f6⟩ := s8_flown FC (by rw [cn]; exact hst)
    rw [evc, cn] at f5
    have ln : ∀ j, L.1 n j = B.1 n j := fun j => by rw [fF_n f2 n1 n2 (by omega), cn]
    have evl : vyN L n = vyN B n := by rw [f4, evc]
    have s0 : sc L (wI L mo 0 0) := sc_I (by unfold msv; omega)
    have Fw := sc_FB s0 f3
    have wn : ∀ j, (wI L mo 0 0).1 n j = B.1 n j := fun j => by rw [w0n (by omega), ln]
    have evw : vyN (wI L mo 0 0) n = vyN B n := by rw [← evl]; exact vyN_eq (fun j => w0n (by omega) j) (fun _ _ _ _ => rfl)
    obtain ⟨K, p1, p2, p3⟩ := m_moneyPlain2 Fw (by rw [wn]; exact hst)
    rw [evw, wn] at p1
    have s5 : sc K (fl5 K k) := fl5_sc
    have sw := sc_tr p2 s5
    have F5 := sc_FB sw Fw
    have n5 : ∀ j, (fl5 K k).1 n j = B.1 n j := fun j => by rw [sc_n sw (by omega), wn]
    have ev5 : vyN (fl5 K k) n = vyN B n := by rw [← evw]; exact vyN_eq (sc_n sw (by omega)) (fun k z a b => sc_r sw (by omega) z)
    obtain ⟨q3, q4, q5, q6, q7, q8⟩ := fl5_1 (K := K) (k := k)
    have hMO := MV_oth (B := B) (C := fl5 K k) (k := k) F5.1 (by rw [n5]; exact hst) ev5 c1 c2 q3 q4 (by rw [q5]; exact p3) q6 q7 q8
    obtain ⟨Z, z1, z2, z3, z4⟩ := m_goes rm hO hMO
    have sz := GF_sc z2
    have Fz := sc_FB sz F5
    have zn : ∀ j, Z.1 n j = B.1 n j := fun j => by rw [sc_n sz (by omega), n5]
    have mz := m_moneyNow (C := Z) (V := vyO (vyN B n) k) rm hO z3 (by rw [vr_h3 Fz.1, zn, e4]) (by rw [vr_h7 Fz.1, zn, e8])
    refine ⟨iI (mnF (vyO (vyN B n) k) (B.1 n 8).toNat - mnF (vyN B n) (B.1 n 8).toNat), L, Z, ?_, ?_, fF_tr (fF_tr (fF_tr (TM_fF d2) (TM_fF g3)) f2) (fF_sc (sc_tr (sc_tr s0 sw) sz)), Fz⟩
    · have kD : D.2.2.1 co 8 = some m := FD.2.1.2.2.2
      have m10 := q7_money (C := C) (p := 10) (d := m) (a := 0) (V := vyN D m) kk2 g6 k3 hV' (g7 m 4 (by omega)) (g7 m 8 (by omega)) g5 (by omega)
      rw [mnF_ag hO d5', e8] at m10
      have m3 := q7_money (C := L) (p := 3) (d := n) (a := 0) (V := vyN B n) kk1 f6 rk hV (ln 4) (ln 8) f5 (by omega)
      have m3' : fX7_moneyOfAll (E.1 + 3) (St E L) = some (iI (mnF (vyN B n) (B.1 n 8).toNat), St E L) := m3
      rw [d1]
      simp only [fX8_other_b108, e10, g8_8 rc kD, some_bind, g1, g2, m10, f1, m3', iI_sub]
    · have mo4 : fX9_other (E.1 + mo) (iI k) (St E L) = fX9_other_b43 (E.1 + mo) (iI k) (iI (mnF (vyN B n) (B.1 n 8).toNat)) (E.1 + mo) (iI (bI (k = 0))) (St E K) := by
        simp (disch := omega) only [fX9_other, c9 rm.1, p9_0 rm.1, some_bind, mg_isValley f3, ln, iI_0, ib, jI_i, jI_0, jI_4, m_in, p1, iI_eq]
        rw [if_pos hst, if_pos ⟨c1, c2⟩, itb (fun y => fX9_other_b43 (E.1 + mo) (iI k) (iI (mnF (vyN B n) (B.1 n 8).toNat)) (E.1 + mo) y (St E K))]
      rw [mo4, m_oth rm c1 c2, z1, some_bind, mz, some_bind, iI_sub, e8]
  · refine QF_no F (v := iI (-1000000)) ?_ ?_
    · simp (disch := omega) only [fX8_other, fX8_other_b19, c8 rc, g8_7 rc rn, s_stands rk F.1.2.1, some_bind, iI_0, ib, iI_lt, iI_le]
      by_cases q : 0 < B.1 n 0
      · rw [if_pos q]
        by_cases q2 : k < 0
        · rw [if_pos q2]
        · rw [if_neg q2, if_neg (fun w => c ⟨q, by omega, w⟩)]
      · rw [if_neg q]
    · simp (disch := omega) only [fX9_other, fX9_other_b24, c9 rm.1, p9_0 rm.1, some_bind, mg_isValley F, iI_0, ib, jI_i, jI_0, jI_4, m_in]
      by_cases q : 0 < B.1 n 0
      · rw [if_pos q, if_neg (fun w => c ⟨q, w⟩)]
      · rw [if_neg q]
end OU
