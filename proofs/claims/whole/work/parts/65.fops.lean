/-! questions about the flight: where, why, vain, blown, sales, money, grounded -/
def QF (E : Ev) (B : Bk) (n m : Nat) (f g : Hp → Option (Int32 × Hp)) : Prop := ∃ v B1 B2, f (St E B) = some (v, St E B1) ∧ g (St E B1) = some (v, St E B2) ∧ fF m B B2 ∧ FB E B2 n m
section FQO
variable {E : Ev} {B C : Bk} {n m : Nat} {f g : Hp → Option (Int32 × Hp)}
theorem QF_no (F : FB E B n m) {v : Int32} (hf : f (St E B) = some (v, St E B)) (hg : g (St E B) = some (v, St E (wI B mo 0 0))) : QF E B n m f g :=
  ⟨v, B, wI B mo 0 0, hf, hg, fF_sc (sc_I (by unfold msv; omega)), sc_FB (sc_I (by unfold msv; omega)) F⟩
theorem QF_fl (F : FB E B n m) (hst : 0 < B.1 n 0) {k : Nat × Hp → Option (Int32 × Hp)} {k2 : Hp → Option (Int32 × Hp)} {v : Int32} (hf : f (St E B) = (fX8_flown (E.1 + co) (St E B)).bind k)
    (hk : ∀ C, FB E C n m → (∀ j, C.1 n j = B.1 n j) → FP C 3 (vyN B n) 0 (B.1 n 4).toNat → C.2.2.1 3 6 = some n → vyN C n = vyN B n → k (E.1 + 3, St E C) = some (v, St E C))
    (hg : ∀ C, FB E C n m → (∀ j, C.1 n j = B.1 n j) → g (St E C) = (fX9_asTold (E.1 + mo) (St E (wI C mo 0 0))).bind k2)
    (hk2 : ∀ C, FB E C n m → (∀ j, C.1 n j = B.1 n j) → FQ C (vyN B n) (B.1 n 4).toNat → FW C (vyN B n) (fsF (vyN B n) (B.1 n 4).toNat).2 → vyN C n = vyN B n → ∃ C', k2 (St E C) = some (v, St E C') ∧ sc C C') : QF E B n m f g := by
  have hmo : mo = 58 := rfl
  obtain ⟨n1, n2, m1, m2, nm⟩ := F.2.2.1
  obtain ⟨C, e1, c1, c2, c3, c4, c5⟩ := s8_flown F hst
  have cn : ∀ j, C.1 n j = B.1 n j := fF_n c1 n1 n2 (by omega)
  have s0 : sc C (wI C mo 0 0) := sc_I (by unfold msv; omega)
  have F0 := sc_FB s0 c2
  have wn : ∀ j, (wI C mo 0 0).1 n j = B.1 n j := fun j => by rw [w0n (by omega)]; exact cn j
  have ev0 : vyN (wI C mo 0 0) n = vyN B n := by rw [← c3]; exact vyN_eq (fun j => w0n (by omega) j) (fun _ _ _ _ => rfl)
  obtain ⟨D, d1, d2, d3, d4⟩ := m_asTold F0 (by rw [wn]; exact hst)
  rw [ev0, wn] at d3 d4
  have Fd := sc_FB d2 F0
  have dn : ∀ j, D.1 n j = B.1 n j := fun j => by rw [sc_n d2 (by omega)]; exact wn j
  have evd : vyN D n = vyN B n := by rw [← ev0]; exact vyN_eq (sc_n d2 (by omega)) (fun k z a b => sc_r d2 (by omega) z)
  obtain ⟨K, k1, k2'⟩ := hk2 D Fd dn d3 d4 evd
  refine ⟨v, C, K, ?_, ?_, fF_tr c1 (fF_sc (sc_tr (sc_tr s0 d2) k2')), sc_FB k2' Fd⟩
  · rw [hf, e1, some_bind]
    exact hk C c2 cn c4 c5 c3
  · rw [hg C c2 cn, d1, some_bind, k1]
/-! the reference's guards behind its flag -/
theorem mg_isShop {s : Int} (F : FB E C n m) (hs : i32 s) : fX9_isShop (E.1 + mo) (iI s) (St E (wI C mo 0 0)) = some (iI (bI (0 ≤ s ∧ s < C.1 n 8)), St E (wI C mo 0 0)) := by
  have hn : n < 58 := by have := F.2.2.1; omega
  rw [m_isShop hs F.1.1.2.2.2 (rv_mw (rv_0 F.1 hn)), vr_h7 (rv_0 F.1 hn), w0n hn]
theorem mg_isDoor {s : Int} (F : FB E C n m) (hs : i32 s) : fX9_isDoor (E.1 + mo) (iI s) (St E (wI C mo 0 0)) = some (iI (bI (0 ≤ s ∧ s < C.1 n 9)), St E (wI C mo 0 0)) := by
  have hn : n < 58 := by have := F.2.2.1; omega
  rw [m_isDoor hs F.1.1.2.2.2 (rv_mw (rv_0 F.1 hn)), vr_h8 (rv_0 F.1 hn), w0n hn]
theorem mg_isLayer {s : Int} (F : FB E C n m) (hs : i32 s) : fX9_isLayer (E.1 + mo) (iI s) (St E (wI C mo 0 0)) = some (iI (bI (0 ≤ s ∧ s < C.1 n 3)), St E (wI C mo 0 0)) := by
  have hn : n < 58 := by have := F.2.2.1; omega
  rw [m_isLayer hs F.1.1.2.2.2 (rv_mw (rv_0 F.1 hn)), vr_h2 (rv_0 F.1 hn), w0n hn]
theorem mg_isHour {s : Int} (F : FB E C n m) (hs : i32 s) : fX9_isHour (E.1 + mo) (Int32.toInt64 (iI s)) (St E (wI C mo 0 0)) = some (iI (bI (0 ≤ s ∧ s < C.1 n 4)), St E (wI C mo 0 0)) := by
  have hn : n < 58 := by have := F.2.2.1; omega
  rw [jI_i hs.1 hs.2, m_isHour (i3264 hs) F.1.1.2.2.2 (rv_mw (rv_0 F.1 hn)), vr_h3 (rv_0 F.1 hn), w0n hn]
theorem mg_isValley (F : FB E C n m) : fX9_isValley (E.1 + mo) (St E (wI C mo 0 0)) = some (iI (bI (0 < C.1 n 0)), St E (wI C mo 0 0)) := by
  have hn : n < 58 := by have := F.2.2.1; omega
  rw [m_isValley F.1.1.2.2.2 (rv_mw (rv_0 F.1 hn)), vr_l (rv_0 F.1 hn), w0n hn]
theorem mg_isColumn {x y : Int} (F : FB E C n m) (hx : i32 x) (hy : i32 y) : fX9_isColumn (E.1 + mo) (Int32.toInt64 (iI x)) (Int32.toInt64 (iI y)) (St E (wI C mo 0 0)) = some (iI (bI ((0 ≤ x ∧ x < C.1 n 1) ∧ (0 ≤ y ∧ y < C.1 n 2))), St E (wI C mo 0 0)) := by
  have hn : n < 58 := by have := F.2.2.1; omega
  rw [jI_i hx.1 hx.2, jI_i hy.1 hy.2, m_isColumn (i3264 hx) (i3264 hy) F.1.1.2.2.2 (rv_mw (rv_0 F.1 hn)), vr_h0 (rv_0 F.1 hn), vr_h1 (rv_0 F.1 hn), w0n hn, w0n hn]
theorem mg_areTwo {x y : Int} (F : FB E C n m) (hx : i32 x) (hy : i32 y) : fX9_areTwo (E.1 + mo) (iI x) (iI y) (St E (wI C mo 0 0)) = some (iI (bI ((0 ≤ x ∧ x < C.1 n 8) ∧ (0 ≤ y ∧ y < C.1 n 8) ∧ ¬ x = y)), St E (wI C mo 0 0)) := by
  have hn : n < 58 := by have := F.2.2.1; omega
  rw [m_areTwo hx hy F.1.1.2.2.2 (rv_mw (rv_0 F.1 hn)), vr_h7 (rv_0 F.1 hn), w0n hn]
theorem st_shop (F : FB E B n m) {s : Int} (h : 0 ≤ s ∧ s < B.1 n 8) : 0 < B.1 n 0 := by
  have w0 := F.1.2.1.1
  by_cases q : 0 < B.1 n 0
  · exact q
  · have := F.1.2.2.2.2.2.1 (by omega)
    omega
theorem st_door (F : FB E B n m) {s : Int} (h : 0 ≤ s ∧ s < B.1 n 9) : 0 < B.1 n 0 := by
  have w0 := F.1.2.1.1
  by_cases q : 0 < B.1 n 0
  · exact q
  · have := F.1.2.2.2.2.2.1 (by omega)
    omega
theorem st_col (F : FB E B n m) {s : Int} (h : 0 ≤ s ∧ s < B.1 n 1) : 0 < B.1 n 0 := by
  have w0 := F.1.2.1.1
  by_cases q : 0 < B.1 n 0
  · exact q
  · have := F.1.2.2.2.2.2.1 (by omega)
    omega
theorem q9_spot {V : Vy} {s h H : Nat} {k : Int} (rm : mKd E mo) (hV : VOK V) (I : FQ C V H) (s1 : (s : Int) < V.1 8) (h1 : h + 1 ≤ H) (h2 : h < 24) (k0 : 0 ≤ k) (k1 : k < 7) : fX9_spotOf (E.1 + mo) (iI s) (iI h) (iI k) (St E C) = some (iI ((fsF V (h + 1)).1 s k), St E C) := by
  have b8 := hV.2.2.2.2.2.2.2.1
  have e := I.1 (h + 1) s k h1 s1 k0 k1
  rw [show ((h + 1 : Nat) : Int) = (h : Int) + 1 by omega] at e
  simp (disch := omega) only [fX9_spotOf, c9 rm.1, g9_28 rm.1, some_bind, iI_add, iI_mul, aI_ok (mk15 rm), e]
theorem whyF_b {V : Vy} {h s : Nat} : 0 ≤ whyF V h s ∧ whyF V h s ≤ 4 := by
  unfold whyF whyS
  repeat' split
  all_goals omega
theorem sldF_b {V : Vy} {h s : Nat} (hV : VOK V) : -1 ≤ sldF V h s ∧ sldF V h s < 5 := by
  have b9 := hV.2.2.2.2.2.2.2.2.1
  have := stD_b (h := h) (s := s) (v := (fsF V h).1 s) (w := (fsB V h s).2) hV
  unfold sldF
  omega
theorem o_where {s h k : Int} (F : FB E B n m) (hs : i32 s) (hh : i32 h) (hk : i32 k) : QF E B n m (fX8_where (E.1 + co) (iI s) (iI h) (iI k)) (fX9_where (E.1 + mo) (iI s) (iI h) (iI k)) := by
  have rc := F.1.1.1
  have rm := F.1.1.2.2.2
  have w4 := F.1.2.1.2.2.2.2.1
  have g1 := s8_hasShopHour F.1 hs hh
  obtain ⟨k1, k2⟩ := hk
  have rf : ∀ C, FB E C n m → (∀ j, C.1 n j = B.1 n j) → fX9_where (E.1 + mo) (iI s) (iI h) (iI k) (St E C) = if (0 ≤ s ∧ s < B.1 n 8) then (if (0 ≤ h ∧ h < B.1 n 4) then (if 0 ≤ k ∧ k ≤ 6 then (fX9_asTold (E.1 + mo) (St E (wI C mo 0 0))).bind (fun s8 => (fX9_spotOf (E.1 + mo) (iI s) (iI h) (iI k) s8).bind fun r9 => some (r9.1, r9.2)) else some (iI (-2), St E (wI C mo 0 0))) else some (iI (-2), St E (wI C mo 0 0))) else some (iI (-2), St E (wI C mo 0 0)) := fun C FC cn => by
    simp (disch := omega) only [fX9_where, fX9_where_b34, c9 rm.1, p9_0 rm.1, some_bind, mg_isShop FC hs, mg_isHour FC hh, iI_0, ib, cn, jI_i, jI_0, jI_6, m_in]
  by_cases c : ((0 ≤ s ∧ s < B.1 n 8) ∧ (0 ≤ h ∧ h < B.1 n 4)) ∧ 0 ≤ k ∧ k ≤ 6
  · obtain ⟨⟨c1, c2⟩, c3⟩ := c
    have hst := st_shop F c1
    have hV := rv_VOK F.1 hst
    obtain ⟨t, rfl⟩ : ∃ t : Nat, s = t := ⟨s.toNat, by omega⟩
    obtain ⟨u, rfl⟩ : ∃ u : Nat, h = u := ⟨h.toNat, by omega⟩
    refine QF_fl F hst (v := iI ((fsF (vyN B n) (u + 1)).1 t k)) (k := fun r5 => (fX7_factBehind r5.1 (iI t) (iI u) (iI k) r5.2).bind fun r6 => some (r6.1, r6.2)) (k2 := fun s8 => (fX9_spotOf (E.1 + mo) (iI t) (iI u) (iI k) s8).bind fun r9 => some (r9.1, r9.2)) ?_ (fun C FC cn I _ _ => ?_) (fun C FC cn => ?_) (fun C FC cn I J _ => ⟨C, ?_, sc_rfl⟩)
    · simp (disch := omega) only [fX8_where, fX8_where_b19, c8 rc, g1, some_bind, iI_0, ib, iI_lt]
      rw [if_pos ⟨c1, c2⟩, if_neg (by omega), if_pos (by omega)]
    · dsimp only
      rw [q7_fact FC.2.1.1 I hV c1.2 (by omega) (by omega) (by omega) c3.1 (by omega), some_bind]
    · rw [rf C FC cn, if_pos c1, if_pos c2, if_pos c3]
    · rw [q9_spot rm hV I c1.2 (by omega) (by omega) c3.1 (by omega), some_bind]
  · refine QF_no F (v := iI (-2)) ?_ ?_
    · simp (disch := omega) only [fX8_where, fX8_where_b19, c8 rc, g1, some_bind, iI_0, ib, iI_lt]
      by_cases c1 : (0 ≤ s ∧ s < B.1 n 8) ∧ (0 ≤ h ∧ h < B.1 n 4)
      · rw [if_pos c1]
        by_cases c2 : k < 0
        · rw [if_pos c2]
        · rw [if_neg c2, if_neg (by omega)]
      · rw [if_neg c1]
    · rw [rf B F (fun _ => rfl)]
      repeat' split
      all_goals first | rfl | (exfalso; omega)
theorem o_why {s h : Int} (F : FB E B n m) (hs : i32 s) (hh : i32 h) : QF E B n m (fX8_why (E.1 + co) (iI s) (iI h)) (fX9_why (E.1 + mo) (iI s) (iI h)) := by
  have rc := F.1.1.1
  have rm := F.1.1.2.2.2
  have w4 := F.1.2.1.2.2.2.2.1
  have w8 := F.1.2.1.2.2.2.2.2.2.2.2.1
  have g1 := s8_hasShopHour F.1 hs hh
  have rf : ∀ C, FB E C n m → (∀ j, C.1 n j = B.1 n j) → fX9_why (E.1 + mo) (iI s) (iI h) (St E C) = if (0 ≤ s ∧ s < B.1 n 8) then (if (0 ≤ h ∧ h < B.1 n 4) then (fX9_asTold (E.1 + mo) (St E (wI C mo 0 0))).bind (fun s6 => (gR s6 (E.1 + mo) 9 29).bind fun v7 => (aI s6 v7 (((iI 24) * iI s) + iI h)).bind fun v8 => some (v8, s6)) else some (iI (-2), St E (wI C mo 0 0))) else some (iI (-2), St E (wI C mo 0 0)) := fun C FC cn => by
    simp only [fX9_why, fX9_why_b22, c9 rm.1, p9_0 rm.1, some_bind, mg_isShop FC hs, mg_isHour FC hh, iI_0, ib, cn]
  by_cases c : (0 ≤ s ∧ s < B.1 n 8) ∧ (0 ≤ h ∧ h < B.1 n 4)
  · obtain ⟨c1, c2⟩ := c
    have hst := st_shop F c1
    have hV := rv_VOK F.1 hst
    obtain ⟨t, rfl⟩ : ∃ t : Nat, s = t := ⟨s.toNat, by omega⟩
    obtain ⟨u, rfl⟩ : ∃ u : Nat, h = u := ⟨h.toNat, by omega⟩
    refine QF_fl F hst (v := iI (whyF (vyN B n) u t)) (k := fun r5 => (fX7_reasonAt r5.1 (iI t) (iI u) r5.2).bind fun r6 => some (r6.1, r6.2)) (k2 := fun s6 => (gR s6 (E.1 + mo) 9 29).bind fun v7 => (aI s6 v7 (((iI 24) * iI t) + iI u)).bind fun v8 => some (v8, s6)) ?_ (fun C FC cn I _ _ => ?_) (fun C FC cn => ?_) (fun C FC cn I J _ => ⟨C, ?_, sc_rfl⟩)
    · simp only [fX8_why, c8 rc, g1, some_bind, iI_0, ib]
      rw [if_pos ⟨c1, c2⟩]
    · dsimp only
      rw [q7_reason FC.2.1.1 I hV c1.2 (by omega) (by omega) (by omega), some_bind]
    · rw [rf C FC cn, if_pos c1, if_pos c2]
    · have e := (I.2 u t (by omega) c1.2).1
      simp (disch := omega) only [g9_29 rm.1, some_bind, iI_mul, iI_add, aI_ok (mk16 rm), e]
  · refine QF_no F (v := iI (-2)) ?_ ?_
    · simp only [fX8_why, c8 rc, g1, some_bind, iI_0, ib]
      rw [if_neg c]
    · rw [rf B F (fun _ => rfl)]
      repeat' split
      all_goals first | rfl | (exfalso; omega)
theorem blw_same {V : Vy} {h s : Nat} (hg : ∀ l h, V.2.2.2.2.2 l h = 0) : blwF V h s = bl1F V h s := by
  unfold blwF bl1F stC carS
  rw [if_pos (hg _ _)]
theorem o_blown {s h : Int} (F : FB E B n m) (hs : i32 s) (hh : i32 h) : QF E B n m (fX8_blown (E.1 + co) (iI s) (iI h)) (fX9_blown (E.1 + mo) (iI s) (iI h)) := by
  have rc := F.1.1.1
  have rm := F.1.1.2.2.2
  have w4 := F.1.2.1.2.2.2.2.1
  have w8 := F.1.2.1.2.2.2.2.2.2.2.2.1
  have g1 := s8_hasShopHour F.1 hs hh
  have rf : ∀ C, FB E C n m → (∀ j, C.1 n j = B.1 n j) → fX9_blown (E.1 + mo) (iI s) (iI h) (St E C) = if (0 ≤ s ∧ s < B.1 n 8) then (if (0 ≤ h ∧ h < B.1 n 4) then (fX9_asTold (E.1 + mo) (St E (wI C mo 0 0))).bind (fun s6 => (gR s6 (E.1 + mo) 9 30).bind fun v7 => (aZ s6 v7 (((iI 24) * iI s) + iI h)).bind fun v8 => if v8 = iI 0 then some (iI 0, s6) else some (iI 1, s6)) else some (iI (-2), St E (wI C mo 0 0))) else some (iI (-2), St E (wI C mo 0 0)) := fun C FC cn => by
    simp only [fX9_blown, fX9_blown_b22, c9 rm.1, p9_0 rm.1, some_bind, mg_isShop FC hs, mg_isHour FC hh, iI_0, ib, cn]
  by_cases c : (0 ≤ s ∧ s < B.1 n 8) ∧ (0 ≤ h ∧ h < B.1 n 4)
  · obtain ⟨c1, c2⟩ := c
    have hst := st_shop F c1
    have hV := rv_VOK F.1 hst
    obtain ⟨t, rfl⟩ : ∃ t : Nat, s = t := ⟨s.toNat, by omega⟩
    obtain ⟨u, rfl⟩ : ∃ u : Nat, h = u := ⟨h.toNat, by omega⟩
    have bb := blw_same (V := vyN B n) (h := u) (s := t) (fun _ _ => rfl)
    refine QF_fl F hst (v := if iI (blwF (vyN B n) u t) = iI 0 then iI 0 else iI 1) (k := fun r5 => (fX7_isCarriedAt r5.1 (iI t) (iI u) r5.2).bind fun r4 => if r4.1 = iI 0 then some (iI 0, r4.2) else some (iI 1, r4.2)) (k2 := fun s6 => (gR s6 (E.1 + mo) 9 30).bind fun v7 => (aZ s6 v7 (((iI 24) * iI t) + iI u)).bind fun v8 => if v8 = iI 0 then some (iI 0, s6) else some (iI 1, s6)) ?_ (fun C FC cn I _ _ => ?_) (fun C FC cn => ?_) (fun C FC cn I J _ => ⟨C, ?_, sc_rfl⟩)
    · simp only [fX8_blown, c8 rc, g1, some_bind, iI_0, ib]
      rw [if_pos ⟨c1, c2⟩]
    · dsimp only
      rw [q7_carried FC.2.1.1 I hV c1.2 (by omega) (by omega) (by omega), some_bind]
      split <;> rfl
    · rw [rf C FC cn, if_pos c1, if_pos c2]
    · have e := (I.2 u t (by omega) c1.2).2.1
      simp (disch := omega) only [g9_30 rm.1, some_bind, iI_mul, iI_add, aZ_ok (mk17 rm), e]
      rw [bb]
      split <;> rfl
  · refine QF_no F (v := iI (-2)) ?_ ?_
    · simp only [fX8_blown, c8 rc, g1, some_bind, iI_0, ib]
      rw [if_neg c]
    · rw [rf B F (fun _ => rfl)]
      repeat' split
      all_goals first | rfl | (exfalso; omega)
end FQO
