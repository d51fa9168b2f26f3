/-! questions about the flight, by loops: vain, sales, grounded, over, meets, money -/
theorem or0 (x : Int32) : x ||| iI 0 = x := by
  rw [← iI_0]
  simp
section FQP
variable {E : Ev} {B C : Bk} {n m : Nat}
theorem FUh {x : Int} (h : x ≤ 24) : x.toNat < FU := by have := FU_big (n := x) (by omega); have : (0 : Int) < FU := FU_big (by omega); omega
theorem o_vain {s : Int} (F : FB E B n m) (hs : i32 s) : QF E B n m (fX8_vain (E.1 + co) (iI s)) (fX9_vain (E.1 + mo) (iI s)) := by
  have rc := F.1.1.1
  have rn := F.1.1.2.1
  have rk := F.1.1.2.2.1
  have rm := F.1.1.2.2.2
  have w4 := F.1.2.1.2.2.2.2.1
  have w8 := F.1.2.1.2.2.2.2.2.2.2.2.1
  have rf : ∀ C, FB E C n m → (∀ j, C.1 n j = B.1 n j) → fX9_vain (E.1 + mo) (iI s) (St E C) = if (0 ≤ s ∧ s < B.1 n 8) then (fX9_asTold (E.1 + mo) (St E (wI C mo 0 0))).bind (fun s4 => (iter (fX9_vain_l24 (E.1 + mo) (iI s)) FU (iI 0, iI 0, s4)).bind fun r12 => some (r12.1, r12.2)) else some (iI (-2), St E (wI C mo 0 0)) := fun C FC cn => by
    simp only [fX9_vain, c9 rm.1, p9_0 rm.1, some_bind, mg_isShop FC hs, iI_0, ib, cn]
  by_cases c1 : 0 ≤ s ∧ s < B.1 n 8
  · have hst := st_shop F c1
    have hV := rv_VOK F.1 hst
    obtain ⟨t, rfl⟩ : ∃ t : Nat, s = t := ⟨s.toNat, by omega⟩
    refine QF_fl F hst (v := fo (fun h x => x + (if whyF (vyN B n) h.toNat t = 0 then iI 0 else iI 1)) (iI 0) (B.1 n 4).toNat) (k := fun r5 => (iter (fX8_vain_l24 (E.1 + co) (iI t) r5.1) FU (iI 0, iI 0, r5.2)).bind fun r11 => some (r11.1, r11.2)) (k2 := fun s4 => (iter (fX9_vain_l24 (E.1 + mo) (iI t)) FU (iI 0, iI 0, s4)).bind fun r12 => some (r12.1, r12.2)) ?_ (fun C FC cn I _ _ => ?_) (fun C FC cn => ?_) (fun C FC cn I J _ => ⟨C, ?_, sc_rfl⟩)
    · simp only [fX8_vain, c8 rc, g8_7 rc rn, s_hasShop hs rk F.1.2.1, some_bind, iI_0, ib]
      rw [if_pos c1]
    · have lp : iter (fX8_vain_l24 (E.1 + co) (iI t) (E.1 + 3)) FU (iI 0, iI 0, St E C) = some (fo (fun h x => x + (if whyF (vyN B n) h.toNat t = 0 then iI 0 else iI 1)) (iI 0) (B.1 n 4).toNat, St E C) := by
        refine iter_fo (fun j x => (x, iI j, St E C)) (fun h x => x + (if whyF (vyN B n) h.toNat t = 0 then iI 0 else iI 1)) (iI 0) (B.1 n 4).toNat _ (fun _ _ => True) trivial (fun _ _ _ _ => trivial) (fun j x hj _ => ?_) ?_ (N := FU) (FUh w4.2)
        · have wb := whyF_b (V := vyN B n) (h := j) (s := t)
          simp (disch := omega) only [fX8_vain_l24, fX8_vain_b52, g8_7 rc FC.1.1.2.1, g6_4 rk.1, cn, some_bind, iI_le, q7_reason (h := j) FC.2.1.1 I hV c1.2 (by omega) (by omega) (by omega), iI_0, iI_eq, lt_, iI_add, Int.toNat_natCast]
          rw [if_neg (by omega)]
          split <;> rfl
        · simp (disch := omega) only [fX8_vain_l24, g8_7 rc FC.1.1.2.1, g6_4 rk.1, cn, some_bind, iI_le]
          rw [if_pos (by omega)]
      dsimp only
      rw [lp, some_bind]
    · rw [rf C FC cn, if_pos c1]
    · have lp : iter (fX9_vain_l24 (E.1 + mo) (iI t)) FU (iI 0, iI 0, St E C) = some (fo (fun h x => x + (if whyF (vyN B n) h.toNat t = 0 then iI 0 else iI 1)) (iI 0) (B.1 n 4).toNat, St E C) := by
        have h3 := vr_h3 FC.1
        refine iter_fo (fun j x => (x, iI j, St E C)) (fun h x => x + (if whyF (vyN B n) h.toNat t = 0 then iI 0 else iI 1)) (iI 0) (B.1 n 4).toNat _ (fun _ _ => True) trivial (fun _ _ _ _ => trivial) (fun j x hj _ => ?_) ?_ (N := FU) (FUh w4.2)
        · have wb := whyF_b (V := vyN B n) (h := j) (s := t)
          have e := (I.2 j t (by omega) c1.2).1
          simp (disch := omega) only [fX9_vain_l24, fX9_vain_b54, g9_17 rm.1, aI_ok (mk7 rm), h3, cn, some_bind, iI_le, g9_29 rm.1, iI_mul, iI_add, aI_ok (mk16 rm), e, iI_0, iI_eq, lt_, Int.toNat_natCast]
          rw [if_neg (by omega)]
          split <;> rfl
        · simp (disch := omega) only [fX9_vain_l24, g9_17 rm.1, aI_ok (mk7 rm), h3, cn, some_bind, iI_le]
          rw [if_pos (by omega)]
      rw [lp, some_bind]
  · refine QF_no F (v := iI (-2)) ?_ ?_
    · simp only [fX8_vain, c8 rc, g8_7 rc rn, s_hasShop hs rk F.1.2.1, some_bind, iI_0, ib]
      rw [if_neg c1]
    · rw [rf B F (fun _ => rfl), if_neg c1]
theorem o_sales {s d : Int} (F : FB E B n m) (hs : i32 s) (hd : i32 d) : QF E B n m (fX8_sales (E.1 + co) (iI s) (iI d)) (fX9_sales (E.1 + mo) (iI s) (iI d)) := by
  have rc := F.1.1.1
  have rn := F.1.1.2.1
  have rk := F.1.1.2.2.1
  have rm := F.1.1.2.2.2
  have w4 := F.1.2.1.2.2.2.2.1
  have w8 := F.1.2.1.2.2.2.2.2.2.2.2.1
  have hd' := hd
  obtain ⟨d1, d2⟩ := hd'
  have rf : ∀ C, FB E C n m → (∀ j, C.1 n j = B.1 n j) → fX9_sales (E.1 + mo) (iI s) (iI d) (St E C) = if (0 ≤ s ∧ s < B.1 n 8) then (if d = -1 then fX9_sales_b29 (E.1 + mo) (iI s) (iI d) (St E (wI C mo 0 0)) else if 0 ≤ d ∧ d < B.1 n 9 then fX9_sales_b29 (E.1 + mo) (iI s) (iI d) (St E (wI C mo 0 0)) else some (iI (-2), St E (wI C mo 0 0))) else some (iI (-2), St E (wI C mo 0 0)) := fun C FC cn => by
    simp (disch := omega) only [fX9_sales, fX9_sales_b26, c9 rm.1, p9_0 rm.1, some_bind, mg_isShop FC hs, mg_isDoor FC hd, iI_0, ib, cn, iI_eq]
  have cf : fX8_sales (E.1 + co) (iI s) (iI d) (St E B) = if (0 ≤ s ∧ s < B.1 n 8) then (if d = -1 then fX8_sales_b30 (E.1 + co) (iI s) (iI d) (St E B) else if 0 ≤ d ∧ d < B.1 n 9 then fX8_sales_b30 (E.1 + co) (iI s) (iI d) (St E B) else some (iI (-2), St E B)) else some (iI (-2), St E B) := by
    simp (disch := omega) only [fX8_sales, fX8_sales_b27, c8 rc, g8_7 rc rn, s_hasShop hs rk F.1.2.1, s_hasDoor hd rk F.1.2.1, some_bind, iI_0, ib, iI_eq]
  by_cases c : (0 ≤ s ∧ s < B.1 n 8) ∧ (d = -1 ∨ (0 ≤ d ∧ d < B.1 n 9))
  · obtain ⟨c1, c2⟩ := c
    have hst := st_shop F c1
    have hV := rv_VOK F.1 hst
    obtain ⟨t, rfl⟩ : ∃ t : Nat, s = t := ⟨s.toNat, by omega⟩
    refine QF_fl F hst (v := fo (fun h x => x + (if ¬ sldF (vyN B n) h.toNat t = -1 ∧ (d = -1 ∨ d = sldF (vyN B n) h.toNat t) then iI 1 else iI 0)) (iI 0) (B.1 n 4).toNat) (k := fun r5 => (iter (fX8_sales_l41 (E.1 + co) (iI t) (iI d) r5.1) FU (iI 0, iI 0, r5.2)).bind fun r11 => some (r11.1, r11.2)) (k2 := fun s4 => (iter (fX9_sales_l38 (E.1 + mo) (iI t) (iI d)) FU (iI 0, iI 0, s4)).bind fun r12 => some (r12.1, r12.2)) ?_ (fun C FC cn I _ _ => ?_) (fun C FC cn => ?_) (fun C FC cn I J _ => ⟨C, ?_, sc_rfl⟩)
    · rw [cf, if_pos c1]
      by_cases q : d = -1
      · rw [if_pos q]
        rfl
      · rw [if_neg q, if_pos (by omega)]
        rfl
    · have lp : iter (fX8_sales_l41 (E.1 + co) (iI t) (iI d) (E.1 + 3)) FU (iI 0, iI 0, St E C) = some (fo (fun h x => x + (if ¬ sldF (vyN B n) h.toNat t = -1 ∧ (d = -1 ∨ d = sldF (vyN B n) h.toNat t) then iI 1 else iI 0)) (iI 0) (B.1 n 4).toNat, St E C) := by
        refine iter_fo (fun j x => (x, iI j, St E C)) (fun h x => x + (if ¬ sldF (vyN B n) h.toNat t = -1 ∧ (d = -1 ∨ d = sldF (vyN B n) h.toNat t) then iI 1 else iI 0)) (iI 0) (B.1 n 4).toNat _ (fun _ _ => True) trivial (fun _ _ _ _ => trivial) (fun j x hj _ => ?_) ?_ (N := FU) (FUh w4.2)
        · have wb := sldF_b (V := vyN B n) (h := j) (s := t) hV
          simp (disch := omega) only [fX8_sales_l41, fX8_sales_b85, fX8_sales_b81, fX8_sales_b86, g8_7 rc FC.1.1.2.1, g6_4 rk.1, cn, some_bind, iI_le, q7_sale (h := j) FC.2.1.1 I hV c1.2 (by omega) (by omega) (by omega), iI_eq, lt_, iI_add, Int.toNat_natCast]
          rw [if_neg (by omega)]
          repeat' split
          all_goals first | rfl | (exfalso; omega)
        · simp (disch := omega) only [fX8_sales_l41, g8_7 rc FC.1.1.2.1, g6_4 rk.1, cn, some_bind, iI_le]
          rw [if_pos (by omega)]
      dsimp only
      rw [lp, some_bind]
    · rw [rf C FC cn, if_pos c1]
      by_cases q : d = -1
      · rw [if_pos q]
        rfl
      · rw [if_neg q, if_pos (by omega)]
        rfl
    · have lp : iter (fX9_sales_l38 (E.1 + mo) (iI t) (iI d)) FU (iI 0, iI 0, St E C) = some (fo (fun h x => x + (if ¬ sldF (vyN B n) h.toNat t = -1 ∧ (d = -1 ∨ d = sldF (vyN B n) h.toNat t) then iI 1 else iI 0)) (iI 0) (B.1 n 4).toNat, St E C) := by
        have h3 := vr_h3 FC.1
        refine iter_fo (fun j x => (x, iI j, St E C)) (fun h x => x + (if ¬ sldF (vyN B n) h.toNat t = -1 ∧ (d = -1 ∨ d = sldF (vyN B n) h.toNat t) then iI 1 else iI 0)) (iI 0) (B.1 n 4).toNat _ (fun _ _ => True) trivial (fun _ _ _ _ => trivial) (fun j x hj _ => ?_) ?_ (N := FU) (FUh w4.2)
        · have wb := sldF_b (V := vyN B n) (h := j) (s := t) hV
          have e := (I.2 j t (by omega) c1.2).2.2
          simp (disch := omega) only [fX9_sales_l38, fX9_sales_b91, fX9_sales_b87, fX9_sales_b92, g9_17 rm.1, aI_ok (mk7 rm), h3, cn, some_bind, iI_le, g9_31 rm.1, iI_mul, iI_add, aI_ok (mk18 rm), e, iI_eq, lt_, Int.toNat_natCast]
          rw [if_neg (by omega)]
          repeat' split
          all_goals first | rfl | (exfalso; omega)
        · simp (disch := omega) only [fX9_sales_l38, g9_17 rm.1, aI_ok (mk7 rm), h3, cn, some_bind, iI_le]
          rw [if_pos (by omega)]
      rw [lp, some_bind]
  · refine QF_no F (v := iI (-2)) ?_ ?_
    · rw [cf]
      repeat' split
      all_goals first | rfl | (exfalso; omega)
    · rw [rf B F (fun _ => rfl)]
      repeat' split
      all_goals first | rfl | (exfalso; omega)
theorem o_grounded {s : Int} (F : FB E B n m) (hs : i32 s) : QF E B n m (fX8_grounded (E.1 + co) (iI s)) (fX9_grounded (E.1 + mo) (iI s)) := by
  have rc := F.1.1.1
  have rn := F.1.1.2.1
  have rk := F.1.1.2.2.1
  have rm := F.1.1.2.2.2
  have w4 := F.1.2.1.2.2.2.2.1
  have w8 := F.1.2.1.2.2.2.2.2.2.2.2.1
  have rf : ∀ C, FB E C n m → (∀ j, C.1 n j = B.1 n j) → fX9_grounded (E.1 + mo) (iI s) (St E C) = if (0 ≤ s ∧ s < B.1 n 8) then (fX9_asTold (E.1 + mo) (St E (wI C mo 0 0))).bind (fun s4 => (iter (fX9_grounded_l24 (E.1 + mo) (iI s)) FU (iI 0, iI 0, s4)).bind fun r12 => some (r12.1, r12.2)) else some (iI (-2), St E (wI C mo 0 0)) := fun C FC cn => by
    simp only [fX9_grounded, c9 rm.1, p9_0 rm.1, some_bind, mg_isShop FC hs, iI_0, ib, cn]
  by_cases c1 : 0 ≤ s ∧ s < B.1 n 8
  · have hst := st_shop F c1
    have hV := rv_VOK F.1 hst
    obtain ⟨t, rfl⟩ : ∃ t : Nat, s = t := ⟨s.toNat, by omega⟩
    refine QF_fl F hst (v := fo (fun h x => if (fsF (vyN B n) (h.toNat + 1)).1 t 2 = 0 then x ||| ish (iI 1) (iI h) else x) (iI 0) (B.1 n 4).toNat) (k := fun r5 => (iter (fX8_grounded_l24 (E.1 + co) (iI t) r5.1) FU (iI 0, iI 0, r5.2)).bind fun r11 => some (r11.1, r11.2)) (k2 := fun s4 => (iter (fX9_grounded_l24 (E.1 + mo) (iI t)) FU (iI 0, iI 0, s4)).bind fun r12 => some (r12.1, r12.2)) ?_ (fun C FC cn I _ _ => ?_) (fun C FC cn => ?_) (fun C FC cn I J _ => ⟨C, ?_, sc_rfl⟩)
    · simp only [fX8_grounded, c8 rc, g8_7 rc rn, s_hasShop hs rk F.1.2.1, some_bind, iI_0, ib]
      rw [if_pos c1]
    · have lp : iter (fX8_grounded_l24 (E.1 + co) (iI t) (E.1 + 3)) FU (iI 0, iI 0, St E C) = some (fo (fun h x => if (fsF (vyN B n) (h.toNat + 1)).1 t 2 = 0 then x ||| ish (iI 1) (iI h) else x) (iI 0) (B.1 n 4).toNat, St E C) := by
        refine iter_fo (fun j x => (x, iI j, St E C)) (fun h x => if (fsF (vyN B n) (h.toNat + 1)).1 t 2 = 0 then x ||| ish (iI 1) (iI h) else x) (iI 0) (B.1 n 4).toNat _ (fun _ _ => True) trivial (fun _ _ _ _ => trivial) (fun j x hj _ => ?_) ?_ (N := FU) (FUh w4.2)
        · have wb := (fsF_in hV (h := j + 1) (s := (t : Int)) (by omega) c1.2).2.2.1
          have w3 := hV.2.2.1
          simp (disch := omega) only [fX8_grounded_l24, fX8_grounded_b54, g8_7 rc FC.1.1.2.1, g6_4 rk.1, cn, some_bind, iI_le, q7_fact (h := j) (k := 2) FC.2.1.1 I hV c1.2 (by omega) (by omega) (by omega) (by omega) (by omega), iI_0, iI_eq, lt_, iI_add, Int.toNat_natCast]
          rw [if_neg (by omega)]
          split <;> rfl
        · simp (disch := omega) only [fX8_grounded_l24, g8_7 rc FC.1.1.2.1, g6_4 rk.1, cn, some_bind, iI_le]
          rw [if_pos (by omega)]
      dsimp only
      rw [lp, some_bind]
    · rw [rf C FC cn, if_pos c1]
    · have lp : iter (fX9_grounded_l24 (E.1 + mo) (iI t)) FU (iI 0, iI 0, St E C) = some (fo (fun h x => if (fsF (vyN B n) (h.toNat + 1)).1 t 2 = 0 then x ||| ish (iI 1) (iI h) else x) (iI 0) (B.1 n 4).toNat, St E C) := by
        have h3 := vr_h3 FC.1
        refine iter_fo (fun j x => (x, iI j, St E C)) (fun h x => if (fsF (vyN B n) (h.toNat + 1)).1 t 2 = 0 then x ||| ish (iI 1) (iI h) else x) (iI 0) (B.1 n 4).toNat _ (fun _ _ => True) trivial (fun _ _ _ _ => trivial) (fun j x hj _ => ?_) ?_ (N := FU) (FUh w4.2)
        · have wb := (fsF_in hV (h := j + 1) (s := (t : Int)) (by omega) c1.2).2.2.1
          have w3 := hV.2.2.1
          simp (disch := omega) only [fX9_grounded_l24, fX9_grounded_b52, g9_17 rm.1, aI_ok (mk7 rm), h3, cn, some_bind, iI_le, q9_spot (h := j) (k := 2) rm hV I c1.2 (by omega) (by omega) (by omega) (by omega), iI_0, iI_eq, lt_, iI_add, Int.toNat_natCast, or0]
          rw [if_neg (by omega)]
          split <;> rfl
        · simp (disch := omega) only [fX9_grounded_l24, g9_17 rm.1, aI_ok (mk7 rm), h3, cn, some_bind, iI_le]
          rw [if_pos (by omega)]
      rw [lp, some_bind]
  · refine QF_no F (v := iI (-2)) ?_ ?_
    · simp only [fX8_grounded, c8 rc, g8_7 rc rn, s_hasShop hs rk F.1.2.1, some_bind, iI_0, ib]
      rw [if_neg c1]
    · rw [rf B F (fun _ => rfl), if_neg c1]
theorem o_over {s x y : Int} (F : FB E B n m) (hs : i32 s) (hx : i32 x) (hy : i32 y) : QF E B n m (fX8_over (E.1 + co) (iI s) (iI x) (iI y)) (fX9_over (E.1 + mo) (iI s) (iI x) (iI y)) := by
  have rc := F.1.1.1
  have rn := F.1.1.2.1
  have rk := F.1.1.2.2.1
  have rm := F.1.1.2.2.2
  have w1 := F.1.2.1.2.1
  have w2 := F.1.2.1.2.2.1
  have w4 := F.1.2.1.2.2.2.2.1
  have w8 := F.1.2.1.2.2.2.2.2.2.2.2.1
  have rf : ∀ C, FB E C n m → (∀ j, C.1 n j = B.1 n j) → fX9_over (E.1 + mo) (iI s) (iI x) (iI y) (St E C) = if (0 ≤ s ∧ s < B.1 n 8) then (if (0 ≤ x ∧ x < B.1 n 1) ∧ (0 ≤ y ∧ y < B.1 n 2) then (fX9_asTold (E.1 + mo) (St E (wI C mo 0 0))).bind (fun s4 => (iter (fX9_over_l37 (E.1 + mo) (iI s) (iI x) (iI y)) FU (iI 0, iI 0, s4)).bind fun r12 => some (r12.1, r12.2)) else some (iI (-2), St E (wI C mo 0 0))) else some (iI (-2), St E (wI C mo 0 0)) := fun C FC cn => by
    simp only [fX9_over, fX9_over_b24, c9 rm.1, p9_0 rm.1, some_bind, mg_isShop FC hs, mg_isColumn FC hx hy, iI_0, ib, cn]
  have cf : fX8_over (E.1 + co) (iI s) (iI x) (iI y) (St E B) = if (0 ≤ s ∧ s < B.1 n 8) then (if (0 ≤ x ∧ x < B.1 n 1) ∧ (0 ≤ y ∧ y < B.1 n 2) then (fX8_flown (E.1 + co) (St E B)).bind (fun r7 => (iter (fX8_over_l38 (E.1 + co) (iI s) (iI x) (iI y) r7.1) FU (iI 0, iI 0, r7.2)).bind fun r12 => some (r12.1, r12.2)) else some (iI (-2), St E B)) else some (iI (-2), St E B) := by
    simp only [fX8_over, fX8_over_b23, c8 rc, g8_7 rc rn, s_hasShop hs rk F.1.2.1, s_hasColumn hx hy rk F.1.2.1, some_bind, iI_0, ib]
  by_cases c : (0 ≤ s ∧ s < B.1 n 8) ∧ (0 ≤ x ∧ x < B.1 n 1) ∧ (0 ≤ y ∧ y < B.1 n 2)
  · obtain ⟨c1, c2⟩ := c
    have hst := st_shop F c1
    have hV := rv_VOK F.1 hst
    obtain ⟨t, rfl⟩ : ∃ t : Nat, s = t := ⟨s.toNat, by omega⟩
    refine QF_fl F hst (v := fo (fun h z => if (fsF (vyN B n) (h.toNat + 1)).1 t 0 = x ∧ (fsF (vyN B n) (h.toNat + 1)).1 t 1 = y then z ||| ish (iI 1) (iI h) else z) (iI 0) (B.1 n 4).toNat) (k := fun r5 => (iter (fX8_over_l38 (E.1 + co) (iI t) (iI x) (iI y) r5.1) FU (iI 0, iI 0, r5.2)).bind fun r11 => some (r11.1, r11.2)) (k2 := fun s4 => (iter (fX9_over_l37 (E.1 + mo) (iI t) (iI x) (iI y)) FU (iI 0, iI 0, s4)).bind fun r12 => some (r12.1, r12.2)) ?_ (fun C FC cn I _ _ => ?_) (fun C FC cn => ?_) (fun C FC cn I J _ => ⟨C, ?_, sc_rfl⟩)
    · rw [cf, if_pos c1, if_pos c2]
    · have lp : iter (fX8_over_l38 (E.1 + co) (iI t) (iI x) (iI y) (E.1 + 3)) FU (iI 0, iI 0, St E C) = some (fo (fun h z => if (fsF (vyN B n) (h.toNat + 1)).1 t 0 = x ∧ (fsF (vyN B n) (h.toNat + 1)).1 t 1 = y then z ||| ish (iI 1) (iI h) else z) (iI 0) (B.1 n 4).toNat, St E C) := by
        refine iter_fo (fun j z => (z, iI j, St E C)) (fun h z => if (fsF (vyN B n) (h.toNat + 1)).1 t 0 = x ∧ (fsF (vyN B n) (h.toNat + 1)).1 t 1 = y then z ||| ish (iI 1) (iI h) else z) (iI 0) (B.1 n 4).toNat _ (fun _ _ => True) trivial (fun _ _ _ _ => trivial) (fun j z hj _ => ?_) ?_ (N := FU) (FUh w4.2)
        · have wb := fsF_in hV (h := j + 1) (s := (t : Int)) (by omega) c1.2
          have wb0 := wb.1
          have wb1 := wb.2.1
          have v1 := hV.1
          have v2 := hV.2.1
          simp (disch := omega) only [fX8_over_l38, fX8_over_b75, g8_7 rc FC.1.1.2.1, g6_4 rk.1, cn, some_bind, iI_le, q7_column (h := j) FC.2.1.1 I hV c1.2 (by omega) (by omega) (by omega), s_columnOf, iI_eq, lt_, iI_add, Int.toNat_natCast]
          rw [if_neg (by omega)]
          repeat' split
          all_goals first | rfl | (exfalso; omega)
        · simp (disch := omega) only [fX8_over_l38, g8_7 rc FC.1.1.2.1, g6_4 rk.1, cn, some_bind, iI_le]
          rw [if_pos (by omega)]
      dsimp only
      rw [lp, some_bind]
    · rw [rf C FC cn, if_pos c1, if_pos c2]
    · have lp : iter (fX9_over_l37 (E.1 + mo) (iI t) (iI x) (iI y)) FU (iI 0, iI 0, St E C) = some (fo (fun h z => if (fsF (vyN B n) (h.toNat + 1)).1 t 0 = x ∧ (fsF (vyN B n) (h.toNat + 1)).1 t 1 = y then z ||| ish (iI 1) (iI h) else z) (iI 0) (B.1 n 4).toNat, St E C) := by
        have h3 := vr_h3 FC.1
        refine iter_fo (fun j z => (z, iI j, St E C)) (fun h z => if (fsF (vyN B n) (h.toNat + 1)).1 t 0 = x ∧ (fsF (vyN B n) (h.toNat + 1)).1 t 1 = y then z ||| ish (iI 1) (iI h) else z) (iI 0) (B.1 n 4).toNat _ (fun _ _ => True) trivial (fun _ _ _ _ => trivial) (fun j z hj _ => ?_) ?_ (N := FU) (FUh w4.2)
        · have wb := fsF_in hV (h := j + 1) (s := (t : Int)) (by omega) c1.2
          have wb0 := wb.1
          have wb1 := wb.2.1
          have v1 := hV.1
          have v2 := hV.2.1
          simp (disch := omega) only [fX9_over_l37, fX9_over_b81, fX9_over_b82, g9_17 rm.1, aI_ok (mk7 rm), h3, cn, some_bind, iI_le, q9_spot (h := j) (k := 0) rm hV I c1.2 (by omega) (by omega) (by omega) (by omega), q9_spot (h := j) (k := 1) rm hV I c1.2 (by omega) (by omega) (by omega) (by omega), iI_eq, lt_, iI_add, Int.toNat_natCast, or0]
          rw [if_neg (by omega)]
          repeat' split
          all_goals first | rfl | (exfalso; omega)
        · simp (disch := omega) only [fX9_over_l37, g9_17 rm.1, aI_ok (mk7 rm), h3, cn, some_bind, iI_le]
          rw [if_pos (by omega)]
      rw [lp, some_bind]
  · refine QF_no F (v := iI (-2)) ?_ ?_
    · rw [cf]
      repeat' split
      all_goals first | rfl | (exfalso; omega)
    · rw [rf B F (fun _ => rfl)]
      repeat' split
      all_goals first | rfl | (exfalso; omega)
end FQP
