/-! who, suspects (written by gen70.py) -/
section WH
variable {E : Ev} {B C : Bk} {n m : Nat}
theorem o_who {x y : Int} (F : FB E B n m) (hx : i32 x) (hy : i32 y) : QF E B n m (fX8_who (E.1 + co) (iI x) (iI y)) (fX9_who (E.1 + mo) (iI x) (iI y)) := by
  have rc := F.1.1.1
  have rn := F.1.1.2.1
  have rk := F.1.1.2.2.1
  have rm := F.1.1.2.2.2
  have w1 := F.1.2.1.2.1
  have w2 := F.1.2.1.2.2.1
  have w4 := F.1.2.1.2.2.2.2.1
  have w8 := F.1.2.1.2.2.2.2.2.2.2.2.1
  have rf : ∀ C, FB E C n m → (∀ j, C.1 n j = B.1 n j) → fX9_who (E.1 + mo) (iI x) (iI y) (St E C) = if (0 ≤ x ∧ x < B.1 n 1) ∧ (0 ≤ y ∧ y < B.1 n 2) then (fX9_asTold (E.1 + mo) (St E (wI C mo 0 0))).bind (fun s4 => (iter (fX9_who_l28 (E.1 + mo) (iI x) (iI y)) FU (iI 0, iI 0, s4)).bind fun r12 => some (r12.1, r12.2)) else some (iI (-2), St E (wI C mo 0 0)) := fun C FC cn => by
    simp only [fX9_who, c9 rm.1, p9_0 rm.1, some_bind, mg_isColumn FC hx hy, iI_0, ib, cn]
  by_cases c : (0 ≤ x ∧ x < B.1 n 1) ∧ (0 ≤ y ∧ y < B.1 n 2)
  · obtain ⟨c1, c2⟩ := c
    have hst := st_col F c1
    have hV := rv_VOK F.1 hst
    refine QF_fl F hst (v := fo (fun (s : Int) (z : Int32) => fo (fun h z => z + (if 0 < (fsF (vyN B n) (h.toNat + 1)).1 ((s.toNat : Nat) : Int) 2 ∧ lndF (vyN B n) s.toNat h.toNat = y * 8 + x then iI 1 else iI 0)) z (B.1 n 4).toNat) (iI 0) (B.1 n 8).toNat) (k := fun r5 => (iter (fX8_who_l26 (E.1 + co) (iI x) (iI y) r5.1) FU (iI 0, iI 0, r5.2)).bind fun r11 => some (r11.1, r11.2)) (k2 := fun s4 => (iter (fX9_who_l28 (E.1 + mo) (iI x) (iI y)) FU (iI 0, iI 0, s4)).bind fun r12 => some (r12.1, r12.2)) ?_ (fun C FC cn I _ ev => ?_) (fun C FC cn => ?_) (fun C FC cn I J ev => ?_)
    · simp only [fX8_who, c8 rc, g8_7 rc rn, s_hasColumn hx hy rk F.1.2.1, some_bind, iI_0, ib]
      rw [if_pos ⟨c1, c2⟩]
    · have dr : ∀ (s h : Nat), (s : Int) < B.1 n 8 → (h : Int) < B.1 n 4 → fX8_dropsTo (E.1 + co) (E.1 + 3) (iI s) (iI h) (iI (y * 8 + x)) (St E C) = some (if 0 < (fsF (vyN B n) (h + 1)).1 s 2 ∧ lndF (vyN B n) s h = y * 8 + x then iI 1 else iI 0, St E C) := fun s h q1 q2 => by
        have := s8_drops (s := s) (h := h) (c := y * 8 + x) FC (by rw [ev]; exact hV) (by rw [ev, cn]; exact I) (by rw [cn]; exact q1) (by rw [cn]; exact q2) ⟨by omega, by omega⟩
        rw [ev] at this
        exact this
      have lpi : ∀ (s : Nat) (z : Int32), (s : Int) < B.1 n 8 → iter (fX8_who_l41 (E.1 + co) (iI x) (iI y) (E.1 + 3) (iI s)) FU (z, iI 0, St E C) = some (fo (fun h z => z + (if 0 < (fsF (vyN B n) (h.toNat + 1)).1 s 2 ∧ lndF (vyN B n) s h.toNat = y * 8 + x then iI 1 else iI 0)) z (B.1 n 4).toNat, St E C) := fun s z q1 => by
        refine iter_fo (fun j z => (z, iI j, St E C)) (fun h z => z + (if 0 < (fsF (vyN B n) (h.toNat + 1)).1 s 2 ∧ lndF (vyN B n) s h.toNat = y * 8 + x then iI 1 else iI 0)) z (B.1 n 4).toNat _ (fun _ _ => True) trivial (fun _ _ _ _ => trivial) (fun j z hj _ => ?_) ?_ (N := FU) (FUh w4.2)
        · simp (disch := omega) only [fX8_who_l41, fX8_who_b77, g8_7 rc FC.1.1.2.1, g6_4 rk.1, cn, some_bind, iI_le, s_columnOf, dr s j q1 (by omega), lt_, iI_add, Int.toNat_natCast]
          rw [if_neg (by omega)]
          by_cases q : 0 < (fsF (vyN B n) (j + 1)).1 s 2 ∧ lndF (vyN B n) s j = y * 8 + x
          · simp only [if_pos q]
            rw [if_neg (show ¬ iI 1 = 0 by decide)]
          · simp only [if_neg q]
            rw [if_pos (show iI 0 = 0 from rfl)]
        · simp (disch := omega) only [fX8_who_l41, g8_7 rc FC.1.1.2.1, g6_4 rk.1, cn, some_bind, iI_le]
          rw [if_pos (by omega)]
      have lp : iter (fX8_who_l26 (E.1 + co) (iI x) (iI y) (E.1 + 3)) FU (iI 0, iI 0, St E C) = some (fo (fun (s : Int) (z : Int32) => fo (fun h z => z + (if 0 < (fsF (vyN B n) (h.toNat + 1)).1 ((s.toNat : Nat) : Int) 2 ∧ lndF (vyN B n) s.toNat h.toNat = y * 8 + x then iI 1 else iI 0)) z (B.1 n 4).toNat) (iI 0) (B.1 n 8).toNat, St E C) := by
        refine iter_fo (fun j z => (z, iI j, St E C)) (fun (s : Int) (z : Int32) => fo (fun h z => z + (if 0 < (fsF (vyN B n) (h.toNat + 1)).1 ((s.toNat : Nat) : Int) 2 ∧ lndF (vyN B n) s.toNat h.toNat = y * 8 + x then iI 1 else iI 0)) z (B.1 n 4).toNat) (iI 0) (B.1 n 8).toNat _ (fun _ _ => True) trivial (fun _ _ _ _ => trivial) (fun j z hj _ => ?_) ?_ (N := FU) (FUh (by omega))
        · simp (disch := omega) only [fX8_who_l26, g8_7 rc FC.1.1.2.1, g6_8 rk.1, cn, some_bind, iI_le, lpi j z (by omega), iI_add, Int.toNat_natCast]
          rw [if_neg (by omega)]
        · simp (disch := omega) only [fX8_who_l26, g8_7 rc FC.1.1.2.1, g6_8 rk.1, cn, some_bind, iI_le]
          rw [if_pos (by omega)]
      dsimp only
      rw [lp, some_bind]
    · rw [rf C FC cn, if_pos ⟨c1, c2⟩]
    · have L := LQ_of FC (by rw [ev, cn]; exact I)
      rw [ev] at L
      have h3 : C.2.2.2.1 (mo + 7) 3 = B.1 n 4 := L.2.2.1.2.2.1
      have h7 : C.2.2.2.1 (mo + 7) 7 = B.1 n 8 := L.2.2.1.2.2.2
      have lpi : ∀ (s : Nat) (z : Int32) (a b : Int), (s : Int) < B.1 n 8 → ∃ r, iter (fX9_who_l43 (E.1 + mo) (iI x) (iI y) (iI s)) FU (z, iI 0, St E (tB C a b)) = some r ∧ ∃ p q, r = (fo (fun h z => z + (if 0 < (fsF (vyN B n) (h.toNat + 1)).1 s 2 ∧ lndF (vyN B n) s h.toNat = y * 8 + x then iI 1 else iI 0)) z (B.1 n 4).toNat, St E (tB C p q)) := fun s z a b q1 => by
        refine iter_acc (fun j w => ∃ p q, w = (fo (fun h z => z + (if 0 < (fsF (vyN B n) (h.toNat + 1)).1 s 2 ∧ lndF (vyN B n) s h.toNat = y * 8 + x then iI 1 else iI 0)) z j, iI j, St E (tB C p q))) (B.1 n 4).toNat _ (fun j w hj hw => ?_) (fun w hw => ?_) (N := FU) (FUh w4.2) ⟨a, b, rfl⟩
        · obtain ⟨p, q, rfl⟩ := hw
          obtain ⟨p', q', md⟩ := m_dropped (a := p) (b := q) hV L q1 (show (j : Int) < B.1 n 4 by omega) c1.1 (by omega) c2.1 (by omega)
          refine ⟨(fo (fun h z => z + (if 0 < (fsF (vyN B n) (h.toNat + 1)).1 s 2 ∧ lndF (vyN B n) s h.toNat = y * 8 + x then iI 1 else iI 0)) z (j + 1), iI ((j + 1 : Nat) : Int), St E (tB C p' q')), ?_, p', q', rfl⟩
          simp (disch := omega) only [fX9_who_l43, fX9_who_b77, g9_17 rm.1, aI_ok (mk7 rm), tB_2, h3, some_bind, iI_le, iI_mul, iI_add, md, lt_]
          rw [if_neg (by omega)]
          show _ = some (Sum.inl ((fun h z => z + (if 0 < (fsF (vyN B n) (h.toNat + 1)).1 s 2 ∧ lndF (vyN B n) s h.toNat = y * 8 + x then iI 1 else iI 0)) (j : Int) (fo (fun h z => z + (if 0 < (fsF (vyN B n) (h.toNat + 1)).1 s 2 ∧ lndF (vyN B n) s h.toNat = y * 8 + x then iI 1 else iI 0)) z j), iI ((j : Int) + 1), St E (tB C p' q')))
          simp only [Int.toNat_natCast]
          by_cases q : 0 < (fsF (vyN B n) (j + 1)).1 s 2 ∧ lndF (vyN B n) s j = y * 8 + x
          · simp only [if_pos q]
            rw [if_neg (show ¬ iI 1 = 0 by decide)]
          · simp only [if_neg q]
            rw [if_pos (show iI 0 = 0 from rfl)]
        · obtain ⟨p, q, rfl⟩ := hw
          refine ⟨_, ?_, p, q, rfl⟩
          simp (disch := omega) only [fX9_who_l43, g9_17 rm.1, aI_ok (mk7 rm), tB_2, h3, some_bind, iI_le]
          rw [if_pos (by omega)]
      obtain ⟨r, e1, p, q, e2⟩ := iter_acc (F := fX9_who_l28 (E.1 + mo) (iI x) (iI y)) (fun j w => ∃ p q, w = (fo (fun (s : Int) (z : Int32) => fo (fun h z => z + (if 0 < (fsF (vyN B n) (h.toNat + 1)).1 ((s.toNat : Nat) : Int) 2 ∧ lndF (vyN B n) s.toNat h.toNat = y * 8 + x then iI 1 else iI 0)) z (B.1 n 4).toNat) (iI 0) j, iI j, St E (tB C p q))) (B.1 n 8).toNat (fun r => ∃ p q, r = (fo (fun (s : Int) (z : Int32) => fo (fun h z => z + (if 0 < (fsF (vyN B n) (h.toNat + 1)).1 ((s.toNat : Nat) : Int) 2 ∧ lndF (vyN B n) s.toNat h.toNat = y * 8 + x then iI 1 else iI 0)) z (B.1 n 4).toNat) (iI 0) (B.1 n 8).toNat, St E (tB C p q)))
        (fun j w hj hw => by
          obtain ⟨p, q, rfl⟩ := hw
          obtain ⟨r, e1, p', q', e2⟩ := lpi j (fo (fun (s : Int) (z : Int32) => fo (fun h z => z + (if 0 < (fsF (vyN B n) (h.toNat + 1)).1 ((s.toNat : Nat) : Int) 2 ∧ lndF (vyN B n) s.toNat h.toNat = y * 8 + x then iI 1 else iI 0)) z (B.1 n 4).toNat) (iI 0) j) p q (by omega)
          rw [e2] at e1
          refine ⟨(fo (fun (s : Int) (z : Int32) => fo (fun h z => z + (if 0 < (fsF (vyN B n) (h.toNat + 1)).1 ((s.toNat : Nat) : Int) 2 ∧ lndF (vyN B n) s.toNat h.toNat = y * 8 + x then iI 1 else iI 0)) z (B.1 n 4).toNat) (iI 0) (j + 1), iI ((j + 1 : Nat) : Int), St E (tB C p' q')), ?_, p', q', rfl⟩
          simp (disch := omega) only [fX9_who_l28, g9_17 rm.1, aI_ok (mk7 rm), tB_2, h7, some_bind, iI_le, e1, iI_add]
          rw [if_neg (by omega)]
          show some (Sum.inl (_, iI ((j : Int) + 1), _)) = some (Sum.inl ((fun (s : Int) (z : Int32) => fo (fun h z => z + (if 0 < (fsF (vyN B n) (h.toNat + 1)).1 ((s.toNat : Nat) : Int) 2 ∧ lndF (vyN B n) s.toNat h.toNat = y * 8 + x then iI 1 else iI 0)) z (B.1 n 4).toNat) (j : Int) (fo (fun (s : Int) (z : Int32) => fo (fun h z => z + (if 0 < (fsF (vyN B n) (h.toNat + 1)).1 ((s.toNat : Nat) : Int) 2 ∧ lndF (vyN B n) s.toNat h.toNat = y * 8 + x then iI 1 else iI 0)) z (B.1 n 4).toNat) (iI 0) j), iI ((j : Int) + 1), _))
          simp only [Int.toNat_natCast])
        (fun w hw => by
          obtain ⟨p, q, rfl⟩ := hw
          refine ⟨_, ?_, p, q, rfl⟩
          simp (disch := omega) only [fX9_who_l28, g9_17 rm.1, aI_ok (mk7 rm), tB_2, h7, some_bind, iI_le]
          rw [if_pos (by omega)])
        (N := FU) (FUh (by omega)) (a := (iI 0, iI 0, St E C)) ⟨C.1 mo 26, C.1 mo 27, by rw [tB_self]; rfl⟩
      refine ⟨tB C p q, ?_, sc_tB⟩
      rw [e1, e2, some_bind]
  · refine QF_no F (v := iI (-2)) ?_ ?_
    · simp only [fX8_who, c8 rc, g8_7 rc rn, s_hasColumn hx hy rk F.1.2.1, some_bind, iI_0, ib]
      rw [if_neg c]
    · rw [rf B F (fun _ => rfl), if_neg c]
theorem o_suspects {x y : Int} (F : FB E B n m) (hx : i32 x) (hy : i32 y) : QF E B n m (fX8_suspects (E.1 + co) (iI x) (iI y)) (fX9_suspects (E.1 + mo) (iI x) (iI y)) := by
  have rc := F.1.1.1
  have rn := F.1.1.2.1
  have rk := F.1.1.2.2.1
  have rm := F.1.1.2.2.2
  have w1 := F.1.2.1.2.1
  have w2 := F.1.2.1.2.2.1
  have w4 := F.1.2.1.2.2.2.2.1
  have w8 := F.1.2.1.2.2.2.2.2.2.2.2.1
  have rf : ∀ C, FB E C n m → (∀ j, C.1 n j = B.1 n j) → fX9_suspects (E.1 + mo) (iI x) (iI y) (St E C) = if (0 ≤ x ∧ x < B.1 n 1) ∧ (0 ≤ y ∧ y < B.1 n 2) then (fX9_asTold (E.1 + mo) (St E (wI C mo 0 0))).bind (fun s4 => (iter (fX9_suspects_l28 (E.1 + mo) (iI x) (iI y)) FU (iI 0, iI 0, s4)).bind fun r12 => some (r12.1, r12.2)) else some (iI (-2), St E (wI C mo 0 0)) := fun C FC cn => by
    simp only [fX9_suspects, c9 rm.1, p9_0 rm.1, some_bind, mg_isColumn FC hx hy, iI_0, ib, cn]
  by_cases c : (0 ≤ x ∧ x < B.1 n 1) ∧ (0 ≤ y ∧ y < B.1 n 2)
  · obtain ⟨c1, c2⟩ := c
    have hst := st_col F c1
    have hV := rv_VOK F.1 hst
    refine QF_fl F hst (v := fo (fun (s : Int) (z : Int32) => fo (fun h z => (if 0 < (fsF (vyN B n) (h.toNat + 1)).1 ((s.toNat : Nat) : Int) 2 ∧ lndF (vyN B n) s.toNat h.toNat = y * 8 + x then z ||| ish (iI 1) (iI ((s.toNat : Nat) : Int)) else z)) z (B.1 n 4).toNat) (iI 0) (B.1 n 8).toNat) (k := fun r5 => (iter (fX8_suspects_l26 (E.1 + co) (iI x) (iI y) r5.1) FU (iI 0, iI 0, r5.2)).bind fun r11 => some (r11.1, r11.2)) (k2 := fun s4 => (iter (fX9_suspects_l28 (E.1 + mo) (iI x) (iI y)) FU (iI 0, iI 0, s4)).bind fun r12 => some (r12.1, r12.2)) ?_ (fun C FC cn I _ ev => ?_) (fun C FC cn => ?_) (fun C FC cn I J ev => ?_)
    · simp only [fX8_suspects, c8 rc, g8_7 rc rn, s_hasColumn hx hy rk F.1.2.1, some_bind, iI_0, ib]
      rw [if_pos ⟨c1, c2⟩]
    · have dr : ∀ (s h : Nat), (s : Int) < B.1 n 8 → (h : Int) < B.1 n 4 → fX8_dropsTo (E.1 + co) (E.1 + 3) (iI s) (iI h) (iI (y * 8 + x)) (St E C) = some (if 0 < (fsF (vyN B n) (h + 1)).1 s 2 ∧ lndF (vyN B n) s h = y * 8 + x then iI 1 else iI 0, St E C) := fun s h q1 q2 => by
        have := s8_drops (s := s) (h := h) (c := y * 8 + x) FC (by rw [ev]; exact hV) (by rw [ev, cn]; exact I) (by rw [cn]; exact q1) (by rw [cn]; exact q2) ⟨by omega, by omega⟩
        rw [ev] at this
        exact this
      have lpi : ∀ (s : Nat) (z : Int32), (s : Int) < B.1 n 8 → iter (fX8_suspects_l41 (E.1 + co) (iI x) (iI y) (E.1 + 3) (iI s)) FU (z, iI 0, St E C) = some (fo (fun h z => (if 0 < (fsF (vyN B n) (h.toNat + 1)).1 s 2 ∧ lndF (vyN B n) s h.toNat = y * 8 + x then z ||| ish (iI 1) (iI s) else z)) z (B.1 n 4).toNat, St E C) := fun s z q1 => by
        refine iter_fo (fun j z => (z, iI j, St E C)) (fun h z => (if 0 < (fsF (vyN B n) (h.toNat + 1)).1 s 2 ∧ lndF (vyN B n) s h.toNat = y * 8 + x then z ||| ish (iI 1) (iI s) else z)) z (B.1 n 4).toNat _ (fun _ _ => True) trivial (fun _ _ _ _ => trivial) (fun j z hj _ => ?_) ?_ (N := FU) (FUh w4.2)
        · simp (disch := omega) only [fX8_suspects_l41, fX8_suspects_b79, g8_7 rc FC.1.1.2.1, g6_4 rk.1, cn, some_bind, iI_le, s_columnOf, dr s j q1 (by omega), lt_, iI_add, Int.toNat_natCast]
          rw [if_neg (by omega)]
          by_cases q : 0 < (fsF (vyN B n) (j + 1)).1 s 2 ∧ lndF (vyN B n) s j = y * 8 + x
          · simp only [if_pos q]
            rw [if_neg (show ¬ iI 1 = 0 by decide)]
          · simp only [if_neg q]
            rw [if_pos (show iI 0 = 0 from rfl)]
        · simp (disch := omega) only [fX8_suspects_l41, g8_7 rc FC.1.1.2.1, g6_4 rk.1, cn, some_bind, iI_le]
          rw [if_pos (by omega)]
      have lp : iter (fX8_suspects_l26 (E.1 + co) (iI x) (iI y) (E.1 + 3)) FU (iI 0, iI 0, St E C) = some (fo (fun (s : Int) (z : Int32) => fo (fun h z => (if 0 < (fsF (vyN B n) (h.toNat + 1)).1 ((s.toNat : Nat) : Int) 2 ∧ lndF (vyN B n) s.toNat h.toNat = y * 8 + x then z ||| ish (iI 1) (iI ((s.toNat : Nat) : Int)) else z)) z (B.1 n 4).toNat) (iI 0) (B.1 n 8).toNat, St E C) := by
        refine iter_fo (fun j z => (z, iI j, St E C)) (fun (s : Int) (z : Int32) => fo (fun h z => (if 0 < (fsF (vyN B n) (h.toNat + 1)).1 ((s.toNat : Nat) : Int) 2 ∧ lndF (vyN B n) s.toNat h.toNat = y * 8 + x then z ||| ish (iI 1) (iI ((s.toNat : Nat) : Int)) else z)) z (B.1 n 4).toNat) (iI 0) (B.1 n 8).toNat _ (fun _ _ => True) trivial (fun _ _ _ _ => trivial) (fun j z hj _ => ?_) ?_ (N := FU) (FUh (by omega))
        · simp (disch := omega) only [fX8_suspects_l26, g8_7 rc FC.1.1.2.1, g6_8 rk.1, cn, some_bind, iI_le, lpi j z (by omega), iI_add, Int.toNat_natCast]
          rw [if_neg (by omega)]
        · simp (disch := omega) only [fX8_suspects_l26, g8_7 rc FC.1.1.2.1, g6_8 rk.1, cn, some_bind, iI_le]
          rw [if_pos (by omega)]
      dsimp only
      rw [lp, some_bind]
    · rw [rf C FC cn, if_pos ⟨c1, c2⟩]
    · have L := LQ_of FC (by rw [ev, cn]; exact I)
      rw [ev] at L
      have h3 : C.2.2.2.1 (mo + 7) 3 = B.1 n 4 := L.2.2.1.2.2.1
      have h7 : C.2.2.2.1 (mo + 7) 7 = B.1 n 8 := L.2.2.1.2.2.2
      have lpi : ∀ (s : Nat) (z : Int32) (a b : Int), (s : Int) < B.1 n 8 → ∃ r, iter (fX9_suspects_l43 (E.1 + mo) (iI x) (iI y) (iI s)) FU (z, iI 0, St E (tB C a b)) = some r ∧ ∃ p q, r = (fo (fun h z => (if 0 < (fsF (vyN B n) (h.toNat + 1)).1 s 2 ∧ lndF (vyN B n) s h.toNat = y * 8 + x then z ||| ish (iI 1) (iI s) else z)) z (B.1 n 4).toNat, St E (tB C p q)) := fun s z a b q1 => by
        refine iter_acc (fun j w => ∃ p q, w = (fo (fun h z => (if 0 < (fsF (vyN B n) (h.toNat + 1)).1 s 2 ∧ lndF (vyN B n) s h.toNat = y * 8 + x then z ||| ish (iI 1) (iI s) else z)) z j, iI j, St E (tB C p q))) (B.1 n 4).toNat _ (fun j w hj hw => ?_) (fun w hw => ?_) (N := FU) (FUh w4.2) ⟨a, b, rfl⟩
        · obtain ⟨p, q, rfl⟩ := hw
          obtain ⟨p', q', md⟩ := m_dropped (a := p) (b := q) hV L q1 (show (j : Int) < B.1 n 4 by omega) c1.1 (by omega) c2.1 (by omega)
          refine ⟨(fo (fun h z => (if 0 < (fsF (vyN B n) (h.toNat + 1)).1 s 2 ∧ lndF (vyN B n) s h.toNat = y * 8 + x then z ||| ish (iI 1) (iI s) else z)) z (j + 1), iI ((j + 1 : Nat) : Int), St E (tB C p' q')), ?_, p', q', rfl⟩
          simp (disch := omega) only [fX9_suspects_l43, fX9_suspects_b80, g9_17 rm.1, aI_ok (mk7 rm), tB_2, h3, some_bind, iI_le, iI_mul, iI_add, md, lt_]
          rw [if_neg (by omega)]
          show _ = some (Sum.inl ((fun h z => (if 0 < (fsF (vyN B n) (h.toNat + 1)).1 s 2 ∧ lndF (vyN B n) s h.toNat = y * 8 + x then z ||| ish (iI 1) (iI s) else z)) (j : Int) (fo (fun h z => (if 0 < (fsF (vyN B n) (h.toNat + 1)).1 s 2 ∧ lndF (vyN B n) s h.toNat = y * 8 + x then z ||| ish (iI 1) (iI s) else z)) z j), iI ((j : Int) + 1), St E (tB C p' q')))
          simp only [Int.toNat_natCast]
          by_cases q : 0 < (fsF (vyN B n) (j + 1)).1 s 2 ∧ lndF (vyN B n) s j = y * 8 + x
          · simp only [if_pos q]
            rw [if_neg (show ¬ iI 1 = 0 by decide)]
          · simp only [if_neg q]
            rw [if_pos (show iI 0 = 0 from rfl), or0]
        · obtain ⟨p, q, rfl⟩ := hw
          refine ⟨_, ?_, p, q, rfl⟩
          simp (disch := omega) only [fX9_suspects_l43, g9_17 rm.1, aI_ok (mk7 rm), tB_2, h3, some_bind, iI_le]
          rw [if_pos (by omega)]
      obtain ⟨r, e1, p, q, e2⟩ := iter_acc (F := fX9_suspects_l28 (E.1 + mo) (iI x) (iI y)) (fun j w => ∃ p q, w = (fo (fun (s : Int) (z : Int32) => fo (fun h z => (if 0 < (fsF (vyN B n) (h.toNat + 1)).1 ((s.toNat : Nat) : Int) 2 ∧ lndF (vyN B n) s.toNat h.toNat = y * 8 + x then z ||| ish (iI 1) (iI ((s.toNat : Nat) : Int)) else z)) z (B.1 n 4).toNat) (iI 0) j, iI j, St E (tB C p q))) (B.1 n 8).toNat (fun r => ∃ p q, r = (fo (fun (s : Int) (z : Int32) => fo (fun h z => (if 0 < (fsF (vyN B n) (h.toNat + 1)).1 ((s.toNat : Nat) : Int) 2 ∧ lndF (vyN B n) s.toNat h.toNat = y * 8 + x then z ||| ish (iI 1) (iI ((s.toNat : Nat) : Int)) else z)) z (B.1 n 4).toNat) (iI 0) (B.1 n 8).toNat, St E (tB C p q)))
        (fun j w hj hw => by
          obtain ⟨p, q, rfl⟩ := hw
          obtain ⟨r, e1, p', q', e2⟩ := lpi j (fo (fun (s : Int) (z : Int32) => fo (fun h z => (if 0 < (fsF (vyN B n) (h.toNat + 1)).1 ((s.toNat : Nat) : Int) 2 ∧ lndF (vyN B n) s.toNat h.toNat = y * 8 + x then z ||| ish (iI 1) (iI ((s.toNat : Nat) : Int)) else z)) z (B.1 n 4).toNat) (iI 0) j) p q (by omega)
          rw [e2] at e1
          refine ⟨(fo (fun (s : Int) (z : Int32) => fo (fun h z => (if 0 < (fsF (vyN B n) (h.toNat + 1)).1 ((s.toNat : Nat) : Int) 2 ∧ lndF (vyN B n) s.toNat h.toNat = y * 8 + x then z ||| ish (iI 1) (iI ((s.toNat : Nat) : Int)) else z)) z (B.1 n 4).toNat) (iI 0) (j + 1), iI ((j + 1 : Nat) : Int), St E (tB C p' q')), ?_, p', q', rfl⟩
          simp (disch := omega) only [fX9_suspects_l28, g9_17 rm.1, aI_ok (mk7 rm), tB_2, h7, some_bind, iI_le, e1, iI_add]
          rw [if_neg (by omega)]
          show some (Sum.inl (_, iI ((j : Int) + 1), _)) = some (Sum.inl ((fun (s : Int) (z : Int32) => fo (fun h z => (if 0 < (fsF (vyN B n) (h.toNat + 1)).1 ((s.toNat : Nat) : Int) 2 ∧ lndF (vyN B n) s.toNat h.toNat = y * 8 + x then z ||| ish (iI 1) (iI ((s.toNat : Nat) : Int)) else z)) z (B.1 n 4).toNat) (j : Int) (fo (fun (s : Int) (z : Int32) => fo (fun h z => (if 0 < (fsF (vyN B n) (h.toNat + 1)).1 ((s.toNat : Nat) : Int) 2 ∧ lndF (vyN B n) s.toNat h.toNat = y * 8 + x then z ||| ish (iI 1) (iI ((s.toNat : Nat) : Int)) else z)) z (B.1 n 4).toNat) (iI 0) j), iI ((j : Int) + 1), _))
          simp only [Int.toNat_natCast])
        (fun w hw => by
          obtain ⟨p, q, rfl⟩ := hw
          refine ⟨_, ?_, p, q, rfl⟩
          simp (disch := omega) only [fX9_suspects_l28, g9_17 rm.1, aI_ok (mk7 rm), tB_2, h7, some_bind, iI_le]
          rw [if_pos (by omega)])
        (N := FU) (FUh (by omega)) (a := (iI 0, iI 0, St E C)) ⟨C.1 mo 26, C.1 mo 27, by rw [tB_self]; rfl⟩
      refine ⟨tB C p q, ?_, sc_tB⟩
      rw [e1, e2, some_bind]
  · refine QF_no F (v := iI (-2)) ?_ ?_
    · simp only [fX8_suspects, c8 rc, g8_7 rc rn, s_hasColumn hx hy rk F.1.2.1, some_bind, iI_0, ib]
      rw [if_neg c]
    · rw [rf B F (fun _ => rfl), if_neg c]
end WH
