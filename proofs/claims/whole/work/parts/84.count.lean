/-! count; feed -/
section CO
variable {E : Ev} {B : Bk} {n : Nat}
theorem o_count {k : Int} (R : RV E B n) (hn : n < 58) (K : RK E B) (S : RS B) (T : rTp B) (hk : i32 k) : QQ E B (fX8_count (E.1 + co) (iI k)) (fX9_count (E.1 + mo) (iI k)) := by
  have hmo : mo = 58 := rfl
  have R1 := R
  obtain ⟨⟨rc, rn, rk, rm⟩, rw1, -⟩ := R
  obtain ⟨k1, k2⟩ := hk
  have e6 : gR (St E B) (E.1 + co) 8 6 = some (E.1 + (co + 19)) := g8_6 rc
  have m6 : (wI B mo 0 0).1 mo 6 = B.1 co 10 := by rw [wI_1, if_neg (by omega)]; exact T.2.1
  have hin := fun s => m_in (z := k) (a := 0) (b := 8) (s := s) (by omega) (by omega) (by omega) (by omega) (by omega) (by omega)
  by_cases c : 0 ≤ k ∧ k ≤ 8
  · have e9 : fX9_count (E.1 + mo) (iI k) (St E B) = some (iI (B.2.2.2.1 (mo + 7) k), St E (wI B mo 0 0)) := by
      simp (disch := omega) only [fX9_count, c9 rm.1, p9_0 rm.1, some_bind, jI_i, jI_0, jI_8, hin, iI_0, ib, g9_17 rm.1, aI_ok (mk7 rm), wI_2]
      rw [if_pos c]
    have ev : B.2.2.2.1 (mo + 7) k = B.1 n (k.toNat + 1) := by
      have := R1.2.2.1.2.1 k.toNat (by omega)
      rw [show 15 * 0 + ((k.toNat : Nat) : Int) = k by omega] at this
      exact this
    rw [ev] at e9
    unfold QQ
    rw [e9]
    refine ⟨_, ?_, rfl⟩
    rcases (show k = 0 ∨ k = 1 ∨ k = 2 ∨ k = 3 ∨ k = 4 ∨ k = 5 ∨ k = 6 ∨ k = 7 ∨ k = 8 by omega) with rfl | rfl | rfl | rfl | rfl | rfl | rfl | rfl | rfl <;> (simp (disch := omega) only [fX8_count, c8 rc, some_bind, iI_eq, g8_7 rc rn, g6_1 rk.1, g6_2 rk.1, g6_3 rk.1, g6_4 rk.1, g6_5 rk.1, g6_6 rk.1, g6_7 rk.1, g6_8 rk.1, g6_9 rk.1, ↓reduceIte]; rfl)
  · have c8' : fX8_count (E.1 + co) (iI k) (St E B) = if k = 9 then some (iI (B.1 n 0), St E B) else if k = 10 then some (iI (B.1 co 10), St E B) else if k = 11 then some (iI (B.1 n 13), St E B) else if k = 12 then (fX8_fullSlots (E.1 + co) (St E B)).bind (fun r => some (r.1, r.2)) else some (iI (-1), St E B) := by
      have ne : ∀ z : Int, 0 ≤ z → z ≤ 8 → ¬ iI k = iI z := fun z z0 z1 => by rw [iI_eq k1 k2 (by omega) (by omega)]; omega
      unfold fX8_count
      rw [c8 rc, some_bind, if_neg (ne 0 (by omega) (by omega)), if_neg (ne 1 (by omega) (by omega)), if_neg (ne 2 (by omega) (by omega)), if_neg (ne 3 (by omega) (by omega)), if_neg (ne 4 (by omega) (by omega)), if_neg (ne 5 (by omega) (by omega)), if_neg (ne 6 (by omega) (by omega)), if_neg (ne 7 (by omega) (by omega)), if_neg (ne 8 (by omega) (by omega))]
      simp (disch := omega) only [some_bind, iI_eq, g8_7 rc rn, g6_0 rk.1, g6_13 rk.1, g8_10 rc]
    have c9' : fX9_count (E.1 + mo) (iI k) (St E B) = if k = 9 then some (iI (B.1 n 0), St E (wI B mo 0 0)) else if k = 10 then some (iI (B.1 co 10), St E (wI B mo 0 0)) else if k = 11 then some (iI (B.1 n 13), St E (wI B mo 0 0)) else if k = 12 then (iter (fX9_count_l78 (E.1 + mo)) FU (iI 0, iI 0, St E (wI B mo 0 0))).bind (fun r => some (r.1, r.2)) else some (iI (-1), St E (wI B mo 0 0)) := by
      simp (disch := omega) only [fX9_count, c9 rm.1, p9_0 rm.1, some_bind, jI_i, jI_0, jI_8, hin, iI_0, ib, iI_eq, g9_16 rm.1, g9_17 rm.1, g9_6 rm.1, m6, aI_ok (mk6 rm), aI_ok (mk7 rm), wI_2, vr_l R1, vr_h14 R1]
      rw [if_neg c]
    have l8 : fX8_fullSlots (E.1 + co) (St E B) = some (fo (fun j x => x + (if 0 ≤ B.1 (50 + 2 * j.toNat) 1 then iI 1 else iI 0)) (iI 0) 4, St E B) := by
      have lp : iter (fX8_fullSlots_l4 (E.1 + co)) FU (iI 0, iI 0, St E B) = some (fo (fun j x => x + (if 0 ≤ B.1 (50 + 2 * j.toNat) 1 then iI 1 else iI 0)) (iI 0) 4, St E B) := by
        refine iter_fo (fun j x => (x, iI j, St E B)) (fun j x => x + (if 0 ≤ B.1 (50 + 2 * j.toNat) 1 then iI 1 else iI 0)) (iI 0) 4 _ (fun _ _ => True) trivial (fun _ _ _ _ => trivial) (fun j x hj _ => ?_) ?_ (N := FU) (by have := FU_big (n := 4) (by omega); omega)
        · obtain ⟨q1, q2, q3⟩ := K.2.2.2 j hj
          have th := s5_isThere (B := B) q1 (RW_b (S j hj))
          simp (disch := omega) only [fX8_fullSlots_l4, fX8_fullSlots_b27, iI_le, e6, some_bind, r_slot K (C := B) rfl (show 0 ≤ (j : Int) by omega) (show (j : Int) ≤ 3 by omega), Int.toNat_natCast, th, iI_0, ib, lt_, iI_add]
          rw [if_neg (by omega)]
          split <;> rfl
        · simp (disch := omega) only [fX8_fullSlots_l4, iI_le]
          rw [if_pos (by omega)]
      simp only [fX8_fullSlots, c8 rc, some_bind, lp]
    have l9 : iter (fX9_count_l78 (E.1 + mo)) FU (iI 0, iI 0, St E (wI B mo 0 0)) = some (fo (fun j x => x + (if 0 ≤ B.1 (50 + 2 * j.toNat) 1 then iI 1 else iI 0)) (iI 0) 4, St E (wI B mo 0 0)) := by
      refine iter_fo (fun j x => (x, iI j, St E (wI B mo 0 0))) (fun j x => x + (if 0 ≤ B.1 (50 + 2 * j.toNat) 1 then iI 1 else iI 0)) (iI 0) 4 _ (fun _ _ => True) trivial (fun _ _ _ _ => trivial) (fun j x hj _ => ?_) ?_ (N := FU) (by have := FU_big (n := 4) (by omega); omega)
      · have Sj := S j hj
        have wb : -1 ≤ B.2.2.2.1 (mo + 1) (j : Int) ∧ B.2.2.2.1 (mo + 1) (j : Int) ≤ 3 ∧ (B.2.2.2.1 (mo + 1) (j : Int) = -1 ↔ ¬ 0 ≤ B.1 (50 + 2 * j) 1) := by
          rcases Sj with ⟨a1, a2⟩ | ⟨a1, a2, a3, a4, a5⟩
          · omega
          · omega
        simp (disch := omega) only [fX9_count_l78, fX9_count_b99, iI_le, g9_1 rm.1, some_bind, aI_ok (mk1 rm), wI_2, iI_eq, lt_, iI_add, Int.toNat_natCast]
        rw [if_neg (by omega)]
        by_cases q : 0 ≤ B.1 (50 + 2 * j) 1
        · rw [if_neg (fun w => wb.2.2.mp w q), if_pos q]
        · rw [if_pos (wb.2.2.mpr q), if_neg q]
      · simp (disch := omega) only [fX9_count_l78, iI_le]
        rw [if_pos (by omega)]
    unfold QQ
    rw [c8', c9', l8, l9]
    by_cases q9 : k = 9
    · rw [if_pos q9, if_pos q9]
      exact ⟨_, rfl, rfl⟩
    · rw [if_neg q9, if_neg q9]
      by_cases q10 : k = 10
      · rw [if_pos q10, if_pos q10]
        exact ⟨_, rfl, rfl⟩
      · rw [if_neg q10, if_neg q10]
        by_cases q11 : k = 11
        · rw [if_pos q11, if_pos q11]
          exact ⟨_, rfl, rfl⟩
        · rw [if_neg q11, if_neg q11]
          by_cases q12 : k = 12
          · rw [if_pos q12, if_pos q12]
            exact ⟨_, rfl, rfl⟩
          · rw [if_neg q12, if_neg q12]
            exact ⟨_, rfl, rfl⟩
theorem o_feed {a b c g h : Int32} (rc : KD E co 8 13) (rt : KD E (co + 1) 22 1600) (rm : mKd E mo) (T : rTp B) : QT E B (fX8_feed (E.1 + co) a b c g h) (fX9_feed (E.1 + mo) a b c g h) := by
  have hco : co = 0 := rfl
  have hmo : mo = 58 := rfl
  have T' := T
  obtain ⟨t1, t2, t3, t4, t5, t6, t7⟩ := T'
  by_cases q : B.1 co 10 ≤ 1580
  · have i1 : ∀ d j, (fdF co (co + 1) 10 a b c g h B).1 d j = if d = co ∧ j = 10 then B.1 co 10 + 20 else B.1 d j := fun d j => fdF_1
    have n6 : (fdF co (co + 1) 10 a b c g h B).1 mo 6 = B.1 co 10 := by rw [i1, if_neg (by omega)]; exact t2
    have e6 : (wI (fdF co (co + 1) 10 a b c g h B) mo 0 0).1 mo 6 = B.1 co 10 := by rw [wI_1, if_neg (by omega)]; exact n6
    have i2 : ∀ d j, (d = mo → j ≠ 0) → (fdF mo (mo + 5) 6 a b c g h (wI (fdF co (co + 1) 10 a b c g h B) mo 0 0)).1 d j = if d = mo ∧ j = 6 then B.1 co 10 + 20 else if d = co ∧ j = 10 then B.1 co 10 + 20 else B.1 d j := fun d j w => by
      rw [fdF_1, e6]
      by_cases w2 : d = mo ∧ j = 6
      · rw [if_pos w2, if_pos w2]
      · rw [if_neg w2, if_neg w2, wI_1, if_neg (fun y => w y.1 y.2), i1]
    have r2 : ∀ d z, (fdF mo (mo + 5) 6 a b c g h (wI (fdF co (co + 1) 10 a b c g h B) mo 0 0)).2.2.2.1 d z = if d = mo + 5 ∧ B.1 co 10 ≤ z ∧ z < B.1 co 10 + 20 then bb a b c g h (z - B.1 co 10) else if d = co + 1 ∧ B.1 co 10 ≤ z ∧ z < B.1 co 10 + 20 then bb a b c g h (z - B.1 co 10) else B.2.2.2.1 d z := fun d z => by
      rw [fdF_4, e6, wI_2, fdF_4]
    refine ⟨iI (B.1 co 10 + 20), fdF co (co + 1) 10 a b c g h B, fdF mo (mo + 5) 6 a b c g h (wI (fdF co (co + 1) 10 a b c g h B) mo 0 0), s8_feed rc rt t1.1 q, ?_, ⟨fun d j w1 w2 => ?_, fun d j _ => ?_, ?_, fun d z w1 w2 w3 => ?_, fun d z _ => ?_⟩, ?_⟩
    · have := m_feed (B := fdF co (co + 1) 10 a b c g h B) (a := a) (b := b) (c := c) (g := g) (h := h) rm (by rw [n6]; exact t1.1) (by rw [n6]; exact q)
      rw [n6] at this
      exact this
    · rw [i2 d j (fun y => by have := w2 y; omega), if_neg (fun y => by have := w2 y.1; omega), if_neg (fun y => w1 y.1 y.2)]
    · rw [fdF_r.1]
      show (fdF co (co + 1) 10 a b c g h B).2.1 d j = _
      rw [fdF_r.1]
    · rw [fdF_r.2.1]
      show (fdF co (co + 1) 10 a b c g h B).2.2.1 = _
      rw [fdF_r.2.1]
    · rw [r2, if_neg (fun y => w3 y.1), if_neg (fun y => w2 y.1)]
    · rw [fdF_r.2.2]
      show (fdF co (co + 1) 10 a b c g h B).2.2.2.2 d z = _
      rw [fdF_r.2.2]
    · unfold rTp
      rw [i2 co 10 (by omega), i2 mo 6 (by omega), i2 mo 14 (by omega), i2 mo 15 (by omega), i2 (co + 2) 0 (by omega), i2 (co + 2) 1 (by omega), if_neg (by omega), if_pos ⟨rfl, rfl⟩, if_pos ⟨rfl, rfl⟩, if_neg (by omega), if_neg (by omega), if_neg (by omega), if_neg (by omega), if_neg (by omega), if_neg (by omega), if_neg (by omega), if_neg (by omega)]
      refine ⟨⟨by omega, by omega⟩, rfl, fun z z0 z1 => ?_, t4, t5, t6, t7⟩
      rw [r2, r2]
      by_cases w : B.1 co 10 ≤ z
      · rw [if_pos ⟨rfl, w, z1⟩, if_neg (by omega), if_pos ⟨rfl, w, z1⟩]
        exact ⟨rfl, bb_b⟩
      · rw [if_neg (by omega), if_neg (by omega), if_neg (by omega), if_neg (by omega)]
        exact t3 z z0 (by omega)
  · refine ⟨iI (-1), B, wI B mo 0 0, ?_, ?_, ⟨fun d j w1 w2 => ?_, fun _ _ _ => rfl, rfl, fun _ _ _ _ _ => rfl, fun _ _ _ => rfl⟩, ?_⟩
    · simp (disch := omega) only [fX8_feed, c8 rc, g8_10 rc, some_bind, iI_le]
      rw [if_neg q]
    · have e6 : (wI B mo 0 0).1 mo 6 = B.1 co 10 := by rw [wI_1, if_neg (by omega), t2]
      simp (disch := omega) only [fX9_feed, c9 rm.1, p9_0 rm.1, g9_6 rm.1, some_bind, e6, iI_add, iI_le]
      rw [if_neg (by omega)]
    · rw [wI_1, if_neg (fun y => by have := w2 y.1; omega)]
    · have f : ∀ d j, (d = mo → j ≠ 0) → (wI B mo 0 0).1 d j = B.1 d j := fun d j w => by rw [wI_1, if_neg (fun y => w y.1 y.2)]
      unfold rTp
      rw [f co 10 (by omega), f mo 6 (by omega), f mo 14 (by omega), f mo 15 (by omega), f (co + 2) 0 (by omega), f (co + 2) 1 (by omega)]
      exact T
end CO
