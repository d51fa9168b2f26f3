/-! slots: write, paste -/
section RP
variable {E : Ev} {B C : Bk}
theorem RW_b {k : Nat} (h : RW B k) : -1 ≤ B.1 (50 + 2 * k) 1 ∧ B.1 (50 + 2 * k) 1 ≤ 60 := by
  rcases h with h | h
  · omega
  · exact ⟨by omega, h.1.2⟩
def cutF (w : Int) (v : Int64) : Int64 := if w = 0 then Int32.toInt64 (i2b (Int64.toInt32 v)) else if w = 1 then Int32.toInt64 (i2s (Int64.toInt32 v)) else if w = 2 then Int32.toInt64 (Int64.toInt32 v) else v
theorem s5_put {d : Nat} {i : Int} {v : Int64} (h : KD E d 5 3) (h2 : KD E (d + 1) 21 60) (w : 0 ≤ B.1 d 2 ∧ B.1 d 2 ≤ 3) (i0 : 0 ≤ i) (i1 : i < 60) : fX5_put (E.1 + d) (iI i) v (St E B) = some (St E (wJ B (d + 1) i (cutF (B.1 d 2) v))) := by
  simp (disch := omega) only [fX5_put, c5 h, g5_2 h, some_bind, iI_0, iI_eq, g5_0 h, sL_ok h2]
  unfold cutF
  repeat' split
  all_goals first | rfl | (exfalso; omega)
theorem m_cut {w : Int} {v : Int64} {s : Hp} (h : 0 ≤ w ∧ w ≤ 3) : fX9_cut v (iI w) s = some (cutF w v, s) := by
  simp (disch := omega) only [fX9_cut, iI_0, iI_eq]
  unfold cutF
  repeat' split
  all_goals first | rfl | (exfalso; omega)
theorem o_write {s i : Int} {v : Int64} (K : RK E B) (R : RS B) (hs : i32 s) (hi : i32 i) : QR E B (fX8_write (E.1 + co) (iI s) (iI i) v) (fX9_write (E.1 + mo) (iI s) (iI i) v) := by
  have hmo : mo = 58 := rfl
  have hco : co = 0 := rfl
  have rc := K.1
  have rm := K.2.2.1
  have hi' := hi
  obtain ⟨i1, i2⟩ := hi'
  have e6 : ∀ C, gR (St E C) (E.1 + co) 8 6 = some (E.1 + (co + 19)) := fun C => g8_6 rc
  by_cases c1 : 0 ≤ s ∧ s ≤ 3
  · obtain ⟨t, rfl⟩ : ∃ t : Nat, s = t := ⟨s.toNat, by omega⟩
    obtain ⟨q1, q2, q3⟩ := K.2.2.2 t (by omega)
    have Rt := R t (by omega)
    have bt := RW_b Rt
    have th := s5_isThere (B := B) q1 bt
    have ho := s5_holds (B := B) (i := i) (n := 1) q1 bt hi ⟨by omega, by omega⟩
    have cf : fX8_write (E.1 + co) (iI t) (iI i) v (St E B) = if 0 ≤ B.1 (50 + 2 * t) 1 then (if 0 ≤ i ∧ (0 : Int) ≤ 1 ∧ i + 1 ≤ B.1 (50 + 2 * t) 1 then (fX5_put (E.1 + (50 + 2 * t)) (iI i) v (St E B)).bind (fun s13 => some (iI 0, s13)) else some (iI (-7), St E B)) else some (iI (-6), St E B) := by
      simp (disch := omega) only [fX8_write, c8 rc, s8_isSlot hs, some_bind, iI_0, ib, e6, r_slot K rfl c1.1 c1.2, Int.toNat_natCast, th, ho]
      rw [if_pos c1]
    have m1 : (wI B mo 0 0).2.2.2.1 (mo + 1) t = B.2.2.2.1 (mo + 1) t := rfl
    have m2 : (wI B mo 0 0).2.2.2.1 (mo + 2) t = B.2.2.2.1 (mo + 2) t := rfl
    rcases Rt with ⟨a1, a2⟩ | ⟨a1, a2, a3, a4, a5⟩
    · refine QR_no R (v := iI (-6)) ?_ ?_
      · rw [cf, if_neg (by omega)]
      · simp (disch := omega) only [fX9_write, c9 rm.1, p9_0 rm.1, some_bind, m_isSlot hs, iI_0, ib, g9_1 rm.1, aI_ok (mk1 rm), m1, a2]
        rw [if_pos c1]
        rfl
    · by_cases c2 : 0 ≤ i ∧ i < B.1 (50 + 2 * t) 1
      · have e2 : (wJ B (50 + 2 * t + 1) i (cutF (B.1 (50 + 2 * t) 2) v)).2.2.2.1 = B.2.2.2.1 := rfl
        have r1 : (wI (wJ B (50 + 2 * t + 1) i (cutF (B.1 (50 + 2 * t) 2) v)) mo 0 0).2.2.2.1 (mo + 1) t = B.1 (50 + 2 * t) 2 := a3
        have r2 : (wI (wJ B (50 + 2 * t + 1) i (cutF (B.1 (50 + 2 * t) 2) v)) mo 0 0).2.2.2.1 (mo + 2) t = B.1 (50 + 2 * t) 1 := a4
        have dl : ∀ d z, (wJ (wI (wJ B (50 + 2 * t + 1) i (cutF (B.1 (50 + 2 * t) 2) v)) mo 0 0) (mo + 3) (60 * (t : Int) + i) (cutF (B.1 (50 + 2 * t) 2) v)).2.2.2.2 d z = if d = mo + 3 ∧ z = 60 * (t : Int) + i then cutF (B.1 (50 + 2 * t) 2) v else if d = 50 + 2 * t + 1 ∧ z = i then cutF (B.1 (50 + 2 * t) 2) v else B.2.2.2.2 d z := fun d z => rfl
        have di : ∀ d j, (d = mo → j ≠ 0) → (wJ (wI (wJ B (50 + 2 * t + 1) i (cutF (B.1 (50 + 2 * t) 2) v)) mo 0 0) (mo + 3) (60 * (t : Int) + i) (cutF (B.1 (50 + 2 * t) 2) v)).1 d j = B.1 d j := fun d j q => by
          show (if d = mo ∧ j = 0 then 0 else B.1 d j) = _
          rw [if_neg (fun z => q z.1 z.2)]
        refine ⟨iI 0, wJ B (50 + 2 * t + 1) i (cutF (B.1 (50 + 2 * t) 2) v), wJ (wI (wJ B (50 + 2 * t + 1) i (cutF (B.1 (50 + 2 * t) 2) v)) mo 0 0) (mo + 3) (60 * (t : Int) + i) (cutF (B.1 (50 + 2 * t) 2) v), ?_, ?_, ⟨fun d j a b => di d j (fun q => by have := b q; unfold msv at this; omega), fun d j _ => rfl, rfl, fun d z _ _ _ => rfl, fun d z a b c => ?_⟩, fun k hk => ?_⟩
        · rw [cf, if_pos a1.1, if_pos ⟨c2.1, by omega, by omega⟩, s5_put q1 q2 a2 c2.1 (by omega), some_bind]
        · simp (disch := omega) only [fX9_write, c9 rm.1, p9_0 rm.1, some_bind, m_isSlot hs, iI_0, ib, g9_1 rm.1, aI_ok (mk1 rm), r1, iI_eq, g9_2 rm.1, aI_ok (mk2 rm), r2, iI_sub, jI_i, jI_0, m_in, g9_3 rm.1, m_cut a2, iI_mul, iI_add, sL_ok (mk3 rm)]
          rw [if_pos c1, if_neg (by omega), if_pos (by omega)]
        · rw [dl, if_neg (fun q => b q.1), if_neg (by omega)]
        · have Rk := R k hk
          unfold RW at *
          rw [di _ _ (by omega), di _ _ (by omega)]
          rcases Rk with Rk | ⟨b1, b2, b3, b4, b5⟩
          · exact Or.inl Rk
          · refine Or.inr ⟨b1, b2, b3, b4, fun z z0 z1 => ?_⟩
            rw [dl, dl]
            by_cases q : k = t ∧ z = i
            · rw [if_neg (by omega), if_pos ⟨by omega, q.2⟩, if_pos ⟨rfl, by omega⟩]
            · rw [if_neg (by omega), if_neg (by omega), if_neg (by omega), if_neg (by omega)]
              exact b5 z z0 z1
      · refine QR_no R (v := iI (-7)) ?_ ?_
        · rw [cf, if_pos a1.1, if_neg (by omega)]
        · have m1' : (wI B mo 0 0).2.2.2.1 (mo + 1) t = B.1 (50 + 2 * t) 2 := a3
          have m2' : (wI B mo 0 0).2.2.2.1 (mo + 2) t = B.1 (50 + 2 * t) 1 := a4
          simp (disch := omega) only [fX9_write, c9 rm.1, p9_0 rm.1, some_bind, m_isSlot hs, iI_0, ib, g9_1 rm.1, aI_ok (mk1 rm), m1', iI_eq, g9_2 rm.1, aI_ok (mk2 rm), m2', iI_sub, jI_i, jI_0, m_in]
          rw [if_pos c1, if_neg (by omega), if_neg (by omega)]
  · refine QR_no R (v := iI (-2)) ?_ ?_
    · simp only [fX8_write, c8 rc, s8_isSlot hs, some_bind, iI_0, ib]
      rw [if_neg c1]
    · simp only [fX9_write, c9 rm.1, p9_0 rm.1, some_bind, m_isSlot hs, iI_0, ib]
      rw [if_neg c1]
/-- only the reference's long rows d change -/
def FJ (d : Nat) (B C : Bk) : Prop := C.1 = B.1 ∧ C.2.1 = B.2.1 ∧ C.2.2.1 = B.2.2.1 ∧ C.2.2.2.1 = B.2.2.2.1 ∧ (∀ e z, e ≠ d → C.2.2.2.2 e z = B.2.2.2.2 e z)
theorem m_paste118 {s i p q n : Int} (rm : mKd E mo) (a0 : 0 ≤ 60 * s + i) (a1 : 60 * s + i + n ≤ 240) (n0 : 0 ≤ n) (n1 : n ≤ 60) : ∃ D, iter (fX9_paste_l118 (E.1 + mo) (iI s) (iI i) (iI p) (iI q) (iI n)) FU (iI 0, St E C) = some (St E D) ∧ FJ (mo + 4) C D ∧ (∀ z, 0 ≤ z → z < n → D.2.2.2.2 (mo + 4) z = C.2.2.2.2 (mo + 3) (60 * s + i + z)) := by
  obtain ⟨r, e1, D, e2, c1, c2⟩ := iter_acc (F := fX9_paste_l118 (E.1 + mo) (iI s) (iI i) (iI p) (iI q) (iI n)) (fun j a => ∃ D, a = (iI j, St E D) ∧ FJ (mo + 4) C D ∧ (∀ z, 0 ≤ z → z < (j : Int) → D.2.2.2.2 (mo + 4) z = C.2.2.2.2 (mo + 3) (60 * s + i + z))) n.toNat (fun r => ∃ D, r = St E D ∧ FJ (mo + 4) C D ∧ (∀ z, 0 ≤ z → z < n → D.2.2.2.2 (mo + 4) z = C.2.2.2.2 (mo + 3) (60 * s + i + z)))
    (fun j a hj => by
      rintro ⟨D, rfl, c1, c2⟩
      have e3 := c1.2.2.2.2 (mo + 3) (60 * s + i + (j : Int)) (by omega)
      refine ⟨(iI ((j + 1 : Nat) : Int), St E (wJ D (mo + 4) (j : Int) (C.2.2.2.2 (mo + 3) (60 * s + i + (j : Int))))), ?_, _, rfl, ⟨c1.1, c1.2.1, c1.2.2.1, c1.2.2.2.1, fun e z w => by rw [wJ_5, if_neg (fun y => w y.1)]; exact c1.2.2.2.2 e z w⟩, fun z z0 z1 => ?_⟩
      · simp (disch := omega) only [fX9_paste_l118, iI_le, g9_4 rm.1, g9_3 rm.1, some_bind, iI_mul, iI_add, aL_ok (mk3 rm), e3, sL_ok (mk4 rm)]
        rw [if_neg (by omega)]
        rfl
      · rw [wJ_5]
        by_cases w : z = (j : Int)
        · rw [if_pos ⟨rfl, w⟩, w]
        · rw [if_neg (fun y => w y.2)]
          exact c2 z z0 (by omega))
    (fun a => by
      rintro ⟨D, rfl, c1, c2⟩
      refine ⟨_, ?_, D, rfl, c1, fun z z0 z1 => c2 z z0 (by omega)⟩
      simp (disch := omega) only [fX9_paste_l118, iI_le]
      rw [if_pos (by omega)])
    (N := FU) (by have := FU_big (n := n) (by omega); omega) (a := (iI 0, St E C)) ⟨C, rfl, ⟨rfl, rfl, rfl, rfl, fun _ _ _ => rfl⟩, fun z z0 z1 => by omega⟩
  exact ⟨D, by rw [e1, e2], c1, c2⟩
theorem m_paste155 {p q n : Int} (rm : mKd E mo) (a0 : 0 ≤ 60 * p + q) (a1 : 60 * p + q + n ≤ 240) (n0 : 0 ≤ n) (n1 : n ≤ 60) : ∃ D, iter (fX9_paste_l155 (E.1 + mo) (iI p) (iI q) (iI n)) FU (iI 0, St E C) = some (St E D) ∧ FJ (mo + 3) C D ∧ (∀ z, D.2.2.2.2 (mo + 3) z = if 60 * p + q ≤ z ∧ z < 60 * p + q + n then C.2.2.2.2 (mo + 4) (z - (60 * p + q)) else C.2.2.2.2 (mo + 3) z) := by
  obtain ⟨r, e1, D, e2, c1, c2⟩ := iter_acc (F := fX9_paste_l155 (E.1 + mo) (iI p) (iI q) (iI n)) (fun j a => ∃ D, a = (iI j, St E D) ∧ FJ (mo + 3) C D ∧ (∀ z, D.2.2.2.2 (mo + 3) z = if 60 * p + q ≤ z ∧ z < 60 * p + q + (j : Int) then C.2.2.2.2 (mo + 4) (z - (60 * p + q)) else C.2.2.2.2 (mo + 3) z)) n.toNat (fun r => ∃ D, r = St E D ∧ FJ (mo + 3) C D ∧ (∀ z, D.2.2.2.2 (mo + 3) z = if 60 * p + q ≤ z ∧ z < 60 * p + q + n then C.2.2.2.2 (mo + 4) (z - (60 * p + q)) else C.2.2.2.2 (mo + 3) z))
    (fun j a hj => by
      rintro ⟨D, rfl, c1, c2⟩
      have e4 := c1.2.2.2.2 (mo + 4) (j : Int) (by omega)
      refine ⟨(iI ((j + 1 : Nat) : Int), St E (wJ D (mo + 3) (60 * p + q + (j : Int)) (C.2.2.2.2 (mo + 4) (j : Int)))), ?_, _, rfl, ⟨c1.1, c1.2.1, c1.2.2.1, c1.2.2.2.1, fun e z w => by rw [wJ_5, if_neg (fun y => w y.1)]; exact c1.2.2.2.2 e z w⟩, fun z => ?_⟩
      · simp (disch := omega) only [fX9_paste_l155, iI_le, g9_4 rm.1, g9_3 rm.1, some_bind, iI_mul, iI_add, aL_ok (mk4 rm), e4, sL_ok (mk3 rm)]
        rw [if_neg (by omega)]
        rfl
      · rw [wJ_5, c2]
        by_cases w : z = 60 * p + q + (j : Int)
        · rw [if_pos ⟨rfl, w⟩, if_pos (by omega), w, show 60 * p + q + (j : Int) - (60 * p + q) = j by omega]
        · rw [if_neg (fun y => w y.2)]
          by_cases w2 : 60 * p + q ≤ z ∧ z < 60 * p + q + (j : Int)
          · rw [if_pos w2, if_pos (by omega)]
          · rw [if_neg w2, if_neg (by omega)])
    (fun a => by
      rintro ⟨D, rfl, c1, c2⟩
      refine ⟨_, ?_, D, rfl, c1, fun z => by rw [c2, show ((n.toNat : Nat) : Int) = n by omega]⟩
      simp (disch := omega) only [fX9_paste_l155, iI_le]
      rw [if_pos (by omega)])
    (N := FU) (by have := FU_big (n := n) (by omega); omega) (a := (iI 0, St E C)) ⟨C, rfl, ⟨rfl, rfl, rfl, rfl, fun _ _ _ => rfl⟩, fun z => by rw [if_neg (by omega)]⟩
  exact ⟨D, by rw [e1, e2], c1, c2⟩
end RP
