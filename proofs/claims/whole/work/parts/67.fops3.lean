/-! questions about the flight: money, richest, sold, door, meets -/
section FQR
variable {E : Ev} {B C : Bk} {n m : Nat}
theorem m_moneyNow {V : Vy} (rm : mKd E mo) (hV : VOK V) (I : FQ C V (V.1 4).toNat) (h3 : C.2.2.2.1 (mo + 7) 3 = V.1 4) (h7 : C.2.2.2.1 (mo + 7) 7 = V.1 8) : fX9_moneyNow (E.1 + mo) (St E C) = some (iI (mnF V (V.1 8).toNat), St E C) := by
  have b4 := hV.2.2.2.1
  have b8 := hV.2.2.2.2.2.2.2.1
  obtain ⟨k, hk⟩ : ∃ k : Nat, (V.1 4).toNat = k + 1 := ⟨(V.1 4).toNat - 1, by omega⟩
  have lp : iter (fX9_moneyNow_l4 (E.1 + mo)) FU (iI 0, iI 0, St E C) = some (iI (mnF V (V.1 8).toNat), St E C) := by
    refine iter_fo (fun j x => (iI x, iI j, St E C)) (fun s x => x + (fsF V (V.1 4).toNat).1 s 6) 0 (V.1 8).toNat _ (fun _ _ => True) trivial (fun _ _ _ _ => trivial) (fun j x hj _ => ?_) ?_ (N := FU) (FUh (by omega))
    · have sp := q9_spot (s := j) (h := k) (k := 6) rm hV I (by omega) (by omega) (by omega) (by omega) (by omega)
      rw [← hk, show (k : Int) = V.1 4 - 1 by omega] at sp
      simp (disch := omega) only [fX9_moneyNow_l4, g9_17 rm.1, aI_ok (mk7 rm), h3, h7, some_bind, iI_le, iI_sub, sp, lt_, iI_add]
      rw [if_neg (by omega)]
    · simp (disch := omega) only [fX9_moneyNow_l4, g9_17 rm.1, aI_ok (mk7 rm), h7, some_bind, iI_le]
      rw [if_pos (by omega)]
      rfl
  simp only [fX9_moneyNow, c9 rm.1, some_bind, lp]
theorem o_money (F : FB E B n m) : QF E B n m (fX8_money (E.1 + co)) (fX9_money (E.1 + mo)) := by
  have rc := F.1.1.1
  have rn := F.1.1.2.1
  have rk := F.1.1.2.2.1
  have rm := F.1.1.2.2.2
  have rf : ∀ C, FB E C n m → (∀ j, C.1 n j = B.1 n j) → fX9_money (E.1 + mo) (St E C) = if 0 < B.1 n 0 then (fX9_asTold (E.1 + mo) (St E (wI C mo 0 0))).bind (fun s4 => (fX9_moneyNow (E.1 + mo) s4).bind fun r5 => some (r5.1, r5.2)) else some (iI (-2), St E (wI C mo 0 0)) := fun C FC cn => by
    simp only [fX9_money, c9 rm.1, p9_0 rm.1, some_bind, mg_isValley FC, iI_0, ib, cn]
  by_cases hst : 0 < B.1 n 0
  · have hV := rv_VOK F.1 hst
    refine QF_fl F hst (v := iI (mnF (vyN B n) (B.1 n 8).toNat)) (k := fun r4 => (fX7_moneyOfAll r4.1 r4.2).bind fun r5 => some (r5.1, r5.2)) (k2 := fun s4 => (fX9_moneyNow (E.1 + mo) s4).bind fun r5 => some (r5.1, r5.2)) ?_ (fun C FC cn I h6 _ => ?_) (fun C FC cn => ?_) (fun C FC cn I J _ => ⟨C, ?_, sc_rfl⟩)
    · simp only [fX8_money, c8 rc, g8_7 rc rn, s_stands rk F.1.2.1, some_bind, iI_0, ib]
      rw [if_pos hst]
    · dsimp only
      rw [q7_money (a := 0) FC.2.1.1 h6 rk hV (cn 4) (cn 8) I (by omega), some_bind]
      rfl
    · rw [rf C FC cn, if_pos hst]
    · rw [m_moneyNow rm hV I (by rw [vr_h3 FC.1]; exact cn 4) (by rw [vr_h7 FC.1]; exact cn 8), some_bind]
      rfl
  · refine QF_no F (v := iI (-2)) ?_ ?_
    · simp only [fX8_money, c8 rc, g8_7 rc rn, s_stands rk F.1.2.1, some_bind, iI_0, ib]
      rw [if_neg hst]
    · rw [rf B F (fun _ => rfl), if_neg hst]
/-- the richest of the first shops -/
def rcF (V : Vy) : Nat → Int := fo (fun s r => if r = -1 ∨ (fsF V (V.1 4).toNat).1 r 6 < (fsF V (V.1 4).toNat).1 s 6 then s else r) (-1)
theorem o_richest (F : FB E B n m) : QF E B n m (fX8_richest (E.1 + co)) (fX9_richest (E.1 + mo)) := by
  have rc := F.1.1.1
  have rn := F.1.1.2.1
  have rk := F.1.1.2.2.1
  have rm := F.1.1.2.2.2
  have w4 := F.1.2.1.2.2.2.2.1
  have w8 := F.1.2.1.2.2.2.2.2.2.2.2.1
  have rf : ∀ C, FB E C n m → (∀ j, C.1 n j = B.1 n j) → fX9_richest (E.1 + mo) (St E C) = if 0 < B.1 n 0 then (fX9_asTold (E.1 + mo) (St E (wI C mo 0 0))).bind (fun s4 => (iter (fX9_richest_l23 (E.1 + mo)) FU (iI (-1), iI 0, s4)).bind fun r5 => some (r5.1, r5.2)) else some (iI (-2), St E (wI C mo 0 0)) := fun C FC cn => by
    simp only [fX9_richest, c9 rm.1, p9_0 rm.1, some_bind, mg_isValley FC, iI_0, ib, cn]
  by_cases hst : 0 < B.1 n 0
  · have hV := rv_VOK F.1 hst
    have mb : ∀ r : Int, 0 ≤ r → r < B.1 n 8 → 0 ≤ (fsF (vyN B n) (B.1 n 4).toNat).1 r 6 ∧ (fsF (vyN B n) (B.1 n 4).toNat).1 r 6 ≤ 99 * 24 := fun r r0 r1 => by
      have := (fsF_in hV (h := (B.1 n 4).toNat) r0 r1).2.2.2.2.2.2
      omega
    have gI : ∀ (j : Nat) (r : Int), (r = -1 ∨ (0 ≤ r ∧ r < j)) → ((if r = -1 ∨ (fsF (vyN B n) (B.1 n 4).toNat).1 r 6 < (fsF (vyN B n) (B.1 n 4).toNat).1 j 6 then (j : Int) else r) = -1 ∨ (0 ≤ (if r = -1 ∨ (fsF (vyN B n) (B.1 n 4).toNat).1 r 6 < (fsF (vyN B n) (B.1 n 4).toNat).1 j 6 then (j : Int) else r) ∧ (if r = -1 ∨ (fsF (vyN B n) (B.1 n 4).toNat).1 r 6 < (fsF (vyN B n) (B.1 n 4).toNat).1 j 6 then (j : Int) else r) < ((j + 1 : Nat) : Int))) := fun j r hr => by
      split <;> omega
    refine QF_fl F hst (v := iI (rcF (vyN B n) (B.1 n 8).toNat)) (k := fun r4 => (iter (fX8_richest_l25 (E.1 + co) r4.1) FU (iI (-1), iI (-1), iI 0, r4.2)).bind fun r5 => some (r5.1, r5.2)) (k2 := fun s4 => (iter (fX9_richest_l23 (E.1 + mo)) FU (iI (-1), iI 0, s4)).bind fun r5 => some (r5.1, r5.2)) ?_ (fun C FC cn I h6 _ => ?_) (fun C FC cn => ?_) (fun C FC cn I J _ => ⟨C, ?_, sc_rfl⟩)
    · simp only [fX8_richest, c8 rc, g8_7 rc rn, s_stands rk F.1.2.1, some_bind, iI_0, ib]
      rw [if_pos hst]
    · have lp : iter (fX8_richest_l25 (E.1 + co) (E.1 + 3)) FU (iI (-1), iI (-1), iI 0, St E C) = some (iI (rcF (vyN B n) (B.1 n 8).toNat), St E C) := by
        refine iter_fo (fun j r => (iI r, iI (if r = -1 then -1 else (fsF (vyN B n) (B.1 n 4).toNat).1 r 6), iI j, St E C)) (fun s r => if r = -1 ∨ (fsF (vyN B n) (B.1 n 4).toNat).1 r 6 < (fsF (vyN B n) (B.1 n 4).toNat).1 s 6 then s else r) (-1) (B.1 n 8).toNat _ (fun j r => r = -1 ∨ (0 ≤ r ∧ r < j)) (Or.inl rfl) (fun j r hj hr => gI j r hr) (fun j r hj hr => ?_) ?_ (N := FU) (FUh (by omega))
        · have fe := q7_factEnd (s := j) (k := 6) (a := 0) FC.2.1.1 h6 rk hV (cn 4) I (by omega) (show (j : Int) < B.1 n 8 by omega) (by omega) (by omega)
          have fe' : fX7_factAtEnd (E.1 + 3) (iI j) (iI 6) (St E C) = some (iI ((fsF (vyN B n) (B.1 n 4).toNat).1 j 6), St E C) := fe
          have m1 := mb j (by omega) (by omega)
          have m2 : ¬ r = -1 → 0 ≤ (fsF (vyN B n) (B.1 n 4).toNat).1 r 6 ∧ (fsF (vyN B n) (B.1 n 4).toNat).1 r 6 ≤ 99 * 24 := fun q => mb r (by omega) (by omega)
          have m3 : -1 ≤ (if r = -1 then -1 else (fsF (vyN B n) (B.1 n 4).toNat).1 r 6) ∧ (if r = -1 then -1 else (fsF (vyN B n) (B.1 n 4).toNat).1 r 6) ≤ 99 * 24 := by
            split <;> omega
          simp (disch := omega) only [fX8_richest_l25, fX8_richest_b61, g8_7 rc FC.1.1.2.1, g6_8 rk.1, cn, some_bind, iI_le, fe', iI_add]
          rw [if_neg (by omega)]
          by_cases q : r = -1 ∨ (fsF (vyN B n) (B.1 n 4).toNat).1 r 6 < (fsF (vyN B n) (B.1 n 4).toNat).1 j 6
          · rw [if_neg (by
              split
              · omega
              · omega), if_pos q, if_neg (show ¬ (j : Int) = -1 by omega)]
          · rw [if_pos (by
              rw [if_neg (fun w => q (Or.inl w))]
              omega), if_neg q]
        · simp (disch := omega) only [fX8_richest_l25, g8_7 rc FC.1.1.2.1, g6_8 rk.1, cn, some_bind, iI_le]
          rw [if_pos (by omega)]
          rfl
      dsimp only
      rw [lp, some_bind]
    · rw [rf C FC cn, if_pos hst]
    · have lp : iter (fX9_richest_l23 (E.1 + mo)) FU (iI (-1), iI 0, St E C) = some (iI (rcF (vyN B n) (B.1 n 8).toNat), St E C) := by
        have h3 := vr_h3 FC.1
        have h7 := vr_h7 FC.1
        have b4 := hV.2.2.2.1
        obtain ⟨k, hk⟩ : ∃ k : Nat, (B.1 n 4).toNat = k + 1 := ⟨(B.1 n 4).toNat - 1, by have : 1 ≤ B.1 n 4 := b4.1; omega⟩
        have sp : ∀ r : Int, 0 ≤ r → r < B.1 n 8 → fX9_spotOf (E.1 + mo) (iI r) (iI (B.1 n 4 - 1)) (iI 6) (St E C) = some (iI ((fsF (vyN B n) (B.1 n 4).toNat).1 r 6), St E C) := fun r r0 r1 => by
          obtain ⟨t, rfl⟩ : ∃ t : Nat, r = t := ⟨r.toNat, by omega⟩
          have := q9_spot (s := t) (h := k) (k := 6) rm hV I r1 (by omega) (by omega) (by omega) (by omega)
          rw [← hk, show (k : Int) = B.1 n 4 - 1 by omega] at this
          exact this
        refine iter_fo (fun j r => (iI r, iI j, St E C)) (fun s r => if r = -1 ∨ (fsF (vyN B n) (B.1 n 4).toNat).1 r 6 < (fsF (vyN B n) (B.1 n 4).toNat).1 s 6 then s else r) (-1) (B.1 n 8).toNat _ (fun j r => r = -1 ∨ (0 ≤ r ∧ r < j)) (Or.inl rfl) (fun j r hj hr => gI j r hr) (fun j r hj hr => ?_) ?_ (N := FU) (FUh (by omega))
        · have m1 := mb j (by omega) (by omega)
          simp (disch := omega) only [fX9_richest_l23, fX9_richest_b72, fX9_richest_b74, g9_17 rm.1, aI_ok (mk7 rm), h3, h7, cn, some_bind, iI_le, iI_sub, iI_eq, sp j (by omega) (by omega), iI_add]
          rw [if_neg (by omega)]
          by_cases q : r = -1
          · rw [if_pos q, if_pos (Or.inl q)]
          · have m2 := mb r (by omega) (by omega)
            rw [if_neg q, sp r (by omega) (by omega), some_bind]
            simp (disch := omega) only [iI_le]
            by_cases q2 : (fsF (vyN B n) (B.1 n 4).toNat).1 r 6 < (fsF (vyN B n) (B.1 n 4).toNat).1 j 6
            · rw [if_neg (by omega), if_pos (Or.inr q2)]
            · rw [if_pos (by omega), if_neg (fun w => by omega)]
        · simp (disch := omega) only [fX9_richest_l23, g9_17 rm.1, aI_ok (mk7 rm), h7, cn, some_bind, iI_le]
          rw [if_pos (by omega)]
          rfl
      rw [lp, some_bind]
  · refine QF_no F (v := iI (-2)) ?_ ?_
    · simp only [fX8_richest, c8 rc, g8_7 rc rn, s_stands rk F.1.2.1, some_bind, iI_0, ib]
      rw [if_neg hst]
    · rw [rf B F (fun _ => rfl), if_neg hst]
/-- how many sales ahead of an hour -/
def cnF (V : Vy) (s : Nat) (h : Int) : Int := fo (fun h x => x + bI (¬ sldF V h.toNat s = -1)) 0 h.toNat
theorem cnF_s {V : Vy} {s : Nat} {h : Int} (h0 : 0 ≤ h) : cnF V s (h + 1) = cnF V s h + bI (¬ sldF V h.toNat s = -1) := by
  unfold cnF
  rw [show (h + 1).toNat = h.toNat + 1 by omega]
  show fo _ 0 h.toNat + bI (¬ sldF V ((h.toNat : Nat) : Int).toNat s = -1) = _
  rw [Int.toNat_natCast]
theorem cnF_b {V : Vy} {s : Nat} : ∀ k : Nat, 0 ≤ cnF V s k ∧ cnF V s k ≤ k := by
  intro k
  induction k with
  | zero => exact ⟨Int.le_refl 0, Int.le_refl 0⟩
  | succ k ih =>
    have := cnF_s (V := V) (s := s) (h := k) (by omega)
    have b := bI_le (p := ¬ sldF V (k : Int).toNat s = -1)
    rw [show ((k + 1 : Nat) : Int) = (k : Int) + 1 by omega, this]
    omega
theorem iI_z {a b : Int} : iI (a - b) = iI 0 ↔ iI b = iI a := by
  constructor
  · intro h
    have : iI (a - b) + iI b = iI 0 + iI b := by rw [h]
    rw [iI_add, iI_add, show a - b + b = a by omega, show 0 + b = b by omega] at this
    exact this.symm
  · intro h
    rw [← iI_sub, h, iI_sub, show a - a = 0 by omega]
theorem o_sold {s i : Int} (F : FB E B n m) (hs : i32 s) (hi : i32 i) : QF E B n m (fX8_sold (E.1 + co) (iI s) (iI i)) (fX9_sold (E.1 + mo) (iI s) (iI i)) := by
  have rc := F.1.1.1
  have rn := F.1.1.2.1
  have rk := F.1.1.2.2.1
  have rm := F.1.1.2.2.2
  have w4 := F.1.2.1.2.2.2.2.1
  have w8 := F.1.2.1.2.2.2.2.2.2.2.2.1
  have rf : ∀ C, FB E C n m → (∀ j, C.1 n j = B.1 n j) → fX9_sold (E.1 + mo) (iI s) (iI i) (St E C) = if (0 ≤ s ∧ s < B.1 n 8) then (fX9_asTold (E.1 + mo) (St E (wI C mo 0 0))).bind (fun s4 => (iter (fX9_sold_l25 (E.1 + mo) (iI s)) FU (iI i, iI 0, s4)).bind (Sum.elim (fun r12a => some ((iI (-1)), r12a)) (fun r12b => some (r12b.1, r12b.2)))) else some (iI (-2), St E (wI C mo 0 0)) := fun C FC cn => by
    simp only [fX9_sold, c9 rm.1, p9_0 rm.1, some_bind, mg_isShop FC hs, iI_0, ib, cn]
  by_cases c1 : 0 ≤ s ∧ s < B.1 n 8
  · have hst := st_shop F c1
    have hV := rv_VOK F.1 hst
    obtain ⟨t, rfl⟩ : ∃ t : Nat, s = t := ⟨s.toNat, by omega⟩
    refine QF_fl F hst (v := if lf (fun h => ¬ sldF (vyN B n) h.toNat t = -1 ∧ iI (cnF (vyN B n) t h) = iI i) (B.1 n 4 - 0).toNat 0 < B.1 n 4 then iI (lf (fun h => ¬ sldF (vyN B n) h.toNat t = -1 ∧ iI (cnF (vyN B n) t h) = iI i) (B.1 n 4 - 0).toNat 0) else iI (-1)) (k := fun r5 => (iter (fX8_sold_l25 (E.1 + co) (iI t) (iI i) r5.1) FU (iI 0, iI 0, r5.2)).bind (Sum.elim (fun r11a => some ((iI (-1)), r11a)) (fun r11b => some (r11b.1, r11b.2)))) (k2 := fun s4 => (iter (fX9_sold_l25 (E.1 + mo) (iI t)) FU (iI i, iI 0, s4)).bind (Sum.elim (fun r12a => some ((iI (-1)), r12a)) (fun r12b => some (r12b.1, r12b.2)))) ?_ (fun C FC cn I _ _ => ?_) (fun C FC cn => ?_) (fun C FC cn I J _ => ⟨C, ?_, sc_rfl⟩)
    · simp only [fX8_sold, c8 rc, g8_7 rc rn, s_hasShop hs rk F.1.2.1, some_bind, iI_0, ib]
      rw [if_pos c1]
    · obtain ⟨r, e1, e2, e3⟩ := iter_lf (F := fX8_sold_l25 (E.1 + co) (iI t) (iI i) (E.1 + 3)) (fun j a => a = (iI (cnF (vyN B n) t j), iI j, St E C)) (fun h => ¬ sldF (vyN B n) h.toNat t = -1 ∧ iI (cnF (vyN B n) t h) = iI i) (fun j r => r = .inr (iI j, St E C)) (fun r => r = .inl (St E C)) 0 (B.1 n 4)
        (fun j a j0 j1 ha hp => by
          subst ha
          have wb := sldF_b (V := vyN B n) (h := j.toNat) (s := t) hV
          have sa := q7_sale (h := j.toNat) FC.2.1.1 I hV c1.2 (by omega) (by omega) (by omega)
          rw [show ((j.toNat : Nat) : Int) = j by omega] at sa
          refine ⟨_, ?_, rfl⟩
          rw [cnF_s j0]
          simp (disch := omega) only [fX8_sold_l25, fX8_sold_b60, g8_7 rc FC.1.1.2.1, g6_4 rk.1, cn, some_bind, iI_le, sa, iI_eq, iI_add]
          rw [if_neg (by omega)]
          by_cases q : sldF (vyN B n) j.toNat t = -1
          · rw [if_pos q, bI_f (fun w => w q), Int.add_zero]
          · rw [if_neg q, if_neg (fun w => hp ⟨q, w⟩), bI_t q])
        (fun j a j0 j1 ha hp => by
          subst ha
          have wb := sldF_b (V := vyN B n) (h := j.toNat) (s := t) hV
          have sa := q7_sale (h := j.toNat) FC.2.1.1 I hV c1.2 (by omega) (by omega) (by omega)
          rw [show ((j.toNat : Nat) : Int) = j by omega] at sa
          refine ⟨_, ?_, rfl⟩
          simp (disch := omega) only [fX8_sold_l25, fX8_sold_b60, g8_7 rc FC.1.1.2.1, g6_4 rk.1, cn, some_bind, iI_le, sa, iI_eq, iI_add]
          rw [if_neg (by omega), if_neg hp.1, if_pos hp.2])
        (fun a ha => by
          subst ha
          refine ⟨_, ?_, rfl⟩
          simp (disch := omega) only [fX8_sold_l25, g8_7 rc FC.1.1.2.1, g6_4 rk.1, cn, some_bind, iI_le]
          rw [if_pos (by omega)]) w4.1 (N := FU) (by have := FU_big (n := B.1 n 4) (by omega); omega) (a := (iI 0, iI 0, St E C)) rfl
      dsimp only
      rw [e1, some_bind]
      by_cases q : lf (fun h => ¬ sldF (vyN B n) h.toNat t = -1 ∧ iI (cnF (vyN B n) t h) = iI i) (B.1 n 4 - 0).toNat 0 < B.1 n 4
      · rw [if_pos q, e2 q]
        rfl
      · rw [if_neg q, e3 q]
        rfl
    · rw [rf C FC cn, if_pos c1]
    · have h3 := vr_h3 FC.1
      obtain ⟨r, e1, e2, e3⟩ := iter_lf (F := fX9_sold_l25 (E.1 + mo) (iI t)) (fun j a => a = (iI (i - cnF (vyN B n) t j), iI j, St E C)) (fun h => ¬ sldF (vyN B n) h.toNat t = -1 ∧ iI (cnF (vyN B n) t h) = iI i) (fun j r => r = .inr (iI j, St E C)) (fun r => r = .inl (St E C)) 0 (B.1 n 4)
        (fun j a j0 j1 ha hp => by
          subst ha
          have wb := sldF_b (V := vyN B n) (h := j.toNat) (s := t) hV
          have e := (I.2 j.toNat t (by omega) c1.2).2.2
          rw [show ((j.toNat : Nat) : Int) = j by omega] at e
          refine ⟨_, ?_, rfl⟩
          rw [cnF_s j0]
          simp (disch := omega) only [fX9_sold_l25, fX9_sold_b65, g9_17 rm.1, aI_ok (mk7 rm), h3, cn, some_bind, iI_le, g9_31 rm.1, iI_mul, iI_add, aI_ok (mk18 rm), e, iI_eq, iI_0, iI_z]
          rw [if_neg (by omega)]
          by_cases q : sldF (vyN B n) j.toNat t = -1
          · rw [if_pos q, bI_f (fun w => w q), Int.add_zero]
          · rw [if_neg q, if_neg (fun w => hp ⟨q, w⟩), bI_t q, show i - cnF (vyN B n) t j + -1 = i - (cnF (vyN B n) t j + 1) by omega])
        (fun j a j0 j1 ha hp => by
          subst ha
          have wb := sldF_b (V := vyN B n) (h := j.toNat) (s := t) hV
          have e := (I.2 j.toNat t (by omega) c1.2).2.2
          rw [show ((j.toNat : Nat) : Int) = j by omega] at e
          refine ⟨_, ?_, rfl⟩
          simp (disch := omega) only [fX9_sold_l25, fX9_sold_b65, g9_17 rm.1, aI_ok (mk7 rm), h3, cn, some_bind, iI_le, g9_31 rm.1, iI_mul, iI_add, aI_ok (mk18 rm), e, iI_eq, iI_0, iI_z]
          rw [if_neg (by omega), if_neg hp.1, if_pos hp.2])
        (fun a ha => by
          subst ha
          refine ⟨_, ?_, rfl⟩
          simp (disch := omega) only [fX9_sold_l25, g9_17 rm.1, aI_ok (mk7 rm), h3, cn, some_bind, iI_le]
          rw [if_pos (by omega)]) w4.1 (N := FU) (by have := FU_big (n := B.1 n 4) (by omega); omega) (a := (iI i, iI 0, St E C)) (by
            show (iI i, iI 0, St E C) = (iI (i - 0), iI 0, St E C)
            rw [Int.sub_zero])
      rw [e1, some_bind]
      by_cases q : lf (fun h => ¬ sldF (vyN B n) h.toNat t = -1 ∧ iI (cnF (vyN B n) t h) = iI i) (B.1 n 4 - 0).toNat 0 < B.1 n 4
      · rw [if_pos q, e2 q]
        rfl
      · rw [if_neg q, e3 q]
        rfl
  · refine QF_no F (v := iI (-2)) ?_ ?_
    · simp only [fX8_sold, c8 rc, g8_7 rc rn, s_hasShop hs rk F.1.2.1, some_bind, iI_0, ib]
      rw [if_neg c1]
    · rw [rf B F (fun _ => rfl), if_neg c1]
end FQR
