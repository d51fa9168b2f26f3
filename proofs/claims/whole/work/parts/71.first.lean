/-! first: the first drop that lies in a column -/
section FI
variable {E : Ev} {B C : Bk} {n m : Nat}
/-- the first hour of a shop's drop to a column, of H hours -/
def fhF (V : Vy) (c : Int) (s : Nat) : Int := lf (fun h => 0 < (fsF V (h.toNat + 1)).1 s 2 ∧ lndF V s h.toNat = c) (V.1 4 - 0).toNat 0
def fsS1 (V : Vy) (c : Int) : Int := lf (fun s => fhF V c s.toNat < V.1 4) (V.1 8 - 0).toNat 0
theorem o_first {x y : Int} (F : FB E B n m) (hx : i32 x) (hy : i32 y) : QF E B n m (fX8_first (E.1 + co) (iI x) (iI y)) (fX9_first_ (E.1 + mo) (iI x) (iI y)) := by
  have rc := F.1.1.1
  have rn := F.1.1.2.1
  have rk := F.1.1.2.2.1
  have rm := F.1.1.2.2.2
  have w1 := F.1.2.1.2.1
  have w2 := F.1.2.1.2.2.1
  have w4 := F.1.2.1.2.2.2.2.1
  have w8 := F.1.2.1.2.2.2.2.2.2.2.2.1
  have rf : ∀ C, FB E C n m → (∀ j, C.1 n j = B.1 n j) → fX9_first_ (E.1 + mo) (iI x) (iI y) (St E C) = if (0 ≤ x ∧ x < B.1 n 1) ∧ (0 ≤ y ∧ y < B.1 n 2) then (fX9_asTold (E.1 + mo) (St E (wI C mo 0 0))).bind (fun s4 => (iter (fX9_first__l25 (E.1 + mo) (iI x) (iI y)) FU (iI 0, s4)).bind (Sum.elim (fun r14a => some ((iI (-1)), r14a)) (fun r14b => some (((iI 100) * r14b.1) + r14b.2.1, r14b.2.2)))) else some (iI (-2), St E (wI C mo 0 0)) := fun C FC cn => by
    simp only [fX9_first_, c9 rm.1, p9_0 rm.1, some_bind, mg_isColumn FC hx hy, iI_0, ib, cn]
  by_cases c : (0 ≤ x ∧ x < B.1 n 1) ∧ (0 ≤ y ∧ y < B.1 n 2)
  · obtain ⟨c1, c2⟩ := c
    have hst := st_col F c1
    have hV := rv_VOK F.1 hst
    have fb : ∀ s : Nat, 0 ≤ fhF (vyN B n) (y * 8 + x) s ∧ fhF (vyN B n) (y * 8 + x) s ≤ B.1 n 4 := fun s => by
      obtain ⟨l1, l2, -⟩ := lf_spec (fun h => 0 < (fsF (vyN B n) (h.toNat + 1)).1 s 2 ∧ lndF (vyN B n) s h.toNat = y * 8 + x) (B.1 n 4 - 0).toNat 0
      have e : fhF (vyN B n) (y * 8 + x) s = lf (fun h => 0 < (fsF (vyN B n) (h.toNat + 1)).1 s 2 ∧ lndF (vyN B n) s h.toNat = y * 8 + x) (B.1 n 4 - 0).toNat 0 := rfl
      rw [e]
      omega
    refine QF_fl F hst (v := if fsS1 (vyN B n) (y * 8 + x) < B.1 n 8 then iI 100 * iI (fsS1 (vyN B n) (y * 8 + x)) + iI (fhF (vyN B n) (y * 8 + x) (fsS1 (vyN B n) (y * 8 + x)).toNat) else iI (-1)) (k := fun r5 => (iter (fX8_first_l23 (E.1 + co) (iI x) (iI y) r5.1) FU (iI 0, r5.2)).bind (Sum.elim (fun r15a => some ((iI (-1)), r15a)) (fun r15b => some (((iI 100) * r15b.1) + r15b.2.1, r15b.2.2)))) (k2 := fun s4 => (iter (fX9_first__l25 (E.1 + mo) (iI x) (iI y)) FU (iI 0, s4)).bind (Sum.elim (fun r14a => some ((iI (-1)), r14a)) (fun r14b => some (((iI 100) * r14b.1) + r14b.2.1, r14b.2.2)))) ?_ (fun C FC cn I _ ev => ?_) (fun C FC cn => ?_) (fun C FC cn I J ev => ?_)
    · simp only [fX8_first, c8 rc, g8_7 rc rn, s_hasColumn hx hy rk F.1.2.1, some_bind, iI_0, ib]
      rw [if_pos ⟨c1, c2⟩]
    · have dr : ∀ (s h : Nat), (s : Int) < B.1 n 8 → (h : Int) < B.1 n 4 → fX8_dropsTo (E.1 + co) (E.1 + 3) (iI s) (iI h) (iI (y * 8 + x)) (St E C) = some (if 0 < (fsF (vyN B n) (h + 1)).1 s 2 ∧ lndF (vyN B n) s h = y * 8 + x then iI 1 else iI 0, St E C) := fun s h q1 q2 => by
        have := s8_drops (s := s) (h := h) (c := y * 8 + x) FC (by rw [ev]; exact hV) (by rw [ev, cn]; exact I) (by rw [cn]; exact q1) (by rw [cn]; exact q2) ⟨by omega, by omega⟩
        rw [ev] at this
        exact this
      have lpi : ∀ s : Nat, (s : Int) < B.1 n 8 → iter (fX8_first_l38 (E.1 + co) (iI x) (iI y) (E.1 + 3) (iI s)) FU (iI 0, St E C) = some (if fhF (vyN B n) (y * 8 + x) s < B.1 n 4 then .inr (iI (fhF (vyN B n) (y * 8 + x) s), St E C) else .inl (St E C)) := fun s q1 => by
        obtain ⟨r, e1, e2, e3⟩ := iter_lf (F := fX8_first_l38 (E.1 + co) (iI x) (iI y) (E.1 + 3) (iI s)) (fun j a => a = (iI j, St E C)) (fun h => 0 < (fsF (vyN B n) (h.toNat + 1)).1 s 2 ∧ lndF (vyN B n) s h.toNat = y * 8 + x) (fun j r => r = .inr (iI j, St E C)) (fun r => r = .inl (St E C)) 0 (B.1 n 4)
          (fun j a j0 j1 ha hp => by
            subst ha
            have d := dr s j.toNat q1 (by omega)
            rw [if_neg hp, show ((j.toNat : Nat) : Int) = j by omega] at d
            refine ⟨_, ?_, rfl⟩
            simp (disch := omega) only [fX8_first_l38, g8_7 rc FC.1.1.2.1, g6_4 rk.1, cn, some_bind, iI_le, s_columnOf, d, iI_add]
            rw [if_neg (by omega), if_pos (show iI 0 = 0 from rfl)])
          (fun j a j0 j1 ha hp => by
            subst ha
            have d := dr s j.toNat q1 (by omega)
            rw [if_pos hp, show ((j.toNat : Nat) : Int) = j by omega] at d
            refine ⟨_, ?_, rfl⟩
            simp (disch := omega) only [fX8_first_l38, g8_7 rc FC.1.1.2.1, g6_4 rk.1, cn, some_bind, iI_le, s_columnOf, d, iI_add]
            rw [if_neg (by omega), if_neg (show ¬ iI 1 = 0 by decide)])
          (fun a ha => by
            subst ha
            refine ⟨_, ?_, rfl⟩
            simp (disch := omega) only [fX8_first_l38, g8_7 rc FC.1.1.2.1, g6_4 rk.1, cn, some_bind, iI_le]
            rw [if_pos (by omega)]) w4.1 (N := FU) (by have := FU_big (n := B.1 n 4) (by omega); omega) (a := (iI 0, St E C)) rfl
        rw [e1]
        by_cases q : fhF (vyN B n) (y * 8 + x) s < B.1 n 4
        · rw [if_pos q, e2 q]
          rfl
        · rw [if_neg q, e3 q]
      obtain ⟨r, e1, e2, e3⟩ := iter_lf (F := fX8_first_l23 (E.1 + co) (iI x) (iI y) (E.1 + 3)) (fun j a => a = (iI j, St E C)) (fun s => fhF (vyN B n) (y * 8 + x) s.toNat < B.1 n 4) (fun j r => r = .inr (iI j, iI (fhF (vyN B n) (y * 8 + x) j.toNat), St E C)) (fun r => r = .inl (St E C)) 0 (B.1 n 8)
        (fun j a j0 j1 ha hp => by
          subst ha
          have l := lpi j.toNat (by omega)
          rw [if_neg hp, show ((j.toNat : Nat) : Int) = j by omega] at l
          refine ⟨_, ?_, rfl⟩
          simp (disch := omega) only [fX8_first_l23, g8_7 rc FC.1.1.2.1, g6_8 rk.1, cn, some_bind, iI_le, l, iI_add, Sum.elim_inl]
          rw [if_neg (by omega)])
        (fun j a j0 j1 ha hp => by
          subst ha
          have l := lpi j.toNat (by omega)
          rw [if_pos hp, show ((j.toNat : Nat) : Int) = j by omega] at l
          refine ⟨_, ?_, rfl⟩
          simp (disch := omega) only [fX8_first_l23, g8_7 rc FC.1.1.2.1, g6_8 rk.1, cn, some_bind, iI_le, l, iI_add, Sum.elim_inr]
          rw [if_neg (by omega)])
        (fun a ha => by
          subst ha
          refine ⟨_, ?_, rfl⟩
          simp (disch := omega) only [fX8_first_l23, g8_7 rc FC.1.1.2.1, g6_8 rk.1, cn, some_bind, iI_le]
          rw [if_pos (by omega)]) w8.1 (N := FU) (by have := FU_big (n := B.1 n 8) (by omega); omega) (a := (iI 0, St E C)) rfl
      dsimp only
      rw [e1, some_bind]
      by_cases q : fsS1 (vyN B n) (y * 8 + x) < B.1 n 8
      · rw [if_pos q, e2 q]
        rfl
      · rw [if_neg q, e3 q]
        rfl
    · rw [rf C FC cn, if_pos ⟨c1, c2⟩]
    · have L := LQ_of FC (by rw [ev, cn]; exact I)
      rw [ev] at L
      have h3 : C.2.2.2.1 (mo + 7) 3 = B.1 n 4 := L.2.2.1.2.2.1
      have h7 : C.2.2.2.1 (mo + 7) 7 = B.1 n 8 := L.2.2.1.2.2.2
      have lpi : ∀ (s : Nat) (a b : Int), (s : Int) < B.1 n 8 → ∃ p q, iter (fX9_first__l39 (E.1 + mo) (iI x) (iI y) (iI s)) FU (iI 0, St E (tB C a b)) = some (if fhF (vyN B n) (y * 8 + x) s < B.1 n 4 then .inr (iI (fhF (vyN B n) (y * 8 + x) s), St E (tB C p q)) else .inl (St E (tB C p q))) := fun s a b q1 => by
        obtain ⟨r, e1, e2, e3⟩ := iter_lf (F := fX9_first__l39 (E.1 + mo) (iI x) (iI y) (iI s)) (fun j w => ∃ p q, w = (iI j, St E (tB C p q))) (fun h => 0 < (fsF (vyN B n) (h.toNat + 1)).1 s 2 ∧ lndF (vyN B n) s h.toNat = y * 8 + x) (fun j r => ∃ p q, r = .inr (iI j, St E (tB C p q))) (fun r => ∃ p q, r = .inl (St E (tB C p q))) 0 (B.1 n 4)
          (fun j w j0 j1 hw hp => by
            obtain ⟨p, q, rfl⟩ := hw
            obtain ⟨p', q', d⟩ := m_dropped (s := s) (h := j.toNat) (a := p) (b := q) hV L q1 (show ((j.toNat : Nat) : Int) < B.1 n 4 by omega) c1.1 (by omega) c2.1 (by omega)
            rw [if_neg hp, show ((j.toNat : Nat) : Int) = j by omega] at d
            refine ⟨_, ?_, p', q', rfl⟩
            simp (disch := omega) only [fX9_first__l39, g9_17 rm.1, aI_ok (mk7 rm), tB_2, h3, some_bind, iI_le, iI_mul, iI_add, d]
            rw [if_neg (by omega), if_pos (show iI 0 = 0 from rfl)])
          (fun j w j0 j1 hw hp => by
            obtain ⟨p, q, rfl⟩ := hw
            obtain ⟨p', q', d⟩ := m_dropped (s := s) (h := j.toNat) (a := p) (b := q) hV L q1 (show ((j.toNat : Nat) : Int) < B.1 n 4 by omega) c1.1 (by omega) c2.1 (by omega)
            rw [if_pos hp, show ((j.toNat : Nat) : Int) = j by omega] at d
            refine ⟨_, ?_, p', q', rfl⟩
            simp (disch := omega) only [fX9_first__l39, g9_17 rm.1, aI_ok (mk7 rm), tB_2, h3, some_bind, iI_le, iI_mul, iI_add, d]
            rw [if_neg (by omega), if_neg (show ¬ iI 1 = 0 by decide)])
          (fun w hw => by
            obtain ⟨p, q, rfl⟩ := hw
            refine ⟨_, ?_, p, q, rfl⟩
            simp (disch := omega) only [fX9_first__l39, g9_17 rm.1, aI_ok (mk7 rm), tB_2, h3, some_bind, iI_le]
            rw [if_pos (by omega)]) w4.1 (N := FU) (by have := FU_big (n := B.1 n 4) (by omega); omega) (a := (iI 0, St E (tB C a b))) ⟨a, b, rfl⟩
        by_cases q : fhF (vyN B n) (y * 8 + x) s < B.1 n 4
        · obtain ⟨p, q', er⟩ := e2 q
          exact ⟨p, q', by rw [e1, if_pos q, er]; rfl⟩
        · obtain ⟨p, q', er⟩ := e3 q
          exact ⟨p, q', by rw [e1, if_neg q, er]⟩
      obtain ⟨r, e1, e2, e3⟩ := iter_lf (F := fX9_first__l25 (E.1 + mo) (iI x) (iI y)) (fun j w => ∃ p q, w = (iI j, St E (tB C p q))) (fun s => fhF (vyN B n) (y * 8 + x) s.toNat < B.1 n 4) (fun j r => ∃ p q, r = .inr (iI j, iI (fhF (vyN B n) (y * 8 + x) j.toNat), St E (tB C p q))) (fun r => ∃ p q, r = .inl (St E (tB C p q))) 0 (B.1 n 8)
        (fun j w j0 j1 hw hp => by
          obtain ⟨p, q, rfl⟩ := hw
          obtain ⟨p', q', l⟩ := lpi j.toNat p q (by omega)
          rw [if_neg hp, show ((j.toNat : Nat) : Int) = j by omega] at l
          refine ⟨_, ?_, p', q', rfl⟩
          simp (disch := omega) only [fX9_first__l25, g9_17 rm.1, aI_ok (mk7 rm), tB_2, h7, some_bind, iI_le, l, iI_add, Sum.elim_inl]
          rw [if_neg (by omega)])
        (fun j w j0 j1 hw hp => by
          obtain ⟨p, q, rfl⟩ := hw
          obtain ⟨p', q', l⟩ := lpi j.toNat p q (by omega)
          rw [if_pos hp, show ((j.toNat : Nat) : Int) = j by omega] at l
          refine ⟨_, ?_, p', q', rfl⟩
          simp (disch := omega) only [fX9_first__l25, g9_17 rm.1, aI_ok (mk7 rm), tB_2, h7, some_bind, iI_le, l, iI_add, Sum.elim_inr]
          rw [if_neg (by omega)])
        (fun w hw => by
          obtain ⟨p, q, rfl⟩ := hw
          refine ⟨_, ?_, p, q, rfl⟩
          simp (disch := omega) only [fX9_first__l25, g9_17 rm.1, aI_ok (mk7 rm), tB_2, h7, some_bind, iI_le]
          rw [if_pos (by omega)]) w8.1 (N := FU) (by have := FU_big (n := B.1 n 8) (by omega); omega) (a := (iI 0, St E C)) ⟨C.1 mo 26, C.1 mo 27, by rw [tB_self]⟩
      rw [e1, some_bind]
      by_cases q : fsS1 (vyN B n) (y * 8 + x) < B.1 n 8
      · obtain ⟨p, q', er⟩ := e2 q
        refine ⟨tB C p q', ?_, sc_tB⟩
        rw [if_pos q, er]
        rfl
      · obtain ⟨p, q', er⟩ := e3 q
        refine ⟨tB C p q', ?_, sc_tB⟩
        rw [if_neg q, er]
        rfl
  · refine QF_no F (v := iI (-2)) ?_ ?_
    · simp only [fX8_first, c8 rc, g8_7 rc rn, s_hasColumn hx hy rk F.1.2.1, some_bind, iI_0, ib]
      rw [if_neg c]
    · rw [rf B F (fun _ => rfl), if_neg c]
end FI
