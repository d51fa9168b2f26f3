/-! doors of both readers -/
section PD
variable {T : Int → Int} {L : Int} {s : Sg T L} {t : Tg T L}
theorem cN_bad {lo hi : Int} {u : Sg T L} (c : ¬ u.1.1 = 0) : (cN lo hi u).1.1 = u.1.1 ∧ (cN lo hi u).1.2.1 = u.1.2.1 := by
  unfold cN
  split
  · split
    · exact ⟨rfl, rfl⟩
    · exact ⟨if_neg c, if_neg c⟩
  · exact ⟨if_neg c, if_neg c⟩
theorem pr_door {m : Nat} {C R : Bk} (hw : C.1 m 1 ≤ 8) (hd : C.1 m 2 ≤ 8) (hc : 0 ≤ C.1 m 9) (hr : ∀ i, 0 ≤ i → i < C.1 m 9 → R.2.2.2.1 (mo + 11) (3 * (20 + i)) = C.2.2.2.1 (m + 3) (i * 3) ∧ R.2.2.2.1 (mo + 11) (3 * (20 + i) + 1) = C.2.2.2.1 (m + 3) (i * 3 + 1) ∧ (0 ≤ C.2.2.2.1 (m + 3) (i * 3) ∧ C.2.2.2.1 (m + 3) (i * 3) < 8)) (h : pr s t) : pr (do6 m C s) (dt5 R (C.1 m 9) (C.1 m 1) (C.1 m 2) (mA t)) ∧ ((do6 m C s).1.1 = 0 → s.1.1 = 0 ∧ (cV 0 (C.1 m 1 - 1) (do1 s) = mV 0 (C.1 m 1 - 1) (dt1 (mA t)) ∧ 0 ≤ cV 0 (C.1 m 1 - 1) (do1 s) ∧ cV 0 (C.1 m 1 - 1) (do1 s) ≤ C.1 m 1 - 1) ∧ (cV 0 (C.1 m 2 - 1) (do2 (C.1 m 1) s) = mV 0 (C.1 m 2 - 1) (dt3 R (C.1 m 9) (C.1 m 1) (C.1 m 2) (mA t)) ∧ 0 ≤ cV 0 (C.1 m 2 - 1) (do2 (C.1 m 1) s) ∧ cV 0 (C.1 m 2 - 1) (do2 (C.1 m 1) s) ≤ C.1 m 2 - 1) ∧ (cV 0 9 (do5 m C s) = mV 0 9 (dt4 R (C.1 m 9) (C.1 m 1) (C.1 m 2) (mA t)) ∧ 0 ≤ cV 0 9 (do5 m C s) ∧ cV 0 9 (do5 m C s) ≤ 9)) := by
  have p1 := pW 17 (pA h)
  have n1 := pN 0 (C.1 m 1 - 1) (by omega) p1.1
  have n1' : pr (do2 (C.1 m 1) s) (dt2 (C.1 m 1) (mA t)) := n1.1
  have key : pr (do4 m C s) (mN 0 (C.1 m 2 - 1) (dt3 R (C.1 m 9) (C.1 m 1) (C.1 m 2) (mA t))) ∧ ((do4 m C s).1.1 = 0 → (do2 (C.1 m 1) s).1.1 = 0 ∧ (cV 0 (C.1 m 2 - 1) (do2 (C.1 m 1) s) = mV 0 (C.1 m 2 - 1) (dt3 R (C.1 m 9) (C.1 m 1) (C.1 m 2) (mA t)) ∧ 0 ≤ cV 0 (C.1 m 2 - 1) (do2 (C.1 m 1) s) ∧ cV 0 (C.1 m 2 - 1) (do2 (C.1 m 1) s) ≤ C.1 m 2 - 1)) := by
    have n2 := pN 0 (C.1 m 2 - 1) (by omega) n1'
    obtain ⟨y1, y2, y3⟩ := n1'
    by_cases c0 : (do2 (C.1 m 1) s).1.1 = 0
    · have v0 : (dt2 (C.1 m 1) (mA t)).1.1 = 0 := y1 ▸ c0
      have eq := y3 c0
      have ex : cV 0 (C.1 m 1 - 1) (do1 s) = mV 0 (C.1 m 1 - 1) (dt1 (mA t)) := (n1.2 c0).2.1
      have exb : 0 ≤ cV 0 (C.1 m 1 - 1) (do1 s) ∧ cV 0 (C.1 m 1 - 1) (do1 s) ≤ C.1 m 1 - 1 := (n1.2 c0).2.2
      by_cases c3 : (do3 (C.1 m 1) (C.1 m 2) s).1.1 = 0
      · have g := n2.2 c3
        have gk : kdT T L (do2 (C.1 m 1) s).1.2.2.1 = 2 := by
          by_cases c : kdT T L (do2 (C.1 m 1) s).1.2.2.1 = 2
          · exact c
          · have c3' := c3
            unfold do3 cN at c3'
            rw [if_neg c] at c3'
            exact absurd c3' (cF_k _ (by omega) _)
        have ey : cV 0 (C.1 m 2 - 1) (do2 (C.1 m 1) s) = vl9 T L (dt2 (C.1 m 1) (mA t)).1.2.2 := by
          have e1 : cV 0 (C.1 m 2 - 1) (do2 (C.1 m 1) s) = (do2 (C.1 m 1) s).1.2.2.2 := if_pos c3
          have e2 := (vl_num (s := do2 (C.1 m 1) s) (lo := 0) (hi := C.1 m 2 - 1) (by omega) gk).2 (by rw [← e1]; exact g.2.2.2)
          rw [e1, e2, eq]
        have dup : drAt C m (cV 0 (C.1 m 2 - 1) (do2 (C.1 m 1) s) * 8 + cV 0 (C.1 m 1 - 1) (do1 s)) = -1 ↔ ¬ lf (dtP R (mV 0 (C.1 m 1 - 1) (dt1 (mA t))) (vl9 T L (dt2 (C.1 m 1) (mA t)).1.2.2)) (C.1 m 9).toNat 0 < C.1 m 9 := by
          rw [← ey, ← ex]
          have l1 := lf_ex (p := fun i => C.2.2.2.1 (m + 3) (i * 3 + 1) * 8 + C.2.2.2.1 (m + 3) (i * 3) = cV 0 (C.1 m 2 - 1) (do2 (C.1 m 1) s) * 8 + cV 0 (C.1 m 1 - 1) (do1 s)) (C.1 m 9).toNat
          have l2 := lf_ex (p := dtP R (cV 0 (C.1 m 1 - 1) (do1 s)) (cV 0 (C.1 m 2 - 1) (do2 (C.1 m 1) s))) (C.1 m 9).toNat
          rw [show (((C.1 m 9).toNat : Nat) : Int) = C.1 m 9 by omega] at l1 l2
          have sp := lf_spec (fun i => C.2.2.2.1 (m + 3) (i * 3 + 1) * 8 + C.2.2.2.1 (m + 3) (i * 3) = cV 0 (C.1 m 2 - 1) (do2 (C.1 m 1) s) * 8 + cV 0 (C.1 m 1 - 1) (do1 s)) (C.1 m 9).toNat 0
          have e1 : drAt C m (cV 0 (C.1 m 2 - 1) (do2 (C.1 m 1) s) * 8 + cV 0 (C.1 m 1 - 1) (do1 s)) = -1 ↔ ¬ lf (fun i => C.2.2.2.1 (m + 3) (i * 3 + 1) * 8 + C.2.2.2.1 (m + 3) (i * 3) = cV 0 (C.1 m 2 - 1) (do2 (C.1 m 1) s) * 8 + cV 0 (C.1 m 1 - 1) (do1 s)) (C.1 m 9).toNat 0 < C.1 m 9 := by
            unfold drAt
            simp only
            split
            · exact ⟨fun z => by omega, fun z => by omega⟩
            · exact ⟨fun z => by omega, fun z => rfl⟩
          rw [e1, l1, l2]
          refine not_congr ⟨fun ⟨i, i0, i1, i2⟩ => ⟨i, i0, i1, ?_⟩, fun ⟨i, i0, i1, i2⟩ => ⟨i, i0, i1, ?_⟩⟩
          · obtain ⟨r1, r2, r3⟩ := hr i i0 i1
            exact ⟨by rw [r1]; omega, by rw [r2]; omega⟩
          · obtain ⟨r1, r2, r3⟩ := hr i i0 i1
            rw [← r1, ← r2, i2.1, i2.2]
        by_cases cd : lf (dtP R (mV 0 (C.1 m 1 - 1) (dt1 (mA t))) (vl9 T L (dt2 (C.1 m 1) (mA t)).1.2.2)) (C.1 m 9).toNat 0 < C.1 m 9
        · have e4 : do4 m C s = cF 2 (do2 (C.1 m 1) s).1.2.2.1 (by omega) (do3 (C.1 m 1) (C.1 m 2) s) := if_neg (fun z => dup.mp z cd)
          have e3 : dt3 R (C.1 m 9) (C.1 m 1) (C.1 m 2) (mA t) = mF 2 (by omega) (dt2 (C.1 m 1) (mA t)) := if_pos ⟨⟨v0, eq ▸ gk, by rw [← ey]; omega⟩, cd⟩
          have nk := cF_k (f := 2) (pl := (do2 (C.1 m 1) s).1.2.2.1) (by omega) (by omega) (do3 (C.1 m 1) (C.1 m 2) s)
          rw [e4, e3]
          have mb := mF_k (f := 2) (by omega) (by omega) (dt2 (C.1 m 1) (mA t))
          have en : mN 0 (C.1 m 2 - 1) (mF 2 (by omega) (dt2 (C.1 m 1) (mA t))) = mF 2 (by omega) (dt2 (C.1 m 1) (mA t)) := if_neg mb
          rw [en]
          refine ⟨⟨?_, ?_, fun z => absurd z nk⟩, fun z => absurd z nk⟩
          · show (if (do3 (C.1 m 1) (C.1 m 2) s).1.1 = 0 then (2 : Int) else _) = (if (dt2 (C.1 m 1) (mA t)).1.1 = 0 then 2 else _)
            rw [if_pos c3, if_pos v0]
          · show (if (do3 (C.1 m 1) (C.1 m 2) s).1.1 = 0 then (do2 (C.1 m 1) s).1.2.2.1 else _) = (if (dt2 (C.1 m 1) (mA t)).1.1 = 0 then (dt2 (C.1 m 1) (mA t)).1.2.2 else _)
            rw [if_pos c3, if_pos v0, eq]
        · have e4 : do4 m C s = do3 (C.1 m 1) (C.1 m 2) s := if_pos (dup.mpr cd)
          have e3 : dt3 R (C.1 m 9) (C.1 m 1) (C.1 m 2) (mA t) = dt2 (C.1 m 1) (mA t) := if_neg (fun z => cd z.2)
          rw [e4, e3]
          exact ⟨n2.1, fun _ => ⟨c0, g.2⟩⟩
      · have e4 : (do4 m C s).1.1 = (do3 (C.1 m 1) (C.1 m 2) s).1.1 ∧ (do4 m C s).1.2.1 = (do3 (C.1 m 1) (C.1 m 2) s).1.2.1 := by
          unfold do4
          split
          · exact ⟨rfl, rfl⟩
          · exact ⟨if_neg c3, if_neg c3⟩
        have e3 : dt3 R (C.1 m 9) (C.1 m 1) (C.1 m 2) (mA t) = dt2 (C.1 m 1) (mA t) := by
          refine if_neg (fun z => ?_)
          obtain ⟨⟨z1, z2, z3⟩, -⟩ := z
          rw [← eq] at z2 z3
          have b := (do2 (C.1 m 1) s).2.2.2.1
          have vn := (vl_num (s := do2 (C.1 m 1) s) (lo := 0) (hi := C.1 m 2 - 1) (by omega) z2).1
          have vb := vl9_b (T := T) (do2 (C.1 m 1) s).2.2.1.2
          have : (do3 (C.1 m 1) (C.1 m 2) s) = cA (do2 (C.1 m 1) s) := by
            unfold do3 cN
            rw [if_pos z2, if_pos (vn.mpr ⟨vb.1, by omega⟩)]
          rw [this] at c3
          exact c3 c0
        rw [e3]
        obtain ⟨q1, q2, q3⟩ := n2.1
        have nk : ¬ (do4 m C s).1.1 = 0 := fun z => c3 (e4.1 ▸ z)
        exact ⟨⟨e4.1.trans q1, e4.2.trans q2, fun z => absurd z nk⟩, fun z => absurd z nk⟩
    · have v0 : ¬ (dt2 (C.1 m 1) (mA t)).1.1 = 0 := fun z => c0 (y1.trans z)
      have e3 : dt3 R (C.1 m 9) (C.1 m 1) (C.1 m 2) (mA t) = dt2 (C.1 m 1) (mA t) := if_neg (fun z => v0 z.1.1)
      have b3 := cN_bad (lo := 0) (hi := C.1 m 2 - 1) c0
      have k3 : ¬ (do3 (C.1 m 1) (C.1 m 2) s).1.1 = 0 := fun z => c0 (b3.1 ▸ z)
      have e4 : (do4 m C s).1.1 = (do3 (C.1 m 1) (C.1 m 2) s).1.1 ∧ (do4 m C s).1.2.1 = (do3 (C.1 m 1) (C.1 m 2) s).1.2.1 := by
        unfold do4
        split
        · exact ⟨rfl, rfl⟩
        · exact ⟨if_neg k3, if_neg k3⟩
      rw [e3]
      obtain ⟨q1, q2, q3⟩ := n2.1
      have nk : ¬ (do4 m C s).1.1 = 0 := fun z => k3 (e4.1 ▸ z)
      exact ⟨⟨e4.1.trans q1, e4.2.trans q2, fun z => absurd z nk⟩, fun z => absurd z nk⟩
  have p5 := pW 22 key.1
  have n5 := pN 0 9 (by omega) p5.1
  refine ⟨n5.1, fun k => ?_⟩
  have g5 := n5.2 k
  have g4 := key.2 (p5.2.1 g5.1).1
  have g1 := n1.2 g4.1
  exact ⟨(p1.2.1 g1.1).1, g1.2, g4.2, g5.2⟩
end PD
