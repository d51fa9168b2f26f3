/-! both read a whole tape -/
section LO
variable {T : Int → Int} {L : Int}
/-- what the class has when it has read n lines at most -/
def lpC (m : Nat) : Nat → Bk × Sg T L → Bk × Sg T L
  | 0, x => x
  | n + 1, x => if x.2.1.1 = 0 ∧ ¬ kdT T L x.2.1.2.2.1 = 0 then lpC m n (wI (lnB m x.1 x.2) m 0 (x.1.1 m 0 + 1), cG (lnS m x.1 x.2)) else x
theorem lpC_stop {m : Nat} {C : Bk} {s : Sg T L} (h : ¬ (s.1.1 = 0 ∧ ¬ kdT T L s.1.2.2.1 = 0)) : ∀ n, lpC m n (C, s) = (C, s) := by
  intro n
  cases n with
  | zero => rfl
  | succ n => exact if_neg h
variable {E : Ev} {K : Nat → Nat} {m : Nat}
theorem ci_lr {C R : Bk} (H : LR m C R) : CI m C := by
  obtain ⟨Hn, Hw, Hs, Hd, Hp, Hf⟩ := H
  refine ⟨Hn.1, Hn.2.1.1, fun i i0 i1 => ?_⟩
  obtain ⟨o1, o2, o3, o4⟩ := Hd i i0 i1
  have v1 := Hn.1.2.1
  have v2 := Hn.1.2.2.1
  rw [Int.add_zero] at o2
  unfold i32
  omega
theorem hr_lr {C R : Bk} (H : LR m C R) : HR_ R := by
  obtain ⟨Hn, -⟩ := H
  obtain ⟨vw, -, -, ⟨h60, h61, h62, h63, h64, h65, h66, h67, h68⟩, -⟩ := Hn
  obtain ⟨v0, v1, v2, v3, v4, v5, v6, v7, v8, v9⟩ := vw
  unfold HR_
  rw [h60, h61, h62, h63, h67, h68]
  exact ⟨v1, v2, v3, v4, v8, v9⟩
theorem kd_lt {q : Int} (h : ¬ kdT T L q = 0) : q < L := by
  by_cases c : q < L
  · exact c
  · exact absurd (if_neg c) h
theorem c_body (S : STR E K) (h : RDK E m) (D : TB9 T L) (hm : 20 ≤ m) {C : Bk} {s : Sg T L} {j : Int} (I : CI m C) (k0 : s.1.1 = 0) (kd : ¬ kdT T L s.1.2.2.1 = 0) (j0 : 0 ≤ j) (j1 : j < L) : fX3_reads_l54 K (E.1 + (co + 2)) (iI j, St E (rs T L m C s)) = some (.inl (iI (j + 1), St E (rs T L m (wI (lnB m C s) m 0 (C.1 m 0 + 1)) (cG (lnS m C s))))) := by
  have hco : co = 0 := rfl
  have kb := kdT_b (T := T) (L := L) (q := s.1.2.2.1)
  have d1 := D.1
  have l0 := ln_0 (C := C) hm s
  have n0 := I.1.1
  simp (disch := omega) only [fX3_reads_l54, rs_3 h, some_bind, iI_le, rs_5 h, rs_0 h, iI_0, iI_eq, c_line S h D hm I, rs_tG h D, rs_9 h, g6_0 h.2.2.1, rs_i, l0, iI_add, p6_0 h.2.2.1, rs_wI]
  rw [if_neg (by omega), if_neg kd, if_pos k0]
theorem c_exit (h : RDK E m) (D : TB9 T L) {C : Bk} {s : Sg T L} {j : Int} (st : ¬ (s.1.1 = 0 ∧ ¬ kdT T L s.1.2.2.1 = 0)) : fX3_reads_l54 K (E.1 + (co + 2)) (iI j, St E (rs T L m C s)) = some (.inr (St E (rs T L m C s))) := by
  have kb := kdT_b (T := T) (L := L) (q := s.1.2.2.1)
  have d1 := D.1
  have k1 := s.2.1
  simp (disch := omega) only [fX3_reads_l54, rs_3 h, some_bind, rs_5 h, rs_0 h, iI_0, iI_eq]
  split
  · rfl
  · split
    · rfl
    · rename_i c
      rw [if_neg (fun y => st ⟨y, c⟩)]
theorem m_body (rm : mKd E mo) (D : TB9 T L) {R : Bk} {t : Tg T L} (H : HR_ R) (hn : 0 ≤ R.1 mo 20 ∧ R.1 mo 20 ≤ 20) (hl : 0 ≤ R.2.2.2.1 (mo + 6) 4 ∧ R.2.2.2.1 (mo + 6) 4 ≤ 1600) (hs : ∀ z, 0 ≤ z → z < 120 → -1 ≤ R.2.2.2.1 (mo + 9) z ∧ R.2.2.2.1 (mo + 9) z ≤ 23) (hd : ∀ i, 0 ≤ i → i < R.2.2.2.1 (mo + 7) 68 → (0 ≤ R.2.2.2.1 (mo + 11) (3 * (20 + i)) ∧ R.2.2.2.1 (mo + 11) (3 * (20 + i)) < 8) ∧ (0 ≤ R.2.2.2.1 (mo + 11) (3 * (20 + i) + 1) ∧ R.2.2.2.1 (mo + 11) (3 * (20 + i) + 1) < 8)) (k0 : t.1.1 = 0) (kd : ¬ kdT T L t.1.2.2 = 0) : fX9_valley_l13 (E.1 + mo) (St E (ms T L R t)) = some (.inl (St E (ms T L (wA (mlB R t) (mo + 6) 4 (R.2.2.2.1 (mo + 6) 4 + 1)) (if (mlS R t).1.1 = 0 then mG (mlS R t) else mlS R t)))) := by
  have hmo : mo = 58 := rfl
  have kb := kdT_b (T := T) (L := L) (q := t.1.2.2)
  have z1 : ¬ iI 1 = 0 := by decide
  have e6 := ml_6 (R := R) t
  have b58 : ∀ u : Tg T L, fX9_valley_b58 (E.1 + mo) (St E (ms T L (mlB R t) u)) = some (.inl (St E (ms T L (wA (mlB R t) (mo + 6) 4 (R.2.2.2.1 (mo + 6) 4 + 1)) u))) := fun u => by
    simp (disch := omega) only [fX9_valley_b58, g9_16 rm.1, some_bind, aI_ok (mk6 rm), ms_r (e := mo + 6) (show mo + 6 ≠ mo + 5 by omega), e6, iI_add, sI_ok (mk6 rm), ms_wA]
  have b47 : fX9_valley_b47 (E.1 + mo) (St E (ms T L (mlB R t) (mlS R t))) = some (.inl (St E (ms T L (wA (mlB R t) (mo + 6) 4 (R.2.2.2.1 (mo + 6) 4 + 1)) (if (mlS R t).1.1 = 0 then mG (mlS R t) else mlS R t)))) := by
    simp only [fX9_valley_b47, ms_good rm, some_bind, iI_0, ib]
    by_cases c : (mlS R t).1.1 = 0
    · rw [if_pos c, if_pos c, ms_ends rm D _ c, some_bind, b58]
    · rw [if_neg c, if_neg c, b58]
  simp (disch := omega) only [fX9_valley_l13, ms_good rm, some_bind, iI_0, ib, g9_8 rm.1, ms_8, iI_eq, g9_16 rm.1, aI_ok (mk6 rm), ms_r (e := mo + 6) (show mo + 6 ≠ mo + 5 by omega)]
  rw [if_pos k0, if_neg kd]
  by_cases c : R.2.2.2.1 (mo + 6) 4 = 0
  · have e1 : mlB R t = ztB R t := if_pos c
    have e2 : mlS R t = zt6 t := if_pos c
    rw [if_pos c, m_first rm D, some_bind, ← e1, ← e2]
    exact b47
  · rw [if_neg c, m_line rm D H hn hs hd t k0 c, some_bind]
    exact b47
theorem m_exit (rm : mKd E mo) {R : Bk} {t : Tg T L} (st : ¬ (t.1.1 = 0 ∧ ¬ kdT T L t.1.2.2 = 0)) : fX9_valley_l13 (E.1 + mo) (St E (ms T L R t)) = some (.inr (St E (ms T L R t))) := by
  have kb := kdT_b (T := T) (L := L) (q := t.1.2.2)
  simp (disch := omega) only [fX9_valley_l13, ms_good rm, some_bind, iI_0, ib, g9_8 rm.1, ms_8, iI_eq]
  by_cases c : t.1.1 = 0
  · rw [if_pos c]
    by_cases c2 : kdT T L t.1.2.2 = 0
    · rw [if_pos c2]
    · exact absurd ⟨c, c2⟩ st
  · rw [if_neg c]
theorem iter_r {σ ρ : Type} {F : σ → Option (σ ⊕ ρ)} {a : σ} {r : ρ} {N : Nat} (h : F a = some (.inr r)) (hN : 0 < N) : iter F N a = some r := by
  cases N with
  | zero => omega
  | succ N => show (F a).bind _ = _; rw [h]; rfl
theorem iter_l {σ ρ : Type} {F : σ → Option (σ ⊕ ρ)} {a b : σ} {N : Nat} (h : F a = some (.inl b)) : iter F (N + 1) a = iter F N b := by
  show (F a).bind _ = _
  rw [h]
  rfl
theorem pair_loop (S : STR E K) (h : RDK E m) (D : TB9 T L) (rm : mKd E mo) (hm : 20 ≤ m) : ∀ (n : Nat) (j : Int) (C R : Bk) (s : Sg T L) (t : Tg T L) (N : Nat), n < N → 0 ≤ j → pr s t → (s.1.1 = 0 → LR m C R ∧ C.1 m 0 = j ∧ j ≤ s.1.2.2.1 ∧ L - s.1.2.2.1 ≤ n) → iter (fX3_reads_l54 K (E.1 + (co + 2))) N (iI j, St E (rs T L m C s)) = some (St E (rs T L m (lpC m n (C, s)).1 (lpC m n (C, s)).2)) ∧ FRc m C (lpC m n (C, s)).1 ∧ ∃ R' t', iter (fX9_valley_l13 (E.1 + mo)) N (St E (ms T L R t)) = some (St E (ms T L R' t')) ∧ pr (lpC m n (C, s)).2 t' ∧ FRr R R' ∧ ((lpC m n (C, s)).2.1.1 = 0 → LR m (lpC m n (C, s)).1 R') := by
  intro n
  induction n with
  | zero =>
    intro j C R s t N hN j0 hp hg
    have st : ¬ (s.1.1 = 0 ∧ ¬ kdT T L s.1.2.2.1 = 0) := fun y => by
      have := kd_lt y.2
      have := (hg y.1).2.2.2
      omega
    have st' : ¬ (t.1.1 = 0 ∧ ¬ kdT T L t.1.2.2 = 0) := fun y => by
      have k0 := hp.1.trans y.1
      exact st ⟨k0, by rw [hp.2.2 k0]; exact y.2⟩
    rw [lpC_stop st]
    exact ⟨iter_r (c_exit h D st) hN, FRc_rfl, R, t, iter_r (m_exit rm st') hN, hp, FRr_rfl, fun k => (hg k).1⟩
  | succ n ih =>
    intro j C R s t N hN j0 hp hg
    by_cases st : s.1.1 = 0 ∧ ¬ kdT T L s.1.2.2.1 = 0
    · obtain ⟨k0, kd⟩ := st
      obtain ⟨H, hj, jq, qn⟩ := hg k0
      have ql := kd_lt kd
      have eq := hp.2.2 k0
      have t0 : t.1.1 = 0 := hp.1 ▸ k0
      have kd' : ¬ kdT T L t.1.2.2 = 0 := by rw [← eq]; exact kd
      have H' := H
      obtain ⟨Hn, Hw, Hs, Hd, Hpp, Hf⟩ := H'
      have d1 := D.1
      obtain ⟨l1, l2⟩ := lr_line hm H hp k0 (by omega)
      obtain ⟨vw, ⟨w8, w20⟩, h6, ⟨h60, h61, h62, h63, h64, h65, h66, h67, h68⟩, -⟩ := Hn
      have v0 := vw.1
      have v9 := vw.2.2.2.2.2.2.2.2
      have cb := c_body S h D hm (ci_lr H) k0 kd j0 (show j < L by omega)
      have mb := m_body (R := R) rm D (hr_lr H) (by rw [w20]; exact w8) (by rw [h6]; exact v0) (fun z z0 z1 => by
        obtain ⟨-, o2, -⟩ := Hw (z / 24) (z % 24) (by omega) (by omega) (by omega) (by omega)
        rw [show 24 * (z / 24) + z % 24 = z by omega] at o2
        omega) (fun i i0 i1 => by
        obtain ⟨o1, o2, o3, o4⟩ := Hd i i0 (by rw [← h68]; exact i1)
        have x0 := o1 0 (by omega) (by omega)
        have x1 := o1 1 (by omega) (by omega)
        rw [show 60 + (3 * i + 0) = 3 * (20 + i) by omega] at x0
        rw [show 60 + (3 * i + 1) = 3 * (20 + i) + 1 by omega] at x1
        have v1 := vw.2.1
        have v2 := vw.2.2.1
        rw [x0, x1]
        omega) t0 kd'
      cases N with
      | zero => omega
      | succ N =>
        have hp' : pr (cG (lnS m C s)) (if (mlS R t).1.1 = 0 then mG (mlS R t) else mlS R t) := by
          by_cases c : (lnS m C s).1.1 = 0
          · rw [if_pos (l1.1 ▸ c)]
            exact (pG l1).1
          · rw [if_neg (fun y => c (l1.1.trans y))]
            have b := bdG (s := lnS m C s) c ⟨rfl, rfl⟩
            exact ⟨b.1.trans l1.1, b.2.trans l1.2.1, fun y => absurd (b.1 ▸ y) c⟩
        have key := ih (j + 1) (wI (lnB m C s) m 0 (C.1 m 0 + 1)) (wA (mlB R t) (mo + 6) 4 (R.2.2.2.1 (mo + 6) 4 + 1)) (cG (lnS m C s)) (if (mlS R t).1.1 = 0 then mG (mlS R t) else mlS R t) N (by omega) (by omega) hp' (fun k => by
          obtain ⟨g1, g2⟩ := cG_g k
          have q1 := q_ln (m := m) (C := C) s
          have q2 := qGl g2
          refine ⟨l2 g1, ?_, by omega, by omega⟩
          rw [wI_1, if_pos ⟨rfl, rfl⟩, hj])
        have e : lpC m (n + 1) (C, s) = lpC m n (wI (lnB m C s) m 0 (C.1 m 0 + 1), cG (lnS m C s)) := if_pos ⟨k0, kd⟩
        rw [e]
        obtain ⟨i1, i2, R', t', i3, i4, i5, i6⟩ := key
        refine ⟨?_, FRc_tr (FRc_I (fr_ln s)) i2, R', t', ?_, i4, FRr_tr (FRr_A (Or.inl ⟨rfl, rfl⟩) (fr_ml t (by rw [h67]; omega) (by rw [h68]; omega))) i5, i6⟩
        · rw [iter_l cb]
          exact i1
        · rw [iter_l mb]
          exact i3
    · have st' : ¬ (t.1.1 = 0 ∧ ¬ kdT T L t.1.2.2 = 0) := fun y => by
        have k0 := hp.1.trans y.1
        exact st ⟨k0, by rw [hp.2.2 k0]; exact y.2⟩
      rw [lpC_stop st]
      exact ⟨iter_r (c_exit h D st) (by omega), FRc_rfl, R, t, iter_r (m_exit rm st') (by omega), hp, FRr_rfl, fun k => (hg k).1⟩
end LO
