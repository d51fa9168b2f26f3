/-! valley(), both, whole -/
section OV
variable {E : Ev} {B : Bk} {K : Nat → Nat} {n m : Nat}
/-- the class's reading: what it has at its end -/
theorem c_read (S : STR E K) (h : RDK E m) (rm : mKd E mo) (hm : 20 ≤ m) (hm2 : m < 50) {L : Int} (D : TB9 (B.2.2.2.1 (co + 1)) L) (v0 : 0 ≤ B.1 (co + 2) 7 ∧ B.1 (co + 2) 7 ≤ 1000000) : ∃ (P : Bk × Sg (B.2.2.2.1 (co + 1)) L), Gp P.2 ∧ WBd m P.1 ∧ DDm m P.1 ∧ FRc m (wI (clV B m) (co + 2) 8 0) P.1 ∧ fX3_reads K (E.1 + (co + 2)) (E.1 + (co + 1)) (iI L) (E.1 + m) (St E B) = some (iI (bI (P.2.1.1 = 0)), St E (spK (rs (B.2.2.2.1 (co + 1)) L m P.1 P.2) m 120)) ∧ ∀ (X : Bk) (t0 : Tg (B.2.2.2.1 (co + 1)) L), t0.1.1 = 0 → t0.1.2.1 = -1 → t0.1.2.2 = skT (B.2.2.2.1 (co + 1)) L 0 → ∃ R' t', iter (fX9_valley_l13 (E.1 + mo)) FU (St E (ms (B.2.2.2.1 (co + 1)) L (clM X) t0)) = some (St E (ms (B.2.2.2.1 (co + 1)) L R' t')) ∧ pr P.2 t' ∧ FRr (clM X) R' ∧ (P.2.1.1 = 0 → LR m P.1 R') := by
  have hco : co = 0 := rfl
  have hmo : mo = 58 := rfl
  have d1 := D.1
  obtain ⟨s0, k0, p0, q0, es⟩ := c_start (K := K) h hm D v0
  have sb := skT_b (T := B.2.2.2.1 (co + 1)) (L := L) (p := 0) d1.1
  have Pl := fun (X : Bk) (t0 : Tg (B.2.2.2.1 (co + 1)) L) (a : t0.1.1 = 0) (b : t0.1.2.1 = -1) (c : t0.1.2.2 = skT (B.2.2.2.1 (co + 1)) L 0) => pair_loop S h D rm hm 1600 0 (wI (clV B m) (co + 2) 8 0) (clM X) s0 t0 FU (by show 1600 < 1000000; omega) (Int.le_refl 0) ⟨k0.trans a.symm, p0.trans b.symm, fun _ => q0.trans c.symm⟩ (fun _ => ⟨lr_0 hm, by
    rw [wI_1, if_neg (by omega)]
    show (if m = m ∧ 0 < 14 then (if (0 : Nat) = 10 then (-1 : Int) else 0) else B.1 m 0) = 0
    rw [if_pos ⟨rfl, by omega⟩, if_neg (by omega)], by rw [q0]; exact sb.1, by rw [q0]; have := sb.1; show L - _ ≤ ((1600 : Nat) : Int); omega⟩)
  have tf : ∃ t0 : Tg (B.2.2.2.1 (co + 1)) L, t0.1.1 = 0 ∧ t0.1.2.1 = -1 ∧ t0.1.2.2 = skT (B.2.2.2.1 (co + 1)) L 0 := ⟨⟨(0, -1, skT (B.2.2.2.1 (co + 1)) L 0), ⟨by omega, by omega⟩, sb.1, sb.2⟩, rfl, rfl, rfl⟩
  obtain ⟨t0, a, b, c⟩ := tf
  obtain ⟨i1, i2, -⟩ := Pl B t0 a b c
  have wb0 : WBd m (wI (clV B m) (co + 2) 8 0) := fun z z0 z1 => by
    show -1 ≤ (if m + 1 = m + 4 ∧ 0 ≤ z ∧ z < 96 then 0 else if m + 1 = m + 1 ∧ 0 ≤ z ∧ z < 120 then -1 else B.2.2.2.1 (m + 1) z) ∧ (if m + 1 = m + 4 ∧ 0 ≤ z ∧ z < 96 then 0 else if m + 1 = m + 1 ∧ 0 ≤ z ∧ z < 120 then -1 else B.2.2.2.1 (m + 1) z) ≤ 4
    rw [if_neg (by omega), if_pos ⟨rfl, z0, z1⟩]
    omega
  have wb := wb_lp (m := m) 1600 _ s0 wb0
  have dd := dd_lp (m := m) 1600 (wI (clV B m) (co + 2) 8 0) s0 (fun i' j' a b c => by
    have e9 : (wI (clV B m) (co + 2) 8 0).1 m 9 = 0 := by
      rw [wI_1, if_neg (by omega)]
      show (if m = m ∧ 9 < 14 then (if (9 : Nat) = 10 then (-1 : Int) else 0) else B.1 m 9) = 0
      rw [if_pos ⟨rfl, by omega⟩, if_neg (by omega)]
    omega)
  have gp := gp_lp (m := m) 1600 (wI (clV B m) (co + 2) 8 0) s0 ⟨fun _ => p0, by rw [p0]; omega, by rw [p0]; omega⟩
  refine ⟨lpC m 1600 (wI (clV B m) (co + 2) 8 0, s0), gp, wb, dd, i2, ?_, fun X t0 a b c => ?_⟩
  · have ew : ∀ z : Int, 0 ≤ z → z < 120 → -1 ≤ (rs (B.2.2.2.1 (co + 1)) L m (lpC m 1600 (wI (clV B m) (co + 2) 8 0, s0)).1 (lpC m 1600 (wI (clV B m) (co + 2) 8 0, s0)).2).2.2.2.1 (m + 1) z ∧ (rs (B.2.2.2.1 (co + 1)) L m (lpC m 1600 (wI (clV B m) (co + 2) 8 0, s0)).1 (lpC m 1600 (wI (clV B m) (co + 2) 8 0, s0)).2).2.2.2.1 (m + 1) z ≤ 4 := by
      rw [rs_r (by omega)]
      exact wb
    generalize lpC m 1600 (wI (clV B m) (co + 2) 8 0, s0) = P at i1 ew ⊢
    have kb := P.2.2.1
    have e0 : gI (St E (spK (rs (B.2.2.2.1 (co + 1)) L m P.1 P.2) m 120)) (E.1 + (co + 2)) 3 0 = some (iI P.2.1.1) := by
      rw [g3_0 h.1]
      show some (iI ((rs (B.2.2.2.1 (co + 1)) L m P.1 P.2).1 (co + 2) 0)) = _
      unfold rs
      rw [rsW_0]
    rw [es, i1, some_bind]
    simp (disch := omega) only [fX3_reads_b104, rs_9 h, some_bind, s_spread h.2.2 ew, e0, iI_0, iI_eq]
    by_cases q : P.2.1.1 = 0
    · rw [if_pos q, bI_t q]
    · rw [if_neg q, bI_f q]
  · obtain ⟨-, -, R', t', j1, j2, j3, j4⟩ := Pl X t0 a b c
    exact ⟨R', t', j1, j2, j3, j4⟩
theorem ov_1 {T : Int → Int} {L : Int} {R : Bk} {t : Tg T L} {d j : Nat} (h : d ≠ mo) : (ovB R t).1 d j = R.1 d j := by
  unfold ovB
  rw [wI_1, if_neg (fun y => h y.1), wI_1, if_neg (fun y => h y.1), wI_1, if_neg (fun y => h y.1), ms_i (fun y => absurd y h)]
theorem ov_2 {T : Int → Int} {L : Int} {R : Bk} {t : Tg T L} {d j : Nat} (h : d ≠ mo) : (ovB R t).2.1 d j = R.2.1 d j := by
  show (if d = mo ∧ j = 11 then _ else R.2.1 d j) = _
  rw [if_neg (fun y => h y.1)]
theorem ov_4 {T : Int → Int} {L : Int} {R : Bk} {t : Tg T L} {d : Nat} (h : d ≠ mo + 5) : (ovB R t).2.2.2.1 d = R.2.2.2.1 d := by
  show (ms T L R t).2.2.2.1 d = _
  rw [ms_r h]
theorem ov_t {T : Int → Int} {L : Int} {R : Bk} {t : Tg T L} : (ovB R t).2.2.2.1 (mo + 5) = T := by
  show (ms T L R t).2.2.2.1 (mo + 5) = T
  unfold ms
  rw [nkW_t]
theorem rdP_b {d : Nat} {z : Int} (h : rdP d z) : mscr d ∨ (0 < bsz d ∧ 4 * bsz d ≤ z) := by
  rcases h with ⟨rfl, h⟩ | ⟨rfl, h⟩ | ⟨rfl, h⟩ | rfl | ⟨rfl, h⟩ | ⟨rfl, h⟩ | ⟨rfl, h⟩
  · exact Or.inr ⟨by decide, by show 4 * (1 : Int) ≤ z; omega⟩
  · exact Or.inr ⟨by decide, by show 4 * (15 : Int) ≤ z; omega⟩
  · exact Or.inr ⟨by decide, by show 4 * (120 : Int) ≤ z; omega⟩
  · exact Or.inl (Or.inr (Or.inl rfl))
  · exact Or.inr ⟨by decide, by show 4 * (24 : Int) ≤ z; omega⟩
  · exact Or.inr ⟨by decide, by show 4 * (15 : Int) ≤ z; omega⟩
  · exact Or.inr ⟨by decide, by show 4 * (96 : Int) ≤ z; omega⟩
theorem clM_4 {X : Bk} {d : Nat} {z : Int} (h : ¬ rdP d z) : (clM X).2.2.2.1 d z = X.2.2.2.1 d z := by
  unfold rdP at h
  show (if d = mo + 6 ∧ z = 4 then 0 else if d = mo + 7 ∧ 60 ≤ z ∧ z < 75 then 0 else if d = mo + 8 ∧ 480 ≤ z ∧ z < 600 then 0 else if d = mo + 9 ∧ 0 ≤ z ∧ z < 120 then -1 else X.2.2.2.1 d z) = _
  rw [if_neg (by omega), if_neg (by omega), if_neg (by omega), if_neg (by omega)]
end OV
