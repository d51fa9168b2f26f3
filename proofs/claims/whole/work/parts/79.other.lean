/-! other: the valley without cooling, without winds, with more reach, sand, gas -/
/-- the valley as it is asked about -/
def vyO (V : Vy) (k : Int) : Vy :=
  (fun j => if j = 5 ∧ k = 0 then 0 else if j = 6 ∧ k = 2 then min (V.1 6 + 1) (V.1 3 - 1) else V.1 j, fun l h => if k = 1 then 0 else V.2.1 l h, fun s i => V.2.2.1 s i + (if i = k ∧ (k = 3 ∨ k = 4) then 1 else 0), V.2.2.2.1, V.2.2.2.2.1, V.2.2.2.2.2)
section OT
variable {E : Ev} {B C : Bk} {n m : Nat}
theorem vyO_ok {V : Vy} {k : Int} (hV : VOK V) (hs : ∀ s, 0 ≤ s → s < V.1 8 → V.2.2.1 s 3 ≤ 9 ∧ V.2.2.1 s 4 ≤ 9) : VOK (vyO V k) := by
  obtain ⟨b1, b2, b3, b4, b5, b6, b7, b8, b9, bw, bs, bd, ba, bg⟩ := hV
  have n5 : (vyO V k).1 5 = if k = 0 then 0 else V.1 5 := by
    show (if 5 = 5 ∧ k = 0 then 0 else if 5 = 6 ∧ k = 2 then _ else V.1 5) = _
    by_cases q : k = 0
    · rw [if_pos ⟨rfl, q⟩, if_pos q]
    · rw [if_neg (fun w => q w.2), if_neg (by omega), if_neg q]
  have n6 : (vyO V k).1 6 = if k = 2 then min (V.1 6 + 1) (V.1 3 - 1) else V.1 6 := by
    show (if 6 = 5 ∧ k = 0 then 0 else if 6 = 6 ∧ k = 2 then min (V.1 6 + 1) (V.1 3 - 1) else V.1 6) = _
    rw [if_neg (by omega)]
    by_cases q : k = 2
    · rw [if_pos ⟨rfl, q⟩, if_pos q]
    · rw [if_neg (fun w => q w.2), if_neg q]
  have no : ∀ j, j ≠ 5 → j ≠ 6 → (vyO V k).1 j = V.1 j := fun j q1 q2 => by
    show (if j = 5 ∧ k = 0 then 0 else if j = 6 ∧ k = 2 then _ else V.1 j) = _
    rw [if_neg (fun w => q1 w.1), if_neg (fun w => q2 w.1)]
  unfold VOK
  rw [no 1 (by omega) (by omega), no 2 (by omega) (by omega), no 3 (by omega) (by omega), no 4 (by omega) (by omega), no 7 (by omega) (by omega), no 8 (by omega) (by omega), no 9 (by omega) (by omega), n5, n6]
  refine ⟨b1, b2, b3, b4, ?_, ?_, b7, b8, b9, fun l h q1 q2 q3 q4 => ?_, fun s q1 q2 => ?_, bd, ba, bg⟩
  · split <;> omega
  · split <;> omega
  · show 0 ≤ (if k = 1 then 0 else V.2.1 l h) ∧ (if k = 1 then 0 else V.2.1 l h) < 5
    have := bw l h q1 q2 q3 q4
    split <;> omega
  · have h9 := hs s q1 q2
    have b := bs s q1 q2
    have e : ∀ i : Int, (vyO V k).2.2.1 s i = V.2.2.1 s i + (if i = k ∧ (k = 3 ∨ k = 4) then 1 else 0) := fun _ => rfl
    rw [e 0, e 1, e 2, e 3, e 4, e 5]
    rw [if_neg (show ¬ ((0 : Int) = k ∧ (k = 3 ∨ k = 4)) by omega), if_neg (show ¬ ((1 : Int) = k ∧ (k = 3 ∨ k = 4)) by omega), if_neg (show ¬ ((2 : Int) = k ∧ (k = 3 ∨ k = 4)) by omega), if_neg (show ¬ ((5 : Int) = k ∧ (k = 3 ∨ k = 4)) by omega)]
    refine ⟨by omega, by omega, by omega, ?_, ?_, by omega⟩
    · split <;> omega
    · split <;> omega
theorem s8_still (hk : VK E m) : fX8_stillAll (E.1 + m) (St E C) = some (St E (flA C (m + 1) 120 0)) := by
  have := iter_for (F := fX8_stillAll_l2 (E.1 + m)) (S := fun j => (iI j, St E (flA C (m + 1) j 0))) 0 120 (St E (flA C (m + 1) 120 0)) (fun j g1 g2 => by
    simp (disch := omega) only [fX8_stillAll_l2, g6_14 hk.1, some_bind, aN_ok hk.2.1 (by decide) (by decide), iI_le]
    rw [if_neg (by omega)]
    simp only [sI_ok hk.2.1 g1 (show j < (120 : Nat) by omega) (by decide), some_bind, iI_add, flA_s g1]) (by
    simp (disch := omega) only [fX8_stillAll_l2, g6_14 hk.1, some_bind, aN_ok hk.2.1 (by decide) (by decide), iI_le]
    rw [if_pos (by omega)]) (by decide) (FU_big (by decide))
  simp only [flA_0] at this
  simp only [fX8_stillAll, this, some_bind]
theorem s8_add {k : Int} (hk : VK E m) (b8 : 0 ≤ C.1 m 8 ∧ C.1 m 8 ≤ 4) (k0 : 0 ≤ k) (k1 : k < 6) : ∃ D, fX8_addToAll (E.1 + m) (iI k) (St E C) = some (St E D) ∧ D.1 = C.1 ∧ D.2.1 = C.2.1 ∧ D.2.2.1 = C.2.2.1 ∧ D.2.2.2.2 = C.2.2.2.2 ∧ (∀ d z, d ≠ m + 2 → D.2.2.2.1 d z = C.2.2.2.1 d z) ∧ (∀ s i : Int, 0 ≤ s → s < C.1 m 8 → 0 ≤ i → i < 6 → D.2.2.2.1 (m + 2) (s * 6 + i) = C.2.2.2.1 (m + 2) (s * 6 + i) + (if i = k then 1 else 0)) := by
  obtain ⟨r, e1, D, e2, c1, c2, c3, c4, c5, c6⟩ := iter_acc (F := fX8_addToAll_l2 (E.1 + m) (iI k)) (fun j a => ∃ D, a = (iI j, St E D) ∧ D.1 = C.1 ∧ D.2.1 = C.2.1 ∧ D.2.2.1 = C.2.2.1 ∧ D.2.2.2.2 = C.2.2.2.2 ∧ (∀ d z, d ≠ m + 2 → D.2.2.2.1 d z = C.2.2.2.1 d z) ∧ (∀ s i : Int, 0 ≤ i → i < 6 → D.2.2.2.1 (m + 2) (s * 6 + i) = C.2.2.2.1 (m + 2) (s * 6 + i) + (if i = k ∧ 0 ≤ s ∧ s < j then 1 else 0))) (C.1 m 8).toNat (fun r => ∃ D, r = St E D ∧ D.1 = C.1 ∧ D.2.1 = C.2.1 ∧ D.2.2.1 = C.2.2.1 ∧ D.2.2.2.2 = C.2.2.2.2 ∧ (∀ d z, d ≠ m + 2 → D.2.2.2.1 d z = C.2.2.2.1 d z) ∧ (∀ s i : Int, 0 ≤ i → i < 6 → D.2.2.2.1 (m + 2) (s * 6 + i) = C.2.2.2.1 (m + 2) (s * 6 + i) + (if i = k ∧ 0 ≤ s ∧ s < C.1 m 8 then 1 else 0)))
    (fun j a hj => by
      rintro ⟨D, rfl, c1, c2, c3, c4, c5, c6⟩
      have m8 : D.1 m 8 = C.1 m 8 := by rw [c1]
      refine ⟨(iI ((j + 1 : Nat) : Int), St E (wA D (m + 2) ((j : Int) * 6 + k) (D.2.2.2.1 (m + 2) ((j : Int) * 6 + k) + 1))), ?_, _, rfl, c1, c2, c3, c4, fun d z q => by rw [wA_4, if_neg (fun w => q w.1)]; exact c5 d z q, fun s i i0 i1 => ?_⟩
      · simp (disch := omega) only [fX8_addToAll_l2, g6_8 hk.1, m8, some_bind, iI_le, g6_15 hk.1, iI_mul, iI_add, aI_ok hk.2.2.1, sI_ok hk.2.2.1]
        rw [if_neg (by omega)]
        rfl
      · rw [wA_4, c6 s i i0 i1]
        by_cases q : s = j ∧ i = k
        · rw [if_pos ⟨rfl, by omega⟩, c6 j k (by omega) (by omega), if_neg (by omega), if_pos (by omega), q.1, q.2]
          omega
        · rw [if_neg (by omega)]
          by_cases q2 : i = k ∧ 0 ≤ s ∧ s < (j : Int)
          · rw [if_pos q2, if_pos (by omega)]
          · rw [if_neg q2, if_neg (by omega)])
    (fun a => by
      rintro ⟨D, rfl, c1, c2, c3, c4, c5, c6⟩
      have m8 : D.1 m 8 = C.1 m 8 := by rw [c1]
      refine ⟨_, ?_, D, rfl, c1, c2, c3, c4, c5, fun s i i0 i1 => ?_⟩
      · simp (disch := omega) only [fX8_addToAll_l2, g6_8 hk.1, m8, some_bind, iI_le]
        rw [if_pos (by omega)]
      · rw [c6 s i i0 i1]
        by_cases q2 : i = k ∧ 0 ≤ s ∧ s < C.1 m 8
        · rw [if_pos q2, if_pos (by omega)]
        · rw [if_neg q2, if_neg (by omega)])
    (N := FU) (FUh (by omega)) (a := (iI 0, St E C)) ⟨C, rfl, rfl, rfl, rfl, rfl, fun _ _ _ => rfl, fun s i _ _ => by rw [if_neg (by omega), Int.add_zero]⟩
  refine ⟨D, by simp only [fX8_addToAll, e1, e2, some_bind], c1, c2, c3, c4, c5, fun s i s0 s1 i0 i1 => ?_⟩
  rw [c6 s i i0 i1]
  by_cases q : i = k
  · rw [if_pos ⟨q, s0, s1⟩, if_pos q]
  · rw [if_neg (fun w => q w.1), if_neg q]
/-- the spare valley tells the valley as it is asked about -/
theorem s8_spare {k : Int} (F : FB E B n m) (hst : 0 < B.1 n 0) (k0 : 0 ≤ k) (k1 : k ≤ 4) : ∃ D, fX8_other (E.1 + co) (iI k) (St E B) = fX8_other_b108 (E.1 + co) (St E D) ∧ TM m B D ∧ VI D 10 ∧ (∀ j, j = 0 ∨ j = 4 ∨ j = 8 → D.1 m j = B.1 n j) ∧ VE (vyO (vyN B n) k) (vyN D m) (B.1 n 4) := by
  have hc : co = 0 := rfl
  have rc := F.1.1.1
  have rn := F.1.1.2.1
  have rk := F.1.1.2.2.1
  obtain ⟨kk1, kk2, k3, k4⟩ := F.2.1
  obtain ⟨n1, n2, m1, m2, nm⟩ := F.2.2.1
  have hV := rv_VOK F.1 hst
  have b3 : 2 ≤ B.1 n 3 ∧ B.1 n 3 ≤ 5 := hV.2.2.1
  have b4 : 1 ≤ B.1 n 4 ∧ B.1 n 4 ≤ 24 := hV.2.2.2.1
  have b6 : 0 ≤ B.1 n 6 ∧ B.1 n 6 < B.1 n 3 := hV.2.2.2.2.2.1
  have b8 : 0 ≤ B.1 n 8 ∧ B.1 n 8 ≤ 4 := hV.2.2.2.2.2.2.2.1
  have b9 : 0 ≤ B.1 n 9 ∧ B.1 n 9 ≤ 5 := hV.2.2.2.2.2.2.2.2.1
  have t0 : TM m B (cyV B m n) := TM_cy nm
  have S0 : SP (cyV B m n) n m := SP_cy nm
  have v0 := VI_cy F.2.2.2.2.2 m1 nm
  have ks : (cyV B m n).2.2.1 co 8 = some m := k4
  have kn : (cyV B m n).2.2.1 co 7 = some n := rn
  have i0 : ∀ j, j < 14 → (cyV B m n).1 m j = B.1 n j := fun j hj => by rw [S0.1 j hj, t0.1 n j (by omega) (by omega)]
  have r0 : ∀ (i : Nat) (z : Int), 1 ≤ i → i ≤ 5 → 0 ≤ z → z < vLen i → (cyV B m n).2.2.2.1 (m + i) z = B.2.2.2.1 (n + i) z := fun i z a b c d => by rw [S0.2 i z a b c d, t0.2.2.2.1 (n + i) z (by omega) (by omega)]
  have n0 : ∀ j, (cyV B m n).1 n j = B.1 n j := fun j => t0.1 n j (by omega) (by omega)
  have v1 : vLen 1 = 120 := rfl
  have v2 : vLen 2 = 24 := rfl
  have v3 : vLen 3 = 15 := rfl
  have v4 : vLen 4 = 96 := rfl
  have body : fX8_other (E.1 + co) (iI k) (St E B) = if k = 0 then (pI (St E (cyV B m n)) (E.1 + m) 6 5 (iI 0)).bind (fun s32 => fX8_other_b108 (E.1 + co) s32) else if k = 1 then (fX8_stillAll (E.1 + m) (St E (cyV B m n))).bind (fun s30 => fX8_other_b108 (E.1 + co) s30) else if k = 2 then (pI (St E (cyV B m n)) (E.1 + m) 6 6 (iI (min (B.1 n 6 + 1) (B.1 n 3 - 1)))).bind (fun s28 => fX8_other_b108 (E.1 + co) s28) else (fX8_addToAll (E.1 + m) (iI k) (St E (cyV B m n))).bind (fun s13 => fX8_other_b108 (E.1 + co) s13) := by
    simp (disch := omega) only [fX8_other, c8 rc, g8_7 rc rn, s_stands rk F.1.2.1, some_bind, iI_0, ib, iI_lt, iI_le, g8_8 rc k4, s_copyFrom k3 rk (show n ≠ m by omega), iI_eq, g8_8 rc ks, g8_7 rc kn, g6_6 rk.1, g6_3 rk.1, n0, iI_add, iI_sub, imin_ok]
    rw [if_pos hst, if_neg (by omega), if_pos (by omega)]
  have tI : ∀ j x, TM m (cyV B m n) (wI (cyV B m n) m j x) := fun j x => ⟨fun d i _ q => by rw [wI_1, if_neg (fun w => q w.1)], fun _ _ _ => rfl, fun _ _ _ => rfl, fun _ _ _ _ => rfl, rfl⟩
  have win : ∀ l h : Int, 0 ≤ l → l < B.1 n 3 → 0 ≤ h → h < B.1 n 4 → (cyV B m n).2.2.2.1 (m + 1) (l * 24 + h) = B.2.2.2.1 (n + 1) (l * 24 + h) := fun l h a b c d => r0 1 _ (by omega) (by omega) (by omega) (by omega)
  have sho : ∀ s i : Int, 0 ≤ s → s < B.1 n 8 → 0 ≤ i → i < 6 → (cyV B m n).2.2.2.1 (m + 2) (s * 6 + i) = B.2.2.2.1 (n + 2) (s * 6 + i) := fun l h a b c d => r0 2 _ (by omega) (by omega) (by omega) (by omega)
  have doo : ∀ s i : Int, 0 ≤ s → s < B.1 n 9 → 0 ≤ i → i < 3 → (cyV B m n).2.2.2.1 (m + 3) (s * 3 + i) = B.2.2.2.1 (n + 3) (s * 3 + i) := fun l h a b c d => r0 3 _ (by omega) (by omega) (by omega) (by omega)
  have acc : ∀ s h : Int, 0 ≤ s → s < B.1 n 8 → 0 ≤ h → h < B.1 n 4 → (cyV B m n).2.2.2.1 (m + 4) (s * 24 + h) = B.2.2.2.1 (n + 4) (s * 24 + h) := fun l h a b c d => r0 4 _ (by omega) (by omega) (by omega) (by omega)
  have nn : ∀ j, j ≠ 5 → j ≠ 6 → (vyO (vyN B n) k).1 j = B.1 n j := fun j q1 q2 => by
    show (if j = 5 ∧ k = 0 then 0 else if j = 6 ∧ k = 2 then _ else B.1 n j) = _
    rw [if_neg (fun w => q1 w.1), if_neg (fun w => q2 w.1)]
  have e3 := nn 3 (by omega) (by omega)
  have e4 := nn 4 (by omega) (by omega)
  have e8 := nn 8 (by omega) (by omega)
  have e9 := nn 9 (by omega) (by omega)
  -- the four ways
  by_cases q0 : k = 0
  · refine ⟨wI (cyV B m n) m 5 0, by rw [body, if_pos q0, p6_5 k3.1, some_bind], TM_tr t0 (tI 5 0), v0, fun j hj => by rw [wI_1, if_neg (by omega)]; exact i0 j (by omega), ⟨fun j j1 j2 => ?_, fun l h a1 a2 a3 a4 => ?_, fun s i a1 a2 a3 a4 => ?_, fun s i a1 a2 a3 a4 => ?_, fun s h a1 a2 a3 a4 => ?_, fun _ _ _ _ _ _ => rfl⟩⟩
    · show (if m = m ∧ j = 5 then 0 else (cyV B m n).1 m j) = (if j = 5 ∧ k = 0 then 0 else if j = 6 ∧ k = 2 then _ else B.1 n j)
      by_cases c : j = 5
      · rw [if_pos ⟨rfl, c⟩, if_pos ⟨c, q0⟩]
      · rw [if_neg (fun w => c w.2), if_neg (fun w => c w.1), if_neg (by omega), i0 j (by omega)]
    · rw [e3] at a2
      rw [e4] at a4
      show (cyV B m n).2.2.2.1 (m + 1) (l * 24 + h) = if k = 1 then 0 else B.2.2.2.1 (n + 1) (l * 24 + h)
      rw [if_neg (by omega)]
      exact win l h a1 a2 a3 a4
    · rw [e8] at a2
      show (cyV B m n).2.2.2.1 (m + 2) (s * 6 + i) = B.2.2.2.1 (n + 2) (s * 6 + i) + (if i = k ∧ (k = 3 ∨ k = 4) then 1 else 0)
      rw [if_neg (by omega), Int.add_zero]
      exact sho s i a1 a2 a3 a4
    · rw [e9] at a2
      exact doo s i a1 a2 a3 a4
    · rw [e8] at a2
      exact acc s h a1 a2 a3 a4
  · by_cases q1 : k = 1
    · refine ⟨flA (cyV B m n) (m + 1) 120 0, by rw [body, if_neg q0, if_pos q1, s8_still k3, some_bind], TM_tr t0 ⟨fun _ _ _ _ => rfl, fun _ _ _ => rfl, fun _ _ _ => rfl, fun d z _ w => ?_, rfl⟩, ⟨?_, v0.2⟩, fun j hj => i0 j (by omega), ⟨fun j j1 j2 => ?_, fun l h a1 a2 a3 a4 => ?_, fun s i a1 a2 a3 a4 => ?_, fun s i a1 a2 a3 a4 => ?_, fun s h a1 a2 a3 a4 => ?_, fun _ _ _ _ _ _ => rfl⟩⟩
      · show (if d = m + 1 ∧ 0 ≤ z ∧ z < 120 then 0 else (cyV B m n).2.2.2.1 d z) = _
        rw [if_neg (by omega)]
      · show (if 10 + 6 = m + 1 ∧ (0 : Int) ≤ 0 ∧ (0 : Int) < 120 then 0 else (cyV B m n).2.2.2.1 (10 + 6) 0) = 0
        rw [if_neg (by omega)]
        exact v0.1
      · show (cyV B m n).1 m j = (if j = 5 ∧ k = 0 then 0 else if j = 6 ∧ k = 2 then _ else B.1 n j)
        rw [if_neg (by omega), if_neg (by omega), i0 j (by omega)]
      · rw [e3] at a2
        rw [e4] at a4
        show (if m + 1 = m + 1 ∧ 0 ≤ l * 24 + h ∧ l * 24 + h < 120 then 0 else _) = if k = 1 then 0 else B.2.2.2.1 (n + 1) (l * 24 + h)
        rw [if_pos ⟨rfl, by omega, by omega⟩, if_pos q1]
      · rw [e8] at a2
        show (if m + 2 = m + 1 ∧ 0 ≤ s * 6 + i ∧ s * 6 + i < 120 then 0 else (cyV B m n).2.2.2.1 (m + 2) (s * 6 + i)) = B.2.2.2.1 (n + 2) (s * 6 + i) + (if i = k ∧ (k = 3 ∨ k = 4) then 1 else 0)
        rw [if_neg (by omega), if_neg (by omega), Int.add_zero]
        exact sho s i a1 a2 a3 a4
      · rw [e9] at a2
        show (if m + 3 = m + 1 ∧ 0 ≤ s * 3 + i ∧ s * 3 + i < 120 then 0 else (cyV B m n).2.2.2.1 (m + 3) (s * 3 + i)) = _
        rw [if_neg (by omega)]
        exact doo s i a1 a2 a3 a4
      · rw [e8] at a2
        show (if m + 4 = m + 1 ∧ 0 ≤ s * 24 + h ∧ s * 24 + h < 120 then 0 else (cyV B m n).2.2.2.1 (m + 4) (s * 24 + h)) = _
        rw [if_neg (by omega)]
        exact acc s h a1 a2 a3 a4
    · by_cases q2 : k = 2
      · refine ⟨wI (cyV B m n) m 6 (min (B.1 n 6 + 1) (B.1 n 3 - 1)), by rw [body, if_neg q0, if_neg q1, if_pos q2, p6_6 k3.1, some_bind], TM_tr t0 (tI 6 _), v0, fun j hj => by rw [wI_1, if_neg (by omega)]; exact i0 j (by omega), ⟨fun j j1 j2 => ?_, fun l h a1 a2 a3 a4 => ?_, fun s i a1 a2 a3 a4 => ?_, fun s i a1 a2 a3 a4 => ?_, fun s h a1 a2 a3 a4 => ?_, fun _ _ _ _ _ _ => rfl⟩⟩
        · show (if m = m ∧ j = 6 then min (B.1 n 6 + 1) (B.1 n 3 - 1) else (cyV B m n).1 m j) = (if j = 5 ∧ k = 0 then 0 else if j = 6 ∧ k = 2 then min (B.1 n 6 + 1) (B.1 n 3 - 1) else B.1 n j)
          rw [if_neg (show ¬ (j = 5 ∧ k = 0) by omega)]
          by_cases c : j = 6
          · rw [if_pos ⟨rfl, c⟩, if_pos ⟨c, q2⟩]
          · rw [if_neg (fun w => c w.2), if_neg (fun w => c w.1), i0 j (by omega)]
        · rw [e3] at a2
          rw [e4] at a4
          show (cyV B m n).2.2.2.1 (m + 1) (l * 24 + h) = if k = 1 then 0 else B.2.2.2.1 (n + 1) (l * 24 + h)
          rw [if_neg (by omega)]
          exact win l h a1 a2 a3 a4
        · rw [e8] at a2
          show (cyV B m n).2.2.2.1 (m + 2) (s * 6 + i) = B.2.2.2.1 (n + 2) (s * 6 + i) + (if i = k ∧ (k = 3 ∨ k = 4) then 1 else 0)
          rw [if_neg (by omega), Int.add_zero]
          exact sho s i a1 a2 a3 a4
        · rw [e9] at a2
          exact doo s i a1 a2 a3 a4
        · rw [e8] at a2
          exact acc s h a1 a2 a3 a4
      · have m8 : (cyV B m n).1 m 8 = B.1 n 8 := i0 8 (by omega)
        obtain ⟨D, d1, d2, d3, d4, d5, d6, d7⟩ := s8_add (C := cyV B m n) (k := k) k3 (by rw [m8]; exact b8) (by omega) (by omega)
        have dv : ∀ k z, k ≠ 2 → D.2.2.2.1 (m + k) z = (cyV B m n).2.2.2.1 (m + k) z := fun k z q => d6 _ _ (by omega)
        refine ⟨D, by rw [body, if_neg q0, if_neg q1, if_neg q2, d1, some_bind], TM_tr t0 ⟨fun _ _ _ _ => by rw [d2], fun _ _ _ => by rw [d3], fun _ _ _ => by rw [d4], fun d z _ w => d6 d z (by omega), d5⟩, ⟨?_, ?_⟩, fun j hj => by rw [d2]; exact i0 j (by omega), ⟨fun j j1 j2 => ?_, fun l h a1 a2 a3 a4 => ?_, fun s i a1 a2 a3 a4 => ?_, fun s i a1 a2 a3 a4 => ?_, fun s h a1 a2 a3 a4 => ?_, fun _ _ _ _ _ _ => rfl⟩⟩
        · rw [d6 _ _ (by omega)]
          exact v0.1
        · rw [d3]
          exact v0.2
        · show D.1 m j = (if j = 5 ∧ k = 0 then 0 else if j = 6 ∧ k = 2 then _ else B.1 n j)
          rw [if_neg (by omega), if_neg (by omega), d2, i0 j (by omega)]
        · rw [e3] at a2
          rw [e4] at a4
          show D.2.2.2.1 (m + 1) (l * 24 + h) = if k = 1 then 0 else B.2.2.2.1 (n + 1) (l * 24 + h)
          rw [if_neg (by omega), dv 1 _ (by omega)]
          exact win l h a1 a2 a3 a4
        · rw [e8] at a2
          show D.2.2.2.1 (m + 2) (s * 6 + i) = B.2.2.2.1 (n + 2) (s * 6 + i) + (if i = k ∧ (k = 3 ∨ k = 4) then 1 else 0)
          rw [d7 s i a1 (by rw [m8]; exact a2) a3 a4, sho s i a1 a2 a3 a4]
          by_cases c : i = k
          · rw [if_pos c, if_pos ⟨c, by omega⟩]
          · rw [if_neg c, if_neg (fun w => c w.1)]
        · rw [e9] at a2
          show D.2.2.2.1 (m + 3) (s * 3 + i) = _
          rw [dv 3 _ (by omega)]
          exact doo s i a1 a2 a3 a4
        · rw [e8] at a2
          show D.2.2.2.1 (m + 4) (s * 24 + h) = _
          rw [dv 4 _ (by omega)]
          exact acc s h a1 a2 a3 a4
end OT
