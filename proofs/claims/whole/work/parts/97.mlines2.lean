/-! the reference's lines, the rest; a whole line -/
theorem wA_r {B : Bk} {d d' : Nat} {z x : Int} (h : d' ≠ d) : (wA B d z x).2.2.2.1 d' = B.2.2.2.1 d' := by
  funext z'
  rw [wA_4, if_neg (fun y => h y.1)]
theorem lf_ex {p : Int → Prop} [DecidablePred p] (k : Nat) : lf p k 0 < k ↔ ∃ i : Int, 0 ≤ i ∧ i < k ∧ p i := by
  obtain ⟨s1, s2, s3, s4⟩ := lf_spec p k 0
  constructor
  · intro h
    exact ⟨_, s1, h, s4 (by omega)⟩
  · rintro ⟨i, i0, i1, hp⟩
    by_cases c : lf p k 0 < k
    · exact c
    · exact absurd hp (s3 i i0 (by omega))
section MO
variable {E : Ev} {B : Bk} {T : Int → Int} {L : Int}
theorem mF_bad {f : Int} (hf : 0 ≤ f ∧ f ≤ 3) {s : Tg T L} (h : ¬ s.1.1 = 0) : mF f hf s = s := by
  refine Subtype.ext ?_
  show (if s.1.1 = 0 then f else s.1.1, if s.1.1 = 0 then s.1.2.2 else s.1.2.1, s.1.2.2) = s.1
  rw [if_neg h, if_neg h]
theorem m_ploop {c : Int} (rm : mKd E mo) (hc : B.2.2.2.1 (mo + 7) 67 = c) (c0 : 0 ≤ c) (c1 : c < 4) (t : Tg T L) : iter (fX9_shopLine_l118 (E.1 + mo)) FU (iI 0, St E (ms T L B t)) = some (St E (ms T L (pcB B c 24) t)) := by
  have hmo : mo = 58 := rfl
  have b0 : pcB B c 0 = B := by
    refine Prod.ext rfl (Prod.ext rfl (Prod.ext rfl (Prod.ext ?_ rfl)))
    funext e z
    show (if e = mo + 12 ∧ 24 * (16 + c) ≤ z ∧ z < 24 * (16 + c) + 0 then 0 else B.2.2.2.1 e z) = _
    rw [if_neg (by omega)]
  have key := iter_for (F := fX9_shopLine_l118 (E.1 + mo)) (fun j => (iI j, St E (ms T L (pcB B c j) t))) 0 24 (St E (ms T L (pcB B c 24) t)) (fun j j0 j1 => by
    have e7 : (pcB B c j).2.2.2.1 (mo + 7) 67 = c := by
      show (if mo + 7 = mo + 12 ∧ 24 * (16 + c) ≤ 67 ∧ 67 < 24 * (16 + c) + j then 0 else B.2.2.2.1 (mo + 7) 67) = _
      rw [if_neg (by omega), hc]
    have e : wA (pcB B c j) (mo + 12) (24 * (16 + c) + j) 0 = pcB B c (j + 1) := by
      refine Prod.ext rfl (Prod.ext rfl (Prod.ext rfl (Prod.ext ?_ rfl)))
      funext e z
      show (if e = mo + 12 ∧ z = 24 * (16 + c) + j then 0 else if e = mo + 12 ∧ 24 * (16 + c) ≤ z ∧ z < 24 * (16 + c) + j then 0 else B.2.2.2.1 e z) = (if e = mo + 12 ∧ 24 * (16 + c) ≤ z ∧ z < 24 * (16 + c) + (j + 1) then 0 else B.2.2.2.1 e z)
      repeat' split
      all_goals first | rfl | (exfalso; omega)
    have e60 : (60 : Int) + 7 = 67 := rfl
    simp (disch := omega) only [fX9_shopLine_l118, iI_le, g9_23 rm.1, some_bind, ms_hasRead rm, e60, e7, iI_add, iI_mul, sI_ok (mk12 rm), ms_wA, e]
    rw [if_neg (by omega)]) (by
    simp (disch := omega) only [fX9_shopLine_l118, iI_le]
    rw [if_pos (by omega)]) (by omega) (N := FU) (by have := FU_big (n := 24) (by omega); omega)
  rw [b0] at key
  exact key
theorem m_shop {c w d n : Int} (rm : mKd E mo) (D : TB9 T L) (H : HR_ B) (h60 : B.2.2.2.1 (mo + 7) 60 = w) (h61 : B.2.2.2.1 (mo + 7) 61 = d) (h62 : B.2.2.2.1 (mo + 7) 62 = n) (h67 : B.2.2.2.1 (mo + 7) 67 = c) (hc : c < 4) (t : Tg T L) : fX9_shopLine (E.1 + mo) (St E (ms T L B t)) = some (St E (ms T L (htB B c w d n t) (ht7 w d n t))) := by
  have hmo : mo = 58 := rfl
  obtain ⟨b0, b1, b2, b3, b7, b8⟩ := H
  have e7 : (htC B c w d n t).2.2.2.1 (mo + 7) 67 = c := by
    unfold htC
    rw [wA_r (by omega), wA_r (by omega), wA_r (by omega), wA_r (by omega), wA_r (by omega), wA_r (by omega), h67]
  have e7' : (pcB (htC B c w d n t) c 24).2.2.2.1 (mo + 7) 67 = c := by
    show (if mo + 7 = mo + 12 ∧ 24 * (16 + c) ≤ 67 ∧ 67 < 24 * (16 + c) + 24 then 0 else (htC B c w d n t).2.2.2.1 (mo + 7) 67) = _
    rw [if_neg (by omega), e7]
  have lp := m_ploop (B := htC B c w d n t) rm e7 (by omega) hc (ht7 w d n t)
  simp (disch := omega) only [fX9_shopLine, fX9_xHere, fX9_yHere, c9 rm.1, some_bind, ms_hasRead rm, Int.reduceAdd, wA_r, h60, h61, h62, h67, iI_sub, lt_, iI_add, iI_mul, ms_asks w9_17 rm D, g9_21 rm.1, ms_num rm D, sI_ok (mk10 rm), ms_wA, ms_num_ w9_18 rm D, ms_num_ w9_19 rm D, ms_num_ w9_20 rm D]
  unfold htC ht7 ht6 ht5 ht4 ht3 ht2 ht1 at lp
  unfold htC ht6 ht5 ht4 ht3 ht2 ht1 at e7'
  simp only [lp, some_bind]
  simp (disch := omega) only [ms_hasRead rm, Int.reduceAdd, e7', some_bind, iI_add, ms_reads rm]
  rfl
theorem m_dloop {c x : Int} (rm : mKd E mo) (H : HR_ B) (h68 : B.2.2.2.1 (mo + 7) 68 = c) (hc : c < 5) (hx : B.2.2.2.1 (mo + 11) (3 * (20 + c)) = x) (x0 : 0 ≤ x ∧ x ≤ 1000009) (hd : ∀ i, 0 ≤ i → i < c → (0 ≤ B.2.2.2.1 (mo + 11) (3 * (20 + i)) ∧ B.2.2.2.1 (mo + 11) (3 * (20 + i)) < 8) ∧ (0 ≤ B.2.2.2.1 (mo + 11) (3 * (20 + i) + 1) ∧ B.2.2.2.1 (mo + 11) (3 * (20 + i) + 1) < 8)) (t : Tg T L) : iter (fX9_doorLine_l58 (E.1 + mo) (iI (3 * (20 + c)))) FU (iI 0, St E (ms T L B t)) = some (St E (ms T L B (if lf (dtP B x (vl9 T L t.1.2.2)) c.toNat 0 < c then mF 2 (by omega) t else t))) := by
  have hmo : mo = 58 := rfl
  obtain ⟨b0, b1, b2, b3, b7, b8⟩ := H
  have vb := vl9_b (T := T) t.2.2.2
  have q2 : ∀ j : Int, (if lf (dtP B x (vl9 T L t.1.2.2)) j.toNat 0 < j then mF 2 (by omega) t else t).1.2.2 = t.1.2.2 := fun j => by split <;> rfl
  have f2 : ∀ j : Int, mF 2 (by omega) (if lf (dtP B x (vl9 T L t.1.2.2)) j.toNat 0 < j then mF 2 (by omega) t else t) = mF 2 (by omega) t := fun j => by
    split
    · exact mF_bad _ (mF_k _ (by omega) t)
    · rfl
  have ex : ∀ j : Int, 0 ≤ j → (lf (dtP B x (vl9 T L t.1.2.2)) j.toNat 0 < j ↔ ∃ i : Int, 0 ≤ i ∧ i < j ∧ dtP B x (vl9 T L t.1.2.2) i) := fun j j0 => by
    have := lf_ex (p := dtP B x (vl9 T L t.1.2.2)) j.toNat
    rw [show ((j.toNat : Nat) : Int) = j by omega] at this
    exact this
  have key := iter_for (F := fX9_doorLine_l58 (E.1 + mo) (iI (3 * (20 + c)))) (fun j => (iI j, St E (ms T L B (if lf (dtP B x (vl9 T L t.1.2.2)) j.toNat 0 < j then mF 2 (by omega) t else t)))) 0 c (St E (ms T L B (if lf (dtP B x (vl9 T L t.1.2.2)) c.toNat 0 < c then mF 2 (by omega) t else t))) (fun j j0 j1 => by
    obtain ⟨d1, d2⟩ := hd j j0 j1
    have step : (if lf (dtP B x (vl9 T L t.1.2.2)) (j + 1).toNat 0 < j + 1 then mF 2 (by omega) t else t) = (if dtP B x (vl9 T L t.1.2.2) j then mF 2 (by omega) t else (if lf (dtP B x (vl9 T L t.1.2.2)) j.toNat 0 < j then mF 2 (by omega) t else t)) := by
      by_cases c1 : dtP B x (vl9 T L t.1.2.2) j
      · rw [if_pos c1, if_pos ((ex (j + 1) (by omega)).mpr ⟨j, j0, by omega, c1⟩)]
      · rw [if_neg c1]
        by_cases c2 : lf (dtP B x (vl9 T L t.1.2.2)) j.toNat 0 < j
        · obtain ⟨i, i0, i1, i2⟩ := (ex j j0).mp c2
          rw [if_pos c2, if_pos ((ex (j + 1) (by omega)).mpr ⟨i, i0, by omega, i2⟩)]
        · rw [if_neg c2, if_neg]
          intro y
          obtain ⟨i, i0, i1, i2⟩ := (ex (j + 1) (by omega)).mp y
          by_cases c3 : i = j
          · exact c1 (c3 ▸ i2)
          · exact c2 ((ex j j0).mpr ⟨i, i0, by omega, i2⟩)
    have q2' := q2 j
    have f2' := f2 j
    generalize (if lf (dtP B x (vl9 T L t.1.2.2)) j.toNat 0 < j then mF 2 (by omega) t else t) = u at step q2' f2' ⊢
    simp only [step]
    have vb' : 0 ≤ vl9 T L u.1.2.2 ∧ vl9 T L u.1.2.2 ≤ 1000009 := by rw [q2']; exact vb
    simp (disch := omega) only [fX9_doorLine_l58, fX9_doorLine_b113, ms_hasRead rm, Int.reduceAdd, h68, some_bind, iI_le, g9_22 rm.1, iI_add, iI_mul, aI_ok (mk11 rm), ms_r (e := mo + 11) (show mo + 11 ≠ mo + 5 by omega), hx, g9_10 rm.1, ms_10, iI_eq, ms_fails rm, f2']
    rw [if_neg (by omega), q2']
    by_cases c1 : B.2.2.2.1 (mo + 11) (3 * (20 + j)) = x
    · rw [if_pos c1]
      by_cases c2 : B.2.2.2.1 (mo + 11) (3 * (20 + j) + 1) = vl9 T L t.1.2.2
      · rw [if_pos c2, if_pos ⟨c1, c2⟩]
      · rw [if_neg c2, if_neg (fun y => c2 y.2)]
    · rw [if_neg c1, if_neg (fun y => c1 y.1)]) (by
    simp (disch := omega) only [fX9_doorLine_l58, ms_hasRead rm, Int.reduceAdd, h68, some_bind, iI_le]
    rw [if_pos (by omega)]) (by omega) (N := FU) (by have := FU_big (n := c) (by omega); omega)
  have e0 : (if lf (dtP B x (vl9 T L t.1.2.2)) (0 : Int).toNat 0 < 0 then mF 2 (by omega) t else t) = t := if_neg (by show ¬ (0 : Int) < 0; omega)
  rw [e0] at key
  exact key
theorem m_door {c w d : Int} (rm : mKd E mo) (D : TB9 T L) (H : HR_ B) (h60 : B.2.2.2.1 (mo + 7) 60 = w) (h61 : B.2.2.2.1 (mo + 7) 61 = d) (h68 : B.2.2.2.1 (mo + 7) 68 = c) (hc : c < 5) (hd : ∀ i, 0 ≤ i → i < c → (0 ≤ B.2.2.2.1 (mo + 11) (3 * (20 + i)) ∧ B.2.2.2.1 (mo + 11) (3 * (20 + i)) < 8) ∧ (0 ≤ B.2.2.2.1 (mo + 11) (3 * (20 + i) + 1) ∧ B.2.2.2.1 (mo + 11) (3 * (20 + i) + 1) < 8)) (t : Tg T L) : fX9_doorLine (E.1 + mo) (St E (ms T L B t)) = some (St E (ms T L (dtB B c w d t) (dt5 B c w d t))) := by
  have hmo : mo = 58 := rfl
  have H' := H
  obtain ⟨b0, b1, b2, b3, b7, b8⟩ := H
  have xb := mV_b (lo := 0) (hi := w - 1) (dt1 t) (by omega)
  have vb := vl9_b (T := T) (dt2 w t).2.2.2
  have kb := kdT_b (T := T) (L := L) (q := (dt2 w t).1.2.2)
  have gb := (dt2 w t).2.1
  have B1 : ∀ x : Int, (wA B (mo + 11) (3 * (20 + c)) x).2.2.2.1 (mo + 7) = B.2.2.2.1 (mo + 7) := fun x => wA_r (by omega)
  have b119 : ∀ u : Tg T L, u = dt3 B c w d t → fX9_doorLine_b119 (E.1 + mo) (iI (3 * (20 + c))) (St E (ms T L (wA B (mo + 11) (3 * (20 + c)) (mV 0 (w - 1) (dt1 t))) u)) = some (St E (ms T L (dtB B c w d t) (dt5 B c w d t))) := fun u hu => by
    subst hu
    simp (disch := omega) only [fX9_doorLine_b119, fX9_yHere, c9 rm.1, some_bind, g9_22 rm.1, ms_hasRead rm, Int.reduceAdd, wA_r, h61, h68, iI_sub, ms_num rm D, iI_add, sI_ok (mk11 rm), ms_wA, ms_num_ w9_22 rm D, ms_reads rm]
    rfl
  have dd : ∀ i, 0 ≤ i → i < c → ∀ x k : Int, 0 ≤ k → k ≤ 1 → (wA B (mo + 11) (3 * (20 + c)) x).2.2.2.1 (mo + 11) (3 * (20 + i) + k) = B.2.2.2.1 (mo + 11) (3 * (20 + i) + k) := fun i i0 i1 x k k0 k1 => by
    rw [wA_4, if_neg (by omega)]
  have dd0 : ∀ i, 0 ≤ i → i < c → ∀ x : Int, (wA B (mo + 11) (3 * (20 + c)) x).2.2.2.1 (mo + 11) (3 * (20 + i)) = B.2.2.2.1 (mo + 11) (3 * (20 + i)) := fun i i0 i1 x => by
    rw [wA_4, if_neg (by omega)]
  have H1 : ∀ x, HR_ (wA B (mo + 11) (3 * (20 + c)) x) := fun x => by
    unfold HR_
    rw [B1]
    exact H'
  have lq : ∀ x y : Int, lf (dtP (wA B (mo + 11) (3 * (20 + c)) x) x y) c.toNat 0 = lf (dtP B x y) c.toNat 0 := fun x y => lf_congr _ _ (fun j j0 j1 => by
    unfold dtP
    rw [dd0 j (by omega) (by omega), dd j (by omega) (by omega) x 1 (by omega) (by omega)])
  have lp := m_dloop (B := wA B (mo + 11) (3 * (20 + c)) (mV 0 (w - 1) (dt1 t))) (c := c) (x := mV 0 (w - 1) (dt1 t)) rm (H1 _) (by rw [B1]; exact h68) hc (by rw [wA_4, if_pos ⟨rfl, rfl⟩]) (by omega) (fun i i0 i1 => by
    rw [dd0 i i0 i1, dd i i0 i1 _ 1 (by omega) (by omega)]
    exact hd i i0 i1) (dt2 w t)
  rw [lq] at lp
  simp (disch := omega) only [fX9_doorLine, fX9_xHere, c9 rm.1, some_bind, ms_hasRead rm, Int.add_zero, Int.reduceAdd, h60, h68, iI_sub, lt_, iI_add, iI_mul, ms_asks w9_17 rm D, g9_22 rm.1, ms_num rm D, sI_ok (mk11 rm), ms_wA]
  have f1 : mW 17 t = dt1 t := rfl
  have f2 : mN 0 (w - 1) (dt1 t) = dt2 w t := rfl
  simp only [f1, f2]
  simp (disch := omega) only [g9_12 rm.1, ms_12, some_bind, iI_0, iI_eq, g9_8 rm.1, ms_8, g9_10 rm.1, ms_10, ms_hasRead rm, Int.reduceAdd, wA_r, h61, iI_le]
  by_cases c1 : (dt2 w t).1.1 = 0
  · rw [if_pos c1]
    by_cases c2 : kdT T L (dt2 w t).1.2.2 = 2
    · rw [if_pos c2]
      by_cases c3 : vl9 T L (dt2 w t).1.2.2 < d
      · rw [if_neg (by omega), lp, some_bind]
        refine b119 _ ?_
        unfold dt3
        by_cases c4 : lf (dtP B (mV 0 (w - 1) (dt1 t)) (vl9 T L (dt2 w t).1.2.2)) c.toNat 0 < c
        · rw [if_pos c4, if_pos ⟨⟨c1, c2, c3⟩, c4⟩]
        · rw [if_neg c4, if_neg (fun y => c4 y.2)]
      · rw [if_pos (by omega)]
        refine b119 _ ?_
        unfold dt3
        rw [if_neg (fun y => c3 y.1.2.2)]
    · rw [if_neg c2]
      refine b119 _ ?_
      unfold dt3
      rw [if_neg (fun y => c2 y.1.2.1)]
  · rw [if_neg c1]
    refine b119 _ ?_
    unfold dt3
    rw [if_neg (fun y => c1 y.1.1)]
theorem m_fair {w d h : Int} (rm : mKd E mo) (D : TB9 T L) (H : HR_ B) (h60 : B.2.2.2.1 (mo + 7) 60 = w) (h61 : B.2.2.2.1 (mo + 7) 61 = d) (h63 : B.2.2.2.1 (mo + 7) 63 = h) (t : Tg T L) : fX9_fairLine (E.1 + mo) (St E (ms T L B t)) = some (St E (ms T L (ftB B w d h t) (ft5 w d h t))) := by
  have hmo : mo = 58 := rfl
  obtain ⟨b0, b1, b2, b3, b7, b8⟩ := H
  have v1 := mV_b (lo := 0) (hi := h - 1) (mW 10 (mN 0 (d - 1) (mN 0 (w - 1) (mW 17 t)))) (by omega)
  simp (disch := omega) only [fX9_fairLine, fX9_xHere, fX9_yHere, fX9_hourHere, c9 rm.1, some_bind, ms_hasRead rm, Int.add_zero, Int.reduceAdd, h60, h61, h63, iI_sub, ms_asks w9_17 rm D, ms_num rm D, ms_asks w9_10 rm D, ms_num_ w9_24 rm D, g9_12 rm.1, ms_12, ms_reads rm]
  have kb := (ft5 w d h t).2.1
  by_cases c : (ft5 w d h t).1.1 = 0
  · have e : ftB B w d h t = _ := if_pos c
    rw [e, if_pos (by show iI (ft5 w d h t).1.1 = 0; rw [c]; rfl)]
    rfl
  · have e : ftB B w d h t = B := if_neg c
    rw [e, if_neg (by exact i0_neg kb c)]
    rfl
theorem m_pline {n h : Int} (rm : mKd E mo) (D : TB9 T L) (H : HR_ B) (h67 : B.2.2.2.1 (mo + 7) 67 = n) (h63 : B.2.2.2.1 (mo + 7) 63 = h) (t : Tg T L) : fX9_planLine (E.1 + mo) (St E (ms T L B t)) = some (St E (ms T L (ptB B n h t) (pt3 n h t))) := by
  have hmo : mo = 58 := rfl
  obtain ⟨b0, b1, b2, b3, b7, b8⟩ := H
  have b48 : ∀ a : Int, a = pta (pt2 n h t) → fX9_planLine_b48 (E.1 + mo) (iI (mV 0 (n - 1) t)) (iI (mV 0 (h - 1) (pt1 n t))) (iI a) (St E (ms T L B (pt2 n h t))) = some (St E (ms T L (ptB B n h t) (pt3 n h t))) := fun a ha => by
    subst ha
    have ab := pta_b (pt2 n h t)
    have kb := (pt2 n h t).2.1
    have fb := (mF 1 (by omega) (pt2 n h t)).2.1
    simp (disch := omega) only [fX9_planLine_b48, fX9_planLine_b59, iI_eq, ms_fails rm, some_bind, g9_12 rm.1, ms_12, iI_0, ms_next rm D, g9_23 rm.1]
    by_cases c : pta (pt2 n h t) = -1
    · have f1 := mF_k (f := 1) (by omega) (by omega) (pt2 n h t)
      rw [if_pos c, if_neg f1]
      have e1 : ptB B n h t = B := if_pos c
      have e2 : pt3 n h t = _ := if_pos c
      rw [e1, e2]
    · have k2 := pta_k c
      obtain ⟨k1, g2, g3⟩ := mN_g k2
      obtain ⟨k0, g5, g6⟩ := mN_g k1
      rw [if_neg c, if_pos k2]
      have e1 : ptB B n h t = _ := if_neg c
      have e2 : pt3 n h t = _ := if_neg c
      rw [e1, e2]
      simp (disch := omega) only [iI_add, iI_mul, sI_ok (mk12 rm), some_bind, ms_wA]
  simp (disch := omega) only [fX9_planLine, fX9_hourHere, c9 rm.1, some_bind, ms_hasRead rm, Int.reduceAdd, h67, h63, iI_sub, ms_num rm D, ms_is w9_26 rm, ms_is w9_27 rm, iI_0, ib]
  by_cases c1 : (pt2 n h t).1.1 = 0 ∧ isW T L (pt2 n h t).1.2.2 26
  · have e : pta (pt2 n h t) = 1 := if_pos c1
    have := b48 1 e.symm
    rw [if_pos (by exact c1)]
    exact this
  · by_cases c2 : (pt2 n h t).1.1 = 0 ∧ isW T L (pt2 n h t).1.2.2 27
    · have e : pta (pt2 n h t) = 2 := by
        unfold pta
        rw [if_neg c1, if_pos c2]
      have := b48 2 e.symm
      rw [if_neg (by exact c1), if_pos (by exact c2)]
      exact this
    · have e : pta (pt2 n h t) = -1 := by
        unfold pta
        rw [if_neg c1, if_neg c2]
      have := b48 (-1) e.symm
      rw [if_neg (by exact c1), if_neg (by exact c2)]
      exact this
end MO
