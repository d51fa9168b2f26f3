/-! a line of the reference, whole; both readers line by line -/
section MQ
variable {E : Ev} {B : Bk} {T : Int → Int} {L : Int}
theorem ml_b65 {x1 x2 x3 : Int32} (rm : mKd E mo) (t : Tg T L) : fX9_line_b65 (E.1 + mo) x1 x2 x3 (St E (ms T L B t)) = some (St E (ms T L B (mF 3 (by omega) t))) := by
  have k1 := (mF 3 (by omega) t).2.1
  have k2 := mF_k (f := 3) (by omega) (by omega) t
  simp (disch := omega) only [fX9_line_b65, fX9_line_b70, ms_fails rm, some_bind, g9_12 rm.1, ms_12]
  rw [if_neg (i0_neg k1 k2)]
/-- a line of the reference: what it writes, where it comes to -/
def mlS (B : Bk) (t : Tg T L) : Tg T L :=
  if B.2.2.2.1 (mo + 6) 4 = 0 then zt6 t
  else if isW T L t.1.2.2 6 then sl3 (B.2.2.2.1 (mo + 7) 62) (mA t)
  else if isW T L t.1.2.2 9 then (if B.1 mo 20 = 20 then mF 3 (by omega) t else wt3 (B.2.2.2.1 (mo + 7) 62) (B.2.2.2.1 (mo + 7) 63) (mA t))
  else if isW T L t.1.2.2 16 then (if B.2.2.2.1 (mo + 7) 67 = 4 then mF 3 (by omega) t else ht7 (B.2.2.2.1 (mo + 7) 60) (B.2.2.2.1 (mo + 7) 61) (B.2.2.2.1 (mo + 7) 62) (mA t))
  else if isW T L t.1.2.2 21 then (if B.2.2.2.1 (mo + 7) 68 = 5 then mF 3 (by omega) t else dt5 B (B.2.2.2.1 (mo + 7) 68) (B.2.2.2.1 (mo + 7) 60) (B.2.2.2.1 (mo + 7) 61) (mA t))
  else if isW T L t.1.2.2 23 then ft5 (B.2.2.2.1 (mo + 7) 60) (B.2.2.2.1 (mo + 7) 61) (B.2.2.2.1 (mo + 7) 63) (mA t)
  else pt3 (B.2.2.2.1 (mo + 7) 67) (B.2.2.2.1 (mo + 7) 63) (mW 25 t)
def mlB (B : Bk) (t : Tg T L) : Bk :=
  if B.2.2.2.1 (mo + 6) 4 = 0 then ztB B t
  else if isW T L t.1.2.2 6 then stB B (mA t)
  else if isW T L t.1.2.2 9 then (if B.1 mo 20 = 20 then B else wtB B (mA t))
  else if isW T L t.1.2.2 16 then (if B.2.2.2.1 (mo + 7) 67 = 4 then B else htB B (B.2.2.2.1 (mo + 7) 67) (B.2.2.2.1 (mo + 7) 60) (B.2.2.2.1 (mo + 7) 61) (B.2.2.2.1 (mo + 7) 62) (mA t))
  else if isW T L t.1.2.2 21 then (if B.2.2.2.1 (mo + 7) 68 = 5 then B else dtB B (B.2.2.2.1 (mo + 7) 68) (B.2.2.2.1 (mo + 7) 60) (B.2.2.2.1 (mo + 7) 61) (mA t))
  else if isW T L t.1.2.2 23 then ftB B (B.2.2.2.1 (mo + 7) 60) (B.2.2.2.1 (mo + 7) 61) (B.2.2.2.1 (mo + 7) 63) (mA t)
  else ptB B (B.2.2.2.1 (mo + 7) 67) (B.2.2.2.1 (mo + 7) 63) (mW 25 t)
theorem m_line (rm : mKd E mo) (D : TB9 T L) (H : HR_ B) (hn : 0 ≤ B.1 mo 20 ∧ B.1 mo 20 ≤ 20) (hs : ∀ z, 0 ≤ z → z < 120 → -1 ≤ B.2.2.2.1 (mo + 9) z ∧ B.2.2.2.1 (mo + 9) z ≤ 23) (hd : ∀ i, 0 ≤ i → i < B.2.2.2.1 (mo + 7) 68 → (0 ≤ B.2.2.2.1 (mo + 11) (3 * (20 + i)) ∧ B.2.2.2.1 (mo + 11) (3 * (20 + i)) < 8) ∧ (0 ≤ B.2.2.2.1 (mo + 11) (3 * (20 + i) + 1) ∧ B.2.2.2.1 (mo + 11) (3 * (20 + i) + 1) < 8)) (t : Tg T L) (k0 : t.1.1 = 0) (h4 : ¬ B.2.2.2.1 (mo + 6) 4 = 0) : fX9_line (E.1 + mo) (St E (ms T L B t)) = some (St E (ms T L (mlB B t) (mlS B t))) := by
  have hmo : mo = 58 := rfl
  have H' := H
  obtain ⟨b0, b1, b2, b3, b7, b8⟩ := H'
  have eis : ∀ (k : Nat) (x1 : Int64), x1 = jI (cdL k) → k < 28 → fX9_is (E.1 + mo) x1 (St E (ms T L B t)) = some (iI (bI (isW T L t.1.2.2 k)), St E (ms T L B t)) := fun k x1 hx hk => by
    rw [ms_is hx rm hk]
    by_cases c : isW T L t.1.2.2 k
    · rw [bI_t c, bI_t ⟨k0, c⟩]
    · rw [bI_f c, bI_f (fun y => c y.2)]
  have etk : ∀ (k : Nat) (x1 : Int64), x1 = jI (cdL k) → k < 28 → fX9_takes (E.1 + mo) x1 (St E (ms T L B t)) = some (iI (bI (isW T L t.1.2.2 k)), St E (ms T L B (if isW T L t.1.2.2 k then mA t else t))) := fun k x1 hx hk => by
    rw [ms_takes hx rm D hk]
    by_cases c : isW T L t.1.2.2 k
    · rw [bI_t c, bI_t ⟨k0, c⟩, if_pos ⟨k0, c⟩, if_pos c]
    · rw [bI_f c, bI_f (fun y => c y.2), if_neg (fun y => c y.2), if_neg c]
  have w1 := m_wind (B := B) rm D H hn hs (mA t)
  have w2 := fun hc => m_shop (B := B) rm D H rfl rfl rfl rfl hc (mA t)
  have w3 := fun hc => m_door (B := B) rm D H rfl rfl rfl hc hd (mA t)
  have w4 := m_fair (B := B) rm D H rfl rfl rfl (mA t)
  have w5 := m_pline (B := B) rm D H rfl rfl (mW 25 t)
  have w6 : (fX9_hasRead (E.1 + mo) (iI 2) (St E (ms T L B (mA t)))).bind (fun r25 => (fX9_number_ (E.1 + mo) 335207579 (iI 0) (r25.1 - (iI 1)) r25.2).bind fun r26 => (fX9_number_ (E.1 + mo) 8863997 (iI 0) (iI 99) r26.2).bind fun r27 => (fX9_reads (E.1 + mo) (iI 5) r26.1 r27.2).bind fun s28 => (fX9_reads (E.1 + mo) (iI 6) r27.1 s28).bind fun s29 => some s29) = some (St E (ms T L (stB B (mA t)) (sl3 (B.2.2.2.1 (mo + 7) 62) (mA t)))) := by
    simp (disch := omega) only [ms_hasRead rm, Int.reduceAdd, some_bind, iI_sub, ms_num_ w9_7 rm D, ms_num_ w9_8 rm D, ms_reads rm]
    rfl
  unfold mlB mlS
  rw [if_neg h4, if_neg h4]
  simp only [fX9_line, c9 rm.1, some_bind, eis 9 _ w9_9 (by omega), eis 16 _ w9_16 (by omega), eis 21 _ w9_21 (by omega), iI_0, ib]
  have g12 : ∀ (x1 x2 x3 : Int32), fX9_line_b70 (E.1 + mo) x1 x2 x3 (St E (ms T L B t)) = (if x1 = 0 then (if x2 = 0 then (if x3 = 0 then ((fX9_takes (E.1 + mo) 10204885 (St E (ms T L B t))).bind fun r18 => if r18.1 = 0 then ((fX9_takes (E.1 + mo) 119088 r18.2).bind fun r20 => if r20.1 = 0 then ((fX9_asks (E.1 + mo) 323717 r20.2).bind fun s22 => (fX9_planLine (E.1 + mo) s22).bind fun s23 => some s23) else ((fX9_fairLine (E.1 + mo) r20.2).bind fun s24 => some s24)) else ((fX9_hasRead (E.1 + mo) (iI 2) r18.2).bind (fun r25 => (fX9_number_ (E.1 + mo) 335207579 (iI 0) (r25.1 - (iI 1)) r25.2).bind fun r26 => (fX9_number_ (E.1 + mo) 8863997 (iI 0) (iI 99) r26.2).bind fun r27 => (fX9_reads (E.1 + mo) (iI 5) r26.1 r27.2).bind fun s28 => (fX9_reads (E.1 + mo) (iI 6) r27.1 s28).bind fun s29 => some s29))) else fX9_line_b90 (E.1 + mo) x1 x2 (St E (ms T L B t))) else fX9_line_b90 (E.1 + mo) x1 x2 (St E (ms T L B t))) else fX9_line_b90 (E.1 + mo) x1 x2 (St E (ms T L B t))) := fun x1 x2 x3 => by
    unfold fX9_line_b70
    rw [g9_12 rm.1, some_bind, ms_12, k0, if_pos (by decide)]
  have z0 : iI 0 = 0 := by decide
  have z1 : ¬ iI 1 = 0 := by decide
  by_cases c9' : isW T L t.1.2.2 9
  · have c6 := isW_ne c9' (b := 6) (by omega) (by omega) (by omega)
    have c16 := isW_ne c9' (b := 16) (by omega) (by omega) (by omega)
    have c21 := isW_ne c9' (b := 21) (by omega) (by omega) (by omega)
    rw [if_pos c9', if_neg c6, if_neg c6, if_pos c9', if_pos c9', bI_t c9', bI_f c16, bI_f c21, g9_20 rm.1, some_bind, ms_i (by omega)]
    by_cases q : B.1 mo 20 = 20
    · rw [if_pos (by rw [q]), ml_b65 rm, if_pos q, if_pos q]
    · rw [if_neg (by rw [iI_eq (by omega) (by omega) (by omega) (by omega)]; exact q), if_neg q, if_neg q]
      simp only [fX9_line_b37, fX9_line_b51, if_pos z0, g12, if_neg z1, fX9_line_b90, ms_next rm D, some_bind, w1]
  · rw [if_neg c9', bI_f c9']
    by_cases c16 : isW T L t.1.2.2 16
    · have c6 := isW_ne c16 (b := 6) (by omega) (by omega) (by omega)
      have c21 := isW_ne c16 (b := 21) (by omega) (by omega) (by omega)
      rw [if_neg c6, if_neg c6, if_neg c9', if_neg c9', if_pos c16, if_pos c16, bI_t c16, bI_f c21]
      unfold fX9_line_b37
      rw [if_neg z1, ms_hasRead rm (by omega) (by omega), some_bind]
      by_cases q : B.2.2.2.1 (mo + 7) 67 = 4
      · rw [if_pos (by show iI (B.2.2.2.1 (mo + 7) 67) = iI 4; rw [q]), ml_b65 rm, if_pos q, if_pos q]
      · rw [if_neg (by show ¬ iI (B.2.2.2.1 (mo + 7) 67) = iI 4; rw [iI_eq (by omega) (by omega) (by omega) (by omega)]; exact q), if_neg q, if_neg q]
        simp only [fX9_line_b51, if_pos z0, g12, if_neg z1, fX9_line_b90, ms_next rm D, some_bind, w2 (by omega)]
    · rw [bI_f c16]
      by_cases c21 : isW T L t.1.2.2 21
      · have c6 := isW_ne c21 (b := 6) (by omega) (by omega) (by omega)
        rw [if_neg c6, if_neg c6, if_neg c9', if_neg c9', if_neg c16, if_neg c16, if_pos c21, if_pos c21, bI_t c21]
        unfold fX9_line_b37
        rw [if_pos z0]
        unfold fX9_line_b51
        rw [if_neg z1, ms_hasRead rm (by omega) (by omega), some_bind]
        by_cases q : B.2.2.2.1 (mo + 7) 68 = 5
        · rw [if_pos (by show iI (B.2.2.2.1 (mo + 7) 68) = iI 5; rw [q]), ml_b65 rm, if_pos q, if_pos q]
        · rw [if_neg (by show ¬ iI (B.2.2.2.1 (mo + 7) 68) = iI 5; rw [iI_eq (by omega) (by omega) (by omega) (by omega)]; exact q), if_neg q, if_neg q]
          simp only [if_pos z0, g12, if_neg z1, fX9_line_b90, ms_next rm D, some_bind, w3 (by omega)]
      · rw [bI_f c21, if_neg c9', if_neg c9', if_neg c16, if_neg c16, if_neg c21, if_neg c21]
        simp only [fX9_line_b37, fX9_line_b51, if_pos z0, g12]
        simp only [etk 6 _ w9_6 (by omega), some_bind, iI_0, ib]
        by_cases c6 : isW T L t.1.2.2 6
        · simp only [if_pos c6]
          exact w6
        · simp only [if_neg c6, etk 23 _ w9_23 (by omega), some_bind, iI_0, ib]
          by_cases c23 : isW T L t.1.2.2 23
          · simp only [if_pos c23, w4, some_bind]
          · simp only [if_neg c23, ms_asks w9_25 rm D (show 25 < 28 by omega), w5, some_bind]
end MQ
/-! both step by step -/
section PQ
variable {T : Int → Int} {L : Int} {s : Sg T L} {t : Tg T L}
theorem pr_sizes (h : pr s t) : pr (zs6 s) (zt6 t) ∧ ((zs6 s).1.1 = 0 → (cV 2 8 (zs1 s) = mV 2 8 (zt1 t) ∧ 2 ≤ cV 2 8 (zs1 s) ∧ cV 2 8 (zs1 s) ≤ 8) ∧ (cV 2 8 (zs2 s) = mV 2 8 (zt2 t) ∧ 2 ≤ cV 2 8 (zs2 s) ∧ cV 2 8 (zs2 s) ≤ 8) ∧ (cV 2 5 (zs3 s) = mV 2 5 (zt3 t) ∧ 2 ≤ cV 2 5 (zs3 s) ∧ cV 2 5 (zs3 s) ≤ 5) ∧ (cV 1 24 (zs4 s) = mV 1 24 (zt4 t) ∧ 1 ≤ cV 1 24 (zs4 s) ∧ cV 1 24 (zs4 s) ≤ 24) ∧ (cV 0 24 (zs5 s) = mV 0 24 (zt5 t) ∧ 0 ≤ cV 0 24 (zs5 s) ∧ cV 0 24 (zs5 s) ≤ 24)) := by
  have p0 := pW 0 h
  have p1 := pW 1 p0.1
  have n1 := pN 2 8 (by omega) p1.1
  have p2 := pW 2 n1.1
  have n2 := pN 2 8 (by omega) p2.1
  have p3 := pW 3 n2.1
  have n3 := pN 2 5 (by omega) p3.1
  have p4 := pW 4 n3.1
  have n4 := pN 1 24 (by omega) p4.1
  have p5 := pW 5 n4.1
  have n5 := pN 0 24 (by omega) p5.1
  refine ⟨n5.1, fun k => ?_⟩
  have g5 := n5.2 k
  have g4 := n4.2 (p5.2.1 g5.1).1
  have g3 := n3.2 (p4.2.1 g4.1).1
  have g2 := n2.2 (p3.2.1 g3.1).1
  have g1 := n1.2 (p2.2.1 g2.1).1
  exact ⟨g1.2, g2.2, g3.2, g4.2, g5.2⟩
theorem pr_sells {n : Int} (hn : n ≤ 5) (h : pr s t) : pr (se3 n s) (sl3 n (mA t)) ∧ ((se3 n s).1.1 = 0 → (cV 0 (n - 1) (se1 s) = mV 0 (n - 1) (sl1 (mA t)) ∧ 0 ≤ cV 0 (n - 1) (se1 s) ∧ cV 0 (n - 1) (se1 s) ≤ n - 1) ∧ (cV 0 99 (se2 n s) = mV 0 99 (sl2 n (mA t)) ∧ 0 ≤ cV 0 99 (se2 n s) ∧ cV 0 99 (se2 n s) ≤ 99)) := by
  have p1 := pW 7 (pA h)
  have n1 := pN 0 (n - 1) (by omega) p1.1
  have p2 := pW 8 n1.1
  have n2 := pN 0 99 (by omega) p2.1
  refine ⟨n2.1, fun k => ?_⟩
  have g2 := n2.2 k
  have g1 := n1.2 (p2.2.1 g2.1).1
  exact ⟨g1.2, g2.2⟩
theorem pT {s : Sg T L} {t : Tg T L} (h : pr s t) : pr (cT s) (mT_ t) ∧ ((cT s).1.1 = 0 → s.1.1 = 0 ∧ cD s = mD t ∧ 0 ≤ cD s) := by
  have h' := h
  obtain ⟨h1, h2, h3⟩ := h'
  by_cases c0 : s.1.1 = 0
  · have t0 : t.1.1 = 0 := h1 ▸ c0
    have eq := h3 c0
    have ed : cD s = mD t := by
      unfold cD mD
      rw [eq]
      simp only [t0, true_and]
    have cb := cD_b s
    unfold cT mT_
    rw [← ed]
    by_cases c : cD s = -1
    · rw [if_pos c, if_pos c]
      obtain ⟨f1, f2⟩ := pF (f := 1) (by omega) (by omega) h
      exact ⟨f1, fun e => absurd e f2⟩
    · rw [if_neg c, if_neg c]
      exact ⟨pA h, fun _ => ⟨c0, rfl, by omega⟩⟩
  · have t0 : ¬ t.1.1 = 0 := fun y => c0 (h1.trans y)
    have em : mD t = -1 := by
      by_cases c : mD t = -1
      · exact c
      · exact absurd (mD_k c) t0
    have e1 : (cT s).1.1 = s.1.1 ∧ (cT s).1.2.1 = s.1.2.1 := by
      unfold cT
      split
      · exact ⟨if_neg c0, if_neg c0⟩
      · exact ⟨rfl, rfl⟩
    have e2 : mT_ t = t := by
      unfold mT_
      rw [if_pos em, mF_bad _ t0]
    rw [e2]
    exact ⟨⟨e1.1.trans h1, e1.2.trans h2, fun y => absurd (e1.1 ▸ y) c0⟩, fun y => absurd (e1.1 ▸ y) c0⟩
theorem pr_wind {n hr : Int} (hn : n ≤ 5) (hh : hr ≤ 24) (h : pr s t) : pr (wi3 n hr s) (wt3 n hr (mA t)) ∧ ((wi3 n hr s).1.1 = 0 → s.1.1 = 0 ∧ (cV 1 (n - 1) (cA s) = mV 1 (n - 1) (mA t) ∧ 1 ≤ cV 1 (n - 1) (cA s) ∧ cV 1 (n - 1) (cA s) ≤ n - 1) ∧ (cV 0 (hr - 1) (wi1 n s) = mV 0 (hr - 1) (wt1 n (mA t)) ∧ 0 ≤ cV 0 (hr - 1) (wi1 n s) ∧ cV 0 (hr - 1) (wi1 n s) ≤ hr - 1) ∧ (cD (wi2 n hr s) = mD (wt2 n hr (mA t)) ∧ 0 ≤ cD (wi2 n hr s))) := by
  have n1 := pN 1 (n - 1) (by omega) (pA h)
  have p1 := pW 10 n1.1
  have n2 := pN 0 (hr - 1) (by omega) p1.1
  have q := pT n2.1
  refine ⟨q.1, fun k => ?_⟩
  have g3 := q.2 k
  have g2 := n2.2 g3.1
  have g1 := n1.2 (p1.2.1 g2.1).1
  exact ⟨g1.1, g1.2, g2.2, g3.2⟩
theorem pr_shop {w d n : Int} (hw : w ≤ 8) (hd : d ≤ 8) (hn : n ≤ 5) (h : pr s t) : pr (sh7 w d n s) (ht7 w d n (mA t)) ∧ ((sh7 w d n s).1.1 = 0 → s.1.1 = 0 ∧ (cV 0 (w - 1) (sh1 s) = mV 0 (w - 1) (ht1 (mA t)) ∧ 0 ≤ cV 0 (w - 1) (sh1 s) ∧ cV 0 (w - 1) (sh1 s) ≤ w - 1) ∧ (cV 0 (d - 1) (sh2 w s) = mV 0 (d - 1) (ht2 w (mA t)) ∧ 0 ≤ cV 0 (d - 1) (sh2 w s) ∧ cV 0 (d - 1) (sh2 w s) ≤ d - 1) ∧ (cV 0 (n - 1) (sh3 w d s) = mV 0 (n - 1) (ht3 w d (mA t)) ∧ 0 ≤ cV 0 (n - 1) (sh3 w d s) ∧ cV 0 (n - 1) (sh3 w d s) ≤ n - 1) ∧ (cV 0 9 (sh4 w d n s) = mV 0 9 (ht4 w d n (mA t)) ∧ 0 ≤ cV 0 9 (sh4 w d n s) ∧ cV 0 9 (sh4 w d n s) ≤ 9) ∧ (cV 0 9 (sh5 w d n s) = mV 0 9 (ht5 w d n (mA t)) ∧ 0 ≤ cV 0 9 (sh5 w d n s) ∧ cV 0 9 (sh5 w d n s) ≤ 9) ∧ (cV 0 9 (sh6 w d n s) = mV 0 9 (ht6 w d n (mA t)) ∧ 0 ≤ cV 0 9 (sh6 w d n s) ∧ cV 0 9 (sh6 w d n s) ≤ 9)) := by
  have p1 := pW 17 (pA h)
  have n1 := pN 0 (w - 1) (by omega) p1.1
  have n2 := pN 0 (d - 1) (by omega) n1.1
  have n3 := pN 0 (n - 1) (by omega) n2.1
  have p4 := pW 18 n3.1
  have n4 := pN 0 9 (by omega) p4.1
  have p5 := pW 19 n4.1
  have n5 := pN 0 9 (by omega) p5.1
  have p6 := pW 20 n5.1
  have n6 := pN 0 9 (by omega) p6.1
  refine ⟨n6.1, fun k => ?_⟩
  have g6 := n6.2 k
  have g5 := n5.2 (p6.2.1 g6.1).1
  have g4 := n4.2 (p5.2.1 g5.1).1
  have g3 := n3.2 (p4.2.1 g4.1).1
  have g2 := n2.2 g3.1
  have g1 := n1.2 g2.1
  exact ⟨(p1.2.1 g1.1).1, g1.2, g2.2, g3.2, g4.2, g5.2, g6.2⟩
theorem pr_fair {w d hr : Int} (hw : w ≤ 8) (hd : d ≤ 8) (hh : hr ≤ 24) (h : pr s t) : pr (fa5 w d hr s) (ft5 w d hr (mA t)) ∧ ((fa5 w d hr s).1.1 = 0 → (cV 0 (w - 1) (fa1 s) = mV 0 (w - 1) (ft1 (mA t)) ∧ 0 ≤ cV 0 (w - 1) (fa1 s) ∧ cV 0 (w - 1) (fa1 s) ≤ w - 1) ∧ (cV 0 (d - 1) (fa2 w s) = mV 0 (d - 1) (ft2 w (mA t)) ∧ 0 ≤ cV 0 (d - 1) (fa2 w s) ∧ cV 0 (d - 1) (fa2 w s) ≤ d - 1) ∧ (cV 0 (hr - 1) (fa3 w d s) = mV 0 (hr - 1) (ft3 w d (mA t)) ∧ 0 ≤ cV 0 (hr - 1) (fa3 w d s) ∧ cV 0 (hr - 1) (fa3 w d s) ≤ hr - 1) ∧ (cV (cV 0 (hr - 1) (fa3 w d s)) (hr - 1) (fa4 w d hr s) = mV (mV 0 (hr - 1) (ft3 w d (mA t))) (hr - 1) (ft4 w d hr (mA t)) ∧ cV 0 (hr - 1) (fa3 w d s) ≤ cV (cV 0 (hr - 1) (fa3 w d s)) (hr - 1) (fa4 w d hr s) ∧ cV (cV 0 (hr - 1) (fa3 w d s)) (hr - 1) (fa4 w d hr s) ≤ hr - 1)) := by
  have p1 := pW 17 (pA h)
  have n1 := pN 0 (w - 1) (by omega) p1.1
  have n2 := pN 0 (d - 1) (by omega) n1.1
  have p3 := pW 10 n2.1
  have n3 := pN 0 (hr - 1) (by omega) p3.1
  have p4 := pW 24 n3.1
  by_cases c : (fa4 w d hr s).1.1 = 0
  · have g3 := n3.2 (p4.2.1 c).1
    have g2 := n2.2 (p3.2.1 g3.1).1
    have g1 := n1.2 g2.1
    have ev : cV 0 (hr - 1) (fa3 w d s) = mV 0 (hr - 1) (ft3 w d (mA t)) := g3.2.1
    have n4 := pN (cV 0 (hr - 1) (fa3 w d s)) (hr - 1) (by omega) p4.1
    have ef : ft5 w d hr (mA t) = mN (cV 0 (hr - 1) (fa3 w d s)) (hr - 1) (ft4 w d hr (mA t)) := by
      unfold ft5
      rw [← ev]
    rw [ef, ← ev]
    refine ⟨n4.1, fun k => ?_⟩
    exact ⟨g1.2, g2.2, ⟨rfl, g3.2.2⟩, (n4.2 k).2⟩
  · have n4 := pN (mV 0 (hr - 1) (ft3 w d (mA t))) (hr - 1) (by omega) p4.1
    have b1 : ∀ lo : Int, (cN lo (hr - 1) (fa4 w d hr s)).1.1 = (fa4 w d hr s).1.1 ∧ (cN lo (hr - 1) (fa4 w d hr s)).1.2.1 = (fa4 w d hr s).1.2.1 := fun lo => by
      unfold cN
      split
      · split
        · exact ⟨rfl, rfl⟩
        · exact ⟨if_neg c, if_neg c⟩
      · exact ⟨if_neg c, if_neg c⟩
    obtain ⟨q1, q2, q3⟩ := n4.1
    have x1 := b1 (mV 0 (hr - 1) (ft3 w d (mA t)))
    have x2 := b1 (cV 0 (hr - 1) (fa3 w d s))
    have nk : ¬ (fa5 w d hr s).1.1 = 0 := fun y => c (x2.1 ▸ y)
    exact ⟨⟨(x2.1.trans x1.1.symm).trans q1, (x2.2.trans x1.2.symm).trans q2, fun y => absurd y nk⟩, fun y => absurd y nk⟩
theorem pr_plan {n hr : Int} (hn : n ≤ 4) (hh : hr ≤ 24) (h : pr s t) (k0 : s.1.1 = 0) (w25 : isW T L s.1.2.2.1 25) : pr (pl3 n hr s) (pt3 n hr (mW 25 t)) ∧ ((pl3 n hr s).1.1 = 0 → (cV 0 (n - 1) (cA s) = mV 0 (n - 1) (mW 25 t) ∧ 0 ≤ cV 0 (n - 1) (cA s) ∧ cV 0 (n - 1) (cA s) ≤ n - 1) ∧ (cV 0 (hr - 1) (pl1 n s) = mV 0 (hr - 1) (pt1 n (mW 25 t)) ∧ 0 ≤ cV 0 (hr - 1) (pl1 n s) ∧ cV 0 (hr - 1) (pl1 n s) ≤ hr - 1) ∧ plV n hr s = pta (pt2 n hr (mW 25 t))) := by
  have e25 : mW 25 t = mA t := if_pos ⟨h.1 ▸ k0, h.2.2 k0 ▸ w25⟩
  rw [e25]
  have n1 := pN 0 (n - 1) (by omega) (pA h)
  have n2 := pN 0 (hr - 1) (by omega) n1.1
  have n2' : pr (pl2 n hr s) (pt2 n hr (mA t)) := n2.1
  have key : pr (pl3 n hr s) (pt3 n hr (mA t)) ∧ ((pl3 n hr s).1.1 = 0 → (pl2 n hr s).1.1 = 0 ∧ plV n hr s = pta (pt2 n hr (mA t))) := by
    have y := n2'
    obtain ⟨y1, y2, y3⟩ := y
    unfold pl3 pt3 plV
    generalize pl2 n hr s = u at n2' y1 y2 y3 ⊢
    generalize pt2 n hr (mA t) = v at n2' y1 y2 y3 ⊢
    by_cases c0 : u.1.1 = 0
    · have v0 : v.1.1 = 0 := y1 ▸ c0
      have eq := y3 c0
      by_cases c26 : isW T L u.1.2.2.1 26
      · have ep : pta v = 1 := if_pos ⟨v0, eq ▸ c26⟩
        rw [if_pos c26, if_pos c26, ep, if_neg (by omega)]
        have e : cW 26 u = cA u := if_pos c26
        rw [e]
        exact ⟨pA n2', fun _ => ⟨c0, rfl⟩⟩
      · rw [if_neg c26, if_neg c26]
        by_cases c27 : isW T L u.1.2.2.1 27
        · have ep : pta v = 2 := by
            unfold pta
            rw [if_neg (fun z => c26 (eq ▸ z.2)), if_pos ⟨v0, eq ▸ c27⟩]
          rw [ep, if_neg (by omega)]
          have e : cW 27 u = cA u := if_pos c27
          rw [e]
          exact ⟨pA n2', fun _ => ⟨c0, rfl⟩⟩
        · have ep : pta v = -1 := by
            unfold pta
            rw [if_neg (fun z => c26 (eq ▸ z.2)), if_neg (fun z => c27 (eq ▸ z.2))]
          rw [ep, if_pos rfl]
          have e : cW 27 u = cF 1 u.1.2.2.1 (by omega) u := if_neg c27
          rw [e]
          obtain ⟨f1, f2⟩ := pF (f := 1) (by omega) (by omega) n2'
          exact ⟨f1, fun e => absurd e f2⟩
    · have v0 : ¬ v.1.1 = 0 := fun z => c0 (y1.trans z)
      have ep : pta v = -1 := by
        unfold pta
        rw [if_neg (fun z => v0 z.1), if_neg (fun z => v0 z.1)]
      rw [ep, if_pos rfl, mF_bad _ v0]
      have e1 : ∀ k, (cW k u).1.1 = u.1.1 ∧ (cW k u).1.2.1 = u.1.2.1 := fun k => by
        unfold cW
        split
        · exact ⟨rfl, rfl⟩
        · exact ⟨if_neg c0, if_neg c0⟩
      by_cases c26 : isW T L u.1.2.2.1 26
      · rw [if_pos c26]
        exact ⟨⟨(e1 26).1.trans y1, (e1 26).2.trans y2, fun z => absurd ((e1 26).1 ▸ z) c0⟩, fun z => absurd ((e1 26).1 ▸ z) c0⟩
      · rw [if_neg c26]
        exact ⟨⟨(e1 27).1.trans y1, (e1 27).2.trans y2, fun z => absurd ((e1 27).1 ▸ z) c0⟩, fun z => absurd ((e1 27).1 ▸ z) c0⟩
  refine ⟨key.1, fun k => ?_⟩
  obtain ⟨k2, k3⟩ := key.2 k
  have g2 := n2.2 k2
  have g1 := n1.2 g2.1
  exact ⟨g1.2, g2.2, k3⟩
end PQ
