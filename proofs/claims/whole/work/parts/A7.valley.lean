/-! valley(), both -/
/-- the rows of both tapes are the same throughout; the reader's number keeps its bounds -/
def rT2 (B : Bk) : Prop := B.2.2.2.1 (mo + 5) = B.2.2.2.1 (co + 1) ∧ 0 ≤ B.1 (co + 2) 7 ∧ B.1 (co + 2) 7 ≤ 1000000
def fV (m : Nat) (B C : Bk) : Prop := (∀ d j, d ≠ m → d ≠ co + 2 → (d = co → j ≠ 10 ∧ j ≠ 11 ∧ j ≠ 12) → (d = mo → False) → C.1 d j = B.1 d j) ∧ (∀ d j, d ≠ mo → C.2.1 d j = B.2.1 d j) ∧ (∀ d j, d ≠ co + 2 → (d = co → j ≠ 7 ∧ j ≠ 8) → C.2.2.1 d j = B.2.2.1 d j) ∧ (∀ d z, ¬ mscr d → ¬ (m < d ∧ d ≤ m + 5) → (bsz d = 0 ∨ (bsz d ≤ z ∧ z < 4 * bsz d)) → C.2.2.2.1 d z = B.2.2.2.1 d z) ∧ (∀ d z, ¬ mscr d → C.2.2.2.2 d z = B.2.2.2.2 d z)
def QV (E : Ev) (B : Bk) (n m : Nat) (f g : Hp → Option (Int32 × Hp)) : Prop := ∃ v B1 B2, f (St E B) = some (v, St E B1) ∧ g (St E B1) = some (v, St E B2) ∧ fV m B B2 ∧ rTp B2 ∧ rT2 B2 ∧ ((FB E B2 n m ∧ B2.1 co 11 = B.1 co 11 ∧ B2.1 co 12 = B.1 co 12 ∧ vyN B2 n = vyN B n) ∨ (FB E B2 m n ∧ B2.1 co 11 = 0 ∧ B2.1 co 12 = B.1 co 12 + 1 ∧ ∀ i j : Int, 0 ≤ i → i < j → j < B2.1 m 9 → ¬ B2.2.2.2.1 (m + 3) (i * 3 + 1) * 8 + B2.2.2.2.1 (m + 3) (i * 3 + 0) = B2.2.2.2.1 (m + 3) (j * 3 + 1) * 8 + B2.2.2.2.1 (m + 3) (j * 3 + 0)))
section VA
variable {E : Ev} {B : Bk} {K : Nat → Nat} {n m : Nat}
theorem c_start {L : Int} (h : RDK E m) (hm : 20 ≤ m) (D : TB9 (B.2.2.2.1 (co + 1)) L) (v0 : 0 ≤ B.1 (co + 2) 7 ∧ B.1 (co + 2) 7 ≤ 1000000) : ∃ s0 : Sg (B.2.2.2.1 (co + 1)) L, s0.1.1 = 0 ∧ s0.1.2.1 = -1 ∧ s0.1.2.2.1 = skT (B.2.2.2.1 (co + 1)) L 0 ∧ fX3_reads K (E.1 + (co + 2)) (E.1 + (co + 1)) (iI L) (E.1 + m) (St E B) = (iter (fX3_reads_l54 K (E.1 + (co + 2))) FU (iI 0, St E (rs (B.2.2.2.1 (co + 1)) L m (wI (clV B m) (co + 2) 8 0) s0))).bind fun r23 => fX3_reads_b104 K (E.1 + (co + 2)) r23 := by
  have hco : co = 0 := rfl
  have d1 := D.1
  have sb := skT_b (T := B.2.2.2.1 (co + 1)) (L := L) (p := 0) d1.1
  refine ⟨⟨(0, -1, skT (B.2.2.2.1 (co + 1)) L 0, vlT (B.2.2.2.1 (co + 1)) L (skT (B.2.2.2.1 (co + 1)) L 0) (B.1 (co + 2) 7)), ⟨by omega, by omega⟩, ⟨sb.1, sb.2⟩, vlT_b sb.2 v0, fun e => if_pos e⟩, rfl, rfl, rfl, ?_⟩
  have e : wI (wI (wI (wI (clV (wR (wI (wR B (co + 2) 2 (some (co + 1))) (co + 2) 3 L) (co + 2) 9 (some m)) m) (co + 2) 0 0) (co + 2) 1 (-1)) (co + 2) 4 0) (co + 2) 8 0 = rsW (B.2.2.2.1 (co + 1)) L m (wI (clV B m) (co + 2) 8 0) 0 (-1) 0 (B.1 (co + 2) 5) (B.1 (co + 2) 6) (B.1 (co + 2) 7) := by
    refine Prod.ext ?_ (Prod.ext rfl (Prod.ext ?_ (Prod.ext ?_ rfl)))
    · funext e j
      show (if e = co + 2 ∧ j = 8 then 0 else if e = co + 2 ∧ j = 4 then 0 else if e = co + 2 ∧ j = 1 then -1 else if e = co + 2 ∧ j = 0 then 0 else if e = m ∧ j < 14 then (if j = 10 then -1 else 0) else if e = co + 2 ∧ j = 3 then L else B.1 e j) = (if e = co + 2 then rsF L 0 (-1) 0 (B.1 (co + 2) 5) (B.1 (co + 2) 6) (B.1 (co + 2) 7) j (if e = co + 2 ∧ j = 8 then 0 else if e = m ∧ j < 14 then (if j = 10 then -1 else 0) else B.1 e j) else if e = co + 2 ∧ j = 8 then 0 else if e = m ∧ j < 14 then (if j = 10 then -1 else 0) else B.1 e j)
      by_cases q : e = co + 2
      · subst q
        unfold rsF
        repeat' split
        all_goals first | rfl | (exfalso; omega) | (subst_vars; rfl)
      · simp [q]
    · funext e j
      show (if e = co + 2 ∧ j = 9 then some m else if e = co + 2 ∧ j = 2 then some (co + 1) else B.2.2.1 e j) = (if e = co + 2 ∧ j = 2 then some (co + 1) else if e = co + 2 ∧ j = 9 then some m else B.2.2.1 e j)
      repeat' split
      all_goals first | rfl | (exfalso; omega)
    · funext e z
      show (if e = m + 4 ∧ 0 ≤ z ∧ z < 96 then 0 else if e = m + 1 ∧ 0 ≤ z ∧ z < 120 then -1 else B.2.2.2.1 e z) = (if e = co + 1 then B.2.2.2.1 (co + 1) z else if e = m + 4 ∧ 0 ≤ z ∧ z < 96 then 0 else if e = m + 1 ∧ 0 ≤ z ∧ z < 120 then -1 else B.2.2.2.1 e z)
      by_cases q : e = co + 1
      · subst q
        rw [if_neg (by omega), if_neg (by omega), if_pos rfl]
      · rw [if_neg q]
  have g9 : gR (St E (wR (wI (wR B (co + 2) 2 (some (co + 1))) (co + 2) 3 L) (co + 2) 9 (some m))) (E.1 + (co + 2)) 3 9 = some (E.1 + m) := g3_9 h.1 (by rw [wR_3, if_pos ⟨rfl, rfl⟩])
  have em : min L ((1600 : Nat) : Int) = L := by omega
  simp (disch := omega) only [fX3_reads, c3 h.1, some_bind, p3_2 h.1, aN_ok h.2.1, imin_ok, em, p3_3 h.1, p3_9 h.1, g9, s_clear h.2.2, p3_0 h.1, p3_1 h.1, p3_4 h.1, p3_8 h.1, e, s3_adv h D]
  rfl
theorem nkW_of {T : Int → Int} {L w x : Int} {X : Bk} (h6 : X.1 mo 6 = L) (h5 : X.2.2.2.1 (mo + 5) = T) (hw : X.2.1 mo 11 = jI w) : wI X mo 7 x = nkW T L X x (X.1 mo 8) (X.1 mo 9) (X.1 mo 10) w := by
  refine Prod.ext ?_ (Prod.ext ?_ (Prod.ext rfl (Prod.ext ?_ rfl)))
  · funext e j
    show (if e = mo ∧ j = 7 then x else X.1 e j) = (if e = mo ∧ j = 6 then L else if e = mo ∧ j = 7 then x else if e = mo ∧ j = 8 then X.1 mo 8 else if e = mo ∧ j = 9 then X.1 mo 9 else if e = mo ∧ j = 10 then X.1 mo 10 else X.1 e j)
    by_cases q : e = mo
    · subst q
      by_cases j7 : j = 7
      · subst j7
        simp
      · rw [if_neg (fun y => j7 y.2)]
        by_cases j6 : j = 6
        · subst j6
          rw [if_pos ⟨rfl, rfl⟩, h6]
        · rw [if_neg (fun y => j6 y.2), if_neg (fun y => j7 y.2)]
          by_cases j8 : j = 8
          · subst j8
            rw [if_pos ⟨rfl, rfl⟩]
          · rw [if_neg (fun y => j8 y.2)]
            by_cases j9 : j = 9
            · subst j9
              rw [if_pos ⟨rfl, rfl⟩]
            · rw [if_neg (fun y => j9 y.2)]
              by_cases j10 : j = 10
              · subst j10
                rw [if_pos ⟨rfl, rfl⟩]
              · rw [if_neg (fun y => j10 y.2)]
    · rw [if_neg (fun y => q y.1), if_neg (fun y => q y.1), if_neg (fun y => q y.1), if_neg (fun y => q y.1), if_neg (fun y => q y.1), if_neg (fun y => q y.1)]
  · funext e j
    show X.2.1 e j = (if e = mo ∧ j = 11 then jI w else X.2.1 e j)
    by_cases q : e = mo ∧ j = 11
    · rw [if_pos q, q.1, q.2, hw]
    · rw [if_neg q]
  · funext e z
    show X.2.2.2.1 e z = (if e = mo + 5 then T z else X.2.2.2.1 e z)
    by_cases q : e = mo + 5
    · rw [if_pos q, q, h5]
    · rw [if_neg q]
theorem m_start {T : Int → Int} {L : Int} (rm : mKd E mo) (D : TB9 T L) (h6 : B.1 mo 6 = L) (h5 : B.2.2.2.1 (mo + 5) = T) : ∃ t0 : Tg T L, t0.1.1 = 0 ∧ t0.1.2.1 = -1 ∧ t0.1.2.2 = skT T L 0 ∧ fX9_valley (E.1 + mo) (St E B) = (iter (fX9_valley_l13 (E.1 + mo)) FU (St E (ms T L (clM (wI B mo 0 0)) t0))).bind fun r19 => fX9_valley_b71 (E.1 + mo) r19 := by
  have d1 := D.1
  have sb := skT_b (T := T) (L := L) (p := 0) d1.1
  refine ⟨⟨(0, -1, skT T L 0), ⟨by omega, by omega⟩, ⟨sb.1, sb.2⟩⟩, rfl, rfl, rfl, ?_⟩
  obtain ⟨w, w1, w2, hw⟩ := jI_of (B.2.1 mo 11)
  have f6 : (wI (wI (clM (wI B mo 0 0)) mo 12 0) mo 13 (-1)).1 mo 6 = L := by
    rw [wI_1, if_neg (by omega), wI_1, if_neg (by omega)]
    show (wI (wI B mo 0 0) mo 20 0).1 mo 6 = L
    rw [wI_1, if_neg (by omega), wI_1, if_neg (by omega), h6]
  have f5 : (wI (wI (clM (wI B mo 0 0)) mo 12 0) mo 13 (-1)).2.2.2.1 (mo + 5) = T := by
    rw [← h5]
    funext z
    show (if mo + 5 = mo + 6 ∧ z = 4 then 0 else if mo + 5 = mo + 7 ∧ 60 ≤ z ∧ z < 75 then 0 else if mo + 5 = mo + 8 ∧ 480 ≤ z ∧ z < 600 then 0 else if mo + 5 = mo + 9 ∧ 0 ≤ z ∧ z < 120 then -1 else B.2.2.2.1 (mo + 5) z) = _
    rw [if_neg (by omega), if_neg (by omega), if_neg (by omega), if_neg (by omega)]
  have e := nkW_of (x := 0) f6 f5 (w := w) hw
  simp only [fX9_valley, fX9_begins, c9 rm.1, some_bind, p9_0 rm.1, m_clears rm, p9_12 rm.1, p9_13 rm.1, p9_7 rm.1, e, m_next rm D (Int.le_refl 0) d1.1]
  rfl
/-- the end of the reference's reading -/
def ovB {T : Int → Int} {L : Int} (R : Bk) (t : Tg T L) : Bk := wI (wI (wI (ms T L R t) mo 6 0) mo 14 t.1.1) mo 15 (if t.1.1 = 0 then -1 else t.1.2.1)
theorem m_over {T : Int → Int} {L : Int} (rm : mKd E mo) (R : Bk) (t : Tg T L) : fX9_isOver (E.1 + mo) (St E (ms T L R t)) = some (St E (ovB R t)) := by
  have kb := t.2.1
  have e12 : (wI (ms T L R t) mo 6 0).1 mo 12 = t.1.1 := by rw [wI_1, if_neg (by omega), ms_12]
  have e12' : (wI (wI (ms T L R t) mo 6 0) mo 14 t.1.1).1 mo 12 = t.1.1 := by rw [wI_1, if_neg (by omega), e12]
  have e13 : (wI (wI (ms T L R t) mo 6 0) mo 14 t.1.1).1 mo 13 = t.1.2.1 := by rw [wI_1, if_neg (by omega), wI_1, if_neg (by omega), ms_13]
  simp (disch := omega) only [fX9_isOver, fX9_isOver_b29, c9 rm.1, some_bind, p9_6 rm.1, g9_12 rm.1, e12, p9_14 rm.1, e12', iI_0, iI_eq, g9_13 rm.1, e13, p9_15 rm.1]
  unfold ovB
  by_cases q : t.1.1 = 0
  · rw [if_pos q, if_pos q]
  · rw [if_neg q, if_neg q]
end VA
