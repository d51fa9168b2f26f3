/-! the reference's lines, as steps and writes -/
theorem w9_0 : (316452499 : Int64) = jI (cdL 0) := by decide +kernel
theorem w9_1 : (459383 : Int64) = jI (cdL 1) := by decide +kernel
theorem w9_2 : (82528 : Int64) = jI (cdL 2) := by decide +kernel
theorem w9_3 : (173214550 : Int64) = jI (cdL 3) := by decide +kernel
theorem w9_4 : (4562587 : Int64) = jI (cdL 4) := by decide +kernel
theorem w9_5 : (1900846 : Int64) = jI (cdL 5) := by decide +kernel
theorem w9_6 : (10204885 : Int64) = jI (cdL 6) := by decide +kernel
theorem w9_7 : (335207579 : Int64) = jI (cdL 7) := by decide +kernel
theorem w9_8 : (8863997 : Int64) = jI (cdL 8) := by decide +kernel
theorem w9_9 : (459652 : Int64) = jI (cdL 9) := by decide +kernel
theorem w9_10 : (131638 : Int64) = jI (cdL 10) := by decide +kernel
theorem w9_11 : (10497936 : Int64) = jI (cdL 11) := by decide +kernel
theorem w9_12 : (7749089 : Int64) = jI (cdL 12) := by decide +kernel
theorem w9_13 : (99677 : Int64) = jI (cdL 13) := by decide +kernel
theorem w9_14 : (10408481 : Int64) = jI (cdL 14) := by decide +kernel
theorem w9_15 : (456887 : Int64) = jI (cdL 15) := by decide +kernel
theorem w9_16 : (380230 : Int64) = jI (cdL 16) := by decide +kernel
theorem w9_17 : (47 : Int64) = jI (cdL 17) := by decide +kernel
theorem w9_18 : (375088 : Int64) = jI (cdL 18) := by decide +kernel
theorem w9_19 : (5149 : Int64) = jI (cdL 19) := by decide +kernel
theorem w9_20 : (4026394 : Int64) = jI (cdL 20) := by decide +kernel
theorem w9_21 : (90090 : Int64) = jI (cdL 21) := by decide +kernel
theorem w9_22 : (12253591 : Int64) = jI (cdL 22) := by decide +kernel
theorem w9_23 : (119088 : Int64) = jI (cdL 23) := by decide +kernel
theorem w9_24 : (555 : Int64) = jI (cdL 24) := by decide +kernel
theorem w9_25 : (323717 : Int64) = jI (cdL 25) := by decide +kernel
theorem w9_26 : (9757090 : Int64) = jI (cdL 26) := by decide +kernel
theorem w9_27 : (10285048 : Int64) = jI (cdL 27) := by decide +kernel
theorem wdL_ij : ∀ a, a < 28 → ∀ b, b < 28 → wdL a = wdL b → a = b := by decide +kernel
theorem isW_ne {T : Int → Int} {L q : Int} {a b : Nat} (h : isW T L q a) (ha : a < 28) (hb : b < 28) (n : a ≠ b) : ¬ isW T L q b := fun y => n (wdL_ij a ha b hb (h.2.symm.trans y.2))
section ML
variable {T : Int → Int} {L : Int}
def zt1 (t : Tg T L) : Tg T L := mW 1 (mW 0 t)
def zt2 (t : Tg T L) : Tg T L := mW 2 (mN 2 8 (zt1 t))
def zt3 (t : Tg T L) : Tg T L := mW 3 (mN 2 8 (zt2 t))
def zt4 (t : Tg T L) : Tg T L := mW 4 (mN 2 5 (zt3 t))
def zt5 (t : Tg T L) : Tg T L := mW 5 (mN 1 24 (zt4 t))
def zt6 (t : Tg T L) : Tg T L := mN 0 24 (zt5 t)
def ztB (B : Bk) (t : Tg T L) : Bk := wA (wA (wA (wA (wA (wA B (mo + 7) 60 (mV 2 8 (zt1 t))) (mo + 7) 61 (mV 2 8 (zt2 t))) (mo + 7) 62 (mV 2 5 (zt3 t))) (mo + 7) 63 (mV 1 24 (zt4 t))) (mo + 7) 64 (mV 0 24 (zt5 t))) (mo + 7) 66 9
/-- sells: t is behind the word, here as below -/
def sl1 (t : Tg T L) : Tg T L := mW 7 t
def sl2 (n : Int) (t : Tg T L) : Tg T L := mW 8 (mN 0 (n - 1) (sl1 t))
def sl3 (n : Int) (t : Tg T L) : Tg T L := mN 0 99 (sl2 n t)
def stB (B : Bk) (t : Tg T L) : Bk := wA (wA B (mo + 7) 65 (mV 0 (B.2.2.2.1 (mo + 7) 62 - 1) (sl1 t))) (mo + 7) 66 (mV 0 99 (sl2 (B.2.2.2.1 (mo + 7) 62) t))
def mD (t : Tg T L) : Int := if t.1.1 = 0 ∧ isW T L t.1.2.2 11 then 0 else if t.1.1 = 0 ∧ isW T L t.1.2.2 12 then 1 else if t.1.1 = 0 ∧ isW T L t.1.2.2 13 then 2 else if t.1.1 = 0 ∧ isW T L t.1.2.2 14 then 3 else if t.1.1 = 0 ∧ isW T L t.1.2.2 15 then 4 else -1
def mT_ (t : Tg T L) : Tg T L := if mD t = -1 then mF 1 (by omega) t else mA t
def wt1 (n : Int) (t : Tg T L) : Tg T L := mW 10 (mN 1 (n - 1) t)
def wt2 (n h : Int) (t : Tg T L) : Tg T L := mN 0 (h - 1) (wt1 n t)
def wt3 (n h : Int) (t : Tg T L) : Tg T L := mT_ (wt2 n h t)
/-- hours from f to j of a layer are told a wind -/
def wdB (B : Bk) (l f d j : Int) : Bk := (B.1, B.2.1, B.2.2.1, fun e z => if e = mo + 9 ∧ 24 * l + f ≤ z ∧ z < 24 * l + j ∧ B.2.2.2.1 (mo + 9) z ≤ f then f else if e = mo + 8 ∧ 24 * l + f ≤ z - 480 ∧ z - 480 < 24 * l + j ∧ B.2.2.2.1 (mo + 9) (z - 480) ≤ f then d else B.2.2.2.1 e z, B.2.2.2.2)
def wtB (B : Bk) (t : Tg T L) : Bk := if mD (wt2 (B.2.2.2.1 (mo + 7) 62) (B.2.2.2.1 (mo + 7) 63) t) = -1 then B else wdB (wI B mo 20 (B.1 mo 20 + 1)) (mV 1 (B.2.2.2.1 (mo + 7) 62 - 1) t) (mV 0 (B.2.2.2.1 (mo + 7) 63 - 1) (wt1 (B.2.2.2.1 (mo + 7) 62) t)) (mD (wt2 (B.2.2.2.1 (mo + 7) 62) (B.2.2.2.1 (mo + 7) 63) t)) 24
theorem mD_b (t : Tg T L) : -1 ≤ mD t ∧ mD t ≤ 4 := by
  unfold mD
  repeat' split
  all_goals omega
theorem mD_k {t : Tg T L} (h : mD t ≠ -1) : t.1.1 = 0 := by
  by_cases c : t.1.1 = 0
  · exact c
  · refine absurd ?_ h
    unfold mD
    rw [if_neg (fun y => c y.1), if_neg (fun y => c y.1), if_neg (fun y => c y.1), if_neg (fun y => c y.1), if_neg (fun y => c y.1)]
theorem mF_k {f : Int} (hf : 0 ≤ f ∧ f ≤ 3) (h0 : f ≠ 0) (s : Tg T L) : ¬ (mF f hf s).1.1 = 0 := by
  show ¬ (if s.1.1 = 0 then f else s.1.1) = 0
  split
  · exact h0
  · assumption
theorem mW_g {k : Nat} {s : Tg T L} (h : (mW k s).1.1 = 0) : s.1.1 = 0 := by
  unfold mW at h
  by_cases c : s.1.1 = 0 ∧ isW T L s.1.2.2 k
  · exact c.1
  · rw [if_neg c] at h
    exact absurd h (mF_k _ (by omega) s)
theorem mN_g {lo hi : Int} {s : Tg T L} (h : (mN lo hi s).1.1 = 0) : s.1.1 = 0 ∧ lo ≤ mV lo hi s ∧ mV lo hi s ≤ hi := by
  unfold mN at h
  by_cases c0 : s.1.1 = 0
  · rw [if_pos c0] at h
    by_cases c : kdT T L s.1.2.2 = 2
    · rw [if_pos c] at h
      by_cases c2 : lo ≤ vl9 T L s.1.2.2 ∧ vl9 T L s.1.2.2 ≤ hi
      · have e : mV lo hi s = vl9 T L s.1.2.2 := if_pos ⟨c0, c, c2⟩
        rw [e]
        exact ⟨c0, c2⟩
      · rw [if_neg c2] at h
        exact absurd h (mF_k _ (by omega) s)
    · rw [if_neg c] at h
      exact absurd h (mF_k _ (by omega) s)
  · rw [if_neg c0] at h
    exact absurd h c0
theorem mV_b {lo hi : Int} (s : Tg T L) (l0 : 0 ≤ lo) : lo ≤ mV lo hi s ∧ mV lo hi s ≤ max lo 1000009 := by
  have b := vl9_b (T := T) s.2.2.2
  unfold mV
  split <;> omega
/-- shop -/
def ht1 (t : Tg T L) : Tg T L := mW 17 t
def ht2 (w : Int) (t : Tg T L) : Tg T L := mN 0 (w - 1) (ht1 t)
def ht3 (w d : Int) (t : Tg T L) : Tg T L := mN 0 (d - 1) (ht2 w t)
def ht4 (w d n : Int) (t : Tg T L) : Tg T L := mW 18 (mN 0 (n - 1) (ht3 w d t))
def ht5 (w d n : Int) (t : Tg T L) : Tg T L := mW 19 (mN 0 9 (ht4 w d n t))
def ht6 (w d n : Int) (t : Tg T L) : Tg T L := mW 20 (mN 0 9 (ht5 w d n t))
def ht7 (w d n : Int) (t : Tg T L) : Tg T L := mN 0 9 (ht6 w d n t)
/-- h hours of the plan of the shop k of block 4 are laid -/
def pcB (B : Bk) (c h : Int) : Bk := (B.1, B.2.1, B.2.2.1, fun e z => if e = mo + 12 ∧ 24 * (16 + c) ≤ z ∧ z < 24 * (16 + c) + h then 0 else B.2.2.2.1 e z, B.2.2.2.2)
def htC (B : Bk) (c w d n : Int) (t : Tg T L) : Bk := wA (wA (wA (wA (wA (wA B (mo + 10) (6 * (16 + c)) (mV 0 (w - 1) (ht1 t))) (mo + 10) (6 * (16 + c) + 1) (mV 0 (d - 1) (ht2 w t))) (mo + 10) (6 * (16 + c) + 2) (mV 0 (n - 1) (ht3 w d t))) (mo + 10) (6 * (16 + c) + 3) (mV 0 9 (ht4 w d n t))) (mo + 10) (6 * (16 + c) + 4) (mV 0 9 (ht5 w d n t))) (mo + 10) (6 * (16 + c) + 5) (mV 0 9 (ht6 w d n t))
def htB (B : Bk) (c w d n : Int) (t : Tg T L) : Bk := wA (pcB (htC B c w d n t) c 24) (mo + 7) 67 (c + 1)
/-- door -/
def dt1 (t : Tg T L) : Tg T L := mW 17 t
def dt2 (w : Int) (t : Tg T L) : Tg T L := mN 0 (w - 1) (dt1 t)
abbrev dtP (B : Bk) (x y : Int) (i : Int) : Prop := B.2.2.2.1 (mo + 11) (3 * (20 + i)) = x ∧ B.2.2.2.1 (mo + 11) (3 * (20 + i) + 1) = y
def dt3 (B : Bk) (c w d : Int) (t : Tg T L) : Tg T L := if ((dt2 w t).1.1 = 0 ∧ kdT T L (dt2 w t).1.2.2 = 2 ∧ vl9 T L (dt2 w t).1.2.2 < d) ∧ lf (dtP B (mV 0 (w - 1) (dt1 t)) (vl9 T L (dt2 w t).1.2.2)) c.toNat 0 < c then mF 2 (by omega) (dt2 w t) else dt2 w t
def dt4 (B : Bk) (c w d : Int) (t : Tg T L) : Tg T L := mW 22 (mN 0 (d - 1) (dt3 B c w d t))
def dt5 (B : Bk) (c w d : Int) (t : Tg T L) : Tg T L := mN 0 9 (dt4 B c w d t)
def dtB (B : Bk) (c w d : Int) (t : Tg T L) : Bk := wA (wA (wA (wA B (mo + 11) (3 * (20 + c)) (mV 0 (w - 1) (dt1 t))) (mo + 11) (3 * (20 + c) + 1) (mV 0 (d - 1) (dt3 B c w d t))) (mo + 11) (3 * (20 + c) + 2) (mV 0 9 (dt4 B c w d t))) (mo + 7) 68 (c + 1)
/-- fair -/
def ft1 (t : Tg T L) : Tg T L := mW 17 t
def ft2 (w : Int) (t : Tg T L) : Tg T L := mN 0 (w - 1) (ft1 t)
def ft3 (w d : Int) (t : Tg T L) : Tg T L := mW 10 (mN 0 (d - 1) (ft2 w t))
def ft4 (w d h : Int) (t : Tg T L) : Tg T L := mW 24 (mN 0 (h - 1) (ft3 w d t))
def ft5 (w d h : Int) (t : Tg T L) : Tg T L := mN (mV 0 (h - 1) (ft3 w d t)) (h - 1) (ft4 w d h t)
def ftB (B : Bk) (w d h : Int) (t : Tg T L) : Bk := if (ft5 w d h t).1.1 = 0 then wA (wA (wA (wA (wA B (mo + 7) 69 1) (mo + 7) 70 (mV 0 (w - 1) (ft1 t))) (mo + 7) 71 (mV 0 (d - 1) (ft2 w t))) (mo + 7) 72 (mV 0 (h - 1) (ft3 w d t))) (mo + 7) 73 (mV (mV 0 (h - 1) (ft3 w d t)) (h - 1) (ft4 w d h t)) else B
/-- plan -/
def pt1 (n : Int) (t : Tg T L) : Tg T L := mN 0 (n - 1) t
def pt2 (n h : Int) (t : Tg T L) : Tg T L := mN 0 (h - 1) (pt1 n t)
def pta (t : Tg T L) : Int := if t.1.1 = 0 ∧ isW T L t.1.2.2 26 then 1 else if t.1.1 = 0 ∧ isW T L t.1.2.2 27 then 2 else -1
def pt3 (n h : Int) (t : Tg T L) : Tg T L := if pta (pt2 n h t) = -1 then mF 1 (by omega) (pt2 n h t) else mA (pt2 n h t)
def ptB (B : Bk) (n h : Int) (t : Tg T L) : Bk := if pta (pt2 n h t) = -1 then B else wA B (mo + 12) (24 * (16 + mV 0 (n - 1) t) + mV 0 (h - 1) (pt1 n t)) (pta (pt2 n h t))
theorem pta_b (t : Tg T L) : -1 ≤ pta t ∧ pta t ≤ 2 := by
  unfold pta
  repeat' split
  all_goals omega
theorem pta_k {t : Tg T L} (h : pta t ≠ -1) : t.1.1 = 0 := by
  by_cases c : t.1.1 = 0
  · exact c
  · refine absurd ?_ h
    unfold pta
    rw [if_neg (fun y => c y.1), if_neg (fun y => c y.1)]
end ML
section MM
variable {E : Ev} {B : Bk} {T : Int → Int} {L : Int}
theorem m_first (rm : mKd E mo) (D : TB9 T L) (t : Tg T L) : fX9_first (E.1 + mo) (St E (ms T L B t)) = some (St E (ms T L (ztB B t) (zt6 t))) := by
  simp (disch := omega) only [fX9_first, c9 rm.1, some_bind, ms_asks w9_0 rm D, ms_num_ w9_1 rm D, ms_num_ w9_2 rm D, ms_num_ w9_3 rm D, ms_num_ w9_4 rm D, ms_num_ w9_5 rm D, ms_reads rm]
  rfl
/-- sizes that are read, and counts, keep their bounds -/
def HR_ (B : Bk) : Prop := (0 ≤ B.2.2.2.1 (mo + 7) 60 ∧ B.2.2.2.1 (mo + 7) 60 ≤ 8) ∧ (0 ≤ B.2.2.2.1 (mo + 7) 61 ∧ B.2.2.2.1 (mo + 7) 61 ≤ 8) ∧ (0 ≤ B.2.2.2.1 (mo + 7) 62 ∧ B.2.2.2.1 (mo + 7) 62 ≤ 5) ∧ (0 ≤ B.2.2.2.1 (mo + 7) 63 ∧ B.2.2.2.1 (mo + 7) 63 ≤ 24) ∧ (0 ≤ B.2.2.2.1 (mo + 7) 67 ∧ B.2.2.2.1 (mo + 7) 67 ≤ 4) ∧ (0 ≤ B.2.2.2.1 (mo + 7) 68 ∧ B.2.2.2.1 (mo + 7) 68 ≤ 5)
theorem ms_xH (rm : mKd E mo) (D : TB9 T L) (h : 0 ≤ B.2.2.2.1 (mo + 7) 60 ∧ B.2.2.2.1 (mo + 7) 60 ≤ 8) (t : Tg T L) : fX9_xHere (E.1 + mo) (St E (ms T L B t)) = some (iI (mV 0 (B.2.2.2.1 (mo + 7) 60 - 1) t), St E (ms T L B (mN 0 (B.2.2.2.1 (mo + 7) 60 - 1) t))) := by
  simp (disch := omega) only [fX9_xHere, c9 rm.1, some_bind, ms_hasRead rm, Int.add_zero, iI_sub, ms_num rm D]
theorem ms_yH (rm : mKd E mo) (D : TB9 T L) (h : 0 ≤ B.2.2.2.1 (mo + 7) 61 ∧ B.2.2.2.1 (mo + 7) 61 ≤ 8) (t : Tg T L) : fX9_yHere (E.1 + mo) (St E (ms T L B t)) = some (iI (mV 0 (B.2.2.2.1 (mo + 7) 61 - 1) t), St E (ms T L B (mN 0 (B.2.2.2.1 (mo + 7) 61 - 1) t))) := by
  have e : (60 : Int) + 1 = 61 := rfl
  simp (disch := omega) only [fX9_yHere, c9 rm.1, some_bind, ms_hasRead rm, e, iI_sub, ms_num rm D]
theorem ms_hH (rm : mKd E mo) (D : TB9 T L) (h : 0 ≤ B.2.2.2.1 (mo + 7) 63 ∧ B.2.2.2.1 (mo + 7) 63 ≤ 24) (t : Tg T L) : fX9_hourHere (E.1 + mo) (St E (ms T L B t)) = some (iI (mV 0 (B.2.2.2.1 (mo + 7) 63 - 1) t), St E (ms T L B (mN 0 (B.2.2.2.1 (mo + 7) 63 - 1) t))) := by
  have e : (60 : Int) + 3 = 63 := rfl
  simp (disch := omega) only [fX9_hourHere, c9 rm.1, some_bind, ms_hasRead rm, e, iI_sub, ms_num rm D]
theorem m_wloop {l f d : Int} (rm : mKd E mo) (l0 : 0 ≤ l) (l1 : l < 5) (f0 : 0 ≤ f) (f1 : f < 24) (hs : ∀ z, 0 ≤ z → z < 120 → -1 ≤ B.2.2.2.1 (mo + 9) z ∧ B.2.2.2.1 (mo + 9) z ≤ 23) (t : Tg T L) : iter (fX9_windLine_l132 (E.1 + mo) (iI l) (iI f) (iI d)) FU (iI f, St E (ms T L B t)) = some (St E (ms T L (wdB B l f d 24) t)) := by
  have hmo : mo = 58 := rfl
  have b0 : wdB B l f d f = B := by
    refine Prod.ext rfl (Prod.ext rfl (Prod.ext rfl (Prod.ext ?_ rfl)))
    funext e z
    show (if e = mo + 9 ∧ 24 * l + f ≤ z ∧ z < 24 * l + f ∧ B.2.2.2.1 (mo + 9) z ≤ f then f else if e = mo + 8 ∧ 24 * l + f ≤ z - 480 ∧ z - 480 < 24 * l + f ∧ B.2.2.2.1 (mo + 9) (z - 480) ≤ f then d else B.2.2.2.1 e z) = _
    rw [if_neg (by omega), if_neg (by omega)]
  have key := iter_for (F := fX9_windLine_l132 (E.1 + mo) (iI l) (iI f) (iI d)) (fun j => (iI j, St E (ms T L (wdB B l f d j) t))) f 24 (St E (ms T L (wdB B l f d 24) t)) (fun j j0 j1 => by
    have r9 : ∀ j : Int, (wdB B l f d j).2.2.2.1 (mo + 9) = fun z => if 24 * l + f ≤ z ∧ z < 24 * l + j ∧ B.2.2.2.1 (mo + 9) z ≤ f then f else B.2.2.2.1 (mo + 9) z := fun j => by
      funext z
      show (if mo + 9 = mo + 9 ∧ 24 * l + f ≤ z ∧ z < 24 * l + j ∧ B.2.2.2.1 (mo + 9) z ≤ f then f else if mo + 9 = mo + 8 ∧ 24 * l + f ≤ z - 480 ∧ z - 480 < 24 * l + j ∧ B.2.2.2.1 (mo + 9) (z - 480) ≤ f then d else B.2.2.2.1 (mo + 9) z) = _
      by_cases q : 24 * l + f ≤ z ∧ z < 24 * l + j ∧ B.2.2.2.1 (mo + 9) z ≤ f
      · rw [if_pos ⟨rfl, q⟩, if_pos q]
      · rw [if_neg (fun y => q y.2), if_neg (by omega), if_neg q]
    have e9 : (wdB B l f d j).2.2.2.1 (mo + 9) (24 * l + j) = B.2.2.2.1 (mo + 9) (24 * l + j) := by
      rw [r9]
      exact if_neg (by omega)
    have bb := hs (24 * l + j) (by omega) (by omega)
    have r8 : ∀ x, (wA (wdB B l f d j) (mo + 9) (24 * l + j) x).1 = (wdB B l f d j).1 := fun x => rfl
    simp (disch := omega) only [fX9_windLine_l132, fX9_windLine_b182, iI_le, lt_, iI_mul, iI_add, g9_19 rm.1, some_bind, aI_ok (mk9 rm), ms_r (e := mo + 9) (show mo + 9 ≠ mo + 5 by omega), e9, sI_ok (mk9 rm), ms_wA, g9_18 rm.1, sI_ok (mk8 rm)]
    rw [if_neg (by omega)]
    by_cases c : B.2.2.2.1 (mo + 9) (24 * l + j) ≤ f
    · rw [if_pos c]
      have e : wA (wA (wdB B l f d j) (mo + 9) (24 * l + j) f) (mo + 8) (480 + (24 * l + j)) d = wdB B l f d (j + 1) := by
        refine Prod.ext rfl (Prod.ext rfl (Prod.ext rfl (Prod.ext ?_ rfl)))
        funext e z
        show (if e = mo + 8 ∧ z = 480 + (24 * l + j) then d else if e = mo + 9 ∧ z = 24 * l + j then f else if e = mo + 9 ∧ 24 * l + f ≤ z ∧ z < 24 * l + j ∧ B.2.2.2.1 (mo + 9) z ≤ f then f else if e = mo + 8 ∧ 24 * l + f ≤ z - 480 ∧ z - 480 < 24 * l + j ∧ B.2.2.2.1 (mo + 9) (z - 480) ≤ f then d else B.2.2.2.1 e z) = (if e = mo + 9 ∧ 24 * l + f ≤ z ∧ z < 24 * l + (j + 1) ∧ B.2.2.2.1 (mo + 9) z ≤ f then f else if e = mo + 8 ∧ 24 * l + f ≤ z - 480 ∧ z - 480 < 24 * l + (j + 1) ∧ B.2.2.2.1 (mo + 9) (z - 480) ≤ f then d else B.2.2.2.1 e z)
        by_cases q1 : z = 24 * l + j
        · subst q1
          repeat' split
          all_goals first | rfl | (exfalso; omega)
        · by_cases q2 : z = 480 + (24 * l + j)
          · subst q2
            rw [show 480 + (24 * l + j) - 480 = 24 * l + j by omega]
            repeat' split
            all_goals first | rfl | (exfalso; omega)
          · repeat' split
            all_goals first | rfl | (exfalso; omega)
      rw [e]
    · rw [if_neg c]
      have e : wdB B l f d j = wdB B l f d (j + 1) := by
        refine Prod.ext rfl (Prod.ext rfl (Prod.ext rfl (Prod.ext ?_ rfl)))
        funext e z
        show (if e = mo + 9 ∧ 24 * l + f ≤ z ∧ z < 24 * l + j ∧ B.2.2.2.1 (mo + 9) z ≤ f then f else if e = mo + 8 ∧ 24 * l + f ≤ z - 480 ∧ z - 480 < 24 * l + j ∧ B.2.2.2.1 (mo + 9) (z - 480) ≤ f then d else B.2.2.2.1 e z) = (if e = mo + 9 ∧ 24 * l + f ≤ z ∧ z < 24 * l + (j + 1) ∧ B.2.2.2.1 (mo + 9) z ≤ f then f else if e = mo + 8 ∧ 24 * l + f ≤ z - 480 ∧ z - 480 < 24 * l + (j + 1) ∧ B.2.2.2.1 (mo + 9) (z - 480) ≤ f then d else B.2.2.2.1 e z)
        by_cases q1 : z = 24 * l + j
        · subst q1
          repeat' split
          all_goals first | rfl | (exfalso; omega)
        · by_cases q2 : z - 480 = 24 * l + j
          · rw [q2]
            repeat' split
            all_goals first | rfl | (exfalso; omega)
          · repeat' split
            all_goals first | rfl | (exfalso; omega)
      rw [← e]) (by
    simp (disch := omega) only [fX9_windLine_l132, iI_le]
    rw [if_pos (by omega)]) (by omega) (N := FU) (by have := FU_big (n := 24) (by omega); omega)
  rw [b0] at key
  exact key
theorem m_wind (rm : mKd E mo) (D : TB9 T L) (H : HR_ B) (hn : 0 ≤ B.1 mo 20 ∧ B.1 mo 20 ≤ 20) (hs : ∀ z, 0 ≤ z → z < 120 → -1 ≤ B.2.2.2.1 (mo + 9) z ∧ B.2.2.2.1 (mo + 9) z ≤ 23) (t : Tg T L) : fX9_windLine (E.1 + mo) (St E (ms T L B t)) = some (St E (ms T L (wtB B t) (wt3 (B.2.2.2.1 (mo + 7) 62) (B.2.2.2.1 (mo + 7) 63) t))) := by
  have hmo : mo = 58 := rfl
  obtain ⟨b0, b1, b2, b3, b7, b8⟩ := H
  have e2 : (60 : Int) + 2 = 62 := rfl
  have v1 := mV_b (lo := 1) (hi := B.2.2.2.1 (mo + 7) 62 - 1) t (by omega)
  have v2 := mV_b (lo := 0) (hi := B.2.2.2.1 (mo + 7) 63 - 1) (wt1 (B.2.2.2.1 (mo + 7) 62) t) (by omega)
  have b96 : ∀ d : Int, d = mD (wt2 (B.2.2.2.1 (mo + 7) 62) (B.2.2.2.1 (mo + 7) 63) t) → fX9_windLine_b96 (E.1 + mo) (iI (mV 1 (B.2.2.2.1 (mo + 7) 62 - 1) t)) (iI (mV 0 (B.2.2.2.1 (mo + 7) 63 - 1) (wt1 (B.2.2.2.1 (mo + 7) 62) t))) (iI d) (St E (ms T L B (wt2 (B.2.2.2.1 (mo + 7) 62) (B.2.2.2.1 (mo + 7) 63) t))) = some (St E (ms T L (wtB B t) (wt3 (B.2.2.2.1 (mo + 7) 62) (B.2.2.2.1 (mo + 7) 63) t))) := fun d hd => by
    subst hd
    have db := mD_b (wt2 (B.2.2.2.1 (mo + 7) 62) (B.2.2.2.1 (mo + 7) 63) t)
    have kb := (wt2 (B.2.2.2.1 (mo + 7) 62) (B.2.2.2.1 (mo + 7) 63) t).2.1
    have fb := (mF 1 (by omega) (wt2 (B.2.2.2.1 (mo + 7) 62) (B.2.2.2.1 (mo + 7) 63) t)).2.1
    simp (disch := omega) only [fX9_windLine_b96, fX9_windLine_b107, iI_eq, ms_fails rm, some_bind, g9_12 rm.1, ms_12, iI_0, ms_next rm D, g9_20 rm.1, ms_i, iI_add, p9_20 rm.1, ms_wI]
    by_cases c : mD (wt2 (B.2.2.2.1 (mo + 7) 62) (B.2.2.2.1 (mo + 7) 63) t) = -1
    · have f1 := mF_k (f := 1) (by omega) (by omega) (wt2 (B.2.2.2.1 (mo + 7) 62) (B.2.2.2.1 (mo + 7) 63) t)
      rw [if_pos c, if_neg f1]
      have e1 : wtB B t = B := if_pos c
      have e2 : wt3 (B.2.2.2.1 (mo + 7) 62) (B.2.2.2.1 (mo + 7) 63) t = _ := if_pos c
      rw [e1, e2]
    · have k2 := mD_k c
      obtain ⟨k1, g2, g3⟩ := mN_g k2
      obtain ⟨k0, g5, g6⟩ := mN_g (mW_g k1)
      have lp := m_wloop (B := wI B mo 20 (B.1 mo 20 + 1)) (l := mV 1 (B.2.2.2.1 (mo + 7) 62 - 1) t) (f := mV 0 (B.2.2.2.1 (mo + 7) 63 - 1) (wt1 (B.2.2.2.1 (mo + 7) 62) t)) (d := mD (wt2 (B.2.2.2.1 (mo + 7) 62) (B.2.2.2.1 (mo + 7) 63) t)) rm (by omega) (by omega) g2 (by omega) (fun z z0 z1 => hs z z0 z1) (mA (wt2 (B.2.2.2.1 (mo + 7) 62) (B.2.2.2.1 (mo + 7) 63) t))
      rw [if_neg c, if_pos k2, lp, some_bind]
      have e1 : wtB B t = _ := if_neg c
      have e2 : wt3 (B.2.2.2.1 (mo + 7) 62) (B.2.2.2.1 (mo + 7) 63) t = _ := if_neg c
      rw [e1, e2]
  simp (disch := omega) only [fX9_windLine, c9 rm.1, some_bind, ms_hasRead rm, e2, iI_sub, ms_num rm D, ms_asks w9_10 rm D, ms_hH rm D b3, ms_is w9_11 rm, ms_is w9_12 rm, ms_is w9_13 rm, ms_is w9_14 rm, ms_is w9_15 rm, iI_0, ib]
  have E0 : mD (wt2 (B.2.2.2.1 (mo + 7) 62) (B.2.2.2.1 (mo + 7) 63) t) = _ := rfl
  unfold mD at E0
  repeat' split
  all_goals (refine b96 _ ?_; unfold mD)
  · rw [if_pos (by assumption)]
  · rw [if_neg (by assumption), if_pos (by assumption)]
  · rw [if_neg (by assumption), if_neg (by assumption), if_pos (by assumption)]
  · rw [if_neg (by assumption), if_neg (by assumption), if_neg (by assumption), if_pos (by assumption)]
  · rw [if_neg (by assumption), if_neg (by assumption), if_neg (by assumption), if_neg (by assumption), if_pos (by assumption)]
  · rw [if_neg (by assumption), if_neg (by assumption), if_neg (by assumption), if_neg (by assumption), if_neg (by assumption)]
end MM
