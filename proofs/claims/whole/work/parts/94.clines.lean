/-! the class's lines, as steps and writes -/
section CL
variable {T : Int → Int} {L : Int}
theorem cA_k (s : Sg T L) : (cA s).1.1 = s.1.1 := rfl
theorem cF_k {f pl : Int} (hf : 0 ≤ f ∧ f ≤ 3) (h0 : f ≠ 0) (s : Sg T L) : ¬ (cF f pl hf s).1.1 = 0 := by
  show ¬ (if s.1.1 = 0 then f else s.1.1) = 0
  split
  · exact h0
  · assumption
theorem cW_g {k : Nat} {s : Sg T L} (h : (cW k s).1.1 = 0) : s.1.1 = 0 ∧ isW T L s.1.2.2.1 k := by
  unfold cW at h
  by_cases c : isW T L s.1.2.2.1 k
  · rw [if_pos c] at h
    exact ⟨h, c⟩
  · rw [if_neg c] at h
    exact absurd h (cF_k _ (by omega) s)
theorem cG_g {s : Sg T L} (h : (cG s).1.1 = 0) : s.1.1 = 0 ∧ kdT T L s.1.2.2.1 = 3 := by
  unfold cG at h
  by_cases c : kdT T L s.1.2.2.1 = 3
  · rw [if_pos c] at h
    exact ⟨h, c⟩
  · rw [if_neg c] at h
    exact absurd h (cF_k _ (by omega) s)
theorem cN_g {lo hi : Int} {s : Sg T L} (h : (cN lo hi s).1.1 = 0) : s.1.1 = 0 ∧ lo ≤ cV lo hi s ∧ cV lo hi s ≤ hi := by
  have e : cV lo hi s = s.1.2.2.2 := if_pos h
  rw [e]
  unfold cN at h
  by_cases c : kdT T L s.1.2.2.1 = 2
  · rw [if_pos c] at h
    by_cases c2 : lo ≤ s.1.2.2.2 ∧ s.1.2.2.2 ≤ hi
    · rw [if_pos c2] at h
      exact ⟨h, c2⟩
    · rw [if_neg c2] at h
      exact absurd h (cF_k _ (by omega) s)
  · rw [if_neg c] at h
    exact absurd h (cF_k _ (by omega) s)
theorem cV_b {lo hi : Int} (s : Sg T L) : 0 ≤ cV lo hi s ∧ cV lo hi s ≤ 1000000 := by
  obtain ⟨h1, h2, h3, h4⟩ := s.2
  unfold cV
  split
  · exact h3
  · omega
/-- the first line -/
def zs1 (s : Sg T L) : Sg T L := cW 1 (cW 0 s)
def zs2 (s : Sg T L) : Sg T L := cW 2 (cN 2 8 (zs1 s))
def zs3 (s : Sg T L) : Sg T L := cW 3 (cN 2 8 (zs2 s))
def zs4 (s : Sg T L) : Sg T L := cW 4 (cN 2 5 (zs3 s))
def zs5 (s : Sg T L) : Sg T L := cW 5 (cN 1 24 (zs4 s))
def zs6 (s : Sg T L) : Sg T L := cN 0 24 (zs5 s)
def zsB (m : Nat) (B : Bk) (s : Sg T L) : Bk := wI (wI (wI (wI (wI (wI B m 1 (cV 2 8 (zs1 s))) m 2 (cV 2 8 (zs2 s))) m 3 (cV 2 5 (zs3 s))) m 4 (cV 1 24 (zs4 s))) m 5 (cV 0 24 (zs5 s))) m 7 9
/-- sells -/
def se1 (s : Sg T L) : Sg T L := cW 7 (cA s)
def se2 (n : Int) (s : Sg T L) : Sg T L := cW 8 (cN 0 (n - 1) (se1 s))
def se3 (n : Int) (s : Sg T L) : Sg T L := cN 0 99 (se2 n s)
def sl_B (m : Nat) (B : Bk) (s : Sg T L) : Bk := wI (wI B m 6 (cV 0 (B.1 m 3 - 1) (se1 s))) m 7 (cV 0 99 (se2 (B.1 m 3) s))
/-- wind: s is behind the word -/
def cD (s : Sg T L) : Int := if isW T L s.1.2.2.1 11 then 0 else if isW T L s.1.2.2.1 12 then 1 else if isW T L s.1.2.2.1 13 then 2 else if isW T L s.1.2.2.1 14 then 3 else if isW T L s.1.2.2.1 15 then 4 else -1
def cT (s : Sg T L) : Sg T L := if cD s = -1 then cF 1 s.1.2.2.1 (by omega) s else cA s
def wi1 (n : Int) (s : Sg T L) : Sg T L := cW 10 (cN 1 (n - 1) (cA s))
def wi2 (n h : Int) (s : Sg T L) : Sg T L := cN 0 (h - 1) (wi1 n s)
def wi3 (n h : Int) (s : Sg T L) : Sg T L := cT (wi2 n h s)
def wiB (m : Nat) (B : Bk) (s : Sg T L) : Bk := if (wi3 (B.1 m 3) (B.1 m 4) s).1.1 = 0 then wA (wI B (co + 2) 8 (B.1 (co + 2) 8 + 1)) (m + 1) (cV 1 (B.1 m 3 - 1) (cA s) * 24 + cV 0 (B.1 m 4 - 1) (wi1 (B.1 m 3) s)) (cD (wi2 (B.1 m 3) (B.1 m 4) s)) else wI B (co + 2) 8 (B.1 (co + 2) 8 + 1)
theorem cD_b (s : Sg T L) : -1 ≤ cD s ∧ cD s ≤ 4 := by
  unfold cD
  repeat' split
  all_goals omega
/-- shop -/
def sh1 (s : Sg T L) : Sg T L := cW 17 (cA s)
def sh2 (w : Int) (s : Sg T L) : Sg T L := cN 0 (w - 1) (sh1 s)
def sh3 (w d : Int) (s : Sg T L) : Sg T L := cN 0 (d - 1) (sh2 w s)
def sh4 (w d n : Int) (s : Sg T L) : Sg T L := cW 18 (cN 0 (n - 1) (sh3 w d s))
def sh5 (w d n : Int) (s : Sg T L) : Sg T L := cW 19 (cN 0 9 (sh4 w d n s))
def sh6 (w d n : Int) (s : Sg T L) : Sg T L := cW 20 (cN 0 9 (sh5 w d n s))
def sh7 (w d n : Int) (s : Sg T L) : Sg T L := cN 0 9 (sh6 w d n s)
def shB (m : Nat) (B : Bk) (s : Sg T L) : Bk := if (sh7 (B.1 m 1) (B.1 m 2) (B.1 m 3) s).1.1 = 0 then wI (wA (wA (wA (wA (wA (wA B (m + 2) (B.1 m 8 * 6 + 0) (cV 0 (B.1 m 1 - 1) (sh1 s))) (m + 2) (B.1 m 8 * 6 + 1) (cV 0 (B.1 m 2 - 1) (sh2 (B.1 m 1) s))) (m + 2) (B.1 m 8 * 6 + 2) (cV 0 (B.1 m 3 - 1) (sh3 (B.1 m 1) (B.1 m 2) s))) (m + 2) (B.1 m 8 * 6 + 3) (cV 0 9 (sh4 (B.1 m 1) (B.1 m 2) (B.1 m 3) s))) (m + 2) (B.1 m 8 * 6 + 4) (cV 0 9 (sh5 (B.1 m 1) (B.1 m 2) (B.1 m 3) s))) (m + 2) (B.1 m 8 * 6 + 5) (cV 0 9 (sh6 (B.1 m 1) (B.1 m 2) (B.1 m 3) s))) m 8 (B.1 m 8 + 1) else B
/-- door -/
def do1 (s : Sg T L) : Sg T L := cW 17 (cA s)
def do2 (w : Int) (s : Sg T L) : Sg T L := cN 0 (w - 1) (do1 s)
def do3 (w d : Int) (s : Sg T L) : Sg T L := cN 0 (d - 1) (do2 w s)
def do4 (m : Nat) (B : Bk) (s : Sg T L) : Sg T L := if drAt B m (cV 0 (B.1 m 2 - 1) (do2 (B.1 m 1) s) * 8 + cV 0 (B.1 m 1 - 1) (do1 s)) = -1 then do3 (B.1 m 1) (B.1 m 2) s else cF 2 (do2 (B.1 m 1) s).1.2.2.1 (by omega) (do3 (B.1 m 1) (B.1 m 2) s)
def do5 (m : Nat) (B : Bk) (s : Sg T L) : Sg T L := cW 22 (do4 m B s)
def do6 (m : Nat) (B : Bk) (s : Sg T L) : Sg T L := cN 0 9 (do5 m B s)
def doB (m : Nat) (B : Bk) (s : Sg T L) : Bk := if (do6 m B s).1.1 = 0 then wI (wA (wA (wA B (m + 3) (B.1 m 9 * 3 + 0) (cV 0 (B.1 m 1 - 1) (do1 s))) (m + 3) (B.1 m 9 * 3 + 1) (cV 0 (B.1 m 2 - 1) (do2 (B.1 m 1) s))) (m + 3) (B.1 m 9 * 3 + 2) (cV 0 9 (do5 m B s))) m 9 (B.1 m 9 + 1) else B
/-- fair -/
def fa1 (s : Sg T L) : Sg T L := cW 17 (cA s)
def fa2 (w : Int) (s : Sg T L) : Sg T L := cN 0 (w - 1) (fa1 s)
def fa3 (w d : Int) (s : Sg T L) : Sg T L := cW 10 (cN 0 (d - 1) (fa2 w s))
def fa4 (w d h : Int) (s : Sg T L) : Sg T L := cW 24 (cN 0 (h - 1) (fa3 w d s))
def fa5 (w d h : Int) (s : Sg T L) : Sg T L := cN (cV 0 (h - 1) (fa3 w d s)) (h - 1) (fa4 w d h s)
def faB (m : Nat) (B : Bk) (s : Sg T L) : Bk := wI (wI (wI B m 10 (cV 0 (B.1 m 2 - 1) (fa2 (B.1 m 1) s) * 8 + cV 0 (B.1 m 1 - 1) (fa1 s))) m 11 (cV 0 (B.1 m 4 - 1) (fa3 (B.1 m 1) (B.1 m 2) s))) m 12 (cV (cV 0 (B.1 m 4 - 1) (fa3 (B.1 m 1) (B.1 m 2) s)) (B.1 m 4 - 1) (fa4 (B.1 m 1) (B.1 m 2) (B.1 m 4) s))
/-- plan -/
def pl1 (n : Int) (s : Sg T L) : Sg T L := cN 0 (n - 1) (cA s)
def pl2 (n h : Int) (s : Sg T L) : Sg T L := cN 0 (h - 1) (pl1 n s)
def pl3 (n h : Int) (s : Sg T L) : Sg T L := if isW T L (pl2 n h s).1.2.2.1 26 then cW 26 (pl2 n h s) else cW 27 (pl2 n h s)
def plV (n h : Int) (s : Sg T L) : Int := if isW T L (pl2 n h s).1.2.2.1 26 then 1 else 2
def pn_B (m : Nat) (B : Bk) (s : Sg T L) : Bk := if (pl3 (B.1 m 8) (B.1 m 4) s).1.1 = 0 then wA B (m + 4) (cV 0 (B.1 m 8 - 1) (cA s) * 24 + cV 0 (B.1 m 4 - 1) (pl1 (B.1 m 8) s)) (plV (B.1 m 8) (B.1 m 4) s) else B
end CL
section CM
variable {E : Ev} {B : Bk} {K : Nat → Nat} {T : Int → Int} {L : Int} {m : Nat}
theorem c_sizes (S : STR E K) (h : RDK E m) (D : TB9 T L) (hm : 20 ≤ m) (s : Sg T L) : fX3_readSizes K (E.1 + (co + 2)) (St E (rs T L m B s)) = some (St E (rs T L m (zsB m B s) (zs6 s))) := by
  have hco : co = 0 := rfl
  simp (disch := omega) only [fX3_readSizes, c3 h.1, some_bind, rs_tW S h D, rs_9 h, rs_tN h D, p6_1 h.2.2.1, p6_2 h.2.2.1, p6_3 h.2.2.1, p6_4 h.2.2.1, p6_5 h.2.2.1, p6_7 h.2.2.1, rs_wI]
  rfl
theorem c_sells (S : STR E K) (h : RDK E m) (D : TB9 T L) (hm : 20 ≤ m) (hw : VW B m) (s : Sg T L) : fX3_readSells K (E.1 + (co + 2)) (St E (rs T L m B s)) = some (St E (rs T L m (sl_B m B s) (se3 (B.1 m 3) s))) := by
  have hco : co = 0 := rfl
  obtain ⟨w0, w1, w2, w3, w4, w5, w6, w7, w8, w9⟩ := hw
  simp (disch := omega) only [fX3_readSells, c3 h.1, some_bind, rs_adv h D, rs_tW S h D, rs_9 h, rs_tN h D, g6_3 h.2.2.1, rs_i, iI_sub, p6_6 h.2.2.1, p6_7 h.2.2.1, rs_wI]
  rfl
theorem c_windWord (S : STR E K) (h : RDK E m) (D : TB9 T L) (s : Sg T L) : fX3_windWord K (E.1 + (co + 2)) (St E (rs T L m B s)) = some (iI (cD s), St E (rs T L m B s)) := by
  simp (disch := omega) only [fX3_windWord, c3 h.1, some_bind, rs_is S h D, iI_0, ib]
  unfold cD
  repeat' split
  all_goals rfl
theorem c_takeWind (S : STR E K) (h : RDK E m) (D : TB9 T L) (s : Sg T L) : fX3_takeWind K (E.1 + (co + 2)) (St E (rs T L m B s)) = some (iI (cD s), St E (rs T L m B (cT s))) := by
  have b := cD_b s
  simp (disch := omega) only [fX3_takeWind, fX3_takeWind_b26, c3 h.1, some_bind, c_windWord S h D, iI_eq, rs_6 h, rs_fail h, rs_adv h D]
  unfold cT
  split <;> rfl
theorem c_wind (S : STR E K) (h : RDK E m) (D : TB9 T L) (hm : 20 ≤ m) (hw : VW B m) (hn : 0 ≤ B.1 (co + 2) 8 ∧ B.1 (co + 2) 8 ≤ 2000) (s : Sg T L) : fX3_readWind_b18 K (E.1 + (co + 2)) (St E (rs T L m B s)) = some (St E (rs T L m (wiB m B s) (wi3 (B.1 m 3) (B.1 m 4) s))) := by
  have hco : co = 0 := rfl
  obtain ⟨w0, w1, w2, w3, w4, w5, w6, w7, w8, w9⟩ := hw
  have e3 : (wI B (co + 2) 8 (B.1 (co + 2) 8 + 1)).1 m 3 = B.1 m 3 := by rw [wI_1, if_neg (by omega)]
  have e4 : (wI B (co + 2) 8 (B.1 (co + 2) 8 + 1)).1 m 4 = B.1 m 4 := by rw [wI_1, if_neg (by omega)]
  simp (disch := omega) only [fX3_readWind_b18, some_bind, rs_8 h, iI_add, p3_8 h.1, rs_w8, rs_adv h D, rs_9 h, g6_3 h.2.2.1, g6_4 h.2.2.1, rs_i, e3, e4, iI_sub, rs_tN h D, rs_tW S h D, c_takeWind S h D, rs_0 h]
  have kb := (cT (cN 0 (B.1 m 4 - 1) (cW 10 (cN 1 (B.1 m 3 - 1) (cA s))))).2.1
  by_cases c : (cT (cN 0 (B.1 m 4 - 1) (cW 10 (cN 1 (B.1 m 3 - 1) (cA s))))).1.1 = 0
  · have c2 : (cN 0 (B.1 m 4 - 1) (cW 10 (cN 1 (B.1 m 3 - 1) (cA s)))).1.1 = 0 := by
      unfold cT at c
      split at c
      · exact absurd c (cF_k _ (by omega) _)
      · exact c
    obtain ⟨g1, g2, g3⟩ := cN_g c2
    obtain ⟨g4, g5, g6⟩ := cN_g (cW_g g1).1
    have gr : ∀ s' : Sg T L, gR (St E (rs T L m (wI B (co + 2) 8 (B.1 (co + 2) 8 + 1)) s')) (E.1 + m) 6 14 = some (E.1 + (m + 1)) := fun s' => g6_14 h.2.2.1
    rw [if_pos (by rw [c]; rfl)]
    simp (disch := omega) only [gr, iI_mul, iI_add, sI_ok h.2.2.2.1, some_bind, rs_wA]
    have e : wiB m B s = wA (wI B (co + 2) 8 (B.1 (co + 2) 8 + 1)) (m + 1) (cV 1 (B.1 m 3 - 1) (cA s) * 24 + cV 0 (B.1 m 4 - 1) (wi1 (B.1 m 3) s)) (cD (wi2 (B.1 m 3) (B.1 m 4) s)) := if_pos c
    rw [e]
    rfl
  · rw [if_neg (fun y => c ((iI_eq (by omega) (by omega) (by omega) (by omega)).mp (y.trans iI_0)))]
    have e : wiB m B s = wI B (co + 2) 8 (B.1 (co + 2) 8 + 1) := if_neg c
    rw [e]
    rfl
end CM
