/-! the class's lines, the rest; a whole line -/
section CP
variable {E : Ev} {B : Bk} {K : Nat → Nat} {T : Int → Int} {L : Int} {m : Nat}
theorem i0_neg {x : Int} (h : 0 ≤ x ∧ x ≤ 3) (c : ¬ x = 0) : ¬ iI x = 0 := fun y => c ((iI_eq (by omega) (by omega) (by omega) (by omega)).mp (y.trans iI_0))
theorem c_shop (S : STR E K) (h : RDK E m) (D : TB9 T L) (hm : 20 ≤ m) (hw : VW B m) (s : Sg T L) (hc : s.1.1 = 0 → B.1 m 8 < 4) : fX3_readShop_b20 K (E.1 + (co + 2)) (St E (rs T L m B s)) = some (St E (rs T L m (shB m B s) (sh7 (B.1 m 1) (B.1 m 2) (B.1 m 3) s))) := by
  have hco : co = 0 := rfl
  obtain ⟨w0, w1, w2, w3, w4, w5, w6, w7, w8, w9⟩ := hw
  simp (maxSteps := 1000000) (disch := omega) only [fX3_readShop_b20, some_bind, rs_adv h D, rs_9 h, g6_1 h.2.2.1, g6_2 h.2.2.1, g6_3 h.2.2.1, g6_8 h.2.2.1, rs_i, iI_sub, rs_tN h D, rs_tW S h D, rs_0 h, lt_, iI_mul]
  have kb := (sh7 (B.1 m 1) (B.1 m 2) (B.1 m 3) s).2.1
  by_cases c : (sh7 (B.1 m 1) (B.1 m 2) (B.1 m 3) s).1.1 = 0
  · have k0 : s.1.1 = 0 := (cW_g (cN_g (cN_g (cN_g (cW_g (cN_g (cW_g (cN_g (cW_g (cN_g c).1).1).1).1).1).1).1).1).1).1
    have c4 := hc k0
    have gr : ∀ (B' : Bk) (s' : Sg T L), gR (St E (rs T L m B' s')) (E.1 + m) 6 15 = some (E.1 + (m + 2)) := fun B' s' => g6_15 h.2.2.1
    rw [if_pos (by show iI (sh7 (B.1 m 1) (B.1 m 2) (B.1 m 3) s).1.1 = 0; rw [c]; rfl)]
    simp (disch := omega) only [gr, rs_9 h, iI_add, sI_ok h.2.2.2.2.1, some_bind, rs_wA, g6_8 h.2.2.1, rs_i, wA_1, p6_8 h.2.2.1, rs_wI]
    have e : shB m B s = _ := if_pos c
    rw [e]
    rfl
  · rw [if_neg (by exact i0_neg kb c)]
    have e : shB m B s = B := if_neg c
    rw [e]
    rfl
theorem c_door (S : STR E K) (h : RDK E m) (D : TB9 T L) (hm : 20 ≤ m) (hw : VW B m) (hb : ∀ i, 0 ≤ i → i < B.1 m 9 → i32 (B.2.2.2.1 (m + 3) (i * 3 + 1) * 8 + B.2.2.2.1 (m + 3) (i * 3))) (s : Sg T L) (hc : s.1.1 = 0 → B.1 m 9 < 5) : fX3_readDoor_b20 K (E.1 + (co + 2)) (St E (rs T L m B s)) = some (St E (rs T L m (doB m B s) (do6 m B s))) := by
  have hco : co = 0 := rfl
  have hw' := hw
  obtain ⟨w0, w1, w2, w3, w4, w5, w6, w7, w8, w9⟩ := hw
  have vw : ∀ s' : Sg T L, VW (rs T L m B s') m := fun s' => by
    unfold VW at *
    simp only [rs_i (B := B) (m := m) (e := m) (show m ≠ co + 2 by omega) s']
    exact hw'
  have dr : ∀ (s' : Sg T L) (c : Int), drAt (rs T L m B s') m c = drAt B m c := fun s' c => by
    unfold drAt
    rw [rs_r (B := B) (m := m) (e := m + 3) (by omega) s', rs_i (B := B) (m := m) (e := m) (by omega) s']
  have da : ∀ (s' : Sg T L) (x y : Int), 0 ≤ x → x ≤ 1000000 → 0 ≤ y → y ≤ 1000000 → fX6_doorAt (E.1 + m) (iI (y * 8 + x)) (St E (rs T L m B s')) = some (iI (drAt B m (y * 8 + x)), St E (rs T L m B s')) := fun s' x y x0 x1 y0 y1 => by
    rw [s_doorAt h.2.2 (vw s') ⟨by omega, by omega⟩ (fun i i0 i1 => ?_), dr]
    rw [rs_i (B := B) (m := m) (e := m) (by omega) s'] at i1
    rw [rs_r (B := B) (m := m) (e := m + 3) (by omega) s']
    exact hb i i0 i1
  have b1 := cV_b (lo := 0) (hi := B.1 m 1 - 1) (cW 17 (cA s))
  have b2 := cV_b (lo := 0) (hi := B.1 m 2 - 1) (cN 0 (B.1 m 1 - 1) (cW 17 (cA s)))
  have ddb : ∀ c, -1 ≤ drAt B m c ∧ drAt B m c ≤ 5 := fun c => by
    unfold drAt
    have := lf_spec (fun i => B.2.2.2.1 (m + 3) (i * 3 + 1) * 8 + B.2.2.2.1 (m + 3) (i * 3) = c) (B.1 m 9).toNat 0
    simp only
    split <;> omega
  have b3 := ddb (cV 0 (B.1 m 2 - 1) (cN 0 (B.1 m 1 - 1) (cW 17 (cA s))) * 8 + cV 0 (B.1 m 1 - 1) (cW 17 (cA s)))
  have b87 : ∀ s' : Sg T L, s' = do4 m B s → fX3_readDoor_b87 K (E.1 + (co + 2)) (iI (cV 0 (B.1 m 1 - 1) (do1 s))) (iI (cV 0 (B.1 m 2 - 1) (do2 (B.1 m 1) s))) (St E (rs T L m B s')) = some (St E (rs T L m (doB m B s) (do6 m B s))) := fun s' es => by
    subst es
    simp (disch := omega) only [fX3_readDoor_b87, some_bind, rs_tN h D, rs_tW S h D, rs_0 h, rs_9 h, g6_9 h.2.2.1, rs_i, lt_, iI_mul]
    have kb := (do6 m B s).2.1
    by_cases c : (do6 m B s).1.1 = 0
    · have k4 : (do4 m B s).1.1 = 0 := (cW_g (cN_g c).1).1
      have k3 : (do3 (B.1 m 1) (B.1 m 2) s).1.1 = 0 := by
        unfold do4 at k4
        split at k4
        · exact k4
        · exact absurd k4 (cF_k _ (by omega) _)
      have k0 : s.1.1 = 0 := (cW_g (cN_g (cN_g k3).1).1).1
      have c4 := hc k0
      have gr : ∀ (B' : Bk) (s' : Sg T L), gR (St E (rs T L m B' s')) (E.1 + m) 6 16 = some (E.1 + (m + 3)) := fun B' s' => g6_16 h.2.2.1
      rw [if_pos (by show iI (do6 m B s).1.1 = 0; rw [c]; rfl)]
      simp (disch := omega) only [gr, rs_9 h, iI_add, sI_ok h.2.2.2.2.2.1, some_bind, rs_wA, g6_9 h.2.2.1, rs_i, wA_1, p6_9 h.2.2.1, rs_wI]
      have e : doB m B s = _ := if_pos c
      rw [e]
      rfl
    · rw [if_neg (by exact i0_neg kb c)]
      have e : doB m B s = B := if_neg c
      rw [e]
      rfl
  simp (disch := omega) only [fX3_readDoor_b20, some_bind, rs_adv h D, rs_9 h, g6_1 h.2.2.1, g6_2 h.2.2.1, rs_i, iI_sub, rs_tN h D, rs_tW S h D, rs_6 h, s_columnOf, da, iI_eq, rs_fail h]
  by_cases c : drAt B m (cV 0 (B.1 m 2 - 1) (cN 0 (B.1 m 1 - 1) (cW 17 (cA s))) * 8 + cV 0 (B.1 m 1 - 1) (cW 17 (cA s))) = -1
  · rw [if_pos c]
    exact b87 _ (if_pos c).symm
  · rw [if_neg c]
    exact b87 _ (if_neg c).symm
theorem c_fair (S : STR E K) (h : RDK E m) (D : TB9 T L) (hm : 20 ≤ m) (hw : VW B m) (s : Sg T L) : fX3_readFair K (E.1 + (co + 2)) (St E (rs T L m B s)) = some (St E (rs T L m (faB m B s) (fa5 (B.1 m 1) (B.1 m 2) (B.1 m 4) s))) := by
  have hco : co = 0 := rfl
  obtain ⟨w0, w1, w2, w3, w4, w5, w6, w7, w8, w9⟩ := hw
  have b := cV_b (lo := 0) (hi := B.1 m 4 - 1) (cW 10 (cN 0 (B.1 m 2 - 1) (cN 0 (B.1 m 1 - 1) (cW 17 (cA s)))))
  simp (disch := omega) only [fX3_readFair, c3 h.1, some_bind, rs_adv h D, rs_9 h, g6_1 h.2.2.1, g6_2 h.2.2.1, g6_4 h.2.2.1, rs_i, iI_sub, rs_tN h D, rs_tW S h D, s_columnOf, p6_10 h.2.2.1, p6_11 h.2.2.1, p6_12 h.2.2.1, rs_wI]
  rfl
theorem c_plan (S : STR E K) (h : RDK E m) (D : TB9 T L) (hm : 20 ≤ m) (hw : VW B m) (s : Sg T L) : fX3_readPlan K (E.1 + (co + 2)) (St E (rs T L m B s)) = some (St E (rs T L m (pn_B m B s) (pl3 (B.1 m 8) (B.1 m 4) s))) := by
  have hco : co = 0 := rfl
  obtain ⟨w0, w1, w2, w3, w4, w5, w6, w7, w8, w9⟩ := hw
  have b62 : ∀ (k : Nat), k < 28 → cW k (pl2 (B.1 m 8) (B.1 m 4) s) = pl3 (B.1 m 8) (B.1 m 4) s → fX3_readPlan_b62 K (E.1 + (co + 2)) (iI (cV 0 (B.1 m 8 - 1) (cA s))) (iI (cV 0 (B.1 m 4 - 1) (pl1 (B.1 m 8) s))) (iI (plV (B.1 m 8) (B.1 m 4) s)) (E.1 + (co + 2)) (K k) (St E (rs T L m B (pl2 (B.1 m 8) (B.1 m 4) s))) = some (St E (rs T L m (pn_B m B s) (pl3 (B.1 m 8) (B.1 m 4) s))) := fun k hk ek => by
    simp (disch := omega) only [fX3_readPlan_b62, some_bind, rs_tW S h D hk, rs_0 h, rs_9 h, ek]
    have kb := (pl3 (B.1 m 8) (B.1 m 4) s).2.1
    by_cases c : (pl3 (B.1 m 8) (B.1 m 4) s).1.1 = 0
    · have k2 : (pl2 (B.1 m 8) (B.1 m 4) s).1.1 = 0 := (cW_g (ek ▸ c)).1
      obtain ⟨k1, g2, g3⟩ := cN_g k2
      obtain ⟨k0, g5, g6⟩ := cN_g k1
      rw [if_pos (by rw [c]; rfl), s_setAct h.2.2 g5 (by omega) g2 (by omega), some_bind, rs_wA (by omega)]
      have e : pn_B m B s = _ := if_pos c
      rw [e]
    · rw [if_neg (by exact i0_neg kb c)]
      have e : pn_B m B s = B := if_neg c
      rw [e]
  simp (disch := omega) only [fX3_readPlan, fX3_readPlan_b48, c3 h.1, some_bind, rs_adv h D, rs_9 h, g6_8 h.2.2.1, g6_4 h.2.2.1, rs_i, iI_sub, rs_tN h D, rs_is S h D, iI_0, ib, iI_eq]
  by_cases c : isW T L (pl2 (B.1 m 8) (B.1 m 4) s).1.2.2.1 26
  · have e1 : plV (B.1 m 8) (B.1 m 4) s = 1 := if_pos c
    have e2 : pl3 (B.1 m 8) (B.1 m 4) s = cW 26 (pl2 (B.1 m 8) (B.1 m 4) s) := if_pos c
    rw [if_pos (by exact c), if_pos trivial]
    have := b62 26 (by omega) e2.symm
    rw [e1] at this
    exact this
  · have e1 : plV (B.1 m 8) (B.1 m 4) s = 2 := if_neg c
    have e2 : pl3 (B.1 m 8) (B.1 m 4) s = cW 27 (pl2 (B.1 m 8) (B.1 m 4) s) := if_neg c
    rw [if_neg (by exact c), if_neg (by omega)]
    have := b62 27 (by omega) e2.symm
    rw [e1] at this
    exact this
/-- a line of the class: what it writes, where it comes to -/
def lnS (m : Nat) (B : Bk) (s : Sg T L) : Sg T L :=
  if B.1 m 0 = 0 then zs6 s
  else if isW T L s.1.2.2.1 6 then se3 (B.1 m 3) s
  else if isW T L s.1.2.2.1 9 then wi3 (B.1 m 3) (B.1 m 4) (if B.1 (co + 2) 8 < 20 then s else cF 3 s.1.2.2.1 (by omega) s)
  else if isW T L s.1.2.2.1 16 then sh7 (B.1 m 1) (B.1 m 2) (B.1 m 3) (if B.1 m 8 < 4 then s else cF 3 s.1.2.2.1 (by omega) s)
  else if isW T L s.1.2.2.1 21 then do6 m B (if B.1 m 9 < 5 then s else cF 3 s.1.2.2.1 (by omega) s)
  else if isW T L s.1.2.2.1 23 then fa5 (B.1 m 1) (B.1 m 2) (B.1 m 4) s
  else if isW T L s.1.2.2.1 25 then pl3 (B.1 m 8) (B.1 m 4) s
  else cF 1 s.1.2.2.1 (by omega) s
def lnB (m : Nat) (B : Bk) (s : Sg T L) : Bk :=
  if B.1 m 0 = 0 then zsB m B s
  else if isW T L s.1.2.2.1 6 then sl_B m B s
  else if isW T L s.1.2.2.1 9 then wiB m B (if B.1 (co + 2) 8 < 20 then s else cF 3 s.1.2.2.1 (by omega) s)
  else if isW T L s.1.2.2.1 16 then shB m B (if B.1 m 8 < 4 then s else cF 3 s.1.2.2.1 (by omega) s)
  else if isW T L s.1.2.2.1 21 then doB m B (if B.1 m 9 < 5 then s else cF 3 s.1.2.2.1 (by omega) s)
  else if isW T L s.1.2.2.1 23 then faB m B s
  else if isW T L s.1.2.2.1 25 then pn_B m B s
  else B
/-- what the class's reader keeps of its valley -/
def CI (m : Nat) (B : Bk) : Prop := VW B m ∧ (0 ≤ B.1 (co + 2) 8 ∧ B.1 (co + 2) 8 ≤ 20) ∧ ∀ i, 0 ≤ i → i < B.1 m 9 → i32 (B.2.2.2.1 (m + 3) (i * 3 + 1) * 8 + B.2.2.2.1 (m + 3) (i * 3))
theorem c_line (S : STR E K) (h : RDK E m) (D : TB9 T L) (hm : 20 ≤ m) (I : CI m B) (s : Sg T L) : fX3_readLine K (E.1 + (co + 2)) (St E (rs T L m B s)) = some (St E (rs T L m (lnB m B s) (lnS m B s))) := by
  have hco : co = 0 := rfl
  obtain ⟨hw, hn, hb⟩ := I
  have hw' := hw
  obtain ⟨w0, w1, w2, w3, w4, w5, w6, w7, w8, w9⟩ := hw'
  have ew : fX3_readWind K (E.1 + (co + 2)) (St E (rs T L m B s)) = some (St E (rs T L m (wiB m B (if B.1 (co + 2) 8 < 20 then s else cF 3 s.1.2.2.1 (by omega) s)) (wi3 (B.1 m 3) (B.1 m 4) (if B.1 (co + 2) 8 < 20 then s else cF 3 s.1.2.2.1 (by omega) s)))) := by
    simp (disch := omega) only [fX3_readWind, c3 h.1, some_bind, rs_8 h, iI_lt, rs_6 h, rs_fail h]
    split
    · exact c_wind S h D hm hw (by omega) s
    · exact c_wind S h D hm hw (by omega) _
  have es : fX3_readShop K (E.1 + (co + 2)) (St E (rs T L m B s)) = some (St E (rs T L m (shB m B (if B.1 m 8 < 4 then s else cF 3 s.1.2.2.1 (by omega) s)) (sh7 (B.1 m 1) (B.1 m 2) (B.1 m 3) (if B.1 m 8 < 4 then s else cF 3 s.1.2.2.1 (by omega) s)))) := by
    simp (disch := omega) only [fX3_readShop, c3 h.1, some_bind, rs_9 h, g6_8 h.2.2.1, rs_i, iI_lt, rs_6 h, rs_fail h]
    split
    · exact c_shop S h D hm hw s (fun _ => by assumption)
    · exact c_shop S h D hm hw _ (fun y => absurd y (cF_k _ (by omega) _))
  have ed : fX3_readDoor K (E.1 + (co + 2)) (St E (rs T L m B s)) = some (St E (rs T L m (doB m B (if B.1 m 9 < 5 then s else cF 3 s.1.2.2.1 (by omega) s)) (do6 m B (if B.1 m 9 < 5 then s else cF 3 s.1.2.2.1 (by omega) s)))) := by
    simp (disch := omega) only [fX3_readDoor, c3 h.1, some_bind, rs_9 h, g6_9 h.2.2.1, rs_i, iI_lt, rs_6 h, rs_fail h]
    split
    · exact c_door S h D hm hw hb s (fun _ => by assumption)
    · exact c_door S h D hm hw hb _ (fun y => absurd y (cF_k _ (by omega) _))
  simp (maxSteps := 1000000) (disch := omega) only [fX3_readLine, c3 h.1, some_bind, rs_9 h, g6_0 h.2.2.1, rs_i, rs_is S h D, rs_6 h, rs_fail h, c_sizes S h D hm s, c_sells S h D hm hw s, ew, es, ed, c_fair S h D hm hw s, c_plan S h D hm hw s, iI_0, iI_eq, ib]
  unfold lnS lnB
  repeat' split
  all_goals rfl
end CP
