/-! a line of both; what a line leaves as it was -/
section BD
variable {T : Int → Int} {L : Int}
/-- in a fault already -/
def Bd (k p : Int) (s : Sg T L) : Prop := s.1.1 = k ∧ s.1.2.1 = p
theorem bdA {k p : Int} {s : Sg T L} (h : Bd k p s) : Bd k p (cA s) := h
theorem bdF {k p f pl : Int} (hk : ¬ k = 0) (hf : 0 ≤ f ∧ f ≤ 3) {s : Sg T L} (h : Bd k p s) : Bd k p (cF f pl hf s) := by
  have c : ¬ s.1.1 = 0 := by rw [h.1]; exact hk
  exact ⟨(if_neg c).trans h.1, (if_neg c).trans h.2⟩
theorem bdW {k p : Int} {w : Nat} (hk : ¬ k = 0) {s : Sg T L} (h : Bd k p s) : Bd k p (cW w s) := by
  unfold cW
  split
  · exact bdA h
  · exact bdF hk _ h
theorem bdN {k p lo hi : Int} (hk : ¬ k = 0) {s : Sg T L} (h : Bd k p s) : Bd k p (cN lo hi s) := by
  unfold cN
  split
  · split
    · exact bdA h
    · exact bdF hk _ h
  · exact bdF hk _ h
theorem bdT {k p : Int} (hk : ¬ k = 0) {s : Sg T L} (h : Bd k p s) : Bd k p (cT s) := by
  unfold cT
  split
  · exact bdF hk _ h
  · exact bdA h
theorem bd_wind {k p n hr : Int} (hk : ¬ k = 0) {s : Sg T L} (h : Bd k p s) : Bd k p (wi3 n hr s) := bdT hk (bdN hk (bdW hk (bdN hk (bdA h))))
theorem bd_shop {k p w d n : Int} (hk : ¬ k = 0) {s : Sg T L} (h : Bd k p s) : Bd k p (sh7 w d n s) := bdN hk (bdW hk (bdN hk (bdW hk (bdN hk (bdW hk (bdN hk (bdN hk (bdN hk (bdW hk (bdA h))))))))))
theorem bd_door {k p : Int} {m : Nat} {C : Bk} (hk : ¬ k = 0) {s : Sg T L} (h : Bd k p s) : Bd k p (do6 m C s) := by
  refine bdN hk (bdW hk ?_)
  unfold do4
  split
  · exact bdN hk (bdN hk (bdW hk (bdA h)))
  · exact bdF hk _ (bdN hk (bdN hk (bdW hk (bdA h))))
theorem cF_bd {f pl : Int} (hf : 0 ≤ f ∧ f ≤ 3) {s : Sg T L} (h : s.1.1 = 0) : Bd f pl (cF f pl hf s) := ⟨if_pos h, if_pos h⟩
end BD
section LL
variable {T : Int → Int} {L : Int} {s : Sg T L} {t : Tg T L} {m : Nat} {C R : Bk}
theorem bd_pr {f : Int} (hf : 0 ≤ f ∧ f ≤ 3) (f0 : f ≠ 0) (h : pr s t) (k0 : s.1.1 = 0) {u : Sg T L} (hu : Bd f s.1.2.2.1 u) : pr u (mF f hf t) ∧ ¬ u.1.1 = 0 := by
  have nk : ¬ u.1.1 = 0 := by rw [hu.1]; exact f0
  refine ⟨⟨?_, ?_, fun e => absurd e nk⟩, nk⟩
  · show u.1.1 = (if t.1.1 = 0 then f else t.1.1)
    rw [hu.1, if_pos (h.1 ▸ k0)]
  · show u.1.2.1 = (if t.1.1 = 0 then t.1.2.2 else t.1.2.1)
    rw [hu.2, if_pos (h.1 ▸ k0), h.2.2 k0]
theorem lr_line (hm : 20 ≤ m) (H : LR m C R) (h : pr s t) (k0 : s.1.1 = 0) (hl : C.1 m 0 < 1600) : pr (lnS m C s) (mlS R t) ∧ ((lnS m C s).1.1 = 0 → LR m (wI (lnB m C s) m 0 (C.1 m 0 + 1)) (wA (mlB R t) (mo + 6) 4 (R.2.2.2.1 (mo + 6) 4 + 1))) := by
  have H' := H
  obtain ⟨Hn, Hw, Hs, Hd, Hp, Hf⟩ := H'
  obtain ⟨vw, ⟨w8, w20⟩, h6, ⟨h60, h61, h62, h63, h64, h65, h66, h67, h68⟩, ⟨h13, h74⟩, hpos, hzero⟩ := Hn
  have vw' := vw
  obtain ⟨v0, v1, v2, v3, v4, v5, v6, v7, v8, v9⟩ := vw'
  have eq := h.2.2 k0
  have t0 : t.1.1 = 0 := h.1 ▸ k0
  unfold lnS lnB mlS mlB
  rw [h6, h60, h61, h62, h63, h67, h68, w20, ← eq]
  by_cases c0 : C.1 m 0 = 0
  · simp only [if_pos c0]
    obtain ⟨p1, p2⟩ := pr_sizes h
    refine ⟨p1, fun k => ?_⟩
    obtain ⟨⟨a1, a2⟩, ⟨b1, b2⟩, ⟨d1, d2⟩, ⟨e1, e2⟩, f1, f2⟩ := p2 k
    unfold ztB
    rw [← a1, ← b1, ← d1, ← e1, ← f1]
    have := lr_sizes hm H c0 a2 b2 d2 e2 f2
    rw [h6] at this
    exact this
  · have hp1 : 0 < C.1 m 0 ∧ C.1 m 0 < 1600 := by omega
    have ps := hpos hp1.1
    simp only [if_neg c0]
    by_cases c6 : isW T L s.1.2.2.1 6
    · simp only [if_pos c6]
      obtain ⟨p1, p2⟩ := pr_sells (n := C.1 m 3) (by omega) h
      refine ⟨p1, fun k => ?_⟩
      obtain ⟨⟨a1, a2⟩, b1, b2⟩ := p2 k
      unfold stB
      rw [h62, ← a1, ← b1]
      have := lr_sells hm H hp1 a2 b2
      rw [h6] at this
      exact this
    · simp only [if_neg c6]
      by_cases c9 : isW T L s.1.2.2.1 9
      · simp only [if_pos c9]
        by_cases q : C.1 (co + 2) 8 < 20
        · have q' : ¬ C.1 (co + 2) 8 = 20 := by omega
          simp only [if_pos q, if_neg q']
          obtain ⟨p1, p2⟩ := pr_wind (n := C.1 m 3) (hr := C.1 m 4) (by omega) (by omega) h
          refine ⟨p1, fun k => ?_⟩
          obtain ⟨-, ⟨a1, a2⟩, ⟨b1, b2⟩, d1, d2⟩ := p2 k
          have e1 : wiB m C s = _ := if_pos k
          have cb := cD_b (wi2 (C.1 m 3) (C.1 m 4) s)
          have e2 : wtB R (mA t) = wdB (wI R mo 20 (R.1 mo 20 + 1)) (mV 1 (C.1 m 3 - 1) (mA t)) (mV 0 (C.1 m 4 - 1) (wt1 (C.1 m 3) (mA t))) (mD (wt2 (C.1 m 3) (C.1 m 4) (mA t))) 24 := by
            unfold wtB
            rw [h62, h63, ← d1, if_neg (by omega)]
          rw [e1, e2, ← a1, ← b1, ← d1]
          have := lr_wind hm H hp1 q a2 b2 ⟨d2, cb.2⟩
          rw [h6] at this
          exact this
        · have q' : C.1 (co + 2) 8 = 20 := by omega
          simp only [if_neg q, if_pos q']
          obtain ⟨p1, p2⟩ := bd_pr (f := 3) (by omega) (by omega) h k0 (bd_wind (n := C.1 m 3) (hr := C.1 m 4) (by omega) (cF_bd (f := 3) (pl := s.1.2.2.1) (by omega) k0))
          exact ⟨p1, fun k => absurd k p2⟩
      · simp only [if_neg c9]
        by_cases c16 : isW T L s.1.2.2.1 16
        · simp only [if_pos c16]
          by_cases q : C.1 m 8 < 4
          · have q' : ¬ C.1 m 8 = 4 := by omega
            simp only [if_pos q, if_neg q']
            obtain ⟨p1, p2⟩ := pr_shop (w := C.1 m 1) (d := C.1 m 2) (n := C.1 m 3) (by omega) (by omega) (by omega) h
            refine ⟨p1, fun k => ?_⟩
            obtain ⟨-, ⟨a1, a2⟩, ⟨b1, b2⟩, ⟨d1, d2⟩, ⟨e1, e2⟩, ⟨f1, f2⟩, g1, g2⟩ := p2 k
            have ec : shB m C s = _ := if_pos k
            unfold htB htC
            rw [ec, ← a1, ← b1, ← d1, ← e1, ← f1, ← g1]
            have := lr_shop hm H hp1 q a2 b2 d2 e2 f2 g2
            rw [h6] at this
            exact this
          · have q' : C.1 m 8 = 4 := by omega
            simp only [if_neg q, if_pos q']
            obtain ⟨p1, p2⟩ := bd_pr (f := 3) (by omega) (by omega) h k0 (bd_shop (w := C.1 m 1) (d := C.1 m 2) (n := C.1 m 3) (by omega) (cF_bd (f := 3) (pl := s.1.2.2.1) (by omega) k0))
            exact ⟨p1, fun k => absurd k p2⟩
        · simp only [if_neg c16]
          by_cases c21 : isW T L s.1.2.2.1 21
          · simp only [if_pos c21]
            by_cases q : C.1 m 9 < 5
            · have q' : ¬ C.1 m 9 = 5 := by omega
              simp only [if_pos q, if_neg q']
              obtain ⟨p1, p2⟩ := pr_door (m := m) (C := C) (R := R) (by omega) (by omega) (by omega) (fun i i0 i1 => by
                obtain ⟨o1, o2, o3, o4⟩ := Hd i i0 i1
                have x0 := o1 0 (by omega) (by omega)
                have x1 := o1 1 (by omega) (by omega)
                rw [show 60 + (3 * i + 0) = 3 * (20 + i) by omega, Int.add_zero] at x0
                rw [show 60 + (3 * i + 1) = 3 * (20 + i) + 1 by omega] at x1
                rw [Int.add_zero] at o2
                exact ⟨x0, x1, by omega⟩) h
              refine ⟨p1, fun k => ?_⟩
              obtain ⟨-, ⟨a1, a2⟩, ⟨b1, b2⟩, d1, d2⟩ := p2 k
              have ec : doB m C s = _ := if_pos k
              unfold dtB
              rw [ec, ← a1, ← b1, ← d1]
              have := lr_door hm H hp1 q a2 b2 d2
              rw [h6] at this
              exact this
            · have q' : C.1 m 9 = 5 := by omega
              simp only [if_neg q, if_pos q']
              obtain ⟨p1, p2⟩ := bd_pr (f := 3) (by omega) (by omega) h k0 (bd_door (m := m) (C := C) (by omega) (cF_bd (f := 3) (pl := s.1.2.2.1) (by omega) k0))
              exact ⟨p1, fun k => absurd k p2⟩
          · simp only [if_neg c21]
            by_cases c23 : isW T L s.1.2.2.1 23
            · simp only [if_pos c23]
              obtain ⟨p1, p2⟩ := pr_fair (w := C.1 m 1) (d := C.1 m 2) (hr := C.1 m 4) (by omega) (by omega) (by omega) h
              refine ⟨p1, fun k => ?_⟩
              obtain ⟨⟨a1, a2⟩, ⟨b1, b2⟩, ⟨d1, d2⟩, e1, e2⟩ := p2 k
              have kt : (ft5 (C.1 m 1) (C.1 m 2) (C.1 m 4) (mA t)).1.1 = 0 := p1.1 ▸ k
              have ef : ftB R (C.1 m 1) (C.1 m 2) (C.1 m 4) (mA t) = _ := if_pos kt
              rw [ef, ← e1, ← d1, ← a1, ← b1]
              have := lr_fair hm H hp1 a2 b2 ⟨d2.1, e2.1⟩ e2.2
              rw [h6] at this
              exact this
            · simp only [if_neg c23]
              by_cases c25 : isW T L s.1.2.2.1 25
              · simp only [if_pos c25]
                obtain ⟨p1, p2⟩ := pr_plan (n := C.1 m 8) (hr := C.1 m 4) (by omega) (by omega) h k0 c25
                refine ⟨p1, fun k => ?_⟩
                obtain ⟨⟨a1, a2⟩, ⟨b1, b2⟩, d1⟩ := p2 k
                have ec : pn_B m C s = _ := if_pos k
                have pv : 1 ≤ plV (C.1 m 8) (C.1 m 4) s ∧ plV (C.1 m 8) (C.1 m 4) s ≤ 2 := by
                  unfold plV
                  split <;> omega
                have ef : ptB R (C.1 m 8) (C.1 m 4) (mW 25 t) = _ := if_neg (by rw [← d1]; omega)
                rw [ec, ef, ← a1, ← b1, ← d1]
                have := lr_plan hm H hp1 a2 b2 (a := plV (C.1 m 8) (C.1 m 4) s) (by omega)
                rw [h6] at this
                exact this
              · simp only [if_neg c25]
                have e25 : mW 25 t = mF 1 (by omega) t := if_neg (fun y => c25 (eq ▸ y.2))
                have mb := mF_k (f := 1) (by omega) (by omega) t
                have e1 : pt2 (C.1 m 8) (C.1 m 4) (mF 1 (by omega) t) = mF 1 (by omega) t := by
                  have x1 : pt1 (C.1 m 8) (mF 1 (by omega) t) = mF 1 (by omega) t := if_neg mb
                  unfold pt2
                  rw [x1]
                  exact if_neg mb
                have e2 : pt3 (C.1 m 8) (C.1 m 4) (mF 1 (by omega) t) = mF 1 (by omega) t := by
                  unfold pt3
                  rw [e1, mF_bad _ mb, if_pos]
                  unfold pta
                  rw [if_neg (fun z => mb z.1), if_neg (fun z => mb z.1)]
                rw [e25, e2]
                obtain ⟨p1, p2⟩ := pF (f := 1) (by omega) (by omega) h
                exact ⟨p1, fun k => absurd k p2⟩
end LL
