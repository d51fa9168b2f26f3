/-! class Voyage: a shop's hour -/
/-- seven places of a row hold v -/
def lw (B : Bk) (r : Nat) (a : Int) (v : Int → Int) : Bk := (B.1, B.2.1, B.2.2.1, fun e z => if e = r ∧ a ≤ z ∧ z < a + 7 then v (z - a) else B.2.2.2.1 e z, B.2.2.2.2)
section LW
variable {B : Bk} {r e : Nat} {a k x z : Int} {v : Int → Int}
theorem lw_1 : (lw B r a v).1 = B.1 := rfl
theorem lw_2 : (lw B r a v).2.1 = B.2.1 := rfl
theorem lw_3 : (lw B r a v).2.2.1 = B.2.2.1 := rfl
theorem lw_5 : (lw B r a v).2.2.2.2 = B.2.2.2.2 := rfl
theorem lw_4 : (lw B r a v).2.2.2.1 e z = if e = r ∧ a ≤ z ∧ z < a + 7 then v (z - a) else B.2.2.2.1 e z := rfl
theorem lw_g (h0 : 0 ≤ k) (h1 : k < 7) : (lw B r a v).2.2.2.1 r (a + k) = v k := by
  rw [lw_4, if_pos ⟨rfl, by omega, by omega⟩, show a + k - a = k by omega]
theorem lw_g0 : (lw B r a v).2.2.2.1 r a = v 0 := by
  rw [lw_4, if_pos ⟨rfl, by omega, by omega⟩, show a - a = 0 by omega]
theorem lw_o (h : e ≠ r) : (lw B r a v).2.2.2.1 e z = B.2.2.2.1 e z := by
  rw [lw_4, if_neg (fun q => h q.1)]
theorem lw_w (h0 : 0 ≤ k) (h1 : k < 7) : wA (lw B r a v) r (a + k) x = lw B r a (up1 v k x) := by
  unfold lw wA upA up1
  refine Prod.ext rfl (Prod.ext rfl (Prod.ext rfl (Prod.ext ?_ rfl)))
  funext e z
  dsimp only
  by_cases q : e = r ∧ z = a + k
  · rw [if_pos q, if_pos ⟨q.1, by omega, by omega⟩, if_pos (by omega)]
  · rw [if_neg q]
    by_cases q2 : e = r ∧ a ≤ z ∧ z < a + 7
    · rw [if_pos q2, if_pos q2, if_neg (fun w => q ⟨q2.1, by omega⟩)]
    · rw [if_neg q2, if_neg q2]
theorem lw_w0 : wA (lw B r a v) r a x = lw B r a (up1 v 0 x) := by
  have := lw_w (B := B) (r := r) (a := a) (v := v) (x := x) (k := 0) (by omega) (by omega)
  rw [Int.add_zero] at this
  exact this
theorem lw_c (h : e ≠ r) : wA (lw B r a v) e z x = lw (wA B e z x) r a v := by
  unfold lw wA upA
  refine Prod.ext rfl (Prod.ext rfl (Prod.ext rfl (Prod.ext ?_ rfl)))
  funext e' z'
  dsimp only
  by_cases q : e' = e ∧ z' = z
  · rw [if_pos q, if_neg (fun w => h (q.1.symm.trans w.1)), if_pos q]
  · rw [if_neg q, if_neg q]
theorem lw_i {d j : Nat} {y : Int} : wI (lw B r a v) d j y = lw (wI B d j y) r a v := rfl
theorem lw_self : lw B r a (fun k => B.2.2.2.1 r (a + k)) = B := by
  unfold lw
  refine Prod.ext rfl (Prod.ext rfl (Prod.ext rfl (Prod.ext ?_ rfl)))
  funext e z
  dsimp only
  by_cases q : e = r ∧ a ≤ z ∧ z < a + 7
  · rw [if_pos q, q.1, show a + (z - a) = z by omega]
  · rw [if_neg q]
end LW
def PK (E : Ev) (p : Nat) : Prop := KD E p 7 9 ∧ KD E (p + 1) 20 700 ∧ KD E (p + 2) 20 125 ∧ KD E (p + 3) 20 96 ∧ KD E (p + 4) 23 96 ∧ KD E (p + 5) 20 96 ∧ KD E (p + 6) 23 5
/-- the valley at d tells the numbers of V -/
def VM (B : Bk) (d : Nat) (V : Vy) : Prop := (∀ j, B.1 d j = V.1 j) ∧ (∀ l h, B.2.2.2.1 (d + 1) (l * 24 + h) = V.2.1 l h) ∧ (∀ s k, B.2.2.2.1 (d + 2) (s * 6 + k) = V.2.2.1 s k) ∧ (∀ i k, B.2.2.2.1 (d + 3) (i * 3 + k) = V.2.2.2.1 i k) ∧ (∀ s h, B.2.2.2.1 (d + 4) (s * 24 + h) = V.2.2.2.2.1 s h)
section VY
variable {E : Ev} {B : Bk} {p d : Nat} {V : Vy} {v w : Int → Int} {a h s : Int}
theorem VM_w {r : Nat} {z x : Int} (hM : VM B d V) (hr : r < d ∨ d + 5 < r) : VM (wA B r z x) d V := by
  obtain ⟨m1, m2, m3, m4, m5⟩ := hM
  refine ⟨m1, fun l h => ?_, fun l h => ?_, fun l h => ?_, fun l h => ?_⟩
  · rw [wA_4, if_neg (by omega)]; exact m2 l h
  · rw [wA_4, if_neg (by omega)]; exact m3 l h
  · rw [wA_4, if_neg (by omega)]; exact m4 l h
  · rw [wA_4, if_neg (by omega)]; exact m5 l h
theorem VM_l {r : Nat} (hM : VM B d V) (hr : r < d ∨ d + 5 < r) : VM (lw B r a v) d V := by
  obtain ⟨m1, m2, m3, m4, m5⟩ := hM
  refine ⟨m1, fun l h => ?_, fun l h => ?_, fun l h => ?_, fun l h => ?_⟩
  · rw [lw_o (by omega)]; exact m2 l h
  · rw [lw_o (by omega)]; exact m3 l h
  · rw [lw_o (by omega)]; exact m4 l h
  · rw [lw_o (by omega)]; exact m5 l h
theorem VM_vw (hM : VM B d V) (hV : VOK V) (h0 : 0 ≤ B.1 d 0 ∧ B.1 d 0 ≤ 1600) : VW B d := by
  obtain ⟨m1, -⟩ := hM
  obtain ⟨b1, b2, b3, b4, b5, b6, b7, b8, b9, -⟩ := hV
  unfold VW
  rw [m1 0] at h0
  simp only [m1]
  omega
theorem f7_pageOf {st : Hp} (hc : ck st (E.1 + p) 7 = some ()) : fX7_pageOf (E.1 + p) (iI s) (iI h) st = some (iI (h * 28 + s * 7), st) := by
  simp only [fX7_pageOf, hc, some_bind, iI_mul, iI_add]
theorem f7_reason {act : Int} (P : PK E p) (hd : B.2.2.1 p 6 = some d) (hk : VK E d) (a0 : 0 ≤ a) (a1 : a + 7 ≤ 700) (hi : inS V h v) (hV : VOK V) (hM : VM B d V) (c0 : 0 ≤ act) (c1 : act ≤ 2) : fX7_reasonAgainst (E.1 + p) (iI act) (iI a) (St E (lw B (p + 1) a v)) = some (iI (whyS (V.1 3) act v), St E (lw B (p + 1) a v)) := by
  have g6 : gR (St E (lw B (p + 1) a v)) (E.1 + p) 7 6 = some (E.1 + d) := g7_6 P.1 hd
  have b3 := hV.2.2.1
  have m3 := hM.1 3
  obtain ⟨i0, i1, i2, i3, i4, i5, i6⟩ := hi
  simp (disch := omega) only [fX7_reasonAgainst, c7 P.1, g7_0 P.1, g6, g6_3 hk.1, some_bind, iI_0, iI_add, iI_sub, aI_ok P.2.1, lw_g, lw_1, m3, iI_eq, iI_lt, iI_le]
  unfold whyS
  repeat' split
  all_goals first | rfl | omega
theorem f7_doAct {act : Int} (P : PK E p) (a0 : 0 ≤ a) (a1 : a + 7 ≤ 700) (c0 : 0 ≤ act) (c1 : act ≤ 2) : fX7_doAct (E.1 + p) (iI act) (iI a) (St E (lw B (p + 1) a v)) = some (St E (lw B (p + 1) a (doS act v))) := by
  simp (disch := omega) only [fX7_doAct, c7 P.1, g7_0 P.1, some_bind, iI_add, iI_sub, aI_ok P.2.1, sI_ok P.2.1, lw_g, lw_w, iI_eq, up1_o]
  unfold doS
  by_cases q1 : act = 1
  · simp only [if_pos q1]
  · by_cases q2 : act = 2
    · simp only [if_neg q1, if_pos q2]
    · simp only [if_neg q1, if_neg q2]
theorem f7_carry76 {c f : Int} (P : PK E p) (a0 : 0 ≤ a) (a1 : a + 7 ≤ 700) (c0 : 0 ≤ c) (c1 : c < 64) (f0 : 0 ≤ f) (f1 : f < 64) : fX7_carry_b76 (E.1 + p) (iI a) (iI f) (iI c) (St E (lw B (p + 1) a v)) = some (iI (bI (¬ c = f)), St E (lw B (p + 1) a (putS v c))) := by
  simp (disch := omega) only [fX7_carry_b76, g7_0 P.1, some_bind, s_xOf, s_yOf, iI_add, sI_ok P.2.1, lw_w, iI_eq]
  unfold putS
  by_cases q : c = f
  · rw [if_pos q, bI_f (fun n => n q)]
  · rw [if_neg q, bI_t q]
theorem f7_carry {g : Int} (P : PK E p) (hd : B.2.2.1 p 6 = some d) (hk : VK E d) (a0 : 0 ≤ a) (a1 : a + 7 ≤ 700) (hi : inS V h v) (hV : VOK V) (hM : VM (lw B (p + 1) a v) d V) (hn : 0 ≤ B.1 d 0 ∧ B.1 d 0 ≤ 1600) (h0 : 0 ≤ s) (h1 : s < V.1 4) (hg : B.2.2.2.1 (p + 6) (v 2) = g) (hg2 : g = 0 ∨ g = 1) : fX7_carry (E.1 + p) (iI s) (iI a) (St E (lw B (p + 1) a v)) = some (iI (bI (¬ carS (V.1 1) (V.1 2) (V.2.1 (v 2) s) g v = v 1 * 8 + v 0)), St E (lw B (p + 1) a (putS v (carS (V.1 1) (V.1 2) (V.2.1 (v 2) s) g v)))) := by
  have g6 : gR (St E (lw B (p + 1) a v)) (E.1 + p) 7 6 = some (E.1 + d) := g7_6 P.1 hd
  have hw := VM_vw hM hV hn
  obtain ⟨b1, b2, b3, b4, b5, b6, b7, b8, b9, bw, -⟩ := hV
  have i' := hi
  obtain ⟨i0, i1, i2, i3, i4, i5, i6⟩ := i'
  have wb := bw (v 2) s i2.1 i2.2 h0 h1
  have m1 := hM.1 1
  have m2 := hM.1 2
  have mw := hM.2.1 (v 2) s
  have k := cOK_xy i0.1 i0.2 i1.1 i1.2 b1.2
  have k1 := crX_in (w := V.2.1 (v 2) s) k b1.2
  have k2 := crX_in (w := V.2.1 (v 2) s) k1 b1.2
  have k64 := cOK_64 k b1.2 b2.2
  have k164 := cOK_64 k1 b1.2 b2.2
  have k264 := cOK_64 k2 b1.2 b2.2
  have hgz : aZ (St E (lw B (p + 1) a v)) (E.1 + (p + 6)) (iI (v 2)) = some (iI g) := by
    rw [aZ_ok P.2.2.2.2.2.2 (by omega) (by omega) (by omega), lw_o (by omega), hg]
  simp (disch := omega) only [fX7_carry, c7 P.1, g7_0 P.1, g6, some_bind, iI_add, aI_ok P.2.1, lw_g, s_windAt hk, mw, s_columnOf, s_carried hk hw, m1, m2, g7_5 P.1, hgz]
  unfold carS
  rcases hg2 with q | q
  · rw [q, if_pos (show iI 0 = 0 from rfl), if_pos rfl, f7_carry76 P a0 a1 k164.1 k164.2 k64.1 k64.2]
  · rw [q, if_neg (show ¬ iI 1 = 0 by decide), if_neg (by omega), f7_carry76 P a0 a1 k264.1 k264.2 k64.1 k64.2]
end VY
