/-! class Voyage: the sale, the whole hour of a shop -/
theorem lw_eq {B : Bk} {r : Nat} {a : Int} {v : Int → Int} (h : ∀ k, 0 ≤ k → k < 7 → B.2.2.2.1 r (a + k) = v k) : lw B r a v = B := by
  unfold lw
  refine Prod.ext rfl (Prod.ext rfl (Prod.ext rfl (Prod.ext ?_ rfl)))
  funext e z
  dsimp only
  by_cases q : e = r ∧ a ≤ z ∧ z < a + 7
  · rw [if_pos q, q.1, ← h (z - a) (by omega) (by omega), show a + (z - a) = z by omega]
  · rw [if_neg q]
/-- a door wants one less -/
def seB (B : Bk) (p : Nat) (h d : Int) (w : Int → Int) : Bk := if d = -1 then B else wA B (p + 2) ((h + 1) * 5 + d) (w d - 1)
section VZ
variable {E : Ev} {B : Bk} {p d : Nat} {V : Vy} {v w : Int → Int} {a h s : Int}
theorem drAt_V (hM : VM B d V) {c : Int} : drAt B d c = drV V c := by
  have e : lf (fun i => B.2.2.2.1 (d + 3) (i * 3 + 1) * 8 + B.2.2.2.1 (d + 3) (i * 3) = c) (B.1 d 9).toNat 0 = lf (fun i => V.2.2.2.1 i 1 * 8 + V.2.2.2.1 i 0 = c) (V.1 9).toNat 0 := by
    rw [hM.1 9]
    refine lf_congr _ _ (fun j _ _ => ?_)
    have e0 := hM.2.2.2.1 j 0
    rw [Int.add_zero] at e0
    rw [hM.2.2.2.1 j 1, e0]
  unfold drAt drV
  dsimp only
  rw [e, hM.1 9]
theorem VM_doorAt (hk : VK E d) (hM : VM B d V) (hV : VOK V) (hn : 0 ≤ B.1 d 0 ∧ B.1 d 0 ≤ 1600) {c : Int} (hc : i32 c) : fX6_doorAt (E.1 + d) (iI c) (St E B) = some (iI (drV V c), St E B) := by
  have hw := VM_vw hM hV hn
  rw [s_doorAt hk hw hc, drAt_V hM]
  intro i i1 i2
  obtain ⟨b1, b2, b3, b4, b5, b6, b7, b8, b9, bw, bs, bd, -⟩ := hV
  have e0 := hM.2.2.2.1 i 0
  rw [Int.add_zero] at e0
  rw [hM.2.2.2.1 i 1, e0]
  rw [hM.1 9] at i2
  have := bd i i1 i2
  constructor <;> omega
theorem f7_page (P : PK E p) {C : Bk} {s h : Int} : fX7_pageOf (E.1 + p) (iI s) (iI h) (St E C) = some (iI (h * 28 + s * 7), St E C) := f7_pageOf (c7 P.1)
theorem f7_sell (P : PK E p) (hd : B.2.2.1 p 6 = some d) (hk : VK E d) (a0 : 0 ≤ a) (a1 : a + 7 ≤ 700) (hi : inS V h v) (hV : VOK V) (hM : VM (lw B (p + 1) a v) d V) (hn : 0 ≤ B.1 d 0 ∧ B.1 d 0 ≤ 1600) (h0 : 0 ≤ s) (h1 : s < 24) (hw : ∀ i, 0 ≤ i → i < V.1 9 → B.2.2.2.1 (p + 2) ((s + 1) * 5 + i) = w i) (hwi : inW V w) : fX7_sell (E.1 + p) (iI s) (iI a) (St E (lw B (p + 1) a v)) = some (iI (selD V v w), St E (lw (seB B p s (selD V v w) w) (p + 1) a (selS V (selD V v w) v))) := by
  have g6 : gR (St E (lw B (p + 1) a v)) (E.1 + p) 7 6 = some (E.1 + d) := g7_6 P.1 hd
  have g6' : ∀ z x u, gR (St E (lw (wA B (p + 2) z x) (p + 1) a u)) (E.1 + p) 7 6 = some (E.1 + d) := fun _ _ _ => g7_6 P.1 hd
  have vw := VM_vw hM hV hn
  have vw' : ∀ z x u, VW (lw (wA B (p + 2) z x) (p + 1) a u) d := fun _ _ _ => vw
  have db := drV_b hV (c := v 1 * 8 + v 0)
  have hV' := hV
  obtain ⟨b1, b2, b3, b4, b5, b6, b7, b8, b9, bw, -⟩ := hV'
  obtain ⟨i0, i1, i2, i3, i4, i5, i6⟩ := hi
  have hdo := VM_doorAt hk hM hV hn (c := v 1 * 8 + v 0) ⟨by omega, by omega⟩
  have m3 : B.1 d 3 = V.1 3 := hM.1 3
  have m6 : B.1 d 6 = V.1 6 := hM.1 6
  have m7 : B.1 d 7 = V.1 7 := hM.1 7
  have sb : ∀ z x u, fX6_saleBrings (E.1 + d) (iI (v 2)) (St E (lw (wA B (p + 2) z x) (p + 1) a u)) = some (iI (max 0 (V.1 7 - v 2)), St E (lw (wA B (p + 2) z x) (p + 1) a u)) := fun z x u => by
    rw [s_saleBrings hk (vw' z x u) i2.1 (by omega), lw_1, wA_1, m7]
  simp (maxSteps := 1000000) (disch := omega) only [fX7_sell, fX7_sell_b65, c7 P.1, g7_0 P.1, g7_1 P.1, g6, some_bind, iI_add, iI_mul, iI_0, aI_ok P.2.1, lw_g, s_columnOf, hdo, iI_eq, g6_6 hk.1, lw_1, m6, iI_lt, lt_]
  unfold selD
  generalize drV V (v 1 * 8 + v 0) = D at db ⊢
  by_cases q1 : D = -1
  · rw [if_pos q1, if_neg (fun z => z.1 q1)]
    rfl
  · rw [if_neg q1]
    by_cases q2 : V.1 6 < v 2
    · rw [if_pos q2, if_neg (fun z => by omega)]
      rfl
    · rw [if_neg q2]
      by_cases q3 : 0 < v 5
      · rw [if_pos q3]
        have wb := hwi D (by omega) (by omega)
        have hz : (lw B (p + 1) a v).2.2.2.1 (p + 2) ((s + 1) * 5 + D) = w D := by rw [lw_o (by omega), hw D (by omega) (by omega)]
        simp (disch := omega) only [aI_ok P.2.2.1, hz, some_bind, iI_lt]
        by_cases q4 : 0 < w D
        · rw [if_pos q4, if_pos ⟨q1, by omega, q3, q4⟩]
          simp (disch := omega) only [g7_1 P.1, g7_0 P.1, aI_ok P.2.2.1, hz, some_bind, iI_sub, sI_ok P.2.2.1, lw_c, aI_ok P.2.1, lw_g, sI_ok P.2.1, lw_w, up1_o, g6', sb, iI_add, g6_3 hk.1, lw_1, wA_1, m3, imin_ok]
          unfold seB selS
          rw [if_neg q1, if_neg q1]
        · rw [if_neg q4, if_neg (fun z => q4 z.2.2.2)]
          rfl
      · rw [if_neg q3, if_neg (fun z => q3 z.2.2.1)]
        rfl
/-- what a shop's hour makes of all -/
def hB (V : Vy) (p : Nat) (h s : Int) (v w : Int → Int) (B : Bk) : Bk :=
  lw (wA (seB (wA (wA B (p + 3) (s * 24 + h) (whyS (V.1 3) (V.2.2.2.2.1 s h) v)) (p + 4) (s * 24 + h) (bI (¬ stC V h s v = st1 V h s v 1 * 8 + st1 V h s v 0))) p h (stD V h s v w) w) (p + 5) (s * 24 + h) (stD V h s v w)) (p + 1) ((h + 1) * 28 + s * 7) (st4 V h s v w)
theorem f7_106 (P : PK E p) (hd : B.2.2.1 p 6 = some d) (hk : VK E d) (a0 : 0 ≤ a) (a1 : a + 7 ≤ 700) (hi : inS V h v) (hV : VOK V) (hM : VM (lw B (p + 1) a v) d V) (hn : 0 ≤ B.1 d 0 ∧ B.1 d 0 ≤ 1600) (h0 : 0 ≤ h) (h1 : h < 24) (s0 : 0 ≤ s) (s1 : s < 4) (hw : ∀ i, 0 ≤ i → i < V.1 9 → B.2.2.2.1 (p + 2) ((h + 1) * 5 + i) = w i) (hwi : inW V w) : fX7_flyHour_b106 (E.1 + p) (iI h) (iI a) (iI (s * 24 + h)) (St E (lw B (p + 1) a v)) = some (St E (lw (wA (seB B p h (selD V v w) w) (p + 5) (s * 24 + h) (selD V v w)) (p + 1) a (selS V (selD V v w) v))) := by
  simp (disch := omega) only [fX7_flyHour_b106, g7_4 P.1, some_bind, f7_sell P hd hk a0 a1 hi hV hM hn h0 h1 hw hwi, sI_ok P.2.2.2.2.2.1, lw_c]
theorem f7_59 {g : Int} (P : PK E p) (hd : B.2.2.1 p 6 = some d) (hk : VK E d) (hq : d + 5 < p ∨ p + 6 < d) (a0 : 0 ≤ a) (a1 : a + 7 ≤ 700) (hi : inS V h v) (hV : VOK V) (hM : VM B d V) (hn : 0 ≤ B.1 d 0 ∧ B.1 d 0 ≤ 1600) (h0 : 0 ≤ h) (h1 : h < V.1 4) (s0 : 0 ≤ s) (s1 : s < 4) (hw : ∀ i, 0 ≤ i → i < V.1 9 → B.2.2.2.1 (p + 2) ((h + 1) * 5 + i) = w i) (hwi : inW V w) (hg : B.2.2.2.1 (p + 6) (v 2) = g) (hg2 : g = 0 ∨ g = 1) {c : Int} (hc : carS (V.1 1) (V.1 2) (V.2.1 (v 2) h) g v = c) {u : Int → Int} (hu : colS (coolV V h) (putS v c) = u) : fX7_flyHour_b59 (E.1 + p) (iI h) (iI a) (iI (s * 24 + h)) (St E (lw B (p + 1) a v)) = some (St E (lw (wA (seB (wA B (p + 4) (s * 24 + h) (bI (¬ c = v 1 * 8 + v 0))) p h (selD V u w) w) (p + 5) (s * 24 + h) (selD V u w)) (p + 1) a (selS V (selD V u w) u))) := by
  have b4 := hV.2.2.2.1
  have cc := carS_in (w' := V.2.1 (v 2) h) (g := g) hV hi
  have hp := putS_in hi cc
  rw [hc] at cc hp
  have hu2 := colS_in (b := coolV V h) hp
  rw [hu] at hu2
  have hcar := f7_carry P hd hk a0 a1 hi hV (VM_l (a := a) (v := v) hM (r := p + 1) (by omega)) hn h0 h1 hg hg2
  rw [hc] at hcar
  have hM1 : VM (wA B (p + 4) (s * 24 + h) (bI (¬ c = v 1 * 8 + v 0))) d V := VM_w hM (by omega)
  have hM2 : ∀ u, VM (lw (wA B (p + 4) (s * 24 + h) (bI (¬ c = v 1 * 8 + v 0))) (p + 1) a u) d V := fun u => VM_l hM1 (by omega)
  have hw2 : ∀ i, 0 ≤ i → i < V.1 9 → (wA B (p + 4) (s * 24 + h) (bI (¬ c = v 1 * 8 + v 0))).2.2.2.1 (p + 2) ((h + 1) * 5 + i) = w i := fun i i1 i2 => by rw [wA_4, if_neg (by omega), hw i i1 i2]
  have g6 : ∀ u, gR (St E (lw (wA B (p + 4) (s * 24 + h) (bI (¬ c = v 1 * 8 + v 0))) (p + 1) a u)) (E.1 + p) 7 6 = some (E.1 + d) := fun _ => g7_6 P.1 hd
  have fin := f7_106 (B := wA B (p + 4) (s * 24 + h) (bI (¬ c = v 1 * 8 + v 0))) P hd hk a0 a1 hu2 hV (hM2 u) hn h0 (show h < 24 by omega) s0 s1 hw2 hwi
  have hco := s_coolsIn (z := h) hk (VM_vw (hM2 (putS v c)) hV hn) h0 (by omega)
  have m5 : (lw (wA B (p + 4) (s * 24 + h) (bI (¬ c = v 1 * 8 + v 0))) (p + 1) a (putS v c)).1 d 5 = V.1 5 := (hM2 (putS v c)).1 5
  rw [m5] at hco
  have p2 : 0 ≤ putS v c 2 ∧ putS v c 2 < V.1 3 := hp.2.2.1
  have b3 := hV.2.2.1
  simp (disch := omega) only [fX7_flyHour_b59, g7_3 P.1, g7_0 P.1, some_bind, hcar, sZ_ok P.2.2.2.2.1 (z := s * 24 + h) (by omega) (by omega) (by omega) bI_01, lw_c, g6, hco, iI_0, ib, iI_add, aI_ok P.2.1, lw_g, iI_le, iI_sub, sI_ok P.2.1, lw_w]
  unfold colS coolV at hu
  by_cases q : 0 < V.1 5 ∧ (h + 1) % V.1 5 = 0
  · rw [if_pos q]
    rw [bI_t q] at hu
    by_cases q2 : putS v c 2 ≤ 0
    · rw [if_neg (by omega)] at hu
      rw [if_pos q2, hu]
      exact fin
    · rw [if_pos ⟨rfl, by omega⟩] at hu
      rw [if_neg q2, hu]
      exact fin
  · rw [if_neg q]
    rw [bI_f q, if_neg (by omega)] at hu
    rw [hu]
    exact fin
theorem f7_flyHour (P : PK E p) (hd : B.2.2.1 p 6 = some d) (hk : VK E d) (hq : d + 5 < p ∨ p + 6 < d) (hi : inS V h v) (hV : VOK V) (hM : VM B d V) (hn : 0 ≤ B.1 d 0 ∧ B.1 d 0 ≤ 1600) (h0 : 0 ≤ h) (h1 : h < V.1 4) (s0 : 0 ≤ s) (s1 : s < V.1 8) (hv : ∀ k, 0 ≤ k → k < 7 → B.2.2.2.1 (p + 1) ((h + 1) * 28 + s * 7 + k) = v k) (hw : ∀ i, 0 ≤ i → i < V.1 9 → B.2.2.2.1 (p + 2) ((h + 1) * 5 + i) = w i) (hwi : inW V w) (hg : ∀ l, 0 ≤ l → l < V.1 3 → B.2.2.2.1 (p + 6) l = V.2.2.2.2.2 l h) : fX7_flyHour (E.1 + p) (iI s) (iI h) (St E B) = some (St E (hB V p h s v w B)) := by
  have b3 := hV.2.2.1
  have b4 := hV.2.2.2.1
  have b8 := hV.2.2.2.2.2.2.2.1
  have ba := hV.2.2.2.2.2.2.2.2.2.2.2.2.1 s h s0 s1 h0 h1
  have bg := hV.2.2.2.2.2.2.2.2.2.2.2.2.2
  have e0 : B = lw B (p + 1) ((h + 1) * 28 + s * 7) v := (lw_eq hv).symm
  have g6 : gR (St E B) (E.1 + p) 7 6 = some (E.1 + d) := g7_6 P.1 hd
  have hr := f7_reason P hd hk (a := (h + 1) * 28 + s * 7) (by omega) (by omega) hi hV hM ba.1 ba.2
  have wr : ∀ u, whyS (V.1 3) (V.2.2.2.2.1 s h) u = 0 ∨ whyS (V.1 3) (V.2.2.2.2.1 s h) u = 1 ∨ whyS (V.1 3) (V.2.2.2.2.1 s h) u = 2 ∨ whyS (V.1 3) (V.2.2.2.2.1 s h) u = 3 ∨ whyS (V.1 3) (V.2.2.2.2.1 s h) u = 4 := fun u => by
    unfold whyS
    repeat' split
    all_goals omega
  have wr := wr v
  have ss := st1_in (s := s) hi
  have fin := f7_59 (B := wA B (p + 3) (s * 24 + h) (whyS (V.1 3) (V.2.2.2.2.1 s h) v)) (a := (h + 1) * 28 + s * 7) (v := st1 V h s v) (w := w) (g := V.2.2.2.2.2 (st1 V h s v 2) h) P hd hk hq (by omega) (by omega) ss hV (VM_w hM (by omega)) hn h0 h1 s0 (by omega)
    (fun i i1 i2 => by rw [wA_4, if_neg (by omega), hw i i1 i2]) hwi (by rw [wA_4, if_neg (by omega), hg _ ss.2.2.1.1 ss.2.2.1.2]) (bg _ _ ss.2.2.1.1 ss.2.2.1.2 h0 h1) rfl rfl
  have s24 : 0 ≤ s * 24 + h ∧ s * 24 + h < 96 := by omega
  unfold hB
  have e1 : ∀ x, (lw (wA B (p + 3) (s * 24 + h) x) (p + 1) ((h + 1) * 28 + s * 7) v).2.2.2.1 (p + 3) (s * 24 + h) = x := fun x => by rw [lw_o (by omega), wA_4, if_pos ⟨rfl, rfl⟩]
  rw [← e0] at hr
  simp (disch := omega) only [fX7_flyHour, c7 P.1, f7_page P, some_bind, lt_, iI_add, iI_mul, g6, s_actAt hk, hM.2.2.2.2, g7_2 P.1, hr, sI_ok P.2.2.2.1]
  conv => lhs; rw [e0]
  simp (disch := omega) only [lw_c, g7_2 P.1, some_bind, aI_ok P.2.2.2.1, e1, iI_0, iI_eq, f7_doAct P]
  by_cases q : whyS (V.1 3) (V.2.2.2.2.1 s h) v = 0
  · have e : st1 V h s v = doS (V.2.2.2.2.1 s h) v := if_pos q
    rw [if_pos q, ← e]
    exact fin
  · have e : st1 V h s v = v := if_neg q
    rw [if_neg q]
    refine Eq.trans ?_ fin
    rw [e]
end VZ
