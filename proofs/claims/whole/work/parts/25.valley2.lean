/-! copies of rows; class Valley, second half -/
def cpA (B : Bk) (a : Nat) (sp : Int) (d : Nat) (dp n : Int) : Bk := (B.1, B.2.1, B.2.2.1, fun e z => if e = d ∧ dp ≤ z ∧ z < dp + n then B.2.2.2.1 a (sp + (z - dp)) else B.2.2.2.1 e z, B.2.2.2.2)
def cpJ (B : Bk) (a : Nat) (sp : Int) (d : Nat) (dp n : Int) : Bk := (B.1, B.2.1, B.2.2.1, B.2.2.2.1, fun e z => if e = d ∧ dp ≤ z ∧ z < dp + n then B.2.2.2.2 a (sp + (z - dp)) else B.2.2.2.2 e z)
/-- places 0 .. n - 1 of a row hold v -/
def flA (B : Bk) (d : Nat) (n v : Int) : Bk := (B.1, B.2.1, B.2.2.1, fun e z => if e = d ∧ 0 ≤ z ∧ z < n then v else B.2.2.2.1 e z, B.2.2.2.2)
def flJ (B : Bk) (d : Nat) (n : Int) (v : Int64) : Bk := (B.1, B.2.1, B.2.2.1, B.2.2.2.1, fun e z => if e = d ∧ 0 ≤ z ∧ z < n then v else B.2.2.2.2 e z)
theorem flA_0 {B : Bk} {d : Nat} {v : Int} : flA B d 0 v = B := by
  unfold flA
  congr 3
  have : (fun (e : Nat) (z : Int) => if e = d ∧ 0 ≤ z ∧ z < 0 then v else B.2.2.2.1 e z) = B.2.2.2.1 := by
    funext e z
    rw [if_neg (by omega)]
  rw [this]
theorem flA_s {B : Bk} {d : Nat} {v i : Int} (h : 0 ≤ i) : wA (flA B d i v) d i v = flA B d (i + 1) v := by
  unfold flA wA
  simp only
  have : (upA (fun (e : Nat) (z : Int) => if e = d ∧ 0 ≤ z ∧ z < i then v else B.2.2.2.1 e z) d i v) = (fun e z => if e = d ∧ 0 ≤ z ∧ z < i + 1 then v else B.2.2.2.1 e z) := by
    funext e z
    unfold upA
    dsimp only
    by_cases h1 : e = d ∧ z = i
    · rw [if_pos h1, if_pos ⟨h1.1, by omega, by omega⟩]
    · rw [if_neg h1]
      by_cases h2 : e = d ∧ 0 ≤ z ∧ z < i
      · rw [if_pos h2, if_pos ⟨h2.1, h2.2.1, by omega⟩]
      · rw [if_neg h2, if_neg (by omega)]
  rw [this]
theorem flJ_0 {B : Bk} {d : Nat} {v : Int64} : flJ B d 0 v = B := by
  unfold flJ
  have : (fun (e : Nat) (z : Int) => if e = d ∧ 0 ≤ z ∧ z < 0 then v else B.2.2.2.2 e z) = B.2.2.2.2 := by
    funext e z
    rw [if_neg (by omega)]
  rw [this]
theorem flJ_s {B : Bk} {d : Nat} {v : Int64} {i : Int} (h : 0 ≤ i) : wJ (flJ B d i v) d i v = flJ B d (i + 1) v := by
  unfold flJ wJ
  simp only
  have : (upA (fun (e : Nat) (z : Int) => if e = d ∧ 0 ≤ z ∧ z < i then v else B.2.2.2.2 e z) d i v) = (fun e z => if e = d ∧ 0 ≤ z ∧ z < i + 1 then v else B.2.2.2.2 e z) := by
    funext e z
    unfold upA
    dsimp only
    by_cases h1 : e = d ∧ z = i
    · rw [if_pos h1, if_pos ⟨h1.1, by omega, by omega⟩]
    · rw [if_neg h1]
      by_cases h2 : e = d ∧ 0 ≤ z ∧ z < i
      · rw [if_pos h2, if_pos ⟨h2.1, h2.2.1, by omega⟩]
      · rw [if_neg h2, if_neg (by omega)]
  rw [this]
section CP
variable {E : Ev} {B : Bk} {a d : Nat}
theorem cp_ok {n0 n1 : Nat} {sp dp n : Int} (ha : KD E a 20 n0) (hd : KD E d 20 n1) (h0 : 0 ≤ sp) (h1 : 0 ≤ dp) (h2 : 0 ≤ n) (h3 : sp + n ≤ n0) (h4 : dp + n ≤ n1) (h5 : n0 ≤ 2147483646) (h6 : n1 ≤ 2147483646) : cpV (St E B) 20 (E.1 + a) (iI sp) (E.1 + d) (iI dp) (iI n) = some (St E (cpA B a sp d dp n)) := by
  have k : ∀ z : Int, 0 ≤ z → z < 2147483647 → ¬ iI z < 0 ∧ ((iI z).toNatClampNeg : Int) = z := fun z g0 g1 => by
    have e := iI_cl (z := z) (n := 2147483647) g0 (by omega) (by decide)
    exact ⟨fun q => e.1 (Or.inl q), e.2⟩
  obtain ⟨s1, s2⟩ := k sp h0 (by omega)
  obtain ⟨d1, d2⟩ := k dp h1 (by omega)
  obtain ⟨n1', n2'⟩ := k n h2 (by omega)
  unfold cpV
  rw [St_at ha.1, St_at hd.1, cellB_1, cellB_1, cellB_2, cellB_2, ha.2, hd.2, if_pos ⟨rfl, rfl, s1, d1, n1', by omega, by omega⟩]
  congr 1
  refine St_cu hd.1 ?_ (fun e he => ?_)
  · rw [hd.2]
    have e3 : ∀ X Y : PC, X.1 = Y.1 → X.2.1 = Y.2.1 → X.2.2 = Y.2.2 → X = Y := fun X Y a b c => by
      obtain ⟨x1, x2, x3⟩ := X
      obtain ⟨y1, y2, y3⟩ := Y
      simp only at a b c
      rw [a, b, c]
    refine e3 _ _ ?_ ?_ ?_
    · rw [cellB_1]
    · rw [cellB_2]
    · funext j
      rw [cellB_i (Or.inl rfl)]
      show va_cpy (cellB E.1 (20, n0) B a).2.2 (cellB E.1 (20, n1) B d).2.2 _ _ _ j = _
      unfold va_cpy cpA
      dsimp only
      by_cases hj : (iI dp).toNatClampNeg ≤ j ∧ j < (iI dp).toNatClampNeg + (iI n).toNatClampNeg
      · rw [if_pos hj, if_pos ⟨rfl, by omega, by omega⟩, cellB_i (Or.inl rfl)]
        have e : (((iI sp).toNatClampNeg + (j - (iI dp).toNatClampNeg) : Nat) : Int) = sp + ((j : Int) - dp) := by omega
        rw [e]
      · rw [if_neg hj, if_neg (by omega), cellB_i (Or.inl rfl)]
  · unfold cellB
    simp only [cpA, fv]
    split
    · rfl
    · split
      · rfl
      · split
        · congr 2
          funext k
          rw [if_neg (fun q => he q.1)]
        · rfl
theorem cpL_ok {n0 n1 : Nat} {sp dp n : Int} (ha : KD E a 21 n0) (hd : KD E d 21 n1) (h0 : 0 ≤ sp) (h1 : 0 ≤ dp) (h2 : 0 ≤ n) (h3 : sp + n ≤ n0) (h4 : dp + n ≤ n1) (h5 : n0 ≤ 2147483646) (h6 : n1 ≤ 2147483646) : cpV (St E B) 21 (E.1 + a) (iI sp) (E.1 + d) (iI dp) (iI n) = some (St E (cpJ B a sp d dp n)) := by
  have k : ∀ z : Int, 0 ≤ z → z < 2147483647 → ¬ iI z < 0 ∧ ((iI z).toNatClampNeg : Int) = z := fun z g0 g1 => by
    have e := iI_cl (z := z) (n := 2147483647) g0 (by omega) (by decide)
    exact ⟨fun q => e.1 (Or.inl q), e.2⟩
  obtain ⟨s1, s2⟩ := k sp h0 (by omega)
  obtain ⟨d1, d2⟩ := k dp h1 (by omega)
  obtain ⟨n1', n2'⟩ := k n h2 (by omega)
  unfold cpV
  rw [St_at ha.1, St_at hd.1, cellB_1, cellB_1, cellB_2, cellB_2, ha.2, hd.2, if_pos ⟨rfl, rfl, s1, d1, n1', by omega, by omega⟩]
  congr 1
  refine St_cu hd.1 ?_ (fun e he => ?_)
  · rw [hd.2]
    have e3 : ∀ X Y : PC, X.1 = Y.1 → X.2.1 = Y.2.1 → X.2.2 = Y.2.2 → X = Y := fun X Y a b c => by
      obtain ⟨x1, x2, x3⟩ := X
      obtain ⟨y1, y2, y3⟩ := Y
      simp only at a b c
      rw [a, b, c]
    refine e3 _ _ ?_ ?_ ?_
    · rw [cellB_1]
    · rw [cellB_2]
    · funext j
      rw [cellB_l rfl]
      show va_cpy (cellB E.1 (21, n0) B a).2.2 (cellB E.1 (21, n1) B d).2.2 _ _ _ j = _
      unfold va_cpy cpJ
      dsimp only
      by_cases hj : (iI dp).toNatClampNeg ≤ j ∧ j < (iI dp).toNatClampNeg + (iI n).toNatClampNeg
      · rw [if_pos hj, if_pos ⟨rfl, by omega, by omega⟩, cellB_l rfl]
        have e : (((iI sp).toNatClampNeg + (j - (iI dp).toNatClampNeg) : Nat) : Int) = sp + ((j : Int) - dp) := by omega
        rw [e]
      · rw [if_neg hj, if_neg (by omega), cellB_l rfl]
  · unfold cellB
    simp only [cpJ, fv]
    split
    · rfl
    · split
      · congr 2
        funext k
        rw [if_neg (fun q => he q.1)]
      · rfl
end CP
section V2
variable {E : Ev} {B : Bk} {d : Nat}
theorem s_shopColumn {s : Int} (h : VK E d) (h1 : 0 ≤ s) (h2 : s < 4) : fX6_shopColumn (E.1 + d) (iI s) (St E B) = some (iI (B.2.2.2.1 (d + 2) (s * 6 + 1) * 8 + B.2.2.2.1 (d + 2) (s * 6)), St E B) := by
  simp only [fX6_shopColumn, c6 h.1, some_bind, s_shopFact h h1 h2 (by decide : (0 : Int) ≤ 0) (by decide), s_shopFact h h1 h2 (by decide : (0 : Int) ≤ 1) (by decide), s_columnOf, Int.add_zero]
/-- the door that stands in a column, by the valley's own rows -/
def drAt (B : Bk) (d : Nat) (c : Int) : Int :=
  let m := lf (fun i => B.2.2.2.1 (d + 3) (i * 3 + 1) * 8 + B.2.2.2.1 (d + 3) (i * 3) = c) (B.1 d 9).toNat 0
  if m < B.1 d 9 then m else -1
theorem s_doorAt {c : Int} (h : VK E d) (hw : VW B d) (hc : i32 c) (hb : ∀ i, 0 ≤ i → i < B.1 d 9 → i32 (B.2.2.2.1 (d + 3) (i * 3 + 1) * 8 + B.2.2.2.1 (d + 3) (i * 3))) : fX6_doorAt (E.1 + d) (iI c) (St E B) = some (iI (drAt B d c), St E B) := by
  obtain ⟨-, -, -, -, -, -, -, -, -, w9⟩ := hw
  have hd : ∀ i, 0 ≤ i → i < 5 → (fX6_doorFact (E.1 + d) (iI i) (iI 0) (St E B) = some (iI (B.2.2.2.1 (d + 3) (i * 3)), St E B)) := fun i h1 h2 => by
    rw [s_doorFact h h1 h2 (by decide : (0 : Int) ≤ 0) (by decide), Int.add_zero]
  obtain ⟨l1, l2, l3, l4⟩ := lf_spec (fun i => B.2.2.2.1 (d + 3) (i * 3 + 1) * 8 + B.2.2.2.1 (d + 3) (i * 3) = c) (B.1 d 9).toNat 0
  unfold drAt
  dsimp only
  generalize lf (fun i => B.2.2.2.1 (d + 3) (i * 3 + 1) * 8 + B.2.2.2.1 (d + 3) (i * 3) = c) (B.1 d 9).toNat 0 = m at l1 l2 l3 l4 ⊢
  have step : ∀ j, 0 ≤ j → j < B.1 d 9 → fX6_doorAt_l2 (E.1 + d) (iI c) (iI j, St E B) = if B.2.2.2.1 (d + 3) (j * 3 + 1) * 8 + B.2.2.2.1 (d + 3) (j * 3) = c then some (.inr (.inr (iI j, St E B))) else some (.inl (iI (j + 1), St E B)) := fun j g1 g2 => by
    have b1 := hb j g1 g2
    obtain ⟨c1, c2⟩ := hc
    obtain ⟨b2, b3⟩ := b1
    simp (disch := omega) only [fX6_doorAt_l2, g6_9 h.1, some_bind, iI_le, hd j g1 (by omega), s_doorFact h g1 (by omega : j < 5) (by decide : (0 : Int) ≤ 1) (by decide), s_columnOf, iI_eq, iI_add]
    rw [if_neg (by omega)]
  simp only [fX6_doorAt, c6 h.1, some_bind]
  by_cases hm : m < B.1 d 9
  · rw [if_pos hm, iter_for (S := fun j => (iI j, St E B)) 0 m (.inr (iI m, St E B)) (fun j g1 g2 => by rw [step j g1 (by omega), if_neg (l3 j g1 g2)]) (by rw [step m l1 hm, if_pos (l4 (by omega))]) l1 (FU_big (by omega))]
    rfl
  · rw [if_neg hm, iter_for (S := fun j => (iI j, St E B)) 0 m (.inl (St E B)) (fun j g1 g2 => by rw [step j g1 (by omega), if_neg (l3 j g1 g2)]) (by
      have e : m = B.1 d 9 := by omega
      subst e
      simp (disch := omega) only [fX6_doorAt_l2, g6_9 h.1, some_bind, iI_le]
      rw [if_pos (by omega)]) l1 (FU_big (by omega))]
    rfl
theorem ish1 : ∀ k : Fin 31, ish (iI 1) (iI (k.val : Int)) = iI ((2 ^ k.val : Nat) : Int) := by decide +kernel
theorem ish_ok {k : Int} (h0 : 0 ≤ k) (h1 : k < 31) : ish (iI 1) (iI k) = iI ((2 ^ k.toNat : Nat) : Int) := by
  have := ish1 ⟨k.toNat, by omega⟩
  simp only at this
  rw [show ((k.toNat : Nat) : Int) = k by omega] at this
  exact this
theorem p2_le {k : Nat} (h : k ≤ 5) : (2 ^ k : Nat) ≤ 32 := Nat.le_trans (Nat.pow_le_pow_right (by decide) h) (by decide)
theorem s_hasDoors {z : Int} (hz : i32 z) (h : VK E d) (hw : VW B d) : fX6_hasDoors (E.1 + d) (iI z) (St E B) = some (iI (bI (0 ≤ z ∧ z < ((2 ^ (B.1 d 9).toNat : Nat) : Int))), St E B) := by
  obtain ⟨-, -, -, -, -, -, -, -, -, w9⟩ := hw
  obtain ⟨z1, z2⟩ := hz
  have hp := p2_le (k := (B.1 d 9).toNat) (by omega)
  simp (disch := omega) only [fX6_hasDoors, fX6_hasDoors_b18, c6 h.1, g6_9 h.1, some_bind, iI_0, iI_lt, ish_ok]
  generalize (2 ^ (B.1 d 9).toNat : Nat) = P at hp ⊢
  simp (disch := omega) only [iI_le]
  by_cases c : 0 ≤ z ∧ z < (P : Int)
  · rw [if_neg (by omega), if_neg (by omega), bI_t c]
  · rw [bI_f c]
    by_cases c2 : z < 0
    · rw [if_pos c2]
    · rw [if_neg c2, if_pos (by omega)]
/-- a change of the plan -/
def chV (B : Bk) (d : Nat) (s hr x : Int) : Bk := wA (wI (wA (wA (wA (wA B (d + 5) (B.1 d 13 * 4) s) (d + 5) (B.1 d 13 * 4 + 1) hr) (d + 5) (B.1 d 13 * 4 + 2) x) (d + 5) (B.1 d 13 * 4 + 3) (B.2.2.2.1 (d + 4) (s * 24 + hr))) d 13 (B.1 d 13 + 1)) (d + 4) (s * 24 + hr) x
theorem s_change {s k x : Int} (h : VK E d) (h1 : 0 ≤ s) (h2 : s < 4) (h3 : 0 ≤ k) (h4 : k < 24) (h5 : 0 ≤ B.1 d 13) (h6 : B.1 d 13 < 60) : fX6_change (E.1 + d) (iI s) (iI k) (iI x) (St E B) = some (iI (B.2.2.2.1 (d + 4) (s * 24 + k)), St E (chV B d s k x)) := by
  simp only [fX6_change, c6 h.1, s_actAt h h1 h2 h3 h4, some_bind, lt_, g6_13 h.1, g6_18 h.1, iI_mul, iI_add,
    sI_ok h.2.2.2.2.2 (show 0 ≤ B.1 d 13 * 4 by omega) (show B.1 d 13 * 4 < (240 : Nat) by omega) (by decide), sI_ok h.2.2.2.2.2 (show 0 ≤ B.1 d 13 * 4 + 1 by omega) (show B.1 d 13 * 4 + 1 < (240 : Nat) by omega) (by decide),
    sI_ok h.2.2.2.2.2 (show 0 ≤ B.1 d 13 * 4 + 2 by omega) (show B.1 d 13 * 4 + 2 < (240 : Nat) by omega) (by decide), sI_ok h.2.2.2.2.2 (show 0 ≤ B.1 d 13 * 4 + 3 by omega) (show B.1 d 13 * 4 + 3 < (240 : Nat) by omega) (by decide),
    p6_13 h.1, s_setAct h h1 h2 h3 h4, wA_1, chV]
/-- the latest change is taken back -/
def tkV (B : Bk) (d : Nat) : Bk := wA (wI B d 13 (B.1 d 13 - 1)) (d + 4) (B.2.2.2.1 (d + 5) ((B.1 d 13 - 1) * 4 + 0) * 24 + B.2.2.2.1 (d + 5) ((B.1 d 13 - 1) * 4 + 1)) (B.2.2.2.1 (d + 5) ((B.1 d 13 - 1) * 4 + 3))
theorem wI_self {j : Nat} {x : Int} : (wI B d j x).1 d j = x := by rw [wI_1, if_pos ⟨rfl, rfl⟩]
theorem s_takeBack (h : VK E d) (h5 : 0 < B.1 d 13) (h6 : B.1 d 13 ≤ 60) (g1 : 0 ≤ B.2.2.2.1 (d + 5) ((B.1 d 13 - 1) * 4 + 0)) (g2 : B.2.2.2.1 (d + 5) ((B.1 d 13 - 1) * 4 + 0) < 4) (g3 : 0 ≤ B.2.2.2.1 (d + 5) ((B.1 d 13 - 1) * 4 + 1)) (g4 : B.2.2.2.1 (d + 5) ((B.1 d 13 - 1) * 4 + 1) < 24) : fX6_takeBack (E.1 + d) (St E B) = some (St E (tkV B d)) := by
  simp only [fX6_takeBack, c6 h.1, g6_13 h.1, some_bind, iI_sub, p6_13 h.1, wI_self, s_changeFact h (show 0 ≤ B.1 d 13 - 1 by omega) (show B.1 d 13 - 1 < 60 by omega) (by decide : (0 : Int) ≤ 0) (by decide), s_changeFact h (show 0 ≤ B.1 d 13 - 1 by omega) (show B.1 d 13 - 1 < 60 by omega) (by decide : (0 : Int) ≤ 1) (by decide),
    s_changeFact h (show 0 ≤ B.1 d 13 - 1 by omega) (show B.1 d 13 - 1 < 60 by omega) (by decide : (0 : Int) ≤ 3) (by decide), wI_2, s_setAct h g1 g2 g3 g4, tkV]
def clV (B : Bk) (d : Nat) : Bk := flA (flA (fun e j => if e = d ∧ j < 14 then (if j = 10 then -1 else 0) else B.1 e j, B.2) (d + 1) 120 (-1)) (d + 4) 96 0
theorem s_clear (h : VK E d) : fX6_clear (E.1 + d) (St E B) = some (St E (clV B d)) := by
  simp only [fX6_clear, c6 h.1, some_bind, p6_0 h.1, p6_1 h.1, p6_2 h.1, p6_3 h.1, p6_4 h.1, p6_5 h.1, p6_6 h.1, p6_7 h.1, p6_8 h.1, p6_9 h.1, p6_10 h.1, p6_11 h.1, p6_12 h.1, p6_13 h.1]
  have e1 : wI (wI (wI (wI (wI (wI (wI (wI (wI (wI (wI (wI (wI (wI B d 0 0) d 1 0) d 2 0) d 3 0) d 4 0) d 5 0) d 6 0) d 7 0) d 8 0) d 9 0) d 10 (-1)) d 11 0) d 12 0) d 13 0 = (fun e j => if e = d ∧ j < 14 then (if j = 10 then -1 else 0) else B.1 e j, B.2) := by
    unfold wI up2
    dsimp only
    congr 1
    funext e j
    by_cases he : e = d
    · subst he
      by_cases hj : j < 14
      · rw [if_pos (show e = e ∧ j < 14 from ⟨rfl, hj⟩)]
        rcases (show j = 0 ∨ j = 1 ∨ j = 2 ∨ j = 3 ∨ j = 4 ∨ j = 5 ∨ j = 6 ∨ j = 7 ∨ j = 8 ∨ j = 9 ∨ j = 10 ∨ j = 11 ∨ j = 12 ∨ j = 13 by omega) with rfl | rfl | rfl | rfl | rfl | rfl | rfl | rfl | rfl | rfl | rfl | rfl | rfl | rfl <;> simp
      · rw [if_neg (show ¬ (e = e ∧ j < 14) by omega)]
        repeat rw [if_neg (by omega)]
    · simp [he]
  rw [e1]
  unfold clV
  generalize ((fun e j => if e = d ∧ j < 14 then (if j = 10 then -1 else 0) else B.1 e j, B.2) : Bk) = C
  have l1 : iter (fX6_clear_l72 (E.1 + d)) FU (iI 0, St E C) = some (St E (flA C (d + 1) 120 (-1))) := by
    have := iter_for (F := fX6_clear_l72 (E.1 + d)) (S := fun j => (iI j, St E (flA C (d + 1) j (-1)))) 0 120 (St E (flA C (d + 1) 120 (-1))) (fun j g1 g2 => by
      simp (disch := omega) only [fX6_clear_l72, g6_14 h.1, some_bind, aN_ok h.2.1 (by decide) (by decide), iI_le]
      rw [if_neg (by omega)]
      simp only [sI_ok h.2.1 g1 (show j < (120 : Nat) by omega) (by decide), some_bind, iI_add, flA_s g1]) (by
      simp (disch := omega) only [fX6_clear_l72, g6_14 h.1, some_bind, aN_ok h.2.1 (by decide) (by decide), iI_le]
      rw [if_pos (by omega)]) (by decide) (FU_big (by decide))
    simp only [flA_0] at this
    exact this
  rw [l1]
  simp only [some_bind]
  generalize flA C (d + 1) 120 (-1) = C2
  have l2 : iter (fX6_clear_l96 (E.1 + d)) FU (iI 0, St E C2) = some (St E (flA C2 (d + 4) 96 0)) := by
    have := iter_for (F := fX6_clear_l96 (E.1 + d)) (S := fun j => (iI j, St E (flA C2 (d + 4) j 0))) 0 96 (St E (flA C2 (d + 4) 96 0)) (fun j g1 g2 => by
      simp (disch := omega) only [fX6_clear_l96, g6_17 h.1, some_bind, aN_ok h.2.2.2.2.1 (by decide) (by decide), iI_le]
      rw [if_neg (by omega)]
      simp only [sI_ok h.2.2.2.2.1 g1 (show j < (96 : Nat) by omega) (by decide), some_bind, iI_add, flA_s g1]) (by
      simp (disch := omega) only [fX6_clear_l96, g6_17 h.1, some_bind, aN_ok h.2.2.2.2.1 (by decide) (by decide), iI_le]
      rw [if_pos (by omega)]) (by decide) (FU_big (by decide))
    simp only [flA_0] at this
    exact this
  rw [l2]
  rfl
end V2
