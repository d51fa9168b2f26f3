/-! how many spots, how many columns -/
section SN
variable {E : Ev} {X : Bk} {V : Vy} {x y l f g m u v : Int}
def onN (b : Bool) : Nat := if b = true then 1 else 0
/-- spots of a column -/
def spL (X : Bk) (x y : Int) (n : Nat) : Nat := smN (fun l => onN (anyS X x y (l : Int))) n
/-- what a column counts -/
def spY (w : Nat) (k : Nat) : Nat := if w = 0 then k else if k = 0 then 0 else 1
def spX (X : Bk) (w : Nat) (x : Int) (n ly : Nat) : Nat := smN (fun y => spY w (spL X x (y : Int) ly)) n
def spA (X : Bk) (w n dp ly : Nat) : Nat := smN (fun x => spX X w (x : Int) dp ly) n
theorem smN_le {p : Nat → Nat} {c : Nat} (h : ∀ j, p j ≤ c) : ∀ n, smN p n ≤ n * c
  | 0 => by
    unfold smN
    omega
  | n + 1 => by
    unfold smN
    have := smN_le h n
    have := h n
    rw [Nat.succ_mul]
    omega
theorem spL_le {n : Nat} : spL X x y n ≤ n := by
  have := smN_le (p := fun l => onN (anyS X x y (l : Int))) (c := 1) (fun j => by unfold onN; split <;> omega) n
  unfold spL
  omega
theorem spY_le {w k c : Nat} (h : k ≤ c) : spY w k ≤ c := by
  unfold spY
  split
  · exact h
  · split <;> omega
/-- the reference's numbers, bounds of them -/
theorem MP_num (P : MP X V) : X.2.2.2.1 (mo + 7) 0 = V.1 1 ∧ X.2.2.2.1 (mo + 7) 1 = V.1 2 ∧ X.2.2.2.1 (mo + 7) 2 = V.1 3 ∧ X.2.2.2.1 (mo + 7) 3 = V.1 4 := ⟨P.1.1.1, P.1.1.2.1, P.1.1.2.2.1, P.1.1.2.2.2.1⟩
set_option maxHeartbeats 200000 in
theorem m_sp1 {s : Hp} {x1 x2 : Int32} {ly : Nat} (rm : mKd E mo) (P : MP X V) (hl : V.1 3 = (ly : Int)) (x0 : 0 ≤ x ∧ x < 8) (y0 : 0 ≤ y ∧ y < 8) (hs : anyF E X s) : ∃ s', iter (fX9_spotsNow_l34 (E.1 + mo) x1 x2 (iI x) (iI y)) FU (iI 0, iI 0, s) = some (iI (spL X x y ly : Int), s') ∧ anyF E X s' := by
  have v3 := P.2.1.2.2.1
  have nm := (MP_num P).2.2.1
  rw [hl] at nm
  obtain ⟨r, h1, s', h2, h3⟩ := iter_acc (F := fX9_spotsNow_l34 (E.1 + mo) x1 x2 (iI x) (iI y)) (fun j a => ∃ s', a = (iI (spL X x y j : Int), iI (j : Int), s') ∧ anyF E X s') ly (fun r => ∃ s', r = (iI (spL X x y ly : Int), s') ∧ anyF E X s')
    (fun j a hj ha => by
      obtain ⟨s', rfl, h3⟩ := ha
      obtain ⟨s2, r, g1, g2, g3⟩ := m_mostLeft (E := E) (X := X) (l := (j : Int)) rm x0 y0 (by omega) h3
      obtain ⟨a1, a2, a3⟩ := mtS_any g3
      have sl : (spL X x y (j + 1) : Int) = (spL X x y j : Int) + (onN (anyS X x y (j : Int)) : Int) := by
        show ((smN (fun l => onN (anyS X x y (l : Int))) j + onN (anyS X x y (j : Int)) : Nat) : Int) = _
        rw [Int.natCast_add]
        rfl
      refine ⟨(iI (spL X x y (j + 1) : Int), iI ((j + 1 : Nat) : Int), s2), ?_, s2, rfl, g2⟩
      obtain ⟨x', y', l', f', g', m', u, v, rfl⟩ := h3
      unfold fX9_spotsNow_l34
      dsimp only
      rw [g9_17 rm.1, some_bind, aI_ok (mk7 rm) (by omega) (by omega) (by omega), some_bind, frW_2, nm, if_neg (by rw [iI_le (by omega) (by omega) (by omega) (by omega)]; omega), g1, some_bind]
      dsimp only
      unfold fX9_spotsNow_b65 lt_
      by_cases q : anyS X x y (j : Int) = false
      · rw [if_pos (congrArg iI (a1.mpr q)), iI_add, iI_add, sl, q]
        rfl
      · rw [if_neg (fun w => q (a1.mp ((iI_eq (by omega) (by omega) (by omega) (by omega)).mp w))), iI_add, iI_add, sl, show anyS X x y (j : Int) = true by simpa using q]
        rfl)
    (fun a ha => by
      obtain ⟨s', rfl, h3⟩ := ha
      refine ⟨_, ?_, s', rfl, h3⟩
      obtain ⟨x', y', l', f', g', m', u, v, rfl⟩ := h3
      unfold fX9_spotsNow_l34
      dsimp only
      rw [g9_17 rm.1, some_bind, aI_ok (mk7 rm) (by omega) (by omega) (by omega), some_bind, frW_2, nm, if_pos (by rw [iI_le (by omega) (by omega) (by omega) (by omega)]; omega)]) (N := FU) (by show ly < 1000000; omega) (a := (iI 0, iI 0, s)) ⟨s, rfl, hs⟩
  subst h2
  exact ⟨s', h1, h3⟩
/-- one column more -/
theorem m_sp0 {s s2 : Hp} {w k : Nat} {a : Int} {x3 : Int32} {j : Int} {z : Nat} (hw : w ≤ 1) (hk : k ≤ 5) : (if iI (w : Int) = 0 then fX9_spotsNow_b88 z (iI (w : Int)) x3 (iI j) (iI (k : Int)) (iI a) s2 else if iI (k : Int) ≤ 0 then fX9_spotsNow_b88 z (iI (w : Int)) x3 (iI j) (iI (k : Int)) (iI a) s2 else fX9_spotsNow_b90 z (iI (w : Int)) x3 (iI j) (iI a) (iI 1) s2) = some (.inl (iI (a + (spY w k : Int)), iI (j + 1), s2)) := by
  have z0 : iI 0 = 0 := rfl
  unfold fX9_spotsNow_b88 fX9_spotsNow_b90 lt_
  rw [iI_add, iI_add, iI_add, ← z0]
  unfold spY
  by_cases q : w = 0
  · rw [if_pos (by rw [q]; rfl), if_pos q]
  · rw [if_neg (fun h => q (by have := (iI_eq (by omega) (by omega) (by omega) (by omega)).mp h; omega)), if_neg q]
    by_cases e : k = 0
    · rw [if_pos ((iI_le (by omega) (by omega) (by omega) (by omega)).mpr (by omega)), if_pos e, e]
    · rw [if_neg (fun h => e (by have := (iI_le (by omega) (by omega) (by omega) (by omega)).mp h; omega)), if_neg e]
      rfl
theorem m_sp2 {s : Hp} {w ly dq : Nat} {a : Int} (rm : mKd E mo) (P : MP X V) (hl : V.1 3 = (ly : Int)) (hd : V.1 2 = (dq : Int)) (hw : w ≤ 1) (x0 : 0 ≤ x ∧ x < 8) (hs : anyF E X s) : ∃ s', iter (fX9_spotsNow_l17 (E.1 + mo) (iI (w : Int)) (iI x)) FU (iI a, iI 0, s) = some (iI (a + (spX X w x dq ly : Int)), s') ∧ anyF E X s' := by
  have v2 := P.2.1.2.1
  have v3 := P.2.1.2.2.1
  have nm := (MP_num P).2.1
  rw [hd] at nm
  obtain ⟨r, h1, s', h2, h3⟩ := iter_acc (F := fX9_spotsNow_l17 (E.1 + mo) (iI (w : Int)) (iI x)) (fun j q => ∃ s', q = (iI (a + (spX X w x j ly : Int)), iI (j : Int), s') ∧ anyF E X s') dq (fun r => ∃ s', r = (iI (a + (spX X w x dq ly : Int)), s') ∧ anyF E X s')
    (fun j q hj ha => by
      obtain ⟨s', rfl, h3⟩ := ha
      obtain ⟨s2, g1, g2⟩ := m_sp1 (E := E) (X := X) (x1 := iI (w : Int)) (x2 := iI (a + (spX X w x j ly : Int))) (y := (j : Int)) rm P hl x0 (by omega) h3
      have sl : a + (spX X w x (j + 1) ly : Int) = a + (spX X w x j ly : Int) + (spY w (spL X x (j : Int) ly) : Int) := by
        show a + ((smN (fun y => spY w (spL X x (y : Int) ly)) j + spY w (spL X x (j : Int) ly) : Nat) : Int) = _
        rw [Int.natCast_add, ← Int.add_assoc]
        rfl
      have kb := spL_le (X := X) (x := x) (y := (j : Int)) (n := ly)
      refine ⟨(iI (a + (spX X w x (j + 1) ly : Int)), iI ((j + 1 : Nat) : Int), s2), ?_, s2, rfl, g2⟩
      obtain ⟨x', y', l', f', g', m', u, v, rfl⟩ := h3
      unfold fX9_spotsNow_l17
      dsimp only
      rw [g9_17 rm.1, some_bind, aI_ok (mk7 rm) (by omega) (by omega) (by omega), some_bind, frW_2, nm, if_neg (by rw [iI_le (by omega) (by omega) (by omega) (by omega)]; omega), g1, some_bind]
      dsimp only
      rw [m_sp0 (s := s2) hw (by omega), sl]
      rfl)
    (fun q ha => by
      obtain ⟨s', rfl, h3⟩ := ha
      refine ⟨_, ?_, s', rfl, h3⟩
      obtain ⟨x', y', l', f', g', m', u, v, rfl⟩ := h3
      unfold fX9_spotsNow_l17
      dsimp only
      rw [g9_17 rm.1, some_bind, aI_ok (mk7 rm) (by omega) (by omega) (by omega), some_bind, frW_2, nm, if_pos (by rw [iI_le (by omega) (by omega) (by omega) (by omega)]; omega)]) (N := FU) (by show dq < 1000000; omega) (a := (iI a, iI 0, s)) ⟨s, by
        show (iI a, iI 0, s) = (iI (a + ((0 : Nat) : Int)), iI ((0 : Nat) : Int), s)
        rw [show ((0 : Nat) : Int) = 0 from rfl, Int.add_zero], hs⟩
  subst h2
  exact ⟨s', h1, h3⟩
theorem m_spotsNow {s : Hp} {w ly dq wq : Nat} (rm : mKd E mo) (P : MP X V) (hl : V.1 3 = (ly : Int)) (hd : V.1 2 = (dq : Int)) (hq : V.1 1 = (wq : Int)) (hw : w ≤ 1) (hs : anyF E X s) : ∃ s', fX9_spotsNow (E.1 + mo) (iI (w : Int)) s = some (iI (spA X w wq dq ly : Int), s') ∧ anyF E X s' := by
  have v1 := P.2.1.1
  have nm := (MP_num P).1
  rw [hq] at nm
  obtain ⟨r, h1, s', h2, h3⟩ := iter_acc (F := fX9_spotsNow_l4 (E.1 + mo) (iI (w : Int))) (fun j q => ∃ s', q = (iI (spA X w j dq ly : Int), iI (j : Int), s') ∧ anyF E X s') wq (fun r => ∃ s', r = (iI (spA X w wq dq ly : Int), s') ∧ anyF E X s')
    (fun j q hj ha => by
      obtain ⟨s', rfl, h3⟩ := ha
      obtain ⟨s2, g1, g2⟩ := m_sp2 (E := E) (X := X) (a := (spA X w j dq ly : Int)) (x := (j : Int)) rm P hl hd hw (by omega) h3
      have sl : (spA X w (j + 1) dq ly : Int) = (spA X w j dq ly : Int) + (spX X w (j : Int) dq ly : Int) := by
        show ((smN (fun x => spX X w (x : Int) dq ly) j + spX X w (j : Int) dq ly : Nat) : Int) = _
        rw [Int.natCast_add]
        rfl
      refine ⟨(iI (spA X w (j + 1) dq ly : Int), iI ((j + 1 : Nat) : Int), s2), ?_, s2, rfl, g2⟩
      obtain ⟨x', y', l', f', g', m', u, v, rfl⟩ := h3
      unfold fX9_spotsNow_l4
      dsimp only
      rw [g9_17 rm.1, some_bind, aI_ok (mk7 rm) (by omega) (by omega) (by omega), some_bind, frW_2, nm, if_neg (by rw [iI_le (by omega) (by omega) (by omega) (by omega)]; omega), g1, some_bind, sl, iI_add]
      rfl)
    (fun q ha => by
      obtain ⟨s', rfl, h3⟩ := ha
      refine ⟨_, ?_, s', rfl, h3⟩
      obtain ⟨x', y', l', f', g', m', u, v, rfl⟩ := h3
      unfold fX9_spotsNow_l4
      dsimp only
      rw [g9_17 rm.1, some_bind, aI_ok (mk7 rm) (by omega) (by omega) (by omega), some_bind, frW_2, nm, if_pos (by rw [iI_le (by omega) (by omega) (by omega) (by omega)]; omega)]) (N := FU) (by show wq < 1000000; omega) (a := (iI 0, iI 0, s)) ⟨s, rfl, hs⟩
  subst h2
  refine ⟨s', ?_, h3⟩
  obtain ⟨x', y', l', f', g', m', u, v, rfl⟩ := hs
  unfold fX9_spotsNow
  rw [c9 rm.1, some_bind, h1, some_bind]
end SN
