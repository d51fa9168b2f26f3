/-! winds are spread; both begin -/
def pwF (c : Int → Int) (l : Int) : Nat → Int := fo (fun h w => if c (l * 24 + h) = -1 then w else c (l * 24 + h)) 0
theorem pwF_s {c : Int → Int} {l : Int} {h : Nat} : pwF c l (h + 1) = if c (l * 24 + h) = -1 then pwF c l h else c (l * 24 + h) := rfl
def spK (B : Bk) (m : Nat) (k : Int) : Bk := (B.1, B.2.1, B.2.2.1, fun e z => if e = m + 1 ∧ 0 ≤ z ∧ z < k then pwF (B.2.2.2.1 (m + 1)) (z / 24) ((z % 24).toNat + 1) else B.2.2.2.1 e z, B.2.2.2.2)
theorem spK_0 {B : Bk} {m : Nat} : spK B m 0 = B := by
  refine Prod.ext rfl (Prod.ext rfl (Prod.ext rfl (Prod.ext ?_ rfl)))
  funext e z
  show (if e = m + 1 ∧ 0 ≤ z ∧ z < 0 then _ else B.2.2.2.1 e z) = _
  rw [if_neg (by omega)]
theorem spK_s {B : Bk} {m : Nat} {k : Int} (h : 0 ≤ k) : wA (spK B m k) (m + 1) k (pwF (B.2.2.2.1 (m + 1)) (k / 24) ((k % 24).toNat + 1)) = spK B m (k + 1) := by
  refine Prod.ext rfl (Prod.ext rfl (Prod.ext rfl (Prod.ext ?_ rfl)))
  funext e z
  show (if e = m + 1 ∧ z = k then pwF (B.2.2.2.1 (m + 1)) (k / 24) ((k % 24).toNat + 1) else if e = m + 1 ∧ 0 ≤ z ∧ z < k then pwF (B.2.2.2.1 (m + 1)) (z / 24) ((z % 24).toNat + 1) else B.2.2.2.1 e z) = (if e = m + 1 ∧ 0 ≤ z ∧ z < k + 1 then pwF (B.2.2.2.1 (m + 1)) (z / 24) ((z % 24).toNat + 1) else B.2.2.2.1 e z)
  by_cases q : e = m + 1 ∧ z = k
  · obtain ⟨rfl, rfl⟩ := q
    rw [if_pos ⟨rfl, rfl⟩, if_pos ⟨rfl, h, by omega⟩]
  · rw [if_neg q]
    by_cases q2 : e = m + 1 ∧ 0 ≤ z ∧ z < k
    · rw [if_pos q2, if_pos ⟨q2.1, q2.2.1, by omega⟩]
    · rw [if_neg q2, if_neg (by omega)]
section SW
variable {E : Ev} {B : Bk} {m : Nat}
theorem pwF_b {c : Int → Int} {l : Int} (hc : ∀ h : Nat, h < 24 → -1 ≤ c (l * 24 + h) ∧ c (l * 24 + h) ≤ 4) : ∀ h : Nat, h ≤ 24 → 0 ≤ pwF c l h ∧ pwF c l h ≤ 4 := by
  intro h
  induction h with
  | zero => intro _; exact ⟨Int.le_refl 0, by show (0 : Int) ≤ 4; omega⟩
  | succ h ih =>
    intro hh
    have i := ih (by omega)
    have b := hc h (by omega)
    rw [pwF_s]
    split <;> omega
theorem s_spread (h : VK E m) (hc : ∀ z : Int, 0 ≤ z → z < 120 → -1 ≤ B.2.2.2.1 (m + 1) z ∧ B.2.2.2.1 (m + 1) z ≤ 4) : fX6_spreadWinds (E.1 + m) (St E B) = some (St E (spK B m 120)) := by
  have inner : ∀ l : Int, 0 ≤ l → l < 5 → iter (fX6_spreadWinds_l11 (E.1 + m) (iI l)) FU (iI 0, iI 0, St E (spK B m (l * 24))) = some (St E (spK B m ((l + 1) * 24))) := fun l l0 l1 => by
    have key := iter_for (F := fX6_spreadWinds_l11 (E.1 + m) (iI l)) (fun j => (iI (pwF (B.2.2.2.1 (m + 1)) l j.toNat), iI j, St E (spK B m (l * 24 + j)))) 0 24 (St E (spK B m ((l + 1) * 24))) (fun j j0 j1 => by
      have bb := hc (l * 24 + j) (by omega) (by omega)
      have pb := pwF_b (c := B.2.2.2.1 (m + 1)) (l := l) (fun h hh => hc (l * 24 + h) (by omega) (by omega)) j.toNat (by omega)
      have e1 : (spK B m (l * 24 + j)).2.2.2.1 (m + 1) (l * 24 + j) = B.2.2.2.1 (m + 1) (l * 24 + j) := by
        show (if m + 1 = m + 1 ∧ 0 ≤ l * 24 + j ∧ l * 24 + j < l * 24 + j then _ else _) = _
        rw [if_neg (by omega)]
      have e2 : pwF (B.2.2.2.1 (m + 1)) l (j + 1).toNat = if B.2.2.2.1 (m + 1) (l * 24 + j) = -1 then pwF (B.2.2.2.1 (m + 1)) l j.toNat else B.2.2.2.1 (m + 1) (l * 24 + j) := by
        rw [show (j + 1).toNat = j.toNat + 1 by omega, pwF_s, show ((j.toNat : Nat) : Int) = j by omega]
      have e3 : pwF (B.2.2.2.1 (m + 1)) ((l * 24 + j) / 24) (((l * 24 + j) % 24).toNat + 1) = pwF (B.2.2.2.1 (m + 1)) l (j + 1).toNat := by
        rw [show (l * 24 + j) / 24 = l by omega, show ((l * 24 + j) % 24).toNat + 1 = (j + 1).toNat by omega]
      have e4 := spK_s (B := B) (m := m) (k := l * 24 + j) (by omega)
      rw [e3] at e4
      have e5 : (spK B m (l * 24 + j + 1)).2.2.2.1 (m + 1) (l * 24 + j) = pwF (B.2.2.2.1 (m + 1)) l (j + 1).toNat := by
        show (if m + 1 = m + 1 ∧ 0 ≤ l * 24 + j ∧ l * 24 + j < l * 24 + j + 1 then pwF (B.2.2.2.1 (m + 1)) ((l * 24 + j) / 24) (((l * 24 + j) % 24).toNat + 1) else _) = _
        rw [if_pos ⟨rfl, by omega, by omega⟩, e3]
      have e6 : l * 24 + (j + 1) = l * 24 + j + 1 := by omega
      simp (disch := omega) only [fX6_spreadWinds_l11, fX6_spreadWinds_b44, iI_le, lt_, iI_mul, iI_add, g6_14 h.1, some_bind, aI_ok h.2.1, e1, iI_eq, sI_ok h.2.1]
      rw [if_neg (by omega)]
      by_cases q : B.2.2.2.1 (m + 1) (l * 24 + j) = -1
      · rw [if_pos q] at e2 ⊢
        rw [← e2, e4, e5, e6]
      · rw [if_neg q] at e2 ⊢
        have e7 : spK B m (l * 24 + j) = spK B m (l * 24 + j + 1) := by
          rw [← e4, e2]
          refine Prod.ext rfl (Prod.ext rfl (Prod.ext rfl (Prod.ext ?_ rfl)))
          funext e z
          show (spK B m (l * 24 + j)).2.2.2.1 e z = if e = m + 1 ∧ z = l * 24 + j then B.2.2.2.1 (m + 1) (l * 24 + j) else (spK B m (l * 24 + j)).2.2.2.1 e z
          by_cases q2 : e = m + 1 ∧ z = l * 24 + j
          · obtain ⟨rfl, rfl⟩ := q2
            rw [if_pos ⟨rfl, rfl⟩, e1]
          · rw [if_neg q2]
        rw [e2, e6, ← e7]) (by
      simp (disch := omega) only [fX6_spreadWinds_l11, iI_le]
      rw [if_pos (by omega), show l * 24 + 24 = (l + 1) * 24 by omega]) (by omega) (N := FU) (by have := FU_big (n := 24) (by omega); omega)
    rw [show l * 24 + (0 : Int) = l * 24 by omega] at key
    exact key
  have outer := iter_for (F := fX6_spreadWinds_l2 (E.1 + m)) (fun l => (iI l, St E (spK B m (l * 24)))) 0 5 (St E (spK B m 120)) (fun l l0 l1 => by
    simp (disch := omega) only [fX6_spreadWinds_l2, iI_le, inner l l0 l1, some_bind, iI_add]
    rw [if_neg (by omega)]) (by
    simp (disch := omega) only [fX6_spreadWinds_l2, iI_le]
    rw [if_pos (by omega)]
    rfl) (by omega) (N := FU) (by have := FU_big (n := 5) (by omega); omega)
  rw [show (0 : Int) * 24 = 0 by omega, spK_0] at outer
  simp only [fX6_spreadWinds, c6 h.1, some_bind, outer]
/-- the winds as told, spread, are the reference's -/
theorem lrw_sp {c w u : Int → Int} (H : LRw c w u) {l h : Int} (l0 : 0 ≤ l) (l1 : l < 5) (h0 : 0 ≤ h) (h1 : h < 24) : pwF c l (h.toNat + 1) = w (480 + (24 * l + h)) := by
  obtain ⟨o1, o2, o3, o4, o5⟩ := H l h l0 l1 h0 h1
  have run : ∀ a k : Nat, (∀ h' : Nat, a ≤ h' → h' < a + k → c (l * 24 + h') = -1) → pwF c l (a + k) = pwF c l a := by
    intro a k
    induction k with
    | zero => intro _; rfl
    | succ k ih =>
      intro hh
      rw [← Nat.add_assoc, pwF_s, if_pos (hh (a + k) (by omega) (by omega))]
      exact ih (fun h' g1 g2 => hh h' g1 (by omega))
  by_cases q : u (24 * l + h) = -1
  · have e := run 0 (h.toNat + 1) (fun h' g1 g2 => o3 h' (by omega) (by omega))
    rw [Nat.zero_add] at e
    rw [e, o4 q]
    rfl
  · obtain ⟨p1, p2⟩ := o5 (by omega)
    have e := run ((u (24 * l + h)).toNat + 1) (h.toNat - (u (24 * l + h)).toNat) (fun h' g1 g2 => o3 h' (by omega) (by omega))
    rw [show (u (24 * l + h)).toNat + 1 + (h.toNat - (u (24 * l + h)).toNat) = h.toNat + 1 by omega] at e
    rw [e, pwF_s, show (((u (24 * l + h)).toNat : Nat) : Int) = u (24 * l + h) by omega, if_neg p1, p2]
/-- the reference begins -/
def clM (B : Bk) : Bk := ((wI B mo 20 0).1, B.2.1, B.2.2.1, fun e z => if e = mo + 6 ∧ z = 4 then 0 else if e = mo + 7 ∧ 60 ≤ z ∧ z < 75 then 0 else if e = mo + 8 ∧ 480 ≤ z ∧ z < 600 then 0 else if e = mo + 9 ∧ 0 ≤ z ∧ z < 120 then -1 else B.2.2.2.1 e z, B.2.2.2.2)
theorem m_clears (rm : mKd E mo) : fX9_clears (E.1 + mo) (St E B) = some (St E (clM B)) := by
  have hmo : mo = 58 := rfl
  have l14 : ∀ C : Bk, iter (fX9_clears_l14 (E.1 + mo)) FU (iI 0, St E C) = some (St E (C.1, C.2.1, C.2.2.1, fun e z => if e = mo + 7 ∧ 60 ≤ z ∧ z < 60 + 15 then 0 else C.2.2.2.1 e z, C.2.2.2.2)) := fun C => by
    have key := iter_for (F := fX9_clears_l14 (E.1 + mo)) (fun j => (iI j, St E (C.1, C.2.1, C.2.2.1, fun e z => if e = mo + 7 ∧ 60 ≤ z ∧ z < 60 + j then 0 else C.2.2.2.1 e z, C.2.2.2.2))) 0 15 (St E (C.1, C.2.1, C.2.2.1, fun e z => if e = mo + 7 ∧ 60 ≤ z ∧ z < 60 + 15 then 0 else C.2.2.2.1 e z, C.2.2.2.2)) (fun j j0 j1 => by
      have e : wA (C.1, C.2.1, C.2.2.1, fun e z => if e = mo + 7 ∧ 60 ≤ z ∧ z < 60 + j then 0 else C.2.2.2.1 e z, C.2.2.2.2) (mo + 7) (60 + j) 0 = (C.1, C.2.1, C.2.2.1, fun e z => if e = mo + 7 ∧ 60 ≤ z ∧ z < 60 + (j + 1) then 0 else C.2.2.2.1 e z, C.2.2.2.2) := by
        refine Prod.ext rfl (Prod.ext rfl (Prod.ext rfl (Prod.ext ?_ rfl)))
        funext e z
        show (if e = mo + 7 ∧ z = 60 + j then 0 else if e = mo + 7 ∧ 60 ≤ z ∧ z < 60 + j then 0 else C.2.2.2.1 e z) = (if e = mo + 7 ∧ 60 ≤ z ∧ z < 60 + (j + 1) then 0 else C.2.2.2.1 e z)
        repeat' split
        all_goals first | rfl | (exfalso; omega)
      simp (disch := omega) only [fX9_clears_l14, iI_le, fX9_reads, c9 rm.1, some_bind, g9_17 rm.1, iI_add, sI_ok (mk7 rm), e]
      rw [if_neg (by omega)]) (by
      simp (disch := omega) only [fX9_clears_l14, iI_le]
      rw [if_pos (by omega)]) (by omega) (N := FU) (by have := FU_big (n := 15) (by omega); omega)
    have e0 : ((C.1, C.2.1, C.2.2.1, fun e z => if e = mo + 7 ∧ 60 ≤ z ∧ z < 60 + 0 then 0 else C.2.2.2.1 e z, C.2.2.2.2) : Bk) = C := by
      refine Prod.ext rfl (Prod.ext rfl (Prod.ext rfl (Prod.ext ?_ rfl)))
      funext e z
      show (if e = mo + 7 ∧ 60 ≤ z ∧ z < 60 + 0 then 0 else C.2.2.2.1 e z) = _
      rw [if_neg (by omega)]
    rw [e0] at key
    exact key
  have l34 : ∀ C : Bk, iter (fX9_clears_l34 (E.1 + mo)) FU (iI 0, St E C) = some (St E (C.1, C.2.1, C.2.2.1, fun e z => if e = mo + 8 ∧ 480 ≤ z ∧ z < 480 + 120 then 0 else if e = mo + 9 ∧ 0 ≤ z ∧ z < 120 then -1 else C.2.2.2.1 e z, C.2.2.2.2)) := fun C => by
    have key := iter_for (F := fX9_clears_l34 (E.1 + mo)) (fun j => (iI j, St E (C.1, C.2.1, C.2.2.1, fun e z => if e = mo + 8 ∧ 480 ≤ z ∧ z < 480 + j then 0 else if e = mo + 9 ∧ 0 ≤ z ∧ z < j then -1 else C.2.2.2.1 e z, C.2.2.2.2))) 0 120 (St E (C.1, C.2.1, C.2.2.1, fun e z => if e = mo + 8 ∧ 480 ≤ z ∧ z < 480 + 120 then 0 else if e = mo + 9 ∧ 0 ≤ z ∧ z < 120 then -1 else C.2.2.2.1 e z, C.2.2.2.2)) (fun j j0 j1 => by
      have e : wA (wA (C.1, C.2.1, C.2.2.1, fun e z => if e = mo + 8 ∧ 480 ≤ z ∧ z < 480 + j then 0 else if e = mo + 9 ∧ 0 ≤ z ∧ z < j then -1 else C.2.2.2.1 e z, C.2.2.2.2) (mo + 8) (480 + j) 0) (mo + 9) j (-1) = (C.1, C.2.1, C.2.2.1, fun e z => if e = mo + 8 ∧ 480 ≤ z ∧ z < 480 + (j + 1) then 0 else if e = mo + 9 ∧ 0 ≤ z ∧ z < j + 1 then -1 else C.2.2.2.1 e z, C.2.2.2.2) := by
        refine Prod.ext rfl (Prod.ext rfl (Prod.ext rfl (Prod.ext ?_ rfl)))
        funext e z
        show (if e = mo + 9 ∧ z = j then -1 else if e = mo + 8 ∧ z = 480 + j then 0 else if e = mo + 8 ∧ 480 ≤ z ∧ z < 480 + j then 0 else if e = mo + 9 ∧ 0 ≤ z ∧ z < j then -1 else C.2.2.2.1 e z) = (if e = mo + 8 ∧ 480 ≤ z ∧ z < 480 + (j + 1) then 0 else if e = mo + 9 ∧ 0 ≤ z ∧ z < j + 1 then -1 else C.2.2.2.1 e z)
        repeat' split
        all_goals first | rfl | (exfalso; omega)
      simp (disch := omega) only [fX9_clears_l34, iI_le, some_bind, g9_18 rm.1, g9_19 rm.1, iI_add, sI_ok (mk8 rm), sI_ok (mk9 rm), e]
      rw [if_neg (by omega)]) (by
      simp (disch := omega) only [fX9_clears_l34, iI_le]
      rw [if_pos (by omega)]) (by omega) (N := FU) (by have := FU_big (n := 120) (by omega); omega)
    have e0 : ((C.1, C.2.1, C.2.2.1, fun e z => if e = mo + 8 ∧ 480 ≤ z ∧ z < 480 + 0 then 0 else if e = mo + 9 ∧ 0 ≤ z ∧ z < 0 then -1 else C.2.2.2.1 e z, C.2.2.2.2) : Bk) = C := by
      refine Prod.ext rfl (Prod.ext rfl (Prod.ext rfl (Prod.ext ?_ rfl)))
      funext e z
      show (if e = mo + 8 ∧ 480 ≤ z ∧ z < 480 + 0 then 0 else if e = mo + 9 ∧ 0 ≤ z ∧ z < 0 then -1 else C.2.2.2.1 e z) = _
      rw [if_neg (by omega), if_neg (by omega)]
    rw [e0] at key
    exact key
  simp (disch := omega) only [fX9_clears, c9 rm.1, some_bind, g9_16 rm.1, sI_ok (mk6 rm), p9_20 rm.1, l14, l34]
  congr 2
  refine Prod.ext rfl (Prod.ext rfl (Prod.ext rfl (Prod.ext ?_ rfl)))
  funext e z
  show (if e = mo + 8 ∧ 480 ≤ z ∧ z < 480 + 120 then 0 else if e = mo + 9 ∧ 0 ≤ z ∧ z < 120 then -1 else if e = mo + 7 ∧ 60 ≤ z ∧ z < 60 + 15 then 0 else if e = mo + 6 ∧ z = 4 then 0 else B.2.2.2.1 e z) = (if e = mo + 6 ∧ z = 4 then 0 else if e = mo + 7 ∧ 60 ≤ z ∧ z < 75 then 0 else if e = mo + 8 ∧ 480 ≤ z ∧ z < 600 then 0 else if e = mo + 9 ∧ 0 ≤ z ∧ z < 120 then -1 else B.2.2.2.1 e z)
  repeat' split
  all_goals first | rfl | (exfalso; omega)
end SW
