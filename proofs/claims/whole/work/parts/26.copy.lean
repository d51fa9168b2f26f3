/-! Valley.copyFrom -/
def cyV (B : Bk) (d e : Nat) : Bk := cpA (cpA (cpA (cpA (cpA (fun k j => if k = d ∧ j < 14 then B.1 e j else B.1 k j, B.2) (e + 1) 0 (d + 1) 0 120) (e + 2) 0 (d + 2) 0 24) (e + 3) 0 (d + 3) 0 15) (e + 4) 0 (d + 4) 0 96) (e + 5) 0 (d + 5) 0 240
theorem s_copyFrom {E : Ev} {B : Bk} {d e : Nat} (h : VK E d) (g : VK E e) (hne : e ≠ d) : fX6_copyFrom (E.1 + d) (E.1 + e) (St E B) = some (St E (cyV B d e)) := by
  have n0 : ∀ j k : Nat, ¬ (e = d ∧ j = k) := fun j k q => hne q.1
  have w0 : ∀ (C : Bk) (j k : Nat) (x : Int), (wI C d k x).1 e j = C.1 e j := fun C j k x => by rw [wI_1, if_neg (n0 j k)]
  have e1 : wI (wI (wI (wI (wI (wI (wI (wI (wI (wI (wI (wI (wI (wI B d 0 (B.1 e 0)) d 1 (B.1 e 1)) d 2 (B.1 e 2)) d 3 (B.1 e 3)) d 4 (B.1 e 4)) d 5 (B.1 e 5)) d 6 (B.1 e 6)) d 7 (B.1 e 7)) d 8 (B.1 e 8)) d 9 (B.1 e 9)) d 10 (B.1 e 10)) d 11 (B.1 e 11)) d 12 (B.1 e 12)) d 13 (B.1 e 13) = (fun k j => if k = d ∧ j < 14 then B.1 e j else B.1 k j, B.2) := by
    unfold wI up2
    dsimp only
    congr 1
    funext k j
    by_cases he : k = d
    · subst he
      by_cases hj : j < 14
      · rw [if_pos (show k = k ∧ j < 14 from ⟨rfl, hj⟩)]
        rcases (show j = 0 ∨ j = 1 ∨ j = 2 ∨ j = 3 ∨ j = 4 ∨ j = 5 ∨ j = 6 ∨ j = 7 ∨ j = 8 ∨ j = 9 ∨ j = 10 ∨ j = 11 ∨ j = 12 ∨ j = 13 by omega) with rfl | rfl | rfl | rfl | rfl | rfl | rfl | rfl | rfl | rfl | rfl | rfl | rfl | rfl <;> simp
      · rw [if_neg (show ¬ (k = k ∧ j < 14) by omega)]
        repeat rw [if_neg (by omega)]
    · simp [he]
  simp only [fX6_copyFrom, c6 h.1, some_bind, g6_0 g.1, g6_1 g.1, g6_2 g.1, g6_3 g.1, g6_4 g.1, g6_5 g.1, g6_6 g.1, g6_7 g.1, g6_8 g.1, g6_9 g.1, g6_10 g.1, g6_11 g.1, g6_12 g.1, g6_13 g.1, p6_0 h.1, p6_1 h.1, p6_2 h.1, p6_3 h.1, p6_4 h.1, p6_5 h.1, p6_6 h.1, p6_7 h.1, p6_8 h.1, p6_9 h.1, p6_10 h.1, p6_11 h.1, p6_12 h.1, p6_13 h.1, w0, e1]
  unfold cyV
  generalize ((fun k j => if k = d ∧ j < 14 then B.1 e j else B.1 k j, B.2) : Bk) = C
  simp only [g6_14 g.1, g6_14 h.1, g6_15 g.1, g6_15 h.1, g6_16 g.1, g6_16 h.1, g6_17 g.1, g6_17 h.1, g6_18 g.1, g6_18 h.1, some_bind, aN_ok h.2.1 (by decide) (by decide), aN_ok h.2.2.1 (by decide) (by decide), aN_ok h.2.2.2.1 (by decide) (by decide), aN_ok h.2.2.2.2.1 (by decide) (by decide), aN_ok h.2.2.2.2.2 (by decide) (by decide),
    cp_ok g.2.1 h.2.1 (by decide : (0 : Int) ≤ 0) (by decide : (0 : Int) ≤ 0) (by decide : (0 : Int) ≤ ((120 : Nat) : Int)) (by decide) (by decide) (by decide) (by decide),
    cp_ok g.2.2.1 h.2.2.1 (by decide : (0 : Int) ≤ 0) (by decide : (0 : Int) ≤ 0) (by decide : (0 : Int) ≤ ((24 : Nat) : Int)) (by decide) (by decide) (by decide) (by decide),
    cp_ok g.2.2.2.1 h.2.2.2.1 (by decide : (0 : Int) ≤ 0) (by decide : (0 : Int) ≤ 0) (by decide : (0 : Int) ≤ ((15 : Nat) : Int)) (by decide) (by decide) (by decide) (by decide),
    cp_ok g.2.2.2.2.1 h.2.2.2.2.1 (by decide : (0 : Int) ≤ 0) (by decide : (0 : Int) ≤ 0) (by decide : (0 : Int) ≤ ((96 : Nat) : Int)) (by decide) (by decide) (by decide) (by decide),
    cp_ok g.2.2.2.2.2 h.2.2.2.2.2 (by decide : (0 : Int) ≤ 0) (by decide : (0 : Int) ≤ 0) (by decide : (0 : Int) ≤ ((240 : Nat) : Int)) (by decide) (by decide) (by decide) (by decide)]
  rfl
/-- what a copied valley holds -/
theorem cyV_1 {B : Bk} {d e k j : Nat} : (cyV B d e).1 k j = if k = d ∧ j < 14 then B.1 e j else B.1 k j := rfl
theorem cyV_2 {B : Bk} {d e : Nat} : (cyV B d e).2.1 = B.2.1 := rfl
theorem cyV_3 {B : Bk} {d e : Nat} : (cyV B d e).2.2.1 = B.2.2.1 := rfl
theorem cyV_5 {B : Bk} {d e : Nat} : (cyV B d e).2.2.2.2 = B.2.2.2.2 := rfl
def vLen (i : Nat) : Int := if i = 1 then 120 else if i = 2 then 24 else if i = 3 then 15 else if i = 4 then 96 else 240
theorem cyV_4 {B : Bk} {d e : Nat} (hs : d + 6 ≤ e ∨ e + 6 ≤ d) {k : Nat} {z : Int} : (cyV B d e).2.2.2.1 k z = if d < k ∧ k ≤ d + 5 ∧ 0 ≤ z ∧ z < vLen (k - d) then B.2.2.2.1 (e + (k - d)) z else B.2.2.2.1 k z := by
  have q : ∀ (C : Bk) (i : Nat) (n z : Int) (k : Nat), (cpA C (e + i) 0 (d + i) 0 n).2.2.2.1 k z = if k = d + i ∧ 0 ≤ z ∧ z < n then C.2.2.2.1 (e + i) z else C.2.2.2.1 k z := fun C i n z k => by
    show (if k = d + i ∧ 0 ≤ z ∧ z < 0 + n then C.2.2.2.1 (e + i) (0 + (z - 0)) else C.2.2.2.1 k z) = _
    rw [Int.zero_add, Int.zero_add, Int.sub_zero]
  unfold cyV
  simp only [q]
  by_cases hk : d < k ∧ k ≤ d + 5
  · obtain ⟨i, hi, rfl⟩ : ∃ i, (i = 1 ∨ i = 2 ∨ i = 3 ∨ i = 4 ∨ i = 5) ∧ k = d + i := ⟨k - d, by omega, by omega⟩
    have hki : d + i - d = i := by omega
    rw [hki]
    have ne : ∀ a b : Nat, a ≤ 5 → b ≤ 5 → ¬ e + a = d + b := fun a b h1 h2 => by omega
    rcases hi with rfl | rfl | rfl | rfl | rfl
    · by_cases hz : 0 ≤ z ∧ z < 120
      · rw [if_neg (by omega), if_neg (by omega), if_neg (by omega), if_neg (by omega), if_pos ⟨rfl, hz⟩, if_pos ⟨by omega, by omega, hz.1, hz.2⟩]
      · rw [if_neg (by omega), if_neg (by omega), if_neg (by omega), if_neg (by omega), if_neg (by omega), if_neg (fun w => hz ⟨w.2.2.1, w.2.2.2⟩)]
    · by_cases hz : 0 ≤ z ∧ z < 24
      · rw [if_neg (by omega), if_neg (by omega), if_neg (by omega), if_pos ⟨rfl, hz⟩, if_neg (by omega), if_pos ⟨by omega, by omega, hz.1, hz.2⟩]
      · rw [if_neg (by omega), if_neg (by omega), if_neg (by omega), if_neg (by omega), if_neg (by omega), if_neg (fun w => hz ⟨w.2.2.1, w.2.2.2⟩)]
    · by_cases hz : 0 ≤ z ∧ z < 15
      · rw [if_neg (by omega), if_neg (by omega), if_pos ⟨rfl, hz⟩, if_neg (by omega), if_neg (by omega), if_pos ⟨by omega, by omega, hz.1, hz.2⟩]
      · rw [if_neg (by omega), if_neg (by omega), if_neg (by omega), if_neg (by omega), if_neg (by omega), if_neg (fun w => hz ⟨w.2.2.1, w.2.2.2⟩)]
    · by_cases hz : 0 ≤ z ∧ z < 96
      · rw [if_neg (by omega), if_pos ⟨rfl, hz⟩, if_neg (by omega), if_neg (by omega), if_neg (by omega), if_pos ⟨by omega, by omega, hz.1, hz.2⟩]
      · rw [if_neg (by omega), if_neg (by omega), if_neg (by omega), if_neg (by omega), if_neg (by omega), if_neg (fun w => hz ⟨w.2.2.1, w.2.2.2⟩)]
    · by_cases hz : 0 ≤ z ∧ z < 240
      · rw [if_pos ⟨rfl, hz⟩, if_neg (by omega), if_neg (by omega), if_neg (by omega), if_neg (by omega), if_pos ⟨by omega, by omega, hz.1, hz.2⟩]
      · rw [if_neg (by omega), if_neg (by omega), if_neg (by omega), if_neg (by omega), if_neg (by omega), if_neg (fun w => hz ⟨w.2.2.1, w.2.2.2⟩)]
  · rw [if_neg (by omega), if_neg (by omega), if_neg (by omega), if_neg (by omega), if_neg (by omega), if_neg (fun w => hk ⟨w.1, w.2.1⟩)]
