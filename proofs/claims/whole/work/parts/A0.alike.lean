/-! what the class has read and what the reference has read are alike -/
def LRw (c w u : Int → Int) : Prop := ∀ l h : Int, 0 ≤ l → l < 5 → 0 ≤ h → h < 24 → (-1 ≤ c (l * 24 + h) ∧ c (l * 24 + h) ≤ 4) ∧ (-1 ≤ u (24 * l + h) ∧ u (24 * l + h) ≤ h) ∧ (∀ h', u (24 * l + h) < h' → h' ≤ h → c (l * 24 + h') = -1) ∧ (u (24 * l + h) = -1 → w (480 + (24 * l + h)) = 0) ∧ (0 ≤ u (24 * l + h) → c (l * 24 + u (24 * l + h)) ≠ -1 ∧ w (480 + (24 * l + h)) = c (l * 24 + u (24 * l + h)))
def LRs (n w d l : Int) (c r : Int → Int) : Prop := ∀ s : Int, 0 ≤ s → s < n → (∀ k, 0 ≤ k → k < 6 → r (96 + (6 * s + k)) = c (s * 6 + k)) ∧ (0 ≤ c (s * 6 + 0) ∧ c (s * 6 + 0) < w) ∧ (0 ≤ c (s * 6 + 1) ∧ c (s * 6 + 1) < d) ∧ (0 ≤ c (s * 6 + 2) ∧ c (s * 6 + 2) < l) ∧ (0 ≤ c (s * 6 + 3) ∧ c (s * 6 + 3) ≤ 9) ∧ (0 ≤ c (s * 6 + 4) ∧ c (s * 6 + 4) ≤ 9) ∧ (0 ≤ c (s * 6 + 5) ∧ c (s * 6 + 5) ≤ 9)
def LRd (n w d : Int) (c r : Int → Int) : Prop := ∀ i : Int, 0 ≤ i → i < n → (∀ k, 0 ≤ k → k < 3 → r (60 + (3 * i + k)) = c (i * 3 + k)) ∧ (0 ≤ c (i * 3 + 0) ∧ c (i * 3 + 0) < w) ∧ (0 ≤ c (i * 3 + 1) ∧ c (i * 3 + 1) < d) ∧ (0 ≤ c (i * 3 + 2) ∧ c (i * 3 + 2) ≤ 9)
def LRp (n : Int) (c r : Int → Int) : Prop := ∀ s h : Int, 0 ≤ s → s < 4 → 0 ≤ h → h < 24 → (n ≤ s → c (s * 24 + h) = 0) ∧ (s < n → r (384 + (24 * s + h)) = c (s * 24 + h) ∧ 0 ≤ c (s * 24 + h) ∧ c (s * 24 + h) ≤ 2)
def LRf (w d h f a b : Int) (r : Int → Int) : Prop := (f = -1 ∧ r 69 = 0) ∨ (r 69 = 1 ∧ f = r 71 * 8 + r 70 ∧ a = r 72 ∧ b = r 73 ∧ (0 ≤ r 70 ∧ r 70 < w) ∧ (0 ≤ r 71 ∧ r 71 < d) ∧ 0 ≤ a ∧ a ≤ b ∧ b < h)
def LRn (m : Nat) (C R : Bk) : Prop := VW C m ∧ ((0 ≤ C.1 (co + 2) 8 ∧ C.1 (co + 2) 8 ≤ 20) ∧ R.1 mo 20 = C.1 (co + 2) 8) ∧ R.2.2.2.1 (mo + 6) 4 = C.1 m 0 ∧ (R.2.2.2.1 (mo + 7) 60 = C.1 m 1 ∧ R.2.2.2.1 (mo + 7) 61 = C.1 m 2 ∧ R.2.2.2.1 (mo + 7) 62 = C.1 m 3 ∧ R.2.2.2.1 (mo + 7) 63 = C.1 m 4 ∧ R.2.2.2.1 (mo + 7) 64 = C.1 m 5 ∧ R.2.2.2.1 (mo + 7) 65 = C.1 m 6 ∧ R.2.2.2.1 (mo + 7) 66 = C.1 m 7 ∧ R.2.2.2.1 (mo + 7) 67 = C.1 m 8 ∧ R.2.2.2.1 (mo + 7) 68 = C.1 m 9) ∧ (C.1 m 13 = 0 ∧ R.2.2.2.1 (mo + 7) 74 = 0) ∧ (0 < C.1 m 0 → 2 ≤ C.1 m 1 ∧ 2 ≤ C.1 m 2 ∧ 2 ≤ C.1 m 3 ∧ 1 ≤ C.1 m 4 ∧ C.1 m 6 < C.1 m 3) ∧ (C.1 m 0 = 0 → C.1 m 1 = 0 ∧ C.1 m 2 = 0 ∧ C.1 m 3 = 0 ∧ C.1 m 4 = 0 ∧ C.1 m 6 = 0 ∧ C.1 m 8 = 0 ∧ C.1 m 9 = 0)
def LR (m : Nat) (C R : Bk) : Prop := LRn m C R ∧ LRw (C.2.2.2.1 (m + 1)) (R.2.2.2.1 (mo + 8)) (R.2.2.2.1 (mo + 9)) ∧ LRs (C.1 m 8) (C.1 m 1) (C.1 m 2) (C.1 m 3) (C.2.2.2.1 (m + 2)) (R.2.2.2.1 (mo + 10)) ∧ LRd (C.1 m 9) (C.1 m 1) (C.1 m 2) (C.2.2.2.1 (m + 3)) (R.2.2.2.1 (mo + 11)) ∧ LRp (C.1 m 8) (C.2.2.2.1 (m + 4)) (R.2.2.2.1 (mo + 12)) ∧ LRf (C.1 m 1) (C.1 m 2) (C.1 m 4) (C.1 m 10) (C.1 m 11) (C.1 m 12) (R.2.2.2.1 (mo + 7))
section LQ
variable {m : Nat} {C R : Bk}
theorem lr_sizes {a b c h k : Int} (hm : 20 ≤ m) (H : LR m C R) (h0 : C.1 m 0 = 0) (a1 : 2 ≤ a ∧ a ≤ 8) (b1 : 2 ≤ b ∧ b ≤ 8) (c1 : 2 ≤ c ∧ c ≤ 5) (h1 : 1 ≤ h ∧ h ≤ 24) (k1 : 0 ≤ k ∧ k ≤ 24) : LR m (wI (wI (wI (wI (wI (wI (wI C m 1 a) m 2 b) m 3 c) m 4 h) m 5 k) m 7 9) m 0 (C.1 m 0 + 1)) (wA (wA (wA (wA (wA (wA (wA R (mo + 7) 60 a) (mo + 7) 61 b) (mo + 7) 62 c) (mo + 7) 63 h) (mo + 7) 64 k) (mo + 7) 66 9) (mo + 6) 4 (R.2.2.2.1 (mo + 6) 4 + 1)) := by
  have hco : co = 0 := rfl
  have n1 : ¬ co + 2 = m := by omega
  have n2 : ¬ mo + 7 = mo + 6 := by omega
  have n3 : ¬ mo + 6 = mo + 7 := by omega
  obtain ⟨Hn, Hw, Hs, Hd, Hp, Hf⟩ := H
  unfold LRn VW at Hn
  unfold LRf at Hf
  unfold LR LRn VW LRf
  simp (disch := omega) only [wI_1, wI_2, wA_1, wA_r, wA_4, eq_self, true_and, and_true, and_false, false_and, n1, n2, n3, ↓reduceIte, Nat.reduceEqDiff, Int.reduceEq, Nat.one_ne_zero, Nat.zero_ne_one, reduceCtorEq]
  refine ⟨by omega, Hw, fun s s0 s1 => by omega, fun s s0 s1 => by omega, Hp, by omega⟩
theorem lr_sells {v u : Int} (hm : 20 ≤ m) (H : LR m C R) (h0 : 0 < C.1 m 0 ∧ C.1 m 0 < 1600) (v1 : 0 ≤ v ∧ v ≤ C.1 m 3 - 1) (u1 : 0 ≤ u ∧ u ≤ 99) : LR m (wI (wI (wI C m 6 v) m 7 u) m 0 (C.1 m 0 + 1)) (wA (wA (wA R (mo + 7) 65 v) (mo + 7) 66 u) (mo + 6) 4 (R.2.2.2.1 (mo + 6) 4 + 1)) := by
  have hco : co = 0 := rfl
  have n1 : ¬ co + 2 = m := by omega
  have n2 : ¬ mo + 7 = mo + 6 := by omega
  have n3 : ¬ mo + 6 = mo + 7 := by omega
  obtain ⟨Hn, Hw, Hs, Hd, Hp, Hf⟩ := H
  unfold LRn VW at Hn
  unfold LRf at Hf
  unfold LR LRn VW LRf
  simp (disch := omega) only [wI_1, wI_2, wA_1, wA_r, wA_4, eq_self, true_and, and_true, and_false, false_and, n1, n2, n3, ↓reduceIte, Nat.reduceEqDiff, Int.reduceEq, Nat.one_ne_zero, Nat.zero_ne_one, reduceCtorEq]
  exact ⟨by omega, Hw, Hs, Hd, Hp, Hf⟩
end LQ
