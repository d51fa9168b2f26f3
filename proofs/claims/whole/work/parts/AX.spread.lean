/-! the class's Reach: who has been at more doors has been at fewer too -/
/-- a set without a door -/
def lssN (s i : Nat) : Nat := if s.testBit i = true then s - 2 ^ i else s
theorem lssN_f : ∀ s : Fin 32, ∀ i : Fin 5, lssN s.val i.val ≤ s.val ∧ lssN s.val i.val &&& s.val = lssN s.val i.val := by decide +kernel
theorem lssN_b {s i : Nat} (hs : s < 32) (hi : i < 5) : lssN s i ≤ s ∧ lssN s i &&& s = lssN s i := lssN_f ⟨s, hs⟩ ⟨i, hi⟩
theorem lssN_g : ∀ s : Fin 32, ∀ i : Fin 5, iI (s.val : Int) &&& (ish (iI 1) (iI (i.val : Int)) ^^^ iI (-1)) = iI (lssN s.val i.val : Int) := by decide +kernel
theorem lssN_i {s i : Nat} (hs : s < 32) (hi : i < 5) : iI (s : Int) &&& (ish (iI 1) (iI (i : Int)) ^^^ iI (-1)) = iI (lssN s i : Int) := lssN_g ⟨s, hs⟩ ⟨i, hi⟩
/-- the doors of z' that are not in z, left one by one -/
def stpN (z z' : Nat) : Nat → Nat
  | 0 => z'
  | i + 1 => if z.testBit i = true then stpN z z' i else lssN (stpN z z' i) i
theorem stpN_f : ∀ z z' : Fin 32, z.val &&& z'.val = z.val → stpN z.val z'.val 5 = z.val := by decide +kernel
theorem stpN_g : ∀ z z' : Fin 32, ∀ i : Fin 5, stpN z.val z'.val i.val < 32 := by decide +kernel
def spI (s j : Nat) (f f0 : Int → Int) : Prop := (∀ z, f z ≤ f0 z) ∧ (∀ z : Int, (s : Int) ≤ z → f z = f0 z) ∧ (∀ i, i < j → f (lssN s i : Int) ≤ f (s : Int)) ∧ ∀ z : Int, f z = f0 z ∨ ∃ i, i < 5 ∧ z = (lssN s i : Int) ∧ f z = f0 (s : Int)
theorem spI_n {s j : Nat} {f f0 f' : Int → Int} (hs : s < 32) (hj : j < 5) (h : spI s j f f0) (e : ∀ z, f' z = if z = (lssN s j : Int) then min (f (lssN s j : Int)) (f (s : Int)) else f z) : spI s (j + 1) f' f0 := by
  obtain ⟨h1, h2, h3, h4⟩ := h
  have b := (lssN_b hs hj).1
  have le : ∀ z, f' z ≤ f z := fun z => by
    rw [e]
    split
    · rename_i q
      rw [q]
      omega
    · omega
  have sm : ∀ z : Int, (s : Int) ≤ z → f' z = f z := fun z hz => by
    rw [e]
    split
    · rename_i q
      have : z = (s : Int) := by omega
      rw [← q, this]
      omega
    · rfl
  refine ⟨fun z => Int.le_trans (le z) (h1 z), fun z hz => (sm z hz).trans (h2 z hz), fun i hi => ?_, fun z => ?_⟩
  · rw [sm (s : Int) (by omega)]
    by_cases q : i = j
    · rw [q, e, if_pos rfl]
      omega
    · exact Int.le_trans (le _) (h3 i (by omega))
  · rw [e]
    by_cases q : z = (lssN s j : Int)
    · rw [if_pos q]
      by_cases c : f (lssN s j : Int) ≤ f (s : Int)
      · rw [show min (f (lssN s j : Int)) (f (s : Int)) = f z by rw [q]; omega]
        exact h4 z
      · refine Or.inr ⟨j, hj, q, ?_⟩
        rw [← h2 (s : Int) (by omega)]
        omega
    · rw [if_neg q]
      exact h4 z
def spO (c : Nat) (f f0 : Int → Int) : Prop := (∀ z : Nat, z < 32 → ∃ z' : Nat, z' < 32 ∧ z &&& z' = z ∧ f (z : Int) = f0 (z' : Int)) ∧ (∀ z, f z ≤ f0 z) ∧ ∀ s : Nat, c ≤ s → s < 32 → ∀ i, i < 5 → f (lssN s i : Int) ≤ f (s : Int)
theorem spO_0 {f : Int → Int} : spO 32 f f := ⟨fun z hz => ⟨z, hz, Nat.and_self z, rfl⟩, fun z => by omega, fun s h1 h2 => by omega⟩
theorem spO_n {s : Nat} {f f0 f' : Int → Int} (hs : s < 32) (h : spO (s + 1) f f0) (g : spI s 5 f' f) : spO s f' f0 := by
  obtain ⟨h1, h2, h3⟩ := h
  obtain ⟨g1, g2, g3, g4⟩ := g
  refine ⟨fun z hz => ?_, fun z => Int.le_trans (g1 z) (h2 z), fun s' c1 c2 i hi => ?_⟩
  · rcases g4 (z : Int) with q | ⟨i, q1, q2, q3⟩
    · rw [q]
      exact h1 z hz
    · obtain ⟨z', w1, w2, w3⟩ := h1 s hs
      refine ⟨z', w1, ?_, q3.trans w3⟩
      have ez : z = lssN s i := by omega
      have b := (lssN_b hs q1).2
      rw [ez, ← b, Nat.and_assoc, w2]
  · by_cases q : s' = s
    · rw [q]
      exact g3 i hi
    · rw [g2 (s' : Int) (by omega)]
      exact Int.le_trans (g1 _) (h3 s' (by omega) c2 i hi)
/-- the least over all larger sets -/
theorem spO_le {f f0 : Int → Int} (h : spO 0 f f0) {z z' : Nat} (hz : z < 32) (hz' : z' < 32) (q : z &&& z' = z) : f (z : Int) ≤ f0 (z' : Int) := by
  have key : ∀ n, n ≤ 5 → f (stpN z z' n : Int) ≤ f (z' : Int) := fun n => by
    induction n with
    | zero =>
      intro _
      exact Int.le_refl _
    | succ n ih =>
      intro hn
      have := ih (by omega)
      unfold stpN
      split
      · exact this
      · exact Int.le_trans (h.2.2 _ (by omega) (stpN_g ⟨z, hz⟩ ⟨z', hz'⟩ ⟨n, by omega⟩) n (by omega)) this
  have := key 5 (by omega)
  rw [stpN_f ⟨z, hz⟩ ⟨z', hz'⟩ q] at this
  exact Int.le_trans this (h.2.1 _)
