/-! a set carried by a wind -/
/-- a set shifted by a wind; carried, where e stays -/
def shW (x : Int64) (w : Int) : Int64 := if w = 1 then lush x (iI 8) else if w = 2 then lsh x (iI 1) else if w = 3 then lsh x (iI 8) else if w = 4 then lush x (iI 1) else x
def caS (x e : Int64) (w : Int) : Int64 := (x &&& e) ||| shW (x &&& ((x &&& e) ^^^ (-1))) w
section CY
variable {E : Ev} {B : Bk} {d : Nat} {wd dp : Int}
theorem crX_sh {c w : Int} (h : cOK wd dp c) (hw : wd ≤ 8) (w0 : 0 ≤ w) (w1 : w < 5) : crX wd dp c w = c ∨ (w = 1 ∧ crX wd dp c w = c - 8) ∨ (w = 2 ∧ crX wd dp c w = c + 1) ∨ (w = 3 ∧ crX wd dp c w = c + 8) ∨ (w = 4 ∧ crX wd dp c w = c - 1) := by
  obtain ⟨h0, h1, h2⟩ := h
  have hcr : ∀ X Y : Int, X = c % 8 + (if w = 2 then 1 else 0) - (if w = 4 then 1 else 0) → Y = c / 8 + (if w = 3 then 1 else 0) - (if w = 1 then 1 else 0) → crX wd dp c w = if (0 ≤ X ∧ X < wd) ∧ (0 ≤ Y ∧ Y < dp) then Y * 8 + X else c := fun X Y hX hY => by
    unfold crX
    rw [hX, hY]
  rw [hcr _ _ rfl rfl]
  have : w = 0 ∨ w = 1 ∨ w = 2 ∨ w = 3 ∨ w = 4 := by omega
  rcases this with rfl | rfl | rfl | rfl | rfl <;> split <;> simp <;> omega
theorem s0_shifted {x : Int64} {s : Hp} {w : Int} (w0 : 0 ≤ w) (w1 : w < 5) : fX0_shifted x (iI w) s = some (shW x w, s) := by
  have e : w = 0 ∨ w = 1 ∨ w = 2 ∨ w = 3 ∨ w = 4 := by omega
  unfold fX0_shifted shW
  rcases e with rfl | rfl | rfl | rfl | rfl
  · rw [if_neg (by decide), if_neg (by decide), if_neg (by decide), if_neg (by decide)]
    rfl
  · rw [if_pos rfl]
    rfl
  · rw [if_neg (by decide), if_pos rfl]
    rfl
  · rw [if_neg (by decide), if_neg (by decide), if_pos rfl]
    rfl
  · rw [if_neg (by decide), if_neg (by decide), if_neg (by decide), if_pos rfl]
    rfl
/-- the bits of a shifted set -/
theorem sh_bit {x : Int64} {w : Int} (w0 : 0 ≤ w) (w1 : w < 5) {i : Nat} (hi : i < 64) : tb (shW x w) i = true ↔ ∃ c : Nat, c < 64 ∧ tb x c = true ∧ ((w = 0 ∧ c = i) ∨ (w = 1 ∧ (i : Int) = (c : Int) - 8) ∨ (w = 2 ∧ (i : Int) = (c : Int) + 1) ∨ (w = 3 ∧ (i : Int) = (c : Int) + 8) ∨ (w = 4 ∧ (i : Int) = (c : Int) - 1)) := by
  unfold shW
  have l8 := tb_lush (k := 8) (by omega) x i
  have l1 := tb_lush (k := 1) (by omega) x i
  have s8 := tb_lsh (k := 8) (by omega) x hi
  have s1 := tb_lsh (k := 1) (by omega) x hi
  have c8 : ((8 : Nat) : Int) = 8 := rfl
  have c1 : ((1 : Nat) : Int) = 1 := rfl
  rw [c8] at l8 s8
  rw [c1] at l1 s1
  have big : ∀ j, tb x j = true → j < 64 := fun j hj => by
    by_cases q : j < 64
    · exact q
    · rw [tb_big (by omega)] at hj
      cases hj
  have e : w = 0 ∨ w = 1 ∨ w = 2 ∨ w = 3 ∨ w = 4 := by omega
  rcases e with rfl | rfl | rfl | rfl | rfl
  · rw [if_neg (by omega), if_neg (by omega), if_neg (by omega), if_neg (by omega)]
    constructor
    · exact fun h => ⟨i, hi, h, Or.inl ⟨rfl, rfl⟩⟩
    · rintro ⟨c, a1, a2, a3⟩
      have : c = i := by omega
      exact this ▸ a2
  · rw [if_pos rfl, l8]
    constructor
    · exact fun h => ⟨8 + i, big _ h, h, by omega⟩
    · rintro ⟨c, a1, a2, a3⟩
      have : c = 8 + i := by omega
      exact this ▸ a2
  · rw [if_neg (by omega), if_pos rfl, s1, Bool.and_eq_true, decide_eq_true_eq]
    constructor
    · exact fun h => ⟨i - 1, by omega, h.2, by omega⟩
    · rintro ⟨c, a1, a2, a3⟩
      have : c = i - 1 := by omega
      exact ⟨by omega, this ▸ a2⟩
  · rw [if_neg (by omega), if_neg (by omega), if_pos rfl, s8, Bool.and_eq_true, decide_eq_true_eq]
    constructor
    · exact fun h => ⟨i - 8, by omega, h.2, by omega⟩
    · rintro ⟨c, a1, a2, a3⟩
      have : c = i - 8 := by omega
      exact ⟨by omega, this ▸ a2⟩
  · rw [if_neg (by omega), if_neg (by omega), if_neg (by omega), if_pos rfl, l1]
    constructor
    · exact fun h => ⟨1 + i, big _ h, h, by omega⟩
    · rintro ⟨c, a1, a2, a3⟩
      have : c = 1 + i := by omega
      exact this ▸ a2
theorem s0_carriedSet {x : Int64} {w : Int} (kd : KD E d 0 2) (ke : KD E (d + 1) 21 5) (hwd : wd ≤ 8) (w0 : 0 ≤ w) (w1 : w < 5) (eg : ∀ i : Nat, i < 64 → (tb (B.2.2.2.2 (d + 1) w) i = true ↔ cOK wd dp (i : Int) ∧ crX wd dp (i : Int) w = (i : Int))) (hx : ∀ i : Nat, i < 64 → tb x i = true → cOK wd dp (i : Int)) : fX0_carriedSet (E.1 + d) x (iI w) (St E B) = some (caS x (B.2.2.2.2 (d + 1) w) w, St E B) ∧ ∀ i : Nat, i < 64 → (tb (caS x (B.2.2.2.2 (d + 1) w) w) i = true ↔ ∃ c : Nat, c < 64 ∧ tb x c = true ∧ crX wd dp (c : Int) w = (i : Int)) := by
  refine ⟨?_, fun i hi => ?_⟩
  · unfold fX0_carriedSet caS
    rw [c0 kd, some_bind, g0_0 kd, some_bind, aL_ok ke w0 (by omega) (by omega), some_bind]
    unfold lt_
    dsimp only
    rw [s0_shifted w0 w1, some_bind]
  · unfold caS
    rw [tb_or, Bool.or_eq_true, tb_and, Bool.and_eq_true, eg i hi, sh_bit w0 w1 hi]
    constructor
    · rintro (⟨a1, a2, a3⟩ | ⟨c, a1, a2, a3⟩)
      · exact ⟨i, hi, a1, a3⟩
      · rw [tb_and, tb_not a1, tb_and] at a2
        have xc : tb x c = true := by
          cases q : tb x c
          · rw [q] at a2
            cases a2
          · rfl
        have ne : tb (B.2.2.2.2 (d + 1) w) c ≠ true := fun q => by
          rw [xc, q] at a2
          cases a2
        have ok := hx c a1 xc
        have ns : ¬ crX wd dp (c : Int) w = (c : Int) := fun q => ne ((eg c a1).mpr ⟨ok, q⟩)
        have := crX_sh ok hwd w0 w1
        refine ⟨c, a1, xc, ?_⟩
        omega
    · rintro ⟨c, a1, a2, a3⟩
      have ok := hx c a1 a2
      by_cases q : crX wd dp (c : Int) w = (c : Int)
      · have e : c = i := by omega
        subst e
        exact Or.inl ⟨a2, ok, q⟩
      · refine Or.inr ⟨c, a1, ?_, ?_⟩
        · rw [tb_and, tb_not a1, tb_and, a2]
          cases q2 : tb (B.2.2.2.2 (d + 1) w) c
          · rfl
          · exact absurd ((eg c a1).mp q2).2 q
        · have := crX_sh ok hwd w0 w1
          omega
end CY
