/-! arithmetic of ints given by integers; truth values; maps that are changed -/
theorem iI_nI (n : Nat) : iI (n : Int) = nI n := rfl
theorem iI_div {a b : Int} (h0 : 0 ≤ a) (h1 : a < 2147483648) (h2 : 0 < b) (h3 : b < 2147483648) : iI a / iI b = iI (a / b) := by
  obtain ⟨n, rfl⟩ := Int.eq_ofNat_of_zero_le h0
  obtain ⟨m, rfl⟩ := Int.eq_ofNat_of_zero_le (Int.le_of_lt h2)
  rw [iI_nI, iI_nI, pk_div (by omega) (by omega) (by omega), ← iI_nI]
  rfl
theorem dI_ok {a b : Int} (h0 : 0 ≤ a) (h1 : a < 2147483648) (h2 : 0 < b) (h3 : b < 2147483648) : dI (iI a) (iI b) = some (iI (a / b)) := by
  unfold dI
  rw [if_neg, iI_div h0 h1 h2 h3]
  rw [iI_0, iI_eq (by omega) h3 (by omega) (by omega)]
  omega
theorem mI_ok {a b : Int} (h0 : 0 ≤ a) (h1 : a < 2147483648) (h2 : 0 < b) (h3 : b < 2147483648) : mI (iI a) (iI b) = some (iI (a % b)) := by
  unfold mI
  rw [if_neg, iI_div h0 h1 h2 h3, iI_mul, iI_sub, Int.emod_def, Int.mul_comm]
  rw [iI_0, iI_eq (by omega) h3 (by omega) (by omega)]
  omega
theorem imax_ok {a b : Int} (h1 : -2147483648 ≤ a) (h2 : a < 2147483648) (h3 : -2147483648 ≤ b) (h4 : b < 2147483648) : imax (iI a) (iI b) = iI (max a b) := by
  unfold imax
  simp only [iI_lt h1 h2 h3 h4]
  split
  · rw [Int.max_eq_right (by omega)]
  · rw [Int.max_eq_left (by omega)]
theorem imin_ok {a b : Int} (h1 : -2147483648 ≤ a) (h2 : a < 2147483648) (h3 : -2147483648 ≤ b) (h4 : b < 2147483648) : imin (iI a) (iI b) = iI (min a b) := by
  unfold imin
  simp only [iI_lt h3 h4 h1 h2]
  split
  · rw [Int.min_eq_right (by omega)]
  · rw [Int.min_eq_left (by omega)]
def bI (p : Prop) [Decidable p] : Int := if p then 1 else 0
theorem bI_t {p : Prop} [Decidable p] (h : p) : bI p = 1 := if_pos h
theorem bI_f {p : Prop} [Decidable p] (h : ¬ p) : bI p = 0 := if_neg h
theorem bI_0 {p : Prop} [Decidable p] : (iI (bI p) = 0) ↔ ¬ p := by
  by_cases h : p
  · rw [bI_t h]; simp [h]; decide
  · rw [bI_f h]; simp [h]; decide
theorem bI_01 {p : Prop} [Decidable p] : bI p = 0 ∨ bI p = 1 := by
  by_cases h : p
  · exact Or.inr (bI_t h)
  · exact Or.inl (bI_f h)
theorem bI_le {p : Prop} [Decidable p] : 0 ≤ bI p ∧ bI p ≤ 1 := by
  rcases bI_01 (p := p) with h | h <;> omega
theorem rZ_ok {x : Int} (h : x = 0 ∨ x = 1) : rZ (iI x) = some () := by
  unfold rZ
  rw [if_pos]
  rcases h with rfl | rfl <;> decide
/-! what a changed map holds -/
section WW
variable {B : Bk} {d j d' j' : Nat} {x z z' : Int}
theorem wI_1 : (wI B d j x).1 d' j' = if d' = d ∧ j' = j then x else B.1 d' j' := rfl
theorem wI_2 : (wI B d j x).2 = B.2 := rfl
theorem wL_1 {y : Int64} : (wL B d j y).1 = B.1 := rfl
theorem wL_2 {y : Int64} : (wL B d j y).2.1 d' j' = if d' = d ∧ j' = j then y else B.2.1 d' j' := rfl
theorem wL_3 {y : Int64} : (wL B d j y).2.2 = B.2.2 := rfl
theorem wR_1 {y : Option Nat} : (wR B d j y).1 = B.1 := rfl
theorem wR_2 {y : Option Nat} : (wR B d j y).2.1 = B.2.1 := rfl
theorem wR_3 {y : Option Nat} : (wR B d j y).2.2.1 d' j' = if d' = d ∧ j' = j then y else B.2.2.1 d' j' := rfl
theorem wR_4 {y : Option Nat} : (wR B d j y).2.2.2 = B.2.2.2 := rfl
theorem wA_1 : (wA B d z x).1 = B.1 := rfl
theorem wA_2 : (wA B d z x).2.1 = B.2.1 := rfl
theorem wA_3 : (wA B d z x).2.2.1 = B.2.2.1 := rfl
theorem wA_4 : (wA B d z x).2.2.2.1 d' z' = if d' = d ∧ z' = z then x else B.2.2.2.1 d' z' := rfl
theorem wA_5 : (wA B d z x).2.2.2.2 = B.2.2.2.2 := rfl
theorem wJ_1 {y : Int64} : (wJ B d z y).1 = B.1 := rfl
theorem wJ_2 {y : Int64} : (wJ B d z y).2.1 = B.2.1 := rfl
theorem wJ_3 {y : Int64} : (wJ B d z y).2.2.1 = B.2.2.1 := rfl
theorem wJ_4 {y : Int64} : (wJ B d z y).2.2.2.1 = B.2.2.2.1 := rfl
theorem wJ_5 {y : Int64} : (wJ B d z y).2.2.2.2 d' z' = if d' = d ∧ z' = z then y else B.2.2.2.2 d' z' := rfl
end WW
