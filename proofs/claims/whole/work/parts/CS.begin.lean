/-! the two objects as they are made -/
def b0 : Bk := (fun e j => if e = 0 ∧ j = 12 then 1 else if (e = 2 ∧ j = 1) ∨ (e = 58 ∧ j = 15) ∨ ((e = 20 ∨ e = 26 ∨ e = 32 ∨ e = 38 ∨ e = 44) ∧ j = 10) ∨ ((e = 50 ∨ e = 52 ∨ e = 54 ∨ e = 56) ∧ j = 1) then -1 else 0,
  fun _ _ => 0,
  fun e j => if e = 0 ∧ j = 7 then some 20 else if e = 0 ∧ j = 8 then some 26 else if e = 17 ∧ j < 3 then some (32 + 6 * j) else if e = 19 ∧ j < 4 then some (50 + 2 * j) else none,
  fun e z => if e = 59 ∧ 0 ≤ z ∧ z < 4 then -1 else 0, fun _ _ => 0)
section BGN
variable {a b : Nat}
theorem b0_1 (e j : Nat) : b0.1 e j = if e = 0 ∧ j = 12 then 1 else if (e = 2 ∧ j = 1) ∨ (e = 58 ∧ j = 15) ∨ ((e = 20 ∨ e = 26 ∨ e = 32 ∨ e = 38 ∨ e = 44) ∧ j = 10) ∨ ((e = 50 ∨ e = 52 ∨ e = 54 ∨ e = 56) ∧ j = 1) then -1 else 0 := rfl
theorem b0_3 (e j : Nat) : b0.2.2.1 e j = if e = 0 ∧ j = 7 then some 20 else if e = 0 ∧ j = 8 then some 26 else if e = 17 ∧ j < 3 then some (32 + 6 * j) else if e = 19 ∧ j < 4 then some (50 + 2 * j) else none := rfl
theorem b0_z {d i : Nat} (h0 : ¬ (d = 0 ∧ (i = 12 ∨ i = 7 ∨ i = 8))) (h1 : ¬ ((d = 2 ∧ i = 1) ∨ (d = 58 ∧ i = 15) ∨ ((d = 20 ∨ d = 26 ∨ d = 32 ∨ d = 38 ∨ d = 44) ∧ i = 10) ∨ ((d = 50 ∨ d = 52 ∨ d = 54 ∨ d = 56) ∧ i = 1))) (h2 : ¬ d = 17) (h3 : ¬ d = 19) : b0.1 d i = 0 ∧ b0.2.1 d i = 0 ∧ b0.2.2.1 d i = none := by
  refine ⟨?_, rfl, ?_⟩
  · rw [b0_1, if_neg (by omega), if_neg h1]
  · rw [b0_3, if_neg (by omega), if_neg (by omega), if_neg (by omega), if_neg (by omega)]
theorem b0_4 {d : Nat} (h : ¬ d = 59) (z : Int) : b0.2.2.2.1 d z = 0 := if_neg (fun w => h w.1)
theorem b0_5 (d : Nat) (z : Int) : b0.2.2.2.2 d z = 0 := rfl

theorem q8_0 (ha : a = b) : ((8, 13, va_up (va_up (va_up (va_up (va_up (va_up (va_up (va_up (va_up (va_up (df8) 0 (.ref (a + 1))) 1 (.ref (a + 2))) 2 (.ref (a + 3))) 3 (.ref (a + 10))) 4 (.ref (a + 17))) 5 (.ref (a + 18))) 6 (.ref (a + 19))) 7 (.ref (a + 20))) 8 (.ref (a + 26))) 12 (.int (iI 1))) : PC) = cellB b (8, 13) b0 0 := oc8 (by omega) (fun i h => by simp only [false_or] at h; exact b0_z (by omega) (by omega) (by omega) (by omega)) rfl rfl rfl
theorem q8_1 (ha : a = b) : (zC 22 1600 (.int 0) : PC) = cellB b (22, 1600) b0 1 := zc_i (by decide) (b0_4 (by omega))
theorem q8_2 (ha : a = b) : ((3, 10, va_up (df3) 1 (.int (iI (-1)))) : PC) = cellB b (3, 10) b0 2 := oc3 (a := b + 2) (by omega) (fun i h => by simp only [false_or] at h; exact b0_z (by omega) (by omega) (by omega) (by omega)) rfl
theorem q8_3 (ha : a = b) : ((7, 9, va_up (va_up (va_up (va_up (va_up (va_up (df7) 0 (.ref (a + 3 + 1))) 1 (.ref (a + 3 + 2))) 2 (.ref (a + 3 + 3))) 3 (.ref (a + 3 + 4))) 4 (.ref (a + 3 + 5))) 5 (.ref (a + 3 + 6))) : PC) = cellB b (7, 9) b0 3 := oc7 (by omega) (fun i h => by simp only [false_or] at h; exact b0_z (by omega) (by omega) (by omega) (by omega))
theorem q8_4 (ha : a = b) : (zC 20 700 (.int 0) : PC) = cellB b (20, 700) b0 4 := zc_i (by decide) (b0_4 (by omega))
theorem q8_5 (ha : a = b) : (zC 20 125 (.int 0) : PC) = cellB b (20, 125) b0 5 := zc_i (by decide) (b0_4 (by omega))
theorem q8_6 (ha : a = b) : (zC 20 96 (.int 0) : PC) = cellB b (20, 96) b0 6 := zc_i (by decide) (b0_4 (by omega))
theorem q8_7 (ha : a = b) : (zC 23 96 (.int 0) : PC) = cellB b (23, 96) b0 7 := zc_i (by decide) (b0_4 (by omega))
theorem q8_8 (ha : a = b) : (zC 20 96 (.int 0) : PC) = cellB b (20, 96) b0 8 := zc_i (by decide) (b0_4 (by omega))
theorem q8_9 (ha : a = b) : (zC 23 5 (.int 0) : PC) = cellB b (23, 5) b0 9 := zc_i (by decide) (b0_4 (by omega))
theorem q8_10 (ha : a = b) : ((7, 9, va_up (va_up (va_up (va_up (va_up (va_up (df7) 0 (.ref (a + 10 + 1))) 1 (.ref (a + 10 + 2))) 2 (.ref (a + 10 + 3))) 3 (.ref (a + 10 + 4))) 4 (.ref (a + 10 + 5))) 5 (.ref (a + 10 + 6))) : PC) = cellB b (7, 9) b0 10 := oc7 (by omega) (fun i h => by simp only [false_or] at h; exact b0_z (by omega) (by omega) (by omega) (by omega))
theorem q8_11 (ha : a = b) : (zC 20 700 (.int 0) : PC) = cellB b (20, 700) b0 11 := zc_i (by decide) (b0_4 (by omega))
theorem q8_12 (ha : a = b) : (zC 20 125 (.int 0) : PC) = cellB b (20, 125) b0 12 := zc_i (by decide) (b0_4 (by omega))
theorem q8_13 (ha : a = b) : (zC 20 96 (.int 0) : PC) = cellB b (20, 96) b0 13 := zc_i (by decide) (b0_4 (by omega))
theorem q8_14 (ha : a = b) : (zC 23 96 (.int 0) : PC) = cellB b (23, 96) b0 14 := zc_i (by decide) (b0_4 (by omega))
theorem q8_15 (ha : a = b) : (zC 20 96 (.int 0) : PC) = cellB b (20, 96) b0 15 := zc_i (by decide) (b0_4 (by omega))
theorem q8_16 (ha : a = b) : (zC 23 5 (.int 0) : PC) = cellB b (23, 5) b0 16 := zc_i (by decide) (b0_4 (by omega))
theorem q8_17 (ha : a = b) : ((24, 3, va_up (va_up (va_up (fun _ => .null) 0 (.ref (a + 32))) 1 (.ref (a + 38))) 2 (.ref (a + 44))) : PC) = cellB b (24, 3) b0 17 := rc_ (by omega) (fun j => by
  subst ha
  rw [b0_3, if_neg (by omega), if_neg (by omega)]
  unfold va_up
  by_cases h2 : j = 2
  · subst h2; rw [if_pos rfl, if_pos (by omega)]; exact congrArg Value.ref (show (a + 44 : Nat) = a + (32 + 6 * 2) by omega)
  · by_cases h1 : j = 1
    · subst h1; rw [if_neg (by omega), if_pos rfl, if_pos (by omega)]; exact congrArg Value.ref (show (a + 38 : Nat) = a + (32 + 6 * 1) by omega)
    · by_cases h0 : j = 0
      · subst h0; rw [if_neg (by omega), if_neg (by omega), if_pos rfl, if_pos (by omega)]; exact congrArg Value.ref (show (a + 32 : Nat) = a + (32 + 6 * 0) by omega)
      · rw [if_neg h2, if_neg h1, if_neg h0, if_neg (by omega), if_neg (by omega)]; rfl)
theorem q8_18 (ha : a = b) : (zC 23 3 (.int 0) : PC) = cellB b (23, 3) b0 18 := zc_i (by decide) (b0_4 (by omega))
theorem q8_19 (ha : a = b) : ((25, 4, va_up (va_up (va_up (va_up (fun _ => .null) 0 (.ref (a + 50))) 1 (.ref (a + 52))) 2 (.ref (a + 54))) 3 (.ref (a + 56))) : PC) = cellB b (25, 4) b0 19 := rc_ (by omega) (fun j => by
  subst ha
  rw [b0_3, if_neg (by omega), if_neg (by omega)]
  unfold va_up
  by_cases h3 : j = 3
  · subst h3; rw [if_pos rfl, if_neg (by omega), if_pos (by omega)]; exact congrArg Value.ref (show (a + 56 : Nat) = a + (50 + 2 * 3) by omega)
  · by_cases h2 : j = 2
    · subst h2; rw [if_neg (by omega), if_pos rfl, if_neg (by omega), if_pos (by omega)]; exact congrArg Value.ref (show (a + 54 : Nat) = a + (50 + 2 * 2) by omega)
    · by_cases h1 : j = 1
      · subst h1; rw [if_neg (by omega), if_neg (by omega), if_pos rfl, if_neg (by omega), if_pos (by omega)]; exact congrArg Value.ref (show (a + 52 : Nat) = a + (50 + 2 * 1) by omega)
      · by_cases h0 : j = 0
        · subst h0; rw [if_neg (by omega), if_neg (by omega), if_neg (by omega), if_pos rfl, if_neg (by omega), if_pos (by omega)]; exact congrArg Value.ref (show (a + 50 : Nat) = a + (50 + 2 * 0) by omega)
        · rw [if_neg h3, if_neg h2, if_neg h1, if_neg h0, if_neg (by omega), if_neg (by omega)]; rfl)
theorem q8_20 (ha : a = b) : ((6, 19, va_up (va_up (va_up (va_up (va_up (va_up (df6) 10 (.int (iI (-1)))) 14 (.ref (a + 20 + 1))) 15 (.ref (a + 20 + 2))) 16 (.ref (a + 20 + 3))) 17 (.ref (a + 20 + 4))) 18 (.ref (a + 20 + 5))) : PC) = cellB b (6, 19) b0 20 := oc6 (by omega) (fun i h => by simp only [false_or] at h; exact b0_z (by omega) (by omega) (by omega) (by omega)) rfl
theorem q8_21 (ha : a = b) : (zC 20 120 (.int 0) : PC) = cellB b (20, 120) b0 21 := zc_i (by decide) (b0_4 (by omega))
theorem q8_22 (ha : a = b) : (zC 20 24 (.int 0) : PC) = cellB b (20, 24) b0 22 := zc_i (by decide) (b0_4 (by omega))
theorem q8_23 (ha : a = b) : (zC 20 15 (.int 0) : PC) = cellB b (20, 15) b0 23 := zc_i (by decide) (b0_4 (by omega))
theorem q8_24 (ha : a = b) : (zC 20 96 (.int 0) : PC) = cellB b (20, 96) b0 24 := zc_i (by decide) (b0_4 (by omega))
theorem q8_25 (ha : a = b) : (zC 20 240 (.int 0) : PC) = cellB b (20, 240) b0 25 := zc_i (by decide) (b0_4 (by omega))
theorem q8_26 (ha : a = b) : ((6, 19, va_up (va_up (va_up (va_up (va_up (va_up (df6) 10 (.int (iI (-1)))) 14 (.ref (a + 26 + 1))) 15 (.ref (a + 26 + 2))) 16 (.ref (a + 26 + 3))) 17 (.ref (a + 26 + 4))) 18 (.ref (a + 26 + 5))) : PC) = cellB b (6, 19) b0 26 := oc6 (by omega) (fun i h => by simp only [false_or] at h; exact b0_z (by omega) (by omega) (by omega) (by omega)) rfl
theorem q8_27 (ha : a = b) : (zC 20 120 (.int 0) : PC) = cellB b (20, 120) b0 27 := zc_i (by decide) (b0_4 (by omega))
theorem q8_28 (ha : a = b) : (zC 20 24 (.int 0) : PC) = cellB b (20, 24) b0 28 := zc_i (by decide) (b0_4 (by omega))
theorem q8_29 (ha : a = b) : (zC 20 15 (.int 0) : PC) = cellB b (20, 15) b0 29 := zc_i (by decide) (b0_4 (by omega))
theorem q8_30 (ha : a = b) : (zC 20 96 (.int 0) : PC) = cellB b (20, 96) b0 30 := zc_i (by decide) (b0_4 (by omega))
theorem q8_31 (ha : a = b) : (zC 20 240 (.int 0) : PC) = cellB b (20, 240) b0 31 := zc_i (by decide) (b0_4 (by omega))
theorem q8_32 (ha : a = b) : ((6, 19, va_up (va_up (va_up (va_up (va_up (va_up (df6) 10 (.int (iI (-1)))) 14 (.ref (a + 32 + 1))) 15 (.ref (a + 32 + 2))) 16 (.ref (a + 32 + 3))) 17 (.ref (a + 32 + 4))) 18 (.ref (a + 32 + 5))) : PC) = cellB b (6, 19) b0 32 := oc6 (by omega) (fun i h => by simp only [false_or] at h; exact b0_z (by omega) (by omega) (by omega) (by omega)) rfl
theorem q8_33 (ha : a = b) : (zC 20 120 (.int 0) : PC) = cellB b (20, 120) b0 33 := zc_i (by decide) (b0_4 (by omega))
theorem q8_34 (ha : a = b) : (zC 20 24 (.int 0) : PC) = cellB b (20, 24) b0 34 := zc_i (by decide) (b0_4 (by omega))
theorem q8_35 (ha : a = b) : (zC 20 15 (.int 0) : PC) = cellB b (20, 15) b0 35 := zc_i (by decide) (b0_4 (by omega))
theorem q8_36 (ha : a = b) : (zC 20 96 (.int 0) : PC) = cellB b (20, 96) b0 36 := zc_i (by decide) (b0_4 (by omega))
theorem q8_37 (ha : a = b) : (zC 20 240 (.int 0) : PC) = cellB b (20, 240) b0 37 := zc_i (by decide) (b0_4 (by omega))
theorem q8_38 (ha : a = b) : ((6, 19, va_up (va_up (va_up (va_up (va_up (va_up (df6) 10 (.int (iI (-1)))) 14 (.ref (a + 38 + 1))) 15 (.ref (a + 38 + 2))) 16 (.ref (a + 38 + 3))) 17 (.ref (a + 38 + 4))) 18 (.ref (a + 38 + 5))) : PC) = cellB b (6, 19) b0 38 := oc6 (by omega) (fun i h => by simp only [false_or] at h; exact b0_z (by omega) (by omega) (by omega) (by omega)) rfl
theorem q8_39 (ha : a = b) : (zC 20 120 (.int 0) : PC) = cellB b (20, 120) b0 39 := zc_i (by decide) (b0_4 (by omega))
theorem q8_40 (ha : a = b) : (zC 20 24 (.int 0) : PC) = cellB b (20, 24) b0 40 := zc_i (by decide) (b0_4 (by omega))
theorem q8_41 (ha : a = b) : (zC 20 15 (.int 0) : PC) = cellB b (20, 15) b0 41 := zc_i (by decide) (b0_4 (by omega))
theorem q8_42 (ha : a = b) : (zC 20 96 (.int 0) : PC) = cellB b (20, 96) b0 42 := zc_i (by decide) (b0_4 (by omega))
theorem q8_43 (ha : a = b) : (zC 20 240 (.int 0) : PC) = cellB b (20, 240) b0 43 := zc_i (by decide) (b0_4 (by omega))
theorem q8_44 (ha : a = b) : ((6, 19, va_up (va_up (va_up (va_up (va_up (va_up (df6) 10 (.int (iI (-1)))) 14 (.ref (a + 44 + 1))) 15 (.ref (a + 44 + 2))) 16 (.ref (a + 44 + 3))) 17 (.ref (a + 44 + 4))) 18 (.ref (a + 44 + 5))) : PC) = cellB b (6, 19) b0 44 := oc6 (by omega) (fun i h => by simp only [false_or] at h; exact b0_z (by omega) (by omega) (by omega) (by omega)) rfl
theorem q8_45 (ha : a = b) : (zC 20 120 (.int 0) : PC) = cellB b (20, 120) b0 45 := zc_i (by decide) (b0_4 (by omega))
theorem q8_46 (ha : a = b) : (zC 20 24 (.int 0) : PC) = cellB b (20, 24) b0 46 := zc_i (by decide) (b0_4 (by omega))
theorem q8_47 (ha : a = b) : (zC 20 15 (.int 0) : PC) = cellB b (20, 15) b0 47 := zc_i (by decide) (b0_4 (by omega))
theorem q8_48 (ha : a = b) : (zC 20 96 (.int 0) : PC) = cellB b (20, 96) b0 48 := zc_i (by decide) (b0_4 (by omega))
theorem q8_49 (ha : a = b) : (zC 20 240 (.int 0) : PC) = cellB b (20, 240) b0 49 := zc_i (by decide) (b0_4 (by omega))
theorem q8_50 (ha : a = b) : ((5, 3, va_up (va_up (df5) 0 (.ref (a + 50 + 1))) 1 (.int (iI (-1)))) : PC) = cellB b (5, 3) b0 50 := oc5 (by omega) (fun i h => by simp only [false_or] at h; exact b0_z (by omega) (by omega) (by omega) (by omega)) rfl
theorem q8_51 (ha : a = b) : (zC 21 60 (.long 0) : PC) = cellB b (21, 60) b0 51 := zc_l (b0_5 51)
theorem q8_52 (ha : a = b) : ((5, 3, va_up (va_up (df5) 0 (.ref (a + 52 + 1))) 1 (.int (iI (-1)))) : PC) = cellB b (5, 3) b0 52 := oc5 (by omega) (fun i h => by simp only [false_or] at h; exact b0_z (by omega) (by omega) (by omega) (by omega)) rfl
theorem q8_53 (ha : a = b) : (zC 21 60 (.long 0) : PC) = cellB b (21, 60) b0 53 := zc_l (b0_5 53)
theorem q8_54 (ha : a = b) : ((5, 3, va_up (va_up (df5) 0 (.ref (a + 54 + 1))) 1 (.int (iI (-1)))) : PC) = cellB b (5, 3) b0 54 := oc5 (by omega) (fun i h => by simp only [false_or] at h; exact b0_z (by omega) (by omega) (by omega) (by omega)) rfl
theorem q8_55 (ha : a = b) : (zC 21 60 (.long 0) : PC) = cellB b (21, 60) b0 55 := zc_l (b0_5 55)
theorem q8_56 (ha : a = b) : ((5, 3, va_up (va_up (df5) 0 (.ref (a + 56 + 1))) 1 (.int (iI (-1)))) : PC) = cellB b (5, 3) b0 56 := oc5 (by omega) (fun i h => by simp only [false_or] at h; exact b0_z (by omega) (by omega) (by omega) (by omega)) rfl
theorem q8_57 (ha : a = b) : (zC 21 60 (.long 0) : PC) = cellB b (21, 60) b0 57 := zc_l (b0_5 57)
theorem q9_0 (ha : a = b + 58) : ((9, 52, va_up (va_up (va_up (va_up (va_up (va_up (va_up (va_up (va_up (va_up (va_up (va_up (va_up (va_up (va_up (va_up (va_up (va_up (va_up (va_up (va_up (va_up (va_up (va_up (va_up (va_up (df9) 1 (.ref (a + 1))) 2 (.ref (a + 2))) 3 (.ref (a + 3))) 4 (.ref (a + 4))) 5 (.ref (a + 5))) 15 (.int (iI (-1)))) 16 (.ref (a + 6))) 17 (.ref (a + 7))) 18 (.ref (a + 8))) 19 (.ref (a + 9))) 21 (.ref (a + 10))) 22 (.ref (a + 11))) 23 (.ref (a + 12))) 24 (.ref (a + 13))) 25 (.ref (a + 14))) 28 (.ref (a + 15))) 29 (.ref (a + 16))) 30 (.ref (a + 17))) 31 (.ref (a + 18))) 32 (.ref (a + 19))) 39 (.ref (a + 20))) 40 (.ref (a + 21))) 41 (.ref (a + 22))) 49 (.ref (a + 23))) 50 (.ref (a + 24))) 51 (.ref (a + 25))) : PC) = cellB b (9, 52) b0 58 := oc9 (by omega) (fun i h => by simp only [false_or] at h; exact b0_z (by omega) (by omega) (by omega) (by omega)) rfl
theorem q9_1 (ha : a = b + 58) : ((20, 4, va_up (va_up (va_up (va_up (fun _ => .int 0) 0 (.int (iI (-1)))) 1 (.int (iI (-1)))) 2 (.int (iI (-1)))) 3 (.int (iI (-1)))) : PC) = cellB b (20, 4) b0 59 := ic_ (fun j => by
  show _ = Value.int (iI (if 59 = 59 ∧ 0 ≤ (j : Int) ∧ (j : Int) < 4 then -1 else 0))
  by_cases h : j < 4
  · have e : (if 59 = 59 ∧ 0 ≤ (j : Int) ∧ (j : Int) < 4 then (-1 : Int) else 0) = -1 := if_pos (by omega)
    rw [e]
    rcases (show j = 0 ∨ j = 1 ∨ j = 2 ∨ j = 3 by omega) with rfl | rfl | rfl | rfl <;> rfl
  · have e : (if 59 = 59 ∧ 0 ≤ (j : Int) ∧ (j : Int) < 4 then (-1 : Int) else 0) = 0 := if_neg (by omega)
    rw [e]
    unfold va_up
    rw [if_neg (show ¬ j = 3 by omega), if_neg (show ¬ j = 2 by omega), if_neg (show ¬ j = 1 by omega), if_neg (show ¬ j = 0 by omega)]
    rfl)
theorem q9_2 (ha : a = b + 58) : (zC 20 4 (.int 0) : PC) = cellB b (20, 4) b0 60 := zc_i (by decide) (b0_4 (by omega))
theorem q9_3 (ha : a = b + 58) : (zC 21 240 (.long 0) : PC) = cellB b (21, 240) b0 61 := zc_l (b0_5 61)
theorem q9_4 (ha : a = b + 58) : (zC 21 60 (.long 0) : PC) = cellB b (21, 60) b0 62 := zc_l (b0_5 62)
theorem q9_5 (ha : a = b + 58) : (zC 22 1600 (.int 0) : PC) = cellB b (22, 1600) b0 63 := zc_i (by decide) (b0_4 (by omega))
theorem q9_6 (ha : a = b + 58) : (zC 20 5 (.int 0) : PC) = cellB b (20, 5) b0 64 := zc_i (by decide) (b0_4 (by omega))
theorem q9_7 (ha : a = b + 58) : (zC 20 75 (.int 0) : PC) = cellB b (20, 75) b0 65 := zc_i (by decide) (b0_4 (by omega))
theorem q9_8 (ha : a = b + 58) : (zC 20 600 (.int 0) : PC) = cellB b (20, 600) b0 66 := zc_i (by decide) (b0_4 (by omega))
theorem q9_9 (ha : a = b + 58) : (zC 20 120 (.int 0) : PC) = cellB b (20, 120) b0 67 := zc_i (by decide) (b0_4 (by omega))
theorem q9_10 (ha : a = b + 58) : (zC 20 120 (.int 0) : PC) = cellB b (20, 120) b0 68 := zc_i (by decide) (b0_4 (by omega))
theorem q9_11 (ha : a = b + 58) : (zC 20 75 (.int 0) : PC) = cellB b (20, 75) b0 69 := zc_i (by decide) (b0_4 (by omega))
theorem q9_12 (ha : a = b + 58) : (zC 20 480 (.int 0) : PC) = cellB b (20, 480) b0 70 := zc_i (by decide) (b0_4 (by omega))
theorem q9_13 (ha : a = b + 58) : (zC 20 1200 (.int 0) : PC) = cellB b (20, 1200) b0 71 := zc_i (by decide) (b0_4 (by omega))
theorem q9_14 (ha : a = b + 58) : (zC 23 3 (.int 0) : PC) = cellB b (23, 3) b0 72 := zc_i (by decide) (b0_4 (by omega))
theorem q9_15 (ha : a = b + 58) : (zC 20 700 (.int 0) : PC) = cellB b (20, 700) b0 73 := zc_i (by decide) (b0_4 (by omega))
theorem q9_16 (ha : a = b + 58) : (zC 20 96 (.int 0) : PC) = cellB b (20, 96) b0 74 := zc_i (by decide) (b0_4 (by omega))
theorem q9_17 (ha : a = b + 58) : (zC 23 96 (.int 0) : PC) = cellB b (23, 96) b0 75 := zc_i (by decide) (b0_4 (by omega))
theorem q9_18 (ha : a = b + 58) : (zC 20 96 (.int 0) : PC) = cellB b (20, 96) b0 76 := zc_i (by decide) (b0_4 (by omega))
theorem q9_19 (ha : a = b + 58) : (zC 20 5 (.int 0) : PC) = cellB b (20, 5) b0 77 := zc_i (by decide) (b0_4 (by omega))
theorem q9_20 (ha : a = b + 58) : (zC 23 120 (.int 0) : PC) = cellB b (23, 120) b0 78 := zc_i (by decide) (b0_4 (by omega))
theorem q9_21 (ha : a = b + 58) : (zC 21 16000 (.long 0) : PC) = cellB b (21, 16000) b0 79 := zc_l (b0_5 79)
theorem q9_22 (ha : a = b + 58) : (zC 21 16000 (.long 0) : PC) = cellB b (21, 16000) b0 80 := zc_l (b0_5 80)
theorem q9_23 (ha : a = b + 58) : (zC 21 32000 (.long 0) : PC) = cellB b (21, 32000) b0 81 := zc_l (b0_5 81)
theorem q9_24 (ha : a = b + 58) : (zC 21 32000 (.long 0) : PC) = cellB b (21, 32000) b0 82 := zc_l (b0_5 82)
theorem q9_25 (ha : a = b + 58) : (zC 23 7680 (.int 0) : PC) = cellB b (23, 7680) b0 83 := zc_i (by decide) (b0_4 (by omega))
def L8_ (a : Nat) : List PC := [(8, 13, va_up (va_up (va_up (va_up (va_up (va_up (va_up (va_up (va_up (va_up (df8) 0 (.ref (a + 1))) 1 (.ref (a + 2))) 2 (.ref (a + 3))) 3 (.ref (a + 10))) 4 (.ref (a + 17))) 5 (.ref (a + 18))) 6 (.ref (a + 19))) 7 (.ref (a + 20))) 8 (.ref (a + 26))) 12 (.int (iI 1))), zC 22 1600 (.int 0), (3, 10, va_up (df3) 1 (.int (iI (-1)))), (7, 9, va_up (va_up (va_up (va_up (va_up (va_up (df7) 0 (.ref (a + 3 + 1))) 1 (.ref (a + 3 + 2))) 2 (.ref (a + 3 + 3))) 3 (.ref (a + 3 + 4))) 4 (.ref (a + 3 + 5))) 5 (.ref (a + 3 + 6))), zC 20 700 (.int 0), zC 20 125 (.int 0), zC 20 96 (.int 0), zC 23 96 (.int 0), zC 20 96 (.int 0), zC 23 5 (.int 0), (7, 9, va_up (va_up (va_up (va_up (va_up (va_up (df7) 0 (.ref (a + 10 + 1))) 1 (.ref (a + 10 + 2))) 2 (.ref (a + 10 + 3))) 3 (.ref (a + 10 + 4))) 4 (.ref (a + 10 + 5))) 5 (.ref (a + 10 + 6))), zC 20 700 (.int 0), zC 20 125 (.int 0), zC 20 96 (.int 0), zC 23 96 (.int 0), zC 20 96 (.int 0), zC 23 5 (.int 0), (24, 3, va_up (va_up (va_up (fun _ => .null) 0 (.ref (a + 32))) 1 (.ref (a + 38))) 2 (.ref (a + 44))), zC 23 3 (.int 0), (25, 4, va_up (va_up (va_up (va_up (fun _ => .null) 0 (.ref (a + 50))) 1 (.ref (a + 52))) 2 (.ref (a + 54))) 3 (.ref (a + 56))), (6, 19, va_up (va_up (va_up (va_up (va_up (va_up (df6) 10 (.int (iI (-1)))) 14 (.ref (a + 20 + 1))) 15 (.ref (a + 20 + 2))) 16 (.ref (a + 20 + 3))) 17 (.ref (a + 20 + 4))) 18 (.ref (a + 20 + 5))), zC 20 120 (.int 0), zC 20 24 (.int 0), zC 20 15 (.int 0), zC 20 96 (.int 0), zC 20 240 (.int 0), (6, 19, va_up (va_up (va_up (va_up (va_up (va_up (df6) 10 (.int (iI (-1)))) 14 (.ref (a + 26 + 1))) 15 (.ref (a + 26 + 2))) 16 (.ref (a + 26 + 3))) 17 (.ref (a + 26 + 4))) 18 (.ref (a + 26 + 5))), zC 20 120 (.int 0), zC 20 24 (.int 0), zC 20 15 (.int 0), zC 20 96 (.int 0), zC 20 240 (.int 0), (6, 19, va_up (va_up (va_up (va_up (va_up (va_up (df6) 10 (.int (iI (-1)))) 14 (.ref (a + 32 + 1))) 15 (.ref (a + 32 + 2))) 16 (.ref (a + 32 + 3))) 17 (.ref (a + 32 + 4))) 18 (.ref (a + 32 + 5))), zC 20 120 (.int 0), zC 20 24 (.int 0), zC 20 15 (.int 0), zC 20 96 (.int 0), zC 20 240 (.int 0), (6, 19, va_up (va_up (va_up (va_up (va_up (va_up (df6) 10 (.int (iI (-1)))) 14 (.ref (a + 38 + 1))) 15 (.ref (a + 38 + 2))) 16 (.ref (a + 38 + 3))) 17 (.ref (a + 38 + 4))) 18 (.ref (a + 38 + 5))), zC 20 120 (.int 0), zC 20 24 (.int 0), zC 20 15 (.int 0), zC 20 96 (.int 0), zC 20 240 (.int 0), (6, 19, va_up (va_up (va_up (va_up (va_up (va_up (df6) 10 (.int (iI (-1)))) 14 (.ref (a + 44 + 1))) 15 (.ref (a + 44 + 2))) 16 (.ref (a + 44 + 3))) 17 (.ref (a + 44 + 4))) 18 (.ref (a + 44 + 5))), zC 20 120 (.int 0), zC 20 24 (.int 0), zC 20 15 (.int 0), zC 20 96 (.int 0), zC 20 240 (.int 0), (5, 3, va_up (va_up (df5) 0 (.ref (a + 50 + 1))) 1 (.int (iI (-1)))), zC 21 60 (.long 0), (5, 3, va_up (va_up (df5) 0 (.ref (a + 52 + 1))) 1 (.int (iI (-1)))), zC 21 60 (.long 0), (5, 3, va_up (va_up (df5) 0 (.ref (a + 54 + 1))) 1 (.int (iI (-1)))), zC 21 60 (.long 0), (5, 3, va_up (va_up (df5) 0 (.ref (a + 56 + 1))) 1 (.int (iI (-1)))), zC 21 60 (.long 0)]
def L9_ (a : Nat) : List PC := [(9, 52, va_up (va_up (va_up (va_up (va_up (va_up (va_up (va_up (va_up (va_up (va_up (va_up (va_up (va_up (va_up (va_up (va_up (va_up (va_up (va_up (va_up (va_up (va_up (va_up (va_up (va_up (df9) 1 (.ref (a + 1))) 2 (.ref (a + 2))) 3 (.ref (a + 3))) 4 (.ref (a + 4))) 5 (.ref (a + 5))) 15 (.int (iI (-1)))) 16 (.ref (a + 6))) 17 (.ref (a + 7))) 18 (.ref (a + 8))) 19 (.ref (a + 9))) 21 (.ref (a + 10))) 22 (.ref (a + 11))) 23 (.ref (a + 12))) 24 (.ref (a + 13))) 25 (.ref (a + 14))) 28 (.ref (a + 15))) 29 (.ref (a + 16))) 30 (.ref (a + 17))) 31 (.ref (a + 18))) 32 (.ref (a + 19))) 39 (.ref (a + 20))) 40 (.ref (a + 21))) 41 (.ref (a + 22))) 49 (.ref (a + 23))) 50 (.ref (a + 24))) 51 (.ref (a + 25))), (20, 4, va_up (va_up (va_up (va_up (fun _ => .int 0) 0 (.int (iI (-1)))) 1 (.int (iI (-1)))) 2 (.int (iI (-1)))) 3 (.int (iI (-1)))), zC 20 4 (.int 0), zC 21 240 (.long 0), zC 21 60 (.long 0), zC 22 1600 (.int 0), zC 20 5 (.int 0), zC 20 75 (.int 0), zC 20 600 (.int 0), zC 20 120 (.int 0), zC 20 120 (.int 0), zC 20 75 (.int 0), zC 20 480 (.int 0), zC 20 1200 (.int 0), zC 23 3 (.int 0), zC 20 700 (.int 0), zC 20 96 (.int 0), zC 23 96 (.int 0), zC 20 96 (.int 0), zC 20 5 (.int 0), zC 23 120 (.int 0), zC 21 16000 (.long 0), zC 21 16000 (.long 0), zC 21 32000 (.long 0), zC 21 32000 (.long 0), zC 23 7680 (.int 0)]
def TS8 : List (Nat × Nat) := [(8, 13), (22, 1600), (3, 10), (7, 9), (20, 700), (20, 125), (20, 96), (23, 96), (20, 96), (23, 5), (7, 9), (20, 700), (20, 125), (20, 96), (23, 96), (20, 96), (23, 5), (24, 3), (23, 3), (25, 4), (6, 19), (20, 120), (20, 24), (20, 15), (20, 96), (20, 240), (6, 19), (20, 120), (20, 24), (20, 15), (20, 96), (20, 240), (6, 19), (20, 120), (20, 24), (20, 15), (20, 96), (20, 240), (6, 19), (20, 120), (20, 24), (20, 15), (20, 96), (20, 240), (6, 19), (20, 120), (20, 24), (20, 15), (20, 96), (20, 240), (5, 3), (21, 60), (5, 3), (21, 60), (5, 3), (21, 60), (5, 3), (21, 60)]
def TS9 : List (Nat × Nat) := [(9, 52), (20, 4), (20, 4), (21, 240), (21, 60), (22, 1600), (20, 5), (20, 75), (20, 600), (20, 120), (20, 120), (20, 75), (20, 480), (20, 1200), (23, 3), (20, 700), (20, 96), (23, 96), (20, 96), (20, 5), (23, 120), (21, 16000), (21, 16000), (21, 32000), (21, 32000), (23, 7680)]
theorem L8_c : L8_ b = clz b b0 0 TS8 := cls_c (q8_0 rfl) (cls_c (q8_1 rfl) (cls_c (q8_2 rfl) (cls_c (q8_3 rfl) (cls_c (q8_4 rfl) (cls_c (q8_5 rfl) (cls_c (q8_6 rfl) (cls_c (q8_7 rfl) (cls_c (q8_8 rfl) (cls_c (q8_9 rfl) (cls_c (q8_10 rfl) (cls_c (q8_11 rfl) (cls_c (q8_12 rfl) (cls_c (q8_13 rfl) (cls_c (q8_14 rfl) (cls_c (q8_15 rfl) (cls_c (q8_16 rfl) (cls_c (q8_17 rfl) (cls_c (q8_18 rfl) (cls_c (q8_19 rfl) (cls_c (q8_20 rfl) (cls_c (q8_21 rfl) (cls_c (q8_22 rfl) (cls_c (q8_23 rfl) (cls_c (q8_24 rfl) (cls_c (q8_25 rfl) (cls_c (q8_26 rfl) (cls_c (q8_27 rfl) (cls_c (q8_28 rfl) (cls_c (q8_29 rfl) (cls_c (q8_30 rfl) (cls_c (q8_31 rfl) (cls_c (q8_32 rfl) (cls_c (q8_33 rfl) (cls_c (q8_34 rfl) (cls_c (q8_35 rfl) (cls_c (q8_36 rfl) (cls_c (q8_37 rfl) (cls_c (q8_38 rfl) (cls_c (q8_39 rfl) (cls_c (q8_40 rfl) (cls_c (q8_41 rfl) (cls_c (q8_42 rfl) (cls_c (q8_43 rfl) (cls_c (q8_44 rfl) (cls_c (q8_45 rfl) (cls_c (q8_46 rfl) (cls_c (q8_47 rfl) (cls_c (q8_48 rfl) (cls_c (q8_49 rfl) (cls_c (q8_50 rfl) (cls_c (q8_51 rfl) (cls_c (q8_52 rfl) (cls_c (q8_53 rfl) (cls_c (q8_54 rfl) (cls_c (q8_55 rfl) (cls_c (q8_56 rfl) (cls_c (q8_57 rfl) (rfl))))))))))))))))))))))))))))))))))))))))))))))))))))))))))
theorem L9_c : L9_ (b + 58) = clz b b0 58 TS9 := cls_c (q9_0 rfl) (cls_c (q9_1 rfl) (cls_c (q9_2 rfl) (cls_c (q9_3 rfl) (cls_c (q9_4 rfl) (cls_c (q9_5 rfl) (cls_c (q9_6 rfl) (cls_c (q9_7 rfl) (cls_c (q9_8 rfl) (cls_c (q9_9 rfl) (cls_c (q9_10 rfl) (cls_c (q9_11 rfl) (cls_c (q9_12 rfl) (cls_c (q9_13 rfl) (cls_c (q9_14 rfl) (cls_c (q9_15 rfl) (cls_c (q9_16 rfl) (cls_c (q9_17 rfl) (cls_c (q9_18 rfl) (cls_c (q9_19 rfl) (cls_c (q9_20 rfl) (cls_c (q9_21 rfl) (cls_c (q9_22 rfl) (cls_c (q9_23 rfl) (cls_c (q9_24 rfl) (cls_c (q9_25 rfl) (rfl))))))))))))))))))))))))))
theorem cls_app {b : Nat} {B : Bk} : ∀ (T T' : List (Nat × Nat)) (c : Nat), clz b B c (T ++ T') = clz b B c T ++ clz b B (c + T.length) T'
  | [], T', c => rfl
  | t :: T, T', c => by
    show cellB b t B c :: clz b B (c + 1) (T ++ T') = cellB b t B c :: (clz b B (c + 1) T ++ clz b B (c + (T.length + 1)) T')
    rw [cls_app T T' (c + 1), show c + 1 + T.length = c + (T.length + 1) by omega]
theorem RH_St {b m : Nat} {P : Nat → PC} {B : Bk} {T : List (Nat × Nat)} : RH b P m (clz b B 0 T) = St (b, P, fun d => T.getD d (99, 0), T.length, m) B := by
  unfold RH St
  dsimp only
  refine Prod.ext (by show b + (clz b B 0 T).length = b + T.length; rw [cls_n]) (Prod.ext rfl ?_)
  funext x
  dsimp only
  by_cases h : x < b
  · rw [if_pos h, if_pos h]
  · rw [if_neg h, if_neg h]
    by_cases q : x < b + T.length
    · rw [if_pos q, cls_at T 0 (x - b) (by omega), Nat.zero_add]
    · rw [if_neg q, gdL_d (by rw [cls_n]; omega)]
      rfl
def Ev0 (b : Nat) (P : Nat → PC) : Ev := (b, P, fun d => TS.getD d (99, 0), 84, 116140)
theorem law_made {P : Nat → PC} {K : Nat → Nat} {n : Nat} {xs : Nat → Int32} : fL_law K n xs (RH b P 0 []) = (iter (fL_law_l18 n xs K (b + co) (b + mo)) FU (iI 0, St (Ev0 b P) b0)).bind (Sum.elim (fun r515a => some (iI 1, r515a)) (fun r515b => some (iI 0, r515b))) := by
  have e8 : fX8_init b (RH b P 13 [(8, 13, df8)]) = some (RH b P (13 + 6696) (L8_ b)) := j8_
  have e9 : fX9_init (b + 58) (RH b P (13 + 6696 + 52) (L8_ b ++ [(9, 52, df9)])) = some (RH b P 116140 (L8_ b ++ L9_ (b + 58))) := by
    have ln : b + (L8_ b).length = b + 58 := rfl
    rw [RH_app, RH_app, ln]
    exact j9_
  have es : RH b P 116140 (L8_ b ++ L9_ (b + 58)) = St (Ev0 b P) b0 := by
    have ts : TS = TS8 ++ TS9 := rfl
    have e : L8_ b ++ L9_ (b + 58) = clz b b0 0 TS := by
      rw [ts, cls_app, L8_c, L9_c]
      rfl
    rw [e, RH_St]
    rfl
  unfold fL_law
  refine lt_of (y := RH b P 13 [(8, 13, df8)]) (RH_mk (L := [])) (bind_of e8 (lt_of (y := RH b P (13 + 6696 + 52) (L8_ b ++ [(9, 52, df9)])) RH_mk (bind_of e9 ?_)))
  rw [es]
  rfl
end BGN
