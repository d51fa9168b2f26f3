/-! longs by their bits; the lowest one; bits taken away one by one -/
def tb (x : Int64) (i : Nat) : Bool := x.toBitVec.getLsbD i
theorem tb_ext {x y : Int64} (h : ∀ i, i < 64 → tb x i = tb y i) : x = y := Int64.toBitVec_inj.mp (BitVec.eq_of_getLsbD_eq (fun i hi => h i hi))
theorem tb_or (x y : Int64) (i : Nat) : tb (x ||| y) i = (tb x i || tb y i) := by unfold tb; rw [Int64.toBitVec_or, BitVec.getLsbD_or]
theorem tb_and (x y : Int64) (i : Nat) : tb (x &&& y) i = (tb x i && tb y i) := by unfold tb; rw [Int64.toBitVec_and, BitVec.getLsbD_and]
theorem tb_xor (x y : Int64) (i : Nat) : tb (x ^^^ y) i = (tb x i ^^ tb y i) := by unfold tb; rw [Int64.toBitVec_xor, BitVec.getLsbD_xor]
theorem tb_big {x : Int64} {i : Nat} (h : 64 ≤ i) : tb x i = false := BitVec.getLsbD_of_ge _ _ h
theorem tb_0 (i : Nat) : tb 0 i = false := BitVec.getLsbD_zero
theorem tb_m1 : ∀ i, i < 64 → tb (-1) i = true := by decide +kernel
theorem tb_not {x : Int64} {i : Nat} (h : i < 64) : tb (x ^^^ (-1)) i = !tb x i := by
  rw [tb_xor, tb_m1 i h]
  cases tb x i <;> rfl
theorem tb_l : ∀ k : Nat, k < 64 → (((iI (k : Int)).toInt64 &&& 63).toBitVec.smod 64).toNat = k := by decide +kernel
theorem tb_u : ∀ k : Nat, k < 64 → ((((iI (k : Int)).toInt64.toUInt64 &&& Int64.toUInt64 63)).toBitVec % 64).toNat = k := by decide +kernel
theorem tb_lsh {k : Nat} (hk : k < 64) (x : Int64) {i : Nat} (hi : i < 64) : tb (lsh x (iI (k : Int))) i = (decide (k ≤ i) && tb x (i - k)) := by
  unfold tb lsh
  rw [Int64.toBitVec_shiftLeft]
  show (x.toBitVec <<< (((iI (k : Int)).toInt64 &&& 63).toBitVec.smod 64).toNat).getLsbD i = _
  rw [tb_l k hk, BitVec.getLsbD_shiftLeft]
  rcases Nat.lt_or_ge i k with h | h
  · simp [h, Nat.not_le.mpr h]
  · simp [hi, h, Nat.not_lt.mpr h]
theorem tb_lush {k : Nat} (hk : k < 64) (x : Int64) (i : Nat) : tb (lush x (iI (k : Int))) i = tb x (k + i) := by
  unfold lush
  show (x.toUInt64 >>> ((iI (k : Int)).toInt64.toUInt64 &&& Int64.toUInt64 63)).toBitVec.getLsbD i = x.toUInt64.toBitVec.getLsbD (k + i)
  rw [UInt64.toBitVec_shiftRight]
  show (x.toUInt64.toBitVec >>> ((((iI (k : Int)).toInt64.toUInt64 &&& Int64.toUInt64 63)).toBitVec % 64).toNat).getLsbD i = _
  rw [tb_u k hk, BitVec.getLsbD_ushiftRight]
theorem tb_lsr {k : Nat} (hk : k < 64) (x : Int64) : tb (lsr x (iI (k : Int))) 0 = tb x k := by
  unfold tb lsr
  rw [Int64.toBitVec_shiftRight]
  show (x.toBitVec.sshiftRight (((iI (k : Int)).toInt64 &&& 63).toBitVec.smod 64).toNat).getLsbD 0 = _
  rw [tb_l k hk, BitVec.getLsbD_sshiftRight]
  simp [hk]
theorem tb_1 : ∀ i, i < 64 → tb 1 i = decide (i = 0) := by decide +kernel
theorem tb_one {k : Nat} (hk : k < 64) {i : Nat} (hi : i < 64) : tb (lsh 1 (iI (k : Int))) i = decide (i = k) := by
  rw [tb_lsh hk 1 hi, tb_1 _ (by omega)]
  by_cases q : k ≤ i
  · rw [decide_eq_true q, Bool.true_and]
    congr 1
    apply propext
    omega
  · rw [decide_eq_false q, Bool.false_and, decide_eq_false (by omega)]
theorem tb_z {x : Int64} : x = 0 ↔ ∀ i, i < 64 → tb x i = false := by
  constructor
  · rintro rfl i _
    exact tb_0 i
  · intro h
    exact tb_ext (fun i hi => by rw [h i hi, tb_0])
theorem tb_nz {x : Int64} (h : ¬ x = 0) : ∃ i, i < 64 ∧ tb x i = true := by
  by_cases q : ∃ i, i < 64 ∧ tb x i = true
  · exact q
  · exact absurd (tb_z.mpr (fun i hi => by
      cases e : tb x i with
      | false => rfl
      | true => exact absurd ⟨i, hi, e⟩ q)) h
theorem tb_bit1 {x : Int64} : (x &&& 1 = 1) ↔ tb x 0 = true := by
  constructor
  · intro h
    have := congrArg (fun y => tb y 0) h
    simp only [tb_and] at this
    rw [tb_1 0 (by omega)] at this
    simpa using this
  · intro h
    refine tb_ext (fun i hi => ?_)
    rw [tb_and, tb_1 i hi]
    by_cases q : i = 0
    · subst q
      rw [h]
      rfl
    · rw [decide_eq_false q, Bool.and_false]
/-- masks of the search -/
theorem tb_mk32 : ∀ i, i < 64 → tb (lsh 1 (iI 32) - 1) i = decide (i < 32) := by decide +kernel
theorem tb_mk16 : ∀ i, i < 64 → tb (lsh 1 (iI 16) - 1) i = decide (i < 16) := by decide +kernel
theorem tb_mk8 : ∀ i, i < 64 → tb (lsh 1 (iI 8) - 1) i = decide (i < 8) := by decide +kernel
theorem tb_mk4 : ∀ i, i < 64 → tb (lsh 1 (iI 4) - 1) i = decide (i < 4) := by decide +kernel
theorem tb_mk2 : ∀ i, i < 64 → tb (lsh 1 (iI 2) - 1) i = decide (i < 2) := by decide +kernel
theorem tb_mk1 : ∀ i, i < 64 → tb (lsh 1 (iI 1) - 1) i = decide (i < 1) := by decide +kernel
/-- the search stands at n, with w behind it, and will find within b2 -/
def LW (x : Int64) (n : Nat) (w : Int64) (b2 : Nat) : Prop := (∀ j, tb w j = tb x (n + j)) ∧ (∀ j, j < n → tb x j = false) ∧ (∃ j, j < b2 ∧ tb w j = true) ∧ n + b2 ≤ 64
theorem lw_step {x w : Int64} {n b : Nat} {s : Hp} (L : LW x n w (2 * b)) (b0 : 0 < b) (b1 : b ≤ 32) (hm : ∀ i, i < 64 → tb (lsh 1 (iI (b : Int)) - 1) i = decide (i < b)) : ∃ (n' : Nat) (w' : Int64), fX9_lowest_l8 (iI (n : Int), w, iI (b : Int), s) = some (.inl (iI (n' : Int), w', iI ((b / 2 : Nat) : Int), s)) ∧ LW x n' w' b := by
  obtain ⟨l1, l2, ⟨j, j0, j1⟩, l4⟩ := L
  have d2 : dI (iI (b : Int)) (iI 2) = some (iI ((b / 2 : Nat) : Int)) := by
    rw [dI_ok (by omega) (by omega) (by omega) (by omega)]
    rfl
  have mz : (w &&& (lsh 1 (iI (b : Int)) - 1) = 0) ↔ ∀ i, i < b → tb w i = false := by
    rw [tb_z]
    constructor
    · intro h i hi
      have := h i (by omega)
      rw [tb_and, hm i (by omega), decide_eq_true hi, Bool.and_true] at this
      exact this
    · intro h i hi
      rw [tb_and, hm i hi]
      by_cases q : i < b
      · rw [h i q, Bool.false_and]
      · rw [decide_eq_false q, Bool.and_false]
  have hd : fX9_lowest_l8 (iI (n : Int), w, iI (b : Int), s) = if w &&& (lsh 1 (iI (b : Int)) - 1) = 0 then some (.inl (iI (n : Int) + iI (b : Int), lush w (iI (b : Int)), iI ((b / 2 : Nat) : Int), s)) else some (.inl (iI (n : Int), w, iI ((b / 2 : Nat) : Int), s)) := by
    have ng : ¬ iI (b : Int) ≤ 0 := by rw [iI_0, iI_le (by omega) (by omega) (by omega) (by omega)]; omega
    unfold fX9_lowest_l8
    dsimp only
    rw [if_neg ng]
    unfold fX9_lowest_b39 lt_
    simp only [d2, some_bind, lg_cmp_eq]
  rw [hd]
  by_cases q : w &&& (lsh 1 (iI (b : Int)) - 1) = 0
  · rw [if_pos q]
    have z := mz.mp q
    refine ⟨n + b, lush w (iI (b : Int)), ?_, fun i => ?_, fun i hi => ?_, ⟨j - b, ?_, ?_⟩, by omega⟩
    · rw [iI_add, Int.natCast_add]
    · rw [tb_lush (by omega), l1, Nat.add_assoc]
    · by_cases c : i < n
      · exact l2 i c
      · have := z (i - n) (by omega)
        rw [l1, show n + (i - n) = i by omega] at this
        exact this
    · have : ¬ j < b := fun c => by rw [z j c] at j1; cases j1
      omega
    · have : ¬ j < b := fun c => by rw [z j c] at j1; cases j1
      rw [tb_lush (by omega), show b + (j - b) = j by omega]
      exact j1
  · rw [if_neg q]
    refine ⟨n, w, rfl, l1, l2, ?_, by omega⟩
    by_cases c : ∃ i, i < b ∧ tb w i = true
    · exact c
    · exact absurd (mz.mpr (fun i hi => by
        cases e : tb w i with
        | false => rfl
        | true => exact absurd ⟨i, hi, e⟩ c)) q
theorem m_lowest {x : Int64} {s : Hp} (h : ¬ x = 0) : ∃ i : Nat, i < 64 ∧ fX9_lowest x s = some (iI (i : Int), s) ∧ tb x i = true ∧ ∀ j, j < i → tb x j = false := by
  obtain ⟨i0, h0, h1⟩ := tb_nz h
  obtain ⟨n1, w1, e1, L1⟩ := lw_step (s := s) (b := 32) (n := 0) (x := x) (w := x) ⟨fun j => by rw [Nat.zero_add], fun j hj => by omega, ⟨i0, h0, h1⟩, by omega⟩ (by omega) (by omega) tb_mk32
  obtain ⟨n2, w2, e2, L2⟩ := lw_step (s := s) (b := 16) L1 (by omega) (by omega) tb_mk16
  obtain ⟨n3, w3, e3, L3⟩ := lw_step (s := s) (b := 8) L2 (by omega) (by omega) tb_mk8
  obtain ⟨n4, w4, e4, L4⟩ := lw_step (s := s) (b := 4) L3 (by omega) (by omega) tb_mk4
  obtain ⟨n5, w5, e5, L5⟩ := lw_step (s := s) (b := 2) L4 (by omega) (by omega) tb_mk2
  obtain ⟨n6, w6, e6, L6⟩ := lw_step (s := s) (b := 1) L5 (by omega) (by omega) tb_mk1
  obtain ⟨l1, l2, ⟨j, j0, j1⟩, l4⟩ := L6
  have j00 : j = 0 := by omega
  subst j00
  refine ⟨n6, by omega, ?_, ?_, l2⟩
  · have ex : fX9_lowest_l8 (iI (n6 : Int), w6, iI ((1 / 2 : Nat) : Int), s) = some (.inr (iI (n6 : Int), s)) := by
      unfold fX9_lowest_l8
      dsimp only
      rw [if_pos (by decide)]
    unfold fX9_lowest
    have run : iter fX9_lowest_l8 FU (iI 0, x, iI 32, s) = some (iI (n6 : Int), s) := by
      have hF : FU = 999993 + 1 + 1 + 1 + 1 + 1 + 1 + 1 := rfl
      rw [hF]
      have e1' : fX9_lowest_l8 (iI 0, x, iI 32, s) = some (.inl (iI (n1 : Int), w1, iI 16, s)) := e1
      have e2' : fX9_lowest_l8 (iI (n1 : Int), w1, iI 16, s) = some (.inl (iI (n2 : Int), w2, iI 8, s)) := e2
      have e3' : fX9_lowest_l8 (iI (n2 : Int), w2, iI 8, s) = some (.inl (iI (n3 : Int), w3, iI 4, s)) := e3
      have e4' : fX9_lowest_l8 (iI (n3 : Int), w3, iI 4, s) = some (.inl (iI (n4 : Int), w4, iI 2, s)) := e4
      have e5' : fX9_lowest_l8 (iI (n4 : Int), w4, iI 2, s) = some (.inl (iI (n5 : Int), w5, iI 1, s)) := e5
      have e6' : fX9_lowest_l8 (iI (n5 : Int), w5, iI 1, s) = some (.inl (iI (n6 : Int), w6, iI ((1 / 2 : Nat) : Int), s)) := e6
      rw [iter_l e1', iter_l e2', iter_l e3', iter_l e4', iter_l e5', iter_l e6']
      exact iter_r ex (by omega)
    rw [run, some_bind]
  · rw [l1, Nat.add_zero] at j1
    exact j1
/-- the lowest bit is taken away -/
theorem tb_clr {x : Int64} {i : Nat} (hi : i < 64) (h1 : tb x i = true) (h0 : ∀ j, j < i → tb x j = false) (j : Nat) : tb (x &&& (x - 1)) j = (tb x j && !decide (j = i)) := by
  obtain ⟨X, hX⟩ : ∃ X, X = x.toBitVec.toNat := ⟨_, rfl⟩
  have hl : X < 2 ^ 64 := by rw [hX]; exact x.toBitVec.isLt
  have t1 : X.testBit i = true := by rw [hX, BitVec.testBit_toNat]; exact h1
  have t0 : ∀ j, j < i → X.testBit j = false := fun j hj => by rw [hX, BitVec.testBit_toNat]; exact h0 j hj
  have m0 : X % 2 ^ i = 0 := by
    refine Nat.eq_of_testBit_eq (fun j => ?_)
    rw [Nat.testBit_mod_two_pow, Nat.zero_testBit]
    by_cases q : j < i
    · rw [t0 j q, Bool.and_false]
    · rw [decide_eq_false q, Bool.false_and]
  have m1 : X / 2 ^ i % 2 = 1 := by
    rw [Nat.testBit_eq_decide_div_mod_eq] at t1
    exact of_decide_eq_true t1
  obtain ⟨m, hm⟩ : ∃ m, X / 2 ^ i = 2 * m + 1 := ⟨X / 2 ^ i / 2, by omega⟩
  have eX : X = 2 ^ i * (2 * m + 1) := by
    have := Nat.div_add_mod X (2 ^ i)
    rw [hm, m0, Nat.add_zero] at this
    exact this.symm
  have pp : 0 < 2 ^ i := Nat.two_pow_pos i
  have eX1 : X - 1 = 2 ^ i * (2 * m) + (2 ^ i - 1) := by
    rw [eX, Nat.mul_add, Nat.mul_one]
    omega
  have Xp : 0 < X := by rw [eX]; exact Nat.mul_pos pp (by omega)
  have s1 : (x - 1).toBitVec.toNat = X - 1 := by
    rw [Int64.toBitVec_sub]
    show (x.toBitVec - 1#64).toNat = _
    rw [BitVec.toNat_sub, ← hX]
    show (2 ^ 64 - 1 + X) % 2 ^ 64 = X - 1
    rw [show 2 ^ 64 - 1 + X = (X - 1) + 2 ^ 64 by omega, Nat.add_mod_right, Nat.mod_eq_of_lt (by omega)]
  have ts : tb (x - 1) j = (X - 1).testBit j := by
    rw [← s1, BitVec.testBit_toNat]
    rfl
  have tx : tb x j = X.testBit j := by rw [hX, BitVec.testBit_toNat]; rfl
  rw [tb_and, ts, tx, eX1, Nat.testBit_two_pow_mul_add _ (by omega)]
  by_cases q : j < i
  · rw [t0 j q, Bool.false_and, Bool.false_and]
  · rw [if_neg q]
    by_cases q2 : j = i
    · subst q2
      rw [Nat.sub_self, decide_eq_true rfl, Nat.testBit_zero, decide_eq_false (by omega)]
      simp
    · have tj : X.testBit j = (2 * m + 1).testBit (j - i) := by
        have := Nat.testBit_two_pow_mul_add (2 * m + 1) pp j
        rw [Nat.add_zero, if_neg q, ← eX] at this
        exact this
      rw [tj, decide_eq_false q2, Bool.not_false, Bool.and_true]
      obtain ⟨k, hk⟩ : ∃ k, j - i = k + 1 := ⟨j - i - 1, by omega⟩
      rw [hk, Nat.testBit_add_one, Nat.testBit_add_one, show (2 * m + 1) / 2 = m by omega, show 2 * m / 2 = m by omega]
      cases m.testBit k <;> rfl
