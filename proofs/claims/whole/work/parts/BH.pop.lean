/-! how many bits a long has, as the JDK counts them -/
def mR (b : Nat) : Nat → Nat
  | 0 => 0
  | k + 1 => b + 256 * mR b k
theorem and_cat {a m A M : Nat} (ha : a < 256) (hm : m < 256) : (a + 256 * A) &&& (m + 256 * M) = (a &&& m) + 256 * (A &&& M) := by
  refine Nat.eq_of_testBit_eq (fun i => ?_)
  have hx : (a &&& m) < 2 ^ 8 := Nat.and_lt_two_pow _ hm
  rw [Nat.testBit_and, show a + 256 * A = 2 ^ 8 * A + a by omega, show m + 256 * M = 2 ^ 8 * M + m by omega, show (a &&& m) + 256 * (A &&& M) = 2 ^ 8 * (A &&& M) + (a &&& m) by omega, Nat.testBit_two_pow_mul_add A ha, Nat.testBit_two_pow_mul_add M hm, Nat.testBit_two_pow_mul_add (A &&& M) hx]
  by_cases q : i < 8
  · rw [if_pos q, if_pos q, if_pos q, Nat.testBit_and]
  · rw [if_neg q, if_neg q, if_neg q, Nat.testBit_and]
theorem mR_lt {b : Nat} (hb : b < 256) : ∀ k, mR b k < 256 ^ k
  | 0 => by show 0 < 1; omega
  | k + 1 => by
    have := mR_lt hb k
    show b + 256 * mR b k < 256 ^ (k + 1)
    rw [Nat.pow_succ]
    omega
/-- stages of the count, by numbers -/
def pA2 (k X : Nat) : Nat := (X / 2) &&& mR 85 k
def pB2 (k X : Nat) : Nat := (X &&& mR 51 k) + ((X / 4) &&& mR 51 k)
def pC2 (k X : Nat) : Nat := (X + X / 16) &&& mR 15 k
theorem by_a : ∀ b : Fin 256, ∀ t : Fin 2, (b.val / 2 + 128 * t.val) &&& 85 = (b.val / 2) &&& 85 ∧ (b.val / 2) &&& 85 ≤ b.val := by decide +kernel
theorem by_b : ∀ b : Fin 256, ∀ t : Fin 4, (b.val / 4 + 64 * t.val) &&& 51 = (b.val / 4) &&& 51 ∧ (b.val &&& 51) + ((b.val / 4) &&& 51) < 256 := by decide +kernel
theorem pA_n {k b X : Nat} (hb : b < 256) : pA2 (k + 1) (b + 256 * X) = ((b / 2) &&& 85) + 256 * pA2 k X := by
  unfold pA2
  show ((b + 256 * X) / 2) &&& (85 + 256 * mR 85 k) = _
  rw [show (b + 256 * X) / 2 = (b / 2 + 128 * (X % 2)) + 256 * (X / 2) by omega, and_cat (by omega) (by omega), (by_a ⟨b, hb⟩ ⟨X % 2, by omega⟩).1]
theorem pA_le {k X : Nat} : pA2 k X ≤ X := by
  unfold pA2
  exact Nat.le_trans Nat.and_le_left (by omega)
theorem pB_n {k b X : Nat} (hb : b < 256) : pB2 (k + 1) (b + 256 * X) = ((b &&& 51) + ((b / 4) &&& 51)) + 256 * pB2 k X := by
  unfold pB2
  show ((b + 256 * X) &&& (51 + 256 * mR 51 k)) + (((b + 256 * X) / 4) &&& (51 + 256 * mR 51 k)) = _
  rw [and_cat hb (by omega), show (b + 256 * X) / 4 = (b / 4 + 64 * (X % 4)) + 256 * (X / 4) by omega, and_cat (by omega) (by omega)]
  have q := (by_b ⟨b, hb⟩ ⟨X % 4, by omega⟩).1
  simp only at q
  rw [q]
  omega
theorem and15 (x : Nat) : x &&& 15 = x % 16 := Nat.and_two_pow_sub_one_eq_mod x 4
theorem pC_n {k b X : Nat} (hb : b < 256) (h1 : b % 16 ≤ 4) (h2 : b / 16 ≤ 4) (h3 : X % 16 ≤ 4) : pC2 (k + 1) (b + 256 * X) = (b % 16 + b / 16) + 256 * pC2 k X := by
  unfold pC2
  show ((b + 256 * X) + (b + 256 * X) / 16) &&& (15 + 256 * mR 15 k) = _
  rw [show (b + 256 * X) + (b + 256 * X) / 16 = ((b % 16 + b / 16) + 16 * (b / 16 + X % 16)) + 256 * (X + X / 16) by omega, and_cat (by omega) (by omega), and15]
  congr 1
  omega
/-- bits of a byte -/
def p8 (b : Nat) : Nat := b % 2 + b / 2 % 2 + b / 4 % 2 + b / 8 % 2 + b / 16 % 2 + b / 32 % 2 + b / 64 % 2 + b / 128 % 2
def s1 (b : Nat) : Nat := b - ((b / 2) &&& 85)
def s2 (b : Nat) : Nat := (s1 b &&& 51) + ((s1 b / 4) &&& 51)
theorem by_c : ∀ b : Fin 256, s1 b.val < 256 ∧ s2 b.val < 256 ∧ s2 b.val % 16 ≤ 4 ∧ s2 b.val / 16 ≤ 4 ∧ s2 b.val % 16 + s2 b.val / 16 = p8 b.val ∧ p8 b.val ≤ 8 := by decide +kernel
/-- bytes of a number, each changed -/
def cb (f : Nat → Nat) : Nat → Nat → Nat
  | 0, _ => 0
  | k + 1, X => f (X % 256) + 256 * cb f k (X / 256)
theorem st_1 : ∀ k X, X < 256 ^ k → X - pA2 k X = cb s1 k X
  | 0, X, h => by
    have : X = 0 := by rw [Nat.pow_zero] at h; omega
    rw [this]
    rfl
  | k + 1, X, h => by
    rw [Nat.pow_succ] at h
    have ih := st_1 k (X / 256) (by omega)
    have e : X = X % 256 + 256 * (X / 256) := by omega
    have le := (by_a ⟨X % 256, by omega⟩ ⟨0, by omega⟩).2
    have le2 := pA_le (k := k) (X := X / 256)
    have pn := pA_n (k := k) (b := X % 256) (X := X / 256) (by omega)
    rw [← e] at pn
    show X - pA2 (k + 1) X = s1 (X % 256) + 256 * cb s1 k (X / 256)
    rw [pn, ← ih]
    unfold s1
    simp only at le
    omega
theorem cb_lt {f : Nat → Nat} (hf : ∀ b, b < 256 → f b < 256) : ∀ k X, cb f k X < 256 ^ k
  | 0, X => by show 0 < 1; omega
  | k + 1, X => by
    have := cb_lt hf k (X / 256)
    have := hf (X % 256) (by omega)
    show f (X % 256) + 256 * cb f k (X / 256) < 256 ^ (k + 1)
    rw [Nat.pow_succ]
    omega
theorem st_2 : ∀ k X, pB2 k (cb s1 k X) = cb s2 k X
  | 0, X => by
    show pB2 0 0 = 0
    rfl
  | k + 1, X => by
    have c := by_c ⟨X % 256, by omega⟩
    simp only at c
    show pB2 (k + 1) (s1 (X % 256) + 256 * cb s1 k (X / 256)) = s2 (X % 256) + 256 * cb s2 k (X / 256)
    rw [pB_n c.1, st_2 k (X / 256)]
    rfl
theorem cb2_m : ∀ k X, cb s2 k X % 16 ≤ 4
  | 0, X => by show 0 % 16 ≤ 4; omega
  | k + 1, X => by
    have c := by_c ⟨X % 256, by omega⟩
    simp only at c
    show (s2 (X % 256) + 256 * cb s2 k (X / 256)) % 16 ≤ 4
    omega
theorem st_3 : ∀ k X, pC2 k (cb s2 k X) = cb p8 k X
  | 0, X => by
    show pC2 0 0 = 0
    rfl
  | k + 1, X => by
    have c := by_c ⟨X % 256, by omega⟩
    simp only at c
    show pC2 (k + 1) (s2 (X % 256) + 256 * cb s2 k (X / 256)) = p8 (X % 256) + 256 * cb p8 k (X / 256)
    rw [pC_n c.2.1 c.2.2.1 c.2.2.2.1 (cb2_m k (X / 256)), st_3 k (X / 256), c.2.2.2.2.1]
/-- sums of the bytes -/
theorem st_4 {p0 p1 p2 p3 p4 p5 p6 p7 : Nat} (h0 : p0 ≤ 8) (h1 : p1 ≤ 8) (h2 : p2 ≤ 8) (h3 : p3 ≤ 8) (h4 : p4 ≤ 8) (h5 : p5 ≤ 8) (h6 : p6 ≤ 8) (h7 : p7 ≤ 8) {Z z4 z5 z6 : Nat} (hZ : Z = p0 + 256 * (p1 + 256 * (p2 + 256 * (p3 + 256 * (p4 + 256 * (p5 + 256 * (p6 + 256 * p7))))))) (e4 : z4 = Z + Z / 256) (e5 : z5 = z4 + z4 / 65536) (e6 : z6 = z5 + z5 / 4294967296) : z6 < 2 ^ 63 ∧ z5 < 2 ^ 63 ∧ z4 < 2 ^ 63 ∧ Z < 2 ^ 63 ∧ z6 % 128 = p0 + p1 + p2 + p3 + p4 + p5 + p6 + p7 := by
  obtain ⟨y6, g6⟩ : ∃ y, y = p6 + 256 * p7 := ⟨_, rfl⟩
  obtain ⟨y5, g5⟩ : ∃ y, y = p5 + 256 * y6 := ⟨_, rfl⟩
  obtain ⟨y4, g4⟩ : ∃ y, y = p4 + 256 * y5 := ⟨_, rfl⟩
  obtain ⟨y3, g3⟩ : ∃ y, y = p3 + 256 * y4 := ⟨_, rfl⟩
  obtain ⟨y2, g2⟩ : ∃ y, y = p2 + 256 * y3 := ⟨_, rfl⟩
  obtain ⟨y1, g1⟩ : ∃ y, y = p1 + 256 * y2 := ⟨_, rfl⟩
  rw [← g6, ← g5, ← g4, ← g3, ← g2, ← g1] at hZ
  have a4 : Z / 256 = y1 := by omega
  have a5 : z4 / 65536 = y2 + y3 := by omega
  have b5 : z5 = Z + y1 + y2 + y3 := by omega
  have c1 : Z = (p0 + 256 * p1 + 65536 * p2 + 16777216 * p3) + 4294967296 * y4 := by omega
  have c2 : y1 = (p1 + 256 * p2 + 65536 * p3 + 16777216 * p4) + 4294967296 * y5 := by omega
  have c3 : y2 = (p2 + 256 * p3 + 65536 * p4 + 16777216 * p5) + 4294967296 * y6 := by omega
  have c4 : y3 = (p3 + 256 * p4 + 65536 * p5 + 16777216 * p6) + 4294967296 * p7 := by omega
  have a6 : z5 / 4294967296 = y4 + y5 + y6 + p7 := by
    clear e4 e5 e6 a4 a5
    omega
  have b6 : z6 = Z + y1 + y2 + y3 + y4 + y5 + y6 + p7 := by omega
  have m : z6 = (p0 + p1 + p2 + p3 + p4 + p5 + p6 + p7) + 256 * (y1 + y2 + y3 + y4 + y5 + y6 + p7) := by omega
  have t7 : y6 ≤ 2056 := by omega
  have t5 : y5 ≤ 526344 := by omega
  have t4 : y4 ≤ 134744072 := by omega
  have t3 : y3 ≤ 34494482440 := by omega
  have t2 : y2 ≤ 8830587504648 := by omega
  have t1 : y1 ≤ 2260630401189896 := by omega
  have t0 : Z ≤ 578721382704613384 := by omega
  refine ⟨by omega, by omega, by omega, by omega, ?_⟩
  clear hZ e4 e5 e6 a4 a5 b5 c1 c2 c3 c4 a6 b6 g1 g2 g3 g4 g5 g6 t0 t1 t2 t3 t4 t5 t7
  omega
/-- bits of a long as numbers -/
def nJ (x : Int64) : Nat := x.toBitVec.toNat
theorem nJ_lt (x : Int64) : nJ x < 2 ^ 64 := x.toBitVec.isLt
theorem nJ_tb (x : Int64) (i : Nat) : (nJ x).testBit i = tb x i := by unfold nJ tb; rw [BitVec.testBit_toNat]
theorem nJ_and (x y : Int64) : nJ (x &&& y) = nJ x &&& nJ y := by unfold nJ; rw [Int64.toBitVec_and, BitVec.toNat_and]
theorem nJ_add {x y : Int64} (h : nJ x + nJ y < 2 ^ 64) : nJ (x + y) = nJ x + nJ y := by
  unfold nJ at *
  rw [Int64.toBitVec_add, BitVec.toNat_add, Nat.mod_eq_of_lt h]
theorem nJ_sub {x y : Int64} (h : nJ y ≤ nJ x) : nJ (x - y) = nJ x - nJ y := by
  have := nJ_lt x
  unfold nJ at *
  rw [Int64.toBitVec_sub, BitVec.toNat_sub, show 2 ^ 64 - y.toBitVec.toNat + x.toBitVec.toNat = (x.toBitVec.toNat - y.toBitVec.toNat) + 2 ^ 64 by have := y.toBitVec.isLt; omega, Nat.add_mod_right, Nat.mod_eq_of_lt (by omega)]
theorem nJ_ush {k : Nat} (hk : k < 64) (x : Int64) : nJ (lush x (iI (k : Int))) = nJ x / 2 ^ k := by
  refine Nat.eq_of_testBit_eq (fun i => ?_)
  rw [nJ_tb, tb_lush hk, Nat.testBit_div_two_pow, nJ_tb, Nat.add_comm]
theorem nu_1 (x : Int64) : nJ (lush x (iI 1)) = nJ x / 2 := nJ_ush (k := 1) (by omega) x
theorem nu_2 (x : Int64) : nJ (lush x (iI 2)) = nJ x / 4 := nJ_ush (k := 2) (by omega) x
theorem nu_4 (x : Int64) : nJ (lush x (iI 4)) = nJ x / 16 := nJ_ush (k := 4) (by omega) x
theorem nu_8 (x : Int64) : nJ (lush x (iI 8)) = nJ x / 256 := nJ_ush (k := 8) (by omega) x
theorem nu_16 (x : Int64) : nJ (lush x (iI 16)) = nJ x / 65536 := nJ_ush (k := 16) (by omega) x
theorem nu_32 (x : Int64) : nJ (lush x (iI 32)) = nJ x / 4294967296 := nJ_ush (k := 32) (by omega) x
theorem smN_add {f : Nat → Nat} {a : Nat} : ∀ b, smN f (a + b) = smN f a + smN (fun i => f (a + i)) b
  | 0 => rfl
  | b + 1 => by
    show smN f (a + b) + f (a + b) = smN f a + (smN (fun i => f (a + i)) b + f (a + b))
    rw [smN_add b]
    omega
theorem smN_cg {f g : Nat → Nat} : ∀ {n : Nat}, (∀ i, i < n → f i = g i) → smN f n = smN g n
  | 0, _ => rfl
  | n + 1, h => by
    show smN f n + f n = smN g n + g n
    rw [smN_cg (fun i hi => h i (by omega)), h n (by omega)]
def pS : Nat → Nat → Nat
  | 0, _ => 0
  | k + 1, X => p8 (X % 256) + pS k (X / 256)
theorem p8_m (Y : Nat) : p8 (Y % 256) = Y % 2 + Y / 2 % 2 + Y / 4 % 2 + Y / 8 % 2 + Y / 16 % 2 + Y / 32 % 2 + Y / 64 % 2 + Y / 128 % 2 := by
  unfold p8
  have h1 : Y % 256 / 2 % 2 = Y / 2 % 2 := by omega
  have h2 : Y % 256 / 4 % 2 = Y / 4 % 2 := by omega
  have h3 : Y % 256 / 8 % 2 = Y / 8 % 2 := by omega
  have h4 : Y % 256 / 16 % 2 = Y / 16 % 2 := by omega
  have h5 : Y % 256 / 32 % 2 = Y / 32 % 2 := by omega
  have h6 : Y % 256 / 64 % 2 = Y / 64 % 2 := by omega
  have h7 : Y % 256 / 128 % 2 = Y / 128 % 2 := by omega
  have h0 : Y % 256 % 2 = Y % 2 := by omega
  rw [h0, h1, h2, h3, h4, h5, h6, h7]
theorem pS_sm : ∀ k X, pS k X = smN (fun i => X / 2 ^ i % 2) (8 * k)
  | 0, X => rfl
  | k + 1, X => by
    show p8 (X % 256) + pS k (X / 256) = _
    rw [pS_sm k (X / 256), show 8 * (k + 1) = 8 + 8 * k by omega, smN_add, p8_m]
    congr 1
    · show _ = 0 + X / 2 ^ 0 % 2 + X / 2 ^ 1 % 2 + X / 2 ^ 2 % 2 + X / 2 ^ 3 % 2 + X / 2 ^ 4 % 2 + X / 2 ^ 5 % 2 + X / 2 ^ 6 % 2 + X / 2 ^ 7 % 2
      rw [show (2 : Nat) ^ 0 = 1 from rfl, show (2 : Nat) ^ 1 = 2 from rfl, show (2 : Nat) ^ 2 = 4 from rfl, show (2 : Nat) ^ 3 = 8 from rfl, show (2 : Nat) ^ 4 = 16 from rfl, show (2 : Nat) ^ 5 = 32 from rfl, show (2 : Nat) ^ 6 = 64 from rfl, show (2 : Nat) ^ 7 = 128 from rfl, Nat.div_one, Nat.zero_add]
    · refine smN_cg (fun i _ => ?_)
      rw [Nat.pow_add, Nat.div_div_eq_div_mul, show (2 : Nat) ^ 8 = 256 from rfl]
/-- how many bits -/
def popJ (x : Int64) : Nat := smN (fun i => onN (tb x i)) 64
theorem popJ_S (x : Int64) : popJ x = pS 8 (nJ x) := by
  rw [pS_sm]
  unfold popJ
  refine smN_cg (fun i _ => ?_)
  unfold onN
  rw [← nJ_tb, Nat.testBit_eq_decide_div_mod_eq]
  by_cases q : nJ x / 2 ^ i % 2 = 1
  · rw [if_pos (decide_eq_true q), q]
  · rw [if_neg (fun w => q (of_decide_eq_true w))]
    omega
theorem i127 {y : Int64} {Y : Nat} (h : nJ y = Y) : Int64.toInt32 y &&& iI 127 = iI ((Y % 128 : Nat) : Int) := by
  apply Int32.toBitVec_inj.mp
  apply BitVec.eq_of_toNat_eq
  rw [Int32.toBitVec_and, BitVec.toNat_and]
  have e1 : (Int64.toInt32 y).toBitVec = y.toBitVec.signExtend 32 := rfl
  have e2 : (iI 127).toBitVec.toNat = 127 := by decide
  have e3 : (iI ((Y % 128 : Nat) : Int)).toBitVec.toNat = Y % 128 := by
    have : (iI ((Y % 128 : Nat) : Int)).toBitVec = BitVec.ofInt 32 ((Y % 128 : Nat) : Int) := rfl
    rw [this, BitVec.toNat_ofInt]
    omega
  rw [e1, e2, e3, BitVec.signExtend_eq_setWidth_of_le _ (by decide), BitVec.toNat_setWidth]
  show nJ y % 2 ^ 32 &&& 127 = _
  rw [h, show (127 : Nat) = 2 ^ 7 - 1 from rfl, Nat.and_two_pow_sub_one_eq_mod]
  omega
set_option maxHeartbeats 400000 in
theorem j13_bitCount {x : Int64} {s : Hp} : fJ13_bitCount_95d88 x s = some (iI (popJ x : Int), s) := by
  have X0 := nJ_lt x
  have m85 : nJ 6148914691236517205 = mR 85 8 := by decide
  have m51 : nJ 3689348814741910323 = mR 51 8 := by decide
  have m15 : nJ 1085102592571150095 = mR 15 8 := by decide
  have p64 : (256 : Nat) ^ 8 = 2 ^ 64 := by decide
  obtain ⟨z1, h1⟩ : ∃ z, z = x - ((lush x (iI 1)) &&& 6148914691236517205) := ⟨_, rfl⟩
  obtain ⟨z2, h2⟩ : ∃ z, z = (z1 &&& 3689348814741910323) + ((lush z1 (iI 2)) &&& 3689348814741910323) := ⟨_, rfl⟩
  obtain ⟨z3, h3⟩ : ∃ z, z = (z2 + (lush z2 (iI 4))) &&& 1085102592571150095 := ⟨_, rfl⟩
  obtain ⟨z4, h4⟩ : ∃ z, z = z3 + (lush z3 (iI 8)) := ⟨_, rfl⟩
  obtain ⟨z5, h5⟩ : ∃ z, z = z4 + (lush z4 (iI 16)) := ⟨_, rfl⟩
  obtain ⟨z6, h6⟩ : ∃ z, z = z5 + (lush z5 (iI 32)) := ⟨_, rfl⟩
  have e1 : nJ z1 = cb s1 8 (nJ x) := by
    have a : nJ ((lush x (iI 1)) &&& 6148914691236517205) = pA2 8 (nJ x) := by
      rw [nJ_and, m85, nu_1]
      rfl
    rw [h1, nJ_sub (by rw [a]; exact pA_le), a, st_1 8 (nJ x) (by rw [p64]; exact X0)]
  have b1 : nJ z1 < 2 ^ 64 := nJ_lt z1
  have e2 : nJ z2 = cb s2 8 (nJ x) := by
    have a : nJ (z1 &&& 3689348814741910323) + nJ ((lush z1 (iI 2)) &&& 3689348814741910323) = pB2 8 (nJ z1) := by
      rw [nJ_and, nJ_and, m51, nu_2]
      rfl
    have lt := cb_lt (f := s2) (fun b hb => (by_c ⟨b, hb⟩).2.1) 8 (nJ x)
    rw [p64] at lt
    rw [e1, st_2] at a
    rw [h2, nJ_add (by rw [a]; exact lt), a]
  have e3 : nJ z3 = cb p8 8 (nJ x) := by
    have lt : nJ z2 + nJ (lush z2 (iI 4)) < 2 ^ 64 := by
      rw [nu_4]
      have : cb s2 8 (nJ x) ≤ 68 * mR 1 8 := by
        have key : ∀ k X, cb s2 k X ≤ 68 * mR 1 k := by
          intro k
          induction k with
          | zero => intro X; exact Nat.le_refl _
          | succ k ih =>
            intro X
            have c := by_c ⟨X % 256, by omega⟩
            simp only at c
            have := ih (X / 256)
            show s2 (X % 256) + 256 * cb s2 k (X / 256) ≤ 68 * (1 + 256 * mR 1 k)
            omega
        exact key 8 _
      rw [e2]
      have m1 : mR 1 8 = 72340172838076673 := by decide
      rw [m1] at this
      omega
    rw [h3, nJ_and, m15, nJ_add lt, nu_4]
    have := st_3 8 (nJ x)
    rw [← e2] at this
    exact this
  obtain ⟨X, hX⟩ : ∃ X, X = nJ x := ⟨_, rfl⟩
  rw [← hX] at e3
  have q : ∀ b : Nat, p8 (b % 256) ≤ 8 := fun b => by
    have := (by_c ⟨b % 256, by omega⟩).2.2.2.2.2
    exact this
  obtain ⟨Z, hZ⟩ : ∃ Z, Z = cb p8 8 X := ⟨_, rfl⟩
  have s4 := st_4 (q X) (q (X / 256)) (q (X / 256 / 256)) (q (X / 256 / 256 / 256)) (q (X / 256 / 256 / 256 / 256)) (q (X / 256 / 256 / 256 / 256 / 256)) (q (X / 256 / 256 / 256 / 256 / 256 / 256)) (q (X / 256 / 256 / 256 / 256 / 256 / 256 / 256)) (Z := Z) (z4 := Z + Z / 256) (z5 := (Z + Z / 256) + (Z + Z / 256) / 65536) (by rw [hZ]; rfl) rfl rfl rfl
  obtain ⟨b6, b5, b4, b3, sum⟩ := s4
  have f4 : nJ z4 = Z + Z / 256 := by
    rw [h4, nJ_add (by rw [nu_8, e3, ← hZ]; show Z + Z / 256 < 2 ^ 64; omega), nu_8, e3, ← hZ]
  have f5 : nJ z5 = (Z + Z / 256) + (Z + Z / 256) / 65536 := by
    rw [h5, nJ_add (by rw [nu_16, f4]; show (Z + Z / 256) + (Z + Z / 256) / 65536 < 2 ^ 64; omega), nu_16, f4]
  have f6 : nJ z6 = ((Z + Z / 256) + (Z + Z / 256) / 65536) + ((Z + Z / 256) + (Z + Z / 256) / 65536) / 4294967296 := by
    rw [h6, nJ_add (by rw [nu_32, f5]; show ((Z + Z / 256) + (Z + Z / 256) / 65536) + ((Z + Z / 256) + (Z + Z / 256) / 65536) / 4294967296 < 2 ^ 64; omega), nu_32, f5]
  have ps : popJ x = p8 (X % 256) + p8 (X / 256 % 256) + p8 (X / 256 / 256 % 256) + p8 (X / 256 / 256 / 256 % 256) + p8 (X / 256 / 256 / 256 / 256 % 256) + p8 (X / 256 / 256 / 256 / 256 / 256 % 256) + p8 (X / 256 / 256 / 256 / 256 / 256 / 256 % 256) + p8 (X / 256 / 256 / 256 / 256 / 256 / 256 / 256 % 256) := by
    rw [popJ_S, ← hX]
    show p8 (X % 256) + (p8 (X / 256 % 256) + (p8 (X / 256 / 256 % 256) + (p8 (X / 256 / 256 / 256 % 256) + (p8 (X / 256 / 256 / 256 / 256 % 256) + (p8 (X / 256 / 256 / 256 / 256 / 256 % 256) + (p8 (X / 256 / 256 / 256 / 256 / 256 / 256 % 256) + (p8 (X / 256 / 256 / 256 / 256 / 256 / 256 / 256 % 256) + 0))))))) = _
    omega
  have fin := i127 f6
  rw [sum, ← ps] at fin
  rw [← fin]
  unfold fJ13_bitCount_95d88 lt_
  rw [h6, h5, h4, h3, h2, h1]
