/-! class Voyage: gusts are drawn; what an hour of a shop changes -/
theorem jI_div {a b : Int} (h0 : 0 ≤ a) (h1 : a < 9223372036854775808) (h2 : 0 < b) (h3 : b < 9223372036854775808) : jI a / jI b = jI (a / b) := by
  have q : a / b ≤ a := Int.ediv_le_self b h0
  have q2 : 0 ≤ a / b := Int.ediv_nonneg h0 (by omega)
  apply Int64.toInt_inj.mp
  rw [lg_ldiv_nonneg (by rw [jI_toInt (by omega) h1]; exact h0) (by rw [jI_toInt (by omega) h3]; exact h2), jI_toInt (by omega) h1, jI_toInt (by omega) h3, jI_toInt (by omega) (by omega)]
theorem dL_ok {a b : Int} (h0 : 0 ≤ a) (h1 : a < 9223372036854775808) (h2 : 0 < b) (h3 : b < 9223372036854775808) : dL (jI a) (jI b) = some (jI (a / b)) := by
  unfold dL
  rw [if_neg, jI_div h0 h1 h2 h3]
  rw [jI_0, jI_eq (by omega) h3 (by omega) (by omega)]
  omega
theorem mL_ok {a b : Int} (h0 : 0 ≤ a) (h1 : a < 9223372036854775808) (h2 : 0 < b) (h3 : b < 9223372036854775808) : mL (jI a) (jI b) = some (jI (a % b)) := by
  unfold mL
  rw [if_neg, jI_div h0 h1 h2 h3, jI_mul, jI_sub, Int.emod_def, Int.mul_comm]
  rw [jI_0, jI_eq (by omega) h3 (by omega) (by omega)]
  omega
theorem jI_and31 {y : Int} (h0 : 0 ≤ y) (h1 : y < 9223372036854775808) : jI y &&& 2147483647 = jI (y % 2147483648) := by
  obtain ⟨n, rfl⟩ := Int.eq_ofNat_of_zero_le h0
  apply Int64.toBitVec_inj.mp
  rw [Int64.toBitVec_and]
  apply BitVec.eq_of_toNat_eq
  rw [BitVec.toNat_and]
  have e : ∀ m : Nat, (m : Int) < 9223372036854775808 → (jI (m : Int)).toBitVec.toNat = m := fun m hm => by
    show (BitVec.ofInt 64 (m : Int)).toNat = m
    rw [BitVec.toNat_ofInt]
    omega
  rw [e n h1, show ((n : Int) % 2147483648) = ((n % 2147483648 : Nat) : Int) by omega, e _ (by omega), show (2147483647 : Int64).toBitVec.toNat = 2 ^ 31 - 1 from by decide, Nat.and_two_pow_sub_one_eq_mod]
theorem jI_65536 : (65536 : Int64) = jI 65536 := by decide
/-- a draw is held against odds -/
theorem dm_ok {y : Int} (y0 : 0 ≤ y) (y1 : y < 2147483648) : (dL (jI y) 65536).bind (fun v8 => mL v8 100) = some (jI (y / 65536 % 100)) := by
  rw [jI_65536, dL_ok y0 (by omega) (by omega) (by omega), some_bind, jI_100, mL_ok (by omega) (by omega) (by omega) (by omega)]
/-- the next draw, with such odds -/
def nx (o x : Int) : Int := if 0 < o then (1103515245 * x + 12345) % 2147483648 else x
def itG (o x : Int) : Nat → Int := fo (fun _ y => nx o y) x
theorem itG_b {o x : Int} (h0 : 0 ≤ x) (h1 : x < 2147483648) : ∀ k, 0 ≤ itG o x k ∧ itG o x k < 2147483648 := by
  intro k
  induction k with
  | zero => exact ⟨h0, h1⟩
  | succ k ih =>
    show 0 ≤ nx o (itG o x k) ∧ nx o (itG o x k) < 2147483648
    unfold nx
    by_cases q : 0 < o
    · rw [if_pos q]
      constructor <;> omega
    · rw [if_neg q]
      exact ih
/-- whether a draw is a gust -/
def guB (o x : Int) : Int := bI (x / 65536 % 100 < o)
/-- all stays but the voyage's own rows and draws -/
def FF (p : Nat) (B C : Bk) : Prop := C.1 = B.1 ∧ C.2.2.1 = B.2.2.1 ∧ C.2.2.2.2 = B.2.2.2.2 ∧ (∀ e k, ¬ (e = p ∧ k = 7) → C.2.1 e k = B.2.1 e k) ∧ (∀ e z, ¬ (p < e ∧ e ≤ p + 6) → C.2.2.2.1 e z = B.2.2.2.1 e z)
theorem FF_rfl {p : Nat} {B : Bk} : FF p B B := ⟨rfl, rfl, rfl, fun _ _ _ => rfl, fun _ _ _ => rfl⟩
theorem FF_tr {p : Nat} {A B C : Bk} (h : FF p A B) (g : FF p B C) : FF p A C := ⟨g.1.trans h.1, g.2.1.trans h.2.1, g.2.2.1.trans h.2.2.1, fun e k q => (g.2.2.2.1 e k q).trans (h.2.2.2.1 e k q), fun e z q => (g.2.2.2.2 e z q).trans (h.2.2.2.2 e z q)⟩
theorem FF_A {p : Nat} {B : Bk} {e : Nat} {z x : Int} (h1 : p < e) (h2 : e ≤ p + 6) : FF p B (wA B e z x) := ⟨rfl, rfl, rfl, fun _ _ _ => rfl, fun e' z' q => by rw [wA_4, if_neg (by omega)]⟩
theorem FF_L {p : Nat} {B : Bk} {x : Int64} : FF p B (wL B p 7 x) := ⟨rfl, rfl, rfl, fun e k q => by rw [wL_2, if_neg q], fun _ _ _ => rfl⟩
theorem FF_l {p : Nat} {B : Bk} {a : Int} {v : Int → Int} : FF p B (lw B (p + 1) a v) := ⟨rfl, rfl, rfl, fun _ _ _ => rfl, fun e z q => by rw [lw_o (by omega)]⟩
theorem FF_c {p : Nat} {B : Bk} {e : Nat} {x y n : Int} (h1 : p < e) (h2 : e ≤ p + 6) : FF p B (cpA B e x e y n) := ⟨rfl, rfl, rfl, fun _ _ _ => rfl, fun e' z' q => by rw [cpA_4, if_neg (by omega)]⟩
theorem FF_VM {p d : Nat} {B C : Bk} {V : Vy} (h : FF p B C) (hM : VM B d V) (hq : d + 5 < p ∨ p + 6 < d) : VM C d V := by
  obtain ⟨f1, f2, f3, f4, f5⟩ := h
  obtain ⟨m1, m2, m3, m4, m5⟩ := hM
  refine ⟨fun j => by rw [f1]; exact m1 j, fun l h => ?_, fun l h => ?_, fun l h => ?_, fun l h => ?_⟩
  · rw [f5 _ _ (by omega)]; exact m2 l h
  · rw [f5 _ _ (by omega)]; exact m3 l h
  · rw [f5 _ _ (by omega)]; exact m4 l h
  · rw [f5 _ _ (by omega)]; exact m5 l h
section VG
variable {E : Ev} {B : Bk} {p d : Nat} {V : Vy} {v w : Int → Int} {a h s o x : Int}
def gdI (B : Bk) (p : Nat) (o x : Int) (j : Nat) (C : Bk) : Prop := FF p B C ∧ C.2.1 p 7 = jI (itG o x j) ∧ (∀ e z, e ≠ p + 6 → C.2.2.2.1 e z = B.2.2.2.1 e z) ∧ C.2.2.2.1 (p + 6) 0 = B.2.2.2.1 (p + 6) 0 ∧ (∀ l : Nat, 1 ≤ l → l ≤ j → C.2.2.2.1 (p + 6) l = guB o (itG o x l))
theorem f7_gust40 {C : Bk} {j : Nat} {y : Int} (P : PK E p) (h8 : C.1 p 8 = o) (o0 : 0 ≤ o) (o1 : o ≤ 100) (hy : C.2.1 p 7 = jI y) (y0 : 0 ≤ y) (y1 : y < 2147483648) (hj : j < 4) : fX7_drawGusts_b40 (E.1 + p) (iI (1 + (j : Int))) (St E C) = some (.inl (iI (1 + ((j + 1 : Nat) : Int)), St E (wA C (p + 6) (1 + (j : Int)) (guB o y)))) := by
  have k6 := P.2.2.2.2.2.2
  rw [show (1 + ((j + 1 : Nat) : Int)) = 1 + (j : Int) + 1 by omega]
  unfold fX7_drawGusts_b40
  rw [g7_5 P.1, some_bind, g7_7 P.1, some_bind, hy, jI_65536, dL_ok y0 (by omega) (by omega) (by omega), some_bind, jI_100, mL_ok (by omega) (by omega) (by omega) (by omega), some_bind, g7_8 P.1, some_bind, h8, jI_i (by omega) (by omega)]
  simp only [lg_cmp_ge]
  have hle : (jI o ≤ jI (y / 65536 % 100)) ↔ (o ≤ y / 65536 % 100) := jI_le (by omega) (by omega) (by omega) (by omega)
  unfold fX7_drawGusts_b71
  unfold guB
  by_cases q : y / 65536 % 100 < o
  · rw [if_neg (fun n => by have := hle.mp n; omega), bI_t q, sZ_ok k6 (by omega) (by omega) (by omega) (Or.inr rfl), some_bind, iI_add]
  · rw [if_pos (hle.mpr (by omega)), bI_f q, sZ_ok k6 (by omega) (by omega) (by omega) (Or.inl rfl), some_bind, iI_add]
theorem f7_drawGusts (P : PK E p) (hd : B.2.2.1 p 6 = some d) (hk : VK E d) {ly : Int} (hly : B.1 d 3 = ly) (l0 : 1 ≤ ly) (l1 : ly ≤ 5) (h8 : B.1 p 8 = o) (o0 : 0 ≤ o) (o1 : o ≤ 100) (hx : B.2.1 p 7 = jI x) (x0 : 0 ≤ x) (x1 : x < 2147483648) : ∃ C, fX7_drawGusts (E.1 + p) (St E B) = some (St E C) ∧ gdI B p o x (ly - 1).toNat C := by
  obtain ⟨r, h1, C, h2, h3⟩ := iter_acc (F := fX7_drawGusts_l2 (E.1 + p)) (fun j a => ∃ C, a = (iI (1 + (j : Int)), St E C) ∧ gdI B p o x j C) (ly - 1).toNat (fun r => ∃ C, r = St E C ∧ gdI B p o x (ly - 1).toNat C) (fun j a hj => by
      rintro ⟨C, rfl, g1, g2, g3, g4, g5⟩
      have g6 : gR (St E C) (E.1 + p) 7 6 = some (E.1 + d) := g7_6 P.1 (by rw [g1.2.1]; exact hd)
      have c8 : C.1 p 8 = o := by rw [g1.1]; exact h8
      have c3 : C.1 d 3 = ly := by rw [g1.1]; exact hly
      have ib := itG_b (o := o) x0 x1 j
      have step : ∀ D : Bk, FF p B D → D.1 p 8 = o → D.2.1 p 7 = jI (itG o x (j + 1)) → (∀ e z, e ≠ p + 6 → D.2.2.2.1 e z = B.2.2.2.1 e z) → D.2.2.2.1 (p + 6) 0 = B.2.2.2.1 (p + 6) 0 → (∀ l : Nat, 1 ≤ l → l ≤ j → D.2.2.2.1 (p + 6) l = guB o (itG o x l)) → ∃ a', fX7_drawGusts_b40 (E.1 + p) (iI (1 + (j : Int))) (St E D) = some (.inl a') ∧ ∃ C, a' = (iI (1 + ((j + 1 : Nat) : Int)), St E C) ∧ gdI B p o x (j + 1) C := fun D d1 d2 d3 d4 d5 d6 => by
        have ib2 := itG_b (o := o) x0 x1 (j + 1)
        refine ⟨_, f7_gust40 P d2 o0 o1 d3 ib2.1 ib2.2 (by omega), _, rfl, FF_tr d1 (FF_A (by omega) (by omega)), d3, fun e z q => ?_, ?_, fun l l1 l2 => ?_⟩
        · rw [wA_4, if_neg (fun w => q w.1), d4 e z q]
        · rw [wA_4, if_neg (by omega), d5]
        · rw [wA_4]
          by_cases q : l = j + 1
          · rw [if_pos ⟨rfl, by omega⟩, q]
          · rw [if_neg (by omega), d6 l l1 (by omega)]
      have nxe : itG o x (j + 1) = nx o (itG o x j) := rfl
      simp (disch := omega) only [fX7_drawGusts_l2, g6, g6_3 hk.1, c3, some_bind, iI_le, g7_8 P.1, c8, iI_0, g7_7 P.1, g2]
      rw [if_neg (by omega)]
      by_cases q : o ≤ 0
      · rw [if_pos q]
        refine step C g1 c8 ?_ g3 g4 g5
        rw [nxe, g2]
        unfold nx
        rw [if_neg (by omega)]
      · rw [if_neg q]
        rw [show (1103515245 : Int64) = jI 1103515245 from by decide, show (12345 : Int64) = jI 12345 from by decide, jI_mul, jI_add, jI_and31 (by omega) (by omega), p7_7 P.1, some_bind]
        refine step _ (FF_tr g1 FF_L) (by show C.1 p 8 = o; exact c8) ?_ g3 g4 g5
        rw [nxe, wL_2, if_pos ⟨rfl, rfl⟩]
        unfold nx
        rw [if_pos (by omega)]) (fun a => by
      rintro ⟨C, rfl, g⟩
      have g6 : gR (St E C) (E.1 + p) 7 6 = some (E.1 + d) := g7_6 P.1 (by rw [g.1.2.1]; exact hd)
      have c3 : C.1 d 3 = ly := by rw [g.1.1]; exact hly
      refine ⟨_, ?_, C, rfl, g⟩
      simp (disch := omega) only [fX7_drawGusts_l2, g6, g6_3 hk.1, c3, some_bind, iI_le]
      rw [if_pos (by omega)]) (N := FU) (by have := FU_big (n := (ly - 1)) (by omega); omega) ⟨B, rfl, FF_rfl, hx, fun _ _ _ => rfl, rfl, fun l l1 l2 => by omega⟩
  refine ⟨C, ?_, h3⟩
  simp only [fX7_drawGusts, c7 P.1, some_bind]
  rw [show iI 1 = iI (1 + ((0 : Nat) : Int)) from rfl, h1, h2]
  rfl
theorem seB_FF {D : Int} : FF p B (seB B p h D w) := by
  unfold seB
  by_cases q : D = -1
  · rw [if_pos q]; exact FF_rfl
  · rw [if_neg q]; exact FF_A (by omega) (by omega)
theorem hB_FF : FF p B (hB V p h s v w B) := by
  unfold hB
  exact FF_tr (FF_tr (FF_tr (FF_tr (FF_A (by omega) (by omega)) (FF_A (by omega) (by omega))) seB_FF) (FF_A (by omega) (by omega))) FF_l
theorem hB_7 : (hB V p h s v w B).2.1 = B.2.1 := by
  unfold hB seB
  by_cases q : stD V h s v w = -1
  · rw [if_pos q]; rfl
  · rw [if_neg q]; rfl
theorem seB_4 {D z : Int} {e : Nat} : (seB B p h D w).2.2.2.1 e z = if e = p + 2 ∧ ¬ D = -1 ∧ z = (h + 1) * 5 + D then w D - 1 else B.2.2.2.1 e z := by
  unfold seB
  by_cases q : D = -1
  · rw [if_pos q, if_neg (fun n => n.2.1 q)]
  · rw [if_neg q, wA_4]
    by_cases q2 : e = p + 2 ∧ z = (h + 1) * 5 + D
    · rw [if_pos q2, if_pos ⟨q2.1, q, q2.2⟩]
    · rw [if_neg q2, if_neg (fun n => q2 ⟨n.1, n.2.2⟩)]
theorem hB_1 {z : Int} : (hB V p h s v w B).2.2.2.1 (p + 1) z = if (h + 1) * 28 + s * 7 ≤ z ∧ z < (h + 1) * 28 + s * 7 + 7 then st4 V h s v w (z - ((h + 1) * 28 + s * 7)) else B.2.2.2.1 (p + 1) z := by
  unfold hB
  rw [lw_4]
  by_cases q : (h + 1) * 28 + s * 7 ≤ z ∧ z < (h + 1) * 28 + s * 7 + 7
  · rw [if_pos ⟨rfl, q⟩, if_pos q]
  · rw [if_neg (fun n => q n.2), if_neg q, wA_4, if_neg (by omega), seB_4, if_neg (by omega), wA_4, if_neg (by omega), wA_4, if_neg (by omega)]
theorem hB_2 {z : Int} : (hB V p h s v w B).2.2.2.1 (p + 2) z = if ¬ stD V h s v w = -1 ∧ z = (h + 1) * 5 + stD V h s v w then w (stD V h s v w) - 1 else B.2.2.2.1 (p + 2) z := by
  unfold hB
  rw [lw_o (by omega), wA_4, if_neg (by omega), seB_4]
  by_cases q : ¬ stD V h s v w = -1 ∧ z = (h + 1) * 5 + stD V h s v w
  · rw [if_pos ⟨rfl, q⟩, if_pos q]
  · rw [if_neg (fun n => q n.2), if_neg q, wA_4, if_neg (by omega), wA_4, if_neg (by omega)]
theorem hB_3 {z : Int} : (hB V p h s v w B).2.2.2.1 (p + 3) z = if z = s * 24 + h then whyS (V.1 3) (V.2.2.2.2.1 s h) v else B.2.2.2.1 (p + 3) z := by
  unfold hB
  rw [lw_o (by omega), wA_4, if_neg (by omega), seB_4, if_neg (by omega), wA_4, if_neg (by omega), wA_4]
  by_cases q : z = s * 24 + h
  · rw [if_pos ⟨rfl, q⟩, if_pos q]
  · rw [if_neg (fun n => q n.2), if_neg q]
theorem hB_4 {z : Int} : (hB V p h s v w B).2.2.2.1 (p + 4) z = if z = s * 24 + h then bI (¬ stC V h s v = st1 V h s v 1 * 8 + st1 V h s v 0) else B.2.2.2.1 (p + 4) z := by
  unfold hB
  rw [lw_o (by omega), wA_4, if_neg (by omega), seB_4, if_neg (by omega), wA_4]
  by_cases q : z = s * 24 + h
  · rw [if_pos ⟨rfl, q⟩, if_pos q]
  · rw [if_neg (fun n => q n.2), if_neg q, wA_4, if_neg (by omega)]
theorem hB_5 {z : Int} : (hB V p h s v w B).2.2.2.1 (p + 5) z = if z = s * 24 + h then stD V h s v w else B.2.2.2.1 (p + 5) z := by
  unfold hB
  rw [lw_o (by omega), wA_4]
  by_cases q : z = s * 24 + h
  · rw [if_pos ⟨rfl, q⟩, if_pos q]
  · rw [if_neg (fun n => q n.2), if_neg q, seB_4, if_neg (by omega), wA_4, if_neg (by omega), wA_4, if_neg (by omega)]
theorem hB_6 {z : Int} : (hB V p h s v w B).2.2.2.1 (p + 6) z = B.2.2.2.1 (p + 6) z := by
  unfold hB
  rw [lw_o (by omega), wA_4, if_neg (by omega), seB_4, if_neg (by omega), wA_4, if_neg (by omega), wA_4, if_neg (by omega)]
end VG
