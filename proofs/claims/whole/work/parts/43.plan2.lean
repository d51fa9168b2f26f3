/-! plan -/
section P2
variable {E : Ev} {B : Bk} {n : Nat}
theorem wA_o {B : Bk} {d e : Nat} {z y x : Int} (h : e ≠ d) : (wA B d z x).2.2.2.1 e y = B.2.2.2.1 e y := by rw [wA_4, if_neg (fun q => h q.1)]
theorem wA_z {B : Bk} {d : Nat} {z y x : Int} (h : ¬ y = z) : (wA B d z x).2.2.2.1 d y = B.2.2.2.1 d y := by rw [wA_4, if_neg (fun q => h q.2)]
theorem wA_s {B : Bk} {d : Nat} {z x : Int} : (wA B d z x).2.2.2.1 d z = x := by rw [wA_4, if_pos ⟨rfl, rfl⟩]
/-- a change is written into a row of changes: four numbers from z on -/
def w4 (B : Bk) (d : Nat) (z a b c e : Int) : Bk := wA (wA (wA (wA B d z a) d (z + 1) b) d (z + 2) c) d (z + 3) e
theorem w4_o {B : Bk} {d k : Nat} {z y a b c e : Int} (h : k ≠ d) : (w4 B d z a b c e).2.2.2.1 k y = B.2.2.2.1 k y := by
  unfold w4
  rw [wA_o h, wA_o h, wA_o h, wA_o h]
theorem w4_d {B : Bk} {d : Nat} {z y a b c e : Int} : (w4 B d z a b c e).2.2.2.1 d y = if y = z + 3 then e else if y = z + 2 then c else if y = z + 1 then b else if y = z then a else B.2.2.2.1 d y := by
  unfold w4
  simp only [wA_4, true_and]
def plB (B : Bk) (n : Nat) (s h x : Int) : Bk := wA (wI (w4 (wI B co 11 0) (n + 5) (B.1 n 13 * 4) s h x (B.2.2.2.1 (n + 4) (s * 24 + h))) n 13 (B.1 n 13 + 1)) (n + 4) (s * 24 + h) x
def plM (C : Bk) (i s h x a : Int) : Bk := wA (wA (w4 (wI C mo 0 0) (mo + 13) (4 * i) s h x a) (mo + 12) (24 * s + h) x) (mo + 7) 14 (i + 1)
theorem s8_plan {s h x : Int} (R : RV E B n) (hn : 0 < n) (hs : i32 s) (hh : i32 h) (hx : i32 x) (c1 : 0 ≤ s ∧ s < B.1 n 8) (c2 : 0 ≤ h ∧ h < B.1 n 4) (c3 : 0 ≤ x ∧ x ≤ 2) (c4 : B.1 n 13 < 60) : fX8_plan (E.1 + co) (iI s) (iI h) (iI x) (St E B) = some (iI (B.2.2.2.1 (n + 4) (s * 24 + h)), St E (plB B n s h x)) := by
  have hco : co = 0 := rfl
  have hsh := s8_hasShopHour R hs hh
  obtain ⟨⟨rc, rn, rk, rm⟩, rw1, rv, rb⟩ := R
  have hvw := rw1
  obtain ⟨w0, w1, w2, w3, w4', w5, w6, w7, w8, -⟩ := hvw
  have h13 := rb.1
  have e13 : (wI B co 11 0).1 n 13 = B.1 n 13 := by rw [wI_1, if_neg (by omega)]
  have hch := s_change (B := wI B co 11 0) (s := s) (k := h) (x := x) rk c1.1 (by omega) c2.1 (by omega) (by rw [e13]; exact h13.1) (by rw [e13]; exact c4)
  have rn' : (wI B co 11 0).2.2.1 co 7 = some n := rn
  simp (disch := omega) only [fX8_plan, c8 rc, hsh, s8_isAct hx, some_bind, iI_0, ib, g8_7 rc rn, g6_13 rk.1, iI_lt]
  rw [if_pos ⟨c1, c2⟩, if_pos c3, if_pos c4, p8_11 rc (Or.inl rfl), some_bind, g8_7 rc rn', some_bind, hch, some_bind]
  unfold chV plB w4
  rw [e13]
  rfl
theorem m_plan {C : Bk} {s h x i a : Int} (rm : mKd E mo) (hw : mWd C mo) (hs : i32 s) (hh : i32 h) (hx : i32 x) (hi : C.2.2.2.1 (mo + 7) 14 = i) (ha : C.2.2.2.1 (mo + 12) (24 * s + h) = a) (c1 : 0 ≤ s ∧ s < C.2.2.2.1 (mo + 7) 7) (c2 : 0 ≤ h ∧ h < C.2.2.2.1 (mo + 7) 3) (c3 : 0 ≤ x ∧ x ≤ 2) (c4 : i < 60) : fX9_plan (E.1 + mo) (iI s) (iI h) (iI x) (St E C) = some (iI a, St E (plM C i s h x a)) := by
  have hw' : mWd (wI C mo 0 0) mo := hw
  have b7 := hw.2.2.2.2.2.2.2.2.1
  have b3 := hw.2.2.2.2.1
  have b14 := hw.2.2.2.2.2.2.2.2.2.2
  rw [hi] at b14
  simp only [fX9_plan, c9 rm.1, p9_0 rm.1, m_isShop hs rm hw', jI_i hh.1 hh.2, m_isHour (i3264 hh) rm hw', m_isAct hx, some_bind, iI_0, ib]
  rw [if_pos (show 0 ≤ s ∧ s < (wI C mo 0 0).2.2.2.1 (mo + 7) 7 from c1), if_pos (show 0 ≤ h ∧ h < (wI C mo 0 0).2.2.2.1 (mo + 7) 3 from c2), if_pos c3]
  simp (disch := omega) only [some_bind, wI_2, g9_17 rm.1, aI_ok (mk7 rm), hi, iI_eq, g9_23 rm.1, g9_24 rm.1, iI_mul, iI_add, aI_ok (mk12 rm), ha, sI_ok (mk13 rm), sI_ok (mk12 rm), sI_ok (mk7 rm), wA_o]
  rw [if_neg (by omega)]
  rfl
end P2
