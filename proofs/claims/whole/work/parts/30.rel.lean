/-! the class's valley against the reference's: places of the two objects, what is alike, what bounds hold -/
def co : Nat := 0
def mo : Nat := 58
/-- what a valley holds keeps its bounds -/
def VB (B : Bk) (d : Nat) : Prop :=
  (0 ≤ B.1 d 13 ∧ B.1 d 13 ≤ 60) ∧ (0 < B.1 d 0 → 2 ≤ B.1 d 1 ∧ 2 ≤ B.1 d 2 ∧ 2 ≤ B.1 d 3 ∧ 1 ≤ B.1 d 4 ∧ B.1 d 6 < B.1 d 3) ∧
  (B.1 d 0 = 0 → B.1 d 1 = 0 ∧ B.1 d 2 = 0 ∧ B.1 d 3 = 0 ∧ B.1 d 4 = 0 ∧ B.1 d 8 = 0 ∧ B.1 d 9 = 0 ∧ B.1 d 13 = 0) ∧
  (∀ l h : Int, 0 ≤ l → l < B.1 d 3 → 0 ≤ h → h < B.1 d 4 → 0 ≤ B.2.2.2.1 (d + 1) (l * 24 + h) ∧ B.2.2.2.1 (d + 1) (l * 24 + h) < 5) ∧
  (∀ s : Int, 0 ≤ s → s < B.1 d 8 → (0 ≤ B.2.2.2.1 (d + 2) (s * 6 + 0) ∧ B.2.2.2.1 (d + 2) (s * 6 + 0) < B.1 d 1) ∧ (0 ≤ B.2.2.2.1 (d + 2) (s * 6 + 1) ∧ B.2.2.2.1 (d + 2) (s * 6 + 1) < B.1 d 2) ∧ (0 ≤ B.2.2.2.1 (d + 2) (s * 6 + 2) ∧ B.2.2.2.1 (d + 2) (s * 6 + 2) < B.1 d 3) ∧ (0 ≤ B.2.2.2.1 (d + 2) (s * 6 + 3) ∧ B.2.2.2.1 (d + 2) (s * 6 + 3) ≤ 9) ∧ (0 ≤ B.2.2.2.1 (d + 2) (s * 6 + 4) ∧ B.2.2.2.1 (d + 2) (s * 6 + 4) ≤ 9) ∧ (0 ≤ B.2.2.2.1 (d + 2) (s * 6 + 5) ∧ B.2.2.2.1 (d + 2) (s * 6 + 5) ≤ 9)) ∧
  (∀ i : Int, 0 ≤ i → i < B.1 d 9 → (0 ≤ B.2.2.2.1 (d + 3) (i * 3 + 0) ∧ B.2.2.2.1 (d + 3) (i * 3 + 0) < B.1 d 1) ∧ (0 ≤ B.2.2.2.1 (d + 3) (i * 3 + 1) ∧ B.2.2.2.1 (d + 3) (i * 3 + 1) < B.1 d 2) ∧ (0 ≤ B.2.2.2.1 (d + 3) (i * 3 + 2) ∧ B.2.2.2.1 (d + 3) (i * 3 + 2) ≤ 9)) ∧
  (∀ s h : Int, 0 ≤ s → s < B.1 d 8 → 0 ≤ h → h < B.1 d 4 → 0 ≤ B.2.2.2.1 (d + 4) (s * 24 + h) ∧ B.2.2.2.1 (d + 4) (s * 24 + h) ≤ 2) ∧
  (∀ i : Int, 0 ≤ i → i < B.1 d 13 → (0 ≤ B.2.2.2.1 (d + 5) (i * 4 + 0) ∧ B.2.2.2.1 (d + 5) (i * 4 + 0) < B.1 d 8) ∧ (0 ≤ B.2.2.2.1 (d + 5) (i * 4 + 1) ∧ B.2.2.2.1 (d + 5) (i * 4 + 1) < B.1 d 4) ∧ (0 ≤ B.2.2.2.1 (d + 5) (i * 4 + 2) ∧ B.2.2.2.1 (d + 5) (i * 4 + 2) ≤ 2) ∧ (0 ≤ B.2.2.2.1 (d + 5) (i * 4 + 3) ∧ B.2.2.2.1 (d + 5) (i * 4 + 3) ≤ 2)) ∧
  (B.1 d 10 = -1 ∨ (∃ x y : Int, B.1 d 10 = y * 8 + x ∧ 0 ≤ x ∧ x < B.1 d 1 ∧ 0 ≤ y ∧ y < B.1 d 2) ∧ 0 ≤ B.1 d 11 ∧ B.1 d 11 ≤ B.1 d 12 ∧ B.1 d 12 < B.1 d 4)
/-- the valley at d is the reference's in block q -/
def VR (B : Bk) (d : Nat) (q : Int) : Prop :=
  B.2.2.2.1 (mo + 6) q = B.1 d 0 ∧ (∀ k : Nat, k < 9 → B.2.2.2.1 (mo + 7) (15 * q + (k : Int)) = B.1 d (k + 1)) ∧ B.2.2.2.1 (mo + 7) (15 * q + 14) = B.1 d 13 ∧
  (∀ l h : Int, 0 ≤ l → l < B.1 d 3 → 0 ≤ h → h < B.1 d 4 → B.2.2.2.1 (mo + 8) (120 * q + (24 * l + h)) = B.2.2.2.1 (d + 1) (l * 24 + h)) ∧
  (∀ s k : Int, 0 ≤ s → s < B.1 d 8 → 0 ≤ k → k < 6 → B.2.2.2.1 (mo + 10) (24 * q + (6 * s + k)) = B.2.2.2.1 (d + 2) (s * 6 + k)) ∧
  (∀ i k : Int, 0 ≤ i → i < B.1 d 9 → 0 ≤ k → k < 3 → B.2.2.2.1 (mo + 11) (15 * q + (3 * i + k)) = B.2.2.2.1 (d + 3) (i * 3 + k)) ∧
  (∀ s h : Int, 0 ≤ s → s < B.1 d 8 → 0 ≤ h → h < B.1 d 4 → B.2.2.2.1 (mo + 12) (96 * q + (24 * s + h)) = B.2.2.2.1 (d + 4) (s * 24 + h)) ∧
  (∀ i k : Int, 0 ≤ i → i < B.1 d 13 → 0 ≤ k → k < 4 → B.2.2.2.1 (mo + 13) (240 * q + (4 * i + k)) = B.2.2.2.1 (d + 5) (i * 4 + k)) ∧
  (B.1 d 10 = -1 ∧ B.2.2.2.1 (mo + 7) (15 * q + 9) = 0 ∨ ¬ B.1 d 10 = -1 ∧ B.2.2.2.1 (mo + 7) (15 * q + 9) = 1 ∧ B.1 d 10 = B.2.2.2.1 (mo + 7) (15 * q + 11) * 8 + B.2.2.2.1 (mo + 7) (15 * q + 10) ∧ B.1 d 11 = B.2.2.2.1 (mo + 7) (15 * q + 12) ∧ B.1 d 12 = B.2.2.2.1 (mo + 7) (15 * q + 13) ∧ (0 ≤ B.2.2.2.1 (mo + 7) (15 * q + 10) ∧ B.2.2.2.1 (mo + 7) (15 * q + 10) < B.1 d 1) ∧ (0 ≤ B.2.2.2.1 (mo + 7) (15 * q + 11) ∧ B.2.2.2.1 (mo + 7) (15 * q + 11) < B.1 d 2))
/-- all that questions about the valley need -/
def RV (E : Ev) (B : Bk) (n : Nat) : Prop := (KD E co 8 13 ∧ B.2.2.1 co 7 = some n ∧ VK E n ∧ mKd E mo) ∧ VW B n ∧ VR B n 0 ∧ VB B n
section RL
variable {E : Ev} {B : Bk} {n : Nat}
theorem vr_h0 (R : RV E B n) : B.2.2.2.1 (mo + 7) 0 = B.1 n 1 := R.2.2.1.2.1 0 (by decide)
theorem vr_h1 (R : RV E B n) : B.2.2.2.1 (mo + 7) 1 = B.1 n 2 := R.2.2.1.2.1 1 (by decide)
theorem vr_h2 (R : RV E B n) : B.2.2.2.1 (mo + 7) 2 = B.1 n 3 := R.2.2.1.2.1 2 (by decide)
theorem vr_h3 (R : RV E B n) : B.2.2.2.1 (mo + 7) 3 = B.1 n 4 := R.2.2.1.2.1 3 (by decide)
theorem vr_h4 (R : RV E B n) : B.2.2.2.1 (mo + 7) 4 = B.1 n 5 := R.2.2.1.2.1 4 (by decide)
theorem vr_h5 (R : RV E B n) : B.2.2.2.1 (mo + 7) 5 = B.1 n 6 := R.2.2.1.2.1 5 (by decide)
theorem vr_h6 (R : RV E B n) : B.2.2.2.1 (mo + 7) 6 = B.1 n 7 := R.2.2.1.2.1 6 (by decide)
theorem vr_h7 (R : RV E B n) : B.2.2.2.1 (mo + 7) 7 = B.1 n 8 := R.2.2.1.2.1 7 (by decide)
theorem vr_h8 (R : RV E B n) : B.2.2.2.1 (mo + 7) 8 = B.1 n 9 := R.2.2.1.2.1 8 (by decide)
theorem vr_h14 (R : RV E B n) : B.2.2.2.1 (mo + 7) 14 = B.1 n 13 := R.2.2.1.2.2.1
theorem vr_l (R : RV E B n) : B.2.2.2.1 (mo + 6) 0 = B.1 n 0 := R.2.2.1.1
theorem vr_w (R : RV E B n) {l h : Int} (h1 : 0 ≤ l) (h2 : l < B.1 n 3) (h3 : 0 ≤ h) (h4 : h < B.1 n 4) : B.2.2.2.1 (mo + 8) (24 * l + h) = B.2.2.2.1 (n + 1) (l * 24 + h) := by
  have := R.2.2.1.2.2.2.1 l h h1 h2 h3 h4
  rw [show 120 * 0 + (24 * l + h) = 24 * l + h by omega] at this
  exact this
theorem vr_s (R : RV E B n) {s k : Int} (h1 : 0 ≤ s) (h2 : s < B.1 n 8) (h3 : 0 ≤ k) (h4 : k < 6) : B.2.2.2.1 (mo + 10) (6 * s + k) = B.2.2.2.1 (n + 2) (s * 6 + k) := by
  have := R.2.2.1.2.2.2.2.1 s k h1 h2 h3 h4
  rw [show 24 * 0 + (6 * s + k) = 6 * s + k by omega] at this
  exact this
theorem vr_d (R : RV E B n) {s k : Int} (h1 : 0 ≤ s) (h2 : s < B.1 n 9) (h3 : 0 ≤ k) (h4 : k < 3) : B.2.2.2.1 (mo + 11) (3 * s + k) = B.2.2.2.1 (n + 3) (s * 3 + k) := by
  have := R.2.2.1.2.2.2.2.2.1 s k h1 h2 h3 h4
  rw [show 15 * 0 + (3 * s + k) = 3 * s + k by omega] at this
  exact this
theorem vr_a (R : RV E B n) {s k : Int} (h1 : 0 ≤ s) (h2 : s < B.1 n 8) (h3 : 0 ≤ k) (h4 : k < B.1 n 4) : B.2.2.2.1 (mo + 12) (24 * s + k) = B.2.2.2.1 (n + 4) (s * 24 + k) := by
  have := R.2.2.1.2.2.2.2.2.2.1 s k h1 h2 h3 h4
  rw [show 96 * 0 + (24 * s + k) = 24 * s + k by omega] at this
  exact this
theorem vr_c (R : RV E B n) {s k : Int} (h1 : 0 ≤ s) (h2 : s < B.1 n 13) (h3 : 0 ≤ k) (h4 : k < 4) : B.2.2.2.1 (mo + 13) (4 * s + k) = B.2.2.2.1 (n + 5) (s * 4 + k) := by
  have := R.2.2.1.2.2.2.2.2.2.2.1 s k h1 h2 h3 h4
  rw [show 240 * 0 + (4 * s + k) = 4 * s + k by omega] at this
  exact this
theorem rv_mw (R : RV E B n) : mWd B mo := by
  obtain ⟨w0, w1, w2, w3, w4, w5, w6, w7, w8, w9⟩ := R.2.1
  unfold mWd
  rw [vr_h0 R, vr_h1 R, vr_h2 R, vr_h3 R, vr_h4 R, vr_h5 R, vr_h6 R, vr_h7 R, vr_h8 R, vr_h14 R, vr_l R]
  exact ⟨w0, w1, w2, w3, w4, w5, w6, w7, w8, w9, R.2.2.2.1⟩
/-- the reference's flag of errors is laid down at each call -/
theorem rv_0 (R : RV E B n) (hn : n < 58) : RV E (wI B mo 0 0) n := by
  have e : ∀ j, (wI B mo 0 0).1 n j = B.1 n j := fun j => by rw [wI_1, if_neg (by have : mo = 58 := rfl; omega)]
  unfold RV VW VR VB at *
  simp only [e]
  exact R
/-- a question: both answer alike, and nothing that counts changes -/
def QQ (E : Ev) (B : Bk) (f g : Hp → Option (Int32 × Hp)) : Prop := ∃ v, f (St E B) = some (v, St E B) ∧ g (St E B) = some (v, St E (wI B mo 0 0))
theorem s8_hasShopHour {s h : Int} (R : RV E B n) (hs : i32 s) (hh : i32 h) : fX8_hasShopHour (E.1 + co) (iI s) (iI h) (St E B) = some (iI (bI ((0 ≤ s ∧ s < B.1 n 8) ∧ (0 ≤ h ∧ h < B.1 n 4))), St E B) := by
  obtain ⟨⟨rc, rn, rk, rm⟩, rw1, -⟩ := R
  simp only [fX8_hasShopHour, fX8_hasShopHour_b26, c8 rc, g8_7 rc rn, s_hasShop hs rk rw1, s_hasHour hh rk rw1, some_bind, iI_0, ib]
  by_cases c1 : 0 ≤ s ∧ s < B.1 n 8
  · rw [if_pos c1]
    by_cases c2 : 0 ≤ h ∧ h < B.1 n 4
    · rw [if_pos c2, bI_t ⟨c1, c2⟩]
    · rw [if_neg c2, bI_f (fun q => c2 q.2)]
  · rw [if_neg c1, bI_f (fun q => c1 q.1)]
theorem s8_isWind {z : Int} {s : Hp} (hz : i32 z) : fX8_isWind (iI z) s = some (iI (bI (0 ≤ z ∧ z ≤ 4)), s) := by
  obtain ⟨z1, z2⟩ := hz
  simp (disch := omega) only [fX8_isWind, fX8_isWind_b13, iI_0, iI_lt, iI_le]
  by_cases c : 0 ≤ z ∧ z ≤ 4
  · rw [if_neg (by omega), if_neg (by omega), bI_t c]
  · rw [bI_f c]
    by_cases c2 : z < 0
    · rw [if_pos c2]
    · rw [if_neg c2, if_pos (by omega)]
theorem s8_isAct {z : Int} {s : Hp} (hz : i32 z) : fX8_isAct (iI z) s = some (iI (bI (0 ≤ z ∧ z ≤ 2)), s) := by
  obtain ⟨z1, z2⟩ := hz
  simp (disch := omega) only [fX8_isAct, fX8_isAct_b13, iI_0, iI_lt, iI_le]
  by_cases c : 0 ≤ z ∧ z ≤ 2
  · rw [if_neg (by omega), if_neg (by omega), bI_t c]
  · rw [bI_f c]
    by_cases c2 : z < 0
    · rw [if_pos c2]
    · rw [if_neg c2, if_pos (by omega)]
theorem s8_isStock {z : Int} {s : Hp} (hz : i32 z) : fX8_isStock (iI z) s = some (iI (bI (0 ≤ z ∧ z ≤ 9)), s) := by
  obtain ⟨z1, z2⟩ := hz
  simp (disch := omega) only [fX8_isStock, fX8_isStock_b14, iI_0, iI_lt, iI_le]
  by_cases c : 0 ≤ z ∧ z ≤ 9
  · rw [if_neg (by omega), if_neg (by omega), bI_t c]
  · rw [bI_f c]
    by_cases c2 : z < 0
    · rw [if_pos c2]
    · rw [if_neg c2, if_pos (by omega)]
theorem s8_isSlot {z : Int} {s : Hp} (hz : i32 z) : fX8_isSlot (iI z) s = some (iI (bI (0 ≤ z ∧ z ≤ 3)), s) := by
  obtain ⟨z1, z2⟩ := hz
  simp (disch := omega) only [fX8_isSlot, fX8_isSlot_b13, iI_0, iI_lt, iI_le]
  by_cases c : 0 ≤ z ∧ z ≤ 3
  · rw [if_neg (by omega), if_neg (by omega), bI_t c]
  · rw [bI_f c]
    by_cases c2 : z < 0
    · rw [if_pos c2]
    · rw [if_neg c2, if_pos (by omega)]
theorem i3264 {z : Int} (h : i32 z) : i64 z := ⟨by have := h.1; omega, by have := h.2; omega⟩
theorem o_wind {l h : Int} (R : RV E B n) (hn : n < 58) (hl : i32 l) (hh : i32 h) : QQ E B (fX8_wind (E.1 + co) (iI l) (iI h)) (fX9_wind (E.1 + mo) (iI l) (iI h)) := by
  have R0 := rv_0 R hn
  obtain ⟨⟨rc, rn, rk, rm⟩, rw1, -⟩ := R
  have hw := rw1
  obtain ⟨w0, w1, w2, w3, w4, -⟩ := hw
  have e3 : (wI B mo 0 0).1 n 3 = B.1 n 3 := by rw [wI_1, if_neg (by have : mo = 58 := rfl; omega)]
  have e4 : (wI B mo 0 0).1 n 4 = B.1 n 4 := by rw [wI_1, if_neg (by have : mo = 58 := rfl; omega)]
  unfold QQ
  simp only [fX8_wind, fX8_wind_b22, c8 rc, g8_7 rc rn, s_hasLayer hl rk rw1, s_hasHour hh rk rw1, some_bind, iI_0, ib, fX9_wind, fX9_wind_b31, c9 rm.1, p9_0 rm.1, m_isLayer hl rm (rv_mw R0), jI_i hh.1 hh.2, m_isHour (i3264 hh) rm (rv_mw R0), vr_h2 R0, vr_h3 R0, e3, e4]
  by_cases c1 : 0 ≤ l ∧ l < B.1 n 3
  · by_cases c2 : 0 ≤ h ∧ h < B.1 n 4
    · simp only [if_pos c1, if_pos c2]
      rw [s_windAt rk c1.1 (by omega) c2.1 (by omega), m_windOf rm c1.1 (by omega) c2.1 (by omega), vr_w R0 c1.1 (by rw [e3]; exact c1.2) c2.1 (by rw [e4]; exact c2.2)]
      exact ⟨_, rfl, rfl⟩
    · simp only [if_pos c1, if_neg c2]
      exact ⟨_, rfl, rfl⟩
  · simp only [if_neg c1]
    exact ⟨_, rfl, rfl⟩
end RL
