/-! questions that need no flight: shop, act, changed, price, often -/
section O1
variable {E : Ev} {B : Bk} {n : Nat}
theorem w0n (hn : n < 58) (j : Nat) : (wI B mo 0 0).1 n j = B.1 n j := by rw [wI_1, if_neg (by have : mo = 58 := rfl; omega)]
theorem o_shop {s k : Int} (R : RV E B n) (hn : n < 58) (hs : i32 s) (hk : i32 k) : QQ E B (fX8_shop (E.1 + co) (iI s) (iI k)) (fX9_shop (E.1 + mo) (iI s) (iI k)) := by
  have R0 := rv_0 R hn
  obtain ⟨⟨rc, rn, rk, rm⟩, rw1, -⟩ := R
  have hw := rw1
  obtain ⟨w0, w1, w2, w3, w4, w5, w6, w7, w8, -⟩ := hw
  have hk' := hk
  obtain ⟨k1, k2⟩ := hk'
  unfold QQ
  simp (disch := omega) only [fX8_shop, fX8_shop_b21, c8 rc, g8_7 rc rn, s_hasShop hs rk rw1, some_bind, iI_0, ib, fX9_shop, fX9_shop_b39, c9 rm.1, p9_0 rm.1, m_isShop hs rm (rv_mw R0), jI_i, jI_0, jI_5, m_in, vr_h7 R0, w0n hn, iI_lt]
  by_cases c1 : 0 ≤ s ∧ s < B.1 n 8
  · by_cases c2 : 0 ≤ k ∧ k ≤ 5
    · rw [if_pos c1, if_neg (by omega), if_pos (by omega), if_pos c1, if_pos c2, s_shopFact rk c1.1 (by omega) c2.1 (by omega)]
      simp (disch := omega) only [g9_21 rm.1, some_bind, iI_mul, iI_add, aI_ok (mk10 rm)]
      rw [vr_s R0 c1.1 (by rw [w0n hn]; exact c1.2) c2.1 (by omega)]
      exact ⟨_, rfl, rfl⟩
    · rw [if_pos c1, if_pos c1, if_neg c2]
      by_cases c3 : k < 0
      · rw [if_pos c3]
        exact ⟨_, rfl, rfl⟩
      · rw [if_neg c3, if_neg (by omega)]
        exact ⟨_, rfl, rfl⟩
  · simp only [if_neg c1]
    exact ⟨_, rfl, rfl⟩
theorem o_act {s k : Int} (R : RV E B n) (hn : n < 58) (hs : i32 s) (hk : i32 k) : QQ E B (fX8_act (E.1 + co) (iI s) (iI k)) (fX9_act (E.1 + mo) (iI s) (iI k)) := by
  have R0 := rv_0 R hn
  have hsh := s8_hasShopHour R hs hk
  obtain ⟨⟨rc, rn, rk, rm⟩, rw1, -⟩ := R
  have hw := rw1
  obtain ⟨w0, w1, w2, w3, w4, w5, w6, w7, w8, -⟩ := hw
  unfold QQ
  simp only [fX8_act, c8 rc, g8_7 rc rn, hsh, some_bind, iI_0, ib, fX9_act, fX9_act_b36, c9 rm.1, p9_0 rm.1, m_isShop hs rm (rv_mw R0), jI_i hk.1 hk.2, m_isHour (i3264 hk) rm (rv_mw R0), vr_h7 R0, vr_h3 R0, w0n hn]
  by_cases c1 : 0 ≤ s ∧ s < B.1 n 8
  · by_cases c2 : 0 ≤ k ∧ k < B.1 n 4
    · rw [if_pos ⟨c1, c2⟩, if_pos c1, if_pos c2, s_actAt rk c1.1 (by omega) c2.1 (by omega)]
      simp (disch := omega) only [g9_23 rm.1, some_bind, iI_mul, iI_add, aI_ok (mk12 rm)]
      rw [vr_a R0 c1.1 (by rw [w0n hn]; exact c1.2) c2.1 (by rw [w0n hn]; exact c2.2)]
      exact ⟨_, rfl, rfl⟩
    · rw [if_neg (fun q => c2 q.2), if_pos c1, if_neg c2]
      exact ⟨_, rfl, rfl⟩
  · rw [if_neg (fun q => c1 q.1), if_neg c1]
    exact ⟨_, rfl, rfl⟩
theorem o_changed {i k : Int} (R : RV E B n) (hn : n < 58) (hi : i32 i) (hk : i32 k) : QQ E B (fX8_changed (E.1 + co) (iI i) (iI k)) (fX9_changed (E.1 + mo) (iI i) (iI k)) := by
  have R0 := rv_0 R hn
  obtain ⟨⟨rc, rn, rk, rm⟩, rw1, -, rb⟩ := R
  have hb := rb.1
  have hi' := hi
  obtain ⟨i1, i2⟩ := hi'
  have hk' := hk
  obtain ⟨k1, k2⟩ := hk'
  unfold QQ
  simp (disch := omega) only [fX8_changed, fX8_changed_b19, fX8_changed_b37, c8 rc, g8_7 rc rn, g6_13 rk.1, s_stands rk rw1, some_bind, iI_0, ib, fX9_changed, fX9_changed_b24, c9 rm.1, p9_0 rm.1, m_isValley rm (rv_mw R0), jI_i, jI_0, jI_3, m_in, vr_l R0, w0n hn, iI_lt]
  by_cases c1 : 0 < B.1 n 0
  · by_cases c2 : 0 ≤ k ∧ k ≤ 3
    · rw [if_pos c1, if_neg (by omega), if_pos (by omega), if_pos c1, if_pos c2]
      simp (disch := omega) only [g9_17 rm.1, some_bind, aI_ok (mk7 rm), vr_h14 R0, w0n hn, iI_sub, jI_i, m_in, ib]
      by_cases c3 : 0 ≤ i ∧ i < B.1 n 13
      · rw [if_neg (by omega), if_pos c3.2, if_pos (by omega), s_changeFact rk c3.1 (by omega) c2.1 (by omega)]
        simp (disch := omega) only [g9_24 rm.1, some_bind, iI_mul, iI_add, aI_ok (mk13 rm)]
        rw [vr_c R0 c3.1 (by rw [w0n hn]; exact c3.2) c2.1 (by omega)]
        exact ⟨_, rfl, rfl⟩
      · rw [if_neg (show ¬ (0 ≤ i ∧ i ≤ B.1 n 13 - 1) by omega)]
        by_cases c4 : i < 0
        · rw [if_pos c4]
          exact ⟨_, rfl, rfl⟩
        · rw [if_neg c4, if_neg (by omega)]
          exact ⟨_, rfl, rfl⟩
    · rw [if_pos c1, if_pos c1, if_neg c2]
      by_cases c3 : k < 0
      · rw [if_pos c3]
        exact ⟨_, rfl, rfl⟩
      · rw [if_neg c3, if_neg (by omega)]
        exact ⟨_, rfl, rfl⟩
  · simp only [if_neg c1]
    exact ⟨_, rfl, rfl⟩
theorem o_price {l : Int} (R : RV E B n) (hn : n < 58) (hl : i32 l) : QQ E B (fX8_price (E.1 + co) (iI l)) (fX9_price (E.1 + mo) (iI l)) := by
  have R0 := rv_0 R hn
  obtain ⟨⟨rc, rn, rk, rm⟩, rw1, -⟩ := R
  have hw := rw1
  obtain ⟨w0, w1, w2, w3, w4, w5, w6, w7, w8, -⟩ := hw
  have hl' := hl
  obtain ⟨l1, l2⟩ := hl'
  unfold QQ
  simp (disch := omega) only [fX8_price, c8 rc, g8_7 rc rn, s_hasLayer hl rk rw1, g6_6 rk.1, some_bind, iI_0, ib, fX9_price, c9 rm.1, p9_0 rm.1, m_isLayer hl rm (rv_mw R0), vr_h2 R0, w0n hn, g9_17 rm.1, aI_ok (mk7 rm), vr_h5 R0, iI_le]
  by_cases c1 : 0 ≤ l ∧ l < B.1 n 3
  · rw [if_pos c1, if_pos c1]
    by_cases c2 : l ≤ B.1 n 6
    · rw [if_pos c2, if_pos c2, s_saleBrings rk rw1 c1.1 (by omega), m_earns rm (rv_mw R0) c1.1 (by omega), vr_h6 R0, w0n hn]
      exact ⟨_, rfl, rfl⟩
    · rw [if_neg c2, if_neg c2]
      exact ⟨_, rfl, rfl⟩
  · rw [if_neg c1, if_neg c1]
    exact ⟨_, rfl, rfl⟩
/-- how often a wind blows ahead of an hour -/
def ofN (B : Bk) (n : Nat) (l w : Int) : Nat → Int := fo (fun h x => x + bI (B.2.2.2.1 (n + 1) (l * 24 + h) = w)) 0
theorem ofN_le {l w : Int} : ∀ k : Nat, 0 ≤ ofN B n l w k ∧ ofN B n l w k ≤ k := by
  intro k
  induction k with
  | zero => exact ⟨Int.le_refl 0, Int.le_refl 0⟩
  | succ k ih =>
    have e : ofN B n l w (k + 1) = ofN B n l w k + bI (B.2.2.2.1 (n + 1) (l * 24 + (k : Int)) = w) := rfl
    have := bI_le (p := B.2.2.2.1 (n + 1) (l * 24 + (k : Int)) = w)
    rw [e]
    omega
theorem o_often {l w : Int} (R : RV E B n) (hn : n < 58) (hl : i32 l) (hx : i32 w) : QQ E B (fX8_often (E.1 + co) (iI l) (iI w)) (fX9_often (E.1 + mo) (iI l) (iI w)) := by
  have R0 := rv_0 R hn
  have R1 := R
  obtain ⟨⟨rc, rn, rk, rm⟩, rw1, -, rb⟩ := R
  have hw := rw1
  obtain ⟨w0, w1, w2, w3, w4, w5, w6, w7, w8, -⟩ := hw
  have hx' := hx
  obtain ⟨x1, x2⟩ := hx'
  unfold QQ
  simp only [fX8_often, fX8_often_b18, c8 rc, g8_7 rc rn, s_hasLayer hl rk rw1, s8_isWind hx, some_bind, iI_0, ib, fX9_often, fX9_often_b21, c9 rm.1, p9_0 rm.1, m_isLayer hl rm (rv_mw R0), jI_i x1 x2, m_isWind (i3264 hx), vr_h2 R0, w0n hn]
  by_cases c1 : 0 ≤ l ∧ l < B.1 n 3
  · by_cases c2 : 0 ≤ w ∧ w ≤ 4
    · rw [if_pos c1, if_pos c1, if_pos c2, if_pos c2]
      obtain ⟨m, hm⟩ : ∃ m : Nat, B.1 n 4 = m := ⟨(B.1 n 4).toNat, by omega⟩
      have e8 : iter (fX8_often_l26 (E.1 + co) (iI l) (iI w)) FU (iI 0, iI 0, St E B) = some (iI (ofN B n l w m), St E B) := by
        refine iter_fo (fun j x => (iI x, iI j, St E B)) (fun h x => x + bI (B.2.2.2.1 (n + 1) (l * 24 + h) = w)) 0 m _ (fun j x => 0 ≤ x ∧ x ≤ j) ⟨Int.le_refl 0, Int.le_refl 0⟩ (fun j x hj hx => ?_) (fun j x hj hx => ?_) ?_ (N := FU) (by have := FU_big (n := (m : Int)) (by omega); omega)
        · have := bI_le (p := B.2.2.2.1 (n + 1) (l * 24 + (j : Int)) = w)
          constructor <;> omega
        · have hb := rb.2.2.2.1 l j c1.1 c1.2 (by omega) (by omega)
          simp (disch := omega) only [fX8_often_l26, fX8_often_b58, lt_, g8_7 rc rn, g6_4 rk.1, some_bind, iI_le, s_windAt rk c1.1 (show l < 5 by omega) (show 0 ≤ (j : Int) by omega) (show (j : Int) < 24 by omega), iI_eq, iI_add]
          rw [if_neg (by omega)]
          by_cases c3 : B.2.2.2.1 (n + 1) (l * 24 + (j : Int)) = w
          · rw [if_pos c3, bI_t c3]
          · rw [if_neg c3, bI_f c3]
        · simp (disch := omega) only [fX8_often_l26, g8_7 rc rn, g6_4 rk.1, some_bind, iI_le]
          rw [if_pos (by omega)]
          rfl
      have e9 : iter (fX9_often_l29 (E.1 + mo) (iI l) (iI w)) FU (iI 0, iI 0, St E (wI B mo 0 0)) = some (iI (ofN B n l w m), St E (wI B mo 0 0)) := by
        refine iter_fo (fun j x => (iI x, iI j, St E (wI B mo 0 0))) (fun h x => x + bI (B.2.2.2.1 (n + 1) (l * 24 + h) = w)) 0 m _ (fun j x => 0 ≤ x ∧ x ≤ j) ⟨Int.le_refl 0, Int.le_refl 0⟩ (fun j x hj hx => ?_) (fun j x hj hx => ?_) ?_ (N := FU) (by have := FU_big (n := (m : Int)) (by omega); omega)
        · have := bI_le (p := B.2.2.2.1 (n + 1) (l * 24 + (j : Int)) = w)
          constructor <;> omega
        · have hb := rb.2.2.2.1 l j c1.1 c1.2 (by omega) (by omega)
          have ev := vr_w R0 c1.1 (show l < _ by rw [w0n hn]; exact c1.2) (show 0 ≤ (j : Int) by omega) (show (j : Int) < _ by rw [w0n hn]; omega)
          rw [wI_2] at ev
          simp (disch := omega) only [fX9_often_l29, fX9_often_b57, lt_, g9_17 rm.1, aI_ok (mk7 rm), some_bind, vr_h3 R1, iI_le, m_windOf rm c1.1 (show l < 5 by omega) (show 0 ≤ (j : Int) by omega) (show (j : Int) < 24 by omega), wI_2, ev, iI_eq, iI_add]
          rw [if_neg (by omega)]
          by_cases c3 : B.2.2.2.1 (n + 1) (l * 24 + (j : Int)) = w
          · rw [if_pos c3, bI_t c3]
          · rw [if_neg c3, bI_f c3]
        · simp (disch := omega) only [fX9_often_l29, g9_17 rm.1, aI_ok (mk7 rm), some_bind, vr_h3 R0, w0n hn, iI_le]
          rw [if_pos (by omega)]
          rfl
      simp only [e8, e9, some_bind]
      exact ⟨_, rfl, rfl⟩
    · simp only [if_pos c1, if_neg c2]
      exact ⟨_, rfl, rfl⟩
  · simp only [if_neg c1]
    exact ⟨_, rfl, rfl⟩
end O1
