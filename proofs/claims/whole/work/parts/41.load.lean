/-! load -/
section LD
variable {E : Ev} {B : Bk} {n : Nat}
def loB (B : Bk) (n : Nat) (s k x : Int) : Bk := wI (wI (wA B (n + 2) (s * 6 + k) x) co 11 0) co 12 (B.1 co 12 + 1)
theorem o_load {s k x : Int} (R : RV E B n) (hn : 0 < n) (hn2 : n < 50) (hs : i32 s) (hk : i32 k) (hx : i32 x) : QC E B n (fX8_load (E.1 + co) (iI s) (iI k) (iI x)) (fX9_load (E.1 + mo) (iI s) (iI k) (iI x)) := by
  have hco : co = 0 := rfl
  have hmo : mo = 58 := rfl
  have hn8 : n < 58 := by omega
  have R1 := R
  have R0 := rv_0 R hn8
  obtain ⟨⟨rc, rn, rk, rm⟩, rw1, rv, rb⟩ := R
  have hvw := rw1
  obtain ⟨w0, w1, w2, w3, w4, w5, w6, w7, w8, -⟩ := hvw
  have hk' := hk
  obtain ⟨k1, k2⟩ := hk'
  have hx' := hx
  obtain ⟨x1, x2⟩ := hx'
  by_cases c : (0 ≤ s ∧ s < B.1 n 8) ∧ (3 ≤ k ∧ k ≤ 5) ∧ (0 ≤ x ∧ x ≤ 9)
  · obtain ⟨c1, c2, c3⟩ := c
    have en : ∀ j, (wI (loB B n s k x) mo 0 0).1 n j = B.1 n j := fun j => by
      unfold loB
      rw [wI_1, if_neg (by omega), wI_1, if_neg (by omega), wI_1, if_neg (by omega)]
      rfl
    have e7 : ∀ z, (wI (loB B n s k x) mo 0 0).2.2.2.1 (mo + 7) z = B.2.2.2.1 (mo + 7) z := fun z => by
      show (if mo + 7 = n + 2 ∧ z = s * 6 + k then x else B.2.2.2.1 (mo + 7) z) = _
      rw [if_neg (by omega)]
    have e6 : ∀ z, (wI (loB B n s k x) mo 0 0).2.2.2.1 (mo + 6) z = B.2.2.2.1 (mo + 6) z := fun z => by
      show (if mo + 6 = n + 2 ∧ z = s * 6 + k then x else B.2.2.2.1 (mo + 6) z) = _
      rw [if_neg (by omega)]
    have hmw : mWd (wI (loB B n s k x) mo 0 0) mo := by
      have := rv_mw R1
      unfold mWd at *
      simp only [e7, e6]
      exact this
    refine ⟨iI (B.2.2.2.1 (n + 2) (s * 6 + k)), loB B n s k x, wA (wI (loB B n s k x) mo 0 0) (mo + 10) (6 * s + k) x, ?_, ?_, Or.inr ⟨?_, ?_, ?_, Or.inl ⟨?_, Or.inl ⟨en 9, fun z _ _ => ?_⟩⟩⟩⟩
    · simp (disch := omega) only [fX8_load, c8 rc, g8_7 rc rn, iI_lt, s_hasShop hs rk rw1, s8_isStock hx, some_bind, iI_0, ib, g6_15 rk.1, s_shopFact rk c1.1 (show s < 4 by omega) (show 0 ≤ k by omega) (show k < 6 by omega), iI_mul, iI_add, sI_ok rk.2.2.1, s8_forgetAll rc]
      rw [if_pos c1, if_neg (by omega), if_neg (by omega), if_pos c3]
      rfl
    · have hv8 : (wI (loB B n s k x) mo 0 0).2.2.2.1 (mo + 10) (6 * s + k) = B.2.2.2.1 (n + 2) (s * 6 + k) := by
        show (if mo + 10 = n + 2 ∧ 6 * s + k = s * 6 + k then x else B.2.2.2.1 (mo + 10) (6 * s + k)) = _
        rw [if_neg (by omega), vr_s R1 c1.1 c1.2 (by omega) (by omega)]
      simp (disch := omega) only [fX9_load, c9 rm.1, p9_0 rm.1, m_isShop hs rm hmw, e7, vr_h7 R1, jI_i, jI_0, jI_3, jI_5, jI_9, m_in, some_bind, iI_0, ib, g9_21 rm.1, iI_mul, iI_add, aI_ok (mk10 rm), sI_ok (mk10 rm), hv8]
      rw [if_pos c1, if_pos c2, if_pos c3]
    · refine ⟨fun d j q1 q2 q3 => ?_, fun _ _ _ => rfl, rfl, fun d z q1 q2 q3 => ?_, fun _ _ _ => rfl⟩
      · show (wI (loB B n s k x) mo 0 0).1 d j = _
        unfold loB
        rw [wI_1, if_neg (fun p => by have := q3 p.1; unfold msv at this; omega), wI_1, if_neg (fun p => (q2 p.1).2 p.2), wI_1, if_neg (fun p => (q2 p.1).1 p.2)]
        rfl
      · show (if d = mo + 10 ∧ z = 6 * s + k then x else if d = n + 2 ∧ z = s * 6 + k then x else B.2.2.2.1 d z) = _
        rw [if_neg, if_neg (by omega)]
        rintro ⟨rfl, rfl⟩
        have : bsz (mo + 10) = 24 := rfl
        omega
    · have en' : ∀ j, (wA (wI (loB B n s k x) mo 0 0) (mo + 10) (6 * s + k) x).1 n j = B.1 n j := en
      have er : ∀ e z, e ≠ n + 2 → e ≠ mo + 10 → (wA (wI (loB B n s k x) mo 0 0) (mo + 10) (6 * s + k) x).2.2.2.1 e z = B.2.2.2.1 e z := fun e z q1 q2 => by
        show (if e = mo + 10 ∧ z = 6 * s + k then x else if e = n + 2 ∧ z = s * 6 + k then x else B.2.2.2.1 e z) = _
        rw [if_neg (fun p => q2 p.1), if_neg (fun p => q1 p.1)]
      have e1 : ∀ z, (wA (wI (loB B n s k x) mo 0 0) (mo + 10) (6 * s + k) x).2.2.2.1 (n + 2) z = if z = s * 6 + k then x else B.2.2.2.1 (n + 2) z := fun z => by
        show (if n + 2 = mo + 10 ∧ z = 6 * s + k then x else if n + 2 = n + 2 ∧ z = s * 6 + k then x else B.2.2.2.1 (n + 2) z) = _
        rw [if_neg (by omega)]
        by_cases q : z = s * 6 + k
        · rw [if_pos ⟨rfl, q⟩, if_pos q]
        · rw [if_neg (fun p => q p.2), if_neg q]
      have e8 : ∀ z, (wA (wI (loB B n s k x) mo 0 0) (mo + 10) (6 * s + k) x).2.2.2.1 (mo + 10) z = if z = 6 * s + k then x else B.2.2.2.1 (mo + 10) z := fun z => by
        show (if mo + 10 = mo + 10 ∧ z = 6 * s + k then x else if mo + 10 = n + 2 ∧ z = s * 6 + k then x else B.2.2.2.1 (mo + 10) z) = _
        by_cases q : z = 6 * s + k
        · rw [if_pos ⟨rfl, q⟩, if_pos q]
        · rw [if_neg (fun p => q p.2), if_neg q, if_neg (by omega)]
      have hr2 : (wA (wI (loB B n s k x) mo 0 0) (mo + 10) (6 * s + k) x).2.2.1 = B.2.2.1 := rfl
      generalize wA (wI (loB B n s k x) mo 0 0) (mo + 10) (6 * s + k) x = B2 at en' er e1 e8 hr2 ⊢
      refine rv_ws R1 hr2 en' (by omega) (fun e z q1 q2 q3 q4 => er e z q2 q4) (fun l' h' a1 a2 a3 a4 => ?_) (fun s' k' a1 a2 a3 a4 => ?_) (fun s' a1 a2 => ?_)
      · rw [er _ _ (by omega) (by omega), er _ _ (by omega) (by omega), show 120 * 0 + (24 * l' + h') = 24 * l' + h' by omega]
        exact ⟨vr_w R1 a1 a2 a3 a4, rb.2.2.2.1 l' h' a1 a2 a3 a4⟩
      · have v := vr_s R1 a1 a2 a3 a4
        rw [e8, e1, show 24 * 0 + (6 * s' + k') = 6 * s' + k' by omega]
        by_cases q : 6 * s' + k' = 6 * s + k
        · rw [if_pos q, if_pos (by omega)]
        · rw [if_neg q, if_neg (by omega)]
          exact v
      · have b := rb.2.2.2.2.1 s' a1 a2
        have f : ∀ j : Int, 0 ≤ j → j ≤ 5 → B2.2.2.2.1 (n + 2) (s' * 6 + j) = B.2.2.2.1 (n + 2) (s' * 6 + j) ∨ (3 ≤ j ∧ 0 ≤ B2.2.2.2.1 (n + 2) (s' * 6 + j) ∧ B2.2.2.2.1 (n + 2) (s' * 6 + j) ≤ 9) := fun j j1 j2 => by
          rw [e1]
          by_cases q : s' * 6 + j = s * 6 + k
          · rw [if_pos q]
            exact Or.inr ⟨by omega, c3.1, c3.2⟩
          · rw [if_neg q]
            exact Or.inl rfl
        have f0 := f 0 (by omega) (by omega)
        have f1 := f 1 (by omega) (by omega)
        have f2 := f 2 (by omega) (by omega)
        have f3 := f 3 (by omega) (by omega)
        have f4 := f 4 (by omega) (by omega)
        have f5 := f 5 (by omega) (by omega)
        omega
    · show (wI (loB B n s k x) mo 0 0).1 co 11 = 0
      unfold loB
      rw [wI_1, if_neg (by omega), wI_1, if_neg (by omega), wI_1, if_pos ⟨rfl, rfl⟩]
    · show (wI (loB B n s k x) mo 0 0).1 co 12 = _
      unfold loB
      rw [wI_1, if_neg (by omega), wI_1, if_pos ⟨rfl, rfl⟩]
    · show (if n + 3 = mo + 10 ∧ z = 6 * s + k then x else if n + 3 = n + 2 ∧ z = s * 6 + k then x else B.2.2.2.1 (n + 3) z) = _
      rw [if_neg (by omega), if_neg (by omega)]
  · refine ⟨iI (-2), B, wI B mo 0 0, ?_, ?_, Or.inl (sc_I (by unfold msv; omega))⟩
    · simp (disch := omega) only [fX8_load, fX8_load_b28, c8 rc, g8_7 rc rn, iI_lt, s_hasShop hs rk rw1, s8_isStock hx, some_bind, iI_0, ib]
      by_cases q1 : 0 ≤ s ∧ s < B.1 n 8
      · rw [if_pos q1]
        by_cases q2 : k < 3
        · rw [if_pos q2]
        · rw [if_neg q2]
          by_cases q3 : 5 < k
          · rw [if_pos q3]
          · rw [if_neg q3, if_neg (fun q4 => c ⟨q1, ⟨by omega, by omega⟩, q4⟩)]
      · rw [if_neg q1]
    · simp (disch := omega) only [fX9_load, fX9_load_b39, c9 rm.1, p9_0 rm.1, m_isShop hs rm (rv_mw R0), wI_2, vr_h7 R1, jI_i, jI_0, jI_3, jI_5, jI_9, m_in, some_bind, iI_0, ib]
      by_cases q1 : 0 ≤ s ∧ s < B.1 n 8
      · rw [if_pos q1]
        by_cases q2 : 3 ≤ k ∧ k ≤ 5
        · rw [if_pos q2, if_neg (fun q4 => c ⟨q1, q2, q4⟩)]
        · rw [if_neg q2]
      · rw [if_neg q1]
end LD
