/-! known: the answers -/
section K2
variable {E : Ev} {B : Bk} {n : Nat}
/-- some other layer is alike in all hours -/
abbrev knP (B : Bk) (n : Nat) (l o : Int) : Prop := ¬ o = l ∧ ¬ fuL B n l o < B.1 n 4
def knA (B : Bk) (n : Nat) (l : Int) : Int := if lf (knP B n l) (B.1 n 3 - 0).toNat 0 < B.1 n 3 then -1 else knT B n l (B.1 n 3).toNat
theorem s8_known {l : Int} (R : RV E B n) (h1 : 0 ≤ l) (h2 : l < B.1 n 3) : fX8_known (E.1 + co) (iI l) (St E B) = some (iI (knA B n l), St E B) := by
  have R1 := R
  obtain ⟨⟨rc, rn, rk, rm⟩, rw1, -, rb⟩ := R
  have hw := rw1
  obtain ⟨w0, w1, w2, w3, w4, -⟩ := hw
  have lp : ∃ r, iter (fX8_known_l18 (E.1 + co) (iI l)) FU (iI 0, iI 0, St E B) = some r ∧ (lf (knP B n l) (B.1 n 3 - 0).toNat 0 < B.1 n 3 → r = .inr (St E B)) ∧ (¬ lf (knP B n l) (B.1 n 3 - 0).toNat 0 < B.1 n 3 → r = .inl (iI (knT B n l (B.1 n 3).toNat), St E B)) := by
    refine iter_lf (fun j a => a = (iI (knT B n l j.toNat), iI j, St E B)) (knP B n l) (fun j r => r = Sum.inr (St E B)) (fun r => r = Sum.inl (iI (knT B n l (B.1 n 3).toNat), St E B)) 0 (B.1 n 3) ?_ ?_ ?_ (by omega) (N := FU) (by have := FU_big (n := B.1 n 3) (by omega); omega) rfl
    · intro j a j1 j2 ha hp
      subst ha
      have ej : (j.toNat : Int) = j := by omega
      have en : (j + 1).toNat = j.toNat + 1 := by omega
      have eT : knT B n l (j + 1).toNat = if j = l then knT B n l j.toNat else max (knT B n l j.toNat) (fuL B n l j + 1) := by
        rw [en]
        show (if (j.toNat : Int) = l then _ else max _ (fuL B n l (j.toNat : Int) + 1)) = _
        rw [ej]
        rfl
      have hb := knT_b (l := l) w4.1 j.toNat
      have hf := fuL_b (l := l) (o := j) w4.1
      simp (disch := omega) only [fX8_known_l18, fX8_known_b59, g8_7 rc rn, g6_3 rk.1, some_bind, iI_le, iI_eq, s8_firstUnlike R1 h1 h2 j1 j2, lt_]
      rw [if_neg (by omega)]
      by_cases q : j = l
      · rw [if_pos q, iI_add, eT, if_pos q]
        exact ⟨_, rfl, rfl⟩
      · have q2 : fuL B n l j < B.1 n 4 := Classical.not_not.mp (fun w => hp ⟨q, w⟩)
        rw [if_neg q, if_pos q2, if_neg (by omega), iI_add, iI_add, imax_ok (by omega) (by omega) (by omega) (by omega), eT, if_neg q]
        exact ⟨_, rfl, rfl⟩
    · intro j a j1 j2 ha hp
      subst ha
      simp (disch := omega) only [fX8_known_l18, fX8_known_b59, g8_7 rc rn, g6_3 rk.1, some_bind, iI_le, iI_eq, s8_firstUnlike R1 h1 h2 j1 j2, lt_]
      rw [if_neg (by omega), if_neg hp.1, if_neg hp.2, if_pos rfl]
      exact ⟨_, rfl, rfl⟩
    · intro a ha
      subst ha
      simp (disch := omega) only [fX8_known_l18, g8_7 rc rn, g6_3 rk.1, some_bind, iI_le]
      rw [if_pos (by omega)]
      exact ⟨_, rfl, rfl⟩
  obtain ⟨r, g1, g2, g3⟩ := lp
  have hl : i32 l := ⟨by omega, by omega⟩
  simp only [fX8_known, c8 rc, g8_7 rc rn, s_hasLayer hl rk rw1, some_bind, iI_0, ib, if_pos (show 0 ≤ l ∧ l < B.1 n 3 from ⟨h1, h2⟩), g1]
  unfold knA
  by_cases c : lf (knP B n l) (B.1 n 3 - 0).toNat 0 < B.1 n 3
  · rw [g2 c, if_pos c]
    rfl
  · rw [g3 c, if_neg c]
    rfl
theorem knA_eq {l : Int} (hw : VW B n) (h1 : 0 ≤ l) (h2 : l < B.1 n 3) : knA B n l = if lf (fun k => knC B n l k (B.1 n 3).toNat = 1) (B.1 n 4 + 1 - 0).toNat 0 < B.1 n 4 + 1 then lf (fun k => knC B n l k (B.1 n 3).toNat = 1) (B.1 n 4 + 1 - 0).toNat 0 else -1 := by
  obtain ⟨w0, w1, w2, w3, w4, -⟩ := hw
  have e3 : ((B.1 n 3).toNat : Int) = B.1 n 3 := by omega
  have key : ∀ k, k ≤ B.1 n 4 → (knC B n l k (B.1 n 3).toNat = 1 ↔ ∀ o : Int, 0 ≤ o → o < B.1 n 3 → o ≠ l → ¬ k ≤ fuL B n l o) := by
    intro k hk
    obtain ⟨c, c1, c2, c3⟩ := knC_1 (l := l) w4.1 hk (B.1 n 3).toNat
    rw [e3] at c2 c3
    rw [c2, bI_t ⟨h1, h2⟩, ← c3]
    omega
  unfold knA
  by_cases c : lf (knP B n l) (B.1 n 3 - 0).toNat 0 < B.1 n 3
  · rw [if_pos c]
    obtain ⟨g1, g2, g3, g4⟩ := lf_spec (knP B n l) (B.1 n 3 - 0).toNat 0
    have hp := g4 (by omega)
    rw [lf_no (p := fun k => knC B n l k (B.1 n 3).toNat = 1) (by omega) (fun k k1 k2 q => ((key k (by omega)).mp q _ g1 c hp.1) (by have := hp.2; omega)), if_neg (by omega)]
  · rw [if_neg c]
    obtain ⟨g1, g2, g3, g4⟩ := lf_spec (knP B n l) (B.1 n 3 - 0).toNat 0
    have al : ∀ o : Int, 0 ≤ o → o < B.1 n 3 → o ≠ l → fuL B n l o < B.1 n 4 := fun o o1 o2 o3 => Classical.not_not.mp (fun w => g3 o o1 (by omega) ⟨o3, w⟩)
    have t0 := (knT_b (l := l) w4.1 (B.1 n 3).toNat).1
    have t1 : knT B n l (B.1 n 3).toNat ≤ B.1 n 4 := (knT_le _ _).mpr ⟨w4.1, fun o o1 o2 o3 => by have := al o o1 (by omega) o3; omega⟩
    have kk : ∀ k, 0 ≤ k → k ≤ B.1 n 4 → (knC B n l k (B.1 n 3).toNat = 1 ↔ knT B n l (B.1 n 3).toNat ≤ k) := by
      intro k k1 k2
      rw [key k k2, knT_le, e3]
      exact ⟨fun w => ⟨k1, fun o o1 o2 o3 => by have := w o o1 o2 o3; omega⟩, fun w o o1 o2 o3 q => by have := w.2 o o1 o2 o3; omega⟩
    rw [lf_at (p := fun k => knC B n l k (B.1 n 3).toNat = 1) t0 (show knT B n l (B.1 n 3).toNat < B.1 n 4 + 1 by omega) ((kk _ t0 t1).mpr (Int.le_refl _)) (fun k k1 k2 q => by have := (kk k k1 (by omega)).mp q; omega), if_pos (by omega)]
theorem m_known {l : Int} (R : RV E B n) (hn : n < 58) (h1 : 0 ≤ l) (h2 : l < B.1 n 3) : fX9_known (E.1 + mo) (iI l) (St E B) = some (iI (knA B n l), St E (wI B mo 0 0)) := by
  have R0 := rv_0 R hn
  have R1 := R
  rw [knA_eq R.2.1 h1 h2]
  obtain ⟨⟨rc, rn, rk, rm⟩, rw1, -, rb⟩ := R
  have hw := rw1
  obtain ⟨w0, w1, w2, w3, w4, -⟩ := hw
  have e3 : ((B.1 n 3).toNat : Int) = B.1 n 3 := by omega
  have l50 : ∀ k o x : Int, 0 ≤ k → k ≤ B.1 n 4 → 0 ≤ o → o < B.1 n 3 → iter (fX9_known_l50 (E.1 + mo) (iI l) (iI k) (iI x) (iI o)) FU (iI 1, iI 0, St E (wI B mo 0 0)) = some (iI (bI (k ≤ fuL B n l o)), St E (wI B mo 0 0)) := by
    intro k o x k1 k2 o1 o2
    have hf := fuL_b (l := l) (o := o) w4.1
    obtain ⟨r, g1, g2⟩ := iter_seek (F := fX9_known_l50 (E.1 + mo) (iI l) (iI k) (iI x) (iI o)) (fun j a => a = (iI (bI (j ≤ fuL B n l o)), iI j, St E (wI B mo 0 0))) (fun j => fuL B n l o < j) (fun j r => r = (iI 0, St E (wI B mo 0 0))) (fun r => r = (iI (bI (k ≤ fuL B n l o)), St E (wI B mo 0 0))) 0 k
      (by
        intro j a j1 j2 ha hp
        subst ha
        have b1 := rb.2.2.2.1 l j h1 h2 j1 (by omega)
        have b2 := rb.2.2.2.1 o j o1 o2 j1 (by omega)
        have fe := fuL_e (l := l) (o := o) w4.1 j1 (show j < B.1 n 4 by omega) (by omega)
        simp (disch := omega) only [fX9_known_l50, fX9_known_b84, iI_le, iI_0, ib, m_windOf rm h1 (show l < 5 by omega) j1 (show j < 24 by omega), m_windOf rm o1 (show o < 5 by omega) j1 (show j < 24 by omega), some_bind, wI_2, vr_w R1 h1 h2 j1 (show j < B.1 n 4 by omega), vr_w R1 o1 o2 j1 (show j < B.1 n 4 by omega), iI_eq, iI_add]
        rw [if_neg (by omega), if_pos (by omega)]
        by_cases q : j + 1 ≤ fuL B n l o
        · rw [if_pos ((fe.mpr q).symm), bI_t q]
          exact ⟨_, rfl, rfl⟩
        · rw [if_neg (fun w => q (fe.mp w.symm)), bI_f q]
          exact ⟨_, rfl, rfl⟩)
      (by
        intro j a j1 j2 ha hp
        subst ha
        simp (disch := omega) only [fX9_known_l50, iI_le, iI_0, ib]
        rw [if_neg (by omega), if_neg (by omega), bI_f (by omega)]
        exact ⟨_, rfl, rfl⟩)
      (by
        intro a ha
        subst ha
        simp (disch := omega) only [fX9_known_l50, iI_le]
        rw [if_pos (by omega)]
        exact ⟨_, rfl, rfl⟩) k1 (N := FU) (by have := FU_big (n := k) (by omega); omega) (a := (iI 1, iI 0, St E (wI B mo 0 0))) (by rw [bI_t hf.1])
    rw [g1]
    rcases g2 with ⟨j, j1, j2, j3, -, j5⟩ | ⟨-, j5⟩
    · rw [j5, bI_f (by omega)]
    · rw [j5]
  have l33 : ∀ k : Int, 0 ≤ k → k ≤ B.1 n 4 → iter (fX9_known_l33 (E.1 + mo) (iI l) (iI k)) FU (iI 0, iI 0, St E (wI B mo 0 0)) = some (iI (knC B n l k (B.1 n 3).toNat), St E (wI B mo 0 0)) := by
    intro k k1 k2
    refine iter_fo (fun j x => (iI x, iI j, St E (wI B mo 0 0))) (fun o x => x + bI (k ≤ fuL B n l o)) 0 (B.1 n 3).toNat _ (fun j x => 0 ≤ x ∧ x ≤ j) ⟨Int.le_refl 0, Int.le_refl 0⟩ (fun j x hj hx => ?_) (fun j x hj hx => ?_) ?_ (N := FU) (by have := FU_big (n := B.1 n 3) (by omega); omega)
    · have := bI_le (p := k ≤ fuL B n l j)
      constructor <;> omega
    · simp (disch := omega) only [fX9_known_l33, fX9_known_b92, fX9_known_b103, g9_17 rm.1, aI_ok (mk7 rm), some_bind, wI_2, vr_h2 R1, iI_le, l50 k j x k1 k2 (show 0 ≤ (j : Int) by omega) (show (j : Int) < B.1 n 3 by omega), iI_0, ib, lt_, iI_add]
      rw [if_neg (by omega)]
      by_cases q : k ≤ fuL B n l j
      · rw [if_pos q, bI_t q]
      · rw [if_neg q, bI_f q]
    · simp (disch := omega) only [fX9_known_l33, g9_17 rm.1, aI_ok (mk7 rm), some_bind, wI_2, vr_h2 R1, iI_le]
      rw [if_pos (by omega)]
      rfl
  have lp : ∃ r, iter (fX9_known_l18 (E.1 + mo) (iI l)) FU (iI 0, St E (wI B mo 0 0)) = some r ∧ (lf (fun k => knC B n l k (B.1 n 3).toNat = 1) (B.1 n 4 + 1 - 0).toNat 0 < B.1 n 4 + 1 → r = .inr (iI (lf (fun k => knC B n l k (B.1 n 3).toNat = 1) (B.1 n 4 + 1 - 0).toNat 0), St E (wI B mo 0 0))) ∧ (¬ lf (fun k => knC B n l k (B.1 n 3).toNat = 1) (B.1 n 4 + 1 - 0).toNat 0 < B.1 n 4 + 1 → r = .inl (St E (wI B mo 0 0))) := by
    refine iter_lf (fun j a => a = (iI j, St E (wI B mo 0 0))) (fun k => knC B n l k (B.1 n 3).toNat = 1) (fun j r => r = Sum.inr (iI j, St E (wI B mo 0 0))) (fun r => r = Sum.inl (St E (wI B mo 0 0))) 0 (B.1 n 4 + 1) ?_ ?_ ?_ (by omega) (N := FU) (by have := FU_big (n := B.1 n 4 + 1) (by omega); omega) rfl
    · intro j a j1 j2 ha hp
      subst ha
      have hb := knC_b (B := B) (n := n) (l := l) (k := j) (B.1 n 3).toNat
      simp (disch := omega) only [fX9_known_l18, g9_17 rm.1, aI_ok (mk7 rm), some_bind, wI_2, vr_h3 R1, iI_lt, l33 j j1 (show j ≤ B.1 n 4 by omega), iI_eq, iI_add]
      rw [if_neg (by omega), if_neg hp]
      exact ⟨_, rfl, rfl⟩
    · intro j a j1 j2 ha hp
      subst ha
      have hb := knC_b (B := B) (n := n) (l := l) (k := j) (B.1 n 3).toNat
      simp (disch := omega) only [fX9_known_l18, g9_17 rm.1, aI_ok (mk7 rm), some_bind, wI_2, vr_h3 R1, iI_lt, l33 j j1 (show j ≤ B.1 n 4 by omega), iI_eq, iI_add]
      rw [if_neg (by omega), if_pos hp]
      exact ⟨_, rfl, rfl⟩
    · intro a ha
      subst ha
      simp (disch := omega) only [fX9_known_l18, g9_17 rm.1, aI_ok (mk7 rm), some_bind, wI_2, vr_h3 R1, iI_lt]
      rw [if_pos (by omega)]
      exact ⟨_, rfl, rfl⟩
  obtain ⟨r, g1, g2, g3⟩ := lp
  have hl : i32 l := ⟨by omega, by omega⟩
  simp only [fX9_known, c9 rm.1, p9_0 rm.1, m_isLayer hl rm (rv_mw R0), wI_2, vr_h2 R1, some_bind, iI_0, ib, if_pos (show 0 ≤ l ∧ l < B.1 n 3 from ⟨h1, h2⟩), g1]
  by_cases c : lf (fun k => knC B n l k (B.1 n 3).toNat = 1) (B.1 n 4 + 1 - 0).toNat 0 < B.1 n 4 + 1
  · rw [g2 c, if_pos c]
    rfl
  · rw [g3 c, if_neg c]
    rfl
theorem o_known {l : Int} (R : RV E B n) (hn : n < 58) (hl : i32 l) : QQ E B (fX8_known (E.1 + co) (iI l)) (fX9_known (E.1 + mo) (iI l)) := by
  by_cases c : 0 ≤ l ∧ l < B.1 n 3
  · exact ⟨_, s8_known R c.1 c.2, m_known R hn c.1 c.2⟩
  · have R0 := rv_0 R hn
    have R1 := R
    obtain ⟨⟨rc, rn, rk, rm⟩, rw1, -⟩ := R
    unfold QQ
    simp only [fX8_known, c8 rc, g8_7 rc rn, s_hasLayer hl rk rw1, some_bind, iI_0, ib, fX9_known, c9 rm.1, p9_0 rm.1, m_isLayer hl rm (rv_mw R0), wI_2, vr_h2 R1, if_neg c]
    exact ⟨_, rfl, rfl⟩
end K2
