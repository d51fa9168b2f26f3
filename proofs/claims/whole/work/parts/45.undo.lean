/-! undo -/
section UN
variable {E : Ev} {B : Bk} {n : Nat}
def unB (B : Bk) (n : Nat) (p v : Int) : Bk := wA (wI (wI B co 11 0) n 13 (B.1 n 13 - 1)) (n + 4) p v
def unM (C : Bk) (i p v : Int) : Bk := wA (wA (wI C mo 0 0) (mo + 7) 14 (i - 1)) (mo + 12) p v
theorem o_undo (R : RV E B n) (hn : 0 < n) (hn2 : n < 50) : QC E B n (fX8_undo (E.1 + co)) (fX9_undo (E.1 + mo)) := by
  have hco : co = 0 := rfl
  have hmo : mo = 58 := rfl
  have hn8 : n < 58 := by omega
  have R1 := R
  have R0 := rv_0 R hn8
  obtain ⟨⟨rc, rn, rk, rm⟩, rw1, rv, rb⟩ := R
  have hvw := rw1
  obtain ⟨w0, w1, w2, w3, w4', w5, w6, w7, w8, -⟩ := hvw
  have h13 := rb.1
  by_cases c : 0 < B.1 n 0
  · by_cases c4 : 0 < B.1 n 13
    · have cb := rb.2.2.2.2.2.2.2.1 (B.1 n 13 - 1) (by omega) (by omega)
      have v0 := vr_c R1 (s := B.1 n 13 - 1) (k := 0) (by omega) (by omega) (by omega) (by omega)
      have v1 := vr_c R1 (s := B.1 n 13 - 1) (k := 1) (by omega) (by omega) (by omega) (by omega)
      have v3 := vr_c R1 (s := B.1 n 13 - 1) (k := 3) (by omega) (by omega) (by omega) (by omega)
      have e13 : (wI B co 11 0).1 n 13 = B.1 n 13 := by rw [wI_1, if_neg (by omega)]
      have htb := s_takeBack (B := wI B co 11 0) rk (by rw [e13]; exact c4) (by rw [e13]; exact h13.2) (by rw [e13]; exact cb.1.1) (by rw [e13]; exact (show B.2.2.2.1 (n + 5) ((B.1 n 13 - 1) * 4 + 0) < 4 by omega)) (by rw [e13]; exact cb.2.1.1) (by rw [e13]; exact (show B.2.2.2.1 (n + 5) ((B.1 n 13 - 1) * 4 + 1) < 24 by omega))
      have etk : tkV (wI B co 11 0) n = unB B n (B.2.2.2.1 (n + 5) ((B.1 n 13 - 1) * 4 + 0) * 24 + B.2.2.2.1 (n + 5) ((B.1 n 13 - 1) * 4 + 1)) (B.2.2.2.1 (n + 5) ((B.1 n 13 - 1) * 4 + 3)) := by
        unfold tkV unB
        rw [e13]
        rfl
      rw [etk] at htb
      have cb0 := cb.1
      have cb1 := cb.2.1
      have cb3 := cb.2.2.2
      rw [Int.add_zero] at v0
      generalize hS : B.2.2.2.1 (n + 5) ((B.1 n 13 - 1) * 4 + 0) = S at *
      generalize hH : B.2.2.2.1 (n + 5) ((B.1 n 13 - 1) * 4 + 1) = H at *
      generalize hA : B.2.2.2.1 (n + 5) ((B.1 n 13 - 1) * 4 + 3) = A at *
      have rn' : ∀ p v, (unB B n p v).2.2.1 co 7 = some n := fun p v => rn
      have rn2 : (wI B co 11 0).2.2.1 co 7 = some n := rn
      have u13 : ∀ p v, (unB B n p v).1 n 13 = B.1 n 13 - 1 := fun p v => by
        show (wI (wI B co 11 0) n 13 (B.1 n 13 - 1)).1 n 13 = _
        rw [wI_1, if_pos ⟨rfl, rfl⟩]
      have rowC : ∀ k z, k ≠ n + 4 → (unB B n (S * 24 + H) A).2.2.2.1 k z = B.2.2.2.1 k z := fun k z q1 => by
        unfold unB
        rw [wA_o q1]
        rfl
      have hw1 : mWd (wI (unB B n (S * 24 + H) A) mo 0 0) mo := by
        have := rv_mw R1
        unfold mWd at *
        simp only [wI_2, rowC (mo + 6) _ (by omega), rowC (mo + 7) _ (by omega)]
        exact this
      refine ⟨iI (B.1 n 13 - 1), unB B n (S * 24 + H) A, unM (unB B n (S * 24 + H) A) (B.1 n 13) (24 * S + H) A, ?_, ?_, Or.inr ?_⟩
      · simp (disch := omega) only [fX8_undo, c8 rc, g8_7 rc rn, s_stands rk rw1, some_bind, iI_0, ib, g6_13 rk.1, iI_lt]
        rw [if_pos c, if_pos c4, p8_11 rc (Or.inl rfl)]
        simp only [some_bind, g8_7 rc rn2, htb, g8_7 rc (rn' _ _), g6_13 rk.1, u13]
      · simp only [fX9_undo, c9 rm.1, p9_0 rm.1, m_isValley rm hw1, some_bind, iI_0, ib]
        rw [if_pos (show 0 < (wI (unB B n (S * 24 + H) A) mo 0 0).2.2.2.1 (mo + 6) 0 by rw [wI_2, rowC _ _ (by omega), vr_l R1]; exact c)]
        simp (disch := omega) only [some_bind, wI_2, rowC, g9_17 rm.1, aI_ok (mk7 rm), vr_h14 R1, iI_eq, sI_ok (mk7 rm), iI_sub, wA_s, wA_o, lt_, g9_23 rm.1, g9_24 rm.1, iI_mul, iI_add, aI_ok (mk13 rm), v0, v1, v3, sI_ok (mk12 rm)]
        rw [if_neg (by omega)]
        rfl
      · have fi : ∀ d j, d ≠ mo → (unM (unB B n (S * 24 + H) A) (B.1 n 13) (24 * S + H) A).1 d j = if d = n ∧ j = 13 then B.1 n 13 - 1 else if d = co ∧ j = 11 then 0 else B.1 d j := fun d j q => by
          show (if d = mo ∧ j = 0 then 0 else if d = n ∧ j = 13 then B.1 n 13 - 1 else if d = co ∧ j = 11 then 0 else B.1 d j) = _
          rw [if_neg (fun p => q p.1)]
        have fm : ∀ j, msv j → (unM (unB B n (S * 24 + H) A) (B.1 n 13) (24 * S + H) A).1 mo j = B.1 mo j := fun j q => by
          show (if mo = mo ∧ j = 0 then 0 else if mo = n ∧ j = 13 then B.1 n 13 - 1 else if mo = co ∧ j = 11 then 0 else B.1 mo j) = _
          unfold msv at q
          rw [if_neg (by omega), if_neg (by omega), if_neg (by omega)]
        have fr0 : ∀ k z, k ≠ n + 4 → k ≠ mo + 7 → k ≠ mo + 12 → (unM (unB B n (S * 24 + H) A) (B.1 n 13) (24 * S + H) A).2.2.2.1 k z = B.2.2.2.1 k z := fun k z q1 q3 q4 => by
          unfold unM
          rw [wA_o q4, wA_o q3, wI_2, rowC k z q1]
        have f4 : ∀ z, (unM (unB B n (S * 24 + H) A) (B.1 n 13) (24 * S + H) A).2.2.2.1 (n + 4) z = if z = S * 24 + H then A else B.2.2.2.1 (n + 4) z := fun z => by
          unfold unM
          rw [wA_o (by omega), wA_o (by omega), wI_2]
          unfold unB
          by_cases q : z = S * 24 + H
          · rw [q, wA_s, if_pos rfl]
          · rw [wA_z q, if_neg q]
            rfl
        have f7 : ∀ z, (unM (unB B n (S * 24 + H) A) (B.1 n 13) (24 * S + H) A).2.2.2.1 (mo + 7) z = if z = 14 then B.1 n 13 - 1 else B.2.2.2.1 (mo + 7) z := fun z => by
          unfold unM
          rw [wA_o (by omega)]
          by_cases q : z = 14
          · rw [q, wA_s, if_pos rfl]
          · rw [wA_z q, if_neg q, wI_2, rowC _ _ (by omega)]
        have f12 : ∀ z, (unM (unB B n (S * 24 + H) A) (B.1 n 13) (24 * S + H) A).2.2.2.1 (mo + 12) z = if z = 24 * S + H then A else B.2.2.2.1 (mo + 12) z := fun z => by
          unfold unM
          by_cases q : z = 24 * S + H
          · rw [q, wA_s, if_pos rfl]
          · rw [wA_z q, if_neg q, wA_o (by omega), wI_2, rowC _ _ (by omega)]
        have hr2 : (unM (unB B n (S * 24 + H) A) (B.1 n 13) (24 * S + H) A).2.2.1 = B.2.2.1 := rfl
        have hl2 : (unM (unB B n (S * 24 + H) A) (B.1 n 13) (24 * S + H) A).2.1 = B.2.1 := rfl
        have hj2 : (unM (unB B n (S * 24 + H) A) (B.1 n 13) (24 * S + H) A).2.2.2.2 = B.2.2.2.2 := rfl
        generalize unM (unB B n (S * 24 + H) A) (B.1 n 13) (24 * S + H) A = B2 at fi fm fr0 f4 f7 f12 hr2 hl2 hj2 ⊢
        have en : ∀ j, j ≠ 13 → B2.1 n j = B.1 n j := fun j q => by rw [fi _ _ (by omega), if_neg (fun p => q p.2), if_neg (by omega)]
        have en13 : B2.1 n 13 = B.1 n 13 - 1 := by rw [fi _ _ (by omega), if_pos ⟨rfl, rfl⟩]
        refine ⟨⟨fun d j q1 q2 q3 => ?_, fun d j _ => by rw [hl2], hr2, fun d z q1 q2 q3 => ?_, fun d z _ => by rw [hj2]⟩, ?_, ?_, Or.inr ⟨?_, en, fun k z k1 k2 => ?_⟩⟩
        · by_cases q : d = mo
          · rw [q]
            exact fm j (q3 q)
          · rw [fi d j q, if_neg (fun p => q1 p.1), if_neg (fun p => (q2 p.1).1 p.2)]
        · by_cases p7 : d = mo + 7
          · have : bsz d = 15 := by rw [p7]; rfl
            rw [p7, f7, if_neg (by omega)]
          · by_cases p12 : d = mo + 12
            · have : bsz d = 96 := by rw [p12]; rfl
              rw [p12, f12, if_neg (by omega)]
            · exact fr0 d z (by omega) p7 p12
        · refine rv_pc R1 c hr2 en (by omega) (by omega) (fun k z q1 q2 q3 q4 q5 => fr0 k z q1 q3 q4) (fun z q => by rw [f7, if_neg q]) (by rw [f7, if_pos rfl, en13]) (fun s' h' a1 a2 a3 a4 => ?_) (fun i k a1 a2 a3 a4 => ?_) (fun i a1 a2 => ?_)
          · have v := vr_a R1 a1 a2 a3 a4
            have b := rb.2.2.2.2.2.2.1 s' h' a1 a2 a3 a4
            rw [f12, f4, show 96 * 0 + (24 * s' + h') = 24 * s' + h' by omega]
            by_cases q : 24 * s' + h' = 24 * S + H
            · rw [if_pos q, if_pos (by omega)]
              exact ⟨rfl, cb3⟩
            · rw [if_neg q, if_neg (by omega)]
              exact ⟨v, b⟩
          · rw [en13] at a2
            rw [fr0 _ _ (by omega) (by omega) (by omega), fr0 _ _ (by omega) (by omega) (by omega), show 240 * 0 + (4 * i + k) = 4 * i + k by omega]
            exact vr_c R1 a1 (by omega) a3 a4
          · rw [en13] at a2
            simp only [fr0 (n + 5) _ (by omega) (by omega) (by omega)]
            exact rb.2.2.2.2.2.2.2.1 i a1 (by omega)
        · rw [fi _ _ (by omega), if_neg (by omega), if_pos ⟨rfl, rfl⟩]
        · rw [fi _ _ (by omega), if_neg (by omega), if_neg (by omega)]
        · exact fr0 _ _ (by omega) (by omega) (by omega)
    · refine ⟨iI (-5), B, wI B mo 0 0, ?_, ?_, Or.inl (sc_I (by unfold msv; omega))⟩
      · simp (disch := omega) only [fX8_undo, c8 rc, g8_7 rc rn, s_stands rk rw1, some_bind, iI_0, ib, g6_13 rk.1, iI_lt]
        rw [if_pos c, if_neg c4]
      · simp only [fX9_undo, c9 rm.1, p9_0 rm.1, m_isValley rm (rv_mw R0), some_bind, iI_0, ib, vr_l R0, w0n hn8]
        rw [if_pos c]
        simp (disch := omega) only [some_bind, wI_2, g9_17 rm.1, aI_ok (mk7 rm), vr_h14 R1, iI_eq]
        rw [if_pos (by omega)]
  · refine ⟨iI (-2), B, wI B mo 0 0, ?_, ?_, Or.inl (sc_I (by unfold msv; omega))⟩
    · simp only [fX8_undo, c8 rc, g8_7 rc rn, s_stands rk rw1, some_bind, iI_0, ib]
      rw [if_neg c]
    · simp only [fX9_undo, c9 rm.1, p9_0 rm.1, m_isValley rm (rv_mw R0), some_bind, iI_0, ib, vr_l R0, w0n hn8]
      rw [if_neg c]
end UN
