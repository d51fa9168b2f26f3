/-! keep, back -/
section IM2
variable {E : Ev} {B C : Bk} {n : Nat}
theorem bsz_v {r : Nat} (h : r = 6 ∨ r = 7 ∨ r = 8 ∨ r = 10 ∨ r = 11 ∨ r = 12 ∨ r = 13) : bsz (mo + r) = 1 ∨ bsz (mo + r) = 15 ∨ bsz (mo + r) = 120 ∨ bsz (mo + r) = 24 ∨ bsz (mo + r) = 96 ∨ bsz (mo + r) = 240 := by
  rcases h with rfl | rfl | rfl | rfl | rfl | rfl | rfl <;> decide
theorem QI_no (I : IM B) {f g : Hp → Option (Int32 × Hp)} {v : Int32} (hf : f (St E B) = some (v, St E B)) (hg : g (St E B) = some (v, St E (wI B mo 0 0))) : QI E B n f g := by
  have hmo : mo = 58 := rfl
  refine ⟨v, B, wI B mo 0 0, hf, hg, ⟨fun d j _ q => ?_, fun _ _ _ => rfl, rfl, fun _ _ _ _ _ _ _ => rfl, fun _ _ _ => rfl⟩, fun k hk => ?_, fun k hk h => Or.inl ⟨h, by rw [wI_1, if_neg (by omega)], fun _ _ _ => rfl⟩⟩
  · rw [wI_1, if_neg (fun w => by have := q w.1; unfold msv at this; omega)]
  · obtain ⟨i1, i2, i3⟩ := I k hk
    refine ⟨i1, i2, fun h => ?_⟩
    obtain ⟨a, b, c⟩ := i3 h
    exact vcp (B := B) (fun j _ => by rw [wI_1, if_neg (by omega)]) (fun _ _ _ _ _ _ => rfl) (fun _ _ _ _ _ => rfl) a b c
theorem o_keep {k : Int} (R : RV E B n) (hn : 20 ≤ n) (hn2 : n ≤ 26) (K : IK E B) (I : IM B) (hk : i32 k) : QI E B n (fX8_keep (E.1 + co) (iI k)) (fX9_keep (E.1 + mo) (iI k)) := by
  have hmo : mo = 58 := rfl
  have hco : co = 0 := rfl
  have R1 := R
  obtain ⟨⟨rc, rn, rk, rm⟩, rw1, rv, rb⟩ := R
  obtain ⟨k1, k2⟩ := hk
  by_cases c : 0 ≤ k ∧ k ≤ 2
  · obtain ⟨t, rfl⟩ : ∃ t : Nat, k = t := ⟨k.toNat, by omega⟩
    obtain ⟨vk, vr⟩ := K.2.2 t (by omega)
    have nm : (32 + 6 * t) + 6 ≤ n ∨ n + 6 ≤ 32 + 6 * t := by omega
    have r1 : ∀ d z, (wA (cyV B (32 + 6 * t) n) (co + 18) t 1).2.2.2.1 d z = if d = co + 18 ∧ z = (t : Int) then 1 else if 32 + 6 * t < d ∧ d ≤ 32 + 6 * t + 5 ∧ 0 ≤ z ∧ z < vLen (d - (32 + 6 * t)) then B.2.2.2.1 (n + (d - (32 + 6 * t))) z else B.2.2.2.1 d z := fun d z => by rw [wA_4, cyV_4 nm]
    have r2 : ∀ d z, (wA (cvM (wI (wA (cyV B (32 + 6 * t) n) (co + 18) t 1) mo 0 0) 0 (1 + (t : Int))) (mo + 14) t 1).2.2.2.1 d z = if d = mo + 14 ∧ z = (t : Int) then 1 else if bsz d * (1 + (t : Int)) ≤ z ∧ z < bsz d * (1 + (t : Int)) + bsz d then (wA (cyV B (32 + 6 * t) n) (co + 18) t 1).2.2.2.1 d (bsz d * 0 + (z - bsz d * (1 + (t : Int)))) else (wA (cyV B (32 + 6 * t) n) (co + 18) t 1).2.2.2.1 d z := fun d z => by
      rw [wA_4, cvM_4, wI_2]
    have i2 : ∀ d j, (d = mo → j ≠ 0) → (wA (cvM (wI (wA (cyV B (32 + 6 * t) n) (co + 18) t 1) mo 0 0) 0 (1 + (t : Int))) (mo + 14) t 1).1 d j = if d = 32 + 6 * t ∧ j < 14 then B.1 n j else B.1 d j := fun d j q => by
      rw [wA_1, cvM_1, wI_1, if_neg (fun w => q w.1 w.2), wA_1, cyV_1]
    -- what lies outside the blocks
    have ro : ∀ d z, d ≠ mo + 14 → (bsz d = 0 ∨ z < bsz d * (1 + (t : Int)) ∨ bsz d * (1 + (t : Int)) + bsz d ≤ z) → (wA (cvM (wI (wA (cyV B (32 + 6 * t) n) (co + 18) t 1) mo 0 0) 0 (1 + (t : Int))) (mo + 14) t 1).2.2.2.1 d z = (wA (cyV B (32 + 6 * t) n) (co + 18) t 1).2.2.2.1 d z := fun d z q1 q2 => by
      rw [r2, if_neg (fun w => q1 w.1), if_neg]
      rcases q2 with q2 | q2 | q2
      · rw [q2]; omega
      · omega
      · omega
    refine ⟨iI 0, wA (cyV B (32 + 6 * t) n) (co + 18) t 1, wA (cvM (wI (wA (cyV B (32 + 6 * t) n) (co + 18) t 1) mo 0 0) 0 (1 + (t : Int))) (mo + 14) t 1, ?_, ?_, ⟨fun d j a b => ?_, fun d j _ => by rw [wA_2, cvM_2, wI_2, wA_2, cyV_2], by rw [wA_3, cvM_3, wI_2, wA_3, cyV_3], fun d z a b c1 c2 c3 => ?_, fun d z _ => by rw [wA_5, cvM_5, wI_2, wA_5, cyV_5]⟩, fun v hv => ?_, fun v hv hd => ?_⟩
    · have e4 : gR (St E B) (E.1 + co) 8 4 = some (E.1 + (co + 17)) := g8_4 rc
      have e5 : gR (St E (cyV B (32 + 6 * t) n)) (E.1 + co) 8 5 = some (E.1 + (co + 18)) := g8_5 rc
      have ar : aR (St E B) 24 (E.1 + (co + 17)) (iI t) = some (E.1 + (32 + 6 * t)) := aR_ok K.1 (by omega) c.1 (by omega) (by omega) (by rw [Int.toNat_natCast]; exact vr)
      have sz := sZ_ok (E := E) (B := cyV B (32 + 6 * t) n) (x := 1) K.2.1 c.1 (show (t : Int) < (3 : Nat) by omega) (by omega) (Or.inr rfl)
      simp (disch := omega) only [fX8_keep, c8 rc, some_bind, iI_0, iI_lt, e4, ar, g8_7 rc rn, s_copyFrom vk rk (show n ≠ 32 + 6 * t by omega), e5, sz]
      rw [if_neg (by omega), if_pos (by omega)]
    · have cv := m_copyValley (E := E) (B := wI (wA (cyV B (32 + 6 * t) n) (co + 18) t 1) mo 0 0) (a := 0) (b := 1 + (t : Int)) rm (by omega) (by omega) (by omega) (by omega) (by omega)
      have sz := sZ_ok (E := E) (B := cvM (wI (wA (cyV B (32 + 6 * t) n) (co + 18) t 1) mo 0 0) 0 (1 + (t : Int))) (x := 1) (mk14 rm) c.1 (show (t : Int) < (3 : Nat) by omega) (by omega) (Or.inr rfl)
      simp (disch := omega) only [fX9_keep, c9 rm.1, p9_0 rm.1, some_bind, jI_i, jI_0, jI_2, m_in, iI_0, ib, iI_add, cv, g9_25 rm.1, sz]
      rw [if_pos c]
    · rw [i2 d j (fun q => by have := b q; unfold msv at this; omega), if_neg (by omega)]
    · have q : bsz d = 0 ∨ z < bsz d * (1 + (t : Int)) ∨ bsz d * (1 + (t : Int)) + bsz d ≤ z := by
        rcases c3 with c3 | c3
        · exact Or.inl c3
        · by_cases q0 : bsz d = 0
          · exact Or.inl q0
          · refine Or.inr (Or.inl ?_)
            have : bsz d = 1 ∨ bsz d = 15 ∨ bsz d = 120 ∨ bsz d = 24 ∨ bsz d = 96 ∨ bsz d = 240 := by
              unfold bsz at q0 ⊢
              repeat' split
              all_goals first | omega | (exfalso; revert q0; simp [*])
            rcases this with h | h | h | h | h | h <;> (rw [h] at c3 ⊢; omega)
      rw [ro d z c2 q, r1, if_neg (fun w => c1 w.1), if_neg (by omega)]
    · obtain ⟨j1, j2, j3⟩ := I v hv
      have k18 : (wA (cvM (wI (wA (cyV B (32 + 6 * t) n) (co + 18) t 1) mo 0 0) 0 (1 + (t : Int))) (mo + 14) t 1).2.2.2.1 (co + 18) v = if (v : Int) = (t : Int) then 1 else B.2.2.2.1 (co + 18) v := by
        rw [ro _ _ (by omega) (Or.inl (bsz_0 (by omega))), r1]
        by_cases q : (v : Int) = (t : Int)
        · rw [if_pos ⟨rfl, q⟩, if_pos q]
        · rw [if_neg (fun w => q w.2), if_neg (by omega), if_neg q]
      have k14 : (wA (cvM (wI (wA (cyV B (32 + 6 * t) n) (co + 18) t 1) mo 0 0) 0 (1 + (t : Int))) (mo + 14) t 1).2.2.2.1 (mo + 14) v = if (v : Int) = (t : Int) then 1 else B.2.2.2.1 (mo + 14) v := by
        rw [r2]
        by_cases q : (v : Int) = (t : Int)
        · rw [if_pos ⟨rfl, q⟩, if_pos q]
        · rw [if_neg (fun w => q w.2), bsz_0 (by omega), if_neg (by omega), r1, if_neg (by omega), if_neg (by omega), if_neg q]
      rw [k18, k14]
      by_cases q : v = t
      · subst q
        rw [if_pos rfl, if_pos rfl]
        refine ⟨Or.inr rfl, rfl, fun _ => vcp (e := n) (q := 0) (fun j hj => by rw [i2 _ _ (by omega), if_pos ⟨rfl, hj⟩]) (fun i z a1 a2 a3 a4 => ?_) (fun r hr z z0 z1 => ?_) rw1 rv rb⟩
        · rw [ro _ _ (by omega) (Or.inl (bsz_0 (by omega))), r1, if_neg (by omega), if_pos ⟨by omega, by omega, a3, by rw [show 32 + 6 * v + i - (32 + 6 * v) = i by omega]; exact a4⟩, show 32 + 6 * v + i - (32 + 6 * v) = i by omega]
        · rw [r2, if_neg (by omega), if_pos (by constructor <;> omega), r1, if_neg (by omega), if_neg (by omega), show bsz (mo + r) * 0 + (bsz (mo + r) * (1 + (v : Int)) + z - bsz (mo + r) * (1 + (v : Int))) = bsz (mo + r) * 0 + z by omega]
      · rw [if_neg (by omega), if_neg (by omega)]
        refine ⟨j1, j2, fun h => ?_⟩
        obtain ⟨a, b, c'⟩ := j3 h
        refine vcp (fun j hj => by rw [i2 _ _ (by omega), if_neg (by omega)]) (fun i z a1 a2 a3 a4 => ?_) (fun r hr z z0 z1 => ?_) a b c'
        · rw [ro _ _ (by omega) (Or.inl (bsz_0 (by omega))), r1, if_neg (by omega), if_neg (by omega)]
        · rw [ro _ _ (by omega) (by
            rcases bsz_v hr with h | h | h | h | h | h <;> (rw [h] at z1 ⊢; omega)), r1, if_neg (by omega), if_neg (by omega)]
    · have v3 : vLen 3 = 15 := rfl
      by_cases q : v = t
      · subst q
        exact Or.inr ⟨by rw [i2 _ _ (by omega), if_pos ⟨rfl, by omega⟩], fun z z0 z1 => by rw [ro _ _ (by omega) (Or.inl (bsz_0 (by omega))), r1, if_neg (by omega), if_pos ⟨by omega, by omega, z0, by rw [show 32 + 6 * v + 3 - (32 + 6 * v) = 3 by omega]; omega⟩, show 32 + 6 * v + 3 - (32 + 6 * v) = 3 by omega]⟩
      · refine Or.inl ⟨?_, by rw [i2 _ _ (by omega), if_neg (by omega)], fun z z0 z1 => by rw [ro _ _ (by omega) (Or.inl (bsz_0 (by omega))), r1, if_neg (by omega), if_neg (by omega)]⟩
        rw [ro _ _ (by omega) (Or.inl (bsz_0 (by omega))), r1, if_neg (by omega), if_neg (by omega)] at hd
        exact hd
  · refine QI_no I (v := iI (-2)) ?_ ?_
    · simp (disch := omega) only [fX8_keep, fX8_keep_b9, c8 rc, some_bind, iI_0, iI_lt]
      by_cases q : k < 0
      · rw [if_pos q]
      · rw [if_neg q, if_neg (by omega)]
    · simp (disch := omega) only [fX9_keep, c9 rm.1, p9_0 rm.1, some_bind, jI_i, jI_0, jI_2, m_in, iI_0, ib]
      rw [if_neg c]
end IM2
