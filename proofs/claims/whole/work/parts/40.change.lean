/-! calls that change the valley: what stays as it is; turn, load -/
/-- the length of a block in the reference's rows of valleys -/
def bsz (d : Nat) : Int := if d = mo + 6 then 1 else if d = mo + 7 then 15 else if d = mo + 8 then 120 else if d = mo + 10 then 24 else if d = mo + 11 then 15 else if d = mo + 12 then 96 else if d = mo + 13 then 240 else 0
/-- all stays but the valley at n, the reference's block 0 and scratch, and what the class knows of old answers -/
def fr (n : Nat) (B B' : Bk) : Prop :=
  (∀ d j, d ≠ n → (d = co → j ≠ 11 ∧ j ≠ 12) → (d = mo → msv j) → B'.1 d j = B.1 d j) ∧ (∀ d j, d ≠ mo → B'.2.1 d j = B.2.1 d j) ∧ B'.2.2.1 = B.2.2.1 ∧ (∀ d z, ¬ mscr d → ¬ (n < d ∧ d ≤ n + 5) → (bsz d = 0 ∨ bsz d ≤ z) → B'.2.2.2.1 d z = B.2.2.2.1 d z) ∧ (∀ d z, ¬ mscr d → B'.2.2.2.2 d z = B.2.2.2.2 d z)
/-- the doors stay, or are an image's -/
def DQ (B B2 : Bk) (n : Nat) : Prop := (B2.1 n 9 = B.1 n 9 ∧ ∀ z : Int, 0 ≤ z → z < 15 → B2.2.2.2.1 (n + 3) z = B.2.2.2.1 (n + 3) z) ∨ ∃ k : Nat, k < 3 ∧ B.2.2.2.1 (co + 18) k = 1 ∧ B2.1 n 9 = B.1 (32 + 6 * k) 9 ∧ ∀ z : Int, 0 ≤ z → z < 15 → B2.2.2.2.1 (n + 3) z = B.2.2.2.1 (32 + 6 * k + 3) z
/-- a call that may change the valley: refused; or old answers are laid aside; or the plan alone has changed -/
def QC (E : Ev) (B : Bk) (n : Nat) (f g : Hp → Option (Int32 × Hp)) : Prop := ∃ v B1 B2, f (St E B) = some (v, St E B1) ∧ g (St E B1) = some (v, St E B2) ∧ (sc B B2 ∨ (fr n B B2 ∧ RV E B2 n ∧ B2.1 co 11 = 0 ∧ ((B2.1 co 12 = B.1 co 12 + 1 ∧ DQ B B2 n) ∨ (B2.1 co 12 = B.1 co 12 ∧ (∀ j, j ≠ 13 → B2.1 n j = B.1 n j) ∧ (∀ k z, 1 ≤ k → k ≤ 3 → B2.2.2.2.1 (n + k) z = B.2.2.2.1 (n + k) z)))))
section CH
variable {E : Ev} {B : Bk} {n : Nat}
theorem s8_forgetAll (rc : KD E co 8 13) : fX8_forgetAll (E.1 + co) (St E B) = some (St E (wI (wI B co 11 0) co 12 (B.1 co 12 + 1))) := by
  have e : (wI B co 11 0).1 co 12 = B.1 co 12 := by rw [wI_1, if_neg (by omega)]
  simp only [fX8_forgetAll, c8 rc, p8_11 rc (Or.inl rfl), g8_12 rc, p8_12 rc, some_bind, iI_add, e]
/-- winds and shops have changed, nothing else of the valley -/
theorem rv_ws {B2 : Bk} (R : RV E B n) (hr : B2.2.2.1 = B.2.2.1) (en : ∀ j, B2.1 n j = B.1 n j) (hn : n + 5 < mo) (er : ∀ k z, k ≠ n + 1 → k ≠ n + 2 → k ≠ mo + 8 → k ≠ mo + 10 → B2.2.2.2.1 k z = B.2.2.2.1 k z)
    (hw : ∀ l h : Int, 0 ≤ l → l < B.1 n 3 → 0 ≤ h → h < B.1 n 4 → B2.2.2.2.1 (mo + 8) (120 * 0 + (24 * l + h)) = B2.2.2.2.1 (n + 1) (l * 24 + h) ∧ 0 ≤ B2.2.2.2.1 (n + 1) (l * 24 + h) ∧ B2.2.2.2.1 (n + 1) (l * 24 + h) < 5)
    (hs : ∀ s k : Int, 0 ≤ s → s < B.1 n 8 → 0 ≤ k → k < 6 → B2.2.2.2.1 (mo + 10) (24 * 0 + (6 * s + k)) = B2.2.2.2.1 (n + 2) (s * 6 + k))
    (hb : ∀ s : Int, 0 ≤ s → s < B.1 n 8 → (0 ≤ B2.2.2.2.1 (n + 2) (s * 6 + 0) ∧ B2.2.2.2.1 (n + 2) (s * 6 + 0) < B.1 n 1) ∧ (0 ≤ B2.2.2.2.1 (n + 2) (s * 6 + 1) ∧ B2.2.2.2.1 (n + 2) (s * 6 + 1) < B.1 n 2) ∧ (0 ≤ B2.2.2.2.1 (n + 2) (s * 6 + 2) ∧ B2.2.2.2.1 (n + 2) (s * 6 + 2) < B.1 n 3) ∧ (0 ≤ B2.2.2.2.1 (n + 2) (s * 6 + 3) ∧ B2.2.2.2.1 (n + 2) (s * 6 + 3) ≤ 9) ∧ (0 ≤ B2.2.2.2.1 (n + 2) (s * 6 + 4) ∧ B2.2.2.2.1 (n + 2) (s * 6 + 4) ≤ 9) ∧ (0 ≤ B2.2.2.2.1 (n + 2) (s * 6 + 5) ∧ B2.2.2.2.1 (n + 2) (s * 6 + 5) ≤ 9)) : RV E B2 n := by
  have r3 : ∀ z, B2.2.2.2.1 (n + 3) z = B.2.2.2.1 (n + 3) z := fun z => er _ z (by omega) (by omega) (by omega) (by omega)
  have r4 : ∀ z, B2.2.2.2.1 (n + 4) z = B.2.2.2.1 (n + 4) z := fun z => er _ z (by omega) (by omega) (by omega) (by omega)
  have r5 : ∀ z, B2.2.2.2.1 (n + 5) z = B.2.2.2.1 (n + 5) z := fun z => er _ z (by omega) (by omega) (by omega) (by omega)
  have m6 : ∀ z, B2.2.2.2.1 (mo + 6) z = B.2.2.2.1 (mo + 6) z := fun z => er _ z (by omega) (by omega) (by omega) (by omega)
  have m7 : ∀ z, B2.2.2.2.1 (mo + 7) z = B.2.2.2.1 (mo + 7) z := fun z => er _ z (by omega) (by omega) (by omega) (by omega)
  have m11 : ∀ z, B2.2.2.2.1 (mo + 11) z = B.2.2.2.1 (mo + 11) z := fun z => er _ z (by omega) (by omega) (by omega) (by omega)
  have m12 : ∀ z, B2.2.2.2.1 (mo + 12) z = B.2.2.2.1 (mo + 12) z := fun z => er _ z (by omega) (by omega) (by omega) (by omega)
  have m13 : ∀ z, B2.2.2.2.1 (mo + 13) z = B.2.2.2.1 (mo + 13) z := fun z => er _ z (by omega) (by omega) (by omega) (by omega)
  obtain ⟨R1, R2, ⟨v1, v2, v3, v4, v5, v6, v7, v8, v9⟩, ⟨b1, b2, b3, b4, b5, b6, b7, b8, b9⟩⟩ := R
  unfold RV VW VR VB at *
  simp only [en, r3, r4, r5, m6, m7, m11, m12, m13, hr]
  exact ⟨R1, R2, ⟨v1, v2, v3, fun l h a1 a2 a3 a4 => (hw l h a1 a2 a3 a4).1, hs, v6, v7, v8, v9⟩, ⟨b1, b2, b3, fun l h a1 a2 a3 a4 => (hw l h a1 a2 a3 a4).2, hb, b6, b7, b8, b9⟩⟩
def tuB (B : Bk) (n : Nat) (l h w : Int) : Bk := wI (wI (wA B (n + 1) (l * 24 + h) w) co 11 0) co 12 (B.1 co 12 + 1)
theorem o_turn {l h w : Int} (R : RV E B n) (hn : 0 < n) (hn2 : n < 50) (hl : i32 l) (hh : i32 h) (hw : i32 w) : QC E B n (fX8_turn (E.1 + co) (iI l) (iI h) (iI w)) (fX9_turn (E.1 + mo) (iI l) (iI h) (iI w)) := by
  have hco : co = 0 := rfl
  have hmo : mo = 58 := rfl
  have hn8 : n < 58 := by omega
  have R1 := R
  have R0 := rv_0 R hn8
  obtain ⟨⟨rc, rn, rk, rm⟩, rw1, rv, rb⟩ := R
  have hvw := rw1
  obtain ⟨w0, w1, w2, w3, w4, -⟩ := hvw
  have hl' := hl
  obtain ⟨l1, l2⟩ := hl'
  by_cases c : (1 ≤ l ∧ l < B.1 n 3) ∧ (0 ≤ h ∧ h < B.1 n 4) ∧ (0 ≤ w ∧ w ≤ 4)
  · obtain ⟨c1, c2, c3⟩ := c
    have en : ∀ j, (wI (tuB B n l h w) mo 0 0).1 n j = B.1 n j := fun j => by
      unfold tuB
      rw [wI_1, if_neg (by omega), wI_1, if_neg (by omega), wI_1, if_neg (by omega)]
      rfl
    have e7 : ∀ z, (wI (tuB B n l h w) mo 0 0).2.2.2.1 (mo + 7) z = B.2.2.2.1 (mo + 7) z := fun z => by
      show (if mo + 7 = n + 1 ∧ z = l * 24 + h then w else B.2.2.2.1 (mo + 7) z) = _
      rw [if_neg (by omega)]
    have e6 : ∀ z, (wI (tuB B n l h w) mo 0 0).2.2.2.1 (mo + 6) z = B.2.2.2.1 (mo + 6) z := fun z => by
      show (if mo + 6 = n + 1 ∧ z = l * 24 + h then w else B.2.2.2.1 (mo + 6) z) = _
      rw [if_neg (by omega)]
    have hmw : mWd (wI (tuB B n l h w) mo 0 0) mo := by
      have := rv_mw R1
      unfold mWd at *
      simp only [e7, e6]
      exact this
    refine ⟨iI (B.2.2.2.1 (n + 1) (l * 24 + h)), tuB B n l h w, wA (wI (tuB B n l h w) mo 0 0) (mo + 8) (24 * l + h) w, ?_, ?_, Or.inr ⟨?_, ?_, ?_, Or.inl ⟨?_, Or.inl ⟨en 9, fun z _ _ => ?_⟩⟩⟩⟩
    · simp (disch := omega) only [fX8_turn, c8 rc, g8_7 rc rn, iI_lt, s_hasLayer hl rk rw1, s_hasHour hh rk rw1, s8_isWind hw, some_bind, iI_0, ib, g6_14 rk.1, s_windAt rk (show 0 ≤ l by omega) (show l < 5 by omega) c2.1 (show h < 24 by omega), iI_mul, iI_add, sI_ok rk.2.1, s8_forgetAll rc]
      rw [if_neg (by omega), if_pos (by omega), if_pos c2, if_pos c3]
      rfl
    · have hv8 : (wI (tuB B n l h w) mo 0 0).2.2.2.1 (mo + 8) (24 * l + h) = B.2.2.2.1 (n + 1) (l * 24 + h) := by
        show (if mo + 8 = n + 1 ∧ 24 * l + h = l * 24 + h then w else B.2.2.2.1 (mo + 8) (24 * l + h)) = _
        rw [if_neg (by omega), vr_w R1 (by omega) c1.2 c2.1 c2.2]
      simp (disch := omega) only [fX9_turn, c9 rm.1, p9_0 rm.1, m_isLayer hl rm hmw, e7, vr_h2 R1, jI_i hh.1 hh.2, m_isHour (i3264 hh) rm hmw, vr_h3 R1, jI_i hw.1 hw.2, m_isWind (i3264 hw), some_bind, iI_0, ib, iI_eq, m_windOf rm (show 0 ≤ l by omega) (show l < 5 by omega) c2.1 (show h < 24 by omega), g9_18 rm.1, iI_mul, iI_add, sI_ok (mk8 rm), hv8]
      rw [if_pos (by omega), if_neg (by omega), if_pos c2, if_pos c3]
    · refine ⟨fun d j q1 q2 q3 => ?_, fun _ _ _ => rfl, rfl, fun d z q1 q2 q3 => ?_, fun _ _ _ => rfl⟩
      · show (wI (tuB B n l h w) mo 0 0).1 d j = _
        unfold tuB
        rw [wI_1, if_neg (fun p => by have := q3 p.1; unfold msv at this; omega), wI_1, if_neg (fun p => (q2 p.1).2 p.2), wI_1, if_neg (fun p => (q2 p.1).1 p.2)]
        rfl
      · show (if d = mo + 8 ∧ z = 24 * l + h then w else if d = n + 1 ∧ z = l * 24 + h then w else B.2.2.2.1 d z) = _
        rw [if_neg, if_neg (by omega)]
        rintro ⟨rfl, rfl⟩
        have : bsz (mo + 8) = 120 := rfl
        omega
    · have en' : ∀ j, (wA (wI (tuB B n l h w) mo 0 0) (mo + 8) (24 * l + h) w).1 n j = B.1 n j := en
      have er : ∀ k z, k ≠ n + 1 → k ≠ mo + 8 → (wA (wI (tuB B n l h w) mo 0 0) (mo + 8) (24 * l + h) w).2.2.2.1 k z = B.2.2.2.1 k z := fun k z q1 q2 => by
        show (if k = mo + 8 ∧ z = 24 * l + h then w else if k = n + 1 ∧ z = l * 24 + h then w else B.2.2.2.1 k z) = _
        rw [if_neg (fun p => q2 p.1), if_neg (fun p => q1 p.1)]
      have e1 : ∀ z, (wA (wI (tuB B n l h w) mo 0 0) (mo + 8) (24 * l + h) w).2.2.2.1 (n + 1) z = if z = l * 24 + h then w else B.2.2.2.1 (n + 1) z := fun z => by
        show (if n + 1 = mo + 8 ∧ z = 24 * l + h then w else if n + 1 = n + 1 ∧ z = l * 24 + h then w else B.2.2.2.1 (n + 1) z) = _
        rw [if_neg (by omega)]
        by_cases q : z = l * 24 + h
        · rw [if_pos ⟨rfl, q⟩, if_pos q]
        · rw [if_neg (fun p => q p.2), if_neg q]
      have e8 : ∀ z, (wA (wI (tuB B n l h w) mo 0 0) (mo + 8) (24 * l + h) w).2.2.2.1 (mo + 8) z = if z = 24 * l + h then w else B.2.2.2.1 (mo + 8) z := fun z => by
        show (if mo + 8 = mo + 8 ∧ z = 24 * l + h then w else if mo + 8 = n + 1 ∧ z = l * 24 + h then w else B.2.2.2.1 (mo + 8) z) = _
        by_cases q : z = 24 * l + h
        · rw [if_pos ⟨rfl, q⟩, if_pos q]
        · rw [if_neg (fun p => q p.2), if_neg q, if_neg (by omega)]
      have hr2 : (wA (wI (tuB B n l h w) mo 0 0) (mo + 8) (24 * l + h) w).2.2.1 = B.2.2.1 := rfl
      generalize wA (wI (tuB B n l h w) mo 0 0) (mo + 8) (24 * l + h) w = B2 at en' er e1 e8 hr2 ⊢
      refine rv_ws R1 hr2 en' (by omega) (fun k z q1 q2 q3 q4 => er k z q1 q3) (fun l' h' a1 a2 a3 a4 => ?_) (fun s k a1 a2 a3 a4 => ?_) (fun s a1 a2 => ?_)
      · have v := vr_w R1 a1 a2 a3 a4
        have b := rb.2.2.2.1 l' h' a1 a2 a3 a4
        rw [e8, e1, show 120 * 0 + (24 * l' + h') = 24 * l' + h' by omega]
        by_cases q : 24 * l' + h' = 24 * l + h
        · rw [if_pos q, if_pos (by omega)]
          exact ⟨rfl, by omega, by omega⟩
        · rw [if_neg q, if_neg (by omega)]
          exact ⟨v, b⟩
      · rw [er _ _ (by omega) (by omega), er _ _ (by omega) (by omega), show 24 * 0 + (6 * s + k) = 6 * s + k by omega]
        exact vr_s R1 a1 a2 a3 a4
      · have b := rb.2.2.2.2.1 s a1 a2
        simp only [er _ _ (show n + 2 ≠ n + 1 by omega) (show n + 2 ≠ mo + 8 by omega)]
        exact b
    · show (wI (tuB B n l h w) mo 0 0).1 co 11 = 0
      unfold tuB
      rw [wI_1, if_neg (by omega), wI_1, if_neg (by omega), wI_1, if_pos ⟨rfl, rfl⟩]
    · show (wI (tuB B n l h w) mo 0 0).1 co 12 = _
      unfold tuB
      rw [wI_1, if_neg (by omega), wI_1, if_pos ⟨rfl, rfl⟩]
    · show (if n + 3 = mo + 8 ∧ z = 24 * l + h then w else if n + 3 = n + 1 ∧ z = l * 24 + h then w else B.2.2.2.1 (n + 3) z) = _
      rw [if_neg (by omega), if_neg (by omega)]
  · refine ⟨iI (-2), B, wI B mo 0 0, ?_, ?_, Or.inl (sc_I (by unfold msv; omega))⟩
    · simp (disch := omega) only [fX8_turn, fX8_turn_b34, c8 rc, g8_7 rc rn, iI_lt, s_hasLayer hl rk rw1, s_hasHour hh rk rw1, s8_isWind hw, some_bind, iI_0, ib]
      by_cases q1 : l < 1
      · rw [if_pos q1]
      · rw [if_neg q1]
        by_cases q2 : 0 ≤ l ∧ l < B.1 n 3
        · rw [if_pos q2]
          by_cases q3 : 0 ≤ h ∧ h < B.1 n 4
          · rw [if_pos q3, if_neg (fun q4 => c ⟨⟨by omega, q2.2⟩, q3, q4⟩)]
          · rw [if_neg q3]
        · rw [if_neg q2]
    · simp (disch := omega) only [fX9_turn, fX9_turn_b34, c9 rm.1, p9_0 rm.1, m_isLayer hl rm (rv_mw R0), wI_2, vr_h2 R1, jI_i hh.1 hh.2, m_isHour (i3264 hh) rm (rv_mw R0), vr_h3 R1, jI_i hw.1 hw.2, m_isWind (i3264 hw), some_bind, iI_0, ib, iI_eq]
      by_cases q2 : 0 ≤ l ∧ l < B.1 n 3
      · rw [if_pos q2]
        by_cases q1 : l = 0
        · rw [if_pos q1]
        · rw [if_neg q1]
          by_cases q3 : 0 ≤ h ∧ h < B.1 n 4
          · rw [if_pos q3, if_neg (fun q4 => c ⟨⟨by omega, q2.2⟩, q3, q4⟩)]
          · rw [if_neg q3]
      · rw [if_neg q2]
end CH
