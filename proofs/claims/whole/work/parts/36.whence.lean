/-! whence -/
/-- the first y of a column in x X that drifts to c -/
def whY (B : Bk) (n : Nat) (l h k c X : Int) : Int := lf (fun Y => dr B n l (Y * 8 + X) h (drK B n h k) = c) (B.1 n 2 - 0).toNat 0
def whX (B : Bk) (n : Nat) (l h k c : Int) : Int := lf (fun X => whY B n l h k c X < B.1 n 2) (B.1 n 1 - 0).toNat 0
section WH
variable {E : Ev} {B : Bk} {n : Nat}
theorem whY_0 {l h k c X : Int} (R : RV E B n) : 0 ≤ whY B n l h k c X := (lf_spec _ _ _).1
theorem whX_0 {l h k c : Int} (R : RV E B n) : 0 ≤ whX B n l h k c := (lf_spec _ _ _).1
theorem s8_whence {x y l h k : Int} (R : RV E B n) (hx : i32 x) (hy : i32 y) (hl : i32 l) (hh : i32 h) (hk : i32 k) (hd : isDr B n x y l h k) : fX8_whence (E.1 + co) (iI x) (iI y) (iI l) (iI h) (iI k) (St E B) = some (iI (if whX B n l h k (y * 8 + x) < B.1 n 1 then 100 * whX B n l h k (y * 8 + x) + whY B n l h k (y * 8 + x) (whX B n l h k (y * 8 + x)) else -1), St E B) := by
  have R1 := R
  have hd8 := s8_hasDrift R hx hy hl hh hk
  obtain ⟨⟨rc, rn, rk, rm⟩, rw1, -⟩ := R
  have hw := rw1
  obtain ⟨w0, w1, w2, w3, w4, -⟩ := hw
  obtain ⟨⟨x1, y1⟩, l1, h1, k1⟩ := hd
  have inner : ∀ X : Int, 0 ≤ X → X < B.1 n 1 → ∃ r, iter (fX8_whence_l35 (E.1 + co) (iI x) (iI y) (iI l) (iI h) (iI k) (iI X)) FU (iI 0, St E B) = some r ∧ (whY B n l h k (y * 8 + x) X < B.1 n 2 → r = .inr (iI (whY B n l h k (y * 8 + x) X * 8 + X), St E B)) ∧ (¬ whY B n l h k (y * 8 + x) X < B.1 n 2 → r = .inl (St E B)) := by
    intro X X1 X2
    refine iter_lf (fun j a => a = (iI j, St E B)) (fun Y => dr B n l (Y * 8 + X) h (drK B n h k) = y * 8 + x) (fun j r => r = Sum.inr (iI (j * 8 + X), St E B)) (fun r => r = Sum.inl (St E B)) 0 (B.1 n 2) ?_ ?_ ?_ (by omega) (N := FU) (by have := FU_big (n := B.1 n 2) (by omega); omega) rfl
    · intro j a j1 j2 ha hp
      subst ha
      have hok : cOK (B.1 n 1) (B.1 n 2) (j * 8 + X) := cOK_xy X1 X2 j1 j2 w1.2
      have h64 := cOK_64 (dr_in (l := l) (hr := h) w1.2 hok (drK B n h k)) w1.2 w2.2
      simp (disch := omega) only [fX8_whence_l35, g8_7 rc rn, g6_2 rk.1, some_bind, iI_le, s_columnOf, s8_drifted R1 hok l1.1 l1.2 h1.1 h1.2 k1.1 k1.2, iI_eq, iI_add]
      rw [if_neg (by omega), if_neg hp]
      exact ⟨_, rfl, rfl⟩
    · intro j a j1 j2 ha hp
      subst ha
      have hok : cOK (B.1 n 1) (B.1 n 2) (j * 8 + X) := cOK_xy X1 X2 j1 j2 w1.2
      have h64 := cOK_64 (dr_in (l := l) (hr := h) w1.2 hok (drK B n h k)) w1.2 w2.2
      simp (disch := omega) only [fX8_whence_l35, g8_7 rc rn, g6_2 rk.1, some_bind, iI_le, s_columnOf, s8_drifted R1 hok l1.1 l1.2 h1.1 h1.2 k1.1 k1.2, iI_eq, iI_add]
      rw [if_neg (by omega), if_pos hp]
      exact ⟨_, rfl, rfl⟩
    · intro a ha
      subst ha
      simp (disch := omega) only [fX8_whence_l35, g8_7 rc rn, g6_2 rk.1, some_bind, iI_le]
      rw [if_pos (by omega)]
      exact ⟨_, rfl, rfl⟩
  have outer : ∃ r, iter (fX8_whence_l20 (E.1 + co) (iI x) (iI y) (iI l) (iI h) (iI k)) FU (iI 0, St E B) = some r ∧ (whX B n l h k (y * 8 + x) < B.1 n 1 → r = .inr (iI (whY B n l h k (y * 8 + x) (whX B n l h k (y * 8 + x)) * 8 + whX B n l h k (y * 8 + x)), St E B)) ∧ (¬ whX B n l h k (y * 8 + x) < B.1 n 1 → r = .inl (St E B)) := by
    refine iter_lf (fun j a => a = (iI j, St E B)) (fun X => whY B n l h k (y * 8 + x) X < B.1 n 2) (fun j r => r = Sum.inr (iI (whY B n l h k (y * 8 + x) j * 8 + j), St E B)) (fun r => r = Sum.inl (St E B)) 0 (B.1 n 1) ?_ ?_ ?_ (by omega) (N := FU) (by have := FU_big (n := B.1 n 1) (by omega); omega) rfl
    · intro j a j1 j2 ha hp
      subst ha
      obtain ⟨r, g1, g2, g3⟩ := inner j j1 j2
      rw [g3 hp] at g1
      simp (disch := omega) only [fX8_whence_l20, g8_7 rc rn, g6_1 rk.1, some_bind, iI_le, g1, iI_add]
      rw [if_neg (by omega)]
      exact ⟨_, rfl, rfl⟩
    · intro j a j1 j2 ha hp
      subst ha
      obtain ⟨r, g1, g2, g3⟩ := inner j j1 j2
      rw [g2 hp] at g1
      simp (disch := omega) only [fX8_whence_l20, g8_7 rc rn, g6_1 rk.1, some_bind, iI_le, g1, iI_add]
      rw [if_neg (by omega)]
      exact ⟨_, rfl, rfl⟩
    · intro a ha
      subst ha
      simp (disch := omega) only [fX8_whence_l20, g8_7 rc rn, g6_1 rk.1, some_bind, iI_le]
      rw [if_pos (by omega)]
      exact ⟨_, rfl, rfl⟩
  obtain ⟨r, g1, g2, g3⟩ := outer
  simp only [fX8_whence, c8 rc, hd8, some_bind, iI_0, ib, if_pos (show isDr B n x y l h k from ⟨⟨x1, y1⟩, l1, h1, k1⟩), g1]
  by_cases c : whX B n l h k (y * 8 + x) < B.1 n 1
  · have a0 := whX_0 (l := l) (h := h) (k := k) (c := y * 8 + x) R1
    have a1 := whY_0 (l := l) (h := h) (k := k) (c := y * 8 + x) (X := whX B n l h k (y * 8 + x)) R1
    have a2 : whY B n l h k (y * 8 + x) (whX B n l h k (y * 8 + x)) < B.1 n 2 := (lf_spec (fun X => whY B n l h k (y * 8 + x) X < B.1 n 2) (B.1 n 1 - 0).toNat 0).2.2.2 (by unfold whX at c; omega)
    rw [g2 c, if_pos c]
    show (fX8_hundredfold _ _).bind _ = _
    rw [s8_hundredfold (by omega) (by omega), some_bind, show (whY B n l h k (y * 8 + x) (whX B n l h k (y * 8 + x)) * 8 + whX B n l h k (y * 8 + x)) % 8 = whX B n l h k (y * 8 + x) by omega, show (whY B n l h k (y * 8 + x) (whX B n l h k (y * 8 + x)) * 8 + whX B n l h k (y * 8 + x)) / 8 = whY B n l h k (y * 8 + x) (whX B n l h k (y * 8 + x)) by omega]
  · rw [g3 c, if_neg c]
    rfl
theorem m_whence {x y l h k : Int} (R : RV E B n) (hn : n < 50) (hx : i32 x) (hy : i32 y) (hl : i32 l) (hh : i32 h) (hk : i32 k) (hd : isDr B n x y l h k) : ∃ u v, fX9_whence (E.1 + mo) (iI x) (iI y) (iI l) (iI h) (iI k) (St E B) = some (iI (if whX B n l h k (y * 8 + x) < B.1 n 1 then 100 * whX B n l h k (y * 8 + x) + whY B n l h k (y * 8 + x) (whX B n l h k (y * 8 + x)) else -1), St E (tB (wI B mo 0 0) u v)) := by
  have hn8 : n < 58 := by omega
  have R0 := rv_0 R hn8
  have R1 := R
  have hm := m_isDrift R0 hx hy hl hh hk
  simp only [isDr_0 hn8] at hm
  obtain ⟨⟨rc, rn, rk, rm⟩, rw1, -⟩ := R
  have hw := rw1
  obtain ⟨w0, w1, w2, w3, w4, -⟩ := hw
  obtain ⟨⟨x1, y1⟩, l1, h1, k1⟩ := hd
  have e0 : ∀ (u v : Int), (tB (wI B mo 0 0) u v).2 = B.2 := fun _ _ => rfl
  have drf : ∀ (X Y u v : Int), 0 ≤ X → X < B.1 n 1 → 0 ≤ Y → Y < B.1 n 2 → fX9_driftOf (E.1 + mo) (iI X) (iI Y) (iI l) (iI h) (iI k) (St E (tB (wI B mo 0 0) u v)) = some (iI (100 * (dr B n l (Y * 8 + X) h (drK B n h k) % 8) + dr B n l (Y * 8 + X) h (drK B n h k) / 8), St E (tC (wI B mo 0 0) (dr B n l (Y * 8 + X) h (drK B n h k)))) := by
    intro X Y u v X1 X2 Y1 Y2
    have := m_driftOf (x := X) (y := Y) (l := l) (hr := h) (nn := k) (a := u) (b := v) R0 hn X1 (by rw [w0n hn8]; exact X2) Y1 (by rw [w0n hn8]; exact Y2) l1.1 (by rw [w0n hn8]; exact l1.2) h1.1 (by rw [w0n hn8]; exact h1.2) k1.1 k1.2
    rw [dr_0 hn8] at this
    exact this
  have eq : ∀ c, 0 ≤ c → c < 64 → ((100 * (c % 8) + c / 8 = 100 * x + y) ↔ c = y * 8 + x) := fun c c1 c2 => by omega
  have inner : ∀ X : Int, 0 ≤ X → X < B.1 n 1 → ∀ u v, ∃ r, iter (fX9_whence_l39 (E.1 + mo) (iI x) (iI y) (iI l) (iI h) (iI k) (iI X)) FU (iI 0, St E (tB (wI B mo 0 0) u v)) = some r ∧ (whY B n l h k (y * 8 + x) X < B.1 n 2 → ∃ u v, r = .inr (iI (whY B n l h k (y * 8 + x) X), St E (tB (wI B mo 0 0) u v))) ∧ (¬ whY B n l h k (y * 8 + x) X < B.1 n 2 → ∃ u v, r = .inl (St E (tB (wI B mo 0 0) u v))) := by
    intro X X1 X2 u v
    refine iter_lf (fun j a => ∃ u v, a = (iI j, St E (tB (wI B mo 0 0) u v))) (fun Y => dr B n l (Y * 8 + X) h (drK B n h k) = y * 8 + x) (fun j r => ∃ u v, r = Sum.inr (iI j, St E (tB (wI B mo 0 0) u v))) (fun r => ∃ u v, r = Sum.inl (St E (tB (wI B mo 0 0) u v))) 0 (B.1 n 2) ?_ ?_ ?_ (by omega) (N := FU) (by have := FU_big (n := B.1 n 2) (by omega); omega) ⟨u, v, rfl⟩
    · rintro j a j1 j2 ⟨u, v, rfl⟩ hp
      have hok : cOK (B.1 n 1) (B.1 n 2) (j * 8 + X) := cOK_xy X1 X2 j1 j2 w1.2
      have h64 := cOK_64 (dr_in (l := l) (hr := h) w1.2 hok (drK B n h k)) w1.2 w2.2
      simp (disch := omega) only [fX9_whence_l39, g9_17 rm.1, aI_ok (mk7 rm), e0, vr_h1 R1, some_bind, iI_le, drf X j u v X1 X2 j1 j2, iI_mul, iI_add, iI_eq]
      rw [if_neg (by omega), if_neg (by rw [eq _ h64.1 h64.2]; exact hp)]
      exact ⟨_, rfl, _, _, rfl⟩
    · rintro j a j1 j2 ⟨u, v, rfl⟩ hp
      have hok : cOK (B.1 n 1) (B.1 n 2) (j * 8 + X) := cOK_xy X1 X2 j1 j2 w1.2
      have h64 := cOK_64 (dr_in (l := l) (hr := h) w1.2 hok (drK B n h k)) w1.2 w2.2
      simp (disch := omega) only [fX9_whence_l39, g9_17 rm.1, aI_ok (mk7 rm), e0, vr_h1 R1, some_bind, iI_le, drf X j u v X1 X2 j1 j2, iI_mul, iI_add, iI_eq]
      rw [if_neg (by omega), if_pos (by rw [eq _ h64.1 h64.2]; exact hp)]
      exact ⟨_, rfl, _, _, rfl⟩
    · rintro a ⟨u, v, rfl⟩
      simp (disch := omega) only [fX9_whence_l39, g9_17 rm.1, aI_ok (mk7 rm), e0, vr_h1 R1, some_bind, iI_le]
      rw [if_pos (by omega)]
      exact ⟨_, rfl, _, _, rfl⟩
  have outer : ∃ r, iter (fX9_whence_l25 (E.1 + mo) (iI x) (iI y) (iI l) (iI h) (iI k)) FU (iI 0, St E (wI B mo 0 0)) = some r ∧ (whX B n l h k (y * 8 + x) < B.1 n 1 → ∃ u v, r = .inr (iI (whX B n l h k (y * 8 + x)), iI (whY B n l h k (y * 8 + x) (whX B n l h k (y * 8 + x))), St E (tB (wI B mo 0 0) u v))) ∧ (¬ whX B n l h k (y * 8 + x) < B.1 n 1 → ∃ u v, r = .inl (St E (tB (wI B mo 0 0) u v))) := by
    refine iter_lf (fun j a => ∃ u v, a = (iI j, St E (tB (wI B mo 0 0) u v))) (fun X => whY B n l h k (y * 8 + x) X < B.1 n 2) (fun j r => ∃ u v, r = Sum.inr (iI j, iI (whY B n l h k (y * 8 + x) j), St E (tB (wI B mo 0 0) u v))) (fun r => ∃ u v, r = Sum.inl (St E (tB (wI B mo 0 0) u v))) 0 (B.1 n 1) ?_ ?_ ?_ (by omega) (N := FU) (by have := FU_big (n := B.1 n 1) (by omega); omega) ⟨_, _, by rw [tB_self]⟩
    · rintro j a j1 j2 ⟨u, v, rfl⟩ hp
      obtain ⟨r, g1, g2, g3⟩ := inner j j1 j2 u v
      obtain ⟨u', v', hr⟩ := g3 hp
      rw [hr] at g1
      simp (disch := omega) only [fX9_whence_l25, g9_17 rm.1, aI_ok (mk7 rm), e0, vr_h0 R1, some_bind, iI_le, g1, iI_add]
      rw [if_neg (by omega)]
      exact ⟨_, rfl, _, _, rfl⟩
    · rintro j a j1 j2 ⟨u, v, rfl⟩ hp
      obtain ⟨r, g1, g2, g3⟩ := inner j j1 j2 u v
      obtain ⟨u', v', hr⟩ := g2 hp
      rw [hr] at g1
      simp (disch := omega) only [fX9_whence_l25, g9_17 rm.1, aI_ok (mk7 rm), e0, vr_h0 R1, some_bind, iI_le, g1, iI_add]
      rw [if_neg (by omega)]
      exact ⟨_, rfl, _, _, rfl⟩
    · rintro a ⟨u, v, rfl⟩
      simp (disch := omega) only [fX9_whence_l25, g9_17 rm.1, aI_ok (mk7 rm), e0, vr_h0 R1, some_bind, iI_le]
      rw [if_pos (by omega)]
      exact ⟨_, rfl, _, _, rfl⟩
  obtain ⟨r, g1, g2, g3⟩ := outer
  simp only [fX9_whence, c9 rm.1, p9_0 rm.1, hm, some_bind, iI_0, ib, if_pos (show isDr B n x y l h k from ⟨⟨x1, y1⟩, l1, h1, k1⟩), g1]
  by_cases c : whX B n l h k (y * 8 + x) < B.1 n 1
  · obtain ⟨u, v, hr⟩ := g2 c
    refine ⟨u, v, ?_⟩
    rw [hr, if_pos c]
    show some (iI 100 * iI _ + iI _, _) = _
    rw [iI_mul, iI_add]
  · obtain ⟨u, v, hr⟩ := g3 c
    refine ⟨u, v, ?_⟩
    rw [hr, if_neg c]
    rfl
theorem o_whence {x y l h k : Int} (R : RV E B n) (hn : n < 50) (hx : i32 x) (hy : i32 y) (hl : i32 l) (hh : i32 h) (hk : i32 k) : QS E B (fX8_whence (E.1 + co) (iI x) (iI y) (iI l) (iI h) (iI k)) (fX9_whence (E.1 + mo) (iI x) (iI y) (iI l) (iI h) (iI k)) := by
  by_cases c1 : isDr B n x y l h k
  · obtain ⟨u, v, hg⟩ := m_whence R hn hx hy hl hh hk c1
    exact ⟨_, _, s8_whence R hx hy hl hh hk c1, hg, sc_tr (sc_I (by unfold msv; omega)) sc_tB⟩
  · have R0 := rv_0 R (show n < 58 by omega)
    have hd := s8_hasDrift R hx hy hl hh hk
    have hm := m_isDrift R0 hx hy hl hh hk
    simp only [isDr_0 (show n < 58 by omega)] at hm
    obtain ⟨⟨rc, rn, rk, rm⟩, -⟩ := R
    unfold QS
    simp only [fX8_whence, c8 rc, hd, some_bind, iI_0, ib, fX9_whence, c9 rm.1, p9_0 rm.1, hm, if_neg c1]
    exact ⟨_, _, rfl, rfl, sc_I (by unfold msv; omega)⟩
end WH
