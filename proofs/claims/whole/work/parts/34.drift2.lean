/-! drift, whence -/
theorem lf_at {p : Int → Prop} [DecidablePred p] {i m j : Int} (h1 : i ≤ j) (h2 : j < m) (h3 : p j) (h4 : ∀ k, i ≤ k → k < j → ¬ p k) : lf p (m - i).toNat i = j := by
  obtain ⟨g1, g2, g3, g4⟩ := lf_spec p (m - i).toNat i
  by_cases c : lf p (m - i).toNat i < j
  · exact absurd (g4 (by omega)) (h4 _ g1 c)
  · by_cases c2 : j < lf p (m - i).toNat i
    · exact absurd h3 (g3 j h1 c2)
    · omega
theorem lf_no {p : Int → Prop} [DecidablePred p] {i m : Int} (him : i ≤ m) (h4 : ∀ k, i ≤ k → k < m → ¬ p k) : lf p (m - i).toNat i = m := by
  obtain ⟨g1, g2, g3, g4⟩ := lf_spec p (m - i).toNat i
  by_cases c : lf p (m - i).toNat i < m
  · exact absurd (g4 (by omega)) (h4 _ g1 c)
  · omega
theorem iter_lf {σ ρ : Type} {F : σ → Option (σ ⊕ ρ)} (S : Int → σ → Prop) (p : Int → Prop) [DecidablePred p] (Q : Int → ρ → Prop) (Q0 : ρ → Prop) (i m : Int) (hs : ∀ j a, i ≤ j → j < m → S j a → ¬ p j → ∃ a', F a = some (.inl a') ∧ S (j + 1) a') (hp : ∀ j a, i ≤ j → j < m → S j a → p j → ∃ r, F a = some (.inr r) ∧ Q j r) (hx : ∀ a, S m a → ∃ r, F a = some (.inr r) ∧ Q0 r) (him : i ≤ m) {N : Nat} (hN : m - i < N) {a : σ} (h0 : S i a) : ∃ r, iter F N a = some r ∧ (lf p (m - i).toNat i < m → Q (lf p (m - i).toNat i) r) ∧ (¬ lf p (m - i).toNat i < m → Q0 r) := by
  obtain ⟨r, h1, h2⟩ := iter_seek S p Q Q0 i m hs hp hx him hN h0
  refine ⟨r, h1, ?_⟩
  rcases h2 with ⟨j, g1, g2, g3, g4, g5⟩ | ⟨g1, g2⟩
  · rw [lf_at g1 g2 g3 g4]
    exact ⟨fun _ => g5, fun q => absurd g2 q⟩
  · rw [lf_no him g1]
    exact ⟨fun q => absurd q (by omega), fun _ => g2⟩
/-- where winds of a layer carry a column from an hour on, so many hours -/
def dr (B : Bk) (n : Nat) (l c hr : Int) : Nat → Int := fo (fun i x => crX (B.1 n 1) (B.1 n 2) x (B.2.2.2.1 (n + 1) (l * 24 + (hr + i)))) c
def drK (B : Bk) (n : Nat) (hr nn : Int) : Nat := (min (hr + nn) (B.1 n 4) - hr).toNat
section D2
variable {E : Ev} {B : Bk} {n : Nat}
theorem dr_in {l c hr : Int} (hw : B.1 n 1 ≤ 8) (hc : cOK (B.1 n 1) (B.1 n 2) c) : ∀ k, cOK (B.1 n 1) (B.1 n 2) (dr B n l c hr k) := by
  intro k
  induction k with
  | zero => exact hc
  | succ k ih => exact crX_in ih hw
theorem tC_2 {C : Bk} {c : Int} : (tC C c).2 = C.2 := rfl
theorem tC_n {C : Bk} {c : Int} (hn : n < 58) (j : Nat) : (tC C c).1 n j = C.1 n j := sc_n sc_tB hn j
theorem tC_rv {c : Int} (hn : n < 50) (R : RV E B n) : RV E (tC B c) n := sc_rv sc_tB hn R
theorem cOK_64 {wd dp c : Int} (h : cOK wd dp c) (h1 : wd ≤ 8) (h2 : dp ≤ 8) : 0 ≤ c ∧ c < 64 := by
  obtain ⟨a, b, d⟩ := h
  constructor <;> omega
theorem s8_hundredfold {c : Int} {s : Hp} (h0 : 0 ≤ c) (h1 : c < 64) : fX8_hundredfold (iI c) s = some (iI (100 * (c % 8) + c / 8), s) := by
  simp (disch := omega) only [fX8_hundredfold, s_xOf, s_yOf, some_bind, iI_mul, iI_add]
theorem s8_drifted {c l hr nn : Int} (R : RV E B n) (hc : cOK (B.1 n 1) (B.1 n 2) c) (h1 : 0 ≤ l) (h2 : l < B.1 n 3) (h3 : 0 ≤ hr) (h4 : hr < B.1 n 4) (h5 : 0 ≤ nn) (h6 : nn ≤ 24) : fX8_drifted (E.1 + co) (iI c) (iI l) (iI hr) (iI nn) (St E B) = some (iI (dr B n l c hr (drK B n hr nn)), St E B) := by
  obtain ⟨⟨rc, rn, rk, rm⟩, rw1, -, rb⟩ := R
  have hw := rw1
  obtain ⟨w0, w1, w2, w3, w4, -⟩ := hw
  have hK : (drK B n hr nn : Int) = min (hr + nn) (B.1 n 4) - hr := by unfold drK; omega
  have e8 : iter (fX8_drifted_l6 (E.1 + co) (iI l) (iI hr) (iI nn)) FU (iI c, iI (hr + 0), St E B) = some (iI (dr B n l c hr (drK B n hr nn)), St E B) := by
    refine iter_fo (fun j x => (iI x, iI (hr + j), St E B)) (fun i x => crX (B.1 n 1) (B.1 n 2) x (B.2.2.2.1 (n + 1) (l * 24 + (hr + i)))) c (drK B n hr nn) _ (fun j x => cOK (B.1 n 1) (B.1 n 2) x) hc (fun j x hj hx => crX_in hx w1.2) (fun j x hj hx => ?_) ?_ (N := FU) (by have := FU_big (n := (drK B n hr nn : Int)) (by omega); omega)
    · have hx64 := cOK_64 hx w1.2 w2.2
      have hb := rb.2.2.2.1 l (hr + j) h1 h2 (by omega) (by omega)
      simp (disch := omega) only [fX8_drifted_l6, g8_7 rc rn, g6_4 rk.1, some_bind, iI_le, iI_add, s_windAt rk h1 (show l < 5 by omega) (show 0 ≤ hr + (j : Int) by omega) (show hr + (j : Int) < 24 by omega), s_carried rk rw1 hx64.1 hx64.2 hb.1 hb.2]
      rw [if_neg (by omega), if_neg (by omega), Int.add_assoc]
    · simp (disch := omega) only [fX8_drifted_l6, g8_7 rc rn, g6_4 rk.1, some_bind, iI_le, iI_add]
      by_cases q : B.1 n 4 ≤ hr + (drK B n hr nn : Int)
      · rw [if_pos q]
        rfl
      · rw [if_neg q, if_pos (by omega)]
        rfl
  rw [Int.add_zero] at e8
  simp only [fX8_drifted, fX8_drifted_b54, c8 rc, some_bind, e8]
theorem m_driftOf {x y l hr nn : Int} (R : RV E B n) (hn : n < 50) (x1 : 0 ≤ x) (x2 : x < B.1 n 1) (y1 : 0 ≤ y) (y2 : y < B.1 n 2) (h1 : 0 ≤ l) (h2 : l < B.1 n 3) (h3 : 0 ≤ hr) (h4 : hr < B.1 n 4) (h5 : 0 ≤ nn) (h6 : nn ≤ 24) {a b : Int} : fX9_driftOf (E.1 + mo) (iI x) (iI y) (iI l) (iI hr) (iI nn) (St E (tB B a b)) = some (iI (100 * (dr B n l (y * 8 + x) hr (drK B n hr nn) % 8) + dr B n l (y * 8 + x) hr (drK B n hr nn) / 8), St E (tC B (dr B n l (y * 8 + x) hr (drK B n hr nn)))) := by
  have R1 := R
  have hmw := rv_mw R
  obtain ⟨⟨rc, rn, rk, rm⟩, rw1, -, rb⟩ := R
  have hw := rw1
  obtain ⟨w0, w1, w2, w3, w4, -⟩ := hw
  have hK : (drK B n hr nn : Int) = min (hr + nn) (B.1 n 4) - hr := by unfold drK; omega
  have hc : cOK (B.1 n 1) (B.1 n 2) (y * 8 + x) := cOK_xy x1 x2 y1 y2 w1.2
  have e9 : iter (fX9_driftOf_l14 (E.1 + mo) (iI l) (iI hr) (iI nn)) FU (iI (hr + 0), St E (tC B (y * 8 + x))) = some (St E (tC B (dr B n l (y * 8 + x) hr (drK B n hr nn)))) := by
    refine iter_fo (fun j c => (iI (hr + j), St E (tC B c))) (fun i x => crX (B.1 n 1) (B.1 n 2) x (B.2.2.2.1 (n + 1) (l * 24 + (hr + i)))) (y * 8 + x) (drK B n hr nn) _ (fun j x => cOK (B.1 n 1) (B.1 n 2) x) hc (fun j x hj hx => crX_in hx w1.2) (fun j c hj hx => ?_) ?_ (N := FU) (by have := FU_big (n := (drK B n hr nn : Int)) (by omega); omega)
    · have hb := rb.2.2.2.1 l (hr + j) h1 h2 (by omega) (by omega)
      have hcar := m_carries (w := B.2.2.2.1 (n + 1) (l * 24 + (hr + (j : Int)))) rm hmw (c := c) (by rw [vr_h0 R1, vr_h1 R1]; exact hx) hb.1 hb.2
      rw [vr_h0 R1, vr_h1 R1] at hcar
      simp (disch := omega) only [fX9_driftOf_l14, iI_add, iI_le, g9_17 rm.1, aI_ok (mk7 rm), some_bind, tC_2, vr_h3 R1, m_windOf rm h1 (show l < 5 by omega) (show 0 ≤ hr + (j : Int) by omega) (show hr + (j : Int) < 24 by omega), vr_w R1 h1 h2 (show 0 ≤ hr + (j : Int) by omega) (show hr + (j : Int) < B.1 n 4 by omega), hcar]
      rw [if_neg (by omega), if_neg (by omega), Int.add_assoc]
    · simp (disch := omega) only [fX9_driftOf_l14, iI_add, iI_le, g9_17 rm.1, aI_ok (mk7 rm), some_bind, tC_2, vr_h3 R1]
      by_cases q : hr + nn ≤ hr + (drK B n hr nn : Int)
      · rw [if_pos q]
        rfl
      · rw [if_neg q, if_pos (by omega)]
        rfl
  rw [Int.add_zero] at e9
  have e0 : tB B x y = tC B (y * 8 + x) := by
    unfold tC
    rw [show (y * 8 + x) % 8 = x by omega, show (y * 8 + x) / 8 = y by omega]
  have t26 : ∀ c, (tC B c).1 mo 26 = c % 8 := fun c => tB_26
  have t27 : ∀ c, (tC B c).1 mo 27 = c / 8 := fun c => tB_27
  simp only [fX9_driftOf, fX9_driftOf_b53, c9 rm.1, p9_26 rm.1, p9_27 rm.1, tB_w, some_bind, e0, e9, g9_26 rm.1, g9_27 rm.1, t26, t27, iI_mul, iI_add]
end D2
