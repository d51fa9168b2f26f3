/-! the class's Roamer with what it keeps: cells of a shop -/
def RKD (E : Ev) (d : Nat) : Prop := (KD E d 4 11 ∧ KD E (d + 1) 21 16000 ∧ KD E (d + 2) 0 2 ∧ KD E (d + 3) 21 5) ∧ (KD E (d + 4) 1 10 ∧ KD E (d + 5) 20 24 ∧ KD E (d + 6) 26 4) ∧ ∀ q, q < 4 → KD E (d + 7 + 4 * q) 2 5 ∧ KD E (d + 7 + 4 * q + 1) 21 1200 ∧ KD E (d + 7 + 4 * q + 2) 20 32 ∧ KD E (d + 7 + 4 * q + 3) 20 32
def CLV (B : Bk) (r : Nat) (V : Vy) (i : Int) : Prop := ∃ S G L n c0, RN V i S G L n ∧ scV V i = ((c0 : Nat) : Int) ∧ CLI B r V S G L c0 (V.1 4).toNat
def clF (d r : Nat) (B C : Bk) : Prop := (∀ e j, e ≠ d → ¬ (e = r ∧ j = 3) → C.1 e j = B.1 e j) ∧ (∀ e j, ¬ (e = d + 2 ∧ j = 1) → C.2.1 e j = B.2.1 e j) ∧ (∀ e j, e ≠ d → C.2.2.1 e j = B.2.2.1 e j) ∧ C.2.2.2.1 = B.2.2.2.1 ∧ ∀ e, e ≠ d + 1 → e ≠ d + 3 → e ≠ r + 1 → C.2.2.2.2 e = B.2.2.2.2 e
section CLO
variable {E : Ev} {B : Bk} {d p S G L n q : Nat} {V : Vy} {era : Int}
theorem RKD_RE (K : RKD E d) (kp : VK E p) (hp : p + 6 ≤ d) (hq : q < 4) : RE E d p (d + 7 + 4 * q) := ⟨K.1, kp, K.2.2 q hq, hp, by omega⟩
theorem CLV_row {C : Bk} {r : Nat} {i : Int} (e : C.2.2.2.2 (r + 1) = B.2.2.2.2 (r + 1)) (h : CLV B r V i) : CLV C r V i := by
  obtain ⟨S, G, L, n, c0, h1, h2, h3⟩ := h
  refine ⟨S, G, L, n, c0, h1, h2, fun h l s c a1 a2 a3 a4 => ?_⟩
  unfold hiR
  rw [e]
  exact h3 h l s c a1 a2 a3 a4
theorem brI_row {C : Bk} {d : Nat} {wd dp : Int} {k : Nat} (e1 : C.2.1 d 1 = B.2.1 d 1) (e2 : C.2.2.2.2 (d + 1) = B.2.2.2.2 (d + 1)) (h : brI B d wd dp k) : brI C d wd dp k := by
  unfold brI at *
  rw [e1, e2]
  exact h
theorem s4_cellsOf (K : RKD E d) (kp : VK E p) (hp : p + 6 ≤ d) (hw : VW B p) (eV : vyN B p = V) (N : RN V (q : Int) S G L n) (hq : q < 4) (hr : B.2.2.1 (d + 6) q = some (d + 7 + 4 * q)) (e0 : i32 era) (r0 : i32 (B.1 (d + 7 + 4 * q) 3)) (hcv : B.1 (d + 7 + 4 * q) 3 = era → CLV B (d + 7 + 4 * q) V (q : Int) ∧ brI B (d + 2) (V.1 1) (V.1 2) 64) : ∃ C, fX4_cellsOf (E.1 + d) (E.1 + p) (iI (q : Int)) (iI era) (St E B) = some (E.1 + (d + 7 + 4 * q), St E C) ∧ clF d (d + 7 + 4 * q) B C ∧ CLV C (d + 7 + 4 * q) V (q : Int) ∧ brI C (d + 2) (V.1 1) (V.1 2) 64 ∧ C.1 (d + 7 + 4 * q) 3 = era := by
  have R := RKD_RE K kp hp hq
  obtain ⟨r, hr'⟩ : ∃ r, r = d + 7 + 4 * q := ⟨_, rfl⟩
  rw [← hr'] at hr r0 hcv R ⊢
  have kd := K.1.1
  have kr := R.2.2.1.1
  obtain ⟨e1, e2⟩ := e0
  obtain ⟨r1, r2⟩ := r0
  have d5 : (wR B d 5 (some r)).2.2.1 d 5 = some r := by rw [wR_3, if_pos ⟨rfl, rfl⟩]
  have hd : fX4_cellsOf (E.1 + d) (E.1 + p) (iI (q : Int)) (iI era) (St E B) = if iI (B.1 r 3) = iI era then some (E.1 + r, St E (wR B d 5 (some r))) else ((fX2_clearCells (E.1 + r) (St E (wR B d 5 (some r)))).bind fun s9 => (fX4_prepare (E.1 + d) (E.1 + p) (iI (q : Int)) (iI 0) (iI 1) s9).bind fun s10 => (iter (fX4_cellsOf_l39 (E.1 + d) (E.1 + p) (iI era)) FU ((iI 0), s10)).bind fun r14 => (gR r14 (E.1 + d) 4 5).bind fun v15 => (pI r14 v15 2 3 (iI era)).bind fun s16 => fX4_cellsOf_b68 (E.1 + d) s16) := by
    unfold fX4_cellsOf
    rw [c4 kd, some_bind, g4_3 kd, some_bind, aR_ok K.2.1.2.2 (by omega) (by omega) (by omega) (by omega) (by rw [Int.toNat_natCast]; exact hr), some_bind, p4_5 kd, some_bind, g4_5 kd d5, some_bind, g2_3 kr, some_bind, wR_1, some_bind]
    congr 1
    unfold fX4_cellsOf_b68
    rw [g4_5 kd d5, some_bind]
  rw [hd]
  by_cases c : B.1 r 3 = era
  · rw [if_pos (by rw [c])]
    obtain ⟨w1, w2⟩ := hcv c
    refine ⟨_, rfl, ⟨fun _ _ _ _ => rfl, fun _ _ _ => rfl, fun e j h => ?_, rfl, fun _ _ _ _ => rfl⟩, CLV_row rfl w1, brI_row rfl rfl w2, c⟩
    rw [wR_3, if_neg (fun a => h a.1)]
  · rw [if_neg (fun w => c ((iI_eq r1 r2 e1 e2).mp w))]
    obtain ⟨C1, a1, a2, a3⟩ := s2_clearCells (E := E) (B := wR B d 5 (some r)) (d := r) kr R.2.2.1.2.1
    obtain ⟨b1, b2, b3, b4, b5⟩ := a2
    have w1 : VW C1 p := VW_eq (fun j => by rw [b1]; rfl) hw
    have ev1 : vyN C1 p = V := by rw [← eV]; exact vyN_eq (fun j => by rw [b1]; rfl) (fun k z _ _ => by rw [b4]; rfl)
    obtain ⟨C2, ed, f1, f2, f3, f4⟩ := s4_prepare (i := (q : Int)) (T' := 1) (k := 0) (T := 1) R w1 ev1 N (by omega) (fun _ => by rw [b3]; exact d5) (by decide) (by omega)
    obtain ⟨c0, hc0, -⟩ := scV_b N
    have z2 : ∀ z : Int, 0 ≤ z → z < 1200 → C2.2.2.2.2 (r + 1) z = 0 := fun z z0 z1 => by
      rw [f2.2.2.2.2 (r + 1) (by omega) (by omega)]
      exact a3 z z0 z1
    obtain ⟨C3, g1, ⟨g2, g2'⟩, g3, g4⟩ := s4_cellsRun (x3 := iI era) R N hc0 f3 f4 z2
    have k5 : C3.2.2.1 d 5 = some r := g3.1.2 (by omega)
    refine ⟨wI C3 r 3 era, ?_, ⟨fun e j h1 h2 => ?_, fun e j h => ?_, fun e j h => ?_, ?_, fun e h1 h2 h3 => ?_⟩, ?_, ?_, ?_⟩
    · have k5' : (wI C3 r 3 era).2.2.1 d 5 = some r := k5
      rw [a1, some_bind, f1, some_bind, g1, some_bind, g4_5 kd k5, some_bind, p2_3 kr, some_bind]
      unfold fX4_cellsOf_b68
      rw [g4_5 kd k5', some_bind]
    · rw [wI_1, if_neg h2, g2.1, f2.1 e j (by omega), b1]
      rfl
    · show C3.2.1 e j = _
      rw [g2.2.1, f2.2.1 e j h, b2]
      rfl
    · show C3.2.2.1 e j = _
      rw [g2.2.2.1, f2.2.2.1 e j (by omega), b3, wR_3, if_neg (fun a => h a.1)]
    · show C3.2.2.2.1 = _
      rw [g2', f2.2.2.2.1, b4]
      rfl
    · show C3.2.2.2.2 e = _
      rw [g2.2.2.2.2 e h1 h3, f2.2.2.2.2 e h1 h2, b5 e h3]
      rfl
    · exact ⟨S, G, L, n, c0, N, hc0, g4⟩
    · exact brI_row rfl rfl g3.2.2.2.2.1.2
    · rw [wI_1, if_pos ⟨rfl, rfl⟩]
end CLO
