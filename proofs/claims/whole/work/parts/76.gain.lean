/-! what another act brings: the class's gainBy, the reference's moneyBy -/
def vyA (V : Vy) (s h a : Int) : Vy := (V.1, V.2.1, V.2.2.1, V.2.2.2.1, fun s' h' => if s' = s ∧ h' = h then a else V.2.2.2.2.1 s' h', V.2.2.2.2.2)
theorem vyA_ok {V : Vy} {s h a : Int} (hV : VOK V) (a0 : 0 ≤ a) (a1 : a ≤ 2) : VOK (vyA V s h a) := by
  obtain ⟨b1, b2, b3, b4, b5, b6, b7, b8, b9, bw, bs, bd, ba, bg⟩ := hV
  refine ⟨b1, b2, b3, b4, b5, b6, b7, b8, b9, bw, bs, bd, fun s' h' q1 q2 q3 q4 => ?_, bg⟩
  show 0 ≤ (if s' = s ∧ h' = h then a else V.2.2.2.2.1 s' h') ∧ (if s' = s ∧ h' = h then a else V.2.2.2.2.1 s' h') ≤ 2
  by_cases q : s' = s ∧ h' = h
  · rw [if_pos q]; exact ⟨a0, a1⟩
  · rw [if_neg q]; exact ba s' h' q1 q2 q3 q4
theorem VE_rfl {V : Vy} {H : Int} : VE V V H := ⟨fun _ _ _ => rfl, fun _ _ _ _ _ _ => rfl, fun _ _ _ _ _ _ => rfl, fun _ _ _ _ _ _ => rfl, fun _ _ _ _ _ _ => rfl, fun _ _ _ _ _ _ => rfl⟩
theorem VOK_VE {V V' : Vy} (hV : VOK V) (e : VE V V' (V.1 4)) : VOK V' := by
  obtain ⟨b1, b2, b3, b4, b5, b6, b7, b8, b9, bw, bs, bd, ba, bg⟩ := hV
  have e1 := e.1 1 (by omega) (by omega)
  have e2 := e.1 2 (by omega) (by omega)
  have e3 := e.1 3 (by omega) (by omega)
  have e4 := e.1 4 (by omega) (by omega)
  have e5 := e.1 5 (by omega) (by omega)
  have e6 := e.1 6 (by omega) (by omega)
  have e7 := e.1 7 (by omega) (by omega)
  have e8 := e.1 8 (by omega) (by omega)
  have e9 := e.1 9 (by omega) (by omega)
  unfold VOK
  rw [e1, e2, e3, e4, e5, e6, e7, e8, e9]
  refine ⟨b1, b2, b3, b4, b5, b6, b7, b8, b9, fun l h q1 q2 q3 q4 => by rw [e.2.1 l h q1 q2 q3 q4]; exact bw l h q1 q2 q3 q4, fun s q1 q2 => ?_, fun i q1 q2 => ?_, fun s h q1 q2 q3 q4 => by rw [e.2.2.2.2.1 s h q1 q2 q3 q4]; exact ba s h q1 q2 q3 q4, fun l h q1 q2 q3 q4 => by rw [e.2.2.2.2.2 l h q1 q2 q3 q4]; exact bg l h q1 q2 q3 q4⟩
  · rw [e.2.2.1 s 0 q1 q2 (by omega) (by omega), e.2.2.1 s 1 q1 q2 (by omega) (by omega), e.2.2.1 s 2 q1 q2 (by omega) (by omega), e.2.2.1 s 3 q1 q2 (by omega) (by omega), e.2.2.1 s 4 q1 q2 (by omega) (by omega), e.2.2.1 s 5 q1 q2 (by omega) (by omega)]
    exact bs s q1 q2
  · rw [e.2.2.2.1 i 0 q1 q2 (by omega) (by omega), e.2.2.2.1 i 1 q1 q2 (by omega) (by omega), e.2.2.2.1 i 2 q1 q2 (by omega) (by omega)]
    exact bd i q1 q2
/-- the spare valley is a copy of this one -/
def SP (C : Bk) (n m : Nat) : Prop := (∀ j, j < 14 → C.1 m j = C.1 n j) ∧ (∀ (i : Nat) (z : Int), 1 ≤ i → i ≤ 5 → 0 ≤ z → z < vLen i → C.2.2.2.1 (m + i) z = C.2.2.2.1 (n + i) z)
section GN
variable {E : Ev} {B C : Bk} {n m : Nat}
theorem SP_cy (nm : m + 6 ≤ n ∨ n + 6 ≤ m) : SP (cyV B m n) n m := by
  refine ⟨fun j hj => ?_, fun i z i1 i2 z0 z1 => ?_⟩
  · rw [cyV_1, cyV_1, if_pos ⟨rfl, hj⟩, if_neg (by omega)]
  · rw [cyV_4 nm, cyV_4 nm, if_pos ⟨by omega, by omega, z0, by rw [show m + i - m = i by omega]; exact z1⟩, if_neg (by omega), show m + i - m = i by omega]
theorem TM_cy (nm : m + 6 ≤ n ∨ n + 6 ≤ m) : TM m B (cyV B m n) := by
  refine ⟨fun d j a b => ?_, fun d j _ => rfl, fun d j _ => rfl, fun d z a b => ?_, rfl⟩
  · rw [cyV_1, if_neg (fun q => b q.1)]
  · rw [cyV_4 nm, if_neg (fun q => b ⟨q.1, q.2.1⟩)]
/-- the copy, with one act changed, against this valley with it -/
theorem SP_VE {s h : Nat} {a : Int} (S : SP C n m) (hV : VOK (vyN C n)) (s1 : (s : Int) < C.1 n 8) (h1 : (h : Int) < C.1 n 4) : VE (vyA (vyN C n) s h a) (vyN (wA C (m + 4) ((s : Int) * 24 + h) a) m) (C.1 n 4) := by
  obtain ⟨b1, b2, b3, b4, b5, b6, b7, b8, b9, -⟩ := hV
  have b3' : 2 ≤ C.1 n 3 ∧ C.1 n 3 ≤ 5 := b3
  have b4' : 1 ≤ C.1 n 4 ∧ C.1 n 4 ≤ 24 := b4
  have b8' : 0 ≤ C.1 n 8 ∧ C.1 n 8 ≤ 4 := b8
  have b9' : 0 ≤ C.1 n 9 ∧ C.1 n 9 ≤ 5 := b9
  have v1 : vLen 1 = 120 := rfl
  have v2 : vLen 2 = 24 := rfl
  have v3 : vLen 3 = 15 := rfl
  have v4 : vLen 4 = 96 := rfl
  refine ⟨fun j j1 j2 => S.1 j (by omega), fun l h' q1 q2 q3 q4 => ?_, fun t k q1 q2 q3 q4 => ?_, fun i k q1 q2 q3 q4 => ?_, fun t h' q1 q2 q3 q4 => ?_, fun _ _ _ _ _ _ => rfl⟩
  · have q2' : l < C.1 n 3 := q2
    have q4' : h' < C.1 n 4 := q4
    show (wA C (m + 4) _ a).2.2.2.1 (m + 1) (l * 24 + h') = C.2.2.2.1 (n + 1) (l * 24 + h')
    rw [wA_4, if_neg (by omega)]
    exact S.2 1 _ (by omega) (by omega) (by omega) (by omega)
  · have q2' : t < C.1 n 8 := q2
    show (wA C (m + 4) _ a).2.2.2.1 (m + 2) (t * 6 + k) = C.2.2.2.1 (n + 2) (t * 6 + k)
    rw [wA_4, if_neg (by omega)]
    exact S.2 2 _ (by omega) (by omega) (by omega) (by omega)
  · have q2' : i < C.1 n 9 := q2
    show (wA C (m + 4) _ a).2.2.2.1 (m + 3) (i * 3 + k) = C.2.2.2.1 (n + 3) (i * 3 + k)
    rw [wA_4, if_neg (by omega)]
    exact S.2 3 _ (by omega) (by omega) (by omega) (by omega)
  · have q2' : t < C.1 n 8 := q2
    show (wA C (m + 4) _ a).2.2.2.1 (m + 4) (t * 24 + h') = if t = (s : Int) ∧ h' = (h : Int) then a else C.2.2.2.1 (n + 4) (t * 24 + h')
    rw [wA_4]
    by_cases q : t = (s : Int) ∧ h' = (h : Int)
    · rw [if_pos ⟨rfl, by omega⟩, if_pos q]
    · rw [if_neg (by omega), if_neg q]
      exact S.2 4 _ (by omega) (by omega) (by omega) (by omega)
theorem f7_behind {p q d h k : Nat} {V V' : Vy} (P : PK E p) (Q : PK E q) (hpq : p + 6 < q ∨ q + 6 < p) (h0 : h < 24) (hm : h ≤ k) (I : FP B q V 0 k) (h8 : V'.1 8 = V.1 8) (h9 : V'.1 9 = V.1 9) (b8 : V.1 8 ≤ 4) (b9 : V.1 9 ≤ 5) (hs : AF V (fsF V h) (fsF V' h)) : ∃ C, fX7_beginBehind (E.1 + p) (E.1 + d) (E.1 + q) (iI h) (St E B) = some (St E C) ∧ F2 p (wR (wI B p 8 0) p 6 (some d)) C ∧ FP C p V' h h := by
  obtain ⟨I1, I2, -⟩ := I
  refine ⟨cpA (cpA (wR (wI B p 8 0) p 6 (some d)) (q + 1) ((h : Int) * 28) (p + 1) ((h : Int) * 28) 28) (q + 2) ((h : Int) * 5) (p + 2) ((h : Int) * 5) 5, ?_, ?_, ?_⟩
  · simp (disch := omega) only [fX7_beginBehind, c7 P.1, some_bind, p7_8 P.1, p7_6 P.1, g7_0 P.1, g7_0 Q.1, g7_1 P.1, g7_1 Q.1, iI_mul, cp_ok Q.2.1 P.2.1, cp_ok Q.2.2.1 P.2.2.1]
  · refine ⟨rfl, rfl, rfl, rfl, fun e z q1 q2 => ?_⟩
    rw [cpA_4, if_neg (fun n => q2 n.1), cpA_4, if_neg (fun n => q1 n.1)]
  · refine ⟨fun h' s k q1 q2 q3 q4 q5 => ?_, fun h' i q1 q2 q3 q4 => ?_, fun h' s q1 q2 => by omega⟩
    · have e : h' = h := by omega
      subst e
      rw [cpA_4, if_neg (by omega), cpA_4, if_pos ⟨rfl, by omega, by omega⟩, hs.1 s (by omega) (by omega) k q4 q5, ← I1 h' s k (by omega) hm (by omega) q4 q5]
      show B.2.2.2.1 (q + 1) _ = _
      rw [show (h' : Int) * 28 + ((h' : Int) * 28 + (s : Int) * 7 + k - (h' : Int) * 28) = (h' : Int) * 28 + (s : Int) * 7 + k by omega]
    · have e : h' = h := by omega
      subst e
      rw [cpA_4, if_pos ⟨rfl, by omega, by omega⟩, cpA_4, if_neg (by omega), hs.2 i q3 (by omega), ← I2 h' i (by omega) hm q3 (by omega)]
      show B.2.2.2.1 (q + 2) _ = _
      rw [show (h' : Int) * 5 + ((h' : Int) * 5 + i - (h' : Int) * 5) = (h' : Int) * 5 + i by omega]
theorem s8_gainBy {s h : Nat} {a : Int} (F : FB E C n m) (hst : 0 < C.1 n 0) (I : FP C 3 (vyN C n) 0 (C.1 n 4).toNat) (h6 : C.2.2.1 3 6 = some n) (S : SP C n m) (s1 : (s : Int) < C.1 n 8) (h1 : (h : Int) < C.1 n 4) (a0 : 0 ≤ a) (a1 : a ≤ 2) : ∃ L, fX8_gainBy (E.1 + co) (E.1 + 3) (iI s) (iI h) (iI a) (St E C) = some (iI (mnF (vyA (vyN C n) s h a) (C.1 n 8).toNat - mnF (vyN C n) (C.1 n 8).toNat), St E L) ∧ TM m C L ∧ VI L 10 ∧ SP L n m := by
  have hc : co = 0 := rfl
  have rc := F.1.1.1
  have rn := F.1.1.2.1
  have rk := F.1.1.2.2.1
  obtain ⟨k1, k2, k3, k4⟩ := F.2.1
  obtain ⟨n1, n2, m1, m2, nm⟩ := F.2.2.1
  obtain ⟨v0, x, x0, x1, x2⟩ := F.2.2.2.2.2
  have hV := rv_VOK F.1 hst
  have hA := vyA_ok (s := s) (h := h) hV a0 a1
  have e1 := SP_VE (a := a) S hV s1 h1
  have hV' := VOK_VE hA e1
  have b4 : 1 ≤ C.1 n 4 ∧ C.1 n 4 ≤ 24 := hV.2.2.2.1
  have b8 : 0 ≤ C.1 n 8 ∧ C.1 n 8 ≤ 4 := hV.2.2.2.2.2.2.2.1
  have b9 : 0 ≤ C.1 n 9 ∧ C.1 n 9 ≤ 5 := hV.2.2.2.2.2.2.2.2.1
  have eA : VE (vyN C n) (vyA (vyN C n) s h a) (h : Int) := ⟨fun _ _ _ => rfl, fun _ _ _ _ _ _ => rfl, fun _ _ _ _ _ _ => rfl, fun _ _ _ _ _ _ => rfl, fun s' h' q1 q2 q3 q4 => if_neg (fun w => by omega), fun _ _ _ _ _ _ => rfl⟩
  have af1 := fsF_ag hV eA h (Int.le_refl _) (by show (h : Int) ≤ C.1 n 4; omega)
  have af2 := fsF_ag hA e1 h (by omega) (by show (h : Int) ≤ C.1 n 4; omega)
  have af : AF (vyN C n) (fsF (vyN C n) h) (fsF (vyN (wA C (m + 4) ((s : Int) * 24 + h) a) m) h) := ⟨fun t t0 t1 k q0 q1 => by rw [af2.1 t t0 t1 k q0 q1, af1.1 t t0 t1 k q0 q1], fun i i0 i1 => by rw [af2.2 i i0 i1, af1.2 i i0 i1]⟩
  have t1 : TM m C (wA C (m + 4) ((s : Int) * 24 + h) a) := ⟨fun _ _ _ _ => rfl, fun _ _ _ => rfl, fun _ _ _ => rfl, fun d z _ q => by rw [wA_4, if_neg (by omega)], rfl⟩
  have j8 := e1.1 8 (by omega) (by omega)
  have j9 := e1.1 9 (by omega) (by omega)
  obtain ⟨D, d1, d2, d3⟩ := f7_behind (B := wA C (m + 4) ((s : Int) * 24 + h) a) (d := m) (h := h) (k := (C.1 n 4).toNat) k2 k1 (by omega) (by omega) (by omega) (TM_FP m1 t1 I) j8 j9 b8.2 b9.2 af
  have hd6 : D.2.2.1 10 6 = some m := by
    rw [d2.2.2.1]
    show (if 10 = 10 ∧ 6 = 6 then some m else C.2.2.1 10 6) = some m
    rw [if_pos ⟨rfl, rfl⟩]
  have di : ∀ d' j, ¬ (d' = 10 ∧ j = 8) → D.1 d' j = C.1 d' j := fun d' j w => by
    rw [d2.1]
    show (if d' = 10 ∧ j = 8 then 0 else C.1 d' j) = _
    rw [if_neg w]
  have dl : D.2.1 = C.2.1 := d2.2.1
  have dr : ∀ d' j, ¬ (d' = 10 ∧ j = 6) → D.2.2.1 d' j = C.2.2.1 d' j := fun d' j w => by
    rw [d2.2.2.1]
    show (if d' = 10 ∧ j = 6 then some m else C.2.2.1 d' j) = _
    rw [if_neg w]
  have d8 : D.1 10 8 = 0 := by
    rw [d2.1]
    show (if 10 = 10 ∧ 8 = 8 then 0 else C.1 10 8) = (0 : Int)
    rw [if_pos ⟨rfl, rfl⟩]
  have dw : ∀ d' z, d' ≠ 11 → d' ≠ 12 → D.2.2.2.1 d' z = (wA C (m + 4) ((s : Int) * 24 + h) a).2.2.2.1 d' z := fun d' z q1 q2 => d2.2.2.2.2 d' z q1 q2
  have hMD : VM D m (vyN (wA C (m + 4) ((s : Int) * 24 + h) a) m) := ⟨fun j => by rw [di _ _ (by omega)]; rfl, fun l h' => by rw [dw _ _ (by omega) (by omega)]; rfl, fun l h' => by rw [dw _ _ (by omega) (by omega)]; rfl, fun l h' => by rw [dw _ _ (by omega) (by omega)]; rfl, fun l h' => by rw [dw _ _ (by omega) (by omega)]; rfl⟩
  have j4 : (vyN (wA C (m + 4) ((s : Int) * 24 + h) a) m).1 4 = C.1 n 4 := e1.1 4 (by omega) (by omega)
  obtain ⟨K, f1, f2, f3, f4, f5⟩ := f7_flyFrom (B := D) (p := 10) (d := m) (V := vyN (wA C (m + 4) ((s : Int) * 24 + h) a) m) (o := 0) (gX := fun _ => x) (a := h) k2 hd6 k3 (by omega) hV' hMD (by rw [di _ _ (by omega), S.1 0 (by omega)]; exact F.1.2.1.1) (by rw [j4]; omega) d8 (by omega) (by omega) (by rw [dl]; exact x2) (by rw [dw _ _ (by omega) (by omega), wA_4, if_neg (by omega)]; exact v0) (GU_0 x0 x1 (fun _ _ => rfl)) d3
  have tK : TM m (wA C (m + 4) ((s : Int) * 24 + h) a) K := ⟨fun d' j q _ => by rw [f2.1, di _ _ (by omega)]; rfl, fun d' j q => by rw [f2.2.2.2.1 d' j (by omega), dl]; rfl, fun d' j q => by rw [f2.2.1, dr _ _ q]; rfl, fun d' z q _ => by rw [f2.2.2.2.2 d' z (by omega), dw _ _ (by omega) (by omega)], by rw [f2.2.2.1, d2.2.2.2.1]; rfl⟩
  have tC := TM_tr t1 tK
  have rows : ∀ d' z, ¬ (10 < d' ∧ d' ≤ 16) → K.2.2.2.1 d' z = (wA C (m + 4) ((s : Int) * 24 + h) a).2.2.2.1 d' z := fun d' z q => by rw [f2.2.2.2.2 d' z (by omega), dw _ _ (by omega) (by omega)]
  have ints : ∀ d' j, ¬ (d' = 10 ∧ j = 8) → K.1 d' j = C.1 d' j := fun d' j q => by rw [f2.1, di _ _ q]
  have tL : TM m C (wA K (m + 4) ((s : Int) * 24 + h) (C.2.2.2.1 (n + 4) ((s : Int) * 24 + h))) := TM_tr tC ⟨fun _ _ _ _ => rfl, fun _ _ _ => rfl, fun _ _ _ => rfl, fun d z _ q => by rw [wA_4, if_neg (by omega)], rfl⟩
  have lr : ∀ d' z, ¬ (10 < d' ∧ d' ≤ 16) → (wA K (m + 4) ((s : Int) * 24 + h) (C.2.2.2.1 (n + 4) ((s : Int) * 24 + h))).2.2.2.1 d' z = if d' = m + 4 ∧ z = (s : Int) * 24 + h then C.2.2.2.1 (n + 4) ((s : Int) * 24 + h) else C.2.2.2.1 d' z := fun d' z q => by
    rw [wA_4]
    by_cases q2 : d' = m + 4 ∧ z = (s : Int) * 24 + h
    · rw [if_pos q2, if_pos q2]
    · rw [if_neg q2, if_neg q2, rows _ _ q, wA_4, if_neg q2]
  refine ⟨wA K (m + 4) ((s : Int) * 24 + h) (C.2.2.2.1 (n + 4) ((s : Int) * 24 + h)), ?_, tL, ⟨?_, x, x0, x1, f4⟩, ⟨fun j hj => ?_, fun i z i1 i2 z0 z1 => ?_⟩⟩
  · have e10 : ∀ X, gR (St E X) (E.1 + co) 8 3 = some (E.1 + 10) := fun X => g8_3 rc
    have ks : K.2.2.1 co 8 = some m := by rw [f2.2.1, dr _ _ (by omega)]; exact k4
    have kn : K.2.2.1 co 7 = some n := by rw [f2.2.1, dr _ _ (by omega)]; exact rn
    have d1' := d1
    have act : (K.2.2.2.1 (n + 4) ((s : Int) * 24 + h)) = C.2.2.2.1 (n + 4) ((s : Int) * 24 + h) := by rw [rows _ _ (by omega), wA_4, if_neg (by omega)]
    have ik : (10 < 3 + 1 ∨ True) := Or.inr trivial
    have m10 := q7_money (C := wA K (m + 4) ((s : Int) * 24 + h) (C.2.2.2.1 (n + 4) ((s : Int) * 24 + h))) (p := 10) (d := m) (a := h) (V := vyN (wA C (m + 4) ((s : Int) * 24 + h) a) m) k2 (by show K.2.2.1 10 6 = _; rw [f2.2.1]; exact hd6) k3 hV' (by show K.1 m 4 = _; rw [ints _ _ (by omega)]; rfl) (by show K.1 m 8 = _; rw [ints _ _ (by omega)]; rfl) (by
      have r : ∀ k z, k ≤ 16 → (wA K (m + 4) ((s : Int) * 24 + h) (C.2.2.2.1 (n + 4) ((s : Int) * 24 + h))).2.2.2.1 k z = K.2.2.2.1 k z := fun k z q => by rw [wA_4, if_neg (by omega)]
      unfold FP at *
      simp only [r (10 + 1) _ (by omega), r (10 + 2) _ (by omega), r (10 + 3) _ (by omega), r (10 + 4) _ (by omega), r (10 + 5) _ (by omega)]
      exact f5) (by rw [j4]; omega)
    have m3 := q7_money (C := wA K (m + 4) ((s : Int) * 24 + h) (C.2.2.2.1 (n + 4) ((s : Int) * 24 + h))) (p := 3) (d := n) (a := 0) (V := vyN C n) k1 (by rw [tL.2.2.1 3 6 (by omega)]; exact h6) rk hV (by rw [tL.1 n 4 (by omega) (by omega)]; rfl) (by rw [tL.1 n 8 (by omega) (by omega)]; rfl) (TM_FP m1 tL I) (by omega)
    rw [mnF_ag hA e1] at m10
    have m10' : fX7_moneyOfAll (E.1 + 10) (St E (wA K (m + 4) ((s : Int) * 24 + h) (C.2.2.2.1 (n + 4) ((s : Int) * 24 + h)))) = some (iI (mnF (vyA (vyN C n) s h a) (C.1 n 8).toNat), St E (wA K (m + 4) ((s : Int) * 24 + h) (C.2.2.2.1 (n + 4) ((s : Int) * 24 + h)))) := m10
    have m3' : fX7_moneyOfAll (E.1 + 3) (St E (wA K (m + 4) ((s : Int) * 24 + h) (C.2.2.2.1 (n + 4) ((s : Int) * 24 + h)))) = some (iI (mnF (vyN C n) (C.1 n 8).toNat), St E (wA K (m + 4) ((s : Int) * 24 + h) (C.2.2.2.1 (n + 4) ((s : Int) * 24 + h)))) := m3
    have k4' : (wA C (m + 4) ((s : Int) * 24 + h) a).2.2.1 co 8 = some m := k4
    simp (disch := omega) only [fX8_gainBy, c8 rc, g8_8 rc k4, some_bind, s_setAct k3, e10, g8_8 rc k4', d1, f1, g8_8 rc ks, g8_7 rc kn, s_actAt rk, act, m10', m3', iI_sub]
  · rw [wA_4, if_neg (by omega)]
    exact f3
  · show K.1 m j = K.1 n j
    rw [ints _ _ (by omega), ints _ _ (by omega)]
    exact S.1 j hj
  · rw [lr _ _ (by omega), lr _ _ (by omega), if_neg (show ¬ (n + i = m + 4 ∧ z = (s : Int) * 24 + h) by omega)]
    by_cases q : m + i = m + 4 ∧ z = (s : Int) * 24 + h
    · rw [if_pos q, q.2, show i = 4 by omega]
    · rw [if_neg q]
      exact S.2 i z i1 i2 z0 z1
end GN
