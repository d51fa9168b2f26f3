/-! flights of the valley that stands: flown(), asTold() -/
def vyN (B : Bk) (n : Nat) : Vy := (B.1 n, fun l h => B.2.2.2.1 (n + 1) (l * 24 + h), fun s k => B.2.2.2.1 (n + 2) (s * 6 + k), fun i k => B.2.2.2.1 (n + 3) (i * 3 + k), fun s h => B.2.2.2.1 (n + 4) (s * 24 + h), fun _ _ => 0)
theorem vyN_VM {B : Bk} {n : Nat} : VM B n (vyN B n) := ⟨fun _ => rfl, fun _ _ => rfl, fun _ _ => rfl, fun _ _ => rfl, fun _ _ => rfl⟩
theorem vyN_eq {B C : Bk} {n : Nat} (h1 : ∀ j, C.1 n j = B.1 n j) (h2 : ∀ k z, n < k → k ≤ n + 4 → C.2.2.2.1 k z = B.2.2.2.1 k z) : vyN C n = vyN B n := by
  unfold vyN
  refine Prod.ext (funext h1) (Prod.ext ?_ (Prod.ext ?_ (Prod.ext ?_ (Prod.ext ?_ rfl))))
  · funext l h; exact h2 _ _ (by omega) (by omega)
  · funext l h; exact h2 _ _ (by omega) (by omega)
  · funext l h; exact h2 _ _ (by omega) (by omega)
  · funext l h; exact h2 _ _ (by omega) (by omega)
/-- what lasts in a voyage from flight to flight -/
def VI (B : Bk) (p : Nat) : Prop := B.2.2.2.1 (p + 6) 0 = 0 ∧ ∃ x, 0 ≤ x ∧ x < 2147483648 ∧ B.2.1 p 7 = jI x
/-- the planned flight, if it stands, is that of the valley -/
def PL (B : Bk) (n : Nat) : Prop := (B.1 co 11 = 0 ∨ (B.1 co 11 = 1 ∧ 0 < B.1 n 0 ∧ B.2.2.1 3 6 = some n ∧ FP B 3 (vyN B n) 0 (B.1 n 4).toNat)) ∧ VI B 3 ∧ VI B 10
def FB (E : Ev) (B : Bk) (n m : Nat) : Prop := RV E B n ∧ (PK E 3 ∧ PK E 10 ∧ VK E m ∧ B.2.2.1 co 8 = some m) ∧ (20 ≤ n ∧ n < 50 ∧ 20 ≤ m ∧ m < 50 ∧ (m + 6 ≤ n ∨ n + 6 ≤ m)) ∧ PL B n
/-- what flights may change: voyages, the spare valley, scratch, and whether the planned flight stands -/
def fF (m : Nat) (B C : Bk) : Prop :=
  (∀ d j, (d = co → j ≠ 11) → d ≠ 3 → d ≠ 10 → d ≠ m → (d = mo → msv j) → C.1 d j = B.1 d j) ∧ (∀ d j, d ≠ 3 → d ≠ 10 → d ≠ mo → C.2.1 d j = B.2.1 d j) ∧ (∀ d j, ¬ (d = 3 ∧ j = 6) → ¬ (d = 10 ∧ j = 6) → C.2.2.1 d j = B.2.2.1 d j) ∧ (∀ d z, ¬ mscr d → ¬ (3 < d ∧ d ≤ 9) → ¬ (10 < d ∧ d ≤ 16) → ¬ (m < d ∧ d ≤ m + 5) → C.2.2.2.1 d z = B.2.2.2.1 d z) ∧ (∀ d z, ¬ mscr d → C.2.2.2.2 d z = B.2.2.2.2 d z)
theorem fF_rfl {m : Nat} {B : Bk} : fF m B B := ⟨fun _ _ _ _ _ _ _ => rfl, fun _ _ _ _ _ => rfl, fun _ _ _ _ => rfl, fun _ _ _ _ _ _ => rfl, fun _ _ _ => rfl⟩
theorem fF_tr {m : Nat} {A B C : Bk} (h : fF m A B) (g : fF m B C) : fF m A C :=
  ⟨fun d j a b c e f => (g.1 d j a b c e f).trans (h.1 d j a b c e f), fun d j a b c => (g.2.1 d j a b c).trans (h.2.1 d j a b c), fun d j a b => (g.2.2.1 d j a b).trans (h.2.2.1 d j a b), fun d z a b c e => (g.2.2.2.1 d z a b c e).trans (h.2.2.2.1 d z a b c e), fun d z a => (g.2.2.2.2 d z a).trans (h.2.2.2.2 d z a)⟩
theorem fF_sc {m : Nat} {B C : Bk} (h : sc B C) : fF m B C := ⟨fun d j _ _ _ _ f => h.1 d j f, fun d j _ _ c => h.2.1 d j c, fun d j _ _ => by rw [h.2.2.1], fun d z a _ _ _ => h.2.2.2.1 d z a, fun d z a => h.2.2.2.2 d z a⟩
section FO
variable {E : Ev} {B C : Bk} {n m : Nat}
theorem fF_n (h : fF m B C) (h1 : 20 ≤ n) (h2 : n < 50) (h3 : n ≠ m) (j : Nat) : C.1 n j = B.1 n j := h.1 n j (fun q => by have : co = 0 := rfl; omega) (by omega) (by omega) h3 (fun q => by have : mo = 58 := rfl; omega)
theorem fF_r (h : fF m B C) (h1 : 20 ≤ n) (h2 : n < 50) (h3 : m + 6 ≤ n ∨ n + 6 ≤ m) {k : Nat} (k1 : n < k) (k2 : k ≤ n + 5) (z : Int) : C.2.2.2.1 k z = B.2.2.2.1 k z := h.2.2.2.1 k z (fun q => by have : mo = 58 := rfl; unfold mscr at q; omega) (by omega) (by omega) (by omega)
theorem fF_vy (h : fF m B C) (h1 : 20 ≤ n) (h2 : n < 50) (h3 : m + 6 ≤ n ∨ n + 6 ≤ m) : vyN C n = vyN B n := vyN_eq (fF_n h h1 h2 (by omega)) (fun k z a b => fF_r h h1 h2 h3 a (by omega) z)
theorem fF_RV (h : fF m B C) (h1 : 20 ≤ n) (h2 : n < 50) (h0 : m < 50) (h3 : m + 6 ≤ n ∨ n + 6 ≤ m) (R : RV E B n) : RV E C n := by
  have hm : mo = 58 := rfl
  have hc : co = 0 := rfl
  have e : ∀ j, C.1 n j = B.1 n j := fF_n h h1 h2 (by omega)
  have r1 : ∀ z, C.2.2.2.1 (n + 1) z = B.2.2.2.1 (n + 1) z := fF_r h h1 h2 h3 (by omega) (by omega)
  have r2 : ∀ z, C.2.2.2.1 (n + 2) z = B.2.2.2.1 (n + 2) z := fF_r h h1 h2 h3 (by omega) (by omega)
  have r3 : ∀ z, C.2.2.2.1 (n + 3) z = B.2.2.2.1 (n + 3) z := fF_r h h1 h2 h3 (by omega) (by omega)
  have r4 : ∀ z, C.2.2.2.1 (n + 4) z = B.2.2.2.1 (n + 4) z := fF_r h h1 h2 h3 (by omega) (by omega)
  have r5 : ∀ z, C.2.2.2.1 (n + 5) z = B.2.2.2.1 (n + 5) z := fF_r h h1 h2 h3 (by omega) (by omega)
  have mr : ∀ k z, 6 ≤ k → k ≤ 13 → k ≠ 9 → C.2.2.2.1 (mo + k) z = B.2.2.2.1 (mo + k) z := fun k z a b c => h.2.2.2.1 _ z (fun q => by unfold mscr at q; omega) (by omega) (by omega) (by omega)
  have m6 := fun z => mr 6 z (by omega) (by omega) (by omega)
  have m7 := fun z => mr 7 z (by omega) (by omega) (by omega)
  have m8 := fun z => mr 8 z (by omega) (by omega) (by omega)
  have m10 := fun z => mr 10 z (by omega) (by omega) (by omega)
  have m11 := fun z => mr 11 z (by omega) (by omega) (by omega)
  have m12 := fun z => mr 12 z (by omega) (by omega) (by omega)
  have m13 := fun z => mr 13 z (by omega) (by omega) (by omega)
  have hr := h.2.2.1 co 7 (by omega) (by omega)
  unfold RV VW VR VB at *
  simp only [e, r1, r2, r3, r4, r5, m6, m7, m8, m10, m11, m12, m13, hr]
  exact R
theorem sc_PL (h : sc B C) (h1 : 20 ≤ n) (h2 : n < 50) (P : PL B n) : PL C n := by
  have hm : mo = 58 := rfl
  have hc : co = 0 := rfl
  have ev : vyN C n = vyN B n := vyN_eq (sc_n h (by omega)) (fun k z a b => sc_r h (by omega) z)
  have r : ∀ k z, k < 58 → C.2.2.2.1 k z = B.2.2.2.1 k z := fun k z q => sc_r h (by omega) z
  have i11 := h.1 co 11 (by omega)
  have i4 := sc_n h (show n < 58 by omega) 4
  have i0 := sc_n h (show n < 58 by omega) 0
  have l3 := h.2.1 3 7 (by omega)
  have l10 := h.2.1 10 7 (by omega)
  unfold PL VI FP at *
  simp only [ev, i11, i4, i0, l3, l10, h.2.2.1, r (3 + 1) _ (by omega), r (3 + 2) _ (by omega), r (3 + 3) _ (by omega), r (3 + 4) _ (by omega), r (3 + 5) _ (by omega), r (3 + 6) _ (by omega), r (10 + 6) _ (by omega)]
  exact P
theorem sc_FB (h : sc B C) (F : FB E B n m) : FB E C n m := by
  obtain ⟨R, ⟨k1, k2, k3, k4⟩, ⟨n1, n2, m1, m2, nm⟩, P⟩ := F
  exact ⟨sc_rv h n2 R, ⟨k1, k2, k3, by rw [h.2.2.1]; exact k4⟩, ⟨n1, n2, m1, m2, nm⟩, sc_PL h n1 n2 P⟩
theorem rv_VOK (R : RV E B n) (hst : 0 < B.1 n 0) : VOK (vyN B n) := by
  obtain ⟨-, ⟨w0, w1, w2, w3, w4, w5, w6, w7, w8, w9⟩, -, ⟨b1, b2, b3, b4, b5, b6, b7, b8, b9⟩⟩ := R
  have b2 := b2 hst
  refine ⟨⟨b2.1, w1.2⟩, ⟨b2.2.1, w2.2⟩, ⟨b2.2.2.1, w3.2⟩, ⟨b2.2.2.2.1, w4.2⟩, w5, ⟨w6.1, b2.2.2.2.2⟩, w7, w8, w9, b4, fun s s1 s2 => ?_, b6, b7, fun _ _ _ _ _ _ => Or.inl rfl⟩
  have := b5 s s1 s2
  refine ⟨this.1, this.2.1, this.2.2.1, ?_, ?_, this.2.2.2.2.2⟩
  · have := this.2.2.2.1
    exact ⟨this.1, by show B.2.2.2.1 (n + 2) (s * 6 + 3) ≤ 10; omega⟩
  · have := this.2.2.2.2.1
    exact ⟨this.1, by show B.2.2.2.1 (n + 2) (s * 6 + 4) ≤ 10; omega⟩
theorem rv_MV (R : RV E B n) (hst : 0 < B.1 n 0) (f3 : B.1 mo 33 = 0) (f4 : B.1 mo 34 = 0) (f5 : B.1 mo 35 = 0) (f6 : B.1 mo 36 = 0) (f7 : B.1 mo 37 = 0) (f8 : B.1 mo 38 = 0) : MV B (vyN B n) := by
  have hV := rv_VOK R hst
  have h6 := hV.2.2.2.2.2.1
  refine ⟨⟨vr_h0 R, vr_h1 R, vr_h2 R, vr_h3 R, vr_h6 R, vr_h7 R, vr_h8 R⟩, Or.inl ⟨f3, vr_h4 R⟩, ⟨by omega, ?_⟩, fun l h a1 a2 a3 a4 => Or.inl ⟨f4, vr_w R a1 a2 a3 a4⟩, fun s k a1 a2 a3 a4 => ?_, fun i k a1 a2 a3 a4 => vr_d R a1 a2 a3 a4, fun s h a1 a2 a3 a4 => vr_a R a1 a2 a3 a4, fun l h a1 a2 a3 a4 => Or.inl ⟨f5, rfl⟩, rv_mw R⟩
  · rw [vr_h5 R, vr_h2 R, f6]
    have h6' : B.1 n 6 < B.1 n 3 := h6.2
    rw [if_pos (by omega)]
    show B.1 n 6 = _
    omega
  · rw [vr_s R a1 a2 a3 a4, f7, f8]
    show B.2.2.2.1 (n + 2) (s * 6 + k) + _ = B.2.2.2.1 (n + 2) (s * 6 + k)
    repeat' split
    all_goals omega
def plnM (B : Bk) : Bk := wI (wI (wI (wI (wI (wI B mo 33 0) mo 34 0) mo 35 0) mo 36 0) mo 37 0) mo 38 0
theorem plnM_sc : sc B (plnM B) := by
  unfold plnM
  exact sc_tr (sc_tr (sc_tr (sc_tr (sc_tr (sc_I (by unfold msv; omega)) (sc_I (by unfold msv; omega))) (sc_I (by unfold msv; omega))) (sc_I (by unfold msv; omega))) (sc_I (by unfold msv; omega))) (sc_I (by unfold msv; omega))
theorem plnM_1 {j : Nat} : (plnM B).1 mo j = if 33 ≤ j ∧ j ≤ 38 then 0 else B.1 mo j := by
  unfold plnM
  simp only [wI_1, true_and]
  repeat' split
  all_goals first | rfl | omega
theorem m_plainly (rm : mKd E mo) : fX9_plainly (E.1 + mo) (St E B) = some (St E (plnM B)) := by
  simp only [fX9_plainly, c9 rm.1, some_bind, p9_33 rm.1 (Or.inl rfl), p9_34 rm.1 (Or.inl rfl), p9_35 rm.1 (Or.inl rfl), p9_36 rm.1, p9_37 rm.1, p9_38 rm.1, plnM]
theorem m_asTold (F : FB E B n m) (hst : 0 < B.1 n 0) : ∃ C, fX9_asTold (E.1 + mo) (St E B) = some (St E C) ∧ sc B C ∧ FQ C (vyN B n) (B.1 n 4).toNat ∧ FW C (vyN B n) (fsF (vyN B n) (B.1 n 4).toNat).2 := by
  have rm := F.1.1.2.2.2
  have F1 := sc_FB plnM_sc F
  have ev : vyN (plnM B) n = vyN B n := vyN_eq (sc_n plnM_sc (by have := F.2.2.1; omega)) (fun k z _ _ => rfl)
  have hst1 : 0 < (plnM B).1 n 0 := by rw [sc_n plnM_sc (by have := F.2.2.1; omega)]; exact hst
  have hM := rv_MV F1.1 hst1 (by rw [plnM_1, if_pos (by omega)]) (by rw [plnM_1, if_pos (by omega)]) (by rw [plnM_1, if_pos (by omega)]) (by rw [plnM_1, if_pos (by omega)]) (by rw [plnM_1, if_pos (by omega)]) (by rw [plnM_1, if_pos (by omega)])
  rw [ev] at hM
  obtain ⟨C, e1, c1, c2, c3⟩ := m_goes rm (rv_VOK F.1 hst) hM
  refine ⟨C, ?_, sc_tr plnM_sc (GF_sc c1), c2, c3⟩
  simp only [fX9_asTold, c9 rm.1, some_bind, m_plainly rm, e1]
theorem guB_0 {x : Int} (h : 0 ≤ x) : guB 0 x = 0 := by
  unfold guB
  exact bI_f (by omega)
theorem itG_0 {x : Int} : ∀ k, itG 0 x k = x := by
  intro k
  induction k with
  | zero => rfl
  | succ k ih =>
    show nx 0 (itG 0 x k) = x
    unfold nx
    rw [if_neg (by omega)]
    exact ih
theorem GU_0 {V : Vy} {x : Int} {a : Nat} (x0 : 0 ≤ x) (x1 : x < 2147483648) (hg : ∀ l h, V.2.2.2.2.2 l h = 0) : GU V 0 (fun _ => x) a := fun h _ _ => ⟨⟨x0, x1⟩, (itG_0 _).symm, hg _ _, fun l _ _ => by rw [hg, itG_0, guB_0 x0]⟩
theorem s8_flown (F : FB E B n m) (hst : 0 < B.1 n 0) : ∃ C, fX8_flown (E.1 + co) (St E B) = some (E.1 + 3, St E C) ∧ fF m B C ∧ FB E C n m ∧ vyN C n = vyN B n ∧ FP C 3 (vyN B n) 0 (B.1 n 4).toNat ∧ C.2.2.1 3 6 = some n := by
  have hm : mo = 58 := rfl
  have hc : co = 0 := rfl
  obtain ⟨R, ⟨k1, k2, k3, k4⟩, ⟨n1, n2, m1, m2, nm⟩, P⟩ := F
  have hV := rv_VOK R hst
  have rc := R.1.1
  have rn := R.1.2.1
  have rk := R.1.2.2.1
  obtain ⟨P1, P2, P3⟩ := P
  have e3 : gR (St E B) (E.1 + co) 8 2 = some (E.1 + 3) := g8_2 rc
  by_cases q : B.1 co 11 = 0
  · obtain ⟨D, d1, d2, d3⟩ := f7_begin (B := B) (p := 3) (o := 0) (x := 0) k1 rk (by omega) hV vyN_VM ⟨by omega, by omega⟩
    have hd6 : D.2.2.1 3 6 = some n := by
      rw [d2.2.2.1]
      show (if 3 = 3 ∧ 6 = 6 then some n else B.2.2.1 3 6) = some n
      rw [if_pos ⟨rfl, rfl⟩]
    have hMs : VM (sgB B 3 n (jI 0) 0) n (vyN B n) := sg_VM vyN_VM (by omega)
    have hMD := FF_VM (F2_FF d2) hMs (by omega)
    have di : ∀ d j, ¬ (d = 3 ∧ j = 8) → D.1 d j = B.1 d j := fun d j w => by
      rw [d2.1]
      show (if d = 3 ∧ j = 8 then 0 else B.1 d j) = _
      rw [if_neg w]
    have dl : ∀ d j, ¬ (d = 3 ∧ j = 7) → D.2.1 d j = B.2.1 d j := fun d j w => by
      rw [d2.2.1]
      show (if d = 3 ∧ j = 7 then jI 0 else B.2.1 d j) = _
      rw [if_neg w]
    have dr : ∀ d j, ¬ (d = 3 ∧ j = 6) → D.2.2.1 d j = B.2.2.1 d j := fun d j w => by
      rw [d2.2.2.1]
      show (if d = 3 ∧ j = 6 then some n else B.2.2.1 d j) = _
      rw [if_neg w]
    have d8 : D.1 3 8 = 0 := by
      rw [d2.1]
      show (if 3 = 3 ∧ 8 = 8 then 0 else B.1 3 8) = (0 : Int)
      rw [if_pos ⟨rfl, rfl⟩]
    have d7 : D.2.1 3 7 = jI 0 := by
      rw [d2.2.1]
      show (if 3 = 3 ∧ 7 = 7 then jI 0 else B.2.1 3 7) = jI 0
      rw [if_pos ⟨rfl, rfl⟩]
    have d0 : D.2.2.2.1 (3 + 6) 0 = 0 := by rw [d2.2.2.2.2 _ _ (by omega) (by omega)]; exact P2.1
    obtain ⟨K, f1, f2, f3, f4, f5⟩ := f7_flyFrom (B := D) (p := 3) (d := n) (V := vyN B n) (o := 0) (gX := fun _ => 0) (a := 0) k1 hd6 rk (by omega) hV hMD (by rw [di _ _ (by omega)]; exact R.2.1.1) (by have := hV.2.2.2.1; omega) d8 (by omega) (by omega) d7 d0 (GU_0 (by omega) (by omega) (fun _ _ => rfl)) d3
    have f5' : FP K 3 (vyN B n) 0 (B.1 n 4).toNat := f5
    have kw : ∀ d j, (wI K co 11 1).1 d j = if d = co ∧ j = 11 then 1 else K.1 d j := fun d j => wI_1
    have ff : fF m B (wI K co 11 1) := by
      refine ⟨fun d j a b c e f => ?_, fun d j a b c => ?_, fun d j a b => ?_, fun d z a b c e => ?_, fun d z a => ?_⟩
      · rw [kw, if_neg (fun w => a w.1 w.2), f2.1, di _ _ (fun w => b w.1)]
      · show K.2.1 d j = _
        rw [f2.2.2.2.1 d j (fun w => a w.1), dl _ _ (fun w => a w.1)]
      · show K.2.2.1 d j = _
        rw [f2.2.1, dr _ _ a]
      · show K.2.2.2.1 d z = _
        rw [f2.2.2.2.2 d z (by omega), d2.2.2.2.2 d z (by omega) (by omega)]
        rfl
      · show K.2.2.2.2 d z = _
        rw [f2.2.2.1, d2.2.2.2.1]
        rfl
    have ev := fF_vy ff n1 n2 nm
    have k6 : (wI K co 11 1).2.2.1 3 6 = some n := by
      show K.2.2.1 3 6 = _
      rw [f2.2.1]; exact hd6
    refine ⟨wI K co 11 1, ?_, ff, ⟨fF_RV ff n1 n2 m2 nm R, ⟨k1, k2, k3, by rw [ff.2.2.1 co 8 (by omega) (by omega)]; exact k4⟩, ⟨n1, n2, m1, m2, nm⟩, Or.inr ⟨by rw [kw, if_pos ⟨rfl, rfl⟩], by rw [fF_n ff n1 n2 (by omega)]; exact hst, k6, ?_⟩, ⟨f3, 0, by omega, by omega, f4⟩, ?_⟩, ev, f5', k6⟩
    · have eD : gR (St E D) (E.1 + co) 8 2 = some (E.1 + 3) := g8_2 rc
      have eK : gR (St E (wI K co 11 1)) (E.1 + co) 8 2 = some (E.1 + 3) := g8_2 rc
      simp only [fX8_flown, fX8_flown_b33, c8 rc, g8_11 rc, some_bind, q, e3, g8_7 rc rn, d1, eD]
      rw [if_pos (show iI 0 = 0 from rfl), show iI 0 = iI ((0 : Nat) : Int) from rfl, f1, some_bind, p8_11 rc (Or.inr rfl), some_bind, eK, some_bind]
    · rw [ev, fF_n ff n1 n2 (by omega)]
      exact f5'
    · refine ⟨?_, ?_⟩
      · show K.2.2.2.1 (10 + 6) 0 = 0
        rw [f2.2.2.2.2 _ _ (by omega), d2.2.2.2.2 _ _ (by omega) (by omega)]
        exact P3.1
      · obtain ⟨x, x0, x1, x2⟩ := P3.2
        refine ⟨x, x0, x1, ?_⟩
        show K.2.1 10 7 = _
        rw [f2.2.2.2.1 _ _ (by omega), dl _ _ (by omega)]
        exact x2
  · rcases P1 with P1 | P1
    · exact absurd P1 q
    · refine ⟨B, ?_, fF_rfl, ⟨R, ⟨k1, k2, k3, k4⟩, ⟨n1, n2, m1, m2, nm⟩, Or.inr P1, P2, P3⟩, rfl, P1.2.2.2, P1.2.2.1⟩
      simp only [fX8_flown, fX8_flown_b33, c8 rc, g8_11 rc, some_bind, P1.1, e3]
      rw [if_neg (show ¬ iI 1 = 0 by decide)]
end FO
