/-! best -/
def bsF (V : Vy) (s h : Int) : Int → Int × Int → Int × Int := fun a p => if p.2 < mnF (vyA V s h a) (V.1 8).toNat - mnF V (V.1 8).toNat then (1000 * s + 10 * h + a, mnF (vyA V s h a) (V.1 8).toNat - mnF V (V.1 8).toNat) else p
def bsH (V : Vy) (s : Int) : Int → Int × Int → Int × Int := fun h p => fo (bsF V s h) p 3
def bsS (V : Vy) : Int → Int × Int → Int × Int := fun s p => fo (bsH V s) p (V.1 4).toNat
def bOK (p : Int × Int) : Prop := 0 ≤ p.2 ∧ p.2 ≤ 9504
section BE
variable {E : Ev} {B C : Bk} {n m : Nat} {V : Vy}
theorem mnA_b (hV : VOK V) {s h a : Int} (a0 : 0 ≤ a) (a1 : a ≤ 2) : 0 ≤ mnF (vyA V s h a) (V.1 8).toNat ∧ mnF (vyA V s h a) (V.1 8).toNat ≤ 9504 := by
  have b8 := hV.2.2.2.2.2.2.2.1
  have := mnF_b (vyA_ok (s := s) (h := h) hV a0 a1) (V.1 8).toNat (by show (((V.1 8).toNat : Nat) : Int) ≤ V.1 8; omega)
  omega
theorem mn_b (hV : VOK V) : 0 ≤ mnF V (V.1 8).toNat ∧ mnF V (V.1 8).toNat ≤ 9504 := by
  have b8 := hV.2.2.2.2.2.2.2.1
  have := mnF_b hV (V.1 8).toNat (by omega)
  omega
theorem bsF_ok (hV : VOK V) {s h a : Int} {p : Int × Int} (a0 : 0 ≤ a) (a1 : a ≤ 2) (hp : bOK p) : bOK (bsF V s h a p) := by
  have b1 := mnA_b hV (s := s) (h := h) a0 a1
  have b2 := mn_b hV
  unfold bsF
  unfold bOK at *
  by_cases q : p.2 < mnF (vyA V s h a) (V.1 8).toNat - mnF V (V.1 8).toNat
  · rw [if_pos q]
    constructor
    · show 0 ≤ mnF (vyA V s h a) (V.1 8).toNat - mnF V (V.1 8).toNat
      omega
    · show mnF (vyA V s h a) (V.1 8).toNat - mnF V (V.1 8).toNat ≤ 9504
      omega
  · rw [if_neg q]
    exact hp
theorem bsF3_ok (hV : VOK V) {s h : Int} {p : Int × Int} (hp : bOK p) : ∀ k : Nat, k ≤ 3 → bOK (fo (bsF V s h) p k) := by
  intro k
  induction k with
  | zero => intro _; exact hp
  | succ k ih => intro hk; exact bsF_ok hV (by omega) (by omega) (ih (by omega))
theorem bsH_ok (hV : VOK V) {s : Int} {p : Int × Int} (hp : bOK p) : ∀ k : Nat, bOK (fo (bsH V s) p k) := by
  intro k
  induction k with
  | zero => exact hp
  | succ k ih =>
    have e : fo (bsH V s) p (k + 1) = bsH V s k (fo (bsH V s) p k) := rfl
    rw [e]
    generalize fo (bsH V s) p k = q at ih ⊢
    unfold bsH
    exact bsF3_ok (s := s) (h := (k : Int)) (p := q) hV ih 3 (Nat.le_refl 3)
theorem bsS_ok (hV : VOK V) {p : Int × Int} (hp : bOK p) : ∀ k : Nat, bOK (fo (bsS V) p k) := by
  intro k
  induction k with
  | zero => exact hp
  | succ k ih =>
    have e : fo (bsS V) p (k + 1) = bsS V k (fo (bsS V) p k) := rfl
    rw [e]
    generalize fo (bsS V) p k = q at ih ⊢
    unfold bsS
    exact bsH_ok (s := (k : Int)) (p := q) hV ih _
/-- an act that is the plan's own brings nothing -/
theorem mnA_same (hV : VOK V) {s h : Int} : mnF (vyA V s h (V.2.2.2.2.1 s h)) (V.1 8).toNat = mnF V (V.1 8).toNat := by
  refine mnF_ag (V' := vyA V s h (V.2.2.2.2.1 s h)) hV ⟨fun _ _ _ => rfl, fun _ _ _ _ _ _ => rfl, fun _ _ _ _ _ _ => rfl, fun _ _ _ _ _ _ => rfl, fun s' h' _ _ _ _ => ?_, fun _ _ _ _ _ _ => rfl⟩
  show (if s' = s ∧ h' = h then V.2.2.2.2.1 s h else V.2.2.2.2.1 s' h') = _
  by_cases q : s' = s ∧ h' = h
  · rw [if_pos q, q.1, q.2]
  · rw [if_neg q]
theorem c_best66 {s h : Nat} {p : Int × Int} {L : Bk} (G : GB E B n m L) (hst : 0 < B.1 n 0) (hV : VOK (vyN B n)) (rc : KD E co 8 13) (rk : VK E n) (s1 : (s : Int) < B.1 n 8) (h1 : (h : Int) < B.1 n 4) (hp : bOK p) : ∃ r, iter (fX8_best_l66 (E.1 + co) (E.1 + 3) (iI s) (iI h)) FU (iI p.1, iI p.2, iI 0, St E L) = some r ∧ ∃ K, r = (iI (fo (bsF (vyN B n) s h) p 3).1, iI (fo (bsF (vyN B n) s h) p 3).2, St E K) ∧ GB E B n m K := by
  have b4 : 1 ≤ B.1 n 4 ∧ B.1 n 4 ≤ 24 := hV.2.2.2.1
  have b8 : 0 ≤ B.1 n 8 ∧ B.1 n 8 ≤ 4 := hV.2.2.2.2.2.2.2.1
  have ba := hV.2.2.2.2.2.2.2.2.2.2.2.2.1 s h (by omega) s1 (by omega) h1
  refine iter_acc (fun j w => ∃ K, w = (iI (fo (bsF (vyN B n) s h) p j).1, iI (fo (bsF (vyN B n) s h) p j).2, iI j, St E K) ∧ GB E B n m K) 3 _ (fun j w hj hw => ?_) (fun w hw => ?_) (N := FU) (by have := FU_big (n := 3) (by omega); omega) ⟨L, rfl, G⟩
  · obtain ⟨K, rfl, GK⟩ := hw
    have ok := bsF3_ok hV (s := s) (h := h) hp j (by omega)
    have ok2 := mnA_b hV (s := s) (h := h) (a := j) (by omega) (by omega)
    have ok3 := mn_b hV
    have act : K.2.2.2.1 (n + 4) ((s : Int) * 24 + h) = (vyN B n).2.2.2.2.1 s h := congrFun (congrFun (congrArg (fun V : Vy => V.2.2.2.2.1) GK.2.1) s) h
    have rnK := GK.1.1.1.2.1
    have e1 : fo (bsF (vyN B n) s h) p (j + 1) = bsF (vyN B n) s h j (fo (bsF (vyN B n) s h) p j) := rfl
    have m8 : (vyN B n).1 8 = B.1 n 8 := rfl
    generalize fo (bsF (vyN B n) s h) p j = q at ok e1 ⊢
    unfold bOK at ok
    by_cases c : (j : Int) = (vyN B n).2.2.2.2.1 s h
    · have same := mnA_same hV (s := s) (h := h)
      rw [← c] at same
      have e2 : bsF (vyN B n) s h j q = q := by
        unfold bsF
        rw [same, if_neg (by omega)]
      refine ⟨(iI q.1, iI q.2, iI ((j + 1 : Nat) : Int), St E K), ?_, K, by rw [e1, e2], GK⟩
      simp (disch := omega) only [fX8_best_l66, fX8_best_b103, fX8_best_b130, iI_le, g8_7 rc rnK, some_bind, s_actAt rk, act, iI_eq, iI_add]
      rw [if_neg (by omega), if_pos c, if_pos (by omega)]
      rfl
    · obtain ⟨K', g1, g2⟩ := GB_gain (s := s) (h := h) (a := j) GK hst s1 h1 (by omega) (by omega)
      refine ⟨(iI (bsF (vyN B n) s h j q).1, iI (bsF (vyN B n) s h j q).2, iI ((j + 1 : Nat) : Int), St E K'), ?_, K', by rw [e1], g2⟩
      simp (disch := omega) only [fX8_best_l66, fX8_best_b103, fX8_best_b130, iI_le, g8_7 rc rnK, some_bind, s_actAt rk, act, iI_eq, g1, lt_, iI_mul, iI_add]
      rw [if_neg (by omega), if_neg c]
      unfold bsF
      rw [m8]
      rw [m8] at ok2 ok3
      have hle : (iI (mnF (vyA (vyN B n) s h j) (B.1 n 8).toNat - mnF (vyN B n) (B.1 n 8).toNat) ≤ iI q.2) ↔ (mnF (vyA (vyN B n) s h j) (B.1 n 8).toNat - mnF (vyN B n) (B.1 n 8).toNat ≤ q.2) := iI_le (by omega) (by omega) (by omega) (by omega)
      by_cases c2 : q.2 < mnF (vyA (vyN B n) s h j) (B.1 n 8).toNat - mnF (vyN B n) (B.1 n 8).toNat
      · rw [if_neg (fun w => by have := hle.mp w; omega), if_pos c2]
        rfl
      · rw [if_pos (hle.mpr (by omega)), if_neg c2]
        rfl
  · obtain ⟨K, rfl, GK⟩ := hw
    refine ⟨_, ?_, K, rfl, GK⟩
    simp (disch := omega) only [fX8_best_l66, iI_le]
    rw [if_pos (by omega)]
theorem c_best51 {s : Nat} {p : Int × Int} {L : Bk} (G : GB E B n m L) (hst : 0 < B.1 n 0) (hV : VOK (vyN B n)) (rc : KD E co 8 13) (rk : VK E n) (s1 : (s : Int) < B.1 n 8) (hp : bOK p) : ∃ r, iter (fX8_best_l51 (E.1 + co) (E.1 + 3) (iI s)) FU (iI p.1, iI p.2, iI 0, St E L) = some r ∧ ∃ K, r = (iI (fo (bsH (vyN B n) s) p (B.1 n 4).toNat).1, iI (fo (bsH (vyN B n) s) p (B.1 n 4).toNat).2, St E K) ∧ GB E B n m K := by
  have b4 : 1 ≤ B.1 n 4 ∧ B.1 n 4 ≤ 24 := hV.2.2.2.1
  refine iter_acc (fun j w => ∃ K, w = (iI (fo (bsH (vyN B n) s) p j).1, iI (fo (bsH (vyN B n) s) p j).2, iI j, St E K) ∧ GB E B n m K) (B.1 n 4).toNat _ (fun j w hj hw => ?_) (fun w hw => ?_) (N := FU) (FUh b4.2) ⟨L, rfl, G⟩
  · obtain ⟨K, rfl, GK⟩ := hw
    obtain ⟨r, e1, K', e2, g2⟩ := c_best66 (s := s) (h := j) (p := fo (bsH (vyN B n) s) p j) GK hst hV rc rk s1 (by omega) (bsH_ok hV hp j)
    refine ⟨(iI (fo (bsH (vyN B n) s) p (j + 1)).1, iI (fo (bsH (vyN B n) s) p (j + 1)).2, iI ((j + 1 : Nat) : Int), St E K'), ?_, K', rfl, g2⟩
    rw [e2] at e1
    have n4 := GK.2.2.1 4
    simp (disch := omega) only [fX8_best_l51, g8_7 rc GK.1.1.1.2.1, g6_4 rk.1, n4, some_bind, iI_le, e1, iI_add]
    rw [if_neg (by omega)]
    rfl
  · obtain ⟨K, rfl, GK⟩ := hw
    have n4 := GK.2.2.1 4
    refine ⟨_, ?_, K, rfl, GK⟩
    simp (disch := omega) only [fX8_best_l51, g8_7 rc GK.1.1.1.2.1, g6_4 rk.1, n4, some_bind, iI_le]
    rw [if_pos (by omega)]
theorem c_best36 {p : Int × Int} {L : Bk} (G : GB E B n m L) (hst : 0 < B.1 n 0) (hV : VOK (vyN B n)) (rc : KD E co 8 13) (rk : VK E n) (hp : bOK p) : ∃ r, iter (fX8_best_l36 (E.1 + co) (E.1 + 3)) FU (iI p.1, iI p.2, iI 0, St E L) = some r ∧ ∃ K, r = (iI (fo (bsS (vyN B n)) p (B.1 n 8).toNat).1, St E K) ∧ GB E B n m K := by
  have b8 : 0 ≤ B.1 n 8 ∧ B.1 n 8 ≤ 4 := hV.2.2.2.2.2.2.2.1
  refine iter_acc (fun j w => ∃ K, w = (iI (fo (bsS (vyN B n)) p j).1, iI (fo (bsS (vyN B n)) p j).2, iI j, St E K) ∧ GB E B n m K) (B.1 n 8).toNat _ (fun j w hj hw => ?_) (fun w hw => ?_) (N := FU) (FUh (by omega)) ⟨L, rfl, G⟩
  · obtain ⟨K, rfl, GK⟩ := hw
    obtain ⟨r, e1, K', e2, g2⟩ := c_best51 (s := j) (p := fo (bsS (vyN B n)) p j) GK hst hV rc rk (by omega) (bsS_ok hV hp j)
    refine ⟨(iI (fo (bsS (vyN B n)) p (j + 1)).1, iI (fo (bsS (vyN B n)) p (j + 1)).2, iI ((j + 1 : Nat) : Int), St E K'), ?_, K', rfl, g2⟩
    rw [e2] at e1
    have n8 := GK.2.2.1 8
    simp (disch := omega) only [fX8_best_l36, g8_7 rc GK.1.1.1.2.1, g6_8 rk.1, n8, some_bind, iI_le, e1, iI_add]
    rw [if_neg (by omega)]
    rfl
  · obtain ⟨K, rfl, GK⟩ := hw
    have n8 := GK.2.2.1 8
    refine ⟨_, ?_, K, rfl, GK⟩
    simp (disch := omega) only [fX8_best_l36, g8_7 rc GK.1.1.1.2.1, g6_8 rk.1, n8, some_bind, iI_le]
    rw [if_pos (by omega)]
/-- the reference's part of it -/
def HB (E : Ev) (B : Bk) (n m : Nat) (L K : Bk) : Prop := FB E K n m ∧ vyN K n = vyN B n ∧ (∀ j, K.1 n j = B.1 n j) ∧ sc L K
theorem HB_by {L K : Bk} {s h : Nat} {a : Int} (G : HB E B n m L K) (hst : 0 < B.1 n 0) (s1 : (s : Int) < B.1 n 8) (h1 : (h : Int) < B.1 n 4) (a0 : 0 ≤ a) (a1 : a ≤ 2) : ∃ K', fX9_moneyBy (E.1 + mo) (iI s) (iI h) (iI a) (St E K) = some (iI (mnF (vyA (vyN B n) s h a) (B.1 n 8).toNat), St E K') ∧ HB E B n m L K' := by
  obtain ⟨F, ev, en, ss⟩ := G
  obtain ⟨K', k1, k2⟩ := m_moneyBy (s := s) (h := h) (a := a) F (by rw [en]; exact hst) (by rw [en]; exact s1) (by rw [en]; exact h1) a0 a1
  rw [ev, en] at k1
  have hn := F.2.2.1.2.1
  have hmo : mo = 58 := rfl
  exact ⟨K', k1, sc_FB k2 F, by rw [← ev]; exact vyN_eq (sc_n k2 (by omega)) (fun k z a b => sc_r k2 (by omega) z), fun j => by rw [sc_n k2 (by omega), en], sc_tr ss k2⟩
theorem r_best52 {s h : Nat} {p : Int × Int} {L K : Bk} (G : HB E B n m L K) (hst : 0 < B.1 n 0) (hV : VOK (vyN B n)) (s1 : (s : Int) < B.1 n 8) (h1 : (h : Int) < B.1 n 4) (hp : bOK p) : ∃ r, iter (fX9_best_l52 (E.1 + mo) (iI s) (iI h)) FU (iI p.1, iI (mnF (vyN B n) (B.1 n 8).toNat + p.2), iI 0, St E K) = some r ∧ ∃ K', r = (iI (fo (bsF (vyN B n) s h) p 3).1, iI (mnF (vyN B n) (B.1 n 8).toNat + (fo (bsF (vyN B n) s h) p 3).2), St E K') ∧ HB E B n m L K' := by
  refine iter_acc (fun j w => ∃ K, w = (iI (fo (bsF (vyN B n) s h) p j).1, iI (mnF (vyN B n) (B.1 n 8).toNat + (fo (bsF (vyN B n) s h) p j).2), iI j, St E K) ∧ HB E B n m L K) 3 _ (fun j w hj hw => ?_) (fun w hw => ?_) (N := FU) (by have := FU_big (n := 3) (by omega); omega) ⟨K, rfl, G⟩
  · obtain ⟨K, rfl, GK⟩ := hw
    have ok := bsF3_ok hV (s := s) (h := h) hp j (by omega)
    have ok2 := mnA_b hV (s := s) (h := h) (a := j) (by omega) (by omega)
    have ok3 := mn_b hV
    have m8 : (vyN B n).1 8 = B.1 n 8 := rfl
    rw [m8] at ok2 ok3
    obtain ⟨K', g1, g2⟩ := HB_by (s := s) (h := h) (a := j) GK hst s1 h1 (by omega) (by omega)
    have e1 : fo (bsF (vyN B n) s h) p (j + 1) = bsF (vyN B n) s h j (fo (bsF (vyN B n) s h) p j) := rfl
    generalize fo (bsF (vyN B n) s h) p j = q at ok e1 ⊢
    unfold bOK at ok
    refine ⟨(iI (bsF (vyN B n) s h j q).1, iI (mnF (vyN B n) (B.1 n 8).toNat + (bsF (vyN B n) s h j q).2), iI ((j + 1 : Nat) : Int), St E K'), ?_, K', by rw [e1], g2⟩
    simp (disch := omega) only [fX9_best_l52, fX9_best_b96, iI_le, some_bind, g1, iI_lt, lt_, iI_mul, iI_add]
    rw [if_neg (by omega)]
    unfold bsF
    rw [m8]
    by_cases c2 : q.2 < mnF (vyA (vyN B n) s h j) (B.1 n 8).toNat - mnF (vyN B n) (B.1 n 8).toNat
    · rw [if_pos (by omega), if_pos c2]
      show some (Sum.inl (_, iI (mnF (vyA (vyN B n) s h j) (B.1 n 8).toNat), _, _)) = some (Sum.inl (_, iI (mnF (vyN B n) (B.1 n 8).toNat + (mnF (vyA (vyN B n) s h j) (B.1 n 8).toNat - mnF (vyN B n) (B.1 n 8).toNat)), _, _))
      rw [show mnF (vyN B n) (B.1 n 8).toNat + (mnF (vyA (vyN B n) s h j) (B.1 n 8).toNat - mnF (vyN B n) (B.1 n 8).toNat) = mnF (vyA (vyN B n) s h j) (B.1 n 8).toNat by omega]
      rfl
    · rw [if_neg (by omega), if_neg c2]
      rfl
  · obtain ⟨K, rfl, GK⟩ := hw
    refine ⟨_, ?_, K, rfl, GK⟩
    simp (disch := omega) only [fX9_best_l52, iI_le]
    rw [if_pos (by omega)]
theorem r_best38 {s : Nat} {p : Int × Int} {L K : Bk} (rm : mKd E mo) (G : HB E B n m L K) (hst : 0 < B.1 n 0) (hV : VOK (vyN B n)) (s1 : (s : Int) < B.1 n 8) (hp : bOK p) : ∃ r, iter (fX9_best_l38 (E.1 + mo) (iI s)) FU (iI p.1, iI (mnF (vyN B n) (B.1 n 8).toNat + p.2), iI 0, St E K) = some r ∧ ∃ K', r = (iI (fo (bsH (vyN B n) s) p (B.1 n 4).toNat).1, iI (mnF (vyN B n) (B.1 n 8).toNat + (fo (bsH (vyN B n) s) p (B.1 n 4).toNat).2), St E K') ∧ HB E B n m L K' := by
  have b4 : 1 ≤ B.1 n 4 ∧ B.1 n 4 ≤ 24 := hV.2.2.2.1
  refine iter_acc (fun j w => ∃ K, w = (iI (fo (bsH (vyN B n) s) p j).1, iI (mnF (vyN B n) (B.1 n 8).toNat + (fo (bsH (vyN B n) s) p j).2), iI j, St E K) ∧ HB E B n m L K) (B.1 n 4).toNat _ (fun j w hj hw => ?_) (fun w hw => ?_) (N := FU) (FUh b4.2) ⟨K, rfl, G⟩
  · obtain ⟨K, rfl, GK⟩ := hw
    obtain ⟨r, e1, K', e2, g2⟩ := r_best52 (s := s) (h := j) (p := fo (bsH (vyN B n) s) p j) GK hst hV s1 (by omega) (bsH_ok hV hp j)
    refine ⟨(iI (fo (bsH (vyN B n) s) p (j + 1)).1, iI (mnF (vyN B n) (B.1 n 8).toNat + (fo (bsH (vyN B n) s) p (j + 1)).2), iI ((j + 1 : Nat) : Int), St E K'), ?_, K', rfl, g2⟩
    rw [e2] at e1
    have h3 : K.2.2.2.1 (mo + 7) 3 = B.1 n 4 := by rw [vr_h3 GK.1.1, GK.2.2.1]
    simp (disch := omega) only [fX9_best_l38, g9_17 rm.1, aI_ok (mk7 rm), h3, some_bind, iI_le, e1, iI_add]
    rw [if_neg (by omega)]
    rfl
  · obtain ⟨K, rfl, GK⟩ := hw
    have h3 : K.2.2.2.1 (mo + 7) 3 = B.1 n 4 := by rw [vr_h3 GK.1.1, GK.2.2.1]
    refine ⟨_, ?_, K, rfl, GK⟩
    simp (disch := omega) only [fX9_best_l38, g9_17 rm.1, aI_ok (mk7 rm), h3, some_bind, iI_le]
    rw [if_pos (by omega)]
theorem r_best24 {p : Int × Int} {L K : Bk} (rm : mKd E mo) (G : HB E B n m L K) (hst : 0 < B.1 n 0) (hV : VOK (vyN B n)) (hp : bOK p) : ∃ r, iter (fX9_best_l24 (E.1 + mo)) FU (iI p.1, iI (mnF (vyN B n) (B.1 n 8).toNat + p.2), iI 0, St E K) = some r ∧ ∃ K', r = (iI (fo (bsS (vyN B n)) p (B.1 n 8).toNat).1, St E K') ∧ HB E B n m L K' := by
  have b8 : 0 ≤ B.1 n 8 ∧ B.1 n 8 ≤ 4 := hV.2.2.2.2.2.2.2.1
  refine iter_acc (fun j w => ∃ K, w = (iI (fo (bsS (vyN B n)) p j).1, iI (mnF (vyN B n) (B.1 n 8).toNat + (fo (bsS (vyN B n)) p j).2), iI j, St E K) ∧ HB E B n m L K) (B.1 n 8).toNat _ (fun j w hj hw => ?_) (fun w hw => ?_) (N := FU) (FUh (by omega)) ⟨K, rfl, G⟩
  · obtain ⟨K, rfl, GK⟩ := hw
    obtain ⟨r, e1, K', e2, g2⟩ := r_best38 (s := j) (p := fo (bsS (vyN B n)) p j) rm GK hst hV (by omega) (bsS_ok hV hp j)
    refine ⟨(iI (fo (bsS (vyN B n)) p (j + 1)).1, iI (mnF (vyN B n) (B.1 n 8).toNat + (fo (bsS (vyN B n)) p (j + 1)).2), iI ((j + 1 : Nat) : Int), St E K'), ?_, K', rfl, g2⟩
    rw [e2] at e1
    have h7 : K.2.2.2.1 (mo + 7) 7 = B.1 n 8 := by rw [vr_h7 GK.1.1, GK.2.2.1]
    simp (disch := omega) only [fX9_best_l24, g9_17 rm.1, aI_ok (mk7 rm), h7, some_bind, iI_le, e1, iI_add]
    rw [if_neg (by omega)]
    rfl
  · obtain ⟨K, rfl, GK⟩ := hw
    have h7 : K.2.2.2.1 (mo + 7) 7 = B.1 n 8 := by rw [vr_h7 GK.1.1, GK.2.2.1]
    refine ⟨_, ?_, K, rfl, GK⟩
    simp (disch := omega) only [fX9_best_l24, g9_17 rm.1, aI_ok (mk7 rm), h7, some_bind, iI_le]
    rw [if_pos (by omega)]
theorem o_best (F : FB E B n m) : QF E B n m (fX8_best (E.1 + co)) (fX9_best (E.1 + mo)) := by
  have rc := F.1.1.1
  have rn := F.1.1.2.1
  have rk := F.1.1.2.2.1
  have rm := F.1.1.2.2.2
  have k3 := F.2.1.2.2.1
  obtain ⟨n1, n2, m1, m2, nm⟩ := F.2.2.1
  have hc : co = 0 := rfl
  have rf : ∀ C, FB E C n m → (∀ j, C.1 n j = B.1 n j) → fX9_best (E.1 + mo) (St E C) = if 0 < B.1 n 0 then (fX9_moneyPlain (E.1 + mo) (St E (wI C mo 0 0))).bind (fun r4 => (iter (fX9_best_l24 (E.1 + mo)) FU (iI (-1), r4.1, iI 0, r4.2)).bind fun r17 => some (r17.1, r17.2)) else some (iI (-2), St E (wI C mo 0 0)) := fun C FC cn => by
    simp only [fX9_best, c9 rm.1, p9_0 rm.1, some_bind, mg_isValley FC, iI_0, ib, cn]
  by_cases hst : 0 < B.1 n 0
  · have hV := rv_VOK F.1 hst
    obtain ⟨C, f1, f2, f3, f4, f5, f6, f7, f8⟩ := s8_flown2 F hst
    obtain ⟨F0, ev0, en0⟩ := TM_FB f3 (TM_cy nm) (VI_cy f3.2.2.2.2.2 m1 nm)
    have cn : ∀ j, C.1 n j = B.1 n j := fun j => fF_n f2 n1 n2 (by omega) j
    have GC : GB E B n m (cyV C m n) := ⟨F0, by rw [ev0, f4], fun j => by rw [en0, cn], SP_cy nm, TM_FP m1 (TM_cy nm) f5, by rw [(TM_cy (B := C) nm).2.2.1 3 6 (by omega)]; exact f6, fF_tr f2 (TM_fF (TM_cy nm))⟩
    obtain ⟨r, e1, L, e2, gL⟩ := c_best36 (p := (-1, 0)) GC hst hV rc rk ⟨by show (0 : Int) ≤ 0; omega, by show (0 : Int) ≤ 9504; omega⟩
    have s0 : sc L (wI L mo 0 0) := sc_I (by unfold msv; omega)
    have Fw := sc_FB s0 gL.1
    have wn : ∀ j, (wI L mo 0 0).1 n j = B.1 n j := fun j => by rw [w0n (by omega), gL.2.2.1]
    have evw : vyN (wI L mo 0 0) n = vyN B n := by rw [← gL.2.1]; exact vyN_eq (fun j => w0n (by omega) j) (fun _ _ _ _ => rfl)
    obtain ⟨K, p1, p2⟩ := m_moneyPlain Fw (by rw [wn]; exact hst)
    rw [evw, wn] at p1
    have hmo : mo = 58 := rfl
    have HK : HB E B n m L K := ⟨sc_FB p2 Fw, by rw [← evw]; exact vyN_eq (sc_n p2 (by omega)) (fun k z a b => sc_r p2 (by omega) z), fun j => by rw [sc_n p2 (by omega), wn], sc_tr s0 p2⟩
    obtain ⟨r2, g1, M, g2, gM⟩ := r_best24 (p := (-1, 0)) rm HK hst hV ⟨by show (0 : Int) ≤ 0; omega, by show (0 : Int) ≤ 9504; omega⟩
    refine ⟨iI (fo (bsS (vyN B n)) (-1, 0) (B.1 n 8).toNat).1, L, M, ?_, ?_, fF_tr gL.2.2.2.2.2.2 (fF_sc gM.2.2.2), gM.1⟩
    · have ks : C.2.2.1 co 8 = some m := f3.2.1.2.2.2
      have kn : C.2.2.1 co 7 = some n := f3.1.1.2.1
      simp only [fX8_best, c8 rc, g8_7 rc rn, s_stands rk F.1.2.1, some_bind, iI_0, ib, f1, g8_8 rc ks, g8_7 rc kn, s_copyFrom k3 rk (show n ≠ m by omega)]
      rw [if_pos hst, e1, some_bind, e2]
    · rw [rf L gL.1 gL.2.2.1, if_pos hst, p1, some_bind]
      have : mnF (vyN B n) (B.1 n 8).toNat + ((-1, 0) : Int × Int).2 = mnF (vyN B n) (B.1 n 8).toNat := by show _ + (0 : Int) = _; omega
      rw [this] at g1
      rw [g1, some_bind, g2]
  · refine QF_no F (v := iI (-2)) ?_ ?_
    · simp only [fX8_best, c8 rc, g8_7 rc rn, s_stands rk F.1.2.1, some_bind, iI_0, ib]
      rw [if_neg hst]
    · rw [rf B F (fun _ => rfl), if_neg hst]
end BE
