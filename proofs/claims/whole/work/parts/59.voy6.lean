/-! what is asked of a voyage -/
section VQ
variable {E : Ev} {C : Bk} {p d : Nat} {V : Vy} {a m : Nat}
theorem q7_fact {s h : Nat} {k : Int} (P : PK E p) (I : FP C p V a m) (hV : VOK V) (s1 : (s : Int) < V.1 8) (h0 : a ≤ h + 1) (h1 : h + 1 ≤ m) (h2 : h < 24) (k0 : 0 ≤ k) (k1 : k < 7) : fX7_factBehind (E.1 + p) (iI s) (iI h) (iI k) (St E C) = some (iI ((fsF V (h + 1)).1 s k), St E C) := by
  have b8 := hV.2.2.2.2.2.2.2.1
  have e := I.1 (h + 1) s k h0 h1 s1 k0 k1
  rw [show ((h + 1 : Nat) : Int) = (h : Int) + 1 by omega] at e
  simp (disch := omega) only [fX7_factBehind, c7 P.1, g7_0 P.1, some_bind, iI_add, f7_page P, aI_ok P.2.1, e]
theorem q7_column {s h : Nat} (P : PK E p) (I : FP C p V a m) (hV : VOK V) (s1 : (s : Int) < V.1 8) (h0 : a ≤ h + 1) (h1 : h + 1 ≤ m) (h2 : h < 24) : fX7_columnBehind (E.1 + p) (iI s) (iI h) (St E C) = some (iI ((fsF V (h + 1)).1 s 1 * 8 + (fsF V (h + 1)).1 s 0), St E C) := by
  simp only [fX7_columnBehind, c7 P.1, some_bind, q7_fact P I hV s1 h0 h1 h2 (by omega : (0 : Int) ≤ 0) (by omega), q7_fact P I hV s1 h0 h1 h2 (by omega : (0 : Int) ≤ 1) (by omega), s_columnOf]
theorem q7_factEnd {s : Nat} {k : Int} (P : PK E p) (hd : C.2.2.1 p 6 = some d) (hk : VK E d) (hV : VOK V) (m4 : C.1 d 4 = V.1 4) (I : FP C p V a (V.1 4).toNat) (ha : a ≤ (V.1 4).toNat) (s1 : (s : Int) < V.1 8) (k0 : 0 ≤ k) (k1 : k < 7) : fX7_factAtEnd (E.1 + p) (iI s) (iI k) (St E C) = some (iI ((fsF V (V.1 4).toNat).1 s k), St E C) := by
  have b4 := hV.2.2.2.1
  obtain ⟨n, hn⟩ : ∃ n : Nat, (V.1 4).toNat = n + 1 := ⟨(V.1 4).toNat - 1, by omega⟩
  have e := q7_fact (h := n) P I hV s1 (by omega) (by omega) (by omega) k0 k1
  simp only [fX7_factAtEnd, c7 P.1, g7_6 P.1 hd, g6_4 hk.1, m4, some_bind, iI_sub]
  rw [show V.1 4 - 1 = (n : Int) by omega, e, hn]
  rfl
theorem q7_columnEnd {s : Nat} (P : PK E p) (hd : C.2.2.1 p 6 = some d) (hk : VK E d) (hV : VOK V) (m4 : C.1 d 4 = V.1 4) (I : FP C p V a (V.1 4).toNat) (ha : a ≤ (V.1 4).toNat) (s1 : (s : Int) < V.1 8) : fX7_columnAtEnd (E.1 + p) (iI s) (St E C) = some (iI ((fsF V (V.1 4).toNat).1 s 1 * 8 + (fsF V (V.1 4).toNat).1 s 0), St E C) := by
  have b4 := hV.2.2.2.1
  obtain ⟨n, hn⟩ : ∃ n : Nat, (V.1 4).toNat = n + 1 := ⟨(V.1 4).toNat - 1, by omega⟩
  have e := q7_column (h := n) P I hV s1 (by omega) (by omega) (by omega)
  simp only [fX7_columnAtEnd, c7 P.1, g7_6 P.1 hd, g6_4 hk.1, m4, some_bind, iI_sub]
  rw [show V.1 4 - 1 = (n : Int) by omega, e, hn]
  rfl
theorem q7_wanted {i : Int} (P : PK E p) (hd : C.2.2.1 p 6 = some d) (hk : VK E d) (hV : VOK V) (m4 : C.1 d 4 = V.1 4) (I : FP C p V a (V.1 4).toNat) (ha : a ≤ (V.1 4).toNat) (i0 : 0 ≤ i) (i1 : i < V.1 9) : fX7_wantedAtEnd (E.1 + p) (iI i) (St E C) = some (iI ((fsF V (V.1 4).toNat).2 i), St E C) := by
  have b4 := hV.2.2.2.1
  have b9 := hV.2.2.2.2.2.2.2.2.1
  have e := I.2.1 (V.1 4).toNat i ha (Nat.le_refl _) i0 i1
  rw [show (((V.1 4).toNat : Nat) : Int) = V.1 4 by omega] at e
  simp (disch := omega) only [fX7_wantedAtEnd, c7 P.1, g7_1 P.1, g7_6 P.1 hd, g6_4 hk.1, m4, some_bind, iI_mul, iI_add, aI_ok P.2.2.1, e]
theorem q7_reason {s h : Nat} (P : PK E p) (I : FP C p V a m) (hV : VOK V) (s1 : (s : Int) < V.1 8) (h0 : a ≤ h) (h1 : h < m) (h2 : h < 24) : fX7_reasonAt (E.1 + p) (iI s) (iI h) (St E C) = some (iI (whyF V h s), St E C) := by
  have b8 := hV.2.2.2.2.2.2.2.1
  have e := (I.2.2 h s h0 h1 s1).1
  simp (disch := omega) only [fX7_reasonAt, c7 P.1, g7_2 P.1, some_bind, iI_mul, iI_add, aI_ok P.2.2.2.1, e]
theorem q7_carried {s h : Nat} (P : PK E p) (I : FP C p V a m) (hV : VOK V) (s1 : (s : Int) < V.1 8) (h0 : a ≤ h) (h1 : h < m) (h2 : h < 24) : fX7_isCarriedAt (E.1 + p) (iI s) (iI h) (St E C) = some (iI (blwF V h s), St E C) := by
  have b8 := hV.2.2.2.2.2.2.2.1
  have e := (I.2.2 h s h0 h1 s1).2.1
  simp (disch := omega) only [fX7_isCarriedAt, c7 P.1, g7_3 P.1, some_bind, iI_mul, iI_add, aZ_ok P.2.2.2.2.1, e]
  unfold blwF
  rw [rZ_b]
  rfl
theorem q7_sale {s h : Nat} (P : PK E p) (I : FP C p V a m) (hV : VOK V) (s1 : (s : Int) < V.1 8) (h0 : a ≤ h) (h1 : h < m) (h2 : h < 24) : fX7_saleDoorAt (E.1 + p) (iI s) (iI h) (St E C) = some (iI (sldF V h s), St E C) := by
  have b8 := hV.2.2.2.2.2.2.2.1
  have e := (I.2.2 h s h0 h1 s1).2.2
  simp (disch := omega) only [fX7_saleDoorAt, c7 P.1, g7_4 P.1, some_bind, iI_mul, iI_add, aI_ok P.2.2.2.2.2.1, e]
/-- the money of the first shops at the end -/
def mnF (V : Vy) : Nat → Int := fo (fun s x => x + (fsF V (V.1 4).toNat).1 s 6) 0
theorem mnF_b (hV : VOK V) : ∀ k : Nat, (k : Int) ≤ V.1 8 → 0 ≤ mnF V k ∧ mnF V k ≤ 2376 * k := by
  intro k
  induction k with
  | zero => intro _; exact ⟨Int.le_refl 0, Int.le_refl 0⟩
  | succ k ih =>
    intro hk
    have b4 := hV.2.2.2.1
    have i := ih (by omega)
    have e : mnF V (k + 1) = mnF V k + (fsF V (V.1 4).toNat).1 k 6 := rfl
    have b := (fsF_in hV (h := (V.1 4).toNat) (s := (k : Int)) (by omega) (by omega)).2.2.2.2.2.2
    rw [e]
    omega
theorem q7_money (P : PK E p) (hd : C.2.2.1 p 6 = some d) (hk : VK E d) (hV : VOK V) (m4 : C.1 d 4 = V.1 4) (m8 : C.1 d 8 = V.1 8) (I : FP C p V a (V.1 4).toNat) (ha : a ≤ (V.1 4).toNat) : fX7_moneyOfAll (E.1 + p) (St E C) = some (iI (mnF V (V.1 8).toNat), St E C) := by
  have b8 := hV.2.2.2.2.2.2.2.1
  have lp : iter (fX7_moneyOfAll_l4 (E.1 + p)) FU (iI 0, iI 0, St E C) = some (iI (mnF V (V.1 8).toNat), St E C) := by
    refine iter_fo (fun j x => (iI x, iI j, St E C)) (fun s x => x + (fsF V (V.1 4).toNat).1 s 6) 0 (V.1 8).toNat _ (fun _ _ => True) trivial (fun _ _ _ _ => trivial) (fun j x hj _ => ?_) ?_ (N := FU) (by have := FU_big (n := V.1 8) (by omega); omega)
    · simp (disch := omega) only [fX7_moneyOfAll_l4, g7_6 P.1 hd, g6_8 hk.1, m8, some_bind, iI_le, q7_factEnd (s := j) (k := 6) P hd hk hV m4 I ha (by omega) (by omega) (by omega), lt_, iI_add]
      rw [if_neg (by omega)]
    · simp (disch := omega) only [fX7_moneyOfAll_l4, g7_6 P.1 hd, g6_8 hk.1, m8, some_bind, iI_le]
      rw [if_pos (by omega)]
      rfl
  simp only [fX7_moneyOfAll, c7 P.1, some_bind, lp]
end VQ
