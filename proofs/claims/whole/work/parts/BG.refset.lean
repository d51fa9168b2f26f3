/-! the reference's set of bits is the pure set -/
/-- marks of doors, by numbers -/
def mkU (V : Vy) (cnt : Nat) : Nat → Nat → Nat → Nat := fun l c m => mkD V cnt (c : Int) (l : Int) m
def RfP (V : Vy) (F G : Nat) (X : Bk) (P : StP) : Prop := ∀ c l f g m : Nat, tOK V (c : Int) (l : Int) (f : Int) (g : Int) m → (onJ X (mo + 21) (cdC (c : Int) (l : Int) (f : Int) (g : Int) m) = true ↔ f ≤ F ∧ g ≤ G ∧ P c l (F - f) (G - g) m)
def PO (V : Vy) (F G : Nat) (P : StP) : Prop := ∀ c l s u m, P c l s u m → cOK (V.1 1) (V.1 2) (c : Int) ∧ (l : Int) < V.1 3 ∧ s ≤ F ∧ u ≤ G ∧ m < 32
theorem cdC_b {V : Vy} {c l f g : Int} {m : Nat} (hV : VOK V) (t : tOK V c l f g m) : 0 ≤ cdC c l f g m ∧ cdC c l f g m < 1024000 := cdW_b (tOK_d hV t)
section RFS
variable {E : Ev} {B X : Bk} {V : Vy} {cnt F G h : Nat} {P : StP}
theorem PO_x (hV : VOK V) (hP : PO V F G P) : PO V F G (Sx V F G (mkU V cnt) h P) := by
  have v1 := hV.1
  have v3 := hV.2.2.1
  rintro c' l' s' u' m' ⟨c, l, s, u, m, a, p, ok, e1, e2, e3, e4, e5⟩
  obtain ⟨b1, b2, b3, b4, b5⟩ := hP c l s u m p
  have := cl_c (V := V) (h := h) (l := lvA a (l : Int))
  have := lv_c (a := a) (l := (l : Int))
  unfold okA at ok
  refine ⟨by rw [e1]; exact crX_in b1 v1.2, by omega, ?_, ?_, by rw [e5]; exact mkD_b hV b5⟩
  · split at e3 <;> omega
  · split at e4 <;> omega
theorem RfP_x {X' : Bk} (hV : VOK V) (hF : F ≤ 9) (hG : G ≤ 9) (hP : PO V F G P) (sv : SVl V X (mo + 21)) (r : RfP V F G X P) (ho : ∀ k', 0 ≤ k' → k' < 1024000 → (onJ X' (mo + 21) k' = true ↔ ∃ k, 0 ≤ k ∧ k < 1024000 ∧ onJ X (mo + 21) k = true ∧ Nx V cnt (h : Int) k k')) : RfP V F G X' (Sx V F G (mkU V cnt) h P) := by
  intro c' l' f' g' m' t'
  have kb := cdC_b hV t'
  rw [ho _ kb.1 kb.2]
  constructor
  · rintro ⟨k, k0, k1, k2, c, l, f, g, m, a, t, e1, e2, e3, e4⟩
    subst e1
    have tt := t
    obtain ⟨⟨q1, q2, q3⟩, q4, q5, q6, q7⟩ := tt
    obtain ⟨c, rfl⟩ : ∃ cN : Nat, c = (cN : Int) := ⟨c.toNat, by omega⟩
    obtain ⟨l, rfl⟩ : ∃ lN : Nat, l = (lN : Int) := ⟨l.toNat, by omega⟩
    obtain ⟨f, rfl⟩ : ∃ fN : Nat, f = (fN : Int) := ⟨f.toNat, by omega⟩
    obtain ⟨g, rfl⟩ : ∃ gN : Nat, g = (gN : Int) := ⟨g.toNat, by omega⟩
    obtain ⟨p1, p2, p3⟩ := (r c l f g m t).mp k2
    obtain ⟨i1, i2, i3, i4, i5⟩ := cdC_inj hV t' (tOK_n (cnt := cnt) (h := (h : Int)) hV t e3) e4
    unfold fsA at i3
    unfold gsA at i4
    refine ⟨by split at i3 <;> omega, by split at i4 <;> omega, c, l, F - f, G - g, m, a, p3, ?_, i1, i2, ?_, ?_, ?_⟩
    · rw [show (F : Int) - ((F - f : Nat) : Int) = (f : Int) by omega, show (G : Int) - ((G - g : Nat) : Int) = (g : Int) by omega]
      exact e3
    · unfold okA at e3
      split at i3
      · rename_i q
        rw [if_pos q]
        omega
      · rename_i q
        rw [if_neg q]
        omega
    · unfold okA at e3
      split at i4
      · rename_i q
        rw [if_pos q]
        omega
      · rename_i q
        rw [if_neg q]
        omega
    · rw [i5]
      unfold mkU
      rw [i1, i2]
  · rintro ⟨f1, g1, c, l, s, u, m, a, p, ok, e1, e2, e3, e4, e5⟩
    obtain ⟨b1, b2, b3, b4, b5⟩ := hP c l s u m p
    have t : tOK V (c : Int) (l : Int) ((F - s : Nat) : Int) ((G - u : Nat) : Int) m := ⟨b1, by omega, by omega, by omega, b5⟩
    have kb2 := cdC_b hV t
    have ok' : okA V a (l : Int) ((F - s : Nat) : Int) ((G - u : Nat) : Int) := by
      rw [show ((F - s : Nat) : Int) = (F : Int) - (s : Int) by omega, show ((G - u : Nat) : Int) = (G : Int) - (u : Int) by omega]
      exact ok
    refine ⟨cdC (c : Int) (l : Int) ((F - s : Nat) : Int) ((G - u : Nat) : Int) m, kb2.1, kb2.2, (r c l (F - s) (G - u) m t).mpr ⟨by omega, by omega, by rw [show F - (F - s) = s by omega, show G - (G - u) = u by omega]; exact p⟩, (c : Int), (l : Int), ((F - s : Nat) : Int), ((G - u : Nat) : Int), m, a, t, rfl, ?_, ok', ?_⟩
    · unfold okA at ok
      omega
    · unfold nxC
      rw [← e1, ← e2, show fsA a ((F - s : Nat) : Int) = (f' : Int) by
        unfold fsA
        split at e3
        · rename_i q
          rw [if_pos q]
          omega
        · rename_i q
          rw [if_neg q]
          omega, show gsA a ((G - u : Nat) : Int) = (g' : Int) by
        unfold gsA
        split at e4
        · rename_i q
          rw [if_pos q]
          omega
        · rename_i q
          rw [if_neg q]
          omega, e5]
      rfl
/-- the reference stands with its set P: c is what it counts -/
def RfS (E : Ev) (B : Bk) (V : Vy) (cnt F G : Nat) (P : StP) (X : Bk) (s : Hp) : Prop := anyF E X s ∧ sc B X ∧ MP X V ∧ X.1 mo 48 = (cnt : Int) ∧ SVl V X (mo + 21) ∧ RfP V F G X P ∧ PO V F G P
theorem m_stepP {s : Hp} (rm : mKd E mo) (hc2 : cnt < 32) (hF : F ≤ 9) (hG : G ≤ 9) (hh : (h : Int) < V.1 4) (R : RfS E B V cnt F G P X s) : ∃ s' X', fX9_hourFree (E.1 + mo) (iI (h : Int)) s = some s' ∧ RfS E B V cnt F G (Sx V F G (mkU V cnt) h P) X' s' := by
  obtain ⟨r1, r2, r3, r4, r5, r6, r7⟩ := R
  obtain ⟨s', X', e1, e2, e3, e4, e5⟩ := m_hourFree rm r3 r4 hc2 (h := (h : Int)) (by omega) r5 r1
  exact ⟨s', X', e1, e2, sc_tr r2 (hJ_sc e3), hJ_MP e3 r3, by rw [e3.1]; exact r4, e4, RfP_x r3.2.1 hF hG r7 r5 r6 e5, PO_x r3.2.1 r7⟩
theorem RN_9 {i : Int} {S L n : Nat} (N : RN V i S G L n) : V.2.2.1 i 3 ≤ 9 ∧ V.2.2.1 i 4 ≤ 9 := by
  obtain ⟨hV, i0, eS, eG, eL, hn, hS, hG⟩ := N
  omega
theorem m_startP {i : Int} {S L n c0 t : Nat} (rm : mKd E mo) (P0 : MP (plnM B) V) (hc2 : cnt < 32) (N : RN V i S G L n) (hc0 : scV V i = (c0 : Int)) (t9 : t ≤ 9) : ∃ s' X', fX9_starts (E.1 + mo) (iI i) (iI (t : Int)) (iI (cnt : Int)) (St E B) = some s' ∧ RfS E B V cnt (min t S) G (iP c0 L (mkU V cnt L c0 0)) X' s' := by
  obtain ⟨c0', hc0', c64, cok, hL⟩ := scV_b N
  have ec : c0' = c0 := by omega
  subst ec
  have N' := N
  obtain ⟨hV, i0, eS, eG, eL, hn, hS, hG⟩ := N'
  obtain ⟨s', X', e1, e2, e3, e4, e5, e6, e7⟩ := m_starts (E := E) (B := B) (V := V) (cnt := cnt) (i := i) (t := (t : Int)) rm P0 hc2 i0 (by omega) (RN_9 N) (by rw [plnM_1, if_pos (by omega)]) (by rw [plnM_1, if_pos (by omega)])
  refine ⟨s', X', e1, e2, e3, e4, e5, e6, ?_, ?_⟩
  · intro c l f g m tk
    have kb := cdC_b hV tk
    have bk := bgC_ok (V := V) (cnt := cnt) (i := i) (t := (t : Int)) hV i0 (by omega) (RN_9 N).2
    rw [e7 _ kb.1 kb.2]
    unfold bgC iP
    rw [hc0, eL, eS, eG] at bk ⊢
    have ef : mnI (t : Int) (S : Int) = ((min t S : Nat) : Int) := by
      unfold mnI
      split <;> omega
    rw [ef] at bk ⊢
    constructor
    · intro e
      obtain ⟨i1, i2, i3, i4, i5⟩ := cdC_inj hV tk bk e
      exact ⟨by omega, by omega, by omega, by omega, by omega, by omega, i5⟩
    · rintro ⟨f1, g1, rfl, rfl, x1, x2, rfl⟩
      rw [show f = min t S by omega, show g = G by omega]
      rfl
  · rintro c l s u m ⟨rfl, rfl, rfl, rfl, rfl⟩
    exact ⟨cok, by omega, by omega, by omega, mkD_b hV (by omega)⟩
/-- the most sand left at a cell -/
def mLP (F : Nat) (P : StP) (c l : Nat) (r : Int) : Prop := (r = -1 ∧ ∀ s u, ¬ P c l s u 0) ∨ ∃ s : Nat, r = (F : Int) - (s : Int) ∧ s ≤ F ∧ (∃ u, P c l s u 0) ∧ ∀ s' : Nat, s' < s → ∀ u, ¬ P c l s' u 0
theorem gaJ_P {x y l : Nat} {f : Nat} (hV : VOK V) (hG : G ≤ 9) (r : RfP V F G X P) (po : PO V F G P) (x0 : (x : Int) < V.1 1) (y0 : (y : Int) < V.1 2) (l0 : (l : Int) < V.1 3) (f9 : f ≤ 9) : gaJ X (x : Int) (y : Int) (l : Int) f = true ↔ f ≤ F ∧ ∃ u, P (y * 8 + x) l (F - f) u 0 := by
  have v1 := hV.1
  have v2 := hV.2.1
  have ck : cOK (V.1 1) (V.1 2) ((y * 8 + x : Nat) : Int) := by
    have := cOK_xy (show 0 ≤ (x : Int) by omega) x0 (show 0 ≤ (y : Int) by omega) y0 v1.2
    rw [show ((y * 8 + x : Nat) : Int) = (y : Int) * 8 + (x : Int) by omega]
    exact this
  have ec : ∀ g : Nat, cdW (x : Int) (y : Int) (l : Int) (f : Int) (g : Int) 0 = cdC ((y * 8 + x : Nat) : Int) (l : Int) (f : Int) (g : Int) 0 := fun g => by
    unfold cdC
    rw [show ((y * 8 + x : Nat) : Int) % 8 = (x : Int) by omega, show ((y * 8 + x : Nat) : Int) / 8 = (y : Int) by omega]
    rfl
  unfold gaJ
  rw [anyN_t]
  constructor
  · rintro ⟨g, g1, g2⟩
    rw [ec] at g2
    obtain ⟨a1, a2, a3⟩ := (r _ l f g 0 ⟨ck, by omega, by omega, by omega, by omega⟩).mp g2
    exact ⟨a1, _, a3⟩
  · rintro ⟨a1, u, a3⟩
    have b := po _ _ _ _ _ a3
    refine ⟨G - u, by omega, ?_⟩
    rw [ec]
    exact (r _ l f (G - u) 0 ⟨ck, by omega, by omega, by omega, by omega⟩).mpr ⟨a1, by omega, by rw [show G - (G - u) = u by omega]; exact a3⟩
theorem m_mL {s : Hp} {x y l : Nat} (rm : mKd E mo) (hF : F ≤ 9) (hG : G ≤ 9) (x0 : (x : Int) < V.1 1) (y0 : (y : Int) < V.1 2) (l0 : (l : Int) < V.1 3) (R : RfS E B V cnt F G P X s) : ∃ s' r, fX9_mostLeft (E.1 + mo) (iI (x : Int)) (iI (y : Int)) (iI (l : Int)) s = some (iI r, s') ∧ RfS E B V cnt F G P X s' ∧ mLP F P (y * 8 + x) l r := by
  obtain ⟨r1, r2, r3, r4, r5, r6, r7⟩ := R
  have hV := r3.2.1
  have v1 := hV.1
  have v2 := hV.2.1
  have v3 := hV.2.2.1
  obtain ⟨s', r, e1, e2, e3⟩ := m_mostLeft (E := E) (X := X) (x := (x : Int)) (y := (y : Int)) (l := (l : Int)) rm (by omega) (by omega) (by omega) r1
  refine ⟨s', r, e1, ⟨e2, r2, r3, r4, r5, r6, r7⟩, ?_⟩
  rcases e3 with ⟨rfl, q⟩ | ⟨f, rfl, f1, f2, f3⟩
  · refine Or.inl ⟨rfl, fun s u p => ?_⟩
    have b := r7 _ _ _ _ _ p
    have := (gaJ_P (f := F - s) hV hG r6 r7 x0 y0 l0 (by omega)).mpr ⟨by omega, u, by rw [show F - (F - s) = s by omega]; exact p⟩
    rw [q (F - s) (by omega)] at this
    cases this
  · obtain ⟨a1, u, a2⟩ := (gaJ_P (f := f) hV hG r6 r7 x0 y0 l0 (by omega)).mp f2
    refine Or.inr ⟨F - f, by omega, by omega, ⟨u, a2⟩, fun s' hs' u' p => ?_⟩
    have := (gaJ_P (f := F - s') hV hG r6 r7 x0 y0 l0 (by omega)).mpr ⟨by omega, u', by rw [show F - (F - s') = s' by omega]; exact p⟩
    rw [f3 (F - s') (by omega) (by omega)] at this
    cases this
end RFS
