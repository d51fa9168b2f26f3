/-! meet and rope: where the reference's first shop can be -/
/-- the start with its rows and fields told -/
def stX (B : Bk) (V : Vy) (cnt : Nat) (i t : Int) : Bk := spJ (bsD B cnt) (mo + 21) (bgC V cnt i t)
def kbF (X : Bk) (m : Nat) : Int := (onN (anyS X ((m / 40 : Nat) : Int) ((m / 5 % 8 : Nat) : Int) ((m % 5 : Nat) : Int)) : Int)
def kbW (X : Bk) (h m : Nat) : Bk := (X.1, X.2.1, X.2.2.1, fun e z => if e = mo + 25 ∧ (320 * h : Int) ≤ z ∧ z < 320 * h + m then kbF X (z - 320 * h).toNat else X.2.2.2.1 e z, X.2.2.2.2)
section KBE
variable {E : Ev} {B C X : Bk} {n d : Nat} {V : Vy} {cnt F G : Nat} {P : StP}
theorem m_startPX {i : Int} {S L k c0 t : Nat} (rm : mKd E mo) (P0 : MP (plnM B) V) (hc2 : cnt < 32) (N : RN V i S G L k) (hc0 : scV V i = (c0 : Int)) (t9 : t ≤ 9) : ∃ u v, fX9_starts (E.1 + mo) (iI i) (iI (t : Int)) (iI (cnt : Int)) (St E B) = some (St E (frW (stX B V cnt i (t : Int)) (V.2.2.1 i 0) (V.2.2.1 i 1) (L : Int) ((min t S : Nat) : Int) (G : Int) (mkU V cnt L c0 0 : Int) u v)) ∧ ∀ s', anyF E (stX B V cnt i (t : Int)) s' → RfS E B V cnt (min t S) G (iP c0 L (mkU V cnt L c0 0)) (stX B V cnt i (t : Int)) s' := by
  obtain ⟨c0', hc0', c64, cok, hL⟩ := scV_b N
  have ec : c0' = c0 := by omega
  subst ec
  have N' := N
  obtain ⟨hV, i0, eS, eG, eL, hn, hS, hG⟩ := N'
  have bk := bgC_ok (V := V) (cnt := cnt) (i := i) (t := (t : Int)) hV i0 (by omega) (RN_9 N).2
  have cb := cdC_b hV bk
  have cb0 : 0 ≤ bgC V cnt i (t : Int) := cb.1
  have ef : mnI (t : Int) (S : Int) = ((min t S : Nat) : Int) := by
    unfold mnI
    split <;> omega
  have e7 : ∀ k, 0 ≤ k → k < 1024000 → (onJ (stX B V cnt i (t : Int)) (mo + 21) k = true ↔ k = bgC V cnt i (t : Int)) := fun k k0 k1 => by
    unfold stX
    rw [spJ_on cb0 k0, bsD_on k0 k1, Bool.false_or, decide_eq_true_eq]
  obtain ⟨u, v, run⟩ := m_startsX (E := E) (B := B) (V := V) (cnt := cnt) (i := i) (t := (t : Int)) rm P0 hc2 i0 (by omega) (RN_9 N) (by rw [plnM_1, if_pos (by omega)]) (by rw [plnM_1, if_pos (by omega)])
  refine ⟨u, v, ?_, fun s' an => ⟨an, sc_tr bsD_sc (hJ_sc spJ_hJ), hJ_MP spJ_hJ (bsD_MP P0), ?_, fun k k0 k1 q => ?_, ?_, ?_⟩⟩
  · rw [run, eL, eS, eG, ef, show V.2.2.1 i 1 * 8 + V.2.2.1 i 0 = (c0' : Int) from hc0]
    rfl
  · show (bsD B cnt).1 mo 48 = (cnt : Int)
    unfold bsD
    rw [wI_1, if_pos ⟨rfl, rfl⟩]
  · rw [e7 k k0 k1] at q
    exact ⟨_, _, _, _, _, bk, q⟩
  · intro c l f g m tk
    have kb := cdC_b hV tk
    rw [e7 _ kb.1 kb.2]
    unfold bgC iP
    rw [hc0, eL, eS, eG, ef] at bk ⊢
    constructor
    · intro e
      obtain ⟨i1, i2, i3, i4, i5⟩ := cdC_inj hV tk bk e
      exact ⟨by omega, by omega, by omega, by omega, by omega, by omega, i5⟩
    · rintro ⟨f1, g1, rfl, rfl, x1, x2, rfl⟩
      rw [show f = min t S by omega, show g = G by omega]
      rfl
  · rintro c l s u m ⟨rfl, rfl, rfl, rfl, rfl⟩
    exact ⟨cok, by omega, by omega, by omega, mkD_b hV (by omega)⟩
theorem stX_row {i t : Int} : (stX B V cnt i t).2.2.2.1 = B.2.2.2.1 := rfl
/-- a step keeps the rows of ints -/
theorem m_step0R {S G L c0 j : Nat} {s : Hp} (rm : mKd E mo) (hS : S ≤ 9) (hG : G ≤ 9) (hj : (j : Int) < V.1 4) (R : RfS E B V 0 S G (P0t V S G L c0 j) X s) : ∃ s' X', fX9_hourFree (E.1 + mo) (iI (j : Int)) s = some s' ∧ RfS E B V 0 S G (P0t V S G L c0 (j + 1)) X' s' ∧ X'.2.2.2.1 = X.2.2.2.1 := by
  obtain ⟨r1, r2, r3, r4, r5, r6, r7⟩ := R
  obtain ⟨s', X', e1, e2, e3, e4, e5⟩ := m_hourFree rm r3 r4 (by omega) (h := (j : Int)) (by omega) r5 r1
  have R' : RfS E B V 0 S G (Sx V S G (mkU V 0) j (P0t V S G L c0 j)) X' s' := ⟨e2, sc_tr r2 (hJ_sc e3), hJ_MP e3 r3, by rw [e3.1]; exact r4, e4, RfP_x r3.2.1 hS hG r7 r5 r6 e5, PO_x r3.2.1 r7⟩
  rw [mkU_0] at R'
  exact ⟨s', X', e1, R', e3.2.2.2.1⟩
/-- the row of canBe alone may change -/
theorem RfS_25 {Y : Bk} {s : Hp} (h1 : Y.1 = X.1) (h2 : Y.2.1 = X.2.1) (h3 : Y.2.2.1 = X.2.2.1) (h4 : ∀ e, e ≠ mo + 25 → Y.2.2.2.1 e = X.2.2.2.1 e) (h5 : Y.2.2.2.2 = X.2.2.2.2) (an : anyF E Y s) {s0 : Hp} (R : RfS E B V cnt F G P X s0) : RfS E B V cnt F G P Y s := by
  obtain ⟨r1, r2, r3, r4, r5, r6, r7⟩ := R
  have hm : mo = 58 := rfl
  have onE : ∀ e k, onJ Y e k = onJ X e k := fun e k => by unfold onJ; rw [h5]
  refine ⟨an, sc_tr r2 ⟨fun d j _ => by rw [h1], fun d j _ => by rw [h2], h3, fun d z q => ?_, fun d z _ => by rw [h5]⟩, ⟨?_, r3.2.1, by rw [h1]; exact r3.2.2.1, by rw [h4 (mo + 7) (by omega)]; exact r3.2.2.2⟩, by rw [h1]; exact r4, fun k k0 k1 q => r5 k k0 k1 (by rw [← onE]; exact q), fun c l f g m t => by rw [onE]; exact r6 c l f g m t, r7⟩
  · rw [h4 d (fun e => q (by unfold mscr; omega))]
  · have m := r3.1
    have a6 := h4 (mo + 6) (by omega)
    have a7 := h4 (mo + 7) (by omega)
    have a8 := h4 (mo + 8) (by omega)
    have a10 := h4 (mo + 10) (by omega)
    have a11 := h4 (mo + 11) (by omega)
    have a12 := h4 (mo + 12) (by omega)
    have a20 := h4 (mo + 20) (by omega)
    unfold MV mWd at *
    rw [h1, a6, a7, a8, a10, a11, a12, a20]
    exact m
theorem kbW_s {h m : Nat} : wA (kbW X h m) (mo + 25) (320 * (h : Int) + (m : Int)) (kbF X m) = kbW X h (m + 1) := by
  refine Prod.ext rfl (Prod.ext rfl (Prod.ext rfl (Prod.ext ?_ rfl)))
  funext e z
  show (if e = mo + 25 ∧ z = 320 * (h : Int) + (m : Int) then kbF X m else if e = mo + 25 ∧ (320 * h : Int) ≤ z ∧ z < 320 * h + m then kbF X (z - 320 * h).toNat else X.2.2.2.1 e z) = (if e = mo + 25 ∧ (320 * h : Int) ≤ z ∧ z < 320 * h + ((m + 1 : Nat) : Int) then kbF X (z - 320 * h).toNat else X.2.2.2.1 e z)
  by_cases q : e = mo + 25 ∧ z = 320 * (h : Int) + (m : Int)
  · rw [if_pos q, if_pos ⟨q.1, by omega, by omega⟩, q.2, show (320 * (h : Int) + (m : Int) - 320 * (h : Int)).toNat = m by omega]
  · rw [if_neg q]
    by_cases q2 : e = mo + 25 ∧ (320 * h : Int) ≤ z ∧ z < 320 * h + m
    · rw [if_pos q2, if_pos ⟨q2.1, q2.2.1, by omega⟩]
    · rw [if_neg q2, if_neg (fun w => q2 ⟨w.1, w.2.1, by
        have w3 := w.2.2
        have : ¬ z = 320 * (h : Int) + (m : Int) := fun e2 => q ⟨w.1, e2⟩
        omega⟩)]
theorem kbW_0 {h : Nat} : kbW X h 0 = X := by
  refine Prod.ext rfl (Prod.ext rfl (Prod.ext rfl (Prod.ext ?_ rfl)))
  funext e z
  show (if e = mo + 25 ∧ (320 * h : Int) ≤ z ∧ z < 320 * h + ((0 : Nat) : Int) then kbF X (z - 320 * h).toNat else X.2.2.2.1 e z) = X.2.2.2.1 e z
  rw [if_neg (by omega)]
/-- one cell -/
theorem m_kb46 {h x y l : Nat} {s : Hp} (rm : mKd E mo) (hh : h < 24) (hx : x < 8) (hy : y < 8) (hl : l < 5) (an : anyF E (kbW X h ((x * 8 + y) * 5 + l)) s) : ∃ s', fX9_laysCanBe_l46 (E.1 + mo) (iI (h : Int)) (iI (x : Int)) (iI (y : Int)) (iI (l : Int), s) = some (.inl (iI ((l + 1 : Nat) : Int), s')) ∧ anyF E (kbW X h ((x * 8 + y) * 5 + (l + 1))) s' := by
  obtain ⟨m, hm⟩ : ∃ m, m = (x * 8 + y) * 5 + l := ⟨_, rfl⟩
  rw [← hm] at an
  obtain ⟨s2, r, e1, e2, e3⟩ := m_mostLeft (E := E) (X := kbW X h m) (x := (x : Int)) (y := (y : Int)) (l := (l : Int)) rm (by omega) (by omega) (by omega) an
  have ma := mtS_any e3
  have eA : anyS (kbW X h m) (x : Int) (y : Int) (l : Int) = anyS X (x : Int) (y : Int) (l : Int) := rfl
  rw [eA] at ma
  have ek : kbF X m = (onN (anyS X (x : Int) (y : Int) (l : Int)) : Int) := by
    unfold kbF
    rw [show m / 40 = x by omega, show m / 5 % 8 = y by omega, show m % 5 = l by omega]
  obtain ⟨x', y', l', f', g', m', u', v', rfl⟩ := an
  obtain ⟨x2, y2, l2, f2, g2, m2, u2, v2, rfl⟩ := e2
  have hd : ∀ b : Int, (b = 0 ∨ b = 1) → b = kbF X m → fX9_laysCanBe_b89 (E.1 + mo) (iI (h : Int)) (iI (x : Int)) (iI (y : Int)) (iI (l : Int)) (E.1 + (mo + 25)) (iI (320 * (h : Int) + (m : Int))) (iI b) (St E (frW (kbW X h m) x2 y2 l2 f2 g2 m2 u2 v2)) = some (.inl (iI ((l + 1 : Nat) : Int), St E (frW (kbW X h (m + 1)) x2 y2 l2 f2 g2 m2 u2 v2))) := fun b b01 eb => by
    unfold fX9_laysCanBe_b89
    rw [sZ_ok (mk25 rm) (by omega) (by omega) (by omega) b01, some_bind, iI_add, eb, ← kbW_s]
    rfl
  have cell : fX9_cellOf (E.1 + mo) (iI (x : Int)) (iI (y : Int)) (iI (l : Int)) (St E (frW (kbW X h m) x' y' l' f' g' m' u' v')) = some (iI (m : Int), St E (frW (kbW X h m) x' y' l' f' g' m' u' v')) := by
    unfold fX9_cellOf
    rw [c9 rm.1, some_bind, iI_mul, iI_add, iI_mul, iI_add, show ((x : Int) * 8 + (y : Int)) * 5 + (l : Int) = (m : Int) by omega]
  refine ⟨St E (frW (kbW X h (m + 1)) x2 y2 l2 f2 g2 m2 u2 v2), ?_, ?_⟩
  · unfold fX9_laysCanBe_l46
    dsimp only
    rw [if_neg (by rw [iI_le (by omega) (by omega) (by omega) (by omega)]; omega), g9_51 rm.1, some_bind, cell, some_bind]
    dsimp only
    rw [e1, some_bind]
    dsimp only
    rw [iI_mul, iI_add]
    by_cases q : r = -1
    · rw [if_pos (by rw [q])]
      exact hd 0 (Or.inl rfl) (by rw [ek, onN_0 (by rw [ma.1.mp q]; decide)]; rfl)
    · rw [if_neg (fun w => q ((iI_eq (by omega) (by omega) (by omega) (by omega)).mp w))]
      refine hd 1 (Or.inr rfl) ?_
      rw [ek]
      unfold onN
      rw [if_pos]
      · rfl
      · cases e : anyS X (x : Int) (y : Int) (l : Int)
        · exact absurd (ma.1.mpr e) q
        · rfl
  · rw [show (x * 8 + y) * 5 + (l + 1) = m + 1 by omega]
    exact ⟨_, _, _, _, _, _, _, _, rfl⟩
theorem m_kb36 {h x y : Nat} {s : Hp} (rm : mKd E mo) (hh : h < 24) (hx : x < 8) (hy : y < 8) (an : anyF E (kbW X h ((x * 8 + y) * 5)) s) : ∃ s', fX9_laysCanBe_l36 (E.1 + mo) (iI (h : Int)) (iI (x : Int)) (iI (y : Int), s) = some (.inl (iI ((y + 1 : Nat) : Int), s')) ∧ anyF E (kbW X h ((x * 8 + (y + 1)) * 5)) s' := by
  obtain ⟨z, e1, e2⟩ := iter_acc (F := fX9_laysCanBe_l46 (E.1 + mo) (iI (h : Int)) (iI (x : Int)) (iI (y : Int))) (fun j a => ∃ s', a = (iI (j : Int), s') ∧ anyF E (kbW X h ((x * 8 + y) * 5 + j)) s') 5 (fun s' => anyF E (kbW X h ((x * 8 + y) * 5 + 5)) s')
    (fun j a hj ha => by
      obtain ⟨s', rfl, an⟩ := ha
      obtain ⟨s2, g1, g2⟩ := m_kb46 rm hh hx hy hj an
      exact ⟨_, g1, s2, rfl, g2⟩)
    (fun a ha => by
      obtain ⟨s', rfl, an⟩ := ha
      refine ⟨s', ?_, an⟩
      unfold fX9_laysCanBe_l46
      dsimp only
      rw [if_pos (by decide)]) (N := FU) (by decide) (a := (iI 0, s)) ⟨s, rfl, an⟩
  refine ⟨z, ?_, by rw [show (x * 8 + (y + 1)) * 5 = (x * 8 + y) * 5 + 5 by omega]; exact e2⟩
  unfold fX9_laysCanBe_l36
  dsimp only
  rw [if_neg (by rw [iI_le (by omega) (by omega) (by omega) (by omega)]; omega), e1, some_bind, iI_add]
  rfl
theorem m_kb27 {h x : Nat} {s : Hp} (rm : mKd E mo) (hh : h < 24) (hx : x < 8) (an : anyF E (kbW X h (x * 40)) s) : ∃ s', fX9_laysCanBe_l27 (E.1 + mo) (iI (h : Int)) (iI (x : Int), s) = some (.inl (iI ((x + 1 : Nat) : Int), s')) ∧ anyF E (kbW X h ((x + 1) * 40)) s' := by
  obtain ⟨z, e1, e2⟩ := iter_acc (F := fX9_laysCanBe_l36 (E.1 + mo) (iI (h : Int)) (iI (x : Int))) (fun j a => ∃ s', a = (iI (j : Int), s') ∧ anyF E (kbW X h ((x * 8 + j) * 5)) s') 8 (fun s' => anyF E (kbW X h ((x * 8 + 8) * 5)) s')
    (fun j a hj ha => by
      obtain ⟨s', rfl, an⟩ := ha
      obtain ⟨s2, g1, g2⟩ := m_kb36 rm hh hx hj an
      exact ⟨_, g1, s2, rfl, g2⟩)
    (fun a ha => by
      obtain ⟨s', rfl, an⟩ := ha
      refine ⟨s', ?_, an⟩
      unfold fX9_laysCanBe_l36
      dsimp only
      rw [if_pos (by decide)]) (N := FU) (by decide) (a := (iI 0, s)) ⟨s, rfl, by rw [show (x * 8 + 0) * 5 = x * 40 by omega]; exact an⟩
  refine ⟨z, ?_, by rw [show (x + 1) * 40 = (x * 8 + 8) * 5 by omega]; exact e2⟩
  unfold fX9_laysCanBe_l27
  dsimp only
  rw [if_neg (by rw [iI_le (by omega) (by omega) (by omega) (by omega)]; omega), e1, some_bind, iI_add]
  rfl
theorem m_kbH {h : Nat} {s : Hp} (rm : mKd E mo) (hh : h < 24) (an : anyF E X s) : ∃ s', iter (fX9_laysCanBe_l27 (E.1 + mo) (iI (h : Int))) FU (iI 0, s) = some s' ∧ anyF E (kbW X h 320) s' := by
  obtain ⟨z, e1, e2⟩ := iter_acc (F := fX9_laysCanBe_l27 (E.1 + mo) (iI (h : Int))) (fun j a => ∃ s', a = (iI (j : Int), s') ∧ anyF E (kbW X h (j * 40)) s') 8 (fun s' => anyF E (kbW X h 320) s')
    (fun j a hj ha => by
      obtain ⟨s', rfl, an⟩ := ha
      obtain ⟨s2, g1, g2⟩ := m_kb27 rm hh hj an
      exact ⟨_, g1, s2, rfl, g2⟩)
    (fun a ha => by
      obtain ⟨s', rfl, an⟩ := ha
      refine ⟨s', ?_, an⟩
      unfold fX9_laysCanBe_l27
      dsimp only
      rw [if_pos (by decide)]) (N := FU) (by decide) (a := (iI 0, s)) ⟨s, rfl, by rw [Nat.zero_mul, kbW_0]; exact an⟩
  exact ⟨z, e1, e2⟩
/-- what canBe tells of hours below j -/
def kbR (K : Int → Int) (V : Vy) (S G L c0 j : Nat) : Prop := ∀ h x y l : Nat, h < j → (x : Int) < V.1 1 → (y : Int) < V.1 2 → (l : Int) < V.1 3 → (K (320 * (h : Int) + (((x * 8 + y) * 5 + l : Nat) : Int)) = 1 ∧ ∃ t u, P0t V S G L c0 (h + 1) (y * 8 + x) l t u 0) ∨ (K (320 * (h : Int) + (((x * 8 + y) * 5 + l : Nat) : Int)) = 0 ∧ ¬ ∃ t u, P0t V S G L c0 (h + 1) (y * 8 + x) l t u 0)
theorem m_laysCanBe {S L k c0 q : Nat} (rm : mKd E mo) (P0 : MP (plnM B) V) (N : RN V (q : Int) S G L k) (hc0 : scV V (q : Int) = (c0 : Int)) : ∃ s' X', fX9_laysCanBe (E.1 + mo) (iI (q : Int)) (St E B) = some s' ∧ RfS E B V 0 S G (P0t V S G L c0 (V.1 4).toNat) X' s' ∧ kbR (X'.2.2.2.1 (mo + 25)) V S G L c0 (V.1 4).toNat := by
  have N' := N
  obtain ⟨hV, i0, eS, eG, eL, hk, hS, hG⟩ := N'
  have v1 := hV.1
  have v2 := hV.2.1
  have v3 := hV.2.2.1
  have v4 := hV.2.2.2.1
  obtain ⟨s1, X1, a1, a2⟩ := m_start0 rm P0 N hc0
  obtain ⟨z, e1, X', e2, e3⟩ := iter_acc (F := fX9_laysCanBe_l10 (E.1 + mo)) (fun j a => ∃ s' X', a = (iI (j : Int), s') ∧ RfS E B V 0 S G (P0t V S G L c0 j) X' s' ∧ kbR (X'.2.2.2.1 (mo + 25)) V S G L c0 j) (V.1 4).toNat (fun s' => ∃ X', RfS E B V 0 S G (P0t V S G L c0 (V.1 4).toNat) X' s' ∧ kbR (X'.2.2.2.1 (mo + 25)) V S G L c0 (V.1 4).toNat)
    (fun j a hj ha => by
      have nl : ¬ iI (V.1 4) ≤ iI (j : Int) := by rw [iI_le (by omega) (by omega) (by omega) (by omega)]; omega
      obtain ⟨s', X', rfl, e2, e3⟩ := ha
      obtain ⟨h1, h2⟩ := m_hour3 rm e2
      obtain ⟨s2, X2, g1, g2, g2'⟩ := m_step0R rm hS hG (show (j : Int) < V.1 4 by omega) e2
      obtain ⟨s3, g3, g4⟩ := m_kbH (h := j) rm (by omega) g2.1
      have g5 : RfS E B V 0 S G (P0t V S G L c0 (j + 1)) (kbW X2 j 320) s3 := RfS_25 (X := X2) rfl rfl rfl (fun e ne => by
        funext z
        show (if e = mo + 25 ∧ (320 * j : Int) ≤ z ∧ z < 320 * j + ((320 : Nat) : Int) then kbF X2 (z - 320 * j).toNat else X2.2.2.2.1 e z) = _
        rw [if_neg (fun w => ne w.1)]) rfl g4 g2
      refine ⟨(iI ((j + 1 : Nat) : Int), s3), ?_, s3, _, rfl, g5, fun h x y l hh x0 y0 l0 => ?_⟩
      · unfold fX9_laysCanBe_l10
        dsimp only
        rw [h1, some_bind, h2, some_bind, if_neg nl, g1, some_bind, g3, some_bind, iI_add]
        rfl
      · have ek : (kbW X2 j 320).2.2.2.1 (mo + 25) (320 * (h : Int) + (((x * 8 + y) * 5 + l : Nat) : Int)) = if h = j then kbF X2 ((x * 8 + y) * 5 + l) else X2.2.2.2.1 (mo + 25) (320 * (h : Int) + (((x * 8 + y) * 5 + l : Nat) : Int)) := by
          show (if mo + 25 = mo + 25 ∧ (320 * j : Int) ≤ 320 * (h : Int) + (((x * 8 + y) * 5 + l : Nat) : Int) ∧ 320 * (h : Int) + (((x * 8 + y) * 5 + l : Nat) : Int) < 320 * j + ((320 : Nat) : Int) then kbF X2 (320 * (h : Int) + (((x * 8 + y) * 5 + l : Nat) : Int) - 320 * j).toNat else X2.2.2.2.1 (mo + 25) (320 * (h : Int) + (((x * 8 + y) * 5 + l : Nat) : Int))) = _
          by_cases c : h = j
          · rw [if_pos c, if_pos ⟨rfl, by omega, by omega⟩, show (320 * (h : Int) + (((x * 8 + y) * 5 + l : Nat) : Int) - 320 * (j : Int)).toNat = (x * 8 + y) * 5 + l by omega]
          · rw [if_neg c, if_neg (by omega)]
        rw [ek]
        by_cases c : h = j
        · subst c
          have ap := anyS_P hS hG x0 y0 l0 g2
          have kf : kbF X2 ((x * 8 + y) * 5 + l) = (onN (anyS X2 (x : Int) (y : Int) (l : Int)) : Int) := by
            unfold kbF
            rw [show ((x * 8 + y) * 5 + l) / 40 = x by omega, show ((x * 8 + y) * 5 + l) / 5 % 8 = y by omega, show ((x * 8 + y) * 5 + l) % 5 = l by omega]
          rw [if_pos rfl, kf]
          by_cases w : anyS X2 (x : Int) (y : Int) (l : Int) = true
          · refine Or.inl ⟨?_, ap.mp w⟩
            unfold onN
            rw [if_pos w]
            rfl
          · exact Or.inr ⟨by rw [onN_0 w]; rfl, fun q => w (ap.mpr q)⟩
        · rw [if_neg c, g2']
          exact e3 h x y l (by omega) x0 y0 l0)
    (fun a ha => by
      obtain ⟨s', X', rfl, e2, e3⟩ := ha
      obtain ⟨h1, h2⟩ := m_hour3 rm e2
      refine ⟨s', ?_, X', e2, e3⟩
      unfold fX9_laysCanBe_l10
      dsimp only
      rw [h1, some_bind, h2, some_bind, if_pos (by rw [iI_le (by omega) (by omega) (by omega) (by omega)]; omega)]) (N := FU) (by show (V.1 4).toNat < 1000000; omega) (a := (iI 0, s1)) ⟨s1, X1, rfl, a2, fun h x y l hh => by omega⟩
  refine ⟨z, X', ?_, e2, e3⟩
  unfold fX9_laysCanBe
  rw [c9 rm.1, some_bind, a1, some_bind, e1, some_bind]
end KBE
