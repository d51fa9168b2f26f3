/-! tour and done: both answer alike -/
/-- no two doors stand in one column -/
def DD (V : Vy) : Prop := ∀ i j : Int, 0 ≤ i → i < j → j < V.1 9 → ¬ V.2.2.2.1 i 1 * 8 + V.2.2.2.1 i 0 = V.2.2.2.1 j 1 * 8 + V.2.2.2.1 j 0
theorem dr_lf {V : Vy} {c : Int} (v9 : 0 ≤ V.1 9) : (drV V c = -1 ∧ ∀ j, 0 ≤ j → j < V.1 9 → ¬ V.2.2.2.1 j 1 * 8 + V.2.2.2.1 j 0 = c) ∨ ((0 ≤ drV V c ∧ drV V c < V.1 9) ∧ V.2.2.2.1 (drV V c) 1 * 8 + V.2.2.2.1 (drV V c) 0 = c) := by
  have sp := lf_spec (fun i => V.2.2.2.1 i 1 * 8 + V.2.2.2.1 i 0 = c) (V.1 9).toNat 0
  obtain ⟨s1, s2, s3, s4⟩ := sp
  unfold drV
  by_cases q : lf (fun i => V.2.2.2.1 i 1 * 8 + V.2.2.2.1 i 0 = c) (V.1 9).toNat 0 < V.1 9
  · rw [if_pos q]
    exact Or.inr ⟨⟨s1, q⟩, s4 (by omega)⟩
  · rw [if_neg q]
    exact Or.inl ⟨rfl, fun j j0 j1 => s3 j j0 (by omega)⟩
theorem dmN_0 {V : Vy} {c : Nat} : ∀ {j : Nat}, (∀ i : Nat, i < j → ¬ V.2.2.2.1 (i : Int) 1 * 8 + V.2.2.2.1 (i : Int) 0 = (c : Int)) → dmN V c j = 0
  | 0, _ => rfl
  | j + 1, h => by
    show dmN V c j ||| (if _ then 2 ^ j else 0) = 0
    rw [dmN_0 (fun i hi => h i (by omega)), if_neg (h j (by omega))]
    rfl
theorem dmN_1 {V : Vy} {c i0 : Nat} : ∀ {j : Nat}, i0 < j → V.2.2.2.1 (i0 : Int) 1 * 8 + V.2.2.2.1 (i0 : Int) 0 = (c : Int) → (∀ i : Nat, i < j → i ≠ i0 → ¬ V.2.2.2.1 (i : Int) 1 * 8 + V.2.2.2.1 (i : Int) 0 = (c : Int)) → dmN V c j = 2 ^ i0
  | 0, h, _, _ => by omega
  | j + 1, h, e, u => by
    show dmN V c j ||| (if _ then 2 ^ j else 0) = 2 ^ i0
    by_cases q : i0 = j
    · subst q
      rw [dmN_0 (fun i hi => u i (by omega) (by omega)), if_pos e, Nat.zero_or]
    · rw [dmN_1 (j := j) (by omega) e (fun i hi ne => u i (by omega) ne), if_neg (u j (by omega) (by omega)), Nat.or_zero]
theorem and_mk : ∀ M : Fin 32, ∀ s : Fin 32, ∀ j : Fin 5, (M.val ||| 2 ^ j.val) &&& s.val = if s.val.testBit j.val = true then (M.val &&& s.val) ||| 2 ^ j.val else M.val &&& s.val := by decide +kernel
section TOU
variable {E : Ev} {B C X : Bk} {n d : Nat} {V : Vy}
/-- the marks of some doors are the marks of all, cut -/
theorem mkU_cut {M set l c : Nat} (hV : VOK V) (dd : DD V) (hM : M < 32) (hs : set < 32) : mkU V set l c (M &&& set) = upD V l c M &&& set := by
  have v9 := hV.2.2.2.2.2.2.2.2.1
  unfold mkU mkD upD
  rcases dr_lf (V := V) (c := (c : Int)) v9.1 with ⟨e, no⟩ | ⟨⟨b1, b2⟩, e⟩
  · rw [if_neg (fun w => w.1 e), dmN_0 (fun i hi => no (i : Int) (by omega) (by omega)), Nat.or_zero]
    split <;> rfl
  · obtain ⟨j, hj⟩ : ∃ j : Nat, drV V (c : Int) = (j : Int) := ⟨(drV V (c : Int)).toNat, by omega⟩
    rw [hj] at b1 b2 e ⊢
    have dm : dmN V c (V.1 9).toNat = 2 ^ j := dmN_1 (by omega) e (fun i hi ne w => by
      rcases Nat.lt_or_gt_of_ne ne with q | q
      · exact dd (i : Int) (j : Int) (by omega) (by omega) (by omega) (by rw [w, e])
      · exact dd (j : Int) (i : Int) (by omega) (by omega) (by omega) (by rw [w, e]))
    have am := and_mk ⟨M, hM⟩ ⟨set, hs⟩ ⟨j, by omega⟩
    simp only at am
    rw [dm, Int.toNat_natCast]
    by_cases q : (l : Int) ≤ V.1 6
    · rw [if_pos q, am]
      by_cases t : set.testBit j = true
      · rw [if_pos ⟨by omega, t, q⟩, if_pos t]
      · rw [if_neg (fun w => t w.2.1), if_neg t]
    · rw [if_neg q, if_neg (fun w => q w.2.2)]
abbrev PtD (V : Vy) (S G L c0 : Nat) (j : Nat) : StP := Pt V S G (upD V) 0 (iP c0 L (upD V L c0 0)) j
theorem PtD_b {i : Int} {S G L k c0 j c l s u m : Nat} (N : RN V i S G L k) (hc0 : scV V i = (c0 : Int)) (hj : (j : Int) ≤ V.1 4) (w : PtD V S G L c0 j c l s u m) : c < 64 ∧ l < k ∧ s ≤ S ∧ u ≤ G ∧ m < 2 ^ (V.1 9).toNat ∧ m < 32 := by
  obtain ⟨c0', hc0', c64, cok, hL⟩ := scV_b N
  have ec : c0' = c0 := by omega
  subst ec
  obtain ⟨hV, i0, eS, eG, eL, hn, hS, hG⟩ := N
  have v9 := hV.2.2.2.2.2.2.2.2.1
  have hU : ∀ l c m, l < k → c < 64 → m < 2 ^ (V.1 9).toNat → upD V l c m < 2 ^ (V.1 9).toNat := fun l c m _ _ h => upD_lt rfl (by omega) h
  have b := Pt_PB (U := upD V) (T := 2 ^ (V.1 9).toNat) hV hn hU (iP_PB cok hL (hU L c0' 0 hL c64 (Nat.two_pow_pos _))) hj c l s u m w
  have := cOK_64 b.1 hV.1.2 hV.2.1.2
  have p := p2_le (k := (V.1 9).toNat) (by omega)
  exact ⟨by omega, b.2.1, b.2.2.1, b.2.2.2.1, b.2.2.2.2.1, by have := b.2.2.2.2.1; omega⟩
theorem Pt_set {i : Int} {S G L k c0 set : Nat} (N : RN V i S G L k) (hc0 : scV V i = (c0 : Int)) (dd : DD V) (hs : set < 32) : ∀ {j : Nat}, (j : Int) ≤ V.1 4 → ∀ c l s u m, Pt V S G (mkU V set) 0 (iP c0 L (mkU V set L c0 0)) j c l s u m ↔ ∃ M, PtD V S G L c0 j c l s u M ∧ m = M &&& set
  | 0, _ => fun c l s u m => by
    have hV := N.1
    have e0 : mkU V set L c0 0 = upD V L c0 0 &&& set := by
      have := mkU_cut (M := 0) (set := set) (l := L) (c := c0) hV dd (by omega) hs
      rw [Nat.zero_and] at this
      exact this
    constructor
    · rintro ⟨rfl, rfl, rfl, rfl, rfl⟩
      exact ⟨_, ⟨rfl, rfl, rfl, rfl, rfl⟩, e0⟩
    · rintro ⟨M, ⟨rfl, rfl, rfl, rfl, rfl⟩, rfl⟩
      exact ⟨rfl, rfl, rfl, rfl, e0.symm⟩
  | j + 1, hj => fun c' l' s' u' m' => by
    have hV := N.1
    have ih := Pt_set N hc0 dd hs (j := j) (by omega)
    constructor
    · rintro ⟨c, l, s, u, m, a, p, ok, e1, e2, e3, e4, e5⟩
      obtain ⟨M, w1, w2⟩ := (ih c l s u m).mp p
      have b := PtD_b N hc0 (by omega) w1
      exact ⟨upD V l' c' M, ⟨c, l, s, u, M, a, w1, ok, e1, e2, e3, e4, rfl⟩, by rw [e5, w2, mkU_cut hV dd b.2.2.2.2.2 hs]⟩
    · rintro ⟨M', ⟨c, l, s, u, M, a, w1, ok, e1, e2, e3, e4, e5⟩, rfl⟩
      have b := PtD_b N hc0 (by omega) w1
      exact ⟨c, l, s, u, M &&& set, a, (ih c l s u _).mpr ⟨M, w1, rfl⟩, ok, e1, e2, e3, e4, by rw [e5, mkU_cut hV dd b.2.2.2.2.2 hs]⟩
/-- the most sand left of those that have come to all -/
theorem tlS_mx {cnt F G q : Nat} {P : StP} {s : Hp} {r : Int} (hF : F ≤ 9) (hG : G ≤ 9) (hq : q < 32) (R : RfS E B V cnt F G P X s) (t : tlS X (q : Int) 1024000 r) : mxP F (fun s => ∃ c l u, P c l s u q) r := by
  obtain ⟨r1, r2, r3, r4, r5, r6, r7⟩ := R
  have hV := r3.2.1
  have v1 := hV.1
  have v2 := hV.2.1
  obtain ⟨⟨b1, b2⟩, t2, t3⟩ := t
  have up : ∀ c l s u, P c l s u q → (F : Int) - (s : Int) ≤ r := fun c l s u w => by
    have b := r7 _ _ _ _ _ w
    have tk : tOK V (c : Int) (l : Int) ((F - s : Nat) : Int) ((G - u : Nat) : Int) q := ⟨b.1, by omega, by omega, by omega, hq⟩
    have on := (r6 c l (F - s) (G - u) q tk).mpr ⟨by omega, by omega, by rw [show F - (F - s) = s by omega, show G - (G - u) = u by omega]; exact w⟩
    have kb := cdC_b hV tk
    have fk := fk_cd (tOK_d hV tk)
    have := t2 (cdC (c : Int) (l : Int) ((F - s : Nat) : Int) ((G - u : Nat) : Int) q) kb.1 kb.2 on fk.1
    have e2 : fkC (cdC (c : Int) (l : Int) ((F - s : Nat) : Int) ((G - u : Nat) : Int) q) = ((F - s : Nat) : Int) := fk.2
    omega
  rcases t3 with e | ⟨k, k0, k1, k2, k3, k4⟩
  · exact Or.inl ⟨e, fun s ⟨c, l, u, w⟩ => by
      have b := r7 _ _ _ _ _ w
      have := up c l s u w
      omega⟩
  · obtain ⟨c, l, f, g, m, tk, ek⟩ := r5 k k0 k1 k2
    have tk' := tk
    obtain ⟨⟨q1, q2, q3⟩, q4, q5, q6, q7⟩ := tk'
    obtain ⟨c, rfl⟩ : ∃ cN : Nat, c = (cN : Int) := ⟨c.toNat, by omega⟩
    obtain ⟨l, rfl⟩ : ∃ lN : Nat, l = (lN : Int) := ⟨l.toNat, by omega⟩
    obtain ⟨f, rfl⟩ : ∃ fN : Nat, f = (fN : Int) := ⟨f.toNat, by omega⟩
    obtain ⟨g, rfl⟩ : ∃ gN : Nat, g = (gN : Int) := ⟨g.toNat, by omega⟩
    have fk := fk_cd (tOK_d hV tk)
    have e1 : cdC (c : Int) (l : Int) (f : Int) (g : Int) m % 32 = (m : Int) := fk.1
    have e2 : fkC (cdC (c : Int) (l : Int) (f : Int) (g : Int) m) = (f : Int) := fk.2
    rw [ek] at k2 k3 k4
    have em : m = q := by omega
    subst em
    obtain ⟨p1, p2, p3⟩ := (r6 c l f g m tk).mp k2
    refine Or.inr ⟨F - f, by omega, by omega, ⟨c, l, _, p3⟩, fun s' lt ⟨c', l', u', w⟩ => ?_⟩
    have := up c' l' s' u' w
    omega
theorem m_tL {cnt F G q : Nat} {P : StP} {s : Hp} (rm : mKd E mo) (hF : F ≤ 9) (hG : G ≤ 9) (hq : q < 32) (R : RfS E B V cnt F G P X s) : ∃ s' r, fX9_tourLeft (E.1 + mo) (iI (q : Int)) s = some (iI r, s') ∧ RfS E B V cnt F G P X s' ∧ mxP F (fun s => ∃ c l u, P c l s u q) r := by
  obtain ⟨s', r, e1, e2, e3⟩ := m_tourLeft (E := E) (X := X) (V := V) (q := (q : Int)) rm R.2.2.1.2.1 R.2.2.2.2.1 (by omega) R.1
  exact ⟨s', r, e1, ⟨e2, R.2⟩, tlS_mx hF hG hq R e3⟩
abbrev PtU (V : Vy) (S G L c0 set : Nat) (j : Nat) : StP := Pt V S G (mkU V set) 0 (iP c0 L (mkU V set L c0 0)) j
theorem m_startU {i : Int} {S G L k c0 set : Nat} (rm : mKd E mo) (P0 : MP (plnM B) V) (hs : set < 32) (N : RN V i S G L k) (hc0 : scV V i = (c0 : Int)) : ∃ s' X', fX9_starts (E.1 + mo) (iI i) (iI 9) (iI (set : Int)) (St E B) = some s' ∧ RfS E B V set S G (PtU V S G L c0 set 0) X' s' := by
  obtain ⟨s', X', e1, e2⟩ := m_startP (cnt := set) (t := 9) rm P0 hs N hc0 (by omega)
  have hS := N.2.2.2.2.2.2.1
  rw [show min 9 S = S by omega] at e2
  exact ⟨s', X', e1, e2⟩
theorem m_tourRun {i : Int} {S G L k c0 set : Nat} {s : Hp} {r : Int} {x1 : Int32} (rm : mKd E mo) (N : RN V i S G L k) (hs : set < 32) (R : RfS E B V set S G (PtU V S G L c0 set 0) X s) (hr : mxP S (fun t => ∃ c l u, PtU V S G L c0 set 0 c l t u set) r) : ∃ s' X' r', iter (fX9_tour_l41 (E.1 + mo) x1 (iI (set : Int))) FU (iI r, iI 0, s) = some (iI r', s') ∧ RfS E B V set S G (PtU V S G L c0 set (V.1 4).toNat) X' s' ∧ mxP S (fun t => ∃ h c l u, h ≤ (V.1 4).toNat ∧ PtU V S G L c0 set h c l t u set) r' := by
  obtain ⟨hV, i0, eS, eG, eL, hk, hS, hG⟩ := N
  have v4 := hV.2.2.2.1
  obtain ⟨z, e1, r', s', X', rfl, e2, e3⟩ := iter_acc (F := fX9_tour_l41 (E.1 + mo) x1 (iI (set : Int))) (fun j a => ∃ r' s' X', a = (iI r', iI (j : Int), s') ∧ RfS E B V set S G (PtU V S G L c0 set j) X' s' ∧ mxP S (fun t => ∃ h c l u, h ≤ j ∧ PtU V S G L c0 set h c l t u set) r') (V.1 4).toNat (fun q => ∃ r' s' X', q = (iI r', s') ∧ RfS E B V set S G (PtU V S G L c0 set (V.1 4).toNat) X' s' ∧ mxP S (fun t => ∃ h c l u, h ≤ (V.1 4).toNat ∧ PtU V S G L c0 set h c l t u set) r')
    (fun j a hj ha => by
      have nl : ¬ iI (V.1 4) ≤ iI (j : Int) := by rw [iI_le (by omega) (by omega) (by omega) (by omega)]; omega
      obtain ⟨r', s', X', rfl, e2, e3⟩ := ha
      obtain ⟨h1, h2⟩ := m_hour3 rm e2
      obtain ⟨s2, X2, g1, g2⟩ := m_stepP (h := j) rm hs hS hG (show (j : Int) < V.1 4 by omega) e2
      obtain ⟨s3, r3, g3, g4, g5⟩ := m_tL rm hS hG hs g2
      have b1 := mxP_b e3
      have b2 := mxP_b g5
      refine ⟨(iI (if r3 ≤ r' then r' else r3), iI ((j + 1 : Nat) : Int), s3), ?_, _, s3, X2, rfl, g4, mxP_max e3 g5 (fun t => ?_)⟩
      · unfold fX9_tour_l41 fX9_tour_b77
        dsimp only
        rw [h1, some_bind, h2, some_bind, if_neg nl, g1, some_bind, g3, some_bind]
        dsimp only
        rw [iI_add]
        by_cases q : r3 ≤ r'
        · rw [if_pos (by rw [iI_le (by omega) (by omega) (by omega) (by omega)]; exact q), if_pos q]
          rfl
        · rw [if_neg (by rw [iI_le (by omega) (by omega) (by omega) (by omega)]; exact q), if_neg q]
          rfl
      · constructor
        · rintro ⟨h, c, l, u, a1, a2⟩
          by_cases e : h = j + 1
          · subst e
            exact Or.inr ⟨c, l, u, a2⟩
          · exact Or.inl ⟨h, c, l, u, by omega, a2⟩
        · rintro (⟨h, c, l, u, a1, a2⟩ | ⟨c, l, u, a2⟩)
          · exact ⟨h, c, l, u, by omega, a2⟩
          · exact ⟨j + 1, c, l, u, by omega, a2⟩)
    (fun a ha => by
      obtain ⟨r', s', X', rfl, e2, e3⟩ := ha
      obtain ⟨h1, h2⟩ := m_hour3 rm e2
      refine ⟨(iI r', s'), ?_, r', s', X', rfl, e2, e3⟩
      unfold fX9_tour_l41
      dsimp only
      rw [h1, some_bind, h2, some_bind, if_pos (by rw [iI_le (by omega) (by omega) (by omega) (by omega)]; omega)]) (N := FU) (by show (V.1 4).toNat < 1000000; omega) (a := (iI r, iI 0, s)) ⟨r, s, X, rfl, R, by
      rcases hr with ⟨h1, h2⟩ | ⟨t, h1, h2, h3, h4⟩
      · exact Or.inl ⟨h1, fun t ⟨h, c, l, u, a1, a2⟩ => h2 t ⟨c, l, u, by rw [show h = 0 by omega] at a2; exact a2⟩⟩
      · obtain ⟨c, l, u, h3⟩ := h3
        exact Or.inr ⟨t, h1, h2, ⟨0, c, l, u, by omega, h3⟩, fun s' q ⟨h, c, l, u, a1, a2⟩ => h4 s' q ⟨c, l, u, by rw [show h = 0 by omega] at a2; exact a2⟩⟩⟩
  exact ⟨s', X', r', e1, e2, e3⟩
theorem rg_isDoors {z : Int} (R : RV E C n) (hn : n < 50) (hz : i32 z) : fX9_isDoors (E.1 + mo) (iI z) (St E (wI C mo 0 0)) = some (iI (bI (0 ≤ z ∧ z < ((2 ^ (C.1 n 9).toNat : Nat) : Int))), St E (wI C mo 0 0)) := by
  have R0 := rv_0 R (show n < 58 by omega)
  have rm := R.1.2.2.2
  have w9 := R.2.1.2.2.2.2.2.2.2.2.2
  have p5 := p2_le (k := (C.1 n 9).toNat) (by omega)
  have pp := Nat.two_pow_pos (C.1 n 9).toNat
  have is1 := ish_ok (k := C.1 n 9) w9.1 (by omega)
  unfold fX9_isDoors
  rw [c9 rm.1, some_bind, g9_17 rm.1, some_bind, aI_ok (mk7 rm) (by omega) (by omega) (by omega), some_bind, vr_h8 R0, w0n (by omega), is1, iI_sub, jI_i hz.1 hz.2, jI_i (by omega) (by omega), show (0 : Int64) = jI 0 from rfl, m_in (by have := hz.1; omega) (by have := hz.2; omega) (by omega) (by omega) (by omega) (by omega), some_bind]
  dsimp only
  rw [rZ_ok bI_01, some_bind]
  have e : (0 ≤ z ∧ z ≤ ((2 ^ (C.1 n 9).toNat : Nat) : Int) - 1) = (0 ≤ z ∧ z < ((2 ^ (C.1 n 9).toNat : Nat) : Int)) := by
    apply propext
    omega
  by_cases q : 0 ≤ z ∧ z < ((2 ^ (C.1 n 9).toNat : Nat) : Int)
  · rw [bI_t q, bI_t (by omega)]
  · rw [bI_f q, bI_f (by omega)]
theorem s8_hasShopDoors {s z : Int} (R : RV E B n) (hs : i32 s) (hz : i32 z) : fX8_hasShopDoors (E.1 + co) (iI s) (iI z) (St E B) = some (iI (bI ((0 ≤ s ∧ s < B.1 n 8) ∧ (0 ≤ z ∧ z < ((2 ^ (B.1 n 9).toNat : Nat) : Int)))), St E B) := by
  obtain ⟨⟨rc, rn, rk, rm⟩, rw1, -⟩ := R
  simp only [fX8_hasShopDoors, fX8_hasShopDoors_b26, c8 rc, g8_7 rc rn, s_hasShop hs rk rw1, s_hasDoors hz rk rw1, some_bind, iI_0, ib]
  by_cases c1 : 0 ≤ s ∧ s < B.1 n 8
  · rw [if_pos c1]
    by_cases c2 : 0 ≤ z ∧ z < ((2 ^ (B.1 n 9).toNat : Nat) : Int)
    · rw [if_pos c2, bI_t ⟨c1, c2⟩]
    · rw [if_neg c2, bI_f (fun q => c2 q.2)]
  · rw [if_neg c1, bI_f (fun q => c1 q.1)]
theorem TUV_at {i : Int} {r S G L k c0 : Nat} (h : TUV B r V i) (N : RN V i S G L k) (hc0 : scV V i = (c0 : Int)) : TUS B r V S G L c0 (V.1 4).toNat := by
  obtain ⟨S', G', L', k', c0', a1, a2, a3⟩ := h
  obtain ⟨rfl, rfl, rfl, rfl⟩ := RN_u N a1
  rw [show c0' = c0 by omega] at a3
  exact a3
/-- the least sand for a set of doors, pure -/
def toQ (V : Vy) (S G L c0 set s : Nat) : Prop := ∃ h c l u m', h ≤ (V.1 4).toNat ∧ (m' < 32 ∧ set &&& m' = set) ∧ PtD V S G L c0 h c l s u m'
theorem o_tour {s z : Int} (Q : RQ E B n d) (dd : DD (vyN B n)) (hs : i32 s) (hz : i32 z) : QM E B n d (fX8_tour (E.1 + co) (iI s) (iI z)) (fX9_tour (E.1 + mo) (iI s) (iI z)) := by
  have Q' := Q
  obtain ⟨R, ⟨hn, hd⟩, -⟩ := Q'
  have R' := R
  obtain ⟨⟨rc, rn, rk, rm⟩, rw1, -⟩ := R'
  obtain ⟨w0, w1, w2, w3, w4, -, -, -, w8, w9⟩ := rw1
  have p5 := p2_le (k := (B.1 n 9).toNat) (by omega)
  by_cases gd : (0 ≤ s ∧ s < B.1 n 8) ∧ (0 ≤ z ∧ z < ((2 ^ (B.1 n 9).toNat : Nat) : Int))
  · obtain ⟨⟨s0, s1⟩, z0, z1⟩ := gd
    obtain ⟨q, rfl⟩ : ∃ q : Nat, s = (q : Int) := ⟨s.toNat, by omega⟩
    obtain ⟨set, rfl⟩ : ∃ zN : Nat, z = (zN : Int) := ⟨z.toNat, by omega⟩
    have hst : 0 < B.1 n 0 := RV_hst R (Or.inl (by omega))
    obtain ⟨S, G, L, k, c0, N, hc0, h4⟩ := rv_RN R hst s1
    have N' := N
    obtain ⟨hV, i0, eS, eG, eL, hk, hS, hG⟩ := N'
    obtain ⟨C, f1, f2, f3, f4⟩ := s8_toursOf Q hst s1
    have evC : vyN C n = vyN B n := ltF_vy f2 (by omega)
    have Rc := f3.1
    have en : ∀ j, C.1 n j = B.1 n j := fun j => by rw [f2.1 n (by omega)]
    have KR := f3.2.2.2.2.1.2.2 q h4
    obtain ⟨tk, ts⟩ := TUV_at f4 N hc0
    have mn := (ts set (by omega)).1
    have l1 : lsP (fun s => toQ (vyN B n) S G L c0 set s) (if tuT C (d + 7 + 4 * q) (set : Int) = 99 then -1 else tuT C (d + 7 + 4 * q) (set : Int)) := by
      obtain ⟨m1, m2, m3⟩ := mn
      by_cases c : tuT C (d + 7 + 4 * q) (set : Int) = 99
      · rw [if_pos c]
        refine Or.inl ⟨rfl, fun s ⟨h, c', l, u, m', a1, a2, a3⟩ => ?_⟩
        have a1' : h ≤ (B.1 n 4).toNat := a1
        have b := PtD_b N hc0 (by show (h : Int) ≤ B.1 n 4; omega) a3
        have := m3 (s : Int) ⟨h, c', l, s, u, m', a1, a2, a3, rfl⟩
        omega
      · rw [if_neg c]
        rcases m1 with e | ⟨h, c', l, s, u, m', a1, a2, a3, a4⟩
        · exact absurd e c
        · refine Or.inr ⟨s, a4, ⟨h, c', l, u, m', a1, a2, a3⟩, fun s' lt ⟨h2, c2, l2, u2, m2', b1, b2, b3⟩ => ?_⟩
          have := m3 (s' : Int) ⟨h2, c2, l2, s', u2, m2', b1, b2, b3, rfl⟩
          omega
    have R0 := rv_0 Rc (show n < 58 by omega)
    have ev0 : vyN (wI C mo 0 0) n = vyN C n := vyN_eq (fun j => w0n (by omega) j) (fun _ _ _ _ => rfl)
    have P0 := MP_rv R0 hn (by rw [w0n (by omega), en]; exact hst)
    rw [ev0, evC] at P0
    obtain ⟨sA, X1, a1, a2⟩ := m_startU (set := set) rm P0 (by omega) N hc0
    obtain ⟨sB, r2, a3, a4, a5⟩ := m_tL rm hS hG (show set < 32 by omega) a2
    obtain ⟨sC, X3, r3, a6, a7, a8⟩ := m_tourRun (x1 := iI (q : Int)) rm N (show set < 32 by omega) a4 a5
    have b := mxP_b a8
    have key : ∀ s, (∃ h c l u, h ≤ ((vyN B n).1 4).toNat ∧ PtU (vyN B n) S G L c0 set h c l s u set) ↔ toQ (vyN B n) S G L c0 set s := fun s => by
      constructor
      · rintro ⟨h, c, l, u, b1, b2⟩
        have b1' : h ≤ (B.1 n 4).toNat := b1
        obtain ⟨M, w1, w2⟩ := (Pt_set N hc0 dd (by omega) (by show (h : Int) ≤ B.1 n 4; omega) c l s u set).mp b2
        have bb := PtD_b N hc0 (by show (h : Int) ≤ B.1 n 4; omega) w1
        exact ⟨h, c, l, u, M, b1, ⟨bb.2.2.2.2.2, by rw [Nat.and_comm, ← w2]⟩, w1⟩
      · rintro ⟨h, c, l, u, M, b1, ⟨b2, b3⟩, w1⟩
        have b1' : h ≤ (B.1 n 4).toNat := b1
        exact ⟨h, c, l, u, b1, (Pt_set N hc0 dd (by omega) (by show (h : Int) ≤ B.1 n 4; omega) c l s u set).mpr ⟨M, w1, by rw [Nat.and_comm, b3]⟩⟩
    have s0' : sc C (wI C mo 0 0) := sc_I (by unfold msv; omega)
    obtain ⟨x', y', l', f', g', m', u', v', e3⟩ := a7.1
    have scx : sc C (frW X3 x' y' l' f' g' m' u' v') := sc_tr (sc_tr s0' a7.2.1) frW_sc
    have hd : fX9_tour (E.1 + mo) (iI (q : Int)) (iI (set : Int)) (St E C) = if iI r3 = iI (-1) then some (iI (-1), sC) else ((gR sC (E.1 + mo) 9 21).bind fun v16 => (aI sC v16 (((iI 6) * iI (q : Int)) + (iI 3))).bind fun v17 => some (v17 - iI r3, sC)) := by
      unfold fX9_tour
      rw [c9 rm.1, some_bind, p9_0 rm.1, some_bind, rg_isShop Rc hn hs, some_bind]
      dsimp only
      rw [if_neg (fun w => (bI_0.mp w) ⟨s0, by rw [en]; exact s1⟩), rg_isDoors Rc hn hz, some_bind]
      dsimp only
      rw [if_neg (fun w => (bI_0.mp w) ⟨z0, by rw [en]; exact z1⟩), a1, some_bind, a3, some_bind]
      dsimp only
      rw [a6, some_bind]
    have fin : ∃ r, fX9_tour (E.1 + mo) (iI (q : Int)) (iI (set : Int)) (St E C) = some (iI r, St E (frW X3 x' y' l' f' g' m' u' v')) ∧ lsP (fun s => toQ (vyN B n) S G L c0 set s) r := by
      rw [hd, e3]
      rcases a8 with ⟨q1, q2⟩ | ⟨s, q1, q2, q3, q4⟩
      · rw [if_pos (by rw [q1])]
        exact ⟨-1, rfl, Or.inl ⟨rfl, fun s w => q2 s ((key s).mpr w)⟩⟩
      · have sh : (frW X3 x' y' l' f' g' m' u' v').2.2.2.1 (mo + 10) (6 * (q : Int) + 3) = (S : Int) := by
          rw [sc_r scx (by omega), vr_s Rc (by omega) (by rw [en]; exact s1) (by omega) (by omega)]
          have : (vyN C n).2.2.1 (q : Int) 3 = (S : Int) := by rw [evC]; exact eS
          exact this
        rw [if_neg (fun w => by rw [iI_eq (by omega) (by omega) (by omega) (by omega)] at w; omega), g9_21 rm.1, some_bind, iI_mul, iI_add, aI_ok (mk10 rm) (by omega) (by omega) (by omega), some_bind, sh, iI_sub]
        exact ⟨_, rfl, Or.inr ⟨s, by omega, (key s).mp q3, fun s' lt w => q4 s' lt ((key s').mpr w)⟩⟩
    obtain ⟨r, g1, g2⟩ := fin
    have er := lsP_u g2 l1
    refine ⟨iI r, C, _, ?_, g1, f2, scx, f3⟩
    unfold fX8_tour
    rw [c8 rc, some_bind, s8_hasShopDoors R hs hz, some_bind]
    dsimp only
    rw [if_neg (fun w => (bI_0.mp w) ⟨⟨s0, s1⟩, z0, z1⟩), f1, some_bind]
    dsimp only
    rw [s2_sandOfTour KR.1 KR.2.2.1 tk (by omega), some_bind, er]
  · refine QM_no Q (v := iI (-2)) ?_ ?_
    · unfold fX8_tour
      rw [c8 rc, some_bind, s8_hasShopDoors R hs hz, some_bind]
      dsimp only
      rw [if_pos (bI_0.mpr gd)]
    · simp only [fX9_tour, fX9_tour_b21, c9 rm.1, p9_0 rm.1, some_bind, rg_isShop R hn hs, rg_isDoors R hn hz, iI_0, ib]
      by_cases c1 : 0 ≤ s ∧ s < B.1 n 8
      · rw [if_pos c1, if_neg (fun w => gd ⟨c1, w⟩)]
      · rw [if_neg c1]
end TOU
