/-! meet and rope: both answer alike, the questions -/
def nearP (V : Vy) (K : Int → Int) (h : Nat) (a x y l : Int) : Prop := ∃ x1 y1 l1, (x - a ≤ x1 ∧ x1 ≤ x + a) ∧ (y - a ≤ y1 ∧ y1 ≤ y + a) ∧ (l - a ≤ l1 ∧ l1 ≤ l + a) ∧ onK V K h x1 y1 l1
def mt4 (V : Vy) (K : Int → Int) (P : StP) (h : Nat) (a : Int) (x y l : Nat) : Prop := (∃ t u, P (y * 8 + x) l t u 0) ∧ nearP V K h a (x : Int) (y : Int) (l : Int)
def mt3 (V : Vy) (K : Int → Int) (P : StP) (h : Nat) (a : Int) (k x y : Nat) : Prop := ∃ l, l < k ∧ mt4 V K P h a x y l
def mt2 (V : Vy) (K : Int → Int) (P : StP) (h : Nat) (a : Int) (k dp x : Nat) : Prop := ∃ y, y < dp ∧ mt3 V K P h a k x y
def mt1 (V : Vy) (K : Int → Int) (P : StP) (h : Nat) (a : Int) (k dp wd : Nat) : Prop := ∃ x, x < wd ∧ mt2 V K P h a k dp x
section MEF
variable {E : Ev} {B C X : Bk} {n d : Nat} {V : Vy} {F G : Nat} {P : StP}
theorem m_mt3 {h x y k : Nat} {a : Int} {s : Hp} (rm : mKd E mo) (hV : VOK V) (hF : F ≤ 9) (hG : G ≤ 9) (hh : h < 24) (a0 : 0 ≤ a ∧ a ≤ 1) (hk : V.1 3 = (k : Int)) (x0 : (x : Int) < V.1 1) (y0 : (y : Int) < V.1 2) (hkb : ∀ x y l : Int, ((0 ≤ x ∧ x < V.1 1) ∧ (0 ≤ y ∧ y < V.1 2)) ∧ (0 ≤ l ∧ l < V.1 3) → X.2.2.2.1 (mo + 25) (320 * (h : Int) + ((x * 8 + y) * 5 + l)) = 0 ∨ X.2.2.2.1 (mo + 25) (320 * (h : Int) + ((x * 8 + y) * 5 + l)) = 1) (R : RfS E B V 0 F G P X s) : ∃ z s', iter (fX9_meetBy_l64 (E.1 + mo) (iI a) (iI (h : Int)) (iI (x : Int)) (iI (y : Int))) FU (iI 0, s) = some z ∧ RfS E B V 0 F G P X s' ∧ ((z = Sum.inl s' ∧ ¬ mt3 V (X.2.2.2.1 (mo + 25)) P h a k x y) ∨ (z = Sum.inr s' ∧ mt3 V (X.2.2.2.1 (mo + 25)) P h a k x y)) := by
  have v1 := hV.1
  have v2 := hV.2.1
  have v3 := hV.2.2.1
  have body : ∀ (j : Nat) (s : Hp), j < k → RfS E B V 0 F G P X s → ∃ s', RfS E B V 0 F G P X s' ∧ (¬ mt4 V (X.2.2.2.1 (mo + 25)) P h a x y j → fX9_meetBy_l64 (E.1 + mo) (iI a) (iI (h : Int)) (iI (x : Int)) (iI (y : Int)) (iI (j : Int), s) = some (.inl (iI ((j : Int) + 1), s'))) ∧ (mt4 V (X.2.2.2.1 (mo + 25)) P h a x y j → fX9_meetBy_l64 (E.1 + mo) (iI a) (iI (h : Int)) (iI (x : Int)) (iI (y : Int)) (iI (j : Int), s) = some (.inr (.inr s'))) := by
    intro j s hj hs
    have nl : ¬ iI (k : Int) ≤ iI (j : Int) := by rw [iI_le (by omega) (by omega) (by omega) (by omega)]; omega
    obtain ⟨n1, -, -, n2⟩ := m_num rm hs
    rw [hk] at n2
    obtain ⟨s3, r3, g3, g4, g5⟩ := m_mL (x := x) (y := y) (l := j) rm hF hG x0 y0 (by omega) hs
    have nb := mLP_neg g5
    obtain ⟨b, b1, b2⟩ := m_isNear (h := h) (x := (x : Int)) (y := (y : Int)) (l := (j : Int)) (a := a) rm hV hh a0 (by omega) (by omega) (by omega) hkb g4
    have hd : fX9_meetBy_l64 (E.1 + mo) (iI a) (iI (h : Int)) (iI (x : Int)) (iI (y : Int)) (iI (j : Int), s) = if iI r3 = iI (-1) then some (.inl (iI ((j : Int) + 1), s3)) else if iI b = 0 then some (.inl (iI ((j : Int) + 1), s3)) else some (.inr (.inr s3)) := by
      unfold fX9_meetBy_l64 fX9_meetBy_b108
      dsimp only
      rw [n1, some_bind, n2, some_bind, if_neg nl, g3, some_bind]
      dsimp only
      rw [b1, some_bind, iI_add]
    rw [hd]
    refine ⟨s3, g4, fun no => ?_, fun yes => ?_⟩
    · by_cases q : r3 = -1
      · rw [if_pos (by rw [q])]
      · rw [if_neg (fun w => q ((iI_eq (by omega) (by omega) (by omega) (by omega)).mp w))]
        rcases b2 with ⟨rfl, -⟩ | ⟨-, w⟩
        · rw [if_pos (by decide)]
        · exfalso
          rcases g5 with ⟨e, -⟩ | ⟨t, -, -, ⟨u, pw⟩, -⟩
          · exact q e
          · exact no ⟨⟨t, u, pw⟩, w⟩
    · obtain ⟨⟨t, u, pw⟩, w⟩ := yes
      rw [if_neg (fun e => nb.2.mp ((iI_eq (by omega) (by omega) (by omega) (by omega)).mp e) t u pw)]
      rcases b2 with ⟨-, w2⟩ | ⟨rfl, -⟩
      · exact absurd w w2
      · rw [if_neg (by decide)]
  obtain ⟨z, e1, e2⟩ := iter_seek (F := fX9_meetBy_l64 (E.1 + mo) (iI a) (iI (h : Int)) (iI (x : Int)) (iI (y : Int))) (fun j q => ∃ s', q = (iI j, s') ∧ RfS E B V 0 F G P X s') (fun j => mt4 V (X.2.2.2.1 (mo + 25)) P h a x y j.toNat) (fun j r => ∃ s', r = Sum.inr s' ∧ RfS E B V 0 F G P X s') (fun r => ∃ s', r = Sum.inl s' ∧ RfS E B V 0 F G P X s') 0 (k : Int)
    (fun j q j0 j1 hq np => by
      obtain ⟨s', rfl, hs⟩ := hq
      obtain ⟨l, rfl⟩ : ∃ l : Nat, j = (l : Int) := ⟨j.toNat, by omega⟩
      rw [Int.toNat_natCast] at np
      obtain ⟨s2, g1, g2, -⟩ := body l s' (by omega) hs
      exact ⟨_, g2 np, s2, rfl, g1⟩)
    (fun j q j0 j1 hq np => by
      obtain ⟨s', rfl, hs⟩ := hq
      obtain ⟨l, rfl⟩ : ∃ l : Nat, j = (l : Int) := ⟨j.toNat, by omega⟩
      rw [Int.toNat_natCast] at np
      obtain ⟨s2, g1, -, g2⟩ := body l s' (by omega) hs
      exact ⟨_, g2 np, s2, rfl, g1⟩)
    (fun q hq => by
      obtain ⟨s', rfl, hs⟩ := hq
      obtain ⟨n1, -, -, n2⟩ := m_num rm hs
      refine ⟨_, ?_, s', rfl, hs⟩
      unfold fX9_meetBy_l64
      dsimp only
      rw [n1, some_bind, n2, some_bind, hk, if_pos (by rw [iI_le (by omega) (by omega) (by omega) (by omega)]; omega)])
    (by omega) (N := FU) (FU_big (by omega)) (a := (iI 0, s)) ⟨s, rfl, R⟩
  rcases e2 with ⟨j, j0, j1, w, -, s', e, hs⟩ | ⟨np, s', e, hs⟩
  · exact ⟨z, s', e1, hs, Or.inr ⟨e, j.toNat, by omega, w⟩⟩
  · exact ⟨z, s', e1, hs, Or.inl ⟨e, fun ⟨l, l1, w⟩ => np (l : Int) (by omega) (by omega) (by rw [Int.toNat_natCast]; exact w)⟩⟩
theorem m_mt2 {h x k dp : Nat} {a : Int} {s : Hp} (rm : mKd E mo) (hV : VOK V) (hF : F ≤ 9) (hG : G ≤ 9) (hh : h < 24) (a0 : 0 ≤ a ∧ a ≤ 1) (hk : V.1 3 = (k : Int)) (hd : V.1 2 = (dp : Int)) (x0 : (x : Int) < V.1 1) (hkb : ∀ x y l : Int, ((0 ≤ x ∧ x < V.1 1) ∧ (0 ≤ y ∧ y < V.1 2)) ∧ (0 ≤ l ∧ l < V.1 3) → X.2.2.2.1 (mo + 25) (320 * (h : Int) + ((x * 8 + y) * 5 + l)) = 0 ∨ X.2.2.2.1 (mo + 25) (320 * (h : Int) + ((x * 8 + y) * 5 + l)) = 1) (R : RfS E B V 0 F G P X s) : ∃ z s', iter (fX9_meetBy_l50 (E.1 + mo) (iI a) (iI (h : Int)) (iI (x : Int))) FU (iI 0, s) = some z ∧ RfS E B V 0 F G P X s' ∧ ((z = Sum.inl s' ∧ ¬ mt2 V (X.2.2.2.1 (mo + 25)) P h a k dp x) ∨ (z = Sum.inr s' ∧ mt2 V (X.2.2.2.1 (mo + 25)) P h a k dp x)) := by
  have v2 := hV.2.1
  obtain ⟨z, e1, e2⟩ := iter_seek (F := fX9_meetBy_l50 (E.1 + mo) (iI a) (iI (h : Int)) (iI (x : Int))) (fun j q => ∃ s', q = (iI j, s') ∧ RfS E B V 0 F G P X s') (fun j => mt3 V (X.2.2.2.1 (mo + 25)) P h a k x j.toNat) (fun j r => ∃ s', r = Sum.inr s' ∧ RfS E B V 0 F G P X s') (fun r => ∃ s', r = Sum.inl s' ∧ RfS E B V 0 F G P X s') 0 (dp : Int)
    (fun j q j0 j1 hq np => by
      obtain ⟨s', rfl, hs⟩ := hq
      obtain ⟨y, rfl⟩ : ∃ y : Nat, j = (y : Int) := ⟨j.toNat, by omega⟩
      rw [Int.toNat_natCast] at np
      have nl : ¬ iI (dp : Int) ≤ iI (y : Int) := by rw [iI_le (by omega) (by omega) (by omega) (by omega)]; omega
      obtain ⟨n1, -, n2, -⟩ := m_num rm hs
      obtain ⟨z, s2, g1, g2, g3⟩ := m_mt3 (y := y) rm hV hF hG hh a0 hk x0 (by omega) hkb hs
      refine ⟨_, ?_, s2, rfl, g2⟩
      unfold fX9_meetBy_l50
      dsimp only
      rw [n1, some_bind, n2, some_bind, hd, if_neg nl, g1, some_bind]
      rcases g3 with ⟨rfl, -⟩ | ⟨-, w⟩
      · rw [iI_add]
        rfl
      · exact absurd w np)
    (fun j q j0 j1 hq np => by
      obtain ⟨s', rfl, hs⟩ := hq
      obtain ⟨y, rfl⟩ : ∃ y : Nat, j = (y : Int) := ⟨j.toNat, by omega⟩
      rw [Int.toNat_natCast] at np
      have nl : ¬ iI (dp : Int) ≤ iI (y : Int) := by rw [iI_le (by omega) (by omega) (by omega) (by omega)]; omega
      obtain ⟨n1, -, n2, -⟩ := m_num rm hs
      obtain ⟨z, s2, g1, g2, g3⟩ := m_mt3 (y := y) rm hV hF hG hh a0 hk x0 (by omega) hkb hs
      refine ⟨_, ?_, s2, rfl, g2⟩
      unfold fX9_meetBy_l50
      dsimp only
      rw [n1, some_bind, n2, some_bind, hd, if_neg nl, g1, some_bind]
      rcases g3 with ⟨-, w⟩ | ⟨rfl, -⟩
      · exact absurd np w
      · rfl)
    (fun q hq => by
      obtain ⟨s', rfl, hs⟩ := hq
      obtain ⟨n1, -, n2, -⟩ := m_num rm hs
      refine ⟨_, ?_, s', rfl, hs⟩
      unfold fX9_meetBy_l50
      dsimp only
      rw [n1, some_bind, n2, some_bind, hd, if_pos (by rw [iI_le (by omega) (by omega) (by omega) (by omega)]; omega)])
    (by omega) (N := FU) (FU_big (by omega)) (a := (iI 0, s)) ⟨s, rfl, R⟩
  rcases e2 with ⟨j, j0, j1, w, -, s', e, hs⟩ | ⟨np, s', e, hs⟩
  · exact ⟨z, s', e1, hs, Or.inr ⟨e, j.toNat, by omega, w⟩⟩
  · exact ⟨z, s', e1, hs, Or.inl ⟨e, fun ⟨l, l1, w⟩ => np (l : Int) (by omega) (by omega) (by rw [Int.toNat_natCast]; exact w)⟩⟩
theorem m_mt1 {h k dp wd : Nat} {a : Int} {s : Hp} (rm : mKd E mo) (hV : VOK V) (hF : F ≤ 9) (hG : G ≤ 9) (hh : h < 24) (a0 : 0 ≤ a ∧ a ≤ 1) (hk : V.1 3 = (k : Int)) (hd : V.1 2 = (dp : Int)) (hw : V.1 1 = (wd : Int)) (hkb : ∀ x y l : Int, ((0 ≤ x ∧ x < V.1 1) ∧ (0 ≤ y ∧ y < V.1 2)) ∧ (0 ≤ l ∧ l < V.1 3) → X.2.2.2.1 (mo + 25) (320 * (h : Int) + ((x * 8 + y) * 5 + l)) = 0 ∨ X.2.2.2.1 (mo + 25) (320 * (h : Int) + ((x * 8 + y) * 5 + l)) = 1) (R : RfS E B V 0 F G P X s) : ∃ z s', iter (fX9_meetBy_l36 (E.1 + mo) (iI a) (iI (h : Int))) FU (iI 0, s) = some z ∧ RfS E B V 0 F G P X s' ∧ ((z = Sum.inl s' ∧ ¬ mt1 V (X.2.2.2.1 (mo + 25)) P h a k dp wd) ∨ (z = Sum.inr s' ∧ mt1 V (X.2.2.2.1 (mo + 25)) P h a k dp wd)) := by
  have v1 := hV.1
  obtain ⟨z, e1, e2⟩ := iter_seek (F := fX9_meetBy_l36 (E.1 + mo) (iI a) (iI (h : Int))) (fun j q => ∃ s', q = (iI j, s') ∧ RfS E B V 0 F G P X s') (fun j => mt2 V (X.2.2.2.1 (mo + 25)) P h a k dp j.toNat) (fun j r => ∃ s', r = Sum.inr s' ∧ RfS E B V 0 F G P X s') (fun r => ∃ s', r = Sum.inl s' ∧ RfS E B V 0 F G P X s') 0 (wd : Int)
    (fun j q j0 j1 hq np => by
      obtain ⟨s', rfl, hs⟩ := hq
      obtain ⟨x, rfl⟩ : ∃ x : Nat, j = (x : Int) := ⟨j.toNat, by omega⟩
      rw [Int.toNat_natCast] at np
      have nl : ¬ iI (wd : Int) ≤ iI (x : Int) := by rw [iI_le (by omega) (by omega) (by omega) (by omega)]; omega
      obtain ⟨n1, n2, -, -⟩ := m_num rm hs
      obtain ⟨z, s2, g1, g2, g3⟩ := m_mt2 (x := x) rm hV hF hG hh a0 hk hd (by omega) hkb hs
      refine ⟨_, ?_, s2, rfl, g2⟩
      unfold fX9_meetBy_l36
      dsimp only
      rw [n1, some_bind, n2, some_bind, hw, if_neg nl, g1, some_bind]
      rcases g3 with ⟨rfl, -⟩ | ⟨-, w⟩
      · rw [iI_add]
        rfl
      · exact absurd w np)
    (fun j q j0 j1 hq np => by
      obtain ⟨s', rfl, hs⟩ := hq
      obtain ⟨x, rfl⟩ : ∃ x : Nat, j = (x : Int) := ⟨j.toNat, by omega⟩
      rw [Int.toNat_natCast] at np
      have nl : ¬ iI (wd : Int) ≤ iI (x : Int) := by rw [iI_le (by omega) (by omega) (by omega) (by omega)]; omega
      obtain ⟨n1, n2, -, -⟩ := m_num rm hs
      obtain ⟨z, s2, g1, g2, g3⟩ := m_mt2 (x := x) rm hV hF hG hh a0 hk hd (by omega) hkb hs
      refine ⟨_, ?_, s2, rfl, g2⟩
      unfold fX9_meetBy_l36
      dsimp only
      rw [n1, some_bind, n2, some_bind, hw, if_neg nl, g1, some_bind]
      rcases g3 with ⟨-, w⟩ | ⟨rfl, -⟩
      · exact absurd np w
      · rfl)
    (fun q hq => by
      obtain ⟨s', rfl, hs⟩ := hq
      obtain ⟨n1, n2, -, -⟩ := m_num rm hs
      refine ⟨_, ?_, s', rfl, hs⟩
      unfold fX9_meetBy_l36
      dsimp only
      rw [n1, some_bind, n2, some_bind, hw, if_pos (by rw [iI_le (by omega) (by omega) (by omega) (by omega)]; omega)])
    (by omega) (N := FU) (FU_big (by omega)) (a := (iI 0, s)) ⟨s, rfl, R⟩
  rcases e2 with ⟨j, j0, j1, w, -, s', e, hs⟩ | ⟨np, s', e, hs⟩
  · exact ⟨z, s', e1, hs, Or.inr ⟨e, j.toNat, by omega, w⟩⟩
  · exact ⟨z, s', e1, hs, Or.inl ⟨e, fun ⟨l, l1, w⟩ => np (l : Int) (by omega) (by omega) (by rw [Int.toNat_natCast]; exact w)⟩⟩
theorem kbR_b {K : Int → Int} {S G L c0 j h : Nat} (kb : kbR K V S G L c0 j) (hh : h < j) {x y l : Int} (c : ((0 ≤ x ∧ x < V.1 1) ∧ (0 ≤ y ∧ y < V.1 2)) ∧ (0 ≤ l ∧ l < V.1 3)) : (K (320 * (h : Int) + ((x * 8 + y) * 5 + l)) = 1 ∧ ∃ t u, P0t V S G L c0 (h + 1) (y * 8 + x).toNat l.toNat t u 0) ∨ (K (320 * (h : Int) + ((x * 8 + y) * 5 + l)) = 0 ∧ ¬ ∃ t u, P0t V S G L c0 (h + 1) (y * 8 + x).toNat l.toNat t u 0) := by
  have := kb h x.toNat y.toNat l.toNat hh (by omega) (by omega) (by omega)
  rw [show (((x.toNat * 8 + y.toNat) * 5 + l.toNat : Nat) : Int) = (x * 8 + y) * 5 + l by omega, show y.toNat * 8 + x.toNat = (y * 8 + x).toNat by omega] at this
  exact this
/-- two shops near each other behind an hour, pure -/
def tgP (V : Vy) (S G L c0 S2 G2 L2 c02 : Nat) (a h : Nat) : Prop := ∃ l c l1 c1 : Nat, (∃ t u, P0t V S G L c0 (h + 1) c l t u 0) ∧ (∃ t u, P0t V S2 G2 L2 c02 (h + 1) c1 l1 t u 0) ∧ (l1 ≤ l + a ∧ l ≤ l1 + a) ∧ nrC a c1 c
theorem mt1_tg {K : Int → Int} {S G L c0 S2 G2 L2 c02 a h k dp wd : Nat} {i i2 : Int} (N : RN V i S G L k) (hc0 : scV V i = (c0 : Int)) (N2 : RN V i2 S2 G2 L2 k) (hc02 : scV V i2 = (c02 : Int)) (hd : V.1 2 = (dp : Int)) (hw : V.1 1 = (wd : Int)) (kb : kbR K V S G L c0 (V.1 4).toNat) (hh : (h : Int) < V.1 4) (ha : a ≤ 1) : mt1 V K (P0t V S2 G2 L2 c02 (h + 1)) h (a : Int) k dp wd ↔ tgP V S G L c0 S2 G2 L2 c02 a h := by
  have hV := N.1
  have hk := N.2.2.2.2.2.1
  have v1 := hV.1
  have v2 := hV.2.1
  have v3 := hV.2.2.1
  constructor
  · rintro ⟨x, x0, y, y0, l, l0, ⟨t, u, w⟩, x1, y1, l1, bx, by', bl, c, k1⟩
    have kv := kbR_b kb (show h < (V.1 4).toNat by omega) c
    rcases kv with ⟨-, t2, u2, w2⟩ | ⟨e, -⟩
    · refine ⟨l1.toNat, (y1 * 8 + x1).toNat, l, y * 8 + x, ⟨t2, u2, w2⟩, ⟨t, u, w⟩, by omega, ?_⟩
      unfold nrC
      omega
    · omega
  · rintro ⟨l, c, l1, c1, ⟨t, u, w⟩, ⟨t2, u2, w2⟩, bl, nr⟩
    have ck := P0_c N hc0 (by omega) w
    have b := P0_b N hc0 (by omega) w
    have ck2 := P0_c N2 hc02 (by omega) w2
    have b2 := P0_b N2 hc02 (by omega) w2
    unfold cOK at ck ck2
    unfold nrC at nr
    have cc : ((0 ≤ ((c % 8 : Nat) : Int) ∧ ((c % 8 : Nat) : Int) < V.1 1) ∧ (0 ≤ ((c / 8 : Nat) : Int) ∧ ((c / 8 : Nat) : Int) < V.1 2)) ∧ (0 ≤ (l : Int) ∧ (l : Int) < V.1 3) := by omega
    have kv := kbR_b kb (show h < (V.1 4).toNat by omega) cc
    rw [show (((c / 8 : Nat) : Int) * 8 + ((c % 8 : Nat) : Int)).toNat = c by omega, Int.toNat_natCast] at kv
    refine ⟨c1 % 8, by omega, c1 / 8, by omega, l1, b2.2.1, ⟨t2, u2, by rw [show c1 / 8 * 8 + c1 % 8 = c1 by omega]; exact w2⟩, ((c % 8 : Nat) : Int), ((c / 8 : Nat) : Int), (l : Int), by omega, by omega, by omega, cc, ?_⟩
    rcases kv with ⟨e, -⟩ | ⟨-, no⟩
    · exact e
    · exact absurd ⟨t, u, w⟩ no
theorem tgB_tg {r1 r2 S G L c0 S2 G2 L2 c02 a h k : Nat} {i i2 : Int} (N : RN V i S G L k) (hc0 : scV V i = (c0 : Int)) (N2 : RN V i2 S2 G2 L2 k) (hc02 : scV V i2 = (c02 : Int)) (cl : CLI B r1 V S G L c0 (V.1 4).toNat) (cl2 : CLI B r2 V S2 G2 L2 c02 (V.1 4).toNat) (hh : (h : Int) < V.1 4) : tgB B r1 r2 k a h ↔ tgP V S G L c0 S2 G2 L2 c02 a h := by
  have hk := N.2.2.2.2.2.1
  have v3 := N.1.2.2.1
  constructor
  · rintro ⟨l, c, l1, c1, ⟨a1, a2, a3⟩, ⟨b1, b2, b3⟩, e1, e2⟩
    exact ⟨l, c, l1, c1, (hiN_P N hc0 cl hh (by omega) a2).mp a3, (hiN_P N2 hc02 cl2 hh (by omega) b2).mp b3, e1, e2⟩
  · rintro ⟨l, c, l1, c1, ⟨t, u, w⟩, ⟨t2, u2, w2⟩, e1, e2⟩
    have b := P0_b N hc0 (by omega) w
    have b2 := P0_b N2 hc02 (by omega) w2
    exact ⟨l, c, l1, c1, ⟨b.2.1, b.1, (hiN_P N hc0 cl hh (by omega) b.1).mpr ⟨t, u, w⟩⟩, ⟨b2.2.1, b2.1, (hiN_P N2 hc02 cl2 hh (by omega) b2.1).mpr ⟨t2, u2, w2⟩⟩, e1, e2⟩
end MEF
