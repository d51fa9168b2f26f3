/-! meet and rope: the questions -/
section MEG
variable {E : Ev} {B C X : Bk} {n d : Nat}
theorem rg_areTwo {x y : Int} (R : RV E C n) (hn : n < 50) (hx : i32 x) (hy : i32 y) : fX9_areTwo (E.1 + mo) (iI x) (iI y) (St E (wI C mo 0 0)) = some (iI (bI ((0 ≤ x ∧ x < C.1 n 8) ∧ (0 ≤ y ∧ y < C.1 n 8) ∧ ¬ x = y)), St E (wI C mo 0 0)) := by
  obtain ⟨x0, x1⟩ := hx
  obtain ⟨y0, y1⟩ := hy
  simp only [fX9_areTwo, fX9_areTwo_b25, c9 R.1.2.2.2.1, rg_isShop R hn ⟨x0, x1⟩, rg_isShop R hn ⟨y0, y1⟩, some_bind, iI_0, ib]
  by_cases q0 : 0 ≤ x ∧ x < C.1 n 8
  · rw [if_pos q0]
    by_cases q1 : 0 ≤ y ∧ y < C.1 n 8
    · rw [if_pos q1]
      by_cases q2 : x = y
      · rw [if_pos (by rw [q2]), bI_f (fun w => w.2.2 q2)]
      · rw [if_neg (fun w => q2 ((iI_eq x0 x1 y0 y1).mp w)), bI_t ⟨q0, q1, q2⟩]
    · rw [if_neg q1, bI_f (fun w => q1 w.2.1)]
  · rw [if_neg q0, bI_f (fun w => q0 w.1)]
theorem m_meetBy {V : Vy} {S G L S2 G2 L2 k c0 c02 q q2 a : Nat} (R : RV E B n) (hn : n < 50) (hst : 0 < B.1 n 0) (eV : vyN B n = V) (N : RN V (q : Int) S G L k) (hc0 : scV V (q : Int) = (c0 : Int)) (N2 : RN V (q2 : Int) S2 G2 L2 k) (hc02 : scV V (q2 : Int) = (c02 : Int)) (ha : a ≤ 1) : ∃ r D, fX9_meetBy (E.1 + mo) (iI (q : Int)) (iI (q2 : Int)) (iI (a : Int)) (St E B) = some (iI r, St E D) ∧ sc B D ∧ lsP (fun h => h < (V.1 4).toNat ∧ tgP V S G L c0 S2 G2 L2 c02 a h) r := by
  have rm := R.1.2.2.2
  have P0 := MP_rv R hn hst
  rw [eV] at P0
  have hV := N.1
  have hk := N.2.2.2.2.2.1
  have v1 := hV.1
  have v2 := hV.2.1
  have v4 := hV.2.2.2.1
  have hS2 := N2.2.2.2.2.2.2.1
  have hG2 := N2.2.2.2.2.2.2.2
  obtain ⟨s1, X1, a1, a2, a3⟩ := m_laysCanBe rm P0 N hc0
  obtain ⟨K, hK⟩ : ∃ K, K = X1.2.2.2.1 (mo + 25) := ⟨_, rfl⟩
  rw [← hK] at a3
  obtain ⟨x, y, l, f, g, m, u, v, e1⟩ := a2.1
  obtain ⟨D1, hD1⟩ : ∃ D1, D1 = frW X1 x y l f g m u v := ⟨_, rfl⟩
  rw [← hD1] at e1
  have sD1 : sc B D1 := by rw [hD1]; exact sc_tr a2.2.1 frW_sc
  have kD1 : D1.2.2.2.1 (mo + 25) = K := by rw [hD1, hK]; rfl
  have R1 := sc_rv sD1 hn R
  have en1 : ∀ j, D1.1 n j = B.1 n j := sc_n sD1 (by omega)
  have ev1 : vyN D1 n = V := by rw [← eV]; exact vyN_eq en1 (fun k z b1 b2 => sc_r sD1 (by have : mo = 58 := rfl; omega) z)
  have P1 := MP_rv R1 hn (by rw [en1]; exact hst)
  rw [ev1] at P1
  obtain ⟨u2, v2', b1, b2⟩ := m_startPX (t := 9) (cnt := 0) rm P1 (by omega) N2 hc02 (by omega)
  rw [show min 9 S2 = S2 by omega, mkU_0] at b2 b1
  obtain ⟨sS, hsS⟩ : ∃ sS, sS = St E (frW (stX D1 V 0 (q2 : Int) ((9 : Nat) : Int)) (V.2.2.1 (q2 : Int) 0) (V.2.2.1 (q2 : Int) 1) (L2 : Int) (S2 : Int) (G2 : Int) (U0 L2 c02 0 : Int) u2 v2') := ⟨_, rfl⟩
  rw [← hsS] at b1
  have R2 := b2 sS ⟨_, _, _, _, _, _, _, _, hsS⟩
  obtain ⟨wd, hwd⟩ : ∃ wd : Nat, V.1 1 = (wd : Int) := ⟨(V.1 1).toNat, by omega⟩
  obtain ⟨dp, hdp⟩ : ∃ dp : Nat, V.1 2 = (dp : Int) := ⟨(V.1 2).toNat, by omega⟩
  have hkb : ∀ h : Nat, (h : Int) < V.1 4 → ∀ x y l : Int, ((0 ≤ x ∧ x < V.1 1) ∧ (0 ≤ y ∧ y < V.1 2)) ∧ (0 ≤ l ∧ l < V.1 3) → K (320 * (h : Int) + ((x * 8 + y) * 5 + l)) = 0 ∨ K (320 * (h : Int) + ((x * 8 + y) * 5 + l)) = 1 := fun h hh x y l c => by
    rcases kbR_b a3 (show h < (V.1 4).toNat by omega) c with ⟨e, -⟩ | ⟨e, -⟩
    · exact Or.inr e
    · exact Or.inl e
  obtain ⟨z, e2, e3⟩ := iter_seek (F := fX9_meetBy_l16 (E.1 + mo) (iI (a : Int))) (fun j q => ∃ s' X', q = (iI j, s') ∧ RfS E D1 V 0 S2 G2 (P0t V S2 G2 L2 c02 j.toNat) X' s' ∧ X'.2.2.2.1 (mo + 25) = K) (fun j => mt1 V K (P0t V S2 G2 L2 c02 (j.toNat + 1)) j.toNat (a : Int) k dp wd) (fun j r => ∃ s' X', r = Sum.inr (iI j, s') ∧ RfS E D1 V 0 S2 G2 (P0t V S2 G2 L2 c02 (j.toNat + 1)) X' s') (fun r => ∃ s' X', r = Sum.inl s' ∧ RfS E D1 V 0 S2 G2 (P0t V S2 G2 L2 c02 (V.1 4).toNat) X' s') 0 (V.1 4)
    (fun j q j0 j1 hq np => by
      obtain ⟨s', X', rfl, hs, hx⟩ := hq
      obtain ⟨h, rfl⟩ : ∃ h : Nat, j = (h : Int) := ⟨j.toNat, by omega⟩
      rw [Int.toNat_natCast] at np hs
      have nl : ¬ iI (V.1 4) ≤ iI (h : Int) := by rw [iI_le (by omega) (by omega) (by omega) (by omega)]; omega
      obtain ⟨h1, h2⟩ := m_hour3 rm hs
      obtain ⟨s2, X2, g1, g2, g3⟩ := m_step0R rm hS2 hG2 j1 hs
      have kx : X2.2.2.2.1 (mo + 25) = K := by rw [g3]; exact hx
      obtain ⟨z, s3, g4, g5, g6⟩ := m_mt1 (h := h) (a := (a : Int)) rm hV hS2 hG2 (by omega) (by omega) hk hdp hwd (by rw [kx]; exact hkb h j1) g2
      rw [kx] at g6
      refine ⟨_, ?_, s3, X2, rfl, by rw [show ((h : Int) + 1).toNat = h + 1 by omega]; exact g5, kx⟩
      unfold fX9_meetBy_l16
      dsimp only
      rw [h1, some_bind, h2, some_bind, if_neg nl, g1, some_bind, g4, some_bind]
      rcases g6 with ⟨rfl, -⟩ | ⟨-, w⟩
      · rw [iI_add]
        rfl
      · exact absurd w np)
    (fun j q j0 j1 hq np => by
      obtain ⟨s', X', rfl, hs, hx⟩ := hq
      obtain ⟨h, rfl⟩ : ∃ h : Nat, j = (h : Int) := ⟨j.toNat, by omega⟩
      rw [Int.toNat_natCast] at np hs
      have nl : ¬ iI (V.1 4) ≤ iI (h : Int) := by rw [iI_le (by omega) (by omega) (by omega) (by omega)]; omega
      obtain ⟨h1, h2⟩ := m_hour3 rm hs
      obtain ⟨s2, X2, g1, g2, g3⟩ := m_step0R rm hS2 hG2 j1 hs
      have kx : X2.2.2.2.1 (mo + 25) = K := by rw [g3]; exact hx
      obtain ⟨z, s3, g4, g5, g6⟩ := m_mt1 (h := h) (a := (a : Int)) rm hV hS2 hG2 (by omega) (by omega) hk hdp hwd (by rw [kx]; exact hkb h j1) g2
      rw [kx] at g6
      refine ⟨_, ?_, s3, X2, rfl, by rw [Int.toNat_natCast]; exact g5⟩
      unfold fX9_meetBy_l16
      dsimp only
      rw [h1, some_bind, h2, some_bind, if_neg nl, g1, some_bind, g4, some_bind]
      rcases g6 with ⟨-, w⟩ | ⟨rfl, -⟩
      · exact absurd np w
      · rfl)
    (fun q hq => by
      obtain ⟨s', X', rfl, hs, hx⟩ := hq
      obtain ⟨h1, h2⟩ := m_hour3 rm hs
      refine ⟨_, ?_, s', X', rfl, hs⟩
      unfold fX9_meetBy_l16
      dsimp only
      rw [h1, some_bind, h2, some_bind, if_pos (by rw [iI_le (by omega) (by omega) (by omega) (by omega)]; omega)])
    (by omega) (N := FU) (FU_big (by omega)) (a := (iI 0, sS)) ⟨sS, _, rfl, R2, kD1⟩
  have hd : fX9_meetBy (E.1 + mo) (iI (q : Int)) (iI (q2 : Int)) (iI (a : Int)) (St E B) = Sum.elim (fun r23a => some ((iI (-1)), r23a)) (fun r23b => some (r23b.1, r23b.2)) z := by
    have b1' : fX9_starts (E.1 + mo) (iI (q2 : Int)) (iI 9) (iI 0) (St E D1) = some sS := b1
    unfold fX9_meetBy
    rw [c9 rm.1, some_bind, a1, some_bind, e1, b1', some_bind, e2, some_bind]
  have key : ∀ h : Nat, (h : Int) < V.1 4 → (mt1 V K (P0t V S2 G2 L2 c02 (h + 1)) h (a : Int) k dp wd ↔ tgP V S G L c0 S2 G2 L2 c02 a h) := fun h hh => mt1_tg N hc0 N2 hc02 hdp hwd a3 hh ha
  rcases e3 with ⟨j, j0, j1, w, np, s', X', rfl, hs⟩ | ⟨np, s', X', rfl, hs⟩
  · obtain ⟨h, rfl⟩ : ∃ h : Nat, j = (h : Int) := ⟨j.toNat, by omega⟩
    rw [Int.toNat_natCast] at w
    obtain ⟨D, rfl, sD⟩ := RfS_end hs
    exact ⟨(h : Int), D, hd, sc_tr sD1 sD, Or.inr ⟨h, rfl, ⟨by omega, (key h j1).mp w⟩, fun h' lt ⟨b1, b2⟩ => np (h' : Int) (by omega) (by omega) (by rw [Int.toNat_natCast]; exact (key h' (by omega)).mpr b2)⟩⟩
  · obtain ⟨D, rfl, sD⟩ := RfS_end hs
    exact ⟨-1, D, hd, sc_tr sD1 sD, Or.inl ⟨rfl, fun h' ⟨b1, b2⟩ => np (h' : Int) (by omega) (by omega) (by rw [Int.toNat_natCast]; exact (key h' (by omega)).mpr b2)⟩⟩
theorem o_meetA {s t : Int} {a : Nat} {fx : Nat → Int32 → Int32 → Hp → Option (Int32 × Hp)} {gx : Nat → Int32 → Int32 → Hp → Option (Int32 × Hp)} (ha : a ≤ 1)
    (hf : ∀ x0 x1 x2 s, fx x0 x1 x2 s = ((ck s x0 8).bind fun _ => (gR s x0 8 7).bind fun v1 => (fX6_hasTwoShops v1 x1 x2 s).bind fun r2 => if r2.1 = 0 then (some ((iI (-2)), r2.2)) else ((fX8_reachOf x0 x1 r2.2).bind fun r4 => (fX8_reachOf x0 x2 r4.2).bind fun r5 => (fX8_firstTogether x0 r4.1 r5.1 (iI (a : Int)) r5.2).bind fun r6 => some (r6.1, r6.2))))
    (hg : ∀ x0 x1 x2 s, gx x0 x1 x2 s = ((ck s x0 9).bind fun _ => (pI s x0 9 0 (iI 0)).bind fun s1 => (fX9_areTwo x0 x1 x2 s1).bind fun r2 => if r2.1 = 0 then (some ((iI (-2)), r2.2)) else ((fX9_meetBy x0 x1 x2 (iI (a : Int)) r2.2).bind fun r4 => some (r4.1, r4.2))))
    (Q : RQ E B n d) (hs : i32 s) (ht : i32 t) : QM E B n d (fx (E.1 + co) (iI s) (iI t)) (gx (E.1 + mo) (iI s) (iI t)) := by
  have Q' := Q
  obtain ⟨R, ⟨hn, hd⟩, -⟩ := Q'
  have R' := R
  obtain ⟨⟨rc, rn, rk, rm⟩, rw1, -⟩ := R'
  have rw2 := rw1
  obtain ⟨w0, w1, w2, w3, w4, -, -, -, w8, -⟩ := rw2
  by_cases gd : (0 ≤ s ∧ s < B.1 n 8) ∧ (0 ≤ t ∧ t < B.1 n 8) ∧ ¬ s = t
  · obtain ⟨⟨s0, s1⟩, ⟨t0, t1⟩, ne⟩ := gd
    obtain ⟨q, rfl⟩ : ∃ q : Nat, s = (q : Int) := ⟨s.toNat, by omega⟩
    obtain ⟨q2, rfl⟩ : ∃ q : Nat, t = (q : Int) := ⟨t.toNat, by omega⟩
    have hst : 0 < B.1 n 0 := RV_hst R (Or.inl (by omega))
    obtain ⟨S, G, L, k, c0, N, hc0, h4⟩ := rv_RN R hst s1
    obtain ⟨S2, G2, L2, k', c02, N2, hc02, h42⟩ := rv_RN R hst t1
    have ekk : k' = k := by
      have a1 := N.2.2.2.2.2.1
      have a2 := N2.2.2.2.2.2.1
      omega
    subst ekk
    obtain ⟨C1, f1, f2, f3, f4, -⟩ := s8_reachOf Q hst s1
    have ev1 : vyN C1 n = vyN B n := ltF_vy f2 (by omega)
    have en1 : ∀ j, C1.1 n j = B.1 n j := fun j => by rw [f2.1 n (by omega)]
    obtain ⟨C, p1, p2, p3, p4, p5⟩ := s8_reachOf f3 (by rw [en1]; exact hst) (show (q2 : Int) < C1.1 n 8 by rw [en1]; exact t1)
    have evC : vyN C n = vyN B n := (ltF_vy p2 (by omega)).trans ev1
    have Rc := p3.1
    have lt := ltF_tr f2 p2
    have en : ∀ j, C.1 n j = B.1 n j := fun j => by rw [lt.1 n (by omega)]
    have cl := CLV_at (V := vyN B n) (by rw [ev1] at p5; exact p5 q h4 f4 (by omega)) N hc0
    have cl2 := CLV_at (V := vyN B n) (by rw [ev1] at p4; exact p4) N2 hc02
    have KR := p3.2.2.2.2.1.2.2 q h4
    have KR2 := p3.2.2.2.2.1.2.2 q2 h42
    have hk : B.1 n 3 = (k' : Int) := N.2.2.2.2.2.1
    obtain ⟨v, a1, a2⟩ := s8_firstTogether (B := C) (n := n) (r1 := d + 7 + 4 * q) (r2 := d + 7 + 4 * q2) (k := k') (a := a) (H := (B.1 n 4).toNat) rc Rc.1.2.1 rk KR.1 KR.2.1 KR2.1 KR2.2.1 (by rw [en]; omega) (by omega) (by rw [en]; exact hk) (by omega) ha
    have R0 := rv_0 Rc (show n < 58 by omega)
    have ev0 : vyN (wI C mo 0 0) n = vyN B n := by rw [← evC]; exact vyN_eq (fun j => w0n (by omega) j) (fun _ _ _ _ => rfl)
    obtain ⟨r, D, g1, g2, g3⟩ := m_meetBy (a := a) R0 hn (by rw [w0n (by omega), en]; exact hst) ev0 N hc0 N2 hc02 ha
    have er : r = v := lsP_u g3 (lsP_iff (fun h => by
      constructor
      · rintro ⟨b1, b2⟩
        exact ⟨b1, (tgB_tg N hc0 N2 hc02 cl cl2 (by show (h : Int) < B.1 n 4; omega)).mp b2⟩
      · rintro ⟨b1, b2⟩
        have b1' : h < (B.1 n 4).toNat := b1
        exact ⟨b1, (tgB_tg N hc0 N2 hc02 cl cl2 (by show (h : Int) < B.1 n 4; omega)).mpr b2⟩) a2)
    refine ⟨iI v, C, D, ?_, ?_, lt, sc_tr (sc_I (by unfold msv; omega)) g2, p3⟩
    · rw [hf, c8 rc, some_bind, g8_7 rc rn, some_bind, s_hasTwoShops hs ht rk rw1, some_bind]
      dsimp only
      rw [if_neg (fun w => (bI_0.mp w) ⟨⟨s0, s1⟩, ⟨t0, t1⟩, ne⟩), f1, some_bind]
      dsimp only
      rw [p1, some_bind]
      dsimp only
      rw [a1, some_bind]
    · rw [hg, c9 rm.1, some_bind, p9_0 rm.1, some_bind, rg_areTwo Rc hn hs ht, some_bind]
      dsimp only
      rw [if_neg (fun w => (bI_0.mp w) ⟨⟨s0, by rw [en]; exact s1⟩, ⟨t0, by rw [en]; exact t1⟩, ne⟩), g1, some_bind, er]
  · refine QM_no Q (v := iI (-2)) ?_ ?_
    · rw [hf, c8 rc, some_bind, g8_7 rc rn, some_bind, s_hasTwoShops hs ht rk rw1, some_bind]
      dsimp only
      rw [if_pos (bI_0.mpr gd)]
    · rw [hg, c9 rm.1, some_bind, p9_0 rm.1, some_bind, rg_areTwo R hn hs ht, some_bind]
      dsimp only
      rw [if_pos (bI_0.mpr gd)]
theorem o_meet {s t : Int} (Q : RQ E B n d) (hs : i32 s) (ht : i32 t) : QM E B n d (fX8_meet (E.1 + co) (iI s) (iI t)) (fX9_meet (E.1 + mo) (iI s) (iI t)) := o_meetA (a := 0) (fx := fX8_meet) (gx := fX9_meet) (by omega) (fun _ _ _ _ => rfl) (fun _ _ _ _ => rfl) Q hs ht
theorem o_rope {s t : Int} (Q : RQ E B n d) (hs : i32 s) (ht : i32 t) : QM E B n d (fX8_rope (E.1 + co) (iI s) (iI t)) (fX9_rope (E.1 + mo) (iI s) (iI t)) := o_meetA (a := 1) (fx := fX8_rope) (gx := fX9_rope) (by omega) (fun _ _ _ _ => rfl) (fun _ _ _ _ => rfl) Q hs ht
end MEG
