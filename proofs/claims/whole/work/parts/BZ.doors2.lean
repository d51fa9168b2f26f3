/-! doors: both answer alike, the question -/
section DRQ
variable {E : Ev} {B C X : Bk} {n d : Nat} {V : Vy}
theorem m_doorsRun {i : Int} {S G L k c0 cnt F m0 : Nat} {s : Hp} {x3 : Int32} (rm : mKd E mo) (N : RN V i S G L k) (hc : cnt < 32) (hF : F ≤ 9) (R : RfS E B V cnt F G (Pt V F G (mkU V cnt) 0 (iP c0 L m0) 0) X s) : ∃ s' X', iter (fX9_doors_l58 (E.1 + mo) x3) FU (iI 0, s) = some s' ∧ RfS E B V cnt F G (Pt V F G (mkU V cnt) 0 (iP c0 L m0) (V.1 4).toNat) X' s' := by
  obtain ⟨hV, i0, eS, eG, eL, hk, hS, hG⟩ := N
  have v4 := hV.2.2.2.1
  obtain ⟨z, e1, X', e2⟩ := iter_acc (F := fX9_doors_l58 (E.1 + mo) x3) (fun j a => ∃ s' X', a = (iI (j : Int), s') ∧ RfS E B V cnt F G (Pt V F G (mkU V cnt) 0 (iP c0 L m0) j) X' s') (V.1 4).toNat (fun s' => ∃ X', RfS E B V cnt F G (Pt V F G (mkU V cnt) 0 (iP c0 L m0) (V.1 4).toNat) X' s')
    (fun j a hj ha => by
      have nl : ¬ iI (V.1 4) ≤ iI (j : Int) := by rw [iI_le (by omega) (by omega) (by omega) (by omega)]; omega
      obtain ⟨s', X', rfl, e2⟩ := ha
      obtain ⟨h1, h2⟩ := m_hour3 rm e2
      obtain ⟨s2, X2, g1, g2⟩ := m_stepP (h := j) rm hc hF hG (show (j : Int) < V.1 4 by omega) e2
      refine ⟨(iI ((j + 1 : Nat) : Int), s2), ?_, s2, X2, rfl, g2⟩
      unfold fX9_doors_l58
      dsimp only
      rw [h1, some_bind, h2, some_bind, if_neg nl, g1, some_bind, iI_add]
      rfl)
    (fun a ha => by
      obtain ⟨s', X', rfl, e2⟩ := ha
      obtain ⟨h1, h2⟩ := m_hour3 rm e2
      refine ⟨s', ?_, X', e2⟩
      unfold fX9_doors_l58
      dsimp only
      rw [h1, some_bind, h2, some_bind, if_pos (by rw [iI_le (by omega) (by omega) (by omega) (by omega)]; omega)]) (N := FU) (by show (V.1 4).toNat < 1000000; omega) (a := (iI 0, s)) ⟨s, X, rfl, R⟩
  exact ⟨z, X', e1, e2⟩
theorem s8_doorsL {r D t : Nat} {x3 : Int32} (rc : KD E co 8 13) (rn : B.2.2.1 co 7 = some n) (rk : VK E n) (kd : KD E r 2 5) (k2 : KD E (r + 2) 20 32) (tk : tuK B r) (hD : B.1 n 9 = (D : Int)) (D5 : D ≤ 5) (t9 : t ≤ 9) : ∃ f : Nat, iter (fX8_doors_l43 (E.1 + co) (iI (t : Int)) x3 (E.1 + r)) FU (iI 0, iI 0, St E B) = some (iI (f : Int), St E B) ∧ f < 32 ∧ (∀ z : Nat, z < 2 ^ D → tuT B r (z : Int) ≤ (t : Int) → bet f z) ∧ (f = 0 ∨ (f < 2 ^ D ∧ tuT B r (f : Int) ≤ (t : Int))) := by
  have p5 := p2_le D5
  have b8 : ∀ v : Fin 32, p8 v.val ≤ 5 := by decide
  have is1 : ish (iI 1) (iI (D : Int)) = iI ((2 ^ D : Nat) : Int) := by
    have := ish_ok (k := (D : Int)) (by omega) (by omega)
    rw [Int.toNat_natCast] at this
    exact this
  obtain ⟨z, e1, f, rfl, e2, e3, e4⟩ := iter_acc (F := fX8_doors_l43 (E.1 + co) (iI (t : Int)) x3 (E.1 + r)) (fun j a => ∃ f : Nat, a = (iI (f : Int), iI (j : Int), St E B) ∧ f < 32 ∧ (∀ z : Nat, z < j → tuT B r (z : Int) ≤ (t : Int) → bet f z) ∧ (f = 0 ∨ (f < j ∧ tuT B r (f : Int) ≤ (t : Int)))) (2 ^ D) (fun q => ∃ f : Nat, q = (iI (f : Int), St E B) ∧ f < 32 ∧ (∀ z : Nat, z < 2 ^ D → tuT B r (z : Int) ≤ (t : Int) → bet f z) ∧ (f = 0 ∨ (f < 2 ^ D ∧ tuT B r (f : Int) ≤ (t : Int))))
    (fun j a hj ha => by
      obtain ⟨f, rfl, e2, e3, e4⟩ := ha
      have bj := b8 ⟨j, by omega⟩
      have bf := b8 ⟨f, e2⟩
      simp only at bj bf
      have nl : ¬ iI ((2 ^ D : Nat) : Int) ≤ iI (j : Int) := by rw [iI_le (by omega) (by omega) (by omega) (by omega)]; omega
      have hd : fX8_doors_l43 (E.1 + co) (iI (t : Int)) x3 (E.1 + r) (iI (f : Int), iI (j : Int), St E B) = if iI (if (t : Int) < tuT B r (j : Int) then 0 else 1) = 0 then some (.inl (iI (f : Int), iI ((j + 1 : Nat) : Int), St E B)) else if iI (p8 j : Int) ≤ iI (p8 f : Int) then some (.inl (iI (f : Int), iI ((j + 1 : Nat) : Int), St E B)) else some (.inl (iI (j : Int), iI ((j + 1 : Nat) : Int), St E B)) := by
        unfold fX8_doors_l43 fX8_doors_b85
        dsimp only
        rw [g8_7 rc rn, some_bind, g6_9 rk.1, some_bind, hD, is1, if_neg nl, s2_canTour kd k2 tk (by omega) (by omega), some_bind]
        dsimp only
        rw [j6_bitCount (show j < 32 by omega), some_bind]
        dsimp only
        rw [j6_bitCount e2, some_bind, iI_add]
        rfl
      rw [hd]
      by_cases c : (t : Int) < tuT B r (j : Int)
      · rw [if_pos c, if_pos (by decide)]
        refine ⟨_, rfl, f, rfl, e2, fun z hz w => ?_, ?_⟩
        · by_cases e : z = j
          · rw [e] at w
            omega
          · exact e3 z (by omega) w
        · rcases e4 with e | ⟨e5, e6⟩
          · exact Or.inl e
          · exact Or.inr ⟨by omega, e6⟩
      · rw [if_neg c, if_neg (by decide)]
        by_cases c2 : p8 j ≤ p8 f
        · rw [if_pos (by rw [iI_le (by omega) (by omega) (by omega) (by omega)]; omega)]
          refine ⟨_, rfl, f, rfl, e2, fun z hz w => ?_, ?_⟩
          · by_cases e : z = j
            · subst e
              unfold bet
              omega
            · exact e3 z (by omega) w
          · rcases e4 with e | ⟨e5, e6⟩
            · exact Or.inl e
            · exact Or.inr ⟨by omega, e6⟩
        · rw [if_neg (by rw [iI_le (by omega) (by omega) (by omega) (by omega)]; omega)]
          refine ⟨_, rfl, j, rfl, by omega, fun z hz w => ?_, Or.inr ⟨by omega, by omega⟩⟩
          by_cases e : z = j
          · subst e
            unfold bet
            omega
          · have := e3 z (by omega) w
            unfold bet at this ⊢
            omega)
    (fun a ha => by
      obtain ⟨f, rfl, e2, e3, e4⟩ := ha
      refine ⟨(iI (f : Int), St E B), ?_, f, rfl, e2, e3, e4⟩
      unfold fX8_doors_l43
      dsimp only
      rw [g8_7 rc rn, some_bind, g6_9 rk.1, some_bind, hD, is1, if_pos (by rw [Int32.le_iff_toInt_le]; exact Int.le_refl _)]) (N := FU) (by show 2 ^ D < 1000000; omega) (a := (iI 0, iI 0, St E B)) ⟨0, rfl, by omega, fun z hz => by omega, Or.inl rfl⟩
  exact ⟨f, e1, e2, e3, e4⟩
theorem o_doors {s z w : Int} (Q : RQ E B n d) (dd : DD (vyN B n)) (hs : i32 s) (hz : i32 z) (hw : i32 w) : QM E B n d (fX8_doors (E.1 + co) (iI s) (iI z) (iI w)) (fX9_doors (E.1 + mo) (iI s) (iI z) (iI w)) := by
  have Q' := Q
  obtain ⟨R, ⟨hn, hd⟩, -⟩ := Q'
  have R' := R
  obtain ⟨⟨rc, rn, rk, rm⟩, rw1, -⟩ := R'
  have rw2 := rw1
  obtain ⟨w0, w1, w2, w3, w4, -, -, -, w8, w9⟩ := rw2
  have p5 := p2_le (k := (B.1 n 9).toNat) (by omega)
  have pp := Nat.two_pow_pos (B.1 n 9).toNat
  have j0 : (0 : Int64) = jI 0 := rfl
  have j9 : (9 : Int64) = jI 9 := rfl
  have j1 : (1 : Int64) = jI 1 := rfl
  have inz : ∀ D : Bk, fX9_in (Int32.toInt64 (iI z)) 0 9 (St E D) = some (iI (bI (0 ≤ z ∧ z ≤ 9)), St E D) := fun D => by
    rw [jI_i hz.1 hz.2, j0, j9, m_in (by have := hz.1; omega) (by have := hz.2; omega) (by omega) (by omega) (by omega) (by omega)]
  have inw : ∀ D : Bk, fX9_in (Int32.toInt64 (iI w)) 0 1 (St E D) = some (iI (bI (0 ≤ w ∧ w ≤ 1)), St E D) := fun D => by
    rw [jI_i hw.1 hw.2, j0, j1, m_in (by have := hw.1; omega) (by have := hw.2; omega) (by omega) (by omega) (by omega) (by omega)]
  by_cases gd : (0 ≤ s ∧ s < B.1 n 8) ∧ (0 ≤ z ∧ z ≤ 9) ∧ (0 ≤ w ∧ w ≤ 1)
  · obtain ⟨⟨s0, s1⟩, ⟨z0, z1⟩, ww0, ww1⟩ := gd
    obtain ⟨q, rfl⟩ : ∃ q : Nat, s = (q : Int) := ⟨s.toNat, by omega⟩
    obtain ⟨t, rfl⟩ : ∃ zN : Nat, z = (zN : Int) := ⟨z.toNat, by omega⟩
    have hst : 0 < B.1 n 0 := RV_hst R (Or.inl (by omega))
    obtain ⟨S, G, L, k, c0, N, hc0, h4⟩ := rv_RN R hst s1
    have N' := N
    obtain ⟨hV, i0, eS, eG, eL, hk, hS, hG⟩ := N'
    obtain ⟨C, f1, f2, f3, f4⟩ := s8_toursOf Q hst s1
    have evC : vyN C n = vyN B n := ltF_vy f2 (by omega)
    have Rc := f3.1
    have en : ∀ j, C.1 n j = B.1 n j := fun j => by rw [f2.1 n (by omega)]
    have KR := f3.2.2.2.2.1.2.2 q h4
    obtain ⟨tk, ts⟩ := TUV_at f4 N hc0
    obtain ⟨D, hD⟩ : ∃ D : Nat, B.1 n 9 = (D : Int) := ⟨(B.1 n 9).toNat, by omega⟩
    have eDn : (B.1 n 9).toNat = D := by omega
    rw [eDn] at p5 pp
    obtain ⟨f, a1, a2, a3, a4⟩ := s8_doorsL (B := C) (n := n) (r := d + 7 + 4 * q) (D := D) (t := t) (x3 := iI w) rc Rc.1.2.1 rk KR.1 KR.2.2.1 tk (by rw [en]; exact hD) (by omega) (by omega)
    obtain ⟨full, hfull⟩ : ∃ full : Nat, full = 2 ^ D - 1 := ⟨_, rfl⟩
    have f32 : full < 32 := by omega
    obtain ⟨F, hF⟩ : ∃ F : Nat, F = min t S := ⟨_, rfl⟩
    have R0 := rv_0 Rc (show n < 58 by omega)
    have ev0 : vyN (wI C mo 0 0) n = vyN C n := vyN_eq (fun j => w0n (by omega) j) (fun _ _ _ _ => rfl)
    have P0 := MP_rv R0 hn (by rw [w0n (by omega), en]; exact hst)
    rw [ev0, evC] at P0
    obtain ⟨sA, X1, b1, b2⟩ := m_startP (cnt := full) (t := t) rm P0 f32 N hc0 (by omega)
    rw [← hF] at b2
    obtain ⟨sB, X2, b3, b4⟩ := m_doorsRun (x3 := iI w) (F := F) (m0 := mkU (vyN B n) full L c0 0) rm N f32 (by omega) b2
    obtain ⟨sC, b, b5, b6, b7⟩ := m_ds2 (x3 := iI w) rm hV b4.2.2.2.2.1 b4.1
    have b4' : RfS E (wI C mo 0 0) (vyN B n) full F G _ X2 sC := ⟨b6, b4.2⟩
    obtain ⟨c1, c2, c3⟩ := bdS_P (by omega) hG b4' b7
    have H24 : ((vyN B n).1 4).toNat ≤ 24 := by show (B.1 n 4).toNat ≤ 24; omega
    have HH : ((((vyN B n).1 4).toNat : Nat) : Int) = (vyN B n).1 4 := by show (((B.1 n 4).toNat : Nat) : Int) = B.1 n 4; omega
    -- the reference's last set: those with at most F spent
    have q1 : ∀ m, (∃ c l s u, Pt (vyN B n) F G (mkU (vyN B n) full) 0 (iP c0 L (mkU (vyN B n) full L c0 0)) ((vyN B n).1 4).toNat c l s u m) ↔ ∃ c l s u, PtD (vyN B n) S G L c0 ((vyN B n).1 4).toNat c l s u m ∧ s ≤ t := by
      intro m
      constructor
      · rintro ⟨c, l, s, u, x⟩
        obtain ⟨y1, y2⟩ := (Pt_lim (S := S) (by omega) c l s u m).mp x
        obtain ⟨M, y3, y4⟩ := (Pt_set N hc0 dd f32 (by omega) c l s u m).mp y1
        have bb := PtD_b N hc0 (by omega) y3
        have e9 : ((vyN B n).1 9).toNat = D := eDn
        rw [e9] at bb
        have : M &&& full = M := by rw [hfull, Nat.and_two_pow_sub_one_eq_mod, Nat.mod_eq_of_lt bb.2.2.2.2.1]
        rw [this] at y4
        subst y4
        exact ⟨c, l, s, u, y3, by omega⟩
      · rintro ⟨c, l, s, u, x, y⟩
        have bb := PtD_b N hc0 (by omega) x
        have e9 : ((vyN B n).1 9).toNat = D := eDn
        rw [e9] at bb
        refine ⟨c, l, s, u, (Pt_lim (S := S) (by omega) c l s u m).mpr ⟨(Pt_set N hc0 dd f32 (by omega) c l s u m).mpr ⟨m, x, ?_⟩, by have := bb.2.2.1; omega⟩⟩
        rw [hfull, Nat.and_two_pow_sub_one_eq_mod, Nat.mod_eq_of_lt bb.2.2.2.2.1]
    have can : ∀ z : Nat, z < 32 → (tuT C (d + 7 + 4 * q) (z : Int) ≤ (t : Int) ↔ ∃ h c l s u m', h ≤ ((vyN B n).1 4).toNat ∧ (m' < 32 ∧ z &&& m' = z) ∧ PtD (vyN B n) S G L c0 h c l s u m' ∧ s ≤ t) := by
      intro z hz
      obtain ⟨m1, m2, m3⟩ := (ts z hz).1
      constructor
      · intro x
        rcases m1 with e | ⟨h, c, l, s, u, m', x1, x2, x3, x4⟩
        · omega
        · exact ⟨h, c, l, s, u, m', x1, x2, x3, by omega⟩
      · rintro ⟨h, c, l, s, u, m', x1, x2, x3, x4⟩
        have := m3 (s : Int) ⟨h, c, l, s, u, m', x1, x2, x3, rfl⟩
        omega
    have ext : ∀ z : Nat, z < 32 → tuT C (d + 7 + 4 * q) (z : Int) ≤ (t : Int) → ∃ m, (∃ c l s u, PtD (vyN B n) S G L c0 ((vyN B n).1 4).toNat c l s u m ∧ s ≤ t) ∧ m < 32 ∧ z &&& m = z := by
      intro z hz x
      obtain ⟨h, c, l, s, u, m', x1, ⟨x2, x2'⟩, x3, x4⟩ := (can z hz).mp x
      obtain ⟨c2', l2', m2, y1, y2⟩ := PtD_ext N hc0 (((vyN B n).1 4).toNat - h) h (by omega) c l s u m' x3
      rw [show h + (((vyN B n).1 4).toNat - h) = ((vyN B n).1 4).toNat by omega] at y1
      have bb := PtD_b N hc0 (by omega) y1
      refine ⟨m2, ⟨c2', l2', s, u, y1, x4⟩, bb.2.2.2.2.2, ?_⟩
      rw [← x2', ← y2, Nat.and_assoc, Nat.and_assoc, Nat.and_self]
    have inC : ∀ m, (∃ c l s u, PtD (vyN B n) S G L c0 ((vyN B n).1 4).toNat c l s u m ∧ s ≤ t) → m < 2 ^ D ∧ m < 32 ∧ tuT C (d + 7 + 4 * q) (m : Int) ≤ (t : Int) := by
      rintro m ⟨c, l, s, u, x, y⟩
      have bb := PtD_b N hc0 (by omega) x
      have e9 : ((vyN B n).1 9).toNat = D := eDn
      rw [e9] at bb
      exact ⟨bb.2.2.2.2.1, bb.2.2.2.2.2, (can m bb.2.2.2.2.2).mpr ⟨_, c, l, s, u, m, Nat.le_refl _, ⟨bb.2.2.2.2.2, Nat.and_self m⟩, x, y⟩⟩
    have can0 : tuT C (d + 7 + 4 * q) ((0 : Nat) : Int) ≤ (t : Int) := by
      have up := PtD_b (j := 0) N hc0 (by omega) (show PtD (vyN B n) S G L c0 0 c0 L 0 0 (upD (vyN B n) L c0 0) from ⟨rfl, rfl, rfl, rfl, rfl⟩)
      exact (can 0 (by omega)).mpr ⟨0, c0, L, 0, 0, _, by omega, ⟨up.2.2.2.2.2, Nat.zero_and _⟩, ⟨rfl, rfl, rfl, rfl, rfl⟩, by omega⟩
    have cf : tuT C (d + 7 + 4 * q) (f : Int) ≤ (t : Int) := by
      rcases a4 with e | e
      · rw [e]
        exact can0
      · exact e.2
    have ebf : b = f := by
      obtain ⟨m, x1, x2, x3⟩ := ext f a2 cf
      obtain ⟨y1, y2, y3⟩ := inC m x1
      have bt := a3 m y1 y3
      have sb := p8_sub ⟨f, a2⟩ ⟨m, x2⟩ x3
      simp only at sb
      have fm : f = m := sb.2 (by unfold bet at bt; omega)
      rw [← fm] at x1
      have bf := c2 f ((q1 f).mpr x1)
      rcases c3 with e | e
      · have z8 : p8 0 = 0 := by decide
        have := p8_z ⟨f, a2⟩
        simp only at this
        rw [e] at bf ⊢
        unfold bet at bf
        rw [z8] at bf
        exact (this (by omega)).symm
      · obtain ⟨y4, y5, y6⟩ := inC b ((q1 b).mp e)
        have fb := a3 b y4 y6
        unfold bet at bf fb
        omega
    obtain ⟨Dd, eD, sD⟩ := RfS_end b4'
    have s0' : sc C (wI C mo 0 0) := sc_I (by unfold msv; omega)
    have is1 : ish (iI 1) (iI (D : Int)) - iI 1 = iI (full : Int) := by
      have := ish_ok (k := (D : Int)) (by omega) (by omega)
      rw [Int.toNat_natCast] at this
      rw [this, iI_sub, show ((2 ^ D : Nat) : Int) - 1 = (full : Int) by omega]
    have r9 : aI (St E (wI C mo 0 0)) (E.1 + (mo + 7)) (iI 8) = some (iI (D : Int)) := by
      rw [aI_ok (mk7 rm) (by omega) (by omega) (by omega), vr_h8 R0, w0n (by omega), en, hD]
    refine ⟨if iI w = 0 then iI (p8 f : Int) else iI (f : Int), C, Dd, ?_, ?_, f2, sc_tr s0' sD, f3⟩
    · unfold fX8_doors
      rw [c8 rc, some_bind, g8_7 rc rn, some_bind, s_hasShop hs rk rw1, some_bind]
      dsimp only
      rw [if_neg (fun x => (bI_0.mp x) ⟨s0, s1⟩), s8_isStock hz, some_bind]
      dsimp only
      rw [if_neg (fun x => (bI_0.mp x) ⟨z0, z1⟩), if_neg (by rw [iI_0, iI_lt (by omega) (by omega) (by omega) (by omega)]; omega), if_pos (by rw [iI_le (by omega) (by omega) (by omega) (by omega)]; omega), f1, some_bind]
      dsimp only
      rw [a1, some_bind]
      dsimp only
      rw [j6_bitCount a2, some_bind]
      split <;> rfl
    · unfold fX9_doors
      rw [c9 rm.1, some_bind, p9_0 rm.1, some_bind, rg_isShop Rc hn hs, some_bind]
      dsimp only
      rw [if_neg (fun x => (bI_0.mp x) ⟨s0, by rw [en]; exact s1⟩), inz, some_bind]
      dsimp only
      rw [if_neg (fun x => (bI_0.mp x) ⟨z0, z1⟩), inw, some_bind]
      dsimp only
      rw [if_neg (fun x => (bI_0.mp x) ⟨ww0, ww1⟩), g9_17 rm.1, some_bind, r9, some_bind, is1, b1, some_bind, b3, some_bind, b5, some_bind]
      dsimp only
      rw [m_sizeOf c1, some_bind, ebf, eD]
      split <;> rfl
  · refine QM_no Q (v := iI (-2)) ?_ ?_
    · unfold fX8_doors fX8_doors_b27
      rw [c8 rc, some_bind, g8_7 rc rn, some_bind, s_hasShop hs rk rw1, some_bind]
      dsimp only
      by_cases c1 : 0 ≤ s ∧ s < B.1 n 8
      · rw [if_neg (fun x => (bI_0.mp x) c1), s8_isStock hz, some_bind]
        dsimp only
        by_cases c2 : 0 ≤ z ∧ z ≤ 9
        · rw [if_neg (fun x => (bI_0.mp x) c2)]
          obtain ⟨hw1, hw2⟩ := hw
          by_cases c3 : w < 0
          · rw [if_pos (by rw [iI_0, iI_lt (by omega) (by omega) (by omega) (by omega)]; exact c3)]
          · rw [if_neg (by rw [iI_0, iI_lt (by omega) (by omega) (by omega) (by omega)]; exact c3), if_neg (by rw [iI_le (by omega) (by omega) (by omega) (by omega)]; exact fun x => gd ⟨c1, c2, by omega, x⟩)]
        · rw [if_pos (bI_0.mpr c2)]
      · rw [if_pos (bI_0.mpr c1)]
    · simp only [fX9_doors, fX9_doors_b35, c9 rm.1, p9_0 rm.1, some_bind, rg_isShop R hn hs, inz, inw, iI_0, ib]
      by_cases c1 : 0 ≤ s ∧ s < B.1 n 8
      · rw [if_pos c1]
        by_cases c2 : 0 ≤ z ∧ z ≤ 9
        · rw [if_pos c2, if_neg (fun x => gd ⟨c1, c2, x⟩)]
        · rw [if_neg c2]
      · rw [if_neg c1]
end DRQ
