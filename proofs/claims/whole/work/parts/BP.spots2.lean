/-! spots and columns: both answer alike, the questions -/
section SPQ
variable {E : Ev} {B C : Bk} {n d : Nat}
theorem P0_c {V : Vy} {i : Int} {S G L k c0 j c l s u m : Nat} (N : RN V i S G L k) (hc0 : scV V i = (c0 : Int)) (hj : (j : Int) ≤ V.1 4) (w : P0t V S G L c0 j c l s u m) : cOK (V.1 1) (V.1 2) (c : Int) := by
  obtain ⟨c0', hc0', c64, cok, hL⟩ := scV_b N
  have ec : c0' = c0 := by omega
  subst ec
  obtain ⟨hV, i0, eS, eG, eL, hn, hS, hG⟩ := N
  exact (Pt_PB (U := U0) (T := 1) hV hn (fun l c m _ _ h => h) (iP_PB cok hL (by omega)) hj c l s u m w).1
theorem spots_eq {V : Vy} {r S G L k c0 h q : Nat} {X : Bk} {s : Hp} {D : Bk} (N : RN V (q : Int) S G L k) (hc0 : scV V (q : Int) = (c0 : Int)) (cl : CLI C r V S G L c0 (V.1 4).toNat) (hh : (h : Int) < V.1 4) (R : RfS E D V 0 S G (P0t V S G L c0 (h + 1)) X s) {wd dp : Nat} (hw : V.1 1 = (wd : Int)) (hd : V.1 2 = (dp : Int)) : smN (fun l => smN (fun i => onN (hiN C r h l i)) 64) k = spA X 0 wd dp k := by
  have N' := N
  obtain ⟨hV, i0, eS, eG, eL, hk, hS, hG⟩ := N'
  have v1 := hV.1
  have v2 := hV.2.1
  have v3 := hV.2.2.1
  have e1 : smN (fun l => smN (fun i => onN (hiN C r h l i)) 64) k = smN (fun l => smN (fun x => smN (fun y => onN (anyS X (x : Int) (y : Int) (l : Int))) dp) wd) k := by
    refine smN_cg (fun l hl => ?_)
    have b := smN_board (f := fun i => onN (hiN C r h l i)) (wd := wd) (dp := dp) (by omega) (by omega) (fun x y hx hy no => onN_0 (fun w => by
      obtain ⟨s, u, w⟩ := (hiN_P N hc0 cl hh (by omega) (by omega)).mp w
      have ck := P0_c N hc0 (by omega) w
      unfold cOK at ck
      omega))
    rw [b]
    refine smN_cg (fun x hx => smN_cg (fun y hy => onN_cg ?_))
    rw [hiN_P N hc0 cl hh (by omega) (by omega), anyS_P hS hG (by omega) (by omega) (by omega) R, show 8 * y + x = y * 8 + x by omega]
  rw [e1, smN_swap]
  unfold spA spX spL
  refine smN_cg (fun x hx => ?_)
  rw [smN_swap]
  exact smN_cg (fun y hy => by unfold spY; rw [if_pos rfl])
theorem cols_eq {V : Vy} {r S G L k c0 h q : Nat} {X : Bk} {s : Hp} {D : Bk} {z : Int64} (N : RN V (q : Int) S G L k) (hc0 : scV V (q : Int) = (c0 : Int)) (cl : CLI C r V S G L c0 (V.1 4).toNat) (hh : (h : Int) < V.1 4) (R : RfS E D V 0 S G (P0t V S G L c0 (h + 1)) X s) {wd dp : Nat} (hw : V.1 1 = (wd : Int)) (hd : V.1 2 = (dp : Int)) (hz : ∀ i, i < 64 → (tb z i = true ↔ ∃ l, l < k ∧ hiN C r h l i = true)) : popJ z = spA X 1 wd dp k := by
  have N' := N
  obtain ⟨hV, i0, eS, eG, eL, hk, hS, hG⟩ := N'
  have v1 := hV.1
  have v2 := hV.2.1
  have v3 := hV.2.2.1
  have b := smN_board (f := fun i => onN (tb z i)) (wd := wd) (dp := dp) (by omega) (by omega) (fun x y hx hy no => onN_0 (fun w => by
    obtain ⟨l, hl, w⟩ := (hz _ (by omega)).mp w
    obtain ⟨s, u, w⟩ := (hiN_P N hc0 cl hh (by omega) (by omega)).mp w
    have ck := P0_c N hc0 (by omega) w
    unfold cOK at ck
    omega))
  unfold popJ
  rw [b]
  unfold spA spX spL
  refine smN_cg (fun x hx => smN_cg (fun y hy => ?_))
  have key : tb z (8 * y + x) = true ↔ ∃ l, l < k ∧ anyS X (x : Int) (y : Int) (l : Int) = true := by
    rw [hz _ (by omega)]
    constructor
    · rintro ⟨l, hl, w⟩
      rw [hiN_P N hc0 cl hh (by omega) (by omega), show 8 * y + x = y * 8 + x by omega] at w
      exact ⟨l, hl, (anyS_P hS hG (by omega) (by omega) (by omega) R).mpr w⟩
    · rintro ⟨l, hl, w⟩
      refine ⟨l, hl, ?_⟩
      rw [hiN_P N hc0 cl hh (by omega) (by omega), show 8 * y + x = y * 8 + x by omega]
      exact (anyS_P hS hG (by omega) (by omega) (by omega) R).mp w
  unfold spY
  rw [if_neg (by omega)]
  have sp := smN_pos (p := fun l => anyS X (x : Int) (y : Int) (l : Int)) (n := k)
  by_cases q : tb z (8 * y + x) = true
  · rw [if_neg (fun w => sp.mp w (key.mp q))]
    unfold onN
    rw [if_pos q]
  · rw [if_pos (sp.mpr (fun w => q (key.mpr w))), onN_0 q]
theorem o_spots {s h : Int} (Q : RQ E B n d) (hs : i32 s) (hh : i32 h) : QM E B n d (fX8_spots (E.1 + co) (iI s) (iI h)) (fX9_spots (E.1 + mo) (iI s) (iI h)) := by
  have Q' := Q
  obtain ⟨R, ⟨hn, hd⟩, -⟩ := Q'
  have R' := R
  obtain ⟨⟨rc, rn, rk, rm⟩, rw1, -⟩ := R'
  obtain ⟨w0, w1, w2, w3, w4, -, -, -, w8, -⟩ := rw1
  by_cases gd : (0 ≤ s ∧ s < B.1 n 8) ∧ (0 ≤ h ∧ h < B.1 n 4)
  · obtain ⟨⟨s0, s1⟩, h0, h1⟩ := gd
    obtain ⟨q, rfl⟩ : ∃ q : Nat, s = (q : Int) := ⟨s.toNat, by omega⟩
    obtain ⟨h, rfl⟩ : ∃ hN : Nat, h = (hN : Int) := ⟨h.toNat, by omega⟩
    have hst : 0 < B.1 n 0 := RV_hst R (Or.inl (by omega))
    obtain ⟨S, G, L, k, c0, N, hc0, h4⟩ := rv_RN R hst s1
    obtain ⟨C, f1, f2, f3, f4, -⟩ := s8_reachOf Q hst s1
    have evC : vyN C n = vyN B n := ltF_vy f2 (by omega)
    have Rc := f3.1
    have en : ∀ j, C.1 n j = B.1 n j := fun j => by rw [f2.1 n (by omega)]
    have KR := f3.2.2.2.2.1.2.2 q h4
    have cl := CLV_at f4 N hc0
    have hk : B.1 n 3 = (k : Int) := N.2.2.2.2.2.1
    have R0 := rv_0 Rc (show n < 58 by omega)
    have ev0 : vyN (wI C mo 0 0) n = vyN C n := vyN_eq (fun j => w0n (by omega) j) (fun _ _ _ _ => rfl)
    have P0 := MP_rv R0 hn (by rw [w0n (by omega), en]; exact hst)
    rw [ev0, evC] at P0
    obtain ⟨s', X', g1, g2⟩ := m_freely (h := h) rm P0 N hc0 h1
    obtain ⟨wd, hwd⟩ : ∃ wd : Nat, B.1 n 1 = (wd : Int) := ⟨(B.1 n 1).toNat, by omega⟩
    obtain ⟨dp, hdp⟩ : ∃ dp : Nat, B.1 n 2 = (dp : Int) := ⟨(B.1 n 2).toNat, by omega⟩
    obtain ⟨s2, g3, g4⟩ := m_spotsNow (w := 0) (ly := k) (dq := dp) (wq := wd) rm g2.2.2.1 hk hdp hwd (by omega) g2.1
    have eq := spots_eq N hc0 cl h1 g2 hwd hdp
    have g2' : RfS E (wI C mo 0 0) (vyN B n) 0 S G (P0t (vyN B n) S G L c0 (h + 1)) X' s2 := ⟨g4, g2.2⟩
    obtain ⟨D, rfl, sD⟩ := RfS_end g2'
    have cl2 := s8_spotsL (B := C) (n := n) (r := d + 7 + 4 * q) (h := h) (k := k) rc Rc.1.2.1 rk KR.1 KR.2.1 (by omega) (by rw [en]; exact hk) (by omega)
    refine ⟨iI ((spA X' 0 wd dp k : Nat) : Int), C, D, ?_, ?_, f2, sc_tr (sc_I (by unfold msv; omega)) sD, f3⟩
    · unfold fX8_spots
      rw [c8 rc, some_bind, s8_hasShopHour R hs hh, some_bind]
      dsimp only
      rw [if_neg (fun w => (bI_0.mp w) ⟨⟨s0, s1⟩, h0, h1⟩), f1, some_bind]
      dsimp only
      rw [cl2, some_bind, eq]
    · have g3' : fX9_spotsNow (E.1 + mo) (iI 0) s' = some (iI ((spA X' 0 wd dp k : Nat) : Int), St E D) := g3
      unfold fX9_spots
      rw [c9 rm.1, some_bind, p9_0 rm.1, some_bind, rg_isShop Rc hn hs, some_bind]
      dsimp only
      rw [if_neg (fun w => (bI_0.mp w) ⟨s0, by rw [en]; exact s1⟩), rg_isHour Rc hn hh, some_bind]
      dsimp only
      rw [if_neg (fun w => (bI_0.mp w) ⟨h0, by rw [en]; exact h1⟩), g1, some_bind, g3', some_bind]
  · refine QM_no Q (v := iI (-2)) ?_ ?_
    · unfold fX8_spots
      rw [c8 rc, some_bind, s8_hasShopHour R hs hh, some_bind]
      dsimp only
      rw [if_pos (bI_0.mpr gd)]
    · simp only [fX9_spots, fX9_spots_b22, c9 rm.1, p9_0 rm.1, some_bind, rg_isShop R hn hs, rg_isHour R hn hh, iI_0, ib]
      by_cases c1 : 0 ≤ s ∧ s < B.1 n 8
      · rw [if_pos c1, if_neg (fun w => gd ⟨c1, w⟩)]
      · rw [if_neg c1]
theorem o_columns {s h : Int} (Q : RQ E B n d) (hs : i32 s) (hh : i32 h) : QM E B n d (fX8_columns (E.1 + co) (iI s) (iI h)) (fX9_columns (E.1 + mo) (iI s) (iI h)) := by
  have Q' := Q
  obtain ⟨R, ⟨hn, hd⟩, -⟩ := Q'
  have R' := R
  obtain ⟨⟨rc, rn, rk, rm⟩, rw1, -⟩ := R'
  obtain ⟨w0, w1, w2, w3, w4, -, -, -, w8, -⟩ := rw1
  by_cases gd : (0 ≤ s ∧ s < B.1 n 8) ∧ (0 ≤ h ∧ h < B.1 n 4)
  · obtain ⟨⟨s0, s1⟩, h0, h1⟩ := gd
    obtain ⟨q, rfl⟩ : ∃ q : Nat, s = (q : Int) := ⟨s.toNat, by omega⟩
    obtain ⟨h, rfl⟩ : ∃ hN : Nat, h = (hN : Int) := ⟨h.toNat, by omega⟩
    have hst : 0 < B.1 n 0 := RV_hst R (Or.inl (by omega))
    obtain ⟨S, G, L, k, c0, N, hc0, h4⟩ := rv_RN R hst s1
    obtain ⟨C, f1, f2, f3, f4, -⟩ := s8_reachOf Q hst s1
    have evC : vyN C n = vyN B n := ltF_vy f2 (by omega)
    have Rc := f3.1
    have en : ∀ j, C.1 n j = B.1 n j := fun j => by rw [f2.1 n (by omega)]
    have KR := f3.2.2.2.2.1.2.2 q h4
    have cl := CLV_at f4 N hc0
    have hk : B.1 n 3 = (k : Int) := N.2.2.2.2.2.1
    have R0 := rv_0 Rc (show n < 58 by omega)
    have ev0 : vyN (wI C mo 0 0) n = vyN C n := vyN_eq (fun j => w0n (by omega) j) (fun _ _ _ _ => rfl)
    have P0 := MP_rv R0 hn (by rw [w0n (by omega), en]; exact hst)
    rw [ev0, evC] at P0
    obtain ⟨s', X', g1, g2⟩ := m_freely (h := h) rm P0 N hc0 h1
    obtain ⟨wd, hwd⟩ : ∃ wd : Nat, B.1 n 1 = (wd : Int) := ⟨(B.1 n 1).toNat, by omega⟩
    obtain ⟨dp, hdp⟩ : ∃ dp : Nat, B.1 n 2 = (dp : Int) := ⟨(B.1 n 2).toNat, by omega⟩
    obtain ⟨s2, g3, g4⟩ := m_spotsNow (w := 1) (ly := k) (dq := dp) (wq := wd) rm g2.2.2.1 hk hdp hwd (by omega) g2.1
    obtain ⟨z, z1, z2⟩ := s8_colsL (B := C) (n := n) (r := d + 7 + 4 * q) (h := h) (k := k) rc Rc.1.2.1 rk KR.1 KR.2.1 (by omega) (by rw [en]; exact hk) (by omega)
    have eq := cols_eq N hc0 cl h1 g2 hwd hdp z2
    have g2' : RfS E (wI C mo 0 0) (vyN B n) 0 S G (P0t (vyN B n) S G L c0 (h + 1)) X' s2 := ⟨g4, g2.2⟩
    obtain ⟨D, rfl, sD⟩ := RfS_end g2'
    refine ⟨iI ((spA X' 1 wd dp k : Nat) : Int), C, D, ?_, ?_, f2, sc_tr (sc_I (by unfold msv; omega)) sD, f3⟩
    · unfold fX8_columns
      rw [c8 rc, some_bind, s8_hasShopHour R hs hh, some_bind]
      dsimp only
      rw [if_neg (fun w => (bI_0.mp w) ⟨⟨s0, s1⟩, h0, h1⟩), f1, some_bind]
      dsimp only
      rw [z1, some_bind]
      dsimp only
      rw [j13_bitCount, some_bind, eq]
    · have g3' : fX9_spotsNow (E.1 + mo) (iI 1) s' = some (iI ((spA X' 1 wd dp k : Nat) : Int), St E D) := g3
      unfold fX9_columns
      rw [c9 rm.1, some_bind, p9_0 rm.1, some_bind, rg_isShop Rc hn hs, some_bind]
      dsimp only
      rw [if_neg (fun w => (bI_0.mp w) ⟨s0, by rw [en]; exact s1⟩), rg_isHour Rc hn hh, some_bind]
      dsimp only
      rw [if_neg (fun w => (bI_0.mp w) ⟨h0, by rw [en]; exact h1⟩), g1, some_bind, g3', some_bind]
  · refine QM_no Q (v := iI (-2)) ?_ ?_
    · unfold fX8_columns
      rw [c8 rc, some_bind, s8_hasShopHour R hs hh, some_bind]
      dsimp only
      rw [if_pos (bI_0.mpr gd)]
    · simp only [fX9_columns, fX9_columns_b22, c9 rm.1, p9_0 rm.1, some_bind, rg_isShop R hn hs, rg_isHour R hn hh, iI_0, ib]
      by_cases c1 : 0 ≤ s ∧ s < B.1 n 8
      · rw [if_pos c1, if_neg (fun w => gd ⟨c1, w⟩)]
      · rw [if_neg c1]
end SPQ
