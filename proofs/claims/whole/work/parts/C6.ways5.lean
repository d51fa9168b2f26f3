/-! ways: both answer alike -/
section WCQ
variable {E : Ev} {B C : Bk} {n d : Nat}
theorem pQ_lt (f : pQ d B C) : ltF d B C := ⟨fun e q => by funext j; exact f.1 e j (by omega), fun e q => by funext j; exact f.2.1 e j (by omega), fun e q => by funext j; exact f.2.2.1 e j (by omega), fun e q => by rw [f.2.2.2.1], fun e q => f.2.2.2.2 e (by omega) (by omega)⟩
theorem RQ_pq (Q : RQ E B n d) (f : pQ d B C) (c2 : brI C (d + 2) ((vyN B n).1 1) ((vyN B n).1 2) 64) : RQ E C n d := by
  obtain ⟨R, ⟨hn, hd⟩, er, q9, K, m1, m2, m3, m4, m5, m6, m7⟩ := Q
  have hc : co = 0 := rfl
  have lt := pQ_lt f
  have ev := ltF_vy lt (show n + 6 ≤ d by omega)
  have ec : C.1 co 12 = B.1 co 12 := by rw [lt.1 co (by omega)]
  have g4 : C.1 (d + 4) = B.1 (d + 4) := by funext j; exact f.1 (d + 4) j (by omega)
  refine ⟨ltF_RV lt hn hd R, ⟨hn, hd⟩, by rw [ec]; exact er, by rw [lt.2.2.1 co (by omega)]; exact q9, K, fun q' hq' => ?_, fun q' hq' => ?_, fun q' hq' w => ?_, fun q' hq' w => ?_, ?_, ?_, fun w => ?_⟩
  · rw [f.2.2.1 (d + 6) q' (by omega)]
    exact m1 q' hq'
  · rw [ec, f.1 (d + 7 + 4 * q') 3 (by omega), f.1 (d + 7 + 4 * q') 4 (by omega)]
    exact m2 q' hq'
  · rw [ev]
    rw [ec, f.1 (d + 7 + 4 * q') 3 (by omega)] at w
    exact ⟨CLV_row (f.2.2.2.2 _ (by omega) (by omega)) (m3 q' hq' w).1, c2⟩
  · rw [ev]
    rw [ec, f.1 (d + 7 + 4 * q') 4 (by omega)] at w
    exact TUV_row (by rw [f.2.2.2.1]) (by rw [f.2.2.2.1]) (m4 q' hq' w)
  · rw [ec, g4]
    exact m5
  · rw [g4]
    exact m6
  · rw [ev]
    rw [ec, g4] at w
    exact GDV_row g4 (by rw [f.2.2.2.1]) (m7 w)
theorem o_ways {s h : Int} (Q : RQ E B n d) (hs : i32 s) (hh : i32 h) : QM E B n d (fX8_ways (E.1 + co) (iI s) (iI h)) (fX9_ways (E.1 + mo) (iI s) (iI h)) := by
  have Q' := Q
  obtain ⟨R, ⟨hn, hd⟩, er, q9, K, -⟩ := Q'
  have R' := R
  obtain ⟨⟨rc, rn, rk, rm⟩, rw1, -⟩ := R'
  have rw2' := rw1
  obtain ⟨w0, w1, w2, w3, w4, -, -, -, w8, -⟩ := rw2'
  by_cases gd : (0 ≤ s ∧ s < B.1 n 8) ∧ (0 ≤ h ∧ h < B.1 n 4)
  · obtain ⟨⟨s0, s1⟩, h0, h1⟩ := gd
    obtain ⟨q, rfl⟩ : ∃ q : Nat, s = (q : Int) := ⟨s.toNat, by omega⟩
    obtain ⟨h, rfl⟩ : ∃ hN : Nat, h = (hN : Int) := ⟨h.toNat, by omega⟩
    have hst : 0 < B.1 n 0 := RV_hst R (Or.inl (by omega))
    obtain ⟨S, G, L, k, c0, N, hc0, h4⟩ := rv_RN R hst s1
    have RE' := RKD_RE (p := n) K rk (by omega) (show 0 < 4 by omega)
    obtain ⟨C, f1, f2, f3⟩ := s4_rowsOfActs (B := B) (H := h + 1) RE' rw1 rfl N (by show ((h + 1 : Nat) : Int) ≤ B.1 n 4; omega)
    have Qc := RQ_pq Q f2 f3
    have lt := pQ_lt f2
    have evC : vyN C n = vyN B n := ltF_vy lt (by omega)
    have Rc := Qc.1
    have en : ∀ j, C.1 n j = B.1 n j := fun j => by rw [lt.1 n (by omega)]
    have R0 := rv_0 Rc (show n < 58 by omega)
    have ev0 : vyN (wI C mo 0 0) n = vyN C n := vyN_eq (fun j => w0n (by omega) j) (fun _ _ _ _ => rfl)
    have P0 := MP_rv R0 hn (by rw [w0n (by omega), en]; exact hst)
    rw [ev0, evC] at P0
    obtain ⟨D, g1, g2⟩ := m_waysRun (hh := h) rm P0 N hc0 h1
    refine ⟨jI (Fw (vyN B n) (h + 1) 0 (L : Int) (S : Int) (G : Int)), C, D, ?_, ?_, lt, sc_tr (sc_I (by unfold msv; omega)) g2, Qc⟩
    · unfold fX8_ways
      rw [c8 rc, some_bind, s8_hasShopHour R hs hh, some_bind]
      dsimp only
      rw [if_neg (fun w => (bI_0.mp w) ⟨⟨s0, s1⟩, h0, h1⟩), s8_roamP Q, some_bind]
      dsimp only
      rw [g8_7 rc rn, some_bind, iI_add, show (h : Int) + 1 = ((h + 1 : Nat) : Int) by omega, f1, some_bind]
    · unfold fX9_ways
      rw [c9 rm.1, some_bind, p9_0 rm.1, some_bind, rg_isShop Rc hn hs, some_bind]
      dsimp only
      rw [if_neg (fun w => (bI_0.mp w) ⟨s0, by rw [en]; exact s1⟩), rg_isHour Rc hn hh, some_bind]
      dsimp only
      rw [if_neg (fun w => (bI_0.mp w) ⟨h0, by rw [en]; exact h1⟩)]
      exact g1
  · refine QM_no Q (v := (-2 : Int64)) ?_ ?_
    · unfold fX8_ways
      rw [c8 rc, some_bind, s8_hasShopHour R hs hh, some_bind]
      dsimp only
      rw [if_pos (bI_0.mpr gd)]
    · simp only [fX9_ways, fX9_ways_b22, c9 rm.1, p9_0 rm.1, some_bind, rg_isShop R hn hs, rg_isHour R hn hh, iI_0, ib]
      by_cases c1 : 0 ≤ s ∧ s < B.1 n 8
      · rw [if_pos c1, if_neg (fun w => gd ⟨c1, w⟩)]
      · rw [if_neg c1]
end WCQ
