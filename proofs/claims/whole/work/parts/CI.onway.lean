/-! way: the class's answer -/
def wyS (V : Vy) (S G L c0 c l hr : Nat) (v : Int) : Prop := (v = -1 ∧ ∀ h : Nat, (h : Int) < V.1 4 → ∀ s u, ¬ Pt V S G U0 0 (iP c0 L 0) (h + 1) c l s u 0) ∨ ∃ e sd : Nat, (e : Int) < V.1 4 ∧ snE V S G L c0 c l e sd ∧ ((e < hr ∧ v = -1) ∨ (hr ≤ e ∧ ∃ c1 l1 s1 u1, Wk V S G e c l sd c0 L hr c1 l1 s1 u1 ∧ WR V S G e c l sd hr v c1 l1 s1 u1))
def gwF (d : Nat) (B C : Bk) : Prop := (∀ e j, ¬ e = d + 4 → C.1 e j = B.1 e j) ∧ C.2.1 = B.2.1 ∧ (∀ e j, ¬ e = d + 4 → C.2.2.1 e j = B.2.2.1 e j) ∧ (∀ e, e ≠ d + 5 → C.2.2.2.1 e = B.2.2.2.1 e) ∧ ∀ e, e ≠ d + 1 → C.2.2.2.2 e = B.2.2.2.2 e
section GDO
variable {E : Ev} {B C : Bk} {V : Vy} {S d p G n L c0 c l q hr : Nat}
theorem s1_actIn (K : RKD E d) (hV : VOK V) (g : GDS B d V S G L c0 c l) (hh : hr < 24) : ∃ v : Int, fX1_actIn (E.1 + (d + 4)) (iI (hr : Int)) (St E B) = some (iI v, St E B) ∧ wyS V S G L c0 c l hr v := by
  have k1 := K.2.1.1
  have v4 := hV.2.2.2.1
  unfold fX1_actIn
  rw [c1 k1, some_bind, g1_6 k1, some_bind, g1_0 k1, some_bind, show d + 4 + 1 = d + 5 from rfl, aI_ok K.2.1.2.1 (by omega) (by omega) (by omega), some_bind]
  rcases g with ⟨g1, g2⟩ | ⟨e, sd, g1, g2, g3, g4⟩
  · rw [g1, if_pos (by rw [iI_lt (by omega) (by omega) (by omega) (by omega)]; omega)]
    exact ⟨-1, rfl, Or.inl ⟨rfl, g2⟩⟩
  · rw [g1]
    by_cases q : e < hr
    · rw [if_pos (by rw [iI_lt (by omega) (by omega) (by omega) (by omega)]; omega)]
      exact ⟨-1, rfl, Or.inr ⟨e, sd, g2, g3, Or.inl ⟨q, rfl⟩⟩⟩
    · rw [if_neg (by rw [iI_lt (by omega) (by omega) (by omega) (by omega)]; omega)]
      exact ⟨_, rfl, Or.inr ⟨e, sd, g2, g3, Or.inr ⟨by omega, g4 hr (by omega)⟩⟩⟩
theorem gwF_lt (f : gwF d B C) : ltF d B C := ⟨fun e q => by funext j; exact f.1 e j (by omega), fun e q => by rw [f.2.1], fun e q => by funext j; exact f.2.2.1 e j (by omega), fun e q => f.2.2.2.1 e (by omega), fun e q => f.2.2.2.2 e (by omega)⟩
theorem RQ_gw (Q : RQ E B n d) (f : gwF d B C) (h7 : C.1 (d + 4) 7 = B.1 co 12) (h8 : i32 (C.1 (d + 4) 8)) (h9 : i32 (C.1 (d + 4) 9)) (h6 : -1 ≤ C.1 (d + 4) 6 ∧ C.1 (d + 4) 6 < 24) (gd : GDV C d (vyN B n)) : RQ E C n d := by
  obtain ⟨R, ⟨hn, hd⟩, er, q9, K, m1, m2, m3, m4, m5, m6, m7⟩ := Q
  have hc : co = 0 := rfl
  have lt := gwF_lt f
  have ev := ltF_vy lt (show n + 6 ≤ d by omega)
  have ec : C.1 co 12 = B.1 co 12 := by rw [lt.1 co (by omega)]
  refine ⟨ltF_RV lt hn hd R, ⟨hn, hd⟩, by rw [ec]; exact er, by rw [lt.2.2.1 co (by omega)]; exact q9, K, fun q' hq' => ?_, fun q' hq' => ?_, fun q' hq' w => ?_, fun q' hq' w => ?_, ?_, ?_, fun w => ?_⟩
  · rw [f.2.2.1 (d + 6) q' (by omega)]
    exact m1 q' hq'
  · rw [ec, f.1 (d + 7 + 4 * q') 3 (by omega), f.1 (d + 7 + 4 * q') 4 (by omega)]
    exact m2 q' hq'
  · rw [ev]
    rw [ec, f.1 (d + 7 + 4 * q') 3 (by omega)] at w
    have x := m3 q' hq' w
    refine ⟨CLV_row (f.2.2.2.2 _ (by omega)) x.1, ?_⟩
    have b := x.2
    unfold brI at *
    rw [f.2.1, f.2.2.2.2 (d + 2 + 1) (by omega)]
    exact b
  · rw [ev]
    rw [ec, f.1 (d + 7 + 4 * q') 4 (by omega)] at w
    exact TUV_row (f.2.2.2.1 _ (by omega)) (f.2.2.2.1 _ (by omega)) (m4 q' hq' w)
  · rw [ec, h7]
    omega
  · exact ⟨h8, h9, h6⟩
  · rw [ev]
    exact gd
/-- the class's cells asked by the Roamer -/
theorem s4_cellsQ (Q : RQ E B n d) (hst : 0 < B.1 n 0) (hq : (q : Int) < B.1 n 8) : ∃ C, fX4_cellsOf (E.1 + d) (E.1 + n) (iI (q : Int)) (iI (B.1 co 12)) (St E B) = some (E.1 + (d + 7 + 4 * q), St E C) ∧ ltF d B C ∧ RQ E C n d ∧ CLV C (d + 7 + 4 * q) (vyN B n) (q : Int) ∧ brI C (d + 2) ((vyN B n).1 1) ((vyN B n).1 2) 64 := by
  obtain ⟨S, G, L, k, c0, N, hc0, h4⟩ := rv_RN Q.1 hst hq
  have Q' := Q
  obtain ⟨R, ⟨hn, hd⟩, er, q9, K, m1, m2, m3, m4, m5⟩ := Q'
  obtain ⟨⟨rc, rn, rk, rm⟩, rw1, -⟩ := R
  have b := (m2 q h4).1
  obtain ⟨C, e1, e2, e3, e4, e5⟩ := s4_cellsOf (era := B.1 co 12) K rk (by omega) rw1 rfl N h4 (m1 q h4) ⟨by omega, by omega⟩ ⟨by omega, by omega⟩ (fun w => m3 q h4 w)
  exact ⟨C, e1, clF_lt (by omega) e2, RQ_cl Q h4 e2 e3 e4 e5, e3, e4⟩
theorem s1_knows {x y z : Int} (K : RKD E d) (r7 : i32 (B.1 (d + 4) 7)) (r8 : i32 (B.1 (d + 4) 8)) (r9 : i32 (B.1 (d + 4) 9)) (hx : i32 x) (hy : i32 y) (hz : i32 z) : ∃ b : Int, fX1_knows (E.1 + (d + 4)) (iI x) (iI y) (iI z) (St E B) = some (iI b, St E B) ∧ ((b = 1 ∧ B.1 (d + 4) 7 = x ∧ B.1 (d + 4) 8 = y ∧ B.1 (d + 4) 9 = z) ∨ b = 0) := by
  have k1 := K.2.1.1
  unfold i32 at *
  unfold fX1_knows fX1_knows_b28
  rw [c1 k1, some_bind, g1_7 k1, some_bind, g1_8 k1, some_bind, g1_9 k1, some_bind]
  by_cases q1 : B.1 (d + 4) 7 = x
  · rw [if_pos (by rw [q1])]
    by_cases q2 : B.1 (d + 4) 8 = y
    · rw [if_pos (by rw [q2])]
      by_cases q3 : B.1 (d + 4) 9 = z
      · rw [if_pos (by rw [q3])]
        exact ⟨1, rfl, Or.inl ⟨rfl, q1, q2, q3⟩⟩
      · rw [if_neg (fun w => q3 ((iI_eq (by omega) (by omega) (by omega) (by omega)).mp w))]
        exact ⟨0, rfl, Or.inr rfl⟩
    · rw [if_neg (fun w => q2 ((iI_eq (by omega) (by omega) (by omega) (by omega)).mp w))]
      exact ⟨0, rfl, Or.inr rfl⟩
  · rw [if_neg (fun w => q1 ((iI_eq (by omega) (by omega) (by omega) (by omega)).mp w))]
    exact ⟨0, rfl, Or.inr rfl⟩
theorem GDS_row (h1 : C.1 (d + 4) 6 = B.1 (d + 4) 6) (h2 : C.2.2.2.1 (d + 5) = B.2.2.2.1 (d + 5)) (g : GDS B d V S G L c0 c l) : GDS C d V S G L c0 c l := by
  unfold GDS at *
  rw [h1, h2]
  exact g
theorem s4_actOnWay {k : Nat} (Q : RQ E B n d) (hst : 0 < B.1 n 0) (hq : (q : Int) < B.1 n 8) (N : RN (vyN B n) (q : Int) S G L k) (hc0 : scV (vyN B n) (q : Int) = (c0 : Int)) (cok : cOK (B.1 n 1) (B.1 n 2) (c : Int)) (hl : l < k) (hh : hr < 24) : ∃ v C, fX4_actOnWay (E.1 + d) (E.1 + n) (iI (q : Int)) (iI (B.1 co 12)) (iI (hr : Int)) (iI (c : Int)) (iI (l : Int)) (St E B) = some (iI v, St E C) ∧ ltF d B C ∧ RQ E C n d ∧ wyS (vyN B n) S G L c0 c l hr v := by
  obtain ⟨B1, a1, a2, a3, a4, a5⟩ := s4_cellsQ Q hst hq
  have hV := N.1
  have v1 := hV.1
  have v2 := hV.2.1
  have v3 := hV.2.2.1
  have hk := N.2.2.2.2.2.1
  have c64 := cOK_64 cok v1.2 v2.2
  have w8 := hV.2.2.2.2.2.2.2.1
  have hq' : (q : Int) < (vyN B n).1 8 := hq
  have a3' := a3
  obtain ⟨R, ⟨hn, hd⟩, er, q9, K, m1, m2, m3, m4, m5, m6, m7⟩ := a3'
  obtain ⟨⟨rc, rn, rk, rm⟩, rw1, -⟩ := R
  have hc : co = 0 := rfl
  have ec : B1.1 co 12 = B.1 co 12 := by rw [a2.1 co (by omega)]
  have ev := ltF_vy a2 (show n + 6 ≤ d by omega)
  have k4 := K.1.1
  have k1 := K.2.1.1
  have tg : iI (l : Int) * iI 8 * iI 8 + iI (c : Int) = iI ((l : Int) * 64 + (c : Int)) := by
    rw [iI_mul, iI_mul, iI_add]
    congr 1
    omega
  obtain ⟨b, g1, g2⟩ := s1_knows (B := B1) (x := B.1 co 12) (y := (q : Int)) (z := (l : Int) * 64 + (c : Int)) K (by unfold i32; omega) m6.1 m6.2.1 (by unfold i32; omega) (by unfold i32; omega) (by unfold i32; omega)
  have hd' : fX4_actOnWay (E.1 + d) (E.1 + n) (iI (q : Int)) (iI (B.1 co 12)) (iI (hr : Int)) (iI (c : Int)) (iI (l : Int)) (St E B) = if iI b = 0 then ((fX1_take (E.1 + (d + 4)) (E.1 + (d + 1)) (E.1 + (d + 2)) (St E B1)).bind fun s11 => (gR s11 (E.1 + d) 4 2).bind fun v12 => (fX1_find v12 (E.1 + n) (iI (q : Int)) (E.1 + (d + 7 + 4 * q)) (iI (c : Int)) (iI (l : Int)) s11).bind fun s13 => (gR s13 (E.1 + d) 4 2).bind fun v14 => (fX1_remember v14 (iI (B.1 co 12)) (iI (q : Int)) (iI ((l : Int) * 64 + (c : Int))) s13).bind fun s15 => fX4_actOnWay_b77 (E.1 + d) (iI (hr : Int)) s15) else fX4_actOnWay_b77 (E.1 + d) (iI (hr : Int)) (St E B1) := by
    unfold fX4_actOnWay lt_
    rw [c4 k4, some_bind, a1, some_bind]
    dsimp only
    rw [tg, g4_2 k4, some_bind, g1, some_bind]
    dsimp only
    rw [g4_2 k4, some_bind, g4_0 k4, some_bind, g4_1 k4, some_bind]
  rcases g2 with ⟨rfl, g3, g4, g5⟩ | rfl
  · obtain ⟨q2, c2, l2, S', G', L', n', c0', z1, z2, z3, z4, z5, z6⟩ := m7 (by rw [ec]; exact g3)
    have e1 : q2 = q := by omega
    have e2 : l2 = l ∧ c2 = c := by omega
    obtain ⟨rfl, rfl⟩ := e2
    subst e1
    rw [ev] at z4 z5 z6
    obtain ⟨rfl, rfl, rfl, rfl⟩ := RN_u N z4
    rw [show c0' = c0 by omega] at z6
    obtain ⟨v, y1, y2⟩ := s1_actIn (hr := hr) K hV z6 hh
    refine ⟨v, B1, ?_, a2, a3, y2⟩
    rw [hd', if_neg (by decide)]
    unfold fX4_actOnWay_b77
    rw [g4_2 k4, some_bind, y1, some_bind]
  · obtain ⟨B2, hB2⟩ : ∃ B2, B2 = wR (wR B1 (d + 4) 1 (some (d + 1))) (d + 4) 2 (some (d + 2)) := ⟨_, rfl⟩
    have b1 : B2.1 = B1.1 := by rw [hB2]; rfl
    have b2 : B2.2.1 = B1.2.1 := by rw [hB2]; rfl
    have b4 : B2.2.2.2 = B1.2.2.2 := by rw [hB2]; rfl
    have b3 : ∀ e j, ¬ e = d + 4 → B2.2.2.1 e j = B1.2.2.1 e j := fun e j w => by
      rw [hB2, wR_3, if_neg (fun z => w z.1), wR_3, if_neg (fun z => w z.1)]
    have f1 : B2.2.2.1 (d + 4) 1 = some (d + 1) := by
      rw [hB2, wR_3, if_neg (by omega), wR_3, if_pos ⟨rfl, rfl⟩]
    have f2 : B2.2.2.1 (d + 4) 2 = some (d + 2) := by
      rw [hB2, wR_3, if_pos ⟨rfl, rfl⟩]
    have evB2 : vyN B2 n = vyN B n := by
      rw [← ev]
      exact vyN_eq (fun j => by rw [b1]) (fun k z _ _ => by rw [b4])
    have cl : CLI B2 (d + 7 + 4 * q) (vyN B n) S G L c0 ((vyN B n).1 4).toNat := by
      have := CLV_at a4 N hc0
      unfold CLI hiR at *
      rw [b4]
      exact this
    obtain ⟨B3, y1, y2, y3⟩ := s1_find (B := B2) (p := n) K rk (by omega) (by unfold VW at *; rw [b1]; exact rw1) evB2 N hc0 (by omega) cl (by have := a5; unfold brI at *; rw [b2, b4]; exact this) f1 f2 cok hl
    obtain ⟨B4, hB4⟩ : ∃ B4, B4 = wI (wI (wI B3 (d + 4) 7 (B.1 co 12)) (d + 4) 8 (q : Int)) (d + 4) 9 ((l : Int) * 64 + (c : Int)) := ⟨_, rfl⟩
    have h9 : B4.1 (d + 4) 9 = (l : Int) * 64 + (c : Int) := by rw [hB4, wI_1, if_pos ⟨rfl, rfl⟩]
    have h8 : B4.1 (d + 4) 8 = (q : Int) := by rw [hB4, wI_1, if_neg (by omega), wI_1, if_pos ⟨rfl, rfl⟩]
    have h7 : B4.1 (d + 4) 7 = B.1 co 12 := by rw [hB4, wI_1, if_neg (by omega), wI_1, if_neg (by omega), wI_1, if_pos ⟨rfl, rfl⟩]
    have h6 : B4.1 (d + 4) 6 = B3.1 (d + 4) 6 := by rw [hB4, wI_1, if_neg (by omega), wI_1, if_neg (by omega), wI_1, if_neg (by omega)]
    have gds : GDS B4 d (vyN B n) S G L c0 c l := GDS_row h6 (by rw [hB4]; rfl) y3
    have gw : gwF d B1 B4 := by
      refine ⟨fun e j w => ?_, ?_, fun e j w => ?_, fun e w => ?_, fun e w => ?_⟩
      · rw [hB4, wI_1, if_neg (fun z => w z.1), wI_1, if_neg (fun z => w z.1), wI_1, if_neg (fun z => w z.1), y2.1 e j (fun z => w z.1), b1]
      · rw [hB4]
        show B3.2.1 = _
        rw [y2.2.1, b2]
      · rw [hB4]
        show B3.2.2.1 e j = _
        rw [y2.2.2.1 e j (fun z => w z.1), b3 e j w]
      · rw [hB4]
        show B3.2.2.2.1 e = _
        rw [y2.2.2.2.1 e w, b4]
      · rw [hB4]
        show B3.2.2.2.2 e = _
        rw [y2.2.2.2.2 e w, b4]
    have b6 : -1 ≤ B4.1 (d + 4) 6 ∧ B4.1 (d + 4) 6 < 24 := by
      have v4 := hV.2.2.2.1
      rcases gds with ⟨w, -⟩ | ⟨e, sd, w1, w2, -⟩
      · omega
      · omega
    have Q4 : RQ E B4 n d := RQ_gw a3 gw (by rw [h7, ec]) (by rw [h8]; unfold i32; omega) (by rw [h9]; unfold i32; omega) b6 (by
      rw [ev]
      exact ⟨q, c, l, S, G, L, k, c0, h8, h9, by omega, N, hc0, gds⟩)
    obtain ⟨v, z1, z2⟩ := s1_actIn (B := B4) (hr := hr) K hV gds hh
    refine ⟨v, B4, ?_, ltF_tr a2 (gwF_lt gw), Q4, z2⟩
    have tk : fX1_take (E.1 + (d + 4)) (E.1 + (d + 1)) (E.1 + (d + 2)) (St E B1) = some (St E B2) := by
      unfold fX1_take
      rw [c1 k1, some_bind, p1_1 k1, some_bind, p1_2 k1, some_bind, hB2]
    have rmb : fX1_remember (E.1 + (d + 4)) (iI (B.1 co 12)) (iI (q : Int)) (iI ((l : Int) * 64 + (c : Int))) (St E B3) = some (St E B4) := by
      unfold fX1_remember
      rw [c1 k1, some_bind, p1_7 k1, some_bind, p1_8 k1, some_bind, p1_9 k1, some_bind, hB4]
    rw [hd', if_pos (by decide), tk, some_bind, g4_2 k4, some_bind, y1, some_bind, g4_2 k4, some_bind, rmb, some_bind]
    unfold fX4_actOnWay_b77
    rw [g4_2 k4, some_bind, z1, some_bind]
end GDO
