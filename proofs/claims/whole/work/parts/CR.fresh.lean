/-! questions to the Roamer where it is not made yet -/
/-- the state behind the making of the Roamer -/
def NR (E : Ev) (B : Bk) (n : Nat) (E2 : Ev) (B2 : Bk) (c : Nat) : Prop := RV E B n ∧ RQ E2 B2 n c ∧ E2.1 = E.1 ∧ (∀ j, B2.1 n j = B.1 n j) ∧ (∀ z, B2.2.2.2.1 (n + 2) z = B.2.2.2.1 (n + 2) z) ∧ fX8_roaming (E.1 + co) (St E B) = some (E.1 + c, St E2 B2)
/-- answered without the Roamer; or it is made -/
def QN {α : Type} (E : Ev) (B : Bk) (n : Nat) (E2 : Ev) (B2 : Bk) (c : Nat) (f g : Hp → Option (α × Hp)) : Prop := ∃ v, (∃ B', f (St E B) = some (v, St E B) ∧ g (St E B) = some (v, St E B') ∧ sc B B') ∨ (∃ B1 B3, f (St E B) = some (v, St E2 B1) ∧ g (St E2 B1) = some (v, St E2 B3) ∧ ltF c B2 B1 ∧ sc B1 B3 ∧ RQ E2 B1 n c)
section NRQ
variable {E E2 : Ev} {B B2 : Bk} {n c : Nat}
theorem QN_no {α : Type} {f g : Hp → Option (α × Hp)} {v : α} (hf : f (St E B) = some (v, St E B)) (hg : g (St E B) = some (v, St E (wI B mo 0 0))) : QN E B n E2 B2 c f g := ⟨v, Or.inl ⟨_, hf, hg, sc_I (by unfold msv; omega)⟩⟩
theorem QN_eq {α : Type} {f g f' g' : Hp → Option (α × Hp)} (h : QM E2 B2 n c f' g') (e : f (St E B) = f' (St E2 B2)) (eg : g' = g) : QN E B n E2 B2 c f g := by
  subst eg
  obtain ⟨v, B1, B3, h1, h2, h3, h4, h5⟩ := h
  exact ⟨v, Or.inr ⟨B1, B3, e.trans h1, h2, h3, h4, h5⟩⟩
theorem NR_roam (N : NR E B n E2 B2 c) : fX8_roaming (E.1 + co) (St E B) = fX8_roaming (E2.1 + co) (St E2 B2) := by
  rw [N.2.2.2.2.2, s8_roamP N.2.1, N.2.2.1]
theorem NR_reach (N : NR E B n E2 B2 c) (x : Int32) : fX8_reachOf (E.1 + co) x (St E B) = fX8_reachOf (E2.1 + co) x (St E2 B2) := by
  unfold fX8_reachOf
  rw [c8 N.1.1.1, some_bind, c8 N.2.1.1.1.1, some_bind, NR_roam N, N.2.2.1]
theorem NR_tours (N : NR E B n E2 B2 c) (x : Int32) : fX8_toursOf (E.1 + co) x (St E B) = fX8_toursOf (E2.1 + co) x (St E2 B2) := by
  unfold fX8_toursOf
  rw [c8 N.1.1.1, some_bind, c8 N.2.1.1.1.1, some_bind, NR_roam N, N.2.2.1]
theorem n_soonest {s x y l : Int} (N : NR E B n E2 B2 c) (hs : i32 s) (hx : i32 x) (hy : i32 y) (hl : i32 l) : QN E B n E2 B2 c (fX8_soonest (E.1 + co) (iI s) (iI x) (iI y) (iI l)) (fX9_soonest (E.1 + mo) (iI s) (iI x) (iI y) (iI l)) := by
  have N' := N
  obtain ⟨R, Q2, e1, en2, er2, -⟩ := N'
  have R2 := Q2.1
  obtain ⟨⟨rc2, rn2, rk2, rm2⟩, rw12, -⟩ := R2
  have R2 := Q2.1
  have hn : n < 50 := Q2.2.1.1
  have R' := R
  obtain ⟨⟨rc, rn, rk, rm⟩, rw1, -⟩ := R'
  obtain ⟨w0, w1, w2, w3, w4, -, -, -, w8, -⟩ := rw1
  by_cases gd : (0 ≤ s ∧ s < B.1 n 8) ∧ ((0 ≤ x ∧ x < B.1 n 1) ∧ (0 ≤ y ∧ y < B.1 n 2)) ∧ (0 ≤ l ∧ l < B.1 n 3)
  · refine QN_eq (o_soonest Q2 hs hx hy hl) ?_ (by rw [e1])
    unfold fX8_soonest
    rw [c8 rc, some_bind, s8_hasShopCell R hs hx hy hl, some_bind, c8 rc2, some_bind, s8_hasShopCell R2 hs hx hy hl, some_bind]
    dsimp only
    simp only [en2]
    rw [if_neg (fun w => (bI_0.mp w) gd), if_neg (fun w => (bI_0.mp w) gd), NR_reach N, e1]
  · refine QN_no (v := iI (-2)) ?_ ?_
    · unfold fX8_soonest
      rw [c8 rc, some_bind, s8_hasShopCell R hs hx hy hl, some_bind]
      dsimp only
      rw [if_pos (bI_0.mpr gd)]
    · simp only [fX9_soonest, fX9_soonest_b36, c9 rm.1, p9_0 rm.1, some_bind, rg_isShop R hn hs, rg_isCell R hn hx hy hl, iI_0, ib]
      by_cases c1 : 0 ≤ s ∧ s < B.1 n 8
      · rw [if_pos c1, if_neg (fun w => gd ⟨c1, w⟩)]
      · rw [if_neg c1]
theorem n_spots {s h : Int} (N : NR E B n E2 B2 c) (hs : i32 s) (hh : i32 h) : QN E B n E2 B2 c (fX8_spots (E.1 + co) (iI s) (iI h)) (fX9_spots (E.1 + mo) (iI s) (iI h)) := by
  have N' := N
  obtain ⟨R, Q2, e1, en2, er2, -⟩ := N'
  have R2 := Q2.1
  obtain ⟨⟨rc2, rn2, rk2, rm2⟩, rw12, -⟩ := R2
  have R2 := Q2.1
  have hn : n < 50 := Q2.2.1.1
  have R' := R
  obtain ⟨⟨rc, rn, rk, rm⟩, rw1, -⟩ := R'
  obtain ⟨w0, w1, w2, w3, w4, -, -, -, w8, -⟩ := rw1
  by_cases gd : (0 ≤ s ∧ s < B.1 n 8) ∧ (0 ≤ h ∧ h < B.1 n 4)
  · refine QN_eq (o_spots Q2 hs hh) ?_ (by rw [e1])
    unfold fX8_spots
    rw [c8 rc, some_bind, s8_hasShopHour R hs hh, some_bind, c8 rc2, some_bind, s8_hasShopHour R2 hs hh, some_bind]
    dsimp only
    simp only [en2]
    rw [if_neg (fun w => (bI_0.mp w) gd), if_neg (fun w => (bI_0.mp w) gd), NR_reach N, e1]
  · refine QN_no (v := iI (-2)) ?_ ?_
    · unfold fX8_spots
      rw [c8 rc, some_bind, s8_hasShopHour R hs hh, some_bind]
      dsimp only
      rw [if_pos (bI_0.mpr gd)]
    · simp only [fX9_spots, fX9_spots_b22, c9 rm.1, p9_0 rm.1, some_bind, rg_isShop R hn hs, rg_isHour R hn hh, iI_0, ib]
      by_cases c1 : 0 ≤ s ∧ s < B.1 n 8
      · rw [if_pos c1, if_neg (fun w => gd ⟨c1, w⟩)]
      · rw [if_neg c1]
theorem n_columns {s h : Int} (N : NR E B n E2 B2 c) (hs : i32 s) (hh : i32 h) : QN E B n E2 B2 c (fX8_columns (E.1 + co) (iI s) (iI h)) (fX9_columns (E.1 + mo) (iI s) (iI h)) := by
  have N' := N
  obtain ⟨R, Q2, e1, en2, er2, -⟩ := N'
  have R2 := Q2.1
  obtain ⟨⟨rc2, rn2, rk2, rm2⟩, rw12, -⟩ := R2
  have R2 := Q2.1
  have hn : n < 50 := Q2.2.1.1
  have R' := R
  obtain ⟨⟨rc, rn, rk, rm⟩, rw1, -⟩ := R'
  obtain ⟨w0, w1, w2, w3, w4, -, -, -, w8, -⟩ := rw1
  by_cases gd : (0 ≤ s ∧ s < B.1 n 8) ∧ (0 ≤ h ∧ h < B.1 n 4)
  · refine QN_eq (o_columns Q2 hs hh) ?_ (by rw [e1])
    unfold fX8_columns
    rw [c8 rc, some_bind, s8_hasShopHour R hs hh, some_bind, c8 rc2, some_bind, s8_hasShopHour R2 hs hh, some_bind]
    dsimp only
    simp only [en2]
    rw [if_neg (fun w => (bI_0.mp w) gd), if_neg (fun w => (bI_0.mp w) gd), NR_reach N, e1]
  · refine QN_no (v := iI (-2)) ?_ ?_
    · unfold fX8_columns
      rw [c8 rc, some_bind, s8_hasShopHour R hs hh, some_bind]
      dsimp only
      rw [if_pos (bI_0.mpr gd)]
    · simp only [fX9_columns, fX9_columns_b22, c9 rm.1, p9_0 rm.1, some_bind, rg_isShop R hn hs, rg_isHour R hn hh, iI_0, ib]
      by_cases c1 : 0 ≤ s ∧ s < B.1 n 8
      · rw [if_pos c1, if_neg (fun w => gd ⟨c1, w⟩)]
      · rw [if_neg c1]
theorem n_ways {s h : Int} (N : NR E B n E2 B2 c) (hs : i32 s) (hh : i32 h) : QN E B n E2 B2 c (fX8_ways (E.1 + co) (iI s) (iI h)) (fX9_ways (E.1 + mo) (iI s) (iI h)) := by
  have N' := N
  obtain ⟨R, Q2, e1, en2, er2, -⟩ := N'
  have R2 := Q2.1
  obtain ⟨⟨rc2, rn2, rk2, rm2⟩, rw12, -⟩ := R2
  have R2 := Q2.1
  have hn : n < 50 := Q2.2.1.1
  have R' := R
  obtain ⟨⟨rc, rn, rk, rm⟩, rw1, -⟩ := R'
  have rw2' := rw1
  obtain ⟨w0, w1, w2, w3, w4, -, -, -, w8, -⟩ := rw2'
  by_cases gd : (0 ≤ s ∧ s < B.1 n 8) ∧ (0 ≤ h ∧ h < B.1 n 4)
  · refine QN_eq (o_ways Q2 hs hh) ?_ (by rw [e1])
    unfold fX8_ways
    rw [c8 rc, some_bind, s8_hasShopHour R hs hh, some_bind, c8 rc2, some_bind, s8_hasShopHour R2 hs hh, some_bind]
    dsimp only
    simp only [en2]
    rw [if_neg (fun w => (bI_0.mp w) gd), if_neg (fun w => (bI_0.mp w) gd), NR_roam N, e1]
  · refine QN_no (v := (-2 : Int64)) ?_ ?_
    · unfold fX8_ways
      rw [c8 rc, some_bind, s8_hasShopHour R hs hh, some_bind]
      dsimp only
      rw [if_pos (bI_0.mpr gd)]
    · simp only [fX9_ways, fX9_ways_b22, c9 rm.1, p9_0 rm.1, some_bind, rg_isShop R hn hs, rg_isHour R hn hh, iI_0, ib]
      by_cases c1 : 0 ≤ s ∧ s < B.1 n 8
      · rw [if_pos c1, if_neg (fun w => gd ⟨c1, w⟩)]
      · rw [if_neg c1]
theorem n_tour {s z : Int} (N : NR E B n E2 B2 c) (dd : DD (vyN B2 n)) (hs : i32 s) (hz : i32 z) : QN E B n E2 B2 c (fX8_tour (E.1 + co) (iI s) (iI z)) (fX9_tour (E.1 + mo) (iI s) (iI z)) := by
  have N' := N
  obtain ⟨R, Q2, e1, en2, er2, -⟩ := N'
  have R2 := Q2.1
  obtain ⟨⟨rc2, rn2, rk2, rm2⟩, rw12, -⟩ := R2
  have R2 := Q2.1
  have hn : n < 50 := Q2.2.1.1
  have R' := R
  obtain ⟨⟨rc, rn, rk, rm⟩, rw1, -⟩ := R'
  obtain ⟨w0, w1, w2, w3, w4, -, -, -, w8, w9⟩ := rw1
  have p5 := p2_le (k := (B.1 n 9).toNat) (by omega)
  by_cases gd : (0 ≤ s ∧ s < B.1 n 8) ∧ (0 ≤ z ∧ z < ((2 ^ (B.1 n 9).toNat : Nat) : Int))
  · refine QN_eq (o_tour Q2 dd hs hz) ?_ (by rw [e1])
    unfold fX8_tour
    rw [c8 rc, some_bind, s8_hasShopDoors R hs hz, some_bind, c8 rc2, some_bind, s8_hasShopDoors R2 hs hz, some_bind]
    dsimp only
    simp only [en2]
    rw [if_neg (fun w => (bI_0.mp w) gd), if_neg (fun w => (bI_0.mp w) gd), NR_tours N, e1]
  · refine QN_no (v := iI (-2)) ?_ ?_
    · unfold fX8_tour
      rw [c8 rc, some_bind, s8_hasShopDoors R hs hz, some_bind]
      dsimp only
      rw [if_pos (bI_0.mpr gd)]
    · simp only [fX9_tour, fX9_tour_b21, c9 rm.1, p9_0 rm.1, some_bind, rg_isShop R hn hs, rg_isDoors R hn hz, iI_0, ib]
      by_cases c1 : 0 ≤ s ∧ s < B.1 n 8
      · rw [if_pos c1, if_neg (fun w => gd ⟨c1, w⟩)]
      · rw [if_neg c1]
theorem n_done {s z : Int} (N : NR E B n E2 B2 c) (dd : DD (vyN B2 n)) (hs : i32 s) (hz : i32 z) : QN E B n E2 B2 c (fX8_done (E.1 + co) (iI s) (iI z)) (fX9_done (E.1 + mo) (iI s) (iI z)) := by
  have N' := N
  obtain ⟨R, Q2, e1, en2, er2, -⟩ := N'
  have R2 := Q2.1
  obtain ⟨⟨rc2, rn2, rk2, rm2⟩, rw12, -⟩ := R2
  have R2 := Q2.1
  have hn : n < 50 := Q2.2.1.1
  have R' := R
  obtain ⟨⟨rc, rn, rk, rm⟩, rw1, -⟩ := R'
  obtain ⟨w0, w1, w2, w3, w4, -, -, -, w8, w9⟩ := rw1
  have p5 := p2_le (k := (B.1 n 9).toNat) (by omega)
  by_cases gd : (0 ≤ s ∧ s < B.1 n 8) ∧ (0 ≤ z ∧ z < ((2 ^ (B.1 n 9).toNat : Nat) : Int))
  · refine QN_eq (o_done Q2 dd hs hz) ?_ (by rw [e1])
    unfold fX8_done
    rw [c8 rc, some_bind, s8_hasShopDoors R hs hz, some_bind, c8 rc2, some_bind, s8_hasShopDoors R2 hs hz, some_bind]
    dsimp only
    simp only [en2]
    rw [if_neg (fun w => (bI_0.mp w) gd), if_neg (fun w => (bI_0.mp w) gd), NR_tours N, e1]
  · refine QN_no (v := iI (-2)) ?_ ?_
    · unfold fX8_done
      rw [c8 rc, some_bind, s8_hasShopDoors R hs hz, some_bind]
      dsimp only
      rw [if_pos (bI_0.mpr gd)]
    · simp only [fX9_done, fX9_done_b21, c9 rm.1, p9_0 rm.1, some_bind, rg_isShop R hn hs, rg_isDoors R hn hz, iI_0, ib]
      by_cases c1 : 0 ≤ s ∧ s < B.1 n 8
      · rw [if_pos c1, if_neg (fun w => gd ⟨c1, w⟩)]
      · rw [if_neg c1]
theorem n_lasts {s : Int} (N : NR E B n E2 B2 c) (hs : i32 s) : QN E B n E2 B2 c (fX8_lasts (E.1 + co) (iI s)) (fX9_lasts (E.1 + mo) (iI s)) := by
  have N' := N
  obtain ⟨R, Q2, e1, en2, er2, -⟩ := N'
  have R2 := Q2.1
  obtain ⟨⟨rc2, rn2, rk2, rm2⟩, rw12, -⟩ := R2
  have R2 := Q2.1
  have hn : n < 50 := Q2.2.1.1
  have R' := R
  obtain ⟨⟨rc, rn, rk, rm⟩, rw1, -⟩ := R'
  have rw2 := rw1
  obtain ⟨w0, w1, w2, w3, w4, -, -, -, w8, -⟩ := rw2
  by_cases gd : 0 ≤ s ∧ s < B.1 n 8
  · refine QN_eq (o_lasts Q2 hs) ?_ (by rw [e1])
    unfold fX8_lasts
    rw [c8 rc, some_bind, g8_7 rc rn, some_bind, s_hasShop hs rk rw1, some_bind, c8 rc2, some_bind, g8_7 rc2 rn2, some_bind, s_hasShop hs rk2 rw12, some_bind]
    dsimp only
    simp only [en2]
    rw [if_neg (fun w => (bI_0.mp w) gd), if_neg (fun w => (bI_0.mp w) gd), NR_reach N, e1]
  · refine QN_no (v := iI (-2)) ?_ ?_
    · unfold fX8_lasts
      rw [c8 rc, some_bind, g8_7 rc rn, some_bind, s_hasShop hs rk rw1, some_bind]
      dsimp only
      rw [if_pos (bI_0.mpr gd)]
    · unfold fX9_lasts
      rw [c9 rm.1, some_bind, p9_0 rm.1, some_bind, rg_isShop R hn hs, some_bind]
      dsimp only
      rw [if_pos (bI_0.mpr gd)]
theorem n_aloft {s : Int} (N : NR E B n E2 B2 c) (hs : i32 s) : QN E B n E2 B2 c (fX8_aloft (E.1 + co) (iI s)) (fX9_aloft (E.1 + mo) (iI s)) := by
  have N' := N
  obtain ⟨R, Q2, e1, en2, er2, -⟩ := N'
  have R2 := Q2.1
  obtain ⟨⟨rc2, rn2, rk2, rm2⟩, rw12, -⟩ := R2
  have R2 := Q2.1
  have hn : n < 50 := Q2.2.1.1
  have R' := R
  obtain ⟨⟨rc, rn, rk, rm⟩, rw1, -⟩ := R'
  have rw2' := rw1
  obtain ⟨w0, w1, w2, w3, w4, -, -, -, w8, -⟩ := rw2'
  by_cases gd : 0 ≤ s ∧ s < B.1 n 8
  · refine QN_eq (o_aloft Q2 hs) ?_ (by rw [e1])
    unfold fX8_aloft
    rw [c8 rc, some_bind, g8_7 rc rn, some_bind, s_hasShop hs rk rw1, some_bind, c8 rc2, some_bind, g8_7 rc2 rn2, some_bind, s_hasShop hs rk2 rw12, some_bind]
    dsimp only
    simp only [en2]
    rw [if_neg (fun w => (bI_0.mp w) gd), if_neg (fun w => (bI_0.mp w) gd), NR_roam N, e1]
  · refine QN_no (v := iI (-2)) ?_ ?_
    · unfold fX8_aloft
      rw [c8 rc, some_bind, g8_7 rc rn, some_bind, s_hasShop hs rk rw1, some_bind]
      dsimp only
      rw [if_pos (bI_0.mpr gd)]
    · unfold fX9_aloft
      rw [c9 rm.1, some_bind, p9_0 rm.1, some_bind, rg_isShop R hn hs, some_bind]
      dsimp only
      rw [if_pos (bI_0.mpr gd)]
theorem n_meetA {s t : Int} {a : Nat} {fx : Nat → Int32 → Int32 → Hp → Option (Int32 × Hp)} {gx : Nat → Int32 → Int32 → Hp → Option (Int32 × Hp)} (ha : a ≤ 1)
    (hf : ∀ x0 x1 x2 s, fx x0 x1 x2 s = ((ck s x0 8).bind fun _ => (gR s x0 8 7).bind fun v1 => (fX6_hasTwoShops v1 x1 x2 s).bind fun r2 => if r2.1 = 0 then (some ((iI (-2)), r2.2)) else ((fX8_reachOf x0 x1 r2.2).bind fun r4 => (fX8_reachOf x0 x2 r4.2).bind fun r5 => (fX8_firstTogether x0 r4.1 r5.1 (iI (a : Int)) r5.2).bind fun r6 => some (r6.1, r6.2))))
    (hg : ∀ x0 x1 x2 s, gx x0 x1 x2 s = ((ck s x0 9).bind fun _ => (pI s x0 9 0 (iI 0)).bind fun s1 => (fX9_areTwo x0 x1 x2 s1).bind fun r2 => if r2.1 = 0 then (some ((iI (-2)), r2.2)) else ((fX9_meetBy x0 x1 x2 (iI (a : Int)) r2.2).bind fun r4 => some (r4.1, r4.2))))
    (N : NR E B n E2 B2 c) (hs : i32 s) (ht : i32 t) : QN E B n E2 B2 c (fx (E.1 + co) (iI s) (iI t)) (gx (E.1 + mo) (iI s) (iI t)) := by
  have N' := N
  obtain ⟨R, Q2, e1, en2, er2, -⟩ := N'
  have R2 := Q2.1
  obtain ⟨⟨rc2, rn2, rk2, rm2⟩, rw12, -⟩ := R2
  have R2 := Q2.1
  have hn : n < 50 := Q2.2.1.1
  have R' := R
  obtain ⟨⟨rc, rn, rk, rm⟩, rw1, -⟩ := R'
  have rw2 := rw1
  obtain ⟨w0, w1, w2, w3, w4, -, -, -, w8, -⟩ := rw2
  by_cases gd : (0 ≤ s ∧ s < B.1 n 8) ∧ (0 ≤ t ∧ t < B.1 n 8) ∧ ¬ s = t
  · refine QN_eq (o_meetA ha hf hg Q2 hs ht) ?_ (by rw [e1])
    rw [hf, hf, c8 rc, some_bind, g8_7 rc rn, some_bind, s_hasTwoShops hs ht rk rw1, some_bind, c8 rc2, some_bind, g8_7 rc2 rn2, some_bind, s_hasTwoShops hs ht rk2 rw12, some_bind]
    dsimp only
    simp only [en2]
    rw [if_neg (fun w => (bI_0.mp w) gd), if_neg (fun w => (bI_0.mp w) gd), NR_reach N, e1]
  · refine QN_no (v := iI (-2)) ?_ ?_
    · rw [hf, c8 rc, some_bind, g8_7 rc rn, some_bind, s_hasTwoShops hs ht rk rw1, some_bind]
      dsimp only
      rw [if_pos (bI_0.mpr gd)]
    · rw [hg, c9 rm.1, some_bind, p9_0 rm.1, some_bind, rg_areTwo R hn hs ht, some_bind]
      dsimp only
      rw [if_pos (bI_0.mpr gd)]
theorem n_meet {s t : Int} (N : NR E B n E2 B2 c) (hs : i32 s) (ht : i32 t) : QN E B n E2 B2 c (fX8_meet (E.1 + co) (iI s) (iI t)) (fX9_meet (E.1 + mo) (iI s) (iI t)) := n_meetA (a := 0) (fx := fX8_meet) (gx := fX9_meet) (by omega) (fun _ _ _ _ => rfl) (fun _ _ _ _ => rfl) N hs ht
theorem n_rope {s t : Int} (N : NR E B n E2 B2 c) (hs : i32 s) (ht : i32 t) : QN E B n E2 B2 c (fX8_rope (E.1 + co) (iI s) (iI t)) (fX9_rope (E.1 + mo) (iI s) (iI t)) := n_meetA (a := 1) (fx := fX8_rope) (gx := fX9_rope) (by omega) (fun _ _ _ _ => rfl) (fun _ _ _ _ => rfl) N hs ht
theorem n_doors {s z w : Int} (N : NR E B n E2 B2 c) (dd : DD (vyN B2 n)) (hs : i32 s) (hz : i32 z) (hw : i32 w) : QN E B n E2 B2 c (fX8_doors (E.1 + co) (iI s) (iI z) (iI w)) (fX9_doors (E.1 + mo) (iI s) (iI z) (iI w)) := by
  have N' := N
  obtain ⟨R, Q2, e1, en2, er2, -⟩ := N'
  have R2 := Q2.1
  obtain ⟨⟨rc2, rn2, rk2, rm2⟩, rw12, -⟩ := R2
  have R2 := Q2.1
  have hn : n < 50 := Q2.2.1.1
  have R' := R
  obtain ⟨⟨rc, rn, rk, rm⟩, rw1, -⟩ := R'
  have rw2 := rw1
  obtain ⟨w0, w1, w2, w3, w4, -, -, -, w8, w9⟩ := rw2
  have p5 := p2_le (k := (B.1 n 9).toNat) (by omega)
  have pp := Nat.two_pow_pos (B.1 n 9).toNat
  have j0 : (0 : Int64) = jI 0 := rfl
  have j9 : (9 : Int64) = jI 9 := rfl
  have j1 : (1 : Int64) = jI 1 := rfl
  have inz : ∀ D : Bk, fX9_in (Int32.toInt64 (iI z)) 0 9 (St E D) = some (iI (bI (0 ≤ z ∧ z ≤ 9)), St E D) := fun D => by
    rw [jI_i hz.1 hz.2, j0, j9, m_in (by have := hz.1; omega) (by have := hz.2; omega) (by omega) (by omega) (by omega) (by omega)]
  have inw : ∀ D : Bk, fX9_in (Int32.toInt64 (iI w)) 0 1 (St E D) = some (iI (bI (0 ≤ w ∧ w ≤ 1)), St E D) := fun D => by
    rw [jI_i hw.1 hw.2, j0, j1, m_in (by have := hw.1; omega) (by have := hw.2; omega) (by omega) (by omega) (by omega) (by omega)]
  by_cases gd : (0 ≤ s ∧ s < B.1 n 8) ∧ (0 ≤ z ∧ z ≤ 9) ∧ (0 ≤ w ∧ w ≤ 1)
  · refine QN_eq (o_doors Q2 dd hs hz hw) ?_ (by rw [e1])
    obtain ⟨⟨s0, s1⟩, ⟨z0, z1⟩, ww0, ww1⟩ := gd
    have sh : 0 ≤ s ∧ s < B.1 n 8 := ⟨s0, s1⟩
    have st : 0 ≤ z ∧ z ≤ 9 := ⟨z0, z1⟩
    have c1 : ¬ iI w < 0 := by rw [iI_0, iI_lt (by omega) (by omega) (by omega) (by omega)]; omega
    have c2 : iI w ≤ iI 1 := by rw [iI_le (by omega) (by omega) (by omega) (by omega)]; omega
    unfold fX8_doors
    rw [c8 rc, some_bind, g8_7 rc rn, some_bind, s_hasShop hs rk rw1, some_bind, c8 rc2, some_bind, g8_7 rc2 rn2, some_bind, s_hasShop hs rk2 rw12, some_bind]
    dsimp only
    simp only [en2]
    rw [if_neg (fun x => (bI_0.mp x) sh), if_neg (fun x => (bI_0.mp x) sh), s8_isStock hz, some_bind, s8_isStock hz, some_bind]
    dsimp only
    rw [if_neg (fun x => (bI_0.mp x) st), if_neg (fun x => (bI_0.mp x) st), if_neg c1, if_neg c1, if_pos c2, if_pos c2, NR_tours N, e1]
  · refine QN_no (v := iI (-2)) ?_ ?_
    · unfold fX8_doors fX8_doors_b27
      rw [c8 rc, some_bind, g8_7 rc rn, some_bind, s_hasShop hs rk rw1, some_bind]
      dsimp only
      by_cases c1 : 0 ≤ s ∧ s < B.1 n 8
      · rw [if_neg (fun x => (bI_0.mp x) c1), s8_isStock hz, some_bind]
        dsimp only
        by_cases c2 : 0 ≤ z ∧ z ≤ 9
        · rw [if_neg (fun x => (bI_0.mp x) c2)]
          obtain ⟨hw1, hw2⟩ := hw
          by_cases c3 : w < 0
          · rw [if_pos (by rw [iI_0, iI_lt (by omega) (by omega) (by omega) (by omega)]; exact c3)]
          · rw [if_neg (by rw [iI_0, iI_lt (by omega) (by omega) (by omega) (by omega)]; exact c3), if_neg (by rw [iI_le (by omega) (by omega) (by omega) (by omega)]; exact fun x => gd ⟨c1, c2, by omega, x⟩)]
        · rw [if_pos (bI_0.mpr c2)]
      · rw [if_pos (bI_0.mpr c1)]
    · simp only [fX9_doors, fX9_doors_b35, c9 rm.1, p9_0 rm.1, some_bind, rg_isShop R hn hs, inz, inw, iI_0, ib]
      by_cases c1 : 0 ≤ s ∧ s < B.1 n 8
      · rw [if_pos c1]
        by_cases c2 : 0 ≤ z ∧ z ≤ 9
        · rw [if_pos c2, if_neg (fun x => gd ⟨c1, c2, x⟩)]
        · rw [if_neg c2]
      · rw [if_neg c1]
theorem n_way {s x y l h : Int} (N : NR E B n E2 B2 c) (hs : i32 s) (hx : i32 x) (hy : i32 y) (hl : i32 l) (hh : i32 h) : QN E B n E2 B2 c (fX8_way (E.1 + co) (iI s) (iI x) (iI y) (iI l) (iI h)) (fX9_way (E.1 + mo) (iI s) (iI x) (iI y) (iI l) (iI h)) := by
  have N' := N
  obtain ⟨R, Q2, e1, en2, er2, -⟩ := N'
  have R2 := Q2.1
  obtain ⟨⟨rc2, rn2, rk2, rm2⟩, rw12, -⟩ := R2
  have R2 := Q2.1
  have hn : n < 50 := Q2.2.1.1
  have R' := R
  obtain ⟨⟨rc, rn, rk, rm⟩, rw1, -⟩ := R'
  have rw2' := rw1
  obtain ⟨w0, w1, w2, w3, w4, -, -, -, w8, -⟩ := rw2'
  by_cases gd : (0 ≤ s ∧ s < B.1 n 8) ∧ ((0 ≤ x ∧ x < B.1 n 1) ∧ (0 ≤ y ∧ y < B.1 n 2)) ∧ (0 ≤ l ∧ l < B.1 n 3)
  · by_cases gh : 0 ≤ h ∧ h < B.1 n 4
    · refine QN_eq (o_way Q2 hs hx hy hl hh) ?_ (by rw [e1])
      unfold fX8_way
      rw [c8 rc, some_bind, s8_hasShopCell R hs hx hy hl, some_bind, c8 rc2, some_bind, s8_hasShopCell R2 hs hx hy hl, some_bind]
      dsimp only
      simp only [en2]
      rw [if_neg (fun w => (bI_0.mp w) gd), if_neg (fun w => (bI_0.mp w) gd), g8_7 rc rn, some_bind, s_hasHour hh rk rw1, some_bind, g8_7 rc2 rn2, some_bind, s_hasHour hh rk2 rw12, some_bind]
      dsimp only
      simp only [en2]
      rw [if_neg (fun w => (bI_0.mp w) gh), if_neg (fun w => (bI_0.mp w) gh), NR_roam N, e1]
    · refine QN_no (v := iI (-2)) ?_ ?_
      · unfold fX8_way fX8_way_b24
        rw [c8 rc, some_bind, s8_hasShopCell R hs hx hy hl, some_bind]
        dsimp only
        rw [if_neg (fun w => (bI_0.mp w) gd), g8_7 rc rn, some_bind, s_hasHour hh rk rw1, some_bind]
        dsimp only
        rw [if_pos (bI_0.mpr gh)]
      · unfold fX9_way fX9_way_b34
        rw [c9 rm.1, some_bind, p9_0 rm.1, some_bind, rg_isShop R hn hs, some_bind]
        dsimp only
        rw [if_neg (fun w => (bI_0.mp w) gd.1), rg_isCell R hn hx hy hl, some_bind]
        dsimp only
        rw [if_neg (fun w => (bI_0.mp w) gd.2), rg_isHour R hn hh, some_bind]
        dsimp only
        rw [if_pos (bI_0.mpr gh)]
  · refine QN_no (v := iI (-2)) ?_ ?_
    · unfold fX8_way fX8_way_b24
      rw [c8 rc, some_bind, s8_hasShopCell R hs hx hy hl, some_bind]
      dsimp only
      rw [if_pos (bI_0.mpr gd)]
    · unfold fX9_way fX9_way_b34
      rw [c9 rm.1, some_bind, p9_0 rm.1, some_bind, rg_isShop R hn hs, some_bind]
      dsimp only
      by_cases c1 : 0 ≤ s ∧ s < B.1 n 8
      · rw [if_neg (fun w => (bI_0.mp w) c1), rg_isCell R hn hx hy hl, some_bind]
        dsimp only
        rw [if_pos (bI_0.mpr (fun w => gd ⟨c1, w⟩))]
      · rw [if_pos (bI_0.mpr c1)]
theorem n_fair {s : Int} (N : NR E B n E2 B2 c) (hs : i32 s) : QN E B n E2 B2 c (fX8_fair (E.1 + co) (iI s)) (fX9_fair (E.1 + mo) (iI s)) := by
  have N' := N
  obtain ⟨R, Q2, e1, en2, er2, -⟩ := N'
  have R2 := Q2.1
  obtain ⟨⟨rc2, rn2, rk2, rm2⟩, rw12, -⟩ := R2
  have R2 := Q2.1
  have hn : n < 50 := Q2.2.1.1
  have R' := R
  obtain ⟨⟨rc, rn, rk, rm⟩, rw1, rvr, rvb⟩ := R'
  have rw2' := rw1
  obtain ⟨w0, w1, w2, w3, w4, -, -, -, w8, -⟩ := rw2'
  have hf := rvr.2.2.2.2.2.2.2.2
  rw [show (15 : Int) * 0 + 9 = 9 from rfl, show (15 : Int) * 0 + 10 = 10 from rfl, show (15 : Int) * 0 + 11 = 11 from rfl, show (15 : Int) * 0 + 12 = 12 from rfl, show (15 : Int) * 0 + 13 = 13 from rfl] at hf
  have hb := rvb.2.2.2.2.2.2.2.2
  by_cases gd : 0 ≤ s ∧ s < B.1 n 8
  · obtain ⟨s0, s1⟩ := gd
    rcases hf with ⟨x1, x2⟩ | ⟨x1, x2, x3, x4, x5, x6, x7⟩
    · refine QN_no (v := iI (-1)) ?_ ?_
      · unfold fX8_fair
        rw [c8 rc, some_bind, g8_7 rc rn, some_bind, s_hasShop hs rk rw1, some_bind]
        dsimp only
        rw [if_neg (fun w => (bI_0.mp w) ⟨s0, s1⟩), g8_7 rc rn, some_bind, g6_10 rk.1, some_bind, x1, if_pos rfl]
      · unfold fX9_fair
        rw [c9 rm.1, some_bind, p9_0 rm.1, some_bind, rg_isShop R hn hs, some_bind]
        dsimp only
        rw [if_neg (fun w => (bI_0.mp w) ⟨s0, s1⟩), g9_17 rm.1, some_bind, aI_ok (mk7 rm) (by omega) (by omega) (by omega), some_bind, show (wI B mo 0 0).2.2.2.1 (mo + 7) 9 = B.2.2.2.1 (mo + 7) 9 from rfl, x2, if_pos (by decide)]
    · rcases hb with hb | ⟨⟨xx, yy, h1, h2, h3, h4, h5⟩, h6, h7, h8⟩
      · exact absurd hb x1
      refine QN_eq (o_fair Q2 hs) ?_ (by rw [e1])
      have x1' : ¬ iI (B.1 n 10) = iI (-1) := fun w => x1 ((iI_eq (by omega) (by omega) (by omega) (by omega)).mp w)
      unfold fX8_fair
      rw [c8 rc, some_bind, g8_7 rc rn, some_bind, s_hasShop hs rk rw1, some_bind, c8 rc2, some_bind, g8_7 rc2 rn2, some_bind, s_hasShop hs rk2 rw12, some_bind]
      dsimp only
      simp only [en2]
      rw [if_neg (fun w => (bI_0.mp w) ⟨s0, s1⟩), if_neg (fun w => (bI_0.mp w) ⟨s0, s1⟩), g8_7 rc rn, some_bind, g6_10 rk.1, some_bind, g8_7 rc2 rn2, some_bind, g6_10 rk2.1, some_bind, en2, if_neg x1', if_neg x1', NR_roam N, e1]
  · refine QN_no (v := iI (-2)) ?_ ?_
    · unfold fX8_fair
      rw [c8 rc, some_bind, g8_7 rc rn, some_bind, s_hasShop hs rk rw1, some_bind]
      dsimp only
      rw [if_pos (bI_0.mpr gd)]
    · unfold fX9_fair
      rw [c9 rm.1, some_bind, p9_0 rm.1, some_bind, rg_isShop R hn hs, some_bind]
      dsimp only
      rw [if_pos (bI_0.mpr gd)]
theorem least_hd {s x y l : Int} (R : RV E B n) (hs : i32 s) (hx : i32 x) (hy : i32 y) (hl : i32 l) (gd : (0 ≤ s ∧ s < B.1 n 8) ∧ ((0 ≤ x ∧ x < B.1 n 1) ∧ (0 ≤ y ∧ y < B.1 n 2)) ∧ (0 ≤ l ∧ l < B.1 n 3)) : fX8_least (E.1 + co) (iI s) (iI x) (iI y) (iI l) (St E B) = if iI (B.2.2.2.1 (n + 2) (s * 6 + 1) * 8 + B.2.2.2.1 (n + 2) (s * 6)) = iI (y * 8 + x) ∧ iI (B.2.2.2.1 (n + 2) (s * 6 + 2)) = iI l then some (iI 0, St E B) else fX8_least_b51 (E.1 + co) (iI s) (iI l) (iI (y * 8 + x)) (St E B) := by
  have R' := R
  obtain ⟨⟨rc, rn, rk, rm⟩, rw1, -⟩ := R'
  obtain ⟨w0, w1, w2, w3, w4, -, -, -, w8, -⟩ := rw1
  unfold fX8_least
  rw [c8 rc, some_bind, s8_hasShopCell R hs hx hy hl, some_bind]
  dsimp only
  rw [if_neg (fun w => (bI_0.mp w) gd), s_columnOf, some_bind]
  dsimp only
  rw [g8_7 rc rn, some_bind, s_shopColumn rk (by omega) (by omega), some_bind]
  dsimp only
  rw [g8_7 rc rn, some_bind, s_shopFact rk (by omega) (by omega) (by omega) (by omega), some_bind]
  dsimp only
  by_cases c1 : iI (B.2.2.2.1 (n + 2) (s * 6 + 1) * 8 + B.2.2.2.1 (n + 2) (s * 6)) = iI (y * 8 + x)
  · rw [if_pos c1]
    by_cases c2 : iI (B.2.2.2.1 (n + 2) (s * 6 + 2)) = iI l
    · rw [if_pos c2, if_pos ⟨c1, c2⟩]
    · rw [if_neg c2, if_neg (fun w => c2 w.2)]
  · rw [if_neg c1, if_neg (fun w => c1 w.1)]
theorem n_least {s x y l : Int} (N : NR E B n E2 B2 c) (hs : i32 s) (hx : i32 x) (hy : i32 y) (hl : i32 l) : QN E B n E2 B2 c (fX8_least (E.1 + co) (iI s) (iI x) (iI y) (iI l)) (fX9_least (E.1 + mo) (iI s) (iI x) (iI y) (iI l)) := by
  have NN := N
  have N' := N
  obtain ⟨R, Q2, e1, en2, er2, -⟩ := N'
  have R2 := Q2.1
  obtain ⟨⟨rc2, rn2, rk2, rm2⟩, rw12, -⟩ := R2
  have R2 := Q2.1
  have hn : n < 50 := Q2.2.1.1
  have R' := R
  obtain ⟨⟨rc, rn, rk, rm⟩, rw1, -⟩ := R'
  obtain ⟨w0, w1, w2, w3, w4, -, -, -, w8, -⟩ := rw1
  by_cases gd : (0 ≤ s ∧ s < B.1 n 8) ∧ ((0 ≤ x ∧ x < B.1 n 1) ∧ (0 ≤ y ∧ y < B.1 n 2)) ∧ (0 ≤ l ∧ l < B.1 n 3)
  · have hd0 := least_hd R hs hx hy hl gd
    have hd2 := least_hd (B := B2) (E := E2) R2 hs hx hy hl (by simp only [en2]; exact gd)
    simp only [er2] at hd2
    by_cases ec : iI (B.2.2.2.1 (n + 2) (s * 6 + 1) * 8 + B.2.2.2.1 (n + 2) (s * 6)) = iI (y * 8 + x) ∧ iI (B.2.2.2.1 (n + 2) (s * 6 + 2)) = iI l
    · rw [if_pos ec] at hd0
      obtain ⟨⟨s0, s1⟩, ⟨⟨x0, x1⟩, y0, y1⟩, l0, l1⟩ := gd
      obtain ⟨q, rfl⟩ : ∃ q : Nat, s = (q : Int) := ⟨s.toNat, by omega⟩
      obtain ⟨x, rfl⟩ : ∃ xN : Nat, x = (xN : Int) := ⟨x.toNat, by omega⟩
      obtain ⟨y, rfl⟩ : ∃ yN : Nat, y = (yN : Int) := ⟨y.toNat, by omega⟩
      obtain ⟨l, rfl⟩ : ∃ lN : Nat, l = (lN : Int) := ⟨l.toNat, by omega⟩
      have hst : 0 < B.1 n 0 := by
        have := R.2.2.2.2.2.1
        by_cases c : B.1 n 0 = 0
        · have := (this c).1
          omega
        · omega
      obtain ⟨S, G, L, k, c0, N, hc0, h4⟩ := rv_RN R hst s1
      have N' := N
      obtain ⟨hV, i0, eS, eG, eL, hk, hS, hG⟩ := N'
      have eL' : B.2.2.2.1 (n + 2) ((q : Int) * 6 + 2) = (L : Int) := eL
      have hk' : B.1 n 3 = (k : Int) := hk
      have cc : B.2.2.2.1 (n + 2) ((q : Int) * 6 + 1) * 8 + B.2.2.2.1 (n + 2) ((q : Int) * 6) = (c0 : Int) := by
        rw [← hc0]
        show _ = B.2.2.2.1 (n + 2) ((q : Int) * 6 + 1) * 8 + B.2.2.2.1 (n + 2) ((q : Int) * 6 + 0)
        rw [Int.add_zero]
      have c64 := (scV_b N)
      obtain ⟨c0', c1', c2', -, c4'⟩ := c64
      have e : c0 = y * 8 + x ∧ L = l := by
        rw [cc, eL'] at ec
        rw [iI_eq (by omega) (by omega) (by omega) (by omega), iI_eq (by omega) (by omega) (by omega) (by omega)] at ec
        omega
      obtain ⟨r, D, g1, g2, g3⟩ := m_least (x := x) (y := y) (l := l) R hn hst N hc0 x1 y1 l1
      have r0 : r = 0 := lsP_u g3 (Or.inr ⟨0, rfl, ⟨0, 0, by omega, e.1.symm, e.2.symm, rfl, rfl, rfl⟩, fun s' h => by omega⟩)
      rw [r0] at g1
      exact ⟨iI 0, Or.inl ⟨D, hd0, g1, g2⟩⟩
    · rw [if_neg ec] at hd0 hd2
      refine QN_eq (o_least Q2 hs hx hy hl) ?_ (by rw [e1])
      rw [hd0, hd2]
      unfold fX8_least_b51
      rw [NR_reach NN, e1]
  · refine QN_no (v := iI (-2)) ?_ ?_
    · unfold fX8_least
      rw [c8 rc, some_bind, s8_hasShopCell R hs hx hy hl, some_bind]
      dsimp only
      rw [if_pos (bI_0.mpr gd)]
    · simp only [fX9_least, fX9_least_b24, c9 rm.1, p9_0 rm.1, some_bind, rg_isShop R hn hs, rg_isCell R hn hx hy hl, iI_0, ib]
      by_cases c1 : 0 ≤ s ∧ s < B.1 n 8
      · rw [if_pos c1, if_neg (fun w => gd ⟨c1, w⟩)]
      · rw [if_neg c1]
end NRQ
