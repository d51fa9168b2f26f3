/-! the whole relation of the Roamer; where the cells ahead of it stay; reach and tours asked by the main object -/
def sP (c1 l1 s1 u1 : Nat) : StP := fun c l s u m => c = c1 ∧ l = l1 ∧ s = s1 ∧ u = u1 ∧ m = 0
/-- from a state ahead of hour h the cell (c, l) can be reached at the end of hour e with sand sd spent -/
def Ld (V : Vy) (S G e c l sd h c1 l1 s1 u1 : Nat) : Prop := ∃ u, Pt V S G U0 h (sP c1 l1 s1 u1) (e + 1 - h) c l sd u 0
def nxS (V : Vy) (S G h : Nat) (a : Int) (c1 l1 s1 u1 c2 l2 s2 u2 : Nat) : Prop := okA V a (l1 : Int) ((S : Int) - (s1 : Int)) ((G : Int) - (u1 : Int)) ∧ (c2 : Int) = ccA V a (h : Int) (c1 : Int) (l1 : Int) ∧ (l2 : Int) = clA V (h : Int) (lvA a (l1 : Int)) ∧ (s2 : Int) = (s1 : Int) + (if a = 1 then 1 else 0) ∧ (u2 : Int) = (u1 : Int) + (if a = 2 then 1 else 0)
def gdA (V : Vy) (S G e c l sd h : Nat) (a : Int) (c1 l1 s1 u1 : Nat) : Prop := ∃ c2 l2 s2 u2, nxS V S G h a c1 l1 s1 u1 c2 l2 s2 u2 ∧ Ld V S G e c l sd (h + 1) c2 l2 s2 u2
def WR (V : Vy) (S G e c l sd h : Nat) (a : Int) (c1 l1 s1 u1 : Nat) : Prop := (a = 0 ∧ gdA V S G e c l sd h 0 c1 l1 s1 u1) ∨ (a = 1 ∧ ¬ gdA V S G e c l sd h 0 c1 l1 s1 u1 ∧ gdA V S G e c l sd h 1 c1 l1 s1 u1) ∨ (a = 2 ∧ ¬ gdA V S G e c l sd h 0 c1 l1 s1 u1 ∧ ¬ gdA V S G e c l sd h 1 c1 l1 s1 u1)
def Wk (V : Vy) (S G e c l sd c0 L : Nat) : Nat → Nat → Nat → Nat → Nat → Prop
  | 0 => fun c1 l1 s1 u1 => c1 = c0 ∧ l1 = L ∧ s1 = 0 ∧ u1 = 0
  | h + 1 => fun c2 l2 s2 u2 => ∃ c1 l1 s1 u1 a, Wk V S G e c l sd c0 L h c1 l1 s1 u1 ∧ WR V S G e c l sd h a c1 l1 s1 u1 ∧ nxS V S G h a c1 l1 s1 u1 c2 l2 s2 u2
/-- e is the soonest hour at whose end the cell is reached, sd the least sand for it then -/
def snE (V : Vy) (S G L c0 c l e sd : Nat) : Prop := (∃ u, Pt V S G U0 0 (iP c0 L 0) (e + 1) c l sd u 0) ∧ (∀ h, h < e → ∀ s u, ¬ Pt V S G U0 0 (iP c0 L 0) (h + 1) c l s u 0) ∧ ∀ s, s < sd → ∀ u, ¬ Pt V S G U0 0 (iP c0 L 0) (e + 1) c l s u 0
def GDS (B : Bk) (d : Nat) (V : Vy) (S G L c0 c l : Nat) : Prop := (B.1 (d + 4) 6 = -1 ∧ ∀ h : Nat, (h : Int) < V.1 4 → ∀ s u, ¬ Pt V S G U0 0 (iP c0 L 0) (h + 1) c l s u 0) ∨ ∃ e sd : Nat, B.1 (d + 4) 6 = (e : Int) ∧ (e : Int) < V.1 4 ∧ snE V S G L c0 c l e sd ∧ ∀ h : Nat, h ≤ e → ∃ c1 l1 s1 u1, Wk V S G e c l sd c0 L h c1 l1 s1 u1 ∧ WR V S G e c l sd h (B.2.2.2.1 (d + 5) (h : Int)) c1 l1 s1 u1
def GDV (B : Bk) (d : Nat) (V : Vy) : Prop := ∃ q c l S G L n c0 : Nat, B.1 (d + 4) 8 = (q : Int) ∧ B.1 (d + 4) 9 = (l : Int) * 64 + (c : Int) ∧ c < 64 ∧ RN V (q : Int) S G L n ∧ scV V (q : Int) = (c0 : Int) ∧ GDS B d V S G L c0 c l
def RMB (B : Bk) (d n : Nat) : Prop := (∀ q, q < 4 → B.2.2.1 (d + 6) q = some (d + 7 + 4 * q)) ∧
  (∀ q, q < 4 → (0 ≤ B.1 (d + 7 + 4 * q) 3 ∧ B.1 (d + 7 + 4 * q) 3 ≤ B.1 co 12) ∧ (0 ≤ B.1 (d + 7 + 4 * q) 4 ∧ B.1 (d + 7 + 4 * q) 4 ≤ B.1 co 12)) ∧
  (∀ q, q < 4 → B.1 (d + 7 + 4 * q) 3 = B.1 co 12 → CLV B (d + 7 + 4 * q) (vyN B n) (q : Int) ∧ brI B (d + 2) ((vyN B n).1 1) ((vyN B n).1 2) 64) ∧
  (∀ q, q < 4 → B.1 (d + 7 + 4 * q) 4 = B.1 co 12 → TUV B (d + 7 + 4 * q) (vyN B n) (q : Int)) ∧
  (0 ≤ B.1 (d + 4) 7 ∧ B.1 (d + 4) 7 ≤ B.1 co 12) ∧ (i32 (B.1 (d + 4) 8) ∧ i32 (B.1 (d + 4) 9) ∧ -1 ≤ B.1 (d + 4) 6 ∧ B.1 (d + 4) 6 < 24) ∧ (B.1 (d + 4) 7 = B.1 co 12 → GDV B d (vyN B n))
/-- all that questions to the Roamer need -/
def RQ (E : Ev) (B : Bk) (n d : Nat) : Prop := RV E B n ∧ (n < 50 ∧ 84 ≤ d) ∧ (1 ≤ B.1 co 12 ∧ B.1 co 12 < 2147483648) ∧ B.2.2.1 co 9 = some d ∧ RKD E d ∧ RMB B d n
/-- what lies ahead of d stays -/
def ltF (d : Nat) (B C : Bk) : Prop := (∀ e, e < d → C.1 e = B.1 e) ∧ (∀ e, e < d → C.2.1 e = B.2.1 e) ∧ (∀ e, e < d → C.2.2.1 e = B.2.2.1 e) ∧ (∀ e, e < d → C.2.2.2.1 e = B.2.2.2.1 e) ∧ ∀ e, e < d → C.2.2.2.2 e = B.2.2.2.2 e
section RMR
variable {E : Ev} {B C : Bk} {n d q : Nat}
theorem ltF_rfl : ltF d B B := ⟨fun _ _ => rfl, fun _ _ => rfl, fun _ _ => rfl, fun _ _ => rfl, fun _ _ => rfl⟩
theorem ltF_tr {A : Bk} (h : ltF d A B) (g : ltF d B C) : ltF d A C := ⟨fun e q => (g.1 e q).trans (h.1 e q), fun e q => (g.2.1 e q).trans (h.2.1 e q), fun e q => (g.2.2.1 e q).trans (h.2.2.1 e q), fun e q => (g.2.2.2.1 e q).trans (h.2.2.2.1 e q), fun e q => (g.2.2.2.2 e q).trans (h.2.2.2.2 e q)⟩
theorem ltF_vy (h : ltF d B C) (hd : n + 6 ≤ d) : vyN C n = vyN B n := vyN_eq (fun j => by rw [h.1 n (by omega)]) (fun k z _ _ => by rw [h.2.2.2.1 k (by omega)])
theorem ltF_RV (h : ltF d B C) (hn : n < 50) (hd : 84 ≤ d) (R : RV E B n) : RV E C n := by
  have hm : mo = 58 := rfl
  have hc : co = 0 := rfl
  have e := h.1 n (by omega)
  have r1 := h.2.2.2.1 (n + 1) (by omega)
  have r2 := h.2.2.2.1 (n + 2) (by omega)
  have r3 := h.2.2.2.1 (n + 3) (by omega)
  have r4 := h.2.2.2.1 (n + 4) (by omega)
  have r5 := h.2.2.2.1 (n + 5) (by omega)
  have m6 := h.2.2.2.1 (mo + 6) (by omega)
  have m7 := h.2.2.2.1 (mo + 7) (by omega)
  have m8 := h.2.2.2.1 (mo + 8) (by omega)
  have m10 := h.2.2.2.1 (mo + 10) (by omega)
  have m11 := h.2.2.2.1 (mo + 11) (by omega)
  have m12 := h.2.2.2.1 (mo + 12) (by omega)
  have m13 := h.2.2.2.1 (mo + 13) (by omega)
  have c0 := h.2.2.1 co (by omega)
  unfold RV VW VR VB at *
  simp only [e, r1, r2, r3, r4, r5, m6, m7, m8, m10, m11, m12, m13, c0]
  exact R
theorem clF_lt {r : Nat} (hr : d ≤ r) (f : clF d r B C) : ltF d B C := ⟨fun e q => by funext j; exact f.1 e j (by omega) (by omega), fun e q => by funext j; exact f.2.1 e j (by omega), fun e q => by funext j; exact f.2.2.1 e j (by omega), fun e q => by rw [f.2.2.2.1], fun e q => f.2.2.2.2 e (by omega) (by omega) (by omega)⟩
theorem toF_lt {r : Nat} (hr : d ≤ r) (f : toF d r B C) : ltF d B C := ⟨fun e q => by funext j; exact f.1 e j (by omega) (by omega), fun e q => by funext j; exact f.2.1 e j (by omega), fun e q => by funext j; exact f.2.2.1 e j (by omega), fun e q => f.2.2.2.1 e (by omega) (by omega), fun e q => f.2.2.2.2 e (by omega) (by omega)⟩
theorem GDV_row {V : Vy} (h1 : C.1 (d + 4) = B.1 (d + 4)) (h2 : C.2.2.2.1 (d + 5) = B.2.2.2.1 (d + 5)) (g : GDV B d V) : GDV C d V := by
  unfold GDV GDS at *
  rw [h1, h2]
  exact g
theorem RQ_cl (Q : RQ E B n d) (hq : q < 4) (f : clF d (d + 7 + 4 * q) B C) (c1 : CLV C (d + 7 + 4 * q) (vyN B n) (q : Int)) (c2 : brI C (d + 2) ((vyN B n).1 1) ((vyN B n).1 2) 64) (c3 : C.1 (d + 7 + 4 * q) 3 = B.1 co 12) : RQ E C n d := by
  obtain ⟨R, ⟨hn, hd⟩, er, q9, K, m1, m2, m3, m4, m5, m6, m7⟩ := Q
  have hc : co = 0 := rfl
  have lt := clF_lt (by omega) f
  have ev := ltF_vy lt (show n + 6 ≤ d by omega)
  have ec : C.1 co 12 = B.1 co 12 := by rw [lt.1 co (by omega)]
  have g4 : C.1 (d + 4) = B.1 (d + 4) := by funext j; exact f.1 (d + 4) j (by omega) (by omega)
  refine ⟨ltF_RV lt hn hd R, ⟨hn, hd⟩, by rw [ec]; exact er, by rw [lt.2.2.1 co (by omega)]; exact q9, K, fun q' hq' => ?_, fun q' hq' => ?_, fun q' hq' w => ?_, fun q' hq' w => ?_, ?_, ?_, fun w => ?_⟩
  · rw [f.2.2.1 (d + 6) q' (by omega)]
    exact m1 q' hq'
  · rw [ec]
    by_cases e : q' = q
    · rw [e, c3, f.1 (d + 7 + 4 * q) 4 (by omega) (by omega)]
      exact ⟨by omega, (m2 q hq).2⟩
    · rw [f.1 (d + 7 + 4 * q') 3 (by omega) (by omega), f.1 (d + 7 + 4 * q') 4 (by omega) (by omega)]
      exact m2 q' hq'
  · rw [ev]
    by_cases e : q' = q
    · rw [e]
      exact ⟨c1, c2⟩
    · rw [ec, f.1 (d + 7 + 4 * q') 3 (by omega) (by omega)] at w
      exact ⟨CLV_row (f.2.2.2.2 _ (by omega) (by omega) (by omega)) (m3 q' hq' w).1, c2⟩
  · rw [ev]
    rw [ec, f.1 (d + 7 + 4 * q') 4 (by omega) (by omega)] at w
    exact TUV_row (by rw [f.2.2.2.1]) (by rw [f.2.2.2.1]) (m4 q' hq' w)
  · rw [ec, g4]
    exact m5
  · rw [g4]
    exact m6
  · rw [ev]
    rw [ec, g4] at w
    exact GDV_row g4 (by rw [f.2.2.2.1]) (m7 w)
theorem RQ_to (Q : RQ E B n d) (hq : q < 4) (f : toF d (d + 7 + 4 * q) B C) (c1 : TUV C (d + 7 + 4 * q) (vyN B n) (q : Int)) (c2 : brI B (d + 2) ((vyN B n).1 1) ((vyN B n).1 2) 64 → brI C (d + 2) ((vyN B n).1 1) ((vyN B n).1 2) 64) (c3 : C.1 (d + 7 + 4 * q) 4 = B.1 co 12) : RQ E C n d := by
  obtain ⟨R, ⟨hn, hd⟩, er, q9, K, m1, m2, m3, m4, m5, m6, m7⟩ := Q
  have hc : co = 0 := rfl
  have lt := toF_lt (by omega) f
  have ev := ltF_vy lt (show n + 6 ≤ d by omega)
  have ec : C.1 co 12 = B.1 co 12 := by rw [lt.1 co (by omega)]
  have g4 : C.1 (d + 4) = B.1 (d + 4) := by funext j; exact f.1 (d + 4) j (by omega) (by omega)
  refine ⟨ltF_RV lt hn hd R, ⟨hn, hd⟩, by rw [ec]; exact er, by rw [lt.2.2.1 co (by omega)]; exact q9, K, fun q' hq' => ?_, fun q' hq' => ?_, fun q' hq' w => ?_, fun q' hq' w => ?_, ?_, ?_, fun w => ?_⟩
  · rw [f.2.2.1 (d + 6) q' (by omega)]
    exact m1 q' hq'
  · rw [ec]
    by_cases e : q' = q
    · rw [e, c3, f.1 (d + 7 + 4 * q) 3 (by omega) (by omega)]
      exact ⟨(m2 q hq).1, by omega⟩
    · rw [f.1 (d + 7 + 4 * q') 3 (by omega) (by omega), f.1 (d + 7 + 4 * q') 4 (by omega) (by omega)]
      exact m2 q' hq'
  · rw [ev]
    rw [ec, f.1 (d + 7 + 4 * q') 3 (by omega) (by omega)] at w
    exact ⟨CLV_row (f.2.2.2.2 _ (by omega) (by omega)) (m3 q' hq' w).1, c2 (m3 q' hq' w).2⟩
  · rw [ev]
    by_cases e : q' = q
    · rw [e]
      exact c1
    · rw [ec, f.1 (d + 7 + 4 * q') 4 (by omega) (by omega)] at w
      exact TUV_row (f.2.2.2.1 _ (by omega) (by omega)) (f.2.2.2.1 _ (by omega) (by omega)) (m4 q' hq' w)
  · rw [ec, g4]
    exact m5
  · rw [g4]
    exact m6
  · rw [ev]
    rw [ec, g4] at w
    exact GDV_row g4 (f.2.2.2.1 _ (by omega) (by omega)) (m7 w)
/-- numbers of a shop that is there -/
theorem rv_RN (R : RV E B n) (hst : 0 < B.1 n 0) (hq : (q : Int) < B.1 n 8) : ∃ S G L k c0 : Nat, RN (vyN B n) (q : Int) S G L k ∧ scV (vyN B n) (q : Int) = (c0 : Int) ∧ q < 4 := by
  have hV := rv_VOK R hst
  have v3 := hV.2.2.1
  have w8 := R.2.1.2.2.2.2.2.2.2.2.1
  have sb := R.2.2.2.2.2.2.2.1 (q : Int) (by omega) hq
  obtain ⟨S, hS⟩ : ∃ S : Nat, B.2.2.2.1 (n + 2) ((q : Int) * 6 + 3) = (S : Int) := ⟨(B.2.2.2.1 (n + 2) ((q : Int) * 6 + 3)).toNat, by omega⟩
  obtain ⟨G, hG⟩ : ∃ G : Nat, B.2.2.2.1 (n + 2) ((q : Int) * 6 + 4) = (G : Int) := ⟨(B.2.2.2.1 (n + 2) ((q : Int) * 6 + 4)).toNat, by omega⟩
  obtain ⟨L, hL⟩ : ∃ L : Nat, B.2.2.2.1 (n + 2) ((q : Int) * 6 + 2) = (L : Int) := ⟨(B.2.2.2.1 (n + 2) ((q : Int) * 6 + 2)).toNat, by omega⟩
  have N : RN (vyN B n) (q : Int) S G L ((vyN B n).1 3).toNat := ⟨hV, ⟨by omega, hq⟩, hS, hG, hL, by omega, by omega, by omega⟩
  obtain ⟨c0, hc0, -⟩ := scV_b N
  exact ⟨S, G, L, _, c0, N, hc0, by omega⟩
theorem s8_roamP (Q : RQ E B n d) : fX8_roaming (E.1 + co) (St E B) = some (E.1 + d, St E B) := by
  obtain ⟨⟨⟨rc, -⟩, -⟩, -, -, q9, -⟩ := Q
  unfold fX8_roaming fX8_roaming_b18
  rw [c8 rc, some_bind, gO_var rc (by decide) (by decide) (by decide), some_bind, q9]
  dsimp only [Option.map]
  rw [g8_9 rc q9, some_bind]
theorem s8_reachOf (Q : RQ E B n d) (hst : 0 < B.1 n 0) (hq : (q : Int) < B.1 n 8) : ∃ C, fX8_reachOf (E.1 + co) (iI (q : Int)) (St E B) = some (E.1 + (d + 7 + 4 * q), St E C) ∧ ltF d B C ∧ RQ E C n d ∧ CLV C (d + 7 + 4 * q) (vyN B n) (q : Int) ∧ (∀ q', q' < 4 → CLV B (d + 7 + 4 * q') (vyN B n) (q' : Int) → q' ≠ q → CLV C (d + 7 + 4 * q') (vyN B n) (q' : Int)) := by
  obtain ⟨S, G, L, k, c0, N, hc0, h4⟩ := rv_RN Q.1 hst hq
  have Q' := Q
  obtain ⟨R, ⟨hn, hd⟩, er, q9, K, m1, m2, m3, m4, m5⟩ := Q'
  obtain ⟨⟨rc, rn, rk, rm⟩, rw1, -⟩ := R
  have b := (m2 q h4).1
  obtain ⟨C, e1, e2, e3, e4, e5⟩ := s4_cellsOf (era := B.1 co 12) K rk (by omega) rw1 rfl N h4 (m1 q h4) ⟨by omega, by omega⟩ ⟨by omega, by omega⟩ (fun w => m3 q h4 w)
  refine ⟨C, ?_, clF_lt (by omega) e2, RQ_cl Q h4 e2 e3 e4 e5, e3, fun q' h' w ne => CLV_row (e2.2.2.2.2 _ (by omega) (by omega) (by omega)) w⟩
  unfold fX8_reachOf
  rw [c8 rc, some_bind, s8_roamP Q, some_bind]
  dsimp only
  rw [g8_7 rc rn, some_bind, g8_12 rc, some_bind, e1, some_bind]
theorem s8_toursOf (Q : RQ E B n d) (hst : 0 < B.1 n 0) (hq : (q : Int) < B.1 n 8) : ∃ C, fX8_toursOf (E.1 + co) (iI (q : Int)) (St E B) = some (E.1 + (d + 7 + 4 * q), St E C) ∧ ltF d B C ∧ RQ E C n d ∧ TUV C (d + 7 + 4 * q) (vyN B n) (q : Int) := by
  obtain ⟨S, G, L, k, c0, N, hc0, h4⟩ := rv_RN Q.1 hst hq
  have Q' := Q
  obtain ⟨R, ⟨hn, hd⟩, er, q9, K, m1, m2, m3, m4, m5⟩ := Q'
  obtain ⟨⟨rc, rn, rk, rm⟩, rw1, -⟩ := R
  have b := (m2 q h4).2
  obtain ⟨C, e1, e2, e3, e4, e5⟩ := s4_toursOf (era := B.1 co 12) K rk (by omega) rw1 rfl N h4 (m1 q h4) ⟨by omega, by omega⟩ ⟨by omega, by omega⟩ (fun w => m4 q h4 w) (Or.inr trivial)
  refine ⟨C, ?_, toF_lt (by omega) e2, RQ_to Q h4 e2 e3 e4 e5, e3⟩
  unfold fX8_toursOf
  rw [c8 rc, some_bind, s8_roamP Q, some_bind]
  dsimp only
  rw [g8_7 rc rn, some_bind, g8_12 rc, some_bind, e1, some_bind]
end RMR
