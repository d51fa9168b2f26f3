/-! the class's Guide: find, told whole -/
section GDG
variable {E : Ev} {B C : Bk} {V : Vy} {S d p sd G n h s u l c e L c0 r q : Nat}
theorem fn_mk {B2 B3 : Bk} (f1 : ∀ e j, ¬ (e = d + 4 ∧ 4 ≤ j ∧ j ≤ 6) → B2.1 e j = B.1 e j) (f2 : B2.2.1 = B.2.1) (f3 : ∀ e j, ¬ (e = d + 4 ∧ j = 3) → B2.2.2.1 e j = B.2.2.1 e j) (f4 : B2.2.2.2 = B.2.2.2) (g : mgF d B2 B3) (w : wkF d B3 C) : fnF d B C := by
  refine ⟨fun e j q => ?_, ?_, fun e j q => ?_, fun e q => ?_, fun e q => ?_⟩
  · rw [w.1, g.1]
    exact f1 e j q
  · rw [w.2.1, g.2.1, f2]
  · rw [w.2.2.1, g.2.2.1]
    exact f3 e j q
  · rw [w.2.2.2.1 e q, g.2.2.2.1, f4]
  · rw [w.2.2.2.2, g.2.2.2.2 e q, f4]
theorem Pt_s9 (N : RN V (q : Int) S G L n) (hc0 : scV V (q : Int) = (c0 : Int)) {j c l s u m : Nat} (hj : (j : Int) ≤ V.1 4) (w : Pt V S G U0 0 (iP c0 L 0) j c l s u m) : s < 10 ∧ s ≤ S := by
  obtain ⟨c0', hc0', c64, cok, hL⟩ := scV_b N
  have ec : c0' = c0 := by omega
  subst ec
  obtain ⟨hV, i0, eS, eG, eL, hn, hS, hG⟩ := N
  have := (Pt_PB (U := U0) (T := 1) hV hn (fun l c m _ _ h => h) (iP_PB (S := S) (G := G) cok hL (by omega)) hj _ _ _ _ _ w).2.2.1
  omega
theorem s1_find (K : RKD E d) (kp : VK E p) (hp : p + 6 ≤ d) (hw : VW B p) (eV : vyN B p = V) (N : RN V (q : Int) S G L n) (hc0 : scV V (q : Int) = (c0 : Int)) (hq : q < 4) (cl : CLI B (d + 7 + 4 * q) V S G L c0 (V.1 4).toNat) (br : brI B (d + 2) (V.1 1) (V.1 2) 64) (hm : B.2.2.1 (d + 4) 1 = some (d + 1)) (hb : B.2.2.1 (d + 4) 2 = some (d + 2)) (cok : cOK (V.1 1) (V.1 2) (c : Int)) (hl : l < n) : ∃ C, fX1_find (E.1 + (d + 4)) (E.1 + p) (iI (q : Int)) (E.1 + (d + 7 + 4 * q)) (iI (c : Int)) (iI (l : Int)) (St E B) = some (St E C) ∧ fnF d B C ∧ GDS C d V S G L c0 c l := by
  have N' := N
  obtain ⟨hV, i0, eS, eG, eL, hn, hS, hG⟩ := N'
  have k1 := K.2.1.1
  have kr := K.2.2 q hq
  have v1 := hV.1
  have v2 := hV.2.1
  have v3 := hV.2.2.1
  have v4 := hV.2.2.2.1
  have c64 := cOK_64 cok v1.2 v2.2
  have e4 : B.1 p 4 = V.1 4 := by rw [← eV]; rfl
  have e3 : B.1 p 3 = V.1 3 := by rw [← eV]; rfl
  have eg4 : B.2.2.2.1 (p + 2) ((q : Int) * 6 + 4) = (G : Int) := by rw [← eG, ← eV]; rfl
  obtain ⟨B1, hB1⟩ : ∃ B1, B1 = wR B (d + 4) 3 (some p) := ⟨_, rfl⟩
  have hi1 : ∀ (h l s : Int) (c : Nat), hiR B1 (d + 7 + 4 * q) h l c s = hiR B (d + 7 + 4 * q) h l c s := fun h l s c => by rw [hB1]; rfl
  obtain ⟨x, x1, x2⟩ := s2_soonestOf (B := B1) (c := c) (n := (V.1 4).toNat) (l := (l : Int)) kr.1 kr.2.1 (by omega) (by omega) (by omega)
  rw [show (((V.1 4).toNat : Nat) : Int) = V.1 4 by omega] at x1
  have hd : fX1_find (E.1 + (d + 4)) (E.1 + p) (iI (q : Int)) (E.1 + (d + 7 + 4 * q)) (iI (c : Int)) (iI (l : Int)) (St E B) = if iI x = iI (-1) then some (St E (wI B1 (d + 4) 6 x)) else ((fX2_leastAt (E.1 + (d + 7 + 4 * q)) (iI x) (iI (l : Int)) (lsh 1 (iI (c : Int))) (St E (wI B1 (d + 4) 6 x))).bind fun r10 => (pI r10.2 (E.1 + (d + 4)) 1 4 r10.1).bind fun s11 => (fX6_shopFact (E.1 + p) (iI (q : Int)) (iI 4) s11).bind fun r12 => (pI r12.2 (E.1 + (d + 4)) 1 5 r12.1).bind fun s13 => (gI s13 (E.1 + (d + 4)) 1 6).bind fun v14 => (gI s13 (E.1 + (d + 4)) 1 4).bind fun v15 => (gI s13 (E.1 + (d + 4)) 1 5).bind fun v16 => (gI s13 (E.1 + p) 6 3).bind fun v17 => lt_ ((((v14 + (iI 2)) * (v15 + (iI 1))) * (v16 + (iI 1))) * v17) fun z18 => (iter (fX1_find_l92 (E.1 + (d + 4)) (iI (q : Int)) (iI (c : Int)) (iI (l : Int)) z18) FU ((iI 0), s13)).bind fun r22 => (iter (fX1_find_l116 (E.1 + (d + 4)) (iI (q : Int)) (iI (c : Int)) (iI (l : Int))) FU ((iI 0), r22)).bind fun r31 => (gI r31 (E.1 + (d + 4)) 1 6).bind fun v32 => (iter (fX1_find_l165 (E.1 + (d + 4)) (iI (q : Int))) FU (v32, r31)).bind fun r35 => (fX1_walk (E.1 + (d + 4)) (iI (q : Int)) r35).bind fun s36 => some s36) := by
    unfold fX1_find
    rw [c1 k1, some_bind, p1_3 k1, some_bind, ← hB1, g6_4 kp.1, some_bind, s8_bitO, some_bind, show B1.1 p 4 = V.1 4 by rw [hB1]; exact e4]
    dsimp only
    rw [x1, some_bind]
    dsimp only
    rw [p1_6 k1, some_bind, g1_6 k1, some_bind, show (wI B1 (d + 4) 6 x).1 (d + 4) 6 = x by rw [wI_1, if_pos ⟨rfl, rfl⟩], s8_bitO, some_bind, some_bind]
  rcases x2 with ⟨rfl, no⟩ | ⟨e, rfl, he, ⟨f0, f0a, f0b⟩, no⟩
  · refine ⟨wI B1 (d + 4) 6 (-1), by rw [hd, if_pos rfl], ⟨fun e' j q1 => ?_, by rw [hB1]; rfl, fun e' j q1 => ?_, fun e' q1 => by rw [hB1]; rfl, fun e' q1 => by rw [hB1]; rfl⟩, Or.inl ⟨by rw [wI_1, if_pos ⟨rfl, rfl⟩], fun h hh s u w => ?_⟩⟩
    · rw [wI_1, if_neg (by omega), hB1]
      rfl
    · rw [wI_2, hB1, wR_3, if_neg q1]
    · have sb := Pt_s9 N hc0 (by omega) w
      have := (cl h l s c (by omega) (by omega) sb.1 (by omega)).mpr ⟨by omega, u, w⟩
      have n2 := no h (by omega) s sb.1
      rw [hi1, this] at n2
      cases n2
  · obtain ⟨B2, hB2⟩ : ∃ B2, B2 = wI B1 (d + 4) 6 (e : Int) := ⟨_, rfl⟩
    have hi2 : ∀ (h l s : Int) (c : Nat), hiR B2 (d + 7 + 4 * q) h l c s = hiR B (d + 7 + 4 * q) h l c s := fun h l s c => by rw [hB2, hB1]; rfl
    obtain ⟨y, y1, y2⟩ := s2_leastAt (B := B2) (c := c) (h := (e : Int)) (l := (l : Int)) kr.1 kr.2.1 (by omega) (by omega) (by omega)
    rcases y2 with ⟨-, y2⟩ | ⟨sd, rfl, sd9, y2, y3⟩
    · exfalso
      have := y2 f0 f0a
      rw [hi2] at this
      rw [hi1, this] at f0b
      cases f0b
    rw [hi2] at y2
    obtain ⟨-, u0, w0⟩ := (cl e l sd c (by omega) (by omega) sd9 (by omega)).mp y2
    have sS := (Pt_s9 N hc0 (by omega) w0).2
    obtain ⟨B3, hB3⟩ : ∃ B3, B3 = wI (wI B2 (d + 4) 4 (sd : Int)) (d + 4) 5 (G : Int) := ⟨_, rfl⟩
    have b31 : ∀ e' j, ¬ (e' = d + 4 ∧ 4 ≤ j ∧ j ≤ 6) → B3.1 e' j = B.1 e' j := fun e' j q1 => by
      rw [hB3, wI_1, if_neg (by omega), wI_1, if_neg (by omega), hB2, wI_1, if_neg (by omega), hB1]
      rfl
    have b33 : ∀ e' j, ¬ (e' = d + 4 ∧ j = 3) → B3.2.2.1 e' j = B.2.2.1 e' j := fun e' j q1 => by
      rw [hB3, wI_2, wI_2, hB2, wI_2, hB1, wR_3, if_neg q1]
    have b3p : B3.2.2.1 (d + 4) 3 = some p := by
      rw [hB3, wI_2, wI_2, hB2, wI_2, hB1, wR_3, if_pos ⟨rfl, rfl⟩]
    have b32 : B3.2.1 = B.2.1 := by rw [hB3, hB2, hB1]; rfl
    have b34 : B3.2.2.2 = B.2.2.2 := by rw [hB3, hB2, hB1]; rfl
    have h5 : B3.1 (d + 4) 5 = (G : Int) := by rw [hB3, wI_1, if_pos ⟨rfl, rfl⟩]
    have h4 : B3.1 (d + 4) 4 = (sd : Int) := by rw [hB3, wI_1, if_neg (by omega), wI_1, if_pos ⟨rfl, rfl⟩]
    have h6 : B3.1 (d + 4) 6 = (e : Int) := by rw [hB3, wI_1, if_neg (by omega), wI_1, if_neg (by omega), hB2, wI_1, if_pos ⟨rfl, rfl⟩]
    have ev3 : vyN B3 p = V := by
      rw [← eV]
      exact vyN_eq (fun j => b31 p j (by omega)) (fun k z _ _ => by rw [b34])
    have vw3 : VW B3 p := by
      unfold VW at *
      rw [b31 p 0 (by omega), b31 p 1 (by omega), b31 p 2 (by omega), b31 p 3 (by omega), b31 p 4 (by omega), b31 p 5 (by omega), b31 p 6 (by omega), b31 p 7 (by omega), b31 p 8 (by omega), b31 p 9 (by omega)]
      exact hw
    have br3 : brI B3 (d + 2) (V.1 1) (V.1 2) 64 := by
      unfold brI at *
      rw [b32, b34]
      exact br
    have g3 : GC B3 d p V sd G := ⟨⟨by rw [b33 _ _ (by omega)]; exact hm, by rw [b33 _ _ (by omega)]; exact hb, b3p⟩, ⟨h4, h5⟩, vw3, ev3, br3⟩
    have x1' : (e + 2) * (sd + 1) ≤ 25 * 10 := Nat.mul_le_mul (by omega) (by omega)
    have x2' : (e + 2) * (sd + 1) * (G + 1) ≤ 250 * 10 := Nat.mul_le_mul x1' (by omega)
    have x3' : (e + 2) * (sd + 1) * (G + 1) * n ≤ 2500 * 5 := Nat.mul_le_mul x2' (by omega)
    obtain ⟨P, hP⟩ : ∃ P, P = (e + 2) * (sd + 1) * (G + 1) * n := ⟨_, rfl⟩
    have hPi : ((e : Int) + 2) * ((sd : Int) + 1) * ((G : Int) + 1) * (n : Int) = (P : Int) := by rw [hP]; push_cast; rfl
    obtain ⟨B4, r1, r2, r3⟩ := s1_clear (x2 := iI (q : Int)) (x4 := iI (c : Int)) (x5 := iI (l : Int)) (P := P) K g3.1.1 (by omega)
    have g4 := GC_mgF r2 g3
    obtain ⟨B5, t1, t2, t3⟩ := s1_goal (S := S) (x2 := iI (q : Int)) K kp g4 (by rw [r2.1]; exact h6) hV hn (by omega) (by omega) hG cok hl (fun z z0 z1 => r3 z z0 (by rw [hP]; exact z1))
    have g5 := GC_mgF t2 g4
    have h65 : B5.1 (d + 4) 6 = (e : Int) := by rw [t2.1, r2.1]; exact h6
    obtain ⟨B6, o1, o2, o3⟩ := s1_marks (x2 := iI (q : Int)) K kp g5 hV hn (by omega) sS (by omega) hG t3
    have g6 := GC_mgF o2 g5
    obtain ⟨C, q1, q2, q3⟩ := s1_walk K kp hp g6 (by rw [o2.1]; exact h65) N hc0 (by omega) sS o3 ⟨u0, w0⟩
    have f6 := fn_mk b31 b32 b33 b34 (mgF_tr r2 (mgF_tr t2 o2)) q2
    refine ⟨C, ?_, f6, Or.inr ⟨e, sd, ?_, by omega, ⟨⟨u0, w0⟩, fun h hh s u w => ?_, fun s hs u w => ?_⟩, q3⟩⟩
    · rw [hd, if_neg (fun z => by have := (iI_eq (by omega) (by omega) (by omega) (by omega)).mp z; omega), ← hB2, y1, some_bind]
      dsimp only
      rw [p1_4 k1, some_bind, s_shopFact kp i0.1 (by omega) (by omega) (by omega), some_bind]
      dsimp only
      rw [show (wI B2 (d + 4) 4 (sd : Int)).2.2.2.1 (p + 2) ((q : Int) * 6 + 4) = (G : Int) by rw [wI_2, hB2, wI_2, hB1]; exact eg4, p1_5 k1, some_bind, ← hB3, g1_6 k1, some_bind, g1_4 k1, some_bind, g1_5 k1, some_bind, g6_3 kp.1, some_bind, h6, h4, h5, b31 p 3 (by omega), e3, hn]
      unfold lt_
      dsimp only
      rw [iI_add, iI_add, iI_add, iI_mul, iI_mul, iI_mul, hPi, r1, some_bind, t1, some_bind, g1_6 k1, some_bind, h65, o1, some_bind, q1, some_bind]
    · rw [q2.1, o2.1]
      exact h65
    · have sb := Pt_s9 N hc0 (by omega) w
      have := (cl h l s c (by omega) (by omega) sb.1 (by omega)).mpr ⟨by omega, u, w⟩
      have n2 := no h hh s sb.1
      rw [hi1, this] at n2
      cases n2
    · have sb := Pt_s9 N hc0 (by omega) w
      have := (cl e l s c (by omega) (by omega) sb.1 (by omega)).mpr ⟨by omega, u, w⟩
      have n2 := y3 s hs
      rw [hi2, this] at n2
      cases n2
end GDG
