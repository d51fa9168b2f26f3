/-! kites: both answer alike -/
section OK2
variable {E : Ev} {B : Bk} {n : Nat}
def two_ (N : Int → Int) (B : Bk) (z : Int) (g : Nat) : Prop := ∀ k : Int, 0 ≤ k → k ≤ 1 → B.2.2.2.2 (mo + 3) (60 * z + 2 * (g : Int) + k) = jI (N (2 * (g : Int) + k))
def okK (B : Bk) (n : Nat) (N : Int → Int) (g l : Nat) : Bool := decide (B.2.2.2.1 (n + 1) ((l : Int) * 24 + N (2 * (g : Int))) = N (2 * (g : Int) + 1))
theorem m_so2 {z p q : Int} {g l : Nat} {N : Int → Int} (R : RV E B n) (hn : n < 50) (z0 : 0 ≤ z ∧ z ≤ 3) (hg : 2 * (g : Int) + 2 ≤ 60) (hl : (l : Int) < B.1 n 3) (F5 : two_ N B z g) (a0 : 0 ≤ N (2 * (g : Int)) ∧ N (2 * (g : Int)) < B.1 n 4) (a1 : 0 ≤ N (2 * (g : Int) + 1) ∧ N (2 * (g : Int) + 1) ≤ 4) : ∃ p' q', fX9_isSo (E.1 + mo) (iI (60 * z + 2 * (g : Int))) (iI 2) (iI l) (St E (tB B p q)) = some (iI (if okK B n N g l then 1 else 0), St E (tB B p' q')) := by
  have hmo : mo = 58 := rfl
  have R1 := R
  obtain ⟨⟨rc, rn, rk, rm⟩, rw1, -, rb⟩ := R
  have w3 := rw1.2.2.2.1
  have w4 := rw1.2.2.2.2.1
  have jv : ∀ (k : Int), 0 ≤ k → k ≤ 1 → aL (St E (tB B p q)) (E.1 + (mo + 3)) (iI (60 * z + 2 * (g : Int) + k)) = some (jI (N (2 * (g : Int) + k))) := fun k k0 k1 => by
    rw [aL_ok (mk3 rm) (by omega) (by omega) (by omega), tB_2, F5 k k0 k1]
  have j0' : aL (St E (tB B p q)) (E.1 + (mo + 3)) (iI (60 * z + 2 * (g : Int))) = some (jI (N (2 * (g : Int)))) := by
    have := jv 0 (by omega) (by omega)
    rw [Int.add_zero, Int.add_zero] at this
    exact this
  have wo : fX9_windOf (E.1 + mo) (iI l) (iI (N (2 * (g : Int)))) (St E (tB B p q)) = some (iI (B.2.2.2.1 (n + 1) ((l : Int) * 24 + N (2 * (g : Int)))), St E (tB B p q)) := by
    rw [m_windOf rm (by omega) (by omega) a0.1 (by omega), tB_2, vr_w R1 (by omega) hl a0.1 a0.2]
  have wj := rb.2.2.2.1 l (N (2 * (g : Int))) (by omega) hl a0.1 a0.2
  refine ⟨p, q, ?_⟩
  simp (disch := omega) only [fX9_isSo, c9 rm.1, some_bind, g9_3 rm.1, j0', toI32_j, lt_, iI_add, jv, wo, jI_i, lg_0, iI_0, jI_eq]
  rw [if_pos trivial]
  by_cases oq : okK B n N g l = true
  · have : B.2.2.2.1 (n + 1) ((l : Int) * 24 + N (2 * (g : Int))) = N (2 * (g : Int) + 1) := of_decide_eq_true oq
    rw [if_pos oq, if_pos this]
  · have : ¬ B.2.2.2.1 (n + 1) ((l : Int) * 24 + N (2 * (g : Int))) = N (2 * (g : Int) + 1) := fun y => oq (decide_eq_true y)
    rw [if_neg oq, if_neg this]
theorem s_sm2i {d : Nat} {N : Int → Int} {g : Nat} (R : RV E B n) (a0 : 0 ≤ N (2 * (g : Int)) ∧ N (2 * (g : Int)) < B.1 n 4) (a1 : 0 ≤ N (2 * (g : Int) + 1) ∧ N (2 * (g : Int) + 1) ≤ 4) (at0 : fX5_at (E.1 + d) (iI (2 * (g : Int))) (St E B) = some (iI (N (2 * (g : Int))), St E B)) (at1 : fX5_at (E.1 + d) (iI (2 * (g : Int) + 1)) (St E B) = some (iI (N (2 * (g : Int) + 1)), St E B)) (j : Nat) (x : Int32) (hj : (j : Int) < B.1 n 3) : fX8_kites_l70 (E.1 + co) (E.1 + d) (iI (2 * (g : Int))) (x, iI j, St E B) = some (.inl (if okK B n N g j then x else x &&& (ish (iI 1) (iI j) ^^^ iI (-1)), iI ((j : Int) + 1), St E B)) := by
  obtain ⟨⟨rc, rn, rk, rm⟩, rw1, -, rb⟩ := R
  have hw := rw1
  obtain ⟨w0, w1, w2, w3, w4, w5, w6, w7, w8, w9⟩ := hw
  have wj := rb.2.2.2.1 j (N (2 * (g : Int))) (by omega) hj a0.1 a0.2
  simp (disch := omega) only [fX8_kites_l70, fX8_kites_b121, g8_7 rc rn, some_bind, g6_3 rk.1, iI_le, iI_add, at0, at1, s_windAt rk, iI_eq, lt_]
  rw [if_neg (by omega)]
  by_cases q : B.2.2.2.1 (n + 1) ((j : Int) * 24 + N (2 * (g : Int))) = N (2 * (g : Int) + 1)
  · have : okK B n N g j = true := decide_eq_true q
    rw [if_pos q, if_pos this]
  · have : ¬ okK B n N g j = true := fun y => q (of_decide_eq_true y)
    rw [if_neg q, if_neg this]
theorem s_sm2o {d : Nat} {N : Int → Int} {g : Nat} {b' : Nat → Bool} (R : RV E B n) (b : 0 ≤ B.1 d 1 ∧ B.1 d 1 ≤ 60) (hg : 2 * (g : Int) + 2 ≤ B.1 d 1) (at' : ∀ i : Int, 0 ≤ i → i < B.1 d 1 → fX5_at (E.1 + d) (iI i) (St E B) = some (iI (N i), St E B)) (a0 : 0 ≤ N (2 * (g : Int)) ∧ N (2 * (g : Int)) < B.1 n 4) (a1 : 0 ≤ N (2 * (g : Int) + 1) ∧ N (2 * (g : Int) + 1) ≤ 4) : iter (fX8_kites_l70 (E.1 + co) (E.1 + d) (iI (2 * (g : Int)))) FU (mkL b' (B.1 n 3).toNat, iI 0, St E B) = some (mkL (fun l => b' l && okK B n N g l) (B.1 n 3).toNat, St E B) := by
  have R1 := R
  obtain ⟨⟨rc, rn, rk, rm⟩, rw1, -, rb⟩ := R
  have w3 := rw1.2.2.2.1
  refine off_lp (by omega) (okK B n N g) (fun j x hj => s_sm2i R1 a0 a1 (at' _ (by omega) (by omega)) (at' _ (by omega) (by omega)) j x (by omega)) (fun x => ?_) b'
  simp (disch := omega) only [fX8_kites_l70, g8_7 rc rn, some_bind, g6_3 rk.1, iI_le]
  rw [if_pos (by omega)]
theorem s_sm2s {d : Nat} {N : Int → Int} {g : Nat} {b' : Nat → Bool} (R : RV E B n) (k1' : KD E d 5 3) (b : 0 ≤ B.1 d 1 ∧ B.1 d 1 ≤ 60) (hg : 2 * (g : Int) + 2 ≤ B.1 d 1) (at' : ∀ i : Int, 0 ≤ i → i < B.1 d 1 → fX5_at (E.1 + d) (iI i) (St E B) = some (iI (N i), St E B)) (a0 : 0 ≤ N (2 * (g : Int)) ∧ N (2 * (g : Int)) < B.1 n 4) (a1 : 0 ≤ N (2 * (g : Int) + 1) ∧ N (2 * (g : Int) + 1) ≤ 4) : fX8_kites_l55 (E.1 + co) (E.1 + d) (mkL b' (B.1 n 3).toNat, iI (2 * (g : Int)), St E B) = some (.inl (mkL (fun l => b' l && okK B n N g l) (B.1 n 3).toNat, iI (2 * ((g : Int) + 1)), St E B)) := by
  have inr := s_sm2o (b' := b') R b hg at' a0 a1
  unfold fX8_kites_l55
  rw [g5_1 k1', some_bind, if_neg (by rw [iI_add, iI_lt (by omega) (by omega) (by omega) (by omega)]; omega), inr, some_bind, iI_add, show 2 * (g : Int) + 2 = 2 * ((g : Int) + 1) by omega]
theorem s_sm2 {d : Nat} {N : Int → Int} (R : RV E B n) (k1' : KD E d 5 3) (b : 0 ≤ B.1 d 1 ∧ B.1 d 1 ≤ 60) (m5 : B.1 d 1 % 2 = 0) (at' : ∀ i : Int, 0 ≤ i → i < B.1 d 1 → fX5_at (E.1 + d) (iI i) (St E B) = some (iI (N i), St E B)) (gg : ∀ g : Int, 0 ≤ g → g < B.1 d 1 / 2 → (0 ≤ N (2 * g) ∧ N (2 * g) < B.1 n 4) ∧ (0 ≤ N (2 * g + 1) ∧ N (2 * g + 1) ≤ 4)) : iter (fX8_kites_l55 (E.1 + co) (E.1 + d)) FU (mkL (fun _ => true) (B.1 n 3).toNat, iI 0, St E B) = some (mkL (fun l => al_ (okK B n N) l (B.1 d 1 / 2).toNat) (B.1 n 3).toNat, St E B) := by
  refine grp_lp (k := 2) (by omega) (okK B n N) (fun g b' hg => ?_) (fun x => ?_)
  · obtain ⟨a0, a1⟩ := gg g (by omega) (by omega)
    exact s_sm2s R k1' b (by omega) at' a0 a1
  · unfold fX8_kites_l55
    rw [g5_1 k1', some_bind, if_pos (by rw [iI_add, iI_lt (by omega) (by omega) (by omega) (by omega)]; omega)]
theorem o_kites {z : Int} (R : RV E B n) (h20 : 20 ≤ n) (hn : n < 50) (K : RK E B) (S : RS B) (hc : 84 ≤ E.2.2.2.1) (hz : i32 z) : QG E B 1 5 (fX8_kites (E.1 + co) (iI z)) (fX9_kites (E.1 + mo) (iI z)) := by
  have hmo : mo = 58 := rfl
  have hco : co = 0 := rfl
  obtain ⟨c, hcc⟩ : ∃ c, c = E.2.2.2.1 := ⟨_, rfl⟩
  obtain ⟨E', hE⟩ : ∃ E', E' = Eg E (20, 2) := ⟨_, rfl⟩
  obtain ⟨B0, hB⟩ : ∃ B0, B0 = wA (wA (zA B c) c 0 (B.1 n 4)) c 1 5 := ⟨_, rfl⟩
  have f4 : ∀ d, d ≠ E.2.2.2.1 → B0.2.2.2.1 d = B.2.2.2.1 d := fun d hd => by
    rw [hB, wA_r (by omega), wA_r (by omega), zA_4 (by omega)]
  obtain ⟨R', K', S', G'⟩ := gr_all (B0 := B0) (t := (20, 2)) R h20 hn K S hc (by rw [hB]; rfl) (by rw [hB]; rfl) (by rw [hB]; rfl) f4 (by rw [hB]; rfl)
  rw [← hE] at R' K'
  have b1 : B0.1 = B.1 := by rw [hB]; rfl
  have r0 : B0.2.2.2.1 c 0 = B.1 n 4 := by rw [hB]; simp [wA_4]
  have r1 : B0.2.2.2.1 c 1 = 5 := by rw [hB]; simp [wA_4]
  have kc : KD E' c 20 2 := by rw [hE, hcc]; exact KD_n
  have ex : Ex E E' := by rw [hE]; exact Ex_g
  have e1 : E'.1 = E.1 := ex.1
  have mkE : mkA (St E B) 20 (iI 2) (.int 0) = some (St E' (zA B c)) := by rw [hE, hcc]; exact mkA_i (k := 2) (by omega)
  have hs : (St E B).1 = E'.1 + c := by rw [hcc, e1]; rfl
  have R1 := R'
  obtain ⟨⟨rc, rn, rk, rm⟩, rw1, -, rb⟩ := R'
  have hw := rw1
  obtain ⟨w0, w1, w2, w3, w4, w5, w6, w7, w8, w9⟩ := hw
  have rnz : (B.2.2.1 co 7) = some n := R.1.2.1
  have head : fX8_kites (E.1 + co) (iI z) (St E B) = (fX8_rowRefusal (E'.1 + co) (iI z) (E'.1 + c) (St E' B0)).bind fun r6 => if r6.1 = 0 then ((gR r6.2 (E'.1 + co) 8 6).bind fun v8 => (aR r6.2 25 v8 (iI z)).bind fun v9 => (gR r6.2 (E'.1 + co) 8 7).bind fun v10 => (gI r6.2 v10 6 3).bind fun v11 => lt_ ((ish (iI 1) v11) - (iI 1)) fun z12 => (iter (fX8_kites_l55 (E'.1 + co) v9) FU (z12, (iI 0), r6.2)).bind fun r25 => some (r25.1, r25.2)) else (some (r6.1, r6.2)) := by
    have g7 : gR (St E' (zA B c)) (E'.1 + co) 8 7 = some (E'.1 + n) := g8_7 rc rnz
    have cE : ck (St E B) (E.1 + co) 8 = some () := c8 R.1.1
    unfold fX8_kites
    rw [cE, some_bind, mkE, some_bind, hs, ← e1]
    simp (disch := omega) only [g7, some_bind, g6_4 rk.1, show (zA B c).1 = B.1 from rfl, sI_ok kc]
    rw [← hB]
  obtain ⟨y1, y2, y3⟩ := s8_refusal (z := z) (c := c) (k := 2) R1 (by omega) K' S' hz kc (by omega) (by omega) (fun j j0 j1 => by
    rcases (show j = 0 ∨ j = 1 by omega) with rfl | rfl
    · rw [r0]; rw [b1] at w4; omega
    · rw [r1]; omega)
  have R0 := rv_0 R1 (by omega)
  have m9 := fun v X => m_sm2 (E := E') (B := B0) (z := z) (v := v) (X := X) rm
  obtain ⟨u1, u2⟩ := m_why0 (z := z) (k := 2) R0 hz (Or.inl rfl)
  have en : ∀ j, (wI B0 mo 0 0).1 n j = B0.1 n j := fun j => by rw [wI_1, if_neg (by omega)]
  rw [en] at u1 u2
  have scw : scG E.2.2.2.1 B (wI B0 mo 0 0) := scG_tr G' (scG_sc (sc_I (by unfold msv; omega)))
  have n2 : ¬ iI (-2) = 0 := by decide
  have n6 : ¬ iI (-6) = 0 := by decide
  have sz1 : E'.2.2.2.1 ≤ E.2.2.2.1 + 1 := by rw [hE]; exact Nat.le_refl _
  have sz2 : E'.2.2.2.2 ≤ E.2.2.2.2 + 5 := by rw [hE]; show E.2.2.2.2 + 2 ≤ _; omega
  by_cases c1 : (0 ≤ z ∧ z ≤ 3) ∧ 0 < B0.1 n 0
  · obtain ⟨c1, c2⟩ := c1
    have Sz := S' z.toNat (by omega)
    have zz : ((z.toNat : Nat) : Int) = z := by omega
    rcases Sz with ⟨s1, s2⟩ | ⟨s1, s2, s3, s4, s5⟩
    · rw [zz] at s2
      refine ⟨iI (-6), E', B0, wI B0 mo 0 0, ?_, ?_, ex, sz1, sz2, scw⟩
      · rw [head, y2 c1 c2 s1, some_bind, if_neg n6]
      · rw [← e1, m9 _ _ (u2 c1 c2 s2), if_neg n6]
    · rw [zz] at s3 s4 s5
      obtain ⟨y4, y5⟩ := y3 c1 c2 s1.1
      have MRz : MR (wI B0 mo 0 0) z (B0.1 (50 + 2 * z.toNat) 1) := ⟨c1, by rw [wI_2, s3]; exact s2, by rw [wI_2, s4], s1⟩
      have Ne : ∀ i, 0 ≤ i → i < B0.1 (50 + 2 * z.toNat) 1 → nvJ (wI B0 mo 0 0) (mo + 3) (60 * z + i) = nvJ B0 (50 + 2 * z.toNat + 1) i := fun i i0 i1 => by
        unfold nvJ
        rw [wI_2, s5 i i0 i1]
      obtain ⟨v1, v2⟩ := m_why2 R0 MRz (by rw [en]; exact c2)
      rw [en] at v1 v2
      have kwe : KW B0 (50 + 2 * z.toNat) c ((2 : Nat) : Int) ↔ G2 (nvJ B0 (50 + 2 * z.toNat + 1)) (B0.1 (50 + 2 * z.toNat) 1) (B0.1 n 4) := kw2 (by rw [b1]; exact r0) r1
      have ge := G2_c (h := B0.1 n 4) Ne
      by_cases gd : G2 (nvJ B0 (50 + 2 * z.toNat + 1)) (B0.1 (50 + 2 * z.toNat) 1) (B0.1 n 4)
      · have gd' := gd
        obtain ⟨g5, gg⟩ := gd'
        obtain ⟨k1', k2', k3'⟩ := K'.2.2.2 z.toNat (by omega)
        obtain ⟨N, hN⟩ : ∃ N, N = nvJ B0 (50 + 2 * z.toNat + 1) := ⟨_, rfl⟩
        rw [← hN] at gg
        have at' : ∀ i : Int, 0 ≤ i → i < B0.1 (50 + 2 * z.toNat) 1 → fX5_at (E'.1 + (50 + 2 * z.toNat)) (iI i) (St E' B0) = some (iI (N i), St E' B0) := fun i i0 i1 => by
          rw [s5_at k1' k2' i0 (by omega), hN]
        have cl := s_sm2 (N := N) R1 k1' s1 g5 at' gg
        have oke : okK (wI B0 mo 0 0) n N = okK B0 n N := rfl
        have W := m_layers (z := z) (m := B0.1 (50 + 2 * z.toNat) 1) (k := 2) (G := (B0.1 (50 + 2 * z.toNat) 1 / 2).toNat) (p0 := (wI B0 mo 0 0).1 mo 26) (q0 := (wI B0 mo 0 0).1 mo 27) R0 hn MRz (by omega) (by omega) (okK B0 n N) (fun g l p q hg hl => by
          obtain ⟨a0, a1⟩ := gg g (by omega) (by omega)
          rw [← oke]
          refine m_so2 R0 hn c1 (by omega) hl (fun k k0 k1 => ?_) (by rw [en]; exact a0) a1
          rw [wI_2, show 60 * z + 2 * (g : Int) + k = 60 * z + (2 * (g : Int) + k) by omega, ← s5 (2 * (g : Int) + k) (by omega) (by omega), hN]
          exact nvJ_j.1)
        rw [tB_sf] at W
        obtain ⟨p, q, W⟩ := W
        rw [en] at W
        refine ⟨mkL (fun l => al_ (okK B0 n N) l (B0.1 (50 + 2 * z.toNat) 1 / 2).toNat) (B0.1 n 3).toNat, E', B0, tB (wI B0 mo 0 0) p q, ?_, ?_, ex, sz1, sz2, scG_tr scw (scG_sc sc_tB)⟩
        · have e6 : gR (St E' B0) (E'.1 + co) 8 6 = some (E'.1 + (co + 19)) := g8_6 rc
          have mt := mkL_t (B0.1 n 3).toNat (by omega)
          rw [show (((B0.1 n 3).toNat : Nat) : Int) = B0.1 n 3 by omega] at mt
          rw [head, y4 (kwe.mpr gd), some_bind, if_pos (show iI 0 = 0 by decide)]
          simp only [e6, some_bind, r_slot K' (C := B0) rfl c1.1 c1.2, g8_7 rc rn, g6_3 rk.1, lt_, mt, cl]
        · rw [← e1, m9 _ _ (v1 (ge.mpr gd)), if_pos (show iI 0 = 0 by decide), W]
          rfl
      · refine ⟨iI (-2), E', B0, wI B0 mo 0 0, ?_, ?_, ex, sz1, sz2, scw⟩
        · rw [head, y5 (fun y => gd (kwe.mp y)), some_bind, if_neg n2]
        · rw [← e1, m9 _ _ (v2 (fun y => gd (ge.mp y))), if_neg n2]
  · have c1' : ¬ (0 ≤ z ∧ z ≤ 3) ∨ ¬ 0 < B0.1 n 0 := by
      by_cases q : 0 ≤ z ∧ z ≤ 3
      · exact Or.inr (fun y => c1 ⟨q, y⟩)
      · exact Or.inl q
    refine ⟨iI (-2), E', B0, wI B0 mo 0 0, ?_, ?_, ex, sz1, sz2, scw⟩
    · rw [head, y1 c1', some_bind, if_neg n2]
    · rw [← e1, m9 _ _ (u1 c1'), if_neg n2]
end OK2
