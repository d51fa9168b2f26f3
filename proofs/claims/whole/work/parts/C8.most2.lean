/-! fair and aloft: the reference's answer -/
section MSU
variable {E : Ev} {B X : Bk} {V : Vy} {S G n L h T c0 : Nat} {kd : Int} {P : StP}
theorem FRN_sc {C : Bk} (f : sc B C) (w : FRN B V) : FRN C V := by
  have hm : mo = 58 := rfl
  have e : ∀ z, C.2.2.2.1 (mo + 7) z = B.2.2.2.1 (mo + 7) z := fun z => f.2.2.2.1 (mo + 7) z (by unfold mscr; omega)
  unfold FRN at *
  rw [e, e, e, e]
  exact w
theorem m_mostStep {j : Nat} {N T : Int → Int} {s : Hp} (rm : mKd E mo) (P : MP X V) (hk : kd = 1 ∨ kd = 2) (fr : kd = 1 → FRN X V) (hn : V.1 3 = (n : Int)) (hS : S ≤ 9) (hG : G ≤ 9) (cok : cOK (V.1 1) (V.1 2) (c0 : Int)) (hL : L < n) (hj : (j : Int) < V.1 4) (w : nbI V S G kd c0 L j N) (an : anyF E (rw2 X N T) s) : ∃ s' T', fX9_hourRows (E.1 + mo) (iI (j : Int)) (iI kd) s = some s' ∧ anyF E (rw2 X T' T') s' ∧ nbI V S G kd c0 L (j + 1) T' := by
  have hV := P.2.1
  have v4 := hV.2.2.2.1
  have pb := Ph_PB (kd := kd) (S := S) (G := G) hV hn cok hL (j := j) (by omega)
  have w' := w
  obtain ⟨w1, w2, w3⟩ := w'
  have bN : ∀ z, -1 ≤ N z ∧ N z ≤ 100 := fun z => by
    by_cases e : N z = -1
    · omega
    · obtain ⟨c, l, s, u, m, p, -, e2⟩ := w3 z e
      have := (pb c l s u m p).2.2.2.2.1
      omega
  obtain ⟨s', T', e1, e2, e3⟩ := m_hourRows (kd := kd) (h := (j : Int)) (nv := -1) (Inv := mxI V kd (j : Int) N) rm P (Or.inr hk) fr ⟨by omega, hj⟩ (by rw [if_neg (by omega)]) (fun z _ _ => by have := bN z; omega) (fun z _ _ nz => by
    obtain ⟨c, l, s, u, m, p, e2, -⟩ := w3 z nz
    exact ⟨_, _, _, _, PB_t hn hS hG pb p, e2⟩) (mx_RInv hV (by omega) bN) an
  exact ⟨s', T', e1, e2, nb_step hV hn hS hG cok hL hj w e3⟩
theorem m_mostBy {q : Nat} (rm : mKd E mo) (P0 : MP (plnM B) V) (N0 : RN V (q : Int) S G L n) (hc0 : scV V (q : Int) = (c0 : Int)) (hk : kd = 1 ∨ kd = 2) (fr : kd = 1 → FRN B V) : ∃ r D, fX9_mostBy (E.1 + mo) (iI (q : Int)) (iI kd) (St E B) = some (iI r, St E D) ∧ sc B D ∧ tgS (Ph V S G (gU V kd) (iP c0 L 0) (V.1 4).toNat) r := by
  obtain ⟨c0', hc0', c64, cok, hL⟩ := scV_b N0
  have ec : c0' = c0 := by omega
  subst ec
  have N' := N0
  obtain ⟨hV, i0, eS, eG, eL, hn, hS, hG⟩ := N'
  have v4 := hV.2.2.2.1
  obtain ⟨s1, T1, a1, a2, a3, a4, a5⟩ := m_startsRows (one := 0) (nv := -1) rm P0 N0 hc0
  obtain ⟨X0, hX0⟩ : ∃ X0, X0 = stX B V 0 (q : Int) 9 := ⟨_, rfl⟩
  rw [← hX0] at a2 a3 a4
  have fr' : kd = 1 → FRN X0 V := fun e => FRN_sc a4 (fr e)
  have st0 : nbI V S G kd c0' L 0 (upI (fun _ => -1) (sC (c0' : Int) (L : Int) (S : Int) (G : Int)) 0) := by
    refine ⟨fun z => ?_, fun c l s u m p => ?_, fun z nz => ?_⟩
    · unfold upI
      dsimp only
      split <;> omega
    · obtain ⟨rfl, rfl, rfl, rfl, rfl⟩ := p
      unfold upI
      rw [show (S : Int) - ((0 : Nat) : Int) = (S : Int) by omega, show (G : Int) - ((0 : Nat) : Int) = (G : Int) by omega, if_pos rfl]
      exact Int.le_refl _
    · unfold upI at nz ⊢
      by_cases e : z = sC (c0' : Int) (L : Int) (S : Int) (G : Int)
      · rw [if_pos e]
        refine ⟨c0', L, 0, 0, 0, ⟨rfl, rfl, rfl, rfl, rfl⟩, ?_, rfl⟩
        rw [e, show (S : Int) - ((0 : Nat) : Int) = (S : Int) by omega, show (G : Int) - ((0 : Nat) : Int) = (G : Int) by omega]
      · rw [if_neg e] at nz
        exact absurd rfl nz
  have rdH : ∀ {N T : Int → Int} {s : Hp}, anyF E (rw2 X0 N T) s → gR s (E.1 + mo) 9 17 = some (E.1 + (mo + 7)) ∧ aI s (E.1 + (mo + 7)) (iI 3) = some (iI (V.1 4)) := fun an => by
    obtain ⟨x, y, l, f, g, m, u, v, rfl⟩ := an
    exact ⟨g9_17 rm.1, by rw [aI_ok (mk7 rm) (by omega) (by omega) (by omega), frW_2]; exact congrArg (fun z => some (iI z)) a3.1.1.2.2.2.1⟩
  obtain ⟨s2, b1, N2, T2, b2, b3⟩ := iter_acc (F := fX9_mostBy_l11 (E.1 + mo) (iI kd)) (fun j a => ∃ s' N T, a = (iI (j : Int), s') ∧ anyF E (rw2 X0 N T) s' ∧ nbI V S G kd c0' L j N) (V.1 4).toNat (fun s' => ∃ N T, anyF E (rw2 X0 N T) s' ∧ nbI V S G kd c0' L (V.1 4).toNat N)
    (fun j a hj ha => by
      obtain ⟨s', N, T, rfl, an, w⟩ := ha
      obtain ⟨s3, T3, e1, e2, e3⟩ := m_mostStep rm a3 hk fr' hn hS hG cok hL (show (j : Int) < V.1 4 by omega) w an
      refine ⟨(iI ((j + 1 : Nat) : Int), s3), ?_, s3, T3, T3, rfl, e2, e3⟩
      unfold fX9_mostBy_l11
      dsimp only
      rw [(rdH an).1, some_bind, (rdH an).2, some_bind, if_neg (by rw [iI_le (by omega) (by omega) (by omega) (by omega)]; omega), e1, some_bind, iI_add]
      rfl)
    (fun a ha => by
      obtain ⟨s', N, T, rfl, an, w⟩ := ha
      refine ⟨s', ?_, N, T, an, w⟩
      unfold fX9_mostBy_l11
      dsimp only
      rw [(rdH an).1, some_bind, (rdH an).2, some_bind, if_pos (by rw [iI_le (by omega) (by omega) (by omega) (by omega)]; omega)]) (N := FU) (by show (V.1 4).toNat < 1000000; omega) (a := (iI 0, s1)) ⟨s1, _, T1, rfl, a2, st0⟩
  have pb := Ph_PB (kd := kd) (S := S) (G := G) hV hn cok hL (j := (V.1 4).toNat) (by omega)
  obtain ⟨w1, w2, w3⟩ := b3
  have bN : ∀ z, -1 ≤ N2 z ∧ N2 z ≤ 100 := fun z => by
    by_cases e : N2 z = -1
    · omega
    · obtain ⟨c, l, s, u, m, p, -, e2⟩ := w3 z e
      have := (pb c l s u m p).2.2.2.2.1
      omega
  obtain ⟨x, y, l, f, g, m, u, v, rfl⟩ := b2
  obtain ⟨z2, d1, r, rfl, d2, d3, d4⟩ := iter_acc (F := fX9_mostBy_l38 (E.1 + mo)) (fun j a => ∃ r : Int, a = (jI r, iI (j : Int), St E (frW (rw2 X0 N2 T2) x y l f g m u v)) ∧ (0 ≤ r ∧ r ≤ 100) ∧ (∀ z : Int, 0 ≤ z → z < (j : Int) → N2 z ≤ r) ∧ (r = 0 ∨ ∃ z, N2 z = r)) 32000 (fun a => ∃ r : Int, a = (jI r, St E (frW (rw2 X0 N2 T2) x y l f g m u v)) ∧ (0 ≤ r ∧ r ≤ 100) ∧ (∀ z : Int, 0 ≤ z → z < 32000 → N2 z ≤ r) ∧ (r = 0 ∨ ∃ z, N2 z = r))
    (fun j a hj ha => by
      obtain ⟨r, rfl, d2, d3, d4⟩ := ha
      have bj := bN (j : Int)
      have rd : aL (St E (frW (rw2 X0 N2 T2) x y l f g m u v)) (E.1 + (mo + 23)) (iI (j : Int)) = some (jI (N2 (j : Int))) := by
        rw [aL_ok (mk23 rm) (by omega) (by omega) (by omega), frW_2, rw2_N (by omega) (by omega)]
      by_cases e : N2 (j : Int) ≤ r
      · refine ⟨(jI r, iI ((j + 1 : Nat) : Int), St E (frW (rw2 X0 N2 T2) x y l f g m u v)), ?_, r, rfl, d2, fun z z0 z1 => ?_, d4⟩
        · unfold fX9_mostBy_l38 fX9_mostBy_b69
          dsimp only
          rw [if_neg (by rw [iI_le (by omega) (by omega) (by omega) (by omega)]; omega), g9_49 rm.1, some_bind, rd, some_bind, if_pos ((lg_cmp_le _ _).mpr ((jI_le (by omega) (by omega) (by omega) (by omega)).mpr e)), iI_add]
          rfl
        · by_cases ez : z = (j : Int)
          · rw [ez]
            exact e
          · exact d3 z z0 (by omega)
      · refine ⟨(jI (N2 (j : Int)), iI ((j + 1 : Nat) : Int), St E (frW (rw2 X0 N2 T2) x y l f g m u v)), ?_, N2 (j : Int), rfl, by omega, fun z z0 z1 => ?_, Or.inr ⟨_, rfl⟩⟩
        · unfold fX9_mostBy_l38 fX9_mostBy_b69
          dsimp only
          rw [if_neg (by rw [iI_le (by omega) (by omega) (by omega) (by omega)]; omega), g9_49 rm.1, some_bind, rd, some_bind, if_neg (fun w => e ((jI_le (by omega) (by omega) (by omega) (by omega)).mp ((lg_cmp_le _ _).mp w))), some_bind, rd, some_bind, iI_add]
          rfl
        · by_cases ez : z = (j : Int)
          · rw [ez]
            exact Int.le_refl _
          · have := d3 z z0 (by omega)
            omega)
    (fun a ha => by
      obtain ⟨r, rfl, d⟩ := ha
      refine ⟨_, ?_, r, rfl, d⟩
      unfold fX9_mostBy_l38
      dsimp only
      rw [if_pos (by decide)]) (N := FU) (by decide) (a := (jI 0, iI 0, St E (frW (rw2 X0 N2 T2) x y l f g m u v))) ⟨0, rfl, by omega, fun z z0 z1 => by omega, Or.inl rfl⟩
  refine ⟨r, frW (rw2 X0 N2 T2) x y l f g m u v, ?_, sc_tr a4 (sc_tr rw2_sc frW_sc), d2.1, fun c l s u m p => ?_, ?_⟩
  · unfold fX9_mostBy
    rw [c9 rm.1, some_bind, show (0 : Int64) = jI 0 from rfl, show (-1 : Int64) = jI (-1) from rfl, a1, some_bind, b1, some_bind, d1, some_bind, toI32_j]
  · have sb := sC_b hV (PB_t hn hS hG pb p)
    have := w2 c l s u m p
    have := d3 _ sb.1 sb.2
    omega
  · rcases d4 with e | ⟨z, e⟩
    · exact Or.inl e
    · obtain ⟨c, l, s, u, m, p, -, e2⟩ := w3 z (by omega)
      exact Or.inr ⟨c, l, s, u, m, p, by omega⟩
end MSU
