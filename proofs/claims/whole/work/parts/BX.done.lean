/-! done: both answer alike -/
section DON
variable {E : Ev} {B C X : Bk} {n d : Nat} {V : Vy}
theorem mxP_neg {F : Nat} {Q : Nat → Prop} {r : Int} (h : mxP F Q r) : r = -1 ↔ ∀ s, ¬ Q s := by
  rcases h with ⟨h1, h2⟩ | ⟨s, h1, h2, h3, h4⟩
  · exact ⟨fun _ => h2, fun _ => h1⟩
  · exact ⟨fun w => by omega, fun w => absurd h3 (w s)⟩
/-- the doors have been visited behind j hours -/
def dnQ (V : Vy) (S G L c0 set j : Nat) : Prop := ∃ c l s u m', (m' < 32 ∧ set &&& m' = set) ∧ PtD V S G L c0 j c l s u m'
theorem dn_key {i : Int} {S G L k c0 set j : Nat} (N : RN V i S G L k) (hc0 : scV V i = (c0 : Int)) (dd : DD V) (hs : set < 32) (hj : (j : Int) ≤ V.1 4) : (∃ s, ∃ c l u, PtU V S G L c0 set j c l s u set) ↔ dnQ V S G L c0 set j := by
  constructor
  · rintro ⟨s, c, l, u, w⟩
    obtain ⟨M, w1, w2⟩ := (Pt_set N hc0 dd hs hj c l s u set).mp w
    have bb := PtD_b N hc0 hj w1
    exact ⟨c, l, s, u, M, ⟨bb.2.2.2.2.2, by rw [Nat.and_comm, ← w2]⟩, w1⟩
  · rintro ⟨c, l, s, u, M, ⟨b2, b3⟩, w1⟩
    exact ⟨s, c, l, u, (Pt_set N hc0 dd hs hj c l s u set).mpr ⟨M, w1, by rw [Nat.and_comm, b3]⟩⟩
theorem m_doneRun {i : Int} {S G L k c0 set : Nat} {s : Hp} (rm : mKd E mo) (N : RN V i S G L k) (hc0 : scV V i = (c0 : Int)) (dd : DD V) (hs : set < 32) (R : RfS E B V set S G (PtU V S G L c0 set 0) X s) : ∃ r s' X' j, (iter (fX9_done_l45 (E.1 + mo) (iI (set : Int))) FU (iI 0, s)).bind (Sum.elim (fun r15a => some ((iI (-1)), r15a)) (fun r15b => some (r15b.1, r15b.2))) = some (iI r, s') ∧ RfS E B V set S G (PtU V S G L c0 set j) X' s' ∧ lsP (fun h => h < (V.1 4).toNat ∧ dnQ V S G L c0 set (h + 1)) r := by
  have N' := N
  obtain ⟨hV, i0, eS, eG, eL, hk, hS, hG⟩ := N'
  have v4 := hV.2.2.2.1
  obtain ⟨z, e1, e2⟩ := iter_seek (F := fX9_done_l45 (E.1 + mo) (iI (set : Int))) (fun j a => ∃ s' X', a = (iI j, s') ∧ RfS E B V set S G (PtU V S G L c0 set j.toNat) X' s') (fun j => dnQ V S G L c0 set (j.toNat + 1)) (fun j r => ∃ s' X', r = Sum.inr (iI j, s') ∧ RfS E B V set S G (PtU V S G L c0 set (j.toNat + 1)) X' s') (fun r => ∃ s' X', r = Sum.inl s' ∧ RfS E B V set S G (PtU V S G L c0 set (V.1 4).toNat) X' s') 0 (V.1 4)
    (fun j a j0 j1 ha np => by
      obtain ⟨s', X', rfl, e2⟩ := ha
      obtain ⟨jn, rfl⟩ : ∃ jn : Nat, j = (jn : Int) := ⟨j.toNat, by omega⟩
      rw [Int.toNat_natCast] at np e2
      have nl : ¬ iI (V.1 4) ≤ iI (jn : Int) := by rw [iI_le (by omega) (by omega) (by omega) (by omega)]; omega
      obtain ⟨h1, h2⟩ := m_hour3 rm e2
      obtain ⟨s2, X2, g1, g2⟩ := m_stepP (h := jn) rm hs hS hG j1 e2
      obtain ⟨s3, r3, g3, g4, g5⟩ := m_tL rm hS hG hs g2
      have nb := mxP_neg g5
      refine ⟨(iI ((jn : Int) + 1), s3), ?_, s3, X2, rfl, by rw [show ((jn : Int) + 1).toNat = jn + 1 by omega]; exact g4⟩
      have r1 : r3 = -1 := nb.mpr (fun s w => np ((dn_key N hc0 dd hs (by omega)).mp ⟨s, w⟩))
      unfold fX9_done_l45
      dsimp only
      rw [h1, some_bind, h2, some_bind, if_neg nl, g1, some_bind, g3, some_bind, r1]
      dsimp only
      rw [if_pos rfl, iI_add])
    (fun j a j0 j1 ha np => by
      obtain ⟨s', X', rfl, e2⟩ := ha
      obtain ⟨jn, rfl⟩ : ∃ jn : Nat, j = (jn : Int) := ⟨j.toNat, by omega⟩
      rw [Int.toNat_natCast] at np e2
      have nl : ¬ iI (V.1 4) ≤ iI (jn : Int) := by rw [iI_le (by omega) (by omega) (by omega) (by omega)]; omega
      obtain ⟨h1, h2⟩ := m_hour3 rm e2
      obtain ⟨s2, X2, g1, g2⟩ := m_stepP (h := jn) rm hs hS hG j1 e2
      obtain ⟨s3, r3, g3, g4, g5⟩ := m_tL rm hS hG hs g2
      have nb := mxP_neg g5
      have bd := mxP_b g5
      obtain ⟨t, w⟩ := (dn_key N hc0 dd hs (show ((jn + 1 : Nat) : Int) ≤ V.1 4 by omega)).mpr np
      have r1 : ¬ r3 = -1 := fun e => nb.mp e t w
      refine ⟨Sum.inr (iI (jn : Int), s3), ?_, s3, X2, rfl, by rw [Int.toNat_natCast]; exact g4⟩
      unfold fX9_done_l45
      dsimp only
      rw [h1, some_bind, h2, some_bind, if_neg nl, g1, some_bind, g3, some_bind]
      dsimp only
      rw [if_neg (fun e => r1 ((iI_eq (by omega) (by omega) (by omega) (by omega)).mp e))])
    (fun a ha => by
      obtain ⟨s', X', rfl, e2⟩ := ha
      obtain ⟨h1, h2⟩ := m_hour3 rm e2
      refine ⟨Sum.inl s', ?_, s', X', rfl, e2⟩
      unfold fX9_done_l45
      dsimp only
      rw [h1, some_bind, h2, some_bind, if_pos (by rw [iI_le (by omega) (by omega) (by omega) (by omega)]; omega)])
    (by omega) (N := FU) (FU_big (by omega)) (a := (iI 0, s)) ⟨s, X, rfl, R⟩
  rw [e1, some_bind]
  rcases e2 with ⟨j, j0, j1, w, np, s', X', rfl, e3⟩ | ⟨np, s', X', rfl, e3⟩
  · obtain ⟨jn, rfl⟩ : ∃ jn : Nat, j = (jn : Int) := ⟨j.toNat, by omega⟩
    rw [Int.toNat_natCast] at w e3
    exact ⟨(jn : Int), s', X', jn + 1, rfl, e3, Or.inr ⟨jn, rfl, ⟨by omega, w⟩, fun h' q' ⟨b1, b2⟩ => np (h' : Int) (by omega) (by omega) (by rw [Int.toNat_natCast]; exact b2)⟩⟩
  · exact ⟨-1, s', X', _, rfl, e3, Or.inl ⟨rfl, fun h ⟨b1, b2⟩ => np (h : Int) (by omega) (by omega) (by rw [Int.toNat_natCast]; exact b2)⟩⟩
theorem o_done {s z : Int} (Q : RQ E B n d) (dd : DD (vyN B n)) (hs : i32 s) (hz : i32 z) : QM E B n d (fX8_done (E.1 + co) (iI s) (iI z)) (fX9_done (E.1 + mo) (iI s) (iI z)) := by
  have Q' := Q
  obtain ⟨R, ⟨hn, hd⟩, -⟩ := Q'
  have R' := R
  obtain ⟨⟨rc, rn, rk, rm⟩, rw1, -⟩ := R'
  obtain ⟨w0, w1, w2, w3, w4, -, -, -, w8, w9⟩ := rw1
  have p5 := p2_le (k := (B.1 n 9).toNat) (by omega)
  by_cases gd : (0 ≤ s ∧ s < B.1 n 8) ∧ (0 ≤ z ∧ z < ((2 ^ (B.1 n 9).toNat : Nat) : Int))
  · obtain ⟨⟨s0, s1⟩, z0, z1⟩ := gd
    obtain ⟨q, rfl⟩ : ∃ q : Nat, s = (q : Int) := ⟨s.toNat, by omega⟩
    obtain ⟨set, rfl⟩ : ∃ zN : Nat, z = (zN : Int) := ⟨z.toNat, by omega⟩
    have set32 : set < 32 := by omega
    have hst : 0 < B.1 n 0 := RV_hst R (Or.inl (by omega))
    obtain ⟨S, G, L, k, c0, N, hc0, h4⟩ := rv_RN R hst s1
    have N' := N
    obtain ⟨hV, i0, eS, eG, eL, hk, hS, hG⟩ := N'
    obtain ⟨C, f1, f2, f3, f4⟩ := s8_toursOf Q hst s1
    have evC : vyN C n = vyN B n := ltF_vy f2 (by omega)
    have Rc := f3.1
    have en : ∀ j, C.1 n j = B.1 n j := fun j => by rw [f2.1 n (by omega)]
    have KR := f3.2.2.2.2.1.2.2 q h4
    obtain ⟨tk, ts⟩ := TUV_at f4 N hc0
    have mn := (ts set set32).2
    have hN : ((vyN B n).1 4).toNat ≤ 24 := by show (B.1 n 4).toNat ≤ 24; omega
    have l1 : (dnQ (vyN B n) S G L c0 set 0 → (if tuH C (d + 7 + 4 * q) (set : Int) = 99 then -1 else tuH C (d + 7 + 4 * q) (set : Int)) = -1) ∧ (¬ dnQ (vyN B n) S G L c0 set 0 → lsP (fun h => h < ((vyN B n).1 4).toNat ∧ dnQ (vyN B n) S G L c0 set (h + 1)) (if tuH C (d + 7 + 4 * q) (set : Int) = 99 then -1 else tuH C (d + 7 + 4 * q) (set : Int))) := by
      obtain ⟨m1, m2, m3⟩ := mn
      have tkb := tk (set : Int) (by omega) (by omega)
      constructor
      · rintro ⟨c', l, s, u, m', a2, a3⟩
        have := m3 (((0 : Nat) : Int) - 1) ⟨0, c', l, s, u, m', by omega, a2, a3, rfl⟩
        rw [if_neg (by omega)]
        omega
      · intro no
        by_cases c : tuH C (d + 7 + 4 * q) (set : Int) = 99
        · rw [if_pos c]
          refine Or.inl ⟨rfl, fun h ⟨a1, c', l, s, u, m', a2, a3⟩ => ?_⟩
          have := m3 (((h + 1 : Nat) : Int) - 1) ⟨h + 1, c', l, s, u, m', by omega, a2, a3, rfl⟩
          omega
        · rw [if_neg c]
          rcases m1 with e | ⟨h, c', l, s, u, m', a1, a2, a3, a4⟩
          · exact absurd e c
          · cases h with
            | zero => exact absurd ⟨c', l, s, u, m', a2, a3⟩ no
            | succ h =>
              refine Or.inr ⟨h, by omega, ⟨by omega, c', l, s, u, m', a2, a3⟩, fun h' lt ⟨b1, c2, l2, s2, u2, m2', b2, b3⟩ => ?_⟩
              have := m3 (((h' + 1 : Nat) : Int) - 1) ⟨h' + 1, c2, l2, s2, u2, m2', by omega, b2, b3, rfl⟩
              omega
    have R0 := rv_0 Rc (show n < 58 by omega)
    have ev0 : vyN (wI C mo 0 0) n = vyN C n := vyN_eq (fun j => w0n (by omega) j) (fun _ _ _ _ => rfl)
    have P0 := MP_rv R0 hn (by rw [w0n (by omega), en]; exact hst)
    rw [ev0, evC] at P0
    obtain ⟨sA, X1, a1, a2⟩ := m_startU (set := set) rm P0 set32 N hc0
    obtain ⟨sB, r2, a3, a4, a5⟩ := m_tL rm hS hG set32 a2
    have nb := mxP_neg a5
    have bd := mxP_b a5
    have k0 := dn_key (j := 0) N hc0 dd set32 (by show ((0 : Nat) : Int) ≤ B.1 n 4; omega)
    obtain ⟨v, hv⟩ : ∃ v, v = (if tuH C (d + 7 + 4 * q) (set : Int) = 99 then -1 else tuH C (d + 7 + 4 * q) (set : Int)) := ⟨_, rfl⟩
    rw [← hv] at l1
    have hd : fX9_done (E.1 + mo) (iI (q : Int)) (iI (set : Int)) (St E C) = if iI r2 = iI (-1) then (iter (fX9_done_l45 (E.1 + mo) (iI (set : Int))) FU (iI 0, sB)).bind (Sum.elim (fun r15a => some ((iI (-1)), r15a)) (fun r15b => some (r15b.1, r15b.2))) else some (iI (-1), sB) := by
      unfold fX9_done
      rw [c9 rm.1, some_bind, p9_0 rm.1, some_bind, rg_isShop Rc hn hs, some_bind]
      dsimp only
      rw [if_neg (fun w => (bI_0.mp w) ⟨s0, by rw [en]; exact s1⟩), rg_isDoors Rc hn hz, some_bind]
      dsimp only
      rw [if_neg (fun w => (bI_0.mp w) ⟨z0, by rw [en]; exact z1⟩), a1, some_bind, a3, some_bind]
    have cls : fX8_done (E.1 + co) (iI (q : Int)) (iI (set : Int)) (St E B) = some (iI v, St E C) := by
      unfold fX8_done
      rw [c8 rc, some_bind, s8_hasShopDoors R hs hz, some_bind]
      dsimp only
      rw [if_neg (fun w => (bI_0.mp w) ⟨⟨s0, s1⟩, z0, z1⟩), f1, some_bind]
      dsimp only
      rw [s2_hourOfTour KR.1 KR.2.2.2 tk (by omega), some_bind, ← hv]
    have s0' : sc C (wI C mo 0 0) := sc_I (by unfold msv; omega)
    by_cases st : dnQ (vyN B n) S G L c0 set 0
    · obtain ⟨t, w⟩ := k0.mpr st
      have r1 : ¬ r2 = -1 := fun e => nb.mp e t w
      obtain ⟨D, eD, sD⟩ := RfS_end a4
      refine ⟨iI v, C, D, cls, ?_, f2, sc_tr s0' sD, f3⟩
      rw [hd, if_neg (fun e => r1 ((iI_eq (by omega) (by omega) (by omega) (by omega)).mp e)), eD, l1.1 st]
    · have r1 : r2 = -1 := nb.mpr (fun s w => st (k0.mp ⟨s, w⟩))
      obtain ⟨r, s', X', j, g1, g2, g3⟩ := m_doneRun rm N hc0 dd set32 a4
      obtain ⟨D, rfl, sD⟩ := RfS_end g2
      refine ⟨iI v, C, D, cls, ?_, f2, sc_tr s0' sD, f3⟩
      rw [hd, if_pos (by rw [r1]), g1, lsP_u g3 (l1.2 st)]
  · refine QM_no Q (v := iI (-2)) ?_ ?_
    · unfold fX8_done
      rw [c8 rc, some_bind, s8_hasShopDoors R hs hz, some_bind]
      dsimp only
      rw [if_pos (bI_0.mpr gd)]
    · simp only [fX9_done, fX9_done_b21, c9 rm.1, p9_0 rm.1, some_bind, rg_isShop R hn hs, rg_isDoors R hn hz, iI_0, ib]
      by_cases c1 : 0 ≤ s ∧ s < B.1 n 8
      · rw [if_pos c1, if_neg (fun w => gd ⟨c1, w⟩)]
      · rw [if_neg c1]
end DON
