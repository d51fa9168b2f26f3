/-! chance -/
section CHN
variable {E : Ev} {B C : Bk} {n m : Nat}
theorem vyG_eq {o x : Int} (ev : vyN C n = vyN B n) : vyG C n o x = vyG B n o x := by
  have e3 : C.1 n 3 = B.1 n 3 := congrFun (congrArg (fun V : Vy => V.1) ev) 3
  unfold vyG
  rw [ev, e3]
theorem o_chance {a k o s x y : Int} (F : FB E B n m) (ha : i32 a) (hk : i32 k) (ho : i32 o) (hs : i32 s) (hx : i32 x) (hy : i32 y) : QF E B n m (fX8_chance (E.1 + co) (iI a) (iI k) (iI o) (iI s) (iI x) (iI y)) (fX9_chance (E.1 + mo) (iI a) (iI k) (iI o) (iI s) (iI x) (iI y)) := by
  have rc := F.1.1.1
  have rn := F.1.1.2.1
  have rk := F.1.1.2.2.1
  have rm := F.1.1.2.2.2
  have w1 := F.1.2.1.2.1
  have w2 := F.1.2.1.2.2.1
  have w4 := F.1.2.1.2.2.2.2.1
  have w8 := F.1.2.1.2.2.2.2.2.2.2.2.1
  have hn : n < 58 := by have := F.2.2.1; omega
  have hk' := hk
  obtain ⟨k1, k2⟩ := hk'
  have e10 : ∀ C, gR (St E C) (E.1 + co) 8 3 = some (E.1 + 10) := fun C => g8_3 rc
  have b24 : ∀ v, fX8_chance_b24 (E.1 + co) (iI a) (iI k) (iI o) (iI s) (iI x) (iI y) v (St E B) = if v = iI 0 then some (iI (-2), St E B) else if (0 ≤ s ∧ s < B.1 n 8) then (if (0 ≤ x ∧ x < B.1 n 1) ∧ (0 ≤ y ∧ y < B.1 n 2) then (iter (fX8_chance_l66 (E.1 + co) (iI a) (iI k) (iI o) (iI s) (iI x) (iI y)) FU (iI 0, iI 0, St E B)).bind (fun r21 => some (r21.1, r21.2)) else some (iI (-2), St E B)) else some (iI (-2), St E B) := fun v => by
    simp only [fX8_chance_b24, fX8_chance_b57, g8_7 rc rn, s_hasShop hs rk F.1.2.1, s_hasColumn hx hy rk F.1.2.1, some_bind, iI_0, ib]
  have cf : fX8_chance (E.1 + co) (iI a) (iI k) (iI o) (iI s) (iI x) (iI y) (St E B) = if ((0 ≤ a ∧ a ≤ 2000000000) ∧ (0 ≤ o ∧ o ≤ 100)) ∧ (1 ≤ k ∧ k ≤ 20) ∧ (0 ≤ s ∧ s < B.1 n 8) ∧ (0 ≤ x ∧ x < B.1 n 1) ∧ (0 ≤ y ∧ y < B.1 n 2) then (iter (fX8_chance_l66 (E.1 + co) (iI a) (iI k) (iI o) (iI s) (iI x) (iI y)) FU (iI 0, iI 0, St E B)).bind (fun r21 => some (r21.1, r21.2)) else some (iI (-2), St E B) := by
    simp (disch := omega) only [fX8_chance, fX8_chance_b23, c8 rc, s8_isDraw ha ho, some_bind, iI_0, ib, iI_lt, b24]
    repeat' split
    all_goals first | rfl | (exfalso; omega) | exact absurd trivial ‹¬ True› | (exfalso; revert ‹iI 1 = iI 0›; decide)
  have rf : ∀ C, FB E C n m → (∀ j, C.1 n j = B.1 n j) → fX9_chance (E.1 + mo) (iI a) (iI k) (iI o) (iI s) (iI x) (iI y) (St E C) = if (0 < B.1 n 0 ∧ (0 ≤ a ∧ a ≤ 2000000000) ∧ (0 ≤ o ∧ o ≤ 100)) ∧ (1 ≤ k ∧ k ≤ 20) ∧ (0 ≤ s ∧ s < B.1 n 8) ∧ (0 ≤ x ∧ x < B.1 n 1) ∧ (0 ≤ y ∧ y < B.1 n 2) then (iter (fX9_chance_l57 (E.1 + mo) (iI a) (iI k) (iI o) (iI s) (iI x) (iI y)) FU (iI 0, iI 0, St E (wI C mo 0 0))).bind (fun r21 => some (r21.1, r21.2)) else some (iI (-2), St E (wI C mo 0 0)) := fun C FC cn => by
    simp (disch := omega) only [fX9_chance, fX9_chance_b48, c9 rm.1, p9_0 rm.1, some_bind, mg_isDraw FC ha ho, mg_isShop FC hs, mg_isColumn FC hx hy, iI_0, ib, cn, jI_i, jI_1, jI_20, m_in]
    repeat' split
    all_goals first | rfl | (exfalso; omega)
  by_cases c : ((0 ≤ a ∧ a ≤ 2000000000) ∧ (0 ≤ o ∧ o ≤ 100)) ∧ (1 ≤ k ∧ k ≤ 20) ∧ (0 ≤ s ∧ s < B.1 n 8) ∧ (0 ≤ x ∧ x < B.1 n 1) ∧ (0 ≤ y ∧ y < B.1 n 2)
  · have c' := c
    obtain ⟨c0, c1, c2, c3⟩ := c
    have hst := st_shop F c2
    obtain ⟨t, rfl⟩ : ∃ t : Nat, s = t := ⟨s.toNat, by omega⟩
    have hV := fun j : Int => vyG_ok F.1 hst (o := o) (x := a + j)
    have b4 : 1 ≤ B.1 n 4 ∧ B.1 n 4 ≤ 24 := (rv_VOK F.1 hst).2.2.2.1
    have bd : ∀ j : Int, (0 ≤ (fsF (vyG B n o (a + j)) (B.1 n 4).toNat).1 t 0 ∧ (fsF (vyG B n o (a + j)) (B.1 n 4).toNat).1 t 0 < 8) ∧ (0 ≤ (fsF (vyG B n o (a + j)) (B.1 n 4).toNat).1 t 1 ∧ (fsF (vyG B n o (a + j)) (B.1 n 4).toNat).1 t 1 < 8) := fun j => by
      obtain ⟨a0, a1, -⟩ := fsF_in (hV j) (h := (B.1 n 4).toNat) (s := (t : Int)) (by omega) c2.2
      have a0' : 0 ≤ (fsF (vyG B n o (a + j)) (B.1 n 4).toNat).1 t 0 ∧ (fsF (vyG B n o (a + j)) (B.1 n 4).toNat).1 t 0 < B.1 n 1 := a0
      have a1' : 0 ≤ (fsF (vyG B n o (a + j)) (B.1 n 4).toNat).1 t 1 ∧ (fsF (vyG B n o (a + j)) (B.1 n 4).toNat).1 t 1 < B.1 n 2 := a1
      omega
    obtain ⟨r, e1, C, e2, Fc, evc, enc, fc⟩ := iter_acc (F := fX8_chance_l66 (E.1 + co) (iI a) (iI k) (iI o) (iI t) (iI x) (iI y)) (fun j w => ∃ C, w = (fo (fun j z => z + (if (fsF (vyG B n o (a + j)) (B.1 n 4).toNat).1 t 0 = x ∧ (fsF (vyG B n o (a + j)) (B.1 n 4).toNat).1 t 1 = y then iI 1 else iI 0)) (iI 0) j, iI j, St E C) ∧ FB E C n m ∧ vyN C n = vyN B n ∧ (∀ j, C.1 n j = B.1 n j) ∧ fF m B C) k.toNat (fun r => ∃ C, r = (fo (fun j z => z + (if (fsF (vyG B n o (a + j)) (B.1 n 4).toNat).1 t 0 = x ∧ (fsF (vyG B n o (a + j)) (B.1 n 4).toNat).1 t 1 = y then iI 1 else iI 0)) (iI 0) k.toNat, St E C) ∧ FB E C n m ∧ vyN C n = vyN B n ∧ (∀ j, C.1 n j = B.1 n j) ∧ fF m B C)
      (fun j w hj hw => by
        obtain ⟨C, rfl, Fc, evc, enc, fc⟩ := hw
        obtain ⟨D, K, d1, d2, d3, d4, d5, d6⟩ := s8_gusty Fc (by rw [enc]; exact hst) (x := a + j) (o := o) (by omega) (by omega) (by omega) (by omega)
        obtain ⟨Fk, evk, enk⟩ := TM_FB Fc d3 d4
        rw [vyG_eq evc, enc] at d5
        have kn : ∀ j, K.1 n j = B.1 n j := fun j => by rw [enk, enc]
        have ce := q7_columnEnd (s := t) (a := 0) (V := vyG B n o (a + j)) F.2.1.2.1 d6 rk (hV j) (kn 4) d5 (by omega) c2.2
        have ce' : fX7_columnAtEnd (E.1 + 10) (iI t) (St E K) = some (iI ((fsF (vyG B n o (a + j)) (B.1 n 4).toNat).1 t 1 * 8 + (fsF (vyG B n o (a + j)) (B.1 n 4).toNat).1 t 0), St E K) := ce
        have bj := bd j
        refine ⟨(fo (fun j z => z + (if (fsF (vyG B n o (a + j)) (B.1 n 4).toNat).1 t 0 = x ∧ (fsF (vyG B n o (a + j)) (B.1 n 4).toNat).1 t 1 = y then iI 1 else iI 0)) (iI 0) (j + 1), iI ((j + 1 : Nat) : Int), St E K), ?_, K, rfl, Fk, by rw [evk, evc], kn, fF_tr fc (TM_fF d3)⟩
        simp (disch := omega) only [fX8_chance_l66, fX8_chance_b122, iI_le, e10, some_bind, g8_7 rc Fc.1.1.2.1, iI_add, d1, d2, ce', s_columnOf, iI_eq, lt_]
        rw [if_neg (by omega)]
        show _ = some (Sum.inl (fo _ (iI 0) j + (if (fsF (vyG B n o (a + j)) (B.1 n 4).toNat).1 t 0 = x ∧ (fsF (vyG B n o (a + j)) (B.1 n 4).toNat).1 t 1 = y then iI 1 else iI 0), iI ((j : Int) + 1), St E K))
        repeat' split
        all_goals first | rfl | (exfalso; omega))
      (fun w hw => by
        obtain ⟨C, rfl, Fc, evc, enc, fc⟩ := hw
        refine ⟨_, ?_, C, rfl, Fc, evc, enc, fc⟩
        simp (disch := omega) only [fX8_chance_l66, iI_le]
        rw [if_pos (by omega)])
      (N := FU) (FUh (by omega)) (a := (iI 0, iI 0, St E B)) ⟨B, rfl, F, rfl, fun _ => rfl, fF_rfl⟩
    have s0 : sc C (wI C mo 0 0) := sc_I (by unfold msv; omega)
    obtain ⟨r2, g1, K, g2, Fk, evk, kn, sk⟩ := iter_acc (F := fX9_chance_l57 (E.1 + mo) (iI a) (iI k) (iI o) (iI t) (iI x) (iI y)) (fun j w => ∃ K, w = (fo (fun j z => z + (if (fsF (vyG B n o (a + j)) (B.1 n 4).toNat).1 t 0 = x ∧ (fsF (vyG B n o (a + j)) (B.1 n 4).toNat).1 t 1 = y then iI 1 else iI 0)) (iI 0) j, iI j, St E K) ∧ FB E K n m ∧ vyN K n = vyN B n ∧ (∀ j, K.1 n j = B.1 n j) ∧ sc C K) k.toNat (fun r => ∃ K, r = (fo (fun j z => z + (if (fsF (vyG B n o (a + j)) (B.1 n 4).toNat).1 t 0 = x ∧ (fsF (vyG B n o (a + j)) (B.1 n 4).toNat).1 t 1 = y then iI 1 else iI 0)) (iI 0) k.toNat, St E K) ∧ FB E K n m ∧ vyN K n = vyN B n ∧ (∀ j, K.1 n j = B.1 n j) ∧ sc C K)
      (fun j w hj hw => by
        obtain ⟨L, rfl, Fl, evl, ln, sl⟩ := hw
        obtain ⟨K, d1, d2, d3, d4⟩ := m_draws (x := a + j) (o := o) Fl (by rw [ln]; exact hst) (by omega) (by omega) (by omega) (by omega)
        rw [vyG_eq evl, ln] at d3
        have Fk := sc_FB d2 Fl
        have kn : ∀ j, K.1 n j = B.1 n j := fun j => by rw [sc_n d2 hn, ln]
        have evk : vyN K n = vyN B n := by rw [← evl]; exact vyN_eq (sc_n d2 hn) (fun k z a b => sc_r d2 (by have := F.2.2.1; omega) z)
        have h3 : K.2.2.2.1 (mo + 7) 3 = B.1 n 4 := by rw [vr_h3 Fk.1, kn]
        obtain ⟨u, hu⟩ : ∃ u : Nat, (B.1 n 4).toNat = u + 1 := ⟨(B.1 n 4).toNat - 1, by omega⟩
        have sp : ∀ i : Int, 0 ≤ i → i < 7 → fX9_spotOf (E.1 + mo) (iI t) (iI (B.1 n 4 - 1)) (iI i) (St E K) = some (iI ((fsF (vyG B n o (a + j)) (B.1 n 4).toNat).1 t i), St E K) := fun i i0 i1 => by
          have := q9_spot (s := t) (h := u) (k := i) rm (hV j) d3 c2.2 (by omega) (by omega) i0 i1
          rw [← hu, show (u : Int) = B.1 n 4 - 1 by omega] at this
          exact this
        have bj := bd j
        have ja : Int32.toInt64 (iI a) + Int32.toInt64 (iI (j : Int)) = jI (a + j) := by rw [jI_i ha.1 ha.2, jI_i (by omega) (by omega), jI_add]
        refine ⟨(fo (fun j z => z + (if (fsF (vyG B n o (a + j)) (B.1 n 4).toNat).1 t 0 = x ∧ (fsF (vyG B n o (a + j)) (B.1 n 4).toNat).1 t 1 = y then iI 1 else iI 0)) (iI 0) (j + 1), iI ((j + 1 : Nat) : Int), St E K), ?_, K, rfl, Fk, evk, kn, sc_tr sl d2⟩
        simp (disch := omega) only [fX9_chance_l57, fX9_chance_b120, fX9_chance_b121, iI_le, some_bind, ja, d1, g9_17 rm.1, aI_ok (mk7 rm), h3, iI_sub, sp 0 (by omega) (by omega), sp 1 (by omega) (by omega), iI_eq, lt_, iI_add]
        rw [if_neg (by omega)]
        show _ = some (Sum.inl (fo _ (iI 0) j + (if (fsF (vyG B n o (a + j)) (B.1 n 4).toNat).1 t 0 = x ∧ (fsF (vyG B n o (a + j)) (B.1 n 4).toNat).1 t 1 = y then iI 1 else iI 0), iI ((j : Int) + 1), St E K))
        repeat' split
        all_goals first | rfl | (exfalso; omega))
      (fun w hw => by
        obtain ⟨L, rfl, Fl, evl, ln, sl⟩ := hw
        refine ⟨_, ?_, L, rfl, Fl, evl, ln, sl⟩
        simp (disch := omega) only [fX9_chance_l57, iI_le]
        rw [if_pos (by omega)])
      (N := FU) (FUh (by omega)) (a := (iI 0, iI 0, St E (wI C mo 0 0))) ⟨wI C mo 0 0, rfl, sc_FB s0 Fc, by rw [← evc]; exact vyN_eq (fun j => w0n hn j) (fun _ _ _ _ => rfl), fun j => by rw [w0n hn, enc], s0⟩
    refine ⟨fo (fun j z => z + (if (fsF (vyG B n o (a + j)) (B.1 n 4).toNat).1 t 0 = x ∧ (fsF (vyG B n o (a + j)) (B.1 n 4).toNat).1 t 1 = y then iI 1 else iI 0)) (iI 0) k.toNat, C, K, ?_, ?_, fF_tr fc (fF_sc sk), Fk⟩
    · rw [cf, if_pos c', e1, e2, some_bind]
    · rw [rf C Fc enc, if_pos ⟨⟨hst, c0⟩, c1, c2, c3⟩, g1, g2, some_bind]
  · refine QF_no F (v := iI (-2)) ?_ ?_
    · rw [cf, if_neg c]
    · rw [rf B F (fun _ => rfl), if_neg (fun w => c ⟨w.1.2, w.2⟩)]
end CHN
