/-! least, soonest: both answer alike -/
section SON
variable {E : Ev} {B C : Bk} {n d : Nat}
theorem P0_b {V : Vy} {i : Int} {S G L k c0 j c l s u m : Nat} (N : RN V i S G L k) (hc0 : scV V i = (c0 : Int)) (hj : (j : Int) ≤ V.1 4) (w : P0t V S G L c0 j c l s u m) : c < 64 ∧ l < k ∧ s ≤ S ∧ u ≤ G ∧ m = 0 := by
  obtain ⟨c0', hc0', c64, cok, hL⟩ := scV_b N
  have ec : c0' = c0 := by omega
  subst ec
  obtain ⟨hV, i0, eS, eG, eL, hn, hS, hG⟩ := N
  have b := Pt_PB (U := U0) (T := 1) hV hn (fun l c m _ _ h => h) (iP_PB cok hL (by omega)) hj c l s u m w
  have := cOK_64 b.1 hV.1.2 hV.2.1.2
  exact ⟨by omega, b.2.1, b.2.2.1, b.2.2.2.1, by have := b.2.2.2.2.1; omega⟩
theorem RN_u {V : Vy} {i : Int} {S G L k S' G' L' k' : Nat} (N : RN V i S G L k) (M : RN V i S' G' L' k') : S' = S ∧ G' = G ∧ L' = L ∧ k' = k := by
  obtain ⟨-, -, a1, a2, a3, a4, -⟩ := N
  obtain ⟨-, -, b1, b2, b3, b4, -⟩ := M
  omega
theorem CLV_at {V : Vy} {i : Int} {r S G L k c0 : Nat} (h : CLV B r V i) (N : RN V i S G L k) (hc0 : scV V i = (c0 : Int)) : CLI B r V S G L c0 (V.1 4).toNat := by
  obtain ⟨S', G', L', k', c0', a1, a2, a3⟩ := h
  obtain ⟨rfl, rfl, rfl, rfl⟩ := RN_u N a1
  rw [show c0' = c0 by omega] at a3
  exact a3
theorem laS_ls {V : Vy} {i : Int} {r S G L k c0 c l : Nat} {v : Int} (N : RN V i S G L k) (hc0 : scV V i = (c0 : Int)) (cl : CLI B r V S G L c0 (V.1 4).toNat) (hc : c < 64) (hl : l < 5) (t : laS B r (l : Int) c (V.1 4).toNat v) : lsP (fun s => ∃ h u, h < (V.1 4).toNat ∧ P0t V S G L c0 (h + 1) c l s u 0) (if v = 99 then -1 else v) := by
  have v4 := N.1.2.2.2.1
  have hS := N.2.2.2.2.2.2.1
  have tr : ∀ h s : Nat, h < (V.1 4).toNat → s < 10 → ((∃ u, P0t V S G L c0 (h + 1) c l s u 0) ↔ hiR B r (h : Int) (l : Int) c (s : Int) = true) := fun h s hh hs => by
    rw [cl h l s c (by omega) hl hs hc]
    exact ⟨fun w => ⟨hh, w⟩, fun w => w.2⟩
  rcases t with ⟨rfl, t2⟩ | ⟨f, rfl, f1, ⟨h, f2, f3⟩, f4⟩
  · rw [if_pos rfl]
    refine Or.inl ⟨rfl, fun s ⟨h, u, a1, a2⟩ => ?_⟩
    have b := P0_b N hc0 (by omega) a2
    have := (tr h s a1 (by omega)).mp ⟨u, a2⟩
    rw [t2 h a1 s (by omega)] at this
    cases this
  · rw [if_neg (by omega)]
    obtain ⟨u, w⟩ := (tr h f f2 f1).mpr f3
    refine Or.inr ⟨f, rfl, ⟨h, u, f2, w⟩, fun s' q ⟨h', u', a1, a2⟩ => ?_⟩
    have := (tr h' s' a1 (by omega)).mp ⟨u', a2⟩
    rw [f4 h' a1 s' q] at this
    cases this
theorem snS_ls {V : Vy} {i : Int} {r S G L k c0 c l : Nat} {v : Int} (N : RN V i S G L k) (hc0 : scV V i = (c0 : Int)) (cl : CLI B r V S G L c0 (V.1 4).toNat) (hc : c < 64) (hl : l < 5) (t : snS B r (l : Int) c (V.1 4).toNat v) : lsP (fun h => h < (V.1 4).toNat ∧ ∃ s u, P0t V S G L c0 (h + 1) c l s u 0) v := by
  have v4 := N.1.2.2.2.1
  have hS := N.2.2.2.2.2.2.1
  have tr : ∀ h s : Nat, h < (V.1 4).toNat → s < 10 → ((∃ u, P0t V S G L c0 (h + 1) c l s u 0) ↔ hiR B r (h : Int) (l : Int) c (s : Int) = true) := fun h s hh hs => by
    rw [cl h l s c (by omega) hl hs hc]
    exact ⟨fun w => ⟨hh, w⟩, fun w => w.2⟩
  rcases t with ⟨rfl, t2⟩ | ⟨h, rfl, f1, ⟨f, f2, f3⟩, f4⟩
  · refine Or.inl ⟨rfl, fun h ⟨a1, s, u, a2⟩ => ?_⟩
    have b := P0_b N hc0 (by omega) a2
    have := (tr h s a1 (by omega)).mp ⟨u, a2⟩
    rw [t2 h a1 s (by omega)] at this
    cases this
  · obtain ⟨u, w⟩ := (tr h f f1 f2).mpr f3
    refine Or.inr ⟨h, rfl, ⟨f1, f, u, w⟩, fun h' q ⟨a1, s, u', a2⟩ => ?_⟩
    have b := P0_b N hc0 (by omega) a2
    have := (tr h' s a1 (by omega)).mp ⟨u', a2⟩
    rw [f4 h' q s (by omega)] at this
    cases this
theorem mLP_neg {F : Nat} {P : StP} {c l : Nat} {r : Int} (h : mLP F P c l r) : (-1 ≤ r ∧ r ≤ (F : Int)) ∧ (r = -1 ↔ ∀ s u, ¬ P c l s u 0) := by
  refine ⟨mxP_b (mLP_mx h), ?_⟩
  rcases h with ⟨h1, h2⟩ | ⟨s, h1, h2, ⟨u, h3⟩, h4⟩
  · exact ⟨fun _ => h2, fun _ => h1⟩
  · exact ⟨fun w => by omega, fun w => absurd h3 (w s u)⟩
theorem m_soonestOf {V : Vy} {S G L k c0 x y l q : Nat} (rm : mKd E mo) (P0 : MP (plnM B) V) (N : RN V (q : Int) S G L k) (hc0 : scV V (q : Int) = (c0 : Int)) (x0 : (x : Int) < V.1 1) (y0 : (y : Int) < V.1 2) (l0 : (l : Int) < V.1 3) : ∃ r s' X', fX9_soonestOf (E.1 + mo) (iI (q : Int)) (iI (x : Int)) (iI (y : Int)) (iI (l : Int)) (St E B) = some (iI r, s') ∧ lsP (fun h => h < (V.1 4).toNat ∧ ∃ s u, P0t V S G L c0 (h + 1) (y * 8 + x) l s u 0) r ∧ ((r = -1 ∧ RfS E B V 0 S G (P0t V S G L c0 (V.1 4).toNat) X' s') ∨ ∃ e : Nat, r = (e : Int) ∧ RfS E B V 0 S G (P0t V S G L c0 (e + 1)) X' s') := by
  have N' := N
  obtain ⟨hV, i0, eS, eG, eL, hk, hS, hG⟩ := N'
  have v4 := hV.2.2.2.1
  obtain ⟨s1, X1, a1, a2⟩ := m_start0 rm P0 N hc0
  obtain ⟨z, e1, e2⟩ := iter_seek (F := fX9_soonestOf_l11 (E.1 + mo) (iI (x : Int)) (iI (y : Int)) (iI (l : Int))) (fun j a => ∃ s' X', a = (iI j, s') ∧ RfS E B V 0 S G (P0t V S G L c0 j.toNat) X' s') (fun j => ∃ s u, P0t V S G L c0 (j.toNat + 1) (y * 8 + x) l s u 0) (fun j r => ∃ s' X', r = Sum.inr (iI j, s') ∧ RfS E B V 0 S G (P0t V S G L c0 (j.toNat + 1)) X' s') (fun r => ∃ s' X', r = Sum.inl s' ∧ RfS E B V 0 S G (P0t V S G L c0 (V.1 4).toNat) X' s') 0 (V.1 4)
    (fun j a j0 j1 ha np => by
      obtain ⟨s', X', rfl, e2⟩ := ha
      obtain ⟨jn, rfl⟩ : ∃ jn : Nat, j = (jn : Int) := ⟨j.toNat, by omega⟩
      rw [Int.toNat_natCast] at *
      obtain ⟨h1, h2⟩ := m_hour3 rm e2
      obtain ⟨s2, X2, g1, g2⟩ := m_step0 rm hS hG j1 e2
      obtain ⟨s3, r3, g3, g4, g5⟩ := m_mL rm hS hG x0 y0 l0 g2
      have nb := mLP_neg g5
      refine ⟨(iI ((jn : Int) + 1), s3), ?_, s3, X2, rfl, by rw [show ((jn : Int) + 1).toNat = jn + 1 by omega]; exact g4⟩
      unfold fX9_soonestOf_l11
      dsimp only
      rw [h1, some_bind, h2, some_bind, if_neg (by rw [iI_le (by omega) (by omega) (by omega) (by omega)]; omega), g1, some_bind, g3, some_bind]
      dsimp only
      rw [if_pos (by rw [nb.2.mpr (fun s u w => np ⟨s, u, w⟩)]), iI_add])
    (fun j a j0 j1 ha np => by
      obtain ⟨s', X', rfl, e2⟩ := ha
      obtain ⟨jn, rfl⟩ : ∃ jn : Nat, j = (jn : Int) := ⟨j.toNat, by omega⟩
      rw [Int.toNat_natCast] at *
      obtain ⟨h1, h2⟩ := m_hour3 rm e2
      obtain ⟨s2, X2, g1, g2⟩ := m_step0 rm hS hG j1 e2
      obtain ⟨s3, r3, g3, g4, g5⟩ := m_mL rm hS hG x0 y0 l0 g2
      have nb := mLP_neg g5
      obtain ⟨t, u, w⟩ := np
      refine ⟨Sum.inr (iI (jn : Int), s3), ?_, s3, X2, rfl, g4⟩
      unfold fX9_soonestOf_l11
      dsimp only
      rw [h1, some_bind, h2, some_bind, if_neg (by rw [iI_le (by omega) (by omega) (by omega) (by omega)]; omega), g1, some_bind, g3, some_bind]
      dsimp only
      rw [if_neg (fun e => by rw [iI_eq (by omega) (by omega) (by omega) (by omega)] at e; exact nb.2.mp e t u w)])
    (fun a ha => by
      obtain ⟨s', X', rfl, e2⟩ := ha
      obtain ⟨h1, h2⟩ := m_hour3 rm e2
      refine ⟨Sum.inl s', ?_, s', X', rfl, e2⟩
      unfold fX9_soonestOf_l11
      dsimp only
      rw [h1, some_bind, h2, some_bind, if_pos (by rw [iI_le (by omega) (by omega) (by omega) (by omega)]; omega)])
    (by omega) (N := FU) (FU_big (by omega)) (a := (iI 0, s1)) ⟨s1, X1, rfl, a2⟩
  have hd : fX9_soonestOf (E.1 + mo) (iI (q : Int)) (iI (x : Int)) (iI (y : Int)) (iI (l : Int)) (St E B) = Sum.elim (fun r8a => some ((iI (-1)), r8a)) (fun r8b => some (r8b.1, r8b.2)) z := by
    unfold fX9_soonestOf
    rw [c9 rm.1, some_bind, a1, some_bind, e1, some_bind]
  rcases e2 with ⟨j, j0, j1, ⟨s, u, w⟩, np, s', X', rfl, e3⟩ | ⟨np, s', X', rfl, e3⟩
  · obtain ⟨jn, rfl⟩ : ∃ jn : Nat, j = (jn : Int) := ⟨j.toNat, by omega⟩
    rw [Int.toNat_natCast] at *
    refine ⟨(jn : Int), s', X', hd, Or.inr ⟨jn, rfl, ⟨by omega, s, u, w⟩, fun h' q' ⟨a1, s2, u2, a2⟩ => np (h' : Int) (by omega) (by omega) ⟨s2, u2, by rw [Int.toNat_natCast]; exact a2⟩⟩, Or.inr ⟨jn, rfl, e3⟩⟩
  · exact ⟨-1, s', X', hd, Or.inl ⟨rfl, fun h ⟨a1, s, u, w⟩ => np (h : Int) (by omega) (by omega) ⟨s, u, by rw [Int.toNat_natCast]; exact w⟩⟩, Or.inl ⟨rfl, e3⟩⟩
theorem RfS_end {V : Vy} {cnt F G : Nat} {P : StP} {X : Bk} {s : Hp} (R : RfS E B V cnt F G P X s) : ∃ D, s = St E D ∧ sc B D := by
  obtain ⟨x, y, l, f, g, m, u, v, rfl⟩ := R.1
  exact ⟨_, rfl, sc_tr R.2.1 frW_sc⟩
theorem QM_no {α : Type} {f g : Hp → Option (α × Hp)} {v : α} (Q : RQ E B n d) (hf : f (St E B) = some (v, St E B)) (hg : g (St E B) = some (v, St E (wI B mo 0 0))) : QM E B n d f g := ⟨v, B, _, hf, hg, ltF_rfl, sc_I (by unfold msv; omega), Q⟩
theorem lt_num {C : Bk} {j : Nat} (h : ltF d B C) (hn : n < 50) (hd : 84 ≤ d) : C.1 n j = B.1 n j := by rw [h.1 n (by omega)]
theorem o_least {s x y l : Int} (Q : RQ E B n d) (hs : i32 s) (hx : i32 x) (hy : i32 y) (hl : i32 l) : QM E B n d (fX8_least (E.1 + co) (iI s) (iI x) (iI y) (iI l)) (fX9_least (E.1 + mo) (iI s) (iI x) (iI y) (iI l)) := by
  have Q' := Q
  obtain ⟨R, ⟨hn, hd⟩, -⟩ := Q'
  have R' := R
  obtain ⟨⟨rc, rn, rk, rm⟩, rw1, -⟩ := R'
  obtain ⟨w0, w1, w2, w3, w4, -, -, -, w8, -⟩ := rw1
  by_cases gd : (0 ≤ s ∧ s < B.1 n 8) ∧ ((0 ≤ x ∧ x < B.1 n 1) ∧ (0 ≤ y ∧ y < B.1 n 2)) ∧ (0 ≤ l ∧ l < B.1 n 3)
  · obtain ⟨⟨s0, s1⟩, ⟨⟨x0, x1⟩, y0, y1⟩, l0, l1⟩ := gd
    obtain ⟨q, rfl⟩ : ∃ q : Nat, s = (q : Int) := ⟨s.toNat, by omega⟩
    obtain ⟨x, rfl⟩ : ∃ xN : Nat, x = (xN : Int) := ⟨x.toNat, by omega⟩
    obtain ⟨y, rfl⟩ : ∃ yN : Nat, y = (yN : Int) := ⟨y.toNat, by omega⟩
    obtain ⟨l, rfl⟩ : ∃ lN : Nat, l = (lN : Int) := ⟨l.toNat, by omega⟩
    have hst : 0 < B.1 n 0 := by
      have := R.2.2.2.2.2.1
      by_cases c : B.1 n 0 = 0
      · have := (this c).1
        omega
      · omega
    obtain ⟨S, G, L, k, c0, N, hc0, h4⟩ := rv_RN R hst s1
    have N' := N
    obtain ⟨hV, i0, eS, eG, eL, hk, hS, hG⟩ := N'
    have eL' : B.2.2.2.1 (n + 2) ((q : Int) * 6 + 2) = (L : Int) := eL
    have hk' : B.1 n 3 = (k : Int) := hk
    have cc : B.2.2.2.1 (n + 2) ((q : Int) * 6 + 1) * 8 + B.2.2.2.1 (n + 2) ((q : Int) * 6) = (c0 : Int) := by
      rw [← hc0]
      show _ = B.2.2.2.1 (n + 2) ((q : Int) * 6 + 1) * 8 + B.2.2.2.1 (n + 2) ((q : Int) * 6 + 0)
      rw [Int.add_zero]
    have c64 := (scV_b N)
    obtain ⟨c0', c1', c2', -, c4'⟩ := c64
    have hd1 : fX8_least (E.1 + co) (iI (q : Int)) (iI (x : Int)) (iI (y : Int)) (iI (l : Int)) (St E B) = if c0 = y * 8 + x ∧ L = l then some (iI 0, St E B) else fX8_least_b51 (E.1 + co) (iI (q : Int)) (iI (l : Int)) (iI ((y : Int) * 8 + (x : Int))) (St E B) := by
      unfold fX8_least
      rw [c8 rc, some_bind, s8_hasShopCell R hs hx hy hl, some_bind]
      dsimp only
      rw [if_neg (fun w => (bI_0.mp w) ⟨⟨s0, s1⟩, ⟨⟨x0, x1⟩, y0, y1⟩, l0, l1⟩), s_columnOf, some_bind]
      dsimp only
      rw [g8_7 rc rn, some_bind, s_shopColumn rk (by omega) (by omega), some_bind, cc]
      dsimp only
      rw [g8_7 rc rn, some_bind, s_shopFact rk (by omega) (by omega) (by omega) (by omega), some_bind, eL']
      dsimp only
      by_cases e1 : c0 = y * 8 + x
      · rw [if_pos (by rw [iI_eq (by omega) (by omega) (by omega) (by omega)]; omega)]
        by_cases e2 : L = l
        · rw [if_pos (by rw [e2]), if_pos ⟨e1, e2⟩]
        · rw [if_neg (fun w => by rw [iI_eq (by omega) (by omega) (by omega) (by omega)] at w; omega), if_neg (fun w => e2 w.2)]
      · rw [if_neg (fun w => by rw [iI_eq (by omega) (by omega) (by omega) (by omega)] at w; omega), if_neg (fun w => e1 w.1)]
    by_cases e : c0 = y * 8 + x ∧ L = l
    · obtain ⟨r, D, g1, g2, g3⟩ := m_least (x := x) (y := y) (l := l) R hn hst N hc0 x1 y1 l1
      have r0 : r = 0 := lsP_u g3 (Or.inr ⟨0, rfl, ⟨0, 0, by omega, e.1.symm, e.2.symm, rfl, rfl, rfl⟩, fun s' h => by omega⟩)
      rw [r0] at g1
      exact ⟨iI 0, B, D, by rw [hd1, if_pos e], g1, ltF_rfl, g2, Q⟩
    · obtain ⟨C, f1, f2, f3, f4, -⟩ := s8_reachOf Q hst s1
      have evC : vyN C n = vyN B n := ltF_vy f2 (by omega)
      have Rc := f3.1
      have en : ∀ j, C.1 n j = B.1 n j := fun j => by rw [f2.1 n (by omega)]
      have KR := f3.2.2.2.2.1.2.2 q h4
      obtain ⟨v, a1, a2⟩ := s2_leastOfAll (E := E) (B := C) (d := d + 7 + 4 * q) (l := (l : Int)) (c := y * 8 + x) (n := (B.1 n 4).toNat) KR.1 KR.2.1 (by omega) (by omega) (by omega)
      have cl := CLV_at f4 N hc0
      have l1' := laS_ls N hc0 cl (show y * 8 + x < 64 by omega) (show l < 5 by omega) a2
      have NC := N
      rw [← evC] at NC
      obtain ⟨r, D, g1, g2, g3⟩ := m_least (x := x) (y := y) (l := l) Rc hn (by rw [en]; exact hst) NC (by rw [evC]; exact hc0) (by rw [en]; exact x1) (by rw [en]; exact y1) (by rw [en]; exact l1)
      rw [evC] at g3
      have er : r = if v = 99 then -1 else v := lsP_u g3 (lsP_iff (fun t => by
        constructor
        · rintro ⟨h, u, b1, b2⟩
          exact ⟨h + 1, u, by omega, b2⟩
        · rintro ⟨h, u, b1, b2⟩
          cases h with
          | zero => exact absurd ⟨b2.1.symm, b2.2.1.symm⟩ e
          | succ h => exact ⟨h, u, by omega, b2⟩) l1')
      refine ⟨iI r, C, D, ?_, g1, f2, g2, f3⟩
      rw [hd1, if_neg e, er]
      unfold fX8_least_b51
      have b8 : fX8_bitOf (iI ((y : Int) * 8 + (x : Int))) (St E C) = some (lsh 1 (iI ((y * 8 + x : Nat) : Int)), St E C) := by
        rw [s8_bitO, show (y : Int) * 8 + (x : Int) = ((y * 8 + x : Nat) : Int) by omega]
      have h4' : C.1 n 4 = (((B.1 n 4).toNat : Nat) : Int) := by rw [en]; omega
      rw [f1, some_bind]
      dsimp only
      rw [g8_7 rc Rc.1.2.1, some_bind, g6_4 rk.1, some_bind, b8, some_bind, h4']
      dsimp only
      rw [a1, some_bind]
  · refine QM_no Q (v := iI (-2)) ?_ ?_
    · unfold fX8_least
      rw [c8 rc, some_bind, s8_hasShopCell R hs hx hy hl, some_bind]
      dsimp only
      rw [if_pos (bI_0.mpr gd)]
    · simp only [fX9_least, fX9_least_b24, c9 rm.1, p9_0 rm.1, some_bind, rg_isShop R hn hs, rg_isCell R hn hx hy hl, iI_0, ib]
      by_cases c1 : 0 ≤ s ∧ s < B.1 n 8
      · rw [if_pos c1, if_neg (fun w => gd ⟨c1, w⟩)]
      · rw [if_neg c1]
theorem RV_hst (R : RV E B n) (h : 0 < B.1 n 8 ∨ 0 < B.1 n 1 ∨ 0 < B.1 n 4) : 0 < B.1 n 0 := by
  have w0 := R.2.1.1
  have := R.2.2.2.2.2.1
  by_cases c : B.1 n 0 = 0
  · have := this c
    omega
  · omega
theorem o_soonest {s x y l : Int} (Q : RQ E B n d) (hs : i32 s) (hx : i32 x) (hy : i32 y) (hl : i32 l) : QM E B n d (fX8_soonest (E.1 + co) (iI s) (iI x) (iI y) (iI l)) (fX9_soonest (E.1 + mo) (iI s) (iI x) (iI y) (iI l)) := by
  have Q' := Q
  obtain ⟨R, ⟨hn, hd⟩, -⟩ := Q'
  have R' := R
  obtain ⟨⟨rc, rn, rk, rm⟩, rw1, -⟩ := R'
  obtain ⟨w0, w1, w2, w3, w4, -, -, -, w8, -⟩ := rw1
  by_cases gd : (0 ≤ s ∧ s < B.1 n 8) ∧ ((0 ≤ x ∧ x < B.1 n 1) ∧ (0 ≤ y ∧ y < B.1 n 2)) ∧ (0 ≤ l ∧ l < B.1 n 3)
  · obtain ⟨⟨s0, s1⟩, ⟨⟨x0, x1⟩, y0, y1⟩, l0, l1⟩ := gd
    obtain ⟨q, rfl⟩ : ∃ q : Nat, s = (q : Int) := ⟨s.toNat, by omega⟩
    obtain ⟨x, rfl⟩ : ∃ xN : Nat, x = (xN : Int) := ⟨x.toNat, by omega⟩
    obtain ⟨y, rfl⟩ : ∃ yN : Nat, y = (yN : Int) := ⟨y.toNat, by omega⟩
    obtain ⟨l, rfl⟩ : ∃ lN : Nat, l = (lN : Int) := ⟨l.toNat, by omega⟩
    have hst : 0 < B.1 n 0 := RV_hst R (Or.inl (by omega))
    obtain ⟨S, G, L, k, c0, N, hc0, h4⟩ := rv_RN R hst s1
    obtain ⟨C, f1, f2, f3, f4, -⟩ := s8_reachOf Q hst s1
    have evC : vyN C n = vyN B n := ltF_vy f2 (by omega)
    have Rc := f3.1
    have en : ∀ j, C.1 n j = B.1 n j := fun j => by rw [f2.1 n (by omega)]
    have KR := f3.2.2.2.2.1.2.2 q h4
    obtain ⟨v, a1, a2⟩ := s2_soonestOf (E := E) (B := C) (d := d + 7 + 4 * q) (l := (l : Int)) (c := y * 8 + x) (n := (B.1 n 4).toNat) KR.1 KR.2.1 (by omega) (by omega) (by omega)
    have cl := CLV_at f4 N hc0
    have l1' := snS_ls N hc0 cl (show y * 8 + x < 64 by omega) (show l < 5 by omega) a2
    have R0 := rv_0 Rc (show n < 58 by omega)
    have ev0 : vyN (wI C mo 0 0) n = vyN C n := vyN_eq (fun j => w0n (by omega) j) (fun _ _ _ _ => rfl)
    have P0 := MP_rv R0 hn (by rw [w0n (by omega), en]; exact hst)
    rw [ev0, evC] at P0
    obtain ⟨r, s', X', g1, g2, g3⟩ := m_soonestOf (x := x) (y := y) (l := l) rm P0 N hc0 x1 y1 l1
    have er : r = v := lsP_u g2 l1'
    have hD : ∃ D, s' = St E D ∧ sc (wI C mo 0 0) D := by
      rcases g3 with ⟨-, g3⟩ | ⟨e, -, g3⟩
      · exact RfS_end g3
      · exact RfS_end g3
    obtain ⟨D, rfl, sD⟩ := hD
    refine ⟨iI v, C, D, ?_, ?_, f2, sc_tr (sc_I (by unfold msv; omega)) sD, f3⟩
    · have b8 : fX8_bitOf (iI ((y : Int) * 8 + (x : Int))) (St E C) = some (lsh 1 (iI ((y * 8 + x : Nat) : Int)), St E C) := by
        rw [s8_bitO, show (y : Int) * 8 + (x : Int) = ((y * 8 + x : Nat) : Int) by omega]
      have h4' : C.1 n 4 = (((B.1 n 4).toNat : Nat) : Int) := by rw [en]; omega
      unfold fX8_soonest
      rw [c8 rc, some_bind, s8_hasShopCell R hs hx hy hl, some_bind]
      dsimp only
      rw [if_neg (fun w => (bI_0.mp w) ⟨⟨s0, s1⟩, ⟨⟨x0, x1⟩, y0, y1⟩, l0, l1⟩), f1, some_bind]
      dsimp only
      rw [g8_7 rc Rc.1.2.1, some_bind, g6_4 rk.1, some_bind, s_columnOf, some_bind]
      dsimp only
      rw [b8, some_bind, h4']
      dsimp only
      rw [a1, some_bind]
    · unfold fX9_soonest
      rw [c9 rm.1, some_bind, p9_0 rm.1, some_bind, rg_isShop Rc hn hs, some_bind]
      dsimp only
      rw [if_neg (fun w => (bI_0.mp w) ⟨s0, by rw [en]; exact s1⟩), rg_isCell Rc hn hx hy hl, some_bind]
      dsimp only
      rw [if_neg (fun w => (bI_0.mp w) ⟨⟨⟨x0, by rw [en]; exact x1⟩, y0, by rw [en]; exact y1⟩, l0, by rw [en]; exact l1⟩), g1, some_bind, er]
  · refine QM_no Q (v := iI (-2)) ?_ ?_
    · unfold fX8_soonest
      rw [c8 rc, some_bind, s8_hasShopCell R hs hx hy hl, some_bind]
      dsimp only
      rw [if_pos (bI_0.mpr gd)]
    · simp only [fX9_soonest, fX9_soonest_b36, c9 rm.1, p9_0 rm.1, some_bind, rg_isShop R hn hs, rg_isCell R hn hx hy hl, iI_0, ib]
      by_cases c1 : 0 ≤ s ∧ s < B.1 n 8
      · rw [if_pos c1, if_neg (fun w => gd ⟨c1, w⟩)]
      · rw [if_neg c1]
end SON
