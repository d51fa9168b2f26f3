/-! way: the reference's answer; both answer alike -/
section WYO
variable {E : Ev} {B X : Bk} {V : Vy} {S G n k e x y l sd c0 L d : Nat}
theorem WR_gd {a : Int} {h c l c1 l1 s1 u1 : Nat} (hh : h ≤ e) (ld : Ld V S G e c l sd h c1 l1 s1 u1) (w : WR V S G e c l sd h a c1 l1 s1 u1) : gdA V S G e c l sd h a c1 l1 s1 u1 ∧ 0 ≤ a ∧ a ≤ 2 := by
  rcases w with ⟨rfl, w1⟩ | ⟨rfl, w1, w2⟩ | ⟨rfl, w1, w2⟩
  · exact ⟨w1, by omega, by omega⟩
  · exact ⟨w2, by omega, by omega⟩
  · refine ⟨?_, by omega, by omega⟩
    obtain ⟨a, g⟩ := (Ld_step hh).mp ld
    have g' := g
    obtain ⟨_, _, _, _, ⟨ok, -⟩, -⟩ := g'
    rcases ok with rfl | ⟨rfl, -⟩ | ⟨rfl, -⟩
    · exact absurd g w1
    · exact absurd g w2
    · exact g
theorem m_wayRun {hr : Nat} {s : Hp} {a0 : Int} (rm : mKd E mo) (hS : S ≤ 9) (hG : G ≤ 9) (bX : RfB B V X) (an : anyF E X s) (he : (e : Int) < V.1 4) (hh : hr ≤ e) (x0 : (x : Int) < V.1 1) (y0 : (y : Int) < V.1 2) (l0 : (l : Int) < V.1 3) (sn : snE V S G L c0 (y * 8 + x) l e sd) (po : ∀ {j c l s u m : Nat}, (j : Int) ≤ V.1 4 → Pt V S G U0 0 (iP c0 L 0) j c l s u m → tOK V (c : Int) (l : Int) ((S : Int) - (s : Int)) ((G : Int) - (u : Int)) 0) (sS : sd ≤ S) : ∃ (a : Int) (s' : Hp) (X' : Bk), iter (fX9_way_l96 (E.1 + mo) (iI (x : Int)) (iI (y : Int)) (iI (l : Int)) (iI (hr : Int)) (iI (e : Int)) (iI ((S : Int) - (sd : Int)))) FU (iI (cdC (c0 : Int) (L : Int) (S : Int) (G : Int) 0), iI a0, iI 0, s) = some (iI a, s') ∧ anyF E X' s' ∧ RfB B V X' ∧ ∃ c1 l1 s1 u1, Wk V S G e (y * 8 + x) l sd c0 L hr c1 l1 s1 u1 ∧ WR V S G e (y * 8 + x) l sd hr a c1 l1 s1 u1 := by
  have hV := bX.2.1.2.1
  have v1 := hV.1
  have v2 := hV.2.1
  have v4 := hV.2.2.2.1
  obtain ⟨⟨us, ps⟩, sn2, sn3⟩ := sn
  obtain ⟨z, e1, a, s', X', rfl, e2, e3, e4⟩ := iter_acc (F := fX9_way_l96 (E.1 + mo) (iI (x : Int)) (iI (y : Int)) (iI (l : Int)) (iI (hr : Int)) (iI (e : Int)) (iI ((S : Int) - (sd : Int)))) (fun j b => ∃ (c1 l1 s1 u1 : Nat) (a : Int) (s' : Hp) (X' : Bk), b = (iI (cdC (c1 : Int) (l1 : Int) ((S : Int) - (s1 : Int)) ((G : Int) - (u1 : Int)) 0), iI a, iI (j : Int), s') ∧ anyF E X' s' ∧ RfB B V X' ∧ (Wk V S G e (y * 8 + x) l sd c0 L j c1 l1 s1 u1 ∧ Pt V S G U0 0 (iP c0 L 0) j c1 l1 s1 u1 0 ∧ Ld V S G e (y * 8 + x) l sd j c1 l1 s1 u1) ∧ (0 < j → ∃ c1 l1 s1 u1, Wk V S G e (y * 8 + x) l sd c0 L (j - 1) c1 l1 s1 u1 ∧ WR V S G e (y * 8 + x) l sd (j - 1) a c1 l1 s1 u1)) (hr + 1) (fun b => ∃ (a : Int) (s' : Hp) (X' : Bk), b = (iI a, s') ∧ anyF E X' s' ∧ RfB B V X' ∧ ∃ c1 l1 s1 u1, Wk V S G e (y * 8 + x) l sd c0 L hr c1 l1 s1 u1 ∧ WR V S G e (y * 8 + x) l sd hr a c1 l1 s1 u1)
    (fun j b hj hb => by
      obtain ⟨c1, l1, s1, u1, a, s', X', rfl, an', b', ⟨w1, w2, w3⟩, w4⟩ := hb
      have t := po (by omega) w2
      obtain ⟨a2, s2, X2, g1, g2, g3, g4⟩ := m_actOf (h := j) rm hS hG b' an' he (by omega) x0 y0 l0 sS t (fun s' u' p => by
        have := Pt_comp w2 _ _ _ _ _ _ p
        rw [show j + (e + 1 - j) = e + 1 by omega] at this
        have q : ¬ s' < sd := fun q => sn3 s' q u' this
        omega)
      obtain ⟨gd, a20, a22⟩ := WR_gd (by omega) w3 g4
      obtain ⟨c2, l2, s3, u2, nx, ld2⟩ := gd
      have nx' := nx
      obtain ⟨ok, n1, n2, n3, n4⟩ := nx'
      obtain ⟨x', y', l', f', g', m', u, v, rfl⟩ := g2
      have td := tOK_d hV t
      have t' := t
      obtain ⟨⟨q0, q1, q2⟩, t2, t3, t4, t5⟩ := t'
      have rd := m_readsC (B := X2) (x := x') (y := y') (l := l') (f := f') (g := g') (m := m') (u := u) (v := v) rm td
      have cde : cdW ((c1 : Int) % 8) ((c1 : Int) / 8) (l1 : Int) ((S : Int) - (s1 : Int)) ((G : Int) - (u1 : Int)) ((0 : Nat) : Int) = cdC (c1 : Int) (l1 : Int) ((S : Int) - (s1 : Int)) ((G : Int) - (u1 : Int)) 0 := rfl
      rw [cde] at rd
      have ac := (m_actsF (m := ((0 : Nat) : Int)) (u := u) (v := v) (a := a2) (h := (j : Int)) (x := (c1 : Int) % 8) (y := (c1 : Int) / 8) (l := (l1 : Int)) (f := (S : Int) - (s1 : Int)) (g := (G : Int) - (u1 : Int)) rm g3.2.1 a20 a22 (by omega) (by omega) t2 (by omega) (by omega) (by omega)).1 ok
      rw [show (c1 : Int) / 8 * 8 + (c1 : Int) % 8 = (c1 : Int) by omega, ← n1, ← n2, fs_s n3, gs_u n4] at ac
      refine ⟨(iI (cdC (c2 : Int) (l2 : Int) ((S : Int) - (s3 : Int)) ((G : Int) - (u2 : Int)) 0), iI a2, iI ((j + 1 : Nat) : Int), St E (frW X2 ((c2 : Int) % 8) ((c2 : Int) / 8) (l2 : Int) ((S : Int) - (s3 : Int)) ((G : Int) - (u2 : Int)) ((0 : Nat) : Int) ((c2 : Int) % 8) ((c2 : Int) / 8))), ?_, c2, l2, s3, u2, a2, _, X2, rfl, ⟨_, _, _, _, _, _, _, _, rfl⟩, g3, ⟨⟨c1, l1, s1, u1, a2, w1, g4, nx⟩, Pt_n1 nx w2, ld2⟩, fun _ => ⟨c1, l1, s1, u1, w1, g4⟩⟩
      unfold fX9_way_l96 lt_
      dsimp only
      rw [if_neg (by rw [iI_lt (by omega) (by omega) (by omega) (by omega)]; omega), g1, some_bind]
      dsimp only
      rw [rd, some_bind, ac, some_bind]
      dsimp only
      rw [m_stateF rm, some_bind]
      dsimp only
      rw [iI_mul, iI_add]
      have ce : 32 * (((((c2 : Int) % 8 * 8 + (c2 : Int) / 8) * 5 + (l2 : Int)) * 10 + ((S : Int) - (s3 : Int))) * 10 + ((G : Int) - (u2 : Int))) = cdC (c2 : Int) (l2 : Int) ((S : Int) - (s3 : Int)) ((G : Int) - (u2 : Int)) 0 := by
        unfold cdC cdW
        omega
      rw [ce]
      rfl)
    (fun b hb => by
      obtain ⟨c1, l1, s1, u1, a, s', X', rfl, an', b', -, w4⟩ := hb
      refine ⟨(iI a, s'), ?_, a, s', X', rfl, an', b', w4 (by omega)⟩
      unfold fX9_way_l96
      dsimp only
      rw [if_pos (by rw [iI_lt (by omega) (by omega) (by omega) (by omega)]; omega)]) (N := FU) (by show hr + 1 < 1000000; omega) (a := (iI (cdC (c0 : Int) (L : Int) (S : Int) (G : Int) 0), iI a0, iI 0, s)) ⟨c0, L, 0, 0, a0, s, X, by rw [show (S : Int) - ((0 : Nat) : Int) = (S : Int) by omega, show (G : Int) - ((0 : Nat) : Int) = (G : Int) by omega]; rfl, an, bX, ⟨⟨rfl, rfl, rfl, rfl⟩, ⟨rfl, rfl, rfl, rfl, rfl⟩, ⟨us, ps⟩⟩, fun q => by omega⟩
  exact ⟨a, s', X', e1, e2, e3, e4⟩
theorem m_way {q hr : Nat} (R : RV E B n) (hn : n < 50) (hst : 0 < B.1 n 0) (N : RN (vyN B n) (q : Int) S G L k) (hc0 : scV (vyN B n) (q : Int) = (c0 : Int)) (x0 : (x : Int) < B.1 n 1) (y0 : (y : Int) < B.1 n 2) (l0 : (l : Int) < B.1 n 3) (hh : (hr : Int) < B.1 n 4) : ∃ (v : Int) (D : Bk), ((fX9_soonestOf (E.1 + mo) (iI (q : Int)) (iI (x : Int)) (iI (y : Int)) (iI (l : Int)) (St E B)).bind fun r8 => if r8.1 = (iI (-1)) then (fX9_way_b61 r8.2) else (if iI (hr : Int) ≤ r8.1 then ((fX9_mostLeft (E.1 + mo) (iI (x : Int)) (iI (y : Int)) (iI (l : Int)) r8.2).bind fun r11 => (fX9_starts (E.1 + mo) (iI (q : Int)) (iI 9) (iI 0) r11.2).bind fun s12 => (fX9_state (E.1 + mo) s12).bind fun r13 => lt_ ((iI 32) * r13.1) fun z14 => (iter (fX9_way_l96 (E.1 + mo) (iI (x : Int)) (iI (y : Int)) (iI (l : Int)) (iI (hr : Int)) r8.1 r11.1) FU (z14, (iI (-1)), (iI 0), r13.2)).bind fun r21 => some (r21.1, r21.2)) else (fX9_way_b61 r8.2))) = some (iI v, St E D) ∧ sc B D ∧ wyS (vyN B n) S G L c0 (y * 8 + x) l hr v := by
  have rm := R.1.2.2.2
  have P0 := MP_rv R hn hst
  obtain ⟨c0', hc0', c64, cok, hL⟩ := scV_b N
  have ec : c0' = c0 := by omega
  subst ec
  have N' := N
  obtain ⟨hV, i0, eS, eG, eL, hk, hS, hG⟩ := N'
  have v1 := hV.1
  have v2 := hV.2.1
  have v4 := hV.2.2.2.1
  have v4' : (vyN B n).1 4 = B.1 n 4 := rfl
  obtain ⟨r, s', X', g1, g2, g3⟩ := m_soonestOf (x := x) (y := y) (l := l) rm P0 N hc0 x0 y0 l0
  rw [g1, some_bind]
  dsimp only
  rcases g3 with ⟨rfl, g3⟩ | ⟨e, rfl, g3⟩
  · obtain ⟨D, rfl, sD⟩ := RfS_end g3
    rw [if_pos rfl]
    refine ⟨-1, D, rfl, sD, Or.inl ⟨rfl, fun h hh' s u w => ?_⟩⟩
    rcases g2 with ⟨-, g2⟩ | ⟨j, g2, -⟩
    · exact g2 h ⟨by omega, s, u, w⟩
    · omega
  · rcases g2 with ⟨g2, -⟩ | ⟨j, g2, ⟨j1, s0, u0, w0⟩, j3⟩
    · omega
    have ej : j = e := by omega
    subst ej
    obtain ⟨s2, r2, a1, a2, a3⟩ := m_mL rm hS hG x0 y0 l0 g3
    rcases a3 with ⟨-, a3⟩ | ⟨sd, rfl, b2, ⟨um, b3⟩, b4⟩
    · exact absurd w0 (a3 s0 u0)
    have sn : snE (vyN B n) S G L c0' (y * 8 + x) l j sd := ⟨⟨um, b3⟩, fun h hh' s u w => j3 h hh' ⟨by omega, s, u, w⟩, fun s hs u w => b4 s hs u w⟩
    rw [if_neg (fun z => by have := (iI_eq (by omega) (by omega) (by omega) (by omega)).mp z; omega)]
    by_cases q1 : hr ≤ j
    · rw [if_pos (by rw [iI_le (by omega) (by omega) (by omega) (by omega)]; omega), a1, some_bind]
      dsimp only
      obtain ⟨D, rfl, sD⟩ := RfS_end a2
      have RD := sc_rv sD hn R
      have enD : ∀ i, D.1 n i = B.1 n i := fun i => sD.1 n i (fun z => by
        have : n = 58 := z
        omega)
      have evD : vyN D n = vyN B n := vyN_eq enD (fun kk z z1 z2 => sD.2.2.2.1 kk z (by
        have hm : mo = 58 := rfl
        unfold mscr
        omega))
      have P1 := MP_rv RD hn (by rw [enD]; exact hst)
      rw [evD] at P1
      obtain ⟨u, v, run, rf⟩ := m_startPX (t := 9) (cnt := 0) rm P1 (by omega) N hc0 (by omega)
      rw [show min 9 S = S by omega] at run rf
      have run' : fX9_starts (E.1 + mo) (iI (q : Int)) (iI 9) (iI 0) (St E D) = some (St E (frW (stX D (vyN B n) 0 (q : Int) ((9 : Nat) : Int)) ((vyN B n).2.2.1 (q : Int) 0) ((vyN B n).2.2.1 (q : Int) 1) (L : Int) (S : Int) (G : Int) (mkU (vyN B n) 0 L c0' 0 : Int) u v)) := run
      have rr := rf (St E (frW (stX D (vyN B n) 0 (q : Int) ((9 : Nat) : Int)) ((vyN B n).2.2.1 (q : Int) 0) ((vyN B n).2.2.1 (q : Int) 1) (L : Int) (S : Int) (G : Int) (mkU (vyN B n) 0 L c0' 0 : Int) u v)) ⟨_, _, _, _, _, _, _, _, rfl⟩
      have sb := hV.2.2.2.2.2.2.2.2.2.2.1 (q : Int) i0.1 i0.2
      have es : (vyN B n).2.2.1 (q : Int) 1 * 8 + (vyN B n).2.2.1 (q : Int) 0 = (c0' : Int) := hc0
      have ce : 32 * (((((vyN B n).2.2.1 (q : Int) 0 * 8 + (vyN B n).2.2.1 (q : Int) 1) * 5 + (L : Int)) * 10 + (S : Int)) * 10 + (G : Int)) = cdC (c0' : Int) (L : Int) (S : Int) (G : Int) 0 := by
        unfold cdC cdW
        rw [← es, show ((vyN B n).2.2.1 (q : Int) 1 * 8 + (vyN B n).2.2.1 (q : Int) 0) % 8 = (vyN B n).2.2.1 (q : Int) 0 by omega, show ((vyN B n).2.2.1 (q : Int) 1 * 8 + (vyN B n).2.2.1 (q : Int) 0) / 8 = (vyN B n).2.2.1 (q : Int) 1 by omega]
        omega
      obtain ⟨a, s5, X5, f1, f2, f3, f4⟩ := m_wayRun (hr := hr) (a0 := -1) (s := St E (frW (stX D (vyN B n) 0 (q : Int) ((9 : Nat) : Int)) ((vyN B n).2.2.1 (q : Int) 0) ((vyN B n).2.2.1 (q : Int) 1) (L : Int) (S : Int) (G : Int) (mkU (vyN B n) 0 L c0' 0 : Int) u v)) rm hS hG (RfS_B rr) ⟨_, _, _, _, _, _, _, _, rfl⟩ (by omega) q1 x0 y0 l0 sn (fun hj w => PB_t hk hS hG (Pt_PB (U := U0) (T := 1) hV hk (fun l c m _ _ h => h) (iP_PB (S := S) (G := G) cok hL (by omega)) hj) w) b2
      obtain ⟨x', y', l', f', g', m', u', v', rfl⟩ := f2
      refine ⟨a, frW X5 x' y' l' f' g' m' u' v', ?_, sc_tr sD (sc_tr f3.1 frW_sc), Or.inr ⟨j, sd, by omega, sn, Or.inr ⟨q1, f4⟩⟩⟩
      rw [run', some_bind, m_stateF rm, some_bind]
      unfold lt_
      dsimp only
      rw [iI_mul, ce, f1, some_bind]
    · rw [if_neg (by rw [iI_le (by omega) (by omega) (by omega) (by omega)]; omega)]
      obtain ⟨D, rfl, sD⟩ := RfS_end g3
      exact ⟨-1, D, rfl, sD, Or.inr ⟨j, sd, by omega, sn, Or.inl ⟨by omega, rfl⟩⟩⟩
theorem o_way {s x y l h : Int} (Q : RQ E B n d) (hs : i32 s) (hx : i32 x) (hy : i32 y) (hl : i32 l) (hh : i32 h) : QM E B n d (fX8_way (E.1 + co) (iI s) (iI x) (iI y) (iI l) (iI h)) (fX9_way (E.1 + mo) (iI s) (iI x) (iI y) (iI l) (iI h)) := by
  have Q' := Q
  obtain ⟨R, ⟨hn, hd⟩, er, q9, K, -⟩ := Q'
  have R' := R
  obtain ⟨⟨rc, rn, rk, rm⟩, rw1, -⟩ := R'
  have rw2' := rw1
  obtain ⟨w0, w1, w2, w3, w4, -, -, -, w8, -⟩ := rw2'
  by_cases gd : (0 ≤ s ∧ s < B.1 n 8) ∧ ((0 ≤ x ∧ x < B.1 n 1) ∧ (0 ≤ y ∧ y < B.1 n 2)) ∧ (0 ≤ l ∧ l < B.1 n 3)
  · by_cases gh : 0 ≤ h ∧ h < B.1 n 4
    · have gd' := gd
      obtain ⟨⟨s0, s1⟩, ⟨⟨x0, x1⟩, y0, y1⟩, l0, l1⟩ := gd'
      obtain ⟨h0, h1⟩ := gh
      obtain ⟨q, rfl⟩ : ∃ q : Nat, s = (q : Int) := ⟨s.toNat, by omega⟩
      obtain ⟨x, rfl⟩ : ∃ xN : Nat, x = (xN : Int) := ⟨x.toNat, by omega⟩
      obtain ⟨y, rfl⟩ : ∃ yN : Nat, y = (yN : Int) := ⟨y.toNat, by omega⟩
      obtain ⟨l, rfl⟩ : ∃ lN : Nat, l = (lN : Int) := ⟨l.toNat, by omega⟩
      obtain ⟨h, rfl⟩ : ∃ hN : Nat, h = (hN : Int) := ⟨h.toNat, by omega⟩
      have hst : 0 < B.1 n 0 := RV_hst R (Or.inl (by omega))
      obtain ⟨S, G, L, k, c0, N, hc0, h4⟩ := rv_RN R hst s1
      have hk : B.1 n 3 = (k : Int) := N.2.2.2.2.2.1
      have ck : cOK (B.1 n 1) (B.1 n 2) ((y * 8 + x : Nat) : Int) := by
        have := cOK_xy x0 x1 y0 y1 (by omega)
        rw [show ((y * 8 + x : Nat) : Int) = (y : Int) * 8 + (x : Int) by omega]
        exact this
      obtain ⟨v, C, f1, f2, f3, f4⟩ := s4_actOnWay (c := y * 8 + x) (l := l) (hr := h) Q hst s1 N hc0 ck (by omega) (by omega)
      have evC : vyN C n = vyN B n := ltF_vy f2 (by omega)
      have Rc := f3.1
      have en : ∀ j, C.1 n j = B.1 n j := fun j => by rw [f2.1 n (by omega)]
      have R0 := rv_0 Rc (show n < 58 by omega)
      have e0 : ∀ j, (wI C mo 0 0).1 n j = B.1 n j := fun j => by rw [w0n (by omega), en]
      have ev0 : vyN (wI C mo 0 0) n = vyN B n := by
        rw [← evC]
        exact vyN_eq (fun j => w0n (by omega) j) (fun _ _ _ _ => rfl)
      obtain ⟨v', D, g1, g2, g3⟩ := m_way (B := wI C mo 0 0) (q := q) (hr := h) (x := x) (y := y) (l := l) R0 hn (by rw [e0]; exact hst) (by rw [ev0]; exact N) (by rw [ev0]; exact hc0) (by rw [e0]; exact x1) (by rw [e0]; exact y1) (by rw [e0]; exact l1) (by rw [e0]; exact h1)
      rw [ev0] at g3
      have ev : v = v' := wyS_u f4 g3
      refine ⟨iI v, C, D, ?_, ?_, f2, sc_tr (sc_I (by unfold msv; omega)) g2, f3⟩
      · unfold fX8_way
        rw [c8 rc, some_bind, s8_hasShopCell R hs hx hy hl, some_bind]
        dsimp only
        rw [if_neg (fun w => (bI_0.mp w) gd), g8_7 rc rn, some_bind, s_hasHour hh rk rw1, some_bind]
        dsimp only
        rw [if_neg (fun w => (bI_0.mp w) ⟨h0, h1⟩), s8_roamP Q, some_bind]
        dsimp only
        rw [g8_7 rc rn, some_bind, g8_12 rc, some_bind, s_columnOf, some_bind]
        dsimp only
        rw [show (y : Int) * 8 + (x : Int) = ((y * 8 + x : Nat) : Int) by omega, f1, some_bind]
      · unfold fX9_way
        rw [c9 rm.1, some_bind, p9_0 rm.1, some_bind, rg_isShop Rc hn hs, some_bind]
        dsimp only
        rw [if_neg (fun w => (bI_0.mp w) ⟨s0, by rw [en]; exact s1⟩), rg_isCell Rc hn hx hy hl, some_bind]
        dsimp only
        rw [if_neg (fun w => (bI_0.mp w) (by rw [en, en, en]; exact gd.2)), rg_isHour Rc hn hh, some_bind]
        dsimp only
        rw [if_neg (fun w => (bI_0.mp w) ⟨h0, by rw [en]; exact h1⟩), ev]
        exact g1
    · refine QM_no Q (v := iI (-2)) ?_ ?_
      · unfold fX8_way fX8_way_b24
        rw [c8 rc, some_bind, s8_hasShopCell R hs hx hy hl, some_bind]
        dsimp only
        rw [if_neg (fun w => (bI_0.mp w) gd), g8_7 rc rn, some_bind, s_hasHour hh rk rw1, some_bind]
        dsimp only
        rw [if_pos (bI_0.mpr gh)]
      · unfold fX9_way fX9_way_b34
        rw [c9 rm.1, some_bind, p9_0 rm.1, some_bind, rg_isShop R hn hs, some_bind]
        dsimp only
        rw [if_neg (fun w => (bI_0.mp w) gd.1), rg_isCell R hn hx hy hl, some_bind]
        dsimp only
        rw [if_neg (fun w => (bI_0.mp w) gd.2), rg_isHour R hn hh, some_bind]
        dsimp only
        rw [if_pos (bI_0.mpr gh)]
  · refine QM_no Q (v := iI (-2)) ?_ ?_
    · unfold fX8_way fX8_way_b24
      rw [c8 rc, some_bind, s8_hasShopCell R hs hx hy hl, some_bind]
      dsimp only
      rw [if_pos (bI_0.mpr gd)]
    · unfold fX9_way fX9_way_b34
      rw [c9 rm.1, some_bind, p9_0 rm.1, some_bind, rg_isShop R hn hs, some_bind]
      dsimp only
      by_cases c1 : 0 ≤ s ∧ s < B.1 n 8
      · rw [if_neg (fun w => (bI_0.mp w) c1), rg_isCell R hn hx hy hl, some_bind]
        dsimp only
        rw [if_pos (bI_0.mpr (fun w => gd ⟨c1, w⟩))]
      · rw [if_pos (bI_0.mpr c1)]
end WYO
