/-! fair and aloft: both answer alike -/
section MFA
variable {E : Ev} {B C : Bk} {V : Vy} {S G n L h T c0 d p r : Nat} {kd k i : Int} {ed : Int → Int64} {U U' : Nat → Nat → Nat → Nat → Nat} {P : StP}
theorem Ph_cg {P0 : StP} {J : Nat} {b : Nat → Nat} (hb : ∀ j l c m, j < J → m ≤ b j → U j l c m = U' j l c m ∧ U j l c m ≤ b (j + 1)) (h0 : ∀ c l s u m, P0 c l s u m → m ≤ b 0) : ∀ j, j ≤ J → ∀ c l s u m, (Ph V S G U P0 j c l s u m → Ph V S G U' P0 j c l s u m ∧ m ≤ b j) ∧ (Ph V S G U' P0 j c l s u m → Ph V S G U P0 j c l s u m)
  | 0, _ => fun c l s u m => ⟨fun w => ⟨w, h0 c l s u m w⟩, fun w => w⟩
  | j + 1, hj => fun c' l' s' u' m' => by
    have ih := Ph_cg hb h0 j (by omega)
    constructor
    · rintro ⟨c, l, s, u, m, a, p, ok, e1, e2, e3, e4, e5⟩
      obtain ⟨x1, x2⟩ := (ih c l s u m).1 p
      have y := hb j l' c' m (by omega) x2
      exact ⟨⟨c, l, s, u, m, a, x1, ok, e1, e2, e3, e4, by rw [e5, y.1]⟩, by rw [e5]; exact y.2⟩
    · rintro ⟨c, l, s, u, m, a, p, ok, e1, e2, e3, e4, e5⟩
      have x := (ih c l s u m).2 p
      have y := hb j l' c' m (by omega) ((ih c l s u m).1 x).2
      exact ⟨c, l, s, u, m, a, x, ok, e1, e2, e3, e4, by rw [e5, y.1]⟩
theorem tgS_cg {P Q : StP} {x : Int} (h : ∀ c l s u m, P c l s u m ↔ Q c l s u m) (w : tgS P x) : tgS Q x := by
  obtain ⟨w1, w2, w3⟩ := w
  refine ⟨w1, fun c l s u m q => w2 c l s u m ((h c l s u m).mpr q), ?_⟩
  rcases w3 with e | ⟨c, l, s, u, m, q, e⟩
  · exact Or.inl e
  · exact Or.inr ⟨c, l, s, u, m, (h c l s u m).mp q, e⟩
theorem tgS_sx {x : Int} {U : Nat → Nat → Nat → Nat} (hV : VOK V) (hU : ∀ l c m, U l c m = m) (hP : PB V S G n T L h P) (w : tgS P x) : tgS (Sx V S G U h P) x := by
  obtain ⟨w1, w2, w3⟩ := w
  refine ⟨w1, ?_, ?_⟩
  · rintro c' l' s' u' m' ⟨c, l, s, u, m, a, p, ok, e1, e2, e3, e4, e5⟩
    rw [e5, hU]
    exact w2 c l s u m p
  · rcases w3 with e | ⟨c, l, s, u, m, p, e⟩
    · exact Or.inl e
    · have b := hP c l s u m p
      have ci := crX_in (w := V.2.1 (l : Int) (h : Int)) b.1 hV.1.2
      have cl := cl_c (V := V) (h := h) (l := (l : Int))
      obtain ⟨c2, hc2⟩ : ∃ c2 : Nat, crX (V.1 1) (V.1 2) (c : Int) (V.2.1 (l : Int) (h : Int)) = (c2 : Int) := ⟨_, (Int.toNat_of_nonneg ci.1).symm⟩
      obtain ⟨l2, hl2⟩ : ∃ l2 : Nat, clA V (h : Int) (l : Int) = (l2 : Int) := ⟨(clA V (h : Int) (l : Int)).toNat, by omega⟩
      exact Or.inr ⟨c2, l2, s, u, m, ⟨c, l, s, u, m, 0, p, Or.inl rfl, hc2.symm, hl2.symm, by simp, by simp, (hU _ _ _).symm⟩, e⟩
theorem tgS_ext {x : Int} {J : Nat} (hV : VOK V) (hn : V.1 3 = (n : Int)) (cok : cOK (V.1 1) (V.1 2) (c0 : Int)) (hL : L < n) (hJ : V.1 12 < (J : Int)) (w : tgS (Ph V S G (gU V 1) (iP c0 L 0) J) x) : ∀ e : Nat, ((J + e : Nat) : Int) ≤ V.1 4 → tgS (Ph V S G (gU V 1) (iP c0 L 0) (J + e)) x
  | 0, _ => w
  | e + 1, h => tgS_sx hV (fun l c m => by
      unfold gU gNo
      rw [if_pos rfl, if_neg (fun w => by
        have w3 : ((J + e : Nat) : Int) ≤ V.1 12 := w.2.2
        omega)]
      rfl) (Ph_PB (kd := 1) hV hn cok hL (j := J + e) (by omega)) (tgS_ext hV hn cok hL hJ w e (by omega))
/-- the run's end: the highest tag, and what is kept -/
theorem s4_tagEnd {A : StF} {C1 : Bk} (R : RE E d p r) (hV : VOK V) (hn : V.1 3 = (n : Int)) (hS : S ≤ 9) (hG : G ≤ 9) (c : RC C1 d p r V ed S G L T k) (f1 : prF d B C1) (f2 : nF d r C1 C) (f3 : SdK C1 r (fun _ _ _ => False) C) (hA : stR C d S G n T A) (hb : bR S G n T A P) (hP : PB V S G n T L h P) : ∃ x, fX4_highestTag (E.1 + d) (St E C) = some (iI x, St E C) ∧ tgS P x ∧ pQ d B C ∧ brI C (d + 2) (V.1 1) (V.1 2) 64 := by
  have cc := RC_nF R f2 c
  have v3 := hV.2.2.1
  have T0 := c.2.2.2.2.2.2.1
  have T1 := c.2.2.2.2.2.2.2
  have x1 : (S + 1) * (G + 1) ≤ 10 * 10 := Nat.mul_le_mul (by omega) (by omega)
  have x2 : (S + 1) * (G + 1) * n ≤ 100 * 5 := Nat.mul_le_mul (by omega) (by omega)
  have x3 : (S + 1) * (G + 1) * n * T ≤ 500 * 32 := Nat.mul_le_mul (by omega) (by omega)
  obtain ⟨bc, hbc⟩ : ∃ bc, bc = (S + 1) * (G + 1) * n * T := ⟨_, rfl⟩
  have hbi : ((S : Int) + 1) * ((G : Int) + 1) * (n : Int) * (T : Int) = (bc : Int) := by rw [hbc]; push_cast; rfl
  obtain ⟨x, g1, g2⟩ := s4_highestTag (E := E) (B := C) (d := d) (p := p) (n := T) (c := bc) R.1.1 R.1.2.1 R.2.1.1 cc.1.1 cc.2.1.2.2.2.1 ⟨T0, T1⟩ (by rw [cc.2.1.2.1, cc.2.1.2.2.1, RC_v cc, hn]; exact hbi) (by omega)
  refine ⟨x, g1, hg_tg (by omega) T0 hP hV hA hb hbc g2, ⟨fun e j q1 => ?_, fun e j q1 => ?_, fun e j q1 => ?_, ?_, fun e q1 q2 => ?_⟩, cc.2.2.2.2.1.2⟩
  · rw [f2.1, f1.1 e j (by omega)]
  · rw [f2.2.1, f1.2.1 e j q1]
  · rw [f2.2.2.1, f1.2.2.1 e j (by omega)]
  · rw [f3.1, f1.2.2.2.1]
  · by_cases er : e = r + 1
    · rw [er, f3.2, f1.2.2.2.2 (r + 1) (by rw [← er]; exact q1) (by rw [← er]; exact q2)]
    · rw [f2.2.2.2.2 e q1 er, f1.2.2.2.2 e q1 q2]
theorem s4_hoursAloft {q : Nat} (R : RE E d p r) (hw : VW B p) (eV : vyN B p = V) (N : RN V (q : Int) S G L n) (hc0 : scV V (q : Int) = (c0 : Int)) : ∃ x C, fX4_hoursAloft (E.1 + d) (E.1 + p) (iI (q : Int)) (St E B) = some (iI x, St E C) ∧ tgS (Ph V S G (gU V 2) (iP c0 L 0) (V.1 4).toNat) x ∧ pQ d B C ∧ brI C (d + 2) (V.1 1) (V.1 2) 64 := by
  obtain ⟨c0', hc0', c64, cok, hL⟩ := scV_b N
  have ec : c0' = c0 := by omega
  subst ec
  have N' := N
  obtain ⟨hV, i0, eS, eG, eL, hn, hS, hG⟩ := N'
  have v3 := hV.2.2.1
  have v4 := hV.2.2.2.1
  have kd := R.1.1
  have e4 : B.1 p 4 = V.1 4 := by rw [← eV]; rfl
  obtain ⟨T, hT⟩ : ∃ T, T = (V.1 4).toNat + 1 := ⟨_, rfl⟩
  obtain ⟨C1, ed, a1, a2, a3, a4⟩ := s4_prepare (i := (q : Int)) (T' := V.1 4 + 1) (k := 3) (T := T) R hw eV N (by omega) (fun e => by omega) (by omega) (by omega)
  have hU : ∀ j l c m, j < (V.1 4).toNat → l < n → c < 64 → m < T → (fun _ => upT T mAl : Nat → Nat → Nat → Nat → Nat) j l c m < T := fun j l c m _ _ _ hm => by
    show upT T mAl l c m < T
    unfold upT
    split <;> omega
  obtain ⟨C, b1, b2, b3, A, b4, b5⟩ := s4_tagRun (U := fun _ => upT T mAl) (J := (V.1 4).toNat) (F := fX4_hoursAloft_l15 (E.1 + d) (E.1 + p)) R N hc0 a3 (by decide) a4 (by omega) hU (fun h A' hh => NT_aloftK R hn (by omega) hS hG)
    (fun j C hj cc => by
      unfold fX4_hoursAloft_l15
      dsimp only
      rw [g6_4 R.2.1.1, some_bind, RC_v cc, if_neg (by rw [iI_le (by omega) (by omega) (by omega) (by omega)]; omega)])
    (fun C cc => by
      unfold fX4_hoursAloft_l15
      dsimp only
      rw [g6_4 R.2.1.1, some_bind, RC_v cc, if_pos (by rw [iI_le (by omega) (by omega) (by omega) (by omega)]; omega)])
  obtain ⟨x, d1, d2, d3, d4⟩ := s4_tagEnd R hV hn hS hG a3 a2 b2 b3 b4 b5 (Ph_PBT hV hn hU (iP_PB cok hL (by omega)) (by omega) (Nat.le_refl _))
  refine ⟨x, C, ?_, tgS_cg (fun c l s u m => ?_) d2, d3, d4⟩
  · unfold fX4_hoursAloft
    rw [c4 kd, some_bind, g6_4 R.2.1.1, some_bind, e4, iI_add, a1, some_bind, b1, some_bind, d1, some_bind]
  · have := Ph_cg (V := V) (S := S) (G := G) (U := fun _ => upT T mAl) (U' := gU V 2) (P0 := iP c0' L 0) (J := (V.1 4).toNat) (b := fun j => j) (fun j l c m hj hm => by
      show upT T mAl l c m = gU V 2 j l c m ∧ upT T mAl l c m ≤ j + 1
      unfold upT mAl gU gNo
      rw [if_neg (show ¬ (2 : Int) = 1 by decide)]
      by_cases e : 0 < l
      · rw [if_pos (decide_eq_true e), if_pos e]
        omega
      · rw [if_neg (by rw [decide_eq_true_eq]; exact e), if_neg e]
        omega) (fun c l s u m w => by
      have := w.2.2.2.2
      omega) (V.1 4).toNat (Nat.le_refl _) c l s u m
    exact ⟨fun w => (this.1 w).1, this.2⟩
theorem s4_hoursAtFair {q : Nat} (R : RE E d p r) (hw : VW B p) (eV : vyN B p = V) (N : RN V (q : Int) S G L n) (hc0 : scV V (q : Int) = (c0 : Int)) (f10 : 0 ≤ V.1 10 ∧ V.1 10 < 64) (f11 : 0 ≤ V.1 11 ∧ V.1 11 ≤ V.1 12 ∧ V.1 12 < V.1 4) : ∃ x C, fX4_hoursAtFair (E.1 + d) (E.1 + p) (iI (q : Int)) (St E B) = some (iI x, St E C) ∧ tgS (Ph V S G (gU V 1) (iP c0 L 0) (V.1 4).toNat) x ∧ pQ d B C ∧ brI C (d + 2) (V.1 1) (V.1 2) 64 := by
  obtain ⟨c0', hc0', c64, cok, hL⟩ := scV_b N
  have ec : c0' = c0 := by omega
  subst ec
  have N' := N
  obtain ⟨hV, i0, eS, eG, eL, hn, hS, hG⟩ := N'
  have v3 := hV.2.2.1
  have v4 := hV.2.2.2.1
  have kd := R.1.1
  have e11 : B.1 p 11 = V.1 11 := by rw [← eV]; rfl
  have e12 : B.1 p 12 = V.1 12 := by rw [← eV]; rfl
  obtain ⟨T, hT⟩ : ∃ T, T = (V.1 12 - V.1 11 + 2).toNat := ⟨_, rfl⟩
  obtain ⟨J, hJ⟩ : ∃ J, J = (V.1 12).toNat + 1 := ⟨_, rfl⟩
  obtain ⟨C1, ed, a1, a2, a3, a4⟩ := s4_prepare (i := (q : Int)) (T' := V.1 12 - V.1 11 + 2) (k := 2) (T := T) R hw eV N (by omega) (fun e => by omega) (by omega) (by omega)
  have hU : ∀ j l c m, j < J → l < n → c < 64 → m < T → (fun j => upT T (mFa j V) : Nat → Nat → Nat → Nat → Nat) j l c m < T := fun j l c m _ _ _ hm => by
    show upT T (mFa j V) l c m < T
    unfold upT
    split <;> omega
  obtain ⟨C, b1, b2, b3, A, b4, b5⟩ := s4_tagRun (U := fun j => upT T (mFa j V)) (J := J) (F := fX4_hoursAtFair_l20 (E.1 + d) (E.1 + p)) R N hc0 a3 (by decide) a4 (by omega) hU (fun h A' hh => NT_fairK R hn (by omega) hS hG f10 (by omega) (by omega))
    (fun j C hj cc => by
      unfold fX4_hoursAtFair_l20
      dsimp only
      rw [g6_12 R.2.1.1, some_bind, RC_v cc, if_neg (by rw [iI_lt (by omega) (by omega) (by omega) (by omega)]; omega)])
    (fun C cc => by
      unfold fX4_hoursAtFair_l20
      dsimp only
      rw [g6_12 R.2.1.1, some_bind, RC_v cc, if_pos (by rw [iI_lt (by omega) (by omega) (by omega) (by omega)]; omega)])
  obtain ⟨x, d1, d2, d3, d4⟩ := s4_tagEnd R hV hn hS hG a3 a2 b2 b3 b4 b5 (Ph_PBT hV hn hU (iP_PB cok hL (by omega)) (by omega) (Nat.le_refl _))
  refine ⟨x, C, ?_, ?_, d3, d4⟩
  · unfold fX4_hoursAtFair
    rw [c4 kd, some_bind, g6_12 R.2.1.1, some_bind, g6_11 R.2.1.1, some_bind, e11, e12, iI_sub, iI_add, a1, some_bind, b1, some_bind, d1, some_bind]
  · have d2' : tgS (Ph V S G (gU V 1) (iP c0' L 0) J) x := tgS_cg (fun c l s u m => by
      have := Ph_cg (V := V) (S := S) (G := G) (U := fun j => upT T (mFa j V)) (U' := gU V 1) (P0 := iP c0' L 0) (J := J) (b := fun j => j - (V.1 11).toNat) (fun j l c m hj hm => by
        have hm' : m ≤ j - (V.1 11).toNat := hm
        show upT T (mFa j V) l c m = gU V 1 j l c m ∧ upT T (mFa j V) l c m ≤ j + 1 - (V.1 11).toNat
        unfold upT mFa gU gNo
        rw [if_pos rfl]
        by_cases e : (c : Int) = V.1 10 ∧ V.1 11 ≤ (j : Int)
        · rw [if_pos (by rw [decide_eq_true e.1, decide_eq_true e.2]; rfl), if_pos ⟨e.1, e.2, by omega⟩]
          omega
        · rw [if_neg (by rw [Bool.and_eq_true, decide_eq_true_eq, decide_eq_true_eq]; omega), if_neg (by omega)]
          omega) (fun c l s u m w => by
        have := w.2.2.2.2
        omega) J (Nat.le_refl _) c l s u m
      exact ⟨fun w => (this.1 w).1, this.2⟩) d2
    have := tgS_ext hV hn cok hL (by omega) d2' ((V.1 4).toNat - J) (by omega)
    rw [show J + ((V.1 4).toNat - J) = (V.1 4).toNat by omega] at this
    exact this
theorem o_aloft {s : Int} (Q : RQ E B n d) (hs : i32 s) : QM E B n d (fX8_aloft (E.1 + co) (iI s)) (fX9_aloft (E.1 + mo) (iI s)) := by
  have Q' := Q
  obtain ⟨R, ⟨hn, hd⟩, er, q9, K, -⟩ := Q'
  have R' := R
  obtain ⟨⟨rc, rn, rk, rm⟩, rw1, -⟩ := R'
  have rw2' := rw1
  obtain ⟨w0, w1, w2, w3, w4, -, -, -, w8, -⟩ := rw2'
  by_cases gd : 0 ≤ s ∧ s < B.1 n 8
  · obtain ⟨s0, s1⟩ := gd
    obtain ⟨q, rfl⟩ : ∃ q : Nat, s = (q : Int) := ⟨s.toNat, by omega⟩
    have hst : 0 < B.1 n 0 := RV_hst R (Or.inl (by omega))
    obtain ⟨S, G, L, k, c0, N, hc0, h4⟩ := rv_RN R hst s1
    have RE' := RKD_RE (p := n) K rk (by omega) (show 0 < 4 by omega)
    obtain ⟨x, C, f1, ft, f2, f3⟩ := s4_hoursAloft (B := B) RE' rw1 rfl N hc0
    have Qc := RQ_pq Q f2 f3
    have lt := pQ_lt f2
    have evC : vyN C n = vyN B n := ltF_vy lt (by omega)
    have Rc := Qc.1
    have en : ∀ j, C.1 n j = B.1 n j := fun j => by rw [lt.1 n (by omega)]
    have R0 := rv_0 Rc (show n < 58 by omega)
    have ev0 : vyN (wI C mo 0 0) n = vyN C n := vyN_eq (fun j => w0n (by omega) j) (fun _ _ _ _ => rfl)
    have P0 := MP_rv R0 hn (by rw [w0n (by omega), en]; exact hst)
    rw [ev0, evC] at P0
    obtain ⟨y, D, g1, g2, g3⟩ := m_mostBy (kd := 2) rm P0 N hc0 (Or.inr rfl) (fun e => absurd e (by decide))
    have exy : x = y := tgS_u ft g3
    refine ⟨iI x, C, D, ?_, ?_, lt, sc_tr (sc_I (by unfold msv; omega)) g2, Qc⟩
    · unfold fX8_aloft
      rw [c8 rc, some_bind, g8_7 rc rn, some_bind, s_hasShop hs rk rw1, some_bind]
      dsimp only
      rw [if_neg (fun w => (bI_0.mp w) ⟨s0, s1⟩), s8_roamP Q, some_bind]
      dsimp only
      rw [g8_7 rc rn, some_bind, f1, some_bind]
    · unfold fX9_aloft
      rw [c9 rm.1, some_bind, p9_0 rm.1, some_bind, rg_isShop Rc hn hs, some_bind]
      dsimp only
      rw [if_neg (fun w => (bI_0.mp w) ⟨s0, by rw [en]; exact s1⟩), g1, some_bind, exy]
  · refine QM_no Q (v := iI (-2)) ?_ ?_
    · unfold fX8_aloft
      rw [c8 rc, some_bind, g8_7 rc rn, some_bind, s_hasShop hs rk rw1, some_bind]
      dsimp only
      rw [if_pos (bI_0.mpr gd)]
    · unfold fX9_aloft
      rw [c9 rm.1, some_bind, p9_0 rm.1, some_bind, rg_isShop R hn hs, some_bind]
      dsimp only
      rw [if_pos (bI_0.mpr gd)]
theorem o_fair {s : Int} (Q : RQ E B n d) (hs : i32 s) : QM E B n d (fX8_fair (E.1 + co) (iI s)) (fX9_fair (E.1 + mo) (iI s)) := by
  have Q' := Q
  obtain ⟨R, ⟨hn, hd⟩, er, q9, K, -⟩ := Q'
  have R' := R
  obtain ⟨⟨rc, rn, rk, rm⟩, rw1, rvr, rvb⟩ := R'
  have rw2' := rw1
  obtain ⟨w0, w1, w2, w3, w4, -, -, -, w8, -⟩ := rw2'
  have hf := rvr.2.2.2.2.2.2.2.2
  rw [show (15 : Int) * 0 + 9 = 9 from rfl, show (15 : Int) * 0 + 10 = 10 from rfl, show (15 : Int) * 0 + 11 = 11 from rfl, show (15 : Int) * 0 + 12 = 12 from rfl, show (15 : Int) * 0 + 13 = 13 from rfl] at hf
  have hb := rvb.2.2.2.2.2.2.2.2
  by_cases gd : 0 ≤ s ∧ s < B.1 n 8
  · obtain ⟨s0, s1⟩ := gd
    rcases hf with ⟨x1, x2⟩ | ⟨x1, x2, x3, x4, x5, x6, x7⟩
    · refine QM_no Q (v := iI (-1)) ?_ ?_
      · unfold fX8_fair
        rw [c8 rc, some_bind, g8_7 rc rn, some_bind, s_hasShop hs rk rw1, some_bind]
        dsimp only
        rw [if_neg (fun w => (bI_0.mp w) ⟨s0, s1⟩), g8_7 rc rn, some_bind, g6_10 rk.1, some_bind, x1, if_pos rfl]
      · unfold fX9_fair
        rw [c9 rm.1, some_bind, p9_0 rm.1, some_bind, rg_isShop R hn hs, some_bind]
        dsimp only
        rw [if_neg (fun w => (bI_0.mp w) ⟨s0, s1⟩), g9_17 rm.1, some_bind, aI_ok (mk7 rm) (by omega) (by omega) (by omega), some_bind, show (wI B mo 0 0).2.2.2.1 (mo + 7) 9 = B.2.2.2.1 (mo + 7) 9 from rfl, x2, if_pos (by decide)]
    · rcases hb with hb | ⟨⟨xx, yy, h1, h2, h3, h4, h5⟩, h6, h7, h8⟩
      · exact absurd hb x1
      obtain ⟨q, rfl⟩ : ∃ q : Nat, s = (q : Int) := ⟨s.toNat, by omega⟩
      have hst : 0 < B.1 n 0 := RV_hst R (Or.inl (by omega))
      obtain ⟨S, G, L, k, c0, N, hc0, h4'⟩ := rv_RN R hst s1
      have RE' := RKD_RE (p := n) K rk (by omega) (show 0 < 4 by omega)
      obtain ⟨x, C, f1, ft, f2, f3⟩ := s4_hoursAtFair (B := B) RE' rw1 rfl N hc0 (by show 0 ≤ B.1 n 10 ∧ B.1 n 10 < 64; omega) ⟨h6, h7, h8⟩
      have Qc := RQ_pq Q f2 f3
      have lt := pQ_lt f2
      have evC : vyN C n = vyN B n := ltF_vy lt (by omega)
      have Rc := Qc.1
      have en : ∀ j, C.1 n j = B.1 n j := fun j => by rw [lt.1 n (by omega)]
      have R0 := rv_0 Rc (show n < 58 by omega)
      have ev0 : vyN (wI C mo 0 0) n = vyN C n := vyN_eq (fun j => w0n (by omega) j) (fun _ _ _ _ => rfl)
      have P0 := MP_rv R0 hn (by rw [w0n (by omega), en]; exact hst)
      rw [ev0, evC] at P0
      have e7 : (wI C mo 0 0).2.2.2.1 (mo + 7) = B.2.2.2.1 (mo + 7) := lt.2.2.2.1 (mo + 7) (by show 58 + 7 < d; omega)
      have fr : FRN (wI C mo 0 0) (vyN B n) := by
        unfold FRN
        rw [e7]
        exact ⟨x3, x4, x5, by omega, by omega, by show 0 ≤ B.1 n 11 ∧ B.1 n 11 < 24; omega, by show 0 ≤ B.1 n 12 ∧ B.1 n 12 < 24; omega⟩
      obtain ⟨y, D, g1, g2, g3⟩ := m_mostBy (kd := 1) rm P0 N hc0 (Or.inl rfl) (fun _ => fr)
      have exy : x = y := tgS_u ft g3
      refine ⟨iI x, C, D, ?_, ?_, lt, sc_tr (sc_I (by unfold msv; omega)) g2, Qc⟩
      · unfold fX8_fair
        rw [c8 rc, some_bind, g8_7 rc rn, some_bind, s_hasShop hs rk rw1, some_bind]
        dsimp only
        rw [if_neg (fun w => (bI_0.mp w) ⟨s0, s1⟩), g8_7 rc rn, some_bind, g6_10 rk.1, some_bind, if_neg (fun w => x1 ((iI_eq (by omega) (by omega) (by omega) (by omega)).mp w)), s8_roamP Q, some_bind]
        dsimp only
        rw [g8_7 rc rn, some_bind, f1, some_bind]
      · unfold fX9_fair
        rw [c9 rm.1, some_bind, p9_0 rm.1, some_bind, rg_isShop Rc hn hs, some_bind]
        dsimp only
        rw [if_neg (fun w => (bI_0.mp w) ⟨s0, by rw [en]; exact s1⟩), g9_17 rm.1, some_bind, aI_ok (mk7 rm) (by omega) (by omega) (by omega), some_bind, e7, x2, if_neg (by decide), g1, some_bind, exy]
  · refine QM_no Q (v := iI (-2)) ?_ ?_
    · unfold fX8_fair
      rw [c8 rc, some_bind, g8_7 rc rn, some_bind, s_hasShop hs rk rw1, some_bind]
      dsimp only
      rw [if_pos (bI_0.mpr gd)]
    · unfold fX9_fair
      rw [c9 rm.1, some_bind, p9_0 rm.1, some_bind, rg_isShop R hn hs, some_bind]
      dsimp only
      rw [if_pos (bI_0.mpr gd)]
end MFA
