/-! the reference's rows by states: an hour of them -/
def sC (c l f g : Int) : Int := (((c % 8 * 8 + c / 8) * 5 + l) * 10 + f) * 10 + g
def upI (T : Int → Int) (k v : Int) : Int → Int := fun z => if z = k then v else T z
def rw2 (X : Bk) (N T : Int → Int) : Bk := (X.1, X.2.1, X.2.2.1, X.2.2.2.1, fun e z => if e = mo + 23 ∧ 0 ≤ z ∧ z < 32000 then jI (N z) else if e = mo + 24 ∧ 0 ≤ z ∧ z < 32000 then jI (T z) else X.2.2.2.2 e z)
section RW
variable {E : Ev} {B C X : Bk} {V : Vy} {N T : Int → Int}
theorem rw2_N {k : Int} (k0 : 0 ≤ k) (k1 : k < 32000) : (rw2 X N T).2.2.2.2 (mo + 23) k = jI (N k) := if_pos ⟨rfl, k0, k1⟩
theorem rw2_T {k : Int} (k0 : 0 ≤ k) (k1 : k < 32000) : (rw2 X N T).2.2.2.2 (mo + 24) k = jI (T k) := by
  show (if mo + 24 = mo + 23 ∧ 0 ≤ k ∧ k < 32000 then jI (N k) else if mo + 24 = mo + 24 ∧ 0 ≤ k ∧ k < 32000 then jI (T k) else X.2.2.2.2 (mo + 24) k) = _
  rw [if_neg (by omega), if_pos ⟨rfl, k0, k1⟩]
theorem rw2_wT {k v : Int} (k0 : 0 ≤ k) (k1 : k < 32000) : wJ (rw2 X N T) (mo + 24) k (jI v) = rw2 X N (upI T k v) := by
  refine Prod.ext rfl (Prod.ext rfl (Prod.ext rfl (Prod.ext rfl ?_)))
  funext e z
  show (if e = mo + 24 ∧ z = k then jI v else if e = mo + 23 ∧ 0 ≤ z ∧ z < 32000 then jI (N z) else if e = mo + 24 ∧ 0 ≤ z ∧ z < 32000 then jI (T z) else X.2.2.2.2 e z) = (if e = mo + 23 ∧ 0 ≤ z ∧ z < 32000 then jI (N z) else if e = mo + 24 ∧ 0 ≤ z ∧ z < 32000 then jI (if z = k then v else T z) else X.2.2.2.2 e z)
  by_cases q : e = mo + 24 ∧ z = k
  · rw [if_pos q, if_neg (by omega), if_pos ⟨q.1, by omega, by omega⟩, if_pos q.2]
  · rw [if_neg q]
    by_cases q1 : e = mo + 23 ∧ 0 ≤ z ∧ z < 32000
    · rw [if_pos q1, if_pos q1]
    · rw [if_neg q1, if_neg q1]
      by_cases q2 : e = mo + 24 ∧ 0 ≤ z ∧ z < 32000
      · rw [if_pos q2, if_pos q2, if_neg (fun w => q ⟨q2.1, w⟩)]
      · rw [if_neg q2, if_neg q2]
theorem rw2_wN {k v : Int} (k0 : 0 ≤ k) (k1 : k < 32000) : wJ (rw2 X N T) (mo + 23) k (jI v) = rw2 X (upI N k v) T := by
  refine Prod.ext rfl (Prod.ext rfl (Prod.ext rfl (Prod.ext rfl ?_)))
  funext e z
  show (if e = mo + 23 ∧ z = k then jI v else if e = mo + 23 ∧ 0 ≤ z ∧ z < 32000 then jI (N z) else if e = mo + 24 ∧ 0 ≤ z ∧ z < 32000 then jI (T z) else X.2.2.2.2 e z) = (if e = mo + 23 ∧ 0 ≤ z ∧ z < 32000 then jI (if z = k then v else N z) else if e = mo + 24 ∧ 0 ≤ z ∧ z < 32000 then jI (T z) else X.2.2.2.2 e z)
  by_cases q : e = mo + 23 ∧ z = k
  · rw [if_pos q, if_pos ⟨q.1, by omega, by omega⟩, if_pos q.2]
  · rw [if_neg q]
    by_cases q1 : e = mo + 23 ∧ 0 ≤ z ∧ z < 32000
    · rw [if_pos q1, if_pos q1, if_neg (fun w => q ⟨q1.1, w⟩)]
    · rw [if_neg q1, if_neg q1]
theorem rw2_cg {N' T' : Int → Int} (h1 : ∀ z, 0 ≤ z → z < 32000 → N z = N' z) (h2 : ∀ z, 0 ≤ z → z < 32000 → T z = T' z) : rw2 X N T = rw2 X N' T' := by
  refine Prod.ext rfl (Prod.ext rfl (Prod.ext rfl (Prod.ext rfl ?_)))
  funext e z
  show (if e = mo + 23 ∧ 0 ≤ z ∧ z < 32000 then jI (N z) else if e = mo + 24 ∧ 0 ≤ z ∧ z < 32000 then jI (T z) else X.2.2.2.2 e z) = (if e = mo + 23 ∧ 0 ≤ z ∧ z < 32000 then jI (N' z) else if e = mo + 24 ∧ 0 ≤ z ∧ z < 32000 then jI (T' z) else X.2.2.2.2 e z)
  by_cases q1 : e = mo + 23 ∧ 0 ≤ z ∧ z < 32000
  · rw [if_pos q1, if_pos q1, h1 z q1.2.1 q1.2.2]
  · rw [if_neg q1, if_neg q1]
    by_cases q2 : e = mo + 24 ∧ 0 ≤ z ∧ z < 32000
    · rw [if_pos q2, if_pos q2, h2 z q2.2.1 q2.2.2]
    · rw [if_neg q2, if_neg q2]
theorem rw2_sf : rw2 X (fun z => (X.2.2.2.2 (mo + 23) z).toInt) (fun z => (X.2.2.2.2 (mo + 24) z).toInt) = X := by
  refine Prod.ext rfl (Prod.ext rfl (Prod.ext rfl (Prod.ext rfl ?_)))
  funext e z
  show (if e = mo + 23 ∧ 0 ≤ z ∧ z < 32000 then jI (X.2.2.2.2 (mo + 23) z).toInt else if e = mo + 24 ∧ 0 ≤ z ∧ z < 32000 then jI (X.2.2.2.2 (mo + 24) z).toInt else X.2.2.2.2 e z) = X.2.2.2.2 e z
  have e1 : ∀ x : Int64, jI x.toInt = x := fun x => Int64.ofInt_toInt x
  by_cases q1 : e = mo + 23 ∧ 0 ≤ z ∧ z < 32000
  · rw [if_pos q1, e1, q1.1]
  · rw [if_neg q1]
    by_cases q2 : e = mo + 24 ∧ 0 ≤ z ∧ z < 32000
    · rw [if_pos q2, e1, q2.1]
    · rw [if_neg q2]
theorem rw2_MP (P : MP X V) : MP (rw2 X N T) V := ⟨jMV rfl rfl P.1, P.2.1, P.2.2.1, P.2.2.2⟩
theorem rw2_sc : sc X (rw2 X N T) := by
  refine ⟨fun _ _ _ => rfl, fun _ _ _ => rfl, rfl, fun _ _ _ => rfl, fun d z q => ?_⟩
  have hm : mo = 58 := rfl
  show (if d = mo + 23 ∧ 0 ≤ z ∧ z < 32000 then jI (N z) else if d = mo + 24 ∧ 0 ≤ z ∧ z < 32000 then jI (T z) else X.2.2.2.2 d z) = _
  unfold mscr at q
  rw [if_neg (by omega), if_neg (by omega)]
theorem sC_cd {c l f g : Int} : cdC c l f g 0 = 32 * sC c l f g := by
  unfold cdC cdW sC
  omega
theorem sC_b {c l f g : Int} {m : Nat} (hV : VOK V) (t : tOK V c l f g m) : 0 ≤ sC c l f g ∧ sC c l f g < 32000 := by
  have t0 : tOK V c l f g 0 := ⟨t.1, t.2.1, t.2.2.1, t.2.2.2.1, by omega⟩
  have := cdC_b hV t0
  rw [sC_cd] at this
  omega
theorem sC_inj {c l f g c' l' f' g' : Int} (hV : VOK V) (t : tOK V c l f g 0) (t' : tOK V c' l' f' g' 0) (e : sC c l f g = sC c' l' f' g') : c = c' ∧ l = l' ∧ f = f' ∧ g = g' := by
  have := cdC_inj hV t t' (by rw [sC_cd, sC_cd, e])
  exact ⟨this.1, this.2.1, this.2.2.1, this.2.2.2.1⟩
/-- where an act leads, by numbers of states -/
def tK (V : Vy) (h a c l f g : Int) : Int := sC (ccA V a h c l) (clA V h (lvA a l)) (fsA a f) (gsA a g)
/-- what an hour counts for: kind 1 over the fair, 2 above the ground -/
def gdR (V : Vy) (kd h a c l : Int) : Int := if kd = 1 then (if ccA V a h c l = V.1 10 ∧ V.1 11 ≤ h ∧ h ≤ V.1 12 then 1 else 0) else if 0 < clA V h (lvA a l) then 1 else 0
def vlR (V : Vy) (kd h : Int) (N T : Int → Int) (a c l f g : Int) : Int := if kd = 0 then T (tK V h a c l f g) + N (sC c l f g) else N (sC c l f g) + gdR V kd h a c l
def stA (V : Vy) (kd h : Int) (N T : Int → Int) (a c l f g : Int) : Int → Int := if okA V a l f g then upI T (tK V h a c l f g) (max (T (tK V h a c l f g)) (vlR V kd h N T a c l f g)) else T
/-- the fair's numbers, as the reference has them -/
def FRN (X : Bk) (V : Vy) : Prop := V.1 10 = X.2.2.2.1 (mo + 7) 11 * 8 + X.2.2.2.1 (mo + 7) 10 ∧ V.1 11 = X.2.2.2.1 (mo + 7) 12 ∧ V.1 12 = X.2.2.2.1 (mo + 7) 13 ∧ (0 ≤ X.2.2.2.1 (mo + 7) 10 ∧ X.2.2.2.1 (mo + 7) 10 < 8) ∧ (0 ≤ X.2.2.2.1 (mo + 7) 11 ∧ X.2.2.2.1 (mo + 7) 11 < 8) ∧ (0 ≤ V.1 11 ∧ V.1 11 < 24) ∧ (0 ≤ V.1 12 ∧ V.1 12 < 24)
theorem m_isGoodR {x y l f g m u v kd h : Int} (rm : mKd E mo) (hk : kd = 1 ∨ kd = 2) (fr : kd = 1 → FRN X V) (x0 : 0 ≤ x ∧ x < 8) (y0 : 0 ≤ y ∧ y < 8) (l0 : 0 ≤ l ∧ l < 5) (h0 : 0 ≤ h ∧ h < 24) : ∃ b : Int, fX9_isGood_ (E.1 + mo) (iI kd) (iI h) (St E (frW X x y l f g m u v)) = some (iI b, St E (frW X x y l f g m u v)) ∧ b = (if kd = 1 then (if y * 8 + x = V.1 10 ∧ V.1 11 ≤ h ∧ h ≤ V.1 12 then 1 else 0) else if 0 < l then 1 else 0) := by
  rcases hk with rfl | rfl
  · obtain ⟨a1, a2, a3, a4, a5, a6, a7⟩ := fr rfl
    have hd : fX9_isGood_ (E.1 + mo) (iI 1) (iI h) (St E (frW X x y l f g m u v)) = if iI x = iI (X.2.2.2.1 (mo + 7) 10) then (if iI y = iI (X.2.2.2.1 (mo + 7) 11) then (if iI h < iI (V.1 11) then some (iI 0, St E (frW X x y l f g m u v)) else if iI (V.1 12) < iI h then some (iI 0, St E (frW X x y l f g m u v)) else some (iI 1, St E (frW X x y l f g m u v))) else some (iI 0, St E (frW X x y l f g m u v))) else some (iI 0, St E (frW X x y l f g m u v)) := by
      unfold fX9_isGood_ fX9_isGood__b59
      rw [c9 rm.1, some_bind, if_pos rfl, g9_42 rm.1, some_bind, frW_42, g9_17 rm.1, some_bind, aI_ok (mk7 rm) (by omega) (by omega) (by omega), some_bind, g9_43 rm.1, some_bind, frW_43, some_bind, aI_ok (mk7 rm) (by omega) (by omega) (by omega), some_bind, some_bind, aI_ok (mk7 rm) (by omega) (by omega) (by omega), some_bind, some_bind, aI_ok (mk7 rm) (by omega) (by omega) (by omega), some_bind, frW_2, a2, a3]
    rw [hd]
    by_cases q1 : x = X.2.2.2.1 (mo + 7) 10
    · rw [if_pos (by rw [q1])]
      by_cases q2 : y = X.2.2.2.1 (mo + 7) 11
      · rw [if_pos (by rw [q2])]
        by_cases q3 : h < V.1 11
        · rw [if_pos (by rw [iI_lt (by omega) (by omega) (by omega) (by omega)]; exact q3)]
          exact ⟨0, rfl, by rw [if_pos rfl, if_neg (by omega)]⟩
        · rw [if_neg (by rw [iI_lt (by omega) (by omega) (by omega) (by omega)]; exact q3)]
          by_cases q4 : V.1 12 < h
          · rw [if_pos (by rw [iI_lt (by omega) (by omega) (by omega) (by omega)]; exact q4)]
            exact ⟨0, rfl, by rw [if_pos rfl, if_neg (by omega)]⟩
          · rw [if_neg (by rw [iI_lt (by omega) (by omega) (by omega) (by omega)]; exact q4)]
            exact ⟨1, rfl, by rw [if_pos rfl, if_pos ⟨by rw [a1, q1, q2], by omega, by omega⟩]⟩
      · rw [if_neg (fun w => q2 ((iI_eq (by omega) (by omega) (by omega) (by omega)).mp w))]
        exact ⟨0, rfl, by rw [if_pos rfl, if_neg (by omega)]⟩
    · rw [if_neg (fun w => q1 ((iI_eq (by omega) (by omega) (by omega) (by omega)).mp w))]
      exact ⟨0, rfl, by rw [if_pos rfl, if_neg (by omega)]⟩
  · have hd : fX9_isGood_ (E.1 + mo) (iI 2) (iI h) (St E (frW X x y l f g m u v)) = if iI l ≤ 0 then some (iI 0, St E (frW X x y l f g m u v)) else some (iI 1, St E (frW X x y l f g m u v)) := by
      unfold fX9_isGood_
      rw [c9 rm.1, some_bind, if_neg (by decide), g9_44 rm.1, some_bind, frW_44]
    rw [hd]
    by_cases q : 0 < l
    · rw [if_neg (by rw [iI_0, iI_le (by omega) (by omega) (by omega) (by omega)]; omega)]
      exact ⟨1, rfl, by rw [if_neg (by omega), if_pos q]⟩
    · rw [if_pos (by rw [iI_0, iI_le (by omega) (by omega) (by omega) (by omega)]; omega)]
      exact ⟨0, rfl, by rw [if_neg (by omega), if_neg q]⟩
theorem m_hr144 {x y l f g m u v kd h k a t w : Int} {nv : Int64} (rm : mKd E mo) (t0 : 0 ≤ t ∧ t < 32000) (bT : -1 ≤ T t ∧ T t ≤ 2305843009213693952) (bw : -2 ≤ w ∧ w ≤ 4611686018427387904) : fX9_hourRows_b144 (E.1 + mo) (iI h) (iI kd) nv (iI k) (iI a) (iI t) (jI w) (St E (frW (rw2 X N T) x y l f g m u v)) = some (.inl (iI (a + 1), St E (frW (rw2 X N (upI T t (max (T t) w))) x y l f g m u v))) := by
  have rd : aL (St E (frW (rw2 X N T) x y l f g m u v)) (E.1 + (mo + 24)) (iI t) = some (jI (T t)) := by
    rw [aL_ok (mk24 rm) t0.1 (by omega) (by omega), frW_2, rw2_T t0.1 t0.2]
  have wr : ∀ z : Int, fX9_hourRows_b177 (E.1 + mo) (iI h) (iI kd) nv (iI k) (iI a) (E.1 + (mo + 24)) (iI t) (jI z) (St E (frW (rw2 X N T) x y l f g m u v)) = some (.inl (iI (a + 1), St E (frW (rw2 X N (upI T t z)) x y l f g m u v))) := fun z => by
    unfold fX9_hourRows_b177 fX9_hourRows_b178
    rw [sL_ok (mk24 rm) t0.1 (by omega) (by omega), some_bind, frW_wJ, rw2_wT t0.1 t0.2, iI_add]
  unfold fX9_hourRows_b144
  rw [g9_50 rm.1, some_bind, some_bind, rd, some_bind, some_bind, rd, some_bind]
  by_cases q : w ≤ T t
  · rw [if_pos ((lg_cmp_le _ _).mpr ((jI_le (by omega) (by omega) (by omega) (by omega)).mpr q)), wr, show max (T t) w = T t by omega]
  · rw [if_neg (fun z => q ((jI_le (by omega) (by omega) (by omega) (by omega)).mp ((lg_cmp_le _ _).mp z))), wr, show max (T t) w = w by omega]
/-- one act of one state -/
theorem m_hr66 {c l f g kd h a : Int} {s : Hp} {nv : Int64} (rm : mKd E mo) (P : MP X V) (hk : kd = 0 ∨ kd = 1 ∨ kd = 2) (fr : kd = 1 → FRN X V) (t : tOK V c l f g 0) (a0 : 0 ≤ a ∧ a ≤ 2) (h0 : 0 ≤ h ∧ h < V.1 4) (bT : ∀ z, 0 ≤ z → z < 32000 → -1 ≤ T z ∧ T z ≤ 2305843009213693952) (bN : -1 ≤ N (sC c l f g) ∧ N (sC c l f g) ≤ 2305843009213693951) (an : anyF E (rw2 X N T) s) : ∃ s', fX9_hourRows_l66 (E.1 + mo) (iI h) (iI kd) nv (iI (sC c l f g)) (iI a, s) = some (.inl (iI (a + 1), s')) ∧ anyF E (rw2 X N (stA V kd h N T a c l f g)) s' := by
  have hV := P.2.1
  have v4 := hV.2.2.2.1
  have v1 := hV.1
  have v2 := hV.2.1
  have v3 := hV.2.2.1
  obtain ⟨x, y, l', f', g', m', u, v, rfl⟩ := an
  have P' : MP (rw2 X N T) V := rw2_MP P
  have td := tOK_d hV t
  have t' := t
  obtain ⟨⟨c0, c1, c2⟩, t2, t3, t4, t5⟩ := t'
  have ec : c / 8 * 8 + c % 8 = c := by omega
  have rd := m_readsC (B := rw2 X N T) (x := x) (y := y) (l := l') (f := f') (g := g') (m := m') (u := u) (v := v) rm td
  have cde : cdW (c % 8) (c / 8) l f g ((0 : Nat) : Int) = 32 * sC c l f g := sC_cd
  rw [cde] at rd
  have ac := m_actsF (m := ((0 : Nat) : Int)) (u := u) (v := v) (a := a) (h := h) (x := c % 8) (y := c / 8) (l := l) (f := f) (g := g) rm P' a0.1 a0.2 (by omega) (by omega) t2 (by omega) (by omega) h0
  rw [ec] at ac
  have ng : ¬ iI 3 ≤ iI a := by rw [iI_le (by omega) (by omega) (by omega) (by omega)]; omega
  have kb := sC_b hV t
  unfold fX9_hourRows_l66
  dsimp only
  rw [if_neg ng, iI_mul, rd, some_bind]
  unfold stA
  by_cases q : okA V a l f g
  · have tn := tOK_n (cnt := 0) (h := h) hV t q
    have tn0 : tOK V (ccA V a h c l) (clA V h (lvA a l)) (fsA a f) (gsA a g) 0 := ⟨tn.1, tn.2.1, tn.2.2.1, tn.2.2.2.1, by omega⟩
    obtain ⟨⟨n0, n1, n2⟩, u2, u3, u4, u5⟩ := tn
    have tb' := sC_b hV tn0
    obtain ⟨K, hK⟩ : ∃ K, K = tK V h a c l f g := ⟨_, rfl⟩
    have hK' : (((ccA V a h c l % 8 * 8 + ccA V a h c l / 8) * 5 + clA V h (lvA a l)) * 10 + fsA a f) * 10 + gsA a g = K := by rw [hK]; rfl
    have tb2 : 0 ≤ K ∧ K < 32000 := by rw [hK]; exact tb'
    have bk := bT K tb2.1 tb2.2
    have bd : -2 ≤ vlR V kd h N T a c l f g ∧ vlR V kd h N T a c l f g ≤ 4611686018427387904 := by
      unfold vlR
      rw [← hK]
      by_cases e : kd = 0
      · rw [if_pos e]
        omega
      · rw [if_neg e]
        have : gdR V kd h a c l = 0 ∨ gdR V kd h a c l = 1 := by
          unfold gdR
          repeat' split
          all_goals omega
        omega
    rw [ac.1 q, some_bind, if_neg (by exact (show ¬ iI 1 = 0 by decide))]
    dsimp only
    rw [m_stateF rm, some_bind, hK', if_pos q, ← hK]
    dsimp only
    rcases (show kd = 0 ∨ kd = 1 ∨ kd = 2 from hk) with e | e
    · have ev : vlR V kd h N T a c l f g = T K + N (sC c l f g) := by
        unfold vlR
        rw [if_pos e, ← hK]
      rw [ev] at bd ⊢
      rw [if_pos (by rw [e]; decide), g9_50 rm.1, some_bind, aL_ok (mk24 rm) tb2.1 (by omega) (by omega), some_bind, g9_49 rm.1, some_bind, aL_ok (mk23 rm) kb.1 (by omega) (by omega), some_bind, frW_2, rw2_T tb2.1 tb2.2, rw2_N kb.1 kb.2, jI_add, m_hr144 rm tb2 bk bd]
      exact ⟨_, rfl, _, _, _, _, _, _, _, _, rfl⟩
    · have k0 : ¬ iI kd = 0 := by rcases e with e | e <;> rw [e] <;> decide
      have kn : ¬ kd = 0 := by omega
      obtain ⟨b, g1, g2⟩ := m_isGoodR (X := rw2 X N T) (V := V) (x := ccA V a h c l % 8) (y := ccA V a h c l / 8) (l := clA V h (lvA a l)) (f := fsA a f) (g := gsA a g) (m := ((0 : Nat) : Int)) (u := ccA V a h c l % 8) (v := ccA V a h c l / 8) (kd := kd) (h := h) rm e fr (by omega) (by omega) (by omega) (by omega)
      rw [show ccA V a h c l / 8 * 8 + ccA V a h c l % 8 = ccA V a h c l by omega] at g2
      have gb : b = gdR V kd h a c l := g2
      have ev : vlR V kd h N T a c l f g = N (sC c l f g) + b := by
        unfold vlR
        rw [if_neg kn, gb]
      have b01 : b = 0 ∨ b = 1 := by
        rw [g2]
        repeat' split
        all_goals omega
      rw [ev] at bd ⊢
      rw [if_neg k0, g9_49 rm.1, some_bind, aL_ok (mk23 rm) kb.1 (by omega) (by omega), some_bind, frW_2, rw2_N kb.1 kb.2, g1, some_bind]
      unfold fX9_hourRows_b143
      rcases b01 with b0 | b1
      · rw [b0] at bd ⊢
        rw [if_pos (by exact (show iI 0 = 0 by decide)), show (0 : Int64) = jI 0 from rfl, jI_add, m_hr144 rm tb2 bk bd]
        exact ⟨_, rfl, _, _, _, _, _, _, _, _, rfl⟩
      · rw [b1] at bd ⊢
        rw [if_neg (by exact (show ¬ iI 1 = 0 by decide)), show (1 : Int64) = jI 1 from rfl, jI_add, m_hr144 rm tb2 bk bd]
        exact ⟨_, rfl, _, _, _, _, _, _, _, _, rfl⟩
  · rw [ac.2 q, some_bind, if_pos (by exact (show iI 0 = 0 by decide)), if_neg q]
    unfold fX9_hourRows_b178
    refine ⟨_, by rw [iI_add], _, _, _, _, _, _, _, _, rfl⟩
end RW
