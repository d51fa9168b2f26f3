/-! valley(), both, put together -/
section OW
variable {E : Ev} {B : Bk} {K : Nat → Nat} {n m : Nat}
theorem z_fr {T : Int → Int} {L : Int} {X R : Bk} {t : Tg T L} (F : FRr (clM (wI X mo 0 0)) R) (h5 : X.2.2.2.1 (mo + 5) = T) : (∀ d j, d ≠ mo → (ovB R t).1 d j = X.1 d j) ∧ (∀ d j, d ≠ mo → (ovB R t).2.1 d j = X.2.1 d j) ∧ (ovB R t).2.2.1 = X.2.2.1 ∧ (∀ d z, ¬ rdP d z → (ovB R t).2.2.2.1 d z = X.2.2.2.1 d z) ∧ (ovB R t).2.2.2.2 = X.2.2.2.2 := by
  refine ⟨fun d j hd => ?_, fun d j hd => ?_, ?_, fun d z q => ?_, ?_⟩
  · rw [ov_1 hd, F.1 d j (fun y => hd y.1)]
    show (wI (wI X mo 0 0) mo 20 0).1 d j = _
    rw [wI_1, if_neg (fun y => hd y.1), wI_1, if_neg (fun y => hd y.1)]
  · rw [ov_2 hd, F.2.1]
    rfl
  · show R.2.2.1 = _
    rw [F.2.2.1]
    rfl
  · by_cases q5 : d = mo + 5
    · subst q5
      rw [ov_t, h5]
    · rw [ov_4 q5, F.2.2.2.1 d z q, clM_4 q]
      rfl
  · show R.2.2.2.2 = _
    rw [F.2.2.2.2]
    rfl
theorem o_valley (S : STR E K) (rr : KD E (co + 2) 3 10) (rt : KD E (co + 1) 22 1600) (F : FB E B n m) (Tp : rTp B) (T2 : rT2 B) : QV E B n m (fX8_valley K (E.1 + co)) (fX9_valley (E.1 + mo)) := by
  have hco : co = 0 := rfl
  have hmo : mo = 58 := rfl
  obtain ⟨R1, ⟨pk3, pk10, vkm, r8⟩, ⟨n0, n1, m0, m1, sep⟩, PLn⟩ := F
  have R := R1
  obtain ⟨⟨rc, rn, rk, rm⟩, -⟩ := R
  have D : TB9 (B.2.2.2.1 (co + 1)) (B.1 co 10) := ⟨Tp.1, fun z z0 z1 => (Tp.2.2.1 z z0 z1).2⟩
  obtain ⟨P, gp, wb, dd, fc, er, run⟩ := c_read (K := K) S ⟨rr, rt, vkm⟩ rm m0 m1 D T2.2
  have pk := P.2.2.1
  have pv := P.2.2.2.2.1
  obtain ⟨X, hX⟩ : ∃ X, X = spK (rs (B.2.2.2.1 (co + 1)) (B.1 co 10) m P.1 P.2) m 120 := ⟨_, rfl⟩
  rw [← hX] at er
  have cl1 : ∀ d j, d ≠ m → d ≠ co + 2 → (wI (clV B m) (co + 2) 8 0).1 d j = B.1 d j := fun d j h1 h2 => by
    rw [wI_1, if_neg (fun y => h2 y.1)]
    show (if d = m ∧ j < 14 then (if j = 10 then -1 else 0) else B.1 d j) = _
    rw [if_neg (fun y => h1 y.1)]
  have cl4 : ∀ d, ¬ (m + 1 ≤ d ∧ d ≤ m + 4) → (wI (clV B m) (co + 2) 8 0).2.2.2.1 d = B.2.2.2.1 d := fun d h1 => by
    funext z
    show (if d = m + 4 ∧ 0 ≤ z ∧ z < 96 then 0 else if d = m + 1 ∧ 0 ≤ z ∧ z < 120 then -1 else B.2.2.2.1 d z) = _
    rw [if_neg (by omega), if_neg (by omega)]
  have a1 : ∀ d j, d ≠ m → d ≠ co + 2 → X.1 d j = B.1 d j := fun d j h1 h2 => by
    rw [hX]
    show (rs (B.2.2.2.1 (co + 1)) (B.1 co 10) m P.1 P.2).1 d j = _
    rw [rs_i h2, fc.1 d j h1 (fun y => h2 y.1), cl1 d j h1 h2]
  have am : ∀ j, X.1 m j = P.1.1 m j := fun j => by
    rw [hX]
    show (rs (B.2.2.2.1 (co + 1)) (B.1 co 10) m P.1 P.2).1 m j = _
    rw [rs_i (by omega)]
  have a0 : X.1 (co + 2) 0 = P.2.1.1 ∧ X.1 (co + 2) 1 = P.2.1.2.1 ∧ X.1 (co + 2) 7 = P.2.1.2.2.2 := by
    rw [hX]
    refine ⟨?_, ?_, ?_⟩
    · show (rs (B.2.2.2.1 (co + 1)) (B.1 co 10) m P.1 P.2).1 (co + 2) 0 = _
      unfold rs
      rw [rsW_0]
    · show (rs (B.2.2.2.1 (co + 1)) (B.1 co 10) m P.1 P.2).1 (co + 2) 1 = _
      unfold rs
      rw [rsW_1]
    · show (rs (B.2.2.2.1 (co + 1)) (B.1 co 10) m P.1 P.2).1 (co + 2) 7 = _
      unfold rs
      rw [rsW_7]
  have a2 : X.2.1 = B.2.1 := by
    rw [hX]
    show P.1.2.1 = _
    rw [fc.2.1]
    rfl
  have a3 : ∀ d j, d ≠ co + 2 → X.2.2.1 d j = B.2.2.1 d j := fun d j h1 => by
    rw [hX]
    show (if d = co + 2 ∧ j = 2 then some (co + 1) else if d = co + 2 ∧ j = 9 then some m else P.1.2.2.1 d j) = _
    rw [if_neg (fun y => h1 y.1), if_neg (fun y => h1 y.1), fc.2.2.1]
    rfl
  have a4 : ∀ d, ¬ (m + 1 ≤ d ∧ d ≤ m + 4) → X.2.2.2.1 d = B.2.2.2.1 d := fun d h1 => by
    funext z
    rw [hX]
    show (if d = m + 1 ∧ 0 ≤ z ∧ z < 120 then _ else (rs (B.2.2.2.1 (co + 1)) (B.1 co 10) m P.1 P.2).2.2.2.1 d z) = _
    rw [if_neg (by omega)]
    by_cases q : d = co + 1
    · subst q
      unfold rs
      rw [rsW_t]
    · rw [rs_r q, fc.2.2.2.1 d h1, cl4 d h1]
  have a5 : X.2.2.2.2 = B.2.2.2.2 := by
    rw [hX]
    show P.1.2.2.2.2 = _
    rw [fc.2.2.2.2]
    rfl
  have ref : ∀ Y : Bk, Y.1 mo 6 = B.1 co 10 → Y.2.2.2.1 (mo + 5) = B.2.2.2.1 (co + 1) → ∃ (R' : Bk) (t' : Tg (B.2.2.2.1 (co + 1)) (B.1 co 10)), pr P.2 t' ∧ FRr (clM (wI Y mo 0 0)) R' ∧ (P.2.1.1 = 0 → LR m P.1 R') ∧ fX9_valley (E.1 + mo) (St E Y) = (if t'.1.1 = 0 then some (iI (R'.2.2.2.1 (mo + 6) 4), St E (cvM (ovB R' t') 4 0)) else some (iI (-4), St E (ovB R' t'))) := fun Y y6 y5 => by
    obtain ⟨t0, b1, b2, b3, b4⟩ := m_start (B := Y) rm D y6 y5
    obtain ⟨R', t', j1, j2, j3, j4⟩ := run (wI Y mo 0 0) t0 b1 b2 b3
    refine ⟨R', t', j2, j3, j4, ?_⟩
    have kb := t'.2.1
    have e12 : (ovB R' t').1 mo 12 = t'.1.1 := by
      unfold ovB
      rw [wI_1, if_neg (by omega), wI_1, if_neg (by omega), wI_1, if_neg (by omega), ms_12]
    have e6 : (cvM (ovB R' t') 4 0).2.2.2.1 (mo + 6) 0 = R'.2.2.2.1 (mo + 6) 4 := by
      rw [cvM_4]
      have b6 : bsz (mo + 6) = 1 := rfl
      rw [b6, if_pos (by omega), ov_4 (by omega)]
      rfl
    rw [b4, j1, some_bind]
    simp (disch := omega) only [fX9_valley_b71, m_over rm, some_bind, g9_12 rm.1, e12, iI_0, iI_eq, m_copyValley rm (show (0 : Int) ≤ 4 by omega) (show (4 : Int) ≤ 4 by omega) (show (0 : Int) ≤ 0 by omega) (show (0 : Int) ≤ 4 by omega) (show (4 : Int) ≠ 0 by omega), g9_16 rm.1, aI_ok (mk6 rm), e6]
  have ndP : ∀ d z, ¬ mscr d → (bsz d = 0 ∨ (bsz d ≤ z ∧ z < 4 * bsz d)) → ¬ rdP d z := fun d z h1 h2 h3 => by
    rcases rdP_b h3 with q | q
    · exact h1 q
    · omega
  have ndn : ∀ d z, d < mo + 6 → ¬ rdP d z := fun d z h1 h3 => by
    unfold rdP at h3
    omega
  by_cases good : P.2.1.1 = 0
  · obtain ⟨Y, hY⟩ : ∃ Y, Y = wI (wI (wR (wR (wI X co 10 0) co 7 (some m)) co 8 (some n)) co 11 0) co 12 (B.1 co 12 + 1) := ⟨_, rfl⟩
    have y1 : ∀ d j, d ≠ co → Y.1 d j = X.1 d j := fun d j h1 => by
      rw [hY, wI_1, if_neg (fun y => h1 y.1), wI_1, if_neg (fun y => h1 y.1)]
      show (wI X co 10 0).1 d j = _
      rw [wI_1, if_neg (fun y => h1 y.1)]
    have yc : ∀ j, Y.1 co j = if j = 12 then B.1 co 12 + 1 else if j = 11 then 0 else if j = 10 then 0 else B.1 co j := fun j => by
      rw [hY]
      show (if co = co ∧ j = 12 then B.1 co 12 + 1 else if co = co ∧ j = 11 then 0 else if co = co ∧ j = 10 then 0 else X.1 co j) = _
      rw [a1 co j (by omega) (by omega)]
      simp only [true_and]
    have y3 : ∀ d j, Y.2.2.1 d j = if d = co ∧ j = 8 then some n else if d = co ∧ j = 7 then some m else X.2.2.1 d j := fun d j => by
      rw [hY]
      rfl
    have y2 : Y.2.1 = X.2.1 := by rw [hY]; rfl
    have y4 : Y.2.2.2 = X.2.2.2 := by rw [hY]; rfl
    have y5 : Y.2.2.2.1 (mo + 5) = B.2.2.2.1 (co + 1) := by
      rw [y4, a4 _ (by omega)]
      exact T2.1
    obtain ⟨R', t', p1, p2, p3, p4⟩ := ref Y (by rw [y1 mo 6 (by omega), a1 mo 6 (by omega) (by omega)]; exact Tp.2.1) y5
    have tk : t'.1.1 = 0 := p1.1 ▸ good
    rw [if_pos tk] at p4
    have L' := p3 good
    obtain ⟨z1, z2, z3, z4, z5⟩ := z_fr (t := t') p2 y5
    have lines : R'.2.2.2.1 (mo + 6) 4 = P.1.1 m 0 := L'.1.2.2.1
    have ms' : ∀ d z, bsz d = 0 → (cvM (ovB R' t') 4 0).2.2.2.1 d z = (ovB R' t').2.2.2.1 d z := fun d z h0 => by
      rw [cvM_4, if_neg (by omega)]
    have blk : ∀ d z, 0 ≤ z → z < bsz d → (cvM (ovB R' t') 4 0).2.2.2.1 d z = (ovB R' t').2.2.2.1 d (bsz d * 4 + z) := fun d z h0 h1 => by
      rw [cvM_4, if_pos (by omega), show bsz d * 4 + (z - bsz d * 0) = bsz d * 4 + z by omega]
    have rowm : ∀ d z, d < 58 → (cvM (ovB R' t') 4 0).2.2.2.1 d z = X.2.2.2.1 d z := fun d z h0 => by
      rw [ms' d z (bsz_0 (by omega)), z4 d z (ndn d z (by omega)), y4]
    have F1 : ∀ j, (cvM (ovB R' t') 4 0).1 m j = P.1.1 m j := fun j => by
      rw [cvM_1, z1 m j (by omega), y1 m j (by omega), am]
    have xm : ∀ d z, d ≠ m + 1 → d ≠ co + 1 → X.2.2.2.1 d z = P.1.2.2.2.1 d z := fun d z h0 h1 => by
      rw [hX]
      show (if d = m + 1 ∧ 0 ≤ z ∧ z < 120 then _ else (rs (B.2.2.2.1 (co + 1)) (B.1 co 10) m P.1 P.2).2.2.2.1 d z) = _
      rw [if_neg (fun y => h0 y.1), rs_r h1]
    have fin := lr_fin (B2 := cvM (ovB R' t') 4 0) L' F1 (fun l h l0 l1 h0 h1 => by
      rw [rowm (m + 1) _ (by omega), hX]
      show (if m + 1 = m + 1 ∧ 0 ≤ l * 24 + h ∧ l * 24 + h < 120 then pwF ((rs (B.2.2.2.1 (co + 1)) (B.1 co 10) m P.1 P.2).2.2.2.1 (m + 1)) ((l * 24 + h) / 24) (((l * 24 + h) % 24).toNat + 1) else _) = _
      rw [if_pos ⟨rfl, by omega, by omega⟩, rs_r (by omega), show (l * 24 + h) / 24 = l by omega, show (l * 24 + h) % 24 = h by omega]) (fun z => by rw [rowm _ z (by omega), xm _ z (by omega) (by omega)]) (fun z => by rw [rowm _ z (by omega), xm _ z (by omega) (by omega)]) (fun z => by rw [rowm _ z (by omega), xm _ z (by omega) (by omega)]) (by
      have := blk (mo + 6) 0 (by omega) (by decide)
      rw [this, ov_4 (by omega)]
      rfl) (fun k h0 h1 => by
      have := blk (mo + 7) k h0 h1
      rw [this, ov_4 (by omega)]
      rfl) (fun k h0 h1 => by
      have := blk (mo + 8) k h0 h1
      rw [this, ov_4 (by omega)]
      rfl) (fun k h0 h1 => by
      have := blk (mo + 10) k h0 h1
      rw [this, ov_4 (by omega)]
      rfl) (fun k h0 h1 => by
      have := blk (mo + 11) k h0 h1
      rw [this, ov_4 (by omega)]
      rfl) (fun k h0 h1 => by
      have := blk (mo + 12) k h0 h1
      rw [this, ov_4 (by omega)]
      rfl)
    have f3 : ∀ d j, (cvM (ovB R' t') 4 0).2.2.1 d j = if d = co ∧ j = 8 then some n else if d = co ∧ j = 7 then some m else X.2.2.1 d j := fun d j => by
      rw [cvM_3, z3]
      exact y3 d j
    have f1 : ∀ d j, d ≠ mo → (cvM (ovB R' t') 4 0).1 d j = Y.1 d j := fun d j hd => by rw [cvM_1, z1 d j hd]
    refine ⟨iI (P.1.1 m 0), Y, cvM (ovB R' t') 4 0, ?_, ?_, ⟨fun d j q1 q2 q3 q4 => ?_, fun d j q1 => ?_, fun d j q1 q2 => ?_, fun d z q1 q2 q3 => ?_, fun d z q1 => ?_⟩, ?_, ⟨?_, ?_⟩, Or.inr ⟨⟨⟨⟨rc, ?_, vkm, rm⟩, fin⟩, ⟨pk3, pk10, rk, ?_⟩, ⟨m0, m1, n0, n1, by omega⟩, ?_⟩, ?_, ?_, fun i' j' a b c => ?_⟩⟩
    · have e7 : gR (St E (wI X co 10 0)) (E.1 + co) 8 7 = some (E.1 + n) := g8_7 rc (by show X.2.2.1 co 7 = _; rw [a3 co 7 (by omega)]; exact rn)
      have e8 : gR (St E (wI X co 10 0)) (E.1 + co) 8 8 = some (E.1 + m) := g8_8 rc (by show X.2.2.1 co 8 = _; rw [a3 co 8 (by omega)]; exact r8)
      have e12 : (wR (wR (wI X co 10 0) co 7 (some m)) co 8 (some n)).1 co 12 = B.1 co 12 := by
        show (wI X co 10 0).1 co 12 = _
        rw [wI_1, if_neg (by omega), a1 co 12 (by omega) (by omega)]
      have e7' : gR (St E Y) (E.1 + co) 8 7 = some (E.1 + m) := g8_7 rc (by rw [y3, if_neg (by omega), if_pos ⟨rfl, rfl⟩])
      have em : Y.1 m 0 = P.1.1 m 0 := by rw [y1 m 0 (by omega), am]
      simp only [fX8_valley, c8 rc, some_bind, g8_1 rc, g8_0 rc, g8_10 rc, g8_8 rc r8, er, bI_t good, p8_10 rc, e7, e8, p8_7 rc, p8_8 rc, s8_forgetAll rc, e12]
      rw [if_neg (by decide), ← hY, e7', some_bind, g6_0 vkm.1, em]
      rfl
    · rw [p4, lines]
    · by_cases qc : d = co
      · subst qc
        have := q3 rfl
        rw [f1 co j (by omega), yc, if_neg (by omega), if_neg (by omega), if_neg (by omega)]
      · rw [f1 d j (fun y => q4 y), y1 d j qc, a1 d j q1 q2]
    · rw [cvM_2, z2 d j q1, y2, a2]
    · rw [f3, if_neg (fun y => by have := q2 y.1; omega), if_neg (fun y => by have := q2 y.1; omega), a3 d j q1]
    · rw [cvM_4, if_neg (by omega), z4 d z (ndP d z q1 q3), y4, a4 d (by omega)]
    · rw [cvM_5, z5, y4, a5]
    · unfold rTp
      have m6 : (cvM (ovB R' t') 4 0).1 mo 6 = 0 := by
        show (ovB R' t').1 mo 6 = 0
        unfold ovB
        rw [wI_1, if_neg (by omega), wI_1, if_neg (by omega), wI_1, if_pos ⟨rfl, rfl⟩]
      have m14 : (cvM (ovB R' t') 4 0).1 mo 14 = 0 := by
        show (ovB R' t').1 mo 14 = 0
        unfold ovB
        rw [wI_1, if_neg (by omega), wI_1, if_pos ⟨rfl, rfl⟩, tk]
      have m15 : (cvM (ovB R' t') 4 0).1 mo 15 = -1 := by
        show (ovB R' t').1 mo 15 = -1
        unfold ovB
        rw [wI_1, if_pos ⟨rfl, rfl⟩, if_pos tk]
      have c10 : (cvM (ovB R' t') 4 0).1 co 10 = 0 := by rw [f1 co 10 (by omega), yc]; rfl
      rw [m6, m14, m15, c10, f1 (co + 2) 0 (by omega), f1 (co + 2) 1 (by omega), y1 _ _ (by omega), y1 _ _ (by omega), a0.1, a0.2.1, good, gp.1 good]
      exact ⟨by omega, rfl, fun z z0 z1 => by omega, rfl, rfl, ⟨by omega, by omega⟩, ⟨by omega, by omega⟩⟩
    · funext z
      rw [ms' _ z (bsz_0 (by omega)), ov_t, rowm _ z (by omega), a4 _ (by omega)]
    · rw [f1 (co + 2) 7 (by omega), y1 _ _ (by omega), a0.2.2]
      exact pv
    · rw [f3, if_neg (by omega), if_pos ⟨rfl, rfl⟩]
    · rw [f3, if_pos ⟨rfl, rfl⟩]
    · obtain ⟨-, ⟨i1, i2⟩, i3, i4⟩ := PLn
      refine ⟨Or.inl (by rw [f1 co 11 (by omega), yc]; rfl), ⟨?_, ?_⟩, ?_, ?_⟩
      · rw [rowm _ _ (by omega), a4 _ (by omega)]
        exact i1
      · rw [cvM_2, z2 3 7 (by omega), y2, a2]
        exact i2
      · rw [rowm _ _ (by omega), a4 _ (by omega)]
        exact i3
      · rw [cvM_2, z2 10 7 (by omega), y2, a2]
        exact i4
    · rw [f1 co 11 (by omega), yc]
      rfl
    · rw [f1 co 12 (by omega), yc]
      rfl
    · rw [F1] at c
      rw [rowm _ _ (by omega), rowm _ _ (by omega), rowm _ _ (by omega), rowm _ _ (by omega), xm _ _ (by omega) (by omega), xm _ _ (by omega) (by omega), xm _ _ (by omega) (by omega), xm _ _ (by omega) (by omega)]
      exact dd i' j' a b c
  · obtain ⟨Y, hY⟩ : ∃ Y, Y = wI X co 10 0 := ⟨_, rfl⟩
    have y1 : ∀ d j, ¬ (d = co ∧ j = 10) → Y.1 d j = X.1 d j := fun d j h1 => by rw [hY, wI_1, if_neg h1]
    have y10 : Y.1 co 10 = 0 := by rw [hY, wI_1, if_pos ⟨rfl, rfl⟩]
    have y2 : Y.2 = X.2 := by rw [hY]; rfl
    have y5 : Y.2.2.2.1 (mo + 5) = B.2.2.2.1 (co + 1) := by
      rw [y2, a4 _ (by omega)]
      exact T2.1
    obtain ⟨R', t', p1, p2, p3, p4⟩ := ref Y (by rw [y1 mo 6 (by omega), a1 mo 6 (by omega) (by omega)]; exact Tp.2.1) y5
    have tk : ¬ t'.1.1 = 0 := fun y => good (p1.1.trans y)
    rw [if_neg tk] at p4
    obtain ⟨z1, z2, z3, z4, z5⟩ := z_fr (t := t') p2 y5
    have en : ∀ j, (ovB R' t').1 n j = B.1 n j := fun j => by rw [z1 n j (by omega), y1 n j (by omega), a1 n j (by omega) (by omega)]
    have rw0 : ∀ d z, d < 58 → ¬ (m + 1 ≤ d ∧ d ≤ m + 4) → (ovB R' t').2.2.2.1 d z = B.2.2.2.1 d z := fun d z h0 h1 => by rw [z4 d z (ndn d z (by omega)), y2, a4 d h1]
    have rb0 : ∀ d z, ¬ rdP d z → mo ≤ d → (ovB R' t').2.2.2.1 d z = B.2.2.2.1 d z := fun d z h0 h1 => by rw [z4 d z h0, y2, a4 d (by omega)]
    have f3 : ∀ d j, d ≠ co + 2 → (ovB R' t').2.2.1 d j = B.2.2.1 d j := fun d j h0 => by rw [z3, y2, a3 d j h0]
    have c11 : (ovB R' t').1 co 11 = B.1 co 11 := by rw [z1 co 11 (by omega), y1 co 11 (by omega), a1 co 11 (by omega) (by omega)]
    refine ⟨iI (-4), Y, ovB R' t', ?_, p4, ⟨fun d j q1 q2 q3 q4 => ?_, fun d j q1 => ?_, fun d j q1 q2 => ?_, fun d z q1 q2 q3 => ?_, fun d z q1 => ?_⟩, ?_, ⟨?_, ?_⟩, Or.inl ⟨⟨?_, ⟨pk3, pk10, vkm, ?_⟩, ⟨n0, n1, m0, m1, sep⟩, ?_⟩, c11, ?_, ?_⟩⟩
    · simp only [fX8_valley, c8 rc, some_bind, g8_1 rc, g8_0 rc, g8_10 rc, g8_8 rc r8, er, bI_f good, p8_10 rc]
      rw [if_pos (by decide), hY]
    · rw [z1 d j (fun y => q4 y), y1 d j (fun y => by have := q3 y.1; omega), a1 d j q1 q2]
    · rw [z2 d j q1, y2, a2]
    · exact f3 d j q1
    · rw [z4 d z (ndP d z q1 q3), y2, a4 d (by omega)]
    · rw [z5, y2, a5]
    · unfold rTp
      have m6 : (ovB R' t').1 mo 6 = 0 := by
        unfold ovB
        rw [wI_1, if_neg (by omega), wI_1, if_neg (by omega), wI_1, if_pos ⟨rfl, rfl⟩]
      have m14 : (ovB R' t').1 mo 14 = P.2.1.1 := by
        unfold ovB
        rw [wI_1, if_neg (by omega), wI_1, if_pos ⟨rfl, rfl⟩, p1.1]
      have m15 : (ovB R' t').1 mo 15 = P.2.1.2.1 := by
        unfold ovB
        rw [wI_1, if_pos ⟨rfl, rfl⟩, if_neg tk, p1.2.1]
      have lb := Tp.1
      have g2 := gp.2
      rw [m6, m14, m15, z1 co 10 (by omega), y10, z1 (co + 2) 0 (by omega), z1 (co + 2) 1 (by omega), y1 _ _ (by omega), y1 _ _ (by omega), a0.1, a0.2.1]
      exact ⟨by omega, rfl, fun z z0 z1 => by omega, rfl, rfl, ⟨by omega, by omega⟩, ⟨by omega, by omega⟩⟩
    · funext z
      rw [ov_t, z4 _ z (ndn _ z (by omega)), y2, a4 _ (by omega)]
    · rw [z1 (co + 2) 7 (by omega), y1 _ _ (by omega), a0.2.2]
      exact pv
    · refine rv_to n0 R1 (by rw [f3 co 7 (by omega)]; exact rn) en (fun k z k0 k1 => rw0 k z (by omega) (by omega)) (rb0 _ _ (by unfold rdP; omega) (by omega)) (fun z q0 q1 => rb0 _ _ (by unfold rdP; omega) (by omega)) (fun z q0 q1 => rb0 _ _ (by unfold rdP; omega) (by omega)) (fun z q0 q1 => rb0 _ _ (by unfold rdP; omega) (by omega)) (fun z q0 q1 => rb0 _ _ (by unfold rdP; omega) (by omega)) (fun z q0 q1 => rb0 _ _ (by unfold rdP; omega) (by omega)) (fun z q0 q1 => rb0 _ _ (by unfold rdP; omega) (by omega))
    · rw [f3 co 8 (by omega)]
      exact r8
    · refine pl_to PLn c11 (f3 3 6 (by omega)) en (fun k z k0 k1 => rw0 k z (by omega) (by omega)) (fun k z k0 k1 => rw0 k z (by omega) (by omega)) ?_ ?_
      · rw [z2 3 7 (by omega), y2, a2]
      · rw [z2 10 7 (by omega), y2, a2]
    · rw [z1 co 12 (by omega), y1 co 12 (by omega), a1 co 12 (by omega) (by omega)]
    · exact vyN_eq en (fun k z k0 k1 => rw0 k z (by omega) (by omega))
end OW
