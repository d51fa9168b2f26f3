/-! door, meets; where a drop lies -/
section FQS
variable {E : Ev} {B C : Bk} {n m : Nat} {f g : Hp → Option (Int32 × Hp)}
theorem QF_rf (F : FB E B n m) (hst : 0 < B.1 n 0) {k2 : Hp → Option (Int32 × Hp)} {v : Int32} (hf : f (St E B) = some (v, St E B)) (hg : g (St E B) = (fX9_asTold (E.1 + mo) (St E (wI B mo 0 0))).bind k2)
    (hk2 : ∀ C, FB E C n m → (∀ j, C.1 n j = B.1 n j) → FQ C (vyN B n) (B.1 n 4).toNat → FW C (vyN B n) (fsF (vyN B n) (B.1 n 4).toNat).2 → vyN C n = vyN B n → ∃ C', k2 (St E C) = some (v, St E C') ∧ sc C C') : QF E B n m f g := by
  have hmo : mo = 58 := rfl
  obtain ⟨n1, n2, m1, m2, nm⟩ := F.2.2.1
  have s0 : sc B (wI B mo 0 0) := sc_I (by unfold msv; omega)
  have F0 := sc_FB s0 F
  have wn : ∀ j, (wI B mo 0 0).1 n j = B.1 n j := fun j => w0n (by omega) j
  have ev0 : vyN (wI B mo 0 0) n = vyN B n := vyN_eq wn (fun _ _ _ _ => rfl)
  obtain ⟨D, d1, d2, d3, d4⟩ := m_asTold F0 (by rw [wn]; exact hst)
  rw [ev0, wn] at d3 d4
  have Fd := sc_FB d2 F0
  have dn : ∀ j, D.1 n j = B.1 n j := fun j => by rw [sc_n d2 (by omega)]; exact wn j
  have evd : vyN D n = vyN B n := by rw [← ev0]; exact vyN_eq (sc_n d2 (by omega)) (fun k z a b => sc_r d2 (by omega) z)
  obtain ⟨K, k1, k2'⟩ := hk2 D Fd dn d3 d4 evd
  refine ⟨v, B, K, hf, ?_, fF_sc (sc_tr (sc_tr s0 d2) k2'), sc_FB k2' Fd⟩
  rw [hg, d1, some_bind, k1]
theorem o_door {d k : Int} (F : FB E B n m) (hd : i32 d) (hk : i32 k) : QF E B n m (fX8_door (E.1 + co) (iI d) (iI k)) (fX9_door (E.1 + mo) (iI d) (iI k)) := by
  have rc := F.1.1.1
  have rn := F.1.1.2.1
  have rk := F.1.1.2.2.1
  have rm := F.1.1.2.2.2
  have w4 := F.1.2.1.2.2.2.2.1
  have w9 := F.1.2.1.2.2.2.2.2.2.2.2.2
  obtain ⟨k1, k2⟩ := hk
  have rf : ∀ C, FB E C n m → (∀ j, C.1 n j = B.1 n j) → fX9_door (E.1 + mo) (iI d) (iI k) (St E C) = if (0 ≤ d ∧ d < B.1 n 9) then (if 0 ≤ k ∧ k ≤ 3 then (fX9_asTold (E.1 + mo) (St E (wI C mo 0 0))).bind (fun s6 => if 3 ≤ k then ((gR s6 (E.1 + mo) 9 32).bind fun v8 => (aI s6 v8 (iI d)).bind fun v9 => some (v9, s6)) else ((gR s6 (E.1 + mo) 9 22).bind fun v10 => (aI s6 v10 (iI (3 * d + k))).bind fun v11 => some (v11, s6))) else some (iI (-2), St E (wI C mo 0 0))) else some (iI (-2), St E (wI C mo 0 0)) := fun C FC cn => by
    simp (disch := omega) only [fX9_door, fX9_door_b25, c9 rm.1, p9_0 rm.1, some_bind, mg_isDoor FC hd, iI_0, ib, cn, jI_i, jI_0, jI_3, m_in, iI_le, iI_mul, iI_add]
  have cf : fX8_door (E.1 + co) (iI d) (iI k) (St E B) = if (0 ≤ d ∧ d < B.1 n 9) then (if k < 0 then some (iI (-2), St E B) else if k ≤ 3 then (if k = 3 then (fX8_flown (E.1 + co) (St E B)).bind (fun r9 => (fX7_wantedAtEnd r9.1 (iI d) r9.2).bind fun r10 => some (r10.1, r10.2)) else (fX6_doorFact (E.1 + n) (iI d) (iI k) (St E B)).bind fun r8 => some (r8.1, r8.2)) else some (iI (-2), St E B)) else some (iI (-2), St E B) := by
    simp (disch := omega) only [fX8_door, fX8_door_b20, c8 rc, g8_7 rc rn, s_hasDoor hd rk F.1.2.1, some_bind, iI_0, ib, iI_lt, iI_le, iI_eq]
  by_cases c : (0 ≤ d ∧ d < B.1 n 9) ∧ 0 ≤ k ∧ k ≤ 3
  · obtain ⟨c1, c2⟩ := c
    have hst := st_door F c1
    have hV := rv_VOK F.1 hst
    by_cases q : k = 3
    · refine QF_fl F hst (v := iI ((fsF (vyN B n) (B.1 n 4).toNat).2 d)) (k := fun r9 => (fX7_wantedAtEnd r9.1 (iI d) r9.2).bind fun r10 => some (r10.1, r10.2)) (k2 := fun s6 => (gR s6 (E.1 + mo) 9 32).bind fun v8 => (aI s6 v8 (iI d)).bind fun v9 => some (v9, s6)) ?_ (fun C FC cn I h6 _ => ?_) (fun C FC cn => ?_) (fun C FC cn I J _ => ⟨C, ?_, sc_rfl⟩)
      · rw [cf, if_pos c1, if_neg (by omega), if_pos (by omega), if_pos q]
      · dsimp only
        rw [q7_wanted (a := 0) FC.2.1.1 h6 rk hV (cn 4) I (by omega) c1.1 c1.2, some_bind]
        rfl
      · rw [rf C FC cn, if_pos c1, if_pos c2]
        simp only [if_pos (show 3 ≤ k by omega)]
      · have e := J d c1.1 c1.2
        simp (disch := omega) only [g9_32 rm.1, some_bind, aI_ok (mk19 rm), e]
    · refine QF_rf F hst (v := iI (B.2.2.2.1 (n + 3) (d * 3 + k))) (k2 := fun s6 => (gR s6 (E.1 + mo) 9 22).bind fun v10 => (aI s6 v10 (iI (3 * d + k))).bind fun v11 => some (v11, s6)) ?_ ?_ (fun C FC cn I J ev => ⟨C, ?_, sc_rfl⟩)
      · rw [cf, if_pos c1, if_neg (by omega), if_pos (by omega), if_neg q, s_doorFact rk c1.1 (by omega) c2.1 (by omega), some_bind]
      · rw [rf B F (fun _ => rfl), if_pos c1, if_pos c2]
        simp only [if_neg (show ¬ 3 ≤ k by omega)]
      · have e := vr_d FC.1 (s := d) (k := k) c1.1 (by rw [cn]; exact c1.2) c2.1 (by omega)
        have e2 : C.2.2.2.1 (n + 3) (d * 3 + k) = B.2.2.2.1 (n + 3) (d * 3 + k) := congrFun (congrFun (congrArg (fun V : Vy => V.2.2.2.1) ev) d) k
        simp (disch := omega) only [g9_22 rm.1, some_bind, aI_ok (mk11 rm), e, e2]
  · refine QF_no F (v := iI (-2)) ?_ ?_
    · rw [cf]
      repeat' split
      all_goals first | rfl | (exfalso; omega)
    · rw [rf B F (fun _ => rfl)]
      repeat' split
      all_goals first | rfl | (exfalso; omega)
def eqF (V : Vy) (s t h : Nat) (k : Int) : Prop := (fsF V h).1 s k = (fsF V h).1 t k
theorem m_meets43 {V : Vy} {s t h H : Nat} {y z : Int32} (rm : mKd E mo) (hV : VOK V) (I : FQ C V H) (s1 : (s : Int) < V.1 8) (t1 : (t : Int) < V.1 8) (h1 : h + 1 ≤ H) (h2 : h < 24) : iter (fX9_meets_l43 (E.1 + mo) (iI s) (iI t) y (iI h)) FU (iI 1, iI 0, St E C) = some (iI (if (fsF V (h + 1)).1 s 0 = (fsF V (h + 1)).1 t 0 ∧ (fsF V (h + 1)).1 s 1 = (fsF V (h + 1)).1 t 1 ∧ (fsF V (h + 1)).1 s 2 = (fsF V (h + 1)).1 t 2 then 1 else 0), St E C) := by
  have hV' := hV
  obtain ⟨v1, v2, v3, -⟩ := hV'
  have i1 := fsF_in hV (h := h + 1) (s := (s : Int)) (by omega) s1
  have i2 := fsF_in hV (h := h + 1) (s := (t : Int)) (by omega) t1
  have bd : ∀ (u : Nat), (u : Int) < V.1 8 → ∀ k : Int, 0 ≤ k → k < 3 → 0 ≤ (fsF V (h + 1)).1 u k ∧ (fsF V (h + 1)).1 u k < 8 := fun u hu k k0 k1 => by
    have i := fsF_in hV (h := h + 1) (s := (u : Int)) (by omega) hu
    obtain ⟨a0, a1, a2, -⟩ := i
    rcases (show k = 0 ∨ k = 1 ∨ k = 2 by omega) with rfl | rfl | rfl <;> omega
  obtain ⟨r, e1, e2⟩ := iter_m (F := fX9_meets_l43 (E.1 + mo) (iI s) (iI t) y (iI h)) (fun a => (∃ j : Int, 0 ≤ j ∧ j ≤ 3 ∧ a = (iI 1, iI j, St E C) ∧ ∀ k, 0 ≤ k → k < j → (fsF V (h + 1)).1 s k = (fsF V (h + 1)).1 t k) ∨ (∃ j : Int, 0 ≤ j ∧ j ≤ 3 ∧ a = (iI 0, iI j, St E C) ∧ ∃ k, 0 ≤ k ∧ k < 3 ∧ ¬ (fsF V (h + 1)).1 s k = (fsF V (h + 1)).1 t k)) (fun a => (if a.1 = iI 0 then 0 else 1) + (3 - a.2.1.toInt).toNat) (fun r => r = (iI (if (fsF V (h + 1)).1 s 0 = (fsF V (h + 1)).1 t 0 ∧ (fsF V (h + 1)).1 s 1 = (fsF V (h + 1)).1 t 1 ∧ (fsF V (h + 1)).1 s 2 = (fsF V (h + 1)).1 t 2 then 1 else 0), St E C))
    (fun a ha => by
      rcases ha with ⟨j, j0, j1, rfl, hk⟩ | ⟨j, j0, j1, rfl, k, k0, k1, hk⟩
      · by_cases q : j = 3
        · right
          refine ⟨_, ?_, rfl⟩
          simp (disch := omega) only [fX9_meets_l43, iI_le]
          rw [if_pos (by omega), if_pos ⟨hk 0 (by omega) (by omega), hk 1 (by omega) (by omega), hk 2 (by omega) (by omega)⟩]
        · left
          have b1 := bd s s1 j j0 (by omega)
          have b2 := bd t t1 j j0 (by omega)
          have step : fX9_meets_l43 (E.1 + mo) (iI s) (iI t) y (iI h) (iI 1, iI j, St E C) = some (.inl (if (fsF V (h + 1)).1 s j = (fsF V (h + 1)).1 t j then iI 1 else iI 0, iI (j + 1), St E C)) := by
            simp (disch := omega) only [fX9_meets_l43, fX9_meets_b80, iI_le, iI_0, q9_spot (k := j) rm hV I s1 h1 h2 j0 (by omega), q9_spot (k := j) rm hV I t1 h1 h2 j0 (by omega), some_bind, iI_eq, iI_add]
            rw [if_neg (by omega), if_neg (by omega)]
            split <;> rfl
          refine ⟨_, step, ?_, ?_⟩
          · by_cases q2 : (fsF V (h + 1)).1 s j = (fsF V (h + 1)).1 t j
            · left
              refine ⟨j + 1, by omega, by omega, by rw [if_pos q2], fun k k0 k1 => ?_⟩
              by_cases q3 : k = j
              · rw [q3]; exact q2
              · exact hk k k0 (by omega)
            · right
              exact ⟨j + 1, by omega, by omega, by rw [if_neg q2], j, j0, by omega, q2⟩
          · dsimp only
            rw [iI_toInt (by omega) (by omega), iI_toInt (by omega) (by omega)]
            have c10 : ¬ iI 1 = iI 0 := by decide
            rw [if_neg c10]
            by_cases q2 : (fsF V (h + 1)).1 s j = (fsF V (h + 1)).1 t j
            · rw [if_pos q2, if_neg c10]
              omega
            · rw [if_neg q2, if_pos rfl]
              omega
      · right
        refine ⟨_, ?_, rfl⟩
        have no : ¬ ((fsF V (h + 1)).1 s 0 = (fsF V (h + 1)).1 t 0 ∧ (fsF V (h + 1)).1 s 1 = (fsF V (h + 1)).1 t 1 ∧ (fsF V (h + 1)).1 s 2 = (fsF V (h + 1)).1 t 2) := fun w => by
          rcases (show k = 0 ∨ k = 1 ∨ k = 2 by omega) with rfl | rfl | rfl
          · exact hk w.1
          · exact hk w.2.1
          · exact hk w.2.2
        simp (disch := omega) only [fX9_meets_l43, iI_le, iI_0]
        rw [if_neg no]
        split <;> rfl) FU (iI 1, iI 0, St E C) (Or.inl ⟨0, by omega, by omega, rfl, fun k k0 k1 => by omega⟩) (by
      have : (4 : Int) < FU := FU_big (by omega)
      show (if iI 1 = iI 0 then 0 else 1) + (3 - (iI 0).toInt).toNat < FU
      rw [iI_toInt (by omega) (by omega), if_neg (show ¬ iI 1 = iI 0 by decide)]
      omega)
  rw [e1, e2]
theorem o_meets {s t : Int} (F : FB E B n m) (hs : i32 s) (ht : i32 t) : QF E B n m (fX8_meets (E.1 + co) (iI s) (iI t)) (fX9_meets (E.1 + mo) (iI s) (iI t)) := by
  have rc := F.1.1.1
  have rn := F.1.1.2.1
  have rk := F.1.1.2.2.1
  have rm := F.1.1.2.2.2
  have w4 := F.1.2.1.2.2.2.2.1
  have w8 := F.1.2.1.2.2.2.2.2.2.2.2.1
  have rf : ∀ C, FB E C n m → (∀ j, C.1 n j = B.1 n j) → fX9_meets (E.1 + mo) (iI s) (iI t) (St E C) = if (0 ≤ s ∧ s < B.1 n 8) ∧ (0 ≤ t ∧ t < B.1 n 8) ∧ ¬ s = t then (fX9_asTold (E.1 + mo) (St E (wI C mo 0 0))).bind (fun s4 => (iter (fX9_meets_l26 (E.1 + mo) (iI s) (iI t)) FU (iI 0, iI 0, s4)).bind fun r12 => some (r12.1, r12.2)) else some (iI (-2), St E (wI C mo 0 0)) := fun C FC cn => by
    simp only [fX9_meets, c9 rm.1, p9_0 rm.1, some_bind, mg_areTwo FC hs ht, iI_0, ib, cn]
  by_cases c : (0 ≤ s ∧ s < B.1 n 8) ∧ (0 ≤ t ∧ t < B.1 n 8) ∧ ¬ s = t
  · obtain ⟨c1, c2, c3⟩ := c
    have hst := st_shop F c1
    have hV := rv_VOK F.1 hst
    obtain ⟨a, rfl⟩ : ∃ a : Nat, s = a := ⟨s.toNat, by omega⟩
    obtain ⟨b, rfl⟩ : ∃ b : Nat, t = b := ⟨t.toNat, by omega⟩
    have bd : ∀ (u h : Nat), (u : Int) < B.1 n 8 → (0 ≤ (fsF (vyN B n) h).1 u 0 ∧ (fsF (vyN B n) h).1 u 0 < 8) ∧ (0 ≤ (fsF (vyN B n) h).1 u 1 ∧ (fsF (vyN B n) h).1 u 1 < 8) ∧ (0 ≤ (fsF (vyN B n) h).1 u 2 ∧ (fsF (vyN B n) h).1 u 2 < 8) := fun u h hu => by
      have hV' := hV
      obtain ⟨v1, v2, v3, -⟩ := hV'
      obtain ⟨a0, a1, a2, -⟩ := fsF_in hV (h := h) (s := (u : Int)) (by omega) hu
      omega
    refine QF_fl F hst (v := fo (fun h x => if (fsF (vyN B n) (h.toNat + 1)).1 a 0 = (fsF (vyN B n) (h.toNat + 1)).1 b 0 ∧ (fsF (vyN B n) (h.toNat + 1)).1 a 1 = (fsF (vyN B n) (h.toNat + 1)).1 b 1 ∧ (fsF (vyN B n) (h.toNat + 1)).1 a 2 = (fsF (vyN B n) (h.toNat + 1)).1 b 2 then x ||| ish (iI 1) (iI h) else x) (iI 0) (B.1 n 4).toNat) (k := fun r5 => (iter (fX8_meets_l26 (E.1 + co) (iI a) (iI b) r5.1) FU (iI 0, iI 0, r5.2)).bind fun r11 => some (r11.1, r11.2)) (k2 := fun s4 => (iter (fX9_meets_l26 (E.1 + mo) (iI a) (iI b)) FU (iI 0, iI 0, s4)).bind fun r12 => some (r12.1, r12.2)) ?_ (fun C FC cn I _ _ => ?_) (fun C FC cn => ?_) (fun C FC cn I J _ => ⟨C, ?_, sc_rfl⟩)
    · simp only [fX8_meets, c8 rc, g8_7 rc rn, s_hasTwoShops hs ht rk F.1.2.1, some_bind, iI_0, ib]
      rw [if_pos ⟨c1, c2, c3⟩]
    · have lp : iter (fX8_meets_l26 (E.1 + co) (iI a) (iI b) (E.1 + 3)) FU (iI 0, iI 0, St E C) = some (fo (fun h x => if (fsF (vyN B n) (h.toNat + 1)).1 a 0 = (fsF (vyN B n) (h.toNat + 1)).1 b 0 ∧ (fsF (vyN B n) (h.toNat + 1)).1 a 1 = (fsF (vyN B n) (h.toNat + 1)).1 b 1 ∧ (fsF (vyN B n) (h.toNat + 1)).1 a 2 = (fsF (vyN B n) (h.toNat + 1)).1 b 2 then x ||| ish (iI 1) (iI h) else x) (iI 0) (B.1 n 4).toNat, St E C) := by
        refine iter_fo (fun j x => (x, iI j, St E C)) (fun h x => if (fsF (vyN B n) (h.toNat + 1)).1 a 0 = (fsF (vyN B n) (h.toNat + 1)).1 b 0 ∧ (fsF (vyN B n) (h.toNat + 1)).1 a 1 = (fsF (vyN B n) (h.toNat + 1)).1 b 1 ∧ (fsF (vyN B n) (h.toNat + 1)).1 a 2 = (fsF (vyN B n) (h.toNat + 1)).1 b 2 then x ||| ish (iI 1) (iI h) else x) (iI 0) (B.1 n 4).toNat _ (fun _ _ => True) trivial (fun _ _ _ _ => trivial) (fun j x hj _ => ?_) ?_ (N := FU) (FUh w4.2)
        · have ba := bd a (j + 1) c1.2
          have bb := bd b (j + 1) c2.2
          simp (disch := omega) only [fX8_meets_l26, fX8_meets_b62, fX8_meets_b95, g8_7 rc FC.1.1.2.1, g6_4 rk.1, cn, some_bind, iI_le, q7_fact (h := j) (k := 2) FC.2.1.1 I hV c1.2 (by omega) (by omega) (by omega) (by omega) (by omega), q7_fact (h := j) (k := 2) FC.2.1.1 I hV c2.2 (by omega) (by omega) (by omega) (by omega) (by omega), q7_column (h := j) FC.2.1.1 I hV c1.2 (by omega) (by omega) (by omega), q7_column (h := j) FC.2.1.1 I hV c2.2 (by omega) (by omega) (by omega), iI_0, iI_eq, lt_, iI_add, Int.toNat_natCast]
          rw [if_neg (by omega)]
          repeat' split
          all_goals first | rfl | (exfalso; omega)
        · simp (disch := omega) only [fX8_meets_l26, g8_7 rc FC.1.1.2.1, g6_4 rk.1, cn, some_bind, iI_le]
          rw [if_pos (by omega)]
      dsimp only
      rw [lp, some_bind]
    · rw [rf C FC cn, if_pos ⟨c1, c2, c3⟩]
    · have lp : iter (fX9_meets_l26 (E.1 + mo) (iI a) (iI b)) FU (iI 0, iI 0, St E C) = some (fo (fun h x => if (fsF (vyN B n) (h.toNat + 1)).1 a 0 = (fsF (vyN B n) (h.toNat + 1)).1 b 0 ∧ (fsF (vyN B n) (h.toNat + 1)).1 a 1 = (fsF (vyN B n) (h.toNat + 1)).1 b 1 ∧ (fsF (vyN B n) (h.toNat + 1)).1 a 2 = (fsF (vyN B n) (h.toNat + 1)).1 b 2 then x ||| ish (iI 1) (iI h) else x) (iI 0) (B.1 n 4).toNat, St E C) := by
        have h3 := vr_h3 FC.1
        refine iter_fo (fun j x => (x, iI j, St E C)) (fun h x => if (fsF (vyN B n) (h.toNat + 1)).1 a 0 = (fsF (vyN B n) (h.toNat + 1)).1 b 0 ∧ (fsF (vyN B n) (h.toNat + 1)).1 a 1 = (fsF (vyN B n) (h.toNat + 1)).1 b 1 ∧ (fsF (vyN B n) (h.toNat + 1)).1 a 2 = (fsF (vyN B n) (h.toNat + 1)).1 b 2 then x ||| ish (iI 1) (iI h) else x) (iI 0) (B.1 n 4).toNat _ (fun _ _ => True) trivial (fun _ _ _ _ => trivial) (fun j x hj _ => ?_) ?_ (N := FU) (FUh w4.2)
        · simp (disch := omega) only [fX9_meets_l26, g9_17 rm.1, aI_ok (mk7 rm), h3, cn, some_bind, iI_le, m_meets43 (h := j) (z := 0) rm hV I c1.2 c2.2 (by omega) (by omega), Int.toNat_natCast]
          rw [if_neg (by omega)]
          simp only [fX9_meets_b88, fX9_meets_b102, lt_, iI_add]
          by_cases q : (fsF (vyN B n) (j + 1)).1 a 0 = (fsF (vyN B n) (j + 1)).1 b 0 ∧ (fsF (vyN B n) (j + 1)).1 a 1 = (fsF (vyN B n) (j + 1)).1 b 1 ∧ (fsF (vyN B n) (j + 1)).1 a 2 = (fsF (vyN B n) (j + 1)).1 b 2
          · rw [if_pos q, if_pos q, if_neg (show ¬ iI 1 = 0 by decide)]
          · rw [if_neg q, if_neg q, if_pos (show iI 0 = 0 from rfl), or0]
        · simp (disch := omega) only [fX9_meets_l26, g9_17 rm.1, aI_ok (mk7 rm), h3, cn, some_bind, iI_le]
          rw [if_pos (by omega)]
      rw [lp, some_bind]
  · refine QF_no F (v := iI (-2)) ?_ ?_
    · simp only [fX8_meets, c8 rc, g8_7 rc rn, s_hasTwoShops hs ht rk F.1.2.1, some_bind, iI_0, ib]
      rw [if_neg c]
    · rw [rf B F (fun _ => rfl), if_neg c]
end FQS
