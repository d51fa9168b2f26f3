/-! trial flights; gusts -/
def TM (m : Nat) (B C : Bk) : Prop := (∀ d j, d ≠ 10 → d ≠ m → C.1 d j = B.1 d j) ∧ (∀ d j, d ≠ 10 → C.2.1 d j = B.2.1 d j) ∧ (∀ d j, ¬ (d = 10 ∧ j = 6) → C.2.2.1 d j = B.2.2.1 d j) ∧ (∀ d z, ¬ (10 < d ∧ d ≤ 16) → ¬ (m < d ∧ d ≤ m + 5) → C.2.2.2.1 d z = B.2.2.2.1 d z) ∧ C.2.2.2.2 = B.2.2.2.2
theorem TM_rfl {m : Nat} {B : Bk} : TM m B B := ⟨fun _ _ _ _ => rfl, fun _ _ _ => rfl, fun _ _ _ => rfl, fun _ _ _ _ => rfl, rfl⟩
theorem TM_tr {m : Nat} {A B C : Bk} (h : TM m A B) (g : TM m B C) : TM m A C := ⟨fun d j a b => (g.1 d j a b).trans (h.1 d j a b), fun d j a => (g.2.1 d j a).trans (h.2.1 d j a), fun d j a => (g.2.2.1 d j a).trans (h.2.2.1 d j a), fun d z a b => (g.2.2.2.1 d z a b).trans (h.2.2.2.1 d z a b), g.2.2.2.2.trans h.2.2.2.2⟩
section TR
variable {E : Ev} {B C : Bk} {n m : Nat}
theorem TM_fF (T : TM m B C) : fF m B C := ⟨fun d j _ _ c e _ => T.1 d j c e, fun d j _ b _ => T.2.1 d j b, fun d j _ b => T.2.2.1 d j b, fun d z _ _ c e => T.2.2.2.1 d z c e, fun d z _ => by rw [T.2.2.2.2]⟩
theorem TM_FP {V : Vy} {H : Nat} (hm : 20 ≤ m) (T : TM m B C) (I : FP B 3 V 0 H) : FP C 3 V 0 H := by
  have r : ∀ k z, k ≤ 9 → C.2.2.2.1 k z = B.2.2.2.1 k z := fun k z q => T.2.2.2.1 k z (by omega) (by omega)
  unfold FP at *
  simp only [r (3 + 1) _ (by omega), r (3 + 2) _ (by omega), r (3 + 3) _ (by omega), r (3 + 4) _ (by omega), r (3 + 5) _ (by omega)]
  exact I
theorem TM_FB (F : FB E B n m) (T : TM m B C) (v : VI C 10) : FB E C n m ∧ vyN C n = vyN B n ∧ (∀ j, C.1 n j = B.1 n j) := by
  have hc : co = 0 := rfl
  obtain ⟨R, ⟨k1, k2, k3, k4⟩, ⟨n1, n2, m1, m2, nm⟩, P⟩ := F
  have ff := TM_fF T
  have ev := fF_vy ff n1 n2 nm
  have en : ∀ j, C.1 n j = B.1 n j := fF_n ff n1 n2 (by omega)
  refine ⟨⟨fF_RV ff n1 n2 m2 nm R, ⟨k1, k2, k3, by rw [T.2.2.1 co 8 (by omega)]; exact k4⟩, ⟨n1, n2, m1, m2, nm⟩, ?_, ?_, v⟩, ev, en⟩
  · rcases P.1 with q | ⟨q1, q2, q3, q4⟩
    · exact Or.inl (by rw [T.1 co 11 (by omega) (by omega)]; exact q)
    · refine Or.inr ⟨by rw [T.1 co 11 (by omega) (by omega)]; exact q1, by rw [en]; exact q2, by rw [T.2.2.1 3 6 (by omega)]; exact q3, ?_⟩
      rw [ev, en]
      exact TM_FP m1 T q4
  · obtain ⟨a, x, x0, x1, x2⟩ := P.2.1
    exact ⟨by rw [T.2.2.2.1 (3 + 6) 0 (by omega) (by omega)]; exact a, x, x0, x1, by rw [T.2.1 3 7 (by omega)]; exact x2⟩
theorem s8_fly10 {d : Nat} {V : Vy} {x o : Int} {gX : Nat → Int} (F : FB E B n m) (hk : VK E d) (hd : 17 ≤ d) (hV : VOK V) (hM : VM B d V) (hn : 0 ≤ B.1 d 0 ∧ B.1 d 0 ≤ 1600) (x0 : 0 ≤ x) (x1 : x < 2147483648) (o0 : 0 ≤ o) (o1 : o ≤ 100) (G : GU V o gX 0) (g0 : gX 0 = x) : ∃ D C, fX7_begin (E.1 + 10) (E.1 + d) (iI x) (iI o) (St E B) = some (St E D) ∧ fX7_flyFrom (E.1 + 10) (iI 0) (St E D) = some (St E C) ∧ TM m B C ∧ VI C 10 ∧ FP C 10 V 0 (V.1 4).toNat ∧ C.2.2.1 10 6 = some d := by
  have k2 := F.2.1.2.1
  have P3 := F.2.2.2.2.2
  have b4 := hV.2.2.2.1
  obtain ⟨D, d1, d2, d3⟩ := f7_begin (B := B) (p := 10) (d := d) (o := o) (x := x) k2 hk (by omega) hV hM ⟨by omega, by omega⟩
  have hd6 : D.2.2.1 10 6 = some d := by
    rw [d2.2.2.1]
    show (if 10 = 10 ∧ 6 = 6 then some d else B.2.2.1 10 6) = some d
    rw [if_pos ⟨rfl, rfl⟩]
  have hMs : VM (sgB B 10 d (jI x) o) d V := sg_VM hM (by omega)
  have hMD := FF_VM (F2_FF d2) hMs (by omega)
  have di : ∀ d' j, ¬ (d' = 10 ∧ j = 8) → D.1 d' j = B.1 d' j := fun d' j w => by
    rw [d2.1]
    show (if d' = 10 ∧ j = 8 then o else B.1 d' j) = _
    rw [if_neg w]
  have dl : ∀ d' j, ¬ (d' = 10 ∧ j = 7) → D.2.1 d' j = B.2.1 d' j := fun d' j w => by
    rw [d2.2.1]
    show (if d' = 10 ∧ j = 7 then jI x else B.2.1 d' j) = _
    rw [if_neg w]
  have dr : ∀ d' j, ¬ (d' = 10 ∧ j = 6) → D.2.2.1 d' j = B.2.2.1 d' j := fun d' j w => by
    rw [d2.2.2.1]
    show (if d' = 10 ∧ j = 6 then some d else B.2.2.1 d' j) = _
    rw [if_neg w]
  have d8 : D.1 10 8 = o := by
    rw [d2.1]
    show (if 10 = 10 ∧ 8 = 8 then o else B.1 10 8) = o
    rw [if_pos ⟨rfl, rfl⟩]
  have d7 : D.2.1 10 7 = jI (gX 0) := by
    rw [d2.2.1, g0]
    show (if 10 = 10 ∧ 7 = 7 then jI x else B.2.1 10 7) = jI x
    rw [if_pos ⟨rfl, rfl⟩]
  have d0 : D.2.2.2.1 (10 + 6) 0 = 0 := by rw [d2.2.2.2.2 _ _ (by omega) (by omega)]; exact P3.1
  obtain ⟨K, f1, f2, f3, f4, f5⟩ := f7_flyFrom (B := D) (p := 10) (d := d) (V := V) (o := o) (gX := gX) (a := 0) k2 hd6 hk (by omega) hV hMD (by rw [di _ _ (by omega)]; exact hn) (by omega) d8 o0 o1 d7 d0 G d3
  refine ⟨D, K, d1, f1, ⟨fun d' j a _ => ?_, fun d' j a => ?_, fun d' j a => ?_, fun d' z a _ => ?_, ?_⟩, ⟨f3, gX (V.1 4).toNat, ?_, ?_, f4⟩, f5, ?_⟩
  · rw [f2.1, di _ _ (by omega)]
  · rw [f2.2.2.2.1 d' j (by omega), dl _ _ (by omega)]
  · rw [f2.2.1, dr _ _ a]
  · rw [f2.2.2.2.2 d' z (by omega), d2.2.2.2.2 d' z (by omega) (by omega)]
    rfl
  · rw [f2.2.2.1, d2.2.2.2.1]
    rfl
  · obtain ⟨k, hk⟩ : ∃ k : Nat, (V.1 4).toNat = k + 1 := ⟨(V.1 4).toNat - 1, by omega⟩
    obtain ⟨ga, gb, -⟩ := G k (by omega) (by omega)
    rw [hk, gb]
    exact (itG_b ga.1 ga.2 _).1
  · obtain ⟨k, hk⟩ : ∃ k : Nat, (V.1 4).toNat = k + 1 := ⟨(V.1 4).toNat - 1, by omega⟩
    obtain ⟨ga, gb, -⟩ := G k (by omega) (by omega)
    rw [hk, gb]
    exact (itG_b ga.1 ga.2 _).2
  · rw [f2.2.1]
    exact hd6
/-- the valley with gusts of a seed -/
def vyG (B : Bk) (n : Nat) (o x : Int) : Vy := ((vyN B n).1, (vyN B n).2.1, (vyN B n).2.2.1, (vyN B n).2.2.2.1, (vyN B n).2.2.2.2.1, fun l h => if l = 0 then 0 else guB o (itG o x (h.toNat * (B.1 n 3 - 1).toNat + l.toNat)))
theorem itG_add {o x : Int} {a : Nat} : ∀ b, itG o (itG o x a) b = itG o x (a + b) := by
  intro b
  induction b with
  | zero => rfl
  | succ b ih =>
    show nx o (itG o (itG o x a) b) = nx o (itG o x (a + b))
    rw [ih]
theorem vyG_ok (R : RV E B n) (hst : 0 < B.1 n 0) {o x : Int} : VOK (vyG B n o x) := by
  obtain ⟨b1, b2, b3, b4, b5, b6, b7, b8, b9, bw, bs, bd, ba, -⟩ := rv_VOK R hst
  refine ⟨b1, b2, b3, b4, b5, b6, b7, b8, b9, bw, bs, bd, ba, fun l h _ _ _ _ => ?_⟩
  show (if l = 0 then 0 else guB o (itG o x (h.toNat * (B.1 n 3 - 1).toNat + l.toNat))) = 0 ∨ (if l = 0 then 0 else guB o (itG o x (h.toNat * (B.1 n 3 - 1).toNat + l.toNat))) = 1
  by_cases q : l = 0
  · rw [if_pos q]; exact Or.inl rfl
  · rw [if_neg q]; exact bI_01
theorem vyG_gu {o x : Int} (x0 : 0 ≤ x) (x1 : x < 2147483648) : GU (vyG B n o x) o (fun h => itG o x (h * (B.1 n 3 - 1).toNat)) 0 := by
  intro h _ h1
  refine ⟨itG_b x0 x1 _, ?_, ?_, fun l l1 l2 => ?_⟩
  · show itG o x ((h + 1) * (B.1 n 3 - 1).toNat) = itG o (itG o x (h * (B.1 n 3 - 1).toNat)) (B.1 n 3 - 1).toNat
    rw [itG_add, Nat.add_mul, Nat.one_mul]
  · show (if (0 : Int) = 0 then 0 else guB o (itG o x ((h : Int).toNat * (B.1 n 3 - 1).toNat + (0 : Int).toNat))) = (0 : Int)
    rw [if_pos rfl]
  · show (if (l : Int) = 0 then 0 else guB o (itG o x ((h : Int).toNat * (B.1 n 3 - 1).toNat + (l : Int).toNat))) = _
    rw [if_neg (by omega), Int.toNat_natCast, Int.toNat_natCast, itG_add]
theorem s8_gusty {x o : Int} (F : FB E B n m) (hst : 0 < B.1 n 0) (x0 : 0 ≤ x) (x1 : x < 2147483648) (o0 : 0 ≤ o) (o1 : o ≤ 100) : ∃ D C, fX7_begin (E.1 + 10) (E.1 + n) (iI x) (iI o) (St E B) = some (St E D) ∧ fX7_flyFrom (E.1 + 10) (iI 0) (St E D) = some (St E C) ∧ TM m B C ∧ VI C 10 ∧ FP C 10 (vyG B n o x) 0 (B.1 n 4).toNat ∧ C.2.2.1 10 6 = some n :=
  s8_fly10 F F.1.1.2.2.1 (by have := F.2.2.1; omega) (vyG_ok F.1 hst) ⟨fun _ => rfl, fun _ _ => rfl, fun _ _ => rfl, fun _ _ => rfl, fun _ _ => rfl⟩ F.1.2.1.1 x0 x1 o0 o1 (vyG_gu x0 x1) (by
    show itG o x (0 * (B.1 n 3 - 1).toNat) = x
    rw [Nat.zero_mul]
    rfl)
/-! the reference's draws -/
theorem jI_2p31 : (2147483648 : Int64) = jI 2147483648 := by decide
theorem jI_lcgA : (1103515245 : Int64) = jI 1103515245 := by decide
theorem jI_lcgB : (12345 : Int64) = jI 12345 := by decide
/-- the reference's row of gusts alone may change -/
def F20 (B C : Bk) : Prop := C.1 = B.1 ∧ C.2.1 = B.2.1 ∧ C.2.2.1 = B.2.2.1 ∧ C.2.2.2.2 = B.2.2.2.2 ∧ (∀ d z, d ≠ mo + 20 → C.2.2.2.1 d z = B.2.2.2.1 d z)
theorem m_draws92 {K : Bk} {h j : Nat} {y o : Int} (rm : mKd E mo) (o0 : 0 ≤ o) (o1 : o ≤ 100) (y0 : 0 ≤ y) (y1 : y < 2147483648) (hh : h < 24) (hj : j < 4) (h2 : K.2.2.2.1 (mo + 7) 2 = (B.1 n 3)) (hl : 1 + (j : Int) < B.1 n 3) (hl5 : B.1 n 3 ≤ 5) : fX9_draws_l32 (E.1 + mo) (iI o) (iI h) (jI y, iI (1 + (j : Int)), St E K) = some (.inl (jI (nx 1 y), iI (1 + ((j + 1 : Nat) : Int)), St E (wA K (mo + 20) (24 * (1 + (j : Int)) + h) (guB o (nx 1 y))))) := by
  have e : nx 1 y = (1103515245 * y + 12345) % 2147483648 := if_pos (by omega)
  have n0 : 0 ≤ nx 1 y ∧ nx 1 y < 2147483648 := by rw [e]; omega
  have k20 := mk20 rm
  have hm : mL (1103515245 * jI y + 12345) 2147483648 = some (jI (nx 1 y)) := by
    rw [jI_2p31, jI_lcgA, jI_lcgB, jI_mul, jI_add, mL_ok (by omega) (by omega) (by omega) (by omega), e]
  rw [show (1 + ((j + 1 : Nat) : Int)) = 1 + (j : Int) + 1 by omega]
  unfold fX9_draws_l32
  dsimp only
  rw [g9_17 rm.1, some_bind, aI_ok (mk7 rm) (by omega) (by omega) (by omega), some_bind, h2]
  rw [if_neg (by rw [iI_le (by omega) (by omega) (by omega) (by omega)]; omega), hm, some_bind, g9_39 rm.1, some_bind, jI_65536, dL_ok n0.1 (by omega) (by omega) (by omega), some_bind, jI_100, mL_ok (by omega) (by omega) (by omega) (by omega), some_bind, jI_i (by omega) (by omega)]
  simp only [lg_cmp_ge, fX9_draws_b92, iI_mul, iI_add]
  have hle : (jI o ≤ jI (nx 1 y / 65536 % 100)) ↔ (o ≤ nx 1 y / 65536 % 100) := jI_le (by omega) (by omega) (by omega) (by omega)
  unfold guB
  by_cases q : nx 1 y / 65536 % 100 < o
  · rw [if_neg (fun w => by have := hle.mp w; omega), bI_t q, sZ_ok k20 (by omega) (by omega) (by omega) (Or.inr rfl), some_bind]
  · rw [if_pos (hle.mpr (by omega)), bI_f q, sZ_ok k20 (by omega) (by omega) (by omega) (Or.inl rfl), some_bind]
theorem m_draws32 {K : Bk} {h : Nat} {y o : Int} (rm : mKd E mo) (o0 : 0 ≤ o) (o1 : o ≤ 100) (y0 : 0 ≤ y) (y1 : y < 2147483648) (hh : h < 24) (h2 : K.2.2.2.1 (mo + 7) 2 = (B.1 n 3)) (hl : 2 ≤ B.1 n 3) (hl5 : B.1 n 3 ≤ 5) : ∃ L, iter (fX9_draws_l32 (E.1 + mo) (iI o) (iI h)) FU (jI y, iI 1, St E K) = some (jI (itG 1 y (B.1 n 3 - 1).toNat), St E L) ∧ F20 K L ∧ (∀ l h' : Int, ¬ (1 ≤ l ∧ l < B.1 n 3 ∧ h' = h) → 0 ≤ h' → h' < 24 → L.2.2.2.1 (mo + 20) (24 * l + h') = K.2.2.2.1 (mo + 20) (24 * l + h')) ∧ (∀ l : Nat, 1 ≤ l → (l : Int) < B.1 n 3 → L.2.2.2.1 (mo + 20) (24 * (l : Int) + h) = guB o (itG 1 y l)) := by
  obtain ⟨r, e1, L, e2, c1, c2, c3⟩ := iter_acc (F := fX9_draws_l32 (E.1 + mo) (iI o) (iI h)) (fun j a => ∃ L, a = (jI (itG 1 y j), iI (1 + (j : Int)), St E L) ∧ F20 K L ∧ (∀ l h' : Int, ¬ (1 ≤ l ∧ l ≤ j ∧ h' = h) → 0 ≤ h' → h' < 24 → L.2.2.2.1 (mo + 20) (24 * l + h') = K.2.2.2.1 (mo + 20) (24 * l + h')) ∧ (∀ l : Nat, 1 ≤ l → l ≤ j → L.2.2.2.1 (mo + 20) (24 * (l : Int) + h) = guB o (itG 1 y l))) (B.1 n 3 - 1).toNat (fun r => ∃ L, r = (jI (itG 1 y (B.1 n 3 - 1).toNat), St E L) ∧ F20 K L ∧ (∀ l h' : Int, ¬ (1 ≤ l ∧ l < B.1 n 3 ∧ h' = h) → 0 ≤ h' → h' < 24 → L.2.2.2.1 (mo + 20) (24 * l + h') = K.2.2.2.1 (mo + 20) (24 * l + h')) ∧ (∀ l : Nat, 1 ≤ l → (l : Int) < B.1 n 3 → L.2.2.2.1 (mo + 20) (24 * (l : Int) + h) = guB o (itG 1 y l)))
    (fun j a hj => by
      rintro ⟨L, rfl, c1, c2, c3⟩
      have ib := itG_b (o := 1) y0 y1 j
      refine ⟨_, m_draws92 (B := B) (n := n) (K := L) rm o0 o1 ib.1 ib.2 hh (by omega) (by rw [c1.2.2.2.2 _ _ (by omega)]; exact h2) (by omega) hl5, _, rfl, ⟨c1.1, c1.2.1, c1.2.2.1, c1.2.2.2.1, fun d z q => by rw [wA_4, if_neg (fun w => q w.1)]; exact c1.2.2.2.2 d z q⟩, fun l h' q a b => ?_, fun l l1 l2 => ?_⟩
      · rw [wA_4, if_neg (by omega)]
        exact c2 l h' (by omega) a b
      · rw [wA_4]
        by_cases q : l = j + 1
        · rw [if_pos ⟨rfl, by omega⟩, q]
          rfl
        · rw [if_neg (by omega)]
          exact c3 l l1 (by omega))
    (fun a => by
      rintro ⟨L, rfl, c1, c2, c3⟩
      have h2' : L.2.2.2.1 (mo + 7) 2 = B.1 n 3 := by rw [c1.2.2.2.2 _ _ (by omega)]; exact h2
      refine ⟨_, ?_, L, rfl, c1, fun l h' q a b => c2 l h' (by omega) a b, fun l l1 l2 => c3 l l1 (by omega)⟩
      unfold fX9_draws_l32
      dsimp only
      rw [g9_17 rm.1, some_bind, aI_ok (mk7 rm) (by omega) (by omega) (by omega), some_bind, h2', if_pos (by rw [iI_le (by omega) (by omega) (by omega) (by omega)]; omega)])
    (N := FU) (FUh (by omega)) (a := (jI y, iI 1, St E K)) ⟨K, rfl, ⟨rfl, rfl, rfl, rfl, fun _ _ _ => rfl⟩, fun _ _ _ _ _ => rfl, fun l l1 l2 => by omega⟩
  exact ⟨L, by rw [e1, e2], c1, c2, c3⟩
theorem m_draws10 {K : Bk} {x o : Int} (rm : mKd E mo) (o0 : 0 ≤ o) (o1 : o ≤ 100) (x0 : 0 ≤ x) (x1 : x < 2147483648) (h2 : K.2.2.2.1 (mo + 7) 2 = B.1 n 3) (h3 : K.2.2.2.1 (mo + 7) 3 = B.1 n 4) (hl : 2 ≤ B.1 n 3) (hl5 : B.1 n 3 ≤ 5) (hh0 : 0 ≤ B.1 n 4) (hh : B.1 n 4 ≤ 24) : ∃ L, iter (fX9_draws_l10 (E.1 + mo) (iI o)) FU (jI x, iI 0, St E K) = some (St E L) ∧ F20 K L ∧ (∀ (h : Nat), (h : Int) < B.1 n 4 → L.2.2.2.1 (mo + 20) (24 * 0 + h) = 0 ∧ ∀ l : Nat, 1 ≤ l → (l : Int) < B.1 n 3 → L.2.2.2.1 (mo + 20) (24 * (l : Int) + h) = guB o (itG 1 x (h * (B.1 n 3 - 1).toNat + l))) := by
  obtain ⟨r, e1, L, e2, c1, c2⟩ := iter_acc (F := fX9_draws_l10 (E.1 + mo) (iI o)) (fun j a => ∃ L, a = (jI (itG 1 x (j * (B.1 n 3 - 1).toNat)), iI (j : Int), St E L) ∧ F20 K L ∧ (∀ h : Nat, h < j → L.2.2.2.1 (mo + 20) (24 * 0 + h) = 0 ∧ ∀ l : Nat, 1 ≤ l → (l : Int) < B.1 n 3 → L.2.2.2.1 (mo + 20) (24 * (l : Int) + h) = guB o (itG 1 x (h * (B.1 n 3 - 1).toNat + l)))) (B.1 n 4).toNat (fun r => ∃ L, r = St E L ∧ F20 K L ∧ (∀ h : Nat, h < (B.1 n 4).toNat → L.2.2.2.1 (mo + 20) (24 * 0 + h) = 0 ∧ ∀ l : Nat, 1 ≤ l → (l : Int) < B.1 n 3 → L.2.2.2.1 (mo + 20) (24 * (l : Int) + h) = guB o (itG 1 x (h * (B.1 n 3 - 1).toNat + l))))
    (fun j a hj => by
      rintro ⟨L, rfl, c1, c2⟩
      have ib := itG_b (o := 1) x0 x1 (j * (B.1 n 3 - 1).toNat)
      have g2 : L.2.2.2.1 (mo + 7) 2 = B.1 n 3 := by rw [c1.2.2.2.2 _ _ (by omega)]; exact h2
      have g3 : L.2.2.2.1 (mo + 7) 3 = B.1 n 4 := by rw [c1.2.2.2.2 _ _ (by omega)]; exact h3
      obtain ⟨M, e1, d1, d2, d3⟩ := m_draws32 (B := B) (n := n) (K := wA L (mo + 20) (j : Int) 0) (h := j) (o := o) rm o0 o1 ib.1 ib.2 (by omega) (by rw [wA_4, if_neg (by omega)]; exact g2) hl hl5
      refine ⟨(jI (itG 1 x ((j + 1) * (B.1 n 3 - 1).toNat)), iI ((j + 1 : Nat) : Int), St E M), ?_, M, rfl, ⟨d1.1.trans c1.1, d1.2.1.trans c1.2.1, d1.2.2.1.trans c1.2.2.1, d1.2.2.2.1.trans c1.2.2.2.1, fun d z q => by rw [d1.2.2.2.2 d z q, wA_4, if_neg (fun w => q w.1)]; exact c1.2.2.2.2 d z q⟩, fun h hh' => ⟨?_, fun l l1 l2 => ?_⟩⟩
      · unfold fX9_draws_l10
        dsimp only
        rw [g9_17 rm.1, some_bind, aI_ok (mk7 rm) (by omega) (by omega) (by omega), some_bind, g3, if_neg (by rw [iI_le (by omega) (by omega) (by omega) (by omega)]; omega), g9_39 rm.1, some_bind, sZ_ok (mk20 rm) (by omega) (by omega) (by omega) (Or.inl rfl), some_bind, e1, some_bind, iI_add, itG_add, Nat.add_mul, Nat.one_mul]
        rfl
      · rw [d2 0 h (by omega) (by omega) (by omega), wA_4]
        by_cases q : h = j
        · rw [if_pos ⟨rfl, by omega⟩]
        · rw [if_neg (by omega)]
          exact (c2 h (by omega)).1
      · by_cases q : h = j
        · rw [q, d3 l l1 l2, itG_add]
        · rw [d2 l h (by omega) (by omega) (by omega), wA_4, if_neg (by omega)]
          exact (c2 h (by omega)).2 l l1 l2)
    (fun a => by
      rintro ⟨L, rfl, c1, c2⟩
      have g3 : L.2.2.2.1 (mo + 7) 3 = B.1 n 4 := by rw [c1.2.2.2.2 _ _ (by omega)]; exact h3
      refine ⟨_, ?_, L, rfl, c1, c2⟩
      unfold fX9_draws_l10
      dsimp only
      rw [g9_17 rm.1, some_bind, aI_ok (mk7 rm) (by omega) (by omega) (by omega), some_bind, g3, if_pos (by rw [iI_le (by omega) (by omega) (by omega) (by omega)]; omega)])
    (N := FU) (FUh (by omega)) (a := (jI x, iI 0, St E K)) ⟨K, by rw [Nat.zero_mul]; rfl, ⟨rfl, rfl, rfl, rfl, fun _ _ _ => rfl⟩, fun h q => by omega⟩
  exact ⟨L, by rw [e1, e2], c1, fun h q => c2 h (by omega)⟩
end TR
