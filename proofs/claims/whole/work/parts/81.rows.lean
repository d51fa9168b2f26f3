/-! slots: row, write, paste -/
def RW (B : Bk) (k : Nat) : Prop := (B.1 (50 + 2 * k) 1 = -1 ∧ B.2.2.2.1 (mo + 1) k = -1) ∨ ((0 ≤ B.1 (50 + 2 * k) 1 ∧ B.1 (50 + 2 * k) 1 ≤ 60) ∧ (0 ≤ B.1 (50 + 2 * k) 2 ∧ B.1 (50 + 2 * k) 2 ≤ 3) ∧ B.2.2.2.1 (mo + 1) k = B.1 (50 + 2 * k) 2 ∧ B.2.2.2.1 (mo + 2) k = B.1 (50 + 2 * k) 1 ∧ ∀ i : Int, 0 ≤ i → i < B.1 (50 + 2 * k) 1 → B.2.2.2.2 (50 + 2 * k + 1) i = B.2.2.2.2 (mo + 3) (60 * (k : Int) + i))
def RS (B : Bk) : Prop := ∀ k, k < 4 → RW B k
/-- kinds and refs of the slots -/
def RK (E : Ev) (B : Bk) : Prop := KD E co 8 13 ∧ KD E (co + 19) 25 4 ∧ mKd E mo ∧ ∀ k, k < 4 → KD E (50 + 2 * k) 5 3 ∧ KD E (50 + 2 * k + 1) 21 60 ∧ B.2.2.1 (co + 19) k = some (50 + 2 * k)
def frR (B C : Bk) : Prop := (∀ d j, ¬ (50 ≤ d ∧ d < 58) → (d = mo → msv j) → C.1 d j = B.1 d j) ∧ (∀ d j, d ≠ mo → C.2.1 d j = B.2.1 d j) ∧ C.2.2.1 = B.2.2.1 ∧ (∀ d z, ¬ mscr d → d ≠ mo + 1 → d ≠ mo + 2 → C.2.2.2.1 d z = B.2.2.2.1 d z) ∧ (∀ d z, ¬ mscr d → d ≠ mo + 3 → ¬ (50 ≤ d ∧ d < 58) → C.2.2.2.2 d z = B.2.2.2.2 d z)
def QR (E : Ev) (B : Bk) (f g : Hp → Option (Int32 × Hp)) : Prop := ∃ v B1 B2, f (St E B) = some (v, St E B1) ∧ g (St E B1) = some (v, St E B2) ∧ frR B B2 ∧ RS B2
theorem sc_frR {B C : Bk} (h : sc B C) : frR B C := ⟨fun d j _ q => h.1 d j q, fun d j q => h.2.1 d j q, h.2.2.1, fun d z a _ _ => h.2.2.2.1 d z a, fun d z a _ _ => h.2.2.2.2 d z a⟩
section RO
variable {E : Ev} {B C : Bk} {f g : Hp → Option (Int32 × Hp)}
theorem w0_RS (R : RS B) : RS (wI B mo 0 0) := fun k hk => by
  have hmo : mo = 58 := rfl
  have e : ∀ j, (wI B mo 0 0).1 (50 + 2 * k) j = B.1 (50 + 2 * k) j := fun j => by rw [wI_1, if_neg (by omega)]
  have := R k hk
  unfold RW at *
  rw [e 1, e 2]
  exact this
theorem QR_no (R : RS B) {v : Int32} (hf : f (St E B) = some (v, St E B)) (hg : g (St E B) = some (v, St E (wI B mo 0 0))) : QR E B f g := ⟨v, B, wI B mo 0 0, hf, hg, sc_frR (sc_I (by unfold msv; omega)), w0_RS R⟩
theorem r_slot (K : RK E B) {C : Bk} (hC : C.2.2.1 = B.2.2.1) {z : Int} (z0 : 0 ≤ z) (z1 : z ≤ 3) : aR (St E C) 25 (E.1 + (co + 19)) (iI z) = some (E.1 + (50 + 2 * z.toNat)) := aR_ok K.2.1 (by omega) z0 (by omega) (by omega) (by rw [hC]; exact (K.2.2.2 z.toNat (by omega)).2.2)
theorem s5_isThere {d : Nat} (h : KD E d 5 3) (b : -1 ≤ B.1 d 1 ∧ B.1 d 1 ≤ 60) : fX5_isThere (E.1 + d) (St E B) = some (iI (bI (0 ≤ B.1 d 1)), St E B) := by
  simp (disch := omega) only [fX5_isThere, c5 h, g5_1 h, some_bind, iI_0, iI_lt]
  by_cases q : 0 ≤ B.1 d 1
  · rw [if_neg (by omega), bI_t q]
  · rw [if_pos (by omega), bI_f q]
theorem s5_holds {d : Nat} {i n : Int} (h : KD E d 5 3) (b : -1 ≤ B.1 d 1 ∧ B.1 d 1 ≤ 60) (hi : i32 i) (hn : i32 n) : fX5_holds (E.1 + d) (iI i) (iI n) (St E B) = some (iI (bI (0 ≤ i ∧ 0 ≤ n ∧ i + n ≤ B.1 d 1)), St E B) := by
  obtain ⟨i1, i2⟩ := hi
  obtain ⟨n1, n2⟩ := hn
  simp (disch := omega) only [fX5_holds, fX5_holds_b30, c5 h, g5_1 h, some_bind, iI_0, iI_lt, iI_sub]
  by_cases q : 0 ≤ i ∧ 0 ≤ n ∧ i + n ≤ B.1 d 1
  · rw [if_neg (by omega), if_neg (by omega), if_neg (by omega), bI_t q, if_neg (by omega)]
  · rw [bI_f q]
    by_cases q1 : i < 0
    · rw [if_pos q1]
    · rw [if_neg q1]
      by_cases q2 : n < 0
      · rw [if_pos q2]
      · rw [if_neg q2]
        by_cases q3 : B.1 d 1 < i
        · rw [if_pos q3]
        · rw [if_neg q3, if_pos (by omega)]
theorem flJ_5 {d e : Nat} {n z : Int} {v : Int64} : (flJ B d n v).2.2.2.2 e z = if e = d ∧ 0 ≤ z ∧ z < n then v else B.2.2.2.2 e z := rfl
theorem s5_renew {d : Nat} {w n : Int} (h : KD E d 5 3) (h2 : KD E (d + 1) 21 60) (n0 : 0 ≤ n) (n1 : n ≤ 60) : fX5_renew (E.1 + d) (iI w) (iI n) (St E B) = some (St E (flJ (wI (wI B d 2 w) d 1 n) (d + 1) n 0)) := by
  have e1 : ∀ j, (flJ (wI (wI B d 2 w) d 1 n) (d + 1) j 0).1 d 1 = n := fun j => by
    show (wI (wI B d 2 w) d 1 n).1 d 1 = n
    rw [wI_1, if_pos ⟨rfl, rfl⟩]
  have := iter_for (F := fX5_renew_l12 (E.1 + d)) (S := fun j => (iI j, St E (flJ (wI (wI B d 2 w) d 1 n) (d + 1) j 0))) 0 n (St E (flJ (wI (wI B d 2 w) d 1 n) (d + 1) n 0)) (fun j g1 g2 => by
    simp (disch := omega) only [fX5_renew_l12, g5_1 h, e1, some_bind, iI_le, g5_0 h, sL_ok h2, iI_add, flJ_s]
    rw [if_neg (by omega)]) (by
    simp (disch := omega) only [fX5_renew_l12, g5_1 h, e1, some_bind, iI_le]
    rw [if_pos (by omega)]) n0 (N := FU) (by have := FU_big (n := n) (by omega); omega)
  simp only [flJ_0] at this
  simp only [fX5_renew, c5 h, some_bind, p5_2 h, p5_1 h, this]
theorem m_row57 {s n : Int} (rm : mKd E mo) (s0 : 0 ≤ s) (s1 : s ≤ 3) (n0 : 0 ≤ n) (n1 : n ≤ 60) : ∃ D, iter (fX9_row_l57 (E.1 + mo) (iI s) (iI n)) FU (iI 0, St E C) = some (St E D) ∧ D.1 = C.1 ∧ D.2.1 = C.2.1 ∧ D.2.2.1 = C.2.2.1 ∧ D.2.2.2.1 = C.2.2.2.1 ∧ (∀ d z, D.2.2.2.2 d z = if d = mo + 3 ∧ 60 * s ≤ z ∧ z < 60 * s + n then 0 else C.2.2.2.2 d z) := by
  obtain ⟨r, e1, D, e2, c1, c2, c3, c4, c5'⟩ := iter_acc (F := fX9_row_l57 (E.1 + mo) (iI s) (iI n)) (fun j a => ∃ D, a = (iI j, St E D) ∧ D.1 = C.1 ∧ D.2.1 = C.2.1 ∧ D.2.2.1 = C.2.2.1 ∧ D.2.2.2.1 = C.2.2.2.1 ∧ (∀ d z, D.2.2.2.2 d z = if d = mo + 3 ∧ 60 * s ≤ z ∧ z < 60 * s + (j : Int) then 0 else C.2.2.2.2 d z)) n.toNat (fun r => ∃ D, r = St E D ∧ D.1 = C.1 ∧ D.2.1 = C.2.1 ∧ D.2.2.1 = C.2.2.1 ∧ D.2.2.2.1 = C.2.2.2.1 ∧ (∀ d z, D.2.2.2.2 d z = if d = mo + 3 ∧ 60 * s ≤ z ∧ z < 60 * s + n then 0 else C.2.2.2.2 d z))
    (fun j a hj => by
      rintro ⟨D, rfl, c1, c2, c3, c4, c5'⟩
      refine ⟨(iI ((j + 1 : Nat) : Int), St E (wJ D (mo + 3) (60 * s + (j : Int)) 0)), ?_, _, rfl, c1, c2, c3, c4, fun d z => ?_⟩
      · simp (disch := omega) only [fX9_row_l57, iI_le, g9_3 rm.1, some_bind, iI_mul, iI_add, sL_ok (mk3 rm)]
        rw [if_neg (by omega)]
        rfl
      · rw [wJ_5, c5']
        by_cases q : d = mo + 3 ∧ z = 60 * s + (j : Int)
        · rw [if_pos q, if_pos (by omega)]
        · rw [if_neg q]
          by_cases q2 : d = mo + 3 ∧ 60 * s ≤ z ∧ z < 60 * s + (j : Int)
          · rw [if_pos q2, if_pos (by omega)]
          · rw [if_neg q2, if_neg (by omega)])
    (fun a => by
      rintro ⟨D, rfl, c1, c2, c3, c4, c5'⟩
      refine ⟨_, ?_, D, rfl, c1, c2, c3, c4, fun d z => by rw [c5', show ((n.toNat : Nat) : Int) = n by omega]⟩
      simp (disch := omega) only [fX9_row_l57, iI_le]
      rw [if_pos (by omega)])
    (N := FU) (by have := FU_big (n := n) (by omega); omega) (a := (iI 0, St E C)) ⟨C, rfl, rfl, rfl, rfl, rfl, fun d z => by rw [if_neg (by omega)]⟩
  exact ⟨D, by rw [e1, e2], c1, c2, c3, c4, c5'⟩
theorem o_row {s w n : Int} (K : RK E B) (R : RS B) (hs : i32 s) (hw : i32 w) (hn : i32 n) : QR E B (fX8_row (E.1 + co) (iI s) (iI w) (iI n)) (fX9_row (E.1 + mo) (iI s) (iI w) (iI n)) := by
  have hmo : mo = 58 := rfl
  have hco : co = 0 := rfl
  have rc := K.1
  have rm := K.2.2.1
  have hw' := hw
  obtain ⟨w1, w2⟩ := hw'
  obtain ⟨n1, n2⟩ := hn
  have e6 : ∀ C, gR (St E C) (E.1 + co) 8 6 = some (E.1 + (co + 19)) := fun C => g8_6 rc
  by_cases c : (0 ≤ s ∧ s ≤ 3) ∧ (0 ≤ w ∧ w ≤ 3) ∧ 0 ≤ n ∧ n ≤ 60
  · obtain ⟨c1, c2, c3⟩ := c
    obtain ⟨t, rfl⟩ : ∃ t : Nat, s = t := ⟨s.toNat, by omega⟩
    obtain ⟨q1, q2, q3⟩ := K.2.2.2 t (by omega)
    obtain ⟨D, d1, d2, d3, d4, d5, d6⟩ := m_row57 (E := E) (C := wA (wA (wI (flJ (wI (wI B (50 + 2 * t) 2 w) (50 + 2 * t) 1 n) (50 + 2 * t + 1) n 0) mo 0 0) (mo + 1) t w) (mo + 2) t n) (s := t) (n := n) rm (by omega) (by omega) c3.1 c3.2
    have di : ∀ d j, (d = mo → j ≠ 0) → D.1 d j = if d = 50 + 2 * t ∧ j = 1 then n else if d = 50 + 2 * t ∧ j = 2 then w else B.1 d j := fun d j q => by
      rw [d2]
      show (if d = mo ∧ j = 0 then 0 else if d = 50 + 2 * t ∧ j = 1 then n else if d = 50 + 2 * t ∧ j = 2 then w else B.1 d j) = _
      rw [if_neg (fun z => q z.1 z.2)]
    have dr : ∀ d z, D.2.2.2.1 d z = if d = mo + 2 ∧ z = (t : Int) then n else if d = mo + 1 ∧ z = (t : Int) then w else B.2.2.2.1 d z := fun d z => by
      rw [d5]
      rfl
    have dl : ∀ d z, D.2.2.2.2 d z = if d = mo + 3 ∧ 60 * (t : Int) ≤ z ∧ z < 60 * (t : Int) + n then 0 else if d = 50 + 2 * t + 1 ∧ 0 ≤ z ∧ z < n then 0 else B.2.2.2.2 d z := fun d z => by
      rw [d6]
      rfl
    have d1' := d1
    rw [jI_0] at d1'
    refine ⟨iI 0, flJ (wI (wI B (50 + 2 * t) 2 w) (50 + 2 * t) 1 n) (50 + 2 * t + 1) n 0, D, ?_, ?_, ⟨fun d j a b => ?_, fun d j _ => by rw [d3]; rfl, by rw [d4]; rfl, fun d z a b c => ?_, fun d z a b c => ?_⟩, fun k hk => ?_⟩
    · simp (disch := omega) only [fX8_row, c8 rc, s8_isSlot hs, some_bind, iI_0, ib, iI_lt, iI_le, e6, r_slot K rfl c1.1 c1.2, Int.toNat_natCast, s5_renew q1 q2 c3.1 c3.2]
      rw [if_pos c1, if_neg (by omega), if_neg (by omega), if_pos c3.2, if_pos c3.1]
    · simp (disch := omega) only [fX9_row, c9 rm.1, p9_0 rm.1, some_bind, m_isSlot hs, iI_0, ib, jI_i, jI_0, jI_3, m_in, iI_le, g9_1 rm.1, g9_2 rm.1, sI_ok (mk1 rm), sI_ok (mk2 rm), d1']
      rw [if_pos c1, if_pos c2, if_pos c3.2, if_pos c3.1]
    · rw [di d j (fun q => by have := b q; unfold msv at this; omega), if_neg (by omega), if_neg (by omega)]
    · rw [dr, if_neg (by omega), if_neg (by omega)]
    · rw [dl, if_neg (by omega), if_neg (by omega)]
    · have Rk := R k hk
      unfold RW at *
      rw [di _ _ (by omega), di _ _ (by omega), dr, dr]
      by_cases q : k = t
      · subst q
        right
        rw [if_pos (show 50 + 2 * k = 50 + 2 * k ∧ 1 = 1 from ⟨rfl, rfl⟩), if_neg (show ¬ (50 + 2 * k = 50 + 2 * k ∧ 2 = 1) by omega), if_pos (show 50 + 2 * k = 50 + 2 * k ∧ 2 = 2 from ⟨rfl, rfl⟩), if_neg (show ¬ (mo + 1 = mo + 2 ∧ (k : Int) = (k : Int)) by omega), if_pos (show mo + 1 = mo + 1 ∧ (k : Int) = (k : Int) from ⟨rfl, rfl⟩), if_pos (show mo + 2 = mo + 2 ∧ (k : Int) = (k : Int) from ⟨rfl, rfl⟩)]
        refine ⟨c3, c2, rfl, rfl, fun i i0 i1 => ?_⟩
        rw [dl, dl, if_neg (by omega), if_pos ⟨rfl, i0, i1⟩, if_pos ⟨rfl, by omega, by omega⟩]
      · rw [if_neg (by omega), if_neg (by omega), if_neg (by omega), if_neg (by omega), if_neg (by omega), if_neg (by omega), if_neg (by omega), if_neg (by omega)]
        have el : ∀ i : Int, 0 ≤ i → i < 60 → D.2.2.2.2 (50 + 2 * k + 1) i = B.2.2.2.2 (50 + 2 * k + 1) i ∧ D.2.2.2.2 (mo + 3) (60 * (k : Int) + i) = B.2.2.2.2 (mo + 3) (60 * (k : Int) + i) := fun i i0 i1 => by
          rw [dl, dl, if_neg (by omega), if_neg (by omega), if_neg (by omega), if_neg (by omega)]
          exact ⟨rfl, rfl⟩
        rcases Rk with Rk | ⟨a1, a2, a3, a4, a5⟩
        · exact Or.inl Rk
        · refine Or.inr ⟨a1, a2, a3, a4, fun i i0 i1 => ?_⟩
          rw [(el i i0 (by omega)).1, (el i i0 (by omega)).2]
          exact a5 i i0 i1
  · by_cases c4 : (0 ≤ s ∧ s ≤ 3) ∧ (0 ≤ w ∧ w ≤ 3) ∧ n < 0
    · refine QR_no R (v := iI (-3)) ?_ ?_
      · simp (disch := omega) only [fX8_row, c8 rc, s8_isSlot hs, some_bind, iI_0, ib, iI_lt, iI_le]
        rw [if_pos c4.1, if_neg (by omega), if_neg (by omega), if_pos (by omega), if_neg (by omega)]
      · simp (disch := omega) only [fX9_row, c9 rm.1, p9_0 rm.1, some_bind, m_isSlot hs, iI_0, ib, jI_i, jI_0, jI_3, m_in, iI_le]
        rw [if_pos c4.1, if_pos c4.2.1, if_pos (by omega), if_neg (by omega)]
    · refine QR_no R (v := iI (-2)) ?_ ?_
      · simp (disch := omega) only [fX8_row, fX8_row_b22, c8 rc, s8_isSlot hs, some_bind, iI_0, ib, iI_lt, iI_le]
        by_cases p1 : 0 ≤ s ∧ s ≤ 3
        · rw [if_pos p1]
          by_cases p2 : w < 0
          · rw [if_pos p2]
          · rw [if_neg p2]
            by_cases p3 : 4 ≤ w
            · rw [if_pos p3]
            · rw [if_neg p3, if_neg (by omega)]
        · rw [if_neg p1]
      · simp (disch := omega) only [fX9_row, fX9_row_b30, c9 rm.1, p9_0 rm.1, some_bind, m_isSlot hs, iI_0, ib, jI_i, jI_0, jI_3, m_in, iI_le]
        by_cases p1 : 0 ≤ s ∧ s ≤ 3
        · rw [if_pos p1]
          by_cases p2 : 0 ≤ w ∧ w ≤ 3
          · rw [if_pos p2, if_neg (by omega)]
          · rw [if_neg p2]
        · rw [if_neg p1]
end RO
