/-! the reference's look at rows; bits of layers -/
def G5 (N : Int → Int) (size h w d : Int) : Prop := size % 5 = 0 ∧ ∀ g : Int, 0 ≤ g → g < size / 5 → (0 ≤ N (5 * g) ∧ N (5 * g) < h) ∧ ((0 ≤ N (5 * g + 1) ∧ N (5 * g + 1) < w) ∧ (0 ≤ N (5 * g + 2) ∧ N (5 * g + 2) < d)) ∧ ((0 ≤ N (5 * g + 3) ∧ N (5 * g + 3) < w) ∧ (0 ≤ N (5 * g + 4) ∧ N (5 * g + 4) < d))
def G2 (N : Int → Int) (size h : Int) : Prop := size % 2 = 0 ∧ ∀ g : Int, 0 ≤ g → g < size / 2 → (0 ≤ N (2 * g) ∧ N (2 * g) < h) ∧ (0 ≤ N (2 * g + 1) ∧ N (2 * g + 1) ≤ 4)
theorem kw5 {B : Bk} {dd c : Nat} {h w d : Int} (c0 : B.2.2.2.1 c 0 = h) (c1 : B.2.2.2.1 c 1 = w) (c2 : B.2.2.2.1 c 2 = d) (c3 : B.2.2.2.1 c 3 = w) (c4 : B.2.2.2.1 c 4 = d) : KW B dd c 5 ↔ G5 (nvJ B (dd + 1)) (B.1 dd 1) h w d := by
  refine and_congr_right fun m => ⟨fun H g g0 g1 => ?_, fun H i i0 i1 => ?_⟩
  · have a0 := H (5 * g) (by omega) (by omega)
    have a1 := H (5 * g + 1) (by omega) (by omega)
    have a2 := H (5 * g + 2) (by omega) (by omega)
    have a3 := H (5 * g + 3) (by omega) (by omega)
    have a4 := H (5 * g + 4) (by omega) (by omega)
    rw [show 5 * g % 5 = 0 by omega, c0] at a0
    rw [show (5 * g + 1) % 5 = 1 by omega, c1] at a1
    rw [show (5 * g + 2) % 5 = 2 by omega, c2] at a2
    rw [show (5 * g + 3) % 5 = 3 by omega, c3] at a3
    rw [show (5 * g + 4) % 5 = 4 by omega, c4] at a4
    exact ⟨a0, ⟨a1, a2⟩, a3, a4⟩
  · obtain ⟨a0, ⟨a1, a2⟩, a3, a4⟩ := H (i / 5) (by omega) (by omega)
    rcases (show i % 5 = 0 ∨ i % 5 = 1 ∨ i % 5 = 2 ∨ i % 5 = 3 ∨ i % 5 = 4 by omega) with q | q | q | q | q
    · rw [q, c0]
      rw [show 5 * (i / 5) = i by omega] at a0
      exact a0
    · rw [q, c1]
      rw [show 5 * (i / 5) + 1 = i by omega] at a1
      exact a1
    · rw [q, c2]
      rw [show 5 * (i / 5) + 2 = i by omega] at a2
      exact a2
    · rw [q, c3]
      rw [show 5 * (i / 5) + 3 = i by omega] at a3
      exact a3
    · rw [q, c4]
      rw [show 5 * (i / 5) + 4 = i by omega] at a4
      exact a4
theorem kw2 {B : Bk} {dd c : Nat} {h : Int} (c0 : B.2.2.2.1 c 0 = h) (c1 : B.2.2.2.1 c 1 = 5) : KW B dd c 2 ↔ G2 (nvJ B (dd + 1)) (B.1 dd 1) h := by
  refine and_congr_right fun m => ⟨fun H g g0 g1 => ?_, fun H i i0 i1 => ?_⟩
  · have a0 := H (2 * g) (by omega) (by omega)
    have a1 := H (2 * g + 1) (by omega) (by omega)
    rw [show 2 * g % 2 = 0 by omega, c0] at a0
    rw [show (2 * g + 1) % 2 = 1 by omega, c1] at a1
    exact ⟨a0, by omega⟩
  · obtain ⟨a0, a1⟩ := H (i / 2) (by omega) (by omega)
    rcases (show i % 2 = 0 ∨ i % 2 = 1 by omega) with q | q
    · rw [q, c0]
      rw [show 2 * (i / 2) = i by omega] at a0
      exact a0
    · rw [q, c1]
      rw [show 2 * (i / 2) + 1 = i by omega] at a1
      omega
theorem G5_c {N M : Int → Int} {size h w d : Int} (e : ∀ i, 0 ≤ i → i < size → N i = M i) : G5 N size h w d ↔ G5 M size h w d := by
  refine and_congr_right fun m => forall_congr' fun g => imp_congr_right fun g0 => imp_congr_right fun g1 => ?_
  rw [e (5 * g) (by omega) (by omega), e (5 * g + 1) (by omega) (by omega), e (5 * g + 2) (by omega) (by omega), e (5 * g + 3) (by omega) (by omega), e (5 * g + 4) (by omega) (by omega)]
theorem G2_c {N M : Int → Int} {size h : Int} (e : ∀ i, 0 ≤ i → i < size → N i = M i) : G2 N size h ↔ G2 M size h := by
  refine and_congr_right fun m => forall_congr' fun g => imp_congr_right fun g0 => imp_congr_right fun g1 => ?_
  rw [e (2 * g) (by omega) (by omega), e (2 * g + 1) (by omega) (by omega)]
section WN
variable {E : Ev} {B : Bk} {n : Nat}
/-- a slot of the reference has a row -/
def MR (B : Bk) (z m : Int) : Prop := (0 ≤ z ∧ z ≤ 3) ∧ (0 ≤ B.2.2.2.1 (mo + 1) z ∧ B.2.2.2.1 (mo + 1) z ≤ 3) ∧ B.2.2.2.1 (mo + 2) z = m ∧ (0 ≤ m ∧ m ≤ 60)
def gk5 (N : Int → Int) (h w d g : Int) : Prop := (0 ≤ N (5 * g) ∧ N (5 * g) < h) ∧ ((0 ≤ N (5 * g + 1) ∧ N (5 * g + 1) < w) ∧ (0 ≤ N (5 * g + 2) ∧ N (5 * g + 2) < d)) ∧ ((0 ≤ N (5 * g + 3) ∧ N (5 * g + 3) < w) ∧ (0 ≤ N (5 * g + 4) ∧ N (5 * g + 4) < d))
def gk2 (N : Int → Int) (h g : Int) : Prop := (0 ≤ N (2 * g) ∧ N (2 * g) < h) ∧ (0 ≤ N (2 * g + 1) ∧ N (2 * g + 1) ≤ 4)
/-- what whyNotRow makes of its loop's end -/
def wnF (r : Hp ⊕ (Hp ⊕ Hp ⊕ Hp)) : Option (Int32 × Hp) := (Sum.elim (fun r38a => some ((iI 0), r38a)) (Sum.elim (fun r38b => some ((iI (-2)), r38b)) (Sum.elim (fun r38c => fX9_whyNotRow_b154 r38c) (fun r38d => fX9_whyNotRow_b154 r38d)))) r
theorem m_why {z m k : Int} (R : RV E B n) (M : MR B z m) (hl : 0 < B.1 n 0) (kk : k = 2 ∨ k = 5) (P : Int → Prop) (hP : ∀ g : Int, 0 ≤ g → k * g + k ≤ m → (P g → fX9_whyNotRow_l46 (E.1 + mo) (iI z) (iI k) (iI (k * g), St E B) = some (.inl (iI (k * (g + 1)), St E B))) ∧ (¬ P g → ∃ r, fX9_whyNotRow_l46 (E.1 + mo) (iI z) (iI k) (iI (k * g), St E B) = some (.inr r) ∧ wnF r = some (iI (-2), St E B))) : (m % k = 0 ∧ (∀ g, 0 ≤ g → g < m / k → P g) → fX9_whyNotRow (E.1 + mo) (iI z) (iI k) (St E B) = some (iI 0, St E B)) ∧ (¬ (m % k = 0 ∧ (∀ g, 0 ≤ g → g < m / k → P g)) → fX9_whyNotRow (E.1 + mo) (iI z) (iI k) (St E B) = some (iI (-2), St E B)) := by
  have mw := rv_mw R
  have R1 := R
  obtain ⟨⟨rc, rn, rk, rm⟩, rw1, -⟩ := R
  obtain ⟨z1, w1, m1, m2⟩ := M
  have l0 : 0 < B.2.2.2.1 (mo + 6) 0 := by rw [vr_l R1]; exact hl
  have hd : fX9_whyNotRow (E.1 + mo) (iI z) (iI k) (St E B) = if m % k = 0 then (iter (fX9_whyNotRow_l46 (E.1 + mo) (iI z) (iI k)) FU (iI 0, St E B)).bind wnF else some (iI (-2), St E B) := by
    rcases kk with rfl | rfl
    · simp (disch := omega) only [fX9_whyNotRow, fX9_whyNotRow_b14, c9 rm.1, some_bind, m_isSlot (show i32 z from ⟨by omega, by omega⟩), m_isValley rm mw, g9_1 rm.1, aI_ok (mk1 rm), g9_2 rm.1, aI_ok (mk2 rm), m1, mI_ok, iI_0, ib, iI_eq]
      rw [if_pos z1, if_pos l0, if_neg (by omega)]
      rfl
    · simp (disch := omega) only [fX9_whyNotRow, fX9_whyNotRow_b14, c9 rm.1, some_bind, m_isSlot (show i32 z from ⟨by omega, by omega⟩), m_isValley rm mw, g9_1 rm.1, aI_ok (mk1 rm), g9_2 rm.1, aI_ok (mk2 rm), m1, mI_ok, iI_0, ib, iI_eq]
      rw [if_pos z1, if_pos l0, if_neg (by omega)]
      rfl
  rw [hd]
  by_cases q : m % k = 0
  · rw [if_pos q]
    have mk' : k * (m / k) = m := Int.mul_ediv_cancel_of_emod_eq_zero q
    have step : ∀ g : Int, 0 ≤ g → g < m / k → k * g + k ≤ m := fun g g0 g1 => by rcases kk with rfl | rfl <;> omega
    obtain ⟨r, f1, f2⟩ := iter_seek (F := fX9_whyNotRow_l46 (E.1 + mo) (iI z) (iI k)) (fun g a => a = (iI (k * g), St E B)) (fun g => ¬ P g) (fun _ r => wnF r = some (iI (-2), St E B)) (fun r => wnF r = some (iI 0, St E B)) 0 (m / k)
      (fun g a g0 g1 ha hp => by
        subst ha
        exact ⟨_, (hP g g0 (step g g0 g1)).1 (Classical.not_not.mp hp), rfl⟩)
      (fun g a g0 g1 ha hp => by
        subst ha
        exact (hP g g0 (step g g0 g1)).2 hp)
      (fun a ha => by
        subst ha
        refine ⟨.inl (St E B), ?_, rfl⟩
        simp (disch := omega) only [fX9_whyNotRow_l46, g9_2 rm.1, some_bind, aI_ok (mk2 rm), m1, mk', iI_le]
        rw [if_pos (by omega)]) (by rcases kk with rfl | rfl <;> omega) (N := FU) (by have := FU_big (n := m / k) (by rcases kk with rfl | rfl <;> omega); omega) (a := (iI 0, St E B)) (by rw [Int.mul_zero])
    rw [f1, some_bind]
    refine ⟨fun H => ?_, fun H => ?_⟩
    · rcases f2 with ⟨g, g0, g1, g2, -⟩ | ⟨-, f3⟩
      · exact absurd (H.2 g g0 g1) g2
      · exact f3
    · rcases f2 with ⟨g, g0, g1, g2, -, f3⟩ | ⟨f3, -⟩
      · exact f3
      · exact absurd ⟨q, fun g g0 g1 => Classical.not_not.mp (f3 g g0 g1)⟩ H
  · rw [if_neg q]
    exact ⟨fun H => absurd H.1 q, fun _ => rfl⟩
theorem m_why5 {z m : Int} (R : RV E B n) (M : MR B z m) (hl : 0 < B.1 n 0) : (G5 (fun i => nvJ B (mo + 3) (60 * z + i)) m (B.1 n 4) (B.1 n 1) (B.1 n 2) → fX9_whyNotRow (E.1 + mo) (iI z) (iI 5) (St E B) = some (iI 0, St E B)) ∧ (¬ G5 (fun i => nvJ B (mo + 3) (60 * z + i)) m (B.1 n 4) (B.1 n 1) (B.1 n 2) → fX9_whyNotRow (E.1 + mo) (iI z) (iI 5) (St E B) = some (iI (-2), St E B)) := by
  refine m_why R M hl (Or.inr rfl) (gk5 (fun i => nvJ B (mo + 3) (60 * z + i)) (B.1 n 4) (B.1 n 1) (B.1 n 2)) (fun g g0 g1 => ?_)
  have mw := rv_mw R
  have R1 := R
  obtain ⟨⟨rc, rn, rk, rm⟩, rw1, -⟩ := R
  obtain ⟨z1, w1, m1, m2⟩ := M
  have e0 := nvJ_j (B := B) (d := mo + 3) (i := 60 * z + 5 * g)
  have e1 := nvJ_j (B := B) (d := mo + 3) (i := 60 * z + 5 * g + 1)
  have e2 := nvJ_j (B := B) (d := mo + 3) (i := 60 * z + 5 * g + 2)
  have e3 := nvJ_j (B := B) (d := mo + 3) (i := 60 * z + 5 * g + 3)
  have e4 := nvJ_j (B := B) (d := mo + 3) (i := 60 * z + 5 * g + 4)
  simp (maxSteps := 1000000) (disch := omega) only [fX9_whyNotRow_l46, fX9_whyNotRow_b157, g9_2 rm.1, some_bind, aI_ok (mk2 rm), m1, iI_le, lt_, iI_mul, iI_add, g9_3 rm.1, aL_ok (mk3 rm), e0.1, e1.1, e2.1, e3.1, e4.1, m_isHour e0.2 rm mw, m_isColumn e1.2 e2.2 rm mw, m_isColumn e3.2 e4.2 rm mw, iI_0, ib, iI_eq, vr_h3 R1, vr_h0 R1, vr_h1 R1]
  unfold gk5
  simp only [← Int.add_assoc]
  rw [if_neg (by omega), show 5 * g + 5 = 5 * (g + 1) by omega]
  refine ⟨fun H => ?_, fun H => ?_⟩
  · rw [if_pos H.1, if_pos H.2.1, if_pos H.2.2]
    rfl
  · by_cases q1 : 0 ≤ nvJ B (mo + 3) (60 * z + 5 * g) ∧ nvJ B (mo + 3) (60 * z + 5 * g) < B.1 n 4
    · rw [if_pos q1]
      by_cases q2 : (0 ≤ nvJ B (mo + 3) (60 * z + 5 * g + 1) ∧ nvJ B (mo + 3) (60 * z + 5 * g + 1) < B.1 n 1) ∧ (0 ≤ nvJ B (mo + 3) (60 * z + 5 * g + 2) ∧ nvJ B (mo + 3) (60 * z + 5 * g + 2) < B.1 n 2)
      · rw [if_pos q2]
        by_cases q3 : (0 ≤ nvJ B (mo + 3) (60 * z + 5 * g + 3) ∧ nvJ B (mo + 3) (60 * z + 5 * g + 3) < B.1 n 1) ∧ (0 ≤ nvJ B (mo + 3) (60 * z + 5 * g + 4) ∧ nvJ B (mo + 3) (60 * z + 5 * g + 4) < B.1 n 2)
        · exact absurd ⟨q1, q2, q3⟩ H
        · rw [if_neg q3]
          exact ⟨_, rfl, rfl⟩
      · rw [if_neg q2]
        exact ⟨_, rfl, rfl⟩
    · rw [if_neg q1]
      exact ⟨_, rfl, rfl⟩
theorem m_why2 {z m : Int} (R : RV E B n) (M : MR B z m) (hl : 0 < B.1 n 0) : (G2 (fun i => nvJ B (mo + 3) (60 * z + i)) m (B.1 n 4) → fX9_whyNotRow (E.1 + mo) (iI z) (iI 2) (St E B) = some (iI 0, St E B)) ∧ (¬ G2 (fun i => nvJ B (mo + 3) (60 * z + i)) m (B.1 n 4) → fX9_whyNotRow (E.1 + mo) (iI z) (iI 2) (St E B) = some (iI (-2), St E B)) := by
  refine m_why R M hl (Or.inl rfl) (gk2 (fun i => nvJ B (mo + 3) (60 * z + i)) (B.1 n 4)) (fun g g0 g1 => ?_)
  have mw := rv_mw R
  have R1 := R
  obtain ⟨⟨rc, rn, rk, rm⟩, rw1, -⟩ := R
  obtain ⟨z1, w1, m1, m2⟩ := M
  have e0 := nvJ_j (B := B) (d := mo + 3) (i := 60 * z + 2 * g)
  have e1 := nvJ_j (B := B) (d := mo + 3) (i := 60 * z + 2 * g + 1)
  simp (maxSteps := 1000000) (disch := omega) only [fX9_whyNotRow_l46, fX9_whyNotRow_b157, g9_2 rm.1, some_bind, aI_ok (mk2 rm), m1, iI_le, lt_, iI_mul, iI_add, g9_3 rm.1, aL_ok (mk3 rm), e0.1, e1.1, m_isHour e0.2 rm mw, m_isWind e1.2, iI_0, ib, vr_h3 R1]
  unfold gk2
  simp only [← Int.add_assoc]
  rw [if_neg (by omega), show 2 * g + 2 = 2 * (g + 1) by omega]
  refine ⟨fun H => ?_, fun H => ?_⟩
  · rw [if_pos H.1, if_pos trivial, if_pos H.2]
  · by_cases q1 : 0 ≤ nvJ B (mo + 3) (60 * z + 2 * g) ∧ nvJ B (mo + 3) (60 * z + 2 * g) < B.1 n 4
    · rw [if_pos q1, if_pos trivial]
      by_cases q2 : 0 ≤ nvJ B (mo + 3) (60 * z + 2 * g + 1) ∧ nvJ B (mo + 3) (60 * z + 2 * g + 1) ≤ 4
      · exact absurd ⟨q1, q2⟩ H
      · rw [if_neg q2]
        exact ⟨_, rfl, rfl⟩
    · rw [if_neg q1]
      exact ⟨_, rfl, rfl⟩
end WN
/-! bits of layers -/
def mkL (b : Nat → Bool) : Nat → Int32 := fo (fun l x => x ||| (if b l.toNat then ish (iI 1) (iI l) else iI 0)) (iI 0)
theorem mkL_s {b : Nat → Bool} {l : Nat} : mkL b (l + 1) = mkL b l ||| (if b l then ish (iI 1) (iI l) else iI 0) := rfl
theorem mkL_c {b c : Nat → Bool} : ∀ n : Nat, (∀ l, l < n → b l = c l) → mkL b n = mkL c n := by
  intro n
  induction n with
  | zero => intro _; rfl
  | succ n ih =>
    intro h
    rw [mkL_s, mkL_s, ih (fun l hl => h l (by omega)), h n (by omega)]
theorem mkL_t : ∀ n : Nat, n ≤ 5 → ish (iI 1) (iI n) - iI 1 = mkL (fun _ => true) n := by
  intro n hn
  rcases (show n = 0 ∨ n = 1 ∨ n = 2 ∨ n = 3 ∨ n = 4 ∨ n = 5 by omega) with rfl | rfl | rfl | rfl | rfl | rfl <;> decide
theorem mkL_off {b : Nat → Bool} : ∀ n l : Nat, n ≤ 5 → l < n → mkL b n &&& (ish (iI 1) (iI l) ^^^ iI (-1)) = mkL (fun j => b j && !decide (j = l)) n := by
  have key : ∀ b0 b1 b2 b3 b4 : Bool, ∀ n : Fin 6, ∀ l : Fin 5, l.val < n.val → mkL (fun j => if j = 0 then b0 else if j = 1 then b1 else if j = 2 then b2 else if j = 3 then b3 else b4) n.val &&& (ish (iI 1) (iI l.val) ^^^ iI (-1)) = mkL (fun j => (if j = 0 then b0 else if j = 1 then b1 else if j = 2 then b2 else if j = 3 then b3 else b4) && !decide (j = l.val)) n.val := by decide +kernel
  intro n l hn hl
  have k := key (b 0) (b 1) (b 2) (b 3) (b 4) ⟨n, by omega⟩ ⟨l, by omega⟩ hl
  have e : ∀ j, j < 5 → (if j = 0 then b 0 else if j = 1 then b 1 else if j = 2 then b 2 else if j = 3 then b 3 else b 4) = b j := by
    intro j hj
    rcases (show j = 0 ∨ j = 1 ∨ j = 2 ∨ j = 3 ∨ j = 4 by omega) with rfl | rfl | rfl | rfl | rfl <;> rfl
  have e1 := mkL_c (b := fun j => if j = 0 then b 0 else if j = 1 then b 1 else if j = 2 then b 2 else if j = 3 then b 3 else b 4) (c := b) n (fun j hj => e j (by omega))
  have e2 := mkL_c (b := fun j => (if j = 0 then b 0 else if j = 1 then b 1 else if j = 2 then b 2 else if j = 3 then b 3 else b 4) && !decide (j = l)) (c := fun j => b j && !decide (j = l)) n (fun j hj => by simp only [e j (by omega)])
  rw [← e1, ← e2]
  exact k
