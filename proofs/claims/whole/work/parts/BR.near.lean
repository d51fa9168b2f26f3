/-! meet and rope: the class's first hour together -/
theorem wm_l : ∀ i, i < 64 → tb 9187201950435737471 i = decide (i % 8 ≠ 7) := by decide +kernel
theorem wm_f : ∀ i, i < 64 → tb (-72340172838076674) i = decide (i % 8 ≠ 0) := by decide +kernel
def brd (x : Int64) : Int64 := (x ||| (lsh (x &&& 9187201950435737471) (iI 1))) ||| (lush (x &&& (-72340172838076674)) (iI 1))
theorem brd_b {x : Int64} {i : Nat} (hi : i < 64) : tb (brd x) i = true ↔ ∃ c : Nat, c < 64 ∧ tb x c = true ∧ c / 8 = i / 8 ∧ c % 8 ≤ i % 8 + 1 ∧ i % 8 ≤ c % 8 + 1 := by
  have h1 := tb_lsh (k := 1) (by omega) (x &&& 9187201950435737471) hi
  have h2 := tb_lush (k := 1) (by omega) (x &&& (-72340172838076674)) i
  have e1 : iI ((1 : Nat) : Int) = iI 1 := rfl
  rw [e1] at h1 h2
  unfold brd
  rw [tb_or, Bool.or_eq_true, tb_or, Bool.or_eq_true, h1, h2, Bool.and_eq_true, decide_eq_true_eq, tb_and, Bool.and_eq_true, tb_and, Bool.and_eq_true]
  constructor
  · rintro ((w | ⟨w1, w2, w3⟩) | ⟨w1, w2⟩)
    · exact ⟨i, hi, w, by omega, by omega, by omega⟩
    · rw [wm_l (i - 1) (by omega), decide_eq_true_eq] at w3
      exact ⟨i - 1, by omega, w2, by omega, by omega, by omega⟩
    · by_cases q : 1 + i < 64
      · rw [wm_f (1 + i) q, decide_eq_true_eq] at w2
        exact ⟨1 + i, q, w1, by omega, by omega, by omega⟩
      · rw [tb_big (by omega)] at w1
        cases w1
  · rintro ⟨c, c1, c2, c3, c4, c5⟩
    rcases (show c = i ∨ c + 1 = i ∨ c = i + 1 by omega) with rfl | e | e
    · exact Or.inl (Or.inl c2)
    · refine Or.inl (Or.inr ⟨by omega, ?_, ?_⟩)
      · rw [show i - 1 = c by omega]
        exact c2
      · rw [wm_l (i - 1) (by omega), decide_eq_true_eq]
        omega
    · refine Or.inr ⟨?_, ?_⟩
      · rw [show 1 + i = c by omega]
        exact c2
      · rw [wm_f (1 + i) (by omega), decide_eq_true_eq]
        omega
/-- the columns no more than one apart -/
def nrC (a c i : Nat) : Prop := (c % 8 ≤ i % 8 + a ∧ i % 8 ≤ c % 8 + a) ∧ (c / 8 ≤ i / 8 + a ∧ i / 8 ≤ c / 8 + a)
theorem s0_widened {x : Int64} {s : Hp} : ∃ y, fX0_widened x s = some (y, s) ∧ ∀ i, i < 64 → (tb y i = true ↔ ∃ c : Nat, c < 64 ∧ tb x c = true ∧ nrC 1 c i) := by
  refine ⟨(brd x ||| (lsh (brd x) (iI 8))) ||| (lush (brd x) (iI 8)), rfl, fun i hi => ?_⟩
  have h1 := tb_lsh (k := 8) (by omega) (brd x) hi
  have h2 := tb_lush (k := 8) (by omega) (brd x) i
  have e1 : iI ((8 : Nat) : Int) = iI 8 := rfl
  rw [e1] at h1 h2
  rw [tb_or, Bool.or_eq_true, tb_or, Bool.or_eq_true, h1, h2, Bool.and_eq_true, decide_eq_true_eq]
  unfold nrC
  constructor
  · rintro ((w | ⟨w1, w2⟩) | w)
    · obtain ⟨c, c1, c2, c3, c4, c5⟩ := (brd_b hi).mp w
      exact ⟨c, c1, c2, by omega, by omega⟩
    · obtain ⟨c, c1, c2, c3, c4, c5⟩ := (brd_b (by omega)).mp w2
      exact ⟨c, c1, c2, by omega, by omega⟩
    · by_cases q : 8 + i < 64
      · obtain ⟨c, c1, c2, c3, c4, c5⟩ := (brd_b q).mp w
        exact ⟨c, c1, c2, by omega, by omega⟩
      · rw [tb_big (by omega)] at w
        cases w
  · rintro ⟨c, c1, c2, ⟨c3, c4⟩, c5, c6⟩
    rcases (show c / 8 = i / 8 ∨ c / 8 + 1 = i / 8 ∨ c / 8 = i / 8 + 1 by omega) with e | e | e
    · exact Or.inl (Or.inl ((brd_b hi).mpr ⟨c, c1, c2, e, by omega, by omega⟩))
    · exact Or.inl (Or.inr ⟨by omega, (brd_b (by omega)).mpr ⟨c, c1, c2, by omega, by omega, by omega⟩⟩)
    · exact Or.inr ((brd_b (by omega)).mpr ⟨c, c1, c2, by omega, by omega, by omega⟩)
section NER
variable {E : Ev} {B C : Bk} {n d : Nat}
theorem s8_columnsNear {r h l k a : Nat} (rc : KD E co 8 13) (rn : B.2.2.1 co 7 = some n) (rk : VK E n) (kd : KD E r 2 5) (ke : KD E (r + 1) 21 1200) (hh : h < 24) (hk : B.1 n 3 = (k : Int)) (k5 : k ≤ 5) (hl : l < k) (ha : a ≤ 1) : ∃ x, fX8_columnsNear (E.1 + co) (E.1 + r) (iI (h : Int)) (iI (l : Int)) (iI (a : Int)) (St E B) = some (x, St E B) ∧ ∀ i, i < 64 → (tb x i = true ↔ ∃ l1 c : Nat, l1 < k ∧ (l1 ≤ l + a ∧ l ≤ l1 + a) ∧ c < 64 ∧ hiN B r h l1 c = true ∧ nrC a c i) := by
  obtain ⟨lo, hlo⟩ : ∃ lo : Nat, lo = l - a := ⟨_, rfl⟩
  obtain ⟨hi', hhi⟩ : ∃ hi' : Nat, hi' = min (l + a) (k - 1) := ⟨_, rfl⟩
  obtain ⟨z, e1, x, rfl, e2⟩ := iter_acc (F := fX8_columnsNear_l13 (E.1 + co) (E.1 + r) (iI (h : Int)) (iI (l : Int)) (iI (a : Int))) (fun j q => ∃ x, q = (x, iI ((lo + j : Nat) : Int), St E B) ∧ ∀ i, i < 64 → (tb x i = true ↔ ∃ l1, lo ≤ l1 ∧ l1 < lo + j ∧ hiN B r h l1 i = true)) (hi' + 1 - lo) (fun q => ∃ x, q = (x, St E B) ∧ ∀ i, i < 64 → (tb x i = true ↔ ∃ l1, lo ≤ l1 ∧ l1 ≤ hi' ∧ hiN B r h l1 i = true))
    (fun j q hj ha2 => by
      obtain ⟨x, rfl, e2⟩ := ha2
      obtain ⟨x2, g1, g2⟩ := s2_cols (B := B) (l := lo + j) kd ke hh (by omega)
      refine ⟨(x ||| x2, iI ((lo + (j + 1) : Nat) : Int), St E B), ?_, _, rfl, fun i hi => ?_⟩
      · unfold fX8_columnsNear_l13
        dsimp only
        rw [g8_7 rc rn, some_bind, g6_3 rk.1, some_bind, hk, iI_add, iI_sub, imin_ok (by omega) (by omega) (by omega) (by omega), if_neg (by rw [iI_lt (by omega) (by omega) (by omega) (by omega)]; omega), g1, some_bind]
        unfold lt_
        dsimp only
        rw [iI_add, show ((lo + j : Nat) : Int) + 1 = ((lo + (j + 1) : Nat) : Int) by omega]
      · rw [tb_or, Bool.or_eq_true, e2 i hi, g2 i hi]
        constructor
        · rintro (⟨l1, h1, h2, h3⟩ | w)
          · exact ⟨l1, h1, by omega, h3⟩
          · exact ⟨lo + j, by omega, by omega, w⟩
        · rintro ⟨l1, h1, h2, h3⟩
          by_cases e : l1 = lo + j
          · exact Or.inr (e ▸ h3)
          · exact Or.inl ⟨l1, h1, by omega, h3⟩)
    (fun q ha2 => by
      obtain ⟨x, rfl, e2⟩ := ha2
      refine ⟨(x, St E B), ?_, x, rfl, fun i hi => ?_⟩
      · unfold fX8_columnsNear_l13
        dsimp only
        rw [g8_7 rc rn, some_bind, g6_3 rk.1, some_bind, hk, iI_add, iI_sub, imin_ok (by omega) (by omega) (by omega) (by omega), if_pos (by rw [iI_lt (by omega) (by omega) (by omega) (by omega)]; omega)]
      · rw [e2 i hi]
        constructor
        · rintro ⟨l1, h1, h2, h3⟩
          exact ⟨l1, h1, by omega, h3⟩
        · rintro ⟨l1, h1, h2, h3⟩
          exact ⟨l1, h1, by omega, h3⟩) (N := FU) (by show hi' + 1 - lo < 1000000; omega) (a := (0, iI (lo : Int), St E B)) ⟨0, rfl, fun i hi => by
      rw [tb_0]
      constructor
      · intro w
        cases w
      · rintro ⟨l1, h1, h2, -⟩
        omega⟩
  have hd : fX8_columnsNear (E.1 + co) (E.1 + r) (iI (h : Int)) (iI (l : Int)) (iI (a : Int)) (St E B) = if iI (a : Int) = 0 then some (x, St E B) else ((fX0_widened x (St E B)).bind fun r9 => some (r9.1, r9.2)) := by
    unfold fX8_columnsNear
    rw [c8 rc, some_bind, iI_sub, imax_ok (by omega) (by omega) (by omega) (by omega), show max 0 ((l : Int) - (a : Int)) = (lo : Int) by omega]
    unfold lt_
    dsimp only
    rw [e1, some_bind]
  rw [hd]
  rcases (show a = 0 ∨ a = 1 by omega) with rfl | rfl
  · rw [if_pos (by decide)]
    refine ⟨x, rfl, fun i hi => ?_⟩
    rw [e2 i hi]
    unfold nrC
    constructor
    · rintro ⟨l1, h1, h2, h3⟩
      exact ⟨l1, i, by omega, by omega, hi, h3, by omega, by omega⟩
    · rintro ⟨l1, c, h1, h2, h3, h4, h5, h6⟩
      rw [show c = i by omega] at h4
      exact ⟨l1, by omega, by omega, h4⟩
  · rw [if_neg (by decide)]
    obtain ⟨y, y1, y2⟩ := s0_widened (x := x) (s := St E B)
    rw [y1, some_bind]
    refine ⟨y, rfl, fun i hi => ?_⟩
    rw [y2 i hi]
    constructor
    · rintro ⟨c, c1, c2, c3⟩
      obtain ⟨l1, h1, h2, h3⟩ := (e2 c c1).mp c2
      exact ⟨l1, c, by omega, by omega, c1, h3, c3⟩
    · rintro ⟨l1, c, h1, h2, h3, h4, h5⟩
      exact ⟨c, h3, (e2 c h3).mpr ⟨l1, by omega, by omega, h4⟩, h5⟩
/-- two shops near each other behind an hour, by cells -/
def tgB (B : Bk) (r1 r2 k a h : Nat) : Prop := ∃ l c l1 c1 : Nat, (l < k ∧ c < 64 ∧ hiN B r1 h l c = true) ∧ (l1 < k ∧ c1 < 64 ∧ hiN B r2 h l1 c1 = true) ∧ (l1 ≤ l + a ∧ l ≤ l1 + a) ∧ nrC a c1 c
theorem s8_ft1 {r1 r2 h k a : Nat} (rc : KD E co 8 13) (rn : B.2.2.1 co 7 = some n) (rk : VK E n) (k1 : KD E r1 2 5) (k1' : KD E (r1 + 1) 21 1200) (k2 : KD E r2 2 5) (k2' : KD E (r2 + 1) 21 1200) (hh : h < 24) (hk : B.1 n 3 = (k : Int)) (k5 : k ≤ 5) (ha : a ≤ 1) : ∃ z, iter (fX8_firstTogether_l18 (E.1 + co) (E.1 + r1) (E.1 + r2) (iI (a : Int)) (iI (h : Int))) FU (iI 0, St E B) = some z ∧ ((z = Sum.inl (St E B) ∧ ¬ tgB B r1 r2 k a h) ∨ (z = Sum.inr (St E B) ∧ tgB B r1 r2 k a h)) := by
  obtain ⟨z, e1, e2⟩ := iter_seek (F := fX8_firstTogether_l18 (E.1 + co) (E.1 + r1) (E.1 + r2) (iI (a : Int)) (iI (h : Int))) (fun j q => q = (iI j, St E B)) (fun j => ∃ c l1 c1 : Nat, (c < 64 ∧ hiN B r1 h j.toNat c = true) ∧ (l1 < k ∧ c1 < 64 ∧ hiN B r2 h l1 c1 = true) ∧ (l1 ≤ j.toNat + a ∧ j.toNat ≤ l1 + a) ∧ nrC a c1 c) (fun j r => r = Sum.inr (St E B)) (fun r => r = Sum.inl (St E B)) 0 (k : Int)
    (fun j q j0 j1 hq np => by
      subst hq
      obtain ⟨l, rfl⟩ : ∃ l : Nat, j = (l : Int) := ⟨j.toNat, by omega⟩
      rw [Int.toNat_natCast] at np
      obtain ⟨x, x1, x2⟩ := s2_cols (B := B) (l := l) k1 k1' hh (by omega)
      obtain ⟨y, y1, y2⟩ := s8_columnsNear (B := B) (n := n) (r := r2) (h := h) (l := l) (k := k) (a := a) rc rn rk k2 k2' hh hk k5 (by omega) ha
      refine ⟨_, ?_, rfl⟩
      unfold fX8_firstTogether_l18
      dsimp only
      rw [g8_7 rc rn, some_bind, g6_3 rk.1, some_bind, hk, if_neg (by rw [iI_le (by omega) (by omega) (by omega) (by omega)]; omega), x1, some_bind]
      dsimp only
      rw [y1, some_bind, if_pos, iI_add]
      refine (lg_cmp_eq _ _).mpr (tb_z.mpr (fun i hi => ?_))
      cases e : tb (x &&& y) i
      · rfl
      · rw [tb_and, Bool.and_eq_true] at e
        obtain ⟨l1, c, b1, b2, b3, b4, b5⟩ := (y2 i hi).mp e.2
        exact absurd ⟨i, l1, c, ⟨hi, by rw [← x2 i hi]; exact e.1⟩, ⟨b1, b3, b4⟩, b2, b5⟩ np)
    (fun j q j0 j1 hq np => by
      subst hq
      obtain ⟨l, rfl⟩ : ∃ l : Nat, j = (l : Int) := ⟨j.toNat, by omega⟩
      rw [Int.toNat_natCast] at np
      obtain ⟨x, x1, x2⟩ := s2_cols (B := B) (l := l) k1 k1' hh (by omega)
      obtain ⟨y, y1, y2⟩ := s8_columnsNear (B := B) (n := n) (r := r2) (h := h) (l := l) (k := k) (a := a) rc rn rk k2 k2' hh hk k5 (by omega) ha
      have nl : ¬ iI (k : Int) ≤ iI (l : Int) := by rw [iI_le (by omega) (by omega) (by omega) (by omega)]; omega
      obtain ⟨c, l1, c1, ⟨a1, a2⟩, ⟨a3, a4, a5⟩, a6, a7⟩ := np
      refine ⟨_, ?_, rfl⟩
      unfold fX8_firstTogether_l18
      dsimp only
      rw [g8_7 rc rn, some_bind, g6_3 rk.1, some_bind, hk, if_neg nl, x1, some_bind]
      dsimp only
      rw [y1, some_bind, if_neg]
      intro w
      have := tb_z.mp ((lg_cmp_eq _ _).mp w) c a1
      rw [tb_and, x2 c a1, a2, (y2 c a1).mpr ⟨l1, c1, a3, a6, a4, a5, a7⟩] at this
      cases this)
    (fun q hq => by
      subst hq
      refine ⟨_, ?_, rfl⟩
      unfold fX8_firstTogether_l18
      dsimp only
      rw [g8_7 rc rn, some_bind, g6_3 rk.1, some_bind, hk, if_pos (by rw [iI_le (by omega) (by omega) (by omega) (by omega)]; omega)])
    (by omega) (N := FU) (FU_big (by omega)) (a := (iI 0, St E B)) rfl
  refine ⟨z, e1, ?_⟩
  rcases e2 with ⟨j, j0, j1, ⟨c, l1, c1, a1, a2, a3, a4⟩, -, e⟩ | ⟨np, e⟩
  · exact Or.inr ⟨e, j.toNat, c, l1, c1, ⟨by omega, a1⟩, a2, a3, a4⟩
  · refine Or.inl ⟨e, fun ⟨l, c, l1, c1, a1, a2, a3, a4⟩ => np (l : Int) (by omega) (by omega) ?_⟩
    rw [Int.toNat_natCast]
    exact ⟨c, l1, c1, a1.2, a2, a3, a4⟩
theorem s8_firstTogether {r1 r2 k a H : Nat} (rc : KD E co 8 13) (rn : B.2.2.1 co 7 = some n) (rk : VK E n) (k1 : KD E r1 2 5) (k1' : KD E (r1 + 1) 21 1200) (k2 : KD E r2 2 5) (k2' : KD E (r2 + 1) 21 1200) (hH : B.1 n 4 = (H : Int)) (H24 : H ≤ 24) (hk : B.1 n 3 = (k : Int)) (k5 : k ≤ 5) (ha : a ≤ 1) : ∃ v, fX8_firstTogether (E.1 + co) (E.1 + r1) (E.1 + r2) (iI (a : Int)) (St E B) = some (iI v, St E B) ∧ lsP (fun h => h < H ∧ tgB B r1 r2 k a h) v := by
  obtain ⟨z, e1, e2⟩ := iter_seek (F := fX8_firstTogether_l3 (E.1 + co) (E.1 + r1) (E.1 + r2) (iI (a : Int))) (fun j q => q = (iI j, St E B)) (fun j => tgB B r1 r2 k a j.toNat) (fun j r => r = Sum.inr (iI j, St E B)) (fun r => r = Sum.inl (St E B)) 0 (H : Int)
    (fun j q j0 j1 hq np => by
      subst hq
      obtain ⟨h, rfl⟩ : ∃ h : Nat, j = (h : Int) := ⟨j.toNat, by omega⟩
      rw [Int.toNat_natCast] at np
      have nl : ¬ iI (H : Int) ≤ iI (h : Int) := by rw [iI_le (by omega) (by omega) (by omega) (by omega)]; omega
      obtain ⟨z, z1, z2⟩ := s8_ft1 (B := B) (n := n) (r1 := r1) (r2 := r2) (h := h) (k := k) (a := a) rc rn rk k1 k1' k2 k2' (by omega) hk k5 ha
      refine ⟨_, ?_, rfl⟩
      unfold fX8_firstTogether_l3
      dsimp only
      rw [g8_7 rc rn, some_bind, g6_4 rk.1, some_bind, hH, if_neg nl, z1, some_bind]
      rcases z2 with ⟨rfl, -⟩ | ⟨-, w⟩
      · rw [iI_add]
        rfl
      · exact absurd w np)
    (fun j q j0 j1 hq np => by
      subst hq
      obtain ⟨h, rfl⟩ : ∃ h : Nat, j = (h : Int) := ⟨j.toNat, by omega⟩
      rw [Int.toNat_natCast] at np
      have nl : ¬ iI (H : Int) ≤ iI (h : Int) := by rw [iI_le (by omega) (by omega) (by omega) (by omega)]; omega
      obtain ⟨z, z1, z2⟩ := s8_ft1 (B := B) (n := n) (r1 := r1) (r2 := r2) (h := h) (k := k) (a := a) rc rn rk k1 k1' k2 k2' (by omega) hk k5 ha
      refine ⟨_, ?_, rfl⟩
      unfold fX8_firstTogether_l3
      dsimp only
      rw [g8_7 rc rn, some_bind, g6_4 rk.1, some_bind, hH, if_neg nl, z1, some_bind]
      rcases z2 with ⟨-, w⟩ | ⟨rfl, -⟩
      · exact absurd np w
      · rfl)
    (fun q hq => by
      subst hq
      refine ⟨_, ?_, rfl⟩
      unfold fX8_firstTogether_l3
      dsimp only
      rw [g8_7 rc rn, some_bind, g6_4 rk.1, some_bind, hH, if_pos (by rw [iI_le (by omega) (by omega) (by omega) (by omega)]; omega)])
    (by omega) (N := FU) (FU_big (by omega)) (a := (iI 0, St E B)) rfl
  have hd : fX8_firstTogether (E.1 + co) (E.1 + r1) (E.1 + r2) (iI (a : Int)) (St E B) = Sum.elim (fun r11a => some ((iI (-1)), r11a)) (fun r11b => some (r11b.1, r11b.2)) z := by
    unfold fX8_firstTogether
    rw [c8 rc, some_bind, e1, some_bind]
  rcases e2 with ⟨j, j0, j1, w, np, rfl⟩ | ⟨np, rfl⟩
  · refine ⟨j, hd, Or.inr ⟨j.toNat, by omega, ⟨by omega, w⟩, fun h q ⟨b1, b2⟩ => np (h : Int) (by omega) (by omega) (by rw [Int.toNat_natCast]; exact b2)⟩⟩
  · exact ⟨-1, hd, Or.inl ⟨rfl, fun h ⟨b1, b2⟩ => np (h : Int) (by omega) (by omega) (by rw [Int.toNat_natCast]; exact b2)⟩⟩
end NER
