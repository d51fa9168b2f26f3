/-! the class's Roamer: a layer passed, all of it -/
section PSM
variable {E : Ev} {B : Bk} {d p r S G L n T : Nat} {V : Vy} {ed : Int → Int64} {k : Int} {A : StF}
theorem s4_p90 {l h : Nat} {a b1 b2 : Int} {P Q : Prop} [Decidable P] [Decidable Q] (R : RE E d p r) (c : RC B d p r V ed S G L T k) (hV : VOK V) (hn : V.1 3 = (n : Int)) (hl : l < n) (hh : (h : Int) < V.1 4) (a0 : 0 ≤ a ∧ a + (T : Int) ≤ 16000) (hP : P → (0 ≤ b1 ∧ b1 + (T : Int) ≤ 16000) ∧ (b1 + (T : Int) ≤ a ∨ a + (T : Int) ≤ b1)) (hQ : Q → (0 ≤ b2 ∧ b2 + (T : Int) ≤ 16000) ∧ (b2 + (T : Int) ≤ a ∨ a + (T : Int) ≤ b2)) : ∃ C, fX4_passLayer_b90 (E.1 + d) (iI (l : Int)) (iI (h : Int)) (iI a) (iI (bI P)) (iI (bI Q)) (iI b1) (iI b2) (St E B) = some (St E C) ∧ roF d B C ∧ (∀ t : Nat, t < T → C.2.2.2.2 (d + 1) (a + (t : Int)) = cyR k ed (V.2.1 (l : Int) (h : Int)) (if Q then jnR k (if P then jnR k (B.2.2.2.2 (d + 1) (a + (t : Int))) (B.2.2.2.2 (d + 1) (b1 + (t : Int))) else B.2.2.2.2 (d + 1) (a + (t : Int))) (B.2.2.2.2 (d + 1) (b2 + (t : Int))) else (if P then jnR k (B.2.2.2.2 (d + 1) (a + (t : Int))) (B.2.2.2.2 (d + 1) (b1 + (t : Int))) else B.2.2.2.2 (d + 1) (a + (t : Int))))) ∧ ∀ z, ¬ (a ≤ z ∧ z < a + (T : Int)) → C.2.2.2.2 (d + 1) z = B.2.2.2.2 (d + 1) z := by
  have v3 := hV.2.2.1
  have v4 := hV.2.2.2.1
  obtain ⟨C, e1, e2, e3, e4⟩ := s4_pl1 (P := P) (Q := Q) (a := a) (b1 := b1) (b2 := b2) (w := V.2.1 (l : Int) (h : Int)) R c (hV.2.2.2.2.2.2.2.2.2.1 (l : Int) (h : Int) (by omega) (by omega) (by omega) (by omega)) a0 hP hQ
  refine ⟨C, ?_, e2, e3, e4⟩
  unfold fX4_passLayer_b90
  rw [g4_4 R.1.1 c.1.1, some_bind, s_windAt R.2.1 (by omega) (by omega) (by omega) (by omega), some_bind, RC_w c]
  dsimp only
  rw [e1, some_bind]
theorem s4_p22 {s u l h : Nat} {a y0 : Int32} (R : RE E d p r) (c : RC B d p r V ed S G L T k) (hn : V.1 3 = (n : Int)) (n0 : 2 ≤ n ∧ n ≤ 5) (hu : u ≤ 9) (hl : l < n) : fX4_passLayer_b22 (E.1 + d) (iI (s : Int)) (iI (u : Int)) (iI (l : Int)) (iI (h : Int)) a y0 (St E B) = fX4_passLayer_b46 (E.1 + d) (iI (s : Int)) (iI (u : Int)) (iI (l : Int)) (iI (h : Int)) a y0 (iI (bI (0 < u ∧ l + 1 < n))) (St E B) := by
  unfold fX4_passLayer_b22 fX4_passLayer_b45
  by_cases q1 : u = 0
  · rw [if_pos (by rw [iI_0, iI_le (by omega) (by omega) (by omega) (by omega)]; omega), bI_f (by omega)]
  · rw [if_neg (by rw [iI_0, iI_le (by omega) (by omega) (by omega) (by omega)]; omega), g4_4 R.1.1 c.1.1, some_bind, g6_3 R.2.1.1, some_bind, RC_v c, hn, iI_sub]
    by_cases q2 : l + 1 < n
    · rw [if_neg (by rw [iI_le (by omega) (by omega) (by omega) (by omega)]; omega), bI_t (by omega)]
    · rw [if_pos (by rw [iI_le (by omega) (by omega) (by omega) (by omega)]; omega), bI_f (by omega)]
theorem s4_p00 {s u l h : Nat} (R : RE E d p r) (c : RC B d p r V ed S G L T k) (hn : V.1 3 = (n : Int)) (n0 : 2 ≤ n ∧ n ≤ 5) (hs : s ≤ 9) (hl : l < n) : fX4_passLayer (E.1 + d) (iI (s : Int)) (iI (u : Int)) (iI (l : Int)) (iI (h : Int)) (St E B) = fX4_passLayer_b22 (E.1 + d) (iI (s : Int)) (iI (u : Int)) (iI (l : Int)) (iI (h : Int)) (iI ((plN G n T s u l 0 : Nat) : Int)) (iI (bI (0 < s ∧ 0 < l))) (St E B) := by
  unfold fX4_passLayer fX4_passLayer_b21
  rw [c4 R.1.1, some_bind, s4_pO R c hn, some_bind]
  dsimp only
  by_cases q1 : s = 0
  · rw [if_pos (by rw [iI_0, iI_le (by omega) (by omega) (by omega) (by omega)]; omega), bI_f (by omega)]
  · rw [if_neg (by rw [iI_0, iI_le (by omega) (by omega) (by omega) (by omega)]; omega)]
    by_cases q2 : l = 0
    · rw [if_pos (by rw [iI_0, iI_le (by omega) (by omega) (by omega) (by omega)]; omega), bI_f (by omega)]
    · rw [if_neg (by rw [iI_0, iI_le (by omega) (by omega) (by omega) (by omega)]; omega), bI_t (by omega)]
theorem s4_p46 {s u l h : Nat} {a : Int32} {P Q : Prop} [Decidable P] [Decidable Q] (R : RE E d p r) (c : RC B d p r V ed S G L T k) (hn : V.1 3 = (n : Int)) (hP : P → 0 < s ∧ 0 < l) (hQ : Q → 0 < u) : fX4_passLayer_b46 (E.1 + d) (iI (s : Int)) (iI (u : Int)) (iI (l : Int)) (iI (h : Int)) a (iI (bI P)) (iI (bI Q)) (St E B) = fX4_passLayer_b90 (E.1 + d) (iI (l : Int)) (iI (h : Int)) a (iI (bI P)) (iI (bI Q)) (iI ((if P then plN G n T (s - 1) u (l - 1) 0 else 0 : Nat) : Int)) (iI ((if Q then plN G n T s (u - 1) (l + 1) 0 else 0 : Nat) : Int)) (St E B) := by
  have k68 : ∀ y : Int32, fX4_passLayer_b68 (E.1 + d) (iI (s : Int)) (iI (u : Int)) (iI (l : Int)) (iI (h : Int)) a (iI (bI P)) (iI (bI Q)) y (St E B) = fX4_passLayer_b90 (E.1 + d) (iI (l : Int)) (iI (h : Int)) a (iI (bI P)) (iI (bI Q)) y (iI ((if Q then plN G n T s (u - 1) (l + 1) 0 else 0 : Nat) : Int)) (St E B) := by
    intro y
    unfold fX4_passLayer_b68
    by_cases q : Q
    · have := hQ q
      rw [if_neg (fun w => (bI_0.mp w) q), iI_sub, iI_add, show (u : Int) - 1 = ((u - 1 : Nat) : Int) by omega, show (l : Int) + 1 = ((l + 1 : Nat) : Int) by omega, s4_pO R c hn, some_bind, if_pos q]
    · rw [if_pos (bI_0.mpr q), if_neg q]
      rfl
  unfold fX4_passLayer_b46
  by_cases q : P
  · have := hP q
    rw [if_neg (fun w => (bI_0.mp w) q), iI_sub, iI_sub, show (s : Int) - 1 = ((s - 1 : Nat) : Int) by omega, show (l : Int) - 1 = ((l - 1 : Nat) : Int) by omega, s4_pO R c hn, some_bind, if_pos q]
    exact k68 _
  · rw [if_pos (bI_0.mpr q), if_neg q]
    exact k68 _
theorem s4_passLayer {s u l h : Nat} (R : RE E d p r) (c : RC B d p r V ed S G L T k) (hV : VOK V) (hn : V.1 3 = (n : Int)) (hS : S ≤ 9) (hG : G ≤ 9) (hs : s ≤ S) (hu : u ≤ G) (hl : l < n) (hh : (h : Int) < V.1 4) (hA : stR B d S G n T A) : ∃ C, fX4_passLayer (E.1 + d) (iI (s : Int)) (iI (u : Int)) (iI (l : Int)) (iI (h : Int)) (St E B) = some (St E C) ∧ roF d B C ∧ stR C d S G n T (upB A s u l (fun t => cyR k ed (V.2.1 (l : Int) (h : Int)) (x2R k n A s u l t))) := by
  have v3 := hV.2.2.1
  have T0 := c.2.2.2.2.2.2.1
  have T1 := c.2.2.2.2.2.2.2
  have top : ∀ s' u' l', s' ≤ S → u' ≤ G → l' < n → plN G n T s' u' l' 0 + T ≤ 16000 := fun s' u' l' h1 h2 h3 => by
    have := plN_lt (G := G) (n := n) (T := T) (s := s') (u := u') (l := l') (t := T - 1) hG (by omega) T1 (by omega) h2 h3 (by omega)
    have := plN_0 (G := G) (n := n) (T := T) (s := s') (u := u') (l := l') (t := T - 1)
    omega
  have t0 := top s u l hs hu hl
  obtain ⟨C, e1, e2, e3, e4⟩ := s4_p90 (l := l) (h := h) (a := ((plN G n T s u l 0 : Nat) : Int)) (P := 0 < s ∧ 0 < l) (Q := 0 < u ∧ l + 1 < n) (b1 := ((if 0 < s ∧ 0 < l then plN G n T (s - 1) u (l - 1) 0 else 0 : Nat) : Int)) (b2 := ((if 0 < u ∧ l + 1 < n then plN G n T s (u - 1) (l + 1) 0 else 0 : Nat) : Int)) R c hV hn hl hh (by omega) (fun q => by
      rw [if_pos q]
      have t1 := top (s - 1) u (l - 1) (by omega) hu (by omega)
      have := plN_ap (G := G) (n := n) (T := T) (s := s) (u := u) (l := l) (s' := s - 1) (u' := u) (l' := l - 1) hu hl hu (by omega) T0 (by omega)
      omega) (fun q => by
      rw [if_pos q]
      have t1 := top s (u - 1) (l + 1) hs (by omega) (by omega)
      have := plN_ap (G := G) (n := n) (T := T) (s := s) (u := u) (l := l) (s' := s) (u' := u - 1) (l' := l + 1) hu hl (by omega) (by omega) T0 (by omega)
      omega)
  refine ⟨C, ?_, e2, stR_up hA hu hl (fun t ht => ?_) e4⟩
  · rw [s4_p00 R c hn (by omega) (by omega) hl, s4_p22 R c hn (by omega) (by omega) hl, s4_p46 R c hn (fun q => q) (fun q => q.1), e1]
  · have pz := plN_0 (G := G) (n := n) (T := T) (s := s) (u := u) (l := l) (t := t)
    rw [show ((plN G n T s u l t : Nat) : Int) = ((plN G n T s u l 0 : Nat) : Int) + (t : Int) by omega, e3 t ht, show ((plN G n T s u l 0 : Nat) : Int) + (t : Int) = ((plN G n T s u l t : Nat) : Int) by omega, hA s u l t hs hu hl ht]
    unfold x2R x1R
    congr 1
    by_cases q1 : 0 < s ∧ 0 < l
    · have p1 := plN_0 (G := G) (n := n) (T := T) (s := s - 1) (u := u) (l := l - 1) (t := t)
      rw [if_pos q1, if_pos q1, if_pos q1, show ((plN G n T (s - 1) u (l - 1) 0 : Nat) : Int) + (t : Int) = ((plN G n T (s - 1) u (l - 1) t : Nat) : Int) by omega, hA (s - 1) u (l - 1) t (by omega) hu (by omega) ht]
      by_cases q2 : 0 < u ∧ l + 1 < n
      · have p2 := plN_0 (G := G) (n := n) (T := T) (s := s) (u := u - 1) (l := l + 1) (t := t)
        rw [if_pos q2, if_pos q2, if_pos q2, show ((plN G n T s (u - 1) (l + 1) 0 : Nat) : Int) + (t : Int) = ((plN G n T s (u - 1) (l + 1) t : Nat) : Int) by omega, hA s (u - 1) (l + 1) t hs (by omega) q2.2 ht]
      · rw [if_neg q2, if_neg q2]
    · rw [if_neg q1, if_neg q1]
      by_cases q2 : 0 < u ∧ l + 1 < n
      · have p2 := plN_0 (G := G) (n := n) (T := T) (s := s) (u := u - 1) (l := l + 1) (t := t)
        rw [if_pos q2, if_pos q2, if_pos q2, show ((plN G n T s (u - 1) (l + 1) 0 : Nat) : Int) + (t : Int) = ((plN G n T s (u - 1) (l + 1) t : Nat) : Int) by omega, hA s (u - 1) (l + 1) t hs (by omega) q2.2 ht]
      · rw [if_neg q2, if_neg q2]
end PSM
