/-! the class's Guide: its small steps -/
def plG (sd G n h s u l : Nat) : Nat := ((h * (sd + 1) + s) * (G + 1) + u) * n + l
def okG (n sd G : Nat) (a : Int) (s u l : Nat) : Prop := a = 0 ∨ (a = 1 ∧ s < sd ∧ l + 1 < n) ∨ (a = 2 ∧ u < G ∧ 0 < l)
def GC (B : Bk) (d p : Nat) (V : Vy) (sd G : Nat) : Prop := (B.2.2.1 (d + 4) 1 = some (d + 1) ∧ B.2.2.1 (d + 4) 2 = some (d + 2) ∧ B.2.2.1 (d + 4) 3 = some p) ∧ (B.1 (d + 4) 4 = (sd : Int) ∧ B.1 (d + 4) 5 = (G : Int)) ∧ VW B p ∧ vyN B p = V ∧ brI B (d + 2) (V.1 1) (V.1 2) 64
/-- by an act of hour h a marked place is reached -/
def gbM (B : Bk) (d : Nat) (V : Vy) (sd G n h : Nat) (a : Int) (s u l c : Nat) : Prop := okG n sd G a s u l ∧ ∃ c2 l2 s2 u2 : Nat, (c2 : Int) = ccA V a (h : Int) (c : Int) (l : Int) ∧ (l2 : Int) = clA V (h : Int) (lvA a (l : Int)) ∧ (s2 : Int) = (s : Int) + (if a = 1 then 1 else 0) ∧ (u2 : Int) = (u : Int) + (if a = 2 then 1 else 0) ∧ tb (B.2.2.2.2 (d + 1) ((plG sd G n (h + 1) s2 u2 l2 : Nat) : Int)) c2 = true
section GDE
variable {E : Ev} {B C : Bk} {V : Vy} {d p sd G n h s u l c : Nat} {a : Int}
theorem GC_v (g : GC B d p V sd G) (j : Nat) : B.1 p j = V.1 j := by rw [← g.2.2.2.1]; rfl
theorem GC_w (g : GC B d p V sd G) (l h : Int) : B.2.2.2.1 (p + 1) (l * 24 + h) = V.2.1 l h := by rw [← g.2.2.2.1]; rfl
theorem plG_b (hh : h ≤ 24) (hs : s ≤ sd) (hu : u ≤ G) (hl : l < n) (s9 : sd ≤ 9) (g9 : G ≤ 9) (n5 : n ≤ 5) : plG sd G n h s u l < 12500 := by
  unfold plG
  have x1 : h * (sd + 1) ≤ 24 * 10 := Nat.mul_le_mul hh (by omega)
  have x2 : (h * (sd + 1) + s) * (G + 1) ≤ 249 * 10 := Nat.mul_le_mul (by omega) (by omega)
  have x3 : ((h * (sd + 1) + s) * (G + 1) + u) * n ≤ 2499 * 5 := Nat.mul_le_mul (by omega) n5
  omega
theorem dm_u {m a b x y : Nat} (hx : x < m) (hy : y < m) (e : a * m + x = b * m + y) : a = b ∧ x = y := by
  have h1 : (a * m + x) / m = a := by rw [Nat.mul_comm, Nat.mul_add_div (by omega), Nat.div_eq_of_lt hx, Nat.add_zero]
  have h2 : (b * m + y) / m = b := by rw [Nat.mul_comm, Nat.mul_add_div (by omega), Nat.div_eq_of_lt hy, Nat.add_zero]
  have : a = b := by rw [← h1, e, h2]
  subst this
  exact ⟨rfl, by omega⟩
theorem plG_inj {h' s' u' l' : Nat} (hs : s ≤ sd) (hu : u ≤ G) (hl : l < n) (hs' : s' ≤ sd) (hu' : u' ≤ G) (hl' : l' < n) (e : plG sd G n h s u l = plG sd G n h' s' u' l') : h = h' ∧ s = s' ∧ u = u' ∧ l = l' := by
  unfold plG at e
  obtain ⟨e1, e2⟩ := dm_u hl hl' e
  obtain ⟨e3, e4⟩ := dm_u (by omega) (by omega) e1
  obtain ⟨e5, e6⟩ := dm_u (by omega) (by omega) e3
  exact ⟨e5, e6, e4, e2⟩
theorem s1_placeOf {x y z w : Nat} (K : RKD E d) (kp : VK E p) (g : GC B d p V sd G) (hn : V.1 3 = (n : Int)) : fX1_placeOf (E.1 + (d + 4)) (iI (x : Int)) (iI (y : Int)) (iI (z : Int)) (iI (w : Int)) (St E B) = some (iI ((plG sd G n x y z w : Nat) : Int), St E B) := by
  have k1 := K.2.1.1
  unfold fX1_placeOf plG
  rw [c1 k1, some_bind, g1_4 k1, some_bind, g1_5 k1, some_bind, g1_3 k1 g.1.2.2, some_bind, g6_3 kp.1, some_bind, g.2.1.1, g.2.1.2, GC_v g, hn, iI_add, iI_mul, iI_add, iI_add, iI_mul, iI_add, iI_mul, iI_add]
  push_cast
  rfl
theorem s1_levelBy {x : Int} {q : Hp} (a0 : 0 ≤ a ∧ a ≤ 2) : fX1_levelBy (iI a) (iI x) q = some (iI (lvA a x), q) := by
  unfold fX1_levelBy fX1_levelBy_b11 fX1_levelBy_b22 lvA
  rcases (show a = 0 ∨ a = 1 ∨ a = 2 by omega) with rfl | rfl | rfl
  · rw [if_neg (by decide), if_neg (by decide), if_neg (by decide), if_neg (by decide), iI_add, iI_sub]
    congr 3
    omega
  · rw [if_pos rfl, if_neg (by decide), if_pos rfl, iI_add, iI_sub]
    congr 3
    omega
  · rw [if_neg (by decide), if_pos rfl, if_neg (by decide), if_pos rfl, iI_add, iI_sub]
    congr 3
    omega
theorem s1_cooled {x : Nat} (K : RKD E d) (kp : VK E p) (g : GC B d p V sd G) (hh : h < 24) (x5 : x < 5) : fX1_cooled (E.1 + (d + 4)) (iI (x : Int)) (iI (h : Int)) (St E B) = some (iI (clA V (h : Int) (x : Int)), St E B) := by
  have k1 := K.2.1.1
  unfold fX1_cooled
  rw [c1 k1, some_bind, g1_3 k1 g.1.2.2, some_bind, s_coolsIn kp g.2.2.1 (by omega) (by omega), some_bind, GC_v g]
  dsimp only
  have cc := cl_c (V := V) (h := h) (l := (x : Int))
  have ec : coolV V (h : Int) = bI (0 < V.1 5 ∧ ((h : Int) + 1) % V.1 5 = 0) := rfl
  rw [← ec]
  have cb : coolV V (h : Int) = 0 ∨ coolV V (h : Int) = 1 := bI_01
  rcases cb with q | q
  · rw [q, if_pos (by decide)]
    congr 3
    omega
  · rw [q, if_neg (by decide), iI_sub, imax_ok (by omega) (by omega) (by omega) (by omega)]
    congr 3
    omega
theorem s1_canAct (K : RKD E d) (kp : VK E p) (g : GC B d p V sd G) (hn : V.1 3 = (n : Int)) (a0 : 0 ≤ a ∧ a ≤ 2) (hs : s ≤ 9) (hu : u ≤ 9) (hl : l < n) (s9 : sd ≤ 9) (g9 : G ≤ 9) (n5 : n ≤ 5) : ∃ b : Int, fX1_canAct (E.1 + (d + 4)) (iI a) (iI (s : Int)) (iI (u : Int)) (iI (l : Int)) (St E B) = some (iI b, St E B) ∧ ((b = 0 ∧ ¬ okG n sd G a s u l) ∨ (b = 1 ∧ okG n sd G a s u l)) := by
  have k1 := K.2.1.1
  unfold fX1_canAct fX1_canAct_b31 fX1_canAct_b51 fX1_canAct_b55 okG
  rw [c1 k1, some_bind]
  rcases (show a = 0 ∨ a = 1 ∨ a = 2 by omega) with rfl | rfl | rfl
  · rw [if_neg (by decide), if_neg (by decide)]
    exact ⟨1, rfl, by omega⟩
  · rw [if_pos rfl, g1_4 k1, some_bind, g.2.1.1, g1_3 k1 g.1.2.2, some_bind, g6_3 kp.1, some_bind, GC_v g, hn, iI_sub]
    by_cases q1 : sd ≤ s
    · rw [if_pos (by rw [iI_le (by omega) (by omega) (by omega) (by omega)]; omega)]
      exact ⟨0, rfl, by omega⟩
    · rw [if_neg (by rw [iI_le (by omega) (by omega) (by omega) (by omega)]; omega)]
      by_cases q2 : n ≤ l + 1
      · rw [if_pos (by rw [iI_le (by omega) (by omega) (by omega) (by omega)]; omega)]
        exact ⟨0, rfl, by omega⟩
      · rw [if_neg (by rw [iI_le (by omega) (by omega) (by omega) (by omega)]; omega)]
        exact ⟨1, rfl, by omega⟩
  · rw [if_neg (by decide), if_pos rfl, g1_5 k1, some_bind, g.2.1.2]
    by_cases q1 : G ≤ u
    · rw [if_pos (by rw [iI_le (by omega) (by omega) (by omega) (by omega)]; omega)]
      exact ⟨0, rfl, by omega⟩
    · rw [if_neg (by rw [iI_le (by omega) (by omega) (by omega) (by omega)]; omega)]
      by_cases q2 : l = 0
      · rw [if_pos (by rw [iI_0, iI_le (by omega) (by omega) (by omega) (by omega)]; omega)]
        exact ⟨0, rfl, by omega⟩
      · rw [if_neg (by rw [iI_0, iI_le (by omega) (by omega) (by omega) (by omega)]; omega)]
        exact ⟨1, rfl, by omega⟩
/-- where an act leads the Guide's numbers -/
theorem okG_n (hV : VOK V) (hn : V.1 3 = (n : Int)) (hs : s ≤ sd) (hu : u ≤ G) (hl : l < n) (ok : okG n sd G a s u l) : ∃ l1 l2 s2 u2 : Nat, lvA a (l : Int) = (l1 : Int) ∧ l1 < n ∧ (l2 : Int) = clA V (h : Int) (lvA a (l : Int)) ∧ l2 < n ∧ (s2 : Int) = (s : Int) + (if a = 1 then 1 else 0) ∧ s2 ≤ sd ∧ (u2 : Int) = (u : Int) + (if a = 2 then 1 else 0) ∧ u2 ≤ G := by
  have lv := lv_c (a := a) (l := (l : Int))
  have cl := cl_c (V := V) (h := h) (l := lvA a (l : Int))
  have v3 := hV.2.2.1
  unfold okG at ok
  refine ⟨(lvA a (l : Int)).toNat, (clA V (h : Int) (lvA a (l : Int))).toNat, ((s : Int) + (if a = 1 then 1 else 0)).toNat, ((u : Int) + (if a = 2 then 1 else 0)).toNat, by omega, by omega, by omega, by omega, ?_, ?_, ?_, ?_⟩
  · split <;> omega
  · split <;> omega
  · split <;> omega
  · split <;> omega
theorem s1_goalOf {l1 l2 s2 u2 : Nat} (K : RKD E d) (kp : VK E p) (g : GC B d p V sd G) (hV : VOK V) (hn : V.1 3 = (n : Int)) (a0 : 0 ≤ a ∧ a ≤ 2) (hh : h < 24) (s9 : sd ≤ 9) (g9 : G ≤ 9) (e1 : l1 < n) (e2 : (l2 : Int) = clA V (h : Int) (l1 : Int)) (l2n : l2 < n) (e3 : (s2 : Int) = (s : Int) + (if a = 1 then 1 else 0)) (s2s : s2 ≤ sd) (e4 : (u2 : Int) = (u : Int) + (if a = 2 then 1 else 0)) (u2u : u2 ≤ G) : fX1_goalOf (E.1 + (d + 4)) (iI a) (iI (h : Int)) (iI (s : Int)) (iI (u : Int)) (iI (l1 : Int)) (St E B) = some (B.2.2.2.2 (d + 1) ((plG sd G n (h + 1) s2 u2 l2 : Nat) : Int), St E B) := by
  have k1 := K.2.1.1
  have v3 := hV.2.2.1
  have pb := plG_b (h := h + 1) (s := s2) (u := u2) (l := l2) (sd := sd) (G := G) (n := n) (by omega) s2s u2u l2n s9 g9 (by omega)
  have fin : fX1_goalOf_b26 (E.1 + (d + 4)) (iI (h : Int)) (iI (l1 : Int)) (iI (s2 : Int)) (iI (u : Int)) (iI (if a = 2 then 1 else 0)) (St E B) = some (B.2.2.2.2 (d + 1) ((plG sd G n (h + 1) s2 u2 l2 : Nat) : Int), St E B) := by
    unfold fX1_goalOf_b26 lt_
    dsimp only
    rw [g1_1 k1 g.1.1, some_bind, s1_cooled K kp g hh (by omega), some_bind]
    dsimp only
    rw [iI_add, iI_add, ← e4, ← e2, show (h : Int) + 1 = ((h + 1 : Nat) : Int) by omega, s1_placeOf K kp g hn, some_bind]
    dsimp only
    rw [aL_ok K.1.2.1 (by omega) (by omega) (by omega), some_bind]
  have mid : fX1_goalOf_b11 (E.1 + (d + 4)) (iI a) (iI (h : Int)) (iI (u : Int)) (iI (l1 : Int)) (iI (s : Int)) (iI (if a = 1 then 1 else 0)) (St E B) = some (B.2.2.2.2 (d + 1) ((plG sd G n (h + 1) s2 u2 l2 : Nat) : Int), St E B) := by
    unfold fX1_goalOf_b11 lt_
    dsimp only
    rw [iI_add, ← e3]
    by_cases q : a = 2
    · rw [if_pos (by rw [q])]
      rw [if_pos q] at fin
      exact fin
    · rw [if_neg (fun z => q ((iI_eq (by omega) (by omega) (by omega) (by omega)).mp z))]
      rw [if_neg q] at fin
      exact fin
  unfold fX1_goalOf
  rw [c1 k1, some_bind]
  by_cases q : a = 1
  · rw [if_pos (by rw [q])]
    rw [if_pos q] at mid
    exact mid
  · rw [if_neg (fun z => q ((iI_eq (by omega) (by omega) (by omega) (by omega)).mp z))]
    rw [if_neg q] at mid
    exact mid
end GDE
