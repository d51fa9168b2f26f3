/-! the Roamer's states as a function of sand spent, gas spent, layer, tag -/
def plN (G n T s u l t : Nat) : Nat := ((s * (G + 1) + u) * n + l) * T + t
theorem dm_inj {a b T s t : Nat} (hs : s < T) (ht : t < T) (e : a * T + s = b * T + t) : a = b ∧ s = t := by
  have h1 : (a * T + s) / T = a := by rw [Nat.mul_comm, Nat.mul_add_div (by omega), Nat.div_eq_of_lt hs, Nat.add_zero]
  have h2 : (b * T + t) / T = b := by rw [Nat.mul_comm, Nat.mul_add_div (by omega), Nat.div_eq_of_lt ht, Nat.add_zero]
  have h3 : a = b := by rw [← h1, e, h2]
  subst h3
  exact ⟨rfl, by omega⟩
theorem dm_lt {a N T t : Nat} (ha : a < N) (ht : t < T) : a * T + t < N * T := by
  have := Nat.mul_le_mul_right T (show a + 1 ≤ N from ha)
  rw [Nat.add_mul, Nat.one_mul] at this
  omega
theorem plN_inj {G n T s u l t s' u' l' t' : Nat} (hu : u ≤ G) (hl : l < n) (ht : t < T) (hu' : u' ≤ G) (hl' : l' < n) (ht' : t' < T) (e : plN G n T s u l t = plN G n T s' u' l' t') : s = s' ∧ u = u' ∧ l = l' ∧ t = t' := by
  obtain ⟨e1, e2⟩ := dm_inj ht ht' e
  obtain ⟨e3, e4⟩ := dm_inj hl hl' e1
  obtain ⟨e5, e6⟩ := dm_inj (T := G + 1) (by omega) (by omega) e3
  exact ⟨e5, e6, e4, e2⟩
theorem plN_lt {G n T s u l t : Nat} (hG : G ≤ 9) (hn : n ≤ 5) (hT : T ≤ 32) (hs : s ≤ 9) (hu : u ≤ G) (hl : l < n) (ht : t < T) : plN G n T s u l t < 16000 := by
  have h1 : s * (G + 1) + u < 10 * (G + 1) := dm_lt (by omega) (by omega)
  have h2 : (s * (G + 1) + u) * n + l < 100 * n := dm_lt (by omega) hl
  have h3 : ((s * (G + 1) + u) * n + l) * T + t < 500 * T := dm_lt (by omega) ht
  unfold plN
  omega
theorem plN_0 {G n T s u l t : Nat} : plN G n T s u l t = plN G n T s u l 0 + t := by
  unfold plN
  omega
theorem plR_N {G n T s u l : Nat} : plR (G : Int) (n : Int) (T : Int) (s : Int) (u : Int) (l : Int) = ((plN G n T s u l 0 : Nat) : Int) := by
  unfold plR plN
  push_cast
  omega
/-- places of different states lie apart -/
theorem plN_ap {G n T s u l s' u' l' : Nat} (hu : u ≤ G) (hl : l < n) (hu' : u' ≤ G) (hl' : l' < n) (hT : 1 ≤ T) (ne : ¬ (s' = s ∧ u' = u ∧ l' = l)) : plN G n T s u l 0 + T ≤ plN G n T s' u' l' 0 ∨ plN G n T s' u' l' 0 + T ≤ plN G n T s u l 0 := by
  rcases Nat.lt_trichotomy ((s * (G + 1) + u) * n + l) ((s' * (G + 1) + u') * n + l') with q | q | q
  · left
    have := Nat.mul_le_mul_right T (show (s * (G + 1) + u) * n + l + 1 ≤ (s' * (G + 1) + u') * n + l' from q)
    rw [Nat.add_mul, Nat.one_mul] at this
    unfold plN
    omega
  · exfalso
    obtain ⟨e1, e2⟩ := dm_inj hl hl' q
    obtain ⟨e3, e4⟩ := dm_inj (T := G + 1) (by omega) (by omega) e1
    exact ne ⟨e3.symm, e4.symm, e2.symm⟩
  · right
    have := Nat.mul_le_mul_right T (show (s' * (G + 1) + u') * n + l' + 1 ≤ (s * (G + 1) + u) * n + l from q)
    rw [Nat.add_mul, Nat.one_mul] at this
    unfold plN
    omega
abbrev StF : Type := Nat → Nat → Nat → Nat → Int64
def stR (B : Bk) (d S G n T : Nat) (A : StF) : Prop := ∀ s u l t, s ≤ S → u ≤ G → l < n → t < T → B.2.2.2.2 (d + 1) ((plN G n T s u l t : Nat) : Int) = A s u l t
def upB (A : StF) (s u l : Nat) (f : Nat → Int64) : StF := fun s' u' l' t' => if s' = s ∧ u' = u ∧ l' = l then f t' else A s' u' l' t'
theorem stR_up {B C : Bk} {d S G n T s u l : Nat} {A : StF} {f : Nat → Int64} (hA : stR B d S G n T A) (hu : u ≤ G) (hl : l < n) (h1 : ∀ t, t < T → C.2.2.2.2 (d + 1) ((plN G n T s u l t : Nat) : Int) = f t) (h2 : ∀ z : Int, ¬ (((plN G n T s u l 0 : Nat) : Int) ≤ z ∧ z < ((plN G n T s u l 0 : Nat) : Int) + (T : Int)) → C.2.2.2.2 (d + 1) z = B.2.2.2.2 (d + 1) z) : stR C d S G n T (upB A s u l f) := by
  intro s' u' l' t' hs' hu' hl' ht'
  unfold upB
  by_cases q : s' = s ∧ u' = u ∧ l' = l
  · rw [if_pos q]
    obtain ⟨rfl, rfl, rfl⟩ := q
    exact h1 t' ht'
  · rw [if_neg q, h2, hA s' u' l' t' hs' hu' hl' ht']
    rintro ⟨w1, w2⟩
    obtain ⟨t0, e⟩ : ∃ t0, plN G n T s' u' l' t' = plN G n T s u l 0 + t0 := ⟨plN G n T s' u' l' t' - plN G n T s u l 0, by omega⟩
    rw [← plN_0] at e
    have := plN_inj hu' hl' ht' hu hl (by have := plN_0 (G := G) (n := n) (T := T) (s := s) (u := u) (l := l) (t := t0); omega) e
    exact q ⟨this.1, this.2.1, this.2.2.1⟩
/-- kinds of the cells that a Roamer at d, its valley p, its reach r are -/
def RE (E : Ev) (d p r : Nat) : Prop := (KD E d 4 11 ∧ KD E (d + 1) 21 16000 ∧ KD E (d + 2) 0 2 ∧ KD E (d + 3) 21 5) ∧ VK E p ∧ (KD E r 2 5 ∧ KD E (r + 1) 21 1200 ∧ KD E (r + 2) 20 32 ∧ KD E (r + 3) 20 32) ∧ p + 6 ≤ d ∧ d + 6 < r
/-- numbers of the shop -/
def RN (V : Vy) (i : Int) (S G L n : Nat) : Prop := VOK V ∧ (0 ≤ i ∧ i < V.1 8) ∧ V.2.2.1 i 3 = (S : Int) ∧ V.2.2.1 i 4 = (G : Int) ∧ V.2.2.1 i 2 = (L : Int) ∧ V.1 3 = (n : Int) ∧ S ≤ 9 ∧ G ≤ 9
/-- the Roamer stands ready: its valley is V, its aim k, its tags T, its board fits -/
def RC (B : Bk) (d p r : Nat) (V : Vy) (ed : Int → Int64) (S G L T : Nat) (k : Int) : Prop := (B.2.2.1 d 4 = some p ∧ (k ≤ 1 → B.2.2.1 d 5 = some r)) ∧ (B.1 d 6 = (L : Int) ∧ B.1 d 7 = (S : Int) ∧ B.1 d 8 = (G : Int) ∧ B.1 d 9 = (T : Int) ∧ B.1 d 10 = k) ∧ VW B p ∧ vyN B p = V ∧ (B.2.2.2.2 (d + 3) = ed ∧ brI B (d + 2) (V.1 1) (V.1 2) 64) ∧ (0 ≤ k ∧ k ≤ 4) ∧ 1 ≤ T ∧ T ≤ 32
/-- only states of d and rows of the reach r have changed -/
def nF (d r : Nat) (B C : Bk) : Prop := C.1 = B.1 ∧ C.2.1 = B.2.1 ∧ C.2.2.1 = B.2.2.1 ∧ (∀ e, e ≠ r + 2 → e ≠ r + 3 → C.2.2.2.1 e = B.2.2.2.1 e) ∧ ∀ e, e ≠ d + 1 → e ≠ r + 1 → C.2.2.2.2 e = B.2.2.2.2 e
section NF
variable {E : Ev} {B C : Bk} {d p r S G L n T : Nat} {V : Vy} {ed : Int → Int64} {k i : Int}
theorem nF_rfl : nF d r B B := ⟨rfl, rfl, rfl, fun _ _ _ => rfl, fun _ _ _ => rfl⟩
theorem nF_tr {A : Bk} (h : nF d r A B) (g : nF d r B C) : nF d r A C := ⟨g.1.trans h.1, g.2.1.trans h.2.1, g.2.2.1.trans h.2.2.1, fun e q1 q2 => (g.2.2.2.1 e q1 q2).trans (h.2.2.2.1 e q1 q2), fun e q1 q2 => (g.2.2.2.2 e q1 q2).trans (h.2.2.2.2 e q1 q2)⟩
theorem nF_ro (h : roF d B C) : nF d r B C := ⟨h.1, h.2.1, h.2.2.1, fun e _ _ => by rw [h.2.2.2.1], fun e q _ => h.2.2.2.2 e q⟩
theorem VW_eq (h : ∀ j, C.1 p j = B.1 p j) (w : VW B p) : VW C p := by
  unfold VW at *
  simp only [h]
  exact w
theorem RC_nF (R : RE E d p r) (h : nF d r B C) (c : RC B d p r V ed S G L T k) : RC C d p r V ed S G L T k := by
  obtain ⟨-, -, -, r1, r2⟩ := R
  obtain ⟨c1, c2, c3, c4, c5, c6⟩ := c
  obtain ⟨h1, h2, h3, h4, h5⟩ := h
  refine ⟨by rw [h3]; exact c1, by rw [h1]; exact c2, VW_eq (fun j => by rw [h1]) c3, ?_, ⟨?_, ?_⟩, c6⟩
  · rw [← c4]
    exact vyN_eq (fun j => by rw [h1]) (fun k z a b => by rw [h4 k (by omega) (by omega)])
  · rw [h5 (d + 3) (by omega) (by omega)]
    exact c5.1
  · unfold brI
    rw [h2, h5 (d + 2 + 1) (by omega) (by omega)]
    exact c5.2
theorem RC_v (c : RC B d p r V ed S G L T k) (j : Nat) : B.1 p j = V.1 j := by rw [← c.2.2.2.1]; rfl
theorem RC_w (c : RC B d p r V ed S G L T k) (l h : Int) : B.2.2.2.1 (p + 1) (l * 24 + h) = V.2.1 l h := by rw [← c.2.2.2.1]; rfl
theorem s4_pO {s u l : Nat} (R : RE E d p r) (c : RC B d p r V ed S G L T k) (hn : V.1 3 = (n : Int)) : fX4_placeOf (E.1 + d) (iI (s : Int)) (iI (u : Int)) (iI (l : Int)) (St E B) = some (iI ((plN G n T s u l 0 : Nat) : Int), St E B) := by
  rw [s4_placeOf R.1.1 R.2.1.1 c.1.1, RC_v c, hn, c.2.1.2.2.1, c.2.1.2.2.2.1, plR_N]
end NF
