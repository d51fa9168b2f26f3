/-! the class's Roamer: all sink -/
def skB (k : Int) (n : Nat) (f : Nat → Nat → Int64) : Nat → Nat → Int64 := fun l t => if l = 0 then jnR k (f 0 t) (f 1 t) else if l + 1 < n then f (l + 1) t else 0
def upU (A : StF) (s u : Nat) (f : Nat → Nat → Int64) : StF := fun s' u' l' t' => if s' = s ∧ u' = u then f l' t' else A s' u' l' t'
def skI (k : Int) (n j : Nat) (f : Nat → Nat → Int64) : Nat → Nat → Int64 := fun l t => if l = 0 then jnR k (f 0 t) (f 1 t) else if l < 1 + j then (if l + 1 < n then f (l + 1) t else 0) else f l t
theorem stR_eq {B : Bk} {d S G n T : Nat} {A A' : StF} (h : stR B d S G n T A) (e : ∀ s u l t, s ≤ S → u ≤ G → l < n → t < T → A s u l t = A' s u l t) : stR B d S G n T A' := fun s u l t a b c q => (h s u l t a b c q).trans (e s u l t a b c q)
theorem plN_up {G n T s u l : Nat} : plN G n T s u (l + 1) 0 = plN G n T s u l 0 + T := by
  unfold plN
  have : ((s * (G + 1) + u) * n + (l + 1)) * T = ((s * (G + 1) + u) * n + l) * T + T := by rw [← Nat.add_assoc, Nat.add_mul _ 1, Nat.one_mul]
  omega
section SKC
variable {E : Ev} {B : Bk} {d p r S G L n T : Nat} {V : Vy} {ed : Int → Int64} {k : Int} {A : StF}
theorem s4_sinkAll {s u : Nat} (R : RE E d p r) (c : RC B d p r V ed S G L T k) (hn : V.1 3 = (n : Int)) (n0 : 2 ≤ n ∧ n ≤ 5) (hS : S ≤ 9) (hG : G ≤ 9) (hs : s ≤ S) (hu : u ≤ G) (hA : stR B d S G n T A) : ∃ C, fX4_sinkAll (E.1 + d) (iI (s : Int)) (iI (u : Int)) (St E B) = some (St E C) ∧ roF d B C ∧ stR C d S G n T (upU A s u (skB k n (A s u))) := by
  have c' := c
  obtain ⟨⟨cv, -⟩, ⟨-, -, -, c9', c10'⟩, -, -, -, k0, T0, T1⟩ := c'
  have kd := R.1.1
  have ke := R.1.2.1
  have b1 : plN G n T s u 1 (T - 1) < 16000 := plN_lt hG n0.2 T1 (by omega) hu (by omega) (by omega)
  have a1 : plN G n T s u 1 0 = plN G n T s u 0 0 + T := plN_up
  have pz := plN_0 (G := G) (n := n) (T := T) (s := s) (u := u) (l := 1) (t := T - 1)
  obtain ⟨C1, e1, f1, v1⟩ := s4_sk1 (E := E) (B := B) (d := d) (n := T) (g := ((plN G n T s u 0 0 : Nat) : Int)) (x1 := iI (s : Int)) (x2 := iI (u : Int)) kd ke c9' ⟨T0, T1⟩ (by rw [c10']; exact k0) (by omega)
  rw [c10'] at v1
  have st1 : stR C1 d S G n T (upB A s u 0 (fun t => jnR k (A s u 0 t) (A s u 1 t))) := by
    refine stR_up hA hu (by omega) (fun t ht => ?_) (fun z hz => ?_)
    · have p0 := plN_0 (G := G) (n := n) (T := T) (s := s) (u := u) (l := 0) (t := t)
      have p1 := plN_0 (G := G) (n := n) (T := T) (s := s) (u := u) (l := 1) (t := t)
      rw [v1, if_pos (by omega), hA s u 0 t hs hu (by omega) ht, show ((plN G n T s u 0 t : Nat) : Int) + (T : Int) = ((plN G n T s u 1 t : Nat) : Int) by omega, hA s u 1 t hs hu (by omega) ht]
    · rw [v1, if_neg hz]
  obtain ⟨r2, e2, C, rfl, f2, v2⟩ := iter_acc (F := fX4_sinkAll_l65 (E.1 + d) (iI (s : Int)) (iI (u : Int))) (fun j a => ∃ C, a = (iI ((1 + j : Nat) : Int), St E C) ∧ roF d B C ∧ stR C d S G n T (upU A s u (skI k n j (A s u)))) (n - 1) (fun q => ∃ C, q = St E C ∧ roF d B C ∧ stR C d S G n T (upU A s u (skB k n (A s u))))
    (fun j a hj ha => by
      obtain ⟨C, rfl, f2, v2⟩ := ha
      have cc : RC C d p r V ed S G L T k := RC_nF R (nF_ro f2) c
      obtain ⟨l, hl⟩ : ∃ l, l = 1 + j := ⟨_, rfl⟩
      rw [← hl]
      have bl : plN G n T s u l (T - 1) < 16000 := plN_lt hG n0.2 T1 (by omega) hu (by omega) (by omega)
      have pl := plN_0 (G := G) (n := n) (T := T) (s := s) (u := u) (l := l) (t := T - 1)
      have al : plN G n T s u (l + 1) 0 = plN G n T s u l 0 + T := plN_up
      obtain ⟨C', e3, f3, v3⟩ := s4_sk2 (E := E) (B := C) (d := d) (p := p) (n := T) (g := ((plN G n T s u l 0 : Nat) : Int)) (l := (l : Int)) (ly := (n : Int)) (x1 := iI (s : Int)) (x2 := iI (u : Int)) kd ke R.2.1.1 cc.1.1 (by rw [RC_v cc]; exact hn) (by omega) cc.2.1.2.2.2.1 ⟨T0, T1⟩ (by omega) (by omega) (fun q => by
        have := plN_lt (G := G) (n := n) (T := T) (s := s) (u := u) (l := l + 1) (t := T - 1) hG n0.2 T1 (by omega) hu (by omega) (by omega)
        have := plN_0 (G := G) (n := n) (T := T) (s := s) (u := u) (l := l + 1) (t := T - 1)
        omega)
      refine ⟨(iI ((1 + (j + 1) : Nat) : Int), St E C'), ?_, C', rfl, roF_tr f2 f3, ?_⟩
      · unfold fX4_sinkAll_l65
        dsimp only
        rw [g4_4 kd cc.1.1, some_bind, g6_3 R.2.1.1, some_bind, RC_v cc, hn, if_neg (by rw [iI_le (by omega) (by omega) (by omega) (by omega)]; omega), s4_pO R cc hn, some_bind]
        dsimp only
        rw [e3, some_bind, iI_add, show (l : Int) + 1 = ((1 + (j + 1) : Nat) : Int) by omega]
      · have st3 : stR C' d S G n T (upB (upU A s u (skI k n j (A s u))) s u l (fun t => if l + 1 < n then A s u (l + 1) t else 0)) := by
          refine stR_up v2 hu (by omega) (fun t ht => ?_) (fun z hz => ?_)
          · have p0 := plN_0 (G := G) (n := n) (T := T) (s := s) (u := u) (l := l) (t := t)
            have p1 := plN_0 (G := G) (n := n) (T := T) (s := s) (u := u) (l := l + 1) (t := t)
            rw [v3, if_pos (by omega)]
            by_cases q : l + 1 < n
            · rw [if_pos (by omega), if_pos q, show ((plN G n T s u l t : Nat) : Int) + (T : Int) = ((plN G n T s u (l + 1) t : Nat) : Int) by omega, v2 s u (l + 1) t hs hu q ht]
              unfold upU skI
              rw [if_pos ⟨rfl, rfl⟩, if_neg (by omega), if_neg (by omega)]
            · rw [if_neg (by omega), if_neg q]
          · rw [v3, if_neg hz]
        refine stR_eq st3 (fun s' u' l' t' h1 h2 h3 h4 => ?_)
        unfold upB upU skI
        by_cases q : s' = s ∧ u' = u
        · by_cases q2 : l' = l
          · rw [if_pos ⟨q.1, q.2, q2⟩, if_pos q, if_neg (by omega), if_pos (by omega), q2]
          · rw [if_neg (fun w => q2 w.2.2), if_pos q, if_pos q]
            by_cases q3 : l' = 0
            · rw [if_pos q3, if_pos q3]
            · rw [if_neg q3, if_neg q3]
              by_cases q4 : l' < 1 + j
              · rw [if_pos q4, if_pos (show l' < 1 + (j + 1) by omega)]
              · rw [if_neg q4, if_neg (show ¬ l' < 1 + (j + 1) by omega)]
        · rw [if_neg (fun w => q ⟨w.1, w.2.1⟩), if_neg q, if_neg q])
    (fun a ha => by
      obtain ⟨C, rfl, f2, v2⟩ := ha
      have cc : RC C d p r V ed S G L T k := RC_nF R (nF_ro f2) c
      refine ⟨St E C, ?_, C, rfl, f2, stR_eq v2 (fun s' u' l' t' h1 h2 h3 h4 => ?_)⟩
      · unfold fX4_sinkAll_l65
        dsimp only
        rw [g4_4 kd cc.1.1, some_bind, g6_3 R.2.1.1, some_bind, RC_v cc, hn, if_pos (by rw [iI_le (by omega) (by omega) (by omega) (by omega)]; omega)]
      · unfold upU skI skB
        by_cases q : s' = s ∧ u' = u
        · rw [if_pos q, if_pos q]
          by_cases q3 : l' = 0
          · rw [if_pos q3, if_pos q3]
          · rw [if_neg q3, if_neg q3, if_pos (by omega)]
        · rw [if_neg q, if_neg q]) (N := FU) (by show n - 1 < 1000000; omega) (a := (iI 1, St E C1)) ⟨C1, rfl, f1, stR_eq st1 (fun s' u' l' t' h1 h2 h3 h4 => by
      unfold upB upU skI
      by_cases q : s' = s ∧ u' = u
      · by_cases q2 : l' = 0
        · rw [if_pos ⟨q.1, q.2, q2⟩, if_pos q, if_pos q2]
        · rw [if_neg (fun w => q2 w.2.2), if_pos q, if_neg q2, if_neg (by omega), q.1, q.2]
      · rw [if_neg (fun w => q ⟨w.1, w.2.1⟩), if_neg q])⟩
  refine ⟨C, ?_, f2, v2⟩
  have e0 := s4_pO (s := s) (u := u) (l := 0) (n := n) R c hn
  unfold fX4_sinkAll
  rw [c4 kd, some_bind, show iI 0 = iI ((0 : Nat) : Int) from rfl, e0, some_bind]
  dsimp only
  rw [show iI ((0 : Nat) : Int) = iI 0 from rfl, e1, some_bind, e2, some_bind]
end SKC
