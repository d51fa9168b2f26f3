/-! the class's Roamer: an hour passed, one block of states -/
section PHS
variable {E : Ev} {B : Bk} {d p r S G L n T : Nat} {V : Vy} {ed : Int → Int64} {k : Int} {A A' cur : StF} {h : Nat} {nt : NtF} {Sd : (Nat → Nat → Nat → Prop) → Bk → Prop}
theorem cgV_b (hV : VOK V) (hh : (h : Int) < V.1 4) : 0 ≤ cgV V (h : Int) ∧ cgV V (h : Int) ≤ 24 := by
  have v4 := hV.2.2.2.1
  have v5 := hV.2.2.2.2.1
  unfold cgV
  split
  · exact ⟨Int.ediv_nonneg (by omega) (by omega), by have := Int.ediv_le_self (V.1 5) (show 0 ≤ (h : Int) by omega); omega⟩
  · omega
theorem upU_up {s u : Nat} {f g : Nat → Nat → Int64} : upU (upU A s u f) s u g = upU A s u g := by
  funext s' u' l' t'
  unfold upU
  by_cases q : s' = s ∧ u' = u
  · rw [if_pos q, if_pos q]
  · rw [if_neg q, if_neg q, if_neg q]
theorem upU_s {s u : Nat} {f : Nat → Nat → Int64} : upU A s u f s u = f := by
  funext l t
  unfold upU
  rw [if_pos ⟨rfl, rfl⟩]
theorem psB_eq {s u : Nat} {lo hi : Int} (e0 : ∀ l t, cur s u l t = A s u l t) (e1 : 0 < s → ∀ l t, cur (s - 1) u l t = A (s - 1) u l t) (e2 : 0 < u → ∀ l t, cur s (u - 1) l t = A s (u - 1) l t) : psB V k ed n h cur s u lo hi = psB V k ed n h A s u lo hi := by
  funext l t
  unfold psB
  rw [x2R_eq (e0 l t) (fun q => e1 q _ _) (fun q => e2 q _ _), e0]
def DnB (V : Vy) (L n h s u : Nat) (s' u' l' : Nat) : Prop := s' = s ∧ u' = u ∧ l' < n ∧ lnL V L s u h ≤ (l' : Int) ∧ (l' : Int) ≤ hiL L s u
theorem s4_h118 {s u : Nat} {lo hi : Int} {D : Nat → Nat → Nat → Prop} (R : RE E d p r) (c : RC B d p r V ed S G L T k) (hV : VOK V) (hn : V.1 3 = (n : Int)) (hs : s ≤ S) (hu : u ≤ G) (N : NT E d p r S G n T V ed L k h nt A' Sd) (lo0 : 0 ≤ lo ∧ lo ≤ 100) (hi0 : -100 ≤ hi ∧ hi ≤ 100) (hA : stR B d S G n T A) (eA : ∀ l t, l < n → t < T → lo ≤ (l : Int) → (l : Int) ≤ hi → nt l (A s u l) t = A' s u l t) (hD : Sd D B) : ∃ C, fX4_passHour_b118 (E.1 + d) (iI (h : Int)) (iI (s : Int)) (iI (u : Int)) (iI hi) (iI lo) (St E B) = some (.inl (iI ((u : Int) - 1), St E C)) ∧ nF d r B C ∧ stR C d S G n T (upU A s u (fun l t => if lo ≤ (l : Int) ∧ (l : Int) ≤ hi then nt l (A s u l) t else A s u l t)) ∧ Sd (fun s' u' l' => D s' u' l' ∨ (s' = s ∧ u' = u ∧ l' < n ∧ lo ≤ (l' : Int) ∧ (l' : Int) ≤ hi)) C := by
  obtain ⟨C, e1, e2, e3, e4⟩ := s4_h122 (hi := hi) R c hV hn hs hu N lo0 hi0 hA eA hD
  refine ⟨C, ?_, e2, e3, e4⟩
  unfold fX4_passHour_b118 fX4_passHour_b156
  rw [e1, some_bind, iI_add]
  rfl
theorem s4_h22 {s u : Nat} {D : Nat → Nat → Nat → Prop} (R : RE E d p r) (c : RC B d p r V ed S G L T k) (hV : VOK V) (hn : V.1 3 = (n : Int)) (hL : L < n) (hS : S ≤ 9) (hG : G ≤ 9) (hs : s ≤ S) (hu : u ≤ G) (hh : (h : Int) < V.1 4) (N : NT E d p r S G n T V ed L k h nt A' Sd) (hSd : ∀ D B C, roF d B C → Sd D B → Sd D C) (hA : stR B d S G n T cur) (e0 : ∀ l t, cur s u l t = A s u l t) (e1 : 0 < s → ∀ l t, cur (s - 1) u l t = A (s - 1) u l t) (e2 : 0 < u → ∀ l t, cur s (u - 1) l t = A s (u - 1) l t) (eA : ∀ l t, l < n → t < T → lnL V L s u h ≤ (l : Int) → (l : Int) ≤ hiL L s u → hrB V k ed n L h nt A s u l t = A' s u l t) (hD : Sd D B) : ∃ C, fX4_passHour_l22 (E.1 + d) (iI (h : Int)) (iI (s : Int)) (iI (u : Int), St E B) = some (.inl (iI ((u : Int) - 1), St E C)) ∧ nF d r B C ∧ stR C d S G n T (upU cur s u (hrB V k ed n L h nt A s u)) ∧ Sd (fun s' u' l' => D s' u' l' ∨ DnB V L n h s u s' u' l') C := by
  have v3 := hV.2.2.1
  have v4 := hV.2.2.2.1
  have cb := cgV_b hV hh
  have hb : -9 ≤ hiL L s u ∧ hiL L s u ≤ 14 := by unfold hiL; omega
  have lb : 0 ≤ loL V L s u h ∧ loL V L s u h ≤ 14 := by unfold loL; omega
  have lb2 : 0 ≤ lnL V L s u h ∧ lnL V L s u h ≤ 14 := by unfold lnL; split <;> omega
  obtain ⟨C1, a1, a2, a3⟩ := s4_h57 (s := s) (u := u) (lo := loL V L s u h) (hi := hiL L s u) (x5 := iI (loL V L s u h)) R c hV hn hS hG hs hu hh (by omega) (by omega) hA
  rw [psB_eq e0 e1 e2] at a3
  have c1 : RC C1 d p r V ed S G L T k := RC_nF R (nF_ro a2) c
  have hd1 := hSd D B C1 a2 hD
  have cl : fX6_coolsIn (E.1 + p) (iI (h : Int)) (St E C1) = some (iI (coolV V (h : Int)), St E C1) := by
    rw [s_coolsIn R.2.1 c1.2.2.1 (by omega) (by omega), RC_v c1]
    rfl
  have hd : fX4_passHour_l22 (E.1 + d) (iI (h : Int)) (iI (s : Int)) (iI (u : Int), St E B) = fX4_passHour_b91 (E.1 + d) (iI (h : Int)) (iI (s : Int)) (iI (u : Int)) (iI (hiL L s u)) (iI (loL V L s u h)) (St E C1) := by
    unfold fX4_passHour_l22
    dsimp only
    rw [iI_0, if_neg (by rw [iI_lt (by omega) (by omega) (by omega) (by omega)]; omega), g4_6 R.1.1, some_bind, c.2.1.1, iI_add, iI_sub]
    unfold lt_
    dsimp only
    rw [g4_4 R.1.1 c.1.1, some_bind, s_coolings R.2.1 c.2.2.1 (by omega) (by omega), some_bind, RC_v c]
    dsimp only
    rw [show (if 0 < V.1 5 then (h : Int) / V.1 5 else 0) = cgV V (h : Int) from rfl, show (L : Int) + (s : Int) - (u : Int) = hiL L s u from rfl, iI_sub, imax_ok (by omega) (by omega) (by omega) (by omega), show max 0 (hiL L s u - cgV V (h : Int)) = loL V L s u h from rfl, a1, some_bind]
  have fin : ∃ C, fX4_passHour_b91 (E.1 + d) (iI (h : Int)) (iI (s : Int)) (iI (u : Int)) (iI (hiL L s u)) (iI (loL V L s u h)) (St E C1) = some (.inl (iI ((u : Int) - 1), St E C)) ∧ nF d r C1 C ∧ stR C d S G n T (upU cur s u (hrB V k ed n L h nt A s u)) ∧ Sd (fun s' u' l' => D s' u' l' ∨ DnB V L n h s u s' u' l') C := by
    unfold fX4_passHour_b91
    rw [g4_4 R.1.1 c1.1.1, some_bind, cl, some_bind]
    dsimp only
    rcases (show coolV V (h : Int) = 0 ∨ coolV V (h : Int) = 1 from bI_01) with q | q
    · have qn : ¬ coolV V (h : Int) = 1 := by omega
      have ek : hrK V k ed n L h A s u = psB V k ed n h A s u (loL V L s u h) (hiL L s u) := by unfold hrK; rw [if_neg qn]
      have el : lnL V L s u h = loL V L s u h := by unfold lnL; rw [if_neg qn]
      rw [q, if_pos (by decide)]
      obtain ⟨C, b1, b2, b3, b4⟩ := s4_h118 (A := upU cur s u (psB V k ed n h A s u (loL V L s u h) (hiL L s u))) (lo := loL V L s u h) (hi := hiL L s u) R c1 hV hn hs hu N (by omega) (by omega) a3 (fun l t l1 t1 l2 l3 => by
        rw [← eA l t l1 t1 (by omega) l3]
        unfold hrB
        rw [if_pos ⟨by omega, l3⟩, ek, upU_s]) hd1
      refine ⟨C, b1, b2, ?_, ?_⟩
      · rw [upU_up] at b3
        rw [show hrB V k ed n L h nt A s u = (fun (l t : Nat) => if loL V L s u h ≤ (l : Int) ∧ (l : Int) ≤ hiL L s u then nt l (upU cur s u (psB V k ed n h A s u (loL V L s u h) (hiL L s u)) s u l) t else upU cur s u (psB V k ed n h A s u (loL V L s u h) (hiL L s u)) s u l t) by
          funext l t
          unfold hrB
          rw [el, ek, upU_s]]
        exact b3
      · unfold DnB
        rw [el]
        exact b4
    · have ek : hrK V k ed n L h A s u = skB k n (psB V k ed n h A s u (loL V L s u h) (hiL L s u)) := by unfold hrK; rw [if_pos q]
      have el : lnL V L s u h = max 0 (loL V L s u h - 1) := by unfold lnL; rw [if_pos q]
      obtain ⟨C2, d1, d2, d3⟩ := s4_sinkAll (s := s) (u := u) R c1 hn (by omega) hS hG hs hu a3
      rw [upU_up, upU_s, ← ek] at d3
      have c2 : RC C2 d p r V ed S G L T k := RC_nF R (nF_ro d2) c1
      have hd2 := hSd D C1 C2 d2 hd1
      rw [q, if_neg (by decide), d1, some_bind, iI_sub, imax_ok (by omega) (by omega) (by omega) (by omega), ← el]
      unfold lt_
      dsimp only
      obtain ⟨C, b1, b2, b3, b4⟩ := s4_h118 (A := upU cur s u (hrK V k ed n L h A s u)) (lo := lnL V L s u h) (hi := hiL L s u) R c2 hV hn hs hu N (by omega) (by omega) d3 (fun l t l1 t1 l2 l3 => by
        rw [← eA l t l1 t1 l2 l3]
        unfold hrB
        rw [if_pos ⟨l2, l3⟩, upU_s]) hd2
      refine ⟨C, b1, nF_tr (nF_ro d2) b2, ?_, b4⟩
      rw [upU_up, upU_s] at b3
      exact b3
  obtain ⟨C, f1, f2, f3, f4⟩ := fin
  exact ⟨C, hd.trans f1, nF_tr (nF_ro a2) f2, f3, f4⟩
/-- the blocks done by now, in a state that is being changed -/
def hrD (V : Vy) (k : Int) (ed : Int → Int64) (n L h : Nat) (nt : NtF) (A : StF) (Q : Nat → Nat → Prop) [∀ a b, Decidable (Q a b)] : StF := fun s u l t => if Q s u ∧ s + u ≤ h + 1 then hrB V k ed n L h nt A s u l t else A s u l t
def DnA (V : Vy) (S G L n h : Nat) (Q : Nat → Nat → Prop) (s' u' l' : Nat) : Prop := Q s' u' ∧ s' ≤ S ∧ u' ≤ G ∧ s' + u' ≤ h + 1 ∧ l' < n ∧ lnL V L s' u' h ≤ (l' : Int) ∧ (l' : Int) ≤ hiL L s' u'
theorem s4_h22L {s : Nat} {um : Int} (R : RE E d p r) (c : RC B d p r V ed S G L T k) (hV : VOK V) (hn : V.1 3 = (n : Int)) (hL : L < n) (hS : S ≤ 9) (hG : G ≤ 9) (hs : s ≤ S) (hh : (h : Int) < V.1 4) (N : NT E d p r S G n T V ed L k h nt A' Sd) (hSd : ∀ D B C, roF d B C → Sd D B → Sd D C) (hum : um = min (G : Int) ((h : Int) + 1 - (s : Int))) (hA : stR B d S G n T (hrD V k ed n L h nt A (fun s' _ => s < s'))) (eA : ∀ s u l t, s ≤ S → u ≤ G → s + u ≤ h + 1 → l < n → t < T → lnL V L s u h ≤ (l : Int) → (l : Int) ≤ hiL L s u → hrB V k ed n L h nt A s u l t = A' s u l t) (hD : Sd (DnA V S G L n h (fun s' _ => s < s')) B) : ∃ C, iter (fX4_passHour_l22 (E.1 + d) (iI (h : Int)) (iI (s : Int))) FU (iI um, St E B) = some (St E C) ∧ nF d r B C ∧ stR C d S G n T (hrD V k ed n L h nt A (fun s' _ => s ≤ s')) ∧ Sd (DnA V S G L n h (fun s' _ => s ≤ s')) C := by
  have v4 := hV.2.2.2.1
  obtain ⟨r1, e1, C, rfl, f1, v1, w1⟩ := iter_acc (F := fX4_passHour_l22 (E.1 + d) (iI (h : Int)) (iI (s : Int))) (fun j a => ∃ C, a = (iI (um - (j : Int)), St E C) ∧ nF d r B C ∧ stR C d S G n T (hrD V k ed n L h nt A (fun s' u' => s < s' ∨ (s' = s ∧ um - (j : Int) < (u' : Int)))) ∧ Sd (DnA V S G L n h (fun s' u' => s < s' ∨ (s' = s ∧ um - (j : Int) < (u' : Int)))) C) (um + 1).toNat (fun q => ∃ C, q = St E C ∧ nF d r B C ∧ stR C d S G n T (hrD V k ed n L h nt A (fun s' _ => s ≤ s')) ∧ Sd (DnA V S G L n h (fun s' _ => s ≤ s')) C)
    (fun j a hj ha => by
      obtain ⟨C, rfl, f1, v1, w1⟩ := ha
      have cc : RC C d p r V ed S G L T k := RC_nF R f1 c
      obtain ⟨u, hu⟩ : ∃ u : Nat, um - (j : Int) = (u : Int) := ⟨(um - (j : Int)).toNat, by omega⟩
      rw [hu] at v1 w1 ⊢
      obtain ⟨C', g1, g2, g3, g4⟩ := s4_h22 (s := s) (u := u) (A := A) R cc hV hn hL hS hG hs (by omega) hh N hSd v1 (fun l t => by unfold hrD; rw [if_neg (by omega)]) (fun q l t => by unfold hrD; rw [if_neg (by omega)]) (fun q l t => by unfold hrD; rw [if_neg (by omega)]) (fun l t a b c' e => eA s u l t hs (by omega) (by omega) a b c' e) w1
      refine ⟨(iI (um - ((j + 1 : Nat) : Int)), St E C'), ?_, C', rfl, nF_tr f1 g2, stR_eq g3 (fun s' u' l' t' h1 h2 h3 h4 => ?_), ?_⟩
      · rw [g1, show (u : Int) - 1 = um - ((j + 1 : Nat) : Int) by omega]
      · unfold upU hrD
        by_cases q : s' = s ∧ u' = u
        · rw [if_pos q, if_pos (by omega), q.1, q.2]
        · rw [if_neg q]
          by_cases q2 : (s < s' ∨ (s' = s ∧ (u : Int) < (u' : Int))) ∧ s' + u' ≤ h + 1
          · rw [if_pos q2, if_pos (by omega)]
          · rw [if_neg q2, if_neg (by omega)]
      · have ed2 : (fun s' u' l' => DnA V S G L n h (fun s' u' => s < s' ∨ (s' = s ∧ (u : Int) < (u' : Int))) s' u' l' ∨ DnB V L n h s u s' u' l') = DnA V S G L n h (fun s' u' => s < s' ∨ (s' = s ∧ um - ((j + 1 : Nat) : Int) < (u' : Int))) := by
          funext s' u' l'
          apply propext
          unfold DnA DnB
          constructor
          · rintro (⟨w1, w2, w3, w4, w5, w6, w7⟩ | ⟨rfl, rfl, w5, w6, w7⟩)
            · exact ⟨by omega, w2, w3, w4, w5, w6, w7⟩
            · exact ⟨by omega, hs, by omega, by omega, w5, w6, w7⟩
          · rintro ⟨w1, w2, w3, w4, w5, w6, w7⟩
            by_cases q : s' = s ∧ u' = u
            · obtain ⟨rfl, rfl⟩ := q
              exact Or.inr ⟨rfl, rfl, w5, w6, w7⟩
            · exact Or.inl ⟨by omega, w2, w3, w4, w5, w6, w7⟩
        rw [ed2] at g4
        exact g4)
    (fun a ha => by
      obtain ⟨C, rfl, f1, v1, w1⟩ := ha
      refine ⟨St E C, ?_, C, rfl, f1, stR_eq v1 (fun s' u' l' t' h1 h2 h3 h4 => ?_), ?_⟩
      · unfold fX4_passHour_l22
        dsimp only
        rw [iI_0, if_pos (by rw [iI_lt (by omega) (by omega) (by omega) (by omega)]; omega)]
      · unfold hrD
        by_cases q2 : s ≤ s' ∧ s' + u' ≤ h + 1
        · rw [if_pos q2, if_pos (by omega)]
        · rw [if_neg q2, if_neg (by omega)]
      · have ed2 : DnA V S G L n h (fun s' u' => s < s' ∨ (s' = s ∧ um - ((um + 1).toNat : Int) < (u' : Int))) = DnA V S G L n h (fun s' _ => s ≤ s') := by
          funext s' u' l'
          apply propext
          unfold DnA
          constructor
          · rintro ⟨w1, w2, w3, w4, w5, w6, w7⟩
            exact ⟨by omega, w2, w3, w4, w5, w6, w7⟩
          · rintro ⟨w1, w2, w3, w4, w5, w6, w7⟩
            exact ⟨by omega, w2, w3, w4, w5, w6, w7⟩
        rw [ed2] at w1
        exact w1) (N := FU) (by show (um + 1).toNat < 1000000; omega) (a := (iI um, St E B)) ⟨B, by rw [show um - ((0 : Nat) : Int) = um by omega], nF_rfl, stR_eq hA (fun s' u' l' t' h1 h2 h3 h4 => by
      unfold hrD
      by_cases q2 : s < s' ∧ s' + u' ≤ h + 1
      · rw [if_pos q2, if_pos (by omega)]
      · rw [if_neg q2, if_neg (by omega)]), by
      have ed2 : DnA V S G L n h (fun s' u' => s < s' ∨ (s' = s ∧ um - ((0 : Nat) : Int) < (u' : Int))) = DnA V S G L n h (fun s' _ => s < s') := by
        funext s' u' l'
        apply propext
        unfold DnA
        constructor
        · rintro ⟨w1, w2, w3, w4, w5, w6, w7⟩
          exact ⟨by omega, w2, w3, w4, w5, w6, w7⟩
        · rintro ⟨w1, w2, w3, w4, w5, w6, w7⟩
          exact ⟨by omega, w2, w3, w4, w5, w6, w7⟩
      rw [ed2]
      exact hD⟩
  exact ⟨C, e1, f1, v1, w1⟩
theorem s4_passHour (R : RE E d p r) (c : RC B d p r V ed S G L T k) (hV : VOK V) (hn : V.1 3 = (n : Int)) (hL : L < n) (hS : S ≤ 9) (hG : G ≤ 9) (hh : (h : Int) < V.1 4) (N : NT E d p r S G n T V ed L k h nt (hrA V k ed n L h nt A) Sd) (hSd : ∀ D B C, roF d B C → Sd D B → Sd D C) (hA : stR B d S G n T A) (hD : Sd (fun _ _ _ => False) B) : ∃ C, fX4_passHour (E.1 + d) (iI (h : Int)) (St E B) = some (St E C) ∧ nF d r B C ∧ stR C d S G n T (hrA V k ed n L h nt A) ∧ Sd (DnA V S G L n h (fun _ _ => True)) C := by
  have v4 := hV.2.2.2.1
  obtain ⟨r1, e1, C, rfl, f1, v1, w1⟩ := iter_acc (F := fX4_passHour_l5 (E.1 + d) (iI (h : Int))) (fun j a => ∃ C, a = (iI ((S : Int) - (j : Int)), St E C) ∧ nF d r B C ∧ stR C d S G n T (hrD V k ed n L h nt A (fun s' _ => S < s' + j)) ∧ Sd (DnA V S G L n h (fun s' _ => S < s' + j)) C) (S + 1) (fun q => ∃ C, q = St E C ∧ nF d r B C ∧ stR C d S G n T (hrA V k ed n L h nt A) ∧ Sd (DnA V S G L n h (fun _ _ => True)) C)
    (fun j a hj ha => by
      obtain ⟨C, rfl, f1, v1, w1⟩ := ha
      have cc : RC C d p r V ed S G L T k := RC_nF R f1 c
      obtain ⟨s, hs⟩ : ∃ s : Nat, s + j = S := ⟨S - j, by omega⟩
      have eq1 : (fun (s' : Nat) (_ : Nat) => S < s' + j) = (fun s' _ => s < s') := by
        funext s' u'
        apply propext
        omega
      have v2 : stR C d S G n T (hrD V k ed n L h nt A (fun s' _ => s < s')) := stR_eq v1 (fun s' u' l' t' h1 h2 h3 h4 => by
        unfold hrD
        by_cases q : s < s' ∧ s' + u' ≤ h + 1
        · rw [if_pos q, if_pos (by omega)]
        · rw [if_neg q, if_neg (by omega)])
      rw [eq1] at w1
      obtain ⟨C', g1, g2, g3, g4⟩ := s4_h22L (s := s) (um := min (G : Int) ((h : Int) + 1 - (s : Int))) R cc hV hn hL hS hG (by omega) hh N hSd rfl v2 (fun s u l t a1 a2 a3 a4 a5 a6 a7 => by unfold hrA; rw [if_pos a3]) w1
      have eq2 : (fun (s' : Nat) (_ : Nat) => S < s' + (j + 1)) = (fun s' _ => s ≤ s') := by
        funext s' u'
        apply propext
        omega
      refine ⟨(iI ((S : Int) - ((j + 1 : Nat) : Int)), St E C'), ?_, C', rfl, nF_tr f1 g2, stR_eq g3 (fun s' u' l' t' h1 h2 h3 h4 => ?_), by rw [eq2]; exact g4⟩
      · rw [show (S : Int) - (j : Int) = (s : Int) by omega]
        unfold fX4_passHour_l5
        dsimp only
        rw [iI_0, if_neg (by rw [iI_lt (by omega) (by omega) (by omega) (by omega)]; omega), g4_8 R.1.1, some_bind, cc.2.1.2.2.1]
        unfold lt_
        dsimp only
        rw [iI_add (h : Int) 1, iI_sub, imin_ok (by omega) (by omega) (by omega) (by omega), g1, some_bind, iI_add, show (s : Int) + -1 = (S : Int) - ((j + 1 : Nat) : Int) by omega]
      · unfold hrD
        by_cases q : s ≤ s' ∧ s' + u' ≤ h + 1
        · rw [if_pos q, if_pos (by omega)]
        · rw [if_neg q, if_neg (by omega)])
    (fun a ha => by
      obtain ⟨C, rfl, f1, v1, w1⟩ := ha
      refine ⟨St E C, ?_, C, rfl, f1, stR_eq v1 (fun s' u' l' t' h1 h2 h3 h4 => ?_), ?_⟩
      · unfold fX4_passHour_l5
        dsimp only
        rw [iI_0, if_pos (by rw [iI_lt (by omega) (by omega) (by omega) (by omega)]; omega)]
      · unfold hrD hrA
        by_cases q : s' + u' ≤ h + 1
        · rw [if_pos (by omega), if_pos q]
        · rw [if_neg (by omega), if_neg q]
      · rw [show (fun (s' : Nat) (_ : Nat) => S < s' + (S + 1)) = (fun _ _ => True) by
          funext s' u'
          apply propext
          constructor
          · exact fun _ => trivial
          · intro _
            omega] at w1
        exact w1) (N := FU) (by show S + 1 < 1000000; omega) (a := (iI (S : Int), St E B)) ⟨B, by rw [show (S : Int) - ((0 : Nat) : Int) = (S : Int) by omega], nF_rfl, stR_eq hA (fun s' u' l' t' h1 h2 h3 h4 => by
      unfold hrD
      rw [if_neg (by omega)]), by
      have ed2 : DnA V S G L n h (fun s' _ => S < s' + 0) = (fun _ _ _ => False) := by
        funext s' u' l'
        apply propext
        unfold DnA
        constructor
        · rintro ⟨w1, w2, -⟩
          omega
        · exact False.elim
      rw [ed2]
      exact hD⟩
  refine ⟨C, ?_, f1, v1, w1⟩
  unfold fX4_passHour
  rw [c4 R.1.1, some_bind, g4_7 R.1.1, some_bind, c.2.1.2.1, e1, some_bind]
end PHS
