/-! the class's Roamer: an hour passed, whatever is noted -/
def cgV (V : Vy) (h : Int) : Int := if 0 < V.1 5 then h / V.1 5 else 0
def hiL (L s u : Nat) : Int := (L : Int) + (s : Int) - (u : Int)
def loL (V : Vy) (L s u h : Nat) : Int := max 0 (hiL L s u - cgV V (h : Int))
def lnL (V : Vy) (L s u h : Nat) : Int := if coolV V (h : Int) = 1 then max 0 (loL V L s u h - 1) else loL V L s u h
def psB (V : Vy) (k : Int) (ed : Int → Int64) (n h : Nat) (A : StF) (s u : Nat) (lo hi : Int) : Nat → Nat → Int64 := fun l t => if lo ≤ (l : Int) ∧ (l : Int) ≤ hi then cyR k ed (V.2.1 (l : Int) (h : Int)) (x2R k n A s u l t) else A s u l t
def hrK (V : Vy) (k : Int) (ed : Int → Int64) (n L h : Nat) (A : StF) (s u : Nat) : Nat → Nat → Int64 := if coolV V (h : Int) = 1 then skB k n (psB V k ed n h A s u (loL V L s u h) (hiL L s u)) else psB V k ed n h A s u (loL V L s u h) (hiL L s u)
abbrev NtF : Type := Nat → (Nat → Int64) → Nat → Int64
def hrB (V : Vy) (k : Int) (ed : Int → Int64) (n L h : Nat) (nt : NtF) (A : StF) (s u : Nat) : Nat → Nat → Int64 := fun l t => if lnL V L s u h ≤ (l : Int) ∧ (l : Int) ≤ hiL L s u then nt l (hrK V k ed n L h A s u l) t else hrK V k ed n L h A s u l t
def hrA (V : Vy) (k : Int) (ed : Int → Int64) (n L h : Nat) (nt : NtF) (A : StF) : StF := fun s u l t => if s + u ≤ h + 1 then hrB V k ed n L h nt A s u l t else A s u l t
theorem x2R_eq {k : Int} {n s u l t : Nat} {A A' : StF} (h1 : A s u l t = A' s u l t) (h2 : 0 < s → A (s - 1) u (l - 1) t = A' (s - 1) u (l - 1) t) (h3 : 0 < u → A s (u - 1) (l + 1) t = A' s (u - 1) (l + 1) t) : x2R k n A s u l t = x2R k n A' s u l t := by
  have e1 : x1R k A s u l t = x1R k A' s u l t := by
    unfold x1R
    by_cases q : 0 < s ∧ 0 < l
    · rw [if_pos q, if_pos q, h1, h2 q.1]
    · rw [if_neg q, if_neg q, h1]
  unfold x2R
  by_cases q : 0 < u ∧ l + 1 < n
  · rw [if_pos q, if_pos q, e1, h3 q.1]
  · rw [if_neg q, if_neg q, e1]
theorem upU_e {A : StF} {s u l t : Nat} {f : Nat → Nat → Int64} : upU A s u f s u l t = f l t := by
  unfold upU
  rw [if_pos (show s = s ∧ u = u from ⟨rfl, rfl⟩)]
/-- what a note does: nt to the state, and what is kept of it (Sd) grows by that place -/
def NT (E : Ev) (d p r S G n T : Nat) (V : Vy) (ed : Int → Int64) (L : Nat) (k : Int) (h : Nat) (nt : NtF) (A' : StF) (Sd : (Nat → Nat → Nat → Prop) → Bk → Prop) : Prop := ∀ (B : Bk) (A : StF) (D : Nat → Nat → Nat → Prop) (s u l : Nat), s ≤ S → u ≤ G → l < n → RC B d p r V ed S G L T k → stR B d S G n T A → (∀ t, t < T → nt l (A s u l) t = A' s u l t) → Sd D B → ∃ C, fX4_note (E.1 + d) (iI (s : Int)) (iI (u : Int)) (iI (l : Int)) (iI (h : Int)) (St E B) = some (St E C) ∧ nF d r B C ∧ stR C d S G n T (upB A s u l (nt l (A s u l))) ∧ Sd (fun s' u' l' => D s' u' l' ∨ (s' = s ∧ u' = u ∧ l' = l)) C
section PHR
variable {E : Ev} {B : Bk} {d p r S G L n T : Nat} {V : Vy} {ed : Int → Int64} {k : Int} {A A' : StF} {h : Nat} {nt : NtF} {Sd : (Nat → Nat → Nat → Prop) → Bk → Prop}
theorem s4_h57 {s u : Nat} {lo hi : Int} {x5 : Int32} (R : RE E d p r) (c : RC B d p r V ed S G L T k) (hV : VOK V) (hn : V.1 3 = (n : Int)) (hS : S ≤ 9) (hG : G ≤ 9) (hs : s ≤ S) (hu : u ≤ G) (hh : (h : Int) < V.1 4) (lo0 : 0 ≤ lo ∧ lo ≤ 100) (hi0 : -100 ≤ hi ∧ hi ≤ 100) (hA : stR B d S G n T A) : ∃ C, iter (fX4_passHour_l57 (E.1 + d) (iI (h : Int)) (iI (s : Int)) (iI (u : Int)) (iI hi) x5) FU (iI lo, St E B) = some (St E C) ∧ roF d B C ∧ stR C d S G n T (upU A s u (psB V k ed n h A s u lo hi)) := by
  have v3 := hV.2.2.1
  obtain ⟨m, hm⟩ : ∃ m : Nat, m = (min hi ((n : Int) - 1) - lo + 1).toNat := ⟨_, rfl⟩
  obtain ⟨r1, e1, C, rfl, f1, v1⟩ := iter_acc (F := fX4_passHour_l57 (E.1 + d) (iI (h : Int)) (iI (s : Int)) (iI (u : Int)) (iI hi) x5) (fun j a => ∃ C, a = (iI (lo + (j : Int)), St E C) ∧ roF d B C ∧ stR C d S G n T (upU A s u (psB V k ed n h A s u lo (lo + (j : Int) - 1)))) m (fun q => ∃ C, q = St E C ∧ roF d B C ∧ stR C d S G n T (upU A s u (psB V k ed n h A s u lo hi)))
    (fun j a hj ha => by
      obtain ⟨C, rfl, f1, v1⟩ := ha
      have cc : RC C d p r V ed S G L T k := RC_nF R (nF_ro f1) c
      obtain ⟨l, hl⟩ : ∃ l : Nat, lo + (j : Int) = (l : Int) := ⟨(lo + (j : Int)).toNat, by omega⟩
      obtain ⟨C', e2, f2, v2⟩ := s4_passLayer (s := s) (u := u) (l := l) (h := h) R cc hV hn hS hG hs hu (by omega) hh v1
      refine ⟨(iI (lo + ((j + 1 : Nat) : Int)), St E C'), ?_, C', rfl, roF_tr f1 f2, stR_eq v2 (fun s' u' l' t' h1 h2 h3 h4 => ?_)⟩
      · unfold fX4_passHour_l57
        dsimp only
        rw [hl, if_neg (by rw [iI_lt (by omega) (by omega) (by omega) (by omega)]; omega), g4_4 R.1.1 cc.1.1, some_bind, g6_3 R.2.1.1, some_bind, RC_v cc, hn, if_neg (by rw [iI_le (by omega) (by omega) (by omega) (by omega)]; omega), e2, some_bind, iI_add, show (l : Int) + 1 = lo + ((j + 1 : Nat) : Int) by omega]
      · have ex : x2R k n (upU A s u (psB V k ed n h A s u lo (lo + (j : Int) - 1))) s u l t' = x2R k n A s u l t' := by
          refine x2R_eq ?_ (fun q => ?_) (fun q => ?_)
          · rw [upU_e]
            unfold psB
            rw [if_neg (by omega)]
          · unfold upU
            rw [if_neg (show ¬ (s - 1 = s ∧ u = u) by omega)]
          · unfold upU
            rw [if_neg (show ¬ (s = s ∧ u - 1 = u) by omega)]
        unfold upB
        by_cases q : s' = s ∧ u' = u
        · obtain ⟨rfl, rfl⟩ := q
          by_cases q2 : l' = l
          · subst q2
            rw [if_pos (show s' = s' ∧ u' = u' ∧ l' = l' from ⟨rfl, rfl, rfl⟩)]
            dsimp only
            rw [ex, upU_e]
            unfold psB
            rw [if_pos (by omega)]
          · rw [if_neg (fun w => q2 w.2.2), upU_e, upU_e]
            unfold psB
            by_cases q3 : lo ≤ (l' : Int) ∧ (l' : Int) ≤ lo + (j : Int) - 1
            · rw [if_pos q3, if_pos (by omega)]
            · rw [if_neg q3, if_neg (by omega)]
        · rw [if_neg (fun w => q ⟨w.1, w.2.1⟩)]
          unfold upU
          rw [if_neg q, if_neg q])
    (fun a ha => by
      obtain ⟨C, rfl, f1, v1⟩ := ha
      have cc : RC C d p r V ed S G L T k := RC_nF R (nF_ro f1) c
      refine ⟨St E C, ?_, C, rfl, f1, stR_eq v1 (fun s' u' l' t' h1 h2 h3 h4 => ?_)⟩
      · unfold fX4_passHour_l57
        dsimp only
        by_cases q : hi < lo + (m : Int)
        · rw [if_pos (by rw [iI_lt (by omega) (by omega) (by omega) (by omega)]; exact q)]
        · rw [if_neg (by rw [iI_lt (by omega) (by omega) (by omega) (by omega)]; exact q), g4_4 R.1.1 cc.1.1, some_bind, g6_3 R.2.1.1, some_bind, RC_v cc, hn, if_pos (by rw [iI_le (by omega) (by omega) (by omega) (by omega)]; omega)]
      · unfold upU psB
        by_cases q : s' = s ∧ u' = u
        · rw [if_pos q, if_pos q]
          by_cases q3 : lo ≤ (l' : Int) ∧ (l' : Int) ≤ hi
          · rw [if_pos q3, if_pos (by omega)]
          · rw [if_neg q3, if_neg (by omega)]
        · rw [if_neg q, if_neg q]) (N := FU) (by show m < 1000000; omega) (a := (iI lo, St E B)) ⟨B, by rw [show lo + ((0 : Nat) : Int) = lo by omega], roF_rfl, stR_eq hA (fun s' u' l' t' h1 h2 h3 h4 => by
      unfold upU psB
      by_cases q : s' = s ∧ u' = u
      · rw [if_pos q, if_neg (by omega), q.1, q.2]
      · rw [if_neg q])⟩
  exact ⟨C, e1, f1, v1⟩
theorem s4_h122 {s u : Nat} {lo hi : Int} {D : Nat → Nat → Nat → Prop} (R : RE E d p r) (c : RC B d p r V ed S G L T k) (hV : VOK V) (hn : V.1 3 = (n : Int)) (hs : s ≤ S) (hu : u ≤ G) (N : NT E d p r S G n T V ed L k h nt A' Sd) (lo0 : 0 ≤ lo ∧ lo ≤ 100) (hi0 : -100 ≤ hi ∧ hi ≤ 100) (hA : stR B d S G n T A) (eA : ∀ l t, l < n → t < T → lo ≤ (l : Int) → (l : Int) ≤ hi → nt l (A s u l) t = A' s u l t) (hD : Sd D B) : ∃ C, iter (fX4_passHour_l122 (E.1 + d) (iI (h : Int)) (iI (s : Int)) (iI (u : Int)) (iI hi)) FU (iI lo, St E B) = some (St E C) ∧ nF d r B C ∧ stR C d S G n T (upU A s u (fun l t => if lo ≤ (l : Int) ∧ (l : Int) ≤ hi then nt l (A s u l) t else A s u l t)) ∧ Sd (fun s' u' l' => D s' u' l' ∨ (s' = s ∧ u' = u ∧ l' < n ∧ lo ≤ (l' : Int) ∧ (l' : Int) ≤ hi)) C := by
  have v3 := hV.2.2.1
  obtain ⟨m, hm⟩ : ∃ m : Nat, m = (min hi ((n : Int) - 1) - lo + 1).toNat := ⟨_, rfl⟩
  obtain ⟨r1, e1, C, rfl, f1, v1, w1⟩ := iter_acc (F := fX4_passHour_l122 (E.1 + d) (iI (h : Int)) (iI (s : Int)) (iI (u : Int)) (iI hi)) (fun j a => ∃ C, a = (iI (lo + (j : Int)), St E C) ∧ nF d r B C ∧ stR C d S G n T (upU A s u (fun l t => if lo ≤ (l : Int) ∧ (l : Int) < lo + (j : Int) then nt l (A s u l) t else A s u l t)) ∧ Sd (fun s' u' l' => D s' u' l' ∨ (s' = s ∧ u' = u ∧ l' < n ∧ lo ≤ (l' : Int) ∧ (l' : Int) < lo + (j : Int))) C) m (fun q => ∃ C, q = St E C ∧ nF d r B C ∧ stR C d S G n T (upU A s u (fun l t => if lo ≤ (l : Int) ∧ (l : Int) ≤ hi then nt l (A s u l) t else A s u l t)) ∧ Sd (fun s' u' l' => D s' u' l' ∨ (s' = s ∧ u' = u ∧ l' < n ∧ lo ≤ (l' : Int) ∧ (l' : Int) ≤ hi)) C)
    (fun j a hj ha => by
      obtain ⟨C, rfl, f1, v1, w1⟩ := ha
      have cc : RC C d p r V ed S G L T k := RC_nF R f1 c
      obtain ⟨l, hl⟩ : ∃ l : Nat, lo + (j : Int) = (l : Int) := ⟨(lo + (j : Int)).toNat, by omega⟩
      have eb : upU A s u (fun l t => if lo ≤ (l : Int) ∧ (l : Int) < lo + (j : Int) then nt l (A s u l) t else A s u l t) s u l = A s u l := by
        funext t
        rw [upU_e, if_neg (by omega)]
      obtain ⟨C', e2, f2, v2, w2⟩ := N C _ _ s u l hs hu (by omega) cc v1 (fun t ht => by rw [eb]; exact eA l t (by omega) ht (by omega) (by omega)) w1
      rw [eb] at v2
      refine ⟨(iI (lo + ((j + 1 : Nat) : Int)), St E C'), ?_, C', rfl, nF_tr f1 f2, stR_eq v2 (fun s' u' l' t' h1 h2 h3 h4 => ?_), ?_⟩
      · unfold fX4_passHour_l122
        dsimp only
        rw [hl, if_neg (by rw [iI_lt (by omega) (by omega) (by omega) (by omega)]; omega), g4_4 R.1.1 cc.1.1, some_bind, g6_3 R.2.1.1, some_bind, RC_v cc, hn, if_neg (by rw [iI_le (by omega) (by omega) (by omega) (by omega)]; omega), e2, some_bind, iI_add, show (l : Int) + 1 = lo + ((j + 1 : Nat) : Int) by omega]
      · unfold upB upU
        dsimp only
        by_cases q : s' = s ∧ u' = u
        · by_cases q2 : l' = l
          · rw [if_pos ⟨q.1, q.2, q2⟩, if_pos q, if_pos (by omega), q2]
          · rw [if_neg (fun w => q2 w.2.2), if_pos q, if_pos q]
            by_cases q3 : lo ≤ (l' : Int) ∧ (l' : Int) < lo + (j : Int)
            · rw [if_pos q3, if_pos (by omega)]
            · rw [if_neg q3, if_neg (by omega)]
        · rw [if_neg (fun w => q ⟨w.1, w.2.1⟩), if_neg q, if_neg q]
      · have ed2 : (fun s' u' l' => (D s' u' l' ∨ (s' = s ∧ u' = u ∧ l' < n ∧ lo ≤ (l' : Int) ∧ (l' : Int) < lo + (j : Int))) ∨ (s' = s ∧ u' = u ∧ l' = l)) = (fun s' u' l' => D s' u' l' ∨ (s' = s ∧ u' = u ∧ l' < n ∧ lo ≤ (l' : Int) ∧ (l' : Int) < lo + ((j + 1 : Nat) : Int))) := by
          funext s' u' l'
          apply propext
          constructor
          · rintro ((w | w) | w)
            · exact Or.inl w
            · exact Or.inr ⟨w.1, w.2.1, w.2.2.1, by omega, by omega⟩
            · exact Or.inr ⟨w.1, w.2.1, by omega, by omega, by omega⟩
          · rintro (w | w)
            · exact Or.inl (Or.inl w)
            · by_cases e : l' = l
              · exact Or.inr ⟨w.1, w.2.1, e⟩
              · exact Or.inl (Or.inr ⟨w.1, w.2.1, w.2.2.1, by omega, by omega⟩)
        rw [ed2] at w2
        exact w2)
    (fun a ha => by
      obtain ⟨C, rfl, f1, v1, w1⟩ := ha
      have cc : RC C d p r V ed S G L T k := RC_nF R f1 c
      refine ⟨St E C, ?_, C, rfl, f1, stR_eq v1 (fun s' u' l' t' h1 h2 h3 h4 => ?_), ?_⟩
      · unfold fX4_passHour_l122
        dsimp only
        by_cases q : hi < lo + (m : Int)
        · rw [if_pos (by rw [iI_lt (by omega) (by omega) (by omega) (by omega)]; exact q)]
        · rw [if_neg (by rw [iI_lt (by omega) (by omega) (by omega) (by omega)]; exact q), g4_4 R.1.1 cc.1.1, some_bind, g6_3 R.2.1.1, some_bind, RC_v cc, hn, if_pos (by rw [iI_le (by omega) (by omega) (by omega) (by omega)]; omega)]
      · unfold upU
        dsimp only
        by_cases q : s' = s ∧ u' = u
        · rw [if_pos q, if_pos q]
          by_cases q3 : lo ≤ (l' : Int) ∧ (l' : Int) ≤ hi
          · rw [if_pos q3, if_pos (by omega)]
          · rw [if_neg q3, if_neg (by omega)]
        · rw [if_neg q, if_neg q]
      · have ed2 : (fun s' u' l' => D s' u' l' ∨ (s' = s ∧ u' = u ∧ l' < n ∧ lo ≤ (l' : Int) ∧ (l' : Int) < lo + (m : Int))) = (fun s' u' l' => D s' u' l' ∨ (s' = s ∧ u' = u ∧ l' < n ∧ lo ≤ (l' : Int) ∧ (l' : Int) ≤ hi)) := by
          funext s' u' l'
          apply propext
          constructor
          · rintro (w | w)
            · exact Or.inl w
            · exact Or.inr ⟨w.1, w.2.1, w.2.2.1, by omega, by omega⟩
          · rintro (w | w)
            · exact Or.inl w
            · exact Or.inr ⟨w.1, w.2.1, w.2.2.1, by omega, by omega⟩
        rw [ed2] at w1
        exact w1) (N := FU) (by show m < 1000000; omega) (a := (iI lo, St E B)) ⟨B, by rw [show lo + ((0 : Nat) : Int) = lo by omega], nF_rfl, stR_eq hA (fun s' u' l' t' h1 h2 h3 h4 => by
      unfold upU
      dsimp only
      by_cases q : s' = s ∧ u' = u
      · rw [if_pos q, if_neg (by omega), q.1, q.2]
      · rw [if_neg q]), by
      have ed2 : (fun s' u' l' => D s' u' l' ∨ (s' = s ∧ u' = u ∧ l' < n ∧ lo ≤ (l' : Int) ∧ (l' : Int) < lo + ((0 : Nat) : Int))) = D := by
        funext s' u' l'
        apply propext
        constructor
        · rintro (w | w)
          · exact w
          · exfalso
            omega
        · exact Or.inl
      rw [ed2]
      exact hD⟩
  exact ⟨C, e1, f1, v1, w1⟩
end PHR
