/-! the class's Reach: least of all, soonest, cleared -/
section RCI
variable {E : Ev} {B : Bk} {d : Nat} {l : Int}
theorem lmS_b {h : Int} {c : Nat} {r : Int} (t : lmS B d h l c r) : (0 ≤ r ∧ r ≤ 99) ∧ (r = 99 ↔ ∀ f : Nat, f < 10 → hiR B d h l c (f : Int) = false) := by
  rcases t with ⟨rfl, t⟩ | ⟨f, rfl, t1, t2, t3⟩
  · exact ⟨by omega, fun _ => t, fun _ => rfl⟩
  · refine ⟨by omega, fun w => by omega, fun w => ?_⟩
    rw [w f t1] at t2
    cases t2
/-- the least over the first n hours -/
def laS (B : Bk) (d : Nat) (l : Int) (c n : Nat) (r : Int) : Prop := (r = 99 ∧ ∀ h : Nat, h < n → ∀ f : Nat, f < 10 → hiR B d (h : Int) l c (f : Int) = false) ∨ ∃ f : Nat, r = (f : Int) ∧ f < 10 ∧ (∃ h : Nat, h < n ∧ hiR B d (h : Int) l c (f : Int) = true) ∧ ∀ h : Nat, h < n → ∀ f' : Nat, f' < f → hiR B d (h : Int) l c (f' : Int) = false
theorem laS_n {c n : Nat} {r r' : Int} (t : laS B d l c n r) (t' : lmS B d (n : Int) l c r') : laS B d l c (n + 1) (min r r') := by
  rcases t with ⟨rfl, t⟩ | ⟨f, rfl, t1, ⟨h2, t2, t3⟩, t4⟩
  · rcases t' with ⟨rfl, u⟩ | ⟨f, rfl, u1, u2, u3⟩
    · refine Or.inl ⟨by omega, fun h hh f hf => ?_⟩
      by_cases e : h = n
      · rw [e]
        exact u f hf
      · exact t h (by omega) f hf
    · refine Or.inr ⟨f, by omega, u1, ⟨n, by omega, u2⟩, fun h hh f' hf => ?_⟩
      by_cases e : h = n
      · rw [e]
        exact u3 f' hf
      · exact t h (by omega) f' (by omega)
  · rcases t' with ⟨rfl, u⟩ | ⟨g, rfl, u1, u2, u3⟩
    · refine Or.inr ⟨f, by omega, t1, ⟨h2, by omega, t3⟩, fun h hh f' hf => ?_⟩
      by_cases e : h = n
      · rw [e]
        exact u f' (by omega)
      · exact t4 h (by omega) f' hf
    · by_cases q : g < f
      · refine Or.inr ⟨g, by omega, u1, ⟨n, by omega, u2⟩, fun h hh f' hf => ?_⟩
        by_cases e : h = n
        · rw [e]
          exact u3 f' hf
        · exact t4 h (by omega) f' (by omega)
      · refine Or.inr ⟨f, by omega, t1, ⟨h2, by omega, t3⟩, fun h hh f' hf => ?_⟩
        by_cases e : h = n
        · rw [e]
          exact u3 f' (by omega)
        · exact t4 h (by omega) f' hf
theorem laS_b {c n : Nat} {r : Int} (t : laS B d l c n r) : 0 ≤ r ∧ r ≤ 99 := by
  rcases t with ⟨rfl, t⟩ | ⟨f, rfl, t1, t2, t3⟩ <;> omega
theorem s2_leastOfAll {c n : Nat} (kd : KD E d 2 5) (ke : KD E (d + 1) 21 1200) (hn : n ≤ 24) (l0 : 0 ≤ l ∧ l < 5) (hc : c < 64) : ∃ r, fX2_leastOfAll (E.1 + d) (iI (n : Int)) (iI l) (lsh 1 (iI (c : Int))) (St E B) = some (iI (if r = 99 then -1 else r), St E B) ∧ laS B d l c n r := by
  obtain ⟨z, h1, r, rfl, t⟩ := iter_acc (F := fX2_leastOfAll_l7 (E.1 + d) (iI (n : Int)) (iI l) (lsh 1 (iI (c : Int)))) (fun j a => ∃ r, a = (iI r, iI (j : Int), St E B) ∧ laS B d l c j r) n (fun z => ∃ r, z = (iI r, St E B) ∧ laS B d l c n r)
    (fun j a hj ha => by
      obtain ⟨r, rfl, t⟩ := ha
      obtain ⟨r', g1, g2⟩ := s2_leastAt (E := E) (B := B) (d := d) (h := (j : Int)) (l := l) (c := c) kd ke (by omega) l0 hc
      have b1 := laS_b t
      have b2 := (lmS_b g2).1
      refine ⟨(iI (min r r'), iI ((j + 1 : Nat) : Int), St E B), ?_, _, rfl, laS_n t g2⟩
      unfold fX2_leastOfAll_l7
      dsimp only
      rw [if_neg (by rw [iI_le (by omega) (by omega) (by omega) (by omega)]; omega), g1, some_bind]
      unfold lt_
      dsimp only
      rw [imin_ok (by omega) (by omega) (by omega) (by omega), iI_add]
      rfl)
    (fun a ha => by
      obtain ⟨r, rfl, t⟩ := ha
      refine ⟨(iI r, St E B), ?_, r, rfl, t⟩
      unfold fX2_leastOfAll_l7
      dsimp only
      rw [if_pos (by rw [iI_le (by omega) (by omega) (by omega) (by omega)]; omega)]) (N := FU) (by show n < 1000000; omega) (a := (iI 99, iI 0, St E B)) ⟨99, rfl, Or.inl ⟨rfl, fun h hh => by omega⟩⟩
  have b := laS_b t
  refine ⟨r, ?_, t⟩
  unfold fX2_leastOfAll
  rw [c2 kd, some_bind, h1, some_bind]
  dsimp only
  by_cases q : r = 99
  · rw [if_pos (by rw [q]), if_pos q]
  · rw [if_neg (fun w => q ((iI_eq (by omega) (by omega) (by omega) (by omega)).mp w)), if_neg q]
/-- the first hour behind which it can be there, -1 where there is none -/
def snS (B : Bk) (d : Nat) (l : Int) (c n : Nat) (r : Int) : Prop := (r = -1 ∧ ∀ h : Nat, h < n → ∀ f : Nat, f < 10 → hiR B d (h : Int) l c (f : Int) = false) ∨ ∃ h : Nat, r = (h : Int) ∧ h < n ∧ (∃ f : Nat, f < 10 ∧ hiR B d (h : Int) l c (f : Int) = true) ∧ ∀ h' : Nat, h' < h → ∀ f : Nat, f < 10 → hiR B d (h' : Int) l c (f : Int) = false
theorem s2_soonestOf {c n : Nat} (kd : KD E d 2 5) (ke : KD E (d + 1) 21 1200) (hn : n ≤ 24) (l0 : 0 ≤ l ∧ l < 5) (hc : c < 64) : ∃ r, fX2_soonestOf (E.1 + d) (iI (n : Int)) (iI l) (lsh 1 (iI (c : Int))) (St E B) = some (iI r, St E B) ∧ snS B d l c n r := by
  obtain ⟨z, h1, hz⟩ := iter_n (F := fX2_soonestOf_l3 (E.1 + d) (iI (n : Int)) (iI l) (lsh 1 (iI (c : Int)))) (fun k a => ∃ j : Nat, k + j = n ∧ a = (iI (j : Int), St E B) ∧ ∀ h : Nat, h < j → ∀ f : Nat, f < 10 → hiR B d (h : Int) l c (f : Int) = false) (fun z => (z = .inl (St E B) ∧ ∀ h : Nat, h < n → ∀ f : Nat, f < 10 → hiR B d (h : Int) l c (f : Int) = false) ∨ ∃ h : Nat, z = .inr (iI (h : Int), St E B) ∧ h < n ∧ (∃ f : Nat, f < 10 ∧ hiR B d (h : Int) l c (f : Int) = true) ∧ ∀ h' : Nat, h' < h → ∀ f : Nat, f < 10 → hiR B d (h' : Int) l c (f : Int) = false)
    (fun k a ha => by
      obtain ⟨j, hj, rfl, ho⟩ := ha
      by_cases e : j = n
      · subst e
        refine Or.inr ⟨.inl (St E B), ?_, Or.inl ⟨rfl, ho⟩⟩
        unfold fX2_soonestOf_l3
        dsimp only
        rw [if_pos (by rw [iI_le (by omega) (by omega) (by omega) (by omega)]; omega)]
      · obtain ⟨r', g1, g2⟩ := s2_leastAt (E := E) (B := B) (d := d) (h := (j : Int)) (l := l) (c := c) kd ke (by omega) l0 hc
        obtain ⟨b1, b2⟩ := lmS_b g2
        by_cases q : r' = 99
        · refine Or.inl ⟨(iI ((j + 1 : Nat) : Int), St E B), k - 1, ?_, by omega, j + 1, by omega, rfl, fun h hh f hf => ?_⟩
          · unfold fX2_soonestOf_l3
            dsimp only
            rw [if_neg (by rw [iI_le (by omega) (by omega) (by omega) (by omega)]; omega), g1, some_bind]
            dsimp only
            rw [if_pos (by rw [q]), iI_add]
            rfl
          · by_cases w : h = j
            · rw [w]
              exact b2.mp q f hf
            · exact ho h (by omega) f hf
        · have : ∃ f : Nat, f < 10 ∧ hiR B d (j : Int) l c (f : Int) = true := by
            rcases g2 with ⟨w, -⟩ | ⟨f, -, a1, a2, -⟩
            · exact absurd w q
            · exact ⟨f, a1, a2⟩
          refine Or.inr ⟨.inr (iI (j : Int), St E B), ?_, Or.inr ⟨j, rfl, by omega, this, ho⟩⟩
          unfold fX2_soonestOf_l3
          dsimp only
          rw [if_neg (by rw [iI_le (by omega) (by omega) (by omega) (by omega)]; omega), g1, some_bind]
          dsimp only
          rw [if_neg (fun w => q ((iI_eq (by omega) (by omega) (by omega) (by omega)).mp w))])
    n (iI 0, St E B) FU ⟨0, by omega, rfl, fun h hh => by omega⟩ (by show n < 1000000; omega)
  rcases hz with ⟨rfl, ho⟩ | ⟨h, rfl, a1, a2, a3⟩
  · refine ⟨-1, ?_, Or.inl ⟨rfl, ho⟩⟩
    unfold fX2_soonestOf
    rw [c2 kd, some_bind, h1, some_bind]
    rfl
  · refine ⟨(h : Int), ?_, Or.inr ⟨h, rfl, a1, a2, a3⟩⟩
    unfold fX2_soonestOf
    rw [c2 kd, some_bind, h1, some_bind]
    rfl
theorem s2_clearCells (kd : KD E d 2 5) (ke : KD E (d + 1) 21 1200) : ∃ C, fX2_clearCells (E.1 + d) (St E B) = some (St E C) ∧ (C.1 = B.1 ∧ C.2.1 = B.2.1 ∧ C.2.2.1 = B.2.2.1 ∧ C.2.2.2.1 = B.2.2.2.1 ∧ ∀ e, e ≠ d + 1 → C.2.2.2.2 e = B.2.2.2.2 e) ∧ ∀ z : Int, 0 ≤ z → z < 1200 → C.2.2.2.2 (d + 1) z = 0 := by
  obtain ⟨r, h1, C, rfl, h2, h3⟩ := iter_acc (F := fX2_clearCells_l2 (E.1 + d)) (fun j a => ∃ C, a = (iI (j : Int), St E C) ∧ (C.1 = B.1 ∧ C.2.1 = B.2.1 ∧ C.2.2.1 = B.2.2.1 ∧ C.2.2.2.1 = B.2.2.2.1 ∧ ∀ e, e ≠ d + 1 → C.2.2.2.2 e = B.2.2.2.2 e) ∧ ∀ z : Int, 0 ≤ z → z < (j : Int) → C.2.2.2.2 (d + 1) z = 0) 1200 (fun r => ∃ C, r = St E C ∧ (C.1 = B.1 ∧ C.2.1 = B.2.1 ∧ C.2.2.1 = B.2.2.1 ∧ C.2.2.2.1 = B.2.2.2.1 ∧ ∀ e, e ≠ d + 1 → C.2.2.2.2 e = B.2.2.2.2 e) ∧ ∀ z : Int, 0 ≤ z → z < 1200 → C.2.2.2.2 (d + 1) z = 0)
    (fun j a hj ha => by
      obtain ⟨C, rfl, ⟨a1, a2, a3, a4, a5⟩, h3⟩ := ha
      refine ⟨(iI ((j + 1 : Nat) : Int), St E (wJ C (d + 1) (j : Int) 0)), ?_, _, rfl, ⟨a1, a2, a3, a4, fun e q => ?_⟩, fun z z0 z1 => ?_⟩
      · unfold fX2_clearCells_l2
        dsimp only
        rw [g2_0 kd, some_bind, aN_ok ke (by omega) (by omega), some_bind, if_neg (by rw [iI_le (by omega) (by omega) (by omega) (by omega)]; omega), some_bind, sL_ok ke (by omega) (by omega) (by omega), some_bind, iI_add]
        rfl
      · funext z
        rw [wJ_5, if_neg (fun w => q w.1), a5 e q]
      · rw [wJ_5]
        by_cases e : z = (j : Int)
        · rw [if_pos ⟨rfl, e⟩]
        · rw [if_neg (fun w => e w.2)]
          exact h3 z z0 (by omega))
    (fun a ha => by
      obtain ⟨C, rfl, h2, h3⟩ := ha
      refine ⟨St E C, ?_, C, rfl, h2, h3⟩
      unfold fX2_clearCells_l2
      dsimp only
      rw [g2_0 kd, some_bind, aN_ok ke (by omega) (by omega), some_bind, if_pos (by rw [iI_le (by omega) (by omega) (by omega) (by omega)]; omega)]) (N := FU) (by show 1200 < 1000000; omega) (a := (iI 0, St E B)) ⟨B, rfl, ⟨rfl, rfl, rfl, rfl, fun _ _ => rfl⟩, fun z z0 z1 => by omega⟩
  refine ⟨C, ?_, h2, h3⟩
  unfold fX2_clearCells
  rw [c2 kd, some_bind, h1, some_bind]
end RCI
