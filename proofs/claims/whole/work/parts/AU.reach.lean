/-! the class's Reach: its cells by hour, layer, sand -/
def pc2 (h l f : Int) : Int := (h * 5 + l) * 10 + f
theorem pc2_b {h l f : Int} (h0 : 0 ≤ h ∧ h < 24) (l0 : 0 ≤ l ∧ l < 5) (f0 : 0 ≤ f ∧ f < 10) : 0 ≤ pc2 h l f ∧ pc2 h l f < 1200 := by
  unfold pc2
  omega
theorem and_bit {x : Int64} {c : Nat} (hc : c < 64) : x &&& lsh 1 (iI (c : Int)) = 0 ↔ tb x c = false := by
  rw [tb_z]
  constructor
  · intro h
    have := h c hc
    rw [tb_and, tb_one hc hc, decide_eq_true rfl, Bool.and_true] at this
    exact this
  · intro h i hi
    rw [tb_and, tb_one hc hi]
    by_cases e : i = c
    · rw [e, h]
      rfl
    · rw [decide_eq_false e, Bool.and_false]
/-- in the cells of d: it can be in the column c, behind hour h, in layer l, with so much sand spent -/
def hiR (B : Bk) (d : Nat) (h l : Int) (c : Nat) (f : Int) : Bool := tb (B.2.2.2.2 (d + 1) (pc2 h l f)) c
section RCH
variable {E : Ev} {B : Bk} {d : Nat} {h l : Int}
theorem s2_placeOf {f : Int} {s : Hp} : fX2_placeOf (iI h) (iI l) (iI f) s = some (iI (pc2 h l f), s) := by
  unfold fX2_placeOf pc2
  rw [iI_mul, iI_add, iI_mul, iI_add]
theorem s2_addCells {f : Int} {x : Int64} (kd : KD E d 2 5) (ke : KD E (d + 1) 21 1200) (h0 : 0 ≤ h ∧ h < 24) (l0 : 0 ≤ l ∧ l < 5) (f0 : 0 ≤ f ∧ f < 10) : fX2_addCells (E.1 + d) (iI h) (iI l) (iI f) x (St E B) = some (St E (wJ B (d + 1) (pc2 h l f) (B.2.2.2.2 (d + 1) (pc2 h l f) ||| x))) := by
  have b := pc2_b h0 l0 f0
  unfold fX2_addCells
  rw [c2 kd, some_bind, g2_0 kd, some_bind, s2_placeOf, some_bind]
  dsimp only
  rw [aL_ok ke b.1 (by omega) (by omega), some_bind, sL_ok ke b.1 (by omega) (by omega), some_bind]
theorem s2_columnsAt (kd : KD E d 2 5) (ke : KD E (d + 1) 21 1200) (h0 : 0 ≤ h ∧ h < 24) (l0 : 0 ≤ l ∧ l < 5) : ∃ r, fX2_columnsAt (E.1 + d) (iI h) (iI l) (St E B) = some (r, St E B) ∧ ∀ i : Nat, i < 64 → (tb r i = true ↔ ∃ f : Nat, f < 10 ∧ hiR B d h l i (f : Int) = true) := by
  obtain ⟨z, h1, r, rfl, h3⟩ := iter_acc (F := fX2_columnsAt_l5 (E.1 + d) (iI h) (iI l)) (fun j a => ∃ r, a = (r, iI (j : Int), St E B) ∧ ∀ i : Nat, i < 64 → (tb r i = true ↔ ∃ f : Nat, f < j ∧ hiR B d h l i (f : Int) = true)) 10 (fun z => ∃ r, z = (r, St E B) ∧ ∀ i : Nat, i < 64 → (tb r i = true ↔ ∃ f : Nat, f < 10 ∧ hiR B d h l i (f : Int) = true))
    (fun j a hj ha => by
      obtain ⟨r, rfl, hr⟩ := ha
      have b := pc2_b (f := (j : Int)) h0 l0 (by omega)
      refine ⟨(r ||| B.2.2.2.2 (d + 1) (pc2 h l (j : Int)), iI ((j + 1 : Nat) : Int), St E B), ?_, _, rfl, fun i hi => ?_⟩
      · unfold fX2_columnsAt_l5
        dsimp only
        rw [if_neg (by rw [iI_lt (by omega) (by omega) (by omega) (by omega)]; omega), g2_0 kd, some_bind, s2_placeOf, some_bind]
        dsimp only
        rw [aL_ok ke b.1 (by omega) (by omega), some_bind]
        unfold lt_
        dsimp only
        rw [iI_add]
        rfl
      · rw [tb_or, Bool.or_eq_true, hr i hi]
        constructor
        · rintro (⟨f, a1, a2⟩ | a)
          · exact ⟨f, by omega, a2⟩
          · exact ⟨j, by omega, a⟩
        · rintro ⟨f, a1, a2⟩
          by_cases e : f = j
          · subst e
            exact Or.inr a2
          · exact Or.inl ⟨f, by omega, a2⟩)
    (fun a ha => by
      obtain ⟨r, rfl, hr⟩ := ha
      refine ⟨(r, St E B), ?_, r, rfl, hr⟩
      unfold fX2_columnsAt_l5
      dsimp only
      rw [if_pos (by decide)]) (N := FU) (by show 10 < 1000000; omega) (a := (0, iI 0, St E B)) ⟨0, rfl, fun i hi => by
        rw [tb_0]
        constructor
        · intro w
          cases w
        · rintro ⟨f, a1, -⟩
          omega⟩
  refine ⟨r, ?_, h3⟩
  unfold fX2_columnsAt
  rw [c2 kd, some_bind, h1, some_bind]
/-- the least sand of a cell behind an hour, 99 where it can't -/
def lmS (B : Bk) (d : Nat) (h l : Int) (c : Nat) (r : Int) : Prop := (r = 99 ∧ ∀ f : Nat, f < 10 → hiR B d h l c (f : Int) = false) ∨ ∃ f : Nat, r = (f : Int) ∧ f < 10 ∧ hiR B d h l c (f : Int) = true ∧ ∀ f' : Nat, f' < f → hiR B d h l c (f' : Int) = false
theorem s2_leastAt {c : Nat} (kd : KD E d 2 5) (ke : KD E (d + 1) 21 1200) (h0 : 0 ≤ h ∧ h < 24) (l0 : 0 ≤ l ∧ l < 5) (hc : c < 64) : ∃ r, fX2_leastAt (E.1 + d) (iI h) (iI l) (lsh 1 (iI (c : Int))) (St E B) = some (iI r, St E B) ∧ lmS B d h l c r := by
  obtain ⟨z, h1, hz⟩ := iter_n (F := fX2_leastAt_l3 (E.1 + d) (iI h) (iI l) (lsh 1 (iI (c : Int)))) (fun n a => ∃ j : Nat, n + j = 10 ∧ a = (iI (j : Int), St E B) ∧ ∀ f : Nat, f < j → hiR B d h l c (f : Int) = false) (fun z => (z = .inl (St E B) ∧ ∀ f : Nat, f < 10 → hiR B d h l c (f : Int) = false) ∨ ∃ f : Nat, z = .inr (iI (f : Int), St E B) ∧ f < 10 ∧ hiR B d h l c (f : Int) = true ∧ ∀ f' : Nat, f' < f → hiR B d h l c (f' : Int) = false)
    (fun n a ha => by
      obtain ⟨j, hj, rfl, ho⟩ := ha
      by_cases e : j = 10
      · subst e
        refine Or.inr ⟨.inl (St E B), ?_, Or.inl ⟨rfl, ho⟩⟩
        unfold fX2_leastAt_l3
        dsimp only
        rw [if_pos (by decide)]
      · have b := pc2_b (f := (j : Int)) h0 l0 (by omega)
        by_cases q : hiR B d h l c (j : Int) = true
        · refine Or.inr ⟨.inr (iI (j : Int), St E B), ?_, Or.inr ⟨j, rfl, by omega, q, ho⟩⟩
          unfold fX2_leastAt_l3
          dsimp only
          rw [if_neg (by rw [iI_lt (by omega) (by omega) (by omega) (by omega)]; omega), g2_0 kd, some_bind, s2_placeOf, some_bind]
          dsimp only
          rw [aL_ok ke b.1 (by omega) (by omega), some_bind, if_neg (fun w => by
            have := (and_bit hc).mp ((lg_cmp_eq _ _).mp w)
            unfold hiR at q
            rw [this] at q
            cases q)]
        · have q' : hiR B d h l c (j : Int) = false := by simpa using q
          refine Or.inl ⟨(iI ((j + 1 : Nat) : Int), St E B), n - 1, ?_, by omega, j + 1, by omega, rfl, fun f hf => ?_⟩
          · unfold fX2_leastAt_l3
            dsimp only
            rw [if_neg (by rw [iI_lt (by omega) (by omega) (by omega) (by omega)]; omega), g2_0 kd, some_bind, s2_placeOf, some_bind]
            dsimp only
            rw [aL_ok ke b.1 (by omega) (by omega), some_bind, if_pos ((lg_cmp_eq _ _).mpr ((and_bit hc).mpr q')), iI_add]
            rfl
          · by_cases e2 : f = j
            · rw [e2]
              exact q'
            · exact ho f (by omega))
    10 (iI 0, St E B) FU ⟨0, by omega, rfl, fun f hf => by omega⟩ (by show 10 < 1000000; omega)
  rcases hz with ⟨rfl, ho⟩ | ⟨f, rfl, a1, a2, a3⟩
  · refine ⟨99, ?_, Or.inl ⟨rfl, ho⟩⟩
    unfold fX2_leastAt
    rw [c2 kd, some_bind, h1, some_bind]
    rfl
  · refine ⟨(f : Int), ?_, Or.inr ⟨f, rfl, a1, a2, a3⟩⟩
    unfold fX2_leastAt
    rw [c2 kd, some_bind, h1, some_bind]
    rfl
end RCH
