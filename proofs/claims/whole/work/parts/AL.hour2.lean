/-! all states of a set, an hour further -/
section HP
variable {E : Ev} {B : Bk} {V : Vy} {cnt : Nat} {h : Int}
theorem bJ_tr {A C : Bk} (p : bJ A B) (q : bJ B C) : bJ A C := ⟨q.1.trans p.1, q.2.1.trans p.2.1, q.2.2.1.trans p.2.2.1, q.2.2.2.1.trans p.2.2.2.1, fun d hd => (q.2.2.2.2 d hd).trans (p.2.2.2.2 d hd)⟩
/-- every state in the set at e is one -/
def SVl (V : Vy) (B : Bk) (e : Nat) : Prop := ∀ k : Int, 0 ≤ k → k < 1024000 → onJ B e k = true → ∃ c l f g m, tOK V c l f g m ∧ k = cdC c l f g m
/-- one word of the set -/
theorem m_word {X : Bk} {s : Hp} {i : Nat} {w : Int64} (rm : mKd E mo) (P : MP X V) (hc : X.1 mo 48 = (cnt : Int)) (hc2 : cnt < 32) (h0 : 0 ≤ h ∧ h < V.1 4) (hi : i < 16000) (hw : ∀ j : Nat, j < 64 → tb w j = true → ∃ c l f g m, tOK V c l f g m ∧ 64 * (i : Int) + (j : Int) = cdC c l f g m) (hs : anyF E X s) : ∃ s' X', iter (fX9_hourFree_l23 (E.1 + mo) (iI h) (iI (i : Int))) FU (w, s) = some s' ∧ anyF E X' s' ∧ bJ X X' ∧ ∀ k', 0 ≤ k' → (onJ X' (mo + 22) k' = true ↔ onJ X (mo + 22) k' = true ∨ ∃ j : Nat, j < 64 ∧ tb w j = true ∧ Nx V cnt h (64 * (i : Int) + (j : Int)) k') := by
  have hV := P.2.1
  obtain ⟨r, f1, X', an, b, ho⟩ := iter_n (F := fX9_hourFree_l23 (E.1 + mo) (iI h) (iI (i : Int))) (fun n a => ∃ (p : Nat) (v : Int64) (s' : Hp) (X' : Bk), n + p = 64 ∧ a = (v, s') ∧ (∀ j, j < 64 → tb v j = (tb w j && decide (p ≤ j))) ∧ anyF E X' s' ∧ bJ X X' ∧ ∀ k', 0 ≤ k' → (onJ X' (mo + 22) k' = true ↔ onJ X (mo + 22) k' = true ∨ ∃ j : Nat, j < p ∧ tb w j = true ∧ Nx V cnt h (64 * (i : Int) + (j : Int)) k')) (fun r => ∃ X', anyF E X' r ∧ bJ X X' ∧ ∀ k', 0 ≤ k' → (onJ X' (mo + 22) k' = true ↔ onJ X (mo + 22) k' = true ∨ ∃ j : Nat, j < 64 ∧ tb w j = true ∧ Nx V cnt h (64 * (i : Int) + (j : Int)) k'))
    (fun n a ha => by
      obtain ⟨p, v, s', X', hp, rfl, hv, an, b, ho⟩ := ha
      by_cases vz : v = 0
      · refine Or.inr ⟨s', ?_, X', an, b, fun k' k0 => ?_⟩
        · unfold fX9_hourFree_l23
          dsimp only
          rw [if_pos ((lg_cmp_eq _ _).mpr vz)]
        · rw [ho k' k0]
          have zz := tb_z.mp vz
          constructor
          · rintro (q | ⟨j, q1, q2⟩)
            · exact Or.inl q
            · exact Or.inr ⟨j, by omega, q2⟩
          · rintro (q | ⟨j, q1, q2, q3⟩)
            · exact Or.inl q
            · refine Or.inr ⟨j, ?_, q2, q3⟩
              by_cases c : j < p
              · exact c
              · have := hv j q1
                rw [zz j q1, q2, decide_eq_true (show p ≤ j by omega)] at this
                cases this
      · obtain ⟨i0, i1, e1, e2, e3⟩ := m_lowest (s := s') vz
        have hi0 := hv i0 i1
        rw [e2] at hi0
        have wi : tb w i0 = true ∧ p ≤ i0 := by
          have := hi0.symm
          rw [Bool.and_eq_true, decide_eq_true_eq] at this
          exact this
        obtain ⟨c, l, f, g, m, t, ek⟩ := hw i0 i1 wi.1
        have P' := bJ_MP b P
        obtain ⟨s2, X2, g1, g2, g3, g4⟩ := m_act3 (E := E) (X := X') (cnt := cnt) (h := h) rm P' (by rw [b.1]; exact hc) hc2 t h0 (iI (i : Int)) v an
        refine Or.inl ⟨(v &&& (v - 1), s2), 64 - (i0 + 1), ?_, by omega, i0 + 1, v &&& (v - 1), s2, X2, by omega, rfl, fun j hj => ?_, g2, bJ_tr b g3, fun k' k0 => ?_⟩
        · unfold fX9_hourFree_l23
          dsimp only
          rw [if_neg (fun q => vz ((lg_cmp_eq _ _).mp q)), e1, some_bind]
          unfold lt_
          dsimp only
          rw [iI_mul, iI_add, ek, g1, some_bind]
        · rw [tb_clr i1 e2 e3, hv j hj]
          by_cases c1 : j = i0
          · rw [c1]
            simp
          · by_cases c2 : p ≤ j
            · have : i0 < j ∨ j < i0 := by omega
              rcases this with c3 | c3
              · simp [c1, c2, show i0 + 1 ≤ j by omega]
              · have z := e3 j c3
                rw [hv j hj, decide_eq_true c2, Bool.and_true] at z
                simp [z]
            · simp [c2, show ¬ i0 + 1 ≤ j by omega]
        · rw [g4 k' k0, ho k' k0]
          constructor
          · rintro ((q | ⟨j, q1, q2⟩) | ⟨a, q1, q2, q3⟩)
            · exact Or.inl q
            · exact Or.inr ⟨j, by omega, q2⟩
            · exact Or.inr ⟨i0, by omega, wi.1, c, l, f, g, m, a, t, ek, q1, q2, q3⟩
          · rintro (q | ⟨j, q1, q2, q3⟩)
            · exact Or.inl (Or.inl q)
            · by_cases c1 : j = i0
              · subst c1
                obtain ⟨c', l', f', g', m', a, t', ek', q4, q5, q6⟩ := q3
                obtain ⟨rfl, rfl, rfl, rfl, rfl⟩ := cdC_inj hV t t' (ek.symm.trans ek')
                exact Or.inr ⟨a, q4, q5, q6⟩
              · by_cases c2 : j < p
                · exact Or.inl (Or.inr ⟨j, c2, q2, q3⟩)
                · have z := e3 j (by omega)
                  rw [hv j (by omega), q2, decide_eq_true (show p ≤ j by omega)] at z
                  cases z)
    64 (w, s) FU ⟨0, w, s, X, by omega, rfl, fun j hj => by simp, hs, bJ_rfl, fun k' k0 => by
      constructor
      · exact Or.inl
      · rintro (q | ⟨j, q1, -⟩)
        · exact q
        · omega⟩ (by show 64 < 1000000; omega)
  exact ⟨r, X', f1, an, b, ho⟩
/-- all words of the set -/
theorem m_words {X : Bk} {s : Hp} (rm : mKd E mo) (P : MP X V) (hc : X.1 mo 48 = (cnt : Int)) (hc2 : cnt < 32) (h0 : 0 ≤ h ∧ h < V.1 4) (sv : SVl V X (mo + 21)) (em : ∀ k, 0 ≤ k → k < 1024000 → onJ X (mo + 22) k = false) (hs : anyF E X s) : ∃ s' X', iter (fX9_hourFree_l9 (E.1 + mo) (iI h)) FU (iI 0, s) = some s' ∧ anyF E X' s' ∧ bJ X X' ∧ ∀ k', 0 ≤ k' → k' < 1024000 → (onJ X' (mo + 22) k' = true ↔ ∃ k, 0 ≤ k ∧ k < 1024000 ∧ onJ X (mo + 21) k = true ∧ Nx V cnt h k k') := by
  obtain ⟨r, f1, X', an, b, ho⟩ := iter_acc (F := fX9_hourFree_l9 (E.1 + mo) (iI h)) (fun i a => ∃ s' X', a = (iI (i : Int), s') ∧ anyF E X' s' ∧ bJ X X' ∧ ∀ k', 0 ≤ k' → k' < 1024000 → (onJ X' (mo + 22) k' = true ↔ ∃ k, 0 ≤ k ∧ k < 64 * (i : Int) ∧ onJ X (mo + 21) k = true ∧ Nx V cnt h k k')) 16000 (fun r => ∃ X', anyF E X' r ∧ bJ X X' ∧ ∀ k', 0 ≤ k' → k' < 1024000 → (onJ X' (mo + 22) k' = true ↔ ∃ k, 0 ≤ k ∧ k < 1024000 ∧ onJ X (mo + 21) k = true ∧ Nx V cnt h k k'))
    (fun i a hi ha => by
      obtain ⟨s', X', rfl, an, b, ho⟩ := ha
      have P' := bJ_MP b P
      have on' : ∀ j : Nat, j < 64 → onJ X (mo + 21) (64 * (i : Int) + (j : Int)) = tb (X.2.2.2.2 (mo + 21) (i : Int)) j := fun j hj => by
        unfold onJ
        rw [show (64 * (i : Int) + (j : Int)) / 64 = (i : Int) by omega, show ((64 * (i : Int) + (j : Int)) % 64).toNat = j by omega]
      obtain ⟨s2, X2, g1, g2, g3, g4⟩ := m_word (E := E) (X := X') (cnt := cnt) (h := h) (i := i) (w := X.2.2.2.2 (mo + 21) (i : Int)) rm P' (by rw [b.1]; exact hc) hc2 h0 hi (fun j hj q => sv _ (by omega) (by omega) (by rw [on' j hj]; exact q)) an
      refine ⟨(iI ((i + 1 : Nat) : Int), s2), ?_, s2, X2, rfl, g2, bJ_tr b g3, fun k' k0 k1 => ?_⟩
      · obtain ⟨x, y, l, f, g, m, u, v, rfl⟩ := an
        unfold fX9_hourFree_l9
        dsimp only
        rw [if_neg (by rw [iI_le (by omega) (by omega) (by omega) (by omega)]; omega), g9_40 rm.1, some_bind, aL_ok (mk21 rm) (by omega) (by omega) (by omega), some_bind, frW_2, b.2.2.2.2 (mo + 21) (by omega), g1, some_bind, iI_add]
        rfl
      · rw [g4 k' k0, ho k' k0 k1]
        constructor
        · rintro (⟨k, q1, q2, q3⟩ | ⟨j, q1, q2, q3⟩)
          · exact ⟨k, q1, by omega, q3⟩
          · exact ⟨_, by omega, by omega, by rw [on' j q1]; exact q2, q3⟩
        · rintro ⟨k, q1, q2, q3, q4⟩
          by_cases c : k < 64 * (i : Int)
          · exact Or.inl ⟨k, q1, c, q3, q4⟩
          · obtain ⟨j, hj⟩ : ∃ j : Nat, k = 64 * (i : Int) + (j : Int) := ⟨(k - 64 * (i : Int)).toNat, by omega⟩
            subst hj
            exact Or.inr ⟨j, by omega, by rw [← on' j (by omega)]; exact q3, q4⟩)
    (fun a ha => by
      obtain ⟨s', X', rfl, an, b, ho⟩ := ha
      refine ⟨s', ?_, X', an, b, ho⟩
      unfold fX9_hourFree_l9
      dsimp only
      rw [if_pos (by decide)]) (N := FU) (by show 16000 < 1000000; omega) (a := (iI 0, s)) ⟨s, X, rfl, hs, bJ_rfl, fun k' k0 k1 => by
      rw [em k' k0 k1]
      constructor
      · intro q
        cases q
      · rintro ⟨k, q1, q2, -⟩
        omega⟩
  exact ⟨r, X', f1, an, b, ho⟩
/-- a row of longs emptied, or copied -/
def flZ (B : Bk) (d : Nat) (n : Int) : Bk := (B.1, B.2.1, B.2.2.1, B.2.2.2.1, fun e z => if e = d ∧ 0 ≤ z ∧ z < n then 0 else B.2.2.2.2 e z)
def cpZ (B : Bk) (d a : Nat) (n : Int) : Bk := (B.1, B.2.1, B.2.2.1, B.2.2.2.1, fun e z => if e = d ∧ 0 ≤ z ∧ z < n then B.2.2.2.2 a z else B.2.2.2.2 e z)
theorem m_empties {e : Nat} (ke : KD E e 21 16000) : fX9_empties (E.1 + e) (St E B) = some (St E (flZ B e 16000)) := by
  have z0 : flZ B e 0 = B := by
    refine Prod.ext rfl (Prod.ext rfl (Prod.ext rfl (Prod.ext rfl ?_)))
    funext d z
    show (if d = e ∧ 0 ≤ z ∧ z < 0 then 0 else B.2.2.2.2 d z) = _
    rw [if_neg (by omega)]
  have st : ∀ j : Int, 0 ≤ j → wJ (flZ B e j) e j 0 = flZ B e (j + 1) := fun j j0 => by
    refine Prod.ext rfl (Prod.ext rfl (Prod.ext rfl (Prod.ext rfl ?_)))
    funext d z
    show (if d = e ∧ z = j then 0 else if d = e ∧ 0 ≤ z ∧ z < j then 0 else B.2.2.2.2 d z) = (if d = e ∧ 0 ≤ z ∧ z < j + 1 then 0 else B.2.2.2.2 d z)
    repeat' split
    all_goals first | rfl | (exfalso; omega)
  have key := iter_for (F := fX9_empties_l2 (E.1 + e)) (fun j => (iI j, St E (flZ B e j))) 0 16000 (St E (flZ B e 16000)) (fun j j0 j1 => by
    unfold fX9_empties_l2
    dsimp only
    rw [if_neg (by rw [iI_le (by omega) (by omega) (by omega) (by omega)]; omega), sL_ok ke j0 (by omega) (by omega), some_bind, st j j0, iI_add]) (by
    unfold fX9_empties_l2
    dsimp only
    rw [if_pos (by decide)]) (by omega) (N := FU) (by show (16000 : Int) - 0 < ((1000000 : Nat) : Int); omega)
  rw [z0] at key
  unfold fX9_empties
  rw [key, some_bind]
theorem m_copyJ (rm : mKd E mo) : iter (fX9_hourFree_l103 (E.1 + mo)) FU (iI 0, St E B) = some (St E (cpZ B (mo + 21) (mo + 22) 16000)) := by
  have z0 : cpZ B (mo + 21) (mo + 22) 0 = B := by
    refine Prod.ext rfl (Prod.ext rfl (Prod.ext rfl (Prod.ext rfl ?_)))
    funext d z
    show (if d = mo + 21 ∧ 0 ≤ z ∧ z < 0 then B.2.2.2.2 (mo + 22) z else B.2.2.2.2 d z) = B.2.2.2.2 d z
    rw [if_neg (by omega)]
  have st : ∀ j : Int, 0 ≤ j → wJ (cpZ B (mo + 21) (mo + 22) j) (mo + 21) j (B.2.2.2.2 (mo + 22) j) = cpZ B (mo + 21) (mo + 22) (j + 1) := fun j j0 => by
    refine Prod.ext rfl (Prod.ext rfl (Prod.ext rfl (Prod.ext rfl ?_)))
    funext d z
    show (if d = mo + 21 ∧ z = j then B.2.2.2.2 (mo + 22) j else if d = mo + 21 ∧ 0 ≤ z ∧ z < j then B.2.2.2.2 (mo + 22) z else B.2.2.2.2 d z) = (if d = mo + 21 ∧ 0 ≤ z ∧ z < j + 1 then B.2.2.2.2 (mo + 22) z else B.2.2.2.2 d z)
    by_cases q : d = mo + 21 ∧ z = j
    · rw [if_pos q, if_pos (by omega), q.2]
    · rw [if_neg q]
      repeat' split
      all_goals first | rfl | (exfalso; omega)
  have rd : ∀ j : Int, (cpZ B (mo + 21) (mo + 22) j).2.2.2.2 (mo + 22) j = B.2.2.2.2 (mo + 22) j := fun j => by
    show (if mo + 22 = mo + 21 ∧ 0 ≤ j ∧ j < j then B.2.2.2.2 (mo + 22) j else B.2.2.2.2 (mo + 22) j) = B.2.2.2.2 (mo + 22) j
    rw [if_neg (by omega)]
  have key := iter_for (F := fX9_hourFree_l103 (E.1 + mo)) (fun j => (iI j, St E (cpZ B (mo + 21) (mo + 22) j))) 0 16000 (St E (cpZ B (mo + 21) (mo + 22) 16000)) (fun j j0 j1 => by
    unfold fX9_hourFree_l103
    dsimp only
    rw [if_neg (by rw [iI_le (by omega) (by omega) (by omega) (by omega)]; omega), g9_40 rm.1, some_bind, g9_41 rm.1, some_bind, aL_ok (mk22 rm) j0 (by omega) (by omega), some_bind, sL_ok (mk21 rm) j0 (by omega) (by omega), some_bind, rd, st j j0, iI_add]) (by
    unfold fX9_hourFree_l103
    dsimp only
    rw [if_pos (by decide)]) (by omega) (N := FU) (by show (16000 : Int) - 0 < ((1000000 : Nat) : Int); omega)
  rw [z0] at key
  exact key
/-- only the sets and the shop's fields have changed -/
def hJ (B X : Bk) : Prop := X.1 = B.1 ∧ X.2.1 = B.2.1 ∧ X.2.2.1 = B.2.2.1 ∧ X.2.2.2.1 = B.2.2.2.1 ∧ ∀ d, d ≠ mo + 21 → d ≠ mo + 22 → X.2.2.2.2 d = B.2.2.2.2 d
theorem hJ_rfl : hJ B B := ⟨rfl, rfl, rfl, rfl, fun _ _ _ => rfl⟩
theorem hJ_tr {A C : Bk} (p : hJ A B) (q : hJ B C) : hJ A C := ⟨q.1.trans p.1, q.2.1.trans p.2.1, q.2.2.1.trans p.2.2.1, q.2.2.2.1.trans p.2.2.2.1, fun d h1 h2 => (q.2.2.2.2 d h1 h2).trans (p.2.2.2.2 d h1 h2)⟩
theorem hJ_MP {X : Bk} (b : hJ B X) (P : MP B V) : MP X V := ⟨jMV b.1 b.2.2.2.1 P.1, P.2.1, by rw [b.1]; exact P.2.2.1, by rw [b.2.2.2.1]; exact P.2.2.2⟩
theorem hJ_sc {X : Bk} (b : hJ B X) : sc B X := by
  refine ⟨fun d j _ => by rw [b.1], fun d j _ => by rw [b.2.1], b.2.2.1, fun d z _ => by rw [b.2.2.2.1], fun d z q => ?_⟩
  have : d ≠ mo + 21 ∧ d ≠ mo + 22 := by
    unfold mscr at q
    omega
  rw [b.2.2.2.2 d this.1 this.2]
theorem m_hourFree {s : Hp} (rm : mKd E mo) (P : MP B V) (hc : B.1 mo 48 = (cnt : Int)) (hc2 : cnt < 32) (h0 : 0 ≤ h ∧ h < V.1 4) (sv : SVl V B (mo + 21)) (hs : anyF E B s) : ∃ s' X, fX9_hourFree (E.1 + mo) (iI h) s = some s' ∧ anyF E X s' ∧ hJ B X ∧ SVl V X (mo + 21) ∧ ∀ k', 0 ≤ k' → k' < 1024000 → (onJ X (mo + 21) k' = true ↔ ∃ k, 0 ≤ k ∧ k < 1024000 ∧ onJ B (mo + 21) k = true ∧ Nx V cnt h k k') := by
  have hV := P.2.1
  obtain ⟨x, y, l, f, g, m, u, v, rfl⟩ := hs
  have ez : ∀ d : Nat, d ≠ mo + 22 → (flZ B (mo + 22) 16000).2.2.2.2 d = B.2.2.2.2 d := fun d hd => by
    funext z
    show (if d = mo + 22 ∧ 0 ≤ z ∧ z < 16000 then 0 else B.2.2.2.2 d z) = _
    rw [if_neg (fun w => hd w.1)]
  have P1 : MP (flZ B (mo + 22) 16000) V := ⟨jMV rfl rfl P.1, hV, P.2.2.1, P.2.2.2⟩
  have on1 : ∀ k, onJ (flZ B (mo + 22) 16000) (mo + 21) k = onJ B (mo + 21) k := fun k => by
    unfold onJ
    rw [ez (mo + 21) (by omega)]
  have em : ∀ k, 0 ≤ k → k < 1024000 → onJ (flZ B (mo + 22) 16000) (mo + 22) k = false := fun k k0 k1 => by
    unfold onJ
    have : (flZ B (mo + 22) 16000).2.2.2.2 (mo + 22) (k / 64) = 0 := by
      show (if mo + 22 = mo + 22 ∧ 0 ≤ k / 64 ∧ k / 64 < 16000 then 0 else B.2.2.2.2 (mo + 22) (k / 64)) = 0
      rw [if_pos ⟨rfl, by omega, by omega⟩]
    rw [this, tb_0]
  obtain ⟨s1, X1, w1, w2, w3, w4⟩ := m_words (E := E) (X := flZ B (mo + 22) 16000) (cnt := cnt) (h := h) rm P1 hc hc2 h0 (fun k k0 k1 q => sv k k0 k1 (by rw [← on1]; exact q)) em ⟨x, y, l, f, g, m, u, v, rfl⟩
  obtain ⟨x1, y1, l1, f1, g1, m1, u1, v1, rfl⟩ := w2
  have cp := m_copyJ (B := frW X1 x1 y1 l1 f1 g1 m1 u1 v1) rm
  have onc : ∀ k, 0 ≤ k → k < 1024000 → onJ (cpZ X1 (mo + 21) (mo + 22) 16000) (mo + 21) k = onJ X1 (mo + 22) k := fun k k0 k1 => by
    unfold onJ
    have : (cpZ X1 (mo + 21) (mo + 22) 16000).2.2.2.2 (mo + 21) (k / 64) = X1.2.2.2.2 (mo + 22) (k / 64) := by
      show (if mo + 21 = mo + 21 ∧ 0 ≤ k / 64 ∧ k / 64 < 16000 then X1.2.2.2.2 (mo + 22) (k / 64) else X1.2.2.2.2 (mo + 21) (k / 64)) = _
      rw [if_pos ⟨rfl, by omega, by omega⟩]
    rw [this]
  have spec : ∀ k', 0 ≤ k' → k' < 1024000 → (onJ (cpZ X1 (mo + 21) (mo + 22) 16000) (mo + 21) k' = true ↔ ∃ k, 0 ≤ k ∧ k < 1024000 ∧ onJ B (mo + 21) k = true ∧ Nx V cnt h k k') := fun k' k0 k1 => by
    rw [onc k' k0 k1, w4 k' k0 k1]
    constructor
    · rintro ⟨k, q1, q2, q3, q4⟩
      exact ⟨k, q1, q2, by rw [← on1]; exact q3, q4⟩
    · rintro ⟨k, q1, q2, q3, q4⟩
      exact ⟨k, q1, q2, by rw [on1]; exact q3, q4⟩
  refine ⟨St E (frW (cpZ X1 (mo + 21) (mo + 22) 16000) x1 y1 l1 f1 g1 m1 u1 v1), cpZ X1 (mo + 21) (mo + 22) 16000, ?_, ⟨_, _, _, _, _, _, _, _, rfl⟩, ⟨?_, ?_, ?_, ?_, fun d d1 d2 => ?_⟩, fun k k0 k1 q => ?_, spec⟩
  · have em1 : fX9_empties (E.1 + (mo + 22)) (St E (frW B x y l f g m u v)) = some (St E (frW (flZ B (mo + 22) 16000) x y l f g m u v)) := m_empties (mk22 rm)
    have cp1 : iter (fX9_hourFree_l103 (E.1 + mo)) FU (iI 0, St E (frW X1 x1 y1 l1 f1 g1 m1 u1 v1)) = some (St E (frW (cpZ X1 (mo + 21) (mo + 22) 16000) x1 y1 l1 f1 g1 m1 u1 v1)) := cp
    unfold fX9_hourFree
    rw [c9 rm.1, some_bind, g9_41 rm.1, some_bind, em1, some_bind, w1, some_bind, cp1, some_bind]
  · exact w3.1
  · exact w3.2.1
  · exact w3.2.2.1
  · exact w3.2.2.2.1
  · funext z
    show (if d = mo + 21 ∧ 0 ≤ z ∧ z < 16000 then X1.2.2.2.2 (mo + 22) z else X1.2.2.2.2 d z) = _
    rw [if_neg (fun w => d1 w.1), w3.2.2.2.2 d d2, ez d d2]
  · obtain ⟨k2, q1, q2, q3, c, l, f, g, m, a, t, e1, e2, e3, e4⟩ := (spec k k0 k1).mp q
    exact ⟨_, _, _, _, _, tOK_n (cnt := cnt) (h := h) hV t e3, e4⟩
end HP
