/-! the most sand left at a spot, and how many spots -/
def anyN (p : Nat → Bool) : Nat → Bool
  | 0 => false
  | n + 1 => anyN p n || p n
theorem anyN_t {p : Nat → Bool} : ∀ {n : Nat}, anyN p n = true ↔ ∃ j, j < n ∧ p j = true
  | 0 => by
    constructor
    · intro h
      cases h
    · rintro ⟨j, h, -⟩
      omega
  | n + 1 => by
    unfold anyN
    rw [Bool.or_eq_true, anyN_t]
    constructor
    · rintro (⟨j, h1, h2⟩ | h)
      · exact ⟨j, by omega, h2⟩
      · exact ⟨n, by omega, h⟩
    · rintro ⟨j, h1, h2⟩
      by_cases q : j = n
      · exact Or.inr (q ▸ h2)
      · exact Or.inl ⟨j, by omega, h2⟩
def smN (f : Nat → Nat) : Nat → Nat
  | 0 => 0
  | n + 1 => smN f n + f n
/-- some state of the set stands there with so much sand -/
def gaJ (X : Bk) (x y l : Int) (f : Nat) : Bool := anyN (fun g => onJ X (mo + 21) (cdW x y l (f : Int) (g : Int) 0)) 10
/-- some state of the set stands there -/
def anyS (X : Bk) (x y l : Int) : Bool := anyN (fun f => gaJ X x y l f) 10
/-- r is the most of it, -1 where there is none -/
def mtS (X : Bk) (x y l : Int) (n : Nat) (r : Int) : Prop := (r = -1 ∧ ∀ f, f < n → gaJ X x y l f = false) ∨ ∃ f : Nat, r = (f : Int) ∧ f < n ∧ gaJ X x y l f = true ∧ ∀ f', f < f' → f' < n → gaJ X x y l f' = false
section ML
variable {E : Ev} {X : Bk} {V : Vy} {x y l f g m u v : Int}
theorem mtS_any {r : Int} (h : mtS X x y l 10 r) : (r = -1 ↔ anyS X x y l = false) ∧ -1 ≤ r ∧ r ≤ 9 := by
  rcases h with ⟨h1, h2⟩ | ⟨f, h1, h2, h3, h4⟩
  · refine ⟨⟨fun _ => ?_, fun _ => h1⟩, by omega, by omega⟩
    cases q : anyS X x y l
    · rfl
    · obtain ⟨f, f1, f2⟩ := anyN_t.mp q
      rw [h2 f f1] at f2
      cases f2
  · refine ⟨⟨fun q => by omega, fun q => ?_⟩, by omega, by omega⟩
    have : anyS X x y l = true := anyN_t.mpr ⟨f, h2, h3⟩
    rw [q] at this
    cases this
set_option maxHeartbeats 200000 in
theorem m_ml0 {k x' y' l' f' g' : Int} {b : Int32} (rm : mKd E mo) (g0 : 0 ≤ g) (g1 : g < 10) (k0 : 0 ≤ k) (k1 : k < 1024000) (ek : 32 * ((((x * 8 + y) * 5 + l) * 10 + f) * 10 + g) = k) : fX9_mostLeft_l16 (E.1 + mo) (iI x) (iI y) (iI l) (iI f) (b, iI g, St E (frW X x' y' l' f' g' m u v)) = some (.inl (if onJ X (mo + 21) k = true then iI f else b, iI (g + 1), St E (frW X x y l f g m u v))) := by
  have z0 : iI 0 = 0 := rfl
  have z1 : ¬ iI 1 = 0 := by decide
  unfold fX9_mostLeft_l16
  dsimp only
  rw [if_neg (by rw [iI_le (by omega) (by omega) (by omega) (by omega)]; omega), p9_42 rm.1, some_bind, frW_w42, p9_43 rm.1, some_bind, frW_w43, p9_44 rm.1, some_bind, frW_w44, p9_45 rm.1, some_bind, frW_w45, p9_46 rm.1, some_bind, frW_w46, g9_40 rm.1, some_bind, m_stateF rm, some_bind]
  dsimp only
  rw [iI_mul, ek, m_isOnF (mk21 rm) k0 k1, some_bind, frW_on]
  dsimp only
  unfold fX9_mostLeft_b71
  by_cases q : onJ X (mo + 21) k = true
  · rw [if_pos q, if_neg z1, if_pos q, iI_add]
  · rw [if_neg q, if_pos z0, if_neg q, iI_add]
theorem cd_eq {x y l f g : Int} : 32 * ((((x * 8 + y) * 5 + l) * 10 + f) * 10 + g) = cdW x y l f g 0 := by
  unfold cdW
  rw [Int.add_zero]
set_option maxHeartbeats 200000 in
theorem m_ml1 {s : Hp} {b : Int32} {fN : Nat} (rm : mKd E mo) (x0 : 0 ≤ x ∧ x < 8) (y0 : 0 ≤ y ∧ y < 8) (l0 : 0 ≤ l ∧ l < 5) (f0 : fN < 10) (hs : anyF E X s) : ∃ s', iter (fX9_mostLeft_l16 (E.1 + mo) (iI x) (iI y) (iI l) (iI (fN : Int))) FU (b, iI 0, s) = some (if gaJ X x y l fN = true then iI (fN : Int) else b, s') ∧ anyF E X s' := by
  obtain ⟨r, h1, s', h2, h3⟩ := iter_acc (F := fX9_mostLeft_l16 (E.1 + mo) (iI x) (iI y) (iI l) (iI (fN : Int))) (fun j a => ∃ s', a = (if anyN (fun g => onJ X (mo + 21) (cdW x y l (fN : Int) (g : Int) 0)) j = true then iI (fN : Int) else b, iI (j : Int), s') ∧ anyF E X s') 10 (fun r => ∃ s', r = (if anyN (fun g => onJ X (mo + 21) (cdW x y l (fN : Int) (g : Int) 0)) 10 = true then iI (fN : Int) else b, s') ∧ anyF E X s')
    (fun j a hj ha => by
      obtain ⟨s', rfl, x', y', l', f', g', m', u, v, rfl⟩ := ha
      have cb := cdW_b (x := x) (y := y) (l := l) (f := (fN : Int)) (g := (j : Int)) (m := 0) ⟨x0, y0, l0, by omega, by omega, by omega⟩
      refine ⟨_, m_ml0 rm (by omega) (by omega) cb.1 cb.2 cd_eq, St E (frW X x y l (fN : Int) (j : Int) m' u v), ?_, ⟨x, y, l, _, _, m', u, v, rfl⟩⟩
      refine Prod.ext ?_ rfl
      show (if onJ X (mo + 21) (cdW x y l (fN : Int) (j : Int) 0) = true then iI (fN : Int) else if anyN (fun g => onJ X (mo + 21) (cdW x y l (fN : Int) (g : Int) 0)) j = true then iI (fN : Int) else b) = (if (anyN (fun g => onJ X (mo + 21) (cdW x y l (fN : Int) (g : Int) 0)) j || onJ X (mo + 21) (cdW x y l (fN : Int) (j : Int) 0)) = true then iI (fN : Int) else b)
      cases onJ X (mo + 21) (cdW x y l (fN : Int) (j : Int) 0)
      · rw [Bool.or_false, if_neg (by decide)]
      · rw [Bool.or_true, if_pos rfl, if_pos rfl])
    (fun a ha => by
      obtain ⟨s', rfl, h⟩ := ha
      refine ⟨_, ?_, s', rfl, h⟩
      unfold fX9_mostLeft_l16
      dsimp only
      rw [if_pos (by decide)]) (N := FU) (by show 10 < 1000000; omega) (a := (b, iI 0, s)) ⟨s, rfl, hs⟩
  subst h2
  exact ⟨s', h1, h3⟩
theorem m_mostLeft {s : Hp} (rm : mKd E mo) (x0 : 0 ≤ x ∧ x < 8) (y0 : 0 ≤ y ∧ y < 8) (l0 : 0 ≤ l ∧ l < 5) (hs : anyF E X s) : ∃ s' r, fX9_mostLeft (E.1 + mo) (iI x) (iI y) (iI l) s = some (iI r, s') ∧ anyF E X s' ∧ mtS X x y l 10 r := by
  obtain ⟨q, h1, s', r, h2, h3, h4⟩ := iter_acc (F := fX9_mostLeft_l6 (E.1 + mo) (iI x) (iI y) (iI l)) (fun j a => ∃ s' r, a = (iI r, iI (j : Int), s') ∧ anyF E X s' ∧ mtS X x y l j r) 10 (fun q => ∃ s' r, q = (iI r, s') ∧ anyF E X s' ∧ mtS X x y l 10 r)
    (fun j a hj ha => by
      obtain ⟨s', r, rfl, h3, h4⟩ := ha
      obtain ⟨s2, g1, g2⟩ := m_ml1 (E := E) (X := X) (b := iI r) (fN := j) rm x0 y0 l0 hj h3
      have run : fX9_mostLeft_l6 (E.1 + mo) (iI x) (iI y) (iI l) (iI r, iI (j : Int), s') = some (.inl (if gaJ X x y l j = true then iI (j : Int) else iI r, iI ((j : Int) + 1), s2)) := by
        unfold fX9_mostLeft_l6
        dsimp only
        rw [if_neg (by rw [iI_le (by omega) (by omega) (by omega) (by omega)]; omega), g1, some_bind, iI_add]
      refine ⟨_, run, s2, if gaJ X x y l j = true then (j : Int) else r, ?_, g2, ?_⟩
      · refine Prod.ext ?_ rfl
        show (if gaJ X x y l j = true then iI (j : Int) else iI r) = iI (if gaJ X x y l j = true then (j : Int) else r)
        split <;> rfl
      · by_cases c : gaJ X x y l j = true
        · rw [if_pos c]
          exact Or.inr ⟨j, rfl, by omega, c, fun f' a1 a2 => by omega⟩
        · rw [if_neg c]
          have c' : gaJ X x y l j = false := by simpa using c
          rcases h4 with ⟨e1, e2⟩ | ⟨f, e1, e2, e3, e4⟩
          · refine Or.inl ⟨e1, fun f hf => ?_⟩
            by_cases w : f = j
            · exact w ▸ c'
            · exact e2 f (by omega)
          · refine Or.inr ⟨f, e1, by omega, e3, fun f' a1 a2 => ?_⟩
            by_cases w : f' = j
            · exact w ▸ c'
            · exact e4 f' a1 (by omega))
    (fun a ha => by
      obtain ⟨s', r, rfl, h3, h4⟩ := ha
      refine ⟨_, ?_, s', r, rfl, h3, h4⟩
      unfold fX9_mostLeft_l6
      dsimp only
      rw [if_pos (by decide)]) (N := FU) (by show 10 < 1000000; omega) (a := (iI (-1), iI 0, s)) ⟨s, -1, rfl, hs, Or.inl ⟨rfl, fun f hf => by omega⟩⟩
  subst h2
  refine ⟨s', r, ?_, h3, h4⟩
  obtain ⟨x', y', l', f', g', m', u, v, rfl⟩ := hs
  unfold fX9_mostLeft
  rw [c9 rm.1, some_bind, h1, some_bind]
end ML
