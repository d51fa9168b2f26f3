/-! an hour of a free shop, by sets of bits -/
def tOK (V : Vy) (c l f g : Int) (m : Nat) : Prop := cOK (V.1 1) (V.1 2) c ∧ (0 ≤ l ∧ l < V.1 3) ∧ (0 ≤ f ∧ f ≤ 9) ∧ (0 ≤ g ∧ g ≤ 9) ∧ m < 32
def cdC (c l f g : Int) (m : Nat) : Int := cdW (c % 8) (c / 8) l f g (m : Int)
def nxC (V : Vy) (cnt : Nat) (h a c l f g : Int) (m : Nat) : Int := cdC (ccA V a h c l) (clA V h (lvA a l)) (fsA a f) (gsA a g) (mkD V cnt (ccA V a h c l) (clA V h (lvA a l)) m)
/-- from one number of a state an hour leads to another -/
def Nx (V : Vy) (cnt : Nat) (h k k' : Int) : Prop := ∃ (c l f g : Int) (m : Nat) (a : Int), tOK V c l f g m ∧ k = cdC c l f g m ∧ (0 ≤ a ∧ a ≤ 2) ∧ okA V a l f g ∧ k' = nxC V cnt h a c l f g m
theorem tOK_d {V : Vy} {c l f g : Int} {m : Nat} (hV : VOK V) (t : tOK V c l f g m) : dOK (c % 8) (c / 8) l f g (m : Int) := by
  obtain ⟨⟨c0, c1, c2⟩, t2, t3, t4, t5⟩ := t
  have v1 := hV.1
  have v2 := hV.2.1
  have v3 := hV.2.2.1
  exact ⟨by omega, by omega, by omega, by omega, by omega, by omega⟩
theorem cdW_b {x y l f g m : Int} (d : dOK x y l f g m) : 0 ≤ cdW x y l f g m ∧ cdW x y l f g m < 1024000 := by
  obtain ⟨h1, h2, h3, h4, h5, h6⟩ := d
  unfold cdW
  omega
theorem cdW_inj {x y l f g m x' y' l' f' g' m' : Int} (d : dOK x y l f g m) (d' : dOK x' y' l' f' g' m') (e : cdW x y l f g m = cdW x' y' l' f' g' m') : x = x' ∧ y = y' ∧ l = l' ∧ f = f' ∧ g = g' ∧ m = m' := by
  obtain ⟨h1, h2, h3, h4, h5, h6⟩ := d
  obtain ⟨k1, k2, k3, k4, k5, k6⟩ := d'
  unfold cdW at e
  obtain ⟨n3, hn3⟩ : ∃ n3, n3 = x * 8 + y := ⟨_, rfl⟩
  obtain ⟨n2, hn2⟩ : ∃ n2, n2 = n3 * 5 + l := ⟨_, rfl⟩
  obtain ⟨n1, hn1⟩ : ∃ n1, n1 = n2 * 10 + f := ⟨_, rfl⟩
  obtain ⟨n, hn⟩ : ∃ n, n = n1 * 10 + g := ⟨_, rfl⟩
  obtain ⟨k3', hk3⟩ : ∃ n3, n3 = x' * 8 + y' := ⟨_, rfl⟩
  obtain ⟨k2', hk2⟩ : ∃ n2, n2 = k3' * 5 + l' := ⟨_, rfl⟩
  obtain ⟨k1', hk1⟩ : ∃ n1, n1 = k2' * 10 + f' := ⟨_, rfl⟩
  obtain ⟨k', hk⟩ : ∃ n, n = k1' * 10 + g' := ⟨_, rfl⟩
  rw [← hn3, ← hn2, ← hn1, ← hn, ← hk3, ← hk2, ← hk1, ← hk] at e
  have a1 : m = m' ∧ n = k' := by omega
  have a2 : g = g' ∧ n1 = k1' := by omega
  have a3 : f = f' ∧ n2 = k2' := by omega
  have a4 : l = l' ∧ n3 = k3' := by omega
  have a5 : y = y' ∧ x = x' := by omega
  exact ⟨a5.2, a5.1, a4.1, a3.1, a2.1, a1.1⟩
theorem cdC_inj {V : Vy} {c l f g c' l' f' g' : Int} {m m' : Nat} (hV : VOK V) (t : tOK V c l f g m) (t' : tOK V c' l' f' g' m') (e : cdC c l f g m = cdC c' l' f' g' m') : c = c' ∧ l = l' ∧ f = f' ∧ g = g' ∧ m = m' := by
  obtain ⟨e1, e2, e3, e4, e5, e6⟩ := cdW_inj (tOK_d hV t) (tOK_d hV t') e
  exact ⟨by omega, e3, e4, e5, by omega⟩
theorem mkD_b {V : Vy} {cnt m : Nat} {c l : Int} (hV : VOK V) (hm : m < 32) : mkD V cnt c l m < 32 := by
  have db := drV_bd (V := V) (c := c) hV
  have v9 := hV.2.2.2.2.2.2.2.2.1
  unfold mkD
  split
  · rename_i q
    obtain ⟨d, hd⟩ : ∃ d : Nat, drV V c = (d : Int) := ⟨(drV V c).toNat, by have := q.1; omega⟩
    rw [hd, Int.toNat_natCast]
    have key : ∀ m : Fin 32, ∀ d : Fin 5, m.val ||| 2 ^ d.val < 32 := by decide
    exact key ⟨m, hm⟩ ⟨d, by omega⟩
  · exact hm
theorem tOK_n {V : Vy} {cnt : Nat} {h a c l f g : Int} {m : Nat} (hV : VOK V) (t : tOK V c l f g m) (q : okA V a l f g) : tOK V (ccA V a h c l) (clA V h (lvA a l)) (fsA a f) (gsA a g) (mkD V cnt (ccA V a h c l) (clA V h (lvA a l)) m) := by
  obtain ⟨t1, t2, t3, t4, t5⟩ := t
  have v1 := hV.1
  refine ⟨crX_in t1 v1.2, ?_, ?_, ?_, mkD_b hV t5⟩
  · unfold clA lvA
    rcases q with rfl | ⟨rfl, q1, q2⟩ | ⟨rfl, q1, q2⟩
    · simp only [show ¬ (0 : Int) = 1 by omega, show ¬ (0 : Int) = 2 by omega, if_false]
      split <;> omega
    · simp only [if_true]
      split <;> omega
    · simp only [show ¬ (2 : Int) = 1 by omega, if_false, if_true]
      split <;> omega
  · unfold fsA
    split <;> omega
  · unfold gsA
    split <;> omega
/-- loops with a measure that is told -/
theorem iter_n {σ ρ : Type} {F : σ → Option (σ ⊕ ρ)} (I : Nat → σ → Prop) (Q : ρ → Prop) (hs : ∀ n a, I n a → (∃ a' n', F a = some (.inl a') ∧ n' < n ∧ I n' a') ∨ (∃ r, F a = some (.inr r) ∧ Q r)) : ∀ (n : Nat) (a : σ) (N : Nat), I n a → n < N → ∃ r, iter F N a = some r ∧ Q r := by
  intro n
  induction n using Nat.strongRecOn with
  | ind n ih =>
    intro a N ha hN
    cases N with
    | zero => omega
    | succ N =>
      rcases hs n a ha with ⟨a', n', h1, h2, h3⟩ | ⟨r, h1, h2⟩
      · obtain ⟨r, h4, h5⟩ := ih n' h2 a' N h3 (by omega)
        exact ⟨r, by rw [iter_l h1]; exact h4, h5⟩
      · exact ⟨r, iter_r h1 (by omega), h2⟩
section HO
variable {E : Ev} {B : Bk} {V : Vy} {cnt : Nat} {h : Int}
/-- only bits of 'then' and the shop's fields have changed -/
def bJ (B X : Bk) : Prop := X.1 = B.1 ∧ X.2.1 = B.2.1 ∧ X.2.2.1 = B.2.2.1 ∧ X.2.2.2.1 = B.2.2.2.1 ∧ ∀ d, d ≠ mo + 22 → X.2.2.2.2 d = B.2.2.2.2 d
theorem bJ_rfl : bJ B B := ⟨rfl, rfl, rfl, rfl, fun _ _ => rfl⟩
theorem bJ_sp {X : Bk} {k : Int} (b : bJ B X) : bJ B (spJ X (mo + 22) k) := by
  obtain ⟨b1, b2, b3, b4, b5⟩ := b
  refine ⟨b1, b2, b3, b4, fun d hd => ?_⟩
  funext z
  unfold spJ
  rw [wJ_5, if_neg (fun y => hd y.1), b5 d hd]
theorem bJ_MP {X : Bk} (b : bJ B X) (P : MP B V) : MP X V := ⟨jMV b.1 b.2.2.2.1 P.1, P.2.1, by rw [b.1]; exact P.2.2.1, by rw [b.2.2.2.1]; exact P.2.2.2⟩
/-- a state of the search: what the shop's fields are does not matter -/
def anyF (E : Ev) (X : Bk) (s : Hp) : Prop := ∃ x y l f g m u v, s = St E (frW X x y l f g m u v)
set_option maxHeartbeats 400000 in
theorem m_act1 {X : Bk} {c l f g x y l' f' g' m' u v : Int} {m : Nat} {a : Int} (rm : mKd E mo) (P : MP X V) (hc : X.1 mo 48 = (cnt : Int)) (hc2 : cnt < 32) (t : tOK V c l f g m) (a0 : 0 ≤ a) (a1 : a ≤ 2) (h0 : 0 ≤ h ∧ h < V.1 4) (x1 x2 : Int32) (x3 : Int64) : ∃ s', fX9_hourFree_l43 (E.1 + mo) (iI h) x2 x3 (iI (cdC c l f g m)) (iI a, St E (frW X x y l' f' g' m' u v)) = some (.inl (iI (a + 1), s')) ∧ anyF E (if okA V a l f g then spJ X (mo + 22) (nxC V cnt h a c l f g m) else X) s' := by
  have hV := P.2.1
  have td := tOK_d hV t
  have t' := t
  obtain ⟨⟨c0, c1, c2⟩, t2, t3, t4, t5⟩ := t'
  have v1 := hV.1
  have v2 := hV.2.1
  have ec : c / 8 * 8 + c % 8 = c := by omega
  have rd := m_readsC (B := X) (x := x) (y := y) (l := l') (f := f') (g := g') (m := m') (u := u) (v := v) rm td
  have ac := m_actsF (m := (m : Int)) (u := u) (v := v) (a := a) (h := h) (x := c % 8) (y := c / 8) (l := l) (f := f) (g := g) rm P a0 a1 (by omega) (by omega) t2 (by omega) (by omega) h0
  rw [ec] at ac
  have ng : ¬ iI 3 ≤ iI a := by rw [iI_le (by omega) (by omega) (by omega) (by omega)]; omega
  unfold cdC
  unfold fX9_hourFree_l43
  dsimp only
  rw [if_neg ng, rd, some_bind]
  by_cases q : okA V a l f g
  · have tn := tOK_n (cnt := cnt) (h := h) hV t q
    have td2 := tOK_d hV tn
    obtain ⟨⟨n0, n1, n2⟩, u2, u3, u4, u5⟩ := tn
    have ec2 : ccA V a h c l / 8 * 8 + ccA V a h c l % 8 = ccA V a h c l := by omega
    have mk := m_marksF (B := X) (cnt := cnt) (mN := m) (x := ccA V a h c l % 8) (y := ccA V a h c l / 8) (l := clA V h (lvA a l)) (f := fsA a f) (g := gsA a g) (u := ccA V a h c l % 8) (v := ccA V a h c l / 8) rm P hc hc2 t5 (by omega) (by omega) u2
    rw [ec2] at mk
    have pt := m_putsF (B := X) (u := ccA V a h c l % 8) (v := ccA V a h c l / 8) rm (mk22 rm) td2
    rw [ac.1 q, some_bind, if_neg (by exact (show ¬ iI 1 = 0 by decide)), mk, some_bind, g9_41 rm.1, some_bind, pt, some_bind, if_pos q]
    unfold fX9_hourFree_b80 nxC cdC
    refine ⟨_, by rw [iI_add], _, _, _, _, _, _, _, _, rfl⟩
  · rw [ac.2 q, some_bind, if_pos (by exact (show iI 0 = 0 by decide)), if_neg q]
    unfold fX9_hourFree_b80
    refine ⟨_, by rw [iI_add], _, _, _, _, _, _, _, _, rfl⟩
/-- one state's three acts -/
theorem m_act3 {X : Bk} {c l f g : Int} {m : Nat} {s : Hp} (rm : mKd E mo) (P : MP X V) (hc : X.1 mo 48 = (cnt : Int)) (hc2 : cnt < 32) (t : tOK V c l f g m) (h0 : 0 ≤ h ∧ h < V.1 4) (x2 : Int32) (x3 : Int64) (hs : anyF E X s) : ∃ s' X', iter (fX9_hourFree_l43 (E.1 + mo) (iI h) x2 x3 (iI (cdC c l f g m))) FU (iI 0, s) = some s' ∧ anyF E X' s' ∧ bJ X X' ∧ ∀ k', 0 ≤ k' → (onJ X' (mo + 22) k' = true ↔ onJ X (mo + 22) k' = true ∨ ∃ a, (0 ≤ a ∧ a ≤ 2) ∧ okA V a l f g ∧ k' = nxC V cnt h a c l f g m) := by
  have hV := P.2.1
  obtain ⟨r, f1, f2⟩ := iter_acc (F := fX9_hourFree_l43 (E.1 + mo) (iI h) x2 x3 (iI (cdC c l f g m))) (fun j a => ∃ s' X', a = (iI (j : Int), s') ∧ anyF E X' s' ∧ bJ X X' ∧ ∀ k', 0 ≤ k' → (onJ X' (mo + 22) k' = true ↔ onJ X (mo + 22) k' = true ∨ ∃ a, (0 ≤ a ∧ a < (j : Int)) ∧ okA V a l f g ∧ k' = nxC V cnt h a c l f g m)) 3 (fun r => ∃ X', anyF E X' r ∧ bJ X X' ∧ ∀ k', 0 ≤ k' → (onJ X' (mo + 22) k' = true ↔ onJ X (mo + 22) k' = true ∨ ∃ a, (0 ≤ a ∧ a < (3 : Int)) ∧ okA V a l f g ∧ k' = nxC V cnt h a c l f g m))
    (fun j a hj ha => by
      obtain ⟨s', X', rfl, ⟨x, y, l', f', g', m', u, v, rfl⟩, b, ho⟩ := ha
      have P' := bJ_MP b P
      obtain ⟨s2, e1, e2⟩ := m_act1 (E := E) (X := X') (cnt := cnt) (x := x) (y := y) (l' := l') (f' := f') (g' := g') (m' := m') (u := u) (v := v) (h := h) (a := (j : Int)) rm P' (by rw [b.1]; exact hc) hc2 t (by omega) (by omega) h0 x2 x2 x3
      refine ⟨_, e1, s2, _, by rw [Int.natCast_add]; rfl, e2, ?_, fun k' k0 => ?_⟩
      · split
        · exact bJ_sp b
        · exact b
      · have n0 : 0 ≤ nxC V cnt h (j : Int) c l f g m ∨ ¬ okA V (j : Int) l f g := by
          by_cases q : okA V (j : Int) l f g
          · exact Or.inl (cdW_b (tOK_d hV (tOK_n (cnt := cnt) (h := h) hV t q))).1
          · exact Or.inr q
        by_cases q : okA V (j : Int) l f g
        · rw [if_pos q, spJ_on (by rcases n0 with w | w; exact w; exact absurd q w) k0, Bool.or_eq_true, decide_eq_true_eq, ho k' k0]
          constructor
          · rintro ((w | ⟨a, w1, w2, w3⟩) | w)
            · exact Or.inl w
            · exact Or.inr ⟨a, by omega, w2, w3⟩
            · exact Or.inr ⟨(j : Int), by omega, q, w⟩
          · rintro (w | ⟨a, w1, w2, w3⟩)
            · exact Or.inl (Or.inl w)
            · by_cases e : a = (j : Int)
              · subst e
                exact Or.inr w3
              · exact Or.inl (Or.inr ⟨a, by omega, w2, w3⟩)
        · rw [if_neg q, ho k' k0]
          constructor
          · rintro (w | ⟨a, w1, w2, w3⟩)
            · exact Or.inl w
            · exact Or.inr ⟨a, by omega, w2, w3⟩
          · rintro (w | ⟨a, w1, w2, w3⟩)
            · exact Or.inl w
            · by_cases e : a = (j : Int)
              · subst e
                exact absurd w2 q
              · exact Or.inr ⟨a, by omega, w2, w3⟩)
    (fun a ha => by
      obtain ⟨s', X', rfl, an, b, ho⟩ := ha
      refine ⟨s', ?_, X', an, b, ho⟩
      unfold fX9_hourFree_l43
      dsimp only
      rw [if_pos (by decide)]) (N := FU) (by show 3 < 1000000; omega) (a := (iI 0, s)) ⟨s, X, rfl, hs, bJ_rfl, fun k' k0 => by
      constructor
      · exact Or.inl
      · rintro (w | ⟨a, w1, -⟩)
        · exact w
        · omega⟩
  obtain ⟨X', an, b, ho⟩ := f2
  refine ⟨r, X', f1, an, b, fun k' k0 => ?_⟩
  rw [ho k' k0]
  constructor
  · rintro (w | ⟨a, w1, w2⟩)
    · exact Or.inl w
    · exact Or.inr ⟨a, by omega, w2⟩
  · rintro (w | ⟨a, w1, w2⟩)
    · exact Or.inl w
    · exact Or.inr ⟨a, by omega, w2⟩
end HO
