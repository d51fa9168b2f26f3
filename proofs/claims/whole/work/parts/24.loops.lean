/-! loops that count; the first place where something holds; sums -/
theorem iter_for {σ ρ : Type} {F : σ → Option (σ ⊕ ρ)} (S : Int → σ) (i m : Int) (r : ρ) (hs : ∀ j, i ≤ j → j < m → F (S j) = some (.inl (S (j + 1)))) (hx : F (S m) = some (.inr r)) (h : i ≤ m) {N : Nat} (hN : m - i < N) : iter F N (S i) = some r := by
  obtain ⟨k, hk⟩ : ∃ k : Nat, m - i = k := ⟨(m - i).toNat, by omega⟩
  induction k generalizing i N with
  | zero =>
    have e : i = m := by omega
    subst e
    cases N with
    | zero => omega
    | succ N => show (F (S i)).bind _ = _; rw [hx]; rfl
  | succ k ih =>
    cases N with
    | zero => omega
    | succ N =>
      show (F (S i)).bind _ = _
      rw [hs i (Int.le_refl i) (by omega)]
      exact ih (i + 1) (fun j h1 h2 => hs j (by omega) h2) (by omega) (by omega) (by omega)
/-- the same downwards -/
theorem iter_down {σ ρ : Type} {F : σ → Option (σ ⊕ ρ)} (S : Int → σ) (i m : Int) (r : ρ) (hs : ∀ j, m < j → j ≤ i → F (S j) = some (.inl (S (j - 1)))) (hx : F (S m) = some (.inr r)) (h : m ≤ i) {N : Nat} (hN : i - m < N) : iter F N (S i) = some r := by
  have := iter_for (F := F) (fun j => S (-j)) (-i) (-m) r (fun j h1 h2 => by
    have e := hs (-j) (by omega) (by omega)
    rw [e, show -j - 1 = -(j + 1) by omega]) (by rw [Int.neg_neg]; exact hx) (by omega) (N := N) (by omega)
  rw [Int.neg_neg] at this
  exact this
theorem FU_big {n : Int} (h : n ≤ 900000) : n < FU := by show n < ((1000000 : Nat) : Int); omega
/-- the first of k places from i on where p holds, else i + k -/
def lf (p : Int → Prop) [DecidablePred p] : Nat → Int → Int
  | 0, i => i
  | k + 1, i => if p i then i else lf p k (i + 1)
theorem lf_spec (p : Int → Prop) [DecidablePred p] : ∀ (k : Nat) (i : Int), i ≤ lf p k i ∧ lf p k i ≤ i + k ∧ (∀ j, i ≤ j → j < lf p k i → ¬ p j) ∧ (lf p k i < i + k → p (lf p k i)) := by
  intro k
  induction k with
  | zero => intro i; exact ⟨Int.le_refl _, by show i ≤ _; omega, fun j h1 h2 => by have : lf p 0 i = i := rfl; omega, fun h => by have : lf p 0 i = i := rfl; omega⟩
  | succ k ih =>
    intro i
    by_cases hp : p i
    · have e : lf p (k + 1) i = i := if_pos hp
      rw [e]
      exact ⟨Int.le_refl _, by omega, fun j h1 h2 => by omega, fun _ => hp⟩
    · have e : lf p (k + 1) i = lf p k (i + 1) := if_neg hp
      obtain ⟨h1, h2, h3, h4⟩ := ih (i + 1)
      rw [e]
      refine ⟨by omega, by omega, fun j g1 g2 => ?_, fun g => h4 (by omega)⟩
      by_cases hj : j = i
      · rw [hj]; exact hp
      · exact h3 j (by omega) g2
theorem lf_congr {p q : Int → Prop} [DecidablePred p] [DecidablePred q] : ∀ (k : Nat) (i : Int), (∀ j, i ≤ j → j < i + k → (p j ↔ q j)) → lf p k i = lf q k i := by
  intro k
  induction k with
  | zero => intro i _; rfl
  | succ k ih =>
    intro i h
    show (if p i then i else lf p k (i + 1)) = (if q i then i else lf q k (i + 1))
    rw [ih (i + 1) (fun j h1 h2 => h j (by omega) (by omega))]
    by_cases hp : p i
    · rw [if_pos hp, if_pos ((h i (by omega) (by omega)).mp hp)]
    · rw [if_neg hp, if_neg (fun q => hp ((h i (by omega) (by omega)).mpr q))]
/-- f i + .. + f (i + k - 1) -/
def sm (f : Int → Int) : Nat → Int → Int
  | 0, _ => 0
  | k + 1, i => f i + sm f k (i + 1)
theorem sm_congr {f g : Int → Int} : ∀ (k : Nat) (i : Int), (∀ j, i ≤ j → j < i + k → f j = g j) → sm f k i = sm g k i := by
  intro k
  induction k with
  | zero => intro i _; rfl
  | succ k ih =>
    intro i h
    show f i + sm f k (i + 1) = g i + sm g k (i + 1)
    rw [ih (i + 1) (fun j h1 h2 => h j (by omega) (by omega)), h i (by omega) (by omega)]
/-- a value carried through places 0 .. i - 1 -/
def fo {α : Type} (g : Int → α → α) (a : α) : Nat → α
  | 0 => a
  | k + 1 => g k (fo g a k)
theorem fo_congr {α : Type} {g g' : Int → α → α} {a : α} : ∀ (k : Nat), (∀ (j : Nat) (x : α), j < k → g j x = g' j x) → fo g a k = fo g' a k := by
  intro k
  induction k with
  | zero => intro _; rfl
  | succ k ih =>
    intro h
    show g k (fo g a k) = g' k (fo g' a k)
    rw [ih (fun j x hj => h j x (by omega)), h k _ (by omega)]
theorem fo_inv {α : Type} {g : Int → α → α} {a : α} (P : Nat → α → Prop) (h0 : P 0 a) : ∀ (k : Nat), (∀ (j : Nat) (x : α), j < k → P j x → P (j + 1) (g j x)) → P k (fo g a k) := by
  intro k
  induction k with
  | zero => intro _; exact h0
  | succ k ih => intro h; exact h k _ (by omega) (ih (fun j x hj hp => h j x (by omega) hp))
theorem fo_rel {α β : Type} {g : Int → α → α} {g' : Int → β → β} {a : α} {b : β} (P : Nat → α → β → Prop) (h0 : P 0 a b) : ∀ (k : Nat), (∀ (j : Nat) (x : α) (y : β), j < k → P j x y → P (j + 1) (g j x) (g' j y)) → P k (fo g a k) (fo g' b k) := by
  intro k
  induction k with
  | zero => intro _; exact h0
  | succ k ih => intro h; exact h k _ _ (by omega) (ih (fun j x y hj hp => h j x y (by omega) hp))
/-- loops that carry a value: S k x is the state with k places done and x carried -/
theorem iter_fo {σ ρ α : Type} {F : σ → Option (σ ⊕ ρ)} (S : Int → α → σ) (g : Int → α → α) (a : α) (n : Nat) (r : ρ) (I : Nat → α → Prop) (h0 : I 0 a) (hI : ∀ (j : Nat) (x : α), j < n → I j x → I (j + 1) (g j x)) (hs : ∀ (j : Nat) (x : α), j < n → I j x → F (S j x) = some (.inl (S ((j : Int) + 1) (g j x)))) (hx : F (S n (fo g a n)) = some (.inr r)) {N : Nat} (hN : n < N) : iter F N (S 0 a) = some r := by
  have key : ∀ k, k ≤ n → iter F (N - k) (S k (fo g a k)) = some r → iter F N (S 0 a) = some r := by
    intro k
    induction k with
    | zero => intro _ h; exact h
    | succ k ih =>
      intro hk h
      refine ih (by omega) ?_
      have e : N - k = (N - (k + 1)) + 1 := by omega
      rw [e]
      show (F _).bind _ = _
      rw [hs k _ (by omega) (fo_inv I h0 k (fun j x hj => hI j x (by omega)))]
      exact h
  refine key n (Nat.le_refl n) ?_
  have e : N - n = (N - n - 1) + 1 := by omega
  rw [e]
  show (F _).bind _ = _
  rw [hx]
  rfl
