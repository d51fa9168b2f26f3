/-! the reference's scratch: what may change in it unseen; loops told by what holds -/
/-- int fields of the reference that last from call to call -/
def msv (j : Nat) : Prop := j = 6 ∨ j = 14 ∨ j = 15
/-- rows of the reference that do not last -/
def mscr (d : Nat) : Prop := d = mo + 4 ∨ d = mo + 9 ∨ (mo + 15 ≤ d ∧ d ≤ mo + 25)
def sc (B B' : Bk) : Prop :=
  (∀ d j, (d = mo → msv j) → B'.1 d j = B.1 d j) ∧ (∀ d j, d ≠ mo → B'.2.1 d j = B.2.1 d j) ∧ B'.2.2.1 = B.2.2.1 ∧ (∀ d z, ¬ mscr d → B'.2.2.2.1 d z = B.2.2.2.1 d z) ∧ (∀ d z, ¬ mscr d → B'.2.2.2.2 d z = B.2.2.2.2 d z)
theorem sc_rfl {B : Bk} : sc B B := ⟨fun _ _ _ => rfl, fun _ _ _ => rfl, rfl, fun _ _ _ => rfl, fun _ _ _ => rfl⟩
theorem sc_tr {A B C : Bk} (h : sc A B) (g : sc B C) : sc A C :=
  ⟨fun d j q => (g.1 d j q).trans (h.1 d j q), fun d j q => (g.2.1 d j q).trans (h.2.1 d j q), g.2.2.1.trans h.2.2.1, fun d z q => (g.2.2.2.1 d z q).trans (h.2.2.2.1 d z q), fun d z q => (g.2.2.2.2 d z q).trans (h.2.2.2.2 d z q)⟩
theorem sc_I {B : Bk} {j : Nat} {x : Int} (h : ¬ msv j) : sc B (wI B mo j x) := by
  refine ⟨fun d k q => ?_, fun _ _ _ => rfl, rfl, fun _ _ _ => rfl, fun _ _ _ => rfl⟩
  rw [wI_1, if_neg]
  rintro ⟨rfl, rfl⟩
  exact h (q rfl)
theorem sc_L {B : Bk} {j : Nat} {x : Int64} : sc B (wL B mo j x) := by
  refine ⟨fun _ _ _ => rfl, fun d k q => ?_, rfl, fun _ _ _ => rfl, fun _ _ _ => rfl⟩
  rw [wL_2, if_neg (fun w => q w.1)]
theorem sc_A {B : Bk} {d : Nat} {z x : Int} (h : mscr d) : sc B (wA B d z x) := by
  refine ⟨fun _ _ _ => rfl, fun _ _ _ => rfl, rfl, fun e k q => ?_, fun _ _ _ => rfl⟩
  rw [wA_4, if_neg]
  rintro ⟨rfl, rfl⟩
  exact q h
theorem sc_J {B : Bk} {d : Nat} {z : Int} {x : Int64} (h : mscr d) : sc B (wJ B d z x) := by
  refine ⟨fun _ _ _ => rfl, fun _ _ _ => rfl, rfl, fun _ _ _ => rfl, fun e k q => ?_⟩
  rw [wJ_5, if_neg]
  rintro ⟨rfl, rfl⟩
  exact q h
section SC
variable {E : Ev} {B B' : Bk} {n : Nat}
theorem sc_n (h : sc B B') (hn : n < 58) (j : Nat) : B'.1 n j = B.1 n j := h.1 n j (fun q => by have : mo = 58 := rfl; omega)
theorem sc_r (h : sc B B') {k : Nat} (hk : k < 61 ∨ k = mo + 3 ∨ (mo + 5 ≤ k ∧ k ≤ mo + 8) ∨ (mo + 10 ≤ k ∧ k ≤ mo + 14)) (z : Int) : B'.2.2.2.1 k z = B.2.2.2.1 k z := h.2.2.2.1 k z (fun q => by have : mo = 58 := rfl; unfold mscr at q; omega)
theorem sc_rv (h : sc B B') (hn : n < 50) (R : RV E B n) : RV E B' n := by
  have e : ∀ j, B'.1 n j = B.1 n j := sc_n h (by omega)
  have hm : mo = 58 := rfl
  have r1 : ∀ z, B'.2.2.2.1 (n + 1) z = B.2.2.2.1 (n + 1) z := sc_r h (by omega)
  have r2 : ∀ z, B'.2.2.2.1 (n + 2) z = B.2.2.2.1 (n + 2) z := sc_r h (by omega)
  have r3 : ∀ z, B'.2.2.2.1 (n + 3) z = B.2.2.2.1 (n + 3) z := sc_r h (by omega)
  have r4 : ∀ z, B'.2.2.2.1 (n + 4) z = B.2.2.2.1 (n + 4) z := sc_r h (by omega)
  have r5 : ∀ z, B'.2.2.2.1 (n + 5) z = B.2.2.2.1 (n + 5) z := sc_r h (by omega)
  have m6 : ∀ z, B'.2.2.2.1 (mo + 6) z = B.2.2.2.1 (mo + 6) z := sc_r h (by omega)
  have m7 : ∀ z, B'.2.2.2.1 (mo + 7) z = B.2.2.2.1 (mo + 7) z := sc_r h (by omega)
  have m8 : ∀ z, B'.2.2.2.1 (mo + 8) z = B.2.2.2.1 (mo + 8) z := sc_r h (by omega)
  have m10 : ∀ z, B'.2.2.2.1 (mo + 10) z = B.2.2.2.1 (mo + 10) z := sc_r h (by omega)
  have m11 : ∀ z, B'.2.2.2.1 (mo + 11) z = B.2.2.2.1 (mo + 11) z := sc_r h (by omega)
  have m12 : ∀ z, B'.2.2.2.1 (mo + 12) z = B.2.2.2.1 (mo + 12) z := sc_r h (by omega)
  have m13 : ∀ z, B'.2.2.2.1 (mo + 13) z = B.2.2.2.1 (mo + 13) z := sc_r h (by omega)
  unfold RV VW VR VB at *
  simp only [e, r1, r2, r3, r4, r5, m6, m7, m8, m10, m11, m12, m13, h.2.2.1]
  exact R
end SC
/-- a question of which the reference's answer leaves scratch behind -/
def QS (E : Ev) (B : Bk) (f g : Hp → Option (Int32 × Hp)) : Prop := ∃ v B', f (St E B) = some (v, St E B) ∧ g (St E B) = some (v, St E B') ∧ sc B B'
theorem QS_of {E : Ev} {B : Bk} {f g : Hp → Option (Int32 × Hp)} (h : QQ E B f g) : QS E B f g := by
  obtain ⟨v, h1, h2⟩ := h
  exact ⟨v, _, h1, h2, sc_I (by unfold msv; omega)⟩
/-! loops told by what holds -/
theorem iter_acc {σ ρ : Type} {F : σ → Option (σ ⊕ ρ)} (S : Nat → σ → Prop) (n : Nat) (Q : ρ → Prop) (hs : ∀ j a, j < n → S j a → ∃ a', F a = some (.inl a') ∧ S (j + 1) a') (hx : ∀ a, S n a → ∃ r, F a = some (.inr r) ∧ Q r) {N : Nat} (hN : n < N) {a : σ} (h0 : S 0 a) : ∃ r, iter F N a = some r ∧ Q r := by
  have key : ∀ (k j : Nat) (b : σ) (M : Nat), j + k = n → k < M → S j b → ∃ r, iter F M b = some r ∧ Q r := by
    intro k
    induction k with
    | zero =>
      intro j b M hj hM hb
      cases M with
      | zero => omega
      | succ M =>
        have e : j = n := by omega
        subst e
        obtain ⟨r, h1, h2⟩ := hx b hb
        exact ⟨r, by show (F b).bind _ = _; rw [h1]; rfl, h2⟩
    | succ k ih =>
      intro j b M hj hM hb
      cases M with
      | zero => omega
      | succ M =>
        obtain ⟨b', h1, h2⟩ := hs j b (by omega) hb
        obtain ⟨r, h3, h4⟩ := ih (j + 1) b' M (by omega) (by omega) h2
        exact ⟨r, by show (F b).bind _ = _; rw [h1]; exact h3, h4⟩
  exact key n 0 a N (by omega) hN h0
/-- a loop that seeks: it ends at the first place where p holds, or behind the last -/
theorem iter_seek {σ ρ : Type} {F : σ → Option (σ ⊕ ρ)} (S : Int → σ → Prop) (p : Int → Prop) (Q : Int → ρ → Prop) (Q0 : ρ → Prop) (i m : Int) (hs : ∀ j a, i ≤ j → j < m → S j a → ¬ p j → ∃ a', F a = some (.inl a') ∧ S (j + 1) a') (hp : ∀ j a, i ≤ j → j < m → S j a → p j → ∃ r, F a = some (.inr r) ∧ Q j r) (hx : ∀ a, S m a → ∃ r, F a = some (.inr r) ∧ Q0 r) (him : i ≤ m) {N : Nat} (hN : m - i < N) {a : σ} (h0 : S i a) : ∃ r, iter F N a = some r ∧ ((∃ j, i ≤ j ∧ j < m ∧ p j ∧ (∀ k, i ≤ k → k < j → ¬ p k) ∧ Q j r) ∨ ((∀ k, i ≤ k → k < m → ¬ p k) ∧ Q0 r)) := by
  have key : ∀ (k : Nat) (j : Int) (b : σ) (M : Nat), j + k = m → i ≤ j → (k : Int) < M → S j b → (∀ k', i ≤ k' → k' < j → ¬ p k') → ∃ r, iter F M b = some r ∧ ((∃ j, i ≤ j ∧ j < m ∧ p j ∧ (∀ k, i ≤ k → k < j → ¬ p k) ∧ Q j r) ∨ ((∀ k, i ≤ k → k < m → ¬ p k) ∧ Q0 r)) := by
    intro k
    induction k with
    | zero =>
      intro j b M hj hij hM hb hn
      cases M with
      | zero => omega
      | succ M =>
        have e : j = m := by omega
        subst e
        obtain ⟨r, h1, h2⟩ := hx b hb
        exact ⟨r, by show (F b).bind _ = _; rw [h1]; rfl, Or.inr ⟨hn, h2⟩⟩
    | succ k ih =>
      intro j b M hj hij hM hb hn
      cases M with
      | zero => omega
      | succ M =>
        by_cases hpj : p j
        · obtain ⟨r, h1, h2⟩ := hp j b hij (by omega) hb hpj
          exact ⟨r, by show (F b).bind _ = _; rw [h1]; rfl, Or.inl ⟨j, hij, by omega, hpj, hn, h2⟩⟩
        · obtain ⟨b', h1, h2⟩ := hs j b hij (by omega) hb hpj
          obtain ⟨r, h3, h4⟩ := ih (j + 1) b' M (by omega) (by omega) (by omega) h2 (fun k' g1 g2 => by
            by_cases hk : k' = j
            · rw [hk]; exact hpj
            · exact hn k' g1 (by omega))
          exact ⟨r, by show (F b).bind _ = _; rw [h1]; exact h3, h4⟩
  exact key (m - i).toNat i a N (by omega) (Int.le_refl i) (by omega) h0 (fun k g1 g2 => by omega)
