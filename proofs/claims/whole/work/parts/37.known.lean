/-! known -/
/-- the first hour in which a layer's wind is another than l's; all hours: none -/
def fuL (B : Bk) (n : Nat) (l o : Int) : Int := lf (fun h => ¬ B.2.2.2.1 (n + 1) (l * 24 + h) = B.2.2.2.1 (n + 1) (o * 24 + h)) (B.1 n 4 - 0).toNat 0
def knT (B : Bk) (n : Nat) (l : Int) : Nat → Int := fo (fun o x => if o = l then x else max x (fuL B n l o + 1)) 0
def knC (B : Bk) (n : Nat) (l k : Int) : Nat → Int := fo (fun o x => x + bI (k ≤ fuL B n l o)) 0
section KN
variable {E : Ev} {B : Bk} {n : Nat}
theorem fuL_b {l o : Int} (h : 0 ≤ B.1 n 4) : 0 ≤ fuL B n l o ∧ fuL B n l o ≤ B.1 n 4 := by
  obtain ⟨g1, g2, -⟩ := lf_spec (fun h => ¬ B.2.2.2.1 (n + 1) (l * 24 + h) = B.2.2.2.1 (n + 1) (o * 24 + h)) (B.1 n 4 - 0).toNat 0
  unfold fuL
  omega
theorem fuL_e {l o h : Int} (h0 : 0 ≤ B.1 n 4) (h1 : 0 ≤ h) (h2 : h < B.1 n 4) (h3 : h ≤ fuL B n l o) : (B.2.2.2.1 (n + 1) (l * 24 + h) = B.2.2.2.1 (n + 1) (o * 24 + h)) ↔ h + 1 ≤ fuL B n l o := by
  obtain ⟨g1, g2, g3, g4⟩ := lf_spec (fun h => ¬ B.2.2.2.1 (n + 1) (l * 24 + h) = B.2.2.2.1 (n + 1) (o * 24 + h)) (B.1 n 4 - 0).toNat 0
  have e : fuL B n l o = lf (fun h => ¬ B.2.2.2.1 (n + 1) (l * 24 + h) = B.2.2.2.1 (n + 1) (o * 24 + h)) (B.1 n 4 - 0).toNat 0 := rfl
  rw [← e] at g1 g2 g3 g4
  constructor
  · intro q
    by_cases c : h = fuL B n l o
    · have := g4 (by omega)
      rw [← c] at this
      exact absurd q this
    · omega
  · intro q
    have := g3 h h1 (by omega)
    exact Classical.not_not.mp this
theorem fuL_s {l : Int} (h0 : 0 ≤ B.1 n 4) : fuL B n l l = B.1 n 4 := lf_no h0 (fun _ _ _ q => q rfl)
theorem knC_b {l k : Int} : ∀ m : Nat, 0 ≤ knC B n l k m ∧ knC B n l k m ≤ m := by
  intro m
  induction m with
  | zero => exact ⟨Int.le_refl 0, Int.le_refl 0⟩
  | succ m ih =>
    have e : knC B n l k (m + 1) = knC B n l k m + bI (k ≤ fuL B n l m) := rfl
    have := bI_le (p := k ≤ fuL B n l m)
    rw [e]
    omega
theorem knC_1 {l k : Int} (h0 : 0 ≤ B.1 n 4) (hk : k ≤ B.1 n 4) : ∀ m : Nat, ∃ c, 0 ≤ c ∧ knC B n l k m = bI (0 ≤ l ∧ l < m) + c ∧ (c = 0 ↔ ∀ o : Int, 0 ≤ o → o < m → o ≠ l → ¬ k ≤ fuL B n l o) := by
  intro m
  induction m with
  | zero => exact ⟨0, Int.le_refl 0, by rw [bI_f (by omega)]; rfl, fun _ o h1 h2 => by omega, fun _ => rfl⟩
  | succ m ih =>
    obtain ⟨c, c1, c2, c3⟩ := ih
    have e : knC B n l k (m + 1) = knC B n l k m + bI (k ≤ fuL B n l m) := rfl
    rw [e, c2]
    by_cases q : (m : Int) = l
    · refine ⟨c, c1, ?_, ?_⟩
      · rw [bI_f (show ¬ (0 ≤ l ∧ l < (m : Int)) by omega), bI_t (show 0 ≤ l ∧ l < ((m + 1 : Nat) : Int) by omega), bI_t (by rw [q, fuL_s h0]; exact hk)]
        omega
      · rw [c3]
        exact ⟨fun w o h1 h2 h3 => w o h1 (by omega) h3, fun w o h1 h2 h3 => w o h1 (by omega) h3⟩
    · by_cases q2 : k ≤ fuL B n l m
      · refine ⟨c + 1, by omega, ?_, ?_⟩
        · rw [bI_t q2, bI_congr (show (0 ≤ l ∧ l < (m : Int)) ↔ (0 ≤ l ∧ l < ((m + 1 : Nat) : Int)) by omega)]
          omega
        · exact ⟨fun w => by omega, fun w => absurd q2 (w m (by omega) (by omega) q)⟩
      · refine ⟨c, c1, ?_, ?_⟩
        · rw [bI_f q2, bI_congr (show (0 ≤ l ∧ l < (m : Int)) ↔ (0 ≤ l ∧ l < ((m + 1 : Nat) : Int)) by omega)]
          omega
        · rw [c3]
          refine ⟨fun w o h1 h2 h3 => ?_, fun w o h1 h2 h3 => w o h1 (by omega) h3⟩
          by_cases q3 : o = m
          · rw [q3]; exact q2
          · exact w o h1 (by omega) h3
theorem knT_le {l : Int} : ∀ (m : Nat) (k : Int), knT B n l m ≤ k ↔ (0 ≤ k ∧ ∀ o : Int, 0 ≤ o → o < m → o ≠ l → fuL B n l o + 1 ≤ k) := by
  intro m
  induction m with
  | zero => exact fun k => ⟨fun h => ⟨h, fun o h1 h2 => by omega⟩, fun h => h.1⟩
  | succ m ih =>
    intro k
    have e : knT B n l (m + 1) = if (m : Int) = l then knT B n l m else max (knT B n l m) (fuL B n l m + 1) := rfl
    rw [e]
    by_cases q : (m : Int) = l
    · rw [if_pos q, ih]
      exact ⟨fun w => ⟨w.1, fun o h1 h2 h3 => w.2 o h1 (by omega) h3⟩, fun w => ⟨w.1, fun o h1 h2 h3 => w.2 o h1 (by omega) h3⟩⟩
    · rw [if_neg q, Int.max_le, ih]
      constructor
      · rintro ⟨⟨a1, a2⟩, a3⟩
        refine ⟨a1, fun o h1 h2 h3 => ?_⟩
        by_cases q3 : o = m
        · rw [q3]; exact a3
        · exact a2 o h1 (by omega) h3
      · rintro ⟨a1, a2⟩
        exact ⟨⟨a1, fun o h1 h2 h3 => a2 o h1 (by omega) h3⟩, a2 m (by omega) (by omega) q⟩
theorem knT_b {l : Int} (h : 0 ≤ B.1 n 4) : ∀ m : Nat, 0 ≤ knT B n l m ∧ knT B n l m ≤ B.1 n 4 + 1 := by
  intro m
  refine ⟨((knT_le m (knT B n l m)).mp (Int.le_refl _)).1, (knT_le m _).mpr ⟨by omega, fun o _ _ _ => by have := (fuL_b (l := l) (o := o) h).2; omega⟩⟩
theorem s8_firstUnlike {l o : Int} (R : RV E B n) (h1 : 0 ≤ l) (h2 : l < B.1 n 3) (h3 : 0 ≤ o) (h4 : o < B.1 n 3) : fX8_firstUnlike (E.1 + co) (iI l) (iI o) (St E B) = some (iI (if fuL B n l o < B.1 n 4 then fuL B n l o else -1), St E B) := by
  obtain ⟨⟨rc, rn, rk, rm⟩, rw1, -, rb⟩ := R
  have hw := rw1
  obtain ⟨w0, w1, w2, w3, w4, -⟩ := hw
  have lp : ∃ r, iter (fX8_firstUnlike_l2 (E.1 + co) (iI l) (iI o)) FU (iI 0, St E B) = some r ∧ (fuL B n l o < B.1 n 4 → r = .inr (iI (fuL B n l o), St E B)) ∧ (¬ fuL B n l o < B.1 n 4 → r = .inl (St E B)) := by
    refine iter_lf (fun j a => a = (iI j, St E B)) (fun h => ¬ B.2.2.2.1 (n + 1) (l * 24 + h) = B.2.2.2.1 (n + 1) (o * 24 + h)) (fun j r => r = Sum.inr (iI j, St E B)) (fun r => r = Sum.inl (St E B)) 0 (B.1 n 4) ?_ ?_ ?_ (by omega) (N := FU) (by have := FU_big (n := B.1 n 4) (by omega); omega) rfl
    · intro j a j1 j2 ha hp
      subst ha
      have b1 := rb.2.2.2.1 l j h1 h2 j1 j2
      have b2 := rb.2.2.2.1 o j h3 h4 j1 j2
      simp (disch := omega) only [fX8_firstUnlike_l2, g8_7 rc rn, g6_4 rk.1, some_bind, iI_le, s_windAt rk h1 (show l < 5 by omega) j1 (show j < 24 by omega), s_windAt rk h3 (show o < 5 by omega) j1 (show j < 24 by omega), iI_eq, iI_add]
      rw [if_neg (by omega), if_pos (Classical.not_not.mp hp)]
      exact ⟨_, rfl, rfl⟩
    · intro j a j1 j2 ha hp
      subst ha
      have b1 := rb.2.2.2.1 l j h1 h2 j1 j2
      have b2 := rb.2.2.2.1 o j h3 h4 j1 j2
      simp (disch := omega) only [fX8_firstUnlike_l2, g8_7 rc rn, g6_4 rk.1, some_bind, iI_le, s_windAt rk h1 (show l < 5 by omega) j1 (show j < 24 by omega), s_windAt rk h3 (show o < 5 by omega) j1 (show j < 24 by omega), iI_eq, iI_add]
      rw [if_neg (by omega), if_neg hp]
      exact ⟨_, rfl, rfl⟩
    · intro a ha
      subst ha
      simp (disch := omega) only [fX8_firstUnlike_l2, g8_7 rc rn, g6_4 rk.1, some_bind, iI_le]
      rw [if_pos (by omega)]
      exact ⟨_, rfl, rfl⟩
  obtain ⟨r, g1, g2, g3⟩ := lp
  simp only [fX8_firstUnlike, c8 rc, some_bind, g1]
  by_cases c : fuL B n l o < B.1 n 4
  · rw [g2 c, if_pos c]
    rfl
  · rw [g3 c, if_neg c]
    rfl
end KN
