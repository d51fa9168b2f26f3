/-! what the class's reading keeps, in a fault too -/
section KP
variable {T : Int → Int} {L : Int}
def Gp (s : Sg T L) : Prop := (s.1.1 = 0 → s.1.2.1 = -1) ∧ -1 ≤ s.1.2.1 ∧ s.1.2.1 ≤ L
theorem gpA {s : Sg T L} (h : Gp s) : Gp (cA s) := h
theorem gpF {f pl : Int} (hf : 0 ≤ f ∧ f ≤ 3) (f0 : f ≠ 0) (p0 : 0 ≤ pl ∧ pl ≤ L) {s : Sg T L} (h : Gp s) : Gp (cF f pl hf s) := by
  refine ⟨fun e => absurd e (cF_k hf f0 s), ?_⟩
  show -1 ≤ (if s.1.1 = 0 then pl else s.1.2.1) ∧ (if s.1.1 = 0 then pl else s.1.2.1) ≤ L
  split
  · omega
  · exact h.2
theorem gpW {w : Nat} {s : Sg T L} (h : Gp s) : Gp (cW w s) := by
  unfold cW
  split
  · exact gpA h
  · exact gpF _ (by omega) s.2.2.1 h
theorem gpG {s : Sg T L} (h : Gp s) : Gp (cG s) := by
  unfold cG
  split
  · exact gpA h
  · exact gpF _ (by omega) s.2.2.1 h
theorem gpN {lo hi : Int} {s : Sg T L} (h : Gp s) : Gp (cN lo hi s) := by
  unfold cN
  split
  · split
    · exact gpA h
    · exact gpF _ (by omega) s.2.2.1 h
  · exact gpF _ (by omega) s.2.2.1 h
theorem gpT {s : Sg T L} (h : Gp s) : Gp (cT s) := by
  unfold cT
  split
  · exact gpF _ (by omega) s.2.2.1 h
  · exact gpA h
theorem gp_ln {m : Nat} {C : Bk} {s : Sg T L} (h : Gp s) : Gp (lnS m C s) := by
  have gc : ∀ (b : Prop) [Decidable b] (s : Sg T L), Gp s → Gp (if b then s else cF 3 s.1.2.2.1 (by omega) s) := fun b _ s h => by
    split
    · exact h
    · exact gpF _ (by omega) s.2.2.1 h
  have gd : ∀ s : Sg T L, Gp s → Gp (do6 m C s) := fun s h => by
    refine gpN (gpW ?_)
    unfold do4
    split
    · exact gpN (gpN (gpW (gpA h)))
    · exact gpF _ (by omega) (do2 _ _).2.2.1 (gpN (gpN (gpW (gpA h))))
  unfold lnS
  split
  · exact gpN (gpW (gpN (gpW (gpN (gpW (gpN (gpW (gpN (gpW (gpW h))))))))))
  · split
    · exact gpN (gpW (gpN (gpW (gpA h))))
    · split
      · exact gpT (gpN (gpW (gpN (gpA (gc _ s h)))))
      · split
        · exact gpN (gpW (gpN (gpW (gpN (gpW (gpN (gpN (gpN (gpW (gpA (gc _ s h)))))))))))
        · split
          · exact gd _ (gc _ s h)
          · split
            · exact gpN (gpW (gpN (gpW (gpN (gpN (gpW (gpA h)))))))
            · split
              · unfold pl3
                split
                · exact gpW (gpN (gpN (gpA h)))
                · exact gpW (gpN (gpN (gpA h)))
              · exact gpF _ (by omega) s.2.2.1 h
theorem gp_lp {m : Nat} : ∀ (n : Nat) (C : Bk) (s : Sg T L), Gp s → Gp (lpC m n (C, s)).2 := by
  intro n
  induction n with
  | zero => intro C s h; exact h
  | succ n ih =>
    intro C s h
    show Gp (if s.1.1 = 0 ∧ ¬ kdT T L s.1.2.2.1 = 0 then lpC m n (wI (lnB m C s) m 0 (C.1 m 0 + 1), cG (lnS m C s)) else (C, s)).2
    split
    · exact ih _ _ (gpG (gp_ln h))
    · exact h
def WBd (m : Nat) (C : Bk) : Prop := ∀ z : Int, 0 ≤ z → z < 120 → -1 ≤ C.2.2.2.1 (m + 1) z ∧ C.2.2.2.1 (m + 1) z ≤ 4
theorem wb_ln {m : Nat} {C : Bk} {s : Sg T L} (h : WBd m C) : WBd m (lnB m C s) := by
  have hi : ∀ {X : Bk} {e j : Nat} {x : Int}, WBd m X → WBd m (wI X e j x) := fun q => q
  have ho : ∀ {X : Bk} {e : Nat} {z x : Int}, e ≠ m + 1 → WBd m X → WBd m (wA X e z x) := fun he q z' z0 z1 => by
    rw [wA_r (fun w => he w.symm)]
    exact q z' z0 z1
  have h1 : ∀ {X : Bk} {z : Int} {u : Sg T L}, WBd m X → WBd m (wA X (m + 1) z (cD u)) := fun q z' z0 z1 => by
    rw [wA_4]
    split
    · exact cD_b _
    · exact q z' z0 z1
  have w1 : ∀ s : Sg T L, WBd m (wiB m C s) := fun s => by
    unfold wiB
    split
    · exact h1 (hi h)
    · exact hi h
  have w2 : ∀ s : Sg T L, WBd m (shB m C s) := fun s => by
    unfold shB
    split
    · exact hi (ho (by omega) (ho (by omega) (ho (by omega) (ho (by omega) (ho (by omega) (ho (by omega) h))))))
    · exact h
  have w3 : ∀ s : Sg T L, WBd m (doB m C s) := fun s => by
    unfold doB
    split
    · exact hi (ho (by omega) (ho (by omega) (ho (by omega) h)))
    · exact h
  unfold lnB
  split
  · exact h
  · split
    · exact h
    · split
      · exact w1 _
      · split
        · exact w2 _
        · split
          · exact w3 _
          · split
            · exact h
            · split
              · unfold pn_B
                split
                · exact ho (by omega) h
                · exact h
              · exact h
theorem wb_lp {m : Nat} : ∀ (n : Nat) (C : Bk) (s : Sg T L), WBd m C → WBd m (lpC m n (C, s)).1 := by
  intro n
  induction n with
  | zero => intro C s h; exact h
  | succ n ih =>
    intro C s h
    show WBd m (if s.1.1 = 0 ∧ ¬ kdT T L s.1.2.2.1 = 0 then lpC m n (wI (lnB m C s) m 0 (C.1 m 0 + 1), cG (lnS m C s)) else (C, s)).1
    split
    · exact ih _ _ (wb_ln h)
    · exact h
/-- no two doors read stand in one column -/
def DDm (m : Nat) (C : Bk) : Prop := ∀ i j : Int, 0 ≤ i → i < j → j < C.1 m 9 → ¬ C.2.2.2.1 (m + 3) (i * 3 + 1) * 8 + C.2.2.2.1 (m + 3) (i * 3 + 0) = C.2.2.2.1 (m + 3) (j * 3 + 1) * 8 + C.2.2.2.1 (m + 3) (j * 3 + 0)
theorem drAt_no {C : Bk} {m : Nat} {c : Int} (h : drAt C m c = -1) : ∀ i : Int, 0 ≤ i → i < C.1 m 9 → ¬ C.2.2.2.1 (m + 3) (i * 3 + 1) * 8 + C.2.2.2.1 (m + 3) (i * 3) = c := by
  obtain ⟨l1, l2, l3, l4⟩ := lf_spec (fun i => C.2.2.2.1 (m + 3) (i * 3 + 1) * 8 + C.2.2.2.1 (m + 3) (i * 3) = c) (C.1 m 9).toNat 0
  unfold drAt at h
  dsimp only at h
  generalize lf (fun i => C.2.2.2.1 (m + 3) (i * 3 + 1) * 8 + C.2.2.2.1 (m + 3) (i * 3) = c) (C.1 m 9).toNat 0 = q at h l1 l2 l3 l4
  intro i i0 i1
  by_cases c1 : q < C.1 m 9
  · rw [if_pos c1] at h
    omega
  · exact l3 i i0 (by omega)
theorem dd_add {m : Nat} {C X : Bk} {x y w : Int} (h : DDm m C) (hn : X.1 m 9 = C.1 m 9 + 1) (hr : ∀ z, X.2.2.2.1 (m + 3) z = if z = C.1 m 9 * 3 + 2 then w else if z = C.1 m 9 * 3 + 1 then y else if z = C.1 m 9 * 3 + 0 then x else C.2.2.2.1 (m + 3) z) (no : ∀ i : Int, 0 ≤ i → i < C.1 m 9 → ¬ C.2.2.2.1 (m + 3) (i * 3 + 1) * 8 + C.2.2.2.1 (m + 3) (i * 3) = y * 8 + x) : DDm m X := by
  intro i j i0 ij j1
  rw [hn] at j1
  have old : ∀ k : Int, k < C.1 m 9 → X.2.2.2.1 (m + 3) (k * 3 + 1) = C.2.2.2.1 (m + 3) (k * 3 + 1) ∧ X.2.2.2.1 (m + 3) (k * 3 + 0) = C.2.2.2.1 (m + 3) (k * 3 + 0) := fun k hk => by
    rw [hr, hr, if_neg (by omega), if_neg (by omega), if_neg (by omega), if_neg (by omega), if_neg (by omega), if_neg (by omega)]
    exact ⟨rfl, rfl⟩
  obtain ⟨a1, a2⟩ := old i (by omega)
  rw [a1, a2]
  by_cases c : j < C.1 m 9
  · obtain ⟨b1, b2⟩ := old j c
    rw [b1, b2]
    exact h i j i0 ij c
  · have e : j = C.1 m 9 := by omega
    have b1 : X.2.2.2.1 (m + 3) (j * 3 + 1) = y := by rw [hr, if_neg (by omega), if_pos (by omega)]
    have b2 : X.2.2.2.1 (m + 3) (j * 3 + 0) = x := by rw [hr, if_neg (by omega), if_neg (by omega), if_pos (by omega)]
    rw [b1, b2]
    have := no i i0 (by omega)
    rw [Int.add_zero]
    exact this
theorem dd_do {m : Nat} {C : Bk} {s : Sg T L} (h : DDm m C) : DDm m (doB m C s) := by
  unfold doB
  by_cases g : (do6 m C s).1.1 = 0
  · rw [if_pos g]
    have g4 : (do4 m C s).1.1 = 0 := (cW_g (cN_g g).1).1
    have dr : drAt C m (cV 0 (C.1 m 2 - 1) (do2 (C.1 m 1) s) * 8 + cV 0 (C.1 m 1 - 1) (do1 s)) = -1 := by
      unfold do4 at g4
      by_cases q : drAt C m (cV 0 (C.1 m 2 - 1) (do2 (C.1 m 1) s) * 8 + cV 0 (C.1 m 1 - 1) (do1 s)) = -1
      · exact q
      · rw [if_neg q] at g4
        exact absurd g4 (cF_k _ (by omega) _)
    have no := drAt_no dr
    generalize cV 0 (C.1 m 2 - 1) (do2 (C.1 m 1) s) = y at no ⊢
    generalize cV 0 (C.1 m 1 - 1) (do1 s) = x at no ⊢
    generalize cV 0 9 (do5 m C s) = w
    refine dd_add (x := x) (y := y) (w := w) h ?_ (fun z => ?_) no
    · rw [wI_1, if_pos ⟨rfl, rfl⟩]
    · rw [wI_2, wA_4, wA_4, wA_4]
      simp only [true_and]
  · rw [if_neg g]
    exact h
theorem dd_ln {m : Nat} {C : Bk} {s : Sg T L} (h : DDm m C) : DDm m (lnB m C s) := by
  have hi : ∀ {X : Bk} {e j : Nat} {x : Int}, j ≠ 9 → DDm m X → DDm m (wI X e j x) := fun hj q i' j' a b c => by
    rw [wI_1, if_neg (fun w => hj w.2.symm)] at c
    exact q i' j' a b c
  have ho : ∀ {X : Bk} {e : Nat} {z x : Int}, e ≠ m + 3 → DDm m X → DDm m (wA X e z x) := fun he q i' j' a b c => by
    rw [wA_r (fun w => he w.symm)]
    exact q i' j' a b c
  have w1 : ∀ s : Sg T L, DDm m (wiB m C s) := fun s => by
    unfold wiB
    split
    · exact ho (by omega) (hi (by omega) h)
    · exact hi (by omega) h
  have w2 : ∀ s : Sg T L, DDm m (shB m C s) := fun s => by
    unfold shB
    split
    · exact hi (by omega) (ho (by omega) (ho (by omega) (ho (by omega) (ho (by omega) (ho (by omega) (ho (by omega) h))))))
    · exact h
  unfold lnB
  split
  · exact hi (by omega) (hi (by omega) (hi (by omega) (hi (by omega) (hi (by omega) (hi (by omega) h)))))
  · split
    · exact hi (by omega) (hi (by omega) h)
    · split
      · exact w1 _
      · split
        · exact w2 _
        · split
          · exact dd_do h
          · split
            · exact hi (by omega) (hi (by omega) (hi (by omega) h))
            · split
              · unfold pn_B
                split
                · exact ho (by omega) h
                · exact h
              · exact h
theorem dd_lp {m : Nat} : ∀ (n : Nat) (C : Bk) (s : Sg T L), DDm m C → DDm m (lpC m n (C, s)).1 := by
  intro n
  induction n with
  | zero => intro C s h; exact h
  | succ n ih =>
    intro C s h
    show DDm m (if s.1.1 = 0 ∧ ¬ kdT T L s.1.2.2.1 = 0 then lpC m n (wI (lnB m C s) m 0 (C.1 m 0 + 1), cG (lnS m C s)) else (C, s)).1
    split
    · refine ih _ _ (fun i' j' a b c => ?_)
      rw [wI_1, if_neg (by omega)] at c
      exact dd_ln h i' j' a b c
    · exact h
end KP
/-- moving what a question needs from one state to another -/
theorem rv_to {E : Ev} {B B2 : Bk} {n : Nat} (hn : 20 ≤ n) (R : RV E B n) (r7 : B2.2.2.1 co 7 = some n) (en : ∀ j, B2.1 n j = B.1 n j) (er : ∀ k z, n < k → k ≤ n + 5 → B2.2.2.2.1 k z = B.2.2.2.1 k z) (e6 : B2.2.2.2.1 (mo + 6) 0 = B.2.2.2.1 (mo + 6) 0) (e7 : ∀ z, 0 ≤ z → z < 15 → B2.2.2.2.1 (mo + 7) z = B.2.2.2.1 (mo + 7) z) (e8 : ∀ z, 0 ≤ z → z < 120 → B2.2.2.2.1 (mo + 8) z = B.2.2.2.1 (mo + 8) z) (e10 : ∀ z, 0 ≤ z → z < 24 → B2.2.2.2.1 (mo + 10) z = B.2.2.2.1 (mo + 10) z) (e11 : ∀ z, 0 ≤ z → z < 15 → B2.2.2.2.1 (mo + 11) z = B.2.2.2.1 (mo + 11) z) (e12 : ∀ z, 0 ≤ z → z < 96 → B2.2.2.2.1 (mo + 12) z = B.2.2.2.1 (mo + 12) z) (e13 : ∀ z, 0 ≤ z → z < 240 → B2.2.2.2.1 (mo + 13) z = B.2.2.2.1 (mo + 13) z) : RV E B2 n := by
  obtain ⟨⟨rc, rn, rk, rm⟩, vw, ⟨v1, v2, v3, v4, v5, v6, v7, v8, v9⟩, vb⟩ := R
  have vw' := vw
  obtain ⟨w0, w1, w2, w3, w4, w5, w6, w7, w8, w9⟩ := vw'
  have r1 : ∀ z, B2.2.2.2.1 (n + 1) z = B.2.2.2.1 (n + 1) z := fun z => er _ z (by omega) (by omega)
  have r2 : ∀ z, B2.2.2.2.1 (n + 2) z = B.2.2.2.1 (n + 2) z := fun z => er _ z (by omega) (by omega)
  have r3 : ∀ z, B2.2.2.2.1 (n + 3) z = B.2.2.2.1 (n + 3) z := fun z => er _ z (by omega) (by omega)
  have r4 : ∀ z, B2.2.2.2.1 (n + 4) z = B.2.2.2.1 (n + 4) z := fun z => er _ z (by omega) (by omega)
  have r5 : ∀ z, B2.2.2.2.1 (n + 5) z = B.2.2.2.1 (n + 5) z := fun z => er _ z (by omega) (by omega)
  have b13 := vb.1
  refine ⟨⟨rc, r7, rk, rm⟩, ?_, ?_, ?_⟩
  · unfold VW at *
    simp only [en]
    exact vw
  · unfold VR
    simp only [en, r1, r2, r3, r4, r5]
    refine ⟨e6.trans v1, fun k hk => ?_, ?_, fun l h a1 a2 a3 a4 => ?_, fun s k a1 a2 a3 a4 => ?_, fun s k a1 a2 a3 a4 => ?_, fun s k a1 a2 a3 a4 => ?_, fun s k a1 a2 a3 a4 => ?_, ?_⟩
    · rw [e7 _ (by omega) (by omega)]
      exact v2 k hk
    · rw [e7 _ (by omega) (by omega)]
      exact v3
    · rw [e8 _ (by omega) (by omega)]
      exact v4 l h a1 a2 a3 a4
    · rw [e10 _ (by omega) (by omega)]
      exact v5 s k a1 a2 a3 a4
    · rw [e11 _ (by omega) (by omega)]
      exact v6 s k a1 a2 a3 a4
    · rw [e12 _ (by omega) (by omega)]
      exact v7 s k a1 a2 a3 a4
    · rw [e13 _ (by omega) (by omega)]
      exact v8 s k a1 a2 a3 a4
    · rw [e7 _ (by omega) (by omega), e7 _ (by omega) (by omega), e7 _ (by omega) (by omega), e7 _ (by omega) (by omega), e7 _ (by omega) (by omega)]
      exact v9
  · unfold VB at *
    simp only [en, r1, r2, r3, r4, r5]
    exact vb
theorem pl_to {B B2 : Bk} {n : Nat} (P : PL B n) (c11 : B2.1 co 11 = B.1 co 11) (r6 : B2.2.2.1 3 6 = B.2.2.1 3 6) (en : ∀ j, B2.1 n j = B.1 n j) (er : ∀ k z, n < k → k ≤ n + 4 → B2.2.2.2.1 k z = B.2.2.2.1 k z) (ev : ∀ k z, 3 < k → k ≤ 16 → B2.2.2.2.1 k z = B.2.2.2.1 k z) (l3 : B2.2.1 3 7 = B.2.1 3 7) (l10 : B2.2.1 10 7 = B.2.1 10 7) : PL B2 n := by
  have vy := vyN_eq en er
  obtain ⟨p1, ⟨i1, i2⟩, i3, i4⟩ := P
  refine ⟨?_, ⟨(ev 9 0 (by omega) (by omega)).trans i1, by rw [l3]; exact i2⟩, (ev 16 0 (by omega) (by omega)).trans i3, by rw [l10]; exact i4⟩
  rcases p1 with q | ⟨q1, q2, q3, q4, q5, q6⟩
  · exact Or.inl (c11.trans q)
  · refine Or.inr ⟨c11.trans q1, by rw [en]; exact q2, r6.trans q3, ?_⟩
    unfold FP
    rw [vy, en]
    refine ⟨fun h' s k a b c d e => ?_, fun h' i a b c d => ?_, fun h' s a b c => ?_⟩
    · rw [ev 4 _ (by omega) (by omega)]
      exact q4 h' s k a b c d e
    · rw [ev 5 _ (by omega) (by omega)]
      exact q5 h' i a b c d
    · rw [ev 6 _ (by omega) (by omega), ev 7 _ (by omega) (by omega), ev 8 _ (by omega) (by omega)]
      exact q6 h' s a b c
