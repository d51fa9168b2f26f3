/-! valleys that agree fly alike -/
def ag (v v' : Int → Int) : Prop := ∀ k, 0 ≤ k → k < 7 → v' k = v k
def VE (V V' : Vy) (H : Int) : Prop := (∀ j, 1 ≤ j → j ≤ 9 → V'.1 j = V.1 j) ∧ (∀ l h : Int, 0 ≤ l → l < V.1 3 → 0 ≤ h → h < V.1 4 → V'.2.1 l h = V.2.1 l h) ∧ (∀ s k : Int, 0 ≤ s → s < V.1 8 → 0 ≤ k → k < 6 → V'.2.2.1 s k = V.2.2.1 s k) ∧ (∀ i k : Int, 0 ≤ i → i < V.1 9 → 0 ≤ k → k < 3 → V'.2.2.2.1 i k = V.2.2.2.1 i k) ∧ (∀ s h : Int, 0 ≤ s → s < V.1 8 → 0 ≤ h → h < H → V'.2.2.2.2.1 s h = V.2.2.2.2.1 s h) ∧ (∀ l h : Int, 0 ≤ l → l < V.1 3 → 0 ≤ h → h < V.1 4 → V'.2.2.2.2.2 l h = V.2.2.2.2.2 l h)
section AG
variable {V V' : Vy} {H : Int} {v v' w w' : Int → Int} {h s : Int}
theorem ag_up {k x : Int} (g : ag v v') : ag (up1 v k x) (up1 v' k x) := fun j j0 j1 => by
  unfold up1
  by_cases q : j = k
  · rw [if_pos q, if_pos q]
  · rw [if_neg q, if_neg q]
    exact g j j0 j1
theorem whyS_ag {ly act : Int} (g : ag v v') : whyS ly act v' = whyS ly act v := by
  unfold whyS
  rw [g 2 (by omega) (by omega), g 3 (by omega) (by omega), g 4 (by omega) (by omega)]
theorem doS_ag {act : Int} (g : ag v v') : ag (doS act v) (doS act v') := by
  unfold doS
  rw [g 2 (by omega) (by omega), g 3 (by omega) (by omega), g 4 (by omega) (by omega)]
  by_cases q1 : act = 1
  · rw [if_pos q1, if_pos q1]
    exact ag_up (ag_up g)
  · rw [if_neg q1, if_neg q1]
    by_cases q2 : act = 2
    · rw [if_pos q2, if_pos q2]
      exact ag_up (ag_up g)
    · rw [if_neg q2, if_neg q2]
      exact g
theorem st1_ag (hV : VOK V) (e : VE V V' H) (g : ag v v') (s0 : 0 ≤ s) (s1 : s < V.1 8) (h0 : 0 ≤ h) (h1 : h < H) : ag (st1 V h s v) (st1 V' h s v') := by
  unfold st1 actS
  rw [e.1 3 (by omega) (by omega), e.2.2.2.2.1 s h s0 s1 h0 h1, whyS_ag g]
  by_cases q : whyS (V.1 3) (V.2.2.2.2.1 s h) v = 0
  · rw [if_pos q, if_pos q]
    exact doS_ag g
  · rw [if_neg q, if_neg q]
    exact g
theorem stC_ag (hV : VOK V) (e : VE V V' H) (g : ag v v') (hi : inS V h v) (s0 : 0 ≤ s) (s1 : s < V.1 8) (h0 : 0 ≤ h) (h1 : h < H) (h2 : h < V.1 4) : stC V' h s v' = stC V h s v := by
  have g1 := st1_ag hV e g s0 s1 h0 h1
  have i2 := (st1_in (s := s) hi).2.2.1
  unfold stC carS
  rw [e.1 1 (by omega) (by omega), e.1 2 (by omega) (by omega), g1 0 (by omega) (by omega), g1 1 (by omega) (by omega), g1 2 (by omega) (by omega), e.2.1 _ h i2.1 i2.2 h0 h2, e.2.2.2.2.2 _ h i2.1 i2.2 h0 h2]
theorem st3_ag (hV : VOK V) (e : VE V V' H) (g : ag v v') (hi : inS V h v) (s0 : 0 ≤ s) (s1 : s < V.1 8) (h0 : 0 ≤ h) (h1 : h < H) (h2 : h < V.1 4) : ag (st3 V h s v) (st3 V' h s v') := by
  have g1 := st1_ag hV e g s0 s1 h0 h1
  have e2 := stC_ag hV e g hi s0 s1 h0 h1 h2
  have g2 : ag (putS (st1 V h s v) (stC V h s v)) (putS (st1 V' h s v') (stC V' h s v')) := by
    unfold putS
    rw [e2]
    exact ag_up (ag_up g1)
  have ec : coolV V' h = coolV V h := by
    unfold coolV
    rw [e.1 5 (by omega) (by omega)]
  unfold st3 colS
  rw [ec, g2 2 (by omega) (by omega)]
  by_cases q : coolV V h = 1 ∧ 0 < putS (st1 V h s v) (stC V h s v) 2
  · rw [if_pos q, if_pos q]
    exact ag_up g2
  · rw [if_neg q, if_neg q]
    exact g2
theorem drV_ag (hV : VOK V) (e : VE V V' H) {c : Int} : drV V' c = drV V c := by
  have b9 := hV.2.2.2.2.2.2.2.2.1
  have e9 := e.1 9 (by omega) (by omega)
  have el : lf (fun i => V'.2.2.2.1 i 1 * 8 + V'.2.2.2.1 i 0 = c) (V'.1 9).toNat 0 = lf (fun i => V.2.2.2.1 i 1 * 8 + V.2.2.2.1 i 0 = c) (V.1 9).toNat 0 := by
    rw [e9]
    refine lf_congr _ _ (fun j j0 j1 => ?_)
    rw [e.2.2.2.1 j 1 j0 (by omega) (by omega) (by omega), e.2.2.2.1 j 0 j0 (by omega) (by omega) (by omega)]
  unfold drV
  rw [el, e9]
theorem stD_ag (hV : VOK V) (e : VE V V' H) (g : ag v v') (gw : ∀ i, 0 ≤ i → i < V.1 9 → w' i = w i) (hi : inS V h v) (s0 : 0 ≤ s) (s1 : s < V.1 8) (h0 : 0 ≤ h) (h1 : h < H) (h2 : h < V.1 4) : stD V' h s v' w' = stD V h s v w := by
  have g3 := st3_ag hV e g hi s0 s1 h0 h1 h2
  have db := drV_b hV (c := st3 V h s v 1 * 8 + st3 V h s v 0)
  unfold stD selD
  rw [g3 0 (by omega) (by omega), g3 1 (by omega) (by omega), g3 2 (by omega) (by omega), g3 5 (by omega) (by omega), drV_ag hV e, e.1 6 (by omega) (by omega)]
  generalize drV V (st3 V h s v 1 * 8 + st3 V h s v 0) = D at db ⊢
  by_cases q : D = -1
  · rw [if_neg (fun z => z.1 q), if_neg (fun z => z.1 q)]
  · rw [gw D (by omega) (by omega)]
theorem st4_ag (hV : VOK V) (e : VE V V' H) (g : ag v v') (gw : ∀ i, 0 ≤ i → i < V.1 9 → w' i = w i) (hi : inS V h v) (s0 : 0 ≤ s) (s1 : s < V.1 8) (h0 : 0 ≤ h) (h1 : h < H) (h2 : h < V.1 4) : ag (st4 V h s v w) (st4 V' h s v' w') := by
  have g3 := st3_ag hV e g hi s0 s1 h0 h1 h2
  unfold st4 selS
  rw [stD_ag hV e g gw hi s0 s1 h0 h1 h2, g3 2 (by omega) (by omega), g3 5 (by omega) (by omega), g3 6 (by omega) (by omega), e.1 7 (by omega) (by omega), e.1 3 (by omega) (by omega)]
  by_cases q : stD V h s v w = -1
  · rw [if_pos q, if_pos q]
    exact g3
  · rw [if_neg q, if_neg q]
    exact ag_up (ag_up (ag_up g3))
def AF (V : Vy) (a a' : Fs) : Prop := (∀ s, 0 ≤ s → s < V.1 8 → ag (a.1 s) (a'.1 s)) ∧ (∀ i, 0 ≤ i → i < V.1 9 → a'.2 i = a.2 i)
theorem fs0_ag (hV : VOK V) (e : VE V V' H) : AF V (fs0 V) (fs0 V') := by
  refine ⟨fun s s0 s1 k k0 k1 => ?_, fun i i0 i1 => e.2.2.2.1 i 2 i0 i1 (by omega) (by omega)⟩
  show (if k = 6 then 0 else V'.2.2.1 s k) = (if k = 6 then 0 else V.2.2.1 s k)
  by_cases q : k = 6
  · rw [if_pos q, if_pos q]
  · rw [if_neg q, if_neg q, e.2.2.1 s k s0 s1 k0 (by omega)]
theorem fsH_ag (hV : VOK V) (e : VE V V' H) {n : Nat} (n1 : (n : Int) < H) (n2 : (n : Int) < V.1 4) (g : AF V (fsF V n) (fsF V' n)) : ∀ j : Nat, (j : Int) ≤ V.1 8 → AF V (fsB V n j) (fsB V' n j) := by
  intro j
  induction j with
  | zero => intro _; exact g
  | succ j ih =>
    intro hj
    obtain ⟨i1, i2⟩ := ih (by omega)
    have hin : inS V n ((fsB V n j).1 j) := by
      rw [fsB_u j (Int.le_refl _)]
      exact fsF_in hV (by omega) (by omega)
    have gj := i1 j (by omega) (by omega)
    refine ⟨fun s s0 s1 => ?_, fun i i0 i1' => ?_⟩
    · show ag (if s = (j : Int) then st4 V n j ((fsB V n j).1 j) (fsB V n j).2 else (fsB V n j).1 s) (if s = (j : Int) then st4 V' n j ((fsB V' n j).1 j) (fsB V' n j).2 else (fsB V' n j).1 s)
      by_cases q : s = (j : Int)
      · rw [if_pos q, if_pos q]
        exact st4_ag hV e gj i2 hin (by omega) (by omega) (by omega) n1 n2
      · rw [if_neg q, if_neg q]
        exact i1 s s0 s1
    · show selW (stD V' n j ((fsB V' n j).1 j) (fsB V' n j).2) (fsB V' n j).2 i = selW (stD V n j ((fsB V n j).1 j) (fsB V n j).2) (fsB V n j).2 i
      have db := stD_b (h := n) (s := j) (v := (fsB V n j).1 j) (w := (fsB V n j).2) hV
      rw [stD_ag hV e gj i2 hin (by omega) (by omega) (by omega) n1 n2]
      unfold selW
      by_cases q : stD V n j ((fsB V n j).1 j) (fsB V n j).2 = -1
      · rw [if_pos q, if_pos q]
        exact i2 i i0 i1'
      · rw [if_neg q, if_neg q, i2 _ (by omega) (by omega)]
        unfold up1
        by_cases q2 : i = stD V n j ((fsB V n j).1 j) (fsB V n j).2
        · rw [if_pos q2, if_pos q2]
        · rw [if_neg q2, if_neg q2]
          exact i2 i i0 i1'
theorem fsF_ag (hV : VOK V) (e : VE V V' H) : ∀ n : Nat, (n : Int) ≤ H → (n : Int) ≤ V.1 4 → AF V (fsF V n) (fsF V' n) := by
  intro n
  induction n with
  | zero => intro _ _; exact fs0_ag hV e
  | succ n ih =>
    intro n1 n2
    have b8 := hV.2.2.2.2.2.2.2.1
    have := fsH_ag hV e (by omega) (by omega) (ih (by omega) (by omega)) (V.1 8).toNat (by omega)
    rw [fsB_n] at this
    have e8 : fsB V' n (V.1 8).toNat = fsF V' (n + 1) := by
      rw [← e.1 8 (by omega) (by omega)]
      exact fsB_n
    rw [e8] at this
    exact this
theorem mnF_ag (hV : VOK V) (e : VE V V' (V.1 4)) : mnF V' (V'.1 8).toNat = mnF V (V.1 8).toNat := by
  have b4 := hV.2.2.2.1
  have b8 := hV.2.2.2.2.2.2.2.1
  have e4 := e.1 4 (by omega) (by omega)
  have f := fsF_ag hV e (V.1 4).toNat (by omega) (by omega)
  rw [e.1 8 (by omega) (by omega)]
  unfold mnF
  rw [e4]
  refine fo_congr _ (fun j x hj => ?_)
  rw [f.1 j (by omega) (by omega) 6 (by omega) (by omega)]
end AG
